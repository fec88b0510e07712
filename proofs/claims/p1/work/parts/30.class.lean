theorem k_X11_isWithin_r0 (a : Int32) (b : Int32) (c : Int32) (c2_1 : (a : Int32) < b) : (0 = (1 : Int32) ∧ (b ≤ a ∧ a ≤ c)) ∨ (0 = (0 : Int32) ∧ ¬ (b ≤ a ∧ a ≤ c)) := by
  first | rfl | (simp only [Int32.lt_iff_toInt_lt, Int32.le_iff_toInt_le, ← Int32.toInt_inj, Int32.zero_add, Int32.add_zero] at *; omega) | (simp only [Int32.lt_iff_toInt_lt, Int32.le_iff_toInt_le, ← Int32.toInt_inj, Int32.zero_add, Int32.add_zero] at *; done) | (simp only [Int32.lt_iff_toInt_lt, Int32.le_iff_toInt_le, ← Int32.toInt_inj, Int32.zero_add, Int32.add_zero] at *; simp at *; omega) | (simp at *; omega) | (simp_all; done)
theorem k_X11_isWithin_r1 (a : Int32) (b : Int32) (c : Int32) (c2_1 : ¬ (a : Int32) < b) (c7_2 : c < (a : Int32)) : (0 = (1 : Int32) ∧ (b ≤ a ∧ a ≤ c)) ∨ (0 = (0 : Int32) ∧ ¬ (b ≤ a ∧ a ≤ c)) := by
  first | rfl | (simp only [Int32.lt_iff_toInt_lt, Int32.le_iff_toInt_le, ← Int32.toInt_inj, Int32.zero_add, Int32.add_zero] at *; omega) | (simp only [Int32.lt_iff_toInt_lt, Int32.le_iff_toInt_le, ← Int32.toInt_inj, Int32.zero_add, Int32.add_zero] at *; done) | (simp only [Int32.lt_iff_toInt_lt, Int32.le_iff_toInt_le, ← Int32.toInt_inj, Int32.zero_add, Int32.add_zero] at *; simp at *; omega) | (simp at *; omega) | (simp_all; done)
theorem k_X11_isWithin_r2 (a : Int32) (b : Int32) (c : Int32) (c2_1 : ¬ (a : Int32) < b) (c7_2 : ¬ c < (a : Int32)) : (1 = (1 : Int32) ∧ (b ≤ a ∧ a ≤ c)) ∨ (1 = (0 : Int32) ∧ ¬ (b ≤ a ∧ a ≤ c)) := by
  first | rfl | (simp only [Int32.lt_iff_toInt_lt, Int32.le_iff_toInt_le, ← Int32.toInt_inj, Int32.zero_add, Int32.add_zero] at *; omega) | (simp only [Int32.lt_iff_toInt_lt, Int32.le_iff_toInt_le, ← Int32.toInt_inj, Int32.zero_add, Int32.add_zero] at *; done) | (simp only [Int32.lt_iff_toInt_lt, Int32.le_iff_toInt_le, ← Int32.toInt_inj, Int32.zero_add, Int32.add_zero] at *; simp at *; omega) | (simp at *; omega) | (simp_all; done)
set_option maxHeartbeats 400000 in
set_option maxRecDepth 100000 in
theorem k_X11_isWithin (l : Launch) (E : qE) (A : Nat → Prop) (T : Nat) (u : qS) (a : Int32) (b : Int32) (c : Int32) : Met l yX11_isWithin (uws yX11_isWithin cX11_isWithin 3 (some .boolean)) (qR 0 0 0) (qPc E A T u [.int a, .int b, .int c]) (qQi E A T (fun r u1 => u1 = u ∧ ((r = 1 ∧ (b ≤ a ∧ a ≤ c)) ∨ (r = 0 ∧ ¬ (b ≤ a ∧ a ≤ c))))) 0 0 A := by
  refine q_met (own := RX11) (f := 0) [.int a, .int b, .int c] (by decide) (Nat.le_of_ble_eq_true rfl) rfl ?_
  intro p0 e0 s0 m0 bl0 me0 cd0 ls hF hr hlocks hU hS hA hl
  have hl : lv_has ls 3 [(0, .int a), (1, .int b), (2, .int c)] := hl
  refine lv_iload_n hF.1 hF.2.1 dX11_isWithin_0 rfl (lv_at hl 0 rfl) ?_
  refine lv_iload_n hF.1 hF.2.1 dX11_isWithin_1 rfl (lv_at hl 1 rfl) ?_
  refine lv_icmp_lt (tgt := 14) hF.1 hF.2.1 dX11_isWithin_2 (by decide) (fun c2_1 => ?_) (fun c2_1 => ?_)
  · refine lv_iconst (v := 0) hF.1 hF.2.1 dX11_isWithin_14 (by decide) ?_
    exact q_iret hF hr (by decide) hlocks hU hS dX11_isWithin_15 (⟨rfl, k_X11_isWithin_r0 a b c c2_1⟩)
  · refine lv_iload_n hF.1 hF.2.1 dX11_isWithin_5 rfl (lv_at hl 0 rfl) ?_
    refine lv_iload_n hF.1 hF.2.1 dX11_isWithin_6 rfl (lv_at hl 2 rfl) ?_
    refine lv_icmp_gt (tgt := 14) hF.1 hF.2.1 dX11_isWithin_7 (by decide) (fun c7_2 => ?_) (fun c7_2 => ?_)
    · refine lv_iconst (v := 0) hF.1 hF.2.1 dX11_isWithin_14 (by decide) ?_
      exact q_iret hF hr (by decide) hlocks hU hS dX11_isWithin_15 (⟨rfl, k_X11_isWithin_r1 a b c c2_1 c7_2⟩)
    · refine lv_iconst (v := 1) hF.1 hF.2.1 dX11_isWithin_10 (by decide) ?_
      refine lv_goto (tgt := 15) hF.1 hF.2.1 dX11_isWithin_11 (by decide) ?_
      exact q_iret hF hr (by decide) hlocks hU hS dX11_isWithin_15 (⟨rfl, k_X11_isWithin_r2 a b c c2_1 c7_2⟩)
theorem k_X11_isDay_r0 (x : Int32) (b5_1 : 0 ≤ x ∧ x ≤ 9999) : (1 = (1 : Int32) ∧ (0 ≤ x ∧ x ≤ 9999)) ∨ (1 = (0 : Int32) ∧ ¬ (0 ≤ x ∧ x ≤ 9999)) := by
  first | rfl | (simp only [Int32.lt_iff_toInt_lt, Int32.le_iff_toInt_le, ← Int32.toInt_inj, Int32.zero_add, Int32.add_zero] at *; omega) | (simp only [Int32.lt_iff_toInt_lt, Int32.le_iff_toInt_le, ← Int32.toInt_inj, Int32.zero_add, Int32.add_zero] at *; done) | (simp only [Int32.lt_iff_toInt_lt, Int32.le_iff_toInt_le, ← Int32.toInt_inj, Int32.zero_add, Int32.add_zero] at *; simp at *; omega) | (simp at *; omega) | (simp_all; done)
theorem k_X11_isDay_r1 (x : Int32) (b5_1 : ¬ (0 ≤ x ∧ x ≤ 9999)) : (0 = (1 : Int32) ∧ (0 ≤ x ∧ x ≤ 9999)) ∨ (0 = (0 : Int32) ∧ ¬ (0 ≤ x ∧ x ≤ 9999)) := by
  first | rfl | (simp only [Int32.lt_iff_toInt_lt, Int32.le_iff_toInt_le, ← Int32.toInt_inj, Int32.zero_add, Int32.add_zero] at *; omega) | (simp only [Int32.lt_iff_toInt_lt, Int32.le_iff_toInt_le, ← Int32.toInt_inj, Int32.zero_add, Int32.add_zero] at *; done) | (simp only [Int32.lt_iff_toInt_lt, Int32.le_iff_toInt_le, ← Int32.toInt_inj, Int32.zero_add, Int32.add_zero] at *; simp at *; omega) | (simp at *; omega) | (simp_all; done)
set_option maxHeartbeats 400000 in
set_option maxRecDepth 100000 in
theorem k_X11_isDay (l : Launch) (E : qE) (A : Nat → Prop) (T : Nat) (u : qS) (x : Int32) : Met l yX11_isDay (uws yX11_isDay cX11_isDay 1 (some .boolean)) (qR 1 0 0) (qPc E A T u [.int x]) (qQi E A T (fun r u1 => u1 = u ∧ ((r = 1 ∧ (0 ≤ x ∧ x ≤ 9999)) ∨ (r = 0 ∧ ¬ (0 ≤ x ∧ x ≤ 9999))))) 0 0 A := by
  refine q_met (own := RX11) (f := 1) [.int x] (by decide) (Nat.le_of_ble_eq_true rfl) rfl ?_
  intro p0 e0 s0 m0 bl0 me0 cd0 ls hF hr hlocks hU hS hA hl
  have hl : lv_has ls 1 [(0, .int x)] := hl
  refine lv_iload_n hF.1 hF.2.1 dX11_isDay_0 rfl (lv_at hl 0 rfl) ?_
  refine lv_iconst (v := 0) hF.1 hF.2.1 dX11_isDay_1 (by decide) ?_
  refine lv_sipush (v := 9999) hF.1 hF.2.1 dX11_isDay_2 (by decide) ?_
  have hM9 := (k_X11_isWithin l E A T u x 0 9999)
  have hR9 := q_runS (l := l) (e := e0) (below := bl0) (meth := me0) (R := qR 1 0 0) (cells := 0) (slots := 0) (st0 := [.int 9999, .int 0, .int x]) (rest := []) hF hU hS hA 3 hM9 w_468 w_469 w_99 w_470 (by decide +kernel) ⟨Nat.le_of_ble_eq_true rfl, Nat.le_of_ble_eq_true rfl⟩ dX11_isDay_5 rfl hl.1 rfl (Nat.le_of_ble_eq_true rfl) ⟨Nat.le_of_ble_eq_true rfl, Nat.le_of_ble_eq_true rfl⟩
  refine q_calli hR9 hU.2.2.2 hS (fun r u1 H locs hw hU hS => ?_)
  obtain ⟨hu1, hw⟩ := hw
  rw [hu1] at hU
  rcases hw with ⟨rfl, b5_1⟩ | ⟨rfl, b5_1⟩
  · exact q_iret hF hr (by decide) hlocks hU hS dX11_isDay_8 (⟨rfl, k_X11_isDay_r0 x b5_1⟩)
  · exact q_iret hF hr (by decide) hlocks hU hS dX11_isDay_8 (⟨rfl, k_X11_isDay_r1 x b5_1⟩)
theorem k_X11_isMinute_r0 (x : Int32) (b5_1 : 0 ≤ x ∧ x ≤ 1439) : (1 = (1 : Int32) ∧ (0 ≤ x ∧ x ≤ 1439)) ∨ (1 = (0 : Int32) ∧ ¬ (0 ≤ x ∧ x ≤ 1439)) := by
  first | rfl | (simp only [Int32.lt_iff_toInt_lt, Int32.le_iff_toInt_le, ← Int32.toInt_inj, Int32.zero_add, Int32.add_zero] at *; omega) | (simp only [Int32.lt_iff_toInt_lt, Int32.le_iff_toInt_le, ← Int32.toInt_inj, Int32.zero_add, Int32.add_zero] at *; done) | (simp only [Int32.lt_iff_toInt_lt, Int32.le_iff_toInt_le, ← Int32.toInt_inj, Int32.zero_add, Int32.add_zero] at *; simp at *; omega) | (simp at *; omega) | (simp_all; done)
theorem k_X11_isMinute_r1 (x : Int32) (b5_1 : ¬ (0 ≤ x ∧ x ≤ 1439)) : (0 = (1 : Int32) ∧ (0 ≤ x ∧ x ≤ 1439)) ∨ (0 = (0 : Int32) ∧ ¬ (0 ≤ x ∧ x ≤ 1439)) := by
  first | rfl | (simp only [Int32.lt_iff_toInt_lt, Int32.le_iff_toInt_le, ← Int32.toInt_inj, Int32.zero_add, Int32.add_zero] at *; omega) | (simp only [Int32.lt_iff_toInt_lt, Int32.le_iff_toInt_le, ← Int32.toInt_inj, Int32.zero_add, Int32.add_zero] at *; done) | (simp only [Int32.lt_iff_toInt_lt, Int32.le_iff_toInt_le, ← Int32.toInt_inj, Int32.zero_add, Int32.add_zero] at *; simp at *; omega) | (simp at *; omega) | (simp_all; done)
set_option maxHeartbeats 400000 in
set_option maxRecDepth 100000 in
theorem k_X11_isMinute (l : Launch) (E : qE) (A : Nat → Prop) (T : Nat) (u : qS) (x : Int32) : Met l yX11_isMinute (uws yX11_isMinute cX11_isMinute 1 (some .boolean)) (qR 1 0 0) (qPc E A T u [.int x]) (qQi E A T (fun r u1 => u1 = u ∧ ((r = 1 ∧ (0 ≤ x ∧ x ≤ 1439)) ∨ (r = 0 ∧ ¬ (0 ≤ x ∧ x ≤ 1439))))) 0 0 A := by
  refine q_met (own := RX11) (f := 1) [.int x] (by decide) (Nat.le_of_ble_eq_true rfl) rfl ?_
  intro p0 e0 s0 m0 bl0 me0 cd0 ls hF hr hlocks hU hS hA hl
  have hl : lv_has ls 1 [(0, .int x)] := hl
  refine lv_iload_n hF.1 hF.2.1 dX11_isMinute_0 rfl (lv_at hl 0 rfl) ?_
  refine lv_iconst (v := 0) hF.1 hF.2.1 dX11_isMinute_1 (by decide) ?_
  refine lv_sipush (v := 1439) hF.1 hF.2.1 dX11_isMinute_2 (by decide) ?_
  have hM9 := (k_X11_isWithin l E A T u x 0 1439)
  have hR9 := q_runS (l := l) (e := e0) (below := bl0) (meth := me0) (R := qR 1 0 0) (cells := 0) (slots := 0) (st0 := [.int 1439, .int 0, .int x]) (rest := []) hF hU hS hA 3 hM9 w_468 w_469 w_99 w_470 (by decide +kernel) ⟨Nat.le_of_ble_eq_true rfl, Nat.le_of_ble_eq_true rfl⟩ dX11_isMinute_5 rfl hl.1 rfl (Nat.le_of_ble_eq_true rfl) ⟨Nat.le_of_ble_eq_true rfl, Nat.le_of_ble_eq_true rfl⟩
  refine q_calli hR9 hU.2.2.2 hS (fun r u1 H locs hw hU hS => ?_)
  obtain ⟨hu1, hw⟩ := hw
  rw [hu1] at hU
  rcases hw with ⟨rfl, b5_1⟩ | ⟨rfl, b5_1⟩
  · exact q_iret hF hr (by decide) hlocks hU hS dX11_isMinute_8 (⟨rfl, k_X11_isMinute_r0 x b5_1⟩)
  · exact q_iret hF hr (by decide) hlocks hU hS dX11_isMinute_8 (⟨rfl, k_X11_isMinute_r1 x b5_1⟩)
theorem k_X11_isChain_r0 (x : Int32) (b3_1 : 0 ≤ x ∧ x ≤ 3) : (1 = (1 : Int32) ∧ (0 ≤ x ∧ x ≤ 3)) ∨ (1 = (0 : Int32) ∧ ¬ (0 ≤ x ∧ x ≤ 3)) := by
  first | rfl | (simp only [Int32.lt_iff_toInt_lt, Int32.le_iff_toInt_le, ← Int32.toInt_inj, Int32.zero_add, Int32.add_zero] at *; omega) | (simp only [Int32.lt_iff_toInt_lt, Int32.le_iff_toInt_le, ← Int32.toInt_inj, Int32.zero_add, Int32.add_zero] at *; done) | (simp only [Int32.lt_iff_toInt_lt, Int32.le_iff_toInt_le, ← Int32.toInt_inj, Int32.zero_add, Int32.add_zero] at *; simp at *; omega) | (simp at *; omega) | (simp_all; done)
theorem k_X11_isChain_r1 (x : Int32) (b3_1 : ¬ (0 ≤ x ∧ x ≤ 3)) : (0 = (1 : Int32) ∧ (0 ≤ x ∧ x ≤ 3)) ∨ (0 = (0 : Int32) ∧ ¬ (0 ≤ x ∧ x ≤ 3)) := by
  first | rfl | (simp only [Int32.lt_iff_toInt_lt, Int32.le_iff_toInt_le, ← Int32.toInt_inj, Int32.zero_add, Int32.add_zero] at *; omega) | (simp only [Int32.lt_iff_toInt_lt, Int32.le_iff_toInt_le, ← Int32.toInt_inj, Int32.zero_add, Int32.add_zero] at *; done) | (simp only [Int32.lt_iff_toInt_lt, Int32.le_iff_toInt_le, ← Int32.toInt_inj, Int32.zero_add, Int32.add_zero] at *; simp at *; omega) | (simp at *; omega) | (simp_all; done)
set_option maxHeartbeats 400000 in
set_option maxRecDepth 100000 in
theorem k_X11_isChain (l : Launch) (E : qE) (A : Nat → Prop) (T : Nat) (u : qS) (x : Int32) : Met l yX11_isChain (uws yX11_isChain cX11_isChain 1 (some .boolean)) (qR 1 0 0) (qPc E A T u [.int x]) (qQi E A T (fun r u1 => u1 = u ∧ ((r = 1 ∧ (0 ≤ x ∧ x ≤ 3)) ∨ (r = 0 ∧ ¬ (0 ≤ x ∧ x ≤ 3))))) 0 0 A := by
  refine q_met (own := RX11) (f := 1) [.int x] (by decide) (Nat.le_of_ble_eq_true rfl) rfl ?_
  intro p0 e0 s0 m0 bl0 me0 cd0 ls hF hr hlocks hU hS hA hl
  have hl : lv_has ls 1 [(0, .int x)] := hl
  refine lv_iload_n hF.1 hF.2.1 dX11_isChain_0 rfl (lv_at hl 0 rfl) ?_
  refine lv_iconst (v := 0) hF.1 hF.2.1 dX11_isChain_1 (by decide) ?_
  refine lv_iconst (v := 3) hF.1 hF.2.1 dX11_isChain_2 (by decide) ?_
  have hM9 := (k_X11_isWithin l E A T u x 0 3)
  have hR9 := q_runS (l := l) (e := e0) (below := bl0) (meth := me0) (R := qR 1 0 0) (cells := 0) (slots := 0) (st0 := [.int 3, .int 0, .int x]) (rest := []) hF hU hS hA 3 hM9 w_468 w_469 w_99 w_470 (by decide +kernel) ⟨Nat.le_of_ble_eq_true rfl, Nat.le_of_ble_eq_true rfl⟩ dX11_isChain_3 rfl hl.1 rfl (Nat.le_of_ble_eq_true rfl) ⟨Nat.le_of_ble_eq_true rfl, Nat.le_of_ble_eq_true rfl⟩
  refine q_calli hR9 hU.2.2.2 hS (fun r u1 H locs hw hU hS => ?_)
  obtain ⟨hu1, hw⟩ := hw
  rw [hu1] at hU
  rcases hw with ⟨rfl, b3_1⟩ | ⟨rfl, b3_1⟩
  · exact q_iret hF hr (by decide) hlocks hU hS dX11_isChain_6 (⟨rfl, k_X11_isChain_r0 x b3_1⟩)
  · exact q_iret hF hr (by decide) hlocks hU hS dX11_isChain_6 (⟨rfl, k_X11_isChain_r1 x b3_1⟩)
theorem k_X11_isPlace_r0 (x : Int32) (y : Int32) (b4_1 : 0 ≤ x ∧ x ≤ 99) (b14_2 : 0 ≤ y ∧ y ≤ 99) : (1 = (1 : Int32) ∧ ((0 ≤ x ∧ x ≤ 99) ∧ (0 ≤ y ∧ y ≤ 99))) ∨ (1 = (0 : Int32) ∧ ¬ ((0 ≤ x ∧ x ≤ 99) ∧ (0 ≤ y ∧ y ≤ 99))) := by
  first | rfl | (simp only [Int32.lt_iff_toInt_lt, Int32.le_iff_toInt_le, ← Int32.toInt_inj, Int32.zero_add, Int32.add_zero] at *; omega) | (simp only [Int32.lt_iff_toInt_lt, Int32.le_iff_toInt_le, ← Int32.toInt_inj, Int32.zero_add, Int32.add_zero] at *; done) | (simp only [Int32.lt_iff_toInt_lt, Int32.le_iff_toInt_le, ← Int32.toInt_inj, Int32.zero_add, Int32.add_zero] at *; simp at *; omega) | (simp at *; omega) | (simp_all; done)
theorem k_X11_isPlace_r1 (x : Int32) (y : Int32) (b4_1 : 0 ≤ x ∧ x ≤ 99) (b14_2 : ¬ (0 ≤ y ∧ y ≤ 99)) : (0 = (1 : Int32) ∧ ((0 ≤ x ∧ x ≤ 99) ∧ (0 ≤ y ∧ y ≤ 99))) ∨ (0 = (0 : Int32) ∧ ¬ ((0 ≤ x ∧ x ≤ 99) ∧ (0 ≤ y ∧ y ≤ 99))) := by
  first | rfl | (simp only [Int32.lt_iff_toInt_lt, Int32.le_iff_toInt_le, ← Int32.toInt_inj, Int32.zero_add, Int32.add_zero] at *; omega) | (simp only [Int32.lt_iff_toInt_lt, Int32.le_iff_toInt_le, ← Int32.toInt_inj, Int32.zero_add, Int32.add_zero] at *; done) | (simp only [Int32.lt_iff_toInt_lt, Int32.le_iff_toInt_le, ← Int32.toInt_inj, Int32.zero_add, Int32.add_zero] at *; simp at *; omega) | (simp at *; omega) | (simp_all; done)
theorem k_X11_isPlace_r2 (x : Int32) (y : Int32) (b4_1 : ¬ (0 ≤ x ∧ x ≤ 99)) : (0 = (1 : Int32) ∧ ((0 ≤ x ∧ x ≤ 99) ∧ (0 ≤ y ∧ y ≤ 99))) ∨ (0 = (0 : Int32) ∧ ¬ ((0 ≤ x ∧ x ≤ 99) ∧ (0 ≤ y ∧ y ≤ 99))) := by
  first | rfl | (simp only [Int32.lt_iff_toInt_lt, Int32.le_iff_toInt_le, ← Int32.toInt_inj, Int32.zero_add, Int32.add_zero] at *; omega) | (simp only [Int32.lt_iff_toInt_lt, Int32.le_iff_toInt_le, ← Int32.toInt_inj, Int32.zero_add, Int32.add_zero] at *; done) | (simp only [Int32.lt_iff_toInt_lt, Int32.le_iff_toInt_le, ← Int32.toInt_inj, Int32.zero_add, Int32.add_zero] at *; simp at *; omega) | (simp at *; omega) | (simp_all; done)
set_option maxHeartbeats 400000 in
set_option maxRecDepth 100000 in
theorem k_X11_isPlace (l : Launch) (E : qE) (A : Nat → Prop) (T : Nat) (u : qS) (x : Int32) (y : Int32) : Met l yX11_isPlace (uws yX11_isPlace cX11_isPlace 2 (some .boolean)) (qR 1 0 0) (qPc E A T u [.int x, .int y]) (qQi E A T (fun r u1 => u1 = u ∧ ((r = 1 ∧ ((0 ≤ x ∧ x ≤ 99) ∧ (0 ≤ y ∧ y ≤ 99))) ∨ (r = 0 ∧ ¬ ((0 ≤ x ∧ x ≤ 99) ∧ (0 ≤ y ∧ y ≤ 99)))))) 0 0 A := by
  refine q_met (own := RX11) (f := 1) [.int x, .int y] (by decide) (Nat.le_of_ble_eq_true rfl) rfl ?_
  intro p0 e0 s0 m0 bl0 me0 cd0 ls hF hr hlocks hU hS hA hl
  have hl : lv_has ls 2 [(0, .int x), (1, .int y)] := hl
  refine lv_iload_n hF.1 hF.2.1 dX11_isPlace_0 rfl (lv_at hl 0 rfl) ?_
  refine lv_iconst (v := 0) hF.1 hF.2.1 dX11_isPlace_1 (by decide) ?_
  refine lv_bipush (v := 99) hF.1 hF.2.1 dX11_isPlace_2 (by decide) ?_
  have hM9 := (k_X11_isWithin l E A T u x 0 99)
  have hR9 := q_runS (l := l) (e := e0) (below := bl0) (meth := me0) (R := qR 1 0 0) (cells := 0) (slots := 0) (st0 := [.int 99, .int 0, .int x]) (rest := []) hF hU hS hA 3 hM9 w_468 w_469 w_99 w_470 (by decide +kernel) ⟨Nat.le_of_ble_eq_true rfl, Nat.le_of_ble_eq_true rfl⟩ dX11_isPlace_4 rfl hl.1 rfl (Nat.le_of_ble_eq_true rfl) ⟨Nat.le_of_ble_eq_true rfl, Nat.le_of_ble_eq_true rfl⟩
  refine q_calli hR9 hU.2.2.2 hS (fun r u1 H locs hw hU hS => ?_)
  obtain ⟨hu1, hw⟩ := hw
  rw [hu1] at hU
  rcases hw with ⟨rfl, b4_1⟩ | ⟨rfl, b4_1⟩
  · refine lv_if_eq (tgt := 24) hF.1 hF.2.1 dX11_isPlace_7 (by decide) (fun h9 => absurd h9 (by decide)) (fun _ => ?_)
    refine lv_iload_n hF.1 hF.2.1 dX11_isPlace_10 rfl (lv_at hl 1 rfl) ?_
    refine lv_iconst (v := 0) hF.1 hF.2.1 dX11_isPlace_11 (by decide) ?_
    refine lv_bipush (v := 99) hF.1 hF.2.1 dX11_isPlace_12 (by decide) ?_
    have hM9 := (k_X11_isWithin l E A T u y 0 99)
    have hR9 := q_runS (l := l) (e := e0) (below := bl0) (meth := me0) (R := qR 1 0 0) (cells := 0) (slots := 0) (st0 := [.int 99, .int 0, .int y]) (rest := []) hF hU hS hA 3 hM9 w_468 w_469 w_99 w_470 (by decide +kernel) ⟨Nat.le_of_ble_eq_true rfl, Nat.le_of_ble_eq_true rfl⟩ dX11_isPlace_14 rfl hl.1 rfl (Nat.le_of_ble_eq_true rfl) ⟨Nat.le_of_ble_eq_true rfl, Nat.le_of_ble_eq_true rfl⟩
    refine q_calli hR9 hU.2.2.2 hS (fun r u1 H locs hw hU hS => ?_)
    obtain ⟨hu1, hw⟩ := hw
    rw [hu1] at hU
    rcases hw with ⟨rfl, b14_2⟩ | ⟨rfl, b14_2⟩
    · refine lv_if_eq (tgt := 24) hF.1 hF.2.1 dX11_isPlace_17 (by decide) (fun h9 => absurd h9 (by decide)) (fun _ => ?_)
      refine lv_iconst (v := 1) hF.1 hF.2.1 dX11_isPlace_20 (by decide) ?_
      refine lv_goto (tgt := 25) hF.1 hF.2.1 dX11_isPlace_21 (by decide) ?_
      exact q_iret hF hr (by decide) hlocks hU hS dX11_isPlace_25 (⟨rfl, k_X11_isPlace_r0 x y b4_1 b14_2⟩)
    · refine lv_if_eq (tgt := 24) hF.1 hF.2.1 dX11_isPlace_17 (by decide) (fun _ => ?_) (fun h9 => absurd (by decide) h9)
      refine lv_iconst (v := 0) hF.1 hF.2.1 dX11_isPlace_24 (by decide) ?_
      exact q_iret hF hr (by decide) hlocks hU hS dX11_isPlace_25 (⟨rfl, k_X11_isPlace_r1 x y b4_1 b14_2⟩)
  · refine lv_if_eq (tgt := 24) hF.1 hF.2.1 dX11_isPlace_7 (by decide) (fun _ => ?_) (fun h9 => absurd (by decide) h9)
    refine lv_iconst (v := 0) hF.1 hF.2.1 dX11_isPlace_24 (by decide) ?_
    exact q_iret hF hr (by decide) hlocks hU hS dX11_isPlace_25 (⟨rfl, k_X11_isPlace_r2 x y b4_1⟩)
theorem k_X11_isSpan_r0 (x : Int32) (y : Int32) (b1_1 : 0 ≤ x ∧ x ≤ 9999) (b8_2 : 0 ≤ y ∧ y ≤ 9999) (c16_3 : y < (x : Int32)) : (0 = (1 : Int32) ∧ ((0 ≤ x ∧ x ≤ 9999) ∧ (0 ≤ y ∧ y ≤ 9999) ∧ x ≤ y)) ∨ (0 = (0 : Int32) ∧ ¬ ((0 ≤ x ∧ x ≤ 9999) ∧ (0 ≤ y ∧ y ≤ 9999) ∧ x ≤ y)) := by
  first | rfl | (simp only [Int32.lt_iff_toInt_lt, Int32.le_iff_toInt_le, ← Int32.toInt_inj, Int32.zero_add, Int32.add_zero] at *; omega) | (simp only [Int32.lt_iff_toInt_lt, Int32.le_iff_toInt_le, ← Int32.toInt_inj, Int32.zero_add, Int32.add_zero] at *; done) | (simp only [Int32.lt_iff_toInt_lt, Int32.le_iff_toInt_le, ← Int32.toInt_inj, Int32.zero_add, Int32.add_zero] at *; simp at *; omega) | (simp at *; omega) | (simp_all; done)
theorem k_X11_isSpan_r1 (x : Int32) (y : Int32) (b1_1 : 0 ≤ x ∧ x ≤ 9999) (b8_2 : 0 ≤ y ∧ y ≤ 9999) (c16_3 : ¬ y < (x : Int32)) : (1 = (1 : Int32) ∧ ((0 ≤ x ∧ x ≤ 9999) ∧ (0 ≤ y ∧ y ≤ 9999) ∧ x ≤ y)) ∨ (1 = (0 : Int32) ∧ ¬ ((0 ≤ x ∧ x ≤ 9999) ∧ (0 ≤ y ∧ y ≤ 9999) ∧ x ≤ y)) := by
  first | rfl | (simp only [Int32.lt_iff_toInt_lt, Int32.le_iff_toInt_le, ← Int32.toInt_inj, Int32.zero_add, Int32.add_zero] at *; omega) | (simp only [Int32.lt_iff_toInt_lt, Int32.le_iff_toInt_le, ← Int32.toInt_inj, Int32.zero_add, Int32.add_zero] at *; done) | (simp only [Int32.lt_iff_toInt_lt, Int32.le_iff_toInt_le, ← Int32.toInt_inj, Int32.zero_add, Int32.add_zero] at *; simp at *; omega) | (simp at *; omega) | (simp_all; done)
theorem k_X11_isSpan_r2 (x : Int32) (y : Int32) (b1_1 : 0 ≤ x ∧ x ≤ 9999) (b8_2 : ¬ (0 ≤ y ∧ y ≤ 9999)) : (0 = (1 : Int32) ∧ ((0 ≤ x ∧ x ≤ 9999) ∧ (0 ≤ y ∧ y ≤ 9999) ∧ x ≤ y)) ∨ (0 = (0 : Int32) ∧ ¬ ((0 ≤ x ∧ x ≤ 9999) ∧ (0 ≤ y ∧ y ≤ 9999) ∧ x ≤ y)) := by
  first | rfl | (simp only [Int32.lt_iff_toInt_lt, Int32.le_iff_toInt_le, ← Int32.toInt_inj, Int32.zero_add, Int32.add_zero] at *; omega) | (simp only [Int32.lt_iff_toInt_lt, Int32.le_iff_toInt_le, ← Int32.toInt_inj, Int32.zero_add, Int32.add_zero] at *; done) | (simp only [Int32.lt_iff_toInt_lt, Int32.le_iff_toInt_le, ← Int32.toInt_inj, Int32.zero_add, Int32.add_zero] at *; simp at *; omega) | (simp at *; omega) | (simp_all; done)
theorem k_X11_isSpan_r3 (x : Int32) (y : Int32) (b1_1 : ¬ (0 ≤ x ∧ x ≤ 9999)) : (0 = (1 : Int32) ∧ ((0 ≤ x ∧ x ≤ 9999) ∧ (0 ≤ y ∧ y ≤ 9999) ∧ x ≤ y)) ∨ (0 = (0 : Int32) ∧ ¬ ((0 ≤ x ∧ x ≤ 9999) ∧ (0 ≤ y ∧ y ≤ 9999) ∧ x ≤ y)) := by
  first | rfl | (simp only [Int32.lt_iff_toInt_lt, Int32.le_iff_toInt_le, ← Int32.toInt_inj, Int32.zero_add, Int32.add_zero] at *; omega) | (simp only [Int32.lt_iff_toInt_lt, Int32.le_iff_toInt_le, ← Int32.toInt_inj, Int32.zero_add, Int32.add_zero] at *; done) | (simp only [Int32.lt_iff_toInt_lt, Int32.le_iff_toInt_le, ← Int32.toInt_inj, Int32.zero_add, Int32.add_zero] at *; simp at *; omega) | (simp at *; omega) | (simp_all; done)
set_option maxHeartbeats 400000 in
set_option maxRecDepth 100000 in
theorem k_X11_isSpan (l : Launch) (E : qE) (A : Nat → Prop) (T : Nat) (u : qS) (x : Int32) (y : Int32) : Met l yX11_isSpan (uws yX11_isSpan cX11_isSpan 2 (some .boolean)) (qR 2 0 0) (qPc E A T u [.int x, .int y]) (qQi E A T (fun r u1 => u1 = u ∧ ((r = 1 ∧ ((0 ≤ x ∧ x ≤ 9999) ∧ (0 ≤ y ∧ y ≤ 9999) ∧ x ≤ y)) ∨ (r = 0 ∧ ¬ ((0 ≤ x ∧ x ≤ 9999) ∧ (0 ≤ y ∧ y ≤ 9999) ∧ x ≤ y))))) 0 0 A := by
  refine q_met (own := RX11) (f := 2) [.int x, .int y] (by decide) (Nat.le_of_ble_eq_true rfl) rfl ?_
  intro p0 e0 s0 m0 bl0 me0 cd0 ls hF hr hlocks hU hS hA hl
  have hl : lv_has ls 2 [(0, .int x), (1, .int y)] := hl
  refine lv_iload_n hF.1 hF.2.1 dX11_isSpan_0 rfl (lv_at hl 0 rfl) ?_
  have hM9 := (k_X11_isDay l E A T u x)
  have hR9 := q_runS (l := l) (e := e0) (below := bl0) (meth := me0) (R := qR 2 0 0) (cells := 0) (slots := 0) (st0 := [.int x]) (rest := []) hF hU hS hA 1 hM9 w_699 w_700 w_99 w_701 (by decide +kernel) ⟨Nat.le_of_ble_eq_true rfl, Nat.le_of_ble_eq_true rfl⟩ dX11_isSpan_1 rfl hl.1 rfl (Nat.le_of_ble_eq_true rfl) ⟨Nat.le_of_ble_eq_true rfl, Nat.le_of_ble_eq_true rfl⟩
  refine q_calli hR9 hU.2.2.2 hS (fun r u1 H locs hw hU hS => ?_)
  obtain ⟨hu1, hw⟩ := hw
  rw [hu1] at hU
  rcases hw with ⟨rfl, b1_1⟩ | ⟨rfl, b1_1⟩
  · refine lv_if_eq (tgt := 23) hF.1 hF.2.1 dX11_isSpan_4 (by decide) (fun h9 => absurd h9 (by decide)) (fun _ => ?_)
    refine lv_iload_n hF.1 hF.2.1 dX11_isSpan_7 rfl (lv_at hl 1 rfl) ?_
    have hM9 := (k_X11_isDay l E A T u y)
    have hR9 := q_runS (l := l) (e := e0) (below := bl0) (meth := me0) (R := qR 2 0 0) (cells := 0) (slots := 0) (st0 := [.int y]) (rest := []) hF hU hS hA 1 hM9 w_699 w_700 w_99 w_701 (by decide +kernel) ⟨Nat.le_of_ble_eq_true rfl, Nat.le_of_ble_eq_true rfl⟩ dX11_isSpan_8 rfl hl.1 rfl (Nat.le_of_ble_eq_true rfl) ⟨Nat.le_of_ble_eq_true rfl, Nat.le_of_ble_eq_true rfl⟩
    refine q_calli hR9 hU.2.2.2 hS (fun r u1 H locs hw hU hS => ?_)
    obtain ⟨hu1, hw⟩ := hw
    rw [hu1] at hU
    rcases hw with ⟨rfl, b8_2⟩ | ⟨rfl, b8_2⟩
    · refine lv_if_eq (tgt := 23) hF.1 hF.2.1 dX11_isSpan_11 (by decide) (fun h9 => absurd h9 (by decide)) (fun _ => ?_)
      refine lv_iload_n hF.1 hF.2.1 dX11_isSpan_14 rfl (lv_at hl 0 rfl) ?_
      refine lv_iload_n hF.1 hF.2.1 dX11_isSpan_15 rfl (lv_at hl 1 rfl) ?_
      refine lv_icmp_gt (tgt := 23) hF.1 hF.2.1 dX11_isSpan_16 (by decide) (fun c16_3 => ?_) (fun c16_3 => ?_)
      · refine lv_iconst (v := 0) hF.1 hF.2.1 dX11_isSpan_23 (by decide) ?_
        exact q_iret hF hr (by decide) hlocks hU hS dX11_isSpan_24 (⟨rfl, k_X11_isSpan_r0 x y b1_1 b8_2 c16_3⟩)
      · refine lv_iconst (v := 1) hF.1 hF.2.1 dX11_isSpan_19 (by decide) ?_
        refine lv_goto (tgt := 24) hF.1 hF.2.1 dX11_isSpan_20 (by decide) ?_
        exact q_iret hF hr (by decide) hlocks hU hS dX11_isSpan_24 (⟨rfl, k_X11_isSpan_r1 x y b1_1 b8_2 c16_3⟩)
    · refine lv_if_eq (tgt := 23) hF.1 hF.2.1 dX11_isSpan_11 (by decide) (fun _ => ?_) (fun h9 => absurd (by decide) h9)
      refine lv_iconst (v := 0) hF.1 hF.2.1 dX11_isSpan_23 (by decide) ?_
      exact q_iret hF hr (by decide) hlocks hU hS dX11_isSpan_24 (⟨rfl, k_X11_isSpan_r2 x y b1_1 b8_2⟩)
  · refine lv_if_eq (tgt := 23) hF.1 hF.2.1 dX11_isSpan_4 (by decide) (fun _ => ?_) (fun h9 => absurd (by decide) h9)
    refine lv_iconst (v := 0) hF.1 hF.2.1 dX11_isSpan_23 (by decide) ?_
    exact q_iret hF hr (by decide) hlocks hU hS dX11_isSpan_24 (⟨rfl, k_X11_isSpan_r3 x y b1_1⟩)
theorem k_X0_hasShop_r0 (x : Int32) : (0 : Int32) = 0 := by
  first | rfl | (simp only [Int32.lt_iff_toInt_lt, Int32.le_iff_toInt_le, ← Int32.toInt_inj, Int32.zero_add, Int32.add_zero] at *; omega) | (simp only [Int32.lt_iff_toInt_lt, Int32.le_iff_toInt_le, ← Int32.toInt_inj, Int32.zero_add, Int32.add_zero] at *; done) | (simp only [Int32.lt_iff_toInt_lt, Int32.le_iff_toInt_le, ← Int32.toInt_inj, Int32.zero_add, Int32.add_zero] at *; simp at *; omega) | (simp at *; omega) | (simp_all; done)
set_option maxHeartbeats 400000 in
set_option maxRecDepth 100000 in
theorem k_X0_hasShop (l : Launch) (E : qE) (A : Nat → Prop) (u : qS) (x : Int32) (h_shopCount : u.1 8 = 0) : Met l yX0_hasShop (uws yX0_hasShop cX0_hasShop 2 (some .boolean)) (qR 1 0 0) (qPc E A 0 u [.ref (E.2.2 99), .int x]) (qQi E A 0 (fun r u1 => u1 = u ∧ r = 0)) 0 0 A := by
  refine q_met (own := RX0) (f := 1) [.ref (E.2.2 99), .int x] (by decide) (Nat.le_of_ble_eq_true rfl) rfl ?_
  intro p0 e0 s0 m0 bl0 me0 cd0 ls hF hr hlocks hU hS hA hl
  have hl : lv_has ls 2 [(0, .ref (E.2.2 99)), (1, .int x)] := hl
  refine lv_iload_n hF.1 hF.2.1 dX0_hasShop_0 rfl (lv_at hl 1 rfl) ?_
  refine lv_iconst (v := 0) hF.1 hF.2.1 dX0_hasShop_1 (by decide) ?_
  refine lv_aload_n hF.1 hF.2.1 dX0_hasShop_2 rfl (lv_at hl 0 rfl) ?_
  refine q_get (v := .int 0) hF hU dX0_hasShop_3 1 0 8 8 99 rfl rfl rfl rfl inX0 (by decide) (by decide) w_161 rfl (congrArg Value.int h_shopCount) ?_
  refine lv_iconst (v := 1) hF.1 hF.2.1 dX0_hasShop_6 (by decide) ?_
  refine lv_isub hF.1 hF.2.1 dX0_hasShop_7 ?_
  refine q_topi (y := (-1)) (by decide) ?_
  have hM9 := (k_X11_isWithin l E A 0 u x 0 (-1))
  have hR9 := q_runSN (l := l) (e := e0) (below := bl0) (meth := me0) (R := qR 1 0 0) (cells := 0) (slots := 0) (st0 := [.int (-1), .int 0, .int x]) (rest := []) (host := "SecretBuyers") hF hU hS hA 3 hM9 hU.2.2.2.n567 w_469 w_99 w_470 (by decide +kernel) ⟨Nat.le_of_ble_eq_true rfl, Nat.le_of_ble_eq_true rfl⟩ dX0_hasShop_8 rfl hl.1 rfl (Nat.le_of_ble_eq_true rfl) ⟨Nat.le_of_ble_eq_true rfl, Nat.le_of_ble_eq_true rfl⟩
  refine q_calli hR9 hU.2.2.2 hS (fun r u1 H locs hw hU hS => ?_)
  obtain ⟨hu1, hw⟩ := hw
  rw [hu1] at hU
  obtain rfl : r = 0 := hw.elim (fun h => absurd h.2 (q_nw _)) (fun h => h.1)
  exact q_iret hF hr (by decide) hlocks hU hS dX0_hasShop_11 (⟨rfl, k_X0_hasShop_r0 x⟩)
theorem k_X0_hasBuyer_r0 (x : Int32) : (0 : Int32) = 0 := by
  first | rfl | (simp only [Int32.lt_iff_toInt_lt, Int32.le_iff_toInt_le, ← Int32.toInt_inj, Int32.zero_add, Int32.add_zero] at *; omega) | (simp only [Int32.lt_iff_toInt_lt, Int32.le_iff_toInt_le, ← Int32.toInt_inj, Int32.zero_add, Int32.add_zero] at *; done) | (simp only [Int32.lt_iff_toInt_lt, Int32.le_iff_toInt_le, ← Int32.toInt_inj, Int32.zero_add, Int32.add_zero] at *; simp at *; omega) | (simp at *; omega) | (simp_all; done)
set_option maxHeartbeats 400000 in
set_option maxRecDepth 100000 in
theorem k_X0_hasBuyer (l : Launch) (E : qE) (A : Nat → Prop) (u : qS) (x : Int32) (h_buyerCount : u.1 9 = 0) : Met l yX0_hasBuyer (uws yX0_hasBuyer cX0_hasBuyer 2 (some .boolean)) (qR 1 0 0) (qPc E A 0 u [.ref (E.2.2 99), .int x]) (qQi E A 0 (fun r u1 => u1 = u ∧ r = 0)) 0 0 A := by
  refine q_met (own := RX0) (f := 1) [.ref (E.2.2 99), .int x] (by decide) (Nat.le_of_ble_eq_true rfl) rfl ?_
  intro p0 e0 s0 m0 bl0 me0 cd0 ls hF hr hlocks hU hS hA hl
  have hl : lv_has ls 2 [(0, .ref (E.2.2 99)), (1, .int x)] := hl
  refine lv_iload_n hF.1 hF.2.1 dX0_hasBuyer_0 rfl (lv_at hl 1 rfl) ?_
  refine lv_iconst (v := 0) hF.1 hF.2.1 dX0_hasBuyer_1 (by decide) ?_
  refine lv_aload_n hF.1 hF.2.1 dX0_hasBuyer_2 rfl (lv_at hl 0 rfl) ?_
  refine q_get (v := .int 0) hF hU dX0_hasBuyer_3 1 0 9 9 99 rfl rfl rfl rfl inX0 (by decide) (by decide) w_166 rfl (congrArg Value.int h_buyerCount) ?_
  refine lv_iconst (v := 1) hF.1 hF.2.1 dX0_hasBuyer_6 (by decide) ?_
  refine lv_isub hF.1 hF.2.1 dX0_hasBuyer_7 ?_
  refine q_topi (y := (-1)) (by decide) ?_
  have hM9 := (k_X11_isWithin l E A 0 u x 0 (-1))
  have hR9 := q_runSN (l := l) (e := e0) (below := bl0) (meth := me0) (R := qR 1 0 0) (cells := 0) (slots := 0) (st0 := [.int (-1), .int 0, .int x]) (rest := []) (host := "SecretBuyers") hF hU hS hA 3 hM9 hU.2.2.2.n567 w_469 w_99 w_470 (by decide +kernel) ⟨Nat.le_of_ble_eq_true rfl, Nat.le_of_ble_eq_true rfl⟩ dX0_hasBuyer_8 rfl hl.1 rfl (Nat.le_of_ble_eq_true rfl) ⟨Nat.le_of_ble_eq_true rfl, Nat.le_of_ble_eq_true rfl⟩
  refine q_calli hR9 hU.2.2.2 hS (fun r u1 H locs hw hU hS => ?_)
  obtain ⟨hu1, hw⟩ := hw
  rw [hu1] at hU
  obtain rfl : r = 0 := hw.elim (fun h => absurd h.2 (q_nw _)) (fun h => h.1)
  exact q_iret hF hr (by decide) hlocks hU hS dX0_hasBuyer_11 (⟨rfl, k_X0_hasBuyer_r0 x⟩)
theorem k_X0_seenDay_r0  : (0 : Int32) = 0 := by
  first | rfl | (simp only [Int32.lt_iff_toInt_lt, Int32.le_iff_toInt_le, ← Int32.toInt_inj, Int32.zero_add, Int32.add_zero] at *; omega) | (simp only [Int32.lt_iff_toInt_lt, Int32.le_iff_toInt_le, ← Int32.toInt_inj, Int32.zero_add, Int32.add_zero] at *; done) | (simp only [Int32.lt_iff_toInt_lt, Int32.le_iff_toInt_le, ← Int32.toInt_inj, Int32.zero_add, Int32.add_zero] at *; simp at *; omega) | (simp at *; omega) | (simp_all; done)
set_option maxHeartbeats 400000 in
set_option maxRecDepth 100000 in
theorem k_X0_seenDay (l : Launch) (E : qE) (A : Nat → Prop) (u : qS) (h_fixedView : u.1 14 = (-1)) (h_now : u.1 13 = 0) : Met l yX0_seenDay (uws yX0_seenDay cX0_seenDay 1 (some .int)) (qR 0 0 0) (qPc E A 0 u [.ref (E.2.2 99)]) (qQi E A 0 (fun r u1 => u1 = u ∧ r = 0)) 0 0 A := by
  refine q_met (own := RX0) (f := 0) [.ref (E.2.2 99)] (by decide) (Nat.le_of_ble_eq_true rfl) rfl ?_
  intro p0 e0 s0 m0 bl0 me0 cd0 ls hF hr hlocks hU hS hA hl
  have hl : lv_has ls 1 [(0, .ref (E.2.2 99))] := hl
  refine lv_aload_n hF.1 hF.2.1 dX0_seenDay_0 rfl (lv_at hl 0 rfl) ?_
  refine q_get (v := .int (-1)) hF hU dX0_seenDay_1 1 0 14 14 99 rfl rfl rfl rfl inX0 (by decide) (by decide) w_180 rfl (congrArg Value.int h_fixedView) ?_
  refine lv_iconst (v := (-1)) hF.1 hF.2.1 dX0_seenDay_4 (by decide) ?_
  refine lv_icmp_ne (tgt := 15) hF.1 hF.2.1 dX0_seenDay_5 (by decide) (fun h9 => absurd (by decide) h9) (fun _ => ?_)
  refine lv_aload_n hF.1 hF.2.1 dX0_seenDay_8 rfl (lv_at hl 0 rfl) ?_
  refine q_get (v := .int 0) hF hU dX0_seenDay_9 1 0 13 13 99 rfl rfl rfl rfl inX0 (by decide) (by decide) w_179 rfl (congrArg Value.int h_now) ?_
  refine lv_goto (tgt := 19) hF.1 hF.2.1 dX0_seenDay_12 (by decide) ?_
  exact q_iret hF hr rfl hlocks hU hS dX0_seenDay_19 (⟨rfl, k_X0_seenDay_r0⟩)
theorem k_X0_isKnown_r0 (x : Int32) : (0 : Int32) = 0 := by
  first | rfl | (simp only [Int32.lt_iff_toInt_lt, Int32.le_iff_toInt_le, ← Int32.toInt_inj, Int32.zero_add, Int32.add_zero] at *; omega) | (simp only [Int32.lt_iff_toInt_lt, Int32.le_iff_toInt_le, ← Int32.toInt_inj, Int32.zero_add, Int32.add_zero] at *; done) | (simp only [Int32.lt_iff_toInt_lt, Int32.le_iff_toInt_le, ← Int32.toInt_inj, Int32.zero_add, Int32.add_zero] at *; simp at *; omega) | (simp at *; omega) | (simp_all; done)
set_option maxHeartbeats 400000 in
set_option maxRecDepth 100000 in
theorem k_X0_isKnown (l : Launch) (E : qE) (A : Nat → Prop) (u : qS) (x : Int32) (h_visitCount : u.1 10 = 0) : Met l yX0_isKnown (uws yX0_isKnown cX0_isKnown 2 (some .boolean)) (qR 1 0 0) (qPc E A 0 u [.ref (E.2.2 99), .int x]) (qQi E A 0 (fun r u1 => u1 = u ∧ r = 0)) 0 0 A := by
  refine q_met (own := RX0) (f := 1) [.ref (E.2.2 99), .int x] (by decide) (Nat.le_of_ble_eq_true rfl) rfl ?_
  intro p0 e0 s0 m0 bl0 me0 cd0 ls hF hr hlocks hU hS hA hl
  have hl : lv_has ls 2 [(0, .ref (E.2.2 99)), (1, .int x)] := hl
  refine lv_iload_n hF.1 hF.2.1 dX0_isKnown_0 rfl (lv_at hl 1 rfl) ?_
  refine lv_iconst (v := 0) hF.1 hF.2.1 dX0_isKnown_1 (by decide) ?_
  refine lv_aload_n hF.1 hF.2.1 dX0_isKnown_2 rfl (lv_at hl 0 rfl) ?_
  refine q_get (v := .int 0) hF hU dX0_isKnown_3 1 0 10 10 99 rfl rfl rfl rfl inX0 (by decide) (by decide) w_171 rfl (congrArg Value.int h_visitCount) ?_
  refine lv_iconst (v := 1) hF.1 hF.2.1 dX0_isKnown_6 (by decide) ?_
  refine lv_isub hF.1 hF.2.1 dX0_isKnown_7 ?_
  refine q_topi (y := (-1)) (by decide) ?_
  have hM9 := (k_X11_isWithin l E A 0 u x 0 (-1))
  have hR9 := q_runSN (l := l) (e := e0) (below := bl0) (meth := me0) (R := qR 1 0 0) (cells := 0) (slots := 0) (st0 := [.int (-1), .int 0, .int x]) (rest := []) (host := "SecretBuyers") hF hU hS hA 3 hM9 hU.2.2.2.n567 w_469 w_99 w_470 (by decide +kernel) ⟨Nat.le_of_ble_eq_true rfl, Nat.le_of_ble_eq_true rfl⟩ dX0_isKnown_8 rfl hl.1 rfl (Nat.le_of_ble_eq_true rfl) ⟨Nat.le_of_ble_eq_true rfl, Nat.le_of_ble_eq_true rfl⟩
  refine q_calli hR9 hU.2.2.2 hS (fun r u1 H locs hw hU hS => ?_)
  obtain ⟨hu1, hw⟩ := hw
  rw [hu1] at hU
  obtain rfl : r = 0 := hw.elim (fun h => absurd h.2 (q_nw _)) (fun h => h.1)
  refine lv_if_eq (tgt := 31) hF.1 hF.2.1 dX0_isKnown_11 (by decide) (fun _ => ?_) (fun h9 => absurd (by decide) h9)
  refine lv_iconst (v := 0) hF.1 hF.2.1 dX0_isKnown_31 (by decide) ?_
  exact q_iret hF hr (by decide) hlocks hU hS dX0_isKnown_32 (⟨rfl, k_X0_isKnown_r0 x⟩)
theorem k_X0_knownVisits_r0  : (0 : Int32) = 0 := by
  first | rfl | (simp only [Int32.lt_iff_toInt_lt, Int32.le_iff_toInt_le, ← Int32.toInt_inj, Int32.zero_add, Int32.add_zero] at *; omega) | (simp only [Int32.lt_iff_toInt_lt, Int32.le_iff_toInt_le, ← Int32.toInt_inj, Int32.zero_add, Int32.add_zero] at *; done) | (simp only [Int32.lt_iff_toInt_lt, Int32.le_iff_toInt_le, ← Int32.toInt_inj, Int32.zero_add, Int32.add_zero] at *; simp at *; omega) | (simp at *; omega) | (simp_all; done)
set_option maxHeartbeats 400000 in
set_option maxRecDepth 100000 in
theorem k_X0_knownVisits (l : Launch) (E : qE) (A : Nat → Prop) (u : qS) (h_visitCount : u.1 10 = 0) : Met l yX0_knownVisits (uws yX0_knownVisits cX0_knownVisits 2 (some .int)) (qR 1 0 0) (qPc E A 0 u [.ref (E.2.2 99)]) (qQi E A 0 (fun r u1 => u1 = u ∧ r = 0)) 0 0 A := by
  refine q_met (own := RX0) (f := 1) [.ref (E.2.2 99)] (by decide) (Nat.le_of_ble_eq_true rfl) rfl ?_
  intro p0 e0 s0 m0 bl0 me0 cd0 ls hF hr hlocks hU hS hA hl
  have hl : lv_has ls 2 [(0, .ref (E.2.2 99))] := hl
  refine lv_aload_n hF.1 hF.2.1 dX0_knownVisits_0 rfl (lv_at hl 0 rfl) ?_
  refine q_get (v := .int 0) hF hU dX0_knownVisits_1 1 0 10 10 99 rfl rfl rfl rfl inX0 (by decide) (by decide) w_171 rfl (congrArg Value.int h_visitCount) ?_
  refine lv_istore_n (lv' := [(1, .int 0), (0, .ref (E.2.2 99))]) hF.1 hF.2.1 dX0_knownVisits_4 rfl hl (by decide) rfl (fun ls hl => ?_)
  refine lv_iload_n hF.1 hF.2.1 dX0_knownVisits_5 rfl (lv_at hl 0 rfl) ?_
  refine lv_if_le (tgt := 30) hF.1 hF.2.1 dX0_knownVisits_6 (by decide) (fun _ => ?_) (fun h9 => absurd (by decide) h9)
  refine lv_iload_n hF.1 hF.2.1 dX0_knownVisits_30 rfl (lv_at hl 0 rfl) ?_
  exact q_iret hF hr rfl hlocks hU hS dX0_knownVisits_31 (⟨rfl, k_X0_knownVisits_r0⟩)
set_option maxHeartbeats 400000 in
set_option maxRecDepth 100000 in
theorem k_X0_lookFrom (l : Launch) (E : qE) (A : Nat → Prop) (u : qS) (x : Int32) (h_now : u.1 13 = 0) (h_visitCount : u.1 10 = 0) (h_appealCount : u.1 11 = 0) : Met l yX0_lookFrom (uws yX0_lookFrom cX0_lookFrom 3 none) (qR 1 0 0) (qPc E A 0 u [.ref (E.2.2 99), .int x]) (qQv E A 0 (fun u1 => True)) 0 0 A := by
  refine q_met (own := RX0) (f := 1) [.ref (E.2.2 99), .int x] (by decide) (Nat.le_of_ble_eq_true rfl) rfl ?_
  intro p0 e0 s0 m0 bl0 me0 cd0 ls hF hr hlocks hU hS hA hl
  have hl : lv_has ls 3 [(0, .ref (E.2.2 99)), (1, .int x)] := hl
  refine lv_aload_n hF.1 hF.2.1 dX0_lookFrom_0 rfl (lv_at hl 0 rfl) ?_
  refine lv_iload_n hF.1 hF.2.1 dX0_lookFrom_1 rfl (lv_at hl 1 rfl) ?_
  refine lv_aload_n hF.1 hF.2.1 dX0_lookFrom_2 rfl (lv_at hl 0 rfl) ?_
  refine q_get (v := .int 0) hF hU dX0_lookFrom_3 1 0 13 13 99 rfl rfl rfl rfl inX0 (by decide) (by decide) w_179 rfl (congrArg Value.int h_now) ?_
  refine lv_icmp_ne (tgt := 13) hF.1 hF.2.1 dX0_lookFrom_6 (by decide) (fun c6_1 => ?_) (fun c6_1 => ?_)
  · refine lv_iload_n hF.1 hF.2.1 dX0_lookFrom_13 rfl (lv_at hl 1 rfl) ?_
    refine q_put hF hU hS dX0_lookFrom_14 1 0 14 14 99 rfl rfl rfl rfl inX0 tyX0 tyX0_ok nmX0 (by decide) (by decide) rfl w_180 rfl rfl rfl rfl (fun H locs hU hS => ?_)
    refine lv_iconst (v := 0) hF.1 hF.2.1 dX0_lookFrom_17 (by decide) ?_
    refine lv_istore_n (lv' := [(2, .int 0), (0, .ref (E.2.2 99)), (1, .int x)]) hF.1 hF.2.1 dX0_lookFrom_18 rfl hl (by decide) rfl (fun ls hl => ?_)
    refine lv_iload_n hF.1 hF.2.1 dX0_lookFrom_19 rfl (lv_at hl 0 rfl) ?_
    refine lv_aload_n hF.1 hF.2.1 dX0_lookFrom_20 rfl (lv_at hl 1 rfl) ?_
    refine q_get (v := .int 0) hF hU dX0_lookFrom_21 1 0 10 10 99 rfl rfl rfl rfl inX0 (by decide) (by decide) w_171 rfl (congrArg Value.int h_visitCount) ?_
    refine lv_icmp_ge (tgt := 51) hF.1 hF.2.1 dX0_lookFrom_24 (by decide) (fun _ => ?_) (fun h9 => absurd (by decide) h9)
    refine lv_iconst (v := 0) hF.1 hF.2.1 dX0_lookFrom_51 (by decide) ?_
    refine lv_istore_n (lv' := [(2, .int 0), (0, .ref (E.2.2 99)), (1, .int x)]) hF.1 hF.2.1 dX0_lookFrom_52 rfl hl (by decide) rfl (fun ls hl => ?_)
    refine lv_iload_n hF.1 hF.2.1 dX0_lookFrom_53 rfl (lv_at hl 0 rfl) ?_
    refine lv_aload_n hF.1 hF.2.1 dX0_lookFrom_54 rfl (lv_at hl 1 rfl) ?_
    refine q_get (v := .int 0) hF hU dX0_lookFrom_55 1 0 11 11 99 rfl rfl rfl rfl inX0 (by decide) (by decide) w_173 rfl (congrArg Value.int h_appealCount) ?_
    refine lv_icmp_ge (tgt := 72) hF.1 hF.2.1 dX0_lookFrom_58 (by decide) (fun _ => ?_) (fun h9 => absurd (by decide) h9)
    refine lv_aload_n hF.1 hF.2.1 dX0_lookFrom_72 rfl (lv_at hl 1 rfl) ?_
    refine lv_dup hF.1 hF.2.1 dX0_lookFrom_73 rfl ?_
    refine q_get (v := .int (u.1 18)) hF hU dX0_lookFrom_74 1 0 18 18 99 rfl rfl rfl rfl inX0 (by decide) (by decide) w_191 rfl rfl ?_
    refine lv_iconst (v := 1) hF.1 hF.2.1 dX0_lookFrom_77 (by decide) ?_
    refine lv_iadd hF.1 hF.2.1 dX0_lookFrom_78 ?_
    refine q_put hF hU hS dX0_lookFrom_79 1 0 18 18 99 rfl rfl rfl rfl inX0 tyX0 tyX0_ok nmX0 (by decide) (by decide) rfl w_191 rfl rfl rfl rfl (fun H locs hU hS => ?_)
    exact q_vret hF hr hlocks hU hS dX0_lookFrom_82 (trivial)
  · refine lv_iconst (v := (-1)) hF.1 hF.2.1 dX0_lookFrom_9 (by decide) ?_
    refine lv_goto (tgt := 14) hF.1 hF.2.1 dX0_lookFrom_10 (by decide) ?_
    refine q_put hF hU hS dX0_lookFrom_14 1 0 14 14 99 rfl rfl rfl rfl inX0 tyX0 tyX0_ok nmX0 (by decide) (by decide) rfl w_180 rfl rfl rfl rfl (fun H locs hU hS => ?_)
    refine lv_iconst (v := 0) hF.1 hF.2.1 dX0_lookFrom_17 (by decide) ?_
    refine lv_istore_n (lv' := [(2, .int 0), (0, .ref (E.2.2 99)), (1, .int x)]) hF.1 hF.2.1 dX0_lookFrom_18 rfl hl (by decide) rfl (fun ls hl => ?_)
    refine lv_iload_n hF.1 hF.2.1 dX0_lookFrom_19 rfl (lv_at hl 0 rfl) ?_
    refine lv_aload_n hF.1 hF.2.1 dX0_lookFrom_20 rfl (lv_at hl 1 rfl) ?_
    refine q_get (v := .int 0) hF hU dX0_lookFrom_21 1 0 10 10 99 rfl rfl rfl rfl inX0 (by decide) (by decide) w_171 rfl (congrArg Value.int h_visitCount) ?_
    refine lv_icmp_ge (tgt := 51) hF.1 hF.2.1 dX0_lookFrom_24 (by decide) (fun _ => ?_) (fun h9 => absurd (by decide) h9)
    refine lv_iconst (v := 0) hF.1 hF.2.1 dX0_lookFrom_51 (by decide) ?_
    refine lv_istore_n (lv' := [(2, .int 0), (0, .ref (E.2.2 99)), (1, .int x)]) hF.1 hF.2.1 dX0_lookFrom_52 rfl hl (by decide) rfl (fun ls hl => ?_)
    refine lv_iload_n hF.1 hF.2.1 dX0_lookFrom_53 rfl (lv_at hl 0 rfl) ?_
    refine lv_aload_n hF.1 hF.2.1 dX0_lookFrom_54 rfl (lv_at hl 1 rfl) ?_
    refine q_get (v := .int 0) hF hU dX0_lookFrom_55 1 0 11 11 99 rfl rfl rfl rfl inX0 (by decide) (by decide) w_173 rfl (congrArg Value.int h_appealCount) ?_
    refine lv_icmp_ge (tgt := 72) hF.1 hF.2.1 dX0_lookFrom_58 (by decide) (fun _ => ?_) (fun h9 => absurd (by decide) h9)
    refine lv_aload_n hF.1 hF.2.1 dX0_lookFrom_72 rfl (lv_at hl 1 rfl) ?_
    refine lv_dup hF.1 hF.2.1 dX0_lookFrom_73 rfl ?_
    refine q_get (v := .int (u.1 18)) hF hU dX0_lookFrom_74 1 0 18 18 99 rfl rfl rfl rfl inX0 (by decide) (by decide) w_191 rfl rfl ?_
    refine lv_iconst (v := 1) hF.1 hF.2.1 dX0_lookFrom_77 (by decide) ?_
    refine lv_iadd hF.1 hF.2.1 dX0_lookFrom_78 ?_
    refine q_put hF hU hS dX0_lookFrom_79 1 0 18 18 99 rfl rfl rfl rfl inX0 tyX0 tyX0_ok nmX0 (by decide) (by decide) rfl w_191 rfl rfl rfl rfl (fun H locs hU hS => ?_)
    exact q_vret hF hr hlocks hU hS dX0_lookFrom_82 (trivial)
theorem k_X11_days_r0 (x : Int32) (b5_1 : 0 ≤ x ∧ x ≤ 1000) (c23_2 : (0 + x : Int32) ≤ 9999) : ((0 ≤ x ∧ x ≤ 1000) ∧ (0 + x : Int32) = x) ∨ (¬ (0 ≤ x ∧ x ≤ 1000) ∧ (0 + x : Int32) = (-1)) := by
  first | rfl | (simp only [Int32.lt_iff_toInt_lt, Int32.le_iff_toInt_le, ← Int32.toInt_inj, Int32.zero_add, Int32.add_zero] at *; omega) | (simp only [Int32.lt_iff_toInt_lt, Int32.le_iff_toInt_le, ← Int32.toInt_inj, Int32.zero_add, Int32.add_zero] at *; done) | (simp only [Int32.lt_iff_toInt_lt, Int32.le_iff_toInt_le, ← Int32.toInt_inj, Int32.zero_add, Int32.add_zero] at *; simp at *; omega) | (simp at *; omega) | (simp_all; done)
theorem k_X11_days_r1 (x : Int32) (b5_1 : 0 ≤ x ∧ x ≤ 1000) (c23_2 : ¬ (0 + x : Int32) ≤ 9999) : ((0 ≤ x ∧ x ≤ 1000) ∧ ((-1) : Int32) = x) ∨ (¬ (0 ≤ x ∧ x ≤ 1000) ∧ ((-1) : Int32) = (-1)) := by
  first | rfl | (simp only [Int32.lt_iff_toInt_lt, Int32.le_iff_toInt_le, ← Int32.toInt_inj, Int32.zero_add, Int32.add_zero] at *; omega) | (simp only [Int32.lt_iff_toInt_lt, Int32.le_iff_toInt_le, ← Int32.toInt_inj, Int32.zero_add, Int32.add_zero] at *; done) | (simp only [Int32.lt_iff_toInt_lt, Int32.le_iff_toInt_le, ← Int32.toInt_inj, Int32.zero_add, Int32.add_zero] at *; simp at *; omega) | (simp at *; omega) | (simp_all; done)
theorem k_X11_days_r2 (x : Int32) (b5_1 : ¬ (0 ≤ x ∧ x ≤ 1000)) : ((0 ≤ x ∧ x ≤ 1000) ∧ ((-1) : Int32) = x) ∨ (¬ (0 ≤ x ∧ x ≤ 1000) ∧ ((-1) : Int32) = (-1)) := by
  first | rfl | (simp only [Int32.lt_iff_toInt_lt, Int32.le_iff_toInt_le, ← Int32.toInt_inj, Int32.zero_add, Int32.add_zero] at *; omega) | (simp only [Int32.lt_iff_toInt_lt, Int32.le_iff_toInt_le, ← Int32.toInt_inj, Int32.zero_add, Int32.add_zero] at *; done) | (simp only [Int32.lt_iff_toInt_lt, Int32.le_iff_toInt_le, ← Int32.toInt_inj, Int32.zero_add, Int32.add_zero] at *; simp at *; omega) | (simp at *; omega) | (simp_all; done)
set_option maxHeartbeats 400000 in
set_option maxRecDepth 100000 in
theorem k_X11_days (l : Launch) (E : qE) (A : Nat → Prop) (u : qS) (x : Int32) (h_now : u.1 13 = 0) : Met l yX11_days (uws yX11_days cX11_days 2 (some .int)) (qR 2 0 0) (qPc E A 0 u [.ref (E.2.2 1199), .int x]) (qQi E A 0 (fun r _ => ((0 ≤ x ∧ x ≤ 1000) ∧ r = x) ∨ (¬ (0 ≤ x ∧ x ≤ 1000) ∧ r = (-1)))) 0 0 A := by
  refine q_met (own := RX11) (f := 2) [.ref (E.2.2 1199), .int x] (by decide) (Nat.le_of_ble_eq_true rfl) rfl ?_
  intro p0 e0 s0 m0 bl0 me0 cd0 ls hF hr hlocks hU hS hA hl
  have hl : lv_has ls 2 [(0, .ref (E.2.2 1199)), (1, .int x)] := hl
  refine lv_iload_n hF.1 hF.2.1 dX11_days_0 rfl (lv_at hl 1 rfl) ?_
  refine lv_iconst (v := 0) hF.1 hF.2.1 dX11_days_1 (by decide) ?_
  refine lv_sipush (v := 1000) hF.1 hF.2.1 dX11_days_2 (by decide) ?_
  have hM9 := (k_X11_isWithin l E A 0 u x 0 1000)
  have hR9 := q_runS (l := l) (e := e0) (below := bl0) (meth := me0) (R := qR 2 0 0) (cells := 0) (slots := 0) (st0 := [.int 1000, .int 0, .int x]) (rest := []) hF hU hS hA 3 hM9 w_468 w_469 w_99 w_470 (by decide +kernel) ⟨Nat.le_of_ble_eq_true rfl, Nat.le_of_ble_eq_true rfl⟩ dX11_days_5 rfl hl.1 rfl (Nat.le_of_ble_eq_true rfl) ⟨Nat.le_of_ble_eq_true rfl, Nat.le_of_ble_eq_true rfl⟩
  refine q_calli hR9 hU.2.2.2 hS (fun r u1 H locs hw hU hS => ?_)
  obtain ⟨hu1, hw⟩ := hw
  rw [hu1] at hU
  rcases hw with ⟨rfl, b5_1⟩ | ⟨rfl, b5_1⟩
  · refine lv_if_eq (tgt := 26) hF.1 hF.2.1 dX11_days_8 (by decide) (fun h9 => absurd h9 (by decide)) (fun _ => ?_)
    refine lv_aload_n hF.1 hF.2.1 dX11_days_11 rfl (lv_at hl 0 rfl) ?_
    refine q_get (v := .ref (E.2.2 99)) hF hU dX11_days_12 0 11 0 1100 1199 rfl rfl rfl rfl inX11 (by decide) (by decide) w_436 rfl rfl ?_
    refine q_get (v := .int 0) hF hU dX11_days_15 1 0 13 13 99 rfl rfl rfl rfl inX0 (by decide) (by decide) w_178 rfl (congrArg Value.int h_now) ?_
    refine lv_iload_n hF.1 hF.2.1 dX11_days_18 rfl (lv_at hl 1 rfl) ?_
    refine lv_iadd hF.1 hF.2.1 dX11_days_19 ?_
    refine lv_sipush (v := 9999) hF.1 hF.2.1 dX11_days_20 (by decide) ?_
    refine lv_icmp_le (tgt := 28) hF.1 hF.2.1 dX11_days_23 (by decide) (fun c23_2 => ?_) (fun c23_2 => ?_)
    · refine lv_aload_n hF.1 hF.2.1 dX11_days_28 rfl (lv_at hl 0 rfl) ?_
      refine q_get (v := .ref (E.2.2 99)) hF hU dX11_days_29 0 11 0 1100 1199 rfl rfl rfl rfl inX11 (by decide) (by decide) w_436 rfl rfl ?_
      refine lv_dup hF.1 hF.2.1 dX11_days_32 rfl ?_
      refine q_get (v := .int 0) hF hU dX11_days_33 1 0 13 13 99 rfl rfl rfl rfl inX0 (by decide) (by decide) w_178 rfl (congrArg Value.int h_now) ?_
      refine lv_iload_n hF.1 hF.2.1 dX11_days_36 rfl (lv_at hl 1 rfl) ?_
      refine lv_iadd hF.1 hF.2.1 dX11_days_37 ?_
      refine q_put hF hU hS dX11_days_38 1 0 13 13 99 rfl rfl rfl rfl inX0 tyX0 tyX0_ok nmX0 (by decide) (by decide) rfl w_178 rfl rfl rfl rfl (fun H locs hU hS => ?_)
      refine lv_aload_n hF.1 hF.2.1 dX11_days_41 rfl (lv_at hl 0 rfl) ?_
      refine q_get (v := .ref (E.2.2 99)) hF hU dX11_days_42 0 11 0 1100 1199 rfl rfl rfl rfl inX11 (by decide) (by decide) w_436 rfl rfl ?_
      refine q_get (v := .int (0 + x)) hF hU dX11_days_45 1 0 13 13 99 rfl rfl rfl rfl inX0 (by decide) (by decide) w_178 rfl rfl ?_
      exact q_iret hF hr rfl hlocks hU hS dX11_days_48 (k_X11_days_r0 x b5_1 c23_2)
    · refine lv_iconst (v := (-1)) hF.1 hF.2.1 dX11_days_26 (by decide) ?_
      exact q_iret hF hr rfl hlocks hU hS dX11_days_27 (k_X11_days_r1 x b5_1 c23_2)
  · refine lv_if_eq (tgt := 26) hF.1 hF.2.1 dX11_days_8 (by decide) (fun _ => ?_) (fun h9 => absurd (by decide) h9)
    refine lv_iconst (v := (-1)) hF.1 hF.2.1 dX11_days_26 (by decide) ?_
    exact q_iret hF hr rfl hlocks hU hS dX11_days_27 (k_X11_days_r2 x b5_1)
theorem k_X11_view_r0 (x : Int32) (b9_1 : 0 ≤ x ∧ x ≤ 0) : ((0 ≤ x ∧ x ≤ 0) ∧ (1 : Int32) = 1) ∨ (¬ (0 ≤ x ∧ x ≤ 0) ∧ (1 : Int32) = 0) := by
  first | rfl | (simp only [Int32.lt_iff_toInt_lt, Int32.le_iff_toInt_le, ← Int32.toInt_inj, Int32.zero_add, Int32.add_zero] at *; omega) | (simp only [Int32.lt_iff_toInt_lt, Int32.le_iff_toInt_le, ← Int32.toInt_inj, Int32.zero_add, Int32.add_zero] at *; done) | (simp only [Int32.lt_iff_toInt_lt, Int32.le_iff_toInt_le, ← Int32.toInt_inj, Int32.zero_add, Int32.add_zero] at *; simp at *; omega) | (simp at *; omega) | (simp_all; done)
theorem k_X11_view_r1 (x : Int32) (b9_1 : ¬ (0 ≤ x ∧ x ≤ 0)) : ((0 ≤ x ∧ x ≤ 0) ∧ (0 : Int32) = 1) ∨ (¬ (0 ≤ x ∧ x ≤ 0) ∧ (0 : Int32) = 0) := by
  first | rfl | (simp only [Int32.lt_iff_toInt_lt, Int32.le_iff_toInt_le, ← Int32.toInt_inj, Int32.zero_add, Int32.add_zero] at *; omega) | (simp only [Int32.lt_iff_toInt_lt, Int32.le_iff_toInt_le, ← Int32.toInt_inj, Int32.zero_add, Int32.add_zero] at *; done) | (simp only [Int32.lt_iff_toInt_lt, Int32.le_iff_toInt_le, ← Int32.toInt_inj, Int32.zero_add, Int32.add_zero] at *; simp at *; omega) | (simp at *; omega) | (simp_all; done)
set_option maxHeartbeats 400000 in
set_option maxRecDepth 100000 in
theorem k_X11_view (l : Launch) (E : qE) (A : Nat → Prop) (u : qS) (x : Int32) (h_now : u.1 13 = 0) (h_visitCount : u.1 10 = 0) (h_appealCount : u.1 11 = 0) : Met l yX11_view (uws yX11_view cX11_view 2 (some .boolean)) (qR 3 0 0) (qPc E A 0 u [.ref (E.2.2 1199), .int x]) (qQi E A 0 (fun r _ => ((0 ≤ x ∧ x ≤ 0) ∧ r = 1) ∨ (¬ (0 ≤ x ∧ x ≤ 0) ∧ r = 0))) 0 0 A := by
  refine q_met (own := RX11) (f := 3) [.ref (E.2.2 1199), .int x] (by decide) (Nat.le_of_ble_eq_true rfl) rfl ?_
  intro p0 e0 s0 m0 bl0 me0 cd0 ls hF hr hlocks hU hS hA hl
  have hl : lv_has ls 2 [(0, .ref (E.2.2 1199)), (1, .int x)] := hl
  refine lv_iload_n hF.1 hF.2.1 dX11_view_0 rfl (lv_at hl 1 rfl) ?_
  refine lv_iconst (v := 0) hF.1 hF.2.1 dX11_view_1 (by decide) ?_
  refine lv_aload_n hF.1 hF.2.1 dX11_view_2 rfl (lv_at hl 0 rfl) ?_
  refine q_get (v := .ref (E.2.2 99)) hF hU dX11_view_3 0 11 0 1100 1199 rfl rfl rfl rfl inX11 (by decide) (by decide) w_436 rfl rfl ?_
  refine q_get (v := .int 0) hF hU dX11_view_6 1 0 13 13 99 rfl rfl rfl rfl inX0 (by decide) (by decide) w_178 rfl (congrArg Value.int h_now) ?_
  have hM9 := (k_X11_isWithin l E A 0 u x 0 0)
  have hR9 := q_runS (l := l) (e := e0) (below := bl0) (meth := me0) (R := qR 3 0 0) (cells := 0) (slots := 0) (st0 := [.int 0, .int 0, .int x]) (rest := []) hF hU hS hA 3 hM9 w_468 w_469 w_99 w_470 (by decide +kernel) ⟨Nat.le_of_ble_eq_true rfl, Nat.le_of_ble_eq_true rfl⟩ dX11_view_9 rfl hl.1 rfl (Nat.le_of_ble_eq_true rfl) ⟨Nat.le_of_ble_eq_true rfl, Nat.le_of_ble_eq_true rfl⟩
  refine q_calli hR9 hU.2.2.2 hS (fun r u1 H locs hw hU hS => ?_)
  obtain ⟨hu1, hw⟩ := hw
  rw [hu1] at hU
  rcases hw with ⟨rfl, b9_1⟩ | ⟨rfl, b9_1⟩
  · refine lv_if_ne (tgt := 17) hF.1 hF.2.1 dX11_view_12 (by decide) (fun _ => ?_) (fun h9 => absurd h9 (by decide))
    refine lv_aload_n hF.1 hF.2.1 dX11_view_17 rfl (lv_at hl 0 rfl) ?_
    refine q_get (v := .ref (E.2.2 99)) hF hU dX11_view_18 0 11 0 1100 1199 rfl rfl rfl rfl inX11 (by decide) (by decide) w_436 rfl rfl ?_
    refine lv_iload_n hF.1 hF.2.1 dX11_view_21 rfl (lv_at hl 1 rfl) ?_
    have hM9 := (k_X0_lookFrom l E A u x h_now h_visitCount h_appealCount)
    have hR9 := q_runV (l := l) (e := e0) (below := bl0) (meth := me0) (R := qR 3 0 0) (cells := 0) (slots := 0) (st0 := [.int x, .ref (E.2.2 99)]) (rest := []) hF hU hS hA 1 1 0 99 rfl rfl rfl hM9 w_475 w_476 w_477 w_100 w_478 (by decide +kernel) ⟨Nat.le_of_ble_eq_true rfl, Nat.le_of_ble_eq_true rfl⟩ dX11_view_22 rfl hl.1 rfl (Nat.le_of_ble_eq_true rfl) ⟨Nat.le_of_ble_eq_true rfl, Nat.le_of_ble_eq_true rfl⟩
    refine q_callv hR9 hU.2.2.2 hS (fun u_2 H locs hw_3 hU hS => ?_)
    refine lv_iconst (v := 1) hF.1 hF.2.1 dX11_view_25 (by decide) ?_
    exact q_iret hF hr (by decide) hlocks hU hS dX11_view_26 (k_X11_view_r0 x b9_1)
  · refine lv_if_ne (tgt := 17) hF.1 hF.2.1 dX11_view_12 (by decide) (fun h9 => absurd (by decide) h9) (fun _ => ?_)
    refine lv_iconst (v := 0) hF.1 hF.2.1 dX11_view_15 (by decide) ?_
    exact q_iret hF hr (by decide) hlocks hU hS dX11_view_16 (k_X11_view_r1 x b9_1)
set_option maxHeartbeats 400000 in
set_option maxRecDepth 100000 in
theorem k_X0_walkAt (l : Launch) (E : qE) (A : Nat → Prop) (u : qS) (x : Int32) : Met l yX0_walkAt (uws yX0_walkAt cX0_walkAt 2 none) (qR 0 0 0) (qPc E A 0 u [.ref (E.2.2 99), .int x]) (qQv E A 0 (fun u1 => True)) 0 0 A := by
  refine q_met (own := RX0) (f := 0) [.ref (E.2.2 99), .int x] (by decide) (Nat.le_of_ble_eq_true rfl) rfl ?_
  intro p0 e0 s0 m0 bl0 me0 cd0 ls hF hr hlocks hU hS hA hl
  have hl : lv_has ls 2 [(0, .ref (E.2.2 99)), (1, .int x)] := hl
  refine lv_aload_n hF.1 hF.2.1 dX0_walkAt_0 rfl (lv_at hl 0 rfl) ?_
  refine lv_iload_n hF.1 hF.2.1 dX0_walkAt_1 rfl (lv_at hl 1 rfl) ?_
  refine q_put hF hU hS dX0_walkAt_2 1 0 15 15 99 rfl rfl rfl rfl inX0 tyX0 tyX0_ok nmX0 (by decide) (by decide) rfl w_181 rfl rfl rfl rfl (fun H locs hU hS => ?_)
  refine lv_aload_n hF.1 hF.2.1 dX0_walkAt_5 rfl (lv_at hl 0 rfl) ?_
  refine lv_dup hF.1 hF.2.1 dX0_walkAt_6 rfl ?_
  refine q_get (v := .int (u.1 18)) hF hU dX0_walkAt_7 1 0 18 18 99 rfl rfl rfl rfl inX0 (by decide) (by decide) w_191 rfl rfl ?_
  refine lv_iconst (v := 1) hF.1 hF.2.1 dX0_walkAt_10 (by decide) ?_
  refine lv_iadd hF.1 hF.2.1 dX0_walkAt_11 ?_
  refine q_put hF hU hS dX0_walkAt_12 1 0 18 18 99 rfl rfl rfl rfl inX0 tyX0 tyX0_ok nmX0 (by decide) (by decide) rfl w_191 rfl rfl rfl rfl (fun H locs hU hS => ?_)
  exact q_vret hF hr hlocks hU hS dX0_walkAt_15 (trivial)
theorem k_X11_terms_r0 (x : Int32) (y : Int32) (z : Int32) (b4_1 : 1 ≤ x ∧ x ≤ 60) (b15_2 : 0 ≤ y ∧ y ≤ 999) (b26_3 : 0 ≤ z ∧ z ≤ 1000) : (((1 ≤ x ∧ x ≤ 60) ∧ (0 ≤ y ∧ y ≤ 999) ∧ (0 ≤ z ∧ z ≤ 1000)) ∧ (1 : Int32) = 1) ∨ (¬ ((1 ≤ x ∧ x ≤ 60) ∧ (0 ≤ y ∧ y ≤ 999) ∧ (0 ≤ z ∧ z ≤ 1000)) ∧ (1 : Int32) = 0) := by
  first | rfl | (simp only [Int32.lt_iff_toInt_lt, Int32.le_iff_toInt_le, ← Int32.toInt_inj, Int32.zero_add, Int32.add_zero] at *; omega) | (simp only [Int32.lt_iff_toInt_lt, Int32.le_iff_toInt_le, ← Int32.toInt_inj, Int32.zero_add, Int32.add_zero] at *; done) | (simp only [Int32.lt_iff_toInt_lt, Int32.le_iff_toInt_le, ← Int32.toInt_inj, Int32.zero_add, Int32.add_zero] at *; simp at *; omega) | (simp at *; omega) | (simp_all; done)
theorem k_X11_terms_r1 (x : Int32) (y : Int32) (z : Int32) (b4_1 : 1 ≤ x ∧ x ≤ 60) (b15_2 : 0 ≤ y ∧ y ≤ 999) (b26_3 : ¬ (0 ≤ z ∧ z ≤ 1000)) : (((1 ≤ x ∧ x ≤ 60) ∧ (0 ≤ y ∧ y ≤ 999) ∧ (0 ≤ z ∧ z ≤ 1000)) ∧ (0 : Int32) = 1) ∨ (¬ ((1 ≤ x ∧ x ≤ 60) ∧ (0 ≤ y ∧ y ≤ 999) ∧ (0 ≤ z ∧ z ≤ 1000)) ∧ (0 : Int32) = 0) := by
  first | rfl | (simp only [Int32.lt_iff_toInt_lt, Int32.le_iff_toInt_le, ← Int32.toInt_inj, Int32.zero_add, Int32.add_zero] at *; omega) | (simp only [Int32.lt_iff_toInt_lt, Int32.le_iff_toInt_le, ← Int32.toInt_inj, Int32.zero_add, Int32.add_zero] at *; done) | (simp only [Int32.lt_iff_toInt_lt, Int32.le_iff_toInt_le, ← Int32.toInt_inj, Int32.zero_add, Int32.add_zero] at *; simp at *; omega) | (simp at *; omega) | (simp_all; done)
theorem k_X11_terms_r2 (x : Int32) (y : Int32) (z : Int32) (b4_1 : 1 ≤ x ∧ x ≤ 60) (b15_2 : ¬ (0 ≤ y ∧ y ≤ 999)) : (((1 ≤ x ∧ x ≤ 60) ∧ (0 ≤ y ∧ y ≤ 999) ∧ (0 ≤ z ∧ z ≤ 1000)) ∧ (0 : Int32) = 1) ∨ (¬ ((1 ≤ x ∧ x ≤ 60) ∧ (0 ≤ y ∧ y ≤ 999) ∧ (0 ≤ z ∧ z ≤ 1000)) ∧ (0 : Int32) = 0) := by
  first | rfl | (simp only [Int32.lt_iff_toInt_lt, Int32.le_iff_toInt_le, ← Int32.toInt_inj, Int32.zero_add, Int32.add_zero] at *; omega) | (simp only [Int32.lt_iff_toInt_lt, Int32.le_iff_toInt_le, ← Int32.toInt_inj, Int32.zero_add, Int32.add_zero] at *; done) | (simp only [Int32.lt_iff_toInt_lt, Int32.le_iff_toInt_le, ← Int32.toInt_inj, Int32.zero_add, Int32.add_zero] at *; simp at *; omega) | (simp at *; omega) | (simp_all; done)
theorem k_X11_terms_r3 (x : Int32) (y : Int32) (z : Int32) (b4_1 : ¬ (1 ≤ x ∧ x ≤ 60)) : (((1 ≤ x ∧ x ≤ 60) ∧ (0 ≤ y ∧ y ≤ 999) ∧ (0 ≤ z ∧ z ≤ 1000)) ∧ (0 : Int32) = 1) ∨ (¬ ((1 ≤ x ∧ x ≤ 60) ∧ (0 ≤ y ∧ y ≤ 999) ∧ (0 ≤ z ∧ z ≤ 1000)) ∧ (0 : Int32) = 0) := by
  first | rfl | (simp only [Int32.lt_iff_toInt_lt, Int32.le_iff_toInt_le, ← Int32.toInt_inj, Int32.zero_add, Int32.add_zero] at *; omega) | (simp only [Int32.lt_iff_toInt_lt, Int32.le_iff_toInt_le, ← Int32.toInt_inj, Int32.zero_add, Int32.add_zero] at *; done) | (simp only [Int32.lt_iff_toInt_lt, Int32.le_iff_toInt_le, ← Int32.toInt_inj, Int32.zero_add, Int32.add_zero] at *; simp at *; omega) | (simp at *; omega) | (simp_all; done)
set_option maxHeartbeats 400000 in
set_option maxRecDepth 100000 in
theorem k_X11_terms (l : Launch) (E : qE) (A : Nat → Prop) (u : qS) (x : Int32) (y : Int32) (z : Int32) : Met l yX11_terms (uws yX11_terms cX11_terms 4 (some .boolean)) (qR 2 0 0) (qPc E A 0 u [.ref (E.2.2 1199), .int x, .int y, .int z]) (qQi E A 0 (fun r _ => (((1 ≤ x ∧ x ≤ 60) ∧ (0 ≤ y ∧ y ≤ 999) ∧ (0 ≤ z ∧ z ≤ 1000)) ∧ r = 1) ∨ (¬ ((1 ≤ x ∧ x ≤ 60) ∧ (0 ≤ y ∧ y ≤ 999) ∧ (0 ≤ z ∧ z ≤ 1000)) ∧ r = 0))) 0 0 A := by
  refine q_met (own := RX11) (f := 2) [.ref (E.2.2 1199), .int x, .int y, .int z] (by decide) (Nat.le_of_ble_eq_true rfl) rfl ?_
  intro p0 e0 s0 m0 bl0 me0 cd0 ls hF hr hlocks hU hS hA hl
  have hl : lv_has ls 4 [(0, .ref (E.2.2 1199)), (1, .int x), (2, .int y), (3, .int z)] := hl
  refine lv_iload_n hF.1 hF.2.1 dX11_terms_0 rfl (lv_at hl 1 rfl) ?_
  refine lv_iconst (v := 1) hF.1 hF.2.1 dX11_terms_1 (by decide) ?_
  refine lv_bipush (v := 60) hF.1 hF.2.1 dX11_terms_2 (by decide) ?_
  have hM9 := (k_X11_isWithin l E A 0 u x 1 60)
  have hR9 := q_runS (l := l) (e := e0) (below := bl0) (meth := me0) (R := qR 2 0 0) (cells := 0) (slots := 0) (st0 := [.int 60, .int 1, .int x]) (rest := []) hF hU hS hA 3 hM9 w_468 w_469 w_99 w_470 (by decide +kernel) ⟨Nat.le_of_ble_eq_true rfl, Nat.le_of_ble_eq_true rfl⟩ dX11_terms_4 rfl hl.1 rfl (Nat.le_of_ble_eq_true rfl) ⟨Nat.le_of_ble_eq_true rfl, Nat.le_of_ble_eq_true rfl⟩
  refine q_calli hR9 hU.2.2.2 hS (fun r u1 H locs hw hU hS => ?_)
  obtain ⟨hu1, hw⟩ := hw
  rw [hu1] at hU
  rcases hw with ⟨rfl, b4_1⟩ | ⟨rfl, b4_1⟩
  · refine lv_if_eq (tgt := 32) hF.1 hF.2.1 dX11_terms_7 (by decide) (fun h9 => absurd h9 (by decide)) (fun _ => ?_)
    refine lv_iload_n hF.1 hF.2.1 dX11_terms_10 rfl (lv_at hl 2 rfl) ?_
    refine lv_iconst (v := 0) hF.1 hF.2.1 dX11_terms_11 (by decide) ?_
    refine lv_sipush (v := 999) hF.1 hF.2.1 dX11_terms_12 (by decide) ?_
    have hM9 := (k_X11_isWithin l E A 0 u y 0 999)
    have hR9 := q_runS (l := l) (e := e0) (below := bl0) (meth := me0) (R := qR 2 0 0) (cells := 0) (slots := 0) (st0 := [.int 999, .int 0, .int y]) (rest := []) hF hU hS hA 3 hM9 w_468 w_469 w_99 w_470 (by decide +kernel) ⟨Nat.le_of_ble_eq_true rfl, Nat.le_of_ble_eq_true rfl⟩ dX11_terms_15 rfl hl.1 rfl (Nat.le_of_ble_eq_true rfl) ⟨Nat.le_of_ble_eq_true rfl, Nat.le_of_ble_eq_true rfl⟩
    refine q_calli hR9 hU.2.2.2 hS (fun r u1 H locs hw hU hS => ?_)
    obtain ⟨hu1, hw⟩ := hw
    rw [hu1] at hU
    rcases hw with ⟨rfl, b15_2⟩ | ⟨rfl, b15_2⟩
    · refine lv_if_eq (tgt := 32) hF.1 hF.2.1 dX11_terms_18 (by decide) (fun h9 => absurd h9 (by decide)) (fun _ => ?_)
      refine lv_iload_n hF.1 hF.2.1 dX11_terms_21 rfl (lv_at hl 3 rfl) ?_
      refine lv_iconst (v := 0) hF.1 hF.2.1 dX11_terms_22 (by decide) ?_
      refine lv_sipush (v := 1000) hF.1 hF.2.1 dX11_terms_23 (by decide) ?_
      have hM9 := (k_X11_isWithin l E A 0 u z 0 1000)
      have hR9 := q_runS (l := l) (e := e0) (below := bl0) (meth := me0) (R := qR 2 0 0) (cells := 0) (slots := 0) (st0 := [.int 1000, .int 0, .int z]) (rest := []) hF hU hS hA 3 hM9 w_468 w_469 w_99 w_470 (by decide +kernel) ⟨Nat.le_of_ble_eq_true rfl, Nat.le_of_ble_eq_true rfl⟩ dX11_terms_26 rfl hl.1 rfl (Nat.le_of_ble_eq_true rfl) ⟨Nat.le_of_ble_eq_true rfl, Nat.le_of_ble_eq_true rfl⟩
      refine q_calli hR9 hU.2.2.2 hS (fun r u1 H locs hw hU hS => ?_)
      obtain ⟨hu1, hw⟩ := hw
      rw [hu1] at hU
      rcases hw with ⟨rfl, b26_3⟩ | ⟨rfl, b26_3⟩
      · refine lv_if_ne (tgt := 34) hF.1 hF.2.1 dX11_terms_29 (by decide) (fun _ => ?_) (fun h9 => absurd h9 (by decide))
        refine lv_aload_n hF.1 hF.2.1 dX11_terms_34 rfl (lv_at hl 0 rfl) ?_
        refine q_get (v := .ref (E.2.2 99)) hF hU dX11_terms_35 0 11 0 1100 1199 rfl rfl rfl rfl inX11 (by decide) (by decide) w_436 rfl rfl ?_
        refine lv_iload_n hF.1 hF.2.1 dX11_terms_38 rfl (lv_at hl 1 rfl) ?_
        have hM9 := (k_X0_walkAt l E A u x)
        have hR9 := q_runV (l := l) (e := e0) (below := bl0) (meth := me0) (R := qR 2 0 0) (cells := 0) (slots := 0) (st0 := [.int x, .ref (E.2.2 99)]) (rest := []) hF hU hS hA 1 1 0 99 rfl rfl rfl hM9 w_551 w_552 w_553 w_100 w_554 (by decide +kernel) ⟨Nat.le_of_ble_eq_true rfl, Nat.le_of_ble_eq_true rfl⟩ dX11_terms_39 rfl hl.1 rfl (Nat.le_of_ble_eq_true rfl) ⟨Nat.le_of_ble_eq_true rfl, Nat.le_of_ble_eq_true rfl⟩
        refine q_callv hR9 hU.2.2.2 hS (fun u_4 H locs hw_5 hU hS => ?_)
        refine lv_aload_n hF.1 hF.2.1 dX11_terms_42 rfl (lv_at hl 0 rfl) ?_
        refine lv_iload_n hF.1 hF.2.1 dX11_terms_43 rfl (lv_at hl 2 rfl) ?_
        refine q_put hF hU hS dX11_terms_44 0 11 7 1107 1199 rfl rfl rfl rfl inX11 tyX11 tyX11_ok nmX11 (by decide) (by decide) rfl w_443 rfl rfl rfl rfl (fun H locs hU hS => ?_)
        refine lv_aload_n hF.1 hF.2.1 dX11_terms_47 rfl (lv_at hl 0 rfl) ?_
        refine lv_iload_n hF.1 hF.2.1 dX11_terms_48 rfl (lv_at hl 3 rfl) ?_
        refine q_put hF hU hS dX11_terms_49 0 11 8 1108 1199 rfl rfl rfl rfl inX11 tyX11 tyX11_ok nmX11 (by decide) (by decide) rfl w_444 rfl rfl rfl rfl (fun H locs hU hS => ?_)
        refine lv_iconst (v := 1) hF.1 hF.2.1 dX11_terms_52 (by decide) ?_
        exact q_iret hF hr (by decide) hlocks hU hS dX11_terms_53 (k_X11_terms_r0 x y z b4_1 b15_2 b26_3)
      · refine lv_if_ne (tgt := 34) hF.1 hF.2.1 dX11_terms_29 (by decide) (fun h9 => absurd (by decide) h9) (fun _ => ?_)
        refine lv_iconst (v := 0) hF.1 hF.2.1 dX11_terms_32 (by decide) ?_
        exact q_iret hF hr (by decide) hlocks hU hS dX11_terms_33 (k_X11_terms_r1 x y z b4_1 b15_2 b26_3)
    · refine lv_if_eq (tgt := 32) hF.1 hF.2.1 dX11_terms_18 (by decide) (fun _ => ?_) (fun h9 => absurd (by decide) h9)
      refine lv_iconst (v := 0) hF.1 hF.2.1 dX11_terms_32 (by decide) ?_
      exact q_iret hF hr (by decide) hlocks hU hS dX11_terms_33 (k_X11_terms_r2 x y z b4_1 b15_2)
  · refine lv_if_eq (tgt := 32) hF.1 hF.2.1 dX11_terms_7 (by decide) (fun _ => ?_) (fun h9 => absurd (by decide) h9)
    refine lv_iconst (v := 0) hF.1 hF.2.1 dX11_terms_32 (by decide) ?_
    exact q_iret hF hr (by decide) hlocks hU hS dX11_terms_33 (k_X11_terms_r3 x y z b4_1)
theorem k_X11_rest_r0 (x : Int32) (y : Int32) (b5_1 : 0 ≤ x ∧ x ≤ 400) (b16_2 : 0 ≤ y ∧ y ≤ 198) : (((0 ≤ x ∧ x ≤ 400) ∧ (0 ≤ y ∧ y ≤ 198)) ∧ (1 : Int32) = 1) ∨ (¬ ((0 ≤ x ∧ x ≤ 400) ∧ (0 ≤ y ∧ y ≤ 198)) ∧ (1 : Int32) = 0) := by
  first | rfl | (simp only [Int32.lt_iff_toInt_lt, Int32.le_iff_toInt_le, ← Int32.toInt_inj, Int32.zero_add, Int32.add_zero] at *; omega) | (simp only [Int32.lt_iff_toInt_lt, Int32.le_iff_toInt_le, ← Int32.toInt_inj, Int32.zero_add, Int32.add_zero] at *; done) | (simp only [Int32.lt_iff_toInt_lt, Int32.le_iff_toInt_le, ← Int32.toInt_inj, Int32.zero_add, Int32.add_zero] at *; simp at *; omega) | (simp at *; omega) | (simp_all; done)
theorem k_X11_rest_r1 (x : Int32) (y : Int32) (b5_1 : 0 ≤ x ∧ x ≤ 400) (b16_2 : ¬ (0 ≤ y ∧ y ≤ 198)) : (((0 ≤ x ∧ x ≤ 400) ∧ (0 ≤ y ∧ y ≤ 198)) ∧ (0 : Int32) = 1) ∨ (¬ ((0 ≤ x ∧ x ≤ 400) ∧ (0 ≤ y ∧ y ≤ 198)) ∧ (0 : Int32) = 0) := by
  first | rfl | (simp only [Int32.lt_iff_toInt_lt, Int32.le_iff_toInt_le, ← Int32.toInt_inj, Int32.zero_add, Int32.add_zero] at *; omega) | (simp only [Int32.lt_iff_toInt_lt, Int32.le_iff_toInt_le, ← Int32.toInt_inj, Int32.zero_add, Int32.add_zero] at *; done) | (simp only [Int32.lt_iff_toInt_lt, Int32.le_iff_toInt_le, ← Int32.toInt_inj, Int32.zero_add, Int32.add_zero] at *; simp at *; omega) | (simp at *; omega) | (simp_all; done)
theorem k_X11_rest_r2 (x : Int32) (y : Int32) (b5_1 : ¬ (0 ≤ x ∧ x ≤ 400)) : (((0 ≤ x ∧ x ≤ 400) ∧ (0 ≤ y ∧ y ≤ 198)) ∧ (0 : Int32) = 1) ∨ (¬ ((0 ≤ x ∧ x ≤ 400) ∧ (0 ≤ y ∧ y ≤ 198)) ∧ (0 : Int32) = 0) := by
  first | rfl | (simp only [Int32.lt_iff_toInt_lt, Int32.le_iff_toInt_le, ← Int32.toInt_inj, Int32.zero_add, Int32.add_zero] at *; omega) | (simp only [Int32.lt_iff_toInt_lt, Int32.le_iff_toInt_le, ← Int32.toInt_inj, Int32.zero_add, Int32.add_zero] at *; done) | (simp only [Int32.lt_iff_toInt_lt, Int32.le_iff_toInt_le, ← Int32.toInt_inj, Int32.zero_add, Int32.add_zero] at *; simp at *; omega) | (simp at *; omega) | (simp_all; done)
set_option maxHeartbeats 400000 in
set_option maxRecDepth 100000 in
theorem k_X11_rest (l : Launch) (E : qE) (A : Nat → Prop) (u : qS) (x : Int32) (y : Int32) : Met l yX11_rest (uws yX11_rest cX11_rest 3 (some .boolean)) (qR 2 0 0) (qPc E A 0 u [.ref (E.2.2 1199), .int x, .int y]) (qQi E A 0 (fun r _ => (((0 ≤ x ∧ x ≤ 400) ∧ (0 ≤ y ∧ y ≤ 198)) ∧ r = 1) ∨ (¬ ((0 ≤ x ∧ x ≤ 400) ∧ (0 ≤ y ∧ y ≤ 198)) ∧ r = 0))) 0 0 A := by
  refine q_met (own := RX11) (f := 2) [.ref (E.2.2 1199), .int x, .int y] (by decide) (Nat.le_of_ble_eq_true rfl) rfl ?_
  intro p0 e0 s0 m0 bl0 me0 cd0 ls hF hr hlocks hU hS hA hl
  have hl : lv_has ls 3 [(0, .ref (E.2.2 1199)), (1, .int x), (2, .int y)] := hl
  refine lv_iload_n hF.1 hF.2.1 dX11_rest_0 rfl (lv_at hl 1 rfl) ?_
  refine lv_iconst (v := 0) hF.1 hF.2.1 dX11_rest_1 (by decide) ?_
  refine lv_sipush (v := 400) hF.1 hF.2.1 dX11_rest_2 (by decide) ?_
  have hM9 := (k_X11_isWithin l E A 0 u x 0 400)
  have hR9 := q_runS (l := l) (e := e0) (below := bl0) (meth := me0) (R := qR 2 0 0) (cells := 0) (slots := 0) (st0 := [.int 400, .int 0, .int x]) (rest := []) hF hU hS hA 3 hM9 w_468 w_469 w_99 w_470 (by decide +kernel) ⟨Nat.le_of_ble_eq_true rfl, Nat.le_of_ble_eq_true rfl⟩ dX11_rest_5 rfl hl.1 rfl (Nat.le_of_ble_eq_true rfl) ⟨Nat.le_of_ble_eq_true rfl, Nat.le_of_ble_eq_true rfl⟩
  refine q_calli hR9 hU.2.2.2 hS (fun r u1 H locs hw hU hS => ?_)
  obtain ⟨hu1, hw⟩ := hw
  rw [hu1] at hU
  rcases hw with ⟨rfl, b5_1⟩ | ⟨rfl, b5_1⟩
  · refine lv_if_eq (tgt := 22) hF.1 hF.2.1 dX11_rest_8 (by decide) (fun h9 => absurd h9 (by decide)) (fun _ => ?_)
    refine lv_iload_n hF.1 hF.2.1 dX11_rest_11 rfl (lv_at hl 2 rfl) ?_
    refine lv_iconst (v := 0) hF.1 hF.2.1 dX11_rest_12 (by decide) ?_
    refine lv_sipush (v := 198) hF.1 hF.2.1 dX11_rest_13 (by decide) ?_
    have hM9 := (k_X11_isWithin l E A 0 u y 0 198)
    have hR9 := q_runS (l := l) (e := e0) (below := bl0) (meth := me0) (R := qR 2 0 0) (cells := 0) (slots := 0) (st0 := [.int 198, .int 0, .int y]) (rest := []) hF hU hS hA 3 hM9 w_468 w_469 w_99 w_470 (by decide +kernel) ⟨Nat.le_of_ble_eq_true rfl, Nat.le_of_ble_eq_true rfl⟩ dX11_rest_16 rfl hl.1 rfl (Nat.le_of_ble_eq_true rfl) ⟨Nat.le_of_ble_eq_true rfl, Nat.le_of_ble_eq_true rfl⟩
    refine q_calli hR9 hU.2.2.2 hS (fun r u1 H locs hw hU hS => ?_)
    obtain ⟨hu1, hw⟩ := hw
    rw [hu1] at hU
    rcases hw with ⟨rfl, b16_2⟩ | ⟨rfl, b16_2⟩
    · refine lv_if_ne (tgt := 24) hF.1 hF.2.1 dX11_rest_19 (by decide) (fun _ => ?_) (fun h9 => absurd h9 (by decide))
      refine lv_aload_n hF.1 hF.2.1 dX11_rest_24 rfl (lv_at hl 0 rfl) ?_
      refine q_get (v := .ref (E.2.2 99)) hF hU dX11_rest_25 0 11 0 1100 1199 rfl rfl rfl rfl inX11 (by decide) (by decide) w_436 rfl rfl ?_
      refine lv_iload_n hF.1 hF.2.1 dX11_rest_28 rfl (lv_at hl 1 rfl) ?_
      refine q_put hF hU hS dX11_rest_29 1 0 16 16 99 rfl rfl rfl rfl inX0 tyX0 tyX0_ok nmX0 (by decide) (by decide) rfl w_185 rfl rfl rfl rfl (fun H locs hU hS => ?_)
      refine lv_aload_n hF.1 hF.2.1 dX11_rest_32 rfl (lv_at hl 0 rfl) ?_
      refine q_get (v := .ref (E.2.2 99)) hF hU dX11_rest_33 0 11 0 1100 1199 rfl rfl rfl rfl inX11 (by decide) (by decide) w_436 rfl rfl ?_
      refine lv_iload_n hF.1 hF.2.1 dX11_rest_36 rfl (lv_at hl 2 rfl) ?_
      refine q_put hF hU hS dX11_rest_37 1 0 17 17 99 rfl rfl rfl rfl inX0 tyX0 tyX0_ok nmX0 (by decide) (by decide) rfl w_187 rfl rfl rfl rfl (fun H locs hU hS => ?_)
      refine lv_iconst (v := 1) hF.1 hF.2.1 dX11_rest_40 (by decide) ?_
      exact q_iret hF hr (by decide) hlocks hU hS dX11_rest_41 (k_X11_rest_r0 x y b5_1 b16_2)
    · refine lv_if_ne (tgt := 24) hF.1 hF.2.1 dX11_rest_19 (by decide) (fun h9 => absurd (by decide) h9) (fun _ => ?_)
      refine lv_iconst (v := 0) hF.1 hF.2.1 dX11_rest_22 (by decide) ?_
      exact q_iret hF hr (by decide) hlocks hU hS dX11_rest_23 (k_X11_rest_r1 x y b5_1 b16_2)
  · refine lv_if_eq (tgt := 22) hF.1 hF.2.1 dX11_rest_8 (by decide) (fun _ => ?_) (fun h9 => absurd (by decide) h9)
    refine lv_iconst (v := 0) hF.1 hF.2.1 dX11_rest_22 (by decide) ?_
    exact q_iret hF hr (by decide) hlocks hU hS dX11_rest_23 (k_X11_rest_r2 x y b5_1)
theorem k_X11_visit_r0 (a1 : Int32) (a2 : Int32) (a3 : Int32) (a4 : Int32) (a5 : Int32) (a6 : Int32) (a7 : Int32) : ((-1) : Int32) = (-1) := by
  first | rfl | (simp only [Int32.lt_iff_toInt_lt, Int32.le_iff_toInt_le, ← Int32.toInt_inj, Int32.zero_add, Int32.add_zero] at *; omega) | (simp only [Int32.lt_iff_toInt_lt, Int32.le_iff_toInt_le, ← Int32.toInt_inj, Int32.zero_add, Int32.add_zero] at *; done) | (simp only [Int32.lt_iff_toInt_lt, Int32.le_iff_toInt_le, ← Int32.toInt_inj, Int32.zero_add, Int32.add_zero] at *; simp at *; omega) | (simp at *; omega) | (simp_all; done)
set_option maxHeartbeats 400000 in
set_option maxRecDepth 100000 in
theorem k_X11_visit (l : Launch) (E : qE) (A : Nat → Prop) (u : qS) (a1 : Int32) (a2 : Int32) (a3 : Int32) (a4 : Int32) (a5 : Int32) (a6 : Int32) (a7 : Int32) (h_shopCount : u.1 8 = 0) : Met l yX11_visit (uws yX11_visit cX11_visit 9 (some .int)) (qR 3 0 0) (qPc E A 0 u [.ref (E.2.2 1199), .int a1, .int a2, .int a3, .int a4, .int a5, .int a6, .int a7]) (qQi E A 0 (fun r _ => r = (-1))) 0 0 A := by
  refine q_met (own := RX11) (f := 3) [.ref (E.2.2 1199), .int a1, .int a2, .int a3, .int a4, .int a5, .int a6, .int a7] (by decide) (Nat.le_of_ble_eq_true rfl) rfl ?_
  intro p0 e0 s0 m0 bl0 me0 cd0 ls hF hr hlocks hU hS hA hl
  have hl : lv_has ls 9 [(0, .ref (E.2.2 1199)), (1, .int a1), (2, .int a2), (3, .int a3), (4, .int a4), (5, .int a5), (6, .int a6), (7, .int a7)] := hl
  refine lv_aload_n hF.1 hF.2.1 dX11_visit_0 rfl (lv_at hl 0 rfl) ?_
  refine q_get (v := .ref (E.2.2 99)) hF hU dX11_visit_1 0 11 0 1100 1199 rfl rfl rfl rfl inX11 (by decide) (by decide) w_436 rfl rfl ?_
  refine lv_iload_n hF.1 hF.2.1 dX11_visit_4 rfl (lv_at hl 1 rfl) ?_
  have hM9 := (k_X0_hasShop l E A u a1 h_shopCount)
  have hR9 := q_runV (l := l) (e := e0) (below := bl0) (meth := me0) (R := qR 3 0 0) (cells := 0) (slots := 0) (st0 := [.int a1, .ref (E.2.2 99)]) (rest := []) hF hU hS hA 1 1 0 99 rfl rfl rfl hM9 w_563 w_564 w_565 w_100 w_566 (by decide +kernel) ⟨Nat.le_of_ble_eq_true rfl, Nat.le_of_ble_eq_true rfl⟩ dX11_visit_5 rfl hl.1 rfl (Nat.le_of_ble_eq_true rfl) ⟨Nat.le_of_ble_eq_true rfl, Nat.le_of_ble_eq_true rfl⟩
  refine q_calli hR9 hU.2.2.2 hS (fun r u1 H locs hw hU hS => ?_)
  rw [hw.1] at hU
  refine q_topi hw.2 ?_
  refine lv_if_eq (tgt := 37) hF.1 hF.2.1 dX11_visit_8 (by decide) (fun _ => ?_) (fun h9 => absurd (by decide) h9)
  refine lv_iconst (v := (-1)) hF.1 hF.2.1 dX11_visit_37 (by decide) ?_
  exact q_iret hF hr rfl hlocks hU hS dX11_visit_38 (k_X11_visit_r0 a1 a2 a3 a4 a5 a6 a7)
theorem k_X11_appeal_r0 (x : Int32) (y : Int32) : (0 : Int32) = 0 := by
  first | rfl | (simp only [Int32.lt_iff_toInt_lt, Int32.le_iff_toInt_le, ← Int32.toInt_inj, Int32.zero_add, Int32.add_zero] at *; omega) | (simp only [Int32.lt_iff_toInt_lt, Int32.le_iff_toInt_le, ← Int32.toInt_inj, Int32.zero_add, Int32.add_zero] at *; done) | (simp only [Int32.lt_iff_toInt_lt, Int32.le_iff_toInt_le, ← Int32.toInt_inj, Int32.zero_add, Int32.add_zero] at *; simp at *; omega) | (simp at *; omega) | (simp_all; done)
set_option maxHeartbeats 400000 in
set_option maxRecDepth 100000 in
theorem k_X11_appeal (l : Launch) (E : qE) (A : Nat → Prop) (u : qS) (x : Int32) (y : Int32) (h_visitCount : u.1 10 = 0) : Met l yX11_appeal (uws yX11_appeal cX11_appeal 4 (some .boolean)) (qR 3 0 0) (qPc E A 0 u [.ref (E.2.2 1199), .int x, .int y]) (qQi E A 0 (fun r _ => r = 0)) 0 0 A := by
  refine q_met (own := RX11) (f := 3) [.ref (E.2.2 1199), .int x, .int y] (by decide) (Nat.le_of_ble_eq_true rfl) rfl ?_
  intro p0 e0 s0 m0 bl0 me0 cd0 ls hF hr hlocks hU hS hA hl
  have hl : lv_has ls 4 [(0, .ref (E.2.2 1199)), (1, .int x), (2, .int y)] := hl
  refine lv_iload_n hF.1 hF.2.1 dX11_appeal_0 rfl (lv_at hl 1 rfl) ?_
  refine lv_iconst (v := 0) hF.1 hF.2.1 dX11_appeal_1 (by decide) ?_
  refine lv_aload_n hF.1 hF.2.1 dX11_appeal_2 rfl (lv_at hl 0 rfl) ?_
  refine q_get (v := .ref (E.2.2 99)) hF hU dX11_appeal_3 0 11 0 1100 1199 rfl rfl rfl rfl inX11 (by decide) (by decide) w_436 rfl rfl ?_
  refine q_get (v := .int 0) hF hU dX11_appeal_6 1 0 10 10 99 rfl rfl rfl rfl inX0 (by decide) (by decide) w_172 rfl (congrArg Value.int h_visitCount) ?_
  refine lv_iconst (v := 1) hF.1 hF.2.1 dX11_appeal_9 (by decide) ?_
  refine lv_isub hF.1 hF.2.1 dX11_appeal_10 ?_
  refine q_topi (y := (-1)) (by decide) ?_
  have hM9 := (k_X11_isWithin l E A 0 u x 0 (-1))
  have hR9 := q_runS (l := l) (e := e0) (below := bl0) (meth := me0) (R := qR 3 0 0) (cells := 0) (slots := 0) (st0 := [.int (-1), .int 0, .int x]) (rest := []) hF hU hS hA 3 hM9 w_468 w_469 w_99 w_470 (by decide +kernel) ⟨Nat.le_of_ble_eq_true rfl, Nat.le_of_ble_eq_true rfl⟩ dX11_appeal_11 rfl hl.1 rfl (Nat.le_of_ble_eq_true rfl) ⟨Nat.le_of_ble_eq_true rfl, Nat.le_of_ble_eq_true rfl⟩
  refine q_calli hR9 hU.2.2.2 hS (fun r u1 H locs hw hU hS => ?_)
  obtain ⟨hu1, hw⟩ := hw
  rw [hu1] at hU
  obtain rfl : r = 0 := hw.elim (fun h => absurd h.2 (q_nw _)) (fun h => h.1)
  refine lv_if_eq (tgt := 27) hF.1 hF.2.1 dX11_appeal_14 (by decide) (fun _ => ?_) (fun h9 => absurd (by decide) h9)
  refine lv_iconst (v := 0) hF.1 hF.2.1 dX11_appeal_27 (by decide) ?_
  exact q_iret hF hr (by decide) hlocks hU hS dX11_appeal_28 (k_X11_appeal_r0 x y)
theorem k_X11_fewest_r0 (x : Int32) (y : Int32) : ((-1) : Int32) = (-1) := by
  first | rfl | (simp only [Int32.lt_iff_toInt_lt, Int32.le_iff_toInt_le, ← Int32.toInt_inj, Int32.zero_add, Int32.add_zero] at *; omega) | (simp only [Int32.lt_iff_toInt_lt, Int32.le_iff_toInt_le, ← Int32.toInt_inj, Int32.zero_add, Int32.add_zero] at *; done) | (simp only [Int32.lt_iff_toInt_lt, Int32.le_iff_toInt_le, ← Int32.toInt_inj, Int32.zero_add, Int32.add_zero] at *; simp at *; omega) | (simp at *; omega) | (simp_all; done)
set_option maxHeartbeats 400000 in
set_option maxRecDepth 100000 in
theorem k_X11_fewest (l : Launch) (E : qE) (A : Nat → Prop) (u : qS) (x : Int32) (y : Int32) (h_buyerCount : u.1 9 = 0) : Met l yX11_fewest (uws yX11_fewest cX11_fewest 3 (some .int)) (qR 9 0 0) (qPc E A 0 u [.ref (E.2.2 1199), .int x, .int y]) (qQi E A 0 (fun r _ => r = (-1))) 0 0 A := by
  refine q_met (own := RX11) (f := 9) [.ref (E.2.2 1199), .int x, .int y] (by decide) (Nat.le_of_ble_eq_true rfl) rfl ?_
  intro p0 e0 s0 m0 bl0 me0 cd0 ls hF hr hlocks hU hS hA hl
  have hl : lv_has ls 3 [(0, .ref (E.2.2 1199)), (1, .int x), (2, .int y)] := hl
  refine lv_aload_n hF.1 hF.2.1 dX11_fewest_0 rfl (lv_at hl 0 rfl) ?_
  refine q_get (v := .ref (E.2.2 99)) hF hU dX11_fewest_1 0 11 0 1100 1199 rfl rfl rfl rfl inX11 (by decide) (by decide) w_436 rfl rfl ?_
  refine lv_iload_n hF.1 hF.2.1 dX11_fewest_4 rfl (lv_at hl 1 rfl) ?_
  have hM9 := (k_X0_hasBuyer l E A u x h_buyerCount)
  have hR9 := q_runV (l := l) (e := e0) (below := bl0) (meth := me0) (R := qR 9 0 0) (cells := 0) (slots := 0) (st0 := [.int x, .ref (E.2.2 99)]) (rest := []) hF hU hS hA 1 1 0 99 rfl rfl rfl hM9 w_568 w_569 w_570 w_100 w_571 (by decide +kernel) ⟨Nat.le_of_ble_eq_true rfl, Nat.le_of_ble_eq_true rfl⟩ dX11_fewest_5 rfl hl.1 rfl (Nat.le_of_ble_eq_true rfl) ⟨Nat.le_of_ble_eq_true rfl, Nat.le_of_ble_eq_true rfl⟩
  refine q_calli hR9 hU.2.2.2 hS (fun r u1 H locs hw hU hS => ?_)
  rw [hw.1] at hU
  refine q_topi hw.2 ?_
  refine lv_if_eq (tgt := 18) hF.1 hF.2.1 dX11_fewest_8 (by decide) (fun _ => ?_) (fun h9 => absurd (by decide) h9)
  refine lv_iconst (v := (-1)) hF.1 hF.2.1 dX11_fewest_18 (by decide) ?_
  exact q_iret hF hr rfl hlocks hU hS dX11_fewest_19 (k_X11_fewest_r0 x y)
theorem k_X11_set_r0 (x : Int32) (y : Int32) (z : Int32) : ((-1) : Int32) = (-1) := by
  first | rfl | (simp only [Int32.lt_iff_toInt_lt, Int32.le_iff_toInt_le, ← Int32.toInt_inj, Int32.zero_add, Int32.add_zero] at *; omega) | (simp only [Int32.lt_iff_toInt_lt, Int32.le_iff_toInt_le, ← Int32.toInt_inj, Int32.zero_add, Int32.add_zero] at *; done) | (simp only [Int32.lt_iff_toInt_lt, Int32.le_iff_toInt_le, ← Int32.toInt_inj, Int32.zero_add, Int32.add_zero] at *; simp at *; omega) | (simp at *; omega) | (simp_all; done)
set_option maxHeartbeats 400000 in
set_option maxRecDepth 100000 in
theorem k_X11_set (l : Launch) (E : qE) (A : Nat → Prop) (u : qS) (x : Int32) (y : Int32) (z : Int32) (h_buyerCount : u.1 9 = 0) : Met l yX11_set (uws yX11_set cX11_set 4 (some .int)) (qR 9 0 0) (qPc E A 0 u [.ref (E.2.2 1199), .int x, .int y, .int z]) (qQi E A 0 (fun r _ => r = (-1))) 0 0 A := by
  refine q_met (own := RX11) (f := 9) [.ref (E.2.2 1199), .int x, .int y, .int z] (by decide) (Nat.le_of_ble_eq_true rfl) rfl ?_
  intro p0 e0 s0 m0 bl0 me0 cd0 ls hF hr hlocks hU hS hA hl
  have hl : lv_has ls 4 [(0, .ref (E.2.2 1199)), (1, .int x), (2, .int y), (3, .int z)] := hl
  refine lv_aload_n hF.1 hF.2.1 dX11_set_0 rfl (lv_at hl 0 rfl) ?_
  refine q_get (v := .ref (E.2.2 99)) hF hU dX11_set_1 0 11 0 1100 1199 rfl rfl rfl rfl inX11 (by decide) (by decide) w_436 rfl rfl ?_
  refine lv_iload_n hF.1 hF.2.1 dX11_set_4 rfl (lv_at hl 1 rfl) ?_
  have hM9 := (k_X0_hasBuyer l E A u x h_buyerCount)
  have hR9 := q_runV (l := l) (e := e0) (below := bl0) (meth := me0) (R := qR 9 0 0) (cells := 0) (slots := 0) (st0 := [.int x, .ref (E.2.2 99)]) (rest := []) hF hU hS hA 1 1 0 99 rfl rfl rfl hM9 w_568 w_569 w_570 w_100 w_571 (by decide +kernel) ⟨Nat.le_of_ble_eq_true rfl, Nat.le_of_ble_eq_true rfl⟩ dX11_set_5 rfl hl.1 rfl (Nat.le_of_ble_eq_true rfl) ⟨Nat.le_of_ble_eq_true rfl, Nat.le_of_ble_eq_true rfl⟩
  refine q_calli hR9 hU.2.2.2 hS (fun r u1 H locs hw hU hS => ?_)
  rw [hw.1] at hU
  refine q_topi hw.2 ?_
  refine lv_if_eq (tgt := 28) hF.1 hF.2.1 dX11_set_8 (by decide) (fun _ => ?_) (fun h9 => absurd (by decide) h9)
  refine lv_iconst (v := (-1)) hF.1 hF.2.1 dX11_set_28 (by decide) ?_
  exact q_iret hF hr rfl hlocks hU hS dX11_set_29 (k_X11_set_r0 x y z)
theorem k_X11_meetings_r0 (x : Int32) (y : Int32) : ((-1) : Int32) = (-1) := by
  first | rfl | (simp only [Int32.lt_iff_toInt_lt, Int32.le_iff_toInt_le, ← Int32.toInt_inj, Int32.zero_add, Int32.add_zero] at *; omega) | (simp only [Int32.lt_iff_toInt_lt, Int32.le_iff_toInt_le, ← Int32.toInt_inj, Int32.zero_add, Int32.add_zero] at *; done) | (simp only [Int32.lt_iff_toInt_lt, Int32.le_iff_toInt_le, ← Int32.toInt_inj, Int32.zero_add, Int32.add_zero] at *; simp at *; omega) | (simp at *; omega) | (simp_all; done)
set_option maxHeartbeats 400000 in
set_option maxRecDepth 100000 in
theorem k_X11_meetings (l : Launch) (E : qE) (A : Nat → Prop) (u : qS) (x : Int32) (y : Int32) (h_buyerCount : u.1 9 = 0) : Met l yX11_meetings (uws yX11_meetings cX11_meetings 3 (some .int)) (qR 9 0 0) (qPc E A 0 u [.ref (E.2.2 1199), .int x, .int y]) (qQi E A 0 (fun r _ => r = (-1))) 0 0 A := by
  refine q_met (own := RX11) (f := 9) [.ref (E.2.2 1199), .int x, .int y] (by decide) (Nat.le_of_ble_eq_true rfl) rfl ?_
  intro p0 e0 s0 m0 bl0 me0 cd0 ls hF hr hlocks hU hS hA hl
  have hl : lv_has ls 3 [(0, .ref (E.2.2 1199)), (1, .int x), (2, .int y)] := hl
  refine lv_aload_n hF.1 hF.2.1 dX11_meetings_0 rfl (lv_at hl 0 rfl) ?_
  refine q_get (v := .ref (E.2.2 99)) hF hU dX11_meetings_1 0 11 0 1100 1199 rfl rfl rfl rfl inX11 (by decide) (by decide) w_436 rfl rfl ?_
  refine lv_iload_n hF.1 hF.2.1 dX11_meetings_4 rfl (lv_at hl 1 rfl) ?_
  have hM9 := (k_X0_hasBuyer l E A u x h_buyerCount)
  have hR9 := q_runV (l := l) (e := e0) (below := bl0) (meth := me0) (R := qR 9 0 0) (cells := 0) (slots := 0) (st0 := [.int x, .ref (E.2.2 99)]) (rest := []) hF hU hS hA 1 1 0 99 rfl rfl rfl hM9 w_568 w_569 w_570 w_100 w_571 (by decide +kernel) ⟨Nat.le_of_ble_eq_true rfl, Nat.le_of_ble_eq_true rfl⟩ dX11_meetings_5 rfl hl.1 rfl (Nat.le_of_ble_eq_true rfl) ⟨Nat.le_of_ble_eq_true rfl, Nat.le_of_ble_eq_true rfl⟩
  refine q_calli hR9 hU.2.2.2 hS (fun r u1 H locs hw hU hS => ?_)
  rw [hw.1] at hU
  refine q_topi hw.2 ?_
  refine lv_if_eq (tgt := 27) hF.1 hF.2.1 dX11_meetings_8 (by decide) (fun _ => ?_) (fun h9 => absurd (by decide) h9)
  refine lv_iconst (v := (-1)) hF.1 hF.2.1 dX11_meetings_27 (by decide) ?_
  exact q_iret hF hr rfl hlocks hU hS dX11_meetings_28 (k_X11_meetings_r0 x y)
theorem k_X11_may_r0 (x : Int32) (y : Int32) (z : Int32) : ((-1) : Int32) = (-1) := by
  first | rfl | (simp only [Int32.lt_iff_toInt_lt, Int32.le_iff_toInt_le, ← Int32.toInt_inj, Int32.zero_add, Int32.add_zero] at *; omega) | (simp only [Int32.lt_iff_toInt_lt, Int32.le_iff_toInt_le, ← Int32.toInt_inj, Int32.zero_add, Int32.add_zero] at *; done) | (simp only [Int32.lt_iff_toInt_lt, Int32.le_iff_toInt_le, ← Int32.toInt_inj, Int32.zero_add, Int32.add_zero] at *; simp at *; omega) | (simp at *; omega) | (simp_all; done)
set_option maxHeartbeats 400000 in
set_option maxRecDepth 100000 in
theorem k_X11_may (l : Launch) (E : qE) (A : Nat → Prop) (u : qS) (x : Int32) (y : Int32) (z : Int32) (h_buyerCount : u.1 9 = 0) : Met l yX11_may (uws yX11_may cX11_may 4 (some .int)) (qR 9 0 0) (qPc E A 0 u [.ref (E.2.2 1199), .int x, .int y, .int z]) (qQi E A 0 (fun r _ => r = (-1))) 0 0 A := by
  refine q_met (own := RX11) (f := 9) [.ref (E.2.2 1199), .int x, .int y, .int z] (by decide) (Nat.le_of_ble_eq_true rfl) rfl ?_
  intro p0 e0 s0 m0 bl0 me0 cd0 ls hF hr hlocks hU hS hA hl
  have hl : lv_has ls 4 [(0, .ref (E.2.2 1199)), (1, .int x), (2, .int y), (3, .int z)] := hl
  refine lv_aload_n hF.1 hF.2.1 dX11_may_0 rfl (lv_at hl 0 rfl) ?_
  refine q_get (v := .ref (E.2.2 99)) hF hU dX11_may_1 0 11 0 1100 1199 rfl rfl rfl rfl inX11 (by decide) (by decide) w_436 rfl rfl ?_
  refine lv_iload_n hF.1 hF.2.1 dX11_may_4 rfl (lv_at hl 1 rfl) ?_
  have hM9 := (k_X0_hasBuyer l E A u x h_buyerCount)
  have hR9 := q_runV (l := l) (e := e0) (below := bl0) (meth := me0) (R := qR 9 0 0) (cells := 0) (slots := 0) (st0 := [.int x, .ref (E.2.2 99)]) (rest := []) hF hU hS hA 1 1 0 99 rfl rfl rfl hM9 w_568 w_569 w_570 w_100 w_571 (by decide +kernel) ⟨Nat.le_of_ble_eq_true rfl, Nat.le_of_ble_eq_true rfl⟩ dX11_may_5 rfl hl.1 rfl (Nat.le_of_ble_eq_true rfl) ⟨Nat.le_of_ble_eq_true rfl, Nat.le_of_ble_eq_true rfl⟩
  refine q_calli hR9 hU.2.2.2 hS (fun r u1 H locs hw hU hS => ?_)
  rw [hw.1] at hU
  refine q_topi hw.2 ?_
  refine lv_if_eq (tgt := 29) hF.1 hF.2.1 dX11_may_8 (by decide) (fun _ => ?_) (fun h9 => absurd (by decide) h9)
  refine lv_iconst (v := (-1)) hF.1 hF.2.1 dX11_may_29 (by decide) ?_
  exact q_iret hF hr rfl hlocks hU hS dX11_may_30 (k_X11_may_r0 x y z)
theorem k_X11_drawn_r0 (x : Int32) (y : Int32) (z : Int32) : ((-1) : Int32) = (-1) := by
  first | rfl | (simp only [Int32.lt_iff_toInt_lt, Int32.le_iff_toInt_le, ← Int32.toInt_inj, Int32.zero_add, Int32.add_zero] at *; omega) | (simp only [Int32.lt_iff_toInt_lt, Int32.le_iff_toInt_le, ← Int32.toInt_inj, Int32.zero_add, Int32.add_zero] at *; done) | (simp only [Int32.lt_iff_toInt_lt, Int32.le_iff_toInt_le, ← Int32.toInt_inj, Int32.zero_add, Int32.add_zero] at *; simp at *; omega) | (simp at *; omega) | (simp_all; done)
set_option maxHeartbeats 400000 in
set_option maxRecDepth 100000 in
theorem k_X11_drawn (l : Launch) (E : qE) (A : Nat → Prop) (u : qS) (x : Int32) (y : Int32) (z : Int32) (h_shopCount : u.1 8 = 0) : Met l yX11_drawn (uws yX11_drawn cX11_drawn 10 (some .int)) (qR 9 0 0) (qPc E A 0 u [.ref (E.2.2 1199), .int x, .int y, .int z]) (qQi E A 0 (fun r _ => r = (-1))) 0 0 A := by
  refine q_met (own := RX11) (f := 9) [.ref (E.2.2 1199), .int x, .int y, .int z] (by decide) (Nat.le_of_ble_eq_true rfl) rfl ?_
  intro p0 e0 s0 m0 bl0 me0 cd0 ls hF hr hlocks hU hS hA hl
  have hl : lv_has ls 10 [(0, .ref (E.2.2 1199)), (1, .int x), (2, .int y), (3, .int z)] := hl
  refine lv_aload_n hF.1 hF.2.1 dX11_drawn_0 rfl (lv_at hl 0 rfl) ?_
  refine q_get (v := .ref (E.2.2 99)) hF hU dX11_drawn_1 0 11 0 1100 1199 rfl rfl rfl rfl inX11 (by decide) (by decide) w_436 rfl rfl ?_
  refine lv_iload_n hF.1 hF.2.1 dX11_drawn_4 rfl (lv_at hl 1 rfl) ?_
  have hM9 := (k_X0_hasShop l E A u x h_shopCount)
  have hR9 := q_runV (l := l) (e := e0) (below := bl0) (meth := me0) (R := qR 9 0 0) (cells := 0) (slots := 0) (st0 := [.int x, .ref (E.2.2 99)]) (rest := []) hF hU hS hA 1 1 0 99 rfl rfl rfl hM9 w_563 w_564 w_565 w_100 w_566 (by decide +kernel) ⟨Nat.le_of_ble_eq_true rfl, Nat.le_of_ble_eq_true rfl⟩ dX11_drawn_5 rfl hl.1 rfl (Nat.le_of_ble_eq_true rfl) ⟨Nat.le_of_ble_eq_true rfl, Nat.le_of_ble_eq_true rfl⟩
  refine q_calli hR9 hU.2.2.2 hS (fun r u1 H locs hw hU hS => ?_)
  rw [hw.1] at hU
  refine q_topi hw.2 ?_
  refine lv_if_eq (tgt := 26) hF.1 hF.2.1 dX11_drawn_8 (by decide) (fun _ => ?_) (fun h9 => absurd (by decide) h9)
  refine lv_iconst (v := (-1)) hF.1 hF.2.1 dX11_drawn_26 (by decide) ?_
  exact q_iret hF hr rfl hlocks hU hS dX11_drawn_27 (k_X11_drawn_r0 x y z)
theorem k_X11_sway_r0 (x : Int32) (y : Int32) : ((-1) : Int32) = (-1) := by
  first | rfl | (simp only [Int32.lt_iff_toInt_lt, Int32.le_iff_toInt_le, ← Int32.toInt_inj, Int32.zero_add, Int32.add_zero] at *; omega) | (simp only [Int32.lt_iff_toInt_lt, Int32.le_iff_toInt_le, ← Int32.toInt_inj, Int32.zero_add, Int32.add_zero] at *; done) | (simp only [Int32.lt_iff_toInt_lt, Int32.le_iff_toInt_le, ← Int32.toInt_inj, Int32.zero_add, Int32.add_zero] at *; simp at *; omega) | (simp at *; omega) | (simp_all; done)
set_option maxHeartbeats 400000 in
set_option maxRecDepth 100000 in
theorem k_X11_sway (l : Launch) (E : qE) (A : Nat → Prop) (u : qS) (x : Int32) (y : Int32) (h_shopCount : u.1 8 = 0) : Met l yX11_sway (uws yX11_sway cX11_sway 8 (some .int)) (qR 9 0 0) (qPc E A 0 u [.ref (E.2.2 1199), .int x, .int y]) (qQi E A 0 (fun r _ => r = (-1))) 0 0 A := by
  refine q_met (own := RX11) (f := 9) [.ref (E.2.2 1199), .int x, .int y] (by decide) (Nat.le_of_ble_eq_true rfl) rfl ?_
  intro p0 e0 s0 m0 bl0 me0 cd0 ls hF hr hlocks hU hS hA hl
  have hl : lv_has ls 8 [(0, .ref (E.2.2 1199)), (1, .int x), (2, .int y)] := hl
  refine lv_aload_n hF.1 hF.2.1 dX11_sway_0 rfl (lv_at hl 0 rfl) ?_
  refine q_get (v := .ref (E.2.2 99)) hF hU dX11_sway_1 0 11 0 1100 1199 rfl rfl rfl rfl inX11 (by decide) (by decide) w_436 rfl rfl ?_
  refine lv_iload_n hF.1 hF.2.1 dX11_sway_4 rfl (lv_at hl 1 rfl) ?_
  have hM9 := (k_X0_hasShop l E A u x h_shopCount)
  have hR9 := q_runV (l := l) (e := e0) (below := bl0) (meth := me0) (R := qR 9 0 0) (cells := 0) (slots := 0) (st0 := [.int x, .ref (E.2.2 99)]) (rest := []) hF hU hS hA 1 1 0 99 rfl rfl rfl hM9 w_563 w_564 w_565 w_100 w_566 (by decide +kernel) ⟨Nat.le_of_ble_eq_true rfl, Nat.le_of_ble_eq_true rfl⟩ dX11_sway_5 rfl hl.1 rfl (Nat.le_of_ble_eq_true rfl) ⟨Nat.le_of_ble_eq_true rfl, Nat.le_of_ble_eq_true rfl⟩
  refine q_calli hR9 hU.2.2.2 hS (fun r u1 H locs hw hU hS => ?_)
  rw [hw.1] at hU
  refine q_topi hw.2 ?_
  refine lv_if_eq (tgt := 20) hF.1 hF.2.1 dX11_sway_8 (by decide) (fun _ => ?_) (fun h9 => absurd (by decide) h9)
  refine lv_iconst (v := (-1)) hF.1 hF.2.1 dX11_sway_20 (by decide) ?_
  exact q_iret hF hr rfl hlocks hU hS dX11_sway_21 (k_X11_sway_r0 x y)
theorem k_X11_given_r0 (x : Int32) (y : Int32) (z : Int32) (c1_1 : (x : Int32) ≤ 0) : ((-1) : Int32) = (-1) := by
  first | rfl | (simp only [Int32.lt_iff_toInt_lt, Int32.le_iff_toInt_le, ← Int32.toInt_inj, Int32.zero_add, Int32.add_zero] at *; omega) | (simp only [Int32.lt_iff_toInt_lt, Int32.le_iff_toInt_le, ← Int32.toInt_inj, Int32.zero_add, Int32.add_zero] at *; done) | (simp only [Int32.lt_iff_toInt_lt, Int32.le_iff_toInt_le, ← Int32.toInt_inj, Int32.zero_add, Int32.add_zero] at *; simp at *; omega) | (simp at *; omega) | (simp_all; done)
theorem k_X11_given_r1 (x : Int32) (y : Int32) (z : Int32) (c1_1 : ¬ (x : Int32) ≤ 0) (c14_2 : 1 ≤ (x : Int32)) : ((-1) : Int32) = (-1) := by
  first | rfl | (simp only [Int32.lt_iff_toInt_lt, Int32.le_iff_toInt_le, ← Int32.toInt_inj, Int32.zero_add, Int32.add_zero] at *; omega) | (simp only [Int32.lt_iff_toInt_lt, Int32.le_iff_toInt_le, ← Int32.toInt_inj, Int32.zero_add, Int32.add_zero] at *; done) | (simp only [Int32.lt_iff_toInt_lt, Int32.le_iff_toInt_le, ← Int32.toInt_inj, Int32.zero_add, Int32.add_zero] at *; simp at *; omega) | (simp at *; omega) | (simp_all; done)
theorem k_X11_given_r2 (x : Int32) (y : Int32) (z : Int32) (c1_1 : ¬ (x : Int32) ≤ 0) (c14_2 : ¬ 1 ≤ (x : Int32)) : False := by
  first | rfl | (simp only [Int32.lt_iff_toInt_lt, Int32.le_iff_toInt_le, ← Int32.toInt_inj, Int32.zero_add, Int32.add_zero] at *; omega) | (simp only [Int32.lt_iff_toInt_lt, Int32.le_iff_toInt_le, ← Int32.toInt_inj, Int32.zero_add, Int32.add_zero] at *; done) | (simp only [Int32.lt_iff_toInt_lt, Int32.le_iff_toInt_le, ← Int32.toInt_inj, Int32.zero_add, Int32.add_zero] at *; simp at *; omega) | (simp at *; omega) | (simp_all; done)
set_option maxHeartbeats 400000 in
set_option maxRecDepth 100000 in
theorem k_X11_given (l : Launch) (E : qE) (A : Nat → Prop) (u : qS) (x : Int32) (y : Int32) (z : Int32) (h_shopCount : u.1 8 = 0) : Met l yX11_given (uws yX11_given cX11_given 4 (some .int)) (qR 9 0 0) (qPc E A 0 u [.ref (E.2.2 1199), .int x, .int y, .int z]) (qQi E A 0 (fun r _ => r = (-1))) 0 0 A := by
  refine q_met (own := RX11) (f := 9) [.ref (E.2.2 1199), .int x, .int y, .int z] (by decide) (Nat.le_of_ble_eq_true rfl) rfl ?_
  intro p0 e0 s0 m0 bl0 me0 cd0 ls hF hr hlocks hU hS hA hl
  have hl : lv_has ls 4 [(0, .ref (E.2.2 1199)), (1, .int x), (2, .int y), (3, .int z)] := hl
  refine lv_iload_n hF.1 hF.2.1 dX11_given_0 rfl (lv_at hl 1 rfl) ?_
  refine lv_if_le (tgt := 26) hF.1 hF.2.1 dX11_given_1 (by decide) (fun c1_1 => ?_) (fun c1_1 => ?_)
  · refine lv_iconst (v := (-1)) hF.1 hF.2.1 dX11_given_26 (by decide) ?_
    exact q_iret hF hr rfl hlocks hU hS dX11_given_27 (k_X11_given_r0 x y z c1_1)
  · refine lv_iload_n hF.1 hF.2.1 dX11_given_4 rfl (lv_at hl 1 rfl) ?_
    refine lv_iconst (v := 1) hF.1 hF.2.1 dX11_given_5 (by decide) ?_
    refine lv_aload_n hF.1 hF.2.1 dX11_given_6 rfl (lv_at hl 0 rfl) ?_
    refine q_get (v := .ref (E.2.2 99)) hF hU dX11_given_7 0 11 0 1100 1199 rfl rfl rfl rfl inX11 (by decide) (by decide) w_436 rfl rfl ?_
    refine q_get (v := .int 0) hF hU dX11_given_10 1 0 8 8 99 rfl rfl rfl rfl inX0 (by decide) (by decide) w_162 rfl (congrArg Value.int h_shopCount) ?_
    refine lv_ishl hF.1 hF.2.1 dX11_given_13 ?_
    refine q_topi (y := 1) (by decide) ?_
    refine lv_icmp_ge (tgt := 26) hF.1 hF.2.1 dX11_given_14 (by decide) (fun c14_2 => ?_) (fun c14_2 => ?_)
    · refine lv_iconst (v := (-1)) hF.1 hF.2.1 dX11_given_26 (by decide) ?_
      exact q_iret hF hr rfl hlocks hU hS dX11_given_27 (k_X11_given_r1 x y z c1_1 c14_2)
    · refine lv_iload_n hF.1 hF.2.1 dX11_given_17 rfl (lv_at hl 1 rfl) ?_
      exact (k_X11_given_r2 x y z c1_1 c14_2).elim
theorem k_fill_303_r0 (u : qS) (uc : qS) (v : Int32) (i : Nat) (k : Int32) (f_2 : Nat → Int32) (h1 : k = nI i) (h2 : i ≤ 8) (h3 : uc.1 = u.1) (c7_1 : ¬ 8 ≤ (k : Int32)) (hf_2 : upd (uc.2.1 303) (k : Int32).toNatClampNeg v = f_2) : (k + 1) = nI (i + 1) := by
  rw [h1]; exact nI_1 i
theorem k_fill_303_r1 (u : qS) (uc : qS) (v : Int32) (i : Nat) (k : Int32) (f_2 : Nat → Int32) (h1 : k = nI i) (h2 : i ≤ 8) (h3 : uc.1 = u.1) (c7_1 : ¬ 8 ≤ (k : Int32)) (hf_2 : upd (uc.2.1 303) (k : Int32).toNatClampNeg v = f_2) : (i + 1) ≤ 8 := by
  have := fill_lt h1 (by assumption) (by decide) h2; omega
theorem k_fill_303_r2 (u : qS) (uc : qS) (v : Int32) (i : Nat) (k : Int32) (f_2 : Nat → Int32) (h1 : k = nI i) (h2 : i ≤ 8) (h3 : uc.1 = u.1) (c7_1 : ¬ 8 ≤ (k : Int32)) (hf_2 : upd (uc.2.1 303) (k : Int32).toNatClampNeg v = f_2) : (qsF uc 303 f_2).1 = u.1 := by
  exact h3
theorem k_fill_303_r3 (u : qS) (uc : qS) (v : Int32) (i : Nat) (k : Int32) (f_2 : Nat → Int32) (h1 : k = nI i) (h2 : i ≤ 8) (h3 : uc.1 = u.1) (c7_1 : ¬ 8 ≤ (k : Int32)) (hf_2 : upd (uc.2.1 303) (k : Int32).toNatClampNeg v = f_2) : 8 - (i + 1) < 8 - i := by
  have := fill_lt h1 (by assumption) (by decide) h2; omega
theorem k_fill_303_r4 (u : qS) (v : Int32) : 0 = nI 0 := by
  exact nI_0.symm
theorem k_fill_303_r5 (u : qS) (v : Int32) : 0 ≤ 8 := by
  omega
theorem k_fill_303_r6 (u : qS) (v : Int32) : (u).1 = u.1 := by
  rfl
set_option maxHeartbeats 400000 in
set_option maxRecDepth 100000 in
theorem k_fill_303 (l : Launch) (E : qE) (A : Nat → Prop) (u : qS) (v : Int32) : Met l yJ7_fill_53178 (uws yJ7_fill_53178 cJ7_fill_53178 4 none) (qR 0 0 0) (qPc E A 0 u [.ref (E.2.2 303), .int v]) (qQv E A 0 (fun u1 => u1.1 = u.1)) 0 0 A := by
  refine q_met (own := RJ7) (f := 0) [.ref (E.2.2 303), .int v] (by decide) (Nat.le_of_ble_eq_true rfl) rfl ?_
  intro p0 e0 s0 m0 bl0 me0 cd0 ls hF hr hlocks hU hS hA hl
  have hl : lv_has ls 4 [(0, .ref (E.2.2 303)), (1, .int v)] := hl
  have main : ∀ n : Nat, (∀ (i : Nat) (k : Int32) (uc : qS) (H : Heap) (locs : List Loc) (ls : Array Slot) (h1 : k = nI i) (h2 : i ≤ 8) (h3 : uc.1 = u.1), 8 - i < n → qH E A 0 uc s0 H → va_S A s0.heap H locs → lv_has ls 4 [(0, .ref (E.2.2 303)), (1, .int v), (2, .int k), (3, .int 8)] → W p0 l e0 (qR 0 0 0) s0 m0 ([.ref (E.2.2 303), .int v] : List Value).toArray bl0 me0 cd0 H locs 0 0 (MQ bl0 (qQv E A 0 (fun u1 => u1.1 = u.1)) ([.ref (E.2.2 303), .int v] : List Value).toArray s0 0 0 A) (F0 m0 5 ls [])) := by
    intro n
    induction n with
    | zero => exact fun _ _ _ _ _ _ _ _ _ hmu => absurd hmu (Nat.not_lt_zero _)
    | succ n ih =>
      intro i k uc H locs ls h1 h2 h3 hmu hU hS hl
      refine lv_iload_n hF.1 hF.2.1 dJ7_fill_53178_5 rfl (lv_at hl 2 rfl) ?_
      refine lv_iload_n hF.1 hF.2.1 dJ7_fill_53178_6 rfl (lv_at hl 3 rfl) ?_
      refine lv_icmp_ge (tgt := 20) hF.1 hF.2.1 dJ7_fill_53178_7 (by decide) (fun c7_1 => ?_) (fun c7_1 => ?_)
      · exact q_vret hF hr hlocks hU hS dJ7_fill_53178_20 (h3)
      · refine lv_aload_n hF.1 hF.2.1 dJ7_fill_53178_10 rfl (lv_at hl 0 rfl) ?_
        refine lv_iload_n hF.1 hF.2.1 dJ7_fill_53178_11 rfl (lv_at hl 2 rfl) ?_
        refine lv_iload_n hF.1 hF.2.1 dJ7_fill_53178_12 rfl (lv_at hl 1 rfl) ?_
        refine q_iast hF hU hS dJ7_fill_53178_13 18 303 rfl rfl (fill_in h1 (by assumption) (by decide) h2) (fun f_2 H locs hg hU hS => ?_)
        have hf_2 : upd (uc.2.1 303) (k : Int32).toNatClampNeg v = f_2 := hg.symm
        refine lv_iinc (v := k + 1) (lv' := [(2, .int (k + 1)), (0, .ref (E.2.2 303)), (1, .int v), (3, .int 8)]) hF.1 hF.2.1 dJ7_fill_53178_14 hl (k := 2) rfl rfl (by decide) rfl (fun ls hl => ?_)
        refine lv_goto (tgt := 5) hF.1 hF.2.1 dJ7_fill_53178_17 (by decide) ?_
        exact ih (i + 1) (k + 1) (qsF uc 303 f_2) _ _ _ (k_fill_303_r0 u uc v i k f_2 h1 h2 h3 c7_1 hf_2) (k_fill_303_r1 u uc v i k f_2 h1 h2 h3 c7_1 hf_2) (k_fill_303_r2 u uc v i k f_2 h1 h2 h3 c7_1 hf_2) (Nat.lt_of_lt_of_le (k_fill_303_r3 u uc v i k f_2 h1 h2 h3 c7_1 hf_2) (Nat.lt_succ_iff.mp hmu)) hU hS (lv_sub hl [1, 2, 0, 3] rfl)
  refine lv_iconst (v := 0) hF.1 hF.2.1 dJ7_fill_53178_0 (by decide) ?_
  refine lv_istore_n (lv' := [(2, .int 0), (0, .ref (E.2.2 303)), (1, .int v)]) hF.1 hF.2.1 dJ7_fill_53178_1 rfl hl (by decide) rfl (fun ls hl => ?_)
  refine lv_aload_n hF.1 hF.2.1 dJ7_fill_53178_2 rfl (lv_at hl 1 rfl) ?_
  refine q_alen (v := 8) hF hU dJ7_fill_53178_3 18 303 rfl 0 (by decide) rfl ?_
  refine lv_istore_n (lv' := [(3, .int 8), (2, .int 0), (0, .ref (E.2.2 303)), (1, .int v)]) hF.1 hF.2.1 dJ7_fill_53178_4 rfl hl (by decide) rfl (fun ls hl => ?_)
  exact (main _) 0 0 u _ _ _ (k_fill_303_r4 u v) (k_fill_303_r5 u v) (k_fill_303_r6 u v) (Nat.lt_succ_self _) hU hS (lv_sub hl [2, 3, 1, 0] rfl)
theorem k_fill_304_r0 (u : qS) (uc : qS) (v : Int32) (i : Nat) (k : Int32) (f_2 : Nat → Int32) (h1 : k = nI i) (h2 : i ≤ 8) (h3 : uc.1 = u.1) (c7_1 : ¬ 8 ≤ (k : Int32)) (hf_2 : upd (uc.2.1 304) (k : Int32).toNatClampNeg v = f_2) : (k + 1) = nI (i + 1) := by
  rw [h1]; exact nI_1 i
theorem k_fill_304_r1 (u : qS) (uc : qS) (v : Int32) (i : Nat) (k : Int32) (f_2 : Nat → Int32) (h1 : k = nI i) (h2 : i ≤ 8) (h3 : uc.1 = u.1) (c7_1 : ¬ 8 ≤ (k : Int32)) (hf_2 : upd (uc.2.1 304) (k : Int32).toNatClampNeg v = f_2) : (i + 1) ≤ 8 := by
  have := fill_lt h1 (by assumption) (by decide) h2; omega
theorem k_fill_304_r2 (u : qS) (uc : qS) (v : Int32) (i : Nat) (k : Int32) (f_2 : Nat → Int32) (h1 : k = nI i) (h2 : i ≤ 8) (h3 : uc.1 = u.1) (c7_1 : ¬ 8 ≤ (k : Int32)) (hf_2 : upd (uc.2.1 304) (k : Int32).toNatClampNeg v = f_2) : (qsF uc 304 f_2).1 = u.1 := by
  exact h3
theorem k_fill_304_r3 (u : qS) (uc : qS) (v : Int32) (i : Nat) (k : Int32) (f_2 : Nat → Int32) (h1 : k = nI i) (h2 : i ≤ 8) (h3 : uc.1 = u.1) (c7_1 : ¬ 8 ≤ (k : Int32)) (hf_2 : upd (uc.2.1 304) (k : Int32).toNatClampNeg v = f_2) : 8 - (i + 1) < 8 - i := by
  have := fill_lt h1 (by assumption) (by decide) h2; omega
theorem k_fill_304_r4 (u : qS) (v : Int32) : 0 = nI 0 := by
  exact nI_0.symm
theorem k_fill_304_r5 (u : qS) (v : Int32) : 0 ≤ 8 := by
  omega
theorem k_fill_304_r6 (u : qS) (v : Int32) : (u).1 = u.1 := by
  rfl
set_option maxHeartbeats 400000 in
set_option maxRecDepth 100000 in
theorem k_fill_304 (l : Launch) (E : qE) (A : Nat → Prop) (u : qS) (v : Int32) : Met l yJ7_fill_53178 (uws yJ7_fill_53178 cJ7_fill_53178 4 none) (qR 0 0 0) (qPc E A 0 u [.ref (E.2.2 304), .int v]) (qQv E A 0 (fun u1 => u1.1 = u.1)) 0 0 A := by
  refine q_met (own := RJ7) (f := 0) [.ref (E.2.2 304), .int v] (by decide) (Nat.le_of_ble_eq_true rfl) rfl ?_
  intro p0 e0 s0 m0 bl0 me0 cd0 ls hF hr hlocks hU hS hA hl
  have hl : lv_has ls 4 [(0, .ref (E.2.2 304)), (1, .int v)] := hl
  have main : ∀ n : Nat, (∀ (i : Nat) (k : Int32) (uc : qS) (H : Heap) (locs : List Loc) (ls : Array Slot) (h1 : k = nI i) (h2 : i ≤ 8) (h3 : uc.1 = u.1), 8 - i < n → qH E A 0 uc s0 H → va_S A s0.heap H locs → lv_has ls 4 [(0, .ref (E.2.2 304)), (1, .int v), (2, .int k), (3, .int 8)] → W p0 l e0 (qR 0 0 0) s0 m0 ([.ref (E.2.2 304), .int v] : List Value).toArray bl0 me0 cd0 H locs 0 0 (MQ bl0 (qQv E A 0 (fun u1 => u1.1 = u.1)) ([.ref (E.2.2 304), .int v] : List Value).toArray s0 0 0 A) (F0 m0 5 ls [])) := by
    intro n
    induction n with
    | zero => exact fun _ _ _ _ _ _ _ _ _ hmu => absurd hmu (Nat.not_lt_zero _)
    | succ n ih =>
      intro i k uc H locs ls h1 h2 h3 hmu hU hS hl
      refine lv_iload_n hF.1 hF.2.1 dJ7_fill_53178_5 rfl (lv_at hl 2 rfl) ?_
      refine lv_iload_n hF.1 hF.2.1 dJ7_fill_53178_6 rfl (lv_at hl 3 rfl) ?_
      refine lv_icmp_ge (tgt := 20) hF.1 hF.2.1 dJ7_fill_53178_7 (by decide) (fun c7_1 => ?_) (fun c7_1 => ?_)
      · exact q_vret hF hr hlocks hU hS dJ7_fill_53178_20 (h3)
      · refine lv_aload_n hF.1 hF.2.1 dJ7_fill_53178_10 rfl (lv_at hl 0 rfl) ?_
        refine lv_iload_n hF.1 hF.2.1 dJ7_fill_53178_11 rfl (lv_at hl 2 rfl) ?_
        refine lv_iload_n hF.1 hF.2.1 dJ7_fill_53178_12 rfl (lv_at hl 1 rfl) ?_
        refine q_iast hF hU hS dJ7_fill_53178_13 19 304 rfl rfl (fill_in h1 (by assumption) (by decide) h2) (fun f_2 H locs hg hU hS => ?_)
        have hf_2 : upd (uc.2.1 304) (k : Int32).toNatClampNeg v = f_2 := hg.symm
        refine lv_iinc (v := k + 1) (lv' := [(2, .int (k + 1)), (0, .ref (E.2.2 304)), (1, .int v), (3, .int 8)]) hF.1 hF.2.1 dJ7_fill_53178_14 hl (k := 2) rfl rfl (by decide) rfl (fun ls hl => ?_)
        refine lv_goto (tgt := 5) hF.1 hF.2.1 dJ7_fill_53178_17 (by decide) ?_
        exact ih (i + 1) (k + 1) (qsF uc 304 f_2) _ _ _ (k_fill_304_r0 u uc v i k f_2 h1 h2 h3 c7_1 hf_2) (k_fill_304_r1 u uc v i k f_2 h1 h2 h3 c7_1 hf_2) (k_fill_304_r2 u uc v i k f_2 h1 h2 h3 c7_1 hf_2) (Nat.lt_of_lt_of_le (k_fill_304_r3 u uc v i k f_2 h1 h2 h3 c7_1 hf_2) (Nat.lt_succ_iff.mp hmu)) hU hS (lv_sub hl [1, 2, 0, 3] rfl)
  refine lv_iconst (v := 0) hF.1 hF.2.1 dJ7_fill_53178_0 (by decide) ?_
  refine lv_istore_n (lv' := [(2, .int 0), (0, .ref (E.2.2 304)), (1, .int v)]) hF.1 hF.2.1 dJ7_fill_53178_1 rfl hl (by decide) rfl (fun ls hl => ?_)
  refine lv_aload_n hF.1 hF.2.1 dJ7_fill_53178_2 rfl (lv_at hl 1 rfl) ?_
  refine q_alen (v := 8) hF hU dJ7_fill_53178_3 19 304 rfl 0 (by decide) rfl ?_
  refine lv_istore_n (lv' := [(3, .int 8), (2, .int 0), (0, .ref (E.2.2 304)), (1, .int v)]) hF.1 hF.2.1 dJ7_fill_53178_4 rfl hl (by decide) rfl (fun ls hl => ?_)
  exact (main _) 0 0 u _ _ _ (k_fill_304_r4 u v) (k_fill_304_r5 u v) (k_fill_304_r6 u v) (Nat.lt_succ_self _) hU hS (lv_sub hl [2, 3, 1, 0] rfl)
theorem k_fill_305_r0 (u : qS) (uc : qS) (v : Int32) (i : Nat) (k : Int32) (f_2 : Nat → Int32) (h1 : k = nI i) (h2 : i ≤ 64) (h3 : uc.1 = u.1) (c7_1 : ¬ 64 ≤ (k : Int32)) (hf_2 : upd (uc.2.1 305) (k : Int32).toNatClampNeg v = f_2) : (k + 1) = nI (i + 1) := by
  rw [h1]; exact nI_1 i
theorem k_fill_305_r1 (u : qS) (uc : qS) (v : Int32) (i : Nat) (k : Int32) (f_2 : Nat → Int32) (h1 : k = nI i) (h2 : i ≤ 64) (h3 : uc.1 = u.1) (c7_1 : ¬ 64 ≤ (k : Int32)) (hf_2 : upd (uc.2.1 305) (k : Int32).toNatClampNeg v = f_2) : (i + 1) ≤ 64 := by
  have := fill_lt h1 (by assumption) (by decide) h2; omega
theorem k_fill_305_r2 (u : qS) (uc : qS) (v : Int32) (i : Nat) (k : Int32) (f_2 : Nat → Int32) (h1 : k = nI i) (h2 : i ≤ 64) (h3 : uc.1 = u.1) (c7_1 : ¬ 64 ≤ (k : Int32)) (hf_2 : upd (uc.2.1 305) (k : Int32).toNatClampNeg v = f_2) : (qsF uc 305 f_2).1 = u.1 := by
  exact h3
theorem k_fill_305_r3 (u : qS) (uc : qS) (v : Int32) (i : Nat) (k : Int32) (f_2 : Nat → Int32) (h1 : k = nI i) (h2 : i ≤ 64) (h3 : uc.1 = u.1) (c7_1 : ¬ 64 ≤ (k : Int32)) (hf_2 : upd (uc.2.1 305) (k : Int32).toNatClampNeg v = f_2) : 64 - (i + 1) < 64 - i := by
  have := fill_lt h1 (by assumption) (by decide) h2; omega
theorem k_fill_305_r4 (u : qS) (v : Int32) : 0 = nI 0 := by
  exact nI_0.symm
theorem k_fill_305_r5 (u : qS) (v : Int32) : 0 ≤ 64 := by
  omega
theorem k_fill_305_r6 (u : qS) (v : Int32) : (u).1 = u.1 := by
  rfl
set_option maxHeartbeats 400000 in
set_option maxRecDepth 100000 in
theorem k_fill_305 (l : Launch) (E : qE) (A : Nat → Prop) (u : qS) (v : Int32) : Met l yJ7_fill_53178 (uws yJ7_fill_53178 cJ7_fill_53178 4 none) (qR 0 0 0) (qPc E A 0 u [.ref (E.2.2 305), .int v]) (qQv E A 0 (fun u1 => u1.1 = u.1)) 0 0 A := by
  refine q_met (own := RJ7) (f := 0) [.ref (E.2.2 305), .int v] (by decide) (Nat.le_of_ble_eq_true rfl) rfl ?_
  intro p0 e0 s0 m0 bl0 me0 cd0 ls hF hr hlocks hU hS hA hl
  have hl : lv_has ls 4 [(0, .ref (E.2.2 305)), (1, .int v)] := hl
  have main : ∀ n : Nat, (∀ (i : Nat) (k : Int32) (uc : qS) (H : Heap) (locs : List Loc) (ls : Array Slot) (h1 : k = nI i) (h2 : i ≤ 64) (h3 : uc.1 = u.1), 64 - i < n → qH E A 0 uc s0 H → va_S A s0.heap H locs → lv_has ls 4 [(0, .ref (E.2.2 305)), (1, .int v), (2, .int k), (3, .int 64)] → W p0 l e0 (qR 0 0 0) s0 m0 ([.ref (E.2.2 305), .int v] : List Value).toArray bl0 me0 cd0 H locs 0 0 (MQ bl0 (qQv E A 0 (fun u1 => u1.1 = u.1)) ([.ref (E.2.2 305), .int v] : List Value).toArray s0 0 0 A) (F0 m0 5 ls [])) := by
    intro n
    induction n with
    | zero => exact fun _ _ _ _ _ _ _ _ _ hmu => absurd hmu (Nat.not_lt_zero _)
    | succ n ih =>
      intro i k uc H locs ls h1 h2 h3 hmu hU hS hl
      refine lv_iload_n hF.1 hF.2.1 dJ7_fill_53178_5 rfl (lv_at hl 2 rfl) ?_
      refine lv_iload_n hF.1 hF.2.1 dJ7_fill_53178_6 rfl (lv_at hl 3 rfl) ?_
      refine lv_icmp_ge (tgt := 20) hF.1 hF.2.1 dJ7_fill_53178_7 (by decide) (fun c7_1 => ?_) (fun c7_1 => ?_)
      · exact q_vret hF hr hlocks hU hS dJ7_fill_53178_20 (h3)
      · refine lv_aload_n hF.1 hF.2.1 dJ7_fill_53178_10 rfl (lv_at hl 0 rfl) ?_
        refine lv_iload_n hF.1 hF.2.1 dJ7_fill_53178_11 rfl (lv_at hl 2 rfl) ?_
        refine lv_iload_n hF.1 hF.2.1 dJ7_fill_53178_12 rfl (lv_at hl 1 rfl) ?_
        refine q_iast hF hU hS dJ7_fill_53178_13 20 305 rfl rfl (fill_in h1 (by assumption) (by decide) h2) (fun f_2 H locs hg hU hS => ?_)
        have hf_2 : upd (uc.2.1 305) (k : Int32).toNatClampNeg v = f_2 := hg.symm
        refine lv_iinc (v := k + 1) (lv' := [(2, .int (k + 1)), (0, .ref (E.2.2 305)), (1, .int v), (3, .int 64)]) hF.1 hF.2.1 dJ7_fill_53178_14 hl (k := 2) rfl rfl (by decide) rfl (fun ls hl => ?_)
        refine lv_goto (tgt := 5) hF.1 hF.2.1 dJ7_fill_53178_17 (by decide) ?_
        exact ih (i + 1) (k + 1) (qsF uc 305 f_2) _ _ _ (k_fill_305_r0 u uc v i k f_2 h1 h2 h3 c7_1 hf_2) (k_fill_305_r1 u uc v i k f_2 h1 h2 h3 c7_1 hf_2) (k_fill_305_r2 u uc v i k f_2 h1 h2 h3 c7_1 hf_2) (Nat.lt_of_lt_of_le (k_fill_305_r3 u uc v i k f_2 h1 h2 h3 c7_1 hf_2) (Nat.lt_succ_iff.mp hmu)) hU hS (lv_sub hl [1, 2, 0, 3] rfl)
  refine lv_iconst (v := 0) hF.1 hF.2.1 dJ7_fill_53178_0 (by decide) ?_
  refine lv_istore_n (lv' := [(2, .int 0), (0, .ref (E.2.2 305)), (1, .int v)]) hF.1 hF.2.1 dJ7_fill_53178_1 rfl hl (by decide) rfl (fun ls hl => ?_)
  refine lv_aload_n hF.1 hF.2.1 dJ7_fill_53178_2 rfl (lv_at hl 1 rfl) ?_
  refine q_alen (v := 64) hF hU dJ7_fill_53178_3 20 305 rfl 0 (by decide) rfl ?_
  refine lv_istore_n (lv' := [(3, .int 64), (2, .int 0), (0, .ref (E.2.2 305)), (1, .int v)]) hF.1 hF.2.1 dJ7_fill_53178_4 rfl hl (by decide) rfl (fun ls hl => ?_)
  exact (main _) 0 0 u _ _ _ (k_fill_305_r4 u v) (k_fill_305_r5 u v) (k_fill_305_r6 u v) (Nat.lt_succ_self _) hU hS (lv_sub hl [2, 3, 1, 0] rfl)
theorem k_fill_306_r0 (u : qS) (uc : qS) (v : Int32) (i : Nat) (k : Int32) (f_2 : Nat → Int32) (h1 : k = nI i) (h2 : i ≤ 20) (h3 : uc.1 = u.1) (c7_1 : ¬ 20 ≤ (k : Int32)) (hf_2 : upd (uc.2.1 306) (k : Int32).toNatClampNeg v = f_2) : (k + 1) = nI (i + 1) := by
  rw [h1]; exact nI_1 i
theorem k_fill_306_r1 (u : qS) (uc : qS) (v : Int32) (i : Nat) (k : Int32) (f_2 : Nat → Int32) (h1 : k = nI i) (h2 : i ≤ 20) (h3 : uc.1 = u.1) (c7_1 : ¬ 20 ≤ (k : Int32)) (hf_2 : upd (uc.2.1 306) (k : Int32).toNatClampNeg v = f_2) : (i + 1) ≤ 20 := by
  have := fill_lt h1 (by assumption) (by decide) h2; omega
theorem k_fill_306_r2 (u : qS) (uc : qS) (v : Int32) (i : Nat) (k : Int32) (f_2 : Nat → Int32) (h1 : k = nI i) (h2 : i ≤ 20) (h3 : uc.1 = u.1) (c7_1 : ¬ 20 ≤ (k : Int32)) (hf_2 : upd (uc.2.1 306) (k : Int32).toNatClampNeg v = f_2) : (qsF uc 306 f_2).1 = u.1 := by
  exact h3
theorem k_fill_306_r3 (u : qS) (uc : qS) (v : Int32) (i : Nat) (k : Int32) (f_2 : Nat → Int32) (h1 : k = nI i) (h2 : i ≤ 20) (h3 : uc.1 = u.1) (c7_1 : ¬ 20 ≤ (k : Int32)) (hf_2 : upd (uc.2.1 306) (k : Int32).toNatClampNeg v = f_2) : 20 - (i + 1) < 20 - i := by
  have := fill_lt h1 (by assumption) (by decide) h2; omega
theorem k_fill_306_r4 (u : qS) (v : Int32) : 0 = nI 0 := by
  exact nI_0.symm
theorem k_fill_306_r5 (u : qS) (v : Int32) : 0 ≤ 20 := by
  omega
theorem k_fill_306_r6 (u : qS) (v : Int32) : (u).1 = u.1 := by
  rfl
set_option maxHeartbeats 400000 in
set_option maxRecDepth 100000 in
theorem k_fill_306 (l : Launch) (E : qE) (A : Nat → Prop) (u : qS) (v : Int32) : Met l yJ7_fill_53178 (uws yJ7_fill_53178 cJ7_fill_53178 4 none) (qR 0 0 0) (qPc E A 0 u [.ref (E.2.2 306), .int v]) (qQv E A 0 (fun u1 => u1.1 = u.1)) 0 0 A := by
  refine q_met (own := RJ7) (f := 0) [.ref (E.2.2 306), .int v] (by decide) (Nat.le_of_ble_eq_true rfl) rfl ?_
  intro p0 e0 s0 m0 bl0 me0 cd0 ls hF hr hlocks hU hS hA hl
  have hl : lv_has ls 4 [(0, .ref (E.2.2 306)), (1, .int v)] := hl
  have main : ∀ n : Nat, (∀ (i : Nat) (k : Int32) (uc : qS) (H : Heap) (locs : List Loc) (ls : Array Slot) (h1 : k = nI i) (h2 : i ≤ 20) (h3 : uc.1 = u.1), 20 - i < n → qH E A 0 uc s0 H → va_S A s0.heap H locs → lv_has ls 4 [(0, .ref (E.2.2 306)), (1, .int v), (2, .int k), (3, .int 20)] → W p0 l e0 (qR 0 0 0) s0 m0 ([.ref (E.2.2 306), .int v] : List Value).toArray bl0 me0 cd0 H locs 0 0 (MQ bl0 (qQv E A 0 (fun u1 => u1.1 = u.1)) ([.ref (E.2.2 306), .int v] : List Value).toArray s0 0 0 A) (F0 m0 5 ls [])) := by
    intro n
    induction n with
    | zero => exact fun _ _ _ _ _ _ _ _ _ hmu => absurd hmu (Nat.not_lt_zero _)
    | succ n ih =>
      intro i k uc H locs ls h1 h2 h3 hmu hU hS hl
      refine lv_iload_n hF.1 hF.2.1 dJ7_fill_53178_5 rfl (lv_at hl 2 rfl) ?_
      refine lv_iload_n hF.1 hF.2.1 dJ7_fill_53178_6 rfl (lv_at hl 3 rfl) ?_
      refine lv_icmp_ge (tgt := 20) hF.1 hF.2.1 dJ7_fill_53178_7 (by decide) (fun c7_1 => ?_) (fun c7_1 => ?_)
      · exact q_vret hF hr hlocks hU hS dJ7_fill_53178_20 (h3)
      · refine lv_aload_n hF.1 hF.2.1 dJ7_fill_53178_10 rfl (lv_at hl 0 rfl) ?_
        refine lv_iload_n hF.1 hF.2.1 dJ7_fill_53178_11 rfl (lv_at hl 2 rfl) ?_
        refine lv_iload_n hF.1 hF.2.1 dJ7_fill_53178_12 rfl (lv_at hl 1 rfl) ?_
        refine q_iast hF hU hS dJ7_fill_53178_13 21 306 rfl rfl (fill_in h1 (by assumption) (by decide) h2) (fun f_2 H locs hg hU hS => ?_)
        have hf_2 : upd (uc.2.1 306) (k : Int32).toNatClampNeg v = f_2 := hg.symm
        refine lv_iinc (v := k + 1) (lv' := [(2, .int (k + 1)), (0, .ref (E.2.2 306)), (1, .int v), (3, .int 20)]) hF.1 hF.2.1 dJ7_fill_53178_14 hl (k := 2) rfl rfl (by decide) rfl (fun ls hl => ?_)
        refine lv_goto (tgt := 5) hF.1 hF.2.1 dJ7_fill_53178_17 (by decide) ?_
        exact ih (i + 1) (k + 1) (qsF uc 306 f_2) _ _ _ (k_fill_306_r0 u uc v i k f_2 h1 h2 h3 c7_1 hf_2) (k_fill_306_r1 u uc v i k f_2 h1 h2 h3 c7_1 hf_2) (k_fill_306_r2 u uc v i k f_2 h1 h2 h3 c7_1 hf_2) (Nat.lt_of_lt_of_le (k_fill_306_r3 u uc v i k f_2 h1 h2 h3 c7_1 hf_2) (Nat.lt_succ_iff.mp hmu)) hU hS (lv_sub hl [1, 2, 0, 3] rfl)
  refine lv_iconst (v := 0) hF.1 hF.2.1 dJ7_fill_53178_0 (by decide) ?_
  refine lv_istore_n (lv' := [(2, .int 0), (0, .ref (E.2.2 306)), (1, .int v)]) hF.1 hF.2.1 dJ7_fill_53178_1 rfl hl (by decide) rfl (fun ls hl => ?_)
  refine lv_aload_n hF.1 hF.2.1 dJ7_fill_53178_2 rfl (lv_at hl 1 rfl) ?_
  refine q_alen (v := 20) hF hU dJ7_fill_53178_3 21 306 rfl 0 (by decide) rfl ?_
  refine lv_istore_n (lv' := [(3, .int 20), (2, .int 0), (0, .ref (E.2.2 306)), (1, .int v)]) hF.1 hF.2.1 dJ7_fill_53178_4 rfl hl (by decide) rfl (fun ls hl => ?_)
  exact (main _) 0 0 u _ _ _ (k_fill_306_r4 u v) (k_fill_306_r5 u v) (k_fill_306_r6 u v) (Nat.lt_succ_self _) hU hS (lv_sub hl [2, 3, 1, 0] rfl)
theorem k_fill_307_r0 (u : qS) (uc : qS) (v : Int32) (i : Nat) (k : Int32) (f_2 : Nat → Int32) (h1 : k = nI i) (h2 : i ≤ 20) (h3 : uc.1 = u.1) (c7_1 : ¬ 20 ≤ (k : Int32)) (hf_2 : upd (uc.2.1 307) (k : Int32).toNatClampNeg v = f_2) : (k + 1) = nI (i + 1) := by
  rw [h1]; exact nI_1 i
theorem k_fill_307_r1 (u : qS) (uc : qS) (v : Int32) (i : Nat) (k : Int32) (f_2 : Nat → Int32) (h1 : k = nI i) (h2 : i ≤ 20) (h3 : uc.1 = u.1) (c7_1 : ¬ 20 ≤ (k : Int32)) (hf_2 : upd (uc.2.1 307) (k : Int32).toNatClampNeg v = f_2) : (i + 1) ≤ 20 := by
  have := fill_lt h1 (by assumption) (by decide) h2; omega
theorem k_fill_307_r2 (u : qS) (uc : qS) (v : Int32) (i : Nat) (k : Int32) (f_2 : Nat → Int32) (h1 : k = nI i) (h2 : i ≤ 20) (h3 : uc.1 = u.1) (c7_1 : ¬ 20 ≤ (k : Int32)) (hf_2 : upd (uc.2.1 307) (k : Int32).toNatClampNeg v = f_2) : (qsF uc 307 f_2).1 = u.1 := by
  exact h3
theorem k_fill_307_r3 (u : qS) (uc : qS) (v : Int32) (i : Nat) (k : Int32) (f_2 : Nat → Int32) (h1 : k = nI i) (h2 : i ≤ 20) (h3 : uc.1 = u.1) (c7_1 : ¬ 20 ≤ (k : Int32)) (hf_2 : upd (uc.2.1 307) (k : Int32).toNatClampNeg v = f_2) : 20 - (i + 1) < 20 - i := by
  have := fill_lt h1 (by assumption) (by decide) h2; omega
theorem k_fill_307_r4 (u : qS) (v : Int32) : 0 = nI 0 := by
  exact nI_0.symm
theorem k_fill_307_r5 (u : qS) (v : Int32) : 0 ≤ 20 := by
  omega
theorem k_fill_307_r6 (u : qS) (v : Int32) : (u).1 = u.1 := by
  rfl
set_option maxHeartbeats 400000 in
set_option maxRecDepth 100000 in
theorem k_fill_307 (l : Launch) (E : qE) (A : Nat → Prop) (u : qS) (v : Int32) : Met l yJ7_fill_53178 (uws yJ7_fill_53178 cJ7_fill_53178 4 none) (qR 0 0 0) (qPc E A 0 u [.ref (E.2.2 307), .int v]) (qQv E A 0 (fun u1 => u1.1 = u.1)) 0 0 A := by
  refine q_met (own := RJ7) (f := 0) [.ref (E.2.2 307), .int v] (by decide) (Nat.le_of_ble_eq_true rfl) rfl ?_
  intro p0 e0 s0 m0 bl0 me0 cd0 ls hF hr hlocks hU hS hA hl
  have hl : lv_has ls 4 [(0, .ref (E.2.2 307)), (1, .int v)] := hl
  have main : ∀ n : Nat, (∀ (i : Nat) (k : Int32) (uc : qS) (H : Heap) (locs : List Loc) (ls : Array Slot) (h1 : k = nI i) (h2 : i ≤ 20) (h3 : uc.1 = u.1), 20 - i < n → qH E A 0 uc s0 H → va_S A s0.heap H locs → lv_has ls 4 [(0, .ref (E.2.2 307)), (1, .int v), (2, .int k), (3, .int 20)] → W p0 l e0 (qR 0 0 0) s0 m0 ([.ref (E.2.2 307), .int v] : List Value).toArray bl0 me0 cd0 H locs 0 0 (MQ bl0 (qQv E A 0 (fun u1 => u1.1 = u.1)) ([.ref (E.2.2 307), .int v] : List Value).toArray s0 0 0 A) (F0 m0 5 ls [])) := by
    intro n
    induction n with
    | zero => exact fun _ _ _ _ _ _ _ _ _ hmu => absurd hmu (Nat.not_lt_zero _)
    | succ n ih =>
      intro i k uc H locs ls h1 h2 h3 hmu hU hS hl
      refine lv_iload_n hF.1 hF.2.1 dJ7_fill_53178_5 rfl (lv_at hl 2 rfl) ?_
      refine lv_iload_n hF.1 hF.2.1 dJ7_fill_53178_6 rfl (lv_at hl 3 rfl) ?_
      refine lv_icmp_ge (tgt := 20) hF.1 hF.2.1 dJ7_fill_53178_7 (by decide) (fun c7_1 => ?_) (fun c7_1 => ?_)
      · exact q_vret hF hr hlocks hU hS dJ7_fill_53178_20 (h3)
      · refine lv_aload_n hF.1 hF.2.1 dJ7_fill_53178_10 rfl (lv_at hl 0 rfl) ?_
        refine lv_iload_n hF.1 hF.2.1 dJ7_fill_53178_11 rfl (lv_at hl 2 rfl) ?_
        refine lv_iload_n hF.1 hF.2.1 dJ7_fill_53178_12 rfl (lv_at hl 1 rfl) ?_
        refine q_iast hF hU hS dJ7_fill_53178_13 22 307 rfl rfl (fill_in h1 (by assumption) (by decide) h2) (fun f_2 H locs hg hU hS => ?_)
        have hf_2 : upd (uc.2.1 307) (k : Int32).toNatClampNeg v = f_2 := hg.symm
        refine lv_iinc (v := k + 1) (lv' := [(2, .int (k + 1)), (0, .ref (E.2.2 307)), (1, .int v), (3, .int 20)]) hF.1 hF.2.1 dJ7_fill_53178_14 hl (k := 2) rfl rfl (by decide) rfl (fun ls hl => ?_)
        refine lv_goto (tgt := 5) hF.1 hF.2.1 dJ7_fill_53178_17 (by decide) ?_
        exact ih (i + 1) (k + 1) (qsF uc 307 f_2) _ _ _ (k_fill_307_r0 u uc v i k f_2 h1 h2 h3 c7_1 hf_2) (k_fill_307_r1 u uc v i k f_2 h1 h2 h3 c7_1 hf_2) (k_fill_307_r2 u uc v i k f_2 h1 h2 h3 c7_1 hf_2) (Nat.lt_of_lt_of_le (k_fill_307_r3 u uc v i k f_2 h1 h2 h3 c7_1 hf_2) (Nat.lt_succ_iff.mp hmu)) hU hS (lv_sub hl [1, 2, 0, 3] rfl)
  refine lv_iconst (v := 0) hF.1 hF.2.1 dJ7_fill_53178_0 (by decide) ?_
  refine lv_istore_n (lv' := [(2, .int 0), (0, .ref (E.2.2 307)), (1, .int v)]) hF.1 hF.2.1 dJ7_fill_53178_1 rfl hl (by decide) rfl (fun ls hl => ?_)
  refine lv_aload_n hF.1 hF.2.1 dJ7_fill_53178_2 rfl (lv_at hl 1 rfl) ?_
  refine q_alen (v := 20) hF hU dJ7_fill_53178_3 22 307 rfl 0 (by decide) rfl ?_
  refine lv_istore_n (lv' := [(3, .int 20), (2, .int 0), (0, .ref (E.2.2 307)), (1, .int v)]) hF.1 hF.2.1 dJ7_fill_53178_4 rfl hl (by decide) rfl (fun ls hl => ?_)
  exact (main _) 0 0 u _ _ _ (k_fill_307_r4 u v) (k_fill_307_r5 u v) (k_fill_307_r6 u v) (Nat.lt_succ_self _) hU hS (lv_sub hl [2, 3, 1, 0] rfl)
theorem k_fill_603_r0 (u : qS) (uc : qS) (v : Int32) (i : Nat) (k : Int32) (f_2 : Nat → Int32) (h1 : k = nI i) (h2 : i ≤ 20) (h3 : uc.1 = u.1) (c7_1 : ¬ 20 ≤ (k : Int32)) (hf_2 : upd (uc.2.1 603) (k : Int32).toNatClampNeg v = f_2) : (k + 1) = nI (i + 1) := by
  rw [h1]; exact nI_1 i
theorem k_fill_603_r1 (u : qS) (uc : qS) (v : Int32) (i : Nat) (k : Int32) (f_2 : Nat → Int32) (h1 : k = nI i) (h2 : i ≤ 20) (h3 : uc.1 = u.1) (c7_1 : ¬ 20 ≤ (k : Int32)) (hf_2 : upd (uc.2.1 603) (k : Int32).toNatClampNeg v = f_2) : (i + 1) ≤ 20 := by
  have := fill_lt h1 (by assumption) (by decide) h2; omega
theorem k_fill_603_r2 (u : qS) (uc : qS) (v : Int32) (i : Nat) (k : Int32) (f_2 : Nat → Int32) (h1 : k = nI i) (h2 : i ≤ 20) (h3 : uc.1 = u.1) (c7_1 : ¬ 20 ≤ (k : Int32)) (hf_2 : upd (uc.2.1 603) (k : Int32).toNatClampNeg v = f_2) : (qsF uc 603 f_2).1 = u.1 := by
  exact h3
theorem k_fill_603_r3 (u : qS) (uc : qS) (v : Int32) (i : Nat) (k : Int32) (f_2 : Nat → Int32) (h1 : k = nI i) (h2 : i ≤ 20) (h3 : uc.1 = u.1) (c7_1 : ¬ 20 ≤ (k : Int32)) (hf_2 : upd (uc.2.1 603) (k : Int32).toNatClampNeg v = f_2) : 20 - (i + 1) < 20 - i := by
  have := fill_lt h1 (by assumption) (by decide) h2; omega
theorem k_fill_603_r4 (u : qS) (v : Int32) : 0 = nI 0 := by
  exact nI_0.symm
theorem k_fill_603_r5 (u : qS) (v : Int32) : 0 ≤ 20 := by
  omega
theorem k_fill_603_r6 (u : qS) (v : Int32) : (u).1 = u.1 := by
  rfl
set_option maxHeartbeats 400000 in
set_option maxRecDepth 100000 in
theorem k_fill_603 (l : Launch) (E : qE) (A : Nat → Prop) (u : qS) (v : Int32) : Met l yJ7_fill_53178 (uws yJ7_fill_53178 cJ7_fill_53178 4 none) (qR 0 0 0) (qPc E A 0 u [.ref (E.2.2 603), .int v]) (qQv E A 0 (fun u1 => u1.1 = u.1)) 0 0 A := by
  refine q_met (own := RJ7) (f := 0) [.ref (E.2.2 603), .int v] (by decide) (Nat.le_of_ble_eq_true rfl) rfl ?_
  intro p0 e0 s0 m0 bl0 me0 cd0 ls hF hr hlocks hU hS hA hl
  have hl : lv_has ls 4 [(0, .ref (E.2.2 603)), (1, .int v)] := hl
  have main : ∀ n : Nat, (∀ (i : Nat) (k : Int32) (uc : qS) (H : Heap) (locs : List Loc) (ls : Array Slot) (h1 : k = nI i) (h2 : i ≤ 20) (h3 : uc.1 = u.1), 20 - i < n → qH E A 0 uc s0 H → va_S A s0.heap H locs → lv_has ls 4 [(0, .ref (E.2.2 603)), (1, .int v), (2, .int k), (3, .int 20)] → W p0 l e0 (qR 0 0 0) s0 m0 ([.ref (E.2.2 603), .int v] : List Value).toArray bl0 me0 cd0 H locs 0 0 (MQ bl0 (qQv E A 0 (fun u1 => u1.1 = u.1)) ([.ref (E.2.2 603), .int v] : List Value).toArray s0 0 0 A) (F0 m0 5 ls [])) := by
    intro n
    induction n with
    | zero => exact fun _ _ _ _ _ _ _ _ _ hmu => absurd hmu (Nat.not_lt_zero _)
    | succ n ih =>
      intro i k uc H locs ls h1 h2 h3 hmu hU hS hl
      refine lv_iload_n hF.1 hF.2.1 dJ7_fill_53178_5 rfl (lv_at hl 2 rfl) ?_
      refine lv_iload_n hF.1 hF.2.1 dJ7_fill_53178_6 rfl (lv_at hl 3 rfl) ?_
      refine lv_icmp_ge (tgt := 20) hF.1 hF.2.1 dJ7_fill_53178_7 (by decide) (fun c7_1 => ?_) (fun c7_1 => ?_)
      · exact q_vret hF hr hlocks hU hS dJ7_fill_53178_20 (h3)
      · refine lv_aload_n hF.1 hF.2.1 dJ7_fill_53178_10 rfl (lv_at hl 0 rfl) ?_
        refine lv_iload_n hF.1 hF.2.1 dJ7_fill_53178_11 rfl (lv_at hl 2 rfl) ?_
        refine lv_iload_n hF.1 hF.2.1 dJ7_fill_53178_12 rfl (lv_at hl 1 rfl) ?_
        refine q_iast hF hU hS dJ7_fill_53178_13 17 603 rfl rfl (fill_in h1 (by assumption) (by decide) h2) (fun f_2 H locs hg hU hS => ?_)
        have hf_2 : upd (uc.2.1 603) (k : Int32).toNatClampNeg v = f_2 := hg.symm
        refine lv_iinc (v := k + 1) (lv' := [(2, .int (k + 1)), (0, .ref (E.2.2 603)), (1, .int v), (3, .int 20)]) hF.1 hF.2.1 dJ7_fill_53178_14 hl (k := 2) rfl rfl (by decide) rfl (fun ls hl => ?_)
        refine lv_goto (tgt := 5) hF.1 hF.2.1 dJ7_fill_53178_17 (by decide) ?_
        exact ih (i + 1) (k + 1) (qsF uc 603 f_2) _ _ _ (k_fill_603_r0 u uc v i k f_2 h1 h2 h3 c7_1 hf_2) (k_fill_603_r1 u uc v i k f_2 h1 h2 h3 c7_1 hf_2) (k_fill_603_r2 u uc v i k f_2 h1 h2 h3 c7_1 hf_2) (Nat.lt_of_lt_of_le (k_fill_603_r3 u uc v i k f_2 h1 h2 h3 c7_1 hf_2) (Nat.lt_succ_iff.mp hmu)) hU hS (lv_sub hl [1, 2, 0, 3] rfl)
  refine lv_iconst (v := 0) hF.1 hF.2.1 dJ7_fill_53178_0 (by decide) ?_
  refine lv_istore_n (lv' := [(2, .int 0), (0, .ref (E.2.2 603)), (1, .int v)]) hF.1 hF.2.1 dJ7_fill_53178_1 rfl hl (by decide) rfl (fun ls hl => ?_)
  refine lv_aload_n hF.1 hF.2.1 dJ7_fill_53178_2 rfl (lv_at hl 1 rfl) ?_
  refine q_alen (v := 20) hF hU dJ7_fill_53178_3 17 603 rfl 0 (by decide) rfl ?_
  refine lv_istore_n (lv' := [(3, .int 20), (2, .int 0), (0, .ref (E.2.2 603)), (1, .int v)]) hF.1 hF.2.1 dJ7_fill_53178_4 rfl hl (by decide) rfl (fun ls hl => ?_)
  exact (main _) 0 0 u _ _ _ (k_fill_603_r4 u v) (k_fill_603_r5 u v) (k_fill_603_r6 u v) (Nat.lt_succ_self _) hU hS (lv_sub hl [2, 3, 1, 0] rfl)
set_option maxHeartbeats 400000 in
set_option maxRecDepth 100000 in
theorem k_X9_judgeAlone (l : Launch) (E : qE) (A : Nat → Prop) (u : qS) (h_visitCount : u.1 10 = 0) : Met l yX9_judgeAlone (uws yX9_judgeAlone cX9_judgeAlone 3 none) (qR 2 0 0) (qPc E A 0 u [.ref (E.2.2 999)]) (qQv E A 0 (fun u1 => u1 = u)) 0 0 A := by
  refine q_met (own := RX9) (f := 2) [.ref (E.2.2 999)] (by decide) (Nat.le_of_ble_eq_true rfl) rfl ?_
  intro p0 e0 s0 m0 bl0 me0 cd0 ls hF hr hlocks hU hS hA hl
  have hl : lv_has ls 3 [(0, .ref (E.2.2 999))] := hl
  refine lv_iconst (v := 0) hF.1 hF.2.1 dX9_judgeAlone_0 (by decide) ?_
  refine lv_istore_n (lv' := [(1, .int 0), (0, .ref (E.2.2 999))]) hF.1 hF.2.1 dX9_judgeAlone_1 rfl hl (by decide) rfl (fun ls hl => ?_)
  refine lv_iload_n hF.1 hF.2.1 dX9_judgeAlone_2 rfl (lv_at hl 0 rfl) ?_
  refine lv_aload_n hF.1 hF.2.1 dX9_judgeAlone_3 rfl (lv_at hl 1 rfl) ?_
  refine q_get (v := .ref (E.2.2 99)) hF hU dX9_judgeAlone_4 4 9 3 903 999 rfl rfl rfl rfl inX9 (by decide) (by decide) w_305 rfl rfl ?_
  refine q_get (v := .int 0) hF hU dX9_judgeAlone_7 1 0 10 10 99 rfl rfl rfl rfl inX0 (by decide) (by decide) w_169 rfl (congrArg Value.int h_visitCount) ?_
  refine lv_icmp_ge (tgt := 46) hF.1 hF.2.1 dX9_judgeAlone_10 (by decide) (fun _ => ?_) (fun h9 => absurd (by decide) h9)
  exact q_vret hF hr hlocks hU hS dX9_judgeAlone_46 (rfl)
set_option maxHeartbeats 400000 in
set_option maxRecDepth 100000 in
theorem k_X9_countThem (l : Launch) (E : qE) (A : Nat → Prop) (u : qS) (h_visitCount : u.1 10 = 0) : Met l yX9_countThem (uws yX9_countThem cX9_countThem 4 none) (qR 2 0 0) (qPc E A 0 u [.ref (E.2.2 999)]) (qQv E A 0 (fun u1 => u1 = qsI (qsI u 900 0) 901 0)) 0 0 A := by
  refine q_met (own := RX9) (f := 2) [.ref (E.2.2 999)] (by decide) (Nat.le_of_ble_eq_true rfl) rfl ?_
  intro p0 e0 s0 m0 bl0 me0 cd0 ls hF hr hlocks hU hS hA hl
  have hl : lv_has ls 4 [(0, .ref (E.2.2 999))] := hl
  refine lv_aload_n hF.1 hF.2.1 dX9_countThem_0 rfl (lv_at hl 0 rfl) ?_
  refine lv_iconst (v := 0) hF.1 hF.2.1 dX9_countThem_1 (by decide) ?_
  refine q_put hF hU hS dX9_countThem_2 4 9 0 900 999 rfl rfl rfl rfl inX9 tyX9 tyX9_ok nmX9 (by decide) (by decide) rfl w_299 rfl rfl rfl rfl (fun H locs hU hS => ?_)
  refine lv_aload_n hF.1 hF.2.1 dX9_countThem_5 rfl (lv_at hl 0 rfl) ?_
  refine lv_iconst (v := 0) hF.1 hF.2.1 dX9_countThem_6 (by decide) ?_
  refine q_put hF hU hS dX9_countThem_7 4 9 1 901 999 rfl rfl rfl rfl inX9 tyX9 tyX9_ok nmX9 (by decide) (by decide) rfl w_301 rfl rfl rfl rfl (fun H locs hU hS => ?_)
  refine lv_aload_n hF.1 hF.2.1 dX9_countThem_10 rfl (lv_at hl 0 rfl) ?_
  refine q_get (v := .ref (E.2.2 99)) hF hU dX9_countThem_11 4 9 3 903 999 rfl rfl rfl rfl inX9 (by decide) (by decide) w_305 rfl rfl ?_
  have hM9 := (k_X0_knownVisits l E A (qsI (qsI u 900 0) 901 0) h_visitCount)
  have hR9 := q_runV (l := l) (e := e0) (below := bl0) (meth := me0) (R := qR 2 0 0) (cells := 0) (slots := 0) (st0 := [.ref (E.2.2 99)]) (rest := []) hF hU hS hA 0 1 0 99 rfl rfl rfl hM9 w_902 w_903 w_904 w_100 w_905 (by decide +kernel) ⟨Nat.le_of_ble_eq_true rfl, Nat.le_of_ble_eq_true rfl⟩ dX9_countThem_14 rfl hl.1 rfl (Nat.le_of_ble_eq_true rfl) ⟨Nat.le_of_ble_eq_true rfl, Nat.le_of_ble_eq_true rfl⟩
  refine q_calli hR9 hU.2.2.2 hS (fun r u1 H locs hw hU hS => ?_)
  rw [hw.1] at hU
  refine q_topi hw.2 ?_
  refine lv_istore_n (lv' := [(1, .int 0), (0, .ref (E.2.2 999))]) hF.1 hF.2.1 dX9_countThem_17 rfl hl (by decide) rfl (fun ls hl => ?_)
  refine lv_iconst (v := 0) hF.1 hF.2.1 dX9_countThem_18 (by decide) ?_
  refine lv_istore_n (lv' := [(2, .int 0), (1, .int 0), (0, .ref (E.2.2 999))]) hF.1 hF.2.1 dX9_countThem_19 rfl hl (by decide) rfl (fun ls hl => ?_)
  refine lv_iload_n hF.1 hF.2.1 dX9_countThem_20 rfl (lv_at hl 0 rfl) ?_
  refine lv_iload_n hF.1 hF.2.1 dX9_countThem_21 rfl (lv_at hl 1 rfl) ?_
  refine lv_icmp_ge (tgt := 84) hF.1 hF.2.1 dX9_countThem_22 (by decide) (fun _ => ?_) (fun h9 => absurd (by decide) h9)
  exact q_vret hF hr hlocks hU hS dX9_countThem_84 (rfl)
set_option maxHeartbeats 400000 in
set_option maxRecDepth 100000 in
theorem k_X9_refresh (l : Launch) (E : qE) (A : Nat → Prop) (u : qS) (h_ted : u.1 909 = 0) (h_bed : u.1 18 = 0) : Met l yX9_refresh (uws yX9_refresh cX9_refresh 3 none) (qR 3 0 0) (qPc E A 0 u [.ref (E.2.2 999)]) (qQv E A 0 (fun u1 => u1 = u)) 0 0 A := by
  refine q_met (own := RX9) (f := 3) [.ref (E.2.2 999)] (by decide) (Nat.le_of_ble_eq_true rfl) rfl ?_
  intro p0 e0 s0 m0 bl0 me0 cd0 ls hF hr hlocks hU hS hA hl
  have hl : lv_has ls 3 [(0, .ref (E.2.2 999))] := hl
  refine lv_aload_n hF.1 hF.2.1 dX9_refresh_0 rfl (lv_at hl 0 rfl) ?_
  refine q_get (v := .int 0) hF hU dX9_refresh_1 4 9 9 909 999 rfl rfl rfl rfl inX9 (by decide) (by decide) w_311 rfl (congrArg Value.int h_ted) ?_
  refine lv_aload_n hF.1 hF.2.1 dX9_refresh_4 rfl (lv_at hl 0 rfl) ?_
  refine q_get (v := .ref (E.2.2 99)) hF hU dX9_refresh_5 4 9 3 903 999 rfl rfl rfl rfl inX9 (by decide) (by decide) w_305 rfl rfl ?_
  refine q_get (v := .int 0) hF hU dX9_refresh_8 1 0 18 18 99 rfl rfl rfl rfl inX0 (by decide) (by decide) w_188 rfl (congrArg Value.int h_bed) ?_
  refine lv_icmp_ne (tgt := 15) hF.1 hF.2.1 dX9_refresh_11 (by decide) (fun h9 => absurd (by decide) h9) (fun _ => ?_)
  exact q_vret hF hr hlocks hU hS dX9_refresh_14 (rfl)
set_option maxHeartbeats 400000 in
set_option maxRecDepth 100000 in
theorem k_X6_refresh (l : Launch) (E : qE) (A : Nat → Prop) (u : qS) (h_sed : u.1 609 = 0) (h_bed : u.1 18 = 0) : Met l yX6_refresh (uws yX6_refresh cX6_refresh 2 none) (qR 3 0 0) (qPc E A 0 u [.ref (E.2.2 699)]) (qQv E A 0 (fun u1 => u1 = u)) 0 0 A := by
  refine q_met (own := RX6) (f := 3) [.ref (E.2.2 699)] (by decide) (Nat.le_of_ble_eq_true rfl) rfl ?_
  intro p0 e0 s0 m0 bl0 me0 cd0 ls hF hr hlocks hU hS hA hl
  have hl : lv_has ls 2 [(0, .ref (E.2.2 699))] := hl
  refine lv_aload_n hF.1 hF.2.1 dX6_refresh_0 rfl (lv_at hl 0 rfl) ?_
  refine q_get (v := .int 0) hF hU dX6_refresh_1 5 6 9 609 699 rfl rfl rfl rfl inX6 (by decide) (by decide) w_349 rfl (congrArg Value.int h_sed) ?_
  refine lv_aload_n hF.1 hF.2.1 dX6_refresh_4 rfl (lv_at hl 0 rfl) ?_
  refine q_get (v := .ref (E.2.2 99)) hF hU dX6_refresh_5 5 6 0 600 699 rfl rfl rfl rfl inX6 (by decide) (by decide) w_340 rfl rfl ?_
  refine q_get (v := .int 0) hF hU dX6_refresh_8 1 0 18 18 99 rfl rfl rfl rfl inX0 (by decide) (by decide) w_189 rfl (congrArg Value.int h_bed) ?_
  refine lv_icmp_ne (tgt := 15) hF.1 hF.2.1 dX6_refresh_11 (by decide) (fun h9 => absurd (by decide) h9) (fun _ => ?_)
  exact q_vret hF hr hlocks hU hS dX6_refresh_14 (rfl)
set_option maxHeartbeats 400000 in
set_option maxRecDepth 100000 in
theorem k_X3_refresh (l : Launch) (E : qE) (A : Nat → Prop) (u : qS) (h_med : u.1 311 = 0) (h_bed : u.1 18 = 0) : Met l yX3_refresh (uws yX3_refresh cX3_refresh 2 none) (qR 4 0 0) (qPc E A 0 u [.ref (E.2.2 399)]) (qQv E A 0 (fun u1 => u1 = u)) 0 0 A := by
  refine q_met (own := RX3) (f := 4) [.ref (E.2.2 399)] (by decide) (Nat.le_of_ble_eq_true rfl) rfl ?_
  intro p0 e0 s0 m0 bl0 me0 cd0 ls hF hr hlocks hU hS hA hl
  have hl : lv_has ls 2 [(0, .ref (E.2.2 399))] := hl
  refine lv_aload_n hF.1 hF.2.1 dX3_refresh_0 rfl (lv_at hl 0 rfl) ?_
  refine q_get (v := .int 0) hF hU dX3_refresh_1 6 3 11 311 399 rfl rfl rfl rfl inX3 (by decide) (by decide) w_388 rfl (congrArg Value.int h_med) ?_
  refine lv_aload_n hF.1 hF.2.1 dX3_refresh_4 rfl (lv_at hl 0 rfl) ?_
  refine q_get (v := .ref (E.2.2 99)) hF hU dX3_refresh_5 6 3 0 300 399 rfl rfl rfl rfl inX3 (by decide) (by decide) w_377 rfl rfl ?_
  refine q_get (v := .int 0) hF hU dX3_refresh_8 1 0 18 18 99 rfl rfl rfl rfl inX0 (by decide) (by decide) w_190 rfl (congrArg Value.int h_bed) ?_
  refine lv_icmp_ne (tgt := 15) hF.1 hF.2.1 dX3_refresh_11 (by decide) (fun h9 => absurd (by decide) h9) (fun _ => ?_)
  exact q_vret hF hr hlocks hU hS dX3_refresh_14 (rfl)
set_option maxHeartbeats 400000 in
set_option maxRecDepth 100000 in
theorem k_X3_addDays (l : Launch) (E : qE) (A : Nat → Prop) (u : qS) (x : Int32) (y : Int32) (h_visitCount : u.1 10 = 0) : Met l yX3_addDays (uws yX3_addDays cX3_addDays 5 none) (qR 4 0 0) (qPc E A 0 u [.ref (E.2.2 399), .int x, .int y]) (qQv E A 0 (fun u1 => u1.1 = u.1)) 0 0 A := by
  refine q_met (own := RX3) (f := 4) [.ref (E.2.2 399), .int x, .int y] (by decide) (Nat.le_of_ble_eq_true rfl) rfl ?_
  intro p0 e0 s0 m0 bl0 me0 cd0 ls hF hr hlocks hU hS hA hl
  have hl : lv_has ls 5 [(0, .ref (E.2.2 399)), (1, .int x), (2, .int y)] := hl
  refine lv_aload_n hF.1 hF.2.1 dX3_addDays_0 rfl (lv_at hl 0 rfl) ?_
  refine q_get (v := .ref (E.2.2 306)) hF hU dX3_addDays_1 6 3 6 306 399 rfl rfl rfl rfl inX3 (by decide) (by decide) w_383 rfl rfl ?_
  refine lv_iconst (v := 0) hF.1 hF.2.1 dX3_addDays_4 (by decide) ?_
  have hM9 := (k_fill_306 l E A u 0)
  have hR9 := q_runS (l := l) (e := e0) (below := bl0) (meth := me0) (R := qR 4 0 0) (cells := 0) (slots := 0) (st0 := [.int 0, .ref (E.2.2 306)]) (rest := []) hF hU hS hA 2 hM9 w_989 w_941 w_112 w_942 (by decide +kernel) ⟨Nat.le_of_ble_eq_true rfl, Nat.le_of_ble_eq_true rfl⟩ dX3_addDays_5 rfl hl.1 rfl (Nat.le_of_ble_eq_true rfl) ⟨Nat.le_of_ble_eq_true rfl, Nat.le_of_ble_eq_true rfl⟩
  refine q_callv hR9 hU.2.2.2 hS (fun u_1 H locs hw_2 hU hS => ?_)
  have q_3 : u_1.1 10 = 0 := (congrFun hw_2 10).trans h_visitCount
  refine lv_aload_n hF.1 hF.2.1 dX3_addDays_8 rfl (lv_at hl 0 rfl) ?_
  refine q_get (v := .ref (E.2.2 307)) hF hU dX3_addDays_9 6 3 7 307 399 rfl rfl rfl rfl inX3 (by decide) (by decide) w_384 rfl rfl ?_
  refine lv_iconst (v := 0) hF.1 hF.2.1 dX3_addDays_12 (by decide) ?_
  have hM9 := (k_fill_307 l E A u_1 0)
  have hR9 := q_runS (l := l) (e := e0) (below := bl0) (meth := me0) (R := qR 4 0 0) (cells := 0) (slots := 0) (st0 := [.int 0, .ref (E.2.2 307)]) (rest := []) hF hU hS hA 2 hM9 w_989 w_941 w_112 w_942 (by decide +kernel) ⟨Nat.le_of_ble_eq_true rfl, Nat.le_of_ble_eq_true rfl⟩ dX3_addDays_13 rfl hl.1 rfl (Nat.le_of_ble_eq_true rfl) ⟨Nat.le_of_ble_eq_true rfl, Nat.le_of_ble_eq_true rfl⟩
  refine q_callv hR9 hU.2.2.2 hS (fun u_4 H locs hw_5 hU hS => ?_)
  have q_6 : u_4.1 10 = 0 := (congrFun hw_5 10).trans q_3
  refine lv_iconst (v := 0) hF.1 hF.2.1 dX3_addDays_16 (by decide) ?_
  refine lv_istore_n (lv' := [(3, .int 0), (0, .ref (E.2.2 399)), (1, .int x), (2, .int y)]) hF.1 hF.2.1 dX3_addDays_17 rfl hl (by decide) rfl (fun ls hl => ?_)
  refine lv_iload_n hF.1 hF.2.1 dX3_addDays_18 rfl (lv_at hl 0 rfl) ?_
  refine lv_aload_n hF.1 hF.2.1 dX3_addDays_19 rfl (lv_at hl 1 rfl) ?_
  refine q_get (v := .ref (E.2.2 99)) hF hU dX3_addDays_20 6 3 0 300 399 rfl rfl rfl rfl inX3 (by decide) (by decide) w_377 rfl rfl ?_
  refine q_get (v := .int 0) hF hU dX3_addDays_23 1 0 10 10 99 rfl rfl rfl rfl inX0 (by decide) (by decide) w_170 rfl (congrArg Value.int q_6) ?_
  refine lv_icmp_ge (tgt := 101) hF.1 hF.2.1 dX3_addDays_26 (by decide) (fun _ => ?_) (fun h9 => absurd (by decide) h9)
  exact q_vret hF hr hlocks hU hS dX3_addDays_101 (hw_5.trans (hw_2.trans rfl))
theorem k_X3_rankChain_r0 (x : Int32) : (0 : Int32) = 0 := by
  first | rfl | (simp only [Int32.lt_iff_toInt_lt, Int32.le_iff_toInt_le, ← Int32.toInt_inj, Int32.zero_add, Int32.add_zero] at *; omega) | (simp only [Int32.lt_iff_toInt_lt, Int32.le_iff_toInt_le, ← Int32.toInt_inj, Int32.zero_add, Int32.add_zero] at *; done) | (simp only [Int32.lt_iff_toInt_lt, Int32.le_iff_toInt_le, ← Int32.toInt_inj, Int32.zero_add, Int32.add_zero] at *; simp at *; omega) | (simp at *; omega) | (simp_all; done)
set_option maxHeartbeats 400000 in
set_option maxRecDepth 100000 in
theorem k_X3_rankChain (l : Launch) (E : qE) (A : Nat → Prop) (u : qS) (x : Int32) (h_shopCount : u.1 8 = 0) : Met l yX3_rankChain (uws yX3_rankChain cX3_rankChain 3 (some .int)) (qR 4 0 0) (qPc E A 0 u [.ref (E.2.2 399), .int x]) (qQi E A 0 (fun r u1 => u1 = qsI u 310 0 ∧ r = 0)) 0 0 A := by
  refine q_met (own := RX3) (f := 4) [.ref (E.2.2 399), .int x] (by decide) (Nat.le_of_ble_eq_true rfl) rfl ?_
  intro p0 e0 s0 m0 bl0 me0 cd0 ls hF hr hlocks hU hS hA hl
  have hl : lv_has ls 3 [(0, .ref (E.2.2 399)), (1, .int x)] := hl
  refine lv_aload_n hF.1 hF.2.1 dX3_rankChain_0 rfl (lv_at hl 0 rfl) ?_
  refine lv_iconst (v := 0) hF.1 hF.2.1 dX3_rankChain_1 (by decide) ?_
  refine q_put hF hU hS dX3_rankChain_2 6 3 10 310 399 rfl rfl rfl rfl inX3 tyX3 tyX3_ok nmX3 (by decide) (by decide) rfl w_387 rfl rfl rfl rfl (fun H locs hU hS => ?_)
  refine lv_iconst (v := 0) hF.1 hF.2.1 dX3_rankChain_5 (by decide) ?_
  refine lv_istore_n (lv' := [(2, .int 0), (0, .ref (E.2.2 399)), (1, .int x)]) hF.1 hF.2.1 dX3_rankChain_6 rfl hl (by decide) rfl (fun ls hl => ?_)
  refine lv_iload_n hF.1 hF.2.1 dX3_rankChain_7 rfl (lv_at hl 0 rfl) ?_
  refine lv_aload_n hF.1 hF.2.1 dX3_rankChain_8 rfl (lv_at hl 1 rfl) ?_
  refine q_get (v := .ref (E.2.2 99)) hF hU dX3_rankChain_9 6 3 0 300 399 rfl rfl rfl rfl inX3 (by decide) (by decide) w_377 rfl rfl ?_
  refine q_get (v := .int 0) hF hU dX3_rankChain_12 1 0 8 8 99 rfl rfl rfl rfl inX0 (by decide) (by decide) w_164 rfl (congrArg Value.int h_shopCount) ?_
  refine lv_icmp_ge (tgt := 53) hF.1 hF.2.1 dX3_rankChain_15 (by decide) (fun _ => ?_) (fun h9 => absurd (by decide) h9)
  refine lv_aload_n hF.1 hF.2.1 dX3_rankChain_53 rfl (lv_at hl 1 rfl) ?_
  refine q_get (v := .int 0) hF hU dX3_rankChain_54 6 3 10 310 399 rfl rfl rfl rfl inX3 (by decide) (by decide) w_387 rfl rfl ?_
  exact q_iret hF hr rfl hlocks hU hS dX3_rankChain_57 (⟨rfl, k_X3_rankChain_r0 x⟩)
theorem k_X11_hasMean_r0 (x : Int32) (y : Int32) (z : Int32) : (0 : Int32) = 0 := by
  first | rfl | (simp only [Int32.lt_iff_toInt_lt, Int32.le_iff_toInt_le, ← Int32.toInt_inj, Int32.zero_add, Int32.add_zero] at *; omega) | (simp only [Int32.lt_iff_toInt_lt, Int32.le_iff_toInt_le, ← Int32.toInt_inj, Int32.zero_add, Int32.add_zero] at *; done) | (simp only [Int32.lt_iff_toInt_lt, Int32.le_iff_toInt_le, ← Int32.toInt_inj, Int32.zero_add, Int32.add_zero] at *; simp at *; omega) | (simp at *; omega) | (simp_all; done)
set_option maxHeartbeats 400000 in
set_option maxRecDepth 100000 in
theorem k_X11_hasMean (l : Launch) (E : qE) (A : Nat → Prop) (u : qS) (x : Int32) (y : Int32) (z : Int32) (h_shopCount : u.1 8 = 0) : Met l yX11_hasMean (uws yX11_hasMean cX11_hasMean 4 (some .boolean)) (qR 5 0 0) (qPc E A 0 u [.ref (E.2.2 1199), .int x, .int y, .int z]) (qQi E A 0 (fun r u1 => u1 = u ∧ r = 0)) 0 0 A := by
  refine q_met (own := RX11) (f := 5) [.ref (E.2.2 1199), .int x, .int y, .int z] (by decide) (Nat.le_of_ble_eq_true rfl) rfl ?_
  intro p0 e0 s0 m0 bl0 me0 cd0 ls hF hr hlocks hU hS hA hl
  have hl : lv_has ls 4 [(0, .ref (E.2.2 1199)), (1, .int x), (2, .int y), (3, .int z)] := hl
  refine lv_aload_n hF.1 hF.2.1 dX11_hasMean_0 rfl (lv_at hl 0 rfl) ?_
  refine q_get (v := .ref (E.2.2 99)) hF hU dX11_hasMean_1 0 11 0 1100 1199 rfl rfl rfl rfl inX11 (by decide) (by decide) w_436 rfl rfl ?_
  refine lv_iload_n hF.1 hF.2.1 dX11_hasMean_4 rfl (lv_at hl 1 rfl) ?_
  have hM9 := (k_X0_hasShop l E A u x h_shopCount)
  have hR9 := q_runV (l := l) (e := e0) (below := bl0) (meth := me0) (R := qR 5 0 0) (cells := 0) (slots := 0) (st0 := [.int x, .ref (E.2.2 99)]) (rest := []) hF hU hS hA 1 1 0 99 rfl rfl rfl hM9 w_563 w_564 w_565 w_100 w_566 (by decide +kernel) ⟨Nat.le_of_ble_eq_true rfl, Nat.le_of_ble_eq_true rfl⟩ dX11_hasMean_5 rfl hl.1 rfl (Nat.le_of_ble_eq_true rfl) ⟨Nat.le_of_ble_eq_true rfl, Nat.le_of_ble_eq_true rfl⟩
  refine q_calli hR9 hU.2.2.2 hS (fun r u1 H locs hw hU hS => ?_)
  rw [hw.1] at hU
  refine q_topi hw.2 ?_
  refine lv_if_eq (tgt := 19) hF.1 hF.2.1 dX11_hasMean_8 (by decide) (fun _ => ?_) (fun h9 => absurd (by decide) h9)
  refine lv_iconst (v := 0) hF.1 hF.2.1 dX11_hasMean_19 (by decide) ?_
  exact q_iret hF hr (by decide) hlocks hU hS dX11_hasMean_20 (⟨rfl, k_X11_hasMean_r0 x y z⟩)
theorem k_X11_doubt_r0 (x : Int32) (y : Int32) (z : Int32) : ((-1) : Int32) = (-1) := by
  first | rfl | (simp only [Int32.lt_iff_toInt_lt, Int32.le_iff_toInt_le, ← Int32.toInt_inj, Int32.zero_add, Int32.add_zero] at *; omega) | (simp only [Int32.lt_iff_toInt_lt, Int32.le_iff_toInt_le, ← Int32.toInt_inj, Int32.zero_add, Int32.add_zero] at *; done) | (simp only [Int32.lt_iff_toInt_lt, Int32.le_iff_toInt_le, ← Int32.toInt_inj, Int32.zero_add, Int32.add_zero] at *; simp at *; omega) | (simp at *; omega) | (simp_all; done)
set_option maxHeartbeats 400000 in
set_option maxRecDepth 100000 in
theorem k_X11_doubt (l : Launch) (E : qE) (A : Nat → Prop) (u : qS) (x : Int32) (y : Int32) (z : Int32) (h_shopCount : u.1 8 = 0) (h_med : u.1 311 = 0) (h_bed : u.1 18 = 0) (h_visitCount : u.1 10 = 0) : Met l yX11_doubt (uws yX11_doubt cX11_doubt 4 (some .int)) (qR 9 0 0) (qPc E A 0 u [.ref (E.2.2 1199), .int x, .int y, .int z]) (qQi E A 0 (fun r _ => r = (-1))) 0 0 A := by
  refine q_met (own := RX11) (f := 9) [.ref (E.2.2 1199), .int x, .int y, .int z] (by decide) (Nat.le_of_ble_eq_true rfl) rfl ?_
  intro p0 e0 s0 m0 bl0 me0 cd0 ls hF hr hlocks hU hS hA hl
  have hl : lv_has ls 4 [(0, .ref (E.2.2 1199)), (1, .int x), (2, .int y), (3, .int z)] := hl
  refine lv_aload_n hF.1 hF.2.1 dX11_doubt_0 rfl (lv_at hl 0 rfl) ?_
  refine q_get (v := .ref (E.2.2 399)) hF hU dX11_doubt_1 0 11 5 1105 1199 rfl rfl rfl rfl inX11 (by decide) (by decide) w_441 rfl rfl ?_
  have hM9 := (k_X3_refresh l E A u h_med h_bed)
  have hR9 := q_runV (l := l) (e := e0) (below := bl0) (meth := me0) (R := qR 9 0 0) (cells := 0) (slots := 0) (st0 := [.ref (E.2.2 399)]) (rest := []) hF hU hS hA 0 6 3 399 rfl rfl rfl hM9 w_931 w_932 w_933 w_105 w_934 (by decide +kernel) ⟨Nat.le_of_ble_eq_true rfl, Nat.le_of_ble_eq_true rfl⟩ dX11_doubt_4 rfl hl.1 rfl (Nat.le_of_ble_eq_true rfl) ⟨Nat.le_of_ble_eq_true rfl, Nat.le_of_ble_eq_true rfl⟩
  refine q_callv hR9 hU.2.2.2 hS (fun u_1 H locs hw_2 hU hS => ?_)
  rw [hw_2] at hU
  refine lv_aload_n hF.1 hF.2.1 dX11_doubt_7 rfl (lv_at hl 0 rfl) ?_
  refine lv_iload_n hF.1 hF.2.1 dX11_doubt_8 rfl (lv_at hl 1 rfl) ?_
  refine lv_iload_n hF.1 hF.2.1 dX11_doubt_9 rfl (lv_at hl 2 rfl) ?_
  refine lv_iload_n hF.1 hF.2.1 dX11_doubt_10 rfl (lv_at hl 3 rfl) ?_
  have hM9 := (k_X11_hasMean l E A u x y z h_shopCount)
  have hR9 := q_runV (l := l) (e := e0) (below := bl0) (meth := me0) (R := qR 9 0 0) (cells := 0) (slots := 0) (st0 := [.int z, .int y, .int x, .ref (E.2.2 1199)]) (rest := []) hF hU hS hA 3 0 11 1199 rfl rfl rfl hM9 w_1013 w_1015 w_35 w_99 w_1016 (by decide +kernel) ⟨Nat.le_of_ble_eq_true rfl, Nat.le_of_ble_eq_true rfl⟩ dX11_doubt_11 rfl hl.1 rfl (Nat.le_of_ble_eq_true rfl) ⟨Nat.le_of_ble_eq_true rfl, Nat.le_of_ble_eq_true rfl⟩
  refine q_calli hR9 hU.2.2.2 hS (fun r u1 H locs hw hU hS => ?_)
  rw [hw.1] at hU
  refine q_topi hw.2 ?_
  refine lv_if_eq (tgt := 32) hF.1 hF.2.1 dX11_doubt_14 (by decide) (fun _ => ?_) (fun h9 => absurd (by decide) h9)
  refine lv_iconst (v := (-1)) hF.1 hF.2.1 dX11_doubt_32 (by decide) ?_
  exact q_iret hF hr rfl hlocks hU hS dX11_doubt_33 (k_X11_doubt_r0 x y z)
theorem k_X11_apart_r0 (x : Int32) (y : Int32) (z : Int32) (w : Int32) (c9_3 : (x : Int32) = y) : ((-1) : Int32) = (-1) := by
  first | rfl | (simp only [Int32.lt_iff_toInt_lt, Int32.le_iff_toInt_le, ← Int32.toInt_inj, Int32.zero_add, Int32.add_zero] at *; omega) | (simp only [Int32.lt_iff_toInt_lt, Int32.le_iff_toInt_le, ← Int32.toInt_inj, Int32.zero_add, Int32.add_zero] at *; done) | (simp only [Int32.lt_iff_toInt_lt, Int32.le_iff_toInt_le, ← Int32.toInt_inj, Int32.zero_add, Int32.add_zero] at *; simp at *; omega) | (simp at *; omega) | (simp_all; done)
theorem k_X11_apart_r1 (x : Int32) (y : Int32) (z : Int32) (w : Int32) (c9_3 : ¬ (x : Int32) = y) : ((-1) : Int32) = (-1) := by
  first | rfl | (simp only [Int32.lt_iff_toInt_lt, Int32.le_iff_toInt_le, ← Int32.toInt_inj, Int32.zero_add, Int32.add_zero] at *; omega) | (simp only [Int32.lt_iff_toInt_lt, Int32.le_iff_toInt_le, ← Int32.toInt_inj, Int32.zero_add, Int32.add_zero] at *; done) | (simp only [Int32.lt_iff_toInt_lt, Int32.le_iff_toInt_le, ← Int32.toInt_inj, Int32.zero_add, Int32.add_zero] at *; simp at *; omega) | (simp at *; omega) | (simp_all; done)
set_option maxHeartbeats 400000 in
set_option maxRecDepth 100000 in
theorem k_X11_apart (l : Launch) (E : qE) (A : Nat → Prop) (u : qS) (x : Int32) (y : Int32) (z : Int32) (w : Int32) (h_shopCount : u.1 8 = 0) (h_med : u.1 311 = 0) (h_bed : u.1 18 = 0) (h_visitCount : u.1 10 = 0) : Met l yX11_apart (uws yX11_apart cX11_apart 5 (some .int)) (qR 9 0 0) (qPc E A 0 u [.ref (E.2.2 1199), .int x, .int y, .int z, .int w]) (qQi E A 0 (fun r _ => r = (-1))) 0 0 A := by
  refine q_met (own := RX11) (f := 9) [.ref (E.2.2 1199), .int x, .int y, .int z, .int w] (by decide) (Nat.le_of_ble_eq_true rfl) rfl ?_
  intro p0 e0 s0 m0 bl0 me0 cd0 ls hF hr hlocks hU hS hA hl
  have hl : lv_has ls 5 [(0, .ref (E.2.2 1199)), (1, .int x), (2, .int y), (3, .int z), (4, .int w)] := hl
  refine lv_aload_n hF.1 hF.2.1 dX11_apart_0 rfl (lv_at hl 0 rfl) ?_
  refine q_get (v := .ref (E.2.2 399)) hF hU dX11_apart_1 0 11 5 1105 1199 rfl rfl rfl rfl inX11 (by decide) (by decide) w_441 rfl rfl ?_
  have hM9 := (k_X3_refresh l E A u h_med h_bed)
  have hR9 := q_runV (l := l) (e := e0) (below := bl0) (meth := me0) (R := qR 9 0 0) (cells := 0) (slots := 0) (st0 := [.ref (E.2.2 399)]) (rest := []) hF hU hS hA 0 6 3 399 rfl rfl rfl hM9 w_931 w_932 w_933 w_105 w_934 (by decide +kernel) ⟨Nat.le_of_ble_eq_true rfl, Nat.le_of_ble_eq_true rfl⟩ dX11_apart_4 rfl hl.1 rfl (Nat.le_of_ble_eq_true rfl) ⟨Nat.le_of_ble_eq_true rfl, Nat.le_of_ble_eq_true rfl⟩
  refine q_callv hR9 hU.2.2.2 hS (fun u_1 H locs hw_2 hU hS => ?_)
  rw [hw_2] at hU
  refine lv_iload_n hF.1 hF.2.1 dX11_apart_7 rfl (lv_at hl 1 rfl) ?_
  refine lv_iload_n hF.1 hF.2.1 dX11_apart_8 rfl (lv_at hl 2 rfl) ?_
  refine lv_icmp_eq (tgt := 45) hF.1 hF.2.1 dX11_apart_9 (by decide) (fun c9_3 => ?_) (fun c9_3 => ?_)
  · refine lv_iconst (v := (-1)) hF.1 hF.2.1 dX11_apart_45 (by decide) ?_
    exact q_iret hF hr rfl hlocks hU hS dX11_apart_46 (k_X11_apart_r0 x y z w c9_3)
  · refine lv_aload_n hF.1 hF.2.1 dX11_apart_12 rfl (lv_at hl 0 rfl) ?_
    refine lv_iload_n hF.1 hF.2.1 dX11_apart_13 rfl (lv_at hl 1 rfl) ?_
    refine lv_iload_n hF.1 hF.2.1 dX11_apart_14 rfl (lv_at hl 3 rfl) ?_
    refine lv_iload hF.1 hF.2.1 dX11_apart_15 (lv_at hl 4 rfl) ?_
    have hM9 := (k_X11_hasMean l E A u x z w h_shopCount)
    have hR9 := q_runV (l := l) (e := e0) (below := bl0) (meth := me0) (R := qR 9 0 0) (cells := 0) (slots := 0) (st0 := [.int w, .int z, .int x, .ref (E.2.2 1199)]) (rest := []) hF hU hS hA 3 0 11 1199 rfl rfl rfl hM9 w_1013 w_1015 w_35 w_99 w_1016 (by decide +kernel) ⟨Nat.le_of_ble_eq_true rfl, Nat.le_of_ble_eq_true rfl⟩ dX11_apart_17 rfl hl.1 rfl (Nat.le_of_ble_eq_true rfl) ⟨Nat.le_of_ble_eq_true rfl, Nat.le_of_ble_eq_true rfl⟩
    refine q_calli hR9 hU.2.2.2 hS (fun r u1 H locs hw hU hS => ?_)
    rw [hw.1] at hU
    refine q_topi hw.2 ?_
    refine lv_if_eq (tgt := 45) hF.1 hF.2.1 dX11_apart_20 (by decide) (fun _ => ?_) (fun h9 => absurd (by decide) h9)
    refine lv_iconst (v := (-1)) hF.1 hF.2.1 dX11_apart_45 (by decide) ?_
    exact q_iret hF hr rfl hlocks hU hS dX11_apart_46 (k_X11_apart_r1 x y z w c9_3)
theorem k_X11_enough_r0 (x : Int32) (y : Int32) (z : Int32) (w : Int32) (c9_3 : (x : Int32) = y) : ((-1) : Int32) = (-1) := by
  first | rfl | (simp only [Int32.lt_iff_toInt_lt, Int32.le_iff_toInt_le, ← Int32.toInt_inj, Int32.zero_add, Int32.add_zero] at *; omega) | (simp only [Int32.lt_iff_toInt_lt, Int32.le_iff_toInt_le, ← Int32.toInt_inj, Int32.zero_add, Int32.add_zero] at *; done) | (simp only [Int32.lt_iff_toInt_lt, Int32.le_iff_toInt_le, ← Int32.toInt_inj, Int32.zero_add, Int32.add_zero] at *; simp at *; omega) | (simp at *; omega) | (simp_all; done)
theorem k_X11_enough_r1 (x : Int32) (y : Int32) (z : Int32) (w : Int32) (c9_3 : ¬ (x : Int32) = y) : ((-1) : Int32) = (-1) := by
  first | rfl | (simp only [Int32.lt_iff_toInt_lt, Int32.le_iff_toInt_le, ← Int32.toInt_inj, Int32.zero_add, Int32.add_zero] at *; omega) | (simp only [Int32.lt_iff_toInt_lt, Int32.le_iff_toInt_le, ← Int32.toInt_inj, Int32.zero_add, Int32.add_zero] at *; done) | (simp only [Int32.lt_iff_toInt_lt, Int32.le_iff_toInt_le, ← Int32.toInt_inj, Int32.zero_add, Int32.add_zero] at *; simp at *; omega) | (simp at *; omega) | (simp_all; done)
set_option maxHeartbeats 400000 in
set_option maxRecDepth 100000 in
theorem k_X11_enough (l : Launch) (E : qE) (A : Nat → Prop) (u : qS) (x : Int32) (y : Int32) (z : Int32) (w : Int32) (h_shopCount : u.1 8 = 0) (h_med : u.1 311 = 0) (h_bed : u.1 18 = 0) (h_visitCount : u.1 10 = 0) : Met l yX11_enough (uws yX11_enough cX11_enough 7 (some .int)) (qR 9 0 0) (qPc E A 0 u [.ref (E.2.2 1199), .int x, .int y, .int z, .int w]) (qQi E A 0 (fun r _ => r = (-1))) 0 0 A := by
  refine q_met (own := RX11) (f := 9) [.ref (E.2.2 1199), .int x, .int y, .int z, .int w] (by decide) (Nat.le_of_ble_eq_true rfl) rfl ?_
  intro p0 e0 s0 m0 bl0 me0 cd0 ls hF hr hlocks hU hS hA hl
  have hl : lv_has ls 7 [(0, .ref (E.2.2 1199)), (1, .int x), (2, .int y), (3, .int z), (4, .int w)] := hl
  refine lv_aload_n hF.1 hF.2.1 dX11_enough_0 rfl (lv_at hl 0 rfl) ?_
  refine q_get (v := .ref (E.2.2 399)) hF hU dX11_enough_1 0 11 5 1105 1199 rfl rfl rfl rfl inX11 (by decide) (by decide) w_441 rfl rfl ?_
  have hM9 := (k_X3_refresh l E A u h_med h_bed)
  have hR9 := q_runV (l := l) (e := e0) (below := bl0) (meth := me0) (R := qR 9 0 0) (cells := 0) (slots := 0) (st0 := [.ref (E.2.2 399)]) (rest := []) hF hU hS hA 0 6 3 399 rfl rfl rfl hM9 w_931 w_932 w_933 w_105 w_934 (by decide +kernel) ⟨Nat.le_of_ble_eq_true rfl, Nat.le_of_ble_eq_true rfl⟩ dX11_enough_4 rfl hl.1 rfl (Nat.le_of_ble_eq_true rfl) ⟨Nat.le_of_ble_eq_true rfl, Nat.le_of_ble_eq_true rfl⟩
  refine q_callv hR9 hU.2.2.2 hS (fun u_1 H locs hw_2 hU hS => ?_)
  rw [hw_2] at hU
  refine lv_iload_n hF.1 hF.2.1 dX11_enough_7 rfl (lv_at hl 1 rfl) ?_
  refine lv_iload_n hF.1 hF.2.1 dX11_enough_8 rfl (lv_at hl 2 rfl) ?_
  refine lv_icmp_eq (tgt := 45) hF.1 hF.2.1 dX11_enough_9 (by decide) (fun c9_3 => ?_) (fun c9_3 => ?_)
  · refine lv_iconst (v := (-1)) hF.1 hF.2.1 dX11_enough_45 (by decide) ?_
    exact q_iret hF hr rfl hlocks hU hS dX11_enough_46 (k_X11_enough_r0 x y z w c9_3)
  · refine lv_aload_n hF.1 hF.2.1 dX11_enough_12 rfl (lv_at hl 0 rfl) ?_
    refine lv_iload_n hF.1 hF.2.1 dX11_enough_13 rfl (lv_at hl 1 rfl) ?_
    refine lv_iload_n hF.1 hF.2.1 dX11_enough_14 rfl (lv_at hl 3 rfl) ?_
    refine lv_iload hF.1 hF.2.1 dX11_enough_15 (lv_at hl 4 rfl) ?_
    have hM9 := (k_X11_hasMean l E A u x z w h_shopCount)
    have hR9 := q_runV (l := l) (e := e0) (below := bl0) (meth := me0) (R := qR 9 0 0) (cells := 0) (slots := 0) (st0 := [.int w, .int z, .int x, .ref (E.2.2 1199)]) (rest := []) hF hU hS hA 3 0 11 1199 rfl rfl rfl hM9 w_1013 w_1015 w_35 w_99 w_1016 (by decide +kernel) ⟨Nat.le_of_ble_eq_true rfl, Nat.le_of_ble_eq_true rfl⟩ dX11_enough_17 rfl hl.1 rfl (Nat.le_of_ble_eq_true rfl) ⟨Nat.le_of_ble_eq_true rfl, Nat.le_of_ble_eq_true rfl⟩
    refine q_calli hR9 hU.2.2.2 hS (fun r u1 H locs hw hU hS => ?_)
    rw [hw.1] at hU
    refine q_topi hw.2 ?_
    refine lv_if_eq (tgt := 45) hF.1 hF.2.1 dX11_enough_20 (by decide) (fun _ => ?_) (fun h9 => absurd (by decide) h9)
    refine lv_iconst (v := (-1)) hF.1 hF.2.1 dX11_enough_45 (by decide) ?_
    exact q_iret hF hr rfl hlocks hU hS dX11_enough_46 (k_X11_enough_r1 x y z w c9_3)
theorem k_X11_order_r0 (x : Int32) (y : Int32) (z : Int32) (w : Int32) (b1_1 : 0 ≤ x ∧ x ≤ 3) (b9_2 : (0 ≤ y ∧ y ≤ 9999) ∧ (0 ≤ z ∧ z ≤ 9999) ∧ y ≤ z) (b19_3 : 0 ≤ w ∧ w ≤ 1) : ((-1) : Int32) = (-1) := by
  first | rfl | (simp only [Int32.lt_iff_toInt_lt, Int32.le_iff_toInt_le, ← Int32.toInt_inj, Int32.zero_add, Int32.add_zero] at *; omega) | (simp only [Int32.lt_iff_toInt_lt, Int32.le_iff_toInt_le, ← Int32.toInt_inj, Int32.zero_add, Int32.add_zero] at *; done) | (simp only [Int32.lt_iff_toInt_lt, Int32.le_iff_toInt_le, ← Int32.toInt_inj, Int32.zero_add, Int32.add_zero] at *; simp at *; omega) | (simp at *; omega) | (simp_all; done)
theorem k_X11_order_r1 (x : Int32) (y : Int32) (z : Int32) (w : Int32) (b1_1 : 0 ≤ x ∧ x ≤ 3) (b9_2 : (0 ≤ y ∧ y ≤ 9999) ∧ (0 ≤ z ∧ z ≤ 9999) ∧ y ≤ z) (b19_3 : ¬ (0 ≤ w ∧ w ≤ 1)) : ((-1) : Int32) = (-1) := by
  first | rfl | (simp only [Int32.lt_iff_toInt_lt, Int32.le_iff_toInt_le, ← Int32.toInt_inj, Int32.zero_add, Int32.add_zero] at *; omega) | (simp only [Int32.lt_iff_toInt_lt, Int32.le_iff_toInt_le, ← Int32.toInt_inj, Int32.zero_add, Int32.add_zero] at *; done) | (simp only [Int32.lt_iff_toInt_lt, Int32.le_iff_toInt_le, ← Int32.toInt_inj, Int32.zero_add, Int32.add_zero] at *; simp at *; omega) | (simp at *; omega) | (simp_all; done)
theorem k_X11_order_r2 (x : Int32) (y : Int32) (z : Int32) (w : Int32) (b1_1 : 0 ≤ x ∧ x ≤ 3) (b9_2 : ¬ ((0 ≤ y ∧ y ≤ 9999) ∧ (0 ≤ z ∧ z ≤ 9999) ∧ y ≤ z)) : ((-1) : Int32) = (-1) := by
  first | rfl | (simp only [Int32.lt_iff_toInt_lt, Int32.le_iff_toInt_le, ← Int32.toInt_inj, Int32.zero_add, Int32.add_zero] at *; omega) | (simp only [Int32.lt_iff_toInt_lt, Int32.le_iff_toInt_le, ← Int32.toInt_inj, Int32.zero_add, Int32.add_zero] at *; done) | (simp only [Int32.lt_iff_toInt_lt, Int32.le_iff_toInt_le, ← Int32.toInt_inj, Int32.zero_add, Int32.add_zero] at *; simp at *; omega) | (simp at *; omega) | (simp_all; done)
theorem k_X11_order_r3 (x : Int32) (y : Int32) (z : Int32) (w : Int32) (b1_1 : ¬ (0 ≤ x ∧ x ≤ 3)) : ((-1) : Int32) = (-1) := by
  first | rfl | (simp only [Int32.lt_iff_toInt_lt, Int32.le_iff_toInt_le, ← Int32.toInt_inj, Int32.zero_add, Int32.add_zero] at *; omega) | (simp only [Int32.lt_iff_toInt_lt, Int32.le_iff_toInt_le, ← Int32.toInt_inj, Int32.zero_add, Int32.add_zero] at *; done) | (simp only [Int32.lt_iff_toInt_lt, Int32.le_iff_toInt_le, ← Int32.toInt_inj, Int32.zero_add, Int32.add_zero] at *; simp at *; omega) | (simp at *; omega) | (simp_all; done)
set_option maxHeartbeats 400000 in
set_option maxRecDepth 100000 in
theorem k_X11_order (l : Launch) (E : qE) (A : Nat → Prop) (u : qS) (x : Int32) (y : Int32) (z : Int32) (w : Int32) (h_shopCount : u.1 8 = 0) (h_med : u.1 311 = 0) (h_bed : u.1 18 = 0) (h_visitCount : u.1 10 = 0) : Met l yX11_order (uws yX11_order cX11_order 5 (some .int)) (qR 9 0 0) (qPc E A 0 u [.ref (E.2.2 1199), .int x, .int y, .int z, .int w]) (qQi E A 0 (fun r _ => r = (-1))) 0 0 A := by
  refine q_met (own := RX11) (f := 9) [.ref (E.2.2 1199), .int x, .int y, .int z, .int w] (by decide) (Nat.le_of_ble_eq_true rfl) rfl ?_
  intro p0 e0 s0 m0 bl0 me0 cd0 ls hF hr hlocks hU hS hA hl
  have hl : lv_has ls 5 [(0, .ref (E.2.2 1199)), (1, .int x), (2, .int y), (3, .int z), (4, .int w)] := hl
  refine lv_iload_n hF.1 hF.2.1 dX11_order_0 rfl (lv_at hl 1 rfl) ?_
  have hM9 := (k_X11_isChain l E A 0 u x)
  have hR9 := q_runS (l := l) (e := e0) (below := bl0) (meth := me0) (R := qR 9 0 0) (cells := 0) (slots := 0) (st0 := [.int x]) (rest := []) hF hU hS hA 1 hM9 w_494 w_495 w_99 w_496 (by decide +kernel) ⟨Nat.le_of_ble_eq_true rfl, Nat.le_of_ble_eq_true rfl⟩ dX11_order_1 rfl hl.1 rfl (Nat.le_of_ble_eq_true rfl) ⟨Nat.le_of_ble_eq_true rfl, Nat.le_of_ble_eq_true rfl⟩
  refine q_calli hR9 hU.2.2.2 hS (fun r u1 H locs hw hU hS => ?_)
  obtain ⟨hu1, hw⟩ := hw
  rw [hu1] at hU
  rcases hw with ⟨rfl, b1_1⟩ | ⟨rfl, b1_1⟩
  · refine lv_if_eq (tgt := 25) hF.1 hF.2.1 dX11_order_4 (by decide) (fun h9 => absurd h9 (by decide)) (fun _ => ?_)
    refine lv_iload_n hF.1 hF.2.1 dX11_order_7 rfl (lv_at hl 2 rfl) ?_
    refine lv_iload_n hF.1 hF.2.1 dX11_order_8 rfl (lv_at hl 3 rfl) ?_
    have hM9 := (k_X11_isSpan l E A 0 u y z)
    have hR9 := q_runS (l := l) (e := e0) (below := bl0) (meth := me0) (R := qR 9 0 0) (cells := 0) (slots := 0) (st0 := [.int z, .int y]) (rest := []) hF hU hS hA 2 hM9 w_1017 w_1018 w_99 w_1019 (by decide +kernel) ⟨Nat.le_of_ble_eq_true rfl, Nat.le_of_ble_eq_true rfl⟩ dX11_order_9 rfl hl.1 rfl (Nat.le_of_ble_eq_true rfl) ⟨Nat.le_of_ble_eq_true rfl, Nat.le_of_ble_eq_true rfl⟩
    refine q_calli hR9 hU.2.2.2 hS (fun r u1 H locs hw hU hS => ?_)
    obtain ⟨hu1, hw⟩ := hw
    rw [hu1] at hU
    rcases hw with ⟨rfl, b9_2⟩ | ⟨rfl, b9_2⟩
    · refine lv_if_eq (tgt := 25) hF.1 hF.2.1 dX11_order_12 (by decide) (fun h9 => absurd h9 (by decide)) (fun _ => ?_)
      refine lv_iload hF.1 hF.2.1 dX11_order_15 (lv_at hl 4 rfl) ?_
      refine lv_iconst (v := 0) hF.1 hF.2.1 dX11_order_17 (by decide) ?_
      refine lv_iconst (v := 1) hF.1 hF.2.1 dX11_order_18 (by decide) ?_
      have hM9 := (k_X11_isWithin l E A 0 u w 0 1)
      have hR9 := q_runS (l := l) (e := e0) (below := bl0) (meth := me0) (R := qR 9 0 0) (cells := 0) (slots := 0) (st0 := [.int 1, .int 0, .int w]) (rest := []) hF hU hS hA 3 hM9 w_468 w_469 w_99 w_470 (by decide +kernel) ⟨Nat.le_of_ble_eq_true rfl, Nat.le_of_ble_eq_true rfl⟩ dX11_order_19 rfl hl.1 rfl (Nat.le_of_ble_eq_true rfl) ⟨Nat.le_of_ble_eq_true rfl, Nat.le_of_ble_eq_true rfl⟩
      refine q_calli hR9 hU.2.2.2 hS (fun r u1 H locs hw hU hS => ?_)
      obtain ⟨hu1, hw⟩ := hw
      rw [hu1] at hU
      rcases hw with ⟨rfl, b19_3⟩ | ⟨rfl, b19_3⟩
      · refine lv_if_ne (tgt := 27) hF.1 hF.2.1 dX11_order_22 (by decide) (fun _ => ?_) (fun h9 => absurd h9 (by decide))
        refine lv_aload_n hF.1 hF.2.1 dX11_order_27 rfl (lv_at hl 0 rfl) ?_
        refine q_get (v := .ref (E.2.2 399)) hF hU dX11_order_28 0 11 5 1105 1199 rfl rfl rfl rfl inX11 (by decide) (by decide) w_441 rfl rfl ?_
        have hM9 := (k_X3_refresh l E A u h_med h_bed)
        have hR9 := q_runV (l := l) (e := e0) (below := bl0) (meth := me0) (R := qR 9 0 0) (cells := 0) (slots := 0) (st0 := [.ref (E.2.2 399)]) (rest := []) hF hU hS hA 0 6 3 399 rfl rfl rfl hM9 w_931 w_932 w_933 w_105 w_934 (by decide +kernel) ⟨Nat.le_of_ble_eq_true rfl, Nat.le_of_ble_eq_true rfl⟩ dX11_order_31 rfl hl.1 rfl (Nat.le_of_ble_eq_true rfl) ⟨Nat.le_of_ble_eq_true rfl, Nat.le_of_ble_eq_true rfl⟩
        refine q_callv hR9 hU.2.2.2 hS (fun u_4 H locs hw_5 hU hS => ?_)
        rw [hw_5] at hU
        refine lv_aload_n hF.1 hF.2.1 dX11_order_34 rfl (lv_at hl 0 rfl) ?_
        refine q_get (v := .ref (E.2.2 399)) hF hU dX11_order_35 0 11 5 1105 1199 rfl rfl rfl rfl inX11 (by decide) (by decide) w_441 rfl rfl ?_
        refine lv_iload_n hF.1 hF.2.1 dX11_order_38 rfl (lv_at hl 2 rfl) ?_
        refine lv_iload_n hF.1 hF.2.1 dX11_order_39 rfl (lv_at hl 3 rfl) ?_
        have hM9 := (k_X3_addDays l E A u y z h_visitCount)
        have hR9 := q_runV (l := l) (e := e0) (below := bl0) (meth := me0) (R := qR 9 0 0) (cells := 0) (slots := 0) (st0 := [.int z, .int y, .ref (E.2.2 399)]) (rest := []) hF hU hS hA 2 6 3 399 rfl rfl rfl hM9 w_1020 w_1021 w_1022 w_105 w_1023 (by decide +kernel) ⟨Nat.le_of_ble_eq_true rfl, Nat.le_of_ble_eq_true rfl⟩ dX11_order_40 rfl hl.1 rfl (Nat.le_of_ble_eq_true rfl) ⟨Nat.le_of_ble_eq_true rfl, Nat.le_of_ble_eq_true rfl⟩
        refine q_callv hR9 hU.2.2.2 hS (fun u_6 H locs hw_7 hU hS => ?_)
        have q_8 : u_6.1 8 = 0 := (congrFun hw_7 8).trans h_shopCount
        have q_9 : u_6.1 311 = 0 := (congrFun hw_7 311).trans h_med
        have q_10 : u_6.1 18 = 0 := (congrFun hw_7 18).trans h_bed
        have q_11 : u_6.1 10 = 0 := (congrFun hw_7 10).trans h_visitCount
        refine lv_aload_n hF.1 hF.2.1 dX11_order_43 rfl (lv_at hl 0 rfl) ?_
        refine q_get (v := .ref (E.2.2 399)) hF hU dX11_order_44 0 11 5 1105 1199 rfl rfl rfl rfl inX11 (by decide) (by decide) w_441 rfl rfl ?_
        refine lv_iload_n hF.1 hF.2.1 dX11_order_47 rfl (lv_at hl 1 rfl) ?_
        have hM9 := (k_X3_rankChain l E A u_6 x q_8)
        have hR9 := q_runV (l := l) (e := e0) (below := bl0) (meth := me0) (R := qR 9 0 0) (cells := 0) (slots := 0) (st0 := [.int x, .ref (E.2.2 399)]) (rest := []) hF hU hS hA 1 6 3 399 rfl rfl rfl hM9 w_1058 w_1059 w_1060 w_105 w_1061 (by decide +kernel) ⟨Nat.le_of_ble_eq_true rfl, Nat.le_of_ble_eq_true rfl⟩ dX11_order_48 rfl hl.1 rfl (Nat.le_of_ble_eq_true rfl) ⟨Nat.le_of_ble_eq_true rfl, Nat.le_of_ble_eq_true rfl⟩
        refine q_calli hR9 hU.2.2.2 hS (fun r u1 H locs hw hU hS => ?_)
        rw [hw.1] at hU
        refine q_topi hw.2 ?_
        refine lv_if_ne (tgt := 56) hF.1 hF.2.1 dX11_order_51 (by decide) (fun h9 => absurd (by decide) h9) (fun _ => ?_)
        refine lv_iconst (v := (-1)) hF.1 hF.2.1 dX11_order_54 (by decide) ?_
        exact q_iret hF hr rfl hlocks hU hS dX11_order_55 (k_X11_order_r0 x y z w b1_1 b9_2 b19_3)
      · refine lv_if_ne (tgt := 27) hF.1 hF.2.1 dX11_order_22 (by decide) (fun h9 => absurd (by decide) h9) (fun _ => ?_)
        refine lv_iconst (v := (-1)) hF.1 hF.2.1 dX11_order_25 (by decide) ?_
        exact q_iret hF hr rfl hlocks hU hS dX11_order_26 (k_X11_order_r1 x y z w b1_1 b9_2 b19_3)
    · refine lv_if_eq (tgt := 25) hF.1 hF.2.1 dX11_order_12 (by decide) (fun _ => ?_) (fun h9 => absurd (by decide) h9)
      refine lv_iconst (v := (-1)) hF.1 hF.2.1 dX11_order_25 (by decide) ?_
      exact q_iret hF hr rfl hlocks hU hS dX11_order_26 (k_X11_order_r2 x y z w b1_1 b9_2)
  · refine lv_if_eq (tgt := 25) hF.1 hF.2.1 dX11_order_4 (by decide) (fun _ => ?_) (fun h9 => absurd (by decide) h9)
    refine lv_iconst (v := (-1)) hF.1 hF.2.1 dX11_order_25 (by decide) ?_
    exact q_iret hF hr rfl hlocks hU hS dX11_order_26 (k_X11_order_r3 x y z w b1_1)
theorem k_X11_bonusesOf_r0 (x : Int32) (y : Int32) (z : Int32) : (0 : Int32) = 0 := by
  first | rfl | (simp only [Int32.lt_iff_toInt_lt, Int32.le_iff_toInt_le, ← Int32.toInt_inj, Int32.zero_add, Int32.add_zero] at *; omega) | (simp only [Int32.lt_iff_toInt_lt, Int32.le_iff_toInt_le, ← Int32.toInt_inj, Int32.zero_add, Int32.add_zero] at *; done) | (simp only [Int32.lt_iff_toInt_lt, Int32.le_iff_toInt_le, ← Int32.toInt_inj, Int32.zero_add, Int32.add_zero] at *; simp at *; omega) | (simp at *; omega) | (simp_all; done)
set_option maxHeartbeats 400000 in
set_option maxRecDepth 100000 in
theorem k_X11_bonusesOf (l : Launch) (E : qE) (A : Nat → Prop) (u : qS) (x : Int32) (y : Int32) (z : Int32) (h_sed : u.1 609 = 0) (h_ted : u.1 909 = 0) (h_bed : u.1 18 = 0) (h_visitCount : u.1 10 = 0) : Met l yX11_bonusesOf (uws yX11_bonusesOf cX11_bonusesOf 8 (some .int)) (qR 5 0 0) (qPc E A 0 u [.ref (E.2.2 1199), .int x, .int y, .int z]) (qQi E A 0 (fun r u1 => u1 = u ∧ r = 0)) 0 0 A := by
  refine q_met (own := RX11) (f := 5) [.ref (E.2.2 1199), .int x, .int y, .int z] (by decide) (Nat.le_of_ble_eq_true rfl) rfl ?_
  intro p0 e0 s0 m0 bl0 me0 cd0 ls hF hr hlocks hU hS hA hl
  have hl : lv_has ls 8 [(0, .ref (E.2.2 1199)), (1, .int x), (2, .int y), (3, .int z)] := hl
  refine lv_aload_n hF.1 hF.2.1 dX11_bonusesOf_0 rfl (lv_at hl 0 rfl) ?_
  refine q_get (v := .ref (E.2.2 999)) hF hU dX11_bonusesOf_1 0 11 3 1103 1199 rfl rfl rfl rfl inX11 (by decide) (by decide) w_439 rfl rfl ?_
  have hM9 := (k_X9_refresh l E A u h_ted h_bed)
  have hR9 := q_runV (l := l) (e := e0) (below := bl0) (meth := me0) (R := qR 5 0 0) (cells := 0) (slots := 0) (st0 := [.ref (E.2.2 999)]) (rest := []) hF hU hS hA 0 4 9 999 rfl rfl rfl hM9 w_843 w_844 w_845 w_103 w_846 (by decide +kernel) ⟨Nat.le_of_ble_eq_true rfl, Nat.le_of_ble_eq_true rfl⟩ dX11_bonusesOf_4 rfl hl.1 rfl (Nat.le_of_ble_eq_true rfl) ⟨Nat.le_of_ble_eq_true rfl, Nat.le_of_ble_eq_true rfl⟩
  refine q_callv hR9 hU.2.2.2 hS (fun u_1 H locs hw_2 hU hS => ?_)
  rw [hw_2] at hU
  refine lv_aload_n hF.1 hF.2.1 dX11_bonusesOf_7 rfl (lv_at hl 0 rfl) ?_
  refine q_get (v := .ref (E.2.2 699)) hF hU dX11_bonusesOf_8 0 11 4 1104 1199 rfl rfl rfl rfl inX11 (by decide) (by decide) w_440 rfl rfl ?_
  have hM9 := (k_X6_refresh l E A u h_sed h_bed)
  have hR9 := q_runV (l := l) (e := e0) (below := bl0) (meth := me0) (R := qR 5 0 0) (cells := 0) (slots := 0) (st0 := [.ref (E.2.2 699)]) (rest := []) hF hU hS hA 0 5 6 699 rfl rfl rfl hM9 w_1162 w_937 w_938 w_104 w_939 (by decide +kernel) ⟨Nat.le_of_ble_eq_true rfl, Nat.le_of_ble_eq_true rfl⟩ dX11_bonusesOf_11 rfl hl.1 rfl (Nat.le_of_ble_eq_true rfl) ⟨Nat.le_of_ble_eq_true rfl, Nat.le_of_ble_eq_true rfl⟩
  refine q_callv hR9 hU.2.2.2 hS (fun u_3 H locs hw_4 hU hS => ?_)
  rw [hw_4] at hU
  refine lv_aload_n hF.1 hF.2.1 dX11_bonusesOf_14 rfl (lv_at hl 0 rfl) ?_
  refine q_get (v := .ref (E.2.2 99)) hF hU dX11_bonusesOf_15 0 11 0 1100 1199 rfl rfl rfl rfl inX11 (by decide) (by decide) w_436 rfl rfl ?_
  have hM9 := (k_X0_knownVisits l E A u h_visitCount)
  have hR9 := q_runV (l := l) (e := e0) (below := bl0) (meth := me0) (R := qR 5 0 0) (cells := 0) (slots := 0) (st0 := [.ref (E.2.2 99)]) (rest := []) hF hU hS hA 0 1 0 99 rfl rfl rfl hM9 w_1175 w_903 w_904 w_100 w_905 (by decide +kernel) ⟨Nat.le_of_ble_eq_true rfl, Nat.le_of_ble_eq_true rfl⟩ dX11_bonusesOf_18 rfl hl.1 rfl (Nat.le_of_ble_eq_true rfl) ⟨Nat.le_of_ble_eq_true rfl, Nat.le_of_ble_eq_true rfl⟩
  refine q_calli hR9 hU.2.2.2 hS (fun r u1 H locs hw hU hS => ?_)
  rw [hw.1] at hU
  refine q_topi hw.2 ?_
  refine lv_istore (lv' := [(4, .int 0), (0, .ref (E.2.2 1199)), (1, .int x), (2, .int y), (3, .int z)]) hF.1 hF.2.1 dX11_bonusesOf_21 hl (by decide) rfl (fun ls hl => ?_)
  refine lv_iconst (v := 0) hF.1 hF.2.1 dX11_bonusesOf_23 (by decide) ?_
  refine lv_istore (lv' := [(5, .int 0), (4, .int 0), (0, .ref (E.2.2 1199)), (1, .int x), (2, .int y), (3, .int z)]) hF.1 hF.2.1 dX11_bonusesOf_24 hl (by decide) rfl (fun ls hl => ?_)
  refine lv_iconst (v := 0) hF.1 hF.2.1 dX11_bonusesOf_26 (by decide) ?_
  refine lv_istore (lv' := [(6, .int 0), (5, .int 0), (4, .int 0), (0, .ref (E.2.2 1199)), (1, .int x), (2, .int y), (3, .int z)]) hF.1 hF.2.1 dX11_bonusesOf_27 hl (by decide) rfl (fun ls hl => ?_)
  refine lv_iload hF.1 hF.2.1 dX11_bonusesOf_29 (lv_at hl 0 rfl) ?_
  refine lv_iload hF.1 hF.2.1 dX11_bonusesOf_31 (lv_at hl 2 rfl) ?_
  refine lv_icmp_ge (tgt := 105) hF.1 hF.2.1 dX11_bonusesOf_33 (by decide) (fun _ => ?_) (fun h9 => absurd (by decide) h9)
  refine lv_iload hF.1 hF.2.1 dX11_bonusesOf_105 (lv_at hl 1 rfl) ?_
  exact q_iret hF hr rfl hlocks hU hS dX11_bonusesOf_107 (⟨rfl, k_X11_bonusesOf_r0 x y z⟩)
theorem k_X11_sum_r0 (x : Int32) (y : Int32) (z : Int32) (w : Int32) (b3_1 : (0 ≤ z ∧ z ≤ 9999) ∧ (0 ≤ w ∧ w ≤ 9999) ∧ z ≤ w) (c12_2 : ¬ (x : Int32) = 0) (c33_3 : ¬ (x : Int32) = 1) : ((x = 0 ∧ (0 ≤ y ∧ y ≤ 3) ∧ (0 ≤ z ∧ z ≤ 9999) ∧ (0 ≤ w ∧ w ≤ 9999) ∧ z ≤ w) ∧ ((-1) : Int32) = 0) ∨ (¬ (x = 0 ∧ (0 ≤ y ∧ y ≤ 3) ∧ (0 ≤ z ∧ z ≤ 9999) ∧ (0 ≤ w ∧ w ≤ 9999) ∧ z ≤ w) ∧ ((-1) : Int32) = (-1)) := by
  first | rfl | (simp only [Int32.lt_iff_toInt_lt, Int32.le_iff_toInt_le, ← Int32.toInt_inj, Int32.zero_add, Int32.add_zero] at *; omega) | (simp only [Int32.lt_iff_toInt_lt, Int32.le_iff_toInt_le, ← Int32.toInt_inj, Int32.zero_add, Int32.add_zero] at *; done) | (simp only [Int32.lt_iff_toInt_lt, Int32.le_iff_toInt_le, ← Int32.toInt_inj, Int32.zero_add, Int32.add_zero] at *; simp at *; omega) | (simp at *; omega) | (simp_all; done)
theorem k_X11_sum_r1 (x : Int32) (y : Int32) (z : Int32) (w : Int32) (b3_1 : (0 ≤ z ∧ z ≤ 9999) ∧ (0 ≤ w ∧ w ≤ 9999) ∧ z ≤ w) (c12_2 : ¬ (x : Int32) = 0) (c33_3 : (x : Int32) = 1) : ((x = 0 ∧ (0 ≤ y ∧ y ≤ 3) ∧ (0 ≤ z ∧ z ≤ 9999) ∧ (0 ≤ w ∧ w ≤ 9999) ∧ z ≤ w) ∧ ((-1) : Int32) = 0) ∨ (¬ (x = 0 ∧ (0 ≤ y ∧ y ≤ 3) ∧ (0 ≤ z ∧ z ≤ 9999) ∧ (0 ≤ w ∧ w ≤ 9999) ∧ z ≤ w) ∧ ((-1) : Int32) = (-1)) := by
  first | rfl | (simp only [Int32.lt_iff_toInt_lt, Int32.le_iff_toInt_le, ← Int32.toInt_inj, Int32.zero_add, Int32.add_zero] at *; omega) | (simp only [Int32.lt_iff_toInt_lt, Int32.le_iff_toInt_le, ← Int32.toInt_inj, Int32.zero_add, Int32.add_zero] at *; done) | (simp only [Int32.lt_iff_toInt_lt, Int32.le_iff_toInt_le, ← Int32.toInt_inj, Int32.zero_add, Int32.add_zero] at *; simp at *; omega) | (simp at *; omega) | (simp_all; done)
theorem k_X11_sum_r2 (x : Int32) (y : Int32) (z : Int32) (w : Int32) (b3_1 : (0 ≤ z ∧ z ≤ 9999) ∧ (0 ≤ w ∧ w ≤ 9999) ∧ z ≤ w) (c12_2 : (x : Int32) = 0) (b16_4 : 0 ≤ y ∧ y ≤ 3) : ((x = 0 ∧ (0 ≤ y ∧ y ≤ 3) ∧ (0 ≤ z ∧ z ≤ 9999) ∧ (0 ≤ w ∧ w ≤ 9999) ∧ z ≤ w) ∧ (0 : Int32) = 0) ∨ (¬ (x = 0 ∧ (0 ≤ y ∧ y ≤ 3) ∧ (0 ≤ z ∧ z ≤ 9999) ∧ (0 ≤ w ∧ w ≤ 9999) ∧ z ≤ w) ∧ (0 : Int32) = (-1)) := by
  first | rfl | (simp only [Int32.lt_iff_toInt_lt, Int32.le_iff_toInt_le, ← Int32.toInt_inj, Int32.zero_add, Int32.add_zero] at *; omega) | (simp only [Int32.lt_iff_toInt_lt, Int32.le_iff_toInt_le, ← Int32.toInt_inj, Int32.zero_add, Int32.add_zero] at *; done) | (simp only [Int32.lt_iff_toInt_lt, Int32.le_iff_toInt_le, ← Int32.toInt_inj, Int32.zero_add, Int32.add_zero] at *; simp at *; omega) | (simp at *; omega) | (simp_all; done)
theorem k_X11_sum_r3 (x : Int32) (y : Int32) (z : Int32) (w : Int32) (b3_1 : (0 ≤ z ∧ z ≤ 9999) ∧ (0 ≤ w ∧ w ≤ 9999) ∧ z ≤ w) (c12_2 : (x : Int32) = 0) (b16_4 : ¬ (0 ≤ y ∧ y ≤ 3)) (c33_5 : ¬ (x : Int32) = 1) : ((x = 0 ∧ (0 ≤ y ∧ y ≤ 3) ∧ (0 ≤ z ∧ z ≤ 9999) ∧ (0 ≤ w ∧ w ≤ 9999) ∧ z ≤ w) ∧ ((-1) : Int32) = 0) ∨ (¬ (x = 0 ∧ (0 ≤ y ∧ y ≤ 3) ∧ (0 ≤ z ∧ z ≤ 9999) ∧ (0 ≤ w ∧ w ≤ 9999) ∧ z ≤ w) ∧ ((-1) : Int32) = (-1)) := by
  first | rfl | (simp only [Int32.lt_iff_toInt_lt, Int32.le_iff_toInt_le, ← Int32.toInt_inj, Int32.zero_add, Int32.add_zero] at *; omega) | (simp only [Int32.lt_iff_toInt_lt, Int32.le_iff_toInt_le, ← Int32.toInt_inj, Int32.zero_add, Int32.add_zero] at *; done) | (simp only [Int32.lt_iff_toInt_lt, Int32.le_iff_toInt_le, ← Int32.toInt_inj, Int32.zero_add, Int32.add_zero] at *; simp at *; omega) | (simp at *; omega) | (simp_all; done)
theorem k_X11_sum_r4 (x : Int32) (y : Int32) (z : Int32) (w : Int32) (b3_1 : (0 ≤ z ∧ z ≤ 9999) ∧ (0 ≤ w ∧ w ≤ 9999) ∧ z ≤ w) (c12_2 : (x : Int32) = 0) (b16_4 : ¬ (0 ≤ y ∧ y ≤ 3)) (c33_5 : (x : Int32) = 1) : ((x = 0 ∧ (0 ≤ y ∧ y ≤ 3) ∧ (0 ≤ z ∧ z ≤ 9999) ∧ (0 ≤ w ∧ w ≤ 9999) ∧ z ≤ w) ∧ ((-1) : Int32) = 0) ∨ (¬ (x = 0 ∧ (0 ≤ y ∧ y ≤ 3) ∧ (0 ≤ z ∧ z ≤ 9999) ∧ (0 ≤ w ∧ w ≤ 9999) ∧ z ≤ w) ∧ ((-1) : Int32) = (-1)) := by
  first | rfl | (simp only [Int32.lt_iff_toInt_lt, Int32.le_iff_toInt_le, ← Int32.toInt_inj, Int32.zero_add, Int32.add_zero] at *; omega) | (simp only [Int32.lt_iff_toInt_lt, Int32.le_iff_toInt_le, ← Int32.toInt_inj, Int32.zero_add, Int32.add_zero] at *; done) | (simp only [Int32.lt_iff_toInt_lt, Int32.le_iff_toInt_le, ← Int32.toInt_inj, Int32.zero_add, Int32.add_zero] at *; simp at *; omega) | (simp at *; omega) | (simp_all; done)
theorem k_X11_sum_r5 (x : Int32) (y : Int32) (z : Int32) (w : Int32) (b3_1 : ¬ ((0 ≤ z ∧ z ≤ 9999) ∧ (0 ≤ w ∧ w ≤ 9999) ∧ z ≤ w)) : ((x = 0 ∧ (0 ≤ y ∧ y ≤ 3) ∧ (0 ≤ z ∧ z ≤ 9999) ∧ (0 ≤ w ∧ w ≤ 9999) ∧ z ≤ w) ∧ ((-1) : Int32) = 0) ∨ (¬ (x = 0 ∧ (0 ≤ y ∧ y ≤ 3) ∧ (0 ≤ z ∧ z ≤ 9999) ∧ (0 ≤ w ∧ w ≤ 9999) ∧ z ≤ w) ∧ ((-1) : Int32) = (-1)) := by
  first | rfl | (simp only [Int32.lt_iff_toInt_lt, Int32.le_iff_toInt_le, ← Int32.toInt_inj, Int32.zero_add, Int32.add_zero] at *; omega) | (simp only [Int32.lt_iff_toInt_lt, Int32.le_iff_toInt_le, ← Int32.toInt_inj, Int32.zero_add, Int32.add_zero] at *; done) | (simp only [Int32.lt_iff_toInt_lt, Int32.le_iff_toInt_le, ← Int32.toInt_inj, Int32.zero_add, Int32.add_zero] at *; simp at *; omega) | (simp at *; omega) | (simp_all; done)
set_option maxHeartbeats 400000 in
set_option maxRecDepth 100000 in
theorem k_X11_sum (l : Launch) (E : qE) (A : Nat → Prop) (u : qS) (x : Int32) (y : Int32) (z : Int32) (w : Int32) (h_sed : u.1 609 = 0) (h_buyerCount : u.1 9 = 0) (h_ted : u.1 909 = 0) (h_bed : u.1 18 = 0) (h_visitCount : u.1 10 = 0) : Met l yX11_sum (uws yX11_sum cX11_sum 5 (some .int)) (qR 6 0 0) (qPc E A 0 u [.ref (E.2.2 1199), .int x, .int y, .int z, .int w]) (qQi E A 0 (fun r _ => ((x = 0 ∧ (0 ≤ y ∧ y ≤ 3) ∧ (0 ≤ z ∧ z ≤ 9999) ∧ (0 ≤ w ∧ w ≤ 9999) ∧ z ≤ w) ∧ r = 0) ∨ (¬ (x = 0 ∧ (0 ≤ y ∧ y ≤ 3) ∧ (0 ≤ z ∧ z ≤ 9999) ∧ (0 ≤ w ∧ w ≤ 9999) ∧ z ≤ w) ∧ r = (-1)))) 0 0 A := by
  refine q_met (own := RX11) (f := 6) [.ref (E.2.2 1199), .int x, .int y, .int z, .int w] (by decide) (Nat.le_of_ble_eq_true rfl) rfl ?_
  intro p0 e0 s0 m0 bl0 me0 cd0 ls hF hr hlocks hU hS hA hl
  have hl : lv_has ls 5 [(0, .ref (E.2.2 1199)), (1, .int x), (2, .int y), (3, .int z), (4, .int w)] := hl
  refine lv_iload_n hF.1 hF.2.1 dX11_sum_0 rfl (lv_at hl 3 rfl) ?_
  refine lv_iload hF.1 hF.2.1 dX11_sum_1 (lv_at hl 4 rfl) ?_
  have hM9 := (k_X11_isSpan l E A 0 u z w)
  have hR9 := q_runS (l := l) (e := e0) (below := bl0) (meth := me0) (R := qR 6 0 0) (cells := 0) (slots := 0) (st0 := [.int w, .int z]) (rest := []) hF hU hS hA 2 hM9 w_1017 w_1018 w_99 w_1019 (by decide +kernel) ⟨Nat.le_of_ble_eq_true rfl, Nat.le_of_ble_eq_true rfl⟩ dX11_sum_3 rfl hl.1 rfl (Nat.le_of_ble_eq_true rfl) ⟨Nat.le_of_ble_eq_true rfl, Nat.le_of_ble_eq_true rfl⟩
  refine q_calli hR9 hU.2.2.2 hS (fun r u1 H locs hw hU hS => ?_)
  obtain ⟨hu1, hw⟩ := hw
  rw [hu1] at hU
  rcases hw with ⟨rfl, b3_1⟩ | ⟨rfl, b3_1⟩
  · refine lv_if_ne (tgt := 11) hF.1 hF.2.1 dX11_sum_6 (by decide) (fun _ => ?_) (fun h9 => absurd h9 (by decide))
    refine lv_iload_n hF.1 hF.2.1 dX11_sum_11 rfl (lv_at hl 1 rfl) ?_
    refine lv_if_ne (tgt := 31) hF.1 hF.2.1 dX11_sum_12 (by decide) (fun c12_2 => ?_) (fun c12_2 => ?_)
    · refine lv_iload_n hF.1 hF.2.1 dX11_sum_31 rfl (lv_at hl 1 rfl) ?_
      refine lv_iconst (v := 1) hF.1 hF.2.1 dX11_sum_32 (by decide) ?_
      refine lv_icmp_ne (tgt := 56) hF.1 hF.2.1 dX11_sum_33 (by decide) (fun c33_3 => ?_) (fun c33_3 => ?_)
      · refine lv_iconst (v := (-1)) hF.1 hF.2.1 dX11_sum_56 (by decide) ?_
        exact q_iret hF hr rfl hlocks hU hS dX11_sum_57 (k_X11_sum_r0 x y z w b3_1 c12_2 c33_3)
      · refine lv_aload_n hF.1 hF.2.1 dX11_sum_36 rfl (lv_at hl 0 rfl) ?_
        refine q_get (v := .ref (E.2.2 99)) hF hU dX11_sum_37 0 11 0 1100 1199 rfl rfl rfl rfl inX11 (by decide) (by decide) w_436 rfl rfl ?_
        refine lv_iload_n hF.1 hF.2.1 dX11_sum_40 rfl (lv_at hl 2 rfl) ?_
        have hM9 := (k_X0_hasBuyer l E A u y h_buyerCount)
        have hR9 := q_runV (l := l) (e := e0) (below := bl0) (meth := me0) (R := qR 6 0 0) (cells := 0) (slots := 0) (st0 := [.int y, .ref (E.2.2 99)]) (rest := []) hF hU hS hA 1 1 0 99 rfl rfl rfl hM9 w_568 w_569 w_570 w_100 w_571 (by decide +kernel) ⟨Nat.le_of_ble_eq_true rfl, Nat.le_of_ble_eq_true rfl⟩ dX11_sum_41 rfl hl.1 rfl (Nat.le_of_ble_eq_true rfl) ⟨Nat.le_of_ble_eq_true rfl, Nat.le_of_ble_eq_true rfl⟩
        refine q_calli hR9 hU.2.2.2 hS (fun r u1 H locs hw hU hS => ?_)
        rw [hw.1] at hU
        refine q_topi hw.2 ?_
        refine lv_if_eq (tgt := 56) hF.1 hF.2.1 dX11_sum_44 (by decide) (fun _ => ?_) (fun h9 => absurd (by decide) h9)
        refine lv_iconst (v := (-1)) hF.1 hF.2.1 dX11_sum_56 (by decide) ?_
        exact q_iret hF hr rfl hlocks hU hS dX11_sum_57 (k_X11_sum_r1 x y z w b3_1 c12_2 c33_3)
    · refine lv_iload_n hF.1 hF.2.1 dX11_sum_15 rfl (lv_at hl 2 rfl) ?_
      have hM9 := (k_X11_isChain l E A 0 u y)
      have hR9 := q_runS (l := l) (e := e0) (below := bl0) (meth := me0) (R := qR 6 0 0) (cells := 0) (slots := 0) (st0 := [.int y]) (rest := []) hF hU hS hA 1 hM9 w_494 w_495 w_99 w_496 (by decide +kernel) ⟨Nat.le_of_ble_eq_true rfl, Nat.le_of_ble_eq_true rfl⟩ dX11_sum_16 rfl hl.1 rfl (Nat.le_of_ble_eq_true rfl) ⟨Nat.le_of_ble_eq_true rfl, Nat.le_of_ble_eq_true rfl⟩
      refine q_calli hR9 hU.2.2.2 hS (fun r u1 H locs hw hU hS => ?_)
      obtain ⟨hu1, hw⟩ := hw
      rw [hu1] at hU
      rcases hw with ⟨rfl, b16_4⟩ | ⟨rfl, b16_4⟩
      · refine lv_if_eq (tgt := 31) hF.1 hF.2.1 dX11_sum_19 (by decide) (fun h9 => absurd h9 (by decide)) (fun _ => ?_)
        refine lv_aload_n hF.1 hF.2.1 dX11_sum_22 rfl (lv_at hl 0 rfl) ?_
        refine lv_iload_n hF.1 hF.2.1 dX11_sum_23 rfl (lv_at hl 2 rfl) ?_
        refine lv_iload_n hF.1 hF.2.1 dX11_sum_24 rfl (lv_at hl 3 rfl) ?_
        refine lv_iload hF.1 hF.2.1 dX11_sum_25 (lv_at hl 4 rfl) ?_
        have hM9 := (k_X11_bonusesOf l E A u y z w h_sed h_ted h_bed h_visitCount)
        have hR9 := q_runV (l := l) (e := e0) (below := bl0) (meth := me0) (R := qR 6 0 0) (cells := 0) (slots := 0) (st0 := [.int w, .int z, .int y, .ref (E.2.2 1199)]) (rest := []) hF hU hS hA 3 0 11 1199 rfl rfl rfl hM9 w_1171 w_1173 w_42 w_99 w_1174 (by decide +kernel) ⟨Nat.le_of_ble_eq_true rfl, Nat.le_of_ble_eq_true rfl⟩ dX11_sum_27 rfl hl.1 rfl (Nat.le_of_ble_eq_true rfl) ⟨Nat.le_of_ble_eq_true rfl, Nat.le_of_ble_eq_true rfl⟩
        refine q_calli hR9 hU.2.2.2 hS (fun r u1 H locs hw hU hS => ?_)
        rw [hw.1] at hU
        refine q_topi hw.2 ?_
        exact q_iret hF hr rfl hlocks hU hS dX11_sum_30 (k_X11_sum_r2 x y z w b3_1 c12_2 b16_4)
      · refine lv_if_eq (tgt := 31) hF.1 hF.2.1 dX11_sum_19 (by decide) (fun _ => ?_) (fun h9 => absurd (by decide) h9)
        refine lv_iload_n hF.1 hF.2.1 dX11_sum_31 rfl (lv_at hl 1 rfl) ?_
        refine lv_iconst (v := 1) hF.1 hF.2.1 dX11_sum_32 (by decide) ?_
        refine lv_icmp_ne (tgt := 56) hF.1 hF.2.1 dX11_sum_33 (by decide) (fun c33_5 => ?_) (fun c33_5 => ?_)
        · refine lv_iconst (v := (-1)) hF.1 hF.2.1 dX11_sum_56 (by decide) ?_
          exact q_iret hF hr rfl hlocks hU hS dX11_sum_57 (k_X11_sum_r3 x y z w b3_1 c12_2 b16_4 c33_5)
        · refine lv_aload_n hF.1 hF.2.1 dX11_sum_36 rfl (lv_at hl 0 rfl) ?_
          refine q_get (v := .ref (E.2.2 99)) hF hU dX11_sum_37 0 11 0 1100 1199 rfl rfl rfl rfl inX11 (by decide) (by decide) w_436 rfl rfl ?_
          refine lv_iload_n hF.1 hF.2.1 dX11_sum_40 rfl (lv_at hl 2 rfl) ?_
          have hM9 := (k_X0_hasBuyer l E A u y h_buyerCount)
          have hR9 := q_runV (l := l) (e := e0) (below := bl0) (meth := me0) (R := qR 6 0 0) (cells := 0) (slots := 0) (st0 := [.int y, .ref (E.2.2 99)]) (rest := []) hF hU hS hA 1 1 0 99 rfl rfl rfl hM9 w_568 w_569 w_570 w_100 w_571 (by decide +kernel) ⟨Nat.le_of_ble_eq_true rfl, Nat.le_of_ble_eq_true rfl⟩ dX11_sum_41 rfl hl.1 rfl (Nat.le_of_ble_eq_true rfl) ⟨Nat.le_of_ble_eq_true rfl, Nat.le_of_ble_eq_true rfl⟩
          refine q_calli hR9 hU.2.2.2 hS (fun r u1 H locs hw hU hS => ?_)
          rw [hw.1] at hU
          refine q_topi hw.2 ?_
          refine lv_if_eq (tgt := 56) hF.1 hF.2.1 dX11_sum_44 (by decide) (fun _ => ?_) (fun h9 => absurd (by decide) h9)
          refine lv_iconst (v := (-1)) hF.1 hF.2.1 dX11_sum_56 (by decide) ?_
          exact q_iret hF hr rfl hlocks hU hS dX11_sum_57 (k_X11_sum_r4 x y z w b3_1 c12_2 b16_4 c33_5)
  · refine lv_if_ne (tgt := 11) hF.1 hF.2.1 dX11_sum_6 (by decide) (fun h9 => absurd (by decide) h9) (fun _ => ?_)
    refine lv_iconst (v := (-1)) hF.1 hF.2.1 dX11_sum_9 (by decide) ?_
    exact q_iret hF hr rfl hlocks hU hS dX11_sum_10 (k_X11_sum_r5 x y z w b3_1)
theorem k_X11_countTruth_r0 (x : Int32) (c10_3 : ¬ (x : Int32) = 6) (c26_4 : ¬ (x : Int32) = 10) : (0 : Int32) = 0 := by
  first | rfl | (simp only [Int32.lt_iff_toInt_lt, Int32.le_iff_toInt_le, ← Int32.toInt_inj, Int32.zero_add, Int32.add_zero] at *; omega) | (simp only [Int32.lt_iff_toInt_lt, Int32.le_iff_toInt_le, ← Int32.toInt_inj, Int32.zero_add, Int32.add_zero] at *; done) | (simp only [Int32.lt_iff_toInt_lt, Int32.le_iff_toInt_le, ← Int32.toInt_inj, Int32.zero_add, Int32.add_zero] at *; simp at *; omega) | (simp at *; omega) | (simp_all; done)
theorem k_X11_countTruth_r1 (x : Int32) (c10_3 : ¬ (x : Int32) = 6) (c26_4 : (x : Int32) = 10) : (0 : Int32) = 0 := by
  first | rfl | (simp only [Int32.lt_iff_toInt_lt, Int32.le_iff_toInt_le, ← Int32.toInt_inj, Int32.zero_add, Int32.add_zero] at *; omega) | (simp only [Int32.lt_iff_toInt_lt, Int32.le_iff_toInt_le, ← Int32.toInt_inj, Int32.zero_add, Int32.add_zero] at *; done) | (simp only [Int32.lt_iff_toInt_lt, Int32.le_iff_toInt_le, ← Int32.toInt_inj, Int32.zero_add, Int32.add_zero] at *; simp at *; omega) | (simp at *; omega) | (simp_all; done)
theorem k_X11_countTruth_r2 (x : Int32) (c10_3 : (x : Int32) = 6) : (0 : Int32) = 0 := by
  first | rfl | (simp only [Int32.lt_iff_toInt_lt, Int32.le_iff_toInt_le, ← Int32.toInt_inj, Int32.zero_add, Int32.add_zero] at *; omega) | (simp only [Int32.lt_iff_toInt_lt, Int32.le_iff_toInt_le, ← Int32.toInt_inj, Int32.zero_add, Int32.add_zero] at *; done) | (simp only [Int32.lt_iff_toInt_lt, Int32.le_iff_toInt_le, ← Int32.toInt_inj, Int32.zero_add, Int32.add_zero] at *; simp at *; omega) | (simp at *; omega) | (simp_all; done)
set_option maxHeartbeats 400000 in
set_option maxRecDepth 100000 in
theorem k_X11_countTruth (l : Launch) (E : qE) (A : Nat → Prop) (u : qS) (x : Int32) (h_ted : u.1 909 = 0) (h_bed : u.1 18 = 0) (h_visitCount : u.1 10 = 0) (h_counting : u.1 900 = 0) (h_falseAlone : u.1 901 = 0) (h_fewestAll : u.1 902 = 0) : Met l yX11_countTruth (uws yX11_countTruth cX11_countTruth 2 (some .int)) (qR 5 0 0) (qPc E A 0 u [.ref (E.2.2 1199), .int x]) (qQi E A 0 (fun r u1 => u1 = u ∧ r = 0)) 0 0 A := by
  refine q_met (own := RX11) (f := 5) [.ref (E.2.2 1199), .int x] (by decide) (Nat.le_of_ble_eq_true rfl) rfl ?_
  intro p0 e0 s0 m0 bl0 me0 cd0 ls hF hr hlocks hU hS hA hl
  have hl : lv_has ls 2 [(0, .ref (E.2.2 1199)), (1, .int x)] := hl
  refine lv_aload_n hF.1 hF.2.1 dX11_countTruth_0 rfl (lv_at hl 0 rfl) ?_
  refine q_get (v := .ref (E.2.2 999)) hF hU dX11_countTruth_1 0 11 3 1103 1199 rfl rfl rfl rfl inX11 (by decide) (by decide) w_439 rfl rfl ?_
  have hM9 := (k_X9_refresh l E A u h_ted h_bed)
  have hR9 := q_runV (l := l) (e := e0) (below := bl0) (meth := me0) (R := qR 5 0 0) (cells := 0) (slots := 0) (st0 := [.ref (E.2.2 999)]) (rest := []) hF hU hS hA 0 4 9 999 rfl rfl rfl hM9 w_843 w_844 w_845 w_103 w_846 (by decide +kernel) ⟨Nat.le_of_ble_eq_true rfl, Nat.le_of_ble_eq_true rfl⟩ dX11_countTruth_4 rfl hl.1 rfl (Nat.le_of_ble_eq_true rfl) ⟨Nat.le_of_ble_eq_true rfl, Nat.le_of_ble_eq_true rfl⟩
  refine q_callv hR9 hU.2.2.2 hS (fun u_1 H locs hw_2 hU hS => ?_)
  rw [hw_2] at hU
  refine lv_iload_n hF.1 hF.2.1 dX11_countTruth_7 rfl (lv_at hl 1 rfl) ?_
  refine lv_bipush (v := 6) hF.1 hF.2.1 dX11_countTruth_8 (by decide) ?_
  refine lv_icmp_ne (tgt := 23) hF.1 hF.2.1 dX11_countTruth_10 (by decide) (fun c10_3 => ?_) (fun c10_3 => ?_)
  · refine lv_iload_n hF.1 hF.2.1 dX11_countTruth_23 rfl (lv_at hl 1 rfl) ?_
    refine lv_bipush (v := 10) hF.1 hF.2.1 dX11_countTruth_24 (by decide) ?_
    refine lv_icmp_ne (tgt := 39) hF.1 hF.2.1 dX11_countTruth_26 (by decide) (fun c26_4 => ?_) (fun c26_4 => ?_)
    · refine lv_aload_n hF.1 hF.2.1 dX11_countTruth_39 rfl (lv_at hl 0 rfl) ?_
      refine q_get (v := .ref (E.2.2 999)) hF hU dX11_countTruth_40 0 11 3 1103 1199 rfl rfl rfl rfl inX11 (by decide) (by decide) w_439 rfl rfl ?_
      refine q_get (v := .int 0) hF hU dX11_countTruth_43 4 9 2 902 999 rfl rfl rfl rfl inX9 (by decide) (by decide) w_304 rfl (congrArg Value.int h_fewestAll) ?_
      exact q_iret hF hr rfl hlocks hU hS dX11_countTruth_46 (⟨rfl, k_X11_countTruth_r0 x c10_3 c26_4⟩)
    · refine lv_aload_n hF.1 hF.2.1 dX11_countTruth_29 rfl (lv_at hl 0 rfl) ?_
      refine q_get (v := .ref (E.2.2 999)) hF hU dX11_countTruth_30 0 11 3 1103 1199 rfl rfl rfl rfl inX11 (by decide) (by decide) w_439 rfl rfl ?_
      refine q_get (v := .int 0) hF hU dX11_countTruth_33 4 9 1 901 999 rfl rfl rfl rfl inX9 (by decide) (by decide) w_302 rfl (congrArg Value.int h_falseAlone) ?_
      refine lv_goto (tgt := 46) hF.1 hF.2.1 dX11_countTruth_36 (by decide) ?_
      exact q_iret hF hr rfl hlocks hU hS dX11_countTruth_46 (⟨rfl, k_X11_countTruth_r1 x c10_3 c26_4⟩)
  · refine lv_aload_n hF.1 hF.2.1 dX11_countTruth_13 rfl (lv_at hl 0 rfl) ?_
    refine q_get (v := .ref (E.2.2 999)) hF hU dX11_countTruth_14 0 11 3 1103 1199 rfl rfl rfl rfl inX11 (by decide) (by decide) w_439 rfl rfl ?_
    refine q_get (v := .int 0) hF hU dX11_countTruth_17 4 9 0 900 999 rfl rfl rfl rfl inX9 (by decide) (by decide) w_300 rfl (congrArg Value.int h_counting) ?_
    refine lv_goto (tgt := 46) hF.1 hF.2.1 dX11_countTruth_20 (by decide) ?_
    exact q_iret hF hr rfl hlocks hU hS dX11_countTruth_46 (⟨rfl, k_X11_countTruth_r2 x c10_3⟩)
theorem k_X11_count_r0 (x : Int32) (sw_1 : (x : Int32) = 0) : ((0 ≤ x ∧ x ≤ 11) ∧ (0 : Int32) = 0) ∨ (¬ (0 ≤ x ∧ x ≤ 11) ∧ (0 : Int32) = (-1)) := by
  first | rfl | (simp only [Int32.lt_iff_toInt_lt, Int32.le_iff_toInt_le, ← Int32.toInt_inj, Int32.zero_add, Int32.add_zero] at *; omega) | (simp only [Int32.lt_iff_toInt_lt, Int32.le_iff_toInt_le, ← Int32.toInt_inj, Int32.zero_add, Int32.add_zero] at *; done) | (simp only [Int32.lt_iff_toInt_lt, Int32.le_iff_toInt_le, ← Int32.toInt_inj, Int32.zero_add, Int32.add_zero] at *; simp at *; omega) | (simp at *; omega) | (simp_all; done)
theorem k_X11_count_r1 (x : Int32) (sw_1 : (x : Int32) = 1) : ((0 ≤ x ∧ x ≤ 11) ∧ (0 : Int32) = 0) ∨ (¬ (0 ≤ x ∧ x ≤ 11) ∧ (0 : Int32) = (-1)) := by
  first | rfl | (simp only [Int32.lt_iff_toInt_lt, Int32.le_iff_toInt_le, ← Int32.toInt_inj, Int32.zero_add, Int32.add_zero] at *; omega) | (simp only [Int32.lt_iff_toInt_lt, Int32.le_iff_toInt_le, ← Int32.toInt_inj, Int32.zero_add, Int32.add_zero] at *; done) | (simp only [Int32.lt_iff_toInt_lt, Int32.le_iff_toInt_le, ← Int32.toInt_inj, Int32.zero_add, Int32.add_zero] at *; simp at *; omega) | (simp at *; omega) | (simp_all; done)
theorem k_X11_count_r2 (x : Int32) (sw_1 : (x : Int32) = 2) : ((0 ≤ x ∧ x ≤ 11) ∧ (0 : Int32) = 0) ∨ (¬ (0 ≤ x ∧ x ≤ 11) ∧ (0 : Int32) = (-1)) := by
  first | rfl | (simp only [Int32.lt_iff_toInt_lt, Int32.le_iff_toInt_le, ← Int32.toInt_inj, Int32.zero_add, Int32.add_zero] at *; omega) | (simp only [Int32.lt_iff_toInt_lt, Int32.le_iff_toInt_le, ← Int32.toInt_inj, Int32.zero_add, Int32.add_zero] at *; done) | (simp only [Int32.lt_iff_toInt_lt, Int32.le_iff_toInt_le, ← Int32.toInt_inj, Int32.zero_add, Int32.add_zero] at *; simp at *; omega) | (simp at *; omega) | (simp_all; done)
theorem k_X11_count_r3 (x : Int32) (sw_1 : (x : Int32) = 3) : ((0 ≤ x ∧ x ≤ 11) ∧ (0 : Int32) = 0) ∨ (¬ (0 ≤ x ∧ x ≤ 11) ∧ (0 : Int32) = (-1)) := by
  first | rfl | (simp only [Int32.lt_iff_toInt_lt, Int32.le_iff_toInt_le, ← Int32.toInt_inj, Int32.zero_add, Int32.add_zero] at *; omega) | (simp only [Int32.lt_iff_toInt_lt, Int32.le_iff_toInt_le, ← Int32.toInt_inj, Int32.zero_add, Int32.add_zero] at *; done) | (simp only [Int32.lt_iff_toInt_lt, Int32.le_iff_toInt_le, ← Int32.toInt_inj, Int32.zero_add, Int32.add_zero] at *; simp at *; omega) | (simp at *; omega) | (simp_all; done)
theorem k_X11_count_r4 (x : Int32) (sw_1 : (x : Int32) = 4) : ((0 ≤ x ∧ x ≤ 11) ∧ (0 : Int32) = 0) ∨ (¬ (0 ≤ x ∧ x ≤ 11) ∧ (0 : Int32) = (-1)) := by
  first | rfl | (simp only [Int32.lt_iff_toInt_lt, Int32.le_iff_toInt_le, ← Int32.toInt_inj, Int32.zero_add, Int32.add_zero] at *; omega) | (simp only [Int32.lt_iff_toInt_lt, Int32.le_iff_toInt_le, ← Int32.toInt_inj, Int32.zero_add, Int32.add_zero] at *; done) | (simp only [Int32.lt_iff_toInt_lt, Int32.le_iff_toInt_le, ← Int32.toInt_inj, Int32.zero_add, Int32.add_zero] at *; simp at *; omega) | (simp at *; omega) | (simp_all; done)
theorem k_X11_count_r5 (x : Int32) (sw_1 : (x : Int32) = 5) : ((0 ≤ x ∧ x ≤ 11) ∧ (0 : Int32) = 0) ∨ (¬ (0 ≤ x ∧ x ≤ 11) ∧ (0 : Int32) = (-1)) := by
  first | rfl | (simp only [Int32.lt_iff_toInt_lt, Int32.le_iff_toInt_le, ← Int32.toInt_inj, Int32.zero_add, Int32.add_zero] at *; omega) | (simp only [Int32.lt_iff_toInt_lt, Int32.le_iff_toInt_le, ← Int32.toInt_inj, Int32.zero_add, Int32.add_zero] at *; done) | (simp only [Int32.lt_iff_toInt_lt, Int32.le_iff_toInt_le, ← Int32.toInt_inj, Int32.zero_add, Int32.add_zero] at *; simp at *; omega) | (simp at *; omega) | (simp_all; done)
theorem k_X11_count_r6 (x : Int32) (sw_1 : (x : Int32) = 6) : ((0 ≤ x ∧ x ≤ 11) ∧ (0 : Int32) = 0) ∨ (¬ (0 ≤ x ∧ x ≤ 11) ∧ (0 : Int32) = (-1)) := by
  first | rfl | (simp only [Int32.lt_iff_toInt_lt, Int32.le_iff_toInt_le, ← Int32.toInt_inj, Int32.zero_add, Int32.add_zero] at *; omega) | (simp only [Int32.lt_iff_toInt_lt, Int32.le_iff_toInt_le, ← Int32.toInt_inj, Int32.zero_add, Int32.add_zero] at *; done) | (simp only [Int32.lt_iff_toInt_lt, Int32.le_iff_toInt_le, ← Int32.toInt_inj, Int32.zero_add, Int32.add_zero] at *; simp at *; omega) | (simp at *; omega) | (simp_all; done)
theorem k_X11_count_r7 (x : Int32) (sw_1 : (x : Int32) = 7) : ((0 ≤ x ∧ x ≤ 11) ∧ (0 : Int32) = 0) ∨ (¬ (0 ≤ x ∧ x ≤ 11) ∧ (0 : Int32) = (-1)) := by
  first | rfl | (simp only [Int32.lt_iff_toInt_lt, Int32.le_iff_toInt_le, ← Int32.toInt_inj, Int32.zero_add, Int32.add_zero] at *; omega) | (simp only [Int32.lt_iff_toInt_lt, Int32.le_iff_toInt_le, ← Int32.toInt_inj, Int32.zero_add, Int32.add_zero] at *; done) | (simp only [Int32.lt_iff_toInt_lt, Int32.le_iff_toInt_le, ← Int32.toInt_inj, Int32.zero_add, Int32.add_zero] at *; simp at *; omega) | (simp at *; omega) | (simp_all; done)
theorem k_X11_count_r8 (x : Int32) (sw_1 : (x : Int32) = 8) : ((0 ≤ x ∧ x ≤ 11) ∧ (0 : Int32) = 0) ∨ (¬ (0 ≤ x ∧ x ≤ 11) ∧ (0 : Int32) = (-1)) := by
  first | rfl | (simp only [Int32.lt_iff_toInt_lt, Int32.le_iff_toInt_le, ← Int32.toInt_inj, Int32.zero_add, Int32.add_zero] at *; omega) | (simp only [Int32.lt_iff_toInt_lt, Int32.le_iff_toInt_le, ← Int32.toInt_inj, Int32.zero_add, Int32.add_zero] at *; done) | (simp only [Int32.lt_iff_toInt_lt, Int32.le_iff_toInt_le, ← Int32.toInt_inj, Int32.zero_add, Int32.add_zero] at *; simp at *; omega) | (simp at *; omega) | (simp_all; done)
theorem k_X11_count_r9 (x : Int32) (sw_1 : (x : Int32) = 9) : ((0 ≤ x ∧ x ≤ 11) ∧ (0 : Int32) = 0) ∨ (¬ (0 ≤ x ∧ x ≤ 11) ∧ (0 : Int32) = (-1)) := by
  first | rfl | (simp only [Int32.lt_iff_toInt_lt, Int32.le_iff_toInt_le, ← Int32.toInt_inj, Int32.zero_add, Int32.add_zero] at *; omega) | (simp only [Int32.lt_iff_toInt_lt, Int32.le_iff_toInt_le, ← Int32.toInt_inj, Int32.zero_add, Int32.add_zero] at *; done) | (simp only [Int32.lt_iff_toInt_lt, Int32.le_iff_toInt_le, ← Int32.toInt_inj, Int32.zero_add, Int32.add_zero] at *; simp at *; omega) | (simp at *; omega) | (simp_all; done)
theorem k_X11_count_r10 (x : Int32) (sw_1 : (x : Int32) = 10) : ((0 ≤ x ∧ x ≤ 11) ∧ (0 : Int32) = 0) ∨ (¬ (0 ≤ x ∧ x ≤ 11) ∧ (0 : Int32) = (-1)) := by
  first | rfl | (simp only [Int32.lt_iff_toInt_lt, Int32.le_iff_toInt_le, ← Int32.toInt_inj, Int32.zero_add, Int32.add_zero] at *; omega) | (simp only [Int32.lt_iff_toInt_lt, Int32.le_iff_toInt_le, ← Int32.toInt_inj, Int32.zero_add, Int32.add_zero] at *; done) | (simp only [Int32.lt_iff_toInt_lt, Int32.le_iff_toInt_le, ← Int32.toInt_inj, Int32.zero_add, Int32.add_zero] at *; simp at *; omega) | (simp at *; omega) | (simp_all; done)
theorem k_X11_count_r11 (x : Int32) (sw_1 : (x : Int32) = 11) : ((0 ≤ x ∧ x ≤ 11) ∧ (0 : Int32) = 0) ∨ (¬ (0 ≤ x ∧ x ≤ 11) ∧ (0 : Int32) = (-1)) := by
  first | rfl | (simp only [Int32.lt_iff_toInt_lt, Int32.le_iff_toInt_le, ← Int32.toInt_inj, Int32.zero_add, Int32.add_zero] at *; omega) | (simp only [Int32.lt_iff_toInt_lt, Int32.le_iff_toInt_le, ← Int32.toInt_inj, Int32.zero_add, Int32.add_zero] at *; done) | (simp only [Int32.lt_iff_toInt_lt, Int32.le_iff_toInt_le, ← Int32.toInt_inj, Int32.zero_add, Int32.add_zero] at *; simp at *; omega) | (simp at *; omega) | (simp_all; done)
theorem k_X11_count_r12 (x : Int32) (sw_1 : (x : Int32).toInt < 0 ∨ 11 < (x : Int32).toInt) : ((0 ≤ x ∧ x ≤ 11) ∧ ((-1) : Int32) = 0) ∨ (¬ (0 ≤ x ∧ x ≤ 11) ∧ ((-1) : Int32) = (-1)) := by
  first | rfl | (simp only [Int32.lt_iff_toInt_lt, Int32.le_iff_toInt_le, ← Int32.toInt_inj, Int32.zero_add, Int32.add_zero] at *; omega) | (simp only [Int32.lt_iff_toInt_lt, Int32.le_iff_toInt_le, ← Int32.toInt_inj, Int32.zero_add, Int32.add_zero] at *; done) | (simp only [Int32.lt_iff_toInt_lt, Int32.le_iff_toInt_le, ← Int32.toInt_inj, Int32.zero_add, Int32.add_zero] at *; simp at *; omega) | (simp at *; omega) | (simp_all; done)
set_option maxHeartbeats 400000 in
set_option maxRecDepth 100000 in
theorem k_X11_count (l : Launch) (E : qE) (A : Nat → Prop) (u : qS) (x : Int32) (h_now : u.1 13 = 0) (h_fixedView : u.1 14 = (-1)) (h_shopCount : u.1 8 = 0) (h_buyerCount : u.1 9 = 0) (h_appealCount : u.1 11 = 0) (h_briefCount : u.1 12 = 0) (h_length : u.1 801 = 0) (h_ted : u.1 909 = 0) (h_bed : u.1 18 = 0) (h_visitCount : u.1 10 = 0) (h_counting : u.1 900 = 0) (h_falseAlone : u.1 901 = 0) (h_fewestAll : u.1 902 = 0) : Met l yX11_count (uws yX11_count cX11_count 2 (some .int)) (qR 6 0 0) (qPc E A 0 u [.ref (E.2.2 1199), .int x]) (qQi E A 0 (fun r _ => ((0 ≤ x ∧ x ≤ 11) ∧ r = 0) ∨ (¬ (0 ≤ x ∧ x ≤ 11) ∧ r = (-1)))) 0 0 A := by
  refine q_met (own := RX11) (f := 6) [.ref (E.2.2 1199), .int x] (by decide) (Nat.le_of_ble_eq_true rfl) rfl ?_
  intro p0 e0 s0 m0 bl0 me0 cd0 ls hF hr hlocks hU hS hA hl
  have hl : lv_has ls 2 [(0, .ref (E.2.2 1199)), (1, .int x)] := hl
  refine lv_iload_n hF.1 hF.2.1 dX11_count_0 rfl (lv_at hl 1 rfl) ?_
  rcases q_sw0_11 (x) with sw_1 | sw_1 | sw_1 | sw_1 | sw_1 | sw_1 | sw_1 | sw_1 | sw_1 | sw_1 | sw_1 | sw_1 | sw_1
  · refine lv_tableIn (off := 63) (tgt := 64) hF.1 hF.2.1 dX11_count_1 (by rw [sw_1]; decide) (by rw [sw_1]; decide) (by rw [sw_1]; rfl) (by decide) ?_
    refine lv_aload_n hF.1 hF.2.1 dX11_count_64 rfl (lv_at hl 0 rfl) ?_
    refine q_get (v := .ref (E.2.2 99)) hF hU dX11_count_65 0 11 0 1100 1199 rfl rfl rfl rfl inX11 (by decide) (by decide) w_436 rfl rfl ?_
    refine q_get (v := .int 0) hF hU dX11_count_68 1 0 13 13 99 rfl rfl rfl rfl inX0 (by decide) (by decide) w_178 rfl (congrArg Value.int h_now) ?_
    exact q_iret hF hr rfl hlocks hU hS dX11_count_71 (k_X11_count_r0 x sw_1)
  · refine lv_tableIn (off := 71) (tgt := 72) hF.1 hF.2.1 dX11_count_1 (by rw [sw_1]; decide) (by rw [sw_1]; decide) (by rw [sw_1]; rfl) (by decide) ?_
    refine lv_aload_n hF.1 hF.2.1 dX11_count_72 rfl (lv_at hl 0 rfl) ?_
    refine q_get (v := .ref (E.2.2 99)) hF hU dX11_count_73 0 11 0 1100 1199 rfl rfl rfl rfl inX11 (by decide) (by decide) w_436 rfl rfl ?_
    have hM9 := (k_X0_seenDay l E A u h_fixedView h_now)
    have hR9 := q_runV (l := l) (e := e0) (below := bl0) (meth := me0) (R := qR 6 0 0) (cells := 0) (slots := 0) (st0 := [.ref (E.2.2 99)]) (rest := []) hF hU hS hA 0 1 0 99 rfl rfl rfl hM9 w_1186 w_484 w_485 w_100 w_486 (by decide +kernel) ⟨Nat.le_of_ble_eq_true rfl, Nat.le_of_ble_eq_true rfl⟩ dX11_count_76 rfl hl.1 rfl (Nat.le_of_ble_eq_true rfl) ⟨Nat.le_of_ble_eq_true rfl, Nat.le_of_ble_eq_true rfl⟩
    refine q_calli hR9 hU.2.2.2 hS (fun r u1 H locs hw hU hS => ?_)
    rw [hw.1] at hU
    refine q_topi hw.2 ?_
    exact q_iret hF hr rfl hlocks hU hS dX11_count_79 (k_X11_count_r1 x sw_1)
  · refine lv_tableIn (off := 79) (tgt := 80) hF.1 hF.2.1 dX11_count_1 (by rw [sw_1]; decide) (by rw [sw_1]; decide) (by rw [sw_1]; rfl) (by decide) ?_
    refine lv_aload_n hF.1 hF.2.1 dX11_count_80 rfl (lv_at hl 0 rfl) ?_
    refine q_get (v := .ref (E.2.2 99)) hF hU dX11_count_81 0 11 0 1100 1199 rfl rfl rfl rfl inX11 (by decide) (by decide) w_436 rfl rfl ?_
    refine q_get (v := .int 0) hF hU dX11_count_84 1 0 8 8 99 rfl rfl rfl rfl inX0 (by decide) (by decide) w_162 rfl (congrArg Value.int h_shopCount) ?_
    exact q_iret hF hr rfl hlocks hU hS dX11_count_87 (k_X11_count_r2 x sw_1)
  · refine lv_tableIn (off := 87) (tgt := 88) hF.1 hF.2.1 dX11_count_1 (by rw [sw_1]; decide) (by rw [sw_1]; decide) (by rw [sw_1]; rfl) (by decide) ?_
    refine lv_aload_n hF.1 hF.2.1 dX11_count_88 rfl (lv_at hl 0 rfl) ?_
    refine q_get (v := .ref (E.2.2 99)) hF hU dX11_count_89 0 11 0 1100 1199 rfl rfl rfl rfl inX11 (by decide) (by decide) w_436 rfl rfl ?_
    refine q_get (v := .int 0) hF hU dX11_count_92 1 0 9 9 99 rfl rfl rfl rfl inX0 (by decide) (by decide) w_167 rfl (congrArg Value.int h_buyerCount) ?_
    exact q_iret hF hr rfl hlocks hU hS dX11_count_95 (k_X11_count_r3 x sw_1)
  · refine lv_tableIn (off := 95) (tgt := 96) hF.1 hF.2.1 dX11_count_1 (by rw [sw_1]; decide) (by rw [sw_1]; decide) (by rw [sw_1]; rfl) (by decide) ?_
    refine lv_aload_n hF.1 hF.2.1 dX11_count_96 rfl (lv_at hl 0 rfl) ?_
    refine q_get (v := .ref (E.2.2 99)) hF hU dX11_count_97 0 11 0 1100 1199 rfl rfl rfl rfl inX11 (by decide) (by decide) w_436 rfl rfl ?_
    refine q_get (v := .int 0) hF hU dX11_count_100 1 0 10 10 99 rfl rfl rfl rfl inX0 (by decide) (by decide) w_172 rfl (congrArg Value.int h_visitCount) ?_
    exact q_iret hF hr rfl hlocks hU hS dX11_count_103 (k_X11_count_r4 x sw_1)
  · refine lv_tableIn (off := 103) (tgt := 104) hF.1 hF.2.1 dX11_count_1 (by rw [sw_1]; decide) (by rw [sw_1]; decide) (by rw [sw_1]; rfl) (by decide) ?_
    refine lv_aload_n hF.1 hF.2.1 dX11_count_104 rfl (lv_at hl 0 rfl) ?_
    refine q_get (v := .ref (E.2.2 99)) hF hU dX11_count_105 0 11 0 1100 1199 rfl rfl rfl rfl inX11 (by decide) (by decide) w_436 rfl rfl ?_
    have hM9 := (k_X0_knownVisits l E A u h_visitCount)
    have hR9 := q_runV (l := l) (e := e0) (below := bl0) (meth := me0) (R := qR 6 0 0) (cells := 0) (slots := 0) (st0 := [.ref (E.2.2 99)]) (rest := []) hF hU hS hA 0 1 0 99 rfl rfl rfl hM9 w_1175 w_903 w_904 w_100 w_905 (by decide +kernel) ⟨Nat.le_of_ble_eq_true rfl, Nat.le_of_ble_eq_true rfl⟩ dX11_count_108 rfl hl.1 rfl (Nat.le_of_ble_eq_true rfl) ⟨Nat.le_of_ble_eq_true rfl, Nat.le_of_ble_eq_true rfl⟩
    refine q_calli hR9 hU.2.2.2 hS (fun r u1 H locs hw hU hS => ?_)
    rw [hw.1] at hU
    refine q_topi hw.2 ?_
    exact q_iret hF hr rfl hlocks hU hS dX11_count_111 (k_X11_count_r5 x sw_1)
  · refine lv_tableIn (off := 135) (tgt := 136) hF.1 hF.2.1 dX11_count_1 (by rw [sw_1]; decide) (by rw [sw_1]; decide) (by rw [sw_1]; rfl) (by decide) ?_
    refine lv_aload_n hF.1 hF.2.1 dX11_count_136 rfl (lv_at hl 0 rfl) ?_
    refine lv_iload_n hF.1 hF.2.1 dX11_count_137 rfl (lv_at hl 1 rfl) ?_
    have hM9 := (k_X11_countTruth l E A u x h_ted h_bed h_visitCount h_counting h_falseAlone h_fewestAll)
    have hR9 := q_runV (l := l) (e := e0) (below := bl0) (meth := me0) (R := qR 6 0 0) (cells := 0) (slots := 0) (st0 := [.int x, .ref (E.2.2 1199)]) (rest := []) hF hU hS hA 1 0 11 1199 rfl rfl rfl hM9 w_1187 w_1189 w_44 w_99 w_1190 (by decide +kernel) ⟨Nat.le_of_ble_eq_true rfl, Nat.le_of_ble_eq_true rfl⟩ dX11_count_138 rfl hl.1 rfl (Nat.le_of_ble_eq_true rfl) ⟨Nat.le_of_ble_eq_true rfl, Nat.le_of_ble_eq_true rfl⟩
    refine q_calli hR9 hU.2.2.2 hS (fun r u1 H locs hw hU hS => ?_)
    rw [hw.1] at hU
    refine q_topi hw.2 ?_
    exact q_iret hF hr rfl hlocks hU hS dX11_count_141 (k_X11_count_r6 x sw_1)
  · refine lv_tableIn (off := 111) (tgt := 112) hF.1 hF.2.1 dX11_count_1 (by rw [sw_1]; decide) (by rw [sw_1]; decide) (by rw [sw_1]; rfl) (by decide) ?_
    refine lv_aload_n hF.1 hF.2.1 dX11_count_112 rfl (lv_at hl 0 rfl) ?_
    refine q_get (v := .ref (E.2.2 99)) hF hU dX11_count_113 0 11 0 1100 1199 rfl rfl rfl rfl inX11 (by decide) (by decide) w_436 rfl rfl ?_
    refine q_get (v := .int 0) hF hU dX11_count_116 1 0 11 11 99 rfl rfl rfl rfl inX0 (by decide) (by decide) w_174 rfl (congrArg Value.int h_appealCount) ?_
    exact q_iret hF hr rfl hlocks hU hS dX11_count_119 (k_X11_count_r7 x sw_1)
  · refine lv_tableIn (off := 119) (tgt := 120) hF.1 hF.2.1 dX11_count_1 (by rw [sw_1]; decide) (by rw [sw_1]; decide) (by rw [sw_1]; rfl) (by decide) ?_
    refine lv_aload_n hF.1 hF.2.1 dX11_count_120 rfl (lv_at hl 0 rfl) ?_
    refine q_get (v := .ref (E.2.2 99)) hF hU dX11_count_121 0 11 0 1100 1199 rfl rfl rfl rfl inX11 (by decide) (by decide) w_436 rfl rfl ?_
    refine q_get (v := .int 0) hF hU dX11_count_124 1 0 12 12 99 rfl rfl rfl rfl inX0 (by decide) (by decide) w_176 rfl (congrArg Value.int h_briefCount) ?_
    exact q_iret hF hr rfl hlocks hU hS dX11_count_127 (k_X11_count_r8 x sw_1)
  · refine lv_tableIn (off := 127) (tgt := 128) hF.1 hF.2.1 dX11_count_1 (by rw [sw_1]; decide) (by rw [sw_1]; decide) (by rw [sw_1]; rfl) (by decide) ?_
    refine lv_aload_n hF.1 hF.2.1 dX11_count_128 rfl (lv_at hl 0 rfl) ?_
    refine q_get (v := .ref (E.2.2 899)) hF hU dX11_count_129 0 11 1 1101 1199 rfl rfl rfl rfl inX11 (by decide) (by decide) w_437 rfl rfl ?_
    refine q_get (v := .int 0) hF hU dX11_count_132 2 8 1 801 899 rfl rfl rfl rfl inX8 (by decide) (by decide) w_240 rfl (congrArg Value.int h_length) ?_
    exact q_iret hF hr rfl hlocks hU hS dX11_count_135 (k_X11_count_r9 x sw_1)
  · refine lv_tableIn (off := 135) (tgt := 136) hF.1 hF.2.1 dX11_count_1 (by rw [sw_1]; decide) (by rw [sw_1]; decide) (by rw [sw_1]; rfl) (by decide) ?_
    refine lv_aload_n hF.1 hF.2.1 dX11_count_136 rfl (lv_at hl 0 rfl) ?_
    refine lv_iload_n hF.1 hF.2.1 dX11_count_137 rfl (lv_at hl 1 rfl) ?_
    have hM9 := (k_X11_countTruth l E A u x h_ted h_bed h_visitCount h_counting h_falseAlone h_fewestAll)
    have hR9 := q_runV (l := l) (e := e0) (below := bl0) (meth := me0) (R := qR 6 0 0) (cells := 0) (slots := 0) (st0 := [.int x, .ref (E.2.2 1199)]) (rest := []) hF hU hS hA 1 0 11 1199 rfl rfl rfl hM9 w_1187 w_1189 w_44 w_99 w_1190 (by decide +kernel) ⟨Nat.le_of_ble_eq_true rfl, Nat.le_of_ble_eq_true rfl⟩ dX11_count_138 rfl hl.1 rfl (Nat.le_of_ble_eq_true rfl) ⟨Nat.le_of_ble_eq_true rfl, Nat.le_of_ble_eq_true rfl⟩
    refine q_calli hR9 hU.2.2.2 hS (fun r u1 H locs hw hU hS => ?_)
    rw [hw.1] at hU
    refine q_topi hw.2 ?_
    exact q_iret hF hr rfl hlocks hU hS dX11_count_141 (k_X11_count_r10 x sw_1)
  · refine lv_tableIn (off := 135) (tgt := 136) hF.1 hF.2.1 dX11_count_1 (by rw [sw_1]; decide) (by rw [sw_1]; decide) (by rw [sw_1]; rfl) (by decide) ?_
    refine lv_aload_n hF.1 hF.2.1 dX11_count_136 rfl (lv_at hl 0 rfl) ?_
    refine lv_iload_n hF.1 hF.2.1 dX11_count_137 rfl (lv_at hl 1 rfl) ?_
    have hM9 := (k_X11_countTruth l E A u x h_ted h_bed h_visitCount h_counting h_falseAlone h_fewestAll)
    have hR9 := q_runV (l := l) (e := e0) (below := bl0) (meth := me0) (R := qR 6 0 0) (cells := 0) (slots := 0) (st0 := [.int x, .ref (E.2.2 1199)]) (rest := []) hF hU hS hA 1 0 11 1199 rfl rfl rfl hM9 w_1187 w_1189 w_44 w_99 w_1190 (by decide +kernel) ⟨Nat.le_of_ble_eq_true rfl, Nat.le_of_ble_eq_true rfl⟩ dX11_count_138 rfl hl.1 rfl (Nat.le_of_ble_eq_true rfl) ⟨Nat.le_of_ble_eq_true rfl, Nat.le_of_ble_eq_true rfl⟩
    refine q_calli hR9 hU.2.2.2 hS (fun r u1 H locs hw hU hS => ?_)
    rw [hw.1] at hU
    refine q_topi hw.2 ?_
    exact q_iret hF hr rfl hlocks hU hS dX11_count_141 (k_X11_count_r11 x sw_1)
  · refine lv_tableOut (tgt := 142) hF.1 hF.2.1 dX11_count_1 sw_1 (by decide) ?_
    refine lv_iconst (v := (-1)) hF.1 hF.2.1 dX11_count_142 (by decide) ?_
    exact q_iret hF hr rfl hlocks hU hS dX11_count_143 (k_X11_count_r12 x sw_1)
theorem k_X8_addBytes_r0 (u : qS) (uc : qS) (v : Int64) (t : Nat) (i : Nat) (t1 : Nat) (k : Int32) (f_3 : Nat → Int32) (h1 : k = nI (8 * i) - 8) (h2 : i ≤ 8) (h3 : uc.1 801 = nI t1) (h4 : t1 + i ≤ 24) (h5 : t1 + cntC v i = t + cntC v 8) (c4_1 : ¬ (k : Int32) < 0) (c21_2 : ((((v.toUInt64 >>> ((k : Int32).toInt64.toUInt64 &&& Int64.toUInt64 63)).toInt64).toInt32) &&& 255 : Int32) = 10) (hf_3 : upd (uc.2.1 800) (uc.1 801 : Int32).toNatClampNeg (vp_nar .byte (((((v.toUInt64 >>> ((k : Int32).toInt64.toUInt64 &&& Int64.toUInt64 63)).toInt64).toInt32) &&& 255).toInt8.toInt32)) = f_3) : (k + (-8)) = nI (8 * (i - 1)) - 8 := by
  exact lay_kn h1 h2 (by assumption)
theorem k_X8_addBytes_r1 (u : qS) (uc : qS) (v : Int64) (t : Nat) (i : Nat) (t1 : Nat) (k : Int32) (f_3 : Nat → Int32) (h1 : k = nI (8 * i) - 8) (h2 : i ≤ 8) (h3 : uc.1 801 = nI t1) (h4 : t1 + i ≤ 24) (h5 : t1 + cntC v i = t + cntC v 8) (c4_1 : ¬ (k : Int32) < 0) (c21_2 : ((((v.toUInt64 >>> ((k : Int32).toInt64.toUInt64 &&& Int64.toUInt64 63)).toInt64).toInt32) &&& 255 : Int32) = 10) (hf_3 : upd (uc.2.1 800) (uc.1 801 : Int32).toNatClampNeg (vp_nar .byte (((((v.toUInt64 >>> ((k : Int32).toInt64.toUInt64 &&& Int64.toUInt64 63)).toInt64).toInt32) &&& 255).toInt8.toInt32)) = f_3) : (i - 1) ≤ 8 := by
  omega
theorem k_X8_addBytes_r2 (u : qS) (uc : qS) (v : Int64) (t : Nat) (i : Nat) (t1 : Nat) (k : Int32) (f_3 : Nat → Int32) (h1 : k = nI (8 * i) - 8) (h2 : i ≤ 8) (h3 : uc.1 801 = nI t1) (h4 : t1 + i ≤ 24) (h5 : t1 + cntC v i = t + cntC v 8) (c4_1 : ¬ (k : Int32) < 0) (c21_2 : ((((v.toUInt64 >>> ((k : Int32).toInt64.toUInt64 &&& Int64.toUInt64 63)).toInt64).toInt32) &&& 255 : Int32) = 10) (hf_3 : upd (uc.2.1 800) (uc.1 801 : Int32).toNatClampNeg (vp_nar .byte (((((v.toUInt64 >>> ((k : Int32).toInt64.toUInt64 &&& Int64.toUInt64 63)).toInt64).toInt32) &&& 255).toInt8.toInt32)) = f_3) : ((uc.1 801) + 1 : Int32) = nI (t1 + 1) := by
  first | exact lay_1 h3 | exact h3 | exact h_t
theorem k_X8_addBytes_r3 (u : qS) (uc : qS) (v : Int64) (t : Nat) (i : Nat) (t1 : Nat) (k : Int32) (f_3 : Nat → Int32) (h1 : k = nI (8 * i) - 8) (h2 : i ≤ 8) (h3 : uc.1 801 = nI t1) (h4 : t1 + i ≤ 24) (h5 : t1 + cntC v i = t + cntC v 8) (c4_1 : ¬ (k : Int32) < 0) (c21_2 : ((((v.toUInt64 >>> ((k : Int32).toInt64.toUInt64 &&& Int64.toUInt64 63)).toInt64).toInt32) &&& 255 : Int32) = 10) (hf_3 : upd (uc.2.1 800) (uc.1 801 : Int32).toNatClampNeg (vp_nar .byte (((((v.toUInt64 >>> ((k : Int32).toInt64.toUInt64 &&& Int64.toUInt64 63)).toInt64).toInt32) &&& 255).toInt8.toInt32)) = f_3) : (t1 + 1) + (i - 1) ≤ 24 := by
  first | omega | (have := (lay_k h1 h2 (by assumption)).1; omega)
theorem k_X8_addBytes_r4 (u : qS) (uc : qS) (v : Int64) (t : Nat) (i : Nat) (t1 : Nat) (k : Int32) (f_3 : Nat → Int32) (h1 : k = nI (8 * i) - 8) (h2 : i ≤ 8) (h3 : uc.1 801 = nI t1) (h4 : t1 + i ≤ 24) (h5 : t1 + cntC v i = t + cntC v 8) (c4_1 : ¬ (k : Int32) < 0) (c21_2 : ((((v.toUInt64 >>> ((k : Int32).toInt64.toUInt64 &&& Int64.toUInt64 63)).toInt64).toInt32) &&& 255 : Int32) = 10) (hf_3 : upd (uc.2.1 800) (uc.1 801 : Int32).toNatClampNeg (vp_nar .byte (((((v.toUInt64 >>> ((k : Int32).toInt64.toUInt64 &&& Int64.toUInt64 63)).toInt64).toInt32) &&& 255).toInt8.toInt32)) = f_3) : (t1 + 1) + cntC v (i - 1) = t + cntC v 8 := by
  first | (have e := lay_sC v h1 h2 (by assumption); first | (have e2 : okn (bytC v k) = 1 := okn_1 (Or.inl (by assumption)); omega) | (have e2 : okn (bytC v k) = 1 := okn_1 (Or.inr (by assumption)); omega) | (have e2 : okn (bytC v k) = 0 := okn_n (by assumption) (by assumption); omega)) | rfl
theorem k_X8_addBytes_r5 (u : qS) (uc : qS) (v : Int64) (t : Nat) (i : Nat) (t1 : Nat) (k : Int32) (f_3 : Nat → Int32) (h1 : k = nI (8 * i) - 8) (h2 : i ≤ 8) (h3 : uc.1 801 = nI t1) (h4 : t1 + i ≤ 24) (h5 : t1 + cntC v i = t + cntC v 8) (c4_1 : ¬ (k : Int32) < 0) (c21_2 : ((((v.toUInt64 >>> ((k : Int32).toInt64.toUInt64 &&& Int64.toUInt64 63)).toInt64).toInt32) &&& 255 : Int32) = 10) (hf_3 : upd (uc.2.1 800) (uc.1 801 : Int32).toNatClampNeg (vp_nar .byte (((((v.toUInt64 >>> ((k : Int32).toInt64.toUInt64 &&& Int64.toUInt64 63)).toInt64).toInt32) &&& 255).toInt8.toInt32)) = f_3) : (i - 1) < i := by
  have := (lay_k h1 h2 (by assumption)).1; omega
theorem k_X8_addBytes_r6 (u : qS) (uc : qS) (v : Int64) (t : Nat) (i : Nat) (t1 : Nat) (k : Int32) (f_5 : Nat → Int32) (h1 : k = nI (8 * i) - 8) (h2 : i ≤ 8) (h3 : uc.1 801 = nI t1) (h4 : t1 + i ≤ 24) (h5 : t1 + cntC v i = t + cntC v 8) (c4_1 : ¬ (k : Int32) < 0) (c21_2 : ¬ ((((v.toUInt64 >>> ((k : Int32).toInt64.toUInt64 &&& Int64.toUInt64 63)).toInt64).toInt32) &&& 255 : Int32) = 10) (b30_4 : 32 ≤ ((((v.toUInt64 >>> ((k : Int32).toInt64.toUInt64 &&& Int64.toUInt64 63)).toInt64).toInt32) &&& 255) ∧ ((((v.toUInt64 >>> ((k : Int32).toInt64.toUInt64 &&& Int64.toUInt64 63)).toInt64).toInt32) &&& 255) ≤ 126) (hf_5 : upd (uc.2.1 800) (uc.1 801 : Int32).toNatClampNeg (vp_nar .byte (((((v.toUInt64 >>> ((k : Int32).toInt64.toUInt64 &&& Int64.toUInt64 63)).toInt64).toInt32) &&& 255).toInt8.toInt32)) = f_5) : (k + (-8)) = nI (8 * (i - 1)) - 8 := by
  exact lay_kn h1 h2 (by assumption)
theorem k_X8_addBytes_r7 (u : qS) (uc : qS) (v : Int64) (t : Nat) (i : Nat) (t1 : Nat) (k : Int32) (f_5 : Nat → Int32) (h1 : k = nI (8 * i) - 8) (h2 : i ≤ 8) (h3 : uc.1 801 = nI t1) (h4 : t1 + i ≤ 24) (h5 : t1 + cntC v i = t + cntC v 8) (c4_1 : ¬ (k : Int32) < 0) (c21_2 : ¬ ((((v.toUInt64 >>> ((k : Int32).toInt64.toUInt64 &&& Int64.toUInt64 63)).toInt64).toInt32) &&& 255 : Int32) = 10) (b30_4 : 32 ≤ ((((v.toUInt64 >>> ((k : Int32).toInt64.toUInt64 &&& Int64.toUInt64 63)).toInt64).toInt32) &&& 255) ∧ ((((v.toUInt64 >>> ((k : Int32).toInt64.toUInt64 &&& Int64.toUInt64 63)).toInt64).toInt32) &&& 255) ≤ 126) (hf_5 : upd (uc.2.1 800) (uc.1 801 : Int32).toNatClampNeg (vp_nar .byte (((((v.toUInt64 >>> ((k : Int32).toInt64.toUInt64 &&& Int64.toUInt64 63)).toInt64).toInt32) &&& 255).toInt8.toInt32)) = f_5) : (i - 1) ≤ 8 := by
  omega
theorem k_X8_addBytes_r8 (u : qS) (uc : qS) (v : Int64) (t : Nat) (i : Nat) (t1 : Nat) (k : Int32) (f_5 : Nat → Int32) (h1 : k = nI (8 * i) - 8) (h2 : i ≤ 8) (h3 : uc.1 801 = nI t1) (h4 : t1 + i ≤ 24) (h5 : t1 + cntC v i = t + cntC v 8) (c4_1 : ¬ (k : Int32) < 0) (c21_2 : ¬ ((((v.toUInt64 >>> ((k : Int32).toInt64.toUInt64 &&& Int64.toUInt64 63)).toInt64).toInt32) &&& 255 : Int32) = 10) (b30_4 : 32 ≤ ((((v.toUInt64 >>> ((k : Int32).toInt64.toUInt64 &&& Int64.toUInt64 63)).toInt64).toInt32) &&& 255) ∧ ((((v.toUInt64 >>> ((k : Int32).toInt64.toUInt64 &&& Int64.toUInt64 63)).toInt64).toInt32) &&& 255) ≤ 126) (hf_5 : upd (uc.2.1 800) (uc.1 801 : Int32).toNatClampNeg (vp_nar .byte (((((v.toUInt64 >>> ((k : Int32).toInt64.toUInt64 &&& Int64.toUInt64 63)).toInt64).toInt32) &&& 255).toInt8.toInt32)) = f_5) : ((uc.1 801) + 1 : Int32) = nI (t1 + 1) := by
  first | exact lay_1 h3 | exact h3 | exact h_t
theorem k_X8_addBytes_r9 (u : qS) (uc : qS) (v : Int64) (t : Nat) (i : Nat) (t1 : Nat) (k : Int32) (f_5 : Nat → Int32) (h1 : k = nI (8 * i) - 8) (h2 : i ≤ 8) (h3 : uc.1 801 = nI t1) (h4 : t1 + i ≤ 24) (h5 : t1 + cntC v i = t + cntC v 8) (c4_1 : ¬ (k : Int32) < 0) (c21_2 : ¬ ((((v.toUInt64 >>> ((k : Int32).toInt64.toUInt64 &&& Int64.toUInt64 63)).toInt64).toInt32) &&& 255 : Int32) = 10) (b30_4 : 32 ≤ ((((v.toUInt64 >>> ((k : Int32).toInt64.toUInt64 &&& Int64.toUInt64 63)).toInt64).toInt32) &&& 255) ∧ ((((v.toUInt64 >>> ((k : Int32).toInt64.toUInt64 &&& Int64.toUInt64 63)).toInt64).toInt32) &&& 255) ≤ 126) (hf_5 : upd (uc.2.1 800) (uc.1 801 : Int32).toNatClampNeg (vp_nar .byte (((((v.toUInt64 >>> ((k : Int32).toInt64.toUInt64 &&& Int64.toUInt64 63)).toInt64).toInt32) &&& 255).toInt8.toInt32)) = f_5) : (t1 + 1) + (i - 1) ≤ 24 := by
  first | omega | (have := (lay_k h1 h2 (by assumption)).1; omega)
theorem k_X8_addBytes_r10 (u : qS) (uc : qS) (v : Int64) (t : Nat) (i : Nat) (t1 : Nat) (k : Int32) (f_5 : Nat → Int32) (h1 : k = nI (8 * i) - 8) (h2 : i ≤ 8) (h3 : uc.1 801 = nI t1) (h4 : t1 + i ≤ 24) (h5 : t1 + cntC v i = t + cntC v 8) (c4_1 : ¬ (k : Int32) < 0) (c21_2 : ¬ ((((v.toUInt64 >>> ((k : Int32).toInt64.toUInt64 &&& Int64.toUInt64 63)).toInt64).toInt32) &&& 255 : Int32) = 10) (b30_4 : 32 ≤ ((((v.toUInt64 >>> ((k : Int32).toInt64.toUInt64 &&& Int64.toUInt64 63)).toInt64).toInt32) &&& 255) ∧ ((((v.toUInt64 >>> ((k : Int32).toInt64.toUInt64 &&& Int64.toUInt64 63)).toInt64).toInt32) &&& 255) ≤ 126) (hf_5 : upd (uc.2.1 800) (uc.1 801 : Int32).toNatClampNeg (vp_nar .byte (((((v.toUInt64 >>> ((k : Int32).toInt64.toUInt64 &&& Int64.toUInt64 63)).toInt64).toInt32) &&& 255).toInt8.toInt32)) = f_5) : (t1 + 1) + cntC v (i - 1) = t + cntC v 8 := by
  first | (have e := lay_sC v h1 h2 (by assumption); first | (have e2 : okn (bytC v k) = 1 := okn_1 (Or.inl (by assumption)); omega) | (have e2 : okn (bytC v k) = 1 := okn_1 (Or.inr (by assumption)); omega) | (have e2 : okn (bytC v k) = 0 := okn_n (by assumption) (by assumption); omega)) | rfl
theorem k_X8_addBytes_r11 (u : qS) (uc : qS) (v : Int64) (t : Nat) (i : Nat) (t1 : Nat) (k : Int32) (f_5 : Nat → Int32) (h1 : k = nI (8 * i) - 8) (h2 : i ≤ 8) (h3 : uc.1 801 = nI t1) (h4 : t1 + i ≤ 24) (h5 : t1 + cntC v i = t + cntC v 8) (c4_1 : ¬ (k : Int32) < 0) (c21_2 : ¬ ((((v.toUInt64 >>> ((k : Int32).toInt64.toUInt64 &&& Int64.toUInt64 63)).toInt64).toInt32) &&& 255 : Int32) = 10) (b30_4 : 32 ≤ ((((v.toUInt64 >>> ((k : Int32).toInt64.toUInt64 &&& Int64.toUInt64 63)).toInt64).toInt32) &&& 255) ∧ ((((v.toUInt64 >>> ((k : Int32).toInt64.toUInt64 &&& Int64.toUInt64 63)).toInt64).toInt32) &&& 255) ≤ 126) (hf_5 : upd (uc.2.1 800) (uc.1 801 : Int32).toNatClampNeg (vp_nar .byte (((((v.toUInt64 >>> ((k : Int32).toInt64.toUInt64 &&& Int64.toUInt64 63)).toInt64).toInt32) &&& 255).toInt8.toInt32)) = f_5) : (i - 1) < i := by
  have := (lay_k h1 h2 (by assumption)).1; omega
theorem k_X8_addBytes_r12 (u : qS) (uc : qS) (v : Int64) (t : Nat) (i : Nat) (t1 : Nat) (k : Int32) (h1 : k = nI (8 * i) - 8) (h2 : i ≤ 8) (h3 : uc.1 801 = nI t1) (h4 : t1 + i ≤ 24) (h5 : t1 + cntC v i = t + cntC v 8) (c4_1 : ¬ (k : Int32) < 0) (c21_2 : ¬ ((((v.toUInt64 >>> ((k : Int32).toInt64.toUInt64 &&& Int64.toUInt64 63)).toInt64).toInt32) &&& 255 : Int32) = 10) (b30_4 : ¬ (32 ≤ ((((v.toUInt64 >>> ((k : Int32).toInt64.toUInt64 &&& Int64.toUInt64 63)).toInt64).toInt32) &&& 255) ∧ ((((v.toUInt64 >>> ((k : Int32).toInt64.toUInt64 &&& Int64.toUInt64 63)).toInt64).toInt32) &&& 255) ≤ 126)) : (k + (-8)) = nI (8 * (i - 1)) - 8 := by
  exact lay_kn h1 h2 (by assumption)
theorem k_X8_addBytes_r13 (u : qS) (uc : qS) (v : Int64) (t : Nat) (i : Nat) (t1 : Nat) (k : Int32) (h1 : k = nI (8 * i) - 8) (h2 : i ≤ 8) (h3 : uc.1 801 = nI t1) (h4 : t1 + i ≤ 24) (h5 : t1 + cntC v i = t + cntC v 8) (c4_1 : ¬ (k : Int32) < 0) (c21_2 : ¬ ((((v.toUInt64 >>> ((k : Int32).toInt64.toUInt64 &&& Int64.toUInt64 63)).toInt64).toInt32) &&& 255 : Int32) = 10) (b30_4 : ¬ (32 ≤ ((((v.toUInt64 >>> ((k : Int32).toInt64.toUInt64 &&& Int64.toUInt64 63)).toInt64).toInt32) &&& 255) ∧ ((((v.toUInt64 >>> ((k : Int32).toInt64.toUInt64 &&& Int64.toUInt64 63)).toInt64).toInt32) &&& 255) ≤ 126)) : (i - 1) ≤ 8 := by
  omega
theorem k_X8_addBytes_r14 (u : qS) (uc : qS) (v : Int64) (t : Nat) (i : Nat) (t1 : Nat) (k : Int32) (h1 : k = nI (8 * i) - 8) (h2 : i ≤ 8) (h3 : uc.1 801 = nI t1) (h4 : t1 + i ≤ 24) (h5 : t1 + cntC v i = t + cntC v 8) (c4_1 : ¬ (k : Int32) < 0) (c21_2 : ¬ ((((v.toUInt64 >>> ((k : Int32).toInt64.toUInt64 &&& Int64.toUInt64 63)).toInt64).toInt32) &&& 255 : Int32) = 10) (b30_4 : ¬ (32 ≤ ((((v.toUInt64 >>> ((k : Int32).toInt64.toUInt64 &&& Int64.toUInt64 63)).toInt64).toInt32) &&& 255) ∧ ((((v.toUInt64 >>> ((k : Int32).toInt64.toUInt64 &&& Int64.toUInt64 63)).toInt64).toInt32) &&& 255) ≤ 126)) : (uc.1 801) = nI t1 := by
  first | exact lay_1 h3 | exact h3 | exact h_t
theorem k_X8_addBytes_r15 (u : qS) (uc : qS) (v : Int64) (t : Nat) (i : Nat) (t1 : Nat) (k : Int32) (h1 : k = nI (8 * i) - 8) (h2 : i ≤ 8) (h3 : uc.1 801 = nI t1) (h4 : t1 + i ≤ 24) (h5 : t1 + cntC v i = t + cntC v 8) (c4_1 : ¬ (k : Int32) < 0) (c21_2 : ¬ ((((v.toUInt64 >>> ((k : Int32).toInt64.toUInt64 &&& Int64.toUInt64 63)).toInt64).toInt32) &&& 255 : Int32) = 10) (b30_4 : ¬ (32 ≤ ((((v.toUInt64 >>> ((k : Int32).toInt64.toUInt64 &&& Int64.toUInt64 63)).toInt64).toInt32) &&& 255) ∧ ((((v.toUInt64 >>> ((k : Int32).toInt64.toUInt64 &&& Int64.toUInt64 63)).toInt64).toInt32) &&& 255) ≤ 126)) : t1 + (i - 1) ≤ 24 := by
  first | omega | (have := (lay_k h1 h2 (by assumption)).1; omega)
theorem k_X8_addBytes_r16 (u : qS) (uc : qS) (v : Int64) (t : Nat) (i : Nat) (t1 : Nat) (k : Int32) (h1 : k = nI (8 * i) - 8) (h2 : i ≤ 8) (h3 : uc.1 801 = nI t1) (h4 : t1 + i ≤ 24) (h5 : t1 + cntC v i = t + cntC v 8) (c4_1 : ¬ (k : Int32) < 0) (c21_2 : ¬ ((((v.toUInt64 >>> ((k : Int32).toInt64.toUInt64 &&& Int64.toUInt64 63)).toInt64).toInt32) &&& 255 : Int32) = 10) (b30_4 : ¬ (32 ≤ ((((v.toUInt64 >>> ((k : Int32).toInt64.toUInt64 &&& Int64.toUInt64 63)).toInt64).toInt32) &&& 255) ∧ ((((v.toUInt64 >>> ((k : Int32).toInt64.toUInt64 &&& Int64.toUInt64 63)).toInt64).toInt32) &&& 255) ≤ 126)) : t1 + cntC v (i - 1) = t + cntC v 8 := by
  first | (have e := lay_sC v h1 h2 (by assumption); first | (have e2 : okn (bytC v k) = 1 := okn_1 (Or.inl (by assumption)); omega) | (have e2 : okn (bytC v k) = 1 := okn_1 (Or.inr (by assumption)); omega) | (have e2 : okn (bytC v k) = 0 := okn_n (by assumption) (by assumption); omega)) | rfl
theorem k_X8_addBytes_r17 (u : qS) (uc : qS) (v : Int64) (t : Nat) (i : Nat) (t1 : Nat) (k : Int32) (h1 : k = nI (8 * i) - 8) (h2 : i ≤ 8) (h3 : uc.1 801 = nI t1) (h4 : t1 + i ≤ 24) (h5 : t1 + cntC v i = t + cntC v 8) (c4_1 : ¬ (k : Int32) < 0) (c21_2 : ¬ ((((v.toUInt64 >>> ((k : Int32).toInt64.toUInt64 &&& Int64.toUInt64 63)).toInt64).toInt32) &&& 255 : Int32) = 10) (b30_4 : ¬ (32 ≤ ((((v.toUInt64 >>> ((k : Int32).toInt64.toUInt64 &&& Int64.toUInt64 63)).toInt64).toInt32) &&& 255) ∧ ((((v.toUInt64 >>> ((k : Int32).toInt64.toUInt64 &&& Int64.toUInt64 63)).toInt64).toInt32) &&& 255) ≤ 126)) : (i - 1) < i := by
  have := (lay_k h1 h2 (by assumption)).1; omega
theorem k_X8_addBytes_r18 (u : qS) (v : Int64) (t : Nat) (h_t : u.1 801 = nI t) (h_8 : t + 8 ≤ 24) : 56 = nI (8 * 8) - 8 := by
  decide +kernel
theorem k_X8_addBytes_r19 (u : qS) (v : Int64) (t : Nat) (h_t : u.1 801 = nI t) (h_8 : t + 8 ≤ 24) : 8 ≤ 8 := by
  omega
theorem k_X8_addBytes_r20 (u : qS) (v : Int64) (t : Nat) (h_t : u.1 801 = nI t) (h_8 : t + 8 ≤ 24) : (u.1 801) = nI t := by
  first | exact lay_1 h3 | exact h3 | exact h_t
theorem k_X8_addBytes_r21 (u : qS) (v : Int64) (t : Nat) (h_t : u.1 801 = nI t) (h_8 : t + 8 ≤ 24) : t + 8 ≤ 24 := by
  first | omega | (have := (lay_k h1 h2 (by assumption)).1; omega)
theorem k_X8_addBytes_r22 (u : qS) (v : Int64) (t : Nat) (h_t : u.1 801 = nI t) (h_8 : t + 8 ≤ 24) : t + cntC v 8 = t + cntC v 8 := by
  first | (have e := lay_sC v h1 h2 (by assumption); first | (have e2 : okn (bytC v k) = 1 := okn_1 (Or.inl (by assumption)); omega) | (have e2 : okn (bytC v k) = 1 := okn_1 (Or.inr (by assumption)); omega) | (have e2 : okn (bytC v k) = 0 := okn_n (by assumption) (by assumption); omega)) | rfl
set_option maxHeartbeats 400000 in
set_option maxRecDepth 100000 in
theorem k_X8_addBytes (l : Launch) (E : qE) (A : Nat → Prop) (u : qS) (v : Int64) (t : Nat) (h_t : u.1 801 = nI t) (h_8 : t + 8 ≤ 24) : Met l yX8_addBytes (uws yX8_addBytes cX8_addBytes 6 none) (qR 1 0 0) (qPc E A 0 u [.ref (E.2.2 899), .long v]) (qQv E A 0 (fun u1 => u1.1 801 = nI (t + cntC v 8))) 0 0 A := by
  refine q_met (own := RX8) (f := 1) [.ref (E.2.2 899), .long v] (by decide) (Nat.le_of_ble_eq_true rfl) rfl ?_
  intro p0 e0 s0 m0 bl0 me0 cd0 ls hF hr hlocks hU hS hA hl
  have hl : lv_has ls 6 [(0, .ref (E.2.2 899)), (1, .long v)] := hl
  have main : ∀ n : Nat, (∀ (i : Nat) (t1 : Nat) (k : Int32) (uc : qS) (H : Heap) (locs : List Loc) (ls : Array Slot) (h1 : k = nI (8 * i) - 8) (h2 : i ≤ 8) (h3 : uc.1 801 = nI t1) (h4 : t1 + i ≤ 24) (h5 : t1 + cntC v i = t + cntC v 8), i < n → qH E A 0 uc s0 H → va_S A s0.heap H locs → lv_has ls 6 [(0, .ref (E.2.2 899)), (1, .long v), (3, .int k)] → W p0 l e0 (qR 1 0 0) s0 m0 ([.ref (E.2.2 899), .long v] : List Value).toArray bl0 me0 cd0 H locs 0 0 (MQ bl0 (qQv E A 0 (fun u1 => u1.1 801 = nI (t + cntC v 8))) ([.ref (E.2.2 899), .long v] : List Value).toArray s0 0 0 A) (F0 m0 3 ls [])) := by
    intro n
    induction n with
    | zero => exact fun _ _ _ _ _ _ _ _ _ _ _ _ hmu => absurd hmu (Nat.not_lt_zero _)
    | succ n ih =>
      intro i t1 k uc H locs ls h1 h2 h3 h4 h5 hmu hU hS hl
      refine lv_iload_n hF.1 hF.2.1 dX8_addBytes_3 rfl (lv_at hl 2 rfl) ?_
      refine lv_if_lt (tgt := 86) hF.1 hF.2.1 dX8_addBytes_4 (by decide) (fun c4_1 => ?_) (fun c4_1 => ?_)
      · exact q_vret hF hr hlocks hU hS dX8_addBytes_86 (by have e := lay_k0 h1 h2 (by assumption); subst e; exact h3.trans (congrArg nI h5))
      · refine lv_lload_n hF.1 hF.2.1 dX8_addBytes_7 rfl (lv_at hl 1 rfl) ?_
        refine lv_iload_n hF.1 hF.2.1 dX8_addBytes_8 rfl (lv_at hl 2 rfl) ?_
        refine lv_lushr (v := (v.toUInt64 >>> ((k : Int32).toInt64.toUInt64 &&& Int64.toUInt64 63)).toInt64) hF.1 hF.2.1 dX8_addBytes_9 rfl ?_
        refine lv_l2i (v := ((v.toUInt64 >>> ((k : Int32).toInt64.toUInt64 &&& Int64.toUInt64 63)).toInt64).toInt32) hF.1 hF.2.1 dX8_addBytes_10 rfl ?_
        refine lv_sipush (v := 255) hF.1 hF.2.1 dX8_addBytes_11 (by decide) ?_
        refine lv_iand hF.1 hF.2.1 dX8_addBytes_14 ?_
        refine lv_istore (lv' := [(4, .int ((((v.toUInt64 >>> ((k : Int32).toInt64.toUInt64 &&& Int64.toUInt64 63)).toInt64).toInt32) &&& 255)), (0, .ref (E.2.2 899)), (1, .long v), (3, .int k)]) hF.1 hF.2.1 dX8_addBytes_15 hl (by decide) rfl (fun ls hl => ?_)
        refine lv_iload hF.1 hF.2.1 dX8_addBytes_17 (lv_at hl 0 rfl) ?_
        refine lv_bipush (v := 10) hF.1 hF.2.1 dX8_addBytes_19 (by decide) ?_
        refine lv_icmp_eq (tgt := 36) hF.1 hF.2.1 dX8_addBytes_21 (by decide) (fun c21_2 => ?_) (fun c21_2 => ?_)
        · refine lv_iconst (v := 1) hF.1 hF.2.1 dX8_addBytes_36 (by decide) ?_
          refine lv_goto (tgt := 41) hF.1 hF.2.1 dX8_addBytes_37 (by decide) ?_
          refine lv_istore (lv' := [(5, .int 1), (4, .int ((((v.toUInt64 >>> ((k : Int32).toInt64.toUInt64 &&& Int64.toUInt64 63)).toInt64).toInt32) &&& 255)), (0, .ref (E.2.2 899)), (1, .long v), (3, .int k)]) hF.1 hF.2.1 dX8_addBytes_41 hl (by decide) rfl (fun ls hl => ?_)
          refine lv_iload hF.1 hF.2.1 dX8_addBytes_43 (lv_at hl 0 rfl) ?_
          refine lv_if_eq (tgt := 80) hF.1 hF.2.1 dX8_addBytes_45 (by decide) (fun h9 => absurd h9 (by decide)) (fun _ => ?_)
          refine lv_aload_n hF.1 hF.2.1 dX8_addBytes_48 rfl (lv_at hl 2 rfl) ?_
          refine q_get (v := .int (uc.1 801)) hF hU dX8_addBytes_49 2 8 1 801 899 rfl rfl rfl rfl inX8 (by decide) (by decide) w_239 rfl rfl ?_
          refine lv_sipush (v := 1000) hF.1 hF.2.1 dX8_addBytes_52 (by decide) ?_
          refine lv_icmp_ge (tgt := 80) hF.1 hF.2.1 dX8_addBytes_55 (by decide) (fun h9 => absurd h9 (lay_ge h3 h4)) (fun _ => ?_)
          refine lv_aload_n hF.1 hF.2.1 dX8_addBytes_58 rfl (lv_at hl 2 rfl) ?_
          refine q_get (v := .ref (E.2.2 800)) hF hU dX8_addBytes_59 2 8 0 800 899 rfl rfl rfl rfl inX8 (by decide) (by decide) w_238 rfl rfl ?_
          refine lv_aload_n hF.1 hF.2.1 dX8_addBytes_62 rfl (lv_at hl 2 rfl) ?_
          refine q_get (v := .int (uc.1 801)) hF hU dX8_addBytes_63 2 8 1 801 899 rfl rfl rfl rfl inX8 (by decide) (by decide) w_239 rfl rfl ?_
          refine lv_iload hF.1 hF.2.1 dX8_addBytes_66 (lv_at hl 1 rfl) ?_
          refine lv_i2b (v := ((((v.toUInt64 >>> ((k : Int32).toInt64.toUInt64 &&& Int64.toUInt64 63)).toInt64).toInt32) &&& 255).toInt8.toInt32) hF.1 hF.2.1 dX8_addBytes_68 rfl ?_
          refine q_bast hF hU hS dX8_addBytes_69 8 800 rfl rfl (lay_in h3 h4) rfl (fun f_3 H locs hg hU hS => ?_)
          have hf_3 : upd (uc.2.1 800) (uc.1 801 : Int32).toNatClampNeg (vp_nar .byte (((((v.toUInt64 >>> ((k : Int32).toInt64.toUInt64 &&& Int64.toUInt64 63)).toInt64).toInt32) &&& 255).toInt8.toInt32)) = f_3 := hg.symm
          refine lv_aload_n hF.1 hF.2.1 dX8_addBytes_70 rfl (lv_at hl 2 rfl) ?_
          refine lv_dup hF.1 hF.2.1 dX8_addBytes_71 rfl ?_
          refine q_get (v := .int (uc.1 801)) hF hU dX8_addBytes_72 2 8 1 801 899 rfl rfl rfl rfl inX8 (by decide) (by decide) w_239 rfl rfl ?_
          refine lv_iconst (v := 1) hF.1 hF.2.1 dX8_addBytes_75 (by decide) ?_
          refine lv_iadd hF.1 hF.2.1 dX8_addBytes_76 ?_
          refine q_put hF hU hS dX8_addBytes_77 2 8 1 801 899 rfl rfl rfl rfl inX8 tyX8 tyX8_ok nmX8 (by decide) (by decide) rfl w_239 rfl rfl rfl rfl (fun H locs hU hS => ?_)
          refine lv_iinc (v := k + (-8)) (lv' := [(3, .int (k + (-8))), (5, .int 1), (4, .int ((((v.toUInt64 >>> ((k : Int32).toInt64.toUInt64 &&& Int64.toUInt64 63)).toInt64).toInt32) &&& 255)), (0, .ref (E.2.2 899)), (1, .long v)]) hF.1 hF.2.1 dX8_addBytes_80 hl (k := 4) rfl rfl (by decide) rfl (fun ls hl => ?_)
          refine lv_goto (tgt := 3) hF.1 hF.2.1 dX8_addBytes_83 (by decide) ?_
          exact ih (i - 1) (t1 + 1) (k + (-8)) (qsI (qsF uc 800 f_3) 801 ((uc.1 801) + 1)) _ _ _ (k_X8_addBytes_r0 u uc v t i t1 k f_3 h1 h2 h3 h4 h5 c4_1 c21_2 hf_3) (k_X8_addBytes_r1 u uc v t i t1 k f_3 h1 h2 h3 h4 h5 c4_1 c21_2 hf_3) (k_X8_addBytes_r2 u uc v t i t1 k f_3 h1 h2 h3 h4 h5 c4_1 c21_2 hf_3) (k_X8_addBytes_r3 u uc v t i t1 k f_3 h1 h2 h3 h4 h5 c4_1 c21_2 hf_3) (k_X8_addBytes_r4 u uc v t i t1 k f_3 h1 h2 h3 h4 h5 c4_1 c21_2 hf_3) (Nat.lt_of_lt_of_le (k_X8_addBytes_r5 u uc v t i t1 k f_3 h1 h2 h3 h4 h5 c4_1 c21_2 hf_3) (Nat.lt_succ_iff.mp hmu)) hU hS (lv_sub hl [3, 4, 0] rfl)
        · refine lv_iload hF.1 hF.2.1 dX8_addBytes_24 (lv_at hl 0 rfl) ?_
          refine lv_bipush (v := 32) hF.1 hF.2.1 dX8_addBytes_26 (by decide) ?_
          refine lv_bipush (v := 126) hF.1 hF.2.1 dX8_addBytes_28 (by decide) ?_
          have hM9 := (k_X11_isWithin l E A 0 uc ((((v.toUInt64 >>> ((k : Int32).toInt64.toUInt64 &&& Int64.toUInt64 63)).toInt64).toInt32) &&& 255) 32 126)
          have hR9 := q_runSN (l := l) (e := e0) (below := bl0) (meth := me0) (R := qR 1 0 0) (cells := 0) (slots := 0) (st0 := [.int 126, .int 32, .int ((((v.toUInt64 >>> ((k : Int32).toInt64.toUInt64 &&& Int64.toUInt64 63)).toInt64).toInt32) &&& 255)]) (rest := []) (host := "SecretBuyers") hF hU hS hA 3 hM9 hU.2.2.2.n694 w_469 w_99 w_470 (by decide +kernel) ⟨Nat.le_of_ble_eq_true rfl, Nat.le_of_ble_eq_true rfl⟩ dX8_addBytes_30 rfl hl.1 rfl (Nat.le_of_ble_eq_true rfl) ⟨Nat.le_of_ble_eq_true rfl, Nat.le_of_ble_eq_true rfl⟩
          refine q_calli hR9 hU.2.2.2 hS (fun r u1 H locs hw hU hS => ?_)
          obtain ⟨hu1, hw⟩ := hw
          rw [hu1] at hU
          rcases hw with ⟨rfl, b30_4⟩ | ⟨rfl, b30_4⟩
          · refine lv_if_eq (tgt := 40) hF.1 hF.2.1 dX8_addBytes_33 (by decide) (fun h9 => absurd h9 (by decide)) (fun _ => ?_)
            refine lv_iconst (v := 1) hF.1 hF.2.1 dX8_addBytes_36 (by decide) ?_
            refine lv_goto (tgt := 41) hF.1 hF.2.1 dX8_addBytes_37 (by decide) ?_
            refine lv_istore (lv' := [(5, .int 1), (4, .int ((((v.toUInt64 >>> ((k : Int32).toInt64.toUInt64 &&& Int64.toUInt64 63)).toInt64).toInt32) &&& 255)), (0, .ref (E.2.2 899)), (1, .long v), (3, .int k)]) hF.1 hF.2.1 dX8_addBytes_41 hl (by decide) rfl (fun ls hl => ?_)
            refine lv_iload hF.1 hF.2.1 dX8_addBytes_43 (lv_at hl 0 rfl) ?_
            refine lv_if_eq (tgt := 80) hF.1 hF.2.1 dX8_addBytes_45 (by decide) (fun h9 => absurd h9 (by decide)) (fun _ => ?_)
            refine lv_aload_n hF.1 hF.2.1 dX8_addBytes_48 rfl (lv_at hl 2 rfl) ?_
            refine q_get (v := .int (uc.1 801)) hF hU dX8_addBytes_49 2 8 1 801 899 rfl rfl rfl rfl inX8 (by decide) (by decide) w_239 rfl rfl ?_
            refine lv_sipush (v := 1000) hF.1 hF.2.1 dX8_addBytes_52 (by decide) ?_
            refine lv_icmp_ge (tgt := 80) hF.1 hF.2.1 dX8_addBytes_55 (by decide) (fun h9 => absurd h9 (lay_ge h3 h4)) (fun _ => ?_)
            refine lv_aload_n hF.1 hF.2.1 dX8_addBytes_58 rfl (lv_at hl 2 rfl) ?_
            refine q_get (v := .ref (E.2.2 800)) hF hU dX8_addBytes_59 2 8 0 800 899 rfl rfl rfl rfl inX8 (by decide) (by decide) w_238 rfl rfl ?_
            refine lv_aload_n hF.1 hF.2.1 dX8_addBytes_62 rfl (lv_at hl 2 rfl) ?_
            refine q_get (v := .int (uc.1 801)) hF hU dX8_addBytes_63 2 8 1 801 899 rfl rfl rfl rfl inX8 (by decide) (by decide) w_239 rfl rfl ?_
            refine lv_iload hF.1 hF.2.1 dX8_addBytes_66 (lv_at hl 1 rfl) ?_
            refine lv_i2b (v := ((((v.toUInt64 >>> ((k : Int32).toInt64.toUInt64 &&& Int64.toUInt64 63)).toInt64).toInt32) &&& 255).toInt8.toInt32) hF.1 hF.2.1 dX8_addBytes_68 rfl ?_
            refine q_bast hF hU hS dX8_addBytes_69 8 800 rfl rfl (lay_in h3 h4) rfl (fun f_5 H locs hg hU hS => ?_)
            have hf_5 : upd (uc.2.1 800) (uc.1 801 : Int32).toNatClampNeg (vp_nar .byte (((((v.toUInt64 >>> ((k : Int32).toInt64.toUInt64 &&& Int64.toUInt64 63)).toInt64).toInt32) &&& 255).toInt8.toInt32)) = f_5 := hg.symm
            refine lv_aload_n hF.1 hF.2.1 dX8_addBytes_70 rfl (lv_at hl 2 rfl) ?_
            refine lv_dup hF.1 hF.2.1 dX8_addBytes_71 rfl ?_
            refine q_get (v := .int (uc.1 801)) hF hU dX8_addBytes_72 2 8 1 801 899 rfl rfl rfl rfl inX8 (by decide) (by decide) w_239 rfl rfl ?_
            refine lv_iconst (v := 1) hF.1 hF.2.1 dX8_addBytes_75 (by decide) ?_
            refine lv_iadd hF.1 hF.2.1 dX8_addBytes_76 ?_
            refine q_put hF hU hS dX8_addBytes_77 2 8 1 801 899 rfl rfl rfl rfl inX8 tyX8 tyX8_ok nmX8 (by decide) (by decide) rfl w_239 rfl rfl rfl rfl (fun H locs hU hS => ?_)
            refine lv_iinc (v := k + (-8)) (lv' := [(3, .int (k + (-8))), (5, .int 1), (4, .int ((((v.toUInt64 >>> ((k : Int32).toInt64.toUInt64 &&& Int64.toUInt64 63)).toInt64).toInt32) &&& 255)), (0, .ref (E.2.2 899)), (1, .long v)]) hF.1 hF.2.1 dX8_addBytes_80 hl (k := 4) rfl rfl (by decide) rfl (fun ls hl => ?_)
            refine lv_goto (tgt := 3) hF.1 hF.2.1 dX8_addBytes_83 (by decide) ?_
            exact ih (i - 1) (t1 + 1) (k + (-8)) (qsI (qsF uc 800 f_5) 801 ((uc.1 801) + 1)) _ _ _ (k_X8_addBytes_r6 u uc v t i t1 k f_5 h1 h2 h3 h4 h5 c4_1 c21_2 b30_4 hf_5) (k_X8_addBytes_r7 u uc v t i t1 k f_5 h1 h2 h3 h4 h5 c4_1 c21_2 b30_4 hf_5) (k_X8_addBytes_r8 u uc v t i t1 k f_5 h1 h2 h3 h4 h5 c4_1 c21_2 b30_4 hf_5) (k_X8_addBytes_r9 u uc v t i t1 k f_5 h1 h2 h3 h4 h5 c4_1 c21_2 b30_4 hf_5) (k_X8_addBytes_r10 u uc v t i t1 k f_5 h1 h2 h3 h4 h5 c4_1 c21_2 b30_4 hf_5) (Nat.lt_of_lt_of_le (k_X8_addBytes_r11 u uc v t i t1 k f_5 h1 h2 h3 h4 h5 c4_1 c21_2 b30_4 hf_5) (Nat.lt_succ_iff.mp hmu)) hU hS (lv_sub hl [3, 4, 0] rfl)
          · refine lv_if_eq (tgt := 40) hF.1 hF.2.1 dX8_addBytes_33 (by decide) (fun _ => ?_) (fun h9 => absurd (by decide) h9)
            refine lv_iconst (v := 0) hF.1 hF.2.1 dX8_addBytes_40 (by decide) ?_
            refine lv_istore (lv' := [(5, .int 0), (4, .int ((((v.toUInt64 >>> ((k : Int32).toInt64.toUInt64 &&& Int64.toUInt64 63)).toInt64).toInt32) &&& 255)), (0, .ref (E.2.2 899)), (1, .long v), (3, .int k)]) hF.1 hF.2.1 dX8_addBytes_41 hl (by decide) rfl (fun ls hl => ?_)
            refine lv_iload hF.1 hF.2.1 dX8_addBytes_43 (lv_at hl 0 rfl) ?_
            refine lv_if_eq (tgt := 80) hF.1 hF.2.1 dX8_addBytes_45 (by decide) (fun _ => ?_) (fun h9 => absurd (by decide) h9)
            refine lv_iinc (v := k + (-8)) (lv' := [(3, .int (k + (-8))), (5, .int 0), (4, .int ((((v.toUInt64 >>> ((k : Int32).toInt64.toUInt64 &&& Int64.toUInt64 63)).toInt64).toInt32) &&& 255)), (0, .ref (E.2.2 899)), (1, .long v)]) hF.1 hF.2.1 dX8_addBytes_80 hl (k := 4) rfl rfl (by decide) rfl (fun ls hl => ?_)
            refine lv_goto (tgt := 3) hF.1 hF.2.1 dX8_addBytes_83 (by decide) ?_
            exact ih (i - 1) t1 (k + (-8)) uc _ _ _ (k_X8_addBytes_r12 u uc v t i t1 k h1 h2 h3 h4 h5 c4_1 c21_2 b30_4) (k_X8_addBytes_r13 u uc v t i t1 k h1 h2 h3 h4 h5 c4_1 c21_2 b30_4) (k_X8_addBytes_r14 u uc v t i t1 k h1 h2 h3 h4 h5 c4_1 c21_2 b30_4) (k_X8_addBytes_r15 u uc v t i t1 k h1 h2 h3 h4 h5 c4_1 c21_2 b30_4) (k_X8_addBytes_r16 u uc v t i t1 k h1 h2 h3 h4 h5 c4_1 c21_2 b30_4) (Nat.lt_of_lt_of_le (k_X8_addBytes_r17 u uc v t i t1 k h1 h2 h3 h4 h5 c4_1 c21_2 b30_4) (Nat.lt_succ_iff.mp hmu)) hU hS (lv_sub hl [3, 4, 0] rfl)
  refine lv_bipush (v := 56) hF.1 hF.2.1 dX8_addBytes_0 (by decide) ?_
  refine lv_istore_n (lv' := [(3, .int 56), (0, .ref (E.2.2 899)), (1, .long v)]) hF.1 hF.2.1 dX8_addBytes_2 rfl hl (by decide) rfl (fun ls hl => ?_)
  exact (main _) 8 t 56 u _ _ _ (k_X8_addBytes_r18 u v t h_t h_8) (k_X8_addBytes_r19 u v t h_t h_8) (k_X8_addBytes_r20 u v t h_t h_8) (k_X8_addBytes_r21 u v t h_t h_8) (k_X8_addBytes_r22 u v t h_t h_8) (Nat.lt_succ_self _) hU hS (lv_sub hl [1, 2, 0] rfl)
set_option maxHeartbeats 400000 in
set_option maxRecDepth 100000 in
theorem k_X11_feed (l : Launch) (E : qE) (A : Nat → Prop) (u : qS) (a : Int64) (b : Int64) (c : Int64) (h_taped : u.1 801 = nI 0) : Met l yX11_feed (uws yX11_feed cX11_feed 7 (some .int)) (qR 2 0 0) (qPc E A 0 u [.ref (E.2.2 1199), .long a, .long b, .long c]) (qQi E A 0 (fun r _ => r = nI (0 + cntC a 8 + cntC b 8 + cntC c 8))) 0 0 A := by
  refine q_met (own := RX11) (f := 2) [.ref (E.2.2 1199), .long a, .long b, .long c] (by decide) (Nat.le_of_ble_eq_true rfl) rfl ?_
  intro p0 e0 s0 m0 bl0 me0 cd0 ls hF hr hlocks hU hS hA hl
  have hl : lv_has ls 7 [(0, .ref (E.2.2 1199)), (1, .long a), (3, .long b), (5, .long c)] := hl
  refine lv_aload_n hF.1 hF.2.1 dX11_feed_0 rfl (lv_at hl 0 rfl) ?_
  refine q_get (v := .ref (E.2.2 899)) hF hU dX11_feed_1 0 11 1 1101 1199 rfl rfl rfl rfl inX11 (by decide) (by decide) w_437 rfl rfl ?_
  refine lv_lload_n hF.1 hF.2.1 dX11_feed_4 rfl (lv_at hl 1 rfl) ?_
  have hM9 := (k_X8_addBytes l E A u a 0 h_taped (by have h1 := cntC_le a 8; have h2 := cntC_le b 8; omega))
  have hR9 := q_runV (l := l) (e := e0) (below := bl0) (meth := me0) (R := qR 2 0 0) (cells := 0) (slots := 0) (st0 := [.long a, .ref (E.2.2 899)]) (rest := []) hF hU hS hA 1 2 8 899 rfl rfl rfl hM9 w_690 w_691 w_692 w_101 w_693 (by decide +kernel) ⟨Nat.le_of_ble_eq_true rfl, Nat.le_of_ble_eq_true rfl⟩ dX11_feed_5 rfl hl.1 rfl (Nat.le_of_ble_eq_true rfl) ⟨Nat.le_of_ble_eq_true rfl, Nat.le_of_ble_eq_true rfl⟩
  refine q_callv hR9 hU.2.2.2 hS (fun u_1 H locs hw_2 hU hS => ?_)
  refine lv_aload_n hF.1 hF.2.1 dX11_feed_8 rfl (lv_at hl 0 rfl) ?_
  refine q_get (v := .ref (E.2.2 899)) hF hU dX11_feed_9 0 11 1 1101 1199 rfl rfl rfl rfl inX11 (by decide) (by decide) w_437 rfl rfl ?_
  refine lv_lload_n hF.1 hF.2.1 dX11_feed_12 rfl (lv_at hl 2 rfl) ?_
  have hM9 := (k_X8_addBytes l E A u_1 b (0 + cntC a 8) hw_2 (by have h1 := cntC_le a 8; have h2 := cntC_le b 8; omega))
  have hR9 := q_runV (l := l) (e := e0) (below := bl0) (meth := me0) (R := qR 2 0 0) (cells := 0) (slots := 0) (st0 := [.long b, .ref (E.2.2 899)]) (rest := []) hF hU hS hA 1 2 8 899 rfl rfl rfl hM9 w_690 w_691 w_692 w_101 w_693 (by decide +kernel) ⟨Nat.le_of_ble_eq_true rfl, Nat.le_of_ble_eq_true rfl⟩ dX11_feed_13 rfl hl.1 rfl (Nat.le_of_ble_eq_true rfl) ⟨Nat.le_of_ble_eq_true rfl, Nat.le_of_ble_eq_true rfl⟩
  refine q_callv hR9 hU.2.2.2 hS (fun u_3 H locs hw_4 hU hS => ?_)
  refine lv_aload_n hF.1 hF.2.1 dX11_feed_16 rfl (lv_at hl 0 rfl) ?_
  refine q_get (v := .ref (E.2.2 899)) hF hU dX11_feed_17 0 11 1 1101 1199 rfl rfl rfl rfl inX11 (by decide) (by decide) w_437 rfl rfl ?_
  refine lv_lload hF.1 hF.2.1 dX11_feed_20 (lv_at hl 3 rfl) ?_
  have hM9 := (k_X8_addBytes l E A u_3 c ((0 + cntC a 8) + cntC b 8) hw_4 (by have h1 := cntC_le a 8; have h2 := cntC_le b 8; omega))
  have hR9 := q_runV (l := l) (e := e0) (below := bl0) (meth := me0) (R := qR 2 0 0) (cells := 0) (slots := 0) (st0 := [.long c, .ref (E.2.2 899)]) (rest := []) hF hU hS hA 1 2 8 899 rfl rfl rfl hM9 w_690 w_691 w_692 w_101 w_693 (by decide +kernel) ⟨Nat.le_of_ble_eq_true rfl, Nat.le_of_ble_eq_true rfl⟩ dX11_feed_22 rfl hl.1 rfl (Nat.le_of_ble_eq_true rfl) ⟨Nat.le_of_ble_eq_true rfl, Nat.le_of_ble_eq_true rfl⟩
  refine q_callv hR9 hU.2.2.2 hS (fun u_5 H locs hw_6 hU hS => ?_)
  refine lv_aload_n hF.1 hF.2.1 dX11_feed_25 rfl (lv_at hl 0 rfl) ?_
  refine q_get (v := .ref (E.2.2 899)) hF hU dX11_feed_26 0 11 1 1101 1199 rfl rfl rfl rfl inX11 (by decide) (by decide) w_437 rfl rfl ?_
  refine q_get (v := .int (nI (((0 + cntC a 8) + cntC b 8) + cntC c 8))) hF hU dX11_feed_29 2 8 1 801 899 rfl rfl rfl rfl inX8 (by decide) (by decide) w_240 rfl (congrArg Value.int hw_6) ?_
  exact q_iret hF hr rfl hlocks hU hS dX11_feed_32 (rfl)
