set_option maxRecDepth 100000 in
theorem g_X3_isTaken_v0 (u : qS) (v : Nat) (hz8 : 0 ≤ u.1 8 ∧ u.1 8 ≤ 20) (hz9 : 0 ≤ u.1 9 ∧ u.1 9 ≤ 8) (hz10 : 0 ≤ u.1 10 ∧ u.1 10 ≤ 120) (hz12 : 0 ≤ u.1 12 ∧ u.1 12 ≤ 16) (b5_4 : qfd u.2.2.2.2 v 1 ≤ c_sd u) : (1 : Int32) = 1 ∨ (1 : Int32) = 0 := by
  first | omega | ((try simp only [g_m1, Int32.lt_iff_toInt_lt, Int32.le_iff_toInt_le, ← Int32.toInt_inj, Int32.reduceToInt] at *); omega) | ((try simp only [g_m1, Int32.lt_iff_toInt_lt, Int32.le_iff_toInt_le, ← Int32.toInt_inj, Int32.reduceToInt] at *); omega) | ((try simp only [g_m1, Int32.lt_iff_toInt_lt, Int32.le_iff_toInt_le, ← Int32.toInt_inj, Int32.toInt_add, Int32.toInt_sub, Int32.toInt_mul, Int32.toInt_neg, Int32.reduceToInt, g_bm, g_bm'] at *); omega) | ((try simp only [g_m1, Int32.lt_iff_toInt_lt, Int32.le_iff_toInt_le, ← Int32.toInt_inj, Int32.toInt_add, Int32.toInt_sub, Int32.toInt_mul, Int32.toInt_neg, Int32.reduceToInt, g_bm, g_bm'] at *); omega) | (simp only [g_m1, Int32.lt_iff_toInt_lt, Int32.le_iff_toInt_le, ← Int32.toInt_inj, Int32.toInt_add, Int32.toInt_sub, Int32.toInt_mul, Int32.toInt_neg, Int32.reduceToInt, g_bm, g_bm'] at *; simp at *; omega) | (simp_all; done)
set_option maxRecDepth 100000 in
theorem g_X3_isTaken_v1 (u : qS) (v : Nat) (hz8 : 0 ≤ u.1 8 ∧ u.1 8 ≤ 20) (hz9 : 0 ≤ u.1 9 ∧ u.1 9 ≤ 8) (hz10 : 0 ≤ u.1 10 ∧ u.1 10 ≤ 120) (hz12 : 0 ≤ u.1 12 ∧ u.1 12 ≤ 16) (b5_4 : qfd u.2.2.2.2 v 1 ≤ c_sd u) : (0 : Int32) = 1 ∨ (0 : Int32) = 0 := by
  first | omega | ((try simp only [g_m1, Int32.lt_iff_toInt_lt, Int32.le_iff_toInt_le, ← Int32.toInt_inj, Int32.reduceToInt] at *); omega) | ((try simp only [g_m1, Int32.lt_iff_toInt_lt, Int32.le_iff_toInt_le, ← Int32.toInt_inj, Int32.reduceToInt] at *); omega) | ((try simp only [g_m1, Int32.lt_iff_toInt_lt, Int32.le_iff_toInt_le, ← Int32.toInt_inj, Int32.toInt_add, Int32.toInt_sub, Int32.toInt_mul, Int32.toInt_neg, Int32.reduceToInt, g_bm, g_bm'] at *); omega) | ((try simp only [g_m1, Int32.lt_iff_toInt_lt, Int32.le_iff_toInt_le, ← Int32.toInt_inj, Int32.toInt_add, Int32.toInt_sub, Int32.toInt_mul, Int32.toInt_neg, Int32.reduceToInt, g_bm, g_bm'] at *); omega) | (simp only [g_m1, Int32.lt_iff_toInt_lt, Int32.le_iff_toInt_le, ← Int32.toInt_inj, Int32.toInt_add, Int32.toInt_sub, Int32.toInt_mul, Int32.toInt_neg, Int32.reduceToInt, g_bm, g_bm'] at *; simp at *; omega) | (simp_all; done)
set_option maxRecDepth 100000 in
theorem g_X3_isTaken_v2 (u : qS) (v : Nat) (hz8 : 0 ≤ u.1 8 ∧ u.1 8 ≤ 20) (hz9 : 0 ≤ u.1 9 ∧ u.1 9 ≤ 8) (hz10 : 0 ≤ u.1 10 ∧ u.1 10 ≤ 120) (hz12 : 0 ≤ u.1 12 ∧ u.1 12 ≤ 16) (b5_4 : ¬ (qfd u.2.2.2.2 v 1 ≤ c_sd u)) : (0 : Int32) = 1 ∨ (0 : Int32) = 0 := by
  first | omega | ((try simp only [g_m1, Int32.lt_iff_toInt_lt, Int32.le_iff_toInt_le, ← Int32.toInt_inj, Int32.reduceToInt] at *); omega) | ((try simp only [g_m1, Int32.lt_iff_toInt_lt, Int32.le_iff_toInt_le, ← Int32.toInt_inj, Int32.reduceToInt] at *); omega) | ((try simp only [g_m1, Int32.lt_iff_toInt_lt, Int32.le_iff_toInt_le, ← Int32.toInt_inj, Int32.toInt_add, Int32.toInt_sub, Int32.toInt_mul, Int32.toInt_neg, Int32.reduceToInt, g_bm, g_bm'] at *); omega) | ((try simp only [g_m1, Int32.lt_iff_toInt_lt, Int32.le_iff_toInt_le, ← Int32.toInt_inj, Int32.toInt_add, Int32.toInt_sub, Int32.toInt_mul, Int32.toInt_neg, Int32.reduceToInt, g_bm, g_bm'] at *); omega) | (simp only [g_m1, Int32.lt_iff_toInt_lt, Int32.le_iff_toInt_le, ← Int32.toInt_inj, Int32.toInt_add, Int32.toInt_sub, Int32.toInt_mul, Int32.toInt_neg, Int32.reduceToInt, g_bm, g_bm'] at *; simp at *; omega) | (simp_all; done)
set_option maxHeartbeats 1000000 in
set_option maxRecDepth 100000 in
theorem g_X3_isTaken (l : Launch) (E : qE) (A : Nat → Prop) (u : qS) (v : Nat) (hI : IC E u) (hv : qRf u v 10) : Met l yX3_isTaken (uws yX3_isTaken cX3_isTaken 2 (some .boolean)) (qR 2 0 0) (qPc E A 0 u [.ref (E.2.2 399), .ref v]) (qQi E A 0 (fun r u1 => u1 = u ∧ (r = 1 ∨ r = 0))) 0 0 A := by
  refine q_met (own := RX3) (f := 2) [.ref (E.2.2 399), .ref v] (by decide) (Nat.le_of_ble_eq_true rfl) rfl ?_
  intro p0 e0 s0 m0 bl0 me0 cd0 ls hF hr hlocks hU hS hA hl
  have hl : lv_has ls 2 [(0, .ref (E.2.2 399)), (1, .ref v)] := hl
  have hz8 : 0 ≤ u.1 8 ∧ u.1 8 ≤ 20 := hI.1.s8
  have hz9 : 0 ≤ u.1 9 ∧ u.1 9 ≤ 8 := hI.1.s9
  have hz10 : 0 ≤ u.1 10 ∧ u.1 10 ≤ 120 := hI.1.s10
  have hz12 : 0 ≤ u.1 12 ∧ u.1 12 ≤ 16 := hI.1.s12
  refine lv_aload_n hF.1 hF.2.1 dX3_isTaken_0 rfl (lv_at hl 0 rfl) ?_
  refine q_get (v := .ref (E.2.2 99)) hF hU dX3_isTaken_1 6 3 0 300 399 rfl rfl rfl rfl inX3 (by decide) (by decide) w_377 rfl rfl ?_
  refine lv_aload_n hF.1 hF.2.1 dX3_isTaken_4 rfl (lv_at hl 1 rfl) ?_
  have hM9 := g_X0_isSeen l E A u v hI hv
  have hR9 := q_runV (l := l) (e := e0) (below := bl0) (meth := me0) (R := qR 2 0 0) (cells := 0) (slots := 0) (st0 := [.ref v, .ref (E.2.2 99)]) (rest := []) hF hU hS hA 1 1 0 99 rfl rfl rfl hM9 w_994 w_861 w_862 w_100 w_863 (by decide +kernel) ⟨Nat.le_of_ble_eq_true rfl, Nat.le_of_ble_eq_true rfl⟩ dX3_isTaken_5 rfl hl.1 rfl (Nat.le_of_ble_eq_true rfl) ⟨Nat.le_of_ble_eq_true rfl, Nat.le_of_ble_eq_true rfl⟩
  refine q_calli hR9 hU.2.2.2 hS (fun r_3 u_1 H locs hw_2 hU hS => ?_)
  obtain ⟨hw_2_e, hw_2⟩ := hw_2
  rw [hw_2_e] at hU
  have hw_2 : (r_3 = 1 ∧ (qfd u.2.2.2.2 v 1 ≤ c_sd u)) ∨ (r_3 = 0 ∧ (¬ (qfd u.2.2.2.2 v 1 ≤ c_sd u))) := hw_2
  rcases hw_2 with ⟨rfl, b5_4⟩ | ⟨rfl, b5_4⟩
  · refine lv_if_eq (tgt := 22) hF.1 hF.2.1 dX3_isTaken_8 (by decide) (fun h9 => absurd h9 (by decide)) (fun _ => ?_)
    refine lv_aload_n hF.1 hF.2.1 dX3_isTaken_11 rfl (lv_at hl 1 rfl) ?_
    have hM9 := g_X10_counts l E A u v hI hv
    obtain ⟨k_5, fs_6, hd_7⟩ := id (hv)
    have hR9 := q_runVd (l := l) (e := e0) (below := bl0) (meth := me0) (R := qR 2 0 0) (cells := 0) (slots := 0) (st0 := [.ref v]) (rest := []) hF hU hS hA 0 k_5 10 hd_7 rfl hM9 w_995 w_908 w_909 w_110 w_910 (by decide +kernel) ⟨Nat.le_of_ble_eq_true rfl, Nat.le_of_ble_eq_true rfl⟩ dX3_isTaken_12 rfl hl.1 rfl (Nat.le_of_ble_eq_true rfl) ⟨Nat.le_of_ble_eq_true rfl, Nat.le_of_ble_eq_true rfl⟩
    refine q_calli hR9 hU.2.2.2 hS (fun r_10 u_8 H locs hw_9 hU hS => ?_)
    obtain ⟨hw_9_e, hw_9⟩ := hw_9
    rw [hw_9_e] at hU
    rcases hw_9 with rfl | rfl
    · refine lv_if_eq (tgt := 22) hF.1 hF.2.1 dX3_isTaken_15 (by decide) (fun h9 => absurd h9 (by decide)) (fun _ => ?_)
      refine lv_iconst (v := 1) hF.1 hF.2.1 dX3_isTaken_18 (by decide) ?_
      refine lv_goto (tgt := 23) hF.1 hF.2.1 dX3_isTaken_19 (by decide) ?_
      exact q_iret hF hr (by decide) hlocks hU hS dX3_isTaken_23 ⟨rfl, (g_X3_isTaken_v0 u v hz8 hz9 hz10 hz12 b5_4)⟩
    · refine lv_if_eq (tgt := 22) hF.1 hF.2.1 dX3_isTaken_15 (by decide) (fun _ => ?_) (fun h9 => absurd (by decide) h9)
      refine lv_iconst (v := 0) hF.1 hF.2.1 dX3_isTaken_22 (by decide) ?_
      exact q_iret hF hr (by decide) hlocks hU hS dX3_isTaken_23 ⟨rfl, (g_X3_isTaken_v1 u v hz8 hz9 hz10 hz12 b5_4)⟩
  · refine lv_if_eq (tgt := 22) hF.1 hF.2.1 dX3_isTaken_8 (by decide) (fun _ => ?_) (fun h9 => absurd (by decide) h9)
    refine lv_iconst (v := 0) hF.1 hF.2.1 dX3_isTaken_22 (by decide) ?_
    exact q_iret hF hr (by decide) hlocks hU hS dX3_isTaken_23 ⟨rfl, (g_X3_isTaken_v2 u v hz8 hz9 hz10 hz12 b5_4)⟩
set_option maxRecDepth 100000 in
theorem g_X3_meetingsOf_v0 (u : qS) (x : Int32) (y : Int32) (hx : 0 ≤ x ∧ x < u.1 9) (hy : 0 ≤ y ∧ y < u.1 9) (hz8 : 0 ≤ u.1 8 ∧ u.1 8 ≤ 20) (hz9 : 0 ≤ u.1 9 ∧ u.1 9 ≤ 8) (hz10 : 0 ≤ u.1 10 ∧ u.1 10 ≤ 120) (hz12 : 0 ≤ u.1 12 ∧ u.1 12 ≤ 16) : vp_in ((x * 8) + y) 64 := by
  have ez0 : (x * 8 : Int32).toInt = (x : Int32).toInt * (8 : Int32).toInt := g_mul (by (try simp only [g_m1, Int32.lt_iff_toInt_lt, Int32.le_iff_toInt_le, ← Int32.toInt_inj, Int32.reduceToInt] at *); omega) (by (try simp only [g_m1, Int32.lt_iff_toInt_lt, Int32.le_iff_toInt_le, ← Int32.toInt_inj, Int32.reduceToInt] at *); omega)
  have ez1 : ((x * 8) + y : Int32).toInt = (x * 8 : Int32).toInt + (y : Int32).toInt := g_add (by (try simp only [g_m1, Int32.lt_iff_toInt_lt, Int32.le_iff_toInt_le, ← Int32.toInt_inj, Int32.reduceToInt] at *); omega) (by (try simp only [g_m1, Int32.lt_iff_toInt_lt, Int32.le_iff_toInt_le, ← Int32.toInt_inj, Int32.reduceToInt] at *); omega)
  refine g_in ?_ ?_ <;> ((try simp only [g_m1, Int32.lt_iff_toInt_lt, Int32.le_iff_toInt_le, ← Int32.toInt_inj, Int32.reduceToInt] at *); omega)
set_option maxHeartbeats 1000000 in
set_option maxRecDepth 100000 in
theorem g_X3_meetingsOf (l : Launch) (E : qE) (A : Nat → Prop) (u : qS) (x : Int32) (y : Int32) (hI : IC E u) (hx : 0 ≤ x ∧ x < u.1 9) (hy : 0 ≤ y ∧ y < u.1 9) : Met l yX3_meetingsOf (uws yX3_meetingsOf cX3_meetingsOf 3 (some .int)) (qR 0 0 0) (qPc E A 0 u [.ref (E.2.2 399), .int x, .int y]) (qQi E A 0 (fun r u1 => u1 = u ∧ (True))) 0 0 A := by
  refine q_met (own := RX3) (f := 0) [.ref (E.2.2 399), .int x, .int y] (by decide) (Nat.le_of_ble_eq_true rfl) rfl ?_
  intro p0 e0 s0 m0 bl0 me0 cd0 ls hF hr hlocks hU hS hA hl
  have hl : lv_has ls 3 [(0, .ref (E.2.2 399)), (1, .int x), (2, .int y)] := hl
  have hz8 : 0 ≤ u.1 8 ∧ u.1 8 ≤ 20 := hI.1.s8
  have hz9 : 0 ≤ u.1 9 ∧ u.1 9 ≤ 8 := hI.1.s9
  have hz10 : 0 ≤ u.1 10 ∧ u.1 10 ≤ 120 := hI.1.s10
  have hz12 : 0 ≤ u.1 12 ∧ u.1 12 ≤ 16 := hI.1.s12
  refine lv_aload_n hF.1 hF.2.1 dX3_meetingsOf_0 rfl (lv_at hl 0 rfl) ?_
  refine q_get (v := .ref (E.2.2 305)) hF hU dX3_meetingsOf_1 6 3 5 305 399 rfl rfl rfl rfl inX3 (by decide) (by decide) w_382 rfl rfl ?_
  refine lv_iload_n hF.1 hF.2.1 dX3_meetingsOf_4 rfl (lv_at hl 1 rfl) ?_
  refine lv_bipush (v := 8) hF.1 hF.2.1 dX3_meetingsOf_5 (by decide) ?_
  refine lv_imul hF.1 hF.2.1 dX3_meetingsOf_7 ?_
  refine lv_iload_n hF.1 hF.2.1 dX3_meetingsOf_8 rfl (lv_at hl 2 rfl) ?_
  refine lv_iadd hF.1 hF.2.1 dX3_meetingsOf_9 ?_
  refine q_iald (v := u.2.1 305 ((x * 8) + y : Int32).toNatClampNeg) hF hU dX3_meetingsOf_10 20 305 rfl rfl (g_X3_meetingsOf_v0 u x y hx hy hz8 hz9 hz10 hz12) rfl ?_
  exact q_iret hF hr rfl hlocks hU hS dX3_meetingsOf_11 ⟨rfl, trivial⟩
set_option maxRecDepth 100000 in
theorem g_X3_hasLean_v0 (u : qS) (x : Int32) (hx : 0 ≤ x ∧ x < u.1 9) (hz8 : 0 ≤ u.1 8 ∧ u.1 8 ≤ 20) (hz9 : 0 ≤ u.1 9 ∧ u.1 9 ≤ 8) (hz10 : 0 ≤ u.1 10 ∧ u.1 10 ≤ 120) (hz12 : 0 ≤ u.1 12 ∧ u.1 12 ≤ 16) : vp_in (x) 8 := by
  refine g_in ?_ ?_ <;> ((try simp only [g_m1, Int32.lt_iff_toInt_lt, Int32.le_iff_toInt_le, ← Int32.toInt_inj, Int32.toInt_add, Int32.toInt_sub, Int32.toInt_mul, Int32.toInt_neg, Int32.reduceToInt, g_bm, g_bm'] at *); omega)
set_option maxRecDepth 100000 in
theorem g_X3_hasLean_v1 (u : qS) (x : Int32) (hx : 0 ≤ x ∧ x < u.1 9) (hz8 : 0 ≤ u.1 8 ∧ u.1 8 ≤ 20) (hz9 : 0 ≤ u.1 9 ∧ u.1 9 ≤ 8) (hz10 : 0 ≤ u.1 10 ∧ u.1 10 ≤ 120) (hz12 : 0 ≤ u.1 12 ∧ u.1 12 ≤ 16) (c7_1 : (u.2.1 304 (x : Int32).toNatClampNeg : Int32) < 2) : (0 : Int32) = 1 ∨ (0 : Int32) = 0 := by
  first | omega | ((try simp only [g_m1, Int32.lt_iff_toInt_lt, Int32.le_iff_toInt_le, ← Int32.toInt_inj, Int32.reduceToInt] at *); omega) | ((try simp only [g_m1, Int32.lt_iff_toInt_lt, Int32.le_iff_toInt_le, ← Int32.toInt_inj, Int32.reduceToInt] at *); omega) | ((try simp only [g_m1, Int32.lt_iff_toInt_lt, Int32.le_iff_toInt_le, ← Int32.toInt_inj, Int32.toInt_add, Int32.toInt_sub, Int32.toInt_mul, Int32.toInt_neg, Int32.reduceToInt, g_bm, g_bm'] at *); omega) | (have qr1 := g_rng x; (try simp only [g_m1, Int32.lt_iff_toInt_lt, Int32.le_iff_toInt_le, ← Int32.toInt_inj, Int32.toInt_add, Int32.toInt_sub, Int32.toInt_mul, Int32.toInt_neg, Int32.reduceToInt, g_bm, g_bm'] at *); omega) | (simp only [g_m1, Int32.lt_iff_toInt_lt, Int32.le_iff_toInt_le, ← Int32.toInt_inj, Int32.toInt_add, Int32.toInt_sub, Int32.toInt_mul, Int32.toInt_neg, Int32.reduceToInt, g_bm, g_bm'] at *; simp at *; omega) | (simp_all; done)
set_option maxRecDepth 100000 in
theorem g_X3_hasLean_v2 (u : qS) (x : Int32) (hx : 0 ≤ x ∧ x < u.1 9) (hz8 : 0 ≤ u.1 8 ∧ u.1 8 ≤ 20) (hz9 : 0 ≤ u.1 9 ∧ u.1 9 ≤ 8) (hz10 : 0 ≤ u.1 10 ∧ u.1 10 ≤ 120) (hz12 : 0 ≤ u.1 12 ∧ u.1 12 ≤ 16) (c7_1 : ¬ (u.2.1 304 (x : Int32).toNatClampNeg : Int32) < 2) : (1 : Int32) = 1 ∨ (1 : Int32) = 0 := by
  first | omega | ((try simp only [g_m1, Int32.lt_iff_toInt_lt, Int32.le_iff_toInt_le, ← Int32.toInt_inj, Int32.reduceToInt] at *); omega) | ((try simp only [g_m1, Int32.lt_iff_toInt_lt, Int32.le_iff_toInt_le, ← Int32.toInt_inj, Int32.reduceToInt] at *); omega) | ((try simp only [g_m1, Int32.lt_iff_toInt_lt, Int32.le_iff_toInt_le, ← Int32.toInt_inj, Int32.toInt_add, Int32.toInt_sub, Int32.toInt_mul, Int32.toInt_neg, Int32.reduceToInt, g_bm, g_bm'] at *); omega) | (have qr1 := g_rng x; (try simp only [g_m1, Int32.lt_iff_toInt_lt, Int32.le_iff_toInt_le, ← Int32.toInt_inj, Int32.toInt_add, Int32.toInt_sub, Int32.toInt_mul, Int32.toInt_neg, Int32.reduceToInt, g_bm, g_bm'] at *); omega) | (simp only [g_m1, Int32.lt_iff_toInt_lt, Int32.le_iff_toInt_le, ← Int32.toInt_inj, Int32.toInt_add, Int32.toInt_sub, Int32.toInt_mul, Int32.toInt_neg, Int32.reduceToInt, g_bm, g_bm'] at *; simp at *; omega) | (simp_all; done)
set_option maxHeartbeats 1000000 in
set_option maxRecDepth 100000 in
theorem g_X3_hasLean (l : Launch) (E : qE) (A : Nat → Prop) (u : qS) (x : Int32) (hI : IC E u) (hx : 0 ≤ x ∧ x < u.1 9) : Met l yX3_hasLean (uws yX3_hasLean cX3_hasLean 2 (some .boolean)) (qR 0 0 0) (qPc E A 0 u [.ref (E.2.2 399), .int x]) (qQi E A 0 (fun r u1 => u1 = u ∧ (r = 1 ∨ r = 0))) 0 0 A := by
  refine q_met (own := RX3) (f := 0) [.ref (E.2.2 399), .int x] (by decide) (Nat.le_of_ble_eq_true rfl) rfl ?_
  intro p0 e0 s0 m0 bl0 me0 cd0 ls hF hr hlocks hU hS hA hl
  have hl : lv_has ls 2 [(0, .ref (E.2.2 399)), (1, .int x)] := hl
  have hz8 : 0 ≤ u.1 8 ∧ u.1 8 ≤ 20 := hI.1.s8
  have hz9 : 0 ≤ u.1 9 ∧ u.1 9 ≤ 8 := hI.1.s9
  have hz10 : 0 ≤ u.1 10 ∧ u.1 10 ≤ 120 := hI.1.s10
  have hz12 : 0 ≤ u.1 12 ∧ u.1 12 ≤ 16 := hI.1.s12
  refine lv_aload_n hF.1 hF.2.1 dX3_hasLean_0 rfl (lv_at hl 0 rfl) ?_
  refine q_get (v := .ref (E.2.2 304)) hF hU dX3_hasLean_1 6 3 4 304 399 rfl rfl rfl rfl inX3 (by decide) (by decide) w_381 rfl rfl ?_
  refine lv_iload_n hF.1 hF.2.1 dX3_hasLean_4 rfl (lv_at hl 1 rfl) ?_
  refine q_iald (v := u.2.1 304 (x : Int32).toNatClampNeg) hF hU dX3_hasLean_5 19 304 rfl rfl (g_X3_hasLean_v0 u x hx hz8 hz9 hz10 hz12) rfl ?_
  refine lv_iconst (v := 2) hF.1 hF.2.1 dX3_hasLean_6 (by decide) ?_
  refine lv_icmp_lt (tgt := 14) hF.1 hF.2.1 dX3_hasLean_7 (by decide) (fun c7_1 => ?_) (fun c7_1 => ?_)
  · refine lv_iconst (v := 0) hF.1 hF.2.1 dX3_hasLean_14 (by decide) ?_
    exact q_iret hF hr (by decide) hlocks hU hS dX3_hasLean_15 ⟨rfl, (g_X3_hasLean_v1 u x hx hz8 hz9 hz10 hz12 c7_1)⟩
  · refine lv_iconst (v := 1) hF.1 hF.2.1 dX3_hasLean_10 (by decide) ?_
    refine lv_goto (tgt := 15) hF.1 hF.2.1 dX3_hasLean_11 (by decide) ?_
    exact q_iret hF hr (by decide) hlocks hU hS dX3_hasLean_15 ⟨rfl, (g_X3_hasLean_v2 u x hx hz8 hz9 hz10 hz12 c7_1)⟩
set_option maxRecDepth 100000 in
theorem g_X3_leanOf_v0 (u : qS) (x : Int32) (hx : 0 ≤ x ∧ x < u.1 9) (hz8 : 0 ≤ u.1 8 ∧ u.1 8 ≤ 20) (hz9 : 0 ≤ u.1 9 ∧ u.1 9 ≤ 8) (hz10 : 0 ≤ u.1 10 ∧ u.1 10 ≤ 120) (hz12 : 0 ≤ u.1 12 ∧ u.1 12 ≤ 16) : vp_in (x) 8 := by
  refine g_in ?_ ?_ <;> ((try simp only [g_m1, Int32.lt_iff_toInt_lt, Int32.le_iff_toInt_le, ← Int32.toInt_inj, Int32.toInt_add, Int32.toInt_sub, Int32.toInt_mul, Int32.toInt_neg, Int32.reduceToInt, g_bm, g_bm'] at *); omega)
set_option maxRecDepth 100000 in
theorem g_X3_leanOf_v1 (u : qS) (x : Int32) (hx : 0 ≤ x ∧ x < u.1 9) (hz8 : 0 ≤ u.1 8 ∧ u.1 8 ≤ 20) (hz9 : 0 ≤ u.1 9 ∧ u.1 9 ≤ 8) (hz10 : 0 ≤ u.1 10 ∧ u.1 10 ≤ 120) (hz12 : 0 ≤ u.1 12 ∧ u.1 12 ≤ 16) (c7_1 : ¬ (u.2.1 304 (x : Int32).toNatClampNeg : Int32) < 2) : vp_in (x) 8 := by
  refine g_in ?_ ?_ <;> ((try simp only [g_m1, Int32.lt_iff_toInt_lt, Int32.le_iff_toInt_le, ← Int32.toInt_inj, Int32.toInt_add, Int32.toInt_sub, Int32.toInt_mul, Int32.toInt_neg, Int32.reduceToInt, g_bm, g_bm'] at *); omega)
set_option maxRecDepth 100000 in
theorem g_X3_leanOf_v2 (u : qS) (x : Int32) (hx : 0 ≤ x ∧ x < u.1 9) (hz8 : 0 ≤ u.1 8 ∧ u.1 8 ≤ 20) (hz9 : 0 ≤ u.1 9 ∧ u.1 9 ≤ 8) (hz10 : 0 ≤ u.1 10 ∧ u.1 10 ≤ 120) (hz12 : 0 ≤ u.1 12 ∧ u.1 12 ≤ 16) (c7_1 : ¬ (u.2.1 304 (x : Int32).toNatClampNeg : Int32) < 2) : vp_in (x) 8 := by
  refine g_in ?_ ?_ <;> ((try simp only [g_m1, Int32.lt_iff_toInt_lt, Int32.le_iff_toInt_le, ← Int32.toInt_inj, Int32.toInt_add, Int32.toInt_sub, Int32.toInt_mul, Int32.toInt_neg, Int32.reduceToInt, g_bm, g_bm'] at *); omega)
set_option maxRecDepth 100000 in
theorem g_X3_leanOf_v3 (u : qS) (x : Int32) (hx : 0 ≤ x ∧ x < u.1 9) (hz8 : 0 ≤ u.1 8 ∧ u.1 8 ≤ 20) (hz9 : 0 ≤ u.1 9 ∧ u.1 9 ≤ 8) (hz10 : 0 ≤ u.1 10 ∧ u.1 10 ≤ 120) (hz12 : 0 ≤ u.1 12 ∧ u.1 12 ≤ 16) (c7_1 : ¬ (u.2.1 304 (x : Int32).toNatClampNeg : Int32) < 2) : ¬ (u.2.1 304 (x : Int32).toNatClampNeg) = 0 := by
  first | omega | ((try simp only [g_m1, Int32.lt_iff_toInt_lt, Int32.le_iff_toInt_le, ← Int32.toInt_inj, Int32.reduceToInt] at *); omega) | ((try simp only [g_m1, Int32.lt_iff_toInt_lt, Int32.le_iff_toInt_le, ← Int32.toInt_inj, Int32.reduceToInt] at *); omega) | ((try simp only [g_m1, Int32.lt_iff_toInt_lt, Int32.le_iff_toInt_le, ← Int32.toInt_inj, Int32.toInt_add, Int32.toInt_sub, Int32.toInt_mul, Int32.toInt_neg, Int32.reduceToInt, g_bm, g_bm'] at *); omega) | (have qr1 := g_rng x; (try simp only [g_m1, Int32.lt_iff_toInt_lt, Int32.le_iff_toInt_le, ← Int32.toInt_inj, Int32.toInt_add, Int32.toInt_sub, Int32.toInt_mul, Int32.toInt_neg, Int32.reduceToInt, g_bm, g_bm'] at *); omega) | (simp only [g_m1, Int32.lt_iff_toInt_lt, Int32.le_iff_toInt_le, ← Int32.toInt_inj, Int32.toInt_add, Int32.toInt_sub, Int32.toInt_mul, Int32.toInt_neg, Int32.reduceToInt, g_bm, g_bm'] at *; simp at *; omega) | (simp_all; done)
set_option maxHeartbeats 1000000 in
set_option maxRecDepth 100000 in
theorem g_X3_leanOf (l : Launch) (E : qE) (A : Nat → Prop) (u : qS) (x : Int32) (hI : IC E u) (hx : 0 ≤ x ∧ x < u.1 9) : Met l yX3_leanOf (uws yX3_leanOf cX3_leanOf 2 (some .int)) (qR 0 0 0) (qPc E A 0 u [.ref (E.2.2 399), .int x]) (qQi E A 0 (fun r u1 => u1 = u ∧ (True))) 0 0 A := by
  refine q_met (own := RX3) (f := 0) [.ref (E.2.2 399), .int x] (by decide) (Nat.le_of_ble_eq_true rfl) rfl ?_
  intro p0 e0 s0 m0 bl0 me0 cd0 ls hF hr hlocks hU hS hA hl
  have hl : lv_has ls 2 [(0, .ref (E.2.2 399)), (1, .int x)] := hl
  have hz8 : 0 ≤ u.1 8 ∧ u.1 8 ≤ 20 := hI.1.s8
  have hz9 : 0 ≤ u.1 9 ∧ u.1 9 ≤ 8 := hI.1.s9
  have hz10 : 0 ≤ u.1 10 ∧ u.1 10 ≤ 120 := hI.1.s10
  have hz12 : 0 ≤ u.1 12 ∧ u.1 12 ≤ 16 := hI.1.s12
  refine lv_aload_n hF.1 hF.2.1 dX3_leanOf_0 rfl (lv_at hl 0 rfl) ?_
  refine q_get (v := .ref (E.2.2 304)) hF hU dX3_leanOf_1 6 3 4 304 399 rfl rfl rfl rfl inX3 (by decide) (by decide) w_381 rfl rfl ?_
  refine lv_iload_n hF.1 hF.2.1 dX3_leanOf_4 rfl (lv_at hl 1 rfl) ?_
  refine q_iald (v := u.2.1 304 (x : Int32).toNatClampNeg) hF hU dX3_leanOf_5 19 304 rfl rfl (g_X3_leanOf_v0 u x hx hz8 hz9 hz10 hz12) rfl ?_
  refine lv_iconst (v := 2) hF.1 hF.2.1 dX3_leanOf_6 (by decide) ?_
  refine lv_icmp_lt (tgt := 26) hF.1 hF.2.1 dX3_leanOf_7 (by decide) (fun c7_1 => ?_) (fun c7_1 => ?_)
  · refine lv_iconst (v := 0) hF.1 hF.2.1 dX3_leanOf_26 (by decide) ?_
    exact q_iret hF hr rfl hlocks hU hS dX3_leanOf_27 ⟨rfl, trivial⟩
  · refine lv_aload_n hF.1 hF.2.1 dX3_leanOf_10 rfl (lv_at hl 0 rfl) ?_
    refine q_get (v := .ref (E.2.2 303)) hF hU dX3_leanOf_11 6 3 3 303 399 rfl rfl rfl rfl inX3 (by decide) (by decide) w_380 rfl rfl ?_
    refine lv_iload_n hF.1 hF.2.1 dX3_leanOf_14 rfl (lv_at hl 1 rfl) ?_
    refine q_iald (v := u.2.1 303 (x : Int32).toNatClampNeg) hF hU dX3_leanOf_15 18 303 rfl rfl (g_X3_leanOf_v1 u x hx hz8 hz9 hz10 hz12 c7_1) rfl ?_
    refine lv_aload_n hF.1 hF.2.1 dX3_leanOf_16 rfl (lv_at hl 0 rfl) ?_
    refine q_get (v := .ref (E.2.2 304)) hF hU dX3_leanOf_17 6 3 4 304 399 rfl rfl rfl rfl inX3 (by decide) (by decide) w_381 rfl rfl ?_
    refine lv_iload_n hF.1 hF.2.1 dX3_leanOf_20 rfl (lv_at hl 1 rfl) ?_
    refine q_iald (v := u.2.1 304 (x : Int32).toNatClampNeg) hF hU dX3_leanOf_21 19 304 rfl rfl (g_X3_leanOf_v2 u x hx hz8 hz9 hz10 hz12 c7_1) rfl ?_
    refine lv_idiv hF.1 hF.2.1 dX3_leanOf_22 (g_X3_leanOf_v3 u x hx hz8 hz9 hz10 hz12 c7_1) ?_
    refine lv_goto (tgt := 27) hF.1 hF.2.1 dX3_leanOf_23 (by decide) ?_
    exact q_iret hF hr rfl hlocks hU hS dX3_leanOf_27 ⟨rfl, trivial⟩
set_option maxRecDepth 100000 in
theorem g_X3_fairScore_v0 (u : qS) (v : Nat) (hz8 : 0 ≤ u.1 8 ∧ u.1 8 ≤ 20) (hz9 : 0 ≤ u.1 9 ∧ u.1 9 ≤ 8) (hz10 : 0 ≤ u.1 10 ∧ u.1 10 ≤ 120) (hz12 : 0 ≤ u.1 12 ∧ u.1 12 ≤ 16) (hb_11 : 0 ≤ qfd u.2.2.2.2 v 3 ∧ qfd u.2.2.2.2 v 3 < (u.1 9)) : 0 ≤ (qfd u.2.2.2.2 v 3) ∧ (qfd u.2.2.2.2 v 3) < (u.1 9 : Int32) := by
  first | omega | ((try simp only [g_m1, Int32.lt_iff_toInt_lt, Int32.le_iff_toInt_le, ← Int32.toInt_inj, Int32.reduceToInt] at *); omega) | ((try simp only [g_m1, Int32.lt_iff_toInt_lt, Int32.le_iff_toInt_le, ← Int32.toInt_inj, Int32.reduceToInt] at *); omega) | ((try simp only [g_m1, Int32.lt_iff_toInt_lt, Int32.le_iff_toInt_le, ← Int32.toInt_inj, Int32.toInt_add, Int32.toInt_sub, Int32.toInt_mul, Int32.toInt_neg, Int32.reduceToInt, g_bm, g_bm'] at *); omega) | ((try simp only [g_m1, Int32.lt_iff_toInt_lt, Int32.le_iff_toInt_le, ← Int32.toInt_inj, Int32.toInt_add, Int32.toInt_sub, Int32.toInt_mul, Int32.toInt_neg, Int32.reduceToInt, g_bm, g_bm'] at *); omega) | (simp only [g_m1, Int32.lt_iff_toInt_lt, Int32.le_iff_toInt_le, ← Int32.toInt_inj, Int32.toInt_add, Int32.toInt_sub, Int32.toInt_mul, Int32.toInt_neg, Int32.reduceToInt, g_bm, g_bm'] at *; simp at *; omega) | (simp_all; done)
set_option maxHeartbeats 1000000 in
set_option maxRecDepth 100000 in
theorem g_X3_fairScore (l : Launch) (E : qE) (A : Nat → Prop) (u : qS) (v : Nat) (hI : IC E u) (hv : qRf u v 10) : Met l yX3_fairScore (uws yX3_fairScore cX3_fairScore 2 (some .int)) (qR 1 0 0) (qPc E A 0 u [.ref (E.2.2 399), .ref v]) (qQi E A 0 (fun r u1 => u1 = u ∧ (True))) 0 0 A := by
  refine q_met (own := RX3) (f := 1) [.ref (E.2.2 399), .ref v] (by decide) (Nat.le_of_ble_eq_true rfl) rfl ?_
  intro p0 e0 s0 m0 bl0 me0 cd0 ls hF hr hlocks hU hS hA hl
  have hl : lv_has ls 2 [(0, .ref (E.2.2 399)), (1, .ref v)] := hl
  have hz8 : 0 ≤ u.1 8 ∧ u.1 8 ≤ 20 := hI.1.s8
  have hz9 : 0 ≤ u.1 9 ∧ u.1 9 ≤ 8 := hI.1.s9
  have hz10 : 0 ≤ u.1 10 ∧ u.1 10 ≤ 120 := hI.1.s10
  have hz12 : 0 ≤ u.1 12 ∧ u.1 12 ≤ 16 := hI.1.s12
  refine lv_aload_n hF.1 hF.2.1 dX3_fairScore_0 rfl (lv_at hl 1 rfl) ?_
  obtain ⟨k_1, fs_2, hd_4, hv_5, hv_5_2, hv_5_3, -⟩ := hI.vf hv 11 (by decide)
  refine q_getd (v := .int (qfd u.2.2.2.2 v 11)) hF hU dX3_fairScore_1 k_1 10 11 hd_4 rfl inX10 (by decide) w_625 rfl hv_5 ?_
  refine lv_aload_n hF.1 hF.2.1 dX3_fairScore_4 rfl (lv_at hl 0 rfl) ?_
  refine lv_aload_n hF.1 hF.2.1 dX3_fairScore_5 rfl (lv_at hl 1 rfl) ?_
  obtain ⟨k_6, fs_7, hd_9, hv_10, hv_10_2, hv_10_3, -⟩ := hI.vf hv 3 (by decide)
  refine q_getd (v := .int (qfd u.2.2.2.2 v 3)) hF hU dX3_fairScore_6 k_6 10 3 hd_9 rfl inX10 (by decide) w_597 rfl hv_10 ?_
  have hb_11 : 0 ≤ qfd u.2.2.2.2 v 3 ∧ qfd u.2.2.2.2 v 3 < (u.1 9) := hv_10_3 rfl
  have hM9 := g_X3_leanOf l E A u (qfd u.2.2.2.2 v 3) hI (g_X3_fairScore_v0 u v hz8 hz9 hz10 hz12 hb_11)
  have hR9 := q_runV (l := l) (e := e0) (below := bl0) (meth := me0) (R := qR 1 0 0) (cells := 0) (slots := 0) (st0 := [.int (qfd u.2.2.2.2 v 3), .ref (E.2.2 399), .int (qfd u.2.2.2.2 v 11)]) (rest := [.int (qfd u.2.2.2.2 v 11)]) hF hU hS hA 1 6 3 399 rfl rfl rfl hM9 w_1029 w_1030 w_1031 w_105 w_1032 (by decide +kernel) ⟨Nat.le_of_ble_eq_true rfl, Nat.le_of_ble_eq_true rfl⟩ dX3_fairScore_9 rfl hl.1 rfl (Nat.le_of_ble_eq_true rfl) ⟨Nat.le_of_ble_eq_true rfl, Nat.le_of_ble_eq_true rfl⟩
  refine q_calli hR9 hU.2.2.2 hS (fun r_14 u_12 H locs hw_13 hU hS => ?_)
  obtain ⟨hw_13_e, hw_13⟩ := hw_13
  rw [hw_13_e] at hU
  refine lv_isub hF.1 hF.2.1 dX3_fairScore_12 ?_
  exact q_iret hF hr rfl hlocks hU hS dX3_fairScore_13 ⟨rfl, trivial⟩
set_option maxRecDepth 100000 in
theorem g_X3_isMet_v0 (u : qS) (x : Int32) (hx : 0 ≤ x ∧ x < u.1 8) (hz8 : 0 ≤ u.1 8 ∧ u.1 8 ≤ 20) (hz9 : 0 ≤ u.1 9 ∧ u.1 9 ≤ 8) (hz10 : 0 ≤ u.1 10 ∧ u.1 10 ≤ 120) (hz12 : 0 ≤ u.1 12 ∧ u.1 12 ≤ 16) : vp_in (x) 20 := by
  refine g_in ?_ ?_ <;> ((try simp only [g_m1, Int32.lt_iff_toInt_lt, Int32.le_iff_toInt_le, ← Int32.toInt_inj, Int32.toInt_add, Int32.toInt_sub, Int32.toInt_mul, Int32.toInt_neg, Int32.reduceToInt, g_bm, g_bm'] at *); omega)
set_option maxRecDepth 100000 in
theorem g_X3_isMet_v1 (u : qS) (x : Int32) (hx : 0 ≤ x ∧ x < u.1 8) (hz8 : 0 ≤ u.1 8 ∧ u.1 8 ≤ 20) (hz9 : 0 ≤ u.1 9 ∧ u.1 9 ≤ 8) (hz10 : 0 ≤ u.1 10 ∧ u.1 10 ≤ 120) (hz12 : 0 ≤ u.1 12 ∧ u.1 12 ≤ 16) (c6_1 : (u.2.1 307 (x : Int32).toNatClampNeg : Int32) ≤ 0) : (0 : Int32) = 1 ∨ (0 : Int32) = 0 := by
  first | omega | ((try simp only [g_m1, Int32.lt_iff_toInt_lt, Int32.le_iff_toInt_le, ← Int32.toInt_inj, Int32.reduceToInt] at *); omega) | ((try simp only [g_m1, Int32.lt_iff_toInt_lt, Int32.le_iff_toInt_le, ← Int32.toInt_inj, Int32.reduceToInt] at *); omega) | ((try simp only [g_m1, Int32.lt_iff_toInt_lt, Int32.le_iff_toInt_le, ← Int32.toInt_inj, Int32.toInt_add, Int32.toInt_sub, Int32.toInt_mul, Int32.toInt_neg, Int32.reduceToInt, g_bm, g_bm'] at *); omega) | (have qr1 := g_rng x; (try simp only [g_m1, Int32.lt_iff_toInt_lt, Int32.le_iff_toInt_le, ← Int32.toInt_inj, Int32.toInt_add, Int32.toInt_sub, Int32.toInt_mul, Int32.toInt_neg, Int32.reduceToInt, g_bm, g_bm'] at *); omega) | (simp only [g_m1, Int32.lt_iff_toInt_lt, Int32.le_iff_toInt_le, ← Int32.toInt_inj, Int32.toInt_add, Int32.toInt_sub, Int32.toInt_mul, Int32.toInt_neg, Int32.reduceToInt, g_bm, g_bm'] at *; simp at *; omega) | (simp_all; done)
set_option maxRecDepth 100000 in
theorem g_X3_isMet_v2 (u : qS) (x : Int32) (hx : 0 ≤ x ∧ x < u.1 8) (hz8 : 0 ≤ u.1 8 ∧ u.1 8 ≤ 20) (hz9 : 0 ≤ u.1 9 ∧ u.1 9 ≤ 8) (hz10 : 0 ≤ u.1 10 ∧ u.1 10 ≤ 120) (hz12 : 0 ≤ u.1 12 ∧ u.1 12 ≤ 16) (c6_1 : ¬ (u.2.1 307 (x : Int32).toNatClampNeg : Int32) ≤ 0) : (1 : Int32) = 1 ∨ (1 : Int32) = 0 := by
  first | omega | ((try simp only [g_m1, Int32.lt_iff_toInt_lt, Int32.le_iff_toInt_le, ← Int32.toInt_inj, Int32.reduceToInt] at *); omega) | ((try simp only [g_m1, Int32.lt_iff_toInt_lt, Int32.le_iff_toInt_le, ← Int32.toInt_inj, Int32.reduceToInt] at *); omega) | ((try simp only [g_m1, Int32.lt_iff_toInt_lt, Int32.le_iff_toInt_le, ← Int32.toInt_inj, Int32.toInt_add, Int32.toInt_sub, Int32.toInt_mul, Int32.toInt_neg, Int32.reduceToInt, g_bm, g_bm'] at *); omega) | (have qr1 := g_rng x; (try simp only [g_m1, Int32.lt_iff_toInt_lt, Int32.le_iff_toInt_le, ← Int32.toInt_inj, Int32.toInt_add, Int32.toInt_sub, Int32.toInt_mul, Int32.toInt_neg, Int32.reduceToInt, g_bm, g_bm'] at *); omega) | (simp only [g_m1, Int32.lt_iff_toInt_lt, Int32.le_iff_toInt_le, ← Int32.toInt_inj, Int32.toInt_add, Int32.toInt_sub, Int32.toInt_mul, Int32.toInt_neg, Int32.reduceToInt, g_bm, g_bm'] at *; simp at *; omega) | (simp_all; done)
set_option maxHeartbeats 1000000 in
set_option maxRecDepth 100000 in
theorem g_X3_isMet (l : Launch) (E : qE) (A : Nat → Prop) (u : qS) (x : Int32) (hI : IC E u) (hx : 0 ≤ x ∧ x < u.1 8) : Met l yX3_isMet (uws yX3_isMet cX3_isMet 2 (some .boolean)) (qR 0 0 0) (qPc E A 0 u [.ref (E.2.2 399), .int x]) (qQi E A 0 (fun r u1 => u1 = u ∧ (r = 1 ∨ r = 0))) 0 0 A := by
  refine q_met (own := RX3) (f := 0) [.ref (E.2.2 399), .int x] (by decide) (Nat.le_of_ble_eq_true rfl) rfl ?_
  intro p0 e0 s0 m0 bl0 me0 cd0 ls hF hr hlocks hU hS hA hl
  have hl : lv_has ls 2 [(0, .ref (E.2.2 399)), (1, .int x)] := hl
  have hz8 : 0 ≤ u.1 8 ∧ u.1 8 ≤ 20 := hI.1.s8
  have hz9 : 0 ≤ u.1 9 ∧ u.1 9 ≤ 8 := hI.1.s9
  have hz10 : 0 ≤ u.1 10 ∧ u.1 10 ≤ 120 := hI.1.s10
  have hz12 : 0 ≤ u.1 12 ∧ u.1 12 ≤ 16 := hI.1.s12
  refine lv_aload_n hF.1 hF.2.1 dX3_isMet_0 rfl (lv_at hl 0 rfl) ?_
  refine q_get (v := .ref (E.2.2 307)) hF hU dX3_isMet_1 6 3 7 307 399 rfl rfl rfl rfl inX3 (by decide) (by decide) w_384 rfl rfl ?_
  refine lv_iload_n hF.1 hF.2.1 dX3_isMet_4 rfl (lv_at hl 1 rfl) ?_
  refine q_iald (v := u.2.1 307 (x : Int32).toNatClampNeg) hF hU dX3_isMet_5 22 307 rfl rfl (g_X3_isMet_v0 u x hx hz8 hz9 hz10 hz12) rfl ?_
  refine lv_if_le (tgt := 13) hF.1 hF.2.1 dX3_isMet_6 (by decide) (fun c6_1 => ?_) (fun c6_1 => ?_)
  · refine lv_iconst (v := 0) hF.1 hF.2.1 dX3_isMet_13 (by decide) ?_
    exact q_iret hF hr (by decide) hlocks hU hS dX3_isMet_14 ⟨rfl, (g_X3_isMet_v1 u x hx hz8 hz9 hz10 hz12 c6_1)⟩
  · refine lv_iconst (v := 1) hF.1 hF.2.1 dX3_isMet_9 (by decide) ?_
    refine lv_goto (tgt := 14) hF.1 hF.2.1 dX3_isMet_10 (by decide) ?_
    exact q_iret hF hr (by decide) hlocks hU hS dX3_isMet_14 ⟨rfl, (g_X3_isMet_v2 u x hx hz8 hz9 hz10 hz12 c6_1)⟩
set_option maxRecDepth 100000 in
theorem g_X3_meanOf_v0 (u : qS) (x : Int32) (hx : 0 ≤ x ∧ x < u.1 8) (hz8 : 0 ≤ u.1 8 ∧ u.1 8 ≤ 20) (hz9 : 0 ≤ u.1 9 ∧ u.1 9 ≤ 8) (hz10 : 0 ≤ u.1 10 ∧ u.1 10 ≤ 120) (hz12 : 0 ≤ u.1 12 ∧ u.1 12 ≤ 16) : vp_in (x) 20 := by
  refine g_in ?_ ?_ <;> ((try simp only [g_m1, Int32.lt_iff_toInt_lt, Int32.le_iff_toInt_le, ← Int32.toInt_inj, Int32.toInt_add, Int32.toInt_sub, Int32.toInt_mul, Int32.toInt_neg, Int32.reduceToInt, g_bm, g_bm'] at *); omega)
set_option maxRecDepth 100000 in
theorem g_X3_meanOf_v1 (u : qS) (x : Int32) (hx : 0 ≤ x ∧ x < u.1 8) (hz8 : 0 ≤ u.1 8 ∧ u.1 8 ≤ 20) (hz9 : 0 ≤ u.1 9 ∧ u.1 9 ≤ 8) (hz10 : 0 ≤ u.1 10 ∧ u.1 10 ≤ 120) (hz12 : 0 ≤ u.1 12 ∧ u.1 12 ≤ 16) (c6_1 : ¬ (u.2.1 307 (x : Int32).toNatClampNeg : Int32) ≤ 0) : vp_in (x) 20 := by
  refine g_in ?_ ?_ <;> ((try simp only [g_m1, Int32.lt_iff_toInt_lt, Int32.le_iff_toInt_le, ← Int32.toInt_inj, Int32.toInt_add, Int32.toInt_sub, Int32.toInt_mul, Int32.toInt_neg, Int32.reduceToInt, g_bm, g_bm'] at *); omega)
set_option maxRecDepth 100000 in
theorem g_X3_meanOf_v2 (u : qS) (x : Int32) (hx : 0 ≤ x ∧ x < u.1 8) (hz8 : 0 ≤ u.1 8 ∧ u.1 8 ≤ 20) (hz9 : 0 ≤ u.1 9 ∧ u.1 9 ≤ 8) (hz10 : 0 ≤ u.1 10 ∧ u.1 10 ≤ 120) (hz12 : 0 ≤ u.1 12 ∧ u.1 12 ≤ 16) (c6_1 : ¬ (u.2.1 307 (x : Int32).toNatClampNeg : Int32) ≤ 0) : vp_in (x) 20 := by
  refine g_in ?_ ?_ <;> ((try simp only [g_m1, Int32.lt_iff_toInt_lt, Int32.le_iff_toInt_le, ← Int32.toInt_inj, Int32.toInt_add, Int32.toInt_sub, Int32.toInt_mul, Int32.toInt_neg, Int32.reduceToInt, g_bm, g_bm'] at *); omega)
set_option maxRecDepth 100000 in
theorem g_X3_meanOf_v3 (u : qS) (x : Int32) (hx : 0 ≤ x ∧ x < u.1 8) (hz8 : 0 ≤ u.1 8 ∧ u.1 8 ≤ 20) (hz9 : 0 ≤ u.1 9 ∧ u.1 9 ≤ 8) (hz10 : 0 ≤ u.1 10 ∧ u.1 10 ≤ 120) (hz12 : 0 ≤ u.1 12 ∧ u.1 12 ≤ 16) (c6_1 : ¬ (u.2.1 307 (x : Int32).toNatClampNeg : Int32) ≤ 0) : ¬ (u.2.1 307 (x : Int32).toNatClampNeg) = 0 := by
  first | omega | ((try simp only [g_m1, Int32.lt_iff_toInt_lt, Int32.le_iff_toInt_le, ← Int32.toInt_inj, Int32.reduceToInt] at *); omega) | ((try simp only [g_m1, Int32.lt_iff_toInt_lt, Int32.le_iff_toInt_le, ← Int32.toInt_inj, Int32.reduceToInt] at *); omega) | ((try simp only [g_m1, Int32.lt_iff_toInt_lt, Int32.le_iff_toInt_le, ← Int32.toInt_inj, Int32.toInt_add, Int32.toInt_sub, Int32.toInt_mul, Int32.toInt_neg, Int32.reduceToInt, g_bm, g_bm'] at *); omega) | (have qr1 := g_rng x; (try simp only [g_m1, Int32.lt_iff_toInt_lt, Int32.le_iff_toInt_le, ← Int32.toInt_inj, Int32.toInt_add, Int32.toInt_sub, Int32.toInt_mul, Int32.toInt_neg, Int32.reduceToInt, g_bm, g_bm'] at *); omega) | (simp only [g_m1, Int32.lt_iff_toInt_lt, Int32.le_iff_toInt_le, ← Int32.toInt_inj, Int32.toInt_add, Int32.toInt_sub, Int32.toInt_mul, Int32.toInt_neg, Int32.reduceToInt, g_bm, g_bm'] at *; simp at *; omega) | (simp_all; done)
set_option maxHeartbeats 1000000 in
set_option maxRecDepth 100000 in
theorem g_X3_meanOf (l : Launch) (E : qE) (A : Nat → Prop) (u : qS) (x : Int32) (hI : IC E u) (hx : 0 ≤ x ∧ x < u.1 8) : Met l yX3_meanOf (uws yX3_meanOf cX3_meanOf 2 (some .int)) (qR 0 0 0) (qPc E A 0 u [.ref (E.2.2 399), .int x]) (qQi E A 0 (fun r u1 => u1 = u ∧ (True))) 0 0 A := by
  refine q_met (own := RX3) (f := 0) [.ref (E.2.2 399), .int x] (by decide) (Nat.le_of_ble_eq_true rfl) rfl ?_
  intro p0 e0 s0 m0 bl0 me0 cd0 ls hF hr hlocks hU hS hA hl
  have hl : lv_has ls 2 [(0, .ref (E.2.2 399)), (1, .int x)] := hl
  have hz8 : 0 ≤ u.1 8 ∧ u.1 8 ≤ 20 := hI.1.s8
  have hz9 : 0 ≤ u.1 9 ∧ u.1 9 ≤ 8 := hI.1.s9
  have hz10 : 0 ≤ u.1 10 ∧ u.1 10 ≤ 120 := hI.1.s10
  have hz12 : 0 ≤ u.1 12 ∧ u.1 12 ≤ 16 := hI.1.s12
  refine lv_aload_n hF.1 hF.2.1 dX3_meanOf_0 rfl (lv_at hl 0 rfl) ?_
  refine q_get (v := .ref (E.2.2 307)) hF hU dX3_meanOf_1 6 3 7 307 399 rfl rfl rfl rfl inX3 (by decide) (by decide) w_384 rfl rfl ?_
  refine lv_iload_n hF.1 hF.2.1 dX3_meanOf_4 rfl (lv_at hl 1 rfl) ?_
  refine q_iald (v := u.2.1 307 (x : Int32).toNatClampNeg) hF hU dX3_meanOf_5 22 307 rfl rfl (g_X3_meanOf_v0 u x hx hz8 hz9 hz10 hz12) rfl ?_
  refine lv_if_le (tgt := 28) hF.1 hF.2.1 dX3_meanOf_6 (by decide) (fun c6_1 => ?_) (fun c6_1 => ?_)
  · refine lv_iconst (v := 0) hF.1 hF.2.1 dX3_meanOf_28 (by decide) ?_
    exact q_iret hF hr rfl hlocks hU hS dX3_meanOf_29 ⟨rfl, trivial⟩
  · refine lv_bipush (v := 100) hF.1 hF.2.1 dX3_meanOf_9 (by decide) ?_
    refine lv_aload_n hF.1 hF.2.1 dX3_meanOf_11 rfl (lv_at hl 0 rfl) ?_
    refine q_get (v := .ref (E.2.2 306)) hF hU dX3_meanOf_12 6 3 6 306 399 rfl rfl rfl rfl inX3 (by decide) (by decide) w_383 rfl rfl ?_
    refine lv_iload_n hF.1 hF.2.1 dX3_meanOf_15 rfl (lv_at hl 1 rfl) ?_
    refine q_iald (v := u.2.1 306 (x : Int32).toNatClampNeg) hF hU dX3_meanOf_16 21 306 rfl rfl (g_X3_meanOf_v1 u x hx hz8 hz9 hz10 hz12 c6_1) rfl ?_
    refine lv_imul hF.1 hF.2.1 dX3_meanOf_17 ?_
    refine lv_aload_n hF.1 hF.2.1 dX3_meanOf_18 rfl (lv_at hl 0 rfl) ?_
    refine q_get (v := .ref (E.2.2 307)) hF hU dX3_meanOf_19 6 3 7 307 399 rfl rfl rfl rfl inX3 (by decide) (by decide) w_384 rfl rfl ?_
    refine lv_iload_n hF.1 hF.2.1 dX3_meanOf_22 rfl (lv_at hl 1 rfl) ?_
    refine q_iald (v := u.2.1 307 (x : Int32).toNatClampNeg) hF hU dX3_meanOf_23 22 307 rfl rfl (g_X3_meanOf_v2 u x hx hz8 hz9 hz10 hz12 c6_1) rfl ?_
    refine lv_idiv hF.1 hF.2.1 dX3_meanOf_24 (g_X3_meanOf_v3 u x hx hz8 hz9 hz10 hz12 c6_1) ?_
    refine lv_goto (tgt := 29) hF.1 hF.2.1 dX3_meanOf_25 (by decide) ?_
    exact q_iret hF hr rfl hlocks hU hS dX3_meanOf_29 ⟨rfl, trivial⟩
set_option maxRecDepth 100000 in
theorem g_X3_doubtOf_v0 (u : qS) (x : Int32) (hx : 0 ≤ x ∧ x < u.1 8) (hz8 : 0 ≤ u.1 8 ∧ u.1 8 ≤ 20) (hz9 : 0 ≤ u.1 9 ∧ u.1 9 ≤ 8) (hz10 : 0 ≤ u.1 10 ∧ u.1 10 ≤ 120) (hz12 : 0 ≤ u.1 12 ∧ u.1 12 ≤ 16) : vp_in (x) 20 := by
  refine g_in ?_ ?_ <;> ((try simp only [g_m1, Int32.lt_iff_toInt_lt, Int32.le_iff_toInt_le, ← Int32.toInt_inj, Int32.toInt_add, Int32.toInt_sub, Int32.toInt_mul, Int32.toInt_neg, Int32.reduceToInt, g_bm, g_bm'] at *); omega)
set_option maxRecDepth 100000 in
theorem g_X3_doubtOf_v1 (u : qS) (x : Int32) (hx : 0 ≤ x ∧ x < u.1 8) (hz8 : 0 ≤ u.1 8 ∧ u.1 8 ≤ 20) (hz9 : 0 ≤ u.1 9 ∧ u.1 9 ≤ 8) (hz10 : 0 ≤ u.1 10 ∧ u.1 10 ≤ 120) (hz12 : 0 ≤ u.1 12 ∧ u.1 12 ≤ 16) (c6_1 : ¬ (u.2.1 307 (x : Int32).toNatClampNeg : Int32) ≤ 0) : vp_in (x) 20 := by
  refine g_in ?_ ?_ <;> ((try simp only [g_m1, Int32.lt_iff_toInt_lt, Int32.le_iff_toInt_le, ← Int32.toInt_inj, Int32.toInt_add, Int32.toInt_sub, Int32.toInt_mul, Int32.toInt_neg, Int32.reduceToInt, g_bm, g_bm'] at *); omega)
set_option maxRecDepth 100000 in
theorem g_X3_doubtOf_v2 (u : qS) (x : Int32) (y : Int32) (hx : 0 ≤ x ∧ x < u.1 8) (hz8 : 0 ≤ u.1 8 ∧ u.1 8 ≤ 20) (hz9 : 0 ≤ u.1 9 ∧ u.1 9 ≤ 8) (hz10 : 0 ≤ u.1 10 ∧ u.1 10 ≤ 120) (hz12 : 0 ≤ u.1 12 ∧ u.1 12 ≤ 16) (c6_1 : ¬ (u.2.1 307 (x : Int32).toNatClampNeg : Int32) ≤ 0) : ¬ (u.2.1 307 (x : Int32).toNatClampNeg) = 0 := by
  first | omega | ((try simp only [g_m1, Int32.lt_iff_toInt_lt, Int32.le_iff_toInt_le, ← Int32.toInt_inj, Int32.reduceToInt] at *); omega) | ((try simp only [g_m1, Int32.lt_iff_toInt_lt, Int32.le_iff_toInt_le, ← Int32.toInt_inj, Int32.reduceToInt] at *); omega) | ((try simp only [g_m1, Int32.lt_iff_toInt_lt, Int32.le_iff_toInt_le, ← Int32.toInt_inj, Int32.toInt_add, Int32.toInt_sub, Int32.toInt_mul, Int32.toInt_neg, Int32.reduceToInt, g_bm, g_bm'] at *); omega) | (have qr1 := g_rng x; have qr2 := g_rng y; (try simp only [g_m1, Int32.lt_iff_toInt_lt, Int32.le_iff_toInt_le, ← Int32.toInt_inj, Int32.toInt_add, Int32.toInt_sub, Int32.toInt_mul, Int32.toInt_neg, Int32.reduceToInt, g_bm, g_bm'] at *); omega) | (simp only [g_m1, Int32.lt_iff_toInt_lt, Int32.le_iff_toInt_le, ← Int32.toInt_inj, Int32.toInt_add, Int32.toInt_sub, Int32.toInt_mul, Int32.toInt_neg, Int32.reduceToInt, g_bm, g_bm'] at *; simp at *; omega) | (simp_all; done)
set_option maxHeartbeats 1000000 in
set_option maxRecDepth 100000 in
theorem g_X3_doubtOf (l : Launch) (E : qE) (A : Nat → Prop) (u : qS) (x : Int32) (y : Int32) (hI : IC E u) (hx : 0 ≤ x ∧ x < u.1 8) : Met l yX3_doubtOf (uws yX3_doubtOf cX3_doubtOf 3 (some .int)) (qR 0 0 0) (qPc E A 0 u [.ref (E.2.2 399), .int x, .int y]) (qQi E A 0 (fun r u1 => u1 = u ∧ (True))) 0 0 A := by
  refine q_met (own := RX3) (f := 0) [.ref (E.2.2 399), .int x, .int y] (by decide) (Nat.le_of_ble_eq_true rfl) rfl ?_
  intro p0 e0 s0 m0 bl0 me0 cd0 ls hF hr hlocks hU hS hA hl
  have hl : lv_has ls 3 [(0, .ref (E.2.2 399)), (1, .int x), (2, .int y)] := hl
  have hz8 : 0 ≤ u.1 8 ∧ u.1 8 ≤ 20 := hI.1.s8
  have hz9 : 0 ≤ u.1 9 ∧ u.1 9 ≤ 8 := hI.1.s9
  have hz10 : 0 ≤ u.1 10 ∧ u.1 10 ≤ 120 := hI.1.s10
  have hz12 : 0 ≤ u.1 12 ∧ u.1 12 ≤ 16 := hI.1.s12
  refine lv_aload_n hF.1 hF.2.1 dX3_doubtOf_0 rfl (lv_at hl 0 rfl) ?_
  refine q_get (v := .ref (E.2.2 307)) hF hU dX3_doubtOf_1 6 3 7 307 399 rfl rfl rfl rfl inX3 (by decide) (by decide) w_384 rfl rfl ?_
  refine lv_iload_n hF.1 hF.2.1 dX3_doubtOf_4 rfl (lv_at hl 1 rfl) ?_
  refine q_iald (v := u.2.1 307 (x : Int32).toNatClampNeg) hF hU dX3_doubtOf_5 22 307 rfl rfl (g_X3_doubtOf_v0 u x hx hz8 hz9 hz10 hz12) rfl ?_
  refine lv_if_le (tgt := 23) hF.1 hF.2.1 dX3_doubtOf_6 (by decide) (fun c6_1 => ?_) (fun c6_1 => ?_)
  · refine lv_iconst (v := 0) hF.1 hF.2.1 dX3_doubtOf_23 (by decide) ?_
    exact q_iret hF hr rfl hlocks hU hS dX3_doubtOf_24 ⟨rfl, trivial⟩
  · refine lv_bipush (v := 100) hF.1 hF.2.1 dX3_doubtOf_9 (by decide) ?_
    refine lv_iload_n hF.1 hF.2.1 dX3_doubtOf_11 rfl (lv_at hl 2 rfl) ?_
    refine lv_imul hF.1 hF.2.1 dX3_doubtOf_12 ?_
    refine lv_aload_n hF.1 hF.2.1 dX3_doubtOf_13 rfl (lv_at hl 0 rfl) ?_
    refine q_get (v := .ref (E.2.2 307)) hF hU dX3_doubtOf_14 6 3 7 307 399 rfl rfl rfl rfl inX3 (by decide) (by decide) w_384 rfl rfl ?_
    refine lv_iload_n hF.1 hF.2.1 dX3_doubtOf_17 rfl (lv_at hl 1 rfl) ?_
    refine q_iald (v := u.2.1 307 (x : Int32).toNatClampNeg) hF hU dX3_doubtOf_18 22 307 rfl rfl (g_X3_doubtOf_v1 u x hx hz8 hz9 hz10 hz12 c6_1) rfl ?_
    refine lv_idiv hF.1 hF.2.1 dX3_doubtOf_19 (g_X3_doubtOf_v2 u x y hx hz8 hz9 hz10 hz12 c6_1) ?_
    refine lv_goto (tgt := 24) hF.1 hF.2.1 dX3_doubtOf_20 (by decide) ?_
    exact q_iret hF hr rfl hlocks hU hS dX3_doubtOf_24 ⟨rfl, trivial⟩
set_option maxRecDepth 100000 in
theorem g_X3_isLess_v0 (u : qS) (x : Int32) (y : Int32) (z : Int32) (hx : 0 ≤ x ∧ x < u.1 8) (hy : 0 ≤ y ∧ y < u.1 8) (hz8 : 0 ≤ u.1 8 ∧ u.1 8 ≤ 20) (hz9 : 0 ≤ u.1 9 ∧ u.1 9 ≤ 8) (hz10 : 0 ≤ u.1 10 ∧ u.1 10 ≤ 120) (hz12 : 0 ≤ u.1 12 ∧ u.1 12 ≤ 16) : 0 ≤ y ∧ y < (u.1 8 : Int32) := by
  first | omega | ((try simp only [g_m1, Int32.lt_iff_toInt_lt, Int32.le_iff_toInt_le, ← Int32.toInt_inj, Int32.reduceToInt] at *); omega) | ((try simp only [g_m1, Int32.lt_iff_toInt_lt, Int32.le_iff_toInt_le, ← Int32.toInt_inj, Int32.reduceToInt] at *); omega) | ((try simp only [g_m1, Int32.lt_iff_toInt_lt, Int32.le_iff_toInt_le, ← Int32.toInt_inj, Int32.toInt_add, Int32.toInt_sub, Int32.toInt_mul, Int32.toInt_neg, Int32.reduceToInt, g_bm, g_bm'] at *); omega) | (have qr1 := g_rng x; have qr2 := g_rng y; have qr3 := g_rng z; (try simp only [g_m1, Int32.lt_iff_toInt_lt, Int32.le_iff_toInt_le, ← Int32.toInt_inj, Int32.toInt_add, Int32.toInt_sub, Int32.toInt_mul, Int32.toInt_neg, Int32.reduceToInt, g_bm, g_bm'] at *); omega) | (simp only [g_m1, Int32.lt_iff_toInt_lt, Int32.le_iff_toInt_le, ← Int32.toInt_inj, Int32.toInt_add, Int32.toInt_sub, Int32.toInt_mul, Int32.toInt_neg, Int32.reduceToInt, g_bm, g_bm'] at *; simp at *; omega) | (simp_all; done)
set_option maxRecDepth 100000 in
theorem g_X3_isLess_v1 (u : qS) (x : Int32) (y : Int32) (z : Int32) (r_3 : Int32) (hx : 0 ≤ x ∧ x < u.1 8) (hy : 0 ≤ y ∧ y < u.1 8) (hz8 : 0 ≤ u.1 8 ∧ u.1 8 ≤ 20) (hz9 : 0 ≤ u.1 9 ∧ u.1 9 ≤ 8) (hz10 : 0 ≤ u.1 10 ∧ u.1 10 ≤ 120) (hz12 : 0 ≤ u.1 12 ∧ u.1 12 ≤ 16) : 0 ≤ x ∧ x < (u.1 8 : Int32) := by
  first | omega | ((try simp only [g_m1, Int32.lt_iff_toInt_lt, Int32.le_iff_toInt_le, ← Int32.toInt_inj, Int32.reduceToInt] at *); omega) | ((try simp only [g_m1, Int32.lt_iff_toInt_lt, Int32.le_iff_toInt_le, ← Int32.toInt_inj, Int32.reduceToInt] at *); omega) | ((try simp only [g_m1, Int32.lt_iff_toInt_lt, Int32.le_iff_toInt_le, ← Int32.toInt_inj, Int32.toInt_add, Int32.toInt_sub, Int32.toInt_mul, Int32.toInt_neg, Int32.reduceToInt, g_bm, g_bm'] at *); omega) | (have qr1 := g_rng x; have qr2 := g_rng y; have qr3 := g_rng z; have qr4 := g_rng r_3; (try simp only [g_m1, Int32.lt_iff_toInt_lt, Int32.le_iff_toInt_le, ← Int32.toInt_inj, Int32.toInt_add, Int32.toInt_sub, Int32.toInt_mul, Int32.toInt_neg, Int32.reduceToInt, g_bm, g_bm'] at *); omega) | (simp only [g_m1, Int32.lt_iff_toInt_lt, Int32.le_iff_toInt_le, ← Int32.toInt_inj, Int32.toInt_add, Int32.toInt_sub, Int32.toInt_mul, Int32.toInt_neg, Int32.reduceToInt, g_bm, g_bm'] at *; simp at *; omega) | (simp_all; done)
set_option maxRecDepth 100000 in
theorem g_X3_isLess_v2 (u : qS) (x : Int32) (y : Int32) (z : Int32) (r_3 : Int32) (r_6 : Int32) (hx : 0 ≤ x ∧ x < u.1 8) (hy : 0 ≤ y ∧ y < u.1 8) (hz8 : 0 ≤ u.1 8 ∧ u.1 8 ≤ 20) (hz9 : 0 ≤ u.1 9 ∧ u.1 9 ≤ 8) (hz10 : 0 ≤ u.1 10 ∧ u.1 10 ≤ 120) (hz12 : 0 ≤ u.1 12 ∧ u.1 12 ≤ 16) : 0 ≤ x ∧ x < (u.1 8 : Int32) := by
  first | omega | ((try simp only [g_m1, Int32.lt_iff_toInt_lt, Int32.le_iff_toInt_le, ← Int32.toInt_inj, Int32.reduceToInt] at *); omega) | ((try simp only [g_m1, Int32.lt_iff_toInt_lt, Int32.le_iff_toInt_le, ← Int32.toInt_inj, Int32.reduceToInt] at *); omega) | ((try simp only [g_m1, Int32.lt_iff_toInt_lt, Int32.le_iff_toInt_le, ← Int32.toInt_inj, Int32.toInt_add, Int32.toInt_sub, Int32.toInt_mul, Int32.toInt_neg, Int32.reduceToInt, g_bm, g_bm'] at *); omega) | (have qr1 := g_rng x; have qr2 := g_rng y; have qr3 := g_rng z; have qr4 := g_rng r_3; have qr5 := g_rng r_6; (try simp only [g_m1, Int32.lt_iff_toInt_lt, Int32.le_iff_toInt_le, ← Int32.toInt_inj, Int32.toInt_add, Int32.toInt_sub, Int32.toInt_mul, Int32.toInt_neg, Int32.reduceToInt, g_bm, g_bm'] at *); omega) | (simp only [g_m1, Int32.lt_iff_toInt_lt, Int32.le_iff_toInt_le, ← Int32.toInt_inj, Int32.toInt_add, Int32.toInt_sub, Int32.toInt_mul, Int32.toInt_neg, Int32.reduceToInt, g_bm, g_bm'] at *; simp at *; omega) | (simp_all; done)
set_option maxRecDepth 100000 in
theorem g_X3_isLess_v3 (u : qS) (x : Int32) (y : Int32) (z : Int32) (r_3 : Int32) (r_6 : Int32) (r_9 : Int32) (hx : 0 ≤ x ∧ x < u.1 8) (hy : 0 ≤ y ∧ y < u.1 8) (hz8 : 0 ≤ u.1 8 ∧ u.1 8 ≤ 20) (hz9 : 0 ≤ u.1 9 ∧ u.1 9 ≤ 8) (hz10 : 0 ≤ u.1 10 ∧ u.1 10 ≤ 120) (hz12 : 0 ≤ u.1 12 ∧ u.1 12 ≤ 16) : 0 ≤ y ∧ y < (u.1 8 : Int32) := by
  first | omega | ((try simp only [g_m1, Int32.lt_iff_toInt_lt, Int32.le_iff_toInt_le, ← Int32.toInt_inj, Int32.reduceToInt] at *); omega) | ((try simp only [g_m1, Int32.lt_iff_toInt_lt, Int32.le_iff_toInt_le, ← Int32.toInt_inj, Int32.reduceToInt] at *); omega) | ((try simp only [g_m1, Int32.lt_iff_toInt_lt, Int32.le_iff_toInt_le, ← Int32.toInt_inj, Int32.toInt_add, Int32.toInt_sub, Int32.toInt_mul, Int32.toInt_neg, Int32.reduceToInt, g_bm, g_bm'] at *); omega) | (have qr1 := g_rng x; have qr2 := g_rng y; have qr3 := g_rng z; have qr4 := g_rng r_3; have qr5 := g_rng r_6; have qr6 := g_rng r_9; (try simp only [g_m1, Int32.lt_iff_toInt_lt, Int32.le_iff_toInt_le, ← Int32.toInt_inj, Int32.toInt_add, Int32.toInt_sub, Int32.toInt_mul, Int32.toInt_neg, Int32.reduceToInt, g_bm, g_bm'] at *); omega) | (simp only [g_m1, Int32.lt_iff_toInt_lt, Int32.le_iff_toInt_le, ← Int32.toInt_inj, Int32.toInt_add, Int32.toInt_sub, Int32.toInt_mul, Int32.toInt_neg, Int32.reduceToInt, g_bm, g_bm'] at *; simp at *; omega) | (simp_all; done)
set_option maxRecDepth 100000 in
theorem g_X3_isLess_v4 (u : qS) (x : Int32) (y : Int32) (z : Int32) (r_3 : Int32) (r_6 : Int32) (r_9 : Int32) (r_12 : Int32) (hx : 0 ≤ x ∧ x < u.1 8) (hy : 0 ≤ y ∧ y < u.1 8) (hz8 : 0 ≤ u.1 8 ∧ u.1 8 ≤ 20) (hz9 : 0 ≤ u.1 9 ∧ u.1 9 ≤ 8) (hz10 : 0 ≤ u.1 10 ∧ u.1 10 ≤ 120) (hz12 : 0 ≤ u.1 12 ∧ u.1 12 ≤ 16) (c24_13 : (r_3 - r_6 : Int32) ≤ (r_9 + r_12)) : (0 : Int32) = 1 ∨ (0 : Int32) = 0 := by
  first | omega | ((try simp only [g_m1, Int32.lt_iff_toInt_lt, Int32.le_iff_toInt_le, ← Int32.toInt_inj, Int32.reduceToInt] at *); omega) | ((try have ez0 : (r_3 - r_6 : Int32).toInt = (r_3 : Int32).toInt - (r_6 : Int32).toInt := g_sub (by (try simp only [g_m1, Int32.lt_iff_toInt_lt, Int32.le_iff_toInt_le, ← Int32.toInt_inj, Int32.reduceToInt] at *); omega) (by (try simp only [g_m1, Int32.lt_iff_toInt_lt, Int32.le_iff_toInt_le, ← Int32.toInt_inj, Int32.reduceToInt] at *); omega)); (try have ez1 : (r_9 + r_12 : Int32).toInt = (r_9 : Int32).toInt + (r_12 : Int32).toInt := g_add (by (try simp only [g_m1, Int32.lt_iff_toInt_lt, Int32.le_iff_toInt_le, ← Int32.toInt_inj, Int32.reduceToInt] at *); omega) (by (try simp only [g_m1, Int32.lt_iff_toInt_lt, Int32.le_iff_toInt_le, ← Int32.toInt_inj, Int32.reduceToInt] at *); omega)); (try simp only [g_m1, Int32.lt_iff_toInt_lt, Int32.le_iff_toInt_le, ← Int32.toInt_inj, Int32.reduceToInt] at *); omega) | ((try simp only [g_m1, Int32.lt_iff_toInt_lt, Int32.le_iff_toInt_le, ← Int32.toInt_inj, Int32.toInt_add, Int32.toInt_sub, Int32.toInt_mul, Int32.toInt_neg, Int32.reduceToInt, g_bm, g_bm'] at *); omega) | (have qr1 := g_rng x; have qr2 := g_rng y; have qr3 := g_rng z; have qr4 := g_rng r_3; have qr5 := g_rng r_6; have qr6 := g_rng r_9; have qr7 := g_rng r_12; (try simp only [g_m1, Int32.lt_iff_toInt_lt, Int32.le_iff_toInt_le, ← Int32.toInt_inj, Int32.toInt_add, Int32.toInt_sub, Int32.toInt_mul, Int32.toInt_neg, Int32.reduceToInt, g_bm, g_bm'] at *); omega) | (simp only [g_m1, Int32.lt_iff_toInt_lt, Int32.le_iff_toInt_le, ← Int32.toInt_inj, Int32.toInt_add, Int32.toInt_sub, Int32.toInt_mul, Int32.toInt_neg, Int32.reduceToInt, g_bm, g_bm'] at *; simp at *; omega) | (simp_all; done)
set_option maxRecDepth 100000 in
theorem g_X3_isLess_v5 (u : qS) (x : Int32) (y : Int32) (z : Int32) (r_3 : Int32) (r_6 : Int32) (r_9 : Int32) (r_12 : Int32) (hx : 0 ≤ x ∧ x < u.1 8) (hy : 0 ≤ y ∧ y < u.1 8) (hz8 : 0 ≤ u.1 8 ∧ u.1 8 ≤ 20) (hz9 : 0 ≤ u.1 9 ∧ u.1 9 ≤ 8) (hz10 : 0 ≤ u.1 10 ∧ u.1 10 ≤ 120) (hz12 : 0 ≤ u.1 12 ∧ u.1 12 ≤ 16) (c24_13 : ¬ (r_3 - r_6 : Int32) ≤ (r_9 + r_12)) : (1 : Int32) = 1 ∨ (1 : Int32) = 0 := by
  first | omega | ((try simp only [g_m1, Int32.lt_iff_toInt_lt, Int32.le_iff_toInt_le, ← Int32.toInt_inj, Int32.reduceToInt] at *); omega) | ((try have ez0 : (r_3 - r_6 : Int32).toInt = (r_3 : Int32).toInt - (r_6 : Int32).toInt := g_sub (by (try simp only [g_m1, Int32.lt_iff_toInt_lt, Int32.le_iff_toInt_le, ← Int32.toInt_inj, Int32.reduceToInt] at *); omega) (by (try simp only [g_m1, Int32.lt_iff_toInt_lt, Int32.le_iff_toInt_le, ← Int32.toInt_inj, Int32.reduceToInt] at *); omega)); (try have ez1 : (r_9 + r_12 : Int32).toInt = (r_9 : Int32).toInt + (r_12 : Int32).toInt := g_add (by (try simp only [g_m1, Int32.lt_iff_toInt_lt, Int32.le_iff_toInt_le, ← Int32.toInt_inj, Int32.reduceToInt] at *); omega) (by (try simp only [g_m1, Int32.lt_iff_toInt_lt, Int32.le_iff_toInt_le, ← Int32.toInt_inj, Int32.reduceToInt] at *); omega)); (try simp only [g_m1, Int32.lt_iff_toInt_lt, Int32.le_iff_toInt_le, ← Int32.toInt_inj, Int32.reduceToInt] at *); omega) | ((try simp only [g_m1, Int32.lt_iff_toInt_lt, Int32.le_iff_toInt_le, ← Int32.toInt_inj, Int32.toInt_add, Int32.toInt_sub, Int32.toInt_mul, Int32.toInt_neg, Int32.reduceToInt, g_bm, g_bm'] at *); omega) | (have qr1 := g_rng x; have qr2 := g_rng y; have qr3 := g_rng z; have qr4 := g_rng r_3; have qr5 := g_rng r_6; have qr6 := g_rng r_9; have qr7 := g_rng r_12; (try simp only [g_m1, Int32.lt_iff_toInt_lt, Int32.le_iff_toInt_le, ← Int32.toInt_inj, Int32.toInt_add, Int32.toInt_sub, Int32.toInt_mul, Int32.toInt_neg, Int32.reduceToInt, g_bm, g_bm'] at *); omega) | (simp only [g_m1, Int32.lt_iff_toInt_lt, Int32.le_iff_toInt_le, ← Int32.toInt_inj, Int32.toInt_add, Int32.toInt_sub, Int32.toInt_mul, Int32.toInt_neg, Int32.reduceToInt, g_bm, g_bm'] at *; simp at *; omega) | (simp_all; done)
set_option maxHeartbeats 1000000 in
set_option maxRecDepth 100000 in
theorem g_X3_isLess (l : Launch) (E : qE) (A : Nat → Prop) (u : qS) (x : Int32) (y : Int32) (z : Int32) (hI : IC E u) (hx : 0 ≤ x ∧ x < u.1 8) (hy : 0 ≤ y ∧ y < u.1 8) : Met l yX3_isLess (uws yX3_isLess cX3_isLess 4 (some .boolean)) (qR 1 0 0) (qPc E A 0 u [.ref (E.2.2 399), .int x, .int y, .int z]) (qQi E A 0 (fun r u1 => u1 = u ∧ (r = 1 ∨ r = 0))) 0 0 A := by
  refine q_met (own := RX3) (f := 1) [.ref (E.2.2 399), .int x, .int y, .int z] (by decide) (Nat.le_of_ble_eq_true rfl) rfl ?_
  intro p0 e0 s0 m0 bl0 me0 cd0 ls hF hr hlocks hU hS hA hl
  have hl : lv_has ls 4 [(0, .ref (E.2.2 399)), (1, .int x), (2, .int y), (3, .int z)] := hl
  have hz8 : 0 ≤ u.1 8 ∧ u.1 8 ≤ 20 := hI.1.s8
  have hz9 : 0 ≤ u.1 9 ∧ u.1 9 ≤ 8 := hI.1.s9
  have hz10 : 0 ≤ u.1 10 ∧ u.1 10 ≤ 120 := hI.1.s10
  have hz12 : 0 ≤ u.1 12 ∧ u.1 12 ≤ 16 := hI.1.s12
  refine lv_aload_n hF.1 hF.2.1 dX3_isLess_0 rfl (lv_at hl 0 rfl) ?_
  refine lv_iload_n hF.1 hF.2.1 dX3_isLess_1 rfl (lv_at hl 2 rfl) ?_
  have hM9 := g_X3_meanOf l E A u y hI (g_X3_isLess_v0 u x y z hx hy hz8 hz9 hz10 hz12)
  have hR9 := q_runV (l := l) (e := e0) (below := bl0) (meth := me0) (R := qR 1 0 0) (cells := 0) (slots := 0) (st0 := [.int y, .ref (E.2.2 399)]) (rest := []) hF hU hS hA 1 6 3 399 rfl rfl rfl hM9 w_1049 w_1050 w_1051 w_105 w_1052 (by decide +kernel) ⟨Nat.le_of_ble_eq_true rfl, Nat.le_of_ble_eq_true rfl⟩ dX3_isLess_2 rfl hl.1 rfl (Nat.le_of_ble_eq_true rfl) ⟨Nat.le_of_ble_eq_true rfl, Nat.le_of_ble_eq_true rfl⟩
  refine q_calli hR9 hU.2.2.2 hS (fun r_3 u_1 H locs hw_2 hU hS => ?_)
  obtain ⟨hw_2_e, hw_2⟩ := hw_2
  rw [hw_2_e] at hU
  refine lv_aload_n hF.1 hF.2.1 dX3_isLess_5 rfl (lv_at hl 0 rfl) ?_
  refine lv_iload_n hF.1 hF.2.1 dX3_isLess_6 rfl (lv_at hl 1 rfl) ?_
  have hM9 := g_X3_meanOf l E A u x hI (g_X3_isLess_v1 u x y z r_3 hx hy hz8 hz9 hz10 hz12)
  have hR9 := q_runV (l := l) (e := e0) (below := bl0) (meth := me0) (R := qR 1 0 0) (cells := 0) (slots := 0) (st0 := [.int x, .ref (E.2.2 399), .int r_3]) (rest := [.int r_3]) hF hU hS hA 1 6 3 399 rfl rfl rfl hM9 w_1049 w_1050 w_1051 w_105 w_1052 (by decide +kernel) ⟨Nat.le_of_ble_eq_true rfl, Nat.le_of_ble_eq_true rfl⟩ dX3_isLess_7 rfl hl.1 rfl (Nat.le_of_ble_eq_true rfl) ⟨Nat.le_of_ble_eq_true rfl, Nat.le_of_ble_eq_true rfl⟩
  refine q_calli hR9 hU.2.2.2 hS (fun r_6 u_4 H locs hw_5 hU hS => ?_)
  obtain ⟨hw_5_e, hw_5⟩ := hw_5
  rw [hw_5_e] at hU
  refine lv_isub hF.1 hF.2.1 dX3_isLess_10 ?_
  refine lv_aload_n hF.1 hF.2.1 dX3_isLess_11 rfl (lv_at hl 0 rfl) ?_
  refine lv_iload_n hF.1 hF.2.1 dX3_isLess_12 rfl (lv_at hl 1 rfl) ?_
  refine lv_iload_n hF.1 hF.2.1 dX3_isLess_13 rfl (lv_at hl 3 rfl) ?_
  have hM9 := g_X3_doubtOf l E A u x z hI (g_X3_isLess_v2 u x y z r_3 r_6 hx hy hz8 hz9 hz10 hz12)
  have hR9 := q_runV (l := l) (e := e0) (below := bl0) (meth := me0) (R := qR 1 0 0) (cells := 0) (slots := 0) (st0 := [.int z, .int x, .ref (E.2.2 399), .int (r_3 - r_6)]) (rest := [.int (r_3 - r_6)]) hF hU hS hA 2 6 3 399 rfl rfl rfl hM9 w_1053 w_1038 w_1039 w_105 w_1040 (by decide +kernel) ⟨Nat.le_of_ble_eq_true rfl, Nat.le_of_ble_eq_true rfl⟩ dX3_isLess_14 rfl hl.1 rfl (Nat.le_of_ble_eq_true rfl) ⟨Nat.le_of_ble_eq_true rfl, Nat.le_of_ble_eq_true rfl⟩
  refine q_calli hR9 hU.2.2.2 hS (fun r_9 u_7 H locs hw_8 hU hS => ?_)
  obtain ⟨hw_8_e, hw_8⟩ := hw_8
  rw [hw_8_e] at hU
  refine lv_aload_n hF.1 hF.2.1 dX3_isLess_17 rfl (lv_at hl 0 rfl) ?_
  refine lv_iload_n hF.1 hF.2.1 dX3_isLess_18 rfl (lv_at hl 2 rfl) ?_
  refine lv_iload_n hF.1 hF.2.1 dX3_isLess_19 rfl (lv_at hl 3 rfl) ?_
  have hM9 := g_X3_doubtOf l E A u y z hI (g_X3_isLess_v3 u x y z r_3 r_6 r_9 hx hy hz8 hz9 hz10 hz12)
  have hR9 := q_runV (l := l) (e := e0) (below := bl0) (meth := me0) (R := qR 1 0 0) (cells := 0) (slots := 0) (st0 := [.int z, .int y, .ref (E.2.2 399), .int r_9, .int (r_3 - r_6)]) (rest := [.int r_9, .int (r_3 - r_6)]) hF hU hS hA 2 6 3 399 rfl rfl rfl hM9 w_1053 w_1038 w_1039 w_105 w_1040 (by decide +kernel) ⟨Nat.le_of_ble_eq_true rfl, Nat.le_of_ble_eq_true rfl⟩ dX3_isLess_20 rfl hl.1 rfl (Nat.le_of_ble_eq_true rfl) ⟨Nat.le_of_ble_eq_true rfl, Nat.le_of_ble_eq_true rfl⟩
  refine q_calli hR9 hU.2.2.2 hS (fun r_12 u_10 H locs hw_11 hU hS => ?_)
  obtain ⟨hw_11_e, hw_11⟩ := hw_11
  rw [hw_11_e] at hU
  refine lv_iadd hF.1 hF.2.1 dX3_isLess_23 ?_
  refine lv_icmp_le (tgt := 31) hF.1 hF.2.1 dX3_isLess_24 (by decide) (fun c24_13 => ?_) (fun c24_13 => ?_)
  · refine lv_iconst (v := 0) hF.1 hF.2.1 dX3_isLess_31 (by decide) ?_
    exact q_iret hF hr (by decide) hlocks hU hS dX3_isLess_32 ⟨rfl, (g_X3_isLess_v4 u x y z r_3 r_6 r_9 r_12 hx hy hz8 hz9 hz10 hz12 c24_13)⟩
  · refine lv_iconst (v := 1) hF.1 hF.2.1 dX3_isLess_27 (by decide) ?_
    refine lv_goto (tgt := 32) hF.1 hF.2.1 dX3_isLess_28 (by decide) ?_
    exact q_iret hF hr (by decide) hlocks hU hS dX3_isLess_32 ⟨rfl, (g_X3_isLess_v5 u x y z r_3 r_6 r_9 r_12 hx hy hz8 hz9 hz10 hz12 c24_13)⟩
set_option maxRecDepth 100000 in
theorem g_X3_meet_v0 (u : qS) (v : Nat) (hz8 : 0 ≤ u.1 8 ∧ u.1 8 ≤ 20) (hz9 : 0 ≤ u.1 9 ∧ u.1 9 ≤ 8) (hz10 : 0 ≤ u.1 10 ∧ u.1 10 ≤ 120) (hz12 : 0 ≤ u.1 12 ∧ u.1 12 ≤ 16) (hb_6 : 0 ≤ qfd u.2.2.2.2 v 3 ∧ qfd u.2.2.2.2 v 3 < (u.1 9)) : vp_in (qfd u.2.2.2.2 v 3) 8 := by
  refine g_in ?_ ?_ <;> ((try simp only [g_m1, Int32.lt_iff_toInt_lt, Int32.le_iff_toInt_le, ← Int32.toInt_inj, Int32.toInt_add, Int32.toInt_sub, Int32.toInt_mul, Int32.toInt_neg, Int32.reduceToInt, g_bm, g_bm'] at *); omega)
set_option maxRecDepth 100000 in
theorem g_X3_meet_v1 (u : qS) (v : Nat) (hz8 : 0 ≤ u.1 8 ∧ u.1 8 ≤ 20) (hz9 : 0 ≤ u.1 9 ∧ u.1 9 ≤ 8) (hz10 : 0 ≤ u.1 10 ∧ u.1 10 ≤ 120) (hz12 : 0 ≤ u.1 12 ∧ u.1 12 ≤ 16) (hb_6 : 0 ≤ qfd u.2.2.2.2 v 3 ∧ qfd u.2.2.2.2 v 3 < (u.1 9)) : vp_in (qfd u.2.2.2.2 v 3) 8 := by
  refine g_in ?_ ?_ <;> ((try simp only [g_m1, Int32.lt_iff_toInt_lt, Int32.le_iff_toInt_le, ← Int32.toInt_inj, Int32.toInt_add, Int32.toInt_sub, Int32.toInt_mul, Int32.toInt_neg, Int32.reduceToInt, g_bm, g_bm'] at *); omega)
set_option maxRecDepth 100000 in
theorem g_X3_meet_v2 (u : qS) (v : Nat) (w : Nat) (f_17 : Nat → Int32) (hz8 : 0 ≤ u.1 8 ∧ u.1 8 ≤ 20) (hz9 : 0 ≤ u.1 9 ∧ u.1 9 ≤ 8) (hz10 : 0 ≤ u.1 10 ∧ u.1 10 ≤ 120) (hz12 : 0 ≤ u.1 12 ∧ u.1 12 ≤ 16) (hb_6 : 0 ≤ qfd u.2.2.2.2 v 3 ∧ qfd u.2.2.2.2 v 3 < (u.1 9)) (hf_17 : f_17 = upd (u.2.1 303) (qfd u.2.2.2.2 v 3 : Int32).toNatClampNeg ((u.2.1 303 (qfd u.2.2.2.2 v 3 : Int32).toNatClampNeg) + ((qfd u.2.2.2.2 v 11) - (qfd u.2.2.2.2 w 11)))) : vp_in (qfd u.2.2.2.2 v 3) 8 := by
  refine g_in ?_ ?_ <;> ((try simp only [g_m1, Int32.lt_iff_toInt_lt, Int32.le_iff_toInt_le, ← Int32.toInt_inj, Int32.toInt_add, Int32.toInt_sub, Int32.toInt_mul, Int32.toInt_neg, Int32.reduceToInt, g_bm, g_bm'] at *); omega)
set_option maxRecDepth 100000 in
theorem g_X3_meet_v3 (u : qS) (v : Nat) (w : Nat) (f_17 : Nat → Int32) (hz8 : 0 ≤ u.1 8 ∧ u.1 8 ≤ 20) (hz9 : 0 ≤ u.1 9 ∧ u.1 9 ≤ 8) (hz10 : 0 ≤ u.1 10 ∧ u.1 10 ≤ 120) (hz12 : 0 ≤ u.1 12 ∧ u.1 12 ≤ 16) (hb_6 : 0 ≤ qfd u.2.2.2.2 v 3 ∧ qfd u.2.2.2.2 v 3 < (u.1 9)) (hf_17 : f_17 = upd (u.2.1 303) (qfd u.2.2.2.2 v 3 : Int32).toNatClampNeg ((u.2.1 303 (qfd u.2.2.2.2 v 3 : Int32).toNatClampNeg) + ((qfd u.2.2.2.2 v 11) - (qfd u.2.2.2.2 w 11)))) : vp_in (qfd u.2.2.2.2 v 3) 8 := by
  refine g_in ?_ ?_ <;> ((try simp only [g_m1, Int32.lt_iff_toInt_lt, Int32.le_iff_toInt_le, ← Int32.toInt_inj, Int32.toInt_add, Int32.toInt_sub, Int32.toInt_mul, Int32.toInt_neg, Int32.reduceToInt, g_bm, g_bm'] at *); omega)
set_option maxRecDepth 100000 in
theorem g_X3_meet_v4 (u : qS) (v : Nat) (w : Nat) (f_17 : Nat → Int32) (f_23 : Nat → Int32) (hz8 : 0 ≤ u.1 8 ∧ u.1 8 ≤ 20) (hz9 : 0 ≤ u.1 9 ∧ u.1 9 ≤ 8) (hz10 : 0 ≤ u.1 10 ∧ u.1 10 ≤ 120) (hz12 : 0 ≤ u.1 12 ∧ u.1 12 ≤ 16) (hb_6 : 0 ≤ qfd u.2.2.2.2 v 3 ∧ qfd u.2.2.2.2 v 3 < (u.1 9)) (hf_17 : f_17 = upd (u.2.1 303) (qfd u.2.2.2.2 v 3 : Int32).toNatClampNeg ((u.2.1 303 (qfd u.2.2.2.2 v 3 : Int32).toNatClampNeg) + ((qfd u.2.2.2.2 v 11) - (qfd u.2.2.2.2 w 11)))) (hf_23 : f_23 = upd (u.2.1 304) (qfd u.2.2.2.2 v 3 : Int32).toNatClampNeg ((u.2.1 304 (qfd u.2.2.2.2 v 3 : Int32).toNatClampNeg) + 1)) (hb_34 : 0 ≤ qfd u.2.2.2.2 w 3 ∧ qfd u.2.2.2.2 w 3 < (u.1 9)) : vp_in (((qfd u.2.2.2.2 v 3) * 8) + (qfd u.2.2.2.2 w 3)) 64 := by
  have ez0 : ((qfd u.2.2.2.2 v 3) * 8 : Int32).toInt = (qfd u.2.2.2.2 v 3 : Int32).toInt * (8 : Int32).toInt := g_mul (by (try simp only [g_m1, Int32.lt_iff_toInt_lt, Int32.le_iff_toInt_le, ← Int32.toInt_inj, Int32.reduceToInt] at *); omega) (by (try simp only [g_m1, Int32.lt_iff_toInt_lt, Int32.le_iff_toInt_le, ← Int32.toInt_inj, Int32.reduceToInt] at *); omega)
  have ez1 : (((qfd u.2.2.2.2 v 3) * 8) + (qfd u.2.2.2.2 w 3) : Int32).toInt = ((qfd u.2.2.2.2 v 3) * 8 : Int32).toInt + (qfd u.2.2.2.2 w 3 : Int32).toInt := g_add (by (try simp only [g_m1, Int32.lt_iff_toInt_lt, Int32.le_iff_toInt_le, ← Int32.toInt_inj, Int32.reduceToInt] at *); omega) (by (try simp only [g_m1, Int32.lt_iff_toInt_lt, Int32.le_iff_toInt_le, ← Int32.toInt_inj, Int32.reduceToInt] at *); omega)
  refine g_in ?_ ?_ <;> ((try simp only [g_m1, Int32.lt_iff_toInt_lt, Int32.le_iff_toInt_le, ← Int32.toInt_inj, Int32.reduceToInt] at *); omega)
set_option maxRecDepth 100000 in
theorem g_X3_meet_v5 (u : qS) (v : Nat) (w : Nat) (f_17 : Nat → Int32) (f_23 : Nat → Int32) (hz8 : 0 ≤ u.1 8 ∧ u.1 8 ≤ 20) (hz9 : 0 ≤ u.1 9 ∧ u.1 9 ≤ 8) (hz10 : 0 ≤ u.1 10 ∧ u.1 10 ≤ 120) (hz12 : 0 ≤ u.1 12 ∧ u.1 12 ≤ 16) (hb_6 : 0 ≤ qfd u.2.2.2.2 v 3 ∧ qfd u.2.2.2.2 v 3 < (u.1 9)) (hf_17 : f_17 = upd (u.2.1 303) (qfd u.2.2.2.2 v 3 : Int32).toNatClampNeg ((u.2.1 303 (qfd u.2.2.2.2 v 3 : Int32).toNatClampNeg) + ((qfd u.2.2.2.2 v 11) - (qfd u.2.2.2.2 w 11)))) (hf_23 : f_23 = upd (u.2.1 304) (qfd u.2.2.2.2 v 3 : Int32).toNatClampNeg ((u.2.1 304 (qfd u.2.2.2.2 v 3 : Int32).toNatClampNeg) + 1)) (hb_34 : 0 ≤ qfd u.2.2.2.2 w 3 ∧ qfd u.2.2.2.2 w 3 < (u.1 9)) : vp_in (((qfd u.2.2.2.2 v 3) * 8) + (qfd u.2.2.2.2 w 3)) 64 := by
  have ez0 : ((qfd u.2.2.2.2 v 3) * 8 : Int32).toInt = (qfd u.2.2.2.2 v 3 : Int32).toInt * (8 : Int32).toInt := g_mul (by (try simp only [g_m1, Int32.lt_iff_toInt_lt, Int32.le_iff_toInt_le, ← Int32.toInt_inj, Int32.reduceToInt] at *); omega) (by (try simp only [g_m1, Int32.lt_iff_toInt_lt, Int32.le_iff_toInt_le, ← Int32.toInt_inj, Int32.reduceToInt] at *); omega)
  have ez1 : (((qfd u.2.2.2.2 v 3) * 8) + (qfd u.2.2.2.2 w 3) : Int32).toInt = ((qfd u.2.2.2.2 v 3) * 8 : Int32).toInt + (qfd u.2.2.2.2 w 3 : Int32).toInt := g_add (by (try simp only [g_m1, Int32.lt_iff_toInt_lt, Int32.le_iff_toInt_le, ← Int32.toInt_inj, Int32.reduceToInt] at *); omega) (by (try simp only [g_m1, Int32.lt_iff_toInt_lt, Int32.le_iff_toInt_le, ← Int32.toInt_inj, Int32.reduceToInt] at *); omega)
  refine g_in ?_ ?_ <;> ((try simp only [g_m1, Int32.lt_iff_toInt_lt, Int32.le_iff_toInt_le, ← Int32.toInt_inj, Int32.reduceToInt] at *); omega)
set_option maxHeartbeats 1000000 in
set_option maxRecDepth 100000 in
theorem g_X3_meet (l : Launch) (E : qE) (A : Nat → Prop) (u : qS) (v : Nat) (w : Nat) (hI : IC E u) (hv : qRf u v 10) (hw : qRf u w 10) : Met l yX3_meet (uws yX3_meet cX3_meet 3 none) (qR 0 0 0) (qPc E A 0 u [.ref (E.2.2 399), .ref v, .ref w]) (qQv E A 0 (fun u1 => (qFc [] [303, 304, 305] [] [] u u1 ∧ IC E u1 ∧ u1.2.2.2.2 = u.2.2.2.2) ∧ (True))) 0 0 A := by
  refine q_met (own := RX3) (f := 0) [.ref (E.2.2 399), .ref v, .ref w] (by decide) (Nat.le_of_ble_eq_true rfl) rfl ?_
  intro p0 e0 s0 m0 bl0 me0 cd0 ls hF hr hlocks hU hS hA hl
  have hl : lv_has ls 3 [(0, .ref (E.2.2 399)), (1, .ref v), (2, .ref w)] := hl
  have hkd : u.2.2.2.2 = u.2.2.2.2 := rfl
  have hz8 : 0 ≤ u.1 8 ∧ u.1 8 ≤ 20 := hI.1.s8
  have hz9 : 0 ≤ u.1 9 ∧ u.1 9 ≤ 8 := hI.1.s9
  have hz10 : 0 ≤ u.1 10 ∧ u.1 10 ≤ 120 := hI.1.s10
  have hz12 : 0 ≤ u.1 12 ∧ u.1 12 ≤ 16 := hI.1.s12
  have hfr : qFc [] [303, 304, 305] [] [] u u := qFc.rf
  refine lv_aload_n hF.1 hF.2.1 dX3_meet_0 rfl (lv_at hl 0 rfl) ?_
  refine q_get (v := .ref (E.2.2 303)) hF hU dX3_meet_1 6 3 3 303 399 rfl rfl rfl rfl inX3 (by decide) (by decide) w_380 rfl rfl ?_
  refine lv_aload_n hF.1 hF.2.1 dX3_meet_4 rfl (lv_at hl 1 rfl) ?_
  obtain ⟨k_1, fs_2, hd_4, hv_5, hv_5_2, hv_5_3, -⟩ := hI.vf hv 3 (by decide)
  refine q_getd (v := .int (qfd u.2.2.2.2 v 3)) hF hU dX3_meet_5 k_1 10 3 hd_4 rfl inX10 (by decide) w_597 rfl hv_5 ?_
  have hb_6 : 0 ≤ qfd u.2.2.2.2 v 3 ∧ qfd u.2.2.2.2 v 3 < (u.1 9) := hv_5_3 rfl
  refine lv_dup2_11 hF.1 hF.2.1 dX3_meet_8 rfl rfl ?_
  refine q_iald (v := u.2.1 303 (qfd u.2.2.2.2 v 3 : Int32).toNatClampNeg) hF hU dX3_meet_9 18 303 rfl rfl (g_X3_meet_v0 u v hz8 hz9 hz10 hz12 hb_6) rfl ?_
  refine lv_aload_n hF.1 hF.2.1 dX3_meet_10 rfl (lv_at hl 1 rfl) ?_
  obtain ⟨k_7, fs_8, hd_10, hv_11, hv_11_2, hv_11_3, -⟩ := hI.vf hv 11 (by decide)
  refine q_getd (v := .int (qfd u.2.2.2.2 v 11)) hF hU dX3_meet_11 k_7 10 11 hd_10 rfl inX10 (by decide) w_625 rfl hv_11 ?_
  refine lv_aload_n hF.1 hF.2.1 dX3_meet_14 rfl (lv_at hl 2 rfl) ?_
  obtain ⟨k_12, fs_13, hd_15, hv_16, hv_16_2, hv_16_3, -⟩ := hI.vf hw 11 (by decide)
  refine q_getd (v := .int (qfd u.2.2.2.2 w 11)) hF hU dX3_meet_15 k_12 10 11 hd_15 rfl inX10 (by decide) w_625 rfl hv_16 ?_
  refine lv_isub hF.1 hF.2.1 dX3_meet_18 ?_
  refine lv_iadd hF.1 hF.2.1 dX3_meet_19 ?_
  refine q_iast hF hU hS dX3_meet_20 18 303 rfl rfl (g_X3_meet_v1 u v hz8 hz9 hz10 hz12 hb_6) (fun f_17 H locs hg9 hU hS => ?_)
  have hf_17 : f_17 = upd (u.2.1 303) (qfd u.2.2.2.2 v 3 : Int32).toNatClampNeg ((u.2.1 303 (qfd u.2.2.2.2 v 3 : Int32).toNatClampNeg) + ((qfd u.2.2.2.2 v 11) - (qfd u.2.2.2.2 w 11))) := hg9
  have hfr : qFc [] [303, 304, 305] [] [] u (qsF u 303 f_17) := hfr.setF (by decide)
  have hI : IC E (qsF u 303 f_17) := hI.sF (by decide)
  refine lv_aload_n hF.1 hF.2.1 dX3_meet_21 rfl (lv_at hl 0 rfl) ?_
  refine q_get (v := .ref (E.2.2 304)) hF hU dX3_meet_22 6 3 4 304 399 rfl rfl rfl rfl inX3 (by decide) (by decide) w_381 rfl rfl ?_
  refine lv_aload_n hF.1 hF.2.1 dX3_meet_25 rfl (lv_at hl 1 rfl) ?_
  obtain ⟨k_18, fs_19, hd_21, hv_22, hv_22_2, hv_22_3, -⟩ := hI.vf hv 3 (by decide)
  refine q_getd (v := .int (qfd u.2.2.2.2 v 3)) hF hU dX3_meet_26 k_18 10 3 hd_21 rfl inX10 (by decide) w_597 rfl hv_22 ?_
  refine lv_dup2_11 hF.1 hF.2.1 dX3_meet_29 rfl rfl ?_
  refine q_iald (v := u.2.1 304 (qfd u.2.2.2.2 v 3 : Int32).toNatClampNeg) hF hU dX3_meet_30 19 304 rfl rfl (g_X3_meet_v2 u v w f_17 hz8 hz9 hz10 hz12 hb_6 hf_17) rfl ?_
  refine lv_iconst (v := 1) hF.1 hF.2.1 dX3_meet_31 (by decide) ?_
  refine lv_iadd hF.1 hF.2.1 dX3_meet_32 ?_
  refine q_iast hF hU hS dX3_meet_33 19 304 rfl rfl (g_X3_meet_v3 u v w f_17 hz8 hz9 hz10 hz12 hb_6 hf_17) (fun f_23 H locs hg9 hU hS => ?_)
  have hf_23 : f_23 = upd (u.2.1 304) (qfd u.2.2.2.2 v 3 : Int32).toNatClampNeg ((u.2.1 304 (qfd u.2.2.2.2 v 3 : Int32).toNatClampNeg) + 1) := hg9
  have hfr : qFc [] [303, 304, 305] [] [] u (qsF (qsF u 303 f_17) 304 f_23) := hfr.setF (by decide)
  have hI : IC E (qsF (qsF u 303 f_17) 304 f_23) := hI.sF (by decide)
  refine lv_aload_n hF.1 hF.2.1 dX3_meet_34 rfl (lv_at hl 0 rfl) ?_
  refine q_get (v := .ref (E.2.2 305)) hF hU dX3_meet_35 6 3 5 305 399 rfl rfl rfl rfl inX3 (by decide) (by decide) w_382 rfl rfl ?_
  refine lv_aload_n hF.1 hF.2.1 dX3_meet_38 rfl (lv_at hl 1 rfl) ?_
  obtain ⟨k_24, fs_25, hd_27, hv_28, hv_28_2, hv_28_3, -⟩ := hI.vf hv 3 (by decide)
  refine q_getd (v := .int (qfd u.2.2.2.2 v 3)) hF hU dX3_meet_39 k_24 10 3 hd_27 rfl inX10 (by decide) w_597 rfl hv_28 ?_
  refine lv_bipush (v := 8) hF.1 hF.2.1 dX3_meet_42 (by decide) ?_
  refine lv_imul hF.1 hF.2.1 dX3_meet_44 ?_
  refine lv_aload_n hF.1 hF.2.1 dX3_meet_45 rfl (lv_at hl 2 rfl) ?_
  obtain ⟨k_29, fs_30, hd_32, hv_33, hv_33_2, hv_33_3, -⟩ := hI.vf hw 3 (by decide)
  refine q_getd (v := .int (qfd u.2.2.2.2 w 3)) hF hU dX3_meet_46 k_29 10 3 hd_32 rfl inX10 (by decide) w_597 rfl hv_33 ?_
  have hb_34 : 0 ≤ qfd u.2.2.2.2 w 3 ∧ qfd u.2.2.2.2 w 3 < (u.1 9) := (by have h9 := hv_33_3 rfl; rw [(hfr.1 9 (by decide))] at h9; exact h9)
  refine lv_iadd hF.1 hF.2.1 dX3_meet_49 ?_
  refine lv_dup2_11 hF.1 hF.2.1 dX3_meet_50 rfl rfl ?_
  refine q_iald (v := u.2.1 305 (((qfd u.2.2.2.2 v 3) * 8) + (qfd u.2.2.2.2 w 3) : Int32).toNatClampNeg) hF hU dX3_meet_51 20 305 rfl rfl (g_X3_meet_v4 u v w f_17 f_23 hz8 hz9 hz10 hz12 hb_6 hf_17 hf_23 hb_34) rfl ?_
  refine lv_iconst (v := 1) hF.1 hF.2.1 dX3_meet_52 (by decide) ?_
  refine lv_iadd hF.1 hF.2.1 dX3_meet_53 ?_
  refine q_iast hF hU hS dX3_meet_54 20 305 rfl rfl (g_X3_meet_v5 u v w f_17 f_23 hz8 hz9 hz10 hz12 hb_6 hf_17 hf_23 hb_34) (fun f_35 H locs hg9 hU hS => ?_)
  have hf_35 : f_35 = upd (u.2.1 305) (((qfd u.2.2.2.2 v 3) * 8) + (qfd u.2.2.2.2 w 3) : Int32).toNatClampNeg ((u.2.1 305 (((qfd u.2.2.2.2 v 3) * 8) + (qfd u.2.2.2.2 w 3) : Int32).toNatClampNeg) + 1) := hg9
  have hfr : qFc [] [303, 304, 305] [] [] u (qsF (qsF (qsF u 303 f_17) 304 f_23) 305 f_35) := hfr.setF (by decide)
  have hI : IC E (qsF (qsF (qsF u 303 f_17) 304 f_23) 305 f_35) := hI.sF (by decide)
  exact q_vret hF hr hlocks hU hS dX3_meet_55 ⟨⟨hfr, hI, hkd⟩, trivial⟩
set_option maxRecDepth 100000 in
theorem g_X3_meetLater_v0 (u : qS) (x : Int32) (x3 : Int32) (x4 : Int32) (hx : 0 ≤ x ∧ x < u.1 10) (hz8 : 0 ≤ u.1 8 ∧ u.1 8 ≤ 20) (hz9 : 0 ≤ u.1 9 ∧ u.1 9 ≤ 8) (hz10 : 0 ≤ u.1 10 ∧ u.1 10 ≤ 120) (hz12 : 0 ≤ u.1 12 ∧ u.1 12 ≤ 16) (h_k : 0 ≤ x4) (c29_1 : ¬ (u.1 10) ≤ (x4 : Int32)) : 0 ≤ x4 ∧ x4 < (u.1 10) := by
  first | omega | ((try simp only [g_m1, Int32.lt_iff_toInt_lt, Int32.le_iff_toInt_le, ← Int32.toInt_inj, Int32.reduceToInt] at *); omega) | ((try simp only [g_m1, Int32.lt_iff_toInt_lt, Int32.le_iff_toInt_le, ← Int32.toInt_inj, Int32.reduceToInt] at *); omega) | ((try simp only [g_m1, Int32.lt_iff_toInt_lt, Int32.le_iff_toInt_le, ← Int32.toInt_inj, Int32.toInt_add, Int32.toInt_sub, Int32.toInt_mul, Int32.toInt_neg, Int32.reduceToInt, g_bm, g_bm'] at *); omega) | (have qr1 := g_rng x; have qr3 := g_rng x3; have qr4 := g_rng x4; (try simp only [g_m1, Int32.lt_iff_toInt_lt, Int32.le_iff_toInt_le, ← Int32.toInt_inj, Int32.toInt_add, Int32.toInt_sub, Int32.toInt_mul, Int32.toInt_neg, Int32.reduceToInt, g_bm, g_bm'] at *); omega) | (simp only [g_m1, Int32.lt_iff_toInt_lt, Int32.le_iff_toInt_le, ← Int32.toInt_inj, Int32.toInt_add, Int32.toInt_sub, Int32.toInt_mul, Int32.toInt_neg, Int32.reduceToInt, g_bm, g_bm'] at *; simp at *; omega) | (simp_all; done)
set_option maxRecDepth 100000 in
theorem g_X3_meetLater_v1 (u : qS) (x : Int32) (x4 : Int32) (hx : 0 ≤ x ∧ x < u.1 10) (hz8 : 0 ≤ u.1 8 ∧ u.1 8 ≤ 20) (hz9 : 0 ≤ u.1 9 ∧ u.1 9 ≤ 8) (hz10 : 0 ≤ u.1 10 ∧ u.1 10 ≤ 120) (hz12 : 0 ≤ u.1 12 ∧ u.1 12 ≤ 16) (h_k : 0 ≤ x4) (c29_1 : ¬ (u.1 10) ≤ (x4 : Int32)) : vp_in (x4) 120 := by
  refine g_in ?_ ?_ <;> ((try simp only [g_m1, Int32.lt_iff_toInt_lt, Int32.le_iff_toInt_le, ← Int32.toInt_inj, Int32.toInt_add, Int32.toInt_sub, Int32.toInt_mul, Int32.toInt_neg, Int32.reduceToInt, g_bm, g_bm'] at *); omega)
set_option maxRecDepth 100000 in
theorem g_X3_meetLater_v2 (u : qS) (x : Int32) (x3 : Int32) (x4 : Int32) (r_9 : Int32) (hx : 0 ≤ x ∧ x < u.1 10) (hz8 : 0 ≤ u.1 8 ∧ u.1 8 ≤ 20) (hz9 : 0 ≤ u.1 9 ∧ u.1 9 ≤ 8) (hz10 : 0 ≤ u.1 10 ∧ u.1 10 ≤ 120) (hz12 : 0 ≤ u.1 12 ∧ u.1 12 ≤ 16) (h_k : 0 ≤ x4) (c29_1 : ¬ (u.1 10) ≤ (x4 : Int32)) (c46_10 : (r_9 : Int32) = x3) : 0 ≤ x4 ∧ x4 < (u.1 10) := by
  first | omega | ((try simp only [g_m1, Int32.lt_iff_toInt_lt, Int32.le_iff_toInt_le, ← Int32.toInt_inj, Int32.reduceToInt] at *); omega) | ((try simp only [g_m1, Int32.lt_iff_toInt_lt, Int32.le_iff_toInt_le, ← Int32.toInt_inj, Int32.reduceToInt] at *); omega) | ((try simp only [g_m1, Int32.lt_iff_toInt_lt, Int32.le_iff_toInt_le, ← Int32.toInt_inj, Int32.toInt_add, Int32.toInt_sub, Int32.toInt_mul, Int32.toInt_neg, Int32.reduceToInt, g_bm, g_bm'] at *); omega) | (have qr1 := g_rng x; have qr3 := g_rng x3; have qr4 := g_rng x4; have qr7 := g_rng r_9; (try simp only [g_m1, Int32.lt_iff_toInt_lt, Int32.le_iff_toInt_le, ← Int32.toInt_inj, Int32.toInt_add, Int32.toInt_sub, Int32.toInt_mul, Int32.toInt_neg, Int32.reduceToInt, g_bm, g_bm'] at *); omega) | (simp only [g_m1, Int32.lt_iff_toInt_lt, Int32.le_iff_toInt_le, ← Int32.toInt_inj, Int32.toInt_add, Int32.toInt_sub, Int32.toInt_mul, Int32.toInt_neg, Int32.reduceToInt, g_bm, g_bm'] at *; simp at *; omega) | (simp_all; done)
set_option maxRecDepth 100000 in
theorem g_X3_meetLater_v3 (u : qS) (x : Int32) (x3 : Int32) (x4 : Int32) (r_9 : Int32) (hx : 0 ≤ x ∧ x < u.1 10) (hz8 : 0 ≤ u.1 8 ∧ u.1 8 ≤ 20) (hz9 : 0 ≤ u.1 9 ∧ u.1 9 ≤ 8) (hz10 : 0 ≤ u.1 10 ∧ u.1 10 ≤ 120) (hz12 : 0 ≤ u.1 12 ∧ u.1 12 ≤ 16) (h_k : 0 ≤ x4) (c29_1 : ¬ (u.1 10) ≤ (x4 : Int32)) (c46_10 : (r_9 : Int32) = x3) : vp_in (x4) 120 := by
  refine g_in ?_ ?_ <;> ((try simp only [g_m1, Int32.lt_iff_toInt_lt, Int32.le_iff_toInt_le, ← Int32.toInt_inj, Int32.toInt_add, Int32.toInt_sub, Int32.toInt_mul, Int32.toInt_neg, Int32.reduceToInt, g_bm, g_bm'] at *); omega)
set_option maxRecDepth 100000 in
theorem g_X3_meetLater_v4 (u : qS) (x : Int32) (a2 : Nat) (x3 : Int32) (x4 : Int32) (uc : qS) (r_9 : Int32) (a_11 : Nat) (hx : 0 ≤ x ∧ x < u.1 10) (hz8 : 0 ≤ u.1 8 ∧ u.1 8 ≤ 20) (hz9 : 0 ≤ u.1 9 ∧ u.1 9 ≤ 8) (hz10 : 0 ≤ u.1 10 ∧ u.1 10 ≤ 120) (hz12 : 0 ≤ u.1 12 ∧ u.1 12 ≤ 16) (h_k : 0 ≤ x4) (c29_1 : ¬ (u.1 10) ≤ (x4 : Int32)) (c46_10 : (r_9 : Int32) = x3) (hb_18 : 0 ≤ qfd uc.2.2.2.2 a_11 2 ∧ qfd uc.2.2.2.2 a_11 2 < (u.1 8)) (hb_24 : 0 ≤ qfd uc.2.2.2.2 a2 2 ∧ qfd uc.2.2.2.2 a2 2 < (u.1 8)) (c70_25 : ¬ (qfd uc.2.2.2.2 a_11 2 : Int32) = (qfd uc.2.2.2.2 a2 2)) : 0 ≤ (x4 + 1) := by
  first | omega | ((try simp only [g_m1, Int32.lt_iff_toInt_lt, Int32.le_iff_toInt_le, ← Int32.toInt_inj, Int32.reduceToInt] at *); omega) | ((try have ez0 : (x4 + 1 : Int32).toInt = (x4 : Int32).toInt + (1 : Int32).toInt := g_add (by (try simp only [g_m1, Int32.lt_iff_toInt_lt, Int32.le_iff_toInt_le, ← Int32.toInt_inj, Int32.reduceToInt] at *); omega) (by (try simp only [g_m1, Int32.lt_iff_toInt_lt, Int32.le_iff_toInt_le, ← Int32.toInt_inj, Int32.reduceToInt] at *); omega)); (try simp only [g_m1, Int32.lt_iff_toInt_lt, Int32.le_iff_toInt_le, ← Int32.toInt_inj, Int32.reduceToInt] at *); omega) | ((try simp only [g_m1, Int32.lt_iff_toInt_lt, Int32.le_iff_toInt_le, ← Int32.toInt_inj, Int32.toInt_add, Int32.toInt_sub, Int32.toInt_mul, Int32.toInt_neg, Int32.reduceToInt, g_bm, g_bm'] at *); omega) | (have qr1 := g_rng x; have qr3 := g_rng x3; have qr4 := g_rng x4; have qr7 := g_rng r_9; (try simp only [g_m1, Int32.lt_iff_toInt_lt, Int32.le_iff_toInt_le, ← Int32.toInt_inj, Int32.toInt_add, Int32.toInt_sub, Int32.toInt_mul, Int32.toInt_neg, Int32.reduceToInt, g_bm, g_bm'] at *); omega) | (simp only [g_m1, Int32.lt_iff_toInt_lt, Int32.le_iff_toInt_le, ← Int32.toInt_inj, Int32.toInt_add, Int32.toInt_sub, Int32.toInt_mul, Int32.toInt_neg, Int32.reduceToInt, g_bm, g_bm'] at *; simp at *; omega) | (simp_all; done)
set_option maxRecDepth 100000 in
theorem g_X3_meetLater_v5 (u : qS) (x : Int32) (a2 : Nat) (x3 : Int32) (x4 : Int32) (uc : qS) (r_9 : Int32) (a_11 : Nat) (hx : 0 ≤ x ∧ x < u.1 10) (hz8 : 0 ≤ u.1 8 ∧ u.1 8 ≤ 20) (hz9 : 0 ≤ u.1 9 ∧ u.1 9 ≤ 8) (hz10 : 0 ≤ u.1 10 ∧ u.1 10 ≤ 120) (hz12 : 0 ≤ u.1 12 ∧ u.1 12 ≤ 16) (h_k : 0 ≤ x4) (c29_1 : ¬ (u.1 10) ≤ (x4 : Int32)) (c46_10 : (r_9 : Int32) = x3) (hb_18 : 0 ≤ qfd uc.2.2.2.2 a_11 2 ∧ qfd uc.2.2.2.2 a_11 2 < (u.1 8)) (hb_24 : 0 ≤ qfd uc.2.2.2.2 a2 2 ∧ qfd uc.2.2.2.2 a2 2 < (u.1 8)) (c70_25 : ¬ (qfd uc.2.2.2.2 a_11 2 : Int32) = (qfd uc.2.2.2.2 a2 2)) : ((u.1 10).toInt - (x4 + 1).toInt).toNat < ((u.1 10).toInt - x4.toInt).toNat := by
  first | omega | ((try simp only [g_m1, Int32.lt_iff_toInt_lt, Int32.le_iff_toInt_le, ← Int32.toInt_inj, Int32.reduceToInt] at *); omega) | ((try have ez0 : (x4 + 1 : Int32).toInt = (x4 : Int32).toInt + (1 : Int32).toInt := g_add (by (try simp only [g_m1, Int32.lt_iff_toInt_lt, Int32.le_iff_toInt_le, ← Int32.toInt_inj, Int32.reduceToInt] at *); omega) (by (try simp only [g_m1, Int32.lt_iff_toInt_lt, Int32.le_iff_toInt_le, ← Int32.toInt_inj, Int32.reduceToInt] at *); omega)); (try simp only [g_m1, Int32.lt_iff_toInt_lt, Int32.le_iff_toInt_le, ← Int32.toInt_inj, Int32.reduceToInt] at *); omega) | ((try simp only [g_m1, Int32.lt_iff_toInt_lt, Int32.le_iff_toInt_le, ← Int32.toInt_inj, Int32.toInt_add, Int32.toInt_sub, Int32.toInt_mul, Int32.toInt_neg, Int32.reduceToInt, g_bm, g_bm'] at *); omega) | (have qr1 := g_rng x; have qr3 := g_rng x3; have qr4 := g_rng x4; have qr7 := g_rng r_9; (try simp only [g_m1, Int32.lt_iff_toInt_lt, Int32.le_iff_toInt_le, ← Int32.toInt_inj, Int32.toInt_add, Int32.toInt_sub, Int32.toInt_mul, Int32.toInt_neg, Int32.reduceToInt, g_bm, g_bm'] at *); omega) | (simp only [g_m1, Int32.lt_iff_toInt_lt, Int32.le_iff_toInt_le, ← Int32.toInt_inj, Int32.toInt_add, Int32.toInt_sub, Int32.toInt_mul, Int32.toInt_neg, Int32.reduceToInt, g_bm, g_bm'] at *; simp at *; omega) | (simp_all; done)
set_option maxRecDepth 100000 in
theorem g_X3_meetLater_v6 (u : qS) (x : Int32) (a2 : Nat) (x3 : Int32) (x4 : Int32) (uc : qS) (r_9 : Int32) (a_11 : Nat) (hx : 0 ≤ x ∧ x < u.1 10) (hz8 : 0 ≤ u.1 8 ∧ u.1 8 ≤ 20) (hz9 : 0 ≤ u.1 9 ∧ u.1 9 ≤ 8) (hz10 : 0 ≤ u.1 10 ∧ u.1 10 ≤ 120) (hz12 : 0 ≤ u.1 12 ∧ u.1 12 ≤ 16) (h_k : 0 ≤ x4) (c29_1 : ¬ (u.1 10) ≤ (x4 : Int32)) (c46_10 : (r_9 : Int32) = x3) (hb_18 : 0 ≤ qfd uc.2.2.2.2 a_11 2 ∧ qfd uc.2.2.2.2 a_11 2 < (u.1 8)) (hb_24 : 0 ≤ qfd uc.2.2.2.2 a2 2 ∧ qfd uc.2.2.2.2 a2 2 < (u.1 8)) (c70_25 : (qfd uc.2.2.2.2 a_11 2 : Int32) = (qfd uc.2.2.2.2 a2 2)) (hb_31 : 0 ≤ qfd uc.2.2.2.2 a_11 3 ∧ qfd uc.2.2.2.2 a_11 3 < (u.1 9)) (hb_37 : 0 ≤ qfd uc.2.2.2.2 a2 3 ∧ qfd uc.2.2.2.2 a2 3 < (u.1 9)) (c82_38 : (qfd uc.2.2.2.2 a_11 3 : Int32) = (qfd uc.2.2.2.2 a2 3)) : 0 ≤ (x4 + 1) := by
  first | omega | ((try simp only [g_m1, Int32.lt_iff_toInt_lt, Int32.le_iff_toInt_le, ← Int32.toInt_inj, Int32.reduceToInt] at *); omega) | ((try have ez0 : (x4 + 1 : Int32).toInt = (x4 : Int32).toInt + (1 : Int32).toInt := g_add (by (try simp only [g_m1, Int32.lt_iff_toInt_lt, Int32.le_iff_toInt_le, ← Int32.toInt_inj, Int32.reduceToInt] at *); omega) (by (try simp only [g_m1, Int32.lt_iff_toInt_lt, Int32.le_iff_toInt_le, ← Int32.toInt_inj, Int32.reduceToInt] at *); omega)); (try simp only [g_m1, Int32.lt_iff_toInt_lt, Int32.le_iff_toInt_le, ← Int32.toInt_inj, Int32.reduceToInt] at *); omega) | ((try simp only [g_m1, Int32.lt_iff_toInt_lt, Int32.le_iff_toInt_le, ← Int32.toInt_inj, Int32.toInt_add, Int32.toInt_sub, Int32.toInt_mul, Int32.toInt_neg, Int32.reduceToInt, g_bm, g_bm'] at *); omega) | (have qr1 := g_rng x; have qr3 := g_rng x3; have qr4 := g_rng x4; have qr7 := g_rng r_9; (try simp only [g_m1, Int32.lt_iff_toInt_lt, Int32.le_iff_toInt_le, ← Int32.toInt_inj, Int32.toInt_add, Int32.toInt_sub, Int32.toInt_mul, Int32.toInt_neg, Int32.reduceToInt, g_bm, g_bm'] at *); omega) | (simp only [g_m1, Int32.lt_iff_toInt_lt, Int32.le_iff_toInt_le, ← Int32.toInt_inj, Int32.toInt_add, Int32.toInt_sub, Int32.toInt_mul, Int32.toInt_neg, Int32.reduceToInt, g_bm, g_bm'] at *; simp at *; omega) | (simp_all; done)
set_option maxRecDepth 100000 in
theorem g_X3_meetLater_v7 (u : qS) (x : Int32) (a2 : Nat) (x3 : Int32) (x4 : Int32) (uc : qS) (r_9 : Int32) (a_11 : Nat) (hx : 0 ≤ x ∧ x < u.1 10) (hz8 : 0 ≤ u.1 8 ∧ u.1 8 ≤ 20) (hz9 : 0 ≤ u.1 9 ∧ u.1 9 ≤ 8) (hz10 : 0 ≤ u.1 10 ∧ u.1 10 ≤ 120) (hz12 : 0 ≤ u.1 12 ∧ u.1 12 ≤ 16) (h_k : 0 ≤ x4) (c29_1 : ¬ (u.1 10) ≤ (x4 : Int32)) (c46_10 : (r_9 : Int32) = x3) (hb_18 : 0 ≤ qfd uc.2.2.2.2 a_11 2 ∧ qfd uc.2.2.2.2 a_11 2 < (u.1 8)) (hb_24 : 0 ≤ qfd uc.2.2.2.2 a2 2 ∧ qfd uc.2.2.2.2 a2 2 < (u.1 8)) (c70_25 : (qfd uc.2.2.2.2 a_11 2 : Int32) = (qfd uc.2.2.2.2 a2 2)) (hb_31 : 0 ≤ qfd uc.2.2.2.2 a_11 3 ∧ qfd uc.2.2.2.2 a_11 3 < (u.1 9)) (hb_37 : 0 ≤ qfd uc.2.2.2.2 a2 3 ∧ qfd uc.2.2.2.2 a2 3 < (u.1 9)) (c82_38 : (qfd uc.2.2.2.2 a_11 3 : Int32) = (qfd uc.2.2.2.2 a2 3)) : ((u.1 10).toInt - (x4 + 1).toInt).toNat < ((u.1 10).toInt - x4.toInt).toNat := by
  first | omega | ((try simp only [g_m1, Int32.lt_iff_toInt_lt, Int32.le_iff_toInt_le, ← Int32.toInt_inj, Int32.reduceToInt] at *); omega) | ((try have ez0 : (x4 + 1 : Int32).toInt = (x4 : Int32).toInt + (1 : Int32).toInt := g_add (by (try simp only [g_m1, Int32.lt_iff_toInt_lt, Int32.le_iff_toInt_le, ← Int32.toInt_inj, Int32.reduceToInt] at *); omega) (by (try simp only [g_m1, Int32.lt_iff_toInt_lt, Int32.le_iff_toInt_le, ← Int32.toInt_inj, Int32.reduceToInt] at *); omega)); (try simp only [g_m1, Int32.lt_iff_toInt_lt, Int32.le_iff_toInt_le, ← Int32.toInt_inj, Int32.reduceToInt] at *); omega) | ((try simp only [g_m1, Int32.lt_iff_toInt_lt, Int32.le_iff_toInt_le, ← Int32.toInt_inj, Int32.toInt_add, Int32.toInt_sub, Int32.toInt_mul, Int32.toInt_neg, Int32.reduceToInt, g_bm, g_bm'] at *); omega) | (have qr1 := g_rng x; have qr3 := g_rng x3; have qr4 := g_rng x4; have qr7 := g_rng r_9; (try simp only [g_m1, Int32.lt_iff_toInt_lt, Int32.le_iff_toInt_le, ← Int32.toInt_inj, Int32.toInt_add, Int32.toInt_sub, Int32.toInt_mul, Int32.toInt_neg, Int32.reduceToInt, g_bm, g_bm'] at *); omega) | (simp only [g_m1, Int32.lt_iff_toInt_lt, Int32.le_iff_toInt_le, ← Int32.toInt_inj, Int32.toInt_add, Int32.toInt_sub, Int32.toInt_mul, Int32.toInt_neg, Int32.reduceToInt, g_bm, g_bm'] at *; simp at *; omega) | (simp_all; done)
set_option maxRecDepth 100000 in
theorem g_X3_meetLater_v8 (u : qS) (x : Int32) (a2 : Nat) (x3 : Int32) (x4 : Int32) (uc : qS) (r_9 : Int32) (a_11 : Nat) (hx : 0 ≤ x ∧ x < u.1 10) (hz8 : 0 ≤ u.1 8 ∧ u.1 8 ≤ 20) (hz9 : 0 ≤ u.1 9 ∧ u.1 9 ≤ 8) (hz10 : 0 ≤ u.1 10 ∧ u.1 10 ≤ 120) (hz12 : 0 ≤ u.1 12 ∧ u.1 12 ≤ 16) (h_k : 0 ≤ x4) (c29_1 : ¬ (u.1 10) ≤ (x4 : Int32)) (c46_10 : (r_9 : Int32) = x3) (hb_18 : 0 ≤ qfd uc.2.2.2.2 a_11 2 ∧ qfd uc.2.2.2.2 a_11 2 < (u.1 8)) (hb_24 : 0 ≤ qfd uc.2.2.2.2 a2 2 ∧ qfd uc.2.2.2.2 a2 2 < (u.1 8)) (c70_25 : (qfd uc.2.2.2.2 a_11 2 : Int32) = (qfd uc.2.2.2.2 a2 2)) (hb_31 : 0 ≤ qfd uc.2.2.2.2 a_11 3 ∧ qfd uc.2.2.2.2 a_11 3 < (u.1 9)) (hb_37 : 0 ≤ qfd uc.2.2.2.2 a2 3 ∧ qfd uc.2.2.2.2 a2 3 < (u.1 9)) (c82_38 : ¬ (qfd uc.2.2.2.2 a_11 3 : Int32) = (qfd uc.2.2.2.2 a2 3)) : 0 ≤ (x4 + 1) := by
  first | omega | ((try simp only [g_m1, Int32.lt_iff_toInt_lt, Int32.le_iff_toInt_le, ← Int32.toInt_inj, Int32.reduceToInt] at *); omega) | ((try have ez0 : (x4 + 1 : Int32).toInt = (x4 : Int32).toInt + (1 : Int32).toInt := g_add (by (try simp only [g_m1, Int32.lt_iff_toInt_lt, Int32.le_iff_toInt_le, ← Int32.toInt_inj, Int32.reduceToInt] at *); omega) (by (try simp only [g_m1, Int32.lt_iff_toInt_lt, Int32.le_iff_toInt_le, ← Int32.toInt_inj, Int32.reduceToInt] at *); omega)); (try simp only [g_m1, Int32.lt_iff_toInt_lt, Int32.le_iff_toInt_le, ← Int32.toInt_inj, Int32.reduceToInt] at *); omega) | ((try simp only [g_m1, Int32.lt_iff_toInt_lt, Int32.le_iff_toInt_le, ← Int32.toInt_inj, Int32.toInt_add, Int32.toInt_sub, Int32.toInt_mul, Int32.toInt_neg, Int32.reduceToInt, g_bm, g_bm'] at *); omega) | (have qr1 := g_rng x; have qr3 := g_rng x3; have qr4 := g_rng x4; have qr7 := g_rng r_9; (try simp only [g_m1, Int32.lt_iff_toInt_lt, Int32.le_iff_toInt_le, ← Int32.toInt_inj, Int32.toInt_add, Int32.toInt_sub, Int32.toInt_mul, Int32.toInt_neg, Int32.reduceToInt, g_bm, g_bm'] at *); omega) | (simp only [g_m1, Int32.lt_iff_toInt_lt, Int32.le_iff_toInt_le, ← Int32.toInt_inj, Int32.toInt_add, Int32.toInt_sub, Int32.toInt_mul, Int32.toInt_neg, Int32.reduceToInt, g_bm, g_bm'] at *; simp at *; omega) | (simp_all; done)
set_option maxRecDepth 100000 in
theorem g_X3_meetLater_v9 (u : qS) (x : Int32) (a2 : Nat) (x3 : Int32) (x4 : Int32) (uc : qS) (r_9 : Int32) (a_11 : Nat) (hx : 0 ≤ x ∧ x < u.1 10) (hz8 : 0 ≤ u.1 8 ∧ u.1 8 ≤ 20) (hz9 : 0 ≤ u.1 9 ∧ u.1 9 ≤ 8) (hz10 : 0 ≤ u.1 10 ∧ u.1 10 ≤ 120) (hz12 : 0 ≤ u.1 12 ∧ u.1 12 ≤ 16) (h_k : 0 ≤ x4) (c29_1 : ¬ (u.1 10) ≤ (x4 : Int32)) (c46_10 : (r_9 : Int32) = x3) (hb_18 : 0 ≤ qfd uc.2.2.2.2 a_11 2 ∧ qfd uc.2.2.2.2 a_11 2 < (u.1 8)) (hb_24 : 0 ≤ qfd uc.2.2.2.2 a2 2 ∧ qfd uc.2.2.2.2 a2 2 < (u.1 8)) (c70_25 : (qfd uc.2.2.2.2 a_11 2 : Int32) = (qfd uc.2.2.2.2 a2 2)) (hb_31 : 0 ≤ qfd uc.2.2.2.2 a_11 3 ∧ qfd uc.2.2.2.2 a_11 3 < (u.1 9)) (hb_37 : 0 ≤ qfd uc.2.2.2.2 a2 3 ∧ qfd uc.2.2.2.2 a2 3 < (u.1 9)) (c82_38 : ¬ (qfd uc.2.2.2.2 a_11 3 : Int32) = (qfd uc.2.2.2.2 a2 3)) : ((u.1 10).toInt - (x4 + 1).toInt).toNat < ((u.1 10).toInt - x4.toInt).toNat := by
  first | omega | ((try simp only [g_m1, Int32.lt_iff_toInt_lt, Int32.le_iff_toInt_le, ← Int32.toInt_inj, Int32.reduceToInt] at *); omega) | ((try have ez0 : (x4 + 1 : Int32).toInt = (x4 : Int32).toInt + (1 : Int32).toInt := g_add (by (try simp only [g_m1, Int32.lt_iff_toInt_lt, Int32.le_iff_toInt_le, ← Int32.toInt_inj, Int32.reduceToInt] at *); omega) (by (try simp only [g_m1, Int32.lt_iff_toInt_lt, Int32.le_iff_toInt_le, ← Int32.toInt_inj, Int32.reduceToInt] at *); omega)); (try simp only [g_m1, Int32.lt_iff_toInt_lt, Int32.le_iff_toInt_le, ← Int32.toInt_inj, Int32.reduceToInt] at *); omega) | ((try simp only [g_m1, Int32.lt_iff_toInt_lt, Int32.le_iff_toInt_le, ← Int32.toInt_inj, Int32.toInt_add, Int32.toInt_sub, Int32.toInt_mul, Int32.toInt_neg, Int32.reduceToInt, g_bm, g_bm'] at *); omega) | (have qr1 := g_rng x; have qr3 := g_rng x3; have qr4 := g_rng x4; have qr7 := g_rng r_9; (try simp only [g_m1, Int32.lt_iff_toInt_lt, Int32.le_iff_toInt_le, ← Int32.toInt_inj, Int32.toInt_add, Int32.toInt_sub, Int32.toInt_mul, Int32.toInt_neg, Int32.reduceToInt, g_bm, g_bm'] at *); omega) | (simp only [g_m1, Int32.lt_iff_toInt_lt, Int32.le_iff_toInt_le, ← Int32.toInt_inj, Int32.toInt_add, Int32.toInt_sub, Int32.toInt_mul, Int32.toInt_neg, Int32.reduceToInt, g_bm, g_bm'] at *; simp at *; omega) | (simp_all; done)
set_option maxRecDepth 100000 in
theorem g_X3_meetLater_v10 (u : qS) (x : Int32) (a2 : Nat) (x3 : Int32) (x4 : Int32) (uc : qS) (r_9 : Int32) (a_11 : Nat) (hx : 0 ≤ x ∧ x < u.1 10) (hz8 : 0 ≤ u.1 8 ∧ u.1 8 ≤ 20) (hz9 : 0 ≤ u.1 9 ∧ u.1 9 ≤ 8) (hz10 : 0 ≤ u.1 10 ∧ u.1 10 ≤ 120) (hz12 : 0 ≤ u.1 12 ∧ u.1 12 ≤ 16) (h_k : 0 ≤ x4) (c29_1 : ¬ (u.1 10) ≤ (x4 : Int32)) (c46_10 : (r_9 : Int32) = x3) (hb_18 : 0 ≤ qfd uc.2.2.2.2 a_11 2 ∧ qfd uc.2.2.2.2 a_11 2 < (u.1 8)) (hb_24 : 0 ≤ qfd uc.2.2.2.2 a2 2 ∧ qfd uc.2.2.2.2 a2 2 < (u.1 8)) (c70_25 : (qfd uc.2.2.2.2 a_11 2 : Int32) = (qfd uc.2.2.2.2 a2 2)) (hb_31 : 0 ≤ qfd uc.2.2.2.2 a_11 3 ∧ qfd uc.2.2.2.2 a_11 3 < (u.1 9)) (hb_37 : 0 ≤ qfd uc.2.2.2.2 a2 3 ∧ qfd uc.2.2.2.2 a2 3 < (u.1 9)) (c82_38 : ¬ (qfd uc.2.2.2.2 a_11 3 : Int32) = (qfd uc.2.2.2.2 a2 3)) : 0 ≤ (x4 + 1) := by
  first | omega | ((try simp only [g_m1, Int32.lt_iff_toInt_lt, Int32.le_iff_toInt_le, ← Int32.toInt_inj, Int32.reduceToInt] at *); omega) | ((try have ez0 : (x4 + 1 : Int32).toInt = (x4 : Int32).toInt + (1 : Int32).toInt := g_add (by (try simp only [g_m1, Int32.lt_iff_toInt_lt, Int32.le_iff_toInt_le, ← Int32.toInt_inj, Int32.reduceToInt] at *); omega) (by (try simp only [g_m1, Int32.lt_iff_toInt_lt, Int32.le_iff_toInt_le, ← Int32.toInt_inj, Int32.reduceToInt] at *); omega)); (try simp only [g_m1, Int32.lt_iff_toInt_lt, Int32.le_iff_toInt_le, ← Int32.toInt_inj, Int32.reduceToInt] at *); omega) | ((try simp only [g_m1, Int32.lt_iff_toInt_lt, Int32.le_iff_toInt_le, ← Int32.toInt_inj, Int32.toInt_add, Int32.toInt_sub, Int32.toInt_mul, Int32.toInt_neg, Int32.reduceToInt, g_bm, g_bm'] at *); omega) | (have qr1 := g_rng x; have qr3 := g_rng x3; have qr4 := g_rng x4; have qr7 := g_rng r_9; (try simp only [g_m1, Int32.lt_iff_toInt_lt, Int32.le_iff_toInt_le, ← Int32.toInt_inj, Int32.toInt_add, Int32.toInt_sub, Int32.toInt_mul, Int32.toInt_neg, Int32.reduceToInt, g_bm, g_bm'] at *); omega) | (simp only [g_m1, Int32.lt_iff_toInt_lt, Int32.le_iff_toInt_le, ← Int32.toInt_inj, Int32.toInt_add, Int32.toInt_sub, Int32.toInt_mul, Int32.toInt_neg, Int32.reduceToInt, g_bm, g_bm'] at *; simp at *; omega) | (simp_all; done)
set_option maxRecDepth 100000 in
theorem g_X3_meetLater_v11 (u : qS) (x : Int32) (a2 : Nat) (x3 : Int32) (x4 : Int32) (uc : qS) (r_9 : Int32) (a_11 : Nat) (hx : 0 ≤ x ∧ x < u.1 10) (hz8 : 0 ≤ u.1 8 ∧ u.1 8 ≤ 20) (hz9 : 0 ≤ u.1 9 ∧ u.1 9 ≤ 8) (hz10 : 0 ≤ u.1 10 ∧ u.1 10 ≤ 120) (hz12 : 0 ≤ u.1 12 ∧ u.1 12 ≤ 16) (h_k : 0 ≤ x4) (c29_1 : ¬ (u.1 10) ≤ (x4 : Int32)) (c46_10 : (r_9 : Int32) = x3) (hb_18 : 0 ≤ qfd uc.2.2.2.2 a_11 2 ∧ qfd uc.2.2.2.2 a_11 2 < (u.1 8)) (hb_24 : 0 ≤ qfd uc.2.2.2.2 a2 2 ∧ qfd uc.2.2.2.2 a2 2 < (u.1 8)) (c70_25 : (qfd uc.2.2.2.2 a_11 2 : Int32) = (qfd uc.2.2.2.2 a2 2)) (hb_31 : 0 ≤ qfd uc.2.2.2.2 a_11 3 ∧ qfd uc.2.2.2.2 a_11 3 < (u.1 9)) (hb_37 : 0 ≤ qfd uc.2.2.2.2 a2 3 ∧ qfd uc.2.2.2.2 a2 3 < (u.1 9)) (c82_38 : ¬ (qfd uc.2.2.2.2 a_11 3 : Int32) = (qfd uc.2.2.2.2 a2 3)) : ((u.1 10).toInt - (x4 + 1).toInt).toNat < ((u.1 10).toInt - x4.toInt).toNat := by
  first | omega | ((try simp only [g_m1, Int32.lt_iff_toInt_lt, Int32.le_iff_toInt_le, ← Int32.toInt_inj, Int32.reduceToInt] at *); omega) | ((try have ez0 : (x4 + 1 : Int32).toInt = (x4 : Int32).toInt + (1 : Int32).toInt := g_add (by (try simp only [g_m1, Int32.lt_iff_toInt_lt, Int32.le_iff_toInt_le, ← Int32.toInt_inj, Int32.reduceToInt] at *); omega) (by (try simp only [g_m1, Int32.lt_iff_toInt_lt, Int32.le_iff_toInt_le, ← Int32.toInt_inj, Int32.reduceToInt] at *); omega)); (try simp only [g_m1, Int32.lt_iff_toInt_lt, Int32.le_iff_toInt_le, ← Int32.toInt_inj, Int32.reduceToInt] at *); omega) | ((try simp only [g_m1, Int32.lt_iff_toInt_lt, Int32.le_iff_toInt_le, ← Int32.toInt_inj, Int32.toInt_add, Int32.toInt_sub, Int32.toInt_mul, Int32.toInt_neg, Int32.reduceToInt, g_bm, g_bm'] at *); omega) | (have qr1 := g_rng x; have qr3 := g_rng x3; have qr4 := g_rng x4; have qr7 := g_rng r_9; (try simp only [g_m1, Int32.lt_iff_toInt_lt, Int32.le_iff_toInt_le, ← Int32.toInt_inj, Int32.toInt_add, Int32.toInt_sub, Int32.toInt_mul, Int32.toInt_neg, Int32.reduceToInt, g_bm, g_bm'] at *); omega) | (simp only [g_m1, Int32.lt_iff_toInt_lt, Int32.le_iff_toInt_le, ← Int32.toInt_inj, Int32.toInt_add, Int32.toInt_sub, Int32.toInt_mul, Int32.toInt_neg, Int32.reduceToInt, g_bm, g_bm'] at *; simp at *; omega) | (simp_all; done)
set_option maxRecDepth 100000 in
theorem g_X3_meetLater_v12 (u : qS) (x : Int32) (hx : 0 ≤ x ∧ x < u.1 10) (hz8 : 0 ≤ u.1 8 ∧ u.1 8 ≤ 20) (hz9 : 0 ≤ u.1 9 ∧ u.1 9 ≤ 8) (hz10 : 0 ≤ u.1 10 ∧ u.1 10 ≤ 120) (hz12 : 0 ≤ u.1 12 ∧ u.1 12 ≤ 16) : 0 ≤ x ∧ x < (u.1 10) := by
  first | omega | ((try simp only [g_m1, Int32.lt_iff_toInt_lt, Int32.le_iff_toInt_le, ← Int32.toInt_inj, Int32.reduceToInt] at *); omega) | ((try simp only [g_m1, Int32.lt_iff_toInt_lt, Int32.le_iff_toInt_le, ← Int32.toInt_inj, Int32.reduceToInt] at *); omega) | ((try simp only [g_m1, Int32.lt_iff_toInt_lt, Int32.le_iff_toInt_le, ← Int32.toInt_inj, Int32.toInt_add, Int32.toInt_sub, Int32.toInt_mul, Int32.toInt_neg, Int32.reduceToInt, g_bm, g_bm'] at *); omega) | (have qr1 := g_rng x; (try simp only [g_m1, Int32.lt_iff_toInt_lt, Int32.le_iff_toInt_le, ← Int32.toInt_inj, Int32.toInt_add, Int32.toInt_sub, Int32.toInt_mul, Int32.toInt_neg, Int32.reduceToInt, g_bm, g_bm'] at *); omega) | (simp only [g_m1, Int32.lt_iff_toInt_lt, Int32.le_iff_toInt_le, ← Int32.toInt_inj, Int32.toInt_add, Int32.toInt_sub, Int32.toInt_mul, Int32.toInt_neg, Int32.reduceToInt, g_bm, g_bm'] at *; simp at *; omega) | (simp_all; done)
set_option maxRecDepth 100000 in
theorem g_X3_meetLater_v13 (u : qS) (x : Int32) (hx : 0 ≤ x ∧ x < u.1 10) (hz8 : 0 ≤ u.1 8 ∧ u.1 8 ≤ 20) (hz9 : 0 ≤ u.1 9 ∧ u.1 9 ≤ 8) (hz10 : 0 ≤ u.1 10 ∧ u.1 10 ≤ 120) (hz12 : 0 ≤ u.1 12 ∧ u.1 12 ≤ 16) : vp_in (x) 120 := by
  refine g_in ?_ ?_ <;> ((try simp only [g_m1, Int32.lt_iff_toInt_lt, Int32.le_iff_toInt_le, ← Int32.toInt_inj, Int32.toInt_add, Int32.toInt_sub, Int32.toInt_mul, Int32.toInt_neg, Int32.reduceToInt, g_bm, g_bm'] at *); omega)
set_option maxRecDepth 100000 in
theorem g_X3_meetLater_v14 (u : qS) (x : Int32) (r_60 : Int32) (hx : 0 ≤ x ∧ x < u.1 10) (hz8 : 0 ≤ u.1 8 ∧ u.1 8 ≤ 20) (hz9 : 0 ≤ u.1 9 ∧ u.1 9 ≤ 8) (hz10 : 0 ≤ u.1 10 ∧ u.1 10 ≤ 120) (hz12 : 0 ≤ u.1 12 ∧ u.1 12 ≤ 16) : 0 ≤ (x + 1) := by
  first | omega | ((try simp only [g_m1, Int32.lt_iff_toInt_lt, Int32.le_iff_toInt_le, ← Int32.toInt_inj, Int32.reduceToInt] at *); omega) | ((try have ez0 : (x + 1 : Int32).toInt = (x : Int32).toInt + (1 : Int32).toInt := g_add (by (try simp only [g_m1, Int32.lt_iff_toInt_lt, Int32.le_iff_toInt_le, ← Int32.toInt_inj, Int32.reduceToInt] at *); omega) (by (try simp only [g_m1, Int32.lt_iff_toInt_lt, Int32.le_iff_toInt_le, ← Int32.toInt_inj, Int32.reduceToInt] at *); omega)); (try simp only [g_m1, Int32.lt_iff_toInt_lt, Int32.le_iff_toInt_le, ← Int32.toInt_inj, Int32.reduceToInt] at *); omega) | ((try simp only [g_m1, Int32.lt_iff_toInt_lt, Int32.le_iff_toInt_le, ← Int32.toInt_inj, Int32.toInt_add, Int32.toInt_sub, Int32.toInt_mul, Int32.toInt_neg, Int32.reduceToInt, g_bm, g_bm'] at *); omega) | (have qr1 := g_rng x; have qr3 := g_rng r_60; (try simp only [g_m1, Int32.lt_iff_toInt_lt, Int32.le_iff_toInt_le, ← Int32.toInt_inj, Int32.toInt_add, Int32.toInt_sub, Int32.toInt_mul, Int32.toInt_neg, Int32.reduceToInt, g_bm, g_bm'] at *); omega) | (simp only [g_m1, Int32.lt_iff_toInt_lt, Int32.le_iff_toInt_le, ← Int32.toInt_inj, Int32.toInt_add, Int32.toInt_sub, Int32.toInt_mul, Int32.toInt_neg, Int32.reduceToInt, g_bm, g_bm'] at *; simp at *; omega) | (simp_all; done)
set_option maxHeartbeats 1000000 in
set_option maxRecDepth 100000 in
theorem g_X3_meetLater (l : Launch) (E : qE) (A : Nat → Prop) (u : qS) (x : Int32) (hI : IC E u) (hx : 0 ≤ x ∧ x < u.1 10) : Met l yX3_meetLater (uws yX3_meetLater cX3_meetLater 6 none) (qR 3 0 0) (qPc E A 0 u [.ref (E.2.2 399), .int x]) (qQv E A 0 (fun u1 => (qFc [] [303, 304, 305] [] [] u u1 ∧ IC E u1 ∧ u1.2.2.2.2 = u.2.2.2.2) ∧ (True))) 0 0 A := by
  refine q_met (own := RX3) (f := 3) [.ref (E.2.2 399), .int x] (by decide) (Nat.le_of_ble_eq_true rfl) rfl ?_
  intro p0 e0 s0 m0 bl0 me0 cd0 ls hF hr hlocks hU hS hA hl
  have hl : lv_has ls 6 [(0, .ref (E.2.2 399)), (1, .int x)] := hl
  have hkd : u.2.2.2.2 = u.2.2.2.2 := rfl
  have hz8 : 0 ≤ u.1 8 ∧ u.1 8 ≤ 20 := hI.1.s8
  have hz9 : 0 ≤ u.1 9 ∧ u.1 9 ≤ 8 := hI.1.s9
  have hz10 : 0 ≤ u.1 10 ∧ u.1 10 ≤ 120 := hI.1.s10
  have hz12 : 0 ≤ u.1 12 ∧ u.1 12 ≤ 16 := hI.1.s12
  have hfr : qFc [] [303, 304, 305] [] [] u u := qFc.rf
  have main : ∀ n : Nat, (∀ (a2 : Nat) (x3 : Int32) (x4 : Int32) (uc : qS) (H : Heap) (locs : List Loc) (ls : Array Slot) (hfr : qFc [] [303, 304, 305] [] [] u uc) (hI : IC E uc) (hkd : uc.2.2.2.2 = u.2.2.2.2) (ha2 : qRv uc a2) (h_k : 0 ≤ x4), ((u.1 10).toInt - x4.toInt).toNat < n → qH E A 0 uc s0 H → va_S A s0.heap H locs → lv_has ls 6 [(0, .ref (E.2.2 399)), (1, .int x), (2, .ref a2), (3, .int x3), (4, .int x4)] → W p0 l e0 (qR 3 0 0) s0 m0 ([.ref (E.2.2 399), .int x] : List Value).toArray bl0 me0 cd0 H locs 0 0 (MQ bl0 (qQv E A 0 (fun u1 => (qFc [] [303, 304, 305] [] [] u u1 ∧ IC E u1 ∧ u1.2.2.2.2 = u.2.2.2.2) ∧ (True))) ([.ref (E.2.2 399), .int x] : List Value).toArray s0 0 0 A) (F0 m0 20 ls [])) := by
    clear hI hfr hkd
    intro n
    induction n with
    | zero => exact fun _ _ _ _ _ _ _ _ _ _ _ _ hmu => absurd hmu (Nat.not_lt_zero _)
    | succ n ih =>
      intro a2 x3 x4 uc H locs ls hfr hI hkd ha2 h_k hmu hU hS hl
      refine lv_iload hF.1 hF.2.1 dX3_meetLater_20 (lv_at hl 4 rfl) ?_
      refine lv_aload_n hF.1 hF.2.1 dX3_meetLater_22 rfl (lv_at hl 0 rfl) ?_
      refine q_get (v := .ref (E.2.2 99)) hF hU dX3_meetLater_23 6 3 0 300 399 rfl rfl rfl rfl inX3 (by decide) (by decide) w_377 rfl rfl ?_
      refine q_get (v := .int (u.1 10)) hF hU dX3_meetLater_26 1 0 10 10 99 rfl rfl rfl rfl inX0 (by decide) (by decide) w_170 rfl (congrArg Value.int (hfr.1 10 (by decide))) ?_
      refine lv_icmp_ge (tgt := 114) hF.1 hF.2.1 dX3_meetLater_29 (by decide) (fun c29_1 => ?_) (fun c29_1 => ?_)
      · exact q_vret hF hr hlocks hU hS dX3_meetLater_114 ⟨⟨hfr, hI, hkd⟩, trivial⟩
      · refine lv_aload_n hF.1 hF.2.1 dX3_meetLater_32 rfl (lv_at hl 0 rfl) ?_
        refine q_get (v := .ref (E.2.2 99)) hF hU dX3_meetLater_33 6 3 0 300 399 rfl rfl rfl rfl inX3 (by decide) (by decide) w_377 rfl rfl ?_
        refine q_get (v := .ref (E.2.2 3)) hF hU dX3_meetLater_36 1 0 3 3 99 rfl rfl rfl rfl inX0 (by decide) (by decide) w_155 rfl rfl ?_
        refine lv_iload hF.1 hF.2.1 dX3_meetLater_39 (lv_at hl 4 rfl) ?_
        obtain ⟨a_2, ha_2_3_e, ha_2_3⟩ := hI.r3 x4 (by rw [(hfr.1 10 (by decide))]; exact (g_X3_meetLater_v0 u x x3 x4 hx hz8 hz9 hz10 hz12 h_k c29_1))
        refine q_aald (v := .ref a_2) hF hU dX3_meetLater_41 3 3 6 rfl rfl (by decide) rfl (g_X3_meetLater_v1 u x x4 hx hz8 hz9 hz10 hz12 h_k c29_1) (by rw [ha_2_3_e]; rfl) ?_
        have hM9 := g_X10_inWeek l E A uc a_2 hI ((ha_2_3).rf)
        obtain ⟨k_4, fs_5, hd_6⟩ := id ((ha_2_3).rf)
        have hR9 := q_runVd (l := l) (e := e0) (below := bl0) (meth := me0) (R := qR 3 0 0) (cells := 0) (slots := 0) (st0 := [.ref a_2]) (rest := []) hF hU hS hA 0 k_4 10 hd_6 rfl hM9 w_1000 w_972 w_973 w_110 w_974 (by decide +kernel) ⟨Nat.le_of_ble_eq_true rfl, Nat.le_of_ble_eq_true rfl⟩ dX3_meetLater_42 rfl hl.1 rfl (Nat.le_of_ble_eq_true rfl) ⟨Nat.le_of_ble_eq_true rfl, Nat.le_of_ble_eq_true rfl⟩
        refine q_calli hR9 hU.2.2.2 hS (fun r_9 u_7 H locs hw_8 hU hS => ?_)
        obtain ⟨hw_8_e, hw_8⟩ := hw_8
        rw [hw_8_e] at hU
        refine lv_iload_n hF.1 hF.2.1 dX3_meetLater_45 rfl (lv_at hl 3 rfl) ?_
        refine lv_icmp_ne (tgt := 114) hF.1 hF.2.1 dX3_meetLater_46 (by decide) (fun c46_10 => ?_) (fun c46_10 => ?_)
        · exact q_vret hF hr hlocks hU hS dX3_meetLater_114 ⟨⟨hfr, hI, hkd⟩, trivial⟩
        · refine lv_aload_n hF.1 hF.2.1 dX3_meetLater_49 rfl (lv_at hl 0 rfl) ?_
          refine q_get (v := .ref (E.2.2 99)) hF hU dX3_meetLater_50 6 3 0 300 399 rfl rfl rfl rfl inX3 (by decide) (by decide) w_377 rfl rfl ?_
          refine q_get (v := .ref (E.2.2 3)) hF hU dX3_meetLater_53 1 0 3 3 99 rfl rfl rfl rfl inX0 (by decide) (by decide) w_155 rfl rfl ?_
          refine lv_iload hF.1 hF.2.1 dX3_meetLater_56 (lv_at hl 4 rfl) ?_
          obtain ⟨a_11, ha_11_12_e, ha_11_12⟩ := hI.r3 x4 (by rw [(hfr.1 10 (by decide))]; exact (g_X3_meetLater_v2 u x x3 x4 r_9 hx hz8 hz9 hz10 hz12 h_k c29_1 c46_10))
          refine q_aald (v := .ref a_11) hF hU dX3_meetLater_58 3 3 6 rfl rfl (by decide) rfl (g_X3_meetLater_v3 u x x3 x4 r_9 hx hz8 hz9 hz10 hz12 h_k c29_1 c46_10) (by rw [ha_11_12_e]; rfl) ?_
          refine lv_astore (lv' := [(5, .ref a_11), (0, .ref (E.2.2 399)), (1, .int x), (2, .ref a2), (3, .int x3), (4, .int x4)]) hF.1 hF.2.1 dX3_meetLater_59 hl (by decide) rfl (fun ls hl => ?_)
          refine lv_aload hF.1 hF.2.1 dX3_meetLater_61 (lv_at hl 0 rfl) ?_
          obtain ⟨k_13, fs_14, hd_16, hv_17, hv_17_2, hv_17_3, -⟩ := hI.vf ((ha_11_12).rf) 2 (by decide)
          refine q_getd (v := .int (qfd uc.2.2.2.2 a_11 2)) hF hU dX3_meetLater_63 k_13 10 2 hd_16 rfl inX10 (by decide) w_591 rfl hv_17 ?_
          have hb_18 : 0 ≤ qfd uc.2.2.2.2 a_11 2 ∧ qfd uc.2.2.2.2 a_11 2 < (u.1 8) := (by have h9 := hv_17_2 rfl; rw [(hfr.1 8 (by decide))] at h9; exact h9)
          refine lv_aload_n hF.1 hF.2.1 dX3_meetLater_66 rfl (lv_at hl 3 rfl) ?_
          obtain ⟨k_19, fs_20, hd_22, hv_23, hv_23_2, hv_23_3, -⟩ := hI.vf ((ha2).rf) 2 (by decide)
          refine q_getd (v := .int (qfd uc.2.2.2.2 a2 2)) hF hU dX3_meetLater_67 k_19 10 2 hd_22 rfl inX10 (by decide) w_591 rfl hv_23 ?_
          have hb_24 : 0 ≤ qfd uc.2.2.2.2 a2 2 ∧ qfd uc.2.2.2.2 a2 2 < (u.1 8) := (by have h9 := hv_23_2 rfl; rw [(hfr.1 8 (by decide))] at h9; exact h9)
          refine lv_icmp_ne (tgt := 108) hF.1 hF.2.1 dX3_meetLater_70 (by decide) (fun c70_25 => ?_) (fun c70_25 => ?_)
          · refine lv_iinc (v := x4 + 1) (lv' := [(4, .int (x4 + 1)), (5, .ref a_11), (0, .ref (E.2.2 399)), (1, .int x), (2, .ref a2), (3, .int x3)]) hF.1 hF.2.1 dX3_meetLater_108 hl (k := 5) rfl rfl (by decide) rfl (fun ls hl => ?_)
            refine lv_goto (tgt := 20) hF.1 hF.2.1 dX3_meetLater_111 (by decide) ?_
            exact ih a2 x3 (x4 + 1) uc _ _ _ hfr hI hkd ha2 (g_X3_meetLater_v4 u x a2 x3 x4 uc r_9 a_11 hx hz8 hz9 hz10 hz12 h_k c29_1 c46_10 hb_18 hb_24 c70_25) (Nat.lt_of_lt_of_le (g_X3_meetLater_v5 u x a2 x3 x4 uc r_9 a_11 hx hz8 hz9 hz10 hz12 h_k c29_1 c46_10 hb_18 hb_24 c70_25) (Nat.lt_succ_iff.mp hmu)) hU hS (lv_sub hl [2, 3, 4, 5, 0] rfl)
          · refine lv_aload hF.1 hF.2.1 dX3_meetLater_73 (lv_at hl 0 rfl) ?_
            obtain ⟨k_26, fs_27, hd_29, hv_30, hv_30_2, hv_30_3, -⟩ := hI.vf ((ha_11_12).rf) 3 (by decide)
            refine q_getd (v := .int (qfd uc.2.2.2.2 a_11 3)) hF hU dX3_meetLater_75 k_26 10 3 hd_29 rfl inX10 (by decide) w_597 rfl hv_30 ?_
            have hb_31 : 0 ≤ qfd uc.2.2.2.2 a_11 3 ∧ qfd uc.2.2.2.2 a_11 3 < (u.1 9) := (by have h9 := hv_30_3 rfl; rw [(hfr.1 9 (by decide))] at h9; exact h9)
            refine lv_aload_n hF.1 hF.2.1 dX3_meetLater_78 rfl (lv_at hl 3 rfl) ?_
            obtain ⟨k_32, fs_33, hd_35, hv_36, hv_36_2, hv_36_3, -⟩ := hI.vf ((ha2).rf) 3 (by decide)
            refine q_getd (v := .int (qfd uc.2.2.2.2 a2 3)) hF hU dX3_meetLater_79 k_32 10 3 hd_35 rfl inX10 (by decide) w_597 rfl hv_36 ?_
            have hb_37 : 0 ≤ qfd uc.2.2.2.2 a2 3 ∧ qfd uc.2.2.2.2 a2 3 < (u.1 9) := (by have h9 := hv_36_3 rfl; rw [(hfr.1 9 (by decide))] at h9; exact h9)
            refine lv_icmp_eq (tgt := 108) hF.1 hF.2.1 dX3_meetLater_82 (by decide) (fun c82_38 => ?_) (fun c82_38 => ?_)
            · refine lv_iinc (v := x4 + 1) (lv' := [(4, .int (x4 + 1)), (5, .ref a_11), (0, .ref (E.2.2 399)), (1, .int x), (2, .ref a2), (3, .int x3)]) hF.1 hF.2.1 dX3_meetLater_108 hl (k := 5) rfl rfl (by decide) rfl (fun ls hl => ?_)
              refine lv_goto (tgt := 20) hF.1 hF.2.1 dX3_meetLater_111 (by decide) ?_
              exact ih a2 x3 (x4 + 1) uc _ _ _ hfr hI hkd ha2 (g_X3_meetLater_v6 u x a2 x3 x4 uc r_9 a_11 hx hz8 hz9 hz10 hz12 h_k c29_1 c46_10 hb_18 hb_24 c70_25 hb_31 hb_37 c82_38) (Nat.lt_of_lt_of_le (g_X3_meetLater_v7 u x a2 x3 x4 uc r_9 a_11 hx hz8 hz9 hz10 hz12 h_k c29_1 c46_10 hb_18 hb_24 c70_25 hb_31 hb_37 c82_38) (Nat.lt_succ_iff.mp hmu)) hU hS (lv_sub hl [2, 3, 4, 5, 0] rfl)
            · refine lv_aload_n hF.1 hF.2.1 dX3_meetLater_85 rfl (lv_at hl 1 rfl) ?_
              refine lv_aload hF.1 hF.2.1 dX3_meetLater_86 (lv_at hl 0 rfl) ?_
              have hM9 := g_X3_isTaken l E A uc a_11 hI ((ha_11_12).rf)
              have hR9 := q_runV (l := l) (e := e0) (below := bl0) (meth := me0) (R := qR 3 0 0) (cells := 0) (slots := 0) (st0 := [.ref a_11, .ref (E.2.2 399)]) (rest := []) hF hU hS hA 1 6 3 399 rfl rfl rfl hM9 w_990 w_992 w_32 w_105 w_993 (by decide +kernel) ⟨Nat.le_of_ble_eq_true rfl, Nat.le_of_ble_eq_true rfl⟩ dX3_meetLater_88 rfl hl.1 rfl (Nat.le_of_ble_eq_true rfl) ⟨Nat.le_of_ble_eq_true rfl, Nat.le_of_ble_eq_true rfl⟩
              refine q_calli hR9 hU.2.2.2 hS (fun r_41 u_39 H locs hw_40 hU hS => ?_)
              obtain ⟨hw_40_e, hw_40⟩ := hw_40
              rw [hw_40_e] at hU
              rcases hw_40 with rfl | rfl
              · refine lv_if_eq (tgt := 108) hF.1 hF.2.1 dX3_meetLater_91 (by decide) (fun h9 => absurd h9 (by decide)) (fun _ => ?_)
                refine lv_aload_n hF.1 hF.2.1 dX3_meetLater_94 rfl (lv_at hl 1 rfl) ?_
                refine lv_aload_n hF.1 hF.2.1 dX3_meetLater_95 rfl (lv_at hl 3 rfl) ?_
                refine lv_aload hF.1 hF.2.1 dX3_meetLater_96 (lv_at hl 0 rfl) ?_
                have hM9 := g_X3_meet l E A uc a2 a_11 hI ((ha2).rf) ((ha_11_12).rf)
                have hR9 := q_runV (l := l) (e := e0) (below := bl0) (meth := me0) (R := qR 3 0 0) (cells := 0) (slots := 0) (st0 := [.ref a_11, .ref a2, .ref (E.2.2 399)]) (rest := []) hF hU hS hA 2 6 3 399 rfl rfl rfl hM9 w_1001 w_1003 w_34 w_105 w_1004 (by decide +kernel) ⟨Nat.le_of_ble_eq_true rfl, Nat.le_of_ble_eq_true rfl⟩ dX3_meetLater_98 rfl hl.1 rfl (Nat.le_of_ble_eq_true rfl) ⟨Nat.le_of_ble_eq_true rfl, Nat.le_of_ble_eq_true rfl⟩
                refine q_callv hR9 hU.2.2.2 hS (fun u_43 H locs hw_44 hU hS => ?_)
                obtain ⟨⟨hw_44_f, hI, hw_44_d⟩, hw_44⟩ := hw_44
                have hfo := hfr
                have hfr : qFc [] [303, 304, 305] [] [] u u_43 := hfr.trans (hw_44_f.mono (by decide) (by decide) (by decide) (by decide))
                have hr_46 : qRv u_43 a_11 := hw_44_f.v _ ha_11_12
                have hr_47 : qRv u_43 a2 := hw_44_f.v _ ha2
                have hkd : u_43.2.2.2.2 = u.2.2.2.2 := hw_44_d.trans hkd
                refine lv_aload_n hF.1 hF.2.1 dX3_meetLater_101 rfl (lv_at hl 1 rfl) ?_
                refine lv_aload hF.1 hF.2.1 dX3_meetLater_102 (lv_at hl 0 rfl) ?_
                refine lv_aload_n hF.1 hF.2.1 dX3_meetLater_104 rfl (lv_at hl 3 rfl) ?_
                have hM9 := g_X3_meet l E A u_43 a_11 a2 hI ((hr_46).rf) ((hr_47).rf)
                have hR9 := q_runV (l := l) (e := e0) (below := bl0) (meth := me0) (R := qR 3 0 0) (cells := 0) (slots := 0) (st0 := [.ref a2, .ref a_11, .ref (E.2.2 399)]) (rest := []) hF hU hS hA 2 6 3 399 rfl rfl rfl hM9 w_1001 w_1003 w_34 w_105 w_1004 (by decide +kernel) ⟨Nat.le_of_ble_eq_true rfl, Nat.le_of_ble_eq_true rfl⟩ dX3_meetLater_105 rfl hl.1 rfl (Nat.le_of_ble_eq_true rfl) ⟨Nat.le_of_ble_eq_true rfl, Nat.le_of_ble_eq_true rfl⟩
                refine q_callv hR9 hU.2.2.2 hS (fun u_48 H locs hw_49 hU hS => ?_)
                obtain ⟨⟨hw_49_f, hI, hw_49_d⟩, hw_49⟩ := hw_49
                have hfo := hfr
                have hfr : qFc [] [303, 304, 305] [] [] u u_48 := hfr.trans (hw_49_f.mono (by decide) (by decide) (by decide) (by decide))
                have hr_51 : qRv u_48 a_11 := hw_49_f.v _ hr_46
                have hr_52 : qRv u_48 a2 := hw_49_f.v _ hr_47
                have hkd : u_48.2.2.2.2 = u.2.2.2.2 := hw_49_d.trans hkd
                refine lv_iinc (v := x4 + 1) (lv' := [(4, .int (x4 + 1)), (5, .ref a_11), (0, .ref (E.2.2 399)), (1, .int x), (2, .ref a2), (3, .int x3)]) hF.1 hF.2.1 dX3_meetLater_108 hl (k := 5) rfl rfl (by decide) rfl (fun ls hl => ?_)
                refine lv_goto (tgt := 20) hF.1 hF.2.1 dX3_meetLater_111 (by decide) ?_
                exact ih a2 x3 (x4 + 1) u_48 _ _ _ hfr hI hkd hr_52 (g_X3_meetLater_v8 u x a2 x3 x4 uc r_9 a_11 hx hz8 hz9 hz10 hz12 h_k c29_1 c46_10 hb_18 hb_24 c70_25 hb_31 hb_37 c82_38) (Nat.lt_of_lt_of_le (g_X3_meetLater_v9 u x a2 x3 x4 uc r_9 a_11 hx hz8 hz9 hz10 hz12 h_k c29_1 c46_10 hb_18 hb_24 c70_25 hb_31 hb_37 c82_38) (Nat.lt_succ_iff.mp hmu)) hU hS (lv_sub hl [2, 3, 4, 5, 0] rfl)
              · refine lv_if_eq (tgt := 108) hF.1 hF.2.1 dX3_meetLater_91 (by decide) (fun _ => ?_) (fun h9 => absurd (by decide) h9)
                refine lv_iinc (v := x4 + 1) (lv' := [(4, .int (x4 + 1)), (5, .ref a_11), (0, .ref (E.2.2 399)), (1, .int x), (2, .ref a2), (3, .int x3)]) hF.1 hF.2.1 dX3_meetLater_108 hl (k := 5) rfl rfl (by decide) rfl (fun ls hl => ?_)
                refine lv_goto (tgt := 20) hF.1 hF.2.1 dX3_meetLater_111 (by decide) ?_
                exact ih a2 x3 (x4 + 1) uc _ _ _ hfr hI hkd ha2 (g_X3_meetLater_v10 u x a2 x3 x4 uc r_9 a_11 hx hz8 hz9 hz10 hz12 h_k c29_1 c46_10 hb_18 hb_24 c70_25 hb_31 hb_37 c82_38) (Nat.lt_of_lt_of_le (g_X3_meetLater_v11 u x a2 x3 x4 uc r_9 a_11 hx hz8 hz9 hz10 hz12 h_k c29_1 c46_10 hb_18 hb_24 c70_25 hb_31 hb_37 c82_38) (Nat.lt_succ_iff.mp hmu)) hU hS (lv_sub hl [2, 3, 4, 5, 0] rfl)
  refine lv_aload_n hF.1 hF.2.1 dX3_meetLater_0 rfl (lv_at hl 0 rfl) ?_
  refine q_get (v := .ref (E.2.2 99)) hF hU dX3_meetLater_1 6 3 0 300 399 rfl rfl rfl rfl inX3 (by decide) (by decide) w_377 rfl rfl ?_
  refine q_get (v := .ref (E.2.2 3)) hF hU dX3_meetLater_4 1 0 3 3 99 rfl rfl rfl rfl inX0 (by decide) (by decide) w_155 rfl rfl ?_
  refine lv_iload_n hF.1 hF.2.1 dX3_meetLater_7 rfl (lv_at hl 1 rfl) ?_
  obtain ⟨a_53, ha_53_54_e, ha_53_54⟩ := hI.r3 x (g_X3_meetLater_v12 u x hx hz8 hz9 hz10 hz12)
  refine q_aald (v := .ref a_53) hF hU dX3_meetLater_8 3 3 6 rfl rfl (by decide) rfl (g_X3_meetLater_v13 u x hx hz8 hz9 hz10 hz12) (by rw [ha_53_54_e]; rfl) ?_
  refine lv_astore_n (lv' := [(2, .ref a_53), (0, .ref (E.2.2 399)), (1, .int x)]) hF.1 hF.2.1 dX3_meetLater_9 rfl hl (by decide) rfl (fun ls hl => ?_)
  refine lv_aload_n hF.1 hF.2.1 dX3_meetLater_10 rfl (lv_at hl 0 rfl) ?_
  have hM9 := g_X10_inWeek l E A u a_53 hI ((ha_53_54).rf)
  obtain ⟨k_55, fs_56, hd_57⟩ := id ((ha_53_54).rf)
  have hR9 := q_runVd (l := l) (e := e0) (below := bl0) (meth := me0) (R := qR 3 0 0) (cells := 0) (slots := 0) (st0 := [.ref a_53]) (rest := []) hF hU hS hA 0 k_55 10 hd_57 rfl hM9 w_1000 w_972 w_973 w_110 w_974 (by decide +kernel) ⟨Nat.le_of_ble_eq_true rfl, Nat.le_of_ble_eq_true rfl⟩ dX3_meetLater_11 rfl hl.1 rfl (Nat.le_of_ble_eq_true rfl) ⟨Nat.le_of_ble_eq_true rfl, Nat.le_of_ble_eq_true rfl⟩
  refine q_calli hR9 hU.2.2.2 hS (fun r_60 u_58 H locs hw_59 hU hS => ?_)
  obtain ⟨hw_59_e, hw_59⟩ := hw_59
  rw [hw_59_e] at hU
  refine lv_istore_n (lv' := [(3, .int r_60), (2, .ref a_53), (0, .ref (E.2.2 399)), (1, .int x)]) hF.1 hF.2.1 dX3_meetLater_14 rfl hl (by decide) rfl (fun ls hl => ?_)
  refine lv_iload_n hF.1 hF.2.1 dX3_meetLater_15 rfl (lv_at hl 3 rfl) ?_
  refine lv_iconst (v := 1) hF.1 hF.2.1 dX3_meetLater_16 (by decide) ?_
  refine lv_iadd hF.1 hF.2.1 dX3_meetLater_17 ?_
  refine lv_istore (lv' := [(4, .int (x + 1)), (3, .int r_60), (2, .ref a_53), (0, .ref (E.2.2 399)), (1, .int x)]) hF.1 hF.2.1 dX3_meetLater_18 hl (by decide) rfl (fun ls hl => ?_)
  exact (main _) a_53 r_60 (x + 1) u _ _ _ hfr hI hkd ha_53_54 (g_X3_meetLater_v14 u x r_60 hx hz8 hz9 hz10 hz12) (Nat.lt_succ_self _) hU hS (lv_sub hl [3, 4, 2, 1, 0] rfl)
set_option maxRecDepth 100000 in
theorem g_X3_refresh_v0 (u : qS) (x1 : Int32) (hz8 : 0 ≤ u.1 8 ∧ u.1 8 ≤ 20) (hz9 : 0 ≤ u.1 9 ∧ u.1 9 ≤ 8) (hz10 : 0 ≤ u.1 10 ∧ u.1 10 ≤ 120) (hz12 : 0 ≤ u.1 12 ∧ u.1 12 ≤ 16) (h_k : 0 ≤ x1) (c74_1 : ¬ (u.1 10) ≤ (x1 : Int32)) : 0 ≤ x1 ∧ x1 < (u.1 10) := by
  first | omega | ((try simp only [g_m1, Int32.lt_iff_toInt_lt, Int32.le_iff_toInt_le, ← Int32.toInt_inj, Int32.reduceToInt] at *); omega) | ((try simp only [g_m1, Int32.lt_iff_toInt_lt, Int32.le_iff_toInt_le, ← Int32.toInt_inj, Int32.reduceToInt] at *); omega) | ((try simp only [g_m1, Int32.lt_iff_toInt_lt, Int32.le_iff_toInt_le, ← Int32.toInt_inj, Int32.toInt_add, Int32.toInt_sub, Int32.toInt_mul, Int32.toInt_neg, Int32.reduceToInt, g_bm, g_bm'] at *); omega) | (have qr1 := g_rng x1; (try simp only [g_m1, Int32.lt_iff_toInt_lt, Int32.le_iff_toInt_le, ← Int32.toInt_inj, Int32.toInt_add, Int32.toInt_sub, Int32.toInt_mul, Int32.toInt_neg, Int32.reduceToInt, g_bm, g_bm'] at *); omega) | (simp only [g_m1, Int32.lt_iff_toInt_lt, Int32.le_iff_toInt_le, ← Int32.toInt_inj, Int32.toInt_add, Int32.toInt_sub, Int32.toInt_mul, Int32.toInt_neg, Int32.reduceToInt, g_bm, g_bm'] at *; simp at *; omega) | (simp_all; done)
set_option maxRecDepth 100000 in
theorem g_X3_refresh_v1 (u : qS) (x1 : Int32) (hz8 : 0 ≤ u.1 8 ∧ u.1 8 ≤ 20) (hz9 : 0 ≤ u.1 9 ∧ u.1 9 ≤ 8) (hz10 : 0 ≤ u.1 10 ∧ u.1 10 ≤ 120) (hz12 : 0 ≤ u.1 12 ∧ u.1 12 ≤ 16) (h_k : 0 ≤ x1) (c74_1 : ¬ (u.1 10) ≤ (x1 : Int32)) : vp_in (x1) 120 := by
  refine g_in ?_ ?_ <;> ((try simp only [g_m1, Int32.lt_iff_toInt_lt, Int32.le_iff_toInt_le, ← Int32.toInt_inj, Int32.toInt_add, Int32.toInt_sub, Int32.toInt_mul, Int32.toInt_neg, Int32.reduceToInt, g_bm, g_bm'] at *); omega)
set_option maxRecDepth 100000 in
theorem g_X3_refresh_v2 (u : qS) (x1 : Int32) (hz8 : 0 ≤ u.1 8 ∧ u.1 8 ≤ 20) (hz9 : 0 ≤ u.1 9 ∧ u.1 9 ≤ 8) (hz10 : 0 ≤ u.1 10 ∧ u.1 10 ≤ 120) (hz12 : 0 ≤ u.1 12 ∧ u.1 12 ≤ 16) (h_k : 0 ≤ x1) (c74_1 : ¬ (u.1 10) ≤ (x1 : Int32)) : 0 ≤ x1 ∧ x1 < (u.1 10 : Int32) := by
  first | omega | ((try simp only [g_m1, Int32.lt_iff_toInt_lt, Int32.le_iff_toInt_le, ← Int32.toInt_inj, Int32.reduceToInt] at *); omega) | ((try simp only [g_m1, Int32.lt_iff_toInt_lt, Int32.le_iff_toInt_le, ← Int32.toInt_inj, Int32.reduceToInt] at *); omega) | ((try simp only [g_m1, Int32.lt_iff_toInt_lt, Int32.le_iff_toInt_le, ← Int32.toInt_inj, Int32.toInt_add, Int32.toInt_sub, Int32.toInt_mul, Int32.toInt_neg, Int32.reduceToInt, g_bm, g_bm'] at *); omega) | (have qr1 := g_rng x1; (try simp only [g_m1, Int32.lt_iff_toInt_lt, Int32.le_iff_toInt_le, ← Int32.toInt_inj, Int32.toInt_add, Int32.toInt_sub, Int32.toInt_mul, Int32.toInt_neg, Int32.reduceToInt, g_bm, g_bm'] at *); omega) | (simp only [g_m1, Int32.lt_iff_toInt_lt, Int32.le_iff_toInt_le, ← Int32.toInt_inj, Int32.toInt_add, Int32.toInt_sub, Int32.toInt_mul, Int32.toInt_neg, Int32.reduceToInt, g_bm, g_bm'] at *; simp at *; omega) | (simp_all; done)
set_option maxRecDepth 100000 in
theorem g_X3_refresh_v3 (u : qS) (x1 : Int32) (hz8 : 0 ≤ u.1 8 ∧ u.1 8 ≤ 20) (hz9 : 0 ≤ u.1 9 ∧ u.1 9 ≤ 8) (hz10 : 0 ≤ u.1 10 ∧ u.1 10 ≤ 120) (hz12 : 0 ≤ u.1 12 ∧ u.1 12 ≤ 16) (h_k : 0 ≤ x1) (c74_1 : ¬ (u.1 10) ≤ (x1 : Int32)) : 0 ≤ (x1 + 1) := by
  first | omega | ((try simp only [g_m1, Int32.lt_iff_toInt_lt, Int32.le_iff_toInt_le, ← Int32.toInt_inj, Int32.reduceToInt] at *); omega) | ((try have ez0 : (x1 + 1 : Int32).toInt = (x1 : Int32).toInt + (1 : Int32).toInt := g_add (by (try simp only [g_m1, Int32.lt_iff_toInt_lt, Int32.le_iff_toInt_le, ← Int32.toInt_inj, Int32.reduceToInt] at *); omega) (by (try simp only [g_m1, Int32.lt_iff_toInt_lt, Int32.le_iff_toInt_le, ← Int32.toInt_inj, Int32.reduceToInt] at *); omega)); (try simp only [g_m1, Int32.lt_iff_toInt_lt, Int32.le_iff_toInt_le, ← Int32.toInt_inj, Int32.reduceToInt] at *); omega) | ((try simp only [g_m1, Int32.lt_iff_toInt_lt, Int32.le_iff_toInt_le, ← Int32.toInt_inj, Int32.toInt_add, Int32.toInt_sub, Int32.toInt_mul, Int32.toInt_neg, Int32.reduceToInt, g_bm, g_bm'] at *); omega) | (have qr1 := g_rng x1; (try simp only [g_m1, Int32.lt_iff_toInt_lt, Int32.le_iff_toInt_le, ← Int32.toInt_inj, Int32.toInt_add, Int32.toInt_sub, Int32.toInt_mul, Int32.toInt_neg, Int32.reduceToInt, g_bm, g_bm'] at *); omega) | (simp only [g_m1, Int32.lt_iff_toInt_lt, Int32.le_iff_toInt_le, ← Int32.toInt_inj, Int32.toInt_add, Int32.toInt_sub, Int32.toInt_mul, Int32.toInt_neg, Int32.reduceToInt, g_bm, g_bm'] at *; simp at *; omega) | (simp_all; done)
set_option maxRecDepth 100000 in
theorem g_X3_refresh_v4 (u : qS) (x1 : Int32) (hz8 : 0 ≤ u.1 8 ∧ u.1 8 ≤ 20) (hz9 : 0 ≤ u.1 9 ∧ u.1 9 ≤ 8) (hz10 : 0 ≤ u.1 10 ∧ u.1 10 ≤ 120) (hz12 : 0 ≤ u.1 12 ∧ u.1 12 ≤ 16) (h_k : 0 ≤ x1) (c74_1 : ¬ (u.1 10) ≤ (x1 : Int32)) : ((u.1 10).toInt - (x1 + 1).toInt).toNat < ((u.1 10).toInt - x1.toInt).toNat := by
  first | omega | ((try simp only [g_m1, Int32.lt_iff_toInt_lt, Int32.le_iff_toInt_le, ← Int32.toInt_inj, Int32.reduceToInt] at *); omega) | ((try have ez0 : (x1 + 1 : Int32).toInt = (x1 : Int32).toInt + (1 : Int32).toInt := g_add (by (try simp only [g_m1, Int32.lt_iff_toInt_lt, Int32.le_iff_toInt_le, ← Int32.toInt_inj, Int32.reduceToInt] at *); omega) (by (try simp only [g_m1, Int32.lt_iff_toInt_lt, Int32.le_iff_toInt_le, ← Int32.toInt_inj, Int32.reduceToInt] at *); omega)); (try simp only [g_m1, Int32.lt_iff_toInt_lt, Int32.le_iff_toInt_le, ← Int32.toInt_inj, Int32.reduceToInt] at *); omega) | ((try simp only [g_m1, Int32.lt_iff_toInt_lt, Int32.le_iff_toInt_le, ← Int32.toInt_inj, Int32.toInt_add, Int32.toInt_sub, Int32.toInt_mul, Int32.toInt_neg, Int32.reduceToInt, g_bm, g_bm'] at *); omega) | (have qr1 := g_rng x1; (try simp only [g_m1, Int32.lt_iff_toInt_lt, Int32.le_iff_toInt_le, ← Int32.toInt_inj, Int32.toInt_add, Int32.toInt_sub, Int32.toInt_mul, Int32.toInt_neg, Int32.reduceToInt, g_bm, g_bm'] at *); omega) | (simp only [g_m1, Int32.lt_iff_toInt_lt, Int32.le_iff_toInt_le, ← Int32.toInt_inj, Int32.toInt_add, Int32.toInt_sub, Int32.toInt_mul, Int32.toInt_neg, Int32.reduceToInt, g_bm, g_bm'] at *; simp at *; omega) | (simp_all; done)
set_option maxRecDepth 100000 in
theorem g_X3_refresh_v5 (u : qS) (x1 : Int32) (hz8 : 0 ≤ u.1 8 ∧ u.1 8 ≤ 20) (hz9 : 0 ≤ u.1 9 ∧ u.1 9 ≤ 8) (hz10 : 0 ≤ u.1 10 ∧ u.1 10 ≤ 120) (hz12 : 0 ≤ u.1 12 ∧ u.1 12 ≤ 16) (h_k : 0 ≤ x1) (c74_1 : ¬ (u.1 10) ≤ (x1 : Int32)) : 0 ≤ (x1 + 1) := by
  first | omega | ((try simp only [g_m1, Int32.lt_iff_toInt_lt, Int32.le_iff_toInt_le, ← Int32.toInt_inj, Int32.reduceToInt] at *); omega) | ((try have ez0 : (x1 + 1 : Int32).toInt = (x1 : Int32).toInt + (1 : Int32).toInt := g_add (by (try simp only [g_m1, Int32.lt_iff_toInt_lt, Int32.le_iff_toInt_le, ← Int32.toInt_inj, Int32.reduceToInt] at *); omega) (by (try simp only [g_m1, Int32.lt_iff_toInt_lt, Int32.le_iff_toInt_le, ← Int32.toInt_inj, Int32.reduceToInt] at *); omega)); (try simp only [g_m1, Int32.lt_iff_toInt_lt, Int32.le_iff_toInt_le, ← Int32.toInt_inj, Int32.reduceToInt] at *); omega) | ((try simp only [g_m1, Int32.lt_iff_toInt_lt, Int32.le_iff_toInt_le, ← Int32.toInt_inj, Int32.toInt_add, Int32.toInt_sub, Int32.toInt_mul, Int32.toInt_neg, Int32.reduceToInt, g_bm, g_bm'] at *); omega) | (have qr1 := g_rng x1; (try simp only [g_m1, Int32.lt_iff_toInt_lt, Int32.le_iff_toInt_le, ← Int32.toInt_inj, Int32.toInt_add, Int32.toInt_sub, Int32.toInt_mul, Int32.toInt_neg, Int32.reduceToInt, g_bm, g_bm'] at *); omega) | (simp only [g_m1, Int32.lt_iff_toInt_lt, Int32.le_iff_toInt_le, ← Int32.toInt_inj, Int32.toInt_add, Int32.toInt_sub, Int32.toInt_mul, Int32.toInt_neg, Int32.reduceToInt, g_bm, g_bm'] at *; simp at *; omega) | (simp_all; done)
set_option maxRecDepth 100000 in
theorem g_X3_refresh_v6 (u : qS) (x1 : Int32) (hz8 : 0 ≤ u.1 8 ∧ u.1 8 ≤ 20) (hz9 : 0 ≤ u.1 9 ∧ u.1 9 ≤ 8) (hz10 : 0 ≤ u.1 10 ∧ u.1 10 ≤ 120) (hz12 : 0 ≤ u.1 12 ∧ u.1 12 ≤ 16) (h_k : 0 ≤ x1) (c74_1 : ¬ (u.1 10) ≤ (x1 : Int32)) : ((u.1 10).toInt - (x1 + 1).toInt).toNat < ((u.1 10).toInt - x1.toInt).toNat := by
  first | omega | ((try simp only [g_m1, Int32.lt_iff_toInt_lt, Int32.le_iff_toInt_le, ← Int32.toInt_inj, Int32.reduceToInt] at *); omega) | ((try have ez0 : (x1 + 1 : Int32).toInt = (x1 : Int32).toInt + (1 : Int32).toInt := g_add (by (try simp only [g_m1, Int32.lt_iff_toInt_lt, Int32.le_iff_toInt_le, ← Int32.toInt_inj, Int32.reduceToInt] at *); omega) (by (try simp only [g_m1, Int32.lt_iff_toInt_lt, Int32.le_iff_toInt_le, ← Int32.toInt_inj, Int32.reduceToInt] at *); omega)); (try simp only [g_m1, Int32.lt_iff_toInt_lt, Int32.le_iff_toInt_le, ← Int32.toInt_inj, Int32.reduceToInt] at *); omega) | ((try simp only [g_m1, Int32.lt_iff_toInt_lt, Int32.le_iff_toInt_le, ← Int32.toInt_inj, Int32.toInt_add, Int32.toInt_sub, Int32.toInt_mul, Int32.toInt_neg, Int32.reduceToInt, g_bm, g_bm'] at *); omega) | (have qr1 := g_rng x1; (try simp only [g_m1, Int32.lt_iff_toInt_lt, Int32.le_iff_toInt_le, ← Int32.toInt_inj, Int32.toInt_add, Int32.toInt_sub, Int32.toInt_mul, Int32.toInt_neg, Int32.reduceToInt, g_bm, g_bm'] at *); omega) | (simp only [g_m1, Int32.lt_iff_toInt_lt, Int32.le_iff_toInt_le, ← Int32.toInt_inj, Int32.toInt_add, Int32.toInt_sub, Int32.toInt_mul, Int32.toInt_neg, Int32.reduceToInt, g_bm, g_bm'] at *; simp at *; omega) | (simp_all; done)
set_option maxRecDepth 100000 in
theorem g_X3_refresh_v7 (u : qS) (hz8 : 0 ≤ u.1 8 ∧ u.1 8 ≤ 20) (hz9 : 0 ≤ u.1 9 ∧ u.1 9 ≤ 8) (hz10 : 0 ≤ u.1 10 ∧ u.1 10 ≤ 120) (hz12 : 0 ≤ u.1 12 ∧ u.1 12 ≤ 16) (c11_29 : ¬ (u.1 311 : Int32) = (u.1 18)) : 0 ≤ (0 : Int32) := by
  first | omega | ((try simp only [g_m1, Int32.lt_iff_toInt_lt, Int32.le_iff_toInt_le, ← Int32.toInt_inj, Int32.reduceToInt] at *); omega) | ((try simp only [g_m1, Int32.lt_iff_toInt_lt, Int32.le_iff_toInt_le, ← Int32.toInt_inj, Int32.reduceToInt] at *); omega) | ((try simp only [g_m1, Int32.lt_iff_toInt_lt, Int32.le_iff_toInt_le, ← Int32.toInt_inj, Int32.toInt_add, Int32.toInt_sub, Int32.toInt_mul, Int32.toInt_neg, Int32.reduceToInt, g_bm, g_bm'] at *); omega) | ((try simp only [g_m1, Int32.lt_iff_toInt_lt, Int32.le_iff_toInt_le, ← Int32.toInt_inj, Int32.toInt_add, Int32.toInt_sub, Int32.toInt_mul, Int32.toInt_neg, Int32.reduceToInt, g_bm, g_bm'] at *); omega) | (simp only [g_m1, Int32.lt_iff_toInt_lt, Int32.le_iff_toInt_le, ← Int32.toInt_inj, Int32.toInt_add, Int32.toInt_sub, Int32.toInt_mul, Int32.toInt_neg, Int32.reduceToInt, g_bm, g_bm'] at *; simp at *; omega) | (simp_all; done)
set_option maxHeartbeats 1000000 in
set_option maxRecDepth 100000 in
theorem g_X3_refresh (l : Launch) (E : qE) (A : Nat → Prop) (u : qS) (hI : IC E u) : Met l yX3_refresh (uws yX3_refresh cX3_refresh 2 none) (qR 7 0 0) (qPc E A 0 u [.ref (E.2.2 399)]) (qQv E A 0 (fun u1 => (qFc [900, 901, 902, 908, 909, 604, 605, 606, 607, 608, 609, 311] [905, 906, 907, 601, 602, 603, 303, 304, 305] [] [904] u u1 ∧ IC E u1) ∧ (True))) 0 0 A := by
  refine q_met (own := RX3) (f := 7) [.ref (E.2.2 399)] (by decide) (Nat.le_of_ble_eq_true rfl) rfl ?_
  intro p0 e0 s0 m0 bl0 me0 cd0 ls hF hr hlocks hU hS hA hl
  have hl : lv_has ls 2 [(0, .ref (E.2.2 399))] := hl
  have hz8 : 0 ≤ u.1 8 ∧ u.1 8 ≤ 20 := hI.1.s8
  have hz9 : 0 ≤ u.1 9 ∧ u.1 9 ≤ 8 := hI.1.s9
  have hz10 : 0 ≤ u.1 10 ∧ u.1 10 ≤ 120 := hI.1.s10
  have hz12 : 0 ≤ u.1 12 ∧ u.1 12 ≤ 16 := hI.1.s12
  have hfr : qFc [900, 901, 902, 908, 909, 604, 605, 606, 607, 608, 609, 311] [905, 906, 907, 601, 602, 603, 303, 304, 305] [] [904] u u := qFc.rf
  have main : ∀ n : Nat, (∀ (x1 : Int32) (uc : qS) (H : Heap) (locs : List Loc) (ls : Array Slot) (hfr : qFc [900, 901, 902, 908, 909, 604, 605, 606, 607, 608, 609, 311] [905, 906, 907, 601, 602, 603, 303, 304, 305] [] [904] u uc) (hI : IC E uc) (h_k : 0 ≤ x1), ((u.1 10).toInt - x1.toInt).toNat < n → qH E A 0 uc s0 H → va_S A s0.heap H locs → lv_has ls 2 [(0, .ref (E.2.2 399)), (1, .int x1)] → W p0 l e0 (qR 7 0 0) s0 m0 ([.ref (E.2.2 399)] : List Value).toArray bl0 me0 cd0 H locs 0 0 (MQ bl0 (qQv E A 0 (fun u1 => (qFc [900, 901, 902, 908, 909, 604, 605, 606, 607, 608, 609, 311] [905, 906, 907, 601, 602, 603, 303, 304, 305] [] [904] u u1 ∧ IC E u1) ∧ (True))) ([.ref (E.2.2 399)] : List Value).toArray s0 0 0 A) (F0 m0 66 ls [])) := by
    clear hI hfr
    intro n
    induction n with
    | zero => exact fun _ _ _ _ _ _ _ _ hmu => absurd hmu (Nat.not_lt_zero _)
    | succ n ih =>
      intro x1 uc H locs ls hfr hI h_k hmu hU hS hl
      refine lv_iload_n hF.1 hF.2.1 dX3_refresh_66 rfl (lv_at hl 1 rfl) ?_
      refine lv_aload_n hF.1 hF.2.1 dX3_refresh_67 rfl (lv_at hl 0 rfl) ?_
      refine q_get (v := .ref (E.2.2 99)) hF hU dX3_refresh_68 6 3 0 300 399 rfl rfl rfl rfl inX3 (by decide) (by decide) w_377 rfl rfl ?_
      refine q_get (v := .int (u.1 10)) hF hU dX3_refresh_71 1 0 10 10 99 rfl rfl rfl rfl inX0 (by decide) (by decide) w_170 rfl (congrArg Value.int (hfr.1 10 (by decide))) ?_
      refine lv_icmp_ge (tgt := 104) hF.1 hF.2.1 dX3_refresh_74 (by decide) (fun c74_1 => ?_) (fun c74_1 => ?_)
      · exact q_vret hF hr hlocks hU hS dX3_refresh_104 ⟨⟨hfr, hI⟩, trivial⟩
      · refine lv_aload_n hF.1 hF.2.1 dX3_refresh_77 rfl (lv_at hl 0 rfl) ?_
        refine lv_aload_n hF.1 hF.2.1 dX3_refresh_78 rfl (lv_at hl 0 rfl) ?_
        refine q_get (v := .ref (E.2.2 99)) hF hU dX3_refresh_79 6 3 0 300 399 rfl rfl rfl rfl inX3 (by decide) (by decide) w_377 rfl rfl ?_
        refine q_get (v := .ref (E.2.2 3)) hF hU dX3_refresh_82 1 0 3 3 99 rfl rfl rfl rfl inX0 (by decide) (by decide) w_155 rfl rfl ?_
        refine lv_iload_n hF.1 hF.2.1 dX3_refresh_85 rfl (lv_at hl 1 rfl) ?_
        obtain ⟨a_2, ha_2_3_e, ha_2_3⟩ := hI.r3 x1 (by rw [(hfr.1 10 (by decide))]; exact (g_X3_refresh_v0 u x1 hz8 hz9 hz10 hz12 h_k c74_1))
        refine q_aald (v := .ref a_2) hF hU dX3_refresh_86 3 3 6 rfl rfl (by decide) rfl (g_X3_refresh_v1 u x1 hz8 hz9 hz10 hz12 h_k c74_1) (by rw [ha_2_3_e]; rfl) ?_
        have hM9 := g_X3_isTaken l E A uc a_2 hI ((ha_2_3).rf)
        have hR9 := q_runV (l := l) (e := e0) (below := bl0) (meth := me0) (R := qR 7 0 0) (cells := 0) (slots := 0) (st0 := [.ref a_2, .ref (E.2.2 399)]) (rest := []) hF hU hS hA 1 6 3 399 rfl rfl rfl hM9 w_990 w_992 w_32 w_105 w_993 (by decide +kernel) ⟨Nat.le_of_ble_eq_true rfl, Nat.le_of_ble_eq_true rfl⟩ dX3_refresh_87 rfl hl.1 rfl (Nat.le_of_ble_eq_true rfl) ⟨Nat.le_of_ble_eq_true rfl, Nat.le_of_ble_eq_true rfl⟩
        refine q_calli hR9 hU.2.2.2 hS (fun r_6 u_4 H locs hw_5 hU hS => ?_)
        obtain ⟨hw_5_e, hw_5⟩ := hw_5
        rw [hw_5_e] at hU
        rcases hw_5 with rfl | rfl
        · refine lv_if_eq (tgt := 98) hF.1 hF.2.1 dX3_refresh_90 (by decide) (fun h9 => absurd h9 (by decide)) (fun _ => ?_)
          refine lv_aload_n hF.1 hF.2.1 dX3_refresh_93 rfl (lv_at hl 0 rfl) ?_
          refine lv_iload_n hF.1 hF.2.1 dX3_refresh_94 rfl (lv_at hl 1 rfl) ?_
          have hM9 := g_X3_meetLater l E A uc x1 hI (by rw [(hfr.1 10 (by decide))]; exact (g_X3_refresh_v2 u x1 hz8 hz9 hz10 hz12 h_k c74_1))
          have hR9 := q_runV (l := l) (e := e0) (below := bl0) (meth := me0) (R := qR 7 0 0) (cells := 0) (slots := 0) (st0 := [.int x1, .ref (E.2.2 399)]) (rest := []) hF hU hS hA 1 6 3 399 rfl rfl rfl hM9 w_996 w_998 w_33 w_105 w_999 (by decide +kernel) ⟨Nat.le_of_ble_eq_true rfl, Nat.le_of_ble_eq_true rfl⟩ dX3_refresh_95 rfl hl.1 rfl (Nat.le_of_ble_eq_true rfl) ⟨Nat.le_of_ble_eq_true rfl, Nat.le_of_ble_eq_true rfl⟩
          refine q_callv hR9 hU.2.2.2 hS (fun u_8 H locs hw_9 hU hS => ?_)
          obtain ⟨⟨hw_9_f, hI, hw_9_d⟩, hw_9⟩ := hw_9
          have hfo := hfr
          have hfr : qFc [900, 901, 902, 908, 909, 604, 605, 606, 607, 608, 609, 311] [905, 906, 907, 601, 602, 603, 303, 304, 305] [] [904] u u_8 := hfr.trans (hw_9_f.mono (by decide) (by decide) (by decide) (by decide))
          have e_11 : u_8.1 311 = (uc.1 311) := (hw_9_f.1 311 (by decide)).trans rfl
          have e_12 : u_8.1 604 = (uc.1 604) := (hw_9_f.1 604 (by decide)).trans rfl
          have e_13 : u_8.1 605 = (uc.1 605) := (hw_9_f.1 605 (by decide)).trans rfl
          have e_14 : u_8.1 606 = (uc.1 606) := (hw_9_f.1 606 (by decide)).trans rfl
          have e_15 : u_8.1 607 = (uc.1 607) := (hw_9_f.1 607 (by decide)).trans rfl
          have e_16 : u_8.1 608 = (uc.1 608) := (hw_9_f.1 608 (by decide)).trans rfl
          have e_17 : u_8.1 609 = (uc.1 609) := (hw_9_f.1 609 (by decide)).trans rfl
          have e_18 : u_8.1 900 = (uc.1 900) := (hw_9_f.1 900 (by decide)).trans rfl
          have e_19 : u_8.1 901 = (uc.1 901) := (hw_9_f.1 901 (by decide)).trans rfl
          have e_20 : u_8.1 902 = (uc.1 902) := (hw_9_f.1 902 (by decide)).trans rfl
          have e_21 : u_8.1 908 = (uc.1 908) := (hw_9_f.1 908 (by decide)).trans rfl
          have e_22 : u_8.1 909 = (uc.1 909) := (hw_9_f.1 909 (by decide)).trans rfl
          have e_23 : u_8.2.1 601 = (uc.2.1 601) := (hw_9_f.2.1 601 (by decide)).trans rfl
          have e_24 : u_8.2.1 602 = (uc.2.1 602) := (hw_9_f.2.1 602 (by decide)).trans rfl
          have e_25 : u_8.2.1 603 = (uc.2.1 603) := (hw_9_f.2.1 603 (by decide)).trans rfl
          have e_26 : u_8.2.1 905 = (uc.2.1 905) := (hw_9_f.2.1 905 (by decide)).trans rfl
          have e_27 : u_8.2.1 906 = (uc.2.1 906) := (hw_9_f.2.1 906 (by decide)).trans rfl
          have e_28 : u_8.2.1 907 = (uc.2.1 907) := (hw_9_f.2.1 907 (by decide)).trans rfl
          refine lv_iinc (v := x1 + 1) (lv' := [(1, .int (x1 + 1)), (0, .ref (E.2.2 399))]) hF.1 hF.2.1 dX3_refresh_98 hl (k := 1) rfl rfl (by decide) rfl (fun ls hl => ?_)
          refine lv_goto (tgt := 66) hF.1 hF.2.1 dX3_refresh_101 (by decide) ?_
          exact ih (x1 + 1) u_8 _ _ _ hfr hI  (g_X3_refresh_v3 u x1 hz8 hz9 hz10 hz12 h_k c74_1) (Nat.lt_of_lt_of_le (g_X3_refresh_v4 u x1 hz8 hz9 hz10 hz12 h_k c74_1) (Nat.lt_succ_iff.mp hmu)) hU hS (lv_sub hl [1, 0] rfl)
        · refine lv_if_eq (tgt := 98) hF.1 hF.2.1 dX3_refresh_90 (by decide) (fun _ => ?_) (fun h9 => absurd (by decide) h9)
          refine lv_iinc (v := x1 + 1) (lv' := [(1, .int (x1 + 1)), (0, .ref (E.2.2 399))]) hF.1 hF.2.1 dX3_refresh_98 hl (k := 1) rfl rfl (by decide) rfl (fun ls hl => ?_)
          refine lv_goto (tgt := 66) hF.1 hF.2.1 dX3_refresh_101 (by decide) ?_
          exact ih (x1 + 1) uc _ _ _ hfr hI  (g_X3_refresh_v5 u x1 hz8 hz9 hz10 hz12 h_k c74_1) (Nat.lt_of_lt_of_le (g_X3_refresh_v6 u x1 hz8 hz9 hz10 hz12 h_k c74_1) (Nat.lt_succ_iff.mp hmu)) hU hS (lv_sub hl [1, 0] rfl)
  refine lv_aload_n hF.1 hF.2.1 dX3_refresh_0 rfl (lv_at hl 0 rfl) ?_
  refine q_get (v := .int (u.1 311)) hF hU dX3_refresh_1 6 3 11 311 399 rfl rfl rfl rfl inX3 (by decide) (by decide) w_388 rfl rfl ?_
  refine lv_aload_n hF.1 hF.2.1 dX3_refresh_4 rfl (lv_at hl 0 rfl) ?_
  refine q_get (v := .ref (E.2.2 99)) hF hU dX3_refresh_5 6 3 0 300 399 rfl rfl rfl rfl inX3 (by decide) (by decide) w_377 rfl rfl ?_
  refine q_get (v := .int (u.1 18)) hF hU dX3_refresh_8 1 0 18 18 99 rfl rfl rfl rfl inX0 (by decide) (by decide) w_190 rfl rfl ?_
  refine lv_icmp_ne (tgt := 15) hF.1 hF.2.1 dX3_refresh_11 (by decide) (fun c11_29 => ?_) (fun c11_29 => ?_)
  · refine lv_aload_n hF.1 hF.2.1 dX3_refresh_15 rfl (lv_at hl 0 rfl) ?_
    refine lv_aload_n hF.1 hF.2.1 dX3_refresh_16 rfl (lv_at hl 0 rfl) ?_
    refine q_get (v := .ref (E.2.2 99)) hF hU dX3_refresh_17 6 3 0 300 399 rfl rfl rfl rfl inX3 (by decide) (by decide) w_377 rfl rfl ?_
    refine q_get (v := .int (u.1 18)) hF hU dX3_refresh_20 1 0 18 18 99 rfl rfl rfl rfl inX0 (by decide) (by decide) w_190 rfl rfl ?_
    refine q_put hF hU hS dX3_refresh_23 6 3 11 311 399 rfl rfl rfl rfl inX3 tyX3 tyX3_ok nmX3 (by decide) (by decide) rfl w_388 rfl rfl rfl rfl (fun H locs hU hS => ?_)
    have hfr : qFc [900, 901, 902, 908, 909, 604, 605, 606, 607, 608, 609, 311] [905, 906, 907, 601, 602, 603, 303, 304, 305] [] [904] u (qsI u 311 (u.1 18)) := hfr.setI (by decide) (fun q => absurd q (by decide))
    have hI : IC E (qsI u 311 (u.1 18)) := hI.sI (by decide)
    refine lv_aload_n hF.1 hF.2.1 dX3_refresh_26 rfl (lv_at hl 0 rfl) ?_
    refine q_get (v := .ref (E.2.2 999)) hF hU dX3_refresh_27 6 3 1 301 399 rfl rfl rfl rfl inX3 (by decide) (by decide) w_378 rfl rfl ?_
    have hM9 := g_X9_refresh l E A (qsI u 311 (u.1 18))  hI
    have hR9 := q_runV (l := l) (e := e0) (below := bl0) (meth := me0) (R := qR 7 0 0) (cells := 0) (slots := 0) (st0 := [.ref (E.2.2 999)]) (rest := []) hF hU hS hA 0 4 9 999 rfl rfl rfl hM9 w_935 w_844 w_845 w_103 w_846 (by decide +kernel) ⟨Nat.le_of_ble_eq_true rfl, Nat.le_of_ble_eq_true rfl⟩ dX3_refresh_30 rfl hl.1 rfl (Nat.le_of_ble_eq_true rfl) ⟨Nat.le_of_ble_eq_true rfl, Nat.le_of_ble_eq_true rfl⟩
    refine q_callv hR9 hU.2.2.2 hS (fun u_30 H locs hw_31 hU hS => ?_)
    obtain ⟨⟨hw_31_f, hI⟩, hw_31⟩ := hw_31
    have hfo := hfr
    have hfr : qFc [900, 901, 902, 908, 909, 604, 605, 606, 607, 608, 609, 311] [905, 906, 907, 601, 602, 603, 303, 304, 305] [] [904] u u_30 := hfr.trans (hw_31_f.mono (by decide) (by decide) (by decide) (by decide))
    have e_33 : u_30.1 311 = (u.1 18) := (hw_31_f.1 311 (by decide)).trans rfl
    have e_34 : u_30.1 604 = (u.1 604) := (hw_31_f.1 604 (by decide)).trans rfl
    have e_35 : u_30.1 605 = (u.1 605) := (hw_31_f.1 605 (by decide)).trans rfl
    have e_36 : u_30.1 606 = (u.1 606) := (hw_31_f.1 606 (by decide)).trans rfl
    have e_37 : u_30.1 607 = (u.1 607) := (hw_31_f.1 607 (by decide)).trans rfl
    have e_38 : u_30.1 608 = (u.1 608) := (hw_31_f.1 608 (by decide)).trans rfl
    have e_39 : u_30.1 609 = (u.1 609) := (hw_31_f.1 609 (by decide)).trans rfl
    have e_40 : u_30.2.1 303 = (u.2.1 303) := (hw_31_f.2.1 303 (by decide)).trans rfl
    have e_41 : u_30.2.1 304 = (u.2.1 304) := (hw_31_f.2.1 304 (by decide)).trans rfl
    have e_42 : u_30.2.1 305 = (u.2.1 305) := (hw_31_f.2.1 305 (by decide)).trans rfl
    have e_43 : u_30.2.1 601 = (u.2.1 601) := (hw_31_f.2.1 601 (by decide)).trans rfl
    have e_44 : u_30.2.1 602 = (u.2.1 602) := (hw_31_f.2.1 602 (by decide)).trans rfl
    have e_45 : u_30.2.1 603 = (u.2.1 603) := (hw_31_f.2.1 603 (by decide)).trans rfl
    refine lv_aload_n hF.1 hF.2.1 dX3_refresh_33 rfl (lv_at hl 0 rfl) ?_
    refine q_get (v := .ref (E.2.2 699)) hF hU dX3_refresh_34 6 3 2 302 399 rfl rfl rfl rfl inX3 (by decide) (by decide) w_379 rfl rfl ?_
    have hM9 := g_X6_refresh l E A u_30  hI
    have hR9 := q_runV (l := l) (e := e0) (below := bl0) (meth := me0) (R := qR 7 0 0) (cells := 0) (slots := 0) (st0 := [.ref (E.2.2 699)]) (rest := []) hF hU hS hA 0 5 6 699 rfl rfl rfl hM9 w_936 w_937 w_938 w_104 w_939 (by decide +kernel) ⟨Nat.le_of_ble_eq_true rfl, Nat.le_of_ble_eq_true rfl⟩ dX3_refresh_37 rfl hl.1 rfl (Nat.le_of_ble_eq_true rfl) ⟨Nat.le_of_ble_eq_true rfl, Nat.le_of_ble_eq_true rfl⟩
    refine q_callv hR9 hU.2.2.2 hS (fun u_46 H locs hw_47 hU hS => ?_)
    obtain ⟨⟨hw_47_f, hI⟩, hw_47⟩ := hw_47
    have hfo := hfr
    have hfr : qFc [900, 901, 902, 908, 909, 604, 605, 606, 607, 608, 609, 311] [905, 906, 907, 601, 602, 603, 303, 304, 305] [] [904] u u_46 := hfr.trans (hw_47_f.mono (by decide) (by decide) (by decide) (by decide))
    have e_49 : u_46.1 311 = (u.1 18) := (hw_47_f.1 311 (by decide)).trans e_33
    have e_50 : u_46.1 900 = (u_30.1 900) := (hw_47_f.1 900 (by decide)).trans rfl
    have e_51 : u_46.1 901 = (u_30.1 901) := (hw_47_f.1 901 (by decide)).trans rfl
    have e_52 : u_46.1 902 = (u_30.1 902) := (hw_47_f.1 902 (by decide)).trans rfl
    have e_53 : u_46.1 908 = (u_30.1 908) := (hw_47_f.1 908 (by decide)).trans rfl
    have e_54 : u_46.1 909 = (u_30.1 909) := (hw_47_f.1 909 (by decide)).trans rfl
    have e_55 : u_46.2.1 303 = (u.2.1 303) := (hw_47_f.2.1 303 (by decide)).trans e_40
    have e_56 : u_46.2.1 304 = (u.2.1 304) := (hw_47_f.2.1 304 (by decide)).trans e_41
    have e_57 : u_46.2.1 305 = (u.2.1 305) := (hw_47_f.2.1 305 (by decide)).trans e_42
    have e_58 : u_46.2.1 905 = (u_30.2.1 905) := (hw_47_f.2.1 905 (by decide)).trans rfl
    have e_59 : u_46.2.1 906 = (u_30.2.1 906) := (hw_47_f.2.1 906 (by decide)).trans rfl
    have e_60 : u_46.2.1 907 = (u_30.2.1 907) := (hw_47_f.2.1 907 (by decide)).trans rfl
    refine lv_aload_n hF.1 hF.2.1 dX3_refresh_40 rfl (lv_at hl 0 rfl) ?_
    refine q_get (v := .ref (E.2.2 303)) hF hU dX3_refresh_41 6 3 3 303 399 rfl rfl rfl rfl inX3 (by decide) (by decide) w_380 rfl rfl ?_
    refine lv_iconst (v := 0) hF.1 hF.2.1 dX3_refresh_44 (by decide) ?_
    have hM9 := g_fill_303 l E A u_46 0 hI
    have hR9 := q_runS (l := l) (e := e0) (below := bl0) (meth := me0) (R := qR 7 0 0) (cells := 0) (slots := 0) (st0 := [.int 0, .ref (E.2.2 303)]) (rest := []) hF hU hS hA 2 hM9 w_989 w_941 w_112 w_942 (by decide +kernel) ⟨Nat.le_of_ble_eq_true rfl, Nat.le_of_ble_eq_true rfl⟩ dX3_refresh_45 rfl hl.1 rfl (Nat.le_of_ble_eq_true rfl) ⟨Nat.le_of_ble_eq_true rfl, Nat.le_of_ble_eq_true rfl⟩
    refine q_callv hR9 hU.2.2.2 hS (fun u_61 H locs hw_62 hU hS => ?_)
    obtain ⟨⟨hw_62_f, hI, hw_62_d⟩, hw_62⟩ := hw_62
    have hfo := hfr
    have hfr : qFc [900, 901, 902, 908, 909, 604, 605, 606, 607, 608, 609, 311] [905, 906, 907, 601, 602, 603, 303, 304, 305] [] [904] u u_61 := hfr.trans (hw_62_f.mono (by decide) (by decide) (by decide) (by decide))
    have e_64 : u_61.1 311 = (u.1 18) := (hw_62_f.1 311 (by decide)).trans e_49
    have e_65 : u_61.1 604 = (u_46.1 604) := (hw_62_f.1 604 (by decide)).trans rfl
    have e_66 : u_61.1 605 = (u_46.1 605) := (hw_62_f.1 605 (by decide)).trans rfl
    have e_67 : u_61.1 606 = (u_46.1 606) := (hw_62_f.1 606 (by decide)).trans rfl
    have e_68 : u_61.1 607 = (u_46.1 607) := (hw_62_f.1 607 (by decide)).trans rfl
    have e_69 : u_61.1 608 = (u_46.1 608) := (hw_62_f.1 608 (by decide)).trans rfl
    have e_70 : u_61.1 609 = (u_46.1 609) := (hw_62_f.1 609 (by decide)).trans rfl
    have e_71 : u_61.1 900 = (u_30.1 900) := (hw_62_f.1 900 (by decide)).trans e_50
    have e_72 : u_61.1 901 = (u_30.1 901) := (hw_62_f.1 901 (by decide)).trans e_51
    have e_73 : u_61.1 902 = (u_30.1 902) := (hw_62_f.1 902 (by decide)).trans e_52
    have e_74 : u_61.1 908 = (u_30.1 908) := (hw_62_f.1 908 (by decide)).trans e_53
    have e_75 : u_61.1 909 = (u_30.1 909) := (hw_62_f.1 909 (by decide)).trans e_54
    have e_76 : u_61.2.1 304 = (u.2.1 304) := (hw_62_f.2.1 304 (by decide)).trans e_56
    have e_77 : u_61.2.1 305 = (u.2.1 305) := (hw_62_f.2.1 305 (by decide)).trans e_57
    have e_78 : u_61.2.1 601 = (u_46.2.1 601) := (hw_62_f.2.1 601 (by decide)).trans rfl
    have e_79 : u_61.2.1 602 = (u_46.2.1 602) := (hw_62_f.2.1 602 (by decide)).trans rfl
    have e_80 : u_61.2.1 603 = (u_46.2.1 603) := (hw_62_f.2.1 603 (by decide)).trans rfl
    have e_81 : u_61.2.1 905 = (u_30.2.1 905) := (hw_62_f.2.1 905 (by decide)).trans e_58
    have e_82 : u_61.2.1 906 = (u_30.2.1 906) := (hw_62_f.2.1 906 (by decide)).trans e_59
    have e_83 : u_61.2.1 907 = (u_30.2.1 907) := (hw_62_f.2.1 907 (by decide)).trans e_60
    refine lv_aload_n hF.1 hF.2.1 dX3_refresh_48 rfl (lv_at hl 0 rfl) ?_
    refine q_get (v := .ref (E.2.2 304)) hF hU dX3_refresh_49 6 3 4 304 399 rfl rfl rfl rfl inX3 (by decide) (by decide) w_381 rfl rfl ?_
    refine lv_iconst (v := 0) hF.1 hF.2.1 dX3_refresh_52 (by decide) ?_
    have hM9 := g_fill_304 l E A u_61 0 hI
    have hR9 := q_runS (l := l) (e := e0) (below := bl0) (meth := me0) (R := qR 7 0 0) (cells := 0) (slots := 0) (st0 := [.int 0, .ref (E.2.2 304)]) (rest := []) hF hU hS hA 2 hM9 w_989 w_941 w_112 w_942 (by decide +kernel) ⟨Nat.le_of_ble_eq_true rfl, Nat.le_of_ble_eq_true rfl⟩ dX3_refresh_53 rfl hl.1 rfl (Nat.le_of_ble_eq_true rfl) ⟨Nat.le_of_ble_eq_true rfl, Nat.le_of_ble_eq_true rfl⟩
    refine q_callv hR9 hU.2.2.2 hS (fun u_84 H locs hw_85 hU hS => ?_)
    obtain ⟨⟨hw_85_f, hI, hw_85_d⟩, hw_85⟩ := hw_85
    have hfo := hfr
    have hfr : qFc [900, 901, 902, 908, 909, 604, 605, 606, 607, 608, 609, 311] [905, 906, 907, 601, 602, 603, 303, 304, 305] [] [904] u u_84 := hfr.trans (hw_85_f.mono (by decide) (by decide) (by decide) (by decide))
    have e_87 : u_84.1 311 = (u.1 18) := (hw_85_f.1 311 (by decide)).trans e_64
    have e_88 : u_84.1 604 = (u_46.1 604) := (hw_85_f.1 604 (by decide)).trans e_65
    have e_89 : u_84.1 605 = (u_46.1 605) := (hw_85_f.1 605 (by decide)).trans e_66
    have e_90 : u_84.1 606 = (u_46.1 606) := (hw_85_f.1 606 (by decide)).trans e_67
    have e_91 : u_84.1 607 = (u_46.1 607) := (hw_85_f.1 607 (by decide)).trans e_68
    have e_92 : u_84.1 608 = (u_46.1 608) := (hw_85_f.1 608 (by decide)).trans e_69
    have e_93 : u_84.1 609 = (u_46.1 609) := (hw_85_f.1 609 (by decide)).trans e_70
    have e_94 : u_84.1 900 = (u_30.1 900) := (hw_85_f.1 900 (by decide)).trans e_71
    have e_95 : u_84.1 901 = (u_30.1 901) := (hw_85_f.1 901 (by decide)).trans e_72
    have e_96 : u_84.1 902 = (u_30.1 902) := (hw_85_f.1 902 (by decide)).trans e_73
    have e_97 : u_84.1 908 = (u_30.1 908) := (hw_85_f.1 908 (by decide)).trans e_74
    have e_98 : u_84.1 909 = (u_30.1 909) := (hw_85_f.1 909 (by decide)).trans e_75
    have e_99 : u_84.2.1 303 = (u_61.2.1 303) := (hw_85_f.2.1 303 (by decide)).trans rfl
    have e_100 : u_84.2.1 305 = (u.2.1 305) := (hw_85_f.2.1 305 (by decide)).trans e_77
    have e_101 : u_84.2.1 601 = (u_46.2.1 601) := (hw_85_f.2.1 601 (by decide)).trans e_78
    have e_102 : u_84.2.1 602 = (u_46.2.1 602) := (hw_85_f.2.1 602 (by decide)).trans e_79
    have e_103 : u_84.2.1 603 = (u_46.2.1 603) := (hw_85_f.2.1 603 (by decide)).trans e_80
    have e_104 : u_84.2.1 905 = (u_30.2.1 905) := (hw_85_f.2.1 905 (by decide)).trans e_81
    have e_105 : u_84.2.1 906 = (u_30.2.1 906) := (hw_85_f.2.1 906 (by decide)).trans e_82
    have e_106 : u_84.2.1 907 = (u_30.2.1 907) := (hw_85_f.2.1 907 (by decide)).trans e_83
    refine lv_aload_n hF.1 hF.2.1 dX3_refresh_56 rfl (lv_at hl 0 rfl) ?_
    refine q_get (v := .ref (E.2.2 305)) hF hU dX3_refresh_57 6 3 5 305 399 rfl rfl rfl rfl inX3 (by decide) (by decide) w_382 rfl rfl ?_
    refine lv_iconst (v := 0) hF.1 hF.2.1 dX3_refresh_60 (by decide) ?_
    have hM9 := g_fill_305 l E A u_84 0 hI
    have hR9 := q_runS (l := l) (e := e0) (below := bl0) (meth := me0) (R := qR 7 0 0) (cells := 0) (slots := 0) (st0 := [.int 0, .ref (E.2.2 305)]) (rest := []) hF hU hS hA 2 hM9 w_989 w_941 w_112 w_942 (by decide +kernel) ⟨Nat.le_of_ble_eq_true rfl, Nat.le_of_ble_eq_true rfl⟩ dX3_refresh_61 rfl hl.1 rfl (Nat.le_of_ble_eq_true rfl) ⟨Nat.le_of_ble_eq_true rfl, Nat.le_of_ble_eq_true rfl⟩
    refine q_callv hR9 hU.2.2.2 hS (fun u_107 H locs hw_108 hU hS => ?_)
    obtain ⟨⟨hw_108_f, hI, hw_108_d⟩, hw_108⟩ := hw_108
    have hfo := hfr
    have hfr : qFc [900, 901, 902, 908, 909, 604, 605, 606, 607, 608, 609, 311] [905, 906, 907, 601, 602, 603, 303, 304, 305] [] [904] u u_107 := hfr.trans (hw_108_f.mono (by decide) (by decide) (by decide) (by decide))
    have e_110 : u_107.1 311 = (u.1 18) := (hw_108_f.1 311 (by decide)).trans e_87
    have e_111 : u_107.1 604 = (u_46.1 604) := (hw_108_f.1 604 (by decide)).trans e_88
    have e_112 : u_107.1 605 = (u_46.1 605) := (hw_108_f.1 605 (by decide)).trans e_89
    have e_113 : u_107.1 606 = (u_46.1 606) := (hw_108_f.1 606 (by decide)).trans e_90
    have e_114 : u_107.1 607 = (u_46.1 607) := (hw_108_f.1 607 (by decide)).trans e_91
    have e_115 : u_107.1 608 = (u_46.1 608) := (hw_108_f.1 608 (by decide)).trans e_92
    have e_116 : u_107.1 609 = (u_46.1 609) := (hw_108_f.1 609 (by decide)).trans e_93
    have e_117 : u_107.1 900 = (u_30.1 900) := (hw_108_f.1 900 (by decide)).trans e_94
    have e_118 : u_107.1 901 = (u_30.1 901) := (hw_108_f.1 901 (by decide)).trans e_95
    have e_119 : u_107.1 902 = (u_30.1 902) := (hw_108_f.1 902 (by decide)).trans e_96
    have e_120 : u_107.1 908 = (u_30.1 908) := (hw_108_f.1 908 (by decide)).trans e_97
    have e_121 : u_107.1 909 = (u_30.1 909) := (hw_108_f.1 909 (by decide)).trans e_98
    have e_122 : u_107.2.1 303 = (u_61.2.1 303) := (hw_108_f.2.1 303 (by decide)).trans e_99
    have e_123 : u_107.2.1 304 = (u_84.2.1 304) := (hw_108_f.2.1 304 (by decide)).trans rfl
    have e_124 : u_107.2.1 601 = (u_46.2.1 601) := (hw_108_f.2.1 601 (by decide)).trans e_101
    have e_125 : u_107.2.1 602 = (u_46.2.1 602) := (hw_108_f.2.1 602 (by decide)).trans e_102
    have e_126 : u_107.2.1 603 = (u_46.2.1 603) := (hw_108_f.2.1 603 (by decide)).trans e_103
    have e_127 : u_107.2.1 905 = (u_30.2.1 905) := (hw_108_f.2.1 905 (by decide)).trans e_104
    have e_128 : u_107.2.1 906 = (u_30.2.1 906) := (hw_108_f.2.1 906 (by decide)).trans e_105
    have e_129 : u_107.2.1 907 = (u_30.2.1 907) := (hw_108_f.2.1 907 (by decide)).trans e_106
    refine lv_iconst (v := 0) hF.1 hF.2.1 dX3_refresh_64 (by decide) ?_
    refine lv_istore_n (lv' := [(1, .int 0), (0, .ref (E.2.2 399))]) hF.1 hF.2.1 dX3_refresh_65 rfl hl (by decide) rfl (fun ls hl => ?_)
    exact (main _) (0 : Int32) u_107 _ _ _ hfr hI  (g_X3_refresh_v7 u hz8 hz9 hz10 hz12 c11_29) (Nat.lt_succ_self _) hU hS (lv_sub hl [1, 0] rfl)
  · exact q_vret hF hr hlocks hU hS dX3_refresh_14 ⟨⟨hfr, hI⟩, trivial⟩
set_option maxRecDepth 100000 in
theorem g_X3_addDays_v0 (u : qS) (x : Int32) (y : Int32) (x3 : Int32) (hz8 : 0 ≤ u.1 8 ∧ u.1 8 ≤ 20) (hz9 : 0 ≤ u.1 9 ∧ u.1 9 ≤ 8) (hz10 : 0 ≤ u.1 10 ∧ u.1 10 ≤ 120) (hz12 : 0 ≤ u.1 12 ∧ u.1 12 ≤ 16) (h_k : 0 ≤ x3) (c26_1 : ¬ (u.1 10) ≤ (x3 : Int32)) : 0 ≤ x3 ∧ x3 < (u.1 10) := by
  first | omega | ((try simp only [g_m1, Int32.lt_iff_toInt_lt, Int32.le_iff_toInt_le, ← Int32.toInt_inj, Int32.reduceToInt] at *); omega) | ((try simp only [g_m1, Int32.lt_iff_toInt_lt, Int32.le_iff_toInt_le, ← Int32.toInt_inj, Int32.reduceToInt] at *); omega) | ((try simp only [g_m1, Int32.lt_iff_toInt_lt, Int32.le_iff_toInt_le, ← Int32.toInt_inj, Int32.toInt_add, Int32.toInt_sub, Int32.toInt_mul, Int32.toInt_neg, Int32.reduceToInt, g_bm, g_bm'] at *); omega) | (have qr1 := g_rng x; have qr2 := g_rng y; have qr3 := g_rng x3; (try simp only [g_m1, Int32.lt_iff_toInt_lt, Int32.le_iff_toInt_le, ← Int32.toInt_inj, Int32.toInt_add, Int32.toInt_sub, Int32.toInt_mul, Int32.toInt_neg, Int32.reduceToInt, g_bm, g_bm'] at *); omega) | (simp only [g_m1, Int32.lt_iff_toInt_lt, Int32.le_iff_toInt_le, ← Int32.toInt_inj, Int32.toInt_add, Int32.toInt_sub, Int32.toInt_mul, Int32.toInt_neg, Int32.reduceToInt, g_bm, g_bm'] at *; simp at *; omega) | (simp_all; done)
set_option maxRecDepth 100000 in
theorem g_X3_addDays_v1 (u : qS) (x3 : Int32) (hz8 : 0 ≤ u.1 8 ∧ u.1 8 ≤ 20) (hz9 : 0 ≤ u.1 9 ∧ u.1 9 ≤ 8) (hz10 : 0 ≤ u.1 10 ∧ u.1 10 ≤ 120) (hz12 : 0 ≤ u.1 12 ∧ u.1 12 ≤ 16) (h_k : 0 ≤ x3) (c26_1 : ¬ (u.1 10) ≤ (x3 : Int32)) : vp_in (x3) 120 := by
  refine g_in ?_ ?_ <;> ((try simp only [g_m1, Int32.lt_iff_toInt_lt, Int32.le_iff_toInt_le, ← Int32.toInt_inj, Int32.toInt_add, Int32.toInt_sub, Int32.toInt_mul, Int32.toInt_neg, Int32.reduceToInt, g_bm, g_bm'] at *); omega)
set_option maxRecDepth 100000 in
theorem g_X3_addDays_v2 (u : qS) (x : Int32) (y : Int32) (x3 : Int32) (uc : qS) (a_2 : Nat) (hz8 : 0 ≤ u.1 8 ∧ u.1 8 ≤ 20) (hz9 : 0 ≤ u.1 9 ∧ u.1 9 ≤ 8) (hz10 : 0 ≤ u.1 10 ∧ u.1 10 ≤ 120) (hz12 : 0 ≤ u.1 12 ∧ u.1 12 ≤ 16) (h_k : 0 ≤ x3) (c26_1 : ¬ (u.1 10) ≤ (x3 : Int32)) (b47_12 : x ≤ (qfd uc.2.2.2.2 a_2 4) ∧ (qfd uc.2.2.2.2 a_2 4) ≤ y) (hb_22 : 0 ≤ qfd uc.2.2.2.2 a_2 2 ∧ qfd uc.2.2.2.2 a_2 2 < (u.1 8)) : vp_in (qfd uc.2.2.2.2 a_2 2) 20 := by
  refine g_in ?_ ?_ <;> ((try simp only [g_m1, Int32.lt_iff_toInt_lt, Int32.le_iff_toInt_le, ← Int32.toInt_inj, Int32.toInt_add, Int32.toInt_sub, Int32.toInt_mul, Int32.toInt_neg, Int32.reduceToInt, g_bm, g_bm'] at *); omega)
set_option maxRecDepth 100000 in
theorem g_X3_addDays_v3 (u : qS) (x : Int32) (y : Int32) (x3 : Int32) (uc : qS) (a_2 : Nat) (hz8 : 0 ≤ u.1 8 ∧ u.1 8 ≤ 20) (hz9 : 0 ≤ u.1 9 ∧ u.1 9 ≤ 8) (hz10 : 0 ≤ u.1 10 ∧ u.1 10 ≤ 120) (hz12 : 0 ≤ u.1 12 ∧ u.1 12 ≤ 16) (h_k : 0 ≤ x3) (c26_1 : ¬ (u.1 10) ≤ (x3 : Int32)) (b47_12 : x ≤ (qfd uc.2.2.2.2 a_2 4) ∧ (qfd uc.2.2.2.2 a_2 4) ≤ y) (hb_22 : 0 ≤ qfd uc.2.2.2.2 a_2 2 ∧ qfd uc.2.2.2.2 a_2 2 < (u.1 8)) : vp_in (qfd uc.2.2.2.2 a_2 2) 20 := by
  refine g_in ?_ ?_ <;> ((try simp only [g_m1, Int32.lt_iff_toInt_lt, Int32.le_iff_toInt_le, ← Int32.toInt_inj, Int32.toInt_add, Int32.toInt_sub, Int32.toInt_mul, Int32.toInt_neg, Int32.reduceToInt, g_bm, g_bm'] at *); omega)
set_option maxRecDepth 100000 in
theorem g_X3_addDays_v4 (u : qS) (x : Int32) (y : Int32) (x3 : Int32) (uc : qS) (a_2 : Nat) (r_25 : Int32) (f_26 : Nat → Int32) (hz8 : 0 ≤ u.1 8 ∧ u.1 8 ≤ 20) (hz9 : 0 ≤ u.1 9 ∧ u.1 9 ≤ 8) (hz10 : 0 ≤ u.1 10 ∧ u.1 10 ≤ 120) (hz12 : 0 ≤ u.1 12 ∧ u.1 12 ≤ 16) (h_k : 0 ≤ x3) (c26_1 : ¬ (u.1 10) ≤ (x3 : Int32)) (b47_12 : x ≤ (qfd uc.2.2.2.2 a_2 4) ∧ (qfd uc.2.2.2.2 a_2 4) ≤ y) (hb_22 : 0 ≤ qfd uc.2.2.2.2 a_2 2 ∧ qfd uc.2.2.2.2 a_2 2 < (u.1 8)) (hf_26 : f_26 = upd (uc.2.1 306) (qfd uc.2.2.2.2 a_2 2 : Int32).toNatClampNeg ((uc.2.1 306 (qfd uc.2.2.2.2 a_2 2 : Int32).toNatClampNeg) + r_25)) : vp_in (qfd uc.2.2.2.2 a_2 2) 20 := by
  refine g_in ?_ ?_ <;> ((try simp only [g_m1, Int32.lt_iff_toInt_lt, Int32.le_iff_toInt_le, ← Int32.toInt_inj, Int32.toInt_add, Int32.toInt_sub, Int32.toInt_mul, Int32.toInt_neg, Int32.reduceToInt, g_bm, g_bm'] at *); omega)
set_option maxRecDepth 100000 in
theorem g_X3_addDays_v5 (u : qS) (x : Int32) (y : Int32) (x3 : Int32) (uc : qS) (a_2 : Nat) (r_25 : Int32) (f_26 : Nat → Int32) (hz8 : 0 ≤ u.1 8 ∧ u.1 8 ≤ 20) (hz9 : 0 ≤ u.1 9 ∧ u.1 9 ≤ 8) (hz10 : 0 ≤ u.1 10 ∧ u.1 10 ≤ 120) (hz12 : 0 ≤ u.1 12 ∧ u.1 12 ≤ 16) (h_k : 0 ≤ x3) (c26_1 : ¬ (u.1 10) ≤ (x3 : Int32)) (b47_12 : x ≤ (qfd uc.2.2.2.2 a_2 4) ∧ (qfd uc.2.2.2.2 a_2 4) ≤ y) (hb_22 : 0 ≤ qfd uc.2.2.2.2 a_2 2 ∧ qfd uc.2.2.2.2 a_2 2 < (u.1 8)) (hf_26 : f_26 = upd (uc.2.1 306) (qfd uc.2.2.2.2 a_2 2 : Int32).toNatClampNeg ((uc.2.1 306 (qfd uc.2.2.2.2 a_2 2 : Int32).toNatClampNeg) + r_25)) : vp_in (qfd uc.2.2.2.2 a_2 2) 20 := by
  refine g_in ?_ ?_ <;> ((try simp only [g_m1, Int32.lt_iff_toInt_lt, Int32.le_iff_toInt_le, ← Int32.toInt_inj, Int32.toInt_add, Int32.toInt_sub, Int32.toInt_mul, Int32.toInt_neg, Int32.reduceToInt, g_bm, g_bm'] at *); omega)
set_option maxRecDepth 100000 in
theorem g_X3_addDays_v6 (u : qS) (x : Int32) (y : Int32) (x3 : Int32) (uc : qS) (a_2 : Nat) (r_25 : Int32) (f_26 : Nat → Int32) (f_32 : Nat → Int32) (hz8 : 0 ≤ u.1 8 ∧ u.1 8 ≤ 20) (hz9 : 0 ≤ u.1 9 ∧ u.1 9 ≤ 8) (hz10 : 0 ≤ u.1 10 ∧ u.1 10 ≤ 120) (hz12 : 0 ≤ u.1 12 ∧ u.1 12 ≤ 16) (h_k : 0 ≤ x3) (c26_1 : ¬ (u.1 10) ≤ (x3 : Int32)) (b47_12 : x ≤ (qfd uc.2.2.2.2 a_2 4) ∧ (qfd uc.2.2.2.2 a_2 4) ≤ y) (hb_22 : 0 ≤ qfd uc.2.2.2.2 a_2 2 ∧ qfd uc.2.2.2.2 a_2 2 < (u.1 8)) (hf_26 : f_26 = upd (uc.2.1 306) (qfd uc.2.2.2.2 a_2 2 : Int32).toNatClampNeg ((uc.2.1 306 (qfd uc.2.2.2.2 a_2 2 : Int32).toNatClampNeg) + r_25)) (hf_32 : f_32 = upd (uc.2.1 307) (qfd uc.2.2.2.2 a_2 2 : Int32).toNatClampNeg ((uc.2.1 307 (qfd uc.2.2.2.2 a_2 2 : Int32).toNatClampNeg) + 1)) : 0 ≤ (x3 + 1) := by
  first | omega | ((try simp only [g_m1, Int32.lt_iff_toInt_lt, Int32.le_iff_toInt_le, ← Int32.toInt_inj, Int32.reduceToInt] at *); omega) | ((try have ez0 : ((uc.2.1 306 (qfd uc.2.2.2.2 a_2 2 : Int32).toNatClampNeg) + r_25 : Int32).toInt = (uc.2.1 306 (qfd uc.2.2.2.2 a_2 2 : Int32).toNatClampNeg : Int32).toInt + (r_25 : Int32).toInt := g_add (by (try simp only [g_m1, Int32.lt_iff_toInt_lt, Int32.le_iff_toInt_le, ← Int32.toInt_inj, Int32.reduceToInt] at *); omega) (by (try simp only [g_m1, Int32.lt_iff_toInt_lt, Int32.le_iff_toInt_le, ← Int32.toInt_inj, Int32.reduceToInt] at *); omega)); (try have ez1 : ((uc.2.1 307 (qfd uc.2.2.2.2 a_2 2 : Int32).toNatClampNeg) + 1 : Int32).toInt = (uc.2.1 307 (qfd uc.2.2.2.2 a_2 2 : Int32).toNatClampNeg : Int32).toInt + (1 : Int32).toInt := g_add (by (try simp only [g_m1, Int32.lt_iff_toInt_lt, Int32.le_iff_toInt_le, ← Int32.toInt_inj, Int32.reduceToInt] at *); omega) (by (try simp only [g_m1, Int32.lt_iff_toInt_lt, Int32.le_iff_toInt_le, ← Int32.toInt_inj, Int32.reduceToInt] at *); omega)); (try have ez2 : (x3 + 1 : Int32).toInt = (x3 : Int32).toInt + (1 : Int32).toInt := g_add (by (try simp only [g_m1, Int32.lt_iff_toInt_lt, Int32.le_iff_toInt_le, ← Int32.toInt_inj, Int32.reduceToInt] at *); omega) (by (try simp only [g_m1, Int32.lt_iff_toInt_lt, Int32.le_iff_toInt_le, ← Int32.toInt_inj, Int32.reduceToInt] at *); omega)); (try simp only [g_m1, Int32.lt_iff_toInt_lt, Int32.le_iff_toInt_le, ← Int32.toInt_inj, Int32.reduceToInt] at *); omega) | ((try simp only [g_m1, Int32.lt_iff_toInt_lt, Int32.le_iff_toInt_le, ← Int32.toInt_inj, Int32.toInt_add, Int32.toInt_sub, Int32.toInt_mul, Int32.toInt_neg, Int32.reduceToInt, g_bm, g_bm'] at *); omega) | (have qr1 := g_rng x; have qr2 := g_rng y; have qr3 := g_rng x3; have qr6 := g_rng r_25; (try simp only [g_m1, Int32.lt_iff_toInt_lt, Int32.le_iff_toInt_le, ← Int32.toInt_inj, Int32.toInt_add, Int32.toInt_sub, Int32.toInt_mul, Int32.toInt_neg, Int32.reduceToInt, g_bm, g_bm'] at *); omega) | (simp only [g_m1, Int32.lt_iff_toInt_lt, Int32.le_iff_toInt_le, ← Int32.toInt_inj, Int32.toInt_add, Int32.toInt_sub, Int32.toInt_mul, Int32.toInt_neg, Int32.reduceToInt, g_bm, g_bm'] at *; simp at *; omega) | (simp_all; done)
set_option maxRecDepth 100000 in
theorem g_X3_addDays_v7 (u : qS) (x : Int32) (y : Int32) (x3 : Int32) (uc : qS) (a_2 : Nat) (r_25 : Int32) (f_26 : Nat → Int32) (f_32 : Nat → Int32) (hz8 : 0 ≤ u.1 8 ∧ u.1 8 ≤ 20) (hz9 : 0 ≤ u.1 9 ∧ u.1 9 ≤ 8) (hz10 : 0 ≤ u.1 10 ∧ u.1 10 ≤ 120) (hz12 : 0 ≤ u.1 12 ∧ u.1 12 ≤ 16) (h_k : 0 ≤ x3) (c26_1 : ¬ (u.1 10) ≤ (x3 : Int32)) (b47_12 : x ≤ (qfd uc.2.2.2.2 a_2 4) ∧ (qfd uc.2.2.2.2 a_2 4) ≤ y) (hb_22 : 0 ≤ qfd uc.2.2.2.2 a_2 2 ∧ qfd uc.2.2.2.2 a_2 2 < (u.1 8)) (hf_26 : f_26 = upd (uc.2.1 306) (qfd uc.2.2.2.2 a_2 2 : Int32).toNatClampNeg ((uc.2.1 306 (qfd uc.2.2.2.2 a_2 2 : Int32).toNatClampNeg) + r_25)) (hf_32 : f_32 = upd (uc.2.1 307) (qfd uc.2.2.2.2 a_2 2 : Int32).toNatClampNeg ((uc.2.1 307 (qfd uc.2.2.2.2 a_2 2 : Int32).toNatClampNeg) + 1)) : ((u.1 10).toInt - (x3 + 1).toInt).toNat < ((u.1 10).toInt - x3.toInt).toNat := by
  first | omega | ((try simp only [g_m1, Int32.lt_iff_toInt_lt, Int32.le_iff_toInt_le, ← Int32.toInt_inj, Int32.reduceToInt] at *); omega) | ((try have ez0 : ((uc.2.1 306 (qfd uc.2.2.2.2 a_2 2 : Int32).toNatClampNeg) + r_25 : Int32).toInt = (uc.2.1 306 (qfd uc.2.2.2.2 a_2 2 : Int32).toNatClampNeg : Int32).toInt + (r_25 : Int32).toInt := g_add (by (try simp only [g_m1, Int32.lt_iff_toInt_lt, Int32.le_iff_toInt_le, ← Int32.toInt_inj, Int32.reduceToInt] at *); omega) (by (try simp only [g_m1, Int32.lt_iff_toInt_lt, Int32.le_iff_toInt_le, ← Int32.toInt_inj, Int32.reduceToInt] at *); omega)); (try have ez1 : ((uc.2.1 307 (qfd uc.2.2.2.2 a_2 2 : Int32).toNatClampNeg) + 1 : Int32).toInt = (uc.2.1 307 (qfd uc.2.2.2.2 a_2 2 : Int32).toNatClampNeg : Int32).toInt + (1 : Int32).toInt := g_add (by (try simp only [g_m1, Int32.lt_iff_toInt_lt, Int32.le_iff_toInt_le, ← Int32.toInt_inj, Int32.reduceToInt] at *); omega) (by (try simp only [g_m1, Int32.lt_iff_toInt_lt, Int32.le_iff_toInt_le, ← Int32.toInt_inj, Int32.reduceToInt] at *); omega)); (try have ez2 : (x3 + 1 : Int32).toInt = (x3 : Int32).toInt + (1 : Int32).toInt := g_add (by (try simp only [g_m1, Int32.lt_iff_toInt_lt, Int32.le_iff_toInt_le, ← Int32.toInt_inj, Int32.reduceToInt] at *); omega) (by (try simp only [g_m1, Int32.lt_iff_toInt_lt, Int32.le_iff_toInt_le, ← Int32.toInt_inj, Int32.reduceToInt] at *); omega)); (try simp only [g_m1, Int32.lt_iff_toInt_lt, Int32.le_iff_toInt_le, ← Int32.toInt_inj, Int32.reduceToInt] at *); omega) | ((try simp only [g_m1, Int32.lt_iff_toInt_lt, Int32.le_iff_toInt_le, ← Int32.toInt_inj, Int32.toInt_add, Int32.toInt_sub, Int32.toInt_mul, Int32.toInt_neg, Int32.reduceToInt, g_bm, g_bm'] at *); omega) | (have qr1 := g_rng x; have qr2 := g_rng y; have qr3 := g_rng x3; have qr6 := g_rng r_25; (try simp only [g_m1, Int32.lt_iff_toInt_lt, Int32.le_iff_toInt_le, ← Int32.toInt_inj, Int32.toInt_add, Int32.toInt_sub, Int32.toInt_mul, Int32.toInt_neg, Int32.reduceToInt, g_bm, g_bm'] at *); omega) | (simp only [g_m1, Int32.lt_iff_toInt_lt, Int32.le_iff_toInt_le, ← Int32.toInt_inj, Int32.toInt_add, Int32.toInt_sub, Int32.toInt_mul, Int32.toInt_neg, Int32.reduceToInt, g_bm, g_bm'] at *; simp at *; omega) | (simp_all; done)
set_option maxRecDepth 100000 in
theorem g_X3_addDays_v8 (u : qS) (x : Int32) (y : Int32) (x3 : Int32) (uc : qS) (a_2 : Nat) (hz8 : 0 ≤ u.1 8 ∧ u.1 8 ≤ 20) (hz9 : 0 ≤ u.1 9 ∧ u.1 9 ≤ 8) (hz10 : 0 ≤ u.1 10 ∧ u.1 10 ≤ 120) (hz12 : 0 ≤ u.1 12 ∧ u.1 12 ≤ 16) (h_k : 0 ≤ x3) (c26_1 : ¬ (u.1 10) ≤ (x3 : Int32)) (b47_12 : x ≤ (qfd uc.2.2.2.2 a_2 4) ∧ (qfd uc.2.2.2.2 a_2 4) ≤ y) : 0 ≤ (x3 + 1) := by
  first | omega | ((try simp only [g_m1, Int32.lt_iff_toInt_lt, Int32.le_iff_toInt_le, ← Int32.toInt_inj, Int32.reduceToInt] at *); omega) | ((try have ez0 : (x3 + 1 : Int32).toInt = (x3 : Int32).toInt + (1 : Int32).toInt := g_add (by (try simp only [g_m1, Int32.lt_iff_toInt_lt, Int32.le_iff_toInt_le, ← Int32.toInt_inj, Int32.reduceToInt] at *); omega) (by (try simp only [g_m1, Int32.lt_iff_toInt_lt, Int32.le_iff_toInt_le, ← Int32.toInt_inj, Int32.reduceToInt] at *); omega)); (try simp only [g_m1, Int32.lt_iff_toInt_lt, Int32.le_iff_toInt_le, ← Int32.toInt_inj, Int32.reduceToInt] at *); omega) | ((try simp only [g_m1, Int32.lt_iff_toInt_lt, Int32.le_iff_toInt_le, ← Int32.toInt_inj, Int32.toInt_add, Int32.toInt_sub, Int32.toInt_mul, Int32.toInt_neg, Int32.reduceToInt, g_bm, g_bm'] at *); omega) | (have qr1 := g_rng x; have qr2 := g_rng y; have qr3 := g_rng x3; (try simp only [g_m1, Int32.lt_iff_toInt_lt, Int32.le_iff_toInt_le, ← Int32.toInt_inj, Int32.toInt_add, Int32.toInt_sub, Int32.toInt_mul, Int32.toInt_neg, Int32.reduceToInt, g_bm, g_bm'] at *); omega) | (simp only [g_m1, Int32.lt_iff_toInt_lt, Int32.le_iff_toInt_le, ← Int32.toInt_inj, Int32.toInt_add, Int32.toInt_sub, Int32.toInt_mul, Int32.toInt_neg, Int32.reduceToInt, g_bm, g_bm'] at *; simp at *; omega) | (simp_all; done)
set_option maxRecDepth 100000 in
theorem g_X3_addDays_v9 (u : qS) (x : Int32) (y : Int32) (x3 : Int32) (uc : qS) (a_2 : Nat) (hz8 : 0 ≤ u.1 8 ∧ u.1 8 ≤ 20) (hz9 : 0 ≤ u.1 9 ∧ u.1 9 ≤ 8) (hz10 : 0 ≤ u.1 10 ∧ u.1 10 ≤ 120) (hz12 : 0 ≤ u.1 12 ∧ u.1 12 ≤ 16) (h_k : 0 ≤ x3) (c26_1 : ¬ (u.1 10) ≤ (x3 : Int32)) (b47_12 : x ≤ (qfd uc.2.2.2.2 a_2 4) ∧ (qfd uc.2.2.2.2 a_2 4) ≤ y) : ((u.1 10).toInt - (x3 + 1).toInt).toNat < ((u.1 10).toInt - x3.toInt).toNat := by
  first | omega | ((try simp only [g_m1, Int32.lt_iff_toInt_lt, Int32.le_iff_toInt_le, ← Int32.toInt_inj, Int32.reduceToInt] at *); omega) | ((try have ez0 : (x3 + 1 : Int32).toInt = (x3 : Int32).toInt + (1 : Int32).toInt := g_add (by (try simp only [g_m1, Int32.lt_iff_toInt_lt, Int32.le_iff_toInt_le, ← Int32.toInt_inj, Int32.reduceToInt] at *); omega) (by (try simp only [g_m1, Int32.lt_iff_toInt_lt, Int32.le_iff_toInt_le, ← Int32.toInt_inj, Int32.reduceToInt] at *); omega)); (try simp only [g_m1, Int32.lt_iff_toInt_lt, Int32.le_iff_toInt_le, ← Int32.toInt_inj, Int32.reduceToInt] at *); omega) | ((try simp only [g_m1, Int32.lt_iff_toInt_lt, Int32.le_iff_toInt_le, ← Int32.toInt_inj, Int32.toInt_add, Int32.toInt_sub, Int32.toInt_mul, Int32.toInt_neg, Int32.reduceToInt, g_bm, g_bm'] at *); omega) | (have qr1 := g_rng x; have qr2 := g_rng y; have qr3 := g_rng x3; (try simp only [g_m1, Int32.lt_iff_toInt_lt, Int32.le_iff_toInt_le, ← Int32.toInt_inj, Int32.toInt_add, Int32.toInt_sub, Int32.toInt_mul, Int32.toInt_neg, Int32.reduceToInt, g_bm, g_bm'] at *); omega) | (simp only [g_m1, Int32.lt_iff_toInt_lt, Int32.le_iff_toInt_le, ← Int32.toInt_inj, Int32.toInt_add, Int32.toInt_sub, Int32.toInt_mul, Int32.toInt_neg, Int32.reduceToInt, g_bm, g_bm'] at *; simp at *; omega) | (simp_all; done)
set_option maxRecDepth 100000 in
theorem g_X3_addDays_v10 (u : qS) (x : Int32) (y : Int32) (x3 : Int32) (uc : qS) (a_2 : Nat) (hz8 : 0 ≤ u.1 8 ∧ u.1 8 ≤ 20) (hz9 : 0 ≤ u.1 9 ∧ u.1 9 ≤ 8) (hz10 : 0 ≤ u.1 10 ∧ u.1 10 ≤ 120) (hz12 : 0 ≤ u.1 12 ∧ u.1 12 ≤ 16) (h_k : 0 ≤ x3) (c26_1 : ¬ (u.1 10) ≤ (x3 : Int32)) (b47_12 : ¬ (x ≤ (qfd uc.2.2.2.2 a_2 4) ∧ (qfd uc.2.2.2.2 a_2 4) ≤ y)) : 0 ≤ (x3 + 1) := by
  first | omega | ((try simp only [g_m1, Int32.lt_iff_toInt_lt, Int32.le_iff_toInt_le, ← Int32.toInt_inj, Int32.reduceToInt] at *); omega) | ((try have ez0 : (x3 + 1 : Int32).toInt = (x3 : Int32).toInt + (1 : Int32).toInt := g_add (by (try simp only [g_m1, Int32.lt_iff_toInt_lt, Int32.le_iff_toInt_le, ← Int32.toInt_inj, Int32.reduceToInt] at *); omega) (by (try simp only [g_m1, Int32.lt_iff_toInt_lt, Int32.le_iff_toInt_le, ← Int32.toInt_inj, Int32.reduceToInt] at *); omega)); (try simp only [g_m1, Int32.lt_iff_toInt_lt, Int32.le_iff_toInt_le, ← Int32.toInt_inj, Int32.reduceToInt] at *); omega) | ((try simp only [g_m1, Int32.lt_iff_toInt_lt, Int32.le_iff_toInt_le, ← Int32.toInt_inj, Int32.toInt_add, Int32.toInt_sub, Int32.toInt_mul, Int32.toInt_neg, Int32.reduceToInt, g_bm, g_bm'] at *); omega) | (have qr1 := g_rng x; have qr2 := g_rng y; have qr3 := g_rng x3; (try simp only [g_m1, Int32.lt_iff_toInt_lt, Int32.le_iff_toInt_le, ← Int32.toInt_inj, Int32.toInt_add, Int32.toInt_sub, Int32.toInt_mul, Int32.toInt_neg, Int32.reduceToInt, g_bm, g_bm'] at *); omega) | (simp only [g_m1, Int32.lt_iff_toInt_lt, Int32.le_iff_toInt_le, ← Int32.toInt_inj, Int32.toInt_add, Int32.toInt_sub, Int32.toInt_mul, Int32.toInt_neg, Int32.reduceToInt, g_bm, g_bm'] at *; simp at *; omega) | (simp_all; done)
set_option maxRecDepth 100000 in
theorem g_X3_addDays_v11 (u : qS) (x : Int32) (y : Int32) (x3 : Int32) (uc : qS) (a_2 : Nat) (hz8 : 0 ≤ u.1 8 ∧ u.1 8 ≤ 20) (hz9 : 0 ≤ u.1 9 ∧ u.1 9 ≤ 8) (hz10 : 0 ≤ u.1 10 ∧ u.1 10 ≤ 120) (hz12 : 0 ≤ u.1 12 ∧ u.1 12 ≤ 16) (h_k : 0 ≤ x3) (c26_1 : ¬ (u.1 10) ≤ (x3 : Int32)) (b47_12 : ¬ (x ≤ (qfd uc.2.2.2.2 a_2 4) ∧ (qfd uc.2.2.2.2 a_2 4) ≤ y)) : ((u.1 10).toInt - (x3 + 1).toInt).toNat < ((u.1 10).toInt - x3.toInt).toNat := by
  first | omega | ((try simp only [g_m1, Int32.lt_iff_toInt_lt, Int32.le_iff_toInt_le, ← Int32.toInt_inj, Int32.reduceToInt] at *); omega) | ((try have ez0 : (x3 + 1 : Int32).toInt = (x3 : Int32).toInt + (1 : Int32).toInt := g_add (by (try simp only [g_m1, Int32.lt_iff_toInt_lt, Int32.le_iff_toInt_le, ← Int32.toInt_inj, Int32.reduceToInt] at *); omega) (by (try simp only [g_m1, Int32.lt_iff_toInt_lt, Int32.le_iff_toInt_le, ← Int32.toInt_inj, Int32.reduceToInt] at *); omega)); (try simp only [g_m1, Int32.lt_iff_toInt_lt, Int32.le_iff_toInt_le, ← Int32.toInt_inj, Int32.reduceToInt] at *); omega) | ((try simp only [g_m1, Int32.lt_iff_toInt_lt, Int32.le_iff_toInt_le, ← Int32.toInt_inj, Int32.toInt_add, Int32.toInt_sub, Int32.toInt_mul, Int32.toInt_neg, Int32.reduceToInt, g_bm, g_bm'] at *); omega) | (have qr1 := g_rng x; have qr2 := g_rng y; have qr3 := g_rng x3; (try simp only [g_m1, Int32.lt_iff_toInt_lt, Int32.le_iff_toInt_le, ← Int32.toInt_inj, Int32.toInt_add, Int32.toInt_sub, Int32.toInt_mul, Int32.toInt_neg, Int32.reduceToInt, g_bm, g_bm'] at *); omega) | (simp only [g_m1, Int32.lt_iff_toInt_lt, Int32.le_iff_toInt_le, ← Int32.toInt_inj, Int32.toInt_add, Int32.toInt_sub, Int32.toInt_mul, Int32.toInt_neg, Int32.reduceToInt, g_bm, g_bm'] at *; simp at *; omega) | (simp_all; done)
set_option maxRecDepth 100000 in
theorem g_X3_addDays_v12 (u : qS) (x : Int32) (y : Int32) (hz8 : 0 ≤ u.1 8 ∧ u.1 8 ≤ 20) (hz9 : 0 ≤ u.1 9 ∧ u.1 9 ≤ 8) (hz10 : 0 ≤ u.1 10 ∧ u.1 10 ≤ 120) (hz12 : 0 ≤ u.1 12 ∧ u.1 12 ≤ 16) : 0 ≤ (0 : Int32) := by
  first | omega | ((try simp only [g_m1, Int32.lt_iff_toInt_lt, Int32.le_iff_toInt_le, ← Int32.toInt_inj, Int32.reduceToInt] at *); omega) | ((try simp only [g_m1, Int32.lt_iff_toInt_lt, Int32.le_iff_toInt_le, ← Int32.toInt_inj, Int32.reduceToInt] at *); omega) | ((try simp only [g_m1, Int32.lt_iff_toInt_lt, Int32.le_iff_toInt_le, ← Int32.toInt_inj, Int32.toInt_add, Int32.toInt_sub, Int32.toInt_mul, Int32.toInt_neg, Int32.reduceToInt, g_bm, g_bm'] at *); omega) | (have qr1 := g_rng x; have qr2 := g_rng y; (try simp only [g_m1, Int32.lt_iff_toInt_lt, Int32.le_iff_toInt_le, ← Int32.toInt_inj, Int32.toInt_add, Int32.toInt_sub, Int32.toInt_mul, Int32.toInt_neg, Int32.reduceToInt, g_bm, g_bm'] at *); omega) | (simp only [g_m1, Int32.lt_iff_toInt_lt, Int32.le_iff_toInt_le, ← Int32.toInt_inj, Int32.toInt_add, Int32.toInt_sub, Int32.toInt_mul, Int32.toInt_neg, Int32.reduceToInt, g_bm, g_bm'] at *; simp at *; omega) | (simp_all; done)
set_option maxHeartbeats 1000000 in
set_option maxRecDepth 100000 in
theorem g_X3_addDays (l : Launch) (E : qE) (A : Nat → Prop) (u : qS) (x : Int32) (y : Int32) (hI : IC E u) : Met l yX3_addDays (uws yX3_addDays cX3_addDays 5 none) (qR 3 0 0) (qPc E A 0 u [.ref (E.2.2 399), .int x, .int y]) (qQv E A 0 (fun u1 => (qFc [] [306, 307] [] [] u u1 ∧ IC E u1 ∧ u1.2.2.2.2 = u.2.2.2.2) ∧ (True))) 0 0 A := by
  refine q_met (own := RX3) (f := 3) [.ref (E.2.2 399), .int x, .int y] (by decide) (Nat.le_of_ble_eq_true rfl) rfl ?_
  intro p0 e0 s0 m0 bl0 me0 cd0 ls hF hr hlocks hU hS hA hl
  have hl : lv_has ls 5 [(0, .ref (E.2.2 399)), (1, .int x), (2, .int y)] := hl
  have hkd : u.2.2.2.2 = u.2.2.2.2 := rfl
  have hz8 : 0 ≤ u.1 8 ∧ u.1 8 ≤ 20 := hI.1.s8
  have hz9 : 0 ≤ u.1 9 ∧ u.1 9 ≤ 8 := hI.1.s9
  have hz10 : 0 ≤ u.1 10 ∧ u.1 10 ≤ 120 := hI.1.s10
  have hz12 : 0 ≤ u.1 12 ∧ u.1 12 ≤ 16 := hI.1.s12
  have hfr : qFc [] [306, 307] [] [] u u := qFc.rf
  have main : ∀ n : Nat, (∀ (x3 : Int32) (uc : qS) (H : Heap) (locs : List Loc) (ls : Array Slot) (hfr : qFc [] [306, 307] [] [] u uc) (hI : IC E uc) (hkd : uc.2.2.2.2 = u.2.2.2.2) (h_k : 0 ≤ x3), ((u.1 10).toInt - x3.toInt).toNat < n → qH E A 0 uc s0 H → va_S A s0.heap H locs → lv_has ls 5 [(0, .ref (E.2.2 399)), (1, .int x), (2, .int y), (3, .int x3)] → W p0 l e0 (qR 3 0 0) s0 m0 ([.ref (E.2.2 399), .int x, .int y] : List Value).toArray bl0 me0 cd0 H locs 0 0 (MQ bl0 (qQv E A 0 (fun u1 => (qFc [] [306, 307] [] [] u u1 ∧ IC E u1 ∧ u1.2.2.2.2 = u.2.2.2.2) ∧ (True))) ([.ref (E.2.2 399), .int x, .int y] : List Value).toArray s0 0 0 A) (F0 m0 18 ls [])) := by
    clear hI hfr hkd
    intro n
    induction n with
    | zero => exact fun _ _ _ _ _ _ _ _ _ hmu => absurd hmu (Nat.not_lt_zero _)
    | succ n ih =>
      intro x3 uc H locs ls hfr hI hkd h_k hmu hU hS hl
      refine lv_iload_n hF.1 hF.2.1 dX3_addDays_18 rfl (lv_at hl 3 rfl) ?_
      refine lv_aload_n hF.1 hF.2.1 dX3_addDays_19 rfl (lv_at hl 0 rfl) ?_
      refine q_get (v := .ref (E.2.2 99)) hF hU dX3_addDays_20 6 3 0 300 399 rfl rfl rfl rfl inX3 (by decide) (by decide) w_377 rfl rfl ?_
      refine q_get (v := .int (u.1 10)) hF hU dX3_addDays_23 1 0 10 10 99 rfl rfl rfl rfl inX0 (by decide) (by decide) w_170 rfl (congrArg Value.int (hfr.1 10 (by decide))) ?_
      refine lv_icmp_ge (tgt := 101) hF.1 hF.2.1 dX3_addDays_26 (by decide) (fun c26_1 => ?_) (fun c26_1 => ?_)
      · exact q_vret hF hr hlocks hU hS dX3_addDays_101 ⟨⟨hfr, hI, hkd⟩, trivial⟩
      · refine lv_aload_n hF.1 hF.2.1 dX3_addDays_29 rfl (lv_at hl 0 rfl) ?_
        refine q_get (v := .ref (E.2.2 99)) hF hU dX3_addDays_30 6 3 0 300 399 rfl rfl rfl rfl inX3 (by decide) (by decide) w_377 rfl rfl ?_
        refine q_get (v := .ref (E.2.2 2)) hF hU dX3_addDays_33 1 0 2 2 99 rfl rfl rfl rfl inX0 (by decide) (by decide) w_151 rfl rfl ?_
        refine lv_iload_n hF.1 hF.2.1 dX3_addDays_36 rfl (lv_at hl 3 rfl) ?_
        obtain ⟨a_2, ha_2_3_e, ha_2_3⟩ := hI.r2 x3 (by rw [(hfr.1 10 (by decide))]; exact (g_X3_addDays_v0 u x y x3 hz8 hz9 hz10 hz12 h_k c26_1))
        refine q_aald (v := .ref a_2) hF hU dX3_addDays_37 2 2 6 rfl rfl (by decide) rfl (g_X3_addDays_v1 u x3 hz8 hz9 hz10 hz12 h_k c26_1) (by rw [ha_2_3_e]; rfl) ?_
        refine lv_astore (lv' := [(4, .ref a_2), (0, .ref (E.2.2 399)), (1, .int x), (2, .int y), (3, .int x3)]) hF.1 hF.2.1 dX3_addDays_38 hl (by decide) rfl (fun ls hl => ?_)
        refine lv_aload hF.1 hF.2.1 dX3_addDays_40 (lv_at hl 0 rfl) ?_
        obtain ⟨k_4, fs_5, hd_7, hv_8, hv_8_2, hv_8_3, -⟩ := hI.vf ((ha_2_3).rf) 4 (by decide)
        refine q_getd (v := .int (qfd uc.2.2.2.2 a_2 4)) hF hU dX3_addDays_42 k_4 10 4 hd_7 rfl inX10 (by decide) w_602 rfl hv_8 ?_
        refine lv_iload_n hF.1 hF.2.1 dX3_addDays_45 rfl (lv_at hl 2 rfl) ?_
        refine lv_iload_n hF.1 hF.2.1 dX3_addDays_46 rfl (lv_at hl 3 rfl) ?_
        have hM9 := g_X11_isWithin l E A uc (qfd uc.2.2.2.2 a_2 4) x y
        have hR9 := q_runSN (l := l) (e := e0) (below := bl0) (meth := me0) (R := qR 3 0 0) (cells := 0) (slots := 0) (st0 := [.int y, .int x, .int (qfd uc.2.2.2.2 a_2 4)]) (rest := []) (host := "SecretBuyers") hF hU hS hA 3 hM9 hU.2.2.2.n1024 w_469 w_99 w_470 (by decide +kernel) ⟨Nat.le_of_ble_eq_true rfl, Nat.le_of_ble_eq_true rfl⟩ dX3_addDays_47 rfl hl.1 rfl (Nat.le_of_ble_eq_true rfl) ⟨Nat.le_of_ble_eq_true rfl, Nat.le_of_ble_eq_true rfl⟩
        refine q_calli hR9 hU.2.2.2 hS (fun r_11 u_9 H locs hw_10 hU hS => ?_)
        obtain ⟨hw_10_e, hw_10⟩ := hw_10
        rw [hw_10_e] at hU
        have hw_10 : (r_11 = 1 ∧ (x ≤ (qfd uc.2.2.2.2 a_2 4) ∧ (qfd uc.2.2.2.2 a_2 4) ≤ y)) ∨ (r_11 = 0 ∧ (¬ (x ≤ (qfd uc.2.2.2.2 a_2 4) ∧ (qfd uc.2.2.2.2 a_2 4) ≤ y))) := hw_10
        rcases hw_10 with ⟨rfl, b47_12⟩ | ⟨rfl, b47_12⟩
        · refine lv_if_eq (tgt := 95) hF.1 hF.2.1 dX3_addDays_50 (by decide) (fun h9 => absurd h9 (by decide)) (fun _ => ?_)
          refine lv_aload_n hF.1 hF.2.1 dX3_addDays_53 rfl (lv_at hl 1 rfl) ?_
          refine lv_aload hF.1 hF.2.1 dX3_addDays_54 (lv_at hl 0 rfl) ?_
          have hM9 := g_X3_isTaken l E A uc a_2 hI ((ha_2_3).rf)
          have hR9 := q_runV (l := l) (e := e0) (below := bl0) (meth := me0) (R := qR 3 0 0) (cells := 0) (slots := 0) (st0 := [.ref a_2, .ref (E.2.2 399)]) (rest := []) hF hU hS hA 1 6 3 399 rfl rfl rfl hM9 w_990 w_992 w_32 w_105 w_993 (by decide +kernel) ⟨Nat.le_of_ble_eq_true rfl, Nat.le_of_ble_eq_true rfl⟩ dX3_addDays_56 rfl hl.1 rfl (Nat.le_of_ble_eq_true rfl) ⟨Nat.le_of_ble_eq_true rfl, Nat.le_of_ble_eq_true rfl⟩
          refine q_calli hR9 hU.2.2.2 hS (fun r_15 u_13 H locs hw_14 hU hS => ?_)
          obtain ⟨hw_14_e, hw_14⟩ := hw_14
          rw [hw_14_e] at hU
          rcases hw_14 with rfl | rfl
          · refine lv_if_eq (tgt := 95) hF.1 hF.2.1 dX3_addDays_59 (by decide) (fun h9 => absurd h9 (by decide)) (fun _ => ?_)
            refine lv_aload_n hF.1 hF.2.1 dX3_addDays_62 rfl (lv_at hl 1 rfl) ?_
            refine q_get (v := .ref (E.2.2 306)) hF hU dX3_addDays_63 6 3 6 306 399 rfl rfl rfl rfl inX3 (by decide) (by decide) w_383 rfl rfl ?_
            refine lv_aload hF.1 hF.2.1 dX3_addDays_66 (lv_at hl 0 rfl) ?_
            obtain ⟨k_17, fs_18, hd_20, hv_21, hv_21_2, hv_21_3, -⟩ := hI.vf ((ha_2_3).rf) 2 (by decide)
            refine q_getd (v := .int (qfd uc.2.2.2.2 a_2 2)) hF hU dX3_addDays_68 k_17 10 2 hd_20 rfl inX10 (by decide) w_591 rfl hv_21 ?_
            have hb_22 : 0 ≤ qfd uc.2.2.2.2 a_2 2 ∧ qfd uc.2.2.2.2 a_2 2 < (u.1 8) := (by have h9 := hv_21_2 rfl; rw [(hfr.1 8 (by decide))] at h9; exact h9)
            refine lv_dup2_11 hF.1 hF.2.1 dX3_addDays_71 rfl rfl ?_
            refine q_iald (v := uc.2.1 306 (qfd uc.2.2.2.2 a_2 2 : Int32).toNatClampNeg) hF hU dX3_addDays_72 21 306 rfl rfl (g_X3_addDays_v2 u x y x3 uc a_2 hz8 hz9 hz10 hz12 h_k c26_1 b47_12 hb_22) rfl ?_
            refine lv_aload_n hF.1 hF.2.1 dX3_addDays_73 rfl (lv_at hl 1 rfl) ?_
            refine lv_aload hF.1 hF.2.1 dX3_addDays_74 (lv_at hl 0 rfl) ?_
            have hM9 := g_X3_fairScore l E A uc a_2 hI ((ha_2_3).rf)
            have hR9 := q_runV (l := l) (e := e0) (below := bl0) (meth := me0) (R := qR 3 0 0) (cells := 0) (slots := 0) (st0 := [.ref a_2, .ref (E.2.2 399), .int (uc.2.1 306 (qfd uc.2.2.2.2 a_2 2 : Int32).toNatClampNeg), .int (qfd uc.2.2.2.2 a_2 2), .ref (E.2.2 306)]) (rest := [.int (uc.2.1 306 (qfd uc.2.2.2.2 a_2 2 : Int32).toNatClampNeg), .int (qfd uc.2.2.2.2 a_2 2), .ref (E.2.2 306)]) hF hU hS hA 1 6 3 399 rfl rfl rfl hM9 w_1025 w_1026 w_1027 w_105 w_1028 (by decide +kernel) ⟨Nat.le_of_ble_eq_true rfl, Nat.le_of_ble_eq_true rfl⟩ dX3_addDays_76 rfl hl.1 rfl (Nat.le_of_ble_eq_true rfl) ⟨Nat.le_of_ble_eq_true rfl, Nat.le_of_ble_eq_true rfl⟩
            refine q_calli hR9 hU.2.2.2 hS (fun r_25 u_23 H locs hw_24 hU hS => ?_)
            obtain ⟨hw_24_e, hw_24⟩ := hw_24
            rw [hw_24_e] at hU
            refine lv_iadd hF.1 hF.2.1 dX3_addDays_79 ?_
            refine q_iast hF hU hS dX3_addDays_80 21 306 rfl rfl (g_X3_addDays_v3 u x y x3 uc a_2 hz8 hz9 hz10 hz12 h_k c26_1 b47_12 hb_22) (fun f_26 H locs hg9 hU hS => ?_)
            have hf_26 : f_26 = upd (uc.2.1 306) (qfd uc.2.2.2.2 a_2 2 : Int32).toNatClampNeg ((uc.2.1 306 (qfd uc.2.2.2.2 a_2 2 : Int32).toNatClampNeg) + r_25) := hg9
            have hfr : qFc [] [306, 307] [] [] u (qsF uc 306 f_26) := hfr.setF (by decide)
            have hI : IC E (qsF uc 306 f_26) := hI.sF (by decide)
            refine lv_aload_n hF.1 hF.2.1 dX3_addDays_81 rfl (lv_at hl 1 rfl) ?_
            refine q_get (v := .ref (E.2.2 307)) hF hU dX3_addDays_82 6 3 7 307 399 rfl rfl rfl rfl inX3 (by decide) (by decide) w_384 rfl rfl ?_
            refine lv_aload hF.1 hF.2.1 dX3_addDays_85 (lv_at hl 0 rfl) ?_
            obtain ⟨k_27, fs_28, hd_30, hv_31, hv_31_2, hv_31_3, -⟩ := hI.vf ((ha_2_3).rf) 2 (by decide)
            refine q_getd (v := .int (qfd uc.2.2.2.2 a_2 2)) hF hU dX3_addDays_87 k_27 10 2 hd_30 rfl inX10 (by decide) w_591 rfl hv_31 ?_
            refine lv_dup2_11 hF.1 hF.2.1 dX3_addDays_90 rfl rfl ?_
            refine q_iald (v := uc.2.1 307 (qfd uc.2.2.2.2 a_2 2 : Int32).toNatClampNeg) hF hU dX3_addDays_91 22 307 rfl rfl (g_X3_addDays_v4 u x y x3 uc a_2 r_25 f_26 hz8 hz9 hz10 hz12 h_k c26_1 b47_12 hb_22 hf_26) rfl ?_
            refine lv_iconst (v := 1) hF.1 hF.2.1 dX3_addDays_92 (by decide) ?_
            refine lv_iadd hF.1 hF.2.1 dX3_addDays_93 ?_
            refine q_iast hF hU hS dX3_addDays_94 22 307 rfl rfl (g_X3_addDays_v5 u x y x3 uc a_2 r_25 f_26 hz8 hz9 hz10 hz12 h_k c26_1 b47_12 hb_22 hf_26) (fun f_32 H locs hg9 hU hS => ?_)
            have hf_32 : f_32 = upd (uc.2.1 307) (qfd uc.2.2.2.2 a_2 2 : Int32).toNatClampNeg ((uc.2.1 307 (qfd uc.2.2.2.2 a_2 2 : Int32).toNatClampNeg) + 1) := hg9
            have hfr : qFc [] [306, 307] [] [] u (qsF (qsF uc 306 f_26) 307 f_32) := hfr.setF (by decide)
            have hI : IC E (qsF (qsF uc 306 f_26) 307 f_32) := hI.sF (by decide)
            refine lv_iinc (v := x3 + 1) (lv' := [(3, .int (x3 + 1)), (4, .ref a_2), (0, .ref (E.2.2 399)), (1, .int x), (2, .int y)]) hF.1 hF.2.1 dX3_addDays_95 hl (k := 4) rfl rfl (by decide) rfl (fun ls hl => ?_)
            refine lv_goto (tgt := 18) hF.1 hF.2.1 dX3_addDays_98 (by decide) ?_
            exact ih (x3 + 1) (qsF (qsF uc 306 f_26) 307 f_32) _ _ _ hfr hI hkd  (g_X3_addDays_v6 u x y x3 uc a_2 r_25 f_26 f_32 hz8 hz9 hz10 hz12 h_k c26_1 b47_12 hb_22 hf_26 hf_32) (Nat.lt_of_lt_of_le (g_X3_addDays_v7 u x y x3 uc a_2 r_25 f_26 f_32 hz8 hz9 hz10 hz12 h_k c26_1 b47_12 hb_22 hf_26 hf_32) (Nat.lt_succ_iff.mp hmu)) hU hS (lv_sub hl [2, 3, 4, 0] rfl)
          · refine lv_if_eq (tgt := 95) hF.1 hF.2.1 dX3_addDays_59 (by decide) (fun _ => ?_) (fun h9 => absurd (by decide) h9)
            refine lv_iinc (v := x3 + 1) (lv' := [(3, .int (x3 + 1)), (4, .ref a_2), (0, .ref (E.2.2 399)), (1, .int x), (2, .int y)]) hF.1 hF.2.1 dX3_addDays_95 hl (k := 4) rfl rfl (by decide) rfl (fun ls hl => ?_)
            refine lv_goto (tgt := 18) hF.1 hF.2.1 dX3_addDays_98 (by decide) ?_
            exact ih (x3 + 1) uc _ _ _ hfr hI hkd  (g_X3_addDays_v8 u x y x3 uc a_2 hz8 hz9 hz10 hz12 h_k c26_1 b47_12) (Nat.lt_of_lt_of_le (g_X3_addDays_v9 u x y x3 uc a_2 hz8 hz9 hz10 hz12 h_k c26_1 b47_12) (Nat.lt_succ_iff.mp hmu)) hU hS (lv_sub hl [2, 3, 4, 0] rfl)
        · refine lv_if_eq (tgt := 95) hF.1 hF.2.1 dX3_addDays_50 (by decide) (fun _ => ?_) (fun h9 => absurd (by decide) h9)
          refine lv_iinc (v := x3 + 1) (lv' := [(3, .int (x3 + 1)), (4, .ref a_2), (0, .ref (E.2.2 399)), (1, .int x), (2, .int y)]) hF.1 hF.2.1 dX3_addDays_95 hl (k := 4) rfl rfl (by decide) rfl (fun ls hl => ?_)
          refine lv_goto (tgt := 18) hF.1 hF.2.1 dX3_addDays_98 (by decide) ?_
          exact ih (x3 + 1) uc _ _ _ hfr hI hkd  (g_X3_addDays_v10 u x y x3 uc a_2 hz8 hz9 hz10 hz12 h_k c26_1 b47_12) (Nat.lt_of_lt_of_le (g_X3_addDays_v11 u x y x3 uc a_2 hz8 hz9 hz10 hz12 h_k c26_1 b47_12) (Nat.lt_succ_iff.mp hmu)) hU hS (lv_sub hl [2, 3, 4, 0] rfl)
  refine lv_aload_n hF.1 hF.2.1 dX3_addDays_0 rfl (lv_at hl 0 rfl) ?_
  refine q_get (v := .ref (E.2.2 306)) hF hU dX3_addDays_1 6 3 6 306 399 rfl rfl rfl rfl inX3 (by decide) (by decide) w_383 rfl rfl ?_
  refine lv_iconst (v := 0) hF.1 hF.2.1 dX3_addDays_4 (by decide) ?_
  have hM9 := g_fill_306 l E A u 0 hI
  have hR9 := q_runS (l := l) (e := e0) (below := bl0) (meth := me0) (R := qR 3 0 0) (cells := 0) (slots := 0) (st0 := [.int 0, .ref (E.2.2 306)]) (rest := []) hF hU hS hA 2 hM9 w_989 w_941 w_112 w_942 (by decide +kernel) ⟨Nat.le_of_ble_eq_true rfl, Nat.le_of_ble_eq_true rfl⟩ dX3_addDays_5 rfl hl.1 rfl (Nat.le_of_ble_eq_true rfl) ⟨Nat.le_of_ble_eq_true rfl, Nat.le_of_ble_eq_true rfl⟩
  refine q_callv hR9 hU.2.2.2 hS (fun u_33 H locs hw_34 hU hS => ?_)
  obtain ⟨⟨hw_34_f, hI, hw_34_d⟩, hw_34⟩ := hw_34
  have hfo := hfr
  have hfr : qFc [] [306, 307] [] [] u u_33 := hfr.trans (hw_34_f.mono (by decide) (by decide) (by decide) (by decide))
  have e_36 : u_33.2.1 307 = (u.2.1 307) := (hw_34_f.2.1 307 (by decide)).trans rfl
  have hkd : u_33.2.2.2.2 = u.2.2.2.2 := hw_34_d.trans hkd
  refine lv_aload_n hF.1 hF.2.1 dX3_addDays_8 rfl (lv_at hl 0 rfl) ?_
  refine q_get (v := .ref (E.2.2 307)) hF hU dX3_addDays_9 6 3 7 307 399 rfl rfl rfl rfl inX3 (by decide) (by decide) w_384 rfl rfl ?_
  refine lv_iconst (v := 0) hF.1 hF.2.1 dX3_addDays_12 (by decide) ?_
  have hM9 := g_fill_307 l E A u_33 0 hI
  have hR9 := q_runS (l := l) (e := e0) (below := bl0) (meth := me0) (R := qR 3 0 0) (cells := 0) (slots := 0) (st0 := [.int 0, .ref (E.2.2 307)]) (rest := []) hF hU hS hA 2 hM9 w_989 w_941 w_112 w_942 (by decide +kernel) ⟨Nat.le_of_ble_eq_true rfl, Nat.le_of_ble_eq_true rfl⟩ dX3_addDays_13 rfl hl.1 rfl (Nat.le_of_ble_eq_true rfl) ⟨Nat.le_of_ble_eq_true rfl, Nat.le_of_ble_eq_true rfl⟩
  refine q_callv hR9 hU.2.2.2 hS (fun u_37 H locs hw_38 hU hS => ?_)
  obtain ⟨⟨hw_38_f, hI, hw_38_d⟩, hw_38⟩ := hw_38
  have hfo := hfr
  have hfr : qFc [] [306, 307] [] [] u u_37 := hfr.trans (hw_38_f.mono (by decide) (by decide) (by decide) (by decide))
  have e_40 : u_37.2.1 306 = (u_33.2.1 306) := (hw_38_f.2.1 306 (by decide)).trans rfl
  have hkd : u_37.2.2.2.2 = u.2.2.2.2 := hw_38_d.trans hkd
  refine lv_iconst (v := 0) hF.1 hF.2.1 dX3_addDays_16 (by decide) ?_
  refine lv_istore_n (lv' := [(3, .int 0), (0, .ref (E.2.2 399)), (1, .int x), (2, .int y)]) hF.1 hF.2.1 dX3_addDays_17 rfl hl (by decide) rfl (fun ls hl => ?_)
  exact (main _) (0 : Int32) u_37 _ _ _ hfr hI hkd  (g_X3_addDays_v12 u x y hz8 hz9 hz10 hz12) (Nat.lt_succ_self _) hU hS (lv_sub hl [1, 2, 3, 0] rfl)
set_option maxRecDepth 100000 in
theorem g_X3_rankShop_v0 (u : qS) (x : Int32) (x2 : Int32) (uc : qS) (hx : 0 ≤ x ∧ x < u.1 8) (hrk : 0 ≤ (u.1 310).toInt ∧ (u.1 310).toInt < 20) (hg : g_rw (u.2.1 308) (u.1 310).toInt 0 (u.1 8).toInt) (hz8 : 0 ≤ u.1 8 ∧ u.1 8 ≤ 20) (hz9 : 0 ≤ u.1 9 ∧ u.1 9 ≤ 8) (hz10 : 0 ≤ u.1 10 ∧ u.1 10 ≤ 120) (hz12 : 0 ≤ u.1 12 ∧ u.1 12 ≤ 16) (h_j : 0 ≤ x2 ∧ x2 ≤ u.1 310) (h_l : g_rw (uc.2.1 308) (u.1 310).toInt 0 (u.1 8).toInt ∧ (x2.toInt < (u.1 310).toInt → g_rw (uc.2.1 308) ((u.1 310).toInt + 1) 0 (u.1 8).toInt)) (h_m : uc.1 310 = u.1 310) (c6_1 : (x2 : Int32) ≤ 0) : vp_in (x2) 20 := by
  clear h_l hg; refine g_in ?_ ?_ <;> ((try simp only [g_m1, Int32.lt_iff_toInt_lt, Int32.le_iff_toInt_le, ← Int32.toInt_inj, Int32.reduceToInt] at *); omega)
set_option maxRecDepth 100000 in
theorem g_X3_rankShop_v1 (u : qS) (x : Int32) (x2 : Int32) (uc : qS) (f_2 : Nat → Int32) (hx : 0 ≤ x ∧ x < u.1 8) (hrk : 0 ≤ (u.1 310).toInt ∧ (u.1 310).toInt < 20) (hg : g_rw (u.2.1 308) (u.1 310).toInt 0 (u.1 8).toInt) (hz8 : 0 ≤ u.1 8 ∧ u.1 8 ≤ 20) (hz9 : 0 ≤ u.1 9 ∧ u.1 9 ≤ 8) (hz10 : 0 ≤ u.1 10 ∧ u.1 10 ≤ 120) (hz12 : 0 ≤ u.1 12 ∧ u.1 12 ≤ 16) (h_j : 0 ≤ x2 ∧ x2 ≤ u.1 310) (h_l : g_rw (uc.2.1 308) (u.1 310).toInt 0 (u.1 8).toInt ∧ (x2.toInt < (u.1 310).toInt → g_rw (uc.2.1 308) ((u.1 310).toInt + 1) 0 (u.1 8).toInt)) (h_m : uc.1 310 = u.1 310) (c6_1 : (x2 : Int32) ≤ 0) (hf_2 : f_2 = upd (uc.2.1 308) (x2 : Int32).toNatClampNeg x) : ((uc.1 310) + 1 : Int32) = u.1 310 + 1 ∧ g_rw (f_2) (((uc.1 310) + 1 : Int32)).toInt 0 (u.1 8).toInt := by
  have ez := (g_up (i := u.1 310) (by clear h_l hg; (try simp only [g_m1, Int32.lt_iff_toInt_lt, Int32.le_iff_toInt_le, ← Int32.toInt_inj, Int32.reduceToInt] at *); omega) (by clear h_l hg; (try simp only [g_m1, Int32.lt_iff_toInt_lt, Int32.le_iff_toInt_le, ← Int32.toInt_inj, Int32.reduceToInt] at *); omega)).1
  refine ⟨by rw [h_m], ?_⟩
  rw [h_m, ez]
  subst hf_2; rcases Int.lt_or_le x2.toInt (u.1 310).toInt with q | q
  · have q2 := h_l.2 q; clear h_l hg; (first | exact g_rw.put q2 (by first | rfl | omega | ((try simp only [g_m1, Int32.lt_iff_toInt_lt, Int32.le_iff_toInt_le, ← Int32.toInt_inj, Int32.reduceToInt] at *); omega) | ((try simp only [g_m1, Int32.lt_iff_toInt_lt, Int32.le_iff_toInt_le, ← Int32.toInt_inj, Int32.toInt_add, Int32.toInt_sub, Int32.toInt_mul, Int32.toInt_neg, Int32.reduceToInt, g_bm, g_bm'] at *); omega)) (by first | rfl | omega | ((try simp only [g_m1, Int32.lt_iff_toInt_lt, Int32.le_iff_toInt_le, ← Int32.toInt_inj, Int32.reduceToInt] at *); omega) | ((try simp only [g_m1, Int32.lt_iff_toInt_lt, Int32.le_iff_toInt_le, ← Int32.toInt_inj, Int32.toInt_add, Int32.toInt_sub, Int32.toInt_mul, Int32.toInt_neg, Int32.reduceToInt, g_bm, g_bm'] at *); omega)) (by first | rfl | omega | ((try simp only [g_m1, Int32.lt_iff_toInt_lt, Int32.le_iff_toInt_le, ← Int32.toInt_inj, Int32.reduceToInt] at *); omega) | ((try simp only [g_m1, Int32.lt_iff_toInt_lt, Int32.le_iff_toInt_le, ← Int32.toInt_inj, Int32.toInt_add, Int32.toInt_sub, Int32.toInt_mul, Int32.toInt_neg, Int32.reduceToInt, g_bm, g_bm'] at *); omega)) | exact g_rw.push q2 (by first | rfl | omega | ((try simp only [g_m1, Int32.lt_iff_toInt_lt, Int32.le_iff_toInt_le, ← Int32.toInt_inj, Int32.reduceToInt] at *); omega) | ((try simp only [g_m1, Int32.lt_iff_toInt_lt, Int32.le_iff_toInt_le, ← Int32.toInt_inj, Int32.toInt_add, Int32.toInt_sub, Int32.toInt_mul, Int32.toInt_neg, Int32.reduceToInt, g_bm, g_bm'] at *); omega)) (by first | rfl | omega | ((try simp only [g_m1, Int32.lt_iff_toInt_lt, Int32.le_iff_toInt_le, ← Int32.toInt_inj, Int32.reduceToInt] at *); omega) | ((try simp only [g_m1, Int32.lt_iff_toInt_lt, Int32.le_iff_toInt_le, ← Int32.toInt_inj, Int32.toInt_add, Int32.toInt_sub, Int32.toInt_mul, Int32.toInt_neg, Int32.reduceToInt, g_bm, g_bm'] at *); omega)) (by first | rfl | omega | ((try simp only [g_m1, Int32.lt_iff_toInt_lt, Int32.le_iff_toInt_le, ← Int32.toInt_inj, Int32.reduceToInt] at *); omega) | ((try simp only [g_m1, Int32.lt_iff_toInt_lt, Int32.le_iff_toInt_le, ← Int32.toInt_inj, Int32.toInt_add, Int32.toInt_sub, Int32.toInt_mul, Int32.toInt_neg, Int32.reduceToInt, g_bm, g_bm'] at *); omega)) (by first | rfl | omega | ((try simp only [g_m1, Int32.lt_iff_toInt_lt, Int32.le_iff_toInt_le, ← Int32.toInt_inj, Int32.reduceToInt] at *); omega) | ((try simp only [g_m1, Int32.lt_iff_toInt_lt, Int32.le_iff_toInt_le, ← Int32.toInt_inj, Int32.toInt_add, Int32.toInt_sub, Int32.toInt_mul, Int32.toInt_neg, Int32.reduceToInt, g_bm, g_bm'] at *); omega)))
  · have q2 := h_l.1; clear h_l hg; (first | exact g_rw.put q2 (by first | rfl | omega | ((try simp only [g_m1, Int32.lt_iff_toInt_lt, Int32.le_iff_toInt_le, ← Int32.toInt_inj, Int32.reduceToInt] at *); omega) | ((try simp only [g_m1, Int32.lt_iff_toInt_lt, Int32.le_iff_toInt_le, ← Int32.toInt_inj, Int32.toInt_add, Int32.toInt_sub, Int32.toInt_mul, Int32.toInt_neg, Int32.reduceToInt, g_bm, g_bm'] at *); omega)) (by first | rfl | omega | ((try simp only [g_m1, Int32.lt_iff_toInt_lt, Int32.le_iff_toInt_le, ← Int32.toInt_inj, Int32.reduceToInt] at *); omega) | ((try simp only [g_m1, Int32.lt_iff_toInt_lt, Int32.le_iff_toInt_le, ← Int32.toInt_inj, Int32.toInt_add, Int32.toInt_sub, Int32.toInt_mul, Int32.toInt_neg, Int32.reduceToInt, g_bm, g_bm'] at *); omega)) (by first | rfl | omega | ((try simp only [g_m1, Int32.lt_iff_toInt_lt, Int32.le_iff_toInt_le, ← Int32.toInt_inj, Int32.reduceToInt] at *); omega) | ((try simp only [g_m1, Int32.lt_iff_toInt_lt, Int32.le_iff_toInt_le, ← Int32.toInt_inj, Int32.toInt_add, Int32.toInt_sub, Int32.toInt_mul, Int32.toInt_neg, Int32.reduceToInt, g_bm, g_bm'] at *); omega)) | exact g_rw.push q2 (by first | rfl | omega | ((try simp only [g_m1, Int32.lt_iff_toInt_lt, Int32.le_iff_toInt_le, ← Int32.toInt_inj, Int32.reduceToInt] at *); omega) | ((try simp only [g_m1, Int32.lt_iff_toInt_lt, Int32.le_iff_toInt_le, ← Int32.toInt_inj, Int32.toInt_add, Int32.toInt_sub, Int32.toInt_mul, Int32.toInt_neg, Int32.reduceToInt, g_bm, g_bm'] at *); omega)) (by first | rfl | omega | ((try simp only [g_m1, Int32.lt_iff_toInt_lt, Int32.le_iff_toInt_le, ← Int32.toInt_inj, Int32.reduceToInt] at *); omega) | ((try simp only [g_m1, Int32.lt_iff_toInt_lt, Int32.le_iff_toInt_le, ← Int32.toInt_inj, Int32.toInt_add, Int32.toInt_sub, Int32.toInt_mul, Int32.toInt_neg, Int32.reduceToInt, g_bm, g_bm'] at *); omega)) (by first | rfl | omega | ((try simp only [g_m1, Int32.lt_iff_toInt_lt, Int32.le_iff_toInt_le, ← Int32.toInt_inj, Int32.reduceToInt] at *); omega) | ((try simp only [g_m1, Int32.lt_iff_toInt_lt, Int32.le_iff_toInt_le, ← Int32.toInt_inj, Int32.toInt_add, Int32.toInt_sub, Int32.toInt_mul, Int32.toInt_neg, Int32.reduceToInt, g_bm, g_bm'] at *); omega)) (by first | rfl | omega | ((try simp only [g_m1, Int32.lt_iff_toInt_lt, Int32.le_iff_toInt_le, ← Int32.toInt_inj, Int32.reduceToInt] at *); omega) | ((try simp only [g_m1, Int32.lt_iff_toInt_lt, Int32.le_iff_toInt_le, ← Int32.toInt_inj, Int32.toInt_add, Int32.toInt_sub, Int32.toInt_mul, Int32.toInt_neg, Int32.reduceToInt, g_bm, g_bm'] at *); omega)))
set_option maxRecDepth 100000 in
theorem g_X3_rankShop_v2 (u : qS) (x : Int32) (x2 : Int32) (uc : qS) (hx : 0 ≤ x ∧ x < u.1 8) (hrk : 0 ≤ (u.1 310).toInt ∧ (u.1 310).toInt < 20) (hg : g_rw (u.2.1 308) (u.1 310).toInt 0 (u.1 8).toInt) (hz8 : 0 ≤ u.1 8 ∧ u.1 8 ≤ 20) (hz9 : 0 ≤ u.1 9 ∧ u.1 9 ≤ 8) (hz10 : 0 ≤ u.1 10 ∧ u.1 10 ≤ 120) (hz12 : 0 ≤ u.1 12 ∧ u.1 12 ≤ 16) (h_j : 0 ≤ x2 ∧ x2 ≤ u.1 310) (h_l : g_rw (uc.2.1 308) (u.1 310).toInt 0 (u.1 8).toInt ∧ (x2.toInt < (u.1 310).toInt → g_rw (uc.2.1 308) ((u.1 310).toInt + 1) 0 (u.1 8).toInt)) (h_m : uc.1 310 = u.1 310) (c6_1 : ¬ (x2 : Int32) ≤ 0) : vp_in (x2 - 1) 20 := by
  clear h_l hg; refine g_in ?_ ?_ <;> ((try simp only [g_m1, Int32.lt_iff_toInt_lt, Int32.le_iff_toInt_le, ← Int32.toInt_inj, Int32.toInt_add, Int32.toInt_sub, Int32.toInt_mul, Int32.toInt_neg, Int32.reduceToInt, g_bm, g_bm'] at *); omega)
set_option maxRecDepth 100000 in
theorem g_X3_rankShop_v3 (u : qS) (x : Int32) (x2 : Int32) (uc : qS) (hx : 0 ≤ x ∧ x < u.1 8) (hrk : 0 ≤ (u.1 310).toInt ∧ (u.1 310).toInt < 20) (hg : g_rw (u.2.1 308) (u.1 310).toInt 0 (u.1 8).toInt) (hz8 : 0 ≤ u.1 8 ∧ u.1 8 ≤ 20) (hz9 : 0 ≤ u.1 9 ∧ u.1 9 ≤ 8) (hz10 : 0 ≤ u.1 10 ∧ u.1 10 ≤ 120) (hz12 : 0 ≤ u.1 12 ∧ u.1 12 ≤ 16) (h_j : 0 ≤ x2 ∧ x2 ≤ u.1 310) (h_l : g_rw (uc.2.1 308) (u.1 310).toInt 0 (u.1 8).toInt ∧ (x2.toInt < (u.1 310).toInt → g_rw (uc.2.1 308) ((u.1 310).toInt + 1) 0 (u.1 8).toInt)) (h_m : uc.1 310 = u.1 310) (c6_1 : ¬ (x2 : Int32) ≤ 0) : 0 ≤ (uc.2.1 308 (x2 - 1 : Int32).toNatClampNeg) ∧ (uc.2.1 308 (x2 - 1 : Int32).toNatClampNeg) < (u.1 8 : Int32) := by
  have q1 := h_l.1.get (x2 - 1) (by clear h_l hg; (try simp only [g_m1, Int32.lt_iff_toInt_lt, Int32.le_iff_toInt_le, ← Int32.toInt_inj, Int32.toInt_add, Int32.toInt_sub, Int32.toInt_mul, Int32.toInt_neg, Int32.reduceToInt, g_bm, g_bm'] at *); omega) (by clear h_l hg; (try simp only [g_m1, Int32.lt_iff_toInt_lt, Int32.le_iff_toInt_le, ← Int32.toInt_inj, Int32.toInt_add, Int32.toInt_sub, Int32.toInt_mul, Int32.toInt_neg, Int32.reduceToInt, g_bm, g_bm'] at *); omega)
  clear h_l hg; (try simp only [g_m1, Int32.lt_iff_toInt_lt, Int32.le_iff_toInt_le, ← Int32.toInt_inj, Int32.reduceToInt] at *); omega
set_option maxRecDepth 100000 in
theorem g_X3_rankShop_v4 (u : qS) (x : Int32) (x2 : Int32) (uc : qS) (r_5 : Int32) (hx : 0 ≤ x ∧ x < u.1 8) (hrk : 0 ≤ (u.1 310).toInt ∧ (u.1 310).toInt < 20) (hg : g_rw (u.2.1 308) (u.1 310).toInt 0 (u.1 8).toInt) (hz8 : 0 ≤ u.1 8 ∧ u.1 8 ≤ 20) (hz9 : 0 ≤ u.1 9 ∧ u.1 9 ≤ 8) (hz10 : 0 ≤ u.1 10 ∧ u.1 10 ≤ 120) (hz12 : 0 ≤ u.1 12 ∧ u.1 12 ≤ 16) (h_j : 0 ≤ x2 ∧ x2 ≤ u.1 310) (h_l : g_rw (uc.2.1 308) (u.1 310).toInt 0 (u.1 8).toInt ∧ (x2.toInt < (u.1 310).toInt → g_rw (uc.2.1 308) ((u.1 310).toInt + 1) 0 (u.1 8).toInt)) (h_m : uc.1 310 = u.1 310) (c6_1 : ¬ (x2 : Int32) ≤ 0) : 0 ≤ x ∧ x < (u.1 8 : Int32) := by
  first | omega | ((try simp only [g_m1, Int32.lt_iff_toInt_lt, Int32.le_iff_toInt_le, ← Int32.toInt_inj, Int32.reduceToInt] at *); omega) | ((try simp only [g_m1, Int32.lt_iff_toInt_lt, Int32.le_iff_toInt_le, ← Int32.toInt_inj, Int32.reduceToInt] at *); omega) | ((try simp only [g_m1, Int32.lt_iff_toInt_lt, Int32.le_iff_toInt_le, ← Int32.toInt_inj, Int32.toInt_add, Int32.toInt_sub, Int32.toInt_mul, Int32.toInt_neg, Int32.reduceToInt, g_bm, g_bm'] at *); omega) | (have qr1 := g_rng x; have qr2 := g_rng x2; have qr4 := g_rng r_5; (try simp only [g_m1, Int32.lt_iff_toInt_lt, Int32.le_iff_toInt_le, ← Int32.toInt_inj, Int32.toInt_add, Int32.toInt_sub, Int32.toInt_mul, Int32.toInt_neg, Int32.reduceToInt, g_bm, g_bm'] at *); omega) | (simp only [g_m1, Int32.lt_iff_toInt_lt, Int32.le_iff_toInt_le, ← Int32.toInt_inj, Int32.toInt_add, Int32.toInt_sub, Int32.toInt_mul, Int32.toInt_neg, Int32.reduceToInt, g_bm, g_bm'] at *; simp at *; omega) | (simp_all; done)
set_option maxRecDepth 100000 in
theorem g_X3_rankShop_v5 (u : qS) (x : Int32) (x2 : Int32) (uc : qS) (r_5 : Int32) (r_8 : Int32) (hx : 0 ≤ x ∧ x < u.1 8) (hrk : 0 ≤ (u.1 310).toInt ∧ (u.1 310).toInt < 20) (hg : g_rw (u.2.1 308) (u.1 310).toInt 0 (u.1 8).toInt) (hz8 : 0 ≤ u.1 8 ∧ u.1 8 ≤ 20) (hz9 : 0 ≤ u.1 9 ∧ u.1 9 ≤ 8) (hz10 : 0 ≤ u.1 10 ∧ u.1 10 ≤ 120) (hz12 : 0 ≤ u.1 12 ∧ u.1 12 ≤ 16) (h_j : 0 ≤ x2 ∧ x2 ≤ u.1 310) (h_l : g_rw (uc.2.1 308) (u.1 310).toInt 0 (u.1 8).toInt ∧ (x2.toInt < (u.1 310).toInt → g_rw (uc.2.1 308) ((u.1 310).toInt + 1) 0 (u.1 8).toInt)) (h_m : uc.1 310 = u.1 310) (c6_1 : ¬ (x2 : Int32) ≤ 0) (c26_9 : (r_5 : Int32) ≤ r_8) : vp_in (x2) 20 := by
  clear h_l hg; refine g_in ?_ ?_ <;> ((try simp only [g_m1, Int32.lt_iff_toInt_lt, Int32.le_iff_toInt_le, ← Int32.toInt_inj, Int32.reduceToInt] at *); omega)
set_option maxRecDepth 100000 in
theorem g_X3_rankShop_v6 (u : qS) (x : Int32) (x2 : Int32) (uc : qS) (r_5 : Int32) (r_8 : Int32) (f_10 : Nat → Int32) (hx : 0 ≤ x ∧ x < u.1 8) (hrk : 0 ≤ (u.1 310).toInt ∧ (u.1 310).toInt < 20) (hg : g_rw (u.2.1 308) (u.1 310).toInt 0 (u.1 8).toInt) (hz8 : 0 ≤ u.1 8 ∧ u.1 8 ≤ 20) (hz9 : 0 ≤ u.1 9 ∧ u.1 9 ≤ 8) (hz10 : 0 ≤ u.1 10 ∧ u.1 10 ≤ 120) (hz12 : 0 ≤ u.1 12 ∧ u.1 12 ≤ 16) (h_j : 0 ≤ x2 ∧ x2 ≤ u.1 310) (h_l : g_rw (uc.2.1 308) (u.1 310).toInt 0 (u.1 8).toInt ∧ (x2.toInt < (u.1 310).toInt → g_rw (uc.2.1 308) ((u.1 310).toInt + 1) 0 (u.1 8).toInt)) (h_m : uc.1 310 = u.1 310) (c6_1 : ¬ (x2 : Int32) ≤ 0) (c26_9 : (r_5 : Int32) ≤ r_8) (hf_10 : f_10 = upd (uc.2.1 308) (x2 : Int32).toNatClampNeg x) : ((uc.1 310) + 1 : Int32) = u.1 310 + 1 ∧ g_rw (f_10) (((uc.1 310) + 1 : Int32)).toInt 0 (u.1 8).toInt := by
  have ez := (g_up (i := u.1 310) (by clear h_l hg; (try simp only [g_m1, Int32.lt_iff_toInt_lt, Int32.le_iff_toInt_le, ← Int32.toInt_inj, Int32.reduceToInt] at *); omega) (by clear h_l hg; (try simp only [g_m1, Int32.lt_iff_toInt_lt, Int32.le_iff_toInt_le, ← Int32.toInt_inj, Int32.reduceToInt] at *); omega)).1
  refine ⟨by rw [h_m], ?_⟩
  rw [h_m, ez]
  subst hf_10; rcases Int.lt_or_le x2.toInt (u.1 310).toInt with q | q
  · have q2 := h_l.2 q; clear h_l hg; (first | exact g_rw.put q2 (by first | rfl | omega | ((try simp only [g_m1, Int32.lt_iff_toInt_lt, Int32.le_iff_toInt_le, ← Int32.toInt_inj, Int32.reduceToInt] at *); omega) | ((try simp only [g_m1, Int32.lt_iff_toInt_lt, Int32.le_iff_toInt_le, ← Int32.toInt_inj, Int32.toInt_add, Int32.toInt_sub, Int32.toInt_mul, Int32.toInt_neg, Int32.reduceToInt, g_bm, g_bm'] at *); omega)) (by first | rfl | omega | ((try simp only [g_m1, Int32.lt_iff_toInt_lt, Int32.le_iff_toInt_le, ← Int32.toInt_inj, Int32.reduceToInt] at *); omega) | ((try simp only [g_m1, Int32.lt_iff_toInt_lt, Int32.le_iff_toInt_le, ← Int32.toInt_inj, Int32.toInt_add, Int32.toInt_sub, Int32.toInt_mul, Int32.toInt_neg, Int32.reduceToInt, g_bm, g_bm'] at *); omega)) (by first | rfl | omega | ((try simp only [g_m1, Int32.lt_iff_toInt_lt, Int32.le_iff_toInt_le, ← Int32.toInt_inj, Int32.reduceToInt] at *); omega) | ((try simp only [g_m1, Int32.lt_iff_toInt_lt, Int32.le_iff_toInt_le, ← Int32.toInt_inj, Int32.toInt_add, Int32.toInt_sub, Int32.toInt_mul, Int32.toInt_neg, Int32.reduceToInt, g_bm, g_bm'] at *); omega)) | exact g_rw.push q2 (by first | rfl | omega | ((try simp only [g_m1, Int32.lt_iff_toInt_lt, Int32.le_iff_toInt_le, ← Int32.toInt_inj, Int32.reduceToInt] at *); omega) | ((try simp only [g_m1, Int32.lt_iff_toInt_lt, Int32.le_iff_toInt_le, ← Int32.toInt_inj, Int32.toInt_add, Int32.toInt_sub, Int32.toInt_mul, Int32.toInt_neg, Int32.reduceToInt, g_bm, g_bm'] at *); omega)) (by first | rfl | omega | ((try simp only [g_m1, Int32.lt_iff_toInt_lt, Int32.le_iff_toInt_le, ← Int32.toInt_inj, Int32.reduceToInt] at *); omega) | ((try simp only [g_m1, Int32.lt_iff_toInt_lt, Int32.le_iff_toInt_le, ← Int32.toInt_inj, Int32.toInt_add, Int32.toInt_sub, Int32.toInt_mul, Int32.toInt_neg, Int32.reduceToInt, g_bm, g_bm'] at *); omega)) (by first | rfl | omega | ((try simp only [g_m1, Int32.lt_iff_toInt_lt, Int32.le_iff_toInt_le, ← Int32.toInt_inj, Int32.reduceToInt] at *); omega) | ((try simp only [g_m1, Int32.lt_iff_toInt_lt, Int32.le_iff_toInt_le, ← Int32.toInt_inj, Int32.toInt_add, Int32.toInt_sub, Int32.toInt_mul, Int32.toInt_neg, Int32.reduceToInt, g_bm, g_bm'] at *); omega)) (by first | rfl | omega | ((try simp only [g_m1, Int32.lt_iff_toInt_lt, Int32.le_iff_toInt_le, ← Int32.toInt_inj, Int32.reduceToInt] at *); omega) | ((try simp only [g_m1, Int32.lt_iff_toInt_lt, Int32.le_iff_toInt_le, ← Int32.toInt_inj, Int32.toInt_add, Int32.toInt_sub, Int32.toInt_mul, Int32.toInt_neg, Int32.reduceToInt, g_bm, g_bm'] at *); omega)))
  · have q2 := h_l.1; clear h_l hg; (first | exact g_rw.put q2 (by first | rfl | omega | ((try simp only [g_m1, Int32.lt_iff_toInt_lt, Int32.le_iff_toInt_le, ← Int32.toInt_inj, Int32.reduceToInt] at *); omega) | ((try simp only [g_m1, Int32.lt_iff_toInt_lt, Int32.le_iff_toInt_le, ← Int32.toInt_inj, Int32.toInt_add, Int32.toInt_sub, Int32.toInt_mul, Int32.toInt_neg, Int32.reduceToInt, g_bm, g_bm'] at *); omega)) (by first | rfl | omega | ((try simp only [g_m1, Int32.lt_iff_toInt_lt, Int32.le_iff_toInt_le, ← Int32.toInt_inj, Int32.reduceToInt] at *); omega) | ((try simp only [g_m1, Int32.lt_iff_toInt_lt, Int32.le_iff_toInt_le, ← Int32.toInt_inj, Int32.toInt_add, Int32.toInt_sub, Int32.toInt_mul, Int32.toInt_neg, Int32.reduceToInt, g_bm, g_bm'] at *); omega)) (by first | rfl | omega | ((try simp only [g_m1, Int32.lt_iff_toInt_lt, Int32.le_iff_toInt_le, ← Int32.toInt_inj, Int32.reduceToInt] at *); omega) | ((try simp only [g_m1, Int32.lt_iff_toInt_lt, Int32.le_iff_toInt_le, ← Int32.toInt_inj, Int32.toInt_add, Int32.toInt_sub, Int32.toInt_mul, Int32.toInt_neg, Int32.reduceToInt, g_bm, g_bm'] at *); omega)) | exact g_rw.push q2 (by first | rfl | omega | ((try simp only [g_m1, Int32.lt_iff_toInt_lt, Int32.le_iff_toInt_le, ← Int32.toInt_inj, Int32.reduceToInt] at *); omega) | ((try simp only [g_m1, Int32.lt_iff_toInt_lt, Int32.le_iff_toInt_le, ← Int32.toInt_inj, Int32.toInt_add, Int32.toInt_sub, Int32.toInt_mul, Int32.toInt_neg, Int32.reduceToInt, g_bm, g_bm'] at *); omega)) (by first | rfl | omega | ((try simp only [g_m1, Int32.lt_iff_toInt_lt, Int32.le_iff_toInt_le, ← Int32.toInt_inj, Int32.reduceToInt] at *); omega) | ((try simp only [g_m1, Int32.lt_iff_toInt_lt, Int32.le_iff_toInt_le, ← Int32.toInt_inj, Int32.toInt_add, Int32.toInt_sub, Int32.toInt_mul, Int32.toInt_neg, Int32.reduceToInt, g_bm, g_bm'] at *); omega)) (by first | rfl | omega | ((try simp only [g_m1, Int32.lt_iff_toInt_lt, Int32.le_iff_toInt_le, ← Int32.toInt_inj, Int32.reduceToInt] at *); omega) | ((try simp only [g_m1, Int32.lt_iff_toInt_lt, Int32.le_iff_toInt_le, ← Int32.toInt_inj, Int32.toInt_add, Int32.toInt_sub, Int32.toInt_mul, Int32.toInt_neg, Int32.reduceToInt, g_bm, g_bm'] at *); omega)) (by first | rfl | omega | ((try simp only [g_m1, Int32.lt_iff_toInt_lt, Int32.le_iff_toInt_le, ← Int32.toInt_inj, Int32.reduceToInt] at *); omega) | ((try simp only [g_m1, Int32.lt_iff_toInt_lt, Int32.le_iff_toInt_le, ← Int32.toInt_inj, Int32.toInt_add, Int32.toInt_sub, Int32.toInt_mul, Int32.toInt_neg, Int32.reduceToInt, g_bm, g_bm'] at *); omega)))
set_option maxRecDepth 100000 in
theorem g_X3_rankShop_v7 (u : qS) (x : Int32) (x2 : Int32) (uc : qS) (r_5 : Int32) (r_8 : Int32) (hx : 0 ≤ x ∧ x < u.1 8) (hrk : 0 ≤ (u.1 310).toInt ∧ (u.1 310).toInt < 20) (hg : g_rw (u.2.1 308) (u.1 310).toInt 0 (u.1 8).toInt) (hz8 : 0 ≤ u.1 8 ∧ u.1 8 ≤ 20) (hz9 : 0 ≤ u.1 9 ∧ u.1 9 ≤ 8) (hz10 : 0 ≤ u.1 10 ∧ u.1 10 ≤ 120) (hz12 : 0 ≤ u.1 12 ∧ u.1 12 ≤ 16) (h_j : 0 ≤ x2 ∧ x2 ≤ u.1 310) (h_l : g_rw (uc.2.1 308) (u.1 310).toInt 0 (u.1 8).toInt ∧ (x2.toInt < (u.1 310).toInt → g_rw (uc.2.1 308) ((u.1 310).toInt + 1) 0 (u.1 8).toInt)) (h_m : uc.1 310 = u.1 310) (c6_1 : ¬ (x2 : Int32) ≤ 0) (c26_9 : ¬ (r_5 : Int32) ≤ r_8) : vp_in (x2 - 1) 20 := by
  clear h_l hg; refine g_in ?_ ?_ <;> ((try simp only [g_m1, Int32.lt_iff_toInt_lt, Int32.le_iff_toInt_le, ← Int32.toInt_inj, Int32.toInt_add, Int32.toInt_sub, Int32.toInt_mul, Int32.toInt_neg, Int32.reduceToInt, g_bm, g_bm'] at *); omega)
set_option maxRecDepth 100000 in
theorem g_X3_rankShop_v8 (u : qS) (x : Int32) (x2 : Int32) (uc : qS) (r_5 : Int32) (r_8 : Int32) (hx : 0 ≤ x ∧ x < u.1 8) (hrk : 0 ≤ (u.1 310).toInt ∧ (u.1 310).toInt < 20) (hg : g_rw (u.2.1 308) (u.1 310).toInt 0 (u.1 8).toInt) (hz8 : 0 ≤ u.1 8 ∧ u.1 8 ≤ 20) (hz9 : 0 ≤ u.1 9 ∧ u.1 9 ≤ 8) (hz10 : 0 ≤ u.1 10 ∧ u.1 10 ≤ 120) (hz12 : 0 ≤ u.1 12 ∧ u.1 12 ≤ 16) (h_j : 0 ≤ x2 ∧ x2 ≤ u.1 310) (h_l : g_rw (uc.2.1 308) (u.1 310).toInt 0 (u.1 8).toInt ∧ (x2.toInt < (u.1 310).toInt → g_rw (uc.2.1 308) ((u.1 310).toInt + 1) 0 (u.1 8).toInt)) (h_m : uc.1 310 = u.1 310) (c6_1 : ¬ (x2 : Int32) ≤ 0) (c26_9 : ¬ (r_5 : Int32) ≤ r_8) : vp_in (x2) 20 := by
  clear h_l hg; refine g_in ?_ ?_ <;> ((try simp only [g_m1, Int32.lt_iff_toInt_lt, Int32.le_iff_toInt_le, ← Int32.toInt_inj, Int32.reduceToInt] at *); omega)
set_option maxRecDepth 100000 in
theorem g_X3_rankShop_v9 (u : qS) (x : Int32) (x2 : Int32) (uc : qS) (r_5 : Int32) (r_8 : Int32) (f_11 : Nat → Int32) (hx : 0 ≤ x ∧ x < u.1 8) (hrk : 0 ≤ (u.1 310).toInt ∧ (u.1 310).toInt < 20) (hg : g_rw (u.2.1 308) (u.1 310).toInt 0 (u.1 8).toInt) (hz8 : 0 ≤ u.1 8 ∧ u.1 8 ≤ 20) (hz9 : 0 ≤ u.1 9 ∧ u.1 9 ≤ 8) (hz10 : 0 ≤ u.1 10 ∧ u.1 10 ≤ 120) (hz12 : 0 ≤ u.1 12 ∧ u.1 12 ≤ 16) (h_j : 0 ≤ x2 ∧ x2 ≤ u.1 310) (h_l : g_rw (uc.2.1 308) (u.1 310).toInt 0 (u.1 8).toInt ∧ (x2.toInt < (u.1 310).toInt → g_rw (uc.2.1 308) ((u.1 310).toInt + 1) 0 (u.1 8).toInt)) (h_m : uc.1 310 = u.1 310) (c6_1 : ¬ (x2 : Int32) ≤ 0) (c26_9 : ¬ (r_5 : Int32) ≤ r_8) (hf_11 : f_11 = upd (uc.2.1 308) (x2 : Int32).toNatClampNeg (uc.2.1 308 (x2 - 1 : Int32).toNatClampNeg)) : 0 ≤ (x2 + (-1)) ∧ (x2 + (-1)) ≤ u.1 310 := by
  clear h_l hg; (try simp only [g_m1, Int32.lt_iff_toInt_lt, Int32.le_iff_toInt_le, ← Int32.toInt_inj, Int32.toInt_add, Int32.toInt_sub, Int32.toInt_mul, Int32.toInt_neg, Int32.reduceToInt, g_bm, g_bm'] at *); omega
set_option maxRecDepth 100000 in
theorem g_X3_rankShop_v10 (u : qS) (x : Int32) (x2 : Int32) (uc : qS) (r_5 : Int32) (r_8 : Int32) (f_11 : Nat → Int32) (hx : 0 ≤ x ∧ x < u.1 8) (hrk : 0 ≤ (u.1 310).toInt ∧ (u.1 310).toInt < 20) (hg : g_rw (u.2.1 308) (u.1 310).toInt 0 (u.1 8).toInt) (hz8 : 0 ≤ u.1 8 ∧ u.1 8 ≤ 20) (hz9 : 0 ≤ u.1 9 ∧ u.1 9 ≤ 8) (hz10 : 0 ≤ u.1 10 ∧ u.1 10 ≤ 120) (hz12 : 0 ≤ u.1 12 ∧ u.1 12 ≤ 16) (h_j : 0 ≤ x2 ∧ x2 ≤ u.1 310) (h_l : g_rw (uc.2.1 308) (u.1 310).toInt 0 (u.1 8).toInt ∧ (x2.toInt < (u.1 310).toInt → g_rw (uc.2.1 308) ((u.1 310).toInt + 1) 0 (u.1 8).toInt)) (h_m : uc.1 310 = u.1 310) (c6_1 : ¬ (x2 : Int32) ≤ 0) (c26_9 : ¬ (r_5 : Int32) ≤ r_8) (hf_11 : f_11 = upd (uc.2.1 308) (x2 : Int32).toNatClampNeg (uc.2.1 308 (x2 - 1 : Int32).toNatClampNeg)) : g_rw (f_11) (u.1 310).toInt 0 (u.1 8).toInt ∧ ((x2 + (-1)).toInt < (u.1 310).toInt → g_rw (f_11) ((u.1 310).toInt + 1) 0 (u.1 8).toInt) := by
  have q1 := h_l.1.get (x2 - 1) (by clear h_l hg; (try simp only [g_m1, Int32.lt_iff_toInt_lt, Int32.le_iff_toInt_le, ← Int32.toInt_inj, Int32.toInt_add, Int32.toInt_sub, Int32.toInt_mul, Int32.toInt_neg, Int32.reduceToInt, g_bm, g_bm'] at *); omega) (by clear h_l hg; (try simp only [g_m1, Int32.lt_iff_toInt_lt, Int32.le_iff_toInt_le, ← Int32.toInt_inj, Int32.toInt_add, Int32.toInt_sub, Int32.toInt_mul, Int32.toInt_neg, Int32.reduceToInt, g_bm, g_bm'] at *); omega)
  have ez : (x2 + -1).toInt = x2.toInt + (-1 : Int32).toInt := g_add (by clear h_l hg; (try simp only [g_m1, Int32.lt_iff_toInt_lt, Int32.le_iff_toInt_le, ← Int32.toInt_inj, Int32.reduceToInt] at *); omega) (by clear h_l hg; (try simp only [g_m1, Int32.lt_iff_toInt_lt, Int32.le_iff_toInt_le, ← Int32.toInt_inj, Int32.reduceToInt] at *); omega)
  subst hf_11; refine ⟨?_, fun q9 => ?_⟩
  · have q2 := h_l.1; clear h_l hg; (first | exact g_rw.put q2 (by first | rfl | omega | ((try simp only [g_m1, Int32.lt_iff_toInt_lt, Int32.le_iff_toInt_le, ← Int32.toInt_inj, Int32.reduceToInt] at *); omega) | ((try simp only [g_m1, Int32.lt_iff_toInt_lt, Int32.le_iff_toInt_le, ← Int32.toInt_inj, Int32.toInt_add, Int32.toInt_sub, Int32.toInt_mul, Int32.toInt_neg, Int32.reduceToInt, g_bm, g_bm'] at *); omega)) (by first | rfl | omega | ((try simp only [g_m1, Int32.lt_iff_toInt_lt, Int32.le_iff_toInt_le, ← Int32.toInt_inj, Int32.reduceToInt] at *); omega) | ((try simp only [g_m1, Int32.lt_iff_toInt_lt, Int32.le_iff_toInt_le, ← Int32.toInt_inj, Int32.toInt_add, Int32.toInt_sub, Int32.toInt_mul, Int32.toInt_neg, Int32.reduceToInt, g_bm, g_bm'] at *); omega)) (q1) | exact g_rw.push q2 (by first | rfl | omega | ((try simp only [g_m1, Int32.lt_iff_toInt_lt, Int32.le_iff_toInt_le, ← Int32.toInt_inj, Int32.reduceToInt] at *); omega) | ((try simp only [g_m1, Int32.lt_iff_toInt_lt, Int32.le_iff_toInt_le, ← Int32.toInt_inj, Int32.toInt_add, Int32.toInt_sub, Int32.toInt_mul, Int32.toInt_neg, Int32.reduceToInt, g_bm, g_bm'] at *); omega)) (by first | rfl | omega | ((try simp only [g_m1, Int32.lt_iff_toInt_lt, Int32.le_iff_toInt_le, ← Int32.toInt_inj, Int32.reduceToInt] at *); omega) | ((try simp only [g_m1, Int32.lt_iff_toInt_lt, Int32.le_iff_toInt_le, ← Int32.toInt_inj, Int32.toInt_add, Int32.toInt_sub, Int32.toInt_mul, Int32.toInt_neg, Int32.reduceToInt, g_bm, g_bm'] at *); omega)) (by first | rfl | omega | ((try simp only [g_m1, Int32.lt_iff_toInt_lt, Int32.le_iff_toInt_le, ← Int32.toInt_inj, Int32.reduceToInt] at *); omega) | ((try simp only [g_m1, Int32.lt_iff_toInt_lt, Int32.le_iff_toInt_le, ← Int32.toInt_inj, Int32.toInt_add, Int32.toInt_sub, Int32.toInt_mul, Int32.toInt_neg, Int32.reduceToInt, g_bm, g_bm'] at *); omega)) (q1))
  · rcases Int.lt_or_le x2.toInt (u.1 310).toInt with q | q
    · have q2 := h_l.2 q; clear h_l hg; (first | exact g_rw.put q2 (by first | rfl | omega | ((try simp only [g_m1, Int32.lt_iff_toInt_lt, Int32.le_iff_toInt_le, ← Int32.toInt_inj, Int32.reduceToInt] at *); omega) | ((try simp only [g_m1, Int32.lt_iff_toInt_lt, Int32.le_iff_toInt_le, ← Int32.toInt_inj, Int32.toInt_add, Int32.toInt_sub, Int32.toInt_mul, Int32.toInt_neg, Int32.reduceToInt, g_bm, g_bm'] at *); omega)) (by first | rfl | omega | ((try simp only [g_m1, Int32.lt_iff_toInt_lt, Int32.le_iff_toInt_le, ← Int32.toInt_inj, Int32.reduceToInt] at *); omega) | ((try simp only [g_m1, Int32.lt_iff_toInt_lt, Int32.le_iff_toInt_le, ← Int32.toInt_inj, Int32.toInt_add, Int32.toInt_sub, Int32.toInt_mul, Int32.toInt_neg, Int32.reduceToInt, g_bm, g_bm'] at *); omega)) (q1) | exact g_rw.push q2 (by first | rfl | omega | ((try simp only [g_m1, Int32.lt_iff_toInt_lt, Int32.le_iff_toInt_le, ← Int32.toInt_inj, Int32.reduceToInt] at *); omega) | ((try simp only [g_m1, Int32.lt_iff_toInt_lt, Int32.le_iff_toInt_le, ← Int32.toInt_inj, Int32.toInt_add, Int32.toInt_sub, Int32.toInt_mul, Int32.toInt_neg, Int32.reduceToInt, g_bm, g_bm'] at *); omega)) (by first | rfl | omega | ((try simp only [g_m1, Int32.lt_iff_toInt_lt, Int32.le_iff_toInt_le, ← Int32.toInt_inj, Int32.reduceToInt] at *); omega) | ((try simp only [g_m1, Int32.lt_iff_toInt_lt, Int32.le_iff_toInt_le, ← Int32.toInt_inj, Int32.toInt_add, Int32.toInt_sub, Int32.toInt_mul, Int32.toInt_neg, Int32.reduceToInt, g_bm, g_bm'] at *); omega)) (by first | rfl | omega | ((try simp only [g_m1, Int32.lt_iff_toInt_lt, Int32.le_iff_toInt_le, ← Int32.toInt_inj, Int32.reduceToInt] at *); omega) | ((try simp only [g_m1, Int32.lt_iff_toInt_lt, Int32.le_iff_toInt_le, ← Int32.toInt_inj, Int32.toInt_add, Int32.toInt_sub, Int32.toInt_mul, Int32.toInt_neg, Int32.reduceToInt, g_bm, g_bm'] at *); omega)) (q1))
    · have q2 := h_l.1; clear h_l hg; (first | exact g_rw.put q2 (by first | rfl | omega | ((try simp only [g_m1, Int32.lt_iff_toInt_lt, Int32.le_iff_toInt_le, ← Int32.toInt_inj, Int32.reduceToInt] at *); omega) | ((try simp only [g_m1, Int32.lt_iff_toInt_lt, Int32.le_iff_toInt_le, ← Int32.toInt_inj, Int32.toInt_add, Int32.toInt_sub, Int32.toInt_mul, Int32.toInt_neg, Int32.reduceToInt, g_bm, g_bm'] at *); omega)) (by first | rfl | omega | ((try simp only [g_m1, Int32.lt_iff_toInt_lt, Int32.le_iff_toInt_le, ← Int32.toInt_inj, Int32.reduceToInt] at *); omega) | ((try simp only [g_m1, Int32.lt_iff_toInt_lt, Int32.le_iff_toInt_le, ← Int32.toInt_inj, Int32.toInt_add, Int32.toInt_sub, Int32.toInt_mul, Int32.toInt_neg, Int32.reduceToInt, g_bm, g_bm'] at *); omega)) (q1) | exact g_rw.push q2 (by first | rfl | omega | ((try simp only [g_m1, Int32.lt_iff_toInt_lt, Int32.le_iff_toInt_le, ← Int32.toInt_inj, Int32.reduceToInt] at *); omega) | ((try simp only [g_m1, Int32.lt_iff_toInt_lt, Int32.le_iff_toInt_le, ← Int32.toInt_inj, Int32.toInt_add, Int32.toInt_sub, Int32.toInt_mul, Int32.toInt_neg, Int32.reduceToInt, g_bm, g_bm'] at *); omega)) (by first | rfl | omega | ((try simp only [g_m1, Int32.lt_iff_toInt_lt, Int32.le_iff_toInt_le, ← Int32.toInt_inj, Int32.reduceToInt] at *); omega) | ((try simp only [g_m1, Int32.lt_iff_toInt_lt, Int32.le_iff_toInt_le, ← Int32.toInt_inj, Int32.toInt_add, Int32.toInt_sub, Int32.toInt_mul, Int32.toInt_neg, Int32.reduceToInt, g_bm, g_bm'] at *); omega)) (by first | rfl | omega | ((try simp only [g_m1, Int32.lt_iff_toInt_lt, Int32.le_iff_toInt_le, ← Int32.toInt_inj, Int32.reduceToInt] at *); omega) | ((try simp only [g_m1, Int32.lt_iff_toInt_lt, Int32.le_iff_toInt_le, ← Int32.toInt_inj, Int32.toInt_add, Int32.toInt_sub, Int32.toInt_mul, Int32.toInt_neg, Int32.reduceToInt, g_bm, g_bm'] at *); omega)) (q1))
set_option maxRecDepth 100000 in
theorem g_X3_rankShop_v11 (u : qS) (x : Int32) (x2 : Int32) (uc : qS) (r_5 : Int32) (r_8 : Int32) (f_11 : Nat → Int32) (hx : 0 ≤ x ∧ x < u.1 8) (hrk : 0 ≤ (u.1 310).toInt ∧ (u.1 310).toInt < 20) (hg : g_rw (u.2.1 308) (u.1 310).toInt 0 (u.1 8).toInt) (hz8 : 0 ≤ u.1 8 ∧ u.1 8 ≤ 20) (hz9 : 0 ≤ u.1 9 ∧ u.1 9 ≤ 8) (hz10 : 0 ≤ u.1 10 ∧ u.1 10 ≤ 120) (hz12 : 0 ≤ u.1 12 ∧ u.1 12 ≤ 16) (h_j : 0 ≤ x2 ∧ x2 ≤ u.1 310) (h_l : g_rw (uc.2.1 308) (u.1 310).toInt 0 (u.1 8).toInt ∧ (x2.toInt < (u.1 310).toInt → g_rw (uc.2.1 308) ((u.1 310).toInt + 1) 0 (u.1 8).toInt)) (h_m : uc.1 310 = u.1 310) (c6_1 : ¬ (x2 : Int32) ≤ 0) (c26_9 : ¬ (r_5 : Int32) ≤ r_8) (hf_11 : f_11 = upd (uc.2.1 308) (x2 : Int32).toNatClampNeg (uc.2.1 308 (x2 - 1 : Int32).toNatClampNeg)) : (uc.1 310 : Int32) = u.1 310 := by
  first | exact h_m | rfl
set_option maxRecDepth 100000 in
theorem g_X3_rankShop_v12 (u : qS) (x : Int32) (x2 : Int32) (uc : qS) (r_5 : Int32) (r_8 : Int32) (f_11 : Nat → Int32) (hx : 0 ≤ x ∧ x < u.1 8) (hrk : 0 ≤ (u.1 310).toInt ∧ (u.1 310).toInt < 20) (hg : g_rw (u.2.1 308) (u.1 310).toInt 0 (u.1 8).toInt) (hz8 : 0 ≤ u.1 8 ∧ u.1 8 ≤ 20) (hz9 : 0 ≤ u.1 9 ∧ u.1 9 ≤ 8) (hz10 : 0 ≤ u.1 10 ∧ u.1 10 ≤ 120) (hz12 : 0 ≤ u.1 12 ∧ u.1 12 ≤ 16) (h_j : 0 ≤ x2 ∧ x2 ≤ u.1 310) (h_l : g_rw (uc.2.1 308) (u.1 310).toInt 0 (u.1 8).toInt ∧ (x2.toInt < (u.1 310).toInt → g_rw (uc.2.1 308) ((u.1 310).toInt + 1) 0 (u.1 8).toInt)) (h_m : uc.1 310 = u.1 310) (c6_1 : ¬ (x2 : Int32) ≤ 0) (c26_9 : ¬ (r_5 : Int32) ≤ r_8) (hf_11 : f_11 = upd (uc.2.1 308) (x2 : Int32).toNatClampNeg (uc.2.1 308 (x2 - 1 : Int32).toNatClampNeg)) : (x2 + (-1)).toInt.toNat < x2.toInt.toNat := by
  clear h_l hg; (try simp only [g_m1, Int32.lt_iff_toInt_lt, Int32.le_iff_toInt_le, ← Int32.toInt_inj, Int32.toInt_add, Int32.toInt_sub, Int32.toInt_mul, Int32.toInt_neg, Int32.reduceToInt, g_bm, g_bm'] at *); omega
set_option maxRecDepth 100000 in
theorem g_X3_rankShop_v13 (u : qS) (x : Int32) (hx : 0 ≤ x ∧ x < u.1 8) (hrk : 0 ≤ (u.1 310).toInt ∧ (u.1 310).toInt < 20) (hg : g_rw (u.2.1 308) (u.1 310).toInt 0 (u.1 8).toInt) (hz8 : 0 ≤ u.1 8 ∧ u.1 8 ≤ 20) (hz9 : 0 ≤ u.1 9 ∧ u.1 9 ≤ 8) (hz10 : 0 ≤ u.1 10 ∧ u.1 10 ≤ 120) (hz12 : 0 ≤ u.1 12 ∧ u.1 12 ≤ 16) : 0 ≤ (u.1 310) ∧ (u.1 310) ≤ u.1 310 := by
  clear hg; (try simp only [g_m1, Int32.lt_iff_toInt_lt, Int32.le_iff_toInt_le, ← Int32.toInt_inj, Int32.reduceToInt] at *); omega
set_option maxRecDepth 100000 in
theorem g_X3_rankShop_v14 (u : qS) (x : Int32) (hx : 0 ≤ x ∧ x < u.1 8) (hrk : 0 ≤ (u.1 310).toInt ∧ (u.1 310).toInt < 20) (hg : g_rw (u.2.1 308) (u.1 310).toInt 0 (u.1 8).toInt) (hz8 : 0 ≤ u.1 8 ∧ u.1 8 ≤ 20) (hz9 : 0 ≤ u.1 9 ∧ u.1 9 ≤ 8) (hz10 : 0 ≤ u.1 10 ∧ u.1 10 ≤ 120) (hz12 : 0 ≤ u.1 12 ∧ u.1 12 ≤ 16) : g_rw ((u.2.1 308)) (u.1 310).toInt 0 (u.1 8).toInt ∧ ((u.1 310).toInt < (u.1 310).toInt → g_rw ((u.2.1 308)) ((u.1 310).toInt + 1) 0 (u.1 8).toInt) := by
  exact ⟨hg, fun q => absurd q (Int.lt_irrefl _)⟩
set_option maxRecDepth 100000 in
theorem g_X3_rankShop_v15 (u : qS) (x : Int32) (hx : 0 ≤ x ∧ x < u.1 8) (hrk : 0 ≤ (u.1 310).toInt ∧ (u.1 310).toInt < 20) (hg : g_rw (u.2.1 308) (u.1 310).toInt 0 (u.1 8).toInt) (hz8 : 0 ≤ u.1 8 ∧ u.1 8 ≤ 20) (hz9 : 0 ≤ u.1 9 ∧ u.1 9 ≤ 8) (hz10 : 0 ≤ u.1 10 ∧ u.1 10 ≤ 120) (hz12 : 0 ≤ u.1 12 ∧ u.1 12 ≤ 16) : (u.1 310 : Int32) = u.1 310 := by
  first | exact h_m | rfl
set_option maxHeartbeats 1000000 in
set_option maxRecDepth 100000 in
theorem g_X3_rankShop (l : Launch) (E : qE) (A : Nat → Prop) (u : qS) (x : Int32) (hI : IC E u) (hx : 0 ≤ x ∧ x < u.1 8) (hrk : 0 ≤ (u.1 310).toInt ∧ (u.1 310).toInt < 20) (hg : g_rw (u.2.1 308) (u.1 310).toInt 0 (u.1 8).toInt) : Met l yX3_rankShop (uws yX3_rankShop cX3_rankShop 3 none) (qR 1 0 0) (qPc E A 0 u [.ref (E.2.2 399), .int x]) (qQv E A 0 (fun u1 => (qFc [310] [308] [] [] u u1 ∧ IC E u1 ∧ u1.2.2.2.2 = u.2.2.2.2) ∧ (u1.1 310 = u.1 310 + 1 ∧ g_rw (u1.2.1 308) (u1.1 310).toInt 0 (u.1 8).toInt))) 0 0 A := by
  refine q_met (own := RX3) (f := 1) [.ref (E.2.2 399), .int x] (by decide) (Nat.le_of_ble_eq_true rfl) rfl ?_
  intro p0 e0 s0 m0 bl0 me0 cd0 ls hF hr hlocks hU hS hA hl
  have hl : lv_has ls 3 [(0, .ref (E.2.2 399)), (1, .int x)] := hl
  have hkd : u.2.2.2.2 = u.2.2.2.2 := rfl
  have hz8 : 0 ≤ u.1 8 ∧ u.1 8 ≤ 20 := hI.1.s8
  have hz9 : 0 ≤ u.1 9 ∧ u.1 9 ≤ 8 := hI.1.s9
  have hz10 : 0 ≤ u.1 10 ∧ u.1 10 ≤ 120 := hI.1.s10
  have hz12 : 0 ≤ u.1 12 ∧ u.1 12 ≤ 16 := hI.1.s12
  have hfr : qFc [310] [308] [] [] u u := qFc.rf
  have main : ∀ n : Nat, (∀ (x2 : Int32) (uc : qS) (H : Heap) (locs : List Loc) (ls : Array Slot) (hfr : qFc [310] [308] [] [] u uc) (hI : IC E uc) (hkd : uc.2.2.2.2 = u.2.2.2.2) (h_j : 0 ≤ x2 ∧ x2 ≤ u.1 310) (h_l : g_rw (uc.2.1 308) (u.1 310).toInt 0 (u.1 8).toInt ∧ (x2.toInt < (u.1 310).toInt → g_rw (uc.2.1 308) ((u.1 310).toInt + 1) 0 (u.1 8).toInt)) (h_m : uc.1 310 = u.1 310), x2.toInt.toNat < n → qH E A 0 uc s0 H → va_S A s0.heap H locs → lv_has ls 3 [(0, .ref (E.2.2 399)), (1, .int x), (2, .int x2)] → W p0 l e0 (qR 1 0 0) s0 m0 ([.ref (E.2.2 399), .int x] : List Value).toArray bl0 me0 cd0 H locs 0 0 (MQ bl0 (qQv E A 0 (fun u1 => (qFc [310] [308] [] [] u u1 ∧ IC E u1 ∧ u1.2.2.2.2 = u.2.2.2.2) ∧ (u1.1 310 = u.1 310 + 1 ∧ g_rw (u1.2.1 308) (u1.1 310).toInt 0 (u.1 8).toInt))) ([.ref (E.2.2 399), .int x] : List Value).toArray s0 0 0 A) (F0 m0 5 ls [])) := by
    clear hI hfr hkd
    intro n
    induction n with
    | zero => exact fun _ _ _ _ _ _ _ _ _ _ _ hmu => absurd hmu (Nat.not_lt_zero _)
    | succ n ih =>
      intro x2 uc H locs ls hfr hI hkd h_j h_l h_m hmu hU hS hl
      refine lv_iload_n hF.1 hF.2.1 dX3_rankShop_5 rfl (lv_at hl 2 rfl) ?_
      refine lv_if_le (tgt := 49) hF.1 hF.2.1 dX3_rankShop_6 (by decide) (fun c6_1 => ?_) (fun c6_1 => ?_)
      · refine lv_aload_n hF.1 hF.2.1 dX3_rankShop_49 rfl (lv_at hl 0 rfl) ?_
        refine q_get (v := .ref (E.2.2 308)) hF hU dX3_rankShop_50 6 3 8 308 399 rfl rfl rfl rfl inX3 (by decide) (by decide) w_385 rfl rfl ?_
        refine lv_iload_n hF.1 hF.2.1 dX3_rankShop_53 rfl (lv_at hl 2 rfl) ?_
        refine lv_iload_n hF.1 hF.2.1 dX3_rankShop_54 rfl (lv_at hl 1 rfl) ?_
        refine q_iast hF hU hS dX3_rankShop_55 23 308 rfl rfl (g_X3_rankShop_v0 u x x2 uc hx hrk hg hz8 hz9 hz10 hz12 h_j h_l h_m c6_1) (fun f_2 H locs hg9 hU hS => ?_)
        have hf_2 : f_2 = upd (uc.2.1 308) (x2 : Int32).toNatClampNeg x := hg9
        have hfr : qFc [310] [308] [] [] u (qsF uc 308 f_2) := hfr.setF (by decide)
        have hI : IC E (qsF uc 308 f_2) := hI.sF (by decide)
        refine lv_aload_n hF.1 hF.2.1 dX3_rankShop_56 rfl (lv_at hl 0 rfl) ?_
        refine lv_dup hF.1 hF.2.1 dX3_rankShop_57 rfl ?_
        refine q_get (v := .int (uc.1 310)) hF hU dX3_rankShop_58 6 3 10 310 399 rfl rfl rfl rfl inX3 (by decide) (by decide) w_387 rfl rfl ?_
        refine lv_iconst (v := 1) hF.1 hF.2.1 dX3_rankShop_61 (by decide) ?_
        refine lv_iadd hF.1 hF.2.1 dX3_rankShop_62 ?_
        refine q_put hF hU hS dX3_rankShop_63 6 3 10 310 399 rfl rfl rfl rfl inX3 tyX3 tyX3_ok nmX3 (by decide) (by decide) rfl w_387 rfl rfl rfl rfl (fun H locs hU hS => ?_)
        have hfr : qFc [310] [308] [] [] u (qsI (qsF uc 308 f_2) 310 ((uc.1 310) + 1)) := hfr.setI (by decide) (fun q => absurd q (by decide))
        have hI : IC E (qsI (qsF uc 308 f_2) 310 ((uc.1 310) + 1)) := hI.sI (by decide)
        exact q_vret hF hr hlocks hU hS dX3_rankShop_66 ⟨⟨hfr, hI, hkd⟩, (g_X3_rankShop_v1 u x x2 uc f_2 hx hrk hg hz8 hz9 hz10 hz12 h_j h_l h_m c6_1 hf_2)⟩
      · refine lv_aload_n hF.1 hF.2.1 dX3_rankShop_9 rfl (lv_at hl 0 rfl) ?_
        refine lv_aload_n hF.1 hF.2.1 dX3_rankShop_10 rfl (lv_at hl 0 rfl) ?_
        refine q_get (v := .ref (E.2.2 308)) hF hU dX3_rankShop_11 6 3 8 308 399 rfl rfl rfl rfl inX3 (by decide) (by decide) w_385 rfl rfl ?_
        refine lv_iload_n hF.1 hF.2.1 dX3_rankShop_14 rfl (lv_at hl 2 rfl) ?_
        refine lv_iconst (v := 1) hF.1 hF.2.1 dX3_rankShop_15 (by decide) ?_
        refine lv_isub hF.1 hF.2.1 dX3_rankShop_16 ?_
        refine q_iald (v := uc.2.1 308 (x2 - 1 : Int32).toNatClampNeg) hF hU dX3_rankShop_17 23 308 rfl rfl (g_X3_rankShop_v2 u x x2 uc hx hrk hg hz8 hz9 hz10 hz12 h_j h_l h_m c6_1) rfl ?_
        have hM9 := g_X3_meanOf l E A uc (uc.2.1 308 (x2 - 1 : Int32).toNatClampNeg) hI (by rw [(hfr.1 8 (by decide))]; exact (g_X3_rankShop_v3 u x x2 uc hx hrk hg hz8 hz9 hz10 hz12 h_j h_l h_m c6_1))
        have hR9 := q_runV (l := l) (e := e0) (below := bl0) (meth := me0) (R := qR 1 0 0) (cells := 0) (slots := 0) (st0 := [.int (uc.2.1 308 (x2 - 1 : Int32).toNatClampNeg), .ref (E.2.2 399)]) (rest := []) hF hU hS hA 1 6 3 399 rfl rfl rfl hM9 w_1049 w_1050 w_1051 w_105 w_1052 (by decide +kernel) ⟨Nat.le_of_ble_eq_true rfl, Nat.le_of_ble_eq_true rfl⟩ dX3_rankShop_18 rfl hl.1 rfl (Nat.le_of_ble_eq_true rfl) ⟨Nat.le_of_ble_eq_true rfl, Nat.le_of_ble_eq_true rfl⟩
        refine q_calli hR9 hU.2.2.2 hS (fun r_5 u_3 H locs hw_4 hU hS => ?_)
        obtain ⟨hw_4_e, hw_4⟩ := hw_4
        rw [hw_4_e] at hU
        refine lv_aload_n hF.1 hF.2.1 dX3_rankShop_21 rfl (lv_at hl 0 rfl) ?_
        refine lv_iload_n hF.1 hF.2.1 dX3_rankShop_22 rfl (lv_at hl 1 rfl) ?_
        have hM9 := g_X3_meanOf l E A uc x hI (by rw [(hfr.1 8 (by decide))]; exact (g_X3_rankShop_v4 u x x2 uc r_5 hx hrk hg hz8 hz9 hz10 hz12 h_j h_l h_m c6_1))
        have hR9 := q_runV (l := l) (e := e0) (below := bl0) (meth := me0) (R := qR 1 0 0) (cells := 0) (slots := 0) (st0 := [.int x, .ref (E.2.2 399), .int r_5]) (rest := [.int r_5]) hF hU hS hA 1 6 3 399 rfl rfl rfl hM9 w_1049 w_1050 w_1051 w_105 w_1052 (by decide +kernel) ⟨Nat.le_of_ble_eq_true rfl, Nat.le_of_ble_eq_true rfl⟩ dX3_rankShop_23 rfl hl.1 rfl (Nat.le_of_ble_eq_true rfl) ⟨Nat.le_of_ble_eq_true rfl, Nat.le_of_ble_eq_true rfl⟩
        refine q_calli hR9 hU.2.2.2 hS (fun r_8 u_6 H locs hw_7 hU hS => ?_)
        obtain ⟨hw_7_e, hw_7⟩ := hw_7
        rw [hw_7_e] at hU
        refine lv_icmp_le (tgt := 49) hF.1 hF.2.1 dX3_rankShop_26 (by decide) (fun c26_9 => ?_) (fun c26_9 => ?_)
        · refine lv_aload_n hF.1 hF.2.1 dX3_rankShop_49 rfl (lv_at hl 0 rfl) ?_
          refine q_get (v := .ref (E.2.2 308)) hF hU dX3_rankShop_50 6 3 8 308 399 rfl rfl rfl rfl inX3 (by decide) (by decide) w_385 rfl rfl ?_
          refine lv_iload_n hF.1 hF.2.1 dX3_rankShop_53 rfl (lv_at hl 2 rfl) ?_
          refine lv_iload_n hF.1 hF.2.1 dX3_rankShop_54 rfl (lv_at hl 1 rfl) ?_
          refine q_iast hF hU hS dX3_rankShop_55 23 308 rfl rfl (g_X3_rankShop_v5 u x x2 uc r_5 r_8 hx hrk hg hz8 hz9 hz10 hz12 h_j h_l h_m c6_1 c26_9) (fun f_10 H locs hg9 hU hS => ?_)
          have hf_10 : f_10 = upd (uc.2.1 308) (x2 : Int32).toNatClampNeg x := hg9
          have hfr : qFc [310] [308] [] [] u (qsF uc 308 f_10) := hfr.setF (by decide)
          have hI : IC E (qsF uc 308 f_10) := hI.sF (by decide)
          refine lv_aload_n hF.1 hF.2.1 dX3_rankShop_56 rfl (lv_at hl 0 rfl) ?_
          refine lv_dup hF.1 hF.2.1 dX3_rankShop_57 rfl ?_
          refine q_get (v := .int (uc.1 310)) hF hU dX3_rankShop_58 6 3 10 310 399 rfl rfl rfl rfl inX3 (by decide) (by decide) w_387 rfl rfl ?_
          refine lv_iconst (v := 1) hF.1 hF.2.1 dX3_rankShop_61 (by decide) ?_
          refine lv_iadd hF.1 hF.2.1 dX3_rankShop_62 ?_
          refine q_put hF hU hS dX3_rankShop_63 6 3 10 310 399 rfl rfl rfl rfl inX3 tyX3 tyX3_ok nmX3 (by decide) (by decide) rfl w_387 rfl rfl rfl rfl (fun H locs hU hS => ?_)
          have hfr : qFc [310] [308] [] [] u (qsI (qsF uc 308 f_10) 310 ((uc.1 310) + 1)) := hfr.setI (by decide) (fun q => absurd q (by decide))
          have hI : IC E (qsI (qsF uc 308 f_10) 310 ((uc.1 310) + 1)) := hI.sI (by decide)
          exact q_vret hF hr hlocks hU hS dX3_rankShop_66 ⟨⟨hfr, hI, hkd⟩, (g_X3_rankShop_v6 u x x2 uc r_5 r_8 f_10 hx hrk hg hz8 hz9 hz10 hz12 h_j h_l h_m c6_1 c26_9 hf_10)⟩
        · refine lv_aload_n hF.1 hF.2.1 dX3_rankShop_29 rfl (lv_at hl 0 rfl) ?_
          refine q_get (v := .ref (E.2.2 308)) hF hU dX3_rankShop_30 6 3 8 308 399 rfl rfl rfl rfl inX3 (by decide) (by decide) w_385 rfl rfl ?_
          refine lv_iload_n hF.1 hF.2.1 dX3_rankShop_33 rfl (lv_at hl 2 rfl) ?_
          refine lv_aload_n hF.1 hF.2.1 dX3_rankShop_34 rfl (lv_at hl 0 rfl) ?_
          refine q_get (v := .ref (E.2.2 308)) hF hU dX3_rankShop_35 6 3 8 308 399 rfl rfl rfl rfl inX3 (by decide) (by decide) w_385 rfl rfl ?_
          refine lv_iload_n hF.1 hF.2.1 dX3_rankShop_38 rfl (lv_at hl 2 rfl) ?_
          refine lv_iconst (v := 1) hF.1 hF.2.1 dX3_rankShop_39 (by decide) ?_
          refine lv_isub hF.1 hF.2.1 dX3_rankShop_40 ?_
          refine q_iald (v := uc.2.1 308 (x2 - 1 : Int32).toNatClampNeg) hF hU dX3_rankShop_41 23 308 rfl rfl (g_X3_rankShop_v7 u x x2 uc r_5 r_8 hx hrk hg hz8 hz9 hz10 hz12 h_j h_l h_m c6_1 c26_9) rfl ?_
          refine q_iast hF hU hS dX3_rankShop_42 23 308 rfl rfl (g_X3_rankShop_v8 u x x2 uc r_5 r_8 hx hrk hg hz8 hz9 hz10 hz12 h_j h_l h_m c6_1 c26_9) (fun f_11 H locs hg9 hU hS => ?_)
          have hf_11 : f_11 = upd (uc.2.1 308) (x2 : Int32).toNatClampNeg (uc.2.1 308 (x2 - 1 : Int32).toNatClampNeg) := hg9
          have hfr : qFc [310] [308] [] [] u (qsF uc 308 f_11) := hfr.setF (by decide)
          have hI : IC E (qsF uc 308 f_11) := hI.sF (by decide)
          refine lv_iinc (v := x2 + (-1)) (lv' := [(2, .int (x2 + (-1))), (0, .ref (E.2.2 399)), (1, .int x)]) hF.1 hF.2.1 dX3_rankShop_43 hl (k := 2) rfl rfl (by decide) rfl (fun ls hl => ?_)
          refine lv_goto (tgt := 5) hF.1 hF.2.1 dX3_rankShop_46 (by decide) ?_
          exact ih (x2 + (-1)) (qsF uc 308 f_11) _ _ _ hfr hI hkd  (g_X3_rankShop_v9 u x x2 uc r_5 r_8 f_11 hx hrk hg hz8 hz9 hz10 hz12 h_j h_l h_m c6_1 c26_9 hf_11) (g_X3_rankShop_v10 u x x2 uc r_5 r_8 f_11 hx hrk hg hz8 hz9 hz10 hz12 h_j h_l h_m c6_1 c26_9 hf_11) (g_X3_rankShop_v11 u x x2 uc r_5 r_8 f_11 hx hrk hg hz8 hz9 hz10 hz12 h_j h_l h_m c6_1 c26_9 hf_11) (Nat.lt_of_lt_of_le (g_X3_rankShop_v12 u x x2 uc r_5 r_8 f_11 hx hrk hg hz8 hz9 hz10 hz12 h_j h_l h_m c6_1 c26_9 hf_11) (Nat.lt_succ_iff.mp hmu)) hU hS (lv_sub hl [1, 2, 0] rfl)
  refine lv_aload_n hF.1 hF.2.1 dX3_rankShop_0 rfl (lv_at hl 0 rfl) ?_
  refine q_get (v := .int (u.1 310)) hF hU dX3_rankShop_1 6 3 10 310 399 rfl rfl rfl rfl inX3 (by decide) (by decide) w_387 rfl rfl ?_
  refine lv_istore_n (lv' := [(2, .int (u.1 310)), (0, .ref (E.2.2 399)), (1, .int x)]) hF.1 hF.2.1 dX3_rankShop_4 rfl hl (by decide) rfl (fun ls hl => ?_)
  exact (main _) (u.1 310) u _ _ _ hfr hI hkd  (g_X3_rankShop_v13 u x hx hrk hg hz8 hz9 hz10 hz12) (g_X3_rankShop_v14 u x hx hrk hg hz8 hz9 hz10 hz12) (g_X3_rankShop_v15 u x hx hrk hg hz8 hz9 hz10 hz12) (Nat.lt_succ_self _) hU hS (lv_sub hl [1, 2, 0] rfl)
set_option maxRecDepth 100000 in
theorem g_X3_rankChain_v0 (u : qS) (x2 : Int32) (uc : qS) (hz8 : 0 ≤ u.1 8 ∧ u.1 8 ≤ 20) (hz9 : 0 ≤ u.1 9 ∧ u.1 9 ≤ 8) (hz10 : 0 ≤ u.1 10 ∧ u.1 10 ≤ 120) (hz12 : 0 ≤ u.1 12 ∧ u.1 12 ≤ 16) (h_k : 0 ≤ x2 ∧ x2 ≤ u.1 8) (h_r : 0 ≤ (uc.1 310).toInt ∧ (uc.1 310).toInt ≤ x2.toInt) (h_g : g_rw (uc.2.1 308) (uc.1 310).toInt 0 (u.1 8).toInt) (c15_1 : (u.1 8) ≤ (x2 : Int32)) : (0 ≤ ((uc.1 310 : Int32)).toInt ∧ ((uc.1 310 : Int32)).toInt ≤ 20) ∧ g_rw ((uc.2.1 308)) ((uc.1 310 : Int32)).toInt 0 (u.1 8).toInt ∧ (uc.1 310 : Int32) = (uc.1 310 : Int32) := by
  refine ⟨?_, h_g, rfl⟩; clear h_g; (try simp only [g_m1, Int32.lt_iff_toInt_lt, Int32.le_iff_toInt_le, ← Int32.toInt_inj, Int32.reduceToInt] at *); omega
set_option maxRecDepth 100000 in
theorem g_X3_rankChain_v1 (u : qS) (x : Int32) (x2 : Int32) (uc : qS) (hz8 : 0 ≤ u.1 8 ∧ u.1 8 ≤ 20) (hz9 : 0 ≤ u.1 9 ∧ u.1 9 ≤ 8) (hz10 : 0 ≤ u.1 10 ∧ u.1 10 ≤ 120) (hz12 : 0 ≤ u.1 12 ∧ u.1 12 ≤ 16) (h_k : 0 ≤ x2 ∧ x2 ≤ u.1 8) (h_r : 0 ≤ (uc.1 310).toInt ∧ (uc.1 310).toInt ≤ x2.toInt) (h_g : g_rw (uc.2.1 308) (uc.1 310).toInt 0 (u.1 8).toInt) (c15_1 : ¬ (u.1 8) ≤ (x2 : Int32)) : 0 ≤ x2 ∧ x2 < (u.1 8) := by
  first | omega | ((try simp only [g_m1, Int32.lt_iff_toInt_lt, Int32.le_iff_toInt_le, ← Int32.toInt_inj, Int32.reduceToInt] at *); omega) | ((try simp only [g_m1, Int32.lt_iff_toInt_lt, Int32.le_iff_toInt_le, ← Int32.toInt_inj, Int32.reduceToInt] at *); omega) | ((try simp only [g_m1, Int32.lt_iff_toInt_lt, Int32.le_iff_toInt_le, ← Int32.toInt_inj, Int32.toInt_add, Int32.toInt_sub, Int32.toInt_mul, Int32.toInt_neg, Int32.reduceToInt, g_bm, g_bm'] at *); omega) | (have qr1 := g_rng x; have qr2 := g_rng x2; (try simp only [g_m1, Int32.lt_iff_toInt_lt, Int32.le_iff_toInt_le, ← Int32.toInt_inj, Int32.toInt_add, Int32.toInt_sub, Int32.toInt_mul, Int32.toInt_neg, Int32.reduceToInt, g_bm, g_bm'] at *); omega) | (simp only [g_m1, Int32.lt_iff_toInt_lt, Int32.le_iff_toInt_le, ← Int32.toInt_inj, Int32.toInt_add, Int32.toInt_sub, Int32.toInt_mul, Int32.toInt_neg, Int32.reduceToInt, g_bm, g_bm'] at *; simp at *; omega) | (simp_all; done)
set_option maxRecDepth 100000 in
theorem g_X3_rankChain_v2 (u : qS) (x2 : Int32) (uc : qS) (hz8 : 0 ≤ u.1 8 ∧ u.1 8 ≤ 20) (hz9 : 0 ≤ u.1 9 ∧ u.1 9 ≤ 8) (hz10 : 0 ≤ u.1 10 ∧ u.1 10 ≤ 120) (hz12 : 0 ≤ u.1 12 ∧ u.1 12 ≤ 16) (h_k : 0 ≤ x2 ∧ x2 ≤ u.1 8) (h_r : 0 ≤ (uc.1 310).toInt ∧ (uc.1 310).toInt ≤ x2.toInt) (h_g : g_rw (uc.2.1 308) (uc.1 310).toInt 0 (u.1 8).toInt) (c15_1 : ¬ (u.1 8) ≤ (x2 : Int32)) : vp_in (x2) 20 := by
  refine g_in ?_ ?_ <;> ((try simp only [g_m1, Int32.lt_iff_toInt_lt, Int32.le_iff_toInt_le, ← Int32.toInt_inj, Int32.toInt_add, Int32.toInt_sub, Int32.toInt_mul, Int32.toInt_neg, Int32.reduceToInt, g_bm, g_bm'] at *); omega)
set_option maxRecDepth 100000 in
theorem g_X3_rankChain_v3 (u : qS) (x : Int32) (x2 : Int32) (uc : qS) (x_6 : Int32) (hz8 : 0 ≤ u.1 8 ∧ u.1 8 ≤ 20) (hz9 : 0 ≤ u.1 9 ∧ u.1 9 ≤ 8) (hz10 : 0 ≤ u.1 10 ∧ u.1 10 ≤ 120) (hz12 : 0 ≤ u.1 12 ∧ u.1 12 ≤ 16) (h_k : 0 ≤ x2 ∧ x2 ≤ u.1 8) (h_r : 0 ≤ (uc.1 310).toInt ∧ (uc.1 310).toInt ≤ x2.toInt) (h_g : g_rw (uc.2.1 308) (uc.1 310).toInt 0 (u.1 8).toInt) (c15_1 : ¬ (u.1 8) ≤ (x2 : Int32)) (c31_9 : ¬ (x_6 : Int32) = x) : 0 ≤ (x2 + 1) ∧ (x2 + 1) ≤ u.1 8 := by
  clear h_g; (try simp only [g_m1, Int32.lt_iff_toInt_lt, Int32.le_iff_toInt_le, ← Int32.toInt_inj, Int32.toInt_add, Int32.toInt_sub, Int32.toInt_mul, Int32.toInt_neg, Int32.reduceToInt, g_bm, g_bm'] at *); omega
set_option maxRecDepth 100000 in
theorem g_X3_rankChain_v4 (u : qS) (x : Int32) (x2 : Int32) (uc : qS) (x_6 : Int32) (hz8 : 0 ≤ u.1 8 ∧ u.1 8 ≤ 20) (hz9 : 0 ≤ u.1 9 ∧ u.1 9 ≤ 8) (hz10 : 0 ≤ u.1 10 ∧ u.1 10 ≤ 120) (hz12 : 0 ≤ u.1 12 ∧ u.1 12 ≤ 16) (h_k : 0 ≤ x2 ∧ x2 ≤ u.1 8) (h_r : 0 ≤ (uc.1 310).toInt ∧ (uc.1 310).toInt ≤ x2.toInt) (h_g : g_rw (uc.2.1 308) (uc.1 310).toInt 0 (u.1 8).toInt) (c15_1 : ¬ (u.1 8) ≤ (x2 : Int32)) (c31_9 : ¬ (x_6 : Int32) = x) : 0 ≤ ((uc.1 310 : Int32)).toInt ∧ ((uc.1 310 : Int32)).toInt ≤ (x2 + 1).toInt := by
  have qz := (g_up (i := uc.1 310) (by clear h_g; (try simp only [g_m1, Int32.lt_iff_toInt_lt, Int32.le_iff_toInt_le, ← Int32.toInt_inj, Int32.reduceToInt] at *); omega) (by clear h_g; (try simp only [g_m1, Int32.lt_iff_toInt_lt, Int32.le_iff_toInt_le, ← Int32.toInt_inj, Int32.reduceToInt] at *); omega)).1
  have qy := (g_up (i := x2) (by clear h_g; (try simp only [g_m1, Int32.lt_iff_toInt_lt, Int32.le_iff_toInt_le, ← Int32.toInt_inj, Int32.reduceToInt] at *); omega) (by clear h_g; (try simp only [g_m1, Int32.lt_iff_toInt_lt, Int32.le_iff_toInt_le, ← Int32.toInt_inj, Int32.reduceToInt] at *); omega)).1
  clear h_g; (try simp only [g_m1, Int32.lt_iff_toInt_lt, Int32.le_iff_toInt_le, ← Int32.toInt_inj, Int32.reduceToInt] at *); omega
set_option maxRecDepth 100000 in
theorem g_X3_rankChain_v5 (u : qS) (x : Int32) (x2 : Int32) (uc : qS) (x_6 : Int32) (hz8 : 0 ≤ u.1 8 ∧ u.1 8 ≤ 20) (hz9 : 0 ≤ u.1 9 ∧ u.1 9 ≤ 8) (hz10 : 0 ≤ u.1 10 ∧ u.1 10 ≤ 120) (hz12 : 0 ≤ u.1 12 ∧ u.1 12 ≤ 16) (h_k : 0 ≤ x2 ∧ x2 ≤ u.1 8) (h_r : 0 ≤ (uc.1 310).toInt ∧ (uc.1 310).toInt ≤ x2.toInt) (h_g : g_rw (uc.2.1 308) (uc.1 310).toInt 0 (u.1 8).toInt) (c15_1 : ¬ (u.1 8) ≤ (x2 : Int32)) (c31_9 : ¬ (x_6 : Int32) = x) : g_rw ((uc.2.1 308)) ((uc.1 310 : Int32)).toInt 0 (u.1 8).toInt := by
  first | exact h_g | assumption
set_option maxRecDepth 100000 in
theorem g_X3_rankChain_v6 (u : qS) (x : Int32) (x2 : Int32) (uc : qS) (x_6 : Int32) (hz8 : 0 ≤ u.1 8 ∧ u.1 8 ≤ 20) (hz9 : 0 ≤ u.1 9 ∧ u.1 9 ≤ 8) (hz10 : 0 ≤ u.1 10 ∧ u.1 10 ≤ 120) (hz12 : 0 ≤ u.1 12 ∧ u.1 12 ≤ 16) (h_k : 0 ≤ x2 ∧ x2 ≤ u.1 8) (h_r : 0 ≤ (uc.1 310).toInt ∧ (uc.1 310).toInt ≤ x2.toInt) (h_g : g_rw (uc.2.1 308) (uc.1 310).toInt 0 (u.1 8).toInt) (c15_1 : ¬ (u.1 8) ≤ (x2 : Int32)) (c31_9 : ¬ (x_6 : Int32) = x) : ((u.1 8).toInt - (x2 + 1).toInt).toNat < ((u.1 8).toInt - x2.toInt).toNat := by
  clear h_g; (try simp only [g_m1, Int32.lt_iff_toInt_lt, Int32.le_iff_toInt_le, ← Int32.toInt_inj, Int32.toInt_add, Int32.toInt_sub, Int32.toInt_mul, Int32.toInt_neg, Int32.reduceToInt, g_bm, g_bm'] at *); omega
set_option maxRecDepth 100000 in
theorem g_X3_rankChain_v7 (u : qS) (x : Int32) (x2 : Int32) (uc : qS) (x_6 : Int32) (hz8 : 0 ≤ u.1 8 ∧ u.1 8 ≤ 20) (hz9 : 0 ≤ u.1 9 ∧ u.1 9 ≤ 8) (hz10 : 0 ≤ u.1 10 ∧ u.1 10 ≤ 120) (hz12 : 0 ≤ u.1 12 ∧ u.1 12 ≤ 16) (h_k : 0 ≤ x2 ∧ x2 ≤ u.1 8) (h_r : 0 ≤ (uc.1 310).toInt ∧ (uc.1 310).toInt ≤ x2.toInt) (h_g : g_rw (uc.2.1 308) (uc.1 310).toInt 0 (u.1 8).toInt) (c15_1 : ¬ (u.1 8) ≤ (x2 : Int32)) (c31_9 : (x_6 : Int32) = x) : 0 ≤ x2 ∧ x2 < (u.1 8 : Int32) := by
  first | omega | ((try simp only [g_m1, Int32.lt_iff_toInt_lt, Int32.le_iff_toInt_le, ← Int32.toInt_inj, Int32.reduceToInt] at *); omega) | ((try simp only [g_m1, Int32.lt_iff_toInt_lt, Int32.le_iff_toInt_le, ← Int32.toInt_inj, Int32.reduceToInt] at *); omega) | ((try simp only [g_m1, Int32.lt_iff_toInt_lt, Int32.le_iff_toInt_le, ← Int32.toInt_inj, Int32.toInt_add, Int32.toInt_sub, Int32.toInt_mul, Int32.toInt_neg, Int32.reduceToInt, g_bm, g_bm'] at *); omega) | (have qr1 := g_rng x; have qr2 := g_rng x2; have qr5 := g_rng x_6; (try simp only [g_m1, Int32.lt_iff_toInt_lt, Int32.le_iff_toInt_le, ← Int32.toInt_inj, Int32.toInt_add, Int32.toInt_sub, Int32.toInt_mul, Int32.toInt_neg, Int32.reduceToInt, g_bm, g_bm'] at *); omega) | (simp only [g_m1, Int32.lt_iff_toInt_lt, Int32.le_iff_toInt_le, ← Int32.toInt_inj, Int32.toInt_add, Int32.toInt_sub, Int32.toInt_mul, Int32.toInt_neg, Int32.reduceToInt, g_bm, g_bm'] at *; simp at *; omega) | (simp_all; done)
set_option maxRecDepth 100000 in
theorem g_X3_rankChain_v8 (u : qS) (x : Int32) (x2 : Int32) (uc : qS) (x_6 : Int32) (hz8 : 0 ≤ u.1 8 ∧ u.1 8 ≤ 20) (hz9 : 0 ≤ u.1 9 ∧ u.1 9 ≤ 8) (hz10 : 0 ≤ u.1 10 ∧ u.1 10 ≤ 120) (hz12 : 0 ≤ u.1 12 ∧ u.1 12 ≤ 16) (h_k : 0 ≤ x2 ∧ x2 ≤ u.1 8) (h_r : 0 ≤ (uc.1 310).toInt ∧ (uc.1 310).toInt ≤ x2.toInt) (h_g : g_rw (uc.2.1 308) (uc.1 310).toInt 0 (u.1 8).toInt) (c15_1 : ¬ (u.1 8) ≤ (x2 : Int32)) (c31_9 : (x_6 : Int32) = x) : 0 ≤ x2 ∧ x2 < (u.1 8 : Int32) := by
  clear h_g; (try simp only [g_m1, Int32.lt_iff_toInt_lt, Int32.le_iff_toInt_le, ← Int32.toInt_inj, Int32.reduceToInt] at *); omega
set_option maxRecDepth 100000 in
theorem g_X3_rankChain_v9 (u : qS) (x : Int32) (x2 : Int32) (uc : qS) (x_6 : Int32) (hz8 : 0 ≤ u.1 8 ∧ u.1 8 ≤ 20) (hz9 : 0 ≤ u.1 9 ∧ u.1 9 ≤ 8) (hz10 : 0 ≤ u.1 10 ∧ u.1 10 ≤ 120) (hz12 : 0 ≤ u.1 12 ∧ u.1 12 ≤ 16) (h_k : 0 ≤ x2 ∧ x2 ≤ u.1 8) (h_r : 0 ≤ (uc.1 310).toInt ∧ (uc.1 310).toInt ≤ x2.toInt) (h_g : g_rw (uc.2.1 308) (uc.1 310).toInt 0 (u.1 8).toInt) (c15_1 : ¬ (u.1 8) ≤ (x2 : Int32)) (c31_9 : (x_6 : Int32) = x) : 0 ≤ ((uc.1 310 : Int32)).toInt ∧ ((uc.1 310 : Int32)).toInt < 20 := by
  clear h_g; (try simp only [g_m1, Int32.lt_iff_toInt_lt, Int32.le_iff_toInt_le, ← Int32.toInt_inj, Int32.reduceToInt] at *); omega
set_option maxRecDepth 100000 in
theorem g_X3_rankChain_v10 (u : qS) (x : Int32) (x2 : Int32) (uc : qS) (x_6 : Int32) (hz8 : 0 ≤ u.1 8 ∧ u.1 8 ≤ 20) (hz9 : 0 ≤ u.1 9 ∧ u.1 9 ≤ 8) (hz10 : 0 ≤ u.1 10 ∧ u.1 10 ≤ 120) (hz12 : 0 ≤ u.1 12 ∧ u.1 12 ≤ 16) (h_k : 0 ≤ x2 ∧ x2 ≤ u.1 8) (h_r : 0 ≤ (uc.1 310).toInt ∧ (uc.1 310).toInt ≤ x2.toInt) (h_g : g_rw (uc.2.1 308) (uc.1 310).toInt 0 (u.1 8).toInt) (c15_1 : ¬ (u.1 8) ≤ (x2 : Int32)) (c31_9 : (x_6 : Int32) = x) : g_rw ((uc.2.1 308)) ((uc.1 310 : Int32)).toInt 0 ((u.1 8 : Int32)).toInt := by
  exact h_g
set_option maxRecDepth 100000 in
theorem g_X3_rankChain_v11 (u : qS) (x : Int32) (x2 : Int32) (uc : qS) (x_6 : Int32) (u_14 : qS) (hz8 : 0 ≤ u.1 8 ∧ u.1 8 ≤ 20) (hz9 : 0 ≤ u.1 9 ∧ u.1 9 ≤ 8) (hz10 : 0 ≤ u.1 10 ∧ u.1 10 ≤ 120) (hz12 : 0 ≤ u.1 12 ∧ u.1 12 ≤ 16) (h_k : 0 ≤ x2 ∧ x2 ≤ u.1 8) (h_r : 0 ≤ (uc.1 310).toInt ∧ (uc.1 310).toInt ≤ x2.toInt) (h_g : g_rw (uc.2.1 308) (uc.1 310).toInt 0 (u.1 8).toInt) (c15_1 : ¬ (u.1 8) ≤ (x2 : Int32)) (c31_9 : (x_6 : Int32) = x) (hp_17 : u_14.1 310 = (uc.1 310 : Int32) + 1) (hp_18 : g_rw (u_14.2.1 308) (u_14.1 310).toInt 0 ((u.1 8 : Int32)).toInt) : 0 ≤ (x2 + 1) ∧ (x2 + 1) ≤ u.1 8 := by
  clear h_g; (try simp only [g_m1, Int32.lt_iff_toInt_lt, Int32.le_iff_toInt_le, ← Int32.toInt_inj, Int32.toInt_add, Int32.toInt_sub, Int32.toInt_mul, Int32.toInt_neg, Int32.reduceToInt, g_bm, g_bm'] at *); omega
set_option maxRecDepth 100000 in
theorem g_X3_rankChain_v12 (u : qS) (x : Int32) (x2 : Int32) (uc : qS) (x_6 : Int32) (u_14 : qS) (hz8 : 0 ≤ u.1 8 ∧ u.1 8 ≤ 20) (hz9 : 0 ≤ u.1 9 ∧ u.1 9 ≤ 8) (hz10 : 0 ≤ u.1 10 ∧ u.1 10 ≤ 120) (hz12 : 0 ≤ u.1 12 ∧ u.1 12 ≤ 16) (h_k : 0 ≤ x2 ∧ x2 ≤ u.1 8) (h_r : 0 ≤ (uc.1 310).toInt ∧ (uc.1 310).toInt ≤ x2.toInt) (h_g : g_rw (uc.2.1 308) (uc.1 310).toInt 0 (u.1 8).toInt) (c15_1 : ¬ (u.1 8) ≤ (x2 : Int32)) (c31_9 : (x_6 : Int32) = x) (hp_17 : u_14.1 310 = (uc.1 310 : Int32) + 1) (hp_18 : g_rw (u_14.2.1 308) (u_14.1 310).toInt 0 ((u.1 8 : Int32)).toInt) : 0 ≤ ((u_14.1 310 : Int32)).toInt ∧ ((u_14.1 310 : Int32)).toInt ≤ (x2 + 1).toInt := by
  have qz := (g_up (i := uc.1 310) (by clear h_g; (try simp only [g_m1, Int32.lt_iff_toInt_lt, Int32.le_iff_toInt_le, ← Int32.toInt_inj, Int32.reduceToInt] at *); omega) (by clear h_g; (try simp only [g_m1, Int32.lt_iff_toInt_lt, Int32.le_iff_toInt_le, ← Int32.toInt_inj, Int32.reduceToInt] at *); omega)).1
  have qy := (g_up (i := x2) (by clear h_g; (try simp only [g_m1, Int32.lt_iff_toInt_lt, Int32.le_iff_toInt_le, ← Int32.toInt_inj, Int32.reduceToInt] at *); omega) (by clear h_g; (try simp only [g_m1, Int32.lt_iff_toInt_lt, Int32.le_iff_toInt_le, ← Int32.toInt_inj, Int32.reduceToInt] at *); omega)).1
  clear h_g; (try simp only [g_m1, Int32.lt_iff_toInt_lt, Int32.le_iff_toInt_le, ← Int32.toInt_inj, Int32.reduceToInt] at *); omega
set_option maxRecDepth 100000 in
theorem g_X3_rankChain_v13 (u : qS) (x : Int32) (x2 : Int32) (uc : qS) (x_6 : Int32) (u_14 : qS) (hz8 : 0 ≤ u.1 8 ∧ u.1 8 ≤ 20) (hz9 : 0 ≤ u.1 9 ∧ u.1 9 ≤ 8) (hz10 : 0 ≤ u.1 10 ∧ u.1 10 ≤ 120) (hz12 : 0 ≤ u.1 12 ∧ u.1 12 ≤ 16) (h_k : 0 ≤ x2 ∧ x2 ≤ u.1 8) (h_r : 0 ≤ (uc.1 310).toInt ∧ (uc.1 310).toInt ≤ x2.toInt) (h_g : g_rw (uc.2.1 308) (uc.1 310).toInt 0 (u.1 8).toInt) (c15_1 : ¬ (u.1 8) ≤ (x2 : Int32)) (c31_9 : (x_6 : Int32) = x) (hp_17 : u_14.1 310 = (uc.1 310 : Int32) + 1) (hp_18 : g_rw (u_14.2.1 308) (u_14.1 310).toInt 0 ((u.1 8 : Int32)).toInt) : g_rw ((u_14.2.1 308)) ((u_14.1 310 : Int32)).toInt 0 (u.1 8).toInt := by
  first | exact h_g | assumption
set_option maxRecDepth 100000 in
theorem g_X3_rankChain_v14 (u : qS) (x : Int32) (x2 : Int32) (uc : qS) (x_6 : Int32) (u_14 : qS) (hz8 : 0 ≤ u.1 8 ∧ u.1 8 ≤ 20) (hz9 : 0 ≤ u.1 9 ∧ u.1 9 ≤ 8) (hz10 : 0 ≤ u.1 10 ∧ u.1 10 ≤ 120) (hz12 : 0 ≤ u.1 12 ∧ u.1 12 ≤ 16) (h_k : 0 ≤ x2 ∧ x2 ≤ u.1 8) (h_r : 0 ≤ (uc.1 310).toInt ∧ (uc.1 310).toInt ≤ x2.toInt) (h_g : g_rw (uc.2.1 308) (uc.1 310).toInt 0 (u.1 8).toInt) (c15_1 : ¬ (u.1 8) ≤ (x2 : Int32)) (c31_9 : (x_6 : Int32) = x) (hp_17 : u_14.1 310 = (uc.1 310 : Int32) + 1) (hp_18 : g_rw (u_14.2.1 308) (u_14.1 310).toInt 0 ((u.1 8 : Int32)).toInt) : ((u.1 8).toInt - (x2 + 1).toInt).toNat < ((u.1 8).toInt - x2.toInt).toNat := by
  clear h_g; (try simp only [g_m1, Int32.lt_iff_toInt_lt, Int32.le_iff_toInt_le, ← Int32.toInt_inj, Int32.toInt_add, Int32.toInt_sub, Int32.toInt_mul, Int32.toInt_neg, Int32.reduceToInt, g_bm, g_bm'] at *); omega
set_option maxRecDepth 100000 in
theorem g_X3_rankChain_v15 (u : qS) (x : Int32) (x2 : Int32) (uc : qS) (x_6 : Int32) (hz8 : 0 ≤ u.1 8 ∧ u.1 8 ≤ 20) (hz9 : 0 ≤ u.1 9 ∧ u.1 9 ≤ 8) (hz10 : 0 ≤ u.1 10 ∧ u.1 10 ≤ 120) (hz12 : 0 ≤ u.1 12 ∧ u.1 12 ≤ 16) (h_k : 0 ≤ x2 ∧ x2 ≤ u.1 8) (h_r : 0 ≤ (uc.1 310).toInt ∧ (uc.1 310).toInt ≤ x2.toInt) (h_g : g_rw (uc.2.1 308) (uc.1 310).toInt 0 (u.1 8).toInt) (c15_1 : ¬ (u.1 8) ≤ (x2 : Int32)) (c31_9 : (x_6 : Int32) = x) : 0 ≤ (x2 + 1) ∧ (x2 + 1) ≤ u.1 8 := by
  clear h_g; (try simp only [g_m1, Int32.lt_iff_toInt_lt, Int32.le_iff_toInt_le, ← Int32.toInt_inj, Int32.toInt_add, Int32.toInt_sub, Int32.toInt_mul, Int32.toInt_neg, Int32.reduceToInt, g_bm, g_bm'] at *); omega
set_option maxRecDepth 100000 in
theorem g_X3_rankChain_v16 (u : qS) (x : Int32) (x2 : Int32) (uc : qS) (x_6 : Int32) (hz8 : 0 ≤ u.1 8 ∧ u.1 8 ≤ 20) (hz9 : 0 ≤ u.1 9 ∧ u.1 9 ≤ 8) (hz10 : 0 ≤ u.1 10 ∧ u.1 10 ≤ 120) (hz12 : 0 ≤ u.1 12 ∧ u.1 12 ≤ 16) (h_k : 0 ≤ x2 ∧ x2 ≤ u.1 8) (h_r : 0 ≤ (uc.1 310).toInt ∧ (uc.1 310).toInt ≤ x2.toInt) (h_g : g_rw (uc.2.1 308) (uc.1 310).toInt 0 (u.1 8).toInt) (c15_1 : ¬ (u.1 8) ≤ (x2 : Int32)) (c31_9 : (x_6 : Int32) = x) : 0 ≤ ((uc.1 310 : Int32)).toInt ∧ ((uc.1 310 : Int32)).toInt ≤ (x2 + 1).toInt := by
  have qz := (g_up (i := uc.1 310) (by clear h_g; (try simp only [g_m1, Int32.lt_iff_toInt_lt, Int32.le_iff_toInt_le, ← Int32.toInt_inj, Int32.reduceToInt] at *); omega) (by clear h_g; (try simp only [g_m1, Int32.lt_iff_toInt_lt, Int32.le_iff_toInt_le, ← Int32.toInt_inj, Int32.reduceToInt] at *); omega)).1
  have qy := (g_up (i := x2) (by clear h_g; (try simp only [g_m1, Int32.lt_iff_toInt_lt, Int32.le_iff_toInt_le, ← Int32.toInt_inj, Int32.reduceToInt] at *); omega) (by clear h_g; (try simp only [g_m1, Int32.lt_iff_toInt_lt, Int32.le_iff_toInt_le, ← Int32.toInt_inj, Int32.reduceToInt] at *); omega)).1
  clear h_g; (try simp only [g_m1, Int32.lt_iff_toInt_lt, Int32.le_iff_toInt_le, ← Int32.toInt_inj, Int32.reduceToInt] at *); omega
set_option maxRecDepth 100000 in
theorem g_X3_rankChain_v17 (u : qS) (x : Int32) (x2 : Int32) (uc : qS) (x_6 : Int32) (hz8 : 0 ≤ u.1 8 ∧ u.1 8 ≤ 20) (hz9 : 0 ≤ u.1 9 ∧ u.1 9 ≤ 8) (hz10 : 0 ≤ u.1 10 ∧ u.1 10 ≤ 120) (hz12 : 0 ≤ u.1 12 ∧ u.1 12 ≤ 16) (h_k : 0 ≤ x2 ∧ x2 ≤ u.1 8) (h_r : 0 ≤ (uc.1 310).toInt ∧ (uc.1 310).toInt ≤ x2.toInt) (h_g : g_rw (uc.2.1 308) (uc.1 310).toInt 0 (u.1 8).toInt) (c15_1 : ¬ (u.1 8) ≤ (x2 : Int32)) (c31_9 : (x_6 : Int32) = x) : g_rw ((uc.2.1 308)) ((uc.1 310 : Int32)).toInt 0 (u.1 8).toInt := by
  first | exact h_g | assumption
set_option maxRecDepth 100000 in
theorem g_X3_rankChain_v18 (u : qS) (x : Int32) (x2 : Int32) (uc : qS) (x_6 : Int32) (hz8 : 0 ≤ u.1 8 ∧ u.1 8 ≤ 20) (hz9 : 0 ≤ u.1 9 ∧ u.1 9 ≤ 8) (hz10 : 0 ≤ u.1 10 ∧ u.1 10 ≤ 120) (hz12 : 0 ≤ u.1 12 ∧ u.1 12 ≤ 16) (h_k : 0 ≤ x2 ∧ x2 ≤ u.1 8) (h_r : 0 ≤ (uc.1 310).toInt ∧ (uc.1 310).toInt ≤ x2.toInt) (h_g : g_rw (uc.2.1 308) (uc.1 310).toInt 0 (u.1 8).toInt) (c15_1 : ¬ (u.1 8) ≤ (x2 : Int32)) (c31_9 : (x_6 : Int32) = x) : ((u.1 8).toInt - (x2 + 1).toInt).toNat < ((u.1 8).toInt - x2.toInt).toNat := by
  clear h_g; (try simp only [g_m1, Int32.lt_iff_toInt_lt, Int32.le_iff_toInt_le, ← Int32.toInt_inj, Int32.toInt_add, Int32.toInt_sub, Int32.toInt_mul, Int32.toInt_neg, Int32.reduceToInt, g_bm, g_bm'] at *); omega
set_option maxRecDepth 100000 in
theorem g_X3_rankChain_v19 (u : qS) (x : Int32) (hz8 : 0 ≤ u.1 8 ∧ u.1 8 ≤ 20) (hz9 : 0 ≤ u.1 9 ∧ u.1 9 ≤ 8) (hz10 : 0 ≤ u.1 10 ∧ u.1 10 ≤ 120) (hz12 : 0 ≤ u.1 12 ∧ u.1 12 ≤ 16) : 0 ≤ (0 : Int32) ∧ (0 : Int32) ≤ u.1 8 := by
  first | omega | ((try simp only [g_m1, Int32.lt_iff_toInt_lt, Int32.le_iff_toInt_le, ← Int32.toInt_inj, Int32.reduceToInt] at *); omega) | ((try simp only [g_m1, Int32.lt_iff_toInt_lt, Int32.le_iff_toInt_le, ← Int32.toInt_inj, Int32.reduceToInt] at *); omega) | ((try simp only [g_m1, Int32.lt_iff_toInt_lt, Int32.le_iff_toInt_le, ← Int32.toInt_inj, Int32.toInt_add, Int32.toInt_sub, Int32.toInt_mul, Int32.toInt_neg, Int32.reduceToInt, g_bm, g_bm'] at *); omega) | (have qr1 := g_rng x; (try simp only [g_m1, Int32.lt_iff_toInt_lt, Int32.le_iff_toInt_le, ← Int32.toInt_inj, Int32.toInt_add, Int32.toInt_sub, Int32.toInt_mul, Int32.toInt_neg, Int32.reduceToInt, g_bm, g_bm'] at *); omega) | (simp only [g_m1, Int32.lt_iff_toInt_lt, Int32.le_iff_toInt_le, ← Int32.toInt_inj, Int32.toInt_add, Int32.toInt_sub, Int32.toInt_mul, Int32.toInt_neg, Int32.reduceToInt, g_bm, g_bm'] at *; simp at *; omega) | (simp_all; done)
set_option maxRecDepth 100000 in
theorem g_X3_rankChain_v20 (u : qS) (x : Int32) (hz8 : 0 ≤ u.1 8 ∧ u.1 8 ≤ 20) (hz9 : 0 ≤ u.1 9 ∧ u.1 9 ≤ 8) (hz10 : 0 ≤ u.1 10 ∧ u.1 10 ≤ 120) (hz12 : 0 ≤ u.1 12 ∧ u.1 12 ≤ 16) : 0 ≤ ((0 : Int32)).toInt ∧ ((0 : Int32)).toInt ≤ (0 : Int32).toInt := by
  first | omega | ((try simp only [g_m1, Int32.lt_iff_toInt_lt, Int32.le_iff_toInt_le, ← Int32.toInt_inj, Int32.reduceToInt] at *); omega) | ((try simp only [g_m1, Int32.lt_iff_toInt_lt, Int32.le_iff_toInt_le, ← Int32.toInt_inj, Int32.reduceToInt] at *); omega) | ((try simp only [g_m1, Int32.lt_iff_toInt_lt, Int32.le_iff_toInt_le, ← Int32.toInt_inj, Int32.toInt_add, Int32.toInt_sub, Int32.toInt_mul, Int32.toInt_neg, Int32.reduceToInt, g_bm, g_bm'] at *); omega) | (have qr1 := g_rng x; (try simp only [g_m1, Int32.lt_iff_toInt_lt, Int32.le_iff_toInt_le, ← Int32.toInt_inj, Int32.toInt_add, Int32.toInt_sub, Int32.toInt_mul, Int32.toInt_neg, Int32.reduceToInt, g_bm, g_bm'] at *); omega) | (simp only [g_m1, Int32.lt_iff_toInt_lt, Int32.le_iff_toInt_le, ← Int32.toInt_inj, Int32.toInt_add, Int32.toInt_sub, Int32.toInt_mul, Int32.toInt_neg, Int32.reduceToInt, g_bm, g_bm'] at *; simp at *; omega) | (simp_all; done)
set_option maxRecDepth 100000 in
theorem g_X3_rankChain_v21 (u : qS) (hz8 : 0 ≤ u.1 8 ∧ u.1 8 ≤ 20) (hz9 : 0 ≤ u.1 9 ∧ u.1 9 ≤ 8) (hz10 : 0 ≤ u.1 10 ∧ u.1 10 ≤ 120) (hz12 : 0 ≤ u.1 12 ∧ u.1 12 ≤ 16) : g_rw ((u.2.1 308)) ((0 : Int32)).toInt 0 (u.1 8).toInt := by
  exact g_rw.none (by decide)
set_option maxHeartbeats 1000000 in
set_option maxRecDepth 100000 in
theorem g_X3_rankChain (l : Launch) (E : qE) (A : Nat → Prop) (u : qS) (x : Int32) (hI : IC E u) : Met l yX3_rankChain (uws yX3_rankChain cX3_rankChain 3 (some .int)) (qR 2 0 0) (qPc E A 0 u [.ref (E.2.2 399), .int x]) (qQi E A 0 (fun r u1 => (qFc [310] [308] [] [] u u1 ∧ IC E u1 ∧ u1.2.2.2.2 = u.2.2.2.2) ∧ ((0 ≤ (u1.1 310).toInt ∧ (u1.1 310).toInt ≤ 20) ∧ g_rw (u1.2.1 308) (u1.1 310).toInt 0 (u.1 8).toInt ∧ r = u1.1 310))) 0 0 A := by
  refine q_met (own := RX3) (f := 2) [.ref (E.2.2 399), .int x] (by decide) (Nat.le_of_ble_eq_true rfl) rfl ?_
  intro p0 e0 s0 m0 bl0 me0 cd0 ls hF hr hlocks hU hS hA hl
  have hl : lv_has ls 3 [(0, .ref (E.2.2 399)), (1, .int x)] := hl
  have hkd : u.2.2.2.2 = u.2.2.2.2 := rfl
  have hz8 : 0 ≤ u.1 8 ∧ u.1 8 ≤ 20 := hI.1.s8
  have hz9 : 0 ≤ u.1 9 ∧ u.1 9 ≤ 8 := hI.1.s9
  have hz10 : 0 ≤ u.1 10 ∧ u.1 10 ≤ 120 := hI.1.s10
  have hz12 : 0 ≤ u.1 12 ∧ u.1 12 ≤ 16 := hI.1.s12
  have hfr : qFc [310] [308] [] [] u u := qFc.rf
  have main : ∀ n : Nat, (∀ (x2 : Int32) (uc : qS) (H : Heap) (locs : List Loc) (ls : Array Slot) (hfr : qFc [310] [308] [] [] u uc) (hI : IC E uc) (hkd : uc.2.2.2.2 = u.2.2.2.2) (h_k : 0 ≤ x2 ∧ x2 ≤ u.1 8) (h_r : 0 ≤ (uc.1 310).toInt ∧ (uc.1 310).toInt ≤ x2.toInt) (h_g : g_rw (uc.2.1 308) (uc.1 310).toInt 0 (u.1 8).toInt), ((u.1 8).toInt - x2.toInt).toNat < n → qH E A 0 uc s0 H → va_S A s0.heap H locs → lv_has ls 3 [(0, .ref (E.2.2 399)), (1, .int x), (2, .int x2)] → W p0 l e0 (qR 2 0 0) s0 m0 ([.ref (E.2.2 399), .int x] : List Value).toArray bl0 me0 cd0 H locs 0 0 (MQ bl0 (qQi E A 0 (fun r u1 => (qFc [310] [308] [] [] u u1 ∧ IC E u1 ∧ u1.2.2.2.2 = u.2.2.2.2) ∧ ((0 ≤ (u1.1 310).toInt ∧ (u1.1 310).toInt ≤ 20) ∧ g_rw (u1.2.1 308) (u1.1 310).toInt 0 (u.1 8).toInt ∧ r = u1.1 310))) ([.ref (E.2.2 399), .int x] : List Value).toArray s0 0 0 A) (F0 m0 7 ls [])) := by
    clear hI hfr hkd
    intro n
    induction n with
    | zero => exact fun _ _ _ _ _ _ _ _ _ _ _ hmu => absurd hmu (Nat.not_lt_zero _)
    | succ n ih =>
      intro x2 uc H locs ls hfr hI hkd h_k h_r h_g hmu hU hS hl
      refine lv_iload_n hF.1 hF.2.1 dX3_rankChain_7 rfl (lv_at hl 2 rfl) ?_
      refine lv_aload_n hF.1 hF.2.1 dX3_rankChain_8 rfl (lv_at hl 0 rfl) ?_
      refine q_get (v := .ref (E.2.2 99)) hF hU dX3_rankChain_9 6 3 0 300 399 rfl rfl rfl rfl inX3 (by decide) (by decide) w_377 rfl rfl ?_
      refine q_get (v := .int (u.1 8)) hF hU dX3_rankChain_12 1 0 8 8 99 rfl rfl rfl rfl inX0 (by decide) (by decide) w_164 rfl (congrArg Value.int (hfr.1 8 (by decide))) ?_
      refine lv_icmp_ge (tgt := 53) hF.1 hF.2.1 dX3_rankChain_15 (by decide) (fun c15_1 => ?_) (fun c15_1 => ?_)
      · refine lv_aload_n hF.1 hF.2.1 dX3_rankChain_53 rfl (lv_at hl 0 rfl) ?_
        refine q_get (v := .int (uc.1 310)) hF hU dX3_rankChain_54 6 3 10 310 399 rfl rfl rfl rfl inX3 (by decide) (by decide) w_387 rfl rfl ?_
        exact q_iret hF hr rfl hlocks hU hS dX3_rankChain_57 ⟨⟨hfr, hI, hkd⟩, (g_X3_rankChain_v0 u x2 uc hz8 hz9 hz10 hz12 h_k h_r h_g c15_1)⟩
      · refine lv_aload_n hF.1 hF.2.1 dX3_rankChain_18 rfl (lv_at hl 0 rfl) ?_
        refine q_get (v := .ref (E.2.2 99)) hF hU dX3_rankChain_19 6 3 0 300 399 rfl rfl rfl rfl inX3 (by decide) (by decide) w_377 rfl rfl ?_
        refine q_get (v := .ref (E.2.2 0)) hF hU dX3_rankChain_22 1 0 0 0 99 rfl rfl rfl rfl inX0 (by decide) (by decide) w_145 rfl rfl ?_
        refine lv_iload_n hF.1 hF.2.1 dX3_rankChain_25 rfl (lv_at hl 2 rfl) ?_
        obtain ⟨a_2, ha_2_3_e, ha_2_3⟩ := hI.r0 x2 (by rw [(hfr.1 8 (by decide))]; exact (g_X3_rankChain_v1 u x x2 uc hz8 hz9 hz10 hz12 h_k h_r h_g c15_1))
        refine q_aald (v := .ref a_2) hF hU dX3_rankChain_26 0 0 4 rfl rfl (by decide) rfl (g_X3_rankChain_v2 u x2 uc hz8 hz9 hz10 hz12 h_k h_r h_g c15_1) (by rw [ha_2_3_e]; rfl) ?_
        obtain ⟨k_4, fs_5, x_6, hd_7, hv_8⟩ := hI.sn ha_2_3 1 (by decide)
        refine q_getd (v := .int x_6) hF hU dX3_rankChain_27 k_4 7 1 hd_7 rfl inX7 (by decide) w_523 rfl hv_8 ?_
        refine lv_iload_n hF.1 hF.2.1 dX3_rankChain_30 rfl (lv_at hl 1 rfl) ?_
        refine lv_icmp_ne (tgt := 47) hF.1 hF.2.1 dX3_rankChain_31 (by decide) (fun c31_9 => ?_) (fun c31_9 => ?_)
        · refine lv_iinc (v := x2 + 1) (lv' := [(2, .int (x2 + 1)), (0, .ref (E.2.2 399)), (1, .int x)]) hF.1 hF.2.1 dX3_rankChain_47 hl (k := 2) rfl rfl (by decide) rfl (fun ls hl => ?_)
          refine lv_goto (tgt := 7) hF.1 hF.2.1 dX3_rankChain_50 (by decide) ?_
          exact ih (x2 + 1) uc _ _ _ hfr hI hkd  (g_X3_rankChain_v3 u x x2 uc x_6 hz8 hz9 hz10 hz12 h_k h_r h_g c15_1 c31_9) (g_X3_rankChain_v4 u x x2 uc x_6 hz8 hz9 hz10 hz12 h_k h_r h_g c15_1 c31_9) (g_X3_rankChain_v5 u x x2 uc x_6 hz8 hz9 hz10 hz12 h_k h_r h_g c15_1 c31_9) (Nat.lt_of_lt_of_le (g_X3_rankChain_v6 u x x2 uc x_6 hz8 hz9 hz10 hz12 h_k h_r h_g c15_1 c31_9) (Nat.lt_succ_iff.mp hmu)) hU hS (lv_sub hl [1, 2, 0] rfl)
        · refine lv_aload_n hF.1 hF.2.1 dX3_rankChain_34 rfl (lv_at hl 0 rfl) ?_
          refine lv_iload_n hF.1 hF.2.1 dX3_rankChain_35 rfl (lv_at hl 2 rfl) ?_
          have hM9 := g_X3_isMet l E A uc x2 hI (by rw [(hfr.1 8 (by decide))]; exact (g_X3_rankChain_v7 u x x2 uc x_6 hz8 hz9 hz10 hz12 h_k h_r h_g c15_1 c31_9))
          have hR9 := q_runV (l := l) (e := e0) (below := bl0) (meth := me0) (R := qR 2 0 0) (cells := 0) (slots := 0) (st0 := [.int x2, .ref (E.2.2 399)]) (rest := []) hF hU hS hA 1 6 3 399 rfl rfl rfl hM9 w_1062 w_1034 w_1035 w_105 w_1036 (by decide +kernel) ⟨Nat.le_of_ble_eq_true rfl, Nat.le_of_ble_eq_true rfl⟩ dX3_rankChain_36 rfl hl.1 rfl (Nat.le_of_ble_eq_true rfl) ⟨Nat.le_of_ble_eq_true rfl, Nat.le_of_ble_eq_true rfl⟩
          refine q_calli hR9 hU.2.2.2 hS (fun r_12 u_10 H locs hw_11 hU hS => ?_)
          obtain ⟨hw_11_e, hw_11⟩ := hw_11
          rw [hw_11_e] at hU
          rcases hw_11 with rfl | rfl
          · refine lv_if_eq (tgt := 47) hF.1 hF.2.1 dX3_rankChain_39 (by decide) (fun h9 => absurd h9 (by decide)) (fun _ => ?_)
            refine lv_aload_n hF.1 hF.2.1 dX3_rankChain_42 rfl (lv_at hl 0 rfl) ?_
            refine lv_iload_n hF.1 hF.2.1 dX3_rankChain_43 rfl (lv_at hl 2 rfl) ?_
            have hM9 := g_X3_rankShop l E A uc x2 hI (by rw [(hfr.1 8 (by decide))]; exact (g_X3_rankChain_v8 u x x2 uc x_6 hz8 hz9 hz10 hz12 h_k h_r h_g c15_1 c31_9)) (g_X3_rankChain_v9 u x x2 uc x_6 hz8 hz9 hz10 hz12 h_k h_r h_g c15_1 c31_9) (by rw [(hfr.1 8 (by decide))]; exact (g_X3_rankChain_v10 u x x2 uc x_6 hz8 hz9 hz10 hz12 h_k h_r h_g c15_1 c31_9))
            have hR9 := q_runV (l := l) (e := e0) (below := bl0) (meth := me0) (R := qR 2 0 0) (cells := 0) (slots := 0) (st0 := [.int x2, .ref (E.2.2 399)]) (rest := []) hF hU hS hA 1 6 3 399 rfl rfl rfl hM9 w_1063 w_1065 w_36 w_105 w_1066 (by decide +kernel) ⟨Nat.le_of_ble_eq_true rfl, Nat.le_of_ble_eq_true rfl⟩ dX3_rankChain_44 rfl hl.1 rfl (Nat.le_of_ble_eq_true rfl) ⟨Nat.le_of_ble_eq_true rfl, Nat.le_of_ble_eq_true rfl⟩
            refine q_callv hR9 hU.2.2.2 hS (fun u_14 H locs hw_15 hU hS => ?_)
            obtain ⟨⟨hw_15_f, hI, hw_15_d⟩, hw_15⟩ := hw_15
            have hfo := hfr
            have hfr : qFc [310] [308] [] [] u u_14 := hfr.trans (hw_15_f.mono (by decide) (by decide) (by decide) (by decide))
            have hkd : u_14.2.2.2.2 = u.2.2.2.2 := hw_15_d.trans hkd
            have hw_15 : u_14.1 310 = (uc.1 310 : Int32) + 1 ∧ g_rw (u_14.2.1 308) (u_14.1 310).toInt 0 ((u.1 8 : Int32)).toInt := by rw [(hfo.1 8 (by decide))] at hw_15; exact hw_15
            have hp_17 : u_14.1 310 = (uc.1 310 : Int32) + 1 := hw_15.1
            have hp_18 : g_rw (u_14.2.1 308) (u_14.1 310).toInt 0 ((u.1 8 : Int32)).toInt := hw_15.2
            refine lv_iinc (v := x2 + 1) (lv' := [(2, .int (x2 + 1)), (0, .ref (E.2.2 399)), (1, .int x)]) hF.1 hF.2.1 dX3_rankChain_47 hl (k := 2) rfl rfl (by decide) rfl (fun ls hl => ?_)
            refine lv_goto (tgt := 7) hF.1 hF.2.1 dX3_rankChain_50 (by decide) ?_
            exact ih (x2 + 1) u_14 _ _ _ hfr hI hkd  (g_X3_rankChain_v11 u x x2 uc x_6 u_14 hz8 hz9 hz10 hz12 h_k h_r h_g c15_1 c31_9 hp_17 hp_18) (g_X3_rankChain_v12 u x x2 uc x_6 u_14 hz8 hz9 hz10 hz12 h_k h_r h_g c15_1 c31_9 hp_17 hp_18) (g_X3_rankChain_v13 u x x2 uc x_6 u_14 hz8 hz9 hz10 hz12 h_k h_r h_g c15_1 c31_9 hp_17 hp_18) (Nat.lt_of_lt_of_le (g_X3_rankChain_v14 u x x2 uc x_6 u_14 hz8 hz9 hz10 hz12 h_k h_r h_g c15_1 c31_9 hp_17 hp_18) (Nat.lt_succ_iff.mp hmu)) hU hS (lv_sub hl [1, 2, 0] rfl)
          · refine lv_if_eq (tgt := 47) hF.1 hF.2.1 dX3_rankChain_39 (by decide) (fun _ => ?_) (fun h9 => absurd (by decide) h9)
            refine lv_iinc (v := x2 + 1) (lv' := [(2, .int (x2 + 1)), (0, .ref (E.2.2 399)), (1, .int x)]) hF.1 hF.2.1 dX3_rankChain_47 hl (k := 2) rfl rfl (by decide) rfl (fun ls hl => ?_)
            refine lv_goto (tgt := 7) hF.1 hF.2.1 dX3_rankChain_50 (by decide) ?_
            exact ih (x2 + 1) uc _ _ _ hfr hI hkd  (g_X3_rankChain_v15 u x x2 uc x_6 hz8 hz9 hz10 hz12 h_k h_r h_g c15_1 c31_9) (g_X3_rankChain_v16 u x x2 uc x_6 hz8 hz9 hz10 hz12 h_k h_r h_g c15_1 c31_9) (g_X3_rankChain_v17 u x x2 uc x_6 hz8 hz9 hz10 hz12 h_k h_r h_g c15_1 c31_9) (Nat.lt_of_lt_of_le (g_X3_rankChain_v18 u x x2 uc x_6 hz8 hz9 hz10 hz12 h_k h_r h_g c15_1 c31_9) (Nat.lt_succ_iff.mp hmu)) hU hS (lv_sub hl [1, 2, 0] rfl)
  refine lv_aload_n hF.1 hF.2.1 dX3_rankChain_0 rfl (lv_at hl 0 rfl) ?_
  refine lv_iconst (v := 0) hF.1 hF.2.1 dX3_rankChain_1 (by decide) ?_
  refine q_put hF hU hS dX3_rankChain_2 6 3 10 310 399 rfl rfl rfl rfl inX3 tyX3 tyX3_ok nmX3 (by decide) (by decide) rfl w_387 rfl rfl rfl rfl (fun H locs hU hS => ?_)
  have hfr : qFc [310] [308] [] [] u (qsI u 310 0) := hfr.setI (by decide) (fun q => absurd q (by decide))
  have hI : IC E (qsI u 310 0) := hI.sI (by decide)
  refine lv_iconst (v := 0) hF.1 hF.2.1 dX3_rankChain_5 (by decide) ?_
  refine lv_istore_n (lv' := [(2, .int 0), (0, .ref (E.2.2 399)), (1, .int x)]) hF.1 hF.2.1 dX3_rankChain_6 rfl hl (by decide) rfl (fun ls hl => ?_)
  exact (main _) (0 : Int32) (qsI u 310 0) _ _ _ hfr hI hkd  (g_X3_rankChain_v19 u x hz8 hz9 hz10 hz12) (g_X3_rankChain_v20 u x hz8 hz9 hz10 hz12) (g_X3_rankChain_v21 u hz8 hz9 hz10 hz12) (Nat.lt_succ_self _) hU hS (lv_sub hl [1, 2, 0] rfl)
set_option maxRecDepth 100000 in
theorem g_X3_isBeaten_v0 (u : qS) (x : Int32) (y : Int32) (x3 : Int32) (hrk : 0 ≤ (u.1 310).toInt ∧ (u.1 310).toInt ≤ 20) (hg : g_rw (u.2.1 308) (u.1 310).toInt 0 (u.1 8).toInt) (hx : 0 ≤ x ∧ x < u.1 310) (hz8 : 0 ≤ u.1 8 ∧ u.1 8 ≤ 20) (hz9 : 0 ≤ u.1 9 ∧ u.1 9 ≤ 8) (hz10 : 0 ≤ u.1 10 ∧ u.1 10 ≤ 120) (hz12 : 0 ≤ u.1 12 ∧ u.1 12 ≤ 16) (h_k : 0 ≤ x3) (c9_1 : (u.1 310) ≤ (x3 : Int32)) : (0 : Int32) = 1 ∨ (0 : Int32) = 0 := by
  first | omega | ((try simp only [g_m1, Int32.lt_iff_toInt_lt, Int32.le_iff_toInt_le, ← Int32.toInt_inj, Int32.reduceToInt] at *); omega) | ((try simp only [g_m1, Int32.lt_iff_toInt_lt, Int32.le_iff_toInt_le, ← Int32.toInt_inj, Int32.reduceToInt] at *); omega) | ((try simp only [g_m1, Int32.lt_iff_toInt_lt, Int32.le_iff_toInt_le, ← Int32.toInt_inj, Int32.toInt_add, Int32.toInt_sub, Int32.toInt_mul, Int32.toInt_neg, Int32.reduceToInt, g_bm, g_bm'] at *); omega) | (have qr1 := g_rng x; have qr2 := g_rng y; have qr3 := g_rng x3; (try simp only [g_m1, Int32.lt_iff_toInt_lt, Int32.le_iff_toInt_le, ← Int32.toInt_inj, Int32.toInt_add, Int32.toInt_sub, Int32.toInt_mul, Int32.toInt_neg, Int32.reduceToInt, g_bm, g_bm'] at *); omega) | (simp only [g_m1, Int32.lt_iff_toInt_lt, Int32.le_iff_toInt_le, ← Int32.toInt_inj, Int32.toInt_add, Int32.toInt_sub, Int32.toInt_mul, Int32.toInt_neg, Int32.reduceToInt, g_bm, g_bm'] at *; simp at *; omega) | (simp_all; done)
set_option maxRecDepth 100000 in
theorem g_X3_isBeaten_v1 (u : qS) (x : Int32) (x3 : Int32) (hrk : 0 ≤ (u.1 310).toInt ∧ (u.1 310).toInt ≤ 20) (hg : g_rw (u.2.1 308) (u.1 310).toInt 0 (u.1 8).toInt) (hx : 0 ≤ x ∧ x < u.1 310) (hz8 : 0 ≤ u.1 8 ∧ u.1 8 ≤ 20) (hz9 : 0 ≤ u.1 9 ∧ u.1 9 ≤ 8) (hz10 : 0 ≤ u.1 10 ∧ u.1 10 ≤ 120) (hz12 : 0 ≤ u.1 12 ∧ u.1 12 ≤ 16) (h_k : 0 ≤ x3) (c9_1 : ¬ (u.1 310) ≤ (x3 : Int32)) : vp_in (x) 20 := by
  clear hg; refine g_in ?_ ?_ <;> ((try simp only [g_m1, Int32.lt_iff_toInt_lt, Int32.le_iff_toInt_le, ← Int32.toInt_inj, Int32.reduceToInt] at *); omega)
set_option maxRecDepth 100000 in
theorem g_X3_isBeaten_v2 (u : qS) (x : Int32) (x3 : Int32) (hrk : 0 ≤ (u.1 310).toInt ∧ (u.1 310).toInt ≤ 20) (hg : g_rw (u.2.1 308) (u.1 310).toInt 0 (u.1 8).toInt) (hx : 0 ≤ x ∧ x < u.1 310) (hz8 : 0 ≤ u.1 8 ∧ u.1 8 ≤ 20) (hz9 : 0 ≤ u.1 9 ∧ u.1 9 ≤ 8) (hz10 : 0 ≤ u.1 10 ∧ u.1 10 ≤ 120) (hz12 : 0 ≤ u.1 12 ∧ u.1 12 ≤ 16) (h_k : 0 ≤ x3) (c9_1 : ¬ (u.1 310) ≤ (x3 : Int32)) : vp_in (x3) 20 := by
  clear hg; refine g_in ?_ ?_ <;> ((try simp only [g_m1, Int32.lt_iff_toInt_lt, Int32.le_iff_toInt_le, ← Int32.toInt_inj, Int32.reduceToInt] at *); omega)
set_option maxRecDepth 100000 in
theorem g_X3_isBeaten_v3 (u : qS) (x : Int32) (x3 : Int32) (hrk : 0 ≤ (u.1 310).toInt ∧ (u.1 310).toInt ≤ 20) (hg : g_rw (u.2.1 308) (u.1 310).toInt 0 (u.1 8).toInt) (hx : 0 ≤ x ∧ x < u.1 310) (hz8 : 0 ≤ u.1 8 ∧ u.1 8 ≤ 20) (hz9 : 0 ≤ u.1 9 ∧ u.1 9 ≤ 8) (hz10 : 0 ≤ u.1 10 ∧ u.1 10 ≤ 120) (hz12 : 0 ≤ u.1 12 ∧ u.1 12 ≤ 16) (h_k : 0 ≤ x3) (c9_1 : ¬ (u.1 310) ≤ (x3 : Int32)) : 0 ≤ ((u.2.1 308) (x : Int32).toNatClampNeg) ∧ ((u.2.1 308) (x : Int32).toNatClampNeg) < (u.1 8 : Int32) := by
  have q_x := hg.get x (by clear hg; (try simp only [g_m1, Int32.lt_iff_toInt_lt, Int32.le_iff_toInt_le, ← Int32.toInt_inj, Int32.reduceToInt] at *); omega) (by clear hg; (try simp only [g_m1, Int32.lt_iff_toInt_lt, Int32.le_iff_toInt_le, ← Int32.toInt_inj, Int32.reduceToInt] at *); omega)
  clear hg; (try simp only [g_m1, Int32.lt_iff_toInt_lt, Int32.le_iff_toInt_le, ← Int32.toInt_inj, Int32.reduceToInt] at *); omega
set_option maxRecDepth 100000 in
theorem g_X3_isBeaten_v4 (u : qS) (x : Int32) (x3 : Int32) (hrk : 0 ≤ (u.1 310).toInt ∧ (u.1 310).toInt ≤ 20) (hg : g_rw (u.2.1 308) (u.1 310).toInt 0 (u.1 8).toInt) (hx : 0 ≤ x ∧ x < u.1 310) (hz8 : 0 ≤ u.1 8 ∧ u.1 8 ≤ 20) (hz9 : 0 ≤ u.1 9 ∧ u.1 9 ≤ 8) (hz10 : 0 ≤ u.1 10 ∧ u.1 10 ≤ 120) (hz12 : 0 ≤ u.1 12 ∧ u.1 12 ≤ 16) (h_k : 0 ≤ x3) (c9_1 : ¬ (u.1 310) ≤ (x3 : Int32)) : 0 ≤ ((u.2.1 308) (x3 : Int32).toNatClampNeg) ∧ ((u.2.1 308) (x3 : Int32).toNatClampNeg) < (u.1 8 : Int32) := by
  have q_x3 := hg.get x3 (by clear hg; (try simp only [g_m1, Int32.lt_iff_toInt_lt, Int32.le_iff_toInt_le, ← Int32.toInt_inj, Int32.reduceToInt] at *); omega) (by clear hg; (try simp only [g_m1, Int32.lt_iff_toInt_lt, Int32.le_iff_toInt_le, ← Int32.toInt_inj, Int32.reduceToInt] at *); omega)
  clear hg; (try simp only [g_m1, Int32.lt_iff_toInt_lt, Int32.le_iff_toInt_le, ← Int32.toInt_inj, Int32.reduceToInt] at *); omega
set_option maxRecDepth 100000 in
theorem g_X3_isBeaten_v5 (u : qS) (x : Int32) (y : Int32) (x3 : Int32) (hrk : 0 ≤ (u.1 310).toInt ∧ (u.1 310).toInt ≤ 20) (hg : g_rw (u.2.1 308) (u.1 310).toInt 0 (u.1 8).toInt) (hx : 0 ≤ x ∧ x < u.1 310) (hz8 : 0 ≤ u.1 8 ∧ u.1 8 ≤ 20) (hz9 : 0 ≤ u.1 9 ∧ u.1 9 ≤ 8) (hz10 : 0 ≤ u.1 10 ∧ u.1 10 ≤ 120) (hz12 : 0 ≤ u.1 12 ∧ u.1 12 ≤ 16) (h_k : 0 ≤ x3) (c9_1 : ¬ (u.1 310) ≤ (x3 : Int32)) : (1 : Int32) = 1 ∨ (1 : Int32) = 0 := by
  first | omega | ((try simp only [g_m1, Int32.lt_iff_toInt_lt, Int32.le_iff_toInt_le, ← Int32.toInt_inj, Int32.reduceToInt] at *); omega) | ((try simp only [g_m1, Int32.lt_iff_toInt_lt, Int32.le_iff_toInt_le, ← Int32.toInt_inj, Int32.reduceToInt] at *); omega) | ((try simp only [g_m1, Int32.lt_iff_toInt_lt, Int32.le_iff_toInt_le, ← Int32.toInt_inj, Int32.toInt_add, Int32.toInt_sub, Int32.toInt_mul, Int32.toInt_neg, Int32.reduceToInt, g_bm, g_bm'] at *); omega) | (have qr1 := g_rng x; have qr2 := g_rng y; have qr3 := g_rng x3; (try simp only [g_m1, Int32.lt_iff_toInt_lt, Int32.le_iff_toInt_le, ← Int32.toInt_inj, Int32.toInt_add, Int32.toInt_sub, Int32.toInt_mul, Int32.toInt_neg, Int32.reduceToInt, g_bm, g_bm'] at *); omega) | (simp only [g_m1, Int32.lt_iff_toInt_lt, Int32.le_iff_toInt_le, ← Int32.toInt_inj, Int32.toInt_add, Int32.toInt_sub, Int32.toInt_mul, Int32.toInt_neg, Int32.reduceToInt, g_bm, g_bm'] at *; simp at *; omega) | (simp_all; done)
set_option maxRecDepth 100000 in
theorem g_X3_isBeaten_v6 (u : qS) (x : Int32) (x3 : Int32) (hrk : 0 ≤ (u.1 310).toInt ∧ (u.1 310).toInt ≤ 20) (hg : g_rw (u.2.1 308) (u.1 310).toInt 0 (u.1 8).toInt) (hx : 0 ≤ x ∧ x < u.1 310) (hz8 : 0 ≤ u.1 8 ∧ u.1 8 ≤ 20) (hz9 : 0 ≤ u.1 9 ∧ u.1 9 ≤ 8) (hz10 : 0 ≤ u.1 10 ∧ u.1 10 ≤ 120) (hz12 : 0 ≤ u.1 12 ∧ u.1 12 ≤ 16) (h_k : 0 ≤ x3) (c9_1 : ¬ (u.1 310) ≤ (x3 : Int32)) : 0 ≤ (x3 + 1) := by
  clear hg; (try simp only [g_m1, Int32.lt_iff_toInt_lt, Int32.le_iff_toInt_le, ← Int32.toInt_inj, Int32.toInt_add, Int32.toInt_sub, Int32.toInt_mul, Int32.toInt_neg, Int32.reduceToInt, g_bm, g_bm'] at *); omega
set_option maxRecDepth 100000 in
theorem g_X3_isBeaten_v7 (u : qS) (x : Int32) (x3 : Int32) (hrk : 0 ≤ (u.1 310).toInt ∧ (u.1 310).toInt ≤ 20) (hg : g_rw (u.2.1 308) (u.1 310).toInt 0 (u.1 8).toInt) (hx : 0 ≤ x ∧ x < u.1 310) (hz8 : 0 ≤ u.1 8 ∧ u.1 8 ≤ 20) (hz9 : 0 ≤ u.1 9 ∧ u.1 9 ≤ 8) (hz10 : 0 ≤ u.1 10 ∧ u.1 10 ≤ 120) (hz12 : 0 ≤ u.1 12 ∧ u.1 12 ≤ 16) (h_k : 0 ≤ x3) (c9_1 : ¬ (u.1 310) ≤ (x3 : Int32)) : ((u.1 310).toInt - (x3 + 1).toInt).toNat < ((u.1 310).toInt - x3.toInt).toNat := by
  clear hg; (try simp only [g_m1, Int32.lt_iff_toInt_lt, Int32.le_iff_toInt_le, ← Int32.toInt_inj, Int32.toInt_add, Int32.toInt_sub, Int32.toInt_mul, Int32.toInt_neg, Int32.reduceToInt, g_bm, g_bm'] at *); omega
set_option maxRecDepth 100000 in
theorem g_X3_isBeaten_v8 (u : qS) (x : Int32) (hrk : 0 ≤ (u.1 310).toInt ∧ (u.1 310).toInt ≤ 20) (hg : g_rw (u.2.1 308) (u.1 310).toInt 0 (u.1 8).toInt) (hx : 0 ≤ x ∧ x < u.1 310) (hz8 : 0 ≤ u.1 8 ∧ u.1 8 ≤ 20) (hz9 : 0 ≤ u.1 9 ∧ u.1 9 ≤ 8) (hz10 : 0 ≤ u.1 10 ∧ u.1 10 ≤ 120) (hz12 : 0 ≤ u.1 12 ∧ u.1 12 ≤ 16) : 0 ≤ (x + 1) := by
  clear hg; (try simp only [g_m1, Int32.lt_iff_toInt_lt, Int32.le_iff_toInt_le, ← Int32.toInt_inj, Int32.toInt_add, Int32.toInt_sub, Int32.toInt_mul, Int32.toInt_neg, Int32.reduceToInt, g_bm, g_bm'] at *); omega
set_option maxHeartbeats 1000000 in
set_option maxRecDepth 100000 in
theorem g_X3_isBeaten (l : Launch) (E : qE) (A : Nat → Prop) (u : qS) (x : Int32) (y : Int32) (hI : IC E u) (hrk : 0 ≤ (u.1 310).toInt ∧ (u.1 310).toInt ≤ 20) (hg : g_rw (u.2.1 308) (u.1 310).toInt 0 (u.1 8).toInt) (hx : 0 ≤ x ∧ x < u.1 310) : Met l yX3_isBeaten (uws yX3_isBeaten cX3_isBeaten 4 (some .boolean)) (qR 2 0 0) (qPc E A 0 u [.ref (E.2.2 399), .int x, .int y]) (qQi E A 0 (fun r u1 => u1 = u ∧ (r = 1 ∨ r = 0))) 0 0 A := by
  refine q_met (own := RX3) (f := 2) [.ref (E.2.2 399), .int x, .int y] (by decide) (Nat.le_of_ble_eq_true rfl) rfl ?_
  intro p0 e0 s0 m0 bl0 me0 cd0 ls hF hr hlocks hU hS hA hl
  have hl : lv_has ls 4 [(0, .ref (E.2.2 399)), (1, .int x), (2, .int y)] := hl
  have hz8 : 0 ≤ u.1 8 ∧ u.1 8 ≤ 20 := hI.1.s8
  have hz9 : 0 ≤ u.1 9 ∧ u.1 9 ≤ 8 := hI.1.s9
  have hz10 : 0 ≤ u.1 10 ∧ u.1 10 ≤ 120 := hI.1.s10
  have hz12 : 0 ≤ u.1 12 ∧ u.1 12 ≤ 16 := hI.1.s12
  have main : ∀ n : Nat, (∀ (x3 : Int32) (uc : qS) (H : Heap) (locs : List Loc) (ls : Array Slot) (huc : u = uc) (h_k : 0 ≤ x3), ((u.1 310).toInt - x3.toInt).toNat < n → qH E A 0 uc s0 H → va_S A s0.heap H locs → lv_has ls 4 [(0, .ref (E.2.2 399)), (1, .int x), (2, .int y), (3, .int x3)] → W p0 l e0 (qR 2 0 0) s0 m0 ([.ref (E.2.2 399), .int x, .int y] : List Value).toArray bl0 me0 cd0 H locs 0 0 (MQ bl0 (qQi E A 0 (fun r u1 => u1 = u ∧ (r = 1 ∨ r = 0))) ([.ref (E.2.2 399), .int x, .int y] : List Value).toArray s0 0 0 A) (F0 m0 4 ls [])) := by
    intro n
    induction n with
    | zero => exact fun _ _ _ _ _ _ _ hmu => absurd hmu (Nat.not_lt_zero _)
    | succ n ih =>
      intro x3 uc H locs ls huc h_k hmu hU hS hl
      subst huc
      refine lv_iload_n hF.1 hF.2.1 dX3_isBeaten_4 rfl (lv_at hl 3 rfl) ?_
      refine lv_aload_n hF.1 hF.2.1 dX3_isBeaten_5 rfl (lv_at hl 0 rfl) ?_
      refine q_get (v := .int (u.1 310)) hF hU dX3_isBeaten_6 6 3 10 310 399 rfl rfl rfl rfl inX3 (by decide) (by decide) w_387 rfl rfl ?_
      refine lv_icmp_ge (tgt := 40) hF.1 hF.2.1 dX3_isBeaten_9 (by decide) (fun c9_1 => ?_) (fun c9_1 => ?_)
      · refine lv_iconst (v := 0) hF.1 hF.2.1 dX3_isBeaten_40 (by decide) ?_
        exact q_iret hF hr (by decide) hlocks hU hS dX3_isBeaten_41 ⟨rfl, (g_X3_isBeaten_v0 u x y x3 hrk hg hx hz8 hz9 hz10 hz12 h_k c9_1)⟩
      · refine lv_aload_n hF.1 hF.2.1 dX3_isBeaten_12 rfl (lv_at hl 0 rfl) ?_
        refine lv_aload_n hF.1 hF.2.1 dX3_isBeaten_13 rfl (lv_at hl 0 rfl) ?_
        refine q_get (v := .ref (E.2.2 308)) hF hU dX3_isBeaten_14 6 3 8 308 399 rfl rfl rfl rfl inX3 (by decide) (by decide) w_385 rfl rfl ?_
        refine lv_iload_n hF.1 hF.2.1 dX3_isBeaten_17 rfl (lv_at hl 1 rfl) ?_
        refine q_iald (v := u.2.1 308 (x : Int32).toNatClampNeg) hF hU dX3_isBeaten_18 23 308 rfl rfl (g_X3_isBeaten_v1 u x x3 hrk hg hx hz8 hz9 hz10 hz12 h_k c9_1) rfl ?_
        refine lv_aload_n hF.1 hF.2.1 dX3_isBeaten_19 rfl (lv_at hl 0 rfl) ?_
        refine q_get (v := .ref (E.2.2 308)) hF hU dX3_isBeaten_20 6 3 8 308 399 rfl rfl rfl rfl inX3 (by decide) (by decide) w_385 rfl rfl ?_
        refine lv_iload_n hF.1 hF.2.1 dX3_isBeaten_23 rfl (lv_at hl 3 rfl) ?_
        refine q_iald (v := u.2.1 308 (x3 : Int32).toNatClampNeg) hF hU dX3_isBeaten_24 23 308 rfl rfl (g_X3_isBeaten_v2 u x x3 hrk hg hx hz8 hz9 hz10 hz12 h_k c9_1) rfl ?_
        refine lv_iload_n hF.1 hF.2.1 dX3_isBeaten_25 rfl (lv_at hl 2 rfl) ?_
        have hM9 := g_X3_isLess l E A u (u.2.1 308 (x : Int32).toNatClampNeg) (u.2.1 308 (x3 : Int32).toNatClampNeg) y hI (g_X3_isBeaten_v3 u x x3 hrk hg hx hz8 hz9 hz10 hz12 h_k c9_1) (g_X3_isBeaten_v4 u x x3 hrk hg hx hz8 hz9 hz10 hz12 h_k c9_1)
        have hR9 := q_runV (l := l) (e := e0) (below := bl0) (meth := me0) (R := qR 2 0 0) (cells := 0) (slots := 0) (st0 := [.int y, .int (u.2.1 308 (x3 : Int32).toNatClampNeg), .int (u.2.1 308 (x : Int32).toNatClampNeg), .ref (E.2.2 399)]) (rest := []) hF hU hS hA 3 6 3 399 rfl rfl rfl hM9 w_1071 w_1046 w_1047 w_105 w_1048 (by decide +kernel) ⟨Nat.le_of_ble_eq_true rfl, Nat.le_of_ble_eq_true rfl⟩ dX3_isBeaten_26 rfl hl.1 rfl (Nat.le_of_ble_eq_true rfl) ⟨Nat.le_of_ble_eq_true rfl, Nat.le_of_ble_eq_true rfl⟩
        refine q_calli hR9 hU.2.2.2 hS (fun r_4 u_2 H locs hw_3 hU hS => ?_)
        obtain ⟨hw_3_e, hw_3⟩ := hw_3
        rw [hw_3_e] at hU
        rcases hw_3 with rfl | rfl
        · refine lv_if_eq (tgt := 34) hF.1 hF.2.1 dX3_isBeaten_29 (by decide) (fun h9 => absurd h9 (by decide)) (fun _ => ?_)
          refine lv_iconst (v := 1) hF.1 hF.2.1 dX3_isBeaten_32 (by decide) ?_
          exact q_iret hF hr (by decide) hlocks hU hS dX3_isBeaten_33 ⟨rfl, (g_X3_isBeaten_v5 u x y x3 hrk hg hx hz8 hz9 hz10 hz12 h_k c9_1)⟩
        · refine lv_if_eq (tgt := 34) hF.1 hF.2.1 dX3_isBeaten_29 (by decide) (fun _ => ?_) (fun h9 => absurd (by decide) h9)
          refine lv_iinc (v := x3 + 1) (lv' := [(3, .int (x3 + 1)), (0, .ref (E.2.2 399)), (1, .int x), (2, .int y)]) hF.1 hF.2.1 dX3_isBeaten_34 hl (k := 3) rfl rfl (by decide) rfl (fun ls hl => ?_)
          refine lv_goto (tgt := 4) hF.1 hF.2.1 dX3_isBeaten_37 (by decide) ?_
          exact ih (x3 + 1) u _ _ _ rfl  (g_X3_isBeaten_v6 u x x3 hrk hg hx hz8 hz9 hz10 hz12 h_k c9_1) (Nat.lt_of_lt_of_le (g_X3_isBeaten_v7 u x x3 hrk hg hx hz8 hz9 hz10 hz12 h_k c9_1) (Nat.lt_succ_iff.mp hmu)) hU hS (lv_sub hl [1, 2, 3, 0] rfl)
  refine lv_iload_n hF.1 hF.2.1 dX3_isBeaten_0 rfl (lv_at hl 1 rfl) ?_
  refine lv_iconst (v := 1) hF.1 hF.2.1 dX3_isBeaten_1 (by decide) ?_
  refine lv_iadd hF.1 hF.2.1 dX3_isBeaten_2 ?_
  refine lv_istore_n (lv' := [(3, .int (x + 1)), (0, .ref (E.2.2 399)), (1, .int x), (2, .int y)]) hF.1 hF.2.1 dX3_isBeaten_3 rfl hl (by decide) rfl (fun ls hl => ?_)
  exact (main _) (x + 1) u _ _ _ rfl  (g_X3_isBeaten_v8 u x hrk hg hx hz8 hz9 hz10 hz12) (Nat.lt_succ_self _) hU hS (lv_sub hl [1, 2, 3, 0] rfl)
set_option maxRecDepth 100000 in
theorem g_X3_leadBits_v0 (u : qS) (x3 : Int32) (hrk : 0 ≤ (u.1 310).toInt ∧ (u.1 310).toInt ≤ 20) (hg : g_rw (u.2.1 308) (u.1 310).toInt 0 (u.1 8).toInt) (hz8 : 0 ≤ u.1 8 ∧ u.1 8 ≤ 20) (hz9 : 0 ≤ u.1 9 ∧ u.1 9 ≤ 8) (hz10 : 0 ≤ u.1 10 ∧ u.1 10 ≤ 120) (hz12 : 0 ≤ u.1 12 ∧ u.1 12 ≤ 16) (h_k : 0 ≤ x3) (c9_1 : ¬ (u.1 310) ≤ (x3 : Int32)) : 0 ≤ ((u.1 310 : Int32)).toInt ∧ ((u.1 310 : Int32)).toInt ≤ 20 := by
  clear hg; (try simp only [g_m1, Int32.lt_iff_toInt_lt, Int32.le_iff_toInt_le, ← Int32.toInt_inj, Int32.reduceToInt] at *); omega
set_option maxRecDepth 100000 in
theorem g_X3_leadBits_v1 (u : qS) (x3 : Int32) (hrk : 0 ≤ (u.1 310).toInt ∧ (u.1 310).toInt ≤ 20) (hg : g_rw (u.2.1 308) (u.1 310).toInt 0 (u.1 8).toInt) (hz8 : 0 ≤ u.1 8 ∧ u.1 8 ≤ 20) (hz9 : 0 ≤ u.1 9 ∧ u.1 9 ≤ 8) (hz10 : 0 ≤ u.1 10 ∧ u.1 10 ≤ 120) (hz12 : 0 ≤ u.1 12 ∧ u.1 12 ≤ 16) (h_k : 0 ≤ x3) (c9_1 : ¬ (u.1 310) ≤ (x3 : Int32)) : g_rw ((u.2.1 308)) ((u.1 310 : Int32)).toInt 0 ((u.1 8 : Int32)).toInt := by
  exact hg
set_option maxRecDepth 100000 in
theorem g_X3_leadBits_v2 (u : qS) (x3 : Int32) (hrk : 0 ≤ (u.1 310).toInt ∧ (u.1 310).toInt ≤ 20) (hg : g_rw (u.2.1 308) (u.1 310).toInt 0 (u.1 8).toInt) (hz8 : 0 ≤ u.1 8 ∧ u.1 8 ≤ 20) (hz9 : 0 ≤ u.1 9 ∧ u.1 9 ≤ 8) (hz10 : 0 ≤ u.1 10 ∧ u.1 10 ≤ 120) (hz12 : 0 ≤ u.1 12 ∧ u.1 12 ≤ 16) (h_k : 0 ≤ x3) (c9_1 : ¬ (u.1 310) ≤ (x3 : Int32)) : 0 ≤ x3 ∧ x3 < (u.1 310 : Int32) := by
  clear hg; (try simp only [g_m1, Int32.lt_iff_toInt_lt, Int32.le_iff_toInt_le, ← Int32.toInt_inj, Int32.reduceToInt] at *); omega
set_option maxRecDepth 100000 in
theorem g_X3_leadBits_v3 (u : qS) (x3 : Int32) (hrk : 0 ≤ (u.1 310).toInt ∧ (u.1 310).toInt ≤ 20) (hg : g_rw (u.2.1 308) (u.1 310).toInt 0 (u.1 8).toInt) (hz8 : 0 ≤ u.1 8 ∧ u.1 8 ≤ 20) (hz9 : 0 ≤ u.1 9 ∧ u.1 9 ≤ 8) (hz10 : 0 ≤ u.1 10 ∧ u.1 10 ≤ 120) (hz12 : 0 ≤ u.1 12 ∧ u.1 12 ≤ 16) (h_k : 0 ≤ x3) (c9_1 : ¬ (u.1 310) ≤ (x3 : Int32)) : 0 ≤ (x3 + 1) := by
  clear hg; (try simp only [g_m1, Int32.lt_iff_toInt_lt, Int32.le_iff_toInt_le, ← Int32.toInt_inj, Int32.toInt_add, Int32.toInt_sub, Int32.toInt_mul, Int32.toInt_neg, Int32.reduceToInt, g_bm, g_bm'] at *); omega
set_option maxRecDepth 100000 in
theorem g_X3_leadBits_v4 (u : qS) (x3 : Int32) (hrk : 0 ≤ (u.1 310).toInt ∧ (u.1 310).toInt ≤ 20) (hg : g_rw (u.2.1 308) (u.1 310).toInt 0 (u.1 8).toInt) (hz8 : 0 ≤ u.1 8 ∧ u.1 8 ≤ 20) (hz9 : 0 ≤ u.1 9 ∧ u.1 9 ≤ 8) (hz10 : 0 ≤ u.1 10 ∧ u.1 10 ≤ 120) (hz12 : 0 ≤ u.1 12 ∧ u.1 12 ≤ 16) (h_k : 0 ≤ x3) (c9_1 : ¬ (u.1 310) ≤ (x3 : Int32)) : ((u.1 310).toInt - (x3 + 1).toInt).toNat < ((u.1 310).toInt - x3.toInt).toNat := by
  clear hg; (try simp only [g_m1, Int32.lt_iff_toInt_lt, Int32.le_iff_toInt_le, ← Int32.toInt_inj, Int32.toInt_add, Int32.toInt_sub, Int32.toInt_mul, Int32.toInt_neg, Int32.reduceToInt, g_bm, g_bm'] at *); omega
set_option maxRecDepth 100000 in
theorem g_X3_leadBits_v5 (u : qS) (x3 : Int32) (hrk : 0 ≤ (u.1 310).toInt ∧ (u.1 310).toInt ≤ 20) (hg : g_rw (u.2.1 308) (u.1 310).toInt 0 (u.1 8).toInt) (hz8 : 0 ≤ u.1 8 ∧ u.1 8 ≤ 20) (hz9 : 0 ≤ u.1 9 ∧ u.1 9 ≤ 8) (hz10 : 0 ≤ u.1 10 ∧ u.1 10 ≤ 120) (hz12 : 0 ≤ u.1 12 ∧ u.1 12 ≤ 16) (h_k : 0 ≤ x3) (c9_1 : ¬ (u.1 310) ≤ (x3 : Int32)) : vp_in (x3) 20 := by
  clear hg; refine g_in ?_ ?_ <;> ((try simp only [g_m1, Int32.lt_iff_toInt_lt, Int32.le_iff_toInt_le, ← Int32.toInt_inj, Int32.reduceToInt] at *); omega)
set_option maxRecDepth 100000 in
theorem g_X3_leadBits_v6 (u : qS) (x3 : Int32) (hrk : 0 ≤ (u.1 310).toInt ∧ (u.1 310).toInt ≤ 20) (hg : g_rw (u.2.1 308) (u.1 310).toInt 0 (u.1 8).toInt) (hz8 : 0 ≤ u.1 8 ∧ u.1 8 ≤ 20) (hz9 : 0 ≤ u.1 9 ∧ u.1 9 ≤ 8) (hz10 : 0 ≤ u.1 10 ∧ u.1 10 ≤ 120) (hz12 : 0 ≤ u.1 12 ∧ u.1 12 ≤ 16) (h_k : 0 ≤ x3) (c9_1 : ¬ (u.1 310) ≤ (x3 : Int32)) : 0 ≤ (x3 + 1) := by
  clear hg; (try simp only [g_m1, Int32.lt_iff_toInt_lt, Int32.le_iff_toInt_le, ← Int32.toInt_inj, Int32.toInt_add, Int32.toInt_sub, Int32.toInt_mul, Int32.toInt_neg, Int32.reduceToInt, g_bm, g_bm'] at *); omega
set_option maxRecDepth 100000 in
theorem g_X3_leadBits_v7 (u : qS) (x3 : Int32) (hrk : 0 ≤ (u.1 310).toInt ∧ (u.1 310).toInt ≤ 20) (hg : g_rw (u.2.1 308) (u.1 310).toInt 0 (u.1 8).toInt) (hz8 : 0 ≤ u.1 8 ∧ u.1 8 ≤ 20) (hz9 : 0 ≤ u.1 9 ∧ u.1 9 ≤ 8) (hz10 : 0 ≤ u.1 10 ∧ u.1 10 ≤ 120) (hz12 : 0 ≤ u.1 12 ∧ u.1 12 ≤ 16) (h_k : 0 ≤ x3) (c9_1 : ¬ (u.1 310) ≤ (x3 : Int32)) : ((u.1 310).toInt - (x3 + 1).toInt).toNat < ((u.1 310).toInt - x3.toInt).toNat := by
  clear hg; (try simp only [g_m1, Int32.lt_iff_toInt_lt, Int32.le_iff_toInt_le, ← Int32.toInt_inj, Int32.toInt_add, Int32.toInt_sub, Int32.toInt_mul, Int32.toInt_neg, Int32.reduceToInt, g_bm, g_bm'] at *); omega
set_option maxRecDepth 100000 in
theorem g_X3_leadBits_v8 (u : qS) (hrk : 0 ≤ (u.1 310).toInt ∧ (u.1 310).toInt ≤ 20) (hg : g_rw (u.2.1 308) (u.1 310).toInt 0 (u.1 8).toInt) (hz8 : 0 ≤ u.1 8 ∧ u.1 8 ≤ 20) (hz9 : 0 ≤ u.1 9 ∧ u.1 9 ≤ 8) (hz10 : 0 ≤ u.1 10 ∧ u.1 10 ≤ 120) (hz12 : 0 ≤ u.1 12 ∧ u.1 12 ≤ 16) : 0 ≤ (0 : Int32) := by
  clear hg; (try simp only [g_m1, Int32.lt_iff_toInt_lt, Int32.le_iff_toInt_le, ← Int32.toInt_inj, Int32.toInt_add, Int32.toInt_sub, Int32.toInt_mul, Int32.toInt_neg, Int32.reduceToInt, g_bm, g_bm'] at *); omega
set_option maxHeartbeats 1000000 in
set_option maxRecDepth 100000 in
theorem g_X3_leadBits (l : Launch) (E : qE) (A : Nat → Prop) (u : qS) (y : Int32) (hI : IC E u) (hrk : 0 ≤ (u.1 310).toInt ∧ (u.1 310).toInt ≤ 20) (hg : g_rw (u.2.1 308) (u.1 310).toInt 0 (u.1 8).toInt) : Met l yX3_leadBits (uws yX3_leadBits cX3_leadBits 4 (some .int)) (qR 3 0 0) (qPc E A 0 u [.ref (E.2.2 399), .int y]) (qQi E A 0 (fun r u1 => u1 = u ∧ (True))) 0 0 A := by
  refine q_met (own := RX3) (f := 3) [.ref (E.2.2 399), .int y] (by decide) (Nat.le_of_ble_eq_true rfl) rfl ?_
  intro p0 e0 s0 m0 bl0 me0 cd0 ls hF hr hlocks hU hS hA hl
  have hl : lv_has ls 4 [(0, .ref (E.2.2 399)), (1, .int y)] := hl
  have hz8 : 0 ≤ u.1 8 ∧ u.1 8 ≤ 20 := hI.1.s8
  have hz9 : 0 ≤ u.1 9 ∧ u.1 9 ≤ 8 := hI.1.s9
  have hz10 : 0 ≤ u.1 10 ∧ u.1 10 ≤ 120 := hI.1.s10
  have hz12 : 0 ≤ u.1 12 ∧ u.1 12 ≤ 16 := hI.1.s12
  have main : ∀ n : Nat, (∀ (x2 : Int32) (x3 : Int32) (uc : qS) (H : Heap) (locs : List Loc) (ls : Array Slot) (huc : u = uc) (h_k : 0 ≤ x3), ((u.1 310).toInt - x3.toInt).toNat < n → qH E A 0 uc s0 H → va_S A s0.heap H locs → lv_has ls 4 [(0, .ref (E.2.2 399)), (1, .int y), (2, .int x2), (3, .int x3)] → W p0 l e0 (qR 3 0 0) s0 m0 ([.ref (E.2.2 399), .int y] : List Value).toArray bl0 me0 cd0 H locs 0 0 (MQ bl0 (qQi E A 0 (fun r u1 => u1 = u ∧ (True))) ([.ref (E.2.2 399), .int y] : List Value).toArray s0 0 0 A) (F0 m0 4 ls [])) := by
    intro n
    induction n with
    | zero => exact fun _ _ _ _ _ _ _ _ hmu => absurd hmu (Nat.not_lt_zero _)
    | succ n ih =>
      intro x2 x3 uc H locs ls huc h_k hmu hU hS hl
      subst huc
      refine lv_iload_n hF.1 hF.2.1 dX3_leadBits_4 rfl (lv_at hl 3 rfl) ?_
      refine lv_aload_n hF.1 hF.2.1 dX3_leadBits_5 rfl (lv_at hl 0 rfl) ?_
      refine q_get (v := .int (u.1 310)) hF hU dX3_leadBits_6 6 3 10 310 399 rfl rfl rfl rfl inX3 (by decide) (by decide) w_387 rfl rfl ?_
      refine lv_icmp_ge (tgt := 38) hF.1 hF.2.1 dX3_leadBits_9 (by decide) (fun c9_1 => ?_) (fun c9_1 => ?_)
      · refine lv_iload_n hF.1 hF.2.1 dX3_leadBits_38 rfl (lv_at hl 2 rfl) ?_
        exact q_iret hF hr rfl hlocks hU hS dX3_leadBits_39 ⟨rfl, trivial⟩
      · refine lv_aload_n hF.1 hF.2.1 dX3_leadBits_12 rfl (lv_at hl 0 rfl) ?_
        refine lv_iload_n hF.1 hF.2.1 dX3_leadBits_13 rfl (lv_at hl 3 rfl) ?_
        refine lv_iload_n hF.1 hF.2.1 dX3_leadBits_14 rfl (lv_at hl 1 rfl) ?_
        have hM9 := g_X3_isBeaten l E A u x3 y hI (g_X3_leadBits_v0 u x3 hrk hg hz8 hz9 hz10 hz12 h_k c9_1) (g_X3_leadBits_v1 u x3 hrk hg hz8 hz9 hz10 hz12 h_k c9_1) (g_X3_leadBits_v2 u x3 hrk hg hz8 hz9 hz10 hz12 h_k c9_1)
        have hR9 := q_runV (l := l) (e := e0) (below := bl0) (meth := me0) (R := qR 3 0 0) (cells := 0) (slots := 0) (st0 := [.int y, .int x3, .ref (E.2.2 399)]) (rest := []) hF hU hS hA 2 6 3 399 rfl rfl rfl hM9 w_1077 w_1079 w_37 w_105 w_1080 (by decide +kernel) ⟨Nat.le_of_ble_eq_true rfl, Nat.le_of_ble_eq_true rfl⟩ dX3_leadBits_15 rfl hl.1 rfl (Nat.le_of_ble_eq_true rfl) ⟨Nat.le_of_ble_eq_true rfl, Nat.le_of_ble_eq_true rfl⟩
        refine q_calli hR9 hU.2.2.2 hS (fun r_4 u_2 H locs hw_3 hU hS => ?_)
        obtain ⟨hw_3_e, hw_3⟩ := hw_3
        rw [hw_3_e] at hU
        rcases hw_3 with rfl | rfl
        · refine lv_if_ne (tgt := 32) hF.1 hF.2.1 dX3_leadBits_18 (by decide) (fun _ => ?_) (fun h9 => absurd h9 (by decide))
          refine lv_iinc (v := x3 + 1) (lv' := [(3, .int (x3 + 1)), (0, .ref (E.2.2 399)), (1, .int y), (2, .int x2)]) hF.1 hF.2.1 dX3_leadBits_32 hl (k := 3) rfl rfl (by decide) rfl (fun ls hl => ?_)
          refine lv_goto (tgt := 4) hF.1 hF.2.1 dX3_leadBits_35 (by decide) ?_
          exact ih x2 (x3 + 1) u _ _ _ rfl  (g_X3_leadBits_v3 u x3 hrk hg hz8 hz9 hz10 hz12 h_k c9_1) (Nat.lt_of_lt_of_le (g_X3_leadBits_v4 u x3 hrk hg hz8 hz9 hz10 hz12 h_k c9_1) (Nat.lt_succ_iff.mp hmu)) hU hS (lv_sub hl [1, 2, 3, 0] rfl)
        · refine lv_if_ne (tgt := 32) hF.1 hF.2.1 dX3_leadBits_18 (by decide) (fun h9 => absurd (by decide) h9) (fun _ => ?_)
          refine lv_iload_n hF.1 hF.2.1 dX3_leadBits_21 rfl (lv_at hl 2 rfl) ?_
          refine lv_iconst (v := 1) hF.1 hF.2.1 dX3_leadBits_22 (by decide) ?_
          refine lv_aload_n hF.1 hF.2.1 dX3_leadBits_23 rfl (lv_at hl 0 rfl) ?_
          refine q_get (v := .ref (E.2.2 308)) hF hU dX3_leadBits_24 6 3 8 308 399 rfl rfl rfl rfl inX3 (by decide) (by decide) w_385 rfl rfl ?_
          refine lv_iload_n hF.1 hF.2.1 dX3_leadBits_27 rfl (lv_at hl 3 rfl) ?_
          refine q_iald (v := u.2.1 308 (x3 : Int32).toNatClampNeg) hF hU dX3_leadBits_28 23 308 rfl rfl (g_X3_leadBits_v5 u x3 hrk hg hz8 hz9 hz10 hz12 h_k c9_1) rfl ?_
          refine lv_ishl hF.1 hF.2.1 dX3_leadBits_29 ?_
          refine lv_ior hF.1 hF.2.1 dX3_leadBits_30 ?_
          refine lv_istore_n (lv' := [(2, .int (x2 ||| (1 <<< (u.2.1 308 (x3 : Int32).toNatClampNeg &&& 31)))), (0, .ref (E.2.2 399)), (1, .int y), (3, .int x3)]) hF.1 hF.2.1 dX3_leadBits_31 rfl hl (by decide) rfl (fun ls hl => ?_)
          refine lv_iinc (v := x3 + 1) (lv' := [(3, .int (x3 + 1)), (2, .int (x2 ||| (1 <<< (u.2.1 308 (x3 : Int32).toNatClampNeg &&& 31)))), (0, .ref (E.2.2 399)), (1, .int y)]) hF.1 hF.2.1 dX3_leadBits_32 hl (k := 3) rfl rfl (by decide) rfl (fun ls hl => ?_)
          refine lv_goto (tgt := 4) hF.1 hF.2.1 dX3_leadBits_35 (by decide) ?_
          exact ih (x2 ||| (1 <<< (u.2.1 308 (x3 : Int32).toNatClampNeg &&& 31))) (x3 + 1) u _ _ _ rfl  (g_X3_leadBits_v6 u x3 hrk hg hz8 hz9 hz10 hz12 h_k c9_1) (Nat.lt_of_lt_of_le (g_X3_leadBits_v7 u x3 hrk hg hz8 hz9 hz10 hz12 h_k c9_1) (Nat.lt_succ_iff.mp hmu)) hU hS (lv_sub hl [2, 3, 1, 0] rfl)
  refine lv_iconst (v := 0) hF.1 hF.2.1 dX3_leadBits_0 (by decide) ?_
  refine lv_istore_n (lv' := [(2, .int 0), (0, .ref (E.2.2 399)), (1, .int y)]) hF.1 hF.2.1 dX3_leadBits_1 rfl hl (by decide) rfl (fun ls hl => ?_)
  refine lv_iconst (v := 0) hF.1 hF.2.1 dX3_leadBits_2 (by decide) ?_
  refine lv_istore_n (lv' := [(3, .int 0), (2, .int 0), (0, .ref (E.2.2 399)), (1, .int y)]) hF.1 hF.2.1 dX3_leadBits_3 rfl hl (by decide) rfl (fun ls hl => ?_)
  exact (main _) (0 : Int32) (0 : Int32) u _ _ _ rfl  (g_X3_leadBits_v8 u hrk hg hz8 hz9 hz10 hz12) (Nat.lt_succ_self _) hU hS (lv_sub hl [2, 3, 1, 0] rfl)
set_option maxRecDepth 100000 in
theorem g_X3_longestRow_v0 (u : qS) (x3 : Int32) (hrk : 0 ≤ (u.1 310).toInt ∧ (u.1 310).toInt ≤ 20) (hg : g_rw (u.2.1 308) (u.1 310).toInt 0 (u.1 8).toInt) (hz8 : 0 ≤ u.1 8 ∧ u.1 8 ≤ 20) (hz9 : 0 ≤ u.1 9 ∧ u.1 9 ≤ 8) (hz10 : 0 ≤ u.1 10 ∧ u.1 10 ≤ 120) (hz12 : 0 ≤ u.1 12 ∧ u.1 12 ≤ 16) (h_k : 0 ≤ x3) (c9_1 : ¬ (u.1 310) ≤ (x3 : Int32)) : vp_in (x3) 20 := by
  clear hg; refine g_in ?_ ?_ <;> ((try simp only [g_m1, Int32.lt_iff_toInt_lt, Int32.le_iff_toInt_le, ← Int32.toInt_inj, Int32.reduceToInt] at *); omega)
set_option maxRecDepth 100000 in
theorem g_X3_longestRow_v1 (u : qS) (x3 : Int32) (uc : qS) (f_2 : Nat → Int32) (hrk : 0 ≤ (u.1 310).toInt ∧ (u.1 310).toInt ≤ 20) (hg : g_rw (u.2.1 308) (u.1 310).toInt 0 (u.1 8).toInt) (hz8 : 0 ≤ u.1 8 ∧ u.1 8 ≤ 20) (hz9 : 0 ≤ u.1 9 ∧ u.1 9 ≤ 8) (hz10 : 0 ≤ u.1 10 ∧ u.1 10 ≤ 120) (hz12 : 0 ≤ u.1 12 ∧ u.1 12 ≤ 16) (h_k : 0 ≤ x3) (c9_1 : ¬ (u.1 310) ≤ (x3 : Int32)) (hf_2 : f_2 = upd (uc.2.1 309) (x3 : Int32).toNatClampNeg 1) : 0 ≤ x3 ∧ x3 < u.1 310 := by
  clear hg; (try simp only [g_m1, Int32.lt_iff_toInt_lt, Int32.le_iff_toInt_le, ← Int32.toInt_inj, Int32.toInt_add, Int32.toInt_sub, Int32.toInt_mul, Int32.toInt_neg, Int32.reduceToInt, g_bm, g_bm'] at *); omega
set_option maxRecDepth 100000 in
theorem g_X3_longestRow_v2 (u : qS) (x3 : Int32) (uc : qS) (f_2 : Nat → Int32) (hrk : 0 ≤ (u.1 310).toInt ∧ (u.1 310).toInt ≤ 20) (hg : g_rw (u.2.1 308) (u.1 310).toInt 0 (u.1 8).toInt) (hz8 : 0 ≤ u.1 8 ∧ u.1 8 ≤ 20) (hz9 : 0 ≤ u.1 9 ∧ u.1 9 ≤ 8) (hz10 : 0 ≤ u.1 10 ∧ u.1 10 ≤ 120) (hz12 : 0 ≤ u.1 12 ∧ u.1 12 ≤ 16) (h_k : 0 ≤ x3) (c9_1 : ¬ (u.1 310) ≤ (x3 : Int32)) (hf_2 : f_2 = upd (uc.2.1 309) (x3 : Int32).toNatClampNeg 1) : 0 ≤ (0 : Int32) := by
  clear hg; (try simp only [g_m1, Int32.lt_iff_toInt_lt, Int32.le_iff_toInt_le, ← Int32.toInt_inj, Int32.toInt_add, Int32.toInt_sub, Int32.toInt_mul, Int32.toInt_neg, Int32.reduceToInt, g_bm, g_bm'] at *); omega
set_option maxRecDepth 100000 in
theorem g_X3_longestRow_v3 (u : qS) (x3 : Int32) (uc : qS) (f_2 : Nat → Int32) (hrk : 0 ≤ (u.1 310).toInt ∧ (u.1 310).toInt ≤ 20) (hg : g_rw (u.2.1 308) (u.1 310).toInt 0 (u.1 8).toInt) (hz8 : 0 ≤ u.1 8 ∧ u.1 8 ≤ 20) (hz9 : 0 ≤ u.1 9 ∧ u.1 9 ≤ 8) (hz10 : 0 ≤ u.1 10 ∧ u.1 10 ≤ 120) (hz12 : 0 ≤ u.1 12 ∧ u.1 12 ≤ 16) (h_k : 0 ≤ x3) (c9_1 : ¬ (u.1 310) ≤ (x3 : Int32)) (hf_2 : f_2 = upd (uc.2.1 309) (x3 : Int32).toNatClampNeg 1) : ((u.1 310).toInt - x3.toInt).toNat * 32 + (x3.toInt - (0 : Int32).toInt).toNat < ((u.1 310).toInt - x3.toInt).toNat * 32 + 31 := by
  clear hg; (try simp only [g_m1, Int32.lt_iff_toInt_lt, Int32.le_iff_toInt_le, ← Int32.toInt_inj, Int32.toInt_add, Int32.toInt_sub, Int32.toInt_mul, Int32.toInt_neg, Int32.reduceToInt, g_bm, g_bm'] at *); omega
set_option maxRecDepth 100000 in
theorem g_X3_longestRow_v4 (u : qS) (x3 : Int32) (x4 : Int32) (hrk : 0 ≤ (u.1 310).toInt ∧ (u.1 310).toInt ≤ 20) (hg : g_rw (u.2.1 308) (u.1 310).toInt 0 (u.1 8).toInt) (hz8 : 0 ≤ u.1 8 ∧ u.1 8 ≤ 20) (hz9 : 0 ≤ u.1 9 ∧ u.1 9 ≤ 8) (hz10 : 0 ≤ u.1 10 ∧ u.1 10 ≤ 120) (hz12 : 0 ≤ u.1 12 ∧ u.1 12 ≤ 16) (h_k : 0 ≤ x3 ∧ x3 < u.1 310) (h_j : 0 ≤ x4) (c25_3 : x3 ≤ (x4 : Int32)) : vp_in (x3) 20 := by
  clear hg; refine g_in ?_ ?_ <;> ((try simp only [g_m1, Int32.lt_iff_toInt_lt, Int32.le_iff_toInt_le, ← Int32.toInt_inj, Int32.reduceToInt] at *); omega)
set_option maxRecDepth 100000 in
theorem g_X3_longestRow_v5 (u : qS) (x3 : Int32) (x4 : Int32) (hrk : 0 ≤ (u.1 310).toInt ∧ (u.1 310).toInt ≤ 20) (hg : g_rw (u.2.1 308) (u.1 310).toInt 0 (u.1 8).toInt) (hz8 : 0 ≤ u.1 8 ∧ u.1 8 ≤ 20) (hz9 : 0 ≤ u.1 9 ∧ u.1 9 ≤ 8) (hz10 : 0 ≤ u.1 10 ∧ u.1 10 ≤ 120) (hz12 : 0 ≤ u.1 12 ∧ u.1 12 ≤ 16) (h_k : 0 ≤ x3 ∧ x3 < u.1 310) (h_j : 0 ≤ x4) (c25_3 : x3 ≤ (x4 : Int32)) : 0 ≤ (x3 + 1) := by
  clear hg; (try simp only [g_m1, Int32.lt_iff_toInt_lt, Int32.le_iff_toInt_le, ← Int32.toInt_inj, Int32.toInt_add, Int32.toInt_sub, Int32.toInt_mul, Int32.toInt_neg, Int32.reduceToInt, g_bm, g_bm'] at *); omega
set_option maxRecDepth 100000 in
theorem g_X3_longestRow_v6 (u : qS) (x3 : Int32) (x4 : Int32) (hrk : 0 ≤ (u.1 310).toInt ∧ (u.1 310).toInt ≤ 20) (hg : g_rw (u.2.1 308) (u.1 310).toInt 0 (u.1 8).toInt) (hz8 : 0 ≤ u.1 8 ∧ u.1 8 ≤ 20) (hz9 : 0 ≤ u.1 9 ∧ u.1 9 ≤ 8) (hz10 : 0 ≤ u.1 10 ∧ u.1 10 ≤ 120) (hz12 : 0 ≤ u.1 12 ∧ u.1 12 ≤ 16) (h_k : 0 ≤ x3 ∧ x3 < u.1 310) (h_j : 0 ≤ x4) (c25_3 : x3 ≤ (x4 : Int32)) : ((u.1 310).toInt - (x3 + 1).toInt).toNat * 32 + 31 < ((u.1 310).toInt - x3.toInt).toNat * 32 + (x3.toInt - x4.toInt).toNat := by
  clear hg; (try simp only [g_m1, Int32.lt_iff_toInt_lt, Int32.le_iff_toInt_le, ← Int32.toInt_inj, Int32.toInt_add, Int32.toInt_sub, Int32.toInt_mul, Int32.toInt_neg, Int32.reduceToInt, g_bm, g_bm'] at *); omega
set_option maxRecDepth 100000 in
theorem g_X3_longestRow_v7 (u : qS) (x3 : Int32) (x4 : Int32) (hrk : 0 ≤ (u.1 310).toInt ∧ (u.1 310).toInt ≤ 20) (hg : g_rw (u.2.1 308) (u.1 310).toInt 0 (u.1 8).toInt) (hz8 : 0 ≤ u.1 8 ∧ u.1 8 ≤ 20) (hz9 : 0 ≤ u.1 9 ∧ u.1 9 ≤ 8) (hz10 : 0 ≤ u.1 10 ∧ u.1 10 ≤ 120) (hz12 : 0 ≤ u.1 12 ∧ u.1 12 ≤ 16) (h_k : 0 ≤ x3 ∧ x3 < u.1 310) (h_j : 0 ≤ x4) (c25_3 : ¬ x3 ≤ (x4 : Int32)) : vp_in (x4) 20 := by
  clear hg; refine g_in ?_ ?_ <;> ((try simp only [g_m1, Int32.lt_iff_toInt_lt, Int32.le_iff_toInt_le, ← Int32.toInt_inj, Int32.reduceToInt] at *); omega)
set_option maxRecDepth 100000 in
theorem g_X3_longestRow_v8 (u : qS) (x3 : Int32) (x4 : Int32) (hrk : 0 ≤ (u.1 310).toInt ∧ (u.1 310).toInt ≤ 20) (hg : g_rw (u.2.1 308) (u.1 310).toInt 0 (u.1 8).toInt) (hz8 : 0 ≤ u.1 8 ∧ u.1 8 ≤ 20) (hz9 : 0 ≤ u.1 9 ∧ u.1 9 ≤ 8) (hz10 : 0 ≤ u.1 10 ∧ u.1 10 ≤ 120) (hz12 : 0 ≤ u.1 12 ∧ u.1 12 ≤ 16) (h_k : 0 ≤ x3 ∧ x3 < u.1 310) (h_j : 0 ≤ x4) (c25_3 : ¬ x3 ≤ (x4 : Int32)) : vp_in (x3) 20 := by
  clear hg; refine g_in ?_ ?_ <;> ((try simp only [g_m1, Int32.lt_iff_toInt_lt, Int32.le_iff_toInt_le, ← Int32.toInt_inj, Int32.reduceToInt] at *); omega)
set_option maxRecDepth 100000 in
theorem g_X3_longestRow_v9 (u : qS) (x3 : Int32) (x4 : Int32) (uc : qS) (hrk : 0 ≤ (u.1 310).toInt ∧ (u.1 310).toInt ≤ 20) (hg : g_rw (u.2.1 308) (u.1 310).toInt 0 (u.1 8).toInt) (hz8 : 0 ≤ u.1 8 ∧ u.1 8 ≤ 20) (hz9 : 0 ≤ u.1 9 ∧ u.1 9 ≤ 8) (hz10 : 0 ≤ u.1 10 ∧ u.1 10 ≤ 120) (hz12 : 0 ≤ u.1 12 ∧ u.1 12 ≤ 16) (h_k : 0 ≤ x3 ∧ x3 < u.1 310) (h_j : 0 ≤ x4) (c25_3 : ¬ x3 ≤ (x4 : Int32)) (c41_5 : (uc.2.1 309 (x4 : Int32).toNatClampNeg : Int32) < (uc.2.1 309 (x3 : Int32).toNatClampNeg)) : 0 ≤ x3 ∧ x3 < u.1 310 := by
  clear hg; (try simp only [g_m1, Int32.lt_iff_toInt_lt, Int32.le_iff_toInt_le, ← Int32.toInt_inj, Int32.toInt_add, Int32.toInt_sub, Int32.toInt_mul, Int32.toInt_neg, Int32.reduceToInt, g_bm, g_bm'] at *); omega
set_option maxRecDepth 100000 in
theorem g_X3_longestRow_v10 (u : qS) (x3 : Int32) (x4 : Int32) (uc : qS) (hrk : 0 ≤ (u.1 310).toInt ∧ (u.1 310).toInt ≤ 20) (hg : g_rw (u.2.1 308) (u.1 310).toInt 0 (u.1 8).toInt) (hz8 : 0 ≤ u.1 8 ∧ u.1 8 ≤ 20) (hz9 : 0 ≤ u.1 9 ∧ u.1 9 ≤ 8) (hz10 : 0 ≤ u.1 10 ∧ u.1 10 ≤ 120) (hz12 : 0 ≤ u.1 12 ∧ u.1 12 ≤ 16) (h_k : 0 ≤ x3 ∧ x3 < u.1 310) (h_j : 0 ≤ x4) (c25_3 : ¬ x3 ≤ (x4 : Int32)) (c41_5 : (uc.2.1 309 (x4 : Int32).toNatClampNeg : Int32) < (uc.2.1 309 (x3 : Int32).toNatClampNeg)) : 0 ≤ (x4 + 1) := by
  clear hg; (try simp only [g_m1, Int32.lt_iff_toInt_lt, Int32.le_iff_toInt_le, ← Int32.toInt_inj, Int32.toInt_add, Int32.toInt_sub, Int32.toInt_mul, Int32.toInt_neg, Int32.reduceToInt, g_bm, g_bm'] at *); omega
set_option maxRecDepth 100000 in
theorem g_X3_longestRow_v11 (u : qS) (x3 : Int32) (x4 : Int32) (uc : qS) (hrk : 0 ≤ (u.1 310).toInt ∧ (u.1 310).toInt ≤ 20) (hg : g_rw (u.2.1 308) (u.1 310).toInt 0 (u.1 8).toInt) (hz8 : 0 ≤ u.1 8 ∧ u.1 8 ≤ 20) (hz9 : 0 ≤ u.1 9 ∧ u.1 9 ≤ 8) (hz10 : 0 ≤ u.1 10 ∧ u.1 10 ≤ 120) (hz12 : 0 ≤ u.1 12 ∧ u.1 12 ≤ 16) (h_k : 0 ≤ x3 ∧ x3 < u.1 310) (h_j : 0 ≤ x4) (c25_3 : ¬ x3 ≤ (x4 : Int32)) (c41_5 : (uc.2.1 309 (x4 : Int32).toNatClampNeg : Int32) < (uc.2.1 309 (x3 : Int32).toNatClampNeg)) : ((u.1 310).toInt - x3.toInt).toNat * 32 + (x3.toInt - (x4 + 1).toInt).toNat < ((u.1 310).toInt - x3.toInt).toNat * 32 + (x3.toInt - x4.toInt).toNat := by
  clear hg; (try simp only [g_m1, Int32.lt_iff_toInt_lt, Int32.le_iff_toInt_le, ← Int32.toInt_inj, Int32.toInt_add, Int32.toInt_sub, Int32.toInt_mul, Int32.toInt_neg, Int32.reduceToInt, g_bm, g_bm'] at *); omega
set_option maxRecDepth 100000 in
theorem g_X3_longestRow_v12 (u : qS) (x3 : Int32) (x4 : Int32) (uc : qS) (hrk : 0 ≤ (u.1 310).toInt ∧ (u.1 310).toInt ≤ 20) (hg : g_rw (u.2.1 308) (u.1 310).toInt 0 (u.1 8).toInt) (hz8 : 0 ≤ u.1 8 ∧ u.1 8 ≤ 20) (hz9 : 0 ≤ u.1 9 ∧ u.1 9 ≤ 8) (hz10 : 0 ≤ u.1 10 ∧ u.1 10 ≤ 120) (hz12 : 0 ≤ u.1 12 ∧ u.1 12 ≤ 16) (h_k : 0 ≤ x3 ∧ x3 < u.1 310) (h_j : 0 ≤ x4) (c25_3 : ¬ x3 ≤ (x4 : Int32)) (c41_5 : ¬ (uc.2.1 309 (x4 : Int32).toNatClampNeg : Int32) < (uc.2.1 309 (x3 : Int32).toNatClampNeg)) : vp_in (x4) 20 := by
  clear hg; refine g_in ?_ ?_ <;> ((try simp only [g_m1, Int32.lt_iff_toInt_lt, Int32.le_iff_toInt_le, ← Int32.toInt_inj, Int32.reduceToInt] at *); omega)
set_option maxRecDepth 100000 in
theorem g_X3_longestRow_v13 (u : qS) (x3 : Int32) (x4 : Int32) (uc : qS) (hrk : 0 ≤ (u.1 310).toInt ∧ (u.1 310).toInt ≤ 20) (hg : g_rw (u.2.1 308) (u.1 310).toInt 0 (u.1 8).toInt) (hz8 : 0 ≤ u.1 8 ∧ u.1 8 ≤ 20) (hz9 : 0 ≤ u.1 9 ∧ u.1 9 ≤ 8) (hz10 : 0 ≤ u.1 10 ∧ u.1 10 ≤ 120) (hz12 : 0 ≤ u.1 12 ∧ u.1 12 ≤ 16) (h_k : 0 ≤ x3 ∧ x3 < u.1 310) (h_j : 0 ≤ x4) (c25_3 : ¬ x3 ≤ (x4 : Int32)) (c41_5 : ¬ (uc.2.1 309 (x4 : Int32).toNatClampNeg : Int32) < (uc.2.1 309 (x3 : Int32).toNatClampNeg)) : vp_in (x3) 20 := by
  clear hg; refine g_in ?_ ?_ <;> ((try simp only [g_m1, Int32.lt_iff_toInt_lt, Int32.le_iff_toInt_le, ← Int32.toInt_inj, Int32.reduceToInt] at *); omega)
set_option maxRecDepth 100000 in
theorem g_X3_longestRow_v14 (u : qS) (x3 : Int32) (x4 : Int32) (uc : qS) (hrk : 0 ≤ (u.1 310).toInt ∧ (u.1 310).toInt ≤ 20) (hg : g_rw (u.2.1 308) (u.1 310).toInt 0 (u.1 8).toInt) (hz8 : 0 ≤ u.1 8 ∧ u.1 8 ≤ 20) (hz9 : 0 ≤ u.1 9 ∧ u.1 9 ≤ 8) (hz10 : 0 ≤ u.1 10 ∧ u.1 10 ≤ 120) (hz12 : 0 ≤ u.1 12 ∧ u.1 12 ≤ 16) (h_k : 0 ≤ x3 ∧ x3 < u.1 310) (h_j : 0 ≤ x4) (c25_3 : ¬ x3 ≤ (x4 : Int32)) (c41_5 : ¬ (uc.2.1 309 (x4 : Int32).toNatClampNeg : Int32) < (uc.2.1 309 (x3 : Int32).toNatClampNeg)) : 0 ≤ ((u.2.1 308) (x4 : Int32).toNatClampNeg) ∧ ((u.2.1 308) (x4 : Int32).toNatClampNeg) < (u.1 8 : Int32) := by
  have q_x4 := hg.get x4 (by clear hg; (try simp only [g_m1, Int32.lt_iff_toInt_lt, Int32.le_iff_toInt_le, ← Int32.toInt_inj, Int32.reduceToInt] at *); omega) (by clear hg; (try simp only [g_m1, Int32.lt_iff_toInt_lt, Int32.le_iff_toInt_le, ← Int32.toInt_inj, Int32.reduceToInt] at *); omega)
  clear hg; (try simp only [g_m1, Int32.lt_iff_toInt_lt, Int32.le_iff_toInt_le, ← Int32.toInt_inj, Int32.reduceToInt] at *); omega
set_option maxRecDepth 100000 in
theorem g_X3_longestRow_v15 (u : qS) (x3 : Int32) (x4 : Int32) (uc : qS) (hrk : 0 ≤ (u.1 310).toInt ∧ (u.1 310).toInt ≤ 20) (hg : g_rw (u.2.1 308) (u.1 310).toInt 0 (u.1 8).toInt) (hz8 : 0 ≤ u.1 8 ∧ u.1 8 ≤ 20) (hz9 : 0 ≤ u.1 9 ∧ u.1 9 ≤ 8) (hz10 : 0 ≤ u.1 10 ∧ u.1 10 ≤ 120) (hz12 : 0 ≤ u.1 12 ∧ u.1 12 ≤ 16) (h_k : 0 ≤ x3 ∧ x3 < u.1 310) (h_j : 0 ≤ x4) (c25_3 : ¬ x3 ≤ (x4 : Int32)) (c41_5 : ¬ (uc.2.1 309 (x4 : Int32).toNatClampNeg : Int32) < (uc.2.1 309 (x3 : Int32).toNatClampNeg)) : 0 ≤ ((u.2.1 308) (x3 : Int32).toNatClampNeg) ∧ ((u.2.1 308) (x3 : Int32).toNatClampNeg) < (u.1 8 : Int32) := by
  have q_x3 := hg.get x3 (by clear hg; (try simp only [g_m1, Int32.lt_iff_toInt_lt, Int32.le_iff_toInt_le, ← Int32.toInt_inj, Int32.reduceToInt] at *); omega) (by clear hg; (try simp only [g_m1, Int32.lt_iff_toInt_lt, Int32.le_iff_toInt_le, ← Int32.toInt_inj, Int32.reduceToInt] at *); omega)
  clear hg; (try simp only [g_m1, Int32.lt_iff_toInt_lt, Int32.le_iff_toInt_le, ← Int32.toInt_inj, Int32.reduceToInt] at *); omega
set_option maxRecDepth 100000 in
theorem g_X3_longestRow_v16 (u : qS) (x3 : Int32) (x4 : Int32) (uc : qS) (hrk : 0 ≤ (u.1 310).toInt ∧ (u.1 310).toInt ≤ 20) (hg : g_rw (u.2.1 308) (u.1 310).toInt 0 (u.1 8).toInt) (hz8 : 0 ≤ u.1 8 ∧ u.1 8 ≤ 20) (hz9 : 0 ≤ u.1 9 ∧ u.1 9 ≤ 8) (hz10 : 0 ≤ u.1 10 ∧ u.1 10 ≤ 120) (hz12 : 0 ≤ u.1 12 ∧ u.1 12 ≤ 16) (h_k : 0 ≤ x3 ∧ x3 < u.1 310) (h_j : 0 ≤ x4) (c25_3 : ¬ x3 ≤ (x4 : Int32)) (c41_5 : ¬ (uc.2.1 309 (x4 : Int32).toNatClampNeg : Int32) < (uc.2.1 309 (x3 : Int32).toNatClampNeg)) : vp_in (x4) 20 := by
  clear hg; refine g_in ?_ ?_ <;> ((try simp only [g_m1, Int32.lt_iff_toInt_lt, Int32.le_iff_toInt_le, ← Int32.toInt_inj, Int32.reduceToInt] at *); omega)
set_option maxRecDepth 100000 in
theorem g_X3_longestRow_v17 (u : qS) (x3 : Int32) (x4 : Int32) (uc : qS) (hrk : 0 ≤ (u.1 310).toInt ∧ (u.1 310).toInt ≤ 20) (hg : g_rw (u.2.1 308) (u.1 310).toInt 0 (u.1 8).toInt) (hz8 : 0 ≤ u.1 8 ∧ u.1 8 ≤ 20) (hz9 : 0 ≤ u.1 9 ∧ u.1 9 ≤ 8) (hz10 : 0 ≤ u.1 10 ∧ u.1 10 ≤ 120) (hz12 : 0 ≤ u.1 12 ∧ u.1 12 ≤ 16) (h_k : 0 ≤ x3 ∧ x3 < u.1 310) (h_j : 0 ≤ x4) (c25_3 : ¬ x3 ≤ (x4 : Int32)) (c41_5 : ¬ (uc.2.1 309 (x4 : Int32).toNatClampNeg : Int32) < (uc.2.1 309 (x3 : Int32).toNatClampNeg)) : vp_in (x3) 20 := by
  clear hg; refine g_in ?_ ?_ <;> ((try simp only [g_m1, Int32.lt_iff_toInt_lt, Int32.le_iff_toInt_le, ← Int32.toInt_inj, Int32.reduceToInt] at *); omega)
set_option maxRecDepth 100000 in
theorem g_X3_longestRow_v18 (u : qS) (x3 : Int32) (x4 : Int32) (uc : qS) (f_10 : Nat → Int32) (hrk : 0 ≤ (u.1 310).toInt ∧ (u.1 310).toInt ≤ 20) (hg : g_rw (u.2.1 308) (u.1 310).toInt 0 (u.1 8).toInt) (hz8 : 0 ≤ u.1 8 ∧ u.1 8 ≤ 20) (hz9 : 0 ≤ u.1 9 ∧ u.1 9 ≤ 8) (hz10 : 0 ≤ u.1 10 ∧ u.1 10 ≤ 120) (hz12 : 0 ≤ u.1 12 ∧ u.1 12 ≤ 16) (h_k : 0 ≤ x3 ∧ x3 < u.1 310) (h_j : 0 ≤ x4) (c25_3 : ¬ x3 ≤ (x4 : Int32)) (c41_5 : ¬ (uc.2.1 309 (x4 : Int32).toNatClampNeg : Int32) < (uc.2.1 309 (x3 : Int32).toNatClampNeg)) (hf_10 : f_10 = upd (uc.2.1 309) (x3 : Int32).toNatClampNeg ((uc.2.1 309 (x4 : Int32).toNatClampNeg) + 1)) : 0 ≤ x3 ∧ x3 < u.1 310 := by
  clear hg; (try simp only [g_m1, Int32.lt_iff_toInt_lt, Int32.le_iff_toInt_le, ← Int32.toInt_inj, Int32.toInt_add, Int32.toInt_sub, Int32.toInt_mul, Int32.toInt_neg, Int32.reduceToInt, g_bm, g_bm'] at *); omega
set_option maxRecDepth 100000 in
theorem g_X3_longestRow_v19 (u : qS) (x3 : Int32) (x4 : Int32) (uc : qS) (f_10 : Nat → Int32) (hrk : 0 ≤ (u.1 310).toInt ∧ (u.1 310).toInt ≤ 20) (hg : g_rw (u.2.1 308) (u.1 310).toInt 0 (u.1 8).toInt) (hz8 : 0 ≤ u.1 8 ∧ u.1 8 ≤ 20) (hz9 : 0 ≤ u.1 9 ∧ u.1 9 ≤ 8) (hz10 : 0 ≤ u.1 10 ∧ u.1 10 ≤ 120) (hz12 : 0 ≤ u.1 12 ∧ u.1 12 ≤ 16) (h_k : 0 ≤ x3 ∧ x3 < u.1 310) (h_j : 0 ≤ x4) (c25_3 : ¬ x3 ≤ (x4 : Int32)) (c41_5 : ¬ (uc.2.1 309 (x4 : Int32).toNatClampNeg : Int32) < (uc.2.1 309 (x3 : Int32).toNatClampNeg)) (hf_10 : f_10 = upd (uc.2.1 309) (x3 : Int32).toNatClampNeg ((uc.2.1 309 (x4 : Int32).toNatClampNeg) + 1)) : 0 ≤ (x4 + 1) := by
  clear hg; (try simp only [g_m1, Int32.lt_iff_toInt_lt, Int32.le_iff_toInt_le, ← Int32.toInt_inj, Int32.toInt_add, Int32.toInt_sub, Int32.toInt_mul, Int32.toInt_neg, Int32.reduceToInt, g_bm, g_bm'] at *); omega
set_option maxRecDepth 100000 in
theorem g_X3_longestRow_v20 (u : qS) (x3 : Int32) (x4 : Int32) (uc : qS) (f_10 : Nat → Int32) (hrk : 0 ≤ (u.1 310).toInt ∧ (u.1 310).toInt ≤ 20) (hg : g_rw (u.2.1 308) (u.1 310).toInt 0 (u.1 8).toInt) (hz8 : 0 ≤ u.1 8 ∧ u.1 8 ≤ 20) (hz9 : 0 ≤ u.1 9 ∧ u.1 9 ≤ 8) (hz10 : 0 ≤ u.1 10 ∧ u.1 10 ≤ 120) (hz12 : 0 ≤ u.1 12 ∧ u.1 12 ≤ 16) (h_k : 0 ≤ x3 ∧ x3 < u.1 310) (h_j : 0 ≤ x4) (c25_3 : ¬ x3 ≤ (x4 : Int32)) (c41_5 : ¬ (uc.2.1 309 (x4 : Int32).toNatClampNeg : Int32) < (uc.2.1 309 (x3 : Int32).toNatClampNeg)) (hf_10 : f_10 = upd (uc.2.1 309) (x3 : Int32).toNatClampNeg ((uc.2.1 309 (x4 : Int32).toNatClampNeg) + 1)) : ((u.1 310).toInt - x3.toInt).toNat * 32 + (x3.toInt - (x4 + 1).toInt).toNat < ((u.1 310).toInt - x3.toInt).toNat * 32 + (x3.toInt - x4.toInt).toNat := by
  clear hg; (try simp only [g_m1, Int32.lt_iff_toInt_lt, Int32.le_iff_toInt_le, ← Int32.toInt_inj, Int32.toInt_add, Int32.toInt_sub, Int32.toInt_mul, Int32.toInt_neg, Int32.reduceToInt, g_bm, g_bm'] at *); omega
set_option maxRecDepth 100000 in
theorem g_X3_longestRow_v21 (u : qS) (x3 : Int32) (x4 : Int32) (uc : qS) (hrk : 0 ≤ (u.1 310).toInt ∧ (u.1 310).toInt ≤ 20) (hg : g_rw (u.2.1 308) (u.1 310).toInt 0 (u.1 8).toInt) (hz8 : 0 ≤ u.1 8 ∧ u.1 8 ≤ 20) (hz9 : 0 ≤ u.1 9 ∧ u.1 9 ≤ 8) (hz10 : 0 ≤ u.1 10 ∧ u.1 10 ≤ 120) (hz12 : 0 ≤ u.1 12 ∧ u.1 12 ≤ 16) (h_k : 0 ≤ x3 ∧ x3 < u.1 310) (h_j : 0 ≤ x4) (c25_3 : ¬ x3 ≤ (x4 : Int32)) (c41_5 : ¬ (uc.2.1 309 (x4 : Int32).toNatClampNeg : Int32) < (uc.2.1 309 (x3 : Int32).toNatClampNeg)) : 0 ≤ x3 ∧ x3 < u.1 310 := by
  clear hg; (try simp only [g_m1, Int32.lt_iff_toInt_lt, Int32.le_iff_toInt_le, ← Int32.toInt_inj, Int32.toInt_add, Int32.toInt_sub, Int32.toInt_mul, Int32.toInt_neg, Int32.reduceToInt, g_bm, g_bm'] at *); omega
set_option maxRecDepth 100000 in
theorem g_X3_longestRow_v22 (u : qS) (x3 : Int32) (x4 : Int32) (uc : qS) (hrk : 0 ≤ (u.1 310).toInt ∧ (u.1 310).toInt ≤ 20) (hg : g_rw (u.2.1 308) (u.1 310).toInt 0 (u.1 8).toInt) (hz8 : 0 ≤ u.1 8 ∧ u.1 8 ≤ 20) (hz9 : 0 ≤ u.1 9 ∧ u.1 9 ≤ 8) (hz10 : 0 ≤ u.1 10 ∧ u.1 10 ≤ 120) (hz12 : 0 ≤ u.1 12 ∧ u.1 12 ≤ 16) (h_k : 0 ≤ x3 ∧ x3 < u.1 310) (h_j : 0 ≤ x4) (c25_3 : ¬ x3 ≤ (x4 : Int32)) (c41_5 : ¬ (uc.2.1 309 (x4 : Int32).toNatClampNeg : Int32) < (uc.2.1 309 (x3 : Int32).toNatClampNeg)) : 0 ≤ (x4 + 1) := by
  clear hg; (try simp only [g_m1, Int32.lt_iff_toInt_lt, Int32.le_iff_toInt_le, ← Int32.toInt_inj, Int32.toInt_add, Int32.toInt_sub, Int32.toInt_mul, Int32.toInt_neg, Int32.reduceToInt, g_bm, g_bm'] at *); omega
set_option maxRecDepth 100000 in
theorem g_X3_longestRow_v23 (u : qS) (x3 : Int32) (x4 : Int32) (uc : qS) (hrk : 0 ≤ (u.1 310).toInt ∧ (u.1 310).toInt ≤ 20) (hg : g_rw (u.2.1 308) (u.1 310).toInt 0 (u.1 8).toInt) (hz8 : 0 ≤ u.1 8 ∧ u.1 8 ≤ 20) (hz9 : 0 ≤ u.1 9 ∧ u.1 9 ≤ 8) (hz10 : 0 ≤ u.1 10 ∧ u.1 10 ≤ 120) (hz12 : 0 ≤ u.1 12 ∧ u.1 12 ≤ 16) (h_k : 0 ≤ x3 ∧ x3 < u.1 310) (h_j : 0 ≤ x4) (c25_3 : ¬ x3 ≤ (x4 : Int32)) (c41_5 : ¬ (uc.2.1 309 (x4 : Int32).toNatClampNeg : Int32) < (uc.2.1 309 (x3 : Int32).toNatClampNeg)) : ((u.1 310).toInt - x3.toInt).toNat * 32 + (x3.toInt - (x4 + 1).toInt).toNat < ((u.1 310).toInt - x3.toInt).toNat * 32 + (x3.toInt - x4.toInt).toNat := by
  clear hg; (try simp only [g_m1, Int32.lt_iff_toInt_lt, Int32.le_iff_toInt_le, ← Int32.toInt_inj, Int32.toInt_add, Int32.toInt_sub, Int32.toInt_mul, Int32.toInt_neg, Int32.reduceToInt, g_bm, g_bm'] at *); omega
set_option maxRecDepth 100000 in
theorem g_X3_longestRow_v24 (u : qS) (hrk : 0 ≤ (u.1 310).toInt ∧ (u.1 310).toInt ≤ 20) (hg : g_rw (u.2.1 308) (u.1 310).toInt 0 (u.1 8).toInt) (hz8 : 0 ≤ u.1 8 ∧ u.1 8 ≤ 20) (hz9 : 0 ≤ u.1 9 ∧ u.1 9 ≤ 8) (hz10 : 0 ≤ u.1 10 ∧ u.1 10 ≤ 120) (hz12 : 0 ≤ u.1 12 ∧ u.1 12 ≤ 16) : 0 ≤ (0 : Int32) := by
  clear hg; (try simp only [g_m1, Int32.lt_iff_toInt_lt, Int32.le_iff_toInt_le, ← Int32.toInt_inj, Int32.toInt_add, Int32.toInt_sub, Int32.toInt_mul, Int32.toInt_neg, Int32.reduceToInt, g_bm, g_bm'] at *); omega
set_option maxHeartbeats 1000000 in
set_option maxRecDepth 100000 in
theorem g_X3_longestRow (l : Launch) (E : qE) (A : Nat → Prop) (u : qS) (y : Int32) (hI : IC E u) (hrk : 0 ≤ (u.1 310).toInt ∧ (u.1 310).toInt ≤ 20) (hg : g_rw (u.2.1 308) (u.1 310).toInt 0 (u.1 8).toInt) : Met l yX3_longestRow (uws yX3_longestRow cX3_longestRow 5 (some .int)) (qR 2 0 0) (qPc E A 0 u [.ref (E.2.2 399), .int y]) (qQi E A 0 (fun r u1 => (qFc [] [309] [] [] u u1 ∧ IC E u1 ∧ u1.2.2.2.2 = u.2.2.2.2) ∧ (True))) 0 0 A := by
  refine q_met (own := RX3) (f := 2) [.ref (E.2.2 399), .int y] (by decide) (Nat.le_of_ble_eq_true rfl) rfl ?_
  intro p0 e0 s0 m0 bl0 me0 cd0 ls hF hr hlocks hU hS hA hl
  have hl : lv_has ls 5 [(0, .ref (E.2.2 399)), (1, .int y)] := hl
  have hkd : u.2.2.2.2 = u.2.2.2.2 := rfl
  have hz8 : 0 ≤ u.1 8 ∧ u.1 8 ≤ 20 := hI.1.s8
  have hz9 : 0 ≤ u.1 9 ∧ u.1 9 ≤ 8 := hI.1.s9
  have hz10 : 0 ≤ u.1 10 ∧ u.1 10 ≤ 120 := hI.1.s10
  have hz12 : 0 ≤ u.1 12 ∧ u.1 12 ≤ 16 := hI.1.s12
  have hfr : qFc [] [309] [] [] u u := qFc.rf
  have main : ∀ n : Nat, (∀ (x2 : Int32) (x3 : Int32) (uc : qS) (H : Heap) (locs : List Loc) (ls : Array Slot) (hfr : qFc [] [309] [] [] u uc) (hI : IC E uc) (hkd : uc.2.2.2.2 = u.2.2.2.2) (h_k : 0 ≤ x3), ((u.1 310).toInt - x3.toInt).toNat * 32 + 31 < n → qH E A 0 uc s0 H → va_S A s0.heap H locs → lv_has ls 5 [(0, .ref (E.2.2 399)), (1, .int y), (2, .int x2), (3, .int x3)] → W p0 l e0 (qR 2 0 0) s0 m0 ([.ref (E.2.2 399), .int y] : List Value).toArray bl0 me0 cd0 H locs 0 0 (MQ bl0 (qQi E A 0 (fun r u1 => (qFc [] [309] [] [] u u1 ∧ IC E u1 ∧ u1.2.2.2.2 = u.2.2.2.2) ∧ (True))) ([.ref (E.2.2 399), .int y] : List Value).toArray s0 0 0 A) (F0 m0 4 ls [])) ∧ (∀ (x2 : Int32) (x3 : Int32) (x4 : Int32) (uc : qS) (H : Heap) (locs : List Loc) (ls : Array Slot) (hfr : qFc [] [309] [] [] u uc) (hI : IC E uc) (hkd : uc.2.2.2.2 = u.2.2.2.2) (h_k : 0 ≤ x3 ∧ x3 < u.1 310) (h_j : 0 ≤ x4), ((u.1 310).toInt - x3.toInt).toNat * 32 + (x3.toInt - x4.toInt).toNat < n → qH E A 0 uc s0 H → va_S A s0.heap H locs → lv_has ls 5 [(0, .ref (E.2.2 399)), (1, .int y), (2, .int x2), (3, .int x3), (4, .int x4)] → W p0 l e0 (qR 2 0 0) s0 m0 ([.ref (E.2.2 399), .int y] : List Value).toArray bl0 me0 cd0 H locs 0 0 (MQ bl0 (qQi E A 0 (fun r u1 => (qFc [] [309] [] [] u u1 ∧ IC E u1 ∧ u1.2.2.2.2 = u.2.2.2.2) ∧ (True))) ([.ref (E.2.2 399), .int y] : List Value).toArray s0 0 0 A) (F0 m0 22 ls [])) := by
    clear hI hfr hkd
    intro n
    induction n with
    | zero => exact ⟨fun _ _ _ _ _ _ _ _ _ _ hmu => absurd hmu (Nat.not_lt_zero _), fun _ _ _ _ _ _ _ _ _ _ _ _ hmu => absurd hmu (Nat.not_lt_zero _)⟩
    | succ n ih =>
      refine ⟨?_, ?_⟩
      · intro x2 x3 uc H locs ls hfr hI hkd h_k hmu hU hS hl
        refine lv_iload_n hF.1 hF.2.1 dX3_longestRow_4 rfl (lv_at hl 3 rfl) ?_
        refine lv_aload_n hF.1 hF.2.1 dX3_longestRow_5 rfl (lv_at hl 0 rfl) ?_
        refine q_get (v := .int (u.1 310)) hF hU dX3_longestRow_6 6 3 10 310 399 rfl rfl rfl rfl inX3 (by decide) (by decide) w_387 rfl (congrArg Value.int (hfr.1 310 (by decide))) ?_
        refine lv_icmp_ge (tgt := 103) hF.1 hF.2.1 dX3_longestRow_9 (by decide) (fun c9_1 => ?_) (fun c9_1 => ?_)
        · refine lv_iload_n hF.1 hF.2.1 dX3_longestRow_103 rfl (lv_at hl 2 rfl) ?_
          exact q_iret hF hr rfl hlocks hU hS dX3_longestRow_104 ⟨⟨hfr, hI, hkd⟩, trivial⟩
        · refine lv_aload_n hF.1 hF.2.1 dX3_longestRow_12 rfl (lv_at hl 0 rfl) ?_
          refine q_get (v := .ref (E.2.2 309)) hF hU dX3_longestRow_13 6 3 9 309 399 rfl rfl rfl rfl inX3 (by decide) (by decide) w_386 rfl rfl ?_
          refine lv_iload_n hF.1 hF.2.1 dX3_longestRow_16 rfl (lv_at hl 3 rfl) ?_
          refine lv_iconst (v := 1) hF.1 hF.2.1 dX3_longestRow_17 (by decide) ?_
          refine q_iast hF hU hS dX3_longestRow_18 24 309 rfl rfl (g_X3_longestRow_v0 u x3 hrk hg hz8 hz9 hz10 hz12 h_k c9_1) (fun f_2 H locs hg9 hU hS => ?_)
          have hf_2 : f_2 = upd (uc.2.1 309) (x3 : Int32).toNatClampNeg 1 := hg9
          have hfr : qFc [] [309] [] [] u (qsF uc 309 f_2) := hfr.setF (by decide)
          have hI : IC E (qsF uc 309 f_2) := hI.sF (by decide)
          refine lv_iconst (v := 0) hF.1 hF.2.1 dX3_longestRow_19 (by decide) ?_
          refine lv_istore (lv' := [(4, .int 0), (0, .ref (E.2.2 399)), (1, .int y), (2, .int x2), (3, .int x3)]) hF.1 hF.2.1 dX3_longestRow_20 hl (by decide) rfl (fun ls hl => ?_)
          exact ih.2 x2 x3 (0 : Int32) (qsF uc 309 f_2) _ _ _ hfr hI hkd  (g_X3_longestRow_v1 u x3 uc f_2 hrk hg hz8 hz9 hz10 hz12 h_k c9_1 hf_2) (g_X3_longestRow_v2 u x3 uc f_2 hrk hg hz8 hz9 hz10 hz12 h_k c9_1 hf_2) (Nat.lt_of_lt_of_le (g_X3_longestRow_v3 u x3 uc f_2 hrk hg hz8 hz9 hz10 hz12 h_k c9_1 hf_2) (Nat.lt_succ_iff.mp hmu)) hU hS (lv_sub hl [1, 2, 3, 4, 0] rfl)
      · intro x2 x3 x4 uc H locs ls hfr hI hkd h_k h_j hmu hU hS hl
        refine lv_iload hF.1 hF.2.1 dX3_longestRow_22 (lv_at hl 4 rfl) ?_
        refine lv_iload_n hF.1 hF.2.1 dX3_longestRow_24 rfl (lv_at hl 3 rfl) ?_
        refine lv_icmp_ge (tgt := 86) hF.1 hF.2.1 dX3_longestRow_25 (by decide) (fun c25_3 => ?_) (fun c25_3 => ?_)
        · refine lv_iload_n hF.1 hF.2.1 dX3_longestRow_86 rfl (lv_at hl 2 rfl) ?_
          refine lv_aload_n hF.1 hF.2.1 dX3_longestRow_87 rfl (lv_at hl 0 rfl) ?_
          refine q_get (v := .ref (E.2.2 309)) hF hU dX3_longestRow_88 6 3 9 309 399 rfl rfl rfl rfl inX3 (by decide) (by decide) w_386 rfl rfl ?_
          refine lv_iload_n hF.1 hF.2.1 dX3_longestRow_91 rfl (lv_at hl 3 rfl) ?_
          refine q_iald (v := uc.2.1 309 (x3 : Int32).toNatClampNeg) hF hU dX3_longestRow_92 24 309 rfl rfl (g_X3_longestRow_v4 u x3 x4 hrk hg hz8 hz9 hz10 hz12 h_k h_j c25_3) rfl ?_
          refine va_mmax hF.1 hF.2.1 (hF.2.2.1.trans hl.1.symm) hF.2.2.2.1 (hF.2.2.2.2 _ w_1072) (hF.2.2.2.2 _ w_888) (hF.2.2.2.2 _ w_113) (hF.2.2.2.2 _ w_889) (by decide) (Nat.le_of_ble_eq_true rfl) (by decide) (by decide) dX3_longestRow_93 ?_
          obtain ⟨r_4, hr_4⟩ : ∃ z : Int32, z = (if (x2 : Int32) < (uc.2.1 309 (x3 : Int32).toNatClampNeg) then (uc.2.1 309 (x3 : Int32).toNatClampNeg) else x2) := ⟨_, rfl⟩
          refine q_topi hr_4.symm ?_
          refine lv_istore_n (lv' := [(2, .int r_4), (0, .ref (E.2.2 399)), (1, .int y), (3, .int x3), (4, .int x4)]) hF.1 hF.2.1 dX3_longestRow_96 rfl hl (by decide) rfl (fun ls hl => ?_)
          refine lv_iinc (v := x3 + 1) (lv' := [(3, .int (x3 + 1)), (2, .int r_4), (0, .ref (E.2.2 399)), (1, .int y), (4, .int x4)]) hF.1 hF.2.1 dX3_longestRow_97 hl (k := 3) rfl rfl (by decide) rfl (fun ls hl => ?_)
          refine lv_goto (tgt := 4) hF.1 hF.2.1 dX3_longestRow_100 (by decide) ?_
          exact ih.1 r_4 (x3 + 1) uc _ _ _ hfr hI hkd  (g_X3_longestRow_v5 u x3 x4 hrk hg hz8 hz9 hz10 hz12 h_k h_j c25_3) (Nat.lt_of_lt_of_le (g_X3_longestRow_v6 u x3 x4 hrk hg hz8 hz9 hz10 hz12 h_k h_j c25_3) (Nat.lt_succ_iff.mp hmu)) hU hS (lv_sub hl [2, 3, 1, 0] rfl)
        · refine lv_aload_n hF.1 hF.2.1 dX3_longestRow_28 rfl (lv_at hl 0 rfl) ?_
          refine q_get (v := .ref (E.2.2 309)) hF hU dX3_longestRow_29 6 3 9 309 399 rfl rfl rfl rfl inX3 (by decide) (by decide) w_386 rfl rfl ?_
          refine lv_iload hF.1 hF.2.1 dX3_longestRow_32 (lv_at hl 4 rfl) ?_
          refine q_iald (v := uc.2.1 309 (x4 : Int32).toNatClampNeg) hF hU dX3_longestRow_34 24 309 rfl rfl (g_X3_longestRow_v7 u x3 x4 hrk hg hz8 hz9 hz10 hz12 h_k h_j c25_3) rfl ?_
          refine lv_aload_n hF.1 hF.2.1 dX3_longestRow_35 rfl (lv_at hl 0 rfl) ?_
          refine q_get (v := .ref (E.2.2 309)) hF hU dX3_longestRow_36 6 3 9 309 399 rfl rfl rfl rfl inX3 (by decide) (by decide) w_386 rfl rfl ?_
          refine lv_iload_n hF.1 hF.2.1 dX3_longestRow_39 rfl (lv_at hl 3 rfl) ?_
          refine q_iald (v := uc.2.1 309 (x3 : Int32).toNatClampNeg) hF hU dX3_longestRow_40 24 309 rfl rfl (g_X3_longestRow_v8 u x3 x4 hrk hg hz8 hz9 hz10 hz12 h_k h_j c25_3) rfl ?_
          refine lv_icmp_lt (tgt := 80) hF.1 hF.2.1 dX3_longestRow_41 (by decide) (fun c41_5 => ?_) (fun c41_5 => ?_)
          · refine lv_iinc (v := x4 + 1) (lv' := [(4, .int (x4 + 1)), (0, .ref (E.2.2 399)), (1, .int y), (2, .int x2), (3, .int x3)]) hF.1 hF.2.1 dX3_longestRow_80 hl (k := 4) rfl rfl (by decide) rfl (fun ls hl => ?_)
            refine lv_goto (tgt := 22) hF.1 hF.2.1 dX3_longestRow_83 (by decide) ?_
            exact ih.2 x2 x3 (x4 + 1) uc _ _ _ hfr hI hkd  (g_X3_longestRow_v9 u x3 x4 uc hrk hg hz8 hz9 hz10 hz12 h_k h_j c25_3 c41_5) (g_X3_longestRow_v10 u x3 x4 uc hrk hg hz8 hz9 hz10 hz12 h_k h_j c25_3 c41_5) (Nat.lt_of_lt_of_le (g_X3_longestRow_v11 u x3 x4 uc hrk hg hz8 hz9 hz10 hz12 h_k h_j c25_3 c41_5) (Nat.lt_succ_iff.mp hmu)) hU hS (lv_sub hl [1, 2, 3, 4, 0] rfl)
          · refine lv_aload_n hF.1 hF.2.1 dX3_longestRow_44 rfl (lv_at hl 0 rfl) ?_
            refine lv_aload_n hF.1 hF.2.1 dX3_longestRow_45 rfl (lv_at hl 0 rfl) ?_
            refine q_get (v := .ref (E.2.2 308)) hF hU dX3_longestRow_46 6 3 8 308 399 rfl rfl rfl rfl inX3 (by decide) (by decide) w_385 rfl rfl ?_
            refine lv_iload hF.1 hF.2.1 dX3_longestRow_49 (lv_at hl 4 rfl) ?_
            refine q_iald (v := u.2.1 308 (x4 : Int32).toNatClampNeg) hF hU dX3_longestRow_51 23 308 rfl rfl (g_X3_longestRow_v12 u x3 x4 uc hrk hg hz8 hz9 hz10 hz12 h_k h_j c25_3 c41_5) (congrFun (hfr.2.1 308 (by decide)) _) ?_
            refine lv_aload_n hF.1 hF.2.1 dX3_longestRow_52 rfl (lv_at hl 0 rfl) ?_
            refine q_get (v := .ref (E.2.2 308)) hF hU dX3_longestRow_53 6 3 8 308 399 rfl rfl rfl rfl inX3 (by decide) (by decide) w_385 rfl rfl ?_
            refine lv_iload_n hF.1 hF.2.1 dX3_longestRow_56 rfl (lv_at hl 3 rfl) ?_
            refine q_iald (v := u.2.1 308 (x3 : Int32).toNatClampNeg) hF hU dX3_longestRow_57 23 308 rfl rfl (g_X3_longestRow_v13 u x3 x4 uc hrk hg hz8 hz9 hz10 hz12 h_k h_j c25_3 c41_5) (congrFun (hfr.2.1 308 (by decide)) _) ?_
            refine lv_iload_n hF.1 hF.2.1 dX3_longestRow_58 rfl (lv_at hl 1 rfl) ?_
            have hM9 := g_X3_isLess l E A uc (u.2.1 308 (x4 : Int32).toNatClampNeg) (u.2.1 308 (x3 : Int32).toNatClampNeg) y hI (by rw [(hfr.1 8 (by decide))]; exact (g_X3_longestRow_v14 u x3 x4 uc hrk hg hz8 hz9 hz10 hz12 h_k h_j c25_3 c41_5)) (by rw [(hfr.1 8 (by decide))]; exact (g_X3_longestRow_v15 u x3 x4 uc hrk hg hz8 hz9 hz10 hz12 h_k h_j c25_3 c41_5))
            have hR9 := q_runV (l := l) (e := e0) (below := bl0) (meth := me0) (R := qR 2 0 0) (cells := 0) (slots := 0) (st0 := [.int y, .int (u.2.1 308 (x3 : Int32).toNatClampNeg), .int (u.2.1 308 (x4 : Int32).toNatClampNeg), .ref (E.2.2 399)]) (rest := []) hF hU hS hA 3 6 3 399 rfl rfl rfl hM9 w_1071 w_1046 w_1047 w_105 w_1048 (by decide +kernel) ⟨Nat.le_of_ble_eq_true rfl, Nat.le_of_ble_eq_true rfl⟩ dX3_longestRow_59 rfl hl.1 rfl (Nat.le_of_ble_eq_true rfl) ⟨Nat.le_of_ble_eq_true rfl, Nat.le_of_ble_eq_true rfl⟩
            refine q_calli hR9 hU.2.2.2 hS (fun r_8 u_6 H locs hw_7 hU hS => ?_)
            obtain ⟨hw_7_e, hw_7⟩ := hw_7
            rw [hw_7_e] at hU
            rcases hw_7 with rfl | rfl
            · refine lv_if_eq (tgt := 80) hF.1 hF.2.1 dX3_longestRow_62 (by decide) (fun h9 => absurd h9 (by decide)) (fun _ => ?_)
              refine lv_aload_n hF.1 hF.2.1 dX3_longestRow_65 rfl (lv_at hl 0 rfl) ?_
              refine q_get (v := .ref (E.2.2 309)) hF hU dX3_longestRow_66 6 3 9 309 399 rfl rfl rfl rfl inX3 (by decide) (by decide) w_386 rfl rfl ?_
              refine lv_iload_n hF.1 hF.2.1 dX3_longestRow_69 rfl (lv_at hl 3 rfl) ?_
              refine lv_aload_n hF.1 hF.2.1 dX3_longestRow_70 rfl (lv_at hl 0 rfl) ?_
              refine q_get (v := .ref (E.2.2 309)) hF hU dX3_longestRow_71 6 3 9 309 399 rfl rfl rfl rfl inX3 (by decide) (by decide) w_386 rfl rfl ?_
              refine lv_iload hF.1 hF.2.1 dX3_longestRow_74 (lv_at hl 4 rfl) ?_
              refine q_iald (v := uc.2.1 309 (x4 : Int32).toNatClampNeg) hF hU dX3_longestRow_76 24 309 rfl rfl (g_X3_longestRow_v16 u x3 x4 uc hrk hg hz8 hz9 hz10 hz12 h_k h_j c25_3 c41_5) rfl ?_
              refine lv_iconst (v := 1) hF.1 hF.2.1 dX3_longestRow_77 (by decide) ?_
              refine lv_iadd hF.1 hF.2.1 dX3_longestRow_78 ?_
              refine q_iast hF hU hS dX3_longestRow_79 24 309 rfl rfl (g_X3_longestRow_v17 u x3 x4 uc hrk hg hz8 hz9 hz10 hz12 h_k h_j c25_3 c41_5) (fun f_10 H locs hg9 hU hS => ?_)
              have hf_10 : f_10 = upd (uc.2.1 309) (x3 : Int32).toNatClampNeg ((uc.2.1 309 (x4 : Int32).toNatClampNeg) + 1) := hg9
              have hfr : qFc [] [309] [] [] u (qsF uc 309 f_10) := hfr.setF (by decide)
              have hI : IC E (qsF uc 309 f_10) := hI.sF (by decide)
              refine lv_iinc (v := x4 + 1) (lv' := [(4, .int (x4 + 1)), (0, .ref (E.2.2 399)), (1, .int y), (2, .int x2), (3, .int x3)]) hF.1 hF.2.1 dX3_longestRow_80 hl (k := 4) rfl rfl (by decide) rfl (fun ls hl => ?_)
              refine lv_goto (tgt := 22) hF.1 hF.2.1 dX3_longestRow_83 (by decide) ?_
              exact ih.2 x2 x3 (x4 + 1) (qsF uc 309 f_10) _ _ _ hfr hI hkd  (g_X3_longestRow_v18 u x3 x4 uc f_10 hrk hg hz8 hz9 hz10 hz12 h_k h_j c25_3 c41_5 hf_10) (g_X3_longestRow_v19 u x3 x4 uc f_10 hrk hg hz8 hz9 hz10 hz12 h_k h_j c25_3 c41_5 hf_10) (Nat.lt_of_lt_of_le (g_X3_longestRow_v20 u x3 x4 uc f_10 hrk hg hz8 hz9 hz10 hz12 h_k h_j c25_3 c41_5 hf_10) (Nat.lt_succ_iff.mp hmu)) hU hS (lv_sub hl [1, 2, 3, 4, 0] rfl)
            · refine lv_if_eq (tgt := 80) hF.1 hF.2.1 dX3_longestRow_62 (by decide) (fun _ => ?_) (fun h9 => absurd (by decide) h9)
              refine lv_iinc (v := x4 + 1) (lv' := [(4, .int (x4 + 1)), (0, .ref (E.2.2 399)), (1, .int y), (2, .int x2), (3, .int x3)]) hF.1 hF.2.1 dX3_longestRow_80 hl (k := 4) rfl rfl (by decide) rfl (fun ls hl => ?_)
              refine lv_goto (tgt := 22) hF.1 hF.2.1 dX3_longestRow_83 (by decide) ?_
              exact ih.2 x2 x3 (x4 + 1) uc _ _ _ hfr hI hkd  (g_X3_longestRow_v21 u x3 x4 uc hrk hg hz8 hz9 hz10 hz12 h_k h_j c25_3 c41_5) (g_X3_longestRow_v22 u x3 x4 uc hrk hg hz8 hz9 hz10 hz12 h_k h_j c25_3 c41_5) (Nat.lt_of_lt_of_le (g_X3_longestRow_v23 u x3 x4 uc hrk hg hz8 hz9 hz10 hz12 h_k h_j c25_3 c41_5) (Nat.lt_succ_iff.mp hmu)) hU hS (lv_sub hl [1, 2, 3, 4, 0] rfl)
  refine lv_iconst (v := 0) hF.1 hF.2.1 dX3_longestRow_0 (by decide) ?_
  refine lv_istore_n (lv' := [(2, .int 0), (0, .ref (E.2.2 399)), (1, .int y)]) hF.1 hF.2.1 dX3_longestRow_1 rfl hl (by decide) rfl (fun ls hl => ?_)
  refine lv_iconst (v := 0) hF.1 hF.2.1 dX3_longestRow_2 (by decide) ?_
  refine lv_istore_n (lv' := [(3, .int 0), (2, .int 0), (0, .ref (E.2.2 399)), (1, .int y)]) hF.1 hF.2.1 dX3_longestRow_3 rfl hl (by decide) rfl (fun ls hl => ?_)
  exact (main _).1 (0 : Int32) (0 : Int32) u _ _ _ hfr hI hkd  (g_X3_longestRow_v24 u hrk hg hz8 hz9 hz10 hz12) (Nat.lt_succ_self _) hU hS (lv_sub hl [2, 3, 1, 0] rfl)
set_option maxHeartbeats 1000000 in
set_option maxRecDepth 100000 in
theorem g_X2_buyerShift (l : Launch) (E : qE) (A : Nat → Prop) (u : qS) (x : Int32) : Met l yX2_buyerShift (uws yX2_buyerShift cX2_buyerShift 1 (some .int)) (qR 0 0 0) (qPc E A 0 u [.int x]) (qQi E A 0 (fun r u1 => u1 = u ∧ (True))) 0 0 A := by
  refine q_met (own := RX2) (f := 0) [.int x] (by decide) (Nat.le_of_ble_eq_true rfl) rfl ?_
  intro p0 e0 s0 m0 bl0 me0 cd0 ls hF hr hlocks hU hS hA hl
  have hl : lv_has ls 1 [(0, .int x)] := hl
  refine lv_iconst (v := 3) hF.1 hF.2.1 dX2_buyerShift_0 (by decide) ?_
  refine lv_bipush (v := 7) hF.1 hF.2.1 dX2_buyerShift_1 (by decide) ?_
  refine lv_iload_n hF.1 hF.2.1 dX2_buyerShift_3 rfl (lv_at hl 0 rfl) ?_
  refine lv_isub hF.1 hF.2.1 dX2_buyerShift_4 ?_
  refine lv_imul hF.1 hF.2.1 dX2_buyerShift_5 ?_
  exact q_iret hF hr rfl hlocks hU hS dX2_buyerShift_6 ⟨rfl, trivial⟩
set_option maxRecDepth 100000 in
theorem g_X2_listShops_v0 (u : qS) (x2 : Int32) (uc : qS) (hz8 : 0 ≤ u.1 8 ∧ u.1 8 ≤ 20) (hz9 : 0 ≤ u.1 9 ∧ u.1 9 ≤ 8) (hz10 : 0 ≤ u.1 10 ∧ u.1 10 ≤ 120) (hz12 : 0 ≤ u.1 12 ∧ u.1 12 ≤ 16) (h_k : 0 ≤ x2) (h_z : 0 ≤ (uc.1 204).toInt ∧ (uc.1 204).toInt ≤ 8) (h_g : g_rw (uc.2.1 203) (uc.1 204).toInt 0 (u.1 8).toInt) (c15_1 : (u.1 8) ≤ (x2 : Int32)) : (0 ≤ ((uc.1 204 : Int32)).toInt ∧ ((uc.1 204 : Int32)).toInt ≤ 8) ∧ g_rw ((uc.2.1 203)) ((uc.1 204 : Int32)).toInt 0 (u.1 8).toInt := by
  exact ⟨h_z, h_g⟩
set_option maxRecDepth 100000 in
theorem g_X2_listShops_v1 (u : qS) (x : Int32) (x2 : Int32) (uc : qS) (hz8 : 0 ≤ u.1 8 ∧ u.1 8 ≤ 20) (hz9 : 0 ≤ u.1 9 ∧ u.1 9 ≤ 8) (hz10 : 0 ≤ u.1 10 ∧ u.1 10 ≤ 120) (hz12 : 0 ≤ u.1 12 ∧ u.1 12 ≤ 16) (h_k : 0 ≤ x2) (h_z : 0 ≤ (uc.1 204).toInt ∧ (uc.1 204).toInt ≤ 8) (h_g : g_rw (uc.2.1 203) (uc.1 204).toInt 0 (u.1 8).toInt) (c15_1 : ¬ (u.1 8) ≤ (x2 : Int32)) (c24_2 : ¬ ((x >>> (x2 &&& 31)) &&& 1 : Int32) = 1) : 0 ≤ (x2 + 1) := by
  clear h_g; (try simp only [g_m1, Int32.lt_iff_toInt_lt, Int32.le_iff_toInt_le, ← Int32.toInt_inj, Int32.toInt_add, Int32.toInt_sub, Int32.toInt_mul, Int32.toInt_neg, Int32.reduceToInt, g_bm, g_bm'] at *); omega
set_option maxRecDepth 100000 in
theorem g_X2_listShops_v2 (u : qS) (x : Int32) (x2 : Int32) (uc : qS) (hz8 : 0 ≤ u.1 8 ∧ u.1 8 ≤ 20) (hz9 : 0 ≤ u.1 9 ∧ u.1 9 ≤ 8) (hz10 : 0 ≤ u.1 10 ∧ u.1 10 ≤ 120) (hz12 : 0 ≤ u.1 12 ∧ u.1 12 ≤ 16) (h_k : 0 ≤ x2) (h_z : 0 ≤ (uc.1 204).toInt ∧ (uc.1 204).toInt ≤ 8) (h_g : g_rw (uc.2.1 203) (uc.1 204).toInt 0 (u.1 8).toInt) (c15_1 : ¬ (u.1 8) ≤ (x2 : Int32)) (c24_2 : ¬ ((x >>> (x2 &&& 31)) &&& 1 : Int32) = 1) : 0 ≤ ((uc.1 204 : Int32)).toInt ∧ ((uc.1 204 : Int32)).toInt ≤ 8 := by
  first | exact h_z | (have qz := (g_up (i := uc.1 204) (by clear h_g; (try simp only [g_m1, Int32.lt_iff_toInt_lt, Int32.le_iff_toInt_le, ← Int32.toInt_inj, Int32.reduceToInt] at *); omega) (by clear h_g; (try simp only [g_m1, Int32.lt_iff_toInt_lt, Int32.le_iff_toInt_le, ← Int32.toInt_inj, Int32.reduceToInt] at *); omega)).1; clear h_g; (try simp only [g_m1, Int32.lt_iff_toInt_lt, Int32.le_iff_toInt_le, ← Int32.toInt_inj, Int32.reduceToInt] at *); omega)
set_option maxRecDepth 100000 in
theorem g_X2_listShops_v3 (u : qS) (x : Int32) (x2 : Int32) (uc : qS) (hz8 : 0 ≤ u.1 8 ∧ u.1 8 ≤ 20) (hz9 : 0 ≤ u.1 9 ∧ u.1 9 ≤ 8) (hz10 : 0 ≤ u.1 10 ∧ u.1 10 ≤ 120) (hz12 : 0 ≤ u.1 12 ∧ u.1 12 ≤ 16) (h_k : 0 ≤ x2) (h_z : 0 ≤ (uc.1 204).toInt ∧ (uc.1 204).toInt ≤ 8) (h_g : g_rw (uc.2.1 203) (uc.1 204).toInt 0 (u.1 8).toInt) (c15_1 : ¬ (u.1 8) ≤ (x2 : Int32)) (c24_2 : ¬ ((x >>> (x2 &&& 31)) &&& 1 : Int32) = 1) : g_rw ((uc.2.1 203)) ((uc.1 204 : Int32)).toInt 0 (u.1 8).toInt := by
  first | exact h_g | (have qz := (g_up (i := uc.1 204) (by clear h_g; (try simp only [g_m1, Int32.lt_iff_toInt_lt, Int32.le_iff_toInt_le, ← Int32.toInt_inj, Int32.reduceToInt] at *); omega) (by clear h_g; (try simp only [g_m1, Int32.lt_iff_toInt_lt, Int32.le_iff_toInt_le, ← Int32.toInt_inj, Int32.reduceToInt] at *); omega)).1; skip; (first | exact g_rw.put h_g (by first | rfl | omega | ((try simp only [g_m1, Int32.lt_iff_toInt_lt, Int32.le_iff_toInt_le, ← Int32.toInt_inj, Int32.reduceToInt] at *); omega) | ((try simp only [g_m1, Int32.lt_iff_toInt_lt, Int32.le_iff_toInt_le, ← Int32.toInt_inj, Int32.toInt_add, Int32.toInt_sub, Int32.toInt_mul, Int32.toInt_neg, Int32.reduceToInt, g_bm, g_bm'] at *); omega)) (by first | rfl | omega | ((try simp only [g_m1, Int32.lt_iff_toInt_lt, Int32.le_iff_toInt_le, ← Int32.toInt_inj, Int32.reduceToInt] at *); omega) | ((try simp only [g_m1, Int32.lt_iff_toInt_lt, Int32.le_iff_toInt_le, ← Int32.toInt_inj, Int32.toInt_add, Int32.toInt_sub, Int32.toInt_mul, Int32.toInt_neg, Int32.reduceToInt, g_bm, g_bm'] at *); omega)) (by first | rfl | omega | ((try simp only [g_m1, Int32.lt_iff_toInt_lt, Int32.le_iff_toInt_le, ← Int32.toInt_inj, Int32.reduceToInt] at *); omega) | ((try simp only [g_m1, Int32.lt_iff_toInt_lt, Int32.le_iff_toInt_le, ← Int32.toInt_inj, Int32.toInt_add, Int32.toInt_sub, Int32.toInt_mul, Int32.toInt_neg, Int32.reduceToInt, g_bm, g_bm'] at *); omega)) | exact g_rw.push h_g (by first | rfl | omega | ((try simp only [g_m1, Int32.lt_iff_toInt_lt, Int32.le_iff_toInt_le, ← Int32.toInt_inj, Int32.reduceToInt] at *); omega) | ((try simp only [g_m1, Int32.lt_iff_toInt_lt, Int32.le_iff_toInt_le, ← Int32.toInt_inj, Int32.toInt_add, Int32.toInt_sub, Int32.toInt_mul, Int32.toInt_neg, Int32.reduceToInt, g_bm, g_bm'] at *); omega)) (by first | rfl | omega | ((try simp only [g_m1, Int32.lt_iff_toInt_lt, Int32.le_iff_toInt_le, ← Int32.toInt_inj, Int32.reduceToInt] at *); omega) | ((try simp only [g_m1, Int32.lt_iff_toInt_lt, Int32.le_iff_toInt_le, ← Int32.toInt_inj, Int32.toInt_add, Int32.toInt_sub, Int32.toInt_mul, Int32.toInt_neg, Int32.reduceToInt, g_bm, g_bm'] at *); omega)) (by first | rfl | omega | ((try simp only [g_m1, Int32.lt_iff_toInt_lt, Int32.le_iff_toInt_le, ← Int32.toInt_inj, Int32.reduceToInt] at *); omega) | ((try simp only [g_m1, Int32.lt_iff_toInt_lt, Int32.le_iff_toInt_le, ← Int32.toInt_inj, Int32.toInt_add, Int32.toInt_sub, Int32.toInt_mul, Int32.toInt_neg, Int32.reduceToInt, g_bm, g_bm'] at *); omega)) (by first | rfl | omega | ((try simp only [g_m1, Int32.lt_iff_toInt_lt, Int32.le_iff_toInt_le, ← Int32.toInt_inj, Int32.reduceToInt] at *); omega) | ((try simp only [g_m1, Int32.lt_iff_toInt_lt, Int32.le_iff_toInt_le, ← Int32.toInt_inj, Int32.toInt_add, Int32.toInt_sub, Int32.toInt_mul, Int32.toInt_neg, Int32.reduceToInt, g_bm, g_bm'] at *); omega))))
set_option maxRecDepth 100000 in
theorem g_X2_listShops_v4 (u : qS) (x : Int32) (x2 : Int32) (uc : qS) (hz8 : 0 ≤ u.1 8 ∧ u.1 8 ≤ 20) (hz9 : 0 ≤ u.1 9 ∧ u.1 9 ≤ 8) (hz10 : 0 ≤ u.1 10 ∧ u.1 10 ≤ 120) (hz12 : 0 ≤ u.1 12 ∧ u.1 12 ≤ 16) (h_k : 0 ≤ x2) (h_z : 0 ≤ (uc.1 204).toInt ∧ (uc.1 204).toInt ≤ 8) (h_g : g_rw (uc.2.1 203) (uc.1 204).toInt 0 (u.1 8).toInt) (c15_1 : ¬ (u.1 8) ≤ (x2 : Int32)) (c24_2 : ¬ ((x >>> (x2 &&& 31)) &&& 1 : Int32) = 1) : ((u.1 8).toInt - (x2 + 1).toInt).toNat < ((u.1 8).toInt - x2.toInt).toNat := by
  clear h_g; (try simp only [g_m1, Int32.lt_iff_toInt_lt, Int32.le_iff_toInt_le, ← Int32.toInt_inj, Int32.toInt_add, Int32.toInt_sub, Int32.toInt_mul, Int32.toInt_neg, Int32.reduceToInt, g_bm, g_bm'] at *); omega
set_option maxRecDepth 100000 in
theorem g_X2_listShops_v5 (u : qS) (x : Int32) (x2 : Int32) (uc : qS) (hz8 : 0 ≤ u.1 8 ∧ u.1 8 ≤ 20) (hz9 : 0 ≤ u.1 9 ∧ u.1 9 ≤ 8) (hz10 : 0 ≤ u.1 10 ∧ u.1 10 ≤ 120) (hz12 : 0 ≤ u.1 12 ∧ u.1 12 ≤ 16) (h_k : 0 ≤ x2) (h_z : 0 ≤ (uc.1 204).toInt ∧ (uc.1 204).toInt ≤ 8) (h_g : g_rw (uc.2.1 203) (uc.1 204).toInt 0 (u.1 8).toInt) (c15_1 : ¬ (u.1 8) ≤ (x2 : Int32)) (c24_2 : ((x >>> (x2 &&& 31)) &&& 1 : Int32) = 1) (c33_3 : 8 ≤ (uc.1 204 : Int32)) : 0 ≤ (x2 + 1) := by
  clear h_g; (try simp only [g_m1, Int32.lt_iff_toInt_lt, Int32.le_iff_toInt_le, ← Int32.toInt_inj, Int32.toInt_add, Int32.toInt_sub, Int32.toInt_mul, Int32.toInt_neg, Int32.reduceToInt, g_bm, g_bm'] at *); omega
set_option maxRecDepth 100000 in
theorem g_X2_listShops_v6 (u : qS) (x : Int32) (x2 : Int32) (uc : qS) (hz8 : 0 ≤ u.1 8 ∧ u.1 8 ≤ 20) (hz9 : 0 ≤ u.1 9 ∧ u.1 9 ≤ 8) (hz10 : 0 ≤ u.1 10 ∧ u.1 10 ≤ 120) (hz12 : 0 ≤ u.1 12 ∧ u.1 12 ≤ 16) (h_k : 0 ≤ x2) (h_z : 0 ≤ (uc.1 204).toInt ∧ (uc.1 204).toInt ≤ 8) (h_g : g_rw (uc.2.1 203) (uc.1 204).toInt 0 (u.1 8).toInt) (c15_1 : ¬ (u.1 8) ≤ (x2 : Int32)) (c24_2 : ((x >>> (x2 &&& 31)) &&& 1 : Int32) = 1) (c33_3 : 8 ≤ (uc.1 204 : Int32)) : 0 ≤ ((uc.1 204 : Int32)).toInt ∧ ((uc.1 204 : Int32)).toInt ≤ 8 := by
  first | exact h_z | (have qz := (g_up (i := uc.1 204) (by clear h_g; (try simp only [g_m1, Int32.lt_iff_toInt_lt, Int32.le_iff_toInt_le, ← Int32.toInt_inj, Int32.reduceToInt] at *); omega) (by clear h_g; (try simp only [g_m1, Int32.lt_iff_toInt_lt, Int32.le_iff_toInt_le, ← Int32.toInt_inj, Int32.reduceToInt] at *); omega)).1; clear h_g; (try simp only [g_m1, Int32.lt_iff_toInt_lt, Int32.le_iff_toInt_le, ← Int32.toInt_inj, Int32.reduceToInt] at *); omega)
set_option maxRecDepth 100000 in
theorem g_X2_listShops_v7 (u : qS) (x : Int32) (x2 : Int32) (uc : qS) (hz8 : 0 ≤ u.1 8 ∧ u.1 8 ≤ 20) (hz9 : 0 ≤ u.1 9 ∧ u.1 9 ≤ 8) (hz10 : 0 ≤ u.1 10 ∧ u.1 10 ≤ 120) (hz12 : 0 ≤ u.1 12 ∧ u.1 12 ≤ 16) (h_k : 0 ≤ x2) (h_z : 0 ≤ (uc.1 204).toInt ∧ (uc.1 204).toInt ≤ 8) (h_g : g_rw (uc.2.1 203) (uc.1 204).toInt 0 (u.1 8).toInt) (c15_1 : ¬ (u.1 8) ≤ (x2 : Int32)) (c24_2 : ((x >>> (x2 &&& 31)) &&& 1 : Int32) = 1) (c33_3 : 8 ≤ (uc.1 204 : Int32)) : g_rw ((uc.2.1 203)) ((uc.1 204 : Int32)).toInt 0 (u.1 8).toInt := by
  first | exact h_g | (have qz := (g_up (i := uc.1 204) (by clear h_g; (try simp only [g_m1, Int32.lt_iff_toInt_lt, Int32.le_iff_toInt_le, ← Int32.toInt_inj, Int32.reduceToInt] at *); omega) (by clear h_g; (try simp only [g_m1, Int32.lt_iff_toInt_lt, Int32.le_iff_toInt_le, ← Int32.toInt_inj, Int32.reduceToInt] at *); omega)).1; skip; (first | exact g_rw.put h_g (by first | rfl | omega | ((try simp only [g_m1, Int32.lt_iff_toInt_lt, Int32.le_iff_toInt_le, ← Int32.toInt_inj, Int32.reduceToInt] at *); omega) | ((try simp only [g_m1, Int32.lt_iff_toInt_lt, Int32.le_iff_toInt_le, ← Int32.toInt_inj, Int32.toInt_add, Int32.toInt_sub, Int32.toInt_mul, Int32.toInt_neg, Int32.reduceToInt, g_bm, g_bm'] at *); omega)) (by first | rfl | omega | ((try simp only [g_m1, Int32.lt_iff_toInt_lt, Int32.le_iff_toInt_le, ← Int32.toInt_inj, Int32.reduceToInt] at *); omega) | ((try simp only [g_m1, Int32.lt_iff_toInt_lt, Int32.le_iff_toInt_le, ← Int32.toInt_inj, Int32.toInt_add, Int32.toInt_sub, Int32.toInt_mul, Int32.toInt_neg, Int32.reduceToInt, g_bm, g_bm'] at *); omega)) (by first | rfl | omega | ((try simp only [g_m1, Int32.lt_iff_toInt_lt, Int32.le_iff_toInt_le, ← Int32.toInt_inj, Int32.reduceToInt] at *); omega) | ((try simp only [g_m1, Int32.lt_iff_toInt_lt, Int32.le_iff_toInt_le, ← Int32.toInt_inj, Int32.toInt_add, Int32.toInt_sub, Int32.toInt_mul, Int32.toInt_neg, Int32.reduceToInt, g_bm, g_bm'] at *); omega)) | exact g_rw.push h_g (by first | rfl | omega | ((try simp only [g_m1, Int32.lt_iff_toInt_lt, Int32.le_iff_toInt_le, ← Int32.toInt_inj, Int32.reduceToInt] at *); omega) | ((try simp only [g_m1, Int32.lt_iff_toInt_lt, Int32.le_iff_toInt_le, ← Int32.toInt_inj, Int32.toInt_add, Int32.toInt_sub, Int32.toInt_mul, Int32.toInt_neg, Int32.reduceToInt, g_bm, g_bm'] at *); omega)) (by first | rfl | omega | ((try simp only [g_m1, Int32.lt_iff_toInt_lt, Int32.le_iff_toInt_le, ← Int32.toInt_inj, Int32.reduceToInt] at *); omega) | ((try simp only [g_m1, Int32.lt_iff_toInt_lt, Int32.le_iff_toInt_le, ← Int32.toInt_inj, Int32.toInt_add, Int32.toInt_sub, Int32.toInt_mul, Int32.toInt_neg, Int32.reduceToInt, g_bm, g_bm'] at *); omega)) (by first | rfl | omega | ((try simp only [g_m1, Int32.lt_iff_toInt_lt, Int32.le_iff_toInt_le, ← Int32.toInt_inj, Int32.reduceToInt] at *); omega) | ((try simp only [g_m1, Int32.lt_iff_toInt_lt, Int32.le_iff_toInt_le, ← Int32.toInt_inj, Int32.toInt_add, Int32.toInt_sub, Int32.toInt_mul, Int32.toInt_neg, Int32.reduceToInt, g_bm, g_bm'] at *); omega)) (by first | rfl | omega | ((try simp only [g_m1, Int32.lt_iff_toInt_lt, Int32.le_iff_toInt_le, ← Int32.toInt_inj, Int32.reduceToInt] at *); omega) | ((try simp only [g_m1, Int32.lt_iff_toInt_lt, Int32.le_iff_toInt_le, ← Int32.toInt_inj, Int32.toInt_add, Int32.toInt_sub, Int32.toInt_mul, Int32.toInt_neg, Int32.reduceToInt, g_bm, g_bm'] at *); omega))))
set_option maxRecDepth 100000 in
theorem g_X2_listShops_v8 (u : qS) (x : Int32) (x2 : Int32) (uc : qS) (hz8 : 0 ≤ u.1 8 ∧ u.1 8 ≤ 20) (hz9 : 0 ≤ u.1 9 ∧ u.1 9 ≤ 8) (hz10 : 0 ≤ u.1 10 ∧ u.1 10 ≤ 120) (hz12 : 0 ≤ u.1 12 ∧ u.1 12 ≤ 16) (h_k : 0 ≤ x2) (h_z : 0 ≤ (uc.1 204).toInt ∧ (uc.1 204).toInt ≤ 8) (h_g : g_rw (uc.2.1 203) (uc.1 204).toInt 0 (u.1 8).toInt) (c15_1 : ¬ (u.1 8) ≤ (x2 : Int32)) (c24_2 : ((x >>> (x2 &&& 31)) &&& 1 : Int32) = 1) (c33_3 : 8 ≤ (uc.1 204 : Int32)) : ((u.1 8).toInt - (x2 + 1).toInt).toNat < ((u.1 8).toInt - x2.toInt).toNat := by
  clear h_g; (try simp only [g_m1, Int32.lt_iff_toInt_lt, Int32.le_iff_toInt_le, ← Int32.toInt_inj, Int32.toInt_add, Int32.toInt_sub, Int32.toInt_mul, Int32.toInt_neg, Int32.reduceToInt, g_bm, g_bm'] at *); omega
set_option maxRecDepth 100000 in
theorem g_X2_listShops_v9 (u : qS) (x : Int32) (x2 : Int32) (uc : qS) (hz8 : 0 ≤ u.1 8 ∧ u.1 8 ≤ 20) (hz9 : 0 ≤ u.1 9 ∧ u.1 9 ≤ 8) (hz10 : 0 ≤ u.1 10 ∧ u.1 10 ≤ 120) (hz12 : 0 ≤ u.1 12 ∧ u.1 12 ≤ 16) (h_k : 0 ≤ x2) (h_z : 0 ≤ (uc.1 204).toInt ∧ (uc.1 204).toInt ≤ 8) (h_g : g_rw (uc.2.1 203) (uc.1 204).toInt 0 (u.1 8).toInt) (c15_1 : ¬ (u.1 8) ≤ (x2 : Int32)) (c24_2 : ((x >>> (x2 &&& 31)) &&& 1 : Int32) = 1) (c33_3 : ¬ 8 ≤ (uc.1 204 : Int32)) : vp_in (uc.1 204) 8 := by
  clear h_g; refine g_in ?_ ?_ <;> ((try simp only [g_m1, Int32.lt_iff_toInt_lt, Int32.le_iff_toInt_le, ← Int32.toInt_inj, Int32.reduceToInt] at *); omega)
set_option maxRecDepth 100000 in
theorem g_X2_listShops_v10 (u : qS) (x : Int32) (x2 : Int32) (uc : qS) (f_4 : Nat → Int32) (hz8 : 0 ≤ u.1 8 ∧ u.1 8 ≤ 20) (hz9 : 0 ≤ u.1 9 ∧ u.1 9 ≤ 8) (hz10 : 0 ≤ u.1 10 ∧ u.1 10 ≤ 120) (hz12 : 0 ≤ u.1 12 ∧ u.1 12 ≤ 16) (h_k : 0 ≤ x2) (h_z : 0 ≤ (uc.1 204).toInt ∧ (uc.1 204).toInt ≤ 8) (h_g : g_rw (uc.2.1 203) (uc.1 204).toInt 0 (u.1 8).toInt) (c15_1 : ¬ (u.1 8) ≤ (x2 : Int32)) (c24_2 : ((x >>> (x2 &&& 31)) &&& 1 : Int32) = 1) (c33_3 : ¬ 8 ≤ (uc.1 204 : Int32)) (hf_4 : f_4 = upd (uc.2.1 203) (uc.1 204 : Int32).toNatClampNeg x2) : 0 ≤ (x2 + 1) := by
  clear h_g; (try simp only [g_m1, Int32.lt_iff_toInt_lt, Int32.le_iff_toInt_le, ← Int32.toInt_inj, Int32.toInt_add, Int32.toInt_sub, Int32.toInt_mul, Int32.toInt_neg, Int32.reduceToInt, g_bm, g_bm'] at *); omega
set_option maxRecDepth 100000 in
theorem g_X2_listShops_v11 (u : qS) (x : Int32) (x2 : Int32) (uc : qS) (f_4 : Nat → Int32) (hz8 : 0 ≤ u.1 8 ∧ u.1 8 ≤ 20) (hz9 : 0 ≤ u.1 9 ∧ u.1 9 ≤ 8) (hz10 : 0 ≤ u.1 10 ∧ u.1 10 ≤ 120) (hz12 : 0 ≤ u.1 12 ∧ u.1 12 ≤ 16) (h_k : 0 ≤ x2) (h_z : 0 ≤ (uc.1 204).toInt ∧ (uc.1 204).toInt ≤ 8) (h_g : g_rw (uc.2.1 203) (uc.1 204).toInt 0 (u.1 8).toInt) (c15_1 : ¬ (u.1 8) ≤ (x2 : Int32)) (c24_2 : ((x >>> (x2 &&& 31)) &&& 1 : Int32) = 1) (c33_3 : ¬ 8 ≤ (uc.1 204 : Int32)) (hf_4 : f_4 = upd (uc.2.1 203) (uc.1 204 : Int32).toNatClampNeg x2) : 0 ≤ (((uc.1 204) + 1 : Int32)).toInt ∧ (((uc.1 204) + 1 : Int32)).toInt ≤ 8 := by
  first | exact h_z | (have qz := (g_up (i := uc.1 204) (by clear h_g; (try simp only [g_m1, Int32.lt_iff_toInt_lt, Int32.le_iff_toInt_le, ← Int32.toInt_inj, Int32.reduceToInt] at *); omega) (by clear h_g; (try simp only [g_m1, Int32.lt_iff_toInt_lt, Int32.le_iff_toInt_le, ← Int32.toInt_inj, Int32.reduceToInt] at *); omega)).1; clear h_g; (try simp only [g_m1, Int32.lt_iff_toInt_lt, Int32.le_iff_toInt_le, ← Int32.toInt_inj, Int32.reduceToInt] at *); omega)
set_option maxRecDepth 100000 in
theorem g_X2_listShops_v12 (u : qS) (x : Int32) (x2 : Int32) (uc : qS) (f_4 : Nat → Int32) (hz8 : 0 ≤ u.1 8 ∧ u.1 8 ≤ 20) (hz9 : 0 ≤ u.1 9 ∧ u.1 9 ≤ 8) (hz10 : 0 ≤ u.1 10 ∧ u.1 10 ≤ 120) (hz12 : 0 ≤ u.1 12 ∧ u.1 12 ≤ 16) (h_k : 0 ≤ x2) (h_z : 0 ≤ (uc.1 204).toInt ∧ (uc.1 204).toInt ≤ 8) (h_g : g_rw (uc.2.1 203) (uc.1 204).toInt 0 (u.1 8).toInt) (c15_1 : ¬ (u.1 8) ≤ (x2 : Int32)) (c24_2 : ((x >>> (x2 &&& 31)) &&& 1 : Int32) = 1) (c33_3 : ¬ 8 ≤ (uc.1 204 : Int32)) (hf_4 : f_4 = upd (uc.2.1 203) (uc.1 204 : Int32).toNatClampNeg x2) : g_rw (f_4) (((uc.1 204) + 1 : Int32)).toInt 0 (u.1 8).toInt := by
  first | exact h_g | (have qz := (g_up (i := uc.1 204) (by clear h_g; (try simp only [g_m1, Int32.lt_iff_toInt_lt, Int32.le_iff_toInt_le, ← Int32.toInt_inj, Int32.reduceToInt] at *); omega) (by clear h_g; (try simp only [g_m1, Int32.lt_iff_toInt_lt, Int32.le_iff_toInt_le, ← Int32.toInt_inj, Int32.reduceToInt] at *); omega)).1; subst hf_4; (first | exact g_rw.put h_g (by first | rfl | omega | ((try simp only [g_m1, Int32.lt_iff_toInt_lt, Int32.le_iff_toInt_le, ← Int32.toInt_inj, Int32.reduceToInt] at *); omega) | ((try simp only [g_m1, Int32.lt_iff_toInt_lt, Int32.le_iff_toInt_le, ← Int32.toInt_inj, Int32.toInt_add, Int32.toInt_sub, Int32.toInt_mul, Int32.toInt_neg, Int32.reduceToInt, g_bm, g_bm'] at *); omega)) (by first | rfl | omega | ((try simp only [g_m1, Int32.lt_iff_toInt_lt, Int32.le_iff_toInt_le, ← Int32.toInt_inj, Int32.reduceToInt] at *); omega) | ((try simp only [g_m1, Int32.lt_iff_toInt_lt, Int32.le_iff_toInt_le, ← Int32.toInt_inj, Int32.toInt_add, Int32.toInt_sub, Int32.toInt_mul, Int32.toInt_neg, Int32.reduceToInt, g_bm, g_bm'] at *); omega)) (by first | rfl | omega | ((try simp only [g_m1, Int32.lt_iff_toInt_lt, Int32.le_iff_toInt_le, ← Int32.toInt_inj, Int32.reduceToInt] at *); omega) | ((try simp only [g_m1, Int32.lt_iff_toInt_lt, Int32.le_iff_toInt_le, ← Int32.toInt_inj, Int32.toInt_add, Int32.toInt_sub, Int32.toInt_mul, Int32.toInt_neg, Int32.reduceToInt, g_bm, g_bm'] at *); omega)) | exact g_rw.push h_g (by first | rfl | omega | ((try simp only [g_m1, Int32.lt_iff_toInt_lt, Int32.le_iff_toInt_le, ← Int32.toInt_inj, Int32.reduceToInt] at *); omega) | ((try simp only [g_m1, Int32.lt_iff_toInt_lt, Int32.le_iff_toInt_le, ← Int32.toInt_inj, Int32.toInt_add, Int32.toInt_sub, Int32.toInt_mul, Int32.toInt_neg, Int32.reduceToInt, g_bm, g_bm'] at *); omega)) (by first | rfl | omega | ((try simp only [g_m1, Int32.lt_iff_toInt_lt, Int32.le_iff_toInt_le, ← Int32.toInt_inj, Int32.reduceToInt] at *); omega) | ((try simp only [g_m1, Int32.lt_iff_toInt_lt, Int32.le_iff_toInt_le, ← Int32.toInt_inj, Int32.toInt_add, Int32.toInt_sub, Int32.toInt_mul, Int32.toInt_neg, Int32.reduceToInt, g_bm, g_bm'] at *); omega)) (by first | rfl | omega | ((try simp only [g_m1, Int32.lt_iff_toInt_lt, Int32.le_iff_toInt_le, ← Int32.toInt_inj, Int32.reduceToInt] at *); omega) | ((try simp only [g_m1, Int32.lt_iff_toInt_lt, Int32.le_iff_toInt_le, ← Int32.toInt_inj, Int32.toInt_add, Int32.toInt_sub, Int32.toInt_mul, Int32.toInt_neg, Int32.reduceToInt, g_bm, g_bm'] at *); omega)) (by first | rfl | omega | ((try simp only [g_m1, Int32.lt_iff_toInt_lt, Int32.le_iff_toInt_le, ← Int32.toInt_inj, Int32.reduceToInt] at *); omega) | ((try simp only [g_m1, Int32.lt_iff_toInt_lt, Int32.le_iff_toInt_le, ← Int32.toInt_inj, Int32.toInt_add, Int32.toInt_sub, Int32.toInt_mul, Int32.toInt_neg, Int32.reduceToInt, g_bm, g_bm'] at *); omega))))
set_option maxRecDepth 100000 in
theorem g_X2_listShops_v13 (u : qS) (x : Int32) (x2 : Int32) (uc : qS) (f_4 : Nat → Int32) (hz8 : 0 ≤ u.1 8 ∧ u.1 8 ≤ 20) (hz9 : 0 ≤ u.1 9 ∧ u.1 9 ≤ 8) (hz10 : 0 ≤ u.1 10 ∧ u.1 10 ≤ 120) (hz12 : 0 ≤ u.1 12 ∧ u.1 12 ≤ 16) (h_k : 0 ≤ x2) (h_z : 0 ≤ (uc.1 204).toInt ∧ (uc.1 204).toInt ≤ 8) (h_g : g_rw (uc.2.1 203) (uc.1 204).toInt 0 (u.1 8).toInt) (c15_1 : ¬ (u.1 8) ≤ (x2 : Int32)) (c24_2 : ((x >>> (x2 &&& 31)) &&& 1 : Int32) = 1) (c33_3 : ¬ 8 ≤ (uc.1 204 : Int32)) (hf_4 : f_4 = upd (uc.2.1 203) (uc.1 204 : Int32).toNatClampNeg x2) : ((u.1 8).toInt - (x2 + 1).toInt).toNat < ((u.1 8).toInt - x2.toInt).toNat := by
  clear h_g; (try simp only [g_m1, Int32.lt_iff_toInt_lt, Int32.le_iff_toInt_le, ← Int32.toInt_inj, Int32.toInt_add, Int32.toInt_sub, Int32.toInt_mul, Int32.toInt_neg, Int32.reduceToInt, g_bm, g_bm'] at *); omega
set_option maxRecDepth 100000 in
theorem g_X2_listShops_v14 (u : qS) (x : Int32) (hz8 : 0 ≤ u.1 8 ∧ u.1 8 ≤ 20) (hz9 : 0 ≤ u.1 9 ∧ u.1 9 ≤ 8) (hz10 : 0 ≤ u.1 10 ∧ u.1 10 ≤ 120) (hz12 : 0 ≤ u.1 12 ∧ u.1 12 ≤ 16) : 0 ≤ (0 : Int32) := by
  first | omega | ((try simp only [g_m1, Int32.lt_iff_toInt_lt, Int32.le_iff_toInt_le, ← Int32.toInt_inj, Int32.reduceToInt] at *); omega) | ((try simp only [g_m1, Int32.lt_iff_toInt_lt, Int32.le_iff_toInt_le, ← Int32.toInt_inj, Int32.reduceToInt] at *); omega) | ((try simp only [g_m1, Int32.lt_iff_toInt_lt, Int32.le_iff_toInt_le, ← Int32.toInt_inj, Int32.toInt_add, Int32.toInt_sub, Int32.toInt_mul, Int32.toInt_neg, Int32.reduceToInt, g_bm, g_bm'] at *); omega) | (have qr1 := g_rng x; (try simp only [g_m1, Int32.lt_iff_toInt_lt, Int32.le_iff_toInt_le, ← Int32.toInt_inj, Int32.toInt_add, Int32.toInt_sub, Int32.toInt_mul, Int32.toInt_neg, Int32.reduceToInt, g_bm, g_bm'] at *); omega) | (simp only [g_m1, Int32.lt_iff_toInt_lt, Int32.le_iff_toInt_le, ← Int32.toInt_inj, Int32.toInt_add, Int32.toInt_sub, Int32.toInt_mul, Int32.toInt_neg, Int32.reduceToInt, g_bm, g_bm'] at *; simp at *; omega) | (simp_all; done)
set_option maxRecDepth 100000 in
theorem g_X2_listShops_v15 (u : qS) (x : Int32) (hz8 : 0 ≤ u.1 8 ∧ u.1 8 ≤ 20) (hz9 : 0 ≤ u.1 9 ∧ u.1 9 ≤ 8) (hz10 : 0 ≤ u.1 10 ∧ u.1 10 ≤ 120) (hz12 : 0 ≤ u.1 12 ∧ u.1 12 ≤ 16) : 0 ≤ ((0 : Int32)).toInt ∧ ((0 : Int32)).toInt ≤ 8 := by
  first | omega | ((try simp only [g_m1, Int32.lt_iff_toInt_lt, Int32.le_iff_toInt_le, ← Int32.toInt_inj, Int32.reduceToInt] at *); omega) | ((try simp only [g_m1, Int32.lt_iff_toInt_lt, Int32.le_iff_toInt_le, ← Int32.toInt_inj, Int32.reduceToInt] at *); omega) | ((try simp only [g_m1, Int32.lt_iff_toInt_lt, Int32.le_iff_toInt_le, ← Int32.toInt_inj, Int32.toInt_add, Int32.toInt_sub, Int32.toInt_mul, Int32.toInt_neg, Int32.reduceToInt, g_bm, g_bm'] at *); omega) | (have qr1 := g_rng x; (try simp only [g_m1, Int32.lt_iff_toInt_lt, Int32.le_iff_toInt_le, ← Int32.toInt_inj, Int32.toInt_add, Int32.toInt_sub, Int32.toInt_mul, Int32.toInt_neg, Int32.reduceToInt, g_bm, g_bm'] at *); omega) | (simp only [g_m1, Int32.lt_iff_toInt_lt, Int32.le_iff_toInt_le, ← Int32.toInt_inj, Int32.toInt_add, Int32.toInt_sub, Int32.toInt_mul, Int32.toInt_neg, Int32.reduceToInt, g_bm, g_bm'] at *; simp at *; omega) | (simp_all; done)
set_option maxRecDepth 100000 in
theorem g_X2_listShops_v16 (u : qS) (hz8 : 0 ≤ u.1 8 ∧ u.1 8 ≤ 20) (hz9 : 0 ≤ u.1 9 ∧ u.1 9 ≤ 8) (hz10 : 0 ≤ u.1 10 ∧ u.1 10 ≤ 120) (hz12 : 0 ≤ u.1 12 ∧ u.1 12 ≤ 16) : g_rw ((u.2.1 203)) ((0 : Int32)).toInt 0 (u.1 8).toInt := by
  exact g_rw.none (by decide)
set_option maxHeartbeats 1000000 in
set_option maxRecDepth 100000 in
theorem g_X2_listShops (l : Launch) (E : qE) (A : Nat → Prop) (u : qS) (x : Int32) (hI : IC E u) : Met l yX2_listShops (uws yX2_listShops cX2_listShops 3 none) (qR 0 0 0) (qPc E A 0 u [.ref (E.2.2 299), .int x]) (qQv E A 0 (fun u1 => (qFc [204] [203] [] [] u u1 ∧ IC E u1 ∧ u1.2.2.2.2 = u.2.2.2.2) ∧ ((0 ≤ (u1.1 204).toInt ∧ (u1.1 204).toInt ≤ 8) ∧ g_rw (u1.2.1 203) (u1.1 204).toInt 0 (u.1 8).toInt))) 0 0 A := by
  refine q_met (own := RX2) (f := 0) [.ref (E.2.2 299), .int x] (by decide) (Nat.le_of_ble_eq_true rfl) rfl ?_
  intro p0 e0 s0 m0 bl0 me0 cd0 ls hF hr hlocks hU hS hA hl
  have hl : lv_has ls 3 [(0, .ref (E.2.2 299)), (1, .int x)] := hl
  have hkd : u.2.2.2.2 = u.2.2.2.2 := rfl
  have hz8 : 0 ≤ u.1 8 ∧ u.1 8 ≤ 20 := hI.1.s8
  have hz9 : 0 ≤ u.1 9 ∧ u.1 9 ≤ 8 := hI.1.s9
  have hz10 : 0 ≤ u.1 10 ∧ u.1 10 ≤ 120 := hI.1.s10
  have hz12 : 0 ≤ u.1 12 ∧ u.1 12 ≤ 16 := hI.1.s12
  have hfr : qFc [204] [203] [] [] u u := qFc.rf
  have main : ∀ n : Nat, (∀ (x2 : Int32) (uc : qS) (H : Heap) (locs : List Loc) (ls : Array Slot) (hfr : qFc [204] [203] [] [] u uc) (hI : IC E uc) (hkd : uc.2.2.2.2 = u.2.2.2.2) (h_k : 0 ≤ x2) (h_z : 0 ≤ (uc.1 204).toInt ∧ (uc.1 204).toInt ≤ 8) (h_g : g_rw (uc.2.1 203) (uc.1 204).toInt 0 (u.1 8).toInt), ((u.1 8).toInt - x2.toInt).toNat < n → qH E A 0 uc s0 H → va_S A s0.heap H locs → lv_has ls 3 [(0, .ref (E.2.2 299)), (1, .int x), (2, .int x2)] → W p0 l e0 (qR 0 0 0) s0 m0 ([.ref (E.2.2 299), .int x] : List Value).toArray bl0 me0 cd0 H locs 0 0 (MQ bl0 (qQv E A 0 (fun u1 => (qFc [204] [203] [] [] u u1 ∧ IC E u1 ∧ u1.2.2.2.2 = u.2.2.2.2) ∧ ((0 ≤ (u1.1 204).toInt ∧ (u1.1 204).toInt ≤ 8) ∧ g_rw (u1.2.1 203) (u1.1 204).toInt 0 (u.1 8).toInt))) ([.ref (E.2.2 299), .int x] : List Value).toArray s0 0 0 A) (F0 m0 7 ls [])) := by
    clear hI hfr hkd
    intro n
    induction n with
    | zero => exact fun _ _ _ _ _ _ _ _ _ _ _ hmu => absurd hmu (Nat.not_lt_zero _)
    | succ n ih =>
      intro x2 uc H locs ls hfr hI hkd h_k h_z h_g hmu hU hS hl
      refine lv_iload_n hF.1 hF.2.1 dX2_listShops_7 rfl (lv_at hl 2 rfl) ?_
      refine lv_aload_n hF.1 hF.2.1 dX2_listShops_8 rfl (lv_at hl 0 rfl) ?_
      refine q_get (v := .ref (E.2.2 99)) hF hU dX2_listShops_9 7 2 0 200 299 rfl rfl rfl rfl inX2 (by decide) (by decide) w_420 rfl rfl ?_
      refine q_get (v := .int (u.1 8)) hF hU dX2_listShops_12 1 0 8 8 99 rfl rfl rfl rfl inX0 (by decide) (by decide) w_163 rfl (congrArg Value.int (hfr.1 8 (by decide))) ?_
      refine lv_icmp_ge (tgt := 62) hF.1 hF.2.1 dX2_listShops_15 (by decide) (fun c15_1 => ?_) (fun c15_1 => ?_)
      · exact q_vret hF hr hlocks hU hS dX2_listShops_62 ⟨⟨hfr, hI, hkd⟩, (g_X2_listShops_v0 u x2 uc hz8 hz9 hz10 hz12 h_k h_z h_g c15_1)⟩
      · refine lv_iload_n hF.1 hF.2.1 dX2_listShops_18 rfl (lv_at hl 1 rfl) ?_
        refine lv_iload_n hF.1 hF.2.1 dX2_listShops_19 rfl (lv_at hl 2 rfl) ?_
        refine lv_ishr hF.1 hF.2.1 dX2_listShops_20 ?_
        refine lv_iconst (v := 1) hF.1 hF.2.1 dX2_listShops_21 (by decide) ?_
        refine lv_iand hF.1 hF.2.1 dX2_listShops_22 ?_
        refine lv_iconst (v := 1) hF.1 hF.2.1 dX2_listShops_23 (by decide) ?_
        refine lv_icmp_ne (tgt := 56) hF.1 hF.2.1 dX2_listShops_24 (by decide) (fun c24_2 => ?_) (fun c24_2 => ?_)
        · refine lv_iinc (v := x2 + 1) (lv' := [(2, .int (x2 + 1)), (0, .ref (E.2.2 299)), (1, .int x)]) hF.1 hF.2.1 dX2_listShops_56 hl (k := 2) rfl rfl (by decide) rfl (fun ls hl => ?_)
          refine lv_goto (tgt := 7) hF.1 hF.2.1 dX2_listShops_59 (by decide) ?_
          exact ih (x2 + 1) uc _ _ _ hfr hI hkd  (g_X2_listShops_v1 u x x2 uc hz8 hz9 hz10 hz12 h_k h_z h_g c15_1 c24_2) (g_X2_listShops_v2 u x x2 uc hz8 hz9 hz10 hz12 h_k h_z h_g c15_1 c24_2) (g_X2_listShops_v3 u x x2 uc hz8 hz9 hz10 hz12 h_k h_z h_g c15_1 c24_2) (Nat.lt_of_lt_of_le (g_X2_listShops_v4 u x x2 uc hz8 hz9 hz10 hz12 h_k h_z h_g c15_1 c24_2) (Nat.lt_succ_iff.mp hmu)) hU hS (lv_sub hl [1, 2, 0] rfl)
        · refine lv_aload_n hF.1 hF.2.1 dX2_listShops_27 rfl (lv_at hl 0 rfl) ?_
          refine q_get (v := .int (uc.1 204)) hF hU dX2_listShops_28 7 2 4 204 299 rfl rfl rfl rfl inX2 (by decide) (by decide) w_424 rfl rfl ?_
          refine lv_bipush (v := 8) hF.1 hF.2.1 dX2_listShops_31 (by decide) ?_
          refine lv_icmp_ge (tgt := 56) hF.1 hF.2.1 dX2_listShops_33 (by decide) (fun c33_3 => ?_) (fun c33_3 => ?_)
          · refine lv_iinc (v := x2 + 1) (lv' := [(2, .int (x2 + 1)), (0, .ref (E.2.2 299)), (1, .int x)]) hF.1 hF.2.1 dX2_listShops_56 hl (k := 2) rfl rfl (by decide) rfl (fun ls hl => ?_)
            refine lv_goto (tgt := 7) hF.1 hF.2.1 dX2_listShops_59 (by decide) ?_
            exact ih (x2 + 1) uc _ _ _ hfr hI hkd  (g_X2_listShops_v5 u x x2 uc hz8 hz9 hz10 hz12 h_k h_z h_g c15_1 c24_2 c33_3) (g_X2_listShops_v6 u x x2 uc hz8 hz9 hz10 hz12 h_k h_z h_g c15_1 c24_2 c33_3) (g_X2_listShops_v7 u x x2 uc hz8 hz9 hz10 hz12 h_k h_z h_g c15_1 c24_2 c33_3) (Nat.lt_of_lt_of_le (g_X2_listShops_v8 u x x2 uc hz8 hz9 hz10 hz12 h_k h_z h_g c15_1 c24_2 c33_3) (Nat.lt_succ_iff.mp hmu)) hU hS (lv_sub hl [1, 2, 0] rfl)
          · refine lv_aload_n hF.1 hF.2.1 dX2_listShops_36 rfl (lv_at hl 0 rfl) ?_
            refine q_get (v := .ref (E.2.2 203)) hF hU dX2_listShops_37 7 2 3 203 299 rfl rfl rfl rfl inX2 (by decide) (by decide) w_423 rfl rfl ?_
            refine lv_aload_n hF.1 hF.2.1 dX2_listShops_40 rfl (lv_at hl 0 rfl) ?_
            refine q_get (v := .int (uc.1 204)) hF hU dX2_listShops_41 7 2 4 204 299 rfl rfl rfl rfl inX2 (by decide) (by decide) w_424 rfl rfl ?_
            refine lv_iload_n hF.1 hF.2.1 dX2_listShops_44 rfl (lv_at hl 2 rfl) ?_
            refine q_iast hF hU hS dX2_listShops_45 27 203 rfl rfl (g_X2_listShops_v9 u x x2 uc hz8 hz9 hz10 hz12 h_k h_z h_g c15_1 c24_2 c33_3) (fun f_4 H locs hg9 hU hS => ?_)
            have hf_4 : f_4 = upd (uc.2.1 203) (uc.1 204 : Int32).toNatClampNeg x2 := hg9
            have hfr : qFc [204] [203] [] [] u (qsF uc 203 f_4) := hfr.setF (by decide)
            have hI : IC E (qsF uc 203 f_4) := hI.sF (by decide)
            refine lv_aload_n hF.1 hF.2.1 dX2_listShops_46 rfl (lv_at hl 0 rfl) ?_
            refine lv_dup hF.1 hF.2.1 dX2_listShops_47 rfl ?_
            refine q_get (v := .int (uc.1 204)) hF hU dX2_listShops_48 7 2 4 204 299 rfl rfl rfl rfl inX2 (by decide) (by decide) w_424 rfl rfl ?_
            refine lv_iconst (v := 1) hF.1 hF.2.1 dX2_listShops_51 (by decide) ?_
            refine lv_iadd hF.1 hF.2.1 dX2_listShops_52 ?_
            refine q_put hF hU hS dX2_listShops_53 7 2 4 204 299 rfl rfl rfl rfl inX2 tyX2 tyX2_ok nmX2 (by decide) (by decide) rfl w_424 rfl rfl rfl rfl (fun H locs hU hS => ?_)
            have hfr : qFc [204] [203] [] [] u (qsI (qsF uc 203 f_4) 204 ((uc.1 204) + 1)) := hfr.setI (by decide) (fun q => absurd q (by decide))
            have hI : IC E (qsI (qsF uc 203 f_4) 204 ((uc.1 204) + 1)) := hI.sI (by decide)
            refine lv_iinc (v := x2 + 1) (lv' := [(2, .int (x2 + 1)), (0, .ref (E.2.2 299)), (1, .int x)]) hF.1 hF.2.1 dX2_listShops_56 hl (k := 2) rfl rfl (by decide) rfl (fun ls hl => ?_)
            refine lv_goto (tgt := 7) hF.1 hF.2.1 dX2_listShops_59 (by decide) ?_
            exact ih (x2 + 1) (qsI (qsF uc 203 f_4) 204 ((uc.1 204) + 1)) _ _ _ hfr hI hkd  (g_X2_listShops_v10 u x x2 uc f_4 hz8 hz9 hz10 hz12 h_k h_z h_g c15_1 c24_2 c33_3 hf_4) (g_X2_listShops_v11 u x x2 uc f_4 hz8 hz9 hz10 hz12 h_k h_z h_g c15_1 c24_2 c33_3 hf_4) (g_X2_listShops_v12 u x x2 uc f_4 hz8 hz9 hz10 hz12 h_k h_z h_g c15_1 c24_2 c33_3 hf_4) (Nat.lt_of_lt_of_le (g_X2_listShops_v13 u x x2 uc f_4 hz8 hz9 hz10 hz12 h_k h_z h_g c15_1 c24_2 c33_3 hf_4) (Nat.lt_succ_iff.mp hmu)) hU hS (lv_sub hl [1, 2, 0] rfl)
  refine lv_aload_n hF.1 hF.2.1 dX2_listShops_0 rfl (lv_at hl 0 rfl) ?_
  refine lv_iconst (v := 0) hF.1 hF.2.1 dX2_listShops_1 (by decide) ?_
  refine q_put hF hU hS dX2_listShops_2 7 2 4 204 299 rfl rfl rfl rfl inX2 tyX2 tyX2_ok nmX2 (by decide) (by decide) rfl w_424 rfl rfl rfl rfl (fun H locs hU hS => ?_)
  have hfr : qFc [204] [203] [] [] u (qsI u 204 0) := hfr.setI (by decide) (fun q => absurd q (by decide))
  have hI : IC E (qsI u 204 0) := hI.sI (by decide)
  refine lv_iconst (v := 0) hF.1 hF.2.1 dX2_listShops_5 (by decide) ?_
  refine lv_istore_n (lv' := [(2, .int 0), (0, .ref (E.2.2 299)), (1, .int x)]) hF.1 hF.2.1 dX2_listShops_6 rfl hl (by decide) rfl (fun ls hl => ?_)
  exact (main _) (0 : Int32) (qsI u 204 0) _ _ _ hfr hI hkd  (g_X2_listShops_v14 u x hz8 hz9 hz10 hz12) (g_X2_listShops_v15 u x hz8 hz9 hz10 hz12) (g_X2_listShops_v16 u hz8 hz9 hz10 hz12) (Nat.lt_succ_self _) hU hS (lv_sub hl [1, 2, 0] rfl)
set_option maxRecDepth 100000 in
theorem g_X2_setPrices_v0 (u : qS) (x : Int32) (x3 : Int32) (hx : 0 ≤ x ∧ x < u.1 9) (hz : 0 ≤ (u.1 204).toInt ∧ (u.1 204).toInt ≤ 8) (hs : g_rw (u.2.1 203) (u.1 204).toInt 0 (u.1 8).toInt) (hz8 : 0 ≤ u.1 8 ∧ u.1 8 ≤ 20) (hz9 : 0 ≤ u.1 9 ∧ u.1 9 ≤ 8) (hz10 : 0 ≤ u.1 10 ∧ u.1 10 ≤ 120) (hz12 : 0 ≤ u.1 12 ∧ u.1 12 ≤ 16) (h_k : 0 ≤ x3) (c7_1 : ¬ (u.1 204) ≤ (x3 : Int32)) : vp_in (x3) 8 := by
  clear hs; refine g_in ?_ ?_ <;> ((try simp only [g_m1, Int32.lt_iff_toInt_lt, Int32.le_iff_toInt_le, ← Int32.toInt_inj, Int32.reduceToInt] at *); omega)
set_option maxRecDepth 100000 in
theorem g_X2_setPrices_v1 (u : qS) (x : Int32) (x3 : Int32) (uc : qS) (f_2 : Nat → Int64) (hx : 0 ≤ x ∧ x < u.1 9) (hz : 0 ≤ (u.1 204).toInt ∧ (u.1 204).toInt ≤ 8) (hs : g_rw (u.2.1 203) (u.1 204).toInt 0 (u.1 8).toInt) (hz8 : 0 ≤ u.1 8 ∧ u.1 8 ≤ 20) (hz9 : 0 ≤ u.1 9 ∧ u.1 9 ≤ 8) (hz10 : 0 ≤ u.1 10 ∧ u.1 10 ≤ 120) (hz12 : 0 ≤ u.1 12 ∧ u.1 12 ≤ 16) (h_k : 0 ≤ x3) (c7_1 : ¬ (u.1 204) ≤ (x3 : Int32)) (hf_2 : f_2 = vp_updL (uc.2.2.1 202) (x3 : Int32).toNatClampNeg 1152921504606846976) : vp_in (x3) 8 := by
  clear hs; refine g_in ?_ ?_ <;> ((try simp only [g_m1, Int32.lt_iff_toInt_lt, Int32.le_iff_toInt_le, ← Int32.toInt_inj, Int32.reduceToInt] at *); omega)
set_option maxRecDepth 100000 in
theorem g_X2_setPrices_v2 (u : qS) (x : Int32) (x3 : Int32) (uc : qS) (f_2 : Nat → Int64) (hx : 0 ≤ x ∧ x < u.1 9) (hz : 0 ≤ (u.1 204).toInt ∧ (u.1 204).toInt ≤ 8) (hs : g_rw (u.2.1 203) (u.1 204).toInt 0 (u.1 8).toInt) (hz8 : 0 ≤ u.1 8 ∧ u.1 8 ≤ 20) (hz9 : 0 ≤ u.1 9 ∧ u.1 9 ≤ 8) (hz10 : 0 ≤ u.1 10 ∧ u.1 10 ≤ 120) (hz12 : 0 ≤ u.1 12 ∧ u.1 12 ≤ 16) (h_k : 0 ≤ x3) (c7_1 : ¬ (u.1 204) ≤ (x3 : Int32)) (hf_2 : f_2 = vp_updL (uc.2.2.1 202) (x3 : Int32).toNatClampNeg 1152921504606846976) : 0 ≤ x ∧ x < (u.1 9 : Int32) := by
  clear hs; (try simp only [g_m1, Int32.lt_iff_toInt_lt, Int32.le_iff_toInt_le, ← Int32.toInt_inj, Int32.reduceToInt] at *); omega
set_option maxRecDepth 100000 in
theorem g_X2_setPrices_v3 (u : qS) (x : Int32) (x3 : Int32) (uc : qS) (f_2 : Nat → Int64) (hx : 0 ≤ x ∧ x < u.1 9) (hz : 0 ≤ (u.1 204).toInt ∧ (u.1 204).toInt ≤ 8) (hs : g_rw (u.2.1 203) (u.1 204).toInt 0 (u.1 8).toInt) (hz8 : 0 ≤ u.1 8 ∧ u.1 8 ≤ 20) (hz9 : 0 ≤ u.1 9 ∧ u.1 9 ≤ 8) (hz10 : 0 ≤ u.1 10 ∧ u.1 10 ≤ 120) (hz12 : 0 ≤ u.1 12 ∧ u.1 12 ≤ 16) (h_k : 0 ≤ x3) (c7_1 : ¬ (u.1 204) ≤ (x3 : Int32)) (hf_2 : f_2 = vp_updL (uc.2.2.1 202) (x3 : Int32).toNatClampNeg 1152921504606846976) : 0 ≤ ((u.2.1 203) (x3 : Int32).toNatClampNeg) ∧ ((u.2.1 203) (x3 : Int32).toNatClampNeg) < (u.1 8 : Int32) := by
  have q_g := hs.get x3 (by clear hs; (try simp only [g_m1, Int32.lt_iff_toInt_lt, Int32.le_iff_toInt_le, ← Int32.toInt_inj, Int32.reduceToInt] at *); omega) (by clear hs; (try simp only [g_m1, Int32.lt_iff_toInt_lt, Int32.le_iff_toInt_le, ← Int32.toInt_inj, Int32.reduceToInt] at *); omega)
  clear hs; (try simp only [g_m1, Int32.lt_iff_toInt_lt, Int32.le_iff_toInt_le, ← Int32.toInt_inj, Int32.reduceToInt] at *); omega
set_option maxRecDepth 100000 in
theorem g_X2_setPrices_v4 (u : qS) (x : Int32) (y : Int32) (x3 : Int32) (uc : qS) (f_2 : Nat → Int64) (hx : 0 ≤ x ∧ x < u.1 9) (hz : 0 ≤ (u.1 204).toInt ∧ (u.1 204).toInt ≤ 8) (hs : g_rw (u.2.1 203) (u.1 204).toInt 0 (u.1 8).toInt) (hz8 : 0 ≤ u.1 8 ∧ u.1 8 ≤ 20) (hz9 : 0 ≤ u.1 9 ∧ u.1 9 ≤ 8) (hz10 : 0 ≤ u.1 10 ∧ u.1 10 ≤ 120) (hz12 : 0 ≤ u.1 12 ∧ u.1 12 ≤ 16) (h_k : 0 ≤ x3) (c7_1 : ¬ (u.1 204) ≤ (x3 : Int32)) (hf_2 : f_2 = vp_updL (uc.2.2.1 202) (x3 : Int32).toNatClampNeg 1152921504606846976) (b31_6 : c_mg (qsG uc 202 f_2) x ((u.2.1 203) (x3 : Int32).toNatClampNeg) y) : vp_in (x3) 8 := by
  clear hs; refine g_in ?_ ?_ <;> ((try simp only [g_m1, Int32.lt_iff_toInt_lt, Int32.le_iff_toInt_le, ← Int32.toInt_inj, Int32.reduceToInt] at *); omega)
set_option maxRecDepth 100000 in
theorem g_X2_setPrices_v5 (u : qS) (x : Int32) (y : Int32) (x3 : Int32) (uc : qS) (f_2 : Nat → Int64) (hx : 0 ≤ x ∧ x < u.1 9) (hz : 0 ≤ (u.1 204).toInt ∧ (u.1 204).toInt ≤ 8) (hs : g_rw (u.2.1 203) (u.1 204).toInt 0 (u.1 8).toInt) (hz8 : 0 ≤ u.1 8 ∧ u.1 8 ≤ 20) (hz9 : 0 ≤ u.1 9 ∧ u.1 9 ≤ 8) (hz10 : 0 ≤ u.1 10 ∧ u.1 10 ≤ 120) (hz12 : 0 ≤ u.1 12 ∧ u.1 12 ≤ 16) (h_k : 0 ≤ x3) (c7_1 : ¬ (u.1 204) ≤ (x3 : Int32)) (hf_2 : f_2 = vp_updL (uc.2.2.1 202) (x3 : Int32).toNatClampNeg 1152921504606846976) (b31_6 : c_mg (qsG uc 202 f_2) x ((u.2.1 203) (x3 : Int32).toNatClampNeg) y) : 0 ≤ x ∧ x < (u.1 9 : Int32) := by
  clear hs; (try simp only [g_m1, Int32.lt_iff_toInt_lt, Int32.le_iff_toInt_le, ← Int32.toInt_inj, Int32.reduceToInt] at *); omega
set_option maxRecDepth 100000 in
theorem g_X2_setPrices_v6 (u : qS) (x : Int32) (y : Int32) (x3 : Int32) (uc : qS) (f_2 : Nat → Int64) (hx : 0 ≤ x ∧ x < u.1 9) (hz : 0 ≤ (u.1 204).toInt ∧ (u.1 204).toInt ≤ 8) (hs : g_rw (u.2.1 203) (u.1 204).toInt 0 (u.1 8).toInt) (hz8 : 0 ≤ u.1 8 ∧ u.1 8 ≤ 20) (hz9 : 0 ≤ u.1 9 ∧ u.1 9 ≤ 8) (hz10 : 0 ≤ u.1 10 ∧ u.1 10 ≤ 120) (hz12 : 0 ≤ u.1 12 ∧ u.1 12 ≤ 16) (h_k : 0 ≤ x3) (c7_1 : ¬ (u.1 204) ≤ (x3 : Int32)) (hf_2 : f_2 = vp_updL (uc.2.2.1 202) (x3 : Int32).toNatClampNeg 1152921504606846976) (b31_6 : c_mg (qsG uc 202 f_2) x ((u.2.1 203) (x3 : Int32).toNatClampNeg) y) : 0 ≤ ((u.2.1 203) (x3 : Int32).toNatClampNeg) ∧ ((u.2.1 203) (x3 : Int32).toNatClampNeg) < (u.1 8 : Int32) := by
  have q_g := hs.get x3 (by clear hs; (try simp only [g_m1, Int32.lt_iff_toInt_lt, Int32.le_iff_toInt_le, ← Int32.toInt_inj, Int32.reduceToInt] at *); omega) (by clear hs; (try simp only [g_m1, Int32.lt_iff_toInt_lt, Int32.le_iff_toInt_le, ← Int32.toInt_inj, Int32.reduceToInt] at *); omega)
  clear hs; (try simp only [g_m1, Int32.lt_iff_toInt_lt, Int32.le_iff_toInt_le, ← Int32.toInt_inj, Int32.reduceToInt] at *); omega
set_option maxRecDepth 100000 in
theorem g_X2_setPrices_v7 (u : qS) (x : Int32) (y : Int32) (x3 : Int32) (uc : qS) (f_2 : Nat → Int64) (r_9 : Int32) (hx : 0 ≤ x ∧ x < u.1 9) (hz : 0 ≤ (u.1 204).toInt ∧ (u.1 204).toInt ≤ 8) (hs : g_rw (u.2.1 203) (u.1 204).toInt 0 (u.1 8).toInt) (hz8 : 0 ≤ u.1 8 ∧ u.1 8 ≤ 20) (hz9 : 0 ≤ u.1 9 ∧ u.1 9 ≤ 8) (hz10 : 0 ≤ u.1 10 ∧ u.1 10 ≤ 120) (hz12 : 0 ≤ u.1 12 ∧ u.1 12 ≤ 16) (h_k : 0 ≤ x3) (c7_1 : ¬ (u.1 204) ≤ (x3 : Int32)) (hf_2 : f_2 = vp_updL (uc.2.2.1 202) (x3 : Int32).toNatClampNeg 1152921504606846976) (b31_6 : c_mg (qsG uc 202 f_2) x ((u.2.1 203) (x3 : Int32).toNatClampNeg) y) (hw_8 : r_9 = c_wh (qsG uc 202 f_2) x ((u.2.1 203) (x3 : Int32).toNatClampNeg)) : vp_in (x3) 8 := by
  clear hs; refine g_in ?_ ?_ <;> ((try simp only [g_m1, Int32.lt_iff_toInt_lt, Int32.le_iff_toInt_le, ← Int32.toInt_inj, Int32.reduceToInt] at *); omega)
set_option maxRecDepth 100000 in
theorem g_X2_setPrices_v8 (u : qS) (x : Int32) (y : Int32) (x3 : Int32) (uc : qS) (f_2 : Nat → Int64) (r_9 : Int32) (r_12 : Int32) (f_13 : Nat → Int64) (hx : 0 ≤ x ∧ x < u.1 9) (hz : 0 ≤ (u.1 204).toInt ∧ (u.1 204).toInt ≤ 8) (hs : g_rw (u.2.1 203) (u.1 204).toInt 0 (u.1 8).toInt) (hz8 : 0 ≤ u.1 8 ∧ u.1 8 ≤ 20) (hz9 : 0 ≤ u.1 9 ∧ u.1 9 ≤ 8) (hz10 : 0 ≤ u.1 10 ∧ u.1 10 ≤ 120) (hz12 : 0 ≤ u.1 12 ∧ u.1 12 ≤ 16) (h_k : 0 ≤ x3) (c7_1 : ¬ (u.1 204) ≤ (x3 : Int32)) (hf_2 : f_2 = vp_updL (uc.2.2.1 202) (x3 : Int32).toNatClampNeg 1152921504606846976) (b31_6 : c_mg (qsG uc 202 f_2) x ((u.2.1 203) (x3 : Int32).toNatClampNeg) y) (hw_8 : r_9 = c_wh (qsG uc 202 f_2) x ((u.2.1 203) (x3 : Int32).toNatClampNeg)) (hf_13 : f_13 = vp_updL (f_2) (x3 : Int32).toNatClampNeg ((((r_9 : Int32).toInt64) <<< ((24 : Int32).toInt64 &&& 63)) + (((x : Int32).toInt64) <<< ((r_12 : Int32).toInt64 &&& 63)))) : 0 ≤ (x3 + 1) := by
  clear hs; (try simp only [g_m1, Int32.lt_iff_toInt_lt, Int32.le_iff_toInt_le, ← Int32.toInt_inj, Int32.toInt_add, Int32.toInt_sub, Int32.toInt_mul, Int32.toInt_neg, Int32.reduceToInt, g_bm, g_bm'] at *); omega
set_option maxRecDepth 100000 in
theorem g_X2_setPrices_v9 (u : qS) (x : Int32) (y : Int32) (x3 : Int32) (uc : qS) (f_2 : Nat → Int64) (r_9 : Int32) (r_12 : Int32) (f_13 : Nat → Int64) (hx : 0 ≤ x ∧ x < u.1 9) (hz : 0 ≤ (u.1 204).toInt ∧ (u.1 204).toInt ≤ 8) (hs : g_rw (u.2.1 203) (u.1 204).toInt 0 (u.1 8).toInt) (hz8 : 0 ≤ u.1 8 ∧ u.1 8 ≤ 20) (hz9 : 0 ≤ u.1 9 ∧ u.1 9 ≤ 8) (hz10 : 0 ≤ u.1 10 ∧ u.1 10 ≤ 120) (hz12 : 0 ≤ u.1 12 ∧ u.1 12 ≤ 16) (h_k : 0 ≤ x3) (c7_1 : ¬ (u.1 204) ≤ (x3 : Int32)) (hf_2 : f_2 = vp_updL (uc.2.2.1 202) (x3 : Int32).toNatClampNeg 1152921504606846976) (b31_6 : c_mg (qsG uc 202 f_2) x ((u.2.1 203) (x3 : Int32).toNatClampNeg) y) (hw_8 : r_9 = c_wh (qsG uc 202 f_2) x ((u.2.1 203) (x3 : Int32).toNatClampNeg)) (hf_13 : f_13 = vp_updL (f_2) (x3 : Int32).toNatClampNeg ((((r_9 : Int32).toInt64) <<< ((24 : Int32).toInt64 &&& 63)) + (((x : Int32).toInt64) <<< ((r_12 : Int32).toInt64 &&& 63)))) : ((u.1 204).toInt - (x3 + 1).toInt).toNat < ((u.1 204).toInt - x3.toInt).toNat := by
  clear hs; (try simp only [g_m1, Int32.lt_iff_toInt_lt, Int32.le_iff_toInt_le, ← Int32.toInt_inj, Int32.toInt_add, Int32.toInt_sub, Int32.toInt_mul, Int32.toInt_neg, Int32.reduceToInt, g_bm, g_bm'] at *); omega
set_option maxRecDepth 100000 in
theorem g_X2_setPrices_v10 (u : qS) (x : Int32) (y : Int32) (x3 : Int32) (uc : qS) (f_2 : Nat → Int64) (hx : 0 ≤ x ∧ x < u.1 9) (hz : 0 ≤ (u.1 204).toInt ∧ (u.1 204).toInt ≤ 8) (hs : g_rw (u.2.1 203) (u.1 204).toInt 0 (u.1 8).toInt) (hz8 : 0 ≤ u.1 8 ∧ u.1 8 ≤ 20) (hz9 : 0 ≤ u.1 9 ∧ u.1 9 ≤ 8) (hz10 : 0 ≤ u.1 10 ∧ u.1 10 ≤ 120) (hz12 : 0 ≤ u.1 12 ∧ u.1 12 ≤ 16) (h_k : 0 ≤ x3) (c7_1 : ¬ (u.1 204) ≤ (x3 : Int32)) (hf_2 : f_2 = vp_updL (uc.2.2.1 202) (x3 : Int32).toNatClampNeg 1152921504606846976) (b31_6 : ¬ (c_mg (qsG uc 202 f_2) x ((u.2.1 203) (x3 : Int32).toNatClampNeg) y)) : 0 ≤ (x3 + 1) := by
  clear hs; (try simp only [g_m1, Int32.lt_iff_toInt_lt, Int32.le_iff_toInt_le, ← Int32.toInt_inj, Int32.toInt_add, Int32.toInt_sub, Int32.toInt_mul, Int32.toInt_neg, Int32.reduceToInt, g_bm, g_bm'] at *); omega
set_option maxRecDepth 100000 in
theorem g_X2_setPrices_v11 (u : qS) (x : Int32) (y : Int32) (x3 : Int32) (uc : qS) (f_2 : Nat → Int64) (hx : 0 ≤ x ∧ x < u.1 9) (hz : 0 ≤ (u.1 204).toInt ∧ (u.1 204).toInt ≤ 8) (hs : g_rw (u.2.1 203) (u.1 204).toInt 0 (u.1 8).toInt) (hz8 : 0 ≤ u.1 8 ∧ u.1 8 ≤ 20) (hz9 : 0 ≤ u.1 9 ∧ u.1 9 ≤ 8) (hz10 : 0 ≤ u.1 10 ∧ u.1 10 ≤ 120) (hz12 : 0 ≤ u.1 12 ∧ u.1 12 ≤ 16) (h_k : 0 ≤ x3) (c7_1 : ¬ (u.1 204) ≤ (x3 : Int32)) (hf_2 : f_2 = vp_updL (uc.2.2.1 202) (x3 : Int32).toNatClampNeg 1152921504606846976) (b31_6 : ¬ (c_mg (qsG uc 202 f_2) x ((u.2.1 203) (x3 : Int32).toNatClampNeg) y)) : ((u.1 204).toInt - (x3 + 1).toInt).toNat < ((u.1 204).toInt - x3.toInt).toNat := by
  clear hs; (try simp only [g_m1, Int32.lt_iff_toInt_lt, Int32.le_iff_toInt_le, ← Int32.toInt_inj, Int32.toInt_add, Int32.toInt_sub, Int32.toInt_mul, Int32.toInt_neg, Int32.reduceToInt, g_bm, g_bm'] at *); omega
set_option maxRecDepth 100000 in
theorem g_X2_setPrices_v12 (u : qS) (x : Int32) (hx : 0 ≤ x ∧ x < u.1 9) (hz : 0 ≤ (u.1 204).toInt ∧ (u.1 204).toInt ≤ 8) (hs : g_rw (u.2.1 203) (u.1 204).toInt 0 (u.1 8).toInt) (hz8 : 0 ≤ u.1 8 ∧ u.1 8 ≤ 20) (hz9 : 0 ≤ u.1 9 ∧ u.1 9 ≤ 8) (hz10 : 0 ≤ u.1 10 ∧ u.1 10 ≤ 120) (hz12 : 0 ≤ u.1 12 ∧ u.1 12 ≤ 16) : 0 ≤ (0 : Int32) := by
  clear hs; (try simp only [g_m1, Int32.lt_iff_toInt_lt, Int32.le_iff_toInt_le, ← Int32.toInt_inj, Int32.toInt_add, Int32.toInt_sub, Int32.toInt_mul, Int32.toInt_neg, Int32.reduceToInt, g_bm, g_bm'] at *); omega
set_option maxHeartbeats 1000000 in
set_option maxRecDepth 100000 in
theorem g_X2_setPrices (l : Launch) (E : qE) (A : Nat → Prop) (u : qS) (x : Int32) (y : Int32) (hI : IC E u) (hx : 0 ≤ x ∧ x < u.1 9) (hz : 0 ≤ (u.1 204).toInt ∧ (u.1 204).toInt ≤ 8) (hs : g_rw (u.2.1 203) (u.1 204).toInt 0 (u.1 8).toInt) : Met l yX2_setPrices (uws yX2_setPrices cX2_setPrices 6 none) (qR 5 0 0) (qPc E A 0 u [.ref (E.2.2 299), .int x, .int y]) (qQv E A 0 (fun u1 => (qFc [] [] [202] [] u u1 ∧ IC E u1 ∧ u1.2.2.2.2 = u.2.2.2.2) ∧ (True))) 0 0 A := by
  refine q_met (own := RX2) (f := 5) [.ref (E.2.2 299), .int x, .int y] (by decide) (Nat.le_of_ble_eq_true rfl) rfl ?_
  intro p0 e0 s0 m0 bl0 me0 cd0 ls hF hr hlocks hU hS hA hl
  have hl : lv_has ls 6 [(0, .ref (E.2.2 299)), (1, .int x), (2, .int y)] := hl
  have hkd : u.2.2.2.2 = u.2.2.2.2 := rfl
  have hz8 : 0 ≤ u.1 8 ∧ u.1 8 ≤ 20 := hI.1.s8
  have hz9 : 0 ≤ u.1 9 ∧ u.1 9 ≤ 8 := hI.1.s9
  have hz10 : 0 ≤ u.1 10 ∧ u.1 10 ≤ 120 := hI.1.s10
  have hz12 : 0 ≤ u.1 12 ∧ u.1 12 ≤ 16 := hI.1.s12
  have hfr : qFc [] [] [202] [] u u := qFc.rf
  have main : ∀ n : Nat, (∀ (x3 : Int32) (uc : qS) (H : Heap) (locs : List Loc) (ls : Array Slot) (hfr : qFc [] [] [202] [] u uc) (hI : IC E uc) (hkd : uc.2.2.2.2 = u.2.2.2.2) (h_k : 0 ≤ x3), ((u.1 204).toInt - x3.toInt).toNat < n → qH E A 0 uc s0 H → va_S A s0.heap H locs → lv_has ls 6 [(0, .ref (E.2.2 299)), (1, .int x), (2, .int y), (3, .int x3)] → W p0 l e0 (qR 5 0 0) s0 m0 ([.ref (E.2.2 299), .int x, .int y] : List Value).toArray bl0 me0 cd0 H locs 0 0 (MQ bl0 (qQv E A 0 (fun u1 => (qFc [] [] [202] [] u u1 ∧ IC E u1 ∧ u1.2.2.2.2 = u.2.2.2.2) ∧ (True))) ([.ref (E.2.2 299), .int x, .int y] : List Value).toArray s0 0 0 A) (F0 m0 2 ls [])) := by
    clear hI hfr hkd
    intro n
    induction n with
    | zero => exact fun _ _ _ _ _ _ _ _ _ hmu => absurd hmu (Nat.not_lt_zero _)
    | succ n ih =>
      intro x3 uc H locs ls hfr hI hkd h_k hmu hU hS hl
      refine lv_iload_n hF.1 hF.2.1 dX2_setPrices_2 rfl (lv_at hl 3 rfl) ?_
      refine lv_aload_n hF.1 hF.2.1 dX2_setPrices_3 rfl (lv_at hl 0 rfl) ?_
      refine q_get (v := .int (u.1 204)) hF hU dX2_setPrices_4 7 2 4 204 299 rfl rfl rfl rfl inX2 (by decide) (by decide) w_424 rfl (congrArg Value.int (hfr.1 204 (by decide))) ?_
      refine lv_icmp_ge (tgt := 79) hF.1 hF.2.1 dX2_setPrices_7 (by decide) (fun c7_1 => ?_) (fun c7_1 => ?_)
      · exact q_vret hF hr hlocks hU hS dX2_setPrices_79 ⟨⟨hfr, hI, hkd⟩, trivial⟩
      · refine lv_aload_n hF.1 hF.2.1 dX2_setPrices_10 rfl (lv_at hl 0 rfl) ?_
        refine q_get (v := .ref (E.2.2 202)) hF hU dX2_setPrices_11 7 2 2 202 299 rfl rfl rfl rfl inX2 (by decide) (by decide) w_422 rfl rfl ?_
        refine lv_iload_n hF.1 hF.2.1 dX2_setPrices_14 rfl (lv_at hl 3 rfl) ?_
        refine lv_ldc2 (v := 1152921504606846976) hF.1 hF.2.1 hF.2.2.2.1 (hF.2.2.2.2 _ w_1118) dX2_setPrices_15 ?_
        refine q_last hF hU hS dX2_setPrices_18 26 202 rfl rfl (g_X2_setPrices_v0 u x x3 hx hz hs hz8 hz9 hz10 hz12 h_k c7_1) (fun f_2 H locs hg9 hU hS => ?_)
        have hf_2 : f_2 = vp_updL (uc.2.2.1 202) (x3 : Int32).toNatClampNeg 1152921504606846976 := hg9
        have hfr : qFc [] [] [202] [] u (qsG uc 202 f_2) := hfr.setG (by decide)
        have hI : IC E (qsG uc 202 f_2) := hI.sG
        refine lv_aload_n hF.1 hF.2.1 dX2_setPrices_19 rfl (lv_at hl 0 rfl) ?_
        refine q_get (v := .ref (E.2.2 99)) hF hU dX2_setPrices_20 7 2 0 200 299 rfl rfl rfl rfl inX2 (by decide) (by decide) w_420 rfl rfl ?_
        refine lv_iload_n hF.1 hF.2.1 dX2_setPrices_23 rfl (lv_at hl 1 rfl) ?_
        refine lv_aload_n hF.1 hF.2.1 dX2_setPrices_24 rfl (lv_at hl 0 rfl) ?_
        refine q_get (v := .ref (E.2.2 203)) hF hU dX2_setPrices_25 7 2 3 203 299 rfl rfl rfl rfl inX2 (by decide) (by decide) w_423 rfl rfl ?_
        refine lv_iload_n hF.1 hF.2.1 dX2_setPrices_28 rfl (lv_at hl 3 rfl) ?_
        refine q_iald (v := u.2.1 203 (x3 : Int32).toNatClampNeg) hF hU dX2_setPrices_29 27 203 rfl rfl (g_X2_setPrices_v1 u x x3 uc f_2 hx hz hs hz8 hz9 hz10 hz12 h_k c7_1 hf_2) (congrFun (hfr.2.1 203 (by decide)) _) ?_
        refine lv_iload_n hF.1 hF.2.1 dX2_setPrices_30 rfl (lv_at hl 2 rfl) ?_
        have hM9 := g_X0_mayGo l E A (qsG uc 202 f_2) x (u.2.1 203 (x3 : Int32).toNatClampNeg) y hI (by rw [(hfr.1 9 (by decide))]; exact (g_X2_setPrices_v2 u x x3 uc f_2 hx hz hs hz8 hz9 hz10 hz12 h_k c7_1 hf_2)) (by rw [(hfr.1 8 (by decide))]; exact (g_X2_setPrices_v3 u x x3 uc f_2 hx hz hs hz8 hz9 hz10 hz12 h_k c7_1 hf_2))
        have hR9 := q_runV (l := l) (e := e0) (below := bl0) (meth := me0) (R := qR 5 0 0) (cells := 0) (slots := 0) (st0 := [.int y, .int (u.2.1 203 (x3 : Int32).toNatClampNeg), .int x, .ref (E.2.2 99)]) (rest := []) hF hU hS hA 3 1 0 99 rfl rfl rfl hM9 w_1126 w_1092 w_1093 w_100 w_1094 (by decide +kernel) ⟨Nat.le_of_ble_eq_true rfl, Nat.le_of_ble_eq_true rfl⟩ dX2_setPrices_31 rfl hl.1 rfl (Nat.le_of_ble_eq_true rfl) ⟨Nat.le_of_ble_eq_true rfl, Nat.le_of_ble_eq_true rfl⟩
        refine q_calli hR9 hU.2.2.2 hS (fun r_5 u_3 H locs hw_4 hU hS => ?_)
        obtain ⟨hw_4_e, hw_4⟩ := hw_4
        rw [hw_4_e] at hU
        have hw_4 : (r_5 = 1 ∧ (c_mg (qsG uc 202 f_2) x ((u.2.1 203) (x3 : Int32).toNatClampNeg) y)) ∨ (r_5 = 0 ∧ (¬ (c_mg (qsG uc 202 f_2) x ((u.2.1 203) (x3 : Int32).toNatClampNeg) y))) := hw_4
        rcases hw_4 with ⟨rfl, b31_6⟩ | ⟨rfl, b31_6⟩
        · refine lv_if_eq (tgt := 73) hF.1 hF.2.1 dX2_setPrices_34 (by decide) (fun h9 => absurd h9 (by decide)) (fun _ => ?_)
          refine lv_aload_n hF.1 hF.2.1 dX2_setPrices_37 rfl (lv_at hl 0 rfl) ?_
          refine q_get (v := .ref (E.2.2 99)) hF hU dX2_setPrices_38 7 2 0 200 299 rfl rfl rfl rfl inX2 (by decide) (by decide) w_420 rfl rfl ?_
          refine lv_iload_n hF.1 hF.2.1 dX2_setPrices_41 rfl (lv_at hl 1 rfl) ?_
          refine lv_aload_n hF.1 hF.2.1 dX2_setPrices_42 rfl (lv_at hl 0 rfl) ?_
          refine q_get (v := .ref (E.2.2 203)) hF hU dX2_setPrices_43 7 2 3 203 299 rfl rfl rfl rfl inX2 (by decide) (by decide) w_423 rfl rfl ?_
          refine lv_iload_n hF.1 hF.2.1 dX2_setPrices_46 rfl (lv_at hl 3 rfl) ?_
          refine q_iald (v := u.2.1 203 (x3 : Int32).toNatClampNeg) hF hU dX2_setPrices_47 27 203 rfl rfl (g_X2_setPrices_v4 u x y x3 uc f_2 hx hz hs hz8 hz9 hz10 hz12 h_k c7_1 hf_2 b31_6) (congrFun (hfr.2.1 203 (by decide)) _) ?_
          have hM9 := g_X0_wayFromHome l E A (qsG uc 202 f_2) x (u.2.1 203 (x3 : Int32).toNatClampNeg) hI (by rw [(hfr.1 9 (by decide))]; exact (g_X2_setPrices_v5 u x y x3 uc f_2 hx hz hs hz8 hz9 hz10 hz12 h_k c7_1 hf_2 b31_6)) (by rw [(hfr.1 8 (by decide))]; exact (g_X2_setPrices_v6 u x y x3 uc f_2 hx hz hs hz8 hz9 hz10 hz12 h_k c7_1 hf_2 b31_6))
          have hR9 := q_runV (l := l) (e := e0) (below := bl0) (meth := me0) (R := qR 5 0 0) (cells := 0) (slots := 0) (st0 := [.int (u.2.1 203 (x3 : Int32).toNatClampNeg), .int x, .ref (E.2.2 99)]) (rest := []) hF hU hS hA 2 1 0 99 rfl rfl rfl hM9 w_1127 w_1096 w_1097 w_100 w_1098 (by decide +kernel) ⟨Nat.le_of_ble_eq_true rfl, Nat.le_of_ble_eq_true rfl⟩ dX2_setPrices_48 rfl hl.1 rfl (Nat.le_of_ble_eq_true rfl) ⟨Nat.le_of_ble_eq_true rfl, Nat.le_of_ble_eq_true rfl⟩
          refine q_calli hR9 hU.2.2.2 hS (fun r_9 u_7 H locs hw_8 hU hS => ?_)
          obtain ⟨hw_8_e, hw_8⟩ := hw_8
          rw [hw_8_e] at hU
          have hw_8 : r_9 = c_wh (qsG uc 202 f_2) x ((u.2.1 203) (x3 : Int32).toNatClampNeg) := hw_8
          refine lv_i2l (v := (r_9 : Int32).toInt64) hF.1 hF.2.1 dX2_setPrices_51 rfl ?_
          refine lv_lstore (lv' := [(4, .long ((r_9 : Int32).toInt64)), (0, .ref (E.2.2 299)), (1, .int x), (2, .int y), (3, .int x3)]) hF.1 hF.2.1 dX2_setPrices_52 hl (by decide) rfl (fun ls hl => ?_)
          refine lv_aload_n hF.1 hF.2.1 dX2_setPrices_54 rfl (lv_at hl 1 rfl) ?_
          refine q_get (v := .ref (E.2.2 202)) hF hU dX2_setPrices_55 7 2 2 202 299 rfl rfl rfl rfl inX2 (by decide) (by decide) w_422 rfl rfl ?_
          refine lv_iload_n hF.1 hF.2.1 dX2_setPrices_58 rfl (lv_at hl 4 rfl) ?_
          refine lv_lload hF.1 hF.2.1 dX2_setPrices_59 (lv_at hl 0 rfl) ?_
          refine lv_bipush (v := 24) hF.1 hF.2.1 dX2_setPrices_61 (by decide) ?_
          refine lv_lshl (v := ((r_9 : Int32).toInt64) <<< ((24 : Int32).toInt64 &&& 63)) hF.1 hF.2.1 dX2_setPrices_63 rfl ?_
          refine lv_iload_n hF.1 hF.2.1 dX2_setPrices_64 rfl (lv_at hl 2 rfl) ?_
          refine lv_i2l (v := (x : Int32).toInt64) hF.1 hF.2.1 dX2_setPrices_65 rfl ?_
          refine lv_iload_n hF.1 hF.2.1 dX2_setPrices_66 rfl (lv_at hl 4 rfl) ?_
          have hM9 := g_X2_buyerShift l E A (qsG uc 202 f_2) x3
          have hR9 := q_runS (l := l) (e := e0) (below := bl0) (meth := me0) (R := qR 5 0 0) (cells := 0) (slots := 0) (st0 := [.int x3, .long ((x : Int32).toInt64), .long (((r_9 : Int32).toInt64) <<< ((24 : Int32).toInt64 &&& 63)), .int x3, .ref (E.2.2 202)]) (rest := [.long ((x : Int32).toInt64), .long (((r_9 : Int32).toInt64) <<< ((24 : Int32).toInt64 &&& 63)), .int x3, .ref (E.2.2 202)]) hF hU hS hA 1 hM9 w_1128 w_1129 w_106 w_1130 (by decide +kernel) ⟨Nat.le_of_ble_eq_true rfl, Nat.le_of_ble_eq_true rfl⟩ dX2_setPrices_67 rfl hl.1 rfl (Nat.le_of_ble_eq_true rfl) ⟨Nat.le_of_ble_eq_true rfl, Nat.le_of_ble_eq_true rfl⟩
          refine q_calli hR9 hU.2.2.2 hS (fun r_12 u_10 H locs hw_11 hU hS => ?_)
          obtain ⟨hw_11_e, hw_11⟩ := hw_11
          rw [hw_11_e] at hU
          refine lv_lshl (v := ((x : Int32).toInt64) <<< ((r_12 : Int32).toInt64 &&& 63)) hF.1 hF.2.1 dX2_setPrices_70 rfl ?_
          refine lv_ladd hF.1 hF.2.1 dX2_setPrices_71 ?_
          refine q_last hF hU hS dX2_setPrices_72 26 202 rfl rfl (g_X2_setPrices_v7 u x y x3 uc f_2 r_9 hx hz hs hz8 hz9 hz10 hz12 h_k c7_1 hf_2 b31_6 hw_8) (fun f_13 H locs hg9 hU hS => ?_)
          have hf_13 : f_13 = vp_updL (f_2) (x3 : Int32).toNatClampNeg ((((r_9 : Int32).toInt64) <<< ((24 : Int32).toInt64 &&& 63)) + (((x : Int32).toInt64) <<< ((r_12 : Int32).toInt64 &&& 63))) := hg9
          have hfr : qFc [] [] [202] [] u (qsG (qsG uc 202 f_2) 202 f_13) := hfr.setG (by decide)
          have hI : IC E (qsG (qsG uc 202 f_2) 202 f_13) := hI.sG
          refine lv_iinc (v := x3 + 1) (lv' := [(3, .int (x3 + 1)), (4, .long ((r_9 : Int32).toInt64)), (0, .ref (E.2.2 299)), (1, .int x), (2, .int y)]) hF.1 hF.2.1 dX2_setPrices_73 hl (k := 4) rfl rfl (by decide) rfl (fun ls hl => ?_)
          refine lv_goto (tgt := 2) hF.1 hF.2.1 dX2_setPrices_76 (by decide) ?_
          exact ih (x3 + 1) (qsG (qsG uc 202 f_2) 202 f_13) _ _ _ hfr hI hkd  (g_X2_setPrices_v8 u x y x3 uc f_2 r_9 r_12 f_13 hx hz hs hz8 hz9 hz10 hz12 h_k c7_1 hf_2 b31_6 hw_8 hf_13) (Nat.lt_of_lt_of_le (g_X2_setPrices_v9 u x y x3 uc f_2 r_9 r_12 f_13 hx hz hs hz8 hz9 hz10 hz12 h_k c7_1 hf_2 b31_6 hw_8 hf_13) (Nat.lt_succ_iff.mp hmu)) hU hS (lv_sub hl [2, 3, 4, 0] rfl)
        · refine lv_if_eq (tgt := 73) hF.1 hF.2.1 dX2_setPrices_34 (by decide) (fun _ => ?_) (fun h9 => absurd (by decide) h9)
          refine lv_iinc (v := x3 + 1) (lv' := [(3, .int (x3 + 1)), (0, .ref (E.2.2 299)), (1, .int x), (2, .int y)]) hF.1 hF.2.1 dX2_setPrices_73 hl (k := 3) rfl rfl (by decide) rfl (fun ls hl => ?_)
          refine lv_goto (tgt := 2) hF.1 hF.2.1 dX2_setPrices_76 (by decide) ?_
          exact ih (x3 + 1) (qsG uc 202 f_2) _ _ _ hfr hI hkd  (g_X2_setPrices_v10 u x y x3 uc f_2 hx hz hs hz8 hz9 hz10 hz12 h_k c7_1 hf_2 b31_6) (Nat.lt_of_lt_of_le (g_X2_setPrices_v11 u x y x3 uc f_2 hx hz hs hz8 hz9 hz10 hz12 h_k c7_1 hf_2 b31_6) (Nat.lt_succ_iff.mp hmu)) hU hS (lv_sub hl [1, 2, 3, 0] rfl)
  refine lv_iconst (v := 0) hF.1 hF.2.1 dX2_setPrices_0 (by decide) ?_
  refine lv_istore_n (lv' := [(3, .int 0), (0, .ref (E.2.2 299)), (1, .int x), (2, .int y)]) hF.1 hF.2.1 dX2_setPrices_1 rfl hl (by decide) rfl (fun ls hl => ?_)
  exact (main _) (0 : Int32) u _ _ _ hfr hI hkd  (g_X2_setPrices_v12 u x hx hz hs hz8 hz9 hz10 hz12) (Nat.lt_succ_self _) hU hS (lv_sub hl [1, 2, 3, 0] rfl)
set_option maxRecDepth 100000 in
theorem g_X2_sendOnce_v0 (u : qS) (x1 : Int32) (hz : 0 ≤ (u.1 204).toInt ∧ (u.1 204).toInt ≤ 8) (hz8 : 0 ≤ u.1 8 ∧ u.1 8 ≤ 20) (hz9 : 0 ≤ u.1 9 ∧ u.1 9 ≤ 8) (hz10 : 0 ≤ u.1 10 ∧ u.1 10 ≤ 120) (hz12 : 0 ≤ u.1 12 ∧ u.1 12 ≤ 16) (h_d : 0 ≤ x1.toInt ∧ x1.toInt < 256) (c10_1 : ¬ (x1 : Int32) ≤ 0) : 1 ≤ x1.toInt ∧ x1.toInt < 256 := by
  first | omega | ((try simp only [g_m1, Int32.lt_iff_toInt_lt, Int32.le_iff_toInt_le, ← Int32.toInt_inj, Int32.reduceToInt] at *); omega) | ((try simp only [g_m1, Int32.lt_iff_toInt_lt, Int32.le_iff_toInt_le, ← Int32.toInt_inj, Int32.reduceToInt] at *); omega) | ((try simp only [g_m1, Int32.lt_iff_toInt_lt, Int32.le_iff_toInt_le, ← Int32.toInt_inj, Int32.toInt_add, Int32.toInt_sub, Int32.toInt_mul, Int32.toInt_neg, Int32.reduceToInt, g_bm, g_bm'] at *); omega) | (have qr1 := g_rng x1; (try simp only [g_m1, Int32.lt_iff_toInt_lt, Int32.le_iff_toInt_le, ← Int32.toInt_inj, Int32.toInt_add, Int32.toInt_sub, Int32.toInt_mul, Int32.toInt_neg, Int32.reduceToInt, g_bm, g_bm'] at *); omega) | (simp only [g_m1, Int32.lt_iff_toInt_lt, Int32.le_iff_toInt_le, ← Int32.toInt_inj, Int32.toInt_add, Int32.toInt_sub, Int32.toInt_mul, Int32.toInt_neg, Int32.reduceToInt, g_bm, g_bm'] at *; simp at *; omega) | (simp_all; done)
set_option maxRecDepth 100000 in
theorem g_X2_sendOnce_v1 (u : qS) (x1 : Int32) (hz : 0 ≤ (u.1 204).toInt ∧ (u.1 204).toInt ≤ 8) (hz8 : 0 ≤ u.1 8 ∧ u.1 8 ≤ 20) (hz9 : 0 ≤ u.1 9 ∧ u.1 9 ≤ 8) (hz10 : 0 ≤ u.1 10 ∧ u.1 10 ≤ 120) (hz12 : 0 ≤ u.1 12 ∧ u.1 12 ≤ 16) (h_d : 0 ≤ x1.toInt ∧ x1.toInt < 256) (c10_1 : ¬ (x1 : Int32) ≤ 0) : 0 ≤ (0 : Int32) := by
  first | omega | ((try simp only [g_m1, Int32.lt_iff_toInt_lt, Int32.le_iff_toInt_le, ← Int32.toInt_inj, Int32.reduceToInt] at *); omega) | ((try simp only [g_m1, Int32.lt_iff_toInt_lt, Int32.le_iff_toInt_le, ← Int32.toInt_inj, Int32.reduceToInt] at *); omega) | ((try simp only [g_m1, Int32.lt_iff_toInt_lt, Int32.le_iff_toInt_le, ← Int32.toInt_inj, Int32.toInt_add, Int32.toInt_sub, Int32.toInt_mul, Int32.toInt_neg, Int32.reduceToInt, g_bm, g_bm'] at *); omega) | (have qr1 := g_rng x1; (try simp only [g_m1, Int32.lt_iff_toInt_lt, Int32.le_iff_toInt_le, ← Int32.toInt_inj, Int32.toInt_add, Int32.toInt_sub, Int32.toInt_mul, Int32.toInt_neg, Int32.reduceToInt, g_bm, g_bm'] at *); omega) | (simp only [g_m1, Int32.lt_iff_toInt_lt, Int32.le_iff_toInt_le, ← Int32.toInt_inj, Int32.toInt_add, Int32.toInt_sub, Int32.toInt_mul, Int32.toInt_neg, Int32.reduceToInt, g_bm, g_bm'] at *; simp at *; omega) | (simp_all; done)
set_option maxRecDepth 100000 in
theorem g_X2_sendOnce_v2 (u : qS) (x1 : Int32) (hz : 0 ≤ (u.1 204).toInt ∧ (u.1 204).toInt ≤ 8) (hz8 : 0 ≤ u.1 8 ∧ u.1 8 ≤ 20) (hz9 : 0 ≤ u.1 9 ∧ u.1 9 ≤ 8) (hz10 : 0 ≤ u.1 10 ∧ u.1 10 ≤ 120) (hz12 : 0 ≤ u.1 12 ∧ u.1 12 ≤ 16) (h_d : 0 ≤ x1.toInt ∧ x1.toInt < 256) (c10_1 : ¬ (x1 : Int32) ≤ 0) : x1.toInt.toNat * 20 + ((u.1 204).toInt - (0 : Int32).toInt).toNat < x1.toInt.toNat * 20 + 19 := by
  first | omega | ((try simp only [g_m1, Int32.lt_iff_toInt_lt, Int32.le_iff_toInt_le, ← Int32.toInt_inj, Int32.reduceToInt] at *); omega) | ((try simp only [g_m1, Int32.lt_iff_toInt_lt, Int32.le_iff_toInt_le, ← Int32.toInt_inj, Int32.reduceToInt] at *); omega) | ((try simp only [g_m1, Int32.lt_iff_toInt_lt, Int32.le_iff_toInt_le, ← Int32.toInt_inj, Int32.toInt_add, Int32.toInt_sub, Int32.toInt_mul, Int32.toInt_neg, Int32.reduceToInt, g_bm, g_bm'] at *); omega) | (have qr1 := g_rng x1; (try simp only [g_m1, Int32.lt_iff_toInt_lt, Int32.le_iff_toInt_le, ← Int32.toInt_inj, Int32.toInt_add, Int32.toInt_sub, Int32.toInt_mul, Int32.toInt_neg, Int32.reduceToInt, g_bm, g_bm'] at *); omega) | (simp only [g_m1, Int32.lt_iff_toInt_lt, Int32.le_iff_toInt_le, ← Int32.toInt_inj, Int32.toInt_add, Int32.toInt_sub, Int32.toInt_mul, Int32.toInt_neg, Int32.reduceToInt, g_bm, g_bm'] at *; simp at *; omega) | (simp_all; done)
set_option maxRecDepth 100000 in
theorem g_X2_sendOnce_v3 (u : qS) (x1 : Int32) (x2 : Int32) (hz : 0 ≤ (u.1 204).toInt ∧ (u.1 204).toInt ≤ 8) (hz8 : 0 ≤ u.1 8 ∧ u.1 8 ≤ 20) (hz9 : 0 ≤ u.1 9 ∧ u.1 9 ≤ 8) (hz10 : 0 ≤ u.1 10 ∧ u.1 10 ≤ 120) (hz12 : 0 ≤ u.1 12 ∧ u.1 12 ≤ 16) (h_d : 1 ≤ x1.toInt ∧ x1.toInt < 256) (h_k : 0 ≤ x2) (c20_2 : (u.1 204) ≤ (x2 : Int32)) : 0 ≤ (x1 + (-1)).toInt ∧ (x1 + (-1)).toInt < 256 := by
  first | omega | ((try simp only [g_m1, Int32.lt_iff_toInt_lt, Int32.le_iff_toInt_le, ← Int32.toInt_inj, Int32.reduceToInt] at *); omega) | ((try have ez0 : (x1 + (-1) : Int32).toInt = (x1 : Int32).toInt + ((-1) : Int32).toInt := g_add (by (try simp only [g_m1, Int32.lt_iff_toInt_lt, Int32.le_iff_toInt_le, ← Int32.toInt_inj, Int32.reduceToInt] at *); omega) (by (try simp only [g_m1, Int32.lt_iff_toInt_lt, Int32.le_iff_toInt_le, ← Int32.toInt_inj, Int32.reduceToInt] at *); omega)); (try simp only [g_m1, Int32.lt_iff_toInt_lt, Int32.le_iff_toInt_le, ← Int32.toInt_inj, Int32.reduceToInt] at *); omega) | ((try simp only [g_m1, Int32.lt_iff_toInt_lt, Int32.le_iff_toInt_le, ← Int32.toInt_inj, Int32.toInt_add, Int32.toInt_sub, Int32.toInt_mul, Int32.toInt_neg, Int32.reduceToInt, g_bm, g_bm'] at *); omega) | (have qr1 := g_rng x1; have qr2 := g_rng x2; (try simp only [g_m1, Int32.lt_iff_toInt_lt, Int32.le_iff_toInt_le, ← Int32.toInt_inj, Int32.toInt_add, Int32.toInt_sub, Int32.toInt_mul, Int32.toInt_neg, Int32.reduceToInt, g_bm, g_bm'] at *); omega) | (simp only [g_m1, Int32.lt_iff_toInt_lt, Int32.le_iff_toInt_le, ← Int32.toInt_inj, Int32.toInt_add, Int32.toInt_sub, Int32.toInt_mul, Int32.toInt_neg, Int32.reduceToInt, g_bm, g_bm'] at *; simp at *; omega) | (simp_all; done)
set_option maxRecDepth 100000 in
theorem g_X2_sendOnce_v4 (u : qS) (x1 : Int32) (x2 : Int32) (hz : 0 ≤ (u.1 204).toInt ∧ (u.1 204).toInt ≤ 8) (hz8 : 0 ≤ u.1 8 ∧ u.1 8 ≤ 20) (hz9 : 0 ≤ u.1 9 ∧ u.1 9 ≤ 8) (hz10 : 0 ≤ u.1 10 ∧ u.1 10 ≤ 120) (hz12 : 0 ≤ u.1 12 ∧ u.1 12 ≤ 16) (h_d : 1 ≤ x1.toInt ∧ x1.toInt < 256) (h_k : 0 ≤ x2) (c20_2 : (u.1 204) ≤ (x2 : Int32)) : (x1 + (-1)).toInt.toNat * 20 + 19 < x1.toInt.toNat * 20 + ((u.1 204).toInt - x2.toInt).toNat := by
  first | omega | ((try simp only [g_m1, Int32.lt_iff_toInt_lt, Int32.le_iff_toInt_le, ← Int32.toInt_inj, Int32.reduceToInt] at *); omega) | ((try have ez0 : (x1 + (-1) : Int32).toInt = (x1 : Int32).toInt + ((-1) : Int32).toInt := g_add (by (try simp only [g_m1, Int32.lt_iff_toInt_lt, Int32.le_iff_toInt_le, ← Int32.toInt_inj, Int32.reduceToInt] at *); omega) (by (try simp only [g_m1, Int32.lt_iff_toInt_lt, Int32.le_iff_toInt_le, ← Int32.toInt_inj, Int32.reduceToInt] at *); omega)); (try simp only [g_m1, Int32.lt_iff_toInt_lt, Int32.le_iff_toInt_le, ← Int32.toInt_inj, Int32.reduceToInt] at *); omega) | ((try simp only [g_m1, Int32.lt_iff_toInt_lt, Int32.le_iff_toInt_le, ← Int32.toInt_inj, Int32.toInt_add, Int32.toInt_sub, Int32.toInt_mul, Int32.toInt_neg, Int32.reduceToInt, g_bm, g_bm'] at *); omega) | (have qr1 := g_rng x1; have qr2 := g_rng x2; (try simp only [g_m1, Int32.lt_iff_toInt_lt, Int32.le_iff_toInt_le, ← Int32.toInt_inj, Int32.toInt_add, Int32.toInt_sub, Int32.toInt_mul, Int32.toInt_neg, Int32.reduceToInt, g_bm, g_bm'] at *); omega) | (simp only [g_m1, Int32.lt_iff_toInt_lt, Int32.le_iff_toInt_le, ← Int32.toInt_inj, Int32.toInt_add, Int32.toInt_sub, Int32.toInt_mul, Int32.toInt_neg, Int32.reduceToInt, g_bm, g_bm'] at *; simp at *; omega) | (simp_all; done)
set_option maxRecDepth 100000 in
theorem g_X2_sendOnce_v5 (u : qS) (x1 : Int32) (x2 : Int32) (hz : 0 ≤ (u.1 204).toInt ∧ (u.1 204).toInt ≤ 8) (hz8 : 0 ≤ u.1 8 ∧ u.1 8 ≤ 20) (hz9 : 0 ≤ u.1 9 ∧ u.1 9 ≤ 8) (hz10 : 0 ≤ u.1 10 ∧ u.1 10 ≤ 120) (hz12 : 0 ≤ u.1 12 ∧ u.1 12 ≤ 16) (h_d : 1 ≤ x1.toInt ∧ x1.toInt < 256) (h_k : 0 ≤ x2) (c20_2 : ¬ (u.1 204) ≤ (x2 : Int32)) (c29_3 : ¬ ((x1 >>> (x2 &&& 31)) &&& 1 : Int32) = 1) : 1 ≤ x1.toInt ∧ x1.toInt < 256 := by
  first | omega | ((try simp only [g_m1, Int32.lt_iff_toInt_lt, Int32.le_iff_toInt_le, ← Int32.toInt_inj, Int32.reduceToInt] at *); omega) | ((try simp only [g_m1, Int32.lt_iff_toInt_lt, Int32.le_iff_toInt_le, ← Int32.toInt_inj, Int32.reduceToInt] at *); omega) | ((try simp only [g_m1, Int32.lt_iff_toInt_lt, Int32.le_iff_toInt_le, ← Int32.toInt_inj, Int32.toInt_add, Int32.toInt_sub, Int32.toInt_mul, Int32.toInt_neg, Int32.reduceToInt, g_bm, g_bm'] at *); omega) | (have qr1 := g_rng x1; have qr2 := g_rng x2; (try simp only [g_m1, Int32.lt_iff_toInt_lt, Int32.le_iff_toInt_le, ← Int32.toInt_inj, Int32.toInt_add, Int32.toInt_sub, Int32.toInt_mul, Int32.toInt_neg, Int32.reduceToInt, g_bm, g_bm'] at *); omega) | (simp only [g_m1, Int32.lt_iff_toInt_lt, Int32.le_iff_toInt_le, ← Int32.toInt_inj, Int32.toInt_add, Int32.toInt_sub, Int32.toInt_mul, Int32.toInt_neg, Int32.reduceToInt, g_bm, g_bm'] at *; simp at *; omega) | (simp_all; done)
set_option maxRecDepth 100000 in
theorem g_X2_sendOnce_v6 (u : qS) (x1 : Int32) (x2 : Int32) (hz : 0 ≤ (u.1 204).toInt ∧ (u.1 204).toInt ≤ 8) (hz8 : 0 ≤ u.1 8 ∧ u.1 8 ≤ 20) (hz9 : 0 ≤ u.1 9 ∧ u.1 9 ≤ 8) (hz10 : 0 ≤ u.1 10 ∧ u.1 10 ≤ 120) (hz12 : 0 ≤ u.1 12 ∧ u.1 12 ≤ 16) (h_d : 1 ≤ x1.toInt ∧ x1.toInt < 256) (h_k : 0 ≤ x2) (c20_2 : ¬ (u.1 204) ≤ (x2 : Int32)) (c29_3 : ¬ ((x1 >>> (x2 &&& 31)) &&& 1 : Int32) = 1) : 0 ≤ (x2 + 1) := by
  first | omega | ((try simp only [g_m1, Int32.lt_iff_toInt_lt, Int32.le_iff_toInt_le, ← Int32.toInt_inj, Int32.reduceToInt] at *); omega) | ((try have ez0 : (x2 + 1 : Int32).toInt = (x2 : Int32).toInt + (1 : Int32).toInt := g_add (by (try simp only [g_m1, Int32.lt_iff_toInt_lt, Int32.le_iff_toInt_le, ← Int32.toInt_inj, Int32.reduceToInt] at *); omega) (by (try simp only [g_m1, Int32.lt_iff_toInt_lt, Int32.le_iff_toInt_le, ← Int32.toInt_inj, Int32.reduceToInt] at *); omega)); (try simp only [g_m1, Int32.lt_iff_toInt_lt, Int32.le_iff_toInt_le, ← Int32.toInt_inj, Int32.reduceToInt] at *); omega) | ((try simp only [g_m1, Int32.lt_iff_toInt_lt, Int32.le_iff_toInt_le, ← Int32.toInt_inj, Int32.toInt_add, Int32.toInt_sub, Int32.toInt_mul, Int32.toInt_neg, Int32.reduceToInt, g_bm, g_bm'] at *); omega) | (have qr1 := g_rng x1; have qr2 := g_rng x2; (try simp only [g_m1, Int32.lt_iff_toInt_lt, Int32.le_iff_toInt_le, ← Int32.toInt_inj, Int32.toInt_add, Int32.toInt_sub, Int32.toInt_mul, Int32.toInt_neg, Int32.reduceToInt, g_bm, g_bm'] at *); omega) | (simp only [g_m1, Int32.lt_iff_toInt_lt, Int32.le_iff_toInt_le, ← Int32.toInt_inj, Int32.toInt_add, Int32.toInt_sub, Int32.toInt_mul, Int32.toInt_neg, Int32.reduceToInt, g_bm, g_bm'] at *; simp at *; omega) | (simp_all; done)
set_option maxRecDepth 100000 in
theorem g_X2_sendOnce_v7 (u : qS) (x1 : Int32) (x2 : Int32) (hz : 0 ≤ (u.1 204).toInt ∧ (u.1 204).toInt ≤ 8) (hz8 : 0 ≤ u.1 8 ∧ u.1 8 ≤ 20) (hz9 : 0 ≤ u.1 9 ∧ u.1 9 ≤ 8) (hz10 : 0 ≤ u.1 10 ∧ u.1 10 ≤ 120) (hz12 : 0 ≤ u.1 12 ∧ u.1 12 ≤ 16) (h_d : 1 ≤ x1.toInt ∧ x1.toInt < 256) (h_k : 0 ≤ x2) (c20_2 : ¬ (u.1 204) ≤ (x2 : Int32)) (c29_3 : ¬ ((x1 >>> (x2 &&& 31)) &&& 1 : Int32) = 1) : x1.toInt.toNat * 20 + ((u.1 204).toInt - (x2 + 1).toInt).toNat < x1.toInt.toNat * 20 + ((u.1 204).toInt - x2.toInt).toNat := by
  first | omega | ((try simp only [g_m1, Int32.lt_iff_toInt_lt, Int32.le_iff_toInt_le, ← Int32.toInt_inj, Int32.reduceToInt] at *); omega) | ((try have ez0 : (x2 + 1 : Int32).toInt = (x2 : Int32).toInt + (1 : Int32).toInt := g_add (by (try simp only [g_m1, Int32.lt_iff_toInt_lt, Int32.le_iff_toInt_le, ← Int32.toInt_inj, Int32.reduceToInt] at *); omega) (by (try simp only [g_m1, Int32.lt_iff_toInt_lt, Int32.le_iff_toInt_le, ← Int32.toInt_inj, Int32.reduceToInt] at *); omega)); (try simp only [g_m1, Int32.lt_iff_toInt_lt, Int32.le_iff_toInt_le, ← Int32.toInt_inj, Int32.reduceToInt] at *); omega) | ((try simp only [g_m1, Int32.lt_iff_toInt_lt, Int32.le_iff_toInt_le, ← Int32.toInt_inj, Int32.toInt_add, Int32.toInt_sub, Int32.toInt_mul, Int32.toInt_neg, Int32.reduceToInt, g_bm, g_bm'] at *); omega) | (have qr1 := g_rng x1; have qr2 := g_rng x2; (try simp only [g_m1, Int32.lt_iff_toInt_lt, Int32.le_iff_toInt_le, ← Int32.toInt_inj, Int32.toInt_add, Int32.toInt_sub, Int32.toInt_mul, Int32.toInt_neg, Int32.reduceToInt, g_bm, g_bm'] at *); omega) | (simp only [g_m1, Int32.lt_iff_toInt_lt, Int32.le_iff_toInt_le, ← Int32.toInt_inj, Int32.toInt_add, Int32.toInt_sub, Int32.toInt_mul, Int32.toInt_neg, Int32.reduceToInt, g_bm, g_bm'] at *; simp at *; omega) | (simp_all; done)
set_option maxRecDepth 100000 in
theorem g_X2_sendOnce_v8 (u : qS) (x1 : Int32) (x2 : Int32) (hz : 0 ≤ (u.1 204).toInt ∧ (u.1 204).toInt ≤ 8) (hz8 : 0 ≤ u.1 8 ∧ u.1 8 ≤ 20) (hz9 : 0 ≤ u.1 9 ∧ u.1 9 ≤ 8) (hz10 : 0 ≤ u.1 10 ∧ u.1 10 ≤ 120) (hz12 : 0 ≤ u.1 12 ∧ u.1 12 ≤ 16) (h_d : 1 ≤ x1.toInt ∧ x1.toInt < 256) (h_k : 0 ≤ x2) (c20_2 : ¬ (u.1 204) ≤ (x2 : Int32)) (c29_3 : ((x1 >>> (x2 &&& 31)) &&& 1 : Int32) = 1) : vp_in (x1) 256 := by
  refine g_in ?_ ?_ <;> ((try simp only [g_m1, Int32.lt_iff_toInt_lt, Int32.le_iff_toInt_le, ← Int32.toInt_inj, Int32.toInt_add, Int32.toInt_sub, Int32.toInt_mul, Int32.toInt_neg, Int32.reduceToInt, g_bm, g_bm'] at *); omega)
set_option maxRecDepth 100000 in
theorem g_X2_sendOnce_v9 (u : qS) (x1 : Int32) (x2 : Int32) (hz : 0 ≤ (u.1 204).toInt ∧ (u.1 204).toInt ≤ 8) (hz8 : 0 ≤ u.1 8 ∧ u.1 8 ≤ 20) (hz9 : 0 ≤ u.1 9 ∧ u.1 9 ≤ 8) (hz10 : 0 ≤ u.1 10 ∧ u.1 10 ≤ 120) (hz12 : 0 ≤ u.1 12 ∧ u.1 12 ≤ 16) (h_d : 1 ≤ x1.toInt ∧ x1.toInt < 256) (h_k : 0 ≤ x2) (c20_2 : ¬ (u.1 204) ≤ (x2 : Int32)) (c29_3 : ((x1 >>> (x2 &&& 31)) &&& 1 : Int32) = 1) : vp_in (x1 ^^^ (1 <<< (x2 &&& 31))) 256 := by
  have q1 := g_sh1 (k := x2) (by (try simp only [g_m1, Int32.lt_iff_toInt_lt, Int32.le_iff_toInt_le, ← Int32.toInt_inj, Int32.reduceToInt] at *); omega) (by (try simp only [g_m1, Int32.lt_iff_toInt_lt, Int32.le_iff_toInt_le, ← Int32.toInt_inj, Int32.reduceToInt] at *); omega)
  have q2 := g_xor8 (x := x1) (y := (1 : Int32) <<< (x2 &&& 31)) (by omega) ⟨by omega, q1.2.2 (by (try simp only [g_m1, Int32.lt_iff_toInt_lt, Int32.le_iff_toInt_le, ← Int32.toInt_inj, Int32.reduceToInt] at *); omega)⟩
  exact g_in q2.1 (by omega)
set_option maxRecDepth 100000 in
theorem g_X2_sendOnce_v10 (u : qS) (x1 : Int32) (x2 : Int32) (hz : 0 ≤ (u.1 204).toInt ∧ (u.1 204).toInt ≤ 8) (hz8 : 0 ≤ u.1 8 ∧ u.1 8 ≤ 20) (hz9 : 0 ≤ u.1 9 ∧ u.1 9 ≤ 8) (hz10 : 0 ≤ u.1 10 ∧ u.1 10 ≤ 120) (hz12 : 0 ≤ u.1 12 ∧ u.1 12 ≤ 16) (h_d : 1 ≤ x1.toInt ∧ x1.toInt < 256) (h_k : 0 ≤ x2) (c20_2 : ¬ (u.1 204) ≤ (x2 : Int32)) (c29_3 : ((x1 >>> (x2 &&& 31)) &&& 1 : Int32) = 1) : vp_in (x2) 8 := by
  refine g_in ?_ ?_ <;> ((try simp only [g_m1, Int32.lt_iff_toInt_lt, Int32.le_iff_toInt_le, ← Int32.toInt_inj, Int32.toInt_add, Int32.toInt_sub, Int32.toInt_mul, Int32.toInt_neg, Int32.reduceToInt, g_bm, g_bm'] at *); omega)
set_option maxRecDepth 100000 in
theorem g_X2_sendOnce_v11 (u : qS) (x1 : Int32) (x2 : Int32) (hz : 0 ≤ (u.1 204).toInt ∧ (u.1 204).toInt ≤ 8) (hz8 : 0 ≤ u.1 8 ∧ u.1 8 ≤ 20) (hz9 : 0 ≤ u.1 9 ∧ u.1 9 ≤ 8) (hz10 : 0 ≤ u.1 10 ∧ u.1 10 ≤ 120) (hz12 : 0 ≤ u.1 12 ∧ u.1 12 ≤ 16) (h_d : 1 ≤ x1.toInt ∧ x1.toInt < 256) (h_k : 0 ≤ x2) (c20_2 : ¬ (u.1 204) ≤ (x2 : Int32)) (c29_3 : ((x1 >>> (x2 &&& 31)) &&& 1 : Int32) = 1) : vp_in (x1) 256 := by
  refine g_in ?_ ?_ <;> ((try simp only [g_m1, Int32.lt_iff_toInt_lt, Int32.le_iff_toInt_le, ← Int32.toInt_inj, Int32.toInt_add, Int32.toInt_sub, Int32.toInt_mul, Int32.toInt_neg, Int32.reduceToInt, g_bm, g_bm'] at *); omega)
set_option maxRecDepth 100000 in
theorem g_X2_sendOnce_v12 (u : qS) (x1 : Int32) (x2 : Int32) (uc : qS) (r_4 : Int64) (f_5 : Nat → Int64) (hz : 0 ≤ (u.1 204).toInt ∧ (u.1 204).toInt ≤ 8) (hz8 : 0 ≤ u.1 8 ∧ u.1 8 ≤ 20) (hz9 : 0 ≤ u.1 9 ∧ u.1 9 ≤ 8) (hz10 : 0 ≤ u.1 10 ∧ u.1 10 ≤ 120) (hz12 : 0 ≤ u.1 12 ∧ u.1 12 ≤ 16) (h_d : 1 ≤ x1.toInt ∧ x1.toInt < 256) (h_k : 0 ≤ x2) (c20_2 : ¬ (u.1 204) ≤ (x2 : Int32)) (c29_3 : ((x1 >>> (x2 &&& 31)) &&& 1 : Int32) = 1) (hf_5 : f_5 = vp_updL (uc.2.2.1 201) (x1 : Int32).toNatClampNeg r_4) : 1 ≤ x1.toInt ∧ x1.toInt < 256 := by
  first | omega | ((try simp only [g_m1, Int32.lt_iff_toInt_lt, Int32.le_iff_toInt_le, ← Int32.toInt_inj, Int32.reduceToInt] at *); omega) | ((try simp only [g_m1, Int32.lt_iff_toInt_lt, Int32.le_iff_toInt_le, ← Int32.toInt_inj, Int32.reduceToInt] at *); omega) | ((try simp only [g_m1, Int32.lt_iff_toInt_lt, Int32.le_iff_toInt_le, ← Int32.toInt_inj, Int32.toInt_add, Int32.toInt_sub, Int32.toInt_mul, Int32.toInt_neg, Int32.reduceToInt, g_bm, g_bm'] at *); omega) | (have qr1 := g_rng x1; have qr2 := g_rng x2; (try simp only [g_m1, Int32.lt_iff_toInt_lt, Int32.le_iff_toInt_le, ← Int32.toInt_inj, Int32.toInt_add, Int32.toInt_sub, Int32.toInt_mul, Int32.toInt_neg, Int32.reduceToInt, g_bm, g_bm'] at *); omega) | (simp only [g_m1, Int32.lt_iff_toInt_lt, Int32.le_iff_toInt_le, ← Int32.toInt_inj, Int32.toInt_add, Int32.toInt_sub, Int32.toInt_mul, Int32.toInt_neg, Int32.reduceToInt, g_bm, g_bm'] at *; simp at *; omega) | (simp_all; done)
set_option maxRecDepth 100000 in
theorem g_X2_sendOnce_v13 (u : qS) (x1 : Int32) (x2 : Int32) (uc : qS) (r_4 : Int64) (f_5 : Nat → Int64) (hz : 0 ≤ (u.1 204).toInt ∧ (u.1 204).toInt ≤ 8) (hz8 : 0 ≤ u.1 8 ∧ u.1 8 ≤ 20) (hz9 : 0 ≤ u.1 9 ∧ u.1 9 ≤ 8) (hz10 : 0 ≤ u.1 10 ∧ u.1 10 ≤ 120) (hz12 : 0 ≤ u.1 12 ∧ u.1 12 ≤ 16) (h_d : 1 ≤ x1.toInt ∧ x1.toInt < 256) (h_k : 0 ≤ x2) (c20_2 : ¬ (u.1 204) ≤ (x2 : Int32)) (c29_3 : ((x1 >>> (x2 &&& 31)) &&& 1 : Int32) = 1) (hf_5 : f_5 = vp_updL (uc.2.2.1 201) (x1 : Int32).toNatClampNeg r_4) : 0 ≤ (x2 + 1) := by
  first | omega | ((try simp only [g_m1, Int32.lt_iff_toInt_lt, Int32.le_iff_toInt_le, ← Int32.toInt_inj, Int32.reduceToInt] at *); omega) | ((try have ez0 : (x2 + 1 : Int32).toInt = (x2 : Int32).toInt + (1 : Int32).toInt := g_add (by (try simp only [g_m1, Int32.lt_iff_toInt_lt, Int32.le_iff_toInt_le, ← Int32.toInt_inj, Int32.reduceToInt] at *); omega) (by (try simp only [g_m1, Int32.lt_iff_toInt_lt, Int32.le_iff_toInt_le, ← Int32.toInt_inj, Int32.reduceToInt] at *); omega)); (try simp only [g_m1, Int32.lt_iff_toInt_lt, Int32.le_iff_toInt_le, ← Int32.toInt_inj, Int32.reduceToInt] at *); omega) | ((try simp only [g_m1, Int32.lt_iff_toInt_lt, Int32.le_iff_toInt_le, ← Int32.toInt_inj, Int32.toInt_add, Int32.toInt_sub, Int32.toInt_mul, Int32.toInt_neg, Int32.reduceToInt, g_bm, g_bm'] at *); omega) | (have qr1 := g_rng x1; have qr2 := g_rng x2; (try simp only [g_m1, Int32.lt_iff_toInt_lt, Int32.le_iff_toInt_le, ← Int32.toInt_inj, Int32.toInt_add, Int32.toInt_sub, Int32.toInt_mul, Int32.toInt_neg, Int32.reduceToInt, g_bm, g_bm'] at *); omega) | (simp only [g_m1, Int32.lt_iff_toInt_lt, Int32.le_iff_toInt_le, ← Int32.toInt_inj, Int32.toInt_add, Int32.toInt_sub, Int32.toInt_mul, Int32.toInt_neg, Int32.reduceToInt, g_bm, g_bm'] at *; simp at *; omega) | (simp_all; done)
set_option maxRecDepth 100000 in
theorem g_X2_sendOnce_v14 (u : qS) (x1 : Int32) (x2 : Int32) (uc : qS) (r_4 : Int64) (f_5 : Nat → Int64) (hz : 0 ≤ (u.1 204).toInt ∧ (u.1 204).toInt ≤ 8) (hz8 : 0 ≤ u.1 8 ∧ u.1 8 ≤ 20) (hz9 : 0 ≤ u.1 9 ∧ u.1 9 ≤ 8) (hz10 : 0 ≤ u.1 10 ∧ u.1 10 ≤ 120) (hz12 : 0 ≤ u.1 12 ∧ u.1 12 ≤ 16) (h_d : 1 ≤ x1.toInt ∧ x1.toInt < 256) (h_k : 0 ≤ x2) (c20_2 : ¬ (u.1 204) ≤ (x2 : Int32)) (c29_3 : ((x1 >>> (x2 &&& 31)) &&& 1 : Int32) = 1) (hf_5 : f_5 = vp_updL (uc.2.2.1 201) (x1 : Int32).toNatClampNeg r_4) : x1.toInt.toNat * 20 + ((u.1 204).toInt - (x2 + 1).toInt).toNat < x1.toInt.toNat * 20 + ((u.1 204).toInt - x2.toInt).toNat := by
  first | omega | ((try simp only [g_m1, Int32.lt_iff_toInt_lt, Int32.le_iff_toInt_le, ← Int32.toInt_inj, Int32.reduceToInt] at *); omega) | ((try have ez0 : (x2 + 1 : Int32).toInt = (x2 : Int32).toInt + (1 : Int32).toInt := g_add (by (try simp only [g_m1, Int32.lt_iff_toInt_lt, Int32.le_iff_toInt_le, ← Int32.toInt_inj, Int32.reduceToInt] at *); omega) (by (try simp only [g_m1, Int32.lt_iff_toInt_lt, Int32.le_iff_toInt_le, ← Int32.toInt_inj, Int32.reduceToInt] at *); omega)); (try simp only [g_m1, Int32.lt_iff_toInt_lt, Int32.le_iff_toInt_le, ← Int32.toInt_inj, Int32.reduceToInt] at *); omega) | ((try simp only [g_m1, Int32.lt_iff_toInt_lt, Int32.le_iff_toInt_le, ← Int32.toInt_inj, Int32.toInt_add, Int32.toInt_sub, Int32.toInt_mul, Int32.toInt_neg, Int32.reduceToInt, g_bm, g_bm'] at *); omega) | (have qr1 := g_rng x1; have qr2 := g_rng x2; (try simp only [g_m1, Int32.lt_iff_toInt_lt, Int32.le_iff_toInt_le, ← Int32.toInt_inj, Int32.toInt_add, Int32.toInt_sub, Int32.toInt_mul, Int32.toInt_neg, Int32.reduceToInt, g_bm, g_bm'] at *); omega) | (simp only [g_m1, Int32.lt_iff_toInt_lt, Int32.le_iff_toInt_le, ← Int32.toInt_inj, Int32.toInt_add, Int32.toInt_sub, Int32.toInt_mul, Int32.toInt_neg, Int32.reduceToInt, g_bm, g_bm'] at *; simp at *; omega) | (simp_all; done)
set_option maxRecDepth 100000 in
theorem g_X2_sendOnce_v15 (u : qS) (hz : 0 ≤ (u.1 204).toInt ∧ (u.1 204).toInt ≤ 8) (hz8 : 0 ≤ u.1 8 ∧ u.1 8 ≤ 20) (hz9 : 0 ≤ u.1 9 ∧ u.1 9 ≤ 8) (hz10 : 0 ≤ u.1 10 ∧ u.1 10 ≤ 120) (hz12 : 0 ≤ u.1 12 ∧ u.1 12 ≤ 16) : 0 ≤ ((1 <<< (u.1 204 &&& 31)) - 1).toInt ∧ ((1 <<< (u.1 204 &&& 31)) - 1).toInt < 256 := by
  have q1 := g_sh1 (k := u.1 204) hz.1 hz.2
  have e1 : ((1 : Int32) <<< ((u.1 204) &&& 31) - 1).toInt = ((1 : Int32) <<< ((u.1 204) &&& 31)).toInt - 1 := g_sub (x := (1 : Int32) <<< ((u.1 204) &&& 31)) (y := 1) (by show _ ≤ ((1 : Int32) <<< ((u.1 204) &&& 31)).toInt - 1; omega) (by show ((1 : Int32) <<< ((u.1 204) &&& 31)).toInt - 1 < _; omega)
  omega
set_option maxHeartbeats 1000000 in
set_option maxRecDepth 100000 in
theorem g_X2_sendOnce (l : Launch) (E : qE) (A : Nat → Prop) (u : qS) (hI : IC E u) (hz : 0 ≤ (u.1 204).toInt ∧ (u.1 204).toInt ≤ 8) : Met l yX2_sendOnce (uws yX2_sendOnce cX2_sendOnce 3 none) (qR 2 0 0) (qPc E A 0 u [.ref (E.2.2 299)]) (qQv E A 0 (fun u1 => (qFc [] [] [201] [] u u1 ∧ IC E u1 ∧ u1.2.2.2.2 = u.2.2.2.2) ∧ (True))) 0 0 A := by
  refine q_met (own := RX2) (f := 2) [.ref (E.2.2 299)] (by decide) (Nat.le_of_ble_eq_true rfl) rfl ?_
  intro p0 e0 s0 m0 bl0 me0 cd0 ls hF hr hlocks hU hS hA hl
  have hl : lv_has ls 3 [(0, .ref (E.2.2 299))] := hl
  have hkd : u.2.2.2.2 = u.2.2.2.2 := rfl
  have hz8 : 0 ≤ u.1 8 ∧ u.1 8 ≤ 20 := hI.1.s8
  have hz9 : 0 ≤ u.1 9 ∧ u.1 9 ≤ 8 := hI.1.s9
  have hz10 : 0 ≤ u.1 10 ∧ u.1 10 ≤ 120 := hI.1.s10
  have hz12 : 0 ≤ u.1 12 ∧ u.1 12 ≤ 16 := hI.1.s12
  have hfr : qFc [] [] [201] [] u u := qFc.rf
  have main : ∀ n : Nat, (∀ (x1 : Int32) (uc : qS) (H : Heap) (locs : List Loc) (ls : Array Slot) (hfr : qFc [] [] [201] [] u uc) (hI : IC E uc) (hkd : uc.2.2.2.2 = u.2.2.2.2) (h_d : 0 ≤ x1.toInt ∧ x1.toInt < 256), x1.toInt.toNat * 20 + 19 < n → qH E A 0 uc s0 H → va_S A s0.heap H locs → lv_has ls 3 [(0, .ref (E.2.2 299)), (1, .int x1)] → W p0 l e0 (qR 2 0 0) s0 m0 ([.ref (E.2.2 299)] : List Value).toArray bl0 me0 cd0 H locs 0 0 (MQ bl0 (qQv E A 0 (fun u1 => (qFc [] [] [201] [] u u1 ∧ IC E u1 ∧ u1.2.2.2.2 = u.2.2.2.2) ∧ (True))) ([.ref (E.2.2 299)] : List Value).toArray s0 0 0 A) (F0 m0 9 ls [])) ∧ (∀ (x1 : Int32) (x2 : Int32) (uc : qS) (H : Heap) (locs : List Loc) (ls : Array Slot) (hfr : qFc [] [] [201] [] u uc) (hI : IC E uc) (hkd : uc.2.2.2.2 = u.2.2.2.2) (h_d : 1 ≤ x1.toInt ∧ x1.toInt < 256) (h_k : 0 ≤ x2), x1.toInt.toNat * 20 + ((u.1 204).toInt - x2.toInt).toNat < n → qH E A 0 uc s0 H → va_S A s0.heap H locs → lv_has ls 3 [(0, .ref (E.2.2 299)), (1, .int x1), (2, .int x2)] → W p0 l e0 (qR 2 0 0) s0 m0 ([.ref (E.2.2 299)] : List Value).toArray bl0 me0 cd0 H locs 0 0 (MQ bl0 (qQv E A 0 (fun u1 => (qFc [] [] [201] [] u u1 ∧ IC E u1 ∧ u1.2.2.2.2 = u.2.2.2.2) ∧ (True))) ([.ref (E.2.2 299)] : List Value).toArray s0 0 0 A) (F0 m0 15 ls [])) := by
    clear hI hfr hkd
    intro n
    induction n with
    | zero => exact ⟨fun _ _ _ _ _ _ _ _ _ hmu => absurd hmu (Nat.not_lt_zero _), fun _ _ _ _ _ _ _ _ _ _ _ hmu => absurd hmu (Nat.not_lt_zero _)⟩
    | succ n ih =>
      refine ⟨?_, ?_⟩
      · intro x1 uc H locs ls hfr hI hkd h_d hmu hU hS hl
        refine lv_iload_n hF.1 hF.2.1 dX2_sendOnce_9 rfl (lv_at hl 1 rfl) ?_
        refine lv_if_le (tgt := 76) hF.1 hF.2.1 dX2_sendOnce_10 (by decide) (fun c10_1 => ?_) (fun c10_1 => ?_)
        · exact q_vret hF hr hlocks hU hS dX2_sendOnce_76 ⟨⟨hfr, hI, hkd⟩, trivial⟩
        · refine lv_iconst (v := 0) hF.1 hF.2.1 dX2_sendOnce_13 (by decide) ?_
          refine lv_istore_n (lv' := [(2, .int 0), (0, .ref (E.2.2 299)), (1, .int x1)]) hF.1 hF.2.1 dX2_sendOnce_14 rfl hl (by decide) rfl (fun ls hl => ?_)
          exact ih.2 x1 (0 : Int32) uc _ _ _ hfr hI hkd  (g_X2_sendOnce_v0 u x1 hz hz8 hz9 hz10 hz12 h_d c10_1) (g_X2_sendOnce_v1 u x1 hz hz8 hz9 hz10 hz12 h_d c10_1) (Nat.lt_of_lt_of_le (g_X2_sendOnce_v2 u x1 hz hz8 hz9 hz10 hz12 h_d c10_1) (Nat.lt_succ_iff.mp hmu)) hU hS (lv_sub hl [1, 2, 0] rfl)
      · intro x1 x2 uc H locs ls hfr hI hkd h_d h_k hmu hU hS hl
        refine lv_iload_n hF.1 hF.2.1 dX2_sendOnce_15 rfl (lv_at hl 2 rfl) ?_
        refine lv_aload_n hF.1 hF.2.1 dX2_sendOnce_16 rfl (lv_at hl 0 rfl) ?_
        refine q_get (v := .int (u.1 204)) hF hU dX2_sendOnce_17 7 2 4 204 299 rfl rfl rfl rfl inX2 (by decide) (by decide) w_424 rfl (congrArg Value.int (hfr.1 204 (by decide))) ?_
        refine lv_icmp_ge (tgt := 70) hF.1 hF.2.1 dX2_sendOnce_20 (by decide) (fun c20_2 => ?_) (fun c20_2 => ?_)
        · refine lv_iinc (v := x1 + (-1)) (lv' := [(1, .int (x1 + (-1))), (0, .ref (E.2.2 299)), (2, .int x2)]) hF.1 hF.2.1 dX2_sendOnce_70 hl (k := 1) rfl rfl (by decide) rfl (fun ls hl => ?_)
          refine lv_goto (tgt := 9) hF.1 hF.2.1 dX2_sendOnce_73 (by decide) ?_
          exact ih.1 (x1 + (-1)) uc _ _ _ hfr hI hkd  (g_X2_sendOnce_v3 u x1 x2 hz hz8 hz9 hz10 hz12 h_d h_k c20_2) (Nat.lt_of_lt_of_le (g_X2_sendOnce_v4 u x1 x2 hz hz8 hz9 hz10 hz12 h_d h_k c20_2) (Nat.lt_succ_iff.mp hmu)) hU hS (lv_sub hl [1, 0] rfl)
        · refine lv_iload_n hF.1 hF.2.1 dX2_sendOnce_23 rfl (lv_at hl 1 rfl) ?_
          refine lv_iload_n hF.1 hF.2.1 dX2_sendOnce_24 rfl (lv_at hl 2 rfl) ?_
          refine lv_ishr hF.1 hF.2.1 dX2_sendOnce_25 ?_
          refine lv_iconst (v := 1) hF.1 hF.2.1 dX2_sendOnce_26 (by decide) ?_
          refine lv_iand hF.1 hF.2.1 dX2_sendOnce_27 ?_
          refine lv_iconst (v := 1) hF.1 hF.2.1 dX2_sendOnce_28 (by decide) ?_
          refine lv_icmp_ne (tgt := 64) hF.1 hF.2.1 dX2_sendOnce_29 (by decide) (fun c29_3 => ?_) (fun c29_3 => ?_)
          · refine lv_iinc (v := x2 + 1) (lv' := [(2, .int (x2 + 1)), (0, .ref (E.2.2 299)), (1, .int x1)]) hF.1 hF.2.1 dX2_sendOnce_64 hl (k := 2) rfl rfl (by decide) rfl (fun ls hl => ?_)
            refine lv_goto (tgt := 15) hF.1 hF.2.1 dX2_sendOnce_67 (by decide) ?_
            exact ih.2 x1 (x2 + 1) uc _ _ _ hfr hI hkd  (g_X2_sendOnce_v5 u x1 x2 hz hz8 hz9 hz10 hz12 h_d h_k c20_2 c29_3) (g_X2_sendOnce_v6 u x1 x2 hz hz8 hz9 hz10 hz12 h_d h_k c20_2 c29_3) (Nat.lt_of_lt_of_le (g_X2_sendOnce_v7 u x1 x2 hz hz8 hz9 hz10 hz12 h_d h_k c20_2 c29_3) (Nat.lt_succ_iff.mp hmu)) hU hS (lv_sub hl [1, 2, 0] rfl)
          · refine lv_aload_n hF.1 hF.2.1 dX2_sendOnce_32 rfl (lv_at hl 0 rfl) ?_
            refine q_get (v := .ref (E.2.2 201)) hF hU dX2_sendOnce_33 7 2 1 201 299 rfl rfl rfl rfl inX2 (by decide) (by decide) w_421 rfl rfl ?_
            refine lv_iload_n hF.1 hF.2.1 dX2_sendOnce_36 rfl (lv_at hl 1 rfl) ?_
            refine lv_aload_n hF.1 hF.2.1 dX2_sendOnce_37 rfl (lv_at hl 0 rfl) ?_
            refine q_get (v := .ref (E.2.2 201)) hF hU dX2_sendOnce_38 7 2 1 201 299 rfl rfl rfl rfl inX2 (by decide) (by decide) w_421 rfl rfl ?_
            refine lv_iload_n hF.1 hF.2.1 dX2_sendOnce_41 rfl (lv_at hl 1 rfl) ?_
            refine q_lald (v := uc.2.2.1 201 (x1 : Int32).toNatClampNeg) hF hU dX2_sendOnce_42 25 201 rfl rfl (g_X2_sendOnce_v8 u x1 x2 hz hz8 hz9 hz10 hz12 h_d h_k c20_2 c29_3) rfl ?_
            refine lv_aload_n hF.1 hF.2.1 dX2_sendOnce_43 rfl (lv_at hl 0 rfl) ?_
            refine q_get (v := .ref (E.2.2 201)) hF hU dX2_sendOnce_44 7 2 1 201 299 rfl rfl rfl rfl inX2 (by decide) (by decide) w_421 rfl rfl ?_
            refine lv_iload_n hF.1 hF.2.1 dX2_sendOnce_47 rfl (lv_at hl 1 rfl) ?_
            refine lv_iconst (v := 1) hF.1 hF.2.1 dX2_sendOnce_48 (by decide) ?_
            refine lv_iload_n hF.1 hF.2.1 dX2_sendOnce_49 rfl (lv_at hl 2 rfl) ?_
            refine lv_ishl hF.1 hF.2.1 dX2_sendOnce_50 ?_
            refine lv_ixor hF.1 hF.2.1 dX2_sendOnce_51 ?_
            refine q_lald (v := uc.2.2.1 201 (x1 ^^^ (1 <<< (x2 &&& 31)) : Int32).toNatClampNeg) hF hU dX2_sendOnce_52 25 201 rfl rfl (g_X2_sendOnce_v9 u x1 x2 hz hz8 hz9 hz10 hz12 h_d h_k c20_2 c29_3) rfl ?_
            refine lv_aload_n hF.1 hF.2.1 dX2_sendOnce_53 rfl (lv_at hl 0 rfl) ?_
            refine q_get (v := .ref (E.2.2 202)) hF hU dX2_sendOnce_54 7 2 2 202 299 rfl rfl rfl rfl inX2 (by decide) (by decide) w_422 rfl rfl ?_
            refine lv_iload_n hF.1 hF.2.1 dX2_sendOnce_57 rfl (lv_at hl 2 rfl) ?_
            refine q_lald (v := u.2.2.1 202 (x2 : Int32).toNatClampNeg) hF hU dX2_sendOnce_58 26 202 rfl rfl (g_X2_sendOnce_v10 u x1 x2 hz hz8 hz9 hz10 hz12 h_d h_k c20_2 c29_3) (congrFun (hfr.2.2.1 202 (by decide)) _) ?_
            refine lv_ladd hF.1 hF.2.1 dX2_sendOnce_59 ?_
            refine va_mmin_long hF.1 hF.2.1 (hF.2.2.1.trans hl.1.symm) hF.2.2.2.1 (hF.2.2.2.2 _ w_1135) (hF.2.2.2.2 _ w_1136) (hF.2.2.2.2 _ w_113) (hF.2.2.2.2 _ w_1137) (by decide) (Nat.le_of_ble_eq_true rfl) (by decide) (by decide) dX2_sendOnce_60 ?_
            obtain ⟨r_4, hr_4⟩ : ∃ z : Int64, z = (if ((uc.2.2.1 201 (x1 ^^^ (1 <<< (x2 &&& 31)) : Int32).toNatClampNeg) + (u.2.2.1 202 (x2 : Int32).toNatClampNeg) : Int64) < (uc.2.2.1 201 (x1 : Int32).toNatClampNeg) then ((uc.2.2.1 201 (x1 ^^^ (1 <<< (x2 &&& 31)) : Int32).toNatClampNeg) + (u.2.2.1 202 (x2 : Int32).toNatClampNeg)) else (uc.2.2.1 201 (x1 : Int32).toNatClampNeg)) := ⟨_, rfl⟩
            refine q_topl hr_4.symm ?_
            refine q_last hF hU hS dX2_sendOnce_63 25 201 rfl rfl (g_X2_sendOnce_v11 u x1 x2 hz hz8 hz9 hz10 hz12 h_d h_k c20_2 c29_3) (fun f_5 H locs hg9 hU hS => ?_)
            have hf_5 : f_5 = vp_updL (uc.2.2.1 201) (x1 : Int32).toNatClampNeg r_4 := hg9
            have hfr : qFc [] [] [201] [] u (qsG uc 201 f_5) := hfr.setG (by decide)
            have hI : IC E (qsG uc 201 f_5) := hI.sG
            refine lv_iinc (v := x2 + 1) (lv' := [(2, .int (x2 + 1)), (0, .ref (E.2.2 299)), (1, .int x1)]) hF.1 hF.2.1 dX2_sendOnce_64 hl (k := 2) rfl rfl (by decide) rfl (fun ls hl => ?_)
            refine lv_goto (tgt := 15) hF.1 hF.2.1 dX2_sendOnce_67 (by decide) ?_
            exact ih.2 x1 (x2 + 1) (qsG uc 201 f_5) _ _ _ hfr hI hkd  (g_X2_sendOnce_v12 u x1 x2 uc r_4 f_5 hz hz8 hz9 hz10 hz12 h_d h_k c20_2 c29_3 hf_5) (g_X2_sendOnce_v13 u x1 x2 uc r_4 f_5 hz hz8 hz9 hz10 hz12 h_d h_k c20_2 c29_3 hf_5) (Nat.lt_of_lt_of_le (g_X2_sendOnce_v14 u x1 x2 uc r_4 f_5 hz hz8 hz9 hz10 hz12 h_d h_k c20_2 c29_3 hf_5) (Nat.lt_succ_iff.mp hmu)) hU hS (lv_sub hl [1, 2, 0] rfl)
  refine lv_iconst (v := 1) hF.1 hF.2.1 dX2_sendOnce_0 (by decide) ?_
  refine lv_aload_n hF.1 hF.2.1 dX2_sendOnce_1 rfl (lv_at hl 0 rfl) ?_
  refine q_get (v := .int (u.1 204)) hF hU dX2_sendOnce_2 7 2 4 204 299 rfl rfl rfl rfl inX2 (by decide) (by decide) w_424 rfl rfl ?_
  refine lv_ishl hF.1 hF.2.1 dX2_sendOnce_5 ?_
  refine lv_iconst (v := 1) hF.1 hF.2.1 dX2_sendOnce_6 (by decide) ?_
  refine lv_isub hF.1 hF.2.1 dX2_sendOnce_7 ?_
  refine lv_istore_n (lv' := [(1, .int ((1 <<< (u.1 204 &&& 31)) - 1)), (0, .ref (E.2.2 299))]) hF.1 hF.2.1 dX2_sendOnce_8 rfl hl (by decide) rfl (fun ls hl => ?_)
  exact (main _).1 ((1 <<< (u.1 204 &&& 31)) - 1) u _ _ _ hfr hI hkd  (g_X2_sendOnce_v15 u hz hz8 hz9 hz10 hz12) (Nat.lt_succ_self _) hU hS (lv_sub hl [1, 0] rfl)
set_option maxRecDepth 100000 in
theorem g_X2_give_v0 (u : qS) (x : Int32) (y : Int32) (x3 : Int32) (uc : qS) (hz8 : 0 ≤ u.1 8 ∧ u.1 8 ≤ 20) (hz9 : 0 ≤ u.1 9 ∧ u.1 9 ≤ 8) (hz10 : 0 ≤ u.1 10 ∧ u.1 10 ≤ 120) (hz12 : 0 ≤ u.1 12 ∧ u.1 12 ≤ 16) (h_k : 0 ≤ x3) (h_z : 0 ≤ (uc.1 204).toInt ∧ (uc.1 204).toInt ≤ 8) (h_g : g_rw (uc.2.1 203) (uc.1 204).toInt 0 (u.1 8).toInt) (c32_1 : (u.1 9) ≤ (x3 : Int32)) : vp_in ((1 <<< (uc.1 204 &&& 31)) - 1) 256 := by
  have q1 := g_sh1 (k := uc.1 204) h_z.1 h_z.2
  have e1 : ((1 : Int32) <<< ((uc.1 204) &&& 31) - 1).toInt = ((1 : Int32) <<< ((uc.1 204) &&& 31)).toInt - 1 := g_sub (x := (1 : Int32) <<< ((uc.1 204) &&& 31)) (y := 1) (by show _ ≤ ((1 : Int32) <<< ((uc.1 204) &&& 31)).toInt - 1; omega) (by show ((1 : Int32) <<< ((uc.1 204) &&& 31)).toInt - 1 < _; omega)
  refine g_in ?_ ?_ <;> omega
set_option maxRecDepth 100000 in
theorem g_X2_give_v1 (u : qS) (x3 : Int32) (uc : qS) (r_2 : Int32) (hz8 : 0 ≤ u.1 8 ∧ u.1 8 ≤ 20) (hz9 : 0 ≤ u.1 9 ∧ u.1 9 ≤ 8) (hz10 : 0 ≤ u.1 10 ∧ u.1 10 ≤ 120) (hz12 : 0 ≤ u.1 12 ∧ u.1 12 ≤ 16) (h_k : 0 ≤ x3) (h_z : 0 ≤ (uc.1 204).toInt ∧ (uc.1 204).toInt ≤ 8) (h_g : g_rw (uc.2.1 203) (uc.1 204).toInt 0 (u.1 8).toInt) (c32_1 : (u.1 9) ≤ (x3 : Int32)) (c72_3 : 0 ≤ (r_2 : Int32)) : (0 = (1 : Int32) ∧ (0 ≤ ((uc.1 204 : Int32)).toInt ∧ ((uc.1 204 : Int32)).toInt ≤ 8)) ∨ (0 = (0 : Int32) ∧ (0 ≤ ((uc.1 204 : Int32)).toInt ∧ ((uc.1 204 : Int32)).toInt ≤ 8)) := by
  first | exact Or.inl ⟨rfl, h_z⟩ | exact Or.inr ⟨rfl, h_z⟩
set_option maxRecDepth 100000 in
theorem g_X2_give_v2 (u : qS) (x3 : Int32) (uc : qS) (r_2 : Int32) (hz8 : 0 ≤ u.1 8 ∧ u.1 8 ≤ 20) (hz9 : 0 ≤ u.1 9 ∧ u.1 9 ≤ 8) (hz10 : 0 ≤ u.1 10 ∧ u.1 10 ≤ 120) (hz12 : 0 ≤ u.1 12 ∧ u.1 12 ≤ 16) (h_k : 0 ≤ x3) (h_z : 0 ≤ (uc.1 204).toInt ∧ (uc.1 204).toInt ≤ 8) (h_g : g_rw (uc.2.1 203) (uc.1 204).toInt 0 (u.1 8).toInt) (c32_1 : (u.1 9) ≤ (x3 : Int32)) (c72_3 : ¬ 0 ≤ (r_2 : Int32)) : (1 = (1 : Int32) ∧ (0 ≤ ((uc.1 204 : Int32)).toInt ∧ ((uc.1 204 : Int32)).toInt ≤ 8)) ∨ (1 = (0 : Int32) ∧ (0 ≤ ((uc.1 204 : Int32)).toInt ∧ ((uc.1 204 : Int32)).toInt ≤ 8)) := by
  first | exact Or.inl ⟨rfl, h_z⟩ | exact Or.inr ⟨rfl, h_z⟩
set_option maxRecDepth 100000 in
theorem g_X2_give_v3 (u : qS) (x3 : Int32) (uc : qS) (hz8 : 0 ≤ u.1 8 ∧ u.1 8 ≤ 20) (hz9 : 0 ≤ u.1 9 ∧ u.1 9 ≤ 8) (hz10 : 0 ≤ u.1 10 ∧ u.1 10 ≤ 120) (hz12 : 0 ≤ u.1 12 ∧ u.1 12 ≤ 16) (h_k : 0 ≤ x3) (h_z : 0 ≤ (uc.1 204).toInt ∧ (uc.1 204).toInt ≤ 8) (h_g : g_rw (uc.2.1 203) (uc.1 204).toInt 0 (u.1 8).toInt) (c32_1 : ¬ (u.1 9) ≤ (x3 : Int32)) : 0 ≤ x3 ∧ x3 < (u.1 9 : Int32) := by
  clear h_g; (try simp only [g_m1, Int32.lt_iff_toInt_lt, Int32.le_iff_toInt_le, ← Int32.toInt_inj, Int32.reduceToInt] at *); omega
set_option maxRecDepth 100000 in
theorem g_X2_give_v4 (u : qS) (x3 : Int32) (uc : qS) (hz8 : 0 ≤ u.1 8 ∧ u.1 8 ≤ 20) (hz9 : 0 ≤ u.1 9 ∧ u.1 9 ≤ 8) (hz10 : 0 ≤ u.1 10 ∧ u.1 10 ≤ 120) (hz12 : 0 ≤ u.1 12 ∧ u.1 12 ≤ 16) (h_k : 0 ≤ x3) (h_z : 0 ≤ (uc.1 204).toInt ∧ (uc.1 204).toInt ≤ 8) (h_g : g_rw (uc.2.1 203) (uc.1 204).toInt 0 (u.1 8).toInt) (c32_1 : ¬ (u.1 9) ≤ (x3 : Int32)) : 0 ≤ ((uc.1 204 : Int32)).toInt ∧ ((uc.1 204 : Int32)).toInt ≤ 8 := by
  exact h_z
set_option maxRecDepth 100000 in
theorem g_X2_give_v5 (u : qS) (x3 : Int32) (uc : qS) (hz8 : 0 ≤ u.1 8 ∧ u.1 8 ≤ 20) (hz9 : 0 ≤ u.1 9 ∧ u.1 9 ≤ 8) (hz10 : 0 ≤ u.1 10 ∧ u.1 10 ≤ 120) (hz12 : 0 ≤ u.1 12 ∧ u.1 12 ≤ 16) (h_k : 0 ≤ x3) (h_z : 0 ≤ (uc.1 204).toInt ∧ (uc.1 204).toInt ≤ 8) (h_g : g_rw (uc.2.1 203) (uc.1 204).toInt 0 (u.1 8).toInt) (c32_1 : ¬ (u.1 9) ≤ (x3 : Int32)) : g_rw ((uc.2.1 203)) ((uc.1 204 : Int32)).toInt 0 ((u.1 8 : Int32)).toInt := by
  exact h_g
set_option maxRecDepth 100000 in
theorem g_X2_give_v6 (u : qS) (x3 : Int32) (uc : qS) (hz8 : 0 ≤ u.1 8 ∧ u.1 8 ≤ 20) (hz9 : 0 ≤ u.1 9 ∧ u.1 9 ≤ 8) (hz10 : 0 ≤ u.1 10 ∧ u.1 10 ≤ 120) (hz12 : 0 ≤ u.1 12 ∧ u.1 12 ≤ 16) (h_k : 0 ≤ x3) (h_z : 0 ≤ (uc.1 204).toInt ∧ (uc.1 204).toInt ≤ 8) (h_g : g_rw (uc.2.1 203) (uc.1 204).toInt 0 (u.1 8).toInt) (c32_1 : ¬ (u.1 9) ≤ (x3 : Int32)) : 0 ≤ ((uc.1 204 : Int32)).toInt ∧ ((uc.1 204 : Int32)).toInt ≤ 8 := by
  exact h_z
set_option maxRecDepth 100000 in
theorem g_X2_give_v7 (u : qS) (x3 : Int32) (uc : qS) (hz8 : 0 ≤ u.1 8 ∧ u.1 8 ≤ 20) (hz9 : 0 ≤ u.1 9 ∧ u.1 9 ≤ 8) (hz10 : 0 ≤ u.1 10 ∧ u.1 10 ≤ 120) (hz12 : 0 ≤ u.1 12 ∧ u.1 12 ≤ 16) (h_k : 0 ≤ x3) (h_z : 0 ≤ (uc.1 204).toInt ∧ (uc.1 204).toInt ≤ 8) (h_g : g_rw (uc.2.1 203) (uc.1 204).toInt 0 (u.1 8).toInt) (c32_1 : ¬ (u.1 9) ≤ (x3 : Int32)) : 0 ≤ ((uc.1 204 : Int32)).toInt ∧ ((uc.1 204 : Int32)).toInt ≤ 8 := by
  exact h_z
set_option maxRecDepth 100000 in
theorem g_X2_give_v8 (u : qS) (x3 : Int32) (uc : qS) (hz8 : 0 ≤ u.1 8 ∧ u.1 8 ≤ 20) (hz9 : 0 ≤ u.1 9 ∧ u.1 9 ≤ 8) (hz10 : 0 ≤ u.1 10 ∧ u.1 10 ≤ 120) (hz12 : 0 ≤ u.1 12 ∧ u.1 12 ≤ 16) (h_k : 0 ≤ x3) (h_z : 0 ≤ (uc.1 204).toInt ∧ (uc.1 204).toInt ≤ 8) (h_g : g_rw (uc.2.1 203) (uc.1 204).toInt 0 (u.1 8).toInt) (c32_1 : ¬ (u.1 9) ≤ (x3 : Int32)) : 0 ≤ (x3 + 1) := by
  clear h_g; (try simp only [g_m1, Int32.lt_iff_toInt_lt, Int32.le_iff_toInt_le, ← Int32.toInt_inj, Int32.toInt_add, Int32.toInt_sub, Int32.toInt_mul, Int32.toInt_neg, Int32.reduceToInt, g_bm, g_bm'] at *); omega
set_option maxRecDepth 100000 in
theorem g_X2_give_v9 (u : qS) (x3 : Int32) (uc : qS) (hz8 : 0 ≤ u.1 8 ∧ u.1 8 ≤ 20) (hz9 : 0 ≤ u.1 9 ∧ u.1 9 ≤ 8) (hz10 : 0 ≤ u.1 10 ∧ u.1 10 ≤ 120) (hz12 : 0 ≤ u.1 12 ∧ u.1 12 ≤ 16) (h_k : 0 ≤ x3) (h_z : 0 ≤ (uc.1 204).toInt ∧ (uc.1 204).toInt ≤ 8) (h_g : g_rw (uc.2.1 203) (uc.1 204).toInt 0 (u.1 8).toInt) (c32_1 : ¬ (u.1 9) ≤ (x3 : Int32)) : 0 ≤ ((uc.1 204 : Int32)).toInt ∧ ((uc.1 204 : Int32)).toInt ≤ 8 := by
  first | assumption | exact h_z
set_option maxRecDepth 100000 in
theorem g_X2_give_v10 (u : qS) (x3 : Int32) (uc : qS) (hz8 : 0 ≤ u.1 8 ∧ u.1 8 ≤ 20) (hz9 : 0 ≤ u.1 9 ∧ u.1 9 ≤ 8) (hz10 : 0 ≤ u.1 10 ∧ u.1 10 ≤ 120) (hz12 : 0 ≤ u.1 12 ∧ u.1 12 ≤ 16) (h_k : 0 ≤ x3) (h_z : 0 ≤ (uc.1 204).toInt ∧ (uc.1 204).toInt ≤ 8) (h_g : g_rw (uc.2.1 203) (uc.1 204).toInt 0 (u.1 8).toInt) (c32_1 : ¬ (u.1 9) ≤ (x3 : Int32)) : g_rw ((uc.2.1 203)) ((uc.1 204 : Int32)).toInt 0 (u.1 8).toInt := by
  first | assumption | exact h_g
set_option maxRecDepth 100000 in
theorem g_X2_give_v11 (u : qS) (x3 : Int32) (uc : qS) (hz8 : 0 ≤ u.1 8 ∧ u.1 8 ≤ 20) (hz9 : 0 ≤ u.1 9 ∧ u.1 9 ≤ 8) (hz10 : 0 ≤ u.1 10 ∧ u.1 10 ≤ 120) (hz12 : 0 ≤ u.1 12 ∧ u.1 12 ≤ 16) (h_k : 0 ≤ x3) (h_z : 0 ≤ (uc.1 204).toInt ∧ (uc.1 204).toInt ≤ 8) (h_g : g_rw (uc.2.1 203) (uc.1 204).toInt 0 (u.1 8).toInt) (c32_1 : ¬ (u.1 9) ≤ (x3 : Int32)) : ((u.1 9).toInt - (x3 + 1).toInt).toNat < ((u.1 9).toInt - x3.toInt).toNat := by
  clear h_g; (try simp only [g_m1, Int32.lt_iff_toInt_lt, Int32.le_iff_toInt_le, ← Int32.toInt_inj, Int32.toInt_add, Int32.toInt_sub, Int32.toInt_mul, Int32.toInt_neg, Int32.reduceToInt, g_bm, g_bm'] at *); omega
set_option maxRecDepth 100000 in
theorem g_X2_give_v12 (u : qS) (x : Int32) (y : Int32) (u_22 : qS) (u_29 : qS) (f_35 : Nat → Int64) (hz8 : 0 ≤ u.1 8 ∧ u.1 8 ≤ 20) (hz9 : 0 ≤ u.1 9 ∧ u.1 9 ≤ 8) (hz10 : 0 ≤ u.1 10 ∧ u.1 10 ≤ 120) (hz12 : 0 ≤ u.1 12 ∧ u.1 12 ≤ 16) (hp_27 : (0 ≤ (u_22.1 204).toInt ∧ (u_22.1 204).toInt ≤ 8)) (hp_28 : g_rw (u_22.2.1 203) (u_22.1 204).toInt 0 (u.1 8).toInt) (hf_35 : f_35 = vp_updL (u_29.2.2.1 201) (0 : Int32).toNatClampNeg 0) : 0 ≤ (0 : Int32) := by
  first | omega | ((try simp only [g_m1, Int32.lt_iff_toInt_lt, Int32.le_iff_toInt_le, ← Int32.toInt_inj, Int32.reduceToInt] at *); omega) | ((try simp only [g_m1, Int32.lt_iff_toInt_lt, Int32.le_iff_toInt_le, ← Int32.toInt_inj, Int32.reduceToInt] at *); omega) | ((try simp only [g_m1, Int32.lt_iff_toInt_lt, Int32.le_iff_toInt_le, ← Int32.toInt_inj, Int32.toInt_add, Int32.toInt_sub, Int32.toInt_mul, Int32.toInt_neg, Int32.reduceToInt, g_bm, g_bm'] at *); omega) | (have qr1 := g_rng x; have qr2 := g_rng y; (try simp only [g_m1, Int32.lt_iff_toInt_lt, Int32.le_iff_toInt_le, ← Int32.toInt_inj, Int32.toInt_add, Int32.toInt_sub, Int32.toInt_mul, Int32.toInt_neg, Int32.reduceToInt, g_bm, g_bm'] at *); omega) | (simp only [g_m1, Int32.lt_iff_toInt_lt, Int32.le_iff_toInt_le, ← Int32.toInt_inj, Int32.toInt_add, Int32.toInt_sub, Int32.toInt_mul, Int32.toInt_neg, Int32.reduceToInt, g_bm, g_bm'] at *; simp at *; omega) | (simp_all; done)
set_option maxRecDepth 100000 in
theorem g_X2_give_v13 (u : qS) (u_22 : qS) (u_29 : qS) (f_35 : Nat → Int64) (hz8 : 0 ≤ u.1 8 ∧ u.1 8 ≤ 20) (hz9 : 0 ≤ u.1 9 ∧ u.1 9 ≤ 8) (hz10 : 0 ≤ u.1 10 ∧ u.1 10 ≤ 120) (hz12 : 0 ≤ u.1 12 ∧ u.1 12 ≤ 16) (hp_27 : (0 ≤ (u_22.1 204).toInt ∧ (u_22.1 204).toInt ≤ 8)) (hp_28 : g_rw (u_22.2.1 203) (u_22.1 204).toInt 0 (u.1 8).toInt) (hf_35 : f_35 = vp_updL (u_29.2.2.1 201) (0 : Int32).toNatClampNeg 0) : 0 ≤ ((u_22.1 204 : Int32)).toInt ∧ ((u_22.1 204 : Int32)).toInt ≤ 8 := by
  first | assumption | exact h_z
set_option maxRecDepth 100000 in
theorem g_X2_give_v14 (u : qS) (u_22 : qS) (u_29 : qS) (f_35 : Nat → Int64) (hz8 : 0 ≤ u.1 8 ∧ u.1 8 ≤ 20) (hz9 : 0 ≤ u.1 9 ∧ u.1 9 ≤ 8) (hz10 : 0 ≤ u.1 10 ∧ u.1 10 ≤ 120) (hz12 : 0 ≤ u.1 12 ∧ u.1 12 ≤ 16) (hp_27 : (0 ≤ (u_22.1 204).toInt ∧ (u_22.1 204).toInt ≤ 8)) (hp_28 : g_rw (u_22.2.1 203) (u_22.1 204).toInt 0 (u.1 8).toInt) (hf_35 : f_35 = vp_updL (u_29.2.2.1 201) (0 : Int32).toNatClampNeg 0) : g_rw ((u_22.2.1 203)) ((u_22.1 204 : Int32)).toInt 0 (u.1 8).toInt := by
  first | assumption | exact h_g
set_option maxHeartbeats 1000000 in
set_option maxRecDepth 100000 in
theorem g_X2_give (l : Launch) (E : qE) (A : Nat → Prop) (u : qS) (x : Int32) (y : Int32) (hI : IC E u) : Met l yX2_give (uws yX2_give cX2_give 4 (some .boolean)) (qR 6 0 0) (qPc E A 0 u [.ref (E.2.2 299), .int x, .int y]) (qQi E A 0 (fun r u1 => (qFc [204] [203] [201, 202] [] u u1 ∧ IC E u1 ∧ u1.2.2.2.2 = u.2.2.2.2) ∧ ((r = 1 ∧ (0 ≤ (u1.1 204).toInt ∧ (u1.1 204).toInt ≤ 8)) ∨ (r = 0 ∧ (0 ≤ (u1.1 204).toInt ∧ (u1.1 204).toInt ≤ 8))))) 0 0 A := by
  refine q_met (own := RX2) (f := 6) [.ref (E.2.2 299), .int x, .int y] (by decide) (Nat.le_of_ble_eq_true rfl) rfl ?_
  intro p0 e0 s0 m0 bl0 me0 cd0 ls hF hr hlocks hU hS hA hl
  have hl : lv_has ls 4 [(0, .ref (E.2.2 299)), (1, .int x), (2, .int y)] := hl
  have hkd : u.2.2.2.2 = u.2.2.2.2 := rfl
  have hz8 : 0 ≤ u.1 8 ∧ u.1 8 ≤ 20 := hI.1.s8
  have hz9 : 0 ≤ u.1 9 ∧ u.1 9 ≤ 8 := hI.1.s9
  have hz10 : 0 ≤ u.1 10 ∧ u.1 10 ≤ 120 := hI.1.s10
  have hz12 : 0 ≤ u.1 12 ∧ u.1 12 ≤ 16 := hI.1.s12
  have hfr : qFc [204] [203] [201, 202] [] u u := qFc.rf
  have main : ∀ n : Nat, (∀ (x3 : Int32) (uc : qS) (H : Heap) (locs : List Loc) (ls : Array Slot) (hfr : qFc [204] [203] [201, 202] [] u uc) (hI : IC E uc) (hkd : uc.2.2.2.2 = u.2.2.2.2) (h_k : 0 ≤ x3) (h_z : 0 ≤ (uc.1 204).toInt ∧ (uc.1 204).toInt ≤ 8) (h_g : g_rw (uc.2.1 203) (uc.1 204).toInt 0 (u.1 8).toInt), ((u.1 9).toInt - x3.toInt).toNat < n → qH E A 0 uc s0 H → va_S A s0.heap H locs → lv_has ls 4 [(0, .ref (E.2.2 299)), (1, .int x), (2, .int y), (3, .int x3)] → W p0 l e0 (qR 6 0 0) s0 m0 ([.ref (E.2.2 299), .int x, .int y] : List Value).toArray bl0 me0 cd0 H locs 0 0 (MQ bl0 (qQi E A 0 (fun r u1 => (qFc [204] [203] [201, 202] [] u u1 ∧ IC E u1 ∧ u1.2.2.2.2 = u.2.2.2.2) ∧ ((r = 1 ∧ (0 ≤ (u1.1 204).toInt ∧ (u1.1 204).toInt ≤ 8)) ∨ (r = 0 ∧ (0 ≤ (u1.1 204).toInt ∧ (u1.1 204).toInt ≤ 8))))) ([.ref (E.2.2 299), .int x, .int y] : List Value).toArray s0 0 0 A) (F0 m0 24 ls [])) := by
    clear hI hfr hkd
    intro n
    induction n with
    | zero => exact fun _ _ _ _ _ _ _ _ _ _ _ hmu => absurd hmu (Nat.not_lt_zero _)
    | succ n ih =>
      intro x3 uc H locs ls hfr hI hkd h_k h_z h_g hmu hU hS hl
      refine lv_iload_n hF.1 hF.2.1 dX2_give_24 rfl (lv_at hl 3 rfl) ?_
      refine lv_aload_n hF.1 hF.2.1 dX2_give_25 rfl (lv_at hl 0 rfl) ?_
      refine q_get (v := .ref (E.2.2 99)) hF hU dX2_give_26 7 2 0 200 299 rfl rfl rfl rfl inX2 (by decide) (by decide) w_420 rfl rfl ?_
      refine q_get (v := .int (u.1 9)) hF hU dX2_give_29 1 0 9 9 99 rfl rfl rfl rfl inX0 (by decide) (by decide) w_165 rfl (congrArg Value.int (hfr.1 9 (by decide))) ?_
      refine lv_icmp_ge (tgt := 55) hF.1 hF.2.1 dX2_give_32 (by decide) (fun c32_1 => ?_) (fun c32_1 => ?_)
      · refine lv_aload_n hF.1 hF.2.1 dX2_give_55 rfl (lv_at hl 0 rfl) ?_
        refine q_get (v := .ref (E.2.2 201)) hF hU dX2_give_56 7 2 1 201 299 rfl rfl rfl rfl inX2 (by decide) (by decide) w_421 rfl rfl ?_
        refine lv_iconst (v := 1) hF.1 hF.2.1 dX2_give_59 (by decide) ?_
        refine lv_aload_n hF.1 hF.2.1 dX2_give_60 rfl (lv_at hl 0 rfl) ?_
        refine q_get (v := .int (uc.1 204)) hF hU dX2_give_61 7 2 4 204 299 rfl rfl rfl rfl inX2 (by decide) (by decide) w_424 rfl rfl ?_
        refine lv_ishl hF.1 hF.2.1 dX2_give_64 ?_
        refine lv_iconst (v := 1) hF.1 hF.2.1 dX2_give_65 (by decide) ?_
        refine lv_isub hF.1 hF.2.1 dX2_give_66 ?_
        refine q_lald (v := uc.2.2.1 201 ((1 <<< (uc.1 204 &&& 31)) - 1 : Int32).toNatClampNeg) hF hU dX2_give_67 25 201 rfl rfl (g_X2_give_v0 u x y x3 uc hz8 hz9 hz10 hz12 h_k h_z h_g c32_1) rfl ?_
        refine lv_ldc2 (v := 1152921504606846976) hF.1 hF.2.1 hF.2.2.2.1 (hF.2.2.2.2 _ w_1118) dX2_give_68 ?_
        refine W.lcmp hF.1 hF.2.1 dX2_give_71 ?_
        obtain ⟨r_2, hr_2⟩ : ∃ z : Int32, z = lg_cmp (uc.2.2.1 201 ((1 <<< (uc.1 204 &&& 31)) - 1 : Int32).toNatClampNeg) 1152921504606846976 := ⟨_, rfl⟩
        refine q_topi hr_2.symm ?_
        refine lv_if_ge (tgt := 79) hF.1 hF.2.1 dX2_give_72 (by decide) (fun c72_3 => ?_) (fun c72_3 => ?_)
        · refine lv_iconst (v := 0) hF.1 hF.2.1 dX2_give_79 (by decide) ?_
          exact q_iret hF hr (by decide) hlocks hU hS dX2_give_80 ⟨⟨hfr, hI, hkd⟩, (g_X2_give_v1 u x3 uc r_2 hz8 hz9 hz10 hz12 h_k h_z h_g c32_1 c72_3)⟩
        · refine lv_iconst (v := 1) hF.1 hF.2.1 dX2_give_75 (by decide) ?_
          refine lv_goto (tgt := 80) hF.1 hF.2.1 dX2_give_76 (by decide) ?_
          exact q_iret hF hr (by decide) hlocks hU hS dX2_give_80 ⟨⟨hfr, hI, hkd⟩, (g_X2_give_v2 u x3 uc r_2 hz8 hz9 hz10 hz12 h_k h_z h_g c32_1 c72_3)⟩
      · refine lv_aload_n hF.1 hF.2.1 dX2_give_35 rfl (lv_at hl 0 rfl) ?_
        refine lv_iload_n hF.1 hF.2.1 dX2_give_36 rfl (lv_at hl 3 rfl) ?_
        refine lv_iload_n hF.1 hF.2.1 dX2_give_37 rfl (lv_at hl 2 rfl) ?_
        have hM9 := g_X2_setPrices l E A uc x3 y hI (by rw [(hfr.1 9 (by decide))]; exact (g_X2_give_v3 u x3 uc hz8 hz9 hz10 hz12 h_k h_z h_g c32_1)) (g_X2_give_v4 u x3 uc hz8 hz9 hz10 hz12 h_k h_z h_g c32_1) (by rw [(hfr.1 8 (by decide))]; exact (g_X2_give_v5 u x3 uc hz8 hz9 hz10 hz12 h_k h_z h_g c32_1))
        have hR9 := q_runV (l := l) (e := e0) (below := bl0) (meth := me0) (R := qR 6 0 0) (cells := 0) (slots := 0) (st0 := [.int y, .int x3, .ref (E.2.2 299)]) (rest := []) hF hU hS hA 2 7 2 299 rfl rfl rfl hM9 w_1122 w_1124 w_40 w_106 w_1125 (by decide +kernel) ⟨Nat.le_of_ble_eq_true rfl, Nat.le_of_ble_eq_true rfl⟩ dX2_give_38 rfl hl.1 rfl (Nat.le_of_ble_eq_true rfl) ⟨Nat.le_of_ble_eq_true rfl, Nat.le_of_ble_eq_true rfl⟩
        refine q_callv hR9 hU.2.2.2 hS (fun u_4 H locs hw_5 hU hS => ?_)
        obtain ⟨⟨hw_5_f, hI, hw_5_d⟩, hw_5⟩ := hw_5
        have hfo := hfr
        have hfr : qFc [204] [203] [201, 202] [] u u_4 := hfr.trans (hw_5_f.mono (by decide) (by decide) (by decide) (by decide))
        have e_7 : u_4.1 204 = (uc.1 204) := (hw_5_f.1 204 (by decide)).trans rfl
        have e_8 : u_4.2.1 203 = (uc.2.1 203) := (hw_5_f.2.1 203 (by decide)).trans rfl
        have e_9 : u_4.2.2.1 201 = (uc.2.2.1 201) := (hw_5_f.2.2.1 201 (by decide)).trans rfl
        have hkd : u_4.2.2.2.2 = u.2.2.2.2 := hw_5_d.trans hkd
        refine lv_aload_n hF.1 hF.2.1 dX2_give_41 rfl (lv_at hl 0 rfl) ?_
        have hM9 := g_X2_sendOnce l E A u_4  hI (by rw [show (u_4).1 204 = (uc.1 204) from e_7]; exact (g_X2_give_v6 u x3 uc hz8 hz9 hz10 hz12 h_k h_z h_g c32_1))
        have hR9 := q_runV (l := l) (e := e0) (below := bl0) (meth := me0) (R := qR 6 0 0) (cells := 0) (slots := 0) (st0 := [.ref (E.2.2 299)]) (rest := []) hF hU hS hA 0 7 2 299 rfl rfl rfl hM9 w_1131 w_1133 w_41 w_106 w_1134 (by decide +kernel) ⟨Nat.le_of_ble_eq_true rfl, Nat.le_of_ble_eq_true rfl⟩ dX2_give_42 rfl hl.1 rfl (Nat.le_of_ble_eq_true rfl) ⟨Nat.le_of_ble_eq_true rfl, Nat.le_of_ble_eq_true rfl⟩
        refine q_callv hR9 hU.2.2.2 hS (fun u_10 H locs hw_11 hU hS => ?_)
        obtain ⟨⟨hw_11_f, hI, hw_11_d⟩, hw_11⟩ := hw_11
        have hfo := hfr
        have hfr : qFc [204] [203] [201, 202] [] u u_10 := hfr.trans (hw_11_f.mono (by decide) (by decide) (by decide) (by decide))
        have e_13 : u_10.1 204 = (uc.1 204) := (hw_11_f.1 204 (by decide)).trans e_7
        have e_14 : u_10.2.1 203 = (uc.2.1 203) := (hw_11_f.2.1 203 (by decide)).trans e_8
        have e_15 : u_10.2.2.1 202 = (u_4.2.2.1 202) := (hw_11_f.2.2.1 202 (by decide)).trans rfl
        have hkd : u_10.2.2.2.2 = u.2.2.2.2 := hw_11_d.trans hkd
        refine lv_aload_n hF.1 hF.2.1 dX2_give_45 rfl (lv_at hl 0 rfl) ?_
        have hM9 := g_X2_sendOnce l E A u_10  hI (by rw [show (u_10).1 204 = (uc.1 204) from e_13]; exact (g_X2_give_v7 u x3 uc hz8 hz9 hz10 hz12 h_k h_z h_g c32_1))
        have hR9 := q_runV (l := l) (e := e0) (below := bl0) (meth := me0) (R := qR 6 0 0) (cells := 0) (slots := 0) (st0 := [.ref (E.2.2 299)]) (rest := []) hF hU hS hA 0 7 2 299 rfl rfl rfl hM9 w_1131 w_1133 w_41 w_106 w_1134 (by decide +kernel) ⟨Nat.le_of_ble_eq_true rfl, Nat.le_of_ble_eq_true rfl⟩ dX2_give_46 rfl hl.1 rfl (Nat.le_of_ble_eq_true rfl) ⟨Nat.le_of_ble_eq_true rfl, Nat.le_of_ble_eq_true rfl⟩
        refine q_callv hR9 hU.2.2.2 hS (fun u_16 H locs hw_17 hU hS => ?_)
        obtain ⟨⟨hw_17_f, hI, hw_17_d⟩, hw_17⟩ := hw_17
        have hfo := hfr
        have hfr : qFc [204] [203] [201, 202] [] u u_16 := hfr.trans (hw_17_f.mono (by decide) (by decide) (by decide) (by decide))
        have e_19 : u_16.1 204 = (uc.1 204) := (hw_17_f.1 204 (by decide)).trans e_13
        have e_20 : u_16.2.1 203 = (uc.2.1 203) := (hw_17_f.2.1 203 (by decide)).trans e_14
        have e_21 : u_16.2.2.1 202 = (u_4.2.2.1 202) := (hw_17_f.2.2.1 202 (by decide)).trans e_15
        have hkd : u_16.2.2.2.2 = u.2.2.2.2 := hw_17_d.trans hkd
        refine lv_iinc (v := x3 + 1) (lv' := [(3, .int (x3 + 1)), (0, .ref (E.2.2 299)), (1, .int x), (2, .int y)]) hF.1 hF.2.1 dX2_give_49 hl (k := 3) rfl rfl (by decide) rfl (fun ls hl => ?_)
        refine lv_goto (tgt := 24) hF.1 hF.2.1 dX2_give_52 (by decide) ?_
        exact ih (x3 + 1) u_16 _ _ _ hfr hI hkd  (g_X2_give_v8 u x3 uc hz8 hz9 hz10 hz12 h_k h_z h_g c32_1) (by rw [show (u_16).1 204 = (uc.1 204) from e_19]; exact (g_X2_give_v9 u x3 uc hz8 hz9 hz10 hz12 h_k h_z h_g c32_1)) (by rw [show (u_16).1 204 = (uc.1 204) from e_19, show (u_16).2.1 203 = (uc.2.1 203) from e_20]; exact (g_X2_give_v10 u x3 uc hz8 hz9 hz10 hz12 h_k h_z h_g c32_1)) (Nat.lt_of_lt_of_le (g_X2_give_v11 u x3 uc hz8 hz9 hz10 hz12 h_k h_z h_g c32_1) (Nat.lt_succ_iff.mp hmu)) hU hS (lv_sub hl [1, 2, 3, 0] rfl)
  refine lv_aload_n hF.1 hF.2.1 dX2_give_0 rfl (lv_at hl 0 rfl) ?_
  refine lv_iload_n hF.1 hF.2.1 dX2_give_1 rfl (lv_at hl 1 rfl) ?_
  have hM9 := g_X2_listShops l E A u x hI
  have hR9 := q_runV (l := l) (e := e0) (below := bl0) (meth := me0) (R := qR 6 0 0) (cells := 0) (slots := 0) (st0 := [.int x, .ref (E.2.2 299)]) (rest := []) hF hU hS hA 1 7 2 299 rfl rfl rfl hM9 w_1114 w_1116 w_39 w_106 w_1117 (by decide +kernel) ⟨Nat.le_of_ble_eq_true rfl, Nat.le_of_ble_eq_true rfl⟩ dX2_give_2 rfl hl.1 rfl (Nat.le_of_ble_eq_true rfl) ⟨Nat.le_of_ble_eq_true rfl, Nat.le_of_ble_eq_true rfl⟩
  refine q_callv hR9 hU.2.2.2 hS (fun u_22 H locs hw_23 hU hS => ?_)
  obtain ⟨⟨hw_23_f, hI, hw_23_d⟩, hw_23⟩ := hw_23
  have hfo := hfr
  have hfr : qFc [204] [203] [201, 202] [] u u_22 := hfr.trans (hw_23_f.mono (by decide) (by decide) (by decide) (by decide))
  have e_25 : u_22.2.2.1 201 = (u.2.2.1 201) := (hw_23_f.2.2.1 201 (by decide)).trans rfl
  have e_26 : u_22.2.2.1 202 = (u.2.2.1 202) := (hw_23_f.2.2.1 202 (by decide)).trans rfl
  have hkd : u_22.2.2.2.2 = u.2.2.2.2 := hw_23_d.trans hkd
  have hw_23 : (0 ≤ (u_22.1 204).toInt ∧ (u_22.1 204).toInt ≤ 8) ∧ g_rw (u_22.2.1 203) (u_22.1 204).toInt 0 (u.1 8).toInt := hw_23
  have hp_27 : (0 ≤ (u_22.1 204).toInt ∧ (u_22.1 204).toInt ≤ 8) := hw_23.1
  have hp_28 : g_rw (u_22.2.1 203) (u_22.1 204).toInt 0 (u.1 8).toInt := hw_23.2
  refine lv_aload_n hF.1 hF.2.1 dX2_give_5 rfl (lv_at hl 0 rfl) ?_
  refine q_get (v := .ref (E.2.2 201)) hF hU dX2_give_6 7 2 1 201 299 rfl rfl rfl rfl inX2 (by decide) (by decide) w_421 rfl rfl ?_
  refine lv_ldc2 (v := 1152921504606846976) hF.1 hF.2.1 hF.2.2.2.1 (hF.2.2.2.2 _ w_1118) dX2_give_9 ?_
  have hM9 := g_fill_201 l E A u_22 1152921504606846976 hI
  have hR9 := q_runS (l := l) (e := e0) (below := bl0) (meth := me0) (R := qR 6 0 0) (cells := 0) (slots := 0) (st0 := [.long 1152921504606846976, .ref (E.2.2 201)]) (rest := []) hF hU hS hA 2 hM9 w_1119 w_1120 w_112 w_1121 (by decide +kernel) ⟨Nat.le_of_ble_eq_true rfl, Nat.le_of_ble_eq_true rfl⟩ dX2_give_12 rfl hl.1 rfl (Nat.le_of_ble_eq_true rfl) ⟨Nat.le_of_ble_eq_true rfl, Nat.le_of_ble_eq_true rfl⟩
  refine q_callv hR9 hU.2.2.2 hS (fun u_29 H locs hw_30 hU hS => ?_)
  obtain ⟨⟨hw_30_f, hI, hw_30_d⟩, hw_30⟩ := hw_30
  have hfo := hfr
  have hfr : qFc [204] [203] [201, 202] [] u u_29 := hfr.trans (hw_30_f.mono (by decide) (by decide) (by decide) (by decide))
  have e_32 : u_29.1 204 = (u_22.1 204) := (hw_30_f.1 204 (by decide)).trans rfl
  have e_33 : u_29.2.1 203 = (u_22.2.1 203) := (hw_30_f.2.1 203 (by decide)).trans rfl
  have e_34 : u_29.2.2.1 202 = (u.2.2.1 202) := (hw_30_f.2.2.1 202 (by decide)).trans e_26
  have hkd : u_29.2.2.2.2 = u.2.2.2.2 := hw_30_d.trans hkd
  refine lv_aload_n hF.1 hF.2.1 dX2_give_15 rfl (lv_at hl 0 rfl) ?_
  refine q_get (v := .ref (E.2.2 201)) hF hU dX2_give_16 7 2 1 201 299 rfl rfl rfl rfl inX2 (by decide) (by decide) w_421 rfl rfl ?_
  refine lv_iconst (v := 0) hF.1 hF.2.1 dX2_give_19 (by decide) ?_
  refine lv_lconst (v := 0) hF.1 hF.2.1 dX2_give_20 (by decide) ?_
  refine q_last hF hU hS dX2_give_21 25 201 rfl rfl (q_in (by decide)) (fun f_35 H locs hg9 hU hS => ?_)
  have hf_35 : f_35 = vp_updL (u_29.2.2.1 201) (0 : Int32).toNatClampNeg 0 := hg9
  have hfr : qFc [204] [203] [201, 202] [] u (qsG u_29 201 f_35) := hfr.setG (by decide)
  have hI : IC E (qsG u_29 201 f_35) := hI.sG
  refine lv_iconst (v := 0) hF.1 hF.2.1 dX2_give_22 (by decide) ?_
  refine lv_istore_n (lv' := [(3, .int 0), (0, .ref (E.2.2 299)), (1, .int x), (2, .int y)]) hF.1 hF.2.1 dX2_give_23 rfl hl (by decide) rfl (fun ls hl => ?_)
  exact (main _) (0 : Int32) (qsG u_29 201 f_35) _ _ _ hfr hI hkd  (g_X2_give_v12 u x y u_22 u_29 f_35 hz8 hz9 hz10 hz12 hp_27 hp_28 hf_35) (by rw [show (qsG u_29 201 f_35).1 204 = (u_22.1 204) from e_32]; exact (g_X2_give_v13 u u_22 u_29 f_35 hz8 hz9 hz10 hz12 hp_27 hp_28 hf_35)) (by rw [show (qsG u_29 201 f_35).1 204 = (u_22.1 204) from e_32, show (qsG u_29 201 f_35).2.1 203 = (u_22.2.1 203) from e_33]; exact (g_X2_give_v14 u u_22 u_29 f_35 hz8 hz9 hz10 hz12 hp_27 hp_28 hf_35)) (Nat.lt_succ_self _) hU hS (lv_sub hl [1, 2, 3, 0] rfl)
set_option maxRecDepth 100000 in
theorem g_X2_wholeWay_v0 (u : qS) (hz : 0 ≤ (u.1 204).toInt ∧ (u.1 204).toInt ≤ 8) (hz8 : 0 ≤ u.1 8 ∧ u.1 8 ≤ 20) (hz9 : 0 ≤ u.1 9 ∧ u.1 9 ≤ 8) (hz10 : 0 ≤ u.1 10 ∧ u.1 10 ≤ 120) (hz12 : 0 ≤ u.1 12 ∧ u.1 12 ≤ 16) : vp_in ((1 <<< (u.1 204 &&& 31)) - 1) 256 := by
  have q1 := g_sh1 (k := u.1 204) hz.1 hz.2
  have e1 : ((1 : Int32) <<< ((u.1 204) &&& 31) - 1).toInt = ((1 : Int32) <<< ((u.1 204) &&& 31)).toInt - 1 := g_sub (x := (1 : Int32) <<< ((u.1 204) &&& 31)) (y := 1) (by show _ ≤ ((1 : Int32) <<< ((u.1 204) &&& 31)).toInt - 1; omega) (by show ((1 : Int32) <<< ((u.1 204) &&& 31)).toInt - 1 < _; omega)
  refine g_in ?_ ?_ <;> omega
set_option maxHeartbeats 1000000 in
set_option maxRecDepth 100000 in
theorem g_X2_wholeWay (l : Launch) (E : qE) (A : Nat → Prop) (u : qS) (hI : IC E u) (hz : 0 ≤ (u.1 204).toInt ∧ (u.1 204).toInt ≤ 8) : Met l yX2_wholeWay (uws yX2_wholeWay cX2_wholeWay 1 (some .int)) (qR 0 0 0) (qPc E A 0 u [.ref (E.2.2 299)]) (qQi E A 0 (fun r u1 => u1 = u ∧ (True))) 0 0 A := by
  refine q_met (own := RX2) (f := 0) [.ref (E.2.2 299)] (by decide) (Nat.le_of_ble_eq_true rfl) rfl ?_
  intro p0 e0 s0 m0 bl0 me0 cd0 ls hF hr hlocks hU hS hA hl
  have hl : lv_has ls 1 [(0, .ref (E.2.2 299))] := hl
  have hz8 : 0 ≤ u.1 8 ∧ u.1 8 ≤ 20 := hI.1.s8
  have hz9 : 0 ≤ u.1 9 ∧ u.1 9 ≤ 8 := hI.1.s9
  have hz10 : 0 ≤ u.1 10 ∧ u.1 10 ≤ 120 := hI.1.s10
  have hz12 : 0 ≤ u.1 12 ∧ u.1 12 ≤ 16 := hI.1.s12
  refine lv_aload_n hF.1 hF.2.1 dX2_wholeWay_0 rfl (lv_at hl 0 rfl) ?_
  refine q_get (v := .ref (E.2.2 201)) hF hU dX2_wholeWay_1 7 2 1 201 299 rfl rfl rfl rfl inX2 (by decide) (by decide) w_421 rfl rfl ?_
  refine lv_iconst (v := 1) hF.1 hF.2.1 dX2_wholeWay_4 (by decide) ?_
  refine lv_aload_n hF.1 hF.2.1 dX2_wholeWay_5 rfl (lv_at hl 0 rfl) ?_
  refine q_get (v := .int (u.1 204)) hF hU dX2_wholeWay_6 7 2 4 204 299 rfl rfl rfl rfl inX2 (by decide) (by decide) w_424 rfl rfl ?_
  refine lv_ishl hF.1 hF.2.1 dX2_wholeWay_9 ?_
  refine lv_iconst (v := 1) hF.1 hF.2.1 dX2_wholeWay_10 (by decide) ?_
  refine lv_isub hF.1 hF.2.1 dX2_wholeWay_11 ?_
  refine q_lald (v := u.2.2.1 201 ((1 <<< (u.1 204 &&& 31)) - 1 : Int32).toNatClampNeg) hF hU dX2_wholeWay_12 25 201 rfl rfl (g_X2_wholeWay_v0 u hz hz8 hz9 hz10 hz12) rfl ?_
  refine lv_bipush (v := 24) hF.1 hF.2.1 dX2_wholeWay_13 (by decide) ?_
  refine lv_lshr (v := (u.2.2.1 201 ((1 <<< (u.1 204 &&& 31)) - 1 : Int32).toNatClampNeg) >>> ((24 : Int32).toInt64 &&& 63)) hF.1 hF.2.1 dX2_wholeWay_15 rfl ?_
  refine lv_l2i (v := ((u.2.2.1 201 ((1 <<< (u.1 204 &&& 31)) - 1 : Int32).toNatClampNeg) >>> ((24 : Int32).toInt64 &&& 63)).toInt32) hF.1 hF.2.1 dX2_wholeWay_16 rfl ?_
  exact q_iret hF hr rfl hlocks hU hS dX2_wholeWay_17 ⟨rfl, trivial⟩
set_option maxRecDepth 100000 in
theorem g_X2_buyerFor_v0 (u : qS) (x2 : Int32) (hz : 0 ≤ (u.1 204).toInt ∧ (u.1 204).toInt ≤ 8) (hz8 : 0 ≤ u.1 8 ∧ u.1 8 ≤ 20) (hz9 : 0 ≤ u.1 9 ∧ u.1 9 ≤ 8) (hz10 : 0 ≤ u.1 10 ∧ u.1 10 ≤ 120) (hz12 : 0 ≤ u.1 12 ∧ u.1 12 ≤ 16) (h_k : 0 ≤ x2) (c7_1 : ¬ (u.1 204) ≤ (x2 : Int32)) : vp_in (x2) 8 := by
  refine g_in ?_ ?_ <;> ((try simp only [g_m1, Int32.lt_iff_toInt_lt, Int32.le_iff_toInt_le, ← Int32.toInt_inj, Int32.toInt_add, Int32.toInt_sub, Int32.toInt_mul, Int32.toInt_neg, Int32.reduceToInt, g_bm, g_bm'] at *); omega)
set_option maxRecDepth 100000 in
theorem g_X2_buyerFor_v1 (u : qS) (x : Int32) (x2 : Int32) (hz : 0 ≤ (u.1 204).toInt ∧ (u.1 204).toInt ≤ 8) (hz8 : 0 ≤ u.1 8 ∧ u.1 8 ≤ 20) (hz9 : 0 ≤ u.1 9 ∧ u.1 9 ≤ 8) (hz10 : 0 ≤ u.1 10 ∧ u.1 10 ≤ 120) (hz12 : 0 ≤ u.1 12 ∧ u.1 12 ≤ 16) (h_k : 0 ≤ x2) (c7_1 : ¬ (u.1 204) ≤ (x2 : Int32)) (c17_2 : ¬ (u.2.1 203 (x2 : Int32).toNatClampNeg : Int32) = x) : 0 ≤ (x2 + 1) := by
  first | omega | ((try simp only [g_m1, Int32.lt_iff_toInt_lt, Int32.le_iff_toInt_le, ← Int32.toInt_inj, Int32.reduceToInt] at *); omega) | ((try have ez0 : (x2 + 1 : Int32).toInt = (x2 : Int32).toInt + (1 : Int32).toInt := g_add (by (try simp only [g_m1, Int32.lt_iff_toInt_lt, Int32.le_iff_toInt_le, ← Int32.toInt_inj, Int32.reduceToInt] at *); omega) (by (try simp only [g_m1, Int32.lt_iff_toInt_lt, Int32.le_iff_toInt_le, ← Int32.toInt_inj, Int32.reduceToInt] at *); omega)); (try simp only [g_m1, Int32.lt_iff_toInt_lt, Int32.le_iff_toInt_le, ← Int32.toInt_inj, Int32.reduceToInt] at *); omega) | ((try simp only [g_m1, Int32.lt_iff_toInt_lt, Int32.le_iff_toInt_le, ← Int32.toInt_inj, Int32.toInt_add, Int32.toInt_sub, Int32.toInt_mul, Int32.toInt_neg, Int32.reduceToInt, g_bm, g_bm'] at *); omega) | (have qr1 := g_rng x; have qr2 := g_rng x2; (try simp only [g_m1, Int32.lt_iff_toInt_lt, Int32.le_iff_toInt_le, ← Int32.toInt_inj, Int32.toInt_add, Int32.toInt_sub, Int32.toInt_mul, Int32.toInt_neg, Int32.reduceToInt, g_bm, g_bm'] at *); omega) | (simp only [g_m1, Int32.lt_iff_toInt_lt, Int32.le_iff_toInt_le, ← Int32.toInt_inj, Int32.toInt_add, Int32.toInt_sub, Int32.toInt_mul, Int32.toInt_neg, Int32.reduceToInt, g_bm, g_bm'] at *; simp at *; omega) | (simp_all; done)
set_option maxRecDepth 100000 in
theorem g_X2_buyerFor_v2 (u : qS) (x : Int32) (x2 : Int32) (hz : 0 ≤ (u.1 204).toInt ∧ (u.1 204).toInt ≤ 8) (hz8 : 0 ≤ u.1 8 ∧ u.1 8 ≤ 20) (hz9 : 0 ≤ u.1 9 ∧ u.1 9 ≤ 8) (hz10 : 0 ≤ u.1 10 ∧ u.1 10 ≤ 120) (hz12 : 0 ≤ u.1 12 ∧ u.1 12 ≤ 16) (h_k : 0 ≤ x2) (c7_1 : ¬ (u.1 204) ≤ (x2 : Int32)) (c17_2 : ¬ (u.2.1 203 (x2 : Int32).toNatClampNeg : Int32) = x) : ((u.1 204).toInt - (x2 + 1).toInt).toNat < ((u.1 204).toInt - x2.toInt).toNat := by
  first | omega | ((try simp only [g_m1, Int32.lt_iff_toInt_lt, Int32.le_iff_toInt_le, ← Int32.toInt_inj, Int32.reduceToInt] at *); omega) | ((try have ez0 : (x2 + 1 : Int32).toInt = (x2 : Int32).toInt + (1 : Int32).toInt := g_add (by (try simp only [g_m1, Int32.lt_iff_toInt_lt, Int32.le_iff_toInt_le, ← Int32.toInt_inj, Int32.reduceToInt] at *); omega) (by (try simp only [g_m1, Int32.lt_iff_toInt_lt, Int32.le_iff_toInt_le, ← Int32.toInt_inj, Int32.reduceToInt] at *); omega)); (try simp only [g_m1, Int32.lt_iff_toInt_lt, Int32.le_iff_toInt_le, ← Int32.toInt_inj, Int32.reduceToInt] at *); omega) | ((try simp only [g_m1, Int32.lt_iff_toInt_lt, Int32.le_iff_toInt_le, ← Int32.toInt_inj, Int32.toInt_add, Int32.toInt_sub, Int32.toInt_mul, Int32.toInt_neg, Int32.reduceToInt, g_bm, g_bm'] at *); omega) | (have qr1 := g_rng x; have qr2 := g_rng x2; (try simp only [g_m1, Int32.lt_iff_toInt_lt, Int32.le_iff_toInt_le, ← Int32.toInt_inj, Int32.toInt_add, Int32.toInt_sub, Int32.toInt_mul, Int32.toInt_neg, Int32.reduceToInt, g_bm, g_bm'] at *); omega) | (simp only [g_m1, Int32.lt_iff_toInt_lt, Int32.le_iff_toInt_le, ← Int32.toInt_inj, Int32.toInt_add, Int32.toInt_sub, Int32.toInt_mul, Int32.toInt_neg, Int32.reduceToInt, g_bm, g_bm'] at *; simp at *; omega) | (simp_all; done)
set_option maxRecDepth 100000 in
theorem g_X2_buyerFor_v3 (u : qS) (x : Int32) (x2 : Int32) (hz : 0 ≤ (u.1 204).toInt ∧ (u.1 204).toInt ≤ 8) (hz8 : 0 ≤ u.1 8 ∧ u.1 8 ≤ 20) (hz9 : 0 ≤ u.1 9 ∧ u.1 9 ≤ 8) (hz10 : 0 ≤ u.1 10 ∧ u.1 10 ≤ 120) (hz12 : 0 ≤ u.1 12 ∧ u.1 12 ≤ 16) (h_k : 0 ≤ x2) (c7_1 : ¬ (u.1 204) ≤ (x2 : Int32)) (c17_2 : (u.2.1 203 (x2 : Int32).toNatClampNeg : Int32) = x) : vp_in ((1 <<< (u.1 204 &&& 31)) - 1) 256 := by
  have q1 := g_sh1 (k := u.1 204) hz.1 hz.2
  have e1 : ((1 : Int32) <<< ((u.1 204) &&& 31) - 1).toInt = ((1 : Int32) <<< ((u.1 204) &&& 31)).toInt - 1 := g_sub (x := (1 : Int32) <<< ((u.1 204) &&& 31)) (y := 1) (by show _ ≤ ((1 : Int32) <<< ((u.1 204) &&& 31)).toInt - 1; omega) (by show ((1 : Int32) <<< ((u.1 204) &&& 31)).toInt - 1 < _; omega)
  refine g_in ?_ ?_ <;> omega
set_option maxRecDepth 100000 in
theorem g_X2_buyerFor_v4 (u : qS) (x : Int32) (hz : 0 ≤ (u.1 204).toInt ∧ (u.1 204).toInt ≤ 8) (hz8 : 0 ≤ u.1 8 ∧ u.1 8 ≤ 20) (hz9 : 0 ≤ u.1 9 ∧ u.1 9 ≤ 8) (hz10 : 0 ≤ u.1 10 ∧ u.1 10 ≤ 120) (hz12 : 0 ≤ u.1 12 ∧ u.1 12 ≤ 16) : 0 ≤ (0 : Int32) := by
  first | omega | ((try simp only [g_m1, Int32.lt_iff_toInt_lt, Int32.le_iff_toInt_le, ← Int32.toInt_inj, Int32.reduceToInt] at *); omega) | ((try simp only [g_m1, Int32.lt_iff_toInt_lt, Int32.le_iff_toInt_le, ← Int32.toInt_inj, Int32.reduceToInt] at *); omega) | ((try simp only [g_m1, Int32.lt_iff_toInt_lt, Int32.le_iff_toInt_le, ← Int32.toInt_inj, Int32.toInt_add, Int32.toInt_sub, Int32.toInt_mul, Int32.toInt_neg, Int32.reduceToInt, g_bm, g_bm'] at *); omega) | (have qr1 := g_rng x; (try simp only [g_m1, Int32.lt_iff_toInt_lt, Int32.le_iff_toInt_le, ← Int32.toInt_inj, Int32.toInt_add, Int32.toInt_sub, Int32.toInt_mul, Int32.toInt_neg, Int32.reduceToInt, g_bm, g_bm'] at *); omega) | (simp only [g_m1, Int32.lt_iff_toInt_lt, Int32.le_iff_toInt_le, ← Int32.toInt_inj, Int32.toInt_add, Int32.toInt_sub, Int32.toInt_mul, Int32.toInt_neg, Int32.reduceToInt, g_bm, g_bm'] at *; simp at *; omega) | (simp_all; done)
set_option maxHeartbeats 1000000 in
set_option maxRecDepth 100000 in
theorem g_X2_buyerFor (l : Launch) (E : qE) (A : Nat → Prop) (u : qS) (x : Int32) (hI : IC E u) (hz : 0 ≤ (u.1 204).toInt ∧ (u.1 204).toInt ≤ 8) : Met l yX2_buyerFor (uws yX2_buyerFor cX2_buyerFor 3 (some .int)) (qR 1 0 0) (qPc E A 0 u [.ref (E.2.2 299), .int x]) (qQi E A 0 (fun r u1 => u1 = u ∧ (True))) 0 0 A := by
  refine q_met (own := RX2) (f := 1) [.ref (E.2.2 299), .int x] (by decide) (Nat.le_of_ble_eq_true rfl) rfl ?_
  intro p0 e0 s0 m0 bl0 me0 cd0 ls hF hr hlocks hU hS hA hl
  have hl : lv_has ls 3 [(0, .ref (E.2.2 299)), (1, .int x)] := hl
  have hz8 : 0 ≤ u.1 8 ∧ u.1 8 ≤ 20 := hI.1.s8
  have hz9 : 0 ≤ u.1 9 ∧ u.1 9 ≤ 8 := hI.1.s9
  have hz10 : 0 ≤ u.1 10 ∧ u.1 10 ≤ 120 := hI.1.s10
  have hz12 : 0 ≤ u.1 12 ∧ u.1 12 ≤ 16 := hI.1.s12
  have main : ∀ n : Nat, (∀ (x2 : Int32) (uc : qS) (H : Heap) (locs : List Loc) (ls : Array Slot) (huc : u = uc) (h_k : 0 ≤ x2), ((u.1 204).toInt - x2.toInt).toNat < n → qH E A 0 uc s0 H → va_S A s0.heap H locs → lv_has ls 3 [(0, .ref (E.2.2 299)), (1, .int x), (2, .int x2)] → W p0 l e0 (qR 1 0 0) s0 m0 ([.ref (E.2.2 299), .int x] : List Value).toArray bl0 me0 cd0 H locs 0 0 (MQ bl0 (qQi E A 0 (fun r u1 => u1 = u ∧ (True))) ([.ref (E.2.2 299), .int x] : List Value).toArray s0 0 0 A) (F0 m0 2 ls [])) := by
    intro n
    induction n with
    | zero => exact fun _ _ _ _ _ _ _ hmu => absurd hmu (Nat.not_lt_zero _)
    | succ n ih =>
      intro x2 uc H locs ls huc h_k hmu hU hS hl
      subst huc
      refine lv_iload_n hF.1 hF.2.1 dX2_buyerFor_2 rfl (lv_at hl 2 rfl) ?_
      refine lv_aload_n hF.1 hF.2.1 dX2_buyerFor_3 rfl (lv_at hl 0 rfl) ?_
      refine q_get (v := .int (u.1 204)) hF hU dX2_buyerFor_4 7 2 4 204 299 rfl rfl rfl rfl inX2 (by decide) (by decide) w_424 rfl rfl ?_
      refine lv_icmp_ge (tgt := 49) hF.1 hF.2.1 dX2_buyerFor_7 (by decide) (fun c7_1 => ?_) (fun c7_1 => ?_)
      · refine lv_iconst (v := (-1)) hF.1 hF.2.1 dX2_buyerFor_49 (by decide) ?_
        exact q_iret hF hr rfl hlocks hU hS dX2_buyerFor_50 ⟨rfl, trivial⟩
      · refine lv_aload_n hF.1 hF.2.1 dX2_buyerFor_10 rfl (lv_at hl 0 rfl) ?_
        refine q_get (v := .ref (E.2.2 203)) hF hU dX2_buyerFor_11 7 2 3 203 299 rfl rfl rfl rfl inX2 (by decide) (by decide) w_423 rfl rfl ?_
        refine lv_iload_n hF.1 hF.2.1 dX2_buyerFor_14 rfl (lv_at hl 2 rfl) ?_
        refine q_iald (v := u.2.1 203 (x2 : Int32).toNatClampNeg) hF hU dX2_buyerFor_15 27 203 rfl rfl (g_X2_buyerFor_v0 u x2 hz hz8 hz9 hz10 hz12 h_k c7_1) rfl ?_
        refine lv_iload_n hF.1 hF.2.1 dX2_buyerFor_16 rfl (lv_at hl 1 rfl) ?_
        refine lv_icmp_ne (tgt := 43) hF.1 hF.2.1 dX2_buyerFor_17 (by decide) (fun c17_2 => ?_) (fun c17_2 => ?_)
        · refine lv_iinc (v := x2 + 1) (lv' := [(2, .int (x2 + 1)), (0, .ref (E.2.2 299)), (1, .int x)]) hF.1 hF.2.1 dX2_buyerFor_43 hl (k := 2) rfl rfl (by decide) rfl (fun ls hl => ?_)
          refine lv_goto (tgt := 2) hF.1 hF.2.1 dX2_buyerFor_46 (by decide) ?_
          exact ih (x2 + 1) u _ _ _ rfl  (g_X2_buyerFor_v1 u x x2 hz hz8 hz9 hz10 hz12 h_k c7_1 c17_2) (Nat.lt_of_lt_of_le (g_X2_buyerFor_v2 u x x2 hz hz8 hz9 hz10 hz12 h_k c7_1 c17_2) (Nat.lt_succ_iff.mp hmu)) hU hS (lv_sub hl [1, 2, 0] rfl)
        · refine lv_aload_n hF.1 hF.2.1 dX2_buyerFor_20 rfl (lv_at hl 0 rfl) ?_
          refine q_get (v := .ref (E.2.2 201)) hF hU dX2_buyerFor_21 7 2 1 201 299 rfl rfl rfl rfl inX2 (by decide) (by decide) w_421 rfl rfl ?_
          refine lv_iconst (v := 1) hF.1 hF.2.1 dX2_buyerFor_24 (by decide) ?_
          refine lv_aload_n hF.1 hF.2.1 dX2_buyerFor_25 rfl (lv_at hl 0 rfl) ?_
          refine q_get (v := .int (u.1 204)) hF hU dX2_buyerFor_26 7 2 4 204 299 rfl rfl rfl rfl inX2 (by decide) (by decide) w_424 rfl rfl ?_
          refine lv_ishl hF.1 hF.2.1 dX2_buyerFor_29 ?_
          refine lv_iconst (v := 1) hF.1 hF.2.1 dX2_buyerFor_30 (by decide) ?_
          refine lv_isub hF.1 hF.2.1 dX2_buyerFor_31 ?_
          refine q_lald (v := u.2.2.1 201 ((1 <<< (u.1 204 &&& 31)) - 1 : Int32).toNatClampNeg) hF hU dX2_buyerFor_32 25 201 rfl rfl (g_X2_buyerFor_v3 u x x2 hz hz8 hz9 hz10 hz12 h_k c7_1 c17_2) rfl ?_
          refine lv_iload_n hF.1 hF.2.1 dX2_buyerFor_33 rfl (lv_at hl 2 rfl) ?_
          have hM9 := g_X2_buyerShift l E A u x2
          have hR9 := q_runS (l := l) (e := e0) (below := bl0) (meth := me0) (R := qR 1 0 0) (cells := 0) (slots := 0) (st0 := [.int x2, .long (u.2.2.1 201 ((1 <<< (u.1 204 &&& 31)) - 1 : Int32).toNatClampNeg)]) (rest := [.long (u.2.2.1 201 ((1 <<< (u.1 204 &&& 31)) - 1 : Int32).toNatClampNeg)]) hF hU hS hA 1 hM9 w_1128 w_1129 w_106 w_1130 (by decide +kernel) ⟨Nat.le_of_ble_eq_true rfl, Nat.le_of_ble_eq_true rfl⟩ dX2_buyerFor_34 rfl hl.1 rfl (Nat.le_of_ble_eq_true rfl) ⟨Nat.le_of_ble_eq_true rfl, Nat.le_of_ble_eq_true rfl⟩
          refine q_calli hR9 hU.2.2.2 hS (fun r_5 u_3 H locs hw_4 hU hS => ?_)
          obtain ⟨hw_4_e, hw_4⟩ := hw_4
          rw [hw_4_e] at hU
          refine lv_lshr (v := (u.2.2.1 201 ((1 <<< (u.1 204 &&& 31)) - 1 : Int32).toNatClampNeg) >>> ((r_5 : Int32).toInt64 &&& 63)) hF.1 hF.2.1 dX2_buyerFor_37 rfl ?_
          refine lv_l2i (v := ((u.2.2.1 201 ((1 <<< (u.1 204 &&& 31)) - 1 : Int32).toNatClampNeg) >>> ((r_5 : Int32).toInt64 &&& 63)).toInt32) hF.1 hF.2.1 dX2_buyerFor_38 rfl ?_
          refine lv_bipush (v := 7) hF.1 hF.2.1 dX2_buyerFor_39 (by decide) ?_
          refine lv_iand hF.1 hF.2.1 dX2_buyerFor_41 ?_
          exact q_iret hF hr rfl hlocks hU hS dX2_buyerFor_42 ⟨rfl, trivial⟩
  refine lv_iconst (v := 0) hF.1 hF.2.1 dX2_buyerFor_0 (by decide) ?_
  refine lv_istore_n (lv' := [(2, .int 0), (0, .ref (E.2.2 299)), (1, .int x)]) hF.1 hF.2.1 dX2_buyerFor_1 rfl hl (by decide) rfl (fun ls hl => ?_)
  exact (main _) (0 : Int32) u _ _ _ rfl  (g_X2_buyerFor_v4 u x hz hz8 hz9 hz10 hz12) (Nat.lt_succ_self _) hU hS (lv_sub hl [1, 2, 0] rfl)
