set_option maxRecDepth 100000 in
theorem g_X12_days_v0 (u : qS) (x : Int32) (hI : IM u) (b10_4 : 0 ≤ x ∧ x ≤ 1000) (hs_5 : 0 ≤ u.1 1230 ∧ u.1 1230 ≤ 9999) (c25_6 : ((u.1 1230) + x : Int32) ≤ 9999) : 0 ≤ ((u.1 1230) + x : Int32) ∧ ((u.1 1230) + x : Int32) ≤ 9999 := by
  first | omega | ((try simp only [g_m1, Int32.lt_iff_toInt_lt, Int32.le_iff_toInt_le, ← Int32.toInt_inj, Int32.reduceToInt] at *); omega) | ((try have ez0 : ((u.1 1230) + x : Int32).toInt = (u.1 1230 : Int32).toInt + (x : Int32).toInt := g_add (by (try simp only [g_m1, Int32.lt_iff_toInt_lt, Int32.le_iff_toInt_le, ← Int32.toInt_inj, Int32.reduceToInt] at *); omega) (by (try simp only [g_m1, Int32.lt_iff_toInt_lt, Int32.le_iff_toInt_le, ← Int32.toInt_inj, Int32.reduceToInt] at *); omega)); (try have ez1 : ((u.1 1230) + x : Int32).toInt = (u.1 1230 : Int32).toInt + (x : Int32).toInt := g_add (by (try simp only [g_m1, Int32.lt_iff_toInt_lt, Int32.le_iff_toInt_le, ← Int32.toInt_inj, Int32.reduceToInt] at *); omega) (by (try simp only [g_m1, Int32.lt_iff_toInt_lt, Int32.le_iff_toInt_le, ← Int32.toInt_inj, Int32.reduceToInt] at *); omega)); (try simp only [g_m1, Int32.lt_iff_toInt_lt, Int32.le_iff_toInt_le, ← Int32.toInt_inj, Int32.reduceToInt] at *); omega) | ((try simp only [g_m1, Int32.lt_iff_toInt_lt, Int32.le_iff_toInt_le, ← Int32.toInt_inj, Int32.toInt_add, Int32.toInt_sub, Int32.toInt_mul, Int32.toInt_neg, Int32.reduceToInt, g_bm, g_bm'] at *); omega) | (have qr1 := g_rng x; (try simp only [g_m1, Int32.lt_iff_toInt_lt, Int32.le_iff_toInt_le, ← Int32.toInt_inj, Int32.toInt_add, Int32.toInt_sub, Int32.toInt_mul, Int32.toInt_neg, Int32.reduceToInt, g_bm, g_bm'] at *); omega) | (simp only [g_m1, Int32.lt_iff_toInt_lt, Int32.le_iff_toInt_le, ← Int32.toInt_inj, Int32.toInt_add, Int32.toInt_sub, Int32.toInt_mul, Int32.toInt_neg, Int32.reduceToInt, g_bm, g_bm'] at *; simp at *; omega) | (simp_all; done)
set_option maxRecDepth 100000 in
theorem g_X12_days_v1 (u : qS) (x : Int32) (hI : IM u) (b10_4 : 0 ≤ x ∧ x ≤ 1000) (hs_5 : 0 ≤ u.1 1230 ∧ u.1 1230 ≤ 9999) (c25_6 : ((u.1 1230) + x : Int32) ≤ 9999) : ((0 ≤ x ∧ x ≤ 1000 ∧ u.1 1230 + x ≤ 9999) ∧ ((u.1 1230) + x : Int32) = u.1 1230 + x ∧ ((u.1 1230) + x : Int32) = u.1 1230 + x) ∨ (¬ (0 ≤ x ∧ x ≤ 1000 ∧ u.1 1230 + x ≤ 9999) ∧ ((u.1 1230) + x : Int32) = -1 ∧ ((u.1 1230) + x : Int32) = u.1 1230) := by
  first | omega | ((try simp only [g_m1, Int32.lt_iff_toInt_lt, Int32.le_iff_toInt_le, ← Int32.toInt_inj, Int32.reduceToInt] at *); omega) | ((try have ez0 : ((u.1 1230) + x : Int32).toInt = (u.1 1230 : Int32).toInt + (x : Int32).toInt := g_add (by (try simp only [g_m1, Int32.lt_iff_toInt_lt, Int32.le_iff_toInt_le, ← Int32.toInt_inj, Int32.reduceToInt] at *); omega) (by (try simp only [g_m1, Int32.lt_iff_toInt_lt, Int32.le_iff_toInt_le, ← Int32.toInt_inj, Int32.reduceToInt] at *); omega)); (try have ez1 : ((u.1 1230) + x : Int32).toInt = (u.1 1230 : Int32).toInt + (x : Int32).toInt := g_add (by (try simp only [g_m1, Int32.lt_iff_toInt_lt, Int32.le_iff_toInt_le, ← Int32.toInt_inj, Int32.reduceToInt] at *); omega) (by (try simp only [g_m1, Int32.lt_iff_toInt_lt, Int32.le_iff_toInt_le, ← Int32.toInt_inj, Int32.reduceToInt] at *); omega)); (try simp only [g_m1, Int32.lt_iff_toInt_lt, Int32.le_iff_toInt_le, ← Int32.toInt_inj, Int32.reduceToInt] at *); omega) | ((try simp only [g_m1, Int32.lt_iff_toInt_lt, Int32.le_iff_toInt_le, ← Int32.toInt_inj, Int32.toInt_add, Int32.toInt_sub, Int32.toInt_mul, Int32.toInt_neg, Int32.reduceToInt, g_bm, g_bm'] at *); omega) | (have qr1 := g_rng x; (try simp only [g_m1, Int32.lt_iff_toInt_lt, Int32.le_iff_toInt_le, ← Int32.toInt_inj, Int32.toInt_add, Int32.toInt_sub, Int32.toInt_mul, Int32.toInt_neg, Int32.reduceToInt, g_bm, g_bm'] at *); omega) | (simp only [g_m1, Int32.lt_iff_toInt_lt, Int32.le_iff_toInt_le, ← Int32.toInt_inj, Int32.toInt_add, Int32.toInt_sub, Int32.toInt_mul, Int32.toInt_neg, Int32.reduceToInt, g_bm, g_bm'] at *; simp at *; omega) | (simp_all; done)
set_option maxRecDepth 100000 in
theorem g_X12_days_v2 (u : qS) (x : Int32) (hI : IM u) (b10_4 : 0 ≤ x ∧ x ≤ 1000) (hs_5 : 0 ≤ u.1 1230 ∧ u.1 1230 ≤ 9999) (c25_6 : ¬ ((u.1 1230) + x : Int32) ≤ 9999) : ((0 ≤ x ∧ x ≤ 1000 ∧ u.1 1230 + x ≤ 9999) ∧ ((-1) : Int32) = u.1 1230 + x ∧ (u.1 1230 : Int32) = u.1 1230 + x) ∨ (¬ (0 ≤ x ∧ x ≤ 1000 ∧ u.1 1230 + x ≤ 9999) ∧ ((-1) : Int32) = -1 ∧ (u.1 1230 : Int32) = u.1 1230) := by
  first | omega | ((try simp only [g_m1, Int32.lt_iff_toInt_lt, Int32.le_iff_toInt_le, ← Int32.toInt_inj, Int32.reduceToInt] at *); omega) | ((try have ez0 : ((u.1 1230) + x : Int32).toInt = (u.1 1230 : Int32).toInt + (x : Int32).toInt := g_add (by (try simp only [g_m1, Int32.lt_iff_toInt_lt, Int32.le_iff_toInt_le, ← Int32.toInt_inj, Int32.reduceToInt] at *); omega) (by (try simp only [g_m1, Int32.lt_iff_toInt_lt, Int32.le_iff_toInt_le, ← Int32.toInt_inj, Int32.reduceToInt] at *); omega)); (try simp only [g_m1, Int32.lt_iff_toInt_lt, Int32.le_iff_toInt_le, ← Int32.toInt_inj, Int32.reduceToInt] at *); omega) | ((try simp only [g_m1, Int32.lt_iff_toInt_lt, Int32.le_iff_toInt_le, ← Int32.toInt_inj, Int32.toInt_add, Int32.toInt_sub, Int32.toInt_mul, Int32.toInt_neg, Int32.reduceToInt, g_bm, g_bm'] at *); omega) | (have qr1 := g_rng x; (try simp only [g_m1, Int32.lt_iff_toInt_lt, Int32.le_iff_toInt_le, ← Int32.toInt_inj, Int32.toInt_add, Int32.toInt_sub, Int32.toInt_mul, Int32.toInt_neg, Int32.reduceToInt, g_bm, g_bm'] at *); omega) | (simp only [g_m1, Int32.lt_iff_toInt_lt, Int32.le_iff_toInt_le, ← Int32.toInt_inj, Int32.toInt_add, Int32.toInt_sub, Int32.toInt_mul, Int32.toInt_neg, Int32.reduceToInt, g_bm, g_bm'] at *; simp at *; omega) | (simp_all; done)
set_option maxRecDepth 100000 in
theorem g_X12_days_v3 (u : qS) (x : Int32) (hI : IM u) (b10_4 : ¬ (0 ≤ x ∧ x ≤ 1000)) : ((0 ≤ x ∧ x ≤ 1000 ∧ u.1 1230 + x ≤ 9999) ∧ ((-1) : Int32) = u.1 1230 + x ∧ (u.1 1230 : Int32) = u.1 1230 + x) ∨ (¬ (0 ≤ x ∧ x ≤ 1000 ∧ u.1 1230 + x ≤ 9999) ∧ ((-1) : Int32) = -1 ∧ (u.1 1230 : Int32) = u.1 1230) := by
  have hz1230 := hI.1.s1230
  first | omega | ((try simp only [g_m1, Int32.lt_iff_toInt_lt, Int32.le_iff_toInt_le, ← Int32.toInt_inj, Int32.reduceToInt] at *); omega) | ((try simp only [g_m1, Int32.lt_iff_toInt_lt, Int32.le_iff_toInt_le, ← Int32.toInt_inj, Int32.reduceToInt] at *); omega) | ((try simp only [g_m1, Int32.lt_iff_toInt_lt, Int32.le_iff_toInt_le, ← Int32.toInt_inj, Int32.toInt_add, Int32.toInt_sub, Int32.toInt_mul, Int32.toInt_neg, Int32.reduceToInt, g_bm, g_bm'] at *); omega) | (have qr1 := g_rng x; (try simp only [g_m1, Int32.lt_iff_toInt_lt, Int32.le_iff_toInt_le, ← Int32.toInt_inj, Int32.toInt_add, Int32.toInt_sub, Int32.toInt_mul, Int32.toInt_neg, Int32.reduceToInt, g_bm, g_bm'] at *); omega) | (simp only [g_m1, Int32.lt_iff_toInt_lt, Int32.le_iff_toInt_le, ← Int32.toInt_inj, Int32.toInt_add, Int32.toInt_sub, Int32.toInt_mul, Int32.toInt_neg, Int32.reduceToInt, g_bm, g_bm'] at *; simp at *; omega) | (simp_all; done)
set_option maxHeartbeats 1000000 in
set_option maxRecDepth 100000 in
theorem g_X12_days (l : Launch) (E : qE) (A : Nat → Prop) (u : qS) (x : Int32) (hI : IM u) : Met l yX12_days (uws yX12_days cX12_days 2 (some .int)) (qR 1 0 0) (qPc E A 1 u [.ref (E.2.2 1299), .int x]) (qQi E A 1 (fun r u1 => qFr [1200, 1230] [] [] u u1 ∧ IM u1 ∧ (((0 ≤ x ∧ x ≤ 1000 ∧ u.1 1230 + x ≤ 9999) ∧ r = u.1 1230 + x ∧ u1.1 1230 = u.1 1230 + x) ∨ (¬ (0 ≤ x ∧ x ≤ 1000 ∧ u.1 1230 + x ≤ 9999) ∧ r = -1 ∧ u1.1 1230 = u.1 1230)))) 0 0 A := by
  refine q_met (own := RX12) (f := 1) [.ref (E.2.2 1299), .int x] (by decide) (Nat.le_of_ble_eq_true rfl) rfl ?_
  intro p0 e0 s0 m0 bl0 me0 cd0 ls hF hr hlocks hU hS hA hl
  have hl : lv_has ls 2 [(0, .ref (E.2.2 1299)), (1, .int x)] := hl
  have hfr : qFr [1200, 1230] [] [] u u := qFr.rf
  refine lv_aload_n hF.1 hF.2.1 dX12_days_0 rfl (lv_at hl 0 rfl) ?_
  refine lv_iconst (v := 0) hF.1 hF.2.1 dX12_days_1 (by decide) ?_
  refine q_put hF hU hS dX12_days_2 0 12 0 1200 1299 rfl rfl rfl rfl inX12 tyX12 tyX12_ok nmX12 (by decide) (by decide) rfl w_1329 rfl rfl rfl rfl (fun H locs hU hS => ?_)
  have hfr : qFr [1200, 1230] [] [] u (qsI u 1200 0) := hfr.setI (by decide)
  refine lv_iload_n hF.1 hF.2.1 dX12_days_5 rfl (lv_at hl 1 rfl) ?_
  refine lv_iconst (v := 0) hF.1 hF.2.1 dX12_days_6 (by decide) ?_
  refine lv_sipush (v := 1000) hF.1 hF.2.1 dX12_days_7 (by decide) ?_
  have hM9 := g_X12_within l E A (qsI u 1200 0) x 0 1000
  have hR9 := q_runS (l := l) (e := e0) (below := bl0) (meth := me0) (R := qR 1 0 0) (cells := 0) (slots := 0) (st0 := [.int 1000, .int 0, .int x]) (rest := []) hF hU hS hA 3 hM9 w_1680 w_1681 w_107 w_1682 (by decide +kernel) ⟨Nat.le_of_ble_eq_true rfl, Nat.le_of_ble_eq_true rfl⟩ dX12_days_10 rfl hl.1 rfl (Nat.le_of_ble_eq_true rfl) ⟨Nat.le_of_ble_eq_true rfl, Nat.le_of_ble_eq_true rfl⟩
  refine q_calli hR9 hU.2.2.2 hS (fun r_3 u_1 H locs hw_2 hU hS => ?_)
  obtain ⟨hw_2_e, hw_2⟩ := hw_2
  rw [hw_2_e] at hU
  have hw_2 : (r_3 = 1 ∧ (0 ≤ x ∧ x ≤ 1000)) ∨ (r_3 = 0 ∧ ¬ (0 ≤ x ∧ x ≤ 1000)) := hw_2
  rcases hw_2 with ⟨rfl, b10_4⟩ | ⟨rfl, b10_4⟩
  · refine lv_if_eq (tgt := 28) hF.1 hF.2.1 dX12_days_13 (by decide) (fun h9 => absurd h9 (by decide)) (fun _ => ?_)
    refine lv_aload_n hF.1 hF.2.1 dX12_days_16 rfl (lv_at hl 0 rfl) ?_
    refine q_get (v := .int (u.1 1230)) hF hU dX12_days_17 0 12 30 1230 1299 rfl rfl rfl rfl inX12 (by decide) (by decide) w_1359 rfl rfl ?_
    have hs_5 : 0 ≤ u.1 1230 ∧ u.1 1230 ≤ 9999 := hI.1.s1230
    refine lv_iload_n hF.1 hF.2.1 dX12_days_20 rfl (lv_at hl 1 rfl) ?_
    refine lv_iadd hF.1 hF.2.1 dX12_days_21 ?_
    refine lv_sipush (v := 9999) hF.1 hF.2.1 dX12_days_22 (by decide) ?_
    refine lv_icmp_le (tgt := 30) hF.1 hF.2.1 dX12_days_25 (by decide) (fun c25_6 => ?_) (fun c25_6 => ?_)
    · refine lv_aload_n hF.1 hF.2.1 dX12_days_30 rfl (lv_at hl 0 rfl) ?_
      refine lv_dup hF.1 hF.2.1 dX12_days_31 rfl ?_
      refine q_get (v := .int (u.1 1230)) hF hU dX12_days_32 0 12 30 1230 1299 rfl rfl rfl rfl inX12 (by decide) (by decide) w_1359 rfl rfl ?_
      refine lv_iload_n hF.1 hF.2.1 dX12_days_35 rfl (lv_at hl 1 rfl) ?_
      refine lv_iadd hF.1 hF.2.1 dX12_days_36 ?_
      refine q_put hF hU hS dX12_days_37 0 12 30 1230 1299 rfl rfl rfl rfl inX12 tyX12 tyX12_ok nmX12 (by decide) (by decide) rfl w_1359 rfl rfl rfl rfl (fun H locs hU hS => ?_)
      have hfr : qFr [1200, 1230] [] [] u (qsI (qsI u 1200 0) 1230 ((u.1 1230) + x)) := hfr.setI (by decide)
      refine lv_aload_n hF.1 hF.2.1 dX12_days_40 rfl (lv_at hl 0 rfl) ?_
      refine q_get (v := .int ((u.1 1230) + x)) hF hU dX12_days_41 0 12 30 1230 1299 rfl rfl rfl rfl inX12 (by decide) (by decide) w_1359 rfl rfl ?_
      exact q_iret hF hr rfl hlocks hU hS dX12_days_44 ⟨hfr, hI.now hfr (g_X12_days_v0 u x hI b10_4 hs_5 c25_6), (g_X12_days_v1 u x hI b10_4 hs_5 c25_6)⟩
    · refine lv_iconst (v := (-1)) hF.1 hF.2.1 dX12_days_28 (by decide) ?_
      exact q_iret hF hr rfl hlocks hU hS dX12_days_29 ⟨hfr, hI.thr 0, (g_X12_days_v2 u x hI b10_4 hs_5 c25_6)⟩
  · refine lv_if_eq (tgt := 28) hF.1 hF.2.1 dX12_days_13 (by decide) (fun _ => ?_) (fun h9 => absurd (by decide) h9)
    refine lv_iconst (v := (-1)) hF.1 hF.2.1 dX12_days_28 (by decide) ?_
    exact q_iret hF hr rfl hlocks hU hS dX12_days_29 ⟨hfr, hI.thr 0, (g_X12_days_v3 u x hI b10_4)⟩
set_option maxRecDepth 100000 in
theorem g_X12_view_v0 (u : qS) (x : Int32) (hI : IM u) (hs_1 : 0 ≤ u.1 1230 ∧ u.1 1230 ≤ 9999) (b11_5 : 0 ≤ x ∧ x ≤ ((u.1 1230 : Int32))) (c25_6 : ¬ (x : Int32) = (u.1 1230)) : ((0 ≤ x ∧ x ≤ u.1 1230) ∧ (1 : Int32) = 1) ∨ (¬ (0 ≤ x ∧ x ≤ u.1 1230) ∧ (1 : Int32) = 0) := by
  first | omega | ((try simp only [g_m1, Int32.lt_iff_toInt_lt, Int32.le_iff_toInt_le, ← Int32.toInt_inj, Int32.reduceToInt] at *); omega) | ((try simp only [g_m1, Int32.lt_iff_toInt_lt, Int32.le_iff_toInt_le, ← Int32.toInt_inj, Int32.reduceToInt] at *); omega) | ((try simp only [g_m1, Int32.lt_iff_toInt_lt, Int32.le_iff_toInt_le, ← Int32.toInt_inj, Int32.toInt_add, Int32.toInt_sub, Int32.toInt_mul, Int32.toInt_neg, Int32.reduceToInt, g_bm, g_bm'] at *); omega) | (have qr1 := g_rng x; (try simp only [g_m1, Int32.lt_iff_toInt_lt, Int32.le_iff_toInt_le, ← Int32.toInt_inj, Int32.toInt_add, Int32.toInt_sub, Int32.toInt_mul, Int32.toInt_neg, Int32.reduceToInt, g_bm, g_bm'] at *); omega) | (simp only [g_m1, Int32.lt_iff_toInt_lt, Int32.le_iff_toInt_le, ← Int32.toInt_inj, Int32.toInt_add, Int32.toInt_sub, Int32.toInt_mul, Int32.toInt_neg, Int32.reduceToInt, g_bm, g_bm'] at *; simp at *; omega) | (simp_all; done)
set_option maxRecDepth 100000 in
theorem g_X12_view_v1 (u : qS) (x : Int32) (hI : IM u) (hs_1 : 0 ≤ u.1 1230 ∧ u.1 1230 ≤ 9999) (b11_5 : 0 ≤ x ∧ x ≤ ((u.1 1230 : Int32))) (c25_6 : (x : Int32) = (u.1 1230)) : ((0 ≤ x ∧ x ≤ u.1 1230) ∧ (1 : Int32) = 1) ∨ (¬ (0 ≤ x ∧ x ≤ u.1 1230) ∧ (1 : Int32) = 0) := by
  first | omega | ((try simp only [g_m1, Int32.lt_iff_toInt_lt, Int32.le_iff_toInt_le, ← Int32.toInt_inj, Int32.reduceToInt] at *); omega) | ((try simp only [g_m1, Int32.lt_iff_toInt_lt, Int32.le_iff_toInt_le, ← Int32.toInt_inj, Int32.reduceToInt] at *); omega) | ((try simp only [g_m1, Int32.lt_iff_toInt_lt, Int32.le_iff_toInt_le, ← Int32.toInt_inj, Int32.toInt_add, Int32.toInt_sub, Int32.toInt_mul, Int32.toInt_neg, Int32.reduceToInt, g_bm, g_bm'] at *); omega) | (have qr1 := g_rng x; (try simp only [g_m1, Int32.lt_iff_toInt_lt, Int32.le_iff_toInt_le, ← Int32.toInt_inj, Int32.toInt_add, Int32.toInt_sub, Int32.toInt_mul, Int32.toInt_neg, Int32.reduceToInt, g_bm, g_bm'] at *); omega) | (simp only [g_m1, Int32.lt_iff_toInt_lt, Int32.le_iff_toInt_le, ← Int32.toInt_inj, Int32.toInt_add, Int32.toInt_sub, Int32.toInt_mul, Int32.toInt_neg, Int32.reduceToInt, g_bm, g_bm'] at *; simp at *; omega) | (simp_all; done)
set_option maxRecDepth 100000 in
theorem g_X12_view_v2 (u : qS) (x : Int32) (hI : IM u) (hs_1 : 0 ≤ u.1 1230 ∧ u.1 1230 ≤ 9999) (b11_5 : ¬ (0 ≤ x ∧ x ≤ ((u.1 1230 : Int32)))) : ((0 ≤ x ∧ x ≤ u.1 1230) ∧ (0 : Int32) = 1) ∨ (¬ (0 ≤ x ∧ x ≤ u.1 1230) ∧ (0 : Int32) = 0) := by
  first | omega | ((try simp only [g_m1, Int32.lt_iff_toInt_lt, Int32.le_iff_toInt_le, ← Int32.toInt_inj, Int32.reduceToInt] at *); omega) | ((try simp only [g_m1, Int32.lt_iff_toInt_lt, Int32.le_iff_toInt_le, ← Int32.toInt_inj, Int32.reduceToInt] at *); omega) | ((try simp only [g_m1, Int32.lt_iff_toInt_lt, Int32.le_iff_toInt_le, ← Int32.toInt_inj, Int32.toInt_add, Int32.toInt_sub, Int32.toInt_mul, Int32.toInt_neg, Int32.reduceToInt, g_bm, g_bm'] at *); omega) | (have qr1 := g_rng x; (try simp only [g_m1, Int32.lt_iff_toInt_lt, Int32.le_iff_toInt_le, ← Int32.toInt_inj, Int32.toInt_add, Int32.toInt_sub, Int32.toInt_mul, Int32.toInt_neg, Int32.reduceToInt, g_bm, g_bm'] at *); omega) | (simp only [g_m1, Int32.lt_iff_toInt_lt, Int32.le_iff_toInt_le, ← Int32.toInt_inj, Int32.toInt_add, Int32.toInt_sub, Int32.toInt_mul, Int32.toInt_neg, Int32.reduceToInt, g_bm, g_bm'] at *; simp at *; omega) | (simp_all; done)
set_option maxHeartbeats 1000000 in
set_option maxRecDepth 100000 in
theorem g_X12_view (l : Launch) (E : qE) (A : Nat → Prop) (u : qS) (x : Int32) (hI : IM u) : Met l yX12_view (uws yX12_view cX12_view 2 (some .boolean)) (qR 1 0 0) (qPc E A 1 u [.ref (E.2.2 1299), .int x]) (qQi E A 1 (fun r u1 => qFr [1200, 1231] [] [] u u1 ∧ IM u1 ∧ (((0 ≤ x ∧ x ≤ u.1 1230) ∧ r = 1) ∨ (¬ (0 ≤ x ∧ x ≤ u.1 1230) ∧ r = 0)))) 0 0 A := by
  refine q_met (own := RX12) (f := 1) [.ref (E.2.2 1299), .int x] (by decide) (Nat.le_of_ble_eq_true rfl) rfl ?_
  intro p0 e0 s0 m0 bl0 me0 cd0 ls hF hr hlocks hU hS hA hl
  have hl : lv_has ls 2 [(0, .ref (E.2.2 1299)), (1, .int x)] := hl
  have hfr : qFr [1200, 1231] [] [] u u := qFr.rf
  refine lv_aload_n hF.1 hF.2.1 dX12_view_0 rfl (lv_at hl 0 rfl) ?_
  refine lv_iconst (v := 0) hF.1 hF.2.1 dX12_view_1 (by decide) ?_
  refine q_put hF hU hS dX12_view_2 0 12 0 1200 1299 rfl rfl rfl rfl inX12 tyX12 tyX12_ok nmX12 (by decide) (by decide) rfl w_1329 rfl rfl rfl rfl (fun H locs hU hS => ?_)
  have hfr : qFr [1200, 1231] [] [] u (qsI u 1200 0) := hfr.setI (by decide)
  refine lv_iload_n hF.1 hF.2.1 dX12_view_5 rfl (lv_at hl 1 rfl) ?_
  refine lv_iconst (v := 0) hF.1 hF.2.1 dX12_view_6 (by decide) ?_
  refine lv_aload_n hF.1 hF.2.1 dX12_view_7 rfl (lv_at hl 0 rfl) ?_
  refine q_get (v := .int (u.1 1230)) hF hU dX12_view_8 0 12 30 1230 1299 rfl rfl rfl rfl inX12 (by decide) (by decide) w_1359 rfl (congrArg Value.int (hfr.1 1230 (by decide))) ?_
  have hs_1 : 0 ≤ u.1 1230 ∧ u.1 1230 ≤ 9999 := hI.1.s1230
  have hM9 := g_X12_within l E A (qsI u 1200 0) x 0 (u.1 1230)
  have hR9 := q_runS (l := l) (e := e0) (below := bl0) (meth := me0) (R := qR 1 0 0) (cells := 0) (slots := 0) (st0 := [.int (u.1 1230), .int 0, .int x]) (rest := []) hF hU hS hA 3 hM9 w_1680 w_1681 w_107 w_1682 (by decide +kernel) ⟨Nat.le_of_ble_eq_true rfl, Nat.le_of_ble_eq_true rfl⟩ dX12_view_11 rfl hl.1 rfl (Nat.le_of_ble_eq_true rfl) ⟨Nat.le_of_ble_eq_true rfl, Nat.le_of_ble_eq_true rfl⟩
  refine q_calli hR9 hU.2.2.2 hS (fun r_4 u_2 H locs hw_3 hU hS => ?_)
  obtain ⟨hw_3_e, hw_3⟩ := hw_3
  rw [hw_3_e] at hU
  have hw_3 : (r_4 = 1 ∧ (0 ≤ x ∧ x ≤ ((u.1 1230 : Int32)))) ∨ (r_4 = 0 ∧ ¬ (0 ≤ x ∧ x ≤ ((u.1 1230 : Int32)))) := hw_3
  rcases hw_3 with ⟨rfl, b11_5⟩ | ⟨rfl, b11_5⟩
  · refine lv_if_ne (tgt := 19) hF.1 hF.2.1 dX12_view_14 (by decide) (fun _ => ?_) (fun h9 => absurd h9 (by decide))
    refine lv_aload_n hF.1 hF.2.1 dX12_view_19 rfl (lv_at hl 0 rfl) ?_
    refine lv_iload_n hF.1 hF.2.1 dX12_view_20 rfl (lv_at hl 1 rfl) ?_
    refine lv_aload_n hF.1 hF.2.1 dX12_view_21 rfl (lv_at hl 0 rfl) ?_
    refine q_get (v := .int (u.1 1230)) hF hU dX12_view_22 0 12 30 1230 1299 rfl rfl rfl rfl inX12 (by decide) (by decide) w_1359 rfl (congrArg Value.int (hfr.1 1230 (by decide))) ?_
    refine lv_icmp_ne (tgt := 32) hF.1 hF.2.1 dX12_view_25 (by decide) (fun c25_6 => ?_) (fun c25_6 => ?_)
    · refine lv_iload_n hF.1 hF.2.1 dX12_view_32 rfl (lv_at hl 1 rfl) ?_
      refine q_put hF hU hS dX12_view_33 0 12 31 1231 1299 rfl rfl rfl rfl inX12 tyX12 tyX12_ok nmX12 (by decide) (by decide) rfl w_1360 rfl rfl rfl rfl (fun H locs hU hS => ?_)
      have hfr : qFr [1200, 1231] [] [] u (qsI (qsI u 1200 0) 1231 x) := hfr.setI (by decide)
      refine lv_iconst (v := 1) hF.1 hF.2.1 dX12_view_36 (by decide) ?_
      exact q_iret hF hr (by decide) hlocks hU hS dX12_view_37 ⟨hfr, hI.fr hfr (by decide) (by decide), (g_X12_view_v0 u x hI hs_1 b11_5 c25_6)⟩
    · refine lv_iconst (v := (-1)) hF.1 hF.2.1 dX12_view_28 (by decide) ?_
      refine lv_goto (tgt := 33) hF.1 hF.2.1 dX12_view_29 (by decide) ?_
      refine q_put hF hU hS dX12_view_33 0 12 31 1231 1299 rfl rfl rfl rfl inX12 tyX12 tyX12_ok nmX12 (by decide) (by decide) rfl w_1360 rfl rfl rfl rfl (fun H locs hU hS => ?_)
      have hfr : qFr [1200, 1231] [] [] u (qsI (qsI u 1200 0) 1231 (-1)) := hfr.setI (by decide)
      refine lv_iconst (v := 1) hF.1 hF.2.1 dX12_view_36 (by decide) ?_
      exact q_iret hF hr (by decide) hlocks hU hS dX12_view_37 ⟨hfr, hI.fr hfr (by decide) (by decide), (g_X12_view_v1 u x hI hs_1 b11_5 c25_6)⟩
  · refine lv_if_ne (tgt := 19) hF.1 hF.2.1 dX12_view_14 (by decide) (fun h9 => absurd (by decide) h9) (fun _ => ?_)
    refine lv_iconst (v := 0) hF.1 hF.2.1 dX12_view_17 (by decide) ?_
    exact q_iret hF hr (by decide) hlocks hU hS dX12_view_18 ⟨hfr, hI.fr hfr (by decide) (by decide), (g_X12_view_v2 u x hI hs_1 b11_5)⟩
set_option maxRecDepth 100000 in
theorem g_X12_terms_v0 (u : qS) (x : Int32) (y : Int32) (z : Int32) (hI : IM u) (b9_4 : 1 ≤ x ∧ x ≤ 60) (b20_8 : 0 ≤ y ∧ y ≤ 999) (b31_12 : 0 ≤ z ∧ z ≤ 1000) : 0 ≤ (z : Int32) ∧ (z : Int32) ≤ 1000 := by
  first | omega | ((try simp only [g_m1, Int32.lt_iff_toInt_lt, Int32.le_iff_toInt_le, ← Int32.toInt_inj, Int32.reduceToInt] at *); omega) | ((try simp only [g_m1, Int32.lt_iff_toInt_lt, Int32.le_iff_toInt_le, ← Int32.toInt_inj, Int32.reduceToInt] at *); omega) | ((try simp only [g_m1, Int32.lt_iff_toInt_lt, Int32.le_iff_toInt_le, ← Int32.toInt_inj, Int32.toInt_add, Int32.toInt_sub, Int32.toInt_mul, Int32.toInt_neg, Int32.reduceToInt, g_bm, g_bm'] at *); omega) | (have qr1 := g_rng x; have qr2 := g_rng y; have qr3 := g_rng z; (try simp only [g_m1, Int32.lt_iff_toInt_lt, Int32.le_iff_toInt_le, ← Int32.toInt_inj, Int32.toInt_add, Int32.toInt_sub, Int32.toInt_mul, Int32.toInt_neg, Int32.reduceToInt, g_bm, g_bm'] at *); omega) | (simp only [g_m1, Int32.lt_iff_toInt_lt, Int32.le_iff_toInt_le, ← Int32.toInt_inj, Int32.toInt_add, Int32.toInt_sub, Int32.toInt_mul, Int32.toInt_neg, Int32.reduceToInt, g_bm, g_bm'] at *; simp at *; omega) | (simp_all; done)
set_option maxRecDepth 100000 in
theorem g_X12_terms_v1 (u : qS) (x : Int32) (y : Int32) (z : Int32) (hI : IM u) (b9_4 : 1 ≤ x ∧ x ≤ 60) (b20_8 : 0 ≤ y ∧ y ≤ 999) (b31_12 : 0 ≤ z ∧ z ≤ 1000) : (((1 ≤ x ∧ x ≤ 60) ∧ (0 ≤ y ∧ y ≤ 999) ∧ (0 ≤ z ∧ z ≤ 1000)) ∧ (1 : Int32) = 1) ∨ (¬ ((1 ≤ x ∧ x ≤ 60) ∧ (0 ≤ y ∧ y ≤ 999) ∧ (0 ≤ z ∧ z ≤ 1000)) ∧ (1 : Int32) = 0) := by
  first | omega | ((try simp only [g_m1, Int32.lt_iff_toInt_lt, Int32.le_iff_toInt_le, ← Int32.toInt_inj, Int32.reduceToInt] at *); omega) | ((try simp only [g_m1, Int32.lt_iff_toInt_lt, Int32.le_iff_toInt_le, ← Int32.toInt_inj, Int32.reduceToInt] at *); omega) | ((try simp only [g_m1, Int32.lt_iff_toInt_lt, Int32.le_iff_toInt_le, ← Int32.toInt_inj, Int32.toInt_add, Int32.toInt_sub, Int32.toInt_mul, Int32.toInt_neg, Int32.reduceToInt, g_bm, g_bm'] at *); omega) | (have qr1 := g_rng x; have qr2 := g_rng y; have qr3 := g_rng z; (try simp only [g_m1, Int32.lt_iff_toInt_lt, Int32.le_iff_toInt_le, ← Int32.toInt_inj, Int32.toInt_add, Int32.toInt_sub, Int32.toInt_mul, Int32.toInt_neg, Int32.reduceToInt, g_bm, g_bm'] at *); omega) | (simp only [g_m1, Int32.lt_iff_toInt_lt, Int32.le_iff_toInt_le, ← Int32.toInt_inj, Int32.toInt_add, Int32.toInt_sub, Int32.toInt_mul, Int32.toInt_neg, Int32.reduceToInt, g_bm, g_bm'] at *; simp at *; omega) | (simp_all; done)
set_option maxRecDepth 100000 in
theorem g_X12_terms_v2 (u : qS) (x : Int32) (y : Int32) (z : Int32) (hI : IM u) (b9_4 : 1 ≤ x ∧ x ≤ 60) (b20_8 : 0 ≤ y ∧ y ≤ 999) (b31_12 : ¬ (0 ≤ z ∧ z ≤ 1000)) : (((1 ≤ x ∧ x ≤ 60) ∧ (0 ≤ y ∧ y ≤ 999) ∧ (0 ≤ z ∧ z ≤ 1000)) ∧ (0 : Int32) = 1) ∨ (¬ ((1 ≤ x ∧ x ≤ 60) ∧ (0 ≤ y ∧ y ≤ 999) ∧ (0 ≤ z ∧ z ≤ 1000)) ∧ (0 : Int32) = 0) := by
  first | omega | ((try simp only [g_m1, Int32.lt_iff_toInt_lt, Int32.le_iff_toInt_le, ← Int32.toInt_inj, Int32.reduceToInt] at *); omega) | ((try simp only [g_m1, Int32.lt_iff_toInt_lt, Int32.le_iff_toInt_le, ← Int32.toInt_inj, Int32.reduceToInt] at *); omega) | ((try simp only [g_m1, Int32.lt_iff_toInt_lt, Int32.le_iff_toInt_le, ← Int32.toInt_inj, Int32.toInt_add, Int32.toInt_sub, Int32.toInt_mul, Int32.toInt_neg, Int32.reduceToInt, g_bm, g_bm'] at *); omega) | (have qr1 := g_rng x; have qr2 := g_rng y; have qr3 := g_rng z; (try simp only [g_m1, Int32.lt_iff_toInt_lt, Int32.le_iff_toInt_le, ← Int32.toInt_inj, Int32.toInt_add, Int32.toInt_sub, Int32.toInt_mul, Int32.toInt_neg, Int32.reduceToInt, g_bm, g_bm'] at *); omega) | (simp only [g_m1, Int32.lt_iff_toInt_lt, Int32.le_iff_toInt_le, ← Int32.toInt_inj, Int32.toInt_add, Int32.toInt_sub, Int32.toInt_mul, Int32.toInt_neg, Int32.reduceToInt, g_bm, g_bm'] at *; simp at *; omega) | (simp_all; done)
set_option maxRecDepth 100000 in
theorem g_X12_terms_v3 (u : qS) (x : Int32) (y : Int32) (z : Int32) (hI : IM u) (b9_4 : 1 ≤ x ∧ x ≤ 60) (b20_8 : ¬ (0 ≤ y ∧ y ≤ 999)) : (((1 ≤ x ∧ x ≤ 60) ∧ (0 ≤ y ∧ y ≤ 999) ∧ (0 ≤ z ∧ z ≤ 1000)) ∧ (0 : Int32) = 1) ∨ (¬ ((1 ≤ x ∧ x ≤ 60) ∧ (0 ≤ y ∧ y ≤ 999) ∧ (0 ≤ z ∧ z ≤ 1000)) ∧ (0 : Int32) = 0) := by
  first | omega | ((try simp only [g_m1, Int32.lt_iff_toInt_lt, Int32.le_iff_toInt_le, ← Int32.toInt_inj, Int32.reduceToInt] at *); omega) | ((try simp only [g_m1, Int32.lt_iff_toInt_lt, Int32.le_iff_toInt_le, ← Int32.toInt_inj, Int32.reduceToInt] at *); omega) | ((try simp only [g_m1, Int32.lt_iff_toInt_lt, Int32.le_iff_toInt_le, ← Int32.toInt_inj, Int32.toInt_add, Int32.toInt_sub, Int32.toInt_mul, Int32.toInt_neg, Int32.reduceToInt, g_bm, g_bm'] at *); omega) | (have qr1 := g_rng x; have qr2 := g_rng y; have qr3 := g_rng z; (try simp only [g_m1, Int32.lt_iff_toInt_lt, Int32.le_iff_toInt_le, ← Int32.toInt_inj, Int32.toInt_add, Int32.toInt_sub, Int32.toInt_mul, Int32.toInt_neg, Int32.reduceToInt, g_bm, g_bm'] at *); omega) | (simp only [g_m1, Int32.lt_iff_toInt_lt, Int32.le_iff_toInt_le, ← Int32.toInt_inj, Int32.toInt_add, Int32.toInt_sub, Int32.toInt_mul, Int32.toInt_neg, Int32.reduceToInt, g_bm, g_bm'] at *; simp at *; omega) | (simp_all; done)
set_option maxRecDepth 100000 in
theorem g_X12_terms_v4 (u : qS) (x : Int32) (y : Int32) (z : Int32) (hI : IM u) (b9_4 : ¬ (1 ≤ x ∧ x ≤ 60)) : (((1 ≤ x ∧ x ≤ 60) ∧ (0 ≤ y ∧ y ≤ 999) ∧ (0 ≤ z ∧ z ≤ 1000)) ∧ (0 : Int32) = 1) ∨ (¬ ((1 ≤ x ∧ x ≤ 60) ∧ (0 ≤ y ∧ y ≤ 999) ∧ (0 ≤ z ∧ z ≤ 1000)) ∧ (0 : Int32) = 0) := by
  first | omega | ((try simp only [g_m1, Int32.lt_iff_toInt_lt, Int32.le_iff_toInt_le, ← Int32.toInt_inj, Int32.reduceToInt] at *); omega) | ((try simp only [g_m1, Int32.lt_iff_toInt_lt, Int32.le_iff_toInt_le, ← Int32.toInt_inj, Int32.reduceToInt] at *); omega) | ((try simp only [g_m1, Int32.lt_iff_toInt_lt, Int32.le_iff_toInt_le, ← Int32.toInt_inj, Int32.toInt_add, Int32.toInt_sub, Int32.toInt_mul, Int32.toInt_neg, Int32.reduceToInt, g_bm, g_bm'] at *); omega) | (have qr1 := g_rng x; have qr2 := g_rng y; have qr3 := g_rng z; (try simp only [g_m1, Int32.lt_iff_toInt_lt, Int32.le_iff_toInt_le, ← Int32.toInt_inj, Int32.toInt_add, Int32.toInt_sub, Int32.toInt_mul, Int32.toInt_neg, Int32.reduceToInt, g_bm, g_bm'] at *); omega) | (simp only [g_m1, Int32.lt_iff_toInt_lt, Int32.le_iff_toInt_le, ← Int32.toInt_inj, Int32.toInt_add, Int32.toInt_sub, Int32.toInt_mul, Int32.toInt_neg, Int32.reduceToInt, g_bm, g_bm'] at *; simp at *; omega) | (simp_all; done)
set_option maxHeartbeats 1000000 in
set_option maxRecDepth 100000 in
theorem g_X12_terms (l : Launch) (E : qE) (A : Nat → Prop) (u : qS) (x : Int32) (y : Int32) (z : Int32) (hI : IM u) : Met l yX12_terms (uws yX12_terms cX12_terms 4 (some .boolean)) (qR 1 0 0) (qPc E A 1 u [.ref (E.2.2 1299), .int x, .int y, .int z]) (qQi E A 1 (fun r u1 => qFr [1200, 1242, 1243, 1244] [] [] u u1 ∧ IM u1 ∧ ((((1 ≤ x ∧ x ≤ 60) ∧ (0 ≤ y ∧ y ≤ 999) ∧ (0 ≤ z ∧ z ≤ 1000)) ∧ r = 1) ∨ (¬ ((1 ≤ x ∧ x ≤ 60) ∧ (0 ≤ y ∧ y ≤ 999) ∧ (0 ≤ z ∧ z ≤ 1000)) ∧ r = 0)))) 0 0 A := by
  refine q_met (own := RX12) (f := 1) [.ref (E.2.2 1299), .int x, .int y, .int z] (by decide) (Nat.le_of_ble_eq_true rfl) rfl ?_
  intro p0 e0 s0 m0 bl0 me0 cd0 ls hF hr hlocks hU hS hA hl
  have hl : lv_has ls 4 [(0, .ref (E.2.2 1299)), (1, .int x), (2, .int y), (3, .int z)] := hl
  have hfr : qFr [1200, 1242, 1243, 1244] [] [] u u := qFr.rf
  refine lv_aload_n hF.1 hF.2.1 dX12_terms_0 rfl (lv_at hl 0 rfl) ?_
  refine lv_iconst (v := 0) hF.1 hF.2.1 dX12_terms_1 (by decide) ?_
  refine q_put hF hU hS dX12_terms_2 0 12 0 1200 1299 rfl rfl rfl rfl inX12 tyX12 tyX12_ok nmX12 (by decide) (by decide) rfl w_1329 rfl rfl rfl rfl (fun H locs hU hS => ?_)
  have hfr : qFr [1200, 1242, 1243, 1244] [] [] u (qsI u 1200 0) := hfr.setI (by decide)
  refine lv_iload_n hF.1 hF.2.1 dX12_terms_5 rfl (lv_at hl 1 rfl) ?_
  refine lv_iconst (v := 1) hF.1 hF.2.1 dX12_terms_6 (by decide) ?_
  refine lv_bipush (v := 60) hF.1 hF.2.1 dX12_terms_7 (by decide) ?_
  have hM9 := g_X12_within l E A (qsI u 1200 0) x 1 60
  have hR9 := q_runS (l := l) (e := e0) (below := bl0) (meth := me0) (R := qR 1 0 0) (cells := 0) (slots := 0) (st0 := [.int 60, .int 1, .int x]) (rest := []) hF hU hS hA 3 hM9 w_1680 w_1681 w_107 w_1682 (by decide +kernel) ⟨Nat.le_of_ble_eq_true rfl, Nat.le_of_ble_eq_true rfl⟩ dX12_terms_9 rfl hl.1 rfl (Nat.le_of_ble_eq_true rfl) ⟨Nat.le_of_ble_eq_true rfl, Nat.le_of_ble_eq_true rfl⟩
  refine q_calli hR9 hU.2.2.2 hS (fun r_3 u_1 H locs hw_2 hU hS => ?_)
  obtain ⟨hw_2_e, hw_2⟩ := hw_2
  rw [hw_2_e] at hU
  have hw_2 : (r_3 = 1 ∧ (1 ≤ x ∧ x ≤ 60)) ∨ (r_3 = 0 ∧ ¬ (1 ≤ x ∧ x ≤ 60)) := hw_2
  rcases hw_2 with ⟨rfl, b9_4⟩ | ⟨rfl, b9_4⟩
  · refine lv_if_eq (tgt := 37) hF.1 hF.2.1 dX12_terms_12 (by decide) (fun h9 => absurd h9 (by decide)) (fun _ => ?_)
    refine lv_iload_n hF.1 hF.2.1 dX12_terms_15 rfl (lv_at hl 2 rfl) ?_
    refine lv_iconst (v := 0) hF.1 hF.2.1 dX12_terms_16 (by decide) ?_
    refine lv_sipush (v := 999) hF.1 hF.2.1 dX12_terms_17 (by decide) ?_
    have hM9 := g_X12_within l E A (qsI u 1200 0) y 0 999
    have hR9 := q_runS (l := l) (e := e0) (below := bl0) (meth := me0) (R := qR 1 0 0) (cells := 0) (slots := 0) (st0 := [.int 999, .int 0, .int y]) (rest := []) hF hU hS hA 3 hM9 w_1680 w_1681 w_107 w_1682 (by decide +kernel) ⟨Nat.le_of_ble_eq_true rfl, Nat.le_of_ble_eq_true rfl⟩ dX12_terms_20 rfl hl.1 rfl (Nat.le_of_ble_eq_true rfl) ⟨Nat.le_of_ble_eq_true rfl, Nat.le_of_ble_eq_true rfl⟩
    refine q_calli hR9 hU.2.2.2 hS (fun r_7 u_5 H locs hw_6 hU hS => ?_)
    obtain ⟨hw_6_e, hw_6⟩ := hw_6
    rw [hw_6_e] at hU
    have hw_6 : (r_7 = 1 ∧ (0 ≤ y ∧ y ≤ 999)) ∨ (r_7 = 0 ∧ ¬ (0 ≤ y ∧ y ≤ 999)) := hw_6
    rcases hw_6 with ⟨rfl, b20_8⟩ | ⟨rfl, b20_8⟩
    · refine lv_if_eq (tgt := 37) hF.1 hF.2.1 dX12_terms_23 (by decide) (fun h9 => absurd h9 (by decide)) (fun _ => ?_)
      refine lv_iload_n hF.1 hF.2.1 dX12_terms_26 rfl (lv_at hl 3 rfl) ?_
      refine lv_iconst (v := 0) hF.1 hF.2.1 dX12_terms_27 (by decide) ?_
      refine lv_sipush (v := 1000) hF.1 hF.2.1 dX12_terms_28 (by decide) ?_
      have hM9 := g_X12_within l E A (qsI u 1200 0) z 0 1000
      have hR9 := q_runS (l := l) (e := e0) (below := bl0) (meth := me0) (R := qR 1 0 0) (cells := 0) (slots := 0) (st0 := [.int 1000, .int 0, .int z]) (rest := []) hF hU hS hA 3 hM9 w_1680 w_1681 w_107 w_1682 (by decide +kernel) ⟨Nat.le_of_ble_eq_true rfl, Nat.le_of_ble_eq_true rfl⟩ dX12_terms_31 rfl hl.1 rfl (Nat.le_of_ble_eq_true rfl) ⟨Nat.le_of_ble_eq_true rfl, Nat.le_of_ble_eq_true rfl⟩
      refine q_calli hR9 hU.2.2.2 hS (fun r_11 u_9 H locs hw_10 hU hS => ?_)
      obtain ⟨hw_10_e, hw_10⟩ := hw_10
      rw [hw_10_e] at hU
      have hw_10 : (r_11 = 1 ∧ (0 ≤ z ∧ z ≤ 1000)) ∨ (r_11 = 0 ∧ ¬ (0 ≤ z ∧ z ≤ 1000)) := hw_10
      rcases hw_10 with ⟨rfl, b31_12⟩ | ⟨rfl, b31_12⟩
      · refine lv_if_ne (tgt := 39) hF.1 hF.2.1 dX12_terms_34 (by decide) (fun _ => ?_) (fun h9 => absurd h9 (by decide))
        refine lv_aload_n hF.1 hF.2.1 dX12_terms_39 rfl (lv_at hl 0 rfl) ?_
        refine lv_iload_n hF.1 hF.2.1 dX12_terms_40 rfl (lv_at hl 1 rfl) ?_
        refine q_put hF hU hS dX12_terms_41 0 12 42 1242 1299 rfl rfl rfl rfl inX12 tyX12 tyX12_ok nmX12 (by decide) (by decide) rfl w_1371 rfl rfl rfl rfl (fun H locs hU hS => ?_)
        have hfr : qFr [1200, 1242, 1243, 1244] [] [] u (qsI (qsI u 1200 0) 1242 x) := hfr.setI (by decide)
        refine lv_aload_n hF.1 hF.2.1 dX12_terms_44 rfl (lv_at hl 0 rfl) ?_
        refine lv_iload_n hF.1 hF.2.1 dX12_terms_45 rfl (lv_at hl 2 rfl) ?_
        refine q_put hF hU hS dX12_terms_46 0 12 43 1243 1299 rfl rfl rfl rfl inX12 tyX12 tyX12_ok nmX12 (by decide) (by decide) rfl w_1372 rfl rfl rfl rfl (fun H locs hU hS => ?_)
        have hfr : qFr [1200, 1242, 1243, 1244] [] [] u (qsI (qsI (qsI u 1200 0) 1242 x) 1243 y) := hfr.setI (by decide)
        refine lv_aload_n hF.1 hF.2.1 dX12_terms_49 rfl (lv_at hl 0 rfl) ?_
        refine lv_iload_n hF.1 hF.2.1 dX12_terms_50 rfl (lv_at hl 3 rfl) ?_
        refine q_put hF hU hS dX12_terms_51 0 12 44 1244 1299 rfl rfl rfl rfl inX12 tyX12 tyX12_ok nmX12 (by decide) (by decide) rfl w_1373 rfl rfl rfl rfl (fun H locs hU hS => ?_)
        have hfr : qFr [1200, 1242, 1243, 1244] [] [] u (qsI (qsI (qsI (qsI u 1200 0) 1242 x) 1243 y) 1244 z) := hfr.setI (by decide)
        refine lv_iconst (v := 1) hF.1 hF.2.1 dX12_terms_54 (by decide) ?_
        exact q_iret hF hr (by decide) hlocks hU hS dX12_terms_55 ⟨hfr, hI.terms hfr (g_X12_terms_v0 u x y z hI b9_4 b20_8 b31_12), (g_X12_terms_v1 u x y z hI b9_4 b20_8 b31_12)⟩
      · refine lv_if_ne (tgt := 39) hF.1 hF.2.1 dX12_terms_34 (by decide) (fun h9 => absurd (by decide) h9) (fun _ => ?_)
        refine lv_iconst (v := 0) hF.1 hF.2.1 dX12_terms_37 (by decide) ?_
        exact q_iret hF hr (by decide) hlocks hU hS dX12_terms_38 ⟨hfr, hI.thr 0, (g_X12_terms_v2 u x y z hI b9_4 b20_8 b31_12)⟩
    · refine lv_if_eq (tgt := 37) hF.1 hF.2.1 dX12_terms_23 (by decide) (fun _ => ?_) (fun h9 => absurd (by decide) h9)
      refine lv_iconst (v := 0) hF.1 hF.2.1 dX12_terms_37 (by decide) ?_
      exact q_iret hF hr (by decide) hlocks hU hS dX12_terms_38 ⟨hfr, hI.thr 0, (g_X12_terms_v3 u x y z hI b9_4 b20_8)⟩
  · refine lv_if_eq (tgt := 37) hF.1 hF.2.1 dX12_terms_12 (by decide) (fun _ => ?_) (fun h9 => absurd (by decide) h9)
    refine lv_iconst (v := 0) hF.1 hF.2.1 dX12_terms_37 (by decide) ?_
    exact q_iret hF hr (by decide) hlocks hU hS dX12_terms_38 ⟨hfr, hI.thr 0, (g_X12_terms_v4 u x y z hI b9_4)⟩
set_option maxRecDepth 100000 in
theorem g_X12_rest_v0 (u : qS) (x : Int32) (y : Int32) (hI : IM u) (b10_4 : 0 ≤ x ∧ x ≤ 400) (b21_8 : 0 ≤ y ∧ y ≤ 198) : (((0 ≤ x ∧ x ≤ 400) ∧ (0 ≤ y ∧ y ≤ 198)) ∧ (1 : Int32) = 1) ∨ (¬ ((0 ≤ x ∧ x ≤ 400) ∧ (0 ≤ y ∧ y ≤ 198)) ∧ (1 : Int32) = 0) := by
  first | omega | ((try simp only [g_m1, Int32.lt_iff_toInt_lt, Int32.le_iff_toInt_le, ← Int32.toInt_inj, Int32.reduceToInt] at *); omega) | ((try simp only [g_m1, Int32.lt_iff_toInt_lt, Int32.le_iff_toInt_le, ← Int32.toInt_inj, Int32.reduceToInt] at *); omega) | ((try simp only [g_m1, Int32.lt_iff_toInt_lt, Int32.le_iff_toInt_le, ← Int32.toInt_inj, Int32.toInt_add, Int32.toInt_sub, Int32.toInt_mul, Int32.toInt_neg, Int32.reduceToInt, g_bm, g_bm'] at *); omega) | (have qr1 := g_rng x; have qr2 := g_rng y; (try simp only [g_m1, Int32.lt_iff_toInt_lt, Int32.le_iff_toInt_le, ← Int32.toInt_inj, Int32.toInt_add, Int32.toInt_sub, Int32.toInt_mul, Int32.toInt_neg, Int32.reduceToInt, g_bm, g_bm'] at *); omega) | (simp only [g_m1, Int32.lt_iff_toInt_lt, Int32.le_iff_toInt_le, ← Int32.toInt_inj, Int32.toInt_add, Int32.toInt_sub, Int32.toInt_mul, Int32.toInt_neg, Int32.reduceToInt, g_bm, g_bm'] at *; simp at *; omega) | (simp_all; done)
set_option maxRecDepth 100000 in
theorem g_X12_rest_v1 (u : qS) (x : Int32) (y : Int32) (hI : IM u) (b10_4 : 0 ≤ x ∧ x ≤ 400) (b21_8 : ¬ (0 ≤ y ∧ y ≤ 198)) : (((0 ≤ x ∧ x ≤ 400) ∧ (0 ≤ y ∧ y ≤ 198)) ∧ (0 : Int32) = 1) ∨ (¬ ((0 ≤ x ∧ x ≤ 400) ∧ (0 ≤ y ∧ y ≤ 198)) ∧ (0 : Int32) = 0) := by
  first | omega | ((try simp only [g_m1, Int32.lt_iff_toInt_lt, Int32.le_iff_toInt_le, ← Int32.toInt_inj, Int32.reduceToInt] at *); omega) | ((try simp only [g_m1, Int32.lt_iff_toInt_lt, Int32.le_iff_toInt_le, ← Int32.toInt_inj, Int32.reduceToInt] at *); omega) | ((try simp only [g_m1, Int32.lt_iff_toInt_lt, Int32.le_iff_toInt_le, ← Int32.toInt_inj, Int32.toInt_add, Int32.toInt_sub, Int32.toInt_mul, Int32.toInt_neg, Int32.reduceToInt, g_bm, g_bm'] at *); omega) | (have qr1 := g_rng x; have qr2 := g_rng y; (try simp only [g_m1, Int32.lt_iff_toInt_lt, Int32.le_iff_toInt_le, ← Int32.toInt_inj, Int32.toInt_add, Int32.toInt_sub, Int32.toInt_mul, Int32.toInt_neg, Int32.reduceToInt, g_bm, g_bm'] at *); omega) | (simp only [g_m1, Int32.lt_iff_toInt_lt, Int32.le_iff_toInt_le, ← Int32.toInt_inj, Int32.toInt_add, Int32.toInt_sub, Int32.toInt_mul, Int32.toInt_neg, Int32.reduceToInt, g_bm, g_bm'] at *; simp at *; omega) | (simp_all; done)
set_option maxRecDepth 100000 in
theorem g_X12_rest_v2 (u : qS) (x : Int32) (y : Int32) (hI : IM u) (b10_4 : ¬ (0 ≤ x ∧ x ≤ 400)) : (((0 ≤ x ∧ x ≤ 400) ∧ (0 ≤ y ∧ y ≤ 198)) ∧ (0 : Int32) = 1) ∨ (¬ ((0 ≤ x ∧ x ≤ 400) ∧ (0 ≤ y ∧ y ≤ 198)) ∧ (0 : Int32) = 0) := by
  first | omega | ((try simp only [g_m1, Int32.lt_iff_toInt_lt, Int32.le_iff_toInt_le, ← Int32.toInt_inj, Int32.reduceToInt] at *); omega) | ((try simp only [g_m1, Int32.lt_iff_toInt_lt, Int32.le_iff_toInt_le, ← Int32.toInt_inj, Int32.reduceToInt] at *); omega) | ((try simp only [g_m1, Int32.lt_iff_toInt_lt, Int32.le_iff_toInt_le, ← Int32.toInt_inj, Int32.toInt_add, Int32.toInt_sub, Int32.toInt_mul, Int32.toInt_neg, Int32.reduceToInt, g_bm, g_bm'] at *); omega) | (have qr1 := g_rng x; have qr2 := g_rng y; (try simp only [g_m1, Int32.lt_iff_toInt_lt, Int32.le_iff_toInt_le, ← Int32.toInt_inj, Int32.toInt_add, Int32.toInt_sub, Int32.toInt_mul, Int32.toInt_neg, Int32.reduceToInt, g_bm, g_bm'] at *); omega) | (simp only [g_m1, Int32.lt_iff_toInt_lt, Int32.le_iff_toInt_le, ← Int32.toInt_inj, Int32.toInt_add, Int32.toInt_sub, Int32.toInt_mul, Int32.toInt_neg, Int32.reduceToInt, g_bm, g_bm'] at *; simp at *; omega) | (simp_all; done)
set_option maxHeartbeats 1000000 in
set_option maxRecDepth 100000 in
theorem g_X12_rest (l : Launch) (E : qE) (A : Nat → Prop) (u : qS) (x : Int32) (y : Int32) (hI : IM u) : Met l yX12_rest (uws yX12_rest cX12_rest 3 (some .boolean)) (qR 1 0 0) (qPc E A 1 u [.ref (E.2.2 1299), .int x, .int y]) (qQi E A 1 (fun r u1 => qFr [1200, 1245, 1246] [] [] u u1 ∧ IM u1 ∧ ((((0 ≤ x ∧ x ≤ 400) ∧ (0 ≤ y ∧ y ≤ 198)) ∧ r = 1) ∨ (¬ ((0 ≤ x ∧ x ≤ 400) ∧ (0 ≤ y ∧ y ≤ 198)) ∧ r = 0)))) 0 0 A := by
  refine q_met (own := RX12) (f := 1) [.ref (E.2.2 1299), .int x, .int y] (by decide) (Nat.le_of_ble_eq_true rfl) rfl ?_
  intro p0 e0 s0 m0 bl0 me0 cd0 ls hF hr hlocks hU hS hA hl
  have hl : lv_has ls 3 [(0, .ref (E.2.2 1299)), (1, .int x), (2, .int y)] := hl
  have hfr : qFr [1200, 1245, 1246] [] [] u u := qFr.rf
  refine lv_aload_n hF.1 hF.2.1 dX12_rest_0 rfl (lv_at hl 0 rfl) ?_
  refine lv_iconst (v := 0) hF.1 hF.2.1 dX12_rest_1 (by decide) ?_
  refine q_put hF hU hS dX12_rest_2 0 12 0 1200 1299 rfl rfl rfl rfl inX12 tyX12 tyX12_ok nmX12 (by decide) (by decide) rfl w_1329 rfl rfl rfl rfl (fun H locs hU hS => ?_)
  have hfr : qFr [1200, 1245, 1246] [] [] u (qsI u 1200 0) := hfr.setI (by decide)
  refine lv_iload_n hF.1 hF.2.1 dX12_rest_5 rfl (lv_at hl 1 rfl) ?_
  refine lv_iconst (v := 0) hF.1 hF.2.1 dX12_rest_6 (by decide) ?_
  refine lv_sipush (v := 400) hF.1 hF.2.1 dX12_rest_7 (by decide) ?_
  have hM9 := g_X12_within l E A (qsI u 1200 0) x 0 400
  have hR9 := q_runS (l := l) (e := e0) (below := bl0) (meth := me0) (R := qR 1 0 0) (cells := 0) (slots := 0) (st0 := [.int 400, .int 0, .int x]) (rest := []) hF hU hS hA 3 hM9 w_1680 w_1681 w_107 w_1682 (by decide +kernel) ⟨Nat.le_of_ble_eq_true rfl, Nat.le_of_ble_eq_true rfl⟩ dX12_rest_10 rfl hl.1 rfl (Nat.le_of_ble_eq_true rfl) ⟨Nat.le_of_ble_eq_true rfl, Nat.le_of_ble_eq_true rfl⟩
  refine q_calli hR9 hU.2.2.2 hS (fun r_3 u_1 H locs hw_2 hU hS => ?_)
  obtain ⟨hw_2_e, hw_2⟩ := hw_2
  rw [hw_2_e] at hU
  have hw_2 : (r_3 = 1 ∧ (0 ≤ x ∧ x ≤ 400)) ∨ (r_3 = 0 ∧ ¬ (0 ≤ x ∧ x ≤ 400)) := hw_2
  rcases hw_2 with ⟨rfl, b10_4⟩ | ⟨rfl, b10_4⟩
  · refine lv_if_eq (tgt := 27) hF.1 hF.2.1 dX12_rest_13 (by decide) (fun h9 => absurd h9 (by decide)) (fun _ => ?_)
    refine lv_iload_n hF.1 hF.2.1 dX12_rest_16 rfl (lv_at hl 2 rfl) ?_
    refine lv_iconst (v := 0) hF.1 hF.2.1 dX12_rest_17 (by decide) ?_
    refine lv_sipush (v := 198) hF.1 hF.2.1 dX12_rest_18 (by decide) ?_
    have hM9 := g_X12_within l E A (qsI u 1200 0) y 0 198
    have hR9 := q_runS (l := l) (e := e0) (below := bl0) (meth := me0) (R := qR 1 0 0) (cells := 0) (slots := 0) (st0 := [.int 198, .int 0, .int y]) (rest := []) hF hU hS hA 3 hM9 w_1680 w_1681 w_107 w_1682 (by decide +kernel) ⟨Nat.le_of_ble_eq_true rfl, Nat.le_of_ble_eq_true rfl⟩ dX12_rest_21 rfl hl.1 rfl (Nat.le_of_ble_eq_true rfl) ⟨Nat.le_of_ble_eq_true rfl, Nat.le_of_ble_eq_true rfl⟩
    refine q_calli hR9 hU.2.2.2 hS (fun r_7 u_5 H locs hw_6 hU hS => ?_)
    obtain ⟨hw_6_e, hw_6⟩ := hw_6
    rw [hw_6_e] at hU
    have hw_6 : (r_7 = 1 ∧ (0 ≤ y ∧ y ≤ 198)) ∨ (r_7 = 0 ∧ ¬ (0 ≤ y ∧ y ≤ 198)) := hw_6
    rcases hw_6 with ⟨rfl, b21_8⟩ | ⟨rfl, b21_8⟩
    · refine lv_if_ne (tgt := 29) hF.1 hF.2.1 dX12_rest_24 (by decide) (fun _ => ?_) (fun h9 => absurd h9 (by decide))
      refine lv_aload_n hF.1 hF.2.1 dX12_rest_29 rfl (lv_at hl 0 rfl) ?_
      refine lv_iload_n hF.1 hF.2.1 dX12_rest_30 rfl (lv_at hl 1 rfl) ?_
      refine q_put hF hU hS dX12_rest_31 0 12 45 1245 1299 rfl rfl rfl rfl inX12 tyX12 tyX12_ok nmX12 (by decide) (by decide) rfl w_1374 rfl rfl rfl rfl (fun H locs hU hS => ?_)
      have hfr : qFr [1200, 1245, 1246] [] [] u (qsI (qsI u 1200 0) 1245 x) := hfr.setI (by decide)
      refine lv_aload_n hF.1 hF.2.1 dX12_rest_34 rfl (lv_at hl 0 rfl) ?_
      refine lv_iload_n hF.1 hF.2.1 dX12_rest_35 rfl (lv_at hl 2 rfl) ?_
      refine q_put hF hU hS dX12_rest_36 0 12 46 1246 1299 rfl rfl rfl rfl inX12 tyX12 tyX12_ok nmX12 (by decide) (by decide) rfl w_1375 rfl rfl rfl rfl (fun H locs hU hS => ?_)
      have hfr : qFr [1200, 1245, 1246] [] [] u (qsI (qsI (qsI u 1200 0) 1245 x) 1246 y) := hfr.setI (by decide)
      refine lv_iconst (v := 1) hF.1 hF.2.1 dX12_rest_39 (by decide) ?_
      exact q_iret hF hr (by decide) hlocks hU hS dX12_rest_40 ⟨hfr, hI.fr hfr (by decide) (by decide), (g_X12_rest_v0 u x y hI b10_4 b21_8)⟩
    · refine lv_if_ne (tgt := 29) hF.1 hF.2.1 dX12_rest_24 (by decide) (fun h9 => absurd (by decide) h9) (fun _ => ?_)
      refine lv_iconst (v := 0) hF.1 hF.2.1 dX12_rest_27 (by decide) ?_
      exact q_iret hF hr (by decide) hlocks hU hS dX12_rest_28 ⟨hfr, hI.fr hfr (by decide) (by decide), (g_X12_rest_v1 u x y hI b10_4 b21_8)⟩
  · refine lv_if_eq (tgt := 27) hF.1 hF.2.1 dX12_rest_13 (by decide) (fun _ => ?_) (fun h9 => absurd (by decide) h9)
    refine lv_iconst (v := 0) hF.1 hF.2.1 dX12_rest_27 (by decide) ?_
    exact q_iret hF hr (by decide) hlocks hU hS dX12_rest_28 ⟨hfr, hI.fr hfr (by decide) (by decide), (g_X12_rest_v2 u x y hI b10_4)⟩
set_option maxRecDepth 100000 in
theorem g_X12_shop_v0 (u : qS) (x : Int32) (y : Int32) (c : Int32) (f : Int32) (t : Int32) (hI : IM u) (b7_4 : (0 ≤ x ∧ x ≤ 99) ∧ (0 ≤ y ∧ y ≤ 99)) (b16_8 : 0 ≤ c ∧ c ≤ 3) (b28_12 : 0 ≤ f ∧ f ≤ 1439) (b41_16 : f ≤ t ∧ t ≤ 1439) (hs_17 : 0 ≤ u.1 1232 ∧ u.1 1232 ≤ 20) (c53_18 : ¬ (u.1 1232 : Int32) = 20) : vp_in (u.1 1232) 20 := by
  refine g_in ?_ ?_ <;> ((try simp only [g_m1, Int32.lt_iff_toInt_lt, Int32.le_iff_toInt_le, ← Int32.toInt_inj, Int32.toInt_add, Int32.toInt_sub, Int32.toInt_mul, Int32.toInt_neg, Int32.reduceToInt, g_bm, g_bm'] at *); omega)
set_option maxRecDepth 100000 in
theorem g_X12_shop_v1 (u : qS) (x : Int32) (y : Int32) (c : Int32) (f : Int32) (t : Int32) (f_19 : Nat → Int32) (hI : IM u) (b7_4 : (0 ≤ x ∧ x ≤ 99) ∧ (0 ≤ y ∧ y ≤ 99)) (b16_8 : 0 ≤ c ∧ c ≤ 3) (b28_12 : 0 ≤ f ∧ f ≤ 1439) (b41_16 : f ≤ t ∧ t ≤ 1439) (hs_17 : 0 ≤ u.1 1232 ∧ u.1 1232 ≤ 20) (c53_18 : ¬ (u.1 1232 : Int32) = 20) (hf_19 : f_19 = upd (u.2.1 1233) (u.1 1232 : Int32).toNatClampNeg x) : vp_in (u.1 1232) 20 := by
  refine g_in ?_ ?_ <;> ((try simp only [g_m1, Int32.lt_iff_toInt_lt, Int32.le_iff_toInt_le, ← Int32.toInt_inj, Int32.toInt_add, Int32.toInt_sub, Int32.toInt_mul, Int32.toInt_neg, Int32.reduceToInt, g_bm, g_bm'] at *); omega)
set_option maxRecDepth 100000 in
theorem g_X12_shop_v2 (u : qS) (x : Int32) (y : Int32) (c : Int32) (f : Int32) (t : Int32) (f_19 : Nat → Int32) (f_20 : Nat → Int32) (hI : IM u) (b7_4 : (0 ≤ x ∧ x ≤ 99) ∧ (0 ≤ y ∧ y ≤ 99)) (b16_8 : 0 ≤ c ∧ c ≤ 3) (b28_12 : 0 ≤ f ∧ f ≤ 1439) (b41_16 : f ≤ t ∧ t ≤ 1439) (hs_17 : 0 ≤ u.1 1232 ∧ u.1 1232 ≤ 20) (c53_18 : ¬ (u.1 1232 : Int32) = 20) (hf_19 : f_19 = upd (u.2.1 1233) (u.1 1232 : Int32).toNatClampNeg x) (hf_20 : f_20 = upd (u.2.1 1234) (u.1 1232 : Int32).toNatClampNeg y) : vp_in (u.1 1232) 20 := by
  refine g_in ?_ ?_ <;> ((try simp only [g_m1, Int32.lt_iff_toInt_lt, Int32.le_iff_toInt_le, ← Int32.toInt_inj, Int32.toInt_add, Int32.toInt_sub, Int32.toInt_mul, Int32.toInt_neg, Int32.reduceToInt, g_bm, g_bm'] at *); omega)
set_option maxRecDepth 100000 in
theorem g_X12_shop_v3 (u : qS) (x : Int32) (y : Int32) (c : Int32) (f : Int32) (t : Int32) (f_19 : Nat → Int32) (f_20 : Nat → Int32) (f_21 : Nat → Int32) (hI : IM u) (b7_4 : (0 ≤ x ∧ x ≤ 99) ∧ (0 ≤ y ∧ y ≤ 99)) (b16_8 : 0 ≤ c ∧ c ≤ 3) (b28_12 : 0 ≤ f ∧ f ≤ 1439) (b41_16 : f ≤ t ∧ t ≤ 1439) (hs_17 : 0 ≤ u.1 1232 ∧ u.1 1232 ≤ 20) (c53_18 : ¬ (u.1 1232 : Int32) = 20) (hf_19 : f_19 = upd (u.2.1 1233) (u.1 1232 : Int32).toNatClampNeg x) (hf_20 : f_20 = upd (u.2.1 1234) (u.1 1232 : Int32).toNatClampNeg y) (hf_21 : f_21 = upd (u.2.1 1235) (u.1 1232 : Int32).toNatClampNeg c) : vp_in (u.1 1232) 20 := by
  refine g_in ?_ ?_ <;> ((try simp only [g_m1, Int32.lt_iff_toInt_lt, Int32.le_iff_toInt_le, ← Int32.toInt_inj, Int32.toInt_add, Int32.toInt_sub, Int32.toInt_mul, Int32.toInt_neg, Int32.reduceToInt, g_bm, g_bm'] at *); omega)
set_option maxRecDepth 100000 in
theorem g_X12_shop_v4 (u : qS) (x : Int32) (y : Int32) (c : Int32) (f : Int32) (t : Int32) (f_19 : Nat → Int32) (f_20 : Nat → Int32) (f_21 : Nat → Int32) (f_22 : Nat → Int32) (hI : IM u) (b7_4 : (0 ≤ x ∧ x ≤ 99) ∧ (0 ≤ y ∧ y ≤ 99)) (b16_8 : 0 ≤ c ∧ c ≤ 3) (b28_12 : 0 ≤ f ∧ f ≤ 1439) (b41_16 : f ≤ t ∧ t ≤ 1439) (hs_17 : 0 ≤ u.1 1232 ∧ u.1 1232 ≤ 20) (c53_18 : ¬ (u.1 1232 : Int32) = 20) (hf_19 : f_19 = upd (u.2.1 1233) (u.1 1232 : Int32).toNatClampNeg x) (hf_20 : f_20 = upd (u.2.1 1234) (u.1 1232 : Int32).toNatClampNeg y) (hf_21 : f_21 = upd (u.2.1 1235) (u.1 1232 : Int32).toNatClampNeg c) (hf_22 : f_22 = upd (u.2.1 1236) (u.1 1232 : Int32).toNatClampNeg f) : vp_in (u.1 1232) 20 := by
  refine g_in ?_ ?_ <;> ((try simp only [g_m1, Int32.lt_iff_toInt_lt, Int32.le_iff_toInt_le, ← Int32.toInt_inj, Int32.toInt_add, Int32.toInt_sub, Int32.toInt_mul, Int32.toInt_neg, Int32.reduceToInt, g_bm, g_bm'] at *); omega)
set_option maxRecDepth 100000 in
theorem g_X12_shop_v5 (u : qS) (x : Int32) (y : Int32) (c : Int32) (f : Int32) (t : Int32) (f_19 : Nat → Int32) (f_20 : Nat → Int32) (f_21 : Nat → Int32) (f_22 : Nat → Int32) (f_23 : Nat → Int32) (hI : IM u) (b7_4 : (0 ≤ x ∧ x ≤ 99) ∧ (0 ≤ y ∧ y ≤ 99)) (b16_8 : 0 ≤ c ∧ c ≤ 3) (b28_12 : 0 ≤ f ∧ f ≤ 1439) (b41_16 : f ≤ t ∧ t ≤ 1439) (hs_17 : 0 ≤ u.1 1232 ∧ u.1 1232 ≤ 20) (c53_18 : ¬ (u.1 1232 : Int32) = 20) (hf_19 : f_19 = upd (u.2.1 1233) (u.1 1232 : Int32).toNatClampNeg x) (hf_20 : f_20 = upd (u.2.1 1234) (u.1 1232 : Int32).toNatClampNeg y) (hf_21 : f_21 = upd (u.2.1 1235) (u.1 1232 : Int32).toNatClampNeg c) (hf_22 : f_22 = upd (u.2.1 1236) (u.1 1232 : Int32).toNatClampNeg f) (hf_23 : f_23 = upd (u.2.1 1237) (u.1 1232 : Int32).toNatClampNeg t) : vp_in (u.1 1232) 20 := by
  refine g_in ?_ ?_ <;> ((try simp only [g_m1, Int32.lt_iff_toInt_lt, Int32.le_iff_toInt_le, ← Int32.toInt_inj, Int32.toInt_add, Int32.toInt_sub, Int32.toInt_mul, Int32.toInt_neg, Int32.reduceToInt, g_bm, g_bm'] at *); omega)
set_option maxRecDepth 100000 in
theorem g_X12_shop_v6 (u : qS) (x : Int32) (y : Int32) (c : Int32) (f : Int32) (t : Int32) (z : Int32) (f_19 : Nat → Int32) (f_20 : Nat → Int32) (f_21 : Nat → Int32) (f_22 : Nat → Int32) (f_23 : Nat → Int32) (f_24 : Nat → Int32) (hI : IM u) (b7_4 : (0 ≤ x ∧ x ≤ 99) ∧ (0 ≤ y ∧ y ≤ 99)) (b16_8 : 0 ≤ c ∧ c ≤ 3) (b28_12 : 0 ≤ f ∧ f ≤ 1439) (b41_16 : f ≤ t ∧ t ≤ 1439) (hs_17 : 0 ≤ u.1 1232 ∧ u.1 1232 ≤ 20) (c53_18 : ¬ (u.1 1232 : Int32) = 20) (hf_19 : f_19 = upd (u.2.1 1233) (u.1 1232 : Int32).toNatClampNeg x) (hf_20 : f_20 = upd (u.2.1 1234) (u.1 1232 : Int32).toNatClampNeg y) (hf_21 : f_21 = upd (u.2.1 1235) (u.1 1232 : Int32).toNatClampNeg c) (hf_22 : f_22 = upd (u.2.1 1236) (u.1 1232 : Int32).toNatClampNeg f) (hf_23 : f_23 = upd (u.2.1 1237) (u.1 1232 : Int32).toNatClampNeg t) (hf_24 : f_24 = upd (u.2.1 1238) (u.1 1232 : Int32).toNatClampNeg (vp_nar .boolean z)) : 0 ≤ ((u.1 1232) + 1 : Int32) ∧ ((u.1 1232) + 1 : Int32) ≤ 20 := by
  first | omega | ((try simp only [g_m1, Int32.lt_iff_toInt_lt, Int32.le_iff_toInt_le, ← Int32.toInt_inj, Int32.reduceToInt] at *); omega) | ((try have ez0 : ((u.1 1232) + 1 : Int32).toInt = (u.1 1232 : Int32).toInt + (1 : Int32).toInt := g_add (by (try simp only [g_m1, Int32.lt_iff_toInt_lt, Int32.le_iff_toInt_le, ← Int32.toInt_inj, Int32.reduceToInt] at *); omega) (by (try simp only [g_m1, Int32.lt_iff_toInt_lt, Int32.le_iff_toInt_le, ← Int32.toInt_inj, Int32.reduceToInt] at *); omega)); (try simp only [g_m1, Int32.lt_iff_toInt_lt, Int32.le_iff_toInt_le, ← Int32.toInt_inj, Int32.reduceToInt] at *); omega) | ((try simp only [g_m1, Int32.lt_iff_toInt_lt, Int32.le_iff_toInt_le, ← Int32.toInt_inj, Int32.toInt_add, Int32.toInt_sub, Int32.toInt_mul, Int32.toInt_neg, Int32.reduceToInt, g_bm, g_bm'] at *); omega) | (have qr1 := g_rng x; have qr2 := g_rng y; have qr3 := g_rng c; have qr4 := g_rng f; have qr5 := g_rng t; have qr6 := g_rng z; (try simp only [g_m1, Int32.lt_iff_toInt_lt, Int32.le_iff_toInt_le, ← Int32.toInt_inj, Int32.toInt_add, Int32.toInt_sub, Int32.toInt_mul, Int32.toInt_neg, Int32.reduceToInt, g_bm, g_bm'] at *); omega) | (simp only [g_m1, Int32.lt_iff_toInt_lt, Int32.le_iff_toInt_le, ← Int32.toInt_inj, Int32.toInt_add, Int32.toInt_sub, Int32.toInt_mul, Int32.toInt_neg, Int32.reduceToInt, g_bm, g_bm'] at *; simp at *; omega) | (simp_all; done)
set_option maxRecDepth 100000 in
theorem g_X12_shop_v7 (u : qS) (x : Int32) (y : Int32) (c : Int32) (f : Int32) (t : Int32) (z : Int32) (f_19 : Nat → Int32) (f_20 : Nat → Int32) (f_21 : Nat → Int32) (f_22 : Nat → Int32) (f_23 : Nat → Int32) (f_24 : Nat → Int32) (hI : IM u) (b7_4 : (0 ≤ x ∧ x ≤ 99) ∧ (0 ≤ y ∧ y ≤ 99)) (b16_8 : 0 ≤ c ∧ c ≤ 3) (b28_12 : 0 ≤ f ∧ f ≤ 1439) (b41_16 : f ≤ t ∧ t ≤ 1439) (hs_17 : 0 ≤ u.1 1232 ∧ u.1 1232 ≤ 20) (c53_18 : ¬ (u.1 1232 : Int32) = 20) (hf_19 : f_19 = upd (u.2.1 1233) (u.1 1232 : Int32).toNatClampNeg x) (hf_20 : f_20 = upd (u.2.1 1234) (u.1 1232 : Int32).toNatClampNeg y) (hf_21 : f_21 = upd (u.2.1 1235) (u.1 1232 : Int32).toNatClampNeg c) (hf_22 : f_22 = upd (u.2.1 1236) (u.1 1232 : Int32).toNatClampNeg f) (hf_23 : f_23 = upd (u.2.1 1237) (u.1 1232 : Int32).toNatClampNeg t) (hf_24 : f_24 = upd (u.2.1 1238) (u.1 1232 : Int32).toNatClampNeg (vp_nar .boolean z)) : u.1 1232 ≤ ((u.1 1232) + 1 : Int32) := by
  first | omega | ((try simp only [g_m1, Int32.lt_iff_toInt_lt, Int32.le_iff_toInt_le, ← Int32.toInt_inj, Int32.reduceToInt] at *); omega) | ((try have ez0 : ((u.1 1232) + 1 : Int32).toInt = (u.1 1232 : Int32).toInt + (1 : Int32).toInt := g_add (by (try simp only [g_m1, Int32.lt_iff_toInt_lt, Int32.le_iff_toInt_le, ← Int32.toInt_inj, Int32.reduceToInt] at *); omega) (by (try simp only [g_m1, Int32.lt_iff_toInt_lt, Int32.le_iff_toInt_le, ← Int32.toInt_inj, Int32.reduceToInt] at *); omega)); (try simp only [g_m1, Int32.lt_iff_toInt_lt, Int32.le_iff_toInt_le, ← Int32.toInt_inj, Int32.reduceToInt] at *); omega) | ((try simp only [g_m1, Int32.lt_iff_toInt_lt, Int32.le_iff_toInt_le, ← Int32.toInt_inj, Int32.toInt_add, Int32.toInt_sub, Int32.toInt_mul, Int32.toInt_neg, Int32.reduceToInt, g_bm, g_bm'] at *); omega) | (have qr1 := g_rng x; have qr2 := g_rng y; have qr3 := g_rng c; have qr4 := g_rng f; have qr5 := g_rng t; have qr6 := g_rng z; (try simp only [g_m1, Int32.lt_iff_toInt_lt, Int32.le_iff_toInt_le, ← Int32.toInt_inj, Int32.toInt_add, Int32.toInt_sub, Int32.toInt_mul, Int32.toInt_neg, Int32.reduceToInt, g_bm, g_bm'] at *); omega) | (simp only [g_m1, Int32.lt_iff_toInt_lt, Int32.le_iff_toInt_le, ← Int32.toInt_inj, Int32.toInt_add, Int32.toInt_sub, Int32.toInt_mul, Int32.toInt_neg, Int32.reduceToInt, g_bm, g_bm'] at *; simp at *; omega) | (simp_all; done)
set_option maxRecDepth 100000 in
theorem g_X12_shop_v8 (u : qS) (x : Int32) (y : Int32) (c : Int32) (f : Int32) (t : Int32) (z : Int32) (f_19 : Nat → Int32) (f_20 : Nat → Int32) (f_21 : Nat → Int32) (f_22 : Nat → Int32) (f_23 : Nat → Int32) (f_24 : Nat → Int32) (hI : IM u) (b7_4 : (0 ≤ x ∧ x ≤ 99) ∧ (0 ≤ y ∧ y ≤ 99)) (b16_8 : 0 ≤ c ∧ c ≤ 3) (b28_12 : 0 ≤ f ∧ f ≤ 1439) (b41_16 : f ≤ t ∧ t ≤ 1439) (hs_17 : 0 ≤ u.1 1232 ∧ u.1 1232 ≤ 20) (c53_18 : ¬ (u.1 1232 : Int32) = 20) (hf_19 : f_19 = upd (u.2.1 1233) (u.1 1232 : Int32).toNatClampNeg x) (hf_20 : f_20 = upd (u.2.1 1234) (u.1 1232 : Int32).toNatClampNeg y) (hf_21 : f_21 = upd (u.2.1 1235) (u.1 1232 : Int32).toNatClampNeg c) (hf_22 : f_22 = upd (u.2.1 1236) (u.1 1232 : Int32).toNatClampNeg f) (hf_23 : f_23 = upd (u.2.1 1237) (u.1 1232 : Int32).toNatClampNeg t) (hf_24 : f_24 = upd (u.2.1 1238) (u.1 1232 : Int32).toNatClampNeg (vp_nar .boolean z)) : ((((0 ≤ x ∧ x ≤ 99) ∧ (0 ≤ y ∧ y ≤ 99)) ∧ (0 ≤ c ∧ c ≤ 3) ∧ (0 ≤ f ∧ f ≤ 1439) ∧ (f ≤ t ∧ t ≤ 1439) ∧ ¬ u.1 1232 = 20) ∧ (((u.1 1232) + 1) - 1 : Int32) = u.1 1232 ∧ ((u.1 1232) + 1 : Int32) = u.1 1232 + 1) ∨ (¬ (((0 ≤ x ∧ x ≤ 99) ∧ (0 ≤ y ∧ y ≤ 99)) ∧ (0 ≤ c ∧ c ≤ 3) ∧ (0 ≤ f ∧ f ≤ 1439) ∧ (f ≤ t ∧ t ≤ 1439) ∧ ¬ u.1 1232 = 20) ∧ (((u.1 1232) + 1) - 1 : Int32) = -1 ∧ ((u.1 1232) + 1 : Int32) = u.1 1232) := by
  first | omega | ((try simp only [g_m1, Int32.lt_iff_toInt_lt, Int32.le_iff_toInt_le, ← Int32.toInt_inj, Int32.reduceToInt] at *); omega) | ((try have ez0 : ((u.1 1232) + 1 : Int32).toInt = (u.1 1232 : Int32).toInt + (1 : Int32).toInt := g_add (by (try simp only [g_m1, Int32.lt_iff_toInt_lt, Int32.le_iff_toInt_le, ← Int32.toInt_inj, Int32.reduceToInt] at *); omega) (by (try simp only [g_m1, Int32.lt_iff_toInt_lt, Int32.le_iff_toInt_le, ← Int32.toInt_inj, Int32.reduceToInt] at *); omega)); (try have ez1 : (((u.1 1232) + 1) - 1 : Int32).toInt = ((u.1 1232) + 1 : Int32).toInt - (1 : Int32).toInt := g_sub (by (try simp only [g_m1, Int32.lt_iff_toInt_lt, Int32.le_iff_toInt_le, ← Int32.toInt_inj, Int32.reduceToInt] at *); omega) (by (try simp only [g_m1, Int32.lt_iff_toInt_lt, Int32.le_iff_toInt_le, ← Int32.toInt_inj, Int32.reduceToInt] at *); omega)); (try simp only [g_m1, Int32.lt_iff_toInt_lt, Int32.le_iff_toInt_le, ← Int32.toInt_inj, Int32.reduceToInt] at *); omega) | ((try simp only [g_m1, Int32.lt_iff_toInt_lt, Int32.le_iff_toInt_le, ← Int32.toInt_inj, Int32.toInt_add, Int32.toInt_sub, Int32.toInt_mul, Int32.toInt_neg, Int32.reduceToInt, g_bm, g_bm'] at *); omega) | (have qr1 := g_rng x; have qr2 := g_rng y; have qr3 := g_rng c; have qr4 := g_rng f; have qr5 := g_rng t; have qr6 := g_rng z; (try simp only [g_m1, Int32.lt_iff_toInt_lt, Int32.le_iff_toInt_le, ← Int32.toInt_inj, Int32.toInt_add, Int32.toInt_sub, Int32.toInt_mul, Int32.toInt_neg, Int32.reduceToInt, g_bm, g_bm'] at *); omega) | (simp only [g_m1, Int32.lt_iff_toInt_lt, Int32.le_iff_toInt_le, ← Int32.toInt_inj, Int32.toInt_add, Int32.toInt_sub, Int32.toInt_mul, Int32.toInt_neg, Int32.reduceToInt, g_bm, g_bm'] at *; simp at *; omega) | (simp_all; done)
set_option maxRecDepth 100000 in
theorem g_X12_shop_v9 (u : qS) (x : Int32) (y : Int32) (c : Int32) (f : Int32) (t : Int32) (z : Int32) (hI : IM u) (b7_4 : (0 ≤ x ∧ x ≤ 99) ∧ (0 ≤ y ∧ y ≤ 99)) (b16_8 : 0 ≤ c ∧ c ≤ 3) (b28_12 : 0 ≤ f ∧ f ≤ 1439) (b41_16 : f ≤ t ∧ t ≤ 1439) (hs_17 : 0 ≤ u.1 1232 ∧ u.1 1232 ≤ 20) (c53_18 : (u.1 1232 : Int32) = 20) : ((((0 ≤ x ∧ x ≤ 99) ∧ (0 ≤ y ∧ y ≤ 99)) ∧ (0 ≤ c ∧ c ≤ 3) ∧ (0 ≤ f ∧ f ≤ 1439) ∧ (f ≤ t ∧ t ≤ 1439) ∧ ¬ u.1 1232 = 20) ∧ ((-1) : Int32) = u.1 1232 ∧ (u.1 1232 : Int32) = u.1 1232 + 1) ∨ (¬ (((0 ≤ x ∧ x ≤ 99) ∧ (0 ≤ y ∧ y ≤ 99)) ∧ (0 ≤ c ∧ c ≤ 3) ∧ (0 ≤ f ∧ f ≤ 1439) ∧ (f ≤ t ∧ t ≤ 1439) ∧ ¬ u.1 1232 = 20) ∧ ((-1) : Int32) = -1 ∧ (u.1 1232 : Int32) = u.1 1232) := by
  first | omega | ((try simp only [g_m1, Int32.lt_iff_toInt_lt, Int32.le_iff_toInt_le, ← Int32.toInt_inj, Int32.reduceToInt] at *); omega) | ((try simp only [g_m1, Int32.lt_iff_toInt_lt, Int32.le_iff_toInt_le, ← Int32.toInt_inj, Int32.reduceToInt] at *); omega) | ((try simp only [g_m1, Int32.lt_iff_toInt_lt, Int32.le_iff_toInt_le, ← Int32.toInt_inj, Int32.toInt_add, Int32.toInt_sub, Int32.toInt_mul, Int32.toInt_neg, Int32.reduceToInt, g_bm, g_bm'] at *); omega) | (have qr1 := g_rng x; have qr2 := g_rng y; have qr3 := g_rng c; have qr4 := g_rng f; have qr5 := g_rng t; have qr6 := g_rng z; (try simp only [g_m1, Int32.lt_iff_toInt_lt, Int32.le_iff_toInt_le, ← Int32.toInt_inj, Int32.toInt_add, Int32.toInt_sub, Int32.toInt_mul, Int32.toInt_neg, Int32.reduceToInt, g_bm, g_bm'] at *); omega) | (simp only [g_m1, Int32.lt_iff_toInt_lt, Int32.le_iff_toInt_le, ← Int32.toInt_inj, Int32.toInt_add, Int32.toInt_sub, Int32.toInt_mul, Int32.toInt_neg, Int32.reduceToInt, g_bm, g_bm'] at *; simp at *; omega) | (simp_all; done)
set_option maxRecDepth 100000 in
theorem g_X12_shop_v10 (u : qS) (x : Int32) (y : Int32) (c : Int32) (f : Int32) (t : Int32) (z : Int32) (hI : IM u) (b7_4 : (0 ≤ x ∧ x ≤ 99) ∧ (0 ≤ y ∧ y ≤ 99)) (b16_8 : 0 ≤ c ∧ c ≤ 3) (b28_12 : 0 ≤ f ∧ f ≤ 1439) (b41_16 : ¬ (f ≤ t ∧ t ≤ 1439)) : ((((0 ≤ x ∧ x ≤ 99) ∧ (0 ≤ y ∧ y ≤ 99)) ∧ (0 ≤ c ∧ c ≤ 3) ∧ (0 ≤ f ∧ f ≤ 1439) ∧ (f ≤ t ∧ t ≤ 1439) ∧ ¬ u.1 1232 = 20) ∧ ((-1) : Int32) = u.1 1232 ∧ (u.1 1232 : Int32) = u.1 1232 + 1) ∨ (¬ (((0 ≤ x ∧ x ≤ 99) ∧ (0 ≤ y ∧ y ≤ 99)) ∧ (0 ≤ c ∧ c ≤ 3) ∧ (0 ≤ f ∧ f ≤ 1439) ∧ (f ≤ t ∧ t ≤ 1439) ∧ ¬ u.1 1232 = 20) ∧ ((-1) : Int32) = -1 ∧ (u.1 1232 : Int32) = u.1 1232) := by
  have hz1232 := hI.1.s1232
  first | omega | ((try simp only [g_m1, Int32.lt_iff_toInt_lt, Int32.le_iff_toInt_le, ← Int32.toInt_inj, Int32.reduceToInt] at *); omega) | ((try simp only [g_m1, Int32.lt_iff_toInt_lt, Int32.le_iff_toInt_le, ← Int32.toInt_inj, Int32.reduceToInt] at *); omega) | ((try simp only [g_m1, Int32.lt_iff_toInt_lt, Int32.le_iff_toInt_le, ← Int32.toInt_inj, Int32.toInt_add, Int32.toInt_sub, Int32.toInt_mul, Int32.toInt_neg, Int32.reduceToInt, g_bm, g_bm'] at *); omega) | (have qr1 := g_rng x; have qr2 := g_rng y; have qr3 := g_rng c; have qr4 := g_rng f; have qr5 := g_rng t; have qr6 := g_rng z; (try simp only [g_m1, Int32.lt_iff_toInt_lt, Int32.le_iff_toInt_le, ← Int32.toInt_inj, Int32.toInt_add, Int32.toInt_sub, Int32.toInt_mul, Int32.toInt_neg, Int32.reduceToInt, g_bm, g_bm'] at *); omega) | (simp only [g_m1, Int32.lt_iff_toInt_lt, Int32.le_iff_toInt_le, ← Int32.toInt_inj, Int32.toInt_add, Int32.toInt_sub, Int32.toInt_mul, Int32.toInt_neg, Int32.reduceToInt, g_bm, g_bm'] at *; simp at *; omega) | (simp_all; done)
set_option maxRecDepth 100000 in
theorem g_X12_shop_v11 (u : qS) (x : Int32) (y : Int32) (c : Int32) (f : Int32) (t : Int32) (z : Int32) (hI : IM u) (b7_4 : (0 ≤ x ∧ x ≤ 99) ∧ (0 ≤ y ∧ y ≤ 99)) (b16_8 : 0 ≤ c ∧ c ≤ 3) (b28_12 : ¬ (0 ≤ f ∧ f ≤ 1439)) : ((((0 ≤ x ∧ x ≤ 99) ∧ (0 ≤ y ∧ y ≤ 99)) ∧ (0 ≤ c ∧ c ≤ 3) ∧ (0 ≤ f ∧ f ≤ 1439) ∧ (f ≤ t ∧ t ≤ 1439) ∧ ¬ u.1 1232 = 20) ∧ ((-1) : Int32) = u.1 1232 ∧ (u.1 1232 : Int32) = u.1 1232 + 1) ∨ (¬ (((0 ≤ x ∧ x ≤ 99) ∧ (0 ≤ y ∧ y ≤ 99)) ∧ (0 ≤ c ∧ c ≤ 3) ∧ (0 ≤ f ∧ f ≤ 1439) ∧ (f ≤ t ∧ t ≤ 1439) ∧ ¬ u.1 1232 = 20) ∧ ((-1) : Int32) = -1 ∧ (u.1 1232 : Int32) = u.1 1232) := by
  have hz1232 := hI.1.s1232
  first | omega | ((try simp only [g_m1, Int32.lt_iff_toInt_lt, Int32.le_iff_toInt_le, ← Int32.toInt_inj, Int32.reduceToInt] at *); omega) | ((try simp only [g_m1, Int32.lt_iff_toInt_lt, Int32.le_iff_toInt_le, ← Int32.toInt_inj, Int32.reduceToInt] at *); omega) | ((try simp only [g_m1, Int32.lt_iff_toInt_lt, Int32.le_iff_toInt_le, ← Int32.toInt_inj, Int32.toInt_add, Int32.toInt_sub, Int32.toInt_mul, Int32.toInt_neg, Int32.reduceToInt, g_bm, g_bm'] at *); omega) | (have qr1 := g_rng x; have qr2 := g_rng y; have qr3 := g_rng c; have qr4 := g_rng f; have qr5 := g_rng t; have qr6 := g_rng z; (try simp only [g_m1, Int32.lt_iff_toInt_lt, Int32.le_iff_toInt_le, ← Int32.toInt_inj, Int32.toInt_add, Int32.toInt_sub, Int32.toInt_mul, Int32.toInt_neg, Int32.reduceToInt, g_bm, g_bm'] at *); omega) | (simp only [g_m1, Int32.lt_iff_toInt_lt, Int32.le_iff_toInt_le, ← Int32.toInt_inj, Int32.toInt_add, Int32.toInt_sub, Int32.toInt_mul, Int32.toInt_neg, Int32.reduceToInt, g_bm, g_bm'] at *; simp at *; omega) | (simp_all; done)
set_option maxRecDepth 100000 in
theorem g_X12_shop_v12 (u : qS) (x : Int32) (y : Int32) (c : Int32) (f : Int32) (t : Int32) (z : Int32) (hI : IM u) (b7_4 : (0 ≤ x ∧ x ≤ 99) ∧ (0 ≤ y ∧ y ≤ 99)) (b16_8 : ¬ (0 ≤ c ∧ c ≤ 3)) : ((((0 ≤ x ∧ x ≤ 99) ∧ (0 ≤ y ∧ y ≤ 99)) ∧ (0 ≤ c ∧ c ≤ 3) ∧ (0 ≤ f ∧ f ≤ 1439) ∧ (f ≤ t ∧ t ≤ 1439) ∧ ¬ u.1 1232 = 20) ∧ ((-1) : Int32) = u.1 1232 ∧ (u.1 1232 : Int32) = u.1 1232 + 1) ∨ (¬ (((0 ≤ x ∧ x ≤ 99) ∧ (0 ≤ y ∧ y ≤ 99)) ∧ (0 ≤ c ∧ c ≤ 3) ∧ (0 ≤ f ∧ f ≤ 1439) ∧ (f ≤ t ∧ t ≤ 1439) ∧ ¬ u.1 1232 = 20) ∧ ((-1) : Int32) = -1 ∧ (u.1 1232 : Int32) = u.1 1232) := by
  have hz1232 := hI.1.s1232
  first | omega | ((try simp only [g_m1, Int32.lt_iff_toInt_lt, Int32.le_iff_toInt_le, ← Int32.toInt_inj, Int32.reduceToInt] at *); omega) | ((try simp only [g_m1, Int32.lt_iff_toInt_lt, Int32.le_iff_toInt_le, ← Int32.toInt_inj, Int32.reduceToInt] at *); omega) | ((try simp only [g_m1, Int32.lt_iff_toInt_lt, Int32.le_iff_toInt_le, ← Int32.toInt_inj, Int32.toInt_add, Int32.toInt_sub, Int32.toInt_mul, Int32.toInt_neg, Int32.reduceToInt, g_bm, g_bm'] at *); omega) | (have qr1 := g_rng x; have qr2 := g_rng y; have qr3 := g_rng c; have qr4 := g_rng f; have qr5 := g_rng t; have qr6 := g_rng z; (try simp only [g_m1, Int32.lt_iff_toInt_lt, Int32.le_iff_toInt_le, ← Int32.toInt_inj, Int32.toInt_add, Int32.toInt_sub, Int32.toInt_mul, Int32.toInt_neg, Int32.reduceToInt, g_bm, g_bm'] at *); omega) | (simp only [g_m1, Int32.lt_iff_toInt_lt, Int32.le_iff_toInt_le, ← Int32.toInt_inj, Int32.toInt_add, Int32.toInt_sub, Int32.toInt_mul, Int32.toInt_neg, Int32.reduceToInt, g_bm, g_bm'] at *; simp at *; omega) | (simp_all; done)
set_option maxRecDepth 100000 in
theorem g_X12_shop_v13 (u : qS) (x : Int32) (y : Int32) (c : Int32) (f : Int32) (t : Int32) (z : Int32) (hI : IM u) (b7_4 : ¬ ((0 ≤ x ∧ x ≤ 99) ∧ (0 ≤ y ∧ y ≤ 99))) : ((((0 ≤ x ∧ x ≤ 99) ∧ (0 ≤ y ∧ y ≤ 99)) ∧ (0 ≤ c ∧ c ≤ 3) ∧ (0 ≤ f ∧ f ≤ 1439) ∧ (f ≤ t ∧ t ≤ 1439) ∧ ¬ u.1 1232 = 20) ∧ ((-1) : Int32) = u.1 1232 ∧ (u.1 1232 : Int32) = u.1 1232 + 1) ∨ (¬ (((0 ≤ x ∧ x ≤ 99) ∧ (0 ≤ y ∧ y ≤ 99)) ∧ (0 ≤ c ∧ c ≤ 3) ∧ (0 ≤ f ∧ f ≤ 1439) ∧ (f ≤ t ∧ t ≤ 1439) ∧ ¬ u.1 1232 = 20) ∧ ((-1) : Int32) = -1 ∧ (u.1 1232 : Int32) = u.1 1232) := by
  have hz1232 := hI.1.s1232
  first | omega | ((try simp only [g_m1, Int32.lt_iff_toInt_lt, Int32.le_iff_toInt_le, ← Int32.toInt_inj, Int32.reduceToInt] at *); omega) | ((try simp only [g_m1, Int32.lt_iff_toInt_lt, Int32.le_iff_toInt_le, ← Int32.toInt_inj, Int32.reduceToInt] at *); omega) | ((try simp only [g_m1, Int32.lt_iff_toInt_lt, Int32.le_iff_toInt_le, ← Int32.toInt_inj, Int32.toInt_add, Int32.toInt_sub, Int32.toInt_mul, Int32.toInt_neg, Int32.reduceToInt, g_bm, g_bm'] at *); omega) | (have qr1 := g_rng x; have qr2 := g_rng y; have qr3 := g_rng c; have qr4 := g_rng f; have qr5 := g_rng t; have qr6 := g_rng z; (try simp only [g_m1, Int32.lt_iff_toInt_lt, Int32.le_iff_toInt_le, ← Int32.toInt_inj, Int32.toInt_add, Int32.toInt_sub, Int32.toInt_mul, Int32.toInt_neg, Int32.reduceToInt, g_bm, g_bm'] at *); omega) | (simp only [g_m1, Int32.lt_iff_toInt_lt, Int32.le_iff_toInt_le, ← Int32.toInt_inj, Int32.toInt_add, Int32.toInt_sub, Int32.toInt_mul, Int32.toInt_neg, Int32.reduceToInt, g_bm, g_bm'] at *; simp at *; omega) | (simp_all; done)
set_option maxHeartbeats 1000000 in
set_option maxRecDepth 100000 in
theorem g_X12_shop (l : Launch) (E : qE) (A : Nat → Prop) (u : qS) (x : Int32) (y : Int32) (c : Int32) (f : Int32) (t : Int32) (z : Int32) (hI : IM u) : Met l yX12_shop (uws yX12_shop cX12_shop 7 (some .int)) (qR 2 0 0) (qPc E A 1 u [.ref (E.2.2 1299), .int x, .int y, .int c, .int f, .int t, .int z]) (qQi E A 1 (fun r u1 => qFr [1200, 1232] [1233, 1234, 1235, 1236, 1237, 1238] [] u u1 ∧ IM u1 ∧ (((((0 ≤ x ∧ x ≤ 99) ∧ (0 ≤ y ∧ y ≤ 99)) ∧ (0 ≤ c ∧ c ≤ 3) ∧ (0 ≤ f ∧ f ≤ 1439) ∧ (f ≤ t ∧ t ≤ 1439) ∧ ¬ u.1 1232 = 20) ∧ r = u.1 1232 ∧ u1.1 1232 = u.1 1232 + 1) ∨ (¬ (((0 ≤ x ∧ x ≤ 99) ∧ (0 ≤ y ∧ y ≤ 99)) ∧ (0 ≤ c ∧ c ≤ 3) ∧ (0 ≤ f ∧ f ≤ 1439) ∧ (f ≤ t ∧ t ≤ 1439) ∧ ¬ u.1 1232 = 20) ∧ r = -1 ∧ u1.1 1232 = u.1 1232)))) 0 0 A := by
  refine q_met (own := RX12) (f := 2) [.ref (E.2.2 1299), .int x, .int y, .int c, .int f, .int t, .int z] (by decide) (Nat.le_of_ble_eq_true rfl) rfl ?_
  intro p0 e0 s0 m0 bl0 me0 cd0 ls hF hr hlocks hU hS hA hl
  have hl : lv_has ls 7 [(0, .ref (E.2.2 1299)), (1, .int x), (2, .int y), (3, .int c), (4, .int f), (5, .int t), (6, .int z)] := hl
  have hfr : qFr [1200, 1232] [1233, 1234, 1235, 1236, 1237, 1238] [] u u := qFr.rf
  refine lv_aload_n hF.1 hF.2.1 dX12_shop_0 rfl (lv_at hl 0 rfl) ?_
  refine lv_iconst (v := 0) hF.1 hF.2.1 dX12_shop_1 (by decide) ?_
  refine q_put hF hU hS dX12_shop_2 0 12 0 1200 1299 rfl rfl rfl rfl inX12 tyX12 tyX12_ok nmX12 (by decide) (by decide) rfl w_1329 rfl rfl rfl rfl (fun H locs hU hS => ?_)
  have hfr : qFr [1200, 1232] [1233, 1234, 1235, 1236, 1237, 1238] [] u (qsI u 1200 0) := hfr.setI (by decide)
  refine lv_iload_n hF.1 hF.2.1 dX12_shop_5 rfl (lv_at hl 1 rfl) ?_
  refine lv_iload_n hF.1 hF.2.1 dX12_shop_6 rfl (lv_at hl 2 rfl) ?_
  have hM9 := g_X12_isPlace l E A (qsI u 1200 0) x y
  have hR9 := q_runS (l := l) (e := e0) (below := bl0) (meth := me0) (R := qR 2 0 0) (cells := 0) (slots := 0) (st0 := [.int y, .int x]) (rest := []) hF hU hS hA 2 hM9 w_1691 w_1692 w_107 w_1693 (by decide +kernel) ⟨Nat.le_of_ble_eq_true rfl, Nat.le_of_ble_eq_true rfl⟩ dX12_shop_7 rfl hl.1 rfl (Nat.le_of_ble_eq_true rfl) ⟨Nat.le_of_ble_eq_true rfl, Nat.le_of_ble_eq_true rfl⟩
  refine q_calli hR9 hU.2.2.2 hS (fun r_3 u_1 H locs hw_2 hU hS => ?_)
  obtain ⟨hw_2_e, hw_2⟩ := hw_2
  rw [hw_2_e] at hU
  have hw_2 : (r_3 = 1 ∧ ((0 ≤ x ∧ x ≤ 99) ∧ (0 ≤ y ∧ y ≤ 99))) ∨ (r_3 = 0 ∧ ¬ ((0 ≤ x ∧ x ≤ 99) ∧ (0 ≤ y ∧ y ≤ 99))) := hw_2
  rcases hw_2 with ⟨rfl, b7_4⟩ | ⟨rfl, b7_4⟩
  · refine lv_if_eq (tgt := 56) hF.1 hF.2.1 dX12_shop_10 (by decide) (fun h9 => absurd h9 (by decide)) (fun _ => ?_)
    refine lv_iload_n hF.1 hF.2.1 dX12_shop_13 rfl (lv_at hl 3 rfl) ?_
    refine lv_iconst (v := 0) hF.1 hF.2.1 dX12_shop_14 (by decide) ?_
    refine lv_iconst (v := 3) hF.1 hF.2.1 dX12_shop_15 (by decide) ?_
    have hM9 := g_X12_within l E A (qsI u 1200 0) c 0 3
    have hR9 := q_runS (l := l) (e := e0) (below := bl0) (meth := me0) (R := qR 2 0 0) (cells := 0) (slots := 0) (st0 := [.int 3, .int 0, .int c]) (rest := []) hF hU hS hA 3 hM9 w_1680 w_1681 w_107 w_1682 (by decide +kernel) ⟨Nat.le_of_ble_eq_true rfl, Nat.le_of_ble_eq_true rfl⟩ dX12_shop_16 rfl hl.1 rfl (Nat.le_of_ble_eq_true rfl) ⟨Nat.le_of_ble_eq_true rfl, Nat.le_of_ble_eq_true rfl⟩
    refine q_calli hR9 hU.2.2.2 hS (fun r_7 u_5 H locs hw_6 hU hS => ?_)
    obtain ⟨hw_6_e, hw_6⟩ := hw_6
    rw [hw_6_e] at hU
    have hw_6 : (r_7 = 1 ∧ (0 ≤ c ∧ c ≤ 3)) ∨ (r_7 = 0 ∧ ¬ (0 ≤ c ∧ c ≤ 3)) := hw_6
    rcases hw_6 with ⟨rfl, b16_8⟩ | ⟨rfl, b16_8⟩
    · refine lv_if_eq (tgt := 56) hF.1 hF.2.1 dX12_shop_19 (by decide) (fun h9 => absurd h9 (by decide)) (fun _ => ?_)
      refine lv_iload hF.1 hF.2.1 dX12_shop_22 (lv_at hl 4 rfl) ?_
      refine lv_iconst (v := 0) hF.1 hF.2.1 dX12_shop_24 (by decide) ?_
      refine lv_sipush (v := 1439) hF.1 hF.2.1 dX12_shop_25 (by decide) ?_
      have hM9 := g_X12_within l E A (qsI u 1200 0) f 0 1439
      have hR9 := q_runS (l := l) (e := e0) (below := bl0) (meth := me0) (R := qR 2 0 0) (cells := 0) (slots := 0) (st0 := [.int 1439, .int 0, .int f]) (rest := []) hF hU hS hA 3 hM9 w_1680 w_1681 w_107 w_1682 (by decide +kernel) ⟨Nat.le_of_ble_eq_true rfl, Nat.le_of_ble_eq_true rfl⟩ dX12_shop_28 rfl hl.1 rfl (Nat.le_of_ble_eq_true rfl) ⟨Nat.le_of_ble_eq_true rfl, Nat.le_of_ble_eq_true rfl⟩
      refine q_calli hR9 hU.2.2.2 hS (fun r_11 u_9 H locs hw_10 hU hS => ?_)
      obtain ⟨hw_10_e, hw_10⟩ := hw_10
      rw [hw_10_e] at hU
      have hw_10 : (r_11 = 1 ∧ (0 ≤ f ∧ f ≤ 1439)) ∨ (r_11 = 0 ∧ ¬ (0 ≤ f ∧ f ≤ 1439)) := hw_10
      rcases hw_10 with ⟨rfl, b28_12⟩ | ⟨rfl, b28_12⟩
      · refine lv_if_eq (tgt := 56) hF.1 hF.2.1 dX12_shop_31 (by decide) (fun h9 => absurd h9 (by decide)) (fun _ => ?_)
        refine lv_iload hF.1 hF.2.1 dX12_shop_34 (lv_at hl 5 rfl) ?_
        refine lv_iload hF.1 hF.2.1 dX12_shop_36 (lv_at hl 4 rfl) ?_
        refine lv_sipush (v := 1439) hF.1 hF.2.1 dX12_shop_38 (by decide) ?_
        have hM9 := g_X12_within l E A (qsI u 1200 0) t f 1439
        have hR9 := q_runS (l := l) (e := e0) (below := bl0) (meth := me0) (R := qR 2 0 0) (cells := 0) (slots := 0) (st0 := [.int 1439, .int f, .int t]) (rest := []) hF hU hS hA 3 hM9 w_1680 w_1681 w_107 w_1682 (by decide +kernel) ⟨Nat.le_of_ble_eq_true rfl, Nat.le_of_ble_eq_true rfl⟩ dX12_shop_41 rfl hl.1 rfl (Nat.le_of_ble_eq_true rfl) ⟨Nat.le_of_ble_eq_true rfl, Nat.le_of_ble_eq_true rfl⟩
        refine q_calli hR9 hU.2.2.2 hS (fun r_15 u_13 H locs hw_14 hU hS => ?_)
        obtain ⟨hw_14_e, hw_14⟩ := hw_14
        rw [hw_14_e] at hU
        have hw_14 : (r_15 = 1 ∧ (f ≤ t ∧ t ≤ 1439)) ∨ (r_15 = 0 ∧ ¬ (f ≤ t ∧ t ≤ 1439)) := hw_14
        rcases hw_14 with ⟨rfl, b41_16⟩ | ⟨rfl, b41_16⟩
        · refine lv_if_eq (tgt := 56) hF.1 hF.2.1 dX12_shop_44 (by decide) (fun h9 => absurd h9 (by decide)) (fun _ => ?_)
          refine lv_aload_n hF.1 hF.2.1 dX12_shop_47 rfl (lv_at hl 0 rfl) ?_
          refine q_get (v := .int (u.1 1232)) hF hU dX12_shop_48 0 12 32 1232 1299 rfl rfl rfl rfl inX12 (by decide) (by decide) w_1361 rfl rfl ?_
          have hs_17 : 0 ≤ u.1 1232 ∧ u.1 1232 ≤ 20 := hI.1.s1232
          refine lv_bipush (v := 20) hF.1 hF.2.1 dX12_shop_51 (by decide) ?_
          refine lv_icmp_ne (tgt := 58) hF.1 hF.2.1 dX12_shop_53 (by decide) (fun c53_18 => ?_) (fun c53_18 => ?_)
          · refine lv_aload_n hF.1 hF.2.1 dX12_shop_58 rfl (lv_at hl 0 rfl) ?_
            refine q_get (v := .ref (E.2.2 1233)) hF hU dX12_shop_59 0 12 33 1233 1299 rfl rfl rfl rfl inX12 (by decide) (by decide) w_1362 rfl rfl ?_
            refine lv_aload_n hF.1 hF.2.1 dX12_shop_62 rfl (lv_at hl 0 rfl) ?_
            refine q_get (v := .int (u.1 1232)) hF hU dX12_shop_63 0 12 32 1232 1299 rfl rfl rfl rfl inX12 (by decide) (by decide) w_1361 rfl rfl ?_
            refine lv_iload_n hF.1 hF.2.1 dX12_shop_66 rfl (lv_at hl 1 rfl) ?_
            refine q_iast hF hU hS dX12_shop_67 19 1233 rfl rfl (g_X12_shop_v0 u x y c f t hI b7_4 b16_8 b28_12 b41_16 hs_17 c53_18) (fun f_19 H locs hg9 hU hS => ?_)
            have hf_19 : f_19 = upd (u.2.1 1233) (u.1 1232 : Int32).toNatClampNeg x := hg9
            have hfr : qFr [1200, 1232] [1233, 1234, 1235, 1236, 1237, 1238] [] u (qsF (qsI u 1200 0) 1233 f_19) := hfr.setF (by decide)
            refine lv_aload_n hF.1 hF.2.1 dX12_shop_68 rfl (lv_at hl 0 rfl) ?_
            refine q_get (v := .ref (E.2.2 1234)) hF hU dX12_shop_69 0 12 34 1234 1299 rfl rfl rfl rfl inX12 (by decide) (by decide) w_1363 rfl rfl ?_
            refine lv_aload_n hF.1 hF.2.1 dX12_shop_72 rfl (lv_at hl 0 rfl) ?_
            refine q_get (v := .int (u.1 1232)) hF hU dX12_shop_73 0 12 32 1232 1299 rfl rfl rfl rfl inX12 (by decide) (by decide) w_1361 rfl rfl ?_
            refine lv_iload_n hF.1 hF.2.1 dX12_shop_76 rfl (lv_at hl 2 rfl) ?_
            refine q_iast hF hU hS dX12_shop_77 20 1234 rfl rfl (g_X12_shop_v1 u x y c f t f_19 hI b7_4 b16_8 b28_12 b41_16 hs_17 c53_18 hf_19) (fun f_20 H locs hg9 hU hS => ?_)
            have hf_20 : f_20 = upd (u.2.1 1234) (u.1 1232 : Int32).toNatClampNeg y := hg9
            have hfr : qFr [1200, 1232] [1233, 1234, 1235, 1236, 1237, 1238] [] u (qsF (qsF (qsI u 1200 0) 1233 f_19) 1234 f_20) := hfr.setF (by decide)
            refine lv_aload_n hF.1 hF.2.1 dX12_shop_78 rfl (lv_at hl 0 rfl) ?_
            refine q_get (v := .ref (E.2.2 1235)) hF hU dX12_shop_79 0 12 35 1235 1299 rfl rfl rfl rfl inX12 (by decide) (by decide) w_1364 rfl rfl ?_
            refine lv_aload_n hF.1 hF.2.1 dX12_shop_82 rfl (lv_at hl 0 rfl) ?_
            refine q_get (v := .int (u.1 1232)) hF hU dX12_shop_83 0 12 32 1232 1299 rfl rfl rfl rfl inX12 (by decide) (by decide) w_1361 rfl rfl ?_
            refine lv_iload_n hF.1 hF.2.1 dX12_shop_86 rfl (lv_at hl 3 rfl) ?_
            refine q_iast hF hU hS dX12_shop_87 21 1235 rfl rfl (g_X12_shop_v2 u x y c f t f_19 f_20 hI b7_4 b16_8 b28_12 b41_16 hs_17 c53_18 hf_19 hf_20) (fun f_21 H locs hg9 hU hS => ?_)
            have hf_21 : f_21 = upd (u.2.1 1235) (u.1 1232 : Int32).toNatClampNeg c := hg9
            have hfr : qFr [1200, 1232] [1233, 1234, 1235, 1236, 1237, 1238] [] u (qsF (qsF (qsF (qsI u 1200 0) 1233 f_19) 1234 f_20) 1235 f_21) := hfr.setF (by decide)
            refine lv_aload_n hF.1 hF.2.1 dX12_shop_88 rfl (lv_at hl 0 rfl) ?_
            refine q_get (v := .ref (E.2.2 1236)) hF hU dX12_shop_89 0 12 36 1236 1299 rfl rfl rfl rfl inX12 (by decide) (by decide) w_1365 rfl rfl ?_
            refine lv_aload_n hF.1 hF.2.1 dX12_shop_92 rfl (lv_at hl 0 rfl) ?_
            refine q_get (v := .int (u.1 1232)) hF hU dX12_shop_93 0 12 32 1232 1299 rfl rfl rfl rfl inX12 (by decide) (by decide) w_1361 rfl rfl ?_
            refine lv_iload hF.1 hF.2.1 dX12_shop_96 (lv_at hl 4 rfl) ?_
            refine q_iast hF hU hS dX12_shop_98 22 1236 rfl rfl (g_X12_shop_v3 u x y c f t f_19 f_20 f_21 hI b7_4 b16_8 b28_12 b41_16 hs_17 c53_18 hf_19 hf_20 hf_21) (fun f_22 H locs hg9 hU hS => ?_)
            have hf_22 : f_22 = upd (u.2.1 1236) (u.1 1232 : Int32).toNatClampNeg f := hg9
            have hfr : qFr [1200, 1232] [1233, 1234, 1235, 1236, 1237, 1238] [] u (qsF (qsF (qsF (qsF (qsI u 1200 0) 1233 f_19) 1234 f_20) 1235 f_21) 1236 f_22) := hfr.setF (by decide)
            refine lv_aload_n hF.1 hF.2.1 dX12_shop_99 rfl (lv_at hl 0 rfl) ?_
            refine q_get (v := .ref (E.2.2 1237)) hF hU dX12_shop_100 0 12 37 1237 1299 rfl rfl rfl rfl inX12 (by decide) (by decide) w_1366 rfl rfl ?_
            refine lv_aload_n hF.1 hF.2.1 dX12_shop_103 rfl (lv_at hl 0 rfl) ?_
            refine q_get (v := .int (u.1 1232)) hF hU dX12_shop_104 0 12 32 1232 1299 rfl rfl rfl rfl inX12 (by decide) (by decide) w_1361 rfl rfl ?_
            refine lv_iload hF.1 hF.2.1 dX12_shop_107 (lv_at hl 5 rfl) ?_
            refine q_iast hF hU hS dX12_shop_109 23 1237 rfl rfl (g_X12_shop_v4 u x y c f t f_19 f_20 f_21 f_22 hI b7_4 b16_8 b28_12 b41_16 hs_17 c53_18 hf_19 hf_20 hf_21 hf_22) (fun f_23 H locs hg9 hU hS => ?_)
            have hf_23 : f_23 = upd (u.2.1 1237) (u.1 1232 : Int32).toNatClampNeg t := hg9
            have hfr : qFr [1200, 1232] [1233, 1234, 1235, 1236, 1237, 1238] [] u (qsF (qsF (qsF (qsF (qsF (qsI u 1200 0) 1233 f_19) 1234 f_20) 1235 f_21) 1236 f_22) 1237 f_23) := hfr.setF (by decide)
            refine lv_aload_n hF.1 hF.2.1 dX12_shop_110 rfl (lv_at hl 0 rfl) ?_
            refine q_get (v := .ref (E.2.2 1238)) hF hU dX12_shop_111 0 12 38 1238 1299 rfl rfl rfl rfl inX12 (by decide) (by decide) w_1367 rfl rfl ?_
            refine lv_aload_n hF.1 hF.2.1 dX12_shop_114 rfl (lv_at hl 0 rfl) ?_
            refine q_get (v := .int (u.1 1232)) hF hU dX12_shop_115 0 12 32 1232 1299 rfl rfl rfl rfl inX12 (by decide) (by decide) w_1361 rfl rfl ?_
            refine lv_iload hF.1 hF.2.1 dX12_shop_118 (lv_at hl 6 rfl) ?_
            refine q_zast hF hU hS dX12_shop_120 24 1238 rfl rfl (g_X12_shop_v5 u x y c f t f_19 f_20 f_21 f_22 f_23 hI b7_4 b16_8 b28_12 b41_16 hs_17 c53_18 hf_19 hf_20 hf_21 hf_22 hf_23) rfl (fun f_24 H locs hg9 hU hS => ?_)
            have hf_24 : f_24 = upd (u.2.1 1238) (u.1 1232 : Int32).toNatClampNeg (vp_nar .boolean z) := hg9
            have hfr : qFr [1200, 1232] [1233, 1234, 1235, 1236, 1237, 1238] [] u (qsF (qsF (qsF (qsF (qsF (qsF (qsI u 1200 0) 1233 f_19) 1234 f_20) 1235 f_21) 1236 f_22) 1237 f_23) 1238 f_24) := hfr.setF (by decide)
            refine lv_aload_n hF.1 hF.2.1 dX12_shop_121 rfl (lv_at hl 0 rfl) ?_
            refine lv_dup hF.1 hF.2.1 dX12_shop_122 rfl ?_
            refine q_get (v := .int (u.1 1232)) hF hU dX12_shop_123 0 12 32 1232 1299 rfl rfl rfl rfl inX12 (by decide) (by decide) w_1361 rfl rfl ?_
            refine lv_iconst (v := 1) hF.1 hF.2.1 dX12_shop_126 (by decide) ?_
            refine lv_iadd hF.1 hF.2.1 dX12_shop_127 ?_
            refine q_put hF hU hS dX12_shop_128 0 12 32 1232 1299 rfl rfl rfl rfl inX12 tyX12 tyX12_ok nmX12 (by decide) (by decide) rfl w_1361 rfl rfl rfl rfl (fun H locs hU hS => ?_)
            have hfr : qFr [1200, 1232] [1233, 1234, 1235, 1236, 1237, 1238] [] u (qsI (qsF (qsF (qsF (qsF (qsF (qsF (qsI u 1200 0) 1233 f_19) 1234 f_20) 1235 f_21) 1236 f_22) 1237 f_23) 1238 f_24) 1232 ((u.1 1232) + 1)) := hfr.setI (by decide)
            refine lv_aload_n hF.1 hF.2.1 dX12_shop_131 rfl (lv_at hl 0 rfl) ?_
            refine q_get (v := .int ((u.1 1232) + 1)) hF hU dX12_shop_132 0 12 32 1232 1299 rfl rfl rfl rfl inX12 (by decide) (by decide) w_1361 rfl rfl ?_
            refine lv_iconst (v := 1) hF.1 hF.2.1 dX12_shop_135 (by decide) ?_
            refine lv_isub hF.1 hF.2.1 dX12_shop_136 ?_
            exact q_iret hF hr rfl hlocks hU hS dX12_shop_137 ⟨hfr, hI.shop hfr (g_X12_shop_v6 u x y c f t z f_19 f_20 f_21 f_22 f_23 f_24 hI b7_4 b16_8 b28_12 b41_16 hs_17 c53_18 hf_19 hf_20 hf_21 hf_22 hf_23 hf_24) (g_X12_shop_v7 u x y c f t z f_19 f_20 f_21 f_22 f_23 f_24 hI b7_4 b16_8 b28_12 b41_16 hs_17 c53_18 hf_19 hf_20 hf_21 hf_22 hf_23 hf_24), (g_X12_shop_v8 u x y c f t z f_19 f_20 f_21 f_22 f_23 f_24 hI b7_4 b16_8 b28_12 b41_16 hs_17 c53_18 hf_19 hf_20 hf_21 hf_22 hf_23 hf_24)⟩
          · refine lv_iconst (v := (-1)) hF.1 hF.2.1 dX12_shop_56 (by decide) ?_
            exact q_iret hF hr rfl hlocks hU hS dX12_shop_57 ⟨hfr, hI.thr 0, (g_X12_shop_v9 u x y c f t z hI b7_4 b16_8 b28_12 b41_16 hs_17 c53_18)⟩
        · refine lv_if_eq (tgt := 56) hF.1 hF.2.1 dX12_shop_44 (by decide) (fun _ => ?_) (fun h9 => absurd (by decide) h9)
          refine lv_iconst (v := (-1)) hF.1 hF.2.1 dX12_shop_56 (by decide) ?_
          exact q_iret hF hr rfl hlocks hU hS dX12_shop_57 ⟨hfr, hI.thr 0, (g_X12_shop_v10 u x y c f t z hI b7_4 b16_8 b28_12 b41_16)⟩
      · refine lv_if_eq (tgt := 56) hF.1 hF.2.1 dX12_shop_31 (by decide) (fun _ => ?_) (fun h9 => absurd (by decide) h9)
        refine lv_iconst (v := (-1)) hF.1 hF.2.1 dX12_shop_56 (by decide) ?_
        exact q_iret hF hr rfl hlocks hU hS dX12_shop_57 ⟨hfr, hI.thr 0, (g_X12_shop_v11 u x y c f t z hI b7_4 b16_8 b28_12)⟩
    · refine lv_if_eq (tgt := 56) hF.1 hF.2.1 dX12_shop_19 (by decide) (fun _ => ?_) (fun h9 => absurd (by decide) h9)
      refine lv_iconst (v := (-1)) hF.1 hF.2.1 dX12_shop_56 (by decide) ?_
      exact q_iret hF hr rfl hlocks hU hS dX12_shop_57 ⟨hfr, hI.thr 0, (g_X12_shop_v12 u x y c f t z hI b7_4 b16_8)⟩
  · refine lv_if_eq (tgt := 56) hF.1 hF.2.1 dX12_shop_10 (by decide) (fun _ => ?_) (fun h9 => absurd (by decide) h9)
    refine lv_iconst (v := (-1)) hF.1 hF.2.1 dX12_shop_56 (by decide) ?_
    exact q_iret hF hr rfl hlocks hU hS dX12_shop_57 ⟨hfr, hI.thr 0, (g_X12_shop_v13 u x y c f t z hI b7_4)⟩
set_option maxRecDepth 100000 in
theorem g_X12_buyer_v0 (u : qS) (x : Int32) (y : Int32) (hI : IM u) (b7_4 : (0 ≤ x ∧ x ≤ 99) ∧ (0 ≤ y ∧ y ≤ 99)) (hs_5 : 0 ≤ u.1 1239 ∧ u.1 1239 ≤ 8) (c19_6 : ¬ (u.1 1239 : Int32) = 8) : vp_in (u.1 1239) 8 := by
  refine g_in ?_ ?_ <;> ((try simp only [g_m1, Int32.lt_iff_toInt_lt, Int32.le_iff_toInt_le, ← Int32.toInt_inj, Int32.toInt_add, Int32.toInt_sub, Int32.toInt_mul, Int32.toInt_neg, Int32.reduceToInt, g_bm, g_bm'] at *); omega)
set_option maxRecDepth 100000 in
theorem g_X12_buyer_v1 (u : qS) (x : Int32) (y : Int32) (f_7 : Nat → Int32) (hI : IM u) (b7_4 : (0 ≤ x ∧ x ≤ 99) ∧ (0 ≤ y ∧ y ≤ 99)) (hs_5 : 0 ≤ u.1 1239 ∧ u.1 1239 ≤ 8) (c19_6 : ¬ (u.1 1239 : Int32) = 8) (hf_7 : f_7 = upd (u.2.1 1240) (u.1 1239 : Int32).toNatClampNeg x) : vp_in (u.1 1239) 8 := by
  refine g_in ?_ ?_ <;> ((try simp only [g_m1, Int32.lt_iff_toInt_lt, Int32.le_iff_toInt_le, ← Int32.toInt_inj, Int32.toInt_add, Int32.toInt_sub, Int32.toInt_mul, Int32.toInt_neg, Int32.reduceToInt, g_bm, g_bm'] at *); omega)
set_option maxRecDepth 100000 in
theorem g_X12_buyer_v2 (u : qS) (x : Int32) (y : Int32) (f_7 : Nat → Int32) (f_8 : Nat → Int32) (hI : IM u) (b7_4 : (0 ≤ x ∧ x ≤ 99) ∧ (0 ≤ y ∧ y ≤ 99)) (hs_5 : 0 ≤ u.1 1239 ∧ u.1 1239 ≤ 8) (c19_6 : ¬ (u.1 1239 : Int32) = 8) (hf_7 : f_7 = upd (u.2.1 1240) (u.1 1239 : Int32).toNatClampNeg x) (hf_8 : f_8 = upd (u.2.1 1241) (u.1 1239 : Int32).toNatClampNeg y) : 0 ≤ ((u.1 1239) + 1 : Int32) ∧ ((u.1 1239) + 1 : Int32) ≤ 8 := by
  first | omega | ((try simp only [g_m1, Int32.lt_iff_toInt_lt, Int32.le_iff_toInt_le, ← Int32.toInt_inj, Int32.reduceToInt] at *); omega) | ((try have ez0 : ((u.1 1239) + 1 : Int32).toInt = (u.1 1239 : Int32).toInt + (1 : Int32).toInt := g_add (by (try simp only [g_m1, Int32.lt_iff_toInt_lt, Int32.le_iff_toInt_le, ← Int32.toInt_inj, Int32.reduceToInt] at *); omega) (by (try simp only [g_m1, Int32.lt_iff_toInt_lt, Int32.le_iff_toInt_le, ← Int32.toInt_inj, Int32.reduceToInt] at *); omega)); (try simp only [g_m1, Int32.lt_iff_toInt_lt, Int32.le_iff_toInt_le, ← Int32.toInt_inj, Int32.reduceToInt] at *); omega) | ((try simp only [g_m1, Int32.lt_iff_toInt_lt, Int32.le_iff_toInt_le, ← Int32.toInt_inj, Int32.toInt_add, Int32.toInt_sub, Int32.toInt_mul, Int32.toInt_neg, Int32.reduceToInt, g_bm, g_bm'] at *); omega) | (have qr1 := g_rng x; have qr2 := g_rng y; (try simp only [g_m1, Int32.lt_iff_toInt_lt, Int32.le_iff_toInt_le, ← Int32.toInt_inj, Int32.toInt_add, Int32.toInt_sub, Int32.toInt_mul, Int32.toInt_neg, Int32.reduceToInt, g_bm, g_bm'] at *); omega) | (simp only [g_m1, Int32.lt_iff_toInt_lt, Int32.le_iff_toInt_le, ← Int32.toInt_inj, Int32.toInt_add, Int32.toInt_sub, Int32.toInt_mul, Int32.toInt_neg, Int32.reduceToInt, g_bm, g_bm'] at *; simp at *; omega) | (simp_all; done)
set_option maxRecDepth 100000 in
theorem g_X12_buyer_v3 (u : qS) (x : Int32) (y : Int32) (f_7 : Nat → Int32) (f_8 : Nat → Int32) (hI : IM u) (b7_4 : (0 ≤ x ∧ x ≤ 99) ∧ (0 ≤ y ∧ y ≤ 99)) (hs_5 : 0 ≤ u.1 1239 ∧ u.1 1239 ≤ 8) (c19_6 : ¬ (u.1 1239 : Int32) = 8) (hf_7 : f_7 = upd (u.2.1 1240) (u.1 1239 : Int32).toNatClampNeg x) (hf_8 : f_8 = upd (u.2.1 1241) (u.1 1239 : Int32).toNatClampNeg y) : u.1 1239 ≤ ((u.1 1239) + 1 : Int32) := by
  first | omega | ((try simp only [g_m1, Int32.lt_iff_toInt_lt, Int32.le_iff_toInt_le, ← Int32.toInt_inj, Int32.reduceToInt] at *); omega) | ((try have ez0 : ((u.1 1239) + 1 : Int32).toInt = (u.1 1239 : Int32).toInt + (1 : Int32).toInt := g_add (by (try simp only [g_m1, Int32.lt_iff_toInt_lt, Int32.le_iff_toInt_le, ← Int32.toInt_inj, Int32.reduceToInt] at *); omega) (by (try simp only [g_m1, Int32.lt_iff_toInt_lt, Int32.le_iff_toInt_le, ← Int32.toInt_inj, Int32.reduceToInt] at *); omega)); (try simp only [g_m1, Int32.lt_iff_toInt_lt, Int32.le_iff_toInt_le, ← Int32.toInt_inj, Int32.reduceToInt] at *); omega) | ((try simp only [g_m1, Int32.lt_iff_toInt_lt, Int32.le_iff_toInt_le, ← Int32.toInt_inj, Int32.toInt_add, Int32.toInt_sub, Int32.toInt_mul, Int32.toInt_neg, Int32.reduceToInt, g_bm, g_bm'] at *); omega) | (have qr1 := g_rng x; have qr2 := g_rng y; (try simp only [g_m1, Int32.lt_iff_toInt_lt, Int32.le_iff_toInt_le, ← Int32.toInt_inj, Int32.toInt_add, Int32.toInt_sub, Int32.toInt_mul, Int32.toInt_neg, Int32.reduceToInt, g_bm, g_bm'] at *); omega) | (simp only [g_m1, Int32.lt_iff_toInt_lt, Int32.le_iff_toInt_le, ← Int32.toInt_inj, Int32.toInt_add, Int32.toInt_sub, Int32.toInt_mul, Int32.toInt_neg, Int32.reduceToInt, g_bm, g_bm'] at *; simp at *; omega) | (simp_all; done)
set_option maxRecDepth 100000 in
theorem g_X12_buyer_v4 (u : qS) (x : Int32) (y : Int32) (f_7 : Nat → Int32) (f_8 : Nat → Int32) (hI : IM u) (b7_4 : (0 ≤ x ∧ x ≤ 99) ∧ (0 ≤ y ∧ y ≤ 99)) (hs_5 : 0 ≤ u.1 1239 ∧ u.1 1239 ≤ 8) (c19_6 : ¬ (u.1 1239 : Int32) = 8) (hf_7 : f_7 = upd (u.2.1 1240) (u.1 1239 : Int32).toNatClampNeg x) (hf_8 : f_8 = upd (u.2.1 1241) (u.1 1239 : Int32).toNatClampNeg y) : ((((0 ≤ x ∧ x ≤ 99) ∧ (0 ≤ y ∧ y ≤ 99)) ∧ ¬ u.1 1239 = 8) ∧ (((u.1 1239) + 1) - 1 : Int32) = u.1 1239 ∧ ((u.1 1239) + 1 : Int32) = u.1 1239 + 1) ∨ (¬ (((0 ≤ x ∧ x ≤ 99) ∧ (0 ≤ y ∧ y ≤ 99)) ∧ ¬ u.1 1239 = 8) ∧ (((u.1 1239) + 1) - 1 : Int32) = -1 ∧ ((u.1 1239) + 1 : Int32) = u.1 1239) := by
  first | omega | ((try simp only [g_m1, Int32.lt_iff_toInt_lt, Int32.le_iff_toInt_le, ← Int32.toInt_inj, Int32.reduceToInt] at *); omega) | ((try have ez0 : ((u.1 1239) + 1 : Int32).toInt = (u.1 1239 : Int32).toInt + (1 : Int32).toInt := g_add (by (try simp only [g_m1, Int32.lt_iff_toInt_lt, Int32.le_iff_toInt_le, ← Int32.toInt_inj, Int32.reduceToInt] at *); omega) (by (try simp only [g_m1, Int32.lt_iff_toInt_lt, Int32.le_iff_toInt_le, ← Int32.toInt_inj, Int32.reduceToInt] at *); omega)); (try have ez1 : (((u.1 1239) + 1) - 1 : Int32).toInt = ((u.1 1239) + 1 : Int32).toInt - (1 : Int32).toInt := g_sub (by (try simp only [g_m1, Int32.lt_iff_toInt_lt, Int32.le_iff_toInt_le, ← Int32.toInt_inj, Int32.reduceToInt] at *); omega) (by (try simp only [g_m1, Int32.lt_iff_toInt_lt, Int32.le_iff_toInt_le, ← Int32.toInt_inj, Int32.reduceToInt] at *); omega)); (try simp only [g_m1, Int32.lt_iff_toInt_lt, Int32.le_iff_toInt_le, ← Int32.toInt_inj, Int32.reduceToInt] at *); omega) | ((try simp only [g_m1, Int32.lt_iff_toInt_lt, Int32.le_iff_toInt_le, ← Int32.toInt_inj, Int32.toInt_add, Int32.toInt_sub, Int32.toInt_mul, Int32.toInt_neg, Int32.reduceToInt, g_bm, g_bm'] at *); omega) | (have qr1 := g_rng x; have qr2 := g_rng y; (try simp only [g_m1, Int32.lt_iff_toInt_lt, Int32.le_iff_toInt_le, ← Int32.toInt_inj, Int32.toInt_add, Int32.toInt_sub, Int32.toInt_mul, Int32.toInt_neg, Int32.reduceToInt, g_bm, g_bm'] at *); omega) | (simp only [g_m1, Int32.lt_iff_toInt_lt, Int32.le_iff_toInt_le, ← Int32.toInt_inj, Int32.toInt_add, Int32.toInt_sub, Int32.toInt_mul, Int32.toInt_neg, Int32.reduceToInt, g_bm, g_bm'] at *; simp at *; omega) | (simp_all; done)
set_option maxRecDepth 100000 in
theorem g_X12_buyer_v5 (u : qS) (x : Int32) (y : Int32) (hI : IM u) (b7_4 : (0 ≤ x ∧ x ≤ 99) ∧ (0 ≤ y ∧ y ≤ 99)) (hs_5 : 0 ≤ u.1 1239 ∧ u.1 1239 ≤ 8) (c19_6 : (u.1 1239 : Int32) = 8) : ((((0 ≤ x ∧ x ≤ 99) ∧ (0 ≤ y ∧ y ≤ 99)) ∧ ¬ u.1 1239 = 8) ∧ ((-1) : Int32) = u.1 1239 ∧ (u.1 1239 : Int32) = u.1 1239 + 1) ∨ (¬ (((0 ≤ x ∧ x ≤ 99) ∧ (0 ≤ y ∧ y ≤ 99)) ∧ ¬ u.1 1239 = 8) ∧ ((-1) : Int32) = -1 ∧ (u.1 1239 : Int32) = u.1 1239) := by
  first | omega | ((try simp only [g_m1, Int32.lt_iff_toInt_lt, Int32.le_iff_toInt_le, ← Int32.toInt_inj, Int32.reduceToInt] at *); omega) | ((try simp only [g_m1, Int32.lt_iff_toInt_lt, Int32.le_iff_toInt_le, ← Int32.toInt_inj, Int32.reduceToInt] at *); omega) | ((try simp only [g_m1, Int32.lt_iff_toInt_lt, Int32.le_iff_toInt_le, ← Int32.toInt_inj, Int32.toInt_add, Int32.toInt_sub, Int32.toInt_mul, Int32.toInt_neg, Int32.reduceToInt, g_bm, g_bm'] at *); omega) | (have qr1 := g_rng x; have qr2 := g_rng y; (try simp only [g_m1, Int32.lt_iff_toInt_lt, Int32.le_iff_toInt_le, ← Int32.toInt_inj, Int32.toInt_add, Int32.toInt_sub, Int32.toInt_mul, Int32.toInt_neg, Int32.reduceToInt, g_bm, g_bm'] at *); omega) | (simp only [g_m1, Int32.lt_iff_toInt_lt, Int32.le_iff_toInt_le, ← Int32.toInt_inj, Int32.toInt_add, Int32.toInt_sub, Int32.toInt_mul, Int32.toInt_neg, Int32.reduceToInt, g_bm, g_bm'] at *; simp at *; omega) | (simp_all; done)
set_option maxRecDepth 100000 in
theorem g_X12_buyer_v6 (u : qS) (x : Int32) (y : Int32) (hI : IM u) (b7_4 : ¬ ((0 ≤ x ∧ x ≤ 99) ∧ (0 ≤ y ∧ y ≤ 99))) : ((((0 ≤ x ∧ x ≤ 99) ∧ (0 ≤ y ∧ y ≤ 99)) ∧ ¬ u.1 1239 = 8) ∧ ((-1) : Int32) = u.1 1239 ∧ (u.1 1239 : Int32) = u.1 1239 + 1) ∨ (¬ (((0 ≤ x ∧ x ≤ 99) ∧ (0 ≤ y ∧ y ≤ 99)) ∧ ¬ u.1 1239 = 8) ∧ ((-1) : Int32) = -1 ∧ (u.1 1239 : Int32) = u.1 1239) := by
  have hz1239 := hI.1.s1239
  first | omega | ((try simp only [g_m1, Int32.lt_iff_toInt_lt, Int32.le_iff_toInt_le, ← Int32.toInt_inj, Int32.reduceToInt] at *); omega) | ((try simp only [g_m1, Int32.lt_iff_toInt_lt, Int32.le_iff_toInt_le, ← Int32.toInt_inj, Int32.reduceToInt] at *); omega) | ((try simp only [g_m1, Int32.lt_iff_toInt_lt, Int32.le_iff_toInt_le, ← Int32.toInt_inj, Int32.toInt_add, Int32.toInt_sub, Int32.toInt_mul, Int32.toInt_neg, Int32.reduceToInt, g_bm, g_bm'] at *); omega) | (have qr1 := g_rng x; have qr2 := g_rng y; (try simp only [g_m1, Int32.lt_iff_toInt_lt, Int32.le_iff_toInt_le, ← Int32.toInt_inj, Int32.toInt_add, Int32.toInt_sub, Int32.toInt_mul, Int32.toInt_neg, Int32.reduceToInt, g_bm, g_bm'] at *); omega) | (simp only [g_m1, Int32.lt_iff_toInt_lt, Int32.le_iff_toInt_le, ← Int32.toInt_inj, Int32.toInt_add, Int32.toInt_sub, Int32.toInt_mul, Int32.toInt_neg, Int32.reduceToInt, g_bm, g_bm'] at *; simp at *; omega) | (simp_all; done)
set_option maxHeartbeats 1000000 in
set_option maxRecDepth 100000 in
theorem g_X12_buyer (l : Launch) (E : qE) (A : Nat → Prop) (u : qS) (x : Int32) (y : Int32) (hI : IM u) : Met l yX12_buyer (uws yX12_buyer cX12_buyer 3 (some .int)) (qR 2 0 0) (qPc E A 1 u [.ref (E.2.2 1299), .int x, .int y]) (qQi E A 1 (fun r u1 => qFr [1200, 1239] [1240, 1241] [] u u1 ∧ IM u1 ∧ (((((0 ≤ x ∧ x ≤ 99) ∧ (0 ≤ y ∧ y ≤ 99)) ∧ ¬ u.1 1239 = 8) ∧ r = u.1 1239 ∧ u1.1 1239 = u.1 1239 + 1) ∨ (¬ (((0 ≤ x ∧ x ≤ 99) ∧ (0 ≤ y ∧ y ≤ 99)) ∧ ¬ u.1 1239 = 8) ∧ r = -1 ∧ u1.1 1239 = u.1 1239)))) 0 0 A := by
  refine q_met (own := RX12) (f := 2) [.ref (E.2.2 1299), .int x, .int y] (by decide) (Nat.le_of_ble_eq_true rfl) rfl ?_
  intro p0 e0 s0 m0 bl0 me0 cd0 ls hF hr hlocks hU hS hA hl
  have hl : lv_has ls 3 [(0, .ref (E.2.2 1299)), (1, .int x), (2, .int y)] := hl
  have hfr : qFr [1200, 1239] [1240, 1241] [] u u := qFr.rf
  refine lv_aload_n hF.1 hF.2.1 dX12_buyer_0 rfl (lv_at hl 0 rfl) ?_
  refine lv_iconst (v := 0) hF.1 hF.2.1 dX12_buyer_1 (by decide) ?_
  refine q_put hF hU hS dX12_buyer_2 0 12 0 1200 1299 rfl rfl rfl rfl inX12 tyX12 tyX12_ok nmX12 (by decide) (by decide) rfl w_1329 rfl rfl rfl rfl (fun H locs hU hS => ?_)
  have hfr : qFr [1200, 1239] [1240, 1241] [] u (qsI u 1200 0) := hfr.setI (by decide)
  refine lv_iload_n hF.1 hF.2.1 dX12_buyer_5 rfl (lv_at hl 1 rfl) ?_
  refine lv_iload_n hF.1 hF.2.1 dX12_buyer_6 rfl (lv_at hl 2 rfl) ?_
  have hM9 := g_X12_isPlace l E A (qsI u 1200 0) x y
  have hR9 := q_runS (l := l) (e := e0) (below := bl0) (meth := me0) (R := qR 2 0 0) (cells := 0) (slots := 0) (st0 := [.int y, .int x]) (rest := []) hF hU hS hA 2 hM9 w_1691 w_1692 w_107 w_1693 (by decide +kernel) ⟨Nat.le_of_ble_eq_true rfl, Nat.le_of_ble_eq_true rfl⟩ dX12_buyer_7 rfl hl.1 rfl (Nat.le_of_ble_eq_true rfl) ⟨Nat.le_of_ble_eq_true rfl, Nat.le_of_ble_eq_true rfl⟩
  refine q_calli hR9 hU.2.2.2 hS (fun r_3 u_1 H locs hw_2 hU hS => ?_)
  obtain ⟨hw_2_e, hw_2⟩ := hw_2
  rw [hw_2_e] at hU
  have hw_2 : (r_3 = 1 ∧ ((0 ≤ x ∧ x ≤ 99) ∧ (0 ≤ y ∧ y ≤ 99))) ∨ (r_3 = 0 ∧ ¬ ((0 ≤ x ∧ x ≤ 99) ∧ (0 ≤ y ∧ y ≤ 99))) := hw_2
  rcases hw_2 with ⟨rfl, b7_4⟩ | ⟨rfl, b7_4⟩
  · refine lv_if_eq (tgt := 22) hF.1 hF.2.1 dX12_buyer_10 (by decide) (fun h9 => absurd h9 (by decide)) (fun _ => ?_)
    refine lv_aload_n hF.1 hF.2.1 dX12_buyer_13 rfl (lv_at hl 0 rfl) ?_
    refine q_get (v := .int (u.1 1239)) hF hU dX12_buyer_14 0 12 39 1239 1299 rfl rfl rfl rfl inX12 (by decide) (by decide) w_1368 rfl rfl ?_
    have hs_5 : 0 ≤ u.1 1239 ∧ u.1 1239 ≤ 8 := hI.1.s1239
    refine lv_bipush (v := 8) hF.1 hF.2.1 dX12_buyer_17 (by decide) ?_
    refine lv_icmp_ne (tgt := 24) hF.1 hF.2.1 dX12_buyer_19 (by decide) (fun c19_6 => ?_) (fun c19_6 => ?_)
    · refine lv_aload_n hF.1 hF.2.1 dX12_buyer_24 rfl (lv_at hl 0 rfl) ?_
      refine q_get (v := .ref (E.2.2 1240)) hF hU dX12_buyer_25 0 12 40 1240 1299 rfl rfl rfl rfl inX12 (by decide) (by decide) w_1369 rfl rfl ?_
      refine lv_aload_n hF.1 hF.2.1 dX12_buyer_28 rfl (lv_at hl 0 rfl) ?_
      refine q_get (v := .int (u.1 1239)) hF hU dX12_buyer_29 0 12 39 1239 1299 rfl rfl rfl rfl inX12 (by decide) (by decide) w_1368 rfl rfl ?_
      refine lv_iload_n hF.1 hF.2.1 dX12_buyer_32 rfl (lv_at hl 1 rfl) ?_
      refine q_iast hF hU hS dX12_buyer_33 25 1240 rfl rfl (g_X12_buyer_v0 u x y hI b7_4 hs_5 c19_6) (fun f_7 H locs hg9 hU hS => ?_)
      have hf_7 : f_7 = upd (u.2.1 1240) (u.1 1239 : Int32).toNatClampNeg x := hg9
      have hfr : qFr [1200, 1239] [1240, 1241] [] u (qsF (qsI u 1200 0) 1240 f_7) := hfr.setF (by decide)
      refine lv_aload_n hF.1 hF.2.1 dX12_buyer_34 rfl (lv_at hl 0 rfl) ?_
      refine q_get (v := .ref (E.2.2 1241)) hF hU dX12_buyer_35 0 12 41 1241 1299 rfl rfl rfl rfl inX12 (by decide) (by decide) w_1370 rfl rfl ?_
      refine lv_aload_n hF.1 hF.2.1 dX12_buyer_38 rfl (lv_at hl 0 rfl) ?_
      refine q_get (v := .int (u.1 1239)) hF hU dX12_buyer_39 0 12 39 1239 1299 rfl rfl rfl rfl inX12 (by decide) (by decide) w_1368 rfl rfl ?_
      refine lv_iload_n hF.1 hF.2.1 dX12_buyer_42 rfl (lv_at hl 2 rfl) ?_
      refine q_iast hF hU hS dX12_buyer_43 26 1241 rfl rfl (g_X12_buyer_v1 u x y f_7 hI b7_4 hs_5 c19_6 hf_7) (fun f_8 H locs hg9 hU hS => ?_)
      have hf_8 : f_8 = upd (u.2.1 1241) (u.1 1239 : Int32).toNatClampNeg y := hg9
      have hfr : qFr [1200, 1239] [1240, 1241] [] u (qsF (qsF (qsI u 1200 0) 1240 f_7) 1241 f_8) := hfr.setF (by decide)
      refine lv_aload_n hF.1 hF.2.1 dX12_buyer_44 rfl (lv_at hl 0 rfl) ?_
      refine lv_dup hF.1 hF.2.1 dX12_buyer_45 rfl ?_
      refine q_get (v := .int (u.1 1239)) hF hU dX12_buyer_46 0 12 39 1239 1299 rfl rfl rfl rfl inX12 (by decide) (by decide) w_1368 rfl rfl ?_
      refine lv_iconst (v := 1) hF.1 hF.2.1 dX12_buyer_49 (by decide) ?_
      refine lv_iadd hF.1 hF.2.1 dX12_buyer_50 ?_
      refine q_put hF hU hS dX12_buyer_51 0 12 39 1239 1299 rfl rfl rfl rfl inX12 tyX12 tyX12_ok nmX12 (by decide) (by decide) rfl w_1368 rfl rfl rfl rfl (fun H locs hU hS => ?_)
      have hfr : qFr [1200, 1239] [1240, 1241] [] u (qsI (qsF (qsF (qsI u 1200 0) 1240 f_7) 1241 f_8) 1239 ((u.1 1239) + 1)) := hfr.setI (by decide)
      refine lv_aload_n hF.1 hF.2.1 dX12_buyer_54 rfl (lv_at hl 0 rfl) ?_
      refine q_get (v := .int ((u.1 1239) + 1)) hF hU dX12_buyer_55 0 12 39 1239 1299 rfl rfl rfl rfl inX12 (by decide) (by decide) w_1368 rfl rfl ?_
      refine lv_iconst (v := 1) hF.1 hF.2.1 dX12_buyer_58 (by decide) ?_
      refine lv_isub hF.1 hF.2.1 dX12_buyer_59 ?_
      exact q_iret hF hr rfl hlocks hU hS dX12_buyer_60 ⟨hfr, hI.buyer hfr (g_X12_buyer_v2 u x y f_7 f_8 hI b7_4 hs_5 c19_6 hf_7 hf_8) (g_X12_buyer_v3 u x y f_7 f_8 hI b7_4 hs_5 c19_6 hf_7 hf_8), (g_X12_buyer_v4 u x y f_7 f_8 hI b7_4 hs_5 c19_6 hf_7 hf_8)⟩
    · refine lv_iconst (v := (-1)) hF.1 hF.2.1 dX12_buyer_22 (by decide) ?_
      exact q_iret hF hr rfl hlocks hU hS dX12_buyer_23 ⟨hfr, hI.thr 0, (g_X12_buyer_v5 u x y hI b7_4 hs_5 c19_6)⟩
  · refine lv_if_eq (tgt := 22) hF.1 hF.2.1 dX12_buyer_10 (by decide) (fun _ => ?_) (fun h9 => absurd (by decide) h9)
    refine lv_iconst (v := (-1)) hF.1 hF.2.1 dX12_buyer_22 (by decide) ?_
    exact q_iret hF hr rfl hlocks hU hS dX12_buyer_23 ⟨hfr, hI.thr 0, (g_X12_buyer_v6 u x y hI b7_4)⟩
set_option maxRecDepth 100000 in
theorem g_X12_visit_v0 (u : qS) (x : Int32) (y : Int32) (z : Int32) (a : Int32) (b : Int32) (c : Int32) (e : Int32) (r_34 : Int32) (hI : IM u) (b7_4 : 0 ≤ x ∧ x < (u.1 1232 : Int32)) (b15_8 : 0 ≤ y ∧ y < (u.1 1239 : Int32)) (hs_9 : 0 ≤ u.1 1230 ∧ u.1 1230 ≤ 9999) (b27_13 : 0 ≤ z ∧ z ≤ ((u.1 1230 : Int32))) (b39_17 : 0 ≤ a ∧ a ≤ 1439) (b51_21 : 1 ≤ b ∧ b ≤ 300) (b63_25 : 0 ≤ c ∧ c ≤ 4095) (b75_29 : (-1) ≤ e ∧ e ≤ 1439) (hs_30 : 0 ≤ u.1 1247 ∧ u.1 1247 ≤ 120) (c99_31 : ¬ (u.1 1247 : Int32) = 120) (hw_33 : r_34.toInt = (g_ct ((u.2.1 1249)) ((u.2.1 1250)) y z ((u.1 1247 : Int32)).toNatClampNeg : Int)) (c110_35 : ¬ (r_34 : Int32) = 12) : vp_in (u.1 1247) 120 := by
  have hz1239 := hI.1.s1239
  have hz1232 := hI.1.s1232
  refine g_in ?_ ?_ <;> ((try simp only [g_m1, Int32.lt_iff_toInt_lt, Int32.le_iff_toInt_le, ← Int32.toInt_inj, Int32.toInt_add, Int32.toInt_sub, Int32.toInt_mul, Int32.toInt_neg, Int32.reduceToInt, g_bm, g_bm'] at *); omega)
set_option maxRecDepth 100000 in
theorem g_X12_visit_v1 (u : qS) (x : Int32) (y : Int32) (z : Int32) (a : Int32) (b : Int32) (c : Int32) (e : Int32) (r_34 : Int32) (f_36 : Nat → Int32) (hI : IM u) (b7_4 : 0 ≤ x ∧ x < (u.1 1232 : Int32)) (b15_8 : 0 ≤ y ∧ y < (u.1 1239 : Int32)) (hs_9 : 0 ≤ u.1 1230 ∧ u.1 1230 ≤ 9999) (b27_13 : 0 ≤ z ∧ z ≤ ((u.1 1230 : Int32))) (b39_17 : 0 ≤ a ∧ a ≤ 1439) (b51_21 : 1 ≤ b ∧ b ≤ 300) (b63_25 : 0 ≤ c ∧ c ≤ 4095) (b75_29 : (-1) ≤ e ∧ e ≤ 1439) (hs_30 : 0 ≤ u.1 1247 ∧ u.1 1247 ≤ 120) (c99_31 : ¬ (u.1 1247 : Int32) = 120) (hw_33 : r_34.toInt = (g_ct ((u.2.1 1249)) ((u.2.1 1250)) y z ((u.1 1247 : Int32)).toNatClampNeg : Int)) (c110_35 : ¬ (r_34 : Int32) = 12) (hf_36 : f_36 = upd (u.2.1 1248) (u.1 1247 : Int32).toNatClampNeg x) : vp_in (u.1 1247) 120 := by
  have hz1239 := hI.1.s1239
  have hz1232 := hI.1.s1232
  refine g_in ?_ ?_ <;> ((try simp only [g_m1, Int32.lt_iff_toInt_lt, Int32.le_iff_toInt_le, ← Int32.toInt_inj, Int32.toInt_add, Int32.toInt_sub, Int32.toInt_mul, Int32.toInt_neg, Int32.reduceToInt, g_bm, g_bm'] at *); omega)
set_option maxRecDepth 100000 in
theorem g_X12_visit_v2 (u : qS) (x : Int32) (y : Int32) (z : Int32) (a : Int32) (b : Int32) (c : Int32) (e : Int32) (r_34 : Int32) (f_36 : Nat → Int32) (f_37 : Nat → Int32) (hI : IM u) (b7_4 : 0 ≤ x ∧ x < (u.1 1232 : Int32)) (b15_8 : 0 ≤ y ∧ y < (u.1 1239 : Int32)) (hs_9 : 0 ≤ u.1 1230 ∧ u.1 1230 ≤ 9999) (b27_13 : 0 ≤ z ∧ z ≤ ((u.1 1230 : Int32))) (b39_17 : 0 ≤ a ∧ a ≤ 1439) (b51_21 : 1 ≤ b ∧ b ≤ 300) (b63_25 : 0 ≤ c ∧ c ≤ 4095) (b75_29 : (-1) ≤ e ∧ e ≤ 1439) (hs_30 : 0 ≤ u.1 1247 ∧ u.1 1247 ≤ 120) (c99_31 : ¬ (u.1 1247 : Int32) = 120) (hw_33 : r_34.toInt = (g_ct ((u.2.1 1249)) ((u.2.1 1250)) y z ((u.1 1247 : Int32)).toNatClampNeg : Int)) (c110_35 : ¬ (r_34 : Int32) = 12) (hf_36 : f_36 = upd (u.2.1 1248) (u.1 1247 : Int32).toNatClampNeg x) (hf_37 : f_37 = upd (u.2.1 1249) (u.1 1247 : Int32).toNatClampNeg y) : vp_in (u.1 1247) 120 := by
  have hz1239 := hI.1.s1239
  have hz1232 := hI.1.s1232
  refine g_in ?_ ?_ <;> ((try simp only [g_m1, Int32.lt_iff_toInt_lt, Int32.le_iff_toInt_le, ← Int32.toInt_inj, Int32.toInt_add, Int32.toInt_sub, Int32.toInt_mul, Int32.toInt_neg, Int32.reduceToInt, g_bm, g_bm'] at *); omega)
set_option maxRecDepth 100000 in
theorem g_X12_visit_v3 (u : qS) (x : Int32) (y : Int32) (z : Int32) (a : Int32) (b : Int32) (c : Int32) (e : Int32) (r_34 : Int32) (f_36 : Nat → Int32) (f_37 : Nat → Int32) (f_38 : Nat → Int32) (hI : IM u) (b7_4 : 0 ≤ x ∧ x < (u.1 1232 : Int32)) (b15_8 : 0 ≤ y ∧ y < (u.1 1239 : Int32)) (hs_9 : 0 ≤ u.1 1230 ∧ u.1 1230 ≤ 9999) (b27_13 : 0 ≤ z ∧ z ≤ ((u.1 1230 : Int32))) (b39_17 : 0 ≤ a ∧ a ≤ 1439) (b51_21 : 1 ≤ b ∧ b ≤ 300) (b63_25 : 0 ≤ c ∧ c ≤ 4095) (b75_29 : (-1) ≤ e ∧ e ≤ 1439) (hs_30 : 0 ≤ u.1 1247 ∧ u.1 1247 ≤ 120) (c99_31 : ¬ (u.1 1247 : Int32) = 120) (hw_33 : r_34.toInt = (g_ct ((u.2.1 1249)) ((u.2.1 1250)) y z ((u.1 1247 : Int32)).toNatClampNeg : Int)) (c110_35 : ¬ (r_34 : Int32) = 12) (hf_36 : f_36 = upd (u.2.1 1248) (u.1 1247 : Int32).toNatClampNeg x) (hf_37 : f_37 = upd (u.2.1 1249) (u.1 1247 : Int32).toNatClampNeg y) (hf_38 : f_38 = upd (u.2.1 1250) (u.1 1247 : Int32).toNatClampNeg z) : vp_in (u.1 1247) 120 := by
  have hz1239 := hI.1.s1239
  have hz1232 := hI.1.s1232
  refine g_in ?_ ?_ <;> ((try simp only [g_m1, Int32.lt_iff_toInt_lt, Int32.le_iff_toInt_le, ← Int32.toInt_inj, Int32.toInt_add, Int32.toInt_sub, Int32.toInt_mul, Int32.toInt_neg, Int32.reduceToInt, g_bm, g_bm'] at *); omega)
set_option maxRecDepth 100000 in
theorem g_X12_visit_v4 (u : qS) (x : Int32) (y : Int32) (z : Int32) (a : Int32) (b : Int32) (c : Int32) (e : Int32) (r_34 : Int32) (f_36 : Nat → Int32) (f_37 : Nat → Int32) (f_38 : Nat → Int32) (f_39 : Nat → Int32) (hI : IM u) (b7_4 : 0 ≤ x ∧ x < (u.1 1232 : Int32)) (b15_8 : 0 ≤ y ∧ y < (u.1 1239 : Int32)) (hs_9 : 0 ≤ u.1 1230 ∧ u.1 1230 ≤ 9999) (b27_13 : 0 ≤ z ∧ z ≤ ((u.1 1230 : Int32))) (b39_17 : 0 ≤ a ∧ a ≤ 1439) (b51_21 : 1 ≤ b ∧ b ≤ 300) (b63_25 : 0 ≤ c ∧ c ≤ 4095) (b75_29 : (-1) ≤ e ∧ e ≤ 1439) (hs_30 : 0 ≤ u.1 1247 ∧ u.1 1247 ≤ 120) (c99_31 : ¬ (u.1 1247 : Int32) = 120) (hw_33 : r_34.toInt = (g_ct ((u.2.1 1249)) ((u.2.1 1250)) y z ((u.1 1247 : Int32)).toNatClampNeg : Int)) (c110_35 : ¬ (r_34 : Int32) = 12) (hf_36 : f_36 = upd (u.2.1 1248) (u.1 1247 : Int32).toNatClampNeg x) (hf_37 : f_37 = upd (u.2.1 1249) (u.1 1247 : Int32).toNatClampNeg y) (hf_38 : f_38 = upd (u.2.1 1250) (u.1 1247 : Int32).toNatClampNeg z) (hf_39 : f_39 = upd (u.2.1 1251) (u.1 1247 : Int32).toNatClampNeg a) : vp_in (u.1 1247) 120 := by
  have hz1239 := hI.1.s1239
  have hz1232 := hI.1.s1232
  refine g_in ?_ ?_ <;> ((try simp only [g_m1, Int32.lt_iff_toInt_lt, Int32.le_iff_toInt_le, ← Int32.toInt_inj, Int32.toInt_add, Int32.toInt_sub, Int32.toInt_mul, Int32.toInt_neg, Int32.reduceToInt, g_bm, g_bm'] at *); omega)
set_option maxRecDepth 100000 in
theorem g_X12_visit_v5 (u : qS) (x : Int32) (y : Int32) (z : Int32) (a : Int32) (b : Int32) (c : Int32) (e : Int32) (r_34 : Int32) (f_36 : Nat → Int32) (f_37 : Nat → Int32) (f_38 : Nat → Int32) (f_39 : Nat → Int32) (f_40 : Nat → Int32) (hI : IM u) (b7_4 : 0 ≤ x ∧ x < (u.1 1232 : Int32)) (b15_8 : 0 ≤ y ∧ y < (u.1 1239 : Int32)) (hs_9 : 0 ≤ u.1 1230 ∧ u.1 1230 ≤ 9999) (b27_13 : 0 ≤ z ∧ z ≤ ((u.1 1230 : Int32))) (b39_17 : 0 ≤ a ∧ a ≤ 1439) (b51_21 : 1 ≤ b ∧ b ≤ 300) (b63_25 : 0 ≤ c ∧ c ≤ 4095) (b75_29 : (-1) ≤ e ∧ e ≤ 1439) (hs_30 : 0 ≤ u.1 1247 ∧ u.1 1247 ≤ 120) (c99_31 : ¬ (u.1 1247 : Int32) = 120) (hw_33 : r_34.toInt = (g_ct ((u.2.1 1249)) ((u.2.1 1250)) y z ((u.1 1247 : Int32)).toNatClampNeg : Int)) (c110_35 : ¬ (r_34 : Int32) = 12) (hf_36 : f_36 = upd (u.2.1 1248) (u.1 1247 : Int32).toNatClampNeg x) (hf_37 : f_37 = upd (u.2.1 1249) (u.1 1247 : Int32).toNatClampNeg y) (hf_38 : f_38 = upd (u.2.1 1250) (u.1 1247 : Int32).toNatClampNeg z) (hf_39 : f_39 = upd (u.2.1 1251) (u.1 1247 : Int32).toNatClampNeg a) (hf_40 : f_40 = upd (u.2.1 1252) (u.1 1247 : Int32).toNatClampNeg b) : vp_in (u.1 1247) 120 := by
  have hz1239 := hI.1.s1239
  have hz1232 := hI.1.s1232
  refine g_in ?_ ?_ <;> ((try simp only [g_m1, Int32.lt_iff_toInt_lt, Int32.le_iff_toInt_le, ← Int32.toInt_inj, Int32.toInt_add, Int32.toInt_sub, Int32.toInt_mul, Int32.toInt_neg, Int32.reduceToInt, g_bm, g_bm'] at *); omega)
set_option maxRecDepth 100000 in
theorem g_X12_visit_v6 (u : qS) (x : Int32) (y : Int32) (z : Int32) (a : Int32) (b : Int32) (c : Int32) (e : Int32) (r_34 : Int32) (f_36 : Nat → Int32) (f_37 : Nat → Int32) (f_38 : Nat → Int32) (f_39 : Nat → Int32) (f_40 : Nat → Int32) (f_41 : Nat → Int32) (hI : IM u) (b7_4 : 0 ≤ x ∧ x < (u.1 1232 : Int32)) (b15_8 : 0 ≤ y ∧ y < (u.1 1239 : Int32)) (hs_9 : 0 ≤ u.1 1230 ∧ u.1 1230 ≤ 9999) (b27_13 : 0 ≤ z ∧ z ≤ ((u.1 1230 : Int32))) (b39_17 : 0 ≤ a ∧ a ≤ 1439) (b51_21 : 1 ≤ b ∧ b ≤ 300) (b63_25 : 0 ≤ c ∧ c ≤ 4095) (b75_29 : (-1) ≤ e ∧ e ≤ 1439) (hs_30 : 0 ≤ u.1 1247 ∧ u.1 1247 ≤ 120) (c99_31 : ¬ (u.1 1247 : Int32) = 120) (hw_33 : r_34.toInt = (g_ct ((u.2.1 1249)) ((u.2.1 1250)) y z ((u.1 1247 : Int32)).toNatClampNeg : Int)) (c110_35 : ¬ (r_34 : Int32) = 12) (hf_36 : f_36 = upd (u.2.1 1248) (u.1 1247 : Int32).toNatClampNeg x) (hf_37 : f_37 = upd (u.2.1 1249) (u.1 1247 : Int32).toNatClampNeg y) (hf_38 : f_38 = upd (u.2.1 1250) (u.1 1247 : Int32).toNatClampNeg z) (hf_39 : f_39 = upd (u.2.1 1251) (u.1 1247 : Int32).toNatClampNeg a) (hf_40 : f_40 = upd (u.2.1 1252) (u.1 1247 : Int32).toNatClampNeg b) (hf_41 : f_41 = upd (u.2.1 1253) (u.1 1247 : Int32).toNatClampNeg c) : vp_in (u.1 1247) 120 := by
  have hz1239 := hI.1.s1239
  have hz1232 := hI.1.s1232
  refine g_in ?_ ?_ <;> ((try simp only [g_m1, Int32.lt_iff_toInt_lt, Int32.le_iff_toInt_le, ← Int32.toInt_inj, Int32.toInt_add, Int32.toInt_sub, Int32.toInt_mul, Int32.toInt_neg, Int32.reduceToInt, g_bm, g_bm'] at *); omega)
set_option maxRecDepth 100000 in
theorem g_X12_visit_v7 (u : qS) (x : Int32) (y : Int32) (z : Int32) (a : Int32) (b : Int32) (c : Int32) (e : Int32) (r_34 : Int32) (f_36 : Nat → Int32) (f_37 : Nat → Int32) (f_38 : Nat → Int32) (f_39 : Nat → Int32) (f_40 : Nat → Int32) (f_41 : Nat → Int32) (f_42 : Nat → Int32) (hI : IM u) (b7_4 : 0 ≤ x ∧ x < (u.1 1232 : Int32)) (b15_8 : 0 ≤ y ∧ y < (u.1 1239 : Int32)) (hs_9 : 0 ≤ u.1 1230 ∧ u.1 1230 ≤ 9999) (b27_13 : 0 ≤ z ∧ z ≤ ((u.1 1230 : Int32))) (b39_17 : 0 ≤ a ∧ a ≤ 1439) (b51_21 : 1 ≤ b ∧ b ≤ 300) (b63_25 : 0 ≤ c ∧ c ≤ 4095) (b75_29 : (-1) ≤ e ∧ e ≤ 1439) (hs_30 : 0 ≤ u.1 1247 ∧ u.1 1247 ≤ 120) (c99_31 : ¬ (u.1 1247 : Int32) = 120) (hw_33 : r_34.toInt = (g_ct ((u.2.1 1249)) ((u.2.1 1250)) y z ((u.1 1247 : Int32)).toNatClampNeg : Int)) (c110_35 : ¬ (r_34 : Int32) = 12) (hf_36 : f_36 = upd (u.2.1 1248) (u.1 1247 : Int32).toNatClampNeg x) (hf_37 : f_37 = upd (u.2.1 1249) (u.1 1247 : Int32).toNatClampNeg y) (hf_38 : f_38 = upd (u.2.1 1250) (u.1 1247 : Int32).toNatClampNeg z) (hf_39 : f_39 = upd (u.2.1 1251) (u.1 1247 : Int32).toNatClampNeg a) (hf_40 : f_40 = upd (u.2.1 1252) (u.1 1247 : Int32).toNatClampNeg b) (hf_41 : f_41 = upd (u.2.1 1253) (u.1 1247 : Int32).toNatClampNeg c) (hf_42 : f_42 = upd (u.2.1 1254) (u.1 1247 : Int32).toNatClampNeg e) : vp_in (u.1 1247) 120 := by
  have hz1239 := hI.1.s1239
  have hz1232 := hI.1.s1232
  refine g_in ?_ ?_ <;> ((try simp only [g_m1, Int32.lt_iff_toInt_lt, Int32.le_iff_toInt_le, ← Int32.toInt_inj, Int32.toInt_add, Int32.toInt_sub, Int32.toInt_mul, Int32.toInt_neg, Int32.reduceToInt, g_bm, g_bm'] at *); omega)
set_option maxRecDepth 100000 in
theorem g_X12_visit_v8 (u : qS) (x : Int32) (y : Int32) (z : Int32) (a : Int32) (b : Int32) (c : Int32) (e : Int32) (r_34 : Int32) (f_36 : Nat → Int32) (f_37 : Nat → Int32) (f_38 : Nat → Int32) (f_39 : Nat → Int32) (f_40 : Nat → Int32) (f_41 : Nat → Int32) (f_42 : Nat → Int32) (f_43 : Nat → Int32) (hI : IM u) (b7_4 : 0 ≤ x ∧ x < (u.1 1232 : Int32)) (b15_8 : 0 ≤ y ∧ y < (u.1 1239 : Int32)) (hs_9 : 0 ≤ u.1 1230 ∧ u.1 1230 ≤ 9999) (b27_13 : 0 ≤ z ∧ z ≤ ((u.1 1230 : Int32))) (b39_17 : 0 ≤ a ∧ a ≤ 1439) (b51_21 : 1 ≤ b ∧ b ≤ 300) (b63_25 : 0 ≤ c ∧ c ≤ 4095) (b75_29 : (-1) ≤ e ∧ e ≤ 1439) (hs_30 : 0 ≤ u.1 1247 ∧ u.1 1247 ≤ 120) (c99_31 : ¬ (u.1 1247 : Int32) = 120) (hw_33 : r_34.toInt = (g_ct ((u.2.1 1249)) ((u.2.1 1250)) y z ((u.1 1247 : Int32)).toNatClampNeg : Int)) (c110_35 : ¬ (r_34 : Int32) = 12) (hf_36 : f_36 = upd (u.2.1 1248) (u.1 1247 : Int32).toNatClampNeg x) (hf_37 : f_37 = upd (u.2.1 1249) (u.1 1247 : Int32).toNatClampNeg y) (hf_38 : f_38 = upd (u.2.1 1250) (u.1 1247 : Int32).toNatClampNeg z) (hf_39 : f_39 = upd (u.2.1 1251) (u.1 1247 : Int32).toNatClampNeg a) (hf_40 : f_40 = upd (u.2.1 1252) (u.1 1247 : Int32).toNatClampNeg b) (hf_41 : f_41 = upd (u.2.1 1253) (u.1 1247 : Int32).toNatClampNeg c) (hf_42 : f_42 = upd (u.2.1 1254) (u.1 1247 : Int32).toNatClampNeg e) (hf_43 : f_43 = upd (u.2.1 1255) (u.1 1247 : Int32).toNatClampNeg (u.1 1230)) : 0 ≤ ((u.1 1247) + 1 : Int32) ∧ ((u.1 1247) + 1 : Int32) ≤ 120 := by
  have hz1239 := hI.1.s1239
  have hz1232 := hI.1.s1232
  first | omega | ((try simp only [g_m1, Int32.lt_iff_toInt_lt, Int32.le_iff_toInt_le, ← Int32.toInt_inj, Int32.reduceToInt] at *); omega) | ((try have ez0 : ((u.1 1247) + 1 : Int32).toInt = (u.1 1247 : Int32).toInt + (1 : Int32).toInt := g_add (by (try simp only [g_m1, Int32.lt_iff_toInt_lt, Int32.le_iff_toInt_le, ← Int32.toInt_inj, Int32.reduceToInt] at *); omega) (by (try simp only [g_m1, Int32.lt_iff_toInt_lt, Int32.le_iff_toInt_le, ← Int32.toInt_inj, Int32.reduceToInt] at *); omega)); (try simp only [g_m1, Int32.lt_iff_toInt_lt, Int32.le_iff_toInt_le, ← Int32.toInt_inj, Int32.reduceToInt] at *); omega) | ((try simp only [g_m1, Int32.lt_iff_toInt_lt, Int32.le_iff_toInt_le, ← Int32.toInt_inj, Int32.toInt_add, Int32.toInt_sub, Int32.toInt_mul, Int32.toInt_neg, Int32.reduceToInt, g_bm, g_bm'] at *); omega) | (have qr1 := g_rng x; have qr2 := g_rng y; have qr3 := g_rng z; have qr4 := g_rng a; have qr5 := g_rng b; have qr6 := g_rng c; have qr7 := g_rng e; have qr8 := g_rng r_34; (try simp only [g_m1, Int32.lt_iff_toInt_lt, Int32.le_iff_toInt_le, ← Int32.toInt_inj, Int32.toInt_add, Int32.toInt_sub, Int32.toInt_mul, Int32.toInt_neg, Int32.reduceToInt, g_bm, g_bm'] at *); omega) | (simp only [g_m1, Int32.lt_iff_toInt_lt, Int32.le_iff_toInt_le, ← Int32.toInt_inj, Int32.toInt_add, Int32.toInt_sub, Int32.toInt_mul, Int32.toInt_neg, Int32.reduceToInt, g_bm, g_bm'] at *; simp at *; omega) | (simp_all; done)
set_option maxRecDepth 100000 in
theorem g_X12_visit_v9 (u : qS) (x : Int32) (y : Int32) (z : Int32) (a : Int32) (b : Int32) (c : Int32) (e : Int32) (r_34 : Int32) (f_36 : Nat → Int32) (f_37 : Nat → Int32) (f_38 : Nat → Int32) (f_39 : Nat → Int32) (f_40 : Nat → Int32) (f_41 : Nat → Int32) (f_42 : Nat → Int32) (f_43 : Nat → Int32) (hI : IM u) (b7_4 : 0 ≤ x ∧ x < (u.1 1232 : Int32)) (b15_8 : 0 ≤ y ∧ y < (u.1 1239 : Int32)) (hs_9 : 0 ≤ u.1 1230 ∧ u.1 1230 ≤ 9999) (b27_13 : 0 ≤ z ∧ z ≤ ((u.1 1230 : Int32))) (b39_17 : 0 ≤ a ∧ a ≤ 1439) (b51_21 : 1 ≤ b ∧ b ≤ 300) (b63_25 : 0 ≤ c ∧ c ≤ 4095) (b75_29 : (-1) ≤ e ∧ e ≤ 1439) (hs_30 : 0 ≤ u.1 1247 ∧ u.1 1247 ≤ 120) (c99_31 : ¬ (u.1 1247 : Int32) = 120) (hw_33 : r_34.toInt = (g_ct ((u.2.1 1249)) ((u.2.1 1250)) y z ((u.1 1247 : Int32)).toNatClampNeg : Int)) (c110_35 : ¬ (r_34 : Int32) = 12) (hf_36 : f_36 = upd (u.2.1 1248) (u.1 1247 : Int32).toNatClampNeg x) (hf_37 : f_37 = upd (u.2.1 1249) (u.1 1247 : Int32).toNatClampNeg y) (hf_38 : f_38 = upd (u.2.1 1250) (u.1 1247 : Int32).toNatClampNeg z) (hf_39 : f_39 = upd (u.2.1 1251) (u.1 1247 : Int32).toNatClampNeg a) (hf_40 : f_40 = upd (u.2.1 1252) (u.1 1247 : Int32).toNatClampNeg b) (hf_41 : f_41 = upd (u.2.1 1253) (u.1 1247 : Int32).toNatClampNeg c) (hf_42 : f_42 = upd (u.2.1 1254) (u.1 1247 : Int32).toNatClampNeg e) (hf_43 : f_43 = upd (u.2.1 1255) (u.1 1247 : Int32).toNatClampNeg (u.1 1230)) : 0 ≤ (u.1 1247).toInt := by
  have hz1239 := hI.1.s1239
  have hz1232 := hI.1.s1232
  first | omega | ((try simp only [g_m1, Int32.lt_iff_toInt_lt, Int32.le_iff_toInt_le, ← Int32.toInt_inj, Int32.reduceToInt] at *); omega) | ((try simp only [g_m1, Int32.lt_iff_toInt_lt, Int32.le_iff_toInt_le, ← Int32.toInt_inj, Int32.reduceToInt] at *); omega) | ((try simp only [g_m1, Int32.lt_iff_toInt_lt, Int32.le_iff_toInt_le, ← Int32.toInt_inj, Int32.toInt_add, Int32.toInt_sub, Int32.toInt_mul, Int32.toInt_neg, Int32.reduceToInt, g_bm, g_bm'] at *); omega) | (have qr1 := g_rng x; have qr2 := g_rng y; have qr3 := g_rng z; have qr4 := g_rng a; have qr5 := g_rng b; have qr6 := g_rng c; have qr7 := g_rng e; have qr8 := g_rng r_34; (try simp only [g_m1, Int32.lt_iff_toInt_lt, Int32.le_iff_toInt_le, ← Int32.toInt_inj, Int32.toInt_add, Int32.toInt_sub, Int32.toInt_mul, Int32.toInt_neg, Int32.reduceToInt, g_bm, g_bm'] at *); omega) | (simp only [g_m1, Int32.lt_iff_toInt_lt, Int32.le_iff_toInt_le, ← Int32.toInt_inj, Int32.toInt_add, Int32.toInt_sub, Int32.toInt_mul, Int32.toInt_neg, Int32.reduceToInt, g_bm, g_bm'] at *; simp at *; omega) | (simp_all; done)
set_option maxRecDepth 100000 in
theorem g_X12_visit_v10 (u : qS) (x : Int32) (y : Int32) (z : Int32) (a : Int32) (b : Int32) (c : Int32) (e : Int32) (r_34 : Int32) (f_36 : Nat → Int32) (f_37 : Nat → Int32) (f_38 : Nat → Int32) (f_39 : Nat → Int32) (f_40 : Nat → Int32) (f_41 : Nat → Int32) (f_42 : Nat → Int32) (f_43 : Nat → Int32) (hI : IM u) (b7_4 : 0 ≤ x ∧ x < (u.1 1232 : Int32)) (b15_8 : 0 ≤ y ∧ y < (u.1 1239 : Int32)) (hs_9 : 0 ≤ u.1 1230 ∧ u.1 1230 ≤ 9999) (b27_13 : 0 ≤ z ∧ z ≤ ((u.1 1230 : Int32))) (b39_17 : 0 ≤ a ∧ a ≤ 1439) (b51_21 : 1 ≤ b ∧ b ≤ 300) (b63_25 : 0 ≤ c ∧ c ≤ 4095) (b75_29 : (-1) ≤ e ∧ e ≤ 1439) (hs_30 : 0 ≤ u.1 1247 ∧ u.1 1247 ≤ 120) (c99_31 : ¬ (u.1 1247 : Int32) = 120) (hw_33 : r_34.toInt = (g_ct ((u.2.1 1249)) ((u.2.1 1250)) y z ((u.1 1247 : Int32)).toNatClampNeg : Int)) (c110_35 : ¬ (r_34 : Int32) = 12) (hf_36 : f_36 = upd (u.2.1 1248) (u.1 1247 : Int32).toNatClampNeg x) (hf_37 : f_37 = upd (u.2.1 1249) (u.1 1247 : Int32).toNatClampNeg y) (hf_38 : f_38 = upd (u.2.1 1250) (u.1 1247 : Int32).toNatClampNeg z) (hf_39 : f_39 = upd (u.2.1 1251) (u.1 1247 : Int32).toNatClampNeg a) (hf_40 : f_40 = upd (u.2.1 1252) (u.1 1247 : Int32).toNatClampNeg b) (hf_41 : f_41 = upd (u.2.1 1253) (u.1 1247 : Int32).toNatClampNeg c) (hf_42 : f_42 = upd (u.2.1 1254) (u.1 1247 : Int32).toNatClampNeg e) (hf_43 : f_43 = upd (u.2.1 1255) (u.1 1247 : Int32).toNatClampNeg (u.1 1230)) : (u.1 1247).toInt < 120 := by
  have hz1239 := hI.1.s1239
  have hz1232 := hI.1.s1232
  first | omega | ((try simp only [g_m1, Int32.lt_iff_toInt_lt, Int32.le_iff_toInt_le, ← Int32.toInt_inj, Int32.reduceToInt] at *); omega) | ((try simp only [g_m1, Int32.lt_iff_toInt_lt, Int32.le_iff_toInt_le, ← Int32.toInt_inj, Int32.reduceToInt] at *); omega) | ((try simp only [g_m1, Int32.lt_iff_toInt_lt, Int32.le_iff_toInt_le, ← Int32.toInt_inj, Int32.toInt_add, Int32.toInt_sub, Int32.toInt_mul, Int32.toInt_neg, Int32.reduceToInt, g_bm, g_bm'] at *); omega) | (have qr1 := g_rng x; have qr2 := g_rng y; have qr3 := g_rng z; have qr4 := g_rng a; have qr5 := g_rng b; have qr6 := g_rng c; have qr7 := g_rng e; have qr8 := g_rng r_34; (try simp only [g_m1, Int32.lt_iff_toInt_lt, Int32.le_iff_toInt_le, ← Int32.toInt_inj, Int32.toInt_add, Int32.toInt_sub, Int32.toInt_mul, Int32.toInt_neg, Int32.reduceToInt, g_bm, g_bm'] at *); omega) | (simp only [g_m1, Int32.lt_iff_toInt_lt, Int32.le_iff_toInt_le, ← Int32.toInt_inj, Int32.toInt_add, Int32.toInt_sub, Int32.toInt_mul, Int32.toInt_neg, Int32.reduceToInt, g_bm, g_bm'] at *; simp at *; omega) | (simp_all; done)
set_option maxRecDepth 100000 in
theorem g_X12_visit_v11 (u : qS) (x : Int32) (y : Int32) (z : Int32) (a : Int32) (b : Int32) (c : Int32) (e : Int32) (r_34 : Int32) (f_36 : Nat → Int32) (f_37 : Nat → Int32) (f_38 : Nat → Int32) (f_39 : Nat → Int32) (f_40 : Nat → Int32) (f_41 : Nat → Int32) (f_42 : Nat → Int32) (f_43 : Nat → Int32) (hI : IM u) (b7_4 : 0 ≤ x ∧ x < (u.1 1232 : Int32)) (b15_8 : 0 ≤ y ∧ y < (u.1 1239 : Int32)) (hs_9 : 0 ≤ u.1 1230 ∧ u.1 1230 ≤ 9999) (b27_13 : 0 ≤ z ∧ z ≤ ((u.1 1230 : Int32))) (b39_17 : 0 ≤ a ∧ a ≤ 1439) (b51_21 : 1 ≤ b ∧ b ≤ 300) (b63_25 : 0 ≤ c ∧ c ≤ 4095) (b75_29 : (-1) ≤ e ∧ e ≤ 1439) (hs_30 : 0 ≤ u.1 1247 ∧ u.1 1247 ≤ 120) (c99_31 : ¬ (u.1 1247 : Int32) = 120) (hw_33 : r_34.toInt = (g_ct ((u.2.1 1249)) ((u.2.1 1250)) y z ((u.1 1247 : Int32)).toNatClampNeg : Int)) (c110_35 : ¬ (r_34 : Int32) = 12) (hf_36 : f_36 = upd (u.2.1 1248) (u.1 1247 : Int32).toNatClampNeg x) (hf_37 : f_37 = upd (u.2.1 1249) (u.1 1247 : Int32).toNatClampNeg y) (hf_38 : f_38 = upd (u.2.1 1250) (u.1 1247 : Int32).toNatClampNeg z) (hf_39 : f_39 = upd (u.2.1 1251) (u.1 1247 : Int32).toNatClampNeg a) (hf_40 : f_40 = upd (u.2.1 1252) (u.1 1247 : Int32).toNatClampNeg b) (hf_41 : f_41 = upd (u.2.1 1253) (u.1 1247 : Int32).toNatClampNeg c) (hf_42 : f_42 = upd (u.2.1 1254) (u.1 1247 : Int32).toNatClampNeg e) (hf_43 : f_43 = upd (u.2.1 1255) (u.1 1247 : Int32).toNatClampNeg (u.1 1230)) : 0 ≤ x ∧ x < u.1 1232 := by
  have hz1239 := hI.1.s1239
  have hz1232 := hI.1.s1232
  first | omega | ((try simp only [g_m1, Int32.lt_iff_toInt_lt, Int32.le_iff_toInt_le, ← Int32.toInt_inj, Int32.reduceToInt] at *); omega) | ((try simp only [g_m1, Int32.lt_iff_toInt_lt, Int32.le_iff_toInt_le, ← Int32.toInt_inj, Int32.reduceToInt] at *); omega) | ((try simp only [g_m1, Int32.lt_iff_toInt_lt, Int32.le_iff_toInt_le, ← Int32.toInt_inj, Int32.toInt_add, Int32.toInt_sub, Int32.toInt_mul, Int32.toInt_neg, Int32.reduceToInt, g_bm, g_bm'] at *); omega) | (have qr1 := g_rng x; have qr2 := g_rng y; have qr3 := g_rng z; have qr4 := g_rng a; have qr5 := g_rng b; have qr6 := g_rng c; have qr7 := g_rng e; have qr8 := g_rng r_34; (try simp only [g_m1, Int32.lt_iff_toInt_lt, Int32.le_iff_toInt_le, ← Int32.toInt_inj, Int32.toInt_add, Int32.toInt_sub, Int32.toInt_mul, Int32.toInt_neg, Int32.reduceToInt, g_bm, g_bm'] at *); omega) | (simp only [g_m1, Int32.lt_iff_toInt_lt, Int32.le_iff_toInt_le, ← Int32.toInt_inj, Int32.toInt_add, Int32.toInt_sub, Int32.toInt_mul, Int32.toInt_neg, Int32.reduceToInt, g_bm, g_bm'] at *; simp at *; omega) | (simp_all; done)
set_option maxRecDepth 100000 in
theorem g_X12_visit_v12 (u : qS) (x : Int32) (y : Int32) (z : Int32) (a : Int32) (b : Int32) (c : Int32) (e : Int32) (r_34 : Int32) (f_36 : Nat → Int32) (f_37 : Nat → Int32) (f_38 : Nat → Int32) (f_39 : Nat → Int32) (f_40 : Nat → Int32) (f_41 : Nat → Int32) (f_42 : Nat → Int32) (f_43 : Nat → Int32) (hI : IM u) (b7_4 : 0 ≤ x ∧ x < (u.1 1232 : Int32)) (b15_8 : 0 ≤ y ∧ y < (u.1 1239 : Int32)) (hs_9 : 0 ≤ u.1 1230 ∧ u.1 1230 ≤ 9999) (b27_13 : 0 ≤ z ∧ z ≤ ((u.1 1230 : Int32))) (b39_17 : 0 ≤ a ∧ a ≤ 1439) (b51_21 : 1 ≤ b ∧ b ≤ 300) (b63_25 : 0 ≤ c ∧ c ≤ 4095) (b75_29 : (-1) ≤ e ∧ e ≤ 1439) (hs_30 : 0 ≤ u.1 1247 ∧ u.1 1247 ≤ 120) (c99_31 : ¬ (u.1 1247 : Int32) = 120) (hw_33 : r_34.toInt = (g_ct ((u.2.1 1249)) ((u.2.1 1250)) y z ((u.1 1247 : Int32)).toNatClampNeg : Int)) (c110_35 : ¬ (r_34 : Int32) = 12) (hf_36 : f_36 = upd (u.2.1 1248) (u.1 1247 : Int32).toNatClampNeg x) (hf_37 : f_37 = upd (u.2.1 1249) (u.1 1247 : Int32).toNatClampNeg y) (hf_38 : f_38 = upd (u.2.1 1250) (u.1 1247 : Int32).toNatClampNeg z) (hf_39 : f_39 = upd (u.2.1 1251) (u.1 1247 : Int32).toNatClampNeg a) (hf_40 : f_40 = upd (u.2.1 1252) (u.1 1247 : Int32).toNatClampNeg b) (hf_41 : f_41 = upd (u.2.1 1253) (u.1 1247 : Int32).toNatClampNeg c) (hf_42 : f_42 = upd (u.2.1 1254) (u.1 1247 : Int32).toNatClampNeg e) (hf_43 : f_43 = upd (u.2.1 1255) (u.1 1247 : Int32).toNatClampNeg (u.1 1230)) : 0 ≤ y ∧ y < u.1 1239 := by
  have hz1239 := hI.1.s1239
  have hz1232 := hI.1.s1232
  first | omega | ((try simp only [g_m1, Int32.lt_iff_toInt_lt, Int32.le_iff_toInt_le, ← Int32.toInt_inj, Int32.reduceToInt] at *); omega) | ((try simp only [g_m1, Int32.lt_iff_toInt_lt, Int32.le_iff_toInt_le, ← Int32.toInt_inj, Int32.reduceToInt] at *); omega) | ((try simp only [g_m1, Int32.lt_iff_toInt_lt, Int32.le_iff_toInt_le, ← Int32.toInt_inj, Int32.toInt_add, Int32.toInt_sub, Int32.toInt_mul, Int32.toInt_neg, Int32.reduceToInt, g_bm, g_bm'] at *); omega) | (have qr1 := g_rng x; have qr2 := g_rng y; have qr3 := g_rng z; have qr4 := g_rng a; have qr5 := g_rng b; have qr6 := g_rng c; have qr7 := g_rng e; have qr8 := g_rng r_34; (try simp only [g_m1, Int32.lt_iff_toInt_lt, Int32.le_iff_toInt_le, ← Int32.toInt_inj, Int32.toInt_add, Int32.toInt_sub, Int32.toInt_mul, Int32.toInt_neg, Int32.reduceToInt, g_bm, g_bm'] at *); omega) | (simp only [g_m1, Int32.lt_iff_toInt_lt, Int32.le_iff_toInt_le, ← Int32.toInt_inj, Int32.toInt_add, Int32.toInt_sub, Int32.toInt_mul, Int32.toInt_neg, Int32.reduceToInt, g_bm, g_bm'] at *; simp at *; omega) | (simp_all; done)
set_option maxRecDepth 100000 in
theorem g_X12_visit_v13 (u : qS) (x : Int32) (y : Int32) (z : Int32) (a : Int32) (b : Int32) (c : Int32) (e : Int32) (r_34 : Int32) (f_36 : Nat → Int32) (f_37 : Nat → Int32) (f_38 : Nat → Int32) (f_39 : Nat → Int32) (f_40 : Nat → Int32) (f_41 : Nat → Int32) (f_42 : Nat → Int32) (f_43 : Nat → Int32) (hI : IM u) (b7_4 : 0 ≤ x ∧ x < (u.1 1232 : Int32)) (b15_8 : 0 ≤ y ∧ y < (u.1 1239 : Int32)) (hs_9 : 0 ≤ u.1 1230 ∧ u.1 1230 ≤ 9999) (b27_13 : 0 ≤ z ∧ z ≤ ((u.1 1230 : Int32))) (b39_17 : 0 ≤ a ∧ a ≤ 1439) (b51_21 : 1 ≤ b ∧ b ≤ 300) (b63_25 : 0 ≤ c ∧ c ≤ 4095) (b75_29 : (-1) ≤ e ∧ e ≤ 1439) (hs_30 : 0 ≤ u.1 1247 ∧ u.1 1247 ≤ 120) (c99_31 : ¬ (u.1 1247 : Int32) = 120) (hw_33 : r_34.toInt = (g_ct ((u.2.1 1249)) ((u.2.1 1250)) y z ((u.1 1247 : Int32)).toNatClampNeg : Int)) (c110_35 : ¬ (r_34 : Int32) = 12) (hf_36 : f_36 = upd (u.2.1 1248) (u.1 1247 : Int32).toNatClampNeg x) (hf_37 : f_37 = upd (u.2.1 1249) (u.1 1247 : Int32).toNatClampNeg y) (hf_38 : f_38 = upd (u.2.1 1250) (u.1 1247 : Int32).toNatClampNeg z) (hf_39 : f_39 = upd (u.2.1 1251) (u.1 1247 : Int32).toNatClampNeg a) (hf_40 : f_40 = upd (u.2.1 1252) (u.1 1247 : Int32).toNatClampNeg b) (hf_41 : f_41 = upd (u.2.1 1253) (u.1 1247 : Int32).toNatClampNeg c) (hf_42 : f_42 = upd (u.2.1 1254) (u.1 1247 : Int32).toNatClampNeg e) (hf_43 : f_43 = upd (u.2.1 1255) (u.1 1247 : Int32).toNatClampNeg (u.1 1230)) : g_ct (u.2.1 1249) (u.2.1 1250) y z (u.1 1247).toNatClampNeg < 12 := by
  have hz1239 := hI.1.s1239
  have hz1232 := hI.1.s1232
  have q := hI.2.1.2.2 y z
  (try simp only [g_m1, Int32.lt_iff_toInt_lt, Int32.le_iff_toInt_le, ← Int32.toInt_inj, Int32.toInt_add, Int32.toInt_sub, Int32.toInt_mul, Int32.toInt_neg, Int32.reduceToInt, g_bm, g_bm'] at *); omega
set_option maxHeartbeats 1000000 in
set_option maxRecDepth 100000 in
theorem g_X12_visit (l : Launch) (E : qE) (A : Nat → Prop) (u : qS) (x : Int32) (y : Int32) (z : Int32) (a : Int32) (b : Int32) (c : Int32) (e : Int32) (hI : IM u) : Met l yX12_visit (uws yX12_visit cX12_visit 9 (some .int)) (qR 1 0 0) (qPc E A 1 u [.ref (E.2.2 1299), .int x, .int y, .int z, .int a, .int b, .int c, .int e]) (qQi E A 1 (fun r u1 => qFr [1200, 1247] [1248, 1249, 1250, 1251, 1252, 1253, 1254, 1255] [] u u1 ∧ IM u1 ∧ (True))) 0 0 A := by
  refine q_met (own := RX12) (f := 1) [.ref (E.2.2 1299), .int x, .int y, .int z, .int a, .int b, .int c, .int e] (by decide) (Nat.le_of_ble_eq_true rfl) rfl ?_
  intro p0 e0 s0 m0 bl0 me0 cd0 ls hF hr hlocks hU hS hA hl
  have hl : lv_has ls 9 [(0, .ref (E.2.2 1299)), (1, .int x), (2, .int y), (3, .int z), (4, .int a), (5, .int b), (6, .int c), (7, .int e)] := hl
  have hfr : qFr [1200, 1247] [1248, 1249, 1250, 1251, 1252, 1253, 1254, 1255] [] u u := qFr.rf
  refine lv_aload_n hF.1 hF.2.1 dX12_visit_0 rfl (lv_at hl 0 rfl) ?_
  refine lv_iconst (v := 0) hF.1 hF.2.1 dX12_visit_1 (by decide) ?_
  refine q_put hF hU hS dX12_visit_2 0 12 0 1200 1299 rfl rfl rfl rfl inX12 tyX12 tyX12_ok nmX12 (by decide) (by decide) rfl w_1329 rfl rfl rfl rfl (fun H locs hU hS => ?_)
  have hfr : qFr [1200, 1247] [1248, 1249, 1250, 1251, 1252, 1253, 1254, 1255] [] u (qsI u 1200 0) := hfr.setI (by decide)
  refine lv_aload_n hF.1 hF.2.1 dX12_visit_5 rfl (lv_at hl 0 rfl) ?_
  refine lv_iload_n hF.1 hF.2.1 dX12_visit_6 rfl (lv_at hl 1 rfl) ?_
  have hM9 := g_X12_isShop l E A (qsI u 1200 0) x
  have hR9 := q_runV (l := l) (e := e0) (below := bl0) (meth := me0) (R := qR 1 0 0) (cells := 0) (slots := 0) (st0 := [.int x, .ref (E.2.2 1299)]) (rest := []) hF hU hS hA 1 0 12 1299 rfl rfl rfl hM9 w_1710 w_1712 w_68 w_107 w_1713 (by decide +kernel) ⟨Nat.le_of_ble_eq_true rfl, Nat.le_of_ble_eq_true rfl⟩ dX12_visit_7 rfl hl.1 rfl (Nat.le_of_ble_eq_true rfl) ⟨Nat.le_of_ble_eq_true rfl, Nat.le_of_ble_eq_true rfl⟩
  refine q_calli hR9 hU.2.2.2 hS (fun r_3 u_1 H locs hw_2 hU hS => ?_)
  obtain ⟨hw_2_e, hw_2⟩ := hw_2
  rw [hw_2_e] at hU
  have hw_2 : (r_3 = 1 ∧ (0 ≤ x ∧ x < (u.1 1232 : Int32))) ∨ (r_3 = 0 ∧ ¬ (0 ≤ x ∧ x < (u.1 1232 : Int32))) := by rw [(hfr.1 1232 (by decide))] at hw_2; exact hw_2
  rcases hw_2 with ⟨rfl, b7_4⟩ | ⟨rfl, b7_4⟩
  · refine lv_if_eq (tgt := 85) hF.1 hF.2.1 dX12_visit_10 (by decide) (fun h9 => absurd h9 (by decide)) (fun _ => ?_)
    refine lv_aload_n hF.1 hF.2.1 dX12_visit_13 rfl (lv_at hl 0 rfl) ?_
    refine lv_iload_n hF.1 hF.2.1 dX12_visit_14 rfl (lv_at hl 2 rfl) ?_
    have hM9 := g_X12_isBuyer l E A (qsI u 1200 0) y
    have hR9 := q_runV (l := l) (e := e0) (below := bl0) (meth := me0) (R := qR 1 0 0) (cells := 0) (slots := 0) (st0 := [.int y, .ref (E.2.2 1299)]) (rest := []) hF hU hS hA 1 0 12 1299 rfl rfl rfl hM9 w_1714 w_1716 w_69 w_107 w_1717 (by decide +kernel) ⟨Nat.le_of_ble_eq_true rfl, Nat.le_of_ble_eq_true rfl⟩ dX12_visit_15 rfl hl.1 rfl (Nat.le_of_ble_eq_true rfl) ⟨Nat.le_of_ble_eq_true rfl, Nat.le_of_ble_eq_true rfl⟩
    refine q_calli hR9 hU.2.2.2 hS (fun r_7 u_5 H locs hw_6 hU hS => ?_)
    obtain ⟨hw_6_e, hw_6⟩ := hw_6
    rw [hw_6_e] at hU
    have hw_6 : (r_7 = 1 ∧ (0 ≤ y ∧ y < (u.1 1239 : Int32))) ∨ (r_7 = 0 ∧ ¬ (0 ≤ y ∧ y < (u.1 1239 : Int32))) := by rw [(hfr.1 1239 (by decide))] at hw_6; exact hw_6
    rcases hw_6 with ⟨rfl, b15_8⟩ | ⟨rfl, b15_8⟩
    · refine lv_if_eq (tgt := 85) hF.1 hF.2.1 dX12_visit_18 (by decide) (fun h9 => absurd h9 (by decide)) (fun _ => ?_)
      refine lv_iload_n hF.1 hF.2.1 dX12_visit_21 rfl (lv_at hl 3 rfl) ?_
      refine lv_iconst (v := 0) hF.1 hF.2.1 dX12_visit_22 (by decide) ?_
      refine lv_aload_n hF.1 hF.2.1 dX12_visit_23 rfl (lv_at hl 0 rfl) ?_
      refine q_get (v := .int (u.1 1230)) hF hU dX12_visit_24 0 12 30 1230 1299 rfl rfl rfl rfl inX12 (by decide) (by decide) w_1359 rfl (congrArg Value.int (hfr.1 1230 (by decide))) ?_
      have hs_9 : 0 ≤ u.1 1230 ∧ u.1 1230 ≤ 9999 := hI.1.s1230
      have hM9 := g_X12_within l E A (qsI u 1200 0) z 0 (u.1 1230)
      have hR9 := q_runS (l := l) (e := e0) (below := bl0) (meth := me0) (R := qR 1 0 0) (cells := 0) (slots := 0) (st0 := [.int (u.1 1230), .int 0, .int z]) (rest := []) hF hU hS hA 3 hM9 w_1680 w_1681 w_107 w_1682 (by decide +kernel) ⟨Nat.le_of_ble_eq_true rfl, Nat.le_of_ble_eq_true rfl⟩ dX12_visit_27 rfl hl.1 rfl (Nat.le_of_ble_eq_true rfl) ⟨Nat.le_of_ble_eq_true rfl, Nat.le_of_ble_eq_true rfl⟩
      refine q_calli hR9 hU.2.2.2 hS (fun r_12 u_10 H locs hw_11 hU hS => ?_)
      obtain ⟨hw_11_e, hw_11⟩ := hw_11
      rw [hw_11_e] at hU
      have hw_11 : (r_12 = 1 ∧ (0 ≤ z ∧ z ≤ ((u.1 1230 : Int32)))) ∨ (r_12 = 0 ∧ ¬ (0 ≤ z ∧ z ≤ ((u.1 1230 : Int32)))) := hw_11
      rcases hw_11 with ⟨rfl, b27_13⟩ | ⟨rfl, b27_13⟩
      · refine lv_if_eq (tgt := 85) hF.1 hF.2.1 dX12_visit_30 (by decide) (fun h9 => absurd h9 (by decide)) (fun _ => ?_)
        refine lv_iload hF.1 hF.2.1 dX12_visit_33 (lv_at hl 4 rfl) ?_
        refine lv_iconst (v := 0) hF.1 hF.2.1 dX12_visit_35 (by decide) ?_
        refine lv_sipush (v := 1439) hF.1 hF.2.1 dX12_visit_36 (by decide) ?_
        have hM9 := g_X12_within l E A (qsI u 1200 0) a 0 1439
        have hR9 := q_runS (l := l) (e := e0) (below := bl0) (meth := me0) (R := qR 1 0 0) (cells := 0) (slots := 0) (st0 := [.int 1439, .int 0, .int a]) (rest := []) hF hU hS hA 3 hM9 w_1680 w_1681 w_107 w_1682 (by decide +kernel) ⟨Nat.le_of_ble_eq_true rfl, Nat.le_of_ble_eq_true rfl⟩ dX12_visit_39 rfl hl.1 rfl (Nat.le_of_ble_eq_true rfl) ⟨Nat.le_of_ble_eq_true rfl, Nat.le_of_ble_eq_true rfl⟩
        refine q_calli hR9 hU.2.2.2 hS (fun r_16 u_14 H locs hw_15 hU hS => ?_)
        obtain ⟨hw_15_e, hw_15⟩ := hw_15
        rw [hw_15_e] at hU
        have hw_15 : (r_16 = 1 ∧ (0 ≤ a ∧ a ≤ 1439)) ∨ (r_16 = 0 ∧ ¬ (0 ≤ a ∧ a ≤ 1439)) := hw_15
        rcases hw_15 with ⟨rfl, b39_17⟩ | ⟨rfl, b39_17⟩
        · refine lv_if_eq (tgt := 85) hF.1 hF.2.1 dX12_visit_42 (by decide) (fun h9 => absurd h9 (by decide)) (fun _ => ?_)
          refine lv_iload hF.1 hF.2.1 dX12_visit_45 (lv_at hl 5 rfl) ?_
          refine lv_iconst (v := 1) hF.1 hF.2.1 dX12_visit_47 (by decide) ?_
          refine lv_sipush (v := 300) hF.1 hF.2.1 dX12_visit_48 (by decide) ?_
          have hM9 := g_X12_within l E A (qsI u 1200 0) b 1 300
          have hR9 := q_runS (l := l) (e := e0) (below := bl0) (meth := me0) (R := qR 1 0 0) (cells := 0) (slots := 0) (st0 := [.int 300, .int 1, .int b]) (rest := []) hF hU hS hA 3 hM9 w_1680 w_1681 w_107 w_1682 (by decide +kernel) ⟨Nat.le_of_ble_eq_true rfl, Nat.le_of_ble_eq_true rfl⟩ dX12_visit_51 rfl hl.1 rfl (Nat.le_of_ble_eq_true rfl) ⟨Nat.le_of_ble_eq_true rfl, Nat.le_of_ble_eq_true rfl⟩
          refine q_calli hR9 hU.2.2.2 hS (fun r_20 u_18 H locs hw_19 hU hS => ?_)
          obtain ⟨hw_19_e, hw_19⟩ := hw_19
          rw [hw_19_e] at hU
          have hw_19 : (r_20 = 1 ∧ (1 ≤ b ∧ b ≤ 300)) ∨ (r_20 = 0 ∧ ¬ (1 ≤ b ∧ b ≤ 300)) := hw_19
          rcases hw_19 with ⟨rfl, b51_21⟩ | ⟨rfl, b51_21⟩
          · refine lv_if_eq (tgt := 85) hF.1 hF.2.1 dX12_visit_54 (by decide) (fun h9 => absurd h9 (by decide)) (fun _ => ?_)
            refine lv_iload hF.1 hF.2.1 dX12_visit_57 (lv_at hl 6 rfl) ?_
            refine lv_iconst (v := 0) hF.1 hF.2.1 dX12_visit_59 (by decide) ?_
            refine lv_sipush (v := 4095) hF.1 hF.2.1 dX12_visit_60 (by decide) ?_
            have hM9 := g_X12_within l E A (qsI u 1200 0) c 0 4095
            have hR9 := q_runS (l := l) (e := e0) (below := bl0) (meth := me0) (R := qR 1 0 0) (cells := 0) (slots := 0) (st0 := [.int 4095, .int 0, .int c]) (rest := []) hF hU hS hA 3 hM9 w_1680 w_1681 w_107 w_1682 (by decide +kernel) ⟨Nat.le_of_ble_eq_true rfl, Nat.le_of_ble_eq_true rfl⟩ dX12_visit_63 rfl hl.1 rfl (Nat.le_of_ble_eq_true rfl) ⟨Nat.le_of_ble_eq_true rfl, Nat.le_of_ble_eq_true rfl⟩
            refine q_calli hR9 hU.2.2.2 hS (fun r_24 u_22 H locs hw_23 hU hS => ?_)
            obtain ⟨hw_23_e, hw_23⟩ := hw_23
            rw [hw_23_e] at hU
            have hw_23 : (r_24 = 1 ∧ (0 ≤ c ∧ c ≤ 4095)) ∨ (r_24 = 0 ∧ ¬ (0 ≤ c ∧ c ≤ 4095)) := hw_23
            rcases hw_23 with ⟨rfl, b63_25⟩ | ⟨rfl, b63_25⟩
            · refine lv_if_eq (tgt := 85) hF.1 hF.2.1 dX12_visit_66 (by decide) (fun h9 => absurd h9 (by decide)) (fun _ => ?_)
              refine lv_iload hF.1 hF.2.1 dX12_visit_69 (lv_at hl 7 rfl) ?_
              refine lv_iconst (v := (-1)) hF.1 hF.2.1 dX12_visit_71 (by decide) ?_
              refine lv_sipush (v := 1439) hF.1 hF.2.1 dX12_visit_72 (by decide) ?_
              have hM9 := g_X12_within l E A (qsI u 1200 0) e (-1) 1439
              have hR9 := q_runS (l := l) (e := e0) (below := bl0) (meth := me0) (R := qR 1 0 0) (cells := 0) (slots := 0) (st0 := [.int 1439, .int (-1), .int e]) (rest := []) hF hU hS hA 3 hM9 w_1680 w_1681 w_107 w_1682 (by decide +kernel) ⟨Nat.le_of_ble_eq_true rfl, Nat.le_of_ble_eq_true rfl⟩ dX12_visit_75 rfl hl.1 rfl (Nat.le_of_ble_eq_true rfl) ⟨Nat.le_of_ble_eq_true rfl, Nat.le_of_ble_eq_true rfl⟩
              refine q_calli hR9 hU.2.2.2 hS (fun r_28 u_26 H locs hw_27 hU hS => ?_)
              obtain ⟨hw_27_e, hw_27⟩ := hw_27
              rw [hw_27_e] at hU
              have hw_27 : (r_28 = 1 ∧ ((-1) ≤ e ∧ e ≤ 1439)) ∨ (r_28 = 0 ∧ ¬ ((-1) ≤ e ∧ e ≤ 1439)) := hw_27
              rcases hw_27 with ⟨rfl, b75_29⟩ | ⟨rfl, b75_29⟩
              · refine lv_if_eq (tgt := 85) hF.1 hF.2.1 dX12_visit_78 (by decide) (fun h9 => absurd h9 (by decide)) (fun _ => ?_)
                refine lv_iconst (v := 1) hF.1 hF.2.1 dX12_visit_81 (by decide) ?_
                refine lv_goto (tgt := 86) hF.1 hF.2.1 dX12_visit_82 (by decide) ?_
                refine lv_istore (lv' := [(8, .int 1), (0, .ref (E.2.2 1299)), (1, .int x), (2, .int y), (3, .int z), (4, .int a), (5, .int b), (6, .int c), (7, .int e)]) hF.1 hF.2.1 dX12_visit_86 hl (by decide) rfl (fun ls hl => ?_)
                refine lv_iload hF.1 hF.2.1 dX12_visit_88 (lv_at hl 0 rfl) ?_
                refine lv_if_eq (tgt := 113) hF.1 hF.2.1 dX12_visit_90 (by decide) (fun h9 => absurd h9 (by decide)) (fun _ => ?_)
                refine lv_aload_n hF.1 hF.2.1 dX12_visit_93 rfl (lv_at hl 1 rfl) ?_
                refine q_get (v := .int (u.1 1247)) hF hU dX12_visit_94 0 12 47 1247 1299 rfl rfl rfl rfl inX12 (by decide) (by decide) w_1376 rfl rfl ?_
                have hs_30 : 0 ≤ u.1 1247 ∧ u.1 1247 ≤ 120 := hI.1.s1247
                refine lv_bipush (v := 120) hF.1 hF.2.1 dX12_visit_97 (by decide) ?_
                refine lv_icmp_eq (tgt := 113) hF.1 hF.2.1 dX12_visit_99 (by decide) (fun c99_31 => ?_) (fun c99_31 => ?_)
                · refine lv_iconst (v := (-1)) hF.1 hF.2.1 dX12_visit_113 (by decide) ?_
                  exact q_iret hF hr rfl hlocks hU hS dX12_visit_114 ⟨hfr, hI.thr 0, trivial⟩
                · refine lv_aload_n hF.1 hF.2.1 dX12_visit_102 rfl (lv_at hl 1 rfl) ?_
                  refine lv_iload_n hF.1 hF.2.1 dX12_visit_103 rfl (lv_at hl 3 rfl) ?_
                  refine lv_iload_n hF.1 hF.2.1 dX12_visit_104 rfl (lv_at hl 4 rfl) ?_
                  have hM9 := g_X12_visitsOf l E A (qsI u 1200 0) y z (hI.thr 0)
                  have hR9 := q_runV (l := l) (e := e0) (below := bl0) (meth := me0) (R := qR 1 0 0) (cells := 0) (slots := 0) (st0 := [.int z, .int y, .ref (E.2.2 1299)]) (rest := []) hF hU hS hA 2 0 12 1299 rfl rfl rfl hM9 w_1718 w_1720 w_70 w_107 w_1721 (by decide +kernel) ⟨Nat.le_of_ble_eq_true rfl, Nat.le_of_ble_eq_true rfl⟩ dX12_visit_105 rfl hl.1 rfl (Nat.le_of_ble_eq_true rfl) ⟨Nat.le_of_ble_eq_true rfl, Nat.le_of_ble_eq_true rfl⟩
                  refine q_calli hR9 hU.2.2.2 hS (fun r_34 u_32 H locs hw_33 hU hS => ?_)
                  obtain ⟨hw_33_e, hw_33⟩ := hw_33
                  rw [hw_33_e] at hU
                  have hw_33 : r_34.toInt = (g_ct ((u.2.1 1249)) ((u.2.1 1250)) y z ((u.1 1247 : Int32)).toNatClampNeg : Int) := hw_33
                  refine lv_bipush (v := 12) hF.1 hF.2.1 dX12_visit_108 (by decide) ?_
                  refine lv_icmp_ne (tgt := 115) hF.1 hF.2.1 dX12_visit_110 (by decide) (fun c110_35 => ?_) (fun c110_35 => ?_)
                  · refine lv_aload_n hF.1 hF.2.1 dX12_visit_115 rfl (lv_at hl 1 rfl) ?_
                    refine q_get (v := .ref (E.2.2 1248)) hF hU dX12_visit_116 0 12 48 1248 1299 rfl rfl rfl rfl inX12 (by decide) (by decide) w_1377 rfl rfl ?_
                    refine lv_aload_n hF.1 hF.2.1 dX12_visit_119 rfl (lv_at hl 1 rfl) ?_
                    refine q_get (v := .int (u.1 1247)) hF hU dX12_visit_120 0 12 47 1247 1299 rfl rfl rfl rfl inX12 (by decide) (by decide) w_1376 rfl rfl ?_
                    refine lv_iload_n hF.1 hF.2.1 dX12_visit_123 rfl (lv_at hl 2 rfl) ?_
                    refine q_iast hF hU hS dX12_visit_124 27 1248 rfl rfl (g_X12_visit_v0 u x y z a b c e r_34 hI b7_4 b15_8 hs_9 b27_13 b39_17 b51_21 b63_25 b75_29 hs_30 c99_31 hw_33 c110_35) (fun f_36 H locs hg9 hU hS => ?_)
                    have hf_36 : f_36 = upd (u.2.1 1248) (u.1 1247 : Int32).toNatClampNeg x := hg9
                    have hfr : qFr [1200, 1247] [1248, 1249, 1250, 1251, 1252, 1253, 1254, 1255] [] u (qsF (qsI u 1200 0) 1248 f_36) := hfr.setF (by decide)
                    refine lv_aload_n hF.1 hF.2.1 dX12_visit_125 rfl (lv_at hl 1 rfl) ?_
                    refine q_get (v := .ref (E.2.2 1249)) hF hU dX12_visit_126 0 12 49 1249 1299 rfl rfl rfl rfl inX12 (by decide) (by decide) w_1378 rfl rfl ?_
                    refine lv_aload_n hF.1 hF.2.1 dX12_visit_129 rfl (lv_at hl 1 rfl) ?_
                    refine q_get (v := .int (u.1 1247)) hF hU dX12_visit_130 0 12 47 1247 1299 rfl rfl rfl rfl inX12 (by decide) (by decide) w_1376 rfl rfl ?_
                    refine lv_iload_n hF.1 hF.2.1 dX12_visit_133 rfl (lv_at hl 3 rfl) ?_
                    refine q_iast hF hU hS dX12_visit_134 28 1249 rfl rfl (g_X12_visit_v1 u x y z a b c e r_34 f_36 hI b7_4 b15_8 hs_9 b27_13 b39_17 b51_21 b63_25 b75_29 hs_30 c99_31 hw_33 c110_35 hf_36) (fun f_37 H locs hg9 hU hS => ?_)
                    have hf_37 : f_37 = upd (u.2.1 1249) (u.1 1247 : Int32).toNatClampNeg y := hg9
                    have hfr : qFr [1200, 1247] [1248, 1249, 1250, 1251, 1252, 1253, 1254, 1255] [] u (qsF (qsF (qsI u 1200 0) 1248 f_36) 1249 f_37) := hfr.setF (by decide)
                    refine lv_aload_n hF.1 hF.2.1 dX12_visit_135 rfl (lv_at hl 1 rfl) ?_
                    refine q_get (v := .ref (E.2.2 1250)) hF hU dX12_visit_136 0 12 50 1250 1299 rfl rfl rfl rfl inX12 (by decide) (by decide) w_1379 rfl rfl ?_
                    refine lv_aload_n hF.1 hF.2.1 dX12_visit_139 rfl (lv_at hl 1 rfl) ?_
                    refine q_get (v := .int (u.1 1247)) hF hU dX12_visit_140 0 12 47 1247 1299 rfl rfl rfl rfl inX12 (by decide) (by decide) w_1376 rfl rfl ?_
                    refine lv_iload_n hF.1 hF.2.1 dX12_visit_143 rfl (lv_at hl 4 rfl) ?_
                    refine q_iast hF hU hS dX12_visit_144 29 1250 rfl rfl (g_X12_visit_v2 u x y z a b c e r_34 f_36 f_37 hI b7_4 b15_8 hs_9 b27_13 b39_17 b51_21 b63_25 b75_29 hs_30 c99_31 hw_33 c110_35 hf_36 hf_37) (fun f_38 H locs hg9 hU hS => ?_)
                    have hf_38 : f_38 = upd (u.2.1 1250) (u.1 1247 : Int32).toNatClampNeg z := hg9
                    have hfr : qFr [1200, 1247] [1248, 1249, 1250, 1251, 1252, 1253, 1254, 1255] [] u (qsF (qsF (qsF (qsI u 1200 0) 1248 f_36) 1249 f_37) 1250 f_38) := hfr.setF (by decide)
                    refine lv_aload_n hF.1 hF.2.1 dX12_visit_145 rfl (lv_at hl 1 rfl) ?_
                    refine q_get (v := .ref (E.2.2 1251)) hF hU dX12_visit_146 0 12 51 1251 1299 rfl rfl rfl rfl inX12 (by decide) (by decide) w_1380 rfl rfl ?_
                    refine lv_aload_n hF.1 hF.2.1 dX12_visit_149 rfl (lv_at hl 1 rfl) ?_
                    refine q_get (v := .int (u.1 1247)) hF hU dX12_visit_150 0 12 47 1247 1299 rfl rfl rfl rfl inX12 (by decide) (by decide) w_1376 rfl rfl ?_
                    refine lv_iload hF.1 hF.2.1 dX12_visit_153 (lv_at hl 5 rfl) ?_
                    refine q_iast hF hU hS dX12_visit_155 30 1251 rfl rfl (g_X12_visit_v3 u x y z a b c e r_34 f_36 f_37 f_38 hI b7_4 b15_8 hs_9 b27_13 b39_17 b51_21 b63_25 b75_29 hs_30 c99_31 hw_33 c110_35 hf_36 hf_37 hf_38) (fun f_39 H locs hg9 hU hS => ?_)
                    have hf_39 : f_39 = upd (u.2.1 1251) (u.1 1247 : Int32).toNatClampNeg a := hg9
                    have hfr : qFr [1200, 1247] [1248, 1249, 1250, 1251, 1252, 1253, 1254, 1255] [] u (qsF (qsF (qsF (qsF (qsI u 1200 0) 1248 f_36) 1249 f_37) 1250 f_38) 1251 f_39) := hfr.setF (by decide)
                    refine lv_aload_n hF.1 hF.2.1 dX12_visit_156 rfl (lv_at hl 1 rfl) ?_
                    refine q_get (v := .ref (E.2.2 1252)) hF hU dX12_visit_157 0 12 52 1252 1299 rfl rfl rfl rfl inX12 (by decide) (by decide) w_1381 rfl rfl ?_
                    refine lv_aload_n hF.1 hF.2.1 dX12_visit_160 rfl (lv_at hl 1 rfl) ?_
                    refine q_get (v := .int (u.1 1247)) hF hU dX12_visit_161 0 12 47 1247 1299 rfl rfl rfl rfl inX12 (by decide) (by decide) w_1376 rfl rfl ?_
                    refine lv_iload hF.1 hF.2.1 dX12_visit_164 (lv_at hl 6 rfl) ?_
                    refine q_iast hF hU hS dX12_visit_166 31 1252 rfl rfl (g_X12_visit_v4 u x y z a b c e r_34 f_36 f_37 f_38 f_39 hI b7_4 b15_8 hs_9 b27_13 b39_17 b51_21 b63_25 b75_29 hs_30 c99_31 hw_33 c110_35 hf_36 hf_37 hf_38 hf_39) (fun f_40 H locs hg9 hU hS => ?_)
                    have hf_40 : f_40 = upd (u.2.1 1252) (u.1 1247 : Int32).toNatClampNeg b := hg9
                    have hfr : qFr [1200, 1247] [1248, 1249, 1250, 1251, 1252, 1253, 1254, 1255] [] u (qsF (qsF (qsF (qsF (qsF (qsI u 1200 0) 1248 f_36) 1249 f_37) 1250 f_38) 1251 f_39) 1252 f_40) := hfr.setF (by decide)
                    refine lv_aload_n hF.1 hF.2.1 dX12_visit_167 rfl (lv_at hl 1 rfl) ?_
                    refine q_get (v := .ref (E.2.2 1253)) hF hU dX12_visit_168 0 12 53 1253 1299 rfl rfl rfl rfl inX12 (by decide) (by decide) w_1382 rfl rfl ?_
                    refine lv_aload_n hF.1 hF.2.1 dX12_visit_171 rfl (lv_at hl 1 rfl) ?_
                    refine q_get (v := .int (u.1 1247)) hF hU dX12_visit_172 0 12 47 1247 1299 rfl rfl rfl rfl inX12 (by decide) (by decide) w_1376 rfl rfl ?_
                    refine lv_iload hF.1 hF.2.1 dX12_visit_175 (lv_at hl 7 rfl) ?_
                    refine q_iast hF hU hS dX12_visit_177 32 1253 rfl rfl (g_X12_visit_v5 u x y z a b c e r_34 f_36 f_37 f_38 f_39 f_40 hI b7_4 b15_8 hs_9 b27_13 b39_17 b51_21 b63_25 b75_29 hs_30 c99_31 hw_33 c110_35 hf_36 hf_37 hf_38 hf_39 hf_40) (fun f_41 H locs hg9 hU hS => ?_)
                    have hf_41 : f_41 = upd (u.2.1 1253) (u.1 1247 : Int32).toNatClampNeg c := hg9
                    have hfr : qFr [1200, 1247] [1248, 1249, 1250, 1251, 1252, 1253, 1254, 1255] [] u (qsF (qsF (qsF (qsF (qsF (qsF (qsI u 1200 0) 1248 f_36) 1249 f_37) 1250 f_38) 1251 f_39) 1252 f_40) 1253 f_41) := hfr.setF (by decide)
                    refine lv_aload_n hF.1 hF.2.1 dX12_visit_178 rfl (lv_at hl 1 rfl) ?_
                    refine q_get (v := .ref (E.2.2 1254)) hF hU dX12_visit_179 0 12 54 1254 1299 rfl rfl rfl rfl inX12 (by decide) (by decide) w_1383 rfl rfl ?_
                    refine lv_aload_n hF.1 hF.2.1 dX12_visit_182 rfl (lv_at hl 1 rfl) ?_
                    refine q_get (v := .int (u.1 1247)) hF hU dX12_visit_183 0 12 47 1247 1299 rfl rfl rfl rfl inX12 (by decide) (by decide) w_1376 rfl rfl ?_
                    refine lv_iload hF.1 hF.2.1 dX12_visit_186 (lv_at hl 8 rfl) ?_
                    refine q_iast hF hU hS dX12_visit_188 33 1254 rfl rfl (g_X12_visit_v6 u x y z a b c e r_34 f_36 f_37 f_38 f_39 f_40 f_41 hI b7_4 b15_8 hs_9 b27_13 b39_17 b51_21 b63_25 b75_29 hs_30 c99_31 hw_33 c110_35 hf_36 hf_37 hf_38 hf_39 hf_40 hf_41) (fun f_42 H locs hg9 hU hS => ?_)
                    have hf_42 : f_42 = upd (u.2.1 1254) (u.1 1247 : Int32).toNatClampNeg e := hg9
                    have hfr : qFr [1200, 1247] [1248, 1249, 1250, 1251, 1252, 1253, 1254, 1255] [] u (qsF (qsF (qsF (qsF (qsF (qsF (qsF (qsI u 1200 0) 1248 f_36) 1249 f_37) 1250 f_38) 1251 f_39) 1252 f_40) 1253 f_41) 1254 f_42) := hfr.setF (by decide)
                    refine lv_aload_n hF.1 hF.2.1 dX12_visit_189 rfl (lv_at hl 1 rfl) ?_
                    refine q_get (v := .ref (E.2.2 1255)) hF hU dX12_visit_190 0 12 55 1255 1299 rfl rfl rfl rfl inX12 (by decide) (by decide) w_1384 rfl rfl ?_
                    refine lv_aload_n hF.1 hF.2.1 dX12_visit_193 rfl (lv_at hl 1 rfl) ?_
                    refine q_get (v := .int (u.1 1247)) hF hU dX12_visit_194 0 12 47 1247 1299 rfl rfl rfl rfl inX12 (by decide) (by decide) w_1376 rfl rfl ?_
                    refine lv_aload_n hF.1 hF.2.1 dX12_visit_197 rfl (lv_at hl 1 rfl) ?_
                    refine q_get (v := .int (u.1 1230)) hF hU dX12_visit_198 0 12 30 1230 1299 rfl rfl rfl rfl inX12 (by decide) (by decide) w_1359 rfl (congrArg Value.int (hfr.1 1230 (by decide))) ?_
                    refine q_iast hF hU hS dX12_visit_201 34 1255 rfl rfl (g_X12_visit_v7 u x y z a b c e r_34 f_36 f_37 f_38 f_39 f_40 f_41 f_42 hI b7_4 b15_8 hs_9 b27_13 b39_17 b51_21 b63_25 b75_29 hs_30 c99_31 hw_33 c110_35 hf_36 hf_37 hf_38 hf_39 hf_40 hf_41 hf_42) (fun f_43 H locs hg9 hU hS => ?_)
                    have hf_43 : f_43 = upd (u.2.1 1255) (u.1 1247 : Int32).toNatClampNeg (u.1 1230) := hg9
                    have hfr : qFr [1200, 1247] [1248, 1249, 1250, 1251, 1252, 1253, 1254, 1255] [] u (qsF (qsF (qsF (qsF (qsF (qsF (qsF (qsF (qsI u 1200 0) 1248 f_36) 1249 f_37) 1250 f_38) 1251 f_39) 1252 f_40) 1253 f_41) 1254 f_42) 1255 f_43) := hfr.setF (by decide)
                    refine lv_aload_n hF.1 hF.2.1 dX12_visit_202 rfl (lv_at hl 1 rfl) ?_
                    refine lv_dup hF.1 hF.2.1 dX12_visit_203 rfl ?_
                    refine q_get (v := .int (u.1 1247)) hF hU dX12_visit_204 0 12 47 1247 1299 rfl rfl rfl rfl inX12 (by decide) (by decide) w_1376 rfl rfl ?_
                    refine lv_iconst (v := 1) hF.1 hF.2.1 dX12_visit_207 (by decide) ?_
                    refine lv_iadd hF.1 hF.2.1 dX12_visit_208 ?_
                    refine q_put hF hU hS dX12_visit_209 0 12 47 1247 1299 rfl rfl rfl rfl inX12 tyX12 tyX12_ok nmX12 (by decide) (by decide) rfl w_1376 rfl rfl rfl rfl (fun H locs hU hS => ?_)
                    have hfr : qFr [1200, 1247] [1248, 1249, 1250, 1251, 1252, 1253, 1254, 1255] [] u (qsI (qsF (qsF (qsF (qsF (qsF (qsF (qsF (qsF (qsI u 1200 0) 1248 f_36) 1249 f_37) 1250 f_38) 1251 f_39) 1252 f_40) 1253 f_41) 1254 f_42) 1255 f_43) 1247 ((u.1 1247) + 1)) := hfr.setI (by decide)
                    refine lv_aload_n hF.1 hF.2.1 dX12_visit_212 rfl (lv_at hl 1 rfl) ?_
                    refine q_get (v := .int ((u.1 1247) + 1)) hF hU dX12_visit_213 0 12 47 1247 1299 rfl rfl rfl rfl inX12 (by decide) (by decide) w_1376 rfl rfl ?_
                    refine lv_iconst (v := 1) hF.1 hF.2.1 dX12_visit_216 (by decide) ?_
                    refine lv_isub hF.1 hF.2.1 dX12_visit_217 ?_
                    exact q_iret hF hr rfl hlocks hU hS dX12_visit_218 ⟨hfr, hI.visit hfr (g_X12_visit_v8 u x y z a b c e r_34 f_36 f_37 f_38 f_39 f_40 f_41 f_42 f_43 hI b7_4 b15_8 hs_9 b27_13 b39_17 b51_21 b63_25 b75_29 hs_30 c99_31 hw_33 c110_35 hf_36 hf_37 hf_38 hf_39 hf_40 hf_41 hf_42 hf_43) (hI.2.1.visit (g_X12_visit_v9 u x y z a b c e r_34 f_36 f_37 f_38 f_39 f_40 f_41 f_42 f_43 hI b7_4 b15_8 hs_9 b27_13 b39_17 b51_21 b63_25 b75_29 hs_30 c99_31 hw_33 c110_35 hf_36 hf_37 hf_38 hf_39 hf_40 hf_41 hf_42 hf_43) (g_X12_visit_v10 u x y z a b c e r_34 f_36 f_37 f_38 f_39 f_40 f_41 f_42 f_43 hI b7_4 b15_8 hs_9 b27_13 b39_17 b51_21 b63_25 b75_29 hs_30 c99_31 hw_33 c110_35 hf_36 hf_37 hf_38 hf_39 hf_40 hf_41 hf_42 hf_43) rfl rfl rfl rfl hf_36 hf_37 hf_38 rfl (g_X12_visit_v11 u x y z a b c e r_34 f_36 f_37 f_38 f_39 f_40 f_41 f_42 f_43 hI b7_4 b15_8 hs_9 b27_13 b39_17 b51_21 b63_25 b75_29 hs_30 c99_31 hw_33 c110_35 hf_36 hf_37 hf_38 hf_39 hf_40 hf_41 hf_42 hf_43) (g_X12_visit_v12 u x y z a b c e r_34 f_36 f_37 f_38 f_39 f_40 f_41 f_42 f_43 hI b7_4 b15_8 hs_9 b27_13 b39_17 b51_21 b63_25 b75_29 hs_30 c99_31 hw_33 c110_35 hf_36 hf_37 hf_38 hf_39 hf_40 hf_41 hf_42 hf_43) (g_X12_visit_v13 u x y z a b c e r_34 f_36 f_37 f_38 f_39 f_40 f_41 f_42 f_43 hI b7_4 b15_8 hs_9 b27_13 b39_17 b51_21 b63_25 b75_29 hs_30 c99_31 hw_33 c110_35 hf_36 hf_37 hf_38 hf_39 hf_40 hf_41 hf_42 hf_43)), trivial⟩
                  · refine lv_iconst (v := (-1)) hF.1 hF.2.1 dX12_visit_113 (by decide) ?_
                    exact q_iret hF hr rfl hlocks hU hS dX12_visit_114 ⟨hfr, hI.thr 0, trivial⟩
              · refine lv_if_eq (tgt := 85) hF.1 hF.2.1 dX12_visit_78 (by decide) (fun _ => ?_) (fun h9 => absurd (by decide) h9)
                refine lv_iconst (v := 0) hF.1 hF.2.1 dX12_visit_85 (by decide) ?_
                refine lv_istore (lv' := [(8, .int 0), (0, .ref (E.2.2 1299)), (1, .int x), (2, .int y), (3, .int z), (4, .int a), (5, .int b), (6, .int c), (7, .int e)]) hF.1 hF.2.1 dX12_visit_86 hl (by decide) rfl (fun ls hl => ?_)
                refine lv_iload hF.1 hF.2.1 dX12_visit_88 (lv_at hl 0 rfl) ?_
                refine lv_if_eq (tgt := 113) hF.1 hF.2.1 dX12_visit_90 (by decide) (fun _ => ?_) (fun h9 => absurd (by decide) h9)
                refine lv_iconst (v := (-1)) hF.1 hF.2.1 dX12_visit_113 (by decide) ?_
                exact q_iret hF hr rfl hlocks hU hS dX12_visit_114 ⟨hfr, hI.thr 0, trivial⟩
            · refine lv_if_eq (tgt := 85) hF.1 hF.2.1 dX12_visit_66 (by decide) (fun _ => ?_) (fun h9 => absurd (by decide) h9)
              refine lv_iconst (v := 0) hF.1 hF.2.1 dX12_visit_85 (by decide) ?_
              refine lv_istore (lv' := [(8, .int 0), (0, .ref (E.2.2 1299)), (1, .int x), (2, .int y), (3, .int z), (4, .int a), (5, .int b), (6, .int c), (7, .int e)]) hF.1 hF.2.1 dX12_visit_86 hl (by decide) rfl (fun ls hl => ?_)
              refine lv_iload hF.1 hF.2.1 dX12_visit_88 (lv_at hl 0 rfl) ?_
              refine lv_if_eq (tgt := 113) hF.1 hF.2.1 dX12_visit_90 (by decide) (fun _ => ?_) (fun h9 => absurd (by decide) h9)
              refine lv_iconst (v := (-1)) hF.1 hF.2.1 dX12_visit_113 (by decide) ?_
              exact q_iret hF hr rfl hlocks hU hS dX12_visit_114 ⟨hfr, hI.thr 0, trivial⟩
          · refine lv_if_eq (tgt := 85) hF.1 hF.2.1 dX12_visit_54 (by decide) (fun _ => ?_) (fun h9 => absurd (by decide) h9)
            refine lv_iconst (v := 0) hF.1 hF.2.1 dX12_visit_85 (by decide) ?_
            refine lv_istore (lv' := [(8, .int 0), (0, .ref (E.2.2 1299)), (1, .int x), (2, .int y), (3, .int z), (4, .int a), (5, .int b), (6, .int c), (7, .int e)]) hF.1 hF.2.1 dX12_visit_86 hl (by decide) rfl (fun ls hl => ?_)
            refine lv_iload hF.1 hF.2.1 dX12_visit_88 (lv_at hl 0 rfl) ?_
            refine lv_if_eq (tgt := 113) hF.1 hF.2.1 dX12_visit_90 (by decide) (fun _ => ?_) (fun h9 => absurd (by decide) h9)
            refine lv_iconst (v := (-1)) hF.1 hF.2.1 dX12_visit_113 (by decide) ?_
            exact q_iret hF hr rfl hlocks hU hS dX12_visit_114 ⟨hfr, hI.thr 0, trivial⟩
        · refine lv_if_eq (tgt := 85) hF.1 hF.2.1 dX12_visit_42 (by decide) (fun _ => ?_) (fun h9 => absurd (by decide) h9)
          refine lv_iconst (v := 0) hF.1 hF.2.1 dX12_visit_85 (by decide) ?_
          refine lv_istore (lv' := [(8, .int 0), (0, .ref (E.2.2 1299)), (1, .int x), (2, .int y), (3, .int z), (4, .int a), (5, .int b), (6, .int c), (7, .int e)]) hF.1 hF.2.1 dX12_visit_86 hl (by decide) rfl (fun ls hl => ?_)
          refine lv_iload hF.1 hF.2.1 dX12_visit_88 (lv_at hl 0 rfl) ?_
          refine lv_if_eq (tgt := 113) hF.1 hF.2.1 dX12_visit_90 (by decide) (fun _ => ?_) (fun h9 => absurd (by decide) h9)
          refine lv_iconst (v := (-1)) hF.1 hF.2.1 dX12_visit_113 (by decide) ?_
          exact q_iret hF hr rfl hlocks hU hS dX12_visit_114 ⟨hfr, hI.thr 0, trivial⟩
      · refine lv_if_eq (tgt := 85) hF.1 hF.2.1 dX12_visit_30 (by decide) (fun _ => ?_) (fun h9 => absurd (by decide) h9)
        refine lv_iconst (v := 0) hF.1 hF.2.1 dX12_visit_85 (by decide) ?_
        refine lv_istore (lv' := [(8, .int 0), (0, .ref (E.2.2 1299)), (1, .int x), (2, .int y), (3, .int z), (4, .int a), (5, .int b), (6, .int c), (7, .int e)]) hF.1 hF.2.1 dX12_visit_86 hl (by decide) rfl (fun ls hl => ?_)
        refine lv_iload hF.1 hF.2.1 dX12_visit_88 (lv_at hl 0 rfl) ?_
        refine lv_if_eq (tgt := 113) hF.1 hF.2.1 dX12_visit_90 (by decide) (fun _ => ?_) (fun h9 => absurd (by decide) h9)
        refine lv_iconst (v := (-1)) hF.1 hF.2.1 dX12_visit_113 (by decide) ?_
        exact q_iret hF hr rfl hlocks hU hS dX12_visit_114 ⟨hfr, hI.thr 0, trivial⟩
    · refine lv_if_eq (tgt := 85) hF.1 hF.2.1 dX12_visit_18 (by decide) (fun _ => ?_) (fun h9 => absurd (by decide) h9)
      refine lv_iconst (v := 0) hF.1 hF.2.1 dX12_visit_85 (by decide) ?_
      refine lv_istore (lv' := [(8, .int 0), (0, .ref (E.2.2 1299)), (1, .int x), (2, .int y), (3, .int z), (4, .int a), (5, .int b), (6, .int c), (7, .int e)]) hF.1 hF.2.1 dX12_visit_86 hl (by decide) rfl (fun ls hl => ?_)
      refine lv_iload hF.1 hF.2.1 dX12_visit_88 (lv_at hl 0 rfl) ?_
      refine lv_if_eq (tgt := 113) hF.1 hF.2.1 dX12_visit_90 (by decide) (fun _ => ?_) (fun h9 => absurd (by decide) h9)
      refine lv_iconst (v := (-1)) hF.1 hF.2.1 dX12_visit_113 (by decide) ?_
      exact q_iret hF hr rfl hlocks hU hS dX12_visit_114 ⟨hfr, hI.thr 0, trivial⟩
  · refine lv_if_eq (tgt := 85) hF.1 hF.2.1 dX12_visit_10 (by decide) (fun _ => ?_) (fun h9 => absurd (by decide) h9)
    refine lv_iconst (v := 0) hF.1 hF.2.1 dX12_visit_85 (by decide) ?_
    refine lv_istore (lv' := [(8, .int 0), (0, .ref (E.2.2 1299)), (1, .int x), (2, .int y), (3, .int z), (4, .int a), (5, .int b), (6, .int c), (7, .int e)]) hF.1 hF.2.1 dX12_visit_86 hl (by decide) rfl (fun ls hl => ?_)
    refine lv_iload hF.1 hF.2.1 dX12_visit_88 (lv_at hl 0 rfl) ?_
    refine lv_if_eq (tgt := 113) hF.1 hF.2.1 dX12_visit_90 (by decide) (fun _ => ?_) (fun h9 => absurd (by decide) h9)
    refine lv_iconst (v := (-1)) hF.1 hF.2.1 dX12_visit_113 (by decide) ?_
    exact q_iret hF hr rfl hlocks hU hS dX12_visit_114 ⟨hfr, hI.thr 0, trivial⟩
set_option maxRecDepth 100000 in
theorem g_X12_appeal_v0 (u : qS) (x : Int32) (y : Int32) (hI : IM u) (c6_1 : ¬ (x : Int32) < 0) (hs_2 : 0 ≤ u.1 1247 ∧ u.1 1247 ≤ 120) (c14_3 : ¬ (u.1 1247) ≤ (x : Int32)) (b21_7 : 0 ≤ y ∧ y ≤ 11) : vp_in (x) 120 := by
  refine g_in ?_ ?_ <;> ((try simp only [g_m1, Int32.lt_iff_toInt_lt, Int32.le_iff_toInt_le, ← Int32.toInt_inj, Int32.toInt_add, Int32.toInt_sub, Int32.toInt_mul, Int32.toInt_neg, Int32.reduceToInt, g_bm, g_bm'] at *); omega)
set_option maxRecDepth 100000 in
theorem g_X12_appeal_v1 (u : qS) (x : Int32) (y : Int32) (hI : IM u) (c6_1 : ¬ (x : Int32) < 0) (hs_2 : 0 ≤ u.1 1247 ∧ u.1 1247 ≤ 120) (c14_3 : ¬ (u.1 1247) ≤ (x : Int32)) (b21_7 : 0 ≤ y ∧ y ≤ 11) : 0 ≤ x ∧ x < u.1 1247 := by
  first | omega | ((try simp only [g_m1, Int32.lt_iff_toInt_lt, Int32.le_iff_toInt_le, ← Int32.toInt_inj, Int32.reduceToInt] at *); omega) | ((try simp only [g_m1, Int32.lt_iff_toInt_lt, Int32.le_iff_toInt_le, ← Int32.toInt_inj, Int32.reduceToInt] at *); omega) | ((try simp only [g_m1, Int32.lt_iff_toInt_lt, Int32.le_iff_toInt_le, ← Int32.toInt_inj, Int32.toInt_add, Int32.toInt_sub, Int32.toInt_mul, Int32.toInt_neg, Int32.reduceToInt, g_bm, g_bm'] at *); omega) | (have qr1 := g_rng x; have qr2 := g_rng y; (try simp only [g_m1, Int32.lt_iff_toInt_lt, Int32.le_iff_toInt_le, ← Int32.toInt_inj, Int32.toInt_add, Int32.toInt_sub, Int32.toInt_mul, Int32.toInt_neg, Int32.reduceToInt, g_bm, g_bm'] at *); omega) | (simp only [g_m1, Int32.lt_iff_toInt_lt, Int32.le_iff_toInt_le, ← Int32.toInt_inj, Int32.toInt_add, Int32.toInt_sub, Int32.toInt_mul, Int32.toInt_neg, Int32.reduceToInt, g_bm, g_bm'] at *; simp at *; omega) | (simp_all; done)
set_option maxRecDepth 100000 in
theorem g_X12_appeal_v2 (u : qS) (x : Int32) (y : Int32) (hI : IM u) (c6_1 : ¬ (x : Int32) < 0) (hs_2 : 0 ≤ u.1 1247 ∧ u.1 1247 ≤ 120) (c14_3 : ¬ (u.1 1247) ≤ (x : Int32)) (b21_7 : 0 ≤ y ∧ y ≤ 11) (hb_8 : 0 ≤ (u.2.1 1248 (x : Int32).toNatClampNeg) ∧ (u.2.1 1248 (x : Int32).toNatClampNeg) < u.1 1232) (hs_9 : 0 ≤ u.1 1232 ∧ u.1 1232 ≤ 20) : vp_in (u.2.1 1248 (x : Int32).toNatClampNeg) 20 := by
  refine g_in ?_ ?_ <;> ((try simp only [g_m1, Int32.lt_iff_toInt_lt, Int32.le_iff_toInt_le, ← Int32.toInt_inj, Int32.toInt_add, Int32.toInt_sub, Int32.toInt_mul, Int32.toInt_neg, Int32.reduceToInt, g_bm, g_bm'] at *); omega)
set_option maxRecDepth 100000 in
theorem g_X12_appeal_v3 (u : qS) (x : Int32) (y : Int32) (hI : IM u) (c6_1 : ¬ (x : Int32) < 0) (hs_2 : 0 ≤ u.1 1247 ∧ u.1 1247 ≤ 120) (c14_3 : ¬ (u.1 1247) ≤ (x : Int32)) (b21_7 : 0 ≤ y ∧ y ≤ 11) (hb_8 : 0 ≤ (u.2.1 1248 (x : Int32).toNatClampNeg) ∧ (u.2.1 1248 (x : Int32).toNatClampNeg) < u.1 1232) (hs_9 : 0 ≤ u.1 1232 ∧ u.1 1232 ≤ 20) (c38_10 : ¬ (u.2.1 1238 (u.2.1 1248 (x : Int32).toNatClampNeg : Int32).toNatClampNeg : Int32) = 0) (hs_11 : 0 ≤ u.1 1230 ∧ u.1 1230 ≤ 9999) : vp_in (x) 120 := by
  refine g_in ?_ ?_ <;> ((try simp only [g_m1, Int32.lt_iff_toInt_lt, Int32.le_iff_toInt_le, ← Int32.toInt_inj, Int32.toInt_add, Int32.toInt_sub, Int32.toInt_mul, Int32.toInt_neg, Int32.reduceToInt, g_bm, g_bm'] at *); omega)
set_option maxRecDepth 100000 in
theorem g_X12_appeal_v4 (u : qS) (x : Int32) (y : Int32) (hI : IM u) (c6_1 : ¬ (x : Int32) < 0) (hs_2 : 0 ≤ u.1 1247 ∧ u.1 1247 ≤ 120) (c14_3 : ¬ (u.1 1247) ≤ (x : Int32)) (b21_7 : 0 ≤ y ∧ y ≤ 11) (hb_8 : 0 ≤ (u.2.1 1248 (x : Int32).toNatClampNeg) ∧ (u.2.1 1248 (x : Int32).toNatClampNeg) < u.1 1232) (hs_9 : 0 ≤ u.1 1232 ∧ u.1 1232 ≤ 20) (c38_10 : ¬ (u.2.1 1238 (u.2.1 1248 (x : Int32).toNatClampNeg : Int32).toNatClampNeg : Int32) = 0) (hs_11 : 0 ≤ u.1 1230 ∧ u.1 1230 ≤ 9999) (c54_12 : ¬ ((u.2.1 1255 (x : Int32).toNatClampNeg) + 14) < (u.1 1230 : Int32)) (hs_13 : 0 ≤ u.1 1256 ∧ u.1 1256 ≤ 60) (c63_14 : ¬ (u.1 1256 : Int32) = 60) : vp_in (u.1 1256) 60 := by
  refine g_in ?_ ?_ <;> ((try simp only [g_m1, Int32.lt_iff_toInt_lt, Int32.le_iff_toInt_le, ← Int32.toInt_inj, Int32.toInt_add, Int32.toInt_sub, Int32.toInt_mul, Int32.toInt_neg, Int32.reduceToInt, g_bm, g_bm'] at *); omega)
set_option maxRecDepth 100000 in
theorem g_X12_appeal_v5 (u : qS) (x : Int32) (y : Int32) (f_15 : Nat → Int32) (hI : IM u) (c6_1 : ¬ (x : Int32) < 0) (hs_2 : 0 ≤ u.1 1247 ∧ u.1 1247 ≤ 120) (c14_3 : ¬ (u.1 1247) ≤ (x : Int32)) (b21_7 : 0 ≤ y ∧ y ≤ 11) (hb_8 : 0 ≤ (u.2.1 1248 (x : Int32).toNatClampNeg) ∧ (u.2.1 1248 (x : Int32).toNatClampNeg) < u.1 1232) (hs_9 : 0 ≤ u.1 1232 ∧ u.1 1232 ≤ 20) (c38_10 : ¬ (u.2.1 1238 (u.2.1 1248 (x : Int32).toNatClampNeg : Int32).toNatClampNeg : Int32) = 0) (hs_11 : 0 ≤ u.1 1230 ∧ u.1 1230 ≤ 9999) (c54_12 : ¬ ((u.2.1 1255 (x : Int32).toNatClampNeg) + 14) < (u.1 1230 : Int32)) (hs_13 : 0 ≤ u.1 1256 ∧ u.1 1256 ≤ 60) (c63_14 : ¬ (u.1 1256 : Int32) = 60) (hf_15 : f_15 = upd (u.2.1 1257) (u.1 1256 : Int32).toNatClampNeg x) : vp_in (u.1 1256) 60 := by
  refine g_in ?_ ?_ <;> ((try simp only [g_m1, Int32.lt_iff_toInt_lt, Int32.le_iff_toInt_le, ← Int32.toInt_inj, Int32.toInt_add, Int32.toInt_sub, Int32.toInt_mul, Int32.toInt_neg, Int32.reduceToInt, g_bm, g_bm'] at *); omega)
set_option maxRecDepth 100000 in
theorem g_X12_appeal_v6 (u : qS) (x : Int32) (y : Int32) (f_15 : Nat → Int32) (f_16 : Nat → Int32) (hI : IM u) (c6_1 : ¬ (x : Int32) < 0) (hs_2 : 0 ≤ u.1 1247 ∧ u.1 1247 ≤ 120) (c14_3 : ¬ (u.1 1247) ≤ (x : Int32)) (b21_7 : 0 ≤ y ∧ y ≤ 11) (hb_8 : 0 ≤ (u.2.1 1248 (x : Int32).toNatClampNeg) ∧ (u.2.1 1248 (x : Int32).toNatClampNeg) < u.1 1232) (hs_9 : 0 ≤ u.1 1232 ∧ u.1 1232 ≤ 20) (c38_10 : ¬ (u.2.1 1238 (u.2.1 1248 (x : Int32).toNatClampNeg : Int32).toNatClampNeg : Int32) = 0) (hs_11 : 0 ≤ u.1 1230 ∧ u.1 1230 ≤ 9999) (c54_12 : ¬ ((u.2.1 1255 (x : Int32).toNatClampNeg) + 14) < (u.1 1230 : Int32)) (hs_13 : 0 ≤ u.1 1256 ∧ u.1 1256 ≤ 60) (c63_14 : ¬ (u.1 1256 : Int32) = 60) (hf_15 : f_15 = upd (u.2.1 1257) (u.1 1256 : Int32).toNatClampNeg x) (hf_16 : f_16 = upd (u.2.1 1258) (u.1 1256 : Int32).toNatClampNeg y) : vp_in (u.1 1256) 60 := by
  refine g_in ?_ ?_ <;> ((try simp only [g_m1, Int32.lt_iff_toInt_lt, Int32.le_iff_toInt_le, ← Int32.toInt_inj, Int32.toInt_add, Int32.toInt_sub, Int32.toInt_mul, Int32.toInt_neg, Int32.reduceToInt, g_bm, g_bm'] at *); omega)
set_option maxRecDepth 100000 in
theorem g_X12_appeal_v7 (u : qS) (x : Int32) (y : Int32) (f_15 : Nat → Int32) (f_16 : Nat → Int32) (f_17 : Nat → Int32) (hI : IM u) (c6_1 : ¬ (x : Int32) < 0) (hs_2 : 0 ≤ u.1 1247 ∧ u.1 1247 ≤ 120) (c14_3 : ¬ (u.1 1247) ≤ (x : Int32)) (b21_7 : 0 ≤ y ∧ y ≤ 11) (hb_8 : 0 ≤ (u.2.1 1248 (x : Int32).toNatClampNeg) ∧ (u.2.1 1248 (x : Int32).toNatClampNeg) < u.1 1232) (hs_9 : 0 ≤ u.1 1232 ∧ u.1 1232 ≤ 20) (c38_10 : ¬ (u.2.1 1238 (u.2.1 1248 (x : Int32).toNatClampNeg : Int32).toNatClampNeg : Int32) = 0) (hs_11 : 0 ≤ u.1 1230 ∧ u.1 1230 ≤ 9999) (c54_12 : ¬ ((u.2.1 1255 (x : Int32).toNatClampNeg) + 14) < (u.1 1230 : Int32)) (hs_13 : 0 ≤ u.1 1256 ∧ u.1 1256 ≤ 60) (c63_14 : ¬ (u.1 1256 : Int32) = 60) (hf_15 : f_15 = upd (u.2.1 1257) (u.1 1256 : Int32).toNatClampNeg x) (hf_16 : f_16 = upd (u.2.1 1258) (u.1 1256 : Int32).toNatClampNeg y) (hf_17 : f_17 = upd (u.2.1 1259) (u.1 1256 : Int32).toNatClampNeg (u.1 1230)) : 0 ≤ ((u.1 1256) + 1 : Int32) ∧ ((u.1 1256) + 1 : Int32) ≤ 60 := by
  first | omega | ((try simp only [g_m1, Int32.lt_iff_toInt_lt, Int32.le_iff_toInt_le, ← Int32.toInt_inj, Int32.reduceToInt] at *); omega) | ((try have ez0 : ((u.2.1 1255 (x : Int32).toNatClampNeg) + 14 : Int32).toInt = (u.2.1 1255 (x : Int32).toNatClampNeg : Int32).toInt + (14 : Int32).toInt := g_add (by (try simp only [g_m1, Int32.lt_iff_toInt_lt, Int32.le_iff_toInt_le, ← Int32.toInt_inj, Int32.reduceToInt] at *); omega) (by (try simp only [g_m1, Int32.lt_iff_toInt_lt, Int32.le_iff_toInt_le, ← Int32.toInt_inj, Int32.reduceToInt] at *); omega)); (try have ez1 : ((u.1 1256) + 1 : Int32).toInt = (u.1 1256 : Int32).toInt + (1 : Int32).toInt := g_add (by (try simp only [g_m1, Int32.lt_iff_toInt_lt, Int32.le_iff_toInt_le, ← Int32.toInt_inj, Int32.reduceToInt] at *); omega) (by (try simp only [g_m1, Int32.lt_iff_toInt_lt, Int32.le_iff_toInt_le, ← Int32.toInt_inj, Int32.reduceToInt] at *); omega)); (try simp only [g_m1, Int32.lt_iff_toInt_lt, Int32.le_iff_toInt_le, ← Int32.toInt_inj, Int32.reduceToInt] at *); omega) | ((try simp only [g_m1, Int32.lt_iff_toInt_lt, Int32.le_iff_toInt_le, ← Int32.toInt_inj, Int32.toInt_add, Int32.toInt_sub, Int32.toInt_mul, Int32.toInt_neg, Int32.reduceToInt, g_bm, g_bm'] at *); omega) | (have qr1 := g_rng x; have qr2 := g_rng y; (try simp only [g_m1, Int32.lt_iff_toInt_lt, Int32.le_iff_toInt_le, ← Int32.toInt_inj, Int32.toInt_add, Int32.toInt_sub, Int32.toInt_mul, Int32.toInt_neg, Int32.reduceToInt, g_bm, g_bm'] at *); omega) | (simp only [g_m1, Int32.lt_iff_toInt_lt, Int32.le_iff_toInt_le, ← Int32.toInt_inj, Int32.toInt_add, Int32.toInt_sub, Int32.toInt_mul, Int32.toInt_neg, Int32.reduceToInt, g_bm, g_bm'] at *; simp at *; omega) | (simp_all; done)
set_option maxRecDepth 100000 in
theorem g_X12_appeal_v8 (u : qS) (x : Int32) (y : Int32) (f_15 : Nat → Int32) (f_16 : Nat → Int32) (f_17 : Nat → Int32) (hI : IM u) (c6_1 : ¬ (x : Int32) < 0) (hs_2 : 0 ≤ u.1 1247 ∧ u.1 1247 ≤ 120) (c14_3 : ¬ (u.1 1247) ≤ (x : Int32)) (b21_7 : 0 ≤ y ∧ y ≤ 11) (hb_8 : 0 ≤ (u.2.1 1248 (x : Int32).toNatClampNeg) ∧ (u.2.1 1248 (x : Int32).toNatClampNeg) < u.1 1232) (hs_9 : 0 ≤ u.1 1232 ∧ u.1 1232 ≤ 20) (c38_10 : ¬ (u.2.1 1238 (u.2.1 1248 (x : Int32).toNatClampNeg : Int32).toNatClampNeg : Int32) = 0) (hs_11 : 0 ≤ u.1 1230 ∧ u.1 1230 ≤ 9999) (c54_12 : ¬ ((u.2.1 1255 (x : Int32).toNatClampNeg) + 14) < (u.1 1230 : Int32)) (hs_13 : 0 ≤ u.1 1256 ∧ u.1 1256 ≤ 60) (c63_14 : ¬ (u.1 1256 : Int32) = 60) (hf_15 : f_15 = upd (u.2.1 1257) (u.1 1256 : Int32).toNatClampNeg x) (hf_16 : f_16 = upd (u.2.1 1258) (u.1 1256 : Int32).toNatClampNeg y) (hf_17 : f_17 = upd (u.2.1 1259) (u.1 1256 : Int32).toNatClampNeg (u.1 1230)) : 0 ≤ (u.1 1256).toInt := by
  first | omega | ((try simp only [g_m1, Int32.lt_iff_toInt_lt, Int32.le_iff_toInt_le, ← Int32.toInt_inj, Int32.reduceToInt] at *); omega) | ((try have ez0 : ((u.2.1 1255 (x : Int32).toNatClampNeg) + 14 : Int32).toInt = (u.2.1 1255 (x : Int32).toNatClampNeg : Int32).toInt + (14 : Int32).toInt := g_add (by (try simp only [g_m1, Int32.lt_iff_toInt_lt, Int32.le_iff_toInt_le, ← Int32.toInt_inj, Int32.reduceToInt] at *); omega) (by (try simp only [g_m1, Int32.lt_iff_toInt_lt, Int32.le_iff_toInt_le, ← Int32.toInt_inj, Int32.reduceToInt] at *); omega)); (try simp only [g_m1, Int32.lt_iff_toInt_lt, Int32.le_iff_toInt_le, ← Int32.toInt_inj, Int32.reduceToInt] at *); omega) | ((try simp only [g_m1, Int32.lt_iff_toInt_lt, Int32.le_iff_toInt_le, ← Int32.toInt_inj, Int32.toInt_add, Int32.toInt_sub, Int32.toInt_mul, Int32.toInt_neg, Int32.reduceToInt, g_bm, g_bm'] at *); omega) | (have qr1 := g_rng x; have qr2 := g_rng y; (try simp only [g_m1, Int32.lt_iff_toInt_lt, Int32.le_iff_toInt_le, ← Int32.toInt_inj, Int32.toInt_add, Int32.toInt_sub, Int32.toInt_mul, Int32.toInt_neg, Int32.reduceToInt, g_bm, g_bm'] at *); omega) | (simp only [g_m1, Int32.lt_iff_toInt_lt, Int32.le_iff_toInt_le, ← Int32.toInt_inj, Int32.toInt_add, Int32.toInt_sub, Int32.toInt_mul, Int32.toInt_neg, Int32.reduceToInt, g_bm, g_bm'] at *; simp at *; omega) | (simp_all; done)
set_option maxRecDepth 100000 in
theorem g_X12_appeal_v9 (u : qS) (x : Int32) (y : Int32) (f_15 : Nat → Int32) (f_16 : Nat → Int32) (f_17 : Nat → Int32) (hI : IM u) (c6_1 : ¬ (x : Int32) < 0) (hs_2 : 0 ≤ u.1 1247 ∧ u.1 1247 ≤ 120) (c14_3 : ¬ (u.1 1247) ≤ (x : Int32)) (b21_7 : 0 ≤ y ∧ y ≤ 11) (hb_8 : 0 ≤ (u.2.1 1248 (x : Int32).toNatClampNeg) ∧ (u.2.1 1248 (x : Int32).toNatClampNeg) < u.1 1232) (hs_9 : 0 ≤ u.1 1232 ∧ u.1 1232 ≤ 20) (c38_10 : ¬ (u.2.1 1238 (u.2.1 1248 (x : Int32).toNatClampNeg : Int32).toNatClampNeg : Int32) = 0) (hs_11 : 0 ≤ u.1 1230 ∧ u.1 1230 ≤ 9999) (c54_12 : ¬ ((u.2.1 1255 (x : Int32).toNatClampNeg) + 14) < (u.1 1230 : Int32)) (hs_13 : 0 ≤ u.1 1256 ∧ u.1 1256 ≤ 60) (c63_14 : ¬ (u.1 1256 : Int32) = 60) (hf_15 : f_15 = upd (u.2.1 1257) (u.1 1256 : Int32).toNatClampNeg x) (hf_16 : f_16 = upd (u.2.1 1258) (u.1 1256 : Int32).toNatClampNeg y) (hf_17 : f_17 = upd (u.2.1 1259) (u.1 1256 : Int32).toNatClampNeg (u.1 1230)) : (u.1 1256).toInt < 60 := by
  first | omega | ((try simp only [g_m1, Int32.lt_iff_toInt_lt, Int32.le_iff_toInt_le, ← Int32.toInt_inj, Int32.reduceToInt] at *); omega) | ((try have ez0 : ((u.2.1 1255 (x : Int32).toNatClampNeg) + 14 : Int32).toInt = (u.2.1 1255 (x : Int32).toNatClampNeg : Int32).toInt + (14 : Int32).toInt := g_add (by (try simp only [g_m1, Int32.lt_iff_toInt_lt, Int32.le_iff_toInt_le, ← Int32.toInt_inj, Int32.reduceToInt] at *); omega) (by (try simp only [g_m1, Int32.lt_iff_toInt_lt, Int32.le_iff_toInt_le, ← Int32.toInt_inj, Int32.reduceToInt] at *); omega)); (try simp only [g_m1, Int32.lt_iff_toInt_lt, Int32.le_iff_toInt_le, ← Int32.toInt_inj, Int32.reduceToInt] at *); omega) | ((try simp only [g_m1, Int32.lt_iff_toInt_lt, Int32.le_iff_toInt_le, ← Int32.toInt_inj, Int32.toInt_add, Int32.toInt_sub, Int32.toInt_mul, Int32.toInt_neg, Int32.reduceToInt, g_bm, g_bm'] at *); omega) | (have qr1 := g_rng x; have qr2 := g_rng y; (try simp only [g_m1, Int32.lt_iff_toInt_lt, Int32.le_iff_toInt_le, ← Int32.toInt_inj, Int32.toInt_add, Int32.toInt_sub, Int32.toInt_mul, Int32.toInt_neg, Int32.reduceToInt, g_bm, g_bm'] at *); omega) | (simp only [g_m1, Int32.lt_iff_toInt_lt, Int32.le_iff_toInt_le, ← Int32.toInt_inj, Int32.toInt_add, Int32.toInt_sub, Int32.toInt_mul, Int32.toInt_neg, Int32.reduceToInt, g_bm, g_bm'] at *; simp at *; omega) | (simp_all; done)
set_option maxRecDepth 100000 in
theorem g_X12_appeal_v10 (u : qS) (x : Int32) (y : Int32) (f_15 : Nat → Int32) (f_16 : Nat → Int32) (f_17 : Nat → Int32) (hI : IM u) (c6_1 : ¬ (x : Int32) < 0) (hs_2 : 0 ≤ u.1 1247 ∧ u.1 1247 ≤ 120) (c14_3 : ¬ (u.1 1247) ≤ (x : Int32)) (b21_7 : 0 ≤ y ∧ y ≤ 11) (hb_8 : 0 ≤ (u.2.1 1248 (x : Int32).toNatClampNeg) ∧ (u.2.1 1248 (x : Int32).toNatClampNeg) < u.1 1232) (hs_9 : 0 ≤ u.1 1232 ∧ u.1 1232 ≤ 20) (c38_10 : ¬ (u.2.1 1238 (u.2.1 1248 (x : Int32).toNatClampNeg : Int32).toNatClampNeg : Int32) = 0) (hs_11 : 0 ≤ u.1 1230 ∧ u.1 1230 ≤ 9999) (c54_12 : ¬ ((u.2.1 1255 (x : Int32).toNatClampNeg) + 14) < (u.1 1230 : Int32)) (hs_13 : 0 ≤ u.1 1256 ∧ u.1 1256 ≤ 60) (c63_14 : ¬ (u.1 1256 : Int32) = 60) (hf_15 : f_15 = upd (u.2.1 1257) (u.1 1256 : Int32).toNatClampNeg x) (hf_16 : f_16 = upd (u.2.1 1258) (u.1 1256 : Int32).toNatClampNeg y) (hf_17 : f_17 = upd (u.2.1 1259) (u.1 1256 : Int32).toNatClampNeg (u.1 1230)) : 0 ≤ x ∧ x < u.1 1247 := by
  first | omega | ((try simp only [g_m1, Int32.lt_iff_toInt_lt, Int32.le_iff_toInt_le, ← Int32.toInt_inj, Int32.reduceToInt] at *); omega) | ((try have ez0 : ((u.2.1 1255 (x : Int32).toNatClampNeg) + 14 : Int32).toInt = (u.2.1 1255 (x : Int32).toNatClampNeg : Int32).toInt + (14 : Int32).toInt := g_add (by (try simp only [g_m1, Int32.lt_iff_toInt_lt, Int32.le_iff_toInt_le, ← Int32.toInt_inj, Int32.reduceToInt] at *); omega) (by (try simp only [g_m1, Int32.lt_iff_toInt_lt, Int32.le_iff_toInt_le, ← Int32.toInt_inj, Int32.reduceToInt] at *); omega)); (try simp only [g_m1, Int32.lt_iff_toInt_lt, Int32.le_iff_toInt_le, ← Int32.toInt_inj, Int32.reduceToInt] at *); omega) | ((try simp only [g_m1, Int32.lt_iff_toInt_lt, Int32.le_iff_toInt_le, ← Int32.toInt_inj, Int32.toInt_add, Int32.toInt_sub, Int32.toInt_mul, Int32.toInt_neg, Int32.reduceToInt, g_bm, g_bm'] at *); omega) | (have qr1 := g_rng x; have qr2 := g_rng y; (try simp only [g_m1, Int32.lt_iff_toInt_lt, Int32.le_iff_toInt_le, ← Int32.toInt_inj, Int32.toInt_add, Int32.toInt_sub, Int32.toInt_mul, Int32.toInt_neg, Int32.reduceToInt, g_bm, g_bm'] at *); omega) | (simp only [g_m1, Int32.lt_iff_toInt_lt, Int32.le_iff_toInt_le, ← Int32.toInt_inj, Int32.toInt_add, Int32.toInt_sub, Int32.toInt_mul, Int32.toInt_neg, Int32.reduceToInt, g_bm, g_bm'] at *; simp at *; omega) | (simp_all; done)
set_option maxHeartbeats 1000000 in
set_option maxRecDepth 100000 in
theorem g_X12_appeal (l : Launch) (E : qE) (A : Nat → Prop) (u : qS) (x : Int32) (y : Int32) (hI : IM u) : Met l yX12_appeal (uws yX12_appeal cX12_appeal 3 (some .boolean)) (qR 1 0 0) (qPc E A 1 u [.ref (E.2.2 1299), .int x, .int y]) (qQi E A 1 (fun r u1 => qFr [1200, 1256] [1257, 1258, 1259] [] u u1 ∧ IM u1 ∧ (True))) 0 0 A := by
  refine q_met (own := RX12) (f := 1) [.ref (E.2.2 1299), .int x, .int y] (by decide) (Nat.le_of_ble_eq_true rfl) rfl ?_
  intro p0 e0 s0 m0 bl0 me0 cd0 ls hF hr hlocks hU hS hA hl
  have hl : lv_has ls 3 [(0, .ref (E.2.2 1299)), (1, .int x), (2, .int y)] := hl
  have hfr : qFr [1200, 1256] [1257, 1258, 1259] [] u u := qFr.rf
  refine lv_aload_n hF.1 hF.2.1 dX12_appeal_0 rfl (lv_at hl 0 rfl) ?_
  refine lv_iconst (v := 0) hF.1 hF.2.1 dX12_appeal_1 (by decide) ?_
  refine q_put hF hU hS dX12_appeal_2 0 12 0 1200 1299 rfl rfl rfl rfl inX12 tyX12 tyX12_ok nmX12 (by decide) (by decide) rfl w_1329 rfl rfl rfl rfl (fun H locs hU hS => ?_)
  have hfr : qFr [1200, 1256] [1257, 1258, 1259] [] u (qsI u 1200 0) := hfr.setI (by decide)
  refine lv_iload_n hF.1 hF.2.1 dX12_appeal_5 rfl (lv_at hl 1 rfl) ?_
  refine lv_if_lt (tgt := 66) hF.1 hF.2.1 dX12_appeal_6 (by decide) (fun c6_1 => ?_) (fun c6_1 => ?_)
  · refine lv_iconst (v := 0) hF.1 hF.2.1 dX12_appeal_66 (by decide) ?_
    exact q_iret hF hr (by decide) hlocks hU hS dX12_appeal_67 ⟨hfr, hI.thr 0, trivial⟩
  · refine lv_iload_n hF.1 hF.2.1 dX12_appeal_9 rfl (lv_at hl 1 rfl) ?_
    refine lv_aload_n hF.1 hF.2.1 dX12_appeal_10 rfl (lv_at hl 0 rfl) ?_
    refine q_get (v := .int (u.1 1247)) hF hU dX12_appeal_11 0 12 47 1247 1299 rfl rfl rfl rfl inX12 (by decide) (by decide) w_1376 rfl (congrArg Value.int (hfr.1 1247 (by decide))) ?_
    have hs_2 : 0 ≤ u.1 1247 ∧ u.1 1247 ≤ 120 := hI.1.s1247
    refine lv_icmp_ge (tgt := 66) hF.1 hF.2.1 dX12_appeal_14 (by decide) (fun c14_3 => ?_) (fun c14_3 => ?_)
    · refine lv_iconst (v := 0) hF.1 hF.2.1 dX12_appeal_66 (by decide) ?_
      exact q_iret hF hr (by decide) hlocks hU hS dX12_appeal_67 ⟨hfr, hI.thr 0, trivial⟩
    · refine lv_iload_n hF.1 hF.2.1 dX12_appeal_17 rfl (lv_at hl 2 rfl) ?_
      refine lv_iconst (v := 0) hF.1 hF.2.1 dX12_appeal_18 (by decide) ?_
      refine lv_bipush (v := 11) hF.1 hF.2.1 dX12_appeal_19 (by decide) ?_
      have hM9 := g_X12_within l E A (qsI u 1200 0) y 0 11
      have hR9 := q_runS (l := l) (e := e0) (below := bl0) (meth := me0) (R := qR 1 0 0) (cells := 0) (slots := 0) (st0 := [.int 11, .int 0, .int y]) (rest := []) hF hU hS hA 3 hM9 w_1680 w_1681 w_107 w_1682 (by decide +kernel) ⟨Nat.le_of_ble_eq_true rfl, Nat.le_of_ble_eq_true rfl⟩ dX12_appeal_21 rfl hl.1 rfl (Nat.le_of_ble_eq_true rfl) ⟨Nat.le_of_ble_eq_true rfl, Nat.le_of_ble_eq_true rfl⟩
      refine q_calli hR9 hU.2.2.2 hS (fun r_6 u_4 H locs hw_5 hU hS => ?_)
      obtain ⟨hw_5_e, hw_5⟩ := hw_5
      rw [hw_5_e] at hU
      have hw_5 : (r_6 = 1 ∧ (0 ≤ y ∧ y ≤ 11)) ∨ (r_6 = 0 ∧ ¬ (0 ≤ y ∧ y ≤ 11)) := hw_5
      rcases hw_5 with ⟨rfl, b21_7⟩ | ⟨rfl, b21_7⟩
      · refine lv_if_eq (tgt := 66) hF.1 hF.2.1 dX12_appeal_24 (by decide) (fun h9 => absurd h9 (by decide)) (fun _ => ?_)
        refine lv_aload_n hF.1 hF.2.1 dX12_appeal_27 rfl (lv_at hl 0 rfl) ?_
        refine q_get (v := .ref (E.2.2 1238)) hF hU dX12_appeal_28 0 12 38 1238 1299 rfl rfl rfl rfl inX12 (by decide) (by decide) w_1367 rfl rfl ?_
        refine lv_aload_n hF.1 hF.2.1 dX12_appeal_31 rfl (lv_at hl 0 rfl) ?_
        refine q_get (v := .ref (E.2.2 1248)) hF hU dX12_appeal_32 0 12 48 1248 1299 rfl rfl rfl rfl inX12 (by decide) (by decide) w_1377 rfl rfl ?_
        refine lv_iload_n hF.1 hF.2.1 dX12_appeal_35 rfl (lv_at hl 1 rfl) ?_
        refine q_iald (v := u.2.1 1248 (x : Int32).toNatClampNeg) hF hU dX12_appeal_36 27 1248 rfl rfl (g_X12_appeal_v0 u x y hI c6_1 hs_2 c14_3 b21_7) (congrFun (hfr.2.1 1248 (by decide)) _) ?_
        have hb_8 : 0 ≤ (u.2.1 1248 (x : Int32).toNatClampNeg) ∧ (u.2.1 1248 (x : Int32).toNatClampNeg) < u.1 1232 := hI.2.1.r1248 x (g_X12_appeal_v1 u x y hI c6_1 hs_2 c14_3 b21_7)
        have hs_9 : 0 ≤ u.1 1232 ∧ u.1 1232 ≤ 20 := hI.1.s1232
        refine q_zald (v := u.2.1 1238 (u.2.1 1248 (x : Int32).toNatClampNeg : Int32).toNatClampNeg) hF hU dX12_appeal_37 24 1238 rfl rfl (g_X12_appeal_v2 u x y hI c6_1 hs_2 c14_3 b21_7 hb_8 hs_9) (congrFun (hfr.2.1 1238 (by decide)) _) ?_
        refine lv_if_eq (tgt := 66) hF.1 hF.2.1 dX12_appeal_38 (by decide) (fun c38_10 => ?_) (fun c38_10 => ?_)
        · refine lv_iconst (v := 0) hF.1 hF.2.1 dX12_appeal_66 (by decide) ?_
          exact q_iret hF hr (by decide) hlocks hU hS dX12_appeal_67 ⟨hfr, hI.thr 0, trivial⟩
        · refine lv_aload_n hF.1 hF.2.1 dX12_appeal_41 rfl (lv_at hl 0 rfl) ?_
          refine q_get (v := .int (u.1 1230)) hF hU dX12_appeal_42 0 12 30 1230 1299 rfl rfl rfl rfl inX12 (by decide) (by decide) w_1359 rfl (congrArg Value.int (hfr.1 1230 (by decide))) ?_
          have hs_11 : 0 ≤ u.1 1230 ∧ u.1 1230 ≤ 9999 := hI.1.s1230
          refine lv_aload_n hF.1 hF.2.1 dX12_appeal_45 rfl (lv_at hl 0 rfl) ?_
          refine q_get (v := .ref (E.2.2 1255)) hF hU dX12_appeal_46 0 12 55 1255 1299 rfl rfl rfl rfl inX12 (by decide) (by decide) w_1384 rfl rfl ?_
          refine lv_iload_n hF.1 hF.2.1 dX12_appeal_49 rfl (lv_at hl 1 rfl) ?_
          refine q_iald (v := u.2.1 1255 (x : Int32).toNatClampNeg) hF hU dX12_appeal_50 34 1255 rfl rfl (g_X12_appeal_v3 u x y hI c6_1 hs_2 c14_3 b21_7 hb_8 hs_9 c38_10 hs_11) (congrFun (hfr.2.1 1255 (by decide)) _) ?_
          refine lv_bipush (v := 14) hF.1 hF.2.1 dX12_appeal_51 (by decide) ?_
          refine lv_iadd hF.1 hF.2.1 dX12_appeal_53 ?_
          refine lv_icmp_gt (tgt := 66) hF.1 hF.2.1 dX12_appeal_54 (by decide) (fun c54_12 => ?_) (fun c54_12 => ?_)
          · refine lv_iconst (v := 0) hF.1 hF.2.1 dX12_appeal_66 (by decide) ?_
            exact q_iret hF hr (by decide) hlocks hU hS dX12_appeal_67 ⟨hfr, hI.thr 0, trivial⟩
          · refine lv_aload_n hF.1 hF.2.1 dX12_appeal_57 rfl (lv_at hl 0 rfl) ?_
            refine q_get (v := .int (u.1 1256)) hF hU dX12_appeal_58 0 12 56 1256 1299 rfl rfl rfl rfl inX12 (by decide) (by decide) w_1385 rfl rfl ?_
            have hs_13 : 0 ≤ u.1 1256 ∧ u.1 1256 ≤ 60 := hI.1.s1256
            refine lv_bipush (v := 60) hF.1 hF.2.1 dX12_appeal_61 (by decide) ?_
            refine lv_icmp_ne (tgt := 68) hF.1 hF.2.1 dX12_appeal_63 (by decide) (fun c63_14 => ?_) (fun c63_14 => ?_)
            · refine lv_aload_n hF.1 hF.2.1 dX12_appeal_68 rfl (lv_at hl 0 rfl) ?_
              refine q_get (v := .ref (E.2.2 1257)) hF hU dX12_appeal_69 0 12 57 1257 1299 rfl rfl rfl rfl inX12 (by decide) (by decide) w_1386 rfl rfl ?_
              refine lv_aload_n hF.1 hF.2.1 dX12_appeal_72 rfl (lv_at hl 0 rfl) ?_
              refine q_get (v := .int (u.1 1256)) hF hU dX12_appeal_73 0 12 56 1256 1299 rfl rfl rfl rfl inX12 (by decide) (by decide) w_1385 rfl rfl ?_
              refine lv_iload_n hF.1 hF.2.1 dX12_appeal_76 rfl (lv_at hl 1 rfl) ?_
              refine q_iast hF hU hS dX12_appeal_77 35 1257 rfl rfl (g_X12_appeal_v4 u x y hI c6_1 hs_2 c14_3 b21_7 hb_8 hs_9 c38_10 hs_11 c54_12 hs_13 c63_14) (fun f_15 H locs hg9 hU hS => ?_)
              have hf_15 : f_15 = upd (u.2.1 1257) (u.1 1256 : Int32).toNatClampNeg x := hg9
              have hfr : qFr [1200, 1256] [1257, 1258, 1259] [] u (qsF (qsI u 1200 0) 1257 f_15) := hfr.setF (by decide)
              refine lv_aload_n hF.1 hF.2.1 dX12_appeal_78 rfl (lv_at hl 0 rfl) ?_
              refine q_get (v := .ref (E.2.2 1258)) hF hU dX12_appeal_79 0 12 58 1258 1299 rfl rfl rfl rfl inX12 (by decide) (by decide) w_1387 rfl rfl ?_
              refine lv_aload_n hF.1 hF.2.1 dX12_appeal_82 rfl (lv_at hl 0 rfl) ?_
              refine q_get (v := .int (u.1 1256)) hF hU dX12_appeal_83 0 12 56 1256 1299 rfl rfl rfl rfl inX12 (by decide) (by decide) w_1385 rfl rfl ?_
              refine lv_iload_n hF.1 hF.2.1 dX12_appeal_86 rfl (lv_at hl 2 rfl) ?_
              refine q_iast hF hU hS dX12_appeal_87 36 1258 rfl rfl (g_X12_appeal_v5 u x y f_15 hI c6_1 hs_2 c14_3 b21_7 hb_8 hs_9 c38_10 hs_11 c54_12 hs_13 c63_14 hf_15) (fun f_16 H locs hg9 hU hS => ?_)
              have hf_16 : f_16 = upd (u.2.1 1258) (u.1 1256 : Int32).toNatClampNeg y := hg9
              have hfr : qFr [1200, 1256] [1257, 1258, 1259] [] u (qsF (qsF (qsI u 1200 0) 1257 f_15) 1258 f_16) := hfr.setF (by decide)
              refine lv_aload_n hF.1 hF.2.1 dX12_appeal_88 rfl (lv_at hl 0 rfl) ?_
              refine q_get (v := .ref (E.2.2 1259)) hF hU dX12_appeal_89 0 12 59 1259 1299 rfl rfl rfl rfl inX12 (by decide) (by decide) w_1388 rfl rfl ?_
              refine lv_aload_n hF.1 hF.2.1 dX12_appeal_92 rfl (lv_at hl 0 rfl) ?_
              refine q_get (v := .int (u.1 1256)) hF hU dX12_appeal_93 0 12 56 1256 1299 rfl rfl rfl rfl inX12 (by decide) (by decide) w_1385 rfl rfl ?_
              refine lv_aload_n hF.1 hF.2.1 dX12_appeal_96 rfl (lv_at hl 0 rfl) ?_
              refine q_get (v := .int (u.1 1230)) hF hU dX12_appeal_97 0 12 30 1230 1299 rfl rfl rfl rfl inX12 (by decide) (by decide) w_1359 rfl (congrArg Value.int (hfr.1 1230 (by decide))) ?_
              refine q_iast hF hU hS dX12_appeal_100 37 1259 rfl rfl (g_X12_appeal_v6 u x y f_15 f_16 hI c6_1 hs_2 c14_3 b21_7 hb_8 hs_9 c38_10 hs_11 c54_12 hs_13 c63_14 hf_15 hf_16) (fun f_17 H locs hg9 hU hS => ?_)
              have hf_17 : f_17 = upd (u.2.1 1259) (u.1 1256 : Int32).toNatClampNeg (u.1 1230) := hg9
              have hfr : qFr [1200, 1256] [1257, 1258, 1259] [] u (qsF (qsF (qsF (qsI u 1200 0) 1257 f_15) 1258 f_16) 1259 f_17) := hfr.setF (by decide)
              refine lv_aload_n hF.1 hF.2.1 dX12_appeal_101 rfl (lv_at hl 0 rfl) ?_
              refine lv_dup hF.1 hF.2.1 dX12_appeal_102 rfl ?_
              refine q_get (v := .int (u.1 1256)) hF hU dX12_appeal_103 0 12 56 1256 1299 rfl rfl rfl rfl inX12 (by decide) (by decide) w_1385 rfl rfl ?_
              refine lv_iconst (v := 1) hF.1 hF.2.1 dX12_appeal_106 (by decide) ?_
              refine lv_iadd hF.1 hF.2.1 dX12_appeal_107 ?_
              refine q_put hF hU hS dX12_appeal_108 0 12 56 1256 1299 rfl rfl rfl rfl inX12 tyX12 tyX12_ok nmX12 (by decide) (by decide) rfl w_1385 rfl rfl rfl rfl (fun H locs hU hS => ?_)
              have hfr : qFr [1200, 1256] [1257, 1258, 1259] [] u (qsI (qsF (qsF (qsF (qsI u 1200 0) 1257 f_15) 1258 f_16) 1259 f_17) 1256 ((u.1 1256) + 1)) := hfr.setI (by decide)
              refine lv_iconst (v := 1) hF.1 hF.2.1 dX12_appeal_111 (by decide) ?_
              exact q_iret hF hr (by decide) hlocks hU hS dX12_appeal_112 ⟨hfr, hI.appeal hfr (g_X12_appeal_v7 u x y f_15 f_16 f_17 hI c6_1 hs_2 c14_3 b21_7 hb_8 hs_9 c38_10 hs_11 c54_12 hs_13 c63_14 hf_15 hf_16 hf_17) (hI.2.1.appeal (g_X12_appeal_v8 u x y f_15 f_16 f_17 hI c6_1 hs_2 c14_3 b21_7 hb_8 hs_9 c38_10 hs_11 c54_12 hs_13 c63_14 hf_15 hf_16 hf_17) (g_X12_appeal_v9 u x y f_15 f_16 f_17 hI c6_1 hs_2 c14_3 b21_7 hb_8 hs_9 c38_10 hs_11 c54_12 hs_13 c63_14 hf_15 hf_16 hf_17) rfl rfl rfl rfl hf_15 rfl rfl rfl (g_X12_appeal_v10 u x y f_15 f_16 f_17 hI c6_1 hs_2 c14_3 b21_7 hb_8 hs_9 c38_10 hs_11 c54_12 hs_13 c63_14 hf_15 hf_16 hf_17)), trivial⟩
            · refine lv_iconst (v := 0) hF.1 hF.2.1 dX12_appeal_66 (by decide) ?_
              exact q_iret hF hr (by decide) hlocks hU hS dX12_appeal_67 ⟨hfr, hI.thr 0, trivial⟩
      · refine lv_if_eq (tgt := 66) hF.1 hF.2.1 dX12_appeal_24 (by decide) (fun _ => ?_) (fun h9 => absurd (by decide) h9)
        refine lv_iconst (v := 0) hF.1 hF.2.1 dX12_appeal_66 (by decide) ?_
        exact q_iret hF hr (by decide) hlocks hU hS dX12_appeal_67 ⟨hfr, hI.thr 0, trivial⟩
set_option maxRecDepth 100000 in
theorem g_X12_lay_v0 (u : qS) (x3 : Int32) (uc : qS) (h_t : 0 ≤ u.1 1202 ∧ u.1 1202 ≤ 1000) (h_k : x3 ≤ 56) (h_u : 0 ≤ uc.1 1202 ∧ uc.1 1202 ≤ 1000) (c4_1 : (x3 : Int32) < 0) : 0 ≤ (uc.1 1202 : Int32) ∧ (uc.1 1202 : Int32) ≤ 1000 := by
  first | omega | ((try simp only [g_m1, Int32.lt_iff_toInt_lt, Int32.le_iff_toInt_le, ← Int32.toInt_inj, Int32.reduceToInt] at *); omega) | ((try simp only [g_m1, Int32.lt_iff_toInt_lt, Int32.le_iff_toInt_le, ← Int32.toInt_inj, Int32.reduceToInt] at *); omega) | ((try simp only [g_m1, Int32.lt_iff_toInt_lt, Int32.le_iff_toInt_le, ← Int32.toInt_inj, Int32.toInt_add, Int32.toInt_sub, Int32.toInt_mul, Int32.toInt_neg, Int32.reduceToInt, g_bm, g_bm'] at *); omega) | (have qr2 := g_rng x3; (try simp only [g_m1, Int32.lt_iff_toInt_lt, Int32.le_iff_toInt_le, ← Int32.toInt_inj, Int32.toInt_add, Int32.toInt_sub, Int32.toInt_mul, Int32.toInt_neg, Int32.reduceToInt, g_bm, g_bm'] at *); omega) | (simp only [g_m1, Int32.lt_iff_toInt_lt, Int32.le_iff_toInt_le, ← Int32.toInt_inj, Int32.toInt_add, Int32.toInt_sub, Int32.toInt_mul, Int32.toInt_neg, Int32.reduceToInt, g_bm, g_bm'] at *; simp at *; omega) | (simp_all; done)
set_option maxRecDepth 100000 in
theorem g_X12_lay_v1 (u : qS) (v : Int64) (x3 : Int32) (uc : qS) (h_t : 0 ≤ u.1 1202 ∧ u.1 1202 ≤ 1000) (h_k : x3 ≤ 56) (h_u : 0 ≤ uc.1 1202 ∧ uc.1 1202 ≤ 1000) (c4_1 : ¬ (x3 : Int32) < 0) (c21_2 : (((v >>> ((x3 : Int32).toInt64 &&& 63)).toInt32) &&& 255 : Int32) = 10) (c45_3 : 1000 ≤ (uc.1 1202 : Int32)) : (x3 + (-8)) ≤ 56 := by
  first | omega | ((try simp only [g_m1, Int32.lt_iff_toInt_lt, Int32.le_iff_toInt_le, ← Int32.toInt_inj, Int32.reduceToInt] at *); omega) | ((try have ez0 : (x3 + (-8) : Int32).toInt = (x3 : Int32).toInt + ((-8) : Int32).toInt := g_add (by (try simp only [g_m1, Int32.lt_iff_toInt_lt, Int32.le_iff_toInt_le, ← Int32.toInt_inj, Int32.reduceToInt] at *); omega) (by (try simp only [g_m1, Int32.lt_iff_toInt_lt, Int32.le_iff_toInt_le, ← Int32.toInt_inj, Int32.reduceToInt] at *); omega)); (try simp only [g_m1, Int32.lt_iff_toInt_lt, Int32.le_iff_toInt_le, ← Int32.toInt_inj, Int32.reduceToInt] at *); omega) | ((try simp only [g_m1, Int32.lt_iff_toInt_lt, Int32.le_iff_toInt_le, ← Int32.toInt_inj, Int32.toInt_add, Int32.toInt_sub, Int32.toInt_mul, Int32.toInt_neg, Int32.reduceToInt, g_bm, g_bm'] at *); omega) | (have qr2 := g_rng x3; (try simp only [g_m1, Int32.lt_iff_toInt_lt, Int32.le_iff_toInt_le, ← Int32.toInt_inj, Int32.toInt_add, Int32.toInt_sub, Int32.toInt_mul, Int32.toInt_neg, Int32.reduceToInt, g_bm, g_bm'] at *); omega) | (simp only [g_m1, Int32.lt_iff_toInt_lt, Int32.le_iff_toInt_le, ← Int32.toInt_inj, Int32.toInt_add, Int32.toInt_sub, Int32.toInt_mul, Int32.toInt_neg, Int32.reduceToInt, g_bm, g_bm'] at *; simp at *; omega) | (simp_all; done)
set_option maxRecDepth 100000 in
theorem g_X12_lay_v2 (u : qS) (v : Int64) (x3 : Int32) (uc : qS) (h_t : 0 ≤ u.1 1202 ∧ u.1 1202 ≤ 1000) (h_k : x3 ≤ 56) (h_u : 0 ≤ uc.1 1202 ∧ uc.1 1202 ≤ 1000) (c4_1 : ¬ (x3 : Int32) < 0) (c21_2 : (((v >>> ((x3 : Int32).toInt64 &&& 63)).toInt32) &&& 255 : Int32) = 10) (c45_3 : 1000 ≤ (uc.1 1202 : Int32)) : 0 ≤ (uc.1 1202 : Int32) ∧ (uc.1 1202 : Int32) ≤ 1000 := by
  first | omega | ((try simp only [g_m1, Int32.lt_iff_toInt_lt, Int32.le_iff_toInt_le, ← Int32.toInt_inj, Int32.reduceToInt] at *); omega) | ((try simp only [g_m1, Int32.lt_iff_toInt_lt, Int32.le_iff_toInt_le, ← Int32.toInt_inj, Int32.reduceToInt] at *); omega) | ((try simp only [g_m1, Int32.lt_iff_toInt_lt, Int32.le_iff_toInt_le, ← Int32.toInt_inj, Int32.toInt_add, Int32.toInt_sub, Int32.toInt_mul, Int32.toInt_neg, Int32.reduceToInt, g_bm, g_bm'] at *); omega) | (have qr2 := g_rng x3; (try simp only [g_m1, Int32.lt_iff_toInt_lt, Int32.le_iff_toInt_le, ← Int32.toInt_inj, Int32.toInt_add, Int32.toInt_sub, Int32.toInt_mul, Int32.toInt_neg, Int32.reduceToInt, g_bm, g_bm'] at *); omega) | (simp only [g_m1, Int32.lt_iff_toInt_lt, Int32.le_iff_toInt_le, ← Int32.toInt_inj, Int32.toInt_add, Int32.toInt_sub, Int32.toInt_mul, Int32.toInt_neg, Int32.reduceToInt, g_bm, g_bm'] at *; simp at *; omega) | (simp_all; done)
set_option maxRecDepth 100000 in
theorem g_X12_lay_v3 (u : qS) (v : Int64) (x3 : Int32) (uc : qS) (h_t : 0 ≤ u.1 1202 ∧ u.1 1202 ≤ 1000) (h_k : x3 ≤ 56) (h_u : 0 ≤ uc.1 1202 ∧ uc.1 1202 ≤ 1000) (c4_1 : ¬ (x3 : Int32) < 0) (c21_2 : (((v >>> ((x3 : Int32).toInt64 &&& 63)).toInt32) &&& 255 : Int32) = 10) (c45_3 : 1000 ≤ (uc.1 1202 : Int32)) : ((x3 + (-8)).toInt + 8).toNat < (x3.toInt + 8).toNat := by
  first | omega | ((try simp only [g_m1, Int32.lt_iff_toInt_lt, Int32.le_iff_toInt_le, ← Int32.toInt_inj, Int32.reduceToInt] at *); omega) | ((try have ez0 : (x3 + (-8) : Int32).toInt = (x3 : Int32).toInt + ((-8) : Int32).toInt := g_add (by (try simp only [g_m1, Int32.lt_iff_toInt_lt, Int32.le_iff_toInt_le, ← Int32.toInt_inj, Int32.reduceToInt] at *); omega) (by (try simp only [g_m1, Int32.lt_iff_toInt_lt, Int32.le_iff_toInt_le, ← Int32.toInt_inj, Int32.reduceToInt] at *); omega)); (try simp only [g_m1, Int32.lt_iff_toInt_lt, Int32.le_iff_toInt_le, ← Int32.toInt_inj, Int32.reduceToInt] at *); omega) | ((try simp only [g_m1, Int32.lt_iff_toInt_lt, Int32.le_iff_toInt_le, ← Int32.toInt_inj, Int32.toInt_add, Int32.toInt_sub, Int32.toInt_mul, Int32.toInt_neg, Int32.reduceToInt, g_bm, g_bm'] at *); omega) | (have qr2 := g_rng x3; (try simp only [g_m1, Int32.lt_iff_toInt_lt, Int32.le_iff_toInt_le, ← Int32.toInt_inj, Int32.toInt_add, Int32.toInt_sub, Int32.toInt_mul, Int32.toInt_neg, Int32.reduceToInt, g_bm, g_bm'] at *); omega) | (simp only [g_m1, Int32.lt_iff_toInt_lt, Int32.le_iff_toInt_le, ← Int32.toInt_inj, Int32.toInt_add, Int32.toInt_sub, Int32.toInt_mul, Int32.toInt_neg, Int32.reduceToInt, g_bm, g_bm'] at *; simp at *; omega) | (simp_all; done)
set_option maxRecDepth 100000 in
theorem g_X12_lay_v4 (u : qS) (v : Int64) (x3 : Int32) (uc : qS) (h_t : 0 ≤ u.1 1202 ∧ u.1 1202 ≤ 1000) (h_k : x3 ≤ 56) (h_u : 0 ≤ uc.1 1202 ∧ uc.1 1202 ≤ 1000) (c4_1 : ¬ (x3 : Int32) < 0) (c21_2 : (((v >>> ((x3 : Int32).toInt64 &&& 63)).toInt32) &&& 255 : Int32) = 10) (c45_3 : ¬ 1000 ≤ (uc.1 1202 : Int32)) : vp_in (uc.1 1202) 1000 := by
  refine g_in ?_ ?_ <;> ((try simp only [g_m1, Int32.lt_iff_toInt_lt, Int32.le_iff_toInt_le, ← Int32.toInt_inj, Int32.toInt_add, Int32.toInt_sub, Int32.toInt_mul, Int32.toInt_neg, Int32.reduceToInt, g_bm, g_bm'] at *); omega)
set_option maxRecDepth 100000 in
theorem g_X12_lay_v5 (u : qS) (v : Int64) (x3 : Int32) (uc : qS) (f_4 : Nat → Int32) (h_t : 0 ≤ u.1 1202 ∧ u.1 1202 ≤ 1000) (h_k : x3 ≤ 56) (h_u : 0 ≤ uc.1 1202 ∧ uc.1 1202 ≤ 1000) (c4_1 : ¬ (x3 : Int32) < 0) (c21_2 : (((v >>> ((x3 : Int32).toInt64 &&& 63)).toInt32) &&& 255 : Int32) = 10) (c45_3 : ¬ 1000 ≤ (uc.1 1202 : Int32)) (hf_4 : f_4 = upd (uc.2.1 1201) (uc.1 1202 : Int32).toNatClampNeg (((v >>> ((x3 : Int32).toInt64 &&& 63)).toInt32) &&& 255)) : (x3 + (-8)) ≤ 56 := by
  first | omega | ((try simp only [g_m1, Int32.lt_iff_toInt_lt, Int32.le_iff_toInt_le, ← Int32.toInt_inj, Int32.reduceToInt] at *); omega) | ((try have ez1 : (x3 + (-8) : Int32).toInt = (x3 : Int32).toInt + ((-8) : Int32).toInt := g_add (by (try simp only [g_m1, Int32.lt_iff_toInt_lt, Int32.le_iff_toInt_le, ← Int32.toInt_inj, Int32.reduceToInt] at *); omega) (by (try simp only [g_m1, Int32.lt_iff_toInt_lt, Int32.le_iff_toInt_le, ← Int32.toInt_inj, Int32.reduceToInt] at *); omega)); (try simp only [g_m1, Int32.lt_iff_toInt_lt, Int32.le_iff_toInt_le, ← Int32.toInt_inj, Int32.reduceToInt] at *); omega) | ((try simp only [g_m1, Int32.lt_iff_toInt_lt, Int32.le_iff_toInt_le, ← Int32.toInt_inj, Int32.toInt_add, Int32.toInt_sub, Int32.toInt_mul, Int32.toInt_neg, Int32.reduceToInt, g_bm, g_bm'] at *); omega) | (have qr2 := g_rng x3; (try simp only [g_m1, Int32.lt_iff_toInt_lt, Int32.le_iff_toInt_le, ← Int32.toInt_inj, Int32.toInt_add, Int32.toInt_sub, Int32.toInt_mul, Int32.toInt_neg, Int32.reduceToInt, g_bm, g_bm'] at *); omega) | (simp only [g_m1, Int32.lt_iff_toInt_lt, Int32.le_iff_toInt_le, ← Int32.toInt_inj, Int32.toInt_add, Int32.toInt_sub, Int32.toInt_mul, Int32.toInt_neg, Int32.reduceToInt, g_bm, g_bm'] at *; simp at *; omega) | (simp_all; done)
set_option maxRecDepth 100000 in
theorem g_X12_lay_v6 (u : qS) (v : Int64) (x3 : Int32) (uc : qS) (f_4 : Nat → Int32) (h_t : 0 ≤ u.1 1202 ∧ u.1 1202 ≤ 1000) (h_k : x3 ≤ 56) (h_u : 0 ≤ uc.1 1202 ∧ uc.1 1202 ≤ 1000) (c4_1 : ¬ (x3 : Int32) < 0) (c21_2 : (((v >>> ((x3 : Int32).toInt64 &&& 63)).toInt32) &&& 255 : Int32) = 10) (c45_3 : ¬ 1000 ≤ (uc.1 1202 : Int32)) (hf_4 : f_4 = upd (uc.2.1 1201) (uc.1 1202 : Int32).toNatClampNeg (((v >>> ((x3 : Int32).toInt64 &&& 63)).toInt32) &&& 255)) : 0 ≤ ((uc.1 1202) + 1 : Int32) ∧ ((uc.1 1202) + 1 : Int32) ≤ 1000 := by
  first | omega | ((try simp only [g_m1, Int32.lt_iff_toInt_lt, Int32.le_iff_toInt_le, ← Int32.toInt_inj, Int32.reduceToInt] at *); omega) | ((try have ez0 : ((uc.1 1202) + 1 : Int32).toInt = (uc.1 1202 : Int32).toInt + (1 : Int32).toInt := g_add (by (try simp only [g_m1, Int32.lt_iff_toInt_lt, Int32.le_iff_toInt_le, ← Int32.toInt_inj, Int32.reduceToInt] at *); omega) (by (try simp only [g_m1, Int32.lt_iff_toInt_lt, Int32.le_iff_toInt_le, ← Int32.toInt_inj, Int32.reduceToInt] at *); omega)); (try simp only [g_m1, Int32.lt_iff_toInt_lt, Int32.le_iff_toInt_le, ← Int32.toInt_inj, Int32.reduceToInt] at *); omega) | ((try simp only [g_m1, Int32.lt_iff_toInt_lt, Int32.le_iff_toInt_le, ← Int32.toInt_inj, Int32.toInt_add, Int32.toInt_sub, Int32.toInt_mul, Int32.toInt_neg, Int32.reduceToInt, g_bm, g_bm'] at *); omega) | (have qr2 := g_rng x3; (try simp only [g_m1, Int32.lt_iff_toInt_lt, Int32.le_iff_toInt_le, ← Int32.toInt_inj, Int32.toInt_add, Int32.toInt_sub, Int32.toInt_mul, Int32.toInt_neg, Int32.reduceToInt, g_bm, g_bm'] at *); omega) | (simp only [g_m1, Int32.lt_iff_toInt_lt, Int32.le_iff_toInt_le, ← Int32.toInt_inj, Int32.toInt_add, Int32.toInt_sub, Int32.toInt_mul, Int32.toInt_neg, Int32.reduceToInt, g_bm, g_bm'] at *; simp at *; omega) | (simp_all; done)
set_option maxRecDepth 100000 in
theorem g_X12_lay_v7 (u : qS) (v : Int64) (x3 : Int32) (uc : qS) (f_4 : Nat → Int32) (h_t : 0 ≤ u.1 1202 ∧ u.1 1202 ≤ 1000) (h_k : x3 ≤ 56) (h_u : 0 ≤ uc.1 1202 ∧ uc.1 1202 ≤ 1000) (c4_1 : ¬ (x3 : Int32) < 0) (c21_2 : (((v >>> ((x3 : Int32).toInt64 &&& 63)).toInt32) &&& 255 : Int32) = 10) (c45_3 : ¬ 1000 ≤ (uc.1 1202 : Int32)) (hf_4 : f_4 = upd (uc.2.1 1201) (uc.1 1202 : Int32).toNatClampNeg (((v >>> ((x3 : Int32).toInt64 &&& 63)).toInt32) &&& 255)) : ((x3 + (-8)).toInt + 8).toNat < (x3.toInt + 8).toNat := by
  first | omega | ((try simp only [g_m1, Int32.lt_iff_toInt_lt, Int32.le_iff_toInt_le, ← Int32.toInt_inj, Int32.reduceToInt] at *); omega) | ((try have ez1 : (x3 + (-8) : Int32).toInt = (x3 : Int32).toInt + ((-8) : Int32).toInt := g_add (by (try simp only [g_m1, Int32.lt_iff_toInt_lt, Int32.le_iff_toInt_le, ← Int32.toInt_inj, Int32.reduceToInt] at *); omega) (by (try simp only [g_m1, Int32.lt_iff_toInt_lt, Int32.le_iff_toInt_le, ← Int32.toInt_inj, Int32.reduceToInt] at *); omega)); (try simp only [g_m1, Int32.lt_iff_toInt_lt, Int32.le_iff_toInt_le, ← Int32.toInt_inj, Int32.reduceToInt] at *); omega) | ((try simp only [g_m1, Int32.lt_iff_toInt_lt, Int32.le_iff_toInt_le, ← Int32.toInt_inj, Int32.toInt_add, Int32.toInt_sub, Int32.toInt_mul, Int32.toInt_neg, Int32.reduceToInt, g_bm, g_bm'] at *); omega) | (have qr2 := g_rng x3; (try simp only [g_m1, Int32.lt_iff_toInt_lt, Int32.le_iff_toInt_le, ← Int32.toInt_inj, Int32.toInt_add, Int32.toInt_sub, Int32.toInt_mul, Int32.toInt_neg, Int32.reduceToInt, g_bm, g_bm'] at *); omega) | (simp only [g_m1, Int32.lt_iff_toInt_lt, Int32.le_iff_toInt_le, ← Int32.toInt_inj, Int32.toInt_add, Int32.toInt_sub, Int32.toInt_mul, Int32.toInt_neg, Int32.reduceToInt, g_bm, g_bm'] at *; simp at *; omega) | (simp_all; done)
set_option maxRecDepth 100000 in
theorem g_X12_lay_v8 (u : qS) (v : Int64) (x3 : Int32) (uc : qS) (h_t : 0 ≤ u.1 1202 ∧ u.1 1202 ≤ 1000) (h_k : x3 ≤ 56) (h_u : 0 ≤ uc.1 1202 ∧ uc.1 1202 ≤ 1000) (c4_1 : ¬ (x3 : Int32) < 0) (c21_2 : ¬ (((v >>> ((x3 : Int32).toInt64 &&& 63)).toInt32) &&& 255 : Int32) = 10) (c28_5 : (((v >>> ((x3 : Int32).toInt64 &&& 63)).toInt32) &&& 255 : Int32) < 32) : (x3 + (-8)) ≤ 56 := by
  first | omega | ((try simp only [g_m1, Int32.lt_iff_toInt_lt, Int32.le_iff_toInt_le, ← Int32.toInt_inj, Int32.reduceToInt] at *); omega) | ((try have ez0 : (x3 + (-8) : Int32).toInt = (x3 : Int32).toInt + ((-8) : Int32).toInt := g_add (by (try simp only [g_m1, Int32.lt_iff_toInt_lt, Int32.le_iff_toInt_le, ← Int32.toInt_inj, Int32.reduceToInt] at *); omega) (by (try simp only [g_m1, Int32.lt_iff_toInt_lt, Int32.le_iff_toInt_le, ← Int32.toInt_inj, Int32.reduceToInt] at *); omega)); (try simp only [g_m1, Int32.lt_iff_toInt_lt, Int32.le_iff_toInt_le, ← Int32.toInt_inj, Int32.reduceToInt] at *); omega) | ((try simp only [g_m1, Int32.lt_iff_toInt_lt, Int32.le_iff_toInt_le, ← Int32.toInt_inj, Int32.toInt_add, Int32.toInt_sub, Int32.toInt_mul, Int32.toInt_neg, Int32.reduceToInt, g_bm, g_bm'] at *); omega) | (have qr2 := g_rng x3; (try simp only [g_m1, Int32.lt_iff_toInt_lt, Int32.le_iff_toInt_le, ← Int32.toInt_inj, Int32.toInt_add, Int32.toInt_sub, Int32.toInt_mul, Int32.toInt_neg, Int32.reduceToInt, g_bm, g_bm'] at *); omega) | (simp only [g_m1, Int32.lt_iff_toInt_lt, Int32.le_iff_toInt_le, ← Int32.toInt_inj, Int32.toInt_add, Int32.toInt_sub, Int32.toInt_mul, Int32.toInt_neg, Int32.reduceToInt, g_bm, g_bm'] at *; simp at *; omega) | (simp_all; done)
set_option maxRecDepth 100000 in
theorem g_X12_lay_v9 (u : qS) (v : Int64) (x3 : Int32) (uc : qS) (h_t : 0 ≤ u.1 1202 ∧ u.1 1202 ≤ 1000) (h_k : x3 ≤ 56) (h_u : 0 ≤ uc.1 1202 ∧ uc.1 1202 ≤ 1000) (c4_1 : ¬ (x3 : Int32) < 0) (c21_2 : ¬ (((v >>> ((x3 : Int32).toInt64 &&& 63)).toInt32) &&& 255 : Int32) = 10) (c28_5 : (((v >>> ((x3 : Int32).toInt64 &&& 63)).toInt32) &&& 255 : Int32) < 32) : 0 ≤ (uc.1 1202 : Int32) ∧ (uc.1 1202 : Int32) ≤ 1000 := by
  first | omega | ((try simp only [g_m1, Int32.lt_iff_toInt_lt, Int32.le_iff_toInt_le, ← Int32.toInt_inj, Int32.reduceToInt] at *); omega) | ((try simp only [g_m1, Int32.lt_iff_toInt_lt, Int32.le_iff_toInt_le, ← Int32.toInt_inj, Int32.reduceToInt] at *); omega) | ((try simp only [g_m1, Int32.lt_iff_toInt_lt, Int32.le_iff_toInt_le, ← Int32.toInt_inj, Int32.toInt_add, Int32.toInt_sub, Int32.toInt_mul, Int32.toInt_neg, Int32.reduceToInt, g_bm, g_bm'] at *); omega) | (have qr2 := g_rng x3; (try simp only [g_m1, Int32.lt_iff_toInt_lt, Int32.le_iff_toInt_le, ← Int32.toInt_inj, Int32.toInt_add, Int32.toInt_sub, Int32.toInt_mul, Int32.toInt_neg, Int32.reduceToInt, g_bm, g_bm'] at *); omega) | (simp only [g_m1, Int32.lt_iff_toInt_lt, Int32.le_iff_toInt_le, ← Int32.toInt_inj, Int32.toInt_add, Int32.toInt_sub, Int32.toInt_mul, Int32.toInt_neg, Int32.reduceToInt, g_bm, g_bm'] at *; simp at *; omega) | (simp_all; done)
set_option maxRecDepth 100000 in
theorem g_X12_lay_v10 (u : qS) (v : Int64) (x3 : Int32) (uc : qS) (h_t : 0 ≤ u.1 1202 ∧ u.1 1202 ≤ 1000) (h_k : x3 ≤ 56) (h_u : 0 ≤ uc.1 1202 ∧ uc.1 1202 ≤ 1000) (c4_1 : ¬ (x3 : Int32) < 0) (c21_2 : ¬ (((v >>> ((x3 : Int32).toInt64 &&& 63)).toInt32) &&& 255 : Int32) = 10) (c28_5 : (((v >>> ((x3 : Int32).toInt64 &&& 63)).toInt32) &&& 255 : Int32) < 32) : ((x3 + (-8)).toInt + 8).toNat < (x3.toInt + 8).toNat := by
  first | omega | ((try simp only [g_m1, Int32.lt_iff_toInt_lt, Int32.le_iff_toInt_le, ← Int32.toInt_inj, Int32.reduceToInt] at *); omega) | ((try have ez0 : (x3 + (-8) : Int32).toInt = (x3 : Int32).toInt + ((-8) : Int32).toInt := g_add (by (try simp only [g_m1, Int32.lt_iff_toInt_lt, Int32.le_iff_toInt_le, ← Int32.toInt_inj, Int32.reduceToInt] at *); omega) (by (try simp only [g_m1, Int32.lt_iff_toInt_lt, Int32.le_iff_toInt_le, ← Int32.toInt_inj, Int32.reduceToInt] at *); omega)); (try simp only [g_m1, Int32.lt_iff_toInt_lt, Int32.le_iff_toInt_le, ← Int32.toInt_inj, Int32.reduceToInt] at *); omega) | ((try simp only [g_m1, Int32.lt_iff_toInt_lt, Int32.le_iff_toInt_le, ← Int32.toInt_inj, Int32.toInt_add, Int32.toInt_sub, Int32.toInt_mul, Int32.toInt_neg, Int32.reduceToInt, g_bm, g_bm'] at *); omega) | (have qr2 := g_rng x3; (try simp only [g_m1, Int32.lt_iff_toInt_lt, Int32.le_iff_toInt_le, ← Int32.toInt_inj, Int32.toInt_add, Int32.toInt_sub, Int32.toInt_mul, Int32.toInt_neg, Int32.reduceToInt, g_bm, g_bm'] at *); omega) | (simp only [g_m1, Int32.lt_iff_toInt_lt, Int32.le_iff_toInt_le, ← Int32.toInt_inj, Int32.toInt_add, Int32.toInt_sub, Int32.toInt_mul, Int32.toInt_neg, Int32.reduceToInt, g_bm, g_bm'] at *; simp at *; omega) | (simp_all; done)
set_option maxRecDepth 100000 in
theorem g_X12_lay_v11 (u : qS) (v : Int64) (x3 : Int32) (uc : qS) (h_t : 0 ≤ u.1 1202 ∧ u.1 1202 ≤ 1000) (h_k : x3 ≤ 56) (h_u : 0 ≤ uc.1 1202 ∧ uc.1 1202 ≤ 1000) (c4_1 : ¬ (x3 : Int32) < 0) (c21_2 : ¬ (((v >>> ((x3 : Int32).toInt64 &&& 63)).toInt32) &&& 255 : Int32) = 10) (c28_5 : ¬ (((v >>> ((x3 : Int32).toInt64 &&& 63)).toInt32) &&& 255 : Int32) < 32) (c35_6 : 126 < (((v >>> ((x3 : Int32).toInt64 &&& 63)).toInt32) &&& 255 : Int32)) : (x3 + (-8)) ≤ 56 := by
  first | omega | ((try simp only [g_m1, Int32.lt_iff_toInt_lt, Int32.le_iff_toInt_le, ← Int32.toInt_inj, Int32.reduceToInt] at *); omega) | ((try have ez0 : (x3 + (-8) : Int32).toInt = (x3 : Int32).toInt + ((-8) : Int32).toInt := g_add (by (try simp only [g_m1, Int32.lt_iff_toInt_lt, Int32.le_iff_toInt_le, ← Int32.toInt_inj, Int32.reduceToInt] at *); omega) (by (try simp only [g_m1, Int32.lt_iff_toInt_lt, Int32.le_iff_toInt_le, ← Int32.toInt_inj, Int32.reduceToInt] at *); omega)); (try simp only [g_m1, Int32.lt_iff_toInt_lt, Int32.le_iff_toInt_le, ← Int32.toInt_inj, Int32.reduceToInt] at *); omega) | ((try simp only [g_m1, Int32.lt_iff_toInt_lt, Int32.le_iff_toInt_le, ← Int32.toInt_inj, Int32.toInt_add, Int32.toInt_sub, Int32.toInt_mul, Int32.toInt_neg, Int32.reduceToInt, g_bm, g_bm'] at *); omega) | (have qr2 := g_rng x3; (try simp only [g_m1, Int32.lt_iff_toInt_lt, Int32.le_iff_toInt_le, ← Int32.toInt_inj, Int32.toInt_add, Int32.toInt_sub, Int32.toInt_mul, Int32.toInt_neg, Int32.reduceToInt, g_bm, g_bm'] at *); omega) | (simp only [g_m1, Int32.lt_iff_toInt_lt, Int32.le_iff_toInt_le, ← Int32.toInt_inj, Int32.toInt_add, Int32.toInt_sub, Int32.toInt_mul, Int32.toInt_neg, Int32.reduceToInt, g_bm, g_bm'] at *; simp at *; omega) | (simp_all; done)
set_option maxRecDepth 100000 in
theorem g_X12_lay_v12 (u : qS) (v : Int64) (x3 : Int32) (uc : qS) (h_t : 0 ≤ u.1 1202 ∧ u.1 1202 ≤ 1000) (h_k : x3 ≤ 56) (h_u : 0 ≤ uc.1 1202 ∧ uc.1 1202 ≤ 1000) (c4_1 : ¬ (x3 : Int32) < 0) (c21_2 : ¬ (((v >>> ((x3 : Int32).toInt64 &&& 63)).toInt32) &&& 255 : Int32) = 10) (c28_5 : ¬ (((v >>> ((x3 : Int32).toInt64 &&& 63)).toInt32) &&& 255 : Int32) < 32) (c35_6 : 126 < (((v >>> ((x3 : Int32).toInt64 &&& 63)).toInt32) &&& 255 : Int32)) : 0 ≤ (uc.1 1202 : Int32) ∧ (uc.1 1202 : Int32) ≤ 1000 := by
  first | omega | ((try simp only [g_m1, Int32.lt_iff_toInt_lt, Int32.le_iff_toInt_le, ← Int32.toInt_inj, Int32.reduceToInt] at *); omega) | ((try simp only [g_m1, Int32.lt_iff_toInt_lt, Int32.le_iff_toInt_le, ← Int32.toInt_inj, Int32.reduceToInt] at *); omega) | ((try simp only [g_m1, Int32.lt_iff_toInt_lt, Int32.le_iff_toInt_le, ← Int32.toInt_inj, Int32.toInt_add, Int32.toInt_sub, Int32.toInt_mul, Int32.toInt_neg, Int32.reduceToInt, g_bm, g_bm'] at *); omega) | (have qr2 := g_rng x3; (try simp only [g_m1, Int32.lt_iff_toInt_lt, Int32.le_iff_toInt_le, ← Int32.toInt_inj, Int32.toInt_add, Int32.toInt_sub, Int32.toInt_mul, Int32.toInt_neg, Int32.reduceToInt, g_bm, g_bm'] at *); omega) | (simp only [g_m1, Int32.lt_iff_toInt_lt, Int32.le_iff_toInt_le, ← Int32.toInt_inj, Int32.toInt_add, Int32.toInt_sub, Int32.toInt_mul, Int32.toInt_neg, Int32.reduceToInt, g_bm, g_bm'] at *; simp at *; omega) | (simp_all; done)
set_option maxRecDepth 100000 in
theorem g_X12_lay_v13 (u : qS) (v : Int64) (x3 : Int32) (uc : qS) (h_t : 0 ≤ u.1 1202 ∧ u.1 1202 ≤ 1000) (h_k : x3 ≤ 56) (h_u : 0 ≤ uc.1 1202 ∧ uc.1 1202 ≤ 1000) (c4_1 : ¬ (x3 : Int32) < 0) (c21_2 : ¬ (((v >>> ((x3 : Int32).toInt64 &&& 63)).toInt32) &&& 255 : Int32) = 10) (c28_5 : ¬ (((v >>> ((x3 : Int32).toInt64 &&& 63)).toInt32) &&& 255 : Int32) < 32) (c35_6 : 126 < (((v >>> ((x3 : Int32).toInt64 &&& 63)).toInt32) &&& 255 : Int32)) : ((x3 + (-8)).toInt + 8).toNat < (x3.toInt + 8).toNat := by
  first | omega | ((try simp only [g_m1, Int32.lt_iff_toInt_lt, Int32.le_iff_toInt_le, ← Int32.toInt_inj, Int32.reduceToInt] at *); omega) | ((try have ez0 : (x3 + (-8) : Int32).toInt = (x3 : Int32).toInt + ((-8) : Int32).toInt := g_add (by (try simp only [g_m1, Int32.lt_iff_toInt_lt, Int32.le_iff_toInt_le, ← Int32.toInt_inj, Int32.reduceToInt] at *); omega) (by (try simp only [g_m1, Int32.lt_iff_toInt_lt, Int32.le_iff_toInt_le, ← Int32.toInt_inj, Int32.reduceToInt] at *); omega)); (try simp only [g_m1, Int32.lt_iff_toInt_lt, Int32.le_iff_toInt_le, ← Int32.toInt_inj, Int32.reduceToInt] at *); omega) | ((try simp only [g_m1, Int32.lt_iff_toInt_lt, Int32.le_iff_toInt_le, ← Int32.toInt_inj, Int32.toInt_add, Int32.toInt_sub, Int32.toInt_mul, Int32.toInt_neg, Int32.reduceToInt, g_bm, g_bm'] at *); omega) | (have qr2 := g_rng x3; (try simp only [g_m1, Int32.lt_iff_toInt_lt, Int32.le_iff_toInt_le, ← Int32.toInt_inj, Int32.toInt_add, Int32.toInt_sub, Int32.toInt_mul, Int32.toInt_neg, Int32.reduceToInt, g_bm, g_bm'] at *); omega) | (simp only [g_m1, Int32.lt_iff_toInt_lt, Int32.le_iff_toInt_le, ← Int32.toInt_inj, Int32.toInt_add, Int32.toInt_sub, Int32.toInt_mul, Int32.toInt_neg, Int32.reduceToInt, g_bm, g_bm'] at *; simp at *; omega) | (simp_all; done)
set_option maxRecDepth 100000 in
theorem g_X12_lay_v14 (u : qS) (v : Int64) (x3 : Int32) (uc : qS) (h_t : 0 ≤ u.1 1202 ∧ u.1 1202 ≤ 1000) (h_k : x3 ≤ 56) (h_u : 0 ≤ uc.1 1202 ∧ uc.1 1202 ≤ 1000) (c4_1 : ¬ (x3 : Int32) < 0) (c21_2 : ¬ (((v >>> ((x3 : Int32).toInt64 &&& 63)).toInt32) &&& 255 : Int32) = 10) (c28_5 : ¬ (((v >>> ((x3 : Int32).toInt64 &&& 63)).toInt32) &&& 255 : Int32) < 32) (c35_6 : ¬ 126 < (((v >>> ((x3 : Int32).toInt64 &&& 63)).toInt32) &&& 255 : Int32)) (c45_7 : 1000 ≤ (uc.1 1202 : Int32)) : (x3 + (-8)) ≤ 56 := by
  first | omega | ((try simp only [g_m1, Int32.lt_iff_toInt_lt, Int32.le_iff_toInt_le, ← Int32.toInt_inj, Int32.reduceToInt] at *); omega) | ((try have ez0 : (x3 + (-8) : Int32).toInt = (x3 : Int32).toInt + ((-8) : Int32).toInt := g_add (by (try simp only [g_m1, Int32.lt_iff_toInt_lt, Int32.le_iff_toInt_le, ← Int32.toInt_inj, Int32.reduceToInt] at *); omega) (by (try simp only [g_m1, Int32.lt_iff_toInt_lt, Int32.le_iff_toInt_le, ← Int32.toInt_inj, Int32.reduceToInt] at *); omega)); (try simp only [g_m1, Int32.lt_iff_toInt_lt, Int32.le_iff_toInt_le, ← Int32.toInt_inj, Int32.reduceToInt] at *); omega) | ((try simp only [g_m1, Int32.lt_iff_toInt_lt, Int32.le_iff_toInt_le, ← Int32.toInt_inj, Int32.toInt_add, Int32.toInt_sub, Int32.toInt_mul, Int32.toInt_neg, Int32.reduceToInt, g_bm, g_bm'] at *); omega) | (have qr2 := g_rng x3; (try simp only [g_m1, Int32.lt_iff_toInt_lt, Int32.le_iff_toInt_le, ← Int32.toInt_inj, Int32.toInt_add, Int32.toInt_sub, Int32.toInt_mul, Int32.toInt_neg, Int32.reduceToInt, g_bm, g_bm'] at *); omega) | (simp only [g_m1, Int32.lt_iff_toInt_lt, Int32.le_iff_toInt_le, ← Int32.toInt_inj, Int32.toInt_add, Int32.toInt_sub, Int32.toInt_mul, Int32.toInt_neg, Int32.reduceToInt, g_bm, g_bm'] at *; simp at *; omega) | (simp_all; done)
set_option maxRecDepth 100000 in
theorem g_X12_lay_v15 (u : qS) (v : Int64) (x3 : Int32) (uc : qS) (h_t : 0 ≤ u.1 1202 ∧ u.1 1202 ≤ 1000) (h_k : x3 ≤ 56) (h_u : 0 ≤ uc.1 1202 ∧ uc.1 1202 ≤ 1000) (c4_1 : ¬ (x3 : Int32) < 0) (c21_2 : ¬ (((v >>> ((x3 : Int32).toInt64 &&& 63)).toInt32) &&& 255 : Int32) = 10) (c28_5 : ¬ (((v >>> ((x3 : Int32).toInt64 &&& 63)).toInt32) &&& 255 : Int32) < 32) (c35_6 : ¬ 126 < (((v >>> ((x3 : Int32).toInt64 &&& 63)).toInt32) &&& 255 : Int32)) (c45_7 : 1000 ≤ (uc.1 1202 : Int32)) : 0 ≤ (uc.1 1202 : Int32) ∧ (uc.1 1202 : Int32) ≤ 1000 := by
  first | omega | ((try simp only [g_m1, Int32.lt_iff_toInt_lt, Int32.le_iff_toInt_le, ← Int32.toInt_inj, Int32.reduceToInt] at *); omega) | ((try simp only [g_m1, Int32.lt_iff_toInt_lt, Int32.le_iff_toInt_le, ← Int32.toInt_inj, Int32.reduceToInt] at *); omega) | ((try simp only [g_m1, Int32.lt_iff_toInt_lt, Int32.le_iff_toInt_le, ← Int32.toInt_inj, Int32.toInt_add, Int32.toInt_sub, Int32.toInt_mul, Int32.toInt_neg, Int32.reduceToInt, g_bm, g_bm'] at *); omega) | (have qr2 := g_rng x3; (try simp only [g_m1, Int32.lt_iff_toInt_lt, Int32.le_iff_toInt_le, ← Int32.toInt_inj, Int32.toInt_add, Int32.toInt_sub, Int32.toInt_mul, Int32.toInt_neg, Int32.reduceToInt, g_bm, g_bm'] at *); omega) | (simp only [g_m1, Int32.lt_iff_toInt_lt, Int32.le_iff_toInt_le, ← Int32.toInt_inj, Int32.toInt_add, Int32.toInt_sub, Int32.toInt_mul, Int32.toInt_neg, Int32.reduceToInt, g_bm, g_bm'] at *; simp at *; omega) | (simp_all; done)
set_option maxRecDepth 100000 in
theorem g_X12_lay_v16 (u : qS) (v : Int64) (x3 : Int32) (uc : qS) (h_t : 0 ≤ u.1 1202 ∧ u.1 1202 ≤ 1000) (h_k : x3 ≤ 56) (h_u : 0 ≤ uc.1 1202 ∧ uc.1 1202 ≤ 1000) (c4_1 : ¬ (x3 : Int32) < 0) (c21_2 : ¬ (((v >>> ((x3 : Int32).toInt64 &&& 63)).toInt32) &&& 255 : Int32) = 10) (c28_5 : ¬ (((v >>> ((x3 : Int32).toInt64 &&& 63)).toInt32) &&& 255 : Int32) < 32) (c35_6 : ¬ 126 < (((v >>> ((x3 : Int32).toInt64 &&& 63)).toInt32) &&& 255 : Int32)) (c45_7 : 1000 ≤ (uc.1 1202 : Int32)) : ((x3 + (-8)).toInt + 8).toNat < (x3.toInt + 8).toNat := by
  first | omega | ((try simp only [g_m1, Int32.lt_iff_toInt_lt, Int32.le_iff_toInt_le, ← Int32.toInt_inj, Int32.reduceToInt] at *); omega) | ((try have ez0 : (x3 + (-8) : Int32).toInt = (x3 : Int32).toInt + ((-8) : Int32).toInt := g_add (by (try simp only [g_m1, Int32.lt_iff_toInt_lt, Int32.le_iff_toInt_le, ← Int32.toInt_inj, Int32.reduceToInt] at *); omega) (by (try simp only [g_m1, Int32.lt_iff_toInt_lt, Int32.le_iff_toInt_le, ← Int32.toInt_inj, Int32.reduceToInt] at *); omega)); (try simp only [g_m1, Int32.lt_iff_toInt_lt, Int32.le_iff_toInt_le, ← Int32.toInt_inj, Int32.reduceToInt] at *); omega) | ((try simp only [g_m1, Int32.lt_iff_toInt_lt, Int32.le_iff_toInt_le, ← Int32.toInt_inj, Int32.toInt_add, Int32.toInt_sub, Int32.toInt_mul, Int32.toInt_neg, Int32.reduceToInt, g_bm, g_bm'] at *); omega) | (have qr2 := g_rng x3; (try simp only [g_m1, Int32.lt_iff_toInt_lt, Int32.le_iff_toInt_le, ← Int32.toInt_inj, Int32.toInt_add, Int32.toInt_sub, Int32.toInt_mul, Int32.toInt_neg, Int32.reduceToInt, g_bm, g_bm'] at *); omega) | (simp only [g_m1, Int32.lt_iff_toInt_lt, Int32.le_iff_toInt_le, ← Int32.toInt_inj, Int32.toInt_add, Int32.toInt_sub, Int32.toInt_mul, Int32.toInt_neg, Int32.reduceToInt, g_bm, g_bm'] at *; simp at *; omega) | (simp_all; done)
set_option maxRecDepth 100000 in
theorem g_X12_lay_v17 (u : qS) (v : Int64) (x3 : Int32) (uc : qS) (h_t : 0 ≤ u.1 1202 ∧ u.1 1202 ≤ 1000) (h_k : x3 ≤ 56) (h_u : 0 ≤ uc.1 1202 ∧ uc.1 1202 ≤ 1000) (c4_1 : ¬ (x3 : Int32) < 0) (c21_2 : ¬ (((v >>> ((x3 : Int32).toInt64 &&& 63)).toInt32) &&& 255 : Int32) = 10) (c28_5 : ¬ (((v >>> ((x3 : Int32).toInt64 &&& 63)).toInt32) &&& 255 : Int32) < 32) (c35_6 : ¬ 126 < (((v >>> ((x3 : Int32).toInt64 &&& 63)).toInt32) &&& 255 : Int32)) (c45_7 : ¬ 1000 ≤ (uc.1 1202 : Int32)) : vp_in (uc.1 1202) 1000 := by
  refine g_in ?_ ?_ <;> ((try simp only [g_m1, Int32.lt_iff_toInt_lt, Int32.le_iff_toInt_le, ← Int32.toInt_inj, Int32.toInt_add, Int32.toInt_sub, Int32.toInt_mul, Int32.toInt_neg, Int32.reduceToInt, g_bm, g_bm'] at *); omega)
set_option maxRecDepth 100000 in
theorem g_X12_lay_v18 (u : qS) (v : Int64) (x3 : Int32) (uc : qS) (f_8 : Nat → Int32) (h_t : 0 ≤ u.1 1202 ∧ u.1 1202 ≤ 1000) (h_k : x3 ≤ 56) (h_u : 0 ≤ uc.1 1202 ∧ uc.1 1202 ≤ 1000) (c4_1 : ¬ (x3 : Int32) < 0) (c21_2 : ¬ (((v >>> ((x3 : Int32).toInt64 &&& 63)).toInt32) &&& 255 : Int32) = 10) (c28_5 : ¬ (((v >>> ((x3 : Int32).toInt64 &&& 63)).toInt32) &&& 255 : Int32) < 32) (c35_6 : ¬ 126 < (((v >>> ((x3 : Int32).toInt64 &&& 63)).toInt32) &&& 255 : Int32)) (c45_7 : ¬ 1000 ≤ (uc.1 1202 : Int32)) (hf_8 : f_8 = upd (uc.2.1 1201) (uc.1 1202 : Int32).toNatClampNeg (((v >>> ((x3 : Int32).toInt64 &&& 63)).toInt32) &&& 255)) : (x3 + (-8)) ≤ 56 := by
  first | omega | ((try simp only [g_m1, Int32.lt_iff_toInt_lt, Int32.le_iff_toInt_le, ← Int32.toInt_inj, Int32.reduceToInt] at *); omega) | ((try have ez1 : (x3 + (-8) : Int32).toInt = (x3 : Int32).toInt + ((-8) : Int32).toInt := g_add (by (try simp only [g_m1, Int32.lt_iff_toInt_lt, Int32.le_iff_toInt_le, ← Int32.toInt_inj, Int32.reduceToInt] at *); omega) (by (try simp only [g_m1, Int32.lt_iff_toInt_lt, Int32.le_iff_toInt_le, ← Int32.toInt_inj, Int32.reduceToInt] at *); omega)); (try simp only [g_m1, Int32.lt_iff_toInt_lt, Int32.le_iff_toInt_le, ← Int32.toInt_inj, Int32.reduceToInt] at *); omega) | ((try simp only [g_m1, Int32.lt_iff_toInt_lt, Int32.le_iff_toInt_le, ← Int32.toInt_inj, Int32.toInt_add, Int32.toInt_sub, Int32.toInt_mul, Int32.toInt_neg, Int32.reduceToInt, g_bm, g_bm'] at *); omega) | (have qr2 := g_rng x3; (try simp only [g_m1, Int32.lt_iff_toInt_lt, Int32.le_iff_toInt_le, ← Int32.toInt_inj, Int32.toInt_add, Int32.toInt_sub, Int32.toInt_mul, Int32.toInt_neg, Int32.reduceToInt, g_bm, g_bm'] at *); omega) | (simp only [g_m1, Int32.lt_iff_toInt_lt, Int32.le_iff_toInt_le, ← Int32.toInt_inj, Int32.toInt_add, Int32.toInt_sub, Int32.toInt_mul, Int32.toInt_neg, Int32.reduceToInt, g_bm, g_bm'] at *; simp at *; omega) | (simp_all; done)
set_option maxRecDepth 100000 in
theorem g_X12_lay_v19 (u : qS) (v : Int64) (x3 : Int32) (uc : qS) (f_8 : Nat → Int32) (h_t : 0 ≤ u.1 1202 ∧ u.1 1202 ≤ 1000) (h_k : x3 ≤ 56) (h_u : 0 ≤ uc.1 1202 ∧ uc.1 1202 ≤ 1000) (c4_1 : ¬ (x3 : Int32) < 0) (c21_2 : ¬ (((v >>> ((x3 : Int32).toInt64 &&& 63)).toInt32) &&& 255 : Int32) = 10) (c28_5 : ¬ (((v >>> ((x3 : Int32).toInt64 &&& 63)).toInt32) &&& 255 : Int32) < 32) (c35_6 : ¬ 126 < (((v >>> ((x3 : Int32).toInt64 &&& 63)).toInt32) &&& 255 : Int32)) (c45_7 : ¬ 1000 ≤ (uc.1 1202 : Int32)) (hf_8 : f_8 = upd (uc.2.1 1201) (uc.1 1202 : Int32).toNatClampNeg (((v >>> ((x3 : Int32).toInt64 &&& 63)).toInt32) &&& 255)) : 0 ≤ ((uc.1 1202) + 1 : Int32) ∧ ((uc.1 1202) + 1 : Int32) ≤ 1000 := by
  first | omega | ((try simp only [g_m1, Int32.lt_iff_toInt_lt, Int32.le_iff_toInt_le, ← Int32.toInt_inj, Int32.reduceToInt] at *); omega) | ((try have ez0 : ((uc.1 1202) + 1 : Int32).toInt = (uc.1 1202 : Int32).toInt + (1 : Int32).toInt := g_add (by (try simp only [g_m1, Int32.lt_iff_toInt_lt, Int32.le_iff_toInt_le, ← Int32.toInt_inj, Int32.reduceToInt] at *); omega) (by (try simp only [g_m1, Int32.lt_iff_toInt_lt, Int32.le_iff_toInt_le, ← Int32.toInt_inj, Int32.reduceToInt] at *); omega)); (try simp only [g_m1, Int32.lt_iff_toInt_lt, Int32.le_iff_toInt_le, ← Int32.toInt_inj, Int32.reduceToInt] at *); omega) | ((try simp only [g_m1, Int32.lt_iff_toInt_lt, Int32.le_iff_toInt_le, ← Int32.toInt_inj, Int32.toInt_add, Int32.toInt_sub, Int32.toInt_mul, Int32.toInt_neg, Int32.reduceToInt, g_bm, g_bm'] at *); omega) | (have qr2 := g_rng x3; (try simp only [g_m1, Int32.lt_iff_toInt_lt, Int32.le_iff_toInt_le, ← Int32.toInt_inj, Int32.toInt_add, Int32.toInt_sub, Int32.toInt_mul, Int32.toInt_neg, Int32.reduceToInt, g_bm, g_bm'] at *); omega) | (simp only [g_m1, Int32.lt_iff_toInt_lt, Int32.le_iff_toInt_le, ← Int32.toInt_inj, Int32.toInt_add, Int32.toInt_sub, Int32.toInt_mul, Int32.toInt_neg, Int32.reduceToInt, g_bm, g_bm'] at *; simp at *; omega) | (simp_all; done)
set_option maxRecDepth 100000 in
theorem g_X12_lay_v20 (u : qS) (v : Int64) (x3 : Int32) (uc : qS) (f_8 : Nat → Int32) (h_t : 0 ≤ u.1 1202 ∧ u.1 1202 ≤ 1000) (h_k : x3 ≤ 56) (h_u : 0 ≤ uc.1 1202 ∧ uc.1 1202 ≤ 1000) (c4_1 : ¬ (x3 : Int32) < 0) (c21_2 : ¬ (((v >>> ((x3 : Int32).toInt64 &&& 63)).toInt32) &&& 255 : Int32) = 10) (c28_5 : ¬ (((v >>> ((x3 : Int32).toInt64 &&& 63)).toInt32) &&& 255 : Int32) < 32) (c35_6 : ¬ 126 < (((v >>> ((x3 : Int32).toInt64 &&& 63)).toInt32) &&& 255 : Int32)) (c45_7 : ¬ 1000 ≤ (uc.1 1202 : Int32)) (hf_8 : f_8 = upd (uc.2.1 1201) (uc.1 1202 : Int32).toNatClampNeg (((v >>> ((x3 : Int32).toInt64 &&& 63)).toInt32) &&& 255)) : ((x3 + (-8)).toInt + 8).toNat < (x3.toInt + 8).toNat := by
  first | omega | ((try simp only [g_m1, Int32.lt_iff_toInt_lt, Int32.le_iff_toInt_le, ← Int32.toInt_inj, Int32.reduceToInt] at *); omega) | ((try have ez1 : (x3 + (-8) : Int32).toInt = (x3 : Int32).toInt + ((-8) : Int32).toInt := g_add (by (try simp only [g_m1, Int32.lt_iff_toInt_lt, Int32.le_iff_toInt_le, ← Int32.toInt_inj, Int32.reduceToInt] at *); omega) (by (try simp only [g_m1, Int32.lt_iff_toInt_lt, Int32.le_iff_toInt_le, ← Int32.toInt_inj, Int32.reduceToInt] at *); omega)); (try simp only [g_m1, Int32.lt_iff_toInt_lt, Int32.le_iff_toInt_le, ← Int32.toInt_inj, Int32.reduceToInt] at *); omega) | ((try simp only [g_m1, Int32.lt_iff_toInt_lt, Int32.le_iff_toInt_le, ← Int32.toInt_inj, Int32.toInt_add, Int32.toInt_sub, Int32.toInt_mul, Int32.toInt_neg, Int32.reduceToInt, g_bm, g_bm'] at *); omega) | (have qr2 := g_rng x3; (try simp only [g_m1, Int32.lt_iff_toInt_lt, Int32.le_iff_toInt_le, ← Int32.toInt_inj, Int32.toInt_add, Int32.toInt_sub, Int32.toInt_mul, Int32.toInt_neg, Int32.reduceToInt, g_bm, g_bm'] at *); omega) | (simp only [g_m1, Int32.lt_iff_toInt_lt, Int32.le_iff_toInt_le, ← Int32.toInt_inj, Int32.toInt_add, Int32.toInt_sub, Int32.toInt_mul, Int32.toInt_neg, Int32.reduceToInt, g_bm, g_bm'] at *; simp at *; omega) | (simp_all; done)
set_option maxRecDepth 100000 in
theorem g_X12_lay_v21 (u : qS) (h_t : 0 ≤ u.1 1202 ∧ u.1 1202 ≤ 1000) : (56 : Int32) ≤ 56 := by
  first | omega | ((try simp only [g_m1, Int32.lt_iff_toInt_lt, Int32.le_iff_toInt_le, ← Int32.toInt_inj, Int32.reduceToInt] at *); omega) | ((try simp only [g_m1, Int32.lt_iff_toInt_lt, Int32.le_iff_toInt_le, ← Int32.toInt_inj, Int32.reduceToInt] at *); omega) | ((try simp only [g_m1, Int32.lt_iff_toInt_lt, Int32.le_iff_toInt_le, ← Int32.toInt_inj, Int32.toInt_add, Int32.toInt_sub, Int32.toInt_mul, Int32.toInt_neg, Int32.reduceToInt, g_bm, g_bm'] at *); omega) | ((try simp only [g_m1, Int32.lt_iff_toInt_lt, Int32.le_iff_toInt_le, ← Int32.toInt_inj, Int32.toInt_add, Int32.toInt_sub, Int32.toInt_mul, Int32.toInt_neg, Int32.reduceToInt, g_bm, g_bm'] at *); omega) | (simp only [g_m1, Int32.lt_iff_toInt_lt, Int32.le_iff_toInt_le, ← Int32.toInt_inj, Int32.toInt_add, Int32.toInt_sub, Int32.toInt_mul, Int32.toInt_neg, Int32.reduceToInt, g_bm, g_bm'] at *; simp at *; omega) | (simp_all; done)
set_option maxRecDepth 100000 in
theorem g_X12_lay_v22 (u : qS) (h_t : 0 ≤ u.1 1202 ∧ u.1 1202 ≤ 1000) : 0 ≤ (u.1 1202 : Int32) ∧ (u.1 1202 : Int32) ≤ 1000 := by
  first | omega | ((try simp only [g_m1, Int32.lt_iff_toInt_lt, Int32.le_iff_toInt_le, ← Int32.toInt_inj, Int32.reduceToInt] at *); omega) | ((try simp only [g_m1, Int32.lt_iff_toInt_lt, Int32.le_iff_toInt_le, ← Int32.toInt_inj, Int32.reduceToInt] at *); omega) | ((try simp only [g_m1, Int32.lt_iff_toInt_lt, Int32.le_iff_toInt_le, ← Int32.toInt_inj, Int32.toInt_add, Int32.toInt_sub, Int32.toInt_mul, Int32.toInt_neg, Int32.reduceToInt, g_bm, g_bm'] at *); omega) | ((try simp only [g_m1, Int32.lt_iff_toInt_lt, Int32.le_iff_toInt_le, ← Int32.toInt_inj, Int32.toInt_add, Int32.toInt_sub, Int32.toInt_mul, Int32.toInt_neg, Int32.reduceToInt, g_bm, g_bm'] at *); omega) | (simp only [g_m1, Int32.lt_iff_toInt_lt, Int32.le_iff_toInt_le, ← Int32.toInt_inj, Int32.toInt_add, Int32.toInt_sub, Int32.toInt_mul, Int32.toInt_neg, Int32.reduceToInt, g_bm, g_bm'] at *; simp at *; omega) | (simp_all; done)
set_option maxHeartbeats 1000000 in
set_option maxRecDepth 100000 in
theorem g_X12_lay (l : Launch) (E : qE) (A : Nat → Prop) (u : qS) (v : Int64) (h_t : 0 ≤ u.1 1202 ∧ u.1 1202 ≤ 1000) : Met l yX12_lay (uws yX12_lay cX12_lay 5 none) (qR 0 0 0) (qPc E A 1 u [.ref (E.2.2 1299), .long v]) (qQv E A 1 (fun u1 => qFr [1202] [1201] [] u u1 ∧ (0 ≤ u1.1 1202 ∧ u1.1 1202 ≤ 1000))) 0 0 A := by
  refine q_met (own := RX12) (f := 0) [.ref (E.2.2 1299), .long v] (by decide) (Nat.le_of_ble_eq_true rfl) rfl ?_
  intro p0 e0 s0 m0 bl0 me0 cd0 ls hF hr hlocks hU hS hA hl
  have hl : lv_has ls 5 [(0, .ref (E.2.2 1299)), (1, .long v)] := hl
  have hfr : qFr [1202] [1201] [] u u := qFr.rf
  have main : ∀ n : Nat, (∀ (x3 : Int32) (uc : qS) (H : Heap) (locs : List Loc) (ls : Array Slot) (hfr : qFr [1202] [1201] [] u uc) (h_k : x3 ≤ 56) (h_u : 0 ≤ uc.1 1202 ∧ uc.1 1202 ≤ 1000), (x3.toInt + 8).toNat < n → qH E A 1 uc s0 H → va_S A s0.heap H locs → lv_has ls 5 [(0, .ref (E.2.2 1299)), (1, .long v), (3, .int x3)] → W p0 l e0 (qR 0 0 0) s0 m0 ([.ref (E.2.2 1299), .long v] : List Value).toArray bl0 me0 cd0 H locs 0 0 (MQ bl0 (qQv E A 1 (fun u1 => qFr [1202] [1201] [] u u1 ∧ (0 ≤ u1.1 1202 ∧ u1.1 1202 ≤ 1000))) ([.ref (E.2.2 1299), .long v] : List Value).toArray s0 0 0 A) (F0 m0 3 ls [])) := by
    intro n
    induction n with
    | zero => exact fun _ _ _ _ _ _ _ _ hmu => absurd hmu (Nat.not_lt_zero _)
    | succ n ih =>
      intro x3 uc H locs ls hfr h_k h_u hmu hU hS hl
      refine lv_iload_n hF.1 hF.2.1 dX12_lay_3 rfl (lv_at hl 2 rfl) ?_
      refine lv_if_lt (tgt := 75) hF.1 hF.2.1 dX12_lay_4 (by decide) (fun c4_1 => ?_) (fun c4_1 => ?_)
      · exact q_vret hF hr hlocks hU hS dX12_lay_75 ⟨hfr, (g_X12_lay_v0 u x3 uc h_t h_k h_u c4_1)⟩
      · refine lv_lload_n hF.1 hF.2.1 dX12_lay_7 rfl (lv_at hl 1 rfl) ?_
        refine lv_iload_n hF.1 hF.2.1 dX12_lay_8 rfl (lv_at hl 2 rfl) ?_
        refine lv_lshr (v := v >>> ((x3 : Int32).toInt64 &&& 63)) hF.1 hF.2.1 dX12_lay_9 rfl ?_
        refine lv_l2i (v := (v >>> ((x3 : Int32).toInt64 &&& 63)).toInt32) hF.1 hF.2.1 dX12_lay_10 rfl ?_
        refine lv_sipush (v := 255) hF.1 hF.2.1 dX12_lay_11 (by decide) ?_
        refine lv_iand hF.1 hF.2.1 dX12_lay_14 ?_
        refine lv_istore (lv' := [(4, .int (((v >>> ((x3 : Int32).toInt64 &&& 63)).toInt32) &&& 255)), (0, .ref (E.2.2 1299)), (1, .long v), (3, .int x3)]) hF.1 hF.2.1 dX12_lay_15 hl (by decide) rfl (fun ls hl => ?_)
        refine lv_iload hF.1 hF.2.1 dX12_lay_17 (lv_at hl 0 rfl) ?_
        refine lv_bipush (v := 10) hF.1 hF.2.1 dX12_lay_19 (by decide) ?_
        refine lv_icmp_eq (tgt := 38) hF.1 hF.2.1 dX12_lay_21 (by decide) (fun c21_2 => ?_) (fun c21_2 => ?_)
        · refine lv_aload_n hF.1 hF.2.1 dX12_lay_38 rfl (lv_at hl 1 rfl) ?_
          refine q_get (v := .int (uc.1 1202)) hF hU dX12_lay_39 0 12 2 1202 1299 rfl rfl rfl rfl inX12 (by decide) (by decide) w_1331 rfl rfl ?_
          refine lv_sipush (v := 1000) hF.1 hF.2.1 dX12_lay_42 (by decide) ?_
          refine lv_icmp_ge (tgt := 69) hF.1 hF.2.1 dX12_lay_45 (by decide) (fun c45_3 => ?_) (fun c45_3 => ?_)
          · refine lv_iinc (v := x3 + (-8)) (lv' := [(3, .int (x3 + (-8))), (4, .int (((v >>> ((x3 : Int32).toInt64 &&& 63)).toInt32) &&& 255)), (0, .ref (E.2.2 1299)), (1, .long v)]) hF.1 hF.2.1 dX12_lay_69 hl (k := 3) rfl rfl (by decide) rfl (fun ls hl => ?_)
            refine lv_goto (tgt := 3) hF.1 hF.2.1 dX12_lay_72 (by decide) ?_
            exact ih (x3 + (-8)) uc _ _ _ hfr (g_X12_lay_v1 u v x3 uc h_t h_k h_u c4_1 c21_2 c45_3) (g_X12_lay_v2 u v x3 uc h_t h_k h_u c4_1 c21_2 c45_3) (Nat.lt_of_lt_of_le (g_X12_lay_v3 u v x3 uc h_t h_k h_u c4_1 c21_2 c45_3) (Nat.lt_succ_iff.mp hmu)) hU hS (lv_sub hl [2, 3, 0] rfl)
          · refine lv_aload_n hF.1 hF.2.1 dX12_lay_48 rfl (lv_at hl 1 rfl) ?_
            refine q_get (v := .ref (E.2.2 1201)) hF hU dX12_lay_49 0 12 1 1201 1299 rfl rfl rfl rfl inX12 (by decide) (by decide) w_1330 rfl rfl ?_
            refine lv_aload_n hF.1 hF.2.1 dX12_lay_52 rfl (lv_at hl 1 rfl) ?_
            refine q_get (v := .int (uc.1 1202)) hF hU dX12_lay_53 0 12 2 1202 1299 rfl rfl rfl rfl inX12 (by decide) (by decide) w_1331 rfl rfl ?_
            refine lv_iload hF.1 hF.2.1 dX12_lay_56 (lv_at hl 0 rfl) ?_
            refine q_iast hF hU hS dX12_lay_58 0 1201 rfl rfl (g_X12_lay_v4 u v x3 uc h_t h_k h_u c4_1 c21_2 c45_3) (fun f_4 H locs hg9 hU hS => ?_)
            have hf_4 : f_4 = upd (uc.2.1 1201) (uc.1 1202 : Int32).toNatClampNeg (((v >>> ((x3 : Int32).toInt64 &&& 63)).toInt32) &&& 255) := hg9
            have hfr : qFr [1202] [1201] [] u (qsF uc 1201 f_4) := hfr.setF (by decide)
            refine lv_aload_n hF.1 hF.2.1 dX12_lay_59 rfl (lv_at hl 1 rfl) ?_
            refine lv_dup hF.1 hF.2.1 dX12_lay_60 rfl ?_
            refine q_get (v := .int (uc.1 1202)) hF hU dX12_lay_61 0 12 2 1202 1299 rfl rfl rfl rfl inX12 (by decide) (by decide) w_1331 rfl rfl ?_
            refine lv_iconst (v := 1) hF.1 hF.2.1 dX12_lay_64 (by decide) ?_
            refine lv_iadd hF.1 hF.2.1 dX12_lay_65 ?_
            refine q_put hF hU hS dX12_lay_66 0 12 2 1202 1299 rfl rfl rfl rfl inX12 tyX12 tyX12_ok nmX12 (by decide) (by decide) rfl w_1331 rfl rfl rfl rfl (fun H locs hU hS => ?_)
            have hfr : qFr [1202] [1201] [] u (qsI (qsF uc 1201 f_4) 1202 ((uc.1 1202) + 1)) := hfr.setI (by decide)
            refine lv_iinc (v := x3 + (-8)) (lv' := [(3, .int (x3 + (-8))), (4, .int (((v >>> ((x3 : Int32).toInt64 &&& 63)).toInt32) &&& 255)), (0, .ref (E.2.2 1299)), (1, .long v)]) hF.1 hF.2.1 dX12_lay_69 hl (k := 3) rfl rfl (by decide) rfl (fun ls hl => ?_)
            refine lv_goto (tgt := 3) hF.1 hF.2.1 dX12_lay_72 (by decide) ?_
            exact ih (x3 + (-8)) (qsI (qsF uc 1201 f_4) 1202 ((uc.1 1202) + 1)) _ _ _ hfr (g_X12_lay_v5 u v x3 uc f_4 h_t h_k h_u c4_1 c21_2 c45_3 hf_4) (g_X12_lay_v6 u v x3 uc f_4 h_t h_k h_u c4_1 c21_2 c45_3 hf_4) (Nat.lt_of_lt_of_le (g_X12_lay_v7 u v x3 uc f_4 h_t h_k h_u c4_1 c21_2 c45_3 hf_4) (Nat.lt_succ_iff.mp hmu)) hU hS (lv_sub hl [2, 3, 0] rfl)
        · refine lv_iload hF.1 hF.2.1 dX12_lay_24 (lv_at hl 0 rfl) ?_
          refine lv_bipush (v := 32) hF.1 hF.2.1 dX12_lay_26 (by decide) ?_
          refine lv_icmp_lt (tgt := 69) hF.1 hF.2.1 dX12_lay_28 (by decide) (fun c28_5 => ?_) (fun c28_5 => ?_)
          · refine lv_iinc (v := x3 + (-8)) (lv' := [(3, .int (x3 + (-8))), (4, .int (((v >>> ((x3 : Int32).toInt64 &&& 63)).toInt32) &&& 255)), (0, .ref (E.2.2 1299)), (1, .long v)]) hF.1 hF.2.1 dX12_lay_69 hl (k := 3) rfl rfl (by decide) rfl (fun ls hl => ?_)
            refine lv_goto (tgt := 3) hF.1 hF.2.1 dX12_lay_72 (by decide) ?_
            exact ih (x3 + (-8)) uc _ _ _ hfr (g_X12_lay_v8 u v x3 uc h_t h_k h_u c4_1 c21_2 c28_5) (g_X12_lay_v9 u v x3 uc h_t h_k h_u c4_1 c21_2 c28_5) (Nat.lt_of_lt_of_le (g_X12_lay_v10 u v x3 uc h_t h_k h_u c4_1 c21_2 c28_5) (Nat.lt_succ_iff.mp hmu)) hU hS (lv_sub hl [2, 3, 0] rfl)
          · refine lv_iload hF.1 hF.2.1 dX12_lay_31 (lv_at hl 0 rfl) ?_
            refine lv_bipush (v := 126) hF.1 hF.2.1 dX12_lay_33 (by decide) ?_
            refine lv_icmp_gt (tgt := 69) hF.1 hF.2.1 dX12_lay_35 (by decide) (fun c35_6 => ?_) (fun c35_6 => ?_)
            · refine lv_iinc (v := x3 + (-8)) (lv' := [(3, .int (x3 + (-8))), (4, .int (((v >>> ((x3 : Int32).toInt64 &&& 63)).toInt32) &&& 255)), (0, .ref (E.2.2 1299)), (1, .long v)]) hF.1 hF.2.1 dX12_lay_69 hl (k := 3) rfl rfl (by decide) rfl (fun ls hl => ?_)
              refine lv_goto (tgt := 3) hF.1 hF.2.1 dX12_lay_72 (by decide) ?_
              exact ih (x3 + (-8)) uc _ _ _ hfr (g_X12_lay_v11 u v x3 uc h_t h_k h_u c4_1 c21_2 c28_5 c35_6) (g_X12_lay_v12 u v x3 uc h_t h_k h_u c4_1 c21_2 c28_5 c35_6) (Nat.lt_of_lt_of_le (g_X12_lay_v13 u v x3 uc h_t h_k h_u c4_1 c21_2 c28_5 c35_6) (Nat.lt_succ_iff.mp hmu)) hU hS (lv_sub hl [2, 3, 0] rfl)
            · refine lv_aload_n hF.1 hF.2.1 dX12_lay_38 rfl (lv_at hl 1 rfl) ?_
              refine q_get (v := .int (uc.1 1202)) hF hU dX12_lay_39 0 12 2 1202 1299 rfl rfl rfl rfl inX12 (by decide) (by decide) w_1331 rfl rfl ?_
              refine lv_sipush (v := 1000) hF.1 hF.2.1 dX12_lay_42 (by decide) ?_
              refine lv_icmp_ge (tgt := 69) hF.1 hF.2.1 dX12_lay_45 (by decide) (fun c45_7 => ?_) (fun c45_7 => ?_)
              · refine lv_iinc (v := x3 + (-8)) (lv' := [(3, .int (x3 + (-8))), (4, .int (((v >>> ((x3 : Int32).toInt64 &&& 63)).toInt32) &&& 255)), (0, .ref (E.2.2 1299)), (1, .long v)]) hF.1 hF.2.1 dX12_lay_69 hl (k := 3) rfl rfl (by decide) rfl (fun ls hl => ?_)
                refine lv_goto (tgt := 3) hF.1 hF.2.1 dX12_lay_72 (by decide) ?_
                exact ih (x3 + (-8)) uc _ _ _ hfr (g_X12_lay_v14 u v x3 uc h_t h_k h_u c4_1 c21_2 c28_5 c35_6 c45_7) (g_X12_lay_v15 u v x3 uc h_t h_k h_u c4_1 c21_2 c28_5 c35_6 c45_7) (Nat.lt_of_lt_of_le (g_X12_lay_v16 u v x3 uc h_t h_k h_u c4_1 c21_2 c28_5 c35_6 c45_7) (Nat.lt_succ_iff.mp hmu)) hU hS (lv_sub hl [2, 3, 0] rfl)
              · refine lv_aload_n hF.1 hF.2.1 dX12_lay_48 rfl (lv_at hl 1 rfl) ?_
                refine q_get (v := .ref (E.2.2 1201)) hF hU dX12_lay_49 0 12 1 1201 1299 rfl rfl rfl rfl inX12 (by decide) (by decide) w_1330 rfl rfl ?_
                refine lv_aload_n hF.1 hF.2.1 dX12_lay_52 rfl (lv_at hl 1 rfl) ?_
                refine q_get (v := .int (uc.1 1202)) hF hU dX12_lay_53 0 12 2 1202 1299 rfl rfl rfl rfl inX12 (by decide) (by decide) w_1331 rfl rfl ?_
                refine lv_iload hF.1 hF.2.1 dX12_lay_56 (lv_at hl 0 rfl) ?_
                refine q_iast hF hU hS dX12_lay_58 0 1201 rfl rfl (g_X12_lay_v17 u v x3 uc h_t h_k h_u c4_1 c21_2 c28_5 c35_6 c45_7) (fun f_8 H locs hg9 hU hS => ?_)
                have hf_8 : f_8 = upd (uc.2.1 1201) (uc.1 1202 : Int32).toNatClampNeg (((v >>> ((x3 : Int32).toInt64 &&& 63)).toInt32) &&& 255) := hg9
                have hfr : qFr [1202] [1201] [] u (qsF uc 1201 f_8) := hfr.setF (by decide)
                refine lv_aload_n hF.1 hF.2.1 dX12_lay_59 rfl (lv_at hl 1 rfl) ?_
                refine lv_dup hF.1 hF.2.1 dX12_lay_60 rfl ?_
                refine q_get (v := .int (uc.1 1202)) hF hU dX12_lay_61 0 12 2 1202 1299 rfl rfl rfl rfl inX12 (by decide) (by decide) w_1331 rfl rfl ?_
                refine lv_iconst (v := 1) hF.1 hF.2.1 dX12_lay_64 (by decide) ?_
                refine lv_iadd hF.1 hF.2.1 dX12_lay_65 ?_
                refine q_put hF hU hS dX12_lay_66 0 12 2 1202 1299 rfl rfl rfl rfl inX12 tyX12 tyX12_ok nmX12 (by decide) (by decide) rfl w_1331 rfl rfl rfl rfl (fun H locs hU hS => ?_)
                have hfr : qFr [1202] [1201] [] u (qsI (qsF uc 1201 f_8) 1202 ((uc.1 1202) + 1)) := hfr.setI (by decide)
                refine lv_iinc (v := x3 + (-8)) (lv' := [(3, .int (x3 + (-8))), (4, .int (((v >>> ((x3 : Int32).toInt64 &&& 63)).toInt32) &&& 255)), (0, .ref (E.2.2 1299)), (1, .long v)]) hF.1 hF.2.1 dX12_lay_69 hl (k := 3) rfl rfl (by decide) rfl (fun ls hl => ?_)
                refine lv_goto (tgt := 3) hF.1 hF.2.1 dX12_lay_72 (by decide) ?_
                exact ih (x3 + (-8)) (qsI (qsF uc 1201 f_8) 1202 ((uc.1 1202) + 1)) _ _ _ hfr (g_X12_lay_v18 u v x3 uc f_8 h_t h_k h_u c4_1 c21_2 c28_5 c35_6 c45_7 hf_8) (g_X12_lay_v19 u v x3 uc f_8 h_t h_k h_u c4_1 c21_2 c28_5 c35_6 c45_7 hf_8) (Nat.lt_of_lt_of_le (g_X12_lay_v20 u v x3 uc f_8 h_t h_k h_u c4_1 c21_2 c28_5 c35_6 c45_7 hf_8) (Nat.lt_succ_iff.mp hmu)) hU hS (lv_sub hl [2, 3, 0] rfl)
  refine lv_bipush (v := 56) hF.1 hF.2.1 dX12_lay_0 (by decide) ?_
  refine lv_istore_n (lv' := [(3, .int 56), (0, .ref (E.2.2 1299)), (1, .long v)]) hF.1 hF.2.1 dX12_lay_2 rfl hl (by decide) rfl (fun ls hl => ?_)
  exact (main _) (56 : Int32) u _ _ _ hfr (g_X12_lay_v21 u h_t) (g_X12_lay_v22 u h_t) (Nat.lt_succ_self _) hU hS (lv_sub hl [1, 2, 0] rfl)
set_option maxRecDepth 100000 in
theorem g_X12_feed_v0 (u : qS) (hI : IM u) : 0 ≤ (u.1 1202 : Int32) ∧ (u.1 1202 : Int32) ≤ 1000 := by
  have hz1202 := hI.1.s1202
  first | omega | ((try simp only [g_m1, Int32.lt_iff_toInt_lt, Int32.le_iff_toInt_le, ← Int32.toInt_inj, Int32.reduceToInt] at *); omega) | ((try simp only [g_m1, Int32.lt_iff_toInt_lt, Int32.le_iff_toInt_le, ← Int32.toInt_inj, Int32.reduceToInt] at *); omega) | ((try simp only [g_m1, Int32.lt_iff_toInt_lt, Int32.le_iff_toInt_le, ← Int32.toInt_inj, Int32.toInt_add, Int32.toInt_sub, Int32.toInt_mul, Int32.toInt_neg, Int32.reduceToInt, g_bm, g_bm'] at *); omega) | ((try simp only [g_m1, Int32.lt_iff_toInt_lt, Int32.le_iff_toInt_le, ← Int32.toInt_inj, Int32.toInt_add, Int32.toInt_sub, Int32.toInt_mul, Int32.toInt_neg, Int32.reduceToInt, g_bm, g_bm'] at *); omega) | (simp only [g_m1, Int32.lt_iff_toInt_lt, Int32.le_iff_toInt_le, ← Int32.toInt_inj, Int32.toInt_add, Int32.toInt_sub, Int32.toInt_mul, Int32.toInt_neg, Int32.reduceToInt, g_bm, g_bm'] at *; simp at *; omega) | (simp_all; done)
set_option maxRecDepth 100000 in
theorem g_X12_feed_v1 (u : qS) (u_1 : qS) (hI : IM u) (hw_2 : 0 ≤ u_1.1 1202 ∧ u_1.1 1202 ≤ 1000) : 0 ≤ (u_1.1 1202 : Int32) ∧ (u_1.1 1202 : Int32) ≤ 1000 := by
  first | omega | ((try simp only [g_m1, Int32.lt_iff_toInt_lt, Int32.le_iff_toInt_le, ← Int32.toInt_inj, Int32.reduceToInt] at *); omega) | ((try simp only [g_m1, Int32.lt_iff_toInt_lt, Int32.le_iff_toInt_le, ← Int32.toInt_inj, Int32.reduceToInt] at *); omega) | ((try simp only [g_m1, Int32.lt_iff_toInt_lt, Int32.le_iff_toInt_le, ← Int32.toInt_inj, Int32.toInt_add, Int32.toInt_sub, Int32.toInt_mul, Int32.toInt_neg, Int32.reduceToInt, g_bm, g_bm'] at *); omega) | ((try simp only [g_m1, Int32.lt_iff_toInt_lt, Int32.le_iff_toInt_le, ← Int32.toInt_inj, Int32.toInt_add, Int32.toInt_sub, Int32.toInt_mul, Int32.toInt_neg, Int32.reduceToInt, g_bm, g_bm'] at *); omega) | (simp only [g_m1, Int32.lt_iff_toInt_lt, Int32.le_iff_toInt_le, ← Int32.toInt_inj, Int32.toInt_add, Int32.toInt_sub, Int32.toInt_mul, Int32.toInt_neg, Int32.reduceToInt, g_bm, g_bm'] at *; simp at *; omega) | (simp_all; done)
set_option maxRecDepth 100000 in
theorem g_X12_feed_v2 (u : qS) (u_1 : qS) (u_5 : qS) (hI : IM u) (hw_2 : 0 ≤ u_1.1 1202 ∧ u_1.1 1202 ≤ 1000) (hw_6 : 0 ≤ u_5.1 1202 ∧ u_5.1 1202 ≤ 1000) : 0 ≤ (u_5.1 1202 : Int32) ∧ (u_5.1 1202 : Int32) ≤ 1000 := by
  first | omega | ((try simp only [g_m1, Int32.lt_iff_toInt_lt, Int32.le_iff_toInt_le, ← Int32.toInt_inj, Int32.reduceToInt] at *); omega) | ((try simp only [g_m1, Int32.lt_iff_toInt_lt, Int32.le_iff_toInt_le, ← Int32.toInt_inj, Int32.reduceToInt] at *); omega) | ((try simp only [g_m1, Int32.lt_iff_toInt_lt, Int32.le_iff_toInt_le, ← Int32.toInt_inj, Int32.toInt_add, Int32.toInt_sub, Int32.toInt_mul, Int32.toInt_neg, Int32.reduceToInt, g_bm, g_bm'] at *); omega) | ((try simp only [g_m1, Int32.lt_iff_toInt_lt, Int32.le_iff_toInt_le, ← Int32.toInt_inj, Int32.toInt_add, Int32.toInt_sub, Int32.toInt_mul, Int32.toInt_neg, Int32.reduceToInt, g_bm, g_bm'] at *); omega) | (simp only [g_m1, Int32.lt_iff_toInt_lt, Int32.le_iff_toInt_le, ← Int32.toInt_inj, Int32.toInt_add, Int32.toInt_sub, Int32.toInt_mul, Int32.toInt_neg, Int32.reduceToInt, g_bm, g_bm'] at *; simp at *; omega) | (simp_all; done)
set_option maxHeartbeats 1000000 in
set_option maxRecDepth 100000 in
theorem g_X12_feed (l : Launch) (E : qE) (A : Nat → Prop) (u : qS) (a : Int64) (b : Int64) (c : Int64) (hI : IM u) : Met l yX12_feed (uws yX12_feed cX12_feed 7 (some .int)) (qR 1 0 0) (qPc E A 1 u [.ref (E.2.2 1299), .long a, .long b, .long c]) (qQi E A 1 (fun r u1 => qFr [1200, 1202] [1201] [] u u1 ∧ IM u1 ∧ (True))) 0 0 A := by
  refine q_met (own := RX12) (f := 1) [.ref (E.2.2 1299), .long a, .long b, .long c] (by decide) (Nat.le_of_ble_eq_true rfl) rfl ?_
  intro p0 e0 s0 m0 bl0 me0 cd0 ls hF hr hlocks hU hS hA hl
  have hl : lv_has ls 7 [(0, .ref (E.2.2 1299)), (1, .long a), (3, .long b), (5, .long c)] := hl
  have hfr : qFr [1200, 1202] [1201] [] u u := qFr.rf
  refine lv_aload_n hF.1 hF.2.1 dX12_feed_0 rfl (lv_at hl 0 rfl) ?_
  refine lv_iconst (v := 0) hF.1 hF.2.1 dX12_feed_1 (by decide) ?_
  refine q_put hF hU hS dX12_feed_2 0 12 0 1200 1299 rfl rfl rfl rfl inX12 tyX12 tyX12_ok nmX12 (by decide) (by decide) rfl w_1329 rfl rfl rfl rfl (fun H locs hU hS => ?_)
  have hfr : qFr [1200, 1202] [1201] [] u (qsI u 1200 0) := hfr.setI (by decide)
  refine lv_aload_n hF.1 hF.2.1 dX12_feed_5 rfl (lv_at hl 0 rfl) ?_
  refine lv_lload_n hF.1 hF.2.1 dX12_feed_6 rfl (lv_at hl 1 rfl) ?_
  have hM9 := g_X12_lay l E A (qsI u 1200 0) a (g_X12_feed_v0 u hI)
  have hR9 := q_runV (l := l) (e := e0) (below := bl0) (meth := me0) (R := qR 1 0 0) (cells := 0) (slots := 0) (st0 := [.long a, .ref (E.2.2 1299)]) (rest := []) hF hU hS hA 1 0 12 1299 rfl rfl rfl hM9 w_1303 w_1305 w_46 w_107 w_1307 (by decide +kernel) ⟨Nat.le_of_ble_eq_true rfl, Nat.le_of_ble_eq_true rfl⟩ dX12_feed_7 rfl hl.1 rfl (Nat.le_of_ble_eq_true rfl) ⟨Nat.le_of_ble_eq_true rfl, Nat.le_of_ble_eq_true rfl⟩
  refine q_callv hR9 hU.2.2.2 hS (fun u_1 H locs hw_2 hU hS => ?_)
  have hw_2_f := hw_2.1
  have hfo := hfr
  have hfr : qFr [1200, 1202] [1201] [] u u_1 := hfr.trans (hw_2_f.mono (by decide) (by decide) (by decide))
  have hw_2 := hw_2.2
  have e_4 : u_1.1 1200 = 0 := (hw_2_f.1 1200 (by decide)).trans rfl
  have hw_2 : 0 ≤ u_1.1 1202 ∧ u_1.1 1202 ≤ 1000 := hw_2
  refine lv_aload_n hF.1 hF.2.1 dX12_feed_10 rfl (lv_at hl 0 rfl) ?_
  refine lv_lload_n hF.1 hF.2.1 dX12_feed_11 rfl (lv_at hl 2 rfl) ?_
  have hM9 := g_X12_lay l E A u_1 b (g_X12_feed_v1 u u_1 hI hw_2)
  have hR9 := q_runV (l := l) (e := e0) (below := bl0) (meth := me0) (R := qR 1 0 0) (cells := 0) (slots := 0) (st0 := [.long b, .ref (E.2.2 1299)]) (rest := []) hF hU hS hA 1 0 12 1299 rfl rfl rfl hM9 w_1303 w_1305 w_46 w_107 w_1307 (by decide +kernel) ⟨Nat.le_of_ble_eq_true rfl, Nat.le_of_ble_eq_true rfl⟩ dX12_feed_12 rfl hl.1 rfl (Nat.le_of_ble_eq_true rfl) ⟨Nat.le_of_ble_eq_true rfl, Nat.le_of_ble_eq_true rfl⟩
  refine q_callv hR9 hU.2.2.2 hS (fun u_5 H locs hw_6 hU hS => ?_)
  have hw_6_f := hw_6.1
  have hfo := hfr
  have hfr : qFr [1200, 1202] [1201] [] u u_5 := hfr.trans (hw_6_f.mono (by decide) (by decide) (by decide))
  have hw_6 := hw_6.2
  have e_8 : u_5.1 1200 = 0 := (hw_6_f.1 1200 (by decide)).trans e_4
  have hw_6 : 0 ≤ u_5.1 1202 ∧ u_5.1 1202 ≤ 1000 := hw_6
  refine lv_aload_n hF.1 hF.2.1 dX12_feed_15 rfl (lv_at hl 0 rfl) ?_
  refine lv_lload hF.1 hF.2.1 dX12_feed_16 (lv_at hl 3 rfl) ?_
  have hM9 := g_X12_lay l E A u_5 c (g_X12_feed_v2 u u_1 u_5 hI hw_2 hw_6)
  have hR9 := q_runV (l := l) (e := e0) (below := bl0) (meth := me0) (R := qR 1 0 0) (cells := 0) (slots := 0) (st0 := [.long c, .ref (E.2.2 1299)]) (rest := []) hF hU hS hA 1 0 12 1299 rfl rfl rfl hM9 w_1303 w_1305 w_46 w_107 w_1307 (by decide +kernel) ⟨Nat.le_of_ble_eq_true rfl, Nat.le_of_ble_eq_true rfl⟩ dX12_feed_18 rfl hl.1 rfl (Nat.le_of_ble_eq_true rfl) ⟨Nat.le_of_ble_eq_true rfl, Nat.le_of_ble_eq_true rfl⟩
  refine q_callv hR9 hU.2.2.2 hS (fun u_9 H locs hw_10 hU hS => ?_)
  have hw_10_f := hw_10.1
  have hfo := hfr
  have hfr : qFr [1200, 1202] [1201] [] u u_9 := hfr.trans (hw_10_f.mono (by decide) (by decide) (by decide))
  have hw_10 := hw_10.2
  have e_12 : u_9.1 1200 = 0 := (hw_10_f.1 1200 (by decide)).trans e_8
  have hw_10 : 0 ≤ u_9.1 1202 ∧ u_9.1 1202 ≤ 1000 := hw_10
  refine lv_aload_n hF.1 hF.2.1 dX12_feed_21 rfl (lv_at hl 0 rfl) ?_
  refine q_get (v := .int (u_9.1 1202)) hF hU dX12_feed_22 0 12 2 1202 1299 rfl rfl rfl rfl inX12 (by decide) (by decide) w_1331 rfl rfl ?_
  exact q_iret hF hr rfl hlocks hU hS dX12_feed_25 ⟨hfr, hI.tape hfr hw_10, trivial⟩
