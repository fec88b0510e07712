set_option maxRecDepth 100000 in
theorem g_X12_viewDay_f_v0 (u : qS) (k : qS) (hk : IK k u) (c4_1 : 0 ≤ (u.1 1231 : Int32)) : (u.1 1231 : Int32) = f_vd k := by
  have k1230 := hk.i 1230 (by decide)
  have k1231 := hk.i 1231 (by decide)
  unfold f_vd; rw [← k1230, ← k1231]; first | rw [if_pos (by assumption)] | rw [if_neg (by assumption)]
set_option maxRecDepth 100000 in
theorem g_X12_viewDay_f_v1 (u : qS) (k : qS) (hk : IK k u) (c4_1 : ¬ 0 ≤ (u.1 1231 : Int32)) : (u.1 1230 : Int32) = f_vd k := by
  have k1230 := hk.i 1230 (by decide)
  have k1231 := hk.i 1231 (by decide)
  unfold f_vd; rw [← k1230, ← k1231]; first | rw [if_pos (by assumption)] | rw [if_neg (by assumption)]
set_option maxHeartbeats 1000000 in
set_option maxRecDepth 100000 in
theorem g_X12_viewDay_f (l : Launch) (E : qE) (A : Nat → Prop) (u : qS) (k : qS) (hk : IK k u) : Met l yX12_viewDay (uws yX12_viewDay cX12_viewDay 1 (some .int)) (qR 0 0 0) (qPc E A 1 u [.ref (E.2.2 1299)]) (qQi E A 1 (fun r u1 => u1 = u ∧ (r = f_vd k))) 0 0 A := by
  refine q_met (own := RX12) (f := 0) [.ref (E.2.2 1299)] (by decide) (Nat.le_of_ble_eq_true rfl) rfl ?_
  intro p0 e0 s0 m0 bl0 me0 cd0 ls hF hr hlocks hU hS hA hl
  have hl : lv_has ls 1 [(0, .ref (E.2.2 1299))] := hl
  refine lv_aload_n hF.1 hF.2.1 dX12_viewDay_0 rfl (lv_at hl 0 rfl) ?_
  refine q_get (v := .int (u.1 1231)) hF hU dX12_viewDay_1 0 12 31 1231 1299 rfl rfl rfl rfl inX12 (by decide) (by decide) w_1363 rfl rfl ?_
  refine lv_if_ge (tgt := 14) hF.1 hF.2.1 dX12_viewDay_4 (by decide) (fun c4_1 => ?_) (fun c4_1 => ?_)
  · refine lv_aload_n hF.1 hF.2.1 dX12_viewDay_14 rfl (lv_at hl 0 rfl) ?_
    refine q_get (v := .int (u.1 1231)) hF hU dX12_viewDay_15 0 12 31 1231 1299 rfl rfl rfl rfl inX12 (by decide) (by decide) w_1363 rfl rfl ?_
    exact q_iret hF hr rfl hlocks hU hS dX12_viewDay_18 ⟨rfl, (g_X12_viewDay_f_v0 u k hk c4_1)⟩
  · refine lv_aload_n hF.1 hF.2.1 dX12_viewDay_7 rfl (lv_at hl 0 rfl) ?_
    refine q_get (v := .int (u.1 1230)) hF hU dX12_viewDay_8 0 12 30 1230 1299 rfl rfl rfl rfl inX12 (by decide) (by decide) w_1362 rfl rfl ?_
    refine lv_goto (tgt := 18) hF.1 hF.2.1 dX12_viewDay_11 (by decide) ?_
    exact q_iret hF hr rfl hlocks hU hS dX12_viewDay_18 ⟨rfl, (g_X12_viewDay_f_v1 u k hk c4_1)⟩
set_option maxRecDepth 100000 in
theorem g_X12_isSeen_f_v0 (u : qS) (x : Int32) (k : qS) (hI : IM u) (hk : IK k u) (c1_1 : (x : Int32) < 0) : (0 = (1 : Int32) ∧ (f_sn k x)) ∨ (0 = (0 : Int32) ∧ ¬ (f_sn k x)) := by
  have k1247 := hk.i 1247 (by decide)
  have k1255 := hk.r 1255 (by decide)
  unfold f_sn; rw [← k1247, ← k1255]; clear hk; first | (refine Or.inl ⟨rfl, ?_⟩; (try simp only [g_m1, Int32.lt_iff_toInt_lt, Int32.le_iff_toInt_le, ← Int32.toInt_inj, Int32.reduceToInt] at *); omega) | (refine Or.inr ⟨rfl, ?_⟩; (try simp only [g_m1, Int32.lt_iff_toInt_lt, Int32.le_iff_toInt_le, ← Int32.toInt_inj, Int32.reduceToInt] at *); omega)
set_option maxRecDepth 100000 in
theorem g_X12_isSeen_f_v1 (u : qS) (x : Int32) (k : qS) (hI : IM u) (hk : IK k u) (c1_1 : ¬ (x : Int32) < 0) (hs_2 : 0 ≤ u.1 1247 ∧ u.1 1247 ≤ 120) (c9_3 : (u.1 1247) ≤ (x : Int32)) : (0 = (1 : Int32) ∧ (f_sn k x)) ∨ (0 = (0 : Int32) ∧ ¬ (f_sn k x)) := by
  have k1247 := hk.i 1247 (by decide)
  have k1255 := hk.r 1255 (by decide)
  unfold f_sn; rw [← k1247, ← k1255]; clear hk; first | (refine Or.inl ⟨rfl, ?_⟩; (try simp only [g_m1, Int32.lt_iff_toInt_lt, Int32.le_iff_toInt_le, ← Int32.toInt_inj, Int32.reduceToInt] at *); omega) | (refine Or.inr ⟨rfl, ?_⟩; (try simp only [g_m1, Int32.lt_iff_toInt_lt, Int32.le_iff_toInt_le, ← Int32.toInt_inj, Int32.reduceToInt] at *); omega)
set_option maxRecDepth 100000 in
theorem g_X12_isSeen_f_v2 (u : qS) (x : Int32) (k : qS) (hI : IM u) (hk : IK k u) (c1_1 : ¬ (x : Int32) < 0) (hs_2 : 0 ≤ u.1 1247 ∧ u.1 1247 ≤ 120) (c9_3 : ¬ (u.1 1247) ≤ (x : Int32)) : vp_in (x) 120 := by
  refine g_in ?_ ?_ <;> ((try simp only [g_m1, Int32.lt_iff_toInt_lt, Int32.le_iff_toInt_le, ← Int32.toInt_inj, Int32.toInt_add, Int32.toInt_sub, Int32.toInt_mul, Int32.toInt_neg, Int32.reduceToInt, g_bm, g_bm'] at *); omega)
set_option maxRecDepth 100000 in
theorem g_X12_isSeen_f_v3 (u : qS) (x : Int32) (k : qS) (r_6 : Int32) (hI : IM u) (hk : IK k u) (c1_1 : ¬ (x : Int32) < 0) (hs_2 : 0 ≤ u.1 1247 ∧ u.1 1247 ≤ 120) (c9_3 : ¬ (u.1 1247) ≤ (x : Int32)) (hw_5 : r_6 = f_vd k) (c22_7 : r_6 < (u.2.1 1255 (x : Int32).toNatClampNeg : Int32)) : (0 = (1 : Int32) ∧ (f_sn k x)) ∨ (0 = (0 : Int32) ∧ ¬ (f_sn k x)) := by
  have k1247 := hk.i 1247 (by decide)
  have k1255 := hk.r 1255 (by decide)
  unfold f_sn; rw [← k1247, ← k1255]; clear hk; first | (refine Or.inl ⟨rfl, ?_⟩; (try simp only [g_m1, Int32.lt_iff_toInt_lt, Int32.le_iff_toInt_le, ← Int32.toInt_inj, Int32.reduceToInt] at *); omega) | (refine Or.inr ⟨rfl, ?_⟩; (try simp only [g_m1, Int32.lt_iff_toInt_lt, Int32.le_iff_toInt_le, ← Int32.toInt_inj, Int32.reduceToInt] at *); omega)
set_option maxRecDepth 100000 in
theorem g_X12_isSeen_f_v4 (u : qS) (x : Int32) (k : qS) (r_6 : Int32) (hI : IM u) (hk : IK k u) (c1_1 : ¬ (x : Int32) < 0) (hs_2 : 0 ≤ u.1 1247 ∧ u.1 1247 ≤ 120) (c9_3 : ¬ (u.1 1247) ≤ (x : Int32)) (hw_5 : r_6 = f_vd k) (c22_7 : ¬ r_6 < (u.2.1 1255 (x : Int32).toNatClampNeg : Int32)) : (1 = (1 : Int32) ∧ (f_sn k x)) ∨ (1 = (0 : Int32) ∧ ¬ (f_sn k x)) := by
  have k1247 := hk.i 1247 (by decide)
  have k1255 := hk.r 1255 (by decide)
  unfold f_sn; rw [← k1247, ← k1255]; clear hk; first | (refine Or.inl ⟨rfl, ?_⟩; (try simp only [g_m1, Int32.lt_iff_toInt_lt, Int32.le_iff_toInt_le, ← Int32.toInt_inj, Int32.reduceToInt] at *); omega) | (refine Or.inr ⟨rfl, ?_⟩; (try simp only [g_m1, Int32.lt_iff_toInt_lt, Int32.le_iff_toInt_le, ← Int32.toInt_inj, Int32.reduceToInt] at *); omega)
set_option maxHeartbeats 1000000 in
set_option maxRecDepth 100000 in
theorem g_X12_isSeen_f (l : Launch) (E : qE) (A : Nat → Prop) (u : qS) (x : Int32) (k : qS) (hI : IM u) (hk : IK k u) : Met l yX12_isSeen (uws yX12_isSeen cX12_isSeen 2 (some .boolean)) (qR 1 0 0) (qPc E A 1 u [.ref (E.2.2 1299), .int x]) (qQi E A 1 (fun r u1 => u1 = u ∧ ((r = 1 ∧ (f_sn k x)) ∨ (r = 0 ∧ ¬ (f_sn k x))))) 0 0 A := by
  refine q_met (own := RX12) (f := 1) [.ref (E.2.2 1299), .int x] (by decide) (Nat.le_of_ble_eq_true rfl) rfl ?_
  intro p0 e0 s0 m0 bl0 me0 cd0 ls hF hr hlocks hU hS hA hl
  have hl : lv_has ls 2 [(0, .ref (E.2.2 1299)), (1, .int x)] := hl
  refine lv_iload_n hF.1 hF.2.1 dX12_isSeen_0 rfl (lv_at hl 1 rfl) ?_
  refine lv_if_lt (tgt := 29) hF.1 hF.2.1 dX12_isSeen_1 (by decide) (fun c1_1 => ?_) (fun c1_1 => ?_)
  · refine lv_iconst (v := 0) hF.1 hF.2.1 dX12_isSeen_29 (by decide) ?_
    exact q_iret hF hr (by decide) hlocks hU hS dX12_isSeen_30 ⟨rfl, (g_X12_isSeen_f_v0 u x k hI hk c1_1)⟩
  · refine lv_iload_n hF.1 hF.2.1 dX12_isSeen_4 rfl (lv_at hl 1 rfl) ?_
    refine lv_aload_n hF.1 hF.2.1 dX12_isSeen_5 rfl (lv_at hl 0 rfl) ?_
    refine q_get (v := .int (u.1 1247)) hF hU dX12_isSeen_6 0 12 47 1247 1299 rfl rfl rfl rfl inX12 (by decide) (by decide) w_1379 rfl rfl ?_
    have hs_2 : 0 ≤ u.1 1247 ∧ u.1 1247 ≤ 120 := hI.1.s1247
    refine lv_icmp_ge (tgt := 29) hF.1 hF.2.1 dX12_isSeen_9 (by decide) (fun c9_3 => ?_) (fun c9_3 => ?_)
    · refine lv_iconst (v := 0) hF.1 hF.2.1 dX12_isSeen_29 (by decide) ?_
      exact q_iret hF hr (by decide) hlocks hU hS dX12_isSeen_30 ⟨rfl, (g_X12_isSeen_f_v1 u x k hI hk c1_1 hs_2 c9_3)⟩
    · refine lv_aload_n hF.1 hF.2.1 dX12_isSeen_12 rfl (lv_at hl 0 rfl) ?_
      refine q_get (v := .ref (E.2.2 1255)) hF hU dX12_isSeen_13 0 12 55 1255 1299 rfl rfl rfl rfl inX12 (by decide) (by decide) w_1387 rfl rfl ?_
      refine lv_iload_n hF.1 hF.2.1 dX12_isSeen_16 rfl (lv_at hl 1 rfl) ?_
      refine q_iald (v := u.2.1 1255 (x : Int32).toNatClampNeg) hF hU dX12_isSeen_17 34 1255 rfl rfl (g_X12_isSeen_f_v2 u x k hI hk c1_1 hs_2 c9_3) rfl ?_
      refine lv_aload_n hF.1 hF.2.1 dX12_isSeen_18 rfl (lv_at hl 0 rfl) ?_
      have hM9 := g_X12_viewDay_f l E A u k hk
      have hR9 := q_runV (l := l) (e := e0) (below := bl0) (meth := me0) (R := qR 1 0 0) (cells := 0) (slots := 0) (st0 := [.ref (E.2.2 1299), .int (u.2.1 1255 (x : Int32).toNatClampNeg)]) (rest := [.int (u.2.1 1255 (x : Int32).toNatClampNeg)]) hF hU hS hA 0 0 12 1299 rfl rfl rfl hM9 w_1737 w_1739 w_72 w_107 w_1740 (by decide +kernel) ⟨Nat.le_of_ble_eq_true rfl, Nat.le_of_ble_eq_true rfl⟩ dX12_isSeen_19 rfl hl.1 rfl (Nat.le_of_ble_eq_true rfl) ⟨Nat.le_of_ble_eq_true rfl, Nat.le_of_ble_eq_true rfl⟩
      refine q_calli hR9 hU.2.2.2 hS (fun r_6 u_4 H locs hw_5 hU hS => ?_)
      obtain ⟨hw_5_e, hw_5⟩ := hw_5
      rw [hw_5_e] at hU
      have hw_5 : r_6 = f_vd k := hw_5
      refine lv_icmp_gt (tgt := 29) hF.1 hF.2.1 dX12_isSeen_22 (by decide) (fun c22_7 => ?_) (fun c22_7 => ?_)
      · refine lv_iconst (v := 0) hF.1 hF.2.1 dX12_isSeen_29 (by decide) ?_
        exact q_iret hF hr (by decide) hlocks hU hS dX12_isSeen_30 ⟨rfl, (g_X12_isSeen_f_v3 u x k r_6 hI hk c1_1 hs_2 c9_3 hw_5 c22_7)⟩
      · refine lv_iconst (v := 1) hF.1 hF.2.1 dX12_isSeen_25 (by decide) ?_
        refine lv_goto (tgt := 30) hF.1 hF.2.1 dX12_isSeen_26 (by decide) ?_
        exact q_iret hF hr (by decide) hlocks hU hS dX12_isSeen_30 ⟨rfl, (g_X12_isSeen_f_v4 u x k r_6 hI hk c1_1 hs_2 c9_3 hw_5 c22_7)⟩
set_option maxRecDepth 100000 in
theorem g_X12_formNow_f_v0 (u : qS) (x : Int32) (k : qS) (x2 : Int32) (x3 : Int32) (hI : IM u) (hk : IK k u) (hv : 0 ≤ x ∧ x < u.1 1247) (hvs : u.1 1247 ≤ 120) (h_k : 0 ≤ x3) (h_v : x3 ≤ u.1 1256) (h_n : x2 = f_fn k x x3.toNatClampNeg) (hs_1 : 0 ≤ u.1 1256 ∧ u.1 1256 ≤ 60) (c14_2 : (u.1 1256) ≤ (x3 : Int32)) : (x2 : Int32) = f_fm k x := by
  have hz1247 := hI.1.s1247
  have k1256 := hk.i 1256 (by decide)
  have e : x3 = u.1 1256 := Int32.toInt_inj.mp (by clear hk h_n; (try simp only [g_m1, Int32.lt_iff_toInt_lt, Int32.le_iff_toInt_le, ← Int32.toInt_inj, Int32.reduceToInt] at *); omega)
  unfold f_fm; rw [← k1256, ← e]; exact h_n
set_option maxRecDepth 100000 in
theorem g_X12_formNow_f_v1 (u : qS) (x : Int32) (k : qS) (x2 : Int32) (x3 : Int32) (hI : IM u) (hk : IK k u) (hv : 0 ≤ x ∧ x < u.1 1247) (hvs : u.1 1247 ≤ 120) (h_k : 0 ≤ x3) (h_v : x3 ≤ u.1 1256) (h_n : x2 = f_fn k x x3.toNatClampNeg) (hs_1 : 0 ≤ u.1 1256 ∧ u.1 1256 ≤ 60) (c14_2 : ¬ (u.1 1256) ≤ (x3 : Int32)) : vp_in (x3) 60 := by
  have hz1247 := hI.1.s1247
  refine g_in ?_ ?_ <;> ((try simp only [g_m1, Int32.lt_iff_toInt_lt, Int32.le_iff_toInt_le, ← Int32.toInt_inj, Int32.toInt_add, Int32.toInt_sub, Int32.toInt_mul, Int32.toInt_neg, Int32.reduceToInt, g_bm, g_bm'] at *); omega)
set_option maxRecDepth 100000 in
theorem g_X12_formNow_f_v2 (u : qS) (x : Int32) (k : qS) (x2 : Int32) (x3 : Int32) (hI : IM u) (hk : IK k u) (hv : 0 ≤ x ∧ x < u.1 1247) (hvs : u.1 1247 ≤ 120) (h_k : 0 ≤ x3) (h_v : x3 ≤ u.1 1256) (h_n : x2 = f_fn k x x3.toNatClampNeg) (hs_1 : 0 ≤ u.1 1256 ∧ u.1 1256 ≤ 60) (c14_2 : ¬ (u.1 1256) ≤ (x3 : Int32)) : 0 ≤ x3 ∧ x3 < u.1 1256 := by
  have hz1247 := hI.1.s1247
  first | omega | ((try simp only [g_m1, Int32.lt_iff_toInt_lt, Int32.le_iff_toInt_le, ← Int32.toInt_inj, Int32.reduceToInt] at *); omega) | ((try simp only [g_m1, Int32.lt_iff_toInt_lt, Int32.le_iff_toInt_le, ← Int32.toInt_inj, Int32.reduceToInt] at *); omega) | ((try simp only [g_m1, Int32.lt_iff_toInt_lt, Int32.le_iff_toInt_le, ← Int32.toInt_inj, Int32.toInt_add, Int32.toInt_sub, Int32.toInt_mul, Int32.toInt_neg, Int32.reduceToInt, g_bm, g_bm'] at *); omega) | (have qr1 := g_rng x; have qr3 := g_rng x2; have qr4 := g_rng x3; (try simp only [g_m1, Int32.lt_iff_toInt_lt, Int32.le_iff_toInt_le, ← Int32.toInt_inj, Int32.toInt_add, Int32.toInt_sub, Int32.toInt_mul, Int32.toInt_neg, Int32.reduceToInt, g_bm, g_bm'] at *); omega) | (simp only [g_m1, Int32.lt_iff_toInt_lt, Int32.le_iff_toInt_le, ← Int32.toInt_inj, Int32.toInt_add, Int32.toInt_sub, Int32.toInt_mul, Int32.toInt_neg, Int32.reduceToInt, g_bm, g_bm'] at *; simp at *; omega) | (simp_all; done)
set_option maxRecDepth 100000 in
theorem g_X12_formNow_f_v3 (u : qS) (x : Int32) (k : qS) (x2 : Int32) (x3 : Int32) (hI : IM u) (hk : IK k u) (hv : 0 ≤ x ∧ x < u.1 1247) (hvs : u.1 1247 ≤ 120) (h_k : 0 ≤ x3) (h_v : x3 ≤ u.1 1256) (h_n : x2 = f_fn k x x3.toNatClampNeg) (hs_1 : 0 ≤ u.1 1256 ∧ u.1 1256 ≤ 60) (c14_2 : ¬ (u.1 1256) ≤ (x3 : Int32)) (hb_3 : 0 ≤ (u.2.1 1257 (x3 : Int32).toNatClampNeg) ∧ (u.2.1 1257 (x3 : Int32).toNatClampNeg) < u.1 1247) (hs_4 : 0 ≤ u.1 1247 ∧ u.1 1247 ≤ 120) (c24_5 : ¬ (u.2.1 1257 (x3 : Int32).toNatClampNeg : Int32) = x) : 0 ≤ (x3 + 1) := by
  first | omega | ((try simp only [g_m1, Int32.lt_iff_toInt_lt, Int32.le_iff_toInt_le, ← Int32.toInt_inj, Int32.reduceToInt] at *); omega) | ((try have ez0 : (x3 + 1 : Int32).toInt = (x3 : Int32).toInt + (1 : Int32).toInt := g_add (by (try simp only [g_m1, Int32.lt_iff_toInt_lt, Int32.le_iff_toInt_le, ← Int32.toInt_inj, Int32.reduceToInt] at *); omega) (by (try simp only [g_m1, Int32.lt_iff_toInt_lt, Int32.le_iff_toInt_le, ← Int32.toInt_inj, Int32.reduceToInt] at *); omega)); (try simp only [g_m1, Int32.lt_iff_toInt_lt, Int32.le_iff_toInt_le, ← Int32.toInt_inj, Int32.reduceToInt] at *); omega) | ((try simp only [g_m1, Int32.lt_iff_toInt_lt, Int32.le_iff_toInt_le, ← Int32.toInt_inj, Int32.toInt_add, Int32.toInt_sub, Int32.toInt_mul, Int32.toInt_neg, Int32.reduceToInt, g_bm, g_bm'] at *); omega) | (have qr1 := g_rng x; have qr3 := g_rng x2; have qr4 := g_rng x3; (try simp only [g_m1, Int32.lt_iff_toInt_lt, Int32.le_iff_toInt_le, ← Int32.toInt_inj, Int32.toInt_add, Int32.toInt_sub, Int32.toInt_mul, Int32.toInt_neg, Int32.reduceToInt, g_bm, g_bm'] at *); omega) | (simp only [g_m1, Int32.lt_iff_toInt_lt, Int32.le_iff_toInt_le, ← Int32.toInt_inj, Int32.toInt_add, Int32.toInt_sub, Int32.toInt_mul, Int32.toInt_neg, Int32.reduceToInt, g_bm, g_bm'] at *; simp at *; omega) | (simp_all; done)
set_option maxRecDepth 100000 in
theorem g_X12_formNow_f_v4 (u : qS) (x : Int32) (k : qS) (x2 : Int32) (x3 : Int32) (hI : IM u) (hk : IK k u) (hv : 0 ≤ x ∧ x < u.1 1247) (hvs : u.1 1247 ≤ 120) (h_k : 0 ≤ x3) (h_v : x3 ≤ u.1 1256) (h_n : x2 = f_fn k x x3.toNatClampNeg) (hs_1 : 0 ≤ u.1 1256 ∧ u.1 1256 ≤ 60) (c14_2 : ¬ (u.1 1256) ≤ (x3 : Int32)) (hb_3 : 0 ≤ (u.2.1 1257 (x3 : Int32).toNatClampNeg) ∧ (u.2.1 1257 (x3 : Int32).toNatClampNeg) < u.1 1247) (hs_4 : 0 ≤ u.1 1247 ∧ u.1 1247 ≤ 120) (c24_5 : ¬ (u.2.1 1257 (x3 : Int32).toNatClampNeg : Int32) = x) : (x3 + 1) ≤ u.1 1256 := by
  first | omega | ((try simp only [g_m1, Int32.lt_iff_toInt_lt, Int32.le_iff_toInt_le, ← Int32.toInt_inj, Int32.reduceToInt] at *); omega) | ((try have ez0 : (x3 + 1 : Int32).toInt = (x3 : Int32).toInt + (1 : Int32).toInt := g_add (by (try simp only [g_m1, Int32.lt_iff_toInt_lt, Int32.le_iff_toInt_le, ← Int32.toInt_inj, Int32.reduceToInt] at *); omega) (by (try simp only [g_m1, Int32.lt_iff_toInt_lt, Int32.le_iff_toInt_le, ← Int32.toInt_inj, Int32.reduceToInt] at *); omega)); (try simp only [g_m1, Int32.lt_iff_toInt_lt, Int32.le_iff_toInt_le, ← Int32.toInt_inj, Int32.reduceToInt] at *); omega) | ((try simp only [g_m1, Int32.lt_iff_toInt_lt, Int32.le_iff_toInt_le, ← Int32.toInt_inj, Int32.toInt_add, Int32.toInt_sub, Int32.toInt_mul, Int32.toInt_neg, Int32.reduceToInt, g_bm, g_bm'] at *); omega) | (have qr1 := g_rng x; have qr3 := g_rng x2; have qr4 := g_rng x3; (try simp only [g_m1, Int32.lt_iff_toInt_lt, Int32.le_iff_toInt_le, ← Int32.toInt_inj, Int32.toInt_add, Int32.toInt_sub, Int32.toInt_mul, Int32.toInt_neg, Int32.reduceToInt, g_bm, g_bm'] at *); omega) | (simp only [g_m1, Int32.lt_iff_toInt_lt, Int32.le_iff_toInt_le, ← Int32.toInt_inj, Int32.toInt_add, Int32.toInt_sub, Int32.toInt_mul, Int32.toInt_neg, Int32.reduceToInt, g_bm, g_bm'] at *; simp at *; omega) | (simp_all; done)
set_option maxRecDepth 100000 in
theorem g_X12_formNow_f_v5 (u : qS) (x : Int32) (k : qS) (x2 : Int32) (x3 : Int32) (hI : IM u) (hk : IK k u) (hv : 0 ≤ x ∧ x < u.1 1247) (hvs : u.1 1247 ≤ 120) (h_k : 0 ≤ x3) (h_v : x3 ≤ u.1 1256) (h_n : x2 = f_fn k x x3.toNatClampNeg) (hs_1 : 0 ≤ u.1 1256 ∧ u.1 1256 ≤ 60) (c14_2 : ¬ (u.1 1256) ≤ (x3 : Int32)) (hb_3 : 0 ≤ (u.2.1 1257 (x3 : Int32).toNatClampNeg) ∧ (u.2.1 1257 (x3 : Int32).toNatClampNeg) < u.1 1247) (hs_4 : 0 ≤ u.1 1247 ∧ u.1 1247 ≤ 120) (c24_5 : ¬ (u.2.1 1257 (x3 : Int32).toNatClampNeg : Int32) = x) : x2 = f_fn k x (x3 + 1).toNatClampNeg := by
  have k1257 := hk.r 1257 (by decide)
  have k1258 := hk.r 1258 (by decide)
  have k1259 := hk.r 1259 (by decide)
  have q8 := hI.1.s1256
  have e4 := (g_up (i := x3) (by clear hk h_n; (try simp only [g_m1, Int32.lt_iff_toInt_lt, Int32.le_iff_toInt_le, ← Int32.toInt_inj, Int32.reduceToInt] at *); omega) (by clear hk h_n; (try simp only [g_m1, Int32.lt_iff_toInt_lt, Int32.le_iff_toInt_le, ← Int32.toInt_inj, Int32.reduceToInt] at *); omega)).2
  rw [e4]; show _ = if _ then _ else _
  rw [← k1257, ← k1258, ← k1259]; skip; skip
  first | (rw [if_pos ⟨by assumption, by clear hk h_n; (try simp only [g_m1, Int32.lt_iff_toInt_lt, Int32.le_iff_toInt_le, ← Int32.toInt_inj, Int32.reduceToInt] at *); omega⟩, ← h_n]; done) | (rw [if_neg (fun q => by clear hk h_n; (try simp only [g_m1, Int32.lt_iff_toInt_lt, Int32.le_iff_toInt_le, ← Int32.toInt_inj, Int32.reduceToInt] at *); omega)]; exact h_n) | (rw [if_neg (fun q => absurd q.1 (by assumption))]; exact h_n)
set_option maxRecDepth 100000 in
theorem g_X12_formNow_f_v6 (u : qS) (x : Int32) (k : qS) (x2 : Int32) (x3 : Int32) (hI : IM u) (hk : IK k u) (hv : 0 ≤ x ∧ x < u.1 1247) (hvs : u.1 1247 ≤ 120) (h_k : 0 ≤ x3) (h_v : x3 ≤ u.1 1256) (h_n : x2 = f_fn k x x3.toNatClampNeg) (hs_1 : 0 ≤ u.1 1256 ∧ u.1 1256 ≤ 60) (c14_2 : ¬ (u.1 1256) ≤ (x3 : Int32)) (hb_3 : 0 ≤ (u.2.1 1257 (x3 : Int32).toNatClampNeg) ∧ (u.2.1 1257 (x3 : Int32).toNatClampNeg) < u.1 1247) (hs_4 : 0 ≤ u.1 1247 ∧ u.1 1247 ≤ 120) (c24_5 : ¬ (u.2.1 1257 (x3 : Int32).toNatClampNeg : Int32) = x) : ((u.1 1256).toInt - (x3 + 1).toInt).toNat < ((u.1 1256).toInt - x3.toInt).toNat := by
  first | omega | ((try simp only [g_m1, Int32.lt_iff_toInt_lt, Int32.le_iff_toInt_le, ← Int32.toInt_inj, Int32.reduceToInt] at *); omega) | ((try have ez0 : (x3 + 1 : Int32).toInt = (x3 : Int32).toInt + (1 : Int32).toInt := g_add (by (try simp only [g_m1, Int32.lt_iff_toInt_lt, Int32.le_iff_toInt_le, ← Int32.toInt_inj, Int32.reduceToInt] at *); omega) (by (try simp only [g_m1, Int32.lt_iff_toInt_lt, Int32.le_iff_toInt_le, ← Int32.toInt_inj, Int32.reduceToInt] at *); omega)); (try simp only [g_m1, Int32.lt_iff_toInt_lt, Int32.le_iff_toInt_le, ← Int32.toInt_inj, Int32.reduceToInt] at *); omega) | ((try simp only [g_m1, Int32.lt_iff_toInt_lt, Int32.le_iff_toInt_le, ← Int32.toInt_inj, Int32.toInt_add, Int32.toInt_sub, Int32.toInt_mul, Int32.toInt_neg, Int32.reduceToInt, g_bm, g_bm'] at *); omega) | (have qr1 := g_rng x; have qr3 := g_rng x2; have qr4 := g_rng x3; (try simp only [g_m1, Int32.lt_iff_toInt_lt, Int32.le_iff_toInt_le, ← Int32.toInt_inj, Int32.toInt_add, Int32.toInt_sub, Int32.toInt_mul, Int32.toInt_neg, Int32.reduceToInt, g_bm, g_bm'] at *); omega) | (simp only [g_m1, Int32.lt_iff_toInt_lt, Int32.le_iff_toInt_le, ← Int32.toInt_inj, Int32.toInt_add, Int32.toInt_sub, Int32.toInt_mul, Int32.toInt_neg, Int32.reduceToInt, g_bm, g_bm'] at *; simp at *; omega) | (simp_all; done)
set_option maxRecDepth 100000 in
theorem g_X12_formNow_f_v7 (u : qS) (x : Int32) (k : qS) (x2 : Int32) (x3 : Int32) (hI : IM u) (hk : IK k u) (hv : 0 ≤ x ∧ x < u.1 1247) (hvs : u.1 1247 ≤ 120) (h_k : 0 ≤ x3) (h_v : x3 ≤ u.1 1256) (h_n : x2 = f_fn k x x3.toNatClampNeg) (hs_1 : 0 ≤ u.1 1256 ∧ u.1 1256 ≤ 60) (c14_2 : ¬ (u.1 1256) ≤ (x3 : Int32)) (hb_3 : 0 ≤ (u.2.1 1257 (x3 : Int32).toNatClampNeg) ∧ (u.2.1 1257 (x3 : Int32).toNatClampNeg) < u.1 1247) (hs_4 : 0 ≤ u.1 1247 ∧ u.1 1247 ≤ 120) (c24_5 : (u.2.1 1257 (x3 : Int32).toNatClampNeg : Int32) = x) : vp_in (x3) 60 := by
  refine g_in ?_ ?_ <;> ((try simp only [g_m1, Int32.lt_iff_toInt_lt, Int32.le_iff_toInt_le, ← Int32.toInt_inj, Int32.toInt_add, Int32.toInt_sub, Int32.toInt_mul, Int32.toInt_neg, Int32.reduceToInt, g_bm, g_bm'] at *); omega)
set_option maxRecDepth 100000 in
theorem g_X12_formNow_f_v8 (u : qS) (x : Int32) (k : qS) (x2 : Int32) (x3 : Int32) (r_8 : Int32) (hI : IM u) (hk : IK k u) (hv : 0 ≤ x ∧ x < u.1 1247) (hvs : u.1 1247 ≤ 120) (h_k : 0 ≤ x3) (h_v : x3 ≤ u.1 1256) (h_n : x2 = f_fn k x x3.toNatClampNeg) (hs_1 : 0 ≤ u.1 1256 ∧ u.1 1256 ≤ 60) (c14_2 : ¬ (u.1 1256) ≤ (x3 : Int32)) (hb_3 : 0 ≤ (u.2.1 1257 (x3 : Int32).toNatClampNeg) ∧ (u.2.1 1257 (x3 : Int32).toNatClampNeg) < u.1 1247) (hs_4 : 0 ≤ u.1 1247 ∧ u.1 1247 ≤ 120) (c24_5 : (u.2.1 1257 (x3 : Int32).toNatClampNeg : Int32) = x) (hw_7 : r_8 = f_vd k) (c37_9 : r_8 < (u.2.1 1259 (x3 : Int32).toNatClampNeg : Int32)) : 0 ≤ (x3 + 1) := by
  first | omega | ((try simp only [g_m1, Int32.lt_iff_toInt_lt, Int32.le_iff_toInt_le, ← Int32.toInt_inj, Int32.reduceToInt] at *); omega) | ((try have ez0 : (x3 + 1 : Int32).toInt = (x3 : Int32).toInt + (1 : Int32).toInt := g_add (by (try simp only [g_m1, Int32.lt_iff_toInt_lt, Int32.le_iff_toInt_le, ← Int32.toInt_inj, Int32.reduceToInt] at *); omega) (by (try simp only [g_m1, Int32.lt_iff_toInt_lt, Int32.le_iff_toInt_le, ← Int32.toInt_inj, Int32.reduceToInt] at *); omega)); (try simp only [g_m1, Int32.lt_iff_toInt_lt, Int32.le_iff_toInt_le, ← Int32.toInt_inj, Int32.reduceToInt] at *); omega) | ((try simp only [g_m1, Int32.lt_iff_toInt_lt, Int32.le_iff_toInt_le, ← Int32.toInt_inj, Int32.toInt_add, Int32.toInt_sub, Int32.toInt_mul, Int32.toInt_neg, Int32.reduceToInt, g_bm, g_bm'] at *); omega) | (have qr1 := g_rng x; have qr3 := g_rng x2; have qr4 := g_rng x3; have qr5 := g_rng r_8; (try simp only [g_m1, Int32.lt_iff_toInt_lt, Int32.le_iff_toInt_le, ← Int32.toInt_inj, Int32.toInt_add, Int32.toInt_sub, Int32.toInt_mul, Int32.toInt_neg, Int32.reduceToInt, g_bm, g_bm'] at *); omega) | (simp only [g_m1, Int32.lt_iff_toInt_lt, Int32.le_iff_toInt_le, ← Int32.toInt_inj, Int32.toInt_add, Int32.toInt_sub, Int32.toInt_mul, Int32.toInt_neg, Int32.reduceToInt, g_bm, g_bm'] at *; simp at *; omega) | (simp_all; done)
set_option maxRecDepth 100000 in
theorem g_X12_formNow_f_v9 (u : qS) (x : Int32) (k : qS) (x2 : Int32) (x3 : Int32) (r_8 : Int32) (hI : IM u) (hk : IK k u) (hv : 0 ≤ x ∧ x < u.1 1247) (hvs : u.1 1247 ≤ 120) (h_k : 0 ≤ x3) (h_v : x3 ≤ u.1 1256) (h_n : x2 = f_fn k x x3.toNatClampNeg) (hs_1 : 0 ≤ u.1 1256 ∧ u.1 1256 ≤ 60) (c14_2 : ¬ (u.1 1256) ≤ (x3 : Int32)) (hb_3 : 0 ≤ (u.2.1 1257 (x3 : Int32).toNatClampNeg) ∧ (u.2.1 1257 (x3 : Int32).toNatClampNeg) < u.1 1247) (hs_4 : 0 ≤ u.1 1247 ∧ u.1 1247 ≤ 120) (c24_5 : (u.2.1 1257 (x3 : Int32).toNatClampNeg : Int32) = x) (hw_7 : r_8 = f_vd k) (c37_9 : r_8 < (u.2.1 1259 (x3 : Int32).toNatClampNeg : Int32)) : (x3 + 1) ≤ u.1 1256 := by
  first | omega | ((try simp only [g_m1, Int32.lt_iff_toInt_lt, Int32.le_iff_toInt_le, ← Int32.toInt_inj, Int32.reduceToInt] at *); omega) | ((try have ez0 : (x3 + 1 : Int32).toInt = (x3 : Int32).toInt + (1 : Int32).toInt := g_add (by (try simp only [g_m1, Int32.lt_iff_toInt_lt, Int32.le_iff_toInt_le, ← Int32.toInt_inj, Int32.reduceToInt] at *); omega) (by (try simp only [g_m1, Int32.lt_iff_toInt_lt, Int32.le_iff_toInt_le, ← Int32.toInt_inj, Int32.reduceToInt] at *); omega)); (try simp only [g_m1, Int32.lt_iff_toInt_lt, Int32.le_iff_toInt_le, ← Int32.toInt_inj, Int32.reduceToInt] at *); omega) | ((try simp only [g_m1, Int32.lt_iff_toInt_lt, Int32.le_iff_toInt_le, ← Int32.toInt_inj, Int32.toInt_add, Int32.toInt_sub, Int32.toInt_mul, Int32.toInt_neg, Int32.reduceToInt, g_bm, g_bm'] at *); omega) | (have qr1 := g_rng x; have qr3 := g_rng x2; have qr4 := g_rng x3; have qr5 := g_rng r_8; (try simp only [g_m1, Int32.lt_iff_toInt_lt, Int32.le_iff_toInt_le, ← Int32.toInt_inj, Int32.toInt_add, Int32.toInt_sub, Int32.toInt_mul, Int32.toInt_neg, Int32.reduceToInt, g_bm, g_bm'] at *); omega) | (simp only [g_m1, Int32.lt_iff_toInt_lt, Int32.le_iff_toInt_le, ← Int32.toInt_inj, Int32.toInt_add, Int32.toInt_sub, Int32.toInt_mul, Int32.toInt_neg, Int32.reduceToInt, g_bm, g_bm'] at *; simp at *; omega) | (simp_all; done)
set_option maxRecDepth 100000 in
theorem g_X12_formNow_f_v10 (u : qS) (x : Int32) (k : qS) (x2 : Int32) (x3 : Int32) (r_8 : Int32) (hI : IM u) (hk : IK k u) (hv : 0 ≤ x ∧ x < u.1 1247) (hvs : u.1 1247 ≤ 120) (h_k : 0 ≤ x3) (h_v : x3 ≤ u.1 1256) (h_n : x2 = f_fn k x x3.toNatClampNeg) (hs_1 : 0 ≤ u.1 1256 ∧ u.1 1256 ≤ 60) (c14_2 : ¬ (u.1 1256) ≤ (x3 : Int32)) (hb_3 : 0 ≤ (u.2.1 1257 (x3 : Int32).toNatClampNeg) ∧ (u.2.1 1257 (x3 : Int32).toNatClampNeg) < u.1 1247) (hs_4 : 0 ≤ u.1 1247 ∧ u.1 1247 ≤ 120) (c24_5 : (u.2.1 1257 (x3 : Int32).toNatClampNeg : Int32) = x) (hw_7 : r_8 = f_vd k) (c37_9 : r_8 < (u.2.1 1259 (x3 : Int32).toNatClampNeg : Int32)) : x2 = f_fn k x (x3 + 1).toNatClampNeg := by
  have k1257 := hk.r 1257 (by decide)
  have k1258 := hk.r 1258 (by decide)
  have k1259 := hk.r 1259 (by decide)
  have q8 := hI.1.s1256
  have e4 := (g_up (i := x3) (by clear hk h_n; (try simp only [g_m1, Int32.lt_iff_toInt_lt, Int32.le_iff_toInt_le, ← Int32.toInt_inj, Int32.reduceToInt] at *); omega) (by clear hk h_n; (try simp only [g_m1, Int32.lt_iff_toInt_lt, Int32.le_iff_toInt_le, ← Int32.toInt_inj, Int32.reduceToInt] at *); omega)).2
  rw [e4]; show _ = if _ then _ else _
  rw [← k1257, ← k1258, ← k1259]; skip; skip
  first | (rw [if_pos ⟨by assumption, by clear hk h_n; (try simp only [g_m1, Int32.lt_iff_toInt_lt, Int32.le_iff_toInt_le, ← Int32.toInt_inj, Int32.reduceToInt] at *); omega⟩, ← h_n]; done) | (rw [if_neg (fun q => by clear hk h_n; (try simp only [g_m1, Int32.lt_iff_toInt_lt, Int32.le_iff_toInt_le, ← Int32.toInt_inj, Int32.reduceToInt] at *); omega)]; exact h_n) | (rw [if_neg (fun q => absurd q.1 (by assumption))]; exact h_n)
set_option maxRecDepth 100000 in
theorem g_X12_formNow_f_v11 (u : qS) (x : Int32) (k : qS) (x2 : Int32) (x3 : Int32) (r_8 : Int32) (hI : IM u) (hk : IK k u) (hv : 0 ≤ x ∧ x < u.1 1247) (hvs : u.1 1247 ≤ 120) (h_k : 0 ≤ x3) (h_v : x3 ≤ u.1 1256) (h_n : x2 = f_fn k x x3.toNatClampNeg) (hs_1 : 0 ≤ u.1 1256 ∧ u.1 1256 ≤ 60) (c14_2 : ¬ (u.1 1256) ≤ (x3 : Int32)) (hb_3 : 0 ≤ (u.2.1 1257 (x3 : Int32).toNatClampNeg) ∧ (u.2.1 1257 (x3 : Int32).toNatClampNeg) < u.1 1247) (hs_4 : 0 ≤ u.1 1247 ∧ u.1 1247 ≤ 120) (c24_5 : (u.2.1 1257 (x3 : Int32).toNatClampNeg : Int32) = x) (hw_7 : r_8 = f_vd k) (c37_9 : r_8 < (u.2.1 1259 (x3 : Int32).toNatClampNeg : Int32)) : ((u.1 1256).toInt - (x3 + 1).toInt).toNat < ((u.1 1256).toInt - x3.toInt).toNat := by
  first | omega | ((try simp only [g_m1, Int32.lt_iff_toInt_lt, Int32.le_iff_toInt_le, ← Int32.toInt_inj, Int32.reduceToInt] at *); omega) | ((try have ez0 : (x3 + 1 : Int32).toInt = (x3 : Int32).toInt + (1 : Int32).toInt := g_add (by (try simp only [g_m1, Int32.lt_iff_toInt_lt, Int32.le_iff_toInt_le, ← Int32.toInt_inj, Int32.reduceToInt] at *); omega) (by (try simp only [g_m1, Int32.lt_iff_toInt_lt, Int32.le_iff_toInt_le, ← Int32.toInt_inj, Int32.reduceToInt] at *); omega)); (try simp only [g_m1, Int32.lt_iff_toInt_lt, Int32.le_iff_toInt_le, ← Int32.toInt_inj, Int32.reduceToInt] at *); omega) | ((try simp only [g_m1, Int32.lt_iff_toInt_lt, Int32.le_iff_toInt_le, ← Int32.toInt_inj, Int32.toInt_add, Int32.toInt_sub, Int32.toInt_mul, Int32.toInt_neg, Int32.reduceToInt, g_bm, g_bm'] at *); omega) | (have qr1 := g_rng x; have qr3 := g_rng x2; have qr4 := g_rng x3; have qr5 := g_rng r_8; (try simp only [g_m1, Int32.lt_iff_toInt_lt, Int32.le_iff_toInt_le, ← Int32.toInt_inj, Int32.toInt_add, Int32.toInt_sub, Int32.toInt_mul, Int32.toInt_neg, Int32.reduceToInt, g_bm, g_bm'] at *); omega) | (simp only [g_m1, Int32.lt_iff_toInt_lt, Int32.le_iff_toInt_le, ← Int32.toInt_inj, Int32.toInt_add, Int32.toInt_sub, Int32.toInt_mul, Int32.toInt_neg, Int32.reduceToInt, g_bm, g_bm'] at *; simp at *; omega) | (simp_all; done)
set_option maxRecDepth 100000 in
theorem g_X12_formNow_f_v12 (u : qS) (x : Int32) (k : qS) (x2 : Int32) (x3 : Int32) (r_8 : Int32) (hI : IM u) (hk : IK k u) (hv : 0 ≤ x ∧ x < u.1 1247) (hvs : u.1 1247 ≤ 120) (h_k : 0 ≤ x3) (h_v : x3 ≤ u.1 1256) (h_n : x2 = f_fn k x x3.toNatClampNeg) (hs_1 : 0 ≤ u.1 1256 ∧ u.1 1256 ≤ 60) (c14_2 : ¬ (u.1 1256) ≤ (x3 : Int32)) (hb_3 : 0 ≤ (u.2.1 1257 (x3 : Int32).toNatClampNeg) ∧ (u.2.1 1257 (x3 : Int32).toNatClampNeg) < u.1 1247) (hs_4 : 0 ≤ u.1 1247 ∧ u.1 1247 ≤ 120) (c24_5 : (u.2.1 1257 (x3 : Int32).toNatClampNeg : Int32) = x) (hw_7 : r_8 = f_vd k) (c37_9 : ¬ r_8 < (u.2.1 1259 (x3 : Int32).toNatClampNeg : Int32)) : vp_in (x3) 60 := by
  refine g_in ?_ ?_ <;> ((try simp only [g_m1, Int32.lt_iff_toInt_lt, Int32.le_iff_toInt_le, ← Int32.toInt_inj, Int32.toInt_add, Int32.toInt_sub, Int32.toInt_mul, Int32.toInt_neg, Int32.reduceToInt, g_bm, g_bm'] at *); omega)
set_option maxRecDepth 100000 in
theorem g_X12_formNow_f_v13 (u : qS) (x : Int32) (k : qS) (x2 : Int32) (x3 : Int32) (r_8 : Int32) (hI : IM u) (hk : IK k u) (hv : 0 ≤ x ∧ x < u.1 1247) (hvs : u.1 1247 ≤ 120) (h_k : 0 ≤ x3) (h_v : x3 ≤ u.1 1256) (h_n : x2 = f_fn k x x3.toNatClampNeg) (hs_1 : 0 ≤ u.1 1256 ∧ u.1 1256 ≤ 60) (c14_2 : ¬ (u.1 1256) ≤ (x3 : Int32)) (hb_3 : 0 ≤ (u.2.1 1257 (x3 : Int32).toNatClampNeg) ∧ (u.2.1 1257 (x3 : Int32).toNatClampNeg) < u.1 1247) (hs_4 : 0 ≤ u.1 1247 ∧ u.1 1247 ≤ 120) (c24_5 : (u.2.1 1257 (x3 : Int32).toNatClampNeg : Int32) = x) (hw_7 : r_8 = f_vd k) (c37_9 : ¬ r_8 < (u.2.1 1259 (x3 : Int32).toNatClampNeg : Int32)) : 0 ≤ (x3 + 1) := by
  first | omega | ((try simp only [g_m1, Int32.lt_iff_toInt_lt, Int32.le_iff_toInt_le, ← Int32.toInt_inj, Int32.reduceToInt] at *); omega) | ((try have ez0 : (x3 + 1 : Int32).toInt = (x3 : Int32).toInt + (1 : Int32).toInt := g_add (by (try simp only [g_m1, Int32.lt_iff_toInt_lt, Int32.le_iff_toInt_le, ← Int32.toInt_inj, Int32.reduceToInt] at *); omega) (by (try simp only [g_m1, Int32.lt_iff_toInt_lt, Int32.le_iff_toInt_le, ← Int32.toInt_inj, Int32.reduceToInt] at *); omega)); (try simp only [g_m1, Int32.lt_iff_toInt_lt, Int32.le_iff_toInt_le, ← Int32.toInt_inj, Int32.reduceToInt] at *); omega) | ((try simp only [g_m1, Int32.lt_iff_toInt_lt, Int32.le_iff_toInt_le, ← Int32.toInt_inj, Int32.toInt_add, Int32.toInt_sub, Int32.toInt_mul, Int32.toInt_neg, Int32.reduceToInt, g_bm, g_bm'] at *); omega) | (have qr1 := g_rng x; have qr3 := g_rng x2; have qr4 := g_rng x3; have qr5 := g_rng r_8; (try simp only [g_m1, Int32.lt_iff_toInt_lt, Int32.le_iff_toInt_le, ← Int32.toInt_inj, Int32.toInt_add, Int32.toInt_sub, Int32.toInt_mul, Int32.toInt_neg, Int32.reduceToInt, g_bm, g_bm'] at *); omega) | (simp only [g_m1, Int32.lt_iff_toInt_lt, Int32.le_iff_toInt_le, ← Int32.toInt_inj, Int32.toInt_add, Int32.toInt_sub, Int32.toInt_mul, Int32.toInt_neg, Int32.reduceToInt, g_bm, g_bm'] at *; simp at *; omega) | (simp_all; done)
set_option maxRecDepth 100000 in
theorem g_X12_formNow_f_v14 (u : qS) (x : Int32) (k : qS) (x2 : Int32) (x3 : Int32) (r_8 : Int32) (hI : IM u) (hk : IK k u) (hv : 0 ≤ x ∧ x < u.1 1247) (hvs : u.1 1247 ≤ 120) (h_k : 0 ≤ x3) (h_v : x3 ≤ u.1 1256) (h_n : x2 = f_fn k x x3.toNatClampNeg) (hs_1 : 0 ≤ u.1 1256 ∧ u.1 1256 ≤ 60) (c14_2 : ¬ (u.1 1256) ≤ (x3 : Int32)) (hb_3 : 0 ≤ (u.2.1 1257 (x3 : Int32).toNatClampNeg) ∧ (u.2.1 1257 (x3 : Int32).toNatClampNeg) < u.1 1247) (hs_4 : 0 ≤ u.1 1247 ∧ u.1 1247 ≤ 120) (c24_5 : (u.2.1 1257 (x3 : Int32).toNatClampNeg : Int32) = x) (hw_7 : r_8 = f_vd k) (c37_9 : ¬ r_8 < (u.2.1 1259 (x3 : Int32).toNatClampNeg : Int32)) : (x3 + 1) ≤ u.1 1256 := by
  first | omega | ((try simp only [g_m1, Int32.lt_iff_toInt_lt, Int32.le_iff_toInt_le, ← Int32.toInt_inj, Int32.reduceToInt] at *); omega) | ((try have ez0 : (x3 + 1 : Int32).toInt = (x3 : Int32).toInt + (1 : Int32).toInt := g_add (by (try simp only [g_m1, Int32.lt_iff_toInt_lt, Int32.le_iff_toInt_le, ← Int32.toInt_inj, Int32.reduceToInt] at *); omega) (by (try simp only [g_m1, Int32.lt_iff_toInt_lt, Int32.le_iff_toInt_le, ← Int32.toInt_inj, Int32.reduceToInt] at *); omega)); (try simp only [g_m1, Int32.lt_iff_toInt_lt, Int32.le_iff_toInt_le, ← Int32.toInt_inj, Int32.reduceToInt] at *); omega) | ((try simp only [g_m1, Int32.lt_iff_toInt_lt, Int32.le_iff_toInt_le, ← Int32.toInt_inj, Int32.toInt_add, Int32.toInt_sub, Int32.toInt_mul, Int32.toInt_neg, Int32.reduceToInt, g_bm, g_bm'] at *); omega) | (have qr1 := g_rng x; have qr3 := g_rng x2; have qr4 := g_rng x3; have qr5 := g_rng r_8; (try simp only [g_m1, Int32.lt_iff_toInt_lt, Int32.le_iff_toInt_le, ← Int32.toInt_inj, Int32.toInt_add, Int32.toInt_sub, Int32.toInt_mul, Int32.toInt_neg, Int32.reduceToInt, g_bm, g_bm'] at *); omega) | (simp only [g_m1, Int32.lt_iff_toInt_lt, Int32.le_iff_toInt_le, ← Int32.toInt_inj, Int32.toInt_add, Int32.toInt_sub, Int32.toInt_mul, Int32.toInt_neg, Int32.reduceToInt, g_bm, g_bm'] at *; simp at *; omega) | (simp_all; done)
set_option maxRecDepth 100000 in
theorem g_X12_formNow_f_v15 (u : qS) (x : Int32) (k : qS) (x2 : Int32) (x3 : Int32) (r_8 : Int32) (hI : IM u) (hk : IK k u) (hv : 0 ≤ x ∧ x < u.1 1247) (hvs : u.1 1247 ≤ 120) (h_k : 0 ≤ x3) (h_v : x3 ≤ u.1 1256) (h_n : x2 = f_fn k x x3.toNatClampNeg) (hs_1 : 0 ≤ u.1 1256 ∧ u.1 1256 ≤ 60) (c14_2 : ¬ (u.1 1256) ≤ (x3 : Int32)) (hb_3 : 0 ≤ (u.2.1 1257 (x3 : Int32).toNatClampNeg) ∧ (u.2.1 1257 (x3 : Int32).toNatClampNeg) < u.1 1247) (hs_4 : 0 ≤ u.1 1247 ∧ u.1 1247 ≤ 120) (c24_5 : (u.2.1 1257 (x3 : Int32).toNatClampNeg : Int32) = x) (hw_7 : r_8 = f_vd k) (c37_9 : ¬ r_8 < (u.2.1 1259 (x3 : Int32).toNatClampNeg : Int32)) : (x2 ^^^ (1 <<< (u.2.1 1258 (x3 : Int32).toNatClampNeg &&& 31))) = f_fn k x (x3 + 1).toNatClampNeg := by
  have k1257 := hk.r 1257 (by decide)
  have k1258 := hk.r 1258 (by decide)
  have k1259 := hk.r 1259 (by decide)
  have q8 := hI.1.s1256
  have e4 := (g_up (i := x3) (by clear hk h_n; (try simp only [g_m1, Int32.lt_iff_toInt_lt, Int32.le_iff_toInt_le, ← Int32.toInt_inj, Int32.reduceToInt] at *); omega) (by clear hk h_n; (try simp only [g_m1, Int32.lt_iff_toInt_lt, Int32.le_iff_toInt_le, ← Int32.toInt_inj, Int32.reduceToInt] at *); omega)).2
  rw [e4]; show _ = if _ then _ else _
  rw [← k1257, ← k1258, ← k1259]; skip; skip
  first | (rw [if_pos ⟨by assumption, by clear hk h_n; (try simp only [g_m1, Int32.lt_iff_toInt_lt, Int32.le_iff_toInt_le, ← Int32.toInt_inj, Int32.reduceToInt] at *); omega⟩, ← h_n]; done) | (rw [if_neg (fun q => by clear hk h_n; (try simp only [g_m1, Int32.lt_iff_toInt_lt, Int32.le_iff_toInt_le, ← Int32.toInt_inj, Int32.reduceToInt] at *); omega)]; exact h_n) | (rw [if_neg (fun q => absurd q.1 (by assumption))]; exact h_n)
set_option maxRecDepth 100000 in
theorem g_X12_formNow_f_v16 (u : qS) (x : Int32) (k : qS) (x2 : Int32) (x3 : Int32) (r_8 : Int32) (hI : IM u) (hk : IK k u) (hv : 0 ≤ x ∧ x < u.1 1247) (hvs : u.1 1247 ≤ 120) (h_k : 0 ≤ x3) (h_v : x3 ≤ u.1 1256) (h_n : x2 = f_fn k x x3.toNatClampNeg) (hs_1 : 0 ≤ u.1 1256 ∧ u.1 1256 ≤ 60) (c14_2 : ¬ (u.1 1256) ≤ (x3 : Int32)) (hb_3 : 0 ≤ (u.2.1 1257 (x3 : Int32).toNatClampNeg) ∧ (u.2.1 1257 (x3 : Int32).toNatClampNeg) < u.1 1247) (hs_4 : 0 ≤ u.1 1247 ∧ u.1 1247 ≤ 120) (c24_5 : (u.2.1 1257 (x3 : Int32).toNatClampNeg : Int32) = x) (hw_7 : r_8 = f_vd k) (c37_9 : ¬ r_8 < (u.2.1 1259 (x3 : Int32).toNatClampNeg : Int32)) : ((u.1 1256).toInt - (x3 + 1).toInt).toNat < ((u.1 1256).toInt - x3.toInt).toNat := by
  first | omega | ((try simp only [g_m1, Int32.lt_iff_toInt_lt, Int32.le_iff_toInt_le, ← Int32.toInt_inj, Int32.reduceToInt] at *); omega) | ((try have ez0 : (x3 + 1 : Int32).toInt = (x3 : Int32).toInt + (1 : Int32).toInt := g_add (by (try simp only [g_m1, Int32.lt_iff_toInt_lt, Int32.le_iff_toInt_le, ← Int32.toInt_inj, Int32.reduceToInt] at *); omega) (by (try simp only [g_m1, Int32.lt_iff_toInt_lt, Int32.le_iff_toInt_le, ← Int32.toInt_inj, Int32.reduceToInt] at *); omega)); (try simp only [g_m1, Int32.lt_iff_toInt_lt, Int32.le_iff_toInt_le, ← Int32.toInt_inj, Int32.reduceToInt] at *); omega) | ((try simp only [g_m1, Int32.lt_iff_toInt_lt, Int32.le_iff_toInt_le, ← Int32.toInt_inj, Int32.toInt_add, Int32.toInt_sub, Int32.toInt_mul, Int32.toInt_neg, Int32.reduceToInt, g_bm, g_bm'] at *); omega) | (have qr1 := g_rng x; have qr3 := g_rng x2; have qr4 := g_rng x3; have qr5 := g_rng r_8; (try simp only [g_m1, Int32.lt_iff_toInt_lt, Int32.le_iff_toInt_le, ← Int32.toInt_inj, Int32.toInt_add, Int32.toInt_sub, Int32.toInt_mul, Int32.toInt_neg, Int32.reduceToInt, g_bm, g_bm'] at *); omega) | (simp only [g_m1, Int32.lt_iff_toInt_lt, Int32.le_iff_toInt_le, ← Int32.toInt_inj, Int32.toInt_add, Int32.toInt_sub, Int32.toInt_mul, Int32.toInt_neg, Int32.reduceToInt, g_bm, g_bm'] at *; simp at *; omega) | (simp_all; done)
set_option maxRecDepth 100000 in
theorem g_X12_formNow_f_v17 (u : qS) (x : Int32) (k : qS) (hI : IM u) (hk : IK k u) (hv : 0 ≤ x ∧ x < u.1 1247) (hvs : u.1 1247 ≤ 120) : vp_in (x) 120 := by
  have hz1247 := hI.1.s1247
  refine g_in ?_ ?_ <;> ((try simp only [g_m1, Int32.lt_iff_toInt_lt, Int32.le_iff_toInt_le, ← Int32.toInt_inj, Int32.toInt_add, Int32.toInt_sub, Int32.toInt_mul, Int32.toInt_neg, Int32.reduceToInt, g_bm, g_bm'] at *); omega)
set_option maxRecDepth 100000 in
theorem g_X12_formNow_f_v18 (u : qS) (x : Int32) (k : qS) (hI : IM u) (hk : IK k u) (hv : 0 ≤ x ∧ x < u.1 1247) (hvs : u.1 1247 ≤ 120) : 0 ≤ (0 : Int32) := by
  have hz1247 := hI.1.s1247
  first | omega | ((try simp only [g_m1, Int32.lt_iff_toInt_lt, Int32.le_iff_toInt_le, ← Int32.toInt_inj, Int32.reduceToInt] at *); omega) | ((try simp only [g_m1, Int32.lt_iff_toInt_lt, Int32.le_iff_toInt_le, ← Int32.toInt_inj, Int32.reduceToInt] at *); omega) | ((try simp only [g_m1, Int32.lt_iff_toInt_lt, Int32.le_iff_toInt_le, ← Int32.toInt_inj, Int32.toInt_add, Int32.toInt_sub, Int32.toInt_mul, Int32.toInt_neg, Int32.reduceToInt, g_bm, g_bm'] at *); omega) | (have qr1 := g_rng x; (try simp only [g_m1, Int32.lt_iff_toInt_lt, Int32.le_iff_toInt_le, ← Int32.toInt_inj, Int32.toInt_add, Int32.toInt_sub, Int32.toInt_mul, Int32.toInt_neg, Int32.reduceToInt, g_bm, g_bm'] at *); omega) | (simp only [g_m1, Int32.lt_iff_toInt_lt, Int32.le_iff_toInt_le, ← Int32.toInt_inj, Int32.toInt_add, Int32.toInt_sub, Int32.toInt_mul, Int32.toInt_neg, Int32.reduceToInt, g_bm, g_bm'] at *; simp at *; omega) | (simp_all; done)
set_option maxRecDepth 100000 in
theorem g_X12_formNow_f_v19 (u : qS) (x : Int32) (k : qS) (hI : IM u) (hk : IK k u) (hv : 0 ≤ x ∧ x < u.1 1247) (hvs : u.1 1247 ≤ 120) : (0 : Int32) ≤ u.1 1256 := by
  have hz1256 := hI.1.s1256
  have hz1247 := hI.1.s1247
  first | omega | ((try simp only [g_m1, Int32.lt_iff_toInt_lt, Int32.le_iff_toInt_le, ← Int32.toInt_inj, Int32.reduceToInt] at *); omega) | ((try simp only [g_m1, Int32.lt_iff_toInt_lt, Int32.le_iff_toInt_le, ← Int32.toInt_inj, Int32.reduceToInt] at *); omega) | ((try simp only [g_m1, Int32.lt_iff_toInt_lt, Int32.le_iff_toInt_le, ← Int32.toInt_inj, Int32.toInt_add, Int32.toInt_sub, Int32.toInt_mul, Int32.toInt_neg, Int32.reduceToInt, g_bm, g_bm'] at *); omega) | (have qr1 := g_rng x; (try simp only [g_m1, Int32.lt_iff_toInt_lt, Int32.le_iff_toInt_le, ← Int32.toInt_inj, Int32.toInt_add, Int32.toInt_sub, Int32.toInt_mul, Int32.toInt_neg, Int32.reduceToInt, g_bm, g_bm'] at *); omega) | (simp only [g_m1, Int32.lt_iff_toInt_lt, Int32.le_iff_toInt_le, ← Int32.toInt_inj, Int32.toInt_add, Int32.toInt_sub, Int32.toInt_mul, Int32.toInt_neg, Int32.reduceToInt, g_bm, g_bm'] at *; simp at *; omega) | (simp_all; done)
set_option maxRecDepth 100000 in
theorem g_X12_formNow_f_v20 (u : qS) (x : Int32) (k : qS) (hI : IM u) (hk : IK k u) (hv : 0 ≤ x ∧ x < u.1 1247) (hvs : u.1 1247 ≤ 120) : (u.2.1 1253 (x : Int32).toNatClampNeg) = f_fn k x (0 : Int32).toNatClampNeg := by
  have hz1247 := hI.1.s1247
  have q := hk.r 1253 (by decide); show _ = k.2.1 1253 _; rw [← q]
set_option maxHeartbeats 1000000 in
set_option maxRecDepth 100000 in
theorem g_X12_formNow_f (l : Launch) (E : qE) (A : Nat → Prop) (u : qS) (x : Int32) (k : qS) (hI : IM u) (hk : IK k u) (hv : 0 ≤ x ∧ x < u.1 1247) (hvs : u.1 1247 ≤ 120) : Met l yX12_formNow (uws yX12_formNow cX12_formNow 4 (some .int)) (qR 1 0 0) (qPc E A 1 u [.ref (E.2.2 1299), .int x]) (qQi E A 1 (fun r u1 => u1 = u ∧ (r = f_fm k x))) 0 0 A := by
  refine q_met (own := RX12) (f := 1) [.ref (E.2.2 1299), .int x] (by decide) (Nat.le_of_ble_eq_true rfl) rfl ?_
  intro p0 e0 s0 m0 bl0 me0 cd0 ls hF hr hlocks hU hS hA hl
  have hl : lv_has ls 4 [(0, .ref (E.2.2 1299)), (1, .int x)] := hl
  have main : ∀ n : Nat, (∀ (x2 : Int32) (x3 : Int32) (uc : qS) (H : Heap) (locs : List Loc) (ls : Array Slot) (huc : u = uc) (h_k : 0 ≤ x3) (h_v : x3 ≤ u.1 1256) (h_n : x2 = f_fn k x x3.toNatClampNeg), ((u.1 1256).toInt - x3.toInt).toNat < n → qH E A 1 uc s0 H → va_S A s0.heap H locs → lv_has ls 4 [(0, .ref (E.2.2 1299)), (1, .int x), (2, .int x2), (3, .int x3)] → W p0 l e0 (qR 1 0 0) s0 m0 ([.ref (E.2.2 1299), .int x] : List Value).toArray bl0 me0 cd0 H locs 0 0 (MQ bl0 (qQi E A 1 (fun r u1 => u1 = u ∧ (r = f_fm k x))) ([.ref (E.2.2 1299), .int x] : List Value).toArray s0 0 0 A) (F0 m0 9 ls [])) := by
    intro n
    induction n with
    | zero => exact fun _ _ _ _ _ _ _ _ _ _ hmu => absurd hmu (Nat.not_lt_zero _)
    | succ n ih =>
      intro x2 x3 uc H locs ls huc h_k h_v h_n hmu hU hS hl
      subst huc
      refine lv_iload_n hF.1 hF.2.1 dX12_formNow_9 rfl (lv_at hl 3 rfl) ?_
      refine lv_aload_n hF.1 hF.2.1 dX12_formNow_10 rfl (lv_at hl 0 rfl) ?_
      refine q_get (v := .int (u.1 1256)) hF hU dX12_formNow_11 0 12 56 1256 1299 rfl rfl rfl rfl inX12 (by decide) (by decide) w_1388 rfl rfl ?_
      have hs_1 : 0 ≤ u.1 1256 ∧ u.1 1256 ≤ 60 := hI.1.s1256
      refine lv_icmp_ge (tgt := 61) hF.1 hF.2.1 dX12_formNow_14 (by decide) (fun c14_2 => ?_) (fun c14_2 => ?_)
      · refine lv_iload_n hF.1 hF.2.1 dX12_formNow_61 rfl (lv_at hl 2 rfl) ?_
        exact q_iret hF hr rfl hlocks hU hS dX12_formNow_62 ⟨rfl, (g_X12_formNow_f_v0 u x k x2 x3 hI hk hv hvs h_k h_v h_n hs_1 c14_2)⟩
      · refine lv_aload_n hF.1 hF.2.1 dX12_formNow_17 rfl (lv_at hl 0 rfl) ?_
        refine q_get (v := .ref (E.2.2 1257)) hF hU dX12_formNow_18 0 12 57 1257 1299 rfl rfl rfl rfl inX12 (by decide) (by decide) w_1389 rfl rfl ?_
        refine lv_iload_n hF.1 hF.2.1 dX12_formNow_21 rfl (lv_at hl 3 rfl) ?_
        refine q_iald (v := u.2.1 1257 (x3 : Int32).toNatClampNeg) hF hU dX12_formNow_22 35 1257 rfl rfl (g_X12_formNow_f_v1 u x k x2 x3 hI hk hv hvs h_k h_v h_n hs_1 c14_2) rfl ?_
        have hb_3 : 0 ≤ (u.2.1 1257 (x3 : Int32).toNatClampNeg) ∧ (u.2.1 1257 (x3 : Int32).toNatClampNeg) < u.1 1247 := hI.2.1.r1257 x3 (g_X12_formNow_f_v2 u x k x2 x3 hI hk hv hvs h_k h_v h_n hs_1 c14_2)
        have hs_4 : 0 ≤ u.1 1247 ∧ u.1 1247 ≤ 120 := hI.1.s1247
        refine lv_iload_n hF.1 hF.2.1 dX12_formNow_23 rfl (lv_at hl 1 rfl) ?_
        refine lv_icmp_ne (tgt := 53) hF.1 hF.2.1 dX12_formNow_24 (by decide) (fun c24_5 => ?_) (fun c24_5 => ?_)
        · refine lv_iload_n hF.1 hF.2.1 dX12_formNow_53 rfl (lv_at hl 2 rfl) ?_
          refine lv_istore_n (lv' := [(2, .int x2), (0, .ref (E.2.2 1299)), (1, .int x), (3, .int x3)]) hF.1 hF.2.1 dX12_formNow_54 rfl hl (by decide) rfl (fun ls hl => ?_)
          refine lv_iinc (v := x3 + 1) (lv' := [(3, .int (x3 + 1)), (2, .int x2), (0, .ref (E.2.2 1299)), (1, .int x)]) hF.1 hF.2.1 dX12_formNow_55 hl (k := 3) rfl rfl (by decide) rfl (fun ls hl => ?_)
          refine lv_goto (tgt := 9) hF.1 hF.2.1 dX12_formNow_58 (by decide) ?_
          exact ih x2 (x3 + 1) u _ _ _ rfl (g_X12_formNow_f_v3 u x k x2 x3 hI hk hv hvs h_k h_v h_n hs_1 c14_2 hb_3 hs_4 c24_5) (g_X12_formNow_f_v4 u x k x2 x3 hI hk hv hvs h_k h_v h_n hs_1 c14_2 hb_3 hs_4 c24_5) (g_X12_formNow_f_v5 u x k x2 x3 hI hk hv hvs h_k h_v h_n hs_1 c14_2 hb_3 hs_4 c24_5) (Nat.lt_of_lt_of_le (g_X12_formNow_f_v6 u x k x2 x3 hI hk hv hvs h_k h_v h_n hs_1 c14_2 hb_3 hs_4 c24_5) (Nat.lt_succ_iff.mp hmu)) hU hS (lv_sub hl [2, 3, 1, 0] rfl)
        · refine lv_aload_n hF.1 hF.2.1 dX12_formNow_27 rfl (lv_at hl 0 rfl) ?_
          refine q_get (v := .ref (E.2.2 1259)) hF hU dX12_formNow_28 0 12 59 1259 1299 rfl rfl rfl rfl inX12 (by decide) (by decide) w_1391 rfl rfl ?_
          refine lv_iload_n hF.1 hF.2.1 dX12_formNow_31 rfl (lv_at hl 3 rfl) ?_
          refine q_iald (v := u.2.1 1259 (x3 : Int32).toNatClampNeg) hF hU dX12_formNow_32 37 1259 rfl rfl (g_X12_formNow_f_v7 u x k x2 x3 hI hk hv hvs h_k h_v h_n hs_1 c14_2 hb_3 hs_4 c24_5) rfl ?_
          refine lv_aload_n hF.1 hF.2.1 dX12_formNow_33 rfl (lv_at hl 0 rfl) ?_
          have hM9 := g_X12_viewDay_f l E A u k hk
          have hR9 := q_runV (l := l) (e := e0) (below := bl0) (meth := me0) (R := qR 1 0 0) (cells := 0) (slots := 0) (st0 := [.ref (E.2.2 1299), .int (u.2.1 1259 (x3 : Int32).toNatClampNeg)]) (rest := [.int (u.2.1 1259 (x3 : Int32).toNatClampNeg)]) hF hU hS hA 0 0 12 1299 rfl rfl rfl hM9 w_1737 w_1739 w_72 w_107 w_1740 (by decide +kernel) ⟨Nat.le_of_ble_eq_true rfl, Nat.le_of_ble_eq_true rfl⟩ dX12_formNow_34 rfl hl.1 rfl (Nat.le_of_ble_eq_true rfl) ⟨Nat.le_of_ble_eq_true rfl, Nat.le_of_ble_eq_true rfl⟩
          refine q_calli hR9 hU.2.2.2 hS (fun r_8 u_6 H locs hw_7 hU hS => ?_)
          obtain ⟨hw_7_e, hw_7⟩ := hw_7
          rw [hw_7_e] at hU
          have hw_7 : r_8 = f_vd k := hw_7
          refine lv_icmp_gt (tgt := 53) hF.1 hF.2.1 dX12_formNow_37 (by decide) (fun c37_9 => ?_) (fun c37_9 => ?_)
          · refine lv_iload_n hF.1 hF.2.1 dX12_formNow_53 rfl (lv_at hl 2 rfl) ?_
            refine lv_istore_n (lv' := [(2, .int x2), (0, .ref (E.2.2 1299)), (1, .int x), (3, .int x3)]) hF.1 hF.2.1 dX12_formNow_54 rfl hl (by decide) rfl (fun ls hl => ?_)
            refine lv_iinc (v := x3 + 1) (lv' := [(3, .int (x3 + 1)), (2, .int x2), (0, .ref (E.2.2 1299)), (1, .int x)]) hF.1 hF.2.1 dX12_formNow_55 hl (k := 3) rfl rfl (by decide) rfl (fun ls hl => ?_)
            refine lv_goto (tgt := 9) hF.1 hF.2.1 dX12_formNow_58 (by decide) ?_
            exact ih x2 (x3 + 1) u _ _ _ rfl (g_X12_formNow_f_v8 u x k x2 x3 r_8 hI hk hv hvs h_k h_v h_n hs_1 c14_2 hb_3 hs_4 c24_5 hw_7 c37_9) (g_X12_formNow_f_v9 u x k x2 x3 r_8 hI hk hv hvs h_k h_v h_n hs_1 c14_2 hb_3 hs_4 c24_5 hw_7 c37_9) (g_X12_formNow_f_v10 u x k x2 x3 r_8 hI hk hv hvs h_k h_v h_n hs_1 c14_2 hb_3 hs_4 c24_5 hw_7 c37_9) (Nat.lt_of_lt_of_le (g_X12_formNow_f_v11 u x k x2 x3 r_8 hI hk hv hvs h_k h_v h_n hs_1 c14_2 hb_3 hs_4 c24_5 hw_7 c37_9) (Nat.lt_succ_iff.mp hmu)) hU hS (lv_sub hl [2, 3, 1, 0] rfl)
          · refine lv_iload_n hF.1 hF.2.1 dX12_formNow_40 rfl (lv_at hl 2 rfl) ?_
            refine lv_iconst (v := 1) hF.1 hF.2.1 dX12_formNow_41 (by decide) ?_
            refine lv_aload_n hF.1 hF.2.1 dX12_formNow_42 rfl (lv_at hl 0 rfl) ?_
            refine q_get (v := .ref (E.2.2 1258)) hF hU dX12_formNow_43 0 12 58 1258 1299 rfl rfl rfl rfl inX12 (by decide) (by decide) w_1390 rfl rfl ?_
            refine lv_iload_n hF.1 hF.2.1 dX12_formNow_46 rfl (lv_at hl 3 rfl) ?_
            refine q_iald (v := u.2.1 1258 (x3 : Int32).toNatClampNeg) hF hU dX12_formNow_47 36 1258 rfl rfl (g_X12_formNow_f_v12 u x k x2 x3 r_8 hI hk hv hvs h_k h_v h_n hs_1 c14_2 hb_3 hs_4 c24_5 hw_7 c37_9) rfl ?_
            refine lv_ishl hF.1 hF.2.1 dX12_formNow_48 ?_
            refine lv_ixor hF.1 hF.2.1 dX12_formNow_49 ?_
            refine lv_goto (tgt := 54) hF.1 hF.2.1 dX12_formNow_50 (by decide) ?_
            refine lv_istore_n (lv' := [(2, .int (x2 ^^^ (1 <<< (u.2.1 1258 (x3 : Int32).toNatClampNeg &&& 31)))), (0, .ref (E.2.2 1299)), (1, .int x), (3, .int x3)]) hF.1 hF.2.1 dX12_formNow_54 rfl hl (by decide) rfl (fun ls hl => ?_)
            refine lv_iinc (v := x3 + 1) (lv' := [(3, .int (x3 + 1)), (2, .int (x2 ^^^ (1 <<< (u.2.1 1258 (x3 : Int32).toNatClampNeg &&& 31)))), (0, .ref (E.2.2 1299)), (1, .int x)]) hF.1 hF.2.1 dX12_formNow_55 hl (k := 3) rfl rfl (by decide) rfl (fun ls hl => ?_)
            refine lv_goto (tgt := 9) hF.1 hF.2.1 dX12_formNow_58 (by decide) ?_
            exact ih (x2 ^^^ (1 <<< (u.2.1 1258 (x3 : Int32).toNatClampNeg &&& 31))) (x3 + 1) u _ _ _ rfl (g_X12_formNow_f_v13 u x k x2 x3 r_8 hI hk hv hvs h_k h_v h_n hs_1 c14_2 hb_3 hs_4 c24_5 hw_7 c37_9) (g_X12_formNow_f_v14 u x k x2 x3 r_8 hI hk hv hvs h_k h_v h_n hs_1 c14_2 hb_3 hs_4 c24_5 hw_7 c37_9) (g_X12_formNow_f_v15 u x k x2 x3 r_8 hI hk hv hvs h_k h_v h_n hs_1 c14_2 hb_3 hs_4 c24_5 hw_7 c37_9) (Nat.lt_of_lt_of_le (g_X12_formNow_f_v16 u x k x2 x3 r_8 hI hk hv hvs h_k h_v h_n hs_1 c14_2 hb_3 hs_4 c24_5 hw_7 c37_9) (Nat.lt_succ_iff.mp hmu)) hU hS (lv_sub hl [2, 3, 1, 0] rfl)
  refine lv_aload_n hF.1 hF.2.1 dX12_formNow_0 rfl (lv_at hl 0 rfl) ?_
  refine q_get (v := .ref (E.2.2 1253)) hF hU dX12_formNow_1 0 12 53 1253 1299 rfl rfl rfl rfl inX12 (by decide) (by decide) w_1385 rfl rfl ?_
  refine lv_iload_n hF.1 hF.2.1 dX12_formNow_4 rfl (lv_at hl 1 rfl) ?_
  refine q_iald (v := u.2.1 1253 (x : Int32).toNatClampNeg) hF hU dX12_formNow_5 32 1253 rfl rfl (g_X12_formNow_f_v17 u x k hI hk hv hvs) rfl ?_
  refine lv_istore_n (lv' := [(2, .int (u.2.1 1253 (x : Int32).toNatClampNeg)), (0, .ref (E.2.2 1299)), (1, .int x)]) hF.1 hF.2.1 dX12_formNow_6 rfl hl (by decide) rfl (fun ls hl => ?_)
  refine lv_iconst (v := 0) hF.1 hF.2.1 dX12_formNow_7 (by decide) ?_
  refine lv_istore_n (lv' := [(3, .int 0), (2, .int (u.2.1 1253 (x : Int32).toNatClampNeg)), (0, .ref (E.2.2 1299)), (1, .int x)]) hF.1 hF.2.1 dX12_formNow_8 rfl hl (by decide) rfl (fun ls hl => ?_)
  exact (main _) (u.2.1 1253 (x : Int32).toNatClampNeg) (0 : Int32) u _ _ _ rfl (g_X12_formNow_f_v18 u x k hI hk hv hvs) (g_X12_formNow_f_v19 u x k hI hk hv hvs) (g_X12_formNow_f_v20 u x k hI hk hv hvs) (Nat.lt_succ_self _) hU hS (lv_sub hl [2, 3, 1, 0] rfl)
set_option maxRecDepth 100000 in
theorem g_X12_isAlone_f_v0 (u : qS) (x : Int32) (k : qS) (hI : IM u) (hk : IK k u) (hv : 0 ≤ x ∧ x < u.1 1247) (hvs : u.1 1247 ≤ 120) : vp_in (x) 120 := by
  have hz1247 := hI.1.s1247
  refine g_in ?_ ?_ <;> ((try simp only [g_m1, Int32.lt_iff_toInt_lt, Int32.le_iff_toInt_le, ← Int32.toInt_inj, Int32.toInt_add, Int32.toInt_sub, Int32.toInt_mul, Int32.toInt_neg, Int32.reduceToInt, g_bm, g_bm'] at *); omega)
set_option maxRecDepth 100000 in
theorem g_X12_isAlone_f_v1 (u : qS) (x : Int32) (k : qS) (hI : IM u) (hk : IK k u) (hv : 0 ≤ x ∧ x < u.1 1247) (hvs : u.1 1247 ≤ 120) : 0 ≤ x ∧ x < u.1 1247 := by
  have hz1247 := hI.1.s1247
  first | omega | ((try simp only [g_m1, Int32.lt_iff_toInt_lt, Int32.le_iff_toInt_le, ← Int32.toInt_inj, Int32.reduceToInt] at *); omega) | ((try simp only [g_m1, Int32.lt_iff_toInt_lt, Int32.le_iff_toInt_le, ← Int32.toInt_inj, Int32.reduceToInt] at *); omega) | ((try simp only [g_m1, Int32.lt_iff_toInt_lt, Int32.le_iff_toInt_le, ← Int32.toInt_inj, Int32.toInt_add, Int32.toInt_sub, Int32.toInt_mul, Int32.toInt_neg, Int32.reduceToInt, g_bm, g_bm'] at *); omega) | (have qr1 := g_rng x; (try simp only [g_m1, Int32.lt_iff_toInt_lt, Int32.le_iff_toInt_le, ← Int32.toInt_inj, Int32.toInt_add, Int32.toInt_sub, Int32.toInt_mul, Int32.toInt_neg, Int32.reduceToInt, g_bm, g_bm'] at *); omega) | (simp only [g_m1, Int32.lt_iff_toInt_lt, Int32.le_iff_toInt_le, ← Int32.toInt_inj, Int32.toInt_add, Int32.toInt_sub, Int32.toInt_mul, Int32.toInt_neg, Int32.reduceToInt, g_bm, g_bm'] at *; simp at *; omega) | (simp_all; done)
set_option maxRecDepth 100000 in
theorem g_X12_isAlone_f_v2 (u : qS) (x : Int32) (k : qS) (hI : IM u) (hk : IK k u) (hv : 0 ≤ x ∧ x < u.1 1247) (hvs : u.1 1247 ≤ 120) (hb_1 : 0 ≤ (u.2.1 1248 (x : Int32).toNatClampNeg) ∧ (u.2.1 1248 (x : Int32).toNatClampNeg) < u.1 1232) (hs_2 : 0 ≤ u.1 1232 ∧ u.1 1232 ≤ 20) : vp_in (x) 120 := by
  have hz1247 := hI.1.s1247
  refine g_in ?_ ?_ <;> ((try simp only [g_m1, Int32.lt_iff_toInt_lt, Int32.le_iff_toInt_le, ← Int32.toInt_inj, Int32.toInt_add, Int32.toInt_sub, Int32.toInt_mul, Int32.toInt_neg, Int32.reduceToInt, g_bm, g_bm'] at *); omega)
set_option maxRecDepth 100000 in
theorem g_X12_isAlone_f_v3 (u : qS) (x : Int32) (k : qS) (hI : IM u) (hk : IK k u) (hv : 0 ≤ x ∧ x < u.1 1247) (hvs : u.1 1247 ≤ 120) (hb_1 : 0 ≤ (u.2.1 1248 (x : Int32).toNatClampNeg) ∧ (u.2.1 1248 (x : Int32).toNatClampNeg) < u.1 1232) (hs_2 : 0 ≤ u.1 1232 ∧ u.1 1232 ≤ 20) : vp_in (x) 120 := by
  have hz1247 := hI.1.s1247
  refine g_in ?_ ?_ <;> ((try simp only [g_m1, Int32.lt_iff_toInt_lt, Int32.le_iff_toInt_le, ← Int32.toInt_inj, Int32.toInt_add, Int32.toInt_sub, Int32.toInt_mul, Int32.toInt_neg, Int32.reduceToInt, g_bm, g_bm'] at *); omega)
set_option maxRecDepth 100000 in
theorem g_X12_isAlone_f_v4 (u : qS) (x : Int32) (k : qS) (hI : IM u) (hk : IK k u) (hv : 0 ≤ x ∧ x < u.1 1247) (hvs : u.1 1247 ≤ 120) (hb_1 : 0 ≤ (u.2.1 1248 (x : Int32).toNatClampNeg) ∧ (u.2.1 1248 (x : Int32).toNatClampNeg) < u.1 1232) (hs_2 : 0 ≤ u.1 1232 ∧ u.1 1232 ≤ 20) : 0 ≤ x ∧ x < (u.1 1247 : Int32) := by
  have hz1247 := hI.1.s1247
  first | omega | ((try simp only [g_m1, Int32.lt_iff_toInt_lt, Int32.le_iff_toInt_le, ← Int32.toInt_inj, Int32.reduceToInt] at *); omega) | ((try simp only [g_m1, Int32.lt_iff_toInt_lt, Int32.le_iff_toInt_le, ← Int32.toInt_inj, Int32.reduceToInt] at *); omega) | ((try simp only [g_m1, Int32.lt_iff_toInt_lt, Int32.le_iff_toInt_le, ← Int32.toInt_inj, Int32.toInt_add, Int32.toInt_sub, Int32.toInt_mul, Int32.toInt_neg, Int32.reduceToInt, g_bm, g_bm'] at *); omega) | (have qr1 := g_rng x; (try simp only [g_m1, Int32.lt_iff_toInt_lt, Int32.le_iff_toInt_le, ← Int32.toInt_inj, Int32.toInt_add, Int32.toInt_sub, Int32.toInt_mul, Int32.toInt_neg, Int32.reduceToInt, g_bm, g_bm'] at *); omega) | (simp only [g_m1, Int32.lt_iff_toInt_lt, Int32.le_iff_toInt_le, ← Int32.toInt_inj, Int32.toInt_add, Int32.toInt_sub, Int32.toInt_mul, Int32.toInt_neg, Int32.reduceToInt, g_bm, g_bm'] at *; simp at *; omega) | (simp_all; done)
set_option maxRecDepth 100000 in
theorem g_X12_isAlone_f_v5 (u : qS) (x : Int32) (k : qS) (hI : IM u) (hk : IK k u) (hv : 0 ≤ x ∧ x < u.1 1247) (hvs : u.1 1247 ≤ 120) (hb_1 : 0 ≤ (u.2.1 1248 (x : Int32).toNatClampNeg) ∧ (u.2.1 1248 (x : Int32).toNatClampNeg) < u.1 1232) (hs_2 : 0 ≤ u.1 1232 ∧ u.1 1232 ≤ 20) : (u.1 1247 : Int32) ≤ 120 := by
  have hz1247 := hI.1.s1247
  first | omega | ((try simp only [g_m1, Int32.lt_iff_toInt_lt, Int32.le_iff_toInt_le, ← Int32.toInt_inj, Int32.reduceToInt] at *); omega) | ((try simp only [g_m1, Int32.lt_iff_toInt_lt, Int32.le_iff_toInt_le, ← Int32.toInt_inj, Int32.reduceToInt] at *); omega) | ((try simp only [g_m1, Int32.lt_iff_toInt_lt, Int32.le_iff_toInt_le, ← Int32.toInt_inj, Int32.toInt_add, Int32.toInt_sub, Int32.toInt_mul, Int32.toInt_neg, Int32.reduceToInt, g_bm, g_bm'] at *); omega) | (have qr1 := g_rng x; (try simp only [g_m1, Int32.lt_iff_toInt_lt, Int32.le_iff_toInt_le, ← Int32.toInt_inj, Int32.toInt_add, Int32.toInt_sub, Int32.toInt_mul, Int32.toInt_neg, Int32.reduceToInt, g_bm, g_bm'] at *); omega) | (simp only [g_m1, Int32.lt_iff_toInt_lt, Int32.le_iff_toInt_le, ← Int32.toInt_inj, Int32.toInt_add, Int32.toInt_sub, Int32.toInt_mul, Int32.toInt_neg, Int32.reduceToInt, g_bm, g_bm'] at *; simp at *; omega) | (simp_all; done)
set_option maxRecDepth 100000 in
theorem g_X12_isAlone_f_v6 (u : qS) (x : Int32) (k : qS) (r_5 : Int32) (hI : IM u) (hk : IK k u) (hv : 0 ≤ x ∧ x < u.1 1247) (hvs : u.1 1247 ≤ 120) (hb_1 : 0 ≤ (u.2.1 1248 (x : Int32).toNatClampNeg) ∧ (u.2.1 1248 (x : Int32).toNatClampNeg) < u.1 1232) (hs_2 : 0 ≤ u.1 1232 ∧ u.1 1232 ≤ 20) (hw_4 : r_5 = f_fm k x) : vp_in (x) 120 := by
  have hz1247 := hI.1.s1247
  refine g_in ?_ ?_ <;> ((try simp only [g_m1, Int32.lt_iff_toInt_lt, Int32.le_iff_toInt_le, ← Int32.toInt_inj, Int32.toInt_add, Int32.toInt_sub, Int32.toInt_mul, Int32.toInt_neg, Int32.reduceToInt, g_bm, g_bm'] at *); omega)
set_option maxRecDepth 100000 in
theorem g_X12_isAlone_f_v7 (u : qS) (x : Int32) (k : qS) (r_5 : Int32) (hI : IM u) (hk : IK k u) (hv : 0 ≤ x ∧ x < u.1 1247) (hvs : u.1 1247 ≤ 120) (hb_1 : 0 ≤ (u.2.1 1248 (x : Int32).toNatClampNeg) ∧ (u.2.1 1248 (x : Int32).toNatClampNeg) < u.1 1232) (hs_2 : 0 ≤ u.1 1232 ∧ u.1 1232 ≤ 20) (hw_4 : r_5 = f_fm k x) : vp_in (u.2.1 1248 (x : Int32).toNatClampNeg) 20 := by
  have hz1247 := hI.1.s1247
  refine g_in ?_ ?_ <;> ((try simp only [g_m1, Int32.lt_iff_toInt_lt, Int32.le_iff_toInt_le, ← Int32.toInt_inj, Int32.toInt_add, Int32.toInt_sub, Int32.toInt_mul, Int32.toInt_neg, Int32.reduceToInt, g_bm, g_bm'] at *); omega)
set_option maxRecDepth 100000 in
theorem g_X12_isAlone_f_v8 (u : qS) (x : Int32) (k : qS) (r_5 : Int32) (hI : IM u) (hk : IK k u) (hv : 0 ≤ x ∧ x < u.1 1247) (hvs : u.1 1247 ≤ 120) (hb_1 : 0 ≤ (u.2.1 1248 (x : Int32).toNatClampNeg) ∧ (u.2.1 1248 (x : Int32).toNatClampNeg) < u.1 1232) (hs_2 : 0 ≤ u.1 1232 ∧ u.1 1232 ≤ 20) (hw_4 : r_5 = f_fm k x) (c42_6 : (u.2.1 1251 (x : Int32).toNatClampNeg : Int32) < (u.2.1 1236 (u.2.1 1248 (x : Int32).toNatClampNeg : Int32).toNatClampNeg)) : (0 = (1 : Int32) ∧ (f_al k x)) ∨ (0 = (0 : Int32) ∧ ¬ (f_al k x)) := by
  have hz1247 := hI.1.s1247
  have k1236 := hk.r 1236 (by decide)
  have k1237 := hk.r 1237 (by decide)
  have k1248 := hk.r 1248 (by decide)
  have k1251 := hk.r 1251 (by decide)
  have k1252 := hk.r 1252 (by decide)
  have k1254 := hk.r 1254 (by decide)
  unfold f_al; rw [← k1236, ← k1237, ← k1248, ← k1251, ← k1252, ← k1254]; clear hk; subst_vars; first | (refine Or.inl ⟨rfl, ?_⟩; (try simp only [g_m1, Int32.lt_iff_toInt_lt, Int32.le_iff_toInt_le, ← Int32.toInt_inj, Int32.reduceToInt] at *); omega) | (refine Or.inr ⟨rfl, ?_⟩; (try simp only [g_m1, Int32.lt_iff_toInt_lt, Int32.le_iff_toInt_le, ← Int32.toInt_inj, Int32.reduceToInt] at *); omega)
set_option maxRecDepth 100000 in
theorem g_X12_isAlone_f_v9 (u : qS) (x : Int32) (k : qS) (r_5 : Int32) (hI : IM u) (hk : IK k u) (hv : 0 ≤ x ∧ x < u.1 1247) (hvs : u.1 1247 ≤ 120) (hb_1 : 0 ≤ (u.2.1 1248 (x : Int32).toNatClampNeg) ∧ (u.2.1 1248 (x : Int32).toNatClampNeg) < u.1 1232) (hs_2 : 0 ≤ u.1 1232 ∧ u.1 1232 ≤ 20) (hw_4 : r_5 = f_fm k x) (c42_6 : ¬ (u.2.1 1251 (x : Int32).toNatClampNeg : Int32) < (u.2.1 1236 (u.2.1 1248 (x : Int32).toNatClampNeg : Int32).toNatClampNeg)) : vp_in (u.2.1 1248 (x : Int32).toNatClampNeg) 20 := by
  have hz1247 := hI.1.s1247
  refine g_in ?_ ?_ <;> ((try simp only [g_m1, Int32.lt_iff_toInt_lt, Int32.le_iff_toInt_le, ← Int32.toInt_inj, Int32.toInt_add, Int32.toInt_sub, Int32.toInt_mul, Int32.toInt_neg, Int32.reduceToInt, g_bm, g_bm'] at *); omega)
set_option maxRecDepth 100000 in
theorem g_X12_isAlone_f_v10 (u : qS) (x : Int32) (k : qS) (r_5 : Int32) (hI : IM u) (hk : IK k u) (hv : 0 ≤ x ∧ x < u.1 1247) (hvs : u.1 1247 ≤ 120) (hb_1 : 0 ≤ (u.2.1 1248 (x : Int32).toNatClampNeg) ∧ (u.2.1 1248 (x : Int32).toNatClampNeg) < u.1 1232) (hs_2 : 0 ≤ u.1 1232 ∧ u.1 1232 ≤ 20) (hw_4 : r_5 = f_fm k x) (c42_6 : ¬ (u.2.1 1251 (x : Int32).toNatClampNeg : Int32) < (u.2.1 1236 (u.2.1 1248 (x : Int32).toNatClampNeg : Int32).toNatClampNeg)) (c52_7 : (u.2.1 1237 (u.2.1 1248 (x : Int32).toNatClampNeg : Int32).toNatClampNeg) < (((u.2.1 1251 (x : Int32).toNatClampNeg) + (u.2.1 1252 (x : Int32).toNatClampNeg)) - 1 : Int32)) : (0 = (1 : Int32) ∧ (f_al k x)) ∨ (0 = (0 : Int32) ∧ ¬ (f_al k x)) := by
  have hz1247 := hI.1.s1247
  have k1236 := hk.r 1236 (by decide)
  have k1237 := hk.r 1237 (by decide)
  have k1248 := hk.r 1248 (by decide)
  have k1251 := hk.r 1251 (by decide)
  have k1252 := hk.r 1252 (by decide)
  have k1254 := hk.r 1254 (by decide)
  unfold f_al; rw [← k1236, ← k1237, ← k1248, ← k1251, ← k1252, ← k1254]; clear hk; subst_vars; first | (refine Or.inl ⟨rfl, ?_⟩; (try simp only [g_m1, Int32.lt_iff_toInt_lt, Int32.le_iff_toInt_le, ← Int32.toInt_inj, Int32.reduceToInt] at *); omega) | (refine Or.inr ⟨rfl, ?_⟩; (try simp only [g_m1, Int32.lt_iff_toInt_lt, Int32.le_iff_toInt_le, ← Int32.toInt_inj, Int32.reduceToInt] at *); omega)
set_option maxRecDepth 100000 in
theorem g_X12_isAlone_f_v11 (u : qS) (x : Int32) (k : qS) (r_5 : Int32) (hI : IM u) (hk : IK k u) (hv : 0 ≤ x ∧ x < u.1 1247) (hvs : u.1 1247 ≤ 120) (hb_1 : 0 ≤ (u.2.1 1248 (x : Int32).toNatClampNeg) ∧ (u.2.1 1248 (x : Int32).toNatClampNeg) < u.1 1232) (hs_2 : 0 ≤ u.1 1232 ∧ u.1 1232 ≤ 20) (hw_4 : r_5 = f_fm k x) (c42_6 : ¬ (u.2.1 1251 (x : Int32).toNatClampNeg : Int32) < (u.2.1 1236 (u.2.1 1248 (x : Int32).toNatClampNeg : Int32).toNatClampNeg)) (c52_7 : ¬ (u.2.1 1237 (u.2.1 1248 (x : Int32).toNatClampNeg : Int32).toNatClampNeg) < (((u.2.1 1251 (x : Int32).toNatClampNeg) + (u.2.1 1252 (x : Int32).toNatClampNeg)) - 1 : Int32)) : vp_in (x) 120 := by
  have hz1247 := hI.1.s1247
  refine g_in ?_ ?_ <;> ((try simp only [g_m1, Int32.lt_iff_toInt_lt, Int32.le_iff_toInt_le, ← Int32.toInt_inj, Int32.toInt_add, Int32.toInt_sub, Int32.toInt_mul, Int32.toInt_neg, Int32.reduceToInt, g_bm, g_bm'] at *); omega)
set_option maxRecDepth 100000 in
theorem g_X12_isAlone_f_v12 (u : qS) (x : Int32) (k : qS) (r_5 : Int32) (hI : IM u) (hk : IK k u) (hv : 0 ≤ x ∧ x < u.1 1247) (hvs : u.1 1247 ≤ 120) (hb_1 : 0 ≤ (u.2.1 1248 (x : Int32).toNatClampNeg) ∧ (u.2.1 1248 (x : Int32).toNatClampNeg) < u.1 1232) (hs_2 : 0 ≤ u.1 1232 ∧ u.1 1232 ≤ 20) (hw_4 : r_5 = f_fm k x) (c42_6 : ¬ (u.2.1 1251 (x : Int32).toNatClampNeg : Int32) < (u.2.1 1236 (u.2.1 1248 (x : Int32).toNatClampNeg : Int32).toNatClampNeg)) (c52_7 : ¬ (u.2.1 1237 (u.2.1 1248 (x : Int32).toNatClampNeg : Int32).toNatClampNeg) < (((u.2.1 1251 (x : Int32).toNatClampNeg) + (u.2.1 1252 (x : Int32).toNatClampNeg)) - 1 : Int32)) (c73_8 : (u.2.1 1254 (x : Int32).toNatClampNeg : Int32) < 0) (c100_9 : (r_5 &&& 1 : Int32) = 1) : (1 = (1 : Int32) ∧ (f_al k x)) ∨ (1 = (0 : Int32) ∧ ¬ (f_al k x)) := by
  have hz1247 := hI.1.s1247
  have k1236 := hk.r 1236 (by decide)
  have k1237 := hk.r 1237 (by decide)
  have k1248 := hk.r 1248 (by decide)
  have k1251 := hk.r 1251 (by decide)
  have k1252 := hk.r 1252 (by decide)
  have k1254 := hk.r 1254 (by decide)
  unfold f_al; rw [← k1236, ← k1237, ← k1248, ← k1251, ← k1252, ← k1254]; clear hk; subst_vars; first | (refine Or.inl ⟨rfl, ?_⟩; (try simp only [g_m1, Int32.lt_iff_toInt_lt, Int32.le_iff_toInt_le, ← Int32.toInt_inj, Int32.reduceToInt] at *); omega) | (refine Or.inr ⟨rfl, ?_⟩; (try simp only [g_m1, Int32.lt_iff_toInt_lt, Int32.le_iff_toInt_le, ← Int32.toInt_inj, Int32.reduceToInt] at *); omega)
set_option maxRecDepth 100000 in
theorem g_X12_isAlone_f_v13 (u : qS) (x : Int32) (k : qS) (r_5 : Int32) (hI : IM u) (hk : IK k u) (hv : 0 ≤ x ∧ x < u.1 1247) (hvs : u.1 1247 ≤ 120) (hb_1 : 0 ≤ (u.2.1 1248 (x : Int32).toNatClampNeg) ∧ (u.2.1 1248 (x : Int32).toNatClampNeg) < u.1 1232) (hs_2 : 0 ≤ u.1 1232 ∧ u.1 1232 ≤ 20) (hw_4 : r_5 = f_fm k x) (c42_6 : ¬ (u.2.1 1251 (x : Int32).toNatClampNeg : Int32) < (u.2.1 1236 (u.2.1 1248 (x : Int32).toNatClampNeg : Int32).toNatClampNeg)) (c52_7 : ¬ (u.2.1 1237 (u.2.1 1248 (x : Int32).toNatClampNeg : Int32).toNatClampNeg) < (((u.2.1 1251 (x : Int32).toNatClampNeg) + (u.2.1 1252 (x : Int32).toNatClampNeg)) - 1 : Int32)) (c73_8 : (u.2.1 1254 (x : Int32).toNatClampNeg : Int32) < 0) (c100_9 : ¬ (r_5 &&& 1 : Int32) = 1) (c105_10 : ¬ (r_5 : Int32) = 0) : (0 = (1 : Int32) ∧ (f_al k x)) ∨ (0 = (0 : Int32) ∧ ¬ (f_al k x)) := by
  have hz1247 := hI.1.s1247
  have k1236 := hk.r 1236 (by decide)
  have k1237 := hk.r 1237 (by decide)
  have k1248 := hk.r 1248 (by decide)
  have k1251 := hk.r 1251 (by decide)
  have k1252 := hk.r 1252 (by decide)
  have k1254 := hk.r 1254 (by decide)
  unfold f_al; rw [← k1236, ← k1237, ← k1248, ← k1251, ← k1252, ← k1254]; clear hk; subst_vars; first | (refine Or.inl ⟨rfl, ?_⟩; (try simp only [g_m1, Int32.lt_iff_toInt_lt, Int32.le_iff_toInt_le, ← Int32.toInt_inj, Int32.reduceToInt] at *); omega) | (refine Or.inr ⟨rfl, ?_⟩; (try simp only [g_m1, Int32.lt_iff_toInt_lt, Int32.le_iff_toInt_le, ← Int32.toInt_inj, Int32.reduceToInt] at *); omega)
set_option maxRecDepth 100000 in
theorem g_X12_isAlone_f_v14 (u : qS) (x : Int32) (k : qS) (r_5 : Int32) (hI : IM u) (hk : IK k u) (hv : 0 ≤ x ∧ x < u.1 1247) (hvs : u.1 1247 ≤ 120) (hb_1 : 0 ≤ (u.2.1 1248 (x : Int32).toNatClampNeg) ∧ (u.2.1 1248 (x : Int32).toNatClampNeg) < u.1 1232) (hs_2 : 0 ≤ u.1 1232 ∧ u.1 1232 ≤ 20) (hw_4 : r_5 = f_fm k x) (c42_6 : ¬ (u.2.1 1251 (x : Int32).toNatClampNeg : Int32) < (u.2.1 1236 (u.2.1 1248 (x : Int32).toNatClampNeg : Int32).toNatClampNeg)) (c52_7 : ¬ (u.2.1 1237 (u.2.1 1248 (x : Int32).toNatClampNeg : Int32).toNatClampNeg) < (((u.2.1 1251 (x : Int32).toNatClampNeg) + (u.2.1 1252 (x : Int32).toNatClampNeg)) - 1 : Int32)) (c73_8 : (u.2.1 1254 (x : Int32).toNatClampNeg : Int32) < 0) (c100_9 : ¬ (r_5 &&& 1 : Int32) = 1) (c105_10 : (r_5 : Int32) = 0) : (1 = (1 : Int32) ∧ (f_al k x)) ∨ (1 = (0 : Int32) ∧ ¬ (f_al k x)) := by
  have hz1247 := hI.1.s1247
  have k1236 := hk.r 1236 (by decide)
  have k1237 := hk.r 1237 (by decide)
  have k1248 := hk.r 1248 (by decide)
  have k1251 := hk.r 1251 (by decide)
  have k1252 := hk.r 1252 (by decide)
  have k1254 := hk.r 1254 (by decide)
  unfold f_al; rw [← k1236, ← k1237, ← k1248, ← k1251, ← k1252, ← k1254]; clear hk; subst_vars; first | (refine Or.inl ⟨rfl, ?_⟩; (try simp only [g_m1, Int32.lt_iff_toInt_lt, Int32.le_iff_toInt_le, ← Int32.toInt_inj, Int32.reduceToInt] at *); omega) | (refine Or.inr ⟨rfl, ?_⟩; (try simp only [g_m1, Int32.lt_iff_toInt_lt, Int32.le_iff_toInt_le, ← Int32.toInt_inj, Int32.reduceToInt] at *); omega)
set_option maxRecDepth 100000 in
theorem g_X12_isAlone_f_v15 (u : qS) (x : Int32) (k : qS) (r_5 : Int32) (hI : IM u) (hk : IK k u) (hv : 0 ≤ x ∧ x < u.1 1247) (hvs : u.1 1247 ≤ 120) (hb_1 : 0 ≤ (u.2.1 1248 (x : Int32).toNatClampNeg) ∧ (u.2.1 1248 (x : Int32).toNatClampNeg) < u.1 1232) (hs_2 : 0 ≤ u.1 1232 ∧ u.1 1232 ≤ 20) (hw_4 : r_5 = f_fm k x) (c42_6 : ¬ (u.2.1 1251 (x : Int32).toNatClampNeg : Int32) < (u.2.1 1236 (u.2.1 1248 (x : Int32).toNatClampNeg : Int32).toNatClampNeg)) (c52_7 : ¬ (u.2.1 1237 (u.2.1 1248 (x : Int32).toNatClampNeg : Int32).toNatClampNeg) < (((u.2.1 1251 (x : Int32).toNatClampNeg) + (u.2.1 1252 (x : Int32).toNatClampNeg)) - 1 : Int32)) (c73_8 : ¬ (u.2.1 1254 (x : Int32).toNatClampNeg : Int32) < 0) : vp_in (x) 120 := by
  have hz1247 := hI.1.s1247
  refine g_in ?_ ?_ <;> ((try simp only [g_m1, Int32.lt_iff_toInt_lt, Int32.le_iff_toInt_le, ← Int32.toInt_inj, Int32.toInt_add, Int32.toInt_sub, Int32.toInt_mul, Int32.toInt_neg, Int32.reduceToInt, g_bm, g_bm'] at *); omega)
set_option maxRecDepth 100000 in
theorem g_X12_isAlone_f_v16 (u : qS) (x : Int32) (k : qS) (r_5 : Int32) (hI : IM u) (hk : IK k u) (hv : 0 ≤ x ∧ x < u.1 1247) (hvs : u.1 1247 ≤ 120) (hb_1 : 0 ≤ (u.2.1 1248 (x : Int32).toNatClampNeg) ∧ (u.2.1 1248 (x : Int32).toNatClampNeg) < u.1 1232) (hs_2 : 0 ≤ u.1 1232 ∧ u.1 1232 ≤ 20) (hw_4 : r_5 = f_fm k x) (c42_6 : ¬ (u.2.1 1251 (x : Int32).toNatClampNeg : Int32) < (u.2.1 1236 (u.2.1 1248 (x : Int32).toNatClampNeg : Int32).toNatClampNeg)) (c52_7 : ¬ (u.2.1 1237 (u.2.1 1248 (x : Int32).toNatClampNeg : Int32).toNatClampNeg) < (((u.2.1 1251 (x : Int32).toNatClampNeg) + (u.2.1 1252 (x : Int32).toNatClampNeg)) - 1 : Int32)) (c73_8 : ¬ (u.2.1 1254 (x : Int32).toNatClampNeg : Int32) < 0) : vp_in (x) 120 := by
  have hz1247 := hI.1.s1247
  refine g_in ?_ ?_ <;> ((try simp only [g_m1, Int32.lt_iff_toInt_lt, Int32.le_iff_toInt_le, ← Int32.toInt_inj, Int32.toInt_add, Int32.toInt_sub, Int32.toInt_mul, Int32.toInt_neg, Int32.reduceToInt, g_bm, g_bm'] at *); omega)
set_option maxRecDepth 100000 in
theorem g_X12_isAlone_f_v17 (u : qS) (x : Int32) (k : qS) (r_5 : Int32) (hI : IM u) (hk : IK k u) (hv : 0 ≤ x ∧ x < u.1 1247) (hvs : u.1 1247 ≤ 120) (hb_1 : 0 ≤ (u.2.1 1248 (x : Int32).toNatClampNeg) ∧ (u.2.1 1248 (x : Int32).toNatClampNeg) < u.1 1232) (hs_2 : 0 ≤ u.1 1232 ∧ u.1 1232 ≤ 20) (hw_4 : r_5 = f_fm k x) (c42_6 : ¬ (u.2.1 1251 (x : Int32).toNatClampNeg : Int32) < (u.2.1 1236 (u.2.1 1248 (x : Int32).toNatClampNeg : Int32).toNatClampNeg)) (c52_7 : ¬ (u.2.1 1237 (u.2.1 1248 (x : Int32).toNatClampNeg : Int32).toNatClampNeg) < (((u.2.1 1251 (x : Int32).toNatClampNeg) + (u.2.1 1252 (x : Int32).toNatClampNeg)) - 1 : Int32)) (c73_8 : ¬ (u.2.1 1254 (x : Int32).toNatClampNeg : Int32) < 0) (b89_14 : (u.2.1 1251 (x : Int32).toNatClampNeg) ≤ (u.2.1 1254 (x : Int32).toNatClampNeg) ∧ (u.2.1 1254 (x : Int32).toNatClampNeg) ≤ (((u.2.1 1251 (x : Int32).toNatClampNeg) + (u.2.1 1252 (x : Int32).toNatClampNeg)) - 1)) (c100_15 : (r_5 &&& 1 : Int32) = 1) : (1 = (1 : Int32) ∧ (f_al k x)) ∨ (1 = (0 : Int32) ∧ ¬ (f_al k x)) := by
  have hz1247 := hI.1.s1247
  have k1236 := hk.r 1236 (by decide)
  have k1237 := hk.r 1237 (by decide)
  have k1248 := hk.r 1248 (by decide)
  have k1251 := hk.r 1251 (by decide)
  have k1252 := hk.r 1252 (by decide)
  have k1254 := hk.r 1254 (by decide)
  unfold f_al; rw [← k1236, ← k1237, ← k1248, ← k1251, ← k1252, ← k1254]; clear hk; subst_vars; first | (refine Or.inl ⟨rfl, ?_⟩; (try simp only [g_m1, Int32.lt_iff_toInt_lt, Int32.le_iff_toInt_le, ← Int32.toInt_inj, Int32.reduceToInt] at *); omega) | (refine Or.inr ⟨rfl, ?_⟩; (try simp only [g_m1, Int32.lt_iff_toInt_lt, Int32.le_iff_toInt_le, ← Int32.toInt_inj, Int32.reduceToInt] at *); omega)
set_option maxRecDepth 100000 in
theorem g_X12_isAlone_f_v18 (u : qS) (x : Int32) (k : qS) (r_5 : Int32) (hI : IM u) (hk : IK k u) (hv : 0 ≤ x ∧ x < u.1 1247) (hvs : u.1 1247 ≤ 120) (hb_1 : 0 ≤ (u.2.1 1248 (x : Int32).toNatClampNeg) ∧ (u.2.1 1248 (x : Int32).toNatClampNeg) < u.1 1232) (hs_2 : 0 ≤ u.1 1232 ∧ u.1 1232 ≤ 20) (hw_4 : r_5 = f_fm k x) (c42_6 : ¬ (u.2.1 1251 (x : Int32).toNatClampNeg : Int32) < (u.2.1 1236 (u.2.1 1248 (x : Int32).toNatClampNeg : Int32).toNatClampNeg)) (c52_7 : ¬ (u.2.1 1237 (u.2.1 1248 (x : Int32).toNatClampNeg : Int32).toNatClampNeg) < (((u.2.1 1251 (x : Int32).toNatClampNeg) + (u.2.1 1252 (x : Int32).toNatClampNeg)) - 1 : Int32)) (c73_8 : ¬ (u.2.1 1254 (x : Int32).toNatClampNeg : Int32) < 0) (b89_14 : (u.2.1 1251 (x : Int32).toNatClampNeg) ≤ (u.2.1 1254 (x : Int32).toNatClampNeg) ∧ (u.2.1 1254 (x : Int32).toNatClampNeg) ≤ (((u.2.1 1251 (x : Int32).toNatClampNeg) + (u.2.1 1252 (x : Int32).toNatClampNeg)) - 1)) (c100_15 : ¬ (r_5 &&& 1 : Int32) = 1) (c105_16 : ¬ (r_5 : Int32) = 0) : (0 = (1 : Int32) ∧ (f_al k x)) ∨ (0 = (0 : Int32) ∧ ¬ (f_al k x)) := by
  have hz1247 := hI.1.s1247
  have k1236 := hk.r 1236 (by decide)
  have k1237 := hk.r 1237 (by decide)
  have k1248 := hk.r 1248 (by decide)
  have k1251 := hk.r 1251 (by decide)
  have k1252 := hk.r 1252 (by decide)
  have k1254 := hk.r 1254 (by decide)
  unfold f_al; rw [← k1236, ← k1237, ← k1248, ← k1251, ← k1252, ← k1254]; clear hk; subst_vars; first | (refine Or.inl ⟨rfl, ?_⟩; (try simp only [g_m1, Int32.lt_iff_toInt_lt, Int32.le_iff_toInt_le, ← Int32.toInt_inj, Int32.reduceToInt] at *); omega) | (refine Or.inr ⟨rfl, ?_⟩; (try simp only [g_m1, Int32.lt_iff_toInt_lt, Int32.le_iff_toInt_le, ← Int32.toInt_inj, Int32.reduceToInt] at *); omega)
set_option maxRecDepth 100000 in
theorem g_X12_isAlone_f_v19 (u : qS) (x : Int32) (k : qS) (r_5 : Int32) (hI : IM u) (hk : IK k u) (hv : 0 ≤ x ∧ x < u.1 1247) (hvs : u.1 1247 ≤ 120) (hb_1 : 0 ≤ (u.2.1 1248 (x : Int32).toNatClampNeg) ∧ (u.2.1 1248 (x : Int32).toNatClampNeg) < u.1 1232) (hs_2 : 0 ≤ u.1 1232 ∧ u.1 1232 ≤ 20) (hw_4 : r_5 = f_fm k x) (c42_6 : ¬ (u.2.1 1251 (x : Int32).toNatClampNeg : Int32) < (u.2.1 1236 (u.2.1 1248 (x : Int32).toNatClampNeg : Int32).toNatClampNeg)) (c52_7 : ¬ (u.2.1 1237 (u.2.1 1248 (x : Int32).toNatClampNeg : Int32).toNatClampNeg) < (((u.2.1 1251 (x : Int32).toNatClampNeg) + (u.2.1 1252 (x : Int32).toNatClampNeg)) - 1 : Int32)) (c73_8 : ¬ (u.2.1 1254 (x : Int32).toNatClampNeg : Int32) < 0) (b89_14 : (u.2.1 1251 (x : Int32).toNatClampNeg) ≤ (u.2.1 1254 (x : Int32).toNatClampNeg) ∧ (u.2.1 1254 (x : Int32).toNatClampNeg) ≤ (((u.2.1 1251 (x : Int32).toNatClampNeg) + (u.2.1 1252 (x : Int32).toNatClampNeg)) - 1)) (c100_15 : ¬ (r_5 &&& 1 : Int32) = 1) (c105_16 : (r_5 : Int32) = 0) : (1 = (1 : Int32) ∧ (f_al k x)) ∨ (1 = (0 : Int32) ∧ ¬ (f_al k x)) := by
  have hz1247 := hI.1.s1247
  have k1236 := hk.r 1236 (by decide)
  have k1237 := hk.r 1237 (by decide)
  have k1248 := hk.r 1248 (by decide)
  have k1251 := hk.r 1251 (by decide)
  have k1252 := hk.r 1252 (by decide)
  have k1254 := hk.r 1254 (by decide)
  unfold f_al; rw [← k1236, ← k1237, ← k1248, ← k1251, ← k1252, ← k1254]; clear hk; subst_vars; first | (refine Or.inl ⟨rfl, ?_⟩; (try simp only [g_m1, Int32.lt_iff_toInt_lt, Int32.le_iff_toInt_le, ← Int32.toInt_inj, Int32.reduceToInt] at *); omega) | (refine Or.inr ⟨rfl, ?_⟩; (try simp only [g_m1, Int32.lt_iff_toInt_lt, Int32.le_iff_toInt_le, ← Int32.toInt_inj, Int32.reduceToInt] at *); omega)
set_option maxRecDepth 100000 in
theorem g_X12_isAlone_f_v20 (u : qS) (x : Int32) (k : qS) (r_5 : Int32) (hI : IM u) (hk : IK k u) (hv : 0 ≤ x ∧ x < u.1 1247) (hvs : u.1 1247 ≤ 120) (hb_1 : 0 ≤ (u.2.1 1248 (x : Int32).toNatClampNeg) ∧ (u.2.1 1248 (x : Int32).toNatClampNeg) < u.1 1232) (hs_2 : 0 ≤ u.1 1232 ∧ u.1 1232 ≤ 20) (hw_4 : r_5 = f_fm k x) (c42_6 : ¬ (u.2.1 1251 (x : Int32).toNatClampNeg : Int32) < (u.2.1 1236 (u.2.1 1248 (x : Int32).toNatClampNeg : Int32).toNatClampNeg)) (c52_7 : ¬ (u.2.1 1237 (u.2.1 1248 (x : Int32).toNatClampNeg : Int32).toNatClampNeg) < (((u.2.1 1251 (x : Int32).toNatClampNeg) + (u.2.1 1252 (x : Int32).toNatClampNeg)) - 1 : Int32)) (c73_8 : ¬ (u.2.1 1254 (x : Int32).toNatClampNeg : Int32) < 0) (b89_14 : ¬ ((u.2.1 1251 (x : Int32).toNatClampNeg) ≤ (u.2.1 1254 (x : Int32).toNatClampNeg) ∧ (u.2.1 1254 (x : Int32).toNatClampNeg) ≤ (((u.2.1 1251 (x : Int32).toNatClampNeg) + (u.2.1 1252 (x : Int32).toNatClampNeg)) - 1))) : (0 = (1 : Int32) ∧ (f_al k x)) ∨ (0 = (0 : Int32) ∧ ¬ (f_al k x)) := by
  have hz1247 := hI.1.s1247
  have k1236 := hk.r 1236 (by decide)
  have k1237 := hk.r 1237 (by decide)
  have k1248 := hk.r 1248 (by decide)
  have k1251 := hk.r 1251 (by decide)
  have k1252 := hk.r 1252 (by decide)
  have k1254 := hk.r 1254 (by decide)
  unfold f_al; rw [← k1236, ← k1237, ← k1248, ← k1251, ← k1252, ← k1254]; clear hk; subst_vars; first | (refine Or.inl ⟨rfl, ?_⟩; (try simp only [g_m1, Int32.lt_iff_toInt_lt, Int32.le_iff_toInt_le, ← Int32.toInt_inj, Int32.reduceToInt] at *); omega) | (refine Or.inr ⟨rfl, ?_⟩; (try simp only [g_m1, Int32.lt_iff_toInt_lt, Int32.le_iff_toInt_le, ← Int32.toInt_inj, Int32.reduceToInt] at *); omega)
set_option maxHeartbeats 1000000 in
set_option maxRecDepth 100000 in
theorem g_X12_isAlone_f (l : Launch) (E : qE) (A : Nat → Prop) (u : qS) (x : Int32) (k : qS) (hI : IM u) (hk : IK k u) (hv : 0 ≤ x ∧ x < u.1 1247) (hvs : u.1 1247 ≤ 120) : Met l yX12_isAlone (uws yX12_isAlone cX12_isAlone 6 (some .boolean)) (qR 2 0 0) (qPc E A 1 u [.ref (E.2.2 1299), .int x]) (qQi E A 1 (fun r u1 => u1 = u ∧ ((r = 1 ∧ (f_al k x)) ∨ (r = 0 ∧ ¬ (f_al k x))))) 0 0 A := by
  refine q_met (own := RX12) (f := 2) [.ref (E.2.2 1299), .int x] (by decide) (Nat.le_of_ble_eq_true rfl) rfl ?_
  intro p0 e0 s0 m0 bl0 me0 cd0 ls hF hr hlocks hU hS hA hl
  have hl : lv_has ls 6 [(0, .ref (E.2.2 1299)), (1, .int x)] := hl
  refine lv_aload_n hF.1 hF.2.1 dX12_isAlone_0 rfl (lv_at hl 0 rfl) ?_
  refine q_get (v := .ref (E.2.2 1248)) hF hU dX12_isAlone_1 0 12 48 1248 1299 rfl rfl rfl rfl inX12 (by decide) (by decide) w_1380 rfl rfl ?_
  refine lv_iload_n hF.1 hF.2.1 dX12_isAlone_4 rfl (lv_at hl 1 rfl) ?_
  refine q_iald (v := u.2.1 1248 (x : Int32).toNatClampNeg) hF hU dX12_isAlone_5 27 1248 rfl rfl (g_X12_isAlone_f_v0 u x k hI hk hv hvs) rfl ?_
  have hb_1 : 0 ≤ (u.2.1 1248 (x : Int32).toNatClampNeg) ∧ (u.2.1 1248 (x : Int32).toNatClampNeg) < u.1 1232 := hI.2.1.r1248 x (g_X12_isAlone_f_v1 u x k hI hk hv hvs)
  have hs_2 : 0 ≤ u.1 1232 ∧ u.1 1232 ≤ 20 := hI.1.s1232
  refine lv_istore_n (lv' := [(2, .int (u.2.1 1248 (x : Int32).toNatClampNeg)), (0, .ref (E.2.2 1299)), (1, .int x)]) hF.1 hF.2.1 dX12_isAlone_6 rfl hl (by decide) rfl (fun ls hl => ?_)
  refine lv_aload_n hF.1 hF.2.1 dX12_isAlone_7 rfl (lv_at hl 1 rfl) ?_
  refine q_get (v := .ref (E.2.2 1251)) hF hU dX12_isAlone_8 0 12 51 1251 1299 rfl rfl rfl rfl inX12 (by decide) (by decide) w_1383 rfl rfl ?_
  refine lv_iload_n hF.1 hF.2.1 dX12_isAlone_11 rfl (lv_at hl 2 rfl) ?_
  refine q_iald (v := u.2.1 1251 (x : Int32).toNatClampNeg) hF hU dX12_isAlone_12 30 1251 rfl rfl (g_X12_isAlone_f_v2 u x k hI hk hv hvs hb_1 hs_2) rfl ?_
  refine lv_aload_n hF.1 hF.2.1 dX12_isAlone_13 rfl (lv_at hl 1 rfl) ?_
  refine q_get (v := .ref (E.2.2 1252)) hF hU dX12_isAlone_14 0 12 52 1252 1299 rfl rfl rfl rfl inX12 (by decide) (by decide) w_1384 rfl rfl ?_
  refine lv_iload_n hF.1 hF.2.1 dX12_isAlone_17 rfl (lv_at hl 2 rfl) ?_
  refine q_iald (v := u.2.1 1252 (x : Int32).toNatClampNeg) hF hU dX12_isAlone_18 31 1252 rfl rfl (g_X12_isAlone_f_v3 u x k hI hk hv hvs hb_1 hs_2) rfl ?_
  refine lv_iadd hF.1 hF.2.1 dX12_isAlone_19 ?_
  refine lv_iconst (v := 1) hF.1 hF.2.1 dX12_isAlone_20 (by decide) ?_
  refine lv_isub hF.1 hF.2.1 dX12_isAlone_21 ?_
  refine lv_istore_n (lv' := [(3, .int (((u.2.1 1251 (x : Int32).toNatClampNeg) + (u.2.1 1252 (x : Int32).toNatClampNeg)) - 1)), (2, .int (u.2.1 1248 (x : Int32).toNatClampNeg)), (0, .ref (E.2.2 1299)), (1, .int x)]) hF.1 hF.2.1 dX12_isAlone_22 rfl hl (by decide) rfl (fun ls hl => ?_)
  refine lv_aload_n hF.1 hF.2.1 dX12_isAlone_23 rfl (lv_at hl 2 rfl) ?_
  refine lv_iload_n hF.1 hF.2.1 dX12_isAlone_24 rfl (lv_at hl 3 rfl) ?_
  have hM9 := g_X12_formNow_f l E A u x k hI hk (g_X12_isAlone_f_v4 u x k hI hk hv hvs hb_1 hs_2) (g_X12_isAlone_f_v5 u x k hI hk hv hvs hb_1 hs_2)
  have hR9 := q_runV (l := l) (e := e0) (below := bl0) (meth := me0) (R := qR 2 0 0) (cells := 0) (slots := 0) (st0 := [.int x, .ref (E.2.2 1299)]) (rest := []) hF hU hS hA 1 0 12 1299 rfl rfl rfl hM9 w_1753 w_1755 w_76 w_107 w_1756 (by decide +kernel) ⟨Nat.le_of_ble_eq_true rfl, Nat.le_of_ble_eq_true rfl⟩ dX12_isAlone_25 rfl hl.1 rfl (Nat.le_of_ble_eq_true rfl) ⟨Nat.le_of_ble_eq_true rfl, Nat.le_of_ble_eq_true rfl⟩
  refine q_calli hR9 hU.2.2.2 hS (fun r_5 u_3 H locs hw_4 hU hS => ?_)
  obtain ⟨hw_4_e, hw_4⟩ := hw_4
  rw [hw_4_e] at hU
  have hw_4 : r_5 = f_fm k x := hw_4
  refine lv_istore (lv' := [(4, .int r_5), (3, .int (((u.2.1 1251 (x : Int32).toNatClampNeg) + (u.2.1 1252 (x : Int32).toNatClampNeg)) - 1)), (2, .int (u.2.1 1248 (x : Int32).toNatClampNeg)), (0, .ref (E.2.2 1299)), (1, .int x)]) hF.1 hF.2.1 dX12_isAlone_28 hl (by decide) rfl (fun ls hl => ?_)
  refine lv_aload_n hF.1 hF.2.1 dX12_isAlone_30 rfl (lv_at hl 3 rfl) ?_
  refine q_get (v := .ref (E.2.2 1251)) hF hU dX12_isAlone_31 0 12 51 1251 1299 rfl rfl rfl rfl inX12 (by decide) (by decide) w_1383 rfl rfl ?_
  refine lv_iload_n hF.1 hF.2.1 dX12_isAlone_34 rfl (lv_at hl 4 rfl) ?_
  refine q_iald (v := u.2.1 1251 (x : Int32).toNatClampNeg) hF hU dX12_isAlone_35 30 1251 rfl rfl (g_X12_isAlone_f_v6 u x k r_5 hI hk hv hvs hb_1 hs_2 hw_4) rfl ?_
  refine lv_aload_n hF.1 hF.2.1 dX12_isAlone_36 rfl (lv_at hl 3 rfl) ?_
  refine q_get (v := .ref (E.2.2 1236)) hF hU dX12_isAlone_37 0 12 36 1236 1299 rfl rfl rfl rfl inX12 (by decide) (by decide) w_1368 rfl rfl ?_
  refine lv_iload_n hF.1 hF.2.1 dX12_isAlone_40 rfl (lv_at hl 2 rfl) ?_
  refine q_iald (v := u.2.1 1236 (u.2.1 1248 (x : Int32).toNatClampNeg : Int32).toNatClampNeg) hF hU dX12_isAlone_41 22 1236 rfl rfl (g_X12_isAlone_f_v7 u x k r_5 hI hk hv hvs hb_1 hs_2 hw_4) rfl ?_
  refine lv_icmp_lt (tgt := 59) hF.1 hF.2.1 dX12_isAlone_42 (by decide) (fun c42_6 => ?_) (fun c42_6 => ?_)
  · refine lv_iconst (v := 0) hF.1 hF.2.1 dX12_isAlone_59 (by decide) ?_
    refine lv_istore (lv' := [(5, .int 0), (4, .int r_5), (3, .int (((u.2.1 1251 (x : Int32).toNatClampNeg) + (u.2.1 1252 (x : Int32).toNatClampNeg)) - 1)), (2, .int (u.2.1 1248 (x : Int32).toNatClampNeg)), (0, .ref (E.2.2 1299)), (1, .int x)]) hF.1 hF.2.1 dX12_isAlone_60 hl (by decide) rfl (fun ls hl => ?_)
    refine lv_iload hF.1 hF.2.1 dX12_isAlone_62 (lv_at hl 0 rfl) ?_
    refine lv_if_eq (tgt := 112) hF.1 hF.2.1 dX12_isAlone_64 (by decide) (fun _ => ?_) (fun h9 => absurd (by decide) h9)
    refine lv_iconst (v := 0) hF.1 hF.2.1 dX12_isAlone_112 (by decide) ?_
    exact q_iret hF hr (by decide) hlocks hU hS dX12_isAlone_113 ⟨rfl, (g_X12_isAlone_f_v8 u x k r_5 hI hk hv hvs hb_1 hs_2 hw_4 c42_6)⟩
  · refine lv_iload_n hF.1 hF.2.1 dX12_isAlone_45 rfl (lv_at hl 1 rfl) ?_
    refine lv_aload_n hF.1 hF.2.1 dX12_isAlone_46 rfl (lv_at hl 3 rfl) ?_
    refine q_get (v := .ref (E.2.2 1237)) hF hU dX12_isAlone_47 0 12 37 1237 1299 rfl rfl rfl rfl inX12 (by decide) (by decide) w_1369 rfl rfl ?_
    refine lv_iload_n hF.1 hF.2.1 dX12_isAlone_50 rfl (lv_at hl 2 rfl) ?_
    refine q_iald (v := u.2.1 1237 (u.2.1 1248 (x : Int32).toNatClampNeg : Int32).toNatClampNeg) hF hU dX12_isAlone_51 23 1237 rfl rfl (g_X12_isAlone_f_v9 u x k r_5 hI hk hv hvs hb_1 hs_2 hw_4 c42_6) rfl ?_
    refine lv_icmp_gt (tgt := 59) hF.1 hF.2.1 dX12_isAlone_52 (by decide) (fun c52_7 => ?_) (fun c52_7 => ?_)
    · refine lv_iconst (v := 0) hF.1 hF.2.1 dX12_isAlone_59 (by decide) ?_
      refine lv_istore (lv' := [(5, .int 0), (4, .int r_5), (3, .int (((u.2.1 1251 (x : Int32).toNatClampNeg) + (u.2.1 1252 (x : Int32).toNatClampNeg)) - 1)), (2, .int (u.2.1 1248 (x : Int32).toNatClampNeg)), (0, .ref (E.2.2 1299)), (1, .int x)]) hF.1 hF.2.1 dX12_isAlone_60 hl (by decide) rfl (fun ls hl => ?_)
      refine lv_iload hF.1 hF.2.1 dX12_isAlone_62 (lv_at hl 0 rfl) ?_
      refine lv_if_eq (tgt := 112) hF.1 hF.2.1 dX12_isAlone_64 (by decide) (fun _ => ?_) (fun h9 => absurd (by decide) h9)
      refine lv_iconst (v := 0) hF.1 hF.2.1 dX12_isAlone_112 (by decide) ?_
      exact q_iret hF hr (by decide) hlocks hU hS dX12_isAlone_113 ⟨rfl, (g_X12_isAlone_f_v10 u x k r_5 hI hk hv hvs hb_1 hs_2 hw_4 c42_6 c52_7)⟩
    · refine lv_iconst (v := 1) hF.1 hF.2.1 dX12_isAlone_55 (by decide) ?_
      refine lv_goto (tgt := 60) hF.1 hF.2.1 dX12_isAlone_56 (by decide) ?_
      refine lv_istore (lv' := [(5, .int 1), (4, .int r_5), (3, .int (((u.2.1 1251 (x : Int32).toNatClampNeg) + (u.2.1 1252 (x : Int32).toNatClampNeg)) - 1)), (2, .int (u.2.1 1248 (x : Int32).toNatClampNeg)), (0, .ref (E.2.2 1299)), (1, .int x)]) hF.1 hF.2.1 dX12_isAlone_60 hl (by decide) rfl (fun ls hl => ?_)
      refine lv_iload hF.1 hF.2.1 dX12_isAlone_62 (lv_at hl 0 rfl) ?_
      refine lv_if_eq (tgt := 112) hF.1 hF.2.1 dX12_isAlone_64 (by decide) (fun h9 => absurd h9 (by decide)) (fun _ => ?_)
      refine lv_aload_n hF.1 hF.2.1 dX12_isAlone_67 rfl (lv_at hl 4 rfl) ?_
      refine q_get (v := .ref (E.2.2 1254)) hF hU dX12_isAlone_68 0 12 54 1254 1299 rfl rfl rfl rfl inX12 (by decide) (by decide) w_1386 rfl rfl ?_
      refine lv_iload_n hF.1 hF.2.1 dX12_isAlone_71 rfl (lv_at hl 5 rfl) ?_
      refine q_iald (v := u.2.1 1254 (x : Int32).toNatClampNeg) hF hU dX12_isAlone_72 33 1254 rfl rfl (g_X12_isAlone_f_v11 u x k r_5 hI hk hv hvs hb_1 hs_2 hw_4 c42_6 c52_7) rfl ?_
      refine lv_if_lt (tgt := 95) hF.1 hF.2.1 dX12_isAlone_73 (by decide) (fun c73_8 => ?_) (fun c73_8 => ?_)
      · refine lv_iload hF.1 hF.2.1 dX12_isAlone_95 (lv_at hl 1 rfl) ?_
        refine lv_iconst (v := 1) hF.1 hF.2.1 dX12_isAlone_97 (by decide) ?_
        refine lv_iand hF.1 hF.2.1 dX12_isAlone_98 ?_
        refine lv_iconst (v := 1) hF.1 hF.2.1 dX12_isAlone_99 (by decide) ?_
        refine lv_icmp_eq (tgt := 108) hF.1 hF.2.1 dX12_isAlone_100 (by decide) (fun c100_9 => ?_) (fun c100_9 => ?_)
        · refine lv_iconst (v := 1) hF.1 hF.2.1 dX12_isAlone_108 (by decide) ?_
          refine lv_goto (tgt := 113) hF.1 hF.2.1 dX12_isAlone_109 (by decide) ?_
          exact q_iret hF hr (by decide) hlocks hU hS dX12_isAlone_113 ⟨rfl, (g_X12_isAlone_f_v12 u x k r_5 hI hk hv hvs hb_1 hs_2 hw_4 c42_6 c52_7 c73_8 c100_9)⟩
        · refine lv_iload hF.1 hF.2.1 dX12_isAlone_103 (lv_at hl 1 rfl) ?_
          refine lv_if_ne (tgt := 112) hF.1 hF.2.1 dX12_isAlone_105 (by decide) (fun c105_10 => ?_) (fun c105_10 => ?_)
          · refine lv_iconst (v := 0) hF.1 hF.2.1 dX12_isAlone_112 (by decide) ?_
            exact q_iret hF hr (by decide) hlocks hU hS dX12_isAlone_113 ⟨rfl, (g_X12_isAlone_f_v13 u x k r_5 hI hk hv hvs hb_1 hs_2 hw_4 c42_6 c52_7 c73_8 c100_9 c105_10)⟩
          · refine lv_iconst (v := 1) hF.1 hF.2.1 dX12_isAlone_108 (by decide) ?_
            refine lv_goto (tgt := 113) hF.1 hF.2.1 dX12_isAlone_109 (by decide) ?_
            exact q_iret hF hr (by decide) hlocks hU hS dX12_isAlone_113 ⟨rfl, (g_X12_isAlone_f_v14 u x k r_5 hI hk hv hvs hb_1 hs_2 hw_4 c42_6 c52_7 c73_8 c100_9 c105_10)⟩
      · refine lv_aload_n hF.1 hF.2.1 dX12_isAlone_76 rfl (lv_at hl 4 rfl) ?_
        refine q_get (v := .ref (E.2.2 1254)) hF hU dX12_isAlone_77 0 12 54 1254 1299 rfl rfl rfl rfl inX12 (by decide) (by decide) w_1386 rfl rfl ?_
        refine lv_iload_n hF.1 hF.2.1 dX12_isAlone_80 rfl (lv_at hl 5 rfl) ?_
        refine q_iald (v := u.2.1 1254 (x : Int32).toNatClampNeg) hF hU dX12_isAlone_81 33 1254 rfl rfl (g_X12_isAlone_f_v15 u x k r_5 hI hk hv hvs hb_1 hs_2 hw_4 c42_6 c52_7 c73_8) rfl ?_
        refine lv_aload_n hF.1 hF.2.1 dX12_isAlone_82 rfl (lv_at hl 4 rfl) ?_
        refine q_get (v := .ref (E.2.2 1251)) hF hU dX12_isAlone_83 0 12 51 1251 1299 rfl rfl rfl rfl inX12 (by decide) (by decide) w_1383 rfl rfl ?_
        refine lv_iload_n hF.1 hF.2.1 dX12_isAlone_86 rfl (lv_at hl 5 rfl) ?_
        refine q_iald (v := u.2.1 1251 (x : Int32).toNatClampNeg) hF hU dX12_isAlone_87 30 1251 rfl rfl (g_X12_isAlone_f_v16 u x k r_5 hI hk hv hvs hb_1 hs_2 hw_4 c42_6 c52_7 c73_8) rfl ?_
        refine lv_iload_n hF.1 hF.2.1 dX12_isAlone_88 rfl (lv_at hl 2 rfl) ?_
        have hM9 := g_X12_within l E A u (u.2.1 1254 (x : Int32).toNatClampNeg) (u.2.1 1251 (x : Int32).toNatClampNeg) (((u.2.1 1251 (x : Int32).toNatClampNeg) + (u.2.1 1252 (x : Int32).toNatClampNeg)) - 1)
        have hR9 := q_runS (l := l) (e := e0) (below := bl0) (meth := me0) (R := qR 2 0 0) (cells := 0) (slots := 0) (st0 := [.int (((u.2.1 1251 (x : Int32).toNatClampNeg) + (u.2.1 1252 (x : Int32).toNatClampNeg)) - 1), .int (u.2.1 1251 (x : Int32).toNatClampNeg), .int (u.2.1 1254 (x : Int32).toNatClampNeg)]) (rest := []) hF hU hS hA 3 hM9 w_1683 w_1684 w_107 w_1685 (by decide +kernel) ⟨Nat.le_of_ble_eq_true rfl, Nat.le_of_ble_eq_true rfl⟩ dX12_isAlone_89 rfl hl.1 rfl (Nat.le_of_ble_eq_true rfl) ⟨Nat.le_of_ble_eq_true rfl, Nat.le_of_ble_eq_true rfl⟩
        refine q_calli hR9 hU.2.2.2 hS (fun r_13 u_11 H locs hw_12 hU hS => ?_)
        obtain ⟨hw_12_e, hw_12⟩ := hw_12
        rw [hw_12_e] at hU
        have hw_12 : (r_13 = 1 ∧ ((u.2.1 1251 (x : Int32).toNatClampNeg) ≤ (u.2.1 1254 (x : Int32).toNatClampNeg) ∧ (u.2.1 1254 (x : Int32).toNatClampNeg) ≤ (((u.2.1 1251 (x : Int32).toNatClampNeg) + (u.2.1 1252 (x : Int32).toNatClampNeg)) - 1))) ∨ (r_13 = 0 ∧ ¬ ((u.2.1 1251 (x : Int32).toNatClampNeg) ≤ (u.2.1 1254 (x : Int32).toNatClampNeg) ∧ (u.2.1 1254 (x : Int32).toNatClampNeg) ≤ (((u.2.1 1251 (x : Int32).toNatClampNeg) + (u.2.1 1252 (x : Int32).toNatClampNeg)) - 1))) := hw_12
        rcases hw_12 with ⟨rfl, b89_14⟩ | ⟨rfl, b89_14⟩
        · refine lv_if_eq (tgt := 112) hF.1 hF.2.1 dX12_isAlone_92 (by decide) (fun h9 => absurd h9 (by decide)) (fun _ => ?_)
          refine lv_iload hF.1 hF.2.1 dX12_isAlone_95 (lv_at hl 1 rfl) ?_
          refine lv_iconst (v := 1) hF.1 hF.2.1 dX12_isAlone_97 (by decide) ?_
          refine lv_iand hF.1 hF.2.1 dX12_isAlone_98 ?_
          refine lv_iconst (v := 1) hF.1 hF.2.1 dX12_isAlone_99 (by decide) ?_
          refine lv_icmp_eq (tgt := 108) hF.1 hF.2.1 dX12_isAlone_100 (by decide) (fun c100_15 => ?_) (fun c100_15 => ?_)
          · refine lv_iconst (v := 1) hF.1 hF.2.1 dX12_isAlone_108 (by decide) ?_
            refine lv_goto (tgt := 113) hF.1 hF.2.1 dX12_isAlone_109 (by decide) ?_
            exact q_iret hF hr (by decide) hlocks hU hS dX12_isAlone_113 ⟨rfl, (g_X12_isAlone_f_v17 u x k r_5 hI hk hv hvs hb_1 hs_2 hw_4 c42_6 c52_7 c73_8 b89_14 c100_15)⟩
          · refine lv_iload hF.1 hF.2.1 dX12_isAlone_103 (lv_at hl 1 rfl) ?_
            refine lv_if_ne (tgt := 112) hF.1 hF.2.1 dX12_isAlone_105 (by decide) (fun c105_16 => ?_) (fun c105_16 => ?_)
            · refine lv_iconst (v := 0) hF.1 hF.2.1 dX12_isAlone_112 (by decide) ?_
              exact q_iret hF hr (by decide) hlocks hU hS dX12_isAlone_113 ⟨rfl, (g_X12_isAlone_f_v18 u x k r_5 hI hk hv hvs hb_1 hs_2 hw_4 c42_6 c52_7 c73_8 b89_14 c100_15 c105_16)⟩
            · refine lv_iconst (v := 1) hF.1 hF.2.1 dX12_isAlone_108 (by decide) ?_
              refine lv_goto (tgt := 113) hF.1 hF.2.1 dX12_isAlone_109 (by decide) ?_
              exact q_iret hF hr (by decide) hlocks hU hS dX12_isAlone_113 ⟨rfl, (g_X12_isAlone_f_v19 u x k r_5 hI hk hv hvs hb_1 hs_2 hw_4 c42_6 c52_7 c73_8 b89_14 c100_15 c105_16)⟩
        · refine lv_if_eq (tgt := 112) hF.1 hF.2.1 dX12_isAlone_92 (by decide) (fun _ => ?_) (fun h9 => absurd (by decide) h9)
          refine lv_iconst (v := 0) hF.1 hF.2.1 dX12_isAlone_112 (by decide) ?_
          exact q_iret hF hr (by decide) hlocks hU hS dX12_isAlone_113 ⟨rfl, (g_X12_isAlone_f_v20 u x k r_5 hI hk hv hvs hb_1 hs_2 hw_4 c42_6 c52_7 c73_8 b89_14)⟩
set_option maxRecDepth 100000 in
theorem g_X12_wayBetween_f_v0 (x : Int32) (y : Int32) (v : Int32) (w : Int32) (c2_1 : v ≤ (x : Int32)) (c16_2 : w ≤ (y : Int32)) : ((x - v) + (y - w) : Int32) = f_wb x y v w := by
  unfold f_wb; first | rw [if_pos (by assumption), if_pos (by assumption)] | rw [if_pos (by assumption), if_neg (by assumption)] | rw [if_neg (by assumption), if_pos (by assumption)] | rw [if_neg (by assumption), if_neg (by assumption)]
set_option maxRecDepth 100000 in
theorem g_X12_wayBetween_f_v1 (x : Int32) (y : Int32) (v : Int32) (w : Int32) (c2_1 : v ≤ (x : Int32)) (c16_2 : ¬ w ≤ (y : Int32)) : ((x - v) + (w - y) : Int32) = f_wb x y v w := by
  unfold f_wb; first | rw [if_pos (by assumption), if_pos (by assumption)] | rw [if_pos (by assumption), if_neg (by assumption)] | rw [if_neg (by assumption), if_pos (by assumption)] | rw [if_neg (by assumption), if_neg (by assumption)]
set_option maxRecDepth 100000 in
theorem g_X12_wayBetween_f_v2 (x : Int32) (y : Int32) (v : Int32) (w : Int32) (c2_1 : ¬ v ≤ (x : Int32)) (c16_3 : w ≤ (y : Int32)) : ((v - x) + (y - w) : Int32) = f_wb x y v w := by
  unfold f_wb; first | rw [if_pos (by assumption), if_pos (by assumption)] | rw [if_pos (by assumption), if_neg (by assumption)] | rw [if_neg (by assumption), if_pos (by assumption)] | rw [if_neg (by assumption), if_neg (by assumption)]
set_option maxRecDepth 100000 in
theorem g_X12_wayBetween_f_v3 (x : Int32) (y : Int32) (v : Int32) (w : Int32) (c2_1 : ¬ v ≤ (x : Int32)) (c16_3 : ¬ w ≤ (y : Int32)) : ((v - x) + (w - y) : Int32) = f_wb x y v w := by
  unfold f_wb; first | rw [if_pos (by assumption), if_pos (by assumption)] | rw [if_pos (by assumption), if_neg (by assumption)] | rw [if_neg (by assumption), if_pos (by assumption)] | rw [if_neg (by assumption), if_neg (by assumption)]
set_option maxHeartbeats 1000000 in
set_option maxRecDepth 100000 in
theorem g_X12_wayBetween_f (l : Launch) (E : qE) (A : Nat → Prop) (u : qS) (x : Int32) (y : Int32) (v : Int32) (w : Int32) : Met l yX12_wayBetween (uws yX12_wayBetween cX12_wayBetween 4 (some .int)) (qR 0 0 0) (qPc E A 1 u [.int x, .int y, .int v, .int w]) (qQi E A 1 (fun r u1 => u1 = u ∧ (r = f_wb x y v w))) 0 0 A := by
  refine q_met (own := RX12) (f := 0) [.int x, .int y, .int v, .int w] (by decide) (Nat.le_of_ble_eq_true rfl) rfl ?_
  intro p0 e0 s0 m0 bl0 me0 cd0 ls hF hr hlocks hU hS hA hl
  have hl : lv_has ls 4 [(0, .int x), (1, .int y), (2, .int v), (3, .int w)] := hl
  refine lv_iload_n hF.1 hF.2.1 dX12_wayBetween_0 rfl (lv_at hl 0 rfl) ?_
  refine lv_iload_n hF.1 hF.2.1 dX12_wayBetween_1 rfl (lv_at hl 2 rfl) ?_
  refine lv_icmp_ge (tgt := 11) hF.1 hF.2.1 dX12_wayBetween_2 (by decide) (fun c2_1 => ?_) (fun c2_1 => ?_)
  · refine lv_iload_n hF.1 hF.2.1 dX12_wayBetween_11 rfl (lv_at hl 0 rfl) ?_
    refine lv_iload_n hF.1 hF.2.1 dX12_wayBetween_12 rfl (lv_at hl 2 rfl) ?_
    refine lv_isub hF.1 hF.2.1 dX12_wayBetween_13 ?_
    refine lv_iload_n hF.1 hF.2.1 dX12_wayBetween_14 rfl (lv_at hl 1 rfl) ?_
    refine lv_iload_n hF.1 hF.2.1 dX12_wayBetween_15 rfl (lv_at hl 3 rfl) ?_
    refine lv_icmp_ge (tgt := 25) hF.1 hF.2.1 dX12_wayBetween_16 (by decide) (fun c16_2 => ?_) (fun c16_2 => ?_)
    · refine lv_iload_n hF.1 hF.2.1 dX12_wayBetween_25 rfl (lv_at hl 1 rfl) ?_
      refine lv_iload_n hF.1 hF.2.1 dX12_wayBetween_26 rfl (lv_at hl 3 rfl) ?_
      refine lv_isub hF.1 hF.2.1 dX12_wayBetween_27 ?_
      refine lv_iadd hF.1 hF.2.1 dX12_wayBetween_28 ?_
      exact q_iret hF hr rfl hlocks hU hS dX12_wayBetween_29 ⟨rfl, (g_X12_wayBetween_f_v0 x y v w c2_1 c16_2)⟩
    · refine lv_iload_n hF.1 hF.2.1 dX12_wayBetween_19 rfl (lv_at hl 3 rfl) ?_
      refine lv_iload_n hF.1 hF.2.1 dX12_wayBetween_20 rfl (lv_at hl 1 rfl) ?_
      refine lv_isub hF.1 hF.2.1 dX12_wayBetween_21 ?_
      refine lv_goto (tgt := 28) hF.1 hF.2.1 dX12_wayBetween_22 (by decide) ?_
      refine lv_iadd hF.1 hF.2.1 dX12_wayBetween_28 ?_
      exact q_iret hF hr rfl hlocks hU hS dX12_wayBetween_29 ⟨rfl, (g_X12_wayBetween_f_v1 x y v w c2_1 c16_2)⟩
  · refine lv_iload_n hF.1 hF.2.1 dX12_wayBetween_5 rfl (lv_at hl 2 rfl) ?_
    refine lv_iload_n hF.1 hF.2.1 dX12_wayBetween_6 rfl (lv_at hl 0 rfl) ?_
    refine lv_isub hF.1 hF.2.1 dX12_wayBetween_7 ?_
    refine lv_goto (tgt := 14) hF.1 hF.2.1 dX12_wayBetween_8 (by decide) ?_
    refine lv_iload_n hF.1 hF.2.1 dX12_wayBetween_14 rfl (lv_at hl 1 rfl) ?_
    refine lv_iload_n hF.1 hF.2.1 dX12_wayBetween_15 rfl (lv_at hl 3 rfl) ?_
    refine lv_icmp_ge (tgt := 25) hF.1 hF.2.1 dX12_wayBetween_16 (by decide) (fun c16_3 => ?_) (fun c16_3 => ?_)
    · refine lv_iload_n hF.1 hF.2.1 dX12_wayBetween_25 rfl (lv_at hl 1 rfl) ?_
      refine lv_iload_n hF.1 hF.2.1 dX12_wayBetween_26 rfl (lv_at hl 3 rfl) ?_
      refine lv_isub hF.1 hF.2.1 dX12_wayBetween_27 ?_
      refine lv_iadd hF.1 hF.2.1 dX12_wayBetween_28 ?_
      exact q_iret hF hr rfl hlocks hU hS dX12_wayBetween_29 ⟨rfl, (g_X12_wayBetween_f_v2 x y v w c2_1 c16_3)⟩
    · refine lv_iload_n hF.1 hF.2.1 dX12_wayBetween_19 rfl (lv_at hl 3 rfl) ?_
      refine lv_iload_n hF.1 hF.2.1 dX12_wayBetween_20 rfl (lv_at hl 1 rfl) ?_
      refine lv_isub hF.1 hF.2.1 dX12_wayBetween_21 ?_
      refine lv_goto (tgt := 28) hF.1 hF.2.1 dX12_wayBetween_22 (by decide) ?_
      refine lv_iadd hF.1 hF.2.1 dX12_wayBetween_28 ?_
      exact q_iret hF hr rfl hlocks hU hS dX12_wayBetween_29 ⟨rfl, (g_X12_wayBetween_f_v3 x y v w c2_1 c16_3)⟩
set_option maxRecDepth 100000 in
theorem g_X12_areBoth_f_v0 (u : qS) (x : Int32) (y : Int32) (k : qS) (hI : IM u) (hk : IK k u) (hx : 0 ≤ x ∧ x < u.1 1247) (hy : 0 ≤ y ∧ y < u.1 1247) (hys : u.1 1247 ≤ 120) : vp_in (x) 120 := by
  have hz1247 := hI.1.s1247
  refine g_in ?_ ?_ <;> ((try simp only [g_m1, Int32.lt_iff_toInt_lt, Int32.le_iff_toInt_le, ← Int32.toInt_inj, Int32.toInt_add, Int32.toInt_sub, Int32.toInt_mul, Int32.toInt_neg, Int32.reduceToInt, g_bm, g_bm'] at *); omega)
set_option maxRecDepth 100000 in
theorem g_X12_areBoth_f_v1 (u : qS) (x : Int32) (y : Int32) (k : qS) (hI : IM u) (hk : IK k u) (hx : 0 ≤ x ∧ x < u.1 1247) (hy : 0 ≤ y ∧ y < u.1 1247) (hys : u.1 1247 ≤ 120) : vp_in (y) 120 := by
  have hz1247 := hI.1.s1247
  refine g_in ?_ ?_ <;> ((try simp only [g_m1, Int32.lt_iff_toInt_lt, Int32.le_iff_toInt_le, ← Int32.toInt_inj, Int32.toInt_add, Int32.toInt_sub, Int32.toInt_mul, Int32.toInt_neg, Int32.reduceToInt, g_bm, g_bm'] at *); omega)
set_option maxRecDepth 100000 in
theorem g_X12_areBoth_f_v2 (u : qS) (x : Int32) (y : Int32) (k : qS) (hI : IM u) (hk : IK k u) (hx : 0 ≤ x ∧ x < u.1 1247) (hy : 0 ≤ y ∧ y < u.1 1247) (hys : u.1 1247 ≤ 120) (c12_1 : (u.2.1 1251 (x : Int32).toNatClampNeg : Int32) < (u.2.1 1251 (y : Int32).toNatClampNeg)) (c43_2 : ¬ (x : Int32) = x) : vp_in (x) 120 := by
  have hz1247 := hI.1.s1247
  refine g_in ?_ ?_ <;> ((try simp only [g_m1, Int32.lt_iff_toInt_lt, Int32.le_iff_toInt_le, ← Int32.toInt_inj, Int32.toInt_add, Int32.toInt_sub, Int32.toInt_mul, Int32.toInt_neg, Int32.reduceToInt, g_bm, g_bm'] at *); omega)
set_option maxRecDepth 100000 in
theorem g_X12_areBoth_f_v3 (u : qS) (x : Int32) (y : Int32) (k : qS) (hI : IM u) (hk : IK k u) (hx : 0 ≤ x ∧ x < u.1 1247) (hy : 0 ≤ y ∧ y < u.1 1247) (hys : u.1 1247 ≤ 120) (c12_1 : (u.2.1 1251 (x : Int32).toNatClampNeg : Int32) < (u.2.1 1251 (y : Int32).toNatClampNeg)) (c43_2 : ¬ (x : Int32) = x) : 0 ≤ x ∧ x < u.1 1247 := by
  have hz1247 := hI.1.s1247
  first | omega | ((try simp only [g_m1, Int32.lt_iff_toInt_lt, Int32.le_iff_toInt_le, ← Int32.toInt_inj, Int32.reduceToInt] at *); omega) | ((try simp only [g_m1, Int32.lt_iff_toInt_lt, Int32.le_iff_toInt_le, ← Int32.toInt_inj, Int32.reduceToInt] at *); omega) | ((try simp only [g_m1, Int32.lt_iff_toInt_lt, Int32.le_iff_toInt_le, ← Int32.toInt_inj, Int32.toInt_add, Int32.toInt_sub, Int32.toInt_mul, Int32.toInt_neg, Int32.reduceToInt, g_bm, g_bm'] at *); omega) | (have qr1 := g_rng x; have qr2 := g_rng y; (try simp only [g_m1, Int32.lt_iff_toInt_lt, Int32.le_iff_toInt_le, ← Int32.toInt_inj, Int32.toInt_add, Int32.toInt_sub, Int32.toInt_mul, Int32.toInt_neg, Int32.reduceToInt, g_bm, g_bm'] at *); omega) | (simp only [g_m1, Int32.lt_iff_toInt_lt, Int32.le_iff_toInt_le, ← Int32.toInt_inj, Int32.toInt_add, Int32.toInt_sub, Int32.toInt_mul, Int32.toInt_neg, Int32.reduceToInt, g_bm, g_bm'] at *; simp at *; omega) | (simp_all; done)
set_option maxRecDepth 100000 in
theorem g_X12_areBoth_f_v4 (u : qS) (x : Int32) (y : Int32) (k : qS) (hI : IM u) (hk : IK k u) (hx : 0 ≤ x ∧ x < u.1 1247) (hy : 0 ≤ y ∧ y < u.1 1247) (hys : u.1 1247 ≤ 120) (c12_1 : (u.2.1 1251 (x : Int32).toNatClampNeg : Int32) < (u.2.1 1251 (y : Int32).toNatClampNeg)) (c43_2 : ¬ (x : Int32) = x) (hb_3 : 0 ≤ (u.2.1 1248 (x : Int32).toNatClampNeg) ∧ (u.2.1 1248 (x : Int32).toNatClampNeg) < u.1 1232) (hs_4 : 0 ≤ u.1 1232 ∧ u.1 1232 ≤ 20) : vp_in (u.2.1 1248 (x : Int32).toNatClampNeg) 20 := by
  have hz1247 := hI.1.s1247
  refine g_in ?_ ?_ <;> ((try simp only [g_m1, Int32.lt_iff_toInt_lt, Int32.le_iff_toInt_le, ← Int32.toInt_inj, Int32.toInt_add, Int32.toInt_sub, Int32.toInt_mul, Int32.toInt_neg, Int32.reduceToInt, g_bm, g_bm'] at *); omega)
set_option maxRecDepth 100000 in
theorem g_X12_areBoth_f_v5 (u : qS) (x : Int32) (y : Int32) (k : qS) (hI : IM u) (hk : IK k u) (hx : 0 ≤ x ∧ x < u.1 1247) (hy : 0 ≤ y ∧ y < u.1 1247) (hys : u.1 1247 ≤ 120) (c12_1 : (u.2.1 1251 (x : Int32).toNatClampNeg : Int32) < (u.2.1 1251 (y : Int32).toNatClampNeg)) (c43_2 : ¬ (x : Int32) = x) (hb_3 : 0 ≤ (u.2.1 1248 (x : Int32).toNatClampNeg) ∧ (u.2.1 1248 (x : Int32).toNatClampNeg) < u.1 1232) (hs_4 : 0 ≤ u.1 1232 ∧ u.1 1232 ≤ 20) : vp_in (x) 120 := by
  have hz1247 := hI.1.s1247
  refine g_in ?_ ?_ <;> ((try simp only [g_m1, Int32.lt_iff_toInt_lt, Int32.le_iff_toInt_le, ← Int32.toInt_inj, Int32.toInt_add, Int32.toInt_sub, Int32.toInt_mul, Int32.toInt_neg, Int32.reduceToInt, g_bm, g_bm'] at *); omega)
set_option maxRecDepth 100000 in
theorem g_X12_areBoth_f_v6 (u : qS) (x : Int32) (y : Int32) (k : qS) (hI : IM u) (hk : IK k u) (hx : 0 ≤ x ∧ x < u.1 1247) (hy : 0 ≤ y ∧ y < u.1 1247) (hys : u.1 1247 ≤ 120) (c12_1 : (u.2.1 1251 (x : Int32).toNatClampNeg : Int32) < (u.2.1 1251 (y : Int32).toNatClampNeg)) (c43_2 : ¬ (x : Int32) = x) (hb_3 : 0 ≤ (u.2.1 1248 (x : Int32).toNatClampNeg) ∧ (u.2.1 1248 (x : Int32).toNatClampNeg) < u.1 1232) (hs_4 : 0 ≤ u.1 1232 ∧ u.1 1232 ≤ 20) : 0 ≤ x ∧ x < u.1 1247 := by
  have hz1247 := hI.1.s1247
  first | omega | ((try simp only [g_m1, Int32.lt_iff_toInt_lt, Int32.le_iff_toInt_le, ← Int32.toInt_inj, Int32.reduceToInt] at *); omega) | ((try simp only [g_m1, Int32.lt_iff_toInt_lt, Int32.le_iff_toInt_le, ← Int32.toInt_inj, Int32.reduceToInt] at *); omega) | ((try simp only [g_m1, Int32.lt_iff_toInt_lt, Int32.le_iff_toInt_le, ← Int32.toInt_inj, Int32.toInt_add, Int32.toInt_sub, Int32.toInt_mul, Int32.toInt_neg, Int32.reduceToInt, g_bm, g_bm'] at *); omega) | (have qr1 := g_rng x; have qr2 := g_rng y; (try simp only [g_m1, Int32.lt_iff_toInt_lt, Int32.le_iff_toInt_le, ← Int32.toInt_inj, Int32.toInt_add, Int32.toInt_sub, Int32.toInt_mul, Int32.toInt_neg, Int32.reduceToInt, g_bm, g_bm'] at *); omega) | (simp only [g_m1, Int32.lt_iff_toInt_lt, Int32.le_iff_toInt_le, ← Int32.toInt_inj, Int32.toInt_add, Int32.toInt_sub, Int32.toInt_mul, Int32.toInt_neg, Int32.reduceToInt, g_bm, g_bm'] at *; simp at *; omega) | (simp_all; done)
set_option maxRecDepth 100000 in
theorem g_X12_areBoth_f_v7 (u : qS) (x : Int32) (y : Int32) (k : qS) (hI : IM u) (hk : IK k u) (hx : 0 ≤ x ∧ x < u.1 1247) (hy : 0 ≤ y ∧ y < u.1 1247) (hys : u.1 1247 ≤ 120) (c12_1 : (u.2.1 1251 (x : Int32).toNatClampNeg : Int32) < (u.2.1 1251 (y : Int32).toNatClampNeg)) (c43_2 : ¬ (x : Int32) = x) (hb_3 : 0 ≤ (u.2.1 1248 (x : Int32).toNatClampNeg) ∧ (u.2.1 1248 (x : Int32).toNatClampNeg) < u.1 1232) (hs_4 : 0 ≤ u.1 1232 ∧ u.1 1232 ≤ 20) : vp_in (u.2.1 1248 (x : Int32).toNatClampNeg) 20 := by
  have hz1247 := hI.1.s1247
  refine g_in ?_ ?_ <;> ((try simp only [g_m1, Int32.lt_iff_toInt_lt, Int32.le_iff_toInt_le, ← Int32.toInt_inj, Int32.toInt_add, Int32.toInt_sub, Int32.toInt_mul, Int32.toInt_neg, Int32.reduceToInt, g_bm, g_bm'] at *); omega)
set_option maxRecDepth 100000 in
theorem g_X12_areBoth_f_v8 (u : qS) (x : Int32) (y : Int32) (k : qS) (hI : IM u) (hk : IK k u) (hx : 0 ≤ x ∧ x < u.1 1247) (hy : 0 ≤ y ∧ y < u.1 1247) (hys : u.1 1247 ≤ 120) (c12_1 : (u.2.1 1251 (x : Int32).toNatClampNeg : Int32) < (u.2.1 1251 (y : Int32).toNatClampNeg)) (c43_2 : ¬ (x : Int32) = x) (hb_3 : 0 ≤ (u.2.1 1248 (x : Int32).toNatClampNeg) ∧ (u.2.1 1248 (x : Int32).toNatClampNeg) < u.1 1232) (hs_4 : 0 ≤ u.1 1232 ∧ u.1 1232 ≤ 20) : vp_in (y) 120 := by
  have hz1247 := hI.1.s1247
  refine g_in ?_ ?_ <;> ((try simp only [g_m1, Int32.lt_iff_toInt_lt, Int32.le_iff_toInt_le, ← Int32.toInt_inj, Int32.toInt_add, Int32.toInt_sub, Int32.toInt_mul, Int32.toInt_neg, Int32.reduceToInt, g_bm, g_bm'] at *); omega)
set_option maxRecDepth 100000 in
theorem g_X12_areBoth_f_v9 (u : qS) (x : Int32) (y : Int32) (k : qS) (hI : IM u) (hk : IK k u) (hx : 0 ≤ x ∧ x < u.1 1247) (hy : 0 ≤ y ∧ y < u.1 1247) (hys : u.1 1247 ≤ 120) (c12_1 : (u.2.1 1251 (x : Int32).toNatClampNeg : Int32) < (u.2.1 1251 (y : Int32).toNatClampNeg)) (c43_2 : ¬ (x : Int32) = x) (hb_3 : 0 ≤ (u.2.1 1248 (x : Int32).toNatClampNeg) ∧ (u.2.1 1248 (x : Int32).toNatClampNeg) < u.1 1232) (hs_4 : 0 ≤ u.1 1232 ∧ u.1 1232 ≤ 20) : 0 ≤ y ∧ y < u.1 1247 := by
  have hz1247 := hI.1.s1247
  first | omega | ((try simp only [g_m1, Int32.lt_iff_toInt_lt, Int32.le_iff_toInt_le, ← Int32.toInt_inj, Int32.reduceToInt] at *); omega) | ((try simp only [g_m1, Int32.lt_iff_toInt_lt, Int32.le_iff_toInt_le, ← Int32.toInt_inj, Int32.reduceToInt] at *); omega) | ((try simp only [g_m1, Int32.lt_iff_toInt_lt, Int32.le_iff_toInt_le, ← Int32.toInt_inj, Int32.toInt_add, Int32.toInt_sub, Int32.toInt_mul, Int32.toInt_neg, Int32.reduceToInt, g_bm, g_bm'] at *); omega) | (have qr1 := g_rng x; have qr2 := g_rng y; (try simp only [g_m1, Int32.lt_iff_toInt_lt, Int32.le_iff_toInt_le, ← Int32.toInt_inj, Int32.toInt_add, Int32.toInt_sub, Int32.toInt_mul, Int32.toInt_neg, Int32.reduceToInt, g_bm, g_bm'] at *); omega) | (simp only [g_m1, Int32.lt_iff_toInt_lt, Int32.le_iff_toInt_le, ← Int32.toInt_inj, Int32.toInt_add, Int32.toInt_sub, Int32.toInt_mul, Int32.toInt_neg, Int32.reduceToInt, g_bm, g_bm'] at *; simp at *; omega) | (simp_all; done)
set_option maxRecDepth 100000 in
theorem g_X12_areBoth_f_v10 (u : qS) (x : Int32) (y : Int32) (k : qS) (hI : IM u) (hk : IK k u) (hx : 0 ≤ x ∧ x < u.1 1247) (hy : 0 ≤ y ∧ y < u.1 1247) (hys : u.1 1247 ≤ 120) (c12_1 : (u.2.1 1251 (x : Int32).toNatClampNeg : Int32) < (u.2.1 1251 (y : Int32).toNatClampNeg)) (c43_2 : ¬ (x : Int32) = x) (hb_3 : 0 ≤ (u.2.1 1248 (x : Int32).toNatClampNeg) ∧ (u.2.1 1248 (x : Int32).toNatClampNeg) < u.1 1232) (hs_4 : 0 ≤ u.1 1232 ∧ u.1 1232 ≤ 20) (hb_5 : 0 ≤ (u.2.1 1248 (y : Int32).toNatClampNeg) ∧ (u.2.1 1248 (y : Int32).toNatClampNeg) < u.1 1232) : vp_in (u.2.1 1248 (y : Int32).toNatClampNeg) 20 := by
  have hz1247 := hI.1.s1247
  refine g_in ?_ ?_ <;> ((try simp only [g_m1, Int32.lt_iff_toInt_lt, Int32.le_iff_toInt_le, ← Int32.toInt_inj, Int32.toInt_add, Int32.toInt_sub, Int32.toInt_mul, Int32.toInt_neg, Int32.reduceToInt, g_bm, g_bm'] at *); omega)
set_option maxRecDepth 100000 in
theorem g_X12_areBoth_f_v11 (u : qS) (x : Int32) (y : Int32) (k : qS) (hI : IM u) (hk : IK k u) (hx : 0 ≤ x ∧ x < u.1 1247) (hy : 0 ≤ y ∧ y < u.1 1247) (hys : u.1 1247 ≤ 120) (c12_1 : (u.2.1 1251 (x : Int32).toNatClampNeg : Int32) < (u.2.1 1251 (y : Int32).toNatClampNeg)) (c43_2 : ¬ (x : Int32) = x) (hb_3 : 0 ≤ (u.2.1 1248 (x : Int32).toNatClampNeg) ∧ (u.2.1 1248 (x : Int32).toNatClampNeg) < u.1 1232) (hs_4 : 0 ≤ u.1 1232 ∧ u.1 1232 ≤ 20) (hb_5 : 0 ≤ (u.2.1 1248 (y : Int32).toNatClampNeg) ∧ (u.2.1 1248 (y : Int32).toNatClampNeg) < u.1 1232) : vp_in (y) 120 := by
  have hz1247 := hI.1.s1247
  refine g_in ?_ ?_ <;> ((try simp only [g_m1, Int32.lt_iff_toInt_lt, Int32.le_iff_toInt_le, ← Int32.toInt_inj, Int32.toInt_add, Int32.toInt_sub, Int32.toInt_mul, Int32.toInt_neg, Int32.reduceToInt, g_bm, g_bm'] at *); omega)
set_option maxRecDepth 100000 in
theorem g_X12_areBoth_f_v12 (u : qS) (x : Int32) (y : Int32) (k : qS) (hI : IM u) (hk : IK k u) (hx : 0 ≤ x ∧ x < u.1 1247) (hy : 0 ≤ y ∧ y < u.1 1247) (hys : u.1 1247 ≤ 120) (c12_1 : (u.2.1 1251 (x : Int32).toNatClampNeg : Int32) < (u.2.1 1251 (y : Int32).toNatClampNeg)) (c43_2 : ¬ (x : Int32) = x) (hb_3 : 0 ≤ (u.2.1 1248 (x : Int32).toNatClampNeg) ∧ (u.2.1 1248 (x : Int32).toNatClampNeg) < u.1 1232) (hs_4 : 0 ≤ u.1 1232 ∧ u.1 1232 ≤ 20) (hb_5 : 0 ≤ (u.2.1 1248 (y : Int32).toNatClampNeg) ∧ (u.2.1 1248 (y : Int32).toNatClampNeg) < u.1 1232) : 0 ≤ y ∧ y < u.1 1247 := by
  have hz1247 := hI.1.s1247
  first | omega | ((try simp only [g_m1, Int32.lt_iff_toInt_lt, Int32.le_iff_toInt_le, ← Int32.toInt_inj, Int32.reduceToInt] at *); omega) | ((try simp only [g_m1, Int32.lt_iff_toInt_lt, Int32.le_iff_toInt_le, ← Int32.toInt_inj, Int32.reduceToInt] at *); omega) | ((try simp only [g_m1, Int32.lt_iff_toInt_lt, Int32.le_iff_toInt_le, ← Int32.toInt_inj, Int32.toInt_add, Int32.toInt_sub, Int32.toInt_mul, Int32.toInt_neg, Int32.reduceToInt, g_bm, g_bm'] at *); omega) | (have qr1 := g_rng x; have qr2 := g_rng y; (try simp only [g_m1, Int32.lt_iff_toInt_lt, Int32.le_iff_toInt_le, ← Int32.toInt_inj, Int32.toInt_add, Int32.toInt_sub, Int32.toInt_mul, Int32.toInt_neg, Int32.reduceToInt, g_bm, g_bm'] at *); omega) | (simp only [g_m1, Int32.lt_iff_toInt_lt, Int32.le_iff_toInt_le, ← Int32.toInt_inj, Int32.toInt_add, Int32.toInt_sub, Int32.toInt_mul, Int32.toInt_neg, Int32.reduceToInt, g_bm, g_bm'] at *; simp at *; omega) | (simp_all; done)
set_option maxRecDepth 100000 in
theorem g_X12_areBoth_f_v13 (u : qS) (x : Int32) (y : Int32) (k : qS) (hI : IM u) (hk : IK k u) (hx : 0 ≤ x ∧ x < u.1 1247) (hy : 0 ≤ y ∧ y < u.1 1247) (hys : u.1 1247 ≤ 120) (c12_1 : (u.2.1 1251 (x : Int32).toNatClampNeg : Int32) < (u.2.1 1251 (y : Int32).toNatClampNeg)) (c43_2 : ¬ (x : Int32) = x) (hb_3 : 0 ≤ (u.2.1 1248 (x : Int32).toNatClampNeg) ∧ (u.2.1 1248 (x : Int32).toNatClampNeg) < u.1 1232) (hs_4 : 0 ≤ u.1 1232 ∧ u.1 1232 ≤ 20) (hb_5 : 0 ≤ (u.2.1 1248 (y : Int32).toNatClampNeg) ∧ (u.2.1 1248 (y : Int32).toNatClampNeg) < u.1 1232) : vp_in (u.2.1 1248 (y : Int32).toNatClampNeg) 20 := by
  have hz1247 := hI.1.s1247
  refine g_in ?_ ?_ <;> ((try simp only [g_m1, Int32.lt_iff_toInt_lt, Int32.le_iff_toInt_le, ← Int32.toInt_inj, Int32.toInt_add, Int32.toInt_sub, Int32.toInt_mul, Int32.toInt_neg, Int32.reduceToInt, g_bm, g_bm'] at *); omega)
set_option maxRecDepth 100000 in
theorem g_X12_areBoth_f_v14 (u : qS) (x : Int32) (y : Int32) (k : qS) (r_8 : Int32) (hI : IM u) (hk : IK k u) (hx : 0 ≤ x ∧ x < u.1 1247) (hy : 0 ≤ y ∧ y < u.1 1247) (hys : u.1 1247 ≤ 120) (c12_1 : (u.2.1 1251 (x : Int32).toNatClampNeg : Int32) < (u.2.1 1251 (y : Int32).toNatClampNeg)) (c43_2 : ¬ (x : Int32) = x) (hb_3 : 0 ≤ (u.2.1 1248 (x : Int32).toNatClampNeg) ∧ (u.2.1 1248 (x : Int32).toNatClampNeg) < u.1 1232) (hs_4 : 0 ≤ u.1 1232 ∧ u.1 1232 ≤ 20) (hb_5 : 0 ≤ (u.2.1 1248 (y : Int32).toNatClampNeg) ∧ (u.2.1 1248 (y : Int32).toNatClampNeg) < u.1 1232) (hw_7 : r_8 = f_wb (u.2.1 1233 (u.2.1 1248 (x : Int32).toNatClampNeg : Int32).toNatClampNeg) (u.2.1 1234 (u.2.1 1248 (x : Int32).toNatClampNeg : Int32).toNatClampNeg) (u.2.1 1233 (u.2.1 1248 (y : Int32).toNatClampNeg : Int32).toNatClampNeg) (u.2.1 1234 (u.2.1 1248 (y : Int32).toNatClampNeg : Int32).toNatClampNeg)) : vp_in (x) 120 := by
  have hz1247 := hI.1.s1247
  refine g_in ?_ ?_ <;> ((try simp only [g_m1, Int32.lt_iff_toInt_lt, Int32.le_iff_toInt_le, ← Int32.toInt_inj, Int32.toInt_add, Int32.toInt_sub, Int32.toInt_mul, Int32.toInt_neg, Int32.reduceToInt, g_bm, g_bm'] at *); omega)
set_option maxRecDepth 100000 in
theorem g_X12_areBoth_f_v15 (u : qS) (x : Int32) (y : Int32) (k : qS) (r_8 : Int32) (hI : IM u) (hk : IK k u) (hx : 0 ≤ x ∧ x < u.1 1247) (hy : 0 ≤ y ∧ y < u.1 1247) (hys : u.1 1247 ≤ 120) (c12_1 : (u.2.1 1251 (x : Int32).toNatClampNeg : Int32) < (u.2.1 1251 (y : Int32).toNatClampNeg)) (c43_2 : ¬ (x : Int32) = x) (hb_3 : 0 ≤ (u.2.1 1248 (x : Int32).toNatClampNeg) ∧ (u.2.1 1248 (x : Int32).toNatClampNeg) < u.1 1232) (hs_4 : 0 ≤ u.1 1232 ∧ u.1 1232 ≤ 20) (hb_5 : 0 ≤ (u.2.1 1248 (y : Int32).toNatClampNeg) ∧ (u.2.1 1248 (y : Int32).toNatClampNeg) < u.1 1232) (hw_7 : r_8 = f_wb (u.2.1 1233 (u.2.1 1248 (x : Int32).toNatClampNeg : Int32).toNatClampNeg) (u.2.1 1234 (u.2.1 1248 (x : Int32).toNatClampNeg : Int32).toNatClampNeg) (u.2.1 1233 (u.2.1 1248 (y : Int32).toNatClampNeg : Int32).toNatClampNeg) (u.2.1 1234 (u.2.1 1248 (y : Int32).toNatClampNeg : Int32).toNatClampNeg)) : vp_in (x) 120 := by
  have hz1247 := hI.1.s1247
  refine g_in ?_ ?_ <;> ((try simp only [g_m1, Int32.lt_iff_toInt_lt, Int32.le_iff_toInt_le, ← Int32.toInt_inj, Int32.toInt_add, Int32.toInt_sub, Int32.toInt_mul, Int32.toInt_neg, Int32.reduceToInt, g_bm, g_bm'] at *); omega)
set_option maxRecDepth 100000 in
theorem g_X12_areBoth_f_v16 (u : qS) (x : Int32) (y : Int32) (k : qS) (r_8 : Int32) (hI : IM u) (hk : IK k u) (hx : 0 ≤ x ∧ x < u.1 1247) (hy : 0 ≤ y ∧ y < u.1 1247) (hys : u.1 1247 ≤ 120) (c12_1 : (u.2.1 1251 (x : Int32).toNatClampNeg : Int32) < (u.2.1 1251 (y : Int32).toNatClampNeg)) (c43_2 : ¬ (x : Int32) = x) (hb_3 : 0 ≤ (u.2.1 1248 (x : Int32).toNatClampNeg) ∧ (u.2.1 1248 (x : Int32).toNatClampNeg) < u.1 1232) (hs_4 : 0 ≤ u.1 1232 ∧ u.1 1232 ≤ 20) (hb_5 : 0 ≤ (u.2.1 1248 (y : Int32).toNatClampNeg) ∧ (u.2.1 1248 (y : Int32).toNatClampNeg) < u.1 1232) (hw_7 : r_8 = f_wb (u.2.1 1233 (u.2.1 1248 (x : Int32).toNatClampNeg : Int32).toNatClampNeg) (u.2.1 1234 (u.2.1 1248 (x : Int32).toNatClampNeg : Int32).toNatClampNeg) (u.2.1 1233 (u.2.1 1248 (y : Int32).toNatClampNeg : Int32).toNatClampNeg) (u.2.1 1234 (u.2.1 1248 (y : Int32).toNatClampNeg : Int32).toNatClampNeg)) : vp_in (x) 120 := by
  have hz1247 := hI.1.s1247
  refine g_in ?_ ?_ <;> ((try simp only [g_m1, Int32.lt_iff_toInt_lt, Int32.le_iff_toInt_le, ← Int32.toInt_inj, Int32.toInt_add, Int32.toInt_sub, Int32.toInt_mul, Int32.toInt_neg, Int32.reduceToInt, g_bm, g_bm'] at *); omega)
set_option maxRecDepth 100000 in
theorem g_X12_areBoth_f_v17 (u : qS) (x : Int32) (y : Int32) (k : qS) (r_8 : Int32) (hI : IM u) (hk : IK k u) (hx : 0 ≤ x ∧ x < u.1 1247) (hy : 0 ≤ y ∧ y < u.1 1247) (hys : u.1 1247 ≤ 120) (c12_1 : (u.2.1 1251 (x : Int32).toNatClampNeg : Int32) < (u.2.1 1251 (y : Int32).toNatClampNeg)) (c43_2 : ¬ (x : Int32) = x) (hb_3 : 0 ≤ (u.2.1 1248 (x : Int32).toNatClampNeg) ∧ (u.2.1 1248 (x : Int32).toNatClampNeg) < u.1 1232) (hs_4 : 0 ≤ u.1 1232 ∧ u.1 1232 ≤ 20) (hb_5 : 0 ≤ (u.2.1 1248 (y : Int32).toNatClampNeg) ∧ (u.2.1 1248 (y : Int32).toNatClampNeg) < u.1 1232) (hw_7 : r_8 = f_wb (u.2.1 1233 (u.2.1 1248 (x : Int32).toNatClampNeg : Int32).toNatClampNeg) (u.2.1 1234 (u.2.1 1248 (x : Int32).toNatClampNeg : Int32).toNatClampNeg) (u.2.1 1233 (u.2.1 1248 (y : Int32).toNatClampNeg : Int32).toNatClampNeg) (u.2.1 1234 (u.2.1 1248 (y : Int32).toNatClampNeg : Int32).toNatClampNeg)) (c130_9 : (u.2.1 1251 (x : Int32).toNatClampNeg : Int32) < (((u.2.1 1251 (x : Int32).toNatClampNeg) + (u.2.1 1252 (x : Int32).toNatClampNeg)) + ((u.1 1242) * r_8))) : (0 = (1 : Int32) ∧ (f_bo k x y)) ∨ (0 = (0 : Int32) ∧ ¬ (f_bo k x y)) := by
  have hz1247 := hI.1.s1247
  have k1242 := hk.i 1242 (by decide)
  have k1233 := hk.r 1233 (by decide)
  have k1234 := hk.r 1234 (by decide)
  have k1248 := hk.r 1248 (by decide)
  have k1251 := hk.r 1251 (by decide)
  have k1252 := hk.r 1252 (by decide)
  unfold f_bo f_sc f_fs; rw [← k1233, ← k1234, ← k1242, ← k1248, ← k1251, ← k1252]; clear hk; subst_vars
  first | (refine Or.inl ⟨rfl, ?_⟩; (repeat' split) <;> first | contradiction | ((try simp only [g_m1, Int32.lt_iff_toInt_lt, Int32.le_iff_toInt_le, ← Int32.toInt_inj, Int32.reduceToInt] at *); omega)) | (refine Or.inr ⟨rfl, ?_⟩; (repeat' split) <;> first | contradiction | ((try simp only [g_m1, Int32.lt_iff_toInt_lt, Int32.le_iff_toInt_le, ← Int32.toInt_inj, Int32.reduceToInt] at *); omega))
set_option maxRecDepth 100000 in
theorem g_X12_areBoth_f_v18 (u : qS) (x : Int32) (y : Int32) (k : qS) (r_8 : Int32) (hI : IM u) (hk : IK k u) (hx : 0 ≤ x ∧ x < u.1 1247) (hy : 0 ≤ y ∧ y < u.1 1247) (hys : u.1 1247 ≤ 120) (c12_1 : (u.2.1 1251 (x : Int32).toNatClampNeg : Int32) < (u.2.1 1251 (y : Int32).toNatClampNeg)) (c43_2 : ¬ (x : Int32) = x) (hb_3 : 0 ≤ (u.2.1 1248 (x : Int32).toNatClampNeg) ∧ (u.2.1 1248 (x : Int32).toNatClampNeg) < u.1 1232) (hs_4 : 0 ≤ u.1 1232 ∧ u.1 1232 ≤ 20) (hb_5 : 0 ≤ (u.2.1 1248 (y : Int32).toNatClampNeg) ∧ (u.2.1 1248 (y : Int32).toNatClampNeg) < u.1 1232) (hw_7 : r_8 = f_wb (u.2.1 1233 (u.2.1 1248 (x : Int32).toNatClampNeg : Int32).toNatClampNeg) (u.2.1 1234 (u.2.1 1248 (x : Int32).toNatClampNeg : Int32).toNatClampNeg) (u.2.1 1233 (u.2.1 1248 (y : Int32).toNatClampNeg : Int32).toNatClampNeg) (u.2.1 1234 (u.2.1 1248 (y : Int32).toNatClampNeg : Int32).toNatClampNeg)) (c130_9 : ¬ (u.2.1 1251 (x : Int32).toNatClampNeg : Int32) < (((u.2.1 1251 (x : Int32).toNatClampNeg) + (u.2.1 1252 (x : Int32).toNatClampNeg)) + ((u.1 1242) * r_8))) : (1 = (1 : Int32) ∧ (f_bo k x y)) ∨ (1 = (0 : Int32) ∧ ¬ (f_bo k x y)) := by
  have hz1247 := hI.1.s1247
  have k1242 := hk.i 1242 (by decide)
  have k1233 := hk.r 1233 (by decide)
  have k1234 := hk.r 1234 (by decide)
  have k1248 := hk.r 1248 (by decide)
  have k1251 := hk.r 1251 (by decide)
  have k1252 := hk.r 1252 (by decide)
  unfold f_bo f_sc f_fs; rw [← k1233, ← k1234, ← k1242, ← k1248, ← k1251, ← k1252]; clear hk; subst_vars
  first | (refine Or.inl ⟨rfl, ?_⟩; (repeat' split) <;> first | contradiction | ((try simp only [g_m1, Int32.lt_iff_toInt_lt, Int32.le_iff_toInt_le, ← Int32.toInt_inj, Int32.reduceToInt] at *); omega)) | (refine Or.inr ⟨rfl, ?_⟩; (repeat' split) <;> first | contradiction | ((try simp only [g_m1, Int32.lt_iff_toInt_lt, Int32.le_iff_toInt_le, ← Int32.toInt_inj, Int32.reduceToInt] at *); omega))
set_option maxRecDepth 100000 in
theorem g_X12_areBoth_f_v19 (u : qS) (x : Int32) (y : Int32) (k : qS) (hI : IM u) (hk : IK k u) (hx : 0 ≤ x ∧ x < u.1 1247) (hy : 0 ≤ y ∧ y < u.1 1247) (hys : u.1 1247 ≤ 120) (c12_1 : (u.2.1 1251 (x : Int32).toNatClampNeg : Int32) < (u.2.1 1251 (y : Int32).toNatClampNeg)) (c43_2 : (x : Int32) = x) : vp_in (x) 120 := by
  have hz1247 := hI.1.s1247
  refine g_in ?_ ?_ <;> ((try simp only [g_m1, Int32.lt_iff_toInt_lt, Int32.le_iff_toInt_le, ← Int32.toInt_inj, Int32.toInt_add, Int32.toInt_sub, Int32.toInt_mul, Int32.toInt_neg, Int32.reduceToInt, g_bm, g_bm'] at *); omega)
set_option maxRecDepth 100000 in
theorem g_X12_areBoth_f_v20 (u : qS) (x : Int32) (y : Int32) (k : qS) (hI : IM u) (hk : IK k u) (hx : 0 ≤ x ∧ x < u.1 1247) (hy : 0 ≤ y ∧ y < u.1 1247) (hys : u.1 1247 ≤ 120) (c12_1 : (u.2.1 1251 (x : Int32).toNatClampNeg : Int32) < (u.2.1 1251 (y : Int32).toNatClampNeg)) (c43_2 : (x : Int32) = x) : 0 ≤ x ∧ x < u.1 1247 := by
  have hz1247 := hI.1.s1247
  first | omega | ((try simp only [g_m1, Int32.lt_iff_toInt_lt, Int32.le_iff_toInt_le, ← Int32.toInt_inj, Int32.reduceToInt] at *); omega) | ((try simp only [g_m1, Int32.lt_iff_toInt_lt, Int32.le_iff_toInt_le, ← Int32.toInt_inj, Int32.reduceToInt] at *); omega) | ((try simp only [g_m1, Int32.lt_iff_toInt_lt, Int32.le_iff_toInt_le, ← Int32.toInt_inj, Int32.toInt_add, Int32.toInt_sub, Int32.toInt_mul, Int32.toInt_neg, Int32.reduceToInt, g_bm, g_bm'] at *); omega) | (have qr1 := g_rng x; have qr2 := g_rng y; (try simp only [g_m1, Int32.lt_iff_toInt_lt, Int32.le_iff_toInt_le, ← Int32.toInt_inj, Int32.toInt_add, Int32.toInt_sub, Int32.toInt_mul, Int32.toInt_neg, Int32.reduceToInt, g_bm, g_bm'] at *); omega) | (simp only [g_m1, Int32.lt_iff_toInt_lt, Int32.le_iff_toInt_le, ← Int32.toInt_inj, Int32.toInt_add, Int32.toInt_sub, Int32.toInt_mul, Int32.toInt_neg, Int32.reduceToInt, g_bm, g_bm'] at *; simp at *; omega) | (simp_all; done)
set_option maxRecDepth 100000 in
theorem g_X12_areBoth_f_v21 (u : qS) (x : Int32) (y : Int32) (k : qS) (hI : IM u) (hk : IK k u) (hx : 0 ≤ x ∧ x < u.1 1247) (hy : 0 ≤ y ∧ y < u.1 1247) (hys : u.1 1247 ≤ 120) (c12_1 : (u.2.1 1251 (x : Int32).toNatClampNeg : Int32) < (u.2.1 1251 (y : Int32).toNatClampNeg)) (c43_2 : (x : Int32) = x) (hb_10 : 0 ≤ (u.2.1 1248 (x : Int32).toNatClampNeg) ∧ (u.2.1 1248 (x : Int32).toNatClampNeg) < u.1 1232) (hs_11 : 0 ≤ u.1 1232 ∧ u.1 1232 ≤ 20) : vp_in (u.2.1 1248 (x : Int32).toNatClampNeg) 20 := by
  have hz1247 := hI.1.s1247
  refine g_in ?_ ?_ <;> ((try simp only [g_m1, Int32.lt_iff_toInt_lt, Int32.le_iff_toInt_le, ← Int32.toInt_inj, Int32.toInt_add, Int32.toInt_sub, Int32.toInt_mul, Int32.toInt_neg, Int32.reduceToInt, g_bm, g_bm'] at *); omega)
set_option maxRecDepth 100000 in
theorem g_X12_areBoth_f_v22 (u : qS) (x : Int32) (y : Int32) (k : qS) (hI : IM u) (hk : IK k u) (hx : 0 ≤ x ∧ x < u.1 1247) (hy : 0 ≤ y ∧ y < u.1 1247) (hys : u.1 1247 ≤ 120) (c12_1 : (u.2.1 1251 (x : Int32).toNatClampNeg : Int32) < (u.2.1 1251 (y : Int32).toNatClampNeg)) (c43_2 : (x : Int32) = x) (hb_10 : 0 ≤ (u.2.1 1248 (x : Int32).toNatClampNeg) ∧ (u.2.1 1248 (x : Int32).toNatClampNeg) < u.1 1232) (hs_11 : 0 ≤ u.1 1232 ∧ u.1 1232 ≤ 20) : vp_in (x) 120 := by
  have hz1247 := hI.1.s1247
  refine g_in ?_ ?_ <;> ((try simp only [g_m1, Int32.lt_iff_toInt_lt, Int32.le_iff_toInt_le, ← Int32.toInt_inj, Int32.toInt_add, Int32.toInt_sub, Int32.toInt_mul, Int32.toInt_neg, Int32.reduceToInt, g_bm, g_bm'] at *); omega)
set_option maxRecDepth 100000 in
theorem g_X12_areBoth_f_v23 (u : qS) (x : Int32) (y : Int32) (k : qS) (hI : IM u) (hk : IK k u) (hx : 0 ≤ x ∧ x < u.1 1247) (hy : 0 ≤ y ∧ y < u.1 1247) (hys : u.1 1247 ≤ 120) (c12_1 : (u.2.1 1251 (x : Int32).toNatClampNeg : Int32) < (u.2.1 1251 (y : Int32).toNatClampNeg)) (c43_2 : (x : Int32) = x) (hb_10 : 0 ≤ (u.2.1 1248 (x : Int32).toNatClampNeg) ∧ (u.2.1 1248 (x : Int32).toNatClampNeg) < u.1 1232) (hs_11 : 0 ≤ u.1 1232 ∧ u.1 1232 ≤ 20) : 0 ≤ x ∧ x < u.1 1247 := by
  have hz1247 := hI.1.s1247
  first | omega | ((try simp only [g_m1, Int32.lt_iff_toInt_lt, Int32.le_iff_toInt_le, ← Int32.toInt_inj, Int32.reduceToInt] at *); omega) | ((try simp only [g_m1, Int32.lt_iff_toInt_lt, Int32.le_iff_toInt_le, ← Int32.toInt_inj, Int32.reduceToInt] at *); omega) | ((try simp only [g_m1, Int32.lt_iff_toInt_lt, Int32.le_iff_toInt_le, ← Int32.toInt_inj, Int32.toInt_add, Int32.toInt_sub, Int32.toInt_mul, Int32.toInt_neg, Int32.reduceToInt, g_bm, g_bm'] at *); omega) | (have qr1 := g_rng x; have qr2 := g_rng y; (try simp only [g_m1, Int32.lt_iff_toInt_lt, Int32.le_iff_toInt_le, ← Int32.toInt_inj, Int32.toInt_add, Int32.toInt_sub, Int32.toInt_mul, Int32.toInt_neg, Int32.reduceToInt, g_bm, g_bm'] at *); omega) | (simp only [g_m1, Int32.lt_iff_toInt_lt, Int32.le_iff_toInt_le, ← Int32.toInt_inj, Int32.toInt_add, Int32.toInt_sub, Int32.toInt_mul, Int32.toInt_neg, Int32.reduceToInt, g_bm, g_bm'] at *; simp at *; omega) | (simp_all; done)
set_option maxRecDepth 100000 in
theorem g_X12_areBoth_f_v24 (u : qS) (x : Int32) (y : Int32) (k : qS) (hI : IM u) (hk : IK k u) (hx : 0 ≤ x ∧ x < u.1 1247) (hy : 0 ≤ y ∧ y < u.1 1247) (hys : u.1 1247 ≤ 120) (c12_1 : (u.2.1 1251 (x : Int32).toNatClampNeg : Int32) < (u.2.1 1251 (y : Int32).toNatClampNeg)) (c43_2 : (x : Int32) = x) (hb_10 : 0 ≤ (u.2.1 1248 (x : Int32).toNatClampNeg) ∧ (u.2.1 1248 (x : Int32).toNatClampNeg) < u.1 1232) (hs_11 : 0 ≤ u.1 1232 ∧ u.1 1232 ≤ 20) : vp_in (u.2.1 1248 (x : Int32).toNatClampNeg) 20 := by
  have hz1247 := hI.1.s1247
  refine g_in ?_ ?_ <;> ((try simp only [g_m1, Int32.lt_iff_toInt_lt, Int32.le_iff_toInt_le, ← Int32.toInt_inj, Int32.toInt_add, Int32.toInt_sub, Int32.toInt_mul, Int32.toInt_neg, Int32.reduceToInt, g_bm, g_bm'] at *); omega)
set_option maxRecDepth 100000 in
theorem g_X12_areBoth_f_v25 (u : qS) (x : Int32) (y : Int32) (k : qS) (hI : IM u) (hk : IK k u) (hx : 0 ≤ x ∧ x < u.1 1247) (hy : 0 ≤ y ∧ y < u.1 1247) (hys : u.1 1247 ≤ 120) (c12_1 : (u.2.1 1251 (x : Int32).toNatClampNeg : Int32) < (u.2.1 1251 (y : Int32).toNatClampNeg)) (c43_2 : (x : Int32) = x) (hb_10 : 0 ≤ (u.2.1 1248 (x : Int32).toNatClampNeg) ∧ (u.2.1 1248 (x : Int32).toNatClampNeg) < u.1 1232) (hs_11 : 0 ≤ u.1 1232 ∧ u.1 1232 ≤ 20) : vp_in (y) 120 := by
  have hz1247 := hI.1.s1247
  refine g_in ?_ ?_ <;> ((try simp only [g_m1, Int32.lt_iff_toInt_lt, Int32.le_iff_toInt_le, ← Int32.toInt_inj, Int32.toInt_add, Int32.toInt_sub, Int32.toInt_mul, Int32.toInt_neg, Int32.reduceToInt, g_bm, g_bm'] at *); omega)
set_option maxRecDepth 100000 in
theorem g_X12_areBoth_f_v26 (u : qS) (x : Int32) (y : Int32) (k : qS) (hI : IM u) (hk : IK k u) (hx : 0 ≤ x ∧ x < u.1 1247) (hy : 0 ≤ y ∧ y < u.1 1247) (hys : u.1 1247 ≤ 120) (c12_1 : (u.2.1 1251 (x : Int32).toNatClampNeg : Int32) < (u.2.1 1251 (y : Int32).toNatClampNeg)) (c43_2 : (x : Int32) = x) (hb_10 : 0 ≤ (u.2.1 1248 (x : Int32).toNatClampNeg) ∧ (u.2.1 1248 (x : Int32).toNatClampNeg) < u.1 1232) (hs_11 : 0 ≤ u.1 1232 ∧ u.1 1232 ≤ 20) : 0 ≤ y ∧ y < u.1 1247 := by
  have hz1247 := hI.1.s1247
  first | omega | ((try simp only [g_m1, Int32.lt_iff_toInt_lt, Int32.le_iff_toInt_le, ← Int32.toInt_inj, Int32.reduceToInt] at *); omega) | ((try simp only [g_m1, Int32.lt_iff_toInt_lt, Int32.le_iff_toInt_le, ← Int32.toInt_inj, Int32.reduceToInt] at *); omega) | ((try simp only [g_m1, Int32.lt_iff_toInt_lt, Int32.le_iff_toInt_le, ← Int32.toInt_inj, Int32.toInt_add, Int32.toInt_sub, Int32.toInt_mul, Int32.toInt_neg, Int32.reduceToInt, g_bm, g_bm'] at *); omega) | (have qr1 := g_rng x; have qr2 := g_rng y; (try simp only [g_m1, Int32.lt_iff_toInt_lt, Int32.le_iff_toInt_le, ← Int32.toInt_inj, Int32.toInt_add, Int32.toInt_sub, Int32.toInt_mul, Int32.toInt_neg, Int32.reduceToInt, g_bm, g_bm'] at *); omega) | (simp only [g_m1, Int32.lt_iff_toInt_lt, Int32.le_iff_toInt_le, ← Int32.toInt_inj, Int32.toInt_add, Int32.toInt_sub, Int32.toInt_mul, Int32.toInt_neg, Int32.reduceToInt, g_bm, g_bm'] at *; simp at *; omega) | (simp_all; done)
set_option maxRecDepth 100000 in
theorem g_X12_areBoth_f_v27 (u : qS) (x : Int32) (y : Int32) (k : qS) (hI : IM u) (hk : IK k u) (hx : 0 ≤ x ∧ x < u.1 1247) (hy : 0 ≤ y ∧ y < u.1 1247) (hys : u.1 1247 ≤ 120) (c12_1 : (u.2.1 1251 (x : Int32).toNatClampNeg : Int32) < (u.2.1 1251 (y : Int32).toNatClampNeg)) (c43_2 : (x : Int32) = x) (hb_10 : 0 ≤ (u.2.1 1248 (x : Int32).toNatClampNeg) ∧ (u.2.1 1248 (x : Int32).toNatClampNeg) < u.1 1232) (hs_11 : 0 ≤ u.1 1232 ∧ u.1 1232 ≤ 20) (hb_12 : 0 ≤ (u.2.1 1248 (y : Int32).toNatClampNeg) ∧ (u.2.1 1248 (y : Int32).toNatClampNeg) < u.1 1232) : vp_in (u.2.1 1248 (y : Int32).toNatClampNeg) 20 := by
  have hz1247 := hI.1.s1247
  refine g_in ?_ ?_ <;> ((try simp only [g_m1, Int32.lt_iff_toInt_lt, Int32.le_iff_toInt_le, ← Int32.toInt_inj, Int32.toInt_add, Int32.toInt_sub, Int32.toInt_mul, Int32.toInt_neg, Int32.reduceToInt, g_bm, g_bm'] at *); omega)
set_option maxRecDepth 100000 in
theorem g_X12_areBoth_f_v28 (u : qS) (x : Int32) (y : Int32) (k : qS) (hI : IM u) (hk : IK k u) (hx : 0 ≤ x ∧ x < u.1 1247) (hy : 0 ≤ y ∧ y < u.1 1247) (hys : u.1 1247 ≤ 120) (c12_1 : (u.2.1 1251 (x : Int32).toNatClampNeg : Int32) < (u.2.1 1251 (y : Int32).toNatClampNeg)) (c43_2 : (x : Int32) = x) (hb_10 : 0 ≤ (u.2.1 1248 (x : Int32).toNatClampNeg) ∧ (u.2.1 1248 (x : Int32).toNatClampNeg) < u.1 1232) (hs_11 : 0 ≤ u.1 1232 ∧ u.1 1232 ≤ 20) (hb_12 : 0 ≤ (u.2.1 1248 (y : Int32).toNatClampNeg) ∧ (u.2.1 1248 (y : Int32).toNatClampNeg) < u.1 1232) : vp_in (y) 120 := by
  have hz1247 := hI.1.s1247
  refine g_in ?_ ?_ <;> ((try simp only [g_m1, Int32.lt_iff_toInt_lt, Int32.le_iff_toInt_le, ← Int32.toInt_inj, Int32.toInt_add, Int32.toInt_sub, Int32.toInt_mul, Int32.toInt_neg, Int32.reduceToInt, g_bm, g_bm'] at *); omega)
set_option maxRecDepth 100000 in
theorem g_X12_areBoth_f_v29 (u : qS) (x : Int32) (y : Int32) (k : qS) (hI : IM u) (hk : IK k u) (hx : 0 ≤ x ∧ x < u.1 1247) (hy : 0 ≤ y ∧ y < u.1 1247) (hys : u.1 1247 ≤ 120) (c12_1 : (u.2.1 1251 (x : Int32).toNatClampNeg : Int32) < (u.2.1 1251 (y : Int32).toNatClampNeg)) (c43_2 : (x : Int32) = x) (hb_10 : 0 ≤ (u.2.1 1248 (x : Int32).toNatClampNeg) ∧ (u.2.1 1248 (x : Int32).toNatClampNeg) < u.1 1232) (hs_11 : 0 ≤ u.1 1232 ∧ u.1 1232 ≤ 20) (hb_12 : 0 ≤ (u.2.1 1248 (y : Int32).toNatClampNeg) ∧ (u.2.1 1248 (y : Int32).toNatClampNeg) < u.1 1232) : 0 ≤ y ∧ y < u.1 1247 := by
  have hz1247 := hI.1.s1247
  first | omega | ((try simp only [g_m1, Int32.lt_iff_toInt_lt, Int32.le_iff_toInt_le, ← Int32.toInt_inj, Int32.reduceToInt] at *); omega) | ((try simp only [g_m1, Int32.lt_iff_toInt_lt, Int32.le_iff_toInt_le, ← Int32.toInt_inj, Int32.reduceToInt] at *); omega) | ((try simp only [g_m1, Int32.lt_iff_toInt_lt, Int32.le_iff_toInt_le, ← Int32.toInt_inj, Int32.toInt_add, Int32.toInt_sub, Int32.toInt_mul, Int32.toInt_neg, Int32.reduceToInt, g_bm, g_bm'] at *); omega) | (have qr1 := g_rng x; have qr2 := g_rng y; (try simp only [g_m1, Int32.lt_iff_toInt_lt, Int32.le_iff_toInt_le, ← Int32.toInt_inj, Int32.toInt_add, Int32.toInt_sub, Int32.toInt_mul, Int32.toInt_neg, Int32.reduceToInt, g_bm, g_bm'] at *); omega) | (simp only [g_m1, Int32.lt_iff_toInt_lt, Int32.le_iff_toInt_le, ← Int32.toInt_inj, Int32.toInt_add, Int32.toInt_sub, Int32.toInt_mul, Int32.toInt_neg, Int32.reduceToInt, g_bm, g_bm'] at *; simp at *; omega) | (simp_all; done)
set_option maxRecDepth 100000 in
theorem g_X12_areBoth_f_v30 (u : qS) (x : Int32) (y : Int32) (k : qS) (hI : IM u) (hk : IK k u) (hx : 0 ≤ x ∧ x < u.1 1247) (hy : 0 ≤ y ∧ y < u.1 1247) (hys : u.1 1247 ≤ 120) (c12_1 : (u.2.1 1251 (x : Int32).toNatClampNeg : Int32) < (u.2.1 1251 (y : Int32).toNatClampNeg)) (c43_2 : (x : Int32) = x) (hb_10 : 0 ≤ (u.2.1 1248 (x : Int32).toNatClampNeg) ∧ (u.2.1 1248 (x : Int32).toNatClampNeg) < u.1 1232) (hs_11 : 0 ≤ u.1 1232 ∧ u.1 1232 ≤ 20) (hb_12 : 0 ≤ (u.2.1 1248 (y : Int32).toNatClampNeg) ∧ (u.2.1 1248 (y : Int32).toNatClampNeg) < u.1 1232) : vp_in (u.2.1 1248 (y : Int32).toNatClampNeg) 20 := by
  have hz1247 := hI.1.s1247
  refine g_in ?_ ?_ <;> ((try simp only [g_m1, Int32.lt_iff_toInt_lt, Int32.le_iff_toInt_le, ← Int32.toInt_inj, Int32.toInt_add, Int32.toInt_sub, Int32.toInt_mul, Int32.toInt_neg, Int32.reduceToInt, g_bm, g_bm'] at *); omega)
set_option maxRecDepth 100000 in
theorem g_X12_areBoth_f_v31 (u : qS) (x : Int32) (y : Int32) (k : qS) (r_15 : Int32) (hI : IM u) (hk : IK k u) (hx : 0 ≤ x ∧ x < u.1 1247) (hy : 0 ≤ y ∧ y < u.1 1247) (hys : u.1 1247 ≤ 120) (c12_1 : (u.2.1 1251 (x : Int32).toNatClampNeg : Int32) < (u.2.1 1251 (y : Int32).toNatClampNeg)) (c43_2 : (x : Int32) = x) (hb_10 : 0 ≤ (u.2.1 1248 (x : Int32).toNatClampNeg) ∧ (u.2.1 1248 (x : Int32).toNatClampNeg) < u.1 1232) (hs_11 : 0 ≤ u.1 1232 ∧ u.1 1232 ≤ 20) (hb_12 : 0 ≤ (u.2.1 1248 (y : Int32).toNatClampNeg) ∧ (u.2.1 1248 (y : Int32).toNatClampNeg) < u.1 1232) (hw_14 : r_15 = f_wb (u.2.1 1233 (u.2.1 1248 (x : Int32).toNatClampNeg : Int32).toNatClampNeg) (u.2.1 1234 (u.2.1 1248 (x : Int32).toNatClampNeg : Int32).toNatClampNeg) (u.2.1 1233 (u.2.1 1248 (y : Int32).toNatClampNeg : Int32).toNatClampNeg) (u.2.1 1234 (u.2.1 1248 (y : Int32).toNatClampNeg : Int32).toNatClampNeg)) : vp_in (y) 120 := by
  have hz1247 := hI.1.s1247
  refine g_in ?_ ?_ <;> ((try simp only [g_m1, Int32.lt_iff_toInt_lt, Int32.le_iff_toInt_le, ← Int32.toInt_inj, Int32.toInt_add, Int32.toInt_sub, Int32.toInt_mul, Int32.toInt_neg, Int32.reduceToInt, g_bm, g_bm'] at *); omega)
set_option maxRecDepth 100000 in
theorem g_X12_areBoth_f_v32 (u : qS) (x : Int32) (y : Int32) (k : qS) (r_15 : Int32) (hI : IM u) (hk : IK k u) (hx : 0 ≤ x ∧ x < u.1 1247) (hy : 0 ≤ y ∧ y < u.1 1247) (hys : u.1 1247 ≤ 120) (c12_1 : (u.2.1 1251 (x : Int32).toNatClampNeg : Int32) < (u.2.1 1251 (y : Int32).toNatClampNeg)) (c43_2 : (x : Int32) = x) (hb_10 : 0 ≤ (u.2.1 1248 (x : Int32).toNatClampNeg) ∧ (u.2.1 1248 (x : Int32).toNatClampNeg) < u.1 1232) (hs_11 : 0 ≤ u.1 1232 ∧ u.1 1232 ≤ 20) (hb_12 : 0 ≤ (u.2.1 1248 (y : Int32).toNatClampNeg) ∧ (u.2.1 1248 (y : Int32).toNatClampNeg) < u.1 1232) (hw_14 : r_15 = f_wb (u.2.1 1233 (u.2.1 1248 (x : Int32).toNatClampNeg : Int32).toNatClampNeg) (u.2.1 1234 (u.2.1 1248 (x : Int32).toNatClampNeg : Int32).toNatClampNeg) (u.2.1 1233 (u.2.1 1248 (y : Int32).toNatClampNeg : Int32).toNatClampNeg) (u.2.1 1234 (u.2.1 1248 (y : Int32).toNatClampNeg : Int32).toNatClampNeg)) : vp_in (x) 120 := by
  have hz1247 := hI.1.s1247
  refine g_in ?_ ?_ <;> ((try simp only [g_m1, Int32.lt_iff_toInt_lt, Int32.le_iff_toInt_le, ← Int32.toInt_inj, Int32.toInt_add, Int32.toInt_sub, Int32.toInt_mul, Int32.toInt_neg, Int32.reduceToInt, g_bm, g_bm'] at *); omega)
set_option maxRecDepth 100000 in
theorem g_X12_areBoth_f_v33 (u : qS) (x : Int32) (y : Int32) (k : qS) (r_15 : Int32) (hI : IM u) (hk : IK k u) (hx : 0 ≤ x ∧ x < u.1 1247) (hy : 0 ≤ y ∧ y < u.1 1247) (hys : u.1 1247 ≤ 120) (c12_1 : (u.2.1 1251 (x : Int32).toNatClampNeg : Int32) < (u.2.1 1251 (y : Int32).toNatClampNeg)) (c43_2 : (x : Int32) = x) (hb_10 : 0 ≤ (u.2.1 1248 (x : Int32).toNatClampNeg) ∧ (u.2.1 1248 (x : Int32).toNatClampNeg) < u.1 1232) (hs_11 : 0 ≤ u.1 1232 ∧ u.1 1232 ≤ 20) (hb_12 : 0 ≤ (u.2.1 1248 (y : Int32).toNatClampNeg) ∧ (u.2.1 1248 (y : Int32).toNatClampNeg) < u.1 1232) (hw_14 : r_15 = f_wb (u.2.1 1233 (u.2.1 1248 (x : Int32).toNatClampNeg : Int32).toNatClampNeg) (u.2.1 1234 (u.2.1 1248 (x : Int32).toNatClampNeg : Int32).toNatClampNeg) (u.2.1 1233 (u.2.1 1248 (y : Int32).toNatClampNeg : Int32).toNatClampNeg) (u.2.1 1234 (u.2.1 1248 (y : Int32).toNatClampNeg : Int32).toNatClampNeg)) : vp_in (x) 120 := by
  have hz1247 := hI.1.s1247
  refine g_in ?_ ?_ <;> ((try simp only [g_m1, Int32.lt_iff_toInt_lt, Int32.le_iff_toInt_le, ← Int32.toInt_inj, Int32.toInt_add, Int32.toInt_sub, Int32.toInt_mul, Int32.toInt_neg, Int32.reduceToInt, g_bm, g_bm'] at *); omega)
set_option maxRecDepth 100000 in
theorem g_X12_areBoth_f_v34 (u : qS) (x : Int32) (y : Int32) (k : qS) (r_15 : Int32) (hI : IM u) (hk : IK k u) (hx : 0 ≤ x ∧ x < u.1 1247) (hy : 0 ≤ y ∧ y < u.1 1247) (hys : u.1 1247 ≤ 120) (c12_1 : (u.2.1 1251 (x : Int32).toNatClampNeg : Int32) < (u.2.1 1251 (y : Int32).toNatClampNeg)) (c43_2 : (x : Int32) = x) (hb_10 : 0 ≤ (u.2.1 1248 (x : Int32).toNatClampNeg) ∧ (u.2.1 1248 (x : Int32).toNatClampNeg) < u.1 1232) (hs_11 : 0 ≤ u.1 1232 ∧ u.1 1232 ≤ 20) (hb_12 : 0 ≤ (u.2.1 1248 (y : Int32).toNatClampNeg) ∧ (u.2.1 1248 (y : Int32).toNatClampNeg) < u.1 1232) (hw_14 : r_15 = f_wb (u.2.1 1233 (u.2.1 1248 (x : Int32).toNatClampNeg : Int32).toNatClampNeg) (u.2.1 1234 (u.2.1 1248 (x : Int32).toNatClampNeg : Int32).toNatClampNeg) (u.2.1 1233 (u.2.1 1248 (y : Int32).toNatClampNeg : Int32).toNatClampNeg) (u.2.1 1234 (u.2.1 1248 (y : Int32).toNatClampNeg : Int32).toNatClampNeg)) (c130_16 : (u.2.1 1251 (y : Int32).toNatClampNeg : Int32) < (((u.2.1 1251 (x : Int32).toNatClampNeg) + (u.2.1 1252 (x : Int32).toNatClampNeg)) + ((u.1 1242) * r_15))) : (0 = (1 : Int32) ∧ (f_bo k x y)) ∨ (0 = (0 : Int32) ∧ ¬ (f_bo k x y)) := by
  have hz1247 := hI.1.s1247
  have k1242 := hk.i 1242 (by decide)
  have k1233 := hk.r 1233 (by decide)
  have k1234 := hk.r 1234 (by decide)
  have k1248 := hk.r 1248 (by decide)
  have k1251 := hk.r 1251 (by decide)
  have k1252 := hk.r 1252 (by decide)
  unfold f_bo f_sc f_fs; rw [← k1233, ← k1234, ← k1242, ← k1248, ← k1251, ← k1252]; clear hk; subst_vars
  first | (refine Or.inl ⟨rfl, ?_⟩; (repeat' split) <;> first | contradiction | ((try simp only [g_m1, Int32.lt_iff_toInt_lt, Int32.le_iff_toInt_le, ← Int32.toInt_inj, Int32.reduceToInt] at *); omega)) | (refine Or.inr ⟨rfl, ?_⟩; (repeat' split) <;> first | contradiction | ((try simp only [g_m1, Int32.lt_iff_toInt_lt, Int32.le_iff_toInt_le, ← Int32.toInt_inj, Int32.reduceToInt] at *); omega))
set_option maxRecDepth 100000 in
theorem g_X12_areBoth_f_v35 (u : qS) (x : Int32) (y : Int32) (k : qS) (r_15 : Int32) (hI : IM u) (hk : IK k u) (hx : 0 ≤ x ∧ x < u.1 1247) (hy : 0 ≤ y ∧ y < u.1 1247) (hys : u.1 1247 ≤ 120) (c12_1 : (u.2.1 1251 (x : Int32).toNatClampNeg : Int32) < (u.2.1 1251 (y : Int32).toNatClampNeg)) (c43_2 : (x : Int32) = x) (hb_10 : 0 ≤ (u.2.1 1248 (x : Int32).toNatClampNeg) ∧ (u.2.1 1248 (x : Int32).toNatClampNeg) < u.1 1232) (hs_11 : 0 ≤ u.1 1232 ∧ u.1 1232 ≤ 20) (hb_12 : 0 ≤ (u.2.1 1248 (y : Int32).toNatClampNeg) ∧ (u.2.1 1248 (y : Int32).toNatClampNeg) < u.1 1232) (hw_14 : r_15 = f_wb (u.2.1 1233 (u.2.1 1248 (x : Int32).toNatClampNeg : Int32).toNatClampNeg) (u.2.1 1234 (u.2.1 1248 (x : Int32).toNatClampNeg : Int32).toNatClampNeg) (u.2.1 1233 (u.2.1 1248 (y : Int32).toNatClampNeg : Int32).toNatClampNeg) (u.2.1 1234 (u.2.1 1248 (y : Int32).toNatClampNeg : Int32).toNatClampNeg)) (c130_16 : ¬ (u.2.1 1251 (y : Int32).toNatClampNeg : Int32) < (((u.2.1 1251 (x : Int32).toNatClampNeg) + (u.2.1 1252 (x : Int32).toNatClampNeg)) + ((u.1 1242) * r_15))) : (1 = (1 : Int32) ∧ (f_bo k x y)) ∨ (1 = (0 : Int32) ∧ ¬ (f_bo k x y)) := by
  have hz1247 := hI.1.s1247
  have k1242 := hk.i 1242 (by decide)
  have k1233 := hk.r 1233 (by decide)
  have k1234 := hk.r 1234 (by decide)
  have k1248 := hk.r 1248 (by decide)
  have k1251 := hk.r 1251 (by decide)
  have k1252 := hk.r 1252 (by decide)
  unfold f_bo f_sc f_fs; rw [← k1233, ← k1234, ← k1242, ← k1248, ← k1251, ← k1252]; clear hk; subst_vars
  first | (refine Or.inl ⟨rfl, ?_⟩; (repeat' split) <;> first | contradiction | ((try simp only [g_m1, Int32.lt_iff_toInt_lt, Int32.le_iff_toInt_le, ← Int32.toInt_inj, Int32.reduceToInt] at *); omega)) | (refine Or.inr ⟨rfl, ?_⟩; (repeat' split) <;> first | contradiction | ((try simp only [g_m1, Int32.lt_iff_toInt_lt, Int32.le_iff_toInt_le, ← Int32.toInt_inj, Int32.reduceToInt] at *); omega))
set_option maxRecDepth 100000 in
theorem g_X12_areBoth_f_v36 (u : qS) (x : Int32) (y : Int32) (k : qS) (hI : IM u) (hk : IK k u) (hx : 0 ≤ x ∧ x < u.1 1247) (hy : 0 ≤ y ∧ y < u.1 1247) (hys : u.1 1247 ≤ 120) (c12_1 : ¬ (u.2.1 1251 (x : Int32).toNatClampNeg : Int32) < (u.2.1 1251 (y : Int32).toNatClampNeg)) : vp_in (x) 120 := by
  have hz1247 := hI.1.s1247
  refine g_in ?_ ?_ <;> ((try simp only [g_m1, Int32.lt_iff_toInt_lt, Int32.le_iff_toInt_le, ← Int32.toInt_inj, Int32.toInt_add, Int32.toInt_sub, Int32.toInt_mul, Int32.toInt_neg, Int32.reduceToInt, g_bm, g_bm'] at *); omega)
set_option maxRecDepth 100000 in
theorem g_X12_areBoth_f_v37 (u : qS) (x : Int32) (y : Int32) (k : qS) (hI : IM u) (hk : IK k u) (hx : 0 ≤ x ∧ x < u.1 1247) (hy : 0 ≤ y ∧ y < u.1 1247) (hys : u.1 1247 ≤ 120) (c12_1 : ¬ (u.2.1 1251 (x : Int32).toNatClampNeg : Int32) < (u.2.1 1251 (y : Int32).toNatClampNeg)) : vp_in (y) 120 := by
  have hz1247 := hI.1.s1247
  refine g_in ?_ ?_ <;> ((try simp only [g_m1, Int32.lt_iff_toInt_lt, Int32.le_iff_toInt_le, ← Int32.toInt_inj, Int32.toInt_add, Int32.toInt_sub, Int32.toInt_mul, Int32.toInt_neg, Int32.reduceToInt, g_bm, g_bm'] at *); omega)
set_option maxRecDepth 100000 in
theorem g_X12_areBoth_f_v38 (u : qS) (x : Int32) (y : Int32) (k : qS) (hI : IM u) (hk : IK k u) (hx : 0 ≤ x ∧ x < u.1 1247) (hy : 0 ≤ y ∧ y < u.1 1247) (hys : u.1 1247 ≤ 120) (c12_1 : ¬ (u.2.1 1251 (x : Int32).toNatClampNeg : Int32) < (u.2.1 1251 (y : Int32).toNatClampNeg)) (c27_17 : ¬ (u.2.1 1251 (x : Int32).toNatClampNeg : Int32) = (u.2.1 1251 (y : Int32).toNatClampNeg)) (c43_18 : ¬ (y : Int32) = x) : vp_in (x) 120 := by
  have hz1247 := hI.1.s1247
  refine g_in ?_ ?_ <;> ((try simp only [g_m1, Int32.lt_iff_toInt_lt, Int32.le_iff_toInt_le, ← Int32.toInt_inj, Int32.toInt_add, Int32.toInt_sub, Int32.toInt_mul, Int32.toInt_neg, Int32.reduceToInt, g_bm, g_bm'] at *); omega)
set_option maxRecDepth 100000 in
theorem g_X12_areBoth_f_v39 (u : qS) (x : Int32) (y : Int32) (k : qS) (hI : IM u) (hk : IK k u) (hx : 0 ≤ x ∧ x < u.1 1247) (hy : 0 ≤ y ∧ y < u.1 1247) (hys : u.1 1247 ≤ 120) (c12_1 : ¬ (u.2.1 1251 (x : Int32).toNatClampNeg : Int32) < (u.2.1 1251 (y : Int32).toNatClampNeg)) (c27_17 : ¬ (u.2.1 1251 (x : Int32).toNatClampNeg : Int32) = (u.2.1 1251 (y : Int32).toNatClampNeg)) (c43_18 : ¬ (y : Int32) = x) : 0 ≤ x ∧ x < u.1 1247 := by
  have hz1247 := hI.1.s1247
  first | omega | ((try simp only [g_m1, Int32.lt_iff_toInt_lt, Int32.le_iff_toInt_le, ← Int32.toInt_inj, Int32.reduceToInt] at *); omega) | ((try simp only [g_m1, Int32.lt_iff_toInt_lt, Int32.le_iff_toInt_le, ← Int32.toInt_inj, Int32.reduceToInt] at *); omega) | ((try simp only [g_m1, Int32.lt_iff_toInt_lt, Int32.le_iff_toInt_le, ← Int32.toInt_inj, Int32.toInt_add, Int32.toInt_sub, Int32.toInt_mul, Int32.toInt_neg, Int32.reduceToInt, g_bm, g_bm'] at *); omega) | (have qr1 := g_rng x; have qr2 := g_rng y; (try simp only [g_m1, Int32.lt_iff_toInt_lt, Int32.le_iff_toInt_le, ← Int32.toInt_inj, Int32.toInt_add, Int32.toInt_sub, Int32.toInt_mul, Int32.toInt_neg, Int32.reduceToInt, g_bm, g_bm'] at *); omega) | (simp only [g_m1, Int32.lt_iff_toInt_lt, Int32.le_iff_toInt_le, ← Int32.toInt_inj, Int32.toInt_add, Int32.toInt_sub, Int32.toInt_mul, Int32.toInt_neg, Int32.reduceToInt, g_bm, g_bm'] at *; simp at *; omega) | (simp_all; done)
set_option maxRecDepth 100000 in
theorem g_X12_areBoth_f_v40 (u : qS) (x : Int32) (y : Int32) (k : qS) (hI : IM u) (hk : IK k u) (hx : 0 ≤ x ∧ x < u.1 1247) (hy : 0 ≤ y ∧ y < u.1 1247) (hys : u.1 1247 ≤ 120) (c12_1 : ¬ (u.2.1 1251 (x : Int32).toNatClampNeg : Int32) < (u.2.1 1251 (y : Int32).toNatClampNeg)) (c27_17 : ¬ (u.2.1 1251 (x : Int32).toNatClampNeg : Int32) = (u.2.1 1251 (y : Int32).toNatClampNeg)) (c43_18 : ¬ (y : Int32) = x) (hb_19 : 0 ≤ (u.2.1 1248 (x : Int32).toNatClampNeg) ∧ (u.2.1 1248 (x : Int32).toNatClampNeg) < u.1 1232) (hs_20 : 0 ≤ u.1 1232 ∧ u.1 1232 ≤ 20) : vp_in (u.2.1 1248 (x : Int32).toNatClampNeg) 20 := by
  have hz1247 := hI.1.s1247
  refine g_in ?_ ?_ <;> ((try simp only [g_m1, Int32.lt_iff_toInt_lt, Int32.le_iff_toInt_le, ← Int32.toInt_inj, Int32.toInt_add, Int32.toInt_sub, Int32.toInt_mul, Int32.toInt_neg, Int32.reduceToInt, g_bm, g_bm'] at *); omega)
set_option maxRecDepth 100000 in
theorem g_X12_areBoth_f_v41 (u : qS) (x : Int32) (y : Int32) (k : qS) (hI : IM u) (hk : IK k u) (hx : 0 ≤ x ∧ x < u.1 1247) (hy : 0 ≤ y ∧ y < u.1 1247) (hys : u.1 1247 ≤ 120) (c12_1 : ¬ (u.2.1 1251 (x : Int32).toNatClampNeg : Int32) < (u.2.1 1251 (y : Int32).toNatClampNeg)) (c27_17 : ¬ (u.2.1 1251 (x : Int32).toNatClampNeg : Int32) = (u.2.1 1251 (y : Int32).toNatClampNeg)) (c43_18 : ¬ (y : Int32) = x) (hb_19 : 0 ≤ (u.2.1 1248 (x : Int32).toNatClampNeg) ∧ (u.2.1 1248 (x : Int32).toNatClampNeg) < u.1 1232) (hs_20 : 0 ≤ u.1 1232 ∧ u.1 1232 ≤ 20) : vp_in (x) 120 := by
  have hz1247 := hI.1.s1247
  refine g_in ?_ ?_ <;> ((try simp only [g_m1, Int32.lt_iff_toInt_lt, Int32.le_iff_toInt_le, ← Int32.toInt_inj, Int32.toInt_add, Int32.toInt_sub, Int32.toInt_mul, Int32.toInt_neg, Int32.reduceToInt, g_bm, g_bm'] at *); omega)
set_option maxRecDepth 100000 in
theorem g_X12_areBoth_f_v42 (u : qS) (x : Int32) (y : Int32) (k : qS) (hI : IM u) (hk : IK k u) (hx : 0 ≤ x ∧ x < u.1 1247) (hy : 0 ≤ y ∧ y < u.1 1247) (hys : u.1 1247 ≤ 120) (c12_1 : ¬ (u.2.1 1251 (x : Int32).toNatClampNeg : Int32) < (u.2.1 1251 (y : Int32).toNatClampNeg)) (c27_17 : ¬ (u.2.1 1251 (x : Int32).toNatClampNeg : Int32) = (u.2.1 1251 (y : Int32).toNatClampNeg)) (c43_18 : ¬ (y : Int32) = x) (hb_19 : 0 ≤ (u.2.1 1248 (x : Int32).toNatClampNeg) ∧ (u.2.1 1248 (x : Int32).toNatClampNeg) < u.1 1232) (hs_20 : 0 ≤ u.1 1232 ∧ u.1 1232 ≤ 20) : 0 ≤ x ∧ x < u.1 1247 := by
  have hz1247 := hI.1.s1247
  first | omega | ((try simp only [g_m1, Int32.lt_iff_toInt_lt, Int32.le_iff_toInt_le, ← Int32.toInt_inj, Int32.reduceToInt] at *); omega) | ((try simp only [g_m1, Int32.lt_iff_toInt_lt, Int32.le_iff_toInt_le, ← Int32.toInt_inj, Int32.reduceToInt] at *); omega) | ((try simp only [g_m1, Int32.lt_iff_toInt_lt, Int32.le_iff_toInt_le, ← Int32.toInt_inj, Int32.toInt_add, Int32.toInt_sub, Int32.toInt_mul, Int32.toInt_neg, Int32.reduceToInt, g_bm, g_bm'] at *); omega) | (have qr1 := g_rng x; have qr2 := g_rng y; (try simp only [g_m1, Int32.lt_iff_toInt_lt, Int32.le_iff_toInt_le, ← Int32.toInt_inj, Int32.toInt_add, Int32.toInt_sub, Int32.toInt_mul, Int32.toInt_neg, Int32.reduceToInt, g_bm, g_bm'] at *); omega) | (simp only [g_m1, Int32.lt_iff_toInt_lt, Int32.le_iff_toInt_le, ← Int32.toInt_inj, Int32.toInt_add, Int32.toInt_sub, Int32.toInt_mul, Int32.toInt_neg, Int32.reduceToInt, g_bm, g_bm'] at *; simp at *; omega) | (simp_all; done)
set_option maxRecDepth 100000 in
theorem g_X12_areBoth_f_v43 (u : qS) (x : Int32) (y : Int32) (k : qS) (hI : IM u) (hk : IK k u) (hx : 0 ≤ x ∧ x < u.1 1247) (hy : 0 ≤ y ∧ y < u.1 1247) (hys : u.1 1247 ≤ 120) (c12_1 : ¬ (u.2.1 1251 (x : Int32).toNatClampNeg : Int32) < (u.2.1 1251 (y : Int32).toNatClampNeg)) (c27_17 : ¬ (u.2.1 1251 (x : Int32).toNatClampNeg : Int32) = (u.2.1 1251 (y : Int32).toNatClampNeg)) (c43_18 : ¬ (y : Int32) = x) (hb_19 : 0 ≤ (u.2.1 1248 (x : Int32).toNatClampNeg) ∧ (u.2.1 1248 (x : Int32).toNatClampNeg) < u.1 1232) (hs_20 : 0 ≤ u.1 1232 ∧ u.1 1232 ≤ 20) : vp_in (u.2.1 1248 (x : Int32).toNatClampNeg) 20 := by
  have hz1247 := hI.1.s1247
  refine g_in ?_ ?_ <;> ((try simp only [g_m1, Int32.lt_iff_toInt_lt, Int32.le_iff_toInt_le, ← Int32.toInt_inj, Int32.toInt_add, Int32.toInt_sub, Int32.toInt_mul, Int32.toInt_neg, Int32.reduceToInt, g_bm, g_bm'] at *); omega)
set_option maxRecDepth 100000 in
theorem g_X12_areBoth_f_v44 (u : qS) (x : Int32) (y : Int32) (k : qS) (hI : IM u) (hk : IK k u) (hx : 0 ≤ x ∧ x < u.1 1247) (hy : 0 ≤ y ∧ y < u.1 1247) (hys : u.1 1247 ≤ 120) (c12_1 : ¬ (u.2.1 1251 (x : Int32).toNatClampNeg : Int32) < (u.2.1 1251 (y : Int32).toNatClampNeg)) (c27_17 : ¬ (u.2.1 1251 (x : Int32).toNatClampNeg : Int32) = (u.2.1 1251 (y : Int32).toNatClampNeg)) (c43_18 : ¬ (y : Int32) = x) (hb_19 : 0 ≤ (u.2.1 1248 (x : Int32).toNatClampNeg) ∧ (u.2.1 1248 (x : Int32).toNatClampNeg) < u.1 1232) (hs_20 : 0 ≤ u.1 1232 ∧ u.1 1232 ≤ 20) : vp_in (y) 120 := by
  have hz1247 := hI.1.s1247
  refine g_in ?_ ?_ <;> ((try simp only [g_m1, Int32.lt_iff_toInt_lt, Int32.le_iff_toInt_le, ← Int32.toInt_inj, Int32.toInt_add, Int32.toInt_sub, Int32.toInt_mul, Int32.toInt_neg, Int32.reduceToInt, g_bm, g_bm'] at *); omega)
set_option maxRecDepth 100000 in
theorem g_X12_areBoth_f_v45 (u : qS) (x : Int32) (y : Int32) (k : qS) (hI : IM u) (hk : IK k u) (hx : 0 ≤ x ∧ x < u.1 1247) (hy : 0 ≤ y ∧ y < u.1 1247) (hys : u.1 1247 ≤ 120) (c12_1 : ¬ (u.2.1 1251 (x : Int32).toNatClampNeg : Int32) < (u.2.1 1251 (y : Int32).toNatClampNeg)) (c27_17 : ¬ (u.2.1 1251 (x : Int32).toNatClampNeg : Int32) = (u.2.1 1251 (y : Int32).toNatClampNeg)) (c43_18 : ¬ (y : Int32) = x) (hb_19 : 0 ≤ (u.2.1 1248 (x : Int32).toNatClampNeg) ∧ (u.2.1 1248 (x : Int32).toNatClampNeg) < u.1 1232) (hs_20 : 0 ≤ u.1 1232 ∧ u.1 1232 ≤ 20) : 0 ≤ y ∧ y < u.1 1247 := by
  have hz1247 := hI.1.s1247
  first | omega | ((try simp only [g_m1, Int32.lt_iff_toInt_lt, Int32.le_iff_toInt_le, ← Int32.toInt_inj, Int32.reduceToInt] at *); omega) | ((try simp only [g_m1, Int32.lt_iff_toInt_lt, Int32.le_iff_toInt_le, ← Int32.toInt_inj, Int32.reduceToInt] at *); omega) | ((try simp only [g_m1, Int32.lt_iff_toInt_lt, Int32.le_iff_toInt_le, ← Int32.toInt_inj, Int32.toInt_add, Int32.toInt_sub, Int32.toInt_mul, Int32.toInt_neg, Int32.reduceToInt, g_bm, g_bm'] at *); omega) | (have qr1 := g_rng x; have qr2 := g_rng y; (try simp only [g_m1, Int32.lt_iff_toInt_lt, Int32.le_iff_toInt_le, ← Int32.toInt_inj, Int32.toInt_add, Int32.toInt_sub, Int32.toInt_mul, Int32.toInt_neg, Int32.reduceToInt, g_bm, g_bm'] at *); omega) | (simp only [g_m1, Int32.lt_iff_toInt_lt, Int32.le_iff_toInt_le, ← Int32.toInt_inj, Int32.toInt_add, Int32.toInt_sub, Int32.toInt_mul, Int32.toInt_neg, Int32.reduceToInt, g_bm, g_bm'] at *; simp at *; omega) | (simp_all; done)
set_option maxRecDepth 100000 in
theorem g_X12_areBoth_f_v46 (u : qS) (x : Int32) (y : Int32) (k : qS) (hI : IM u) (hk : IK k u) (hx : 0 ≤ x ∧ x < u.1 1247) (hy : 0 ≤ y ∧ y < u.1 1247) (hys : u.1 1247 ≤ 120) (c12_1 : ¬ (u.2.1 1251 (x : Int32).toNatClampNeg : Int32) < (u.2.1 1251 (y : Int32).toNatClampNeg)) (c27_17 : ¬ (u.2.1 1251 (x : Int32).toNatClampNeg : Int32) = (u.2.1 1251 (y : Int32).toNatClampNeg)) (c43_18 : ¬ (y : Int32) = x) (hb_19 : 0 ≤ (u.2.1 1248 (x : Int32).toNatClampNeg) ∧ (u.2.1 1248 (x : Int32).toNatClampNeg) < u.1 1232) (hs_20 : 0 ≤ u.1 1232 ∧ u.1 1232 ≤ 20) (hb_21 : 0 ≤ (u.2.1 1248 (y : Int32).toNatClampNeg) ∧ (u.2.1 1248 (y : Int32).toNatClampNeg) < u.1 1232) : vp_in (u.2.1 1248 (y : Int32).toNatClampNeg) 20 := by
  have hz1247 := hI.1.s1247
  refine g_in ?_ ?_ <;> ((try simp only [g_m1, Int32.lt_iff_toInt_lt, Int32.le_iff_toInt_le, ← Int32.toInt_inj, Int32.toInt_add, Int32.toInt_sub, Int32.toInt_mul, Int32.toInt_neg, Int32.reduceToInt, g_bm, g_bm'] at *); omega)
set_option maxRecDepth 100000 in
theorem g_X12_areBoth_f_v47 (u : qS) (x : Int32) (y : Int32) (k : qS) (hI : IM u) (hk : IK k u) (hx : 0 ≤ x ∧ x < u.1 1247) (hy : 0 ≤ y ∧ y < u.1 1247) (hys : u.1 1247 ≤ 120) (c12_1 : ¬ (u.2.1 1251 (x : Int32).toNatClampNeg : Int32) < (u.2.1 1251 (y : Int32).toNatClampNeg)) (c27_17 : ¬ (u.2.1 1251 (x : Int32).toNatClampNeg : Int32) = (u.2.1 1251 (y : Int32).toNatClampNeg)) (c43_18 : ¬ (y : Int32) = x) (hb_19 : 0 ≤ (u.2.1 1248 (x : Int32).toNatClampNeg) ∧ (u.2.1 1248 (x : Int32).toNatClampNeg) < u.1 1232) (hs_20 : 0 ≤ u.1 1232 ∧ u.1 1232 ≤ 20) (hb_21 : 0 ≤ (u.2.1 1248 (y : Int32).toNatClampNeg) ∧ (u.2.1 1248 (y : Int32).toNatClampNeg) < u.1 1232) : vp_in (y) 120 := by
  have hz1247 := hI.1.s1247
  refine g_in ?_ ?_ <;> ((try simp only [g_m1, Int32.lt_iff_toInt_lt, Int32.le_iff_toInt_le, ← Int32.toInt_inj, Int32.toInt_add, Int32.toInt_sub, Int32.toInt_mul, Int32.toInt_neg, Int32.reduceToInt, g_bm, g_bm'] at *); omega)
set_option maxRecDepth 100000 in
theorem g_X12_areBoth_f_v48 (u : qS) (x : Int32) (y : Int32) (k : qS) (hI : IM u) (hk : IK k u) (hx : 0 ≤ x ∧ x < u.1 1247) (hy : 0 ≤ y ∧ y < u.1 1247) (hys : u.1 1247 ≤ 120) (c12_1 : ¬ (u.2.1 1251 (x : Int32).toNatClampNeg : Int32) < (u.2.1 1251 (y : Int32).toNatClampNeg)) (c27_17 : ¬ (u.2.1 1251 (x : Int32).toNatClampNeg : Int32) = (u.2.1 1251 (y : Int32).toNatClampNeg)) (c43_18 : ¬ (y : Int32) = x) (hb_19 : 0 ≤ (u.2.1 1248 (x : Int32).toNatClampNeg) ∧ (u.2.1 1248 (x : Int32).toNatClampNeg) < u.1 1232) (hs_20 : 0 ≤ u.1 1232 ∧ u.1 1232 ≤ 20) (hb_21 : 0 ≤ (u.2.1 1248 (y : Int32).toNatClampNeg) ∧ (u.2.1 1248 (y : Int32).toNatClampNeg) < u.1 1232) : 0 ≤ y ∧ y < u.1 1247 := by
  have hz1247 := hI.1.s1247
  first | omega | ((try simp only [g_m1, Int32.lt_iff_toInt_lt, Int32.le_iff_toInt_le, ← Int32.toInt_inj, Int32.reduceToInt] at *); omega) | ((try simp only [g_m1, Int32.lt_iff_toInt_lt, Int32.le_iff_toInt_le, ← Int32.toInt_inj, Int32.reduceToInt] at *); omega) | ((try simp only [g_m1, Int32.lt_iff_toInt_lt, Int32.le_iff_toInt_le, ← Int32.toInt_inj, Int32.toInt_add, Int32.toInt_sub, Int32.toInt_mul, Int32.toInt_neg, Int32.reduceToInt, g_bm, g_bm'] at *); omega) | (have qr1 := g_rng x; have qr2 := g_rng y; (try simp only [g_m1, Int32.lt_iff_toInt_lt, Int32.le_iff_toInt_le, ← Int32.toInt_inj, Int32.toInt_add, Int32.toInt_sub, Int32.toInt_mul, Int32.toInt_neg, Int32.reduceToInt, g_bm, g_bm'] at *); omega) | (simp only [g_m1, Int32.lt_iff_toInt_lt, Int32.le_iff_toInt_le, ← Int32.toInt_inj, Int32.toInt_add, Int32.toInt_sub, Int32.toInt_mul, Int32.toInt_neg, Int32.reduceToInt, g_bm, g_bm'] at *; simp at *; omega) | (simp_all; done)
set_option maxRecDepth 100000 in
theorem g_X12_areBoth_f_v49 (u : qS) (x : Int32) (y : Int32) (k : qS) (hI : IM u) (hk : IK k u) (hx : 0 ≤ x ∧ x < u.1 1247) (hy : 0 ≤ y ∧ y < u.1 1247) (hys : u.1 1247 ≤ 120) (c12_1 : ¬ (u.2.1 1251 (x : Int32).toNatClampNeg : Int32) < (u.2.1 1251 (y : Int32).toNatClampNeg)) (c27_17 : ¬ (u.2.1 1251 (x : Int32).toNatClampNeg : Int32) = (u.2.1 1251 (y : Int32).toNatClampNeg)) (c43_18 : ¬ (y : Int32) = x) (hb_19 : 0 ≤ (u.2.1 1248 (x : Int32).toNatClampNeg) ∧ (u.2.1 1248 (x : Int32).toNatClampNeg) < u.1 1232) (hs_20 : 0 ≤ u.1 1232 ∧ u.1 1232 ≤ 20) (hb_21 : 0 ≤ (u.2.1 1248 (y : Int32).toNatClampNeg) ∧ (u.2.1 1248 (y : Int32).toNatClampNeg) < u.1 1232) : vp_in (u.2.1 1248 (y : Int32).toNatClampNeg) 20 := by
  have hz1247 := hI.1.s1247
  refine g_in ?_ ?_ <;> ((try simp only [g_m1, Int32.lt_iff_toInt_lt, Int32.le_iff_toInt_le, ← Int32.toInt_inj, Int32.toInt_add, Int32.toInt_sub, Int32.toInt_mul, Int32.toInt_neg, Int32.reduceToInt, g_bm, g_bm'] at *); omega)
set_option maxRecDepth 100000 in
theorem g_X12_areBoth_f_v50 (u : qS) (x : Int32) (y : Int32) (k : qS) (r_24 : Int32) (hI : IM u) (hk : IK k u) (hx : 0 ≤ x ∧ x < u.1 1247) (hy : 0 ≤ y ∧ y < u.1 1247) (hys : u.1 1247 ≤ 120) (c12_1 : ¬ (u.2.1 1251 (x : Int32).toNatClampNeg : Int32) < (u.2.1 1251 (y : Int32).toNatClampNeg)) (c27_17 : ¬ (u.2.1 1251 (x : Int32).toNatClampNeg : Int32) = (u.2.1 1251 (y : Int32).toNatClampNeg)) (c43_18 : ¬ (y : Int32) = x) (hb_19 : 0 ≤ (u.2.1 1248 (x : Int32).toNatClampNeg) ∧ (u.2.1 1248 (x : Int32).toNatClampNeg) < u.1 1232) (hs_20 : 0 ≤ u.1 1232 ∧ u.1 1232 ≤ 20) (hb_21 : 0 ≤ (u.2.1 1248 (y : Int32).toNatClampNeg) ∧ (u.2.1 1248 (y : Int32).toNatClampNeg) < u.1 1232) (hw_23 : r_24 = f_wb (u.2.1 1233 (u.2.1 1248 (x : Int32).toNatClampNeg : Int32).toNatClampNeg) (u.2.1 1234 (u.2.1 1248 (x : Int32).toNatClampNeg : Int32).toNatClampNeg) (u.2.1 1233 (u.2.1 1248 (y : Int32).toNatClampNeg : Int32).toNatClampNeg) (u.2.1 1234 (u.2.1 1248 (y : Int32).toNatClampNeg : Int32).toNatClampNeg)) : vp_in (x) 120 := by
  have hz1247 := hI.1.s1247
  refine g_in ?_ ?_ <;> ((try simp only [g_m1, Int32.lt_iff_toInt_lt, Int32.le_iff_toInt_le, ← Int32.toInt_inj, Int32.toInt_add, Int32.toInt_sub, Int32.toInt_mul, Int32.toInt_neg, Int32.reduceToInt, g_bm, g_bm'] at *); omega)
set_option maxRecDepth 100000 in
theorem g_X12_areBoth_f_v51 (u : qS) (x : Int32) (y : Int32) (k : qS) (r_24 : Int32) (hI : IM u) (hk : IK k u) (hx : 0 ≤ x ∧ x < u.1 1247) (hy : 0 ≤ y ∧ y < u.1 1247) (hys : u.1 1247 ≤ 120) (c12_1 : ¬ (u.2.1 1251 (x : Int32).toNatClampNeg : Int32) < (u.2.1 1251 (y : Int32).toNatClampNeg)) (c27_17 : ¬ (u.2.1 1251 (x : Int32).toNatClampNeg : Int32) = (u.2.1 1251 (y : Int32).toNatClampNeg)) (c43_18 : ¬ (y : Int32) = x) (hb_19 : 0 ≤ (u.2.1 1248 (x : Int32).toNatClampNeg) ∧ (u.2.1 1248 (x : Int32).toNatClampNeg) < u.1 1232) (hs_20 : 0 ≤ u.1 1232 ∧ u.1 1232 ≤ 20) (hb_21 : 0 ≤ (u.2.1 1248 (y : Int32).toNatClampNeg) ∧ (u.2.1 1248 (y : Int32).toNatClampNeg) < u.1 1232) (hw_23 : r_24 = f_wb (u.2.1 1233 (u.2.1 1248 (x : Int32).toNatClampNeg : Int32).toNatClampNeg) (u.2.1 1234 (u.2.1 1248 (x : Int32).toNatClampNeg : Int32).toNatClampNeg) (u.2.1 1233 (u.2.1 1248 (y : Int32).toNatClampNeg : Int32).toNatClampNeg) (u.2.1 1234 (u.2.1 1248 (y : Int32).toNatClampNeg : Int32).toNatClampNeg)) : vp_in (y) 120 := by
  have hz1247 := hI.1.s1247
  refine g_in ?_ ?_ <;> ((try simp only [g_m1, Int32.lt_iff_toInt_lt, Int32.le_iff_toInt_le, ← Int32.toInt_inj, Int32.toInt_add, Int32.toInt_sub, Int32.toInt_mul, Int32.toInt_neg, Int32.reduceToInt, g_bm, g_bm'] at *); omega)
set_option maxRecDepth 100000 in
theorem g_X12_areBoth_f_v52 (u : qS) (x : Int32) (y : Int32) (k : qS) (r_24 : Int32) (hI : IM u) (hk : IK k u) (hx : 0 ≤ x ∧ x < u.1 1247) (hy : 0 ≤ y ∧ y < u.1 1247) (hys : u.1 1247 ≤ 120) (c12_1 : ¬ (u.2.1 1251 (x : Int32).toNatClampNeg : Int32) < (u.2.1 1251 (y : Int32).toNatClampNeg)) (c27_17 : ¬ (u.2.1 1251 (x : Int32).toNatClampNeg : Int32) = (u.2.1 1251 (y : Int32).toNatClampNeg)) (c43_18 : ¬ (y : Int32) = x) (hb_19 : 0 ≤ (u.2.1 1248 (x : Int32).toNatClampNeg) ∧ (u.2.1 1248 (x : Int32).toNatClampNeg) < u.1 1232) (hs_20 : 0 ≤ u.1 1232 ∧ u.1 1232 ≤ 20) (hb_21 : 0 ≤ (u.2.1 1248 (y : Int32).toNatClampNeg) ∧ (u.2.1 1248 (y : Int32).toNatClampNeg) < u.1 1232) (hw_23 : r_24 = f_wb (u.2.1 1233 (u.2.1 1248 (x : Int32).toNatClampNeg : Int32).toNatClampNeg) (u.2.1 1234 (u.2.1 1248 (x : Int32).toNatClampNeg : Int32).toNatClampNeg) (u.2.1 1233 (u.2.1 1248 (y : Int32).toNatClampNeg : Int32).toNatClampNeg) (u.2.1 1234 (u.2.1 1248 (y : Int32).toNatClampNeg : Int32).toNatClampNeg)) : vp_in (y) 120 := by
  have hz1247 := hI.1.s1247
  refine g_in ?_ ?_ <;> ((try simp only [g_m1, Int32.lt_iff_toInt_lt, Int32.le_iff_toInt_le, ← Int32.toInt_inj, Int32.toInt_add, Int32.toInt_sub, Int32.toInt_mul, Int32.toInt_neg, Int32.reduceToInt, g_bm, g_bm'] at *); omega)
set_option maxRecDepth 100000 in
theorem g_X12_areBoth_f_v53 (u : qS) (x : Int32) (y : Int32) (k : qS) (r_24 : Int32) (hI : IM u) (hk : IK k u) (hx : 0 ≤ x ∧ x < u.1 1247) (hy : 0 ≤ y ∧ y < u.1 1247) (hys : u.1 1247 ≤ 120) (c12_1 : ¬ (u.2.1 1251 (x : Int32).toNatClampNeg : Int32) < (u.2.1 1251 (y : Int32).toNatClampNeg)) (c27_17 : ¬ (u.2.1 1251 (x : Int32).toNatClampNeg : Int32) = (u.2.1 1251 (y : Int32).toNatClampNeg)) (c43_18 : ¬ (y : Int32) = x) (hb_19 : 0 ≤ (u.2.1 1248 (x : Int32).toNatClampNeg) ∧ (u.2.1 1248 (x : Int32).toNatClampNeg) < u.1 1232) (hs_20 : 0 ≤ u.1 1232 ∧ u.1 1232 ≤ 20) (hb_21 : 0 ≤ (u.2.1 1248 (y : Int32).toNatClampNeg) ∧ (u.2.1 1248 (y : Int32).toNatClampNeg) < u.1 1232) (hw_23 : r_24 = f_wb (u.2.1 1233 (u.2.1 1248 (x : Int32).toNatClampNeg : Int32).toNatClampNeg) (u.2.1 1234 (u.2.1 1248 (x : Int32).toNatClampNeg : Int32).toNatClampNeg) (u.2.1 1233 (u.2.1 1248 (y : Int32).toNatClampNeg : Int32).toNatClampNeg) (u.2.1 1234 (u.2.1 1248 (y : Int32).toNatClampNeg : Int32).toNatClampNeg)) (c130_25 : (u.2.1 1251 (x : Int32).toNatClampNeg : Int32) < (((u.2.1 1251 (y : Int32).toNatClampNeg) + (u.2.1 1252 (y : Int32).toNatClampNeg)) + ((u.1 1242) * r_24))) : (0 = (1 : Int32) ∧ (f_bo k x y)) ∨ (0 = (0 : Int32) ∧ ¬ (f_bo k x y)) := by
  have hz1247 := hI.1.s1247
  have k1242 := hk.i 1242 (by decide)
  have k1233 := hk.r 1233 (by decide)
  have k1234 := hk.r 1234 (by decide)
  have k1248 := hk.r 1248 (by decide)
  have k1251 := hk.r 1251 (by decide)
  have k1252 := hk.r 1252 (by decide)
  unfold f_bo f_sc f_fs; rw [← k1233, ← k1234, ← k1242, ← k1248, ← k1251, ← k1252]; clear hk; subst_vars
  first | (refine Or.inl ⟨rfl, ?_⟩; (repeat' split) <;> first | contradiction | ((try simp only [g_m1, Int32.lt_iff_toInt_lt, Int32.le_iff_toInt_le, ← Int32.toInt_inj, Int32.reduceToInt] at *); omega)) | (refine Or.inr ⟨rfl, ?_⟩; (repeat' split) <;> first | contradiction | ((try simp only [g_m1, Int32.lt_iff_toInt_lt, Int32.le_iff_toInt_le, ← Int32.toInt_inj, Int32.reduceToInt] at *); omega))
set_option maxRecDepth 100000 in
theorem g_X12_areBoth_f_v54 (u : qS) (x : Int32) (y : Int32) (k : qS) (r_24 : Int32) (hI : IM u) (hk : IK k u) (hx : 0 ≤ x ∧ x < u.1 1247) (hy : 0 ≤ y ∧ y < u.1 1247) (hys : u.1 1247 ≤ 120) (c12_1 : ¬ (u.2.1 1251 (x : Int32).toNatClampNeg : Int32) < (u.2.1 1251 (y : Int32).toNatClampNeg)) (c27_17 : ¬ (u.2.1 1251 (x : Int32).toNatClampNeg : Int32) = (u.2.1 1251 (y : Int32).toNatClampNeg)) (c43_18 : ¬ (y : Int32) = x) (hb_19 : 0 ≤ (u.2.1 1248 (x : Int32).toNatClampNeg) ∧ (u.2.1 1248 (x : Int32).toNatClampNeg) < u.1 1232) (hs_20 : 0 ≤ u.1 1232 ∧ u.1 1232 ≤ 20) (hb_21 : 0 ≤ (u.2.1 1248 (y : Int32).toNatClampNeg) ∧ (u.2.1 1248 (y : Int32).toNatClampNeg) < u.1 1232) (hw_23 : r_24 = f_wb (u.2.1 1233 (u.2.1 1248 (x : Int32).toNatClampNeg : Int32).toNatClampNeg) (u.2.1 1234 (u.2.1 1248 (x : Int32).toNatClampNeg : Int32).toNatClampNeg) (u.2.1 1233 (u.2.1 1248 (y : Int32).toNatClampNeg : Int32).toNatClampNeg) (u.2.1 1234 (u.2.1 1248 (y : Int32).toNatClampNeg : Int32).toNatClampNeg)) (c130_25 : ¬ (u.2.1 1251 (x : Int32).toNatClampNeg : Int32) < (((u.2.1 1251 (y : Int32).toNatClampNeg) + (u.2.1 1252 (y : Int32).toNatClampNeg)) + ((u.1 1242) * r_24))) : (1 = (1 : Int32) ∧ (f_bo k x y)) ∨ (1 = (0 : Int32) ∧ ¬ (f_bo k x y)) := by
  have hz1247 := hI.1.s1247
  have k1242 := hk.i 1242 (by decide)
  have k1233 := hk.r 1233 (by decide)
  have k1234 := hk.r 1234 (by decide)
  have k1248 := hk.r 1248 (by decide)
  have k1251 := hk.r 1251 (by decide)
  have k1252 := hk.r 1252 (by decide)
  unfold f_bo f_sc f_fs; rw [← k1233, ← k1234, ← k1242, ← k1248, ← k1251, ← k1252]; clear hk; subst_vars
  first | (refine Or.inl ⟨rfl, ?_⟩; (repeat' split) <;> first | contradiction | ((try simp only [g_m1, Int32.lt_iff_toInt_lt, Int32.le_iff_toInt_le, ← Int32.toInt_inj, Int32.reduceToInt] at *); omega)) | (refine Or.inr ⟨rfl, ?_⟩; (repeat' split) <;> first | contradiction | ((try simp only [g_m1, Int32.lt_iff_toInt_lt, Int32.le_iff_toInt_le, ← Int32.toInt_inj, Int32.reduceToInt] at *); omega))
set_option maxRecDepth 100000 in
theorem g_X12_areBoth_f_v55 (u : qS) (x : Int32) (y : Int32) (k : qS) (hI : IM u) (hk : IK k u) (hx : 0 ≤ x ∧ x < u.1 1247) (hy : 0 ≤ y ∧ y < u.1 1247) (hys : u.1 1247 ≤ 120) (c12_1 : ¬ (u.2.1 1251 (x : Int32).toNatClampNeg : Int32) < (u.2.1 1251 (y : Int32).toNatClampNeg)) (c27_17 : ¬ (u.2.1 1251 (x : Int32).toNatClampNeg : Int32) = (u.2.1 1251 (y : Int32).toNatClampNeg)) (c43_18 : (y : Int32) = x) : vp_in (x) 120 := by
  have hz1247 := hI.1.s1247
  refine g_in ?_ ?_ <;> ((try simp only [g_m1, Int32.lt_iff_toInt_lt, Int32.le_iff_toInt_le, ← Int32.toInt_inj, Int32.toInt_add, Int32.toInt_sub, Int32.toInt_mul, Int32.toInt_neg, Int32.reduceToInt, g_bm, g_bm'] at *); omega)
set_option maxRecDepth 100000 in
theorem g_X12_areBoth_f_v56 (u : qS) (x : Int32) (y : Int32) (k : qS) (hI : IM u) (hk : IK k u) (hx : 0 ≤ x ∧ x < u.1 1247) (hy : 0 ≤ y ∧ y < u.1 1247) (hys : u.1 1247 ≤ 120) (c12_1 : ¬ (u.2.1 1251 (x : Int32).toNatClampNeg : Int32) < (u.2.1 1251 (y : Int32).toNatClampNeg)) (c27_17 : ¬ (u.2.1 1251 (x : Int32).toNatClampNeg : Int32) = (u.2.1 1251 (y : Int32).toNatClampNeg)) (c43_18 : (y : Int32) = x) : 0 ≤ x ∧ x < u.1 1247 := by
  have hz1247 := hI.1.s1247
  first | omega | ((try simp only [g_m1, Int32.lt_iff_toInt_lt, Int32.le_iff_toInt_le, ← Int32.toInt_inj, Int32.reduceToInt] at *); omega) | ((try simp only [g_m1, Int32.lt_iff_toInt_lt, Int32.le_iff_toInt_le, ← Int32.toInt_inj, Int32.reduceToInt] at *); omega) | ((try simp only [g_m1, Int32.lt_iff_toInt_lt, Int32.le_iff_toInt_le, ← Int32.toInt_inj, Int32.toInt_add, Int32.toInt_sub, Int32.toInt_mul, Int32.toInt_neg, Int32.reduceToInt, g_bm, g_bm'] at *); omega) | (have qr1 := g_rng x; have qr2 := g_rng y; (try simp only [g_m1, Int32.lt_iff_toInt_lt, Int32.le_iff_toInt_le, ← Int32.toInt_inj, Int32.toInt_add, Int32.toInt_sub, Int32.toInt_mul, Int32.toInt_neg, Int32.reduceToInt, g_bm, g_bm'] at *); omega) | (simp only [g_m1, Int32.lt_iff_toInt_lt, Int32.le_iff_toInt_le, ← Int32.toInt_inj, Int32.toInt_add, Int32.toInt_sub, Int32.toInt_mul, Int32.toInt_neg, Int32.reduceToInt, g_bm, g_bm'] at *; simp at *; omega) | (simp_all; done)
set_option maxRecDepth 100000 in
theorem g_X12_areBoth_f_v57 (u : qS) (x : Int32) (y : Int32) (k : qS) (hI : IM u) (hk : IK k u) (hx : 0 ≤ x ∧ x < u.1 1247) (hy : 0 ≤ y ∧ y < u.1 1247) (hys : u.1 1247 ≤ 120) (c12_1 : ¬ (u.2.1 1251 (x : Int32).toNatClampNeg : Int32) < (u.2.1 1251 (y : Int32).toNatClampNeg)) (c27_17 : ¬ (u.2.1 1251 (x : Int32).toNatClampNeg : Int32) = (u.2.1 1251 (y : Int32).toNatClampNeg)) (c43_18 : (y : Int32) = x) (hb_26 : 0 ≤ (u.2.1 1248 (x : Int32).toNatClampNeg) ∧ (u.2.1 1248 (x : Int32).toNatClampNeg) < u.1 1232) (hs_27 : 0 ≤ u.1 1232 ∧ u.1 1232 ≤ 20) : vp_in (u.2.1 1248 (x : Int32).toNatClampNeg) 20 := by
  have hz1247 := hI.1.s1247
  refine g_in ?_ ?_ <;> ((try simp only [g_m1, Int32.lt_iff_toInt_lt, Int32.le_iff_toInt_le, ← Int32.toInt_inj, Int32.toInt_add, Int32.toInt_sub, Int32.toInt_mul, Int32.toInt_neg, Int32.reduceToInt, g_bm, g_bm'] at *); omega)
set_option maxRecDepth 100000 in
theorem g_X12_areBoth_f_v58 (u : qS) (x : Int32) (y : Int32) (k : qS) (hI : IM u) (hk : IK k u) (hx : 0 ≤ x ∧ x < u.1 1247) (hy : 0 ≤ y ∧ y < u.1 1247) (hys : u.1 1247 ≤ 120) (c12_1 : ¬ (u.2.1 1251 (x : Int32).toNatClampNeg : Int32) < (u.2.1 1251 (y : Int32).toNatClampNeg)) (c27_17 : ¬ (u.2.1 1251 (x : Int32).toNatClampNeg : Int32) = (u.2.1 1251 (y : Int32).toNatClampNeg)) (c43_18 : (y : Int32) = x) (hb_26 : 0 ≤ (u.2.1 1248 (x : Int32).toNatClampNeg) ∧ (u.2.1 1248 (x : Int32).toNatClampNeg) < u.1 1232) (hs_27 : 0 ≤ u.1 1232 ∧ u.1 1232 ≤ 20) : vp_in (x) 120 := by
  have hz1247 := hI.1.s1247
  refine g_in ?_ ?_ <;> ((try simp only [g_m1, Int32.lt_iff_toInt_lt, Int32.le_iff_toInt_le, ← Int32.toInt_inj, Int32.toInt_add, Int32.toInt_sub, Int32.toInt_mul, Int32.toInt_neg, Int32.reduceToInt, g_bm, g_bm'] at *); omega)
set_option maxRecDepth 100000 in
theorem g_X12_areBoth_f_v59 (u : qS) (x : Int32) (y : Int32) (k : qS) (hI : IM u) (hk : IK k u) (hx : 0 ≤ x ∧ x < u.1 1247) (hy : 0 ≤ y ∧ y < u.1 1247) (hys : u.1 1247 ≤ 120) (c12_1 : ¬ (u.2.1 1251 (x : Int32).toNatClampNeg : Int32) < (u.2.1 1251 (y : Int32).toNatClampNeg)) (c27_17 : ¬ (u.2.1 1251 (x : Int32).toNatClampNeg : Int32) = (u.2.1 1251 (y : Int32).toNatClampNeg)) (c43_18 : (y : Int32) = x) (hb_26 : 0 ≤ (u.2.1 1248 (x : Int32).toNatClampNeg) ∧ (u.2.1 1248 (x : Int32).toNatClampNeg) < u.1 1232) (hs_27 : 0 ≤ u.1 1232 ∧ u.1 1232 ≤ 20) : 0 ≤ x ∧ x < u.1 1247 := by
  have hz1247 := hI.1.s1247
  first | omega | ((try simp only [g_m1, Int32.lt_iff_toInt_lt, Int32.le_iff_toInt_le, ← Int32.toInt_inj, Int32.reduceToInt] at *); omega) | ((try simp only [g_m1, Int32.lt_iff_toInt_lt, Int32.le_iff_toInt_le, ← Int32.toInt_inj, Int32.reduceToInt] at *); omega) | ((try simp only [g_m1, Int32.lt_iff_toInt_lt, Int32.le_iff_toInt_le, ← Int32.toInt_inj, Int32.toInt_add, Int32.toInt_sub, Int32.toInt_mul, Int32.toInt_neg, Int32.reduceToInt, g_bm, g_bm'] at *); omega) | (have qr1 := g_rng x; have qr2 := g_rng y; (try simp only [g_m1, Int32.lt_iff_toInt_lt, Int32.le_iff_toInt_le, ← Int32.toInt_inj, Int32.toInt_add, Int32.toInt_sub, Int32.toInt_mul, Int32.toInt_neg, Int32.reduceToInt, g_bm, g_bm'] at *); omega) | (simp only [g_m1, Int32.lt_iff_toInt_lt, Int32.le_iff_toInt_le, ← Int32.toInt_inj, Int32.toInt_add, Int32.toInt_sub, Int32.toInt_mul, Int32.toInt_neg, Int32.reduceToInt, g_bm, g_bm'] at *; simp at *; omega) | (simp_all; done)
set_option maxRecDepth 100000 in
theorem g_X12_areBoth_f_v60 (u : qS) (x : Int32) (y : Int32) (k : qS) (hI : IM u) (hk : IK k u) (hx : 0 ≤ x ∧ x < u.1 1247) (hy : 0 ≤ y ∧ y < u.1 1247) (hys : u.1 1247 ≤ 120) (c12_1 : ¬ (u.2.1 1251 (x : Int32).toNatClampNeg : Int32) < (u.2.1 1251 (y : Int32).toNatClampNeg)) (c27_17 : ¬ (u.2.1 1251 (x : Int32).toNatClampNeg : Int32) = (u.2.1 1251 (y : Int32).toNatClampNeg)) (c43_18 : (y : Int32) = x) (hb_26 : 0 ≤ (u.2.1 1248 (x : Int32).toNatClampNeg) ∧ (u.2.1 1248 (x : Int32).toNatClampNeg) < u.1 1232) (hs_27 : 0 ≤ u.1 1232 ∧ u.1 1232 ≤ 20) : vp_in (u.2.1 1248 (x : Int32).toNatClampNeg) 20 := by
  have hz1247 := hI.1.s1247
  refine g_in ?_ ?_ <;> ((try simp only [g_m1, Int32.lt_iff_toInt_lt, Int32.le_iff_toInt_le, ← Int32.toInt_inj, Int32.toInt_add, Int32.toInt_sub, Int32.toInt_mul, Int32.toInt_neg, Int32.reduceToInt, g_bm, g_bm'] at *); omega)
set_option maxRecDepth 100000 in
theorem g_X12_areBoth_f_v61 (u : qS) (x : Int32) (y : Int32) (k : qS) (hI : IM u) (hk : IK k u) (hx : 0 ≤ x ∧ x < u.1 1247) (hy : 0 ≤ y ∧ y < u.1 1247) (hys : u.1 1247 ≤ 120) (c12_1 : ¬ (u.2.1 1251 (x : Int32).toNatClampNeg : Int32) < (u.2.1 1251 (y : Int32).toNatClampNeg)) (c27_17 : ¬ (u.2.1 1251 (x : Int32).toNatClampNeg : Int32) = (u.2.1 1251 (y : Int32).toNatClampNeg)) (c43_18 : (y : Int32) = x) (hb_26 : 0 ≤ (u.2.1 1248 (x : Int32).toNatClampNeg) ∧ (u.2.1 1248 (x : Int32).toNatClampNeg) < u.1 1232) (hs_27 : 0 ≤ u.1 1232 ∧ u.1 1232 ≤ 20) : vp_in (y) 120 := by
  have hz1247 := hI.1.s1247
  refine g_in ?_ ?_ <;> ((try simp only [g_m1, Int32.lt_iff_toInt_lt, Int32.le_iff_toInt_le, ← Int32.toInt_inj, Int32.toInt_add, Int32.toInt_sub, Int32.toInt_mul, Int32.toInt_neg, Int32.reduceToInt, g_bm, g_bm'] at *); omega)
set_option maxRecDepth 100000 in
theorem g_X12_areBoth_f_v62 (u : qS) (x : Int32) (y : Int32) (k : qS) (hI : IM u) (hk : IK k u) (hx : 0 ≤ x ∧ x < u.1 1247) (hy : 0 ≤ y ∧ y < u.1 1247) (hys : u.1 1247 ≤ 120) (c12_1 : ¬ (u.2.1 1251 (x : Int32).toNatClampNeg : Int32) < (u.2.1 1251 (y : Int32).toNatClampNeg)) (c27_17 : ¬ (u.2.1 1251 (x : Int32).toNatClampNeg : Int32) = (u.2.1 1251 (y : Int32).toNatClampNeg)) (c43_18 : (y : Int32) = x) (hb_26 : 0 ≤ (u.2.1 1248 (x : Int32).toNatClampNeg) ∧ (u.2.1 1248 (x : Int32).toNatClampNeg) < u.1 1232) (hs_27 : 0 ≤ u.1 1232 ∧ u.1 1232 ≤ 20) : 0 ≤ y ∧ y < u.1 1247 := by
  have hz1247 := hI.1.s1247
  first | omega | ((try simp only [g_m1, Int32.lt_iff_toInt_lt, Int32.le_iff_toInt_le, ← Int32.toInt_inj, Int32.reduceToInt] at *); omega) | ((try simp only [g_m1, Int32.lt_iff_toInt_lt, Int32.le_iff_toInt_le, ← Int32.toInt_inj, Int32.reduceToInt] at *); omega) | ((try simp only [g_m1, Int32.lt_iff_toInt_lt, Int32.le_iff_toInt_le, ← Int32.toInt_inj, Int32.toInt_add, Int32.toInt_sub, Int32.toInt_mul, Int32.toInt_neg, Int32.reduceToInt, g_bm, g_bm'] at *); omega) | (have qr1 := g_rng x; have qr2 := g_rng y; (try simp only [g_m1, Int32.lt_iff_toInt_lt, Int32.le_iff_toInt_le, ← Int32.toInt_inj, Int32.toInt_add, Int32.toInt_sub, Int32.toInt_mul, Int32.toInt_neg, Int32.reduceToInt, g_bm, g_bm'] at *); omega) | (simp only [g_m1, Int32.lt_iff_toInt_lt, Int32.le_iff_toInt_le, ← Int32.toInt_inj, Int32.toInt_add, Int32.toInt_sub, Int32.toInt_mul, Int32.toInt_neg, Int32.reduceToInt, g_bm, g_bm'] at *; simp at *; omega) | (simp_all; done)
set_option maxRecDepth 100000 in
theorem g_X12_areBoth_f_v63 (u : qS) (x : Int32) (y : Int32) (k : qS) (hI : IM u) (hk : IK k u) (hx : 0 ≤ x ∧ x < u.1 1247) (hy : 0 ≤ y ∧ y < u.1 1247) (hys : u.1 1247 ≤ 120) (c12_1 : ¬ (u.2.1 1251 (x : Int32).toNatClampNeg : Int32) < (u.2.1 1251 (y : Int32).toNatClampNeg)) (c27_17 : ¬ (u.2.1 1251 (x : Int32).toNatClampNeg : Int32) = (u.2.1 1251 (y : Int32).toNatClampNeg)) (c43_18 : (y : Int32) = x) (hb_26 : 0 ≤ (u.2.1 1248 (x : Int32).toNatClampNeg) ∧ (u.2.1 1248 (x : Int32).toNatClampNeg) < u.1 1232) (hs_27 : 0 ≤ u.1 1232 ∧ u.1 1232 ≤ 20) (hb_28 : 0 ≤ (u.2.1 1248 (y : Int32).toNatClampNeg) ∧ (u.2.1 1248 (y : Int32).toNatClampNeg) < u.1 1232) : vp_in (u.2.1 1248 (y : Int32).toNatClampNeg) 20 := by
  have hz1247 := hI.1.s1247
  refine g_in ?_ ?_ <;> ((try simp only [g_m1, Int32.lt_iff_toInt_lt, Int32.le_iff_toInt_le, ← Int32.toInt_inj, Int32.toInt_add, Int32.toInt_sub, Int32.toInt_mul, Int32.toInt_neg, Int32.reduceToInt, g_bm, g_bm'] at *); omega)
set_option maxRecDepth 100000 in
theorem g_X12_areBoth_f_v64 (u : qS) (x : Int32) (y : Int32) (k : qS) (hI : IM u) (hk : IK k u) (hx : 0 ≤ x ∧ x < u.1 1247) (hy : 0 ≤ y ∧ y < u.1 1247) (hys : u.1 1247 ≤ 120) (c12_1 : ¬ (u.2.1 1251 (x : Int32).toNatClampNeg : Int32) < (u.2.1 1251 (y : Int32).toNatClampNeg)) (c27_17 : ¬ (u.2.1 1251 (x : Int32).toNatClampNeg : Int32) = (u.2.1 1251 (y : Int32).toNatClampNeg)) (c43_18 : (y : Int32) = x) (hb_26 : 0 ≤ (u.2.1 1248 (x : Int32).toNatClampNeg) ∧ (u.2.1 1248 (x : Int32).toNatClampNeg) < u.1 1232) (hs_27 : 0 ≤ u.1 1232 ∧ u.1 1232 ≤ 20) (hb_28 : 0 ≤ (u.2.1 1248 (y : Int32).toNatClampNeg) ∧ (u.2.1 1248 (y : Int32).toNatClampNeg) < u.1 1232) : vp_in (y) 120 := by
  have hz1247 := hI.1.s1247
  refine g_in ?_ ?_ <;> ((try simp only [g_m1, Int32.lt_iff_toInt_lt, Int32.le_iff_toInt_le, ← Int32.toInt_inj, Int32.toInt_add, Int32.toInt_sub, Int32.toInt_mul, Int32.toInt_neg, Int32.reduceToInt, g_bm, g_bm'] at *); omega)
set_option maxRecDepth 100000 in
theorem g_X12_areBoth_f_v65 (u : qS) (x : Int32) (y : Int32) (k : qS) (hI : IM u) (hk : IK k u) (hx : 0 ≤ x ∧ x < u.1 1247) (hy : 0 ≤ y ∧ y < u.1 1247) (hys : u.1 1247 ≤ 120) (c12_1 : ¬ (u.2.1 1251 (x : Int32).toNatClampNeg : Int32) < (u.2.1 1251 (y : Int32).toNatClampNeg)) (c27_17 : ¬ (u.2.1 1251 (x : Int32).toNatClampNeg : Int32) = (u.2.1 1251 (y : Int32).toNatClampNeg)) (c43_18 : (y : Int32) = x) (hb_26 : 0 ≤ (u.2.1 1248 (x : Int32).toNatClampNeg) ∧ (u.2.1 1248 (x : Int32).toNatClampNeg) < u.1 1232) (hs_27 : 0 ≤ u.1 1232 ∧ u.1 1232 ≤ 20) (hb_28 : 0 ≤ (u.2.1 1248 (y : Int32).toNatClampNeg) ∧ (u.2.1 1248 (y : Int32).toNatClampNeg) < u.1 1232) : 0 ≤ y ∧ y < u.1 1247 := by
  have hz1247 := hI.1.s1247
  first | omega | ((try simp only [g_m1, Int32.lt_iff_toInt_lt, Int32.le_iff_toInt_le, ← Int32.toInt_inj, Int32.reduceToInt] at *); omega) | ((try simp only [g_m1, Int32.lt_iff_toInt_lt, Int32.le_iff_toInt_le, ← Int32.toInt_inj, Int32.reduceToInt] at *); omega) | ((try simp only [g_m1, Int32.lt_iff_toInt_lt, Int32.le_iff_toInt_le, ← Int32.toInt_inj, Int32.toInt_add, Int32.toInt_sub, Int32.toInt_mul, Int32.toInt_neg, Int32.reduceToInt, g_bm, g_bm'] at *); omega) | (have qr1 := g_rng x; have qr2 := g_rng y; (try simp only [g_m1, Int32.lt_iff_toInt_lt, Int32.le_iff_toInt_le, ← Int32.toInt_inj, Int32.toInt_add, Int32.toInt_sub, Int32.toInt_mul, Int32.toInt_neg, Int32.reduceToInt, g_bm, g_bm'] at *); omega) | (simp only [g_m1, Int32.lt_iff_toInt_lt, Int32.le_iff_toInt_le, ← Int32.toInt_inj, Int32.toInt_add, Int32.toInt_sub, Int32.toInt_mul, Int32.toInt_neg, Int32.reduceToInt, g_bm, g_bm'] at *; simp at *; omega) | (simp_all; done)
set_option maxRecDepth 100000 in
theorem g_X12_areBoth_f_v66 (u : qS) (x : Int32) (y : Int32) (k : qS) (hI : IM u) (hk : IK k u) (hx : 0 ≤ x ∧ x < u.1 1247) (hy : 0 ≤ y ∧ y < u.1 1247) (hys : u.1 1247 ≤ 120) (c12_1 : ¬ (u.2.1 1251 (x : Int32).toNatClampNeg : Int32) < (u.2.1 1251 (y : Int32).toNatClampNeg)) (c27_17 : ¬ (u.2.1 1251 (x : Int32).toNatClampNeg : Int32) = (u.2.1 1251 (y : Int32).toNatClampNeg)) (c43_18 : (y : Int32) = x) (hb_26 : 0 ≤ (u.2.1 1248 (x : Int32).toNatClampNeg) ∧ (u.2.1 1248 (x : Int32).toNatClampNeg) < u.1 1232) (hs_27 : 0 ≤ u.1 1232 ∧ u.1 1232 ≤ 20) (hb_28 : 0 ≤ (u.2.1 1248 (y : Int32).toNatClampNeg) ∧ (u.2.1 1248 (y : Int32).toNatClampNeg) < u.1 1232) : vp_in (u.2.1 1248 (y : Int32).toNatClampNeg) 20 := by
  have hz1247 := hI.1.s1247
  refine g_in ?_ ?_ <;> ((try simp only [g_m1, Int32.lt_iff_toInt_lt, Int32.le_iff_toInt_le, ← Int32.toInt_inj, Int32.toInt_add, Int32.toInt_sub, Int32.toInt_mul, Int32.toInt_neg, Int32.reduceToInt, g_bm, g_bm'] at *); omega)
set_option maxRecDepth 100000 in
theorem g_X12_areBoth_f_v67 (u : qS) (x : Int32) (y : Int32) (k : qS) (r_31 : Int32) (hI : IM u) (hk : IK k u) (hx : 0 ≤ x ∧ x < u.1 1247) (hy : 0 ≤ y ∧ y < u.1 1247) (hys : u.1 1247 ≤ 120) (c12_1 : ¬ (u.2.1 1251 (x : Int32).toNatClampNeg : Int32) < (u.2.1 1251 (y : Int32).toNatClampNeg)) (c27_17 : ¬ (u.2.1 1251 (x : Int32).toNatClampNeg : Int32) = (u.2.1 1251 (y : Int32).toNatClampNeg)) (c43_18 : (y : Int32) = x) (hb_26 : 0 ≤ (u.2.1 1248 (x : Int32).toNatClampNeg) ∧ (u.2.1 1248 (x : Int32).toNatClampNeg) < u.1 1232) (hs_27 : 0 ≤ u.1 1232 ∧ u.1 1232 ≤ 20) (hb_28 : 0 ≤ (u.2.1 1248 (y : Int32).toNatClampNeg) ∧ (u.2.1 1248 (y : Int32).toNatClampNeg) < u.1 1232) (hw_30 : r_31 = f_wb (u.2.1 1233 (u.2.1 1248 (x : Int32).toNatClampNeg : Int32).toNatClampNeg) (u.2.1 1234 (u.2.1 1248 (x : Int32).toNatClampNeg : Int32).toNatClampNeg) (u.2.1 1233 (u.2.1 1248 (y : Int32).toNatClampNeg : Int32).toNatClampNeg) (u.2.1 1234 (u.2.1 1248 (y : Int32).toNatClampNeg : Int32).toNatClampNeg)) : vp_in (y) 120 := by
  have hz1247 := hI.1.s1247
  refine g_in ?_ ?_ <;> ((try simp only [g_m1, Int32.lt_iff_toInt_lt, Int32.le_iff_toInt_le, ← Int32.toInt_inj, Int32.toInt_add, Int32.toInt_sub, Int32.toInt_mul, Int32.toInt_neg, Int32.reduceToInt, g_bm, g_bm'] at *); omega)
set_option maxRecDepth 100000 in
theorem g_X12_areBoth_f_v68 (u : qS) (x : Int32) (y : Int32) (k : qS) (r_31 : Int32) (hI : IM u) (hk : IK k u) (hx : 0 ≤ x ∧ x < u.1 1247) (hy : 0 ≤ y ∧ y < u.1 1247) (hys : u.1 1247 ≤ 120) (c12_1 : ¬ (u.2.1 1251 (x : Int32).toNatClampNeg : Int32) < (u.2.1 1251 (y : Int32).toNatClampNeg)) (c27_17 : ¬ (u.2.1 1251 (x : Int32).toNatClampNeg : Int32) = (u.2.1 1251 (y : Int32).toNatClampNeg)) (c43_18 : (y : Int32) = x) (hb_26 : 0 ≤ (u.2.1 1248 (x : Int32).toNatClampNeg) ∧ (u.2.1 1248 (x : Int32).toNatClampNeg) < u.1 1232) (hs_27 : 0 ≤ u.1 1232 ∧ u.1 1232 ≤ 20) (hb_28 : 0 ≤ (u.2.1 1248 (y : Int32).toNatClampNeg) ∧ (u.2.1 1248 (y : Int32).toNatClampNeg) < u.1 1232) (hw_30 : r_31 = f_wb (u.2.1 1233 (u.2.1 1248 (x : Int32).toNatClampNeg : Int32).toNatClampNeg) (u.2.1 1234 (u.2.1 1248 (x : Int32).toNatClampNeg : Int32).toNatClampNeg) (u.2.1 1233 (u.2.1 1248 (y : Int32).toNatClampNeg : Int32).toNatClampNeg) (u.2.1 1234 (u.2.1 1248 (y : Int32).toNatClampNeg : Int32).toNatClampNeg)) : vp_in (y) 120 := by
  have hz1247 := hI.1.s1247
  refine g_in ?_ ?_ <;> ((try simp only [g_m1, Int32.lt_iff_toInt_lt, Int32.le_iff_toInt_le, ← Int32.toInt_inj, Int32.toInt_add, Int32.toInt_sub, Int32.toInt_mul, Int32.toInt_neg, Int32.reduceToInt, g_bm, g_bm'] at *); omega)
set_option maxRecDepth 100000 in
theorem g_X12_areBoth_f_v69 (u : qS) (x : Int32) (y : Int32) (k : qS) (r_31 : Int32) (hI : IM u) (hk : IK k u) (hx : 0 ≤ x ∧ x < u.1 1247) (hy : 0 ≤ y ∧ y < u.1 1247) (hys : u.1 1247 ≤ 120) (c12_1 : ¬ (u.2.1 1251 (x : Int32).toNatClampNeg : Int32) < (u.2.1 1251 (y : Int32).toNatClampNeg)) (c27_17 : ¬ (u.2.1 1251 (x : Int32).toNatClampNeg : Int32) = (u.2.1 1251 (y : Int32).toNatClampNeg)) (c43_18 : (y : Int32) = x) (hb_26 : 0 ≤ (u.2.1 1248 (x : Int32).toNatClampNeg) ∧ (u.2.1 1248 (x : Int32).toNatClampNeg) < u.1 1232) (hs_27 : 0 ≤ u.1 1232 ∧ u.1 1232 ≤ 20) (hb_28 : 0 ≤ (u.2.1 1248 (y : Int32).toNatClampNeg) ∧ (u.2.1 1248 (y : Int32).toNatClampNeg) < u.1 1232) (hw_30 : r_31 = f_wb (u.2.1 1233 (u.2.1 1248 (x : Int32).toNatClampNeg : Int32).toNatClampNeg) (u.2.1 1234 (u.2.1 1248 (x : Int32).toNatClampNeg : Int32).toNatClampNeg) (u.2.1 1233 (u.2.1 1248 (y : Int32).toNatClampNeg : Int32).toNatClampNeg) (u.2.1 1234 (u.2.1 1248 (y : Int32).toNatClampNeg : Int32).toNatClampNeg)) : vp_in (y) 120 := by
  have hz1247 := hI.1.s1247
  refine g_in ?_ ?_ <;> ((try simp only [g_m1, Int32.lt_iff_toInt_lt, Int32.le_iff_toInt_le, ← Int32.toInt_inj, Int32.toInt_add, Int32.toInt_sub, Int32.toInt_mul, Int32.toInt_neg, Int32.reduceToInt, g_bm, g_bm'] at *); omega)
set_option maxRecDepth 100000 in
theorem g_X12_areBoth_f_v70 (u : qS) (x : Int32) (y : Int32) (k : qS) (r_31 : Int32) (hI : IM u) (hk : IK k u) (hx : 0 ≤ x ∧ x < u.1 1247) (hy : 0 ≤ y ∧ y < u.1 1247) (hys : u.1 1247 ≤ 120) (c12_1 : ¬ (u.2.1 1251 (x : Int32).toNatClampNeg : Int32) < (u.2.1 1251 (y : Int32).toNatClampNeg)) (c27_17 : ¬ (u.2.1 1251 (x : Int32).toNatClampNeg : Int32) = (u.2.1 1251 (y : Int32).toNatClampNeg)) (c43_18 : (y : Int32) = x) (hb_26 : 0 ≤ (u.2.1 1248 (x : Int32).toNatClampNeg) ∧ (u.2.1 1248 (x : Int32).toNatClampNeg) < u.1 1232) (hs_27 : 0 ≤ u.1 1232 ∧ u.1 1232 ≤ 20) (hb_28 : 0 ≤ (u.2.1 1248 (y : Int32).toNatClampNeg) ∧ (u.2.1 1248 (y : Int32).toNatClampNeg) < u.1 1232) (hw_30 : r_31 = f_wb (u.2.1 1233 (u.2.1 1248 (x : Int32).toNatClampNeg : Int32).toNatClampNeg) (u.2.1 1234 (u.2.1 1248 (x : Int32).toNatClampNeg : Int32).toNatClampNeg) (u.2.1 1233 (u.2.1 1248 (y : Int32).toNatClampNeg : Int32).toNatClampNeg) (u.2.1 1234 (u.2.1 1248 (y : Int32).toNatClampNeg : Int32).toNatClampNeg)) (c130_32 : (u.2.1 1251 (y : Int32).toNatClampNeg : Int32) < (((u.2.1 1251 (y : Int32).toNatClampNeg) + (u.2.1 1252 (y : Int32).toNatClampNeg)) + ((u.1 1242) * r_31))) : (0 = (1 : Int32) ∧ (f_bo k x y)) ∨ (0 = (0 : Int32) ∧ ¬ (f_bo k x y)) := by
  have hz1247 := hI.1.s1247
  have k1242 := hk.i 1242 (by decide)
  have k1233 := hk.r 1233 (by decide)
  have k1234 := hk.r 1234 (by decide)
  have k1248 := hk.r 1248 (by decide)
  have k1251 := hk.r 1251 (by decide)
  have k1252 := hk.r 1252 (by decide)
  unfold f_bo f_sc f_fs; rw [← k1233, ← k1234, ← k1242, ← k1248, ← k1251, ← k1252]; clear hk; subst_vars
  first | (refine Or.inl ⟨rfl, ?_⟩; (repeat' split) <;> first | contradiction | ((try simp only [g_m1, Int32.lt_iff_toInt_lt, Int32.le_iff_toInt_le, ← Int32.toInt_inj, Int32.reduceToInt] at *); omega)) | (refine Or.inr ⟨rfl, ?_⟩; (repeat' split) <;> first | contradiction | ((try simp only [g_m1, Int32.lt_iff_toInt_lt, Int32.le_iff_toInt_le, ← Int32.toInt_inj, Int32.reduceToInt] at *); omega))
set_option maxRecDepth 100000 in
theorem g_X12_areBoth_f_v71 (u : qS) (x : Int32) (y : Int32) (k : qS) (r_31 : Int32) (hI : IM u) (hk : IK k u) (hx : 0 ≤ x ∧ x < u.1 1247) (hy : 0 ≤ y ∧ y < u.1 1247) (hys : u.1 1247 ≤ 120) (c12_1 : ¬ (u.2.1 1251 (x : Int32).toNatClampNeg : Int32) < (u.2.1 1251 (y : Int32).toNatClampNeg)) (c27_17 : ¬ (u.2.1 1251 (x : Int32).toNatClampNeg : Int32) = (u.2.1 1251 (y : Int32).toNatClampNeg)) (c43_18 : (y : Int32) = x) (hb_26 : 0 ≤ (u.2.1 1248 (x : Int32).toNatClampNeg) ∧ (u.2.1 1248 (x : Int32).toNatClampNeg) < u.1 1232) (hs_27 : 0 ≤ u.1 1232 ∧ u.1 1232 ≤ 20) (hb_28 : 0 ≤ (u.2.1 1248 (y : Int32).toNatClampNeg) ∧ (u.2.1 1248 (y : Int32).toNatClampNeg) < u.1 1232) (hw_30 : r_31 = f_wb (u.2.1 1233 (u.2.1 1248 (x : Int32).toNatClampNeg : Int32).toNatClampNeg) (u.2.1 1234 (u.2.1 1248 (x : Int32).toNatClampNeg : Int32).toNatClampNeg) (u.2.1 1233 (u.2.1 1248 (y : Int32).toNatClampNeg : Int32).toNatClampNeg) (u.2.1 1234 (u.2.1 1248 (y : Int32).toNatClampNeg : Int32).toNatClampNeg)) (c130_32 : ¬ (u.2.1 1251 (y : Int32).toNatClampNeg : Int32) < (((u.2.1 1251 (y : Int32).toNatClampNeg) + (u.2.1 1252 (y : Int32).toNatClampNeg)) + ((u.1 1242) * r_31))) : (1 = (1 : Int32) ∧ (f_bo k x y)) ∨ (1 = (0 : Int32) ∧ ¬ (f_bo k x y)) := by
  have hz1247 := hI.1.s1247
  have k1242 := hk.i 1242 (by decide)
  have k1233 := hk.r 1233 (by decide)
  have k1234 := hk.r 1234 (by decide)
  have k1248 := hk.r 1248 (by decide)
  have k1251 := hk.r 1251 (by decide)
  have k1252 := hk.r 1252 (by decide)
  unfold f_bo f_sc f_fs; rw [← k1233, ← k1234, ← k1242, ← k1248, ← k1251, ← k1252]; clear hk; subst_vars
  first | (refine Or.inl ⟨rfl, ?_⟩; (repeat' split) <;> first | contradiction | ((try simp only [g_m1, Int32.lt_iff_toInt_lt, Int32.le_iff_toInt_le, ← Int32.toInt_inj, Int32.reduceToInt] at *); omega)) | (refine Or.inr ⟨rfl, ?_⟩; (repeat' split) <;> first | contradiction | ((try simp only [g_m1, Int32.lt_iff_toInt_lt, Int32.le_iff_toInt_le, ← Int32.toInt_inj, Int32.reduceToInt] at *); omega))
set_option maxRecDepth 100000 in
theorem g_X12_areBoth_f_v72 (u : qS) (x : Int32) (y : Int32) (k : qS) (hI : IM u) (hk : IK k u) (hx : 0 ≤ x ∧ x < u.1 1247) (hy : 0 ≤ y ∧ y < u.1 1247) (hys : u.1 1247 ≤ 120) (c12_1 : ¬ (u.2.1 1251 (x : Int32).toNatClampNeg : Int32) < (u.2.1 1251 (y : Int32).toNatClampNeg)) (c27_17 : (u.2.1 1251 (x : Int32).toNatClampNeg : Int32) = (u.2.1 1251 (y : Int32).toNatClampNeg)) (c32_33 : y ≤ (x : Int32)) (c43_34 : ¬ (y : Int32) = x) : vp_in (x) 120 := by
  have hz1247 := hI.1.s1247
  refine g_in ?_ ?_ <;> ((try simp only [g_m1, Int32.lt_iff_toInt_lt, Int32.le_iff_toInt_le, ← Int32.toInt_inj, Int32.toInt_add, Int32.toInt_sub, Int32.toInt_mul, Int32.toInt_neg, Int32.reduceToInt, g_bm, g_bm'] at *); omega)
set_option maxRecDepth 100000 in
theorem g_X12_areBoth_f_v73 (u : qS) (x : Int32) (y : Int32) (k : qS) (hI : IM u) (hk : IK k u) (hx : 0 ≤ x ∧ x < u.1 1247) (hy : 0 ≤ y ∧ y < u.1 1247) (hys : u.1 1247 ≤ 120) (c12_1 : ¬ (u.2.1 1251 (x : Int32).toNatClampNeg : Int32) < (u.2.1 1251 (y : Int32).toNatClampNeg)) (c27_17 : (u.2.1 1251 (x : Int32).toNatClampNeg : Int32) = (u.2.1 1251 (y : Int32).toNatClampNeg)) (c32_33 : y ≤ (x : Int32)) (c43_34 : ¬ (y : Int32) = x) : 0 ≤ x ∧ x < u.1 1247 := by
  have hz1247 := hI.1.s1247
  first | omega | ((try simp only [g_m1, Int32.lt_iff_toInt_lt, Int32.le_iff_toInt_le, ← Int32.toInt_inj, Int32.reduceToInt] at *); omega) | ((try simp only [g_m1, Int32.lt_iff_toInt_lt, Int32.le_iff_toInt_le, ← Int32.toInt_inj, Int32.reduceToInt] at *); omega) | ((try simp only [g_m1, Int32.lt_iff_toInt_lt, Int32.le_iff_toInt_le, ← Int32.toInt_inj, Int32.toInt_add, Int32.toInt_sub, Int32.toInt_mul, Int32.toInt_neg, Int32.reduceToInt, g_bm, g_bm'] at *); omega) | (have qr1 := g_rng x; have qr2 := g_rng y; (try simp only [g_m1, Int32.lt_iff_toInt_lt, Int32.le_iff_toInt_le, ← Int32.toInt_inj, Int32.toInt_add, Int32.toInt_sub, Int32.toInt_mul, Int32.toInt_neg, Int32.reduceToInt, g_bm, g_bm'] at *); omega) | (simp only [g_m1, Int32.lt_iff_toInt_lt, Int32.le_iff_toInt_le, ← Int32.toInt_inj, Int32.toInt_add, Int32.toInt_sub, Int32.toInt_mul, Int32.toInt_neg, Int32.reduceToInt, g_bm, g_bm'] at *; simp at *; omega) | (simp_all; done)
set_option maxRecDepth 100000 in
theorem g_X12_areBoth_f_v74 (u : qS) (x : Int32) (y : Int32) (k : qS) (hI : IM u) (hk : IK k u) (hx : 0 ≤ x ∧ x < u.1 1247) (hy : 0 ≤ y ∧ y < u.1 1247) (hys : u.1 1247 ≤ 120) (c12_1 : ¬ (u.2.1 1251 (x : Int32).toNatClampNeg : Int32) < (u.2.1 1251 (y : Int32).toNatClampNeg)) (c27_17 : (u.2.1 1251 (x : Int32).toNatClampNeg : Int32) = (u.2.1 1251 (y : Int32).toNatClampNeg)) (c32_33 : y ≤ (x : Int32)) (c43_34 : ¬ (y : Int32) = x) (hb_35 : 0 ≤ (u.2.1 1248 (x : Int32).toNatClampNeg) ∧ (u.2.1 1248 (x : Int32).toNatClampNeg) < u.1 1232) (hs_36 : 0 ≤ u.1 1232 ∧ u.1 1232 ≤ 20) : vp_in (u.2.1 1248 (x : Int32).toNatClampNeg) 20 := by
  have hz1247 := hI.1.s1247
  refine g_in ?_ ?_ <;> ((try simp only [g_m1, Int32.lt_iff_toInt_lt, Int32.le_iff_toInt_le, ← Int32.toInt_inj, Int32.toInt_add, Int32.toInt_sub, Int32.toInt_mul, Int32.toInt_neg, Int32.reduceToInt, g_bm, g_bm'] at *); omega)
set_option maxRecDepth 100000 in
theorem g_X12_areBoth_f_v75 (u : qS) (x : Int32) (y : Int32) (k : qS) (hI : IM u) (hk : IK k u) (hx : 0 ≤ x ∧ x < u.1 1247) (hy : 0 ≤ y ∧ y < u.1 1247) (hys : u.1 1247 ≤ 120) (c12_1 : ¬ (u.2.1 1251 (x : Int32).toNatClampNeg : Int32) < (u.2.1 1251 (y : Int32).toNatClampNeg)) (c27_17 : (u.2.1 1251 (x : Int32).toNatClampNeg : Int32) = (u.2.1 1251 (y : Int32).toNatClampNeg)) (c32_33 : y ≤ (x : Int32)) (c43_34 : ¬ (y : Int32) = x) (hb_35 : 0 ≤ (u.2.1 1248 (x : Int32).toNatClampNeg) ∧ (u.2.1 1248 (x : Int32).toNatClampNeg) < u.1 1232) (hs_36 : 0 ≤ u.1 1232 ∧ u.1 1232 ≤ 20) : vp_in (x) 120 := by
  have hz1247 := hI.1.s1247
  refine g_in ?_ ?_ <;> ((try simp only [g_m1, Int32.lt_iff_toInt_lt, Int32.le_iff_toInt_le, ← Int32.toInt_inj, Int32.toInt_add, Int32.toInt_sub, Int32.toInt_mul, Int32.toInt_neg, Int32.reduceToInt, g_bm, g_bm'] at *); omega)
set_option maxRecDepth 100000 in
theorem g_X12_areBoth_f_v76 (u : qS) (x : Int32) (y : Int32) (k : qS) (hI : IM u) (hk : IK k u) (hx : 0 ≤ x ∧ x < u.1 1247) (hy : 0 ≤ y ∧ y < u.1 1247) (hys : u.1 1247 ≤ 120) (c12_1 : ¬ (u.2.1 1251 (x : Int32).toNatClampNeg : Int32) < (u.2.1 1251 (y : Int32).toNatClampNeg)) (c27_17 : (u.2.1 1251 (x : Int32).toNatClampNeg : Int32) = (u.2.1 1251 (y : Int32).toNatClampNeg)) (c32_33 : y ≤ (x : Int32)) (c43_34 : ¬ (y : Int32) = x) (hb_35 : 0 ≤ (u.2.1 1248 (x : Int32).toNatClampNeg) ∧ (u.2.1 1248 (x : Int32).toNatClampNeg) < u.1 1232) (hs_36 : 0 ≤ u.1 1232 ∧ u.1 1232 ≤ 20) : 0 ≤ x ∧ x < u.1 1247 := by
  have hz1247 := hI.1.s1247
  first | omega | ((try simp only [g_m1, Int32.lt_iff_toInt_lt, Int32.le_iff_toInt_le, ← Int32.toInt_inj, Int32.reduceToInt] at *); omega) | ((try simp only [g_m1, Int32.lt_iff_toInt_lt, Int32.le_iff_toInt_le, ← Int32.toInt_inj, Int32.reduceToInt] at *); omega) | ((try simp only [g_m1, Int32.lt_iff_toInt_lt, Int32.le_iff_toInt_le, ← Int32.toInt_inj, Int32.toInt_add, Int32.toInt_sub, Int32.toInt_mul, Int32.toInt_neg, Int32.reduceToInt, g_bm, g_bm'] at *); omega) | (have qr1 := g_rng x; have qr2 := g_rng y; (try simp only [g_m1, Int32.lt_iff_toInt_lt, Int32.le_iff_toInt_le, ← Int32.toInt_inj, Int32.toInt_add, Int32.toInt_sub, Int32.toInt_mul, Int32.toInt_neg, Int32.reduceToInt, g_bm, g_bm'] at *); omega) | (simp only [g_m1, Int32.lt_iff_toInt_lt, Int32.le_iff_toInt_le, ← Int32.toInt_inj, Int32.toInt_add, Int32.toInt_sub, Int32.toInt_mul, Int32.toInt_neg, Int32.reduceToInt, g_bm, g_bm'] at *; simp at *; omega) | (simp_all; done)
set_option maxRecDepth 100000 in
theorem g_X12_areBoth_f_v77 (u : qS) (x : Int32) (y : Int32) (k : qS) (hI : IM u) (hk : IK k u) (hx : 0 ≤ x ∧ x < u.1 1247) (hy : 0 ≤ y ∧ y < u.1 1247) (hys : u.1 1247 ≤ 120) (c12_1 : ¬ (u.2.1 1251 (x : Int32).toNatClampNeg : Int32) < (u.2.1 1251 (y : Int32).toNatClampNeg)) (c27_17 : (u.2.1 1251 (x : Int32).toNatClampNeg : Int32) = (u.2.1 1251 (y : Int32).toNatClampNeg)) (c32_33 : y ≤ (x : Int32)) (c43_34 : ¬ (y : Int32) = x) (hb_35 : 0 ≤ (u.2.1 1248 (x : Int32).toNatClampNeg) ∧ (u.2.1 1248 (x : Int32).toNatClampNeg) < u.1 1232) (hs_36 : 0 ≤ u.1 1232 ∧ u.1 1232 ≤ 20) : vp_in (u.2.1 1248 (x : Int32).toNatClampNeg) 20 := by
  have hz1247 := hI.1.s1247
  refine g_in ?_ ?_ <;> ((try simp only [g_m1, Int32.lt_iff_toInt_lt, Int32.le_iff_toInt_le, ← Int32.toInt_inj, Int32.toInt_add, Int32.toInt_sub, Int32.toInt_mul, Int32.toInt_neg, Int32.reduceToInt, g_bm, g_bm'] at *); omega)
set_option maxRecDepth 100000 in
theorem g_X12_areBoth_f_v78 (u : qS) (x : Int32) (y : Int32) (k : qS) (hI : IM u) (hk : IK k u) (hx : 0 ≤ x ∧ x < u.1 1247) (hy : 0 ≤ y ∧ y < u.1 1247) (hys : u.1 1247 ≤ 120) (c12_1 : ¬ (u.2.1 1251 (x : Int32).toNatClampNeg : Int32) < (u.2.1 1251 (y : Int32).toNatClampNeg)) (c27_17 : (u.2.1 1251 (x : Int32).toNatClampNeg : Int32) = (u.2.1 1251 (y : Int32).toNatClampNeg)) (c32_33 : y ≤ (x : Int32)) (c43_34 : ¬ (y : Int32) = x) (hb_35 : 0 ≤ (u.2.1 1248 (x : Int32).toNatClampNeg) ∧ (u.2.1 1248 (x : Int32).toNatClampNeg) < u.1 1232) (hs_36 : 0 ≤ u.1 1232 ∧ u.1 1232 ≤ 20) : vp_in (y) 120 := by
  have hz1247 := hI.1.s1247
  refine g_in ?_ ?_ <;> ((try simp only [g_m1, Int32.lt_iff_toInt_lt, Int32.le_iff_toInt_le, ← Int32.toInt_inj, Int32.toInt_add, Int32.toInt_sub, Int32.toInt_mul, Int32.toInt_neg, Int32.reduceToInt, g_bm, g_bm'] at *); omega)
set_option maxRecDepth 100000 in
theorem g_X12_areBoth_f_v79 (u : qS) (x : Int32) (y : Int32) (k : qS) (hI : IM u) (hk : IK k u) (hx : 0 ≤ x ∧ x < u.1 1247) (hy : 0 ≤ y ∧ y < u.1 1247) (hys : u.1 1247 ≤ 120) (c12_1 : ¬ (u.2.1 1251 (x : Int32).toNatClampNeg : Int32) < (u.2.1 1251 (y : Int32).toNatClampNeg)) (c27_17 : (u.2.1 1251 (x : Int32).toNatClampNeg : Int32) = (u.2.1 1251 (y : Int32).toNatClampNeg)) (c32_33 : y ≤ (x : Int32)) (c43_34 : ¬ (y : Int32) = x) (hb_35 : 0 ≤ (u.2.1 1248 (x : Int32).toNatClampNeg) ∧ (u.2.1 1248 (x : Int32).toNatClampNeg) < u.1 1232) (hs_36 : 0 ≤ u.1 1232 ∧ u.1 1232 ≤ 20) : 0 ≤ y ∧ y < u.1 1247 := by
  have hz1247 := hI.1.s1247
  first | omega | ((try simp only [g_m1, Int32.lt_iff_toInt_lt, Int32.le_iff_toInt_le, ← Int32.toInt_inj, Int32.reduceToInt] at *); omega) | ((try simp only [g_m1, Int32.lt_iff_toInt_lt, Int32.le_iff_toInt_le, ← Int32.toInt_inj, Int32.reduceToInt] at *); omega) | ((try simp only [g_m1, Int32.lt_iff_toInt_lt, Int32.le_iff_toInt_le, ← Int32.toInt_inj, Int32.toInt_add, Int32.toInt_sub, Int32.toInt_mul, Int32.toInt_neg, Int32.reduceToInt, g_bm, g_bm'] at *); omega) | (have qr1 := g_rng x; have qr2 := g_rng y; (try simp only [g_m1, Int32.lt_iff_toInt_lt, Int32.le_iff_toInt_le, ← Int32.toInt_inj, Int32.toInt_add, Int32.toInt_sub, Int32.toInt_mul, Int32.toInt_neg, Int32.reduceToInt, g_bm, g_bm'] at *); omega) | (simp only [g_m1, Int32.lt_iff_toInt_lt, Int32.le_iff_toInt_le, ← Int32.toInt_inj, Int32.toInt_add, Int32.toInt_sub, Int32.toInt_mul, Int32.toInt_neg, Int32.reduceToInt, g_bm, g_bm'] at *; simp at *; omega) | (simp_all; done)
set_option maxRecDepth 100000 in
theorem g_X12_areBoth_f_v80 (u : qS) (x : Int32) (y : Int32) (k : qS) (hI : IM u) (hk : IK k u) (hx : 0 ≤ x ∧ x < u.1 1247) (hy : 0 ≤ y ∧ y < u.1 1247) (hys : u.1 1247 ≤ 120) (c12_1 : ¬ (u.2.1 1251 (x : Int32).toNatClampNeg : Int32) < (u.2.1 1251 (y : Int32).toNatClampNeg)) (c27_17 : (u.2.1 1251 (x : Int32).toNatClampNeg : Int32) = (u.2.1 1251 (y : Int32).toNatClampNeg)) (c32_33 : y ≤ (x : Int32)) (c43_34 : ¬ (y : Int32) = x) (hb_35 : 0 ≤ (u.2.1 1248 (x : Int32).toNatClampNeg) ∧ (u.2.1 1248 (x : Int32).toNatClampNeg) < u.1 1232) (hs_36 : 0 ≤ u.1 1232 ∧ u.1 1232 ≤ 20) (hb_37 : 0 ≤ (u.2.1 1248 (y : Int32).toNatClampNeg) ∧ (u.2.1 1248 (y : Int32).toNatClampNeg) < u.1 1232) : vp_in (u.2.1 1248 (y : Int32).toNatClampNeg) 20 := by
  have hz1247 := hI.1.s1247
  refine g_in ?_ ?_ <;> ((try simp only [g_m1, Int32.lt_iff_toInt_lt, Int32.le_iff_toInt_le, ← Int32.toInt_inj, Int32.toInt_add, Int32.toInt_sub, Int32.toInt_mul, Int32.toInt_neg, Int32.reduceToInt, g_bm, g_bm'] at *); omega)
set_option maxRecDepth 100000 in
theorem g_X12_areBoth_f_v81 (u : qS) (x : Int32) (y : Int32) (k : qS) (hI : IM u) (hk : IK k u) (hx : 0 ≤ x ∧ x < u.1 1247) (hy : 0 ≤ y ∧ y < u.1 1247) (hys : u.1 1247 ≤ 120) (c12_1 : ¬ (u.2.1 1251 (x : Int32).toNatClampNeg : Int32) < (u.2.1 1251 (y : Int32).toNatClampNeg)) (c27_17 : (u.2.1 1251 (x : Int32).toNatClampNeg : Int32) = (u.2.1 1251 (y : Int32).toNatClampNeg)) (c32_33 : y ≤ (x : Int32)) (c43_34 : ¬ (y : Int32) = x) (hb_35 : 0 ≤ (u.2.1 1248 (x : Int32).toNatClampNeg) ∧ (u.2.1 1248 (x : Int32).toNatClampNeg) < u.1 1232) (hs_36 : 0 ≤ u.1 1232 ∧ u.1 1232 ≤ 20) (hb_37 : 0 ≤ (u.2.1 1248 (y : Int32).toNatClampNeg) ∧ (u.2.1 1248 (y : Int32).toNatClampNeg) < u.1 1232) : vp_in (y) 120 := by
  have hz1247 := hI.1.s1247
  refine g_in ?_ ?_ <;> ((try simp only [g_m1, Int32.lt_iff_toInt_lt, Int32.le_iff_toInt_le, ← Int32.toInt_inj, Int32.toInt_add, Int32.toInt_sub, Int32.toInt_mul, Int32.toInt_neg, Int32.reduceToInt, g_bm, g_bm'] at *); omega)
set_option maxRecDepth 100000 in
theorem g_X12_areBoth_f_v82 (u : qS) (x : Int32) (y : Int32) (k : qS) (hI : IM u) (hk : IK k u) (hx : 0 ≤ x ∧ x < u.1 1247) (hy : 0 ≤ y ∧ y < u.1 1247) (hys : u.1 1247 ≤ 120) (c12_1 : ¬ (u.2.1 1251 (x : Int32).toNatClampNeg : Int32) < (u.2.1 1251 (y : Int32).toNatClampNeg)) (c27_17 : (u.2.1 1251 (x : Int32).toNatClampNeg : Int32) = (u.2.1 1251 (y : Int32).toNatClampNeg)) (c32_33 : y ≤ (x : Int32)) (c43_34 : ¬ (y : Int32) = x) (hb_35 : 0 ≤ (u.2.1 1248 (x : Int32).toNatClampNeg) ∧ (u.2.1 1248 (x : Int32).toNatClampNeg) < u.1 1232) (hs_36 : 0 ≤ u.1 1232 ∧ u.1 1232 ≤ 20) (hb_37 : 0 ≤ (u.2.1 1248 (y : Int32).toNatClampNeg) ∧ (u.2.1 1248 (y : Int32).toNatClampNeg) < u.1 1232) : 0 ≤ y ∧ y < u.1 1247 := by
  have hz1247 := hI.1.s1247
  first | omega | ((try simp only [g_m1, Int32.lt_iff_toInt_lt, Int32.le_iff_toInt_le, ← Int32.toInt_inj, Int32.reduceToInt] at *); omega) | ((try simp only [g_m1, Int32.lt_iff_toInt_lt, Int32.le_iff_toInt_le, ← Int32.toInt_inj, Int32.reduceToInt] at *); omega) | ((try simp only [g_m1, Int32.lt_iff_toInt_lt, Int32.le_iff_toInt_le, ← Int32.toInt_inj, Int32.toInt_add, Int32.toInt_sub, Int32.toInt_mul, Int32.toInt_neg, Int32.reduceToInt, g_bm, g_bm'] at *); omega) | (have qr1 := g_rng x; have qr2 := g_rng y; (try simp only [g_m1, Int32.lt_iff_toInt_lt, Int32.le_iff_toInt_le, ← Int32.toInt_inj, Int32.toInt_add, Int32.toInt_sub, Int32.toInt_mul, Int32.toInt_neg, Int32.reduceToInt, g_bm, g_bm'] at *); omega) | (simp only [g_m1, Int32.lt_iff_toInt_lt, Int32.le_iff_toInt_le, ← Int32.toInt_inj, Int32.toInt_add, Int32.toInt_sub, Int32.toInt_mul, Int32.toInt_neg, Int32.reduceToInt, g_bm, g_bm'] at *; simp at *; omega) | (simp_all; done)
set_option maxRecDepth 100000 in
theorem g_X12_areBoth_f_v83 (u : qS) (x : Int32) (y : Int32) (k : qS) (hI : IM u) (hk : IK k u) (hx : 0 ≤ x ∧ x < u.1 1247) (hy : 0 ≤ y ∧ y < u.1 1247) (hys : u.1 1247 ≤ 120) (c12_1 : ¬ (u.2.1 1251 (x : Int32).toNatClampNeg : Int32) < (u.2.1 1251 (y : Int32).toNatClampNeg)) (c27_17 : (u.2.1 1251 (x : Int32).toNatClampNeg : Int32) = (u.2.1 1251 (y : Int32).toNatClampNeg)) (c32_33 : y ≤ (x : Int32)) (c43_34 : ¬ (y : Int32) = x) (hb_35 : 0 ≤ (u.2.1 1248 (x : Int32).toNatClampNeg) ∧ (u.2.1 1248 (x : Int32).toNatClampNeg) < u.1 1232) (hs_36 : 0 ≤ u.1 1232 ∧ u.1 1232 ≤ 20) (hb_37 : 0 ≤ (u.2.1 1248 (y : Int32).toNatClampNeg) ∧ (u.2.1 1248 (y : Int32).toNatClampNeg) < u.1 1232) : vp_in (u.2.1 1248 (y : Int32).toNatClampNeg) 20 := by
  have hz1247 := hI.1.s1247
  refine g_in ?_ ?_ <;> ((try simp only [g_m1, Int32.lt_iff_toInt_lt, Int32.le_iff_toInt_le, ← Int32.toInt_inj, Int32.toInt_add, Int32.toInt_sub, Int32.toInt_mul, Int32.toInt_neg, Int32.reduceToInt, g_bm, g_bm'] at *); omega)
set_option maxRecDepth 100000 in
theorem g_X12_areBoth_f_v84 (u : qS) (x : Int32) (y : Int32) (k : qS) (r_40 : Int32) (hI : IM u) (hk : IK k u) (hx : 0 ≤ x ∧ x < u.1 1247) (hy : 0 ≤ y ∧ y < u.1 1247) (hys : u.1 1247 ≤ 120) (c12_1 : ¬ (u.2.1 1251 (x : Int32).toNatClampNeg : Int32) < (u.2.1 1251 (y : Int32).toNatClampNeg)) (c27_17 : (u.2.1 1251 (x : Int32).toNatClampNeg : Int32) = (u.2.1 1251 (y : Int32).toNatClampNeg)) (c32_33 : y ≤ (x : Int32)) (c43_34 : ¬ (y : Int32) = x) (hb_35 : 0 ≤ (u.2.1 1248 (x : Int32).toNatClampNeg) ∧ (u.2.1 1248 (x : Int32).toNatClampNeg) < u.1 1232) (hs_36 : 0 ≤ u.1 1232 ∧ u.1 1232 ≤ 20) (hb_37 : 0 ≤ (u.2.1 1248 (y : Int32).toNatClampNeg) ∧ (u.2.1 1248 (y : Int32).toNatClampNeg) < u.1 1232) (hw_39 : r_40 = f_wb (u.2.1 1233 (u.2.1 1248 (x : Int32).toNatClampNeg : Int32).toNatClampNeg) (u.2.1 1234 (u.2.1 1248 (x : Int32).toNatClampNeg : Int32).toNatClampNeg) (u.2.1 1233 (u.2.1 1248 (y : Int32).toNatClampNeg : Int32).toNatClampNeg) (u.2.1 1234 (u.2.1 1248 (y : Int32).toNatClampNeg : Int32).toNatClampNeg)) : vp_in (x) 120 := by
  have hz1247 := hI.1.s1247
  refine g_in ?_ ?_ <;> ((try simp only [g_m1, Int32.lt_iff_toInt_lt, Int32.le_iff_toInt_le, ← Int32.toInt_inj, Int32.toInt_add, Int32.toInt_sub, Int32.toInt_mul, Int32.toInt_neg, Int32.reduceToInt, g_bm, g_bm'] at *); omega)
set_option maxRecDepth 100000 in
theorem g_X12_areBoth_f_v85 (u : qS) (x : Int32) (y : Int32) (k : qS) (r_40 : Int32) (hI : IM u) (hk : IK k u) (hx : 0 ≤ x ∧ x < u.1 1247) (hy : 0 ≤ y ∧ y < u.1 1247) (hys : u.1 1247 ≤ 120) (c12_1 : ¬ (u.2.1 1251 (x : Int32).toNatClampNeg : Int32) < (u.2.1 1251 (y : Int32).toNatClampNeg)) (c27_17 : (u.2.1 1251 (x : Int32).toNatClampNeg : Int32) = (u.2.1 1251 (y : Int32).toNatClampNeg)) (c32_33 : y ≤ (x : Int32)) (c43_34 : ¬ (y : Int32) = x) (hb_35 : 0 ≤ (u.2.1 1248 (x : Int32).toNatClampNeg) ∧ (u.2.1 1248 (x : Int32).toNatClampNeg) < u.1 1232) (hs_36 : 0 ≤ u.1 1232 ∧ u.1 1232 ≤ 20) (hb_37 : 0 ≤ (u.2.1 1248 (y : Int32).toNatClampNeg) ∧ (u.2.1 1248 (y : Int32).toNatClampNeg) < u.1 1232) (hw_39 : r_40 = f_wb (u.2.1 1233 (u.2.1 1248 (x : Int32).toNatClampNeg : Int32).toNatClampNeg) (u.2.1 1234 (u.2.1 1248 (x : Int32).toNatClampNeg : Int32).toNatClampNeg) (u.2.1 1233 (u.2.1 1248 (y : Int32).toNatClampNeg : Int32).toNatClampNeg) (u.2.1 1234 (u.2.1 1248 (y : Int32).toNatClampNeg : Int32).toNatClampNeg)) : vp_in (y) 120 := by
  have hz1247 := hI.1.s1247
  refine g_in ?_ ?_ <;> ((try simp only [g_m1, Int32.lt_iff_toInt_lt, Int32.le_iff_toInt_le, ← Int32.toInt_inj, Int32.toInt_add, Int32.toInt_sub, Int32.toInt_mul, Int32.toInt_neg, Int32.reduceToInt, g_bm, g_bm'] at *); omega)
set_option maxRecDepth 100000 in
theorem g_X12_areBoth_f_v86 (u : qS) (x : Int32) (y : Int32) (k : qS) (r_40 : Int32) (hI : IM u) (hk : IK k u) (hx : 0 ≤ x ∧ x < u.1 1247) (hy : 0 ≤ y ∧ y < u.1 1247) (hys : u.1 1247 ≤ 120) (c12_1 : ¬ (u.2.1 1251 (x : Int32).toNatClampNeg : Int32) < (u.2.1 1251 (y : Int32).toNatClampNeg)) (c27_17 : (u.2.1 1251 (x : Int32).toNatClampNeg : Int32) = (u.2.1 1251 (y : Int32).toNatClampNeg)) (c32_33 : y ≤ (x : Int32)) (c43_34 : ¬ (y : Int32) = x) (hb_35 : 0 ≤ (u.2.1 1248 (x : Int32).toNatClampNeg) ∧ (u.2.1 1248 (x : Int32).toNatClampNeg) < u.1 1232) (hs_36 : 0 ≤ u.1 1232 ∧ u.1 1232 ≤ 20) (hb_37 : 0 ≤ (u.2.1 1248 (y : Int32).toNatClampNeg) ∧ (u.2.1 1248 (y : Int32).toNatClampNeg) < u.1 1232) (hw_39 : r_40 = f_wb (u.2.1 1233 (u.2.1 1248 (x : Int32).toNatClampNeg : Int32).toNatClampNeg) (u.2.1 1234 (u.2.1 1248 (x : Int32).toNatClampNeg : Int32).toNatClampNeg) (u.2.1 1233 (u.2.1 1248 (y : Int32).toNatClampNeg : Int32).toNatClampNeg) (u.2.1 1234 (u.2.1 1248 (y : Int32).toNatClampNeg : Int32).toNatClampNeg)) : vp_in (y) 120 := by
  have hz1247 := hI.1.s1247
  refine g_in ?_ ?_ <;> ((try simp only [g_m1, Int32.lt_iff_toInt_lt, Int32.le_iff_toInt_le, ← Int32.toInt_inj, Int32.toInt_add, Int32.toInt_sub, Int32.toInt_mul, Int32.toInt_neg, Int32.reduceToInt, g_bm, g_bm'] at *); omega)
set_option maxRecDepth 100000 in
theorem g_X12_areBoth_f_v87 (u : qS) (x : Int32) (y : Int32) (k : qS) (r_40 : Int32) (hI : IM u) (hk : IK k u) (hx : 0 ≤ x ∧ x < u.1 1247) (hy : 0 ≤ y ∧ y < u.1 1247) (hys : u.1 1247 ≤ 120) (c12_1 : ¬ (u.2.1 1251 (x : Int32).toNatClampNeg : Int32) < (u.2.1 1251 (y : Int32).toNatClampNeg)) (c27_17 : (u.2.1 1251 (x : Int32).toNatClampNeg : Int32) = (u.2.1 1251 (y : Int32).toNatClampNeg)) (c32_33 : y ≤ (x : Int32)) (c43_34 : ¬ (y : Int32) = x) (hb_35 : 0 ≤ (u.2.1 1248 (x : Int32).toNatClampNeg) ∧ (u.2.1 1248 (x : Int32).toNatClampNeg) < u.1 1232) (hs_36 : 0 ≤ u.1 1232 ∧ u.1 1232 ≤ 20) (hb_37 : 0 ≤ (u.2.1 1248 (y : Int32).toNatClampNeg) ∧ (u.2.1 1248 (y : Int32).toNatClampNeg) < u.1 1232) (hw_39 : r_40 = f_wb (u.2.1 1233 (u.2.1 1248 (x : Int32).toNatClampNeg : Int32).toNatClampNeg) (u.2.1 1234 (u.2.1 1248 (x : Int32).toNatClampNeg : Int32).toNatClampNeg) (u.2.1 1233 (u.2.1 1248 (y : Int32).toNatClampNeg : Int32).toNatClampNeg) (u.2.1 1234 (u.2.1 1248 (y : Int32).toNatClampNeg : Int32).toNatClampNeg)) (c130_41 : (u.2.1 1251 (x : Int32).toNatClampNeg : Int32) < (((u.2.1 1251 (y : Int32).toNatClampNeg) + (u.2.1 1252 (y : Int32).toNatClampNeg)) + ((u.1 1242) * r_40))) : (0 = (1 : Int32) ∧ (f_bo k x y)) ∨ (0 = (0 : Int32) ∧ ¬ (f_bo k x y)) := by
  have hz1247 := hI.1.s1247
  have k1242 := hk.i 1242 (by decide)
  have k1233 := hk.r 1233 (by decide)
  have k1234 := hk.r 1234 (by decide)
  have k1248 := hk.r 1248 (by decide)
  have k1251 := hk.r 1251 (by decide)
  have k1252 := hk.r 1252 (by decide)
  unfold f_bo f_sc f_fs; rw [← k1233, ← k1234, ← k1242, ← k1248, ← k1251, ← k1252]; clear hk; subst_vars
  first | (refine Or.inl ⟨rfl, ?_⟩; (repeat' split) <;> first | contradiction | ((try simp only [g_m1, Int32.lt_iff_toInt_lt, Int32.le_iff_toInt_le, ← Int32.toInt_inj, Int32.reduceToInt] at *); omega)) | (refine Or.inr ⟨rfl, ?_⟩; (repeat' split) <;> first | contradiction | ((try simp only [g_m1, Int32.lt_iff_toInt_lt, Int32.le_iff_toInt_le, ← Int32.toInt_inj, Int32.reduceToInt] at *); omega))
set_option maxRecDepth 100000 in
theorem g_X12_areBoth_f_v88 (u : qS) (x : Int32) (y : Int32) (k : qS) (r_40 : Int32) (hI : IM u) (hk : IK k u) (hx : 0 ≤ x ∧ x < u.1 1247) (hy : 0 ≤ y ∧ y < u.1 1247) (hys : u.1 1247 ≤ 120) (c12_1 : ¬ (u.2.1 1251 (x : Int32).toNatClampNeg : Int32) < (u.2.1 1251 (y : Int32).toNatClampNeg)) (c27_17 : (u.2.1 1251 (x : Int32).toNatClampNeg : Int32) = (u.2.1 1251 (y : Int32).toNatClampNeg)) (c32_33 : y ≤ (x : Int32)) (c43_34 : ¬ (y : Int32) = x) (hb_35 : 0 ≤ (u.2.1 1248 (x : Int32).toNatClampNeg) ∧ (u.2.1 1248 (x : Int32).toNatClampNeg) < u.1 1232) (hs_36 : 0 ≤ u.1 1232 ∧ u.1 1232 ≤ 20) (hb_37 : 0 ≤ (u.2.1 1248 (y : Int32).toNatClampNeg) ∧ (u.2.1 1248 (y : Int32).toNatClampNeg) < u.1 1232) (hw_39 : r_40 = f_wb (u.2.1 1233 (u.2.1 1248 (x : Int32).toNatClampNeg : Int32).toNatClampNeg) (u.2.1 1234 (u.2.1 1248 (x : Int32).toNatClampNeg : Int32).toNatClampNeg) (u.2.1 1233 (u.2.1 1248 (y : Int32).toNatClampNeg : Int32).toNatClampNeg) (u.2.1 1234 (u.2.1 1248 (y : Int32).toNatClampNeg : Int32).toNatClampNeg)) (c130_41 : ¬ (u.2.1 1251 (x : Int32).toNatClampNeg : Int32) < (((u.2.1 1251 (y : Int32).toNatClampNeg) + (u.2.1 1252 (y : Int32).toNatClampNeg)) + ((u.1 1242) * r_40))) : (1 = (1 : Int32) ∧ (f_bo k x y)) ∨ (1 = (0 : Int32) ∧ ¬ (f_bo k x y)) := by
  have hz1247 := hI.1.s1247
  have k1242 := hk.i 1242 (by decide)
  have k1233 := hk.r 1233 (by decide)
  have k1234 := hk.r 1234 (by decide)
  have k1248 := hk.r 1248 (by decide)
  have k1251 := hk.r 1251 (by decide)
  have k1252 := hk.r 1252 (by decide)
  unfold f_bo f_sc f_fs; rw [← k1233, ← k1234, ← k1242, ← k1248, ← k1251, ← k1252]; clear hk; subst_vars
  first | (refine Or.inl ⟨rfl, ?_⟩; (repeat' split) <;> first | contradiction | ((try simp only [g_m1, Int32.lt_iff_toInt_lt, Int32.le_iff_toInt_le, ← Int32.toInt_inj, Int32.reduceToInt] at *); omega)) | (refine Or.inr ⟨rfl, ?_⟩; (repeat' split) <;> first | contradiction | ((try simp only [g_m1, Int32.lt_iff_toInt_lt, Int32.le_iff_toInt_le, ← Int32.toInt_inj, Int32.reduceToInt] at *); omega))
set_option maxRecDepth 100000 in
theorem g_X12_areBoth_f_v89 (u : qS) (x : Int32) (y : Int32) (k : qS) (hI : IM u) (hk : IK k u) (hx : 0 ≤ x ∧ x < u.1 1247) (hy : 0 ≤ y ∧ y < u.1 1247) (hys : u.1 1247 ≤ 120) (c12_1 : ¬ (u.2.1 1251 (x : Int32).toNatClampNeg : Int32) < (u.2.1 1251 (y : Int32).toNatClampNeg)) (c27_17 : (u.2.1 1251 (x : Int32).toNatClampNeg : Int32) = (u.2.1 1251 (y : Int32).toNatClampNeg)) (c32_33 : y ≤ (x : Int32)) (c43_34 : (y : Int32) = x) : vp_in (x) 120 := by
  have hz1247 := hI.1.s1247
  refine g_in ?_ ?_ <;> ((try simp only [g_m1, Int32.lt_iff_toInt_lt, Int32.le_iff_toInt_le, ← Int32.toInt_inj, Int32.toInt_add, Int32.toInt_sub, Int32.toInt_mul, Int32.toInt_neg, Int32.reduceToInt, g_bm, g_bm'] at *); omega)
set_option maxRecDepth 100000 in
theorem g_X12_areBoth_f_v90 (u : qS) (x : Int32) (y : Int32) (k : qS) (hI : IM u) (hk : IK k u) (hx : 0 ≤ x ∧ x < u.1 1247) (hy : 0 ≤ y ∧ y < u.1 1247) (hys : u.1 1247 ≤ 120) (c12_1 : ¬ (u.2.1 1251 (x : Int32).toNatClampNeg : Int32) < (u.2.1 1251 (y : Int32).toNatClampNeg)) (c27_17 : (u.2.1 1251 (x : Int32).toNatClampNeg : Int32) = (u.2.1 1251 (y : Int32).toNatClampNeg)) (c32_33 : y ≤ (x : Int32)) (c43_34 : (y : Int32) = x) : 0 ≤ x ∧ x < u.1 1247 := by
  have hz1247 := hI.1.s1247
  first | omega | ((try simp only [g_m1, Int32.lt_iff_toInt_lt, Int32.le_iff_toInt_le, ← Int32.toInt_inj, Int32.reduceToInt] at *); omega) | ((try simp only [g_m1, Int32.lt_iff_toInt_lt, Int32.le_iff_toInt_le, ← Int32.toInt_inj, Int32.reduceToInt] at *); omega) | ((try simp only [g_m1, Int32.lt_iff_toInt_lt, Int32.le_iff_toInt_le, ← Int32.toInt_inj, Int32.toInt_add, Int32.toInt_sub, Int32.toInt_mul, Int32.toInt_neg, Int32.reduceToInt, g_bm, g_bm'] at *); omega) | (have qr1 := g_rng x; have qr2 := g_rng y; (try simp only [g_m1, Int32.lt_iff_toInt_lt, Int32.le_iff_toInt_le, ← Int32.toInt_inj, Int32.toInt_add, Int32.toInt_sub, Int32.toInt_mul, Int32.toInt_neg, Int32.reduceToInt, g_bm, g_bm'] at *); omega) | (simp only [g_m1, Int32.lt_iff_toInt_lt, Int32.le_iff_toInt_le, ← Int32.toInt_inj, Int32.toInt_add, Int32.toInt_sub, Int32.toInt_mul, Int32.toInt_neg, Int32.reduceToInt, g_bm, g_bm'] at *; simp at *; omega) | (simp_all; done)
set_option maxRecDepth 100000 in
theorem g_X12_areBoth_f_v91 (u : qS) (x : Int32) (y : Int32) (k : qS) (hI : IM u) (hk : IK k u) (hx : 0 ≤ x ∧ x < u.1 1247) (hy : 0 ≤ y ∧ y < u.1 1247) (hys : u.1 1247 ≤ 120) (c12_1 : ¬ (u.2.1 1251 (x : Int32).toNatClampNeg : Int32) < (u.2.1 1251 (y : Int32).toNatClampNeg)) (c27_17 : (u.2.1 1251 (x : Int32).toNatClampNeg : Int32) = (u.2.1 1251 (y : Int32).toNatClampNeg)) (c32_33 : y ≤ (x : Int32)) (c43_34 : (y : Int32) = x) (hb_42 : 0 ≤ (u.2.1 1248 (x : Int32).toNatClampNeg) ∧ (u.2.1 1248 (x : Int32).toNatClampNeg) < u.1 1232) (hs_43 : 0 ≤ u.1 1232 ∧ u.1 1232 ≤ 20) : vp_in (u.2.1 1248 (x : Int32).toNatClampNeg) 20 := by
  have hz1247 := hI.1.s1247
  refine g_in ?_ ?_ <;> ((try simp only [g_m1, Int32.lt_iff_toInt_lt, Int32.le_iff_toInt_le, ← Int32.toInt_inj, Int32.toInt_add, Int32.toInt_sub, Int32.toInt_mul, Int32.toInt_neg, Int32.reduceToInt, g_bm, g_bm'] at *); omega)
set_option maxRecDepth 100000 in
theorem g_X12_areBoth_f_v92 (u : qS) (x : Int32) (y : Int32) (k : qS) (hI : IM u) (hk : IK k u) (hx : 0 ≤ x ∧ x < u.1 1247) (hy : 0 ≤ y ∧ y < u.1 1247) (hys : u.1 1247 ≤ 120) (c12_1 : ¬ (u.2.1 1251 (x : Int32).toNatClampNeg : Int32) < (u.2.1 1251 (y : Int32).toNatClampNeg)) (c27_17 : (u.2.1 1251 (x : Int32).toNatClampNeg : Int32) = (u.2.1 1251 (y : Int32).toNatClampNeg)) (c32_33 : y ≤ (x : Int32)) (c43_34 : (y : Int32) = x) (hb_42 : 0 ≤ (u.2.1 1248 (x : Int32).toNatClampNeg) ∧ (u.2.1 1248 (x : Int32).toNatClampNeg) < u.1 1232) (hs_43 : 0 ≤ u.1 1232 ∧ u.1 1232 ≤ 20) : vp_in (x) 120 := by
  have hz1247 := hI.1.s1247
  refine g_in ?_ ?_ <;> ((try simp only [g_m1, Int32.lt_iff_toInt_lt, Int32.le_iff_toInt_le, ← Int32.toInt_inj, Int32.toInt_add, Int32.toInt_sub, Int32.toInt_mul, Int32.toInt_neg, Int32.reduceToInt, g_bm, g_bm'] at *); omega)
set_option maxRecDepth 100000 in
theorem g_X12_areBoth_f_v93 (u : qS) (x : Int32) (y : Int32) (k : qS) (hI : IM u) (hk : IK k u) (hx : 0 ≤ x ∧ x < u.1 1247) (hy : 0 ≤ y ∧ y < u.1 1247) (hys : u.1 1247 ≤ 120) (c12_1 : ¬ (u.2.1 1251 (x : Int32).toNatClampNeg : Int32) < (u.2.1 1251 (y : Int32).toNatClampNeg)) (c27_17 : (u.2.1 1251 (x : Int32).toNatClampNeg : Int32) = (u.2.1 1251 (y : Int32).toNatClampNeg)) (c32_33 : y ≤ (x : Int32)) (c43_34 : (y : Int32) = x) (hb_42 : 0 ≤ (u.2.1 1248 (x : Int32).toNatClampNeg) ∧ (u.2.1 1248 (x : Int32).toNatClampNeg) < u.1 1232) (hs_43 : 0 ≤ u.1 1232 ∧ u.1 1232 ≤ 20) : 0 ≤ x ∧ x < u.1 1247 := by
  have hz1247 := hI.1.s1247
  first | omega | ((try simp only [g_m1, Int32.lt_iff_toInt_lt, Int32.le_iff_toInt_le, ← Int32.toInt_inj, Int32.reduceToInt] at *); omega) | ((try simp only [g_m1, Int32.lt_iff_toInt_lt, Int32.le_iff_toInt_le, ← Int32.toInt_inj, Int32.reduceToInt] at *); omega) | ((try simp only [g_m1, Int32.lt_iff_toInt_lt, Int32.le_iff_toInt_le, ← Int32.toInt_inj, Int32.toInt_add, Int32.toInt_sub, Int32.toInt_mul, Int32.toInt_neg, Int32.reduceToInt, g_bm, g_bm'] at *); omega) | (have qr1 := g_rng x; have qr2 := g_rng y; (try simp only [g_m1, Int32.lt_iff_toInt_lt, Int32.le_iff_toInt_le, ← Int32.toInt_inj, Int32.toInt_add, Int32.toInt_sub, Int32.toInt_mul, Int32.toInt_neg, Int32.reduceToInt, g_bm, g_bm'] at *); omega) | (simp only [g_m1, Int32.lt_iff_toInt_lt, Int32.le_iff_toInt_le, ← Int32.toInt_inj, Int32.toInt_add, Int32.toInt_sub, Int32.toInt_mul, Int32.toInt_neg, Int32.reduceToInt, g_bm, g_bm'] at *; simp at *; omega) | (simp_all; done)
set_option maxRecDepth 100000 in
theorem g_X12_areBoth_f_v94 (u : qS) (x : Int32) (y : Int32) (k : qS) (hI : IM u) (hk : IK k u) (hx : 0 ≤ x ∧ x < u.1 1247) (hy : 0 ≤ y ∧ y < u.1 1247) (hys : u.1 1247 ≤ 120) (c12_1 : ¬ (u.2.1 1251 (x : Int32).toNatClampNeg : Int32) < (u.2.1 1251 (y : Int32).toNatClampNeg)) (c27_17 : (u.2.1 1251 (x : Int32).toNatClampNeg : Int32) = (u.2.1 1251 (y : Int32).toNatClampNeg)) (c32_33 : y ≤ (x : Int32)) (c43_34 : (y : Int32) = x) (hb_42 : 0 ≤ (u.2.1 1248 (x : Int32).toNatClampNeg) ∧ (u.2.1 1248 (x : Int32).toNatClampNeg) < u.1 1232) (hs_43 : 0 ≤ u.1 1232 ∧ u.1 1232 ≤ 20) : vp_in (u.2.1 1248 (x : Int32).toNatClampNeg) 20 := by
  have hz1247 := hI.1.s1247
  refine g_in ?_ ?_ <;> ((try simp only [g_m1, Int32.lt_iff_toInt_lt, Int32.le_iff_toInt_le, ← Int32.toInt_inj, Int32.toInt_add, Int32.toInt_sub, Int32.toInt_mul, Int32.toInt_neg, Int32.reduceToInt, g_bm, g_bm'] at *); omega)
set_option maxRecDepth 100000 in
theorem g_X12_areBoth_f_v95 (u : qS) (x : Int32) (y : Int32) (k : qS) (hI : IM u) (hk : IK k u) (hx : 0 ≤ x ∧ x < u.1 1247) (hy : 0 ≤ y ∧ y < u.1 1247) (hys : u.1 1247 ≤ 120) (c12_1 : ¬ (u.2.1 1251 (x : Int32).toNatClampNeg : Int32) < (u.2.1 1251 (y : Int32).toNatClampNeg)) (c27_17 : (u.2.1 1251 (x : Int32).toNatClampNeg : Int32) = (u.2.1 1251 (y : Int32).toNatClampNeg)) (c32_33 : y ≤ (x : Int32)) (c43_34 : (y : Int32) = x) (hb_42 : 0 ≤ (u.2.1 1248 (x : Int32).toNatClampNeg) ∧ (u.2.1 1248 (x : Int32).toNatClampNeg) < u.1 1232) (hs_43 : 0 ≤ u.1 1232 ∧ u.1 1232 ≤ 20) : vp_in (y) 120 := by
  have hz1247 := hI.1.s1247
  refine g_in ?_ ?_ <;> ((try simp only [g_m1, Int32.lt_iff_toInt_lt, Int32.le_iff_toInt_le, ← Int32.toInt_inj, Int32.toInt_add, Int32.toInt_sub, Int32.toInt_mul, Int32.toInt_neg, Int32.reduceToInt, g_bm, g_bm'] at *); omega)
set_option maxRecDepth 100000 in
theorem g_X12_areBoth_f_v96 (u : qS) (x : Int32) (y : Int32) (k : qS) (hI : IM u) (hk : IK k u) (hx : 0 ≤ x ∧ x < u.1 1247) (hy : 0 ≤ y ∧ y < u.1 1247) (hys : u.1 1247 ≤ 120) (c12_1 : ¬ (u.2.1 1251 (x : Int32).toNatClampNeg : Int32) < (u.2.1 1251 (y : Int32).toNatClampNeg)) (c27_17 : (u.2.1 1251 (x : Int32).toNatClampNeg : Int32) = (u.2.1 1251 (y : Int32).toNatClampNeg)) (c32_33 : y ≤ (x : Int32)) (c43_34 : (y : Int32) = x) (hb_42 : 0 ≤ (u.2.1 1248 (x : Int32).toNatClampNeg) ∧ (u.2.1 1248 (x : Int32).toNatClampNeg) < u.1 1232) (hs_43 : 0 ≤ u.1 1232 ∧ u.1 1232 ≤ 20) : 0 ≤ y ∧ y < u.1 1247 := by
  have hz1247 := hI.1.s1247
  first | omega | ((try simp only [g_m1, Int32.lt_iff_toInt_lt, Int32.le_iff_toInt_le, ← Int32.toInt_inj, Int32.reduceToInt] at *); omega) | ((try simp only [g_m1, Int32.lt_iff_toInt_lt, Int32.le_iff_toInt_le, ← Int32.toInt_inj, Int32.reduceToInt] at *); omega) | ((try simp only [g_m1, Int32.lt_iff_toInt_lt, Int32.le_iff_toInt_le, ← Int32.toInt_inj, Int32.toInt_add, Int32.toInt_sub, Int32.toInt_mul, Int32.toInt_neg, Int32.reduceToInt, g_bm, g_bm'] at *); omega) | (have qr1 := g_rng x; have qr2 := g_rng y; (try simp only [g_m1, Int32.lt_iff_toInt_lt, Int32.le_iff_toInt_le, ← Int32.toInt_inj, Int32.toInt_add, Int32.toInt_sub, Int32.toInt_mul, Int32.toInt_neg, Int32.reduceToInt, g_bm, g_bm'] at *); omega) | (simp only [g_m1, Int32.lt_iff_toInt_lt, Int32.le_iff_toInt_le, ← Int32.toInt_inj, Int32.toInt_add, Int32.toInt_sub, Int32.toInt_mul, Int32.toInt_neg, Int32.reduceToInt, g_bm, g_bm'] at *; simp at *; omega) | (simp_all; done)
set_option maxRecDepth 100000 in
theorem g_X12_areBoth_f_v97 (u : qS) (x : Int32) (y : Int32) (k : qS) (hI : IM u) (hk : IK k u) (hx : 0 ≤ x ∧ x < u.1 1247) (hy : 0 ≤ y ∧ y < u.1 1247) (hys : u.1 1247 ≤ 120) (c12_1 : ¬ (u.2.1 1251 (x : Int32).toNatClampNeg : Int32) < (u.2.1 1251 (y : Int32).toNatClampNeg)) (c27_17 : (u.2.1 1251 (x : Int32).toNatClampNeg : Int32) = (u.2.1 1251 (y : Int32).toNatClampNeg)) (c32_33 : y ≤ (x : Int32)) (c43_34 : (y : Int32) = x) (hb_42 : 0 ≤ (u.2.1 1248 (x : Int32).toNatClampNeg) ∧ (u.2.1 1248 (x : Int32).toNatClampNeg) < u.1 1232) (hs_43 : 0 ≤ u.1 1232 ∧ u.1 1232 ≤ 20) (hb_44 : 0 ≤ (u.2.1 1248 (y : Int32).toNatClampNeg) ∧ (u.2.1 1248 (y : Int32).toNatClampNeg) < u.1 1232) : vp_in (u.2.1 1248 (y : Int32).toNatClampNeg) 20 := by
  have hz1247 := hI.1.s1247
  refine g_in ?_ ?_ <;> ((try simp only [g_m1, Int32.lt_iff_toInt_lt, Int32.le_iff_toInt_le, ← Int32.toInt_inj, Int32.toInt_add, Int32.toInt_sub, Int32.toInt_mul, Int32.toInt_neg, Int32.reduceToInt, g_bm, g_bm'] at *); omega)
set_option maxRecDepth 100000 in
theorem g_X12_areBoth_f_v98 (u : qS) (x : Int32) (y : Int32) (k : qS) (hI : IM u) (hk : IK k u) (hx : 0 ≤ x ∧ x < u.1 1247) (hy : 0 ≤ y ∧ y < u.1 1247) (hys : u.1 1247 ≤ 120) (c12_1 : ¬ (u.2.1 1251 (x : Int32).toNatClampNeg : Int32) < (u.2.1 1251 (y : Int32).toNatClampNeg)) (c27_17 : (u.2.1 1251 (x : Int32).toNatClampNeg : Int32) = (u.2.1 1251 (y : Int32).toNatClampNeg)) (c32_33 : y ≤ (x : Int32)) (c43_34 : (y : Int32) = x) (hb_42 : 0 ≤ (u.2.1 1248 (x : Int32).toNatClampNeg) ∧ (u.2.1 1248 (x : Int32).toNatClampNeg) < u.1 1232) (hs_43 : 0 ≤ u.1 1232 ∧ u.1 1232 ≤ 20) (hb_44 : 0 ≤ (u.2.1 1248 (y : Int32).toNatClampNeg) ∧ (u.2.1 1248 (y : Int32).toNatClampNeg) < u.1 1232) : vp_in (y) 120 := by
  have hz1247 := hI.1.s1247
  refine g_in ?_ ?_ <;> ((try simp only [g_m1, Int32.lt_iff_toInt_lt, Int32.le_iff_toInt_le, ← Int32.toInt_inj, Int32.toInt_add, Int32.toInt_sub, Int32.toInt_mul, Int32.toInt_neg, Int32.reduceToInt, g_bm, g_bm'] at *); omega)
set_option maxRecDepth 100000 in
theorem g_X12_areBoth_f_v99 (u : qS) (x : Int32) (y : Int32) (k : qS) (hI : IM u) (hk : IK k u) (hx : 0 ≤ x ∧ x < u.1 1247) (hy : 0 ≤ y ∧ y < u.1 1247) (hys : u.1 1247 ≤ 120) (c12_1 : ¬ (u.2.1 1251 (x : Int32).toNatClampNeg : Int32) < (u.2.1 1251 (y : Int32).toNatClampNeg)) (c27_17 : (u.2.1 1251 (x : Int32).toNatClampNeg : Int32) = (u.2.1 1251 (y : Int32).toNatClampNeg)) (c32_33 : y ≤ (x : Int32)) (c43_34 : (y : Int32) = x) (hb_42 : 0 ≤ (u.2.1 1248 (x : Int32).toNatClampNeg) ∧ (u.2.1 1248 (x : Int32).toNatClampNeg) < u.1 1232) (hs_43 : 0 ≤ u.1 1232 ∧ u.1 1232 ≤ 20) (hb_44 : 0 ≤ (u.2.1 1248 (y : Int32).toNatClampNeg) ∧ (u.2.1 1248 (y : Int32).toNatClampNeg) < u.1 1232) : 0 ≤ y ∧ y < u.1 1247 := by
  have hz1247 := hI.1.s1247
  first | omega | ((try simp only [g_m1, Int32.lt_iff_toInt_lt, Int32.le_iff_toInt_le, ← Int32.toInt_inj, Int32.reduceToInt] at *); omega) | ((try simp only [g_m1, Int32.lt_iff_toInt_lt, Int32.le_iff_toInt_le, ← Int32.toInt_inj, Int32.reduceToInt] at *); omega) | ((try simp only [g_m1, Int32.lt_iff_toInt_lt, Int32.le_iff_toInt_le, ← Int32.toInt_inj, Int32.toInt_add, Int32.toInt_sub, Int32.toInt_mul, Int32.toInt_neg, Int32.reduceToInt, g_bm, g_bm'] at *); omega) | (have qr1 := g_rng x; have qr2 := g_rng y; (try simp only [g_m1, Int32.lt_iff_toInt_lt, Int32.le_iff_toInt_le, ← Int32.toInt_inj, Int32.toInt_add, Int32.toInt_sub, Int32.toInt_mul, Int32.toInt_neg, Int32.reduceToInt, g_bm, g_bm'] at *); omega) | (simp only [g_m1, Int32.lt_iff_toInt_lt, Int32.le_iff_toInt_le, ← Int32.toInt_inj, Int32.toInt_add, Int32.toInt_sub, Int32.toInt_mul, Int32.toInt_neg, Int32.reduceToInt, g_bm, g_bm'] at *; simp at *; omega) | (simp_all; done)
set_option maxRecDepth 100000 in
theorem g_X12_areBoth_f_v100 (u : qS) (x : Int32) (y : Int32) (k : qS) (hI : IM u) (hk : IK k u) (hx : 0 ≤ x ∧ x < u.1 1247) (hy : 0 ≤ y ∧ y < u.1 1247) (hys : u.1 1247 ≤ 120) (c12_1 : ¬ (u.2.1 1251 (x : Int32).toNatClampNeg : Int32) < (u.2.1 1251 (y : Int32).toNatClampNeg)) (c27_17 : (u.2.1 1251 (x : Int32).toNatClampNeg : Int32) = (u.2.1 1251 (y : Int32).toNatClampNeg)) (c32_33 : y ≤ (x : Int32)) (c43_34 : (y : Int32) = x) (hb_42 : 0 ≤ (u.2.1 1248 (x : Int32).toNatClampNeg) ∧ (u.2.1 1248 (x : Int32).toNatClampNeg) < u.1 1232) (hs_43 : 0 ≤ u.1 1232 ∧ u.1 1232 ≤ 20) (hb_44 : 0 ≤ (u.2.1 1248 (y : Int32).toNatClampNeg) ∧ (u.2.1 1248 (y : Int32).toNatClampNeg) < u.1 1232) : vp_in (u.2.1 1248 (y : Int32).toNatClampNeg) 20 := by
  have hz1247 := hI.1.s1247
  refine g_in ?_ ?_ <;> ((try simp only [g_m1, Int32.lt_iff_toInt_lt, Int32.le_iff_toInt_le, ← Int32.toInt_inj, Int32.toInt_add, Int32.toInt_sub, Int32.toInt_mul, Int32.toInt_neg, Int32.reduceToInt, g_bm, g_bm'] at *); omega)
set_option maxRecDepth 100000 in
theorem g_X12_areBoth_f_v101 (u : qS) (x : Int32) (y : Int32) (k : qS) (r_47 : Int32) (hI : IM u) (hk : IK k u) (hx : 0 ≤ x ∧ x < u.1 1247) (hy : 0 ≤ y ∧ y < u.1 1247) (hys : u.1 1247 ≤ 120) (c12_1 : ¬ (u.2.1 1251 (x : Int32).toNatClampNeg : Int32) < (u.2.1 1251 (y : Int32).toNatClampNeg)) (c27_17 : (u.2.1 1251 (x : Int32).toNatClampNeg : Int32) = (u.2.1 1251 (y : Int32).toNatClampNeg)) (c32_33 : y ≤ (x : Int32)) (c43_34 : (y : Int32) = x) (hb_42 : 0 ≤ (u.2.1 1248 (x : Int32).toNatClampNeg) ∧ (u.2.1 1248 (x : Int32).toNatClampNeg) < u.1 1232) (hs_43 : 0 ≤ u.1 1232 ∧ u.1 1232 ≤ 20) (hb_44 : 0 ≤ (u.2.1 1248 (y : Int32).toNatClampNeg) ∧ (u.2.1 1248 (y : Int32).toNatClampNeg) < u.1 1232) (hw_46 : r_47 = f_wb (u.2.1 1233 (u.2.1 1248 (x : Int32).toNatClampNeg : Int32).toNatClampNeg) (u.2.1 1234 (u.2.1 1248 (x : Int32).toNatClampNeg : Int32).toNatClampNeg) (u.2.1 1233 (u.2.1 1248 (y : Int32).toNatClampNeg : Int32).toNatClampNeg) (u.2.1 1234 (u.2.1 1248 (y : Int32).toNatClampNeg : Int32).toNatClampNeg)) : vp_in (y) 120 := by
  have hz1247 := hI.1.s1247
  refine g_in ?_ ?_ <;> ((try simp only [g_m1, Int32.lt_iff_toInt_lt, Int32.le_iff_toInt_le, ← Int32.toInt_inj, Int32.toInt_add, Int32.toInt_sub, Int32.toInt_mul, Int32.toInt_neg, Int32.reduceToInt, g_bm, g_bm'] at *); omega)
set_option maxRecDepth 100000 in
theorem g_X12_areBoth_f_v102 (u : qS) (x : Int32) (y : Int32) (k : qS) (r_47 : Int32) (hI : IM u) (hk : IK k u) (hx : 0 ≤ x ∧ x < u.1 1247) (hy : 0 ≤ y ∧ y < u.1 1247) (hys : u.1 1247 ≤ 120) (c12_1 : ¬ (u.2.1 1251 (x : Int32).toNatClampNeg : Int32) < (u.2.1 1251 (y : Int32).toNatClampNeg)) (c27_17 : (u.2.1 1251 (x : Int32).toNatClampNeg : Int32) = (u.2.1 1251 (y : Int32).toNatClampNeg)) (c32_33 : y ≤ (x : Int32)) (c43_34 : (y : Int32) = x) (hb_42 : 0 ≤ (u.2.1 1248 (x : Int32).toNatClampNeg) ∧ (u.2.1 1248 (x : Int32).toNatClampNeg) < u.1 1232) (hs_43 : 0 ≤ u.1 1232 ∧ u.1 1232 ≤ 20) (hb_44 : 0 ≤ (u.2.1 1248 (y : Int32).toNatClampNeg) ∧ (u.2.1 1248 (y : Int32).toNatClampNeg) < u.1 1232) (hw_46 : r_47 = f_wb (u.2.1 1233 (u.2.1 1248 (x : Int32).toNatClampNeg : Int32).toNatClampNeg) (u.2.1 1234 (u.2.1 1248 (x : Int32).toNatClampNeg : Int32).toNatClampNeg) (u.2.1 1233 (u.2.1 1248 (y : Int32).toNatClampNeg : Int32).toNatClampNeg) (u.2.1 1234 (u.2.1 1248 (y : Int32).toNatClampNeg : Int32).toNatClampNeg)) : vp_in (y) 120 := by
  have hz1247 := hI.1.s1247
  refine g_in ?_ ?_ <;> ((try simp only [g_m1, Int32.lt_iff_toInt_lt, Int32.le_iff_toInt_le, ← Int32.toInt_inj, Int32.toInt_add, Int32.toInt_sub, Int32.toInt_mul, Int32.toInt_neg, Int32.reduceToInt, g_bm, g_bm'] at *); omega)
set_option maxRecDepth 100000 in
theorem g_X12_areBoth_f_v103 (u : qS) (x : Int32) (y : Int32) (k : qS) (r_47 : Int32) (hI : IM u) (hk : IK k u) (hx : 0 ≤ x ∧ x < u.1 1247) (hy : 0 ≤ y ∧ y < u.1 1247) (hys : u.1 1247 ≤ 120) (c12_1 : ¬ (u.2.1 1251 (x : Int32).toNatClampNeg : Int32) < (u.2.1 1251 (y : Int32).toNatClampNeg)) (c27_17 : (u.2.1 1251 (x : Int32).toNatClampNeg : Int32) = (u.2.1 1251 (y : Int32).toNatClampNeg)) (c32_33 : y ≤ (x : Int32)) (c43_34 : (y : Int32) = x) (hb_42 : 0 ≤ (u.2.1 1248 (x : Int32).toNatClampNeg) ∧ (u.2.1 1248 (x : Int32).toNatClampNeg) < u.1 1232) (hs_43 : 0 ≤ u.1 1232 ∧ u.1 1232 ≤ 20) (hb_44 : 0 ≤ (u.2.1 1248 (y : Int32).toNatClampNeg) ∧ (u.2.1 1248 (y : Int32).toNatClampNeg) < u.1 1232) (hw_46 : r_47 = f_wb (u.2.1 1233 (u.2.1 1248 (x : Int32).toNatClampNeg : Int32).toNatClampNeg) (u.2.1 1234 (u.2.1 1248 (x : Int32).toNatClampNeg : Int32).toNatClampNeg) (u.2.1 1233 (u.2.1 1248 (y : Int32).toNatClampNeg : Int32).toNatClampNeg) (u.2.1 1234 (u.2.1 1248 (y : Int32).toNatClampNeg : Int32).toNatClampNeg)) : vp_in (y) 120 := by
  have hz1247 := hI.1.s1247
  refine g_in ?_ ?_ <;> ((try simp only [g_m1, Int32.lt_iff_toInt_lt, Int32.le_iff_toInt_le, ← Int32.toInt_inj, Int32.toInt_add, Int32.toInt_sub, Int32.toInt_mul, Int32.toInt_neg, Int32.reduceToInt, g_bm, g_bm'] at *); omega)
set_option maxRecDepth 100000 in
theorem g_X12_areBoth_f_v104 (u : qS) (x : Int32) (y : Int32) (k : qS) (r_47 : Int32) (hI : IM u) (hk : IK k u) (hx : 0 ≤ x ∧ x < u.1 1247) (hy : 0 ≤ y ∧ y < u.1 1247) (hys : u.1 1247 ≤ 120) (c12_1 : ¬ (u.2.1 1251 (x : Int32).toNatClampNeg : Int32) < (u.2.1 1251 (y : Int32).toNatClampNeg)) (c27_17 : (u.2.1 1251 (x : Int32).toNatClampNeg : Int32) = (u.2.1 1251 (y : Int32).toNatClampNeg)) (c32_33 : y ≤ (x : Int32)) (c43_34 : (y : Int32) = x) (hb_42 : 0 ≤ (u.2.1 1248 (x : Int32).toNatClampNeg) ∧ (u.2.1 1248 (x : Int32).toNatClampNeg) < u.1 1232) (hs_43 : 0 ≤ u.1 1232 ∧ u.1 1232 ≤ 20) (hb_44 : 0 ≤ (u.2.1 1248 (y : Int32).toNatClampNeg) ∧ (u.2.1 1248 (y : Int32).toNatClampNeg) < u.1 1232) (hw_46 : r_47 = f_wb (u.2.1 1233 (u.2.1 1248 (x : Int32).toNatClampNeg : Int32).toNatClampNeg) (u.2.1 1234 (u.2.1 1248 (x : Int32).toNatClampNeg : Int32).toNatClampNeg) (u.2.1 1233 (u.2.1 1248 (y : Int32).toNatClampNeg : Int32).toNatClampNeg) (u.2.1 1234 (u.2.1 1248 (y : Int32).toNatClampNeg : Int32).toNatClampNeg)) (c130_48 : (u.2.1 1251 (y : Int32).toNatClampNeg : Int32) < (((u.2.1 1251 (y : Int32).toNatClampNeg) + (u.2.1 1252 (y : Int32).toNatClampNeg)) + ((u.1 1242) * r_47))) : (0 = (1 : Int32) ∧ (f_bo k x y)) ∨ (0 = (0 : Int32) ∧ ¬ (f_bo k x y)) := by
  have hz1247 := hI.1.s1247
  have k1242 := hk.i 1242 (by decide)
  have k1233 := hk.r 1233 (by decide)
  have k1234 := hk.r 1234 (by decide)
  have k1248 := hk.r 1248 (by decide)
  have k1251 := hk.r 1251 (by decide)
  have k1252 := hk.r 1252 (by decide)
  unfold f_bo f_sc f_fs; rw [← k1233, ← k1234, ← k1242, ← k1248, ← k1251, ← k1252]; clear hk; subst_vars
  first | (refine Or.inl ⟨rfl, ?_⟩; (repeat' split) <;> first | contradiction | ((try simp only [g_m1, Int32.lt_iff_toInt_lt, Int32.le_iff_toInt_le, ← Int32.toInt_inj, Int32.reduceToInt] at *); omega)) | (refine Or.inr ⟨rfl, ?_⟩; (repeat' split) <;> first | contradiction | ((try simp only [g_m1, Int32.lt_iff_toInt_lt, Int32.le_iff_toInt_le, ← Int32.toInt_inj, Int32.reduceToInt] at *); omega))
set_option maxRecDepth 100000 in
theorem g_X12_areBoth_f_v105 (u : qS) (x : Int32) (y : Int32) (k : qS) (r_47 : Int32) (hI : IM u) (hk : IK k u) (hx : 0 ≤ x ∧ x < u.1 1247) (hy : 0 ≤ y ∧ y < u.1 1247) (hys : u.1 1247 ≤ 120) (c12_1 : ¬ (u.2.1 1251 (x : Int32).toNatClampNeg : Int32) < (u.2.1 1251 (y : Int32).toNatClampNeg)) (c27_17 : (u.2.1 1251 (x : Int32).toNatClampNeg : Int32) = (u.2.1 1251 (y : Int32).toNatClampNeg)) (c32_33 : y ≤ (x : Int32)) (c43_34 : (y : Int32) = x) (hb_42 : 0 ≤ (u.2.1 1248 (x : Int32).toNatClampNeg) ∧ (u.2.1 1248 (x : Int32).toNatClampNeg) < u.1 1232) (hs_43 : 0 ≤ u.1 1232 ∧ u.1 1232 ≤ 20) (hb_44 : 0 ≤ (u.2.1 1248 (y : Int32).toNatClampNeg) ∧ (u.2.1 1248 (y : Int32).toNatClampNeg) < u.1 1232) (hw_46 : r_47 = f_wb (u.2.1 1233 (u.2.1 1248 (x : Int32).toNatClampNeg : Int32).toNatClampNeg) (u.2.1 1234 (u.2.1 1248 (x : Int32).toNatClampNeg : Int32).toNatClampNeg) (u.2.1 1233 (u.2.1 1248 (y : Int32).toNatClampNeg : Int32).toNatClampNeg) (u.2.1 1234 (u.2.1 1248 (y : Int32).toNatClampNeg : Int32).toNatClampNeg)) (c130_48 : ¬ (u.2.1 1251 (y : Int32).toNatClampNeg : Int32) < (((u.2.1 1251 (y : Int32).toNatClampNeg) + (u.2.1 1252 (y : Int32).toNatClampNeg)) + ((u.1 1242) * r_47))) : (1 = (1 : Int32) ∧ (f_bo k x y)) ∨ (1 = (0 : Int32) ∧ ¬ (f_bo k x y)) := by
  have hz1247 := hI.1.s1247
  have k1242 := hk.i 1242 (by decide)
  have k1233 := hk.r 1233 (by decide)
  have k1234 := hk.r 1234 (by decide)
  have k1248 := hk.r 1248 (by decide)
  have k1251 := hk.r 1251 (by decide)
  have k1252 := hk.r 1252 (by decide)
  unfold f_bo f_sc f_fs; rw [← k1233, ← k1234, ← k1242, ← k1248, ← k1251, ← k1252]; clear hk; subst_vars
  first | (refine Or.inl ⟨rfl, ?_⟩; (repeat' split) <;> first | contradiction | ((try simp only [g_m1, Int32.lt_iff_toInt_lt, Int32.le_iff_toInt_le, ← Int32.toInt_inj, Int32.reduceToInt] at *); omega)) | (refine Or.inr ⟨rfl, ?_⟩; (repeat' split) <;> first | contradiction | ((try simp only [g_m1, Int32.lt_iff_toInt_lt, Int32.le_iff_toInt_le, ← Int32.toInt_inj, Int32.reduceToInt] at *); omega))
set_option maxRecDepth 100000 in
theorem g_X12_areBoth_f_v106 (u : qS) (x : Int32) (y : Int32) (k : qS) (hI : IM u) (hk : IK k u) (hx : 0 ≤ x ∧ x < u.1 1247) (hy : 0 ≤ y ∧ y < u.1 1247) (hys : u.1 1247 ≤ 120) (c12_1 : ¬ (u.2.1 1251 (x : Int32).toNatClampNeg : Int32) < (u.2.1 1251 (y : Int32).toNatClampNeg)) (c27_17 : (u.2.1 1251 (x : Int32).toNatClampNeg : Int32) = (u.2.1 1251 (y : Int32).toNatClampNeg)) (c32_33 : ¬ y ≤ (x : Int32)) (c43_49 : ¬ (x : Int32) = x) : vp_in (x) 120 := by
  have hz1247 := hI.1.s1247
  refine g_in ?_ ?_ <;> ((try simp only [g_m1, Int32.lt_iff_toInt_lt, Int32.le_iff_toInt_le, ← Int32.toInt_inj, Int32.toInt_add, Int32.toInt_sub, Int32.toInt_mul, Int32.toInt_neg, Int32.reduceToInt, g_bm, g_bm'] at *); omega)
set_option maxRecDepth 100000 in
theorem g_X12_areBoth_f_v107 (u : qS) (x : Int32) (y : Int32) (k : qS) (hI : IM u) (hk : IK k u) (hx : 0 ≤ x ∧ x < u.1 1247) (hy : 0 ≤ y ∧ y < u.1 1247) (hys : u.1 1247 ≤ 120) (c12_1 : ¬ (u.2.1 1251 (x : Int32).toNatClampNeg : Int32) < (u.2.1 1251 (y : Int32).toNatClampNeg)) (c27_17 : (u.2.1 1251 (x : Int32).toNatClampNeg : Int32) = (u.2.1 1251 (y : Int32).toNatClampNeg)) (c32_33 : ¬ y ≤ (x : Int32)) (c43_49 : ¬ (x : Int32) = x) : 0 ≤ x ∧ x < u.1 1247 := by
  have hz1247 := hI.1.s1247
  first | omega | ((try simp only [g_m1, Int32.lt_iff_toInt_lt, Int32.le_iff_toInt_le, ← Int32.toInt_inj, Int32.reduceToInt] at *); omega) | ((try simp only [g_m1, Int32.lt_iff_toInt_lt, Int32.le_iff_toInt_le, ← Int32.toInt_inj, Int32.reduceToInt] at *); omega) | ((try simp only [g_m1, Int32.lt_iff_toInt_lt, Int32.le_iff_toInt_le, ← Int32.toInt_inj, Int32.toInt_add, Int32.toInt_sub, Int32.toInt_mul, Int32.toInt_neg, Int32.reduceToInt, g_bm, g_bm'] at *); omega) | (have qr1 := g_rng x; have qr2 := g_rng y; (try simp only [g_m1, Int32.lt_iff_toInt_lt, Int32.le_iff_toInt_le, ← Int32.toInt_inj, Int32.toInt_add, Int32.toInt_sub, Int32.toInt_mul, Int32.toInt_neg, Int32.reduceToInt, g_bm, g_bm'] at *); omega) | (simp only [g_m1, Int32.lt_iff_toInt_lt, Int32.le_iff_toInt_le, ← Int32.toInt_inj, Int32.toInt_add, Int32.toInt_sub, Int32.toInt_mul, Int32.toInt_neg, Int32.reduceToInt, g_bm, g_bm'] at *; simp at *; omega) | (simp_all; done)
set_option maxRecDepth 100000 in
theorem g_X12_areBoth_f_v108 (u : qS) (x : Int32) (y : Int32) (k : qS) (hI : IM u) (hk : IK k u) (hx : 0 ≤ x ∧ x < u.1 1247) (hy : 0 ≤ y ∧ y < u.1 1247) (hys : u.1 1247 ≤ 120) (c12_1 : ¬ (u.2.1 1251 (x : Int32).toNatClampNeg : Int32) < (u.2.1 1251 (y : Int32).toNatClampNeg)) (c27_17 : (u.2.1 1251 (x : Int32).toNatClampNeg : Int32) = (u.2.1 1251 (y : Int32).toNatClampNeg)) (c32_33 : ¬ y ≤ (x : Int32)) (c43_49 : ¬ (x : Int32) = x) (hb_50 : 0 ≤ (u.2.1 1248 (x : Int32).toNatClampNeg) ∧ (u.2.1 1248 (x : Int32).toNatClampNeg) < u.1 1232) (hs_51 : 0 ≤ u.1 1232 ∧ u.1 1232 ≤ 20) : vp_in (u.2.1 1248 (x : Int32).toNatClampNeg) 20 := by
  have hz1247 := hI.1.s1247
  refine g_in ?_ ?_ <;> ((try simp only [g_m1, Int32.lt_iff_toInt_lt, Int32.le_iff_toInt_le, ← Int32.toInt_inj, Int32.toInt_add, Int32.toInt_sub, Int32.toInt_mul, Int32.toInt_neg, Int32.reduceToInt, g_bm, g_bm'] at *); omega)
set_option maxRecDepth 100000 in
theorem g_X12_areBoth_f_v109 (u : qS) (x : Int32) (y : Int32) (k : qS) (hI : IM u) (hk : IK k u) (hx : 0 ≤ x ∧ x < u.1 1247) (hy : 0 ≤ y ∧ y < u.1 1247) (hys : u.1 1247 ≤ 120) (c12_1 : ¬ (u.2.1 1251 (x : Int32).toNatClampNeg : Int32) < (u.2.1 1251 (y : Int32).toNatClampNeg)) (c27_17 : (u.2.1 1251 (x : Int32).toNatClampNeg : Int32) = (u.2.1 1251 (y : Int32).toNatClampNeg)) (c32_33 : ¬ y ≤ (x : Int32)) (c43_49 : ¬ (x : Int32) = x) (hb_50 : 0 ≤ (u.2.1 1248 (x : Int32).toNatClampNeg) ∧ (u.2.1 1248 (x : Int32).toNatClampNeg) < u.1 1232) (hs_51 : 0 ≤ u.1 1232 ∧ u.1 1232 ≤ 20) : vp_in (x) 120 := by
  have hz1247 := hI.1.s1247
  refine g_in ?_ ?_ <;> ((try simp only [g_m1, Int32.lt_iff_toInt_lt, Int32.le_iff_toInt_le, ← Int32.toInt_inj, Int32.toInt_add, Int32.toInt_sub, Int32.toInt_mul, Int32.toInt_neg, Int32.reduceToInt, g_bm, g_bm'] at *); omega)
set_option maxRecDepth 100000 in
theorem g_X12_areBoth_f_v110 (u : qS) (x : Int32) (y : Int32) (k : qS) (hI : IM u) (hk : IK k u) (hx : 0 ≤ x ∧ x < u.1 1247) (hy : 0 ≤ y ∧ y < u.1 1247) (hys : u.1 1247 ≤ 120) (c12_1 : ¬ (u.2.1 1251 (x : Int32).toNatClampNeg : Int32) < (u.2.1 1251 (y : Int32).toNatClampNeg)) (c27_17 : (u.2.1 1251 (x : Int32).toNatClampNeg : Int32) = (u.2.1 1251 (y : Int32).toNatClampNeg)) (c32_33 : ¬ y ≤ (x : Int32)) (c43_49 : ¬ (x : Int32) = x) (hb_50 : 0 ≤ (u.2.1 1248 (x : Int32).toNatClampNeg) ∧ (u.2.1 1248 (x : Int32).toNatClampNeg) < u.1 1232) (hs_51 : 0 ≤ u.1 1232 ∧ u.1 1232 ≤ 20) : 0 ≤ x ∧ x < u.1 1247 := by
  have hz1247 := hI.1.s1247
  first | omega | ((try simp only [g_m1, Int32.lt_iff_toInt_lt, Int32.le_iff_toInt_le, ← Int32.toInt_inj, Int32.reduceToInt] at *); omega) | ((try simp only [g_m1, Int32.lt_iff_toInt_lt, Int32.le_iff_toInt_le, ← Int32.toInt_inj, Int32.reduceToInt] at *); omega) | ((try simp only [g_m1, Int32.lt_iff_toInt_lt, Int32.le_iff_toInt_le, ← Int32.toInt_inj, Int32.toInt_add, Int32.toInt_sub, Int32.toInt_mul, Int32.toInt_neg, Int32.reduceToInt, g_bm, g_bm'] at *); omega) | (have qr1 := g_rng x; have qr2 := g_rng y; (try simp only [g_m1, Int32.lt_iff_toInt_lt, Int32.le_iff_toInt_le, ← Int32.toInt_inj, Int32.toInt_add, Int32.toInt_sub, Int32.toInt_mul, Int32.toInt_neg, Int32.reduceToInt, g_bm, g_bm'] at *); omega) | (simp only [g_m1, Int32.lt_iff_toInt_lt, Int32.le_iff_toInt_le, ← Int32.toInt_inj, Int32.toInt_add, Int32.toInt_sub, Int32.toInt_mul, Int32.toInt_neg, Int32.reduceToInt, g_bm, g_bm'] at *; simp at *; omega) | (simp_all; done)
set_option maxRecDepth 100000 in
theorem g_X12_areBoth_f_v111 (u : qS) (x : Int32) (y : Int32) (k : qS) (hI : IM u) (hk : IK k u) (hx : 0 ≤ x ∧ x < u.1 1247) (hy : 0 ≤ y ∧ y < u.1 1247) (hys : u.1 1247 ≤ 120) (c12_1 : ¬ (u.2.1 1251 (x : Int32).toNatClampNeg : Int32) < (u.2.1 1251 (y : Int32).toNatClampNeg)) (c27_17 : (u.2.1 1251 (x : Int32).toNatClampNeg : Int32) = (u.2.1 1251 (y : Int32).toNatClampNeg)) (c32_33 : ¬ y ≤ (x : Int32)) (c43_49 : ¬ (x : Int32) = x) (hb_50 : 0 ≤ (u.2.1 1248 (x : Int32).toNatClampNeg) ∧ (u.2.1 1248 (x : Int32).toNatClampNeg) < u.1 1232) (hs_51 : 0 ≤ u.1 1232 ∧ u.1 1232 ≤ 20) : vp_in (u.2.1 1248 (x : Int32).toNatClampNeg) 20 := by
  have hz1247 := hI.1.s1247
  refine g_in ?_ ?_ <;> ((try simp only [g_m1, Int32.lt_iff_toInt_lt, Int32.le_iff_toInt_le, ← Int32.toInt_inj, Int32.toInt_add, Int32.toInt_sub, Int32.toInt_mul, Int32.toInt_neg, Int32.reduceToInt, g_bm, g_bm'] at *); omega)
set_option maxRecDepth 100000 in
theorem g_X12_areBoth_f_v112 (u : qS) (x : Int32) (y : Int32) (k : qS) (hI : IM u) (hk : IK k u) (hx : 0 ≤ x ∧ x < u.1 1247) (hy : 0 ≤ y ∧ y < u.1 1247) (hys : u.1 1247 ≤ 120) (c12_1 : ¬ (u.2.1 1251 (x : Int32).toNatClampNeg : Int32) < (u.2.1 1251 (y : Int32).toNatClampNeg)) (c27_17 : (u.2.1 1251 (x : Int32).toNatClampNeg : Int32) = (u.2.1 1251 (y : Int32).toNatClampNeg)) (c32_33 : ¬ y ≤ (x : Int32)) (c43_49 : ¬ (x : Int32) = x) (hb_50 : 0 ≤ (u.2.1 1248 (x : Int32).toNatClampNeg) ∧ (u.2.1 1248 (x : Int32).toNatClampNeg) < u.1 1232) (hs_51 : 0 ≤ u.1 1232 ∧ u.1 1232 ≤ 20) : vp_in (y) 120 := by
  have hz1247 := hI.1.s1247
  refine g_in ?_ ?_ <;> ((try simp only [g_m1, Int32.lt_iff_toInt_lt, Int32.le_iff_toInt_le, ← Int32.toInt_inj, Int32.toInt_add, Int32.toInt_sub, Int32.toInt_mul, Int32.toInt_neg, Int32.reduceToInt, g_bm, g_bm'] at *); omega)
set_option maxRecDepth 100000 in
theorem g_X12_areBoth_f_v113 (u : qS) (x : Int32) (y : Int32) (k : qS) (hI : IM u) (hk : IK k u) (hx : 0 ≤ x ∧ x < u.1 1247) (hy : 0 ≤ y ∧ y < u.1 1247) (hys : u.1 1247 ≤ 120) (c12_1 : ¬ (u.2.1 1251 (x : Int32).toNatClampNeg : Int32) < (u.2.1 1251 (y : Int32).toNatClampNeg)) (c27_17 : (u.2.1 1251 (x : Int32).toNatClampNeg : Int32) = (u.2.1 1251 (y : Int32).toNatClampNeg)) (c32_33 : ¬ y ≤ (x : Int32)) (c43_49 : ¬ (x : Int32) = x) (hb_50 : 0 ≤ (u.2.1 1248 (x : Int32).toNatClampNeg) ∧ (u.2.1 1248 (x : Int32).toNatClampNeg) < u.1 1232) (hs_51 : 0 ≤ u.1 1232 ∧ u.1 1232 ≤ 20) : 0 ≤ y ∧ y < u.1 1247 := by
  have hz1247 := hI.1.s1247
  first | omega | ((try simp only [g_m1, Int32.lt_iff_toInt_lt, Int32.le_iff_toInt_le, ← Int32.toInt_inj, Int32.reduceToInt] at *); omega) | ((try simp only [g_m1, Int32.lt_iff_toInt_lt, Int32.le_iff_toInt_le, ← Int32.toInt_inj, Int32.reduceToInt] at *); omega) | ((try simp only [g_m1, Int32.lt_iff_toInt_lt, Int32.le_iff_toInt_le, ← Int32.toInt_inj, Int32.toInt_add, Int32.toInt_sub, Int32.toInt_mul, Int32.toInt_neg, Int32.reduceToInt, g_bm, g_bm'] at *); omega) | (have qr1 := g_rng x; have qr2 := g_rng y; (try simp only [g_m1, Int32.lt_iff_toInt_lt, Int32.le_iff_toInt_le, ← Int32.toInt_inj, Int32.toInt_add, Int32.toInt_sub, Int32.toInt_mul, Int32.toInt_neg, Int32.reduceToInt, g_bm, g_bm'] at *); omega) | (simp only [g_m1, Int32.lt_iff_toInt_lt, Int32.le_iff_toInt_le, ← Int32.toInt_inj, Int32.toInt_add, Int32.toInt_sub, Int32.toInt_mul, Int32.toInt_neg, Int32.reduceToInt, g_bm, g_bm'] at *; simp at *; omega) | (simp_all; done)
set_option maxRecDepth 100000 in
theorem g_X12_areBoth_f_v114 (u : qS) (x : Int32) (y : Int32) (k : qS) (hI : IM u) (hk : IK k u) (hx : 0 ≤ x ∧ x < u.1 1247) (hy : 0 ≤ y ∧ y < u.1 1247) (hys : u.1 1247 ≤ 120) (c12_1 : ¬ (u.2.1 1251 (x : Int32).toNatClampNeg : Int32) < (u.2.1 1251 (y : Int32).toNatClampNeg)) (c27_17 : (u.2.1 1251 (x : Int32).toNatClampNeg : Int32) = (u.2.1 1251 (y : Int32).toNatClampNeg)) (c32_33 : ¬ y ≤ (x : Int32)) (c43_49 : ¬ (x : Int32) = x) (hb_50 : 0 ≤ (u.2.1 1248 (x : Int32).toNatClampNeg) ∧ (u.2.1 1248 (x : Int32).toNatClampNeg) < u.1 1232) (hs_51 : 0 ≤ u.1 1232 ∧ u.1 1232 ≤ 20) (hb_52 : 0 ≤ (u.2.1 1248 (y : Int32).toNatClampNeg) ∧ (u.2.1 1248 (y : Int32).toNatClampNeg) < u.1 1232) : vp_in (u.2.1 1248 (y : Int32).toNatClampNeg) 20 := by
  have hz1247 := hI.1.s1247
  refine g_in ?_ ?_ <;> ((try simp only [g_m1, Int32.lt_iff_toInt_lt, Int32.le_iff_toInt_le, ← Int32.toInt_inj, Int32.toInt_add, Int32.toInt_sub, Int32.toInt_mul, Int32.toInt_neg, Int32.reduceToInt, g_bm, g_bm'] at *); omega)
set_option maxRecDepth 100000 in
theorem g_X12_areBoth_f_v115 (u : qS) (x : Int32) (y : Int32) (k : qS) (hI : IM u) (hk : IK k u) (hx : 0 ≤ x ∧ x < u.1 1247) (hy : 0 ≤ y ∧ y < u.1 1247) (hys : u.1 1247 ≤ 120) (c12_1 : ¬ (u.2.1 1251 (x : Int32).toNatClampNeg : Int32) < (u.2.1 1251 (y : Int32).toNatClampNeg)) (c27_17 : (u.2.1 1251 (x : Int32).toNatClampNeg : Int32) = (u.2.1 1251 (y : Int32).toNatClampNeg)) (c32_33 : ¬ y ≤ (x : Int32)) (c43_49 : ¬ (x : Int32) = x) (hb_50 : 0 ≤ (u.2.1 1248 (x : Int32).toNatClampNeg) ∧ (u.2.1 1248 (x : Int32).toNatClampNeg) < u.1 1232) (hs_51 : 0 ≤ u.1 1232 ∧ u.1 1232 ≤ 20) (hb_52 : 0 ≤ (u.2.1 1248 (y : Int32).toNatClampNeg) ∧ (u.2.1 1248 (y : Int32).toNatClampNeg) < u.1 1232) : vp_in (y) 120 := by
  have hz1247 := hI.1.s1247
  refine g_in ?_ ?_ <;> ((try simp only [g_m1, Int32.lt_iff_toInt_lt, Int32.le_iff_toInt_le, ← Int32.toInt_inj, Int32.toInt_add, Int32.toInt_sub, Int32.toInt_mul, Int32.toInt_neg, Int32.reduceToInt, g_bm, g_bm'] at *); omega)
set_option maxRecDepth 100000 in
theorem g_X12_areBoth_f_v116 (u : qS) (x : Int32) (y : Int32) (k : qS) (hI : IM u) (hk : IK k u) (hx : 0 ≤ x ∧ x < u.1 1247) (hy : 0 ≤ y ∧ y < u.1 1247) (hys : u.1 1247 ≤ 120) (c12_1 : ¬ (u.2.1 1251 (x : Int32).toNatClampNeg : Int32) < (u.2.1 1251 (y : Int32).toNatClampNeg)) (c27_17 : (u.2.1 1251 (x : Int32).toNatClampNeg : Int32) = (u.2.1 1251 (y : Int32).toNatClampNeg)) (c32_33 : ¬ y ≤ (x : Int32)) (c43_49 : ¬ (x : Int32) = x) (hb_50 : 0 ≤ (u.2.1 1248 (x : Int32).toNatClampNeg) ∧ (u.2.1 1248 (x : Int32).toNatClampNeg) < u.1 1232) (hs_51 : 0 ≤ u.1 1232 ∧ u.1 1232 ≤ 20) (hb_52 : 0 ≤ (u.2.1 1248 (y : Int32).toNatClampNeg) ∧ (u.2.1 1248 (y : Int32).toNatClampNeg) < u.1 1232) : 0 ≤ y ∧ y < u.1 1247 := by
  have hz1247 := hI.1.s1247
  first | omega | ((try simp only [g_m1, Int32.lt_iff_toInt_lt, Int32.le_iff_toInt_le, ← Int32.toInt_inj, Int32.reduceToInt] at *); omega) | ((try simp only [g_m1, Int32.lt_iff_toInt_lt, Int32.le_iff_toInt_le, ← Int32.toInt_inj, Int32.reduceToInt] at *); omega) | ((try simp only [g_m1, Int32.lt_iff_toInt_lt, Int32.le_iff_toInt_le, ← Int32.toInt_inj, Int32.toInt_add, Int32.toInt_sub, Int32.toInt_mul, Int32.toInt_neg, Int32.reduceToInt, g_bm, g_bm'] at *); omega) | (have qr1 := g_rng x; have qr2 := g_rng y; (try simp only [g_m1, Int32.lt_iff_toInt_lt, Int32.le_iff_toInt_le, ← Int32.toInt_inj, Int32.toInt_add, Int32.toInt_sub, Int32.toInt_mul, Int32.toInt_neg, Int32.reduceToInt, g_bm, g_bm'] at *); omega) | (simp only [g_m1, Int32.lt_iff_toInt_lt, Int32.le_iff_toInt_le, ← Int32.toInt_inj, Int32.toInt_add, Int32.toInt_sub, Int32.toInt_mul, Int32.toInt_neg, Int32.reduceToInt, g_bm, g_bm'] at *; simp at *; omega) | (simp_all; done)
set_option maxRecDepth 100000 in
theorem g_X12_areBoth_f_v117 (u : qS) (x : Int32) (y : Int32) (k : qS) (hI : IM u) (hk : IK k u) (hx : 0 ≤ x ∧ x < u.1 1247) (hy : 0 ≤ y ∧ y < u.1 1247) (hys : u.1 1247 ≤ 120) (c12_1 : ¬ (u.2.1 1251 (x : Int32).toNatClampNeg : Int32) < (u.2.1 1251 (y : Int32).toNatClampNeg)) (c27_17 : (u.2.1 1251 (x : Int32).toNatClampNeg : Int32) = (u.2.1 1251 (y : Int32).toNatClampNeg)) (c32_33 : ¬ y ≤ (x : Int32)) (c43_49 : ¬ (x : Int32) = x) (hb_50 : 0 ≤ (u.2.1 1248 (x : Int32).toNatClampNeg) ∧ (u.2.1 1248 (x : Int32).toNatClampNeg) < u.1 1232) (hs_51 : 0 ≤ u.1 1232 ∧ u.1 1232 ≤ 20) (hb_52 : 0 ≤ (u.2.1 1248 (y : Int32).toNatClampNeg) ∧ (u.2.1 1248 (y : Int32).toNatClampNeg) < u.1 1232) : vp_in (u.2.1 1248 (y : Int32).toNatClampNeg) 20 := by
  have hz1247 := hI.1.s1247
  refine g_in ?_ ?_ <;> ((try simp only [g_m1, Int32.lt_iff_toInt_lt, Int32.le_iff_toInt_le, ← Int32.toInt_inj, Int32.toInt_add, Int32.toInt_sub, Int32.toInt_mul, Int32.toInt_neg, Int32.reduceToInt, g_bm, g_bm'] at *); omega)
set_option maxRecDepth 100000 in
theorem g_X12_areBoth_f_v118 (u : qS) (x : Int32) (y : Int32) (k : qS) (r_55 : Int32) (hI : IM u) (hk : IK k u) (hx : 0 ≤ x ∧ x < u.1 1247) (hy : 0 ≤ y ∧ y < u.1 1247) (hys : u.1 1247 ≤ 120) (c12_1 : ¬ (u.2.1 1251 (x : Int32).toNatClampNeg : Int32) < (u.2.1 1251 (y : Int32).toNatClampNeg)) (c27_17 : (u.2.1 1251 (x : Int32).toNatClampNeg : Int32) = (u.2.1 1251 (y : Int32).toNatClampNeg)) (c32_33 : ¬ y ≤ (x : Int32)) (c43_49 : ¬ (x : Int32) = x) (hb_50 : 0 ≤ (u.2.1 1248 (x : Int32).toNatClampNeg) ∧ (u.2.1 1248 (x : Int32).toNatClampNeg) < u.1 1232) (hs_51 : 0 ≤ u.1 1232 ∧ u.1 1232 ≤ 20) (hb_52 : 0 ≤ (u.2.1 1248 (y : Int32).toNatClampNeg) ∧ (u.2.1 1248 (y : Int32).toNatClampNeg) < u.1 1232) (hw_54 : r_55 = f_wb (u.2.1 1233 (u.2.1 1248 (x : Int32).toNatClampNeg : Int32).toNatClampNeg) (u.2.1 1234 (u.2.1 1248 (x : Int32).toNatClampNeg : Int32).toNatClampNeg) (u.2.1 1233 (u.2.1 1248 (y : Int32).toNatClampNeg : Int32).toNatClampNeg) (u.2.1 1234 (u.2.1 1248 (y : Int32).toNatClampNeg : Int32).toNatClampNeg)) : vp_in (x) 120 := by
  have hz1247 := hI.1.s1247
  refine g_in ?_ ?_ <;> ((try simp only [g_m1, Int32.lt_iff_toInt_lt, Int32.le_iff_toInt_le, ← Int32.toInt_inj, Int32.toInt_add, Int32.toInt_sub, Int32.toInt_mul, Int32.toInt_neg, Int32.reduceToInt, g_bm, g_bm'] at *); omega)
set_option maxRecDepth 100000 in
theorem g_X12_areBoth_f_v119 (u : qS) (x : Int32) (y : Int32) (k : qS) (r_55 : Int32) (hI : IM u) (hk : IK k u) (hx : 0 ≤ x ∧ x < u.1 1247) (hy : 0 ≤ y ∧ y < u.1 1247) (hys : u.1 1247 ≤ 120) (c12_1 : ¬ (u.2.1 1251 (x : Int32).toNatClampNeg : Int32) < (u.2.1 1251 (y : Int32).toNatClampNeg)) (c27_17 : (u.2.1 1251 (x : Int32).toNatClampNeg : Int32) = (u.2.1 1251 (y : Int32).toNatClampNeg)) (c32_33 : ¬ y ≤ (x : Int32)) (c43_49 : ¬ (x : Int32) = x) (hb_50 : 0 ≤ (u.2.1 1248 (x : Int32).toNatClampNeg) ∧ (u.2.1 1248 (x : Int32).toNatClampNeg) < u.1 1232) (hs_51 : 0 ≤ u.1 1232 ∧ u.1 1232 ≤ 20) (hb_52 : 0 ≤ (u.2.1 1248 (y : Int32).toNatClampNeg) ∧ (u.2.1 1248 (y : Int32).toNatClampNeg) < u.1 1232) (hw_54 : r_55 = f_wb (u.2.1 1233 (u.2.1 1248 (x : Int32).toNatClampNeg : Int32).toNatClampNeg) (u.2.1 1234 (u.2.1 1248 (x : Int32).toNatClampNeg : Int32).toNatClampNeg) (u.2.1 1233 (u.2.1 1248 (y : Int32).toNatClampNeg : Int32).toNatClampNeg) (u.2.1 1234 (u.2.1 1248 (y : Int32).toNatClampNeg : Int32).toNatClampNeg)) : vp_in (x) 120 := by
  have hz1247 := hI.1.s1247
  refine g_in ?_ ?_ <;> ((try simp only [g_m1, Int32.lt_iff_toInt_lt, Int32.le_iff_toInt_le, ← Int32.toInt_inj, Int32.toInt_add, Int32.toInt_sub, Int32.toInt_mul, Int32.toInt_neg, Int32.reduceToInt, g_bm, g_bm'] at *); omega)
set_option maxRecDepth 100000 in
theorem g_X12_areBoth_f_v120 (u : qS) (x : Int32) (y : Int32) (k : qS) (r_55 : Int32) (hI : IM u) (hk : IK k u) (hx : 0 ≤ x ∧ x < u.1 1247) (hy : 0 ≤ y ∧ y < u.1 1247) (hys : u.1 1247 ≤ 120) (c12_1 : ¬ (u.2.1 1251 (x : Int32).toNatClampNeg : Int32) < (u.2.1 1251 (y : Int32).toNatClampNeg)) (c27_17 : (u.2.1 1251 (x : Int32).toNatClampNeg : Int32) = (u.2.1 1251 (y : Int32).toNatClampNeg)) (c32_33 : ¬ y ≤ (x : Int32)) (c43_49 : ¬ (x : Int32) = x) (hb_50 : 0 ≤ (u.2.1 1248 (x : Int32).toNatClampNeg) ∧ (u.2.1 1248 (x : Int32).toNatClampNeg) < u.1 1232) (hs_51 : 0 ≤ u.1 1232 ∧ u.1 1232 ≤ 20) (hb_52 : 0 ≤ (u.2.1 1248 (y : Int32).toNatClampNeg) ∧ (u.2.1 1248 (y : Int32).toNatClampNeg) < u.1 1232) (hw_54 : r_55 = f_wb (u.2.1 1233 (u.2.1 1248 (x : Int32).toNatClampNeg : Int32).toNatClampNeg) (u.2.1 1234 (u.2.1 1248 (x : Int32).toNatClampNeg : Int32).toNatClampNeg) (u.2.1 1233 (u.2.1 1248 (y : Int32).toNatClampNeg : Int32).toNatClampNeg) (u.2.1 1234 (u.2.1 1248 (y : Int32).toNatClampNeg : Int32).toNatClampNeg)) : vp_in (x) 120 := by
  have hz1247 := hI.1.s1247
  refine g_in ?_ ?_ <;> ((try simp only [g_m1, Int32.lt_iff_toInt_lt, Int32.le_iff_toInt_le, ← Int32.toInt_inj, Int32.toInt_add, Int32.toInt_sub, Int32.toInt_mul, Int32.toInt_neg, Int32.reduceToInt, g_bm, g_bm'] at *); omega)
set_option maxRecDepth 100000 in
theorem g_X12_areBoth_f_v121 (u : qS) (x : Int32) (y : Int32) (k : qS) (r_55 : Int32) (hI : IM u) (hk : IK k u) (hx : 0 ≤ x ∧ x < u.1 1247) (hy : 0 ≤ y ∧ y < u.1 1247) (hys : u.1 1247 ≤ 120) (c12_1 : ¬ (u.2.1 1251 (x : Int32).toNatClampNeg : Int32) < (u.2.1 1251 (y : Int32).toNatClampNeg)) (c27_17 : (u.2.1 1251 (x : Int32).toNatClampNeg : Int32) = (u.2.1 1251 (y : Int32).toNatClampNeg)) (c32_33 : ¬ y ≤ (x : Int32)) (c43_49 : ¬ (x : Int32) = x) (hb_50 : 0 ≤ (u.2.1 1248 (x : Int32).toNatClampNeg) ∧ (u.2.1 1248 (x : Int32).toNatClampNeg) < u.1 1232) (hs_51 : 0 ≤ u.1 1232 ∧ u.1 1232 ≤ 20) (hb_52 : 0 ≤ (u.2.1 1248 (y : Int32).toNatClampNeg) ∧ (u.2.1 1248 (y : Int32).toNatClampNeg) < u.1 1232) (hw_54 : r_55 = f_wb (u.2.1 1233 (u.2.1 1248 (x : Int32).toNatClampNeg : Int32).toNatClampNeg) (u.2.1 1234 (u.2.1 1248 (x : Int32).toNatClampNeg : Int32).toNatClampNeg) (u.2.1 1233 (u.2.1 1248 (y : Int32).toNatClampNeg : Int32).toNatClampNeg) (u.2.1 1234 (u.2.1 1248 (y : Int32).toNatClampNeg : Int32).toNatClampNeg)) (c130_56 : (u.2.1 1251 (x : Int32).toNatClampNeg : Int32) < (((u.2.1 1251 (x : Int32).toNatClampNeg) + (u.2.1 1252 (x : Int32).toNatClampNeg)) + ((u.1 1242) * r_55))) : (0 = (1 : Int32) ∧ (f_bo k x y)) ∨ (0 = (0 : Int32) ∧ ¬ (f_bo k x y)) := by
  have hz1247 := hI.1.s1247
  have k1242 := hk.i 1242 (by decide)
  have k1233 := hk.r 1233 (by decide)
  have k1234 := hk.r 1234 (by decide)
  have k1248 := hk.r 1248 (by decide)
  have k1251 := hk.r 1251 (by decide)
  have k1252 := hk.r 1252 (by decide)
  unfold f_bo f_sc f_fs; rw [← k1233, ← k1234, ← k1242, ← k1248, ← k1251, ← k1252]; clear hk; subst_vars
  first | (refine Or.inl ⟨rfl, ?_⟩; (repeat' split) <;> first | contradiction | ((try simp only [g_m1, Int32.lt_iff_toInt_lt, Int32.le_iff_toInt_le, ← Int32.toInt_inj, Int32.reduceToInt] at *); omega)) | (refine Or.inr ⟨rfl, ?_⟩; (repeat' split) <;> first | contradiction | ((try simp only [g_m1, Int32.lt_iff_toInt_lt, Int32.le_iff_toInt_le, ← Int32.toInt_inj, Int32.reduceToInt] at *); omega))
set_option maxRecDepth 100000 in
theorem g_X12_areBoth_f_v122 (u : qS) (x : Int32) (y : Int32) (k : qS) (r_55 : Int32) (hI : IM u) (hk : IK k u) (hx : 0 ≤ x ∧ x < u.1 1247) (hy : 0 ≤ y ∧ y < u.1 1247) (hys : u.1 1247 ≤ 120) (c12_1 : ¬ (u.2.1 1251 (x : Int32).toNatClampNeg : Int32) < (u.2.1 1251 (y : Int32).toNatClampNeg)) (c27_17 : (u.2.1 1251 (x : Int32).toNatClampNeg : Int32) = (u.2.1 1251 (y : Int32).toNatClampNeg)) (c32_33 : ¬ y ≤ (x : Int32)) (c43_49 : ¬ (x : Int32) = x) (hb_50 : 0 ≤ (u.2.1 1248 (x : Int32).toNatClampNeg) ∧ (u.2.1 1248 (x : Int32).toNatClampNeg) < u.1 1232) (hs_51 : 0 ≤ u.1 1232 ∧ u.1 1232 ≤ 20) (hb_52 : 0 ≤ (u.2.1 1248 (y : Int32).toNatClampNeg) ∧ (u.2.1 1248 (y : Int32).toNatClampNeg) < u.1 1232) (hw_54 : r_55 = f_wb (u.2.1 1233 (u.2.1 1248 (x : Int32).toNatClampNeg : Int32).toNatClampNeg) (u.2.1 1234 (u.2.1 1248 (x : Int32).toNatClampNeg : Int32).toNatClampNeg) (u.2.1 1233 (u.2.1 1248 (y : Int32).toNatClampNeg : Int32).toNatClampNeg) (u.2.1 1234 (u.2.1 1248 (y : Int32).toNatClampNeg : Int32).toNatClampNeg)) (c130_56 : ¬ (u.2.1 1251 (x : Int32).toNatClampNeg : Int32) < (((u.2.1 1251 (x : Int32).toNatClampNeg) + (u.2.1 1252 (x : Int32).toNatClampNeg)) + ((u.1 1242) * r_55))) : (1 = (1 : Int32) ∧ (f_bo k x y)) ∨ (1 = (0 : Int32) ∧ ¬ (f_bo k x y)) := by
  have hz1247 := hI.1.s1247
  have k1242 := hk.i 1242 (by decide)
  have k1233 := hk.r 1233 (by decide)
  have k1234 := hk.r 1234 (by decide)
  have k1248 := hk.r 1248 (by decide)
  have k1251 := hk.r 1251 (by decide)
  have k1252 := hk.r 1252 (by decide)
  unfold f_bo f_sc f_fs; rw [← k1233, ← k1234, ← k1242, ← k1248, ← k1251, ← k1252]; clear hk; subst_vars
  first | (refine Or.inl ⟨rfl, ?_⟩; (repeat' split) <;> first | contradiction | ((try simp only [g_m1, Int32.lt_iff_toInt_lt, Int32.le_iff_toInt_le, ← Int32.toInt_inj, Int32.reduceToInt] at *); omega)) | (refine Or.inr ⟨rfl, ?_⟩; (repeat' split) <;> first | contradiction | ((try simp only [g_m1, Int32.lt_iff_toInt_lt, Int32.le_iff_toInt_le, ← Int32.toInt_inj, Int32.reduceToInt] at *); omega))
set_option maxRecDepth 100000 in
theorem g_X12_areBoth_f_v123 (u : qS) (x : Int32) (y : Int32) (k : qS) (hI : IM u) (hk : IK k u) (hx : 0 ≤ x ∧ x < u.1 1247) (hy : 0 ≤ y ∧ y < u.1 1247) (hys : u.1 1247 ≤ 120) (c12_1 : ¬ (u.2.1 1251 (x : Int32).toNatClampNeg : Int32) < (u.2.1 1251 (y : Int32).toNatClampNeg)) (c27_17 : (u.2.1 1251 (x : Int32).toNatClampNeg : Int32) = (u.2.1 1251 (y : Int32).toNatClampNeg)) (c32_33 : ¬ y ≤ (x : Int32)) (c43_49 : (x : Int32) = x) : vp_in (x) 120 := by
  have hz1247 := hI.1.s1247
  refine g_in ?_ ?_ <;> ((try simp only [g_m1, Int32.lt_iff_toInt_lt, Int32.le_iff_toInt_le, ← Int32.toInt_inj, Int32.toInt_add, Int32.toInt_sub, Int32.toInt_mul, Int32.toInt_neg, Int32.reduceToInt, g_bm, g_bm'] at *); omega)
set_option maxRecDepth 100000 in
theorem g_X12_areBoth_f_v124 (u : qS) (x : Int32) (y : Int32) (k : qS) (hI : IM u) (hk : IK k u) (hx : 0 ≤ x ∧ x < u.1 1247) (hy : 0 ≤ y ∧ y < u.1 1247) (hys : u.1 1247 ≤ 120) (c12_1 : ¬ (u.2.1 1251 (x : Int32).toNatClampNeg : Int32) < (u.2.1 1251 (y : Int32).toNatClampNeg)) (c27_17 : (u.2.1 1251 (x : Int32).toNatClampNeg : Int32) = (u.2.1 1251 (y : Int32).toNatClampNeg)) (c32_33 : ¬ y ≤ (x : Int32)) (c43_49 : (x : Int32) = x) : 0 ≤ x ∧ x < u.1 1247 := by
  have hz1247 := hI.1.s1247
  first | omega | ((try simp only [g_m1, Int32.lt_iff_toInt_lt, Int32.le_iff_toInt_le, ← Int32.toInt_inj, Int32.reduceToInt] at *); omega) | ((try simp only [g_m1, Int32.lt_iff_toInt_lt, Int32.le_iff_toInt_le, ← Int32.toInt_inj, Int32.reduceToInt] at *); omega) | ((try simp only [g_m1, Int32.lt_iff_toInt_lt, Int32.le_iff_toInt_le, ← Int32.toInt_inj, Int32.toInt_add, Int32.toInt_sub, Int32.toInt_mul, Int32.toInt_neg, Int32.reduceToInt, g_bm, g_bm'] at *); omega) | (have qr1 := g_rng x; have qr2 := g_rng y; (try simp only [g_m1, Int32.lt_iff_toInt_lt, Int32.le_iff_toInt_le, ← Int32.toInt_inj, Int32.toInt_add, Int32.toInt_sub, Int32.toInt_mul, Int32.toInt_neg, Int32.reduceToInt, g_bm, g_bm'] at *); omega) | (simp only [g_m1, Int32.lt_iff_toInt_lt, Int32.le_iff_toInt_le, ← Int32.toInt_inj, Int32.toInt_add, Int32.toInt_sub, Int32.toInt_mul, Int32.toInt_neg, Int32.reduceToInt, g_bm, g_bm'] at *; simp at *; omega) | (simp_all; done)
set_option maxRecDepth 100000 in
theorem g_X12_areBoth_f_v125 (u : qS) (x : Int32) (y : Int32) (k : qS) (hI : IM u) (hk : IK k u) (hx : 0 ≤ x ∧ x < u.1 1247) (hy : 0 ≤ y ∧ y < u.1 1247) (hys : u.1 1247 ≤ 120) (c12_1 : ¬ (u.2.1 1251 (x : Int32).toNatClampNeg : Int32) < (u.2.1 1251 (y : Int32).toNatClampNeg)) (c27_17 : (u.2.1 1251 (x : Int32).toNatClampNeg : Int32) = (u.2.1 1251 (y : Int32).toNatClampNeg)) (c32_33 : ¬ y ≤ (x : Int32)) (c43_49 : (x : Int32) = x) (hb_57 : 0 ≤ (u.2.1 1248 (x : Int32).toNatClampNeg) ∧ (u.2.1 1248 (x : Int32).toNatClampNeg) < u.1 1232) (hs_58 : 0 ≤ u.1 1232 ∧ u.1 1232 ≤ 20) : vp_in (u.2.1 1248 (x : Int32).toNatClampNeg) 20 := by
  have hz1247 := hI.1.s1247
  refine g_in ?_ ?_ <;> ((try simp only [g_m1, Int32.lt_iff_toInt_lt, Int32.le_iff_toInt_le, ← Int32.toInt_inj, Int32.toInt_add, Int32.toInt_sub, Int32.toInt_mul, Int32.toInt_neg, Int32.reduceToInt, g_bm, g_bm'] at *); omega)
set_option maxRecDepth 100000 in
theorem g_X12_areBoth_f_v126 (u : qS) (x : Int32) (y : Int32) (k : qS) (hI : IM u) (hk : IK k u) (hx : 0 ≤ x ∧ x < u.1 1247) (hy : 0 ≤ y ∧ y < u.1 1247) (hys : u.1 1247 ≤ 120) (c12_1 : ¬ (u.2.1 1251 (x : Int32).toNatClampNeg : Int32) < (u.2.1 1251 (y : Int32).toNatClampNeg)) (c27_17 : (u.2.1 1251 (x : Int32).toNatClampNeg : Int32) = (u.2.1 1251 (y : Int32).toNatClampNeg)) (c32_33 : ¬ y ≤ (x : Int32)) (c43_49 : (x : Int32) = x) (hb_57 : 0 ≤ (u.2.1 1248 (x : Int32).toNatClampNeg) ∧ (u.2.1 1248 (x : Int32).toNatClampNeg) < u.1 1232) (hs_58 : 0 ≤ u.1 1232 ∧ u.1 1232 ≤ 20) : vp_in (x) 120 := by
  have hz1247 := hI.1.s1247
  refine g_in ?_ ?_ <;> ((try simp only [g_m1, Int32.lt_iff_toInt_lt, Int32.le_iff_toInt_le, ← Int32.toInt_inj, Int32.toInt_add, Int32.toInt_sub, Int32.toInt_mul, Int32.toInt_neg, Int32.reduceToInt, g_bm, g_bm'] at *); omega)
set_option maxRecDepth 100000 in
theorem g_X12_areBoth_f_v127 (u : qS) (x : Int32) (y : Int32) (k : qS) (hI : IM u) (hk : IK k u) (hx : 0 ≤ x ∧ x < u.1 1247) (hy : 0 ≤ y ∧ y < u.1 1247) (hys : u.1 1247 ≤ 120) (c12_1 : ¬ (u.2.1 1251 (x : Int32).toNatClampNeg : Int32) < (u.2.1 1251 (y : Int32).toNatClampNeg)) (c27_17 : (u.2.1 1251 (x : Int32).toNatClampNeg : Int32) = (u.2.1 1251 (y : Int32).toNatClampNeg)) (c32_33 : ¬ y ≤ (x : Int32)) (c43_49 : (x : Int32) = x) (hb_57 : 0 ≤ (u.2.1 1248 (x : Int32).toNatClampNeg) ∧ (u.2.1 1248 (x : Int32).toNatClampNeg) < u.1 1232) (hs_58 : 0 ≤ u.1 1232 ∧ u.1 1232 ≤ 20) : 0 ≤ x ∧ x < u.1 1247 := by
  have hz1247 := hI.1.s1247
  first | omega | ((try simp only [g_m1, Int32.lt_iff_toInt_lt, Int32.le_iff_toInt_le, ← Int32.toInt_inj, Int32.reduceToInt] at *); omega) | ((try simp only [g_m1, Int32.lt_iff_toInt_lt, Int32.le_iff_toInt_le, ← Int32.toInt_inj, Int32.reduceToInt] at *); omega) | ((try simp only [g_m1, Int32.lt_iff_toInt_lt, Int32.le_iff_toInt_le, ← Int32.toInt_inj, Int32.toInt_add, Int32.toInt_sub, Int32.toInt_mul, Int32.toInt_neg, Int32.reduceToInt, g_bm, g_bm'] at *); omega) | (have qr1 := g_rng x; have qr2 := g_rng y; (try simp only [g_m1, Int32.lt_iff_toInt_lt, Int32.le_iff_toInt_le, ← Int32.toInt_inj, Int32.toInt_add, Int32.toInt_sub, Int32.toInt_mul, Int32.toInt_neg, Int32.reduceToInt, g_bm, g_bm'] at *); omega) | (simp only [g_m1, Int32.lt_iff_toInt_lt, Int32.le_iff_toInt_le, ← Int32.toInt_inj, Int32.toInt_add, Int32.toInt_sub, Int32.toInt_mul, Int32.toInt_neg, Int32.reduceToInt, g_bm, g_bm'] at *; simp at *; omega) | (simp_all; done)
set_option maxRecDepth 100000 in
theorem g_X12_areBoth_f_v128 (u : qS) (x : Int32) (y : Int32) (k : qS) (hI : IM u) (hk : IK k u) (hx : 0 ≤ x ∧ x < u.1 1247) (hy : 0 ≤ y ∧ y < u.1 1247) (hys : u.1 1247 ≤ 120) (c12_1 : ¬ (u.2.1 1251 (x : Int32).toNatClampNeg : Int32) < (u.2.1 1251 (y : Int32).toNatClampNeg)) (c27_17 : (u.2.1 1251 (x : Int32).toNatClampNeg : Int32) = (u.2.1 1251 (y : Int32).toNatClampNeg)) (c32_33 : ¬ y ≤ (x : Int32)) (c43_49 : (x : Int32) = x) (hb_57 : 0 ≤ (u.2.1 1248 (x : Int32).toNatClampNeg) ∧ (u.2.1 1248 (x : Int32).toNatClampNeg) < u.1 1232) (hs_58 : 0 ≤ u.1 1232 ∧ u.1 1232 ≤ 20) : vp_in (u.2.1 1248 (x : Int32).toNatClampNeg) 20 := by
  have hz1247 := hI.1.s1247
  refine g_in ?_ ?_ <;> ((try simp only [g_m1, Int32.lt_iff_toInt_lt, Int32.le_iff_toInt_le, ← Int32.toInt_inj, Int32.toInt_add, Int32.toInt_sub, Int32.toInt_mul, Int32.toInt_neg, Int32.reduceToInt, g_bm, g_bm'] at *); omega)
set_option maxRecDepth 100000 in
theorem g_X12_areBoth_f_v129 (u : qS) (x : Int32) (y : Int32) (k : qS) (hI : IM u) (hk : IK k u) (hx : 0 ≤ x ∧ x < u.1 1247) (hy : 0 ≤ y ∧ y < u.1 1247) (hys : u.1 1247 ≤ 120) (c12_1 : ¬ (u.2.1 1251 (x : Int32).toNatClampNeg : Int32) < (u.2.1 1251 (y : Int32).toNatClampNeg)) (c27_17 : (u.2.1 1251 (x : Int32).toNatClampNeg : Int32) = (u.2.1 1251 (y : Int32).toNatClampNeg)) (c32_33 : ¬ y ≤ (x : Int32)) (c43_49 : (x : Int32) = x) (hb_57 : 0 ≤ (u.2.1 1248 (x : Int32).toNatClampNeg) ∧ (u.2.1 1248 (x : Int32).toNatClampNeg) < u.1 1232) (hs_58 : 0 ≤ u.1 1232 ∧ u.1 1232 ≤ 20) : vp_in (y) 120 := by
  have hz1247 := hI.1.s1247
  refine g_in ?_ ?_ <;> ((try simp only [g_m1, Int32.lt_iff_toInt_lt, Int32.le_iff_toInt_le, ← Int32.toInt_inj, Int32.toInt_add, Int32.toInt_sub, Int32.toInt_mul, Int32.toInt_neg, Int32.reduceToInt, g_bm, g_bm'] at *); omega)
set_option maxRecDepth 100000 in
theorem g_X12_areBoth_f_v130 (u : qS) (x : Int32) (y : Int32) (k : qS) (hI : IM u) (hk : IK k u) (hx : 0 ≤ x ∧ x < u.1 1247) (hy : 0 ≤ y ∧ y < u.1 1247) (hys : u.1 1247 ≤ 120) (c12_1 : ¬ (u.2.1 1251 (x : Int32).toNatClampNeg : Int32) < (u.2.1 1251 (y : Int32).toNatClampNeg)) (c27_17 : (u.2.1 1251 (x : Int32).toNatClampNeg : Int32) = (u.2.1 1251 (y : Int32).toNatClampNeg)) (c32_33 : ¬ y ≤ (x : Int32)) (c43_49 : (x : Int32) = x) (hb_57 : 0 ≤ (u.2.1 1248 (x : Int32).toNatClampNeg) ∧ (u.2.1 1248 (x : Int32).toNatClampNeg) < u.1 1232) (hs_58 : 0 ≤ u.1 1232 ∧ u.1 1232 ≤ 20) : 0 ≤ y ∧ y < u.1 1247 := by
  have hz1247 := hI.1.s1247
  first | omega | ((try simp only [g_m1, Int32.lt_iff_toInt_lt, Int32.le_iff_toInt_le, ← Int32.toInt_inj, Int32.reduceToInt] at *); omega) | ((try simp only [g_m1, Int32.lt_iff_toInt_lt, Int32.le_iff_toInt_le, ← Int32.toInt_inj, Int32.reduceToInt] at *); omega) | ((try simp only [g_m1, Int32.lt_iff_toInt_lt, Int32.le_iff_toInt_le, ← Int32.toInt_inj, Int32.toInt_add, Int32.toInt_sub, Int32.toInt_mul, Int32.toInt_neg, Int32.reduceToInt, g_bm, g_bm'] at *); omega) | (have qr1 := g_rng x; have qr2 := g_rng y; (try simp only [g_m1, Int32.lt_iff_toInt_lt, Int32.le_iff_toInt_le, ← Int32.toInt_inj, Int32.toInt_add, Int32.toInt_sub, Int32.toInt_mul, Int32.toInt_neg, Int32.reduceToInt, g_bm, g_bm'] at *); omega) | (simp only [g_m1, Int32.lt_iff_toInt_lt, Int32.le_iff_toInt_le, ← Int32.toInt_inj, Int32.toInt_add, Int32.toInt_sub, Int32.toInt_mul, Int32.toInt_neg, Int32.reduceToInt, g_bm, g_bm'] at *; simp at *; omega) | (simp_all; done)
set_option maxRecDepth 100000 in
theorem g_X12_areBoth_f_v131 (u : qS) (x : Int32) (y : Int32) (k : qS) (hI : IM u) (hk : IK k u) (hx : 0 ≤ x ∧ x < u.1 1247) (hy : 0 ≤ y ∧ y < u.1 1247) (hys : u.1 1247 ≤ 120) (c12_1 : ¬ (u.2.1 1251 (x : Int32).toNatClampNeg : Int32) < (u.2.1 1251 (y : Int32).toNatClampNeg)) (c27_17 : (u.2.1 1251 (x : Int32).toNatClampNeg : Int32) = (u.2.1 1251 (y : Int32).toNatClampNeg)) (c32_33 : ¬ y ≤ (x : Int32)) (c43_49 : (x : Int32) = x) (hb_57 : 0 ≤ (u.2.1 1248 (x : Int32).toNatClampNeg) ∧ (u.2.1 1248 (x : Int32).toNatClampNeg) < u.1 1232) (hs_58 : 0 ≤ u.1 1232 ∧ u.1 1232 ≤ 20) (hb_59 : 0 ≤ (u.2.1 1248 (y : Int32).toNatClampNeg) ∧ (u.2.1 1248 (y : Int32).toNatClampNeg) < u.1 1232) : vp_in (u.2.1 1248 (y : Int32).toNatClampNeg) 20 := by
  have hz1247 := hI.1.s1247
  refine g_in ?_ ?_ <;> ((try simp only [g_m1, Int32.lt_iff_toInt_lt, Int32.le_iff_toInt_le, ← Int32.toInt_inj, Int32.toInt_add, Int32.toInt_sub, Int32.toInt_mul, Int32.toInt_neg, Int32.reduceToInt, g_bm, g_bm'] at *); omega)
set_option maxRecDepth 100000 in
theorem g_X12_areBoth_f_v132 (u : qS) (x : Int32) (y : Int32) (k : qS) (hI : IM u) (hk : IK k u) (hx : 0 ≤ x ∧ x < u.1 1247) (hy : 0 ≤ y ∧ y < u.1 1247) (hys : u.1 1247 ≤ 120) (c12_1 : ¬ (u.2.1 1251 (x : Int32).toNatClampNeg : Int32) < (u.2.1 1251 (y : Int32).toNatClampNeg)) (c27_17 : (u.2.1 1251 (x : Int32).toNatClampNeg : Int32) = (u.2.1 1251 (y : Int32).toNatClampNeg)) (c32_33 : ¬ y ≤ (x : Int32)) (c43_49 : (x : Int32) = x) (hb_57 : 0 ≤ (u.2.1 1248 (x : Int32).toNatClampNeg) ∧ (u.2.1 1248 (x : Int32).toNatClampNeg) < u.1 1232) (hs_58 : 0 ≤ u.1 1232 ∧ u.1 1232 ≤ 20) (hb_59 : 0 ≤ (u.2.1 1248 (y : Int32).toNatClampNeg) ∧ (u.2.1 1248 (y : Int32).toNatClampNeg) < u.1 1232) : vp_in (y) 120 := by
  have hz1247 := hI.1.s1247
  refine g_in ?_ ?_ <;> ((try simp only [g_m1, Int32.lt_iff_toInt_lt, Int32.le_iff_toInt_le, ← Int32.toInt_inj, Int32.toInt_add, Int32.toInt_sub, Int32.toInt_mul, Int32.toInt_neg, Int32.reduceToInt, g_bm, g_bm'] at *); omega)
set_option maxRecDepth 100000 in
theorem g_X12_areBoth_f_v133 (u : qS) (x : Int32) (y : Int32) (k : qS) (hI : IM u) (hk : IK k u) (hx : 0 ≤ x ∧ x < u.1 1247) (hy : 0 ≤ y ∧ y < u.1 1247) (hys : u.1 1247 ≤ 120) (c12_1 : ¬ (u.2.1 1251 (x : Int32).toNatClampNeg : Int32) < (u.2.1 1251 (y : Int32).toNatClampNeg)) (c27_17 : (u.2.1 1251 (x : Int32).toNatClampNeg : Int32) = (u.2.1 1251 (y : Int32).toNatClampNeg)) (c32_33 : ¬ y ≤ (x : Int32)) (c43_49 : (x : Int32) = x) (hb_57 : 0 ≤ (u.2.1 1248 (x : Int32).toNatClampNeg) ∧ (u.2.1 1248 (x : Int32).toNatClampNeg) < u.1 1232) (hs_58 : 0 ≤ u.1 1232 ∧ u.1 1232 ≤ 20) (hb_59 : 0 ≤ (u.2.1 1248 (y : Int32).toNatClampNeg) ∧ (u.2.1 1248 (y : Int32).toNatClampNeg) < u.1 1232) : 0 ≤ y ∧ y < u.1 1247 := by
  have hz1247 := hI.1.s1247
  first | omega | ((try simp only [g_m1, Int32.lt_iff_toInt_lt, Int32.le_iff_toInt_le, ← Int32.toInt_inj, Int32.reduceToInt] at *); omega) | ((try simp only [g_m1, Int32.lt_iff_toInt_lt, Int32.le_iff_toInt_le, ← Int32.toInt_inj, Int32.reduceToInt] at *); omega) | ((try simp only [g_m1, Int32.lt_iff_toInt_lt, Int32.le_iff_toInt_le, ← Int32.toInt_inj, Int32.toInt_add, Int32.toInt_sub, Int32.toInt_mul, Int32.toInt_neg, Int32.reduceToInt, g_bm, g_bm'] at *); omega) | (have qr1 := g_rng x; have qr2 := g_rng y; (try simp only [g_m1, Int32.lt_iff_toInt_lt, Int32.le_iff_toInt_le, ← Int32.toInt_inj, Int32.toInt_add, Int32.toInt_sub, Int32.toInt_mul, Int32.toInt_neg, Int32.reduceToInt, g_bm, g_bm'] at *); omega) | (simp only [g_m1, Int32.lt_iff_toInt_lt, Int32.le_iff_toInt_le, ← Int32.toInt_inj, Int32.toInt_add, Int32.toInt_sub, Int32.toInt_mul, Int32.toInt_neg, Int32.reduceToInt, g_bm, g_bm'] at *; simp at *; omega) | (simp_all; done)
set_option maxRecDepth 100000 in
theorem g_X12_areBoth_f_v134 (u : qS) (x : Int32) (y : Int32) (k : qS) (hI : IM u) (hk : IK k u) (hx : 0 ≤ x ∧ x < u.1 1247) (hy : 0 ≤ y ∧ y < u.1 1247) (hys : u.1 1247 ≤ 120) (c12_1 : ¬ (u.2.1 1251 (x : Int32).toNatClampNeg : Int32) < (u.2.1 1251 (y : Int32).toNatClampNeg)) (c27_17 : (u.2.1 1251 (x : Int32).toNatClampNeg : Int32) = (u.2.1 1251 (y : Int32).toNatClampNeg)) (c32_33 : ¬ y ≤ (x : Int32)) (c43_49 : (x : Int32) = x) (hb_57 : 0 ≤ (u.2.1 1248 (x : Int32).toNatClampNeg) ∧ (u.2.1 1248 (x : Int32).toNatClampNeg) < u.1 1232) (hs_58 : 0 ≤ u.1 1232 ∧ u.1 1232 ≤ 20) (hb_59 : 0 ≤ (u.2.1 1248 (y : Int32).toNatClampNeg) ∧ (u.2.1 1248 (y : Int32).toNatClampNeg) < u.1 1232) : vp_in (u.2.1 1248 (y : Int32).toNatClampNeg) 20 := by
  have hz1247 := hI.1.s1247
  refine g_in ?_ ?_ <;> ((try simp only [g_m1, Int32.lt_iff_toInt_lt, Int32.le_iff_toInt_le, ← Int32.toInt_inj, Int32.toInt_add, Int32.toInt_sub, Int32.toInt_mul, Int32.toInt_neg, Int32.reduceToInt, g_bm, g_bm'] at *); omega)
set_option maxRecDepth 100000 in
theorem g_X12_areBoth_f_v135 (u : qS) (x : Int32) (y : Int32) (k : qS) (r_62 : Int32) (hI : IM u) (hk : IK k u) (hx : 0 ≤ x ∧ x < u.1 1247) (hy : 0 ≤ y ∧ y < u.1 1247) (hys : u.1 1247 ≤ 120) (c12_1 : ¬ (u.2.1 1251 (x : Int32).toNatClampNeg : Int32) < (u.2.1 1251 (y : Int32).toNatClampNeg)) (c27_17 : (u.2.1 1251 (x : Int32).toNatClampNeg : Int32) = (u.2.1 1251 (y : Int32).toNatClampNeg)) (c32_33 : ¬ y ≤ (x : Int32)) (c43_49 : (x : Int32) = x) (hb_57 : 0 ≤ (u.2.1 1248 (x : Int32).toNatClampNeg) ∧ (u.2.1 1248 (x : Int32).toNatClampNeg) < u.1 1232) (hs_58 : 0 ≤ u.1 1232 ∧ u.1 1232 ≤ 20) (hb_59 : 0 ≤ (u.2.1 1248 (y : Int32).toNatClampNeg) ∧ (u.2.1 1248 (y : Int32).toNatClampNeg) < u.1 1232) (hw_61 : r_62 = f_wb (u.2.1 1233 (u.2.1 1248 (x : Int32).toNatClampNeg : Int32).toNatClampNeg) (u.2.1 1234 (u.2.1 1248 (x : Int32).toNatClampNeg : Int32).toNatClampNeg) (u.2.1 1233 (u.2.1 1248 (y : Int32).toNatClampNeg : Int32).toNatClampNeg) (u.2.1 1234 (u.2.1 1248 (y : Int32).toNatClampNeg : Int32).toNatClampNeg)) : vp_in (y) 120 := by
  have hz1247 := hI.1.s1247
  refine g_in ?_ ?_ <;> ((try simp only [g_m1, Int32.lt_iff_toInt_lt, Int32.le_iff_toInt_le, ← Int32.toInt_inj, Int32.toInt_add, Int32.toInt_sub, Int32.toInt_mul, Int32.toInt_neg, Int32.reduceToInt, g_bm, g_bm'] at *); omega)
set_option maxRecDepth 100000 in
theorem g_X12_areBoth_f_v136 (u : qS) (x : Int32) (y : Int32) (k : qS) (r_62 : Int32) (hI : IM u) (hk : IK k u) (hx : 0 ≤ x ∧ x < u.1 1247) (hy : 0 ≤ y ∧ y < u.1 1247) (hys : u.1 1247 ≤ 120) (c12_1 : ¬ (u.2.1 1251 (x : Int32).toNatClampNeg : Int32) < (u.2.1 1251 (y : Int32).toNatClampNeg)) (c27_17 : (u.2.1 1251 (x : Int32).toNatClampNeg : Int32) = (u.2.1 1251 (y : Int32).toNatClampNeg)) (c32_33 : ¬ y ≤ (x : Int32)) (c43_49 : (x : Int32) = x) (hb_57 : 0 ≤ (u.2.1 1248 (x : Int32).toNatClampNeg) ∧ (u.2.1 1248 (x : Int32).toNatClampNeg) < u.1 1232) (hs_58 : 0 ≤ u.1 1232 ∧ u.1 1232 ≤ 20) (hb_59 : 0 ≤ (u.2.1 1248 (y : Int32).toNatClampNeg) ∧ (u.2.1 1248 (y : Int32).toNatClampNeg) < u.1 1232) (hw_61 : r_62 = f_wb (u.2.1 1233 (u.2.1 1248 (x : Int32).toNatClampNeg : Int32).toNatClampNeg) (u.2.1 1234 (u.2.1 1248 (x : Int32).toNatClampNeg : Int32).toNatClampNeg) (u.2.1 1233 (u.2.1 1248 (y : Int32).toNatClampNeg : Int32).toNatClampNeg) (u.2.1 1234 (u.2.1 1248 (y : Int32).toNatClampNeg : Int32).toNatClampNeg)) : vp_in (x) 120 := by
  have hz1247 := hI.1.s1247
  refine g_in ?_ ?_ <;> ((try simp only [g_m1, Int32.lt_iff_toInt_lt, Int32.le_iff_toInt_le, ← Int32.toInt_inj, Int32.toInt_add, Int32.toInt_sub, Int32.toInt_mul, Int32.toInt_neg, Int32.reduceToInt, g_bm, g_bm'] at *); omega)
set_option maxRecDepth 100000 in
theorem g_X12_areBoth_f_v137 (u : qS) (x : Int32) (y : Int32) (k : qS) (r_62 : Int32) (hI : IM u) (hk : IK k u) (hx : 0 ≤ x ∧ x < u.1 1247) (hy : 0 ≤ y ∧ y < u.1 1247) (hys : u.1 1247 ≤ 120) (c12_1 : ¬ (u.2.1 1251 (x : Int32).toNatClampNeg : Int32) < (u.2.1 1251 (y : Int32).toNatClampNeg)) (c27_17 : (u.2.1 1251 (x : Int32).toNatClampNeg : Int32) = (u.2.1 1251 (y : Int32).toNatClampNeg)) (c32_33 : ¬ y ≤ (x : Int32)) (c43_49 : (x : Int32) = x) (hb_57 : 0 ≤ (u.2.1 1248 (x : Int32).toNatClampNeg) ∧ (u.2.1 1248 (x : Int32).toNatClampNeg) < u.1 1232) (hs_58 : 0 ≤ u.1 1232 ∧ u.1 1232 ≤ 20) (hb_59 : 0 ≤ (u.2.1 1248 (y : Int32).toNatClampNeg) ∧ (u.2.1 1248 (y : Int32).toNatClampNeg) < u.1 1232) (hw_61 : r_62 = f_wb (u.2.1 1233 (u.2.1 1248 (x : Int32).toNatClampNeg : Int32).toNatClampNeg) (u.2.1 1234 (u.2.1 1248 (x : Int32).toNatClampNeg : Int32).toNatClampNeg) (u.2.1 1233 (u.2.1 1248 (y : Int32).toNatClampNeg : Int32).toNatClampNeg) (u.2.1 1234 (u.2.1 1248 (y : Int32).toNatClampNeg : Int32).toNatClampNeg)) : vp_in (x) 120 := by
  have hz1247 := hI.1.s1247
  refine g_in ?_ ?_ <;> ((try simp only [g_m1, Int32.lt_iff_toInt_lt, Int32.le_iff_toInt_le, ← Int32.toInt_inj, Int32.toInt_add, Int32.toInt_sub, Int32.toInt_mul, Int32.toInt_neg, Int32.reduceToInt, g_bm, g_bm'] at *); omega)
set_option maxRecDepth 100000 in
theorem g_X12_areBoth_f_v138 (u : qS) (x : Int32) (y : Int32) (k : qS) (r_62 : Int32) (hI : IM u) (hk : IK k u) (hx : 0 ≤ x ∧ x < u.1 1247) (hy : 0 ≤ y ∧ y < u.1 1247) (hys : u.1 1247 ≤ 120) (c12_1 : ¬ (u.2.1 1251 (x : Int32).toNatClampNeg : Int32) < (u.2.1 1251 (y : Int32).toNatClampNeg)) (c27_17 : (u.2.1 1251 (x : Int32).toNatClampNeg : Int32) = (u.2.1 1251 (y : Int32).toNatClampNeg)) (c32_33 : ¬ y ≤ (x : Int32)) (c43_49 : (x : Int32) = x) (hb_57 : 0 ≤ (u.2.1 1248 (x : Int32).toNatClampNeg) ∧ (u.2.1 1248 (x : Int32).toNatClampNeg) < u.1 1232) (hs_58 : 0 ≤ u.1 1232 ∧ u.1 1232 ≤ 20) (hb_59 : 0 ≤ (u.2.1 1248 (y : Int32).toNatClampNeg) ∧ (u.2.1 1248 (y : Int32).toNatClampNeg) < u.1 1232) (hw_61 : r_62 = f_wb (u.2.1 1233 (u.2.1 1248 (x : Int32).toNatClampNeg : Int32).toNatClampNeg) (u.2.1 1234 (u.2.1 1248 (x : Int32).toNatClampNeg : Int32).toNatClampNeg) (u.2.1 1233 (u.2.1 1248 (y : Int32).toNatClampNeg : Int32).toNatClampNeg) (u.2.1 1234 (u.2.1 1248 (y : Int32).toNatClampNeg : Int32).toNatClampNeg)) (c130_63 : (u.2.1 1251 (y : Int32).toNatClampNeg : Int32) < (((u.2.1 1251 (x : Int32).toNatClampNeg) + (u.2.1 1252 (x : Int32).toNatClampNeg)) + ((u.1 1242) * r_62))) : (0 = (1 : Int32) ∧ (f_bo k x y)) ∨ (0 = (0 : Int32) ∧ ¬ (f_bo k x y)) := by
  have hz1247 := hI.1.s1247
  have k1242 := hk.i 1242 (by decide)
  have k1233 := hk.r 1233 (by decide)
  have k1234 := hk.r 1234 (by decide)
  have k1248 := hk.r 1248 (by decide)
  have k1251 := hk.r 1251 (by decide)
  have k1252 := hk.r 1252 (by decide)
  unfold f_bo f_sc f_fs; rw [← k1233, ← k1234, ← k1242, ← k1248, ← k1251, ← k1252]; clear hk; subst_vars
  first | (refine Or.inl ⟨rfl, ?_⟩; (repeat' split) <;> first | contradiction | ((try simp only [g_m1, Int32.lt_iff_toInt_lt, Int32.le_iff_toInt_le, ← Int32.toInt_inj, Int32.reduceToInt] at *); omega)) | (refine Or.inr ⟨rfl, ?_⟩; (repeat' split) <;> first | contradiction | ((try simp only [g_m1, Int32.lt_iff_toInt_lt, Int32.le_iff_toInt_le, ← Int32.toInt_inj, Int32.reduceToInt] at *); omega))
set_option maxRecDepth 100000 in
theorem g_X12_areBoth_f_v139 (u : qS) (x : Int32) (y : Int32) (k : qS) (r_62 : Int32) (hI : IM u) (hk : IK k u) (hx : 0 ≤ x ∧ x < u.1 1247) (hy : 0 ≤ y ∧ y < u.1 1247) (hys : u.1 1247 ≤ 120) (c12_1 : ¬ (u.2.1 1251 (x : Int32).toNatClampNeg : Int32) < (u.2.1 1251 (y : Int32).toNatClampNeg)) (c27_17 : (u.2.1 1251 (x : Int32).toNatClampNeg : Int32) = (u.2.1 1251 (y : Int32).toNatClampNeg)) (c32_33 : ¬ y ≤ (x : Int32)) (c43_49 : (x : Int32) = x) (hb_57 : 0 ≤ (u.2.1 1248 (x : Int32).toNatClampNeg) ∧ (u.2.1 1248 (x : Int32).toNatClampNeg) < u.1 1232) (hs_58 : 0 ≤ u.1 1232 ∧ u.1 1232 ≤ 20) (hb_59 : 0 ≤ (u.2.1 1248 (y : Int32).toNatClampNeg) ∧ (u.2.1 1248 (y : Int32).toNatClampNeg) < u.1 1232) (hw_61 : r_62 = f_wb (u.2.1 1233 (u.2.1 1248 (x : Int32).toNatClampNeg : Int32).toNatClampNeg) (u.2.1 1234 (u.2.1 1248 (x : Int32).toNatClampNeg : Int32).toNatClampNeg) (u.2.1 1233 (u.2.1 1248 (y : Int32).toNatClampNeg : Int32).toNatClampNeg) (u.2.1 1234 (u.2.1 1248 (y : Int32).toNatClampNeg : Int32).toNatClampNeg)) (c130_63 : ¬ (u.2.1 1251 (y : Int32).toNatClampNeg : Int32) < (((u.2.1 1251 (x : Int32).toNatClampNeg) + (u.2.1 1252 (x : Int32).toNatClampNeg)) + ((u.1 1242) * r_62))) : (1 = (1 : Int32) ∧ (f_bo k x y)) ∨ (1 = (0 : Int32) ∧ ¬ (f_bo k x y)) := by
  have hz1247 := hI.1.s1247
  have k1242 := hk.i 1242 (by decide)
  have k1233 := hk.r 1233 (by decide)
  have k1234 := hk.r 1234 (by decide)
  have k1248 := hk.r 1248 (by decide)
  have k1251 := hk.r 1251 (by decide)
  have k1252 := hk.r 1252 (by decide)
  unfold f_bo f_sc f_fs; rw [← k1233, ← k1234, ← k1242, ← k1248, ← k1251, ← k1252]; clear hk; subst_vars
  first | (refine Or.inl ⟨rfl, ?_⟩; (repeat' split) <;> first | contradiction | ((try simp only [g_m1, Int32.lt_iff_toInt_lt, Int32.le_iff_toInt_le, ← Int32.toInt_inj, Int32.reduceToInt] at *); omega)) | (refine Or.inr ⟨rfl, ?_⟩; (repeat' split) <;> first | contradiction | ((try simp only [g_m1, Int32.lt_iff_toInt_lt, Int32.le_iff_toInt_le, ← Int32.toInt_inj, Int32.reduceToInt] at *); omega))
set_option maxHeartbeats 1000000 in
set_option maxRecDepth 100000 in
theorem g_X12_areBoth_f (l : Launch) (E : qE) (A : Nat → Prop) (u : qS) (x : Int32) (y : Int32) (k : qS) (hI : IM u) (hk : IK k u) (hx : 0 ≤ x ∧ x < u.1 1247) (hy : 0 ≤ y ∧ y < u.1 1247) (hys : u.1 1247 ≤ 120) : Met l yX12_areBoth (uws yX12_areBoth cX12_areBoth 6 (some .boolean)) (qR 1 0 0) (qPc E A 1 u [.ref (E.2.2 1299), .int x, .int y]) (qQi E A 1 (fun r u1 => u1 = u ∧ ((r = 1 ∧ (f_bo k x y)) ∨ (r = 0 ∧ ¬ (f_bo k x y))))) 0 0 A := by
  refine q_met (own := RX12) (f := 1) [.ref (E.2.2 1299), .int x, .int y] (by decide) (Nat.le_of_ble_eq_true rfl) rfl ?_
  intro p0 e0 s0 m0 bl0 me0 cd0 ls hF hr hlocks hU hS hA hl
  have hl : lv_has ls 6 [(0, .ref (E.2.2 1299)), (1, .int x), (2, .int y)] := hl
  refine lv_aload_n hF.1 hF.2.1 dX12_areBoth_0 rfl (lv_at hl 0 rfl) ?_
  refine q_get (v := .ref (E.2.2 1251)) hF hU dX12_areBoth_1 0 12 51 1251 1299 rfl rfl rfl rfl inX12 (by decide) (by decide) w_1383 rfl rfl ?_
  refine lv_iload_n hF.1 hF.2.1 dX12_areBoth_4 rfl (lv_at hl 1 rfl) ?_
  refine q_iald (v := u.2.1 1251 (x : Int32).toNatClampNeg) hF hU dX12_areBoth_5 30 1251 rfl rfl (g_X12_areBoth_f_v0 u x y k hI hk hx hy hys) rfl ?_
  refine lv_aload_n hF.1 hF.2.1 dX12_areBoth_6 rfl (lv_at hl 0 rfl) ?_
  refine q_get (v := .ref (E.2.2 1251)) hF hU dX12_areBoth_7 0 12 51 1251 1299 rfl rfl rfl rfl inX12 (by decide) (by decide) w_1383 rfl rfl ?_
  refine lv_iload_n hF.1 hF.2.1 dX12_areBoth_10 rfl (lv_at hl 2 rfl) ?_
  refine q_iald (v := u.2.1 1251 (y : Int32).toNatClampNeg) hF hU dX12_areBoth_11 30 1251 rfl rfl (g_X12_areBoth_f_v1 u x y k hI hk hx hy hys) rfl ?_
  refine lv_icmp_lt (tgt := 35) hF.1 hF.2.1 dX12_areBoth_12 (by decide) (fun c12_1 => ?_) (fun c12_1 => ?_)
  · refine lv_iload_n hF.1 hF.2.1 dX12_areBoth_35 rfl (lv_at hl 1 rfl) ?_
    refine lv_goto (tgt := 40) hF.1 hF.2.1 dX12_areBoth_36 (by decide) ?_
    refine lv_istore_n (lv' := [(3, .int x), (0, .ref (E.2.2 1299)), (1, .int x), (2, .int y)]) hF.1 hF.2.1 dX12_areBoth_40 rfl hl (by decide) rfl (fun ls hl => ?_)
    refine lv_iload_n hF.1 hF.2.1 dX12_areBoth_41 rfl (lv_at hl 0 rfl) ?_
    refine lv_iload_n hF.1 hF.2.1 dX12_areBoth_42 rfl (lv_at hl 2 rfl) ?_
    refine lv_icmp_ne (tgt := 50) hF.1 hF.2.1 dX12_areBoth_43 (by decide) (fun c43_2 => ?_) (fun c43_2 => ?_)
    · refine lv_iload_n hF.1 hF.2.1 dX12_areBoth_50 rfl (lv_at hl 2 rfl) ?_
      refine lv_istore (lv' := [(4, .int x), (3, .int x), (0, .ref (E.2.2 1299)), (1, .int x), (2, .int y)]) hF.1 hF.2.1 dX12_areBoth_51 hl (by decide) rfl (fun ls hl => ?_)
      refine lv_aload_n hF.1 hF.2.1 dX12_areBoth_53 rfl (lv_at hl 2 rfl) ?_
      refine q_get (v := .ref (E.2.2 1233)) hF hU dX12_areBoth_54 0 12 33 1233 1299 rfl rfl rfl rfl inX12 (by decide) (by decide) w_1365 rfl rfl ?_
      refine lv_aload_n hF.1 hF.2.1 dX12_areBoth_57 rfl (lv_at hl 2 rfl) ?_
      refine q_get (v := .ref (E.2.2 1248)) hF hU dX12_areBoth_58 0 12 48 1248 1299 rfl rfl rfl rfl inX12 (by decide) (by decide) w_1380 rfl rfl ?_
      refine lv_iload_n hF.1 hF.2.1 dX12_areBoth_61 rfl (lv_at hl 3 rfl) ?_
      refine q_iald (v := u.2.1 1248 (x : Int32).toNatClampNeg) hF hU dX12_areBoth_62 27 1248 rfl rfl (g_X12_areBoth_f_v2 u x y k hI hk hx hy hys c12_1 c43_2) rfl ?_
      have hb_3 : 0 ≤ (u.2.1 1248 (x : Int32).toNatClampNeg) ∧ (u.2.1 1248 (x : Int32).toNatClampNeg) < u.1 1232 := hI.2.1.r1248 x (g_X12_areBoth_f_v3 u x y k hI hk hx hy hys c12_1 c43_2)
      have hs_4 : 0 ≤ u.1 1232 ∧ u.1 1232 ≤ 20 := hI.1.s1232
      refine q_iald (v := u.2.1 1233 (u.2.1 1248 (x : Int32).toNatClampNeg : Int32).toNatClampNeg) hF hU dX12_areBoth_63 19 1233 rfl rfl (g_X12_areBoth_f_v4 u x y k hI hk hx hy hys c12_1 c43_2 hb_3 hs_4) rfl ?_
      refine lv_aload_n hF.1 hF.2.1 dX12_areBoth_64 rfl (lv_at hl 2 rfl) ?_
      refine q_get (v := .ref (E.2.2 1234)) hF hU dX12_areBoth_65 0 12 34 1234 1299 rfl rfl rfl rfl inX12 (by decide) (by decide) w_1366 rfl rfl ?_
      refine lv_aload_n hF.1 hF.2.1 dX12_areBoth_68 rfl (lv_at hl 2 rfl) ?_
      refine q_get (v := .ref (E.2.2 1248)) hF hU dX12_areBoth_69 0 12 48 1248 1299 rfl rfl rfl rfl inX12 (by decide) (by decide) w_1380 rfl rfl ?_
      refine lv_iload_n hF.1 hF.2.1 dX12_areBoth_72 rfl (lv_at hl 3 rfl) ?_
      refine q_iald (v := u.2.1 1248 (x : Int32).toNatClampNeg) hF hU dX12_areBoth_73 27 1248 rfl rfl (g_X12_areBoth_f_v5 u x y k hI hk hx hy hys c12_1 c43_2 hb_3 hs_4) rfl ?_
      refine q_iald (v := u.2.1 1234 (u.2.1 1248 (x : Int32).toNatClampNeg : Int32).toNatClampNeg) hF hU dX12_areBoth_74 20 1234 rfl rfl (g_X12_areBoth_f_v7 u x y k hI hk hx hy hys c12_1 c43_2 hb_3 hs_4) rfl ?_
      refine lv_aload_n hF.1 hF.2.1 dX12_areBoth_75 rfl (lv_at hl 2 rfl) ?_
      refine q_get (v := .ref (E.2.2 1233)) hF hU dX12_areBoth_76 0 12 33 1233 1299 rfl rfl rfl rfl inX12 (by decide) (by decide) w_1365 rfl rfl ?_
      refine lv_aload_n hF.1 hF.2.1 dX12_areBoth_79 rfl (lv_at hl 2 rfl) ?_
      refine q_get (v := .ref (E.2.2 1248)) hF hU dX12_areBoth_80 0 12 48 1248 1299 rfl rfl rfl rfl inX12 (by decide) (by decide) w_1380 rfl rfl ?_
      refine lv_iload_n hF.1 hF.2.1 dX12_areBoth_83 rfl (lv_at hl 4 rfl) ?_
      refine q_iald (v := u.2.1 1248 (y : Int32).toNatClampNeg) hF hU dX12_areBoth_84 27 1248 rfl rfl (g_X12_areBoth_f_v8 u x y k hI hk hx hy hys c12_1 c43_2 hb_3 hs_4) rfl ?_
      have hb_5 : 0 ≤ (u.2.1 1248 (y : Int32).toNatClampNeg) ∧ (u.2.1 1248 (y : Int32).toNatClampNeg) < u.1 1232 := hI.2.1.r1248 y (g_X12_areBoth_f_v9 u x y k hI hk hx hy hys c12_1 c43_2 hb_3 hs_4)
      refine q_iald (v := u.2.1 1233 (u.2.1 1248 (y : Int32).toNatClampNeg : Int32).toNatClampNeg) hF hU dX12_areBoth_85 19 1233 rfl rfl (g_X12_areBoth_f_v10 u x y k hI hk hx hy hys c12_1 c43_2 hb_3 hs_4 hb_5) rfl ?_
      refine lv_aload_n hF.1 hF.2.1 dX12_areBoth_86 rfl (lv_at hl 2 rfl) ?_
      refine q_get (v := .ref (E.2.2 1234)) hF hU dX12_areBoth_87 0 12 34 1234 1299 rfl rfl rfl rfl inX12 (by decide) (by decide) w_1366 rfl rfl ?_
      refine lv_aload_n hF.1 hF.2.1 dX12_areBoth_90 rfl (lv_at hl 2 rfl) ?_
      refine q_get (v := .ref (E.2.2 1248)) hF hU dX12_areBoth_91 0 12 48 1248 1299 rfl rfl rfl rfl inX12 (by decide) (by decide) w_1380 rfl rfl ?_
      refine lv_iload_n hF.1 hF.2.1 dX12_areBoth_94 rfl (lv_at hl 4 rfl) ?_
      refine q_iald (v := u.2.1 1248 (y : Int32).toNatClampNeg) hF hU dX12_areBoth_95 27 1248 rfl rfl (g_X12_areBoth_f_v11 u x y k hI hk hx hy hys c12_1 c43_2 hb_3 hs_4 hb_5) rfl ?_
      refine q_iald (v := u.2.1 1234 (u.2.1 1248 (y : Int32).toNatClampNeg : Int32).toNatClampNeg) hF hU dX12_areBoth_96 20 1234 rfl rfl (g_X12_areBoth_f_v13 u x y k hI hk hx hy hys c12_1 c43_2 hb_3 hs_4 hb_5) rfl ?_
      have hM9 := g_X12_wayBetween_f l E A u (u.2.1 1233 (u.2.1 1248 (x : Int32).toNatClampNeg : Int32).toNatClampNeg) (u.2.1 1234 (u.2.1 1248 (x : Int32).toNatClampNeg : Int32).toNatClampNeg) (u.2.1 1233 (u.2.1 1248 (y : Int32).toNatClampNeg : Int32).toNatClampNeg) (u.2.1 1234 (u.2.1 1248 (y : Int32).toNatClampNeg : Int32).toNatClampNeg)
      have hR9 := q_runS (l := l) (e := e0) (below := bl0) (meth := me0) (R := qR 1 0 0) (cells := 0) (slots := 0) (st0 := [.int (u.2.1 1234 (u.2.1 1248 (y : Int32).toNatClampNeg : Int32).toNatClampNeg), .int (u.2.1 1233 (u.2.1 1248 (y : Int32).toNatClampNeg : Int32).toNatClampNeg), .int (u.2.1 1234 (u.2.1 1248 (x : Int32).toNatClampNeg : Int32).toNatClampNeg), .int (u.2.1 1233 (u.2.1 1248 (x : Int32).toNatClampNeg : Int32).toNatClampNeg)]) (rest := []) hF hU hS hA 4 hM9 w_1791 w_1792 w_107 w_1793 (by decide +kernel) ⟨Nat.le_of_ble_eq_true rfl, Nat.le_of_ble_eq_true rfl⟩ dX12_areBoth_97 rfl hl.1 rfl (Nat.le_of_ble_eq_true rfl) ⟨Nat.le_of_ble_eq_true rfl, Nat.le_of_ble_eq_true rfl⟩
      refine q_calli hR9 hU.2.2.2 hS (fun r_8 u_6 H locs hw_7 hU hS => ?_)
      obtain ⟨hw_7_e, hw_7⟩ := hw_7
      rw [hw_7_e] at hU
      have hw_7 : r_8 = f_wb (u.2.1 1233 (u.2.1 1248 (x : Int32).toNatClampNeg : Int32).toNatClampNeg) (u.2.1 1234 (u.2.1 1248 (x : Int32).toNatClampNeg : Int32).toNatClampNeg) (u.2.1 1233 (u.2.1 1248 (y : Int32).toNatClampNeg : Int32).toNatClampNeg) (u.2.1 1234 (u.2.1 1248 (y : Int32).toNatClampNeg : Int32).toNatClampNeg) := hw_7
      refine lv_istore (lv' := [(5, .int r_8), (4, .int x), (3, .int x), (0, .ref (E.2.2 1299)), (1, .int x), (2, .int y)]) hF.1 hF.2.1 dX12_areBoth_100 hl (by decide) rfl (fun ls hl => ?_)
      refine lv_aload_n hF.1 hF.2.1 dX12_areBoth_102 rfl (lv_at hl 3 rfl) ?_
      refine q_get (v := .ref (E.2.2 1251)) hF hU dX12_areBoth_103 0 12 51 1251 1299 rfl rfl rfl rfl inX12 (by decide) (by decide) w_1383 rfl rfl ?_
      refine lv_iload hF.1 hF.2.1 dX12_areBoth_106 (lv_at hl 1 rfl) ?_
      refine q_iald (v := u.2.1 1251 (x : Int32).toNatClampNeg) hF hU dX12_areBoth_108 30 1251 rfl rfl (g_X12_areBoth_f_v14 u x y k r_8 hI hk hx hy hys c12_1 c43_2 hb_3 hs_4 hb_5 hw_7) rfl ?_
      refine lv_aload_n hF.1 hF.2.1 dX12_areBoth_109 rfl (lv_at hl 3 rfl) ?_
      refine q_get (v := .ref (E.2.2 1251)) hF hU dX12_areBoth_110 0 12 51 1251 1299 rfl rfl rfl rfl inX12 (by decide) (by decide) w_1383 rfl rfl ?_
      refine lv_iload_n hF.1 hF.2.1 dX12_areBoth_113 rfl (lv_at hl 2 rfl) ?_
      refine q_iald (v := u.2.1 1251 (x : Int32).toNatClampNeg) hF hU dX12_areBoth_114 30 1251 rfl rfl (g_X12_areBoth_f_v15 u x y k r_8 hI hk hx hy hys c12_1 c43_2 hb_3 hs_4 hb_5 hw_7) rfl ?_
      refine lv_aload_n hF.1 hF.2.1 dX12_areBoth_115 rfl (lv_at hl 3 rfl) ?_
      refine q_get (v := .ref (E.2.2 1252)) hF hU dX12_areBoth_116 0 12 52 1252 1299 rfl rfl rfl rfl inX12 (by decide) (by decide) w_1384 rfl rfl ?_
      refine lv_iload_n hF.1 hF.2.1 dX12_areBoth_119 rfl (lv_at hl 2 rfl) ?_
      refine q_iald (v := u.2.1 1252 (x : Int32).toNatClampNeg) hF hU dX12_areBoth_120 31 1252 rfl rfl (g_X12_areBoth_f_v16 u x y k r_8 hI hk hx hy hys c12_1 c43_2 hb_3 hs_4 hb_5 hw_7) rfl ?_
      refine lv_iadd hF.1 hF.2.1 dX12_areBoth_121 ?_
      refine lv_aload_n hF.1 hF.2.1 dX12_areBoth_122 rfl (lv_at hl 3 rfl) ?_
      refine q_get (v := .int (u.1 1242)) hF hU dX12_areBoth_123 0 12 42 1242 1299 rfl rfl rfl rfl inX12 (by decide) (by decide) w_1374 rfl rfl ?_
      refine lv_iload hF.1 hF.2.1 dX12_areBoth_126 (lv_at hl 0 rfl) ?_
      refine lv_imul hF.1 hF.2.1 dX12_areBoth_128 ?_
      refine lv_iadd hF.1 hF.2.1 dX12_areBoth_129 ?_
      refine lv_icmp_lt (tgt := 137) hF.1 hF.2.1 dX12_areBoth_130 (by decide) (fun c130_9 => ?_) (fun c130_9 => ?_)
      · refine lv_iconst (v := 0) hF.1 hF.2.1 dX12_areBoth_137 (by decide) ?_
        exact q_iret hF hr (by decide) hlocks hU hS dX12_areBoth_138 ⟨rfl, (g_X12_areBoth_f_v17 u x y k r_8 hI hk hx hy hys c12_1 c43_2 hb_3 hs_4 hb_5 hw_7 c130_9)⟩
      · refine lv_iconst (v := 1) hF.1 hF.2.1 dX12_areBoth_133 (by decide) ?_
        refine lv_goto (tgt := 138) hF.1 hF.2.1 dX12_areBoth_134 (by decide) ?_
        exact q_iret hF hr (by decide) hlocks hU hS dX12_areBoth_138 ⟨rfl, (g_X12_areBoth_f_v18 u x y k r_8 hI hk hx hy hys c12_1 c43_2 hb_3 hs_4 hb_5 hw_7 c130_9)⟩
    · refine lv_iload_n hF.1 hF.2.1 dX12_areBoth_46 rfl (lv_at hl 3 rfl) ?_
      refine lv_goto (tgt := 51) hF.1 hF.2.1 dX12_areBoth_47 (by decide) ?_
      refine lv_istore (lv' := [(4, .int y), (3, .int x), (0, .ref (E.2.2 1299)), (1, .int x), (2, .int y)]) hF.1 hF.2.1 dX12_areBoth_51 hl (by decide) rfl (fun ls hl => ?_)
      refine lv_aload_n hF.1 hF.2.1 dX12_areBoth_53 rfl (lv_at hl 2 rfl) ?_
      refine q_get (v := .ref (E.2.2 1233)) hF hU dX12_areBoth_54 0 12 33 1233 1299 rfl rfl rfl rfl inX12 (by decide) (by decide) w_1365 rfl rfl ?_
      refine lv_aload_n hF.1 hF.2.1 dX12_areBoth_57 rfl (lv_at hl 2 rfl) ?_
      refine q_get (v := .ref (E.2.2 1248)) hF hU dX12_areBoth_58 0 12 48 1248 1299 rfl rfl rfl rfl inX12 (by decide) (by decide) w_1380 rfl rfl ?_
      refine lv_iload_n hF.1 hF.2.1 dX12_areBoth_61 rfl (lv_at hl 3 rfl) ?_
      refine q_iald (v := u.2.1 1248 (x : Int32).toNatClampNeg) hF hU dX12_areBoth_62 27 1248 rfl rfl (g_X12_areBoth_f_v19 u x y k hI hk hx hy hys c12_1 c43_2) rfl ?_
      have hb_10 : 0 ≤ (u.2.1 1248 (x : Int32).toNatClampNeg) ∧ (u.2.1 1248 (x : Int32).toNatClampNeg) < u.1 1232 := hI.2.1.r1248 x (g_X12_areBoth_f_v20 u x y k hI hk hx hy hys c12_1 c43_2)
      have hs_11 : 0 ≤ u.1 1232 ∧ u.1 1232 ≤ 20 := hI.1.s1232
      refine q_iald (v := u.2.1 1233 (u.2.1 1248 (x : Int32).toNatClampNeg : Int32).toNatClampNeg) hF hU dX12_areBoth_63 19 1233 rfl rfl (g_X12_areBoth_f_v21 u x y k hI hk hx hy hys c12_1 c43_2 hb_10 hs_11) rfl ?_
      refine lv_aload_n hF.1 hF.2.1 dX12_areBoth_64 rfl (lv_at hl 2 rfl) ?_
      refine q_get (v := .ref (E.2.2 1234)) hF hU dX12_areBoth_65 0 12 34 1234 1299 rfl rfl rfl rfl inX12 (by decide) (by decide) w_1366 rfl rfl ?_
      refine lv_aload_n hF.1 hF.2.1 dX12_areBoth_68 rfl (lv_at hl 2 rfl) ?_
      refine q_get (v := .ref (E.2.2 1248)) hF hU dX12_areBoth_69 0 12 48 1248 1299 rfl rfl rfl rfl inX12 (by decide) (by decide) w_1380 rfl rfl ?_
      refine lv_iload_n hF.1 hF.2.1 dX12_areBoth_72 rfl (lv_at hl 3 rfl) ?_
      refine q_iald (v := u.2.1 1248 (x : Int32).toNatClampNeg) hF hU dX12_areBoth_73 27 1248 rfl rfl (g_X12_areBoth_f_v22 u x y k hI hk hx hy hys c12_1 c43_2 hb_10 hs_11) rfl ?_
      refine q_iald (v := u.2.1 1234 (u.2.1 1248 (x : Int32).toNatClampNeg : Int32).toNatClampNeg) hF hU dX12_areBoth_74 20 1234 rfl rfl (g_X12_areBoth_f_v24 u x y k hI hk hx hy hys c12_1 c43_2 hb_10 hs_11) rfl ?_
      refine lv_aload_n hF.1 hF.2.1 dX12_areBoth_75 rfl (lv_at hl 2 rfl) ?_
      refine q_get (v := .ref (E.2.2 1233)) hF hU dX12_areBoth_76 0 12 33 1233 1299 rfl rfl rfl rfl inX12 (by decide) (by decide) w_1365 rfl rfl ?_
      refine lv_aload_n hF.1 hF.2.1 dX12_areBoth_79 rfl (lv_at hl 2 rfl) ?_
      refine q_get (v := .ref (E.2.2 1248)) hF hU dX12_areBoth_80 0 12 48 1248 1299 rfl rfl rfl rfl inX12 (by decide) (by decide) w_1380 rfl rfl ?_
      refine lv_iload_n hF.1 hF.2.1 dX12_areBoth_83 rfl (lv_at hl 4 rfl) ?_
      refine q_iald (v := u.2.1 1248 (y : Int32).toNatClampNeg) hF hU dX12_areBoth_84 27 1248 rfl rfl (g_X12_areBoth_f_v25 u x y k hI hk hx hy hys c12_1 c43_2 hb_10 hs_11) rfl ?_
      have hb_12 : 0 ≤ (u.2.1 1248 (y : Int32).toNatClampNeg) ∧ (u.2.1 1248 (y : Int32).toNatClampNeg) < u.1 1232 := hI.2.1.r1248 y (g_X12_areBoth_f_v26 u x y k hI hk hx hy hys c12_1 c43_2 hb_10 hs_11)
      refine q_iald (v := u.2.1 1233 (u.2.1 1248 (y : Int32).toNatClampNeg : Int32).toNatClampNeg) hF hU dX12_areBoth_85 19 1233 rfl rfl (g_X12_areBoth_f_v27 u x y k hI hk hx hy hys c12_1 c43_2 hb_10 hs_11 hb_12) rfl ?_
      refine lv_aload_n hF.1 hF.2.1 dX12_areBoth_86 rfl (lv_at hl 2 rfl) ?_
      refine q_get (v := .ref (E.2.2 1234)) hF hU dX12_areBoth_87 0 12 34 1234 1299 rfl rfl rfl rfl inX12 (by decide) (by decide) w_1366 rfl rfl ?_
      refine lv_aload_n hF.1 hF.2.1 dX12_areBoth_90 rfl (lv_at hl 2 rfl) ?_
      refine q_get (v := .ref (E.2.2 1248)) hF hU dX12_areBoth_91 0 12 48 1248 1299 rfl rfl rfl rfl inX12 (by decide) (by decide) w_1380 rfl rfl ?_
      refine lv_iload_n hF.1 hF.2.1 dX12_areBoth_94 rfl (lv_at hl 4 rfl) ?_
      refine q_iald (v := u.2.1 1248 (y : Int32).toNatClampNeg) hF hU dX12_areBoth_95 27 1248 rfl rfl (g_X12_areBoth_f_v28 u x y k hI hk hx hy hys c12_1 c43_2 hb_10 hs_11 hb_12) rfl ?_
      refine q_iald (v := u.2.1 1234 (u.2.1 1248 (y : Int32).toNatClampNeg : Int32).toNatClampNeg) hF hU dX12_areBoth_96 20 1234 rfl rfl (g_X12_areBoth_f_v30 u x y k hI hk hx hy hys c12_1 c43_2 hb_10 hs_11 hb_12) rfl ?_
      have hM9 := g_X12_wayBetween_f l E A u (u.2.1 1233 (u.2.1 1248 (x : Int32).toNatClampNeg : Int32).toNatClampNeg) (u.2.1 1234 (u.2.1 1248 (x : Int32).toNatClampNeg : Int32).toNatClampNeg) (u.2.1 1233 (u.2.1 1248 (y : Int32).toNatClampNeg : Int32).toNatClampNeg) (u.2.1 1234 (u.2.1 1248 (y : Int32).toNatClampNeg : Int32).toNatClampNeg)
      have hR9 := q_runS (l := l) (e := e0) (below := bl0) (meth := me0) (R := qR 1 0 0) (cells := 0) (slots := 0) (st0 := [.int (u.2.1 1234 (u.2.1 1248 (y : Int32).toNatClampNeg : Int32).toNatClampNeg), .int (u.2.1 1233 (u.2.1 1248 (y : Int32).toNatClampNeg : Int32).toNatClampNeg), .int (u.2.1 1234 (u.2.1 1248 (x : Int32).toNatClampNeg : Int32).toNatClampNeg), .int (u.2.1 1233 (u.2.1 1248 (x : Int32).toNatClampNeg : Int32).toNatClampNeg)]) (rest := []) hF hU hS hA 4 hM9 w_1791 w_1792 w_107 w_1793 (by decide +kernel) ⟨Nat.le_of_ble_eq_true rfl, Nat.le_of_ble_eq_true rfl⟩ dX12_areBoth_97 rfl hl.1 rfl (Nat.le_of_ble_eq_true rfl) ⟨Nat.le_of_ble_eq_true rfl, Nat.le_of_ble_eq_true rfl⟩
      refine q_calli hR9 hU.2.2.2 hS (fun r_15 u_13 H locs hw_14 hU hS => ?_)
      obtain ⟨hw_14_e, hw_14⟩ := hw_14
      rw [hw_14_e] at hU
      have hw_14 : r_15 = f_wb (u.2.1 1233 (u.2.1 1248 (x : Int32).toNatClampNeg : Int32).toNatClampNeg) (u.2.1 1234 (u.2.1 1248 (x : Int32).toNatClampNeg : Int32).toNatClampNeg) (u.2.1 1233 (u.2.1 1248 (y : Int32).toNatClampNeg : Int32).toNatClampNeg) (u.2.1 1234 (u.2.1 1248 (y : Int32).toNatClampNeg : Int32).toNatClampNeg) := hw_14
      refine lv_istore (lv' := [(5, .int r_15), (4, .int y), (3, .int x), (0, .ref (E.2.2 1299)), (1, .int x), (2, .int y)]) hF.1 hF.2.1 dX12_areBoth_100 hl (by decide) rfl (fun ls hl => ?_)
      refine lv_aload_n hF.1 hF.2.1 dX12_areBoth_102 rfl (lv_at hl 3 rfl) ?_
      refine q_get (v := .ref (E.2.2 1251)) hF hU dX12_areBoth_103 0 12 51 1251 1299 rfl rfl rfl rfl inX12 (by decide) (by decide) w_1383 rfl rfl ?_
      refine lv_iload hF.1 hF.2.1 dX12_areBoth_106 (lv_at hl 1 rfl) ?_
      refine q_iald (v := u.2.1 1251 (y : Int32).toNatClampNeg) hF hU dX12_areBoth_108 30 1251 rfl rfl (g_X12_areBoth_f_v31 u x y k r_15 hI hk hx hy hys c12_1 c43_2 hb_10 hs_11 hb_12 hw_14) rfl ?_
      refine lv_aload_n hF.1 hF.2.1 dX12_areBoth_109 rfl (lv_at hl 3 rfl) ?_
      refine q_get (v := .ref (E.2.2 1251)) hF hU dX12_areBoth_110 0 12 51 1251 1299 rfl rfl rfl rfl inX12 (by decide) (by decide) w_1383 rfl rfl ?_
      refine lv_iload_n hF.1 hF.2.1 dX12_areBoth_113 rfl (lv_at hl 2 rfl) ?_
      refine q_iald (v := u.2.1 1251 (x : Int32).toNatClampNeg) hF hU dX12_areBoth_114 30 1251 rfl rfl (g_X12_areBoth_f_v32 u x y k r_15 hI hk hx hy hys c12_1 c43_2 hb_10 hs_11 hb_12 hw_14) rfl ?_
      refine lv_aload_n hF.1 hF.2.1 dX12_areBoth_115 rfl (lv_at hl 3 rfl) ?_
      refine q_get (v := .ref (E.2.2 1252)) hF hU dX12_areBoth_116 0 12 52 1252 1299 rfl rfl rfl rfl inX12 (by decide) (by decide) w_1384 rfl rfl ?_
      refine lv_iload_n hF.1 hF.2.1 dX12_areBoth_119 rfl (lv_at hl 2 rfl) ?_
      refine q_iald (v := u.2.1 1252 (x : Int32).toNatClampNeg) hF hU dX12_areBoth_120 31 1252 rfl rfl (g_X12_areBoth_f_v33 u x y k r_15 hI hk hx hy hys c12_1 c43_2 hb_10 hs_11 hb_12 hw_14) rfl ?_
      refine lv_iadd hF.1 hF.2.1 dX12_areBoth_121 ?_
      refine lv_aload_n hF.1 hF.2.1 dX12_areBoth_122 rfl (lv_at hl 3 rfl) ?_
      refine q_get (v := .int (u.1 1242)) hF hU dX12_areBoth_123 0 12 42 1242 1299 rfl rfl rfl rfl inX12 (by decide) (by decide) w_1374 rfl rfl ?_
      refine lv_iload hF.1 hF.2.1 dX12_areBoth_126 (lv_at hl 0 rfl) ?_
      refine lv_imul hF.1 hF.2.1 dX12_areBoth_128 ?_
      refine lv_iadd hF.1 hF.2.1 dX12_areBoth_129 ?_
      refine lv_icmp_lt (tgt := 137) hF.1 hF.2.1 dX12_areBoth_130 (by decide) (fun c130_16 => ?_) (fun c130_16 => ?_)
      · refine lv_iconst (v := 0) hF.1 hF.2.1 dX12_areBoth_137 (by decide) ?_
        exact q_iret hF hr (by decide) hlocks hU hS dX12_areBoth_138 ⟨rfl, (g_X12_areBoth_f_v34 u x y k r_15 hI hk hx hy hys c12_1 c43_2 hb_10 hs_11 hb_12 hw_14 c130_16)⟩
      · refine lv_iconst (v := 1) hF.1 hF.2.1 dX12_areBoth_133 (by decide) ?_
        refine lv_goto (tgt := 138) hF.1 hF.2.1 dX12_areBoth_134 (by decide) ?_
        exact q_iret hF hr (by decide) hlocks hU hS dX12_areBoth_138 ⟨rfl, (g_X12_areBoth_f_v35 u x y k r_15 hI hk hx hy hys c12_1 c43_2 hb_10 hs_11 hb_12 hw_14 c130_16)⟩
  · refine lv_aload_n hF.1 hF.2.1 dX12_areBoth_15 rfl (lv_at hl 0 rfl) ?_
    refine q_get (v := .ref (E.2.2 1251)) hF hU dX12_areBoth_16 0 12 51 1251 1299 rfl rfl rfl rfl inX12 (by decide) (by decide) w_1383 rfl rfl ?_
    refine lv_iload_n hF.1 hF.2.1 dX12_areBoth_19 rfl (lv_at hl 1 rfl) ?_
    refine q_iald (v := u.2.1 1251 (x : Int32).toNatClampNeg) hF hU dX12_areBoth_20 30 1251 rfl rfl (g_X12_areBoth_f_v36 u x y k hI hk hx hy hys c12_1) rfl ?_
    refine lv_aload_n hF.1 hF.2.1 dX12_areBoth_21 rfl (lv_at hl 0 rfl) ?_
    refine q_get (v := .ref (E.2.2 1251)) hF hU dX12_areBoth_22 0 12 51 1251 1299 rfl rfl rfl rfl inX12 (by decide) (by decide) w_1383 rfl rfl ?_
    refine lv_iload_n hF.1 hF.2.1 dX12_areBoth_25 rfl (lv_at hl 2 rfl) ?_
    refine q_iald (v := u.2.1 1251 (y : Int32).toNatClampNeg) hF hU dX12_areBoth_26 30 1251 rfl rfl (g_X12_areBoth_f_v37 u x y k hI hk hx hy hys c12_1) rfl ?_
    refine lv_icmp_ne (tgt := 39) hF.1 hF.2.1 dX12_areBoth_27 (by decide) (fun c27_17 => ?_) (fun c27_17 => ?_)
    · refine lv_iload_n hF.1 hF.2.1 dX12_areBoth_39 rfl (lv_at hl 2 rfl) ?_
      refine lv_istore_n (lv' := [(3, .int y), (0, .ref (E.2.2 1299)), (1, .int x), (2, .int y)]) hF.1 hF.2.1 dX12_areBoth_40 rfl hl (by decide) rfl (fun ls hl => ?_)
      refine lv_iload_n hF.1 hF.2.1 dX12_areBoth_41 rfl (lv_at hl 0 rfl) ?_
      refine lv_iload_n hF.1 hF.2.1 dX12_areBoth_42 rfl (lv_at hl 2 rfl) ?_
      refine lv_icmp_ne (tgt := 50) hF.1 hF.2.1 dX12_areBoth_43 (by decide) (fun c43_18 => ?_) (fun c43_18 => ?_)
      · refine lv_iload_n hF.1 hF.2.1 dX12_areBoth_50 rfl (lv_at hl 2 rfl) ?_
        refine lv_istore (lv' := [(4, .int x), (3, .int y), (0, .ref (E.2.2 1299)), (1, .int x), (2, .int y)]) hF.1 hF.2.1 dX12_areBoth_51 hl (by decide) rfl (fun ls hl => ?_)
        refine lv_aload_n hF.1 hF.2.1 dX12_areBoth_53 rfl (lv_at hl 2 rfl) ?_
        refine q_get (v := .ref (E.2.2 1233)) hF hU dX12_areBoth_54 0 12 33 1233 1299 rfl rfl rfl rfl inX12 (by decide) (by decide) w_1365 rfl rfl ?_
        refine lv_aload_n hF.1 hF.2.1 dX12_areBoth_57 rfl (lv_at hl 2 rfl) ?_
        refine q_get (v := .ref (E.2.2 1248)) hF hU dX12_areBoth_58 0 12 48 1248 1299 rfl rfl rfl rfl inX12 (by decide) (by decide) w_1380 rfl rfl ?_
        refine lv_iload_n hF.1 hF.2.1 dX12_areBoth_61 rfl (lv_at hl 3 rfl) ?_
        refine q_iald (v := u.2.1 1248 (x : Int32).toNatClampNeg) hF hU dX12_areBoth_62 27 1248 rfl rfl (g_X12_areBoth_f_v38 u x y k hI hk hx hy hys c12_1 c27_17 c43_18) rfl ?_
        have hb_19 : 0 ≤ (u.2.1 1248 (x : Int32).toNatClampNeg) ∧ (u.2.1 1248 (x : Int32).toNatClampNeg) < u.1 1232 := hI.2.1.r1248 x (g_X12_areBoth_f_v39 u x y k hI hk hx hy hys c12_1 c27_17 c43_18)
        have hs_20 : 0 ≤ u.1 1232 ∧ u.1 1232 ≤ 20 := hI.1.s1232
        refine q_iald (v := u.2.1 1233 (u.2.1 1248 (x : Int32).toNatClampNeg : Int32).toNatClampNeg) hF hU dX12_areBoth_63 19 1233 rfl rfl (g_X12_areBoth_f_v40 u x y k hI hk hx hy hys c12_1 c27_17 c43_18 hb_19 hs_20) rfl ?_
        refine lv_aload_n hF.1 hF.2.1 dX12_areBoth_64 rfl (lv_at hl 2 rfl) ?_
        refine q_get (v := .ref (E.2.2 1234)) hF hU dX12_areBoth_65 0 12 34 1234 1299 rfl rfl rfl rfl inX12 (by decide) (by decide) w_1366 rfl rfl ?_
        refine lv_aload_n hF.1 hF.2.1 dX12_areBoth_68 rfl (lv_at hl 2 rfl) ?_
        refine q_get (v := .ref (E.2.2 1248)) hF hU dX12_areBoth_69 0 12 48 1248 1299 rfl rfl rfl rfl inX12 (by decide) (by decide) w_1380 rfl rfl ?_
        refine lv_iload_n hF.1 hF.2.1 dX12_areBoth_72 rfl (lv_at hl 3 rfl) ?_
        refine q_iald (v := u.2.1 1248 (x : Int32).toNatClampNeg) hF hU dX12_areBoth_73 27 1248 rfl rfl (g_X12_areBoth_f_v41 u x y k hI hk hx hy hys c12_1 c27_17 c43_18 hb_19 hs_20) rfl ?_
        refine q_iald (v := u.2.1 1234 (u.2.1 1248 (x : Int32).toNatClampNeg : Int32).toNatClampNeg) hF hU dX12_areBoth_74 20 1234 rfl rfl (g_X12_areBoth_f_v43 u x y k hI hk hx hy hys c12_1 c27_17 c43_18 hb_19 hs_20) rfl ?_
        refine lv_aload_n hF.1 hF.2.1 dX12_areBoth_75 rfl (lv_at hl 2 rfl) ?_
        refine q_get (v := .ref (E.2.2 1233)) hF hU dX12_areBoth_76 0 12 33 1233 1299 rfl rfl rfl rfl inX12 (by decide) (by decide) w_1365 rfl rfl ?_
        refine lv_aload_n hF.1 hF.2.1 dX12_areBoth_79 rfl (lv_at hl 2 rfl) ?_
        refine q_get (v := .ref (E.2.2 1248)) hF hU dX12_areBoth_80 0 12 48 1248 1299 rfl rfl rfl rfl inX12 (by decide) (by decide) w_1380 rfl rfl ?_
        refine lv_iload_n hF.1 hF.2.1 dX12_areBoth_83 rfl (lv_at hl 4 rfl) ?_
        refine q_iald (v := u.2.1 1248 (y : Int32).toNatClampNeg) hF hU dX12_areBoth_84 27 1248 rfl rfl (g_X12_areBoth_f_v44 u x y k hI hk hx hy hys c12_1 c27_17 c43_18 hb_19 hs_20) rfl ?_
        have hb_21 : 0 ≤ (u.2.1 1248 (y : Int32).toNatClampNeg) ∧ (u.2.1 1248 (y : Int32).toNatClampNeg) < u.1 1232 := hI.2.1.r1248 y (g_X12_areBoth_f_v45 u x y k hI hk hx hy hys c12_1 c27_17 c43_18 hb_19 hs_20)
        refine q_iald (v := u.2.1 1233 (u.2.1 1248 (y : Int32).toNatClampNeg : Int32).toNatClampNeg) hF hU dX12_areBoth_85 19 1233 rfl rfl (g_X12_areBoth_f_v46 u x y k hI hk hx hy hys c12_1 c27_17 c43_18 hb_19 hs_20 hb_21) rfl ?_
        refine lv_aload_n hF.1 hF.2.1 dX12_areBoth_86 rfl (lv_at hl 2 rfl) ?_
        refine q_get (v := .ref (E.2.2 1234)) hF hU dX12_areBoth_87 0 12 34 1234 1299 rfl rfl rfl rfl inX12 (by decide) (by decide) w_1366 rfl rfl ?_
        refine lv_aload_n hF.1 hF.2.1 dX12_areBoth_90 rfl (lv_at hl 2 rfl) ?_
        refine q_get (v := .ref (E.2.2 1248)) hF hU dX12_areBoth_91 0 12 48 1248 1299 rfl rfl rfl rfl inX12 (by decide) (by decide) w_1380 rfl rfl ?_
        refine lv_iload_n hF.1 hF.2.1 dX12_areBoth_94 rfl (lv_at hl 4 rfl) ?_
        refine q_iald (v := u.2.1 1248 (y : Int32).toNatClampNeg) hF hU dX12_areBoth_95 27 1248 rfl rfl (g_X12_areBoth_f_v47 u x y k hI hk hx hy hys c12_1 c27_17 c43_18 hb_19 hs_20 hb_21) rfl ?_
        refine q_iald (v := u.2.1 1234 (u.2.1 1248 (y : Int32).toNatClampNeg : Int32).toNatClampNeg) hF hU dX12_areBoth_96 20 1234 rfl rfl (g_X12_areBoth_f_v49 u x y k hI hk hx hy hys c12_1 c27_17 c43_18 hb_19 hs_20 hb_21) rfl ?_
        have hM9 := g_X12_wayBetween_f l E A u (u.2.1 1233 (u.2.1 1248 (x : Int32).toNatClampNeg : Int32).toNatClampNeg) (u.2.1 1234 (u.2.1 1248 (x : Int32).toNatClampNeg : Int32).toNatClampNeg) (u.2.1 1233 (u.2.1 1248 (y : Int32).toNatClampNeg : Int32).toNatClampNeg) (u.2.1 1234 (u.2.1 1248 (y : Int32).toNatClampNeg : Int32).toNatClampNeg)
        have hR9 := q_runS (l := l) (e := e0) (below := bl0) (meth := me0) (R := qR 1 0 0) (cells := 0) (slots := 0) (st0 := [.int (u.2.1 1234 (u.2.1 1248 (y : Int32).toNatClampNeg : Int32).toNatClampNeg), .int (u.2.1 1233 (u.2.1 1248 (y : Int32).toNatClampNeg : Int32).toNatClampNeg), .int (u.2.1 1234 (u.2.1 1248 (x : Int32).toNatClampNeg : Int32).toNatClampNeg), .int (u.2.1 1233 (u.2.1 1248 (x : Int32).toNatClampNeg : Int32).toNatClampNeg)]) (rest := []) hF hU hS hA 4 hM9 w_1791 w_1792 w_107 w_1793 (by decide +kernel) ⟨Nat.le_of_ble_eq_true rfl, Nat.le_of_ble_eq_true rfl⟩ dX12_areBoth_97 rfl hl.1 rfl (Nat.le_of_ble_eq_true rfl) ⟨Nat.le_of_ble_eq_true rfl, Nat.le_of_ble_eq_true rfl⟩
        refine q_calli hR9 hU.2.2.2 hS (fun r_24 u_22 H locs hw_23 hU hS => ?_)
        obtain ⟨hw_23_e, hw_23⟩ := hw_23
        rw [hw_23_e] at hU
        have hw_23 : r_24 = f_wb (u.2.1 1233 (u.2.1 1248 (x : Int32).toNatClampNeg : Int32).toNatClampNeg) (u.2.1 1234 (u.2.1 1248 (x : Int32).toNatClampNeg : Int32).toNatClampNeg) (u.2.1 1233 (u.2.1 1248 (y : Int32).toNatClampNeg : Int32).toNatClampNeg) (u.2.1 1234 (u.2.1 1248 (y : Int32).toNatClampNeg : Int32).toNatClampNeg) := hw_23
        refine lv_istore (lv' := [(5, .int r_24), (4, .int x), (3, .int y), (0, .ref (E.2.2 1299)), (1, .int x), (2, .int y)]) hF.1 hF.2.1 dX12_areBoth_100 hl (by decide) rfl (fun ls hl => ?_)
        refine lv_aload_n hF.1 hF.2.1 dX12_areBoth_102 rfl (lv_at hl 3 rfl) ?_
        refine q_get (v := .ref (E.2.2 1251)) hF hU dX12_areBoth_103 0 12 51 1251 1299 rfl rfl rfl rfl inX12 (by decide) (by decide) w_1383 rfl rfl ?_
        refine lv_iload hF.1 hF.2.1 dX12_areBoth_106 (lv_at hl 1 rfl) ?_
        refine q_iald (v := u.2.1 1251 (x : Int32).toNatClampNeg) hF hU dX12_areBoth_108 30 1251 rfl rfl (g_X12_areBoth_f_v50 u x y k r_24 hI hk hx hy hys c12_1 c27_17 c43_18 hb_19 hs_20 hb_21 hw_23) rfl ?_
        refine lv_aload_n hF.1 hF.2.1 dX12_areBoth_109 rfl (lv_at hl 3 rfl) ?_
        refine q_get (v := .ref (E.2.2 1251)) hF hU dX12_areBoth_110 0 12 51 1251 1299 rfl rfl rfl rfl inX12 (by decide) (by decide) w_1383 rfl rfl ?_
        refine lv_iload_n hF.1 hF.2.1 dX12_areBoth_113 rfl (lv_at hl 2 rfl) ?_
        refine q_iald (v := u.2.1 1251 (y : Int32).toNatClampNeg) hF hU dX12_areBoth_114 30 1251 rfl rfl (g_X12_areBoth_f_v51 u x y k r_24 hI hk hx hy hys c12_1 c27_17 c43_18 hb_19 hs_20 hb_21 hw_23) rfl ?_
        refine lv_aload_n hF.1 hF.2.1 dX12_areBoth_115 rfl (lv_at hl 3 rfl) ?_
        refine q_get (v := .ref (E.2.2 1252)) hF hU dX12_areBoth_116 0 12 52 1252 1299 rfl rfl rfl rfl inX12 (by decide) (by decide) w_1384 rfl rfl ?_
        refine lv_iload_n hF.1 hF.2.1 dX12_areBoth_119 rfl (lv_at hl 2 rfl) ?_
        refine q_iald (v := u.2.1 1252 (y : Int32).toNatClampNeg) hF hU dX12_areBoth_120 31 1252 rfl rfl (g_X12_areBoth_f_v52 u x y k r_24 hI hk hx hy hys c12_1 c27_17 c43_18 hb_19 hs_20 hb_21 hw_23) rfl ?_
        refine lv_iadd hF.1 hF.2.1 dX12_areBoth_121 ?_
        refine lv_aload_n hF.1 hF.2.1 dX12_areBoth_122 rfl (lv_at hl 3 rfl) ?_
        refine q_get (v := .int (u.1 1242)) hF hU dX12_areBoth_123 0 12 42 1242 1299 rfl rfl rfl rfl inX12 (by decide) (by decide) w_1374 rfl rfl ?_
        refine lv_iload hF.1 hF.2.1 dX12_areBoth_126 (lv_at hl 0 rfl) ?_
        refine lv_imul hF.1 hF.2.1 dX12_areBoth_128 ?_
        refine lv_iadd hF.1 hF.2.1 dX12_areBoth_129 ?_
        refine lv_icmp_lt (tgt := 137) hF.1 hF.2.1 dX12_areBoth_130 (by decide) (fun c130_25 => ?_) (fun c130_25 => ?_)
        · refine lv_iconst (v := 0) hF.1 hF.2.1 dX12_areBoth_137 (by decide) ?_
          exact q_iret hF hr (by decide) hlocks hU hS dX12_areBoth_138 ⟨rfl, (g_X12_areBoth_f_v53 u x y k r_24 hI hk hx hy hys c12_1 c27_17 c43_18 hb_19 hs_20 hb_21 hw_23 c130_25)⟩
        · refine lv_iconst (v := 1) hF.1 hF.2.1 dX12_areBoth_133 (by decide) ?_
          refine lv_goto (tgt := 138) hF.1 hF.2.1 dX12_areBoth_134 (by decide) ?_
          exact q_iret hF hr (by decide) hlocks hU hS dX12_areBoth_138 ⟨rfl, (g_X12_areBoth_f_v54 u x y k r_24 hI hk hx hy hys c12_1 c27_17 c43_18 hb_19 hs_20 hb_21 hw_23 c130_25)⟩
      · refine lv_iload_n hF.1 hF.2.1 dX12_areBoth_46 rfl (lv_at hl 3 rfl) ?_
        refine lv_goto (tgt := 51) hF.1 hF.2.1 dX12_areBoth_47 (by decide) ?_
        refine lv_istore (lv' := [(4, .int y), (3, .int y), (0, .ref (E.2.2 1299)), (1, .int x), (2, .int y)]) hF.1 hF.2.1 dX12_areBoth_51 hl (by decide) rfl (fun ls hl => ?_)
        refine lv_aload_n hF.1 hF.2.1 dX12_areBoth_53 rfl (lv_at hl 2 rfl) ?_
        refine q_get (v := .ref (E.2.2 1233)) hF hU dX12_areBoth_54 0 12 33 1233 1299 rfl rfl rfl rfl inX12 (by decide) (by decide) w_1365 rfl rfl ?_
        refine lv_aload_n hF.1 hF.2.1 dX12_areBoth_57 rfl (lv_at hl 2 rfl) ?_
        refine q_get (v := .ref (E.2.2 1248)) hF hU dX12_areBoth_58 0 12 48 1248 1299 rfl rfl rfl rfl inX12 (by decide) (by decide) w_1380 rfl rfl ?_
        refine lv_iload_n hF.1 hF.2.1 dX12_areBoth_61 rfl (lv_at hl 3 rfl) ?_
        refine q_iald (v := u.2.1 1248 (x : Int32).toNatClampNeg) hF hU dX12_areBoth_62 27 1248 rfl rfl (g_X12_areBoth_f_v55 u x y k hI hk hx hy hys c12_1 c27_17 c43_18) rfl ?_
        have hb_26 : 0 ≤ (u.2.1 1248 (x : Int32).toNatClampNeg) ∧ (u.2.1 1248 (x : Int32).toNatClampNeg) < u.1 1232 := hI.2.1.r1248 x (g_X12_areBoth_f_v56 u x y k hI hk hx hy hys c12_1 c27_17 c43_18)
        have hs_27 : 0 ≤ u.1 1232 ∧ u.1 1232 ≤ 20 := hI.1.s1232
        refine q_iald (v := u.2.1 1233 (u.2.1 1248 (x : Int32).toNatClampNeg : Int32).toNatClampNeg) hF hU dX12_areBoth_63 19 1233 rfl rfl (g_X12_areBoth_f_v57 u x y k hI hk hx hy hys c12_1 c27_17 c43_18 hb_26 hs_27) rfl ?_
        refine lv_aload_n hF.1 hF.2.1 dX12_areBoth_64 rfl (lv_at hl 2 rfl) ?_
        refine q_get (v := .ref (E.2.2 1234)) hF hU dX12_areBoth_65 0 12 34 1234 1299 rfl rfl rfl rfl inX12 (by decide) (by decide) w_1366 rfl rfl ?_
        refine lv_aload_n hF.1 hF.2.1 dX12_areBoth_68 rfl (lv_at hl 2 rfl) ?_
        refine q_get (v := .ref (E.2.2 1248)) hF hU dX12_areBoth_69 0 12 48 1248 1299 rfl rfl rfl rfl inX12 (by decide) (by decide) w_1380 rfl rfl ?_
        refine lv_iload_n hF.1 hF.2.1 dX12_areBoth_72 rfl (lv_at hl 3 rfl) ?_
        refine q_iald (v := u.2.1 1248 (x : Int32).toNatClampNeg) hF hU dX12_areBoth_73 27 1248 rfl rfl (g_X12_areBoth_f_v58 u x y k hI hk hx hy hys c12_1 c27_17 c43_18 hb_26 hs_27) rfl ?_
        refine q_iald (v := u.2.1 1234 (u.2.1 1248 (x : Int32).toNatClampNeg : Int32).toNatClampNeg) hF hU dX12_areBoth_74 20 1234 rfl rfl (g_X12_areBoth_f_v60 u x y k hI hk hx hy hys c12_1 c27_17 c43_18 hb_26 hs_27) rfl ?_
        refine lv_aload_n hF.1 hF.2.1 dX12_areBoth_75 rfl (lv_at hl 2 rfl) ?_
        refine q_get (v := .ref (E.2.2 1233)) hF hU dX12_areBoth_76 0 12 33 1233 1299 rfl rfl rfl rfl inX12 (by decide) (by decide) w_1365 rfl rfl ?_
        refine lv_aload_n hF.1 hF.2.1 dX12_areBoth_79 rfl (lv_at hl 2 rfl) ?_
        refine q_get (v := .ref (E.2.2 1248)) hF hU dX12_areBoth_80 0 12 48 1248 1299 rfl rfl rfl rfl inX12 (by decide) (by decide) w_1380 rfl rfl ?_
        refine lv_iload_n hF.1 hF.2.1 dX12_areBoth_83 rfl (lv_at hl 4 rfl) ?_
        refine q_iald (v := u.2.1 1248 (y : Int32).toNatClampNeg) hF hU dX12_areBoth_84 27 1248 rfl rfl (g_X12_areBoth_f_v61 u x y k hI hk hx hy hys c12_1 c27_17 c43_18 hb_26 hs_27) rfl ?_
        have hb_28 : 0 ≤ (u.2.1 1248 (y : Int32).toNatClampNeg) ∧ (u.2.1 1248 (y : Int32).toNatClampNeg) < u.1 1232 := hI.2.1.r1248 y (g_X12_areBoth_f_v62 u x y k hI hk hx hy hys c12_1 c27_17 c43_18 hb_26 hs_27)
        refine q_iald (v := u.2.1 1233 (u.2.1 1248 (y : Int32).toNatClampNeg : Int32).toNatClampNeg) hF hU dX12_areBoth_85 19 1233 rfl rfl (g_X12_areBoth_f_v63 u x y k hI hk hx hy hys c12_1 c27_17 c43_18 hb_26 hs_27 hb_28) rfl ?_
        refine lv_aload_n hF.1 hF.2.1 dX12_areBoth_86 rfl (lv_at hl 2 rfl) ?_
        refine q_get (v := .ref (E.2.2 1234)) hF hU dX12_areBoth_87 0 12 34 1234 1299 rfl rfl rfl rfl inX12 (by decide) (by decide) w_1366 rfl rfl ?_
        refine lv_aload_n hF.1 hF.2.1 dX12_areBoth_90 rfl (lv_at hl 2 rfl) ?_
        refine q_get (v := .ref (E.2.2 1248)) hF hU dX12_areBoth_91 0 12 48 1248 1299 rfl rfl rfl rfl inX12 (by decide) (by decide) w_1380 rfl rfl ?_
        refine lv_iload_n hF.1 hF.2.1 dX12_areBoth_94 rfl (lv_at hl 4 rfl) ?_
        refine q_iald (v := u.2.1 1248 (y : Int32).toNatClampNeg) hF hU dX12_areBoth_95 27 1248 rfl rfl (g_X12_areBoth_f_v64 u x y k hI hk hx hy hys c12_1 c27_17 c43_18 hb_26 hs_27 hb_28) rfl ?_
        refine q_iald (v := u.2.1 1234 (u.2.1 1248 (y : Int32).toNatClampNeg : Int32).toNatClampNeg) hF hU dX12_areBoth_96 20 1234 rfl rfl (g_X12_areBoth_f_v66 u x y k hI hk hx hy hys c12_1 c27_17 c43_18 hb_26 hs_27 hb_28) rfl ?_
        have hM9 := g_X12_wayBetween_f l E A u (u.2.1 1233 (u.2.1 1248 (x : Int32).toNatClampNeg : Int32).toNatClampNeg) (u.2.1 1234 (u.2.1 1248 (x : Int32).toNatClampNeg : Int32).toNatClampNeg) (u.2.1 1233 (u.2.1 1248 (y : Int32).toNatClampNeg : Int32).toNatClampNeg) (u.2.1 1234 (u.2.1 1248 (y : Int32).toNatClampNeg : Int32).toNatClampNeg)
        have hR9 := q_runS (l := l) (e := e0) (below := bl0) (meth := me0) (R := qR 1 0 0) (cells := 0) (slots := 0) (st0 := [.int (u.2.1 1234 (u.2.1 1248 (y : Int32).toNatClampNeg : Int32).toNatClampNeg), .int (u.2.1 1233 (u.2.1 1248 (y : Int32).toNatClampNeg : Int32).toNatClampNeg), .int (u.2.1 1234 (u.2.1 1248 (x : Int32).toNatClampNeg : Int32).toNatClampNeg), .int (u.2.1 1233 (u.2.1 1248 (x : Int32).toNatClampNeg : Int32).toNatClampNeg)]) (rest := []) hF hU hS hA 4 hM9 w_1791 w_1792 w_107 w_1793 (by decide +kernel) ⟨Nat.le_of_ble_eq_true rfl, Nat.le_of_ble_eq_true rfl⟩ dX12_areBoth_97 rfl hl.1 rfl (Nat.le_of_ble_eq_true rfl) ⟨Nat.le_of_ble_eq_true rfl, Nat.le_of_ble_eq_true rfl⟩
        refine q_calli hR9 hU.2.2.2 hS (fun r_31 u_29 H locs hw_30 hU hS => ?_)
        obtain ⟨hw_30_e, hw_30⟩ := hw_30
        rw [hw_30_e] at hU
        have hw_30 : r_31 = f_wb (u.2.1 1233 (u.2.1 1248 (x : Int32).toNatClampNeg : Int32).toNatClampNeg) (u.2.1 1234 (u.2.1 1248 (x : Int32).toNatClampNeg : Int32).toNatClampNeg) (u.2.1 1233 (u.2.1 1248 (y : Int32).toNatClampNeg : Int32).toNatClampNeg) (u.2.1 1234 (u.2.1 1248 (y : Int32).toNatClampNeg : Int32).toNatClampNeg) := hw_30
        refine lv_istore (lv' := [(5, .int r_31), (4, .int y), (3, .int y), (0, .ref (E.2.2 1299)), (1, .int x), (2, .int y)]) hF.1 hF.2.1 dX12_areBoth_100 hl (by decide) rfl (fun ls hl => ?_)
        refine lv_aload_n hF.1 hF.2.1 dX12_areBoth_102 rfl (lv_at hl 3 rfl) ?_
        refine q_get (v := .ref (E.2.2 1251)) hF hU dX12_areBoth_103 0 12 51 1251 1299 rfl rfl rfl rfl inX12 (by decide) (by decide) w_1383 rfl rfl ?_
        refine lv_iload hF.1 hF.2.1 dX12_areBoth_106 (lv_at hl 1 rfl) ?_
        refine q_iald (v := u.2.1 1251 (y : Int32).toNatClampNeg) hF hU dX12_areBoth_108 30 1251 rfl rfl (g_X12_areBoth_f_v67 u x y k r_31 hI hk hx hy hys c12_1 c27_17 c43_18 hb_26 hs_27 hb_28 hw_30) rfl ?_
        refine lv_aload_n hF.1 hF.2.1 dX12_areBoth_109 rfl (lv_at hl 3 rfl) ?_
        refine q_get (v := .ref (E.2.2 1251)) hF hU dX12_areBoth_110 0 12 51 1251 1299 rfl rfl rfl rfl inX12 (by decide) (by decide) w_1383 rfl rfl ?_
        refine lv_iload_n hF.1 hF.2.1 dX12_areBoth_113 rfl (lv_at hl 2 rfl) ?_
        refine q_iald (v := u.2.1 1251 (y : Int32).toNatClampNeg) hF hU dX12_areBoth_114 30 1251 rfl rfl (g_X12_areBoth_f_v68 u x y k r_31 hI hk hx hy hys c12_1 c27_17 c43_18 hb_26 hs_27 hb_28 hw_30) rfl ?_
        refine lv_aload_n hF.1 hF.2.1 dX12_areBoth_115 rfl (lv_at hl 3 rfl) ?_
        refine q_get (v := .ref (E.2.2 1252)) hF hU dX12_areBoth_116 0 12 52 1252 1299 rfl rfl rfl rfl inX12 (by decide) (by decide) w_1384 rfl rfl ?_
        refine lv_iload_n hF.1 hF.2.1 dX12_areBoth_119 rfl (lv_at hl 2 rfl) ?_
        refine q_iald (v := u.2.1 1252 (y : Int32).toNatClampNeg) hF hU dX12_areBoth_120 31 1252 rfl rfl (g_X12_areBoth_f_v69 u x y k r_31 hI hk hx hy hys c12_1 c27_17 c43_18 hb_26 hs_27 hb_28 hw_30) rfl ?_
        refine lv_iadd hF.1 hF.2.1 dX12_areBoth_121 ?_
        refine lv_aload_n hF.1 hF.2.1 dX12_areBoth_122 rfl (lv_at hl 3 rfl) ?_
        refine q_get (v := .int (u.1 1242)) hF hU dX12_areBoth_123 0 12 42 1242 1299 rfl rfl rfl rfl inX12 (by decide) (by decide) w_1374 rfl rfl ?_
        refine lv_iload hF.1 hF.2.1 dX12_areBoth_126 (lv_at hl 0 rfl) ?_
        refine lv_imul hF.1 hF.2.1 dX12_areBoth_128 ?_
        refine lv_iadd hF.1 hF.2.1 dX12_areBoth_129 ?_
        refine lv_icmp_lt (tgt := 137) hF.1 hF.2.1 dX12_areBoth_130 (by decide) (fun c130_32 => ?_) (fun c130_32 => ?_)
        · refine lv_iconst (v := 0) hF.1 hF.2.1 dX12_areBoth_137 (by decide) ?_
          exact q_iret hF hr (by decide) hlocks hU hS dX12_areBoth_138 ⟨rfl, (g_X12_areBoth_f_v70 u x y k r_31 hI hk hx hy hys c12_1 c27_17 c43_18 hb_26 hs_27 hb_28 hw_30 c130_32)⟩
        · refine lv_iconst (v := 1) hF.1 hF.2.1 dX12_areBoth_133 (by decide) ?_
          refine lv_goto (tgt := 138) hF.1 hF.2.1 dX12_areBoth_134 (by decide) ?_
          exact q_iret hF hr (by decide) hlocks hU hS dX12_areBoth_138 ⟨rfl, (g_X12_areBoth_f_v71 u x y k r_31 hI hk hx hy hys c12_1 c27_17 c43_18 hb_26 hs_27 hb_28 hw_30 c130_32)⟩
    · refine lv_iload_n hF.1 hF.2.1 dX12_areBoth_30 rfl (lv_at hl 1 rfl) ?_
      refine lv_iload_n hF.1 hF.2.1 dX12_areBoth_31 rfl (lv_at hl 2 rfl) ?_
      refine lv_icmp_ge (tgt := 39) hF.1 hF.2.1 dX12_areBoth_32 (by decide) (fun c32_33 => ?_) (fun c32_33 => ?_)
      · refine lv_iload_n hF.1 hF.2.1 dX12_areBoth_39 rfl (lv_at hl 2 rfl) ?_
        refine lv_istore_n (lv' := [(3, .int y), (0, .ref (E.2.2 1299)), (1, .int x), (2, .int y)]) hF.1 hF.2.1 dX12_areBoth_40 rfl hl (by decide) rfl (fun ls hl => ?_)
        refine lv_iload_n hF.1 hF.2.1 dX12_areBoth_41 rfl (lv_at hl 0 rfl) ?_
        refine lv_iload_n hF.1 hF.2.1 dX12_areBoth_42 rfl (lv_at hl 2 rfl) ?_
        refine lv_icmp_ne (tgt := 50) hF.1 hF.2.1 dX12_areBoth_43 (by decide) (fun c43_34 => ?_) (fun c43_34 => ?_)
        · refine lv_iload_n hF.1 hF.2.1 dX12_areBoth_50 rfl (lv_at hl 2 rfl) ?_
          refine lv_istore (lv' := [(4, .int x), (3, .int y), (0, .ref (E.2.2 1299)), (1, .int x), (2, .int y)]) hF.1 hF.2.1 dX12_areBoth_51 hl (by decide) rfl (fun ls hl => ?_)
          refine lv_aload_n hF.1 hF.2.1 dX12_areBoth_53 rfl (lv_at hl 2 rfl) ?_
          refine q_get (v := .ref (E.2.2 1233)) hF hU dX12_areBoth_54 0 12 33 1233 1299 rfl rfl rfl rfl inX12 (by decide) (by decide) w_1365 rfl rfl ?_
          refine lv_aload_n hF.1 hF.2.1 dX12_areBoth_57 rfl (lv_at hl 2 rfl) ?_
          refine q_get (v := .ref (E.2.2 1248)) hF hU dX12_areBoth_58 0 12 48 1248 1299 rfl rfl rfl rfl inX12 (by decide) (by decide) w_1380 rfl rfl ?_
          refine lv_iload_n hF.1 hF.2.1 dX12_areBoth_61 rfl (lv_at hl 3 rfl) ?_
          refine q_iald (v := u.2.1 1248 (x : Int32).toNatClampNeg) hF hU dX12_areBoth_62 27 1248 rfl rfl (g_X12_areBoth_f_v72 u x y k hI hk hx hy hys c12_1 c27_17 c32_33 c43_34) rfl ?_
          have hb_35 : 0 ≤ (u.2.1 1248 (x : Int32).toNatClampNeg) ∧ (u.2.1 1248 (x : Int32).toNatClampNeg) < u.1 1232 := hI.2.1.r1248 x (g_X12_areBoth_f_v73 u x y k hI hk hx hy hys c12_1 c27_17 c32_33 c43_34)
          have hs_36 : 0 ≤ u.1 1232 ∧ u.1 1232 ≤ 20 := hI.1.s1232
          refine q_iald (v := u.2.1 1233 (u.2.1 1248 (x : Int32).toNatClampNeg : Int32).toNatClampNeg) hF hU dX12_areBoth_63 19 1233 rfl rfl (g_X12_areBoth_f_v74 u x y k hI hk hx hy hys c12_1 c27_17 c32_33 c43_34 hb_35 hs_36) rfl ?_
          refine lv_aload_n hF.1 hF.2.1 dX12_areBoth_64 rfl (lv_at hl 2 rfl) ?_
          refine q_get (v := .ref (E.2.2 1234)) hF hU dX12_areBoth_65 0 12 34 1234 1299 rfl rfl rfl rfl inX12 (by decide) (by decide) w_1366 rfl rfl ?_
          refine lv_aload_n hF.1 hF.2.1 dX12_areBoth_68 rfl (lv_at hl 2 rfl) ?_
          refine q_get (v := .ref (E.2.2 1248)) hF hU dX12_areBoth_69 0 12 48 1248 1299 rfl rfl rfl rfl inX12 (by decide) (by decide) w_1380 rfl rfl ?_
          refine lv_iload_n hF.1 hF.2.1 dX12_areBoth_72 rfl (lv_at hl 3 rfl) ?_
          refine q_iald (v := u.2.1 1248 (x : Int32).toNatClampNeg) hF hU dX12_areBoth_73 27 1248 rfl rfl (g_X12_areBoth_f_v75 u x y k hI hk hx hy hys c12_1 c27_17 c32_33 c43_34 hb_35 hs_36) rfl ?_
          refine q_iald (v := u.2.1 1234 (u.2.1 1248 (x : Int32).toNatClampNeg : Int32).toNatClampNeg) hF hU dX12_areBoth_74 20 1234 rfl rfl (g_X12_areBoth_f_v77 u x y k hI hk hx hy hys c12_1 c27_17 c32_33 c43_34 hb_35 hs_36) rfl ?_
          refine lv_aload_n hF.1 hF.2.1 dX12_areBoth_75 rfl (lv_at hl 2 rfl) ?_
          refine q_get (v := .ref (E.2.2 1233)) hF hU dX12_areBoth_76 0 12 33 1233 1299 rfl rfl rfl rfl inX12 (by decide) (by decide) w_1365 rfl rfl ?_
          refine lv_aload_n hF.1 hF.2.1 dX12_areBoth_79 rfl (lv_at hl 2 rfl) ?_
          refine q_get (v := .ref (E.2.2 1248)) hF hU dX12_areBoth_80 0 12 48 1248 1299 rfl rfl rfl rfl inX12 (by decide) (by decide) w_1380 rfl rfl ?_
          refine lv_iload_n hF.1 hF.2.1 dX12_areBoth_83 rfl (lv_at hl 4 rfl) ?_
          refine q_iald (v := u.2.1 1248 (y : Int32).toNatClampNeg) hF hU dX12_areBoth_84 27 1248 rfl rfl (g_X12_areBoth_f_v78 u x y k hI hk hx hy hys c12_1 c27_17 c32_33 c43_34 hb_35 hs_36) rfl ?_
          have hb_37 : 0 ≤ (u.2.1 1248 (y : Int32).toNatClampNeg) ∧ (u.2.1 1248 (y : Int32).toNatClampNeg) < u.1 1232 := hI.2.1.r1248 y (g_X12_areBoth_f_v79 u x y k hI hk hx hy hys c12_1 c27_17 c32_33 c43_34 hb_35 hs_36)
          refine q_iald (v := u.2.1 1233 (u.2.1 1248 (y : Int32).toNatClampNeg : Int32).toNatClampNeg) hF hU dX12_areBoth_85 19 1233 rfl rfl (g_X12_areBoth_f_v80 u x y k hI hk hx hy hys c12_1 c27_17 c32_33 c43_34 hb_35 hs_36 hb_37) rfl ?_
          refine lv_aload_n hF.1 hF.2.1 dX12_areBoth_86 rfl (lv_at hl 2 rfl) ?_
          refine q_get (v := .ref (E.2.2 1234)) hF hU dX12_areBoth_87 0 12 34 1234 1299 rfl rfl rfl rfl inX12 (by decide) (by decide) w_1366 rfl rfl ?_
          refine lv_aload_n hF.1 hF.2.1 dX12_areBoth_90 rfl (lv_at hl 2 rfl) ?_
          refine q_get (v := .ref (E.2.2 1248)) hF hU dX12_areBoth_91 0 12 48 1248 1299 rfl rfl rfl rfl inX12 (by decide) (by decide) w_1380 rfl rfl ?_
          refine lv_iload_n hF.1 hF.2.1 dX12_areBoth_94 rfl (lv_at hl 4 rfl) ?_
          refine q_iald (v := u.2.1 1248 (y : Int32).toNatClampNeg) hF hU dX12_areBoth_95 27 1248 rfl rfl (g_X12_areBoth_f_v81 u x y k hI hk hx hy hys c12_1 c27_17 c32_33 c43_34 hb_35 hs_36 hb_37) rfl ?_
          refine q_iald (v := u.2.1 1234 (u.2.1 1248 (y : Int32).toNatClampNeg : Int32).toNatClampNeg) hF hU dX12_areBoth_96 20 1234 rfl rfl (g_X12_areBoth_f_v83 u x y k hI hk hx hy hys c12_1 c27_17 c32_33 c43_34 hb_35 hs_36 hb_37) rfl ?_
          have hM9 := g_X12_wayBetween_f l E A u (u.2.1 1233 (u.2.1 1248 (x : Int32).toNatClampNeg : Int32).toNatClampNeg) (u.2.1 1234 (u.2.1 1248 (x : Int32).toNatClampNeg : Int32).toNatClampNeg) (u.2.1 1233 (u.2.1 1248 (y : Int32).toNatClampNeg : Int32).toNatClampNeg) (u.2.1 1234 (u.2.1 1248 (y : Int32).toNatClampNeg : Int32).toNatClampNeg)
          have hR9 := q_runS (l := l) (e := e0) (below := bl0) (meth := me0) (R := qR 1 0 0) (cells := 0) (slots := 0) (st0 := [.int (u.2.1 1234 (u.2.1 1248 (y : Int32).toNatClampNeg : Int32).toNatClampNeg), .int (u.2.1 1233 (u.2.1 1248 (y : Int32).toNatClampNeg : Int32).toNatClampNeg), .int (u.2.1 1234 (u.2.1 1248 (x : Int32).toNatClampNeg : Int32).toNatClampNeg), .int (u.2.1 1233 (u.2.1 1248 (x : Int32).toNatClampNeg : Int32).toNatClampNeg)]) (rest := []) hF hU hS hA 4 hM9 w_1791 w_1792 w_107 w_1793 (by decide +kernel) ⟨Nat.le_of_ble_eq_true rfl, Nat.le_of_ble_eq_true rfl⟩ dX12_areBoth_97 rfl hl.1 rfl (Nat.le_of_ble_eq_true rfl) ⟨Nat.le_of_ble_eq_true rfl, Nat.le_of_ble_eq_true rfl⟩
          refine q_calli hR9 hU.2.2.2 hS (fun r_40 u_38 H locs hw_39 hU hS => ?_)
          obtain ⟨hw_39_e, hw_39⟩ := hw_39
          rw [hw_39_e] at hU
          have hw_39 : r_40 = f_wb (u.2.1 1233 (u.2.1 1248 (x : Int32).toNatClampNeg : Int32).toNatClampNeg) (u.2.1 1234 (u.2.1 1248 (x : Int32).toNatClampNeg : Int32).toNatClampNeg) (u.2.1 1233 (u.2.1 1248 (y : Int32).toNatClampNeg : Int32).toNatClampNeg) (u.2.1 1234 (u.2.1 1248 (y : Int32).toNatClampNeg : Int32).toNatClampNeg) := hw_39
          refine lv_istore (lv' := [(5, .int r_40), (4, .int x), (3, .int y), (0, .ref (E.2.2 1299)), (1, .int x), (2, .int y)]) hF.1 hF.2.1 dX12_areBoth_100 hl (by decide) rfl (fun ls hl => ?_)
          refine lv_aload_n hF.1 hF.2.1 dX12_areBoth_102 rfl (lv_at hl 3 rfl) ?_
          refine q_get (v := .ref (E.2.2 1251)) hF hU dX12_areBoth_103 0 12 51 1251 1299 rfl rfl rfl rfl inX12 (by decide) (by decide) w_1383 rfl rfl ?_
          refine lv_iload hF.1 hF.2.1 dX12_areBoth_106 (lv_at hl 1 rfl) ?_
          refine q_iald (v := u.2.1 1251 (x : Int32).toNatClampNeg) hF hU dX12_areBoth_108 30 1251 rfl rfl (g_X12_areBoth_f_v84 u x y k r_40 hI hk hx hy hys c12_1 c27_17 c32_33 c43_34 hb_35 hs_36 hb_37 hw_39) rfl ?_
          refine lv_aload_n hF.1 hF.2.1 dX12_areBoth_109 rfl (lv_at hl 3 rfl) ?_
          refine q_get (v := .ref (E.2.2 1251)) hF hU dX12_areBoth_110 0 12 51 1251 1299 rfl rfl rfl rfl inX12 (by decide) (by decide) w_1383 rfl rfl ?_
          refine lv_iload_n hF.1 hF.2.1 dX12_areBoth_113 rfl (lv_at hl 2 rfl) ?_
          refine q_iald (v := u.2.1 1251 (y : Int32).toNatClampNeg) hF hU dX12_areBoth_114 30 1251 rfl rfl (g_X12_areBoth_f_v85 u x y k r_40 hI hk hx hy hys c12_1 c27_17 c32_33 c43_34 hb_35 hs_36 hb_37 hw_39) rfl ?_
          refine lv_aload_n hF.1 hF.2.1 dX12_areBoth_115 rfl (lv_at hl 3 rfl) ?_
          refine q_get (v := .ref (E.2.2 1252)) hF hU dX12_areBoth_116 0 12 52 1252 1299 rfl rfl rfl rfl inX12 (by decide) (by decide) w_1384 rfl rfl ?_
          refine lv_iload_n hF.1 hF.2.1 dX12_areBoth_119 rfl (lv_at hl 2 rfl) ?_
          refine q_iald (v := u.2.1 1252 (y : Int32).toNatClampNeg) hF hU dX12_areBoth_120 31 1252 rfl rfl (g_X12_areBoth_f_v86 u x y k r_40 hI hk hx hy hys c12_1 c27_17 c32_33 c43_34 hb_35 hs_36 hb_37 hw_39) rfl ?_
          refine lv_iadd hF.1 hF.2.1 dX12_areBoth_121 ?_
          refine lv_aload_n hF.1 hF.2.1 dX12_areBoth_122 rfl (lv_at hl 3 rfl) ?_
          refine q_get (v := .int (u.1 1242)) hF hU dX12_areBoth_123 0 12 42 1242 1299 rfl rfl rfl rfl inX12 (by decide) (by decide) w_1374 rfl rfl ?_
          refine lv_iload hF.1 hF.2.1 dX12_areBoth_126 (lv_at hl 0 rfl) ?_
          refine lv_imul hF.1 hF.2.1 dX12_areBoth_128 ?_
          refine lv_iadd hF.1 hF.2.1 dX12_areBoth_129 ?_
          refine lv_icmp_lt (tgt := 137) hF.1 hF.2.1 dX12_areBoth_130 (by decide) (fun c130_41 => ?_) (fun c130_41 => ?_)
          · refine lv_iconst (v := 0) hF.1 hF.2.1 dX12_areBoth_137 (by decide) ?_
            exact q_iret hF hr (by decide) hlocks hU hS dX12_areBoth_138 ⟨rfl, (g_X12_areBoth_f_v87 u x y k r_40 hI hk hx hy hys c12_1 c27_17 c32_33 c43_34 hb_35 hs_36 hb_37 hw_39 c130_41)⟩
          · refine lv_iconst (v := 1) hF.1 hF.2.1 dX12_areBoth_133 (by decide) ?_
            refine lv_goto (tgt := 138) hF.1 hF.2.1 dX12_areBoth_134 (by decide) ?_
            exact q_iret hF hr (by decide) hlocks hU hS dX12_areBoth_138 ⟨rfl, (g_X12_areBoth_f_v88 u x y k r_40 hI hk hx hy hys c12_1 c27_17 c32_33 c43_34 hb_35 hs_36 hb_37 hw_39 c130_41)⟩
        · refine lv_iload_n hF.1 hF.2.1 dX12_areBoth_46 rfl (lv_at hl 3 rfl) ?_
          refine lv_goto (tgt := 51) hF.1 hF.2.1 dX12_areBoth_47 (by decide) ?_
          refine lv_istore (lv' := [(4, .int y), (3, .int y), (0, .ref (E.2.2 1299)), (1, .int x), (2, .int y)]) hF.1 hF.2.1 dX12_areBoth_51 hl (by decide) rfl (fun ls hl => ?_)
          refine lv_aload_n hF.1 hF.2.1 dX12_areBoth_53 rfl (lv_at hl 2 rfl) ?_
          refine q_get (v := .ref (E.2.2 1233)) hF hU dX12_areBoth_54 0 12 33 1233 1299 rfl rfl rfl rfl inX12 (by decide) (by decide) w_1365 rfl rfl ?_
          refine lv_aload_n hF.1 hF.2.1 dX12_areBoth_57 rfl (lv_at hl 2 rfl) ?_
          refine q_get (v := .ref (E.2.2 1248)) hF hU dX12_areBoth_58 0 12 48 1248 1299 rfl rfl rfl rfl inX12 (by decide) (by decide) w_1380 rfl rfl ?_
          refine lv_iload_n hF.1 hF.2.1 dX12_areBoth_61 rfl (lv_at hl 3 rfl) ?_
          refine q_iald (v := u.2.1 1248 (x : Int32).toNatClampNeg) hF hU dX12_areBoth_62 27 1248 rfl rfl (g_X12_areBoth_f_v89 u x y k hI hk hx hy hys c12_1 c27_17 c32_33 c43_34) rfl ?_
          have hb_42 : 0 ≤ (u.2.1 1248 (x : Int32).toNatClampNeg) ∧ (u.2.1 1248 (x : Int32).toNatClampNeg) < u.1 1232 := hI.2.1.r1248 x (g_X12_areBoth_f_v90 u x y k hI hk hx hy hys c12_1 c27_17 c32_33 c43_34)
          have hs_43 : 0 ≤ u.1 1232 ∧ u.1 1232 ≤ 20 := hI.1.s1232
          refine q_iald (v := u.2.1 1233 (u.2.1 1248 (x : Int32).toNatClampNeg : Int32).toNatClampNeg) hF hU dX12_areBoth_63 19 1233 rfl rfl (g_X12_areBoth_f_v91 u x y k hI hk hx hy hys c12_1 c27_17 c32_33 c43_34 hb_42 hs_43) rfl ?_
          refine lv_aload_n hF.1 hF.2.1 dX12_areBoth_64 rfl (lv_at hl 2 rfl) ?_
          refine q_get (v := .ref (E.2.2 1234)) hF hU dX12_areBoth_65 0 12 34 1234 1299 rfl rfl rfl rfl inX12 (by decide) (by decide) w_1366 rfl rfl ?_
          refine lv_aload_n hF.1 hF.2.1 dX12_areBoth_68 rfl (lv_at hl 2 rfl) ?_
          refine q_get (v := .ref (E.2.2 1248)) hF hU dX12_areBoth_69 0 12 48 1248 1299 rfl rfl rfl rfl inX12 (by decide) (by decide) w_1380 rfl rfl ?_
          refine lv_iload_n hF.1 hF.2.1 dX12_areBoth_72 rfl (lv_at hl 3 rfl) ?_
          refine q_iald (v := u.2.1 1248 (x : Int32).toNatClampNeg) hF hU dX12_areBoth_73 27 1248 rfl rfl (g_X12_areBoth_f_v92 u x y k hI hk hx hy hys c12_1 c27_17 c32_33 c43_34 hb_42 hs_43) rfl ?_
          refine q_iald (v := u.2.1 1234 (u.2.1 1248 (x : Int32).toNatClampNeg : Int32).toNatClampNeg) hF hU dX12_areBoth_74 20 1234 rfl rfl (g_X12_areBoth_f_v94 u x y k hI hk hx hy hys c12_1 c27_17 c32_33 c43_34 hb_42 hs_43) rfl ?_
          refine lv_aload_n hF.1 hF.2.1 dX12_areBoth_75 rfl (lv_at hl 2 rfl) ?_
          refine q_get (v := .ref (E.2.2 1233)) hF hU dX12_areBoth_76 0 12 33 1233 1299 rfl rfl rfl rfl inX12 (by decide) (by decide) w_1365 rfl rfl ?_
          refine lv_aload_n hF.1 hF.2.1 dX12_areBoth_79 rfl (lv_at hl 2 rfl) ?_
          refine q_get (v := .ref (E.2.2 1248)) hF hU dX12_areBoth_80 0 12 48 1248 1299 rfl rfl rfl rfl inX12 (by decide) (by decide) w_1380 rfl rfl ?_
          refine lv_iload_n hF.1 hF.2.1 dX12_areBoth_83 rfl (lv_at hl 4 rfl) ?_
          refine q_iald (v := u.2.1 1248 (y : Int32).toNatClampNeg) hF hU dX12_areBoth_84 27 1248 rfl rfl (g_X12_areBoth_f_v95 u x y k hI hk hx hy hys c12_1 c27_17 c32_33 c43_34 hb_42 hs_43) rfl ?_
          have hb_44 : 0 ≤ (u.2.1 1248 (y : Int32).toNatClampNeg) ∧ (u.2.1 1248 (y : Int32).toNatClampNeg) < u.1 1232 := hI.2.1.r1248 y (g_X12_areBoth_f_v96 u x y k hI hk hx hy hys c12_1 c27_17 c32_33 c43_34 hb_42 hs_43)
          refine q_iald (v := u.2.1 1233 (u.2.1 1248 (y : Int32).toNatClampNeg : Int32).toNatClampNeg) hF hU dX12_areBoth_85 19 1233 rfl rfl (g_X12_areBoth_f_v97 u x y k hI hk hx hy hys c12_1 c27_17 c32_33 c43_34 hb_42 hs_43 hb_44) rfl ?_
          refine lv_aload_n hF.1 hF.2.1 dX12_areBoth_86 rfl (lv_at hl 2 rfl) ?_
          refine q_get (v := .ref (E.2.2 1234)) hF hU dX12_areBoth_87 0 12 34 1234 1299 rfl rfl rfl rfl inX12 (by decide) (by decide) w_1366 rfl rfl ?_
          refine lv_aload_n hF.1 hF.2.1 dX12_areBoth_90 rfl (lv_at hl 2 rfl) ?_
          refine q_get (v := .ref (E.2.2 1248)) hF hU dX12_areBoth_91 0 12 48 1248 1299 rfl rfl rfl rfl inX12 (by decide) (by decide) w_1380 rfl rfl ?_
          refine lv_iload_n hF.1 hF.2.1 dX12_areBoth_94 rfl (lv_at hl 4 rfl) ?_
          refine q_iald (v := u.2.1 1248 (y : Int32).toNatClampNeg) hF hU dX12_areBoth_95 27 1248 rfl rfl (g_X12_areBoth_f_v98 u x y k hI hk hx hy hys c12_1 c27_17 c32_33 c43_34 hb_42 hs_43 hb_44) rfl ?_
          refine q_iald (v := u.2.1 1234 (u.2.1 1248 (y : Int32).toNatClampNeg : Int32).toNatClampNeg) hF hU dX12_areBoth_96 20 1234 rfl rfl (g_X12_areBoth_f_v100 u x y k hI hk hx hy hys c12_1 c27_17 c32_33 c43_34 hb_42 hs_43 hb_44) rfl ?_
          have hM9 := g_X12_wayBetween_f l E A u (u.2.1 1233 (u.2.1 1248 (x : Int32).toNatClampNeg : Int32).toNatClampNeg) (u.2.1 1234 (u.2.1 1248 (x : Int32).toNatClampNeg : Int32).toNatClampNeg) (u.2.1 1233 (u.2.1 1248 (y : Int32).toNatClampNeg : Int32).toNatClampNeg) (u.2.1 1234 (u.2.1 1248 (y : Int32).toNatClampNeg : Int32).toNatClampNeg)
          have hR9 := q_runS (l := l) (e := e0) (below := bl0) (meth := me0) (R := qR 1 0 0) (cells := 0) (slots := 0) (st0 := [.int (u.2.1 1234 (u.2.1 1248 (y : Int32).toNatClampNeg : Int32).toNatClampNeg), .int (u.2.1 1233 (u.2.1 1248 (y : Int32).toNatClampNeg : Int32).toNatClampNeg), .int (u.2.1 1234 (u.2.1 1248 (x : Int32).toNatClampNeg : Int32).toNatClampNeg), .int (u.2.1 1233 (u.2.1 1248 (x : Int32).toNatClampNeg : Int32).toNatClampNeg)]) (rest := []) hF hU hS hA 4 hM9 w_1791 w_1792 w_107 w_1793 (by decide +kernel) ⟨Nat.le_of_ble_eq_true rfl, Nat.le_of_ble_eq_true rfl⟩ dX12_areBoth_97 rfl hl.1 rfl (Nat.le_of_ble_eq_true rfl) ⟨Nat.le_of_ble_eq_true rfl, Nat.le_of_ble_eq_true rfl⟩
          refine q_calli hR9 hU.2.2.2 hS (fun r_47 u_45 H locs hw_46 hU hS => ?_)
          obtain ⟨hw_46_e, hw_46⟩ := hw_46
          rw [hw_46_e] at hU
          have hw_46 : r_47 = f_wb (u.2.1 1233 (u.2.1 1248 (x : Int32).toNatClampNeg : Int32).toNatClampNeg) (u.2.1 1234 (u.2.1 1248 (x : Int32).toNatClampNeg : Int32).toNatClampNeg) (u.2.1 1233 (u.2.1 1248 (y : Int32).toNatClampNeg : Int32).toNatClampNeg) (u.2.1 1234 (u.2.1 1248 (y : Int32).toNatClampNeg : Int32).toNatClampNeg) := hw_46
          refine lv_istore (lv' := [(5, .int r_47), (4, .int y), (3, .int y), (0, .ref (E.2.2 1299)), (1, .int x), (2, .int y)]) hF.1 hF.2.1 dX12_areBoth_100 hl (by decide) rfl (fun ls hl => ?_)
          refine lv_aload_n hF.1 hF.2.1 dX12_areBoth_102 rfl (lv_at hl 3 rfl) ?_
          refine q_get (v := .ref (E.2.2 1251)) hF hU dX12_areBoth_103 0 12 51 1251 1299 rfl rfl rfl rfl inX12 (by decide) (by decide) w_1383 rfl rfl ?_
          refine lv_iload hF.1 hF.2.1 dX12_areBoth_106 (lv_at hl 1 rfl) ?_
          refine q_iald (v := u.2.1 1251 (y : Int32).toNatClampNeg) hF hU dX12_areBoth_108 30 1251 rfl rfl (g_X12_areBoth_f_v101 u x y k r_47 hI hk hx hy hys c12_1 c27_17 c32_33 c43_34 hb_42 hs_43 hb_44 hw_46) rfl ?_
          refine lv_aload_n hF.1 hF.2.1 dX12_areBoth_109 rfl (lv_at hl 3 rfl) ?_
          refine q_get (v := .ref (E.2.2 1251)) hF hU dX12_areBoth_110 0 12 51 1251 1299 rfl rfl rfl rfl inX12 (by decide) (by decide) w_1383 rfl rfl ?_
          refine lv_iload_n hF.1 hF.2.1 dX12_areBoth_113 rfl (lv_at hl 2 rfl) ?_
          refine q_iald (v := u.2.1 1251 (y : Int32).toNatClampNeg) hF hU dX12_areBoth_114 30 1251 rfl rfl (g_X12_areBoth_f_v102 u x y k r_47 hI hk hx hy hys c12_1 c27_17 c32_33 c43_34 hb_42 hs_43 hb_44 hw_46) rfl ?_
          refine lv_aload_n hF.1 hF.2.1 dX12_areBoth_115 rfl (lv_at hl 3 rfl) ?_
          refine q_get (v := .ref (E.2.2 1252)) hF hU dX12_areBoth_116 0 12 52 1252 1299 rfl rfl rfl rfl inX12 (by decide) (by decide) w_1384 rfl rfl ?_
          refine lv_iload_n hF.1 hF.2.1 dX12_areBoth_119 rfl (lv_at hl 2 rfl) ?_
          refine q_iald (v := u.2.1 1252 (y : Int32).toNatClampNeg) hF hU dX12_areBoth_120 31 1252 rfl rfl (g_X12_areBoth_f_v103 u x y k r_47 hI hk hx hy hys c12_1 c27_17 c32_33 c43_34 hb_42 hs_43 hb_44 hw_46) rfl ?_
          refine lv_iadd hF.1 hF.2.1 dX12_areBoth_121 ?_
          refine lv_aload_n hF.1 hF.2.1 dX12_areBoth_122 rfl (lv_at hl 3 rfl) ?_
          refine q_get (v := .int (u.1 1242)) hF hU dX12_areBoth_123 0 12 42 1242 1299 rfl rfl rfl rfl inX12 (by decide) (by decide) w_1374 rfl rfl ?_
          refine lv_iload hF.1 hF.2.1 dX12_areBoth_126 (lv_at hl 0 rfl) ?_
          refine lv_imul hF.1 hF.2.1 dX12_areBoth_128 ?_
          refine lv_iadd hF.1 hF.2.1 dX12_areBoth_129 ?_
          refine lv_icmp_lt (tgt := 137) hF.1 hF.2.1 dX12_areBoth_130 (by decide) (fun c130_48 => ?_) (fun c130_48 => ?_)
          · refine lv_iconst (v := 0) hF.1 hF.2.1 dX12_areBoth_137 (by decide) ?_
            exact q_iret hF hr (by decide) hlocks hU hS dX12_areBoth_138 ⟨rfl, (g_X12_areBoth_f_v104 u x y k r_47 hI hk hx hy hys c12_1 c27_17 c32_33 c43_34 hb_42 hs_43 hb_44 hw_46 c130_48)⟩
          · refine lv_iconst (v := 1) hF.1 hF.2.1 dX12_areBoth_133 (by decide) ?_
            refine lv_goto (tgt := 138) hF.1 hF.2.1 dX12_areBoth_134 (by decide) ?_
            exact q_iret hF hr (by decide) hlocks hU hS dX12_areBoth_138 ⟨rfl, (g_X12_areBoth_f_v105 u x y k r_47 hI hk hx hy hys c12_1 c27_17 c32_33 c43_34 hb_42 hs_43 hb_44 hw_46 c130_48)⟩
      · refine lv_iload_n hF.1 hF.2.1 dX12_areBoth_35 rfl (lv_at hl 1 rfl) ?_
        refine lv_goto (tgt := 40) hF.1 hF.2.1 dX12_areBoth_36 (by decide) ?_
        refine lv_istore_n (lv' := [(3, .int x), (0, .ref (E.2.2 1299)), (1, .int x), (2, .int y)]) hF.1 hF.2.1 dX12_areBoth_40 rfl hl (by decide) rfl (fun ls hl => ?_)
        refine lv_iload_n hF.1 hF.2.1 dX12_areBoth_41 rfl (lv_at hl 0 rfl) ?_
        refine lv_iload_n hF.1 hF.2.1 dX12_areBoth_42 rfl (lv_at hl 2 rfl) ?_
        refine lv_icmp_ne (tgt := 50) hF.1 hF.2.1 dX12_areBoth_43 (by decide) (fun c43_49 => ?_) (fun c43_49 => ?_)
        · refine lv_iload_n hF.1 hF.2.1 dX12_areBoth_50 rfl (lv_at hl 2 rfl) ?_
          refine lv_istore (lv' := [(4, .int x), (3, .int x), (0, .ref (E.2.2 1299)), (1, .int x), (2, .int y)]) hF.1 hF.2.1 dX12_areBoth_51 hl (by decide) rfl (fun ls hl => ?_)
          refine lv_aload_n hF.1 hF.2.1 dX12_areBoth_53 rfl (lv_at hl 2 rfl) ?_
          refine q_get (v := .ref (E.2.2 1233)) hF hU dX12_areBoth_54 0 12 33 1233 1299 rfl rfl rfl rfl inX12 (by decide) (by decide) w_1365 rfl rfl ?_
          refine lv_aload_n hF.1 hF.2.1 dX12_areBoth_57 rfl (lv_at hl 2 rfl) ?_
          refine q_get (v := .ref (E.2.2 1248)) hF hU dX12_areBoth_58 0 12 48 1248 1299 rfl rfl rfl rfl inX12 (by decide) (by decide) w_1380 rfl rfl ?_
          refine lv_iload_n hF.1 hF.2.1 dX12_areBoth_61 rfl (lv_at hl 3 rfl) ?_
          refine q_iald (v := u.2.1 1248 (x : Int32).toNatClampNeg) hF hU dX12_areBoth_62 27 1248 rfl rfl (g_X12_areBoth_f_v106 u x y k hI hk hx hy hys c12_1 c27_17 c32_33 c43_49) rfl ?_
          have hb_50 : 0 ≤ (u.2.1 1248 (x : Int32).toNatClampNeg) ∧ (u.2.1 1248 (x : Int32).toNatClampNeg) < u.1 1232 := hI.2.1.r1248 x (g_X12_areBoth_f_v107 u x y k hI hk hx hy hys c12_1 c27_17 c32_33 c43_49)
          have hs_51 : 0 ≤ u.1 1232 ∧ u.1 1232 ≤ 20 := hI.1.s1232
          refine q_iald (v := u.2.1 1233 (u.2.1 1248 (x : Int32).toNatClampNeg : Int32).toNatClampNeg) hF hU dX12_areBoth_63 19 1233 rfl rfl (g_X12_areBoth_f_v108 u x y k hI hk hx hy hys c12_1 c27_17 c32_33 c43_49 hb_50 hs_51) rfl ?_
          refine lv_aload_n hF.1 hF.2.1 dX12_areBoth_64 rfl (lv_at hl 2 rfl) ?_
          refine q_get (v := .ref (E.2.2 1234)) hF hU dX12_areBoth_65 0 12 34 1234 1299 rfl rfl rfl rfl inX12 (by decide) (by decide) w_1366 rfl rfl ?_
          refine lv_aload_n hF.1 hF.2.1 dX12_areBoth_68 rfl (lv_at hl 2 rfl) ?_
          refine q_get (v := .ref (E.2.2 1248)) hF hU dX12_areBoth_69 0 12 48 1248 1299 rfl rfl rfl rfl inX12 (by decide) (by decide) w_1380 rfl rfl ?_
          refine lv_iload_n hF.1 hF.2.1 dX12_areBoth_72 rfl (lv_at hl 3 rfl) ?_
          refine q_iald (v := u.2.1 1248 (x : Int32).toNatClampNeg) hF hU dX12_areBoth_73 27 1248 rfl rfl (g_X12_areBoth_f_v109 u x y k hI hk hx hy hys c12_1 c27_17 c32_33 c43_49 hb_50 hs_51) rfl ?_
          refine q_iald (v := u.2.1 1234 (u.2.1 1248 (x : Int32).toNatClampNeg : Int32).toNatClampNeg) hF hU dX12_areBoth_74 20 1234 rfl rfl (g_X12_areBoth_f_v111 u x y k hI hk hx hy hys c12_1 c27_17 c32_33 c43_49 hb_50 hs_51) rfl ?_
          refine lv_aload_n hF.1 hF.2.1 dX12_areBoth_75 rfl (lv_at hl 2 rfl) ?_
          refine q_get (v := .ref (E.2.2 1233)) hF hU dX12_areBoth_76 0 12 33 1233 1299 rfl rfl rfl rfl inX12 (by decide) (by decide) w_1365 rfl rfl ?_
          refine lv_aload_n hF.1 hF.2.1 dX12_areBoth_79 rfl (lv_at hl 2 rfl) ?_
          refine q_get (v := .ref (E.2.2 1248)) hF hU dX12_areBoth_80 0 12 48 1248 1299 rfl rfl rfl rfl inX12 (by decide) (by decide) w_1380 rfl rfl ?_
          refine lv_iload_n hF.1 hF.2.1 dX12_areBoth_83 rfl (lv_at hl 4 rfl) ?_
          refine q_iald (v := u.2.1 1248 (y : Int32).toNatClampNeg) hF hU dX12_areBoth_84 27 1248 rfl rfl (g_X12_areBoth_f_v112 u x y k hI hk hx hy hys c12_1 c27_17 c32_33 c43_49 hb_50 hs_51) rfl ?_
          have hb_52 : 0 ≤ (u.2.1 1248 (y : Int32).toNatClampNeg) ∧ (u.2.1 1248 (y : Int32).toNatClampNeg) < u.1 1232 := hI.2.1.r1248 y (g_X12_areBoth_f_v113 u x y k hI hk hx hy hys c12_1 c27_17 c32_33 c43_49 hb_50 hs_51)
          refine q_iald (v := u.2.1 1233 (u.2.1 1248 (y : Int32).toNatClampNeg : Int32).toNatClampNeg) hF hU dX12_areBoth_85 19 1233 rfl rfl (g_X12_areBoth_f_v114 u x y k hI hk hx hy hys c12_1 c27_17 c32_33 c43_49 hb_50 hs_51 hb_52) rfl ?_
          refine lv_aload_n hF.1 hF.2.1 dX12_areBoth_86 rfl (lv_at hl 2 rfl) ?_
          refine q_get (v := .ref (E.2.2 1234)) hF hU dX12_areBoth_87 0 12 34 1234 1299 rfl rfl rfl rfl inX12 (by decide) (by decide) w_1366 rfl rfl ?_
          refine lv_aload_n hF.1 hF.2.1 dX12_areBoth_90 rfl (lv_at hl 2 rfl) ?_
          refine q_get (v := .ref (E.2.2 1248)) hF hU dX12_areBoth_91 0 12 48 1248 1299 rfl rfl rfl rfl inX12 (by decide) (by decide) w_1380 rfl rfl ?_
          refine lv_iload_n hF.1 hF.2.1 dX12_areBoth_94 rfl (lv_at hl 4 rfl) ?_
          refine q_iald (v := u.2.1 1248 (y : Int32).toNatClampNeg) hF hU dX12_areBoth_95 27 1248 rfl rfl (g_X12_areBoth_f_v115 u x y k hI hk hx hy hys c12_1 c27_17 c32_33 c43_49 hb_50 hs_51 hb_52) rfl ?_
          refine q_iald (v := u.2.1 1234 (u.2.1 1248 (y : Int32).toNatClampNeg : Int32).toNatClampNeg) hF hU dX12_areBoth_96 20 1234 rfl rfl (g_X12_areBoth_f_v117 u x y k hI hk hx hy hys c12_1 c27_17 c32_33 c43_49 hb_50 hs_51 hb_52) rfl ?_
          have hM9 := g_X12_wayBetween_f l E A u (u.2.1 1233 (u.2.1 1248 (x : Int32).toNatClampNeg : Int32).toNatClampNeg) (u.2.1 1234 (u.2.1 1248 (x : Int32).toNatClampNeg : Int32).toNatClampNeg) (u.2.1 1233 (u.2.1 1248 (y : Int32).toNatClampNeg : Int32).toNatClampNeg) (u.2.1 1234 (u.2.1 1248 (y : Int32).toNatClampNeg : Int32).toNatClampNeg)
          have hR9 := q_runS (l := l) (e := e0) (below := bl0) (meth := me0) (R := qR 1 0 0) (cells := 0) (slots := 0) (st0 := [.int (u.2.1 1234 (u.2.1 1248 (y : Int32).toNatClampNeg : Int32).toNatClampNeg), .int (u.2.1 1233 (u.2.1 1248 (y : Int32).toNatClampNeg : Int32).toNatClampNeg), .int (u.2.1 1234 (u.2.1 1248 (x : Int32).toNatClampNeg : Int32).toNatClampNeg), .int (u.2.1 1233 (u.2.1 1248 (x : Int32).toNatClampNeg : Int32).toNatClampNeg)]) (rest := []) hF hU hS hA 4 hM9 w_1791 w_1792 w_107 w_1793 (by decide +kernel) ⟨Nat.le_of_ble_eq_true rfl, Nat.le_of_ble_eq_true rfl⟩ dX12_areBoth_97 rfl hl.1 rfl (Nat.le_of_ble_eq_true rfl) ⟨Nat.le_of_ble_eq_true rfl, Nat.le_of_ble_eq_true rfl⟩
          refine q_calli hR9 hU.2.2.2 hS (fun r_55 u_53 H locs hw_54 hU hS => ?_)
          obtain ⟨hw_54_e, hw_54⟩ := hw_54
          rw [hw_54_e] at hU
          have hw_54 : r_55 = f_wb (u.2.1 1233 (u.2.1 1248 (x : Int32).toNatClampNeg : Int32).toNatClampNeg) (u.2.1 1234 (u.2.1 1248 (x : Int32).toNatClampNeg : Int32).toNatClampNeg) (u.2.1 1233 (u.2.1 1248 (y : Int32).toNatClampNeg : Int32).toNatClampNeg) (u.2.1 1234 (u.2.1 1248 (y : Int32).toNatClampNeg : Int32).toNatClampNeg) := hw_54
          refine lv_istore (lv' := [(5, .int r_55), (4, .int x), (3, .int x), (0, .ref (E.2.2 1299)), (1, .int x), (2, .int y)]) hF.1 hF.2.1 dX12_areBoth_100 hl (by decide) rfl (fun ls hl => ?_)
          refine lv_aload_n hF.1 hF.2.1 dX12_areBoth_102 rfl (lv_at hl 3 rfl) ?_
          refine q_get (v := .ref (E.2.2 1251)) hF hU dX12_areBoth_103 0 12 51 1251 1299 rfl rfl rfl rfl inX12 (by decide) (by decide) w_1383 rfl rfl ?_
          refine lv_iload hF.1 hF.2.1 dX12_areBoth_106 (lv_at hl 1 rfl) ?_
          refine q_iald (v := u.2.1 1251 (x : Int32).toNatClampNeg) hF hU dX12_areBoth_108 30 1251 rfl rfl (g_X12_areBoth_f_v118 u x y k r_55 hI hk hx hy hys c12_1 c27_17 c32_33 c43_49 hb_50 hs_51 hb_52 hw_54) rfl ?_
          refine lv_aload_n hF.1 hF.2.1 dX12_areBoth_109 rfl (lv_at hl 3 rfl) ?_
          refine q_get (v := .ref (E.2.2 1251)) hF hU dX12_areBoth_110 0 12 51 1251 1299 rfl rfl rfl rfl inX12 (by decide) (by decide) w_1383 rfl rfl ?_
          refine lv_iload_n hF.1 hF.2.1 dX12_areBoth_113 rfl (lv_at hl 2 rfl) ?_
          refine q_iald (v := u.2.1 1251 (x : Int32).toNatClampNeg) hF hU dX12_areBoth_114 30 1251 rfl rfl (g_X12_areBoth_f_v119 u x y k r_55 hI hk hx hy hys c12_1 c27_17 c32_33 c43_49 hb_50 hs_51 hb_52 hw_54) rfl ?_
          refine lv_aload_n hF.1 hF.2.1 dX12_areBoth_115 rfl (lv_at hl 3 rfl) ?_
          refine q_get (v := .ref (E.2.2 1252)) hF hU dX12_areBoth_116 0 12 52 1252 1299 rfl rfl rfl rfl inX12 (by decide) (by decide) w_1384 rfl rfl ?_
          refine lv_iload_n hF.1 hF.2.1 dX12_areBoth_119 rfl (lv_at hl 2 rfl) ?_
          refine q_iald (v := u.2.1 1252 (x : Int32).toNatClampNeg) hF hU dX12_areBoth_120 31 1252 rfl rfl (g_X12_areBoth_f_v120 u x y k r_55 hI hk hx hy hys c12_1 c27_17 c32_33 c43_49 hb_50 hs_51 hb_52 hw_54) rfl ?_
          refine lv_iadd hF.1 hF.2.1 dX12_areBoth_121 ?_
          refine lv_aload_n hF.1 hF.2.1 dX12_areBoth_122 rfl (lv_at hl 3 rfl) ?_
          refine q_get (v := .int (u.1 1242)) hF hU dX12_areBoth_123 0 12 42 1242 1299 rfl rfl rfl rfl inX12 (by decide) (by decide) w_1374 rfl rfl ?_
          refine lv_iload hF.1 hF.2.1 dX12_areBoth_126 (lv_at hl 0 rfl) ?_
          refine lv_imul hF.1 hF.2.1 dX12_areBoth_128 ?_
          refine lv_iadd hF.1 hF.2.1 dX12_areBoth_129 ?_
          refine lv_icmp_lt (tgt := 137) hF.1 hF.2.1 dX12_areBoth_130 (by decide) (fun c130_56 => ?_) (fun c130_56 => ?_)
          · refine lv_iconst (v := 0) hF.1 hF.2.1 dX12_areBoth_137 (by decide) ?_
            exact q_iret hF hr (by decide) hlocks hU hS dX12_areBoth_138 ⟨rfl, (g_X12_areBoth_f_v121 u x y k r_55 hI hk hx hy hys c12_1 c27_17 c32_33 c43_49 hb_50 hs_51 hb_52 hw_54 c130_56)⟩
          · refine lv_iconst (v := 1) hF.1 hF.2.1 dX12_areBoth_133 (by decide) ?_
            refine lv_goto (tgt := 138) hF.1 hF.2.1 dX12_areBoth_134 (by decide) ?_
            exact q_iret hF hr (by decide) hlocks hU hS dX12_areBoth_138 ⟨rfl, (g_X12_areBoth_f_v122 u x y k r_55 hI hk hx hy hys c12_1 c27_17 c32_33 c43_49 hb_50 hs_51 hb_52 hw_54 c130_56)⟩
        · refine lv_iload_n hF.1 hF.2.1 dX12_areBoth_46 rfl (lv_at hl 3 rfl) ?_
          refine lv_goto (tgt := 51) hF.1 hF.2.1 dX12_areBoth_47 (by decide) ?_
          refine lv_istore (lv' := [(4, .int y), (3, .int x), (0, .ref (E.2.2 1299)), (1, .int x), (2, .int y)]) hF.1 hF.2.1 dX12_areBoth_51 hl (by decide) rfl (fun ls hl => ?_)
          refine lv_aload_n hF.1 hF.2.1 dX12_areBoth_53 rfl (lv_at hl 2 rfl) ?_
          refine q_get (v := .ref (E.2.2 1233)) hF hU dX12_areBoth_54 0 12 33 1233 1299 rfl rfl rfl rfl inX12 (by decide) (by decide) w_1365 rfl rfl ?_
          refine lv_aload_n hF.1 hF.2.1 dX12_areBoth_57 rfl (lv_at hl 2 rfl) ?_
          refine q_get (v := .ref (E.2.2 1248)) hF hU dX12_areBoth_58 0 12 48 1248 1299 rfl rfl rfl rfl inX12 (by decide) (by decide) w_1380 rfl rfl ?_
          refine lv_iload_n hF.1 hF.2.1 dX12_areBoth_61 rfl (lv_at hl 3 rfl) ?_
          refine q_iald (v := u.2.1 1248 (x : Int32).toNatClampNeg) hF hU dX12_areBoth_62 27 1248 rfl rfl (g_X12_areBoth_f_v123 u x y k hI hk hx hy hys c12_1 c27_17 c32_33 c43_49) rfl ?_
          have hb_57 : 0 ≤ (u.2.1 1248 (x : Int32).toNatClampNeg) ∧ (u.2.1 1248 (x : Int32).toNatClampNeg) < u.1 1232 := hI.2.1.r1248 x (g_X12_areBoth_f_v124 u x y k hI hk hx hy hys c12_1 c27_17 c32_33 c43_49)
          have hs_58 : 0 ≤ u.1 1232 ∧ u.1 1232 ≤ 20 := hI.1.s1232
          refine q_iald (v := u.2.1 1233 (u.2.1 1248 (x : Int32).toNatClampNeg : Int32).toNatClampNeg) hF hU dX12_areBoth_63 19 1233 rfl rfl (g_X12_areBoth_f_v125 u x y k hI hk hx hy hys c12_1 c27_17 c32_33 c43_49 hb_57 hs_58) rfl ?_
          refine lv_aload_n hF.1 hF.2.1 dX12_areBoth_64 rfl (lv_at hl 2 rfl) ?_
          refine q_get (v := .ref (E.2.2 1234)) hF hU dX12_areBoth_65 0 12 34 1234 1299 rfl rfl rfl rfl inX12 (by decide) (by decide) w_1366 rfl rfl ?_
          refine lv_aload_n hF.1 hF.2.1 dX12_areBoth_68 rfl (lv_at hl 2 rfl) ?_
          refine q_get (v := .ref (E.2.2 1248)) hF hU dX12_areBoth_69 0 12 48 1248 1299 rfl rfl rfl rfl inX12 (by decide) (by decide) w_1380 rfl rfl ?_
          refine lv_iload_n hF.1 hF.2.1 dX12_areBoth_72 rfl (lv_at hl 3 rfl) ?_
          refine q_iald (v := u.2.1 1248 (x : Int32).toNatClampNeg) hF hU dX12_areBoth_73 27 1248 rfl rfl (g_X12_areBoth_f_v126 u x y k hI hk hx hy hys c12_1 c27_17 c32_33 c43_49 hb_57 hs_58) rfl ?_
          refine q_iald (v := u.2.1 1234 (u.2.1 1248 (x : Int32).toNatClampNeg : Int32).toNatClampNeg) hF hU dX12_areBoth_74 20 1234 rfl rfl (g_X12_areBoth_f_v128 u x y k hI hk hx hy hys c12_1 c27_17 c32_33 c43_49 hb_57 hs_58) rfl ?_
          refine lv_aload_n hF.1 hF.2.1 dX12_areBoth_75 rfl (lv_at hl 2 rfl) ?_
          refine q_get (v := .ref (E.2.2 1233)) hF hU dX12_areBoth_76 0 12 33 1233 1299 rfl rfl rfl rfl inX12 (by decide) (by decide) w_1365 rfl rfl ?_
          refine lv_aload_n hF.1 hF.2.1 dX12_areBoth_79 rfl (lv_at hl 2 rfl) ?_
          refine q_get (v := .ref (E.2.2 1248)) hF hU dX12_areBoth_80 0 12 48 1248 1299 rfl rfl rfl rfl inX12 (by decide) (by decide) w_1380 rfl rfl ?_
          refine lv_iload_n hF.1 hF.2.1 dX12_areBoth_83 rfl (lv_at hl 4 rfl) ?_
          refine q_iald (v := u.2.1 1248 (y : Int32).toNatClampNeg) hF hU dX12_areBoth_84 27 1248 rfl rfl (g_X12_areBoth_f_v129 u x y k hI hk hx hy hys c12_1 c27_17 c32_33 c43_49 hb_57 hs_58) rfl ?_
          have hb_59 : 0 ≤ (u.2.1 1248 (y : Int32).toNatClampNeg) ∧ (u.2.1 1248 (y : Int32).toNatClampNeg) < u.1 1232 := hI.2.1.r1248 y (g_X12_areBoth_f_v130 u x y k hI hk hx hy hys c12_1 c27_17 c32_33 c43_49 hb_57 hs_58)
          refine q_iald (v := u.2.1 1233 (u.2.1 1248 (y : Int32).toNatClampNeg : Int32).toNatClampNeg) hF hU dX12_areBoth_85 19 1233 rfl rfl (g_X12_areBoth_f_v131 u x y k hI hk hx hy hys c12_1 c27_17 c32_33 c43_49 hb_57 hs_58 hb_59) rfl ?_
          refine lv_aload_n hF.1 hF.2.1 dX12_areBoth_86 rfl (lv_at hl 2 rfl) ?_
          refine q_get (v := .ref (E.2.2 1234)) hF hU dX12_areBoth_87 0 12 34 1234 1299 rfl rfl rfl rfl inX12 (by decide) (by decide) w_1366 rfl rfl ?_
          refine lv_aload_n hF.1 hF.2.1 dX12_areBoth_90 rfl (lv_at hl 2 rfl) ?_
          refine q_get (v := .ref (E.2.2 1248)) hF hU dX12_areBoth_91 0 12 48 1248 1299 rfl rfl rfl rfl inX12 (by decide) (by decide) w_1380 rfl rfl ?_
          refine lv_iload_n hF.1 hF.2.1 dX12_areBoth_94 rfl (lv_at hl 4 rfl) ?_
          refine q_iald (v := u.2.1 1248 (y : Int32).toNatClampNeg) hF hU dX12_areBoth_95 27 1248 rfl rfl (g_X12_areBoth_f_v132 u x y k hI hk hx hy hys c12_1 c27_17 c32_33 c43_49 hb_57 hs_58 hb_59) rfl ?_
          refine q_iald (v := u.2.1 1234 (u.2.1 1248 (y : Int32).toNatClampNeg : Int32).toNatClampNeg) hF hU dX12_areBoth_96 20 1234 rfl rfl (g_X12_areBoth_f_v134 u x y k hI hk hx hy hys c12_1 c27_17 c32_33 c43_49 hb_57 hs_58 hb_59) rfl ?_
          have hM9 := g_X12_wayBetween_f l E A u (u.2.1 1233 (u.2.1 1248 (x : Int32).toNatClampNeg : Int32).toNatClampNeg) (u.2.1 1234 (u.2.1 1248 (x : Int32).toNatClampNeg : Int32).toNatClampNeg) (u.2.1 1233 (u.2.1 1248 (y : Int32).toNatClampNeg : Int32).toNatClampNeg) (u.2.1 1234 (u.2.1 1248 (y : Int32).toNatClampNeg : Int32).toNatClampNeg)
          have hR9 := q_runS (l := l) (e := e0) (below := bl0) (meth := me0) (R := qR 1 0 0) (cells := 0) (slots := 0) (st0 := [.int (u.2.1 1234 (u.2.1 1248 (y : Int32).toNatClampNeg : Int32).toNatClampNeg), .int (u.2.1 1233 (u.2.1 1248 (y : Int32).toNatClampNeg : Int32).toNatClampNeg), .int (u.2.1 1234 (u.2.1 1248 (x : Int32).toNatClampNeg : Int32).toNatClampNeg), .int (u.2.1 1233 (u.2.1 1248 (x : Int32).toNatClampNeg : Int32).toNatClampNeg)]) (rest := []) hF hU hS hA 4 hM9 w_1791 w_1792 w_107 w_1793 (by decide +kernel) ⟨Nat.le_of_ble_eq_true rfl, Nat.le_of_ble_eq_true rfl⟩ dX12_areBoth_97 rfl hl.1 rfl (Nat.le_of_ble_eq_true rfl) ⟨Nat.le_of_ble_eq_true rfl, Nat.le_of_ble_eq_true rfl⟩
          refine q_calli hR9 hU.2.2.2 hS (fun r_62 u_60 H locs hw_61 hU hS => ?_)
          obtain ⟨hw_61_e, hw_61⟩ := hw_61
          rw [hw_61_e] at hU
          have hw_61 : r_62 = f_wb (u.2.1 1233 (u.2.1 1248 (x : Int32).toNatClampNeg : Int32).toNatClampNeg) (u.2.1 1234 (u.2.1 1248 (x : Int32).toNatClampNeg : Int32).toNatClampNeg) (u.2.1 1233 (u.2.1 1248 (y : Int32).toNatClampNeg : Int32).toNatClampNeg) (u.2.1 1234 (u.2.1 1248 (y : Int32).toNatClampNeg : Int32).toNatClampNeg) := hw_61
          refine lv_istore (lv' := [(5, .int r_62), (4, .int y), (3, .int x), (0, .ref (E.2.2 1299)), (1, .int x), (2, .int y)]) hF.1 hF.2.1 dX12_areBoth_100 hl (by decide) rfl (fun ls hl => ?_)
          refine lv_aload_n hF.1 hF.2.1 dX12_areBoth_102 rfl (lv_at hl 3 rfl) ?_
          refine q_get (v := .ref (E.2.2 1251)) hF hU dX12_areBoth_103 0 12 51 1251 1299 rfl rfl rfl rfl inX12 (by decide) (by decide) w_1383 rfl rfl ?_
          refine lv_iload hF.1 hF.2.1 dX12_areBoth_106 (lv_at hl 1 rfl) ?_
          refine q_iald (v := u.2.1 1251 (y : Int32).toNatClampNeg) hF hU dX12_areBoth_108 30 1251 rfl rfl (g_X12_areBoth_f_v135 u x y k r_62 hI hk hx hy hys c12_1 c27_17 c32_33 c43_49 hb_57 hs_58 hb_59 hw_61) rfl ?_
          refine lv_aload_n hF.1 hF.2.1 dX12_areBoth_109 rfl (lv_at hl 3 rfl) ?_
          refine q_get (v := .ref (E.2.2 1251)) hF hU dX12_areBoth_110 0 12 51 1251 1299 rfl rfl rfl rfl inX12 (by decide) (by decide) w_1383 rfl rfl ?_
          refine lv_iload_n hF.1 hF.2.1 dX12_areBoth_113 rfl (lv_at hl 2 rfl) ?_
          refine q_iald (v := u.2.1 1251 (x : Int32).toNatClampNeg) hF hU dX12_areBoth_114 30 1251 rfl rfl (g_X12_areBoth_f_v136 u x y k r_62 hI hk hx hy hys c12_1 c27_17 c32_33 c43_49 hb_57 hs_58 hb_59 hw_61) rfl ?_
          refine lv_aload_n hF.1 hF.2.1 dX12_areBoth_115 rfl (lv_at hl 3 rfl) ?_
          refine q_get (v := .ref (E.2.2 1252)) hF hU dX12_areBoth_116 0 12 52 1252 1299 rfl rfl rfl rfl inX12 (by decide) (by decide) w_1384 rfl rfl ?_
          refine lv_iload_n hF.1 hF.2.1 dX12_areBoth_119 rfl (lv_at hl 2 rfl) ?_
          refine q_iald (v := u.2.1 1252 (x : Int32).toNatClampNeg) hF hU dX12_areBoth_120 31 1252 rfl rfl (g_X12_areBoth_f_v137 u x y k r_62 hI hk hx hy hys c12_1 c27_17 c32_33 c43_49 hb_57 hs_58 hb_59 hw_61) rfl ?_
          refine lv_iadd hF.1 hF.2.1 dX12_areBoth_121 ?_
          refine lv_aload_n hF.1 hF.2.1 dX12_areBoth_122 rfl (lv_at hl 3 rfl) ?_
          refine q_get (v := .int (u.1 1242)) hF hU dX12_areBoth_123 0 12 42 1242 1299 rfl rfl rfl rfl inX12 (by decide) (by decide) w_1374 rfl rfl ?_
          refine lv_iload hF.1 hF.2.1 dX12_areBoth_126 (lv_at hl 0 rfl) ?_
          refine lv_imul hF.1 hF.2.1 dX12_areBoth_128 ?_
          refine lv_iadd hF.1 hF.2.1 dX12_areBoth_129 ?_
          refine lv_icmp_lt (tgt := 137) hF.1 hF.2.1 dX12_areBoth_130 (by decide) (fun c130_63 => ?_) (fun c130_63 => ?_)
          · refine lv_iconst (v := 0) hF.1 hF.2.1 dX12_areBoth_137 (by decide) ?_
            exact q_iret hF hr (by decide) hlocks hU hS dX12_areBoth_138 ⟨rfl, (g_X12_areBoth_f_v138 u x y k r_62 hI hk hx hy hys c12_1 c27_17 c32_33 c43_49 hb_57 hs_58 hb_59 hw_61 c130_63)⟩
          · refine lv_iconst (v := 1) hF.1 hF.2.1 dX12_areBoth_133 (by decide) ?_
            refine lv_goto (tgt := 138) hF.1 hF.2.1 dX12_areBoth_134 (by decide) ?_
            exact q_iret hF hr (by decide) hlocks hU hS dX12_areBoth_138 ⟨rfl, (g_X12_areBoth_f_v139 u x y k r_62 hI hk hx hy hys c12_1 c27_17 c32_33 c43_49 hb_57 hs_58 hb_59 hw_61 c130_63)⟩
