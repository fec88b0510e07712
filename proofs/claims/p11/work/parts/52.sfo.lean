set_option maxRecDepth 100000 in
theorem g_X0_turnIfSeen_s_v0 (u : qS) (x : Int32) (S : Nat → Int32) (hQ : qFD 9 S u) (hx : 0 ≤ x.toInt ∧ x.toInt < 60) (hv : 0 ≤ u.2.1 5 x.toNatClampNeg ∧ u.2.1 5 x.toNatClampNeg < u.1 10) (hz8 : 0 ≤ u.1 8 ∧ u.1 8 ≤ 20) (hz9 : 0 ≤ u.1 9 ∧ u.1 9 ≤ 8) (hz10 : 0 ≤ u.1 10 ∧ u.1 10 ≤ 120) (hz12 : 0 ≤ u.1 12 ∧ u.1 12 ≤ 16) : vp_in (x) 60 := by
  refine g_in ?_ ?_ <;> ((try simp only [g_m1, Int32.lt_iff_toInt_lt, Int32.le_iff_toInt_le, ← Int32.toInt_inj, Int32.toInt_add, Int32.toInt_sub, Int32.toInt_mul, Int32.toInt_neg, Int32.reduceToInt, g_bm, g_bm'] at *); omega)
set_option maxRecDepth 100000 in
theorem g_X0_turnIfSeen_s_v1 (u : qS) (x : Int32) (S : Nat → Int32) (r_3 : Int32) (hQ : qFD 9 S u) (hx : 0 ≤ x.toInt ∧ x.toInt < 60) (hv : 0 ≤ u.2.1 5 x.toNatClampNeg ∧ u.2.1 5 x.toNatClampNeg < u.1 10) (hz8 : 0 ≤ u.1 8 ∧ u.1 8 ≤ 20) (hz9 : 0 ≤ u.1 9 ∧ u.1 9 ≤ 8) (hz10 : 0 ≤ u.1 10 ∧ u.1 10 ≤ 120) (hz12 : 0 ≤ u.1 12 ∧ u.1 12 ≤ 16) (hw_2 : r_3 = c_sd u) (c10_4 : r_3 < (u.2.1 7 (x : Int32).toNatClampNeg : Int32)) : S = c_tw (u.2.1 5) (u.2.1 6) (u.2.1 7) (c_se (u.1 14) (u.1 13)) S x.toNatClampNeg := by
  have q := (by assumption : _ = c_sd u)
  have e : c_sd u = c_se (u.1 14) (u.1 13) := rfl
  unfold c_tw; rw [← e, ← q]; first | (rw [if_pos (Int32.not_lt.mp (by assumption))]; assumption) | rw [if_neg (Int32.not_le.mpr (by assumption))]
set_option maxRecDepth 100000 in
theorem g_X0_turnIfSeen_s_v2 (u : qS) (x : Int32) (S : Nat → Int32) (r_3 : Int32) (hQ : qFD 9 S u) (hx : 0 ≤ x.toInt ∧ x.toInt < 60) (hv : 0 ≤ u.2.1 5 x.toNatClampNeg ∧ u.2.1 5 x.toNatClampNeg < u.1 10) (hz8 : 0 ≤ u.1 8 ∧ u.1 8 ≤ 20) (hz9 : 0 ≤ u.1 9 ∧ u.1 9 ≤ 8) (hz10 : 0 ≤ u.1 10 ∧ u.1 10 ≤ 120) (hz12 : 0 ≤ u.1 12 ∧ u.1 12 ≤ 16) (hw_2 : r_3 = c_sd u) (c10_4 : ¬ r_3 < (u.2.1 7 (x : Int32).toNatClampNeg : Int32)) : vp_in (x) 60 := by
  refine g_in ?_ ?_ <;> ((try simp only [g_m1, Int32.lt_iff_toInt_lt, Int32.le_iff_toInt_le, ← Int32.toInt_inj, Int32.toInt_add, Int32.toInt_sub, Int32.toInt_mul, Int32.toInt_neg, Int32.reduceToInt, g_bm, g_bm'] at *); omega)
set_option maxRecDepth 100000 in
theorem g_X0_turnIfSeen_s_v3 (u : qS) (x : Int32) (S : Nat → Int32) (r_3 : Int32) (hQ : qFD 9 S u) (hx : 0 ≤ x.toInt ∧ x.toInt < 60) (hv : 0 ≤ u.2.1 5 x.toNatClampNeg ∧ u.2.1 5 x.toNatClampNeg < u.1 10) (hz8 : 0 ≤ u.1 8 ∧ u.1 8 ≤ 20) (hz9 : 0 ≤ u.1 9 ∧ u.1 9 ≤ 8) (hz10 : 0 ≤ u.1 10 ∧ u.1 10 ≤ 120) (hz12 : 0 ≤ u.1 12 ∧ u.1 12 ≤ 16) (hw_2 : r_3 = c_sd u) (c10_4 : ¬ r_3 < (u.2.1 7 (x : Int32).toNatClampNeg : Int32)) : 0 ≤ (u.2.1 5 (x : Int32).toNatClampNeg) ∧ (u.2.1 5 (x : Int32).toNatClampNeg) < (u.1 10) := by
  first | omega | ((try simp only [g_m1, Int32.lt_iff_toInt_lt, Int32.le_iff_toInt_le, ← Int32.toInt_inj, Int32.reduceToInt] at *); omega) | ((try simp only [g_m1, Int32.lt_iff_toInt_lt, Int32.le_iff_toInt_le, ← Int32.toInt_inj, Int32.reduceToInt] at *); omega) | ((try simp only [g_m1, Int32.lt_iff_toInt_lt, Int32.le_iff_toInt_le, ← Int32.toInt_inj, Int32.toInt_add, Int32.toInt_sub, Int32.toInt_mul, Int32.toInt_neg, Int32.reduceToInt, g_bm, g_bm'] at *); omega) | (have qr1 := g_rng x; have qr3 := g_rng r_3; (try simp only [g_m1, Int32.lt_iff_toInt_lt, Int32.le_iff_toInt_le, ← Int32.toInt_inj, Int32.toInt_add, Int32.toInt_sub, Int32.toInt_mul, Int32.toInt_neg, Int32.reduceToInt, g_bm, g_bm'] at *); omega) | (simp only [g_m1, Int32.lt_iff_toInt_lt, Int32.le_iff_toInt_le, ← Int32.toInt_inj, Int32.toInt_add, Int32.toInt_sub, Int32.toInt_mul, Int32.toInt_neg, Int32.reduceToInt, g_bm, g_bm'] at *; simp at *; omega) | (simp_all; done)
set_option maxRecDepth 100000 in
theorem g_X0_turnIfSeen_s_v4 (u : qS) (x : Int32) (S : Nat → Int32) (r_3 : Int32) (hQ : qFD 9 S u) (hx : 0 ≤ x.toInt ∧ x.toInt < 60) (hv : 0 ≤ u.2.1 5 x.toNatClampNeg ∧ u.2.1 5 x.toNatClampNeg < u.1 10) (hz8 : 0 ≤ u.1 8 ∧ u.1 8 ≤ 20) (hz9 : 0 ≤ u.1 9 ∧ u.1 9 ≤ 8) (hz10 : 0 ≤ u.1 10 ∧ u.1 10 ≤ 120) (hz12 : 0 ≤ u.1 12 ∧ u.1 12 ≤ 16) (hw_2 : r_3 = c_sd u) (c10_4 : ¬ r_3 < (u.2.1 7 (x : Int32).toNatClampNeg : Int32)) : vp_in (u.2.1 5 (x : Int32).toNatClampNeg) 120 := by
  refine g_in ?_ ?_ <;> ((try simp only [g_m1, Int32.lt_iff_toInt_lt, Int32.le_iff_toInt_le, ← Int32.toInt_inj, Int32.toInt_add, Int32.toInt_sub, Int32.toInt_mul, Int32.toInt_neg, Int32.reduceToInt, g_bm, g_bm'] at *); omega)
set_option maxRecDepth 100000 in
theorem g_X0_turnIfSeen_s_v5 (u : qS) (x : Int32) (S : Nat → Int32) (r_3 : Int32) (hQ : qFD 9 S u) (hx : 0 ≤ x.toInt ∧ x.toInt < 60) (hv : 0 ≤ u.2.1 5 x.toNatClampNeg ∧ u.2.1 5 x.toNatClampNeg < u.1 10) (hz8 : 0 ≤ u.1 8 ∧ u.1 8 ≤ 20) (hz9 : 0 ≤ u.1 9 ∧ u.1 9 ≤ 8) (hz10 : 0 ≤ u.1 10 ∧ u.1 10 ≤ 120) (hz12 : 0 ≤ u.1 12 ∧ u.1 12 ≤ 16) (hw_2 : r_3 = c_sd u) (c10_4 : ¬ r_3 < (u.2.1 7 (x : Int32).toNatClampNeg : Int32)) : 0 ≤ (u.2.1 5 (x : Int32).toNatClampNeg) ∧ (u.2.1 5 (x : Int32).toNatClampNeg) < (u.1 10) := by
  first | omega | ((try simp only [g_m1, Int32.lt_iff_toInt_lt, Int32.le_iff_toInt_le, ← Int32.toInt_inj, Int32.reduceToInt] at *); omega) | ((try simp only [g_m1, Int32.lt_iff_toInt_lt, Int32.le_iff_toInt_le, ← Int32.toInt_inj, Int32.reduceToInt] at *); omega) | ((try simp only [g_m1, Int32.lt_iff_toInt_lt, Int32.le_iff_toInt_le, ← Int32.toInt_inj, Int32.toInt_add, Int32.toInt_sub, Int32.toInt_mul, Int32.toInt_neg, Int32.reduceToInt, g_bm, g_bm'] at *); omega) | (have qr1 := g_rng x; have qr3 := g_rng r_3; (try simp only [g_m1, Int32.lt_iff_toInt_lt, Int32.le_iff_toInt_le, ← Int32.toInt_inj, Int32.toInt_add, Int32.toInt_sub, Int32.toInt_mul, Int32.toInt_neg, Int32.reduceToInt, g_bm, g_bm'] at *); omega) | (simp only [g_m1, Int32.lt_iff_toInt_lt, Int32.le_iff_toInt_le, ← Int32.toInt_inj, Int32.toInt_add, Int32.toInt_sub, Int32.toInt_mul, Int32.toInt_neg, Int32.reduceToInt, g_bm, g_bm'] at *; simp at *; omega) | (simp_all; done)
set_option maxRecDepth 100000 in
theorem g_X0_turnIfSeen_s_v6 (u : qS) (x : Int32) (S : Nat → Int32) (r_3 : Int32) (hQ : qFD 9 S u) (hx : 0 ≤ x.toInt ∧ x.toInt < 60) (hv : 0 ≤ u.2.1 5 x.toNatClampNeg ∧ u.2.1 5 x.toNatClampNeg < u.1 10) (hz8 : 0 ≤ u.1 8 ∧ u.1 8 ≤ 20) (hz9 : 0 ≤ u.1 9 ∧ u.1 9 ≤ 8) (hz10 : 0 ≤ u.1 10 ∧ u.1 10 ≤ 120) (hz12 : 0 ≤ u.1 12 ∧ u.1 12 ≤ 16) (hw_2 : r_3 = c_sd u) (c10_4 : ¬ r_3 < (u.2.1 7 (x : Int32).toNatClampNeg : Int32)) : vp_in (x) 60 := by
  refine g_in ?_ ?_ <;> ((try simp only [g_m1, Int32.lt_iff_toInt_lt, Int32.le_iff_toInt_le, ← Int32.toInt_inj, Int32.toInt_add, Int32.toInt_sub, Int32.toInt_mul, Int32.toInt_neg, Int32.reduceToInt, g_bm, g_bm'] at *); omega)
set_option maxRecDepth 100000 in
theorem g_X0_turnIfSeen_s_v7 (u : qS) (x : Int32) (S : Nat → Int32) (r_3 : Int32) (S_20 : Nat → Int32) (hQ : qFD 9 S u) (hx : 0 ≤ x.toInt ∧ x.toInt < 60) (hv : 0 ≤ u.2.1 5 x.toNatClampNeg ∧ u.2.1 5 x.toNatClampNeg < u.1 10) (hz8 : 0 ≤ u.1 8 ∧ u.1 8 ≤ 20) (hz9 : 0 ≤ u.1 9 ∧ u.1 9 ≤ 8) (hz10 : 0 ≤ u.1 10 ∧ u.1 10 ≤ 120) (hz12 : 0 ≤ u.1 12 ∧ u.1 12 ≤ 16) (hw_2 : r_3 = c_sd u) (c10_4 : ¬ r_3 < (u.2.1 7 (x : Int32).toNatClampNeg : Int32)) (hS_20 : S_20 = upd S (u.2.1 5 (x : Int32).toNatClampNeg : Int32).toNatClampNeg ((S (u.2.1 5 (x : Int32).toNatClampNeg : Int32).toNatClampNeg) ^^^ (1 <<< (u.2.1 6 (x : Int32).toNatClampNeg &&& 31)) : Int32)) : S_20 = c_tw (u.2.1 5) (u.2.1 6) (u.2.1 7) (c_se (u.1 14) (u.1 13)) S x.toNatClampNeg := by
  have q := (by assumption : _ = c_sd u)
  have e : c_sd u = c_se (u.1 14) (u.1 13) := rfl
  unfold c_tw; rw [← e, ← q]; first | (rw [if_pos (Int32.not_lt.mp (by assumption))]; assumption) | rw [if_neg (Int32.not_le.mpr (by assumption))]
set_option maxHeartbeats 1000000 in
set_option maxRecDepth 100000 in
theorem g_X0_turnIfSeen_s (l : Launch) (E : qE) (A : Nat → Prop) (u : qS) (x : Int32) (S : Nat → Int32) (hI : IC E u) (hQ : qFD 9 S u) (hx : 0 ≤ x.toInt ∧ x.toInt < 60) (hv : 0 ≤ u.2.1 5 x.toNatClampNeg ∧ u.2.1 5 x.toNatClampNeg < u.1 10) : Met l yX0_turnIfSeen (uws yX0_turnIfSeen cX0_turnIfSeen 2 none) (qR 1 0 0) (qPc E A 0 u [.ref (E.2.2 99), .int x]) (qQv E A 0 (fun u1 => (qFc [] [] [] [5009] u u1 ∧ IC E u1) ∧ (∃ S1 : Nat → Int32, qFD 9 S1 u1 ∧ (S1 = c_tw (u.2.1 5) (u.2.1 6) (u.2.1 7) (c_se (u.1 14) (u.1 13)) S x.toNatClampNeg)))) 0 0 A := by
  refine q_met (own := RX0) (f := 1) [.ref (E.2.2 99), .int x] (by decide) (Nat.le_of_ble_eq_true rfl) rfl ?_
  intro p0 e0 s0 m0 bl0 me0 cd0 ls hF hr hlocks hU hS hA hl
  have hl : lv_has ls 2 [(0, .ref (E.2.2 99)), (1, .int x)] := hl
  have hz8 : 0 ≤ u.1 8 ∧ u.1 8 ≤ 20 := hI.1.s8
  have hz9 : 0 ≤ u.1 9 ∧ u.1 9 ≤ 8 := hI.1.s9
  have hz10 : 0 ≤ u.1 10 ∧ u.1 10 ≤ 120 := hI.1.s10
  have hz12 : 0 ≤ u.1 12 ∧ u.1 12 ≤ 16 := hI.1.s12
  have hfr : qFc [] [] [] [5009] u u := qFc.rf
  have hST := hQ
  refine lv_aload_n hF.1 hF.2.1 dX0_turnIfSeen_0 rfl (lv_at hl 0 rfl) ?_
  refine q_get (v := .ref (E.2.2 7)) hF hU dX0_turnIfSeen_1 1 0 7 7 99 rfl rfl rfl rfl inX0 (by decide) (by decide) w_160 rfl rfl ?_
  refine lv_iload_n hF.1 hF.2.1 dX0_turnIfSeen_4 rfl (lv_at hl 1 rfl) ?_
  refine q_iald (v := u.2.1 7 (x : Int32).toNatClampNeg) hF hU dX0_turnIfSeen_5 7 7 rfl rfl (g_X0_turnIfSeen_s_v0 u x S hQ hx hv hz8 hz9 hz10 hz12) rfl ?_
  refine lv_aload_n hF.1 hF.2.1 dX0_turnIfSeen_6 rfl (lv_at hl 0 rfl) ?_
  have hM9 := g_X0_seenDay l E A u 
  have hR9 := q_runV (l := l) (e := e0) (below := bl0) (meth := me0) (R := qR 1 0 0) (cells := 0) (slots := 0) (st0 := [.ref (E.2.2 99), .int (u.2.1 7 (x : Int32).toNatClampNeg)]) (rest := [.int (u.2.1 7 (x : Int32).toNatClampNeg)]) hF hU hS hA 0 1 0 99 rfl rfl rfl hM9 w_483 w_484 w_485 w_100 w_486 (by decide +kernel) ⟨Nat.le_of_ble_eq_true rfl, Nat.le_of_ble_eq_true rfl⟩ dX0_turnIfSeen_7 rfl hl.1 rfl (Nat.le_of_ble_eq_true rfl) ⟨Nat.le_of_ble_eq_true rfl, Nat.le_of_ble_eq_true rfl⟩
  refine q_calli hR9 hU.2.2.2 hS (fun r_3 u_1 H locs hw_2 hU hS => ?_)
  obtain ⟨hw_2_e, hw_2⟩ := hw_2
  rw [hw_2_e] at hU
  have hw_2 : r_3 = c_sd u := hw_2
  refine lv_icmp_gt (tgt := 40) hF.1 hF.2.1 dX0_turnIfSeen_10 (by decide) (fun c10_4 => ?_) (fun c10_4 => ?_)
  · exact q_vret hF hr hlocks hU hS dX0_turnIfSeen_40 ⟨⟨hfr, hI⟩, ⟨S, hST, (g_X0_turnIfSeen_s_v1 u x S r_3 hQ hx hv hz8 hz9 hz10 hz12 hw_2 c10_4)⟩⟩
  · refine lv_aload_n hF.1 hF.2.1 dX0_turnIfSeen_13 rfl (lv_at hl 0 rfl) ?_
    refine q_get (v := .ref (E.2.2 2)) hF hU dX0_turnIfSeen_14 1 0 2 2 99 rfl rfl rfl rfl inX0 (by decide) (by decide) w_148 rfl rfl ?_
    refine lv_aload_n hF.1 hF.2.1 dX0_turnIfSeen_17 rfl (lv_at hl 0 rfl) ?_
    refine q_get (v := .ref (E.2.2 5)) hF hU dX0_turnIfSeen_18 1 0 5 5 99 rfl rfl rfl rfl inX0 (by decide) (by decide) w_158 rfl rfl ?_
    refine lv_iload_n hF.1 hF.2.1 dX0_turnIfSeen_21 rfl (lv_at hl 1 rfl) ?_
    refine q_iald (v := u.2.1 5 (x : Int32).toNatClampNeg) hF hU dX0_turnIfSeen_22 5 5 rfl rfl (g_X0_turnIfSeen_s_v2 u x S r_3 hQ hx hv hz8 hz9 hz10 hz12 hw_2 c10_4) rfl ?_
    obtain ⟨a_5, ha_5_6_e, ha_5_6⟩ := hI.r2 (u.2.1 5 (x : Int32).toNatClampNeg) (g_X0_turnIfSeen_s_v3 u x S r_3 hQ hx hv hz8 hz9 hz10 hz12 hw_2 c10_4)
    refine q_aald (v := .ref a_5) hF hU dX0_turnIfSeen_23 2 2 6 rfl rfl (by decide) rfl (g_X0_turnIfSeen_s_v4 u x S r_3 hQ hx hv hz8 hz9 hz10 hz12 hw_2 c10_4) (by rw [ha_5_6_e]; rfl) ?_
    have hK_7 : qNm u a_5 (u.2.1 5 (x : Int32).toNatClampNeg) := hST.nm (g_X0_turnIfSeen_s_v5 u x S r_3 hQ hx hv hz8 hz9 hz10 hz12 hw_2 c10_4) ha_5_6_e
    refine lv_dup hF.1 hF.2.1 dX0_turnIfSeen_24 rfl ?_
    obtain ⟨k_8, fs_9, hd_10, hv_11⟩ := hST.at hK_7
    refine q_getd (v := .int (S (u.2.1 5 (x : Int32).toNatClampNeg : Int32).toNatClampNeg)) hF hU dX0_turnIfSeen_25 k_8 10 9 hd_10 rfl inX10 (by decide) w_619 rfl hv_11 ?_
    refine lv_iconst (v := 1) hF.1 hF.2.1 dX0_turnIfSeen_28 (by decide) ?_
    refine lv_aload_n hF.1 hF.2.1 dX0_turnIfSeen_29 rfl (lv_at hl 0 rfl) ?_
    refine q_get (v := .ref (E.2.2 6)) hF hU dX0_turnIfSeen_30 1 0 6 6 99 rfl rfl rfl rfl inX0 (by decide) (by decide) w_159 rfl rfl ?_
    refine lv_iload_n hF.1 hF.2.1 dX0_turnIfSeen_33 rfl (lv_at hl 1 rfl) ?_
    refine q_iald (v := u.2.1 6 (x : Int32).toNatClampNeg) hF hU dX0_turnIfSeen_34 6 6 rfl rfl (g_X0_turnIfSeen_s_v6 u x S r_3 hQ hx hv hz8 hz9 hz10 hz12 hw_2 c10_4) rfl ?_
    refine lv_ishl hF.1 hF.2.1 dX0_turnIfSeen_35 ?_
    refine lv_ixor hF.1 hF.2.1 dX0_turnIfSeen_36 ?_
    have hDi := q_di hU
    obtain ⟨k_12, fs_13, x_14, hd_15, hv_16, -, -, hv_16_l⟩ := hI.v ((ha_5_6).rf) 9 (by decide)
    have hp_19 := hI.vput (j := 9) (x := (S (u.2.1 5 (x : Int32).toNatClampNeg : Int32).toNatClampNeg) ^^^ (1 <<< (u.2.1 6 (x : Int32).toNatClampNeg &&& 31))) hd_15 (by decide) (fun q => absurd q (by decide)) (fun q => absurd q (by decide))
    refine q_putd hF hU hS dX0_turnIfSeen_37 k_12 10 9 hd_15 rfl inX10 tyX10 tyX10_ok nmX10 (by decide) w_619 rfl (Or.inl rfl) rfl rfl (by rw [hv_16_l]; decide) (fun u_17 H locs hu_18 _ hU hS => ?_)
    rw [← hu_18] at hp_19
    have hI := hp_19.1
    have hp_19_f := hp_19.2 [] [] [] [5009] (by decide)
    have hfo := hfr
    have hfr : qFc [] [] [] [5009] u u_17 := hfr.trans (hp_19_f.mono (by decide) (by decide) (by decide) (by decide))
    obtain ⟨S_20, hS_20⟩ : ∃ zz9 : Nat → Int32, zz9 = upd S (u.2.1 5 (x : Int32).toNatClampNeg : Int32).toNatClampNeg ((S (u.2.1 5 (x : Int32).toNatClampNeg : Int32).toNatClampNeg) ^^^ (1 <<< (u.2.1 6 (x : Int32).toNatClampNeg &&& 31)) : Int32) := ⟨_, rfl⟩
    have hST : qFD 9 S_20 u_17 := by rw [hS_20, hu_18]; exact hST.put hDi hK_7 hd_15 (by decide)
    exact q_vret hF hr hlocks hU hS dX0_turnIfSeen_40 ⟨⟨hfr, hI⟩, ⟨S_20, hST, (g_X0_turnIfSeen_s_v7 u x S r_3 S_20 hQ hx hv hz8 hz9 hz10 hz12 hw_2 c10_4 hS_20)⟩⟩
set_option maxRecDepth 100000 in
theorem g_X0_lookFrom_s_v0 (u : qS) (x : Int32) (S : Nat → Int32) (F : Nat → Int32) (Sc : Nat → Int32) (x2 : Int32) (uc : qS) (hQ : qFD 9 S u) (hQ7 : qFD 7 F u) (hz8 : 0 ≤ u.1 8 ∧ u.1 8 ≤ 20) (hz9 : 0 ≤ u.1 9 ∧ u.1 9 ≤ 8) (hz10 : 0 ≤ u.1 10 ∧ u.1 10 ≤ 120) (hz11 : 0 ≤ u.1 11 ∧ u.1 11 ≤ 60) (h_k : 0 ≤ x2 ∧ x2 ≤ u.1 10) (h_S : qFD 9 Sc uc) (h_4 : uc.1 14 = c_lf x (u.1 13)) (h_8 : uc.1 18 = u.1 18) (h_f : ∀ i : Nat, i < x2.toNatClampNeg → Sc i = F i) (c24_1 : (u.1 10) ≤ (x2 : Int32)) : 0 ≤ (0 : Int32) ∧ (0 : Int32) ≤ u.1 11 := by
  clear h_f h_S; (try simp only [g_m1, Int32.lt_iff_toInt_lt, Int32.le_iff_toInt_le, ← Int32.toInt_inj, Int32.reduceToInt] at *); omega
set_option maxRecDepth 100000 in
theorem g_X0_lookFrom_s_v1 (u : qS) (x : Int32) (S : Nat → Int32) (F : Nat → Int32) (Sc : Nat → Int32) (x2 : Int32) (uc : qS) (hQ : qFD 9 S u) (hQ7 : qFD 7 F u) (hz8 : 0 ≤ u.1 8 ∧ u.1 8 ≤ 20) (hz9 : 0 ≤ u.1 9 ∧ u.1 9 ≤ 8) (hz10 : 0 ≤ u.1 10 ∧ u.1 10 ≤ 120) (hz11 : 0 ≤ u.1 11 ∧ u.1 11 ≤ 60) (h_k : 0 ≤ x2 ∧ x2 ≤ u.1 10) (h_S : qFD 9 Sc uc) (h_4 : uc.1 14 = c_lf x (u.1 13)) (h_8 : uc.1 18 = u.1 18) (h_f : ∀ i : Nat, i < x2.toNatClampNeg → Sc i = F i) (c24_1 : (u.1 10) ≤ (x2 : Int32)) : (uc.1 14 : Int32) = c_lf x (u.1 13) := by
  exact h_4
set_option maxRecDepth 100000 in
theorem g_X0_lookFrom_s_v2 (u : qS) (x : Int32) (S : Nat → Int32) (F : Nat → Int32) (Sc : Nat → Int32) (x2 : Int32) (uc : qS) (hQ : qFD 9 S u) (hQ7 : qFD 7 F u) (hz8 : 0 ≤ u.1 8 ∧ u.1 8 ≤ 20) (hz9 : 0 ≤ u.1 9 ∧ u.1 9 ≤ 8) (hz10 : 0 ≤ u.1 10 ∧ u.1 10 ≤ 120) (hz11 : 0 ≤ u.1 11 ∧ u.1 11 ≤ 60) (h_k : 0 ≤ x2 ∧ x2 ≤ u.1 10) (h_S : qFD 9 Sc uc) (h_4 : uc.1 14 = c_lf x (u.1 13)) (h_8 : uc.1 18 = u.1 18) (h_f : ∀ i : Nat, i < x2.toNatClampNeg → Sc i = F i) (c24_1 : (u.1 10) ≤ (x2 : Int32)) : (uc.1 18 : Int32) = u.1 18 := by
  exact h_8
set_option maxRecDepth 100000 in
theorem g_X0_lookFrom_s_v3 (u : qS) (x : Int32) (S : Nat → Int32) (F : Nat → Int32) (Sc : Nat → Int32) (x2 : Int32) (uc : qS) (hQ : qFD 9 S u) (hQ7 : qFD 7 F u) (hz8 : 0 ≤ u.1 8 ∧ u.1 8 ≤ 20) (hz9 : 0 ≤ u.1 9 ∧ u.1 9 ≤ 8) (hz10 : 0 ≤ u.1 10 ∧ u.1 10 ≤ 120) (hz11 : 0 ≤ u.1 11 ∧ u.1 11 ≤ 60) (h_k : 0 ≤ x2 ∧ x2 ≤ u.1 10) (h_S : qFD 9 Sc uc) (h_4 : uc.1 14 = c_lf x (u.1 13)) (h_8 : uc.1 18 = u.1 18) (h_f : ∀ i : Nat, i < x2.toNatClampNeg → Sc i = F i) (c24_1 : (u.1 10) ≤ (x2 : Int32)) : c_fa (u.2.1 5) (u.2.1 6) (u.2.1 7) (c_se (c_lf x (u.1 13)) (u.1 13)) F Sc (u.1 10).toNatClampNeg (0 : Int32).toNatClampNeg := by
  have e : x2 = u.1 10 := Int32.toInt_inj.mp (by clear h_f h_S; (try simp only [g_m1, Int32.lt_iff_toInt_lt, Int32.le_iff_toInt_le, ← Int32.toInt_inj, Int32.reduceToInt] at *); omega)
  rw [e] at h_f; exact fun i hi => h_f i hi
set_option maxRecDepth 100000 in
theorem g_X0_lookFrom_s_v4 (u : qS) (x : Int32) (S : Nat → Int32) (F : Nat → Int32) (Sc : Nat → Int32) (x2 : Int32) (uc : qS) (hQ : qFD 9 S u) (hQ7 : qFD 7 F u) (hz8 : 0 ≤ u.1 8 ∧ u.1 8 ≤ 20) (hz9 : 0 ≤ u.1 9 ∧ u.1 9 ≤ 8) (hz10 : 0 ≤ u.1 10 ∧ u.1 10 ≤ 120) (hz11 : 0 ≤ u.1 11 ∧ u.1 11 ≤ 60) (h_k : 0 ≤ x2 ∧ x2 ≤ u.1 10) (h_S : qFD 9 Sc uc) (h_4 : uc.1 14 = c_lf x (u.1 13)) (h_8 : uc.1 18 = u.1 18) (h_f : ∀ i : Nat, i < x2.toNatClampNeg → Sc i = F i) (c24_1 : (u.1 10) ≤ (x2 : Int32)) : ((u.1 11).toInt - (0 : Int32).toInt).toNat < ((u.1 10).toInt - x2.toInt).toNat + 100 := by
  clear h_f h_S; (try simp only [g_m1, Int32.lt_iff_toInt_lt, Int32.le_iff_toInt_le, ← Int32.toInt_inj, Int32.toInt_add, Int32.toInt_sub, Int32.toInt_mul, Int32.toInt_neg, Int32.reduceToInt, g_bm, g_bm'] at *); omega
set_option maxRecDepth 100000 in
theorem g_X0_lookFrom_s_v5 (u : qS) (x : Int32) (S : Nat → Int32) (F : Nat → Int32) (Sc : Nat → Int32) (x2 : Int32) (uc : qS) (hQ : qFD 9 S u) (hQ7 : qFD 7 F u) (hz8 : 0 ≤ u.1 8 ∧ u.1 8 ≤ 20) (hz9 : 0 ≤ u.1 9 ∧ u.1 9 ≤ 8) (hz10 : 0 ≤ u.1 10 ∧ u.1 10 ≤ 120) (hz11 : 0 ≤ u.1 11 ∧ u.1 11 ≤ 60) (h_k : 0 ≤ x2 ∧ x2 ≤ u.1 10) (h_S : qFD 9 Sc uc) (h_4 : uc.1 14 = c_lf x (u.1 13)) (h_8 : uc.1 18 = u.1 18) (h_f : ∀ i : Nat, i < x2.toNatClampNeg → Sc i = F i) (c24_1 : ¬ (u.1 10) ≤ (x2 : Int32)) : 0 ≤ x2 ∧ x2 < (u.1 10) := by
  clear h_f h_S; (try simp only [g_m1, Int32.lt_iff_toInt_lt, Int32.le_iff_toInt_le, ← Int32.toInt_inj, Int32.reduceToInt] at *); omega
set_option maxRecDepth 100000 in
theorem g_X0_lookFrom_s_v6 (u : qS) (x : Int32) (S : Nat → Int32) (F : Nat → Int32) (Sc : Nat → Int32) (x2 : Int32) (uc : qS) (hQ : qFD 9 S u) (hQ7 : qFD 7 F u) (hz8 : 0 ≤ u.1 8 ∧ u.1 8 ≤ 20) (hz9 : 0 ≤ u.1 9 ∧ u.1 9 ≤ 8) (hz10 : 0 ≤ u.1 10 ∧ u.1 10 ≤ 120) (hz11 : 0 ≤ u.1 11 ∧ u.1 11 ≤ 60) (h_k : 0 ≤ x2 ∧ x2 ≤ u.1 10) (h_S : qFD 9 Sc uc) (h_4 : uc.1 14 = c_lf x (u.1 13)) (h_8 : uc.1 18 = u.1 18) (h_f : ∀ i : Nat, i < x2.toNatClampNeg → Sc i = F i) (c24_1 : ¬ (u.1 10) ≤ (x2 : Int32)) : vp_in (x2) 120 := by
  clear h_f h_S; refine g_in ?_ ?_ <;> ((try simp only [g_m1, Int32.lt_iff_toInt_lt, Int32.le_iff_toInt_le, ← Int32.toInt_inj, Int32.reduceToInt] at *); omega)
set_option maxRecDepth 100000 in
theorem g_X0_lookFrom_s_v7 (u : qS) (x : Int32) (S : Nat → Int32) (F : Nat → Int32) (Sc : Nat → Int32) (x2 : Int32) (uc : qS) (hQ : qFD 9 S u) (hQ7 : qFD 7 F u) (hz8 : 0 ≤ u.1 8 ∧ u.1 8 ≤ 20) (hz9 : 0 ≤ u.1 9 ∧ u.1 9 ≤ 8) (hz10 : 0 ≤ u.1 10 ∧ u.1 10 ≤ 120) (hz11 : 0 ≤ u.1 11 ∧ u.1 11 ≤ 60) (h_k : 0 ≤ x2 ∧ x2 ≤ u.1 10) (h_S : qFD 9 Sc uc) (h_4 : uc.1 14 = c_lf x (u.1 13)) (h_8 : uc.1 18 = u.1 18) (h_f : ∀ i : Nat, i < x2.toNatClampNeg → Sc i = F i) (c24_1 : ¬ (u.1 10) ≤ (x2 : Int32)) : 0 ≤ x2 ∧ x2 < (u.1 10) := by
  clear h_f h_S; (try simp only [g_m1, Int32.lt_iff_toInt_lt, Int32.le_iff_toInt_le, ← Int32.toInt_inj, Int32.reduceToInt] at *); omega
set_option maxRecDepth 100000 in
theorem g_X0_lookFrom_s_v8 (u : qS) (x : Int32) (S : Nat → Int32) (F : Nat → Int32) (Sc : Nat → Int32) (x2 : Int32) (uc : qS) (hQ : qFD 9 S u) (hQ7 : qFD 7 F u) (hz8 : 0 ≤ u.1 8 ∧ u.1 8 ≤ 20) (hz9 : 0 ≤ u.1 9 ∧ u.1 9 ≤ 8) (hz10 : 0 ≤ u.1 10 ∧ u.1 10 ≤ 120) (hz11 : 0 ≤ u.1 11 ∧ u.1 11 ≤ 60) (h_k : 0 ≤ x2 ∧ x2 ≤ u.1 10) (h_S : qFD 9 Sc uc) (h_4 : uc.1 14 = c_lf x (u.1 13)) (h_8 : uc.1 18 = u.1 18) (h_f : ∀ i : Nat, i < x2.toNatClampNeg → Sc i = F i) (c24_1 : ¬ (u.1 10) ≤ (x2 : Int32)) : 0 ≤ x2 ∧ x2 < (u.1 10) := by
  clear h_f h_S; (try simp only [g_m1, Int32.lt_iff_toInt_lt, Int32.le_iff_toInt_le, ← Int32.toInt_inj, Int32.reduceToInt] at *); omega
set_option maxRecDepth 100000 in
theorem g_X0_lookFrom_s_v9 (u : qS) (x : Int32) (S : Nat → Int32) (F : Nat → Int32) (Sc : Nat → Int32) (x2 : Int32) (uc : qS) (hQ : qFD 9 S u) (hQ7 : qFD 7 F u) (hz8 : 0 ≤ u.1 8 ∧ u.1 8 ≤ 20) (hz9 : 0 ≤ u.1 9 ∧ u.1 9 ≤ 8) (hz10 : 0 ≤ u.1 10 ∧ u.1 10 ≤ 120) (hz11 : 0 ≤ u.1 11 ∧ u.1 11 ≤ 60) (h_k : 0 ≤ x2 ∧ x2 ≤ u.1 10) (h_S : qFD 9 Sc uc) (h_4 : uc.1 14 = c_lf x (u.1 13)) (h_8 : uc.1 18 = u.1 18) (h_f : ∀ i : Nat, i < x2.toNatClampNeg → Sc i = F i) (c24_1 : ¬ (u.1 10) ≤ (x2 : Int32)) : vp_in (x2) 120 := by
  clear h_f h_S; refine g_in ?_ ?_ <;> ((try simp only [g_m1, Int32.lt_iff_toInt_lt, Int32.le_iff_toInt_le, ← Int32.toInt_inj, Int32.reduceToInt] at *); omega)
set_option maxRecDepth 100000 in
theorem g_X0_lookFrom_s_v10 (u : qS) (x : Int32) (S : Nat → Int32) (F : Nat → Int32) (Sc : Nat → Int32) (x2 : Int32) (uc : qS) (hQ : qFD 9 S u) (hQ7 : qFD 7 F u) (hz8 : 0 ≤ u.1 8 ∧ u.1 8 ≤ 20) (hz9 : 0 ≤ u.1 9 ∧ u.1 9 ≤ 8) (hz10 : 0 ≤ u.1 10 ∧ u.1 10 ≤ 120) (hz11 : 0 ≤ u.1 11 ∧ u.1 11 ≤ 60) (h_k : 0 ≤ x2 ∧ x2 ≤ u.1 10) (h_S : qFD 9 Sc uc) (h_4 : uc.1 14 = c_lf x (u.1 13)) (h_8 : uc.1 18 = u.1 18) (h_f : ∀ i : Nat, i < x2.toNatClampNeg → Sc i = F i) (c24_1 : ¬ (u.1 10) ≤ (x2 : Int32)) : 0 ≤ x2 ∧ x2 < (u.1 10) := by
  clear h_f h_S; (try simp only [g_m1, Int32.lt_iff_toInt_lt, Int32.le_iff_toInt_le, ← Int32.toInt_inj, Int32.reduceToInt] at *); omega
set_option maxRecDepth 100000 in
theorem g_X0_lookFrom_s_v11 (u : qS) (x : Int32) (S : Nat → Int32) (F : Nat → Int32) (Sc : Nat → Int32) (x2 : Int32) (uc : qS) (S_22 : Nat → Int32) (hQ : qFD 9 S u) (hQ7 : qFD 7 F u) (hz8 : 0 ≤ u.1 8 ∧ u.1 8 ≤ 20) (hz9 : 0 ≤ u.1 9 ∧ u.1 9 ≤ 8) (hz10 : 0 ≤ u.1 10 ∧ u.1 10 ≤ 120) (hz11 : 0 ≤ u.1 11 ∧ u.1 11 ≤ 60) (h_k : 0 ≤ x2 ∧ x2 ≤ u.1 10) (h_S : qFD 9 Sc uc) (h_4 : uc.1 14 = c_lf x (u.1 13)) (h_8 : uc.1 18 = u.1 18) (h_f : ∀ i : Nat, i < x2.toNatClampNeg → Sc i = F i) (c24_1 : ¬ (u.1 10) ≤ (x2 : Int32)) (hS_22 : S_22 = upd Sc (x2 : Int32).toNatClampNeg (F (x2 : Int32).toNatClampNeg : Int32)) : 0 ≤ (x2 + 1) ∧ (x2 + 1) ≤ u.1 10 := by
  clear h_f h_S; (try simp only [g_m1, Int32.lt_iff_toInt_lt, Int32.le_iff_toInt_le, ← Int32.toInt_inj, Int32.toInt_add, Int32.toInt_sub, Int32.toInt_mul, Int32.toInt_neg, Int32.reduceToInt, g_bm, g_bm'] at *); omega
set_option maxRecDepth 100000 in
theorem g_X0_lookFrom_s_v12 (u : qS) (x : Int32) (S : Nat → Int32) (F : Nat → Int32) (Sc : Nat → Int32) (x2 : Int32) (uc : qS) (S_22 : Nat → Int32) (hQ : qFD 9 S u) (hQ7 : qFD 7 F u) (hz8 : 0 ≤ u.1 8 ∧ u.1 8 ≤ 20) (hz9 : 0 ≤ u.1 9 ∧ u.1 9 ≤ 8) (hz10 : 0 ≤ u.1 10 ∧ u.1 10 ≤ 120) (hz11 : 0 ≤ u.1 11 ∧ u.1 11 ≤ 60) (h_k : 0 ≤ x2 ∧ x2 ≤ u.1 10) (h_S : qFD 9 Sc uc) (h_4 : uc.1 14 = c_lf x (u.1 13)) (h_8 : uc.1 18 = u.1 18) (h_f : ∀ i : Nat, i < x2.toNatClampNeg → Sc i = F i) (c24_1 : ¬ (u.1 10) ≤ (x2 : Int32)) (hS_22 : S_22 = upd Sc (x2 : Int32).toNatClampNeg (F (x2 : Int32).toNatClampNeg : Int32)) : (uc.1 14 : Int32) = c_lf x (u.1 13) := by
  exact h_4
set_option maxRecDepth 100000 in
theorem g_X0_lookFrom_s_v13 (u : qS) (x : Int32) (S : Nat → Int32) (F : Nat → Int32) (Sc : Nat → Int32) (x2 : Int32) (uc : qS) (S_22 : Nat → Int32) (hQ : qFD 9 S u) (hQ7 : qFD 7 F u) (hz8 : 0 ≤ u.1 8 ∧ u.1 8 ≤ 20) (hz9 : 0 ≤ u.1 9 ∧ u.1 9 ≤ 8) (hz10 : 0 ≤ u.1 10 ∧ u.1 10 ≤ 120) (hz11 : 0 ≤ u.1 11 ∧ u.1 11 ≤ 60) (h_k : 0 ≤ x2 ∧ x2 ≤ u.1 10) (h_S : qFD 9 Sc uc) (h_4 : uc.1 14 = c_lf x (u.1 13)) (h_8 : uc.1 18 = u.1 18) (h_f : ∀ i : Nat, i < x2.toNatClampNeg → Sc i = F i) (c24_1 : ¬ (u.1 10) ≤ (x2 : Int32)) (hS_22 : S_22 = upd Sc (x2 : Int32).toNatClampNeg (F (x2 : Int32).toNatClampNeg : Int32)) : (uc.1 18 : Int32) = u.1 18 := by
  exact h_8
set_option maxRecDepth 100000 in
theorem g_X0_lookFrom_s_v14 (u : qS) (x : Int32) (S : Nat → Int32) (F : Nat → Int32) (Sc : Nat → Int32) (x2 : Int32) (uc : qS) (S_22 : Nat → Int32) (hQ : qFD 9 S u) (hQ7 : qFD 7 F u) (hz8 : 0 ≤ u.1 8 ∧ u.1 8 ≤ 20) (hz9 : 0 ≤ u.1 9 ∧ u.1 9 ≤ 8) (hz10 : 0 ≤ u.1 10 ∧ u.1 10 ≤ 120) (hz11 : 0 ≤ u.1 11 ∧ u.1 11 ≤ 60) (h_k : 0 ≤ x2 ∧ x2 ≤ u.1 10) (h_S : qFD 9 Sc uc) (h_4 : uc.1 14 = c_lf x (u.1 13)) (h_8 : uc.1 18 = u.1 18) (h_f : ∀ i : Nat, i < x2.toNatClampNeg → Sc i = F i) (c24_1 : ¬ (u.1 10) ≤ (x2 : Int32)) (hS_22 : S_22 = upd Sc (x2 : Int32).toNatClampNeg (F (x2 : Int32).toNatClampNeg : Int32)) : ∀ i : Nat, i < (x2 + 1).toNatClampNeg → S_22 i = F i := by
  have q2 : 0 ≤ x2.toInt ∧ x2.toInt < 1000 := (by clear h_f h_S; (try simp only [g_m1, Int32.lt_iff_toInt_lt, Int32.le_iff_toInt_le, ← Int32.toInt_inj, Int32.reduceToInt] at *); omega)
  have e2 := (g_up (i := x2) q2.1 (by omega)).2
  intro i hi
  rw [e2] at hi
  subst_vars
  by_cases q : i = x2.toNatClampNeg
  · subst q; exact pk_us
  · rw [pk_un q]; exact h_f i (by omega)
set_option maxRecDepth 100000 in
theorem g_X0_lookFrom_s_v15 (u : qS) (x : Int32) (S : Nat → Int32) (F : Nat → Int32) (Sc : Nat → Int32) (x2 : Int32) (uc : qS) (S_22 : Nat → Int32) (hQ : qFD 9 S u) (hQ7 : qFD 7 F u) (hz8 : 0 ≤ u.1 8 ∧ u.1 8 ≤ 20) (hz9 : 0 ≤ u.1 9 ∧ u.1 9 ≤ 8) (hz10 : 0 ≤ u.1 10 ∧ u.1 10 ≤ 120) (hz11 : 0 ≤ u.1 11 ∧ u.1 11 ≤ 60) (h_k : 0 ≤ x2 ∧ x2 ≤ u.1 10) (h_S : qFD 9 Sc uc) (h_4 : uc.1 14 = c_lf x (u.1 13)) (h_8 : uc.1 18 = u.1 18) (h_f : ∀ i : Nat, i < x2.toNatClampNeg → Sc i = F i) (c24_1 : ¬ (u.1 10) ≤ (x2 : Int32)) (hS_22 : S_22 = upd Sc (x2 : Int32).toNatClampNeg (F (x2 : Int32).toNatClampNeg : Int32)) : ((u.1 10).toInt - (x2 + 1).toInt).toNat + 100 < ((u.1 10).toInt - x2.toInt).toNat + 100 := by
  clear h_f h_S; (try simp only [g_m1, Int32.lt_iff_toInt_lt, Int32.le_iff_toInt_le, ← Int32.toInt_inj, Int32.toInt_add, Int32.toInt_sub, Int32.toInt_mul, Int32.toInt_neg, Int32.reduceToInt, g_bm, g_bm'] at *); omega
set_option maxRecDepth 100000 in
theorem g_X0_lookFrom_s_v16 (u : qS) (x : Int32) (S : Nat → Int32) (F : Nat → Int32) (Sc : Nat → Int32) (x2 : Int32) (uc : qS) (hQ : qFD 9 S u) (hQ7 : qFD 7 F u) (hz8 : 0 ≤ u.1 8 ∧ u.1 8 ≤ 20) (hz9 : 0 ≤ u.1 9 ∧ u.1 9 ≤ 8) (hz10 : 0 ≤ u.1 10 ∧ u.1 10 ≤ 120) (hz11 : 0 ≤ u.1 11 ∧ u.1 11 ≤ 60) (h_k : 0 ≤ x2 ∧ x2 ≤ u.1 11) (h_S : qFD 9 Sc uc) (h_4 : uc.1 14 = c_lf x (u.1 13)) (h_8 : uc.1 18 = u.1 18) (h_g : c_fa (u.2.1 5) (u.2.1 6) (u.2.1 7) (c_se (c_lf x (u.1 13)) (u.1 13)) F Sc (u.1 10).toNatClampNeg x2.toNatClampNeg) (c58_23 : (u.1 11) ≤ (x2 : Int32)) : c_fa (u.2.1 5) (u.2.1 6) (u.2.1 7) (c_se (c_lf x (u.1 13)) (u.1 13)) F Sc (u.1 10).toNatClampNeg (u.1 11).toNatClampNeg ∧ (uc.1 14 : Int32) = c_lf x (u.1 13) ∧ ((uc.1 18) + 1 : Int32) = u.1 18 + 1 := by
  have e : x2 = u.1 11 := Int32.toInt_inj.mp (by clear h_g h_S; (try simp only [g_m1, Int32.lt_iff_toInt_lt, Int32.le_iff_toInt_le, ← Int32.toInt_inj, Int32.reduceToInt] at *); omega)
  rw [e] at h_g; exact ⟨h_g, h_4, by rw [h_8]⟩
set_option maxRecDepth 100000 in
theorem g_X0_lookFrom_s_v17 (u : qS) (x : Int32) (S : Nat → Int32) (F : Nat → Int32) (Sc : Nat → Int32) (x2 : Int32) (uc : qS) (hQ : qFD 9 S u) (hQ7 : qFD 7 F u) (hz8 : 0 ≤ u.1 8 ∧ u.1 8 ≤ 20) (hz9 : 0 ≤ u.1 9 ∧ u.1 9 ≤ 8) (hz10 : 0 ≤ u.1 10 ∧ u.1 10 ≤ 120) (hz11 : 0 ≤ u.1 11 ∧ u.1 11 ≤ 60) (h_k : 0 ≤ x2 ∧ x2 ≤ u.1 11) (h_S : qFD 9 Sc uc) (h_4 : uc.1 14 = c_lf x (u.1 13)) (h_8 : uc.1 18 = u.1 18) (h_g : c_fa (u.2.1 5) (u.2.1 6) (u.2.1 7) (c_se (c_lf x (u.1 13)) (u.1 13)) F Sc (u.1 10).toNatClampNeg x2.toNatClampNeg) (c58_23 : ¬ (u.1 11) ≤ (x2 : Int32)) : 0 ≤ x2 ∧ x2 < u.1 11 := by
  first | omega | ((try simp only [g_m1, Int32.lt_iff_toInt_lt, Int32.le_iff_toInt_le, ← Int32.toInt_inj, Int32.reduceToInt] at *); omega) | ((try simp only [g_m1, Int32.lt_iff_toInt_lt, Int32.le_iff_toInt_le, ← Int32.toInt_inj, Int32.reduceToInt] at *); omega) | ((try simp only [g_m1, Int32.lt_iff_toInt_lt, Int32.le_iff_toInt_le, ← Int32.toInt_inj, Int32.toInt_add, Int32.toInt_sub, Int32.toInt_mul, Int32.toInt_neg, Int32.reduceToInt, g_bm, g_bm'] at *); omega) | (have qr1 := g_rng x; have qr5 := g_rng x2; (try simp only [g_m1, Int32.lt_iff_toInt_lt, Int32.le_iff_toInt_le, ← Int32.toInt_inj, Int32.toInt_add, Int32.toInt_sub, Int32.toInt_mul, Int32.toInt_neg, Int32.reduceToInt, g_bm, g_bm'] at *); omega) | (simp only [g_m1, Int32.lt_iff_toInt_lt, Int32.le_iff_toInt_le, ← Int32.toInt_inj, Int32.toInt_add, Int32.toInt_sub, Int32.toInt_mul, Int32.toInt_neg, Int32.reduceToInt, g_bm, g_bm'] at *; simp at *; omega) | (simp_all; done)
set_option maxRecDepth 100000 in
theorem g_X0_lookFrom_s_v18 (u : qS) (x : Int32) (S : Nat → Int32) (F : Nat → Int32) (Sc : Nat → Int32) (x2 : Int32) (uc : qS) (hQ : qFD 9 S u) (hQ7 : qFD 7 F u) (hz8 : 0 ≤ u.1 8 ∧ u.1 8 ≤ 20) (hz9 : 0 ≤ u.1 9 ∧ u.1 9 ≤ 8) (hz10 : 0 ≤ u.1 10 ∧ u.1 10 ≤ 120) (hz11 : 0 ≤ u.1 11 ∧ u.1 11 ≤ 60) (h_k : 0 ≤ x2 ∧ x2 ≤ u.1 11) (h_S : qFD 9 Sc uc) (h_4 : uc.1 14 = c_lf x (u.1 13)) (h_8 : uc.1 18 = u.1 18) (h_g : c_fa (u.2.1 5) (u.2.1 6) (u.2.1 7) (c_se (c_lf x (u.1 13)) (u.1 13)) F Sc (u.1 10).toNatClampNeg x2.toNatClampNeg) (c58_23 : ¬ (u.1 11) ≤ (x2 : Int32)) (hq_24 : 0 ≤ u.2.1 5 x2.toNatClampNeg ∧ u.2.1 5 x2.toNatClampNeg < u.1 10) : 0 ≤ x2.toInt ∧ x2.toInt < 60 := by
  clear h_g h_S; (try simp only [g_m1, Int32.lt_iff_toInt_lt, Int32.le_iff_toInt_le, ← Int32.toInt_inj, Int32.reduceToInt] at *); omega
set_option maxRecDepth 100000 in
theorem g_X0_lookFrom_s_v19 (u : qS) (x : Int32) (S : Nat → Int32) (F : Nat → Int32) (Sc : Nat → Int32) (x2 : Int32) (uc : qS) (hQ : qFD 9 S u) (hQ7 : qFD 7 F u) (hz8 : 0 ≤ u.1 8 ∧ u.1 8 ≤ 20) (hz9 : 0 ≤ u.1 9 ∧ u.1 9 ≤ 8) (hz10 : 0 ≤ u.1 10 ∧ u.1 10 ≤ 120) (hz11 : 0 ≤ u.1 11 ∧ u.1 11 ≤ 60) (h_k : 0 ≤ x2 ∧ x2 ≤ u.1 11) (h_S : qFD 9 Sc uc) (h_4 : uc.1 14 = c_lf x (u.1 13)) (h_8 : uc.1 18 = u.1 18) (h_g : c_fa (u.2.1 5) (u.2.1 6) (u.2.1 7) (c_se (c_lf x (u.1 13)) (u.1 13)) F Sc (u.1 10).toNatClampNeg x2.toNatClampNeg) (c58_23 : ¬ (u.1 11) ≤ (x2 : Int32)) (hq_24 : 0 ≤ u.2.1 5 x2.toNatClampNeg ∧ u.2.1 5 x2.toNatClampNeg < u.1 10) : 0 ≤ (u.2.1 5) x2.toNatClampNeg ∧ (u.2.1 5) x2.toNatClampNeg < (u.1 10 : Int32) := by
  assumption
set_option maxRecDepth 100000 in
theorem g_X0_lookFrom_s_v20 (u : qS) (x : Int32) (S : Nat → Int32) (F : Nat → Int32) (Sc : Nat → Int32) (x2 : Int32) (uc : qS) (S_30 : Nat → Int32) (hQ : qFD 9 S u) (hQ7 : qFD 7 F u) (hz8 : 0 ≤ u.1 8 ∧ u.1 8 ≤ 20) (hz9 : 0 ≤ u.1 9 ∧ u.1 9 ≤ 8) (hz10 : 0 ≤ u.1 10 ∧ u.1 10 ≤ 120) (hz11 : 0 ≤ u.1 11 ∧ u.1 11 ≤ 60) (h_k : 0 ≤ x2 ∧ x2 ≤ u.1 11) (h_S : qFD 9 Sc uc) (h_4 : uc.1 14 = c_lf x (u.1 13)) (h_8 : uc.1 18 = u.1 18) (h_g : c_fa (u.2.1 5) (u.2.1 6) (u.2.1 7) (c_se (c_lf x (u.1 13)) (u.1 13)) F Sc (u.1 10).toNatClampNeg x2.toNatClampNeg) (c58_23 : ¬ (u.1 11) ≤ (x2 : Int32)) (hq_24 : 0 ≤ u.2.1 5 x2.toNatClampNeg ∧ u.2.1 5 x2.toNatClampNeg < u.1 10) (hq_31 : S_30 = c_tw ((u.2.1 5)) ((u.2.1 6)) ((u.2.1 7)) (c_se ((uc.1 14 : Int32)) ((u.1 13 : Int32))) (Sc) x2.toNatClampNeg) : 0 ≤ (x2 + 1) ∧ (x2 + 1) ≤ u.1 11 := by
  clear h_g h_S; (try simp only [g_m1, Int32.lt_iff_toInt_lt, Int32.le_iff_toInt_le, ← Int32.toInt_inj, Int32.toInt_add, Int32.toInt_sub, Int32.toInt_mul, Int32.toInt_neg, Int32.reduceToInt, g_bm, g_bm'] at *); omega
set_option maxRecDepth 100000 in
theorem g_X0_lookFrom_s_v21 (u : qS) (x : Int32) (S : Nat → Int32) (F : Nat → Int32) (Sc : Nat → Int32) (x2 : Int32) (uc : qS) (S_30 : Nat → Int32) (hQ : qFD 9 S u) (hQ7 : qFD 7 F u) (hz8 : 0 ≤ u.1 8 ∧ u.1 8 ≤ 20) (hz9 : 0 ≤ u.1 9 ∧ u.1 9 ≤ 8) (hz10 : 0 ≤ u.1 10 ∧ u.1 10 ≤ 120) (hz11 : 0 ≤ u.1 11 ∧ u.1 11 ≤ 60) (h_k : 0 ≤ x2 ∧ x2 ≤ u.1 11) (h_S : qFD 9 Sc uc) (h_4 : uc.1 14 = c_lf x (u.1 13)) (h_8 : uc.1 18 = u.1 18) (h_g : c_fa (u.2.1 5) (u.2.1 6) (u.2.1 7) (c_se (c_lf x (u.1 13)) (u.1 13)) F Sc (u.1 10).toNatClampNeg x2.toNatClampNeg) (c58_23 : ¬ (u.1 11) ≤ (x2 : Int32)) (hq_24 : 0 ≤ u.2.1 5 x2.toNatClampNeg ∧ u.2.1 5 x2.toNatClampNeg < u.1 10) (hq_31 : S_30 = c_tw ((u.2.1 5)) ((u.2.1 6)) ((u.2.1 7)) (c_se ((uc.1 14 : Int32)) ((u.1 13 : Int32))) (Sc) x2.toNatClampNeg) : (uc.1 14 : Int32) = c_lf x (u.1 13) := by
  exact h_4
set_option maxRecDepth 100000 in
theorem g_X0_lookFrom_s_v22 (u : qS) (x : Int32) (S : Nat → Int32) (F : Nat → Int32) (Sc : Nat → Int32) (x2 : Int32) (uc : qS) (S_30 : Nat → Int32) (hQ : qFD 9 S u) (hQ7 : qFD 7 F u) (hz8 : 0 ≤ u.1 8 ∧ u.1 8 ≤ 20) (hz9 : 0 ≤ u.1 9 ∧ u.1 9 ≤ 8) (hz10 : 0 ≤ u.1 10 ∧ u.1 10 ≤ 120) (hz11 : 0 ≤ u.1 11 ∧ u.1 11 ≤ 60) (h_k : 0 ≤ x2 ∧ x2 ≤ u.1 11) (h_S : qFD 9 Sc uc) (h_4 : uc.1 14 = c_lf x (u.1 13)) (h_8 : uc.1 18 = u.1 18) (h_g : c_fa (u.2.1 5) (u.2.1 6) (u.2.1 7) (c_se (c_lf x (u.1 13)) (u.1 13)) F Sc (u.1 10).toNatClampNeg x2.toNatClampNeg) (c58_23 : ¬ (u.1 11) ≤ (x2 : Int32)) (hq_24 : 0 ≤ u.2.1 5 x2.toNatClampNeg ∧ u.2.1 5 x2.toNatClampNeg < u.1 10) (hq_31 : S_30 = c_tw ((u.2.1 5)) ((u.2.1 6)) ((u.2.1 7)) (c_se ((uc.1 14 : Int32)) ((u.1 13 : Int32))) (Sc) x2.toNatClampNeg) : (uc.1 18 : Int32) = u.1 18 := by
  exact h_8
set_option maxRecDepth 100000 in
theorem g_X0_lookFrom_s_v23 (u : qS) (x : Int32) (S : Nat → Int32) (F : Nat → Int32) (Sc : Nat → Int32) (x2 : Int32) (uc : qS) (S_30 : Nat → Int32) (hQ : qFD 9 S u) (hQ7 : qFD 7 F u) (hz8 : 0 ≤ u.1 8 ∧ u.1 8 ≤ 20) (hz9 : 0 ≤ u.1 9 ∧ u.1 9 ≤ 8) (hz10 : 0 ≤ u.1 10 ∧ u.1 10 ≤ 120) (hz11 : 0 ≤ u.1 11 ∧ u.1 11 ≤ 60) (h_k : 0 ≤ x2 ∧ x2 ≤ u.1 11) (h_S : qFD 9 Sc uc) (h_4 : uc.1 14 = c_lf x (u.1 13)) (h_8 : uc.1 18 = u.1 18) (h_g : c_fa (u.2.1 5) (u.2.1 6) (u.2.1 7) (c_se (c_lf x (u.1 13)) (u.1 13)) F Sc (u.1 10).toNatClampNeg x2.toNatClampNeg) (c58_23 : ¬ (u.1 11) ≤ (x2 : Int32)) (hq_24 : 0 ≤ u.2.1 5 x2.toNatClampNeg ∧ u.2.1 5 x2.toNatClampNeg < u.1 10) (hq_31 : S_30 = c_tw ((u.2.1 5)) ((u.2.1 6)) ((u.2.1 7)) (c_se ((uc.1 14 : Int32)) ((u.1 13 : Int32))) (Sc) x2.toNatClampNeg) : c_fa (u.2.1 5) (u.2.1 6) (u.2.1 7) (c_se (c_lf x (u.1 13)) (u.1 13)) F S_30 (u.1 10).toNatClampNeg (x2 + 1).toNatClampNeg := by
  have q2 : 0 ≤ x2.toInt ∧ x2.toInt < 1000 := (by clear h_g h_S; (try simp only [g_m1, Int32.lt_iff_toInt_lt, Int32.le_iff_toInt_le, ← Int32.toInt_inj, Int32.reduceToInt] at *); omega)
  have e2 := (g_up (i := x2) q2.1 (by omega)).2
  rw [e2]
  have w := (by assumption : _ = c_tw _ _ _ _ _ _)
  rw [h_4] at w; exact h_g.up w
set_option maxRecDepth 100000 in
theorem g_X0_lookFrom_s_v24 (u : qS) (x : Int32) (S : Nat → Int32) (F : Nat → Int32) (Sc : Nat → Int32) (x2 : Int32) (uc : qS) (S_30 : Nat → Int32) (hQ : qFD 9 S u) (hQ7 : qFD 7 F u) (hz8 : 0 ≤ u.1 8 ∧ u.1 8 ≤ 20) (hz9 : 0 ≤ u.1 9 ∧ u.1 9 ≤ 8) (hz10 : 0 ≤ u.1 10 ∧ u.1 10 ≤ 120) (hz11 : 0 ≤ u.1 11 ∧ u.1 11 ≤ 60) (h_k : 0 ≤ x2 ∧ x2 ≤ u.1 11) (h_S : qFD 9 Sc uc) (h_4 : uc.1 14 = c_lf x (u.1 13)) (h_8 : uc.1 18 = u.1 18) (h_g : c_fa (u.2.1 5) (u.2.1 6) (u.2.1 7) (c_se (c_lf x (u.1 13)) (u.1 13)) F Sc (u.1 10).toNatClampNeg x2.toNatClampNeg) (c58_23 : ¬ (u.1 11) ≤ (x2 : Int32)) (hq_24 : 0 ≤ u.2.1 5 x2.toNatClampNeg ∧ u.2.1 5 x2.toNatClampNeg < u.1 10) (hq_31 : S_30 = c_tw ((u.2.1 5)) ((u.2.1 6)) ((u.2.1 7)) (c_se ((uc.1 14 : Int32)) ((u.1 13 : Int32))) (Sc) x2.toNatClampNeg) : ((u.1 11).toInt - (x2 + 1).toInt).toNat < ((u.1 11).toInt - x2.toInt).toNat := by
  clear h_g h_S; (try simp only [g_m1, Int32.lt_iff_toInt_lt, Int32.le_iff_toInt_le, ← Int32.toInt_inj, Int32.toInt_add, Int32.toInt_sub, Int32.toInt_mul, Int32.toInt_neg, Int32.reduceToInt, g_bm, g_bm'] at *); omega
set_option maxRecDepth 100000 in
theorem g_X0_lookFrom_s_v25 (u : qS) (x : Int32) (S : Nat → Int32) (F : Nat → Int32) (hQ : qFD 9 S u) (hQ7 : qFD 7 F u) (hz8 : 0 ≤ u.1 8 ∧ u.1 8 ≤ 20) (hz9 : 0 ≤ u.1 9 ∧ u.1 9 ≤ 8) (hz10 : 0 ≤ u.1 10 ∧ u.1 10 ≤ 120) (hz11 : 0 ≤ u.1 11 ∧ u.1 11 ≤ 60) (c6_32 : ¬ (x : Int32) = (u.1 13)) : 0 ≤ (0 : Int32) ∧ (0 : Int32) ≤ u.1 10 := by
  (try simp only [g_m1, Int32.lt_iff_toInt_lt, Int32.le_iff_toInt_le, ← Int32.toInt_inj, Int32.reduceToInt] at *); omega
set_option maxRecDepth 100000 in
theorem g_X0_lookFrom_s_v26 (u : qS) (x : Int32) (S : Nat → Int32) (F : Nat → Int32) (hQ : qFD 9 S u) (hQ7 : qFD 7 F u) (hz8 : 0 ≤ u.1 8 ∧ u.1 8 ≤ 20) (hz9 : 0 ≤ u.1 9 ∧ u.1 9 ≤ 8) (hz10 : 0 ≤ u.1 10 ∧ u.1 10 ≤ 120) (hz11 : 0 ≤ u.1 11 ∧ u.1 11 ≤ 60) (c6_32 : ¬ (x : Int32) = (u.1 13)) : (x : Int32) = c_lf x (u.1 13) := by
  unfold c_lf; first | rw [if_pos (by assumption)] | rw [if_neg (by assumption)]
set_option maxRecDepth 100000 in
theorem g_X0_lookFrom_s_v27 (u : qS) (x : Int32) (S : Nat → Int32) (F : Nat → Int32) (hQ : qFD 9 S u) (hQ7 : qFD 7 F u) (hz8 : 0 ≤ u.1 8 ∧ u.1 8 ≤ 20) (hz9 : 0 ≤ u.1 9 ∧ u.1 9 ≤ 8) (hz10 : 0 ≤ u.1 10 ∧ u.1 10 ≤ 120) (hz11 : 0 ≤ u.1 11 ∧ u.1 11 ≤ 60) (c6_32 : ¬ (x : Int32) = (u.1 13)) : (u.1 18 : Int32) = u.1 18 := by
  rfl
set_option maxRecDepth 100000 in
theorem g_X0_lookFrom_s_v28 (u : qS) (x : Int32) (S : Nat → Int32) (F : Nat → Int32) (hQ : qFD 9 S u) (hQ7 : qFD 7 F u) (hz8 : 0 ≤ u.1 8 ∧ u.1 8 ≤ 20) (hz9 : 0 ≤ u.1 9 ∧ u.1 9 ≤ 8) (hz10 : 0 ≤ u.1 10 ∧ u.1 10 ≤ 120) (hz11 : 0 ≤ u.1 11 ∧ u.1 11 ≤ 60) (c6_32 : ¬ (x : Int32) = (u.1 13)) : ∀ i : Nat, i < (0 : Int32).toNatClampNeg → S i = F i := by
  intro i hi; exact absurd hi (Nat.not_lt_zero _)
set_option maxRecDepth 100000 in
theorem g_X0_lookFrom_s_v29 (u : qS) (x : Int32) (S : Nat → Int32) (F : Nat → Int32) (hQ : qFD 9 S u) (hQ7 : qFD 7 F u) (hz8 : 0 ≤ u.1 8 ∧ u.1 8 ≤ 20) (hz9 : 0 ≤ u.1 9 ∧ u.1 9 ≤ 8) (hz10 : 0 ≤ u.1 10 ∧ u.1 10 ≤ 120) (hz11 : 0 ≤ u.1 11 ∧ u.1 11 ≤ 60) (c6_32 : (x : Int32) = (u.1 13)) : 0 ≤ (0 : Int32) ∧ (0 : Int32) ≤ u.1 10 := by
  (try simp only [g_m1, Int32.lt_iff_toInt_lt, Int32.le_iff_toInt_le, ← Int32.toInt_inj, Int32.reduceToInt] at *); omega
set_option maxRecDepth 100000 in
theorem g_X0_lookFrom_s_v30 (u : qS) (x : Int32) (S : Nat → Int32) (F : Nat → Int32) (hQ : qFD 9 S u) (hQ7 : qFD 7 F u) (hz8 : 0 ≤ u.1 8 ∧ u.1 8 ≤ 20) (hz9 : 0 ≤ u.1 9 ∧ u.1 9 ≤ 8) (hz10 : 0 ≤ u.1 10 ∧ u.1 10 ≤ 120) (hz11 : 0 ≤ u.1 11 ∧ u.1 11 ≤ 60) (c6_32 : (x : Int32) = (u.1 13)) : ((-1) : Int32) = c_lf x (u.1 13) := by
  unfold c_lf; first | rw [if_pos (by assumption)] | rw [if_neg (by assumption)]
set_option maxRecDepth 100000 in
theorem g_X0_lookFrom_s_v31 (u : qS) (x : Int32) (S : Nat → Int32) (F : Nat → Int32) (hQ : qFD 9 S u) (hQ7 : qFD 7 F u) (hz8 : 0 ≤ u.1 8 ∧ u.1 8 ≤ 20) (hz9 : 0 ≤ u.1 9 ∧ u.1 9 ≤ 8) (hz10 : 0 ≤ u.1 10 ∧ u.1 10 ≤ 120) (hz11 : 0 ≤ u.1 11 ∧ u.1 11 ≤ 60) (c6_32 : (x : Int32) = (u.1 13)) : (u.1 18 : Int32) = u.1 18 := by
  rfl
set_option maxRecDepth 100000 in
theorem g_X0_lookFrom_s_v32 (u : qS) (x : Int32) (S : Nat → Int32) (F : Nat → Int32) (hQ : qFD 9 S u) (hQ7 : qFD 7 F u) (hz8 : 0 ≤ u.1 8 ∧ u.1 8 ≤ 20) (hz9 : 0 ≤ u.1 9 ∧ u.1 9 ≤ 8) (hz10 : 0 ≤ u.1 10 ∧ u.1 10 ≤ 120) (hz11 : 0 ≤ u.1 11 ∧ u.1 11 ≤ 60) (c6_32 : (x : Int32) = (u.1 13)) : ∀ i : Nat, i < (0 : Int32).toNatClampNeg → S i = F i := by
  intro i hi; exact absurd hi (Nat.not_lt_zero _)
set_option maxHeartbeats 1000000 in
set_option maxRecDepth 100000 in
theorem g_X0_lookFrom_s (l : Launch) (E : qE) (A : Nat → Prop) (u : qS) (x : Int32) (S : Nat → Int32) (F : Nat → Int32) (hI : IC E u) (hQ : qFD 9 S u) (hQ7 : qFD 7 F u) : Met l yX0_lookFrom (uws yX0_lookFrom cX0_lookFrom 3 none) (qR 2 0 0) (qPc E A 0 u [.ref (E.2.2 99), .int x]) (qQv E A 0 (fun u1 => (qFc [14, 18] [] [] [5009] u u1 ∧ IC E u1) ∧ (∃ S1 : Nat → Int32, qFD 9 S1 u1 ∧ (c_fa (u.2.1 5) (u.2.1 6) (u.2.1 7) (c_se (c_lf x (u.1 13)) (u.1 13)) F S1 (u.1 10).toNatClampNeg (u.1 11).toNatClampNeg ∧ u1.1 14 = c_lf x (u.1 13) ∧ u1.1 18 = u.1 18 + 1)))) 0 0 A := by
  refine q_met (own := RX0) (f := 2) [.ref (E.2.2 99), .int x] (by decide) (Nat.le_of_ble_eq_true rfl) rfl ?_
  intro p0 e0 s0 m0 bl0 me0 cd0 ls hF hr hlocks hU hS hA hl
  have hl : lv_has ls 3 [(0, .ref (E.2.2 99)), (1, .int x)] := hl
  have hz8 : 0 ≤ u.1 8 ∧ u.1 8 ≤ 20 := hI.1.s8
  have hz9 : 0 ≤ u.1 9 ∧ u.1 9 ≤ 8 := hI.1.s9
  have hz10 : 0 ≤ u.1 10 ∧ u.1 10 ≤ 120 := hI.1.s10
  have hz11 : 0 ≤ u.1 11 ∧ u.1 11 ≤ 60 := hI.1.s11
  have hfr : qFc [14, 18] [] [] [5009] u u := qFc.rf
  have hST := hQ
  have main : ∀ n : Nat, (∀ (Sc : Nat → Int32) (x2 : Int32) (uc : qS) (H : Heap) (locs : List Loc) (ls : Array Slot) (hfr : qFc [14, 18] [] [] [5009] u uc) (hI : IC E uc) (h_k : 0 ≤ x2 ∧ x2 ≤ u.1 10) (h_S : qFD 9 Sc uc) (h_4 : uc.1 14 = c_lf x (u.1 13)) (h_8 : uc.1 18 = u.1 18) (h_f : ∀ i : Nat, i < x2.toNatClampNeg → Sc i = F i), ((u.1 10).toInt - x2.toInt).toNat + 100 < n → qH E A 0 uc s0 H → va_S A s0.heap H locs → lv_has ls 3 [(0, .ref (E.2.2 99)), (1, .int x), (2, .int x2)] → W p0 l e0 (qR 2 0 0) s0 m0 ([.ref (E.2.2 99), .int x] : List Value).toArray bl0 me0 cd0 H locs 0 0 (MQ bl0 (qQv E A 0 (fun u1 => (qFc [14, 18] [] [] [5009] u u1 ∧ IC E u1) ∧ (∃ S1 : Nat → Int32, qFD 9 S1 u1 ∧ (c_fa (u.2.1 5) (u.2.1 6) (u.2.1 7) (c_se (c_lf x (u.1 13)) (u.1 13)) F S1 (u.1 10).toNatClampNeg (u.1 11).toNatClampNeg ∧ u1.1 14 = c_lf x (u.1 13) ∧ u1.1 18 = u.1 18 + 1)))) ([.ref (E.2.2 99), .int x] : List Value).toArray s0 0 0 A) (F0 m0 19 ls [])) ∧ (∀ (Sc : Nat → Int32) (x2 : Int32) (uc : qS) (H : Heap) (locs : List Loc) (ls : Array Slot) (hfr : qFc [14, 18] [] [] [5009] u uc) (hI : IC E uc) (h_k : 0 ≤ x2 ∧ x2 ≤ u.1 11) (h_S : qFD 9 Sc uc) (h_4 : uc.1 14 = c_lf x (u.1 13)) (h_8 : uc.1 18 = u.1 18) (h_g : c_fa (u.2.1 5) (u.2.1 6) (u.2.1 7) (c_se (c_lf x (u.1 13)) (u.1 13)) F Sc (u.1 10).toNatClampNeg x2.toNatClampNeg), ((u.1 11).toInt - x2.toInt).toNat < n → qH E A 0 uc s0 H → va_S A s0.heap H locs → lv_has ls 3 [(0, .ref (E.2.2 99)), (1, .int x), (2, .int x2)] → W p0 l e0 (qR 2 0 0) s0 m0 ([.ref (E.2.2 99), .int x] : List Value).toArray bl0 me0 cd0 H locs 0 0 (MQ bl0 (qQv E A 0 (fun u1 => (qFc [14, 18] [] [] [5009] u u1 ∧ IC E u1) ∧ (∃ S1 : Nat → Int32, qFD 9 S1 u1 ∧ (c_fa (u.2.1 5) (u.2.1 6) (u.2.1 7) (c_se (c_lf x (u.1 13)) (u.1 13)) F S1 (u.1 10).toNatClampNeg (u.1 11).toNatClampNeg ∧ u1.1 14 = c_lf x (u.1 13) ∧ u1.1 18 = u.1 18 + 1)))) ([.ref (E.2.2 99), .int x] : List Value).toArray s0 0 0 A) (F0 m0 53 ls [])) := by
    clear hI hfr
    intro n
    induction n with
    | zero => exact ⟨fun _ _ _ _ _ _ _ _ _ _ _ _ _ hmu => absurd hmu (Nat.not_lt_zero _), fun _ _ _ _ _ _ _ _ _ _ _ _ _ hmu => absurd hmu (Nat.not_lt_zero _)⟩
    | succ n ih =>
      refine ⟨?_, ?_⟩
      · intro Sc x2 uc H locs ls hfr hI h_k h_S h_4 h_8 h_f hmu hU hS hl
        have hST := h_S
        refine lv_iload_n hF.1 hF.2.1 dX0_lookFrom_19 rfl (lv_at hl 2 rfl) ?_
        refine lv_aload_n hF.1 hF.2.1 dX0_lookFrom_20 rfl (lv_at hl 0 rfl) ?_
        refine q_get (v := .int (u.1 10)) hF hU dX0_lookFrom_21 1 0 10 10 99 rfl rfl rfl rfl inX0 (by decide) (by decide) w_171 rfl (congrArg Value.int (hfr.1 10 (by decide))) ?_
        refine lv_icmp_ge (tgt := 51) hF.1 hF.2.1 dX0_lookFrom_24 (by decide) (fun c24_1 => ?_) (fun c24_1 => ?_)
        · refine lv_iconst (v := 0) hF.1 hF.2.1 dX0_lookFrom_51 (by decide) ?_
          refine lv_istore_n (lv' := [(2, .int 0), (0, .ref (E.2.2 99)), (1, .int x)]) hF.1 hF.2.1 dX0_lookFrom_52 rfl hl (by decide) rfl (fun ls hl => ?_)
          exact ih.2 Sc (0 : Int32) uc _ _ _ hfr hI  (g_X0_lookFrom_s_v0 u x S F Sc x2 uc hQ hQ7 hz8 hz9 hz10 hz11 h_k h_S h_4 h_8 h_f c24_1) hST (g_X0_lookFrom_s_v1 u x S F Sc x2 uc hQ hQ7 hz8 hz9 hz10 hz11 h_k h_S h_4 h_8 h_f c24_1) (g_X0_lookFrom_s_v2 u x S F Sc x2 uc hQ hQ7 hz8 hz9 hz10 hz11 h_k h_S h_4 h_8 h_f c24_1) (g_X0_lookFrom_s_v3 u x S F Sc x2 uc hQ hQ7 hz8 hz9 hz10 hz11 h_k h_S h_4 h_8 h_f c24_1) (Nat.lt_of_lt_of_le (g_X0_lookFrom_s_v4 u x S F Sc x2 uc hQ hQ7 hz8 hz9 hz10 hz11 h_k h_S h_4 h_8 h_f c24_1) (Nat.lt_succ_iff.mp hmu)) hU hS (lv_sub hl [1, 2, 0] rfl)
        · refine lv_aload_n hF.1 hF.2.1 dX0_lookFrom_27 rfl (lv_at hl 0 rfl) ?_
          refine q_get (v := .ref (E.2.2 2)) hF hU dX0_lookFrom_28 1 0 2 2 99 rfl rfl rfl rfl inX0 (by decide) (by decide) w_148 rfl rfl ?_
          refine lv_iload_n hF.1 hF.2.1 dX0_lookFrom_31 rfl (lv_at hl 2 rfl) ?_
          obtain ⟨a_2, ha_2_3_e, ha_2_3⟩ := hI.r2 x2 (by rw [(hfr.1 10 (by decide))]; exact (g_X0_lookFrom_s_v5 u x S F Sc x2 uc hQ hQ7 hz8 hz9 hz10 hz11 h_k h_S h_4 h_8 h_f c24_1))
          refine q_aald (v := .ref a_2) hF hU dX0_lookFrom_32 2 2 6 rfl rfl (by decide) rfl (g_X0_lookFrom_s_v6 u x S F Sc x2 uc hQ hQ7 hz8 hz9 hz10 hz11 h_k h_S h_4 h_8 h_f c24_1) (by rw [ha_2_3_e]; rfl) ?_
          have hK_4 : qNm uc a_2 x2 := hST.nm (by rw [(hfr.1 10 (by decide))]; exact (g_X0_lookFrom_s_v7 u x S F Sc x2 uc hQ hQ7 hz8 hz9 hz10 hz11 h_k h_S h_4 h_8 h_f c24_1)) ha_2_3_e
          refine lv_aload_n hF.1 hF.2.1 dX0_lookFrom_33 rfl (lv_at hl 0 rfl) ?_
          refine q_get (v := .ref (E.2.2 2)) hF hU dX0_lookFrom_34 1 0 2 2 99 rfl rfl rfl rfl inX0 (by decide) (by decide) w_148 rfl rfl ?_
          refine lv_iload_n hF.1 hF.2.1 dX0_lookFrom_37 rfl (lv_at hl 2 rfl) ?_
          obtain ⟨a_5, ha_5_6_e, ha_5_6⟩ := hI.r2 x2 (by rw [(hfr.1 10 (by decide))]; exact (g_X0_lookFrom_s_v8 u x S F Sc x2 uc hQ hQ7 hz8 hz9 hz10 hz11 h_k h_S h_4 h_8 h_f c24_1))
          refine q_aald (v := .ref a_5) hF hU dX0_lookFrom_38 2 2 6 rfl rfl (by decide) rfl (g_X0_lookFrom_s_v9 u x S F Sc x2 uc hQ hQ7 hz8 hz9 hz10 hz11 h_k h_S h_4 h_8 h_f c24_1) (by rw [ha_5_6_e]; rfl) ?_
          have hK_7 : qNm uc a_5 x2 := hST.nm (by rw [(hfr.1 10 (by decide))]; exact (g_X0_lookFrom_s_v10 u x S F Sc x2 uc hQ hQ7 hz8 hz9 hz10 hz11 h_k h_S h_4 h_8 h_f c24_1)) ha_5_6_e
          obtain ⟨k_8, fs_9, hd_10, hv_11⟩ := (hQ7.fr hfr (by decide) (by decide) (by decide) (by decide) (by decide)).at hK_7
          refine q_getd (v := .int (F (x2 : Int32).toNatClampNeg)) hF hU dX0_lookFrom_39 k_8 10 7 hd_10 rfl inX10 (by decide) w_612 rfl hv_11 ?_
          have hDi := q_di hU
          obtain ⟨k_12, fs_13, x_14, hd_15, hv_16, -, -, hv_16_l⟩ := hI.v ((ha_2_3).rf) 9 (by decide)
          have hp_19 := hI.vput (j := 9) (x := F (x2 : Int32).toNatClampNeg) hd_15 (by decide) (fun q => absurd q (by decide)) (fun q => absurd q (by decide))
          refine q_putd hF hU hS dX0_lookFrom_42 k_12 10 9 hd_15 rfl inX10 tyX10 tyX10_ok nmX10 (by decide) w_619 rfl (Or.inl rfl) rfl rfl (by rw [hv_16_l]; decide) (fun u_17 H locs hu_18 _ hU hS => ?_)
          rw [← hu_18] at hp_19
          have hI := hp_19.1
          have hp_19_f := hp_19.2 [] [] [] [5009] (by decide)
          have hfo := hfr
          have hfr : qFc [14, 18] [] [] [5009] u u_17 := hfr.trans (hp_19_f.mono (by decide) (by decide) (by decide) (by decide))
          have e_20 : u_17.1 14 = (uc.1 14) := (hp_19_f.1 14 (by decide)).trans rfl
          have e_21 : u_17.1 18 = (uc.1 18) := (hp_19_f.1 18 (by decide)).trans rfl
          obtain ⟨S_22, hS_22⟩ : ∃ zz9 : Nat → Int32, zz9 = upd Sc (x2 : Int32).toNatClampNeg (F (x2 : Int32).toNatClampNeg : Int32) := ⟨_, rfl⟩
          have hST : qFD 9 S_22 u_17 := by rw [hS_22, hu_18]; exact hST.put hDi hK_4 hd_15 (by decide)
          refine lv_iinc (v := x2 + 1) (lv' := [(2, .int (x2 + 1)), (0, .ref (E.2.2 99)), (1, .int x)]) hF.1 hF.2.1 dX0_lookFrom_45 hl (k := 2) rfl rfl (by decide) rfl (fun ls hl => ?_)
          refine lv_goto (tgt := 19) hF.1 hF.2.1 dX0_lookFrom_48 (by decide) ?_
          exact ih.1 S_22 (x2 + 1) u_17 _ _ _ hfr hI  (g_X0_lookFrom_s_v11 u x S F Sc x2 uc S_22 hQ hQ7 hz8 hz9 hz10 hz11 h_k h_S h_4 h_8 h_f c24_1 hS_22) hST (by rw [show (u_17).1 14 = (uc.1 14) from e_20]; exact (g_X0_lookFrom_s_v12 u x S F Sc x2 uc S_22 hQ hQ7 hz8 hz9 hz10 hz11 h_k h_S h_4 h_8 h_f c24_1 hS_22)) (by rw [show (u_17).1 18 = (uc.1 18) from e_21]; exact (g_X0_lookFrom_s_v13 u x S F Sc x2 uc S_22 hQ hQ7 hz8 hz9 hz10 hz11 h_k h_S h_4 h_8 h_f c24_1 hS_22)) (g_X0_lookFrom_s_v14 u x S F Sc x2 uc S_22 hQ hQ7 hz8 hz9 hz10 hz11 h_k h_S h_4 h_8 h_f c24_1 hS_22) (Nat.lt_of_lt_of_le (g_X0_lookFrom_s_v15 u x S F Sc x2 uc S_22 hQ hQ7 hz8 hz9 hz10 hz11 h_k h_S h_4 h_8 h_f c24_1 hS_22) (Nat.lt_succ_iff.mp hmu)) hU hS (lv_sub hl [1, 2, 0] rfl)
      · intro Sc x2 uc H locs ls hfr hI h_k h_S h_4 h_8 h_g hmu hU hS hl
        have hST := h_S
        refine lv_iload_n hF.1 hF.2.1 dX0_lookFrom_53 rfl (lv_at hl 2 rfl) ?_
        refine lv_aload_n hF.1 hF.2.1 dX0_lookFrom_54 rfl (lv_at hl 0 rfl) ?_
        refine q_get (v := .int (u.1 11)) hF hU dX0_lookFrom_55 1 0 11 11 99 rfl rfl rfl rfl inX0 (by decide) (by decide) w_173 rfl (congrArg Value.int (hfr.1 11 (by decide))) ?_
        refine lv_icmp_ge (tgt := 72) hF.1 hF.2.1 dX0_lookFrom_58 (by decide) (fun c58_23 => ?_) (fun c58_23 => ?_)
        · refine lv_aload_n hF.1 hF.2.1 dX0_lookFrom_72 rfl (lv_at hl 0 rfl) ?_
          refine lv_dup hF.1 hF.2.1 dX0_lookFrom_73 rfl ?_
          refine q_get (v := .int (uc.1 18)) hF hU dX0_lookFrom_74 1 0 18 18 99 rfl rfl rfl rfl inX0 (by decide) (by decide) w_191 rfl rfl ?_
          refine lv_iconst (v := 1) hF.1 hF.2.1 dX0_lookFrom_77 (by decide) ?_
          refine lv_iadd hF.1 hF.2.1 dX0_lookFrom_78 ?_
          refine q_put hF hU hS dX0_lookFrom_79 1 0 18 18 99 rfl rfl rfl rfl inX0 tyX0 tyX0_ok nmX0 (by decide) (by decide) rfl w_191 rfl rfl rfl rfl (fun H locs hU hS => ?_)
          have hfr : qFc [14, 18] [] [] [5009] u (qsI uc 18 ((uc.1 18) + 1)) := hfr.setI (by decide) (fun q => absurd q (by decide))
          have hI : IC E (qsI uc 18 ((uc.1 18) + 1)) := hI.sI (by decide)
          have hST : qFD 9 Sc (qsI uc 18 ((uc.1 18) + 1)) := hST.sI (by decide)
          exact q_vret hF hr hlocks hU hS dX0_lookFrom_82 ⟨⟨hfr, hI⟩, ⟨Sc, hST, (g_X0_lookFrom_s_v16 u x S F Sc x2 uc hQ hQ7 hz8 hz9 hz10 hz11 h_k h_S h_4 h_8 h_g c58_23)⟩⟩
        · have hq_24 : 0 ≤ u.2.1 5 x2.toNatClampNeg ∧ u.2.1 5 x2.toNatClampNeg < u.1 10 := by have z := hI.r5 x2 (by rw [(hfr.1 11 (by decide))]; exact (g_X0_lookFrom_s_v17 u x S F Sc x2 uc hQ hQ7 hz8 hz9 hz10 hz11 h_k h_S h_4 h_8 h_g c58_23)); rw [(hfr.2.1 5 (by decide)), (hfr.1 10 (by decide))] at z; exact z
          refine lv_aload_n hF.1 hF.2.1 dX0_lookFrom_61 rfl (lv_at hl 0 rfl) ?_
          refine lv_iload_n hF.1 hF.2.1 dX0_lookFrom_62 rfl (lv_at hl 2 rfl) ?_
          have hM9 := g_X0_turnIfSeen_s l E A uc x2 Sc hI hST (g_X0_lookFrom_s_v18 u x S F Sc x2 uc hQ hQ7 hz8 hz9 hz10 hz11 h_k h_S h_4 h_8 h_g c58_23 hq_24) (by rw [(hfr.1 10 (by decide)), (hfr.2.1 5 (by decide))]; exact (g_X0_lookFrom_s_v19 u x S F Sc x2 uc hQ hQ7 hz8 hz9 hz10 hz11 h_k h_S h_4 h_8 h_g c58_23 hq_24))
          have hR9 := q_runV (l := l) (e := e0) (below := bl0) (meth := me0) (R := qR 2 0 0) (cells := 0) (slots := 0) (st0 := [.int x2, .ref (E.2.2 99)]) (rest := []) hF hU hS hA 1 1 0 99 rfl rfl rfl hM9 w_479 w_481 w_0 w_100 w_482 (by decide +kernel) ⟨Nat.le_of_ble_eq_true rfl, Nat.le_of_ble_eq_true rfl⟩ dX0_lookFrom_63 rfl hl.1 rfl (Nat.le_of_ble_eq_true rfl) ⟨Nat.le_of_ble_eq_true rfl, Nat.le_of_ble_eq_true rfl⟩
          refine q_callv hR9 hU.2.2.2 hS (fun u_25 H locs hw_26 hU hS => ?_)
          obtain ⟨⟨hw_26_f, hI⟩, hw_26⟩ := hw_26
          have hfo := hfr
          have hfr : qFc [14, 18] [] [] [5009] u u_25 := hfr.trans (hw_26_f.mono (by decide) (by decide) (by decide) (by decide))
          have e_28 : u_25.1 14 = (uc.1 14) := (hw_26_f.1 14 (by decide)).trans rfl
          have e_29 : u_25.1 18 = (uc.1 18) := (hw_26_f.1 18 (by decide)).trans rfl
          obtain ⟨S_30, hST, hq_31⟩ := hw_26
          have hq_31 : S_30 = c_tw ((u.2.1 5)) ((u.2.1 6)) ((u.2.1 7)) (c_se ((uc.1 14 : Int32)) ((u.1 13 : Int32))) (Sc) x2.toNatClampNeg := by rw [(hfo.1 13 (by decide)), (hfo.2.1 5 (by decide)), (hfo.2.1 6 (by decide)), (hfo.2.1 7 (by decide))] at hq_31; exact hq_31
          refine lv_iinc (v := x2 + 1) (lv' := [(2, .int (x2 + 1)), (0, .ref (E.2.2 99)), (1, .int x)]) hF.1 hF.2.1 dX0_lookFrom_66 hl (k := 2) rfl rfl (by decide) rfl (fun ls hl => ?_)
          refine lv_goto (tgt := 53) hF.1 hF.2.1 dX0_lookFrom_69 (by decide) ?_
          exact ih.2 S_30 (x2 + 1) u_25 _ _ _ hfr hI  (g_X0_lookFrom_s_v20 u x S F Sc x2 uc S_30 hQ hQ7 hz8 hz9 hz10 hz11 h_k h_S h_4 h_8 h_g c58_23 hq_24 hq_31) hST (by rw [show (u_25).1 14 = (uc.1 14) from e_28]; exact (g_X0_lookFrom_s_v21 u x S F Sc x2 uc S_30 hQ hQ7 hz8 hz9 hz10 hz11 h_k h_S h_4 h_8 h_g c58_23 hq_24 hq_31)) (by rw [show (u_25).1 18 = (uc.1 18) from e_29]; exact (g_X0_lookFrom_s_v22 u x S F Sc x2 uc S_30 hQ hQ7 hz8 hz9 hz10 hz11 h_k h_S h_4 h_8 h_g c58_23 hq_24 hq_31)) (g_X0_lookFrom_s_v23 u x S F Sc x2 uc S_30 hQ hQ7 hz8 hz9 hz10 hz11 h_k h_S h_4 h_8 h_g c58_23 hq_24 hq_31) (Nat.lt_of_lt_of_le (g_X0_lookFrom_s_v24 u x S F Sc x2 uc S_30 hQ hQ7 hz8 hz9 hz10 hz11 h_k h_S h_4 h_8 h_g c58_23 hq_24 hq_31) (Nat.lt_succ_iff.mp hmu)) hU hS (lv_sub hl [1, 2, 0] rfl)
  refine lv_aload_n hF.1 hF.2.1 dX0_lookFrom_0 rfl (lv_at hl 0 rfl) ?_
  refine lv_iload_n hF.1 hF.2.1 dX0_lookFrom_1 rfl (lv_at hl 1 rfl) ?_
  refine lv_aload_n hF.1 hF.2.1 dX0_lookFrom_2 rfl (lv_at hl 0 rfl) ?_
  refine q_get (v := .int (u.1 13)) hF hU dX0_lookFrom_3 1 0 13 13 99 rfl rfl rfl rfl inX0 (by decide) (by decide) w_179 rfl rfl ?_
  refine lv_icmp_ne (tgt := 13) hF.1 hF.2.1 dX0_lookFrom_6 (by decide) (fun c6_32 => ?_) (fun c6_32 => ?_)
  · refine lv_iload_n hF.1 hF.2.1 dX0_lookFrom_13 rfl (lv_at hl 1 rfl) ?_
    refine q_put hF hU hS dX0_lookFrom_14 1 0 14 14 99 rfl rfl rfl rfl inX0 tyX0 tyX0_ok nmX0 (by decide) (by decide) rfl w_180 rfl rfl rfl rfl (fun H locs hU hS => ?_)
    have hfr : qFc [14, 18] [] [] [5009] u (qsI u 14 x) := hfr.setI (by decide) (fun q => absurd q (by decide))
    have hI : IC E (qsI u 14 x) := hI.sI (by decide)
    have hST : qFD 9 S (qsI u 14 x) := hST.sI (by decide)
    refine lv_iconst (v := 0) hF.1 hF.2.1 dX0_lookFrom_17 (by decide) ?_
    refine lv_istore_n (lv' := [(2, .int 0), (0, .ref (E.2.2 99)), (1, .int x)]) hF.1 hF.2.1 dX0_lookFrom_18 rfl hl (by decide) rfl (fun ls hl => ?_)
    exact (main _).1 S (0 : Int32) (qsI u 14 x) _ _ _ hfr hI  (g_X0_lookFrom_s_v25 u x S F hQ hQ7 hz8 hz9 hz10 hz11 c6_32) hST (g_X0_lookFrom_s_v26 u x S F hQ hQ7 hz8 hz9 hz10 hz11 c6_32) (g_X0_lookFrom_s_v27 u x S F hQ hQ7 hz8 hz9 hz10 hz11 c6_32) (g_X0_lookFrom_s_v28 u x S F hQ hQ7 hz8 hz9 hz10 hz11 c6_32) (Nat.lt_succ_self _) hU hS (lv_sub hl [1, 2, 0] rfl)
  · refine lv_iconst (v := (-1)) hF.1 hF.2.1 dX0_lookFrom_9 (by decide) ?_
    refine lv_goto (tgt := 14) hF.1 hF.2.1 dX0_lookFrom_10 (by decide) ?_
    refine q_put hF hU hS dX0_lookFrom_14 1 0 14 14 99 rfl rfl rfl rfl inX0 tyX0 tyX0_ok nmX0 (by decide) (by decide) rfl w_180 rfl rfl rfl rfl (fun H locs hU hS => ?_)
    have hfr : qFc [14, 18] [] [] [5009] u (qsI u 14 (-1)) := hfr.setI (by decide) (fun q => absurd q (by decide))
    have hI : IC E (qsI u 14 (-1)) := hI.sI (by decide)
    have hST : qFD 9 S (qsI u 14 (-1)) := hST.sI (by decide)
    refine lv_iconst (v := 0) hF.1 hF.2.1 dX0_lookFrom_17 (by decide) ?_
    refine lv_istore_n (lv' := [(2, .int 0), (0, .ref (E.2.2 99)), (1, .int x)]) hF.1 hF.2.1 dX0_lookFrom_18 rfl hl (by decide) rfl (fun ls hl => ?_)
    exact (main _).1 S (0 : Int32) (qsI u 14 (-1)) _ _ _ hfr hI  (g_X0_lookFrom_s_v29 u x S F hQ hQ7 hz8 hz9 hz10 hz11 c6_32) hST (g_X0_lookFrom_s_v30 u x S F hQ hQ7 hz8 hz9 hz10 hz11 c6_32) (g_X0_lookFrom_s_v31 u x S F hQ hQ7 hz8 hz9 hz10 hz11 c6_32) (g_X0_lookFrom_s_v32 u x S F hQ hQ7 hz8 hz9 hz10 hz11 c6_32) (Nat.lt_succ_self _) hU hS (lv_sub hl [1, 2, 0] rfl)
set_option maxRecDepth 100000 in
theorem g_X11_view_s_v0 (u : qS) (x : Int32) (S : Nat → Int32) (F : Nat → Int32) (u_5 : qS) (S_8 : Nat → Int32) (hQ : qFD 9 S u) (hQ7 : qFD 7 F u) (hz8 : 0 ≤ u.1 8 ∧ u.1 8 ≤ 20) (hz9 : 0 ≤ u.1 9 ∧ u.1 9 ≤ 8) (hz10 : 0 ≤ u.1 10 ∧ u.1 10 ≤ 120) (hz12 : 0 ≤ u.1 12 ∧ u.1 12 ≤ 16) (b9_4 : (0 : Int32) ≤ x ∧ x ≤ (u.1 13)) (hq_9 : c_fa (u.2.1 5) (u.2.1 6) (u.2.1 7) (c_se (c_lf x (u.1 13)) (u.1 13)) (F) S_8 (u.1 10).toNatClampNeg (u.1 11).toNatClampNeg ∧ u_5.1 14 = c_lf x (u.1 13) ∧ u_5.1 18 = u.1 18 + 1) : ((0 ≤ x ∧ x ≤ u.1 13) ∧ (1 : Int32) = 1 ∧ c_fa (u.2.1 5) (u.2.1 6) (u.2.1 7) (c_se (c_lf x (u.1 13)) (u.1 13)) F S_8 (u.1 10).toNatClampNeg (u.1 11).toNatClampNeg ∧ (u_5.1 14 : Int32) = c_lf x (u.1 13) ∧ (u_5.1 18 : Int32) = u.1 18 + 1) ∨ (¬ (0 ≤ x ∧ x ≤ u.1 13) ∧ (1 : Int32) = 0 ∧ S_8 = S ∧ (u_5.1 14 : Int32) = u.1 14 ∧ (u_5.1 18 : Int32) = u.1 18) := by
  first | exact Or.inl ⟨by assumption, rfl, by assumption⟩ | exact Or.inr ⟨by assumption, rfl, rfl, rfl, rfl⟩
set_option maxRecDepth 100000 in
theorem g_X11_view_s_v1 (u : qS) (x : Int32) (S : Nat → Int32) (F : Nat → Int32) (hQ : qFD 9 S u) (hQ7 : qFD 7 F u) (hz8 : 0 ≤ u.1 8 ∧ u.1 8 ≤ 20) (hz9 : 0 ≤ u.1 9 ∧ u.1 9 ≤ 8) (hz10 : 0 ≤ u.1 10 ∧ u.1 10 ≤ 120) (hz12 : 0 ≤ u.1 12 ∧ u.1 12 ≤ 16) (b9_4 : ¬ ((0 : Int32) ≤ x ∧ x ≤ (u.1 13))) : ((0 ≤ x ∧ x ≤ u.1 13) ∧ (0 : Int32) = 1 ∧ c_fa (u.2.1 5) (u.2.1 6) (u.2.1 7) (c_se (c_lf x (u.1 13)) (u.1 13)) F S (u.1 10).toNatClampNeg (u.1 11).toNatClampNeg ∧ (u.1 14 : Int32) = c_lf x (u.1 13) ∧ (u.1 18 : Int32) = u.1 18 + 1) ∨ (¬ (0 ≤ x ∧ x ≤ u.1 13) ∧ (0 : Int32) = 0 ∧ S = S ∧ (u.1 14 : Int32) = u.1 14 ∧ (u.1 18 : Int32) = u.1 18) := by
  first | exact Or.inl ⟨by assumption, rfl, by assumption⟩ | exact Or.inr ⟨by assumption, rfl, rfl, rfl, rfl⟩
set_option maxHeartbeats 1000000 in
set_option maxRecDepth 100000 in
theorem g_X11_view_s (l : Launch) (E : qE) (A : Nat → Prop) (u : qS) (x : Int32) (S : Nat → Int32) (F : Nat → Int32) (hI : IC E u) (hQ : qFD 9 S u) (hQ7 : qFD 7 F u) : Met l yX11_view (uws yX11_view cX11_view 2 (some .boolean)) (qR 3 0 0) (qPc E A 0 u [.ref (E.2.2 1199), .int x]) (qQi E A 0 (fun r u1 => (qFc [14, 18] [] [] [5009] u u1 ∧ IC E u1) ∧ (∃ S1 : Nat → Int32, qFD 9 S1 u1 ∧ (((0 ≤ x ∧ x ≤ u.1 13) ∧ r = 1 ∧ c_fa (u.2.1 5) (u.2.1 6) (u.2.1 7) (c_se (c_lf x (u.1 13)) (u.1 13)) F S1 (u.1 10).toNatClampNeg (u.1 11).toNatClampNeg ∧ u1.1 14 = c_lf x (u.1 13) ∧ u1.1 18 = u.1 18 + 1) ∨ (¬ (0 ≤ x ∧ x ≤ u.1 13) ∧ r = 0 ∧ S1 = S ∧ u1.1 14 = u.1 14 ∧ u1.1 18 = u.1 18))))) 0 0 A := by
  refine q_met (own := RX11) (f := 3) [.ref (E.2.2 1199), .int x] (by decide) (Nat.le_of_ble_eq_true rfl) rfl ?_
  intro p0 e0 s0 m0 bl0 me0 cd0 ls hF hr hlocks hU hS hA hl
  have hl : lv_has ls 2 [(0, .ref (E.2.2 1199)), (1, .int x)] := hl
  have hz8 : 0 ≤ u.1 8 ∧ u.1 8 ≤ 20 := hI.1.s8
  have hz9 : 0 ≤ u.1 9 ∧ u.1 9 ≤ 8 := hI.1.s9
  have hz10 : 0 ≤ u.1 10 ∧ u.1 10 ≤ 120 := hI.1.s10
  have hz12 : 0 ≤ u.1 12 ∧ u.1 12 ≤ 16 := hI.1.s12
  have hfr : qFc [14, 18] [] [] [5009] u u := qFc.rf
  have hST := hQ
  refine lv_iload_n hF.1 hF.2.1 dX11_view_0 rfl (lv_at hl 1 rfl) ?_
  refine lv_iconst (v := 0) hF.1 hF.2.1 dX11_view_1 (by decide) ?_
  refine lv_aload_n hF.1 hF.2.1 dX11_view_2 rfl (lv_at hl 0 rfl) ?_
  refine q_get (v := .ref (E.2.2 99)) hF hU dX11_view_3 0 11 0 1100 1199 rfl rfl rfl rfl inX11 (by decide) (by decide) w_436 rfl rfl ?_
  refine q_get (v := .int (u.1 13)) hF hU dX11_view_6 1 0 13 13 99 rfl rfl rfl rfl inX0 (by decide) (by decide) w_178 rfl rfl ?_
  have hM9 := g_X11_isWithin l E A u x 0 (u.1 13)
  have hR9 := q_runS (l := l) (e := e0) (below := bl0) (meth := me0) (R := qR 3 0 0) (cells := 0) (slots := 0) (st0 := [.int (u.1 13), .int 0, .int x]) (rest := []) hF hU hS hA 3 hM9 w_468 w_469 w_99 w_470 (by decide +kernel) ⟨Nat.le_of_ble_eq_true rfl, Nat.le_of_ble_eq_true rfl⟩ dX11_view_9 rfl hl.1 rfl (Nat.le_of_ble_eq_true rfl) ⟨Nat.le_of_ble_eq_true rfl, Nat.le_of_ble_eq_true rfl⟩
  refine q_calli hR9 hU.2.2.2 hS (fun r_3 u_1 H locs hw_2 hU hS => ?_)
  obtain ⟨hw_2_e, hw_2⟩ := hw_2
  rw [hw_2_e] at hU
  have hw_2 : (r_3 = 1 ∧ ((0 : Int32) ≤ x ∧ x ≤ (u.1 13))) ∨ (r_3 = 0 ∧ (¬ ((0 : Int32) ≤ x ∧ x ≤ (u.1 13)))) := hw_2
  rcases hw_2 with ⟨rfl, b9_4⟩ | ⟨rfl, b9_4⟩
  · refine lv_if_ne (tgt := 17) hF.1 hF.2.1 dX11_view_12 (by decide) (fun _ => ?_) (fun h9 => absurd h9 (by decide))
    refine lv_aload_n hF.1 hF.2.1 dX11_view_17 rfl (lv_at hl 0 rfl) ?_
    refine q_get (v := .ref (E.2.2 99)) hF hU dX11_view_18 0 11 0 1100 1199 rfl rfl rfl rfl inX11 (by decide) (by decide) w_436 rfl rfl ?_
    refine lv_iload_n hF.1 hF.2.1 dX11_view_21 rfl (lv_at hl 1 rfl) ?_
    have hM9 := g_X0_lookFrom_s l E A u x S F hI hST hQ7
    have hR9 := q_runV (l := l) (e := e0) (below := bl0) (meth := me0) (R := qR 3 0 0) (cells := 0) (slots := 0) (st0 := [.int x, .ref (E.2.2 99)]) (rest := []) hF hU hS hA 1 1 0 99 rfl rfl rfl hM9 w_475 w_476 w_477 w_100 w_478 (by decide +kernel) ⟨Nat.le_of_ble_eq_true rfl, Nat.le_of_ble_eq_true rfl⟩ dX11_view_22 rfl hl.1 rfl (Nat.le_of_ble_eq_true rfl) ⟨Nat.le_of_ble_eq_true rfl, Nat.le_of_ble_eq_true rfl⟩
    refine q_callv hR9 hU.2.2.2 hS (fun u_5 H locs hw_6 hU hS => ?_)
    obtain ⟨⟨hw_6_f, hI⟩, hw_6⟩ := hw_6
    have hfo := hfr
    have hfr : qFc [14, 18] [] [] [5009] u u_5 := hfr.trans (hw_6_f.mono (by decide) (by decide) (by decide) (by decide))
    obtain ⟨S_8, hST, hq_9⟩ := hw_6
    have hq_9 : c_fa (u.2.1 5) (u.2.1 6) (u.2.1 7) (c_se (c_lf x (u.1 13)) (u.1 13)) (F) S_8 (u.1 10).toNatClampNeg (u.1 11).toNatClampNeg ∧ u_5.1 14 = c_lf x (u.1 13) ∧ u_5.1 18 = u.1 18 + 1 := hq_9
    refine lv_iconst (v := 1) hF.1 hF.2.1 dX11_view_25 (by decide) ?_
    exact q_iret hF hr (by decide) hlocks hU hS dX11_view_26 ⟨⟨hfr, hI⟩, ⟨S_8, hST, (g_X11_view_s_v0 u x S F u_5 S_8 hQ hQ7 hz8 hz9 hz10 hz12 b9_4 hq_9)⟩⟩
  · refine lv_if_ne (tgt := 17) hF.1 hF.2.1 dX11_view_12 (by decide) (fun h9 => absurd (by decide) h9) (fun _ => ?_)
    refine lv_iconst (v := 0) hF.1 hF.2.1 dX11_view_15 (by decide) ?_
    exact q_iret hF hr (by decide) hlocks hU hS dX11_view_16 ⟨⟨hfr, hI⟩, ⟨S, hST, (g_X11_view_s_v1 u x S F hQ hQ7 hz8 hz9 hz10 hz12 b9_4)⟩⟩
set_option maxRecDepth 100000 in
theorem g_X0_keepAppeal_s_v0 (u : qS) (v : Nat) (S : Nat → Int32) (n_v : Int32) (hQ : qFD 9 S u) (hk_v : qNm u v n_v) (hc : (u.1 11).toInt < 60) (hz8 : 0 ≤ u.1 8 ∧ u.1 8 ≤ 20) (hz9 : 0 ≤ u.1 9 ∧ u.1 9 ≤ 8) (hz10 : 0 ≤ u.1 10 ∧ u.1 10 ≤ 120) (hz11 : 0 ≤ u.1 11 ∧ u.1 11 ≤ 60) : vp_in (u.1 11) 60 := by
  refine g_in ?_ ?_ <;> ((try simp only [g_m1, Int32.lt_iff_toInt_lt, Int32.le_iff_toInt_le, ← Int32.toInt_inj, Int32.toInt_add, Int32.toInt_sub, Int32.toInt_mul, Int32.toInt_neg, Int32.reduceToInt, g_bm, g_bm'] at *); omega)
set_option maxRecDepth 100000 in
theorem g_X0_keepAppeal_s_v1 (u : qS) (v : Nat) (S : Nat → Int32) (n_v : Int32) (f_5 : Nat → Int32) (hQ : qFD 9 S u) (hk_v : qNm u v n_v) (hc : (u.1 11).toInt < 60) (hz8 : 0 ≤ u.1 8 ∧ u.1 8 ≤ 20) (hz9 : 0 ≤ u.1 9 ∧ u.1 9 ≤ 8) (hz10 : 0 ≤ u.1 10 ∧ u.1 10 ≤ 120) (hz11 : 0 ≤ u.1 11 ∧ u.1 11 ≤ 60) (hf_5 : f_5 = upd (u.2.1 5) (u.1 11 : Int32).toNatClampNeg n_v) : vp_in (u.1 11) 60 := by
  refine g_in ?_ ?_ <;> ((try simp only [g_m1, Int32.lt_iff_toInt_lt, Int32.le_iff_toInt_le, ← Int32.toInt_inj, Int32.toInt_add, Int32.toInt_sub, Int32.toInt_mul, Int32.toInt_neg, Int32.reduceToInt, g_bm, g_bm'] at *); omega)
set_option maxRecDepth 100000 in
theorem g_X0_keepAppeal_s_v2 (u : qS) (v : Nat) (x : Int32) (S : Nat → Int32) (n_v : Int32) (f_5 : Nat → Int32) (f_6 : Nat → Int32) (hQ : qFD 9 S u) (hk_v : qNm u v n_v) (hc : (u.1 11).toInt < 60) (hz8 : 0 ≤ u.1 8 ∧ u.1 8 ≤ 20) (hz9 : 0 ≤ u.1 9 ∧ u.1 9 ≤ 8) (hz10 : 0 ≤ u.1 10 ∧ u.1 10 ≤ 120) (hz11 : 0 ≤ u.1 11 ∧ u.1 11 ≤ 60) (hf_5 : f_5 = upd (u.2.1 5) (u.1 11 : Int32).toNatClampNeg n_v) (hf_6 : f_6 = upd (u.2.1 6) (u.1 11 : Int32).toNatClampNeg x) : vp_in (u.1 11) 60 := by
  refine g_in ?_ ?_ <;> ((try simp only [g_m1, Int32.lt_iff_toInt_lt, Int32.le_iff_toInt_le, ← Int32.toInt_inj, Int32.toInt_add, Int32.toInt_sub, Int32.toInt_mul, Int32.toInt_neg, Int32.reduceToInt, g_bm, g_bm'] at *); omega)
set_option maxRecDepth 100000 in
theorem g_X0_keepAppeal_s_v3 (u : qS) (v : Nat) (x : Int32) (S : Nat → Int32) (n_v : Int32) (f_5 : Nat → Int32) (f_6 : Nat → Int32) (f_7 : Nat → Int32) (hQ : qFD 9 S u) (hk_v : qNm u v n_v) (hc : (u.1 11).toInt < 60) (hz8 : 0 ≤ u.1 8 ∧ u.1 8 ≤ 20) (hz9 : 0 ≤ u.1 9 ∧ u.1 9 ≤ 8) (hz10 : 0 ≤ u.1 10 ∧ u.1 10 ≤ 120) (hz11 : 0 ≤ u.1 11 ∧ u.1 11 ≤ 60) (hf_5 : f_5 = upd (u.2.1 5) (u.1 11 : Int32).toNatClampNeg n_v) (hf_6 : f_6 = upd (u.2.1 6) (u.1 11 : Int32).toNatClampNeg x) (hf_7 : f_7 = upd (u.2.1 7) (u.1 11 : Int32).toNatClampNeg (u.1 13)) : 0 ≤ ((u.1 11 : Int32)).toInt ∧ ((u.1 11 : Int32)).toInt < 60 := by
  (try simp only [g_m1, Int32.lt_iff_toInt_lt, Int32.le_iff_toInt_le, ← Int32.toInt_inj, Int32.reduceToInt] at *); omega
set_option maxRecDepth 100000 in
theorem g_X0_keepAppeal_s_v4 (u : qS) (v : Nat) (x : Int32) (S : Nat → Int32) (n_v : Int32) (f_5 : Nat → Int32) (f_6 : Nat → Int32) (f_7 : Nat → Int32) (hQ : qFD 9 S u) (hk_v : qNm u v n_v) (hc : (u.1 11).toInt < 60) (hz8 : 0 ≤ u.1 8 ∧ u.1 8 ≤ 20) (hz9 : 0 ≤ u.1 9 ∧ u.1 9 ≤ 8) (hz10 : 0 ≤ u.1 10 ∧ u.1 10 ≤ 120) (hz11 : 0 ≤ u.1 11 ∧ u.1 11 ≤ 60) (hf_5 : f_5 = upd (u.2.1 5) (u.1 11 : Int32).toNatClampNeg n_v) (hf_6 : f_6 = upd (u.2.1 6) (u.1 11 : Int32).toNatClampNeg x) (hf_7 : f_7 = upd (u.2.1 7) (u.1 11 : Int32).toNatClampNeg (u.1 13)) : 0 ≤ f_5 ((u.1 11 : Int32)).toNatClampNeg ∧ f_5 ((u.1 11 : Int32)).toNatClampNeg < (u.1 10 : Int32) := by
  subst hf_5; subst hf_6; subst hf_7; rw [pk_us]; exact hk_v.1
set_option maxRecDepth 100000 in
theorem g_X0_keepAppeal_s_v5 (u : qS) (v : Nat) (x : Int32) (S : Nat → Int32) (n_v : Int32) (f_5 : Nat → Int32) (f_6 : Nat → Int32) (f_7 : Nat → Int32) (S_18 : Nat → Int32) (hQ : qFD 9 S u) (hk_v : qNm u v n_v) (hc : (u.1 11).toInt < 60) (hz8 : 0 ≤ u.1 8 ∧ u.1 8 ≤ 20) (hz9 : 0 ≤ u.1 9 ∧ u.1 9 ≤ 8) (hz10 : 0 ≤ u.1 10 ∧ u.1 10 ≤ 120) (hz11 : 0 ≤ u.1 11 ∧ u.1 11 ≤ 60) (hf_5 : f_5 = upd (u.2.1 5) (u.1 11 : Int32).toNatClampNeg n_v) (hf_6 : f_6 = upd (u.2.1 6) (u.1 11 : Int32).toNatClampNeg x) (hf_7 : f_7 = upd (u.2.1 7) (u.1 11 : Int32).toNatClampNeg (u.1 13)) (hq_19 : S_18 = c_tw (f_5) (f_6) (f_7) (c_se ((u.1 14 : Int32)) ((u.1 13 : Int32))) (S) (u.1 11).toNatClampNeg) : 0 ≤ ((u.1 11) + 1 : Int32) ∧ ((u.1 11) + 1 : Int32) ≤ 60 := by
  first | omega | ((try simp only [g_m1, Int32.lt_iff_toInt_lt, Int32.le_iff_toInt_le, ← Int32.toInt_inj, Int32.reduceToInt] at *); omega) | ((try have ez0 : ((u.1 11) + 1 : Int32).toInt = (u.1 11 : Int32).toInt + (1 : Int32).toInt := g_add (by (try simp only [g_m1, Int32.lt_iff_toInt_lt, Int32.le_iff_toInt_le, ← Int32.toInt_inj, Int32.reduceToInt] at *); omega) (by (try simp only [g_m1, Int32.lt_iff_toInt_lt, Int32.le_iff_toInt_le, ← Int32.toInt_inj, Int32.reduceToInt] at *); omega)); (try simp only [g_m1, Int32.lt_iff_toInt_lt, Int32.le_iff_toInt_le, ← Int32.toInt_inj, Int32.reduceToInt] at *); omega) | ((try simp only [g_m1, Int32.lt_iff_toInt_lt, Int32.le_iff_toInt_le, ← Int32.toInt_inj, Int32.toInt_add, Int32.toInt_sub, Int32.toInt_mul, Int32.toInt_neg, Int32.reduceToInt, g_bm, g_bm'] at *); omega) | (have qr2 := g_rng x; have qr4 := g_rng n_v; (try simp only [g_m1, Int32.lt_iff_toInt_lt, Int32.le_iff_toInt_le, ← Int32.toInt_inj, Int32.toInt_add, Int32.toInt_sub, Int32.toInt_mul, Int32.toInt_neg, Int32.reduceToInt, g_bm, g_bm'] at *); omega) | (simp only [g_m1, Int32.lt_iff_toInt_lt, Int32.le_iff_toInt_le, ← Int32.toInt_inj, Int32.toInt_add, Int32.toInt_sub, Int32.toInt_mul, Int32.toInt_neg, Int32.reduceToInt, g_bm, g_bm'] at *; simp at *; omega) | (simp_all; done)
set_option maxRecDepth 100000 in
theorem g_X0_keepAppeal_s_v6 (u : qS) (v : Nat) (x : Int32) (S : Nat → Int32) (n_v : Int32) (f_5 : Nat → Int32) (f_6 : Nat → Int32) (f_7 : Nat → Int32) (S_18 : Nat → Int32) (hQ : qFD 9 S u) (hk_v : qNm u v n_v) (hc : (u.1 11).toInt < 60) (hz8 : 0 ≤ u.1 8 ∧ u.1 8 ≤ 20) (hz9 : 0 ≤ u.1 9 ∧ u.1 9 ≤ 8) (hz10 : 0 ≤ u.1 10 ∧ u.1 10 ≤ 120) (hz11 : 0 ≤ u.1 11 ∧ u.1 11 ≤ 60) (hf_5 : f_5 = upd (u.2.1 5) (u.1 11 : Int32).toNatClampNeg n_v) (hf_6 : f_6 = upd (u.2.1 6) (u.1 11 : Int32).toNatClampNeg x) (hf_7 : f_7 = upd (u.2.1 7) (u.1 11 : Int32).toNatClampNeg (u.1 13)) (hq_19 : S_18 = c_tw (f_5) (f_6) (f_7) (c_se ((u.1 14 : Int32)) ((u.1 13 : Int32))) (S) (u.1 11).toNatClampNeg) : ((u.1 11) + 1 : Int32).toInt = (u.1 11).toInt + 1 := by
  exact (g_up (by (try simp only [g_m1, Int32.lt_iff_toInt_lt, Int32.le_iff_toInt_le, ← Int32.toInt_inj, Int32.reduceToInt] at *); omega) (by (try simp only [g_m1, Int32.lt_iff_toInt_lt, Int32.le_iff_toInt_le, ← Int32.toInt_inj, Int32.reduceToInt] at *); omega)).1
set_option maxRecDepth 100000 in
theorem g_X0_keepAppeal_s_v7 (u : qS) (v : Nat) (x : Int32) (S : Nat → Int32) (n_v : Int32) (f_5 : Nat → Int32) (f_6 : Nat → Int32) (f_7 : Nat → Int32) (S_18 : Nat → Int32) (hQ : qFD 9 S u) (hk_v : qNm u v n_v) (hc : (u.1 11).toInt < 60) (hz8 : 0 ≤ u.1 8 ∧ u.1 8 ≤ 20) (hz9 : 0 ≤ u.1 9 ∧ u.1 9 ≤ 8) (hz10 : 0 ≤ u.1 10 ∧ u.1 10 ≤ 120) (hz11 : 0 ≤ u.1 11 ∧ u.1 11 ≤ 60) (hf_5 : f_5 = upd (u.2.1 5) (u.1 11 : Int32).toNatClampNeg n_v) (hf_6 : f_6 = upd (u.2.1 6) (u.1 11 : Int32).toNatClampNeg x) (hf_7 : f_7 = upd (u.2.1 7) (u.1 11 : Int32).toNatClampNeg (u.1 13)) (hq_19 : S_18 = c_tw (f_5) (f_6) (f_7) (c_se ((u.1 14 : Int32)) ((u.1 13 : Int32))) (S) (u.1 11).toNatClampNeg) : 0 ≤ f_5 (u.1 11).toNatClampNeg ∧ f_5 (u.1 11).toNatClampNeg < u.1 10 := by
  subst hf_5; subst hf_6; subst hf_7; rw [pk_us]; first | assumption | exact hk_v.1
set_option maxRecDepth 100000 in
theorem g_X0_keepAppeal_s_v8 (u : qS) (v : Nat) (x : Int32) (S : Nat → Int32) (n_v : Int32) (f_5 : Nat → Int32) (f_6 : Nat → Int32) (f_7 : Nat → Int32) (S_18 : Nat → Int32) (hQ : qFD 9 S u) (hk_v : qNm u v n_v) (hc : (u.1 11).toInt < 60) (hz8 : 0 ≤ u.1 8 ∧ u.1 8 ≤ 20) (hz9 : 0 ≤ u.1 9 ∧ u.1 9 ≤ 8) (hz10 : 0 ≤ u.1 10 ∧ u.1 10 ≤ 120) (hz11 : 0 ≤ u.1 11 ∧ u.1 11 ≤ 60) (hf_5 : f_5 = upd (u.2.1 5) (u.1 11 : Int32).toNatClampNeg n_v) (hf_6 : f_6 = upd (u.2.1 6) (u.1 11 : Int32).toNatClampNeg x) (hf_7 : f_7 = upd (u.2.1 7) (u.1 11 : Int32).toNatClampNeg (u.1 13)) (hq_19 : S_18 = c_tw (f_5) (f_6) (f_7) (c_se ((u.1 14 : Int32)) ((u.1 13 : Int32))) (S) (u.1 11).toNatClampNeg) : S_18 = c_tw (f_5) (f_6) (f_7) (c_se (u.1 14) (u.1 13)) S (u.1 11).toNatClampNeg ∧ ((u.1 11) + 1 : Int32) = u.1 11 + 1 ∧ f_5 = upd (u.2.1 5) (u.1 11).toNatClampNeg n_v ∧ f_6 = upd (u.2.1 6) (u.1 11).toNatClampNeg x ∧ f_7 = upd (u.2.1 7) (u.1 11).toNatClampNeg (u.1 13) ∧ ((u.1 18) + 1 : Int32) = u.1 18 + 1 := by
  refine ⟨?_, rfl, ?_, ?_, ?_, rfl⟩ <;> assumption
set_option maxHeartbeats 1000000 in
set_option maxRecDepth 100000 in
theorem g_X0_keepAppeal_s (l : Launch) (E : qE) (A : Nat → Prop) (u : qS) (v : Nat) (x : Int32) (S : Nat → Int32) (n_v : Int32) (hI : IC E u) (hv : qRv u v) (hQ : qFD 9 S u) (hk_v : qNm u v n_v) (hc : (u.1 11).toInt < 60) : Met l yX0_keepAppeal (uws yX0_keepAppeal cX0_keepAppeal 3 none) (qR 2 0 0) (qPc E A 0 u [.ref (E.2.2 99), .ref v, .int x]) (qQv E A 0 (fun u1 => (qFc [11, 18] [5, 6, 7] [] [5009] u u1 ∧ IC E u1) ∧ (∃ S1 : Nat → Int32, qFD 9 S1 u1 ∧ (S1 = c_tw (u1.2.1 5) (u1.2.1 6) (u1.2.1 7) (c_se (u.1 14) (u.1 13)) S (u.1 11).toNatClampNeg ∧ u1.1 11 = u.1 11 + 1 ∧ u1.2.1 5 = upd (u.2.1 5) (u.1 11).toNatClampNeg n_v ∧ u1.2.1 6 = upd (u.2.1 6) (u.1 11).toNatClampNeg x ∧ u1.2.1 7 = upd (u.2.1 7) (u.1 11).toNatClampNeg (u.1 13) ∧ u1.1 18 = u.1 18 + 1)))) 0 0 A := by
  refine q_met (own := RX0) (f := 2) [.ref (E.2.2 99), .ref v, .int x] (by decide) (Nat.le_of_ble_eq_true rfl) rfl ?_
  intro p0 e0 s0 m0 bl0 me0 cd0 ls hF hr hlocks hU hS hA hl
  have hl : lv_has ls 3 [(0, .ref (E.2.2 99)), (1, .ref v), (2, .int x)] := hl
  have hz8 : 0 ≤ u.1 8 ∧ u.1 8 ≤ 20 := hI.1.s8
  have hz9 : 0 ≤ u.1 9 ∧ u.1 9 ≤ 8 := hI.1.s9
  have hz10 : 0 ≤ u.1 10 ∧ u.1 10 ≤ 120 := hI.1.s10
  have hz11 : 0 ≤ u.1 11 ∧ u.1 11 ≤ 60 := hI.1.s11
  have hfr : qFc [11, 18] [5, 6, 7] [] [5009] u u := qFc.rf
  have hST := hQ
  refine lv_aload_n hF.1 hF.2.1 dX0_keepAppeal_0 rfl (lv_at hl 0 rfl) ?_
  refine q_get (v := .ref (E.2.2 5)) hF hU dX0_keepAppeal_1 1 0 5 5 99 rfl rfl rfl rfl inX0 (by decide) (by decide) w_158 rfl rfl ?_
  refine lv_aload_n hF.1 hF.2.1 dX0_keepAppeal_4 rfl (lv_at hl 0 rfl) ?_
  refine q_get (v := .int (u.1 11)) hF hU dX0_keepAppeal_5 1 0 11 11 99 rfl rfl rfl rfl inX0 (by decide) (by decide) w_173 rfl rfl ?_
  refine lv_aload_n hF.1 hF.2.1 dX0_keepAppeal_8 rfl (lv_at hl 1 rfl) ?_
  obtain ⟨k_1, fs_2, hd_3, hv_4⟩ := hk_v.2.2
  refine q_getd (v := .int (n_v)) hF hU dX0_keepAppeal_9 k_1 10 0 hd_3 rfl inX10 (by decide) w_585 rfl hv_4 ?_
  refine q_iast hF hU hS dX0_keepAppeal_12 5 5 rfl rfl (g_X0_keepAppeal_s_v0 u v S n_v hQ hk_v hc hz8 hz9 hz10 hz11) (fun f_5 H locs hg9 hU hS => ?_)
  have hf_5 : f_5 = upd (u.2.1 5) (u.1 11 : Int32).toNatClampNeg n_v := hg9
  have hfr : qFc [11, 18] [5, 6, 7] [] [5009] u (qsF u 5 f_5) := hfr.setF (by decide)
  have hI : IC E (qsF u 5 f_5) := (by rw [hf_5]; exact hI.w5)
  have hST : qFD 9 S (qsF u 5 f_5) := hST
  refine lv_aload_n hF.1 hF.2.1 dX0_keepAppeal_13 rfl (lv_at hl 0 rfl) ?_
  refine q_get (v := .ref (E.2.2 6)) hF hU dX0_keepAppeal_14 1 0 6 6 99 rfl rfl rfl rfl inX0 (by decide) (by decide) w_159 rfl rfl ?_
  refine lv_aload_n hF.1 hF.2.1 dX0_keepAppeal_17 rfl (lv_at hl 0 rfl) ?_
  refine q_get (v := .int (u.1 11)) hF hU dX0_keepAppeal_18 1 0 11 11 99 rfl rfl rfl rfl inX0 (by decide) (by decide) w_173 rfl rfl ?_
  refine lv_iload_n hF.1 hF.2.1 dX0_keepAppeal_21 rfl (lv_at hl 2 rfl) ?_
  refine q_iast hF hU hS dX0_keepAppeal_22 6 6 rfl rfl (g_X0_keepAppeal_s_v1 u v S n_v f_5 hQ hk_v hc hz8 hz9 hz10 hz11 hf_5) (fun f_6 H locs hg9 hU hS => ?_)
  have hf_6 : f_6 = upd (u.2.1 6) (u.1 11 : Int32).toNatClampNeg x := hg9
  have hfr : qFc [11, 18] [5, 6, 7] [] [5009] u (qsF (qsF u 5 f_5) 6 f_6) := hfr.setF (by decide)
  have hI : IC E (qsF (qsF u 5 f_5) 6 f_6) := hI.sF (by decide)
  have hST : qFD 9 S (qsF (qsF u 5 f_5) 6 f_6) := hST
  refine lv_aload_n hF.1 hF.2.1 dX0_keepAppeal_23 rfl (lv_at hl 0 rfl) ?_
  refine q_get (v := .ref (E.2.2 7)) hF hU dX0_keepAppeal_24 1 0 7 7 99 rfl rfl rfl rfl inX0 (by decide) (by decide) w_160 rfl rfl ?_
  refine lv_aload_n hF.1 hF.2.1 dX0_keepAppeal_27 rfl (lv_at hl 0 rfl) ?_
  refine q_get (v := .int (u.1 11)) hF hU dX0_keepAppeal_28 1 0 11 11 99 rfl rfl rfl rfl inX0 (by decide) (by decide) w_173 rfl rfl ?_
  refine lv_aload_n hF.1 hF.2.1 dX0_keepAppeal_31 rfl (lv_at hl 0 rfl) ?_
  refine q_get (v := .int (u.1 13)) hF hU dX0_keepAppeal_32 1 0 13 13 99 rfl rfl rfl rfl inX0 (by decide) (by decide) w_179 rfl (congrArg Value.int (hfr.1 13 (by decide))) ?_
  refine q_iast hF hU hS dX0_keepAppeal_35 7 7 rfl rfl (g_X0_keepAppeal_s_v2 u v x S n_v f_5 f_6 hQ hk_v hc hz8 hz9 hz10 hz11 hf_5 hf_6) (fun f_7 H locs hg9 hU hS => ?_)
  have hf_7 : f_7 = upd (u.2.1 7) (u.1 11 : Int32).toNatClampNeg (u.1 13) := hg9
  have hfr : qFc [11, 18] [5, 6, 7] [] [5009] u (qsF (qsF (qsF u 5 f_5) 6 f_6) 7 f_7) := hfr.setF (by decide)
  have hI : IC E (qsF (qsF (qsF u 5 f_5) 6 f_6) 7 f_7) := hI.sF (by decide)
  have hST : qFD 9 S (qsF (qsF (qsF u 5 f_5) 6 f_6) 7 f_7) := hST
  refine lv_aload_n hF.1 hF.2.1 dX0_keepAppeal_36 rfl (lv_at hl 0 rfl) ?_
  refine lv_aload_n hF.1 hF.2.1 dX0_keepAppeal_37 rfl (lv_at hl 0 rfl) ?_
  refine q_get (v := .int (u.1 11)) hF hU dX0_keepAppeal_38 1 0 11 11 99 rfl rfl rfl rfl inX0 (by decide) (by decide) w_173 rfl rfl ?_
  have hM9 := g_X0_turnIfSeen_s l E A (qsF (qsF (qsF u 5 f_5) 6 f_6) 7 f_7) (u.1 11) S hI hST (g_X0_keepAppeal_s_v3 u v x S n_v f_5 f_6 f_7 hQ hk_v hc hz8 hz9 hz10 hz11 hf_5 hf_6 hf_7) (by rw [(hfr.1 10 (by decide))]; exact (g_X0_keepAppeal_s_v4 u v x S n_v f_5 f_6 f_7 hQ hk_v hc hz8 hz9 hz10 hz11 hf_5 hf_6 hf_7))
  have hR9 := q_runV (l := l) (e := e0) (below := bl0) (meth := me0) (R := qR 2 0 0) (cells := 0) (slots := 0) (st0 := [.int (u.1 11), .ref (E.2.2 99)]) (rest := []) hF hU hS hA 1 1 0 99 rfl rfl rfl hM9 w_479 w_481 w_0 w_100 w_482 (by decide +kernel) ⟨Nat.le_of_ble_eq_true rfl, Nat.le_of_ble_eq_true rfl⟩ dX0_keepAppeal_41 rfl hl.1 rfl (Nat.le_of_ble_eq_true rfl) ⟨Nat.le_of_ble_eq_true rfl, Nat.le_of_ble_eq_true rfl⟩
  refine q_callv hR9 hU.2.2.2 hS (fun u_8 H locs hw_9 hU hS => ?_)
  obtain ⟨⟨hw_9_f, hI⟩, hw_9⟩ := hw_9
  have hfo := hfr
  have hfr : qFc [11, 18] [5, 6, 7] [] [5009] u u_8 := hfr.trans (hw_9_f.mono (by decide) (by decide) (by decide) (by decide))
  have e_11 : u_8.1 11 = (u.1 11) := (hw_9_f.1 11 (by decide)).trans rfl
  have e_12 : u_8.1 18 = (u.1 18) := (hw_9_f.1 18 (by decide)).trans rfl
  have e_13 : u_8.2.1 5 = f_5 := (hw_9_f.2.1 5 (by decide)).trans rfl
  have e_14 : u_8.2.1 6 = f_6 := (hw_9_f.2.1 6 (by decide)).trans rfl
  have e_15 : u_8.2.1 7 = f_7 := (hw_9_f.2.1 7 (by decide)).trans rfl
  have hr_16 : qRv u_8 v := hw_9_f.v _ hv
  have hK_17 : qNm u_8 v n_v := qNm.fr (by exact hk_v) hw_9_f (by decide) (by decide) (by decide)
  obtain ⟨S_18, hST, hq_19⟩ := hw_9
  have hq_19 : S_18 = c_tw (f_5) (f_6) (f_7) (c_se ((u.1 14 : Int32)) ((u.1 13 : Int32))) (S) (u.1 11).toNatClampNeg := by rw [(hfo.1 14 (by decide)), (hfo.1 13 (by decide))] at hq_19; exact hq_19
  refine lv_aload_n hF.1 hF.2.1 dX0_keepAppeal_44 rfl (lv_at hl 0 rfl) ?_
  refine lv_dup hF.1 hF.2.1 dX0_keepAppeal_45 rfl ?_
  refine q_get (v := .int (u.1 11)) hF hU dX0_keepAppeal_46 1 0 11 11 99 rfl rfl rfl rfl inX0 (by decide) (by decide) w_173 rfl (congrArg Value.int e_11) ?_
  refine lv_iconst (v := 1) hF.1 hF.2.1 dX0_keepAppeal_49 (by decide) ?_
  refine lv_iadd hF.1 hF.2.1 dX0_keepAppeal_50 ?_
  refine q_put hF hU hS dX0_keepAppeal_51 1 0 11 11 99 rfl rfl rfl rfl inX0 tyX0 tyX0_ok nmX0 (by decide) (by decide) rfl w_173 rfl rfl rfl rfl (fun H locs hU hS => ?_)
  have hfr : qFc [11, 18] [5, 6, 7] [] [5009] u (qsI u_8 11 ((u.1 11) + 1)) := hfr.setI (by decide) (fun q => absurd q (by decide))
  have hI : IC E (qsI u_8 11 ((u.1 11) + 1)) := hI.s11 (g_X0_keepAppeal_s_v5 u v x S n_v f_5 f_6 f_7 S_18 hQ hk_v hc hz8 hz9 hz10 hz11 hf_5 hf_6 hf_7 hq_19) (fun i a b => (g_lt1 (g_X0_keepAppeal_s_v6 u v x S n_v f_5 f_6 f_7 S_18 hQ hk_v hc hz8 hz9 hz10 hz11 hf_5 hf_6 hf_7 hq_19) b).elim (fun q => hI.r5 i ⟨a, by rw [show u_8.1 11 = u.1 11 from e_11]; exact q⟩) (fun q => by rw [q]; rw [show u_8.2.1 5 = f_5 from e_13, show u_8.1 10 = u.1 10 from (hfr.1 10 (by decide))]; exact (g_X0_keepAppeal_s_v7 u v x S n_v f_5 f_6 f_7 S_18 hQ hk_v hc hz8 hz9 hz10 hz11 hf_5 hf_6 hf_7 hq_19)))
  have hST : qFD 9 S_18 (qsI u_8 11 ((u.1 11) + 1)) := hST.sI (by decide)
  refine lv_aload_n hF.1 hF.2.1 dX0_keepAppeal_54 rfl (lv_at hl 0 rfl) ?_
  refine lv_dup hF.1 hF.2.1 dX0_keepAppeal_55 rfl ?_
  refine q_get (v := .int (u.1 18)) hF hU dX0_keepAppeal_56 1 0 18 18 99 rfl rfl rfl rfl inX0 (by decide) (by decide) w_191 rfl (congrArg Value.int e_12) ?_
  refine lv_iconst (v := 1) hF.1 hF.2.1 dX0_keepAppeal_59 (by decide) ?_
  refine lv_iadd hF.1 hF.2.1 dX0_keepAppeal_60 ?_
  refine q_put hF hU hS dX0_keepAppeal_61 1 0 18 18 99 rfl rfl rfl rfl inX0 tyX0 tyX0_ok nmX0 (by decide) (by decide) rfl w_191 rfl rfl rfl rfl (fun H locs hU hS => ?_)
  have hfr : qFc [11, 18] [5, 6, 7] [] [5009] u (qsI (qsI u_8 11 ((u.1 11) + 1)) 18 ((u.1 18) + 1)) := hfr.setI (by decide) (fun q => absurd q (by decide))
  have hI : IC E (qsI (qsI u_8 11 ((u.1 11) + 1)) 18 ((u.1 18) + 1)) := hI.sI (by decide)
  have hST : qFD 9 S_18 (qsI (qsI u_8 11 ((u.1 11) + 1)) 18 ((u.1 18) + 1)) := hST.sI (by decide)
  exact q_vret hF hr hlocks hU hS dX0_keepAppeal_64 ⟨⟨hfr, hI⟩, by first | (rw [show (qsI (qsI u_8 11 ((u.1 11) + 1)) 18 ((u.1 18) + 1)).2.1 5 = f_5 from e_13, show (qsI (qsI u_8 11 ((u.1 11) + 1)) 18 ((u.1 18) + 1)).2.1 6 = f_6 from e_14, show (qsI (qsI u_8 11 ((u.1 11) + 1)) 18 ((u.1 18) + 1)).2.1 7 = f_7 from e_15]; exact ⟨S_18, hST, (g_X0_keepAppeal_s_v8 u v x S n_v f_5 f_6 f_7 S_18 hQ hk_v hc hz8 hz9 hz10 hz11 hf_5 hf_6 hf_7 hq_19)⟩) | rw [show (qsI (qsI u_8 11 ((u.1 11) + 1)) 18 ((u.1 18) + 1)).2.1 5 = f_5 from e_13, show (qsI (qsI u_8 11 ((u.1 11) + 1)) 18 ((u.1 18) + 1)).2.1 6 = f_6 from e_14, show (qsI (qsI u_8 11 ((u.1 11) + 1)) 18 ((u.1 18) + 1)).2.1 7 = f_7 from e_15]⟩
set_option maxRecDepth 100000 in
theorem g_X11_appeal_s_v0 (u : qS) (x : Int32) (y : Int32) (S : Nat → Int32) (hQ : qFD 9 S u) (hz8 : 0 ≤ u.1 8 ∧ u.1 8 ≤ 20) (hz9 : 0 ≤ u.1 9 ∧ u.1 9 ≤ 8) (hz10 : 0 ≤ u.1 10 ∧ u.1 10 ≤ 120) (hz11 : 0 ≤ u.1 11 ∧ u.1 11 ≤ 60) (b11_4 : (0 : Int32) ≤ x ∧ x ≤ ((u.1 10) - 1)) (b21_8 : (0 : Int32) ≤ y ∧ y ≤ (11 : Int32)) : 0 ≤ x ∧ x < (u.1 10) := by
  first | omega | ((try simp only [g_m1, Int32.lt_iff_toInt_lt, Int32.le_iff_toInt_le, ← Int32.toInt_inj, Int32.reduceToInt] at *); omega) | ((try have ez0 : ((u.1 10) - 1 : Int32).toInt = (u.1 10 : Int32).toInt - (1 : Int32).toInt := g_sub (by (try simp only [g_m1, Int32.lt_iff_toInt_lt, Int32.le_iff_toInt_le, ← Int32.toInt_inj, Int32.reduceToInt] at *); omega) (by (try simp only [g_m1, Int32.lt_iff_toInt_lt, Int32.le_iff_toInt_le, ← Int32.toInt_inj, Int32.reduceToInt] at *); omega)); (try simp only [g_m1, Int32.lt_iff_toInt_lt, Int32.le_iff_toInt_le, ← Int32.toInt_inj, Int32.reduceToInt] at *); omega) | ((try simp only [g_m1, Int32.lt_iff_toInt_lt, Int32.le_iff_toInt_le, ← Int32.toInt_inj, Int32.toInt_add, Int32.toInt_sub, Int32.toInt_mul, Int32.toInt_neg, Int32.reduceToInt, g_bm, g_bm'] at *); omega) | (have qr1 := g_rng x; have qr2 := g_rng y; (try simp only [g_m1, Int32.lt_iff_toInt_lt, Int32.le_iff_toInt_le, ← Int32.toInt_inj, Int32.toInt_add, Int32.toInt_sub, Int32.toInt_mul, Int32.toInt_neg, Int32.reduceToInt, g_bm, g_bm'] at *); omega) | (simp only [g_m1, Int32.lt_iff_toInt_lt, Int32.le_iff_toInt_le, ← Int32.toInt_inj, Int32.toInt_add, Int32.toInt_sub, Int32.toInt_mul, Int32.toInt_neg, Int32.reduceToInt, g_bm, g_bm'] at *; simp at *; omega) | (simp_all; done)
set_option maxRecDepth 100000 in
theorem g_X11_appeal_s_v1 (u : qS) (x : Int32) (y : Int32) (S : Nat → Int32) (hQ : qFD 9 S u) (hz8 : 0 ≤ u.1 8 ∧ u.1 8 ≤ 20) (hz9 : 0 ≤ u.1 9 ∧ u.1 9 ≤ 8) (hz10 : 0 ≤ u.1 10 ∧ u.1 10 ≤ 120) (hz11 : 0 ≤ u.1 11 ∧ u.1 11 ≤ 60) (b11_4 : (0 : Int32) ≤ x ∧ x ≤ ((u.1 10) - 1)) (b21_8 : (0 : Int32) ≤ y ∧ y ≤ (11 : Int32)) : vp_in (x) 120 := by
  refine g_in ?_ ?_ <;> ((try simp only [g_m1, Int32.lt_iff_toInt_lt, Int32.le_iff_toInt_le, ← Int32.toInt_inj, Int32.toInt_add, Int32.toInt_sub, Int32.toInt_mul, Int32.toInt_neg, Int32.reduceToInt, g_bm, g_bm'] at *); omega)
set_option maxRecDepth 100000 in
theorem g_X11_appeal_s_v2 (u : qS) (x : Int32) (y : Int32) (S : Nat → Int32) (a_9 : Nat) (hQ : qFD 9 S u) (hz8 : 0 ≤ u.1 8 ∧ u.1 8 ≤ 20) (hz9 : 0 ≤ u.1 9 ∧ u.1 9 ≤ 8) (hz10 : 0 ≤ u.1 10 ∧ u.1 10 ≤ 120) (hz11 : 0 ≤ u.1 11 ∧ u.1 11 ≤ 60) (b11_4 : (0 : Int32) ≤ x ∧ x ≤ ((u.1 10) - 1)) (b21_8 : (0 : Int32) ≤ y ∧ y ≤ (11 : Int32)) (ha_9_10_e : u.2.2.2.1 2 (x : Int32).toNatClampNeg = some a_9) : 0 ≤ x ∧ x < (u.1 10) := by
  first | omega | ((try simp only [g_m1, Int32.lt_iff_toInt_lt, Int32.le_iff_toInt_le, ← Int32.toInt_inj, Int32.reduceToInt] at *); omega) | ((try have ez0 : ((u.1 10) - 1 : Int32).toInt = (u.1 10 : Int32).toInt - (1 : Int32).toInt := g_sub (by (try simp only [g_m1, Int32.lt_iff_toInt_lt, Int32.le_iff_toInt_le, ← Int32.toInt_inj, Int32.reduceToInt] at *); omega) (by (try simp only [g_m1, Int32.lt_iff_toInt_lt, Int32.le_iff_toInt_le, ← Int32.toInt_inj, Int32.reduceToInt] at *); omega)); (try simp only [g_m1, Int32.lt_iff_toInt_lt, Int32.le_iff_toInt_le, ← Int32.toInt_inj, Int32.reduceToInt] at *); omega) | ((try simp only [g_m1, Int32.lt_iff_toInt_lt, Int32.le_iff_toInt_le, ← Int32.toInt_inj, Int32.toInt_add, Int32.toInt_sub, Int32.toInt_mul, Int32.toInt_neg, Int32.reduceToInt, g_bm, g_bm'] at *); omega) | (have qr1 := g_rng x; have qr2 := g_rng y; (try simp only [g_m1, Int32.lt_iff_toInt_lt, Int32.le_iff_toInt_le, ← Int32.toInt_inj, Int32.toInt_add, Int32.toInt_sub, Int32.toInt_mul, Int32.toInt_neg, Int32.reduceToInt, g_bm, g_bm'] at *); omega) | (simp only [g_m1, Int32.lt_iff_toInt_lt, Int32.le_iff_toInt_le, ← Int32.toInt_inj, Int32.toInt_add, Int32.toInt_sub, Int32.toInt_mul, Int32.toInt_neg, Int32.reduceToInt, g_bm, g_bm'] at *; simp at *; omega) | (simp_all; done)
set_option maxRecDepth 100000 in
theorem g_X11_appeal_s_v3 (u : qS) (x : Int32) (y : Int32) (S : Nat → Int32) (a_9 : Nat) (hQ : qFD 9 S u) (hz8 : 0 ≤ u.1 8 ∧ u.1 8 ≤ 20) (hz9 : 0 ≤ u.1 9 ∧ u.1 9 ≤ 8) (hz10 : 0 ≤ u.1 10 ∧ u.1 10 ≤ 120) (hz11 : 0 ≤ u.1 11 ∧ u.1 11 ≤ 60) (b11_4 : (0 : Int32) ≤ x ∧ x ≤ ((u.1 10) - 1)) (b21_8 : (0 : Int32) ≤ y ∧ y ≤ (11 : Int32)) (ha_9_10_e : u.2.2.2.1 2 (x : Int32).toNatClampNeg = some a_9) (hb_17 : 0 ≤ qfd u.2.2.2.2 a_9 2 ∧ qfd u.2.2.2.2 a_9 2 < (u.1 8)) : 0 ≤ (qfd u.2.2.2.2 a_9 2) ∧ (qfd u.2.2.2.2 a_9 2) < (u.1 8) := by
  first | omega | ((try simp only [g_m1, Int32.lt_iff_toInt_lt, Int32.le_iff_toInt_le, ← Int32.toInt_inj, Int32.reduceToInt] at *); omega) | ((try have ez0 : ((u.1 10) - 1 : Int32).toInt = (u.1 10 : Int32).toInt - (1 : Int32).toInt := g_sub (by (try simp only [g_m1, Int32.lt_iff_toInt_lt, Int32.le_iff_toInt_le, ← Int32.toInt_inj, Int32.reduceToInt] at *); omega) (by (try simp only [g_m1, Int32.lt_iff_toInt_lt, Int32.le_iff_toInt_le, ← Int32.toInt_inj, Int32.reduceToInt] at *); omega)); (try simp only [g_m1, Int32.lt_iff_toInt_lt, Int32.le_iff_toInt_le, ← Int32.toInt_inj, Int32.reduceToInt] at *); omega) | ((try simp only [g_m1, Int32.lt_iff_toInt_lt, Int32.le_iff_toInt_le, ← Int32.toInt_inj, Int32.toInt_add, Int32.toInt_sub, Int32.toInt_mul, Int32.toInt_neg, Int32.reduceToInt, g_bm, g_bm'] at *); omega) | (have qr1 := g_rng x; have qr2 := g_rng y; (try simp only [g_m1, Int32.lt_iff_toInt_lt, Int32.le_iff_toInt_le, ← Int32.toInt_inj, Int32.toInt_add, Int32.toInt_sub, Int32.toInt_mul, Int32.toInt_neg, Int32.reduceToInt, g_bm, g_bm'] at *); omega) | (simp only [g_m1, Int32.lt_iff_toInt_lt, Int32.le_iff_toInt_le, ← Int32.toInt_inj, Int32.toInt_add, Int32.toInt_sub, Int32.toInt_mul, Int32.toInt_neg, Int32.reduceToInt, g_bm, g_bm'] at *; simp at *; omega) | (simp_all; done)
set_option maxRecDepth 100000 in
theorem g_X11_appeal_s_v4 (u : qS) (x : Int32) (y : Int32) (S : Nat → Int32) (a_9 : Nat) (hQ : qFD 9 S u) (hz8 : 0 ≤ u.1 8 ∧ u.1 8 ≤ 20) (hz9 : 0 ≤ u.1 9 ∧ u.1 9 ≤ 8) (hz10 : 0 ≤ u.1 10 ∧ u.1 10 ≤ 120) (hz11 : 0 ≤ u.1 11 ∧ u.1 11 ≤ 60) (b11_4 : (0 : Int32) ≤ x ∧ x ≤ ((u.1 10) - 1)) (b21_8 : (0 : Int32) ≤ y ∧ y ≤ (11 : Int32)) (ha_9_10_e : u.2.2.2.1 2 (x : Int32).toNatClampNeg = some a_9) (hb_17 : 0 ≤ qfd u.2.2.2.2 a_9 2 ∧ qfd u.2.2.2.2 a_9 2 < (u.1 8)) : vp_in (qfd u.2.2.2.2 a_9 2) 20 := by
  refine g_in ?_ ?_ <;> ((try simp only [g_m1, Int32.lt_iff_toInt_lt, Int32.le_iff_toInt_le, ← Int32.toInt_inj, Int32.toInt_add, Int32.toInt_sub, Int32.toInt_mul, Int32.toInt_neg, Int32.reduceToInt, g_bm, g_bm'] at *); omega)
set_option maxRecDepth 100000 in
theorem g_X11_appeal_s_v5 (u : qS) (x : Int32) (y : Int32) (S : Nat → Int32) (a_9 : Nat) (a_18 : Nat) (hQ : qFD 9 S u) (hz8 : 0 ≤ u.1 8 ∧ u.1 8 ≤ 20) (hz9 : 0 ≤ u.1 9 ∧ u.1 9 ≤ 8) (hz10 : 0 ≤ u.1 10 ∧ u.1 10 ≤ 120) (hz11 : 0 ≤ u.1 11 ∧ u.1 11 ≤ 60) (b11_4 : (0 : Int32) ≤ x ∧ x ≤ ((u.1 10) - 1)) (b21_8 : (0 : Int32) ≤ y ∧ y ≤ (11 : Int32)) (ha_9_10_e : u.2.2.2.1 2 (x : Int32).toNatClampNeg = some a_9) (hb_17 : 0 ≤ qfd u.2.2.2.2 a_9 2 ∧ qfd u.2.2.2.2 a_9 2 < (u.1 8)) (ha_18_19_e : u.2.2.2.1 0 (qfd u.2.2.2.2 a_9 2 : Int32).toNatClampNeg = some a_18) (c54_25 : (qsd u.2.2.2.2 a_18 4 : Int32) = 0) : (((0 ≤ x ∧ x < u.1 10) ∧ (0 ≤ y ∧ y ≤ 11) ∧ ¬ csr u 4 (cvr u 2 x.toNatClampNeg).toNatClampNeg = 0 ∧ u.1 13 - cvr u 1 x.toNatClampNeg ≤ 14 ∧ u.1 11 < 60) ∧ (0 : Int32) = 1 ∧ S = c_tw ((u.2.1 5)) ((u.2.1 6)) ((u.2.1 7)) (c_se (u.1 14) (u.1 13)) S (u.1 11).toNatClampNeg ∧ (u.1 11 : Int32) = u.1 11 + 1 ∧ (u.2.1 5) = upd (u.2.1 5) (u.1 11).toNatClampNeg x ∧ (u.2.1 6) = upd (u.2.1 6) (u.1 11).toNatClampNeg y ∧ (u.2.1 7) = upd (u.2.1 7) (u.1 11).toNatClampNeg (u.1 13) ∧ (u.1 18 : Int32) = u.1 18 + 1) ∨ (¬ ((0 ≤ x ∧ x < u.1 10) ∧ (0 ≤ y ∧ y ≤ 11) ∧ ¬ csr u 4 (cvr u 2 x.toNatClampNeg).toNatClampNeg = 0 ∧ u.1 13 - cvr u 1 x.toNatClampNeg ≤ 14 ∧ u.1 11 < 60) ∧ (0 : Int32) = 0 ∧ S = S ∧ (u.1 11 : Int32) = u.1 11 ∧ (u.2.1 5) = u.2.1 5 ∧ (u.2.1 6) = u.2.1 6 ∧ (u.2.1 7) = u.2.1 7 ∧ (u.1 18 : Int32) = u.1 18) := by
  first
  | exact Or.inr ⟨fun q0 => (by obtain ⟨q1, q2, q3, q4, q5⟩ := q0; first | ((try simp only [g_m1, Int32.lt_iff_toInt_lt, Int32.le_iff_toInt_le, ← Int32.toInt_inj, Int32.reduceToInt] at *); omega) | ((try simp only [g_m1, Int32.lt_iff_toInt_lt, Int32.le_iff_toInt_le, ← Int32.toInt_inj, Int32.toInt_add, Int32.toInt_sub, Int32.toInt_mul, Int32.toInt_neg, Int32.reduceToInt, g_bm, g_bm'] at *); omega)), rfl, rfl, rfl, rfl, rfl, rfl, rfl⟩
  | (have h1 := (by assumption : u.2.2.2.1 2 (x : Int32).toNatClampNeg = some _)
     have z2 : cvr u 2 x.toNatClampNeg = _ := cvr_at h1
     have z1 : cvr u 1 x.toNatClampNeg = _ := cvr_at h1
     rw [z2, z1]
     have z4 := csr_at (j := 4) (by assumption : u.2.2.2.1 0 _ = some _)
     rw [z4]
     first
     | exact Or.inr ⟨fun q0 => (by obtain ⟨q1, q2, q3, q4, q5⟩ := q0; exact q3 (by assumption)), rfl, rfl, rfl, rfl, rfl, rfl, rfl⟩
     | exact Or.inr ⟨fun q0 => (by obtain ⟨q1, q2, q3, q4, q5⟩ := q0; exact absurd q4 (by assumption)), rfl, rfl, rfl, rfl, rfl, rfl, rfl⟩
     | (refine Or.inl ⟨⟨?_, ?_, ?_, ?_, ?_⟩, rfl, by assumption⟩ <;> first | assumption | (first | ((try simp only [g_m1, Int32.lt_iff_toInt_lt, Int32.le_iff_toInt_le, ← Int32.toInt_inj, Int32.reduceToInt] at *); omega) | ((try simp only [g_m1, Int32.lt_iff_toInt_lt, Int32.le_iff_toInt_le, ← Int32.toInt_inj, Int32.toInt_add, Int32.toInt_sub, Int32.toInt_mul, Int32.toInt_neg, Int32.reduceToInt, g_bm, g_bm'] at *); omega))))
set_option maxRecDepth 100000 in
theorem g_X11_appeal_s_v6 (u : qS) (x : Int32) (y : Int32) (S : Nat → Int32) (a_9 : Nat) (a_18 : Nat) (hQ : qFD 9 S u) (hz8 : 0 ≤ u.1 8 ∧ u.1 8 ≤ 20) (hz9 : 0 ≤ u.1 9 ∧ u.1 9 ≤ 8) (hz10 : 0 ≤ u.1 10 ∧ u.1 10 ≤ 120) (hz11 : 0 ≤ u.1 11 ∧ u.1 11 ≤ 60) (b11_4 : (0 : Int32) ≤ x ∧ x ≤ ((u.1 10) - 1)) (b21_8 : (0 : Int32) ≤ y ∧ y ≤ (11 : Int32)) (ha_9_10_e : u.2.2.2.1 2 (x : Int32).toNatClampNeg = some a_9) (hb_17 : 0 ≤ qfd u.2.2.2.2 a_9 2 ∧ qfd u.2.2.2.2 a_9 2 < (u.1 8)) (ha_18_19_e : u.2.2.2.1 0 (qfd u.2.2.2.2 a_9 2 : Int32).toNatClampNeg = some a_18) (c54_25 : ¬ (qsd u.2.2.2.2 a_18 4 : Int32) = 0) (c71_31 : ((u.1 13) - (qfd u.2.2.2.2 a_9 1) : Int32) ≤ 14) (c85_32 : (u.1 11 : Int32) < 60) : ((u.1 11 : Int32)).toInt < 60 := by
  first | omega | ((try simp only [g_m1, Int32.lt_iff_toInt_lt, Int32.le_iff_toInt_le, ← Int32.toInt_inj, Int32.reduceToInt] at *); omega) | ((try have ez1 : ((u.1 13) - (qfd u.2.2.2.2 a_9 1) : Int32).toInt = (u.1 13 : Int32).toInt - (qfd u.2.2.2.2 a_9 1 : Int32).toInt := g_sub (by (try simp only [g_m1, Int32.lt_iff_toInt_lt, Int32.le_iff_toInt_le, ← Int32.toInt_inj, Int32.reduceToInt] at *); omega) (by (try simp only [g_m1, Int32.lt_iff_toInt_lt, Int32.le_iff_toInt_le, ← Int32.toInt_inj, Int32.reduceToInt] at *); omega)); (try simp only [g_m1, Int32.lt_iff_toInt_lt, Int32.le_iff_toInt_le, ← Int32.toInt_inj, Int32.reduceToInt] at *); omega) | ((try simp only [g_m1, Int32.lt_iff_toInt_lt, Int32.le_iff_toInt_le, ← Int32.toInt_inj, Int32.toInt_add, Int32.toInt_sub, Int32.toInt_mul, Int32.toInt_neg, Int32.reduceToInt, g_bm, g_bm'] at *); omega) | (have qr1 := g_rng x; have qr2 := g_rng y; (try simp only [g_m1, Int32.lt_iff_toInt_lt, Int32.le_iff_toInt_le, ← Int32.toInt_inj, Int32.toInt_add, Int32.toInt_sub, Int32.toInt_mul, Int32.toInt_neg, Int32.reduceToInt, g_bm, g_bm'] at *); omega) | (simp only [g_m1, Int32.lt_iff_toInt_lt, Int32.le_iff_toInt_le, ← Int32.toInt_inj, Int32.toInt_add, Int32.toInt_sub, Int32.toInt_mul, Int32.toInt_neg, Int32.reduceToInt, g_bm, g_bm'] at *; simp at *; omega) | (simp_all; done)
set_option maxRecDepth 100000 in
theorem g_X11_appeal_s_v7 (u : qS) (x : Int32) (y : Int32) (S : Nat → Int32) (a_9 : Nat) (a_18 : Nat) (u_33 : qS) (S_38 : Nat → Int32) (hQ : qFD 9 S u) (hz8 : 0 ≤ u.1 8 ∧ u.1 8 ≤ 20) (hz9 : 0 ≤ u.1 9 ∧ u.1 9 ≤ 8) (hz10 : 0 ≤ u.1 10 ∧ u.1 10 ≤ 120) (hz11 : 0 ≤ u.1 11 ∧ u.1 11 ≤ 60) (b11_4 : (0 : Int32) ≤ x ∧ x ≤ ((u.1 10) - 1)) (b21_8 : (0 : Int32) ≤ y ∧ y ≤ (11 : Int32)) (ha_9_10_e : u.2.2.2.1 2 (x : Int32).toNatClampNeg = some a_9) (hb_17 : 0 ≤ qfd u.2.2.2.2 a_9 2 ∧ qfd u.2.2.2.2 a_9 2 < (u.1 8)) (ha_18_19_e : u.2.2.2.1 0 (qfd u.2.2.2.2 a_9 2 : Int32).toNatClampNeg = some a_18) (c54_25 : ¬ (qsd u.2.2.2.2 a_18 4 : Int32) = 0) (c71_31 : ((u.1 13) - (qfd u.2.2.2.2 a_9 1) : Int32) ≤ 14) (c85_32 : (u.1 11 : Int32) < 60) (hq_39 : S_38 = c_tw (u_33.2.1 5) (u_33.2.1 6) (u_33.2.1 7) (c_se (u.1 14) (u.1 13)) (S) (u.1 11).toNatClampNeg ∧ u_33.1 11 = u.1 11 + 1 ∧ u_33.2.1 5 = upd (u.2.1 5) (u.1 11).toNatClampNeg (x) ∧ u_33.2.1 6 = upd (u.2.1 6) (u.1 11).toNatClampNeg y ∧ u_33.2.1 7 = upd (u.2.1 7) (u.1 11).toNatClampNeg (u.1 13) ∧ u_33.1 18 = u.1 18 + 1) : (((0 ≤ x ∧ x < u.1 10) ∧ (0 ≤ y ∧ y ≤ 11) ∧ ¬ csr u 4 (cvr u 2 x.toNatClampNeg).toNatClampNeg = 0 ∧ u.1 13 - cvr u 1 x.toNatClampNeg ≤ 14 ∧ u.1 11 < 60) ∧ (1 : Int32) = 1 ∧ S_38 = c_tw ((u_33.2.1 5)) ((u_33.2.1 6)) ((u_33.2.1 7)) (c_se (u.1 14) (u.1 13)) S (u.1 11).toNatClampNeg ∧ (u_33.1 11 : Int32) = u.1 11 + 1 ∧ (u_33.2.1 5) = upd (u.2.1 5) (u.1 11).toNatClampNeg x ∧ (u_33.2.1 6) = upd (u.2.1 6) (u.1 11).toNatClampNeg y ∧ (u_33.2.1 7) = upd (u.2.1 7) (u.1 11).toNatClampNeg (u.1 13) ∧ (u_33.1 18 : Int32) = u.1 18 + 1) ∨ (¬ ((0 ≤ x ∧ x < u.1 10) ∧ (0 ≤ y ∧ y ≤ 11) ∧ ¬ csr u 4 (cvr u 2 x.toNatClampNeg).toNatClampNeg = 0 ∧ u.1 13 - cvr u 1 x.toNatClampNeg ≤ 14 ∧ u.1 11 < 60) ∧ (1 : Int32) = 0 ∧ S_38 = S ∧ (u_33.1 11 : Int32) = u.1 11 ∧ (u_33.2.1 5) = u.2.1 5 ∧ (u_33.2.1 6) = u.2.1 6 ∧ (u_33.2.1 7) = u.2.1 7 ∧ (u_33.1 18 : Int32) = u.1 18) := by
  first
  | exact Or.inr ⟨fun q0 => (by obtain ⟨q1, q2, q3, q4, q5⟩ := q0; first | ((try simp only [g_m1, Int32.lt_iff_toInt_lt, Int32.le_iff_toInt_le, ← Int32.toInt_inj, Int32.reduceToInt] at *); omega) | ((try simp only [g_m1, Int32.lt_iff_toInt_lt, Int32.le_iff_toInt_le, ← Int32.toInt_inj, Int32.toInt_add, Int32.toInt_sub, Int32.toInt_mul, Int32.toInt_neg, Int32.reduceToInt, g_bm, g_bm'] at *); omega)), rfl, rfl, rfl, rfl, rfl, rfl, rfl⟩
  | (have h1 := (by assumption : u.2.2.2.1 2 (x : Int32).toNatClampNeg = some _)
     have z2 : cvr u 2 x.toNatClampNeg = _ := cvr_at h1
     have z1 : cvr u 1 x.toNatClampNeg = _ := cvr_at h1
     rw [z2, z1]
     have z4 := csr_at (j := 4) (by assumption : u.2.2.2.1 0 _ = some _)
     rw [z4]
     first
     | exact Or.inr ⟨fun q0 => (by obtain ⟨q1, q2, q3, q4, q5⟩ := q0; exact q3 (by assumption)), rfl, rfl, rfl, rfl, rfl, rfl, rfl⟩
     | exact Or.inr ⟨fun q0 => (by obtain ⟨q1, q2, q3, q4, q5⟩ := q0; exact absurd q4 (by assumption)), rfl, rfl, rfl, rfl, rfl, rfl, rfl⟩
     | (refine Or.inl ⟨⟨?_, ?_, ?_, ?_, ?_⟩, rfl, by assumption⟩ <;> first | assumption | (first | ((try simp only [g_m1, Int32.lt_iff_toInt_lt, Int32.le_iff_toInt_le, ← Int32.toInt_inj, Int32.reduceToInt] at *); omega) | ((try simp only [g_m1, Int32.lt_iff_toInt_lt, Int32.le_iff_toInt_le, ← Int32.toInt_inj, Int32.toInt_add, Int32.toInt_sub, Int32.toInt_mul, Int32.toInt_neg, Int32.reduceToInt, g_bm, g_bm'] at *); omega))))
set_option maxRecDepth 100000 in
theorem g_X11_appeal_s_v8 (u : qS) (x : Int32) (y : Int32) (S : Nat → Int32) (a_9 : Nat) (a_18 : Nat) (hQ : qFD 9 S u) (hz8 : 0 ≤ u.1 8 ∧ u.1 8 ≤ 20) (hz9 : 0 ≤ u.1 9 ∧ u.1 9 ≤ 8) (hz10 : 0 ≤ u.1 10 ∧ u.1 10 ≤ 120) (hz11 : 0 ≤ u.1 11 ∧ u.1 11 ≤ 60) (b11_4 : (0 : Int32) ≤ x ∧ x ≤ ((u.1 10) - 1)) (b21_8 : (0 : Int32) ≤ y ∧ y ≤ (11 : Int32)) (ha_9_10_e : u.2.2.2.1 2 (x : Int32).toNatClampNeg = some a_9) (hb_17 : 0 ≤ qfd u.2.2.2.2 a_9 2 ∧ qfd u.2.2.2.2 a_9 2 < (u.1 8)) (ha_18_19_e : u.2.2.2.1 0 (qfd u.2.2.2.2 a_9 2 : Int32).toNatClampNeg = some a_18) (c54_25 : ¬ (qsd u.2.2.2.2 a_18 4 : Int32) = 0) (c71_31 : ((u.1 13) - (qfd u.2.2.2.2 a_9 1) : Int32) ≤ 14) (c85_32 : ¬ (u.1 11 : Int32) < 60) : (((0 ≤ x ∧ x < u.1 10) ∧ (0 ≤ y ∧ y ≤ 11) ∧ ¬ csr u 4 (cvr u 2 x.toNatClampNeg).toNatClampNeg = 0 ∧ u.1 13 - cvr u 1 x.toNatClampNeg ≤ 14 ∧ u.1 11 < 60) ∧ (0 : Int32) = 1 ∧ S = c_tw ((u.2.1 5)) ((u.2.1 6)) ((u.2.1 7)) (c_se (u.1 14) (u.1 13)) S (u.1 11).toNatClampNeg ∧ (u.1 11 : Int32) = u.1 11 + 1 ∧ (u.2.1 5) = upd (u.2.1 5) (u.1 11).toNatClampNeg x ∧ (u.2.1 6) = upd (u.2.1 6) (u.1 11).toNatClampNeg y ∧ (u.2.1 7) = upd (u.2.1 7) (u.1 11).toNatClampNeg (u.1 13) ∧ (u.1 18 : Int32) = u.1 18 + 1) ∨ (¬ ((0 ≤ x ∧ x < u.1 10) ∧ (0 ≤ y ∧ y ≤ 11) ∧ ¬ csr u 4 (cvr u 2 x.toNatClampNeg).toNatClampNeg = 0 ∧ u.1 13 - cvr u 1 x.toNatClampNeg ≤ 14 ∧ u.1 11 < 60) ∧ (0 : Int32) = 0 ∧ S = S ∧ (u.1 11 : Int32) = u.1 11 ∧ (u.2.1 5) = u.2.1 5 ∧ (u.2.1 6) = u.2.1 6 ∧ (u.2.1 7) = u.2.1 7 ∧ (u.1 18 : Int32) = u.1 18) := by
  first
  | exact Or.inr ⟨fun q0 => (by obtain ⟨q1, q2, q3, q4, q5⟩ := q0; first | ((try simp only [g_m1, Int32.lt_iff_toInt_lt, Int32.le_iff_toInt_le, ← Int32.toInt_inj, Int32.reduceToInt] at *); omega) | ((try simp only [g_m1, Int32.lt_iff_toInt_lt, Int32.le_iff_toInt_le, ← Int32.toInt_inj, Int32.toInt_add, Int32.toInt_sub, Int32.toInt_mul, Int32.toInt_neg, Int32.reduceToInt, g_bm, g_bm'] at *); omega)), rfl, rfl, rfl, rfl, rfl, rfl, rfl⟩
  | (have h1 := (by assumption : u.2.2.2.1 2 (x : Int32).toNatClampNeg = some _)
     have z2 : cvr u 2 x.toNatClampNeg = _ := cvr_at h1
     have z1 : cvr u 1 x.toNatClampNeg = _ := cvr_at h1
     rw [z2, z1]
     have z4 := csr_at (j := 4) (by assumption : u.2.2.2.1 0 _ = some _)
     rw [z4]
     first
     | exact Or.inr ⟨fun q0 => (by obtain ⟨q1, q2, q3, q4, q5⟩ := q0; exact q3 (by assumption)), rfl, rfl, rfl, rfl, rfl, rfl, rfl⟩
     | exact Or.inr ⟨fun q0 => (by obtain ⟨q1, q2, q3, q4, q5⟩ := q0; exact absurd q4 (by assumption)), rfl, rfl, rfl, rfl, rfl, rfl, rfl⟩
     | (refine Or.inl ⟨⟨?_, ?_, ?_, ?_, ?_⟩, rfl, by assumption⟩ <;> first | assumption | (first | ((try simp only [g_m1, Int32.lt_iff_toInt_lt, Int32.le_iff_toInt_le, ← Int32.toInt_inj, Int32.reduceToInt] at *); omega) | ((try simp only [g_m1, Int32.lt_iff_toInt_lt, Int32.le_iff_toInt_le, ← Int32.toInt_inj, Int32.toInt_add, Int32.toInt_sub, Int32.toInt_mul, Int32.toInt_neg, Int32.reduceToInt, g_bm, g_bm'] at *); omega))))
set_option maxRecDepth 100000 in
theorem g_X11_appeal_s_v9 (u : qS) (x : Int32) (y : Int32) (S : Nat → Int32) (a_9 : Nat) (a_18 : Nat) (hQ : qFD 9 S u) (hz8 : 0 ≤ u.1 8 ∧ u.1 8 ≤ 20) (hz9 : 0 ≤ u.1 9 ∧ u.1 9 ≤ 8) (hz10 : 0 ≤ u.1 10 ∧ u.1 10 ≤ 120) (hz11 : 0 ≤ u.1 11 ∧ u.1 11 ≤ 60) (b11_4 : (0 : Int32) ≤ x ∧ x ≤ ((u.1 10) - 1)) (b21_8 : (0 : Int32) ≤ y ∧ y ≤ (11 : Int32)) (ha_9_10_e : u.2.2.2.1 2 (x : Int32).toNatClampNeg = some a_9) (hb_17 : 0 ≤ qfd u.2.2.2.2 a_9 2 ∧ qfd u.2.2.2.2 a_9 2 < (u.1 8)) (ha_18_19_e : u.2.2.2.1 0 (qfd u.2.2.2.2 a_9 2 : Int32).toNatClampNeg = some a_18) (c54_25 : ¬ (qsd u.2.2.2.2 a_18 4 : Int32) = 0) (c71_31 : ¬ ((u.1 13) - (qfd u.2.2.2.2 a_9 1) : Int32) ≤ 14) : (((0 ≤ x ∧ x < u.1 10) ∧ (0 ≤ y ∧ y ≤ 11) ∧ ¬ csr u 4 (cvr u 2 x.toNatClampNeg).toNatClampNeg = 0 ∧ u.1 13 - cvr u 1 x.toNatClampNeg ≤ 14 ∧ u.1 11 < 60) ∧ (0 : Int32) = 1 ∧ S = c_tw ((u.2.1 5)) ((u.2.1 6)) ((u.2.1 7)) (c_se (u.1 14) (u.1 13)) S (u.1 11).toNatClampNeg ∧ (u.1 11 : Int32) = u.1 11 + 1 ∧ (u.2.1 5) = upd (u.2.1 5) (u.1 11).toNatClampNeg x ∧ (u.2.1 6) = upd (u.2.1 6) (u.1 11).toNatClampNeg y ∧ (u.2.1 7) = upd (u.2.1 7) (u.1 11).toNatClampNeg (u.1 13) ∧ (u.1 18 : Int32) = u.1 18 + 1) ∨ (¬ ((0 ≤ x ∧ x < u.1 10) ∧ (0 ≤ y ∧ y ≤ 11) ∧ ¬ csr u 4 (cvr u 2 x.toNatClampNeg).toNatClampNeg = 0 ∧ u.1 13 - cvr u 1 x.toNatClampNeg ≤ 14 ∧ u.1 11 < 60) ∧ (0 : Int32) = 0 ∧ S = S ∧ (u.1 11 : Int32) = u.1 11 ∧ (u.2.1 5) = u.2.1 5 ∧ (u.2.1 6) = u.2.1 6 ∧ (u.2.1 7) = u.2.1 7 ∧ (u.1 18 : Int32) = u.1 18) := by
  first
  | exact Or.inr ⟨fun q0 => (by obtain ⟨q1, q2, q3, q4, q5⟩ := q0; first | ((try simp only [g_m1, Int32.lt_iff_toInt_lt, Int32.le_iff_toInt_le, ← Int32.toInt_inj, Int32.reduceToInt] at *); omega) | ((try simp only [g_m1, Int32.lt_iff_toInt_lt, Int32.le_iff_toInt_le, ← Int32.toInt_inj, Int32.toInt_add, Int32.toInt_sub, Int32.toInt_mul, Int32.toInt_neg, Int32.reduceToInt, g_bm, g_bm'] at *); omega)), rfl, rfl, rfl, rfl, rfl, rfl, rfl⟩
  | (have h1 := (by assumption : u.2.2.2.1 2 (x : Int32).toNatClampNeg = some _)
     have z2 : cvr u 2 x.toNatClampNeg = _ := cvr_at h1
     have z1 : cvr u 1 x.toNatClampNeg = _ := cvr_at h1
     rw [z2, z1]
     have z4 := csr_at (j := 4) (by assumption : u.2.2.2.1 0 _ = some _)
     rw [z4]
     first
     | exact Or.inr ⟨fun q0 => (by obtain ⟨q1, q2, q3, q4, q5⟩ := q0; exact q3 (by assumption)), rfl, rfl, rfl, rfl, rfl, rfl, rfl⟩
     | exact Or.inr ⟨fun q0 => (by obtain ⟨q1, q2, q3, q4, q5⟩ := q0; exact absurd q4 (by assumption)), rfl, rfl, rfl, rfl, rfl, rfl, rfl⟩
     | (refine Or.inl ⟨⟨?_, ?_, ?_, ?_, ?_⟩, rfl, by assumption⟩ <;> first | assumption | (first | ((try simp only [g_m1, Int32.lt_iff_toInt_lt, Int32.le_iff_toInt_le, ← Int32.toInt_inj, Int32.reduceToInt] at *); omega) | ((try simp only [g_m1, Int32.lt_iff_toInt_lt, Int32.le_iff_toInt_le, ← Int32.toInt_inj, Int32.toInt_add, Int32.toInt_sub, Int32.toInt_mul, Int32.toInt_neg, Int32.reduceToInt, g_bm, g_bm'] at *); omega))))
set_option maxRecDepth 100000 in
theorem g_X11_appeal_s_v10 (u : qS) (x : Int32) (y : Int32) (S : Nat → Int32) (hQ : qFD 9 S u) (hz8 : 0 ≤ u.1 8 ∧ u.1 8 ≤ 20) (hz9 : 0 ≤ u.1 9 ∧ u.1 9 ≤ 8) (hz10 : 0 ≤ u.1 10 ∧ u.1 10 ≤ 120) (hz11 : 0 ≤ u.1 11 ∧ u.1 11 ≤ 60) (b11_4 : (0 : Int32) ≤ x ∧ x ≤ ((u.1 10) - 1)) (b21_8 : ¬ ((0 : Int32) ≤ y ∧ y ≤ (11 : Int32))) : (((0 ≤ x ∧ x < u.1 10) ∧ (0 ≤ y ∧ y ≤ 11) ∧ ¬ csr u 4 (cvr u 2 x.toNatClampNeg).toNatClampNeg = 0 ∧ u.1 13 - cvr u 1 x.toNatClampNeg ≤ 14 ∧ u.1 11 < 60) ∧ (0 : Int32) = 1 ∧ S = c_tw ((u.2.1 5)) ((u.2.1 6)) ((u.2.1 7)) (c_se (u.1 14) (u.1 13)) S (u.1 11).toNatClampNeg ∧ (u.1 11 : Int32) = u.1 11 + 1 ∧ (u.2.1 5) = upd (u.2.1 5) (u.1 11).toNatClampNeg x ∧ (u.2.1 6) = upd (u.2.1 6) (u.1 11).toNatClampNeg y ∧ (u.2.1 7) = upd (u.2.1 7) (u.1 11).toNatClampNeg (u.1 13) ∧ (u.1 18 : Int32) = u.1 18 + 1) ∨ (¬ ((0 ≤ x ∧ x < u.1 10) ∧ (0 ≤ y ∧ y ≤ 11) ∧ ¬ csr u 4 (cvr u 2 x.toNatClampNeg).toNatClampNeg = 0 ∧ u.1 13 - cvr u 1 x.toNatClampNeg ≤ 14 ∧ u.1 11 < 60) ∧ (0 : Int32) = 0 ∧ S = S ∧ (u.1 11 : Int32) = u.1 11 ∧ (u.2.1 5) = u.2.1 5 ∧ (u.2.1 6) = u.2.1 6 ∧ (u.2.1 7) = u.2.1 7 ∧ (u.1 18 : Int32) = u.1 18) := by
  first
  | exact Or.inr ⟨fun q0 => (by obtain ⟨q1, q2, q3, q4, q5⟩ := q0; first | ((try simp only [g_m1, Int32.lt_iff_toInt_lt, Int32.le_iff_toInt_le, ← Int32.toInt_inj, Int32.reduceToInt] at *); omega) | ((try simp only [g_m1, Int32.lt_iff_toInt_lt, Int32.le_iff_toInt_le, ← Int32.toInt_inj, Int32.toInt_add, Int32.toInt_sub, Int32.toInt_mul, Int32.toInt_neg, Int32.reduceToInt, g_bm, g_bm'] at *); omega)), rfl, rfl, rfl, rfl, rfl, rfl, rfl⟩
  | (have h1 := (by assumption : u.2.2.2.1 2 (x : Int32).toNatClampNeg = some _)
     have z2 : cvr u 2 x.toNatClampNeg = _ := cvr_at h1
     have z1 : cvr u 1 x.toNatClampNeg = _ := cvr_at h1
     rw [z2, z1]
     have z4 := csr_at (j := 4) (by assumption : u.2.2.2.1 0 _ = some _)
     rw [z4]
     first
     | exact Or.inr ⟨fun q0 => (by obtain ⟨q1, q2, q3, q4, q5⟩ := q0; exact q3 (by assumption)), rfl, rfl, rfl, rfl, rfl, rfl, rfl⟩
     | exact Or.inr ⟨fun q0 => (by obtain ⟨q1, q2, q3, q4, q5⟩ := q0; exact absurd q4 (by assumption)), rfl, rfl, rfl, rfl, rfl, rfl, rfl⟩
     | (refine Or.inl ⟨⟨?_, ?_, ?_, ?_, ?_⟩, rfl, by assumption⟩ <;> first | assumption | (first | ((try simp only [g_m1, Int32.lt_iff_toInt_lt, Int32.le_iff_toInt_le, ← Int32.toInt_inj, Int32.reduceToInt] at *); omega) | ((try simp only [g_m1, Int32.lt_iff_toInt_lt, Int32.le_iff_toInt_le, ← Int32.toInt_inj, Int32.toInt_add, Int32.toInt_sub, Int32.toInt_mul, Int32.toInt_neg, Int32.reduceToInt, g_bm, g_bm'] at *); omega))))
set_option maxRecDepth 100000 in
theorem g_X11_appeal_s_v11 (u : qS) (x : Int32) (y : Int32) (S : Nat → Int32) (hQ : qFD 9 S u) (hz8 : 0 ≤ u.1 8 ∧ u.1 8 ≤ 20) (hz9 : 0 ≤ u.1 9 ∧ u.1 9 ≤ 8) (hz10 : 0 ≤ u.1 10 ∧ u.1 10 ≤ 120) (hz11 : 0 ≤ u.1 11 ∧ u.1 11 ≤ 60) (b11_4 : ¬ ((0 : Int32) ≤ x ∧ x ≤ ((u.1 10) - 1))) : (((0 ≤ x ∧ x < u.1 10) ∧ (0 ≤ y ∧ y ≤ 11) ∧ ¬ csr u 4 (cvr u 2 x.toNatClampNeg).toNatClampNeg = 0 ∧ u.1 13 - cvr u 1 x.toNatClampNeg ≤ 14 ∧ u.1 11 < 60) ∧ (0 : Int32) = 1 ∧ S = c_tw ((u.2.1 5)) ((u.2.1 6)) ((u.2.1 7)) (c_se (u.1 14) (u.1 13)) S (u.1 11).toNatClampNeg ∧ (u.1 11 : Int32) = u.1 11 + 1 ∧ (u.2.1 5) = upd (u.2.1 5) (u.1 11).toNatClampNeg x ∧ (u.2.1 6) = upd (u.2.1 6) (u.1 11).toNatClampNeg y ∧ (u.2.1 7) = upd (u.2.1 7) (u.1 11).toNatClampNeg (u.1 13) ∧ (u.1 18 : Int32) = u.1 18 + 1) ∨ (¬ ((0 ≤ x ∧ x < u.1 10) ∧ (0 ≤ y ∧ y ≤ 11) ∧ ¬ csr u 4 (cvr u 2 x.toNatClampNeg).toNatClampNeg = 0 ∧ u.1 13 - cvr u 1 x.toNatClampNeg ≤ 14 ∧ u.1 11 < 60) ∧ (0 : Int32) = 0 ∧ S = S ∧ (u.1 11 : Int32) = u.1 11 ∧ (u.2.1 5) = u.2.1 5 ∧ (u.2.1 6) = u.2.1 6 ∧ (u.2.1 7) = u.2.1 7 ∧ (u.1 18 : Int32) = u.1 18) := by
  first
  | exact Or.inr ⟨fun q0 => (by obtain ⟨q1, q2, q3, q4, q5⟩ := q0; first | ((try simp only [g_m1, Int32.lt_iff_toInt_lt, Int32.le_iff_toInt_le, ← Int32.toInt_inj, Int32.reduceToInt] at *); omega) | ((try simp only [g_m1, Int32.lt_iff_toInt_lt, Int32.le_iff_toInt_le, ← Int32.toInt_inj, Int32.toInt_add, Int32.toInt_sub, Int32.toInt_mul, Int32.toInt_neg, Int32.reduceToInt, g_bm, g_bm'] at *); omega)), rfl, rfl, rfl, rfl, rfl, rfl, rfl⟩
  | (have h1 := (by assumption : u.2.2.2.1 2 (x : Int32).toNatClampNeg = some _)
     have z2 : cvr u 2 x.toNatClampNeg = _ := cvr_at h1
     have z1 : cvr u 1 x.toNatClampNeg = _ := cvr_at h1
     rw [z2, z1]
     have z4 := csr_at (j := 4) (by assumption : u.2.2.2.1 0 _ = some _)
     rw [z4]
     first
     | exact Or.inr ⟨fun q0 => (by obtain ⟨q1, q2, q3, q4, q5⟩ := q0; exact q3 (by assumption)), rfl, rfl, rfl, rfl, rfl, rfl, rfl⟩
     | exact Or.inr ⟨fun q0 => (by obtain ⟨q1, q2, q3, q4, q5⟩ := q0; exact absurd q4 (by assumption)), rfl, rfl, rfl, rfl, rfl, rfl, rfl⟩
     | (refine Or.inl ⟨⟨?_, ?_, ?_, ?_, ?_⟩, rfl, by assumption⟩ <;> first | assumption | (first | ((try simp only [g_m1, Int32.lt_iff_toInt_lt, Int32.le_iff_toInt_le, ← Int32.toInt_inj, Int32.reduceToInt] at *); omega) | ((try simp only [g_m1, Int32.lt_iff_toInt_lt, Int32.le_iff_toInt_le, ← Int32.toInt_inj, Int32.toInt_add, Int32.toInt_sub, Int32.toInt_mul, Int32.toInt_neg, Int32.reduceToInt, g_bm, g_bm'] at *); omega))))
set_option maxHeartbeats 1000000 in
set_option maxRecDepth 100000 in
theorem g_X11_appeal_s (l : Launch) (E : qE) (A : Nat → Prop) (u : qS) (x : Int32) (y : Int32) (S : Nat → Int32) (hI : IC E u) (hQ : qFD 9 S u) : Met l yX11_appeal (uws yX11_appeal cX11_appeal 4 (some .boolean)) (qR 3 0 0) (qPc E A 0 u [.ref (E.2.2 1199), .int x, .int y]) (qQi E A 0 (fun r u1 => (qFc [11, 18] [5, 6, 7] [] [5009] u u1 ∧ IC E u1) ∧ (∃ S1 : Nat → Int32, qFD 9 S1 u1 ∧ ((((0 ≤ x ∧ x < u.1 10) ∧ (0 ≤ y ∧ y ≤ 11) ∧ ¬ csr u 4 (cvr u 2 x.toNatClampNeg).toNatClampNeg = 0 ∧ u.1 13 - cvr u 1 x.toNatClampNeg ≤ 14 ∧ u.1 11 < 60) ∧ r = 1 ∧ S1 = c_tw (u1.2.1 5) (u1.2.1 6) (u1.2.1 7) (c_se (u.1 14) (u.1 13)) S (u.1 11).toNatClampNeg ∧ u1.1 11 = u.1 11 + 1 ∧ u1.2.1 5 = upd (u.2.1 5) (u.1 11).toNatClampNeg x ∧ u1.2.1 6 = upd (u.2.1 6) (u.1 11).toNatClampNeg y ∧ u1.2.1 7 = upd (u.2.1 7) (u.1 11).toNatClampNeg (u.1 13) ∧ u1.1 18 = u.1 18 + 1) ∨ (¬ ((0 ≤ x ∧ x < u.1 10) ∧ (0 ≤ y ∧ y ≤ 11) ∧ ¬ csr u 4 (cvr u 2 x.toNatClampNeg).toNatClampNeg = 0 ∧ u.1 13 - cvr u 1 x.toNatClampNeg ≤ 14 ∧ u.1 11 < 60) ∧ r = 0 ∧ S1 = S ∧ u1.1 11 = u.1 11 ∧ u1.2.1 5 = u.2.1 5 ∧ u1.2.1 6 = u.2.1 6 ∧ u1.2.1 7 = u.2.1 7 ∧ u1.1 18 = u.1 18))))) 0 0 A := by
  refine q_met (own := RX11) (f := 3) [.ref (E.2.2 1199), .int x, .int y] (by decide) (Nat.le_of_ble_eq_true rfl) rfl ?_
  intro p0 e0 s0 m0 bl0 me0 cd0 ls hF hr hlocks hU hS hA hl
  have hl : lv_has ls 4 [(0, .ref (E.2.2 1199)), (1, .int x), (2, .int y)] := hl
  have hz8 : 0 ≤ u.1 8 ∧ u.1 8 ≤ 20 := hI.1.s8
  have hz9 : 0 ≤ u.1 9 ∧ u.1 9 ≤ 8 := hI.1.s9
  have hz10 : 0 ≤ u.1 10 ∧ u.1 10 ≤ 120 := hI.1.s10
  have hz11 : 0 ≤ u.1 11 ∧ u.1 11 ≤ 60 := hI.1.s11
  have hfr : qFc [11, 18] [5, 6, 7] [] [5009] u u := qFc.rf
  have hST := hQ
  refine lv_iload_n hF.1 hF.2.1 dX11_appeal_0 rfl (lv_at hl 1 rfl) ?_
  refine lv_iconst (v := 0) hF.1 hF.2.1 dX11_appeal_1 (by decide) ?_
  refine lv_aload_n hF.1 hF.2.1 dX11_appeal_2 rfl (lv_at hl 0 rfl) ?_
  refine q_get (v := .ref (E.2.2 99)) hF hU dX11_appeal_3 0 11 0 1100 1199 rfl rfl rfl rfl inX11 (by decide) (by decide) w_436 rfl rfl ?_
  refine q_get (v := .int (u.1 10)) hF hU dX11_appeal_6 1 0 10 10 99 rfl rfl rfl rfl inX0 (by decide) (by decide) w_172 rfl rfl ?_
  refine lv_iconst (v := 1) hF.1 hF.2.1 dX11_appeal_9 (by decide) ?_
  refine lv_isub hF.1 hF.2.1 dX11_appeal_10 ?_
  have hM9 := g_X11_isWithin l E A u x 0 ((u.1 10) - 1)
  have hR9 := q_runS (l := l) (e := e0) (below := bl0) (meth := me0) (R := qR 3 0 0) (cells := 0) (slots := 0) (st0 := [.int ((u.1 10) - 1), .int 0, .int x]) (rest := []) hF hU hS hA 3 hM9 w_468 w_469 w_99 w_470 (by decide +kernel) ⟨Nat.le_of_ble_eq_true rfl, Nat.le_of_ble_eq_true rfl⟩ dX11_appeal_11 rfl hl.1 rfl (Nat.le_of_ble_eq_true rfl) ⟨Nat.le_of_ble_eq_true rfl, Nat.le_of_ble_eq_true rfl⟩
  refine q_calli hR9 hU.2.2.2 hS (fun r_3 u_1 H locs hw_2 hU hS => ?_)
  obtain ⟨hw_2_e, hw_2⟩ := hw_2
  rw [hw_2_e] at hU
  have hw_2 : (r_3 = 1 ∧ ((0 : Int32) ≤ x ∧ x ≤ ((u.1 10) - 1))) ∨ (r_3 = 0 ∧ (¬ ((0 : Int32) ≤ x ∧ x ≤ ((u.1 10) - 1)))) := hw_2
  rcases hw_2 with ⟨rfl, b11_4⟩ | ⟨rfl, b11_4⟩
  · refine lv_if_eq (tgt := 27) hF.1 hF.2.1 dX11_appeal_14 (by decide) (fun h9 => absurd h9 (by decide)) (fun _ => ?_)
    refine lv_iload_n hF.1 hF.2.1 dX11_appeal_17 rfl (lv_at hl 2 rfl) ?_
    refine lv_iconst (v := 0) hF.1 hF.2.1 dX11_appeal_18 (by decide) ?_
    refine lv_bipush (v := 11) hF.1 hF.2.1 dX11_appeal_19 (by decide) ?_
    have hM9 := g_X11_isWithin l E A u y 0 11
    have hR9 := q_runS (l := l) (e := e0) (below := bl0) (meth := me0) (R := qR 3 0 0) (cells := 0) (slots := 0) (st0 := [.int 11, .int 0, .int y]) (rest := []) hF hU hS hA 3 hM9 w_468 w_469 w_99 w_470 (by decide +kernel) ⟨Nat.le_of_ble_eq_true rfl, Nat.le_of_ble_eq_true rfl⟩ dX11_appeal_21 rfl hl.1 rfl (Nat.le_of_ble_eq_true rfl) ⟨Nat.le_of_ble_eq_true rfl, Nat.le_of_ble_eq_true rfl⟩
    refine q_calli hR9 hU.2.2.2 hS (fun r_7 u_5 H locs hw_6 hU hS => ?_)
    obtain ⟨hw_6_e, hw_6⟩ := hw_6
    rw [hw_6_e] at hU
    have hw_6 : (r_7 = 1 ∧ ((0 : Int32) ≤ y ∧ y ≤ (11 : Int32))) ∨ (r_7 = 0 ∧ (¬ ((0 : Int32) ≤ y ∧ y ≤ (11 : Int32)))) := hw_6
    rcases hw_6 with ⟨rfl, b21_8⟩ | ⟨rfl, b21_8⟩
    · refine lv_if_ne (tgt := 29) hF.1 hF.2.1 dX11_appeal_24 (by decide) (fun _ => ?_) (fun h9 => absurd h9 (by decide))
      refine lv_aload_n hF.1 hF.2.1 dX11_appeal_29 rfl (lv_at hl 0 rfl) ?_
      refine q_get (v := .ref (E.2.2 99)) hF hU dX11_appeal_30 0 11 0 1100 1199 rfl rfl rfl rfl inX11 (by decide) (by decide) w_436 rfl rfl ?_
      refine q_get (v := .ref (E.2.2 2)) hF hU dX11_appeal_33 1 0 2 2 99 rfl rfl rfl rfl inX0 (by decide) (by decide) w_150 rfl rfl ?_
      refine lv_iload_n hF.1 hF.2.1 dX11_appeal_36 rfl (lv_at hl 1 rfl) ?_
      obtain ⟨a_9, ha_9_10_e, ha_9_10⟩ := hI.r2 x (g_X11_appeal_s_v0 u x y S hQ hz8 hz9 hz10 hz11 b11_4 b21_8)
      refine q_aald (v := .ref a_9) hF hU dX11_appeal_37 2 2 6 rfl rfl (by decide) rfl (g_X11_appeal_s_v1 u x y S hQ hz8 hz9 hz10 hz11 b11_4 b21_8) (by rw [ha_9_10_e]; rfl) ?_
      have hK_11 : qNm u a_9 x := hST.nm (g_X11_appeal_s_v2 u x y S a_9 hQ hz8 hz9 hz10 hz11 b11_4 b21_8 ha_9_10_e) ha_9_10_e
      refine lv_astore_n (lv' := [(3, .ref a_9), (0, .ref (E.2.2 1199)), (1, .int x), (2, .int y)]) hF.1 hF.2.1 dX11_appeal_38 rfl hl (by decide) rfl (fun ls hl => ?_)
      refine lv_aload_n hF.1 hF.2.1 dX11_appeal_39 rfl (lv_at hl 1 rfl) ?_
      refine q_get (v := .ref (E.2.2 99)) hF hU dX11_appeal_40 0 11 0 1100 1199 rfl rfl rfl rfl inX11 (by decide) (by decide) w_436 rfl rfl ?_
      refine q_get (v := .ref (E.2.2 0)) hF hU dX11_appeal_43 1 0 0 0 99 rfl rfl rfl rfl inX0 (by decide) (by decide) w_143 rfl rfl ?_
      refine lv_aload_n hF.1 hF.2.1 dX11_appeal_46 rfl (lv_at hl 0 rfl) ?_
      obtain ⟨k_12, fs_13, hd_15, hv_16, hv_16_2, hv_16_3, -⟩ := hI.vf ((ha_9_10).rf) 2 (by decide)
      refine q_getd (v := .int (qfd u.2.2.2.2 a_9 2)) hF hU dX11_appeal_47 k_12 10 2 hd_15 rfl inX10 (by decide) w_593 rfl hv_16 ?_
      have hb_17 : 0 ≤ qfd u.2.2.2.2 a_9 2 ∧ qfd u.2.2.2.2 a_9 2 < (u.1 8) := hv_16_2 rfl
      obtain ⟨a_18, ha_18_19_e, ha_18_19⟩ := hI.r0 (qfd u.2.2.2.2 a_9 2) (g_X11_appeal_s_v3 u x y S a_9 hQ hz8 hz9 hz10 hz11 b11_4 b21_8 ha_9_10_e hb_17)
      refine q_aald (v := .ref a_18) hF hU dX11_appeal_50 0 0 4 rfl rfl (by decide) rfl (g_X11_appeal_s_v4 u x y S a_9 hQ hz8 hz9 hz10 hz11 b11_4 b21_8 ha_9_10_e hb_17) (by rw [ha_18_19_e]; rfl) ?_
      obtain ⟨k_20, fs_21, hd_23, hv_24⟩ := hI.snf ha_18_19 4 (by decide)
      refine q_getd (v := .int (qsd u.2.2.2.2 a_18 4)) hF hU dX11_appeal_51 k_20 7 4 hd_23 rfl inX7 (by decide) w_531 rfl hv_24 ?_
      refine lv_if_eq (tgt := 74) hF.1 hF.2.1 dX11_appeal_54 (by decide) (fun c54_25 => ?_) (fun c54_25 => ?_)
      · refine lv_iconst (v := 0) hF.1 hF.2.1 dX11_appeal_74 (by decide) ?_
        exact q_iret hF hr (by decide) hlocks hU hS dX11_appeal_75 ⟨⟨hfr, hI⟩, ⟨S, hST, (g_X11_appeal_s_v5 u x y S a_9 a_18 hQ hz8 hz9 hz10 hz11 b11_4 b21_8 ha_9_10_e hb_17 ha_18_19_e c54_25)⟩⟩
      · refine lv_aload_n hF.1 hF.2.1 dX11_appeal_57 rfl (lv_at hl 1 rfl) ?_
        refine q_get (v := .ref (E.2.2 99)) hF hU dX11_appeal_58 0 11 0 1100 1199 rfl rfl rfl rfl inX11 (by decide) (by decide) w_436 rfl rfl ?_
        refine q_get (v := .int (u.1 13)) hF hU dX11_appeal_61 1 0 13 13 99 rfl rfl rfl rfl inX0 (by decide) (by decide) w_178 rfl rfl ?_
        refine lv_aload_n hF.1 hF.2.1 dX11_appeal_64 rfl (lv_at hl 0 rfl) ?_
        obtain ⟨k_26, fs_27, hd_29, hv_30, hv_30_2, hv_30_3, -⟩ := hI.vf ((ha_9_10).rf) 1 (by decide)
        refine q_getd (v := .int (qfd u.2.2.2.2 a_9 1)) hF hU dX11_appeal_65 k_26 10 1 hd_29 rfl inX10 (by decide) w_588 rfl hv_30 ?_
        refine lv_isub hF.1 hF.2.1 dX11_appeal_68 ?_
        refine lv_bipush (v := 14) hF.1 hF.2.1 dX11_appeal_69 (by decide) ?_
        refine lv_icmp_le (tgt := 76) hF.1 hF.2.1 dX11_appeal_71 (by decide) (fun c71_31 => ?_) (fun c71_31 => ?_)
        · refine lv_aload_n hF.1 hF.2.1 dX11_appeal_76 rfl (lv_at hl 1 rfl) ?_
          refine q_get (v := .ref (E.2.2 99)) hF hU dX11_appeal_77 0 11 0 1100 1199 rfl rfl rfl rfl inX11 (by decide) (by decide) w_436 rfl rfl ?_
          refine q_get (v := .int (u.1 11)) hF hU dX11_appeal_80 1 0 11 11 99 rfl rfl rfl rfl inX0 (by decide) (by decide) w_174 rfl rfl ?_
          refine lv_bipush (v := 60) hF.1 hF.2.1 dX11_appeal_83 (by decide) ?_
          refine lv_icmp_lt (tgt := 90) hF.1 hF.2.1 dX11_appeal_85 (by decide) (fun c85_32 => ?_) (fun c85_32 => ?_)
          · refine lv_aload_n hF.1 hF.2.1 dX11_appeal_90 rfl (lv_at hl 1 rfl) ?_
            refine q_get (v := .ref (E.2.2 99)) hF hU dX11_appeal_91 0 11 0 1100 1199 rfl rfl rfl rfl inX11 (by decide) (by decide) w_436 rfl rfl ?_
            refine lv_aload_n hF.1 hF.2.1 dX11_appeal_94 rfl (lv_at hl 0 rfl) ?_
            refine lv_iload_n hF.1 hF.2.1 dX11_appeal_95 rfl (lv_at hl 3 rfl) ?_
            have hM9 := g_X0_keepAppeal_s l E A u a_9 y S x hI ha_9_10 hST hK_11 (g_X11_appeal_s_v6 u x y S a_9 a_18 hQ hz8 hz9 hz10 hz11 b11_4 b21_8 ha_9_10_e hb_17 ha_18_19_e c54_25 c71_31 c85_32)
            have hR9 := q_runV (l := l) (e := e0) (below := bl0) (meth := me0) (R := qR 3 0 0) (cells := 0) (slots := 0) (st0 := [.int y, .ref a_9, .ref (E.2.2 99)]) (rest := []) hF hU hS hA 2 1 0 99 rfl rfl rfl hM9 w_682 w_683 w_684 w_100 w_685 (by decide +kernel) ⟨Nat.le_of_ble_eq_true rfl, Nat.le_of_ble_eq_true rfl⟩ dX11_appeal_96 rfl hl.1 rfl (Nat.le_of_ble_eq_true rfl) ⟨Nat.le_of_ble_eq_true rfl, Nat.le_of_ble_eq_true rfl⟩
            refine q_callv hR9 hU.2.2.2 hS (fun u_33 H locs hw_34 hU hS => ?_)
            obtain ⟨⟨hw_34_f, hI⟩, hw_34⟩ := hw_34
            have hfo := hfr
            have hfr : qFc [11, 18] [5, 6, 7] [] [5009] u u_33 := hfr.trans (hw_34_f.mono (by decide) (by decide) (by decide) (by decide))
            have hr_36 : qRv u_33 a_9 := hw_34_f.v _ ha_9_10
            have hK_37 : qNm u_33 a_9 x := qNm.fr (by exact hK_11) hw_34_f (by decide) (by decide) (by decide)
            obtain ⟨S_38, hST, hq_39⟩ := hw_34
            have hq_39 : S_38 = c_tw (u_33.2.1 5) (u_33.2.1 6) (u_33.2.1 7) (c_se (u.1 14) (u.1 13)) (S) (u.1 11).toNatClampNeg ∧ u_33.1 11 = u.1 11 + 1 ∧ u_33.2.1 5 = upd (u.2.1 5) (u.1 11).toNatClampNeg (x) ∧ u_33.2.1 6 = upd (u.2.1 6) (u.1 11).toNatClampNeg y ∧ u_33.2.1 7 = upd (u.2.1 7) (u.1 11).toNatClampNeg (u.1 13) ∧ u_33.1 18 = u.1 18 + 1 := hq_39
            refine lv_iconst (v := 1) hF.1 hF.2.1 dX11_appeal_99 (by decide) ?_
            exact q_iret hF hr (by decide) hlocks hU hS dX11_appeal_100 ⟨⟨hfr, hI⟩, ⟨S_38, hST, (g_X11_appeal_s_v7 u x y S a_9 a_18 u_33 S_38 hQ hz8 hz9 hz10 hz11 b11_4 b21_8 ha_9_10_e hb_17 ha_18_19_e c54_25 c71_31 c85_32 hq_39)⟩⟩
          · refine lv_iconst (v := 0) hF.1 hF.2.1 dX11_appeal_88 (by decide) ?_
            exact q_iret hF hr (by decide) hlocks hU hS dX11_appeal_89 ⟨⟨hfr, hI⟩, ⟨S, hST, (g_X11_appeal_s_v8 u x y S a_9 a_18 hQ hz8 hz9 hz10 hz11 b11_4 b21_8 ha_9_10_e hb_17 ha_18_19_e c54_25 c71_31 c85_32)⟩⟩
        · refine lv_iconst (v := 0) hF.1 hF.2.1 dX11_appeal_74 (by decide) ?_
          exact q_iret hF hr (by decide) hlocks hU hS dX11_appeal_75 ⟨⟨hfr, hI⟩, ⟨S, hST, (g_X11_appeal_s_v9 u x y S a_9 a_18 hQ hz8 hz9 hz10 hz11 b11_4 b21_8 ha_9_10_e hb_17 ha_18_19_e c54_25 c71_31)⟩⟩
    · refine lv_if_ne (tgt := 29) hF.1 hF.2.1 dX11_appeal_24 (by decide) (fun h9 => absurd (by decide) h9) (fun _ => ?_)
      refine lv_iconst (v := 0) hF.1 hF.2.1 dX11_appeal_27 (by decide) ?_
      exact q_iret hF hr (by decide) hlocks hU hS dX11_appeal_28 ⟨⟨hfr, hI⟩, ⟨S, hST, (g_X11_appeal_s_v10 u x y S hQ hz8 hz9 hz10 hz11 b11_4 b21_8)⟩⟩
  · refine lv_if_eq (tgt := 27) hF.1 hF.2.1 dX11_appeal_14 (by decide) (fun _ => ?_) (fun h9 => absurd (by decide) h9)
    refine lv_iconst (v := 0) hF.1 hF.2.1 dX11_appeal_27 (by decide) ?_
    exact q_iret hF hr (by decide) hlocks hU hS dX11_appeal_28 ⟨⟨hfr, hI⟩, ⟨S, hST, (g_X11_appeal_s_v11 u x y S hQ hz8 hz9 hz10 hz11 b11_4)⟩⟩
