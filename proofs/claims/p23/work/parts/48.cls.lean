set_option maxRecDepth 100000 in
theorem g_X0_turnIfSeen_v0 (u : qS) (x : Int32) (hx : 0 ≤ x.toInt ∧ x.toInt < 60) (hv : 0 ≤ u.2.1 5 x.toNatClampNeg ∧ u.2.1 5 x.toNatClampNeg < u.1 10) (hz8 : 0 ≤ u.1 8 ∧ u.1 8 ≤ 20) (hz9 : 0 ≤ u.1 9 ∧ u.1 9 ≤ 8) (hz10 : 0 ≤ u.1 10 ∧ u.1 10 ≤ 120) (hz12 : 0 ≤ u.1 12 ∧ u.1 12 ≤ 16) : vp_in (x) 60 := by
  refine g_in ?_ ?_ <;> ((try simp only [g_m1, Int32.lt_iff_toInt_lt, Int32.le_iff_toInt_le, ← Int32.toInt_inj, Int32.toInt_add, Int32.toInt_sub, Int32.toInt_mul, Int32.toInt_neg, Int32.reduceToInt, g_bm, g_bm'] at *); omega)
set_option maxRecDepth 100000 in
theorem g_X0_turnIfSeen_v1 (u : qS) (x : Int32) (r_3 : Int32) (hx : 0 ≤ x.toInt ∧ x.toInt < 60) (hv : 0 ≤ u.2.1 5 x.toNatClampNeg ∧ u.2.1 5 x.toNatClampNeg < u.1 10) (hz8 : 0 ≤ u.1 8 ∧ u.1 8 ≤ 20) (hz9 : 0 ≤ u.1 9 ∧ u.1 9 ≤ 8) (hz10 : 0 ≤ u.1 10 ∧ u.1 10 ≤ 120) (hz12 : 0 ≤ u.1 12 ∧ u.1 12 ≤ 16) (hw_2 : r_3 = c_sd u) (c10_4 : ¬ r_3 < (u.2.1 7 (x : Int32).toNatClampNeg : Int32)) : vp_in (x) 60 := by
  refine g_in ?_ ?_ <;> ((try simp only [g_m1, Int32.lt_iff_toInt_lt, Int32.le_iff_toInt_le, ← Int32.toInt_inj, Int32.toInt_add, Int32.toInt_sub, Int32.toInt_mul, Int32.toInt_neg, Int32.reduceToInt, g_bm, g_bm'] at *); omega)
set_option maxRecDepth 100000 in
theorem g_X0_turnIfSeen_v2 (u : qS) (x : Int32) (r_3 : Int32) (hx : 0 ≤ x.toInt ∧ x.toInt < 60) (hv : 0 ≤ u.2.1 5 x.toNatClampNeg ∧ u.2.1 5 x.toNatClampNeg < u.1 10) (hz8 : 0 ≤ u.1 8 ∧ u.1 8 ≤ 20) (hz9 : 0 ≤ u.1 9 ∧ u.1 9 ≤ 8) (hz10 : 0 ≤ u.1 10 ∧ u.1 10 ≤ 120) (hz12 : 0 ≤ u.1 12 ∧ u.1 12 ≤ 16) (hw_2 : r_3 = c_sd u) (c10_4 : ¬ r_3 < (u.2.1 7 (x : Int32).toNatClampNeg : Int32)) : 0 ≤ (u.2.1 5 (x : Int32).toNatClampNeg) ∧ (u.2.1 5 (x : Int32).toNatClampNeg) < (u.1 10) := by
  first | omega | ((try simp only [g_m1, Int32.lt_iff_toInt_lt, Int32.le_iff_toInt_le, ← Int32.toInt_inj, Int32.reduceToInt] at *); omega) | ((try simp only [g_m1, Int32.lt_iff_toInt_lt, Int32.le_iff_toInt_le, ← Int32.toInt_inj, Int32.reduceToInt] at *); omega) | ((try simp only [g_m1, Int32.lt_iff_toInt_lt, Int32.le_iff_toInt_le, ← Int32.toInt_inj, Int32.toInt_add, Int32.toInt_sub, Int32.toInt_mul, Int32.toInt_neg, Int32.reduceToInt, g_bm, g_bm'] at *); omega) | (have qr1 := g_rng x; have qr2 := g_rng r_3; (try simp only [g_m1, Int32.lt_iff_toInt_lt, Int32.le_iff_toInt_le, ← Int32.toInt_inj, Int32.toInt_add, Int32.toInt_sub, Int32.toInt_mul, Int32.toInt_neg, Int32.reduceToInt, g_bm, g_bm'] at *); omega) | (simp only [g_m1, Int32.lt_iff_toInt_lt, Int32.le_iff_toInt_le, ← Int32.toInt_inj, Int32.toInt_add, Int32.toInt_sub, Int32.toInt_mul, Int32.toInt_neg, Int32.reduceToInt, g_bm, g_bm'] at *; simp at *; omega) | (simp_all; done)
set_option maxRecDepth 100000 in
theorem g_X0_turnIfSeen_v3 (u : qS) (x : Int32) (r_3 : Int32) (hx : 0 ≤ x.toInt ∧ x.toInt < 60) (hv : 0 ≤ u.2.1 5 x.toNatClampNeg ∧ u.2.1 5 x.toNatClampNeg < u.1 10) (hz8 : 0 ≤ u.1 8 ∧ u.1 8 ≤ 20) (hz9 : 0 ≤ u.1 9 ∧ u.1 9 ≤ 8) (hz10 : 0 ≤ u.1 10 ∧ u.1 10 ≤ 120) (hz12 : 0 ≤ u.1 12 ∧ u.1 12 ≤ 16) (hw_2 : r_3 = c_sd u) (c10_4 : ¬ r_3 < (u.2.1 7 (x : Int32).toNatClampNeg : Int32)) : vp_in (u.2.1 5 (x : Int32).toNatClampNeg) 120 := by
  refine g_in ?_ ?_ <;> ((try simp only [g_m1, Int32.lt_iff_toInt_lt, Int32.le_iff_toInt_le, ← Int32.toInt_inj, Int32.toInt_add, Int32.toInt_sub, Int32.toInt_mul, Int32.toInt_neg, Int32.reduceToInt, g_bm, g_bm'] at *); omega)
set_option maxRecDepth 100000 in
theorem g_X0_turnIfSeen_v4 (u : qS) (x : Int32) (r_3 : Int32) (hx : 0 ≤ x.toInt ∧ x.toInt < 60) (hv : 0 ≤ u.2.1 5 x.toNatClampNeg ∧ u.2.1 5 x.toNatClampNeg < u.1 10) (hz8 : 0 ≤ u.1 8 ∧ u.1 8 ≤ 20) (hz9 : 0 ≤ u.1 9 ∧ u.1 9 ≤ 8) (hz10 : 0 ≤ u.1 10 ∧ u.1 10 ≤ 120) (hz12 : 0 ≤ u.1 12 ∧ u.1 12 ≤ 16) (hw_2 : r_3 = c_sd u) (c10_4 : ¬ r_3 < (u.2.1 7 (x : Int32).toNatClampNeg : Int32)) : vp_in (x) 60 := by
  refine g_in ?_ ?_ <;> ((try simp only [g_m1, Int32.lt_iff_toInt_lt, Int32.le_iff_toInt_le, ← Int32.toInt_inj, Int32.toInt_add, Int32.toInt_sub, Int32.toInt_mul, Int32.toInt_neg, Int32.reduceToInt, g_bm, g_bm'] at *); omega)
set_option maxHeartbeats 1000000 in
set_option maxRecDepth 100000 in
theorem g_X0_turnIfSeen (l : Launch) (E : qE) (A : Nat → Prop) (u : qS) (x : Int32) (hI : IC E u) (hx : 0 ≤ x.toInt ∧ x.toInt < 60) (hv : 0 ≤ u.2.1 5 x.toNatClampNeg ∧ u.2.1 5 x.toNatClampNeg < u.1 10) : Met l yX0_turnIfSeen (uws yX0_turnIfSeen cX0_turnIfSeen 2 none) (qR 1 0 0) (qPc E A 0 u [.ref (E.2.2 99), .int x]) (qQv E A 0 (fun u1 => (qFc [] [] [] [] u u1 ∧ IC E u1) ∧ (True))) 0 0 A := by
  refine q_met (own := RX0) (f := 1) [.ref (E.2.2 99), .int x] (by decide) (Nat.le_of_ble_eq_true rfl) rfl ?_
  intro p0 e0 s0 m0 bl0 me0 cd0 ls hF hr hlocks hU hS hA hl
  have hl : lv_has ls 2 [(0, .ref (E.2.2 99)), (1, .int x)] := hl
  have hz8 : 0 ≤ u.1 8 ∧ u.1 8 ≤ 20 := hI.1.s8
  have hz9 : 0 ≤ u.1 9 ∧ u.1 9 ≤ 8 := hI.1.s9
  have hz10 : 0 ≤ u.1 10 ∧ u.1 10 ≤ 120 := hI.1.s10
  have hz12 : 0 ≤ u.1 12 ∧ u.1 12 ≤ 16 := hI.1.s12
  have hfr : qFc [] [] [] [] u u := qFc.rf
  refine lv_aload_n hF.1 hF.2.1 dX0_turnIfSeen_0 rfl (lv_at hl 0 rfl) ?_
  refine q_get (v := .ref (E.2.2 7)) hF hU dX0_turnIfSeen_1 1 0 7 7 99 rfl rfl rfl rfl inX0 (by decide) (by decide) w_160 rfl rfl ?_
  refine lv_iload_n hF.1 hF.2.1 dX0_turnIfSeen_4 rfl (lv_at hl 1 rfl) ?_
  refine q_iald (v := u.2.1 7 (x : Int32).toNatClampNeg) hF hU dX0_turnIfSeen_5 7 7 rfl rfl (g_X0_turnIfSeen_v0 u x hx hv hz8 hz9 hz10 hz12) rfl ?_
  refine lv_aload_n hF.1 hF.2.1 dX0_turnIfSeen_6 rfl (lv_at hl 0 rfl) ?_
  have hM9 := g_X0_seenDay l E A u 
  have hR9 := q_runV (l := l) (e := e0) (below := bl0) (meth := me0) (R := qR 1 0 0) (cells := 0) (slots := 0) (st0 := [.ref (E.2.2 99), .int (u.2.1 7 (x : Int32).toNatClampNeg)]) (rest := [.int (u.2.1 7 (x : Int32).toNatClampNeg)]) hF hU hS hA 0 1 0 99 rfl rfl rfl hM9 w_483 w_484 w_485 w_100 w_486 (by decide +kernel) ⟨Nat.le_of_ble_eq_true rfl, Nat.le_of_ble_eq_true rfl⟩ dX0_turnIfSeen_7 rfl hl.1 rfl (Nat.le_of_ble_eq_true rfl) ⟨Nat.le_of_ble_eq_true rfl, Nat.le_of_ble_eq_true rfl⟩
  refine q_calli hR9 hU.2.2.2 hS (fun r_3 u_1 H locs hw_2 hU hS => ?_)
  obtain ⟨hw_2_e, hw_2⟩ := hw_2
  rw [hw_2_e] at hU
  have hw_2 : r_3 = c_sd u := hw_2
  refine lv_icmp_gt (tgt := 40) hF.1 hF.2.1 dX0_turnIfSeen_10 (by decide) (fun c10_4 => ?_) (fun c10_4 => ?_)
  · exact q_vret hF hr hlocks hU hS dX0_turnIfSeen_40 ⟨⟨hfr, hI⟩, trivial⟩
  · refine lv_aload_n hF.1 hF.2.1 dX0_turnIfSeen_13 rfl (lv_at hl 0 rfl) ?_
    refine q_get (v := .ref (E.2.2 2)) hF hU dX0_turnIfSeen_14 1 0 2 2 99 rfl rfl rfl rfl inX0 (by decide) (by decide) w_148 rfl rfl ?_
    refine lv_aload_n hF.1 hF.2.1 dX0_turnIfSeen_17 rfl (lv_at hl 0 rfl) ?_
    refine q_get (v := .ref (E.2.2 5)) hF hU dX0_turnIfSeen_18 1 0 5 5 99 rfl rfl rfl rfl inX0 (by decide) (by decide) w_158 rfl rfl ?_
    refine lv_iload_n hF.1 hF.2.1 dX0_turnIfSeen_21 rfl (lv_at hl 1 rfl) ?_
    refine q_iald (v := u.2.1 5 (x : Int32).toNatClampNeg) hF hU dX0_turnIfSeen_22 5 5 rfl rfl (g_X0_turnIfSeen_v1 u x r_3 hx hv hz8 hz9 hz10 hz12 hw_2 c10_4) rfl ?_
    obtain ⟨a_5, ha_5_6_e, ha_5_6⟩ := hI.r2 (u.2.1 5 (x : Int32).toNatClampNeg) (g_X0_turnIfSeen_v2 u x r_3 hx hv hz8 hz9 hz10 hz12 hw_2 c10_4)
    refine q_aald (v := .ref a_5) hF hU dX0_turnIfSeen_23 2 2 6 rfl rfl (by decide) rfl (g_X0_turnIfSeen_v3 u x r_3 hx hv hz8 hz9 hz10 hz12 hw_2 c10_4) (by rw [ha_5_6_e]; rfl) ?_
    refine lv_dup hF.1 hF.2.1 dX0_turnIfSeen_24 rfl ?_
    obtain ⟨k_7, fs_8, hd_10, hv_11, hv_11_2, hv_11_3, -⟩ := hI.vf ((ha_5_6).rf) 9 (by decide)
    refine q_getd (v := .int (qfd u.2.2.2.2 a_5 9)) hF hU dX0_turnIfSeen_25 k_7 10 9 hd_10 rfl inX10 (by decide) w_619 rfl hv_11 ?_
    refine lv_iconst (v := 1) hF.1 hF.2.1 dX0_turnIfSeen_28 (by decide) ?_
    refine lv_aload_n hF.1 hF.2.1 dX0_turnIfSeen_29 rfl (lv_at hl 0 rfl) ?_
    refine q_get (v := .ref (E.2.2 6)) hF hU dX0_turnIfSeen_30 1 0 6 6 99 rfl rfl rfl rfl inX0 (by decide) (by decide) w_159 rfl rfl ?_
    refine lv_iload_n hF.1 hF.2.1 dX0_turnIfSeen_33 rfl (lv_at hl 1 rfl) ?_
    refine q_iald (v := u.2.1 6 (x : Int32).toNatClampNeg) hF hU dX0_turnIfSeen_34 6 6 rfl rfl (g_X0_turnIfSeen_v4 u x r_3 hx hv hz8 hz9 hz10 hz12 hw_2 c10_4) rfl ?_
    refine lv_ishl hF.1 hF.2.1 dX0_turnIfSeen_35 ?_
    refine lv_ixor hF.1 hF.2.1 dX0_turnIfSeen_36 ?_
    obtain ⟨k_12, fs_13, x_14, hd_15, hv_16, -, -, hv_16_l⟩ := hI.v ((ha_5_6).rf) 9 (by decide)
    have hp_19 := hI.vput (j := 9) (x := (qfd u.2.2.2.2 a_5 9) ^^^ (1 <<< (u.2.1 6 (x : Int32).toNatClampNeg &&& 31))) hd_15 (by decide) (fun q => absurd q (by decide)) (fun q => absurd q (by decide))
    refine q_putd hF hU hS dX0_turnIfSeen_37 k_12 10 9 hd_15 rfl inX10 tyX10 tyX10_ok nmX10 (by decide) w_619 rfl (Or.inl rfl) rfl rfl (by rw [hv_16_l]; decide) (fun u_17 H locs hu_18 _ hU hS => ?_)
    rw [← hu_18] at hp_19
    have hI := hp_19.1
    have hp_19_f := hp_19.2 [] [] [] [] (Or.inl (by decide))
    have hfo := hfr
    have hfr : qFc [] [] [] [] u u_17 := hfr.trans (hp_19_f.mono (by decide) (by decide) (by decide) (by decide))
    exact q_vret hF hr hlocks hU hS dX0_turnIfSeen_40 ⟨⟨hfr, hI⟩, trivial⟩
set_option maxRecDepth 100000 in
theorem g_X0_keepAppeal_v0 (u : qS) (x_3 : Int32) (hc : (u.1 11).toInt < 60) (hz8 : 0 ≤ u.1 8 ∧ u.1 8 ≤ 20) (hz9 : 0 ≤ u.1 9 ∧ u.1 9 ≤ 8) (hz10 : 0 ≤ u.1 10 ∧ u.1 10 ≤ 120) (hz11 : 0 ≤ u.1 11 ∧ u.1 11 ≤ 60) (hb_6 : 0 ≤ x_3 ∧ x_3 < (u.1 10)) : vp_in (u.1 11) 60 := by
  refine g_in ?_ ?_ <;> ((try simp only [g_m1, Int32.lt_iff_toInt_lt, Int32.le_iff_toInt_le, ← Int32.toInt_inj, Int32.toInt_add, Int32.toInt_sub, Int32.toInt_mul, Int32.toInt_neg, Int32.reduceToInt, g_bm, g_bm'] at *); omega)
set_option maxRecDepth 100000 in
theorem g_X0_keepAppeal_v1 (u : qS) (x_3 : Int32) (f_7 : Nat → Int32) (hc : (u.1 11).toInt < 60) (hz8 : 0 ≤ u.1 8 ∧ u.1 8 ≤ 20) (hz9 : 0 ≤ u.1 9 ∧ u.1 9 ≤ 8) (hz10 : 0 ≤ u.1 10 ∧ u.1 10 ≤ 120) (hz11 : 0 ≤ u.1 11 ∧ u.1 11 ≤ 60) (hb_6 : 0 ≤ x_3 ∧ x_3 < (u.1 10)) (hf_7 : f_7 = upd (u.2.1 5) (u.1 11 : Int32).toNatClampNeg x_3) : vp_in (u.1 11) 60 := by
  refine g_in ?_ ?_ <;> ((try simp only [g_m1, Int32.lt_iff_toInt_lt, Int32.le_iff_toInt_le, ← Int32.toInt_inj, Int32.toInt_add, Int32.toInt_sub, Int32.toInt_mul, Int32.toInt_neg, Int32.reduceToInt, g_bm, g_bm'] at *); omega)
set_option maxRecDepth 100000 in
theorem g_X0_keepAppeal_v2 (u : qS) (x : Int32) (x_3 : Int32) (f_7 : Nat → Int32) (f_8 : Nat → Int32) (hc : (u.1 11).toInt < 60) (hz8 : 0 ≤ u.1 8 ∧ u.1 8 ≤ 20) (hz9 : 0 ≤ u.1 9 ∧ u.1 9 ≤ 8) (hz10 : 0 ≤ u.1 10 ∧ u.1 10 ≤ 120) (hz11 : 0 ≤ u.1 11 ∧ u.1 11 ≤ 60) (hb_6 : 0 ≤ x_3 ∧ x_3 < (u.1 10)) (hf_7 : f_7 = upd (u.2.1 5) (u.1 11 : Int32).toNatClampNeg x_3) (hf_8 : f_8 = upd (u.2.1 6) (u.1 11 : Int32).toNatClampNeg x) : vp_in (u.1 11) 60 := by
  refine g_in ?_ ?_ <;> ((try simp only [g_m1, Int32.lt_iff_toInt_lt, Int32.le_iff_toInt_le, ← Int32.toInt_inj, Int32.toInt_add, Int32.toInt_sub, Int32.toInt_mul, Int32.toInt_neg, Int32.reduceToInt, g_bm, g_bm'] at *); omega)
set_option maxRecDepth 100000 in
theorem g_X0_keepAppeal_v3 (u : qS) (x : Int32) (x_3 : Int32) (f_7 : Nat → Int32) (f_8 : Nat → Int32) (f_9 : Nat → Int32) (hc : (u.1 11).toInt < 60) (hz8 : 0 ≤ u.1 8 ∧ u.1 8 ≤ 20) (hz9 : 0 ≤ u.1 9 ∧ u.1 9 ≤ 8) (hz10 : 0 ≤ u.1 10 ∧ u.1 10 ≤ 120) (hz11 : 0 ≤ u.1 11 ∧ u.1 11 ≤ 60) (hb_6 : 0 ≤ x_3 ∧ x_3 < (u.1 10)) (hf_7 : f_7 = upd (u.2.1 5) (u.1 11 : Int32).toNatClampNeg x_3) (hf_8 : f_8 = upd (u.2.1 6) (u.1 11 : Int32).toNatClampNeg x) (hf_9 : f_9 = upd (u.2.1 7) (u.1 11 : Int32).toNatClampNeg (u.1 13)) : 0 ≤ ((u.1 11 : Int32)).toInt ∧ ((u.1 11 : Int32)).toInt < 60 := by
  (try simp only [g_m1, Int32.lt_iff_toInt_lt, Int32.le_iff_toInt_le, ← Int32.toInt_inj, Int32.reduceToInt] at *); omega
set_option maxRecDepth 100000 in
theorem g_X0_keepAppeal_v4 (u : qS) (x : Int32) (x_3 : Int32) (f_7 : Nat → Int32) (f_8 : Nat → Int32) (f_9 : Nat → Int32) (hc : (u.1 11).toInt < 60) (hz8 : 0 ≤ u.1 8 ∧ u.1 8 ≤ 20) (hz9 : 0 ≤ u.1 9 ∧ u.1 9 ≤ 8) (hz10 : 0 ≤ u.1 10 ∧ u.1 10 ≤ 120) (hz11 : 0 ≤ u.1 11 ∧ u.1 11 ≤ 60) (hb_6 : 0 ≤ x_3 ∧ x_3 < (u.1 10)) (hf_7 : f_7 = upd (u.2.1 5) (u.1 11 : Int32).toNatClampNeg x_3) (hf_8 : f_8 = upd (u.2.1 6) (u.1 11 : Int32).toNatClampNeg x) (hf_9 : f_9 = upd (u.2.1 7) (u.1 11 : Int32).toNatClampNeg (u.1 13)) : 0 ≤ f_7 ((u.1 11 : Int32)).toNatClampNeg ∧ f_7 ((u.1 11 : Int32)).toNatClampNeg < (u.1 10 : Int32) := by
  subst hf_7; subst hf_8; subst hf_9; rw [pk_us]; assumption
set_option maxRecDepth 100000 in
theorem g_X0_keepAppeal_v5 (u : qS) (x : Int32) (x_3 : Int32) (f_7 : Nat → Int32) (f_8 : Nat → Int32) (f_9 : Nat → Int32) (hc : (u.1 11).toInt < 60) (hz8 : 0 ≤ u.1 8 ∧ u.1 8 ≤ 20) (hz9 : 0 ≤ u.1 9 ∧ u.1 9 ≤ 8) (hz10 : 0 ≤ u.1 10 ∧ u.1 10 ≤ 120) (hz11 : 0 ≤ u.1 11 ∧ u.1 11 ≤ 60) (hb_6 : 0 ≤ x_3 ∧ x_3 < (u.1 10)) (hf_7 : f_7 = upd (u.2.1 5) (u.1 11 : Int32).toNatClampNeg x_3) (hf_8 : f_8 = upd (u.2.1 6) (u.1 11 : Int32).toNatClampNeg x) (hf_9 : f_9 = upd (u.2.1 7) (u.1 11 : Int32).toNatClampNeg (u.1 13)) : 0 ≤ ((u.1 11) + 1 : Int32) ∧ ((u.1 11) + 1 : Int32) ≤ 60 := by
  first | omega | ((try simp only [g_m1, Int32.lt_iff_toInt_lt, Int32.le_iff_toInt_le, ← Int32.toInt_inj, Int32.reduceToInt] at *); omega) | ((try have ez0 : ((u.1 11) + 1 : Int32).toInt = (u.1 11 : Int32).toInt + (1 : Int32).toInt := g_add (by (try simp only [g_m1, Int32.lt_iff_toInt_lt, Int32.le_iff_toInt_le, ← Int32.toInt_inj, Int32.reduceToInt] at *); omega) (by (try simp only [g_m1, Int32.lt_iff_toInt_lt, Int32.le_iff_toInt_le, ← Int32.toInt_inj, Int32.reduceToInt] at *); omega)); (try simp only [g_m1, Int32.lt_iff_toInt_lt, Int32.le_iff_toInt_le, ← Int32.toInt_inj, Int32.reduceToInt] at *); omega) | ((try simp only [g_m1, Int32.lt_iff_toInt_lt, Int32.le_iff_toInt_le, ← Int32.toInt_inj, Int32.toInt_add, Int32.toInt_sub, Int32.toInt_mul, Int32.toInt_neg, Int32.reduceToInt, g_bm, g_bm'] at *); omega) | (have qr2 := g_rng x; have qr3 := g_rng x_3; (try simp only [g_m1, Int32.lt_iff_toInt_lt, Int32.le_iff_toInt_le, ← Int32.toInt_inj, Int32.toInt_add, Int32.toInt_sub, Int32.toInt_mul, Int32.toInt_neg, Int32.reduceToInt, g_bm, g_bm'] at *); omega) | (simp only [g_m1, Int32.lt_iff_toInt_lt, Int32.le_iff_toInt_le, ← Int32.toInt_inj, Int32.toInt_add, Int32.toInt_sub, Int32.toInt_mul, Int32.toInt_neg, Int32.reduceToInt, g_bm, g_bm'] at *; simp at *; omega) | (simp_all; done)
set_option maxRecDepth 100000 in
theorem g_X0_keepAppeal_v6 (u : qS) (x : Int32) (x_3 : Int32) (f_7 : Nat → Int32) (f_8 : Nat → Int32) (f_9 : Nat → Int32) (hc : (u.1 11).toInt < 60) (hz8 : 0 ≤ u.1 8 ∧ u.1 8 ≤ 20) (hz9 : 0 ≤ u.1 9 ∧ u.1 9 ≤ 8) (hz10 : 0 ≤ u.1 10 ∧ u.1 10 ≤ 120) (hz11 : 0 ≤ u.1 11 ∧ u.1 11 ≤ 60) (hb_6 : 0 ≤ x_3 ∧ x_3 < (u.1 10)) (hf_7 : f_7 = upd (u.2.1 5) (u.1 11 : Int32).toNatClampNeg x_3) (hf_8 : f_8 = upd (u.2.1 6) (u.1 11 : Int32).toNatClampNeg x) (hf_9 : f_9 = upd (u.2.1 7) (u.1 11 : Int32).toNatClampNeg (u.1 13)) : ((u.1 11) + 1 : Int32).toInt = (u.1 11).toInt + 1 := by
  exact (g_up (by (try simp only [g_m1, Int32.lt_iff_toInt_lt, Int32.le_iff_toInt_le, ← Int32.toInt_inj, Int32.reduceToInt] at *); omega) (by (try simp only [g_m1, Int32.lt_iff_toInt_lt, Int32.le_iff_toInt_le, ← Int32.toInt_inj, Int32.reduceToInt] at *); omega)).1
set_option maxRecDepth 100000 in
theorem g_X0_keepAppeal_v7 (u : qS) (x : Int32) (x_3 : Int32) (f_7 : Nat → Int32) (f_8 : Nat → Int32) (f_9 : Nat → Int32) (hc : (u.1 11).toInt < 60) (hz8 : 0 ≤ u.1 8 ∧ u.1 8 ≤ 20) (hz9 : 0 ≤ u.1 9 ∧ u.1 9 ≤ 8) (hz10 : 0 ≤ u.1 10 ∧ u.1 10 ≤ 120) (hz11 : 0 ≤ u.1 11 ∧ u.1 11 ≤ 60) (hb_6 : 0 ≤ x_3 ∧ x_3 < (u.1 10)) (hf_7 : f_7 = upd (u.2.1 5) (u.1 11 : Int32).toNatClampNeg x_3) (hf_8 : f_8 = upd (u.2.1 6) (u.1 11 : Int32).toNatClampNeg x) (hf_9 : f_9 = upd (u.2.1 7) (u.1 11 : Int32).toNatClampNeg (u.1 13)) : 0 ≤ f_7 (u.1 11).toNatClampNeg ∧ f_7 (u.1 11).toNatClampNeg < u.1 10 := by
  subst hf_7; subst hf_8; subst hf_9; rw [pk_us]; first | assumption | exact hk_v.1
set_option maxRecDepth 100000 in
theorem g_X0_keepAppeal_v8 (u : qS) (x : Int32) (x_3 : Int32) (f_7 : Nat → Int32) (f_8 : Nat → Int32) (f_9 : Nat → Int32) (hc : (u.1 11).toInt < 60) (hz8 : 0 ≤ u.1 8 ∧ u.1 8 ≤ 20) (hz9 : 0 ≤ u.1 9 ∧ u.1 9 ≤ 8) (hz10 : 0 ≤ u.1 10 ∧ u.1 10 ≤ 120) (hz11 : 0 ≤ u.1 11 ∧ u.1 11 ≤ 60) (hb_6 : 0 ≤ x_3 ∧ x_3 < (u.1 10)) (hf_7 : f_7 = upd (u.2.1 5) (u.1 11 : Int32).toNatClampNeg x_3) (hf_8 : f_8 = upd (u.2.1 6) (u.1 11 : Int32).toNatClampNeg x) (hf_9 : f_9 = upd (u.2.1 7) (u.1 11 : Int32).toNatClampNeg (u.1 13)) : ((u.1 11) + 1 : Int32) = u.1 11 + 1 := by
  rfl
set_option maxHeartbeats 1000000 in
set_option maxRecDepth 100000 in
theorem g_X0_keepAppeal (l : Launch) (E : qE) (A : Nat → Prop) (u : qS) (v : Nat) (x : Int32) (hI : IC E u) (hv : qRv u v) (hc : (u.1 11).toInt < 60) : Met l yX0_keepAppeal (uws yX0_keepAppeal cX0_keepAppeal 3 none) (qR 2 0 0) (qPc E A 0 u [.ref (E.2.2 99), .ref v, .int x]) (qQv E A 0 (fun u1 => (qFc [11, 18] [5, 6, 7] [] [] u u1 ∧ IC E u1) ∧ (u1.1 11 = u.1 11 + 1))) 0 0 A := by
  refine q_met (own := RX0) (f := 2) [.ref (E.2.2 99), .ref v, .int x] (by decide) (Nat.le_of_ble_eq_true rfl) rfl ?_
  intro p0 e0 s0 m0 bl0 me0 cd0 ls hF hr hlocks hU hS hA hl
  have hl : lv_has ls 3 [(0, .ref (E.2.2 99)), (1, .ref v), (2, .int x)] := hl
  have hz8 : 0 ≤ u.1 8 ∧ u.1 8 ≤ 20 := hI.1.s8
  have hz9 : 0 ≤ u.1 9 ∧ u.1 9 ≤ 8 := hI.1.s9
  have hz10 : 0 ≤ u.1 10 ∧ u.1 10 ≤ 120 := hI.1.s10
  have hz11 : 0 ≤ u.1 11 ∧ u.1 11 ≤ 60 := hI.1.s11
  have hfr : qFc [11, 18] [5, 6, 7] [] [] u u := qFc.rf
  refine lv_aload_n hF.1 hF.2.1 dX0_keepAppeal_0 rfl (lv_at hl 0 rfl) ?_
  refine q_get (v := .ref (E.2.2 5)) hF hU dX0_keepAppeal_1 1 0 5 5 99 rfl rfl rfl rfl inX0 (by decide) (by decide) w_158 rfl rfl ?_
  refine lv_aload_n hF.1 hF.2.1 dX0_keepAppeal_4 rfl (lv_at hl 0 rfl) ?_
  refine q_get (v := .int (u.1 11)) hF hU dX0_keepAppeal_5 1 0 11 11 99 rfl rfl rfl rfl inX0 (by decide) (by decide) w_173 rfl rfl ?_
  refine lv_aload_n hF.1 hF.2.1 dX0_keepAppeal_8 rfl (lv_at hl 1 rfl) ?_
  obtain ⟨k_1, x_3, fs_2, hd_4, hv_5_0, hv_5_1⟩ := id (hv)
  refine q_getd (v := .int x_3) hF hU dX0_keepAppeal_9 k_1 10 0 hd_4 rfl inX10 (by decide) w_585 rfl rfl ?_
  have hb_6 : 0 ≤ x_3 ∧ x_3 < (u.1 10) := And.intro hv_5_0 hv_5_1
  refine q_iast hF hU hS dX0_keepAppeal_12 5 5 rfl rfl (g_X0_keepAppeal_v0 u x_3 hc hz8 hz9 hz10 hz11 hb_6) (fun f_7 H locs hg9 hU hS => ?_)
  have hf_7 : f_7 = upd (u.2.1 5) (u.1 11 : Int32).toNatClampNeg x_3 := hg9
  have hfr : qFc [11, 18] [5, 6, 7] [] [] u (qsF u 5 f_7) := hfr.setF (by decide)
  have hI : IC E (qsF u 5 f_7) := (by rw [hf_7]; exact hI.w5)
  refine lv_aload_n hF.1 hF.2.1 dX0_keepAppeal_13 rfl (lv_at hl 0 rfl) ?_
  refine q_get (v := .ref (E.2.2 6)) hF hU dX0_keepAppeal_14 1 0 6 6 99 rfl rfl rfl rfl inX0 (by decide) (by decide) w_159 rfl rfl ?_
  refine lv_aload_n hF.1 hF.2.1 dX0_keepAppeal_17 rfl (lv_at hl 0 rfl) ?_
  refine q_get (v := .int (u.1 11)) hF hU dX0_keepAppeal_18 1 0 11 11 99 rfl rfl rfl rfl inX0 (by decide) (by decide) w_173 rfl rfl ?_
  refine lv_iload_n hF.1 hF.2.1 dX0_keepAppeal_21 rfl (lv_at hl 2 rfl) ?_
  refine q_iast hF hU hS dX0_keepAppeal_22 6 6 rfl rfl (g_X0_keepAppeal_v1 u x_3 f_7 hc hz8 hz9 hz10 hz11 hb_6 hf_7) (fun f_8 H locs hg9 hU hS => ?_)
  have hf_8 : f_8 = upd (u.2.1 6) (u.1 11 : Int32).toNatClampNeg x := hg9
  have hfr : qFc [11, 18] [5, 6, 7] [] [] u (qsF (qsF u 5 f_7) 6 f_8) := hfr.setF (by decide)
  have hI : IC E (qsF (qsF u 5 f_7) 6 f_8) := hI.sF (by decide)
  refine lv_aload_n hF.1 hF.2.1 dX0_keepAppeal_23 rfl (lv_at hl 0 rfl) ?_
  refine q_get (v := .ref (E.2.2 7)) hF hU dX0_keepAppeal_24 1 0 7 7 99 rfl rfl rfl rfl inX0 (by decide) (by decide) w_160 rfl rfl ?_
  refine lv_aload_n hF.1 hF.2.1 dX0_keepAppeal_27 rfl (lv_at hl 0 rfl) ?_
  refine q_get (v := .int (u.1 11)) hF hU dX0_keepAppeal_28 1 0 11 11 99 rfl rfl rfl rfl inX0 (by decide) (by decide) w_173 rfl rfl ?_
  refine lv_aload_n hF.1 hF.2.1 dX0_keepAppeal_31 rfl (lv_at hl 0 rfl) ?_
  refine q_get (v := .int (u.1 13)) hF hU dX0_keepAppeal_32 1 0 13 13 99 rfl rfl rfl rfl inX0 (by decide) (by decide) w_179 rfl (congrArg Value.int (hfr.1 13 (by decide))) ?_
  refine q_iast hF hU hS dX0_keepAppeal_35 7 7 rfl rfl (g_X0_keepAppeal_v2 u x x_3 f_7 f_8 hc hz8 hz9 hz10 hz11 hb_6 hf_7 hf_8) (fun f_9 H locs hg9 hU hS => ?_)
  have hf_9 : f_9 = upd (u.2.1 7) (u.1 11 : Int32).toNatClampNeg (u.1 13) := hg9
  have hfr : qFc [11, 18] [5, 6, 7] [] [] u (qsF (qsF (qsF u 5 f_7) 6 f_8) 7 f_9) := hfr.setF (by decide)
  have hI : IC E (qsF (qsF (qsF u 5 f_7) 6 f_8) 7 f_9) := hI.sF (by decide)
  refine lv_aload_n hF.1 hF.2.1 dX0_keepAppeal_36 rfl (lv_at hl 0 rfl) ?_
  refine lv_aload_n hF.1 hF.2.1 dX0_keepAppeal_37 rfl (lv_at hl 0 rfl) ?_
  refine q_get (v := .int (u.1 11)) hF hU dX0_keepAppeal_38 1 0 11 11 99 rfl rfl rfl rfl inX0 (by decide) (by decide) w_173 rfl rfl ?_
  have hM9 := g_X0_turnIfSeen l E A (qsF (qsF (qsF u 5 f_7) 6 f_8) 7 f_9) (u.1 11) hI (g_X0_keepAppeal_v3 u x x_3 f_7 f_8 f_9 hc hz8 hz9 hz10 hz11 hb_6 hf_7 hf_8 hf_9) (by rw [(hfr.1 10 (by decide))]; exact (g_X0_keepAppeal_v4 u x x_3 f_7 f_8 f_9 hc hz8 hz9 hz10 hz11 hb_6 hf_7 hf_8 hf_9))
  have hR9 := q_runV (l := l) (e := e0) (below := bl0) (meth := me0) (R := qR 2 0 0) (cells := 0) (slots := 0) (st0 := [.int (u.1 11), .ref (E.2.2 99)]) (rest := []) hF hU hS hA 1 1 0 99 rfl rfl rfl hM9 w_479 w_481 w_0 w_100 w_482 (by decide +kernel) ⟨Nat.le_of_ble_eq_true rfl, Nat.le_of_ble_eq_true rfl⟩ dX0_keepAppeal_41 rfl hl.1 rfl (Nat.le_of_ble_eq_true rfl) ⟨Nat.le_of_ble_eq_true rfl, Nat.le_of_ble_eq_true rfl⟩
  refine q_callv hR9 hU.2.2.2 hS (fun u_10 H locs hw_11 hU hS => ?_)
  obtain ⟨⟨hw_11_f, hI⟩, hw_11⟩ := hw_11
  have hfo := hfr
  have hfr : qFc [11, 18] [5, 6, 7] [] [] u u_10 := hfr.trans (hw_11_f.mono (by decide) (by decide) (by decide) (by decide))
  have e_13 : u_10.1 11 = (u.1 11) := (hw_11_f.1 11 (by decide)).trans rfl
  have e_14 : u_10.1 18 = (u.1 18) := (hw_11_f.1 18 (by decide)).trans rfl
  have e_15 : u_10.2.1 5 = f_7 := (hw_11_f.2.1 5 (by decide)).trans rfl
  have e_16 : u_10.2.1 6 = f_8 := (hw_11_f.2.1 6 (by decide)).trans rfl
  have e_17 : u_10.2.1 7 = f_9 := (hw_11_f.2.1 7 (by decide)).trans rfl
  have hr_18 : qRv u_10 v := hw_11_f.v _ hv
  refine lv_aload_n hF.1 hF.2.1 dX0_keepAppeal_44 rfl (lv_at hl 0 rfl) ?_
  refine lv_dup hF.1 hF.2.1 dX0_keepAppeal_45 rfl ?_
  refine q_get (v := .int (u.1 11)) hF hU dX0_keepAppeal_46 1 0 11 11 99 rfl rfl rfl rfl inX0 (by decide) (by decide) w_173 rfl (congrArg Value.int e_13) ?_
  refine lv_iconst (v := 1) hF.1 hF.2.1 dX0_keepAppeal_49 (by decide) ?_
  refine lv_iadd hF.1 hF.2.1 dX0_keepAppeal_50 ?_
  refine q_put hF hU hS dX0_keepAppeal_51 1 0 11 11 99 rfl rfl rfl rfl inX0 tyX0 tyX0_ok nmX0 (by decide) (by decide) rfl w_173 rfl rfl rfl rfl (fun H locs hU hS => ?_)
  have hfr : qFc [11, 18] [5, 6, 7] [] [] u (qsI u_10 11 ((u.1 11) + 1)) := hfr.setI (by decide) (fun q => absurd q (by decide))
  have hI : IC E (qsI u_10 11 ((u.1 11) + 1)) := hI.s11 (g_X0_keepAppeal_v5 u x x_3 f_7 f_8 f_9 hc hz8 hz9 hz10 hz11 hb_6 hf_7 hf_8 hf_9) (fun i a b => (g_lt1 (g_X0_keepAppeal_v6 u x x_3 f_7 f_8 f_9 hc hz8 hz9 hz10 hz11 hb_6 hf_7 hf_8 hf_9) b).elim (fun q => hI.r5 i ⟨a, by rw [show u_10.1 11 = u.1 11 from e_13]; exact q⟩) (fun q => by rw [q]; rw [show u_10.2.1 5 = f_7 from e_15, show u_10.1 10 = u.1 10 from (hfr.1 10 (by decide))]; exact (g_X0_keepAppeal_v7 u x x_3 f_7 f_8 f_9 hc hz8 hz9 hz10 hz11 hb_6 hf_7 hf_8 hf_9)))
  refine lv_aload_n hF.1 hF.2.1 dX0_keepAppeal_54 rfl (lv_at hl 0 rfl) ?_
  refine lv_dup hF.1 hF.2.1 dX0_keepAppeal_55 rfl ?_
  refine q_get (v := .int (u.1 18)) hF hU dX0_keepAppeal_56 1 0 18 18 99 rfl rfl rfl rfl inX0 (by decide) (by decide) w_191 rfl (congrArg Value.int e_14) ?_
  refine lv_iconst (v := 1) hF.1 hF.2.1 dX0_keepAppeal_59 (by decide) ?_
  refine lv_iadd hF.1 hF.2.1 dX0_keepAppeal_60 ?_
  refine q_put hF hU hS dX0_keepAppeal_61 1 0 18 18 99 rfl rfl rfl rfl inX0 tyX0 tyX0_ok nmX0 (by decide) (by decide) rfl w_191 rfl rfl rfl rfl (fun H locs hU hS => ?_)
  have hfr : qFc [11, 18] [5, 6, 7] [] [] u (qsI (qsI u_10 11 ((u.1 11) + 1)) 18 ((u.1 18) + 1)) := hfr.setI (by decide) (fun q => absurd q (by decide))
  have hI : IC E (qsI (qsI u_10 11 ((u.1 11) + 1)) 18 ((u.1 18) + 1)) := hI.sI (by decide)
  exact q_vret hF hr hlocks hU hS dX0_keepAppeal_64 ⟨⟨hfr, hI⟩, (g_X0_keepAppeal_v8 u x x_3 f_7 f_8 f_9 hc hz8 hz9 hz10 hz11 hb_6 hf_7 hf_8 hf_9)⟩
set_option maxRecDepth 100000 in
theorem g_X0_lookFrom_v0 (u : qS) (x : Int32) (x2 : Int32) (uc : qS) (hz8 : 0 ≤ u.1 8 ∧ u.1 8 ≤ 20) (hz9 : 0 ≤ u.1 9 ∧ u.1 9 ≤ 8) (hz10 : 0 ≤ u.1 10 ∧ u.1 10 ≤ 120) (hz11 : 0 ≤ u.1 11 ∧ u.1 11 ≤ 60) (h_k : 0 ≤ x2) (h_4 : uc.1 14 = c_lf x (u.1 13)) (c24_1 : (u.1 10) ≤ (x2 : Int32)) : 0 ≤ (0 : Int32) := by
  first | omega | ((try simp only [g_m1, Int32.lt_iff_toInt_lt, Int32.le_iff_toInt_le, ← Int32.toInt_inj, Int32.reduceToInt] at *); omega) | ((try simp only [g_m1, Int32.lt_iff_toInt_lt, Int32.le_iff_toInt_le, ← Int32.toInt_inj, Int32.reduceToInt] at *); omega) | ((try simp only [g_m1, Int32.lt_iff_toInt_lt, Int32.le_iff_toInt_le, ← Int32.toInt_inj, Int32.toInt_add, Int32.toInt_sub, Int32.toInt_mul, Int32.toInt_neg, Int32.reduceToInt, g_bm, g_bm'] at *); omega) | (have qr1 := g_rng x; have qr2 := g_rng x2; (try simp only [g_m1, Int32.lt_iff_toInt_lt, Int32.le_iff_toInt_le, ← Int32.toInt_inj, Int32.toInt_add, Int32.toInt_sub, Int32.toInt_mul, Int32.toInt_neg, Int32.reduceToInt, g_bm, g_bm'] at *); omega) | (simp only [g_m1, Int32.lt_iff_toInt_lt, Int32.le_iff_toInt_le, ← Int32.toInt_inj, Int32.toInt_add, Int32.toInt_sub, Int32.toInt_mul, Int32.toInt_neg, Int32.reduceToInt, g_bm, g_bm'] at *; simp at *; omega) | (simp_all; done)
set_option maxRecDepth 100000 in
theorem g_X0_lookFrom_v1 (u : qS) (x : Int32) (x2 : Int32) (uc : qS) (hz8 : 0 ≤ u.1 8 ∧ u.1 8 ≤ 20) (hz9 : 0 ≤ u.1 9 ∧ u.1 9 ≤ 8) (hz10 : 0 ≤ u.1 10 ∧ u.1 10 ≤ 120) (hz11 : 0 ≤ u.1 11 ∧ u.1 11 ≤ 60) (h_k : 0 ≤ x2) (h_4 : uc.1 14 = c_lf x (u.1 13)) (c24_1 : (u.1 10) ≤ (x2 : Int32)) : (uc.1 14 : Int32) = c_lf x (u.1 13) := by
  exact h_4
set_option maxRecDepth 100000 in
theorem g_X0_lookFrom_v2 (u : qS) (x : Int32) (x2 : Int32) (uc : qS) (hz8 : 0 ≤ u.1 8 ∧ u.1 8 ≤ 20) (hz9 : 0 ≤ u.1 9 ∧ u.1 9 ≤ 8) (hz10 : 0 ≤ u.1 10 ∧ u.1 10 ≤ 120) (hz11 : 0 ≤ u.1 11 ∧ u.1 11 ≤ 60) (h_k : 0 ≤ x2) (h_4 : uc.1 14 = c_lf x (u.1 13)) (c24_1 : (u.1 10) ≤ (x2 : Int32)) : ((u.1 11).toInt - (0 : Int32).toInt).toNat < ((u.1 10).toInt - x2.toInt).toNat + 100 := by
  first | omega | ((try simp only [g_m1, Int32.lt_iff_toInt_lt, Int32.le_iff_toInt_le, ← Int32.toInt_inj, Int32.reduceToInt] at *); omega) | ((try simp only [g_m1, Int32.lt_iff_toInt_lt, Int32.le_iff_toInt_le, ← Int32.toInt_inj, Int32.reduceToInt] at *); omega) | ((try simp only [g_m1, Int32.lt_iff_toInt_lt, Int32.le_iff_toInt_le, ← Int32.toInt_inj, Int32.toInt_add, Int32.toInt_sub, Int32.toInt_mul, Int32.toInt_neg, Int32.reduceToInt, g_bm, g_bm'] at *); omega) | (have qr1 := g_rng x; have qr2 := g_rng x2; (try simp only [g_m1, Int32.lt_iff_toInt_lt, Int32.le_iff_toInt_le, ← Int32.toInt_inj, Int32.toInt_add, Int32.toInt_sub, Int32.toInt_mul, Int32.toInt_neg, Int32.reduceToInt, g_bm, g_bm'] at *); omega) | (simp only [g_m1, Int32.lt_iff_toInt_lt, Int32.le_iff_toInt_le, ← Int32.toInt_inj, Int32.toInt_add, Int32.toInt_sub, Int32.toInt_mul, Int32.toInt_neg, Int32.reduceToInt, g_bm, g_bm'] at *; simp at *; omega) | (simp_all; done)
set_option maxRecDepth 100000 in
theorem g_X0_lookFrom_v3 (u : qS) (x : Int32) (x2 : Int32) (uc : qS) (hz8 : 0 ≤ u.1 8 ∧ u.1 8 ≤ 20) (hz9 : 0 ≤ u.1 9 ∧ u.1 9 ≤ 8) (hz10 : 0 ≤ u.1 10 ∧ u.1 10 ≤ 120) (hz11 : 0 ≤ u.1 11 ∧ u.1 11 ≤ 60) (h_k : 0 ≤ x2) (h_4 : uc.1 14 = c_lf x (u.1 13)) (c24_1 : ¬ (u.1 10) ≤ (x2 : Int32)) : 0 ≤ x2 ∧ x2 < (u.1 10) := by
  first | omega | ((try simp only [g_m1, Int32.lt_iff_toInt_lt, Int32.le_iff_toInt_le, ← Int32.toInt_inj, Int32.reduceToInt] at *); omega) | ((try simp only [g_m1, Int32.lt_iff_toInt_lt, Int32.le_iff_toInt_le, ← Int32.toInt_inj, Int32.reduceToInt] at *); omega) | ((try simp only [g_m1, Int32.lt_iff_toInt_lt, Int32.le_iff_toInt_le, ← Int32.toInt_inj, Int32.toInt_add, Int32.toInt_sub, Int32.toInt_mul, Int32.toInt_neg, Int32.reduceToInt, g_bm, g_bm'] at *); omega) | (have qr1 := g_rng x; have qr2 := g_rng x2; (try simp only [g_m1, Int32.lt_iff_toInt_lt, Int32.le_iff_toInt_le, ← Int32.toInt_inj, Int32.toInt_add, Int32.toInt_sub, Int32.toInt_mul, Int32.toInt_neg, Int32.reduceToInt, g_bm, g_bm'] at *); omega) | (simp only [g_m1, Int32.lt_iff_toInt_lt, Int32.le_iff_toInt_le, ← Int32.toInt_inj, Int32.toInt_add, Int32.toInt_sub, Int32.toInt_mul, Int32.toInt_neg, Int32.reduceToInt, g_bm, g_bm'] at *; simp at *; omega) | (simp_all; done)
set_option maxRecDepth 100000 in
theorem g_X0_lookFrom_v4 (u : qS) (x : Int32) (x2 : Int32) (uc : qS) (hz8 : 0 ≤ u.1 8 ∧ u.1 8 ≤ 20) (hz9 : 0 ≤ u.1 9 ∧ u.1 9 ≤ 8) (hz10 : 0 ≤ u.1 10 ∧ u.1 10 ≤ 120) (hz11 : 0 ≤ u.1 11 ∧ u.1 11 ≤ 60) (h_k : 0 ≤ x2) (h_4 : uc.1 14 = c_lf x (u.1 13)) (c24_1 : ¬ (u.1 10) ≤ (x2 : Int32)) : vp_in (x2) 120 := by
  refine g_in ?_ ?_ <;> ((try simp only [g_m1, Int32.lt_iff_toInt_lt, Int32.le_iff_toInt_le, ← Int32.toInt_inj, Int32.toInt_add, Int32.toInt_sub, Int32.toInt_mul, Int32.toInt_neg, Int32.reduceToInt, g_bm, g_bm'] at *); omega)
set_option maxRecDepth 100000 in
theorem g_X0_lookFrom_v5 (u : qS) (x : Int32) (x2 : Int32) (uc : qS) (hz8 : 0 ≤ u.1 8 ∧ u.1 8 ≤ 20) (hz9 : 0 ≤ u.1 9 ∧ u.1 9 ≤ 8) (hz10 : 0 ≤ u.1 10 ∧ u.1 10 ≤ 120) (hz11 : 0 ≤ u.1 11 ∧ u.1 11 ≤ 60) (h_k : 0 ≤ x2) (h_4 : uc.1 14 = c_lf x (u.1 13)) (c24_1 : ¬ (u.1 10) ≤ (x2 : Int32)) : 0 ≤ x2 ∧ x2 < (u.1 10) := by
  first | omega | ((try simp only [g_m1, Int32.lt_iff_toInt_lt, Int32.le_iff_toInt_le, ← Int32.toInt_inj, Int32.reduceToInt] at *); omega) | ((try simp only [g_m1, Int32.lt_iff_toInt_lt, Int32.le_iff_toInt_le, ← Int32.toInt_inj, Int32.reduceToInt] at *); omega) | ((try simp only [g_m1, Int32.lt_iff_toInt_lt, Int32.le_iff_toInt_le, ← Int32.toInt_inj, Int32.toInt_add, Int32.toInt_sub, Int32.toInt_mul, Int32.toInt_neg, Int32.reduceToInt, g_bm, g_bm'] at *); omega) | (have qr1 := g_rng x; have qr2 := g_rng x2; (try simp only [g_m1, Int32.lt_iff_toInt_lt, Int32.le_iff_toInt_le, ← Int32.toInt_inj, Int32.toInt_add, Int32.toInt_sub, Int32.toInt_mul, Int32.toInt_neg, Int32.reduceToInt, g_bm, g_bm'] at *); omega) | (simp only [g_m1, Int32.lt_iff_toInt_lt, Int32.le_iff_toInt_le, ← Int32.toInt_inj, Int32.toInt_add, Int32.toInt_sub, Int32.toInt_mul, Int32.toInt_neg, Int32.reduceToInt, g_bm, g_bm'] at *; simp at *; omega) | (simp_all; done)
set_option maxRecDepth 100000 in
theorem g_X0_lookFrom_v6 (u : qS) (x : Int32) (x2 : Int32) (uc : qS) (hz8 : 0 ≤ u.1 8 ∧ u.1 8 ≤ 20) (hz9 : 0 ≤ u.1 9 ∧ u.1 9 ≤ 8) (hz10 : 0 ≤ u.1 10 ∧ u.1 10 ≤ 120) (hz11 : 0 ≤ u.1 11 ∧ u.1 11 ≤ 60) (h_k : 0 ≤ x2) (h_4 : uc.1 14 = c_lf x (u.1 13)) (c24_1 : ¬ (u.1 10) ≤ (x2 : Int32)) : vp_in (x2) 120 := by
  refine g_in ?_ ?_ <;> ((try simp only [g_m1, Int32.lt_iff_toInt_lt, Int32.le_iff_toInt_le, ← Int32.toInt_inj, Int32.toInt_add, Int32.toInt_sub, Int32.toInt_mul, Int32.toInt_neg, Int32.reduceToInt, g_bm, g_bm'] at *); omega)
set_option maxRecDepth 100000 in
theorem g_X0_lookFrom_v7 (u : qS) (x : Int32) (x2 : Int32) (uc : qS) (hz8 : 0 ≤ u.1 8 ∧ u.1 8 ≤ 20) (hz9 : 0 ≤ u.1 9 ∧ u.1 9 ≤ 8) (hz10 : 0 ≤ u.1 10 ∧ u.1 10 ≤ 120) (hz11 : 0 ≤ u.1 11 ∧ u.1 11 ≤ 60) (h_k : 0 ≤ x2) (h_4 : uc.1 14 = c_lf x (u.1 13)) (c24_1 : ¬ (u.1 10) ≤ (x2 : Int32)) : 0 ≤ (x2 + 1) := by
  first | omega | ((try simp only [g_m1, Int32.lt_iff_toInt_lt, Int32.le_iff_toInt_le, ← Int32.toInt_inj, Int32.reduceToInt] at *); omega) | ((try have ez0 : (x2 + 1 : Int32).toInt = (x2 : Int32).toInt + (1 : Int32).toInt := g_add (by (try simp only [g_m1, Int32.lt_iff_toInt_lt, Int32.le_iff_toInt_le, ← Int32.toInt_inj, Int32.reduceToInt] at *); omega) (by (try simp only [g_m1, Int32.lt_iff_toInt_lt, Int32.le_iff_toInt_le, ← Int32.toInt_inj, Int32.reduceToInt] at *); omega)); (try simp only [g_m1, Int32.lt_iff_toInt_lt, Int32.le_iff_toInt_le, ← Int32.toInt_inj, Int32.reduceToInt] at *); omega) | ((try simp only [g_m1, Int32.lt_iff_toInt_lt, Int32.le_iff_toInt_le, ← Int32.toInt_inj, Int32.toInt_add, Int32.toInt_sub, Int32.toInt_mul, Int32.toInt_neg, Int32.reduceToInt, g_bm, g_bm'] at *); omega) | (have qr1 := g_rng x; have qr2 := g_rng x2; (try simp only [g_m1, Int32.lt_iff_toInt_lt, Int32.le_iff_toInt_le, ← Int32.toInt_inj, Int32.toInt_add, Int32.toInt_sub, Int32.toInt_mul, Int32.toInt_neg, Int32.reduceToInt, g_bm, g_bm'] at *); omega) | (simp only [g_m1, Int32.lt_iff_toInt_lt, Int32.le_iff_toInt_le, ← Int32.toInt_inj, Int32.toInt_add, Int32.toInt_sub, Int32.toInt_mul, Int32.toInt_neg, Int32.reduceToInt, g_bm, g_bm'] at *; simp at *; omega) | (simp_all; done)
set_option maxRecDepth 100000 in
theorem g_X0_lookFrom_v8 (u : qS) (x : Int32) (x2 : Int32) (uc : qS) (hz8 : 0 ≤ u.1 8 ∧ u.1 8 ≤ 20) (hz9 : 0 ≤ u.1 9 ∧ u.1 9 ≤ 8) (hz10 : 0 ≤ u.1 10 ∧ u.1 10 ≤ 120) (hz11 : 0 ≤ u.1 11 ∧ u.1 11 ≤ 60) (h_k : 0 ≤ x2) (h_4 : uc.1 14 = c_lf x (u.1 13)) (c24_1 : ¬ (u.1 10) ≤ (x2 : Int32)) : (uc.1 14 : Int32) = c_lf x (u.1 13) := by
  exact h_4
set_option maxRecDepth 100000 in
theorem g_X0_lookFrom_v9 (u : qS) (x : Int32) (x2 : Int32) (uc : qS) (hz8 : 0 ≤ u.1 8 ∧ u.1 8 ≤ 20) (hz9 : 0 ≤ u.1 9 ∧ u.1 9 ≤ 8) (hz10 : 0 ≤ u.1 10 ∧ u.1 10 ≤ 120) (hz11 : 0 ≤ u.1 11 ∧ u.1 11 ≤ 60) (h_k : 0 ≤ x2) (h_4 : uc.1 14 = c_lf x (u.1 13)) (c24_1 : ¬ (u.1 10) ≤ (x2 : Int32)) : ((u.1 10).toInt - (x2 + 1).toInt).toNat + 100 < ((u.1 10).toInt - x2.toInt).toNat + 100 := by
  first | omega | ((try simp only [g_m1, Int32.lt_iff_toInt_lt, Int32.le_iff_toInt_le, ← Int32.toInt_inj, Int32.reduceToInt] at *); omega) | ((try have ez0 : (x2 + 1 : Int32).toInt = (x2 : Int32).toInt + (1 : Int32).toInt := g_add (by (try simp only [g_m1, Int32.lt_iff_toInt_lt, Int32.le_iff_toInt_le, ← Int32.toInt_inj, Int32.reduceToInt] at *); omega) (by (try simp only [g_m1, Int32.lt_iff_toInt_lt, Int32.le_iff_toInt_le, ← Int32.toInt_inj, Int32.reduceToInt] at *); omega)); (try simp only [g_m1, Int32.lt_iff_toInt_lt, Int32.le_iff_toInt_le, ← Int32.toInt_inj, Int32.reduceToInt] at *); omega) | ((try simp only [g_m1, Int32.lt_iff_toInt_lt, Int32.le_iff_toInt_le, ← Int32.toInt_inj, Int32.toInt_add, Int32.toInt_sub, Int32.toInt_mul, Int32.toInt_neg, Int32.reduceToInt, g_bm, g_bm'] at *); omega) | (have qr1 := g_rng x; have qr2 := g_rng x2; (try simp only [g_m1, Int32.lt_iff_toInt_lt, Int32.le_iff_toInt_le, ← Int32.toInt_inj, Int32.toInt_add, Int32.toInt_sub, Int32.toInt_mul, Int32.toInt_neg, Int32.reduceToInt, g_bm, g_bm'] at *); omega) | (simp only [g_m1, Int32.lt_iff_toInt_lt, Int32.le_iff_toInt_le, ← Int32.toInt_inj, Int32.toInt_add, Int32.toInt_sub, Int32.toInt_mul, Int32.toInt_neg, Int32.reduceToInt, g_bm, g_bm'] at *; simp at *; omega) | (simp_all; done)
set_option maxRecDepth 100000 in
theorem g_X0_lookFrom_v10 (u : qS) (x : Int32) (x2 : Int32) (uc : qS) (hz8 : 0 ≤ u.1 8 ∧ u.1 8 ≤ 20) (hz9 : 0 ≤ u.1 9 ∧ u.1 9 ≤ 8) (hz10 : 0 ≤ u.1 10 ∧ u.1 10 ≤ 120) (hz11 : 0 ≤ u.1 11 ∧ u.1 11 ≤ 60) (h_k : 0 ≤ x2) (h_4 : uc.1 14 = c_lf x (u.1 13)) (c58_21 : (u.1 11) ≤ (x2 : Int32)) : (uc.1 14 : Int32) = c_lf x (u.1 13) := by
  exact h_4
set_option maxRecDepth 100000 in
theorem g_X0_lookFrom_v11 (u : qS) (x : Int32) (x2 : Int32) (uc : qS) (hz8 : 0 ≤ u.1 8 ∧ u.1 8 ≤ 20) (hz9 : 0 ≤ u.1 9 ∧ u.1 9 ≤ 8) (hz10 : 0 ≤ u.1 10 ∧ u.1 10 ≤ 120) (hz11 : 0 ≤ u.1 11 ∧ u.1 11 ≤ 60) (h_k : 0 ≤ x2) (h_4 : uc.1 14 = c_lf x (u.1 13)) (c58_21 : ¬ (u.1 11) ≤ (x2 : Int32)) : 0 ≤ x2 ∧ x2 < u.1 11 := by
  first | omega | ((try simp only [g_m1, Int32.lt_iff_toInt_lt, Int32.le_iff_toInt_le, ← Int32.toInt_inj, Int32.reduceToInt] at *); omega) | ((try simp only [g_m1, Int32.lt_iff_toInt_lt, Int32.le_iff_toInt_le, ← Int32.toInt_inj, Int32.reduceToInt] at *); omega) | ((try simp only [g_m1, Int32.lt_iff_toInt_lt, Int32.le_iff_toInt_le, ← Int32.toInt_inj, Int32.toInt_add, Int32.toInt_sub, Int32.toInt_mul, Int32.toInt_neg, Int32.reduceToInt, g_bm, g_bm'] at *); omega) | (have qr1 := g_rng x; have qr2 := g_rng x2; (try simp only [g_m1, Int32.lt_iff_toInt_lt, Int32.le_iff_toInt_le, ← Int32.toInt_inj, Int32.toInt_add, Int32.toInt_sub, Int32.toInt_mul, Int32.toInt_neg, Int32.reduceToInt, g_bm, g_bm'] at *); omega) | (simp only [g_m1, Int32.lt_iff_toInt_lt, Int32.le_iff_toInt_le, ← Int32.toInt_inj, Int32.toInt_add, Int32.toInt_sub, Int32.toInt_mul, Int32.toInt_neg, Int32.reduceToInt, g_bm, g_bm'] at *; simp at *; omega) | (simp_all; done)
set_option maxRecDepth 100000 in
theorem g_X0_lookFrom_v12 (u : qS) (x : Int32) (x2 : Int32) (uc : qS) (hz8 : 0 ≤ u.1 8 ∧ u.1 8 ≤ 20) (hz9 : 0 ≤ u.1 9 ∧ u.1 9 ≤ 8) (hz10 : 0 ≤ u.1 10 ∧ u.1 10 ≤ 120) (hz11 : 0 ≤ u.1 11 ∧ u.1 11 ≤ 60) (h_k : 0 ≤ x2) (h_4 : uc.1 14 = c_lf x (u.1 13)) (c58_21 : ¬ (u.1 11) ≤ (x2 : Int32)) (hq_22 : 0 ≤ u.2.1 5 x2.toNatClampNeg ∧ u.2.1 5 x2.toNatClampNeg < u.1 10) : 0 ≤ x2.toInt ∧ x2.toInt < 60 := by
  first | omega | ((try simp only [g_m1, Int32.lt_iff_toInt_lt, Int32.le_iff_toInt_le, ← Int32.toInt_inj, Int32.reduceToInt] at *); omega) | ((try simp only [g_m1, Int32.lt_iff_toInt_lt, Int32.le_iff_toInt_le, ← Int32.toInt_inj, Int32.reduceToInt] at *); omega) | ((try simp only [g_m1, Int32.lt_iff_toInt_lt, Int32.le_iff_toInt_le, ← Int32.toInt_inj, Int32.toInt_add, Int32.toInt_sub, Int32.toInt_mul, Int32.toInt_neg, Int32.reduceToInt, g_bm, g_bm'] at *); omega) | (have qr1 := g_rng x; have qr2 := g_rng x2; (try simp only [g_m1, Int32.lt_iff_toInt_lt, Int32.le_iff_toInt_le, ← Int32.toInt_inj, Int32.toInt_add, Int32.toInt_sub, Int32.toInt_mul, Int32.toInt_neg, Int32.reduceToInt, g_bm, g_bm'] at *); omega) | (simp only [g_m1, Int32.lt_iff_toInt_lt, Int32.le_iff_toInt_le, ← Int32.toInt_inj, Int32.toInt_add, Int32.toInt_sub, Int32.toInt_mul, Int32.toInt_neg, Int32.reduceToInt, g_bm, g_bm'] at *; simp at *; omega) | (simp_all; done)
set_option maxRecDepth 100000 in
theorem g_X0_lookFrom_v13 (u : qS) (x : Int32) (x2 : Int32) (uc : qS) (hz8 : 0 ≤ u.1 8 ∧ u.1 8 ≤ 20) (hz9 : 0 ≤ u.1 9 ∧ u.1 9 ≤ 8) (hz10 : 0 ≤ u.1 10 ∧ u.1 10 ≤ 120) (hz11 : 0 ≤ u.1 11 ∧ u.1 11 ≤ 60) (h_k : 0 ≤ x2) (h_4 : uc.1 14 = c_lf x (u.1 13)) (c58_21 : ¬ (u.1 11) ≤ (x2 : Int32)) (hq_22 : 0 ≤ u.2.1 5 x2.toNatClampNeg ∧ u.2.1 5 x2.toNatClampNeg < u.1 10) : 0 ≤ (u.2.1 5) x2.toNatClampNeg ∧ (u.2.1 5) x2.toNatClampNeg < (u.1 10 : Int32) := by
  assumption
set_option maxRecDepth 100000 in
theorem g_X0_lookFrom_v14 (u : qS) (x : Int32) (x2 : Int32) (uc : qS) (hz8 : 0 ≤ u.1 8 ∧ u.1 8 ≤ 20) (hz9 : 0 ≤ u.1 9 ∧ u.1 9 ≤ 8) (hz10 : 0 ≤ u.1 10 ∧ u.1 10 ≤ 120) (hz11 : 0 ≤ u.1 11 ∧ u.1 11 ≤ 60) (h_k : 0 ≤ x2) (h_4 : uc.1 14 = c_lf x (u.1 13)) (c58_21 : ¬ (u.1 11) ≤ (x2 : Int32)) (hq_22 : 0 ≤ u.2.1 5 x2.toNatClampNeg ∧ u.2.1 5 x2.toNatClampNeg < u.1 10) : 0 ≤ (x2 + 1) := by
  first | omega | ((try simp only [g_m1, Int32.lt_iff_toInt_lt, Int32.le_iff_toInt_le, ← Int32.toInt_inj, Int32.reduceToInt] at *); omega) | ((try have ez0 : (x2 + 1 : Int32).toInt = (x2 : Int32).toInt + (1 : Int32).toInt := g_add (by (try simp only [g_m1, Int32.lt_iff_toInt_lt, Int32.le_iff_toInt_le, ← Int32.toInt_inj, Int32.reduceToInt] at *); omega) (by (try simp only [g_m1, Int32.lt_iff_toInt_lt, Int32.le_iff_toInt_le, ← Int32.toInt_inj, Int32.reduceToInt] at *); omega)); (try simp only [g_m1, Int32.lt_iff_toInt_lt, Int32.le_iff_toInt_le, ← Int32.toInt_inj, Int32.reduceToInt] at *); omega) | ((try simp only [g_m1, Int32.lt_iff_toInt_lt, Int32.le_iff_toInt_le, ← Int32.toInt_inj, Int32.toInt_add, Int32.toInt_sub, Int32.toInt_mul, Int32.toInt_neg, Int32.reduceToInt, g_bm, g_bm'] at *); omega) | (have qr1 := g_rng x; have qr2 := g_rng x2; (try simp only [g_m1, Int32.lt_iff_toInt_lt, Int32.le_iff_toInt_le, ← Int32.toInt_inj, Int32.toInt_add, Int32.toInt_sub, Int32.toInt_mul, Int32.toInt_neg, Int32.reduceToInt, g_bm, g_bm'] at *); omega) | (simp only [g_m1, Int32.lt_iff_toInt_lt, Int32.le_iff_toInt_le, ← Int32.toInt_inj, Int32.toInt_add, Int32.toInt_sub, Int32.toInt_mul, Int32.toInt_neg, Int32.reduceToInt, g_bm, g_bm'] at *; simp at *; omega) | (simp_all; done)
set_option maxRecDepth 100000 in
theorem g_X0_lookFrom_v15 (u : qS) (x : Int32) (x2 : Int32) (uc : qS) (hz8 : 0 ≤ u.1 8 ∧ u.1 8 ≤ 20) (hz9 : 0 ≤ u.1 9 ∧ u.1 9 ≤ 8) (hz10 : 0 ≤ u.1 10 ∧ u.1 10 ≤ 120) (hz11 : 0 ≤ u.1 11 ∧ u.1 11 ≤ 60) (h_k : 0 ≤ x2) (h_4 : uc.1 14 = c_lf x (u.1 13)) (c58_21 : ¬ (u.1 11) ≤ (x2 : Int32)) (hq_22 : 0 ≤ u.2.1 5 x2.toNatClampNeg ∧ u.2.1 5 x2.toNatClampNeg < u.1 10) : (uc.1 14 : Int32) = c_lf x (u.1 13) := by
  exact h_4
set_option maxRecDepth 100000 in
theorem g_X0_lookFrom_v16 (u : qS) (x : Int32) (x2 : Int32) (uc : qS) (hz8 : 0 ≤ u.1 8 ∧ u.1 8 ≤ 20) (hz9 : 0 ≤ u.1 9 ∧ u.1 9 ≤ 8) (hz10 : 0 ≤ u.1 10 ∧ u.1 10 ≤ 120) (hz11 : 0 ≤ u.1 11 ∧ u.1 11 ≤ 60) (h_k : 0 ≤ x2) (h_4 : uc.1 14 = c_lf x (u.1 13)) (c58_21 : ¬ (u.1 11) ≤ (x2 : Int32)) (hq_22 : 0 ≤ u.2.1 5 x2.toNatClampNeg ∧ u.2.1 5 x2.toNatClampNeg < u.1 10) : ((u.1 11).toInt - (x2 + 1).toInt).toNat < ((u.1 11).toInt - x2.toInt).toNat := by
  first | omega | ((try simp only [g_m1, Int32.lt_iff_toInt_lt, Int32.le_iff_toInt_le, ← Int32.toInt_inj, Int32.reduceToInt] at *); omega) | ((try have ez0 : (x2 + 1 : Int32).toInt = (x2 : Int32).toInt + (1 : Int32).toInt := g_add (by (try simp only [g_m1, Int32.lt_iff_toInt_lt, Int32.le_iff_toInt_le, ← Int32.toInt_inj, Int32.reduceToInt] at *); omega) (by (try simp only [g_m1, Int32.lt_iff_toInt_lt, Int32.le_iff_toInt_le, ← Int32.toInt_inj, Int32.reduceToInt] at *); omega)); (try simp only [g_m1, Int32.lt_iff_toInt_lt, Int32.le_iff_toInt_le, ← Int32.toInt_inj, Int32.reduceToInt] at *); omega) | ((try simp only [g_m1, Int32.lt_iff_toInt_lt, Int32.le_iff_toInt_le, ← Int32.toInt_inj, Int32.toInt_add, Int32.toInt_sub, Int32.toInt_mul, Int32.toInt_neg, Int32.reduceToInt, g_bm, g_bm'] at *); omega) | (have qr1 := g_rng x; have qr2 := g_rng x2; (try simp only [g_m1, Int32.lt_iff_toInt_lt, Int32.le_iff_toInt_le, ← Int32.toInt_inj, Int32.toInt_add, Int32.toInt_sub, Int32.toInt_mul, Int32.toInt_neg, Int32.reduceToInt, g_bm, g_bm'] at *); omega) | (simp only [g_m1, Int32.lt_iff_toInt_lt, Int32.le_iff_toInt_le, ← Int32.toInt_inj, Int32.toInt_add, Int32.toInt_sub, Int32.toInt_mul, Int32.toInt_neg, Int32.reduceToInt, g_bm, g_bm'] at *; simp at *; omega) | (simp_all; done)
set_option maxRecDepth 100000 in
theorem g_X0_lookFrom_v17 (u : qS) (x : Int32) (hz8 : 0 ≤ u.1 8 ∧ u.1 8 ≤ 20) (hz9 : 0 ≤ u.1 9 ∧ u.1 9 ≤ 8) (hz10 : 0 ≤ u.1 10 ∧ u.1 10 ≤ 120) (hz11 : 0 ≤ u.1 11 ∧ u.1 11 ≤ 60) (c6_28 : ¬ (x : Int32) = (u.1 13)) : 0 ≤ (0 : Int32) := by
  first | omega | ((try simp only [g_m1, Int32.lt_iff_toInt_lt, Int32.le_iff_toInt_le, ← Int32.toInt_inj, Int32.reduceToInt] at *); omega) | ((try simp only [g_m1, Int32.lt_iff_toInt_lt, Int32.le_iff_toInt_le, ← Int32.toInt_inj, Int32.reduceToInt] at *); omega) | ((try simp only [g_m1, Int32.lt_iff_toInt_lt, Int32.le_iff_toInt_le, ← Int32.toInt_inj, Int32.toInt_add, Int32.toInt_sub, Int32.toInt_mul, Int32.toInt_neg, Int32.reduceToInt, g_bm, g_bm'] at *); omega) | (have qr1 := g_rng x; (try simp only [g_m1, Int32.lt_iff_toInt_lt, Int32.le_iff_toInt_le, ← Int32.toInt_inj, Int32.toInt_add, Int32.toInt_sub, Int32.toInt_mul, Int32.toInt_neg, Int32.reduceToInt, g_bm, g_bm'] at *); omega) | (simp only [g_m1, Int32.lt_iff_toInt_lt, Int32.le_iff_toInt_le, ← Int32.toInt_inj, Int32.toInt_add, Int32.toInt_sub, Int32.toInt_mul, Int32.toInt_neg, Int32.reduceToInt, g_bm, g_bm'] at *; simp at *; omega) | (simp_all; done)
set_option maxRecDepth 100000 in
theorem g_X0_lookFrom_v18 (u : qS) (x : Int32) (hz8 : 0 ≤ u.1 8 ∧ u.1 8 ≤ 20) (hz9 : 0 ≤ u.1 9 ∧ u.1 9 ≤ 8) (hz10 : 0 ≤ u.1 10 ∧ u.1 10 ≤ 120) (hz11 : 0 ≤ u.1 11 ∧ u.1 11 ≤ 60) (c6_28 : ¬ (x : Int32) = (u.1 13)) : (x : Int32) = c_lf x (u.1 13) := by
  unfold c_lf; first | rw [if_pos (by assumption)] | rw [if_neg (by assumption)]
set_option maxRecDepth 100000 in
theorem g_X0_lookFrom_v19 (u : qS) (x : Int32) (hz8 : 0 ≤ u.1 8 ∧ u.1 8 ≤ 20) (hz9 : 0 ≤ u.1 9 ∧ u.1 9 ≤ 8) (hz10 : 0 ≤ u.1 10 ∧ u.1 10 ≤ 120) (hz11 : 0 ≤ u.1 11 ∧ u.1 11 ≤ 60) (c6_28 : (x : Int32) = (u.1 13)) : 0 ≤ (0 : Int32) := by
  first | omega | ((try simp only [g_m1, Int32.lt_iff_toInt_lt, Int32.le_iff_toInt_le, ← Int32.toInt_inj, Int32.reduceToInt] at *); omega) | ((try simp only [g_m1, Int32.lt_iff_toInt_lt, Int32.le_iff_toInt_le, ← Int32.toInt_inj, Int32.reduceToInt] at *); omega) | ((try simp only [g_m1, Int32.lt_iff_toInt_lt, Int32.le_iff_toInt_le, ← Int32.toInt_inj, Int32.toInt_add, Int32.toInt_sub, Int32.toInt_mul, Int32.toInt_neg, Int32.reduceToInt, g_bm, g_bm'] at *); omega) | (have qr1 := g_rng x; (try simp only [g_m1, Int32.lt_iff_toInt_lt, Int32.le_iff_toInt_le, ← Int32.toInt_inj, Int32.toInt_add, Int32.toInt_sub, Int32.toInt_mul, Int32.toInt_neg, Int32.reduceToInt, g_bm, g_bm'] at *); omega) | (simp only [g_m1, Int32.lt_iff_toInt_lt, Int32.le_iff_toInt_le, ← Int32.toInt_inj, Int32.toInt_add, Int32.toInt_sub, Int32.toInt_mul, Int32.toInt_neg, Int32.reduceToInt, g_bm, g_bm'] at *; simp at *; omega) | (simp_all; done)
set_option maxRecDepth 100000 in
theorem g_X0_lookFrom_v20 (u : qS) (x : Int32) (hz8 : 0 ≤ u.1 8 ∧ u.1 8 ≤ 20) (hz9 : 0 ≤ u.1 9 ∧ u.1 9 ≤ 8) (hz10 : 0 ≤ u.1 10 ∧ u.1 10 ≤ 120) (hz11 : 0 ≤ u.1 11 ∧ u.1 11 ≤ 60) (c6_28 : (x : Int32) = (u.1 13)) : ((-1) : Int32) = c_lf x (u.1 13) := by
  unfold c_lf; first | rw [if_pos (by assumption)] | rw [if_neg (by assumption)]
set_option maxHeartbeats 1000000 in
set_option maxRecDepth 100000 in
theorem g_X0_lookFrom (l : Launch) (E : qE) (A : Nat → Prop) (u : qS) (x : Int32) (hI : IC E u) : Met l yX0_lookFrom (uws yX0_lookFrom cX0_lookFrom 3 none) (qR 2 0 0) (qPc E A 0 u [.ref (E.2.2 99), .int x]) (qQv E A 0 (fun u1 => (qFc [14, 18] [] [] [] u u1 ∧ IC E u1) ∧ (u1.1 14 = c_lf x (u.1 13)))) 0 0 A := by
  refine q_met (own := RX0) (f := 2) [.ref (E.2.2 99), .int x] (by decide) (Nat.le_of_ble_eq_true rfl) rfl ?_
  intro p0 e0 s0 m0 bl0 me0 cd0 ls hF hr hlocks hU hS hA hl
  have hl : lv_has ls 3 [(0, .ref (E.2.2 99)), (1, .int x)] := hl
  have hz8 : 0 ≤ u.1 8 ∧ u.1 8 ≤ 20 := hI.1.s8
  have hz9 : 0 ≤ u.1 9 ∧ u.1 9 ≤ 8 := hI.1.s9
  have hz10 : 0 ≤ u.1 10 ∧ u.1 10 ≤ 120 := hI.1.s10
  have hz11 : 0 ≤ u.1 11 ∧ u.1 11 ≤ 60 := hI.1.s11
  have hfr : qFc [14, 18] [] [] [] u u := qFc.rf
  have main : ∀ n : Nat, (∀ (x2 : Int32) (uc : qS) (H : Heap) (locs : List Loc) (ls : Array Slot) (hfr : qFc [14, 18] [] [] [] u uc) (hI : IC E uc) (h_k : 0 ≤ x2) (h_4 : uc.1 14 = c_lf x (u.1 13)), ((u.1 10).toInt - x2.toInt).toNat + 100 < n → qH E A 0 uc s0 H → va_S A s0.heap H locs → lv_has ls 3 [(0, .ref (E.2.2 99)), (1, .int x), (2, .int x2)] → W p0 l e0 (qR 2 0 0) s0 m0 ([.ref (E.2.2 99), .int x] : List Value).toArray bl0 me0 cd0 H locs 0 0 (MQ bl0 (qQv E A 0 (fun u1 => (qFc [14, 18] [] [] [] u u1 ∧ IC E u1) ∧ (u1.1 14 = c_lf x (u.1 13)))) ([.ref (E.2.2 99), .int x] : List Value).toArray s0 0 0 A) (F0 m0 19 ls [])) ∧ (∀ (x2 : Int32) (uc : qS) (H : Heap) (locs : List Loc) (ls : Array Slot) (hfr : qFc [14, 18] [] [] [] u uc) (hI : IC E uc) (h_k : 0 ≤ x2) (h_4 : uc.1 14 = c_lf x (u.1 13)), ((u.1 11).toInt - x2.toInt).toNat < n → qH E A 0 uc s0 H → va_S A s0.heap H locs → lv_has ls 3 [(0, .ref (E.2.2 99)), (1, .int x), (2, .int x2)] → W p0 l e0 (qR 2 0 0) s0 m0 ([.ref (E.2.2 99), .int x] : List Value).toArray bl0 me0 cd0 H locs 0 0 (MQ bl0 (qQv E A 0 (fun u1 => (qFc [14, 18] [] [] [] u u1 ∧ IC E u1) ∧ (u1.1 14 = c_lf x (u.1 13)))) ([.ref (E.2.2 99), .int x] : List Value).toArray s0 0 0 A) (F0 m0 53 ls [])) := by
    clear hI hfr
    intro n
    induction n with
    | zero => exact ⟨fun _ _ _ _ _ _ _ _ _ hmu => absurd hmu (Nat.not_lt_zero _), fun _ _ _ _ _ _ _ _ _ hmu => absurd hmu (Nat.not_lt_zero _)⟩
    | succ n ih =>
      refine ⟨?_, ?_⟩
      · intro x2 uc H locs ls hfr hI h_k h_4 hmu hU hS hl
        refine lv_iload_n hF.1 hF.2.1 dX0_lookFrom_19 rfl (lv_at hl 2 rfl) ?_
        refine lv_aload_n hF.1 hF.2.1 dX0_lookFrom_20 rfl (lv_at hl 0 rfl) ?_
        refine q_get (v := .int (u.1 10)) hF hU dX0_lookFrom_21 1 0 10 10 99 rfl rfl rfl rfl inX0 (by decide) (by decide) w_171 rfl (congrArg Value.int (hfr.1 10 (by decide))) ?_
        refine lv_icmp_ge (tgt := 51) hF.1 hF.2.1 dX0_lookFrom_24 (by decide) (fun c24_1 => ?_) (fun c24_1 => ?_)
        · refine lv_iconst (v := 0) hF.1 hF.2.1 dX0_lookFrom_51 (by decide) ?_
          refine lv_istore_n (lv' := [(2, .int 0), (0, .ref (E.2.2 99)), (1, .int x)]) hF.1 hF.2.1 dX0_lookFrom_52 rfl hl (by decide) rfl (fun ls hl => ?_)
          exact ih.2 (0 : Int32) uc _ _ _ hfr hI  (g_X0_lookFrom_v0 u x x2 uc hz8 hz9 hz10 hz11 h_k h_4 c24_1) (g_X0_lookFrom_v1 u x x2 uc hz8 hz9 hz10 hz11 h_k h_4 c24_1) (Nat.lt_of_lt_of_le (g_X0_lookFrom_v2 u x x2 uc hz8 hz9 hz10 hz11 h_k h_4 c24_1) (Nat.lt_succ_iff.mp hmu)) hU hS (lv_sub hl [1, 2, 0] rfl)
        · refine lv_aload_n hF.1 hF.2.1 dX0_lookFrom_27 rfl (lv_at hl 0 rfl) ?_
          refine q_get (v := .ref (E.2.2 2)) hF hU dX0_lookFrom_28 1 0 2 2 99 rfl rfl rfl rfl inX0 (by decide) (by decide) w_148 rfl rfl ?_
          refine lv_iload_n hF.1 hF.2.1 dX0_lookFrom_31 rfl (lv_at hl 2 rfl) ?_
          obtain ⟨a_2, ha_2_3_e, ha_2_3⟩ := hI.r2 x2 (by rw [(hfr.1 10 (by decide))]; exact (g_X0_lookFrom_v3 u x x2 uc hz8 hz9 hz10 hz11 h_k h_4 c24_1))
          refine q_aald (v := .ref a_2) hF hU dX0_lookFrom_32 2 2 6 rfl rfl (by decide) rfl (g_X0_lookFrom_v4 u x x2 uc hz8 hz9 hz10 hz11 h_k h_4 c24_1) (by rw [ha_2_3_e]; rfl) ?_
          refine lv_aload_n hF.1 hF.2.1 dX0_lookFrom_33 rfl (lv_at hl 0 rfl) ?_
          refine q_get (v := .ref (E.2.2 2)) hF hU dX0_lookFrom_34 1 0 2 2 99 rfl rfl rfl rfl inX0 (by decide) (by decide) w_148 rfl rfl ?_
          refine lv_iload_n hF.1 hF.2.1 dX0_lookFrom_37 rfl (lv_at hl 2 rfl) ?_
          obtain ⟨a_4, ha_4_5_e, ha_4_5⟩ := hI.r2 x2 (by rw [(hfr.1 10 (by decide))]; exact (g_X0_lookFrom_v5 u x x2 uc hz8 hz9 hz10 hz11 h_k h_4 c24_1))
          refine q_aald (v := .ref a_4) hF hU dX0_lookFrom_38 2 2 6 rfl rfl (by decide) rfl (g_X0_lookFrom_v6 u x x2 uc hz8 hz9 hz10 hz11 h_k h_4 c24_1) (by rw [ha_4_5_e]; rfl) ?_
          obtain ⟨k_6, fs_7, hd_9, hv_10, hv_10_2, hv_10_3, -⟩ := hI.vf ((ha_4_5).rf) 7 (by decide)
          refine q_getd (v := .int (qfd uc.2.2.2.2 a_4 7)) hF hU dX0_lookFrom_39 k_6 10 7 hd_9 rfl inX10 (by decide) w_612 rfl hv_10 ?_
          obtain ⟨k_11, fs_12, x_13, hd_14, hv_15, -, -, hv_15_l⟩ := hI.v ((ha_2_3).rf) 9 (by decide)
          have hp_18 := hI.vput (j := 9) (x := qfd uc.2.2.2.2 a_4 7) hd_14 (by decide) (fun q => absurd q (by decide)) (fun q => absurd q (by decide))
          refine q_putd hF hU hS dX0_lookFrom_42 k_11 10 9 hd_14 rfl inX10 tyX10 tyX10_ok nmX10 (by decide) w_619 rfl (Or.inl rfl) rfl rfl (by rw [hv_15_l]; decide) (fun u_16 H locs hu_17 _ hU hS => ?_)
          rw [← hu_17] at hp_18
          have hI := hp_18.1
          have hp_18_f := hp_18.2 [] [] [] [] (Or.inl (by decide))
          have hfo := hfr
          have hfr : qFc [14, 18] [] [] [] u u_16 := hfr.trans (hp_18_f.mono (by decide) (by decide) (by decide) (by decide))
          have e_19 : u_16.1 14 = (uc.1 14) := (hp_18_f.1 14 (by decide)).trans rfl
          have e_20 : u_16.1 18 = (uc.1 18) := (hp_18_f.1 18 (by decide)).trans rfl
          refine lv_iinc (v := x2 + 1) (lv' := [(2, .int (x2 + 1)), (0, .ref (E.2.2 99)), (1, .int x)]) hF.1 hF.2.1 dX0_lookFrom_45 hl (k := 2) rfl rfl (by decide) rfl (fun ls hl => ?_)
          refine lv_goto (tgt := 19) hF.1 hF.2.1 dX0_lookFrom_48 (by decide) ?_
          exact ih.1 (x2 + 1) u_16 _ _ _ hfr hI  (g_X0_lookFrom_v7 u x x2 uc hz8 hz9 hz10 hz11 h_k h_4 c24_1) (by rw [show (u_16).1 14 = (uc.1 14) from e_19]; exact (g_X0_lookFrom_v8 u x x2 uc hz8 hz9 hz10 hz11 h_k h_4 c24_1)) (Nat.lt_of_lt_of_le (g_X0_lookFrom_v9 u x x2 uc hz8 hz9 hz10 hz11 h_k h_4 c24_1) (Nat.lt_succ_iff.mp hmu)) hU hS (lv_sub hl [1, 2, 0] rfl)
      · intro x2 uc H locs ls hfr hI h_k h_4 hmu hU hS hl
        refine lv_iload_n hF.1 hF.2.1 dX0_lookFrom_53 rfl (lv_at hl 2 rfl) ?_
        refine lv_aload_n hF.1 hF.2.1 dX0_lookFrom_54 rfl (lv_at hl 0 rfl) ?_
        refine q_get (v := .int (u.1 11)) hF hU dX0_lookFrom_55 1 0 11 11 99 rfl rfl rfl rfl inX0 (by decide) (by decide) w_173 rfl (congrArg Value.int (hfr.1 11 (by decide))) ?_
        refine lv_icmp_ge (tgt := 72) hF.1 hF.2.1 dX0_lookFrom_58 (by decide) (fun c58_21 => ?_) (fun c58_21 => ?_)
        · refine lv_aload_n hF.1 hF.2.1 dX0_lookFrom_72 rfl (lv_at hl 0 rfl) ?_
          refine lv_dup hF.1 hF.2.1 dX0_lookFrom_73 rfl ?_
          refine q_get (v := .int (uc.1 18)) hF hU dX0_lookFrom_74 1 0 18 18 99 rfl rfl rfl rfl inX0 (by decide) (by decide) w_191 rfl rfl ?_
          refine lv_iconst (v := 1) hF.1 hF.2.1 dX0_lookFrom_77 (by decide) ?_
          refine lv_iadd hF.1 hF.2.1 dX0_lookFrom_78 ?_
          refine q_put hF hU hS dX0_lookFrom_79 1 0 18 18 99 rfl rfl rfl rfl inX0 tyX0 tyX0_ok nmX0 (by decide) (by decide) rfl w_191 rfl rfl rfl rfl (fun H locs hU hS => ?_)
          have hfr : qFc [14, 18] [] [] [] u (qsI uc 18 ((uc.1 18) + 1)) := hfr.setI (by decide) (fun q => absurd q (by decide))
          have hI : IC E (qsI uc 18 ((uc.1 18) + 1)) := hI.sI (by decide)
          exact q_vret hF hr hlocks hU hS dX0_lookFrom_82 ⟨⟨hfr, hI⟩, (g_X0_lookFrom_v10 u x x2 uc hz8 hz9 hz10 hz11 h_k h_4 c58_21)⟩
        · have hq_22 : 0 ≤ u.2.1 5 x2.toNatClampNeg ∧ u.2.1 5 x2.toNatClampNeg < u.1 10 := by have z := hI.r5 x2 (by rw [(hfr.1 11 (by decide))]; exact (g_X0_lookFrom_v11 u x x2 uc hz8 hz9 hz10 hz11 h_k h_4 c58_21)); rw [(hfr.2.1 5 (by decide)), (hfr.1 10 (by decide))] at z; exact z
          refine lv_aload_n hF.1 hF.2.1 dX0_lookFrom_61 rfl (lv_at hl 0 rfl) ?_
          refine lv_iload_n hF.1 hF.2.1 dX0_lookFrom_62 rfl (lv_at hl 2 rfl) ?_
          have hM9 := g_X0_turnIfSeen l E A uc x2 hI (g_X0_lookFrom_v12 u x x2 uc hz8 hz9 hz10 hz11 h_k h_4 c58_21 hq_22) (by rw [(hfr.1 10 (by decide)), (hfr.2.1 5 (by decide))]; exact (g_X0_lookFrom_v13 u x x2 uc hz8 hz9 hz10 hz11 h_k h_4 c58_21 hq_22))
          have hR9 := q_runV (l := l) (e := e0) (below := bl0) (meth := me0) (R := qR 2 0 0) (cells := 0) (slots := 0) (st0 := [.int x2, .ref (E.2.2 99)]) (rest := []) hF hU hS hA 1 1 0 99 rfl rfl rfl hM9 w_479 w_481 w_0 w_100 w_482 (by decide +kernel) ⟨Nat.le_of_ble_eq_true rfl, Nat.le_of_ble_eq_true rfl⟩ dX0_lookFrom_63 rfl hl.1 rfl (Nat.le_of_ble_eq_true rfl) ⟨Nat.le_of_ble_eq_true rfl, Nat.le_of_ble_eq_true rfl⟩
          refine q_callv hR9 hU.2.2.2 hS (fun u_23 H locs hw_24 hU hS => ?_)
          obtain ⟨⟨hw_24_f, hI⟩, hw_24⟩ := hw_24
          have hfo := hfr
          have hfr : qFc [14, 18] [] [] [] u u_23 := hfr.trans (hw_24_f.mono (by decide) (by decide) (by decide) (by decide))
          have e_26 : u_23.1 14 = (uc.1 14) := (hw_24_f.1 14 (by decide)).trans rfl
          have e_27 : u_23.1 18 = (uc.1 18) := (hw_24_f.1 18 (by decide)).trans rfl
          refine lv_iinc (v := x2 + 1) (lv' := [(2, .int (x2 + 1)), (0, .ref (E.2.2 99)), (1, .int x)]) hF.1 hF.2.1 dX0_lookFrom_66 hl (k := 2) rfl rfl (by decide) rfl (fun ls hl => ?_)
          refine lv_goto (tgt := 53) hF.1 hF.2.1 dX0_lookFrom_69 (by decide) ?_
          exact ih.2 (x2 + 1) u_23 _ _ _ hfr hI  (g_X0_lookFrom_v14 u x x2 uc hz8 hz9 hz10 hz11 h_k h_4 c58_21 hq_22) (by rw [show (u_23).1 14 = (uc.1 14) from e_26]; exact (g_X0_lookFrom_v15 u x x2 uc hz8 hz9 hz10 hz11 h_k h_4 c58_21 hq_22)) (Nat.lt_of_lt_of_le (g_X0_lookFrom_v16 u x x2 uc hz8 hz9 hz10 hz11 h_k h_4 c58_21 hq_22) (Nat.lt_succ_iff.mp hmu)) hU hS (lv_sub hl [1, 2, 0] rfl)
  refine lv_aload_n hF.1 hF.2.1 dX0_lookFrom_0 rfl (lv_at hl 0 rfl) ?_
  refine lv_iload_n hF.1 hF.2.1 dX0_lookFrom_1 rfl (lv_at hl 1 rfl) ?_
  refine lv_aload_n hF.1 hF.2.1 dX0_lookFrom_2 rfl (lv_at hl 0 rfl) ?_
  refine q_get (v := .int (u.1 13)) hF hU dX0_lookFrom_3 1 0 13 13 99 rfl rfl rfl rfl inX0 (by decide) (by decide) w_179 rfl rfl ?_
  refine lv_icmp_ne (tgt := 13) hF.1 hF.2.1 dX0_lookFrom_6 (by decide) (fun c6_28 => ?_) (fun c6_28 => ?_)
  · refine lv_iload_n hF.1 hF.2.1 dX0_lookFrom_13 rfl (lv_at hl 1 rfl) ?_
    refine q_put hF hU hS dX0_lookFrom_14 1 0 14 14 99 rfl rfl rfl rfl inX0 tyX0 tyX0_ok nmX0 (by decide) (by decide) rfl w_180 rfl rfl rfl rfl (fun H locs hU hS => ?_)
    have hfr : qFc [14, 18] [] [] [] u (qsI u 14 x) := hfr.setI (by decide) (fun q => absurd q (by decide))
    have hI : IC E (qsI u 14 x) := hI.sI (by decide)
    refine lv_iconst (v := 0) hF.1 hF.2.1 dX0_lookFrom_17 (by decide) ?_
    refine lv_istore_n (lv' := [(2, .int 0), (0, .ref (E.2.2 99)), (1, .int x)]) hF.1 hF.2.1 dX0_lookFrom_18 rfl hl (by decide) rfl (fun ls hl => ?_)
    exact (main _).1 (0 : Int32) (qsI u 14 x) _ _ _ hfr hI  (g_X0_lookFrom_v17 u x hz8 hz9 hz10 hz11 c6_28) (g_X0_lookFrom_v18 u x hz8 hz9 hz10 hz11 c6_28) (Nat.lt_succ_self _) hU hS (lv_sub hl [1, 2, 0] rfl)
  · refine lv_iconst (v := (-1)) hF.1 hF.2.1 dX0_lookFrom_9 (by decide) ?_
    refine lv_goto (tgt := 14) hF.1 hF.2.1 dX0_lookFrom_10 (by decide) ?_
    refine q_put hF hU hS dX0_lookFrom_14 1 0 14 14 99 rfl rfl rfl rfl inX0 tyX0 tyX0_ok nmX0 (by decide) (by decide) rfl w_180 rfl rfl rfl rfl (fun H locs hU hS => ?_)
    have hfr : qFc [14, 18] [] [] [] u (qsI u 14 (-1)) := hfr.setI (by decide) (fun q => absurd q (by decide))
    have hI : IC E (qsI u 14 (-1)) := hI.sI (by decide)
    refine lv_iconst (v := 0) hF.1 hF.2.1 dX0_lookFrom_17 (by decide) ?_
    refine lv_istore_n (lv' := [(2, .int 0), (0, .ref (E.2.2 99)), (1, .int x)]) hF.1 hF.2.1 dX0_lookFrom_18 rfl hl (by decide) rfl (fun ls hl => ?_)
    exact (main _).1 (0 : Int32) (qsI u 14 (-1)) _ _ _ hfr hI  (g_X0_lookFrom_v19 u x hz8 hz9 hz10 hz11 c6_28) (g_X0_lookFrom_v20 u x hz8 hz9 hz10 hz11 c6_28) (Nat.lt_succ_self _) hU hS (lv_sub hl [1, 2, 0] rfl)
set_option maxRecDepth 100000 in
theorem g_X11_days_v0 (u : qS) (x : Int32) (hz13 : 0 ≤ u.1 13 ∧ u.1 13 ≤ 9999) (b5_4 : (0 : Int32) ≤ x ∧ x ≤ (1000 : Int32)) (c23_5 : ((u.1 13) + x : Int32) ≤ 9999) : 0 ≤ ((u.1 13) + x : Int32) ∧ ((u.1 13) + x : Int32) ≤ 9999 := by
  first | omega | ((try simp only [g_m1, Int32.lt_iff_toInt_lt, Int32.le_iff_toInt_le, ← Int32.toInt_inj, Int32.reduceToInt] at *); omega) | ((try have ez0 : ((u.1 13) + x : Int32).toInt = (u.1 13 : Int32).toInt + (x : Int32).toInt := g_add (by (try simp only [g_m1, Int32.lt_iff_toInt_lt, Int32.le_iff_toInt_le, ← Int32.toInt_inj, Int32.reduceToInt] at *); omega) (by (try simp only [g_m1, Int32.lt_iff_toInt_lt, Int32.le_iff_toInt_le, ← Int32.toInt_inj, Int32.reduceToInt] at *); omega)); (try have ez1 : ((u.1 13) + x : Int32).toInt = (u.1 13 : Int32).toInt + (x : Int32).toInt := g_add (by (try simp only [g_m1, Int32.lt_iff_toInt_lt, Int32.le_iff_toInt_le, ← Int32.toInt_inj, Int32.reduceToInt] at *); omega) (by (try simp only [g_m1, Int32.lt_iff_toInt_lt, Int32.le_iff_toInt_le, ← Int32.toInt_inj, Int32.reduceToInt] at *); omega)); (try simp only [g_m1, Int32.lt_iff_toInt_lt, Int32.le_iff_toInt_le, ← Int32.toInt_inj, Int32.reduceToInt] at *); omega) | ((try simp only [g_m1, Int32.lt_iff_toInt_lt, Int32.le_iff_toInt_le, ← Int32.toInt_inj, Int32.toInt_add, Int32.toInt_sub, Int32.toInt_mul, Int32.toInt_neg, Int32.reduceToInt, g_bm, g_bm'] at *); omega) | (have qr1 := g_rng x; (try simp only [g_m1, Int32.lt_iff_toInt_lt, Int32.le_iff_toInt_le, ← Int32.toInt_inj, Int32.toInt_add, Int32.toInt_sub, Int32.toInt_mul, Int32.toInt_neg, Int32.reduceToInt, g_bm, g_bm'] at *); omega) | (simp only [g_m1, Int32.lt_iff_toInt_lt, Int32.le_iff_toInt_le, ← Int32.toInt_inj, Int32.toInt_add, Int32.toInt_sub, Int32.toInt_mul, Int32.toInt_neg, Int32.reduceToInt, g_bm, g_bm'] at *; simp at *; omega) | (simp_all; done)
set_option maxRecDepth 100000 in
theorem g_X11_days_v1 (u : qS) (x : Int32) (hz13 : 0 ≤ u.1 13 ∧ u.1 13 ≤ 9999) (b5_4 : (0 : Int32) ≤ x ∧ x ≤ (1000 : Int32)) (c23_5 : ((u.1 13) + x : Int32) ≤ 9999) : ((0 ≤ x ∧ x ≤ 1000 ∧ u.1 13 + x ≤ 9999) ∧ ((u.1 13) + x : Int32) = u.1 13 + x ∧ ((u.1 13) + x : Int32) = u.1 13 + x) ∨ (¬ (0 ≤ x ∧ x ≤ 1000 ∧ u.1 13 + x ≤ 9999) ∧ ((u.1 13) + x : Int32) = -1 ∧ ((u.1 13) + x : Int32) = u.1 13) := by
  first | omega | ((try simp only [g_m1, Int32.lt_iff_toInt_lt, Int32.le_iff_toInt_le, ← Int32.toInt_inj, Int32.reduceToInt] at *); omega) | ((try have ez0 : ((u.1 13) + x : Int32).toInt = (u.1 13 : Int32).toInt + (x : Int32).toInt := g_add (by (try simp only [g_m1, Int32.lt_iff_toInt_lt, Int32.le_iff_toInt_le, ← Int32.toInt_inj, Int32.reduceToInt] at *); omega) (by (try simp only [g_m1, Int32.lt_iff_toInt_lt, Int32.le_iff_toInt_le, ← Int32.toInt_inj, Int32.reduceToInt] at *); omega)); (try have ez1 : ((u.1 13) + x : Int32).toInt = (u.1 13 : Int32).toInt + (x : Int32).toInt := g_add (by (try simp only [g_m1, Int32.lt_iff_toInt_lt, Int32.le_iff_toInt_le, ← Int32.toInt_inj, Int32.reduceToInt] at *); omega) (by (try simp only [g_m1, Int32.lt_iff_toInt_lt, Int32.le_iff_toInt_le, ← Int32.toInt_inj, Int32.reduceToInt] at *); omega)); (try simp only [g_m1, Int32.lt_iff_toInt_lt, Int32.le_iff_toInt_le, ← Int32.toInt_inj, Int32.reduceToInt] at *); omega) | ((try simp only [g_m1, Int32.lt_iff_toInt_lt, Int32.le_iff_toInt_le, ← Int32.toInt_inj, Int32.toInt_add, Int32.toInt_sub, Int32.toInt_mul, Int32.toInt_neg, Int32.reduceToInt, g_bm, g_bm'] at *); omega) | (have qr1 := g_rng x; (try simp only [g_m1, Int32.lt_iff_toInt_lt, Int32.le_iff_toInt_le, ← Int32.toInt_inj, Int32.toInt_add, Int32.toInt_sub, Int32.toInt_mul, Int32.toInt_neg, Int32.reduceToInt, g_bm, g_bm'] at *); omega) | (simp only [g_m1, Int32.lt_iff_toInt_lt, Int32.le_iff_toInt_le, ← Int32.toInt_inj, Int32.toInt_add, Int32.toInt_sub, Int32.toInt_mul, Int32.toInt_neg, Int32.reduceToInt, g_bm, g_bm'] at *; simp at *; omega) | (simp_all; done)
set_option maxRecDepth 100000 in
theorem g_X11_days_v2 (u : qS) (x : Int32) (hz13 : 0 ≤ u.1 13 ∧ u.1 13 ≤ 9999) (b5_4 : (0 : Int32) ≤ x ∧ x ≤ (1000 : Int32)) (c23_5 : ¬ ((u.1 13) + x : Int32) ≤ 9999) : ((0 ≤ x ∧ x ≤ 1000 ∧ u.1 13 + x ≤ 9999) ∧ ((-1) : Int32) = u.1 13 + x ∧ (u.1 13 : Int32) = u.1 13 + x) ∨ (¬ (0 ≤ x ∧ x ≤ 1000 ∧ u.1 13 + x ≤ 9999) ∧ ((-1) : Int32) = -1 ∧ (u.1 13 : Int32) = u.1 13) := by
  first | omega | ((try simp only [g_m1, Int32.lt_iff_toInt_lt, Int32.le_iff_toInt_le, ← Int32.toInt_inj, Int32.reduceToInt] at *); omega) | ((try have ez0 : ((u.1 13) + x : Int32).toInt = (u.1 13 : Int32).toInt + (x : Int32).toInt := g_add (by (try simp only [g_m1, Int32.lt_iff_toInt_lt, Int32.le_iff_toInt_le, ← Int32.toInt_inj, Int32.reduceToInt] at *); omega) (by (try simp only [g_m1, Int32.lt_iff_toInt_lt, Int32.le_iff_toInt_le, ← Int32.toInt_inj, Int32.reduceToInt] at *); omega)); (try simp only [g_m1, Int32.lt_iff_toInt_lt, Int32.le_iff_toInt_le, ← Int32.toInt_inj, Int32.reduceToInt] at *); omega) | ((try simp only [g_m1, Int32.lt_iff_toInt_lt, Int32.le_iff_toInt_le, ← Int32.toInt_inj, Int32.toInt_add, Int32.toInt_sub, Int32.toInt_mul, Int32.toInt_neg, Int32.reduceToInt, g_bm, g_bm'] at *); omega) | (have qr1 := g_rng x; (try simp only [g_m1, Int32.lt_iff_toInt_lt, Int32.le_iff_toInt_le, ← Int32.toInt_inj, Int32.toInt_add, Int32.toInt_sub, Int32.toInt_mul, Int32.toInt_neg, Int32.reduceToInt, g_bm, g_bm'] at *); omega) | (simp only [g_m1, Int32.lt_iff_toInt_lt, Int32.le_iff_toInt_le, ← Int32.toInt_inj, Int32.toInt_add, Int32.toInt_sub, Int32.toInt_mul, Int32.toInt_neg, Int32.reduceToInt, g_bm, g_bm'] at *; simp at *; omega) | (simp_all; done)
set_option maxRecDepth 100000 in
theorem g_X11_days_v3 (u : qS) (x : Int32) (hz13 : 0 ≤ u.1 13 ∧ u.1 13 ≤ 9999) (b5_4 : ¬ ((0 : Int32) ≤ x ∧ x ≤ (1000 : Int32))) : ((0 ≤ x ∧ x ≤ 1000 ∧ u.1 13 + x ≤ 9999) ∧ ((-1) : Int32) = u.1 13 + x ∧ (u.1 13 : Int32) = u.1 13 + x) ∨ (¬ (0 ≤ x ∧ x ≤ 1000 ∧ u.1 13 + x ≤ 9999) ∧ ((-1) : Int32) = -1 ∧ (u.1 13 : Int32) = u.1 13) := by
  first | omega | ((try simp only [g_m1, Int32.lt_iff_toInt_lt, Int32.le_iff_toInt_le, ← Int32.toInt_inj, Int32.reduceToInt] at *); omega) | ((try simp only [g_m1, Int32.lt_iff_toInt_lt, Int32.le_iff_toInt_le, ← Int32.toInt_inj, Int32.reduceToInt] at *); omega) | ((try simp only [g_m1, Int32.lt_iff_toInt_lt, Int32.le_iff_toInt_le, ← Int32.toInt_inj, Int32.toInt_add, Int32.toInt_sub, Int32.toInt_mul, Int32.toInt_neg, Int32.reduceToInt, g_bm, g_bm'] at *); omega) | (have qr1 := g_rng x; (try simp only [g_m1, Int32.lt_iff_toInt_lt, Int32.le_iff_toInt_le, ← Int32.toInt_inj, Int32.toInt_add, Int32.toInt_sub, Int32.toInt_mul, Int32.toInt_neg, Int32.reduceToInt, g_bm, g_bm'] at *); omega) | (simp only [g_m1, Int32.lt_iff_toInt_lt, Int32.le_iff_toInt_le, ← Int32.toInt_inj, Int32.toInt_add, Int32.toInt_sub, Int32.toInt_mul, Int32.toInt_neg, Int32.reduceToInt, g_bm, g_bm'] at *; simp at *; omega) | (simp_all; done)
set_option maxHeartbeats 1000000 in
set_option maxRecDepth 100000 in
theorem g_X11_days (l : Launch) (E : qE) (A : Nat → Prop) (u : qS) (x : Int32) (hI : IC E u) : Met l yX11_days (uws yX11_days cX11_days 2 (some .int)) (qR 1 0 0) (qPc E A 0 u [.ref (E.2.2 1199), .int x]) (qQi E A 0 (fun r u1 => (qFc [13] [] [] [] u u1 ∧ IC E u1) ∧ (((0 ≤ x ∧ x ≤ 1000 ∧ u.1 13 + x ≤ 9999) ∧ r = u.1 13 + x ∧ u1.1 13 = u.1 13 + x) ∨ (¬ (0 ≤ x ∧ x ≤ 1000 ∧ u.1 13 + x ≤ 9999) ∧ r = -1 ∧ u1.1 13 = u.1 13)))) 0 0 A := by
  refine q_met (own := RX11) (f := 1) [.ref (E.2.2 1199), .int x] (by decide) (Nat.le_of_ble_eq_true rfl) rfl ?_
  intro p0 e0 s0 m0 bl0 me0 cd0 ls hF hr hlocks hU hS hA hl
  have hl : lv_has ls 2 [(0, .ref (E.2.2 1199)), (1, .int x)] := hl
  have hz13 : 0 ≤ u.1 13 ∧ u.1 13 ≤ 9999 := hI.1.s13
  have hfr : qFc [13] [] [] [] u u := qFc.rf
  refine lv_iload_n hF.1 hF.2.1 dX11_days_0 rfl (lv_at hl 1 rfl) ?_
  refine lv_iconst (v := 0) hF.1 hF.2.1 dX11_days_1 (by decide) ?_
  refine lv_sipush (v := 1000) hF.1 hF.2.1 dX11_days_2 (by decide) ?_
  have hM9 := g_X11_isWithin l E A u x 0 1000
  have hR9 := q_runS (l := l) (e := e0) (below := bl0) (meth := me0) (R := qR 1 0 0) (cells := 0) (slots := 0) (st0 := [.int 1000, .int 0, .int x]) (rest := []) hF hU hS hA 3 hM9 w_468 w_469 w_99 w_470 (by decide +kernel) ⟨Nat.le_of_ble_eq_true rfl, Nat.le_of_ble_eq_true rfl⟩ dX11_days_5 rfl hl.1 rfl (Nat.le_of_ble_eq_true rfl) ⟨Nat.le_of_ble_eq_true rfl, Nat.le_of_ble_eq_true rfl⟩
  refine q_calli hR9 hU.2.2.2 hS (fun r_3 u_1 H locs hw_2 hU hS => ?_)
  obtain ⟨hw_2_e, hw_2⟩ := hw_2
  rw [hw_2_e] at hU
  have hw_2 : (r_3 = 1 ∧ ((0 : Int32) ≤ x ∧ x ≤ (1000 : Int32))) ∨ (r_3 = 0 ∧ (¬ ((0 : Int32) ≤ x ∧ x ≤ (1000 : Int32)))) := hw_2
  rcases hw_2 with ⟨rfl, b5_4⟩ | ⟨rfl, b5_4⟩
  · refine lv_if_eq (tgt := 26) hF.1 hF.2.1 dX11_days_8 (by decide) (fun h9 => absurd h9 (by decide)) (fun _ => ?_)
    refine lv_aload_n hF.1 hF.2.1 dX11_days_11 rfl (lv_at hl 0 rfl) ?_
    refine q_get (v := .ref (E.2.2 99)) hF hU dX11_days_12 0 11 0 1100 1199 rfl rfl rfl rfl inX11 (by decide) (by decide) w_436 rfl rfl ?_
    refine q_get (v := .int (u.1 13)) hF hU dX11_days_15 1 0 13 13 99 rfl rfl rfl rfl inX0 (by decide) (by decide) w_178 rfl rfl ?_
    refine lv_iload_n hF.1 hF.2.1 dX11_days_18 rfl (lv_at hl 1 rfl) ?_
    refine lv_iadd hF.1 hF.2.1 dX11_days_19 ?_
    refine lv_sipush (v := 9999) hF.1 hF.2.1 dX11_days_20 (by decide) ?_
    refine lv_icmp_le (tgt := 28) hF.1 hF.2.1 dX11_days_23 (by decide) (fun c23_5 => ?_) (fun c23_5 => ?_)
    · refine lv_aload_n hF.1 hF.2.1 dX11_days_28 rfl (lv_at hl 0 rfl) ?_
      refine q_get (v := .ref (E.2.2 99)) hF hU dX11_days_29 0 11 0 1100 1199 rfl rfl rfl rfl inX11 (by decide) (by decide) w_436 rfl rfl ?_
      refine lv_dup hF.1 hF.2.1 dX11_days_32 rfl ?_
      refine q_get (v := .int (u.1 13)) hF hU dX11_days_33 1 0 13 13 99 rfl rfl rfl rfl inX0 (by decide) (by decide) w_178 rfl rfl ?_
      refine lv_iload_n hF.1 hF.2.1 dX11_days_36 rfl (lv_at hl 1 rfl) ?_
      refine lv_iadd hF.1 hF.2.1 dX11_days_37 ?_
      refine q_put hF hU hS dX11_days_38 1 0 13 13 99 rfl rfl rfl rfl inX0 tyX0 tyX0_ok nmX0 (by decide) (by decide) rfl w_178 rfl rfl rfl rfl (fun H locs hU hS => ?_)
      have hfr : qFc [13] [] [] [] u (qsI u 13 ((u.1 13) + x)) := hfr.setI (by decide) (fun q => absurd q (by decide))
      have hI : IC E (qsI u 13 ((u.1 13) + x)) := hI.s13 (g_X11_days_v0 u x hz13 b5_4 c23_5)
      refine lv_aload_n hF.1 hF.2.1 dX11_days_41 rfl (lv_at hl 0 rfl) ?_
      refine q_get (v := .ref (E.2.2 99)) hF hU dX11_days_42 0 11 0 1100 1199 rfl rfl rfl rfl inX11 (by decide) (by decide) w_436 rfl rfl ?_
      refine q_get (v := .int ((u.1 13) + x)) hF hU dX11_days_45 1 0 13 13 99 rfl rfl rfl rfl inX0 (by decide) (by decide) w_178 rfl rfl ?_
      exact q_iret hF hr rfl hlocks hU hS dX11_days_48 ⟨⟨hfr, hI⟩, (g_X11_days_v1 u x hz13 b5_4 c23_5)⟩
    · refine lv_iconst (v := (-1)) hF.1 hF.2.1 dX11_days_26 (by decide) ?_
      exact q_iret hF hr rfl hlocks hU hS dX11_days_27 ⟨⟨hfr, hI⟩, (g_X11_days_v2 u x hz13 b5_4 c23_5)⟩
  · refine lv_if_eq (tgt := 26) hF.1 hF.2.1 dX11_days_8 (by decide) (fun _ => ?_) (fun h9 => absurd (by decide) h9)
    refine lv_iconst (v := (-1)) hF.1 hF.2.1 dX11_days_26 (by decide) ?_
    exact q_iret hF hr rfl hlocks hU hS dX11_days_27 ⟨⟨hfr, hI⟩, (g_X11_days_v3 u x hz13 b5_4)⟩
set_option maxRecDepth 100000 in
theorem g_X11_view_v0 (u : qS) (x : Int32) (u_5 : qS) (hz8 : 0 ≤ u.1 8 ∧ u.1 8 ≤ 20) (hz9 : 0 ≤ u.1 9 ∧ u.1 9 ≤ 8) (hz10 : 0 ≤ u.1 10 ∧ u.1 10 ≤ 120) (hz12 : 0 ≤ u.1 12 ∧ u.1 12 ≤ 16) (b9_4 : (0 : Int32) ≤ x ∧ x ≤ (u.1 13)) (hw_6 : u_5.1 14 = c_lf x (u.1 13)) : ((0 ≤ x ∧ x ≤ u.1 13) ∧ (1 : Int32) = 1 ∧ (u_5.1 14 : Int32) = c_lf x (u.1 13)) ∨ (¬ (0 ≤ x ∧ x ≤ u.1 13) ∧ (1 : Int32) = 0 ∧ (u_5.1 14 : Int32) = u.1 14) := by
  first | exact Or.inl ⟨by assumption, rfl, by assumption⟩ | exact Or.inr ⟨by assumption, rfl, rfl⟩
set_option maxRecDepth 100000 in
theorem g_X11_view_v1 (u : qS) (x : Int32) (hz8 : 0 ≤ u.1 8 ∧ u.1 8 ≤ 20) (hz9 : 0 ≤ u.1 9 ∧ u.1 9 ≤ 8) (hz10 : 0 ≤ u.1 10 ∧ u.1 10 ≤ 120) (hz12 : 0 ≤ u.1 12 ∧ u.1 12 ≤ 16) (b9_4 : ¬ ((0 : Int32) ≤ x ∧ x ≤ (u.1 13))) : ((0 ≤ x ∧ x ≤ u.1 13) ∧ (0 : Int32) = 1 ∧ (u.1 14 : Int32) = c_lf x (u.1 13)) ∨ (¬ (0 ≤ x ∧ x ≤ u.1 13) ∧ (0 : Int32) = 0 ∧ (u.1 14 : Int32) = u.1 14) := by
  first | exact Or.inl ⟨by assumption, rfl, by assumption⟩ | exact Or.inr ⟨by assumption, rfl, rfl⟩
set_option maxHeartbeats 1000000 in
set_option maxRecDepth 100000 in
theorem g_X11_view (l : Launch) (E : qE) (A : Nat → Prop) (u : qS) (x : Int32) (hI : IC E u) : Met l yX11_view (uws yX11_view cX11_view 2 (some .boolean)) (qR 3 0 0) (qPc E A 0 u [.ref (E.2.2 1199), .int x]) (qQi E A 0 (fun r u1 => (qFc [14, 18] [] [] [] u u1 ∧ IC E u1) ∧ (((0 ≤ x ∧ x ≤ u.1 13) ∧ r = 1 ∧ u1.1 14 = c_lf x (u.1 13)) ∨ (¬ (0 ≤ x ∧ x ≤ u.1 13) ∧ r = 0 ∧ u1.1 14 = u.1 14)))) 0 0 A := by
  refine q_met (own := RX11) (f := 3) [.ref (E.2.2 1199), .int x] (by decide) (Nat.le_of_ble_eq_true rfl) rfl ?_
  intro p0 e0 s0 m0 bl0 me0 cd0 ls hF hr hlocks hU hS hA hl
  have hl : lv_has ls 2 [(0, .ref (E.2.2 1199)), (1, .int x)] := hl
  have hz8 : 0 ≤ u.1 8 ∧ u.1 8 ≤ 20 := hI.1.s8
  have hz9 : 0 ≤ u.1 9 ∧ u.1 9 ≤ 8 := hI.1.s9
  have hz10 : 0 ≤ u.1 10 ∧ u.1 10 ≤ 120 := hI.1.s10
  have hz12 : 0 ≤ u.1 12 ∧ u.1 12 ≤ 16 := hI.1.s12
  have hfr : qFc [14, 18] [] [] [] u u := qFc.rf
  refine lv_iload_n hF.1 hF.2.1 dX11_view_0 rfl (lv_at hl 1 rfl) ?_
  refine lv_iconst (v := 0) hF.1 hF.2.1 dX11_view_1 (by decide) ?_
  refine lv_aload_n hF.1 hF.2.1 dX11_view_2 rfl (lv_at hl 0 rfl) ?_
  refine q_get (v := .ref (E.2.2 99)) hF hU dX11_view_3 0 11 0 1100 1199 rfl rfl rfl rfl inX11 (by decide) (by decide) w_436 rfl rfl ?_
  refine q_get (v := .int (u.1 13)) hF hU dX11_view_6 1 0 13 13 99 rfl rfl rfl rfl inX0 (by decide) (by decide) w_178 rfl rfl ?_
  have hM9 := g_X11_isWithin l E A u x 0 (u.1 13)
  have hR9 := q_runS (l := l) (e := e0) (below := bl0) (meth := me0) (R := qR 3 0 0) (cells := 0) (slots := 0) (st0 := [.int (u.1 13), .int 0, .int x]) (rest := []) hF hU hS hA 3 hM9 w_468 w_469 w_99 w_470 (by decide +kernel) ⟨Nat.le_of_ble_eq_true rfl, Nat.le_of_ble_eq_true rfl⟩ dX11_view_9 rfl hl.1 rfl (Nat.le_of_ble_eq_true rfl) ⟨Nat.le_of_ble_eq_true rfl, Nat.le_of_ble_eq_true rfl⟩
  refine q_calli hR9 hU.2.2.2 hS (fun r_3 u_1 H locs hw_2 hU hS => ?_)
  obtain ⟨hw_2_e, hw_2⟩ := hw_2
  rw [hw_2_e] at hU
  have hw_2 : (r_3 = 1 ∧ ((0 : Int32) ≤ x ∧ x ≤ (u.1 13))) ∨ (r_3 = 0 ∧ (¬ ((0 : Int32) ≤ x ∧ x ≤ (u.1 13)))) := hw_2
  rcases hw_2 with ⟨rfl, b9_4⟩ | ⟨rfl, b9_4⟩
  · refine lv_if_ne (tgt := 17) hF.1 hF.2.1 dX11_view_12 (by decide) (fun _ => ?_) (fun h9 => absurd h9 (by decide))
    refine lv_aload_n hF.1 hF.2.1 dX11_view_17 rfl (lv_at hl 0 rfl) ?_
    refine q_get (v := .ref (E.2.2 99)) hF hU dX11_view_18 0 11 0 1100 1199 rfl rfl rfl rfl inX11 (by decide) (by decide) w_436 rfl rfl ?_
    refine lv_iload_n hF.1 hF.2.1 dX11_view_21 rfl (lv_at hl 1 rfl) ?_
    have hM9 := g_X0_lookFrom l E A u x hI
    have hR9 := q_runV (l := l) (e := e0) (below := bl0) (meth := me0) (R := qR 3 0 0) (cells := 0) (slots := 0) (st0 := [.int x, .ref (E.2.2 99)]) (rest := []) hF hU hS hA 1 1 0 99 rfl rfl rfl hM9 w_475 w_476 w_477 w_100 w_478 (by decide +kernel) ⟨Nat.le_of_ble_eq_true rfl, Nat.le_of_ble_eq_true rfl⟩ dX11_view_22 rfl hl.1 rfl (Nat.le_of_ble_eq_true rfl) ⟨Nat.le_of_ble_eq_true rfl, Nat.le_of_ble_eq_true rfl⟩
    refine q_callv hR9 hU.2.2.2 hS (fun u_5 H locs hw_6 hU hS => ?_)
    obtain ⟨⟨hw_6_f, hI⟩, hw_6⟩ := hw_6
    have hfo := hfr
    have hfr : qFc [14, 18] [] [] [] u u_5 := hfr.trans (hw_6_f.mono (by decide) (by decide) (by decide) (by decide))
    have hw_6 : u_5.1 14 = c_lf x (u.1 13) := hw_6
    refine lv_iconst (v := 1) hF.1 hF.2.1 dX11_view_25 (by decide) ?_
    exact q_iret hF hr (by decide) hlocks hU hS dX11_view_26 ⟨⟨hfr, hI⟩, (g_X11_view_v0 u x u_5 hz8 hz9 hz10 hz12 b9_4 hw_6)⟩
  · refine lv_if_ne (tgt := 17) hF.1 hF.2.1 dX11_view_12 (by decide) (fun h9 => absurd (by decide) h9) (fun _ => ?_)
    refine lv_iconst (v := 0) hF.1 hF.2.1 dX11_view_15 (by decide) ?_
    exact q_iret hF hr (by decide) hlocks hU hS dX11_view_16 ⟨⟨hfr, hI⟩, (g_X11_view_v1 u x hz8 hz9 hz10 hz12 b9_4)⟩
set_option maxHeartbeats 1000000 in
set_option maxRecDepth 100000 in
theorem g_X0_walkAt (l : Launch) (E : qE) (A : Nat → Prop) (u : qS) (x : Int32) (hI : IC E u) : Met l yX0_walkAt (uws yX0_walkAt cX0_walkAt 2 none) (qR 0 0 0) (qPc E A 0 u [.ref (E.2.2 99), .int x]) (qQv E A 0 (fun u1 => (qFc [15, 18] [] [] [] u u1 ∧ IC E u1) ∧ (True))) 0 0 A := by
  refine q_met (own := RX0) (f := 0) [.ref (E.2.2 99), .int x] (by decide) (Nat.le_of_ble_eq_true rfl) rfl ?_
  intro p0 e0 s0 m0 bl0 me0 cd0 ls hF hr hlocks hU hS hA hl
  have hl : lv_has ls 2 [(0, .ref (E.2.2 99)), (1, .int x)] := hl
  have hz8 : 0 ≤ u.1 8 ∧ u.1 8 ≤ 20 := hI.1.s8
  have hz9 : 0 ≤ u.1 9 ∧ u.1 9 ≤ 8 := hI.1.s9
  have hz10 : 0 ≤ u.1 10 ∧ u.1 10 ≤ 120 := hI.1.s10
  have hz12 : 0 ≤ u.1 12 ∧ u.1 12 ≤ 16 := hI.1.s12
  have hfr : qFc [15, 18] [] [] [] u u := qFc.rf
  refine lv_aload_n hF.1 hF.2.1 dX0_walkAt_0 rfl (lv_at hl 0 rfl) ?_
  refine lv_iload_n hF.1 hF.2.1 dX0_walkAt_1 rfl (lv_at hl 1 rfl) ?_
  refine q_put hF hU hS dX0_walkAt_2 1 0 15 15 99 rfl rfl rfl rfl inX0 tyX0 tyX0_ok nmX0 (by decide) (by decide) rfl w_181 rfl rfl rfl rfl (fun H locs hU hS => ?_)
  have hfr : qFc [15, 18] [] [] [] u (qsI u 15 x) := hfr.setI (by decide) (fun q => absurd q (by decide))
  have hI : IC E (qsI u 15 x) := hI.sI (by decide)
  refine lv_aload_n hF.1 hF.2.1 dX0_walkAt_5 rfl (lv_at hl 0 rfl) ?_
  refine lv_dup hF.1 hF.2.1 dX0_walkAt_6 rfl ?_
  refine q_get (v := .int (u.1 18)) hF hU dX0_walkAt_7 1 0 18 18 99 rfl rfl rfl rfl inX0 (by decide) (by decide) w_191 rfl rfl ?_
  refine lv_iconst (v := 1) hF.1 hF.2.1 dX0_walkAt_10 (by decide) ?_
  refine lv_iadd hF.1 hF.2.1 dX0_walkAt_11 ?_
  refine q_put hF hU hS dX0_walkAt_12 1 0 18 18 99 rfl rfl rfl rfl inX0 tyX0 tyX0_ok nmX0 (by decide) (by decide) rfl w_191 rfl rfl rfl rfl (fun H locs hU hS => ?_)
  have hfr : qFc [15, 18] [] [] [] u (qsI (qsI u 15 x) 18 ((u.1 18) + 1)) := hfr.setI (by decide) (fun q => absurd q (by decide))
  have hI : IC E (qsI (qsI u 15 x) 18 ((u.1 18) + 1)) := hI.sI (by decide)
  exact q_vret hF hr hlocks hU hS dX0_walkAt_15 ⟨⟨hfr, hI⟩, trivial⟩
set_option maxRecDepth 100000 in
theorem g_X11_terms_v0 (u : qS) (x : Int32) (y : Int32) (z : Int32) (hz8 : 0 ≤ u.1 8 ∧ u.1 8 ≤ 20) (hz9 : 0 ≤ u.1 9 ∧ u.1 9 ≤ 8) (hz10 : 0 ≤ u.1 10 ∧ u.1 10 ≤ 120) (hz12 : 0 ≤ u.1 12 ∧ u.1 12 ≤ 16) (b4_4 : (1 : Int32) ≤ x ∧ x ≤ (60 : Int32)) (b15_8 : (0 : Int32) ≤ y ∧ y ≤ (999 : Int32)) (b26_12 : (0 : Int32) ≤ z ∧ z ≤ (1000 : Int32)) : (((1 ≤ x ∧ x ≤ 60) ∧ (0 ≤ y ∧ y ≤ 999) ∧ (0 ≤ z ∧ z ≤ 1000)) ∧ (1 : Int32) = 1) ∨ (¬ ((1 ≤ x ∧ x ≤ 60) ∧ (0 ≤ y ∧ y ≤ 999) ∧ (0 ≤ z ∧ z ≤ 1000)) ∧ (1 : Int32) = 0) := by
  first | omega | ((try simp only [g_m1, Int32.lt_iff_toInt_lt, Int32.le_iff_toInt_le, ← Int32.toInt_inj, Int32.reduceToInt] at *); omega) | ((try simp only [g_m1, Int32.lt_iff_toInt_lt, Int32.le_iff_toInt_le, ← Int32.toInt_inj, Int32.reduceToInt] at *); omega) | ((try simp only [g_m1, Int32.lt_iff_toInt_lt, Int32.le_iff_toInt_le, ← Int32.toInt_inj, Int32.toInt_add, Int32.toInt_sub, Int32.toInt_mul, Int32.toInt_neg, Int32.reduceToInt, g_bm, g_bm'] at *); omega) | (have qr1 := g_rng x; have qr2 := g_rng y; have qr3 := g_rng z; (try simp only [g_m1, Int32.lt_iff_toInt_lt, Int32.le_iff_toInt_le, ← Int32.toInt_inj, Int32.toInt_add, Int32.toInt_sub, Int32.toInt_mul, Int32.toInt_neg, Int32.reduceToInt, g_bm, g_bm'] at *); omega) | (simp only [g_m1, Int32.lt_iff_toInt_lt, Int32.le_iff_toInt_le, ← Int32.toInt_inj, Int32.toInt_add, Int32.toInt_sub, Int32.toInt_mul, Int32.toInt_neg, Int32.reduceToInt, g_bm, g_bm'] at *; simp at *; omega) | (simp_all; done)
set_option maxRecDepth 100000 in
theorem g_X11_terms_v1 (u : qS) (x : Int32) (y : Int32) (z : Int32) (hz8 : 0 ≤ u.1 8 ∧ u.1 8 ≤ 20) (hz9 : 0 ≤ u.1 9 ∧ u.1 9 ≤ 8) (hz10 : 0 ≤ u.1 10 ∧ u.1 10 ≤ 120) (hz12 : 0 ≤ u.1 12 ∧ u.1 12 ≤ 16) (b4_4 : (1 : Int32) ≤ x ∧ x ≤ (60 : Int32)) (b15_8 : (0 : Int32) ≤ y ∧ y ≤ (999 : Int32)) (b26_12 : ¬ ((0 : Int32) ≤ z ∧ z ≤ (1000 : Int32))) : (((1 ≤ x ∧ x ≤ 60) ∧ (0 ≤ y ∧ y ≤ 999) ∧ (0 ≤ z ∧ z ≤ 1000)) ∧ (0 : Int32) = 1) ∨ (¬ ((1 ≤ x ∧ x ≤ 60) ∧ (0 ≤ y ∧ y ≤ 999) ∧ (0 ≤ z ∧ z ≤ 1000)) ∧ (0 : Int32) = 0) := by
  first | omega | ((try simp only [g_m1, Int32.lt_iff_toInt_lt, Int32.le_iff_toInt_le, ← Int32.toInt_inj, Int32.reduceToInt] at *); omega) | ((try simp only [g_m1, Int32.lt_iff_toInt_lt, Int32.le_iff_toInt_le, ← Int32.toInt_inj, Int32.reduceToInt] at *); omega) | ((try simp only [g_m1, Int32.lt_iff_toInt_lt, Int32.le_iff_toInt_le, ← Int32.toInt_inj, Int32.toInt_add, Int32.toInt_sub, Int32.toInt_mul, Int32.toInt_neg, Int32.reduceToInt, g_bm, g_bm'] at *); omega) | (have qr1 := g_rng x; have qr2 := g_rng y; have qr3 := g_rng z; (try simp only [g_m1, Int32.lt_iff_toInt_lt, Int32.le_iff_toInt_le, ← Int32.toInt_inj, Int32.toInt_add, Int32.toInt_sub, Int32.toInt_mul, Int32.toInt_neg, Int32.reduceToInt, g_bm, g_bm'] at *); omega) | (simp only [g_m1, Int32.lt_iff_toInt_lt, Int32.le_iff_toInt_le, ← Int32.toInt_inj, Int32.toInt_add, Int32.toInt_sub, Int32.toInt_mul, Int32.toInt_neg, Int32.reduceToInt, g_bm, g_bm'] at *; simp at *; omega) | (simp_all; done)
set_option maxRecDepth 100000 in
theorem g_X11_terms_v2 (u : qS) (x : Int32) (y : Int32) (z : Int32) (hz8 : 0 ≤ u.1 8 ∧ u.1 8 ≤ 20) (hz9 : 0 ≤ u.1 9 ∧ u.1 9 ≤ 8) (hz10 : 0 ≤ u.1 10 ∧ u.1 10 ≤ 120) (hz12 : 0 ≤ u.1 12 ∧ u.1 12 ≤ 16) (b4_4 : (1 : Int32) ≤ x ∧ x ≤ (60 : Int32)) (b15_8 : ¬ ((0 : Int32) ≤ y ∧ y ≤ (999 : Int32))) : (((1 ≤ x ∧ x ≤ 60) ∧ (0 ≤ y ∧ y ≤ 999) ∧ (0 ≤ z ∧ z ≤ 1000)) ∧ (0 : Int32) = 1) ∨ (¬ ((1 ≤ x ∧ x ≤ 60) ∧ (0 ≤ y ∧ y ≤ 999) ∧ (0 ≤ z ∧ z ≤ 1000)) ∧ (0 : Int32) = 0) := by
  first | omega | ((try simp only [g_m1, Int32.lt_iff_toInt_lt, Int32.le_iff_toInt_le, ← Int32.toInt_inj, Int32.reduceToInt] at *); omega) | ((try simp only [g_m1, Int32.lt_iff_toInt_lt, Int32.le_iff_toInt_le, ← Int32.toInt_inj, Int32.reduceToInt] at *); omega) | ((try simp only [g_m1, Int32.lt_iff_toInt_lt, Int32.le_iff_toInt_le, ← Int32.toInt_inj, Int32.toInt_add, Int32.toInt_sub, Int32.toInt_mul, Int32.toInt_neg, Int32.reduceToInt, g_bm, g_bm'] at *); omega) | (have qr1 := g_rng x; have qr2 := g_rng y; have qr3 := g_rng z; (try simp only [g_m1, Int32.lt_iff_toInt_lt, Int32.le_iff_toInt_le, ← Int32.toInt_inj, Int32.toInt_add, Int32.toInt_sub, Int32.toInt_mul, Int32.toInt_neg, Int32.reduceToInt, g_bm, g_bm'] at *); omega) | (simp only [g_m1, Int32.lt_iff_toInt_lt, Int32.le_iff_toInt_le, ← Int32.toInt_inj, Int32.toInt_add, Int32.toInt_sub, Int32.toInt_mul, Int32.toInt_neg, Int32.reduceToInt, g_bm, g_bm'] at *; simp at *; omega) | (simp_all; done)
set_option maxRecDepth 100000 in
theorem g_X11_terms_v3 (u : qS) (x : Int32) (y : Int32) (z : Int32) (hz8 : 0 ≤ u.1 8 ∧ u.1 8 ≤ 20) (hz9 : 0 ≤ u.1 9 ∧ u.1 9 ≤ 8) (hz10 : 0 ≤ u.1 10 ∧ u.1 10 ≤ 120) (hz12 : 0 ≤ u.1 12 ∧ u.1 12 ≤ 16) (b4_4 : ¬ ((1 : Int32) ≤ x ∧ x ≤ (60 : Int32))) : (((1 ≤ x ∧ x ≤ 60) ∧ (0 ≤ y ∧ y ≤ 999) ∧ (0 ≤ z ∧ z ≤ 1000)) ∧ (0 : Int32) = 1) ∨ (¬ ((1 ≤ x ∧ x ≤ 60) ∧ (0 ≤ y ∧ y ≤ 999) ∧ (0 ≤ z ∧ z ≤ 1000)) ∧ (0 : Int32) = 0) := by
  first | omega | ((try simp only [g_m1, Int32.lt_iff_toInt_lt, Int32.le_iff_toInt_le, ← Int32.toInt_inj, Int32.reduceToInt] at *); omega) | ((try simp only [g_m1, Int32.lt_iff_toInt_lt, Int32.le_iff_toInt_le, ← Int32.toInt_inj, Int32.reduceToInt] at *); omega) | ((try simp only [g_m1, Int32.lt_iff_toInt_lt, Int32.le_iff_toInt_le, ← Int32.toInt_inj, Int32.toInt_add, Int32.toInt_sub, Int32.toInt_mul, Int32.toInt_neg, Int32.reduceToInt, g_bm, g_bm'] at *); omega) | (have qr1 := g_rng x; have qr2 := g_rng y; have qr3 := g_rng z; (try simp only [g_m1, Int32.lt_iff_toInt_lt, Int32.le_iff_toInt_le, ← Int32.toInt_inj, Int32.toInt_add, Int32.toInt_sub, Int32.toInt_mul, Int32.toInt_neg, Int32.reduceToInt, g_bm, g_bm'] at *); omega) | (simp only [g_m1, Int32.lt_iff_toInt_lt, Int32.le_iff_toInt_le, ← Int32.toInt_inj, Int32.toInt_add, Int32.toInt_sub, Int32.toInt_mul, Int32.toInt_neg, Int32.reduceToInt, g_bm, g_bm'] at *; simp at *; omega) | (simp_all; done)
set_option maxHeartbeats 1000000 in
set_option maxRecDepth 100000 in
theorem g_X11_terms (l : Launch) (E : qE) (A : Nat → Prop) (u : qS) (x : Int32) (y : Int32) (z : Int32) (hI : IC E u) : Met l yX11_terms (uws yX11_terms cX11_terms 4 (some .boolean)) (qR 1 0 0) (qPc E A 0 u [.ref (E.2.2 1199), .int x, .int y, .int z]) (qQi E A 0 (fun r u1 => (qFc [15, 18, 1107, 1108] [] [] [] u u1 ∧ IC E u1) ∧ ((((1 ≤ x ∧ x ≤ 60) ∧ (0 ≤ y ∧ y ≤ 999) ∧ (0 ≤ z ∧ z ≤ 1000)) ∧ r = 1) ∨ (¬ ((1 ≤ x ∧ x ≤ 60) ∧ (0 ≤ y ∧ y ≤ 999) ∧ (0 ≤ z ∧ z ≤ 1000)) ∧ r = 0)))) 0 0 A := by
  refine q_met (own := RX11) (f := 1) [.ref (E.2.2 1199), .int x, .int y, .int z] (by decide) (Nat.le_of_ble_eq_true rfl) rfl ?_
  intro p0 e0 s0 m0 bl0 me0 cd0 ls hF hr hlocks hU hS hA hl
  have hl : lv_has ls 4 [(0, .ref (E.2.2 1199)), (1, .int x), (2, .int y), (3, .int z)] := hl
  have hz8 : 0 ≤ u.1 8 ∧ u.1 8 ≤ 20 := hI.1.s8
  have hz9 : 0 ≤ u.1 9 ∧ u.1 9 ≤ 8 := hI.1.s9
  have hz10 : 0 ≤ u.1 10 ∧ u.1 10 ≤ 120 := hI.1.s10
  have hz12 : 0 ≤ u.1 12 ∧ u.1 12 ≤ 16 := hI.1.s12
  have hfr : qFc [15, 18, 1107, 1108] [] [] [] u u := qFc.rf
  refine lv_iload_n hF.1 hF.2.1 dX11_terms_0 rfl (lv_at hl 1 rfl) ?_
  refine lv_iconst (v := 1) hF.1 hF.2.1 dX11_terms_1 (by decide) ?_
  refine lv_bipush (v := 60) hF.1 hF.2.1 dX11_terms_2 (by decide) ?_
  have hM9 := g_X11_isWithin l E A u x 1 60
  have hR9 := q_runS (l := l) (e := e0) (below := bl0) (meth := me0) (R := qR 1 0 0) (cells := 0) (slots := 0) (st0 := [.int 60, .int 1, .int x]) (rest := []) hF hU hS hA 3 hM9 w_468 w_469 w_99 w_470 (by decide +kernel) ⟨Nat.le_of_ble_eq_true rfl, Nat.le_of_ble_eq_true rfl⟩ dX11_terms_4 rfl hl.1 rfl (Nat.le_of_ble_eq_true rfl) ⟨Nat.le_of_ble_eq_true rfl, Nat.le_of_ble_eq_true rfl⟩
  refine q_calli hR9 hU.2.2.2 hS (fun r_3 u_1 H locs hw_2 hU hS => ?_)
  obtain ⟨hw_2_e, hw_2⟩ := hw_2
  rw [hw_2_e] at hU
  have hw_2 : (r_3 = 1 ∧ ((1 : Int32) ≤ x ∧ x ≤ (60 : Int32))) ∨ (r_3 = 0 ∧ (¬ ((1 : Int32) ≤ x ∧ x ≤ (60 : Int32)))) := hw_2
  rcases hw_2 with ⟨rfl, b4_4⟩ | ⟨rfl, b4_4⟩
  · refine lv_if_eq (tgt := 32) hF.1 hF.2.1 dX11_terms_7 (by decide) (fun h9 => absurd h9 (by decide)) (fun _ => ?_)
    refine lv_iload_n hF.1 hF.2.1 dX11_terms_10 rfl (lv_at hl 2 rfl) ?_
    refine lv_iconst (v := 0) hF.1 hF.2.1 dX11_terms_11 (by decide) ?_
    refine lv_sipush (v := 999) hF.1 hF.2.1 dX11_terms_12 (by decide) ?_
    have hM9 := g_X11_isWithin l E A u y 0 999
    have hR9 := q_runS (l := l) (e := e0) (below := bl0) (meth := me0) (R := qR 1 0 0) (cells := 0) (slots := 0) (st0 := [.int 999, .int 0, .int y]) (rest := []) hF hU hS hA 3 hM9 w_468 w_469 w_99 w_470 (by decide +kernel) ⟨Nat.le_of_ble_eq_true rfl, Nat.le_of_ble_eq_true rfl⟩ dX11_terms_15 rfl hl.1 rfl (Nat.le_of_ble_eq_true rfl) ⟨Nat.le_of_ble_eq_true rfl, Nat.le_of_ble_eq_true rfl⟩
    refine q_calli hR9 hU.2.2.2 hS (fun r_7 u_5 H locs hw_6 hU hS => ?_)
    obtain ⟨hw_6_e, hw_6⟩ := hw_6
    rw [hw_6_e] at hU
    have hw_6 : (r_7 = 1 ∧ ((0 : Int32) ≤ y ∧ y ≤ (999 : Int32))) ∨ (r_7 = 0 ∧ (¬ ((0 : Int32) ≤ y ∧ y ≤ (999 : Int32)))) := hw_6
    rcases hw_6 with ⟨rfl, b15_8⟩ | ⟨rfl, b15_8⟩
    · refine lv_if_eq (tgt := 32) hF.1 hF.2.1 dX11_terms_18 (by decide) (fun h9 => absurd h9 (by decide)) (fun _ => ?_)
      refine lv_iload_n hF.1 hF.2.1 dX11_terms_21 rfl (lv_at hl 3 rfl) ?_
      refine lv_iconst (v := 0) hF.1 hF.2.1 dX11_terms_22 (by decide) ?_
      refine lv_sipush (v := 1000) hF.1 hF.2.1 dX11_terms_23 (by decide) ?_
      have hM9 := g_X11_isWithin l E A u z 0 1000
      have hR9 := q_runS (l := l) (e := e0) (below := bl0) (meth := me0) (R := qR 1 0 0) (cells := 0) (slots := 0) (st0 := [.int 1000, .int 0, .int z]) (rest := []) hF hU hS hA 3 hM9 w_468 w_469 w_99 w_470 (by decide +kernel) ⟨Nat.le_of_ble_eq_true rfl, Nat.le_of_ble_eq_true rfl⟩ dX11_terms_26 rfl hl.1 rfl (Nat.le_of_ble_eq_true rfl) ⟨Nat.le_of_ble_eq_true rfl, Nat.le_of_ble_eq_true rfl⟩
      refine q_calli hR9 hU.2.2.2 hS (fun r_11 u_9 H locs hw_10 hU hS => ?_)
      obtain ⟨hw_10_e, hw_10⟩ := hw_10
      rw [hw_10_e] at hU
      have hw_10 : (r_11 = 1 ∧ ((0 : Int32) ≤ z ∧ z ≤ (1000 : Int32))) ∨ (r_11 = 0 ∧ (¬ ((0 : Int32) ≤ z ∧ z ≤ (1000 : Int32)))) := hw_10
      rcases hw_10 with ⟨rfl, b26_12⟩ | ⟨rfl, b26_12⟩
      · refine lv_if_ne (tgt := 34) hF.1 hF.2.1 dX11_terms_29 (by decide) (fun _ => ?_) (fun h9 => absurd h9 (by decide))
        refine lv_aload_n hF.1 hF.2.1 dX11_terms_34 rfl (lv_at hl 0 rfl) ?_
        refine q_get (v := .ref (E.2.2 99)) hF hU dX11_terms_35 0 11 0 1100 1199 rfl rfl rfl rfl inX11 (by decide) (by decide) w_436 rfl rfl ?_
        refine lv_iload_n hF.1 hF.2.1 dX11_terms_38 rfl (lv_at hl 1 rfl) ?_
        have hM9 := g_X0_walkAt l E A u x hI
        have hR9 := q_runV (l := l) (e := e0) (below := bl0) (meth := me0) (R := qR 1 0 0) (cells := 0) (slots := 0) (st0 := [.int x, .ref (E.2.2 99)]) (rest := []) hF hU hS hA 1 1 0 99 rfl rfl rfl hM9 w_551 w_552 w_553 w_100 w_554 (by decide +kernel) ⟨Nat.le_of_ble_eq_true rfl, Nat.le_of_ble_eq_true rfl⟩ dX11_terms_39 rfl hl.1 rfl (Nat.le_of_ble_eq_true rfl) ⟨Nat.le_of_ble_eq_true rfl, Nat.le_of_ble_eq_true rfl⟩
        refine q_callv hR9 hU.2.2.2 hS (fun u_13 H locs hw_14 hU hS => ?_)
        obtain ⟨⟨hw_14_f, hI⟩, hw_14⟩ := hw_14
        have hfo := hfr
        have hfr : qFc [15, 18, 1107, 1108] [] [] [] u u_13 := hfr.trans (hw_14_f.mono (by decide) (by decide) (by decide) (by decide))
        have e_16 : u_13.1 1107 = (u.1 1107) := (hw_14_f.1 1107 (by decide)).trans rfl
        have e_17 : u_13.1 1108 = (u.1 1108) := (hw_14_f.1 1108 (by decide)).trans rfl
        refine lv_aload_n hF.1 hF.2.1 dX11_terms_42 rfl (lv_at hl 0 rfl) ?_
        refine lv_iload_n hF.1 hF.2.1 dX11_terms_43 rfl (lv_at hl 2 rfl) ?_
        refine q_put hF hU hS dX11_terms_44 0 11 7 1107 1199 rfl rfl rfl rfl inX11 tyX11 tyX11_ok nmX11 (by decide) (by decide) rfl w_443 rfl rfl rfl rfl (fun H locs hU hS => ?_)
        have hfr : qFc [15, 18, 1107, 1108] [] [] [] u (qsI u_13 1107 y) := hfr.setI (by decide) (fun q => absurd q (by decide))
        have hI : IC E (qsI u_13 1107 y) := hI.sI (by decide)
        refine lv_aload_n hF.1 hF.2.1 dX11_terms_47 rfl (lv_at hl 0 rfl) ?_
        refine lv_iload_n hF.1 hF.2.1 dX11_terms_48 rfl (lv_at hl 3 rfl) ?_
        refine q_put hF hU hS dX11_terms_49 0 11 8 1108 1199 rfl rfl rfl rfl inX11 tyX11 tyX11_ok nmX11 (by decide) (by decide) rfl w_444 rfl rfl rfl rfl (fun H locs hU hS => ?_)
        have hfr : qFc [15, 18, 1107, 1108] [] [] [] u (qsI (qsI u_13 1107 y) 1108 z) := hfr.setI (by decide) (fun q => absurd q (by decide))
        have hI : IC E (qsI (qsI u_13 1107 y) 1108 z) := hI.sI (by decide)
        refine lv_iconst (v := 1) hF.1 hF.2.1 dX11_terms_52 (by decide) ?_
        exact q_iret hF hr (by decide) hlocks hU hS dX11_terms_53 ⟨⟨hfr, hI⟩, (g_X11_terms_v0 u x y z hz8 hz9 hz10 hz12 b4_4 b15_8 b26_12)⟩
      · refine lv_if_ne (tgt := 34) hF.1 hF.2.1 dX11_terms_29 (by decide) (fun h9 => absurd (by decide) h9) (fun _ => ?_)
        refine lv_iconst (v := 0) hF.1 hF.2.1 dX11_terms_32 (by decide) ?_
        exact q_iret hF hr (by decide) hlocks hU hS dX11_terms_33 ⟨⟨hfr, hI⟩, (g_X11_terms_v1 u x y z hz8 hz9 hz10 hz12 b4_4 b15_8 b26_12)⟩
    · refine lv_if_eq (tgt := 32) hF.1 hF.2.1 dX11_terms_18 (by decide) (fun _ => ?_) (fun h9 => absurd (by decide) h9)
      refine lv_iconst (v := 0) hF.1 hF.2.1 dX11_terms_32 (by decide) ?_
      exact q_iret hF hr (by decide) hlocks hU hS dX11_terms_33 ⟨⟨hfr, hI⟩, (g_X11_terms_v2 u x y z hz8 hz9 hz10 hz12 b4_4 b15_8)⟩
  · refine lv_if_eq (tgt := 32) hF.1 hF.2.1 dX11_terms_7 (by decide) (fun _ => ?_) (fun h9 => absurd (by decide) h9)
    refine lv_iconst (v := 0) hF.1 hF.2.1 dX11_terms_32 (by decide) ?_
    exact q_iret hF hr (by decide) hlocks hU hS dX11_terms_33 ⟨⟨hfr, hI⟩, (g_X11_terms_v3 u x y z hz8 hz9 hz10 hz12 b4_4)⟩
set_option maxRecDepth 100000 in
theorem g_X11_rest_v0 (u : qS) (x : Int32) (y : Int32) (hz8 : 0 ≤ u.1 8 ∧ u.1 8 ≤ 20) (hz9 : 0 ≤ u.1 9 ∧ u.1 9 ≤ 8) (hz10 : 0 ≤ u.1 10 ∧ u.1 10 ≤ 120) (hz12 : 0 ≤ u.1 12 ∧ u.1 12 ≤ 16) (b5_4 : (0 : Int32) ≤ x ∧ x ≤ (400 : Int32)) (b16_8 : (0 : Int32) ≤ y ∧ y ≤ (198 : Int32)) : (((0 ≤ x ∧ x ≤ 400) ∧ (0 ≤ y ∧ y ≤ 198)) ∧ (1 : Int32) = 1 ∧ (x : Int32) = x ∧ (y : Int32) = y) ∨ (¬ ((0 ≤ x ∧ x ≤ 400) ∧ (0 ≤ y ∧ y ≤ 198)) ∧ (1 : Int32) = 0 ∧ (x : Int32) = u.1 16 ∧ (y : Int32) = u.1 17) := by
  first | exact Or.inl ⟨⟨by assumption, by assumption⟩, rfl, rfl, rfl⟩ | exact Or.inr ⟨fun q => (by obtain ⟨q1, q2⟩ := q; first | exact absurd q1 (by assumption) | exact absurd q2 (by assumption)), rfl, rfl, rfl⟩
set_option maxRecDepth 100000 in
theorem g_X11_rest_v1 (u : qS) (x : Int32) (y : Int32) (hz8 : 0 ≤ u.1 8 ∧ u.1 8 ≤ 20) (hz9 : 0 ≤ u.1 9 ∧ u.1 9 ≤ 8) (hz10 : 0 ≤ u.1 10 ∧ u.1 10 ≤ 120) (hz12 : 0 ≤ u.1 12 ∧ u.1 12 ≤ 16) (b5_4 : (0 : Int32) ≤ x ∧ x ≤ (400 : Int32)) (b16_8 : ¬ ((0 : Int32) ≤ y ∧ y ≤ (198 : Int32))) : (((0 ≤ x ∧ x ≤ 400) ∧ (0 ≤ y ∧ y ≤ 198)) ∧ (0 : Int32) = 1 ∧ (u.1 16 : Int32) = x ∧ (u.1 17 : Int32) = y) ∨ (¬ ((0 ≤ x ∧ x ≤ 400) ∧ (0 ≤ y ∧ y ≤ 198)) ∧ (0 : Int32) = 0 ∧ (u.1 16 : Int32) = u.1 16 ∧ (u.1 17 : Int32) = u.1 17) := by
  first | exact Or.inl ⟨⟨by assumption, by assumption⟩, rfl, rfl, rfl⟩ | exact Or.inr ⟨fun q => (by obtain ⟨q1, q2⟩ := q; first | exact absurd q1 (by assumption) | exact absurd q2 (by assumption)), rfl, rfl, rfl⟩
set_option maxRecDepth 100000 in
theorem g_X11_rest_v2 (u : qS) (x : Int32) (y : Int32) (hz8 : 0 ≤ u.1 8 ∧ u.1 8 ≤ 20) (hz9 : 0 ≤ u.1 9 ∧ u.1 9 ≤ 8) (hz10 : 0 ≤ u.1 10 ∧ u.1 10 ≤ 120) (hz12 : 0 ≤ u.1 12 ∧ u.1 12 ≤ 16) (b5_4 : ¬ ((0 : Int32) ≤ x ∧ x ≤ (400 : Int32))) : (((0 ≤ x ∧ x ≤ 400) ∧ (0 ≤ y ∧ y ≤ 198)) ∧ (0 : Int32) = 1 ∧ (u.1 16 : Int32) = x ∧ (u.1 17 : Int32) = y) ∨ (¬ ((0 ≤ x ∧ x ≤ 400) ∧ (0 ≤ y ∧ y ≤ 198)) ∧ (0 : Int32) = 0 ∧ (u.1 16 : Int32) = u.1 16 ∧ (u.1 17 : Int32) = u.1 17) := by
  first | exact Or.inl ⟨⟨by assumption, by assumption⟩, rfl, rfl, rfl⟩ | exact Or.inr ⟨fun q => (by obtain ⟨q1, q2⟩ := q; first | exact absurd q1 (by assumption) | exact absurd q2 (by assumption)), rfl, rfl, rfl⟩
set_option maxHeartbeats 1000000 in
set_option maxRecDepth 100000 in
theorem g_X11_rest (l : Launch) (E : qE) (A : Nat → Prop) (u : qS) (x : Int32) (y : Int32) (hI : IC E u) : Met l yX11_rest (uws yX11_rest cX11_rest 3 (some .boolean)) (qR 1 0 0) (qPc E A 0 u [.ref (E.2.2 1199), .int x, .int y]) (qQi E A 0 (fun r u1 => (qFc [16, 17] [] [] [] u u1 ∧ IC E u1) ∧ ((((0 ≤ x ∧ x ≤ 400) ∧ (0 ≤ y ∧ y ≤ 198)) ∧ r = 1 ∧ u1.1 16 = x ∧ u1.1 17 = y) ∨ (¬ ((0 ≤ x ∧ x ≤ 400) ∧ (0 ≤ y ∧ y ≤ 198)) ∧ r = 0 ∧ u1.1 16 = u.1 16 ∧ u1.1 17 = u.1 17)))) 0 0 A := by
  refine q_met (own := RX11) (f := 1) [.ref (E.2.2 1199), .int x, .int y] (by decide) (Nat.le_of_ble_eq_true rfl) rfl ?_
  intro p0 e0 s0 m0 bl0 me0 cd0 ls hF hr hlocks hU hS hA hl
  have hl : lv_has ls 3 [(0, .ref (E.2.2 1199)), (1, .int x), (2, .int y)] := hl
  have hz8 : 0 ≤ u.1 8 ∧ u.1 8 ≤ 20 := hI.1.s8
  have hz9 : 0 ≤ u.1 9 ∧ u.1 9 ≤ 8 := hI.1.s9
  have hz10 : 0 ≤ u.1 10 ∧ u.1 10 ≤ 120 := hI.1.s10
  have hz12 : 0 ≤ u.1 12 ∧ u.1 12 ≤ 16 := hI.1.s12
  have hfr : qFc [16, 17] [] [] [] u u := qFc.rf
  refine lv_iload_n hF.1 hF.2.1 dX11_rest_0 rfl (lv_at hl 1 rfl) ?_
  refine lv_iconst (v := 0) hF.1 hF.2.1 dX11_rest_1 (by decide) ?_
  refine lv_sipush (v := 400) hF.1 hF.2.1 dX11_rest_2 (by decide) ?_
  have hM9 := g_X11_isWithin l E A u x 0 400
  have hR9 := q_runS (l := l) (e := e0) (below := bl0) (meth := me0) (R := qR 1 0 0) (cells := 0) (slots := 0) (st0 := [.int 400, .int 0, .int x]) (rest := []) hF hU hS hA 3 hM9 w_468 w_469 w_99 w_470 (by decide +kernel) ⟨Nat.le_of_ble_eq_true rfl, Nat.le_of_ble_eq_true rfl⟩ dX11_rest_5 rfl hl.1 rfl (Nat.le_of_ble_eq_true rfl) ⟨Nat.le_of_ble_eq_true rfl, Nat.le_of_ble_eq_true rfl⟩
  refine q_calli hR9 hU.2.2.2 hS (fun r_3 u_1 H locs hw_2 hU hS => ?_)
  obtain ⟨hw_2_e, hw_2⟩ := hw_2
  rw [hw_2_e] at hU
  have hw_2 : (r_3 = 1 ∧ ((0 : Int32) ≤ x ∧ x ≤ (400 : Int32))) ∨ (r_3 = 0 ∧ (¬ ((0 : Int32) ≤ x ∧ x ≤ (400 : Int32)))) := hw_2
  rcases hw_2 with ⟨rfl, b5_4⟩ | ⟨rfl, b5_4⟩
  · refine lv_if_eq (tgt := 22) hF.1 hF.2.1 dX11_rest_8 (by decide) (fun h9 => absurd h9 (by decide)) (fun _ => ?_)
    refine lv_iload_n hF.1 hF.2.1 dX11_rest_11 rfl (lv_at hl 2 rfl) ?_
    refine lv_iconst (v := 0) hF.1 hF.2.1 dX11_rest_12 (by decide) ?_
    refine lv_sipush (v := 198) hF.1 hF.2.1 dX11_rest_13 (by decide) ?_
    have hM9 := g_X11_isWithin l E A u y 0 198
    have hR9 := q_runS (l := l) (e := e0) (below := bl0) (meth := me0) (R := qR 1 0 0) (cells := 0) (slots := 0) (st0 := [.int 198, .int 0, .int y]) (rest := []) hF hU hS hA 3 hM9 w_468 w_469 w_99 w_470 (by decide +kernel) ⟨Nat.le_of_ble_eq_true rfl, Nat.le_of_ble_eq_true rfl⟩ dX11_rest_16 rfl hl.1 rfl (Nat.le_of_ble_eq_true rfl) ⟨Nat.le_of_ble_eq_true rfl, Nat.le_of_ble_eq_true rfl⟩
    refine q_calli hR9 hU.2.2.2 hS (fun r_7 u_5 H locs hw_6 hU hS => ?_)
    obtain ⟨hw_6_e, hw_6⟩ := hw_6
    rw [hw_6_e] at hU
    have hw_6 : (r_7 = 1 ∧ ((0 : Int32) ≤ y ∧ y ≤ (198 : Int32))) ∨ (r_7 = 0 ∧ (¬ ((0 : Int32) ≤ y ∧ y ≤ (198 : Int32)))) := hw_6
    rcases hw_6 with ⟨rfl, b16_8⟩ | ⟨rfl, b16_8⟩
    · refine lv_if_ne (tgt := 24) hF.1 hF.2.1 dX11_rest_19 (by decide) (fun _ => ?_) (fun h9 => absurd h9 (by decide))
      refine lv_aload_n hF.1 hF.2.1 dX11_rest_24 rfl (lv_at hl 0 rfl) ?_
      refine q_get (v := .ref (E.2.2 99)) hF hU dX11_rest_25 0 11 0 1100 1199 rfl rfl rfl rfl inX11 (by decide) (by decide) w_436 rfl rfl ?_
      refine lv_iload_n hF.1 hF.2.1 dX11_rest_28 rfl (lv_at hl 1 rfl) ?_
      refine q_put hF hU hS dX11_rest_29 1 0 16 16 99 rfl rfl rfl rfl inX0 tyX0 tyX0_ok nmX0 (by decide) (by decide) rfl w_185 rfl rfl rfl rfl (fun H locs hU hS => ?_)
      have hfr : qFc [16, 17] [] [] [] u (qsI u 16 x) := hfr.setI (by decide) (fun q => absurd q (by decide))
      have hI : IC E (qsI u 16 x) := hI.sI (by decide)
      refine lv_aload_n hF.1 hF.2.1 dX11_rest_32 rfl (lv_at hl 0 rfl) ?_
      refine q_get (v := .ref (E.2.2 99)) hF hU dX11_rest_33 0 11 0 1100 1199 rfl rfl rfl rfl inX11 (by decide) (by decide) w_436 rfl rfl ?_
      refine lv_iload_n hF.1 hF.2.1 dX11_rest_36 rfl (lv_at hl 2 rfl) ?_
      refine q_put hF hU hS dX11_rest_37 1 0 17 17 99 rfl rfl rfl rfl inX0 tyX0 tyX0_ok nmX0 (by decide) (by decide) rfl w_187 rfl rfl rfl rfl (fun H locs hU hS => ?_)
      have hfr : qFc [16, 17] [] [] [] u (qsI (qsI u 16 x) 17 y) := hfr.setI (by decide) (fun q => absurd q (by decide))
      have hI : IC E (qsI (qsI u 16 x) 17 y) := hI.sI (by decide)
      refine lv_iconst (v := 1) hF.1 hF.2.1 dX11_rest_40 (by decide) ?_
      exact q_iret hF hr (by decide) hlocks hU hS dX11_rest_41 ⟨⟨hfr, hI⟩, (g_X11_rest_v0 u x y hz8 hz9 hz10 hz12 b5_4 b16_8)⟩
    · refine lv_if_ne (tgt := 24) hF.1 hF.2.1 dX11_rest_19 (by decide) (fun h9 => absurd (by decide) h9) (fun _ => ?_)
      refine lv_iconst (v := 0) hF.1 hF.2.1 dX11_rest_22 (by decide) ?_
      exact q_iret hF hr (by decide) hlocks hU hS dX11_rest_23 ⟨⟨hfr, hI⟩, (g_X11_rest_v1 u x y hz8 hz9 hz10 hz12 b5_4 b16_8)⟩
  · refine lv_if_eq (tgt := 22) hF.1 hF.2.1 dX11_rest_8 (by decide) (fun _ => ?_) (fun h9 => absurd (by decide) h9)
    refine lv_iconst (v := 0) hF.1 hF.2.1 dX11_rest_22 (by decide) ?_
    exact q_iret hF hr (by decide) hlocks hU hS dX11_rest_23 ⟨⟨hfr, hI⟩, (g_X11_rest_v2 u x y hz8 hz9 hz10 hz12 b5_4)⟩
set_option maxRecDepth 100000 in
theorem g_X11_feed_v0 (u : qS) (a : Int64) (b : Int64) (c : Int64) (u_1 : qS) (u_4 : qS) (u_7 : qS) (hz8 : 0 ≤ u.1 8 ∧ u.1 8 ≤ 20) (hz9 : 0 ≤ u.1 9 ∧ u.1 9 ≤ 8) (hz10 : 0 ≤ u.1 10 ∧ u.1 10 ≤ 120) (hz12 : 0 ≤ u.1 12 ∧ u.1 12 ≤ 16) (hw_2 : (u_1.1 801).toInt = min 1000 ((u.1 801).toInt + (cntC a 8 : Int))) (hw_5 : (u_4.1 801).toInt = min 1000 (((u_1.1 801 : Int32)).toInt + (cntC b 8 : Int))) (hw_8 : (u_7.1 801).toInt = min 1000 (((u_4.1 801 : Int32)).toInt + (cntC c 8 : Int))) (hs_10 : 0 ≤ u_7.1 801 ∧ u_7.1 801 ≤ 1000) : (u_7.1 801 : Int32).toInt = min 1000 ((u.1 801).toInt + (cntC a 8 : Int) + (cntC b 8 : Int) + (cntC c 8 : Int)) ∧ (u_7.1 801 : Int32) = (u_7.1 801 : Int32) := by
  refine ⟨?_, rfl⟩; omega
set_option maxHeartbeats 1000000 in
set_option maxRecDepth 100000 in
theorem g_X11_feed (l : Launch) (E : qE) (A : Nat → Prop) (u : qS) (a : Int64) (b : Int64) (c : Int64) (hI : IC E u) : Met l yX11_feed (uws yX11_feed cX11_feed 7 (some .int)) (qR 2 0 0) (qPc E A 0 u [.ref (E.2.2 1199), .long a, .long b, .long c]) (qQi E A 0 (fun r u1 => (qFc [801] [800] [] [] u u1 ∧ IC E u1) ∧ (r.toInt = min 1000 ((u.1 801).toInt + (cntC a 8 : Int) + (cntC b 8 : Int) + (cntC c 8 : Int)) ∧ u1.1 801 = r))) 0 0 A := by
  refine q_met (own := RX11) (f := 2) [.ref (E.2.2 1199), .long a, .long b, .long c] (by decide) (Nat.le_of_ble_eq_true rfl) rfl ?_
  intro p0 e0 s0 m0 bl0 me0 cd0 ls hF hr hlocks hU hS hA hl
  have hl : lv_has ls 7 [(0, .ref (E.2.2 1199)), (1, .long a), (3, .long b), (5, .long c)] := hl
  have hz8 : 0 ≤ u.1 8 ∧ u.1 8 ≤ 20 := hI.1.s8
  have hz9 : 0 ≤ u.1 9 ∧ u.1 9 ≤ 8 := hI.1.s9
  have hz10 : 0 ≤ u.1 10 ∧ u.1 10 ≤ 120 := hI.1.s10
  have hz12 : 0 ≤ u.1 12 ∧ u.1 12 ≤ 16 := hI.1.s12
  have hfr : qFc [801] [800] [] [] u u := qFc.rf
  refine lv_aload_n hF.1 hF.2.1 dX11_feed_0 rfl (lv_at hl 0 rfl) ?_
  refine q_get (v := .ref (E.2.2 899)) hF hU dX11_feed_1 0 11 1 1101 1199 rfl rfl rfl rfl inX11 (by decide) (by decide) w_437 rfl rfl ?_
  refine lv_lload_n hF.1 hF.2.1 dX11_feed_4 rfl (lv_at hl 1 rfl) ?_
  have hM9 := g_X8_addBytes l E A u a hI
  have hR9 := q_runV (l := l) (e := e0) (below := bl0) (meth := me0) (R := qR 2 0 0) (cells := 0) (slots := 0) (st0 := [.long a, .ref (E.2.2 899)]) (rest := []) hF hU hS hA 1 2 8 899 rfl rfl rfl hM9 w_690 w_691 w_692 w_101 w_693 (by decide +kernel) ⟨Nat.le_of_ble_eq_true rfl, Nat.le_of_ble_eq_true rfl⟩ dX11_feed_5 rfl hl.1 rfl (Nat.le_of_ble_eq_true rfl) ⟨Nat.le_of_ble_eq_true rfl, Nat.le_of_ble_eq_true rfl⟩
  refine q_callv hR9 hU.2.2.2 hS (fun u_1 H locs hw_2 hU hS => ?_)
  obtain ⟨⟨hw_2_f, hI, hw_2_d⟩, hw_2⟩ := hw_2
  have hfo := hfr
  have hfr : qFc [801] [800] [] [] u u_1 := hfr.trans (hw_2_f.mono (by decide) (by decide) (by decide) (by decide))
  have hw_2 : (u_1.1 801).toInt = min 1000 ((u.1 801).toInt + (cntC a 8 : Int)) := hw_2
  refine lv_aload_n hF.1 hF.2.1 dX11_feed_8 rfl (lv_at hl 0 rfl) ?_
  refine q_get (v := .ref (E.2.2 899)) hF hU dX11_feed_9 0 11 1 1101 1199 rfl rfl rfl rfl inX11 (by decide) (by decide) w_437 rfl rfl ?_
  refine lv_lload_n hF.1 hF.2.1 dX11_feed_12 rfl (lv_at hl 2 rfl) ?_
  have hM9 := g_X8_addBytes l E A u_1 b hI
  have hR9 := q_runV (l := l) (e := e0) (below := bl0) (meth := me0) (R := qR 2 0 0) (cells := 0) (slots := 0) (st0 := [.long b, .ref (E.2.2 899)]) (rest := []) hF hU hS hA 1 2 8 899 rfl rfl rfl hM9 w_690 w_691 w_692 w_101 w_693 (by decide +kernel) ⟨Nat.le_of_ble_eq_true rfl, Nat.le_of_ble_eq_true rfl⟩ dX11_feed_13 rfl hl.1 rfl (Nat.le_of_ble_eq_true rfl) ⟨Nat.le_of_ble_eq_true rfl, Nat.le_of_ble_eq_true rfl⟩
  refine q_callv hR9 hU.2.2.2 hS (fun u_4 H locs hw_5 hU hS => ?_)
  obtain ⟨⟨hw_5_f, hI, hw_5_d⟩, hw_5⟩ := hw_5
  have hfo := hfr
  have hfr : qFc [801] [800] [] [] u u_4 := hfr.trans (hw_5_f.mono (by decide) (by decide) (by decide) (by decide))
  have hw_5 : (u_4.1 801).toInt = min 1000 (((u_1.1 801 : Int32)).toInt + (cntC b 8 : Int)) := hw_5
  refine lv_aload_n hF.1 hF.2.1 dX11_feed_16 rfl (lv_at hl 0 rfl) ?_
  refine q_get (v := .ref (E.2.2 899)) hF hU dX11_feed_17 0 11 1 1101 1199 rfl rfl rfl rfl inX11 (by decide) (by decide) w_437 rfl rfl ?_
  refine lv_lload hF.1 hF.2.1 dX11_feed_20 (lv_at hl 3 rfl) ?_
  have hM9 := g_X8_addBytes l E A u_4 c hI
  have hR9 := q_runV (l := l) (e := e0) (below := bl0) (meth := me0) (R := qR 2 0 0) (cells := 0) (slots := 0) (st0 := [.long c, .ref (E.2.2 899)]) (rest := []) hF hU hS hA 1 2 8 899 rfl rfl rfl hM9 w_690 w_691 w_692 w_101 w_693 (by decide +kernel) ⟨Nat.le_of_ble_eq_true rfl, Nat.le_of_ble_eq_true rfl⟩ dX11_feed_22 rfl hl.1 rfl (Nat.le_of_ble_eq_true rfl) ⟨Nat.le_of_ble_eq_true rfl, Nat.le_of_ble_eq_true rfl⟩
  refine q_callv hR9 hU.2.2.2 hS (fun u_7 H locs hw_8 hU hS => ?_)
  obtain ⟨⟨hw_8_f, hI, hw_8_d⟩, hw_8⟩ := hw_8
  have hfo := hfr
  have hfr : qFc [801] [800] [] [] u u_7 := hfr.trans (hw_8_f.mono (by decide) (by decide) (by decide) (by decide))
  have hw_8 : (u_7.1 801).toInt = min 1000 (((u_4.1 801 : Int32)).toInt + (cntC c 8 : Int)) := hw_8
  refine lv_aload_n hF.1 hF.2.1 dX11_feed_25 rfl (lv_at hl 0 rfl) ?_
  refine q_get (v := .ref (E.2.2 899)) hF hU dX11_feed_26 0 11 1 1101 1199 rfl rfl rfl rfl inX11 (by decide) (by decide) w_437 rfl rfl ?_
  refine q_get (v := .int (u_7.1 801)) hF hU dX11_feed_29 2 8 1 801 899 rfl rfl rfl rfl inX8 (by decide) (by decide) w_240 rfl rfl ?_
  have hs_10 : 0 ≤ u_7.1 801 ∧ u_7.1 801 ≤ 1000 := hI.1.s801
  exact q_iret hF hr rfl hlocks hU hS dX11_feed_32 ⟨⟨hfr, hI⟩, (g_X11_feed_v0 u a b c u_1 u_4 u_7 hz8 hz9 hz10 hz12 hw_2 hw_5 hw_8 hs_10)⟩
set_option maxRecDepth 100000 in
theorem g_X11_appeal_v0 (u : qS) (x : Int32) (y : Int32) (hz8 : 0 ≤ u.1 8 ∧ u.1 8 ≤ 20) (hz9 : 0 ≤ u.1 9 ∧ u.1 9 ≤ 8) (hz10 : 0 ≤ u.1 10 ∧ u.1 10 ≤ 120) (hz11 : 0 ≤ u.1 11 ∧ u.1 11 ≤ 60) (b11_4 : (0 : Int32) ≤ x ∧ x ≤ ((u.1 10) - 1)) (b21_8 : (0 : Int32) ≤ y ∧ y ≤ (11 : Int32)) : 0 ≤ x ∧ x < (u.1 10) := by
  first | omega | ((try simp only [g_m1, Int32.lt_iff_toInt_lt, Int32.le_iff_toInt_le, ← Int32.toInt_inj, Int32.reduceToInt] at *); omega) | ((try have ez0 : ((u.1 10) - 1 : Int32).toInt = (u.1 10 : Int32).toInt - (1 : Int32).toInt := g_sub (by (try simp only [g_m1, Int32.lt_iff_toInt_lt, Int32.le_iff_toInt_le, ← Int32.toInt_inj, Int32.reduceToInt] at *); omega) (by (try simp only [g_m1, Int32.lt_iff_toInt_lt, Int32.le_iff_toInt_le, ← Int32.toInt_inj, Int32.reduceToInt] at *); omega)); (try simp only [g_m1, Int32.lt_iff_toInt_lt, Int32.le_iff_toInt_le, ← Int32.toInt_inj, Int32.reduceToInt] at *); omega) | ((try simp only [g_m1, Int32.lt_iff_toInt_lt, Int32.le_iff_toInt_le, ← Int32.toInt_inj, Int32.toInt_add, Int32.toInt_sub, Int32.toInt_mul, Int32.toInt_neg, Int32.reduceToInt, g_bm, g_bm'] at *); omega) | (have qr1 := g_rng x; have qr2 := g_rng y; (try simp only [g_m1, Int32.lt_iff_toInt_lt, Int32.le_iff_toInt_le, ← Int32.toInt_inj, Int32.toInt_add, Int32.toInt_sub, Int32.toInt_mul, Int32.toInt_neg, Int32.reduceToInt, g_bm, g_bm'] at *); omega) | (simp only [g_m1, Int32.lt_iff_toInt_lt, Int32.le_iff_toInt_le, ← Int32.toInt_inj, Int32.toInt_add, Int32.toInt_sub, Int32.toInt_mul, Int32.toInt_neg, Int32.reduceToInt, g_bm, g_bm'] at *; simp at *; omega) | (simp_all; done)
set_option maxRecDepth 100000 in
theorem g_X11_appeal_v1 (u : qS) (x : Int32) (y : Int32) (hz8 : 0 ≤ u.1 8 ∧ u.1 8 ≤ 20) (hz9 : 0 ≤ u.1 9 ∧ u.1 9 ≤ 8) (hz10 : 0 ≤ u.1 10 ∧ u.1 10 ≤ 120) (hz11 : 0 ≤ u.1 11 ∧ u.1 11 ≤ 60) (b11_4 : (0 : Int32) ≤ x ∧ x ≤ ((u.1 10) - 1)) (b21_8 : (0 : Int32) ≤ y ∧ y ≤ (11 : Int32)) : vp_in (x) 120 := by
  refine g_in ?_ ?_ <;> ((try simp only [g_m1, Int32.lt_iff_toInt_lt, Int32.le_iff_toInt_le, ← Int32.toInt_inj, Int32.toInt_add, Int32.toInt_sub, Int32.toInt_mul, Int32.toInt_neg, Int32.reduceToInt, g_bm, g_bm'] at *); omega)
set_option maxRecDepth 100000 in
theorem g_X11_appeal_v2 (u : qS) (x : Int32) (y : Int32) (a_9 : Nat) (hz8 : 0 ≤ u.1 8 ∧ u.1 8 ≤ 20) (hz9 : 0 ≤ u.1 9 ∧ u.1 9 ≤ 8) (hz10 : 0 ≤ u.1 10 ∧ u.1 10 ≤ 120) (hz11 : 0 ≤ u.1 11 ∧ u.1 11 ≤ 60) (b11_4 : (0 : Int32) ≤ x ∧ x ≤ ((u.1 10) - 1)) (b21_8 : (0 : Int32) ≤ y ∧ y ≤ (11 : Int32)) (ha_9_10_e : u.2.2.2.1 2 (x : Int32).toNatClampNeg = some a_9) (hb_16 : 0 ≤ qfd u.2.2.2.2 a_9 2 ∧ qfd u.2.2.2.2 a_9 2 < (u.1 8)) : 0 ≤ (qfd u.2.2.2.2 a_9 2) ∧ (qfd u.2.2.2.2 a_9 2) < (u.1 8) := by
  first | omega | ((try simp only [g_m1, Int32.lt_iff_toInt_lt, Int32.le_iff_toInt_le, ← Int32.toInt_inj, Int32.reduceToInt] at *); omega) | ((try have ez0 : ((u.1 10) - 1 : Int32).toInt = (u.1 10 : Int32).toInt - (1 : Int32).toInt := g_sub (by (try simp only [g_m1, Int32.lt_iff_toInt_lt, Int32.le_iff_toInt_le, ← Int32.toInt_inj, Int32.reduceToInt] at *); omega) (by (try simp only [g_m1, Int32.lt_iff_toInt_lt, Int32.le_iff_toInt_le, ← Int32.toInt_inj, Int32.reduceToInt] at *); omega)); (try simp only [g_m1, Int32.lt_iff_toInt_lt, Int32.le_iff_toInt_le, ← Int32.toInt_inj, Int32.reduceToInt] at *); omega) | ((try simp only [g_m1, Int32.lt_iff_toInt_lt, Int32.le_iff_toInt_le, ← Int32.toInt_inj, Int32.toInt_add, Int32.toInt_sub, Int32.toInt_mul, Int32.toInt_neg, Int32.reduceToInt, g_bm, g_bm'] at *); omega) | (have qr1 := g_rng x; have qr2 := g_rng y; (try simp only [g_m1, Int32.lt_iff_toInt_lt, Int32.le_iff_toInt_le, ← Int32.toInt_inj, Int32.toInt_add, Int32.toInt_sub, Int32.toInt_mul, Int32.toInt_neg, Int32.reduceToInt, g_bm, g_bm'] at *); omega) | (simp only [g_m1, Int32.lt_iff_toInt_lt, Int32.le_iff_toInt_le, ← Int32.toInt_inj, Int32.toInt_add, Int32.toInt_sub, Int32.toInt_mul, Int32.toInt_neg, Int32.reduceToInt, g_bm, g_bm'] at *; simp at *; omega) | (simp_all; done)
set_option maxRecDepth 100000 in
theorem g_X11_appeal_v3 (u : qS) (x : Int32) (y : Int32) (a_9 : Nat) (hz8 : 0 ≤ u.1 8 ∧ u.1 8 ≤ 20) (hz9 : 0 ≤ u.1 9 ∧ u.1 9 ≤ 8) (hz10 : 0 ≤ u.1 10 ∧ u.1 10 ≤ 120) (hz11 : 0 ≤ u.1 11 ∧ u.1 11 ≤ 60) (b11_4 : (0 : Int32) ≤ x ∧ x ≤ ((u.1 10) - 1)) (b21_8 : (0 : Int32) ≤ y ∧ y ≤ (11 : Int32)) (ha_9_10_e : u.2.2.2.1 2 (x : Int32).toNatClampNeg = some a_9) (hb_16 : 0 ≤ qfd u.2.2.2.2 a_9 2 ∧ qfd u.2.2.2.2 a_9 2 < (u.1 8)) : vp_in (qfd u.2.2.2.2 a_9 2) 20 := by
  refine g_in ?_ ?_ <;> ((try simp only [g_m1, Int32.lt_iff_toInt_lt, Int32.le_iff_toInt_le, ← Int32.toInt_inj, Int32.toInt_add, Int32.toInt_sub, Int32.toInt_mul, Int32.toInt_neg, Int32.reduceToInt, g_bm, g_bm'] at *); omega)
set_option maxRecDepth 100000 in
theorem g_X11_appeal_v4 (u : qS) (x : Int32) (y : Int32) (a_9 : Nat) (a_17 : Nat) (hz8 : 0 ≤ u.1 8 ∧ u.1 8 ≤ 20) (hz9 : 0 ≤ u.1 9 ∧ u.1 9 ≤ 8) (hz10 : 0 ≤ u.1 10 ∧ u.1 10 ≤ 120) (hz11 : 0 ≤ u.1 11 ∧ u.1 11 ≤ 60) (b11_4 : (0 : Int32) ≤ x ∧ x ≤ ((u.1 10) - 1)) (b21_8 : (0 : Int32) ≤ y ∧ y ≤ (11 : Int32)) (ha_9_10_e : u.2.2.2.1 2 (x : Int32).toNatClampNeg = some a_9) (hb_16 : 0 ≤ qfd u.2.2.2.2 a_9 2 ∧ qfd u.2.2.2.2 a_9 2 < (u.1 8)) (ha_17_18_e : u.2.2.2.1 0 (qfd u.2.2.2.2 a_9 2 : Int32).toNatClampNeg = some a_17) (c54_24 : (qsd u.2.2.2.2 a_17 4 : Int32) = 0) : (((0 ≤ x ∧ x < u.1 10) ∧ (0 ≤ y ∧ y ≤ 11) ∧ ¬ csr u 4 (cvr u 2 x.toNatClampNeg).toNatClampNeg = 0 ∧ u.1 13 - cvr u 1 x.toNatClampNeg ≤ 14 ∧ u.1 11 < 60) ∧ (0 : Int32) = 1 ∧ (u.1 11 : Int32) = u.1 11 + 1) ∨ (¬ ((0 ≤ x ∧ x < u.1 10) ∧ (0 ≤ y ∧ y ≤ 11) ∧ ¬ csr u 4 (cvr u 2 x.toNatClampNeg).toNatClampNeg = 0 ∧ u.1 13 - cvr u 1 x.toNatClampNeg ≤ 14 ∧ u.1 11 < 60) ∧ (0 : Int32) = 0 ∧ (u.1 11 : Int32) = u.1 11) := by
  first
  | exact Or.inr ⟨fun q0 => (by obtain ⟨q1, q2, q3, q4, q5⟩ := q0; first | ((try simp only [g_m1, Int32.lt_iff_toInt_lt, Int32.le_iff_toInt_le, ← Int32.toInt_inj, Int32.reduceToInt] at *); omega) | ((try simp only [g_m1, Int32.lt_iff_toInt_lt, Int32.le_iff_toInt_le, ← Int32.toInt_inj, Int32.toInt_add, Int32.toInt_sub, Int32.toInt_mul, Int32.toInt_neg, Int32.reduceToInt, g_bm, g_bm'] at *); omega)), rfl, rfl⟩
  | (have h1 := (by assumption : u.2.2.2.1 2 (x : Int32).toNatClampNeg = some _)
     have z2 : cvr u 2 x.toNatClampNeg = _ := cvr_at h1
     have z1 : cvr u 1 x.toNatClampNeg = _ := cvr_at h1
     rw [z2, z1]
     have z4 := csr_at (j := 4) (by assumption : u.2.2.2.1 0 _ = some _)
     rw [z4]
     first
     | exact Or.inr ⟨fun q0 => (by obtain ⟨q1, q2, q3, q4, q5⟩ := q0; exact q3 (by assumption)), rfl, rfl⟩
     | exact Or.inr ⟨fun q0 => (by obtain ⟨q1, q2, q3, q4, q5⟩ := q0; exact absurd q4 (by assumption)), rfl, rfl⟩
     | (refine Or.inl ⟨⟨?_, ?_, ?_, ?_, ?_⟩, rfl, ?_⟩ <;> first | assumption | (first | ((try simp only [g_m1, Int32.lt_iff_toInt_lt, Int32.le_iff_toInt_le, ← Int32.toInt_inj, Int32.reduceToInt] at *); omega) | ((try simp only [g_m1, Int32.lt_iff_toInt_lt, Int32.le_iff_toInt_le, ← Int32.toInt_inj, Int32.toInt_add, Int32.toInt_sub, Int32.toInt_mul, Int32.toInt_neg, Int32.reduceToInt, g_bm, g_bm'] at *); omega))))
set_option maxRecDepth 100000 in
theorem g_X11_appeal_v5 (u : qS) (x : Int32) (y : Int32) (a_9 : Nat) (a_17 : Nat) (hz8 : 0 ≤ u.1 8 ∧ u.1 8 ≤ 20) (hz9 : 0 ≤ u.1 9 ∧ u.1 9 ≤ 8) (hz10 : 0 ≤ u.1 10 ∧ u.1 10 ≤ 120) (hz11 : 0 ≤ u.1 11 ∧ u.1 11 ≤ 60) (b11_4 : (0 : Int32) ≤ x ∧ x ≤ ((u.1 10) - 1)) (b21_8 : (0 : Int32) ≤ y ∧ y ≤ (11 : Int32)) (ha_9_10_e : u.2.2.2.1 2 (x : Int32).toNatClampNeg = some a_9) (hb_16 : 0 ≤ qfd u.2.2.2.2 a_9 2 ∧ qfd u.2.2.2.2 a_9 2 < (u.1 8)) (ha_17_18_e : u.2.2.2.1 0 (qfd u.2.2.2.2 a_9 2 : Int32).toNatClampNeg = some a_17) (c54_24 : ¬ (qsd u.2.2.2.2 a_17 4 : Int32) = 0) (c71_30 : ((u.1 13) - (qfd u.2.2.2.2 a_9 1) : Int32) ≤ 14) (c85_31 : (u.1 11 : Int32) < 60) : ((u.1 11 : Int32)).toInt < 60 := by
  first | omega | ((try simp only [g_m1, Int32.lt_iff_toInt_lt, Int32.le_iff_toInt_le, ← Int32.toInt_inj, Int32.reduceToInt] at *); omega) | ((try have ez1 : ((u.1 13) - (qfd u.2.2.2.2 a_9 1) : Int32).toInt = (u.1 13 : Int32).toInt - (qfd u.2.2.2.2 a_9 1 : Int32).toInt := g_sub (by (try simp only [g_m1, Int32.lt_iff_toInt_lt, Int32.le_iff_toInt_le, ← Int32.toInt_inj, Int32.reduceToInt] at *); omega) (by (try simp only [g_m1, Int32.lt_iff_toInt_lt, Int32.le_iff_toInt_le, ← Int32.toInt_inj, Int32.reduceToInt] at *); omega)); (try simp only [g_m1, Int32.lt_iff_toInt_lt, Int32.le_iff_toInt_le, ← Int32.toInt_inj, Int32.reduceToInt] at *); omega) | ((try simp only [g_m1, Int32.lt_iff_toInt_lt, Int32.le_iff_toInt_le, ← Int32.toInt_inj, Int32.toInt_add, Int32.toInt_sub, Int32.toInt_mul, Int32.toInt_neg, Int32.reduceToInt, g_bm, g_bm'] at *); omega) | (have qr1 := g_rng x; have qr2 := g_rng y; (try simp only [g_m1, Int32.lt_iff_toInt_lt, Int32.le_iff_toInt_le, ← Int32.toInt_inj, Int32.toInt_add, Int32.toInt_sub, Int32.toInt_mul, Int32.toInt_neg, Int32.reduceToInt, g_bm, g_bm'] at *); omega) | (simp only [g_m1, Int32.lt_iff_toInt_lt, Int32.le_iff_toInt_le, ← Int32.toInt_inj, Int32.toInt_add, Int32.toInt_sub, Int32.toInt_mul, Int32.toInt_neg, Int32.reduceToInt, g_bm, g_bm'] at *; simp at *; omega) | (simp_all; done)
set_option maxRecDepth 100000 in
theorem g_X11_appeal_v6 (u : qS) (x : Int32) (y : Int32) (a_9 : Nat) (a_17 : Nat) (u_32 : qS) (hz8 : 0 ≤ u.1 8 ∧ u.1 8 ≤ 20) (hz9 : 0 ≤ u.1 9 ∧ u.1 9 ≤ 8) (hz10 : 0 ≤ u.1 10 ∧ u.1 10 ≤ 120) (hz11 : 0 ≤ u.1 11 ∧ u.1 11 ≤ 60) (b11_4 : (0 : Int32) ≤ x ∧ x ≤ ((u.1 10) - 1)) (b21_8 : (0 : Int32) ≤ y ∧ y ≤ (11 : Int32)) (ha_9_10_e : u.2.2.2.1 2 (x : Int32).toNatClampNeg = some a_9) (hb_16 : 0 ≤ qfd u.2.2.2.2 a_9 2 ∧ qfd u.2.2.2.2 a_9 2 < (u.1 8)) (ha_17_18_e : u.2.2.2.1 0 (qfd u.2.2.2.2 a_9 2 : Int32).toNatClampNeg = some a_17) (c54_24 : ¬ (qsd u.2.2.2.2 a_17 4 : Int32) = 0) (c71_30 : ((u.1 13) - (qfd u.2.2.2.2 a_9 1) : Int32) ≤ 14) (c85_31 : (u.1 11 : Int32) < 60) (hw_33 : u_32.1 11 = u.1 11 + 1) : (((0 ≤ x ∧ x < u.1 10) ∧ (0 ≤ y ∧ y ≤ 11) ∧ ¬ csr u 4 (cvr u 2 x.toNatClampNeg).toNatClampNeg = 0 ∧ u.1 13 - cvr u 1 x.toNatClampNeg ≤ 14 ∧ u.1 11 < 60) ∧ (1 : Int32) = 1 ∧ (u_32.1 11 : Int32) = u.1 11 + 1) ∨ (¬ ((0 ≤ x ∧ x < u.1 10) ∧ (0 ≤ y ∧ y ≤ 11) ∧ ¬ csr u 4 (cvr u 2 x.toNatClampNeg).toNatClampNeg = 0 ∧ u.1 13 - cvr u 1 x.toNatClampNeg ≤ 14 ∧ u.1 11 < 60) ∧ (1 : Int32) = 0 ∧ (u_32.1 11 : Int32) = u.1 11) := by
  first
  | exact Or.inr ⟨fun q0 => (by obtain ⟨q1, q2, q3, q4, q5⟩ := q0; first | ((try simp only [g_m1, Int32.lt_iff_toInt_lt, Int32.le_iff_toInt_le, ← Int32.toInt_inj, Int32.reduceToInt] at *); omega) | ((try simp only [g_m1, Int32.lt_iff_toInt_lt, Int32.le_iff_toInt_le, ← Int32.toInt_inj, Int32.toInt_add, Int32.toInt_sub, Int32.toInt_mul, Int32.toInt_neg, Int32.reduceToInt, g_bm, g_bm'] at *); omega)), rfl, rfl⟩
  | (have h1 := (by assumption : u.2.2.2.1 2 (x : Int32).toNatClampNeg = some _)
     have z2 : cvr u 2 x.toNatClampNeg = _ := cvr_at h1
     have z1 : cvr u 1 x.toNatClampNeg = _ := cvr_at h1
     rw [z2, z1]
     have z4 := csr_at (j := 4) (by assumption : u.2.2.2.1 0 _ = some _)
     rw [z4]
     first
     | exact Or.inr ⟨fun q0 => (by obtain ⟨q1, q2, q3, q4, q5⟩ := q0; exact q3 (by assumption)), rfl, rfl⟩
     | exact Or.inr ⟨fun q0 => (by obtain ⟨q1, q2, q3, q4, q5⟩ := q0; exact absurd q4 (by assumption)), rfl, rfl⟩
     | (refine Or.inl ⟨⟨?_, ?_, ?_, ?_, ?_⟩, rfl, ?_⟩ <;> first | assumption | (first | ((try simp only [g_m1, Int32.lt_iff_toInt_lt, Int32.le_iff_toInt_le, ← Int32.toInt_inj, Int32.reduceToInt] at *); omega) | ((try simp only [g_m1, Int32.lt_iff_toInt_lt, Int32.le_iff_toInt_le, ← Int32.toInt_inj, Int32.toInt_add, Int32.toInt_sub, Int32.toInt_mul, Int32.toInt_neg, Int32.reduceToInt, g_bm, g_bm'] at *); omega))))
set_option maxRecDepth 100000 in
theorem g_X11_appeal_v7 (u : qS) (x : Int32) (y : Int32) (a_9 : Nat) (a_17 : Nat) (hz8 : 0 ≤ u.1 8 ∧ u.1 8 ≤ 20) (hz9 : 0 ≤ u.1 9 ∧ u.1 9 ≤ 8) (hz10 : 0 ≤ u.1 10 ∧ u.1 10 ≤ 120) (hz11 : 0 ≤ u.1 11 ∧ u.1 11 ≤ 60) (b11_4 : (0 : Int32) ≤ x ∧ x ≤ ((u.1 10) - 1)) (b21_8 : (0 : Int32) ≤ y ∧ y ≤ (11 : Int32)) (ha_9_10_e : u.2.2.2.1 2 (x : Int32).toNatClampNeg = some a_9) (hb_16 : 0 ≤ qfd u.2.2.2.2 a_9 2 ∧ qfd u.2.2.2.2 a_9 2 < (u.1 8)) (ha_17_18_e : u.2.2.2.1 0 (qfd u.2.2.2.2 a_9 2 : Int32).toNatClampNeg = some a_17) (c54_24 : ¬ (qsd u.2.2.2.2 a_17 4 : Int32) = 0) (c71_30 : ((u.1 13) - (qfd u.2.2.2.2 a_9 1) : Int32) ≤ 14) (c85_31 : ¬ (u.1 11 : Int32) < 60) : (((0 ≤ x ∧ x < u.1 10) ∧ (0 ≤ y ∧ y ≤ 11) ∧ ¬ csr u 4 (cvr u 2 x.toNatClampNeg).toNatClampNeg = 0 ∧ u.1 13 - cvr u 1 x.toNatClampNeg ≤ 14 ∧ u.1 11 < 60) ∧ (0 : Int32) = 1 ∧ (u.1 11 : Int32) = u.1 11 + 1) ∨ (¬ ((0 ≤ x ∧ x < u.1 10) ∧ (0 ≤ y ∧ y ≤ 11) ∧ ¬ csr u 4 (cvr u 2 x.toNatClampNeg).toNatClampNeg = 0 ∧ u.1 13 - cvr u 1 x.toNatClampNeg ≤ 14 ∧ u.1 11 < 60) ∧ (0 : Int32) = 0 ∧ (u.1 11 : Int32) = u.1 11) := by
  first
  | exact Or.inr ⟨fun q0 => (by obtain ⟨q1, q2, q3, q4, q5⟩ := q0; first | ((try simp only [g_m1, Int32.lt_iff_toInt_lt, Int32.le_iff_toInt_le, ← Int32.toInt_inj, Int32.reduceToInt] at *); omega) | ((try simp only [g_m1, Int32.lt_iff_toInt_lt, Int32.le_iff_toInt_le, ← Int32.toInt_inj, Int32.toInt_add, Int32.toInt_sub, Int32.toInt_mul, Int32.toInt_neg, Int32.reduceToInt, g_bm, g_bm'] at *); omega)), rfl, rfl⟩
  | (have h1 := (by assumption : u.2.2.2.1 2 (x : Int32).toNatClampNeg = some _)
     have z2 : cvr u 2 x.toNatClampNeg = _ := cvr_at h1
     have z1 : cvr u 1 x.toNatClampNeg = _ := cvr_at h1
     rw [z2, z1]
     have z4 := csr_at (j := 4) (by assumption : u.2.2.2.1 0 _ = some _)
     rw [z4]
     first
     | exact Or.inr ⟨fun q0 => (by obtain ⟨q1, q2, q3, q4, q5⟩ := q0; exact q3 (by assumption)), rfl, rfl⟩
     | exact Or.inr ⟨fun q0 => (by obtain ⟨q1, q2, q3, q4, q5⟩ := q0; exact absurd q4 (by assumption)), rfl, rfl⟩
     | (refine Or.inl ⟨⟨?_, ?_, ?_, ?_, ?_⟩, rfl, ?_⟩ <;> first | assumption | (first | ((try simp only [g_m1, Int32.lt_iff_toInt_lt, Int32.le_iff_toInt_le, ← Int32.toInt_inj, Int32.reduceToInt] at *); omega) | ((try simp only [g_m1, Int32.lt_iff_toInt_lt, Int32.le_iff_toInt_le, ← Int32.toInt_inj, Int32.toInt_add, Int32.toInt_sub, Int32.toInt_mul, Int32.toInt_neg, Int32.reduceToInt, g_bm, g_bm'] at *); omega))))
set_option maxRecDepth 100000 in
theorem g_X11_appeal_v8 (u : qS) (x : Int32) (y : Int32) (a_9 : Nat) (a_17 : Nat) (hz8 : 0 ≤ u.1 8 ∧ u.1 8 ≤ 20) (hz9 : 0 ≤ u.1 9 ∧ u.1 9 ≤ 8) (hz10 : 0 ≤ u.1 10 ∧ u.1 10 ≤ 120) (hz11 : 0 ≤ u.1 11 ∧ u.1 11 ≤ 60) (b11_4 : (0 : Int32) ≤ x ∧ x ≤ ((u.1 10) - 1)) (b21_8 : (0 : Int32) ≤ y ∧ y ≤ (11 : Int32)) (ha_9_10_e : u.2.2.2.1 2 (x : Int32).toNatClampNeg = some a_9) (hb_16 : 0 ≤ qfd u.2.2.2.2 a_9 2 ∧ qfd u.2.2.2.2 a_9 2 < (u.1 8)) (ha_17_18_e : u.2.2.2.1 0 (qfd u.2.2.2.2 a_9 2 : Int32).toNatClampNeg = some a_17) (c54_24 : ¬ (qsd u.2.2.2.2 a_17 4 : Int32) = 0) (c71_30 : ¬ ((u.1 13) - (qfd u.2.2.2.2 a_9 1) : Int32) ≤ 14) : (((0 ≤ x ∧ x < u.1 10) ∧ (0 ≤ y ∧ y ≤ 11) ∧ ¬ csr u 4 (cvr u 2 x.toNatClampNeg).toNatClampNeg = 0 ∧ u.1 13 - cvr u 1 x.toNatClampNeg ≤ 14 ∧ u.1 11 < 60) ∧ (0 : Int32) = 1 ∧ (u.1 11 : Int32) = u.1 11 + 1) ∨ (¬ ((0 ≤ x ∧ x < u.1 10) ∧ (0 ≤ y ∧ y ≤ 11) ∧ ¬ csr u 4 (cvr u 2 x.toNatClampNeg).toNatClampNeg = 0 ∧ u.1 13 - cvr u 1 x.toNatClampNeg ≤ 14 ∧ u.1 11 < 60) ∧ (0 : Int32) = 0 ∧ (u.1 11 : Int32) = u.1 11) := by
  first
  | exact Or.inr ⟨fun q0 => (by obtain ⟨q1, q2, q3, q4, q5⟩ := q0; first | ((try simp only [g_m1, Int32.lt_iff_toInt_lt, Int32.le_iff_toInt_le, ← Int32.toInt_inj, Int32.reduceToInt] at *); omega) | ((try simp only [g_m1, Int32.lt_iff_toInt_lt, Int32.le_iff_toInt_le, ← Int32.toInt_inj, Int32.toInt_add, Int32.toInt_sub, Int32.toInt_mul, Int32.toInt_neg, Int32.reduceToInt, g_bm, g_bm'] at *); omega)), rfl, rfl⟩
  | (have h1 := (by assumption : u.2.2.2.1 2 (x : Int32).toNatClampNeg = some _)
     have z2 : cvr u 2 x.toNatClampNeg = _ := cvr_at h1
     have z1 : cvr u 1 x.toNatClampNeg = _ := cvr_at h1
     rw [z2, z1]
     have z4 := csr_at (j := 4) (by assumption : u.2.2.2.1 0 _ = some _)
     rw [z4]
     first
     | exact Or.inr ⟨fun q0 => (by obtain ⟨q1, q2, q3, q4, q5⟩ := q0; exact q3 (by assumption)), rfl, rfl⟩
     | exact Or.inr ⟨fun q0 => (by obtain ⟨q1, q2, q3, q4, q5⟩ := q0; exact absurd q4 (by assumption)), rfl, rfl⟩
     | (refine Or.inl ⟨⟨?_, ?_, ?_, ?_, ?_⟩, rfl, ?_⟩ <;> first | assumption | (first | ((try simp only [g_m1, Int32.lt_iff_toInt_lt, Int32.le_iff_toInt_le, ← Int32.toInt_inj, Int32.reduceToInt] at *); omega) | ((try simp only [g_m1, Int32.lt_iff_toInt_lt, Int32.le_iff_toInt_le, ← Int32.toInt_inj, Int32.toInt_add, Int32.toInt_sub, Int32.toInt_mul, Int32.toInt_neg, Int32.reduceToInt, g_bm, g_bm'] at *); omega))))
set_option maxRecDepth 100000 in
theorem g_X11_appeal_v9 (u : qS) (x : Int32) (y : Int32) (hz8 : 0 ≤ u.1 8 ∧ u.1 8 ≤ 20) (hz9 : 0 ≤ u.1 9 ∧ u.1 9 ≤ 8) (hz10 : 0 ≤ u.1 10 ∧ u.1 10 ≤ 120) (hz11 : 0 ≤ u.1 11 ∧ u.1 11 ≤ 60) (b11_4 : (0 : Int32) ≤ x ∧ x ≤ ((u.1 10) - 1)) (b21_8 : ¬ ((0 : Int32) ≤ y ∧ y ≤ (11 : Int32))) : (((0 ≤ x ∧ x < u.1 10) ∧ (0 ≤ y ∧ y ≤ 11) ∧ ¬ csr u 4 (cvr u 2 x.toNatClampNeg).toNatClampNeg = 0 ∧ u.1 13 - cvr u 1 x.toNatClampNeg ≤ 14 ∧ u.1 11 < 60) ∧ (0 : Int32) = 1 ∧ (u.1 11 : Int32) = u.1 11 + 1) ∨ (¬ ((0 ≤ x ∧ x < u.1 10) ∧ (0 ≤ y ∧ y ≤ 11) ∧ ¬ csr u 4 (cvr u 2 x.toNatClampNeg).toNatClampNeg = 0 ∧ u.1 13 - cvr u 1 x.toNatClampNeg ≤ 14 ∧ u.1 11 < 60) ∧ (0 : Int32) = 0 ∧ (u.1 11 : Int32) = u.1 11) := by
  first
  | exact Or.inr ⟨fun q0 => (by obtain ⟨q1, q2, q3, q4, q5⟩ := q0; first | ((try simp only [g_m1, Int32.lt_iff_toInt_lt, Int32.le_iff_toInt_le, ← Int32.toInt_inj, Int32.reduceToInt] at *); omega) | ((try simp only [g_m1, Int32.lt_iff_toInt_lt, Int32.le_iff_toInt_le, ← Int32.toInt_inj, Int32.toInt_add, Int32.toInt_sub, Int32.toInt_mul, Int32.toInt_neg, Int32.reduceToInt, g_bm, g_bm'] at *); omega)), rfl, rfl⟩
  | (have h1 := (by assumption : u.2.2.2.1 2 (x : Int32).toNatClampNeg = some _)
     have z2 : cvr u 2 x.toNatClampNeg = _ := cvr_at h1
     have z1 : cvr u 1 x.toNatClampNeg = _ := cvr_at h1
     rw [z2, z1]
     have z4 := csr_at (j := 4) (by assumption : u.2.2.2.1 0 _ = some _)
     rw [z4]
     first
     | exact Or.inr ⟨fun q0 => (by obtain ⟨q1, q2, q3, q4, q5⟩ := q0; exact q3 (by assumption)), rfl, rfl⟩
     | exact Or.inr ⟨fun q0 => (by obtain ⟨q1, q2, q3, q4, q5⟩ := q0; exact absurd q4 (by assumption)), rfl, rfl⟩
     | (refine Or.inl ⟨⟨?_, ?_, ?_, ?_, ?_⟩, rfl, ?_⟩ <;> first | assumption | (first | ((try simp only [g_m1, Int32.lt_iff_toInt_lt, Int32.le_iff_toInt_le, ← Int32.toInt_inj, Int32.reduceToInt] at *); omega) | ((try simp only [g_m1, Int32.lt_iff_toInt_lt, Int32.le_iff_toInt_le, ← Int32.toInt_inj, Int32.toInt_add, Int32.toInt_sub, Int32.toInt_mul, Int32.toInt_neg, Int32.reduceToInt, g_bm, g_bm'] at *); omega))))
set_option maxRecDepth 100000 in
theorem g_X11_appeal_v10 (u : qS) (x : Int32) (y : Int32) (hz8 : 0 ≤ u.1 8 ∧ u.1 8 ≤ 20) (hz9 : 0 ≤ u.1 9 ∧ u.1 9 ≤ 8) (hz10 : 0 ≤ u.1 10 ∧ u.1 10 ≤ 120) (hz11 : 0 ≤ u.1 11 ∧ u.1 11 ≤ 60) (b11_4 : ¬ ((0 : Int32) ≤ x ∧ x ≤ ((u.1 10) - 1))) : (((0 ≤ x ∧ x < u.1 10) ∧ (0 ≤ y ∧ y ≤ 11) ∧ ¬ csr u 4 (cvr u 2 x.toNatClampNeg).toNatClampNeg = 0 ∧ u.1 13 - cvr u 1 x.toNatClampNeg ≤ 14 ∧ u.1 11 < 60) ∧ (0 : Int32) = 1 ∧ (u.1 11 : Int32) = u.1 11 + 1) ∨ (¬ ((0 ≤ x ∧ x < u.1 10) ∧ (0 ≤ y ∧ y ≤ 11) ∧ ¬ csr u 4 (cvr u 2 x.toNatClampNeg).toNatClampNeg = 0 ∧ u.1 13 - cvr u 1 x.toNatClampNeg ≤ 14 ∧ u.1 11 < 60) ∧ (0 : Int32) = 0 ∧ (u.1 11 : Int32) = u.1 11) := by
  first
  | exact Or.inr ⟨fun q0 => (by obtain ⟨q1, q2, q3, q4, q5⟩ := q0; first | ((try simp only [g_m1, Int32.lt_iff_toInt_lt, Int32.le_iff_toInt_le, ← Int32.toInt_inj, Int32.reduceToInt] at *); omega) | ((try simp only [g_m1, Int32.lt_iff_toInt_lt, Int32.le_iff_toInt_le, ← Int32.toInt_inj, Int32.toInt_add, Int32.toInt_sub, Int32.toInt_mul, Int32.toInt_neg, Int32.reduceToInt, g_bm, g_bm'] at *); omega)), rfl, rfl⟩
  | (have h1 := (by assumption : u.2.2.2.1 2 (x : Int32).toNatClampNeg = some _)
     have z2 : cvr u 2 x.toNatClampNeg = _ := cvr_at h1
     have z1 : cvr u 1 x.toNatClampNeg = _ := cvr_at h1
     rw [z2, z1]
     have z4 := csr_at (j := 4) (by assumption : u.2.2.2.1 0 _ = some _)
     rw [z4]
     first
     | exact Or.inr ⟨fun q0 => (by obtain ⟨q1, q2, q3, q4, q5⟩ := q0; exact q3 (by assumption)), rfl, rfl⟩
     | exact Or.inr ⟨fun q0 => (by obtain ⟨q1, q2, q3, q4, q5⟩ := q0; exact absurd q4 (by assumption)), rfl, rfl⟩
     | (refine Or.inl ⟨⟨?_, ?_, ?_, ?_, ?_⟩, rfl, ?_⟩ <;> first | assumption | (first | ((try simp only [g_m1, Int32.lt_iff_toInt_lt, Int32.le_iff_toInt_le, ← Int32.toInt_inj, Int32.reduceToInt] at *); omega) | ((try simp only [g_m1, Int32.lt_iff_toInt_lt, Int32.le_iff_toInt_le, ← Int32.toInt_inj, Int32.toInt_add, Int32.toInt_sub, Int32.toInt_mul, Int32.toInt_neg, Int32.reduceToInt, g_bm, g_bm'] at *); omega))))
set_option maxHeartbeats 1000000 in
set_option maxRecDepth 100000 in
theorem g_X11_appeal (l : Launch) (E : qE) (A : Nat → Prop) (u : qS) (x : Int32) (y : Int32) (hI : IC E u) : Met l yX11_appeal (uws yX11_appeal cX11_appeal 4 (some .boolean)) (qR 3 0 0) (qPc E A 0 u [.ref (E.2.2 1199), .int x, .int y]) (qQi E A 0 (fun r u1 => (qFc [11, 18] [5, 6, 7] [] [] u u1 ∧ IC E u1) ∧ ((((0 ≤ x ∧ x < u.1 10) ∧ (0 ≤ y ∧ y ≤ 11) ∧ ¬ csr u 4 (cvr u 2 x.toNatClampNeg).toNatClampNeg = 0 ∧ u.1 13 - cvr u 1 x.toNatClampNeg ≤ 14 ∧ u.1 11 < 60) ∧ r = 1 ∧ u1.1 11 = u.1 11 + 1) ∨ (¬ ((0 ≤ x ∧ x < u.1 10) ∧ (0 ≤ y ∧ y ≤ 11) ∧ ¬ csr u 4 (cvr u 2 x.toNatClampNeg).toNatClampNeg = 0 ∧ u.1 13 - cvr u 1 x.toNatClampNeg ≤ 14 ∧ u.1 11 < 60) ∧ r = 0 ∧ u1.1 11 = u.1 11)))) 0 0 A := by
  refine q_met (own := RX11) (f := 3) [.ref (E.2.2 1199), .int x, .int y] (by decide) (Nat.le_of_ble_eq_true rfl) rfl ?_
  intro p0 e0 s0 m0 bl0 me0 cd0 ls hF hr hlocks hU hS hA hl
  have hl : lv_has ls 4 [(0, .ref (E.2.2 1199)), (1, .int x), (2, .int y)] := hl
  have hz8 : 0 ≤ u.1 8 ∧ u.1 8 ≤ 20 := hI.1.s8
  have hz9 : 0 ≤ u.1 9 ∧ u.1 9 ≤ 8 := hI.1.s9
  have hz10 : 0 ≤ u.1 10 ∧ u.1 10 ≤ 120 := hI.1.s10
  have hz11 : 0 ≤ u.1 11 ∧ u.1 11 ≤ 60 := hI.1.s11
  have hfr : qFc [11, 18] [5, 6, 7] [] [] u u := qFc.rf
  refine lv_iload_n hF.1 hF.2.1 dX11_appeal_0 rfl (lv_at hl 1 rfl) ?_
  refine lv_iconst (v := 0) hF.1 hF.2.1 dX11_appeal_1 (by decide) ?_
  refine lv_aload_n hF.1 hF.2.1 dX11_appeal_2 rfl (lv_at hl 0 rfl) ?_
  refine q_get (v := .ref (E.2.2 99)) hF hU dX11_appeal_3 0 11 0 1100 1199 rfl rfl rfl rfl inX11 (by decide) (by decide) w_436 rfl rfl ?_
  refine q_get (v := .int (u.1 10)) hF hU dX11_appeal_6 1 0 10 10 99 rfl rfl rfl rfl inX0 (by decide) (by decide) w_172 rfl rfl ?_
  refine lv_iconst (v := 1) hF.1 hF.2.1 dX11_appeal_9 (by decide) ?_
  refine lv_isub hF.1 hF.2.1 dX11_appeal_10 ?_
  have hM9 := g_X11_isWithin l E A u x 0 ((u.1 10) - 1)
  have hR9 := q_runS (l := l) (e := e0) (below := bl0) (meth := me0) (R := qR 3 0 0) (cells := 0) (slots := 0) (st0 := [.int ((u.1 10) - 1), .int 0, .int x]) (rest := []) hF hU hS hA 3 hM9 w_468 w_469 w_99 w_470 (by decide +kernel) ⟨Nat.le_of_ble_eq_true rfl, Nat.le_of_ble_eq_true rfl⟩ dX11_appeal_11 rfl hl.1 rfl (Nat.le_of_ble_eq_true rfl) ⟨Nat.le_of_ble_eq_true rfl, Nat.le_of_ble_eq_true rfl⟩
  refine q_calli hR9 hU.2.2.2 hS (fun r_3 u_1 H locs hw_2 hU hS => ?_)
  obtain ⟨hw_2_e, hw_2⟩ := hw_2
  rw [hw_2_e] at hU
  have hw_2 : (r_3 = 1 ∧ ((0 : Int32) ≤ x ∧ x ≤ ((u.1 10) - 1))) ∨ (r_3 = 0 ∧ (¬ ((0 : Int32) ≤ x ∧ x ≤ ((u.1 10) - 1)))) := hw_2
  rcases hw_2 with ⟨rfl, b11_4⟩ | ⟨rfl, b11_4⟩
  · refine lv_if_eq (tgt := 27) hF.1 hF.2.1 dX11_appeal_14 (by decide) (fun h9 => absurd h9 (by decide)) (fun _ => ?_)
    refine lv_iload_n hF.1 hF.2.1 dX11_appeal_17 rfl (lv_at hl 2 rfl) ?_
    refine lv_iconst (v := 0) hF.1 hF.2.1 dX11_appeal_18 (by decide) ?_
    refine lv_bipush (v := 11) hF.1 hF.2.1 dX11_appeal_19 (by decide) ?_
    have hM9 := g_X11_isWithin l E A u y 0 11
    have hR9 := q_runS (l := l) (e := e0) (below := bl0) (meth := me0) (R := qR 3 0 0) (cells := 0) (slots := 0) (st0 := [.int 11, .int 0, .int y]) (rest := []) hF hU hS hA 3 hM9 w_468 w_469 w_99 w_470 (by decide +kernel) ⟨Nat.le_of_ble_eq_true rfl, Nat.le_of_ble_eq_true rfl⟩ dX11_appeal_21 rfl hl.1 rfl (Nat.le_of_ble_eq_true rfl) ⟨Nat.le_of_ble_eq_true rfl, Nat.le_of_ble_eq_true rfl⟩
    refine q_calli hR9 hU.2.2.2 hS (fun r_7 u_5 H locs hw_6 hU hS => ?_)
    obtain ⟨hw_6_e, hw_6⟩ := hw_6
    rw [hw_6_e] at hU
    have hw_6 : (r_7 = 1 ∧ ((0 : Int32) ≤ y ∧ y ≤ (11 : Int32))) ∨ (r_7 = 0 ∧ (¬ ((0 : Int32) ≤ y ∧ y ≤ (11 : Int32)))) := hw_6
    rcases hw_6 with ⟨rfl, b21_8⟩ | ⟨rfl, b21_8⟩
    · refine lv_if_ne (tgt := 29) hF.1 hF.2.1 dX11_appeal_24 (by decide) (fun _ => ?_) (fun h9 => absurd h9 (by decide))
      refine lv_aload_n hF.1 hF.2.1 dX11_appeal_29 rfl (lv_at hl 0 rfl) ?_
      refine q_get (v := .ref (E.2.2 99)) hF hU dX11_appeal_30 0 11 0 1100 1199 rfl rfl rfl rfl inX11 (by decide) (by decide) w_436 rfl rfl ?_
      refine q_get (v := .ref (E.2.2 2)) hF hU dX11_appeal_33 1 0 2 2 99 rfl rfl rfl rfl inX0 (by decide) (by decide) w_150 rfl rfl ?_
      refine lv_iload_n hF.1 hF.2.1 dX11_appeal_36 rfl (lv_at hl 1 rfl) ?_
      obtain ⟨a_9, ha_9_10_e, ha_9_10⟩ := hI.r2 x (g_X11_appeal_v0 u x y hz8 hz9 hz10 hz11 b11_4 b21_8)
      refine q_aald (v := .ref a_9) hF hU dX11_appeal_37 2 2 6 rfl rfl (by decide) rfl (g_X11_appeal_v1 u x y hz8 hz9 hz10 hz11 b11_4 b21_8) (by rw [ha_9_10_e]; rfl) ?_
      refine lv_astore_n (lv' := [(3, .ref a_9), (0, .ref (E.2.2 1199)), (1, .int x), (2, .int y)]) hF.1 hF.2.1 dX11_appeal_38 rfl hl (by decide) rfl (fun ls hl => ?_)
      refine lv_aload_n hF.1 hF.2.1 dX11_appeal_39 rfl (lv_at hl 1 rfl) ?_
      refine q_get (v := .ref (E.2.2 99)) hF hU dX11_appeal_40 0 11 0 1100 1199 rfl rfl rfl rfl inX11 (by decide) (by decide) w_436 rfl rfl ?_
      refine q_get (v := .ref (E.2.2 0)) hF hU dX11_appeal_43 1 0 0 0 99 rfl rfl rfl rfl inX0 (by decide) (by decide) w_143 rfl rfl ?_
      refine lv_aload_n hF.1 hF.2.1 dX11_appeal_46 rfl (lv_at hl 0 rfl) ?_
      obtain ⟨k_11, fs_12, hd_14, hv_15, hv_15_2, hv_15_3, -⟩ := hI.vf ((ha_9_10).rf) 2 (by decide)
      refine q_getd (v := .int (qfd u.2.2.2.2 a_9 2)) hF hU dX11_appeal_47 k_11 10 2 hd_14 rfl inX10 (by decide) w_593 rfl hv_15 ?_
      have hb_16 : 0 ≤ qfd u.2.2.2.2 a_9 2 ∧ qfd u.2.2.2.2 a_9 2 < (u.1 8) := hv_15_2 rfl
      obtain ⟨a_17, ha_17_18_e, ha_17_18⟩ := hI.r0 (qfd u.2.2.2.2 a_9 2) (g_X11_appeal_v2 u x y a_9 hz8 hz9 hz10 hz11 b11_4 b21_8 ha_9_10_e hb_16)
      refine q_aald (v := .ref a_17) hF hU dX11_appeal_50 0 0 4 rfl rfl (by decide) rfl (g_X11_appeal_v3 u x y a_9 hz8 hz9 hz10 hz11 b11_4 b21_8 ha_9_10_e hb_16) (by rw [ha_17_18_e]; rfl) ?_
      obtain ⟨k_19, fs_20, hd_22, hv_23⟩ := hI.snf ha_17_18 4 (by decide)
      refine q_getd (v := .int (qsd u.2.2.2.2 a_17 4)) hF hU dX11_appeal_51 k_19 7 4 hd_22 rfl inX7 (by decide) w_531 rfl hv_23 ?_
      refine lv_if_eq (tgt := 74) hF.1 hF.2.1 dX11_appeal_54 (by decide) (fun c54_24 => ?_) (fun c54_24 => ?_)
      · refine lv_iconst (v := 0) hF.1 hF.2.1 dX11_appeal_74 (by decide) ?_
        exact q_iret hF hr (by decide) hlocks hU hS dX11_appeal_75 ⟨⟨hfr, hI⟩, (g_X11_appeal_v4 u x y a_9 a_17 hz8 hz9 hz10 hz11 b11_4 b21_8 ha_9_10_e hb_16 ha_17_18_e c54_24)⟩
      · refine lv_aload_n hF.1 hF.2.1 dX11_appeal_57 rfl (lv_at hl 1 rfl) ?_
        refine q_get (v := .ref (E.2.2 99)) hF hU dX11_appeal_58 0 11 0 1100 1199 rfl rfl rfl rfl inX11 (by decide) (by decide) w_436 rfl rfl ?_
        refine q_get (v := .int (u.1 13)) hF hU dX11_appeal_61 1 0 13 13 99 rfl rfl rfl rfl inX0 (by decide) (by decide) w_178 rfl rfl ?_
        refine lv_aload_n hF.1 hF.2.1 dX11_appeal_64 rfl (lv_at hl 0 rfl) ?_
        obtain ⟨k_25, fs_26, hd_28, hv_29, hv_29_2, hv_29_3, -⟩ := hI.vf ((ha_9_10).rf) 1 (by decide)
        refine q_getd (v := .int (qfd u.2.2.2.2 a_9 1)) hF hU dX11_appeal_65 k_25 10 1 hd_28 rfl inX10 (by decide) w_588 rfl hv_29 ?_
        refine lv_isub hF.1 hF.2.1 dX11_appeal_68 ?_
        refine lv_bipush (v := 14) hF.1 hF.2.1 dX11_appeal_69 (by decide) ?_
        refine lv_icmp_le (tgt := 76) hF.1 hF.2.1 dX11_appeal_71 (by decide) (fun c71_30 => ?_) (fun c71_30 => ?_)
        · refine lv_aload_n hF.1 hF.2.1 dX11_appeal_76 rfl (lv_at hl 1 rfl) ?_
          refine q_get (v := .ref (E.2.2 99)) hF hU dX11_appeal_77 0 11 0 1100 1199 rfl rfl rfl rfl inX11 (by decide) (by decide) w_436 rfl rfl ?_
          refine q_get (v := .int (u.1 11)) hF hU dX11_appeal_80 1 0 11 11 99 rfl rfl rfl rfl inX0 (by decide) (by decide) w_174 rfl rfl ?_
          refine lv_bipush (v := 60) hF.1 hF.2.1 dX11_appeal_83 (by decide) ?_
          refine lv_icmp_lt (tgt := 90) hF.1 hF.2.1 dX11_appeal_85 (by decide) (fun c85_31 => ?_) (fun c85_31 => ?_)
          · refine lv_aload_n hF.1 hF.2.1 dX11_appeal_90 rfl (lv_at hl 1 rfl) ?_
            refine q_get (v := .ref (E.2.2 99)) hF hU dX11_appeal_91 0 11 0 1100 1199 rfl rfl rfl rfl inX11 (by decide) (by decide) w_436 rfl rfl ?_
            refine lv_aload_n hF.1 hF.2.1 dX11_appeal_94 rfl (lv_at hl 0 rfl) ?_
            refine lv_iload_n hF.1 hF.2.1 dX11_appeal_95 rfl (lv_at hl 3 rfl) ?_
            have hM9 := g_X0_keepAppeal l E A u a_9 y hI ha_9_10 (g_X11_appeal_v5 u x y a_9 a_17 hz8 hz9 hz10 hz11 b11_4 b21_8 ha_9_10_e hb_16 ha_17_18_e c54_24 c71_30 c85_31)
            have hR9 := q_runV (l := l) (e := e0) (below := bl0) (meth := me0) (R := qR 3 0 0) (cells := 0) (slots := 0) (st0 := [.int y, .ref a_9, .ref (E.2.2 99)]) (rest := []) hF hU hS hA 2 1 0 99 rfl rfl rfl hM9 w_682 w_683 w_684 w_100 w_685 (by decide +kernel) ⟨Nat.le_of_ble_eq_true rfl, Nat.le_of_ble_eq_true rfl⟩ dX11_appeal_96 rfl hl.1 rfl (Nat.le_of_ble_eq_true rfl) ⟨Nat.le_of_ble_eq_true rfl, Nat.le_of_ble_eq_true rfl⟩
            refine q_callv hR9 hU.2.2.2 hS (fun u_32 H locs hw_33 hU hS => ?_)
            obtain ⟨⟨hw_33_f, hI⟩, hw_33⟩ := hw_33
            have hfo := hfr
            have hfr : qFc [11, 18] [5, 6, 7] [] [] u u_32 := hfr.trans (hw_33_f.mono (by decide) (by decide) (by decide) (by decide))
            have hr_35 : qRv u_32 a_9 := hw_33_f.v _ ha_9_10
            have hw_33 : u_32.1 11 = u.1 11 + 1 := hw_33
            refine lv_iconst (v := 1) hF.1 hF.2.1 dX11_appeal_99 (by decide) ?_
            exact q_iret hF hr (by decide) hlocks hU hS dX11_appeal_100 ⟨⟨hfr, hI⟩, (g_X11_appeal_v6 u x y a_9 a_17 u_32 hz8 hz9 hz10 hz11 b11_4 b21_8 ha_9_10_e hb_16 ha_17_18_e c54_24 c71_30 c85_31 hw_33)⟩
          · refine lv_iconst (v := 0) hF.1 hF.2.1 dX11_appeal_88 (by decide) ?_
            exact q_iret hF hr (by decide) hlocks hU hS dX11_appeal_89 ⟨⟨hfr, hI⟩, (g_X11_appeal_v7 u x y a_9 a_17 hz8 hz9 hz10 hz11 b11_4 b21_8 ha_9_10_e hb_16 ha_17_18_e c54_24 c71_30 c85_31)⟩
        · refine lv_iconst (v := 0) hF.1 hF.2.1 dX11_appeal_74 (by decide) ?_
          exact q_iret hF hr (by decide) hlocks hU hS dX11_appeal_75 ⟨⟨hfr, hI⟩, (g_X11_appeal_v8 u x y a_9 a_17 hz8 hz9 hz10 hz11 b11_4 b21_8 ha_9_10_e hb_16 ha_17_18_e c54_24 c71_30)⟩
    · refine lv_if_ne (tgt := 29) hF.1 hF.2.1 dX11_appeal_24 (by decide) (fun h9 => absurd (by decide) h9) (fun _ => ?_)
      refine lv_iconst (v := 0) hF.1 hF.2.1 dX11_appeal_27 (by decide) ?_
      exact q_iret hF hr (by decide) hlocks hU hS dX11_appeal_28 ⟨⟨hfr, hI⟩, (g_X11_appeal_v9 u x y hz8 hz9 hz10 hz11 b11_4 b21_8)⟩
  · refine lv_if_eq (tgt := 27) hF.1 hF.2.1 dX11_appeal_14 (by decide) (fun _ => ?_) (fun h9 => absurd (by decide) h9)
    refine lv_iconst (v := 0) hF.1 hF.2.1 dX11_appeal_27 (by decide) ?_
    exact q_iret hF hr (by decide) hlocks hU hS dX11_appeal_28 ⟨⟨hfr, hI⟩, (g_X11_appeal_v10 u x y hz8 hz9 hz10 hz11 b11_4)⟩
set_option maxRecDepth 100000 in
theorem g_X11_hasMean_v0 (u : qS) (x : Int32) (y : Int32) (z : Int32) (hz8 : 0 ≤ u.1 8 ∧ u.1 8 ≤ 20) (hz9 : 0 ≤ u.1 9 ∧ u.1 9 ≤ 8) (hz10 : 0 ≤ u.1 10 ∧ u.1 10 ≤ 120) (hz12 : 0 ≤ u.1 12 ∧ u.1 12 ≤ 16) (b5_4 : 0 ≤ x ∧ x < u.1 8) (b13_8 : (0 ≤ y ∧ y ≤ 9999) ∧ (0 ≤ z ∧ z ≤ 9999) ∧ y ≤ z) : 0 ≤ x ∧ x < (u.1 8 : Int32) := by
  first | omega | ((try simp only [g_m1, Int32.lt_iff_toInt_lt, Int32.le_iff_toInt_le, ← Int32.toInt_inj, Int32.reduceToInt] at *); omega) | ((try simp only [g_m1, Int32.lt_iff_toInt_lt, Int32.le_iff_toInt_le, ← Int32.toInt_inj, Int32.reduceToInt] at *); omega) | ((try simp only [g_m1, Int32.lt_iff_toInt_lt, Int32.le_iff_toInt_le, ← Int32.toInt_inj, Int32.toInt_add, Int32.toInt_sub, Int32.toInt_mul, Int32.toInt_neg, Int32.reduceToInt, g_bm, g_bm'] at *); omega) | (have qr1 := g_rng x; have qr2 := g_rng y; have qr3 := g_rng z; (try simp only [g_m1, Int32.lt_iff_toInt_lt, Int32.le_iff_toInt_le, ← Int32.toInt_inj, Int32.toInt_add, Int32.toInt_sub, Int32.toInt_mul, Int32.toInt_neg, Int32.reduceToInt, g_bm, g_bm'] at *); omega) | (simp only [g_m1, Int32.lt_iff_toInt_lt, Int32.le_iff_toInt_le, ← Int32.toInt_inj, Int32.toInt_add, Int32.toInt_sub, Int32.toInt_mul, Int32.toInt_neg, Int32.reduceToInt, g_bm, g_bm'] at *; simp at *; omega) | (simp_all; done)
set_option maxRecDepth 100000 in
theorem g_X11_hasMean_v1 (u : qS) (x : Int32) (y : Int32) (z : Int32) (hz8 : 0 ≤ u.1 8 ∧ u.1 8 ≤ 20) (hz9 : 0 ≤ u.1 9 ∧ u.1 9 ≤ 8) (hz10 : 0 ≤ u.1 10 ∧ u.1 10 ≤ 120) (hz12 : 0 ≤ u.1 12 ∧ u.1 12 ≤ 16) (b5_4 : 0 ≤ x ∧ x < u.1 8) (b13_8 : (0 ≤ y ∧ y ≤ 9999) ∧ (0 ≤ z ∧ z ≤ 9999) ∧ y ≤ z) : (1 = (1 : Int32) ∧ (0 ≤ x ∧ x < u.1 8)) ∨ (1 = (0 : Int32) ∧ (True)) := by
  first | omega | ((try simp only [g_m1, Int32.lt_iff_toInt_lt, Int32.le_iff_toInt_le, ← Int32.toInt_inj, Int32.reduceToInt] at *); omega) | ((try simp only [g_m1, Int32.lt_iff_toInt_lt, Int32.le_iff_toInt_le, ← Int32.toInt_inj, Int32.reduceToInt] at *); omega) | ((try simp only [g_m1, Int32.lt_iff_toInt_lt, Int32.le_iff_toInt_le, ← Int32.toInt_inj, Int32.toInt_add, Int32.toInt_sub, Int32.toInt_mul, Int32.toInt_neg, Int32.reduceToInt, g_bm, g_bm'] at *); omega) | (have qr1 := g_rng x; have qr2 := g_rng y; have qr3 := g_rng z; (try simp only [g_m1, Int32.lt_iff_toInt_lt, Int32.le_iff_toInt_le, ← Int32.toInt_inj, Int32.toInt_add, Int32.toInt_sub, Int32.toInt_mul, Int32.toInt_neg, Int32.reduceToInt, g_bm, g_bm'] at *); omega) | (simp only [g_m1, Int32.lt_iff_toInt_lt, Int32.le_iff_toInt_le, ← Int32.toInt_inj, Int32.toInt_add, Int32.toInt_sub, Int32.toInt_mul, Int32.toInt_neg, Int32.reduceToInt, g_bm, g_bm'] at *; simp at *; omega) | (simp_all; done)
set_option maxRecDepth 100000 in
theorem g_X11_hasMean_v2 (u : qS) (x : Int32) (y : Int32) (z : Int32) (hz8 : 0 ≤ u.1 8 ∧ u.1 8 ≤ 20) (hz9 : 0 ≤ u.1 9 ∧ u.1 9 ≤ 8) (hz10 : 0 ≤ u.1 10 ∧ u.1 10 ≤ 120) (hz12 : 0 ≤ u.1 12 ∧ u.1 12 ≤ 16) (b5_4 : 0 ≤ x ∧ x < u.1 8) (b13_8 : (0 ≤ y ∧ y ≤ 9999) ∧ (0 ≤ z ∧ z ≤ 9999) ∧ y ≤ z) : (0 = (1 : Int32) ∧ (0 ≤ x ∧ x < u.1 8)) ∨ (0 = (0 : Int32) ∧ (True)) := by
  first | omega | ((try simp only [g_m1, Int32.lt_iff_toInt_lt, Int32.le_iff_toInt_le, ← Int32.toInt_inj, Int32.reduceToInt] at *); omega) | ((try simp only [g_m1, Int32.lt_iff_toInt_lt, Int32.le_iff_toInt_le, ← Int32.toInt_inj, Int32.reduceToInt] at *); omega) | ((try simp only [g_m1, Int32.lt_iff_toInt_lt, Int32.le_iff_toInt_le, ← Int32.toInt_inj, Int32.toInt_add, Int32.toInt_sub, Int32.toInt_mul, Int32.toInt_neg, Int32.reduceToInt, g_bm, g_bm'] at *); omega) | (have qr1 := g_rng x; have qr2 := g_rng y; have qr3 := g_rng z; (try simp only [g_m1, Int32.lt_iff_toInt_lt, Int32.le_iff_toInt_le, ← Int32.toInt_inj, Int32.toInt_add, Int32.toInt_sub, Int32.toInt_mul, Int32.toInt_neg, Int32.reduceToInt, g_bm, g_bm'] at *); omega) | (simp only [g_m1, Int32.lt_iff_toInt_lt, Int32.le_iff_toInt_le, ← Int32.toInt_inj, Int32.toInt_add, Int32.toInt_sub, Int32.toInt_mul, Int32.toInt_neg, Int32.reduceToInt, g_bm, g_bm'] at *; simp at *; omega) | (simp_all; done)
set_option maxRecDepth 100000 in
theorem g_X11_hasMean_v3 (u : qS) (x : Int32) (y : Int32) (z : Int32) (hz8 : 0 ≤ u.1 8 ∧ u.1 8 ≤ 20) (hz9 : 0 ≤ u.1 9 ∧ u.1 9 ≤ 8) (hz10 : 0 ≤ u.1 10 ∧ u.1 10 ≤ 120) (hz12 : 0 ≤ u.1 12 ∧ u.1 12 ≤ 16) (b5_4 : 0 ≤ x ∧ x < u.1 8) (b13_8 : ¬ ((0 ≤ y ∧ y ≤ 9999) ∧ (0 ≤ z ∧ z ≤ 9999) ∧ y ≤ z)) : (0 = (1 : Int32) ∧ (0 ≤ x ∧ x < u.1 8)) ∨ (0 = (0 : Int32) ∧ (True)) := by
  first | omega | ((try simp only [g_m1, Int32.lt_iff_toInt_lt, Int32.le_iff_toInt_le, ← Int32.toInt_inj, Int32.reduceToInt] at *); omega) | ((try simp only [g_m1, Int32.lt_iff_toInt_lt, Int32.le_iff_toInt_le, ← Int32.toInt_inj, Int32.reduceToInt] at *); omega) | ((try simp only [g_m1, Int32.lt_iff_toInt_lt, Int32.le_iff_toInt_le, ← Int32.toInt_inj, Int32.toInt_add, Int32.toInt_sub, Int32.toInt_mul, Int32.toInt_neg, Int32.reduceToInt, g_bm, g_bm'] at *); omega) | (have qr1 := g_rng x; have qr2 := g_rng y; have qr3 := g_rng z; (try simp only [g_m1, Int32.lt_iff_toInt_lt, Int32.le_iff_toInt_le, ← Int32.toInt_inj, Int32.toInt_add, Int32.toInt_sub, Int32.toInt_mul, Int32.toInt_neg, Int32.reduceToInt, g_bm, g_bm'] at *); omega) | (simp only [g_m1, Int32.lt_iff_toInt_lt, Int32.le_iff_toInt_le, ← Int32.toInt_inj, Int32.toInt_add, Int32.toInt_sub, Int32.toInt_mul, Int32.toInt_neg, Int32.reduceToInt, g_bm, g_bm'] at *; simp at *; omega) | (simp_all; done)
set_option maxRecDepth 100000 in
theorem g_X11_hasMean_v4 (u : qS) (x : Int32) (y : Int32) (z : Int32) (hz8 : 0 ≤ u.1 8 ∧ u.1 8 ≤ 20) (hz9 : 0 ≤ u.1 9 ∧ u.1 9 ≤ 8) (hz10 : 0 ≤ u.1 10 ∧ u.1 10 ≤ 120) (hz12 : 0 ≤ u.1 12 ∧ u.1 12 ≤ 16) (b5_4 : ¬ (0 ≤ x ∧ x < u.1 8)) : (0 = (1 : Int32) ∧ (0 ≤ x ∧ x < u.1 8)) ∨ (0 = (0 : Int32) ∧ (True)) := by
  first | omega | ((try simp only [g_m1, Int32.lt_iff_toInt_lt, Int32.le_iff_toInt_le, ← Int32.toInt_inj, Int32.reduceToInt] at *); omega) | ((try simp only [g_m1, Int32.lt_iff_toInt_lt, Int32.le_iff_toInt_le, ← Int32.toInt_inj, Int32.reduceToInt] at *); omega) | ((try simp only [g_m1, Int32.lt_iff_toInt_lt, Int32.le_iff_toInt_le, ← Int32.toInt_inj, Int32.toInt_add, Int32.toInt_sub, Int32.toInt_mul, Int32.toInt_neg, Int32.reduceToInt, g_bm, g_bm'] at *); omega) | (have qr1 := g_rng x; have qr2 := g_rng y; have qr3 := g_rng z; (try simp only [g_m1, Int32.lt_iff_toInt_lt, Int32.le_iff_toInt_le, ← Int32.toInt_inj, Int32.toInt_add, Int32.toInt_sub, Int32.toInt_mul, Int32.toInt_neg, Int32.reduceToInt, g_bm, g_bm'] at *); omega) | (simp only [g_m1, Int32.lt_iff_toInt_lt, Int32.le_iff_toInt_le, ← Int32.toInt_inj, Int32.toInt_add, Int32.toInt_sub, Int32.toInt_mul, Int32.toInt_neg, Int32.reduceToInt, g_bm, g_bm'] at *; simp at *; omega) | (simp_all; done)
set_option maxHeartbeats 1000000 in
set_option maxRecDepth 100000 in
theorem g_X11_hasMean (l : Launch) (E : qE) (A : Nat → Prop) (u : qS) (x : Int32) (y : Int32) (z : Int32) (hI : IC E u) : Met l yX11_hasMean (uws yX11_hasMean cX11_hasMean 4 (some .boolean)) (qR 4 0 0) (qPc E A 0 u [.ref (E.2.2 1199), .int x, .int y, .int z]) (qQi E A 0 (fun r u1 => (qFc [] [306, 307] [] [] u u1 ∧ IC E u1) ∧ ((r = 1 ∧ (0 ≤ x ∧ x < u.1 8)) ∨ (r = 0 ∧ (True))))) 0 0 A := by
  refine q_met (own := RX11) (f := 4) [.ref (E.2.2 1199), .int x, .int y, .int z] (by decide) (Nat.le_of_ble_eq_true rfl) rfl ?_
  intro p0 e0 s0 m0 bl0 me0 cd0 ls hF hr hlocks hU hS hA hl
  have hl : lv_has ls 4 [(0, .ref (E.2.2 1199)), (1, .int x), (2, .int y), (3, .int z)] := hl
  have hz8 : 0 ≤ u.1 8 ∧ u.1 8 ≤ 20 := hI.1.s8
  have hz9 : 0 ≤ u.1 9 ∧ u.1 9 ≤ 8 := hI.1.s9
  have hz10 : 0 ≤ u.1 10 ∧ u.1 10 ≤ 120 := hI.1.s10
  have hz12 : 0 ≤ u.1 12 ∧ u.1 12 ≤ 16 := hI.1.s12
  have hfr : qFc [] [306, 307] [] [] u u := qFc.rf
  refine lv_aload_n hF.1 hF.2.1 dX11_hasMean_0 rfl (lv_at hl 0 rfl) ?_
  refine q_get (v := .ref (E.2.2 99)) hF hU dX11_hasMean_1 0 11 0 1100 1199 rfl rfl rfl rfl inX11 (by decide) (by decide) w_436 rfl rfl ?_
  refine lv_iload_n hF.1 hF.2.1 dX11_hasMean_4 rfl (lv_at hl 1 rfl) ?_
  have hM9 := g_X0_hasShop l E A u x hI
  have hR9 := q_runV (l := l) (e := e0) (below := bl0) (meth := me0) (R := qR 4 0 0) (cells := 0) (slots := 0) (st0 := [.int x, .ref (E.2.2 99)]) (rest := []) hF hU hS hA 1 1 0 99 rfl rfl rfl hM9 w_563 w_564 w_565 w_100 w_566 (by decide +kernel) ⟨Nat.le_of_ble_eq_true rfl, Nat.le_of_ble_eq_true rfl⟩ dX11_hasMean_5 rfl hl.1 rfl (Nat.le_of_ble_eq_true rfl) ⟨Nat.le_of_ble_eq_true rfl, Nat.le_of_ble_eq_true rfl⟩
  refine q_calli hR9 hU.2.2.2 hS (fun r_3 u_1 H locs hw_2 hU hS => ?_)
  obtain ⟨hw_2_e, hw_2⟩ := hw_2
  rw [hw_2_e] at hU
  have hw_2 : (r_3 = 1 ∧ (0 ≤ x ∧ x < u.1 8)) ∨ (r_3 = 0 ∧ (¬ (0 ≤ x ∧ x < u.1 8))) := hw_2
  rcases hw_2 with ⟨rfl, b5_4⟩ | ⟨rfl, b5_4⟩
  · refine lv_if_eq (tgt := 19) hF.1 hF.2.1 dX11_hasMean_8 (by decide) (fun h9 => absurd h9 (by decide)) (fun _ => ?_)
    refine lv_iload_n hF.1 hF.2.1 dX11_hasMean_11 rfl (lv_at hl 2 rfl) ?_
    refine lv_iload_n hF.1 hF.2.1 dX11_hasMean_12 rfl (lv_at hl 3 rfl) ?_
    have hM9 := g_X11_isSpan l E A u y z
    have hR9 := q_runS (l := l) (e := e0) (below := bl0) (meth := me0) (R := qR 4 0 0) (cells := 0) (slots := 0) (st0 := [.int z, .int y]) (rest := []) hF hU hS hA 2 hM9 w_1017 w_1018 w_99 w_1019 (by decide +kernel) ⟨Nat.le_of_ble_eq_true rfl, Nat.le_of_ble_eq_true rfl⟩ dX11_hasMean_13 rfl hl.1 rfl (Nat.le_of_ble_eq_true rfl) ⟨Nat.le_of_ble_eq_true rfl, Nat.le_of_ble_eq_true rfl⟩
    refine q_calli hR9 hU.2.2.2 hS (fun r_7 u_5 H locs hw_6 hU hS => ?_)
    obtain ⟨hw_6_e, hw_6⟩ := hw_6
    rw [hw_6_e] at hU
    have hw_6 : (r_7 = 1 ∧ ((0 ≤ y ∧ y ≤ 9999) ∧ (0 ≤ z ∧ z ≤ 9999) ∧ y ≤ z)) ∨ (r_7 = 0 ∧ (¬ ((0 ≤ y ∧ y ≤ 9999) ∧ (0 ≤ z ∧ z ≤ 9999) ∧ y ≤ z))) := hw_6
    rcases hw_6 with ⟨rfl, b13_8⟩ | ⟨rfl, b13_8⟩
    · refine lv_if_ne (tgt := 21) hF.1 hF.2.1 dX11_hasMean_16 (by decide) (fun _ => ?_) (fun h9 => absurd h9 (by decide))
      refine lv_aload_n hF.1 hF.2.1 dX11_hasMean_21 rfl (lv_at hl 0 rfl) ?_
      refine q_get (v := .ref (E.2.2 399)) hF hU dX11_hasMean_22 0 11 5 1105 1199 rfl rfl rfl rfl inX11 (by decide) (by decide) w_441 rfl rfl ?_
      refine lv_iload_n hF.1 hF.2.1 dX11_hasMean_25 rfl (lv_at hl 2 rfl) ?_
      refine lv_iload_n hF.1 hF.2.1 dX11_hasMean_26 rfl (lv_at hl 3 rfl) ?_
      have hM9 := g_X3_addDays l E A u y z hI
      have hR9 := q_runV (l := l) (e := e0) (below := bl0) (meth := me0) (R := qR 4 0 0) (cells := 0) (slots := 0) (st0 := [.int z, .int y, .ref (E.2.2 399)]) (rest := []) hF hU hS hA 2 6 3 399 rfl rfl rfl hM9 w_1020 w_1021 w_1022 w_105 w_1023 (by decide +kernel) ⟨Nat.le_of_ble_eq_true rfl, Nat.le_of_ble_eq_true rfl⟩ dX11_hasMean_27 rfl hl.1 rfl (Nat.le_of_ble_eq_true rfl) ⟨Nat.le_of_ble_eq_true rfl, Nat.le_of_ble_eq_true rfl⟩
      refine q_callv hR9 hU.2.2.2 hS (fun u_9 H locs hw_10 hU hS => ?_)
      obtain ⟨⟨hw_10_f, hI, hw_10_d⟩, hw_10⟩ := hw_10
      have hfo := hfr
      have hfr : qFc [] [306, 307] [] [] u u_9 := hfr.trans (hw_10_f.mono (by decide) (by decide) (by decide) (by decide))
      refine lv_aload_n hF.1 hF.2.1 dX11_hasMean_30 rfl (lv_at hl 0 rfl) ?_
      refine q_get (v := .ref (E.2.2 399)) hF hU dX11_hasMean_31 0 11 5 1105 1199 rfl rfl rfl rfl inX11 (by decide) (by decide) w_441 rfl rfl ?_
      refine lv_iload_n hF.1 hF.2.1 dX11_hasMean_34 rfl (lv_at hl 1 rfl) ?_
      have hM9 := g_X3_isMet l E A u_9 x hI (by rw [(hfr.1 8 (by decide))]; exact (g_X11_hasMean_v0 u x y z hz8 hz9 hz10 hz12 b5_4 b13_8))
      have hR9 := q_runV (l := l) (e := e0) (below := bl0) (meth := me0) (R := qR 4 0 0) (cells := 0) (slots := 0) (st0 := [.int x, .ref (E.2.2 399)]) (rest := []) hF hU hS hA 1 6 3 399 rfl rfl rfl hM9 w_1033 w_1034 w_1035 w_105 w_1036 (by decide +kernel) ⟨Nat.le_of_ble_eq_true rfl, Nat.le_of_ble_eq_true rfl⟩ dX11_hasMean_35 rfl hl.1 rfl (Nat.le_of_ble_eq_true rfl) ⟨Nat.le_of_ble_eq_true rfl, Nat.le_of_ble_eq_true rfl⟩
      refine q_calli hR9 hU.2.2.2 hS (fun r_14 u_12 H locs hw_13 hU hS => ?_)
      obtain ⟨hw_13_e, hw_13⟩ := hw_13
      rw [hw_13_e] at hU
      rcases hw_13 with rfl | rfl
      · exact q_iret hF hr (by decide) hlocks hU hS dX11_hasMean_38 ⟨⟨hfr, hI⟩, (g_X11_hasMean_v1 u x y z hz8 hz9 hz10 hz12 b5_4 b13_8)⟩
      · exact q_iret hF hr (by decide) hlocks hU hS dX11_hasMean_38 ⟨⟨hfr, hI⟩, (g_X11_hasMean_v2 u x y z hz8 hz9 hz10 hz12 b5_4 b13_8)⟩
    · refine lv_if_ne (tgt := 21) hF.1 hF.2.1 dX11_hasMean_16 (by decide) (fun h9 => absurd (by decide) h9) (fun _ => ?_)
      refine lv_iconst (v := 0) hF.1 hF.2.1 dX11_hasMean_19 (by decide) ?_
      exact q_iret hF hr (by decide) hlocks hU hS dX11_hasMean_20 ⟨⟨hfr, hI⟩, (g_X11_hasMean_v3 u x y z hz8 hz9 hz10 hz12 b5_4 b13_8)⟩
  · refine lv_if_eq (tgt := 19) hF.1 hF.2.1 dX11_hasMean_8 (by decide) (fun _ => ?_) (fun h9 => absurd (by decide) h9)
    refine lv_iconst (v := 0) hF.1 hF.2.1 dX11_hasMean_19 (by decide) ?_
    exact q_iret hF hr (by decide) hlocks hU hS dX11_hasMean_20 ⟨⟨hfr, hI⟩, (g_X11_hasMean_v4 u x y z hz8 hz9 hz10 hz12 b5_4)⟩
set_option maxHeartbeats 1000000 in
set_option maxRecDepth 100000 in
theorem g_X11_countTruth (l : Launch) (E : qE) (A : Nat → Prop) (u : qS) (x : Int32) (hI : IC E u) : Met l yX11_countTruth (uws yX11_countTruth cX11_countTruth 2 (some .int)) (qR 7 0 0) (qPc E A 0 u [.ref (E.2.2 1199), .int x]) (qQi E A 0 (fun r u1 => (qFc [900, 901, 902, 908, 909] [905, 906, 907] [] [904] u u1 ∧ IC E u1) ∧ (True))) 0 0 A := by
  refine q_met (own := RX11) (f := 7) [.ref (E.2.2 1199), .int x] (by decide) (Nat.le_of_ble_eq_true rfl) rfl ?_
  intro p0 e0 s0 m0 bl0 me0 cd0 ls hF hr hlocks hU hS hA hl
  have hl : lv_has ls 2 [(0, .ref (E.2.2 1199)), (1, .int x)] := hl
  have hz8 : 0 ≤ u.1 8 ∧ u.1 8 ≤ 20 := hI.1.s8
  have hz9 : 0 ≤ u.1 9 ∧ u.1 9 ≤ 8 := hI.1.s9
  have hz10 : 0 ≤ u.1 10 ∧ u.1 10 ≤ 120 := hI.1.s10
  have hz12 : 0 ≤ u.1 12 ∧ u.1 12 ≤ 16 := hI.1.s12
  have hfr : qFc [900, 901, 902, 908, 909] [905, 906, 907] [] [904] u u := qFc.rf
  refine lv_aload_n hF.1 hF.2.1 dX11_countTruth_0 rfl (lv_at hl 0 rfl) ?_
  refine q_get (v := .ref (E.2.2 999)) hF hU dX11_countTruth_1 0 11 3 1103 1199 rfl rfl rfl rfl inX11 (by decide) (by decide) w_439 rfl rfl ?_
  have hM9 := g_X9_refresh l E A u  hI
  have hR9 := q_runV (l := l) (e := e0) (below := bl0) (meth := me0) (R := qR 7 0 0) (cells := 0) (slots := 0) (st0 := [.ref (E.2.2 999)]) (rest := []) hF hU hS hA 0 4 9 999 rfl rfl rfl hM9 w_843 w_844 w_845 w_103 w_846 (by decide +kernel) ⟨Nat.le_of_ble_eq_true rfl, Nat.le_of_ble_eq_true rfl⟩ dX11_countTruth_4 rfl hl.1 rfl (Nat.le_of_ble_eq_true rfl) ⟨Nat.le_of_ble_eq_true rfl, Nat.le_of_ble_eq_true rfl⟩
  refine q_callv hR9 hU.2.2.2 hS (fun u_1 H locs hw_2 hU hS => ?_)
  obtain ⟨⟨hw_2_f, hI⟩, hw_2⟩ := hw_2
  have hfo := hfr
  have hfr : qFc [900, 901, 902, 908, 909] [905, 906, 907] [] [904] u u_1 := hfr.trans (hw_2_f.mono (by decide) (by decide) (by decide) (by decide))
  refine lv_iload_n hF.1 hF.2.1 dX11_countTruth_7 rfl (lv_at hl 1 rfl) ?_
  refine lv_bipush (v := 6) hF.1 hF.2.1 dX11_countTruth_8 (by decide) ?_
  refine lv_icmp_ne (tgt := 23) hF.1 hF.2.1 dX11_countTruth_10 (by decide) (fun c10_4 => ?_) (fun c10_4 => ?_)
  · refine lv_iload_n hF.1 hF.2.1 dX11_countTruth_23 rfl (lv_at hl 1 rfl) ?_
    refine lv_bipush (v := 10) hF.1 hF.2.1 dX11_countTruth_24 (by decide) ?_
    refine lv_icmp_ne (tgt := 39) hF.1 hF.2.1 dX11_countTruth_26 (by decide) (fun c26_5 => ?_) (fun c26_5 => ?_)
    · refine lv_aload_n hF.1 hF.2.1 dX11_countTruth_39 rfl (lv_at hl 0 rfl) ?_
      refine q_get (v := .ref (E.2.2 999)) hF hU dX11_countTruth_40 0 11 3 1103 1199 rfl rfl rfl rfl inX11 (by decide) (by decide) w_439 rfl rfl ?_
      refine q_get (v := .int (u_1.1 902)) hF hU dX11_countTruth_43 4 9 2 902 999 rfl rfl rfl rfl inX9 (by decide) (by decide) w_304 rfl rfl ?_
      exact q_iret hF hr rfl hlocks hU hS dX11_countTruth_46 ⟨⟨hfr, hI⟩, trivial⟩
    · refine lv_aload_n hF.1 hF.2.1 dX11_countTruth_29 rfl (lv_at hl 0 rfl) ?_
      refine q_get (v := .ref (E.2.2 999)) hF hU dX11_countTruth_30 0 11 3 1103 1199 rfl rfl rfl rfl inX11 (by decide) (by decide) w_439 rfl rfl ?_
      refine q_get (v := .int (u_1.1 901)) hF hU dX11_countTruth_33 4 9 1 901 999 rfl rfl rfl rfl inX9 (by decide) (by decide) w_302 rfl rfl ?_
      refine lv_goto (tgt := 46) hF.1 hF.2.1 dX11_countTruth_36 (by decide) ?_
      exact q_iret hF hr rfl hlocks hU hS dX11_countTruth_46 ⟨⟨hfr, hI⟩, trivial⟩
  · refine lv_aload_n hF.1 hF.2.1 dX11_countTruth_13 rfl (lv_at hl 0 rfl) ?_
    refine q_get (v := .ref (E.2.2 999)) hF hU dX11_countTruth_14 0 11 3 1103 1199 rfl rfl rfl rfl inX11 (by decide) (by decide) w_439 rfl rfl ?_
    refine q_get (v := .int (u_1.1 900)) hF hU dX11_countTruth_17 4 9 0 900 999 rfl rfl rfl rfl inX9 (by decide) (by decide) w_300 rfl rfl ?_
    refine lv_goto (tgt := 46) hF.1 hF.2.1 dX11_countTruth_20 (by decide) ?_
    exact q_iret hF hr rfl hlocks hU hS dX11_countTruth_46 ⟨⟨hfr, hI⟩, trivial⟩
set_option maxRecDepth 100000 in
theorem g_X11_bonusesOf_v0 (u : qS) (x : Int32) (y : Int32) (z : Int32) (x4 : Int32) (x5 : Int32) (x6 : Int32) (hz8 : 0 ≤ u.1 8 ∧ u.1 8 ≤ 20) (hz9 : 0 ≤ u.1 9 ∧ u.1 9 ≤ 8) (hz10 : 0 ≤ u.1 10 ∧ u.1 10 ≤ 120) (hz12 : 0 ≤ u.1 12 ∧ u.1 12 ≤ 16) (h_k : 0 ≤ x6) (h_j : x4 ≤ u.1 10) (c33_1 : ¬ x4 ≤ (x6 : Int32)) : 0 ≤ x6 ∧ x6 < (u.1 10) := by
  first | omega | ((try simp only [g_m1, Int32.lt_iff_toInt_lt, Int32.le_iff_toInt_le, ← Int32.toInt_inj, Int32.reduceToInt] at *); omega) | ((try simp only [g_m1, Int32.lt_iff_toInt_lt, Int32.le_iff_toInt_le, ← Int32.toInt_inj, Int32.reduceToInt] at *); omega) | ((try simp only [g_m1, Int32.lt_iff_toInt_lt, Int32.le_iff_toInt_le, ← Int32.toInt_inj, Int32.toInt_add, Int32.toInt_sub, Int32.toInt_mul, Int32.toInt_neg, Int32.reduceToInt, g_bm, g_bm'] at *); omega) | (have qr1 := g_rng x; have qr2 := g_rng y; have qr3 := g_rng z; have qr4 := g_rng x4; have qr5 := g_rng x5; have qr6 := g_rng x6; (try simp only [g_m1, Int32.lt_iff_toInt_lt, Int32.le_iff_toInt_le, ← Int32.toInt_inj, Int32.toInt_add, Int32.toInt_sub, Int32.toInt_mul, Int32.toInt_neg, Int32.reduceToInt, g_bm, g_bm'] at *); omega) | (simp only [g_m1, Int32.lt_iff_toInt_lt, Int32.le_iff_toInt_le, ← Int32.toInt_inj, Int32.toInt_add, Int32.toInt_sub, Int32.toInt_mul, Int32.toInt_neg, Int32.reduceToInt, g_bm, g_bm'] at *; simp at *; omega) | (simp_all; done)
set_option maxRecDepth 100000 in
theorem g_X11_bonusesOf_v1 (u : qS) (x4 : Int32) (x6 : Int32) (hz8 : 0 ≤ u.1 8 ∧ u.1 8 ≤ 20) (hz9 : 0 ≤ u.1 9 ∧ u.1 9 ≤ 8) (hz10 : 0 ≤ u.1 10 ∧ u.1 10 ≤ 120) (hz12 : 0 ≤ u.1 12 ∧ u.1 12 ≤ 16) (h_k : 0 ≤ x6) (h_j : x4 ≤ u.1 10) (c33_1 : ¬ x4 ≤ (x6 : Int32)) : vp_in (x6) 120 := by
  refine g_in ?_ ?_ <;> ((try simp only [g_m1, Int32.lt_iff_toInt_lt, Int32.le_iff_toInt_le, ← Int32.toInt_inj, Int32.toInt_add, Int32.toInt_sub, Int32.toInt_mul, Int32.toInt_neg, Int32.reduceToInt, g_bm, g_bm'] at *); omega)
set_option maxRecDepth 100000 in
theorem g_X11_bonusesOf_v2 (u : qS) (x : Int32) (y : Int32) (z : Int32) (x4 : Int32) (x5 : Int32) (x6 : Int32) (uc : qS) (a_2 : Nat) (hz8 : 0 ≤ u.1 8 ∧ u.1 8 ≤ 20) (hz9 : 0 ≤ u.1 9 ∧ u.1 9 ≤ 8) (hz10 : 0 ≤ u.1 10 ∧ u.1 10 ≤ 120) (hz12 : 0 ≤ u.1 12 ∧ u.1 12 ≤ 16) (h_k : 0 ≤ x6) (h_j : x4 ≤ u.1 10) (c33_1 : ¬ x4 ≤ (x6 : Int32)) (b63_19 : y ≤ (qfd uc.2.2.2.2 a_2 4) ∧ (qfd uc.2.2.2.2 a_2 4) ≤ z) (hb_25 : 0 ≤ qfd uc.2.2.2.2 a_2 2 ∧ qfd uc.2.2.2.2 a_2 2 < (u.1 8)) : 0 ≤ (qfd uc.2.2.2.2 a_2 2) ∧ (qfd uc.2.2.2.2 a_2 2) < (u.1 8) := by
  first | omega | ((try simp only [g_m1, Int32.lt_iff_toInt_lt, Int32.le_iff_toInt_le, ← Int32.toInt_inj, Int32.reduceToInt] at *); omega) | ((try simp only [g_m1, Int32.lt_iff_toInt_lt, Int32.le_iff_toInt_le, ← Int32.toInt_inj, Int32.reduceToInt] at *); omega) | ((try simp only [g_m1, Int32.lt_iff_toInt_lt, Int32.le_iff_toInt_le, ← Int32.toInt_inj, Int32.toInt_add, Int32.toInt_sub, Int32.toInt_mul, Int32.toInt_neg, Int32.reduceToInt, g_bm, g_bm'] at *); omega) | (have qr1 := g_rng x; have qr2 := g_rng y; have qr3 := g_rng z; have qr4 := g_rng x4; have qr5 := g_rng x5; have qr6 := g_rng x6; (try simp only [g_m1, Int32.lt_iff_toInt_lt, Int32.le_iff_toInt_le, ← Int32.toInt_inj, Int32.toInt_add, Int32.toInt_sub, Int32.toInt_mul, Int32.toInt_neg, Int32.reduceToInt, g_bm, g_bm'] at *); omega) | (simp only [g_m1, Int32.lt_iff_toInt_lt, Int32.le_iff_toInt_le, ← Int32.toInt_inj, Int32.toInt_add, Int32.toInt_sub, Int32.toInt_mul, Int32.toInt_neg, Int32.reduceToInt, g_bm, g_bm'] at *; simp at *; omega) | (simp_all; done)
set_option maxRecDepth 100000 in
theorem g_X11_bonusesOf_v3 (u : qS) (y : Int32) (z : Int32) (x4 : Int32) (x6 : Int32) (uc : qS) (a_2 : Nat) (hz8 : 0 ≤ u.1 8 ∧ u.1 8 ≤ 20) (hz9 : 0 ≤ u.1 9 ∧ u.1 9 ≤ 8) (hz10 : 0 ≤ u.1 10 ∧ u.1 10 ≤ 120) (hz12 : 0 ≤ u.1 12 ∧ u.1 12 ≤ 16) (h_k : 0 ≤ x6) (h_j : x4 ≤ u.1 10) (c33_1 : ¬ x4 ≤ (x6 : Int32)) (b63_19 : y ≤ (qfd uc.2.2.2.2 a_2 4) ∧ (qfd uc.2.2.2.2 a_2 4) ≤ z) (hb_25 : 0 ≤ qfd uc.2.2.2.2 a_2 2 ∧ qfd uc.2.2.2.2 a_2 2 < (u.1 8)) : vp_in (qfd uc.2.2.2.2 a_2 2) 20 := by
  refine g_in ?_ ?_ <;> ((try simp only [g_m1, Int32.lt_iff_toInt_lt, Int32.le_iff_toInt_le, ← Int32.toInt_inj, Int32.toInt_add, Int32.toInt_sub, Int32.toInt_mul, Int32.toInt_neg, Int32.reduceToInt, g_bm, g_bm'] at *); omega)
set_option maxRecDepth 100000 in
theorem g_X11_bonusesOf_v4 (u : qS) (x : Int32) (y : Int32) (z : Int32) (x4 : Int32) (x5 : Int32) (x6 : Int32) (uc : qS) (a_2 : Nat) (x_30 : Int32) (hz8 : 0 ≤ u.1 8 ∧ u.1 8 ≤ 20) (hz9 : 0 ≤ u.1 9 ∧ u.1 9 ≤ 8) (hz10 : 0 ≤ u.1 10 ∧ u.1 10 ≤ 120) (hz12 : 0 ≤ u.1 12 ∧ u.1 12 ≤ 16) (h_k : 0 ≤ x6) (h_j : x4 ≤ u.1 10) (c33_1 : ¬ x4 ≤ (x6 : Int32)) (b63_19 : y ≤ (qfd uc.2.2.2.2 a_2 4) ∧ (qfd uc.2.2.2.2 a_2 4) ≤ z) (hb_25 : 0 ≤ qfd uc.2.2.2.2 a_2 2 ∧ qfd uc.2.2.2.2 a_2 2 < (u.1 8)) (c86_33 : ¬ (x_30 : Int32) = x) : 0 ≤ (x6 + 1) := by
  first | omega | ((try simp only [g_m1, Int32.lt_iff_toInt_lt, Int32.le_iff_toInt_le, ← Int32.toInt_inj, Int32.reduceToInt] at *); omega) | ((try have ez0 : (x6 + 1 : Int32).toInt = (x6 : Int32).toInt + (1 : Int32).toInt := g_add (by (try simp only [g_m1, Int32.lt_iff_toInt_lt, Int32.le_iff_toInt_le, ← Int32.toInt_inj, Int32.reduceToInt] at *); omega) (by (try simp only [g_m1, Int32.lt_iff_toInt_lt, Int32.le_iff_toInt_le, ← Int32.toInt_inj, Int32.reduceToInt] at *); omega)); (try simp only [g_m1, Int32.lt_iff_toInt_lt, Int32.le_iff_toInt_le, ← Int32.toInt_inj, Int32.reduceToInt] at *); omega) | ((try simp only [g_m1, Int32.lt_iff_toInt_lt, Int32.le_iff_toInt_le, ← Int32.toInt_inj, Int32.toInt_add, Int32.toInt_sub, Int32.toInt_mul, Int32.toInt_neg, Int32.reduceToInt, g_bm, g_bm'] at *); omega) | (have qr1 := g_rng x; have qr2 := g_rng y; have qr3 := g_rng z; have qr4 := g_rng x4; have qr5 := g_rng x5; have qr6 := g_rng x6; have qr10 := g_rng x_30; (try simp only [g_m1, Int32.lt_iff_toInt_lt, Int32.le_iff_toInt_le, ← Int32.toInt_inj, Int32.toInt_add, Int32.toInt_sub, Int32.toInt_mul, Int32.toInt_neg, Int32.reduceToInt, g_bm, g_bm'] at *); omega) | (simp only [g_m1, Int32.lt_iff_toInt_lt, Int32.le_iff_toInt_le, ← Int32.toInt_inj, Int32.toInt_add, Int32.toInt_sub, Int32.toInt_mul, Int32.toInt_neg, Int32.reduceToInt, g_bm, g_bm'] at *; simp at *; omega) | (simp_all; done)
set_option maxRecDepth 100000 in
theorem g_X11_bonusesOf_v5 (u : qS) (x : Int32) (y : Int32) (z : Int32) (x4 : Int32) (x5 : Int32) (x6 : Int32) (uc : qS) (a_2 : Nat) (x_30 : Int32) (hz8 : 0 ≤ u.1 8 ∧ u.1 8 ≤ 20) (hz9 : 0 ≤ u.1 9 ∧ u.1 9 ≤ 8) (hz10 : 0 ≤ u.1 10 ∧ u.1 10 ≤ 120) (hz12 : 0 ≤ u.1 12 ∧ u.1 12 ≤ 16) (h_k : 0 ≤ x6) (h_j : x4 ≤ u.1 10) (c33_1 : ¬ x4 ≤ (x6 : Int32)) (b63_19 : y ≤ (qfd uc.2.2.2.2 a_2 4) ∧ (qfd uc.2.2.2.2 a_2 4) ≤ z) (hb_25 : 0 ≤ qfd uc.2.2.2.2 a_2 2 ∧ qfd uc.2.2.2.2 a_2 2 < (u.1 8)) (c86_33 : ¬ (x_30 : Int32) = x) : x4 ≤ u.1 10 := by
  first | omega | ((try simp only [g_m1, Int32.lt_iff_toInt_lt, Int32.le_iff_toInt_le, ← Int32.toInt_inj, Int32.reduceToInt] at *); omega) | ((try simp only [g_m1, Int32.lt_iff_toInt_lt, Int32.le_iff_toInt_le, ← Int32.toInt_inj, Int32.reduceToInt] at *); omega) | ((try simp only [g_m1, Int32.lt_iff_toInt_lt, Int32.le_iff_toInt_le, ← Int32.toInt_inj, Int32.toInt_add, Int32.toInt_sub, Int32.toInt_mul, Int32.toInt_neg, Int32.reduceToInt, g_bm, g_bm'] at *); omega) | (have qr1 := g_rng x; have qr2 := g_rng y; have qr3 := g_rng z; have qr4 := g_rng x4; have qr5 := g_rng x5; have qr6 := g_rng x6; have qr10 := g_rng x_30; (try simp only [g_m1, Int32.lt_iff_toInt_lt, Int32.le_iff_toInt_le, ← Int32.toInt_inj, Int32.toInt_add, Int32.toInt_sub, Int32.toInt_mul, Int32.toInt_neg, Int32.reduceToInt, g_bm, g_bm'] at *); omega) | (simp only [g_m1, Int32.lt_iff_toInt_lt, Int32.le_iff_toInt_le, ← Int32.toInt_inj, Int32.toInt_add, Int32.toInt_sub, Int32.toInt_mul, Int32.toInt_neg, Int32.reduceToInt, g_bm, g_bm'] at *; simp at *; omega) | (simp_all; done)
set_option maxRecDepth 100000 in
theorem g_X11_bonusesOf_v6 (u : qS) (x : Int32) (y : Int32) (z : Int32) (x4 : Int32) (x5 : Int32) (x6 : Int32) (uc : qS) (a_2 : Nat) (x_30 : Int32) (hz8 : 0 ≤ u.1 8 ∧ u.1 8 ≤ 20) (hz9 : 0 ≤ u.1 9 ∧ u.1 9 ≤ 8) (hz10 : 0 ≤ u.1 10 ∧ u.1 10 ≤ 120) (hz12 : 0 ≤ u.1 12 ∧ u.1 12 ≤ 16) (h_k : 0 ≤ x6) (h_j : x4 ≤ u.1 10) (c33_1 : ¬ x4 ≤ (x6 : Int32)) (b63_19 : y ≤ (qfd uc.2.2.2.2 a_2 4) ∧ (qfd uc.2.2.2.2 a_2 4) ≤ z) (hb_25 : 0 ≤ qfd uc.2.2.2.2 a_2 2 ∧ qfd uc.2.2.2.2 a_2 2 < (u.1 8)) (c86_33 : ¬ (x_30 : Int32) = x) : (x4.toInt - (x6 + 1).toInt).toNat < (x4.toInt - x6.toInt).toNat := by
  first | omega | ((try simp only [g_m1, Int32.lt_iff_toInt_lt, Int32.le_iff_toInt_le, ← Int32.toInt_inj, Int32.reduceToInt] at *); omega) | ((try have ez0 : (x6 + 1 : Int32).toInt = (x6 : Int32).toInt + (1 : Int32).toInt := g_add (by (try simp only [g_m1, Int32.lt_iff_toInt_lt, Int32.le_iff_toInt_le, ← Int32.toInt_inj, Int32.reduceToInt] at *); omega) (by (try simp only [g_m1, Int32.lt_iff_toInt_lt, Int32.le_iff_toInt_le, ← Int32.toInt_inj, Int32.reduceToInt] at *); omega)); (try simp only [g_m1, Int32.lt_iff_toInt_lt, Int32.le_iff_toInt_le, ← Int32.toInt_inj, Int32.reduceToInt] at *); omega) | ((try simp only [g_m1, Int32.lt_iff_toInt_lt, Int32.le_iff_toInt_le, ← Int32.toInt_inj, Int32.toInt_add, Int32.toInt_sub, Int32.toInt_mul, Int32.toInt_neg, Int32.reduceToInt, g_bm, g_bm'] at *); omega) | (have qr1 := g_rng x; have qr2 := g_rng y; have qr3 := g_rng z; have qr4 := g_rng x4; have qr5 := g_rng x5; have qr6 := g_rng x6; have qr10 := g_rng x_30; (try simp only [g_m1, Int32.lt_iff_toInt_lt, Int32.le_iff_toInt_le, ← Int32.toInt_inj, Int32.toInt_add, Int32.toInt_sub, Int32.toInt_mul, Int32.toInt_neg, Int32.reduceToInt, g_bm, g_bm'] at *); omega) | (simp only [g_m1, Int32.lt_iff_toInt_lt, Int32.le_iff_toInt_le, ← Int32.toInt_inj, Int32.toInt_add, Int32.toInt_sub, Int32.toInt_mul, Int32.toInt_neg, Int32.reduceToInt, g_bm, g_bm'] at *; simp at *; omega) | (simp_all; done)
set_option maxRecDepth 100000 in
theorem g_X11_bonusesOf_v7 (u : qS) (x : Int32) (y : Int32) (z : Int32) (x4 : Int32) (x5 : Int32) (x6 : Int32) (uc : qS) (a_2 : Nat) (x_30 : Int32) (hz8 : 0 ≤ u.1 8 ∧ u.1 8 ≤ 20) (hz9 : 0 ≤ u.1 9 ∧ u.1 9 ≤ 8) (hz10 : 0 ≤ u.1 10 ∧ u.1 10 ≤ 120) (hz12 : 0 ≤ u.1 12 ∧ u.1 12 ≤ 16) (h_k : 0 ≤ x6) (h_j : x4 ≤ u.1 10) (c33_1 : ¬ x4 ≤ (x6 : Int32)) (b63_19 : y ≤ (qfd uc.2.2.2.2 a_2 4) ∧ (qfd uc.2.2.2.2 a_2 4) ≤ z) (hb_25 : 0 ≤ qfd uc.2.2.2.2 a_2 2 ∧ qfd uc.2.2.2.2 a_2 2 < (u.1 8)) (c86_33 : (x_30 : Int32) = x) : 0 ≤ (x6 + 1) := by
  first | omega | ((try simp only [g_m1, Int32.lt_iff_toInt_lt, Int32.le_iff_toInt_le, ← Int32.toInt_inj, Int32.reduceToInt] at *); omega) | ((try have ez1 : (x6 + 1 : Int32).toInt = (x6 : Int32).toInt + (1 : Int32).toInt := g_add (by (try simp only [g_m1, Int32.lt_iff_toInt_lt, Int32.le_iff_toInt_le, ← Int32.toInt_inj, Int32.reduceToInt] at *); omega) (by (try simp only [g_m1, Int32.lt_iff_toInt_lt, Int32.le_iff_toInt_le, ← Int32.toInt_inj, Int32.reduceToInt] at *); omega)); (try simp only [g_m1, Int32.lt_iff_toInt_lt, Int32.le_iff_toInt_le, ← Int32.toInt_inj, Int32.reduceToInt] at *); omega) | ((try simp only [g_m1, Int32.lt_iff_toInt_lt, Int32.le_iff_toInt_le, ← Int32.toInt_inj, Int32.toInt_add, Int32.toInt_sub, Int32.toInt_mul, Int32.toInt_neg, Int32.reduceToInt, g_bm, g_bm'] at *); omega) | (have qr1 := g_rng x; have qr2 := g_rng y; have qr3 := g_rng z; have qr4 := g_rng x4; have qr5 := g_rng x5; have qr6 := g_rng x6; have qr10 := g_rng x_30; (try simp only [g_m1, Int32.lt_iff_toInt_lt, Int32.le_iff_toInt_le, ← Int32.toInt_inj, Int32.toInt_add, Int32.toInt_sub, Int32.toInt_mul, Int32.toInt_neg, Int32.reduceToInt, g_bm, g_bm'] at *); omega) | (simp only [g_m1, Int32.lt_iff_toInt_lt, Int32.le_iff_toInt_le, ← Int32.toInt_inj, Int32.toInt_add, Int32.toInt_sub, Int32.toInt_mul, Int32.toInt_neg, Int32.reduceToInt, g_bm, g_bm'] at *; simp at *; omega) | (simp_all; done)
set_option maxRecDepth 100000 in
theorem g_X11_bonusesOf_v8 (u : qS) (x : Int32) (y : Int32) (z : Int32) (x4 : Int32) (x5 : Int32) (x6 : Int32) (uc : qS) (a_2 : Nat) (x_30 : Int32) (hz8 : 0 ≤ u.1 8 ∧ u.1 8 ≤ 20) (hz9 : 0 ≤ u.1 9 ∧ u.1 9 ≤ 8) (hz10 : 0 ≤ u.1 10 ∧ u.1 10 ≤ 120) (hz12 : 0 ≤ u.1 12 ∧ u.1 12 ≤ 16) (h_k : 0 ≤ x6) (h_j : x4 ≤ u.1 10) (c33_1 : ¬ x4 ≤ (x6 : Int32)) (b63_19 : y ≤ (qfd uc.2.2.2.2 a_2 4) ∧ (qfd uc.2.2.2.2 a_2 4) ≤ z) (hb_25 : 0 ≤ qfd uc.2.2.2.2 a_2 2 ∧ qfd uc.2.2.2.2 a_2 2 < (u.1 8)) (c86_33 : (x_30 : Int32) = x) : x4 ≤ u.1 10 := by
  first | omega | ((try simp only [g_m1, Int32.lt_iff_toInt_lt, Int32.le_iff_toInt_le, ← Int32.toInt_inj, Int32.reduceToInt] at *); omega) | ((try simp only [g_m1, Int32.lt_iff_toInt_lt, Int32.le_iff_toInt_le, ← Int32.toInt_inj, Int32.reduceToInt] at *); omega) | ((try simp only [g_m1, Int32.lt_iff_toInt_lt, Int32.le_iff_toInt_le, ← Int32.toInt_inj, Int32.toInt_add, Int32.toInt_sub, Int32.toInt_mul, Int32.toInt_neg, Int32.reduceToInt, g_bm, g_bm'] at *); omega) | (have qr1 := g_rng x; have qr2 := g_rng y; have qr3 := g_rng z; have qr4 := g_rng x4; have qr5 := g_rng x5; have qr6 := g_rng x6; have qr10 := g_rng x_30; (try simp only [g_m1, Int32.lt_iff_toInt_lt, Int32.le_iff_toInt_le, ← Int32.toInt_inj, Int32.toInt_add, Int32.toInt_sub, Int32.toInt_mul, Int32.toInt_neg, Int32.reduceToInt, g_bm, g_bm'] at *); omega) | (simp only [g_m1, Int32.lt_iff_toInt_lt, Int32.le_iff_toInt_le, ← Int32.toInt_inj, Int32.toInt_add, Int32.toInt_sub, Int32.toInt_mul, Int32.toInt_neg, Int32.reduceToInt, g_bm, g_bm'] at *; simp at *; omega) | (simp_all; done)
set_option maxRecDepth 100000 in
theorem g_X11_bonusesOf_v9 (u : qS) (x : Int32) (y : Int32) (z : Int32) (x4 : Int32) (x5 : Int32) (x6 : Int32) (uc : qS) (a_2 : Nat) (x_30 : Int32) (hz8 : 0 ≤ u.1 8 ∧ u.1 8 ≤ 20) (hz9 : 0 ≤ u.1 9 ∧ u.1 9 ≤ 8) (hz10 : 0 ≤ u.1 10 ∧ u.1 10 ≤ 120) (hz12 : 0 ≤ u.1 12 ∧ u.1 12 ≤ 16) (h_k : 0 ≤ x6) (h_j : x4 ≤ u.1 10) (c33_1 : ¬ x4 ≤ (x6 : Int32)) (b63_19 : y ≤ (qfd uc.2.2.2.2 a_2 4) ∧ (qfd uc.2.2.2.2 a_2 4) ≤ z) (hb_25 : 0 ≤ qfd uc.2.2.2.2 a_2 2 ∧ qfd uc.2.2.2.2 a_2 2 < (u.1 8)) (c86_33 : (x_30 : Int32) = x) : (x4.toInt - (x6 + 1).toInt).toNat < (x4.toInt - x6.toInt).toNat := by
  first | omega | ((try simp only [g_m1, Int32.lt_iff_toInt_lt, Int32.le_iff_toInt_le, ← Int32.toInt_inj, Int32.reduceToInt] at *); omega) | ((try have ez1 : (x6 + 1 : Int32).toInt = (x6 : Int32).toInt + (1 : Int32).toInt := g_add (by (try simp only [g_m1, Int32.lt_iff_toInt_lt, Int32.le_iff_toInt_le, ← Int32.toInt_inj, Int32.reduceToInt] at *); omega) (by (try simp only [g_m1, Int32.lt_iff_toInt_lt, Int32.le_iff_toInt_le, ← Int32.toInt_inj, Int32.reduceToInt] at *); omega)); (try simp only [g_m1, Int32.lt_iff_toInt_lt, Int32.le_iff_toInt_le, ← Int32.toInt_inj, Int32.reduceToInt] at *); omega) | ((try simp only [g_m1, Int32.lt_iff_toInt_lt, Int32.le_iff_toInt_le, ← Int32.toInt_inj, Int32.toInt_add, Int32.toInt_sub, Int32.toInt_mul, Int32.toInt_neg, Int32.reduceToInt, g_bm, g_bm'] at *); omega) | (have qr1 := g_rng x; have qr2 := g_rng y; have qr3 := g_rng z; have qr4 := g_rng x4; have qr5 := g_rng x5; have qr6 := g_rng x6; have qr10 := g_rng x_30; (try simp only [g_m1, Int32.lt_iff_toInt_lt, Int32.le_iff_toInt_le, ← Int32.toInt_inj, Int32.toInt_add, Int32.toInt_sub, Int32.toInt_mul, Int32.toInt_neg, Int32.reduceToInt, g_bm, g_bm'] at *); omega) | (simp only [g_m1, Int32.lt_iff_toInt_lt, Int32.le_iff_toInt_le, ← Int32.toInt_inj, Int32.toInt_add, Int32.toInt_sub, Int32.toInt_mul, Int32.toInt_neg, Int32.reduceToInt, g_bm, g_bm'] at *; simp at *; omega) | (simp_all; done)
set_option maxRecDepth 100000 in
theorem g_X11_bonusesOf_v10 (u : qS) (x : Int32) (y : Int32) (z : Int32) (x4 : Int32) (x5 : Int32) (x6 : Int32) (uc : qS) (a_2 : Nat) (hz8 : 0 ≤ u.1 8 ∧ u.1 8 ≤ 20) (hz9 : 0 ≤ u.1 9 ∧ u.1 9 ≤ 8) (hz10 : 0 ≤ u.1 10 ∧ u.1 10 ≤ 120) (hz12 : 0 ≤ u.1 12 ∧ u.1 12 ≤ 16) (h_k : 0 ≤ x6) (h_j : x4 ≤ u.1 10) (c33_1 : ¬ x4 ≤ (x6 : Int32)) (b63_19 : ¬ (y ≤ (qfd uc.2.2.2.2 a_2 4) ∧ (qfd uc.2.2.2.2 a_2 4) ≤ z)) : 0 ≤ (x6 + 1) := by
  first | omega | ((try simp only [g_m1, Int32.lt_iff_toInt_lt, Int32.le_iff_toInt_le, ← Int32.toInt_inj, Int32.reduceToInt] at *); omega) | ((try have ez0 : (x6 + 1 : Int32).toInt = (x6 : Int32).toInt + (1 : Int32).toInt := g_add (by (try simp only [g_m1, Int32.lt_iff_toInt_lt, Int32.le_iff_toInt_le, ← Int32.toInt_inj, Int32.reduceToInt] at *); omega) (by (try simp only [g_m1, Int32.lt_iff_toInt_lt, Int32.le_iff_toInt_le, ← Int32.toInt_inj, Int32.reduceToInt] at *); omega)); (try simp only [g_m1, Int32.lt_iff_toInt_lt, Int32.le_iff_toInt_le, ← Int32.toInt_inj, Int32.reduceToInt] at *); omega) | ((try simp only [g_m1, Int32.lt_iff_toInt_lt, Int32.le_iff_toInt_le, ← Int32.toInt_inj, Int32.toInt_add, Int32.toInt_sub, Int32.toInt_mul, Int32.toInt_neg, Int32.reduceToInt, g_bm, g_bm'] at *); omega) | (have qr1 := g_rng x; have qr2 := g_rng y; have qr3 := g_rng z; have qr4 := g_rng x4; have qr5 := g_rng x5; have qr6 := g_rng x6; (try simp only [g_m1, Int32.lt_iff_toInt_lt, Int32.le_iff_toInt_le, ← Int32.toInt_inj, Int32.toInt_add, Int32.toInt_sub, Int32.toInt_mul, Int32.toInt_neg, Int32.reduceToInt, g_bm, g_bm'] at *); omega) | (simp only [g_m1, Int32.lt_iff_toInt_lt, Int32.le_iff_toInt_le, ← Int32.toInt_inj, Int32.toInt_add, Int32.toInt_sub, Int32.toInt_mul, Int32.toInt_neg, Int32.reduceToInt, g_bm, g_bm'] at *; simp at *; omega) | (simp_all; done)
set_option maxRecDepth 100000 in
theorem g_X11_bonusesOf_v11 (u : qS) (x : Int32) (y : Int32) (z : Int32) (x4 : Int32) (x5 : Int32) (x6 : Int32) (uc : qS) (a_2 : Nat) (hz8 : 0 ≤ u.1 8 ∧ u.1 8 ≤ 20) (hz9 : 0 ≤ u.1 9 ∧ u.1 9 ≤ 8) (hz10 : 0 ≤ u.1 10 ∧ u.1 10 ≤ 120) (hz12 : 0 ≤ u.1 12 ∧ u.1 12 ≤ 16) (h_k : 0 ≤ x6) (h_j : x4 ≤ u.1 10) (c33_1 : ¬ x4 ≤ (x6 : Int32)) (b63_19 : ¬ (y ≤ (qfd uc.2.2.2.2 a_2 4) ∧ (qfd uc.2.2.2.2 a_2 4) ≤ z)) : x4 ≤ u.1 10 := by
  first | omega | ((try simp only [g_m1, Int32.lt_iff_toInt_lt, Int32.le_iff_toInt_le, ← Int32.toInt_inj, Int32.reduceToInt] at *); omega) | ((try simp only [g_m1, Int32.lt_iff_toInt_lt, Int32.le_iff_toInt_le, ← Int32.toInt_inj, Int32.reduceToInt] at *); omega) | ((try simp only [g_m1, Int32.lt_iff_toInt_lt, Int32.le_iff_toInt_le, ← Int32.toInt_inj, Int32.toInt_add, Int32.toInt_sub, Int32.toInt_mul, Int32.toInt_neg, Int32.reduceToInt, g_bm, g_bm'] at *); omega) | (have qr1 := g_rng x; have qr2 := g_rng y; have qr3 := g_rng z; have qr4 := g_rng x4; have qr5 := g_rng x5; have qr6 := g_rng x6; (try simp only [g_m1, Int32.lt_iff_toInt_lt, Int32.le_iff_toInt_le, ← Int32.toInt_inj, Int32.toInt_add, Int32.toInt_sub, Int32.toInt_mul, Int32.toInt_neg, Int32.reduceToInt, g_bm, g_bm'] at *); omega) | (simp only [g_m1, Int32.lt_iff_toInt_lt, Int32.le_iff_toInt_le, ← Int32.toInt_inj, Int32.toInt_add, Int32.toInt_sub, Int32.toInt_mul, Int32.toInt_neg, Int32.reduceToInt, g_bm, g_bm'] at *; simp at *; omega) | (simp_all; done)
set_option maxRecDepth 100000 in
theorem g_X11_bonusesOf_v12 (u : qS) (x : Int32) (y : Int32) (z : Int32) (x4 : Int32) (x5 : Int32) (x6 : Int32) (uc : qS) (a_2 : Nat) (hz8 : 0 ≤ u.1 8 ∧ u.1 8 ≤ 20) (hz9 : 0 ≤ u.1 9 ∧ u.1 9 ≤ 8) (hz10 : 0 ≤ u.1 10 ∧ u.1 10 ≤ 120) (hz12 : 0 ≤ u.1 12 ∧ u.1 12 ≤ 16) (h_k : 0 ≤ x6) (h_j : x4 ≤ u.1 10) (c33_1 : ¬ x4 ≤ (x6 : Int32)) (b63_19 : ¬ (y ≤ (qfd uc.2.2.2.2 a_2 4) ∧ (qfd uc.2.2.2.2 a_2 4) ≤ z)) : (x4.toInt - (x6 + 1).toInt).toNat < (x4.toInt - x6.toInt).toNat := by
  first | omega | ((try simp only [g_m1, Int32.lt_iff_toInt_lt, Int32.le_iff_toInt_le, ← Int32.toInt_inj, Int32.reduceToInt] at *); omega) | ((try have ez0 : (x6 + 1 : Int32).toInt = (x6 : Int32).toInt + (1 : Int32).toInt := g_add (by (try simp only [g_m1, Int32.lt_iff_toInt_lt, Int32.le_iff_toInt_le, ← Int32.toInt_inj, Int32.reduceToInt] at *); omega) (by (try simp only [g_m1, Int32.lt_iff_toInt_lt, Int32.le_iff_toInt_le, ← Int32.toInt_inj, Int32.reduceToInt] at *); omega)); (try simp only [g_m1, Int32.lt_iff_toInt_lt, Int32.le_iff_toInt_le, ← Int32.toInt_inj, Int32.reduceToInt] at *); omega) | ((try simp only [g_m1, Int32.lt_iff_toInt_lt, Int32.le_iff_toInt_le, ← Int32.toInt_inj, Int32.toInt_add, Int32.toInt_sub, Int32.toInt_mul, Int32.toInt_neg, Int32.reduceToInt, g_bm, g_bm'] at *); omega) | (have qr1 := g_rng x; have qr2 := g_rng y; have qr3 := g_rng z; have qr4 := g_rng x4; have qr5 := g_rng x5; have qr6 := g_rng x6; (try simp only [g_m1, Int32.lt_iff_toInt_lt, Int32.le_iff_toInt_le, ← Int32.toInt_inj, Int32.toInt_add, Int32.toInt_sub, Int32.toInt_mul, Int32.toInt_neg, Int32.reduceToInt, g_bm, g_bm'] at *); omega) | (simp only [g_m1, Int32.lt_iff_toInt_lt, Int32.le_iff_toInt_le, ← Int32.toInt_inj, Int32.toInt_add, Int32.toInt_sub, Int32.toInt_mul, Int32.toInt_neg, Int32.reduceToInt, g_bm, g_bm'] at *; simp at *; omega) | (simp_all; done)
set_option maxRecDepth 100000 in
theorem g_X11_bonusesOf_v13 (u : qS) (x : Int32) (y : Int32) (z : Int32) (x4 : Int32) (x5 : Int32) (x6 : Int32) (hz8 : 0 ≤ u.1 8 ∧ u.1 8 ≤ 20) (hz9 : 0 ≤ u.1 9 ∧ u.1 9 ≤ 8) (hz10 : 0 ≤ u.1 10 ∧ u.1 10 ≤ 120) (hz12 : 0 ≤ u.1 12 ∧ u.1 12 ≤ 16) (h_k : 0 ≤ x6) (h_j : x4 ≤ u.1 10) (c33_1 : ¬ x4 ≤ (x6 : Int32)) : 0 ≤ (x6 + 1) := by
  first | omega | ((try simp only [g_m1, Int32.lt_iff_toInt_lt, Int32.le_iff_toInt_le, ← Int32.toInt_inj, Int32.reduceToInt] at *); omega) | ((try have ez0 : (x6 + 1 : Int32).toInt = (x6 : Int32).toInt + (1 : Int32).toInt := g_add (by (try simp only [g_m1, Int32.lt_iff_toInt_lt, Int32.le_iff_toInt_le, ← Int32.toInt_inj, Int32.reduceToInt] at *); omega) (by (try simp only [g_m1, Int32.lt_iff_toInt_lt, Int32.le_iff_toInt_le, ← Int32.toInt_inj, Int32.reduceToInt] at *); omega)); (try simp only [g_m1, Int32.lt_iff_toInt_lt, Int32.le_iff_toInt_le, ← Int32.toInt_inj, Int32.reduceToInt] at *); omega) | ((try simp only [g_m1, Int32.lt_iff_toInt_lt, Int32.le_iff_toInt_le, ← Int32.toInt_inj, Int32.toInt_add, Int32.toInt_sub, Int32.toInt_mul, Int32.toInt_neg, Int32.reduceToInt, g_bm, g_bm'] at *); omega) | (have qr1 := g_rng x; have qr2 := g_rng y; have qr3 := g_rng z; have qr4 := g_rng x4; have qr5 := g_rng x5; have qr6 := g_rng x6; (try simp only [g_m1, Int32.lt_iff_toInt_lt, Int32.le_iff_toInt_le, ← Int32.toInt_inj, Int32.toInt_add, Int32.toInt_sub, Int32.toInt_mul, Int32.toInt_neg, Int32.reduceToInt, g_bm, g_bm'] at *); omega) | (simp only [g_m1, Int32.lt_iff_toInt_lt, Int32.le_iff_toInt_le, ← Int32.toInt_inj, Int32.toInt_add, Int32.toInt_sub, Int32.toInt_mul, Int32.toInt_neg, Int32.reduceToInt, g_bm, g_bm'] at *; simp at *; omega) | (simp_all; done)
set_option maxRecDepth 100000 in
theorem g_X11_bonusesOf_v14 (u : qS) (x : Int32) (y : Int32) (z : Int32) (x4 : Int32) (x5 : Int32) (x6 : Int32) (hz8 : 0 ≤ u.1 8 ∧ u.1 8 ≤ 20) (hz9 : 0 ≤ u.1 9 ∧ u.1 9 ≤ 8) (hz10 : 0 ≤ u.1 10 ∧ u.1 10 ≤ 120) (hz12 : 0 ≤ u.1 12 ∧ u.1 12 ≤ 16) (h_k : 0 ≤ x6) (h_j : x4 ≤ u.1 10) (c33_1 : ¬ x4 ≤ (x6 : Int32)) : x4 ≤ u.1 10 := by
  first | omega | ((try simp only [g_m1, Int32.lt_iff_toInt_lt, Int32.le_iff_toInt_le, ← Int32.toInt_inj, Int32.reduceToInt] at *); omega) | ((try simp only [g_m1, Int32.lt_iff_toInt_lt, Int32.le_iff_toInt_le, ← Int32.toInt_inj, Int32.reduceToInt] at *); omega) | ((try simp only [g_m1, Int32.lt_iff_toInt_lt, Int32.le_iff_toInt_le, ← Int32.toInt_inj, Int32.toInt_add, Int32.toInt_sub, Int32.toInt_mul, Int32.toInt_neg, Int32.reduceToInt, g_bm, g_bm'] at *); omega) | (have qr1 := g_rng x; have qr2 := g_rng y; have qr3 := g_rng z; have qr4 := g_rng x4; have qr5 := g_rng x5; have qr6 := g_rng x6; (try simp only [g_m1, Int32.lt_iff_toInt_lt, Int32.le_iff_toInt_le, ← Int32.toInt_inj, Int32.toInt_add, Int32.toInt_sub, Int32.toInt_mul, Int32.toInt_neg, Int32.reduceToInt, g_bm, g_bm'] at *); omega) | (simp only [g_m1, Int32.lt_iff_toInt_lt, Int32.le_iff_toInt_le, ← Int32.toInt_inj, Int32.toInt_add, Int32.toInt_sub, Int32.toInt_mul, Int32.toInt_neg, Int32.reduceToInt, g_bm, g_bm'] at *; simp at *; omega) | (simp_all; done)
set_option maxRecDepth 100000 in
theorem g_X11_bonusesOf_v15 (u : qS) (x : Int32) (y : Int32) (z : Int32) (x4 : Int32) (x5 : Int32) (x6 : Int32) (hz8 : 0 ≤ u.1 8 ∧ u.1 8 ≤ 20) (hz9 : 0 ≤ u.1 9 ∧ u.1 9 ≤ 8) (hz10 : 0 ≤ u.1 10 ∧ u.1 10 ≤ 120) (hz12 : 0 ≤ u.1 12 ∧ u.1 12 ≤ 16) (h_k : 0 ≤ x6) (h_j : x4 ≤ u.1 10) (c33_1 : ¬ x4 ≤ (x6 : Int32)) : (x4.toInt - (x6 + 1).toInt).toNat < (x4.toInt - x6.toInt).toNat := by
  first | omega | ((try simp only [g_m1, Int32.lt_iff_toInt_lt, Int32.le_iff_toInt_le, ← Int32.toInt_inj, Int32.reduceToInt] at *); omega) | ((try have ez0 : (x6 + 1 : Int32).toInt = (x6 : Int32).toInt + (1 : Int32).toInt := g_add (by (try simp only [g_m1, Int32.lt_iff_toInt_lt, Int32.le_iff_toInt_le, ← Int32.toInt_inj, Int32.reduceToInt] at *); omega) (by (try simp only [g_m1, Int32.lt_iff_toInt_lt, Int32.le_iff_toInt_le, ← Int32.toInt_inj, Int32.reduceToInt] at *); omega)); (try simp only [g_m1, Int32.lt_iff_toInt_lt, Int32.le_iff_toInt_le, ← Int32.toInt_inj, Int32.reduceToInt] at *); omega) | ((try simp only [g_m1, Int32.lt_iff_toInt_lt, Int32.le_iff_toInt_le, ← Int32.toInt_inj, Int32.toInt_add, Int32.toInt_sub, Int32.toInt_mul, Int32.toInt_neg, Int32.reduceToInt, g_bm, g_bm'] at *); omega) | (have qr1 := g_rng x; have qr2 := g_rng y; have qr3 := g_rng z; have qr4 := g_rng x4; have qr5 := g_rng x5; have qr6 := g_rng x6; (try simp only [g_m1, Int32.lt_iff_toInt_lt, Int32.le_iff_toInt_le, ← Int32.toInt_inj, Int32.toInt_add, Int32.toInt_sub, Int32.toInt_mul, Int32.toInt_neg, Int32.reduceToInt, g_bm, g_bm'] at *); omega) | (simp only [g_m1, Int32.lt_iff_toInt_lt, Int32.le_iff_toInt_le, ← Int32.toInt_inj, Int32.toInt_add, Int32.toInt_sub, Int32.toInt_mul, Int32.toInt_neg, Int32.reduceToInt, g_bm, g_bm'] at *; simp at *; omega) | (simp_all; done)
set_option maxRecDepth 100000 in
theorem g_X11_bonusesOf_v16 (u : qS) (x : Int32) (y : Int32) (z : Int32) (r_64 : Int32) (hz8 : 0 ≤ u.1 8 ∧ u.1 8 ≤ 20) (hz9 : 0 ≤ u.1 9 ∧ u.1 9 ≤ 8) (hz10 : 0 ≤ u.1 10 ∧ u.1 10 ≤ 120) (hz12 : 0 ≤ u.1 12 ∧ u.1 12 ≤ 16) (hw_63 : 0 ≤ r_64 ∧ r_64 ≤ (u.1 10 : Int32)) : 0 ≤ (0 : Int32) := by
  first | omega | ((try simp only [g_m1, Int32.lt_iff_toInt_lt, Int32.le_iff_toInt_le, ← Int32.toInt_inj, Int32.reduceToInt] at *); omega) | ((try simp only [g_m1, Int32.lt_iff_toInt_lt, Int32.le_iff_toInt_le, ← Int32.toInt_inj, Int32.reduceToInt] at *); omega) | ((try simp only [g_m1, Int32.lt_iff_toInt_lt, Int32.le_iff_toInt_le, ← Int32.toInt_inj, Int32.toInt_add, Int32.toInt_sub, Int32.toInt_mul, Int32.toInt_neg, Int32.reduceToInt, g_bm, g_bm'] at *); omega) | (have qr1 := g_rng x; have qr2 := g_rng y; have qr3 := g_rng z; have qr6 := g_rng r_64; (try simp only [g_m1, Int32.lt_iff_toInt_lt, Int32.le_iff_toInt_le, ← Int32.toInt_inj, Int32.toInt_add, Int32.toInt_sub, Int32.toInt_mul, Int32.toInt_neg, Int32.reduceToInt, g_bm, g_bm'] at *); omega) | (simp only [g_m1, Int32.lt_iff_toInt_lt, Int32.le_iff_toInt_le, ← Int32.toInt_inj, Int32.toInt_add, Int32.toInt_sub, Int32.toInt_mul, Int32.toInt_neg, Int32.reduceToInt, g_bm, g_bm'] at *; simp at *; omega) | (simp_all; done)
set_option maxRecDepth 100000 in
theorem g_X11_bonusesOf_v17 (u : qS) (x : Int32) (y : Int32) (z : Int32) (r_64 : Int32) (hz8 : 0 ≤ u.1 8 ∧ u.1 8 ≤ 20) (hz9 : 0 ≤ u.1 9 ∧ u.1 9 ≤ 8) (hz10 : 0 ≤ u.1 10 ∧ u.1 10 ≤ 120) (hz12 : 0 ≤ u.1 12 ∧ u.1 12 ≤ 16) (hw_63 : 0 ≤ r_64 ∧ r_64 ≤ (u.1 10 : Int32)) : r_64 ≤ u.1 10 := by
  first | omega | ((try simp only [g_m1, Int32.lt_iff_toInt_lt, Int32.le_iff_toInt_le, ← Int32.toInt_inj, Int32.reduceToInt] at *); omega) | ((try simp only [g_m1, Int32.lt_iff_toInt_lt, Int32.le_iff_toInt_le, ← Int32.toInt_inj, Int32.reduceToInt] at *); omega) | ((try simp only [g_m1, Int32.lt_iff_toInt_lt, Int32.le_iff_toInt_le, ← Int32.toInt_inj, Int32.toInt_add, Int32.toInt_sub, Int32.toInt_mul, Int32.toInt_neg, Int32.reduceToInt, g_bm, g_bm'] at *); omega) | (have qr1 := g_rng x; have qr2 := g_rng y; have qr3 := g_rng z; have qr6 := g_rng r_64; (try simp only [g_m1, Int32.lt_iff_toInt_lt, Int32.le_iff_toInt_le, ← Int32.toInt_inj, Int32.toInt_add, Int32.toInt_sub, Int32.toInt_mul, Int32.toInt_neg, Int32.reduceToInt, g_bm, g_bm'] at *); omega) | (simp only [g_m1, Int32.lt_iff_toInt_lt, Int32.le_iff_toInt_le, ← Int32.toInt_inj, Int32.toInt_add, Int32.toInt_sub, Int32.toInt_mul, Int32.toInt_neg, Int32.reduceToInt, g_bm, g_bm'] at *; simp at *; omega) | (simp_all; done)
set_option maxHeartbeats 1000000 in
set_option maxRecDepth 100000 in
theorem g_X11_bonusesOf (l : Launch) (E : qE) (A : Nat → Prop) (u : qS) (x : Int32) (y : Int32) (z : Int32) (hI : IC E u) : Met l yX11_bonusesOf (uws yX11_bonusesOf cX11_bonusesOf 8 (some .int)) (qR 7 0 0) (qPc E A 0 u [.ref (E.2.2 1199), .int x, .int y, .int z]) (qQi E A 0 (fun r u1 => (qFc [900, 901, 902, 908, 909, 604, 605, 606, 607, 608, 609] [905, 906, 907, 601, 602, 603] [] [904] u u1 ∧ IC E u1) ∧ (True))) 0 0 A := by
  refine q_met (own := RX11) (f := 7) [.ref (E.2.2 1199), .int x, .int y, .int z] (by decide) (Nat.le_of_ble_eq_true rfl) rfl ?_
  intro p0 e0 s0 m0 bl0 me0 cd0 ls hF hr hlocks hU hS hA hl
  have hl : lv_has ls 8 [(0, .ref (E.2.2 1199)), (1, .int x), (2, .int y), (3, .int z)] := hl
  have hz8 : 0 ≤ u.1 8 ∧ u.1 8 ≤ 20 := hI.1.s8
  have hz9 : 0 ≤ u.1 9 ∧ u.1 9 ≤ 8 := hI.1.s9
  have hz10 : 0 ≤ u.1 10 ∧ u.1 10 ≤ 120 := hI.1.s10
  have hz12 : 0 ≤ u.1 12 ∧ u.1 12 ≤ 16 := hI.1.s12
  have hfr : qFc [900, 901, 902, 908, 909, 604, 605, 606, 607, 608, 609] [905, 906, 907, 601, 602, 603] [] [904] u u := qFc.rf
  have main : ∀ n : Nat, (∀ (x4 : Int32) (x5 : Int32) (x6 : Int32) (uc : qS) (H : Heap) (locs : List Loc) (ls : Array Slot) (hfr : qFc [900, 901, 902, 908, 909, 604, 605, 606, 607, 608, 609] [905, 906, 907, 601, 602, 603] [] [904] u uc) (hI : IC E uc) (h_k : 0 ≤ x6) (h_j : x4 ≤ u.1 10), (x4.toInt - x6.toInt).toNat < n → qH E A 0 uc s0 H → va_S A s0.heap H locs → lv_has ls 8 [(0, .ref (E.2.2 1199)), (1, .int x), (2, .int y), (3, .int z), (4, .int x4), (5, .int x5), (6, .int x6)] → W p0 l e0 (qR 7 0 0) s0 m0 ([.ref (E.2.2 1199), .int x, .int y, .int z] : List Value).toArray bl0 me0 cd0 H locs 0 0 (MQ bl0 (qQi E A 0 (fun r u1 => (qFc [900, 901, 902, 908, 909, 604, 605, 606, 607, 608, 609] [905, 906, 907, 601, 602, 603] [] [904] u u1 ∧ IC E u1) ∧ (True))) ([.ref (E.2.2 1199), .int x, .int y, .int z] : List Value).toArray s0 0 0 A) (F0 m0 29 ls [])) := by
    clear hI hfr
    intro n
    induction n with
    | zero => exact fun _ _ _ _ _ _ _ _ _ _ _ hmu => absurd hmu (Nat.not_lt_zero _)
    | succ n ih =>
      intro x4 x5 x6 uc H locs ls hfr hI h_k h_j hmu hU hS hl
      refine lv_iload hF.1 hF.2.1 dX11_bonusesOf_29 (lv_at hl 6 rfl) ?_
      refine lv_iload hF.1 hF.2.1 dX11_bonusesOf_31 (lv_at hl 4 rfl) ?_
      refine lv_icmp_ge (tgt := 105) hF.1 hF.2.1 dX11_bonusesOf_33 (by decide) (fun c33_1 => ?_) (fun c33_1 => ?_)
      · refine lv_iload hF.1 hF.2.1 dX11_bonusesOf_105 (lv_at hl 5 rfl) ?_
        exact q_iret hF hr rfl hlocks hU hS dX11_bonusesOf_107 ⟨⟨hfr, hI⟩, trivial⟩
      · refine lv_aload_n hF.1 hF.2.1 dX11_bonusesOf_36 rfl (lv_at hl 0 rfl) ?_
        refine q_get (v := .ref (E.2.2 99)) hF hU dX11_bonusesOf_37 0 11 0 1100 1199 rfl rfl rfl rfl inX11 (by decide) (by decide) w_436 rfl rfl ?_
        refine q_get (v := .ref (E.2.2 2)) hF hU dX11_bonusesOf_40 1 0 2 2 99 rfl rfl rfl rfl inX0 (by decide) (by decide) w_150 rfl rfl ?_
        refine lv_iload hF.1 hF.2.1 dX11_bonusesOf_43 (lv_at hl 6 rfl) ?_
        obtain ⟨a_2, ha_2_3_e, ha_2_3⟩ := hI.r2 x6 (by rw [(hfr.1 10 (by decide))]; exact (g_X11_bonusesOf_v0 u x y z x4 x5 x6 hz8 hz9 hz10 hz12 h_k h_j c33_1))
        refine q_aald (v := .ref a_2) hF hU dX11_bonusesOf_45 2 2 6 rfl rfl (by decide) rfl (g_X11_bonusesOf_v1 u x4 x6 hz8 hz9 hz10 hz12 h_k h_j c33_1) (by rw [ha_2_3_e]; rfl) ?_
        refine lv_astore (lv' := [(7, .ref a_2), (0, .ref (E.2.2 1199)), (1, .int x), (2, .int y), (3, .int z), (4, .int x4), (5, .int x5), (6, .int x6)]) hF.1 hF.2.1 dX11_bonusesOf_46 hl (by decide) rfl (fun ls hl => ?_)
        refine lv_aload hF.1 hF.2.1 dX11_bonusesOf_48 (lv_at hl 0 rfl) ?_
        have hM9 := g_X10_counts l E A uc a_2 hI ((ha_2_3).rf)
        obtain ⟨k_4, fs_5, hd_6⟩ := id ((ha_2_3).rf)
        have hR9 := q_runVd (l := l) (e := e0) (below := bl0) (meth := me0) (R := qR 7 0 0) (cells := 0) (slots := 0) (st0 := [.ref a_2]) (rest := []) hF hU hS hA 0 k_4 10 hd_6 rfl hM9 w_1176 w_908 w_909 w_110 w_910 (by decide +kernel) ⟨Nat.le_of_ble_eq_true rfl, Nat.le_of_ble_eq_true rfl⟩ dX11_bonusesOf_50 rfl hl.1 rfl (Nat.le_of_ble_eq_true rfl) ⟨Nat.le_of_ble_eq_true rfl, Nat.le_of_ble_eq_true rfl⟩
        refine q_calli hR9 hU.2.2.2 hS (fun r_9 u_7 H locs hw_8 hU hS => ?_)
        obtain ⟨hw_8_e, hw_8⟩ := hw_8
        rw [hw_8_e] at hU
        rcases hw_8 with rfl | rfl
        · refine lv_if_eq (tgt := 99) hF.1 hF.2.1 dX11_bonusesOf_53 (by decide) (fun h9 => absurd h9 (by decide)) (fun _ => ?_)
          refine lv_aload hF.1 hF.2.1 dX11_bonusesOf_56 (lv_at hl 0 rfl) ?_
          obtain ⟨k_11, fs_12, hd_14, hv_15, hv_15_2, hv_15_3, -⟩ := hI.vf ((ha_2_3).rf) 4 (by decide)
          refine q_getd (v := .int (qfd uc.2.2.2.2 a_2 4)) hF hU dX11_bonusesOf_58 k_11 10 4 hd_14 rfl inX10 (by decide) w_604 rfl hv_15 ?_
          refine lv_iload_n hF.1 hF.2.1 dX11_bonusesOf_61 rfl (lv_at hl 3 rfl) ?_
          refine lv_iload_n hF.1 hF.2.1 dX11_bonusesOf_62 rfl (lv_at hl 4 rfl) ?_
          have hM9 := g_X11_isWithin l E A uc (qfd uc.2.2.2.2 a_2 4) y z
          have hR9 := q_runS (l := l) (e := e0) (below := bl0) (meth := me0) (R := qR 7 0 0) (cells := 0) (slots := 0) (st0 := [.int z, .int y, .int (qfd uc.2.2.2.2 a_2 4)]) (rest := []) hF hU hS hA 3 hM9 w_468 w_469 w_99 w_470 (by decide +kernel) ⟨Nat.le_of_ble_eq_true rfl, Nat.le_of_ble_eq_true rfl⟩ dX11_bonusesOf_63 rfl hl.1 rfl (Nat.le_of_ble_eq_true rfl) ⟨Nat.le_of_ble_eq_true rfl, Nat.le_of_ble_eq_true rfl⟩
          refine q_calli hR9 hU.2.2.2 hS (fun r_18 u_16 H locs hw_17 hU hS => ?_)
          obtain ⟨hw_17_e, hw_17⟩ := hw_17
          rw [hw_17_e] at hU
          have hw_17 : (r_18 = 1 ∧ (y ≤ (qfd uc.2.2.2.2 a_2 4) ∧ (qfd uc.2.2.2.2 a_2 4) ≤ z)) ∨ (r_18 = 0 ∧ (¬ (y ≤ (qfd uc.2.2.2.2 a_2 4) ∧ (qfd uc.2.2.2.2 a_2 4) ≤ z))) := hw_17
          rcases hw_17 with ⟨rfl, b63_19⟩ | ⟨rfl, b63_19⟩
          · refine lv_if_eq (tgt := 99) hF.1 hF.2.1 dX11_bonusesOf_66 (by decide) (fun h9 => absurd h9 (by decide)) (fun _ => ?_)
            refine lv_aload_n hF.1 hF.2.1 dX11_bonusesOf_69 rfl (lv_at hl 1 rfl) ?_
            refine q_get (v := .ref (E.2.2 99)) hF hU dX11_bonusesOf_70 0 11 0 1100 1199 rfl rfl rfl rfl inX11 (by decide) (by decide) w_436 rfl rfl ?_
            refine q_get (v := .ref (E.2.2 0)) hF hU dX11_bonusesOf_73 1 0 0 0 99 rfl rfl rfl rfl inX0 (by decide) (by decide) w_143 rfl rfl ?_
            refine lv_aload hF.1 hF.2.1 dX11_bonusesOf_76 (lv_at hl 0 rfl) ?_
            obtain ⟨k_20, fs_21, hd_23, hv_24, hv_24_2, hv_24_3, -⟩ := hI.vf ((ha_2_3).rf) 2 (by decide)
            refine q_getd (v := .int (qfd uc.2.2.2.2 a_2 2)) hF hU dX11_bonusesOf_78 k_20 10 2 hd_23 rfl inX10 (by decide) w_593 rfl hv_24 ?_
            have hb_25 : 0 ≤ qfd uc.2.2.2.2 a_2 2 ∧ qfd uc.2.2.2.2 a_2 2 < (u.1 8) := (by have h9 := hv_24_2 rfl; rw [(hfr.1 8 (by decide))] at h9; exact h9)
            obtain ⟨a_26, ha_26_27_e, ha_26_27⟩ := hI.r0 (qfd uc.2.2.2.2 a_2 2) (by rw [(hfr.1 8 (by decide))]; exact (g_X11_bonusesOf_v2 u x y z x4 x5 x6 uc a_2 hz8 hz9 hz10 hz12 h_k h_j c33_1 b63_19 hb_25))
            refine q_aald (v := .ref a_26) hF hU dX11_bonusesOf_81 0 0 4 rfl rfl (by decide) rfl (g_X11_bonusesOf_v3 u y z x4 x6 uc a_2 hz8 hz9 hz10 hz12 h_k h_j c33_1 b63_19 hb_25) (by rw [ha_26_27_e]; rfl) ?_
            obtain ⟨k_28, fs_29, x_30, hd_31, hv_32⟩ := hI.sn ha_26_27 1 (by decide)
            refine q_getd (v := .int x_30) hF hU dX11_bonusesOf_82 k_28 7 1 hd_31 rfl inX7 (by decide) w_525 rfl hv_32 ?_
            refine lv_iload_n hF.1 hF.2.1 dX11_bonusesOf_85 rfl (lv_at hl 2 rfl) ?_
            refine lv_icmp_ne (tgt := 99) hF.1 hF.2.1 dX11_bonusesOf_86 (by decide) (fun c86_33 => ?_) (fun c86_33 => ?_)
            · refine lv_iinc (v := x6 + 1) (lv' := [(6, .int (x6 + 1)), (7, .ref a_2), (0, .ref (E.2.2 1199)), (1, .int x), (2, .int y), (3, .int z), (4, .int x4), (5, .int x5)]) hF.1 hF.2.1 dX11_bonusesOf_99 hl (k := 7) rfl rfl (by decide) rfl (fun ls hl => ?_)
              refine lv_goto (tgt := 29) hF.1 hF.2.1 dX11_bonusesOf_102 (by decide) ?_
              exact ih x4 x5 (x6 + 1) uc _ _ _ hfr hI  (g_X11_bonusesOf_v4 u x y z x4 x5 x6 uc a_2 x_30 hz8 hz9 hz10 hz12 h_k h_j c33_1 b63_19 hb_25 c86_33) (g_X11_bonusesOf_v5 u x y z x4 x5 x6 uc a_2 x_30 hz8 hz9 hz10 hz12 h_k h_j c33_1 b63_19 hb_25 c86_33) (Nat.lt_of_lt_of_le (g_X11_bonusesOf_v6 u x y z x4 x5 x6 uc a_2 x_30 hz8 hz9 hz10 hz12 h_k h_j c33_1 b63_19 hb_25 c86_33) (Nat.lt_succ_iff.mp hmu)) hU hS (lv_sub hl [2, 3, 4, 5, 6, 7, 0] rfl)
            · refine lv_iload hF.1 hF.2.1 dX11_bonusesOf_89 (lv_at hl 6 rfl) ?_
              refine lv_aload hF.1 hF.2.1 dX11_bonusesOf_91 (lv_at hl 0 rfl) ?_
              obtain ⟨k_34, fs_35, hd_37, hv_38, hv_38_2, hv_38_3, -⟩ := hI.vf ((ha_2_3).rf) 12 (by decide)
              refine q_getd (v := .int (qfd uc.2.2.2.2 a_2 12)) hF hU dX11_bonusesOf_93 k_34 10 12 hd_37 rfl inX10 (by decide) w_628 rfl hv_38 ?_
              refine lv_iadd hF.1 hF.2.1 dX11_bonusesOf_96 ?_
              refine lv_istore (lv' := [(5, .int (x5 + (qfd uc.2.2.2.2 a_2 12))), (7, .ref a_2), (0, .ref (E.2.2 1199)), (1, .int x), (2, .int y), (3, .int z), (4, .int x4), (6, .int x6)]) hF.1 hF.2.1 dX11_bonusesOf_97 hl (by decide) rfl (fun ls hl => ?_)
              refine lv_iinc (v := x6 + 1) (lv' := [(6, .int (x6 + 1)), (5, .int (x5 + (qfd uc.2.2.2.2 a_2 12))), (7, .ref a_2), (0, .ref (E.2.2 1199)), (1, .int x), (2, .int y), (3, .int z), (4, .int x4)]) hF.1 hF.2.1 dX11_bonusesOf_99 hl (k := 7) rfl rfl (by decide) rfl (fun ls hl => ?_)
              refine lv_goto (tgt := 29) hF.1 hF.2.1 dX11_bonusesOf_102 (by decide) ?_
              exact ih x4 (x5 + (qfd uc.2.2.2.2 a_2 12)) (x6 + 1) uc _ _ _ hfr hI  (g_X11_bonusesOf_v7 u x y z x4 x5 x6 uc a_2 x_30 hz8 hz9 hz10 hz12 h_k h_j c33_1 b63_19 hb_25 c86_33) (g_X11_bonusesOf_v8 u x y z x4 x5 x6 uc a_2 x_30 hz8 hz9 hz10 hz12 h_k h_j c33_1 b63_19 hb_25 c86_33) (Nat.lt_of_lt_of_le (g_X11_bonusesOf_v9 u x y z x4 x5 x6 uc a_2 x_30 hz8 hz9 hz10 hz12 h_k h_j c33_1 b63_19 hb_25 c86_33) (Nat.lt_succ_iff.mp hmu)) hU hS (lv_sub hl [3, 4, 5, 6, 7, 1, 0] rfl)
          · refine lv_if_eq (tgt := 99) hF.1 hF.2.1 dX11_bonusesOf_66 (by decide) (fun _ => ?_) (fun h9 => absurd (by decide) h9)
            refine lv_iinc (v := x6 + 1) (lv' := [(6, .int (x6 + 1)), (7, .ref a_2), (0, .ref (E.2.2 1199)), (1, .int x), (2, .int y), (3, .int z), (4, .int x4), (5, .int x5)]) hF.1 hF.2.1 dX11_bonusesOf_99 hl (k := 7) rfl rfl (by decide) rfl (fun ls hl => ?_)
            refine lv_goto (tgt := 29) hF.1 hF.2.1 dX11_bonusesOf_102 (by decide) ?_
            exact ih x4 x5 (x6 + 1) uc _ _ _ hfr hI  (g_X11_bonusesOf_v10 u x y z x4 x5 x6 uc a_2 hz8 hz9 hz10 hz12 h_k h_j c33_1 b63_19) (g_X11_bonusesOf_v11 u x y z x4 x5 x6 uc a_2 hz8 hz9 hz10 hz12 h_k h_j c33_1 b63_19) (Nat.lt_of_lt_of_le (g_X11_bonusesOf_v12 u x y z x4 x5 x6 uc a_2 hz8 hz9 hz10 hz12 h_k h_j c33_1 b63_19) (Nat.lt_succ_iff.mp hmu)) hU hS (lv_sub hl [2, 3, 4, 5, 6, 7, 0] rfl)
        · refine lv_if_eq (tgt := 99) hF.1 hF.2.1 dX11_bonusesOf_53 (by decide) (fun _ => ?_) (fun h9 => absurd (by decide) h9)
          refine lv_iinc (v := x6 + 1) (lv' := [(6, .int (x6 + 1)), (7, .ref a_2), (0, .ref (E.2.2 1199)), (1, .int x), (2, .int y), (3, .int z), (4, .int x4), (5, .int x5)]) hF.1 hF.2.1 dX11_bonusesOf_99 hl (k := 7) rfl rfl (by decide) rfl (fun ls hl => ?_)
          refine lv_goto (tgt := 29) hF.1 hF.2.1 dX11_bonusesOf_102 (by decide) ?_
          exact ih x4 x5 (x6 + 1) uc _ _ _ hfr hI  (g_X11_bonusesOf_v13 u x y z x4 x5 x6 hz8 hz9 hz10 hz12 h_k h_j c33_1) (g_X11_bonusesOf_v14 u x y z x4 x5 x6 hz8 hz9 hz10 hz12 h_k h_j c33_1) (Nat.lt_of_lt_of_le (g_X11_bonusesOf_v15 u x y z x4 x5 x6 hz8 hz9 hz10 hz12 h_k h_j c33_1) (Nat.lt_succ_iff.mp hmu)) hU hS (lv_sub hl [2, 3, 4, 5, 6, 7, 0] rfl)
  refine lv_aload_n hF.1 hF.2.1 dX11_bonusesOf_0 rfl (lv_at hl 0 rfl) ?_
  refine q_get (v := .ref (E.2.2 999)) hF hU dX11_bonusesOf_1 0 11 3 1103 1199 rfl rfl rfl rfl inX11 (by decide) (by decide) w_439 rfl rfl ?_
  have hM9 := g_X9_refresh l E A u  hI
  have hR9 := q_runV (l := l) (e := e0) (below := bl0) (meth := me0) (R := qR 7 0 0) (cells := 0) (slots := 0) (st0 := [.ref (E.2.2 999)]) (rest := []) hF hU hS hA 0 4 9 999 rfl rfl rfl hM9 w_843 w_844 w_845 w_103 w_846 (by decide +kernel) ⟨Nat.le_of_ble_eq_true rfl, Nat.le_of_ble_eq_true rfl⟩ dX11_bonusesOf_4 rfl hl.1 rfl (Nat.le_of_ble_eq_true rfl) ⟨Nat.le_of_ble_eq_true rfl, Nat.le_of_ble_eq_true rfl⟩
  refine q_callv hR9 hU.2.2.2 hS (fun u_39 H locs hw_40 hU hS => ?_)
  obtain ⟨⟨hw_40_f, hI⟩, hw_40⟩ := hw_40
  have hfo := hfr
  have hfr : qFc [900, 901, 902, 908, 909, 604, 605, 606, 607, 608, 609] [905, 906, 907, 601, 602, 603] [] [904] u u_39 := hfr.trans (hw_40_f.mono (by decide) (by decide) (by decide) (by decide))
  have e_42 : u_39.1 604 = (u.1 604) := (hw_40_f.1 604 (by decide)).trans rfl
  have e_43 : u_39.1 605 = (u.1 605) := (hw_40_f.1 605 (by decide)).trans rfl
  have e_44 : u_39.1 606 = (u.1 606) := (hw_40_f.1 606 (by decide)).trans rfl
  have e_45 : u_39.1 607 = (u.1 607) := (hw_40_f.1 607 (by decide)).trans rfl
  have e_46 : u_39.1 608 = (u.1 608) := (hw_40_f.1 608 (by decide)).trans rfl
  have e_47 : u_39.1 609 = (u.1 609) := (hw_40_f.1 609 (by decide)).trans rfl
  have e_48 : u_39.2.1 601 = (u.2.1 601) := (hw_40_f.2.1 601 (by decide)).trans rfl
  have e_49 : u_39.2.1 602 = (u.2.1 602) := (hw_40_f.2.1 602 (by decide)).trans rfl
  have e_50 : u_39.2.1 603 = (u.2.1 603) := (hw_40_f.2.1 603 (by decide)).trans rfl
  refine lv_aload_n hF.1 hF.2.1 dX11_bonusesOf_7 rfl (lv_at hl 0 rfl) ?_
  refine q_get (v := .ref (E.2.2 699)) hF hU dX11_bonusesOf_8 0 11 4 1104 1199 rfl rfl rfl rfl inX11 (by decide) (by decide) w_440 rfl rfl ?_
  have hM9 := g_X6_refresh l E A u_39  hI
  have hR9 := q_runV (l := l) (e := e0) (below := bl0) (meth := me0) (R := qR 7 0 0) (cells := 0) (slots := 0) (st0 := [.ref (E.2.2 699)]) (rest := []) hF hU hS hA 0 5 6 699 rfl rfl rfl hM9 w_1162 w_937 w_938 w_104 w_939 (by decide +kernel) ⟨Nat.le_of_ble_eq_true rfl, Nat.le_of_ble_eq_true rfl⟩ dX11_bonusesOf_11 rfl hl.1 rfl (Nat.le_of_ble_eq_true rfl) ⟨Nat.le_of_ble_eq_true rfl, Nat.le_of_ble_eq_true rfl⟩
  refine q_callv hR9 hU.2.2.2 hS (fun u_51 H locs hw_52 hU hS => ?_)
  obtain ⟨⟨hw_52_f, hI⟩, hw_52⟩ := hw_52
  have hfo := hfr
  have hfr : qFc [900, 901, 902, 908, 909, 604, 605, 606, 607, 608, 609] [905, 906, 907, 601, 602, 603] [] [904] u u_51 := hfr.trans (hw_52_f.mono (by decide) (by decide) (by decide) (by decide))
  have e_54 : u_51.1 900 = (u_39.1 900) := (hw_52_f.1 900 (by decide)).trans rfl
  have e_55 : u_51.1 901 = (u_39.1 901) := (hw_52_f.1 901 (by decide)).trans rfl
  have e_56 : u_51.1 902 = (u_39.1 902) := (hw_52_f.1 902 (by decide)).trans rfl
  have e_57 : u_51.1 908 = (u_39.1 908) := (hw_52_f.1 908 (by decide)).trans rfl
  have e_58 : u_51.1 909 = (u_39.1 909) := (hw_52_f.1 909 (by decide)).trans rfl
  have e_59 : u_51.2.1 905 = (u_39.2.1 905) := (hw_52_f.2.1 905 (by decide)).trans rfl
  have e_60 : u_51.2.1 906 = (u_39.2.1 906) := (hw_52_f.2.1 906 (by decide)).trans rfl
  have e_61 : u_51.2.1 907 = (u_39.2.1 907) := (hw_52_f.2.1 907 (by decide)).trans rfl
  refine lv_aload_n hF.1 hF.2.1 dX11_bonusesOf_14 rfl (lv_at hl 0 rfl) ?_
  refine q_get (v := .ref (E.2.2 99)) hF hU dX11_bonusesOf_15 0 11 0 1100 1199 rfl rfl rfl rfl inX11 (by decide) (by decide) w_436 rfl rfl ?_
  have hM9 := g_X0_knownVisits l E A u_51  hI
  have hR9 := q_runV (l := l) (e := e0) (below := bl0) (meth := me0) (R := qR 7 0 0) (cells := 0) (slots := 0) (st0 := [.ref (E.2.2 99)]) (rest := []) hF hU hS hA 0 1 0 99 rfl rfl rfl hM9 w_1175 w_903 w_904 w_100 w_905 (by decide +kernel) ⟨Nat.le_of_ble_eq_true rfl, Nat.le_of_ble_eq_true rfl⟩ dX11_bonusesOf_18 rfl hl.1 rfl (Nat.le_of_ble_eq_true rfl) ⟨Nat.le_of_ble_eq_true rfl, Nat.le_of_ble_eq_true rfl⟩
  refine q_calli hR9 hU.2.2.2 hS (fun r_64 u_62 H locs hw_63 hU hS => ?_)
  obtain ⟨hw_63_e, hw_63⟩ := hw_63
  rw [hw_63_e] at hU
  have hw_63 : 0 ≤ r_64 ∧ r_64 ≤ (u.1 10 : Int32) := by rw [(hfr.1 10 (by decide))] at hw_63; exact hw_63
  refine lv_istore (lv' := [(4, .int r_64), (0, .ref (E.2.2 1199)), (1, .int x), (2, .int y), (3, .int z)]) hF.1 hF.2.1 dX11_bonusesOf_21 hl (by decide) rfl (fun ls hl => ?_)
  refine lv_iconst (v := 0) hF.1 hF.2.1 dX11_bonusesOf_23 (by decide) ?_
  refine lv_istore (lv' := [(5, .int 0), (4, .int r_64), (0, .ref (E.2.2 1199)), (1, .int x), (2, .int y), (3, .int z)]) hF.1 hF.2.1 dX11_bonusesOf_24 hl (by decide) rfl (fun ls hl => ?_)
  refine lv_iconst (v := 0) hF.1 hF.2.1 dX11_bonusesOf_26 (by decide) ?_
  refine lv_istore (lv' := [(6, .int 0), (5, .int 0), (4, .int r_64), (0, .ref (E.2.2 1199)), (1, .int x), (2, .int y), (3, .int z)]) hF.1 hF.2.1 dX11_bonusesOf_27 hl (by decide) rfl (fun ls hl => ?_)
  exact (main _) r_64 (0 : Int32) (0 : Int32) u_51 _ _ _ hfr hI  (g_X11_bonusesOf_v16 u x y z r_64 hz8 hz9 hz10 hz12 hw_63) (g_X11_bonusesOf_v17 u x y z r_64 hz8 hz9 hz10 hz12 hw_63) (Nat.lt_succ_self _) hU hS (lv_sub hl [3, 4, 5, 6, 2, 1, 0] rfl)
set_option maxRecDepth 100000 in
theorem g_X11_feesOf_v0 (u : qS) (x : Int32) (y : Int32) (z : Int32) (x4 : Int32) (x5 : Int32) (x6 : Int32) (hx : 0 ≤ x ∧ x < u.1 9) (hz8 : 0 ≤ u.1 8 ∧ u.1 8 ≤ 20) (hz9 : 0 ≤ u.1 9 ∧ u.1 9 ≤ 8) (hz10 : 0 ≤ u.1 10 ∧ u.1 10 ≤ 120) (hz12 : 0 ≤ u.1 12 ∧ u.1 12 ≤ 16) (h_k : 0 ≤ x6) (h_j : x4 ≤ u.1 10) (c26_1 : ¬ x4 ≤ (x6 : Int32)) : 0 ≤ x6 ∧ x6 < (u.1 10) := by
  first | omega | ((try simp only [g_m1, Int32.lt_iff_toInt_lt, Int32.le_iff_toInt_le, ← Int32.toInt_inj, Int32.reduceToInt] at *); omega) | ((try simp only [g_m1, Int32.lt_iff_toInt_lt, Int32.le_iff_toInt_le, ← Int32.toInt_inj, Int32.reduceToInt] at *); omega) | ((try simp only [g_m1, Int32.lt_iff_toInt_lt, Int32.le_iff_toInt_le, ← Int32.toInt_inj, Int32.toInt_add, Int32.toInt_sub, Int32.toInt_mul, Int32.toInt_neg, Int32.reduceToInt, g_bm, g_bm'] at *); omega) | (have qr1 := g_rng x; have qr2 := g_rng y; have qr3 := g_rng z; have qr4 := g_rng x4; have qr5 := g_rng x5; have qr6 := g_rng x6; (try simp only [g_m1, Int32.lt_iff_toInt_lt, Int32.le_iff_toInt_le, ← Int32.toInt_inj, Int32.toInt_add, Int32.toInt_sub, Int32.toInt_mul, Int32.toInt_neg, Int32.reduceToInt, g_bm, g_bm'] at *); omega) | (simp only [g_m1, Int32.lt_iff_toInt_lt, Int32.le_iff_toInt_le, ← Int32.toInt_inj, Int32.toInt_add, Int32.toInt_sub, Int32.toInt_mul, Int32.toInt_neg, Int32.reduceToInt, g_bm, g_bm'] at *; simp at *; omega) | (simp_all; done)
set_option maxRecDepth 100000 in
theorem g_X11_feesOf_v1 (u : qS) (x : Int32) (x4 : Int32) (x6 : Int32) (hx : 0 ≤ x ∧ x < u.1 9) (hz8 : 0 ≤ u.1 8 ∧ u.1 8 ≤ 20) (hz9 : 0 ≤ u.1 9 ∧ u.1 9 ≤ 8) (hz10 : 0 ≤ u.1 10 ∧ u.1 10 ≤ 120) (hz12 : 0 ≤ u.1 12 ∧ u.1 12 ≤ 16) (h_k : 0 ≤ x6) (h_j : x4 ≤ u.1 10) (c26_1 : ¬ x4 ≤ (x6 : Int32)) : vp_in (x6) 120 := by
  refine g_in ?_ ?_ <;> ((try simp only [g_m1, Int32.lt_iff_toInt_lt, Int32.le_iff_toInt_le, ← Int32.toInt_inj, Int32.toInt_add, Int32.toInt_sub, Int32.toInt_mul, Int32.toInt_neg, Int32.reduceToInt, g_bm, g_bm'] at *); omega)
set_option maxRecDepth 100000 in
theorem g_X11_feesOf_v2 (u : qS) (x : Int32) (y : Int32) (z : Int32) (x4 : Int32) (x5 : Int32) (x6 : Int32) (uc : qS) (a_2 : Nat) (hx : 0 ≤ x ∧ x < u.1 9) (hz8 : 0 ≤ u.1 8 ∧ u.1 8 ≤ 20) (hz9 : 0 ≤ u.1 9 ∧ u.1 9 ≤ 8) (hz10 : 0 ≤ u.1 10 ∧ u.1 10 ≤ 120) (hz12 : 0 ≤ u.1 12 ∧ u.1 12 ≤ 16) (h_k : 0 ≤ x6) (h_j : x4 ≤ u.1 10) (c26_1 : ¬ x4 ≤ (x6 : Int32)) (b56_19 : y ≤ (qfd uc.2.2.2.2 a_2 4) ∧ (qfd uc.2.2.2.2 a_2 4) ≤ z) (hb_25 : 0 ≤ qfd uc.2.2.2.2 a_2 3 ∧ qfd uc.2.2.2.2 a_2 3 < (u.1 9)) (c68_26 : ¬ (qfd uc.2.2.2.2 a_2 3 : Int32) = x) : 0 ≤ (x6 + 1) := by
  first | omega | ((try simp only [g_m1, Int32.lt_iff_toInt_lt, Int32.le_iff_toInt_le, ← Int32.toInt_inj, Int32.reduceToInt] at *); omega) | ((try have ez0 : (x6 + 1 : Int32).toInt = (x6 : Int32).toInt + (1 : Int32).toInt := g_add (by (try simp only [g_m1, Int32.lt_iff_toInt_lt, Int32.le_iff_toInt_le, ← Int32.toInt_inj, Int32.reduceToInt] at *); omega) (by (try simp only [g_m1, Int32.lt_iff_toInt_lt, Int32.le_iff_toInt_le, ← Int32.toInt_inj, Int32.reduceToInt] at *); omega)); (try simp only [g_m1, Int32.lt_iff_toInt_lt, Int32.le_iff_toInt_le, ← Int32.toInt_inj, Int32.reduceToInt] at *); omega) | ((try simp only [g_m1, Int32.lt_iff_toInt_lt, Int32.le_iff_toInt_le, ← Int32.toInt_inj, Int32.toInt_add, Int32.toInt_sub, Int32.toInt_mul, Int32.toInt_neg, Int32.reduceToInt, g_bm, g_bm'] at *); omega) | (have qr1 := g_rng x; have qr2 := g_rng y; have qr3 := g_rng z; have qr4 := g_rng x4; have qr5 := g_rng x5; have qr6 := g_rng x6; (try simp only [g_m1, Int32.lt_iff_toInt_lt, Int32.le_iff_toInt_le, ← Int32.toInt_inj, Int32.toInt_add, Int32.toInt_sub, Int32.toInt_mul, Int32.toInt_neg, Int32.reduceToInt, g_bm, g_bm'] at *); omega) | (simp only [g_m1, Int32.lt_iff_toInt_lt, Int32.le_iff_toInt_le, ← Int32.toInt_inj, Int32.toInt_add, Int32.toInt_sub, Int32.toInt_mul, Int32.toInt_neg, Int32.reduceToInt, g_bm, g_bm'] at *; simp at *; omega) | (simp_all; done)
set_option maxRecDepth 100000 in
theorem g_X11_feesOf_v3 (u : qS) (x : Int32) (y : Int32) (z : Int32) (x4 : Int32) (x5 : Int32) (x6 : Int32) (uc : qS) (a_2 : Nat) (hx : 0 ≤ x ∧ x < u.1 9) (hz8 : 0 ≤ u.1 8 ∧ u.1 8 ≤ 20) (hz9 : 0 ≤ u.1 9 ∧ u.1 9 ≤ 8) (hz10 : 0 ≤ u.1 10 ∧ u.1 10 ≤ 120) (hz12 : 0 ≤ u.1 12 ∧ u.1 12 ≤ 16) (h_k : 0 ≤ x6) (h_j : x4 ≤ u.1 10) (c26_1 : ¬ x4 ≤ (x6 : Int32)) (b56_19 : y ≤ (qfd uc.2.2.2.2 a_2 4) ∧ (qfd uc.2.2.2.2 a_2 4) ≤ z) (hb_25 : 0 ≤ qfd uc.2.2.2.2 a_2 3 ∧ qfd uc.2.2.2.2 a_2 3 < (u.1 9)) (c68_26 : ¬ (qfd uc.2.2.2.2 a_2 3 : Int32) = x) : x4 ≤ u.1 10 := by
  first | omega | ((try simp only [g_m1, Int32.lt_iff_toInt_lt, Int32.le_iff_toInt_le, ← Int32.toInt_inj, Int32.reduceToInt] at *); omega) | ((try simp only [g_m1, Int32.lt_iff_toInt_lt, Int32.le_iff_toInt_le, ← Int32.toInt_inj, Int32.reduceToInt] at *); omega) | ((try simp only [g_m1, Int32.lt_iff_toInt_lt, Int32.le_iff_toInt_le, ← Int32.toInt_inj, Int32.toInt_add, Int32.toInt_sub, Int32.toInt_mul, Int32.toInt_neg, Int32.reduceToInt, g_bm, g_bm'] at *); omega) | (have qr1 := g_rng x; have qr2 := g_rng y; have qr3 := g_rng z; have qr4 := g_rng x4; have qr5 := g_rng x5; have qr6 := g_rng x6; (try simp only [g_m1, Int32.lt_iff_toInt_lt, Int32.le_iff_toInt_le, ← Int32.toInt_inj, Int32.toInt_add, Int32.toInt_sub, Int32.toInt_mul, Int32.toInt_neg, Int32.reduceToInt, g_bm, g_bm'] at *); omega) | (simp only [g_m1, Int32.lt_iff_toInt_lt, Int32.le_iff_toInt_le, ← Int32.toInt_inj, Int32.toInt_add, Int32.toInt_sub, Int32.toInt_mul, Int32.toInt_neg, Int32.reduceToInt, g_bm, g_bm'] at *; simp at *; omega) | (simp_all; done)
set_option maxRecDepth 100000 in
theorem g_X11_feesOf_v4 (u : qS) (x : Int32) (y : Int32) (z : Int32) (x4 : Int32) (x5 : Int32) (x6 : Int32) (uc : qS) (a_2 : Nat) (hx : 0 ≤ x ∧ x < u.1 9) (hz8 : 0 ≤ u.1 8 ∧ u.1 8 ≤ 20) (hz9 : 0 ≤ u.1 9 ∧ u.1 9 ≤ 8) (hz10 : 0 ≤ u.1 10 ∧ u.1 10 ≤ 120) (hz12 : 0 ≤ u.1 12 ∧ u.1 12 ≤ 16) (h_k : 0 ≤ x6) (h_j : x4 ≤ u.1 10) (c26_1 : ¬ x4 ≤ (x6 : Int32)) (b56_19 : y ≤ (qfd uc.2.2.2.2 a_2 4) ∧ (qfd uc.2.2.2.2 a_2 4) ≤ z) (hb_25 : 0 ≤ qfd uc.2.2.2.2 a_2 3 ∧ qfd uc.2.2.2.2 a_2 3 < (u.1 9)) (c68_26 : ¬ (qfd uc.2.2.2.2 a_2 3 : Int32) = x) : (x4.toInt - (x6 + 1).toInt).toNat < (x4.toInt - x6.toInt).toNat := by
  first | omega | ((try simp only [g_m1, Int32.lt_iff_toInt_lt, Int32.le_iff_toInt_le, ← Int32.toInt_inj, Int32.reduceToInt] at *); omega) | ((try have ez0 : (x6 + 1 : Int32).toInt = (x6 : Int32).toInt + (1 : Int32).toInt := g_add (by (try simp only [g_m1, Int32.lt_iff_toInt_lt, Int32.le_iff_toInt_le, ← Int32.toInt_inj, Int32.reduceToInt] at *); omega) (by (try simp only [g_m1, Int32.lt_iff_toInt_lt, Int32.le_iff_toInt_le, ← Int32.toInt_inj, Int32.reduceToInt] at *); omega)); (try simp only [g_m1, Int32.lt_iff_toInt_lt, Int32.le_iff_toInt_le, ← Int32.toInt_inj, Int32.reduceToInt] at *); omega) | ((try simp only [g_m1, Int32.lt_iff_toInt_lt, Int32.le_iff_toInt_le, ← Int32.toInt_inj, Int32.toInt_add, Int32.toInt_sub, Int32.toInt_mul, Int32.toInt_neg, Int32.reduceToInt, g_bm, g_bm'] at *); omega) | (have qr1 := g_rng x; have qr2 := g_rng y; have qr3 := g_rng z; have qr4 := g_rng x4; have qr5 := g_rng x5; have qr6 := g_rng x6; (try simp only [g_m1, Int32.lt_iff_toInt_lt, Int32.le_iff_toInt_le, ← Int32.toInt_inj, Int32.toInt_add, Int32.toInt_sub, Int32.toInt_mul, Int32.toInt_neg, Int32.reduceToInt, g_bm, g_bm'] at *); omega) | (simp only [g_m1, Int32.lt_iff_toInt_lt, Int32.le_iff_toInt_le, ← Int32.toInt_inj, Int32.toInt_add, Int32.toInt_sub, Int32.toInt_mul, Int32.toInt_neg, Int32.reduceToInt, g_bm, g_bm'] at *; simp at *; omega) | (simp_all; done)
set_option maxRecDepth 100000 in
theorem g_X11_feesOf_v5 (u : qS) (x : Int32) (y : Int32) (z : Int32) (x4 : Int32) (x5 : Int32) (x6 : Int32) (uc : qS) (a_2 : Nat) (hx : 0 ≤ x ∧ x < u.1 9) (hz8 : 0 ≤ u.1 8 ∧ u.1 8 ≤ 20) (hz9 : 0 ≤ u.1 9 ∧ u.1 9 ≤ 8) (hz10 : 0 ≤ u.1 10 ∧ u.1 10 ≤ 120) (hz12 : 0 ≤ u.1 12 ∧ u.1 12 ≤ 16) (h_k : 0 ≤ x6) (h_j : x4 ≤ u.1 10) (c26_1 : ¬ x4 ≤ (x6 : Int32)) (b56_19 : y ≤ (qfd uc.2.2.2.2 a_2 4) ∧ (qfd uc.2.2.2.2 a_2 4) ≤ z) (hb_25 : 0 ≤ qfd uc.2.2.2.2 a_2 3 ∧ qfd uc.2.2.2.2 a_2 3 < (u.1 9)) (c68_26 : (qfd uc.2.2.2.2 a_2 3 : Int32) = x) (hb_32 : 0 ≤ qfd uc.2.2.2.2 a_2 2 ∧ qfd uc.2.2.2.2 a_2 2 < (u.1 8)) : 0 ≤ x ∧ x < (u.1 9 : Int32) := by
  first | omega | ((try simp only [g_m1, Int32.lt_iff_toInt_lt, Int32.le_iff_toInt_le, ← Int32.toInt_inj, Int32.reduceToInt] at *); omega) | ((try simp only [g_m1, Int32.lt_iff_toInt_lt, Int32.le_iff_toInt_le, ← Int32.toInt_inj, Int32.reduceToInt] at *); omega) | ((try simp only [g_m1, Int32.lt_iff_toInt_lt, Int32.le_iff_toInt_le, ← Int32.toInt_inj, Int32.toInt_add, Int32.toInt_sub, Int32.toInt_mul, Int32.toInt_neg, Int32.reduceToInt, g_bm, g_bm'] at *); omega) | (have qr1 := g_rng x; have qr2 := g_rng y; have qr3 := g_rng z; have qr4 := g_rng x4; have qr5 := g_rng x5; have qr6 := g_rng x6; (try simp only [g_m1, Int32.lt_iff_toInt_lt, Int32.le_iff_toInt_le, ← Int32.toInt_inj, Int32.toInt_add, Int32.toInt_sub, Int32.toInt_mul, Int32.toInt_neg, Int32.reduceToInt, g_bm, g_bm'] at *); omega) | (simp only [g_m1, Int32.lt_iff_toInt_lt, Int32.le_iff_toInt_le, ← Int32.toInt_inj, Int32.toInt_add, Int32.toInt_sub, Int32.toInt_mul, Int32.toInt_neg, Int32.reduceToInt, g_bm, g_bm'] at *; simp at *; omega) | (simp_all; done)
set_option maxRecDepth 100000 in
theorem g_X11_feesOf_v6 (u : qS) (x : Int32) (y : Int32) (z : Int32) (x4 : Int32) (x5 : Int32) (x6 : Int32) (uc : qS) (a_2 : Nat) (hx : 0 ≤ x ∧ x < u.1 9) (hz8 : 0 ≤ u.1 8 ∧ u.1 8 ≤ 20) (hz9 : 0 ≤ u.1 9 ∧ u.1 9 ≤ 8) (hz10 : 0 ≤ u.1 10 ∧ u.1 10 ≤ 120) (hz12 : 0 ≤ u.1 12 ∧ u.1 12 ≤ 16) (h_k : 0 ≤ x6) (h_j : x4 ≤ u.1 10) (c26_1 : ¬ x4 ≤ (x6 : Int32)) (b56_19 : y ≤ (qfd uc.2.2.2.2 a_2 4) ∧ (qfd uc.2.2.2.2 a_2 4) ≤ z) (hb_25 : 0 ≤ qfd uc.2.2.2.2 a_2 3 ∧ qfd uc.2.2.2.2 a_2 3 < (u.1 9)) (c68_26 : (qfd uc.2.2.2.2 a_2 3 : Int32) = x) (hb_32 : 0 ≤ qfd uc.2.2.2.2 a_2 2 ∧ qfd uc.2.2.2.2 a_2 2 < (u.1 8)) : 0 ≤ (qfd uc.2.2.2.2 a_2 2) ∧ (qfd uc.2.2.2.2 a_2 2) < (u.1 8 : Int32) := by
  first | omega | ((try simp only [g_m1, Int32.lt_iff_toInt_lt, Int32.le_iff_toInt_le, ← Int32.toInt_inj, Int32.reduceToInt] at *); omega) | ((try simp only [g_m1, Int32.lt_iff_toInt_lt, Int32.le_iff_toInt_le, ← Int32.toInt_inj, Int32.reduceToInt] at *); omega) | ((try simp only [g_m1, Int32.lt_iff_toInt_lt, Int32.le_iff_toInt_le, ← Int32.toInt_inj, Int32.toInt_add, Int32.toInt_sub, Int32.toInt_mul, Int32.toInt_neg, Int32.reduceToInt, g_bm, g_bm'] at *); omega) | (have qr1 := g_rng x; have qr2 := g_rng y; have qr3 := g_rng z; have qr4 := g_rng x4; have qr5 := g_rng x5; have qr6 := g_rng x6; (try simp only [g_m1, Int32.lt_iff_toInt_lt, Int32.le_iff_toInt_le, ← Int32.toInt_inj, Int32.toInt_add, Int32.toInt_sub, Int32.toInt_mul, Int32.toInt_neg, Int32.reduceToInt, g_bm, g_bm'] at *); omega) | (simp only [g_m1, Int32.lt_iff_toInt_lt, Int32.le_iff_toInt_le, ← Int32.toInt_inj, Int32.toInt_add, Int32.toInt_sub, Int32.toInt_mul, Int32.toInt_neg, Int32.reduceToInt, g_bm, g_bm'] at *; simp at *; omega) | (simp_all; done)
set_option maxRecDepth 100000 in
theorem g_X11_feesOf_v7 (u : qS) (x : Int32) (y : Int32) (z : Int32) (x4 : Int32) (x5 : Int32) (x6 : Int32) (uc : qS) (a_2 : Nat) (r_35 : Int32) (hx : 0 ≤ x ∧ x < u.1 9) (hz8 : 0 ≤ u.1 8 ∧ u.1 8 ≤ 20) (hz9 : 0 ≤ u.1 9 ∧ u.1 9 ≤ 8) (hz10 : 0 ≤ u.1 10 ∧ u.1 10 ≤ 120) (hz12 : 0 ≤ u.1 12 ∧ u.1 12 ≤ 16) (h_k : 0 ≤ x6) (h_j : x4 ≤ u.1 10) (c26_1 : ¬ x4 ≤ (x6 : Int32)) (b56_19 : y ≤ (qfd uc.2.2.2.2 a_2 4) ∧ (qfd uc.2.2.2.2 a_2 4) ≤ z) (hb_25 : 0 ≤ qfd uc.2.2.2.2 a_2 3 ∧ qfd uc.2.2.2.2 a_2 3 < (u.1 9)) (c68_26 : (qfd uc.2.2.2.2 a_2 3 : Int32) = x) (hb_32 : 0 ≤ qfd uc.2.2.2.2 a_2 2 ∧ qfd uc.2.2.2.2 a_2 2 < (u.1 8)) (hw_34 : r_35 = c_wh uc x (qfd uc.2.2.2.2 a_2 2)) : 0 ≤ (x6 + 1) := by
  first | omega | ((try simp only [g_m1, Int32.lt_iff_toInt_lt, Int32.le_iff_toInt_le, ← Int32.toInt_inj, Int32.reduceToInt] at *); omega) | ((try have ez4 : (x6 + 1 : Int32).toInt = (x6 : Int32).toInt + (1 : Int32).toInt := g_add (by (try simp only [g_m1, Int32.lt_iff_toInt_lt, Int32.le_iff_toInt_le, ← Int32.toInt_inj, Int32.reduceToInt] at *); omega) (by (try simp only [g_m1, Int32.lt_iff_toInt_lt, Int32.le_iff_toInt_le, ← Int32.toInt_inj, Int32.reduceToInt] at *); omega)); (try simp only [g_m1, Int32.lt_iff_toInt_lt, Int32.le_iff_toInt_le, ← Int32.toInt_inj, Int32.reduceToInt] at *); omega) | ((try simp only [g_m1, Int32.lt_iff_toInt_lt, Int32.le_iff_toInt_le, ← Int32.toInt_inj, Int32.toInt_add, Int32.toInt_sub, Int32.toInt_mul, Int32.toInt_neg, Int32.reduceToInt, g_bm, g_bm'] at *); omega) | (have qr1 := g_rng x; have qr2 := g_rng y; have qr3 := g_rng z; have qr4 := g_rng x4; have qr5 := g_rng x5; have qr6 := g_rng x6; have qr9 := g_rng r_35; (try simp only [g_m1, Int32.lt_iff_toInt_lt, Int32.le_iff_toInt_le, ← Int32.toInt_inj, Int32.toInt_add, Int32.toInt_sub, Int32.toInt_mul, Int32.toInt_neg, Int32.reduceToInt, g_bm, g_bm'] at *); omega) | (simp only [g_m1, Int32.lt_iff_toInt_lt, Int32.le_iff_toInt_le, ← Int32.toInt_inj, Int32.toInt_add, Int32.toInt_sub, Int32.toInt_mul, Int32.toInt_neg, Int32.reduceToInt, g_bm, g_bm'] at *; simp at *; omega) | (simp_all; done)
set_option maxRecDepth 100000 in
theorem g_X11_feesOf_v8 (u : qS) (x : Int32) (y : Int32) (z : Int32) (x4 : Int32) (x5 : Int32) (x6 : Int32) (uc : qS) (a_2 : Nat) (r_35 : Int32) (hx : 0 ≤ x ∧ x < u.1 9) (hz8 : 0 ≤ u.1 8 ∧ u.1 8 ≤ 20) (hz9 : 0 ≤ u.1 9 ∧ u.1 9 ≤ 8) (hz10 : 0 ≤ u.1 10 ∧ u.1 10 ≤ 120) (hz12 : 0 ≤ u.1 12 ∧ u.1 12 ≤ 16) (h_k : 0 ≤ x6) (h_j : x4 ≤ u.1 10) (c26_1 : ¬ x4 ≤ (x6 : Int32)) (b56_19 : y ≤ (qfd uc.2.2.2.2 a_2 4) ∧ (qfd uc.2.2.2.2 a_2 4) ≤ z) (hb_25 : 0 ≤ qfd uc.2.2.2.2 a_2 3 ∧ qfd uc.2.2.2.2 a_2 3 < (u.1 9)) (c68_26 : (qfd uc.2.2.2.2 a_2 3 : Int32) = x) (hb_32 : 0 ≤ qfd uc.2.2.2.2 a_2 2 ∧ qfd uc.2.2.2.2 a_2 2 < (u.1 8)) (hw_34 : r_35 = c_wh uc x (qfd uc.2.2.2.2 a_2 2)) : x4 ≤ u.1 10 := by
  first | omega | ((try simp only [g_m1, Int32.lt_iff_toInt_lt, Int32.le_iff_toInt_le, ← Int32.toInt_inj, Int32.reduceToInt] at *); omega) | ((try simp only [g_m1, Int32.lt_iff_toInt_lt, Int32.le_iff_toInt_le, ← Int32.toInt_inj, Int32.reduceToInt] at *); omega) | ((try simp only [g_m1, Int32.lt_iff_toInt_lt, Int32.le_iff_toInt_le, ← Int32.toInt_inj, Int32.toInt_add, Int32.toInt_sub, Int32.toInt_mul, Int32.toInt_neg, Int32.reduceToInt, g_bm, g_bm'] at *); omega) | (have qr1 := g_rng x; have qr2 := g_rng y; have qr3 := g_rng z; have qr4 := g_rng x4; have qr5 := g_rng x5; have qr6 := g_rng x6; have qr9 := g_rng r_35; (try simp only [g_m1, Int32.lt_iff_toInt_lt, Int32.le_iff_toInt_le, ← Int32.toInt_inj, Int32.toInt_add, Int32.toInt_sub, Int32.toInt_mul, Int32.toInt_neg, Int32.reduceToInt, g_bm, g_bm'] at *); omega) | (simp only [g_m1, Int32.lt_iff_toInt_lt, Int32.le_iff_toInt_le, ← Int32.toInt_inj, Int32.toInt_add, Int32.toInt_sub, Int32.toInt_mul, Int32.toInt_neg, Int32.reduceToInt, g_bm, g_bm'] at *; simp at *; omega) | (simp_all; done)
set_option maxRecDepth 100000 in
theorem g_X11_feesOf_v9 (u : qS) (x : Int32) (y : Int32) (z : Int32) (x4 : Int32) (x5 : Int32) (x6 : Int32) (uc : qS) (a_2 : Nat) (r_35 : Int32) (hx : 0 ≤ x ∧ x < u.1 9) (hz8 : 0 ≤ u.1 8 ∧ u.1 8 ≤ 20) (hz9 : 0 ≤ u.1 9 ∧ u.1 9 ≤ 8) (hz10 : 0 ≤ u.1 10 ∧ u.1 10 ≤ 120) (hz12 : 0 ≤ u.1 12 ∧ u.1 12 ≤ 16) (h_k : 0 ≤ x6) (h_j : x4 ≤ u.1 10) (c26_1 : ¬ x4 ≤ (x6 : Int32)) (b56_19 : y ≤ (qfd uc.2.2.2.2 a_2 4) ∧ (qfd uc.2.2.2.2 a_2 4) ≤ z) (hb_25 : 0 ≤ qfd uc.2.2.2.2 a_2 3 ∧ qfd uc.2.2.2.2 a_2 3 < (u.1 9)) (c68_26 : (qfd uc.2.2.2.2 a_2 3 : Int32) = x) (hb_32 : 0 ≤ qfd uc.2.2.2.2 a_2 2 ∧ qfd uc.2.2.2.2 a_2 2 < (u.1 8)) (hw_34 : r_35 = c_wh uc x (qfd uc.2.2.2.2 a_2 2)) : (x4.toInt - (x6 + 1).toInt).toNat < (x4.toInt - x6.toInt).toNat := by
  first | omega | ((try simp only [g_m1, Int32.lt_iff_toInt_lt, Int32.le_iff_toInt_le, ← Int32.toInt_inj, Int32.reduceToInt] at *); omega) | ((try have ez4 : (x6 + 1 : Int32).toInt = (x6 : Int32).toInt + (1 : Int32).toInt := g_add (by (try simp only [g_m1, Int32.lt_iff_toInt_lt, Int32.le_iff_toInt_le, ← Int32.toInt_inj, Int32.reduceToInt] at *); omega) (by (try simp only [g_m1, Int32.lt_iff_toInt_lt, Int32.le_iff_toInt_le, ← Int32.toInt_inj, Int32.reduceToInt] at *); omega)); (try simp only [g_m1, Int32.lt_iff_toInt_lt, Int32.le_iff_toInt_le, ← Int32.toInt_inj, Int32.reduceToInt] at *); omega) | ((try simp only [g_m1, Int32.lt_iff_toInt_lt, Int32.le_iff_toInt_le, ← Int32.toInt_inj, Int32.toInt_add, Int32.toInt_sub, Int32.toInt_mul, Int32.toInt_neg, Int32.reduceToInt, g_bm, g_bm'] at *); omega) | (have qr1 := g_rng x; have qr2 := g_rng y; have qr3 := g_rng z; have qr4 := g_rng x4; have qr5 := g_rng x5; have qr6 := g_rng x6; have qr9 := g_rng r_35; (try simp only [g_m1, Int32.lt_iff_toInt_lt, Int32.le_iff_toInt_le, ← Int32.toInt_inj, Int32.toInt_add, Int32.toInt_sub, Int32.toInt_mul, Int32.toInt_neg, Int32.reduceToInt, g_bm, g_bm'] at *); omega) | (simp only [g_m1, Int32.lt_iff_toInt_lt, Int32.le_iff_toInt_le, ← Int32.toInt_inj, Int32.toInt_add, Int32.toInt_sub, Int32.toInt_mul, Int32.toInt_neg, Int32.reduceToInt, g_bm, g_bm'] at *; simp at *; omega) | (simp_all; done)
set_option maxRecDepth 100000 in
theorem g_X11_feesOf_v10 (u : qS) (x : Int32) (y : Int32) (z : Int32) (x4 : Int32) (x5 : Int32) (x6 : Int32) (uc : qS) (a_2 : Nat) (hx : 0 ≤ x ∧ x < u.1 9) (hz8 : 0 ≤ u.1 8 ∧ u.1 8 ≤ 20) (hz9 : 0 ≤ u.1 9 ∧ u.1 9 ≤ 8) (hz10 : 0 ≤ u.1 10 ∧ u.1 10 ≤ 120) (hz12 : 0 ≤ u.1 12 ∧ u.1 12 ≤ 16) (h_k : 0 ≤ x6) (h_j : x4 ≤ u.1 10) (c26_1 : ¬ x4 ≤ (x6 : Int32)) (b56_19 : ¬ (y ≤ (qfd uc.2.2.2.2 a_2 4) ∧ (qfd uc.2.2.2.2 a_2 4) ≤ z)) : 0 ≤ (x6 + 1) := by
  first | omega | ((try simp only [g_m1, Int32.lt_iff_toInt_lt, Int32.le_iff_toInt_le, ← Int32.toInt_inj, Int32.reduceToInt] at *); omega) | ((try have ez0 : (x6 + 1 : Int32).toInt = (x6 : Int32).toInt + (1 : Int32).toInt := g_add (by (try simp only [g_m1, Int32.lt_iff_toInt_lt, Int32.le_iff_toInt_le, ← Int32.toInt_inj, Int32.reduceToInt] at *); omega) (by (try simp only [g_m1, Int32.lt_iff_toInt_lt, Int32.le_iff_toInt_le, ← Int32.toInt_inj, Int32.reduceToInt] at *); omega)); (try simp only [g_m1, Int32.lt_iff_toInt_lt, Int32.le_iff_toInt_le, ← Int32.toInt_inj, Int32.reduceToInt] at *); omega) | ((try simp only [g_m1, Int32.lt_iff_toInt_lt, Int32.le_iff_toInt_le, ← Int32.toInt_inj, Int32.toInt_add, Int32.toInt_sub, Int32.toInt_mul, Int32.toInt_neg, Int32.reduceToInt, g_bm, g_bm'] at *); omega) | (have qr1 := g_rng x; have qr2 := g_rng y; have qr3 := g_rng z; have qr4 := g_rng x4; have qr5 := g_rng x5; have qr6 := g_rng x6; (try simp only [g_m1, Int32.lt_iff_toInt_lt, Int32.le_iff_toInt_le, ← Int32.toInt_inj, Int32.toInt_add, Int32.toInt_sub, Int32.toInt_mul, Int32.toInt_neg, Int32.reduceToInt, g_bm, g_bm'] at *); omega) | (simp only [g_m1, Int32.lt_iff_toInt_lt, Int32.le_iff_toInt_le, ← Int32.toInt_inj, Int32.toInt_add, Int32.toInt_sub, Int32.toInt_mul, Int32.toInt_neg, Int32.reduceToInt, g_bm, g_bm'] at *; simp at *; omega) | (simp_all; done)
set_option maxRecDepth 100000 in
theorem g_X11_feesOf_v11 (u : qS) (x : Int32) (y : Int32) (z : Int32) (x4 : Int32) (x5 : Int32) (x6 : Int32) (uc : qS) (a_2 : Nat) (hx : 0 ≤ x ∧ x < u.1 9) (hz8 : 0 ≤ u.1 8 ∧ u.1 8 ≤ 20) (hz9 : 0 ≤ u.1 9 ∧ u.1 9 ≤ 8) (hz10 : 0 ≤ u.1 10 ∧ u.1 10 ≤ 120) (hz12 : 0 ≤ u.1 12 ∧ u.1 12 ≤ 16) (h_k : 0 ≤ x6) (h_j : x4 ≤ u.1 10) (c26_1 : ¬ x4 ≤ (x6 : Int32)) (b56_19 : ¬ (y ≤ (qfd uc.2.2.2.2 a_2 4) ∧ (qfd uc.2.2.2.2 a_2 4) ≤ z)) : x4 ≤ u.1 10 := by
  first | omega | ((try simp only [g_m1, Int32.lt_iff_toInt_lt, Int32.le_iff_toInt_le, ← Int32.toInt_inj, Int32.reduceToInt] at *); omega) | ((try simp only [g_m1, Int32.lt_iff_toInt_lt, Int32.le_iff_toInt_le, ← Int32.toInt_inj, Int32.reduceToInt] at *); omega) | ((try simp only [g_m1, Int32.lt_iff_toInt_lt, Int32.le_iff_toInt_le, ← Int32.toInt_inj, Int32.toInt_add, Int32.toInt_sub, Int32.toInt_mul, Int32.toInt_neg, Int32.reduceToInt, g_bm, g_bm'] at *); omega) | (have qr1 := g_rng x; have qr2 := g_rng y; have qr3 := g_rng z; have qr4 := g_rng x4; have qr5 := g_rng x5; have qr6 := g_rng x6; (try simp only [g_m1, Int32.lt_iff_toInt_lt, Int32.le_iff_toInt_le, ← Int32.toInt_inj, Int32.toInt_add, Int32.toInt_sub, Int32.toInt_mul, Int32.toInt_neg, Int32.reduceToInt, g_bm, g_bm'] at *); omega) | (simp only [g_m1, Int32.lt_iff_toInt_lt, Int32.le_iff_toInt_le, ← Int32.toInt_inj, Int32.toInt_add, Int32.toInt_sub, Int32.toInt_mul, Int32.toInt_neg, Int32.reduceToInt, g_bm, g_bm'] at *; simp at *; omega) | (simp_all; done)
set_option maxRecDepth 100000 in
theorem g_X11_feesOf_v12 (u : qS) (x : Int32) (y : Int32) (z : Int32) (x4 : Int32) (x5 : Int32) (x6 : Int32) (uc : qS) (a_2 : Nat) (hx : 0 ≤ x ∧ x < u.1 9) (hz8 : 0 ≤ u.1 8 ∧ u.1 8 ≤ 20) (hz9 : 0 ≤ u.1 9 ∧ u.1 9 ≤ 8) (hz10 : 0 ≤ u.1 10 ∧ u.1 10 ≤ 120) (hz12 : 0 ≤ u.1 12 ∧ u.1 12 ≤ 16) (h_k : 0 ≤ x6) (h_j : x4 ≤ u.1 10) (c26_1 : ¬ x4 ≤ (x6 : Int32)) (b56_19 : ¬ (y ≤ (qfd uc.2.2.2.2 a_2 4) ∧ (qfd uc.2.2.2.2 a_2 4) ≤ z)) : (x4.toInt - (x6 + 1).toInt).toNat < (x4.toInt - x6.toInt).toNat := by
  first | omega | ((try simp only [g_m1, Int32.lt_iff_toInt_lt, Int32.le_iff_toInt_le, ← Int32.toInt_inj, Int32.reduceToInt] at *); omega) | ((try have ez0 : (x6 + 1 : Int32).toInt = (x6 : Int32).toInt + (1 : Int32).toInt := g_add (by (try simp only [g_m1, Int32.lt_iff_toInt_lt, Int32.le_iff_toInt_le, ← Int32.toInt_inj, Int32.reduceToInt] at *); omega) (by (try simp only [g_m1, Int32.lt_iff_toInt_lt, Int32.le_iff_toInt_le, ← Int32.toInt_inj, Int32.reduceToInt] at *); omega)); (try simp only [g_m1, Int32.lt_iff_toInt_lt, Int32.le_iff_toInt_le, ← Int32.toInt_inj, Int32.reduceToInt] at *); omega) | ((try simp only [g_m1, Int32.lt_iff_toInt_lt, Int32.le_iff_toInt_le, ← Int32.toInt_inj, Int32.toInt_add, Int32.toInt_sub, Int32.toInt_mul, Int32.toInt_neg, Int32.reduceToInt, g_bm, g_bm'] at *); omega) | (have qr1 := g_rng x; have qr2 := g_rng y; have qr3 := g_rng z; have qr4 := g_rng x4; have qr5 := g_rng x5; have qr6 := g_rng x6; (try simp only [g_m1, Int32.lt_iff_toInt_lt, Int32.le_iff_toInt_le, ← Int32.toInt_inj, Int32.toInt_add, Int32.toInt_sub, Int32.toInt_mul, Int32.toInt_neg, Int32.reduceToInt, g_bm, g_bm'] at *); omega) | (simp only [g_m1, Int32.lt_iff_toInt_lt, Int32.le_iff_toInt_le, ← Int32.toInt_inj, Int32.toInt_add, Int32.toInt_sub, Int32.toInt_mul, Int32.toInt_neg, Int32.reduceToInt, g_bm, g_bm'] at *; simp at *; omega) | (simp_all; done)
set_option maxRecDepth 100000 in
theorem g_X11_feesOf_v13 (u : qS) (x : Int32) (y : Int32) (z : Int32) (x4 : Int32) (x5 : Int32) (x6 : Int32) (hx : 0 ≤ x ∧ x < u.1 9) (hz8 : 0 ≤ u.1 8 ∧ u.1 8 ≤ 20) (hz9 : 0 ≤ u.1 9 ∧ u.1 9 ≤ 8) (hz10 : 0 ≤ u.1 10 ∧ u.1 10 ≤ 120) (hz12 : 0 ≤ u.1 12 ∧ u.1 12 ≤ 16) (h_k : 0 ≤ x6) (h_j : x4 ≤ u.1 10) (c26_1 : ¬ x4 ≤ (x6 : Int32)) : 0 ≤ (x6 + 1) := by
  first | omega | ((try simp only [g_m1, Int32.lt_iff_toInt_lt, Int32.le_iff_toInt_le, ← Int32.toInt_inj, Int32.reduceToInt] at *); omega) | ((try have ez0 : (x6 + 1 : Int32).toInt = (x6 : Int32).toInt + (1 : Int32).toInt := g_add (by (try simp only [g_m1, Int32.lt_iff_toInt_lt, Int32.le_iff_toInt_le, ← Int32.toInt_inj, Int32.reduceToInt] at *); omega) (by (try simp only [g_m1, Int32.lt_iff_toInt_lt, Int32.le_iff_toInt_le, ← Int32.toInt_inj, Int32.reduceToInt] at *); omega)); (try simp only [g_m1, Int32.lt_iff_toInt_lt, Int32.le_iff_toInt_le, ← Int32.toInt_inj, Int32.reduceToInt] at *); omega) | ((try simp only [g_m1, Int32.lt_iff_toInt_lt, Int32.le_iff_toInt_le, ← Int32.toInt_inj, Int32.toInt_add, Int32.toInt_sub, Int32.toInt_mul, Int32.toInt_neg, Int32.reduceToInt, g_bm, g_bm'] at *); omega) | (have qr1 := g_rng x; have qr2 := g_rng y; have qr3 := g_rng z; have qr4 := g_rng x4; have qr5 := g_rng x5; have qr6 := g_rng x6; (try simp only [g_m1, Int32.lt_iff_toInt_lt, Int32.le_iff_toInt_le, ← Int32.toInt_inj, Int32.toInt_add, Int32.toInt_sub, Int32.toInt_mul, Int32.toInt_neg, Int32.reduceToInt, g_bm, g_bm'] at *); omega) | (simp only [g_m1, Int32.lt_iff_toInt_lt, Int32.le_iff_toInt_le, ← Int32.toInt_inj, Int32.toInt_add, Int32.toInt_sub, Int32.toInt_mul, Int32.toInt_neg, Int32.reduceToInt, g_bm, g_bm'] at *; simp at *; omega) | (simp_all; done)
set_option maxRecDepth 100000 in
theorem g_X11_feesOf_v14 (u : qS) (x : Int32) (y : Int32) (z : Int32) (x4 : Int32) (x5 : Int32) (x6 : Int32) (hx : 0 ≤ x ∧ x < u.1 9) (hz8 : 0 ≤ u.1 8 ∧ u.1 8 ≤ 20) (hz9 : 0 ≤ u.1 9 ∧ u.1 9 ≤ 8) (hz10 : 0 ≤ u.1 10 ∧ u.1 10 ≤ 120) (hz12 : 0 ≤ u.1 12 ∧ u.1 12 ≤ 16) (h_k : 0 ≤ x6) (h_j : x4 ≤ u.1 10) (c26_1 : ¬ x4 ≤ (x6 : Int32)) : x4 ≤ u.1 10 := by
  first | omega | ((try simp only [g_m1, Int32.lt_iff_toInt_lt, Int32.le_iff_toInt_le, ← Int32.toInt_inj, Int32.reduceToInt] at *); omega) | ((try simp only [g_m1, Int32.lt_iff_toInt_lt, Int32.le_iff_toInt_le, ← Int32.toInt_inj, Int32.reduceToInt] at *); omega) | ((try simp only [g_m1, Int32.lt_iff_toInt_lt, Int32.le_iff_toInt_le, ← Int32.toInt_inj, Int32.toInt_add, Int32.toInt_sub, Int32.toInt_mul, Int32.toInt_neg, Int32.reduceToInt, g_bm, g_bm'] at *); omega) | (have qr1 := g_rng x; have qr2 := g_rng y; have qr3 := g_rng z; have qr4 := g_rng x4; have qr5 := g_rng x5; have qr6 := g_rng x6; (try simp only [g_m1, Int32.lt_iff_toInt_lt, Int32.le_iff_toInt_le, ← Int32.toInt_inj, Int32.toInt_add, Int32.toInt_sub, Int32.toInt_mul, Int32.toInt_neg, Int32.reduceToInt, g_bm, g_bm'] at *); omega) | (simp only [g_m1, Int32.lt_iff_toInt_lt, Int32.le_iff_toInt_le, ← Int32.toInt_inj, Int32.toInt_add, Int32.toInt_sub, Int32.toInt_mul, Int32.toInt_neg, Int32.reduceToInt, g_bm, g_bm'] at *; simp at *; omega) | (simp_all; done)
set_option maxRecDepth 100000 in
theorem g_X11_feesOf_v15 (u : qS) (x : Int32) (y : Int32) (z : Int32) (x4 : Int32) (x5 : Int32) (x6 : Int32) (hx : 0 ≤ x ∧ x < u.1 9) (hz8 : 0 ≤ u.1 8 ∧ u.1 8 ≤ 20) (hz9 : 0 ≤ u.1 9 ∧ u.1 9 ≤ 8) (hz10 : 0 ≤ u.1 10 ∧ u.1 10 ≤ 120) (hz12 : 0 ≤ u.1 12 ∧ u.1 12 ≤ 16) (h_k : 0 ≤ x6) (h_j : x4 ≤ u.1 10) (c26_1 : ¬ x4 ≤ (x6 : Int32)) : (x4.toInt - (x6 + 1).toInt).toNat < (x4.toInt - x6.toInt).toNat := by
  first | omega | ((try simp only [g_m1, Int32.lt_iff_toInt_lt, Int32.le_iff_toInt_le, ← Int32.toInt_inj, Int32.reduceToInt] at *); omega) | ((try have ez0 : (x6 + 1 : Int32).toInt = (x6 : Int32).toInt + (1 : Int32).toInt := g_add (by (try simp only [g_m1, Int32.lt_iff_toInt_lt, Int32.le_iff_toInt_le, ← Int32.toInt_inj, Int32.reduceToInt] at *); omega) (by (try simp only [g_m1, Int32.lt_iff_toInt_lt, Int32.le_iff_toInt_le, ← Int32.toInt_inj, Int32.reduceToInt] at *); omega)); (try simp only [g_m1, Int32.lt_iff_toInt_lt, Int32.le_iff_toInt_le, ← Int32.toInt_inj, Int32.reduceToInt] at *); omega) | ((try simp only [g_m1, Int32.lt_iff_toInt_lt, Int32.le_iff_toInt_le, ← Int32.toInt_inj, Int32.toInt_add, Int32.toInt_sub, Int32.toInt_mul, Int32.toInt_neg, Int32.reduceToInt, g_bm, g_bm'] at *); omega) | (have qr1 := g_rng x; have qr2 := g_rng y; have qr3 := g_rng z; have qr4 := g_rng x4; have qr5 := g_rng x5; have qr6 := g_rng x6; (try simp only [g_m1, Int32.lt_iff_toInt_lt, Int32.le_iff_toInt_le, ← Int32.toInt_inj, Int32.toInt_add, Int32.toInt_sub, Int32.toInt_mul, Int32.toInt_neg, Int32.reduceToInt, g_bm, g_bm'] at *); omega) | (simp only [g_m1, Int32.lt_iff_toInt_lt, Int32.le_iff_toInt_le, ← Int32.toInt_inj, Int32.toInt_add, Int32.toInt_sub, Int32.toInt_mul, Int32.toInt_neg, Int32.reduceToInt, g_bm, g_bm'] at *; simp at *; omega) | (simp_all; done)
set_option maxRecDepth 100000 in
theorem g_X11_feesOf_v16 (u : qS) (x : Int32) (y : Int32) (z : Int32) (r_41 : Int32) (hx : 0 ≤ x ∧ x < u.1 9) (hz8 : 0 ≤ u.1 8 ∧ u.1 8 ≤ 20) (hz9 : 0 ≤ u.1 9 ∧ u.1 9 ≤ 8) (hz10 : 0 ≤ u.1 10 ∧ u.1 10 ≤ 120) (hz12 : 0 ≤ u.1 12 ∧ u.1 12 ≤ 16) (hw_40 : 0 ≤ r_41 ∧ r_41 ≤ (u.1 10 : Int32)) : 0 ≤ (0 : Int32) := by
  first | omega | ((try simp only [g_m1, Int32.lt_iff_toInt_lt, Int32.le_iff_toInt_le, ← Int32.toInt_inj, Int32.reduceToInt] at *); omega) | ((try simp only [g_m1, Int32.lt_iff_toInt_lt, Int32.le_iff_toInt_le, ← Int32.toInt_inj, Int32.reduceToInt] at *); omega) | ((try simp only [g_m1, Int32.lt_iff_toInt_lt, Int32.le_iff_toInt_le, ← Int32.toInt_inj, Int32.toInt_add, Int32.toInt_sub, Int32.toInt_mul, Int32.toInt_neg, Int32.reduceToInt, g_bm, g_bm'] at *); omega) | (have qr1 := g_rng x; have qr2 := g_rng y; have qr3 := g_rng z; have qr5 := g_rng r_41; (try simp only [g_m1, Int32.lt_iff_toInt_lt, Int32.le_iff_toInt_le, ← Int32.toInt_inj, Int32.toInt_add, Int32.toInt_sub, Int32.toInt_mul, Int32.toInt_neg, Int32.reduceToInt, g_bm, g_bm'] at *); omega) | (simp only [g_m1, Int32.lt_iff_toInt_lt, Int32.le_iff_toInt_le, ← Int32.toInt_inj, Int32.toInt_add, Int32.toInt_sub, Int32.toInt_mul, Int32.toInt_neg, Int32.reduceToInt, g_bm, g_bm'] at *; simp at *; omega) | (simp_all; done)
set_option maxRecDepth 100000 in
theorem g_X11_feesOf_v17 (u : qS) (x : Int32) (y : Int32) (z : Int32) (r_41 : Int32) (hx : 0 ≤ x ∧ x < u.1 9) (hz8 : 0 ≤ u.1 8 ∧ u.1 8 ≤ 20) (hz9 : 0 ≤ u.1 9 ∧ u.1 9 ≤ 8) (hz10 : 0 ≤ u.1 10 ∧ u.1 10 ≤ 120) (hz12 : 0 ≤ u.1 12 ∧ u.1 12 ≤ 16) (hw_40 : 0 ≤ r_41 ∧ r_41 ≤ (u.1 10 : Int32)) : r_41 ≤ u.1 10 := by
  first | omega | ((try simp only [g_m1, Int32.lt_iff_toInt_lt, Int32.le_iff_toInt_le, ← Int32.toInt_inj, Int32.reduceToInt] at *); omega) | ((try simp only [g_m1, Int32.lt_iff_toInt_lt, Int32.le_iff_toInt_le, ← Int32.toInt_inj, Int32.reduceToInt] at *); omega) | ((try simp only [g_m1, Int32.lt_iff_toInt_lt, Int32.le_iff_toInt_le, ← Int32.toInt_inj, Int32.toInt_add, Int32.toInt_sub, Int32.toInt_mul, Int32.toInt_neg, Int32.reduceToInt, g_bm, g_bm'] at *); omega) | (have qr1 := g_rng x; have qr2 := g_rng y; have qr3 := g_rng z; have qr5 := g_rng r_41; (try simp only [g_m1, Int32.lt_iff_toInt_lt, Int32.le_iff_toInt_le, ← Int32.toInt_inj, Int32.toInt_add, Int32.toInt_sub, Int32.toInt_mul, Int32.toInt_neg, Int32.reduceToInt, g_bm, g_bm'] at *); omega) | (simp only [g_m1, Int32.lt_iff_toInt_lt, Int32.le_iff_toInt_le, ← Int32.toInt_inj, Int32.toInt_add, Int32.toInt_sub, Int32.toInt_mul, Int32.toInt_neg, Int32.reduceToInt, g_bm, g_bm'] at *; simp at *; omega) | (simp_all; done)
set_option maxHeartbeats 1000000 in
set_option maxRecDepth 100000 in
theorem g_X11_feesOf (l : Launch) (E : qE) (A : Nat → Prop) (u : qS) (x : Int32) (y : Int32) (z : Int32) (hI : IC E u) (hx : 0 ≤ x ∧ x < u.1 9) : Met l yX11_feesOf (uws yX11_feesOf cX11_feesOf 8 (some .int)) (qR 7 0 0) (qPc E A 0 u [.ref (E.2.2 1199), .int x, .int y, .int z]) (qQi E A 0 (fun r u1 => (qFc [900, 901, 902, 908, 909] [905, 906, 907] [] [904] u u1 ∧ IC E u1) ∧ (True))) 0 0 A := by
  refine q_met (own := RX11) (f := 7) [.ref (E.2.2 1199), .int x, .int y, .int z] (by decide) (Nat.le_of_ble_eq_true rfl) rfl ?_
  intro p0 e0 s0 m0 bl0 me0 cd0 ls hF hr hlocks hU hS hA hl
  have hl : lv_has ls 8 [(0, .ref (E.2.2 1199)), (1, .int x), (2, .int y), (3, .int z)] := hl
  have hz8 : 0 ≤ u.1 8 ∧ u.1 8 ≤ 20 := hI.1.s8
  have hz9 : 0 ≤ u.1 9 ∧ u.1 9 ≤ 8 := hI.1.s9
  have hz10 : 0 ≤ u.1 10 ∧ u.1 10 ≤ 120 := hI.1.s10
  have hz12 : 0 ≤ u.1 12 ∧ u.1 12 ≤ 16 := hI.1.s12
  have hfr : qFc [900, 901, 902, 908, 909] [905, 906, 907] [] [904] u u := qFc.rf
  have main : ∀ n : Nat, (∀ (x4 : Int32) (x5 : Int32) (x6 : Int32) (uc : qS) (H : Heap) (locs : List Loc) (ls : Array Slot) (hfr : qFc [900, 901, 902, 908, 909] [905, 906, 907] [] [904] u uc) (hI : IC E uc) (h_k : 0 ≤ x6) (h_j : x4 ≤ u.1 10), (x4.toInt - x6.toInt).toNat < n → qH E A 0 uc s0 H → va_S A s0.heap H locs → lv_has ls 8 [(0, .ref (E.2.2 1199)), (1, .int x), (2, .int y), (3, .int z), (4, .int x4), (5, .int x5), (6, .int x6)] → W p0 l e0 (qR 7 0 0) s0 m0 ([.ref (E.2.2 1199), .int x, .int y, .int z] : List Value).toArray bl0 me0 cd0 H locs 0 0 (MQ bl0 (qQi E A 0 (fun r u1 => (qFc [900, 901, 902, 908, 909] [905, 906, 907] [] [904] u u1 ∧ IC E u1) ∧ (True))) ([.ref (E.2.2 1199), .int x, .int y, .int z] : List Value).toArray s0 0 0 A) (F0 m0 22 ls [])) := by
    clear hI hfr
    intro n
    induction n with
    | zero => exact fun _ _ _ _ _ _ _ _ _ _ _ hmu => absurd hmu (Nat.not_lt_zero _)
    | succ n ih =>
      intro x4 x5 x6 uc H locs ls hfr hI h_k h_j hmu hU hS hl
      refine lv_iload hF.1 hF.2.1 dX11_feesOf_22 (lv_at hl 6 rfl) ?_
      refine lv_iload hF.1 hF.2.1 dX11_feesOf_24 (lv_at hl 4 rfl) ?_
      refine lv_icmp_ge (tgt := 112) hF.1 hF.2.1 dX11_feesOf_26 (by decide) (fun c26_1 => ?_) (fun c26_1 => ?_)
      · refine lv_iload hF.1 hF.2.1 dX11_feesOf_112 (lv_at hl 5 rfl) ?_
        exact q_iret hF hr rfl hlocks hU hS dX11_feesOf_114 ⟨⟨hfr, hI⟩, trivial⟩
      · refine lv_aload_n hF.1 hF.2.1 dX11_feesOf_29 rfl (lv_at hl 0 rfl) ?_
        refine q_get (v := .ref (E.2.2 99)) hF hU dX11_feesOf_30 0 11 0 1100 1199 rfl rfl rfl rfl inX11 (by decide) (by decide) w_436 rfl rfl ?_
        refine q_get (v := .ref (E.2.2 2)) hF hU dX11_feesOf_33 1 0 2 2 99 rfl rfl rfl rfl inX0 (by decide) (by decide) w_150 rfl rfl ?_
        refine lv_iload hF.1 hF.2.1 dX11_feesOf_36 (lv_at hl 6 rfl) ?_
        obtain ⟨a_2, ha_2_3_e, ha_2_3⟩ := hI.r2 x6 (by rw [(hfr.1 10 (by decide))]; exact (g_X11_feesOf_v0 u x y z x4 x5 x6 hx hz8 hz9 hz10 hz12 h_k h_j c26_1))
        refine q_aald (v := .ref a_2) hF hU dX11_feesOf_38 2 2 6 rfl rfl (by decide) rfl (g_X11_feesOf_v1 u x x4 x6 hx hz8 hz9 hz10 hz12 h_k h_j c26_1) (by rw [ha_2_3_e]; rfl) ?_
        refine lv_astore (lv' := [(7, .ref a_2), (0, .ref (E.2.2 1199)), (1, .int x), (2, .int y), (3, .int z), (4, .int x4), (5, .int x5), (6, .int x6)]) hF.1 hF.2.1 dX11_feesOf_39 hl (by decide) rfl (fun ls hl => ?_)
        refine lv_aload hF.1 hF.2.1 dX11_feesOf_41 (lv_at hl 0 rfl) ?_
        have hM9 := g_X10_counts l E A uc a_2 hI ((ha_2_3).rf)
        obtain ⟨k_4, fs_5, hd_6⟩ := id ((ha_2_3).rf)
        have hR9 := q_runVd (l := l) (e := e0) (below := bl0) (meth := me0) (R := qR 7 0 0) (cells := 0) (slots := 0) (st0 := [.ref a_2]) (rest := []) hF hU hS hA 0 k_4 10 hd_6 rfl hM9 w_1176 w_908 w_909 w_110 w_910 (by decide +kernel) ⟨Nat.le_of_ble_eq_true rfl, Nat.le_of_ble_eq_true rfl⟩ dX11_feesOf_43 rfl hl.1 rfl (Nat.le_of_ble_eq_true rfl) ⟨Nat.le_of_ble_eq_true rfl, Nat.le_of_ble_eq_true rfl⟩
        refine q_calli hR9 hU.2.2.2 hS (fun r_9 u_7 H locs hw_8 hU hS => ?_)
        obtain ⟨hw_8_e, hw_8⟩ := hw_8
        rw [hw_8_e] at hU
        rcases hw_8 with rfl | rfl
        · refine lv_if_eq (tgt := 106) hF.1 hF.2.1 dX11_feesOf_46 (by decide) (fun h9 => absurd h9 (by decide)) (fun _ => ?_)
          refine lv_aload hF.1 hF.2.1 dX11_feesOf_49 (lv_at hl 0 rfl) ?_
          obtain ⟨k_11, fs_12, hd_14, hv_15, hv_15_2, hv_15_3, -⟩ := hI.vf ((ha_2_3).rf) 4 (by decide)
          refine q_getd (v := .int (qfd uc.2.2.2.2 a_2 4)) hF hU dX11_feesOf_51 k_11 10 4 hd_14 rfl inX10 (by decide) w_604 rfl hv_15 ?_
          refine lv_iload_n hF.1 hF.2.1 dX11_feesOf_54 rfl (lv_at hl 3 rfl) ?_
          refine lv_iload_n hF.1 hF.2.1 dX11_feesOf_55 rfl (lv_at hl 4 rfl) ?_
          have hM9 := g_X11_isWithin l E A uc (qfd uc.2.2.2.2 a_2 4) y z
          have hR9 := q_runS (l := l) (e := e0) (below := bl0) (meth := me0) (R := qR 7 0 0) (cells := 0) (slots := 0) (st0 := [.int z, .int y, .int (qfd uc.2.2.2.2 a_2 4)]) (rest := []) hF hU hS hA 3 hM9 w_468 w_469 w_99 w_470 (by decide +kernel) ⟨Nat.le_of_ble_eq_true rfl, Nat.le_of_ble_eq_true rfl⟩ dX11_feesOf_56 rfl hl.1 rfl (Nat.le_of_ble_eq_true rfl) ⟨Nat.le_of_ble_eq_true rfl, Nat.le_of_ble_eq_true rfl⟩
          refine q_calli hR9 hU.2.2.2 hS (fun r_18 u_16 H locs hw_17 hU hS => ?_)
          obtain ⟨hw_17_e, hw_17⟩ := hw_17
          rw [hw_17_e] at hU
          have hw_17 : (r_18 = 1 ∧ (y ≤ (qfd uc.2.2.2.2 a_2 4) ∧ (qfd uc.2.2.2.2 a_2 4) ≤ z)) ∨ (r_18 = 0 ∧ (¬ (y ≤ (qfd uc.2.2.2.2 a_2 4) ∧ (qfd uc.2.2.2.2 a_2 4) ≤ z))) := hw_17
          rcases hw_17 with ⟨rfl, b56_19⟩ | ⟨rfl, b56_19⟩
          · refine lv_if_eq (tgt := 106) hF.1 hF.2.1 dX11_feesOf_59 (by decide) (fun h9 => absurd h9 (by decide)) (fun _ => ?_)
            refine lv_aload hF.1 hF.2.1 dX11_feesOf_62 (lv_at hl 0 rfl) ?_
            obtain ⟨k_20, fs_21, hd_23, hv_24, hv_24_2, hv_24_3, -⟩ := hI.vf ((ha_2_3).rf) 3 (by decide)
            refine q_getd (v := .int (qfd uc.2.2.2.2 a_2 3)) hF hU dX11_feesOf_64 k_20 10 3 hd_23 rfl inX10 (by decide) w_599 rfl hv_24 ?_
            have hb_25 : 0 ≤ qfd uc.2.2.2.2 a_2 3 ∧ qfd uc.2.2.2.2 a_2 3 < (u.1 9) := (by have h9 := hv_24_3 rfl; rw [(hfr.1 9 (by decide))] at h9; exact h9)
            refine lv_iload_n hF.1 hF.2.1 dX11_feesOf_67 rfl (lv_at hl 2 rfl) ?_
            refine lv_icmp_ne (tgt := 106) hF.1 hF.2.1 dX11_feesOf_68 (by decide) (fun c68_26 => ?_) (fun c68_26 => ?_)
            · refine lv_iinc (v := x6 + 1) (lv' := [(6, .int (x6 + 1)), (7, .ref a_2), (0, .ref (E.2.2 1199)), (1, .int x), (2, .int y), (3, .int z), (4, .int x4), (5, .int x5)]) hF.1 hF.2.1 dX11_feesOf_106 hl (k := 7) rfl rfl (by decide) rfl (fun ls hl => ?_)
              refine lv_goto (tgt := 22) hF.1 hF.2.1 dX11_feesOf_109 (by decide) ?_
              exact ih x4 x5 (x6 + 1) uc _ _ _ hfr hI  (g_X11_feesOf_v2 u x y z x4 x5 x6 uc a_2 hx hz8 hz9 hz10 hz12 h_k h_j c26_1 b56_19 hb_25 c68_26) (g_X11_feesOf_v3 u x y z x4 x5 x6 uc a_2 hx hz8 hz9 hz10 hz12 h_k h_j c26_1 b56_19 hb_25 c68_26) (Nat.lt_of_lt_of_le (g_X11_feesOf_v4 u x y z x4 x5 x6 uc a_2 hx hz8 hz9 hz10 hz12 h_k h_j c26_1 b56_19 hb_25 c68_26) (Nat.lt_succ_iff.mp hmu)) hU hS (lv_sub hl [2, 3, 4, 5, 6, 7, 0] rfl)
            · refine lv_iload hF.1 hF.2.1 dX11_feesOf_71 (lv_at hl 6 rfl) ?_
              refine lv_aload_n hF.1 hF.2.1 dX11_feesOf_73 rfl (lv_at hl 1 rfl) ?_
              refine q_get (v := .int (u.1 1107)) hF hU dX11_feesOf_74 0 11 7 1107 1199 rfl rfl rfl rfl inX11 (by decide) (by decide) w_443 rfl (congrArg Value.int (hfr.1 1107 (by decide))) ?_
              refine lv_aload_n hF.1 hF.2.1 dX11_feesOf_77 rfl (lv_at hl 1 rfl) ?_
              refine q_get (v := .ref (E.2.2 99)) hF hU dX11_feesOf_78 0 11 0 1100 1199 rfl rfl rfl rfl inX11 (by decide) (by decide) w_436 rfl rfl ?_
              refine q_get (v := .int (u.1 15)) hF hU dX11_feesOf_81 1 0 15 15 99 rfl rfl rfl rfl inX0 (by decide) (by decide) w_183 rfl (congrArg Value.int (hfr.1 15 (by decide))) ?_
              refine lv_iconst (v := 5) hF.1 hF.2.1 dX11_feesOf_84 (by decide) ?_
              refine lv_idiv hF.1 hF.2.1 dX11_feesOf_85 (by decide) ?_
              refine lv_iconst (v := 2) hF.1 hF.2.1 dX11_feesOf_86 (by decide) ?_
              refine lv_imul hF.1 hF.2.1 dX11_feesOf_87 ?_
              refine lv_aload_n hF.1 hF.2.1 dX11_feesOf_88 rfl (lv_at hl 1 rfl) ?_
              refine q_get (v := .ref (E.2.2 99)) hF hU dX11_feesOf_89 0 11 0 1100 1199 rfl rfl rfl rfl inX11 (by decide) (by decide) w_436 rfl rfl ?_
              refine lv_iload_n hF.1 hF.2.1 dX11_feesOf_92 rfl (lv_at hl 2 rfl) ?_
              refine lv_aload hF.1 hF.2.1 dX11_feesOf_93 (lv_at hl 0 rfl) ?_
              obtain ⟨k_27, fs_28, hd_30, hv_31, hv_31_2, hv_31_3, -⟩ := hI.vf ((ha_2_3).rf) 2 (by decide)
              refine q_getd (v := .int (qfd uc.2.2.2.2 a_2 2)) hF hU dX11_feesOf_95 k_27 10 2 hd_30 rfl inX10 (by decide) w_593 rfl hv_31 ?_
              have hb_32 : 0 ≤ qfd uc.2.2.2.2 a_2 2 ∧ qfd uc.2.2.2.2 a_2 2 < (u.1 8) := (by have h9 := hv_31_2 rfl; rw [(hfr.1 8 (by decide))] at h9; exact h9)
              have hM9 := g_X0_wayFromHome l E A uc x (qfd uc.2.2.2.2 a_2 2) hI (by rw [(hfr.1 9 (by decide))]; exact (g_X11_feesOf_v5 u x y z x4 x5 x6 uc a_2 hx hz8 hz9 hz10 hz12 h_k h_j c26_1 b56_19 hb_25 c68_26 hb_32)) (by rw [(hfr.1 8 (by decide))]; exact (g_X11_feesOf_v6 u x y z x4 x5 x6 uc a_2 hx hz8 hz9 hz10 hz12 h_k h_j c26_1 b56_19 hb_25 c68_26 hb_32))
              have hR9 := q_runV (l := l) (e := e0) (below := bl0) (meth := me0) (R := qR 7 0 0) (cells := 0) (slots := 0) (st0 := [.int (qfd uc.2.2.2.2 a_2 2), .int x, .ref (E.2.2 99), .int (((u.1 15) / 5) * 2), .int (u.1 1107), .int x5]) (rest := [.int (((u.1 15) / 5) * 2), .int (u.1 1107), .int x5]) hF hU hS hA 2 1 0 99 rfl rfl rfl hM9 w_1181 w_1096 w_1097 w_100 w_1098 (by decide +kernel) ⟨Nat.le_of_ble_eq_true rfl, Nat.le_of_ble_eq_true rfl⟩ dX11_feesOf_98 rfl hl.1 rfl (Nat.le_of_ble_eq_true rfl) ⟨Nat.le_of_ble_eq_true rfl, Nat.le_of_ble_eq_true rfl⟩
              refine q_calli hR9 hU.2.2.2 hS (fun r_35 u_33 H locs hw_34 hU hS => ?_)
              obtain ⟨hw_34_e, hw_34⟩ := hw_34
              rw [hw_34_e] at hU
              have hw_34 : r_35 = c_wh uc x (qfd uc.2.2.2.2 a_2 2) := hw_34
              refine lv_imul hF.1 hF.2.1 dX11_feesOf_101 ?_
              refine lv_iadd hF.1 hF.2.1 dX11_feesOf_102 ?_
              refine lv_iadd hF.1 hF.2.1 dX11_feesOf_103 ?_
              refine lv_istore (lv' := [(5, .int (x5 + ((u.1 1107) + ((((u.1 15) / 5) * 2) * r_35)))), (7, .ref a_2), (0, .ref (E.2.2 1199)), (1, .int x), (2, .int y), (3, .int z), (4, .int x4), (6, .int x6)]) hF.1 hF.2.1 dX11_feesOf_104 hl (by decide) rfl (fun ls hl => ?_)
              refine lv_iinc (v := x6 + 1) (lv' := [(6, .int (x6 + 1)), (5, .int (x5 + ((u.1 1107) + ((((u.1 15) / 5) * 2) * r_35)))), (7, .ref a_2), (0, .ref (E.2.2 1199)), (1, .int x), (2, .int y), (3, .int z), (4, .int x4)]) hF.1 hF.2.1 dX11_feesOf_106 hl (k := 7) rfl rfl (by decide) rfl (fun ls hl => ?_)
              refine lv_goto (tgt := 22) hF.1 hF.2.1 dX11_feesOf_109 (by decide) ?_
              exact ih x4 (x5 + ((u.1 1107) + ((((u.1 15) / 5) * 2) * r_35))) (x6 + 1) uc _ _ _ hfr hI  (g_X11_feesOf_v7 u x y z x4 x5 x6 uc a_2 r_35 hx hz8 hz9 hz10 hz12 h_k h_j c26_1 b56_19 hb_25 c68_26 hb_32 hw_34) (g_X11_feesOf_v8 u x y z x4 x5 x6 uc a_2 r_35 hx hz8 hz9 hz10 hz12 h_k h_j c26_1 b56_19 hb_25 c68_26 hb_32 hw_34) (Nat.lt_of_lt_of_le (g_X11_feesOf_v9 u x y z x4 x5 x6 uc a_2 r_35 hx hz8 hz9 hz10 hz12 h_k h_j c26_1 b56_19 hb_25 c68_26 hb_32 hw_34) (Nat.lt_succ_iff.mp hmu)) hU hS (lv_sub hl [3, 4, 5, 6, 7, 1, 0] rfl)
          · refine lv_if_eq (tgt := 106) hF.1 hF.2.1 dX11_feesOf_59 (by decide) (fun _ => ?_) (fun h9 => absurd (by decide) h9)
            refine lv_iinc (v := x6 + 1) (lv' := [(6, .int (x6 + 1)), (7, .ref a_2), (0, .ref (E.2.2 1199)), (1, .int x), (2, .int y), (3, .int z), (4, .int x4), (5, .int x5)]) hF.1 hF.2.1 dX11_feesOf_106 hl (k := 7) rfl rfl (by decide) rfl (fun ls hl => ?_)
            refine lv_goto (tgt := 22) hF.1 hF.2.1 dX11_feesOf_109 (by decide) ?_
            exact ih x4 x5 (x6 + 1) uc _ _ _ hfr hI  (g_X11_feesOf_v10 u x y z x4 x5 x6 uc a_2 hx hz8 hz9 hz10 hz12 h_k h_j c26_1 b56_19) (g_X11_feesOf_v11 u x y z x4 x5 x6 uc a_2 hx hz8 hz9 hz10 hz12 h_k h_j c26_1 b56_19) (Nat.lt_of_lt_of_le (g_X11_feesOf_v12 u x y z x4 x5 x6 uc a_2 hx hz8 hz9 hz10 hz12 h_k h_j c26_1 b56_19) (Nat.lt_succ_iff.mp hmu)) hU hS (lv_sub hl [2, 3, 4, 5, 6, 7, 0] rfl)
        · refine lv_if_eq (tgt := 106) hF.1 hF.2.1 dX11_feesOf_46 (by decide) (fun _ => ?_) (fun h9 => absurd (by decide) h9)
          refine lv_iinc (v := x6 + 1) (lv' := [(6, .int (x6 + 1)), (7, .ref a_2), (0, .ref (E.2.2 1199)), (1, .int x), (2, .int y), (3, .int z), (4, .int x4), (5, .int x5)]) hF.1 hF.2.1 dX11_feesOf_106 hl (k := 7) rfl rfl (by decide) rfl (fun ls hl => ?_)
          refine lv_goto (tgt := 22) hF.1 hF.2.1 dX11_feesOf_109 (by decide) ?_
          exact ih x4 x5 (x6 + 1) uc _ _ _ hfr hI  (g_X11_feesOf_v13 u x y z x4 x5 x6 hx hz8 hz9 hz10 hz12 h_k h_j c26_1) (g_X11_feesOf_v14 u x y z x4 x5 x6 hx hz8 hz9 hz10 hz12 h_k h_j c26_1) (Nat.lt_of_lt_of_le (g_X11_feesOf_v15 u x y z x4 x5 x6 hx hz8 hz9 hz10 hz12 h_k h_j c26_1) (Nat.lt_succ_iff.mp hmu)) hU hS (lv_sub hl [2, 3, 4, 5, 6, 7, 0] rfl)
  refine lv_aload_n hF.1 hF.2.1 dX11_feesOf_0 rfl (lv_at hl 0 rfl) ?_
  refine q_get (v := .ref (E.2.2 999)) hF hU dX11_feesOf_1 0 11 3 1103 1199 rfl rfl rfl rfl inX11 (by decide) (by decide) w_439 rfl rfl ?_
  have hM9 := g_X9_refresh l E A u  hI
  have hR9 := q_runV (l := l) (e := e0) (below := bl0) (meth := me0) (R := qR 7 0 0) (cells := 0) (slots := 0) (st0 := [.ref (E.2.2 999)]) (rest := []) hF hU hS hA 0 4 9 999 rfl rfl rfl hM9 w_843 w_844 w_845 w_103 w_846 (by decide +kernel) ⟨Nat.le_of_ble_eq_true rfl, Nat.le_of_ble_eq_true rfl⟩ dX11_feesOf_4 rfl hl.1 rfl (Nat.le_of_ble_eq_true rfl) ⟨Nat.le_of_ble_eq_true rfl, Nat.le_of_ble_eq_true rfl⟩
  refine q_callv hR9 hU.2.2.2 hS (fun u_36 H locs hw_37 hU hS => ?_)
  obtain ⟨⟨hw_37_f, hI⟩, hw_37⟩ := hw_37
  have hfo := hfr
  have hfr : qFc [900, 901, 902, 908, 909] [905, 906, 907] [] [904] u u_36 := hfr.trans (hw_37_f.mono (by decide) (by decide) (by decide) (by decide))
  refine lv_aload_n hF.1 hF.2.1 dX11_feesOf_7 rfl (lv_at hl 0 rfl) ?_
  refine q_get (v := .ref (E.2.2 99)) hF hU dX11_feesOf_8 0 11 0 1100 1199 rfl rfl rfl rfl inX11 (by decide) (by decide) w_436 rfl rfl ?_
  have hM9 := g_X0_knownVisits l E A u_36  hI
  have hR9 := q_runV (l := l) (e := e0) (below := bl0) (meth := me0) (R := qR 7 0 0) (cells := 0) (slots := 0) (st0 := [.ref (E.2.2 99)]) (rest := []) hF hU hS hA 0 1 0 99 rfl rfl rfl hM9 w_1175 w_903 w_904 w_100 w_905 (by decide +kernel) ⟨Nat.le_of_ble_eq_true rfl, Nat.le_of_ble_eq_true rfl⟩ dX11_feesOf_11 rfl hl.1 rfl (Nat.le_of_ble_eq_true rfl) ⟨Nat.le_of_ble_eq_true rfl, Nat.le_of_ble_eq_true rfl⟩
  refine q_calli hR9 hU.2.2.2 hS (fun r_41 u_39 H locs hw_40 hU hS => ?_)
  obtain ⟨hw_40_e, hw_40⟩ := hw_40
  rw [hw_40_e] at hU
  have hw_40 : 0 ≤ r_41 ∧ r_41 ≤ (u.1 10 : Int32) := by rw [(hfr.1 10 (by decide))] at hw_40; exact hw_40
  refine lv_istore (lv' := [(4, .int r_41), (0, .ref (E.2.2 1199)), (1, .int x), (2, .int y), (3, .int z)]) hF.1 hF.2.1 dX11_feesOf_14 hl (by decide) rfl (fun ls hl => ?_)
  refine lv_iconst (v := 0) hF.1 hF.2.1 dX11_feesOf_16 (by decide) ?_
  refine lv_istore (lv' := [(5, .int 0), (4, .int r_41), (0, .ref (E.2.2 1199)), (1, .int x), (2, .int y), (3, .int z)]) hF.1 hF.2.1 dX11_feesOf_17 hl (by decide) rfl (fun ls hl => ?_)
  refine lv_iconst (v := 0) hF.1 hF.2.1 dX11_feesOf_19 (by decide) ?_
  refine lv_istore (lv' := [(6, .int 0), (5, .int 0), (4, .int r_41), (0, .ref (E.2.2 1199)), (1, .int x), (2, .int y), (3, .int z)]) hF.1 hF.2.1 dX11_feesOf_20 hl (by decide) rfl (fun ls hl => ?_)
  exact (main _) r_41 (0 : Int32) (0 : Int32) u_36 _ _ _ hfr hI  (g_X11_feesOf_v16 u x y z r_41 hx hz8 hz9 hz10 hz12 hw_40) (g_X11_feesOf_v17 u x y z r_41 hx hz8 hz9 hz10 hz12 hw_40) (Nat.lt_succ_self _) hU hS (lv_sub hl [3, 4, 5, 6, 2, 1, 0] rfl)
set_option maxHeartbeats 1000000 in
set_option maxRecDepth 100000 in
theorem g_X11_fewest (l : Launch) (E : qE) (A : Nat → Prop) (u : qS) (x : Int32) (y : Int32) (hI : IC E u) : Met l yX11_fewest (uws yX11_fewest cX11_fewest 3 (some .int)) (qR 7 0 0) (qPc E A 0 u [.ref (E.2.2 1199), .int x, .int y]) (qQi E A 0 (fun r u1 => (qFc [900, 901, 902, 908, 909] [905, 906, 907] [] [904] u u1 ∧ IC E u1) ∧ (True))) 0 0 A := by
  refine q_met (own := RX11) (f := 7) [.ref (E.2.2 1199), .int x, .int y] (by decide) (Nat.le_of_ble_eq_true rfl) rfl ?_
  intro p0 e0 s0 m0 bl0 me0 cd0 ls hF hr hlocks hU hS hA hl
  have hl : lv_has ls 3 [(0, .ref (E.2.2 1199)), (1, .int x), (2, .int y)] := hl
  have hz8 : 0 ≤ u.1 8 ∧ u.1 8 ≤ 20 := hI.1.s8
  have hz9 : 0 ≤ u.1 9 ∧ u.1 9 ≤ 8 := hI.1.s9
  have hz10 : 0 ≤ u.1 10 ∧ u.1 10 ≤ 120 := hI.1.s10
  have hz12 : 0 ≤ u.1 12 ∧ u.1 12 ≤ 16 := hI.1.s12
  have hfr : qFc [900, 901, 902, 908, 909] [905, 906, 907] [] [904] u u := qFc.rf
  refine lv_aload_n hF.1 hF.2.1 dX11_fewest_0 rfl (lv_at hl 0 rfl) ?_
  refine q_get (v := .ref (E.2.2 99)) hF hU dX11_fewest_1 0 11 0 1100 1199 rfl rfl rfl rfl inX11 (by decide) (by decide) w_436 rfl rfl ?_
  refine lv_iload_n hF.1 hF.2.1 dX11_fewest_4 rfl (lv_at hl 1 rfl) ?_
  have hM9 := g_X0_hasBuyer l E A u x hI
  have hR9 := q_runV (l := l) (e := e0) (below := bl0) (meth := me0) (R := qR 7 0 0) (cells := 0) (slots := 0) (st0 := [.int x, .ref (E.2.2 99)]) (rest := []) hF hU hS hA 1 1 0 99 rfl rfl rfl hM9 w_568 w_569 w_570 w_100 w_571 (by decide +kernel) ⟨Nat.le_of_ble_eq_true rfl, Nat.le_of_ble_eq_true rfl⟩ dX11_fewest_5 rfl hl.1 rfl (Nat.le_of_ble_eq_true rfl) ⟨Nat.le_of_ble_eq_true rfl, Nat.le_of_ble_eq_true rfl⟩
  refine q_calli hR9 hU.2.2.2 hS (fun r_3 u_1 H locs hw_2 hU hS => ?_)
  obtain ⟨hw_2_e, hw_2⟩ := hw_2
  rw [hw_2_e] at hU
  have hw_2 : (r_3 = 1 ∧ (0 ≤ x ∧ x < u.1 9)) ∨ (r_3 = 0 ∧ (¬ (0 ≤ x ∧ x < u.1 9))) := hw_2
  rcases hw_2 with ⟨rfl, b5_4⟩ | ⟨rfl, b5_4⟩
  · refine lv_if_eq (tgt := 18) hF.1 hF.2.1 dX11_fewest_8 (by decide) (fun h9 => absurd h9 (by decide)) (fun _ => ?_)
    refine lv_iload_n hF.1 hF.2.1 dX11_fewest_11 rfl (lv_at hl 2 rfl) ?_
    have hM9 := g_X11_isDay l E A u y
    have hR9 := q_runS (l := l) (e := e0) (below := bl0) (meth := me0) (R := qR 7 0 0) (cells := 0) (slots := 0) (st0 := [.int y]) (rest := []) hF hU hS hA 1 hM9 w_699 w_700 w_99 w_701 (by decide +kernel) ⟨Nat.le_of_ble_eq_true rfl, Nat.le_of_ble_eq_true rfl⟩ dX11_fewest_12 rfl hl.1 rfl (Nat.le_of_ble_eq_true rfl) ⟨Nat.le_of_ble_eq_true rfl, Nat.le_of_ble_eq_true rfl⟩
    refine q_calli hR9 hU.2.2.2 hS (fun r_7 u_5 H locs hw_6 hU hS => ?_)
    obtain ⟨hw_6_e, hw_6⟩ := hw_6
    rw [hw_6_e] at hU
    have hw_6 : (r_7 = 1 ∧ (0 ≤ y ∧ y ≤ 9999)) ∨ (r_7 = 0 ∧ (¬ (0 ≤ y ∧ y ≤ 9999))) := hw_6
    rcases hw_6 with ⟨rfl, b12_8⟩ | ⟨rfl, b12_8⟩
    · refine lv_if_ne (tgt := 20) hF.1 hF.2.1 dX11_fewest_15 (by decide) (fun _ => ?_) (fun h9 => absurd h9 (by decide))
      refine lv_aload_n hF.1 hF.2.1 dX11_fewest_20 rfl (lv_at hl 0 rfl) ?_
      refine q_get (v := .ref (E.2.2 999)) hF hU dX11_fewest_21 0 11 3 1103 1199 rfl rfl rfl rfl inX11 (by decide) (by decide) w_439 rfl rfl ?_
      have hM9 := g_X9_refresh l E A u  hI
      have hR9 := q_runV (l := l) (e := e0) (below := bl0) (meth := me0) (R := qR 7 0 0) (cells := 0) (slots := 0) (st0 := [.ref (E.2.2 999)]) (rest := []) hF hU hS hA 0 4 9 999 rfl rfl rfl hM9 w_843 w_844 w_845 w_103 w_846 (by decide +kernel) ⟨Nat.le_of_ble_eq_true rfl, Nat.le_of_ble_eq_true rfl⟩ dX11_fewest_24 rfl hl.1 rfl (Nat.le_of_ble_eq_true rfl) ⟨Nat.le_of_ble_eq_true rfl, Nat.le_of_ble_eq_true rfl⟩
      refine q_callv hR9 hU.2.2.2 hS (fun u_9 H locs hw_10 hU hS => ?_)
      obtain ⟨⟨hw_10_f, hI⟩, hw_10⟩ := hw_10
      have hfo := hfr
      have hfr : qFc [900, 901, 902, 908, 909] [905, 906, 907] [] [904] u u_9 := hfr.trans (hw_10_f.mono (by decide) (by decide) (by decide) (by decide))
      refine lv_aload_n hF.1 hF.2.1 dX11_fewest_27 rfl (lv_at hl 0 rfl) ?_
      refine q_get (v := .ref (E.2.2 999)) hF hU dX11_fewest_28 0 11 3 1103 1199 rfl rfl rfl rfl inX11 (by decide) (by decide) w_439 rfl rfl ?_
      refine lv_iload_n hF.1 hF.2.1 dX11_fewest_31 rfl (lv_at hl 1 rfl) ?_
      refine lv_iload_n hF.1 hF.2.1 dX11_fewest_32 rfl (lv_at hl 2 rfl) ?_
      have hM9 := g_X9_fewestOf l E A u_9 x y hI
      have hR9 := q_runV (l := l) (e := e0) (below := bl0) (meth := me0) (R := qR 7 0 0) (cells := 0) (slots := 0) (st0 := [.int y, .int x, .ref (E.2.2 999)]) (rest := []) hF hU hS hA 2 4 9 999 rfl rfl rfl hM9 w_911 w_912 w_913 w_103 w_914 (by decide +kernel) ⟨Nat.le_of_ble_eq_true rfl, Nat.le_of_ble_eq_true rfl⟩ dX11_fewest_33 rfl hl.1 rfl (Nat.le_of_ble_eq_true rfl) ⟨Nat.le_of_ble_eq_true rfl, Nat.le_of_ble_eq_true rfl⟩
      refine q_calli hR9 hU.2.2.2 hS (fun r_14 u_12 H locs hw_13 hU hS => ?_)
      obtain ⟨⟨hw_13_f, hI, hw_13_d⟩, hw_13⟩ := hw_13
      have hfo := hfr
      have hfr : qFc [900, 901, 902, 908, 909] [905, 906, 907] [] [904] u u_12 := hfr.trans (hw_13_f.mono (by decide) (by decide) (by decide) (by decide))
      have e_15 : u_12.1 900 = (u_9.1 900) := (hw_13_f.1 900 (by decide)).trans rfl
      have e_16 : u_12.1 901 = (u_9.1 901) := (hw_13_f.1 901 (by decide)).trans rfl
      have e_17 : u_12.1 902 = (u_9.1 902) := (hw_13_f.1 902 (by decide)).trans rfl
      have e_18 : u_12.1 909 = (u_9.1 909) := (hw_13_f.1 909 (by decide)).trans rfl
      have e_19 : u_12.2.1 906 = (u_9.2.1 906) := (hw_13_f.2.1 906 (by decide)).trans rfl
      exact q_iret hF hr rfl hlocks hU hS dX11_fewest_36 ⟨⟨hfr, hI⟩, trivial⟩
    · refine lv_if_ne (tgt := 20) hF.1 hF.2.1 dX11_fewest_15 (by decide) (fun h9 => absurd (by decide) h9) (fun _ => ?_)
      refine lv_iconst (v := (-1)) hF.1 hF.2.1 dX11_fewest_18 (by decide) ?_
      exact q_iret hF hr rfl hlocks hU hS dX11_fewest_19 ⟨⟨hfr, hI⟩, trivial⟩
  · refine lv_if_eq (tgt := 18) hF.1 hF.2.1 dX11_fewest_8 (by decide) (fun _ => ?_) (fun h9 => absurd (by decide) h9)
    refine lv_iconst (v := (-1)) hF.1 hF.2.1 dX11_fewest_18 (by decide) ?_
    exact q_iret hF hr rfl hlocks hU hS dX11_fewest_19 ⟨⟨hfr, hI⟩, trivial⟩
set_option maxHeartbeats 1000000 in
set_option maxRecDepth 100000 in
theorem g_X11_set (l : Launch) (E : qE) (A : Nat → Prop) (u : qS) (x : Int32) (y : Int32) (z : Int32) (hI : IC E u) : Met l yX11_set (uws yX11_set cX11_set 4 (some .int)) (qR 7 0 0) (qPc E A 0 u [.ref (E.2.2 1199), .int x, .int y, .int z]) (qQi E A 0 (fun r u1 => (qFc [900, 901, 902, 908, 909] [905, 906, 907] [] [904] u u1 ∧ IC E u1) ∧ (True))) 0 0 A := by
  refine q_met (own := RX11) (f := 7) [.ref (E.2.2 1199), .int x, .int y, .int z] (by decide) (Nat.le_of_ble_eq_true rfl) rfl ?_
  intro p0 e0 s0 m0 bl0 me0 cd0 ls hF hr hlocks hU hS hA hl
  have hl : lv_has ls 4 [(0, .ref (E.2.2 1199)), (1, .int x), (2, .int y), (3, .int z)] := hl
  have hz8 : 0 ≤ u.1 8 ∧ u.1 8 ≤ 20 := hI.1.s8
  have hz9 : 0 ≤ u.1 9 ∧ u.1 9 ≤ 8 := hI.1.s9
  have hz10 : 0 ≤ u.1 10 ∧ u.1 10 ≤ 120 := hI.1.s10
  have hz12 : 0 ≤ u.1 12 ∧ u.1 12 ≤ 16 := hI.1.s12
  have hfr : qFc [900, 901, 902, 908, 909] [905, 906, 907] [] [904] u u := qFc.rf
  refine lv_aload_n hF.1 hF.2.1 dX11_set_0 rfl (lv_at hl 0 rfl) ?_
  refine q_get (v := .ref (E.2.2 99)) hF hU dX11_set_1 0 11 0 1100 1199 rfl rfl rfl rfl inX11 (by decide) (by decide) w_436 rfl rfl ?_
  refine lv_iload_n hF.1 hF.2.1 dX11_set_4 rfl (lv_at hl 1 rfl) ?_
  have hM9 := g_X0_hasBuyer l E A u x hI
  have hR9 := q_runV (l := l) (e := e0) (below := bl0) (meth := me0) (R := qR 7 0 0) (cells := 0) (slots := 0) (st0 := [.int x, .ref (E.2.2 99)]) (rest := []) hF hU hS hA 1 1 0 99 rfl rfl rfl hM9 w_568 w_569 w_570 w_100 w_571 (by decide +kernel) ⟨Nat.le_of_ble_eq_true rfl, Nat.le_of_ble_eq_true rfl⟩ dX11_set_5 rfl hl.1 rfl (Nat.le_of_ble_eq_true rfl) ⟨Nat.le_of_ble_eq_true rfl, Nat.le_of_ble_eq_true rfl⟩
  refine q_calli hR9 hU.2.2.2 hS (fun r_3 u_1 H locs hw_2 hU hS => ?_)
  obtain ⟨hw_2_e, hw_2⟩ := hw_2
  rw [hw_2_e] at hU
  have hw_2 : (r_3 = 1 ∧ (0 ≤ x ∧ x < u.1 9)) ∨ (r_3 = 0 ∧ (¬ (0 ≤ x ∧ x < u.1 9))) := hw_2
  rcases hw_2 with ⟨rfl, b5_4⟩ | ⟨rfl, b5_4⟩
  · refine lv_if_eq (tgt := 28) hF.1 hF.2.1 dX11_set_8 (by decide) (fun h9 => absurd h9 (by decide)) (fun _ => ?_)
    refine lv_iload_n hF.1 hF.2.1 dX11_set_11 rfl (lv_at hl 2 rfl) ?_
    have hM9 := g_X11_isDay l E A u y
    have hR9 := q_runS (l := l) (e := e0) (below := bl0) (meth := me0) (R := qR 7 0 0) (cells := 0) (slots := 0) (st0 := [.int y]) (rest := []) hF hU hS hA 1 hM9 w_699 w_700 w_99 w_701 (by decide +kernel) ⟨Nat.le_of_ble_eq_true rfl, Nat.le_of_ble_eq_true rfl⟩ dX11_set_12 rfl hl.1 rfl (Nat.le_of_ble_eq_true rfl) ⟨Nat.le_of_ble_eq_true rfl, Nat.le_of_ble_eq_true rfl⟩
    refine q_calli hR9 hU.2.2.2 hS (fun r_7 u_5 H locs hw_6 hU hS => ?_)
    obtain ⟨hw_6_e, hw_6⟩ := hw_6
    rw [hw_6_e] at hU
    have hw_6 : (r_7 = 1 ∧ (0 ≤ y ∧ y ≤ 9999)) ∨ (r_7 = 0 ∧ (¬ (0 ≤ y ∧ y ≤ 9999))) := hw_6
    rcases hw_6 with ⟨rfl, b12_8⟩ | ⟨rfl, b12_8⟩
    · refine lv_if_eq (tgt := 28) hF.1 hF.2.1 dX11_set_15 (by decide) (fun h9 => absurd h9 (by decide)) (fun _ => ?_)
      refine lv_iload_n hF.1 hF.2.1 dX11_set_18 rfl (lv_at hl 3 rfl) ?_
      refine lv_iconst (v := 0) hF.1 hF.2.1 dX11_set_19 (by decide) ?_
      refine lv_bipush (v := 11) hF.1 hF.2.1 dX11_set_20 (by decide) ?_
      have hM9 := g_X11_isWithin l E A u z 0 11
      have hR9 := q_runS (l := l) (e := e0) (below := bl0) (meth := me0) (R := qR 7 0 0) (cells := 0) (slots := 0) (st0 := [.int 11, .int 0, .int z]) (rest := []) hF hU hS hA 3 hM9 w_468 w_469 w_99 w_470 (by decide +kernel) ⟨Nat.le_of_ble_eq_true rfl, Nat.le_of_ble_eq_true rfl⟩ dX11_set_22 rfl hl.1 rfl (Nat.le_of_ble_eq_true rfl) ⟨Nat.le_of_ble_eq_true rfl, Nat.le_of_ble_eq_true rfl⟩
      refine q_calli hR9 hU.2.2.2 hS (fun r_11 u_9 H locs hw_10 hU hS => ?_)
      obtain ⟨hw_10_e, hw_10⟩ := hw_10
      rw [hw_10_e] at hU
      have hw_10 : (r_11 = 1 ∧ ((0 : Int32) ≤ z ∧ z ≤ (11 : Int32))) ∨ (r_11 = 0 ∧ (¬ ((0 : Int32) ≤ z ∧ z ≤ (11 : Int32)))) := hw_10
      rcases hw_10 with ⟨rfl, b22_12⟩ | ⟨rfl, b22_12⟩
      · refine lv_if_ne (tgt := 30) hF.1 hF.2.1 dX11_set_25 (by decide) (fun _ => ?_) (fun h9 => absurd h9 (by decide))
        refine lv_aload_n hF.1 hF.2.1 dX11_set_30 rfl (lv_at hl 0 rfl) ?_
        refine q_get (v := .ref (E.2.2 999)) hF hU dX11_set_31 0 11 3 1103 1199 rfl rfl rfl rfl inX11 (by decide) (by decide) w_439 rfl rfl ?_
        have hM9 := g_X9_refresh l E A u  hI
        have hR9 := q_runV (l := l) (e := e0) (below := bl0) (meth := me0) (R := qR 7 0 0) (cells := 0) (slots := 0) (st0 := [.ref (E.2.2 999)]) (rest := []) hF hU hS hA 0 4 9 999 rfl rfl rfl hM9 w_843 w_844 w_845 w_103 w_846 (by decide +kernel) ⟨Nat.le_of_ble_eq_true rfl, Nat.le_of_ble_eq_true rfl⟩ dX11_set_34 rfl hl.1 rfl (Nat.le_of_ble_eq_true rfl) ⟨Nat.le_of_ble_eq_true rfl, Nat.le_of_ble_eq_true rfl⟩
        refine q_callv hR9 hU.2.2.2 hS (fun u_13 H locs hw_14 hU hS => ?_)
        obtain ⟨⟨hw_14_f, hI⟩, hw_14⟩ := hw_14
        have hfo := hfr
        have hfr : qFc [900, 901, 902, 908, 909] [905, 906, 907] [] [904] u u_13 := hfr.trans (hw_14_f.mono (by decide) (by decide) (by decide) (by decide))
        refine lv_aload_n hF.1 hF.2.1 dX11_set_37 rfl (lv_at hl 0 rfl) ?_
        refine q_get (v := .ref (E.2.2 999)) hF hU dX11_set_38 0 11 3 1103 1199 rfl rfl rfl rfl inX11 (by decide) (by decide) w_439 rfl rfl ?_
        refine lv_iload_n hF.1 hF.2.1 dX11_set_41 rfl (lv_at hl 1 rfl) ?_
        refine lv_iload_n hF.1 hF.2.1 dX11_set_42 rfl (lv_at hl 2 rfl) ?_
        refine lv_iload_n hF.1 hF.2.1 dX11_set_43 rfl (lv_at hl 3 rfl) ?_
        have hM9 := g_X9_falseAt l E A u_13 x y z hI
        have hR9 := q_runV (l := l) (e := e0) (below := bl0) (meth := me0) (R := qR 7 0 0) (cells := 0) (slots := 0) (st0 := [.int z, .int y, .int x, .ref (E.2.2 999)]) (rest := []) hF hU hS hA 3 4 9 999 rfl rfl rfl hM9 w_919 w_920 w_921 w_103 w_922 (by decide +kernel) ⟨Nat.le_of_ble_eq_true rfl, Nat.le_of_ble_eq_true rfl⟩ dX11_set_44 rfl hl.1 rfl (Nat.le_of_ble_eq_true rfl) ⟨Nat.le_of_ble_eq_true rfl, Nat.le_of_ble_eq_true rfl⟩
        refine q_calli hR9 hU.2.2.2 hS (fun r_18 u_16 H locs hw_17 hU hS => ?_)
        obtain ⟨⟨hw_17_f, hI, hw_17_d⟩, hw_17⟩ := hw_17
        have hfo := hfr
        have hfr : qFc [900, 901, 902, 908, 909] [905, 906, 907] [] [904] u u_16 := hfr.trans (hw_17_f.mono (by decide) (by decide) (by decide) (by decide))
        have e_19 : u_16.1 900 = (u_13.1 900) := (hw_17_f.1 900 (by decide)).trans rfl
        have e_20 : u_16.1 901 = (u_13.1 901) := (hw_17_f.1 901 (by decide)).trans rfl
        have e_21 : u_16.1 902 = (u_13.1 902) := (hw_17_f.1 902 (by decide)).trans rfl
        have e_22 : u_16.1 909 = (u_13.1 909) := (hw_17_f.1 909 (by decide)).trans rfl
        have e_23 : u_16.2.1 906 = (u_13.2.1 906) := (hw_17_f.2.1 906 (by decide)).trans rfl
        exact q_iret hF hr rfl hlocks hU hS dX11_set_47 ⟨⟨hfr, hI⟩, trivial⟩
      · refine lv_if_ne (tgt := 30) hF.1 hF.2.1 dX11_set_25 (by decide) (fun h9 => absurd (by decide) h9) (fun _ => ?_)
        refine lv_iconst (v := (-1)) hF.1 hF.2.1 dX11_set_28 (by decide) ?_
        exact q_iret hF hr rfl hlocks hU hS dX11_set_29 ⟨⟨hfr, hI⟩, trivial⟩
    · refine lv_if_eq (tgt := 28) hF.1 hF.2.1 dX11_set_15 (by decide) (fun _ => ?_) (fun h9 => absurd (by decide) h9)
      refine lv_iconst (v := (-1)) hF.1 hF.2.1 dX11_set_28 (by decide) ?_
      exact q_iret hF hr rfl hlocks hU hS dX11_set_29 ⟨⟨hfr, hI⟩, trivial⟩
  · refine lv_if_eq (tgt := 28) hF.1 hF.2.1 dX11_set_8 (by decide) (fun _ => ?_) (fun h9 => absurd (by decide) h9)
    refine lv_iconst (v := (-1)) hF.1 hF.2.1 dX11_set_28 (by decide) ?_
    exact q_iret hF hr rfl hlocks hU hS dX11_set_29 ⟨⟨hfr, hI⟩, trivial⟩
set_option maxRecDepth 100000 in
theorem g_X11_meetings_v0 (u : qS) (x : Int32) (y : Int32) (hz8 : 0 ≤ u.1 8 ∧ u.1 8 ≤ 20) (hz9 : 0 ≤ u.1 9 ∧ u.1 9 ≤ 8) (hz10 : 0 ≤ u.1 10 ∧ u.1 10 ≤ 120) (hz12 : 0 ≤ u.1 12 ∧ u.1 12 ≤ 16) (b5_4 : 0 ≤ x ∧ x < u.1 9) (b16_8 : 0 ≤ y ∧ y < u.1 9) (c24_9 : ¬ (x : Int32) = y) : 0 ≤ x ∧ x < (u.1 9 : Int32) := by
  first | omega | ((try simp only [g_m1, Int32.lt_iff_toInt_lt, Int32.le_iff_toInt_le, ← Int32.toInt_inj, Int32.reduceToInt] at *); omega) | ((try simp only [g_m1, Int32.lt_iff_toInt_lt, Int32.le_iff_toInt_le, ← Int32.toInt_inj, Int32.reduceToInt] at *); omega) | ((try simp only [g_m1, Int32.lt_iff_toInt_lt, Int32.le_iff_toInt_le, ← Int32.toInt_inj, Int32.toInt_add, Int32.toInt_sub, Int32.toInt_mul, Int32.toInt_neg, Int32.reduceToInt, g_bm, g_bm'] at *); omega) | (have qr1 := g_rng x; have qr2 := g_rng y; (try simp only [g_m1, Int32.lt_iff_toInt_lt, Int32.le_iff_toInt_le, ← Int32.toInt_inj, Int32.toInt_add, Int32.toInt_sub, Int32.toInt_mul, Int32.toInt_neg, Int32.reduceToInt, g_bm, g_bm'] at *); omega) | (simp only [g_m1, Int32.lt_iff_toInt_lt, Int32.le_iff_toInt_le, ← Int32.toInt_inj, Int32.toInt_add, Int32.toInt_sub, Int32.toInt_mul, Int32.toInt_neg, Int32.reduceToInt, g_bm, g_bm'] at *; simp at *; omega) | (simp_all; done)
set_option maxRecDepth 100000 in
theorem g_X11_meetings_v1 (u : qS) (x : Int32) (y : Int32) (hz8 : 0 ≤ u.1 8 ∧ u.1 8 ≤ 20) (hz9 : 0 ≤ u.1 9 ∧ u.1 9 ≤ 8) (hz10 : 0 ≤ u.1 10 ∧ u.1 10 ≤ 120) (hz12 : 0 ≤ u.1 12 ∧ u.1 12 ≤ 16) (b5_4 : 0 ≤ x ∧ x < u.1 9) (b16_8 : 0 ≤ y ∧ y < u.1 9) (c24_9 : ¬ (x : Int32) = y) : 0 ≤ y ∧ y < (u.1 9 : Int32) := by
  first | omega | ((try simp only [g_m1, Int32.lt_iff_toInt_lt, Int32.le_iff_toInt_le, ← Int32.toInt_inj, Int32.reduceToInt] at *); omega) | ((try simp only [g_m1, Int32.lt_iff_toInt_lt, Int32.le_iff_toInt_le, ← Int32.toInt_inj, Int32.reduceToInt] at *); omega) | ((try simp only [g_m1, Int32.lt_iff_toInt_lt, Int32.le_iff_toInt_le, ← Int32.toInt_inj, Int32.toInt_add, Int32.toInt_sub, Int32.toInt_mul, Int32.toInt_neg, Int32.reduceToInt, g_bm, g_bm'] at *); omega) | (have qr1 := g_rng x; have qr2 := g_rng y; (try simp only [g_m1, Int32.lt_iff_toInt_lt, Int32.le_iff_toInt_le, ← Int32.toInt_inj, Int32.toInt_add, Int32.toInt_sub, Int32.toInt_mul, Int32.toInt_neg, Int32.reduceToInt, g_bm, g_bm'] at *); omega) | (simp only [g_m1, Int32.lt_iff_toInt_lt, Int32.le_iff_toInt_le, ← Int32.toInt_inj, Int32.toInt_add, Int32.toInt_sub, Int32.toInt_mul, Int32.toInt_neg, Int32.reduceToInt, g_bm, g_bm'] at *; simp at *; omega) | (simp_all; done)
set_option maxHeartbeats 1000000 in
set_option maxRecDepth 100000 in
theorem g_X11_meetings (l : Launch) (E : qE) (A : Nat → Prop) (u : qS) (x : Int32) (y : Int32) (hI : IC E u) : Met l yX11_meetings (uws yX11_meetings cX11_meetings 3 (some .int)) (qR 8 0 0) (qPc E A 0 u [.ref (E.2.2 1199), .int x, .int y]) (qQi E A 0 (fun r u1 => (qFc [900, 901, 902, 908, 909, 604, 605, 606, 607, 608, 609, 311] [905, 906, 907, 601, 602, 603, 303, 304, 305] [] [904] u u1 ∧ IC E u1) ∧ (True))) 0 0 A := by
  refine q_met (own := RX11) (f := 8) [.ref (E.2.2 1199), .int x, .int y] (by decide) (Nat.le_of_ble_eq_true rfl) rfl ?_
  intro p0 e0 s0 m0 bl0 me0 cd0 ls hF hr hlocks hU hS hA hl
  have hl : lv_has ls 3 [(0, .ref (E.2.2 1199)), (1, .int x), (2, .int y)] := hl
  have hz8 : 0 ≤ u.1 8 ∧ u.1 8 ≤ 20 := hI.1.s8
  have hz9 : 0 ≤ u.1 9 ∧ u.1 9 ≤ 8 := hI.1.s9
  have hz10 : 0 ≤ u.1 10 ∧ u.1 10 ≤ 120 := hI.1.s10
  have hz12 : 0 ≤ u.1 12 ∧ u.1 12 ≤ 16 := hI.1.s12
  have hfr : qFc [900, 901, 902, 908, 909, 604, 605, 606, 607, 608, 609, 311] [905, 906, 907, 601, 602, 603, 303, 304, 305] [] [904] u u := qFc.rf
  refine lv_aload_n hF.1 hF.2.1 dX11_meetings_0 rfl (lv_at hl 0 rfl) ?_
  refine q_get (v := .ref (E.2.2 99)) hF hU dX11_meetings_1 0 11 0 1100 1199 rfl rfl rfl rfl inX11 (by decide) (by decide) w_436 rfl rfl ?_
  refine lv_iload_n hF.1 hF.2.1 dX11_meetings_4 rfl (lv_at hl 1 rfl) ?_
  have hM9 := g_X0_hasBuyer l E A u x hI
  have hR9 := q_runV (l := l) (e := e0) (below := bl0) (meth := me0) (R := qR 8 0 0) (cells := 0) (slots := 0) (st0 := [.int x, .ref (E.2.2 99)]) (rest := []) hF hU hS hA 1 1 0 99 rfl rfl rfl hM9 w_568 w_569 w_570 w_100 w_571 (by decide +kernel) ⟨Nat.le_of_ble_eq_true rfl, Nat.le_of_ble_eq_true rfl⟩ dX11_meetings_5 rfl hl.1 rfl (Nat.le_of_ble_eq_true rfl) ⟨Nat.le_of_ble_eq_true rfl, Nat.le_of_ble_eq_true rfl⟩
  refine q_calli hR9 hU.2.2.2 hS (fun r_3 u_1 H locs hw_2 hU hS => ?_)
  obtain ⟨hw_2_e, hw_2⟩ := hw_2
  rw [hw_2_e] at hU
  have hw_2 : (r_3 = 1 ∧ (0 ≤ x ∧ x < u.1 9)) ∨ (r_3 = 0 ∧ (¬ (0 ≤ x ∧ x < u.1 9))) := hw_2
  rcases hw_2 with ⟨rfl, b5_4⟩ | ⟨rfl, b5_4⟩
  · refine lv_if_eq (tgt := 27) hF.1 hF.2.1 dX11_meetings_8 (by decide) (fun h9 => absurd h9 (by decide)) (fun _ => ?_)
    refine lv_aload_n hF.1 hF.2.1 dX11_meetings_11 rfl (lv_at hl 0 rfl) ?_
    refine q_get (v := .ref (E.2.2 99)) hF hU dX11_meetings_12 0 11 0 1100 1199 rfl rfl rfl rfl inX11 (by decide) (by decide) w_436 rfl rfl ?_
    refine lv_iload_n hF.1 hF.2.1 dX11_meetings_15 rfl (lv_at hl 2 rfl) ?_
    have hM9 := g_X0_hasBuyer l E A u y hI
    have hR9 := q_runV (l := l) (e := e0) (below := bl0) (meth := me0) (R := qR 8 0 0) (cells := 0) (slots := 0) (st0 := [.int y, .ref (E.2.2 99)]) (rest := []) hF hU hS hA 1 1 0 99 rfl rfl rfl hM9 w_568 w_569 w_570 w_100 w_571 (by decide +kernel) ⟨Nat.le_of_ble_eq_true rfl, Nat.le_of_ble_eq_true rfl⟩ dX11_meetings_16 rfl hl.1 rfl (Nat.le_of_ble_eq_true rfl) ⟨Nat.le_of_ble_eq_true rfl, Nat.le_of_ble_eq_true rfl⟩
    refine q_calli hR9 hU.2.2.2 hS (fun r_7 u_5 H locs hw_6 hU hS => ?_)
    obtain ⟨hw_6_e, hw_6⟩ := hw_6
    rw [hw_6_e] at hU
    have hw_6 : (r_7 = 1 ∧ (0 ≤ y ∧ y < u.1 9)) ∨ (r_7 = 0 ∧ (¬ (0 ≤ y ∧ y < u.1 9))) := hw_6
    rcases hw_6 with ⟨rfl, b16_8⟩ | ⟨rfl, b16_8⟩
    · refine lv_if_eq (tgt := 27) hF.1 hF.2.1 dX11_meetings_19 (by decide) (fun h9 => absurd h9 (by decide)) (fun _ => ?_)
      refine lv_iload_n hF.1 hF.2.1 dX11_meetings_22 rfl (lv_at hl 1 rfl) ?_
      refine lv_iload_n hF.1 hF.2.1 dX11_meetings_23 rfl (lv_at hl 2 rfl) ?_
      refine lv_icmp_ne (tgt := 29) hF.1 hF.2.1 dX11_meetings_24 (by decide) (fun c24_9 => ?_) (fun c24_9 => ?_)
      · refine lv_aload_n hF.1 hF.2.1 dX11_meetings_29 rfl (lv_at hl 0 rfl) ?_
        refine q_get (v := .ref (E.2.2 399)) hF hU dX11_meetings_30 0 11 5 1105 1199 rfl rfl rfl rfl inX11 (by decide) (by decide) w_441 rfl rfl ?_
        have hM9 := g_X3_refresh l E A u  hI
        have hR9 := q_runV (l := l) (e := e0) (below := bl0) (meth := me0) (R := qR 8 0 0) (cells := 0) (slots := 0) (st0 := [.ref (E.2.2 399)]) (rest := []) hF hU hS hA 0 6 3 399 rfl rfl rfl hM9 w_931 w_932 w_933 w_105 w_934 (by decide +kernel) ⟨Nat.le_of_ble_eq_true rfl, Nat.le_of_ble_eq_true rfl⟩ dX11_meetings_33 rfl hl.1 rfl (Nat.le_of_ble_eq_true rfl) ⟨Nat.le_of_ble_eq_true rfl, Nat.le_of_ble_eq_true rfl⟩
        refine q_callv hR9 hU.2.2.2 hS (fun u_10 H locs hw_11 hU hS => ?_)
        obtain ⟨⟨hw_11_f, hI⟩, hw_11⟩ := hw_11
        have hfo := hfr
        have hfr : qFc [900, 901, 902, 908, 909, 604, 605, 606, 607, 608, 609, 311] [905, 906, 907, 601, 602, 603, 303, 304, 305] [] [904] u u_10 := hfr.trans (hw_11_f.mono (by decide) (by decide) (by decide) (by decide))
        refine lv_aload_n hF.1 hF.2.1 dX11_meetings_36 rfl (lv_at hl 0 rfl) ?_
        refine q_get (v := .ref (E.2.2 399)) hF hU dX11_meetings_37 0 11 5 1105 1199 rfl rfl rfl rfl inX11 (by decide) (by decide) w_441 rfl rfl ?_
        refine lv_iload_n hF.1 hF.2.1 dX11_meetings_40 rfl (lv_at hl 1 rfl) ?_
        refine lv_iload_n hF.1 hF.2.1 dX11_meetings_41 rfl (lv_at hl 2 rfl) ?_
        have hM9 := g_X3_meetingsOf l E A u_10 x y hI (by rw [(hfr.1 9 (by decide))]; exact (g_X11_meetings_v0 u x y hz8 hz9 hz10 hz12 b5_4 b16_8 c24_9)) (by rw [(hfr.1 9 (by decide))]; exact (g_X11_meetings_v1 u x y hz8 hz9 hz10 hz12 b5_4 b16_8 c24_9))
        have hR9 := q_runV (l := l) (e := e0) (below := bl0) (meth := me0) (R := qR 8 0 0) (cells := 0) (slots := 0) (st0 := [.int y, .int x, .ref (E.2.2 399)]) (rest := []) hF hU hS hA 2 6 3 399 rfl rfl rfl hM9 w_1005 w_1006 w_1007 w_105 w_1008 (by decide +kernel) ⟨Nat.le_of_ble_eq_true rfl, Nat.le_of_ble_eq_true rfl⟩ dX11_meetings_42 rfl hl.1 rfl (Nat.le_of_ble_eq_true rfl) ⟨Nat.le_of_ble_eq_true rfl, Nat.le_of_ble_eq_true rfl⟩
        refine q_calli hR9 hU.2.2.2 hS (fun r_15 u_13 H locs hw_14 hU hS => ?_)
        obtain ⟨hw_14_e, hw_14⟩ := hw_14
        rw [hw_14_e] at hU
        exact q_iret hF hr rfl hlocks hU hS dX11_meetings_45 ⟨⟨hfr, hI⟩, trivial⟩
      · refine lv_iconst (v := (-1)) hF.1 hF.2.1 dX11_meetings_27 (by decide) ?_
        exact q_iret hF hr rfl hlocks hU hS dX11_meetings_28 ⟨⟨hfr, hI⟩, trivial⟩
    · refine lv_if_eq (tgt := 27) hF.1 hF.2.1 dX11_meetings_19 (by decide) (fun _ => ?_) (fun h9 => absurd (by decide) h9)
      refine lv_iconst (v := (-1)) hF.1 hF.2.1 dX11_meetings_27 (by decide) ?_
      exact q_iret hF hr rfl hlocks hU hS dX11_meetings_28 ⟨⟨hfr, hI⟩, trivial⟩
  · refine lv_if_eq (tgt := 27) hF.1 hF.2.1 dX11_meetings_8 (by decide) (fun _ => ?_) (fun h9 => absurd (by decide) h9)
    refine lv_iconst (v := (-1)) hF.1 hF.2.1 dX11_meetings_27 (by decide) ?_
    exact q_iret hF hr rfl hlocks hU hS dX11_meetings_28 ⟨⟨hfr, hI⟩, trivial⟩
set_option maxRecDepth 100000 in
theorem g_X11_doubt_v0 (u : qS) (x : Int32) (y : Int32) (z : Int32) (hz8 : 0 ≤ u.1 8 ∧ u.1 8 ≤ 20) (hz9 : 0 ≤ u.1 9 ∧ u.1 9 ≤ 8) (hz10 : 0 ≤ u.1 10 ∧ u.1 10 ≤ 120) (hz12 : 0 ≤ u.1 12 ∧ u.1 12 ≤ 16) (b11_30 : 0 ≤ x ∧ x < (u.1 8 : Int32)) : 0 ≤ x ∧ x < (u.1 8 : Int32) := by
  first | omega | ((try simp only [g_m1, Int32.lt_iff_toInt_lt, Int32.le_iff_toInt_le, ← Int32.toInt_inj, Int32.reduceToInt] at *); omega) | ((try simp only [g_m1, Int32.lt_iff_toInt_lt, Int32.le_iff_toInt_le, ← Int32.toInt_inj, Int32.reduceToInt] at *); omega) | ((try simp only [g_m1, Int32.lt_iff_toInt_lt, Int32.le_iff_toInt_le, ← Int32.toInt_inj, Int32.toInt_add, Int32.toInt_sub, Int32.toInt_mul, Int32.toInt_neg, Int32.reduceToInt, g_bm, g_bm'] at *); omega) | (have qr1 := g_rng x; have qr2 := g_rng y; have qr3 := g_rng z; (try simp only [g_m1, Int32.lt_iff_toInt_lt, Int32.le_iff_toInt_le, ← Int32.toInt_inj, Int32.toInt_add, Int32.toInt_sub, Int32.toInt_mul, Int32.toInt_neg, Int32.reduceToInt, g_bm, g_bm'] at *); omega) | (simp only [g_m1, Int32.lt_iff_toInt_lt, Int32.le_iff_toInt_le, ← Int32.toInt_inj, Int32.toInt_add, Int32.toInt_sub, Int32.toInt_mul, Int32.toInt_neg, Int32.reduceToInt, g_bm, g_bm'] at *; simp at *; omega) | (simp_all; done)
set_option maxHeartbeats 1000000 in
set_option maxRecDepth 100000 in
theorem g_X11_doubt (l : Launch) (E : qE) (A : Nat → Prop) (u : qS) (x : Int32) (y : Int32) (z : Int32) (hI : IC E u) : Met l yX11_doubt (uws yX11_doubt cX11_doubt 4 (some .int)) (qR 8 0 0) (qPc E A 0 u [.ref (E.2.2 1199), .int x, .int y, .int z]) (qQi E A 0 (fun r u1 => (qFc [900, 901, 902, 908, 909, 604, 605, 606, 607, 608, 609, 311] [905, 906, 907, 601, 602, 603, 303, 304, 305, 306, 307] [] [904] u u1 ∧ IC E u1) ∧ (True))) 0 0 A := by
  refine q_met (own := RX11) (f := 8) [.ref (E.2.2 1199), .int x, .int y, .int z] (by decide) (Nat.le_of_ble_eq_true rfl) rfl ?_
  intro p0 e0 s0 m0 bl0 me0 cd0 ls hF hr hlocks hU hS hA hl
  have hl : lv_has ls 4 [(0, .ref (E.2.2 1199)), (1, .int x), (2, .int y), (3, .int z)] := hl
  have hz8 : 0 ≤ u.1 8 ∧ u.1 8 ≤ 20 := hI.1.s8
  have hz9 : 0 ≤ u.1 9 ∧ u.1 9 ≤ 8 := hI.1.s9
  have hz10 : 0 ≤ u.1 10 ∧ u.1 10 ≤ 120 := hI.1.s10
  have hz12 : 0 ≤ u.1 12 ∧ u.1 12 ≤ 16 := hI.1.s12
  have hfr : qFc [900, 901, 902, 908, 909, 604, 605, 606, 607, 608, 609, 311] [905, 906, 907, 601, 602, 603, 303, 304, 305, 306, 307] [] [904] u u := qFc.rf
  refine lv_aload_n hF.1 hF.2.1 dX11_doubt_0 rfl (lv_at hl 0 rfl) ?_
  refine q_get (v := .ref (E.2.2 399)) hF hU dX11_doubt_1 0 11 5 1105 1199 rfl rfl rfl rfl inX11 (by decide) (by decide) w_441 rfl rfl ?_
  have hM9 := g_X3_refresh l E A u  hI
  have hR9 := q_runV (l := l) (e := e0) (below := bl0) (meth := me0) (R := qR 8 0 0) (cells := 0) (slots := 0) (st0 := [.ref (E.2.2 399)]) (rest := []) hF hU hS hA 0 6 3 399 rfl rfl rfl hM9 w_931 w_932 w_933 w_105 w_934 (by decide +kernel) ⟨Nat.le_of_ble_eq_true rfl, Nat.le_of_ble_eq_true rfl⟩ dX11_doubt_4 rfl hl.1 rfl (Nat.le_of_ble_eq_true rfl) ⟨Nat.le_of_ble_eq_true rfl, Nat.le_of_ble_eq_true rfl⟩
  refine q_callv hR9 hU.2.2.2 hS (fun u_1 H locs hw_2 hU hS => ?_)
  obtain ⟨⟨hw_2_f, hI⟩, hw_2⟩ := hw_2
  have hfo := hfr
  have hfr : qFc [900, 901, 902, 908, 909, 604, 605, 606, 607, 608, 609, 311] [905, 906, 907, 601, 602, 603, 303, 304, 305, 306, 307] [] [904] u u_1 := hfr.trans (hw_2_f.mono (by decide) (by decide) (by decide) (by decide))
  have e_4 : u_1.2.1 306 = (u.2.1 306) := (hw_2_f.2.1 306 (by decide)).trans rfl
  have e_5 : u_1.2.1 307 = (u.2.1 307) := (hw_2_f.2.1 307 (by decide)).trans rfl
  refine lv_aload_n hF.1 hF.2.1 dX11_doubt_7 rfl (lv_at hl 0 rfl) ?_
  refine lv_iload_n hF.1 hF.2.1 dX11_doubt_8 rfl (lv_at hl 1 rfl) ?_
  refine lv_iload_n hF.1 hF.2.1 dX11_doubt_9 rfl (lv_at hl 2 rfl) ?_
  refine lv_iload_n hF.1 hF.2.1 dX11_doubt_10 rfl (lv_at hl 3 rfl) ?_
  have hM9 := g_X11_hasMean l E A u_1 x y z hI
  have hR9 := q_runV (l := l) (e := e0) (below := bl0) (meth := me0) (R := qR 8 0 0) (cells := 0) (slots := 0) (st0 := [.int z, .int y, .int x, .ref (E.2.2 1199)]) (rest := []) hF hU hS hA 3 0 11 1199 rfl rfl rfl hM9 w_1013 w_1015 w_35 w_99 w_1016 (by decide +kernel) ⟨Nat.le_of_ble_eq_true rfl, Nat.le_of_ble_eq_true rfl⟩ dX11_doubt_11 rfl hl.1 rfl (Nat.le_of_ble_eq_true rfl) ⟨Nat.le_of_ble_eq_true rfl, Nat.le_of_ble_eq_true rfl⟩
  refine q_calli hR9 hU.2.2.2 hS (fun r_8 u_6 H locs hw_7 hU hS => ?_)
  obtain ⟨⟨hw_7_f, hI⟩, hw_7⟩ := hw_7
  have hfo := hfr
  have hfr : qFc [900, 901, 902, 908, 909, 604, 605, 606, 607, 608, 609, 311] [905, 906, 907, 601, 602, 603, 303, 304, 305, 306, 307] [] [904] u u_6 := hfr.trans (hw_7_f.mono (by decide) (by decide) (by decide) (by decide))
  have e_9 : u_6.1 311 = (u_1.1 311) := (hw_7_f.1 311 (by decide)).trans rfl
  have e_10 : u_6.1 604 = (u_1.1 604) := (hw_7_f.1 604 (by decide)).trans rfl
  have e_11 : u_6.1 605 = (u_1.1 605) := (hw_7_f.1 605 (by decide)).trans rfl
  have e_12 : u_6.1 606 = (u_1.1 606) := (hw_7_f.1 606 (by decide)).trans rfl
  have e_13 : u_6.1 607 = (u_1.1 607) := (hw_7_f.1 607 (by decide)).trans rfl
  have e_14 : u_6.1 608 = (u_1.1 608) := (hw_7_f.1 608 (by decide)).trans rfl
  have e_15 : u_6.1 609 = (u_1.1 609) := (hw_7_f.1 609 (by decide)).trans rfl
  have e_16 : u_6.1 900 = (u_1.1 900) := (hw_7_f.1 900 (by decide)).trans rfl
  have e_17 : u_6.1 901 = (u_1.1 901) := (hw_7_f.1 901 (by decide)).trans rfl
  have e_18 : u_6.1 902 = (u_1.1 902) := (hw_7_f.1 902 (by decide)).trans rfl
  have e_19 : u_6.1 908 = (u_1.1 908) := (hw_7_f.1 908 (by decide)).trans rfl
  have e_20 : u_6.1 909 = (u_1.1 909) := (hw_7_f.1 909 (by decide)).trans rfl
  have e_21 : u_6.2.1 303 = (u_1.2.1 303) := (hw_7_f.2.1 303 (by decide)).trans rfl
  have e_22 : u_6.2.1 304 = (u_1.2.1 304) := (hw_7_f.2.1 304 (by decide)).trans rfl
  have e_23 : u_6.2.1 305 = (u_1.2.1 305) := (hw_7_f.2.1 305 (by decide)).trans rfl
  have e_24 : u_6.2.1 601 = (u_1.2.1 601) := (hw_7_f.2.1 601 (by decide)).trans rfl
  have e_25 : u_6.2.1 602 = (u_1.2.1 602) := (hw_7_f.2.1 602 (by decide)).trans rfl
  have e_26 : u_6.2.1 603 = (u_1.2.1 603) := (hw_7_f.2.1 603 (by decide)).trans rfl
  have e_27 : u_6.2.1 905 = (u_1.2.1 905) := (hw_7_f.2.1 905 (by decide)).trans rfl
  have e_28 : u_6.2.1 906 = (u_1.2.1 906) := (hw_7_f.2.1 906 (by decide)).trans rfl
  have e_29 : u_6.2.1 907 = (u_1.2.1 907) := (hw_7_f.2.1 907 (by decide)).trans rfl
  have hw_7 : (r_8 = 1 ∧ (0 ≤ x ∧ x < (u.1 8 : Int32))) ∨ (r_8 = 0 ∧ (True)) := by rw [(hfo.1 8 (by decide))] at hw_7; exact hw_7
  rcases hw_7 with ⟨rfl, b11_30⟩ | ⟨rfl, b11_30⟩
  · refine lv_if_eq (tgt := 32) hF.1 hF.2.1 dX11_doubt_14 (by decide) (fun h9 => absurd h9 (by decide)) (fun _ => ?_)
    refine lv_aload_n hF.1 hF.2.1 dX11_doubt_17 rfl (lv_at hl 0 rfl) ?_
    refine q_get (v := .ref (E.2.2 399)) hF hU dX11_doubt_18 0 11 5 1105 1199 rfl rfl rfl rfl inX11 (by decide) (by decide) w_441 rfl rfl ?_
    refine lv_iload_n hF.1 hF.2.1 dX11_doubt_21 rfl (lv_at hl 1 rfl) ?_
    refine lv_aload_n hF.1 hF.2.1 dX11_doubt_22 rfl (lv_at hl 0 rfl) ?_
    refine q_get (v := .int (u.1 1108)) hF hU dX11_doubt_23 0 11 8 1108 1199 rfl rfl rfl rfl inX11 (by decide) (by decide) w_444 rfl (congrArg Value.int (hfr.1 1108 (by decide))) ?_
    have hM9 := g_X3_doubtOf l E A u_6 x (u.1 1108) hI (by rw [(hfr.1 8 (by decide))]; exact (g_X11_doubt_v0 u x y z hz8 hz9 hz10 hz12 b11_30))
    have hR9 := q_runV (l := l) (e := e0) (below := bl0) (meth := me0) (R := qR 8 0 0) (cells := 0) (slots := 0) (st0 := [.int (u.1 1108), .int x, .ref (E.2.2 399)]) (rest := []) hF hU hS hA 2 6 3 399 rfl rfl rfl hM9 w_1037 w_1038 w_1039 w_105 w_1040 (by decide +kernel) ⟨Nat.le_of_ble_eq_true rfl, Nat.le_of_ble_eq_true rfl⟩ dX11_doubt_26 rfl hl.1 rfl (Nat.le_of_ble_eq_true rfl) ⟨Nat.le_of_ble_eq_true rfl, Nat.le_of_ble_eq_true rfl⟩
    refine q_calli hR9 hU.2.2.2 hS (fun r_33 u_31 H locs hw_32 hU hS => ?_)
    obtain ⟨hw_32_e, hw_32⟩ := hw_32
    rw [hw_32_e] at hU
    refine lv_goto (tgt := 33) hF.1 hF.2.1 dX11_doubt_29 (by decide) ?_
    exact q_iret hF hr rfl hlocks hU hS dX11_doubt_33 ⟨⟨hfr, hI⟩, trivial⟩
  · refine lv_if_eq (tgt := 32) hF.1 hF.2.1 dX11_doubt_14 (by decide) (fun _ => ?_) (fun h9 => absurd (by decide) h9)
    refine lv_iconst (v := (-1)) hF.1 hF.2.1 dX11_doubt_32 (by decide) ?_
    exact q_iret hF hr rfl hlocks hU hS dX11_doubt_33 ⟨⟨hfr, hI⟩, trivial⟩
set_option maxRecDepth 100000 in
theorem g_X11_apart_v0 (u : qS) (x : Int32) (y : Int32) (z : Int32) (w : Int32) (hz8 : 0 ≤ u.1 8 ∧ u.1 8 ≤ 20) (hz9 : 0 ≤ u.1 9 ∧ u.1 9 ≤ 8) (hz10 : 0 ≤ u.1 10 ∧ u.1 10 ≤ 120) (hz12 : 0 ≤ u.1 12 ∧ u.1 12 ≤ 16) (c9_6 : ¬ (x : Int32) = y) (b17_31 : 0 ≤ x ∧ x < (u.1 8 : Int32)) (b28_35 : 0 ≤ y ∧ y < (u.1 8 : Int32)) : 0 ≤ y ∧ y < (u.1 8 : Int32) := by
  first | omega | ((try simp only [g_m1, Int32.lt_iff_toInt_lt, Int32.le_iff_toInt_le, ← Int32.toInt_inj, Int32.reduceToInt] at *); omega) | ((try simp only [g_m1, Int32.lt_iff_toInt_lt, Int32.le_iff_toInt_le, ← Int32.toInt_inj, Int32.reduceToInt] at *); omega) | ((try simp only [g_m1, Int32.lt_iff_toInt_lt, Int32.le_iff_toInt_le, ← Int32.toInt_inj, Int32.toInt_add, Int32.toInt_sub, Int32.toInt_mul, Int32.toInt_neg, Int32.reduceToInt, g_bm, g_bm'] at *); omega) | (have qr1 := g_rng x; have qr2 := g_rng y; have qr3 := g_rng z; have qr4 := g_rng w; (try simp only [g_m1, Int32.lt_iff_toInt_lt, Int32.le_iff_toInt_le, ← Int32.toInt_inj, Int32.toInt_add, Int32.toInt_sub, Int32.toInt_mul, Int32.toInt_neg, Int32.reduceToInt, g_bm, g_bm'] at *); omega) | (simp only [g_m1, Int32.lt_iff_toInt_lt, Int32.le_iff_toInt_le, ← Int32.toInt_inj, Int32.toInt_add, Int32.toInt_sub, Int32.toInt_mul, Int32.toInt_neg, Int32.reduceToInt, g_bm, g_bm'] at *; simp at *; omega) | (simp_all; done)
set_option maxRecDepth 100000 in
theorem g_X11_apart_v1 (u : qS) (x : Int32) (y : Int32) (z : Int32) (w : Int32) (hz8 : 0 ≤ u.1 8 ∧ u.1 8 ≤ 20) (hz9 : 0 ≤ u.1 9 ∧ u.1 9 ≤ 8) (hz10 : 0 ≤ u.1 10 ∧ u.1 10 ≤ 120) (hz12 : 0 ≤ u.1 12 ∧ u.1 12 ≤ 16) (c9_6 : ¬ (x : Int32) = y) (b17_31 : 0 ≤ x ∧ x < (u.1 8 : Int32)) (b28_35 : 0 ≤ y ∧ y < (u.1 8 : Int32)) : 0 ≤ x ∧ x < (u.1 8 : Int32) := by
  first | omega | ((try simp only [g_m1, Int32.lt_iff_toInt_lt, Int32.le_iff_toInt_le, ← Int32.toInt_inj, Int32.reduceToInt] at *); omega) | ((try simp only [g_m1, Int32.lt_iff_toInt_lt, Int32.le_iff_toInt_le, ← Int32.toInt_inj, Int32.reduceToInt] at *); omega) | ((try simp only [g_m1, Int32.lt_iff_toInt_lt, Int32.le_iff_toInt_le, ← Int32.toInt_inj, Int32.toInt_add, Int32.toInt_sub, Int32.toInt_mul, Int32.toInt_neg, Int32.reduceToInt, g_bm, g_bm'] at *); omega) | (have qr1 := g_rng x; have qr2 := g_rng y; have qr3 := g_rng z; have qr4 := g_rng w; (try simp only [g_m1, Int32.lt_iff_toInt_lt, Int32.le_iff_toInt_le, ← Int32.toInt_inj, Int32.toInt_add, Int32.toInt_sub, Int32.toInt_mul, Int32.toInt_neg, Int32.reduceToInt, g_bm, g_bm'] at *); omega) | (simp only [g_m1, Int32.lt_iff_toInt_lt, Int32.le_iff_toInt_le, ← Int32.toInt_inj, Int32.toInt_add, Int32.toInt_sub, Int32.toInt_mul, Int32.toInt_neg, Int32.reduceToInt, g_bm, g_bm'] at *; simp at *; omega) | (simp_all; done)
set_option maxRecDepth 100000 in
theorem g_X11_apart_v2 (u : qS) (x : Int32) (y : Int32) (z : Int32) (w : Int32) (hz8 : 0 ≤ u.1 8 ∧ u.1 8 ≤ 20) (hz9 : 0 ≤ u.1 9 ∧ u.1 9 ≤ 8) (hz10 : 0 ≤ u.1 10 ∧ u.1 10 ≤ 120) (hz12 : 0 ≤ u.1 12 ∧ u.1 12 ≤ 16) (c9_6 : ¬ (x : Int32) = y) (b17_31 : 0 ≤ x ∧ x < (u.1 8 : Int32)) (b28_35 : 0 ≤ y ∧ y < (u.1 8 : Int32)) : 0 ≤ y ∧ y < (u.1 8 : Int32) := by
  first | omega | ((try simp only [g_m1, Int32.lt_iff_toInt_lt, Int32.le_iff_toInt_le, ← Int32.toInt_inj, Int32.reduceToInt] at *); omega) | ((try simp only [g_m1, Int32.lt_iff_toInt_lt, Int32.le_iff_toInt_le, ← Int32.toInt_inj, Int32.reduceToInt] at *); omega) | ((try simp only [g_m1, Int32.lt_iff_toInt_lt, Int32.le_iff_toInt_le, ← Int32.toInt_inj, Int32.toInt_add, Int32.toInt_sub, Int32.toInt_mul, Int32.toInt_neg, Int32.reduceToInt, g_bm, g_bm'] at *); omega) | (have qr1 := g_rng x; have qr2 := g_rng y; have qr3 := g_rng z; have qr4 := g_rng w; (try simp only [g_m1, Int32.lt_iff_toInt_lt, Int32.le_iff_toInt_le, ← Int32.toInt_inj, Int32.toInt_add, Int32.toInt_sub, Int32.toInt_mul, Int32.toInt_neg, Int32.reduceToInt, g_bm, g_bm'] at *); omega) | (simp only [g_m1, Int32.lt_iff_toInt_lt, Int32.le_iff_toInt_le, ← Int32.toInt_inj, Int32.toInt_add, Int32.toInt_sub, Int32.toInt_mul, Int32.toInt_neg, Int32.reduceToInt, g_bm, g_bm'] at *; simp at *; omega) | (simp_all; done)
set_option maxRecDepth 100000 in
theorem g_X11_apart_v3 (u : qS) (x : Int32) (y : Int32) (z : Int32) (w : Int32) (hz8 : 0 ≤ u.1 8 ∧ u.1 8 ≤ 20) (hz9 : 0 ≤ u.1 9 ∧ u.1 9 ≤ 8) (hz10 : 0 ≤ u.1 10 ∧ u.1 10 ≤ 120) (hz12 : 0 ≤ u.1 12 ∧ u.1 12 ≤ 16) (c9_6 : ¬ (x : Int32) = y) (b17_31 : 0 ≤ x ∧ x < (u.1 8 : Int32)) (b28_35 : 0 ≤ y ∧ y < (u.1 8 : Int32)) : 0 ≤ y ∧ y < (u.1 8 : Int32) := by
  first | omega | ((try simp only [g_m1, Int32.lt_iff_toInt_lt, Int32.le_iff_toInt_le, ← Int32.toInt_inj, Int32.reduceToInt] at *); omega) | ((try simp only [g_m1, Int32.lt_iff_toInt_lt, Int32.le_iff_toInt_le, ← Int32.toInt_inj, Int32.reduceToInt] at *); omega) | ((try simp only [g_m1, Int32.lt_iff_toInt_lt, Int32.le_iff_toInt_le, ← Int32.toInt_inj, Int32.toInt_add, Int32.toInt_sub, Int32.toInt_mul, Int32.toInt_neg, Int32.reduceToInt, g_bm, g_bm'] at *); omega) | (have qr1 := g_rng x; have qr2 := g_rng y; have qr3 := g_rng z; have qr4 := g_rng w; (try simp only [g_m1, Int32.lt_iff_toInt_lt, Int32.le_iff_toInt_le, ← Int32.toInt_inj, Int32.toInt_add, Int32.toInt_sub, Int32.toInt_mul, Int32.toInt_neg, Int32.reduceToInt, g_bm, g_bm'] at *); omega) | (simp only [g_m1, Int32.lt_iff_toInt_lt, Int32.le_iff_toInt_le, ← Int32.toInt_inj, Int32.toInt_add, Int32.toInt_sub, Int32.toInt_mul, Int32.toInt_neg, Int32.reduceToInt, g_bm, g_bm'] at *; simp at *; omega) | (simp_all; done)
set_option maxRecDepth 100000 in
theorem g_X11_apart_v4 (u : qS) (x : Int32) (y : Int32) (z : Int32) (w : Int32) (hz8 : 0 ≤ u.1 8 ∧ u.1 8 ≤ 20) (hz9 : 0 ≤ u.1 9 ∧ u.1 9 ≤ 8) (hz10 : 0 ≤ u.1 10 ∧ u.1 10 ≤ 120) (hz12 : 0 ≤ u.1 12 ∧ u.1 12 ≤ 16) (c9_6 : ¬ (x : Int32) = y) (b17_31 : 0 ≤ x ∧ x < (u.1 8 : Int32)) (b28_35 : 0 ≤ y ∧ y < (u.1 8 : Int32)) : 0 ≤ x ∧ x < (u.1 8 : Int32) := by
  first | omega | ((try simp only [g_m1, Int32.lt_iff_toInt_lt, Int32.le_iff_toInt_le, ← Int32.toInt_inj, Int32.reduceToInt] at *); omega) | ((try simp only [g_m1, Int32.lt_iff_toInt_lt, Int32.le_iff_toInt_le, ← Int32.toInt_inj, Int32.reduceToInt] at *); omega) | ((try simp only [g_m1, Int32.lt_iff_toInt_lt, Int32.le_iff_toInt_le, ← Int32.toInt_inj, Int32.toInt_add, Int32.toInt_sub, Int32.toInt_mul, Int32.toInt_neg, Int32.reduceToInt, g_bm, g_bm'] at *); omega) | (have qr1 := g_rng x; have qr2 := g_rng y; have qr3 := g_rng z; have qr4 := g_rng w; (try simp only [g_m1, Int32.lt_iff_toInt_lt, Int32.le_iff_toInt_le, ← Int32.toInt_inj, Int32.toInt_add, Int32.toInt_sub, Int32.toInt_mul, Int32.toInt_neg, Int32.reduceToInt, g_bm, g_bm'] at *); omega) | (simp only [g_m1, Int32.lt_iff_toInt_lt, Int32.le_iff_toInt_le, ← Int32.toInt_inj, Int32.toInt_add, Int32.toInt_sub, Int32.toInt_mul, Int32.toInt_neg, Int32.reduceToInt, g_bm, g_bm'] at *; simp at *; omega) | (simp_all; done)
set_option maxHeartbeats 1000000 in
set_option maxRecDepth 100000 in
theorem g_X11_apart (l : Launch) (E : qE) (A : Nat → Prop) (u : qS) (x : Int32) (y : Int32) (z : Int32) (w : Int32) (hI : IC E u) : Met l yX11_apart (uws yX11_apart cX11_apart 5 (some .int)) (qR 8 0 0) (qPc E A 0 u [.ref (E.2.2 1199), .int x, .int y, .int z, .int w]) (qQi E A 0 (fun r u1 => (qFc [900, 901, 902, 908, 909, 604, 605, 606, 607, 608, 609, 311] [905, 906, 907, 601, 602, 603, 303, 304, 305, 306, 307] [] [904] u u1 ∧ IC E u1) ∧ (True))) 0 0 A := by
  refine q_met (own := RX11) (f := 8) [.ref (E.2.2 1199), .int x, .int y, .int z, .int w] (by decide) (Nat.le_of_ble_eq_true rfl) rfl ?_
  intro p0 e0 s0 m0 bl0 me0 cd0 ls hF hr hlocks hU hS hA hl
  have hl : lv_has ls 5 [(0, .ref (E.2.2 1199)), (1, .int x), (2, .int y), (3, .int z), (4, .int w)] := hl
  have hz8 : 0 ≤ u.1 8 ∧ u.1 8 ≤ 20 := hI.1.s8
  have hz9 : 0 ≤ u.1 9 ∧ u.1 9 ≤ 8 := hI.1.s9
  have hz10 : 0 ≤ u.1 10 ∧ u.1 10 ≤ 120 := hI.1.s10
  have hz12 : 0 ≤ u.1 12 ∧ u.1 12 ≤ 16 := hI.1.s12
  have hfr : qFc [900, 901, 902, 908, 909, 604, 605, 606, 607, 608, 609, 311] [905, 906, 907, 601, 602, 603, 303, 304, 305, 306, 307] [] [904] u u := qFc.rf
  refine lv_aload_n hF.1 hF.2.1 dX11_apart_0 rfl (lv_at hl 0 rfl) ?_
  refine q_get (v := .ref (E.2.2 399)) hF hU dX11_apart_1 0 11 5 1105 1199 rfl rfl rfl rfl inX11 (by decide) (by decide) w_441 rfl rfl ?_
  have hM9 := g_X3_refresh l E A u  hI
  have hR9 := q_runV (l := l) (e := e0) (below := bl0) (meth := me0) (R := qR 8 0 0) (cells := 0) (slots := 0) (st0 := [.ref (E.2.2 399)]) (rest := []) hF hU hS hA 0 6 3 399 rfl rfl rfl hM9 w_931 w_932 w_933 w_105 w_934 (by decide +kernel) ⟨Nat.le_of_ble_eq_true rfl, Nat.le_of_ble_eq_true rfl⟩ dX11_apart_4 rfl hl.1 rfl (Nat.le_of_ble_eq_true rfl) ⟨Nat.le_of_ble_eq_true rfl, Nat.le_of_ble_eq_true rfl⟩
  refine q_callv hR9 hU.2.2.2 hS (fun u_1 H locs hw_2 hU hS => ?_)
  obtain ⟨⟨hw_2_f, hI⟩, hw_2⟩ := hw_2
  have hfo := hfr
  have hfr : qFc [900, 901, 902, 908, 909, 604, 605, 606, 607, 608, 609, 311] [905, 906, 907, 601, 602, 603, 303, 304, 305, 306, 307] [] [904] u u_1 := hfr.trans (hw_2_f.mono (by decide) (by decide) (by decide) (by decide))
  have e_4 : u_1.2.1 306 = (u.2.1 306) := (hw_2_f.2.1 306 (by decide)).trans rfl
  have e_5 : u_1.2.1 307 = (u.2.1 307) := (hw_2_f.2.1 307 (by decide)).trans rfl
  refine lv_iload_n hF.1 hF.2.1 dX11_apart_7 rfl (lv_at hl 1 rfl) ?_
  refine lv_iload_n hF.1 hF.2.1 dX11_apart_8 rfl (lv_at hl 2 rfl) ?_
  refine lv_icmp_eq (tgt := 45) hF.1 hF.2.1 dX11_apart_9 (by decide) (fun c9_6 => ?_) (fun c9_6 => ?_)
  · refine lv_iconst (v := (-1)) hF.1 hF.2.1 dX11_apart_45 (by decide) ?_
    exact q_iret hF hr rfl hlocks hU hS dX11_apart_46 ⟨⟨hfr, hI⟩, trivial⟩
  · refine lv_aload_n hF.1 hF.2.1 dX11_apart_12 rfl (lv_at hl 0 rfl) ?_
    refine lv_iload_n hF.1 hF.2.1 dX11_apart_13 rfl (lv_at hl 1 rfl) ?_
    refine lv_iload_n hF.1 hF.2.1 dX11_apart_14 rfl (lv_at hl 3 rfl) ?_
    refine lv_iload hF.1 hF.2.1 dX11_apart_15 (lv_at hl 4 rfl) ?_
    have hM9 := g_X11_hasMean l E A u_1 x z w hI
    have hR9 := q_runV (l := l) (e := e0) (below := bl0) (meth := me0) (R := qR 8 0 0) (cells := 0) (slots := 0) (st0 := [.int w, .int z, .int x, .ref (E.2.2 1199)]) (rest := []) hF hU hS hA 3 0 11 1199 rfl rfl rfl hM9 w_1013 w_1015 w_35 w_99 w_1016 (by decide +kernel) ⟨Nat.le_of_ble_eq_true rfl, Nat.le_of_ble_eq_true rfl⟩ dX11_apart_17 rfl hl.1 rfl (Nat.le_of_ble_eq_true rfl) ⟨Nat.le_of_ble_eq_true rfl, Nat.le_of_ble_eq_true rfl⟩
    refine q_calli hR9 hU.2.2.2 hS (fun r_9 u_7 H locs hw_8 hU hS => ?_)
    obtain ⟨⟨hw_8_f, hI⟩, hw_8⟩ := hw_8
    have hfo := hfr
    have hfr : qFc [900, 901, 902, 908, 909, 604, 605, 606, 607, 608, 609, 311] [905, 906, 907, 601, 602, 603, 303, 304, 305, 306, 307] [] [904] u u_7 := hfr.trans (hw_8_f.mono (by decide) (by decide) (by decide) (by decide))
    have e_10 : u_7.1 311 = (u_1.1 311) := (hw_8_f.1 311 (by decide)).trans rfl
    have e_11 : u_7.1 604 = (u_1.1 604) := (hw_8_f.1 604 (by decide)).trans rfl
    have e_12 : u_7.1 605 = (u_1.1 605) := (hw_8_f.1 605 (by decide)).trans rfl
    have e_13 : u_7.1 606 = (u_1.1 606) := (hw_8_f.1 606 (by decide)).trans rfl
    have e_14 : u_7.1 607 = (u_1.1 607) := (hw_8_f.1 607 (by decide)).trans rfl
    have e_15 : u_7.1 608 = (u_1.1 608) := (hw_8_f.1 608 (by decide)).trans rfl
    have e_16 : u_7.1 609 = (u_1.1 609) := (hw_8_f.1 609 (by decide)).trans rfl
    have e_17 : u_7.1 900 = (u_1.1 900) := (hw_8_f.1 900 (by decide)).trans rfl
    have e_18 : u_7.1 901 = (u_1.1 901) := (hw_8_f.1 901 (by decide)).trans rfl
    have e_19 : u_7.1 902 = (u_1.1 902) := (hw_8_f.1 902 (by decide)).trans rfl
    have e_20 : u_7.1 908 = (u_1.1 908) := (hw_8_f.1 908 (by decide)).trans rfl
    have e_21 : u_7.1 909 = (u_1.1 909) := (hw_8_f.1 909 (by decide)).trans rfl
    have e_22 : u_7.2.1 303 = (u_1.2.1 303) := (hw_8_f.2.1 303 (by decide)).trans rfl
    have e_23 : u_7.2.1 304 = (u_1.2.1 304) := (hw_8_f.2.1 304 (by decide)).trans rfl
    have e_24 : u_7.2.1 305 = (u_1.2.1 305) := (hw_8_f.2.1 305 (by decide)).trans rfl
    have e_25 : u_7.2.1 601 = (u_1.2.1 601) := (hw_8_f.2.1 601 (by decide)).trans rfl
    have e_26 : u_7.2.1 602 = (u_1.2.1 602) := (hw_8_f.2.1 602 (by decide)).trans rfl
    have e_27 : u_7.2.1 603 = (u_1.2.1 603) := (hw_8_f.2.1 603 (by decide)).trans rfl
    have e_28 : u_7.2.1 905 = (u_1.2.1 905) := (hw_8_f.2.1 905 (by decide)).trans rfl
    have e_29 : u_7.2.1 906 = (u_1.2.1 906) := (hw_8_f.2.1 906 (by decide)).trans rfl
    have e_30 : u_7.2.1 907 = (u_1.2.1 907) := (hw_8_f.2.1 907 (by decide)).trans rfl
    have hw_8 : (r_9 = 1 ∧ (0 ≤ x ∧ x < (u.1 8 : Int32))) ∨ (r_9 = 0 ∧ (True)) := by rw [(hfo.1 8 (by decide))] at hw_8; exact hw_8
    rcases hw_8 with ⟨rfl, b17_31⟩ | ⟨rfl, b17_31⟩
    · refine lv_if_eq (tgt := 45) hF.1 hF.2.1 dX11_apart_20 (by decide) (fun h9 => absurd h9 (by decide)) (fun _ => ?_)
      refine lv_aload_n hF.1 hF.2.1 dX11_apart_23 rfl (lv_at hl 0 rfl) ?_
      refine q_get (v := .ref (E.2.2 99)) hF hU dX11_apart_24 0 11 0 1100 1199 rfl rfl rfl rfl inX11 (by decide) (by decide) w_436 rfl rfl ?_
      refine lv_iload_n hF.1 hF.2.1 dX11_apart_27 rfl (lv_at hl 2 rfl) ?_
      have hM9 := g_X0_hasShop l E A u_7 y hI
      have hR9 := q_runV (l := l) (e := e0) (below := bl0) (meth := me0) (R := qR 8 0 0) (cells := 0) (slots := 0) (st0 := [.int y, .ref (E.2.2 99)]) (rest := []) hF hU hS hA 1 1 0 99 rfl rfl rfl hM9 w_563 w_564 w_565 w_100 w_566 (by decide +kernel) ⟨Nat.le_of_ble_eq_true rfl, Nat.le_of_ble_eq_true rfl⟩ dX11_apart_28 rfl hl.1 rfl (Nat.le_of_ble_eq_true rfl) ⟨Nat.le_of_ble_eq_true rfl, Nat.le_of_ble_eq_true rfl⟩
      refine q_calli hR9 hU.2.2.2 hS (fun r_34 u_32 H locs hw_33 hU hS => ?_)
      obtain ⟨hw_33_e, hw_33⟩ := hw_33
      rw [hw_33_e] at hU
      have hw_33 : (r_34 = 1 ∧ (0 ≤ y ∧ y < (u.1 8 : Int32))) ∨ (r_34 = 0 ∧ (¬ (0 ≤ y ∧ y < (u.1 8 : Int32)))) := by rw [(hfr.1 8 (by decide))] at hw_33; exact hw_33
      rcases hw_33 with ⟨rfl, b28_35⟩ | ⟨rfl, b28_35⟩
      · refine lv_if_eq (tgt := 45) hF.1 hF.2.1 dX11_apart_31 (by decide) (fun h9 => absurd h9 (by decide)) (fun _ => ?_)
        refine lv_aload_n hF.1 hF.2.1 dX11_apart_34 rfl (lv_at hl 0 rfl) ?_
        refine q_get (v := .ref (E.2.2 399)) hF hU dX11_apart_35 0 11 5 1105 1199 rfl rfl rfl rfl inX11 (by decide) (by decide) w_441 rfl rfl ?_
        refine lv_iload_n hF.1 hF.2.1 dX11_apart_38 rfl (lv_at hl 2 rfl) ?_
        have hM9 := g_X3_isMet l E A u_7 y hI (by rw [(hfr.1 8 (by decide))]; exact (g_X11_apart_v0 u x y z w hz8 hz9 hz10 hz12 c9_6 b17_31 b28_35))
        have hR9 := q_runV (l := l) (e := e0) (below := bl0) (meth := me0) (R := qR 8 0 0) (cells := 0) (slots := 0) (st0 := [.int y, .ref (E.2.2 399)]) (rest := []) hF hU hS hA 1 6 3 399 rfl rfl rfl hM9 w_1033 w_1034 w_1035 w_105 w_1036 (by decide +kernel) ⟨Nat.le_of_ble_eq_true rfl, Nat.le_of_ble_eq_true rfl⟩ dX11_apart_39 rfl hl.1 rfl (Nat.le_of_ble_eq_true rfl) ⟨Nat.le_of_ble_eq_true rfl, Nat.le_of_ble_eq_true rfl⟩
        refine q_calli hR9 hU.2.2.2 hS (fun r_38 u_36 H locs hw_37 hU hS => ?_)
        obtain ⟨hw_37_e, hw_37⟩ := hw_37
        rw [hw_37_e] at hU
        rcases hw_37 with rfl | rfl
        · refine lv_if_ne (tgt := 47) hF.1 hF.2.1 dX11_apart_42 (by decide) (fun _ => ?_) (fun h9 => absurd h9 (by decide))
          refine lv_aload_n hF.1 hF.2.1 dX11_apart_47 rfl (lv_at hl 0 rfl) ?_
          refine q_get (v := .ref (E.2.2 399)) hF hU dX11_apart_48 0 11 5 1105 1199 rfl rfl rfl rfl inX11 (by decide) (by decide) w_441 rfl rfl ?_
          refine lv_iload_n hF.1 hF.2.1 dX11_apart_51 rfl (lv_at hl 1 rfl) ?_
          refine lv_iload_n hF.1 hF.2.1 dX11_apart_52 rfl (lv_at hl 2 rfl) ?_
          refine lv_aload_n hF.1 hF.2.1 dX11_apart_53 rfl (lv_at hl 0 rfl) ?_
          refine q_get (v := .int (u.1 1108)) hF hU dX11_apart_54 0 11 8 1108 1199 rfl rfl rfl rfl inX11 (by decide) (by decide) w_444 rfl (congrArg Value.int (hfr.1 1108 (by decide))) ?_
          have hM9 := g_X3_isLess l E A u_7 x y (u.1 1108) hI (by rw [(hfr.1 8 (by decide))]; exact (g_X11_apart_v1 u x y z w hz8 hz9 hz10 hz12 c9_6 b17_31 b28_35)) (by rw [(hfr.1 8 (by decide))]; exact (g_X11_apart_v2 u x y z w hz8 hz9 hz10 hz12 c9_6 b17_31 b28_35))
          have hR9 := q_runV (l := l) (e := e0) (below := bl0) (meth := me0) (R := qR 8 0 0) (cells := 0) (slots := 0) (st0 := [.int (u.1 1108), .int y, .int x, .ref (E.2.2 399)]) (rest := []) hF hU hS hA 3 6 3 399 rfl rfl rfl hM9 w_1045 w_1046 w_1047 w_105 w_1048 (by decide +kernel) ⟨Nat.le_of_ble_eq_true rfl, Nat.le_of_ble_eq_true rfl⟩ dX11_apart_57 rfl hl.1 rfl (Nat.le_of_ble_eq_true rfl) ⟨Nat.le_of_ble_eq_true rfl, Nat.le_of_ble_eq_true rfl⟩
          refine q_calli hR9 hU.2.2.2 hS (fun r_42 u_40 H locs hw_41 hU hS => ?_)
          obtain ⟨hw_41_e, hw_41⟩ := hw_41
          rw [hw_41_e] at hU
          rcases hw_41 with rfl | rfl
          · refine lv_if_eq (tgt := 65) hF.1 hF.2.1 dX11_apart_60 (by decide) (fun h9 => absurd h9 (by decide)) (fun _ => ?_)
            refine lv_iconst (v := 1) hF.1 hF.2.1 dX11_apart_63 (by decide) ?_
            exact q_iret hF hr rfl hlocks hU hS dX11_apart_64 ⟨⟨hfr, hI⟩, trivial⟩
          · refine lv_if_eq (tgt := 65) hF.1 hF.2.1 dX11_apart_60 (by decide) (fun _ => ?_) (fun h9 => absurd (by decide) h9)
            refine lv_aload_n hF.1 hF.2.1 dX11_apart_65 rfl (lv_at hl 0 rfl) ?_
            refine q_get (v := .ref (E.2.2 399)) hF hU dX11_apart_66 0 11 5 1105 1199 rfl rfl rfl rfl inX11 (by decide) (by decide) w_441 rfl rfl ?_
            refine lv_iload_n hF.1 hF.2.1 dX11_apart_69 rfl (lv_at hl 2 rfl) ?_
            refine lv_iload_n hF.1 hF.2.1 dX11_apart_70 rfl (lv_at hl 1 rfl) ?_
            refine lv_aload_n hF.1 hF.2.1 dX11_apart_71 rfl (lv_at hl 0 rfl) ?_
            refine q_get (v := .int (u.1 1108)) hF hU dX11_apart_72 0 11 8 1108 1199 rfl rfl rfl rfl inX11 (by decide) (by decide) w_444 rfl (congrArg Value.int (hfr.1 1108 (by decide))) ?_
            have hM9 := g_X3_isLess l E A u_7 y x (u.1 1108) hI (by rw [(hfr.1 8 (by decide))]; exact (g_X11_apart_v3 u x y z w hz8 hz9 hz10 hz12 c9_6 b17_31 b28_35)) (by rw [(hfr.1 8 (by decide))]; exact (g_X11_apart_v4 u x y z w hz8 hz9 hz10 hz12 c9_6 b17_31 b28_35))
            have hR9 := q_runV (l := l) (e := e0) (below := bl0) (meth := me0) (R := qR 8 0 0) (cells := 0) (slots := 0) (st0 := [.int (u.1 1108), .int x, .int y, .ref (E.2.2 399)]) (rest := []) hF hU hS hA 3 6 3 399 rfl rfl rfl hM9 w_1045 w_1046 w_1047 w_105 w_1048 (by decide +kernel) ⟨Nat.le_of_ble_eq_true rfl, Nat.le_of_ble_eq_true rfl⟩ dX11_apart_75 rfl hl.1 rfl (Nat.le_of_ble_eq_true rfl) ⟨Nat.le_of_ble_eq_true rfl, Nat.le_of_ble_eq_true rfl⟩
            refine q_calli hR9 hU.2.2.2 hS (fun r_46 u_44 H locs hw_45 hU hS => ?_)
            obtain ⟨hw_45_e, hw_45⟩ := hw_45
            rw [hw_45_e] at hU
            rcases hw_45 with rfl | rfl
            · refine lv_if_eq (tgt := 85) hF.1 hF.2.1 dX11_apart_78 (by decide) (fun h9 => absurd h9 (by decide)) (fun _ => ?_)
              refine lv_iconst (v := 2) hF.1 hF.2.1 dX11_apart_81 (by decide) ?_
              refine lv_goto (tgt := 86) hF.1 hF.2.1 dX11_apart_82 (by decide) ?_
              exact q_iret hF hr rfl hlocks hU hS dX11_apart_86 ⟨⟨hfr, hI⟩, trivial⟩
            · refine lv_if_eq (tgt := 85) hF.1 hF.2.1 dX11_apart_78 (by decide) (fun _ => ?_) (fun h9 => absurd (by decide) h9)
              refine lv_iconst (v := 0) hF.1 hF.2.1 dX11_apart_85 (by decide) ?_
              exact q_iret hF hr rfl hlocks hU hS dX11_apart_86 ⟨⟨hfr, hI⟩, trivial⟩
        · refine lv_if_ne (tgt := 47) hF.1 hF.2.1 dX11_apart_42 (by decide) (fun h9 => absurd (by decide) h9) (fun _ => ?_)
          refine lv_iconst (v := (-1)) hF.1 hF.2.1 dX11_apart_45 (by decide) ?_
          exact q_iret hF hr rfl hlocks hU hS dX11_apart_46 ⟨⟨hfr, hI⟩, trivial⟩
      · refine lv_if_eq (tgt := 45) hF.1 hF.2.1 dX11_apart_31 (by decide) (fun _ => ?_) (fun h9 => absurd (by decide) h9)
        refine lv_iconst (v := (-1)) hF.1 hF.2.1 dX11_apart_45 (by decide) ?_
        exact q_iret hF hr rfl hlocks hU hS dX11_apart_46 ⟨⟨hfr, hI⟩, trivial⟩
    · refine lv_if_eq (tgt := 45) hF.1 hF.2.1 dX11_apart_20 (by decide) (fun _ => ?_) (fun h9 => absurd (by decide) h9)
      refine lv_iconst (v := (-1)) hF.1 hF.2.1 dX11_apart_45 (by decide) ?_
      exact q_iret hF hr rfl hlocks hU hS dX11_apart_46 ⟨⟨hfr, hI⟩, trivial⟩
set_option maxRecDepth 100000 in
theorem g_X11_order_v0 (u : qS) (x : Int32) (y : Int32) (z : Int32) (w : Int32) (u_48 : qS) (r_50 : Int32) (hz8 : 0 ≤ u.1 8 ∧ u.1 8 ≤ 20) (hz9 : 0 ≤ u.1 9 ∧ u.1 9 ≤ 8) (hz10 : 0 ≤ u.1 10 ∧ u.1 10 ≤ 120) (hz12 : 0 ≤ u.1 12 ∧ u.1 12 ≤ 16) (b1_4 : 0 ≤ x ∧ x ≤ 3) (b9_8 : (0 ≤ y ∧ y ≤ 9999) ∧ (0 ≤ z ∧ z ≤ 9999) ∧ y ≤ z) (b19_12 : (0 : Int32) ≤ w ∧ w ≤ (1 : Int32)) (hp_75 : (0 ≤ (u_48.1 310).toInt ∧ (u_48.1 310).toInt ≤ 20)) (hp_76 : g_rw (u_48.2.1 308) (u_48.1 310).toInt 0 ((u.1 8 : Int32)).toInt) (hp_77 : r_50 = u_48.1 310) (c51_78 : ¬ (r_50 : Int32) = 0) (c58_79 : ¬ (w : Int32) = 0) : 0 ≤ ((u_48.1 310 : Int32)).toInt ∧ ((u_48.1 310 : Int32)).toInt ≤ 20 := by
  first | assumption | ((try simp only [g_m1, Int32.lt_iff_toInt_lt, Int32.le_iff_toInt_le, ← Int32.toInt_inj, Int32.reduceToInt] at *); omega)
set_option maxRecDepth 100000 in
theorem g_X11_order_v1 (u : qS) (x : Int32) (y : Int32) (z : Int32) (w : Int32) (u_48 : qS) (r_50 : Int32) (hz8 : 0 ≤ u.1 8 ∧ u.1 8 ≤ 20) (hz9 : 0 ≤ u.1 9 ∧ u.1 9 ≤ 8) (hz10 : 0 ≤ u.1 10 ∧ u.1 10 ≤ 120) (hz12 : 0 ≤ u.1 12 ∧ u.1 12 ≤ 16) (b1_4 : 0 ≤ x ∧ x ≤ 3) (b9_8 : (0 ≤ y ∧ y ≤ 9999) ∧ (0 ≤ z ∧ z ≤ 9999) ∧ y ≤ z) (b19_12 : (0 : Int32) ≤ w ∧ w ≤ (1 : Int32)) (hp_75 : (0 ≤ (u_48.1 310).toInt ∧ (u_48.1 310).toInt ≤ 20)) (hp_76 : g_rw (u_48.2.1 308) (u_48.1 310).toInt 0 ((u.1 8 : Int32)).toInt) (hp_77 : r_50 = u_48.1 310) (c51_78 : ¬ (r_50 : Int32) = 0) (c58_79 : ¬ (w : Int32) = 0) : g_rw ((u_48.2.1 308)) ((u_48.1 310 : Int32)).toInt 0 ((u.1 8 : Int32)).toInt := by
  first | assumption | ((try simp only [g_m1, Int32.lt_iff_toInt_lt, Int32.le_iff_toInt_le, ← Int32.toInt_inj, Int32.reduceToInt] at *); omega)
set_option maxRecDepth 100000 in
theorem g_X11_order_v2 (u : qS) (x : Int32) (y : Int32) (z : Int32) (w : Int32) (u_48 : qS) (r_50 : Int32) (hz8 : 0 ≤ u.1 8 ∧ u.1 8 ≤ 20) (hz9 : 0 ≤ u.1 9 ∧ u.1 9 ≤ 8) (hz10 : 0 ≤ u.1 10 ∧ u.1 10 ≤ 120) (hz12 : 0 ≤ u.1 12 ∧ u.1 12 ≤ 16) (b1_4 : 0 ≤ x ∧ x ≤ 3) (b9_8 : (0 ≤ y ∧ y ≤ 9999) ∧ (0 ≤ z ∧ z ≤ 9999) ∧ y ≤ z) (b19_12 : (0 : Int32) ≤ w ∧ w ≤ (1 : Int32)) (hp_75 : (0 ≤ (u_48.1 310).toInt ∧ (u_48.1 310).toInt ≤ 20)) (hp_76 : g_rw (u_48.2.1 308) (u_48.1 310).toInt 0 ((u.1 8 : Int32)).toInt) (hp_77 : r_50 = u_48.1 310) (c51_78 : ¬ (r_50 : Int32) = 0) (c58_79 : (w : Int32) = 0) : 0 ≤ ((u_48.1 310 : Int32)).toInt ∧ ((u_48.1 310 : Int32)).toInt ≤ 20 := by
  first | assumption | ((try simp only [g_m1, Int32.lt_iff_toInt_lt, Int32.le_iff_toInt_le, ← Int32.toInt_inj, Int32.reduceToInt] at *); omega)
set_option maxRecDepth 100000 in
theorem g_X11_order_v3 (u : qS) (x : Int32) (y : Int32) (z : Int32) (w : Int32) (u_48 : qS) (r_50 : Int32) (hz8 : 0 ≤ u.1 8 ∧ u.1 8 ≤ 20) (hz9 : 0 ≤ u.1 9 ∧ u.1 9 ≤ 8) (hz10 : 0 ≤ u.1 10 ∧ u.1 10 ≤ 120) (hz12 : 0 ≤ u.1 12 ∧ u.1 12 ≤ 16) (b1_4 : 0 ≤ x ∧ x ≤ 3) (b9_8 : (0 ≤ y ∧ y ≤ 9999) ∧ (0 ≤ z ∧ z ≤ 9999) ∧ y ≤ z) (b19_12 : (0 : Int32) ≤ w ∧ w ≤ (1 : Int32)) (hp_75 : (0 ≤ (u_48.1 310).toInt ∧ (u_48.1 310).toInt ≤ 20)) (hp_76 : g_rw (u_48.2.1 308) (u_48.1 310).toInt 0 ((u.1 8 : Int32)).toInt) (hp_77 : r_50 = u_48.1 310) (c51_78 : ¬ (r_50 : Int32) = 0) (c58_79 : (w : Int32) = 0) : g_rw ((u_48.2.1 308)) ((u_48.1 310 : Int32)).toInt 0 ((u.1 8 : Int32)).toInt := by
  first | assumption | ((try simp only [g_m1, Int32.lt_iff_toInt_lt, Int32.le_iff_toInt_le, ← Int32.toInt_inj, Int32.reduceToInt] at *); omega)
set_option maxHeartbeats 1000000 in
set_option maxRecDepth 100000 in
theorem g_X11_order (l : Launch) (E : qE) (A : Nat → Prop) (u : qS) (x : Int32) (y : Int32) (z : Int32) (w : Int32) (hI : IC E u) : Met l yX11_order (uws yX11_order cX11_order 5 (some .int)) (qR 8 0 0) (qPc E A 0 u [.ref (E.2.2 1199), .int x, .int y, .int z, .int w]) (qQi E A 0 (fun r u1 => (qFc [900, 901, 902, 908, 909, 604, 605, 606, 607, 608, 609, 311, 310] [905, 906, 907, 601, 602, 603, 303, 304, 305, 306, 307, 308, 309] [] [904] u u1 ∧ IC E u1) ∧ (True))) 0 0 A := by
  refine q_met (own := RX11) (f := 8) [.ref (E.2.2 1199), .int x, .int y, .int z, .int w] (by decide) (Nat.le_of_ble_eq_true rfl) rfl ?_
  intro p0 e0 s0 m0 bl0 me0 cd0 ls hF hr hlocks hU hS hA hl
  have hl : lv_has ls 5 [(0, .ref (E.2.2 1199)), (1, .int x), (2, .int y), (3, .int z), (4, .int w)] := hl
  have hz8 : 0 ≤ u.1 8 ∧ u.1 8 ≤ 20 := hI.1.s8
  have hz9 : 0 ≤ u.1 9 ∧ u.1 9 ≤ 8 := hI.1.s9
  have hz10 : 0 ≤ u.1 10 ∧ u.1 10 ≤ 120 := hI.1.s10
  have hz12 : 0 ≤ u.1 12 ∧ u.1 12 ≤ 16 := hI.1.s12
  have hfr : qFc [900, 901, 902, 908, 909, 604, 605, 606, 607, 608, 609, 311, 310] [905, 906, 907, 601, 602, 603, 303, 304, 305, 306, 307, 308, 309] [] [904] u u := qFc.rf
  refine lv_iload_n hF.1 hF.2.1 dX11_order_0 rfl (lv_at hl 1 rfl) ?_
  have hM9 := g_X11_isChain l E A u x
  have hR9 := q_runS (l := l) (e := e0) (below := bl0) (meth := me0) (R := qR 8 0 0) (cells := 0) (slots := 0) (st0 := [.int x]) (rest := []) hF hU hS hA 1 hM9 w_494 w_495 w_99 w_496 (by decide +kernel) ⟨Nat.le_of_ble_eq_true rfl, Nat.le_of_ble_eq_true rfl⟩ dX11_order_1 rfl hl.1 rfl (Nat.le_of_ble_eq_true rfl) ⟨Nat.le_of_ble_eq_true rfl, Nat.le_of_ble_eq_true rfl⟩
  refine q_calli hR9 hU.2.2.2 hS (fun r_3 u_1 H locs hw_2 hU hS => ?_)
  obtain ⟨hw_2_e, hw_2⟩ := hw_2
  rw [hw_2_e] at hU
  have hw_2 : (r_3 = 1 ∧ (0 ≤ x ∧ x ≤ 3)) ∨ (r_3 = 0 ∧ (¬ (0 ≤ x ∧ x ≤ 3))) := hw_2
  rcases hw_2 with ⟨rfl, b1_4⟩ | ⟨rfl, b1_4⟩
  · refine lv_if_eq (tgt := 25) hF.1 hF.2.1 dX11_order_4 (by decide) (fun h9 => absurd h9 (by decide)) (fun _ => ?_)
    refine lv_iload_n hF.1 hF.2.1 dX11_order_7 rfl (lv_at hl 2 rfl) ?_
    refine lv_iload_n hF.1 hF.2.1 dX11_order_8 rfl (lv_at hl 3 rfl) ?_
    have hM9 := g_X11_isSpan l E A u y z
    have hR9 := q_runS (l := l) (e := e0) (below := bl0) (meth := me0) (R := qR 8 0 0) (cells := 0) (slots := 0) (st0 := [.int z, .int y]) (rest := []) hF hU hS hA 2 hM9 w_1017 w_1018 w_99 w_1019 (by decide +kernel) ⟨Nat.le_of_ble_eq_true rfl, Nat.le_of_ble_eq_true rfl⟩ dX11_order_9 rfl hl.1 rfl (Nat.le_of_ble_eq_true rfl) ⟨Nat.le_of_ble_eq_true rfl, Nat.le_of_ble_eq_true rfl⟩
    refine q_calli hR9 hU.2.2.2 hS (fun r_7 u_5 H locs hw_6 hU hS => ?_)
    obtain ⟨hw_6_e, hw_6⟩ := hw_6
    rw [hw_6_e] at hU
    have hw_6 : (r_7 = 1 ∧ ((0 ≤ y ∧ y ≤ 9999) ∧ (0 ≤ z ∧ z ≤ 9999) ∧ y ≤ z)) ∨ (r_7 = 0 ∧ (¬ ((0 ≤ y ∧ y ≤ 9999) ∧ (0 ≤ z ∧ z ≤ 9999) ∧ y ≤ z))) := hw_6
    rcases hw_6 with ⟨rfl, b9_8⟩ | ⟨rfl, b9_8⟩
    · refine lv_if_eq (tgt := 25) hF.1 hF.2.1 dX11_order_12 (by decide) (fun h9 => absurd h9 (by decide)) (fun _ => ?_)
      refine lv_iload hF.1 hF.2.1 dX11_order_15 (lv_at hl 4 rfl) ?_
      refine lv_iconst (v := 0) hF.1 hF.2.1 dX11_order_17 (by decide) ?_
      refine lv_iconst (v := 1) hF.1 hF.2.1 dX11_order_18 (by decide) ?_
      have hM9 := g_X11_isWithin l E A u w 0 1
      have hR9 := q_runS (l := l) (e := e0) (below := bl0) (meth := me0) (R := qR 8 0 0) (cells := 0) (slots := 0) (st0 := [.int 1, .int 0, .int w]) (rest := []) hF hU hS hA 3 hM9 w_468 w_469 w_99 w_470 (by decide +kernel) ⟨Nat.le_of_ble_eq_true rfl, Nat.le_of_ble_eq_true rfl⟩ dX11_order_19 rfl hl.1 rfl (Nat.le_of_ble_eq_true rfl) ⟨Nat.le_of_ble_eq_true rfl, Nat.le_of_ble_eq_true rfl⟩
      refine q_calli hR9 hU.2.2.2 hS (fun r_11 u_9 H locs hw_10 hU hS => ?_)
      obtain ⟨hw_10_e, hw_10⟩ := hw_10
      rw [hw_10_e] at hU
      have hw_10 : (r_11 = 1 ∧ ((0 : Int32) ≤ w ∧ w ≤ (1 : Int32))) ∨ (r_11 = 0 ∧ (¬ ((0 : Int32) ≤ w ∧ w ≤ (1 : Int32)))) := hw_10
      rcases hw_10 with ⟨rfl, b19_12⟩ | ⟨rfl, b19_12⟩
      · refine lv_if_ne (tgt := 27) hF.1 hF.2.1 dX11_order_22 (by decide) (fun _ => ?_) (fun h9 => absurd h9 (by decide))
        refine lv_aload_n hF.1 hF.2.1 dX11_order_27 rfl (lv_at hl 0 rfl) ?_
        refine q_get (v := .ref (E.2.2 399)) hF hU dX11_order_28 0 11 5 1105 1199 rfl rfl rfl rfl inX11 (by decide) (by decide) w_441 rfl rfl ?_
        have hM9 := g_X3_refresh l E A u  hI
        have hR9 := q_runV (l := l) (e := e0) (below := bl0) (meth := me0) (R := qR 8 0 0) (cells := 0) (slots := 0) (st0 := [.ref (E.2.2 399)]) (rest := []) hF hU hS hA 0 6 3 399 rfl rfl rfl hM9 w_931 w_932 w_933 w_105 w_934 (by decide +kernel) ⟨Nat.le_of_ble_eq_true rfl, Nat.le_of_ble_eq_true rfl⟩ dX11_order_31 rfl hl.1 rfl (Nat.le_of_ble_eq_true rfl) ⟨Nat.le_of_ble_eq_true rfl, Nat.le_of_ble_eq_true rfl⟩
        refine q_callv hR9 hU.2.2.2 hS (fun u_13 H locs hw_14 hU hS => ?_)
        obtain ⟨⟨hw_14_f, hI⟩, hw_14⟩ := hw_14
        have hfo := hfr
        have hfr : qFc [900, 901, 902, 908, 909, 604, 605, 606, 607, 608, 609, 311, 310] [905, 906, 907, 601, 602, 603, 303, 304, 305, 306, 307, 308, 309] [] [904] u u_13 := hfr.trans (hw_14_f.mono (by decide) (by decide) (by decide) (by decide))
        have e_16 : u_13.1 310 = (u.1 310) := (hw_14_f.1 310 (by decide)).trans rfl
        have e_17 : u_13.2.1 306 = (u.2.1 306) := (hw_14_f.2.1 306 (by decide)).trans rfl
        have e_18 : u_13.2.1 307 = (u.2.1 307) := (hw_14_f.2.1 307 (by decide)).trans rfl
        have e_19 : u_13.2.1 308 = (u.2.1 308) := (hw_14_f.2.1 308 (by decide)).trans rfl
        have e_20 : u_13.2.1 309 = (u.2.1 309) := (hw_14_f.2.1 309 (by decide)).trans rfl
        refine lv_aload_n hF.1 hF.2.1 dX11_order_34 rfl (lv_at hl 0 rfl) ?_
        refine q_get (v := .ref (E.2.2 399)) hF hU dX11_order_35 0 11 5 1105 1199 rfl rfl rfl rfl inX11 (by decide) (by decide) w_441 rfl rfl ?_
        refine lv_iload_n hF.1 hF.2.1 dX11_order_38 rfl (lv_at hl 2 rfl) ?_
        refine lv_iload_n hF.1 hF.2.1 dX11_order_39 rfl (lv_at hl 3 rfl) ?_
        have hM9 := g_X3_addDays l E A u_13 y z hI
        have hR9 := q_runV (l := l) (e := e0) (below := bl0) (meth := me0) (R := qR 8 0 0) (cells := 0) (slots := 0) (st0 := [.int z, .int y, .ref (E.2.2 399)]) (rest := []) hF hU hS hA 2 6 3 399 rfl rfl rfl hM9 w_1020 w_1021 w_1022 w_105 w_1023 (by decide +kernel) ⟨Nat.le_of_ble_eq_true rfl, Nat.le_of_ble_eq_true rfl⟩ dX11_order_40 rfl hl.1 rfl (Nat.le_of_ble_eq_true rfl) ⟨Nat.le_of_ble_eq_true rfl, Nat.le_of_ble_eq_true rfl⟩
        refine q_callv hR9 hU.2.2.2 hS (fun u_21 H locs hw_22 hU hS => ?_)
        obtain ⟨⟨hw_22_f, hI, hw_22_d⟩, hw_22⟩ := hw_22
        have hfo := hfr
        have hfr : qFc [900, 901, 902, 908, 909, 604, 605, 606, 607, 608, 609, 311, 310] [905, 906, 907, 601, 602, 603, 303, 304, 305, 306, 307, 308, 309] [] [904] u u_21 := hfr.trans (hw_22_f.mono (by decide) (by decide) (by decide) (by decide))
        have e_24 : u_21.1 310 = (u.1 310) := (hw_22_f.1 310 (by decide)).trans e_16
        have e_25 : u_21.1 311 = (u_13.1 311) := (hw_22_f.1 311 (by decide)).trans rfl
        have e_26 : u_21.1 604 = (u_13.1 604) := (hw_22_f.1 604 (by decide)).trans rfl
        have e_27 : u_21.1 605 = (u_13.1 605) := (hw_22_f.1 605 (by decide)).trans rfl
        have e_28 : u_21.1 606 = (u_13.1 606) := (hw_22_f.1 606 (by decide)).trans rfl
        have e_29 : u_21.1 607 = (u_13.1 607) := (hw_22_f.1 607 (by decide)).trans rfl
        have e_30 : u_21.1 608 = (u_13.1 608) := (hw_22_f.1 608 (by decide)).trans rfl
        have e_31 : u_21.1 609 = (u_13.1 609) := (hw_22_f.1 609 (by decide)).trans rfl
        have e_32 : u_21.1 900 = (u_13.1 900) := (hw_22_f.1 900 (by decide)).trans rfl
        have e_33 : u_21.1 901 = (u_13.1 901) := (hw_22_f.1 901 (by decide)).trans rfl
        have e_34 : u_21.1 902 = (u_13.1 902) := (hw_22_f.1 902 (by decide)).trans rfl
        have e_35 : u_21.1 908 = (u_13.1 908) := (hw_22_f.1 908 (by decide)).trans rfl
        have e_36 : u_21.1 909 = (u_13.1 909) := (hw_22_f.1 909 (by decide)).trans rfl
        have e_37 : u_21.2.1 303 = (u_13.2.1 303) := (hw_22_f.2.1 303 (by decide)).trans rfl
        have e_38 : u_21.2.1 304 = (u_13.2.1 304) := (hw_22_f.2.1 304 (by decide)).trans rfl
        have e_39 : u_21.2.1 305 = (u_13.2.1 305) := (hw_22_f.2.1 305 (by decide)).trans rfl
        have e_40 : u_21.2.1 308 = (u.2.1 308) := (hw_22_f.2.1 308 (by decide)).trans e_19
        have e_41 : u_21.2.1 309 = (u.2.1 309) := (hw_22_f.2.1 309 (by decide)).trans e_20
        have e_42 : u_21.2.1 601 = (u_13.2.1 601) := (hw_22_f.2.1 601 (by decide)).trans rfl
        have e_43 : u_21.2.1 602 = (u_13.2.1 602) := (hw_22_f.2.1 602 (by decide)).trans rfl
        have e_44 : u_21.2.1 603 = (u_13.2.1 603) := (hw_22_f.2.1 603 (by decide)).trans rfl
        have e_45 : u_21.2.1 905 = (u_13.2.1 905) := (hw_22_f.2.1 905 (by decide)).trans rfl
        have e_46 : u_21.2.1 906 = (u_13.2.1 906) := (hw_22_f.2.1 906 (by decide)).trans rfl
        have e_47 : u_21.2.1 907 = (u_13.2.1 907) := (hw_22_f.2.1 907 (by decide)).trans rfl
        refine lv_aload_n hF.1 hF.2.1 dX11_order_43 rfl (lv_at hl 0 rfl) ?_
        refine q_get (v := .ref (E.2.2 399)) hF hU dX11_order_44 0 11 5 1105 1199 rfl rfl rfl rfl inX11 (by decide) (by decide) w_441 rfl rfl ?_
        refine lv_iload_n hF.1 hF.2.1 dX11_order_47 rfl (lv_at hl 1 rfl) ?_
        have hM9 := g_X3_rankChain l E A u_21 x hI
        have hR9 := q_runV (l := l) (e := e0) (below := bl0) (meth := me0) (R := qR 8 0 0) (cells := 0) (slots := 0) (st0 := [.int x, .ref (E.2.2 399)]) (rest := []) hF hU hS hA 1 6 3 399 rfl rfl rfl hM9 w_1058 w_1059 w_1060 w_105 w_1061 (by decide +kernel) ⟨Nat.le_of_ble_eq_true rfl, Nat.le_of_ble_eq_true rfl⟩ dX11_order_48 rfl hl.1 rfl (Nat.le_of_ble_eq_true rfl) ⟨Nat.le_of_ble_eq_true rfl, Nat.le_of_ble_eq_true rfl⟩
        refine q_calli hR9 hU.2.2.2 hS (fun r_50 u_48 H locs hw_49 hU hS => ?_)
        obtain ⟨⟨hw_49_f, hI, hw_49_d⟩, hw_49⟩ := hw_49
        have hfo := hfr
        have hfr : qFc [900, 901, 902, 908, 909, 604, 605, 606, 607, 608, 609, 311, 310] [905, 906, 907, 601, 602, 603, 303, 304, 305, 306, 307, 308, 309] [] [904] u u_48 := hfr.trans (hw_49_f.mono (by decide) (by decide) (by decide) (by decide))
        have e_51 : u_48.1 311 = (u_13.1 311) := (hw_49_f.1 311 (by decide)).trans e_25
        have e_52 : u_48.1 604 = (u_13.1 604) := (hw_49_f.1 604 (by decide)).trans e_26
        have e_53 : u_48.1 605 = (u_13.1 605) := (hw_49_f.1 605 (by decide)).trans e_27
        have e_54 : u_48.1 606 = (u_13.1 606) := (hw_49_f.1 606 (by decide)).trans e_28
        have e_55 : u_48.1 607 = (u_13.1 607) := (hw_49_f.1 607 (by decide)).trans e_29
        have e_56 : u_48.1 608 = (u_13.1 608) := (hw_49_f.1 608 (by decide)).trans e_30
        have e_57 : u_48.1 609 = (u_13.1 609) := (hw_49_f.1 609 (by decide)).trans e_31
        have e_58 : u_48.1 900 = (u_13.1 900) := (hw_49_f.1 900 (by decide)).trans e_32
        have e_59 : u_48.1 901 = (u_13.1 901) := (hw_49_f.1 901 (by decide)).trans e_33
        have e_60 : u_48.1 902 = (u_13.1 902) := (hw_49_f.1 902 (by decide)).trans e_34
        have e_61 : u_48.1 908 = (u_13.1 908) := (hw_49_f.1 908 (by decide)).trans e_35
        have e_62 : u_48.1 909 = (u_13.1 909) := (hw_49_f.1 909 (by decide)).trans e_36
        have e_63 : u_48.2.1 303 = (u_13.2.1 303) := (hw_49_f.2.1 303 (by decide)).trans e_37
        have e_64 : u_48.2.1 304 = (u_13.2.1 304) := (hw_49_f.2.1 304 (by decide)).trans e_38
        have e_65 : u_48.2.1 305 = (u_13.2.1 305) := (hw_49_f.2.1 305 (by decide)).trans e_39
        have e_66 : u_48.2.1 306 = (u_21.2.1 306) := (hw_49_f.2.1 306 (by decide)).trans rfl
        have e_67 : u_48.2.1 307 = (u_21.2.1 307) := (hw_49_f.2.1 307 (by decide)).trans rfl
        have e_68 : u_48.2.1 309 = (u.2.1 309) := (hw_49_f.2.1 309 (by decide)).trans e_41
        have e_69 : u_48.2.1 601 = (u_13.2.1 601) := (hw_49_f.2.1 601 (by decide)).trans e_42
        have e_70 : u_48.2.1 602 = (u_13.2.1 602) := (hw_49_f.2.1 602 (by decide)).trans e_43
        have e_71 : u_48.2.1 603 = (u_13.2.1 603) := (hw_49_f.2.1 603 (by decide)).trans e_44
        have e_72 : u_48.2.1 905 = (u_13.2.1 905) := (hw_49_f.2.1 905 (by decide)).trans e_45
        have e_73 : u_48.2.1 906 = (u_13.2.1 906) := (hw_49_f.2.1 906 (by decide)).trans e_46
        have e_74 : u_48.2.1 907 = (u_13.2.1 907) := (hw_49_f.2.1 907 (by decide)).trans e_47
        have hw_49 : (0 ≤ (u_48.1 310).toInt ∧ (u_48.1 310).toInt ≤ 20) ∧ g_rw (u_48.2.1 308) (u_48.1 310).toInt 0 ((u.1 8 : Int32)).toInt ∧ r_50 = u_48.1 310 := by rw [(hfo.1 8 (by decide))] at hw_49; exact hw_49
        have hp_75 : (0 ≤ (u_48.1 310).toInt ∧ (u_48.1 310).toInt ≤ 20) := hw_49.1
        have hp_76 : g_rw (u_48.2.1 308) (u_48.1 310).toInt 0 ((u.1 8 : Int32)).toInt := hw_49.2.1
        have hp_77 : r_50 = u_48.1 310 := hw_49.2.2
        refine lv_if_ne (tgt := 56) hF.1 hF.2.1 dX11_order_51 (by decide) (fun c51_78 => ?_) (fun c51_78 => ?_)
        · refine lv_iload hF.1 hF.2.1 dX11_order_56 (lv_at hl 4 rfl) ?_
          refine lv_if_ne (tgt := 75) hF.1 hF.2.1 dX11_order_58 (by decide) (fun c58_79 => ?_) (fun c58_79 => ?_)
          · refine lv_aload_n hF.1 hF.2.1 dX11_order_75 rfl (lv_at hl 0 rfl) ?_
            refine q_get (v := .ref (E.2.2 399)) hF hU dX11_order_76 0 11 5 1105 1199 rfl rfl rfl rfl inX11 (by decide) (by decide) w_441 rfl rfl ?_
            refine lv_aload_n hF.1 hF.2.1 dX11_order_79 rfl (lv_at hl 0 rfl) ?_
            refine q_get (v := .int (u.1 1108)) hF hU dX11_order_80 0 11 8 1108 1199 rfl rfl rfl rfl inX11 (by decide) (by decide) w_444 rfl (congrArg Value.int (hfr.1 1108 (by decide))) ?_
            have hM9 := g_X3_leadBits l E A u_48 (u.1 1108) hI (g_X11_order_v0 u x y z w u_48 r_50 hz8 hz9 hz10 hz12 b1_4 b9_8 b19_12 hp_75 hp_76 hp_77 c51_78 c58_79) (by rw [(hfr.1 8 (by decide))]; exact (g_X11_order_v1 u x y z w u_48 r_50 hz8 hz9 hz10 hz12 b1_4 b9_8 b19_12 hp_75 hp_76 hp_77 c51_78 c58_79))
            have hR9 := q_runV (l := l) (e := e0) (below := bl0) (meth := me0) (R := qR 8 0 0) (cells := 0) (slots := 0) (st0 := [.int (u.1 1108), .ref (E.2.2 399)]) (rest := []) hF hU hS hA 1 6 3 399 rfl rfl rfl hM9 w_1073 w_1074 w_1075 w_105 w_1076 (by decide +kernel) ⟨Nat.le_of_ble_eq_true rfl, Nat.le_of_ble_eq_true rfl⟩ dX11_order_83 rfl hl.1 rfl (Nat.le_of_ble_eq_true rfl) ⟨Nat.le_of_ble_eq_true rfl, Nat.le_of_ble_eq_true rfl⟩
            refine q_calli hR9 hU.2.2.2 hS (fun r_82 u_80 H locs hw_81 hU hS => ?_)
            obtain ⟨hw_81_e, hw_81⟩ := hw_81
            rw [hw_81_e] at hU
            exact q_iret hF hr rfl hlocks hU hS dX11_order_86 ⟨⟨hfr, hI⟩, trivial⟩
          · refine lv_aload_n hF.1 hF.2.1 dX11_order_61 rfl (lv_at hl 0 rfl) ?_
            refine q_get (v := .ref (E.2.2 399)) hF hU dX11_order_62 0 11 5 1105 1199 rfl rfl rfl rfl inX11 (by decide) (by decide) w_441 rfl rfl ?_
            refine lv_aload_n hF.1 hF.2.1 dX11_order_65 rfl (lv_at hl 0 rfl) ?_
            refine q_get (v := .int (u.1 1108)) hF hU dX11_order_66 0 11 8 1108 1199 rfl rfl rfl rfl inX11 (by decide) (by decide) w_444 rfl (congrArg Value.int (hfr.1 1108 (by decide))) ?_
            have hM9 := g_X3_longestRow l E A u_48 (u.1 1108) hI (g_X11_order_v2 u x y z w u_48 r_50 hz8 hz9 hz10 hz12 b1_4 b9_8 b19_12 hp_75 hp_76 hp_77 c51_78 c58_79) (by rw [(hfr.1 8 (by decide))]; exact (g_X11_order_v3 u x y z w u_48 r_50 hz8 hz9 hz10 hz12 b1_4 b9_8 b19_12 hp_75 hp_76 hp_77 c51_78 c58_79))
            have hR9 := q_runV (l := l) (e := e0) (below := bl0) (meth := me0) (R := qR 8 0 0) (cells := 0) (slots := 0) (st0 := [.int (u.1 1108), .ref (E.2.2 399)]) (rest := []) hF hU hS hA 1 6 3 399 rfl rfl rfl hM9 w_1067 w_1068 w_1069 w_105 w_1070 (by decide +kernel) ⟨Nat.le_of_ble_eq_true rfl, Nat.le_of_ble_eq_true rfl⟩ dX11_order_69 rfl hl.1 rfl (Nat.le_of_ble_eq_true rfl) ⟨Nat.le_of_ble_eq_true rfl, Nat.le_of_ble_eq_true rfl⟩
            refine q_calli hR9 hU.2.2.2 hS (fun r_85 u_83 H locs hw_84 hU hS => ?_)
            obtain ⟨⟨hw_84_f, hI, hw_84_d⟩, hw_84⟩ := hw_84
            have hfo := hfr
            have hfr : qFc [900, 901, 902, 908, 909, 604, 605, 606, 607, 608, 609, 311, 310] [905, 906, 907, 601, 602, 603, 303, 304, 305, 306, 307, 308, 309] [] [904] u u_83 := hfr.trans (hw_84_f.mono (by decide) (by decide) (by decide) (by decide))
            have e_86 : u_83.1 310 = (u_48.1 310) := (hw_84_f.1 310 (by decide)).trans rfl
            have e_87 : u_83.1 311 = (u_13.1 311) := (hw_84_f.1 311 (by decide)).trans e_51
            have e_88 : u_83.1 604 = (u_13.1 604) := (hw_84_f.1 604 (by decide)).trans e_52
            have e_89 : u_83.1 605 = (u_13.1 605) := (hw_84_f.1 605 (by decide)).trans e_53
            have e_90 : u_83.1 606 = (u_13.1 606) := (hw_84_f.1 606 (by decide)).trans e_54
            have e_91 : u_83.1 607 = (u_13.1 607) := (hw_84_f.1 607 (by decide)).trans e_55
            have e_92 : u_83.1 608 = (u_13.1 608) := (hw_84_f.1 608 (by decide)).trans e_56
            have e_93 : u_83.1 609 = (u_13.1 609) := (hw_84_f.1 609 (by decide)).trans e_57
            have e_94 : u_83.1 900 = (u_13.1 900) := (hw_84_f.1 900 (by decide)).trans e_58
            have e_95 : u_83.1 901 = (u_13.1 901) := (hw_84_f.1 901 (by decide)).trans e_59
            have e_96 : u_83.1 902 = (u_13.1 902) := (hw_84_f.1 902 (by decide)).trans e_60
            have e_97 : u_83.1 908 = (u_13.1 908) := (hw_84_f.1 908 (by decide)).trans e_61
            have e_98 : u_83.1 909 = (u_13.1 909) := (hw_84_f.1 909 (by decide)).trans e_62
            have e_99 : u_83.2.1 303 = (u_13.2.1 303) := (hw_84_f.2.1 303 (by decide)).trans e_63
            have e_100 : u_83.2.1 304 = (u_13.2.1 304) := (hw_84_f.2.1 304 (by decide)).trans e_64
            have e_101 : u_83.2.1 305 = (u_13.2.1 305) := (hw_84_f.2.1 305 (by decide)).trans e_65
            have e_102 : u_83.2.1 306 = (u_21.2.1 306) := (hw_84_f.2.1 306 (by decide)).trans e_66
            have e_103 : u_83.2.1 307 = (u_21.2.1 307) := (hw_84_f.2.1 307 (by decide)).trans e_67
            have e_104 : u_83.2.1 308 = (u_48.2.1 308) := (hw_84_f.2.1 308 (by decide)).trans rfl
            have e_105 : u_83.2.1 601 = (u_13.2.1 601) := (hw_84_f.2.1 601 (by decide)).trans e_69
            have e_106 : u_83.2.1 602 = (u_13.2.1 602) := (hw_84_f.2.1 602 (by decide)).trans e_70
            have e_107 : u_83.2.1 603 = (u_13.2.1 603) := (hw_84_f.2.1 603 (by decide)).trans e_71
            have e_108 : u_83.2.1 905 = (u_13.2.1 905) := (hw_84_f.2.1 905 (by decide)).trans e_72
            have e_109 : u_83.2.1 906 = (u_13.2.1 906) := (hw_84_f.2.1 906 (by decide)).trans e_73
            have e_110 : u_83.2.1 907 = (u_13.2.1 907) := (hw_84_f.2.1 907 (by decide)).trans e_74
            refine lv_goto (tgt := 86) hF.1 hF.2.1 dX11_order_72 (by decide) ?_
            exact q_iret hF hr rfl hlocks hU hS dX11_order_86 ⟨⟨hfr, hI⟩, trivial⟩
        · refine lv_iconst (v := (-1)) hF.1 hF.2.1 dX11_order_54 (by decide) ?_
          exact q_iret hF hr rfl hlocks hU hS dX11_order_55 ⟨⟨hfr, hI⟩, trivial⟩
      · refine lv_if_ne (tgt := 27) hF.1 hF.2.1 dX11_order_22 (by decide) (fun h9 => absurd (by decide) h9) (fun _ => ?_)
        refine lv_iconst (v := (-1)) hF.1 hF.2.1 dX11_order_25 (by decide) ?_
        exact q_iret hF hr rfl hlocks hU hS dX11_order_26 ⟨⟨hfr, hI⟩, trivial⟩
    · refine lv_if_eq (tgt := 25) hF.1 hF.2.1 dX11_order_12 (by decide) (fun _ => ?_) (fun h9 => absurd (by decide) h9)
      refine lv_iconst (v := (-1)) hF.1 hF.2.1 dX11_order_25 (by decide) ?_
      exact q_iret hF hr rfl hlocks hU hS dX11_order_26 ⟨⟨hfr, hI⟩, trivial⟩
  · refine lv_if_eq (tgt := 25) hF.1 hF.2.1 dX11_order_4 (by decide) (fun _ => ?_) (fun h9 => absurd (by decide) h9)
    refine lv_iconst (v := (-1)) hF.1 hF.2.1 dX11_order_25 (by decide) ?_
    exact q_iret hF hr rfl hlocks hU hS dX11_order_26 ⟨⟨hfr, hI⟩, trivial⟩
set_option maxRecDepth 100000 in
theorem g_X11_enough_v0 (u : qS) (x : Int32) (y : Int32) (z : Int32) (w : Int32) (x5 : Int32) (x6 : Int32) (hz8 : 0 ≤ u.1 8 ∧ u.1 8 ≤ 20) (hz9 : 0 ≤ u.1 9 ∧ u.1 9 ≤ 8) (hz10 : 0 ≤ u.1 10 ∧ u.1 10 ≤ 120) (hz12 : 0 ≤ u.1 12 ∧ u.1 12 ≤ 16) (h_k : 1 ≤ x6) (c77_1 : ¬ 999 < (x6 : Int32)) : ¬ x6 = 0 := by
  first | omega | ((try simp only [g_m1, Int32.lt_iff_toInt_lt, Int32.le_iff_toInt_le, ← Int32.toInt_inj, Int32.reduceToInt] at *); omega) | ((try simp only [g_m1, Int32.lt_iff_toInt_lt, Int32.le_iff_toInt_le, ← Int32.toInt_inj, Int32.reduceToInt] at *); omega) | ((try simp only [g_m1, Int32.lt_iff_toInt_lt, Int32.le_iff_toInt_le, ← Int32.toInt_inj, Int32.toInt_add, Int32.toInt_sub, Int32.toInt_mul, Int32.toInt_neg, Int32.reduceToInt, g_bm, g_bm'] at *); omega) | (have qr1 := g_rng x; have qr2 := g_rng y; have qr3 := g_rng z; have qr4 := g_rng w; have qr5 := g_rng x5; have qr6 := g_rng x6; (try simp only [g_m1, Int32.lt_iff_toInt_lt, Int32.le_iff_toInt_le, ← Int32.toInt_inj, Int32.toInt_add, Int32.toInt_sub, Int32.toInt_mul, Int32.toInt_neg, Int32.reduceToInt, g_bm, g_bm'] at *); omega) | (simp only [g_m1, Int32.lt_iff_toInt_lt, Int32.le_iff_toInt_le, ← Int32.toInt_inj, Int32.toInt_add, Int32.toInt_sub, Int32.toInt_mul, Int32.toInt_neg, Int32.reduceToInt, g_bm, g_bm'] at *; simp at *; omega) | (simp_all; done)
set_option maxRecDepth 100000 in
theorem g_X11_enough_v1 (u : qS) (x : Int32) (y : Int32) (z : Int32) (w : Int32) (x5 : Int32) (x6 : Int32) (hz8 : 0 ≤ u.1 8 ∧ u.1 8 ≤ 20) (hz9 : 0 ≤ u.1 9 ∧ u.1 9 ≤ 8) (hz10 : 0 ≤ u.1 10 ∧ u.1 10 ≤ 120) (hz12 : 0 ≤ u.1 12 ∧ u.1 12 ≤ 16) (h_k : 1 ≤ x6) (c77_1 : ¬ 999 < (x6 : Int32)) (c94_2 : (x5 : Int32) ≤ (2 * ((100 * (u.1 1108)) / x6))) : 1 ≤ (x6 + 1) := by
  first | omega | ((try simp only [g_m1, Int32.lt_iff_toInt_lt, Int32.le_iff_toInt_le, ← Int32.toInt_inj, Int32.reduceToInt] at *); omega) | ((try have ez0 : (100 * (u.1 1108) : Int32).toInt = (100 : Int32).toInt * (u.1 1108 : Int32).toInt := g_mul (by (try simp only [g_m1, Int32.lt_iff_toInt_lt, Int32.le_iff_toInt_le, ← Int32.toInt_inj, Int32.reduceToInt] at *); omega) (by (try simp only [g_m1, Int32.lt_iff_toInt_lt, Int32.le_iff_toInt_le, ← Int32.toInt_inj, Int32.reduceToInt] at *); omega)); (try have ez1 : (2 * ((100 * (u.1 1108)) / x6) : Int32).toInt = (2 : Int32).toInt * ((100 * (u.1 1108)) / x6 : Int32).toInt := g_mul (by (try simp only [g_m1, Int32.lt_iff_toInt_lt, Int32.le_iff_toInt_le, ← Int32.toInt_inj, Int32.reduceToInt] at *); omega) (by (try simp only [g_m1, Int32.lt_iff_toInt_lt, Int32.le_iff_toInt_le, ← Int32.toInt_inj, Int32.reduceToInt] at *); omega)); (try have ez2 : (x6 + 1 : Int32).toInt = (x6 : Int32).toInt + (1 : Int32).toInt := g_add (by (try simp only [g_m1, Int32.lt_iff_toInt_lt, Int32.le_iff_toInt_le, ← Int32.toInt_inj, Int32.reduceToInt] at *); omega) (by (try simp only [g_m1, Int32.lt_iff_toInt_lt, Int32.le_iff_toInt_le, ← Int32.toInt_inj, Int32.reduceToInt] at *); omega)); (try simp only [g_m1, Int32.lt_iff_toInt_lt, Int32.le_iff_toInt_le, ← Int32.toInt_inj, Int32.reduceToInt] at *); omega) | ((try simp only [g_m1, Int32.lt_iff_toInt_lt, Int32.le_iff_toInt_le, ← Int32.toInt_inj, Int32.toInt_add, Int32.toInt_sub, Int32.toInt_mul, Int32.toInt_neg, Int32.reduceToInt, g_bm, g_bm'] at *); omega) | (have qr1 := g_rng x; have qr2 := g_rng y; have qr3 := g_rng z; have qr4 := g_rng w; have qr5 := g_rng x5; have qr6 := g_rng x6; (try simp only [g_m1, Int32.lt_iff_toInt_lt, Int32.le_iff_toInt_le, ← Int32.toInt_inj, Int32.toInt_add, Int32.toInt_sub, Int32.toInt_mul, Int32.toInt_neg, Int32.reduceToInt, g_bm, g_bm'] at *); omega) | (simp only [g_m1, Int32.lt_iff_toInt_lt, Int32.le_iff_toInt_le, ← Int32.toInt_inj, Int32.toInt_add, Int32.toInt_sub, Int32.toInt_mul, Int32.toInt_neg, Int32.reduceToInt, g_bm, g_bm'] at *; simp at *; omega) | (simp_all; done)
set_option maxRecDepth 100000 in
theorem g_X11_enough_v2 (u : qS) (x : Int32) (y : Int32) (z : Int32) (w : Int32) (x5 : Int32) (x6 : Int32) (hz8 : 0 ≤ u.1 8 ∧ u.1 8 ≤ 20) (hz9 : 0 ≤ u.1 9 ∧ u.1 9 ≤ 8) (hz10 : 0 ≤ u.1 10 ∧ u.1 10 ≤ 120) (hz12 : 0 ≤ u.1 12 ∧ u.1 12 ≤ 16) (h_k : 1 ≤ x6) (c77_1 : ¬ 999 < (x6 : Int32)) (c94_2 : (x5 : Int32) ≤ (2 * ((100 * (u.1 1108)) / x6))) : (1000 - (x6 + 1).toInt).toNat < (1000 - x6.toInt).toNat := by
  first | omega | ((try simp only [g_m1, Int32.lt_iff_toInt_lt, Int32.le_iff_toInt_le, ← Int32.toInt_inj, Int32.reduceToInt] at *); omega) | ((try have ez0 : (100 * (u.1 1108) : Int32).toInt = (100 : Int32).toInt * (u.1 1108 : Int32).toInt := g_mul (by (try simp only [g_m1, Int32.lt_iff_toInt_lt, Int32.le_iff_toInt_le, ← Int32.toInt_inj, Int32.reduceToInt] at *); omega) (by (try simp only [g_m1, Int32.lt_iff_toInt_lt, Int32.le_iff_toInt_le, ← Int32.toInt_inj, Int32.reduceToInt] at *); omega)); (try have ez1 : (2 * ((100 * (u.1 1108)) / x6) : Int32).toInt = (2 : Int32).toInt * ((100 * (u.1 1108)) / x6 : Int32).toInt := g_mul (by (try simp only [g_m1, Int32.lt_iff_toInt_lt, Int32.le_iff_toInt_le, ← Int32.toInt_inj, Int32.reduceToInt] at *); omega) (by (try simp only [g_m1, Int32.lt_iff_toInt_lt, Int32.le_iff_toInt_le, ← Int32.toInt_inj, Int32.reduceToInt] at *); omega)); (try have ez2 : (x6 + 1 : Int32).toInt = (x6 : Int32).toInt + (1 : Int32).toInt := g_add (by (try simp only [g_m1, Int32.lt_iff_toInt_lt, Int32.le_iff_toInt_le, ← Int32.toInt_inj, Int32.reduceToInt] at *); omega) (by (try simp only [g_m1, Int32.lt_iff_toInt_lt, Int32.le_iff_toInt_le, ← Int32.toInt_inj, Int32.reduceToInt] at *); omega)); (try simp only [g_m1, Int32.lt_iff_toInt_lt, Int32.le_iff_toInt_le, ← Int32.toInt_inj, Int32.reduceToInt] at *); omega) | ((try simp only [g_m1, Int32.lt_iff_toInt_lt, Int32.le_iff_toInt_le, ← Int32.toInt_inj, Int32.toInt_add, Int32.toInt_sub, Int32.toInt_mul, Int32.toInt_neg, Int32.reduceToInt, g_bm, g_bm'] at *); omega) | (have qr1 := g_rng x; have qr2 := g_rng y; have qr3 := g_rng z; have qr4 := g_rng w; have qr5 := g_rng x5; have qr6 := g_rng x6; (try simp only [g_m1, Int32.lt_iff_toInt_lt, Int32.le_iff_toInt_le, ← Int32.toInt_inj, Int32.toInt_add, Int32.toInt_sub, Int32.toInt_mul, Int32.toInt_neg, Int32.reduceToInt, g_bm, g_bm'] at *); omega) | (simp only [g_m1, Int32.lt_iff_toInt_lt, Int32.le_iff_toInt_le, ← Int32.toInt_inj, Int32.toInt_add, Int32.toInt_sub, Int32.toInt_mul, Int32.toInt_neg, Int32.reduceToInt, g_bm, g_bm'] at *; simp at *; omega) | (simp_all; done)
set_option maxRecDepth 100000 in
theorem g_X11_enough_v3 (u : qS) (x : Int32) (y : Int32) (z : Int32) (w : Int32) (hz8 : 0 ≤ u.1 8 ∧ u.1 8 ≤ 20) (hz9 : 0 ≤ u.1 9 ∧ u.1 9 ≤ 8) (hz10 : 0 ≤ u.1 10 ∧ u.1 10 ≤ 120) (hz12 : 0 ≤ u.1 12 ∧ u.1 12 ≤ 16) (c9_8 : ¬ (x : Int32) = y) (b17_33 : 0 ≤ x ∧ x < (u.1 8 : Int32)) (b28_37 : 0 ≤ y ∧ y < (u.1 8 : Int32)) : 0 ≤ y ∧ y < (u.1 8 : Int32) := by
  first | omega | ((try simp only [g_m1, Int32.lt_iff_toInt_lt, Int32.le_iff_toInt_le, ← Int32.toInt_inj, Int32.reduceToInt] at *); omega) | ((try simp only [g_m1, Int32.lt_iff_toInt_lt, Int32.le_iff_toInt_le, ← Int32.toInt_inj, Int32.reduceToInt] at *); omega) | ((try simp only [g_m1, Int32.lt_iff_toInt_lt, Int32.le_iff_toInt_le, ← Int32.toInt_inj, Int32.toInt_add, Int32.toInt_sub, Int32.toInt_mul, Int32.toInt_neg, Int32.reduceToInt, g_bm, g_bm'] at *); omega) | (have qr1 := g_rng x; have qr2 := g_rng y; have qr3 := g_rng z; have qr4 := g_rng w; (try simp only [g_m1, Int32.lt_iff_toInt_lt, Int32.le_iff_toInt_le, ← Int32.toInt_inj, Int32.toInt_add, Int32.toInt_sub, Int32.toInt_mul, Int32.toInt_neg, Int32.reduceToInt, g_bm, g_bm'] at *); omega) | (simp only [g_m1, Int32.lt_iff_toInt_lt, Int32.le_iff_toInt_le, ← Int32.toInt_inj, Int32.toInt_add, Int32.toInt_sub, Int32.toInt_mul, Int32.toInt_neg, Int32.reduceToInt, g_bm, g_bm'] at *; simp at *; omega) | (simp_all; done)
set_option maxRecDepth 100000 in
theorem g_X11_enough_v4 (u : qS) (x : Int32) (y : Int32) (z : Int32) (w : Int32) (hz8 : 0 ≤ u.1 8 ∧ u.1 8 ≤ 20) (hz9 : 0 ≤ u.1 9 ∧ u.1 9 ≤ 8) (hz10 : 0 ≤ u.1 10 ∧ u.1 10 ≤ 120) (hz12 : 0 ≤ u.1 12 ∧ u.1 12 ≤ 16) (c9_8 : ¬ (x : Int32) = y) (b17_33 : 0 ≤ x ∧ x < (u.1 8 : Int32)) (b28_37 : 0 ≤ y ∧ y < (u.1 8 : Int32)) : 0 ≤ x ∧ x < (u.1 8 : Int32) := by
  first | omega | ((try simp only [g_m1, Int32.lt_iff_toInt_lt, Int32.le_iff_toInt_le, ← Int32.toInt_inj, Int32.reduceToInt] at *); omega) | ((try simp only [g_m1, Int32.lt_iff_toInt_lt, Int32.le_iff_toInt_le, ← Int32.toInt_inj, Int32.reduceToInt] at *); omega) | ((try simp only [g_m1, Int32.lt_iff_toInt_lt, Int32.le_iff_toInt_le, ← Int32.toInt_inj, Int32.toInt_add, Int32.toInt_sub, Int32.toInt_mul, Int32.toInt_neg, Int32.reduceToInt, g_bm, g_bm'] at *); omega) | (have qr1 := g_rng x; have qr2 := g_rng y; have qr3 := g_rng z; have qr4 := g_rng w; (try simp only [g_m1, Int32.lt_iff_toInt_lt, Int32.le_iff_toInt_le, ← Int32.toInt_inj, Int32.toInt_add, Int32.toInt_sub, Int32.toInt_mul, Int32.toInt_neg, Int32.reduceToInt, g_bm, g_bm'] at *); omega) | (simp only [g_m1, Int32.lt_iff_toInt_lt, Int32.le_iff_toInt_le, ← Int32.toInt_inj, Int32.toInt_add, Int32.toInt_sub, Int32.toInt_mul, Int32.toInt_neg, Int32.reduceToInt, g_bm, g_bm'] at *; simp at *; omega) | (simp_all; done)
set_option maxRecDepth 100000 in
theorem g_X11_enough_v5 (u : qS) (x : Int32) (y : Int32) (z : Int32) (w : Int32) (r_44 : Int32) (hz8 : 0 ≤ u.1 8 ∧ u.1 8 ≤ 20) (hz9 : 0 ≤ u.1 9 ∧ u.1 9 ≤ 8) (hz10 : 0 ≤ u.1 10 ∧ u.1 10 ≤ 120) (hz12 : 0 ≤ u.1 12 ∧ u.1 12 ≤ 16) (c9_8 : ¬ (x : Int32) = y) (b17_33 : 0 ≤ x ∧ x < (u.1 8 : Int32)) (b28_37 : 0 ≤ y ∧ y < (u.1 8 : Int32)) : 0 ≤ y ∧ y < (u.1 8 : Int32) := by
  first | omega | ((try simp only [g_m1, Int32.lt_iff_toInt_lt, Int32.le_iff_toInt_le, ← Int32.toInt_inj, Int32.reduceToInt] at *); omega) | ((try simp only [g_m1, Int32.lt_iff_toInt_lt, Int32.le_iff_toInt_le, ← Int32.toInt_inj, Int32.reduceToInt] at *); omega) | ((try simp only [g_m1, Int32.lt_iff_toInt_lt, Int32.le_iff_toInt_le, ← Int32.toInt_inj, Int32.toInt_add, Int32.toInt_sub, Int32.toInt_mul, Int32.toInt_neg, Int32.reduceToInt, g_bm, g_bm'] at *); omega) | (have qr1 := g_rng x; have qr2 := g_rng y; have qr3 := g_rng z; have qr4 := g_rng w; have qr7 := g_rng r_44; (try simp only [g_m1, Int32.lt_iff_toInt_lt, Int32.le_iff_toInt_le, ← Int32.toInt_inj, Int32.toInt_add, Int32.toInt_sub, Int32.toInt_mul, Int32.toInt_neg, Int32.reduceToInt, g_bm, g_bm'] at *); omega) | (simp only [g_m1, Int32.lt_iff_toInt_lt, Int32.le_iff_toInt_le, ← Int32.toInt_inj, Int32.toInt_add, Int32.toInt_sub, Int32.toInt_mul, Int32.toInt_neg, Int32.reduceToInt, g_bm, g_bm'] at *; simp at *; omega) | (simp_all; done)
set_option maxRecDepth 100000 in
theorem g_X11_enough_v6 (u : qS) (x : Int32) (y : Int32) (z : Int32) (w : Int32) (r_44 : Int32) (r_47 : Int32) (r_48 : Int32) (hz8 : 0 ≤ u.1 8 ∧ u.1 8 ≤ 20) (hz9 : 0 ≤ u.1 9 ∧ u.1 9 ≤ 8) (hz10 : 0 ≤ u.1 10 ∧ u.1 10 ≤ 120) (hz12 : 0 ≤ u.1 12 ∧ u.1 12 ≤ 16) (c9_8 : ¬ (x : Int32) = y) (b17_33 : 0 ≤ x ∧ x < (u.1 8 : Int32)) (b28_37 : 0 ≤ y ∧ y < (u.1 8 : Int32)) : 1 ≤ (1 : Int32) := by
  first | omega | ((try simp only [g_m1, Int32.lt_iff_toInt_lt, Int32.le_iff_toInt_le, ← Int32.toInt_inj, Int32.reduceToInt] at *); omega) | ((try simp only [g_m1, Int32.lt_iff_toInt_lt, Int32.le_iff_toInt_le, ← Int32.toInt_inj, Int32.reduceToInt] at *); omega) | ((try simp only [g_m1, Int32.lt_iff_toInt_lt, Int32.le_iff_toInt_le, ← Int32.toInt_inj, Int32.toInt_add, Int32.toInt_sub, Int32.toInt_mul, Int32.toInt_neg, Int32.reduceToInt, g_bm, g_bm'] at *); omega) | (have qr1 := g_rng x; have qr2 := g_rng y; have qr3 := g_rng z; have qr4 := g_rng w; have qr7 := g_rng r_44; have qr8 := g_rng r_47; have qr9 := g_rng r_48; (try simp only [g_m1, Int32.lt_iff_toInt_lt, Int32.le_iff_toInt_le, ← Int32.toInt_inj, Int32.toInt_add, Int32.toInt_sub, Int32.toInt_mul, Int32.toInt_neg, Int32.reduceToInt, g_bm, g_bm'] at *); omega) | (simp only [g_m1, Int32.lt_iff_toInt_lt, Int32.le_iff_toInt_le, ← Int32.toInt_inj, Int32.toInt_add, Int32.toInt_sub, Int32.toInt_mul, Int32.toInt_neg, Int32.reduceToInt, g_bm, g_bm'] at *; simp at *; omega) | (simp_all; done)
set_option maxHeartbeats 1000000 in
set_option maxRecDepth 100000 in
theorem g_X11_enough (l : Launch) (E : qE) (A : Nat → Prop) (u : qS) (x : Int32) (y : Int32) (z : Int32) (w : Int32) (hI : IC E u) : Met l yX11_enough (uws yX11_enough cX11_enough 7 (some .int)) (qR 8 0 0) (qPc E A 0 u [.ref (E.2.2 1199), .int x, .int y, .int z, .int w]) (qQi E A 0 (fun r u1 => (qFc [900, 901, 902, 908, 909, 604, 605, 606, 607, 608, 609, 311] [905, 906, 907, 601, 602, 603, 303, 304, 305, 306, 307] [] [904] u u1 ∧ IC E u1) ∧ (True))) 0 0 A := by
  refine q_met (own := RX11) (f := 8) [.ref (E.2.2 1199), .int x, .int y, .int z, .int w] (by decide) (Nat.le_of_ble_eq_true rfl) rfl ?_
  intro p0 e0 s0 m0 bl0 me0 cd0 ls hF hr hlocks hU hS hA hl
  have hl : lv_has ls 7 [(0, .ref (E.2.2 1199)), (1, .int x), (2, .int y), (3, .int z), (4, .int w)] := hl
  have hz8 : 0 ≤ u.1 8 ∧ u.1 8 ≤ 20 := hI.1.s8
  have hz9 : 0 ≤ u.1 9 ∧ u.1 9 ≤ 8 := hI.1.s9
  have hz10 : 0 ≤ u.1 10 ∧ u.1 10 ≤ 120 := hI.1.s10
  have hz12 : 0 ≤ u.1 12 ∧ u.1 12 ≤ 16 := hI.1.s12
  have hfr : qFc [900, 901, 902, 908, 909, 604, 605, 606, 607, 608, 609, 311] [905, 906, 907, 601, 602, 603, 303, 304, 305, 306, 307] [] [904] u u := qFc.rf
  have main : ∀ n : Nat, (∀ (x5 : Int32) (x6 : Int32) (uc : qS) (H : Heap) (locs : List Loc) (ls : Array Slot) (hfr : qFc [900, 901, 902, 908, 909, 604, 605, 606, 607, 608, 609, 311] [905, 906, 907, 601, 602, 603, 303, 304, 305, 306, 307] [] [904] u uc) (hI : IC E uc) (h_k : 1 ≤ x6), (1000 - x6.toInt).toNat < n → qH E A 0 uc s0 H → va_S A s0.heap H locs → lv_has ls 7 [(0, .ref (E.2.2 1199)), (1, .int x), (2, .int y), (3, .int z), (4, .int w), (5, .int x5), (6, .int x6)] → W p0 l e0 (qR 8 0 0) s0 m0 ([.ref (E.2.2 1199), .int x, .int y, .int z, .int w] : List Value).toArray bl0 me0 cd0 H locs 0 0 (MQ bl0 (qQi E A 0 (fun r u1 => (qFc [900, 901, 902, 908, 909, 604, 605, 606, 607, 608, 609, 311] [905, 906, 907, 601, 602, 603, 303, 304, 305, 306, 307] [] [904] u u1 ∧ IC E u1) ∧ (True))) ([.ref (E.2.2 1199), .int x, .int y, .int z, .int w] : List Value).toArray s0 0 0 A) (F0 m0 72 ls [])) := by
    clear hI hfr
    intro n
    induction n with
    | zero => exact fun _ _ _ _ _ _ _ _ _ hmu => absurd hmu (Nat.not_lt_zero _)
    | succ n ih =>
      intro x5 x6 uc H locs ls hfr hI h_k hmu hU hS hl
      refine lv_iload hF.1 hF.2.1 dX11_enough_72 (lv_at hl 6 rfl) ?_
      refine lv_sipush (v := 999) hF.1 hF.2.1 dX11_enough_74 (by decide) ?_
      refine lv_icmp_gt (tgt := 106) hF.1 hF.2.1 dX11_enough_77 (by decide) (fun c77_1 => ?_) (fun c77_1 => ?_)
      · refine lv_iconst (v := (-1)) hF.1 hF.2.1 dX11_enough_106 (by decide) ?_
        exact q_iret hF hr rfl hlocks hU hS dX11_enough_107 ⟨⟨hfr, hI⟩, trivial⟩
      · refine lv_iload hF.1 hF.2.1 dX11_enough_80 (lv_at hl 5 rfl) ?_
        refine lv_iconst (v := 2) hF.1 hF.2.1 dX11_enough_82 (by decide) ?_
        refine lv_bipush (v := 100) hF.1 hF.2.1 dX11_enough_83 (by decide) ?_
        refine lv_aload_n hF.1 hF.2.1 dX11_enough_85 rfl (lv_at hl 0 rfl) ?_
        refine q_get (v := .int (u.1 1108)) hF hU dX11_enough_86 0 11 8 1108 1199 rfl rfl rfl rfl inX11 (by decide) (by decide) w_444 rfl (congrArg Value.int (hfr.1 1108 (by decide))) ?_
        refine lv_imul hF.1 hF.2.1 dX11_enough_89 ?_
        refine lv_iload hF.1 hF.2.1 dX11_enough_90 (lv_at hl 6 rfl) ?_
        refine lv_idiv hF.1 hF.2.1 dX11_enough_92 (g_X11_enough_v0 u x y z w x5 x6 hz8 hz9 hz10 hz12 h_k c77_1) ?_
        refine lv_imul hF.1 hF.2.1 dX11_enough_93 ?_
        refine lv_icmp_le (tgt := 100) hF.1 hF.2.1 dX11_enough_94 (by decide) (fun c94_2 => ?_) (fun c94_2 => ?_)
        · refine lv_iinc (v := x6 + 1) (lv' := [(6, .int (x6 + 1)), (0, .ref (E.2.2 1199)), (1, .int x), (2, .int y), (3, .int z), (4, .int w), (5, .int x5)]) hF.1 hF.2.1 dX11_enough_100 hl (k := 6) rfl rfl (by decide) rfl (fun ls hl => ?_)
          refine lv_goto (tgt := 72) hF.1 hF.2.1 dX11_enough_103 (by decide) ?_
          exact ih x5 (x6 + 1) uc _ _ _ hfr hI  (g_X11_enough_v1 u x y z w x5 x6 hz8 hz9 hz10 hz12 h_k c77_1 c94_2) (Nat.lt_of_lt_of_le (g_X11_enough_v2 u x y z w x5 x6 hz8 hz9 hz10 hz12 h_k c77_1 c94_2) (Nat.lt_succ_iff.mp hmu)) hU hS (lv_sub hl [1, 2, 3, 4, 5, 6, 0] rfl)
        · refine lv_iload hF.1 hF.2.1 dX11_enough_97 (lv_at hl 6 rfl) ?_
          exact q_iret hF hr rfl hlocks hU hS dX11_enough_99 ⟨⟨hfr, hI⟩, trivial⟩
  refine lv_aload_n hF.1 hF.2.1 dX11_enough_0 rfl (lv_at hl 0 rfl) ?_
  refine q_get (v := .ref (E.2.2 399)) hF hU dX11_enough_1 0 11 5 1105 1199 rfl rfl rfl rfl inX11 (by decide) (by decide) w_441 rfl rfl ?_
  have hM9 := g_X3_refresh l E A u  hI
  have hR9 := q_runV (l := l) (e := e0) (below := bl0) (meth := me0) (R := qR 8 0 0) (cells := 0) (slots := 0) (st0 := [.ref (E.2.2 399)]) (rest := []) hF hU hS hA 0 6 3 399 rfl rfl rfl hM9 w_931 w_932 w_933 w_105 w_934 (by decide +kernel) ⟨Nat.le_of_ble_eq_true rfl, Nat.le_of_ble_eq_true rfl⟩ dX11_enough_4 rfl hl.1 rfl (Nat.le_of_ble_eq_true rfl) ⟨Nat.le_of_ble_eq_true rfl, Nat.le_of_ble_eq_true rfl⟩
  refine q_callv hR9 hU.2.2.2 hS (fun u_3 H locs hw_4 hU hS => ?_)
  obtain ⟨⟨hw_4_f, hI⟩, hw_4⟩ := hw_4
  have hfo := hfr
  have hfr : qFc [900, 901, 902, 908, 909, 604, 605, 606, 607, 608, 609, 311] [905, 906, 907, 601, 602, 603, 303, 304, 305, 306, 307] [] [904] u u_3 := hfr.trans (hw_4_f.mono (by decide) (by decide) (by decide) (by decide))
  have e_6 : u_3.2.1 306 = (u.2.1 306) := (hw_4_f.2.1 306 (by decide)).trans rfl
  have e_7 : u_3.2.1 307 = (u.2.1 307) := (hw_4_f.2.1 307 (by decide)).trans rfl
  refine lv_iload_n hF.1 hF.2.1 dX11_enough_7 rfl (lv_at hl 1 rfl) ?_
  refine lv_iload_n hF.1 hF.2.1 dX11_enough_8 rfl (lv_at hl 2 rfl) ?_
  refine lv_icmp_eq (tgt := 45) hF.1 hF.2.1 dX11_enough_9 (by decide) (fun c9_8 => ?_) (fun c9_8 => ?_)
  · refine lv_iconst (v := (-1)) hF.1 hF.2.1 dX11_enough_45 (by decide) ?_
    exact q_iret hF hr rfl hlocks hU hS dX11_enough_46 ⟨⟨hfr, hI⟩, trivial⟩
  · refine lv_aload_n hF.1 hF.2.1 dX11_enough_12 rfl (lv_at hl 0 rfl) ?_
    refine lv_iload_n hF.1 hF.2.1 dX11_enough_13 rfl (lv_at hl 1 rfl) ?_
    refine lv_iload_n hF.1 hF.2.1 dX11_enough_14 rfl (lv_at hl 3 rfl) ?_
    refine lv_iload hF.1 hF.2.1 dX11_enough_15 (lv_at hl 4 rfl) ?_
    have hM9 := g_X11_hasMean l E A u_3 x z w hI
    have hR9 := q_runV (l := l) (e := e0) (below := bl0) (meth := me0) (R := qR 8 0 0) (cells := 0) (slots := 0) (st0 := [.int w, .int z, .int x, .ref (E.2.2 1199)]) (rest := []) hF hU hS hA 3 0 11 1199 rfl rfl rfl hM9 w_1013 w_1015 w_35 w_99 w_1016 (by decide +kernel) ⟨Nat.le_of_ble_eq_true rfl, Nat.le_of_ble_eq_true rfl⟩ dX11_enough_17 rfl hl.1 rfl (Nat.le_of_ble_eq_true rfl) ⟨Nat.le_of_ble_eq_true rfl, Nat.le_of_ble_eq_true rfl⟩
    refine q_calli hR9 hU.2.2.2 hS (fun r_11 u_9 H locs hw_10 hU hS => ?_)
    obtain ⟨⟨hw_10_f, hI⟩, hw_10⟩ := hw_10
    have hfo := hfr
    have hfr : qFc [900, 901, 902, 908, 909, 604, 605, 606, 607, 608, 609, 311] [905, 906, 907, 601, 602, 603, 303, 304, 305, 306, 307] [] [904] u u_9 := hfr.trans (hw_10_f.mono (by decide) (by decide) (by decide) (by decide))
    have e_12 : u_9.1 311 = (u_3.1 311) := (hw_10_f.1 311 (by decide)).trans rfl
    have e_13 : u_9.1 604 = (u_3.1 604) := (hw_10_f.1 604 (by decide)).trans rfl
    have e_14 : u_9.1 605 = (u_3.1 605) := (hw_10_f.1 605 (by decide)).trans rfl
    have e_15 : u_9.1 606 = (u_3.1 606) := (hw_10_f.1 606 (by decide)).trans rfl
    have e_16 : u_9.1 607 = (u_3.1 607) := (hw_10_f.1 607 (by decide)).trans rfl
    have e_17 : u_9.1 608 = (u_3.1 608) := (hw_10_f.1 608 (by decide)).trans rfl
    have e_18 : u_9.1 609 = (u_3.1 609) := (hw_10_f.1 609 (by decide)).trans rfl
    have e_19 : u_9.1 900 = (u_3.1 900) := (hw_10_f.1 900 (by decide)).trans rfl
    have e_20 : u_9.1 901 = (u_3.1 901) := (hw_10_f.1 901 (by decide)).trans rfl
    have e_21 : u_9.1 902 = (u_3.1 902) := (hw_10_f.1 902 (by decide)).trans rfl
    have e_22 : u_9.1 908 = (u_3.1 908) := (hw_10_f.1 908 (by decide)).trans rfl
    have e_23 : u_9.1 909 = (u_3.1 909) := (hw_10_f.1 909 (by decide)).trans rfl
    have e_24 : u_9.2.1 303 = (u_3.2.1 303) := (hw_10_f.2.1 303 (by decide)).trans rfl
    have e_25 : u_9.2.1 304 = (u_3.2.1 304) := (hw_10_f.2.1 304 (by decide)).trans rfl
    have e_26 : u_9.2.1 305 = (u_3.2.1 305) := (hw_10_f.2.1 305 (by decide)).trans rfl
    have e_27 : u_9.2.1 601 = (u_3.2.1 601) := (hw_10_f.2.1 601 (by decide)).trans rfl
    have e_28 : u_9.2.1 602 = (u_3.2.1 602) := (hw_10_f.2.1 602 (by decide)).trans rfl
    have e_29 : u_9.2.1 603 = (u_3.2.1 603) := (hw_10_f.2.1 603 (by decide)).trans rfl
    have e_30 : u_9.2.1 905 = (u_3.2.1 905) := (hw_10_f.2.1 905 (by decide)).trans rfl
    have e_31 : u_9.2.1 906 = (u_3.2.1 906) := (hw_10_f.2.1 906 (by decide)).trans rfl
    have e_32 : u_9.2.1 907 = (u_3.2.1 907) := (hw_10_f.2.1 907 (by decide)).trans rfl
    have hw_10 : (r_11 = 1 ∧ (0 ≤ x ∧ x < (u.1 8 : Int32))) ∨ (r_11 = 0 ∧ (True)) := by rw [(hfo.1 8 (by decide))] at hw_10; exact hw_10
    rcases hw_10 with ⟨rfl, b17_33⟩ | ⟨rfl, b17_33⟩
    · refine lv_if_eq (tgt := 45) hF.1 hF.2.1 dX11_enough_20 (by decide) (fun h9 => absurd h9 (by decide)) (fun _ => ?_)
      refine lv_aload_n hF.1 hF.2.1 dX11_enough_23 rfl (lv_at hl 0 rfl) ?_
      refine q_get (v := .ref (E.2.2 99)) hF hU dX11_enough_24 0 11 0 1100 1199 rfl rfl rfl rfl inX11 (by decide) (by decide) w_436 rfl rfl ?_
      refine lv_iload_n hF.1 hF.2.1 dX11_enough_27 rfl (lv_at hl 2 rfl) ?_
      have hM9 := g_X0_hasShop l E A u_9 y hI
      have hR9 := q_runV (l := l) (e := e0) (below := bl0) (meth := me0) (R := qR 8 0 0) (cells := 0) (slots := 0) (st0 := [.int y, .ref (E.2.2 99)]) (rest := []) hF hU hS hA 1 1 0 99 rfl rfl rfl hM9 w_563 w_564 w_565 w_100 w_566 (by decide +kernel) ⟨Nat.le_of_ble_eq_true rfl, Nat.le_of_ble_eq_true rfl⟩ dX11_enough_28 rfl hl.1 rfl (Nat.le_of_ble_eq_true rfl) ⟨Nat.le_of_ble_eq_true rfl, Nat.le_of_ble_eq_true rfl⟩
      refine q_calli hR9 hU.2.2.2 hS (fun r_36 u_34 H locs hw_35 hU hS => ?_)
      obtain ⟨hw_35_e, hw_35⟩ := hw_35
      rw [hw_35_e] at hU
      have hw_35 : (r_36 = 1 ∧ (0 ≤ y ∧ y < (u.1 8 : Int32))) ∨ (r_36 = 0 ∧ (¬ (0 ≤ y ∧ y < (u.1 8 : Int32)))) := by rw [(hfr.1 8 (by decide))] at hw_35; exact hw_35
      rcases hw_35 with ⟨rfl, b28_37⟩ | ⟨rfl, b28_37⟩
      · refine lv_if_eq (tgt := 45) hF.1 hF.2.1 dX11_enough_31 (by decide) (fun h9 => absurd h9 (by decide)) (fun _ => ?_)
        refine lv_aload_n hF.1 hF.2.1 dX11_enough_34 rfl (lv_at hl 0 rfl) ?_
        refine q_get (v := .ref (E.2.2 399)) hF hU dX11_enough_35 0 11 5 1105 1199 rfl rfl rfl rfl inX11 (by decide) (by decide) w_441 rfl rfl ?_
        refine lv_iload_n hF.1 hF.2.1 dX11_enough_38 rfl (lv_at hl 2 rfl) ?_
        have hM9 := g_X3_isMet l E A u_9 y hI (by rw [(hfr.1 8 (by decide))]; exact (g_X11_enough_v3 u x y z w hz8 hz9 hz10 hz12 c9_8 b17_33 b28_37))
        have hR9 := q_runV (l := l) (e := e0) (below := bl0) (meth := me0) (R := qR 8 0 0) (cells := 0) (slots := 0) (st0 := [.int y, .ref (E.2.2 399)]) (rest := []) hF hU hS hA 1 6 3 399 rfl rfl rfl hM9 w_1033 w_1034 w_1035 w_105 w_1036 (by decide +kernel) ⟨Nat.le_of_ble_eq_true rfl, Nat.le_of_ble_eq_true rfl⟩ dX11_enough_39 rfl hl.1 rfl (Nat.le_of_ble_eq_true rfl) ⟨Nat.le_of_ble_eq_true rfl, Nat.le_of_ble_eq_true rfl⟩
        refine q_calli hR9 hU.2.2.2 hS (fun r_40 u_38 H locs hw_39 hU hS => ?_)
        obtain ⟨hw_39_e, hw_39⟩ := hw_39
        rw [hw_39_e] at hU
        rcases hw_39 with rfl | rfl
        · refine lv_if_ne (tgt := 47) hF.1 hF.2.1 dX11_enough_42 (by decide) (fun _ => ?_) (fun h9 => absurd h9 (by decide))
          refine lv_aload_n hF.1 hF.2.1 dX11_enough_47 rfl (lv_at hl 0 rfl) ?_
          refine q_get (v := .ref (E.2.2 399)) hF hU dX11_enough_48 0 11 5 1105 1199 rfl rfl rfl rfl inX11 (by decide) (by decide) w_441 rfl rfl ?_
          refine lv_iload_n hF.1 hF.2.1 dX11_enough_51 rfl (lv_at hl 1 rfl) ?_
          have hM9 := g_X3_meanOf l E A u_9 x hI (by rw [(hfr.1 8 (by decide))]; exact (g_X11_enough_v4 u x y z w hz8 hz9 hz10 hz12 c9_8 b17_33 b28_37))
          have hR9 := q_runV (l := l) (e := e0) (below := bl0) (meth := me0) (R := qR 8 0 0) (cells := 0) (slots := 0) (st0 := [.int x, .ref (E.2.2 399)]) (rest := []) hF hU hS hA 1 6 3 399 rfl rfl rfl hM9 w_1085 w_1050 w_1051 w_105 w_1052 (by decide +kernel) ⟨Nat.le_of_ble_eq_true rfl, Nat.le_of_ble_eq_true rfl⟩ dX11_enough_52 rfl hl.1 rfl (Nat.le_of_ble_eq_true rfl) ⟨Nat.le_of_ble_eq_true rfl, Nat.le_of_ble_eq_true rfl⟩
          refine q_calli hR9 hU.2.2.2 hS (fun r_44 u_42 H locs hw_43 hU hS => ?_)
          obtain ⟨hw_43_e, hw_43⟩ := hw_43
          rw [hw_43_e] at hU
          refine lv_aload_n hF.1 hF.2.1 dX11_enough_55 rfl (lv_at hl 0 rfl) ?_
          refine q_get (v := .ref (E.2.2 399)) hF hU dX11_enough_56 0 11 5 1105 1199 rfl rfl rfl rfl inX11 (by decide) (by decide) w_441 rfl rfl ?_
          refine lv_iload_n hF.1 hF.2.1 dX11_enough_59 rfl (lv_at hl 2 rfl) ?_
          have hM9 := g_X3_meanOf l E A u_9 y hI (by rw [(hfr.1 8 (by decide))]; exact (g_X11_enough_v5 u x y z w r_44 hz8 hz9 hz10 hz12 c9_8 b17_33 b28_37))
          have hR9 := q_runV (l := l) (e := e0) (below := bl0) (meth := me0) (R := qR 8 0 0) (cells := 0) (slots := 0) (st0 := [.int y, .ref (E.2.2 399), .int r_44]) (rest := [.int r_44]) hF hU hS hA 1 6 3 399 rfl rfl rfl hM9 w_1085 w_1050 w_1051 w_105 w_1052 (by decide +kernel) ⟨Nat.le_of_ble_eq_true rfl, Nat.le_of_ble_eq_true rfl⟩ dX11_enough_60 rfl hl.1 rfl (Nat.le_of_ble_eq_true rfl) ⟨Nat.le_of_ble_eq_true rfl, Nat.le_of_ble_eq_true rfl⟩
          refine q_calli hR9 hU.2.2.2 hS (fun r_47 u_45 H locs hw_46 hU hS => ?_)
          obtain ⟨hw_46_e, hw_46⟩ := hw_46
          rw [hw_46_e] at hU
          refine lv_isub hF.1 hF.2.1 dX11_enough_63 ?_
          refine va_mabs hF.1 hF.2.1 (hF.2.2.1.trans hl.1.symm) hF.2.2.2.1 (hF.2.2.2.2 _ w_1086) (hF.2.2.2.2 _ w_885) (hF.2.2.2.2 _ w_113) (hF.2.2.2.2 _ w_886) (by decide) (Nat.le_of_ble_eq_true rfl) (by decide) (by decide) dX11_enough_64 ?_
          obtain ⟨r_48, hr_48⟩ : ∃ z : Int32, z = (if 0 ≤ (r_44 - r_47 : Int32) then (r_44 - r_47) else 0 - (r_44 - r_47)) := ⟨_, rfl⟩
          refine q_topi hr_48.symm ?_
          refine lv_istore (lv' := [(5, .int r_48), (0, .ref (E.2.2 1199)), (1, .int x), (2, .int y), (3, .int z), (4, .int w)]) hF.1 hF.2.1 dX11_enough_67 hl (by decide) rfl (fun ls hl => ?_)
          refine lv_iconst (v := 1) hF.1 hF.2.1 dX11_enough_69 (by decide) ?_
          refine lv_istore (lv' := [(6, .int 1), (5, .int r_48), (0, .ref (E.2.2 1199)), (1, .int x), (2, .int y), (3, .int z), (4, .int w)]) hF.1 hF.2.1 dX11_enough_70 hl (by decide) rfl (fun ls hl => ?_)
          exact (main _) r_48 (1 : Int32) u_9 _ _ _ hfr hI  (g_X11_enough_v6 u x y z w r_44 r_47 r_48 hz8 hz9 hz10 hz12 c9_8 b17_33 b28_37) (Nat.lt_succ_self _) hU hS (lv_sub hl [2, 3, 4, 5, 6, 1, 0] rfl)
        · refine lv_if_ne (tgt := 47) hF.1 hF.2.1 dX11_enough_42 (by decide) (fun h9 => absurd (by decide) h9) (fun _ => ?_)
          refine lv_iconst (v := (-1)) hF.1 hF.2.1 dX11_enough_45 (by decide) ?_
          exact q_iret hF hr rfl hlocks hU hS dX11_enough_46 ⟨⟨hfr, hI⟩, trivial⟩
      · refine lv_if_eq (tgt := 45) hF.1 hF.2.1 dX11_enough_31 (by decide) (fun _ => ?_) (fun h9 => absurd (by decide) h9)
        refine lv_iconst (v := (-1)) hF.1 hF.2.1 dX11_enough_45 (by decide) ?_
        exact q_iret hF hr rfl hlocks hU hS dX11_enough_46 ⟨⟨hfr, hI⟩, trivial⟩
    · refine lv_if_eq (tgt := 45) hF.1 hF.2.1 dX11_enough_20 (by decide) (fun _ => ?_) (fun h9 => absurd (by decide) h9)
      refine lv_iconst (v := (-1)) hF.1 hF.2.1 dX11_enough_45 (by decide) ?_
      exact q_iret hF hr rfl hlocks hU hS dX11_enough_46 ⟨⟨hfr, hI⟩, trivial⟩
set_option maxRecDepth 100000 in
theorem g_X11_may_v0 (u : qS) (x : Int32) (y : Int32) (z : Int32) (hz8 : 0 ≤ u.1 8 ∧ u.1 8 ≤ 20) (hz9 : 0 ≤ u.1 9 ∧ u.1 9 ≤ 8) (hz10 : 0 ≤ u.1 10 ∧ u.1 10 ≤ 120) (hz12 : 0 ≤ u.1 12 ∧ u.1 12 ≤ 16) (b5_4 : 0 ≤ x ∧ x < u.1 9) (b16_8 : 0 ≤ y ∧ y < u.1 8) (b23_12 : 0 ≤ z ∧ z ≤ 9999) : 0 ≤ x ∧ x < (u.1 9 : Int32) := by
  first | omega | ((try simp only [g_m1, Int32.lt_iff_toInt_lt, Int32.le_iff_toInt_le, ← Int32.toInt_inj, Int32.reduceToInt] at *); omega) | ((try simp only [g_m1, Int32.lt_iff_toInt_lt, Int32.le_iff_toInt_le, ← Int32.toInt_inj, Int32.reduceToInt] at *); omega) | ((try simp only [g_m1, Int32.lt_iff_toInt_lt, Int32.le_iff_toInt_le, ← Int32.toInt_inj, Int32.toInt_add, Int32.toInt_sub, Int32.toInt_mul, Int32.toInt_neg, Int32.reduceToInt, g_bm, g_bm'] at *); omega) | (have qr1 := g_rng x; have qr2 := g_rng y; have qr3 := g_rng z; (try simp only [g_m1, Int32.lt_iff_toInt_lt, Int32.le_iff_toInt_le, ← Int32.toInt_inj, Int32.toInt_add, Int32.toInt_sub, Int32.toInt_mul, Int32.toInt_neg, Int32.reduceToInt, g_bm, g_bm'] at *); omega) | (simp only [g_m1, Int32.lt_iff_toInt_lt, Int32.le_iff_toInt_le, ← Int32.toInt_inj, Int32.toInt_add, Int32.toInt_sub, Int32.toInt_mul, Int32.toInt_neg, Int32.reduceToInt, g_bm, g_bm'] at *; simp at *; omega) | (simp_all; done)
set_option maxRecDepth 100000 in
theorem g_X11_may_v1 (u : qS) (x : Int32) (y : Int32) (z : Int32) (hz8 : 0 ≤ u.1 8 ∧ u.1 8 ≤ 20) (hz9 : 0 ≤ u.1 9 ∧ u.1 9 ≤ 8) (hz10 : 0 ≤ u.1 10 ∧ u.1 10 ≤ 120) (hz12 : 0 ≤ u.1 12 ∧ u.1 12 ≤ 16) (b5_4 : 0 ≤ x ∧ x < u.1 9) (b16_8 : 0 ≤ y ∧ y < u.1 8) (b23_12 : 0 ≤ z ∧ z ≤ 9999) : 0 ≤ y ∧ y < (u.1 8 : Int32) := by
  first | omega | ((try simp only [g_m1, Int32.lt_iff_toInt_lt, Int32.le_iff_toInt_le, ← Int32.toInt_inj, Int32.reduceToInt] at *); omega) | ((try simp only [g_m1, Int32.lt_iff_toInt_lt, Int32.le_iff_toInt_le, ← Int32.toInt_inj, Int32.reduceToInt] at *); omega) | ((try simp only [g_m1, Int32.lt_iff_toInt_lt, Int32.le_iff_toInt_le, ← Int32.toInt_inj, Int32.toInt_add, Int32.toInt_sub, Int32.toInt_mul, Int32.toInt_neg, Int32.reduceToInt, g_bm, g_bm'] at *); omega) | (have qr1 := g_rng x; have qr2 := g_rng y; have qr3 := g_rng z; (try simp only [g_m1, Int32.lt_iff_toInt_lt, Int32.le_iff_toInt_le, ← Int32.toInt_inj, Int32.toInt_add, Int32.toInt_sub, Int32.toInt_mul, Int32.toInt_neg, Int32.reduceToInt, g_bm, g_bm'] at *); omega) | (simp only [g_m1, Int32.lt_iff_toInt_lt, Int32.le_iff_toInt_le, ← Int32.toInt_inj, Int32.toInt_add, Int32.toInt_sub, Int32.toInt_mul, Int32.toInt_neg, Int32.reduceToInt, g_bm, g_bm'] at *; simp at *; omega) | (simp_all; done)
set_option maxRecDepth 100000 in
theorem g_X11_may_v2 (u : qS) (x : Int32) (y : Int32) (z : Int32) (hz8 : 0 ≤ u.1 8 ∧ u.1 8 ≤ 20) (hz9 : 0 ≤ u.1 9 ∧ u.1 9 ≤ 8) (hz10 : 0 ≤ u.1 10 ∧ u.1 10 ≤ 120) (hz12 : 0 ≤ u.1 12 ∧ u.1 12 ≤ 16) (b5_4 : 0 ≤ x ∧ x < u.1 9) (b16_8 : 0 ≤ y ∧ y < u.1 8) (b23_12 : 0 ≤ z ∧ z ≤ 9999) (b38_16 : c_mg u x y z) : (((0 ≤ x ∧ x < u.1 9) ∧ (0 ≤ y ∧ y < u.1 8) ∧ (0 ≤ z ∧ z ≤ 9999)) ∧ c_mg u x y z ∧ (1 : Int32) = 1) ∨ (((0 ≤ x ∧ x < u.1 9) ∧ (0 ≤ y ∧ y < u.1 8) ∧ (0 ≤ z ∧ z ≤ 9999)) ∧ ¬ c_mg u x y z ∧ (1 : Int32) = 0) ∨ (¬ ((0 ≤ x ∧ x < u.1 9) ∧ (0 ≤ y ∧ y < u.1 8) ∧ (0 ≤ z ∧ z ≤ 9999)) ∧ (1 : Int32) = -1) := by
  first | exact Or.inl ⟨⟨by assumption, by assumption, by assumption⟩, by assumption, rfl⟩ | exact Or.inr (Or.inl ⟨⟨by assumption, by assumption, by assumption⟩, by assumption, rfl⟩) | exact Or.inr (Or.inr ⟨fun q => (by obtain ⟨q1, q2, q3⟩ := q; first | exact absurd q1 (by assumption) | exact absurd q2 (by assumption) | exact absurd q3 (by assumption)), rfl⟩)
set_option maxRecDepth 100000 in
theorem g_X11_may_v3 (u : qS) (x : Int32) (y : Int32) (z : Int32) (hz8 : 0 ≤ u.1 8 ∧ u.1 8 ≤ 20) (hz9 : 0 ≤ u.1 9 ∧ u.1 9 ≤ 8) (hz10 : 0 ≤ u.1 10 ∧ u.1 10 ≤ 120) (hz12 : 0 ≤ u.1 12 ∧ u.1 12 ≤ 16) (b5_4 : 0 ≤ x ∧ x < u.1 9) (b16_8 : 0 ≤ y ∧ y < u.1 8) (b23_12 : 0 ≤ z ∧ z ≤ 9999) (b38_16 : ¬ (c_mg u x y z)) : (((0 ≤ x ∧ x < u.1 9) ∧ (0 ≤ y ∧ y < u.1 8) ∧ (0 ≤ z ∧ z ≤ 9999)) ∧ c_mg u x y z ∧ (0 : Int32) = 1) ∨ (((0 ≤ x ∧ x < u.1 9) ∧ (0 ≤ y ∧ y < u.1 8) ∧ (0 ≤ z ∧ z ≤ 9999)) ∧ ¬ c_mg u x y z ∧ (0 : Int32) = 0) ∨ (¬ ((0 ≤ x ∧ x < u.1 9) ∧ (0 ≤ y ∧ y < u.1 8) ∧ (0 ≤ z ∧ z ≤ 9999)) ∧ (0 : Int32) = -1) := by
  first | exact Or.inl ⟨⟨by assumption, by assumption, by assumption⟩, by assumption, rfl⟩ | exact Or.inr (Or.inl ⟨⟨by assumption, by assumption, by assumption⟩, by assumption, rfl⟩) | exact Or.inr (Or.inr ⟨fun q => (by obtain ⟨q1, q2, q3⟩ := q; first | exact absurd q1 (by assumption) | exact absurd q2 (by assumption) | exact absurd q3 (by assumption)), rfl⟩)
set_option maxRecDepth 100000 in
theorem g_X11_may_v4 (u : qS) (x : Int32) (y : Int32) (z : Int32) (hz8 : 0 ≤ u.1 8 ∧ u.1 8 ≤ 20) (hz9 : 0 ≤ u.1 9 ∧ u.1 9 ≤ 8) (hz10 : 0 ≤ u.1 10 ∧ u.1 10 ≤ 120) (hz12 : 0 ≤ u.1 12 ∧ u.1 12 ≤ 16) (b5_4 : 0 ≤ x ∧ x < u.1 9) (b16_8 : 0 ≤ y ∧ y < u.1 8) (b23_12 : ¬ (0 ≤ z ∧ z ≤ 9999)) : (((0 ≤ x ∧ x < u.1 9) ∧ (0 ≤ y ∧ y < u.1 8) ∧ (0 ≤ z ∧ z ≤ 9999)) ∧ c_mg u x y z ∧ ((-1) : Int32) = 1) ∨ (((0 ≤ x ∧ x < u.1 9) ∧ (0 ≤ y ∧ y < u.1 8) ∧ (0 ≤ z ∧ z ≤ 9999)) ∧ ¬ c_mg u x y z ∧ ((-1) : Int32) = 0) ∨ (¬ ((0 ≤ x ∧ x < u.1 9) ∧ (0 ≤ y ∧ y < u.1 8) ∧ (0 ≤ z ∧ z ≤ 9999)) ∧ ((-1) : Int32) = -1) := by
  first | exact Or.inl ⟨⟨by assumption, by assumption, by assumption⟩, by assumption, rfl⟩ | exact Or.inr (Or.inl ⟨⟨by assumption, by assumption, by assumption⟩, by assumption, rfl⟩) | exact Or.inr (Or.inr ⟨fun q => (by obtain ⟨q1, q2, q3⟩ := q; first | exact absurd q1 (by assumption) | exact absurd q2 (by assumption) | exact absurd q3 (by assumption)), rfl⟩)
set_option maxRecDepth 100000 in
theorem g_X11_may_v5 (u : qS) (x : Int32) (y : Int32) (z : Int32) (hz8 : 0 ≤ u.1 8 ∧ u.1 8 ≤ 20) (hz9 : 0 ≤ u.1 9 ∧ u.1 9 ≤ 8) (hz10 : 0 ≤ u.1 10 ∧ u.1 10 ≤ 120) (hz12 : 0 ≤ u.1 12 ∧ u.1 12 ≤ 16) (b5_4 : 0 ≤ x ∧ x < u.1 9) (b16_8 : ¬ (0 ≤ y ∧ y < u.1 8)) : (((0 ≤ x ∧ x < u.1 9) ∧ (0 ≤ y ∧ y < u.1 8) ∧ (0 ≤ z ∧ z ≤ 9999)) ∧ c_mg u x y z ∧ ((-1) : Int32) = 1) ∨ (((0 ≤ x ∧ x < u.1 9) ∧ (0 ≤ y ∧ y < u.1 8) ∧ (0 ≤ z ∧ z ≤ 9999)) ∧ ¬ c_mg u x y z ∧ ((-1) : Int32) = 0) ∨ (¬ ((0 ≤ x ∧ x < u.1 9) ∧ (0 ≤ y ∧ y < u.1 8) ∧ (0 ≤ z ∧ z ≤ 9999)) ∧ ((-1) : Int32) = -1) := by
  first | exact Or.inl ⟨⟨by assumption, by assumption, by assumption⟩, by assumption, rfl⟩ | exact Or.inr (Or.inl ⟨⟨by assumption, by assumption, by assumption⟩, by assumption, rfl⟩) | exact Or.inr (Or.inr ⟨fun q => (by obtain ⟨q1, q2, q3⟩ := q; first | exact absurd q1 (by assumption) | exact absurd q2 (by assumption) | exact absurd q3 (by assumption)), rfl⟩)
set_option maxRecDepth 100000 in
theorem g_X11_may_v6 (u : qS) (x : Int32) (y : Int32) (z : Int32) (hz8 : 0 ≤ u.1 8 ∧ u.1 8 ≤ 20) (hz9 : 0 ≤ u.1 9 ∧ u.1 9 ≤ 8) (hz10 : 0 ≤ u.1 10 ∧ u.1 10 ≤ 120) (hz12 : 0 ≤ u.1 12 ∧ u.1 12 ≤ 16) (b5_4 : ¬ (0 ≤ x ∧ x < u.1 9)) : (((0 ≤ x ∧ x < u.1 9) ∧ (0 ≤ y ∧ y < u.1 8) ∧ (0 ≤ z ∧ z ≤ 9999)) ∧ c_mg u x y z ∧ ((-1) : Int32) = 1) ∨ (((0 ≤ x ∧ x < u.1 9) ∧ (0 ≤ y ∧ y < u.1 8) ∧ (0 ≤ z ∧ z ≤ 9999)) ∧ ¬ c_mg u x y z ∧ ((-1) : Int32) = 0) ∨ (¬ ((0 ≤ x ∧ x < u.1 9) ∧ (0 ≤ y ∧ y < u.1 8) ∧ (0 ≤ z ∧ z ≤ 9999)) ∧ ((-1) : Int32) = -1) := by
  first | exact Or.inl ⟨⟨by assumption, by assumption, by assumption⟩, by assumption, rfl⟩ | exact Or.inr (Or.inl ⟨⟨by assumption, by assumption, by assumption⟩, by assumption, rfl⟩) | exact Or.inr (Or.inr ⟨fun q => (by obtain ⟨q1, q2, q3⟩ := q; first | exact absurd q1 (by assumption) | exact absurd q2 (by assumption) | exact absurd q3 (by assumption)), rfl⟩)
set_option maxHeartbeats 1000000 in
set_option maxRecDepth 100000 in
theorem g_X11_may (l : Launch) (E : qE) (A : Nat → Prop) (u : qS) (x : Int32) (y : Int32) (z : Int32) (hI : IC E u) : Met l yX11_may (uws yX11_may cX11_may 4 (some .int)) (qR 5 0 0) (qPc E A 0 u [.ref (E.2.2 1199), .int x, .int y, .int z]) (qQi E A 0 (fun r u1 => u1 = u ∧ ((((0 ≤ x ∧ x < u.1 9) ∧ (0 ≤ y ∧ y < u.1 8) ∧ (0 ≤ z ∧ z ≤ 9999)) ∧ c_mg u x y z ∧ r = 1) ∨ (((0 ≤ x ∧ x < u.1 9) ∧ (0 ≤ y ∧ y < u.1 8) ∧ (0 ≤ z ∧ z ≤ 9999)) ∧ ¬ c_mg u x y z ∧ r = 0) ∨ (¬ ((0 ≤ x ∧ x < u.1 9) ∧ (0 ≤ y ∧ y < u.1 8) ∧ (0 ≤ z ∧ z ≤ 9999)) ∧ r = -1)))) 0 0 A := by
  refine q_met (own := RX11) (f := 5) [.ref (E.2.2 1199), .int x, .int y, .int z] (by decide) (Nat.le_of_ble_eq_true rfl) rfl ?_
  intro p0 e0 s0 m0 bl0 me0 cd0 ls hF hr hlocks hU hS hA hl
  have hl : lv_has ls 4 [(0, .ref (E.2.2 1199)), (1, .int x), (2, .int y), (3, .int z)] := hl
  have hz8 : 0 ≤ u.1 8 ∧ u.1 8 ≤ 20 := hI.1.s8
  have hz9 : 0 ≤ u.1 9 ∧ u.1 9 ≤ 8 := hI.1.s9
  have hz10 : 0 ≤ u.1 10 ∧ u.1 10 ≤ 120 := hI.1.s10
  have hz12 : 0 ≤ u.1 12 ∧ u.1 12 ≤ 16 := hI.1.s12
  refine lv_aload_n hF.1 hF.2.1 dX11_may_0 rfl (lv_at hl 0 rfl) ?_
  refine q_get (v := .ref (E.2.2 99)) hF hU dX11_may_1 0 11 0 1100 1199 rfl rfl rfl rfl inX11 (by decide) (by decide) w_436 rfl rfl ?_
  refine lv_iload_n hF.1 hF.2.1 dX11_may_4 rfl (lv_at hl 1 rfl) ?_
  have hM9 := g_X0_hasBuyer l E A u x hI
  have hR9 := q_runV (l := l) (e := e0) (below := bl0) (meth := me0) (R := qR 5 0 0) (cells := 0) (slots := 0) (st0 := [.int x, .ref (E.2.2 99)]) (rest := []) hF hU hS hA 1 1 0 99 rfl rfl rfl hM9 w_568 w_569 w_570 w_100 w_571 (by decide +kernel) ⟨Nat.le_of_ble_eq_true rfl, Nat.le_of_ble_eq_true rfl⟩ dX11_may_5 rfl hl.1 rfl (Nat.le_of_ble_eq_true rfl) ⟨Nat.le_of_ble_eq_true rfl, Nat.le_of_ble_eq_true rfl⟩
  refine q_calli hR9 hU.2.2.2 hS (fun r_3 u_1 H locs hw_2 hU hS => ?_)
  obtain ⟨hw_2_e, hw_2⟩ := hw_2
  rw [hw_2_e] at hU
  have hw_2 : (r_3 = 1 ∧ (0 ≤ x ∧ x < u.1 9)) ∨ (r_3 = 0 ∧ (¬ (0 ≤ x ∧ x < u.1 9))) := hw_2
  rcases hw_2 with ⟨rfl, b5_4⟩ | ⟨rfl, b5_4⟩
  · refine lv_if_eq (tgt := 29) hF.1 hF.2.1 dX11_may_8 (by decide) (fun h9 => absurd h9 (by decide)) (fun _ => ?_)
    refine lv_aload_n hF.1 hF.2.1 dX11_may_11 rfl (lv_at hl 0 rfl) ?_
    refine q_get (v := .ref (E.2.2 99)) hF hU dX11_may_12 0 11 0 1100 1199 rfl rfl rfl rfl inX11 (by decide) (by decide) w_436 rfl rfl ?_
    refine lv_iload_n hF.1 hF.2.1 dX11_may_15 rfl (lv_at hl 2 rfl) ?_
    have hM9 := g_X0_hasShop l E A u y hI
    have hR9 := q_runV (l := l) (e := e0) (below := bl0) (meth := me0) (R := qR 5 0 0) (cells := 0) (slots := 0) (st0 := [.int y, .ref (E.2.2 99)]) (rest := []) hF hU hS hA 1 1 0 99 rfl rfl rfl hM9 w_563 w_564 w_565 w_100 w_566 (by decide +kernel) ⟨Nat.le_of_ble_eq_true rfl, Nat.le_of_ble_eq_true rfl⟩ dX11_may_16 rfl hl.1 rfl (Nat.le_of_ble_eq_true rfl) ⟨Nat.le_of_ble_eq_true rfl, Nat.le_of_ble_eq_true rfl⟩
    refine q_calli hR9 hU.2.2.2 hS (fun r_7 u_5 H locs hw_6 hU hS => ?_)
    obtain ⟨hw_6_e, hw_6⟩ := hw_6
    rw [hw_6_e] at hU
    have hw_6 : (r_7 = 1 ∧ (0 ≤ y ∧ y < u.1 8)) ∨ (r_7 = 0 ∧ (¬ (0 ≤ y ∧ y < u.1 8))) := hw_6
    rcases hw_6 with ⟨rfl, b16_8⟩ | ⟨rfl, b16_8⟩
    · refine lv_if_eq (tgt := 29) hF.1 hF.2.1 dX11_may_19 (by decide) (fun h9 => absurd h9 (by decide)) (fun _ => ?_)
      refine lv_iload_n hF.1 hF.2.1 dX11_may_22 rfl (lv_at hl 3 rfl) ?_
      have hM9 := g_X11_isDay l E A u z
      have hR9 := q_runS (l := l) (e := e0) (below := bl0) (meth := me0) (R := qR 5 0 0) (cells := 0) (slots := 0) (st0 := [.int z]) (rest := []) hF hU hS hA 1 hM9 w_699 w_700 w_99 w_701 (by decide +kernel) ⟨Nat.le_of_ble_eq_true rfl, Nat.le_of_ble_eq_true rfl⟩ dX11_may_23 rfl hl.1 rfl (Nat.le_of_ble_eq_true rfl) ⟨Nat.le_of_ble_eq_true rfl, Nat.le_of_ble_eq_true rfl⟩
      refine q_calli hR9 hU.2.2.2 hS (fun r_11 u_9 H locs hw_10 hU hS => ?_)
      obtain ⟨hw_10_e, hw_10⟩ := hw_10
      rw [hw_10_e] at hU
      have hw_10 : (r_11 = 1 ∧ (0 ≤ z ∧ z ≤ 9999)) ∨ (r_11 = 0 ∧ (¬ (0 ≤ z ∧ z ≤ 9999))) := hw_10
      rcases hw_10 with ⟨rfl, b23_12⟩ | ⟨rfl, b23_12⟩
      · refine lv_if_ne (tgt := 31) hF.1 hF.2.1 dX11_may_26 (by decide) (fun _ => ?_) (fun h9 => absurd h9 (by decide))
        refine lv_aload_n hF.1 hF.2.1 dX11_may_31 rfl (lv_at hl 0 rfl) ?_
        refine q_get (v := .ref (E.2.2 99)) hF hU dX11_may_32 0 11 0 1100 1199 rfl rfl rfl rfl inX11 (by decide) (by decide) w_436 rfl rfl ?_
        refine lv_iload_n hF.1 hF.2.1 dX11_may_35 rfl (lv_at hl 1 rfl) ?_
        refine lv_iload_n hF.1 hF.2.1 dX11_may_36 rfl (lv_at hl 2 rfl) ?_
        refine lv_iload_n hF.1 hF.2.1 dX11_may_37 rfl (lv_at hl 3 rfl) ?_
        have hM9 := g_X0_mayGo l E A u x y z hI (g_X11_may_v0 u x y z hz8 hz9 hz10 hz12 b5_4 b16_8 b23_12) (g_X11_may_v1 u x y z hz8 hz9 hz10 hz12 b5_4 b16_8 b23_12)
        have hR9 := q_runV (l := l) (e := e0) (below := bl0) (meth := me0) (R := qR 5 0 0) (cells := 0) (slots := 0) (st0 := [.int z, .int y, .int x, .ref (E.2.2 99)]) (rest := []) hF hU hS hA 3 1 0 99 rfl rfl rfl hM9 w_1091 w_1092 w_1093 w_100 w_1094 (by decide +kernel) ⟨Nat.le_of_ble_eq_true rfl, Nat.le_of_ble_eq_true rfl⟩ dX11_may_38 rfl hl.1 rfl (Nat.le_of_ble_eq_true rfl) ⟨Nat.le_of_ble_eq_true rfl, Nat.le_of_ble_eq_true rfl⟩
        refine q_calli hR9 hU.2.2.2 hS (fun r_15 u_13 H locs hw_14 hU hS => ?_)
        obtain ⟨hw_14_e, hw_14⟩ := hw_14
        rw [hw_14_e] at hU
        have hw_14 : (r_15 = 1 ∧ (c_mg u x y z)) ∨ (r_15 = 0 ∧ (¬ (c_mg u x y z))) := hw_14
        rcases hw_14 with ⟨rfl, b38_16⟩ | ⟨rfl, b38_16⟩
        · refine lv_if_eq (tgt := 48) hF.1 hF.2.1 dX11_may_41 (by decide) (fun h9 => absurd h9 (by decide)) (fun _ => ?_)
          refine lv_iconst (v := 1) hF.1 hF.2.1 dX11_may_44 (by decide) ?_
          refine lv_goto (tgt := 49) hF.1 hF.2.1 dX11_may_45 (by decide) ?_
          exact q_iret hF hr rfl hlocks hU hS dX11_may_49 ⟨rfl, (g_X11_may_v2 u x y z hz8 hz9 hz10 hz12 b5_4 b16_8 b23_12 b38_16)⟩
        · refine lv_if_eq (tgt := 48) hF.1 hF.2.1 dX11_may_41 (by decide) (fun _ => ?_) (fun h9 => absurd (by decide) h9)
          refine lv_iconst (v := 0) hF.1 hF.2.1 dX11_may_48 (by decide) ?_
          exact q_iret hF hr rfl hlocks hU hS dX11_may_49 ⟨rfl, (g_X11_may_v3 u x y z hz8 hz9 hz10 hz12 b5_4 b16_8 b23_12 b38_16)⟩
      · refine lv_if_ne (tgt := 31) hF.1 hF.2.1 dX11_may_26 (by decide) (fun h9 => absurd (by decide) h9) (fun _ => ?_)
        refine lv_iconst (v := (-1)) hF.1 hF.2.1 dX11_may_29 (by decide) ?_
        exact q_iret hF hr rfl hlocks hU hS dX11_may_30 ⟨rfl, (g_X11_may_v4 u x y z hz8 hz9 hz10 hz12 b5_4 b16_8 b23_12)⟩
    · refine lv_if_eq (tgt := 29) hF.1 hF.2.1 dX11_may_19 (by decide) (fun _ => ?_) (fun h9 => absurd (by decide) h9)
      refine lv_iconst (v := (-1)) hF.1 hF.2.1 dX11_may_29 (by decide) ?_
      exact q_iret hF hr rfl hlocks hU hS dX11_may_30 ⟨rfl, (g_X11_may_v5 u x y z hz8 hz9 hz10 hz12 b5_4 b16_8)⟩
  · refine lv_if_eq (tgt := 29) hF.1 hF.2.1 dX11_may_8 (by decide) (fun _ => ?_) (fun h9 => absurd (by decide) h9)
    refine lv_iconst (v := (-1)) hF.1 hF.2.1 dX11_may_29 (by decide) ?_
    exact q_iret hF hr rfl hlocks hU hS dX11_may_30 ⟨rfl, (g_X11_may_v6 u x y z hz8 hz9 hz10 hz12 b5_4)⟩
set_option maxRecDepth 100000 in
theorem g_X11_given_v0 (u : qS) (x : Int32) (y : Int32) (z : Int32) (r_5 : Int32) (u_16 : qS) (hz8 : 0 ≤ u.1 8 ∧ u.1 8 ≤ 20) (hz9 : 0 ≤ u.1 9 ∧ u.1 9 ≤ 8) (hz10 : 0 ≤ u.1 10 ∧ u.1 10 ≤ 120) (hz12 : 0 ≤ u.1 12 ∧ u.1 12 ≤ 16) (c1_1 : ¬ (x : Int32) ≤ 0) (c14_2 : ¬ (1 <<< (u.1 8 &&& 31)) ≤ (x : Int32)) (c23_6 : (r_5 : Int32) ≤ 8) (b29_10 : 0 ≤ y ∧ y ≤ 9999) (b39_14 : (0 : Int32) ≤ z ∧ z ≤ (20 : Int32)) (c50_15 : 20 ≤ (z : Int32)) (b69_19 : 0 ≤ (u_16.1 204).toInt ∧ (u_16.1 204).toInt ≤ 8) (c80_20 : ¬ (z : Int32) = 20) : 0 ≤ ((u_16.1 204 : Int32)).toInt ∧ ((u_16.1 204 : Int32)).toInt ≤ 8 := by
  assumption
set_option maxRecDepth 100000 in
theorem g_X11_given_v1 (u : qS) (x : Int32) (y : Int32) (z : Int32) (r_5 : Int32) (u_16 : qS) (hz8 : 0 ≤ u.1 8 ∧ u.1 8 ≤ 20) (hz9 : 0 ≤ u.1 9 ∧ u.1 9 ≤ 8) (hz10 : 0 ≤ u.1 10 ∧ u.1 10 ≤ 120) (hz12 : 0 ≤ u.1 12 ∧ u.1 12 ≤ 16) (c1_1 : ¬ (x : Int32) ≤ 0) (c14_2 : ¬ (1 <<< (u.1 8 &&& 31)) ≤ (x : Int32)) (c23_6 : (r_5 : Int32) ≤ 8) (b29_10 : 0 ≤ y ∧ y ≤ 9999) (b39_14 : (0 : Int32) ≤ z ∧ z ≤ (20 : Int32)) (c50_15 : 20 ≤ (z : Int32)) (b69_19 : 0 ≤ (u_16.1 204).toInt ∧ (u_16.1 204).toInt ≤ 8) (c80_20 : (z : Int32) = 20) : 0 ≤ ((u_16.1 204 : Int32)).toInt ∧ ((u_16.1 204 : Int32)).toInt ≤ 8 := by
  assumption
set_option maxRecDepth 100000 in
theorem g_X11_given_v2 (u : qS) (x : Int32) (y : Int32) (z : Int32) (r_5 : Int32) (u_28 : qS) (hz8 : 0 ≤ u.1 8 ∧ u.1 8 ≤ 20) (hz9 : 0 ≤ u.1 9 ∧ u.1 9 ≤ 8) (hz10 : 0 ≤ u.1 10 ∧ u.1 10 ≤ 120) (hz12 : 0 ≤ u.1 12 ∧ u.1 12 ≤ 16) (c1_1 : ¬ (x : Int32) ≤ 0) (c14_2 : ¬ (1 <<< (u.1 8 &&& 31)) ≤ (x : Int32)) (c23_6 : (r_5 : Int32) ≤ 8) (b29_10 : 0 ≤ y ∧ y ≤ 9999) (b39_14 : (0 : Int32) ≤ z ∧ z ≤ (20 : Int32)) (c50_15 : ¬ 20 ≤ (z : Int32)) (c58_27 : ¬ ((x >>> (z &&& 31)) &&& 1 : Int32) = 0) (b69_31 : 0 ≤ (u_28.1 204).toInt ∧ (u_28.1 204).toInt ≤ 8) (c80_32 : ¬ (z : Int32) = 20) : 0 ≤ ((u_28.1 204 : Int32)).toInt ∧ ((u_28.1 204 : Int32)).toInt ≤ 8 := by
  assumption
set_option maxRecDepth 100000 in
theorem g_X11_given_v3 (u : qS) (x : Int32) (y : Int32) (z : Int32) (r_5 : Int32) (u_28 : qS) (hz8 : 0 ≤ u.1 8 ∧ u.1 8 ≤ 20) (hz9 : 0 ≤ u.1 9 ∧ u.1 9 ≤ 8) (hz10 : 0 ≤ u.1 10 ∧ u.1 10 ≤ 120) (hz12 : 0 ≤ u.1 12 ∧ u.1 12 ≤ 16) (c1_1 : ¬ (x : Int32) ≤ 0) (c14_2 : ¬ (1 <<< (u.1 8 &&& 31)) ≤ (x : Int32)) (c23_6 : (r_5 : Int32) ≤ 8) (b29_10 : 0 ≤ y ∧ y ≤ 9999) (b39_14 : (0 : Int32) ≤ z ∧ z ≤ (20 : Int32)) (c50_15 : ¬ 20 ≤ (z : Int32)) (c58_27 : ¬ ((x >>> (z &&& 31)) &&& 1 : Int32) = 0) (b69_31 : 0 ≤ (u_28.1 204).toInt ∧ (u_28.1 204).toInt ≤ 8) (c80_32 : (z : Int32) = 20) : 0 ≤ ((u_28.1 204 : Int32)).toInt ∧ ((u_28.1 204 : Int32)).toInt ≤ 8 := by
  assumption
set_option maxHeartbeats 1000000 in
set_option maxRecDepth 100000 in
theorem g_X11_given (l : Launch) (E : qE) (A : Nat → Prop) (u : qS) (x : Int32) (y : Int32) (z : Int32) (hI : IC E u) : Met l yX11_given (uws yX11_given cX11_given 4 (some .int)) (qR 7 0 0) (qPc E A 0 u [.ref (E.2.2 1199), .int x, .int y, .int z]) (qQi E A 0 (fun r u1 => (qFc [204] [203] [201, 202] [] u u1 ∧ IC E u1) ∧ (True))) 0 0 A := by
  refine q_met (own := RX11) (f := 7) [.ref (E.2.2 1199), .int x, .int y, .int z] (by decide) (Nat.le_of_ble_eq_true rfl) rfl ?_
  intro p0 e0 s0 m0 bl0 me0 cd0 ls hF hr hlocks hU hS hA hl
  have hl : lv_has ls 4 [(0, .ref (E.2.2 1199)), (1, .int x), (2, .int y), (3, .int z)] := hl
  have hz8 : 0 ≤ u.1 8 ∧ u.1 8 ≤ 20 := hI.1.s8
  have hz9 : 0 ≤ u.1 9 ∧ u.1 9 ≤ 8 := hI.1.s9
  have hz10 : 0 ≤ u.1 10 ∧ u.1 10 ≤ 120 := hI.1.s10
  have hz12 : 0 ≤ u.1 12 ∧ u.1 12 ≤ 16 := hI.1.s12
  have hfr : qFc [204] [203] [201, 202] [] u u := qFc.rf
  refine lv_iload_n hF.1 hF.2.1 dX11_given_0 rfl (lv_at hl 1 rfl) ?_
  refine lv_if_le (tgt := 26) hF.1 hF.2.1 dX11_given_1 (by decide) (fun c1_1 => ?_) (fun c1_1 => ?_)
  · refine lv_iconst (v := (-1)) hF.1 hF.2.1 dX11_given_26 (by decide) ?_
    exact q_iret hF hr rfl hlocks hU hS dX11_given_27 ⟨⟨hfr, hI⟩, trivial⟩
  · refine lv_iload_n hF.1 hF.2.1 dX11_given_4 rfl (lv_at hl 1 rfl) ?_
    refine lv_iconst (v := 1) hF.1 hF.2.1 dX11_given_5 (by decide) ?_
    refine lv_aload_n hF.1 hF.2.1 dX11_given_6 rfl (lv_at hl 0 rfl) ?_
    refine q_get (v := .ref (E.2.2 99)) hF hU dX11_given_7 0 11 0 1100 1199 rfl rfl rfl rfl inX11 (by decide) (by decide) w_436 rfl rfl ?_
    refine q_get (v := .int (u.1 8)) hF hU dX11_given_10 1 0 8 8 99 rfl rfl rfl rfl inX0 (by decide) (by decide) w_162 rfl rfl ?_
    refine lv_ishl hF.1 hF.2.1 dX11_given_13 ?_
    refine lv_icmp_ge (tgt := 26) hF.1 hF.2.1 dX11_given_14 (by decide) (fun c14_2 => ?_) (fun c14_2 => ?_)
    · refine lv_iconst (v := (-1)) hF.1 hF.2.1 dX11_given_26 (by decide) ?_
      exact q_iret hF hr rfl hlocks hU hS dX11_given_27 ⟨⟨hfr, hI⟩, trivial⟩
    · refine lv_iload_n hF.1 hF.2.1 dX11_given_17 rfl (lv_at hl 1 rfl) ?_
      have hM9 := g_J6_bitCount_0f7a4 l E A u x
      have hR9 := q_runS (l := l) (e := e0) (below := bl0) (meth := me0) (R := qR 7 0 0) (cells := 0) (slots := 0) (st0 := [.int x]) (rest := []) hF hU hS hA 1 hM9 w_1109 w_966 w_119 w_967 (by decide +kernel) ⟨Nat.le_of_ble_eq_true rfl, Nat.le_of_ble_eq_true rfl⟩ dX11_given_18 rfl hl.1 rfl (Nat.le_of_ble_eq_true rfl) ⟨Nat.le_of_ble_eq_true rfl, Nat.le_of_ble_eq_true rfl⟩
      refine q_calli hR9 hU.2.2.2 hS (fun r_5 u_3 H locs hw_4 hU hS => ?_)
      obtain ⟨hw_4_e, hw_4⟩ := hw_4
      rw [hw_4_e] at hU
      refine lv_bipush (v := 8) hF.1 hF.2.1 dX11_given_21 (by decide) ?_
      refine lv_icmp_le (tgt := 28) hF.1 hF.2.1 dX11_given_23 (by decide) (fun c23_6 => ?_) (fun c23_6 => ?_)
      · refine lv_iload_n hF.1 hF.2.1 dX11_given_28 rfl (lv_at hl 2 rfl) ?_
        have hM9 := g_X11_isDay l E A u y
        have hR9 := q_runS (l := l) (e := e0) (below := bl0) (meth := me0) (R := qR 7 0 0) (cells := 0) (slots := 0) (st0 := [.int y]) (rest := []) hF hU hS hA 1 hM9 w_699 w_700 w_99 w_701 (by decide +kernel) ⟨Nat.le_of_ble_eq_true rfl, Nat.le_of_ble_eq_true rfl⟩ dX11_given_29 rfl hl.1 rfl (Nat.le_of_ble_eq_true rfl) ⟨Nat.le_of_ble_eq_true rfl, Nat.le_of_ble_eq_true rfl⟩
        refine q_calli hR9 hU.2.2.2 hS (fun r_9 u_7 H locs hw_8 hU hS => ?_)
        obtain ⟨hw_8_e, hw_8⟩ := hw_8
        rw [hw_8_e] at hU
        have hw_8 : (r_9 = 1 ∧ (0 ≤ y ∧ y ≤ 9999)) ∨ (r_9 = 0 ∧ (¬ (0 ≤ y ∧ y ≤ 9999))) := hw_8
        rcases hw_8 with ⟨rfl, b29_10⟩ | ⟨rfl, b29_10⟩
        · refine lv_if_eq (tgt := 45) hF.1 hF.2.1 dX11_given_32 (by decide) (fun h9 => absurd h9 (by decide)) (fun _ => ?_)
          refine lv_iload_n hF.1 hF.2.1 dX11_given_35 rfl (lv_at hl 3 rfl) ?_
          refine lv_iconst (v := 0) hF.1 hF.2.1 dX11_given_36 (by decide) ?_
          refine lv_bipush (v := 20) hF.1 hF.2.1 dX11_given_37 (by decide) ?_
          have hM9 := g_X11_isWithin l E A u z 0 20
          have hR9 := q_runS (l := l) (e := e0) (below := bl0) (meth := me0) (R := qR 7 0 0) (cells := 0) (slots := 0) (st0 := [.int 20, .int 0, .int z]) (rest := []) hF hU hS hA 3 hM9 w_468 w_469 w_99 w_470 (by decide +kernel) ⟨Nat.le_of_ble_eq_true rfl, Nat.le_of_ble_eq_true rfl⟩ dX11_given_39 rfl hl.1 rfl (Nat.le_of_ble_eq_true rfl) ⟨Nat.le_of_ble_eq_true rfl, Nat.le_of_ble_eq_true rfl⟩
          refine q_calli hR9 hU.2.2.2 hS (fun r_13 u_11 H locs hw_12 hU hS => ?_)
          obtain ⟨hw_12_e, hw_12⟩ := hw_12
          rw [hw_12_e] at hU
          have hw_12 : (r_13 = 1 ∧ ((0 : Int32) ≤ z ∧ z ≤ (20 : Int32))) ∨ (r_13 = 0 ∧ (¬ ((0 : Int32) ≤ z ∧ z ≤ (20 : Int32)))) := hw_12
          rcases hw_12 with ⟨rfl, b39_14⟩ | ⟨rfl, b39_14⟩
          · refine lv_if_ne (tgt := 47) hF.1 hF.2.1 dX11_given_42 (by decide) (fun _ => ?_) (fun h9 => absurd h9 (by decide))
            refine lv_iload_n hF.1 hF.2.1 dX11_given_47 rfl (lv_at hl 3 rfl) ?_
            refine lv_bipush (v := 20) hF.1 hF.2.1 dX11_given_48 (by decide) ?_
            refine lv_icmp_ge (tgt := 63) hF.1 hF.2.1 dX11_given_50 (by decide) (fun c50_15 => ?_) (fun c50_15 => ?_)
            · refine lv_aload_n hF.1 hF.2.1 dX11_given_63 rfl (lv_at hl 0 rfl) ?_
              refine q_get (v := .ref (E.2.2 299)) hF hU dX11_given_64 0 11 6 1106 1199 rfl rfl rfl rfl inX11 (by decide) (by decide) w_442 rfl rfl ?_
              refine lv_iload_n hF.1 hF.2.1 dX11_given_67 rfl (lv_at hl 1 rfl) ?_
              refine lv_iload_n hF.1 hF.2.1 dX11_given_68 rfl (lv_at hl 2 rfl) ?_
              have hM9 := g_X2_give l E A u x y hI
              have hR9 := q_runV (l := l) (e := e0) (below := bl0) (meth := me0) (R := qR 7 0 0) (cells := 0) (slots := 0) (st0 := [.int y, .int x, .ref (E.2.2 299)]) (rest := []) hF hU hS hA 2 7 2 299 rfl rfl rfl hM9 w_1110 w_1111 w_1112 w_106 w_1113 (by decide +kernel) ⟨Nat.le_of_ble_eq_true rfl, Nat.le_of_ble_eq_true rfl⟩ dX11_given_69 rfl hl.1 rfl (Nat.le_of_ble_eq_true rfl) ⟨Nat.le_of_ble_eq_true rfl, Nat.le_of_ble_eq_true rfl⟩
              refine q_calli hR9 hU.2.2.2 hS (fun r_18 u_16 H locs hw_17 hU hS => ?_)
              obtain ⟨⟨hw_17_f, hI, hw_17_d⟩, hw_17⟩ := hw_17
              have hfo := hfr
              have hfr : qFc [204] [203] [201, 202] [] u u_16 := hfr.trans (hw_17_f.mono (by decide) (by decide) (by decide) (by decide))
              have hw_17 : (r_18 = 1 ∧ (0 ≤ (u_16.1 204).toInt ∧ (u_16.1 204).toInt ≤ 8)) ∨ (r_18 = 0 ∧ (0 ≤ (u_16.1 204).toInt ∧ (u_16.1 204).toInt ≤ 8)) := hw_17
              rcases hw_17 with ⟨rfl, b69_19⟩ | ⟨rfl, b69_19⟩
              · refine lv_if_ne (tgt := 77) hF.1 hF.2.1 dX11_given_72 (by decide) (fun _ => ?_) (fun h9 => absurd h9 (by decide))
                refine lv_iload_n hF.1 hF.2.1 dX11_given_77 rfl (lv_at hl 3 rfl) ?_
                refine lv_bipush (v := 20) hF.1 hF.2.1 dX11_given_78 (by decide) ?_
                refine lv_icmp_ne (tgt := 93) hF.1 hF.2.1 dX11_given_80 (by decide) (fun c80_20 => ?_) (fun c80_20 => ?_)
                · refine lv_aload_n hF.1 hF.2.1 dX11_given_93 rfl (lv_at hl 0 rfl) ?_
                  refine q_get (v := .ref (E.2.2 299)) hF hU dX11_given_94 0 11 6 1106 1199 rfl rfl rfl rfl inX11 (by decide) (by decide) w_442 rfl rfl ?_
                  refine lv_iload_n hF.1 hF.2.1 dX11_given_97 rfl (lv_at hl 3 rfl) ?_
                  have hM9 := g_X2_buyerFor l E A u_16 z hI (g_X11_given_v0 u x y z r_5 u_16 hz8 hz9 hz10 hz12 c1_1 c14_2 c23_6 b29_10 b39_14 c50_15 b69_19 c80_20)
                  have hR9 := q_runV (l := l) (e := e0) (below := bl0) (meth := me0) (R := qR 7 0 0) (cells := 0) (slots := 0) (st0 := [.int z, .ref (E.2.2 299)]) (rest := []) hF hU hS hA 1 7 2 299 rfl rfl rfl hM9 w_1142 w_1143 w_1144 w_106 w_1145 (by decide +kernel) ⟨Nat.le_of_ble_eq_true rfl, Nat.le_of_ble_eq_true rfl⟩ dX11_given_98 rfl hl.1 rfl (Nat.le_of_ble_eq_true rfl) ⟨Nat.le_of_ble_eq_true rfl, Nat.le_of_ble_eq_true rfl⟩
                  refine q_calli hR9 hU.2.2.2 hS (fun r_23 u_21 H locs hw_22 hU hS => ?_)
                  obtain ⟨hw_22_e, hw_22⟩ := hw_22
                  rw [hw_22_e] at hU
                  exact q_iret hF hr rfl hlocks hU hS dX11_given_101 ⟨⟨hfr, hI⟩, trivial⟩
                · refine lv_aload_n hF.1 hF.2.1 dX11_given_83 rfl (lv_at hl 0 rfl) ?_
                  refine q_get (v := .ref (E.2.2 299)) hF hU dX11_given_84 0 11 6 1106 1199 rfl rfl rfl rfl inX11 (by decide) (by decide) w_442 rfl rfl ?_
                  have hM9 := g_X2_wholeWay l E A u_16  hI (g_X11_given_v1 u x y z r_5 u_16 hz8 hz9 hz10 hz12 c1_1 c14_2 c23_6 b29_10 b39_14 c50_15 b69_19 c80_20)
                  have hR9 := q_runV (l := l) (e := e0) (below := bl0) (meth := me0) (R := qR 7 0 0) (cells := 0) (slots := 0) (st0 := [.ref (E.2.2 299)]) (rest := []) hF hU hS hA 0 7 2 299 rfl rfl rfl hM9 w_1138 w_1139 w_1140 w_106 w_1141 (by decide +kernel) ⟨Nat.le_of_ble_eq_true rfl, Nat.le_of_ble_eq_true rfl⟩ dX11_given_87 rfl hl.1 rfl (Nat.le_of_ble_eq_true rfl) ⟨Nat.le_of_ble_eq_true rfl, Nat.le_of_ble_eq_true rfl⟩
                  refine q_calli hR9 hU.2.2.2 hS (fun r_26 u_24 H locs hw_25 hU hS => ?_)
                  obtain ⟨hw_25_e, hw_25⟩ := hw_25
                  rw [hw_25_e] at hU
                  refine lv_goto (tgt := 101) hF.1 hF.2.1 dX11_given_90 (by decide) ?_
                  exact q_iret hF hr rfl hlocks hU hS dX11_given_101 ⟨⟨hfr, hI⟩, trivial⟩
              · refine lv_if_ne (tgt := 77) hF.1 hF.2.1 dX11_given_72 (by decide) (fun h9 => absurd (by decide) h9) (fun _ => ?_)
                refine lv_iconst (v := (-1)) hF.1 hF.2.1 dX11_given_75 (by decide) ?_
                exact q_iret hF hr rfl hlocks hU hS dX11_given_76 ⟨⟨hfr, hI⟩, trivial⟩
            · refine lv_iload_n hF.1 hF.2.1 dX11_given_53 rfl (lv_at hl 1 rfl) ?_
              refine lv_iload_n hF.1 hF.2.1 dX11_given_54 rfl (lv_at hl 3 rfl) ?_
              refine lv_ishr hF.1 hF.2.1 dX11_given_55 ?_
              refine lv_iconst (v := 1) hF.1 hF.2.1 dX11_given_56 (by decide) ?_
              refine lv_iand hF.1 hF.2.1 dX11_given_57 ?_
              refine lv_if_ne (tgt := 63) hF.1 hF.2.1 dX11_given_58 (by decide) (fun c58_27 => ?_) (fun c58_27 => ?_)
              · refine lv_aload_n hF.1 hF.2.1 dX11_given_63 rfl (lv_at hl 0 rfl) ?_
                refine q_get (v := .ref (E.2.2 299)) hF hU dX11_given_64 0 11 6 1106 1199 rfl rfl rfl rfl inX11 (by decide) (by decide) w_442 rfl rfl ?_
                refine lv_iload_n hF.1 hF.2.1 dX11_given_67 rfl (lv_at hl 1 rfl) ?_
                refine lv_iload_n hF.1 hF.2.1 dX11_given_68 rfl (lv_at hl 2 rfl) ?_
                have hM9 := g_X2_give l E A u x y hI
                have hR9 := q_runV (l := l) (e := e0) (below := bl0) (meth := me0) (R := qR 7 0 0) (cells := 0) (slots := 0) (st0 := [.int y, .int x, .ref (E.2.2 299)]) (rest := []) hF hU hS hA 2 7 2 299 rfl rfl rfl hM9 w_1110 w_1111 w_1112 w_106 w_1113 (by decide +kernel) ⟨Nat.le_of_ble_eq_true rfl, Nat.le_of_ble_eq_true rfl⟩ dX11_given_69 rfl hl.1 rfl (Nat.le_of_ble_eq_true rfl) ⟨Nat.le_of_ble_eq_true rfl, Nat.le_of_ble_eq_true rfl⟩
                refine q_calli hR9 hU.2.2.2 hS (fun r_30 u_28 H locs hw_29 hU hS => ?_)
                obtain ⟨⟨hw_29_f, hI, hw_29_d⟩, hw_29⟩ := hw_29
                have hfo := hfr
                have hfr : qFc [204] [203] [201, 202] [] u u_28 := hfr.trans (hw_29_f.mono (by decide) (by decide) (by decide) (by decide))
                have hw_29 : (r_30 = 1 ∧ (0 ≤ (u_28.1 204).toInt ∧ (u_28.1 204).toInt ≤ 8)) ∨ (r_30 = 0 ∧ (0 ≤ (u_28.1 204).toInt ∧ (u_28.1 204).toInt ≤ 8)) := hw_29
                rcases hw_29 with ⟨rfl, b69_31⟩ | ⟨rfl, b69_31⟩
                · refine lv_if_ne (tgt := 77) hF.1 hF.2.1 dX11_given_72 (by decide) (fun _ => ?_) (fun h9 => absurd h9 (by decide))
                  refine lv_iload_n hF.1 hF.2.1 dX11_given_77 rfl (lv_at hl 3 rfl) ?_
                  refine lv_bipush (v := 20) hF.1 hF.2.1 dX11_given_78 (by decide) ?_
                  refine lv_icmp_ne (tgt := 93) hF.1 hF.2.1 dX11_given_80 (by decide) (fun c80_32 => ?_) (fun c80_32 => ?_)
                  · refine lv_aload_n hF.1 hF.2.1 dX11_given_93 rfl (lv_at hl 0 rfl) ?_
                    refine q_get (v := .ref (E.2.2 299)) hF hU dX11_given_94 0 11 6 1106 1199 rfl rfl rfl rfl inX11 (by decide) (by decide) w_442 rfl rfl ?_
                    refine lv_iload_n hF.1 hF.2.1 dX11_given_97 rfl (lv_at hl 3 rfl) ?_
                    have hM9 := g_X2_buyerFor l E A u_28 z hI (g_X11_given_v2 u x y z r_5 u_28 hz8 hz9 hz10 hz12 c1_1 c14_2 c23_6 b29_10 b39_14 c50_15 c58_27 b69_31 c80_32)
                    have hR9 := q_runV (l := l) (e := e0) (below := bl0) (meth := me0) (R := qR 7 0 0) (cells := 0) (slots := 0) (st0 := [.int z, .ref (E.2.2 299)]) (rest := []) hF hU hS hA 1 7 2 299 rfl rfl rfl hM9 w_1142 w_1143 w_1144 w_106 w_1145 (by decide +kernel) ⟨Nat.le_of_ble_eq_true rfl, Nat.le_of_ble_eq_true rfl⟩ dX11_given_98 rfl hl.1 rfl (Nat.le_of_ble_eq_true rfl) ⟨Nat.le_of_ble_eq_true rfl, Nat.le_of_ble_eq_true rfl⟩
                    refine q_calli hR9 hU.2.2.2 hS (fun r_35 u_33 H locs hw_34 hU hS => ?_)
                    obtain ⟨hw_34_e, hw_34⟩ := hw_34
                    rw [hw_34_e] at hU
                    exact q_iret hF hr rfl hlocks hU hS dX11_given_101 ⟨⟨hfr, hI⟩, trivial⟩
                  · refine lv_aload_n hF.1 hF.2.1 dX11_given_83 rfl (lv_at hl 0 rfl) ?_
                    refine q_get (v := .ref (E.2.2 299)) hF hU dX11_given_84 0 11 6 1106 1199 rfl rfl rfl rfl inX11 (by decide) (by decide) w_442 rfl rfl ?_
                    have hM9 := g_X2_wholeWay l E A u_28  hI (g_X11_given_v3 u x y z r_5 u_28 hz8 hz9 hz10 hz12 c1_1 c14_2 c23_6 b29_10 b39_14 c50_15 c58_27 b69_31 c80_32)
                    have hR9 := q_runV (l := l) (e := e0) (below := bl0) (meth := me0) (R := qR 7 0 0) (cells := 0) (slots := 0) (st0 := [.ref (E.2.2 299)]) (rest := []) hF hU hS hA 0 7 2 299 rfl rfl rfl hM9 w_1138 w_1139 w_1140 w_106 w_1141 (by decide +kernel) ⟨Nat.le_of_ble_eq_true rfl, Nat.le_of_ble_eq_true rfl⟩ dX11_given_87 rfl hl.1 rfl (Nat.le_of_ble_eq_true rfl) ⟨Nat.le_of_ble_eq_true rfl, Nat.le_of_ble_eq_true rfl⟩
                    refine q_calli hR9 hU.2.2.2 hS (fun r_38 u_36 H locs hw_37 hU hS => ?_)
                    obtain ⟨hw_37_e, hw_37⟩ := hw_37
                    rw [hw_37_e] at hU
                    refine lv_goto (tgt := 101) hF.1 hF.2.1 dX11_given_90 (by decide) ?_
                    exact q_iret hF hr rfl hlocks hU hS dX11_given_101 ⟨⟨hfr, hI⟩, trivial⟩
                · refine lv_if_ne (tgt := 77) hF.1 hF.2.1 dX11_given_72 (by decide) (fun h9 => absurd (by decide) h9) (fun _ => ?_)
                  refine lv_iconst (v := (-1)) hF.1 hF.2.1 dX11_given_75 (by decide) ?_
                  exact q_iret hF hr rfl hlocks hU hS dX11_given_76 ⟨⟨hfr, hI⟩, trivial⟩
              · refine lv_iconst (v := (-1)) hF.1 hF.2.1 dX11_given_61 (by decide) ?_
                exact q_iret hF hr rfl hlocks hU hS dX11_given_62 ⟨⟨hfr, hI⟩, trivial⟩
          · refine lv_if_ne (tgt := 47) hF.1 hF.2.1 dX11_given_42 (by decide) (fun h9 => absurd (by decide) h9) (fun _ => ?_)
            refine lv_iconst (v := (-1)) hF.1 hF.2.1 dX11_given_45 (by decide) ?_
            exact q_iret hF hr rfl hlocks hU hS dX11_given_46 ⟨⟨hfr, hI⟩, trivial⟩
        · refine lv_if_eq (tgt := 45) hF.1 hF.2.1 dX11_given_32 (by decide) (fun _ => ?_) (fun h9 => absurd (by decide) h9)
          refine lv_iconst (v := (-1)) hF.1 hF.2.1 dX11_given_45 (by decide) ?_
          exact q_iret hF hr rfl hlocks hU hS dX11_given_46 ⟨⟨hfr, hI⟩, trivial⟩
      · refine lv_iconst (v := (-1)) hF.1 hF.2.1 dX11_given_26 (by decide) ?_
        exact q_iret hF hr rfl hlocks hU hS dX11_given_27 ⟨⟨hfr, hI⟩, trivial⟩
set_option maxRecDepth 100000 in
theorem g_X11_drawn_v0 (u : qS) (x : Int32) (y : Int32) (z : Int32) (x6 : Int32) (hz8 : 0 ≤ u.1 8 ∧ u.1 8 ≤ 20) (hz9 : 0 ≤ u.1 9 ∧ u.1 9 ≤ 8) (hz10 : 0 ≤ u.1 10 ∧ u.1 10 ≤ 120) (hz12 : 0 ≤ u.1 12 ∧ u.1 12 ≤ 16) (h_k : 0 ≤ x6) (h_s : 0 ≤ x ∧ x < u.1 8) (c38_1 : ¬ x < (x6 : Int32)) : 0 ≤ (x6 + 1) := by
  first | omega | ((try simp only [g_m1, Int32.lt_iff_toInt_lt, Int32.le_iff_toInt_le, ← Int32.toInt_inj, Int32.reduceToInt] at *); omega) | ((try have ez0 : (x6 + 1 : Int32).toInt = (x6 : Int32).toInt + (1 : Int32).toInt := g_add (by (try simp only [g_m1, Int32.lt_iff_toInt_lt, Int32.le_iff_toInt_le, ← Int32.toInt_inj, Int32.reduceToInt] at *); omega) (by (try simp only [g_m1, Int32.lt_iff_toInt_lt, Int32.le_iff_toInt_le, ← Int32.toInt_inj, Int32.reduceToInt] at *); omega)); (try simp only [g_m1, Int32.lt_iff_toInt_lt, Int32.le_iff_toInt_le, ← Int32.toInt_inj, Int32.reduceToInt] at *); omega) | ((try simp only [g_m1, Int32.lt_iff_toInt_lt, Int32.le_iff_toInt_le, ← Int32.toInt_inj, Int32.toInt_add, Int32.toInt_sub, Int32.toInt_mul, Int32.toInt_neg, Int32.reduceToInt, g_bm, g_bm'] at *); omega) | (have qr1 := g_rng x; have qr2 := g_rng y; have qr3 := g_rng z; have qr5 := g_rng x6; (try simp only [g_m1, Int32.lt_iff_toInt_lt, Int32.le_iff_toInt_le, ← Int32.toInt_inj, Int32.toInt_add, Int32.toInt_sub, Int32.toInt_mul, Int32.toInt_neg, Int32.reduceToInt, g_bm, g_bm'] at *); omega) | (simp only [g_m1, Int32.lt_iff_toInt_lt, Int32.le_iff_toInt_le, ← Int32.toInt_inj, Int32.toInt_add, Int32.toInt_sub, Int32.toInt_mul, Int32.toInt_neg, Int32.reduceToInt, g_bm, g_bm'] at *; simp at *; omega) | (simp_all; done)
set_option maxRecDepth 100000 in
theorem g_X11_drawn_v1 (u : qS) (x : Int32) (y : Int32) (z : Int32) (x6 : Int32) (hz8 : 0 ≤ u.1 8 ∧ u.1 8 ≤ 20) (hz9 : 0 ≤ u.1 9 ∧ u.1 9 ≤ 8) (hz10 : 0 ≤ u.1 10 ∧ u.1 10 ≤ 120) (hz12 : 0 ≤ u.1 12 ∧ u.1 12 ≤ 16) (h_k : 0 ≤ x6) (h_s : 0 ≤ x ∧ x < u.1 8) (c38_1 : ¬ x < (x6 : Int32)) : 0 ≤ x ∧ x < u.1 8 := by
  first | omega | ((try simp only [g_m1, Int32.lt_iff_toInt_lt, Int32.le_iff_toInt_le, ← Int32.toInt_inj, Int32.reduceToInt] at *); omega) | ((try simp only [g_m1, Int32.lt_iff_toInt_lt, Int32.le_iff_toInt_le, ← Int32.toInt_inj, Int32.reduceToInt] at *); omega) | ((try simp only [g_m1, Int32.lt_iff_toInt_lt, Int32.le_iff_toInt_le, ← Int32.toInt_inj, Int32.toInt_add, Int32.toInt_sub, Int32.toInt_mul, Int32.toInt_neg, Int32.reduceToInt, g_bm, g_bm'] at *); omega) | (have qr1 := g_rng x; have qr2 := g_rng y; have qr3 := g_rng z; have qr5 := g_rng x6; (try simp only [g_m1, Int32.lt_iff_toInt_lt, Int32.le_iff_toInt_le, ← Int32.toInt_inj, Int32.toInt_add, Int32.toInt_sub, Int32.toInt_mul, Int32.toInt_neg, Int32.reduceToInt, g_bm, g_bm'] at *); omega) | (simp only [g_m1, Int32.lt_iff_toInt_lt, Int32.le_iff_toInt_le, ← Int32.toInt_inj, Int32.toInt_add, Int32.toInt_sub, Int32.toInt_mul, Int32.toInt_neg, Int32.reduceToInt, g_bm, g_bm'] at *; simp at *; omega) | (simp_all; done)
set_option maxRecDepth 100000 in
theorem g_X11_drawn_v2 (u : qS) (x : Int32) (y : Int32) (z : Int32) (x6 : Int32) (hz8 : 0 ≤ u.1 8 ∧ u.1 8 ≤ 20) (hz9 : 0 ≤ u.1 9 ∧ u.1 9 ≤ 8) (hz10 : 0 ≤ u.1 10 ∧ u.1 10 ≤ 120) (hz12 : 0 ≤ u.1 12 ∧ u.1 12 ≤ 16) (h_k : 0 ≤ x6) (h_s : 0 ≤ x ∧ x < u.1 8) (c38_1 : ¬ x < (x6 : Int32)) : (x.toInt + 1 - (x6 + 1).toInt).toNat < (x.toInt + 1 - x6.toInt).toNat := by
  first | omega | ((try simp only [g_m1, Int32.lt_iff_toInt_lt, Int32.le_iff_toInt_le, ← Int32.toInt_inj, Int32.reduceToInt] at *); omega) | ((try have ez0 : (x6 + 1 : Int32).toInt = (x6 : Int32).toInt + (1 : Int32).toInt := g_add (by (try simp only [g_m1, Int32.lt_iff_toInt_lt, Int32.le_iff_toInt_le, ← Int32.toInt_inj, Int32.reduceToInt] at *); omega) (by (try simp only [g_m1, Int32.lt_iff_toInt_lt, Int32.le_iff_toInt_le, ← Int32.toInt_inj, Int32.reduceToInt] at *); omega)); (try simp only [g_m1, Int32.lt_iff_toInt_lt, Int32.le_iff_toInt_le, ← Int32.toInt_inj, Int32.reduceToInt] at *); omega) | ((try simp only [g_m1, Int32.lt_iff_toInt_lt, Int32.le_iff_toInt_le, ← Int32.toInt_inj, Int32.toInt_add, Int32.toInt_sub, Int32.toInt_mul, Int32.toInt_neg, Int32.reduceToInt, g_bm, g_bm'] at *); omega) | (have qr1 := g_rng x; have qr2 := g_rng y; have qr3 := g_rng z; have qr5 := g_rng x6; (try simp only [g_m1, Int32.lt_iff_toInt_lt, Int32.le_iff_toInt_le, ← Int32.toInt_inj, Int32.toInt_add, Int32.toInt_sub, Int32.toInt_mul, Int32.toInt_neg, Int32.reduceToInt, g_bm, g_bm'] at *); omega) | (simp only [g_m1, Int32.lt_iff_toInt_lt, Int32.le_iff_toInt_le, ← Int32.toInt_inj, Int32.toInt_add, Int32.toInt_sub, Int32.toInt_mul, Int32.toInt_neg, Int32.reduceToInt, g_bm, g_bm'] at *; simp at *; omega) | (simp_all; done)
set_option maxRecDepth 100000 in
theorem g_X11_drawn_v3 (u : qS) (x : Int32) (y : Int32) (z : Int32) (hz8 : 0 ≤ u.1 8 ∧ u.1 8 ≤ 20) (hz9 : 0 ≤ u.1 9 ∧ u.1 9 ≤ 8) (hz10 : 0 ≤ u.1 10 ∧ u.1 10 ≤ 120) (hz12 : 0 ≤ u.1 12 ∧ u.1 12 ≤ 16) (b5_15 : 0 ≤ x ∧ x < u.1 8) (b16_19 : (0 : Int32) ≤ y ∧ y ≤ (1427 : Int32)) (c23_20 : 0 ≤ (z : Int32)) : 0 ≤ (0 : Int32) := by
  first | omega | ((try simp only [g_m1, Int32.lt_iff_toInt_lt, Int32.le_iff_toInt_le, ← Int32.toInt_inj, Int32.reduceToInt] at *); omega) | ((try simp only [g_m1, Int32.lt_iff_toInt_lt, Int32.le_iff_toInt_le, ← Int32.toInt_inj, Int32.reduceToInt] at *); omega) | ((try simp only [g_m1, Int32.lt_iff_toInt_lt, Int32.le_iff_toInt_le, ← Int32.toInt_inj, Int32.toInt_add, Int32.toInt_sub, Int32.toInt_mul, Int32.toInt_neg, Int32.reduceToInt, g_bm, g_bm'] at *); omega) | (have qr1 := g_rng x; have qr2 := g_rng y; have qr3 := g_rng z; (try simp only [g_m1, Int32.lt_iff_toInt_lt, Int32.le_iff_toInt_le, ← Int32.toInt_inj, Int32.toInt_add, Int32.toInt_sub, Int32.toInt_mul, Int32.toInt_neg, Int32.reduceToInt, g_bm, g_bm'] at *); omega) | (simp only [g_m1, Int32.lt_iff_toInt_lt, Int32.le_iff_toInt_le, ← Int32.toInt_inj, Int32.toInt_add, Int32.toInt_sub, Int32.toInt_mul, Int32.toInt_neg, Int32.reduceToInt, g_bm, g_bm'] at *; simp at *; omega) | (simp_all; done)
set_option maxRecDepth 100000 in
theorem g_X11_drawn_v4 (u : qS) (x : Int32) (y : Int32) (z : Int32) (hz8 : 0 ≤ u.1 8 ∧ u.1 8 ≤ 20) (hz9 : 0 ≤ u.1 9 ∧ u.1 9 ≤ 8) (hz10 : 0 ≤ u.1 10 ∧ u.1 10 ≤ 120) (hz12 : 0 ≤ u.1 12 ∧ u.1 12 ≤ 16) (b5_15 : 0 ≤ x ∧ x < u.1 8) (b16_19 : (0 : Int32) ≤ y ∧ y ≤ (1427 : Int32)) (c23_20 : 0 ≤ (z : Int32)) : 0 ≤ x ∧ x < u.1 8 := by
  first | omega | ((try simp only [g_m1, Int32.lt_iff_toInt_lt, Int32.le_iff_toInt_le, ← Int32.toInt_inj, Int32.reduceToInt] at *); omega) | ((try simp only [g_m1, Int32.lt_iff_toInt_lt, Int32.le_iff_toInt_le, ← Int32.toInt_inj, Int32.reduceToInt] at *); omega) | ((try simp only [g_m1, Int32.lt_iff_toInt_lt, Int32.le_iff_toInt_le, ← Int32.toInt_inj, Int32.toInt_add, Int32.toInt_sub, Int32.toInt_mul, Int32.toInt_neg, Int32.reduceToInt, g_bm, g_bm'] at *); omega) | (have qr1 := g_rng x; have qr2 := g_rng y; have qr3 := g_rng z; (try simp only [g_m1, Int32.lt_iff_toInt_lt, Int32.le_iff_toInt_le, ← Int32.toInt_inj, Int32.toInt_add, Int32.toInt_sub, Int32.toInt_mul, Int32.toInt_neg, Int32.reduceToInt, g_bm, g_bm'] at *); omega) | (simp only [g_m1, Int32.lt_iff_toInt_lt, Int32.le_iff_toInt_le, ← Int32.toInt_inj, Int32.toInt_add, Int32.toInt_sub, Int32.toInt_mul, Int32.toInt_neg, Int32.reduceToInt, g_bm, g_bm'] at *; simp at *; omega) | (simp_all; done)
set_option maxHeartbeats 1000000 in
set_option maxRecDepth 100000 in
theorem g_X11_drawn (l : Launch) (E : qE) (A : Nat → Prop) (u : qS) (x : Int32) (y : Int32) (z : Int32) (hI : IC E u) : Met l yX11_drawn (uws yX11_drawn cX11_drawn 10 (some .int)) (qR 3 0 0) (qPc E A 0 u [.ref (E.2.2 1199), .int x, .int y, .int z]) (qQi E A 0 (fun r u1 => u1 = u ∧ (True))) 0 0 A := by
  refine q_met (own := RX11) (f := 3) [.ref (E.2.2 1199), .int x, .int y, .int z] (by decide) (Nat.le_of_ble_eq_true rfl) rfl ?_
  intro p0 e0 s0 m0 bl0 me0 cd0 ls hF hr hlocks hU hS hA hl
  have hl : lv_has ls 10 [(0, .ref (E.2.2 1199)), (1, .int x), (2, .int y), (3, .int z)] := hl
  have hz8 : 0 ≤ u.1 8 ∧ u.1 8 ≤ 20 := hI.1.s8
  have hz9 : 0 ≤ u.1 9 ∧ u.1 9 ≤ 8 := hI.1.s9
  have hz10 : 0 ≤ u.1 10 ∧ u.1 10 ≤ 120 := hI.1.s10
  have hz12 : 0 ≤ u.1 12 ∧ u.1 12 ≤ 16 := hI.1.s12
  have main : ∀ n : Nat, (∀ (x4 : Int64) (x6 : Int32) (uc : qS) (H : Heap) (locs : List Loc) (ls : Array Slot) (huc : u = uc) (h_k : 0 ≤ x6) (h_s : 0 ≤ x ∧ x < u.1 8), (x.toInt + 1 - x6.toInt).toNat < n → qH E A 0 uc s0 H → va_S A s0.heap H locs → lv_has ls 10 [(0, .ref (E.2.2 1199)), (1, .int x), (2, .int y), (3, .int z), (4, .long x4), (6, .int x6)] → W p0 l e0 (qR 3 0 0) s0 m0 ([.ref (E.2.2 1199), .int x, .int y, .int z] : List Value).toArray bl0 me0 cd0 H locs 0 0 (MQ bl0 (qQi E A 0 (fun r u1 => u1 = u ∧ (True))) ([.ref (E.2.2 1199), .int x, .int y, .int z] : List Value).toArray s0 0 0 A) (F0 m0 35 ls [])) := by
    intro n
    induction n with
    | zero => exact fun _ _ _ _ _ _ _ _ _ hmu => absurd hmu (Nat.not_lt_zero _)
    | succ n ih =>
      intro x4 x6 uc H locs ls huc h_k h_s hmu hU hS hl
      subst huc
      refine lv_iload hF.1 hF.2.1 dX11_drawn_35 (lv_at hl 5 rfl) ?_
      refine lv_iload_n hF.1 hF.2.1 dX11_drawn_37 rfl (lv_at hl 1 rfl) ?_
      refine lv_icmp_gt (tgt := 63) hF.1 hF.2.1 dX11_drawn_38 (by decide) (fun c38_1 => ?_) (fun c38_1 => ?_)
      · refine lv_lload hF.1 hF.2.1 dX11_drawn_63 (lv_at hl 4 rfl) ?_
        refine lv_ldc2 (v := 65536) hF.1 hF.2.1 hF.2.2.2.1 (hF.2.2.2.2 _ w_1153) dX11_drawn_65 ?_
        refine lv_ldiv hF.1 hF.2.1 dX11_drawn_68 (by decide) ?_
        refine lv_l2i (v := (x4 / 65536).toInt32) hF.1 hF.2.1 dX11_drawn_69 rfl ?_
        refine lv_istore (lv' := [(6, .int ((x4 / 65536).toInt32)), (0, .ref (E.2.2 1199)), (1, .int x), (2, .int y), (3, .int z), (4, .long x4)]) hF.1 hF.2.1 dX11_drawn_70 hl (by decide) rfl (fun ls hl => ?_)
        refine lv_aload_n hF.1 hF.2.1 dX11_drawn_72 rfl (lv_at hl 1 rfl) ?_
        refine q_get (v := .ref (E.2.2 99)) hF hU dX11_drawn_73 0 11 0 1100 1199 rfl rfl rfl rfl inX11 (by decide) (by decide) w_436 rfl rfl ?_
        refine lv_iload_n hF.1 hF.2.1 dX11_drawn_76 rfl (lv_at hl 2 rfl) ?_
        have hM9 := g_X0_latestOf l E A u x hI
        have hR9 := q_runV (l := l) (e := e0) (below := bl0) (meth := me0) (R := qR 3 0 0) (cells := 0) (slots := 0) (st0 := [.int x, .ref (E.2.2 99)]) (rest := []) hF hU hS hA 1 1 0 99 rfl rfl rfl hM9 w_1154 w_1155 w_1156 w_100 w_1157 (by decide +kernel) ⟨Nat.le_of_ble_eq_true rfl, Nat.le_of_ble_eq_true rfl⟩ dX11_drawn_77 rfl hl.1 rfl (Nat.le_of_ble_eq_true rfl) ⟨Nat.le_of_ble_eq_true rfl, Nat.le_of_ble_eq_true rfl⟩
        refine q_callq hR9 hU.2.2.2 hS (fun u_2 H locs hw_3 hU hS => ?_) (fun a_5 u_2 H locs hw_3 hU hS => ?_)
        · rw [hw_3.1] at hU
          refine lv_astoreN (lv' := [(7, .null), (6, .int ((x4 / 65536).toInt32)), (0, .ref (E.2.2 1199)), (1, .int x), (2, .int y), (3, .int z), (4, .long x4)]) hF.1 hF.2.1 dX11_drawn_80 hl (by decide) rfl (fun ls hl => ?_)
          refine lv_aloadN hF.1 hF.2.1 dX11_drawn_82 (lv_at hl 0 rfl) ?_
          refine lv_ifnonnullN hF.1 hF.2.1 dX11_drawn_84 ?_
          refine lv_iload_n hF.1 hF.2.1 dX11_drawn_87 rfl (lv_at hl 4 rfl) ?_
          refine lv_bipush (v := 7) hF.1 hF.2.1 dX11_drawn_88 (by decide) ?_
          refine lv_imul hF.1 hF.2.1 dX11_drawn_90 ?_
          refine lv_iload hF.1 hF.2.1 dX11_drawn_91 (lv_at hl 1 rfl) ?_
          refine lv_bipush (v := 7) hF.1 hF.2.1 dX11_drawn_93 (by decide) ?_
          refine lv_irem hF.1 hF.2.1 dX11_drawn_95 (by decide) ?_
          refine lv_iadd hF.1 hF.2.1 dX11_drawn_96 ?_
          exact q_iret hF hr rfl hlocks hU hS dX11_drawn_97 ⟨rfl, trivial⟩
        · rw [hw_3.1] at hU
          have hw_3 := hw_3.2
          refine lv_astore (lv' := [(7, .ref a_5), (6, .int ((x4 / 65536).toInt32)), (0, .ref (E.2.2 1199)), (1, .int x), (2, .int y), (3, .int z), (4, .long x4)]) hF.1 hF.2.1 dX11_drawn_80 hl (by decide) rfl (fun ls hl => ?_)
          refine lv_aload hF.1 hF.2.1 dX11_drawn_82 (lv_at hl 0 rfl) ?_
          refine lv_ifnonnull (tgt := 98) hF.1 hF.2.1 dX11_drawn_84 (by decide) ?_
          refine lv_iload hF.1 hF.2.1 dX11_drawn_98 (lv_at hl 1 rfl) ?_
          refine lv_bipush (v := 6) hF.1 hF.2.1 dX11_drawn_100 (by decide) ?_
          refine lv_irem hF.1 hF.2.1 dX11_drawn_102 (by decide) ?_
          refine lv_istore (lv' := [(8, .int (((x4 / 65536).toInt32) - ((x4 / 65536).toInt32) / 6 * 6)), (7, .ref a_5), (6, .int ((x4 / 65536).toInt32)), (0, .ref (E.2.2 1199)), (1, .int x), (2, .int y), (3, .int z), (4, .long x4)]) hF.1 hF.2.1 dX11_drawn_103 hl (by decide) rfl (fun ls hl => ?_)
          refine lv_aload hF.1 hF.2.1 dX11_drawn_105 (lv_at hl 1 rfl) ?_
          obtain ⟨k_6, fs_7, hd_9, hv_10, hv_10_2, hv_10_3, -⟩ := hI.vf ((hw_3).rf) 4 (by decide)
          refine q_getd (v := .int (qfd u.2.2.2.2 a_5 4)) hF hU dX11_drawn_107 k_6 10 4 hd_9 rfl inX10 (by decide) w_604 rfl hv_10 ?_
          refine lv_bipush (v := 7) hF.1 hF.2.1 dX11_drawn_110 (by decide) ?_
          refine lv_irem hF.1 hF.2.1 dX11_drawn_112 (by decide) ?_
          refine lv_istore (lv' := [(9, .int ((qfd u.2.2.2.2 a_5 4) - (qfd u.2.2.2.2 a_5 4) / 7 * 7)), (8, .int (((x4 / 65536).toInt32) - ((x4 / 65536).toInt32) / 6 * 6)), (7, .ref a_5), (6, .int ((x4 / 65536).toInt32)), (0, .ref (E.2.2 1199)), (1, .int x), (2, .int y), (3, .int z), (4, .long x4)]) hF.1 hF.2.1 dX11_drawn_113 hl (by decide) rfl (fun ls hl => ?_)
          refine lv_iload_n hF.1 hF.2.1 dX11_drawn_115 rfl (lv_at hl 6 rfl) ?_
          refine lv_bipush (v := 7) hF.1 hF.2.1 dX11_drawn_116 (by decide) ?_
          refine lv_imul hF.1 hF.2.1 dX11_drawn_118 ?_
          refine lv_iload hF.1 hF.2.1 dX11_drawn_119 (lv_at hl 1 rfl) ?_
          refine lv_iload hF.1 hF.2.1 dX11_drawn_121 (lv_at hl 0 rfl) ?_
          refine lv_icmp_ge (tgt := 131) hF.1 hF.2.1 dX11_drawn_123 (by decide) (fun c123_11 => ?_) (fun c123_11 => ?_)
          · refine lv_iload hF.1 hF.2.1 dX11_drawn_131 (lv_at hl 1 rfl) ?_
            refine lv_iconst (v := 1) hF.1 hF.2.1 dX11_drawn_133 (by decide) ?_
            refine lv_iadd hF.1 hF.2.1 dX11_drawn_134 ?_
            refine lv_iadd hF.1 hF.2.1 dX11_drawn_135 ?_
            exact q_iret hF hr rfl hlocks hU hS dX11_drawn_136 ⟨rfl, trivial⟩
          · refine lv_iload hF.1 hF.2.1 dX11_drawn_126 (lv_at hl 1 rfl) ?_
            refine lv_goto (tgt := 135) hF.1 hF.2.1 dX11_drawn_128 (by decide) ?_
            refine lv_iadd hF.1 hF.2.1 dX11_drawn_135 ?_
            exact q_iret hF hr rfl hlocks hU hS dX11_drawn_136 ⟨rfl, trivial⟩
      · refine lv_lload hF.1 hF.2.1 dX11_drawn_41 (lv_at hl 4 rfl) ?_
        refine lv_ldc2 (v := 1103515245) hF.1 hF.2.1 hF.2.2.2.1 (hF.2.2.2.2 _ w_1150) dX11_drawn_43 ?_
        refine lv_lmul hF.1 hF.2.1 dX11_drawn_46 ?_
        refine lv_ldc2 (v := 12345) hF.1 hF.2.1 hF.2.2.2.1 (hF.2.2.2.2 _ w_1151) dX11_drawn_47 ?_
        refine lv_ladd hF.1 hF.2.1 dX11_drawn_50 ?_
        refine lv_ldc2 (v := 2147483648) hF.1 hF.2.1 hF.2.2.2.1 (hF.2.2.2.2 _ w_1152) dX11_drawn_51 ?_
        refine lv_lrem hF.1 hF.2.1 dX11_drawn_54 (by decide) ?_
        refine lv_lstore (lv' := [(4, .long (((x4 * 1103515245) + 12345) - ((x4 * 1103515245) + 12345) / 2147483648 * 2147483648)), (0, .ref (E.2.2 1199)), (1, .int x), (2, .int y), (3, .int z), (6, .int x6)]) hF.1 hF.2.1 dX11_drawn_55 hl (by decide) rfl (fun ls hl => ?_)
        refine lv_iinc (v := x6 + 1) (lv' := [(6, .int (x6 + 1)), (4, .long (((x4 * 1103515245) + 12345) - ((x4 * 1103515245) + 12345) / 2147483648 * 2147483648)), (0, .ref (E.2.2 1199)), (1, .int x), (2, .int y), (3, .int z)]) hF.1 hF.2.1 dX11_drawn_57 hl (k := 5) rfl rfl (by decide) rfl (fun ls hl => ?_)
        refine lv_goto (tgt := 35) hF.1 hF.2.1 dX11_drawn_60 (by decide) ?_
        exact ih (((x4 * 1103515245) + 12345) - ((x4 * 1103515245) + 12345) / 2147483648 * 2147483648) (x6 + 1) u _ _ _ rfl  (g_X11_drawn_v0 u x y z x6 hz8 hz9 hz10 hz12 h_k h_s c38_1) (g_X11_drawn_v1 u x y z x6 hz8 hz9 hz10 hz12 h_k h_s c38_1) (Nat.lt_of_lt_of_le (g_X11_drawn_v2 u x y z x6 hz8 hz9 hz10 hz12 h_k h_s c38_1) (Nat.lt_succ_iff.mp hmu)) hU hS (lv_sub hl [2, 3, 4, 5, 1, 0] rfl)
  refine lv_aload_n hF.1 hF.2.1 dX11_drawn_0 rfl (lv_at hl 0 rfl) ?_
  refine q_get (v := .ref (E.2.2 99)) hF hU dX11_drawn_1 0 11 0 1100 1199 rfl rfl rfl rfl inX11 (by decide) (by decide) w_436 rfl rfl ?_
  refine lv_iload_n hF.1 hF.2.1 dX11_drawn_4 rfl (lv_at hl 1 rfl) ?_
  have hM9 := g_X0_hasShop l E A u x hI
  have hR9 := q_runV (l := l) (e := e0) (below := bl0) (meth := me0) (R := qR 3 0 0) (cells := 0) (slots := 0) (st0 := [.int x, .ref (E.2.2 99)]) (rest := []) hF hU hS hA 1 1 0 99 rfl rfl rfl hM9 w_563 w_564 w_565 w_100 w_566 (by decide +kernel) ⟨Nat.le_of_ble_eq_true rfl, Nat.le_of_ble_eq_true rfl⟩ dX11_drawn_5 rfl hl.1 rfl (Nat.le_of_ble_eq_true rfl) ⟨Nat.le_of_ble_eq_true rfl, Nat.le_of_ble_eq_true rfl⟩
  refine q_calli hR9 hU.2.2.2 hS (fun r_14 u_12 H locs hw_13 hU hS => ?_)
  obtain ⟨hw_13_e, hw_13⟩ := hw_13
  rw [hw_13_e] at hU
  have hw_13 : (r_14 = 1 ∧ (0 ≤ x ∧ x < u.1 8)) ∨ (r_14 = 0 ∧ (¬ (0 ≤ x ∧ x < u.1 8))) := hw_13
  rcases hw_13 with ⟨rfl, b5_15⟩ | ⟨rfl, b5_15⟩
  · refine lv_if_eq (tgt := 26) hF.1 hF.2.1 dX11_drawn_8 (by decide) (fun h9 => absurd h9 (by decide)) (fun _ => ?_)
    refine lv_iload_n hF.1 hF.2.1 dX11_drawn_11 rfl (lv_at hl 2 rfl) ?_
    refine lv_iconst (v := 0) hF.1 hF.2.1 dX11_drawn_12 (by decide) ?_
    refine lv_sipush (v := 1427) hF.1 hF.2.1 dX11_drawn_13 (by decide) ?_
    have hM9 := g_X11_isWithin l E A u y 0 1427
    have hR9 := q_runS (l := l) (e := e0) (below := bl0) (meth := me0) (R := qR 3 0 0) (cells := 0) (slots := 0) (st0 := [.int 1427, .int 0, .int y]) (rest := []) hF hU hS hA 3 hM9 w_468 w_469 w_99 w_470 (by decide +kernel) ⟨Nat.le_of_ble_eq_true rfl, Nat.le_of_ble_eq_true rfl⟩ dX11_drawn_16 rfl hl.1 rfl (Nat.le_of_ble_eq_true rfl) ⟨Nat.le_of_ble_eq_true rfl, Nat.le_of_ble_eq_true rfl⟩
    refine q_calli hR9 hU.2.2.2 hS (fun r_18 u_16 H locs hw_17 hU hS => ?_)
    obtain ⟨hw_17_e, hw_17⟩ := hw_17
    rw [hw_17_e] at hU
    have hw_17 : (r_18 = 1 ∧ ((0 : Int32) ≤ y ∧ y ≤ (1427 : Int32))) ∨ (r_18 = 0 ∧ (¬ ((0 : Int32) ≤ y ∧ y ≤ (1427 : Int32)))) := hw_17
    rcases hw_17 with ⟨rfl, b16_19⟩ | ⟨rfl, b16_19⟩
    · refine lv_if_eq (tgt := 26) hF.1 hF.2.1 dX11_drawn_19 (by decide) (fun h9 => absurd h9 (by decide)) (fun _ => ?_)
      refine lv_iload_n hF.1 hF.2.1 dX11_drawn_22 rfl (lv_at hl 3 rfl) ?_
      refine lv_if_ge (tgt := 28) hF.1 hF.2.1 dX11_drawn_23 (by decide) (fun c23_20 => ?_) (fun c23_20 => ?_)
      · refine lv_iload_n hF.1 hF.2.1 dX11_drawn_28 rfl (lv_at hl 3 rfl) ?_
        refine lv_i2l (v := (z : Int32).toInt64) hF.1 hF.2.1 dX11_drawn_29 rfl ?_
        refine lv_lstore (lv' := [(4, .long ((z : Int32).toInt64)), (0, .ref (E.2.2 1199)), (1, .int x), (2, .int y), (3, .int z)]) hF.1 hF.2.1 dX11_drawn_30 hl (by decide) rfl (fun ls hl => ?_)
        refine lv_iconst (v := 0) hF.1 hF.2.1 dX11_drawn_32 (by decide) ?_
        refine lv_istore (lv' := [(6, .int 0), (4, .long ((z : Int32).toInt64)), (0, .ref (E.2.2 1199)), (1, .int x), (2, .int y), (3, .int z)]) hF.1 hF.2.1 dX11_drawn_33 hl (by decide) rfl (fun ls hl => ?_)
        exact (main _) ((z : Int32).toInt64) (0 : Int32) u _ _ _ rfl  (g_X11_drawn_v3 u x y z hz8 hz9 hz10 hz12 b5_15 b16_19 c23_20) (g_X11_drawn_v4 u x y z hz8 hz9 hz10 hz12 b5_15 b16_19 c23_20) (Nat.lt_succ_self _) hU hS (lv_sub hl [2, 3, 4, 5, 1, 0] rfl)
      · refine lv_iconst (v := (-1)) hF.1 hF.2.1 dX11_drawn_26 (by decide) ?_
        exact q_iret hF hr rfl hlocks hU hS dX11_drawn_27 ⟨rfl, trivial⟩
    · refine lv_if_eq (tgt := 26) hF.1 hF.2.1 dX11_drawn_19 (by decide) (fun _ => ?_) (fun h9 => absurd (by decide) h9)
      refine lv_iconst (v := (-1)) hF.1 hF.2.1 dX11_drawn_26 (by decide) ?_
      exact q_iret hF hr rfl hlocks hU hS dX11_drawn_27 ⟨rfl, trivial⟩
  · refine lv_if_eq (tgt := 26) hF.1 hF.2.1 dX11_drawn_8 (by decide) (fun _ => ?_) (fun h9 => absurd (by decide) h9)
    refine lv_iconst (v := (-1)) hF.1 hF.2.1 dX11_drawn_26 (by decide) ?_
    exact q_iret hF hr rfl hlocks hU hS dX11_drawn_27 ⟨rfl, trivial⟩
set_option maxRecDepth 100000 in
theorem g_X11_sway_v0 (u : qS) (x : Int32) (y : Int32) (x4 : Int32) (x5 : Int32) (x6 : Int32) (r_11 : Int32) (r_20 : Int32) (hz8 : 0 ≤ u.1 8 ∧ u.1 8 ≤ 20) (hz9 : 0 ≤ u.1 9 ∧ u.1 9 ≤ 8) (hz10 : 0 ≤ u.1 10 ∧ u.1 10 ≤ 120) (hz12 : 0 ≤ u.1 12 ∧ u.1 12 ≤ 16) (h_k : 0 ≤ x6) (c57_1 : ¬ 12 ≤ (x6 : Int32)) (c91_21 : (r_20 : Int32) ≤ x5) : 0 ≤ (x6 + 1) := by
  first | omega | ((try simp only [g_m1, Int32.lt_iff_toInt_lt, Int32.le_iff_toInt_le, ← Int32.toInt_inj, Int32.reduceToInt] at *); omega) | ((try have ez1 : (x6 + 1 : Int32).toInt = (x6 : Int32).toInt + (1 : Int32).toInt := g_add (by (try simp only [g_m1, Int32.lt_iff_toInt_lt, Int32.le_iff_toInt_le, ← Int32.toInt_inj, Int32.reduceToInt] at *); omega) (by (try simp only [g_m1, Int32.lt_iff_toInt_lt, Int32.le_iff_toInt_le, ← Int32.toInt_inj, Int32.reduceToInt] at *); omega)); (try simp only [g_m1, Int32.lt_iff_toInt_lt, Int32.le_iff_toInt_le, ← Int32.toInt_inj, Int32.reduceToInt] at *); omega) | ((try simp only [g_m1, Int32.lt_iff_toInt_lt, Int32.le_iff_toInt_le, ← Int32.toInt_inj, Int32.toInt_add, Int32.toInt_sub, Int32.toInt_mul, Int32.toInt_neg, Int32.reduceToInt, g_bm, g_bm'] at *); omega) | (have qr1 := g_rng x; have qr2 := g_rng y; have qr4 := g_rng x4; have qr5 := g_rng x5; have qr6 := g_rng x6; have qr9 := g_rng r_11; have qr10 := g_rng r_20; (try simp only [g_m1, Int32.lt_iff_toInt_lt, Int32.le_iff_toInt_le, ← Int32.toInt_inj, Int32.toInt_add, Int32.toInt_sub, Int32.toInt_mul, Int32.toInt_neg, Int32.reduceToInt, g_bm, g_bm'] at *); omega) | (simp only [g_m1, Int32.lt_iff_toInt_lt, Int32.le_iff_toInt_le, ← Int32.toInt_inj, Int32.toInt_add, Int32.toInt_sub, Int32.toInt_mul, Int32.toInt_neg, Int32.reduceToInt, g_bm, g_bm'] at *; simp at *; omega) | (simp_all; done)
set_option maxRecDepth 100000 in
theorem g_X11_sway_v1 (u : qS) (x : Int32) (y : Int32) (x4 : Int32) (x5 : Int32) (x6 : Int32) (r_11 : Int32) (r_20 : Int32) (hz8 : 0 ≤ u.1 8 ∧ u.1 8 ≤ 20) (hz9 : 0 ≤ u.1 9 ∧ u.1 9 ≤ 8) (hz10 : 0 ≤ u.1 10 ∧ u.1 10 ≤ 120) (hz12 : 0 ≤ u.1 12 ∧ u.1 12 ≤ 16) (h_k : 0 ≤ x6) (c57_1 : ¬ 12 ≤ (x6 : Int32)) (c91_21 : (r_20 : Int32) ≤ x5) : (((12 : Int32)).toInt - (x6 + 1).toInt).toNat < (((12 : Int32)).toInt - x6.toInt).toNat := by
  first | omega | ((try simp only [g_m1, Int32.lt_iff_toInt_lt, Int32.le_iff_toInt_le, ← Int32.toInt_inj, Int32.reduceToInt] at *); omega) | ((try have ez1 : (x6 + 1 : Int32).toInt = (x6 : Int32).toInt + (1 : Int32).toInt := g_add (by (try simp only [g_m1, Int32.lt_iff_toInt_lt, Int32.le_iff_toInt_le, ← Int32.toInt_inj, Int32.reduceToInt] at *); omega) (by (try simp only [g_m1, Int32.lt_iff_toInt_lt, Int32.le_iff_toInt_le, ← Int32.toInt_inj, Int32.reduceToInt] at *); omega)); (try simp only [g_m1, Int32.lt_iff_toInt_lt, Int32.le_iff_toInt_le, ← Int32.toInt_inj, Int32.reduceToInt] at *); omega) | ((try simp only [g_m1, Int32.lt_iff_toInt_lt, Int32.le_iff_toInt_le, ← Int32.toInt_inj, Int32.toInt_add, Int32.toInt_sub, Int32.toInt_mul, Int32.toInt_neg, Int32.reduceToInt, g_bm, g_bm'] at *); omega) | (have qr1 := g_rng x; have qr2 := g_rng y; have qr4 := g_rng x4; have qr5 := g_rng x5; have qr6 := g_rng x6; have qr9 := g_rng r_11; have qr10 := g_rng r_20; (try simp only [g_m1, Int32.lt_iff_toInt_lt, Int32.le_iff_toInt_le, ← Int32.toInt_inj, Int32.toInt_add, Int32.toInt_sub, Int32.toInt_mul, Int32.toInt_neg, Int32.reduceToInt, g_bm, g_bm'] at *); omega) | (simp only [g_m1, Int32.lt_iff_toInt_lt, Int32.le_iff_toInt_le, ← Int32.toInt_inj, Int32.toInt_add, Int32.toInt_sub, Int32.toInt_mul, Int32.toInt_neg, Int32.reduceToInt, g_bm, g_bm'] at *; simp at *; omega) | (simp_all; done)
set_option maxRecDepth 100000 in
theorem g_X11_sway_v2 (u : qS) (x : Int32) (y : Int32) (x4 : Int32) (x5 : Int32) (x6 : Int32) (r_11 : Int32) (r_20 : Int32) (hz8 : 0 ≤ u.1 8 ∧ u.1 8 ≤ 20) (hz9 : 0 ≤ u.1 9 ∧ u.1 9 ≤ 8) (hz10 : 0 ≤ u.1 10 ∧ u.1 10 ≤ 120) (hz12 : 0 ≤ u.1 12 ∧ u.1 12 ≤ 16) (h_k : 0 ≤ x6) (c57_1 : ¬ 12 ≤ (x6 : Int32)) (c91_21 : ¬ (r_20 : Int32) ≤ x5) : 0 ≤ (x6 + 1) := by
  first | omega | ((try simp only [g_m1, Int32.lt_iff_toInt_lt, Int32.le_iff_toInt_le, ← Int32.toInt_inj, Int32.reduceToInt] at *); omega) | ((try have ez1 : (x6 + 1 : Int32).toInt = (x6 : Int32).toInt + (1 : Int32).toInt := g_add (by (try simp only [g_m1, Int32.lt_iff_toInt_lt, Int32.le_iff_toInt_le, ← Int32.toInt_inj, Int32.reduceToInt] at *); omega) (by (try simp only [g_m1, Int32.lt_iff_toInt_lt, Int32.le_iff_toInt_le, ← Int32.toInt_inj, Int32.reduceToInt] at *); omega)); (try simp only [g_m1, Int32.lt_iff_toInt_lt, Int32.le_iff_toInt_le, ← Int32.toInt_inj, Int32.reduceToInt] at *); omega) | ((try simp only [g_m1, Int32.lt_iff_toInt_lt, Int32.le_iff_toInt_le, ← Int32.toInt_inj, Int32.toInt_add, Int32.toInt_sub, Int32.toInt_mul, Int32.toInt_neg, Int32.reduceToInt, g_bm, g_bm'] at *); omega) | (have qr1 := g_rng x; have qr2 := g_rng y; have qr4 := g_rng x4; have qr5 := g_rng x5; have qr6 := g_rng x6; have qr9 := g_rng r_11; have qr10 := g_rng r_20; (try simp only [g_m1, Int32.lt_iff_toInt_lt, Int32.le_iff_toInt_le, ← Int32.toInt_inj, Int32.toInt_add, Int32.toInt_sub, Int32.toInt_mul, Int32.toInt_neg, Int32.reduceToInt, g_bm, g_bm'] at *); omega) | (simp only [g_m1, Int32.lt_iff_toInt_lt, Int32.le_iff_toInt_le, ← Int32.toInt_inj, Int32.toInt_add, Int32.toInt_sub, Int32.toInt_mul, Int32.toInt_neg, Int32.reduceToInt, g_bm, g_bm'] at *; simp at *; omega) | (simp_all; done)
set_option maxRecDepth 100000 in
theorem g_X11_sway_v3 (u : qS) (x : Int32) (y : Int32) (x4 : Int32) (x5 : Int32) (x6 : Int32) (r_11 : Int32) (r_20 : Int32) (hz8 : 0 ≤ u.1 8 ∧ u.1 8 ≤ 20) (hz9 : 0 ≤ u.1 9 ∧ u.1 9 ≤ 8) (hz10 : 0 ≤ u.1 10 ∧ u.1 10 ≤ 120) (hz12 : 0 ≤ u.1 12 ∧ u.1 12 ≤ 16) (h_k : 0 ≤ x6) (c57_1 : ¬ 12 ≤ (x6 : Int32)) (c91_21 : ¬ (r_20 : Int32) ≤ x5) : (((12 : Int32)).toInt - (x6 + 1).toInt).toNat < (((12 : Int32)).toInt - x6.toInt).toNat := by
  first | omega | ((try simp only [g_m1, Int32.lt_iff_toInt_lt, Int32.le_iff_toInt_le, ← Int32.toInt_inj, Int32.reduceToInt] at *); omega) | ((try have ez1 : (x6 + 1 : Int32).toInt = (x6 : Int32).toInt + (1 : Int32).toInt := g_add (by (try simp only [g_m1, Int32.lt_iff_toInt_lt, Int32.le_iff_toInt_le, ← Int32.toInt_inj, Int32.reduceToInt] at *); omega) (by (try simp only [g_m1, Int32.lt_iff_toInt_lt, Int32.le_iff_toInt_le, ← Int32.toInt_inj, Int32.reduceToInt] at *); omega)); (try simp only [g_m1, Int32.lt_iff_toInt_lt, Int32.le_iff_toInt_le, ← Int32.toInt_inj, Int32.reduceToInt] at *); omega) | ((try simp only [g_m1, Int32.lt_iff_toInt_lt, Int32.le_iff_toInt_le, ← Int32.toInt_inj, Int32.toInt_add, Int32.toInt_sub, Int32.toInt_mul, Int32.toInt_neg, Int32.reduceToInt, g_bm, g_bm'] at *); omega) | (have qr1 := g_rng x; have qr2 := g_rng y; have qr4 := g_rng x4; have qr5 := g_rng x5; have qr6 := g_rng x6; have qr9 := g_rng r_11; have qr10 := g_rng r_20; (try simp only [g_m1, Int32.lt_iff_toInt_lt, Int32.le_iff_toInt_le, ← Int32.toInt_inj, Int32.toInt_add, Int32.toInt_sub, Int32.toInt_mul, Int32.toInt_neg, Int32.reduceToInt, g_bm, g_bm'] at *); omega) | (simp only [g_m1, Int32.lt_iff_toInt_lt, Int32.le_iff_toInt_le, ← Int32.toInt_inj, Int32.toInt_add, Int32.toInt_sub, Int32.toInt_mul, Int32.toInt_neg, Int32.reduceToInt, g_bm, g_bm'] at *; simp at *; omega) | (simp_all; done)
set_option maxRecDepth 100000 in
theorem g_X11_sway_v4 (u : qS) (x : Int32) (y : Int32) (hz8 : 0 ≤ u.1 8 ∧ u.1 8 ≤ 20) (hz9 : 0 ≤ u.1 9 ∧ u.1 9 ≤ 8) (hz10 : 0 ≤ u.1 10 ∧ u.1 10 ≤ 120) (hz12 : 0 ≤ u.1 12 ∧ u.1 12 ≤ 16) (b5_25 : 0 ≤ x ∧ x < u.1 8) (b14_29 : (0 : Int32) ≤ y ∧ y ≤ (1 : Int32)) : 0 ≤ (0 : Int32) := by
  first | omega | ((try simp only [g_m1, Int32.lt_iff_toInt_lt, Int32.le_iff_toInt_le, ← Int32.toInt_inj, Int32.reduceToInt] at *); omega) | ((try simp only [g_m1, Int32.lt_iff_toInt_lt, Int32.le_iff_toInt_le, ← Int32.toInt_inj, Int32.reduceToInt] at *); omega) | ((try simp only [g_m1, Int32.lt_iff_toInt_lt, Int32.le_iff_toInt_le, ← Int32.toInt_inj, Int32.toInt_add, Int32.toInt_sub, Int32.toInt_mul, Int32.toInt_neg, Int32.reduceToInt, g_bm, g_bm'] at *); omega) | (have qr1 := g_rng x; have qr2 := g_rng y; (try simp only [g_m1, Int32.lt_iff_toInt_lt, Int32.le_iff_toInt_le, ← Int32.toInt_inj, Int32.toInt_add, Int32.toInt_sub, Int32.toInt_mul, Int32.toInt_neg, Int32.reduceToInt, g_bm, g_bm'] at *); omega) | (simp only [g_m1, Int32.lt_iff_toInt_lt, Int32.le_iff_toInt_le, ← Int32.toInt_inj, Int32.toInt_add, Int32.toInt_sub, Int32.toInt_mul, Int32.toInt_neg, Int32.reduceToInt, g_bm, g_bm'] at *; simp at *; omega) | (simp_all; done)
set_option maxHeartbeats 1000000 in
set_option maxRecDepth 100000 in
theorem g_X11_sway (l : Launch) (E : qE) (A : Nat → Prop) (u : qS) (x : Int32) (y : Int32) (hI : IC E u) : Met l yX11_sway (uws yX11_sway cX11_sway 8 (some .int)) (qR 6 0 0) (qPc E A 0 u [.ref (E.2.2 1199), .int x, .int y]) (qQi E A 0 (fun r u1 => (qFc [604, 605, 606, 607, 608, 609] [601, 602, 603] [] [] u u1 ∧ IC E u1) ∧ (True))) 0 0 A := by
  refine q_met (own := RX11) (f := 6) [.ref (E.2.2 1199), .int x, .int y] (by decide) (Nat.le_of_ble_eq_true rfl) rfl ?_
  intro p0 e0 s0 m0 bl0 me0 cd0 ls hF hr hlocks hU hS hA hl
  have hl : lv_has ls 8 [(0, .ref (E.2.2 1199)), (1, .int x), (2, .int y)] := hl
  have hz8 : 0 ≤ u.1 8 ∧ u.1 8 ≤ 20 := hI.1.s8
  have hz9 : 0 ≤ u.1 9 ∧ u.1 9 ≤ 8 := hI.1.s9
  have hz10 : 0 ≤ u.1 10 ∧ u.1 10 ≤ 120 := hI.1.s10
  have hz12 : 0 ≤ u.1 12 ∧ u.1 12 ≤ 16 := hI.1.s12
  have hfr : qFc [604, 605, 606, 607, 608, 609] [601, 602, 603] [] [] u u := qFc.rf
  have main : ∀ n : Nat, (∀ (a3 : Nat) (x4 : Int32) (x5 : Int32) (x6 : Int32) (uc : qS) (H : Heap) (locs : List Loc) (ls : Array Slot) (hfr : qFc [604, 605, 606, 607, 608, 609] [601, 602, 603] [] [] u uc) (hI : IC E uc) (ha3 : qRv uc a3) (h_k : 0 ≤ x6), (((12 : Int32)).toInt - x6.toInt).toNat < n → qH E A 0 uc s0 H → va_S A s0.heap H locs → lv_has ls 8 [(0, .ref (E.2.2 1199)), (1, .int x), (2, .int y), (3, .ref a3), (4, .int x4), (5, .int x5), (6, .int x6)] → W p0 l e0 (qR 6 0 0) s0 m0 ([.ref (E.2.2 1199), .int x, .int y] : List Value).toArray bl0 me0 cd0 H locs 0 0 (MQ bl0 (qQi E A 0 (fun r u1 => (qFc [604, 605, 606, 607, 608, 609] [601, 602, 603] [] [] u u1 ∧ IC E u1) ∧ (True))) ([.ref (E.2.2 1199), .int x, .int y] : List Value).toArray s0 0 0 A) (F0 m0 53 ls [])) := by
    clear hI hfr
    intro n
    induction n with
    | zero => exact fun _ _ _ _ _ _ _ _ _ _ _ _ hmu => absurd hmu (Nat.not_lt_zero _)
    | succ n ih =>
      intro a3 x4 x5 x6 uc H locs ls hfr hI ha3 h_k hmu hU hS hl
      refine lv_iload hF.1 hF.2.1 dX11_sway_53 (lv_at hl 6 rfl) ?_
      refine lv_bipush (v := 12) hF.1 hF.2.1 dX11_sway_55 (by decide) ?_
      refine lv_icmp_ge (tgt := 108) hF.1 hF.2.1 dX11_sway_57 (by decide) (fun c57_1 => ?_) (fun c57_1 => ?_)
      · refine lv_iload hF.1 hF.2.1 dX11_sway_108 (lv_at hl 4 rfl) ?_
        refine lv_iconst (v := (-1)) hF.1 hF.2.1 dX11_sway_110 (by decide) ?_
        refine lv_icmp_eq (tgt := 118) hF.1 hF.2.1 dX11_sway_111 (by decide) (fun c111_2 => ?_) (fun c111_2 => ?_)
        · refine lv_iload hF.1 hF.2.1 dX11_sway_118 (lv_at hl 4 rfl) ?_
          refine lv_goto (tgt := 125) hF.1 hF.2.1 dX11_sway_120 (by decide) ?_
          exact q_iret hF hr rfl hlocks hU hS dX11_sway_125 ⟨⟨hfr, hI⟩, trivial⟩
        · refine lv_iload_n hF.1 hF.2.1 dX11_sway_114 rfl (lv_at hl 2 rfl) ?_
          refine lv_if_ne (tgt := 123) hF.1 hF.2.1 dX11_sway_115 (by decide) (fun c115_3 => ?_) (fun c115_3 => ?_)
          · refine lv_iload hF.1 hF.2.1 dX11_sway_123 (lv_at hl 5 rfl) ?_
            exact q_iret hF hr rfl hlocks hU hS dX11_sway_125 ⟨⟨hfr, hI⟩, trivial⟩
          · refine lv_iload hF.1 hF.2.1 dX11_sway_118 (lv_at hl 4 rfl) ?_
            refine lv_goto (tgt := 125) hF.1 hF.2.1 dX11_sway_120 (by decide) ?_
            exact q_iret hF hr rfl hlocks hU hS dX11_sway_125 ⟨⟨hfr, hI⟩, trivial⟩
      · refine lv_aload_n hF.1 hF.2.1 dX11_sway_60 rfl (lv_at hl 0 rfl) ?_
        refine q_get (v := .ref (E.2.2 699)) hF hU dX11_sway_61 0 11 4 1104 1199 rfl rfl rfl rfl inX11 (by decide) (by decide) w_440 rfl rfl ?_
        refine lv_aload_n hF.1 hF.2.1 dX11_sway_64 rfl (lv_at hl 3 rfl) ?_
        refine lv_aload_n hF.1 hF.2.1 dX11_sway_65 rfl (lv_at hl 3 rfl) ?_
        obtain ⟨k_4, fs_5, hd_7, hv_8, hv_8_2, hv_8_3, -⟩ := hI.vf ((ha3).rf) 9 (by decide)
        refine q_getd (v := .int (qfd uc.2.2.2.2 a3 9)) hF hU dX11_sway_66 k_4 10 9 hd_7 rfl inX10 (by decide) w_620 rfl hv_8 ?_
        refine lv_iconst (v := 1) hF.1 hF.2.1 dX11_sway_69 (by decide) ?_
        refine lv_iload hF.1 hF.2.1 dX11_sway_70 (lv_at hl 6 rfl) ?_
        refine lv_ishl hF.1 hF.2.1 dX11_sway_72 ?_
        refine lv_ixor hF.1 hF.2.1 dX11_sway_73 ?_
        have hM9 := g_X6_bonusWith l E A uc a3 ((qfd uc.2.2.2.2 a3 9) ^^^ (1 <<< (x6 &&& 31))) hI ((ha3).rf)
        have hR9 := q_runV (l := l) (e := e0) (below := bl0) (meth := me0) (R := qR 6 0 0) (cells := 0) (slots := 0) (st0 := [.int ((qfd uc.2.2.2.2 a3 9) ^^^ (1 <<< (x6 &&& 31))), .ref a3, .ref (E.2.2 699)]) (rest := []) hF hU hS hA 2 5 6 699 rfl rfl rfl hM9 w_1163 w_1164 w_1165 w_104 w_1166 (by decide +kernel) ⟨Nat.le_of_ble_eq_true rfl, Nat.le_of_ble_eq_true rfl⟩ dX11_sway_74 rfl hl.1 rfl (Nat.le_of_ble_eq_true rfl) ⟨Nat.le_of_ble_eq_true rfl, Nat.le_of_ble_eq_true rfl⟩
        refine q_calli hR9 hU.2.2.2 hS (fun r_11 u_9 H locs hw_10 hU hS => ?_)
        obtain ⟨⟨hw_10_f, hI⟩, hw_10⟩ := hw_10
        have hfo := hfr
        have hfr : qFc [604, 605, 606, 607, 608, 609] [601, 602, 603] [] [] u u_9 := hfr.trans (hw_10_f.mono (by decide) (by decide) (by decide) (by decide))
        have e_12 : u_9.1 609 = (uc.1 609) := (hw_10_f.1 609 (by decide)).trans rfl
        have e_13 : u_9.2.1 603 = (uc.2.1 603) := (hw_10_f.2.1 603 (by decide)).trans rfl
        have hr_14 : qRv u_9 a3 := hw_10_f.v _ ha3
        refine lv_aload_n hF.1 hF.2.1 dX11_sway_77 rfl (lv_at hl 3 rfl) ?_
        obtain ⟨k_15, fs_16, hd_18, hv_19, hv_19_2, hv_19_3, -⟩ := hI.vf ((hr_14).rf) 12 (by decide)
        refine q_getd (v := .int (qfd u_9.2.2.2.2 a3 12)) hF hU dX11_sway_78 k_15 10 12 hd_18 rfl inX10 (by decide) w_628 rfl hv_19 ?_
        refine lv_isub hF.1 hF.2.1 dX11_sway_81 ?_
        refine va_mabs hF.1 hF.2.1 (hF.2.2.1.trans hl.1.symm) hF.2.2.2.1 (hF.2.2.2.2 _ w_1086) (hF.2.2.2.2 _ w_885) (hF.2.2.2.2 _ w_113) (hF.2.2.2.2 _ w_886) (by decide) (Nat.le_of_ble_eq_true rfl) (by decide) (by decide) dX11_sway_82 ?_
        obtain ⟨r_20, hr_20⟩ : ∃ z : Int32, z = (if 0 ≤ (r_11 - (qfd u_9.2.2.2.2 a3 12) : Int32) then (r_11 - (qfd u_9.2.2.2.2 a3 12)) else 0 - (r_11 - (qfd u_9.2.2.2.2 a3 12))) := ⟨_, rfl⟩
        refine q_topi hr_20.symm ?_
        refine lv_istore (lv' := [(7, .int r_20), (0, .ref (E.2.2 1199)), (1, .int x), (2, .int y), (3, .ref a3), (4, .int x4), (5, .int x5), (6, .int x6)]) hF.1 hF.2.1 dX11_sway_85 hl (by decide) rfl (fun ls hl => ?_)
        refine lv_iload hF.1 hF.2.1 dX11_sway_87 (lv_at hl 0 rfl) ?_
        refine lv_iload hF.1 hF.2.1 dX11_sway_89 (lv_at hl 6 rfl) ?_
        refine lv_icmp_le (tgt := 102) hF.1 hF.2.1 dX11_sway_91 (by decide) (fun c91_21 => ?_) (fun c91_21 => ?_)
        · refine lv_iinc (v := x6 + 1) (lv' := [(6, .int (x6 + 1)), (7, .int r_20), (0, .ref (E.2.2 1199)), (1, .int x), (2, .int y), (3, .ref a3), (4, .int x4), (5, .int x5)]) hF.1 hF.2.1 dX11_sway_102 hl (k := 7) rfl rfl (by decide) rfl (fun ls hl => ?_)
          refine lv_goto (tgt := 53) hF.1 hF.2.1 dX11_sway_105 (by decide) ?_
          exact ih a3 x4 x5 (x6 + 1) u_9 _ _ _ hfr hI hr_14 (g_X11_sway_v0 u x y x4 x5 x6 r_11 r_20 hz8 hz9 hz10 hz12 h_k c57_1 c91_21) (Nat.lt_of_lt_of_le (g_X11_sway_v1 u x y x4 x5 x6 r_11 r_20 hz8 hz9 hz10 hz12 h_k c57_1 c91_21) (Nat.lt_succ_iff.mp hmu)) hU hS (lv_sub hl [2, 3, 4, 5, 6, 7, 0] rfl)
        · refine lv_iload hF.1 hF.2.1 dX11_sway_94 (lv_at hl 0 rfl) ?_
          refine lv_istore (lv' := [(5, .int r_20), (7, .int r_20), (0, .ref (E.2.2 1199)), (1, .int x), (2, .int y), (3, .ref a3), (4, .int x4), (6, .int x6)]) hF.1 hF.2.1 dX11_sway_96 hl (by decide) rfl (fun ls hl => ?_)
          refine lv_iload hF.1 hF.2.1 dX11_sway_98 (lv_at hl 7 rfl) ?_
          refine lv_istore (lv' := [(4, .int x6), (5, .int r_20), (7, .int r_20), (0, .ref (E.2.2 1199)), (1, .int x), (2, .int y), (3, .ref a3), (6, .int x6)]) hF.1 hF.2.1 dX11_sway_100 hl (by decide) rfl (fun ls hl => ?_)
          refine lv_iinc (v := x6 + 1) (lv' := [(6, .int (x6 + 1)), (4, .int x6), (5, .int r_20), (7, .int r_20), (0, .ref (E.2.2 1199)), (1, .int x), (2, .int y), (3, .ref a3)]) hF.1 hF.2.1 dX11_sway_102 hl (k := 7) rfl rfl (by decide) rfl (fun ls hl => ?_)
          refine lv_goto (tgt := 53) hF.1 hF.2.1 dX11_sway_105 (by decide) ?_
          exact ih a3 x6 r_20 (x6 + 1) u_9 _ _ _ hfr hI hr_14 (g_X11_sway_v2 u x y x4 x5 x6 r_11 r_20 hz8 hz9 hz10 hz12 h_k c57_1 c91_21) (Nat.lt_of_lt_of_le (g_X11_sway_v3 u x y x4 x5 x6 r_11 r_20 hz8 hz9 hz10 hz12 h_k c57_1 c91_21) (Nat.lt_succ_iff.mp hmu)) hU hS (lv_sub hl [4, 5, 6, 7, 1, 2, 0] rfl)
  refine lv_aload_n hF.1 hF.2.1 dX11_sway_0 rfl (lv_at hl 0 rfl) ?_
  refine q_get (v := .ref (E.2.2 99)) hF hU dX11_sway_1 0 11 0 1100 1199 rfl rfl rfl rfl inX11 (by decide) (by decide) w_436 rfl rfl ?_
  refine lv_iload_n hF.1 hF.2.1 dX11_sway_4 rfl (lv_at hl 1 rfl) ?_
  have hM9 := g_X0_hasShop l E A u x hI
  have hR9 := q_runV (l := l) (e := e0) (below := bl0) (meth := me0) (R := qR 6 0 0) (cells := 0) (slots := 0) (st0 := [.int x, .ref (E.2.2 99)]) (rest := []) hF hU hS hA 1 1 0 99 rfl rfl rfl hM9 w_563 w_564 w_565 w_100 w_566 (by decide +kernel) ⟨Nat.le_of_ble_eq_true rfl, Nat.le_of_ble_eq_true rfl⟩ dX11_sway_5 rfl hl.1 rfl (Nat.le_of_ble_eq_true rfl) ⟨Nat.le_of_ble_eq_true rfl, Nat.le_of_ble_eq_true rfl⟩
  refine q_calli hR9 hU.2.2.2 hS (fun r_24 u_22 H locs hw_23 hU hS => ?_)
  obtain ⟨hw_23_e, hw_23⟩ := hw_23
  rw [hw_23_e] at hU
  have hw_23 : (r_24 = 1 ∧ (0 ≤ x ∧ x < u.1 8)) ∨ (r_24 = 0 ∧ (¬ (0 ≤ x ∧ x < u.1 8))) := hw_23
  rcases hw_23 with ⟨rfl, b5_25⟩ | ⟨rfl, b5_25⟩
  · refine lv_if_eq (tgt := 20) hF.1 hF.2.1 dX11_sway_8 (by decide) (fun h9 => absurd h9 (by decide)) (fun _ => ?_)
    refine lv_iload_n hF.1 hF.2.1 dX11_sway_11 rfl (lv_at hl 2 rfl) ?_
    refine lv_iconst (v := 0) hF.1 hF.2.1 dX11_sway_12 (by decide) ?_
    refine lv_iconst (v := 1) hF.1 hF.2.1 dX11_sway_13 (by decide) ?_
    have hM9 := g_X11_isWithin l E A u y 0 1
    have hR9 := q_runS (l := l) (e := e0) (below := bl0) (meth := me0) (R := qR 6 0 0) (cells := 0) (slots := 0) (st0 := [.int 1, .int 0, .int y]) (rest := []) hF hU hS hA 3 hM9 w_468 w_469 w_99 w_470 (by decide +kernel) ⟨Nat.le_of_ble_eq_true rfl, Nat.le_of_ble_eq_true rfl⟩ dX11_sway_14 rfl hl.1 rfl (Nat.le_of_ble_eq_true rfl) ⟨Nat.le_of_ble_eq_true rfl, Nat.le_of_ble_eq_true rfl⟩
    refine q_calli hR9 hU.2.2.2 hS (fun r_28 u_26 H locs hw_27 hU hS => ?_)
    obtain ⟨hw_27_e, hw_27⟩ := hw_27
    rw [hw_27_e] at hU
    have hw_27 : (r_28 = 1 ∧ ((0 : Int32) ≤ y ∧ y ≤ (1 : Int32))) ∨ (r_28 = 0 ∧ (¬ ((0 : Int32) ≤ y ∧ y ≤ (1 : Int32)))) := hw_27
    rcases hw_27 with ⟨rfl, b14_29⟩ | ⟨rfl, b14_29⟩
    · refine lv_if_ne (tgt := 22) hF.1 hF.2.1 dX11_sway_17 (by decide) (fun _ => ?_) (fun h9 => absurd h9 (by decide))
      refine lv_aload_n hF.1 hF.2.1 dX11_sway_22 rfl (lv_at hl 0 rfl) ?_
      refine q_get (v := .ref (E.2.2 99)) hF hU dX11_sway_23 0 11 0 1100 1199 rfl rfl rfl rfl inX11 (by decide) (by decide) w_436 rfl rfl ?_
      refine lv_iload_n hF.1 hF.2.1 dX11_sway_26 rfl (lv_at hl 1 rfl) ?_
      have hM9 := g_X0_latestOf l E A u x hI
      have hR9 := q_runV (l := l) (e := e0) (below := bl0) (meth := me0) (R := qR 6 0 0) (cells := 0) (slots := 0) (st0 := [.int x, .ref (E.2.2 99)]) (rest := []) hF hU hS hA 1 1 0 99 rfl rfl rfl hM9 w_1154 w_1155 w_1156 w_100 w_1157 (by decide +kernel) ⟨Nat.le_of_ble_eq_true rfl, Nat.le_of_ble_eq_true rfl⟩ dX11_sway_27 rfl hl.1 rfl (Nat.le_of_ble_eq_true rfl) ⟨Nat.le_of_ble_eq_true rfl, Nat.le_of_ble_eq_true rfl⟩
      refine q_callq hR9 hU.2.2.2 hS (fun u_30 H locs hw_31 hU hS => ?_) (fun a_33 u_30 H locs hw_31 hU hS => ?_)
      · rw [hw_31.1] at hU
        refine lv_astore_nN (lv' := [(3, .null), (0, .ref (E.2.2 1199)), (1, .int x), (2, .int y)]) hF.1 hF.2.1 dX11_sway_30 rfl hl (by decide) rfl (fun ls hl => ?_)
        refine lv_aload_nN hF.1 hF.2.1 dX11_sway_31 rfl (lv_at hl 0 rfl) ?_
        refine lv_ifnonnullN hF.1 hF.2.1 dX11_sway_32 ?_
        refine lv_iconst (v := (-1)) hF.1 hF.2.1 dX11_sway_35 (by decide) ?_
        exact q_iret hF hr rfl hlocks hU hS dX11_sway_36 ⟨⟨hfr, hI⟩, trivial⟩
      · rw [hw_31.1] at hU
        have hw_31 := hw_31.2
        refine lv_astore_n (lv' := [(3, .ref a_33), (0, .ref (E.2.2 1199)), (1, .int x), (2, .int y)]) hF.1 hF.2.1 dX11_sway_30 rfl hl (by decide) rfl (fun ls hl => ?_)
        refine lv_aload_n hF.1 hF.2.1 dX11_sway_31 rfl (lv_at hl 0 rfl) ?_
        refine lv_ifnonnull (tgt := 37) hF.1 hF.2.1 dX11_sway_32 (by decide) ?_
        refine lv_aload_n hF.1 hF.2.1 dX11_sway_37 rfl (lv_at hl 1 rfl) ?_
        refine q_get (v := .ref (E.2.2 699)) hF hU dX11_sway_38 0 11 4 1104 1199 rfl rfl rfl rfl inX11 (by decide) (by decide) w_440 rfl rfl ?_
        have hM9 := g_X6_refresh l E A u  hI
        have hR9 := q_runV (l := l) (e := e0) (below := bl0) (meth := me0) (R := qR 6 0 0) (cells := 0) (slots := 0) (st0 := [.ref (E.2.2 699)]) (rest := []) hF hU hS hA 0 5 6 699 rfl rfl rfl hM9 w_1162 w_937 w_938 w_104 w_939 (by decide +kernel) ⟨Nat.le_of_ble_eq_true rfl, Nat.le_of_ble_eq_true rfl⟩ dX11_sway_41 rfl hl.1 rfl (Nat.le_of_ble_eq_true rfl) ⟨Nat.le_of_ble_eq_true rfl, Nat.le_of_ble_eq_true rfl⟩
        refine q_callv hR9 hU.2.2.2 hS (fun u_34 H locs hw_35 hU hS => ?_)
        obtain ⟨⟨hw_35_f, hI⟩, hw_35⟩ := hw_35
        have hfo := hfr
        have hfr : qFc [604, 605, 606, 607, 608, 609] [601, 602, 603] [] [] u u_34 := hfr.trans (hw_35_f.mono (by decide) (by decide) (by decide) (by decide))
        have hr_37 : qRv u_34 a_33 := hw_35_f.v _ hw_31
        refine lv_iconst (v := (-1)) hF.1 hF.2.1 dX11_sway_44 (by decide) ?_
        refine lv_istore (lv' := [(4, .int (-1)), (3, .ref a_33), (0, .ref (E.2.2 1199)), (1, .int x), (2, .int y)]) hF.1 hF.2.1 dX11_sway_45 hl (by decide) rfl (fun ls hl => ?_)
        refine lv_iconst (v := 0) hF.1 hF.2.1 dX11_sway_47 (by decide) ?_
        refine lv_istore (lv' := [(5, .int 0), (4, .int (-1)), (3, .ref a_33), (0, .ref (E.2.2 1199)), (1, .int x), (2, .int y)]) hF.1 hF.2.1 dX11_sway_48 hl (by decide) rfl (fun ls hl => ?_)
        refine lv_iconst (v := 0) hF.1 hF.2.1 dX11_sway_50 (by decide) ?_
        refine lv_istore (lv' := [(6, .int 0), (5, .int 0), (4, .int (-1)), (3, .ref a_33), (0, .ref (E.2.2 1199)), (1, .int x), (2, .int y)]) hF.1 hF.2.1 dX11_sway_51 hl (by decide) rfl (fun ls hl => ?_)
        exact (main _) a_33 ((-1) : Int32) (0 : Int32) (0 : Int32) u_34 _ _ _ hfr hI hr_37 (g_X11_sway_v4 u x y hz8 hz9 hz10 hz12 b5_25 b14_29) (Nat.lt_succ_self _) hU hS (lv_sub hl [4, 5, 6, 3, 2, 1, 0] rfl)
    · refine lv_if_ne (tgt := 22) hF.1 hF.2.1 dX11_sway_17 (by decide) (fun h9 => absurd (by decide) h9) (fun _ => ?_)
      refine lv_iconst (v := (-1)) hF.1 hF.2.1 dX11_sway_20 (by decide) ?_
      exact q_iret hF hr rfl hlocks hU hS dX11_sway_21 ⟨⟨hfr, hI⟩, trivial⟩
  · refine lv_if_eq (tgt := 20) hF.1 hF.2.1 dX11_sway_8 (by decide) (fun _ => ?_) (fun h9 => absurd (by decide) h9)
    refine lv_iconst (v := (-1)) hF.1 hF.2.1 dX11_sway_20 (by decide) ?_
    exact q_iret hF hr rfl hlocks hU hS dX11_sway_21 ⟨⟨hfr, hI⟩, trivial⟩
set_option maxRecDepth 100000 in
theorem g_X11_sum_v0 (u : qS) (x : Int32) (y : Int32) (z : Int32) (w : Int32) (hz8 : 0 ≤ u.1 8 ∧ u.1 8 ≤ 20) (hz9 : 0 ≤ u.1 9 ∧ u.1 9 ≤ 8) (hz10 : 0 ≤ u.1 10 ∧ u.1 10 ≤ 120) (hz12 : 0 ≤ u.1 12 ∧ u.1 12 ≤ 16) (b3_4 : (0 ≤ z ∧ z ≤ 9999) ∧ (0 ≤ w ∧ w ≤ 9999) ∧ z ≤ w) (c12_5 : ¬ (x : Int32) = 0) (c33_6 : (x : Int32) = 1) (b41_10 : 0 ≤ y ∧ y < u.1 9) : 0 ≤ y ∧ y < (u.1 9 : Int32) := by
  first | omega | ((try simp only [g_m1, Int32.lt_iff_toInt_lt, Int32.le_iff_toInt_le, ← Int32.toInt_inj, Int32.reduceToInt] at *); omega) | ((try simp only [g_m1, Int32.lt_iff_toInt_lt, Int32.le_iff_toInt_le, ← Int32.toInt_inj, Int32.reduceToInt] at *); omega) | ((try simp only [g_m1, Int32.lt_iff_toInt_lt, Int32.le_iff_toInt_le, ← Int32.toInt_inj, Int32.toInt_add, Int32.toInt_sub, Int32.toInt_mul, Int32.toInt_neg, Int32.reduceToInt, g_bm, g_bm'] at *); omega) | (have qr1 := g_rng x; have qr2 := g_rng y; have qr3 := g_rng z; have qr4 := g_rng w; (try simp only [g_m1, Int32.lt_iff_toInt_lt, Int32.le_iff_toInt_le, ← Int32.toInt_inj, Int32.toInt_add, Int32.toInt_sub, Int32.toInt_mul, Int32.toInt_neg, Int32.reduceToInt, g_bm, g_bm'] at *); omega) | (simp only [g_m1, Int32.lt_iff_toInt_lt, Int32.le_iff_toInt_le, ← Int32.toInt_inj, Int32.toInt_add, Int32.toInt_sub, Int32.toInt_mul, Int32.toInt_neg, Int32.reduceToInt, g_bm, g_bm'] at *; simp at *; omega) | (simp_all; done)
set_option maxRecDepth 100000 in
theorem g_X11_sum_v1 (u : qS) (x : Int32) (y : Int32) (z : Int32) (w : Int32) (hz8 : 0 ≤ u.1 8 ∧ u.1 8 ≤ 20) (hz9 : 0 ≤ u.1 9 ∧ u.1 9 ≤ 8) (hz10 : 0 ≤ u.1 10 ∧ u.1 10 ≤ 120) (hz12 : 0 ≤ u.1 12 ∧ u.1 12 ≤ 16) (b3_4 : (0 ≤ z ∧ z ≤ 9999) ∧ (0 ≤ w ∧ w ≤ 9999) ∧ z ≤ w) (c12_5 : (x : Int32) = 0) (b16_26 : ¬ (0 ≤ y ∧ y ≤ 3)) (c33_30 : (x : Int32) = 1) (b41_34 : 0 ≤ y ∧ y < u.1 9) : 0 ≤ y ∧ y < (u.1 9 : Int32) := by
  first | omega | ((try simp only [g_m1, Int32.lt_iff_toInt_lt, Int32.le_iff_toInt_le, ← Int32.toInt_inj, Int32.reduceToInt] at *); omega) | ((try simp only [g_m1, Int32.lt_iff_toInt_lt, Int32.le_iff_toInt_le, ← Int32.toInt_inj, Int32.reduceToInt] at *); omega) | ((try simp only [g_m1, Int32.lt_iff_toInt_lt, Int32.le_iff_toInt_le, ← Int32.toInt_inj, Int32.toInt_add, Int32.toInt_sub, Int32.toInt_mul, Int32.toInt_neg, Int32.reduceToInt, g_bm, g_bm'] at *); omega) | (have qr1 := g_rng x; have qr2 := g_rng y; have qr3 := g_rng z; have qr4 := g_rng w; (try simp only [g_m1, Int32.lt_iff_toInt_lt, Int32.le_iff_toInt_le, ← Int32.toInt_inj, Int32.toInt_add, Int32.toInt_sub, Int32.toInt_mul, Int32.toInt_neg, Int32.reduceToInt, g_bm, g_bm'] at *); omega) | (simp only [g_m1, Int32.lt_iff_toInt_lt, Int32.le_iff_toInt_le, ← Int32.toInt_inj, Int32.toInt_add, Int32.toInt_sub, Int32.toInt_mul, Int32.toInt_neg, Int32.reduceToInt, g_bm, g_bm'] at *; simp at *; omega) | (simp_all; done)
set_option maxHeartbeats 1000000 in
set_option maxRecDepth 100000 in
theorem g_X11_sum (l : Launch) (E : qE) (A : Nat → Prop) (u : qS) (x : Int32) (y : Int32) (z : Int32) (w : Int32) (hI : IC E u) : Met l yX11_sum (uws yX11_sum cX11_sum 5 (some .int)) (qR 8 0 0) (qPc E A 0 u [.ref (E.2.2 1199), .int x, .int y, .int z, .int w]) (qQi E A 0 (fun r u1 => (qFc [900, 901, 902, 908, 909, 604, 605, 606, 607, 608, 609] [905, 906, 907, 601, 602, 603] [] [904] u u1 ∧ IC E u1) ∧ (True))) 0 0 A := by
  refine q_met (own := RX11) (f := 8) [.ref (E.2.2 1199), .int x, .int y, .int z, .int w] (by decide) (Nat.le_of_ble_eq_true rfl) rfl ?_
  intro p0 e0 s0 m0 bl0 me0 cd0 ls hF hr hlocks hU hS hA hl
  have hl : lv_has ls 5 [(0, .ref (E.2.2 1199)), (1, .int x), (2, .int y), (3, .int z), (4, .int w)] := hl
  have hz8 : 0 ≤ u.1 8 ∧ u.1 8 ≤ 20 := hI.1.s8
  have hz9 : 0 ≤ u.1 9 ∧ u.1 9 ≤ 8 := hI.1.s9
  have hz10 : 0 ≤ u.1 10 ∧ u.1 10 ≤ 120 := hI.1.s10
  have hz12 : 0 ≤ u.1 12 ∧ u.1 12 ≤ 16 := hI.1.s12
  have hfr : qFc [900, 901, 902, 908, 909, 604, 605, 606, 607, 608, 609] [905, 906, 907, 601, 602, 603] [] [904] u u := qFc.rf
  refine lv_iload_n hF.1 hF.2.1 dX11_sum_0 rfl (lv_at hl 3 rfl) ?_
  refine lv_iload hF.1 hF.2.1 dX11_sum_1 (lv_at hl 4 rfl) ?_
  have hM9 := g_X11_isSpan l E A u z w
  have hR9 := q_runS (l := l) (e := e0) (below := bl0) (meth := me0) (R := qR 8 0 0) (cells := 0) (slots := 0) (st0 := [.int w, .int z]) (rest := []) hF hU hS hA 2 hM9 w_1017 w_1018 w_99 w_1019 (by decide +kernel) ⟨Nat.le_of_ble_eq_true rfl, Nat.le_of_ble_eq_true rfl⟩ dX11_sum_3 rfl hl.1 rfl (Nat.le_of_ble_eq_true rfl) ⟨Nat.le_of_ble_eq_true rfl, Nat.le_of_ble_eq_true rfl⟩
  refine q_calli hR9 hU.2.2.2 hS (fun r_3 u_1 H locs hw_2 hU hS => ?_)
  obtain ⟨hw_2_e, hw_2⟩ := hw_2
  rw [hw_2_e] at hU
  have hw_2 : (r_3 = 1 ∧ ((0 ≤ z ∧ z ≤ 9999) ∧ (0 ≤ w ∧ w ≤ 9999) ∧ z ≤ w)) ∨ (r_3 = 0 ∧ (¬ ((0 ≤ z ∧ z ≤ 9999) ∧ (0 ≤ w ∧ w ≤ 9999) ∧ z ≤ w))) := hw_2
  rcases hw_2 with ⟨rfl, b3_4⟩ | ⟨rfl, b3_4⟩
  · refine lv_if_ne (tgt := 11) hF.1 hF.2.1 dX11_sum_6 (by decide) (fun _ => ?_) (fun h9 => absurd h9 (by decide))
    refine lv_iload_n hF.1 hF.2.1 dX11_sum_11 rfl (lv_at hl 1 rfl) ?_
    refine lv_if_ne (tgt := 31) hF.1 hF.2.1 dX11_sum_12 (by decide) (fun c12_5 => ?_) (fun c12_5 => ?_)
    · refine lv_iload_n hF.1 hF.2.1 dX11_sum_31 rfl (lv_at hl 1 rfl) ?_
      refine lv_iconst (v := 1) hF.1 hF.2.1 dX11_sum_32 (by decide) ?_
      refine lv_icmp_ne (tgt := 56) hF.1 hF.2.1 dX11_sum_33 (by decide) (fun c33_6 => ?_) (fun c33_6 => ?_)
      · refine lv_iconst (v := (-1)) hF.1 hF.2.1 dX11_sum_56 (by decide) ?_
        exact q_iret hF hr rfl hlocks hU hS dX11_sum_57 ⟨⟨hfr, hI⟩, trivial⟩
      · refine lv_aload_n hF.1 hF.2.1 dX11_sum_36 rfl (lv_at hl 0 rfl) ?_
        refine q_get (v := .ref (E.2.2 99)) hF hU dX11_sum_37 0 11 0 1100 1199 rfl rfl rfl rfl inX11 (by decide) (by decide) w_436 rfl rfl ?_
        refine lv_iload_n hF.1 hF.2.1 dX11_sum_40 rfl (lv_at hl 2 rfl) ?_
        have hM9 := g_X0_hasBuyer l E A u y hI
        have hR9 := q_runV (l := l) (e := e0) (below := bl0) (meth := me0) (R := qR 8 0 0) (cells := 0) (slots := 0) (st0 := [.int y, .ref (E.2.2 99)]) (rest := []) hF hU hS hA 1 1 0 99 rfl rfl rfl hM9 w_568 w_569 w_570 w_100 w_571 (by decide +kernel) ⟨Nat.le_of_ble_eq_true rfl, Nat.le_of_ble_eq_true rfl⟩ dX11_sum_41 rfl hl.1 rfl (Nat.le_of_ble_eq_true rfl) ⟨Nat.le_of_ble_eq_true rfl, Nat.le_of_ble_eq_true rfl⟩
        refine q_calli hR9 hU.2.2.2 hS (fun r_9 u_7 H locs hw_8 hU hS => ?_)
        obtain ⟨hw_8_e, hw_8⟩ := hw_8
        rw [hw_8_e] at hU
        have hw_8 : (r_9 = 1 ∧ (0 ≤ y ∧ y < u.1 9)) ∨ (r_9 = 0 ∧ (¬ (0 ≤ y ∧ y < u.1 9))) := hw_8
        rcases hw_8 with ⟨rfl, b41_10⟩ | ⟨rfl, b41_10⟩
        · refine lv_if_eq (tgt := 56) hF.1 hF.2.1 dX11_sum_44 (by decide) (fun h9 => absurd h9 (by decide)) (fun _ => ?_)
          refine lv_aload_n hF.1 hF.2.1 dX11_sum_47 rfl (lv_at hl 0 rfl) ?_
          refine lv_iload_n hF.1 hF.2.1 dX11_sum_48 rfl (lv_at hl 2 rfl) ?_
          refine lv_iload_n hF.1 hF.2.1 dX11_sum_49 rfl (lv_at hl 3 rfl) ?_
          refine lv_iload hF.1 hF.2.1 dX11_sum_50 (lv_at hl 4 rfl) ?_
          have hM9 := g_X11_feesOf l E A u y z w hI (g_X11_sum_v0 u x y z w hz8 hz9 hz10 hz12 b3_4 c12_5 c33_6 b41_10)
          have hR9 := q_runV (l := l) (e := e0) (below := bl0) (meth := me0) (R := qR 8 0 0) (cells := 0) (slots := 0) (st0 := [.int w, .int z, .int y, .ref (E.2.2 1199)]) (rest := []) hF hU hS hA 3 0 11 1199 rfl rfl rfl hM9 w_1177 w_1179 w_43 w_99 w_1180 (by decide +kernel) ⟨Nat.le_of_ble_eq_true rfl, Nat.le_of_ble_eq_true rfl⟩ dX11_sum_52 rfl hl.1 rfl (Nat.le_of_ble_eq_true rfl) ⟨Nat.le_of_ble_eq_true rfl, Nat.le_of_ble_eq_true rfl⟩
          refine q_calli hR9 hU.2.2.2 hS (fun r_13 u_11 H locs hw_12 hU hS => ?_)
          obtain ⟨⟨hw_12_f, hI⟩, hw_12⟩ := hw_12
          have hfo := hfr
          have hfr : qFc [900, 901, 902, 908, 909, 604, 605, 606, 607, 608, 609] [905, 906, 907, 601, 602, 603] [] [904] u u_11 := hfr.trans (hw_12_f.mono (by decide) (by decide) (by decide) (by decide))
          have e_14 : u_11.1 604 = (u.1 604) := (hw_12_f.1 604 (by decide)).trans rfl
          have e_15 : u_11.1 605 = (u.1 605) := (hw_12_f.1 605 (by decide)).trans rfl
          have e_16 : u_11.1 606 = (u.1 606) := (hw_12_f.1 606 (by decide)).trans rfl
          have e_17 : u_11.1 607 = (u.1 607) := (hw_12_f.1 607 (by decide)).trans rfl
          have e_18 : u_11.1 608 = (u.1 608) := (hw_12_f.1 608 (by decide)).trans rfl
          have e_19 : u_11.1 609 = (u.1 609) := (hw_12_f.1 609 (by decide)).trans rfl
          have e_20 : u_11.2.1 601 = (u.2.1 601) := (hw_12_f.2.1 601 (by decide)).trans rfl
          have e_21 : u_11.2.1 602 = (u.2.1 602) := (hw_12_f.2.1 602 (by decide)).trans rfl
          have e_22 : u_11.2.1 603 = (u.2.1 603) := (hw_12_f.2.1 603 (by decide)).trans rfl
          exact q_iret hF hr rfl hlocks hU hS dX11_sum_55 ⟨⟨hfr, hI⟩, trivial⟩
        · refine lv_if_eq (tgt := 56) hF.1 hF.2.1 dX11_sum_44 (by decide) (fun _ => ?_) (fun h9 => absurd (by decide) h9)
          refine lv_iconst (v := (-1)) hF.1 hF.2.1 dX11_sum_56 (by decide) ?_
          exact q_iret hF hr rfl hlocks hU hS dX11_sum_57 ⟨⟨hfr, hI⟩, trivial⟩
    · refine lv_iload_n hF.1 hF.2.1 dX11_sum_15 rfl (lv_at hl 2 rfl) ?_
      have hM9 := g_X11_isChain l E A u y
      have hR9 := q_runS (l := l) (e := e0) (below := bl0) (meth := me0) (R := qR 8 0 0) (cells := 0) (slots := 0) (st0 := [.int y]) (rest := []) hF hU hS hA 1 hM9 w_494 w_495 w_99 w_496 (by decide +kernel) ⟨Nat.le_of_ble_eq_true rfl, Nat.le_of_ble_eq_true rfl⟩ dX11_sum_16 rfl hl.1 rfl (Nat.le_of_ble_eq_true rfl) ⟨Nat.le_of_ble_eq_true rfl, Nat.le_of_ble_eq_true rfl⟩
      refine q_calli hR9 hU.2.2.2 hS (fun r_25 u_23 H locs hw_24 hU hS => ?_)
      obtain ⟨hw_24_e, hw_24⟩ := hw_24
      rw [hw_24_e] at hU
      have hw_24 : (r_25 = 1 ∧ (0 ≤ y ∧ y ≤ 3)) ∨ (r_25 = 0 ∧ (¬ (0 ≤ y ∧ y ≤ 3))) := hw_24
      rcases hw_24 with ⟨rfl, b16_26⟩ | ⟨rfl, b16_26⟩
      · refine lv_if_eq (tgt := 31) hF.1 hF.2.1 dX11_sum_19 (by decide) (fun h9 => absurd h9 (by decide)) (fun _ => ?_)
        refine lv_aload_n hF.1 hF.2.1 dX11_sum_22 rfl (lv_at hl 0 rfl) ?_
        refine lv_iload_n hF.1 hF.2.1 dX11_sum_23 rfl (lv_at hl 2 rfl) ?_
        refine lv_iload_n hF.1 hF.2.1 dX11_sum_24 rfl (lv_at hl 3 rfl) ?_
        refine lv_iload hF.1 hF.2.1 dX11_sum_25 (lv_at hl 4 rfl) ?_
        have hM9 := g_X11_bonusesOf l E A u y z w hI
        have hR9 := q_runV (l := l) (e := e0) (below := bl0) (meth := me0) (R := qR 8 0 0) (cells := 0) (slots := 0) (st0 := [.int w, .int z, .int y, .ref (E.2.2 1199)]) (rest := []) hF hU hS hA 3 0 11 1199 rfl rfl rfl hM9 w_1171 w_1173 w_42 w_99 w_1174 (by decide +kernel) ⟨Nat.le_of_ble_eq_true rfl, Nat.le_of_ble_eq_true rfl⟩ dX11_sum_27 rfl hl.1 rfl (Nat.le_of_ble_eq_true rfl) ⟨Nat.le_of_ble_eq_true rfl, Nat.le_of_ble_eq_true rfl⟩
        refine q_calli hR9 hU.2.2.2 hS (fun r_29 u_27 H locs hw_28 hU hS => ?_)
        obtain ⟨⟨hw_28_f, hI⟩, hw_28⟩ := hw_28
        have hfo := hfr
        have hfr : qFc [900, 901, 902, 908, 909, 604, 605, 606, 607, 608, 609] [905, 906, 907, 601, 602, 603] [] [904] u u_27 := hfr.trans (hw_28_f.mono (by decide) (by decide) (by decide) (by decide))
        exact q_iret hF hr rfl hlocks hU hS dX11_sum_30 ⟨⟨hfr, hI⟩, trivial⟩
      · refine lv_if_eq (tgt := 31) hF.1 hF.2.1 dX11_sum_19 (by decide) (fun _ => ?_) (fun h9 => absurd (by decide) h9)
        refine lv_iload_n hF.1 hF.2.1 dX11_sum_31 rfl (lv_at hl 1 rfl) ?_
        refine lv_iconst (v := 1) hF.1 hF.2.1 dX11_sum_32 (by decide) ?_
        refine lv_icmp_ne (tgt := 56) hF.1 hF.2.1 dX11_sum_33 (by decide) (fun c33_30 => ?_) (fun c33_30 => ?_)
        · refine lv_iconst (v := (-1)) hF.1 hF.2.1 dX11_sum_56 (by decide) ?_
          exact q_iret hF hr rfl hlocks hU hS dX11_sum_57 ⟨⟨hfr, hI⟩, trivial⟩
        · refine lv_aload_n hF.1 hF.2.1 dX11_sum_36 rfl (lv_at hl 0 rfl) ?_
          refine q_get (v := .ref (E.2.2 99)) hF hU dX11_sum_37 0 11 0 1100 1199 rfl rfl rfl rfl inX11 (by decide) (by decide) w_436 rfl rfl ?_
          refine lv_iload_n hF.1 hF.2.1 dX11_sum_40 rfl (lv_at hl 2 rfl) ?_
          have hM9 := g_X0_hasBuyer l E A u y hI
          have hR9 := q_runV (l := l) (e := e0) (below := bl0) (meth := me0) (R := qR 8 0 0) (cells := 0) (slots := 0) (st0 := [.int y, .ref (E.2.2 99)]) (rest := []) hF hU hS hA 1 1 0 99 rfl rfl rfl hM9 w_568 w_569 w_570 w_100 w_571 (by decide +kernel) ⟨Nat.le_of_ble_eq_true rfl, Nat.le_of_ble_eq_true rfl⟩ dX11_sum_41 rfl hl.1 rfl (Nat.le_of_ble_eq_true rfl) ⟨Nat.le_of_ble_eq_true rfl, Nat.le_of_ble_eq_true rfl⟩
          refine q_calli hR9 hU.2.2.2 hS (fun r_33 u_31 H locs hw_32 hU hS => ?_)
          obtain ⟨hw_32_e, hw_32⟩ := hw_32
          rw [hw_32_e] at hU
          have hw_32 : (r_33 = 1 ∧ (0 ≤ y ∧ y < u.1 9)) ∨ (r_33 = 0 ∧ (¬ (0 ≤ y ∧ y < u.1 9))) := hw_32
          rcases hw_32 with ⟨rfl, b41_34⟩ | ⟨rfl, b41_34⟩
          · refine lv_if_eq (tgt := 56) hF.1 hF.2.1 dX11_sum_44 (by decide) (fun h9 => absurd h9 (by decide)) (fun _ => ?_)
            refine lv_aload_n hF.1 hF.2.1 dX11_sum_47 rfl (lv_at hl 0 rfl) ?_
            refine lv_iload_n hF.1 hF.2.1 dX11_sum_48 rfl (lv_at hl 2 rfl) ?_
            refine lv_iload_n hF.1 hF.2.1 dX11_sum_49 rfl (lv_at hl 3 rfl) ?_
            refine lv_iload hF.1 hF.2.1 dX11_sum_50 (lv_at hl 4 rfl) ?_
            have hM9 := g_X11_feesOf l E A u y z w hI (g_X11_sum_v1 u x y z w hz8 hz9 hz10 hz12 b3_4 c12_5 b16_26 c33_30 b41_34)
            have hR9 := q_runV (l := l) (e := e0) (below := bl0) (meth := me0) (R := qR 8 0 0) (cells := 0) (slots := 0) (st0 := [.int w, .int z, .int y, .ref (E.2.2 1199)]) (rest := []) hF hU hS hA 3 0 11 1199 rfl rfl rfl hM9 w_1177 w_1179 w_43 w_99 w_1180 (by decide +kernel) ⟨Nat.le_of_ble_eq_true rfl, Nat.le_of_ble_eq_true rfl⟩ dX11_sum_52 rfl hl.1 rfl (Nat.le_of_ble_eq_true rfl) ⟨Nat.le_of_ble_eq_true rfl, Nat.le_of_ble_eq_true rfl⟩
            refine q_calli hR9 hU.2.2.2 hS (fun r_37 u_35 H locs hw_36 hU hS => ?_)
            obtain ⟨⟨hw_36_f, hI⟩, hw_36⟩ := hw_36
            have hfo := hfr
            have hfr : qFc [900, 901, 902, 908, 909, 604, 605, 606, 607, 608, 609] [905, 906, 907, 601, 602, 603] [] [904] u u_35 := hfr.trans (hw_36_f.mono (by decide) (by decide) (by decide) (by decide))
            have e_38 : u_35.1 604 = (u.1 604) := (hw_36_f.1 604 (by decide)).trans rfl
            have e_39 : u_35.1 605 = (u.1 605) := (hw_36_f.1 605 (by decide)).trans rfl
            have e_40 : u_35.1 606 = (u.1 606) := (hw_36_f.1 606 (by decide)).trans rfl
            have e_41 : u_35.1 607 = (u.1 607) := (hw_36_f.1 607 (by decide)).trans rfl
            have e_42 : u_35.1 608 = (u.1 608) := (hw_36_f.1 608 (by decide)).trans rfl
            have e_43 : u_35.1 609 = (u.1 609) := (hw_36_f.1 609 (by decide)).trans rfl
            have e_44 : u_35.2.1 601 = (u.2.1 601) := (hw_36_f.2.1 601 (by decide)).trans rfl
            have e_45 : u_35.2.1 602 = (u.2.1 602) := (hw_36_f.2.1 602 (by decide)).trans rfl
            have e_46 : u_35.2.1 603 = (u.2.1 603) := (hw_36_f.2.1 603 (by decide)).trans rfl
            exact q_iret hF hr rfl hlocks hU hS dX11_sum_55 ⟨⟨hfr, hI⟩, trivial⟩
          · refine lv_if_eq (tgt := 56) hF.1 hF.2.1 dX11_sum_44 (by decide) (fun _ => ?_) (fun h9 => absurd (by decide) h9)
            refine lv_iconst (v := (-1)) hF.1 hF.2.1 dX11_sum_56 (by decide) ?_
            exact q_iret hF hr rfl hlocks hU hS dX11_sum_57 ⟨⟨hfr, hI⟩, trivial⟩
  · refine lv_if_ne (tgt := 11) hF.1 hF.2.1 dX11_sum_6 (by decide) (fun h9 => absurd (by decide) h9) (fun _ => ?_)
    refine lv_iconst (v := (-1)) hF.1 hF.2.1 dX11_sum_9 (by decide) ?_
    exact q_iret hF hr rfl hlocks hU hS dX11_sum_10 ⟨⟨hfr, hI⟩, trivial⟩
set_option maxHeartbeats 1000000 in
set_option maxRecDepth 100000 in
theorem g_X11_count (l : Launch) (E : qE) (A : Nat → Prop) (u : qS) (x : Int32) (hI : IC E u) : Met l yX11_count (uws yX11_count cX11_count 2 (some .int)) (qR 8 0 0) (qPc E A 0 u [.ref (E.2.2 1199), .int x]) (qQi E A 0 (fun r u1 => (qFc [900, 901, 902, 908, 909] [905, 906, 907] [] [904] u u1 ∧ IC E u1) ∧ (True))) 0 0 A := by
  refine q_met (own := RX11) (f := 8) [.ref (E.2.2 1199), .int x] (by decide) (Nat.le_of_ble_eq_true rfl) rfl ?_
  intro p0 e0 s0 m0 bl0 me0 cd0 ls hF hr hlocks hU hS hA hl
  have hl : lv_has ls 2 [(0, .ref (E.2.2 1199)), (1, .int x)] := hl
  have hz8 : 0 ≤ u.1 8 ∧ u.1 8 ≤ 20 := hI.1.s8
  have hz9 : 0 ≤ u.1 9 ∧ u.1 9 ≤ 8 := hI.1.s9
  have hz10 : 0 ≤ u.1 10 ∧ u.1 10 ≤ 120 := hI.1.s10
  have hz12 : 0 ≤ u.1 12 ∧ u.1 12 ≤ 16 := hI.1.s12
  have hfr : qFc [900, 901, 902, 908, 909] [905, 906, 907] [] [904] u u := qFc.rf
  refine lv_iload_n hF.1 hF.2.1 dX11_count_0 rfl (lv_at hl 1 rfl) ?_
  rcases q_sw0_11 (x) with sw_1 | sw_1 | sw_1 | sw_1 | sw_1 | sw_1 | sw_1 | sw_1 | sw_1 | sw_1 | sw_1 | sw_1 | sw_1
  · refine lv_tableIn (off := 63) (tgt := 64) hF.1 hF.2.1 dX11_count_1 (by rw [sw_1]; decide) (by rw [sw_1]; decide) (by rw [sw_1]; rfl) (by decide) ?_
    refine lv_aload_n hF.1 hF.2.1 dX11_count_64 rfl (lv_at hl 0 rfl) ?_
    refine q_get (v := .ref (E.2.2 99)) hF hU dX11_count_65 0 11 0 1100 1199 rfl rfl rfl rfl inX11 (by decide) (by decide) w_436 rfl rfl ?_
    refine q_get (v := .int (u.1 13)) hF hU dX11_count_68 1 0 13 13 99 rfl rfl rfl rfl inX0 (by decide) (by decide) w_178 rfl rfl ?_
    exact q_iret hF hr rfl hlocks hU hS dX11_count_71 ⟨⟨hfr, hI⟩, trivial⟩
  · refine lv_tableIn (off := 71) (tgt := 72) hF.1 hF.2.1 dX11_count_1 (by rw [sw_1]; decide) (by rw [sw_1]; decide) (by rw [sw_1]; rfl) (by decide) ?_
    refine lv_aload_n hF.1 hF.2.1 dX11_count_72 rfl (lv_at hl 0 rfl) ?_
    refine q_get (v := .ref (E.2.2 99)) hF hU dX11_count_73 0 11 0 1100 1199 rfl rfl rfl rfl inX11 (by decide) (by decide) w_436 rfl rfl ?_
    have hM9 := g_X0_seenDay l E A u 
    have hR9 := q_runV (l := l) (e := e0) (below := bl0) (meth := me0) (R := qR 8 0 0) (cells := 0) (slots := 0) (st0 := [.ref (E.2.2 99)]) (rest := []) hF hU hS hA 0 1 0 99 rfl rfl rfl hM9 w_1186 w_484 w_485 w_100 w_486 (by decide +kernel) ⟨Nat.le_of_ble_eq_true rfl, Nat.le_of_ble_eq_true rfl⟩ dX11_count_76 rfl hl.1 rfl (Nat.le_of_ble_eq_true rfl) ⟨Nat.le_of_ble_eq_true rfl, Nat.le_of_ble_eq_true rfl⟩
    refine q_calli hR9 hU.2.2.2 hS (fun r_4 u_2 H locs hw_3 hU hS => ?_)
    obtain ⟨hw_3_e, hw_3⟩ := hw_3
    rw [hw_3_e] at hU
    have hw_3 : r_4 = c_sd u := hw_3
    exact q_iret hF hr rfl hlocks hU hS dX11_count_79 ⟨⟨hfr, hI⟩, trivial⟩
  · refine lv_tableIn (off := 79) (tgt := 80) hF.1 hF.2.1 dX11_count_1 (by rw [sw_1]; decide) (by rw [sw_1]; decide) (by rw [sw_1]; rfl) (by decide) ?_
    refine lv_aload_n hF.1 hF.2.1 dX11_count_80 rfl (lv_at hl 0 rfl) ?_
    refine q_get (v := .ref (E.2.2 99)) hF hU dX11_count_81 0 11 0 1100 1199 rfl rfl rfl rfl inX11 (by decide) (by decide) w_436 rfl rfl ?_
    refine q_get (v := .int (u.1 8)) hF hU dX11_count_84 1 0 8 8 99 rfl rfl rfl rfl inX0 (by decide) (by decide) w_162 rfl rfl ?_
    exact q_iret hF hr rfl hlocks hU hS dX11_count_87 ⟨⟨hfr, hI⟩, trivial⟩
  · refine lv_tableIn (off := 87) (tgt := 88) hF.1 hF.2.1 dX11_count_1 (by rw [sw_1]; decide) (by rw [sw_1]; decide) (by rw [sw_1]; rfl) (by decide) ?_
    refine lv_aload_n hF.1 hF.2.1 dX11_count_88 rfl (lv_at hl 0 rfl) ?_
    refine q_get (v := .ref (E.2.2 99)) hF hU dX11_count_89 0 11 0 1100 1199 rfl rfl rfl rfl inX11 (by decide) (by decide) w_436 rfl rfl ?_
    refine q_get (v := .int (u.1 9)) hF hU dX11_count_92 1 0 9 9 99 rfl rfl rfl rfl inX0 (by decide) (by decide) w_167 rfl rfl ?_
    exact q_iret hF hr rfl hlocks hU hS dX11_count_95 ⟨⟨hfr, hI⟩, trivial⟩
  · refine lv_tableIn (off := 95) (tgt := 96) hF.1 hF.2.1 dX11_count_1 (by rw [sw_1]; decide) (by rw [sw_1]; decide) (by rw [sw_1]; rfl) (by decide) ?_
    refine lv_aload_n hF.1 hF.2.1 dX11_count_96 rfl (lv_at hl 0 rfl) ?_
    refine q_get (v := .ref (E.2.2 99)) hF hU dX11_count_97 0 11 0 1100 1199 rfl rfl rfl rfl inX11 (by decide) (by decide) w_436 rfl rfl ?_
    refine q_get (v := .int (u.1 10)) hF hU dX11_count_100 1 0 10 10 99 rfl rfl rfl rfl inX0 (by decide) (by decide) w_172 rfl rfl ?_
    exact q_iret hF hr rfl hlocks hU hS dX11_count_103 ⟨⟨hfr, hI⟩, trivial⟩
  · refine lv_tableIn (off := 103) (tgt := 104) hF.1 hF.2.1 dX11_count_1 (by rw [sw_1]; decide) (by rw [sw_1]; decide) (by rw [sw_1]; rfl) (by decide) ?_
    refine lv_aload_n hF.1 hF.2.1 dX11_count_104 rfl (lv_at hl 0 rfl) ?_
    refine q_get (v := .ref (E.2.2 99)) hF hU dX11_count_105 0 11 0 1100 1199 rfl rfl rfl rfl inX11 (by decide) (by decide) w_436 rfl rfl ?_
    have hM9 := g_X0_knownVisits l E A u  hI
    have hR9 := q_runV (l := l) (e := e0) (below := bl0) (meth := me0) (R := qR 8 0 0) (cells := 0) (slots := 0) (st0 := [.ref (E.2.2 99)]) (rest := []) hF hU hS hA 0 1 0 99 rfl rfl rfl hM9 w_1175 w_903 w_904 w_100 w_905 (by decide +kernel) ⟨Nat.le_of_ble_eq_true rfl, Nat.le_of_ble_eq_true rfl⟩ dX11_count_108 rfl hl.1 rfl (Nat.le_of_ble_eq_true rfl) ⟨Nat.le_of_ble_eq_true rfl, Nat.le_of_ble_eq_true rfl⟩
    refine q_calli hR9 hU.2.2.2 hS (fun r_7 u_5 H locs hw_6 hU hS => ?_)
    obtain ⟨hw_6_e, hw_6⟩ := hw_6
    rw [hw_6_e] at hU
    have hw_6 : 0 ≤ r_7 ∧ r_7 ≤ u.1 10 := hw_6
    exact q_iret hF hr rfl hlocks hU hS dX11_count_111 ⟨⟨hfr, hI⟩, trivial⟩
  · refine lv_tableIn (off := 135) (tgt := 136) hF.1 hF.2.1 dX11_count_1 (by rw [sw_1]; decide) (by rw [sw_1]; decide) (by rw [sw_1]; rfl) (by decide) ?_
    refine lv_aload_n hF.1 hF.2.1 dX11_count_136 rfl (lv_at hl 0 rfl) ?_
    refine lv_iload_n hF.1 hF.2.1 dX11_count_137 rfl (lv_at hl 1 rfl) ?_
    have hM9 := g_X11_countTruth l E A u x hI
    have hR9 := q_runV (l := l) (e := e0) (below := bl0) (meth := me0) (R := qR 8 0 0) (cells := 0) (slots := 0) (st0 := [.int x, .ref (E.2.2 1199)]) (rest := []) hF hU hS hA 1 0 11 1199 rfl rfl rfl hM9 w_1187 w_1189 w_44 w_99 w_1190 (by decide +kernel) ⟨Nat.le_of_ble_eq_true rfl, Nat.le_of_ble_eq_true rfl⟩ dX11_count_138 rfl hl.1 rfl (Nat.le_of_ble_eq_true rfl) ⟨Nat.le_of_ble_eq_true rfl, Nat.le_of_ble_eq_true rfl⟩
    refine q_calli hR9 hU.2.2.2 hS (fun r_10 u_8 H locs hw_9 hU hS => ?_)
    obtain ⟨⟨hw_9_f, hI⟩, hw_9⟩ := hw_9
    have hfo := hfr
    have hfr : qFc [900, 901, 902, 908, 909] [905, 906, 907] [] [904] u u_8 := hfr.trans (hw_9_f.mono (by decide) (by decide) (by decide) (by decide))
    exact q_iret hF hr rfl hlocks hU hS dX11_count_141 ⟨⟨hfr, hI⟩, trivial⟩
  · refine lv_tableIn (off := 111) (tgt := 112) hF.1 hF.2.1 dX11_count_1 (by rw [sw_1]; decide) (by rw [sw_1]; decide) (by rw [sw_1]; rfl) (by decide) ?_
    refine lv_aload_n hF.1 hF.2.1 dX11_count_112 rfl (lv_at hl 0 rfl) ?_
    refine q_get (v := .ref (E.2.2 99)) hF hU dX11_count_113 0 11 0 1100 1199 rfl rfl rfl rfl inX11 (by decide) (by decide) w_436 rfl rfl ?_
    refine q_get (v := .int (u.1 11)) hF hU dX11_count_116 1 0 11 11 99 rfl rfl rfl rfl inX0 (by decide) (by decide) w_174 rfl rfl ?_
    exact q_iret hF hr rfl hlocks hU hS dX11_count_119 ⟨⟨hfr, hI⟩, trivial⟩
  · refine lv_tableIn (off := 119) (tgt := 120) hF.1 hF.2.1 dX11_count_1 (by rw [sw_1]; decide) (by rw [sw_1]; decide) (by rw [sw_1]; rfl) (by decide) ?_
    refine lv_aload_n hF.1 hF.2.1 dX11_count_120 rfl (lv_at hl 0 rfl) ?_
    refine q_get (v := .ref (E.2.2 99)) hF hU dX11_count_121 0 11 0 1100 1199 rfl rfl rfl rfl inX11 (by decide) (by decide) w_436 rfl rfl ?_
    refine q_get (v := .int (u.1 12)) hF hU dX11_count_124 1 0 12 12 99 rfl rfl rfl rfl inX0 (by decide) (by decide) w_176 rfl rfl ?_
    exact q_iret hF hr rfl hlocks hU hS dX11_count_127 ⟨⟨hfr, hI⟩, trivial⟩
  · refine lv_tableIn (off := 127) (tgt := 128) hF.1 hF.2.1 dX11_count_1 (by rw [sw_1]; decide) (by rw [sw_1]; decide) (by rw [sw_1]; rfl) (by decide) ?_
    refine lv_aload_n hF.1 hF.2.1 dX11_count_128 rfl (lv_at hl 0 rfl) ?_
    refine q_get (v := .ref (E.2.2 899)) hF hU dX11_count_129 0 11 1 1101 1199 rfl rfl rfl rfl inX11 (by decide) (by decide) w_437 rfl rfl ?_
    refine q_get (v := .int (u.1 801)) hF hU dX11_count_132 2 8 1 801 899 rfl rfl rfl rfl inX8 (by decide) (by decide) w_240 rfl rfl ?_
    exact q_iret hF hr rfl hlocks hU hS dX11_count_135 ⟨⟨hfr, hI⟩, trivial⟩
  · refine lv_tableIn (off := 135) (tgt := 136) hF.1 hF.2.1 dX11_count_1 (by rw [sw_1]; decide) (by rw [sw_1]; decide) (by rw [sw_1]; rfl) (by decide) ?_
    refine lv_aload_n hF.1 hF.2.1 dX11_count_136 rfl (lv_at hl 0 rfl) ?_
    refine lv_iload_n hF.1 hF.2.1 dX11_count_137 rfl (lv_at hl 1 rfl) ?_
    have hM9 := g_X11_countTruth l E A u x hI
    have hR9 := q_runV (l := l) (e := e0) (below := bl0) (meth := me0) (R := qR 8 0 0) (cells := 0) (slots := 0) (st0 := [.int x, .ref (E.2.2 1199)]) (rest := []) hF hU hS hA 1 0 11 1199 rfl rfl rfl hM9 w_1187 w_1189 w_44 w_99 w_1190 (by decide +kernel) ⟨Nat.le_of_ble_eq_true rfl, Nat.le_of_ble_eq_true rfl⟩ dX11_count_138 rfl hl.1 rfl (Nat.le_of_ble_eq_true rfl) ⟨Nat.le_of_ble_eq_true rfl, Nat.le_of_ble_eq_true rfl⟩
    refine q_calli hR9 hU.2.2.2 hS (fun r_13 u_11 H locs hw_12 hU hS => ?_)
    obtain ⟨⟨hw_12_f, hI⟩, hw_12⟩ := hw_12
    have hfo := hfr
    have hfr : qFc [900, 901, 902, 908, 909] [905, 906, 907] [] [904] u u_11 := hfr.trans (hw_12_f.mono (by decide) (by decide) (by decide) (by decide))
    exact q_iret hF hr rfl hlocks hU hS dX11_count_141 ⟨⟨hfr, hI⟩, trivial⟩
  · refine lv_tableIn (off := 135) (tgt := 136) hF.1 hF.2.1 dX11_count_1 (by rw [sw_1]; decide) (by rw [sw_1]; decide) (by rw [sw_1]; rfl) (by decide) ?_
    refine lv_aload_n hF.1 hF.2.1 dX11_count_136 rfl (lv_at hl 0 rfl) ?_
    refine lv_iload_n hF.1 hF.2.1 dX11_count_137 rfl (lv_at hl 1 rfl) ?_
    have hM9 := g_X11_countTruth l E A u x hI
    have hR9 := q_runV (l := l) (e := e0) (below := bl0) (meth := me0) (R := qR 8 0 0) (cells := 0) (slots := 0) (st0 := [.int x, .ref (E.2.2 1199)]) (rest := []) hF hU hS hA 1 0 11 1199 rfl rfl rfl hM9 w_1187 w_1189 w_44 w_99 w_1190 (by decide +kernel) ⟨Nat.le_of_ble_eq_true rfl, Nat.le_of_ble_eq_true rfl⟩ dX11_count_138 rfl hl.1 rfl (Nat.le_of_ble_eq_true rfl) ⟨Nat.le_of_ble_eq_true rfl, Nat.le_of_ble_eq_true rfl⟩
    refine q_calli hR9 hU.2.2.2 hS (fun r_16 u_14 H locs hw_15 hU hS => ?_)
    obtain ⟨⟨hw_15_f, hI⟩, hw_15⟩ := hw_15
    have hfo := hfr
    have hfr : qFc [900, 901, 902, 908, 909] [905, 906, 907] [] [904] u u_14 := hfr.trans (hw_15_f.mono (by decide) (by decide) (by decide) (by decide))
    exact q_iret hF hr rfl hlocks hU hS dX11_count_141 ⟨⟨hfr, hI⟩, trivial⟩
  · refine lv_tableOut (tgt := 142) hF.1 hF.2.1 dX11_count_1 sw_1 (by decide) ?_
    refine lv_iconst (v := (-1)) hF.1 hF.2.1 dX11_count_142 (by decide) ?_
    exact q_iret hF hr rfl hlocks hU hS dX11_count_143 ⟨⟨hfr, hI⟩, trivial⟩
set_option maxRecDepth 100000 in
theorem g_X11_look_v0 (u : qS) (x : Int32) (y : Int32) (hz8 : 0 ≤ u.1 8 ∧ u.1 8 ≤ 20) (hz9 : 0 ≤ u.1 9 ∧ u.1 9 ≤ 8) (hz10 : 0 ≤ u.1 10 ∧ u.1 10 ≤ 120) (hz12 : 0 ≤ u.1 12 ∧ u.1 12 ≤ 16) (b5_4 : 0 ≤ x ∧ x < u.1 10) (b14_8 : (0 : Int32) ≤ y ∧ y ≤ (5 : Int32)) : 0 ≤ x ∧ x < (u.1 10) := by
  first | omega | ((try simp only [g_m1, Int32.lt_iff_toInt_lt, Int32.le_iff_toInt_le, ← Int32.toInt_inj, Int32.reduceToInt] at *); omega) | ((try simp only [g_m1, Int32.lt_iff_toInt_lt, Int32.le_iff_toInt_le, ← Int32.toInt_inj, Int32.reduceToInt] at *); omega) | ((try simp only [g_m1, Int32.lt_iff_toInt_lt, Int32.le_iff_toInt_le, ← Int32.toInt_inj, Int32.toInt_add, Int32.toInt_sub, Int32.toInt_mul, Int32.toInt_neg, Int32.reduceToInt, g_bm, g_bm'] at *); omega) | (have qr1 := g_rng x; have qr2 := g_rng y; (try simp only [g_m1, Int32.lt_iff_toInt_lt, Int32.le_iff_toInt_le, ← Int32.toInt_inj, Int32.toInt_add, Int32.toInt_sub, Int32.toInt_mul, Int32.toInt_neg, Int32.reduceToInt, g_bm, g_bm'] at *); omega) | (simp only [g_m1, Int32.lt_iff_toInt_lt, Int32.le_iff_toInt_le, ← Int32.toInt_inj, Int32.toInt_add, Int32.toInt_sub, Int32.toInt_mul, Int32.toInt_neg, Int32.reduceToInt, g_bm, g_bm'] at *; simp at *; omega) | (simp_all; done)
set_option maxRecDepth 100000 in
theorem g_X11_look_v1 (u : qS) (x : Int32) (y : Int32) (hz8 : 0 ≤ u.1 8 ∧ u.1 8 ≤ 20) (hz9 : 0 ≤ u.1 9 ∧ u.1 9 ≤ 8) (hz10 : 0 ≤ u.1 10 ∧ u.1 10 ≤ 120) (hz12 : 0 ≤ u.1 12 ∧ u.1 12 ≤ 16) (b5_4 : 0 ≤ x ∧ x < u.1 10) (b14_8 : (0 : Int32) ≤ y ∧ y ≤ (5 : Int32)) : vp_in (x) 120 := by
  refine g_in ?_ ?_ <;> ((try simp only [g_m1, Int32.lt_iff_toInt_lt, Int32.le_iff_toInt_le, ← Int32.toInt_inj, Int32.toInt_add, Int32.toInt_sub, Int32.toInt_mul, Int32.toInt_neg, Int32.reduceToInt, g_bm, g_bm'] at *); omega)
set_option maxHeartbeats 1000000 in
set_option maxRecDepth 100000 in
theorem g_X11_look (l : Launch) (hst : l.stackTraces = false) (E : qE) (A : Nat → Prop) (u : qS) (x : Int32) (y : Int32) (hI : IC E u) : vx_Met l yX11_look (uws yX11_look cX11_look 4 (some .int)) (qR 12 1 6) (qPx E A 0 u [.ref (E.2.2 1199), .int x, .int y]) (qQi E A 0 (fun r u1 => (qFc [900, 901, 902, 908, 909, 604, 605, 606, 607, 608, 609] [905, 906, 907, 601, 602, 603] [] [904] u u1 ∧ IC E u1) ∧ (True))) (qXC E A 0 (fun u1 => (qFc [900, 901, 902, 908, 909, 604, 605, 606, 607, 608, 609] [905, 906, 907, 601, 602, 603] [] [904] u u1 ∧ IC E u1))) 1 6 A := by
  refine q_metX (own := RX11) (f := 12) [.ref (E.2.2 1199), .int x, .int y] (by decide) (Nat.le_of_ble_eq_true rfl) rfl ?_
  intro p0 e0 s0 m0 bl0 me0 cd0 ls hF hr hlocks hex hXs hU hS hA hl
  have hl : lv_has ls 4 [(0, .ref (E.2.2 1199)), (1, .int x), (2, .int y)] := hl
  have hz8 : 0 ≤ u.1 8 ∧ u.1 8 ≤ 20 := hI.1.s8
  have hz9 : 0 ≤ u.1 9 ∧ u.1 9 ≤ 8 := hI.1.s9
  have hz10 : 0 ≤ u.1 10 ∧ u.1 10 ≤ 120 := hI.1.s10
  have hz12 : 0 ≤ u.1 12 ∧ u.1 12 ≤ 16 := hI.1.s12
  have hfr : qFc [900, 901, 902, 908, 909, 604, 605, 606, 607, 608, 609] [905, 906, 907, 601, 602, 603] [] [904] u u := qFc.rf
  refine lv_aload_n hF.1 hF.2.1 dX11_look_0 rfl (lv_at hl 0 rfl) ?_
  refine q_get (v := .ref (E.2.2 99)) hF hU dX11_look_1 0 11 0 1100 1199 rfl rfl rfl rfl inX11 (by decide) (by decide) w_436 rfl rfl ?_
  refine lv_iload_n hF.1 hF.2.1 dX11_look_4 rfl (lv_at hl 1 rfl) ?_
  have hM9 := g_X0_isKnown l E A u x hI
  have hR9 := q_runV (l := l) (e := e0) (below := bl0) (meth := me0) (R := qR 12 1 6) (cells := 0) (slots := 0) (st0 := [.int x, .ref (E.2.2 99)]) (rest := []) hF hU hS hA 1 1 0 99 rfl rfl rfl hM9 w_1199 w_1200 w_1201 w_100 w_1202 (by decide +kernel) ⟨Nat.le_of_ble_eq_true rfl, Nat.le_of_ble_eq_true rfl⟩ dX11_look_5 rfl hl.1 rfl (Nat.le_of_ble_eq_true rfl) ⟨Nat.le_of_ble_eq_true rfl, Nat.le_of_ble_eq_true rfl⟩
  refine q_calli hR9 hU.2.2.2 hS (fun r_3 u_1 H locs hw_2 hU hS => ?_)
  obtain ⟨hw_2_e, hw_2⟩ := hw_2
  rw [hw_2_e] at hU
  have hw_2 : (r_3 = 1 ∧ (0 ≤ x ∧ x < u.1 10)) ∨ (r_3 = 0 ∧ (True)) := hw_2
  rcases hw_2 with ⟨rfl, b5_4⟩ | ⟨rfl, b5_4⟩
  · refine lv_if_eq (tgt := 20) hF.1 hF.2.1 dX11_look_8 (by decide) (fun h9 => absurd h9 (by decide)) (fun _ => ?_)
    refine lv_iload_n hF.1 hF.2.1 dX11_look_11 rfl (lv_at hl 2 rfl) ?_
    refine lv_iconst (v := 0) hF.1 hF.2.1 dX11_look_12 (by decide) ?_
    refine lv_iconst (v := 5) hF.1 hF.2.1 dX11_look_13 (by decide) ?_
    have hM9 := g_X11_isWithin l E A u y 0 5
    have hR9 := q_runS (l := l) (e := e0) (below := bl0) (meth := me0) (R := qR 12 1 6) (cells := 0) (slots := 0) (st0 := [.int 5, .int 0, .int y]) (rest := []) hF hU hS hA 3 hM9 w_468 w_469 w_99 w_470 (by decide +kernel) ⟨Nat.le_of_ble_eq_true rfl, Nat.le_of_ble_eq_true rfl⟩ dX11_look_14 rfl hl.1 rfl (Nat.le_of_ble_eq_true rfl) ⟨Nat.le_of_ble_eq_true rfl, Nat.le_of_ble_eq_true rfl⟩
    refine q_calli hR9 hU.2.2.2 hS (fun r_7 u_5 H locs hw_6 hU hS => ?_)
    obtain ⟨hw_6_e, hw_6⟩ := hw_6
    rw [hw_6_e] at hU
    have hw_6 : (r_7 = 1 ∧ ((0 : Int32) ≤ y ∧ y ≤ (5 : Int32))) ∨ (r_7 = 0 ∧ (¬ ((0 : Int32) ≤ y ∧ y ≤ (5 : Int32)))) := hw_6
    rcases hw_6 with ⟨rfl, b14_8⟩ | ⟨rfl, b14_8⟩
    · refine lv_if_ne (tgt := 30) hF.1 hF.2.1 dX11_look_17 (by decide) (fun _ => ?_) (fun h9 => absurd h9 (by decide))
      refine lv_aload_n hF.1 hF.2.1 dX11_look_30 rfl (lv_at hl 0 rfl) ?_
      refine q_get (v := .ref (E.2.2 99)) hF hU dX11_look_31 0 11 0 1100 1199 rfl rfl rfl rfl inX11 (by decide) (by decide) w_436 rfl rfl ?_
      refine q_get (v := .ref (E.2.2 2)) hF hU dX11_look_34 1 0 2 2 99 rfl rfl rfl rfl inX0 (by decide) (by decide) w_150 rfl rfl ?_
      refine lv_iload_n hF.1 hF.2.1 dX11_look_37 rfl (lv_at hl 1 rfl) ?_
      obtain ⟨a_9, ha_9_10_e, ha_9_10⟩ := hI.r2 x (g_X11_look_v0 u x y hz8 hz9 hz10 hz12 b5_4 b14_8)
      refine q_aald (v := .ref a_9) hF hU dX11_look_38 2 2 6 rfl rfl (by decide) rfl (g_X11_look_v1 u x y hz8 hz9 hz10 hz12 b5_4 b14_8) (by rw [ha_9_10_e]; rfl) ?_
      refine lv_astore_n (lv' := [(3, .ref a_9), (0, .ref (E.2.2 1199)), (1, .int x), (2, .int y)]) hF.1 hF.2.1 dX11_look_39 rfl hl (by decide) rfl (fun ls hl => ?_)
      refine lv_iload_n hF.1 hF.2.1 dX11_look_40 rfl (lv_at hl 3 rfl) ?_
      refine lv_iconst (v := 2) hF.1 hF.2.1 dX11_look_41 (by decide) ?_
      refine lv_icmp_ne (tgt := 50) hF.1 hF.2.1 dX11_look_42 (by decide) (fun c42_11 => ?_) (fun c42_11 => ?_)
      · refine lv_iload_n hF.1 hF.2.1 dX11_look_50 rfl (lv_at hl 3 rfl) ?_
        refine lv_iconst (v := 3) hF.1 hF.2.1 dX11_look_51 (by decide) ?_
        refine lv_icmp_eq (tgt := 60) hF.1 hF.2.1 dX11_look_52 (by decide) (fun c52_12 => ?_) (fun c52_12 => ?_)
        · refine lv_aload_n hF.1 hF.2.1 dX11_look_60 rfl (lv_at hl 1 rfl) ?_
          refine q_get (v := .ref (E.2.2 999)) hF hU dX11_look_61 0 11 3 1103 1199 rfl rfl rfl rfl inX11 (by decide) (by decide) w_439 rfl rfl ?_
          have hM9 := g_X9_refresh l E A u  hI
          have hR9 := q_runV (l := l) (e := e0) (below := bl0) (meth := me0) (R := qR 12 1 6) (cells := 0) (slots := 0) (st0 := [.ref (E.2.2 999)]) (rest := []) hF hU hS hA 0 4 9 999 rfl rfl rfl hM9 w_843 w_844 w_845 w_103 w_846 (by decide +kernel) ⟨Nat.le_of_ble_eq_true rfl, Nat.le_of_ble_eq_true rfl⟩ dX11_look_64 rfl hl.1 rfl (Nat.le_of_ble_eq_true rfl) ⟨Nat.le_of_ble_eq_true rfl, Nat.le_of_ble_eq_true rfl⟩
          refine q_callv hR9 hU.2.2.2 hS (fun u_13 H locs hw_14 hU hS => ?_)
          obtain ⟨⟨hw_14_f, hI⟩, hw_14⟩ := hw_14
          have hfo := hfr
          have hfr : qFc [900, 901, 902, 908, 909, 604, 605, 606, 607, 608, 609] [905, 906, 907, 601, 602, 603] [] [904] u u_13 := hfr.trans (hw_14_f.mono (by decide) (by decide) (by decide) (by decide))
          have e_16 : u_13.1 604 = (u.1 604) := (hw_14_f.1 604 (by decide)).trans rfl
          have e_17 : u_13.1 605 = (u.1 605) := (hw_14_f.1 605 (by decide)).trans rfl
          have e_18 : u_13.1 606 = (u.1 606) := (hw_14_f.1 606 (by decide)).trans rfl
          have e_19 : u_13.1 607 = (u.1 607) := (hw_14_f.1 607 (by decide)).trans rfl
          have e_20 : u_13.1 608 = (u.1 608) := (hw_14_f.1 608 (by decide)).trans rfl
          have e_21 : u_13.1 609 = (u.1 609) := (hw_14_f.1 609 (by decide)).trans rfl
          have e_22 : u_13.2.1 601 = (u.2.1 601) := (hw_14_f.2.1 601 (by decide)).trans rfl
          have e_23 : u_13.2.1 602 = (u.2.1 602) := (hw_14_f.2.1 602 (by decide)).trans rfl
          have e_24 : u_13.2.1 603 = (u.2.1 603) := (hw_14_f.2.1 603 (by decide)).trans rfl
          have hr_25 : qRv u_13 a_9 := hw_14_f.v _ ha_9_10
          refine lv_iload_n hF.1 hF.2.1 dX11_look_67 rfl (lv_at hl 3 rfl) ?_
          refine lv_iconst (v := 3) hF.1 hF.2.1 dX11_look_68 (by decide) ?_
          refine lv_icmp_ne (tgt := 79) hF.1 hF.2.1 dX11_look_69 (by decide) (fun h9 => absurd (by first | exact c52_12 | exact Int32.not_lt.mp c52_12 | exact Int32.not_le.mp c52_12 | exact Int32.not_lt.mpr c52_12 | exact Int32.not_le.mpr c52_12) h9) (fun _ => ?_)
          refine lv_aload_n hF.1 hF.2.1 dX11_look_72 rfl (lv_at hl 0 rfl) ?_
          obtain ⟨k_26, fs_27, hd_29, hv_30, hv_30_2, hv_30_3, -⟩ := hI.vf ((hr_25).rf) 10 (by decide)
          refine q_getd (v := .int (qfd u_13.2.2.2.2 a_9 10)) hF hU dX11_look_73 k_26 10 10 hd_29 rfl inX10 (by decide) w_623 rfl hv_30 ?_
          refine lv_goto (tgt := 91) hF.1 hF.2.1 dX11_look_76 (by decide) ?_
          refine vx_ret ?_
          refine W.widen (k := 1) (n := 6) (by decide) (by decide) ?_
          exact q_iret hF hr rfl hlocks hU hS dX11_look_91 ⟨⟨hfr, hI⟩, trivial⟩
        · refine lv_iload_n hF.1 hF.2.1 dX11_look_55 rfl (lv_at hl 3 rfl) ?_
          refine lv_iconst (v := 4) hF.1 hF.2.1 dX11_look_56 (by decide) ?_
          refine lv_icmp_ne (tgt := 92) hF.1 hF.2.1 dX11_look_57 (by decide) (fun c57_31 => ?_) (fun c57_31 => ?_)
          · refine lv_aload_n hF.1 hF.2.1 dX11_look_92 rfl (lv_at hl 1 rfl) ?_
            refine q_get (v := .ref (E.2.2 699)) hF hU dX11_look_93 0 11 4 1104 1199 rfl rfl rfl rfl inX11 (by decide) (by decide) w_440 rfl rfl ?_
            have hM9 := g_X6_refresh l E A u  hI
            have hR9 := q_runV (l := l) (e := e0) (below := bl0) (meth := me0) (R := qR 12 1 6) (cells := 0) (slots := 0) (st0 := [.ref (E.2.2 699)]) (rest := []) hF hU hS hA 0 5 6 699 rfl rfl rfl hM9 w_1162 w_937 w_938 w_104 w_939 (by decide +kernel) ⟨Nat.le_of_ble_eq_true rfl, Nat.le_of_ble_eq_true rfl⟩ dX11_look_96 rfl hl.1 rfl (Nat.le_of_ble_eq_true rfl) ⟨Nat.le_of_ble_eq_true rfl, Nat.le_of_ble_eq_true rfl⟩
            refine q_callv hR9 hU.2.2.2 hS (fun u_32 H locs hw_33 hU hS => ?_)
            obtain ⟨⟨hw_33_f, hI⟩, hw_33⟩ := hw_33
            have hfo := hfr
            have hfr : qFc [900, 901, 902, 908, 909, 604, 605, 606, 607, 608, 609] [905, 906, 907, 601, 602, 603] [] [904] u u_32 := hfr.trans (hw_33_f.mono (by decide) (by decide) (by decide) (by decide))
            have e_35 : u_32.1 900 = (u.1 900) := (hw_33_f.1 900 (by decide)).trans rfl
            have e_36 : u_32.1 901 = (u.1 901) := (hw_33_f.1 901 (by decide)).trans rfl
            have e_37 : u_32.1 902 = (u.1 902) := (hw_33_f.1 902 (by decide)).trans rfl
            have e_38 : u_32.1 908 = (u.1 908) := (hw_33_f.1 908 (by decide)).trans rfl
            have e_39 : u_32.1 909 = (u.1 909) := (hw_33_f.1 909 (by decide)).trans rfl
            have e_40 : u_32.2.1 905 = (u.2.1 905) := (hw_33_f.2.1 905 (by decide)).trans rfl
            have e_41 : u_32.2.1 906 = (u.2.1 906) := (hw_33_f.2.1 906 (by decide)).trans rfl
            have e_42 : u_32.2.1 907 = (u.2.1 907) := (hw_33_f.2.1 907 (by decide)).trans rfl
            have hr_43 : qRv u_32 a_9 := hw_33_f.v _ ha_9_10
            refine lv_iload_n hF.1 hF.2.1 dX11_look_99 rfl (lv_at hl 3 rfl) ?_
            refine lv_if_ne (tgt := 110) hF.1 hF.2.1 dX11_look_100 (by decide) (fun c100_44 => ?_) (fun c100_44 => ?_)
            · refine lv_iload_n hF.1 hF.2.1 dX11_look_110 rfl (lv_at hl 3 rfl) ?_
              refine lv_iconst (v := 1) hF.1 hF.2.1 dX11_look_111 (by decide) ?_
              refine lv_icmp_ne (tgt := 122) hF.1 hF.2.1 dX11_look_112 (by decide) (fun c112_45 => ?_) (fun c112_45 => ?_)
              · refine lv_aload_n hF.1 hF.2.1 dX11_look_122 rfl (lv_at hl 0 rfl) ?_
                obtain ⟨k_46, fs_47, hd_49, hv_50, hv_50_2, hv_50_3, -⟩ := hI.vf ((hr_43).rf) 14 (by decide)
                refine q_getd (v := .int (qfd u_32.2.2.2.2 a_9 14)) hF hU dX11_look_123 k_46 10 14 hd_49 rfl inX10 (by decide) w_631 rfl hv_50 ?_
                refine vx_ret ?_
                refine W.widen (k := 1) (n := 6) (by decide) (by decide) ?_
                exact q_iret hF hr rfl hlocks hU hS dX11_look_126 ⟨⟨hfr, hI⟩, trivial⟩
              · refine lv_aload_n hF.1 hF.2.1 dX11_look_115 rfl (lv_at hl 0 rfl) ?_
                obtain ⟨k_51, fs_52, hd_54, hv_55, hv_55_2, hv_55_3, -⟩ := hI.vf ((hr_43).rf) 12 (by decide)
                refine q_getd (v := .int (qfd u_32.2.2.2.2 a_9 12)) hF hU dX11_look_116 k_51 10 12 hd_54 rfl inX10 (by decide) w_628 rfl hv_55 ?_
                refine lv_goto (tgt := 126) hF.1 hF.2.1 dX11_look_119 (by decide) ?_
                refine vx_ret ?_
                refine W.widen (k := 1) (n := 6) (by decide) (by decide) ?_
                exact q_iret hF hr rfl hlocks hU hS dX11_look_126 ⟨⟨hfr, hI⟩, trivial⟩
            · refine lv_aload_n hF.1 hF.2.1 dX11_look_103 rfl (lv_at hl 0 rfl) ?_
              obtain ⟨k_56, fs_57, hd_59, hv_60, hv_60_2, hv_60_3, -⟩ := hI.vf ((hr_43).rf) 11 (by decide)
              refine q_getd (v := .int (qfd u_32.2.2.2.2 a_9 11)) hF hU dX11_look_104 k_56 10 11 hd_59 rfl inX10 (by decide) w_626 rfl hv_60 ?_
              refine lv_goto (tgt := 126) hF.1 hF.2.1 dX11_look_107 (by decide) ?_
              refine vx_ret ?_
              refine W.widen (k := 1) (n := 6) (by decide) (by decide) ?_
              exact q_iret hF hr rfl hlocks hU hS dX11_look_126 ⟨⟨hfr, hI⟩, trivial⟩
          · refine lv_aload_n hF.1 hF.2.1 dX11_look_60 rfl (lv_at hl 1 rfl) ?_
            refine q_get (v := .ref (E.2.2 999)) hF hU dX11_look_61 0 11 3 1103 1199 rfl rfl rfl rfl inX11 (by decide) (by decide) w_439 rfl rfl ?_
            have hM9 := g_X9_refresh l E A u  hI
            have hR9 := q_runV (l := l) (e := e0) (below := bl0) (meth := me0) (R := qR 12 1 6) (cells := 0) (slots := 0) (st0 := [.ref (E.2.2 999)]) (rest := []) hF hU hS hA 0 4 9 999 rfl rfl rfl hM9 w_843 w_844 w_845 w_103 w_846 (by decide +kernel) ⟨Nat.le_of_ble_eq_true rfl, Nat.le_of_ble_eq_true rfl⟩ dX11_look_64 rfl hl.1 rfl (Nat.le_of_ble_eq_true rfl) ⟨Nat.le_of_ble_eq_true rfl, Nat.le_of_ble_eq_true rfl⟩
            refine q_callv hR9 hU.2.2.2 hS (fun u_61 H locs hw_62 hU hS => ?_)
            obtain ⟨⟨hw_62_f, hI⟩, hw_62⟩ := hw_62
            have hfo := hfr
            have hfr : qFc [900, 901, 902, 908, 909, 604, 605, 606, 607, 608, 609] [905, 906, 907, 601, 602, 603] [] [904] u u_61 := hfr.trans (hw_62_f.mono (by decide) (by decide) (by decide) (by decide))
            have e_64 : u_61.1 604 = (u.1 604) := (hw_62_f.1 604 (by decide)).trans rfl
            have e_65 : u_61.1 605 = (u.1 605) := (hw_62_f.1 605 (by decide)).trans rfl
            have e_66 : u_61.1 606 = (u.1 606) := (hw_62_f.1 606 (by decide)).trans rfl
            have e_67 : u_61.1 607 = (u.1 607) := (hw_62_f.1 607 (by decide)).trans rfl
            have e_68 : u_61.1 608 = (u.1 608) := (hw_62_f.1 608 (by decide)).trans rfl
            have e_69 : u_61.1 609 = (u.1 609) := (hw_62_f.1 609 (by decide)).trans rfl
            have e_70 : u_61.2.1 601 = (u.2.1 601) := (hw_62_f.2.1 601 (by decide)).trans rfl
            have e_71 : u_61.2.1 602 = (u.2.1 602) := (hw_62_f.2.1 602 (by decide)).trans rfl
            have e_72 : u_61.2.1 603 = (u.2.1 603) := (hw_62_f.2.1 603 (by decide)).trans rfl
            have hr_73 : qRv u_61 a_9 := hw_62_f.v _ ha_9_10
            refine lv_iload_n hF.1 hF.2.1 dX11_look_67 rfl (lv_at hl 3 rfl) ?_
            refine lv_iconst (v := 3) hF.1 hF.2.1 dX11_look_68 (by decide) ?_
            refine lv_icmp_ne (tgt := 79) hF.1 hF.2.1 dX11_look_69 (by decide) (fun _ => ?_) (fun h9 => absurd h9 (by first | exact c52_12 | exact Int32.not_lt.mp c52_12 | exact Int32.not_le.mp c52_12 | exact Int32.not_lt.mpr c52_12 | exact Int32.not_le.mpr c52_12))
            refine lv_aload_n hF.1 hF.2.1 dX11_look_79 rfl (lv_at hl 0 rfl) ?_
            have hM9 := g_X10_counts l E A u_61 a_9 hI ((hr_73).rf)
            obtain ⟨k_74, fs_75, hd_76⟩ := id ((hr_73).rf)
            have hR9 := q_runVd (l := l) (e := e0) (below := bl0) (meth := me0) (R := qR 12 1 6) (cells := 0) (slots := 0) (st0 := [.ref a_9]) (rest := []) hF hU hS hA 0 k_74 10 hd_76 rfl hM9 w_1176 w_908 w_909 w_110 w_910 (by decide +kernel) ⟨Nat.le_of_ble_eq_true rfl, Nat.le_of_ble_eq_true rfl⟩ dX11_look_80 rfl hl.1 rfl (Nat.le_of_ble_eq_true rfl) ⟨Nat.le_of_ble_eq_true rfl, Nat.le_of_ble_eq_true rfl⟩
            refine q_calli hR9 hU.2.2.2 hS (fun r_79 u_77 H locs hw_78 hU hS => ?_)
            obtain ⟨hw_78_e, hw_78⟩ := hw_78
            rw [hw_78_e] at hU
            rcases hw_78 with rfl | rfl
            · refine lv_if_eq (tgt := 90) hF.1 hF.2.1 dX11_look_83 (by decide) (fun h9 => absurd h9 (by decide)) (fun _ => ?_)
              refine lv_iconst (v := 1) hF.1 hF.2.1 dX11_look_86 (by decide) ?_
              refine lv_goto (tgt := 91) hF.1 hF.2.1 dX11_look_87 (by decide) ?_
              refine vx_ret ?_
              refine W.widen (k := 1) (n := 6) (by decide) (by decide) ?_
              exact q_iret hF hr rfl hlocks hU hS dX11_look_91 ⟨⟨hfr, hI⟩, trivial⟩
            · refine lv_if_eq (tgt := 90) hF.1 hF.2.1 dX11_look_83 (by decide) (fun _ => ?_) (fun h9 => absurd (by decide) h9)
              refine lv_iconst (v := 0) hF.1 hF.2.1 dX11_look_90 (by decide) ?_
              refine vx_ret ?_
              refine W.widen (k := 1) (n := 6) (by decide) (by decide) ?_
              exact q_iret hF hr rfl hlocks hU hS dX11_look_91 ⟨⟨hfr, hI⟩, trivial⟩
      · refine lv_aload_n hF.1 hF.2.1 dX11_look_45 rfl (lv_at hl 0 rfl) ?_
        obtain ⟨k_81, fs_82, hd_84, hv_85, hv_85_2, hv_85_3, -⟩ := hI.vf ((ha_9_10).rf) 9 (by decide)
        refine q_getd (v := .int (qfd u.2.2.2.2 a_9 9)) hF hU dX11_look_46 k_81 10 9 hd_84 rfl inX10 (by decide) w_620 rfl hv_85 ?_
        refine vx_ret ?_
        refine W.widen (k := 1) (n := 6) (by decide) (by decide) ?_
        exact q_iret hF hr rfl hlocks hU hS dX11_look_49 ⟨⟨hfr, hI⟩, trivial⟩
    · refine lv_if_ne (tgt := 30) hF.1 hF.2.1 dX11_look_17 (by decide) (fun h9 => absurd (by decide) h9) (fun _ => ?_)
      exact q_throw hF hst hex hlocks hU hS hXs hXs.s212 hl.1 dX11_look_20 dX11_look_23 dX11_look_24 dX11_look_26 dX11_look_29 (by decide) (Nat.le_of_ble_eq_true rfl) (Nat.le_of_ble_eq_true rfl) (Nat.le_of_ble_eq_true rfl) (⟨hfr, hI⟩)
  · refine lv_if_eq (tgt := 20) hF.1 hF.2.1 dX11_look_8 (by decide) (fun _ => ?_) (fun h9 => absurd (by decide) h9)
    exact q_throw hF hst hex hlocks hU hS hXs hXs.s212 hl.1 dX11_look_20 dX11_look_23 dX11_look_24 dX11_look_26 dX11_look_29 (by decide) (Nat.le_of_ble_eq_true rfl) (Nat.le_of_ble_eq_true rfl) (Nat.le_of_ble_eq_true rfl) (⟨hfr, hI⟩)
set_option maxRecDepth 100000 in
theorem g_X11_fair_v0 (u : qS) (x : Int32) (hz8 : 0 ≤ u.1 8 ∧ u.1 8 ≤ 20) (hz9 : 0 ≤ u.1 9 ∧ u.1 9 ≤ 8) (hz10 : 0 ≤ u.1 10 ∧ u.1 10 ≤ 120) (hz12 : 0 ≤ u.1 12 ∧ u.1 12 ≤ 16) (b5_4 : 0 ≤ x ∧ x < u.1 10) : 0 ≤ x ∧ x < (u.1 10) := by
  first | omega | ((try simp only [g_m1, Int32.lt_iff_toInt_lt, Int32.le_iff_toInt_le, ← Int32.toInt_inj, Int32.reduceToInt] at *); omega) | ((try simp only [g_m1, Int32.lt_iff_toInt_lt, Int32.le_iff_toInt_le, ← Int32.toInt_inj, Int32.reduceToInt] at *); omega) | ((try simp only [g_m1, Int32.lt_iff_toInt_lt, Int32.le_iff_toInt_le, ← Int32.toInt_inj, Int32.toInt_add, Int32.toInt_sub, Int32.toInt_mul, Int32.toInt_neg, Int32.reduceToInt, g_bm, g_bm'] at *); omega) | (have qr1 := g_rng x; (try simp only [g_m1, Int32.lt_iff_toInt_lt, Int32.le_iff_toInt_le, ← Int32.toInt_inj, Int32.toInt_add, Int32.toInt_sub, Int32.toInt_mul, Int32.toInt_neg, Int32.reduceToInt, g_bm, g_bm'] at *); omega) | (simp only [g_m1, Int32.lt_iff_toInt_lt, Int32.le_iff_toInt_le, ← Int32.toInt_inj, Int32.toInt_add, Int32.toInt_sub, Int32.toInt_mul, Int32.toInt_neg, Int32.reduceToInt, g_bm, g_bm'] at *; simp at *; omega) | (simp_all; done)
set_option maxRecDepth 100000 in
theorem g_X11_fair_v1 (u : qS) (x : Int32) (hz8 : 0 ≤ u.1 8 ∧ u.1 8 ≤ 20) (hz9 : 0 ≤ u.1 9 ∧ u.1 9 ≤ 8) (hz10 : 0 ≤ u.1 10 ∧ u.1 10 ≤ 120) (hz12 : 0 ≤ u.1 12 ∧ u.1 12 ≤ 16) (b5_4 : 0 ≤ x ∧ x < u.1 10) : vp_in (x) 120 := by
  refine g_in ?_ ?_ <;> ((try simp only [g_m1, Int32.lt_iff_toInt_lt, Int32.le_iff_toInt_le, ← Int32.toInt_inj, Int32.toInt_add, Int32.toInt_sub, Int32.toInt_mul, Int32.toInt_neg, Int32.reduceToInt, g_bm, g_bm'] at *); omega)
set_option maxHeartbeats 1000000 in
set_option maxRecDepth 100000 in
theorem g_X11_fair (l : Launch) (hst : l.stackTraces = false) (E : qE) (A : Nat → Prop) (u : qS) (x : Int32) (hI : IC E u) : vx_Met l yX11_fair (uws yX11_fair cX11_fair 2 (some .int)) (qR 12 1 6) (qPx E A 0 u [.ref (E.2.2 1199), .int x]) (qQi E A 0 (fun r u1 => (qFc [900, 901, 902, 908, 909, 604, 605, 606, 607, 608, 609, 311] [905, 906, 907, 601, 602, 603, 303, 304, 305] [] [904] u u1 ∧ IC E u1) ∧ (True))) (qXC E A 0 (fun u1 => (qFc [900, 901, 902, 908, 909, 604, 605, 606, 607, 608, 609, 311] [905, 906, 907, 601, 602, 603, 303, 304, 305] [] [904] u u1 ∧ IC E u1))) 1 6 A := by
  refine q_metX (own := RX11) (f := 12) [.ref (E.2.2 1199), .int x] (by decide) (Nat.le_of_ble_eq_true rfl) rfl ?_
  intro p0 e0 s0 m0 bl0 me0 cd0 ls hF hr hlocks hex hXs hU hS hA hl
  have hl : lv_has ls 2 [(0, .ref (E.2.2 1199)), (1, .int x)] := hl
  have hz8 : 0 ≤ u.1 8 ∧ u.1 8 ≤ 20 := hI.1.s8
  have hz9 : 0 ≤ u.1 9 ∧ u.1 9 ≤ 8 := hI.1.s9
  have hz10 : 0 ≤ u.1 10 ∧ u.1 10 ≤ 120 := hI.1.s10
  have hz12 : 0 ≤ u.1 12 ∧ u.1 12 ≤ 16 := hI.1.s12
  have hfr : qFc [900, 901, 902, 908, 909, 604, 605, 606, 607, 608, 609, 311] [905, 906, 907, 601, 602, 603, 303, 304, 305] [] [904] u u := qFc.rf
  refine lv_aload_n hF.1 hF.2.1 dX11_fair_0 rfl (lv_at hl 0 rfl) ?_
  refine q_get (v := .ref (E.2.2 99)) hF hU dX11_fair_1 0 11 0 1100 1199 rfl rfl rfl rfl inX11 (by decide) (by decide) w_436 rfl rfl ?_
  refine lv_iload_n hF.1 hF.2.1 dX11_fair_4 rfl (lv_at hl 1 rfl) ?_
  have hM9 := g_X0_isKnown l E A u x hI
  have hR9 := q_runV (l := l) (e := e0) (below := bl0) (meth := me0) (R := qR 12 1 6) (cells := 0) (slots := 0) (st0 := [.int x, .ref (E.2.2 99)]) (rest := []) hF hU hS hA 1 1 0 99 rfl rfl rfl hM9 w_1199 w_1200 w_1201 w_100 w_1202 (by decide +kernel) ⟨Nat.le_of_ble_eq_true rfl, Nat.le_of_ble_eq_true rfl⟩ dX11_fair_5 rfl hl.1 rfl (Nat.le_of_ble_eq_true rfl) ⟨Nat.le_of_ble_eq_true rfl, Nat.le_of_ble_eq_true rfl⟩
  refine q_calli hR9 hU.2.2.2 hS (fun r_3 u_1 H locs hw_2 hU hS => ?_)
  obtain ⟨hw_2_e, hw_2⟩ := hw_2
  rw [hw_2_e] at hU
  have hw_2 : (r_3 = 1 ∧ (0 ≤ x ∧ x < u.1 10)) ∨ (r_3 = 0 ∧ (True)) := hw_2
  rcases hw_2 with ⟨rfl, b5_4⟩ | ⟨rfl, b5_4⟩
  · refine lv_if_ne (tgt := 21) hF.1 hF.2.1 dX11_fair_8 (by decide) (fun _ => ?_) (fun h9 => absurd h9 (by decide))
    refine lv_aload_n hF.1 hF.2.1 dX11_fair_21 rfl (lv_at hl 0 rfl) ?_
    refine q_get (v := .ref (E.2.2 399)) hF hU dX11_fair_22 0 11 5 1105 1199 rfl rfl rfl rfl inX11 (by decide) (by decide) w_441 rfl rfl ?_
    have hM9 := g_X3_refresh l E A u  hI
    have hR9 := q_runV (l := l) (e := e0) (below := bl0) (meth := me0) (R := qR 12 1 6) (cells := 0) (slots := 0) (st0 := [.ref (E.2.2 399)]) (rest := []) hF hU hS hA 0 6 3 399 rfl rfl rfl hM9 w_931 w_932 w_933 w_105 w_934 (by decide +kernel) ⟨Nat.le_of_ble_eq_true rfl, Nat.le_of_ble_eq_true rfl⟩ dX11_fair_25 rfl hl.1 rfl (Nat.le_of_ble_eq_true rfl) ⟨Nat.le_of_ble_eq_true rfl, Nat.le_of_ble_eq_true rfl⟩
    refine q_callv hR9 hU.2.2.2 hS (fun u_5 H locs hw_6 hU hS => ?_)
    obtain ⟨⟨hw_6_f, hI⟩, hw_6⟩ := hw_6
    have hfo := hfr
    have hfr : qFc [900, 901, 902, 908, 909, 604, 605, 606, 607, 608, 609, 311] [905, 906, 907, 601, 602, 603, 303, 304, 305] [] [904] u u_5 := hfr.trans (hw_6_f.mono (by decide) (by decide) (by decide) (by decide))
    refine lv_aload_n hF.1 hF.2.1 dX11_fair_28 rfl (lv_at hl 0 rfl) ?_
    refine q_get (v := .ref (E.2.2 399)) hF hU dX11_fair_29 0 11 5 1105 1199 rfl rfl rfl rfl inX11 (by decide) (by decide) w_441 rfl rfl ?_
    refine lv_aload_n hF.1 hF.2.1 dX11_fair_32 rfl (lv_at hl 0 rfl) ?_
    refine q_get (v := .ref (E.2.2 99)) hF hU dX11_fair_33 0 11 0 1100 1199 rfl rfl rfl rfl inX11 (by decide) (by decide) w_436 rfl rfl ?_
    refine q_get (v := .ref (E.2.2 2)) hF hU dX11_fair_36 1 0 2 2 99 rfl rfl rfl rfl inX0 (by decide) (by decide) w_150 rfl rfl ?_
    refine lv_iload_n hF.1 hF.2.1 dX11_fair_39 rfl (lv_at hl 1 rfl) ?_
    obtain ⟨a_8, ha_8_9_e, ha_8_9⟩ := hI.r2 x (by rw [(hfr.1 10 (by decide))]; exact (g_X11_fair_v0 u x hz8 hz9 hz10 hz12 b5_4))
    refine q_aald (v := .ref a_8) hF hU dX11_fair_40 2 2 6 rfl rfl (by decide) rfl (g_X11_fair_v1 u x hz8 hz9 hz10 hz12 b5_4) (by rw [ha_8_9_e]; rfl) ?_
    have hM9 := g_X3_fairScore l E A u_5 a_8 hI ((ha_8_9).rf)
    have hR9 := q_runV (l := l) (e := e0) (below := bl0) (meth := me0) (R := qR 12 1 6) (cells := 0) (slots := 0) (st0 := [.ref a_8, .ref (E.2.2 399)]) (rest := []) hF hU hS hA 1 6 3 399 rfl rfl rfl hM9 w_1276 w_1026 w_1027 w_105 w_1028 (by decide +kernel) ⟨Nat.le_of_ble_eq_true rfl, Nat.le_of_ble_eq_true rfl⟩ dX11_fair_41 rfl hl.1 rfl (Nat.le_of_ble_eq_true rfl) ⟨Nat.le_of_ble_eq_true rfl, Nat.le_of_ble_eq_true rfl⟩
    refine q_calli hR9 hU.2.2.2 hS (fun r_12 u_10 H locs hw_11 hU hS => ?_)
    obtain ⟨hw_11_e, hw_11⟩ := hw_11
    rw [hw_11_e] at hU
    refine vx_ret ?_
    refine W.widen (k := 1) (n := 6) (by decide) (by decide) ?_
    exact q_iret hF hr rfl hlocks hU hS dX11_fair_44 ⟨⟨hfr, hI⟩, trivial⟩
  · refine lv_if_ne (tgt := 21) hF.1 hF.2.1 dX11_fair_8 (by decide) (fun h9 => absurd (by decide) h9) (fun _ => ?_)
    exact q_throw hF hst hex hlocks hU hS hXs hXs.s240 hl.1 dX11_fair_11 dX11_fair_14 dX11_fair_15 dX11_fair_17 dX11_fair_20 (by decide) (Nat.le_of_ble_eq_true rfl) (Nat.le_of_ble_eq_true rfl) (Nat.le_of_ble_eq_true rfl) (⟨hfr, hI⟩)
set_option maxRecDepth 100000 in
theorem g_X11_lean_v0 (u : qS) (x : Int32) (hz8 : 0 ≤ u.1 8 ∧ u.1 8 ≤ 20) (hz9 : 0 ≤ u.1 9 ∧ u.1 9 ≤ 8) (hz10 : 0 ≤ u.1 10 ∧ u.1 10 ≤ 120) (hz12 : 0 ≤ u.1 12 ∧ u.1 12 ≤ 16) (b5_4 : 0 ≤ x ∧ x < u.1 9) : 0 ≤ x ∧ x < (u.1 9 : Int32) := by
  first | omega | ((try simp only [g_m1, Int32.lt_iff_toInt_lt, Int32.le_iff_toInt_le, ← Int32.toInt_inj, Int32.reduceToInt] at *); omega) | ((try simp only [g_m1, Int32.lt_iff_toInt_lt, Int32.le_iff_toInt_le, ← Int32.toInt_inj, Int32.reduceToInt] at *); omega) | ((try simp only [g_m1, Int32.lt_iff_toInt_lt, Int32.le_iff_toInt_le, ← Int32.toInt_inj, Int32.toInt_add, Int32.toInt_sub, Int32.toInt_mul, Int32.toInt_neg, Int32.reduceToInt, g_bm, g_bm'] at *); omega) | (have qr1 := g_rng x; (try simp only [g_m1, Int32.lt_iff_toInt_lt, Int32.le_iff_toInt_le, ← Int32.toInt_inj, Int32.toInt_add, Int32.toInt_sub, Int32.toInt_mul, Int32.toInt_neg, Int32.reduceToInt, g_bm, g_bm'] at *); omega) | (simp only [g_m1, Int32.lt_iff_toInt_lt, Int32.le_iff_toInt_le, ← Int32.toInt_inj, Int32.toInt_add, Int32.toInt_sub, Int32.toInt_mul, Int32.toInt_neg, Int32.reduceToInt, g_bm, g_bm'] at *; simp at *; omega) | (simp_all; done)
set_option maxRecDepth 100000 in
theorem g_X11_lean_v1 (u : qS) (x : Int32) (hz8 : 0 ≤ u.1 8 ∧ u.1 8 ≤ 20) (hz9 : 0 ≤ u.1 9 ∧ u.1 9 ≤ 8) (hz10 : 0 ≤ u.1 10 ∧ u.1 10 ≤ 120) (hz12 : 0 ≤ u.1 12 ∧ u.1 12 ≤ 16) (b5_4 : 0 ≤ x ∧ x < u.1 9) : 0 ≤ x ∧ x < (u.1 9 : Int32) := by
  first | omega | ((try simp only [g_m1, Int32.lt_iff_toInt_lt, Int32.le_iff_toInt_le, ← Int32.toInt_inj, Int32.reduceToInt] at *); omega) | ((try simp only [g_m1, Int32.lt_iff_toInt_lt, Int32.le_iff_toInt_le, ← Int32.toInt_inj, Int32.reduceToInt] at *); omega) | ((try simp only [g_m1, Int32.lt_iff_toInt_lt, Int32.le_iff_toInt_le, ← Int32.toInt_inj, Int32.toInt_add, Int32.toInt_sub, Int32.toInt_mul, Int32.toInt_neg, Int32.reduceToInt, g_bm, g_bm'] at *); omega) | (have qr1 := g_rng x; (try simp only [g_m1, Int32.lt_iff_toInt_lt, Int32.le_iff_toInt_le, ← Int32.toInt_inj, Int32.toInt_add, Int32.toInt_sub, Int32.toInt_mul, Int32.toInt_neg, Int32.reduceToInt, g_bm, g_bm'] at *); omega) | (simp only [g_m1, Int32.lt_iff_toInt_lt, Int32.le_iff_toInt_le, ← Int32.toInt_inj, Int32.toInt_add, Int32.toInt_sub, Int32.toInt_mul, Int32.toInt_neg, Int32.reduceToInt, g_bm, g_bm'] at *; simp at *; omega) | (simp_all; done)
set_option maxHeartbeats 1000000 in
set_option maxRecDepth 100000 in
theorem g_X11_lean (l : Launch) (hst : l.stackTraces = false) (E : qE) (A : Nat → Prop) (u : qS) (x : Int32) (hI : IC E u) : vx_Met l yX11_lean (uws yX11_lean cX11_lean 2 (some .int)) (qR 12 1 6) (qPx E A 0 u [.ref (E.2.2 1199), .int x]) (qQi E A 0 (fun r u1 => (qFc [900, 901, 902, 908, 909, 604, 605, 606, 607, 608, 609, 311] [905, 906, 907, 601, 602, 603, 303, 304, 305] [] [904] u u1 ∧ IC E u1) ∧ (True))) (qXC E A 0 (fun u1 => (qFc [900, 901, 902, 908, 909, 604, 605, 606, 607, 608, 609, 311] [905, 906, 907, 601, 602, 603, 303, 304, 305] [] [904] u u1 ∧ IC E u1))) 1 6 A := by
  refine q_metX (own := RX11) (f := 12) [.ref (E.2.2 1199), .int x] (by decide) (Nat.le_of_ble_eq_true rfl) rfl ?_
  intro p0 e0 s0 m0 bl0 me0 cd0 ls hF hr hlocks hex hXs hU hS hA hl
  have hl : lv_has ls 2 [(0, .ref (E.2.2 1199)), (1, .int x)] := hl
  have hz8 : 0 ≤ u.1 8 ∧ u.1 8 ≤ 20 := hI.1.s8
  have hz9 : 0 ≤ u.1 9 ∧ u.1 9 ≤ 8 := hI.1.s9
  have hz10 : 0 ≤ u.1 10 ∧ u.1 10 ≤ 120 := hI.1.s10
  have hz12 : 0 ≤ u.1 12 ∧ u.1 12 ≤ 16 := hI.1.s12
  have hfr : qFc [900, 901, 902, 908, 909, 604, 605, 606, 607, 608, 609, 311] [905, 906, 907, 601, 602, 603, 303, 304, 305] [] [904] u u := qFc.rf
  refine lv_aload_n hF.1 hF.2.1 dX11_lean_0 rfl (lv_at hl 0 rfl) ?_
  refine q_get (v := .ref (E.2.2 99)) hF hU dX11_lean_1 0 11 0 1100 1199 rfl rfl rfl rfl inX11 (by decide) (by decide) w_436 rfl rfl ?_
  refine lv_iload_n hF.1 hF.2.1 dX11_lean_4 rfl (lv_at hl 1 rfl) ?_
  have hM9 := g_X0_hasBuyer l E A u x hI
  have hR9 := q_runV (l := l) (e := e0) (below := bl0) (meth := me0) (R := qR 12 1 6) (cells := 0) (slots := 0) (st0 := [.int x, .ref (E.2.2 99)]) (rest := []) hF hU hS hA 1 1 0 99 rfl rfl rfl hM9 w_568 w_569 w_570 w_100 w_571 (by decide +kernel) ⟨Nat.le_of_ble_eq_true rfl, Nat.le_of_ble_eq_true rfl⟩ dX11_lean_5 rfl hl.1 rfl (Nat.le_of_ble_eq_true rfl) ⟨Nat.le_of_ble_eq_true rfl, Nat.le_of_ble_eq_true rfl⟩
  refine q_calli hR9 hU.2.2.2 hS (fun r_3 u_1 H locs hw_2 hU hS => ?_)
  obtain ⟨hw_2_e, hw_2⟩ := hw_2
  rw [hw_2_e] at hU
  have hw_2 : (r_3 = 1 ∧ (0 ≤ x ∧ x < u.1 9)) ∨ (r_3 = 0 ∧ (¬ (0 ≤ x ∧ x < u.1 9))) := hw_2
  rcases hw_2 with ⟨rfl, b5_4⟩ | ⟨rfl, b5_4⟩
  · refine lv_if_ne (tgt := 21) hF.1 hF.2.1 dX11_lean_8 (by decide) (fun _ => ?_) (fun h9 => absurd h9 (by decide))
    refine lv_aload_n hF.1 hF.2.1 dX11_lean_21 rfl (lv_at hl 0 rfl) ?_
    refine q_get (v := .ref (E.2.2 399)) hF hU dX11_lean_22 0 11 5 1105 1199 rfl rfl rfl rfl inX11 (by decide) (by decide) w_441 rfl rfl ?_
    have hM9 := g_X3_refresh l E A u  hI
    have hR9 := q_runV (l := l) (e := e0) (below := bl0) (meth := me0) (R := qR 12 1 6) (cells := 0) (slots := 0) (st0 := [.ref (E.2.2 399)]) (rest := []) hF hU hS hA 0 6 3 399 rfl rfl rfl hM9 w_931 w_932 w_933 w_105 w_934 (by decide +kernel) ⟨Nat.le_of_ble_eq_true rfl, Nat.le_of_ble_eq_true rfl⟩ dX11_lean_25 rfl hl.1 rfl (Nat.le_of_ble_eq_true rfl) ⟨Nat.le_of_ble_eq_true rfl, Nat.le_of_ble_eq_true rfl⟩
    refine q_callv hR9 hU.2.2.2 hS (fun u_5 H locs hw_6 hU hS => ?_)
    obtain ⟨⟨hw_6_f, hI⟩, hw_6⟩ := hw_6
    have hfo := hfr
    have hfr : qFc [900, 901, 902, 908, 909, 604, 605, 606, 607, 608, 609, 311] [905, 906, 907, 601, 602, 603, 303, 304, 305] [] [904] u u_5 := hfr.trans (hw_6_f.mono (by decide) (by decide) (by decide) (by decide))
    refine lv_aload_n hF.1 hF.2.1 dX11_lean_28 rfl (lv_at hl 0 rfl) ?_
    refine q_get (v := .ref (E.2.2 399)) hF hU dX11_lean_29 0 11 5 1105 1199 rfl rfl rfl rfl inX11 (by decide) (by decide) w_441 rfl rfl ?_
    refine lv_iload_n hF.1 hF.2.1 dX11_lean_32 rfl (lv_at hl 1 rfl) ?_
    have hM9 := g_X3_hasLean l E A u_5 x hI (by rw [(hfr.1 9 (by decide))]; exact (g_X11_lean_v0 u x hz8 hz9 hz10 hz12 b5_4))
    have hR9 := q_runV (l := l) (e := e0) (below := bl0) (meth := me0) (R := qR 12 1 6) (cells := 0) (slots := 0) (st0 := [.int x, .ref (E.2.2 399)]) (rest := []) hF hU hS hA 1 6 3 399 rfl rfl rfl hM9 w_1285 w_1286 w_1287 w_105 w_1288 (by decide +kernel) ⟨Nat.le_of_ble_eq_true rfl, Nat.le_of_ble_eq_true rfl⟩ dX11_lean_33 rfl hl.1 rfl (Nat.le_of_ble_eq_true rfl) ⟨Nat.le_of_ble_eq_true rfl, Nat.le_of_ble_eq_true rfl⟩
    refine q_calli hR9 hU.2.2.2 hS (fun r_10 u_8 H locs hw_9 hU hS => ?_)
    obtain ⟨hw_9_e, hw_9⟩ := hw_9
    rw [hw_9_e] at hU
    rcases hw_9 with rfl | rfl
    · refine lv_if_ne (tgt := 50) hF.1 hF.2.1 dX11_lean_36 (by decide) (fun _ => ?_) (fun h9 => absurd h9 (by decide))
      refine lv_aload_n hF.1 hF.2.1 dX11_lean_50 rfl (lv_at hl 0 rfl) ?_
      refine q_get (v := .ref (E.2.2 399)) hF hU dX11_lean_51 0 11 5 1105 1199 rfl rfl rfl rfl inX11 (by decide) (by decide) w_441 rfl rfl ?_
      refine lv_iload_n hF.1 hF.2.1 dX11_lean_54 rfl (lv_at hl 1 rfl) ?_
      have hM9 := g_X3_leanOf l E A u_5 x hI (by rw [(hfr.1 9 (by decide))]; exact (g_X11_lean_v1 u x hz8 hz9 hz10 hz12 b5_4))
      have hR9 := q_runV (l := l) (e := e0) (below := bl0) (meth := me0) (R := qR 12 1 6) (cells := 0) (slots := 0) (st0 := [.int x, .ref (E.2.2 399)]) (rest := []) hF hU hS hA 1 6 3 399 rfl rfl rfl hM9 w_1290 w_1030 w_1031 w_105 w_1032 (by decide +kernel) ⟨Nat.le_of_ble_eq_true rfl, Nat.le_of_ble_eq_true rfl⟩ dX11_lean_55 rfl hl.1 rfl (Nat.le_of_ble_eq_true rfl) ⟨Nat.le_of_ble_eq_true rfl, Nat.le_of_ble_eq_true rfl⟩
      refine q_calli hR9 hU.2.2.2 hS (fun r_14 u_12 H locs hw_13 hU hS => ?_)
      obtain ⟨hw_13_e, hw_13⟩ := hw_13
      rw [hw_13_e] at hU
      refine vx_ret ?_
      refine W.widen (k := 1) (n := 6) (by decide) (by decide) ?_
      exact q_iret hF hr rfl hlocks hU hS dX11_lean_58 ⟨⟨hfr, hI⟩, trivial⟩
    · refine lv_if_ne (tgt := 50) hF.1 hF.2.1 dX11_lean_36 (by decide) (fun h9 => absurd (by decide) h9) (fun _ => ?_)
      exact q_throwW hF hst hex hlocks hU hS hXs hXs.s259 hl.1 dX11_lean_39 dX11_lean_42 dX11_lean_43 dX11_lean_46 dX11_lean_49 (by decide) (Nat.le_of_ble_eq_true rfl) (Nat.le_of_ble_eq_true rfl) (Nat.le_of_ble_eq_true rfl) (⟨hfr, hI⟩)
  · refine lv_if_ne (tgt := 21) hF.1 hF.2.1 dX11_lean_8 (by decide) (fun h9 => absurd (by decide) h9) (fun _ => ?_)
    exact q_throw hF hst hex hlocks hU hS hXs hXs.s254 hl.1 dX11_lean_11 dX11_lean_14 dX11_lean_15 dX11_lean_17 dX11_lean_20 (by decide) (Nat.le_of_ble_eq_true rfl) (Nat.le_of_ble_eq_true rfl) (Nat.le_of_ble_eq_true rfl) (⟨hfr, hI⟩)
set_option maxRecDepth 100000 in
theorem g_X11_mean_v0 (u : qS) (x : Int32) (y : Int32) (z : Int32) (hz8 : 0 ≤ u.1 8 ∧ u.1 8 ≤ 20) (hz9 : 0 ≤ u.1 9 ∧ u.1 9 ≤ 8) (hz10 : 0 ≤ u.1 10 ∧ u.1 10 ≤ 120) (hz12 : 0 ≤ u.1 12 ∧ u.1 12 ≤ 16) (b11_30 : 0 ≤ x ∧ x < (u.1 8 : Int32)) : 0 ≤ x ∧ x < (u.1 8 : Int32) := by
  first | omega | ((try simp only [g_m1, Int32.lt_iff_toInt_lt, Int32.le_iff_toInt_le, ← Int32.toInt_inj, Int32.reduceToInt] at *); omega) | ((try simp only [g_m1, Int32.lt_iff_toInt_lt, Int32.le_iff_toInt_le, ← Int32.toInt_inj, Int32.reduceToInt] at *); omega) | ((try simp only [g_m1, Int32.lt_iff_toInt_lt, Int32.le_iff_toInt_le, ← Int32.toInt_inj, Int32.toInt_add, Int32.toInt_sub, Int32.toInt_mul, Int32.toInt_neg, Int32.reduceToInt, g_bm, g_bm'] at *); omega) | (have qr1 := g_rng x; have qr2 := g_rng y; have qr3 := g_rng z; (try simp only [g_m1, Int32.lt_iff_toInt_lt, Int32.le_iff_toInt_le, ← Int32.toInt_inj, Int32.toInt_add, Int32.toInt_sub, Int32.toInt_mul, Int32.toInt_neg, Int32.reduceToInt, g_bm, g_bm'] at *); omega) | (simp only [g_m1, Int32.lt_iff_toInt_lt, Int32.le_iff_toInt_le, ← Int32.toInt_inj, Int32.toInt_add, Int32.toInt_sub, Int32.toInt_mul, Int32.toInt_neg, Int32.reduceToInt, g_bm, g_bm'] at *; simp at *; omega) | (simp_all; done)
set_option maxHeartbeats 1000000 in
set_option maxRecDepth 100000 in
theorem g_X11_mean (l : Launch) (hst : l.stackTraces = false) (E : qE) (A : Nat → Prop) (u : qS) (x : Int32) (y : Int32) (z : Int32) (hI : IC E u) : vx_Met l yX11_mean (uws yX11_mean cX11_mean 4 (some .int)) (qR 12 1 6) (qPx E A 0 u [.ref (E.2.2 1199), .int x, .int y, .int z]) (qQi E A 0 (fun r u1 => (qFc [900, 901, 902, 908, 909, 604, 605, 606, 607, 608, 609, 311] [905, 906, 907, 601, 602, 603, 303, 304, 305, 306, 307] [] [904] u u1 ∧ IC E u1) ∧ (True))) (qXC E A 0 (fun u1 => (qFc [900, 901, 902, 908, 909, 604, 605, 606, 607, 608, 609, 311] [905, 906, 907, 601, 602, 603, 303, 304, 305, 306, 307] [] [904] u u1 ∧ IC E u1))) 1 6 A := by
  refine q_metX (own := RX11) (f := 12) [.ref (E.2.2 1199), .int x, .int y, .int z] (by decide) (Nat.le_of_ble_eq_true rfl) rfl ?_
  intro p0 e0 s0 m0 bl0 me0 cd0 ls hF hr hlocks hex hXs hU hS hA hl
  have hl : lv_has ls 4 [(0, .ref (E.2.2 1199)), (1, .int x), (2, .int y), (3, .int z)] := hl
  have hz8 : 0 ≤ u.1 8 ∧ u.1 8 ≤ 20 := hI.1.s8
  have hz9 : 0 ≤ u.1 9 ∧ u.1 9 ≤ 8 := hI.1.s9
  have hz10 : 0 ≤ u.1 10 ∧ u.1 10 ≤ 120 := hI.1.s10
  have hz12 : 0 ≤ u.1 12 ∧ u.1 12 ≤ 16 := hI.1.s12
  have hfr : qFc [900, 901, 902, 908, 909, 604, 605, 606, 607, 608, 609, 311] [905, 906, 907, 601, 602, 603, 303, 304, 305, 306, 307] [] [904] u u := qFc.rf
  refine lv_aload_n hF.1 hF.2.1 dX11_mean_0 rfl (lv_at hl 0 rfl) ?_
  refine q_get (v := .ref (E.2.2 399)) hF hU dX11_mean_1 0 11 5 1105 1199 rfl rfl rfl rfl inX11 (by decide) (by decide) w_441 rfl rfl ?_
  have hM9 := g_X3_refresh l E A u  hI
  have hR9 := q_runV (l := l) (e := e0) (below := bl0) (meth := me0) (R := qR 12 1 6) (cells := 0) (slots := 0) (st0 := [.ref (E.2.2 399)]) (rest := []) hF hU hS hA 0 6 3 399 rfl rfl rfl hM9 w_931 w_932 w_933 w_105 w_934 (by decide +kernel) ⟨Nat.le_of_ble_eq_true rfl, Nat.le_of_ble_eq_true rfl⟩ dX11_mean_4 rfl hl.1 rfl (Nat.le_of_ble_eq_true rfl) ⟨Nat.le_of_ble_eq_true rfl, Nat.le_of_ble_eq_true rfl⟩
  refine q_callv hR9 hU.2.2.2 hS (fun u_1 H locs hw_2 hU hS => ?_)
  obtain ⟨⟨hw_2_f, hI⟩, hw_2⟩ := hw_2
  have hfo := hfr
  have hfr : qFc [900, 901, 902, 908, 909, 604, 605, 606, 607, 608, 609, 311] [905, 906, 907, 601, 602, 603, 303, 304, 305, 306, 307] [] [904] u u_1 := hfr.trans (hw_2_f.mono (by decide) (by decide) (by decide) (by decide))
  have e_4 : u_1.2.1 306 = (u.2.1 306) := (hw_2_f.2.1 306 (by decide)).trans rfl
  have e_5 : u_1.2.1 307 = (u.2.1 307) := (hw_2_f.2.1 307 (by decide)).trans rfl
  refine lv_aload_n hF.1 hF.2.1 dX11_mean_7 rfl (lv_at hl 0 rfl) ?_
  refine lv_iload_n hF.1 hF.2.1 dX11_mean_8 rfl (lv_at hl 1 rfl) ?_
  refine lv_iload_n hF.1 hF.2.1 dX11_mean_9 rfl (lv_at hl 2 rfl) ?_
  refine lv_iload_n hF.1 hF.2.1 dX11_mean_10 rfl (lv_at hl 3 rfl) ?_
  have hM9 := g_X11_hasMean l E A u_1 x y z hI
  have hR9 := q_runV (l := l) (e := e0) (below := bl0) (meth := me0) (R := qR 12 1 6) (cells := 0) (slots := 0) (st0 := [.int z, .int y, .int x, .ref (E.2.2 1199)]) (rest := []) hF hU hS hA 3 0 11 1199 rfl rfl rfl hM9 w_1013 w_1015 w_35 w_99 w_1016 (by decide +kernel) ⟨Nat.le_of_ble_eq_true rfl, Nat.le_of_ble_eq_true rfl⟩ dX11_mean_11 rfl hl.1 rfl (Nat.le_of_ble_eq_true rfl) ⟨Nat.le_of_ble_eq_true rfl, Nat.le_of_ble_eq_true rfl⟩
  refine q_calli hR9 hU.2.2.2 hS (fun r_8 u_6 H locs hw_7 hU hS => ?_)
  obtain ⟨⟨hw_7_f, hI⟩, hw_7⟩ := hw_7
  have hfo := hfr
  have hfr : qFc [900, 901, 902, 908, 909, 604, 605, 606, 607, 608, 609, 311] [905, 906, 907, 601, 602, 603, 303, 304, 305, 306, 307] [] [904] u u_6 := hfr.trans (hw_7_f.mono (by decide) (by decide) (by decide) (by decide))
  have e_9 : u_6.1 311 = (u_1.1 311) := (hw_7_f.1 311 (by decide)).trans rfl
  have e_10 : u_6.1 604 = (u_1.1 604) := (hw_7_f.1 604 (by decide)).trans rfl
  have e_11 : u_6.1 605 = (u_1.1 605) := (hw_7_f.1 605 (by decide)).trans rfl
  have e_12 : u_6.1 606 = (u_1.1 606) := (hw_7_f.1 606 (by decide)).trans rfl
  have e_13 : u_6.1 607 = (u_1.1 607) := (hw_7_f.1 607 (by decide)).trans rfl
  have e_14 : u_6.1 608 = (u_1.1 608) := (hw_7_f.1 608 (by decide)).trans rfl
  have e_15 : u_6.1 609 = (u_1.1 609) := (hw_7_f.1 609 (by decide)).trans rfl
  have e_16 : u_6.1 900 = (u_1.1 900) := (hw_7_f.1 900 (by decide)).trans rfl
  have e_17 : u_6.1 901 = (u_1.1 901) := (hw_7_f.1 901 (by decide)).trans rfl
  have e_18 : u_6.1 902 = (u_1.1 902) := (hw_7_f.1 902 (by decide)).trans rfl
  have e_19 : u_6.1 908 = (u_1.1 908) := (hw_7_f.1 908 (by decide)).trans rfl
  have e_20 : u_6.1 909 = (u_1.1 909) := (hw_7_f.1 909 (by decide)).trans rfl
  have e_21 : u_6.2.1 303 = (u_1.2.1 303) := (hw_7_f.2.1 303 (by decide)).trans rfl
  have e_22 : u_6.2.1 304 = (u_1.2.1 304) := (hw_7_f.2.1 304 (by decide)).trans rfl
  have e_23 : u_6.2.1 305 = (u_1.2.1 305) := (hw_7_f.2.1 305 (by decide)).trans rfl
  have e_24 : u_6.2.1 601 = (u_1.2.1 601) := (hw_7_f.2.1 601 (by decide)).trans rfl
  have e_25 : u_6.2.1 602 = (u_1.2.1 602) := (hw_7_f.2.1 602 (by decide)).trans rfl
  have e_26 : u_6.2.1 603 = (u_1.2.1 603) := (hw_7_f.2.1 603 (by decide)).trans rfl
  have e_27 : u_6.2.1 905 = (u_1.2.1 905) := (hw_7_f.2.1 905 (by decide)).trans rfl
  have e_28 : u_6.2.1 906 = (u_1.2.1 906) := (hw_7_f.2.1 906 (by decide)).trans rfl
  have e_29 : u_6.2.1 907 = (u_1.2.1 907) := (hw_7_f.2.1 907 (by decide)).trans rfl
  have hw_7 : (r_8 = 1 ∧ (0 ≤ x ∧ x < (u.1 8 : Int32))) ∨ (r_8 = 0 ∧ (True)) := by rw [(hfo.1 8 (by decide))] at hw_7; exact hw_7
  rcases hw_7 with ⟨rfl, b11_30⟩ | ⟨rfl, b11_30⟩
  · refine lv_if_ne (tgt := 28) hF.1 hF.2.1 dX11_mean_14 (by decide) (fun _ => ?_) (fun h9 => absurd h9 (by decide))
    refine lv_aload_n hF.1 hF.2.1 dX11_mean_28 rfl (lv_at hl 0 rfl) ?_
    refine q_get (v := .ref (E.2.2 399)) hF hU dX11_mean_29 0 11 5 1105 1199 rfl rfl rfl rfl inX11 (by decide) (by decide) w_441 rfl rfl ?_
    refine lv_iload_n hF.1 hF.2.1 dX11_mean_32 rfl (lv_at hl 1 rfl) ?_
    have hM9 := g_X3_meanOf l E A u_6 x hI (by rw [(hfr.1 8 (by decide))]; exact (g_X11_mean_v0 u x y z hz8 hz9 hz10 hz12 b11_30))
    have hR9 := q_runV (l := l) (e := e0) (below := bl0) (meth := me0) (R := qR 12 1 6) (cells := 0) (slots := 0) (st0 := [.int x, .ref (E.2.2 399)]) (rest := []) hF hU hS hA 1 6 3 399 rfl rfl rfl hM9 w_1085 w_1050 w_1051 w_105 w_1052 (by decide +kernel) ⟨Nat.le_of_ble_eq_true rfl, Nat.le_of_ble_eq_true rfl⟩ dX11_mean_33 rfl hl.1 rfl (Nat.le_of_ble_eq_true rfl) ⟨Nat.le_of_ble_eq_true rfl, Nat.le_of_ble_eq_true rfl⟩
    refine q_calli hR9 hU.2.2.2 hS (fun r_33 u_31 H locs hw_32 hU hS => ?_)
    obtain ⟨hw_32_e, hw_32⟩ := hw_32
    rw [hw_32_e] at hU
    refine vx_ret ?_
    refine W.widen (k := 1) (n := 6) (by decide) (by decide) ?_
    exact q_iret hF hr rfl hlocks hU hS dX11_mean_36 ⟨⟨hfr, hI⟩, trivial⟩
  · refine lv_if_ne (tgt := 28) hF.1 hF.2.1 dX11_mean_14 (by decide) (fun h9 => absurd (by decide) h9) (fun _ => ?_)
    exact q_throwW hF hst hex hlocks hU hS hXs hXs.s271 hl.1 dX11_mean_17 dX11_mean_20 dX11_mean_21 dX11_mean_24 dX11_mean_27 (by decide) (Nat.le_of_ble_eq_true rfl) (Nat.le_of_ble_eq_true rfl) (Nat.le_of_ble_eq_true rfl) (⟨hfr, hI⟩)
