set_option maxRecDepth 100000 in
theorem g_X12_fewest_f_v0 (u : qS) (x : Int32) (y : Int32) (k : qS) (hI : IM u) (hSc : g_rw (u.2.1 1262) 120 0 1001) (hk : IK k u) (b7_4 : 0 ≤ x ∧ x < (u.1 1239 : Int32)) (b14_8 : 0 ≤ y ∧ y ≤ 9999) : g_rw ((u.2.1 1262)) 120 0 1001 := by
  have hz1239 := hI.1.s1239
  assumption
set_option maxRecDepth 100000 in
theorem g_X12_fewest_f_v1 (u : qS) (x : Int32) (y : Int32) (k : qS) (u_9 : qS) (hI : IM u) (hSc : g_rw (u.2.1 1262) 120 0 1001) (hk : IK k u) (b7_4 : 0 ≤ x ∧ x < (u.1 1239 : Int32)) (b14_8 : 0 ≤ y ∧ y ≤ 9999) (hw_10 : g_rw (u_9.2.1 1262) 120 0 1001 ∧ f_fi k (u_9.2.1 1264)) : f_a1 k ((u_9.2.1 1264)) := by
  have hz1239 := hI.1.s1239
  exact (by assumption : _ ∧ f_fi k _).2.a1
set_option maxRecDepth 100000 in
theorem g_X12_fewest_f_v2 (u : qS) (x : Int32) (y : Int32) (k : qS) (u_9 : qS) (u_13 : qS) (hI : IM u) (hSc : g_rw (u.2.1 1262) 120 0 1001) (hk : IK k u) (b7_4 : 0 ≤ x ∧ x < (u.1 1239 : Int32)) (b14_8 : 0 ≤ y ∧ y ≤ 9999) (hw_10 : g_rw (u_9.2.1 1262) 120 0 1001 ∧ f_fi k (u_9.2.1 1264)) (hw_14 : ((((0 ≤ u_13.1 1265 ∧ u_13.1 1265 ≤ 12) ∧ g_rw (u_13.2.1 1266) (u_13.1 1265).toInt 0 ((u.1 1247 : Int32)).toInt) ∧ u_13.1 1268 = (f_all k x y).1) ∧ u_13.1 1269 = f_fz k x y ∧ f_T (f_gp k x y) (k.1 1247).toNatClampNeg (f_n (f_gp k x y) (k.1 1247).toNatClampNeg) (u_13.2.1 1266) ∧ (u_13.1 1265).toInt = (f_n (f_gp k x y) (k.1 1247).toNatClampNeg : Int)) ∧ f_sw k x y (f_n (f_gp k x y) (k.1 1247).toNatClampNeg) ((u_9.2.1 1264)) (u_13.2.1 1264)) : (g_rw ((u_9.2.1 1262)) 120 0 1001) ∧ ((((0 ≤ x ∧ x < u.1 1239) ∧ (0 ≤ y ∧ y ≤ 9999)) ∧ (u_13.1 1268 : Int32) = (f_all k x y).1) ∨ (¬ ((0 ≤ x ∧ x < u.1 1239) ∧ (0 ≤ y ∧ y ≤ 9999)) ∧ (u_13.1 1268 : Int32) = -1)) := by
  have hz1247 := hI.1.s1247
  have hz1239 := hI.1.s1239
  first | exact ⟨(by assumption : g_rw _ _ _ _ ∧ f_fi k _).1, Or.inl ⟨⟨by assumption, by assumption⟩, (by assumption : ((_ ∧ _) ∧ _) ∧ f_sw _ _ _ _ _ _).1.1.2⟩⟩ | exact ⟨hSc, Or.inr ⟨fun q => (by obtain ⟨q1, q2⟩ := q; first | exact absurd q1 (by assumption) | exact absurd q2 (by assumption)), rfl⟩⟩
set_option maxRecDepth 100000 in
theorem g_X12_fewest_f_v3 (u : qS) (x : Int32) (y : Int32) (k : qS) (hI : IM u) (hSc : g_rw (u.2.1 1262) 120 0 1001) (hk : IK k u) (b7_4 : 0 ≤ x ∧ x < (u.1 1239 : Int32)) (b14_8 : ¬ (0 ≤ y ∧ y ≤ 9999)) : (g_rw ((u.2.1 1262)) 120 0 1001) ∧ ((((0 ≤ x ∧ x < u.1 1239) ∧ (0 ≤ y ∧ y ≤ 9999)) ∧ ((-1) : Int32) = (f_all k x y).1) ∨ (¬ ((0 ≤ x ∧ x < u.1 1239) ∧ (0 ≤ y ∧ y ≤ 9999)) ∧ ((-1) : Int32) = -1)) := by
  have hz1239 := hI.1.s1239
  first | exact ⟨(by assumption : g_rw _ _ _ _ ∧ f_fi k _).1, Or.inl ⟨⟨by assumption, by assumption⟩, (by assumption : ((_ ∧ _) ∧ _) ∧ f_sw _ _ _ _ _ _).1.1.2⟩⟩ | exact ⟨hSc, Or.inr ⟨fun q => (by obtain ⟨q1, q2⟩ := q; first | exact absurd q1 (by assumption) | exact absurd q2 (by assumption)), rfl⟩⟩
set_option maxRecDepth 100000 in
theorem g_X12_fewest_f_v4 (u : qS) (x : Int32) (y : Int32) (k : qS) (hI : IM u) (hSc : g_rw (u.2.1 1262) 120 0 1001) (hk : IK k u) (b7_4 : ¬ (0 ≤ x ∧ x < (u.1 1239 : Int32))) : (g_rw ((u.2.1 1262)) 120 0 1001) ∧ ((((0 ≤ x ∧ x < u.1 1239) ∧ (0 ≤ y ∧ y ≤ 9999)) ∧ ((-1) : Int32) = (f_all k x y).1) ∨ (¬ ((0 ≤ x ∧ x < u.1 1239) ∧ (0 ≤ y ∧ y ≤ 9999)) ∧ ((-1) : Int32) = -1)) := by
  have hz1239 := hI.1.s1239
  first | exact ⟨(by assumption : g_rw _ _ _ _ ∧ f_fi k _).1, Or.inl ⟨⟨by assumption, by assumption⟩, (by assumption : ((_ ∧ _) ∧ _) ∧ f_sw _ _ _ _ _ _).1.1.2⟩⟩ | exact ⟨hSc, Or.inr ⟨fun q => (by obtain ⟨q1, q2⟩ := q; first | exact absurd q1 (by assumption) | exact absurd q2 (by assumption)), rfl⟩⟩
set_option maxHeartbeats 1000000 in
set_option maxRecDepth 100000 in
theorem g_X12_fewest_f (l : Launch) (E : qE) (A : Nat → Prop) (u : qS) (x : Int32) (y : Int32) (k : qS) (hI : IM u) (hSc : g_rw (u.2.1 1262) 120 0 1001) (hk : IK k u) : Met l yX12_fewest (uws yX12_fewest cX12_fewest 3 (some .int)) (qR 4 0 0) (qPc E A 1 u [.ref (E.2.2 1299), .int x, .int y]) (qQi E A 1 (fun r u1 => qFr [1200, 1260, 1225, 1228, 1229, 1270, 1265, 1268, 1269] [1261, 1224, 1226, 1227, 1262, 1263, 1264, 1266, 1267] [] u u1 ∧ ((g_rw (u1.2.1 1262) 120 0 1001) ∧ ((((0 ≤ x ∧ x < u.1 1239) ∧ (0 ≤ y ∧ y ≤ 9999)) ∧ r = (f_all k x y).1) ∨ (¬ ((0 ≤ x ∧ x < u.1 1239) ∧ (0 ≤ y ∧ y ≤ 9999)) ∧ r = -1))))) 0 0 A := by
  refine q_met (own := RX12) (f := 4) [.ref (E.2.2 1299), .int x, .int y] (by decide) (Nat.le_of_ble_eq_true rfl) rfl ?_
  intro p0 e0 s0 m0 bl0 me0 cd0 ls hF hr hlocks hU hS hA hl
  have hl : lv_has ls 3 [(0, .ref (E.2.2 1299)), (1, .int x), (2, .int y)] := hl
  have hfr : qFr [1200, 1260, 1225, 1228, 1229, 1270, 1265, 1268, 1269] [1261, 1224, 1226, 1227, 1262, 1263, 1264, 1266, 1267] [] u u := qFr.rf
  refine lv_aload_n hF.1 hF.2.1 dX12_fewest_0 rfl (lv_at hl 0 rfl) ?_
  refine lv_iconst (v := 0) hF.1 hF.2.1 dX12_fewest_1 (by decide) ?_
  refine q_put hF hU hS dX12_fewest_2 0 12 0 1200 1299 rfl rfl rfl rfl inX12 tyX12 tyX12_ok nmX12 (by decide) (by decide) rfl w_1329 rfl rfl rfl rfl (fun H locs hU hS => ?_)
  have hfr : qFr [1200, 1260, 1225, 1228, 1229, 1270, 1265, 1268, 1269] [1261, 1224, 1226, 1227, 1262, 1263, 1264, 1266, 1267] [] u (qsI u 1200 0) := hfr.setI (by decide)
  refine lv_aload_n hF.1 hF.2.1 dX12_fewest_5 rfl (lv_at hl 0 rfl) ?_
  refine lv_iload_n hF.1 hF.2.1 dX12_fewest_6 rfl (lv_at hl 1 rfl) ?_
  have hM9 := g_X12_isBuyer l E A (qsI u 1200 0) x
  have hR9 := q_runV (l := l) (e := e0) (below := bl0) (meth := me0) (R := qR 4 0 0) (cells := 0) (slots := 0) (st0 := [.int x, .ref (E.2.2 1299)]) (rest := []) hF hU hS hA 1 0 12 1299 rfl rfl rfl hM9 w_1714 w_1716 w_69 w_107 w_1717 (by decide +kernel) ⟨Nat.le_of_ble_eq_true rfl, Nat.le_of_ble_eq_true rfl⟩ dX12_fewest_7 rfl hl.1 rfl (Nat.le_of_ble_eq_true rfl) ⟨Nat.le_of_ble_eq_true rfl, Nat.le_of_ble_eq_true rfl⟩
  refine q_calli hR9 hU.2.2.2 hS (fun r_3 u_1 H locs hw_2 hU hS => ?_)
  obtain ⟨hw_2_e, hw_2⟩ := hw_2
  rw [hw_2_e] at hU
  have hw_2 : (r_3 = 1 ∧ (0 ≤ x ∧ x < (u.1 1239 : Int32))) ∨ (r_3 = 0 ∧ ¬ (0 ≤ x ∧ x < (u.1 1239 : Int32))) := by rw [(hfr.1 1239 (by decide))] at hw_2; exact hw_2
  rcases hw_2 with ⟨rfl, b7_4⟩ | ⟨rfl, b7_4⟩
  · refine lv_if_eq (tgt := 20) hF.1 hF.2.1 dX12_fewest_10 (by decide) (fun h9 => absurd h9 (by decide)) (fun _ => ?_)
    refine lv_iload_n hF.1 hF.2.1 dX12_fewest_13 rfl (lv_at hl 2 rfl) ?_
    have hM9 := g_X12_isDay l E A (qsI u 1200 0) y
    have hR9 := q_runS (l := l) (e := e0) (below := bl0) (meth := me0) (R := qR 4 0 0) (cells := 0) (slots := 0) (st0 := [.int y]) (rest := []) hF hU hS hA 1 hM9 w_1806 w_1807 w_107 w_1808 (by decide +kernel) ⟨Nat.le_of_ble_eq_true rfl, Nat.le_of_ble_eq_true rfl⟩ dX12_fewest_14 rfl hl.1 rfl (Nat.le_of_ble_eq_true rfl) ⟨Nat.le_of_ble_eq_true rfl, Nat.le_of_ble_eq_true rfl⟩
    refine q_calli hR9 hU.2.2.2 hS (fun r_7 u_5 H locs hw_6 hU hS => ?_)
    obtain ⟨hw_6_e, hw_6⟩ := hw_6
    rw [hw_6_e] at hU
    have hw_6 : (r_7 = 1 ∧ (0 ≤ y ∧ y ≤ 9999)) ∨ (r_7 = 0 ∧ ¬ (0 ≤ y ∧ y ≤ 9999)) := hw_6
    rcases hw_6 with ⟨rfl, b14_8⟩ | ⟨rfl, b14_8⟩
    · refine lv_if_ne (tgt := 22) hF.1 hF.2.1 dX12_fewest_17 (by decide) (fun _ => ?_) (fun h9 => absurd h9 (by decide))
      refine lv_aload_n hF.1 hF.2.1 dX12_fewest_22 rfl (lv_at hl 0 rfl) ?_
      have hM9 := g_X12_findAll_f l E A (qsI u 1200 0) k (hI.fr hfr (by decide) (by decide)) (g_X12_fewest_f_v0 u x y k hI hSc hk b7_4 b14_8) (hk.fr hfr (by decide) (by decide))
      have hR9 := q_runV (l := l) (e := e0) (below := bl0) (meth := me0) (R := qR 4 0 0) (cells := 0) (slots := 0) (st0 := [.ref (E.2.2 1299)]) (rest := []) hF hU hS hA 0 0 12 1299 rfl rfl rfl hM9 w_1738 w_1740 w_73 w_107 w_1741 (by decide +kernel) ⟨Nat.le_of_ble_eq_true rfl, Nat.le_of_ble_eq_true rfl⟩ dX12_fewest_23 rfl hl.1 rfl (Nat.le_of_ble_eq_true rfl) ⟨Nat.le_of_ble_eq_true rfl, Nat.le_of_ble_eq_true rfl⟩
      refine q_callv hR9 hU.2.2.2 hS (fun u_9 H locs hw_10 hU hS => ?_)
      have hw_10_f := hw_10.1
      have hfo := hfr
      have hfr : qFr [1200, 1260, 1225, 1228, 1229, 1270, 1265, 1268, 1269] [1261, 1224, 1226, 1227, 1262, 1263, 1264, 1266, 1267] [] u u_9 := hfr.trans (hw_10_f.mono (by decide) (by decide) (by decide))
      have hw_10 := hw_10.2
      have e_12 : u_9.1 1200 = 0 := (hw_10_f.1 1200 (by decide)).trans rfl
      have hw_10 : g_rw (u_9.2.1 1262) 120 0 1001 ∧ f_fi k (u_9.2.1 1264) := hw_10
      refine lv_aload_n hF.1 hF.2.1 dX12_fewest_26 rfl (lv_at hl 0 rfl) ?_
      refine lv_iload_n hF.1 hF.2.1 dX12_fewest_27 rfl (lv_at hl 1 rfl) ?_
      refine lv_iload_n hF.1 hF.2.1 dX12_fewest_28 rfl (lv_at hl 2 rfl) ?_
      have hM9 := g_X12_findFewest_f l E A u_9 x y k (hI.fr hfr (by decide) (by decide)) (hk.fr hfr (by decide) (by decide)) (g_X12_fewest_f_v1 u x y k u_9 hI hSc hk b7_4 b14_8 hw_10)
      have hR9 := q_runV (l := l) (e := e0) (below := bl0) (meth := me0) (R := qR 4 0 0) (cells := 0) (slots := 0) (st0 := [.int y, .int x, .ref (E.2.2 1299)]) (rest := []) hF hU hS hA 2 0 12 1299 rfl rfl rfl hM9 w_1780 w_1782 w_82 w_107 w_1783 (by decide +kernel) ⟨Nat.le_of_ble_eq_true rfl, Nat.le_of_ble_eq_true rfl⟩ dX12_fewest_29 rfl hl.1 rfl (Nat.le_of_ble_eq_true rfl) ⟨Nat.le_of_ble_eq_true rfl, Nat.le_of_ble_eq_true rfl⟩
      refine q_callv hR9 hU.2.2.2 hS (fun u_13 H locs hw_14 hU hS => ?_)
      have hw_14_f := hw_14.1
      have hfo := hfr
      have hfr : qFr [1200, 1260, 1225, 1228, 1229, 1270, 1265, 1268, 1269] [1261, 1224, 1226, 1227, 1262, 1263, 1264, 1266, 1267] [] u u_13 := hfr.trans (hw_14_f.mono (by decide) (by decide) (by decide))
      have hw_14 := hw_14.2
      have e_16 : u_13.1 1200 = 0 := (hw_14_f.1 1200 (by decide)).trans e_12
      have e_17 : u_13.1 1260 = (u_9.1 1260) := (hw_14_f.1 1260 (by decide)).trans rfl
      have e_18 : u_13.1 1225 = (u_9.1 1225) := (hw_14_f.1 1225 (by decide)).trans rfl
      have e_19 : u_13.1 1228 = (u_9.1 1228) := (hw_14_f.1 1228 (by decide)).trans rfl
      have e_20 : u_13.1 1229 = (u_9.1 1229) := (hw_14_f.1 1229 (by decide)).trans rfl
      have e_21 : u_13.1 1270 = (u_9.1 1270) := (hw_14_f.1 1270 (by decide)).trans rfl
      have e_22 : u_13.2.1 1261 = (u_9.2.1 1261) := (hw_14_f.2.1 1261 (by decide)).trans rfl
      have e_23 : u_13.2.1 1224 = (u_9.2.1 1224) := (hw_14_f.2.1 1224 (by decide)).trans rfl
      have e_24 : u_13.2.1 1226 = (u_9.2.1 1226) := (hw_14_f.2.1 1226 (by decide)).trans rfl
      have e_25 : u_13.2.1 1227 = (u_9.2.1 1227) := (hw_14_f.2.1 1227 (by decide)).trans rfl
      have e_26 : u_13.2.1 1262 = (u_9.2.1 1262) := (hw_14_f.2.1 1262 (by decide)).trans rfl
      have e_27 : u_13.2.1 1263 = (u_9.2.1 1263) := (hw_14_f.2.1 1263 (by decide)).trans rfl
      have hw_14 : ((((0 ≤ u_13.1 1265 ∧ u_13.1 1265 ≤ 12) ∧ g_rw (u_13.2.1 1266) (u_13.1 1265).toInt 0 ((u.1 1247 : Int32)).toInt) ∧ u_13.1 1268 = (f_all k x y).1) ∧ u_13.1 1269 = f_fz k x y ∧ f_T (f_gp k x y) (k.1 1247).toNatClampNeg (f_n (f_gp k x y) (k.1 1247).toNatClampNeg) (u_13.2.1 1266) ∧ (u_13.1 1265).toInt = (f_n (f_gp k x y) (k.1 1247).toNatClampNeg : Int)) ∧ f_sw k x y (f_n (f_gp k x y) (k.1 1247).toNatClampNeg) ((u_9.2.1 1264)) (u_13.2.1 1264) := by rw [(hfo.1 1247 (by decide))] at hw_14; exact hw_14
      refine lv_aload_n hF.1 hF.2.1 dX12_fewest_32 rfl (lv_at hl 0 rfl) ?_
      refine q_get (v := .int (u_13.1 1268)) hF hU dX12_fewest_33 0 12 68 1268 1299 rfl rfl rfl rfl inX12 (by decide) (by decide) w_1397 rfl rfl ?_
      exact q_iret hF hr rfl hlocks hU hS dX12_fewest_36 ⟨hfr, by first | (rw [show (u_13).2.1 1262 = (u_9.2.1 1262) from e_26]; exact (g_X12_fewest_f_v2 u x y k u_9 u_13 hI hSc hk b7_4 b14_8 hw_10 hw_14)) | rw [show (u_13).2.1 1262 = (u_9.2.1 1262) from e_26]⟩
    · refine lv_if_ne (tgt := 22) hF.1 hF.2.1 dX12_fewest_17 (by decide) (fun h9 => absurd (by decide) h9) (fun _ => ?_)
      refine lv_iconst (v := (-1)) hF.1 hF.2.1 dX12_fewest_20 (by decide) ?_
      exact q_iret hF hr rfl hlocks hU hS dX12_fewest_21 ⟨hfr, (g_X12_fewest_f_v3 u x y k hI hSc hk b7_4 b14_8)⟩
  · refine lv_if_eq (tgt := 20) hF.1 hF.2.1 dX12_fewest_10 (by decide) (fun _ => ?_) (fun h9 => absurd (by decide) h9)
    refine lv_iconst (v := (-1)) hF.1 hF.2.1 dX12_fewest_20 (by decide) ?_
    exact q_iret hF hr rfl hlocks hU hS dX12_fewest_21 ⟨hfr, (g_X12_fewest_f_v4 u x y k hI hSc hk b7_4)⟩
set_option maxRecDepth 100000 in
theorem g_X12_set_f_v0 (u : qS) (x : Int32) (y : Int32) (z : Int32) (k : qS) (x4 : Int32) (x5 : Int32) (uc : qS) (hI : IM u) (hSc : g_rw (u.2.1 1262) 120 0 1001) (hk : IK k u) (h_k : 0 ≤ x5 ∧ x5 ≤ uc.1 1265) (h_t : 0 ≤ uc.1 1265 ∧ uc.1 1265 ≤ 12) (h_S : g_rw (uc.2.1 1262) 120 0 1001) (h_D : (0 ≤ x ∧ x < u.1 1239) ∧ (0 ≤ y ∧ y ≤ 9999) ∧ 0 ≤ z) (h_9 : uc.1 1269 = f_fz k x y) (h_T : f_T (f_gp k x y) (k.1 1247).toNatClampNeg (f_n (f_gp k x y) (k.1 1247).toNatClampNeg) (uc.2.1 1266)) (h_N : (uc.1 1265).toInt = (f_n (f_gp k x y) (k.1 1247).toNatClampNeg : Int)) (h_4 : 0 ≤ x4.toInt ∧ x4.toInt = z.toInt - (k_ct (s_b (f_fz k x y)) x5.toNatClampNeg : Int)) (c48_1 : (uc.1 1265) ≤ (x5 : Int32)) : (g_rw ((uc.2.1 1262)) 120 0 1001) ∧ ((((0 ≤ x ∧ x < u.1 1239) ∧ (0 ≤ y ∧ y ≤ 9999) ∧ 0 ≤ z) ∧ k_nth (s_b (f_fz k x y)) (f_n (f_gp k x y) (k.1 1247).toNatClampNeg) z.toNatClampNeg (f_V k x y) ((-1) : Int32)) ∨ (¬ ((0 ≤ x ∧ x < u.1 1239) ∧ (0 ≤ y ∧ y ≤ 9999) ∧ 0 ≤ z) ∧ ((-1) : Int32) = -1)) := by
  have hz1239 := hI.1.s1239
  first
  | exact ⟨hSc, Or.inr ⟨fun q => (by obtain ⟨q1, q2, q3⟩ := q; first | exact absurd q1 (by assumption) | exact absurd q2 (by assumption) | exact absurd q3 (by first | assumption | exact Int32.not_le.mpr (by assumption))), rfl⟩⟩
  | (have q5 : 0 ≤ x5.toInt ∧ x5.toInt < (uc.1 1265).toInt ∧ (uc.1 1265).toInt ≤ 12 := (by clear h_S h_T h_4 h_9; (try simp only [g_m1, Int32.lt_iff_toInt_lt, Int32.le_iff_toInt_le, ← Int32.toInt_inj, Int32.reduceToInt] at *); omega)
     have c5 := g_clamp x5
     have e5 := (g_up (i := x5) q5.1 (by omega)).2
     have bt := s_bitI (x := uc.1 1269) (i := x5) q5.1 (by omega)
     rw [h_9] at bt
     have e4 : x4 = 0 := (by assumption)
     rw [e4] at h_4
     have e0 : (0 : Int32).toInt = 0 := rfl
     have cz := g_clamp z
     have tt := h_T.2 x5.toNatClampNeg (by omega)
     have v := f_V.at tt.2.1
     rw [tt.2.2] at v
     exact ⟨h_S, Or.inl ⟨h_D, Or.inl ⟨x5.toNatClampNeg, by omega, (by have w : uc.1 1269 >>> (x5 &&& 31) &&& 1 = 1 := (by with_reducible assumption); rw [h_9] at w; exact bt.mp w), by omega, v.symm⟩⟩⟩)
  | (have e : x5 = uc.1 1265 := Int32.toInt_inj.mp (by clear h_S h_T h_4 h_9; (try simp only [g_m1, Int32.lt_iff_toInt_lt, Int32.le_iff_toInt_le, ← Int32.toInt_inj, Int32.reduceToInt] at *); omega)
     have c := g_clamp (uc.1 1265)
     have cz := g_clamp z
     rw [e, show (uc.1 1265).toNatClampNeg = f_n (f_gp k x y) (k.1 1247).toNatClampNeg by omega] at h_4
     exact ⟨h_S, Or.inl ⟨h_D, Or.inr ⟨by omega, rfl⟩⟩⟩)
set_option maxRecDepth 100000 in
theorem g_X12_set_f_v1 (u : qS) (x : Int32) (y : Int32) (z : Int32) (k : qS) (x4 : Int32) (x5 : Int32) (uc : qS) (hI : IM u) (hSc : g_rw (u.2.1 1262) 120 0 1001) (hk : IK k u) (h_k : 0 ≤ x5 ∧ x5 ≤ uc.1 1265) (h_t : 0 ≤ uc.1 1265 ∧ uc.1 1265 ≤ 12) (h_S : g_rw (uc.2.1 1262) 120 0 1001) (h_D : (0 ≤ x ∧ x < u.1 1239) ∧ (0 ≤ y ∧ y ≤ 9999) ∧ 0 ≤ z) (h_9 : uc.1 1269 = f_fz k x y) (h_T : f_T (f_gp k x y) (k.1 1247).toNatClampNeg (f_n (f_gp k x y) (k.1 1247).toNatClampNeg) (uc.2.1 1266)) (h_N : (uc.1 1265).toInt = (f_n (f_gp k x y) (k.1 1247).toNatClampNeg : Int)) (h_4 : 0 ≤ x4.toInt ∧ x4.toInt = z.toInt - (k_ct (s_b (f_fz k x y)) x5.toNatClampNeg : Int)) (c48_1 : ¬ (uc.1 1265) ≤ (x5 : Int32)) (c61_2 : ¬ (((uc.1 1269) >>> (x5 &&& 31)) &&& 1 : Int32) = 1) : 0 ≤ (x5 + 1) ∧ (x5 + 1) ≤ (uc.1 1265 : Int32) := by
  have hz1239 := hI.1.s1239
  clear h_S h_T h_4 h_9; (try simp only [g_m1, Int32.lt_iff_toInt_lt, Int32.le_iff_toInt_le, ← Int32.toInt_inj, Int32.toInt_add, Int32.toInt_sub, Int32.toInt_mul, Int32.toInt_neg, Int32.reduceToInt, g_bm, g_bm'] at *); omega
set_option maxRecDepth 100000 in
theorem g_X12_set_f_v2 (u : qS) (x : Int32) (y : Int32) (z : Int32) (k : qS) (x4 : Int32) (x5 : Int32) (uc : qS) (hI : IM u) (hSc : g_rw (u.2.1 1262) 120 0 1001) (hk : IK k u) (h_k : 0 ≤ x5 ∧ x5 ≤ uc.1 1265) (h_t : 0 ≤ uc.1 1265 ∧ uc.1 1265 ≤ 12) (h_S : g_rw (uc.2.1 1262) 120 0 1001) (h_D : (0 ≤ x ∧ x < u.1 1239) ∧ (0 ≤ y ∧ y ≤ 9999) ∧ 0 ≤ z) (h_9 : uc.1 1269 = f_fz k x y) (h_T : f_T (f_gp k x y) (k.1 1247).toNatClampNeg (f_n (f_gp k x y) (k.1 1247).toNatClampNeg) (uc.2.1 1266)) (h_N : (uc.1 1265).toInt = (f_n (f_gp k x y) (k.1 1247).toNatClampNeg : Int)) (h_4 : 0 ≤ x4.toInt ∧ x4.toInt = z.toInt - (k_ct (s_b (f_fz k x y)) x5.toNatClampNeg : Int)) (c48_1 : ¬ (uc.1 1265) ≤ (x5 : Int32)) (c61_2 : ¬ (((uc.1 1269) >>> (x5 &&& 31)) &&& 1 : Int32) = 1) : 0 ≤ (uc.1 1265 : Int32) ∧ (uc.1 1265 : Int32) ≤ 12 := by
  have hz1239 := hI.1.s1239
  exact h_t
set_option maxRecDepth 100000 in
theorem g_X12_set_f_v3 (u : qS) (x : Int32) (y : Int32) (z : Int32) (k : qS) (x4 : Int32) (x5 : Int32) (uc : qS) (hI : IM u) (hSc : g_rw (u.2.1 1262) 120 0 1001) (hk : IK k u) (h_k : 0 ≤ x5 ∧ x5 ≤ uc.1 1265) (h_t : 0 ≤ uc.1 1265 ∧ uc.1 1265 ≤ 12) (h_S : g_rw (uc.2.1 1262) 120 0 1001) (h_D : (0 ≤ x ∧ x < u.1 1239) ∧ (0 ≤ y ∧ y ≤ 9999) ∧ 0 ≤ z) (h_9 : uc.1 1269 = f_fz k x y) (h_T : f_T (f_gp k x y) (k.1 1247).toNatClampNeg (f_n (f_gp k x y) (k.1 1247).toNatClampNeg) (uc.2.1 1266)) (h_N : (uc.1 1265).toInt = (f_n (f_gp k x y) (k.1 1247).toNatClampNeg : Int)) (h_4 : 0 ≤ x4.toInt ∧ x4.toInt = z.toInt - (k_ct (s_b (f_fz k x y)) x5.toNatClampNeg : Int)) (c48_1 : ¬ (uc.1 1265) ≤ (x5 : Int32)) (c61_2 : ¬ (((uc.1 1269) >>> (x5 &&& 31)) &&& 1 : Int32) = 1) : g_rw ((uc.2.1 1262)) 120 0 1001 := by
  have hz1239 := hI.1.s1239
  first | exact h_S | exact (by assumption : g_rw _ _ _ _ ∧ f_fi k _).1
set_option maxRecDepth 100000 in
theorem g_X12_set_f_v4 (u : qS) (x : Int32) (y : Int32) (z : Int32) (k : qS) (x4 : Int32) (x5 : Int32) (uc : qS) (hI : IM u) (hSc : g_rw (u.2.1 1262) 120 0 1001) (hk : IK k u) (h_k : 0 ≤ x5 ∧ x5 ≤ uc.1 1265) (h_t : 0 ≤ uc.1 1265 ∧ uc.1 1265 ≤ 12) (h_S : g_rw (uc.2.1 1262) 120 0 1001) (h_D : (0 ≤ x ∧ x < u.1 1239) ∧ (0 ≤ y ∧ y ≤ 9999) ∧ 0 ≤ z) (h_9 : uc.1 1269 = f_fz k x y) (h_T : f_T (f_gp k x y) (k.1 1247).toNatClampNeg (f_n (f_gp k x y) (k.1 1247).toNatClampNeg) (uc.2.1 1266)) (h_N : (uc.1 1265).toInt = (f_n (f_gp k x y) (k.1 1247).toNatClampNeg : Int)) (h_4 : 0 ≤ x4.toInt ∧ x4.toInt = z.toInt - (k_ct (s_b (f_fz k x y)) x5.toNatClampNeg : Int)) (c48_1 : ¬ (uc.1 1265) ≤ (x5 : Int32)) (c61_2 : ¬ (((uc.1 1269) >>> (x5 &&& 31)) &&& 1 : Int32) = 1) : (0 ≤ x ∧ x < u.1 1239) ∧ (0 ≤ y ∧ y ≤ 9999) ∧ 0 ≤ z := by
  have hz1239 := hI.1.s1239
  exact h_D
set_option maxRecDepth 100000 in
theorem g_X12_set_f_v5 (u : qS) (x : Int32) (y : Int32) (z : Int32) (k : qS) (x4 : Int32) (x5 : Int32) (uc : qS) (hI : IM u) (hSc : g_rw (u.2.1 1262) 120 0 1001) (hk : IK k u) (h_k : 0 ≤ x5 ∧ x5 ≤ uc.1 1265) (h_t : 0 ≤ uc.1 1265 ∧ uc.1 1265 ≤ 12) (h_S : g_rw (uc.2.1 1262) 120 0 1001) (h_D : (0 ≤ x ∧ x < u.1 1239) ∧ (0 ≤ y ∧ y ≤ 9999) ∧ 0 ≤ z) (h_9 : uc.1 1269 = f_fz k x y) (h_T : f_T (f_gp k x y) (k.1 1247).toNatClampNeg (f_n (f_gp k x y) (k.1 1247).toNatClampNeg) (uc.2.1 1266)) (h_N : (uc.1 1265).toInt = (f_n (f_gp k x y) (k.1 1247).toNatClampNeg : Int)) (h_4 : 0 ≤ x4.toInt ∧ x4.toInt = z.toInt - (k_ct (s_b (f_fz k x y)) x5.toNatClampNeg : Int)) (c48_1 : ¬ (uc.1 1265) ≤ (x5 : Int32)) (c61_2 : ¬ (((uc.1 1269) >>> (x5 &&& 31)) &&& 1 : Int32) = 1) : (uc.1 1269 : Int32) = f_fz k x y := by
  have hz1239 := hI.1.s1239
  exact h_9
set_option maxRecDepth 100000 in
theorem g_X12_set_f_v6 (u : qS) (x : Int32) (y : Int32) (z : Int32) (k : qS) (x4 : Int32) (x5 : Int32) (uc : qS) (hI : IM u) (hSc : g_rw (u.2.1 1262) 120 0 1001) (hk : IK k u) (h_k : 0 ≤ x5 ∧ x5 ≤ uc.1 1265) (h_t : 0 ≤ uc.1 1265 ∧ uc.1 1265 ≤ 12) (h_S : g_rw (uc.2.1 1262) 120 0 1001) (h_D : (0 ≤ x ∧ x < u.1 1239) ∧ (0 ≤ y ∧ y ≤ 9999) ∧ 0 ≤ z) (h_9 : uc.1 1269 = f_fz k x y) (h_T : f_T (f_gp k x y) (k.1 1247).toNatClampNeg (f_n (f_gp k x y) (k.1 1247).toNatClampNeg) (uc.2.1 1266)) (h_N : (uc.1 1265).toInt = (f_n (f_gp k x y) (k.1 1247).toNatClampNeg : Int)) (h_4 : 0 ≤ x4.toInt ∧ x4.toInt = z.toInt - (k_ct (s_b (f_fz k x y)) x5.toNatClampNeg : Int)) (c48_1 : ¬ (uc.1 1265) ≤ (x5 : Int32)) (c61_2 : ¬ (((uc.1 1269) >>> (x5 &&& 31)) &&& 1 : Int32) = 1) : f_T (f_gp k x y) (k.1 1247).toNatClampNeg (f_n (f_gp k x y) (k.1 1247).toNatClampNeg) ((uc.2.1 1266)) := by
  have hz1239 := hI.1.s1239
  exact h_T
set_option maxRecDepth 100000 in
theorem g_X12_set_f_v7 (u : qS) (x : Int32) (y : Int32) (z : Int32) (k : qS) (x4 : Int32) (x5 : Int32) (uc : qS) (hI : IM u) (hSc : g_rw (u.2.1 1262) 120 0 1001) (hk : IK k u) (h_k : 0 ≤ x5 ∧ x5 ≤ uc.1 1265) (h_t : 0 ≤ uc.1 1265 ∧ uc.1 1265 ≤ 12) (h_S : g_rw (uc.2.1 1262) 120 0 1001) (h_D : (0 ≤ x ∧ x < u.1 1239) ∧ (0 ≤ y ∧ y ≤ 9999) ∧ 0 ≤ z) (h_9 : uc.1 1269 = f_fz k x y) (h_T : f_T (f_gp k x y) (k.1 1247).toNatClampNeg (f_n (f_gp k x y) (k.1 1247).toNatClampNeg) (uc.2.1 1266)) (h_N : (uc.1 1265).toInt = (f_n (f_gp k x y) (k.1 1247).toNatClampNeg : Int)) (h_4 : 0 ≤ x4.toInt ∧ x4.toInt = z.toInt - (k_ct (s_b (f_fz k x y)) x5.toNatClampNeg : Int)) (c48_1 : ¬ (uc.1 1265) ≤ (x5 : Int32)) (c61_2 : ¬ (((uc.1 1269) >>> (x5 &&& 31)) &&& 1 : Int32) = 1) : ((uc.1 1265 : Int32)).toInt = (f_n (f_gp k x y) (k.1 1247).toNatClampNeg : Int) := by
  have hz1239 := hI.1.s1239
  exact h_N
set_option maxRecDepth 100000 in
theorem g_X12_set_f_v8 (u : qS) (x : Int32) (y : Int32) (z : Int32) (k : qS) (x4 : Int32) (x5 : Int32) (uc : qS) (hI : IM u) (hSc : g_rw (u.2.1 1262) 120 0 1001) (hk : IK k u) (h_k : 0 ≤ x5 ∧ x5 ≤ uc.1 1265) (h_t : 0 ≤ uc.1 1265 ∧ uc.1 1265 ≤ 12) (h_S : g_rw (uc.2.1 1262) 120 0 1001) (h_D : (0 ≤ x ∧ x < u.1 1239) ∧ (0 ≤ y ∧ y ≤ 9999) ∧ 0 ≤ z) (h_9 : uc.1 1269 = f_fz k x y) (h_T : f_T (f_gp k x y) (k.1 1247).toNatClampNeg (f_n (f_gp k x y) (k.1 1247).toNatClampNeg) (uc.2.1 1266)) (h_N : (uc.1 1265).toInt = (f_n (f_gp k x y) (k.1 1247).toNatClampNeg : Int)) (h_4 : 0 ≤ x4.toInt ∧ x4.toInt = z.toInt - (k_ct (s_b (f_fz k x y)) x5.toNatClampNeg : Int)) (c48_1 : ¬ (uc.1 1265) ≤ (x5 : Int32)) (c61_2 : ¬ (((uc.1 1269) >>> (x5 &&& 31)) &&& 1 : Int32) = 1) : 0 ≤ x4.toInt ∧ x4.toInt = z.toInt - (k_ct (s_b (f_fz k x y)) (x5 + 1).toNatClampNeg : Int) := by
  have hz1239 := hI.1.s1239
  have q5 : 0 ≤ x5.toInt ∧ x5.toInt < (uc.1 1265).toInt ∧ (uc.1 1265).toInt ≤ 12 := (by clear h_S h_T h_4 h_9; (try simp only [g_m1, Int32.lt_iff_toInt_lt, Int32.le_iff_toInt_le, ← Int32.toInt_inj, Int32.reduceToInt] at *); omega)
  have c5 := g_clamp x5
  have e5 := (g_up (i := x5) q5.1 (by omega)).2
  have bt := s_bitI (x := uc.1 1269) (i := x5) q5.1 (by omega)
  rw [h_9] at bt
  rw [e5]
  first
  | (have nz : ¬ x4 = 0 := (by assumption)
     have z4 : x4.toInt ≠ 0 := fun e => nz (Int32.toInt_inj.mp e)
     have d4 : (x4 + -1).toInt = x4.toInt - 1 := (g_dn (i := x4) (by omega)).1
     rw [k_ct_t (by have w : uc.1 1269 >>> (x5 &&& 31) &&& 1 = 1 := (by with_reducible assumption); rw [h_9] at w; exact bt.mp w), d4]; omega)
  | (rw [k_ct_f (by have w : ¬ uc.1 1269 >>> (x5 &&& 31) &&& 1 = 1 := (by with_reducible assumption); rw [h_9] at w; exact Bool.eq_false_iff.mpr (fun e => w (bt.mpr e)))]; exact h_4)
set_option maxRecDepth 100000 in
theorem g_X12_set_f_v9 (u : qS) (x : Int32) (y : Int32) (z : Int32) (k : qS) (x4 : Int32) (x5 : Int32) (uc : qS) (hI : IM u) (hSc : g_rw (u.2.1 1262) 120 0 1001) (hk : IK k u) (h_k : 0 ≤ x5 ∧ x5 ≤ uc.1 1265) (h_t : 0 ≤ uc.1 1265 ∧ uc.1 1265 ≤ 12) (h_S : g_rw (uc.2.1 1262) 120 0 1001) (h_D : (0 ≤ x ∧ x < u.1 1239) ∧ (0 ≤ y ∧ y ≤ 9999) ∧ 0 ≤ z) (h_9 : uc.1 1269 = f_fz k x y) (h_T : f_T (f_gp k x y) (k.1 1247).toNatClampNeg (f_n (f_gp k x y) (k.1 1247).toNatClampNeg) (uc.2.1 1266)) (h_N : (uc.1 1265).toInt = (f_n (f_gp k x y) (k.1 1247).toNatClampNeg : Int)) (h_4 : 0 ≤ x4.toInt ∧ x4.toInt = z.toInt - (k_ct (s_b (f_fz k x y)) x5.toNatClampNeg : Int)) (c48_1 : ¬ (uc.1 1265) ≤ (x5 : Int32)) (c61_2 : ¬ (((uc.1 1269) >>> (x5 &&& 31)) &&& 1 : Int32) = 1) : (((uc.1 1265 : Int32)).toInt - (x5 + 1).toInt).toNat < ((uc.1 1265).toInt - x5.toInt).toNat := by
  have hz1239 := hI.1.s1239
  clear h_S h_T h_4 h_9; (try simp only [g_m1, Int32.lt_iff_toInt_lt, Int32.le_iff_toInt_le, ← Int32.toInt_inj, Int32.toInt_add, Int32.toInt_sub, Int32.toInt_mul, Int32.toInt_neg, Int32.reduceToInt, g_bm, g_bm'] at *); omega
set_option maxRecDepth 100000 in
theorem g_X12_set_f_v10 (u : qS) (x : Int32) (y : Int32) (z : Int32) (k : qS) (x4 : Int32) (x5 : Int32) (uc : qS) (hI : IM u) (hSc : g_rw (u.2.1 1262) 120 0 1001) (hk : IK k u) (h_k : 0 ≤ x5 ∧ x5 ≤ uc.1 1265) (h_t : 0 ≤ uc.1 1265 ∧ uc.1 1265 ≤ 12) (h_S : g_rw (uc.2.1 1262) 120 0 1001) (h_D : (0 ≤ x ∧ x < u.1 1239) ∧ (0 ≤ y ∧ y ≤ 9999) ∧ 0 ≤ z) (h_9 : uc.1 1269 = f_fz k x y) (h_T : f_T (f_gp k x y) (k.1 1247).toNatClampNeg (f_n (f_gp k x y) (k.1 1247).toNatClampNeg) (uc.2.1 1266)) (h_N : (uc.1 1265).toInt = (f_n (f_gp k x y) (k.1 1247).toNatClampNeg : Int)) (h_4 : 0 ≤ x4.toInt ∧ x4.toInt = z.toInt - (k_ct (s_b (f_fz k x y)) x5.toNatClampNeg : Int)) (c48_1 : ¬ (uc.1 1265) ≤ (x5 : Int32)) (c61_2 : (((uc.1 1269) >>> (x5 &&& 31)) &&& 1 : Int32) = 1) (c66_3 : ¬ (x4 : Int32) = 0) : 0 ≤ (x5 + 1) ∧ (x5 + 1) ≤ (uc.1 1265 : Int32) := by
  have hz1239 := hI.1.s1239
  clear h_S h_T h_4 h_9; (try simp only [g_m1, Int32.lt_iff_toInt_lt, Int32.le_iff_toInt_le, ← Int32.toInt_inj, Int32.toInt_add, Int32.toInt_sub, Int32.toInt_mul, Int32.toInt_neg, Int32.reduceToInt, g_bm, g_bm'] at *); omega
set_option maxRecDepth 100000 in
theorem g_X12_set_f_v11 (u : qS) (x : Int32) (y : Int32) (z : Int32) (k : qS) (x4 : Int32) (x5 : Int32) (uc : qS) (hI : IM u) (hSc : g_rw (u.2.1 1262) 120 0 1001) (hk : IK k u) (h_k : 0 ≤ x5 ∧ x5 ≤ uc.1 1265) (h_t : 0 ≤ uc.1 1265 ∧ uc.1 1265 ≤ 12) (h_S : g_rw (uc.2.1 1262) 120 0 1001) (h_D : (0 ≤ x ∧ x < u.1 1239) ∧ (0 ≤ y ∧ y ≤ 9999) ∧ 0 ≤ z) (h_9 : uc.1 1269 = f_fz k x y) (h_T : f_T (f_gp k x y) (k.1 1247).toNatClampNeg (f_n (f_gp k x y) (k.1 1247).toNatClampNeg) (uc.2.1 1266)) (h_N : (uc.1 1265).toInt = (f_n (f_gp k x y) (k.1 1247).toNatClampNeg : Int)) (h_4 : 0 ≤ x4.toInt ∧ x4.toInt = z.toInt - (k_ct (s_b (f_fz k x y)) x5.toNatClampNeg : Int)) (c48_1 : ¬ (uc.1 1265) ≤ (x5 : Int32)) (c61_2 : (((uc.1 1269) >>> (x5 &&& 31)) &&& 1 : Int32) = 1) (c66_3 : ¬ (x4 : Int32) = 0) : 0 ≤ (uc.1 1265 : Int32) ∧ (uc.1 1265 : Int32) ≤ 12 := by
  have hz1239 := hI.1.s1239
  exact h_t
set_option maxRecDepth 100000 in
theorem g_X12_set_f_v12 (u : qS) (x : Int32) (y : Int32) (z : Int32) (k : qS) (x4 : Int32) (x5 : Int32) (uc : qS) (hI : IM u) (hSc : g_rw (u.2.1 1262) 120 0 1001) (hk : IK k u) (h_k : 0 ≤ x5 ∧ x5 ≤ uc.1 1265) (h_t : 0 ≤ uc.1 1265 ∧ uc.1 1265 ≤ 12) (h_S : g_rw (uc.2.1 1262) 120 0 1001) (h_D : (0 ≤ x ∧ x < u.1 1239) ∧ (0 ≤ y ∧ y ≤ 9999) ∧ 0 ≤ z) (h_9 : uc.1 1269 = f_fz k x y) (h_T : f_T (f_gp k x y) (k.1 1247).toNatClampNeg (f_n (f_gp k x y) (k.1 1247).toNatClampNeg) (uc.2.1 1266)) (h_N : (uc.1 1265).toInt = (f_n (f_gp k x y) (k.1 1247).toNatClampNeg : Int)) (h_4 : 0 ≤ x4.toInt ∧ x4.toInt = z.toInt - (k_ct (s_b (f_fz k x y)) x5.toNatClampNeg : Int)) (c48_1 : ¬ (uc.1 1265) ≤ (x5 : Int32)) (c61_2 : (((uc.1 1269) >>> (x5 &&& 31)) &&& 1 : Int32) = 1) (c66_3 : ¬ (x4 : Int32) = 0) : g_rw ((uc.2.1 1262)) 120 0 1001 := by
  have hz1239 := hI.1.s1239
  first | exact h_S | exact (by assumption : g_rw _ _ _ _ ∧ f_fi k _).1
set_option maxRecDepth 100000 in
theorem g_X12_set_f_v13 (u : qS) (x : Int32) (y : Int32) (z : Int32) (k : qS) (x4 : Int32) (x5 : Int32) (uc : qS) (hI : IM u) (hSc : g_rw (u.2.1 1262) 120 0 1001) (hk : IK k u) (h_k : 0 ≤ x5 ∧ x5 ≤ uc.1 1265) (h_t : 0 ≤ uc.1 1265 ∧ uc.1 1265 ≤ 12) (h_S : g_rw (uc.2.1 1262) 120 0 1001) (h_D : (0 ≤ x ∧ x < u.1 1239) ∧ (0 ≤ y ∧ y ≤ 9999) ∧ 0 ≤ z) (h_9 : uc.1 1269 = f_fz k x y) (h_T : f_T (f_gp k x y) (k.1 1247).toNatClampNeg (f_n (f_gp k x y) (k.1 1247).toNatClampNeg) (uc.2.1 1266)) (h_N : (uc.1 1265).toInt = (f_n (f_gp k x y) (k.1 1247).toNatClampNeg : Int)) (h_4 : 0 ≤ x4.toInt ∧ x4.toInt = z.toInt - (k_ct (s_b (f_fz k x y)) x5.toNatClampNeg : Int)) (c48_1 : ¬ (uc.1 1265) ≤ (x5 : Int32)) (c61_2 : (((uc.1 1269) >>> (x5 &&& 31)) &&& 1 : Int32) = 1) (c66_3 : ¬ (x4 : Int32) = 0) : (0 ≤ x ∧ x < u.1 1239) ∧ (0 ≤ y ∧ y ≤ 9999) ∧ 0 ≤ z := by
  have hz1239 := hI.1.s1239
  exact h_D
set_option maxRecDepth 100000 in
theorem g_X12_set_f_v14 (u : qS) (x : Int32) (y : Int32) (z : Int32) (k : qS) (x4 : Int32) (x5 : Int32) (uc : qS) (hI : IM u) (hSc : g_rw (u.2.1 1262) 120 0 1001) (hk : IK k u) (h_k : 0 ≤ x5 ∧ x5 ≤ uc.1 1265) (h_t : 0 ≤ uc.1 1265 ∧ uc.1 1265 ≤ 12) (h_S : g_rw (uc.2.1 1262) 120 0 1001) (h_D : (0 ≤ x ∧ x < u.1 1239) ∧ (0 ≤ y ∧ y ≤ 9999) ∧ 0 ≤ z) (h_9 : uc.1 1269 = f_fz k x y) (h_T : f_T (f_gp k x y) (k.1 1247).toNatClampNeg (f_n (f_gp k x y) (k.1 1247).toNatClampNeg) (uc.2.1 1266)) (h_N : (uc.1 1265).toInt = (f_n (f_gp k x y) (k.1 1247).toNatClampNeg : Int)) (h_4 : 0 ≤ x4.toInt ∧ x4.toInt = z.toInt - (k_ct (s_b (f_fz k x y)) x5.toNatClampNeg : Int)) (c48_1 : ¬ (uc.1 1265) ≤ (x5 : Int32)) (c61_2 : (((uc.1 1269) >>> (x5 &&& 31)) &&& 1 : Int32) = 1) (c66_3 : ¬ (x4 : Int32) = 0) : (uc.1 1269 : Int32) = f_fz k x y := by
  have hz1239 := hI.1.s1239
  exact h_9
set_option maxRecDepth 100000 in
theorem g_X12_set_f_v15 (u : qS) (x : Int32) (y : Int32) (z : Int32) (k : qS) (x4 : Int32) (x5 : Int32) (uc : qS) (hI : IM u) (hSc : g_rw (u.2.1 1262) 120 0 1001) (hk : IK k u) (h_k : 0 ≤ x5 ∧ x5 ≤ uc.1 1265) (h_t : 0 ≤ uc.1 1265 ∧ uc.1 1265 ≤ 12) (h_S : g_rw (uc.2.1 1262) 120 0 1001) (h_D : (0 ≤ x ∧ x < u.1 1239) ∧ (0 ≤ y ∧ y ≤ 9999) ∧ 0 ≤ z) (h_9 : uc.1 1269 = f_fz k x y) (h_T : f_T (f_gp k x y) (k.1 1247).toNatClampNeg (f_n (f_gp k x y) (k.1 1247).toNatClampNeg) (uc.2.1 1266)) (h_N : (uc.1 1265).toInt = (f_n (f_gp k x y) (k.1 1247).toNatClampNeg : Int)) (h_4 : 0 ≤ x4.toInt ∧ x4.toInt = z.toInt - (k_ct (s_b (f_fz k x y)) x5.toNatClampNeg : Int)) (c48_1 : ¬ (uc.1 1265) ≤ (x5 : Int32)) (c61_2 : (((uc.1 1269) >>> (x5 &&& 31)) &&& 1 : Int32) = 1) (c66_3 : ¬ (x4 : Int32) = 0) : f_T (f_gp k x y) (k.1 1247).toNatClampNeg (f_n (f_gp k x y) (k.1 1247).toNatClampNeg) ((uc.2.1 1266)) := by
  have hz1239 := hI.1.s1239
  exact h_T
set_option maxRecDepth 100000 in
theorem g_X12_set_f_v16 (u : qS) (x : Int32) (y : Int32) (z : Int32) (k : qS) (x4 : Int32) (x5 : Int32) (uc : qS) (hI : IM u) (hSc : g_rw (u.2.1 1262) 120 0 1001) (hk : IK k u) (h_k : 0 ≤ x5 ∧ x5 ≤ uc.1 1265) (h_t : 0 ≤ uc.1 1265 ∧ uc.1 1265 ≤ 12) (h_S : g_rw (uc.2.1 1262) 120 0 1001) (h_D : (0 ≤ x ∧ x < u.1 1239) ∧ (0 ≤ y ∧ y ≤ 9999) ∧ 0 ≤ z) (h_9 : uc.1 1269 = f_fz k x y) (h_T : f_T (f_gp k x y) (k.1 1247).toNatClampNeg (f_n (f_gp k x y) (k.1 1247).toNatClampNeg) (uc.2.1 1266)) (h_N : (uc.1 1265).toInt = (f_n (f_gp k x y) (k.1 1247).toNatClampNeg : Int)) (h_4 : 0 ≤ x4.toInt ∧ x4.toInt = z.toInt - (k_ct (s_b (f_fz k x y)) x5.toNatClampNeg : Int)) (c48_1 : ¬ (uc.1 1265) ≤ (x5 : Int32)) (c61_2 : (((uc.1 1269) >>> (x5 &&& 31)) &&& 1 : Int32) = 1) (c66_3 : ¬ (x4 : Int32) = 0) : ((uc.1 1265 : Int32)).toInt = (f_n (f_gp k x y) (k.1 1247).toNatClampNeg : Int) := by
  have hz1239 := hI.1.s1239
  exact h_N
set_option maxRecDepth 100000 in
theorem g_X12_set_f_v17 (u : qS) (x : Int32) (y : Int32) (z : Int32) (k : qS) (x4 : Int32) (x5 : Int32) (uc : qS) (hI : IM u) (hSc : g_rw (u.2.1 1262) 120 0 1001) (hk : IK k u) (h_k : 0 ≤ x5 ∧ x5 ≤ uc.1 1265) (h_t : 0 ≤ uc.1 1265 ∧ uc.1 1265 ≤ 12) (h_S : g_rw (uc.2.1 1262) 120 0 1001) (h_D : (0 ≤ x ∧ x < u.1 1239) ∧ (0 ≤ y ∧ y ≤ 9999) ∧ 0 ≤ z) (h_9 : uc.1 1269 = f_fz k x y) (h_T : f_T (f_gp k x y) (k.1 1247).toNatClampNeg (f_n (f_gp k x y) (k.1 1247).toNatClampNeg) (uc.2.1 1266)) (h_N : (uc.1 1265).toInt = (f_n (f_gp k x y) (k.1 1247).toNatClampNeg : Int)) (h_4 : 0 ≤ x4.toInt ∧ x4.toInt = z.toInt - (k_ct (s_b (f_fz k x y)) x5.toNatClampNeg : Int)) (c48_1 : ¬ (uc.1 1265) ≤ (x5 : Int32)) (c61_2 : (((uc.1 1269) >>> (x5 &&& 31)) &&& 1 : Int32) = 1) (c66_3 : ¬ (x4 : Int32) = 0) : 0 ≤ (x4 + (-1)).toInt ∧ (x4 + (-1)).toInt = z.toInt - (k_ct (s_b (f_fz k x y)) (x5 + 1).toNatClampNeg : Int) := by
  have hz1239 := hI.1.s1239
  have q5 : 0 ≤ x5.toInt ∧ x5.toInt < (uc.1 1265).toInt ∧ (uc.1 1265).toInt ≤ 12 := (by clear h_S h_T h_4 h_9; (try simp only [g_m1, Int32.lt_iff_toInt_lt, Int32.le_iff_toInt_le, ← Int32.toInt_inj, Int32.reduceToInt] at *); omega)
  have c5 := g_clamp x5
  have e5 := (g_up (i := x5) q5.1 (by omega)).2
  have bt := s_bitI (x := uc.1 1269) (i := x5) q5.1 (by omega)
  rw [h_9] at bt
  rw [e5]
  first
  | (have nz : ¬ x4 = 0 := (by assumption)
     have z4 : x4.toInt ≠ 0 := fun e => nz (Int32.toInt_inj.mp e)
     have d4 : (x4 + -1).toInt = x4.toInt - 1 := (g_dn (i := x4) (by omega)).1
     rw [k_ct_t (by have w : uc.1 1269 >>> (x5 &&& 31) &&& 1 = 1 := (by with_reducible assumption); rw [h_9] at w; exact bt.mp w), d4]; omega)
  | (rw [k_ct_f (by have w : ¬ uc.1 1269 >>> (x5 &&& 31) &&& 1 = 1 := (by with_reducible assumption); rw [h_9] at w; exact Bool.eq_false_iff.mpr (fun e => w (bt.mpr e)))]; exact h_4)
set_option maxRecDepth 100000 in
theorem g_X12_set_f_v18 (u : qS) (x : Int32) (y : Int32) (z : Int32) (k : qS) (x4 : Int32) (x5 : Int32) (uc : qS) (hI : IM u) (hSc : g_rw (u.2.1 1262) 120 0 1001) (hk : IK k u) (h_k : 0 ≤ x5 ∧ x5 ≤ uc.1 1265) (h_t : 0 ≤ uc.1 1265 ∧ uc.1 1265 ≤ 12) (h_S : g_rw (uc.2.1 1262) 120 0 1001) (h_D : (0 ≤ x ∧ x < u.1 1239) ∧ (0 ≤ y ∧ y ≤ 9999) ∧ 0 ≤ z) (h_9 : uc.1 1269 = f_fz k x y) (h_T : f_T (f_gp k x y) (k.1 1247).toNatClampNeg (f_n (f_gp k x y) (k.1 1247).toNatClampNeg) (uc.2.1 1266)) (h_N : (uc.1 1265).toInt = (f_n (f_gp k x y) (k.1 1247).toNatClampNeg : Int)) (h_4 : 0 ≤ x4.toInt ∧ x4.toInt = z.toInt - (k_ct (s_b (f_fz k x y)) x5.toNatClampNeg : Int)) (c48_1 : ¬ (uc.1 1265) ≤ (x5 : Int32)) (c61_2 : (((uc.1 1269) >>> (x5 &&& 31)) &&& 1 : Int32) = 1) (c66_3 : ¬ (x4 : Int32) = 0) : (((uc.1 1265 : Int32)).toInt - (x5 + 1).toInt).toNat < ((uc.1 1265).toInt - x5.toInt).toNat := by
  have hz1239 := hI.1.s1239
  clear h_S h_T h_4 h_9; (try simp only [g_m1, Int32.lt_iff_toInt_lt, Int32.le_iff_toInt_le, ← Int32.toInt_inj, Int32.toInt_add, Int32.toInt_sub, Int32.toInt_mul, Int32.toInt_neg, Int32.reduceToInt, g_bm, g_bm'] at *); omega
set_option maxRecDepth 100000 in
theorem g_X12_set_f_v19 (u : qS) (x : Int32) (y : Int32) (z : Int32) (k : qS) (x4 : Int32) (x5 : Int32) (uc : qS) (hI : IM u) (hSc : g_rw (u.2.1 1262) 120 0 1001) (hk : IK k u) (h_k : 0 ≤ x5 ∧ x5 ≤ uc.1 1265) (h_t : 0 ≤ uc.1 1265 ∧ uc.1 1265 ≤ 12) (h_S : g_rw (uc.2.1 1262) 120 0 1001) (h_D : (0 ≤ x ∧ x < u.1 1239) ∧ (0 ≤ y ∧ y ≤ 9999) ∧ 0 ≤ z) (h_9 : uc.1 1269 = f_fz k x y) (h_T : f_T (f_gp k x y) (k.1 1247).toNatClampNeg (f_n (f_gp k x y) (k.1 1247).toNatClampNeg) (uc.2.1 1266)) (h_N : (uc.1 1265).toInt = (f_n (f_gp k x y) (k.1 1247).toNatClampNeg : Int)) (h_4 : 0 ≤ x4.toInt ∧ x4.toInt = z.toInt - (k_ct (s_b (f_fz k x y)) x5.toNatClampNeg : Int)) (c48_1 : ¬ (uc.1 1265) ≤ (x5 : Int32)) (c61_2 : (((uc.1 1269) >>> (x5 &&& 31)) &&& 1 : Int32) = 1) (c66_3 : (x4 : Int32) = 0) : vp_in (x5) 12 := by
  have hz1239 := hI.1.s1239
  clear h_S h_T h_4 h_9; refine g_in ?_ ?_ <;> ((try simp only [g_m1, Int32.lt_iff_toInt_lt, Int32.le_iff_toInt_le, ← Int32.toInt_inj, Int32.reduceToInt] at *); omega)
set_option maxRecDepth 100000 in
theorem g_X12_set_f_v20 (u : qS) (x : Int32) (y : Int32) (z : Int32) (k : qS) (x4 : Int32) (x5 : Int32) (uc : qS) (hI : IM u) (hSc : g_rw (u.2.1 1262) 120 0 1001) (hk : IK k u) (h_k : 0 ≤ x5 ∧ x5 ≤ uc.1 1265) (h_t : 0 ≤ uc.1 1265 ∧ uc.1 1265 ≤ 12) (h_S : g_rw (uc.2.1 1262) 120 0 1001) (h_D : (0 ≤ x ∧ x < u.1 1239) ∧ (0 ≤ y ∧ y ≤ 9999) ∧ 0 ≤ z) (h_9 : uc.1 1269 = f_fz k x y) (h_T : f_T (f_gp k x y) (k.1 1247).toNatClampNeg (f_n (f_gp k x y) (k.1 1247).toNatClampNeg) (uc.2.1 1266)) (h_N : (uc.1 1265).toInt = (f_n (f_gp k x y) (k.1 1247).toNatClampNeg : Int)) (h_4 : 0 ≤ x4.toInt ∧ x4.toInt = z.toInt - (k_ct (s_b (f_fz k x y)) x5.toNatClampNeg : Int)) (c48_1 : ¬ (uc.1 1265) ≤ (x5 : Int32)) (c61_2 : (((uc.1 1269) >>> (x5 &&& 31)) &&& 1 : Int32) = 1) (c66_3 : (x4 : Int32) = 0) : (g_rw ((uc.2.1 1262)) 120 0 1001) ∧ ((((0 ≤ x ∧ x < u.1 1239) ∧ (0 ≤ y ∧ y ≤ 9999) ∧ 0 ≤ z) ∧ k_nth (s_b (f_fz k x y)) (f_n (f_gp k x y) (k.1 1247).toNatClampNeg) z.toNatClampNeg (f_V k x y) (uc.2.1 1266 (x5 : Int32).toNatClampNeg : Int32)) ∨ (¬ ((0 ≤ x ∧ x < u.1 1239) ∧ (0 ≤ y ∧ y ≤ 9999) ∧ 0 ≤ z) ∧ (uc.2.1 1266 (x5 : Int32).toNatClampNeg : Int32) = -1)) := by
  have hz1239 := hI.1.s1239
  first
  | exact ⟨hSc, Or.inr ⟨fun q => (by obtain ⟨q1, q2, q3⟩ := q; first | exact absurd q1 (by assumption) | exact absurd q2 (by assumption) | exact absurd q3 (by first | assumption | exact Int32.not_le.mpr (by assumption))), rfl⟩⟩
  | (have q5 : 0 ≤ x5.toInt ∧ x5.toInt < (uc.1 1265).toInt ∧ (uc.1 1265).toInt ≤ 12 := (by clear h_S h_T h_4 h_9; (try simp only [g_m1, Int32.lt_iff_toInt_lt, Int32.le_iff_toInt_le, ← Int32.toInt_inj, Int32.reduceToInt] at *); omega)
     have c5 := g_clamp x5
     have e5 := (g_up (i := x5) q5.1 (by omega)).2
     have bt := s_bitI (x := uc.1 1269) (i := x5) q5.1 (by omega)
     rw [h_9] at bt
     have e4 : x4 = 0 := (by assumption)
     rw [e4] at h_4
     have e0 : (0 : Int32).toInt = 0 := rfl
     have cz := g_clamp z
     have tt := h_T.2 x5.toNatClampNeg (by omega)
     have v := f_V.at tt.2.1
     rw [tt.2.2] at v
     exact ⟨h_S, Or.inl ⟨h_D, Or.inl ⟨x5.toNatClampNeg, by omega, (by have w : uc.1 1269 >>> (x5 &&& 31) &&& 1 = 1 := (by with_reducible assumption); rw [h_9] at w; exact bt.mp w), by omega, v.symm⟩⟩⟩)
  | (have e : x5 = uc.1 1265 := Int32.toInt_inj.mp (by clear h_S h_T h_4 h_9; (try simp only [g_m1, Int32.lt_iff_toInt_lt, Int32.le_iff_toInt_le, ← Int32.toInt_inj, Int32.reduceToInt] at *); omega)
     have c := g_clamp (uc.1 1265)
     have cz := g_clamp z
     rw [e, show (uc.1 1265).toNatClampNeg = f_n (f_gp k x y) (k.1 1247).toNatClampNeg by omega] at h_4
     exact ⟨h_S, Or.inl ⟨h_D, Or.inr ⟨by omega, rfl⟩⟩⟩)
set_option maxRecDepth 100000 in
theorem g_X12_set_f_v21 (u : qS) (x : Int32) (y : Int32) (z : Int32) (k : qS) (hI : IM u) (hSc : g_rw (u.2.1 1262) 120 0 1001) (hk : IK k u) (b7_7 : 0 ≤ x ∧ x < (u.1 1239 : Int32)) (b14_11 : 0 ≤ y ∧ y ≤ 9999) (c21_12 : 0 ≤ (z : Int32)) : g_rw ((u.2.1 1262)) 120 0 1001 := by
  have hz1239 := hI.1.s1239
  assumption
set_option maxRecDepth 100000 in
theorem g_X12_set_f_v22 (u : qS) (x : Int32) (y : Int32) (z : Int32) (k : qS) (u_13 : qS) (hI : IM u) (hSc : g_rw (u.2.1 1262) 120 0 1001) (hk : IK k u) (b7_7 : 0 ≤ x ∧ x < (u.1 1239 : Int32)) (b14_11 : 0 ≤ y ∧ y ≤ 9999) (c21_12 : 0 ≤ (z : Int32)) (hw_14 : g_rw (u_13.2.1 1262) 120 0 1001 ∧ f_fi k (u_13.2.1 1264)) : f_a1 k ((u_13.2.1 1264)) := by
  have hz1239 := hI.1.s1239
  exact (by assumption : _ ∧ f_fi k _).2.a1
set_option maxRecDepth 100000 in
theorem g_X12_set_f_v23 (u : qS) (x : Int32) (y : Int32) (z : Int32) (k : qS) (u_13 : qS) (u_17 : qS) (hI : IM u) (hSc : g_rw (u.2.1 1262) 120 0 1001) (hk : IK k u) (b7_7 : 0 ≤ x ∧ x < (u.1 1239 : Int32)) (b14_11 : 0 ≤ y ∧ y ≤ 9999) (c21_12 : 0 ≤ (z : Int32)) (hw_14 : g_rw (u_13.2.1 1262) 120 0 1001 ∧ f_fi k (u_13.2.1 1264)) (hw_18 : ((((0 ≤ u_17.1 1265 ∧ u_17.1 1265 ≤ 12) ∧ g_rw (u_17.2.1 1266) (u_17.1 1265).toInt 0 ((u.1 1247 : Int32)).toInt) ∧ u_17.1 1268 = (f_all k x y).1) ∧ u_17.1 1269 = f_fz k x y ∧ f_T (f_gp k x y) (k.1 1247).toNatClampNeg (f_n (f_gp k x y) (k.1 1247).toNatClampNeg) (u_17.2.1 1266) ∧ (u_17.1 1265).toInt = (f_n (f_gp k x y) (k.1 1247).toNatClampNeg : Int)) ∧ f_sw k x y (f_n (f_gp k x y) (k.1 1247).toNatClampNeg) ((u_13.2.1 1264)) (u_17.2.1 1264)) : 0 ≤ (0 : Int32) ∧ (0 : Int32) ≤ (u_17.1 1265 : Int32) := by
  have hz1247 := hI.1.s1247
  have hz1239 := hI.1.s1239
  exact ⟨by decide, (by assumption : ((((_ ∧ _) ∧ _) ∧ _) ∧ _ ∧ _ ∧ _) ∧ f_sw _ _ _ _ _ _).1.1.1.1.1⟩
set_option maxRecDepth 100000 in
theorem g_X12_set_f_v24 (u : qS) (x : Int32) (y : Int32) (z : Int32) (k : qS) (u_13 : qS) (u_17 : qS) (hI : IM u) (hSc : g_rw (u.2.1 1262) 120 0 1001) (hk : IK k u) (b7_7 : 0 ≤ x ∧ x < (u.1 1239 : Int32)) (b14_11 : 0 ≤ y ∧ y ≤ 9999) (c21_12 : 0 ≤ (z : Int32)) (hw_14 : g_rw (u_13.2.1 1262) 120 0 1001 ∧ f_fi k (u_13.2.1 1264)) (hw_18 : ((((0 ≤ u_17.1 1265 ∧ u_17.1 1265 ≤ 12) ∧ g_rw (u_17.2.1 1266) (u_17.1 1265).toInt 0 ((u.1 1247 : Int32)).toInt) ∧ u_17.1 1268 = (f_all k x y).1) ∧ u_17.1 1269 = f_fz k x y ∧ f_T (f_gp k x y) (k.1 1247).toNatClampNeg (f_n (f_gp k x y) (k.1 1247).toNatClampNeg) (u_17.2.1 1266) ∧ (u_17.1 1265).toInt = (f_n (f_gp k x y) (k.1 1247).toNatClampNeg : Int)) ∧ f_sw k x y (f_n (f_gp k x y) (k.1 1247).toNatClampNeg) ((u_13.2.1 1264)) (u_17.2.1 1264)) : 0 ≤ (u_17.1 1265 : Int32) ∧ (u_17.1 1265 : Int32) ≤ 12 := by
  have hz1247 := hI.1.s1247
  have hz1239 := hI.1.s1239
  exact (by assumption : ((((_ ∧ _) ∧ _) ∧ _) ∧ _ ∧ _ ∧ _) ∧ f_sw _ _ _ _ _ _).1.1.1.1
set_option maxRecDepth 100000 in
theorem g_X12_set_f_v25 (u : qS) (x : Int32) (y : Int32) (z : Int32) (k : qS) (u_13 : qS) (u_17 : qS) (hI : IM u) (hSc : g_rw (u.2.1 1262) 120 0 1001) (hk : IK k u) (b7_7 : 0 ≤ x ∧ x < (u.1 1239 : Int32)) (b14_11 : 0 ≤ y ∧ y ≤ 9999) (c21_12 : 0 ≤ (z : Int32)) (hw_14 : g_rw (u_13.2.1 1262) 120 0 1001 ∧ f_fi k (u_13.2.1 1264)) (hw_18 : ((((0 ≤ u_17.1 1265 ∧ u_17.1 1265 ≤ 12) ∧ g_rw (u_17.2.1 1266) (u_17.1 1265).toInt 0 ((u.1 1247 : Int32)).toInt) ∧ u_17.1 1268 = (f_all k x y).1) ∧ u_17.1 1269 = f_fz k x y ∧ f_T (f_gp k x y) (k.1 1247).toNatClampNeg (f_n (f_gp k x y) (k.1 1247).toNatClampNeg) (u_17.2.1 1266) ∧ (u_17.1 1265).toInt = (f_n (f_gp k x y) (k.1 1247).toNatClampNeg : Int)) ∧ f_sw k x y (f_n (f_gp k x y) (k.1 1247).toNatClampNeg) ((u_13.2.1 1264)) (u_17.2.1 1264)) : g_rw ((u_13.2.1 1262)) 120 0 1001 := by
  have hz1247 := hI.1.s1247
  have hz1239 := hI.1.s1239
  first | exact h_S | exact (by assumption : g_rw _ _ _ _ ∧ f_fi k _).1
set_option maxRecDepth 100000 in
theorem g_X12_set_f_v26 (u : qS) (x : Int32) (y : Int32) (z : Int32) (k : qS) (u_13 : qS) (u_17 : qS) (hI : IM u) (hSc : g_rw (u.2.1 1262) 120 0 1001) (hk : IK k u) (b7_7 : 0 ≤ x ∧ x < (u.1 1239 : Int32)) (b14_11 : 0 ≤ y ∧ y ≤ 9999) (c21_12 : 0 ≤ (z : Int32)) (hw_14 : g_rw (u_13.2.1 1262) 120 0 1001 ∧ f_fi k (u_13.2.1 1264)) (hw_18 : ((((0 ≤ u_17.1 1265 ∧ u_17.1 1265 ≤ 12) ∧ g_rw (u_17.2.1 1266) (u_17.1 1265).toInt 0 ((u.1 1247 : Int32)).toInt) ∧ u_17.1 1268 = (f_all k x y).1) ∧ u_17.1 1269 = f_fz k x y ∧ f_T (f_gp k x y) (k.1 1247).toNatClampNeg (f_n (f_gp k x y) (k.1 1247).toNatClampNeg) (u_17.2.1 1266) ∧ (u_17.1 1265).toInt = (f_n (f_gp k x y) (k.1 1247).toNatClampNeg : Int)) ∧ f_sw k x y (f_n (f_gp k x y) (k.1 1247).toNatClampNeg) ((u_13.2.1 1264)) (u_17.2.1 1264)) : (0 ≤ x ∧ x < u.1 1239) ∧ (0 ≤ y ∧ y ≤ 9999) ∧ 0 ≤ z := by
  have hz1247 := hI.1.s1247
  have hz1239 := hI.1.s1239
  exact ⟨by assumption, by assumption, by assumption⟩
set_option maxRecDepth 100000 in
theorem g_X12_set_f_v27 (u : qS) (x : Int32) (y : Int32) (z : Int32) (k : qS) (u_13 : qS) (u_17 : qS) (hI : IM u) (hSc : g_rw (u.2.1 1262) 120 0 1001) (hk : IK k u) (b7_7 : 0 ≤ x ∧ x < (u.1 1239 : Int32)) (b14_11 : 0 ≤ y ∧ y ≤ 9999) (c21_12 : 0 ≤ (z : Int32)) (hw_14 : g_rw (u_13.2.1 1262) 120 0 1001 ∧ f_fi k (u_13.2.1 1264)) (hw_18 : ((((0 ≤ u_17.1 1265 ∧ u_17.1 1265 ≤ 12) ∧ g_rw (u_17.2.1 1266) (u_17.1 1265).toInt 0 ((u.1 1247 : Int32)).toInt) ∧ u_17.1 1268 = (f_all k x y).1) ∧ u_17.1 1269 = f_fz k x y ∧ f_T (f_gp k x y) (k.1 1247).toNatClampNeg (f_n (f_gp k x y) (k.1 1247).toNatClampNeg) (u_17.2.1 1266) ∧ (u_17.1 1265).toInt = (f_n (f_gp k x y) (k.1 1247).toNatClampNeg : Int)) ∧ f_sw k x y (f_n (f_gp k x y) (k.1 1247).toNatClampNeg) ((u_13.2.1 1264)) (u_17.2.1 1264)) : (u_17.1 1269 : Int32) = f_fz k x y := by
  have hz1247 := hI.1.s1247
  have hz1239 := hI.1.s1239
  exact (by assumption : ((((_ ∧ _) ∧ _) ∧ _) ∧ _ ∧ _ ∧ _) ∧ f_sw _ _ _ _ _ _).1.2.1
set_option maxRecDepth 100000 in
theorem g_X12_set_f_v28 (u : qS) (x : Int32) (y : Int32) (z : Int32) (k : qS) (u_13 : qS) (u_17 : qS) (hI : IM u) (hSc : g_rw (u.2.1 1262) 120 0 1001) (hk : IK k u) (b7_7 : 0 ≤ x ∧ x < (u.1 1239 : Int32)) (b14_11 : 0 ≤ y ∧ y ≤ 9999) (c21_12 : 0 ≤ (z : Int32)) (hw_14 : g_rw (u_13.2.1 1262) 120 0 1001 ∧ f_fi k (u_13.2.1 1264)) (hw_18 : ((((0 ≤ u_17.1 1265 ∧ u_17.1 1265 ≤ 12) ∧ g_rw (u_17.2.1 1266) (u_17.1 1265).toInt 0 ((u.1 1247 : Int32)).toInt) ∧ u_17.1 1268 = (f_all k x y).1) ∧ u_17.1 1269 = f_fz k x y ∧ f_T (f_gp k x y) (k.1 1247).toNatClampNeg (f_n (f_gp k x y) (k.1 1247).toNatClampNeg) (u_17.2.1 1266) ∧ (u_17.1 1265).toInt = (f_n (f_gp k x y) (k.1 1247).toNatClampNeg : Int)) ∧ f_sw k x y (f_n (f_gp k x y) (k.1 1247).toNatClampNeg) ((u_13.2.1 1264)) (u_17.2.1 1264)) : f_T (f_gp k x y) (k.1 1247).toNatClampNeg (f_n (f_gp k x y) (k.1 1247).toNatClampNeg) ((u_17.2.1 1266)) := by
  have hz1247 := hI.1.s1247
  have hz1239 := hI.1.s1239
  exact (by assumption : ((((_ ∧ _) ∧ _) ∧ _) ∧ _ ∧ _ ∧ _) ∧ f_sw _ _ _ _ _ _).1.2.2.1
set_option maxRecDepth 100000 in
theorem g_X12_set_f_v29 (u : qS) (x : Int32) (y : Int32) (z : Int32) (k : qS) (u_13 : qS) (u_17 : qS) (hI : IM u) (hSc : g_rw (u.2.1 1262) 120 0 1001) (hk : IK k u) (b7_7 : 0 ≤ x ∧ x < (u.1 1239 : Int32)) (b14_11 : 0 ≤ y ∧ y ≤ 9999) (c21_12 : 0 ≤ (z : Int32)) (hw_14 : g_rw (u_13.2.1 1262) 120 0 1001 ∧ f_fi k (u_13.2.1 1264)) (hw_18 : ((((0 ≤ u_17.1 1265 ∧ u_17.1 1265 ≤ 12) ∧ g_rw (u_17.2.1 1266) (u_17.1 1265).toInt 0 ((u.1 1247 : Int32)).toInt) ∧ u_17.1 1268 = (f_all k x y).1) ∧ u_17.1 1269 = f_fz k x y ∧ f_T (f_gp k x y) (k.1 1247).toNatClampNeg (f_n (f_gp k x y) (k.1 1247).toNatClampNeg) (u_17.2.1 1266) ∧ (u_17.1 1265).toInt = (f_n (f_gp k x y) (k.1 1247).toNatClampNeg : Int)) ∧ f_sw k x y (f_n (f_gp k x y) (k.1 1247).toNatClampNeg) ((u_13.2.1 1264)) (u_17.2.1 1264)) : ((u_17.1 1265 : Int32)).toInt = (f_n (f_gp k x y) (k.1 1247).toNatClampNeg : Int) := by
  have hz1247 := hI.1.s1247
  have hz1239 := hI.1.s1239
  exact (by assumption : ((((_ ∧ _) ∧ _) ∧ _) ∧ _ ∧ _ ∧ _) ∧ f_sw _ _ _ _ _ _).1.2.2.2
set_option maxRecDepth 100000 in
theorem g_X12_set_f_v30 (u : qS) (x : Int32) (y : Int32) (z : Int32) (k : qS) (u_13 : qS) (u_17 : qS) (hI : IM u) (hSc : g_rw (u.2.1 1262) 120 0 1001) (hk : IK k u) (b7_7 : 0 ≤ x ∧ x < (u.1 1239 : Int32)) (b14_11 : 0 ≤ y ∧ y ≤ 9999) (c21_12 : 0 ≤ (z : Int32)) (hw_14 : g_rw (u_13.2.1 1262) 120 0 1001 ∧ f_fi k (u_13.2.1 1264)) (hw_18 : ((((0 ≤ u_17.1 1265 ∧ u_17.1 1265 ≤ 12) ∧ g_rw (u_17.2.1 1266) (u_17.1 1265).toInt 0 ((u.1 1247 : Int32)).toInt) ∧ u_17.1 1268 = (f_all k x y).1) ∧ u_17.1 1269 = f_fz k x y ∧ f_T (f_gp k x y) (k.1 1247).toNatClampNeg (f_n (f_gp k x y) (k.1 1247).toNatClampNeg) (u_17.2.1 1266) ∧ (u_17.1 1265).toInt = (f_n (f_gp k x y) (k.1 1247).toNatClampNeg : Int)) ∧ f_sw k x y (f_n (f_gp k x y) (k.1 1247).toNatClampNeg) ((u_13.2.1 1264)) (u_17.2.1 1264)) : 0 ≤ z.toInt ∧ z.toInt = z.toInt - (k_ct (s_b (f_fz k x y)) (0 : Int32).toNatClampNeg : Int) := by
  have hz1247 := hI.1.s1247
  have hz1239 := hI.1.s1239
  have z0 : 0 ≤ z.toInt := (by have w := Int32.le_iff_toInt_le.mp (by assumption : (0 : Int32) ≤ z); exact w)
  exact ⟨z0, by show z.toInt = z.toInt - 0; omega⟩
set_option maxRecDepth 100000 in
theorem g_X12_set_f_v31 (u : qS) (x : Int32) (y : Int32) (z : Int32) (k : qS) (hI : IM u) (hSc : g_rw (u.2.1 1262) 120 0 1001) (hk : IK k u) (b7_7 : 0 ≤ x ∧ x < (u.1 1239 : Int32)) (b14_11 : 0 ≤ y ∧ y ≤ 9999) (c21_12 : ¬ 0 ≤ (z : Int32)) : (g_rw ((u.2.1 1262)) 120 0 1001) ∧ ((((0 ≤ x ∧ x < u.1 1239) ∧ (0 ≤ y ∧ y ≤ 9999) ∧ 0 ≤ z) ∧ k_nth (s_b (f_fz k x y)) (f_n (f_gp k x y) (k.1 1247).toNatClampNeg) z.toNatClampNeg (f_V k x y) ((-1) : Int32)) ∨ (¬ ((0 ≤ x ∧ x < u.1 1239) ∧ (0 ≤ y ∧ y ≤ 9999) ∧ 0 ≤ z) ∧ ((-1) : Int32) = -1)) := by
  have hz1239 := hI.1.s1239
  first
  | exact ⟨hSc, Or.inr ⟨fun q => (by obtain ⟨q1, q2, q3⟩ := q; first | exact absurd q1 (by assumption) | exact absurd q2 (by assumption) | exact absurd q3 (by first | assumption | exact Int32.not_le.mpr (by assumption))), rfl⟩⟩
  | (have q5 : 0 ≤ x5.toInt ∧ x5.toInt < (uc.1 1265).toInt ∧ (uc.1 1265).toInt ≤ 12 := (by clear h_S h_T h_4 h_9; (try simp only [g_m1, Int32.lt_iff_toInt_lt, Int32.le_iff_toInt_le, ← Int32.toInt_inj, Int32.reduceToInt] at *); omega)
     have c5 := g_clamp x5
     have e5 := (g_up (i := x5) q5.1 (by omega)).2
     have bt := s_bitI (x := uc.1 1269) (i := x5) q5.1 (by omega)
     rw [h_9] at bt
     have e4 : x4 = 0 := (by assumption)
     rw [e4] at h_4
     have e0 : (0 : Int32).toInt = 0 := rfl
     have cz := g_clamp z
     have tt := h_T.2 x5.toNatClampNeg (by omega)
     have v := f_V.at tt.2.1
     rw [tt.2.2] at v
     exact ⟨h_S, Or.inl ⟨h_D, Or.inl ⟨x5.toNatClampNeg, by omega, (by have w : uc.1 1269 >>> (x5 &&& 31) &&& 1 = 1 := (by with_reducible assumption); rw [h_9] at w; exact bt.mp w), by omega, v.symm⟩⟩⟩)
  | (have e : x5 = uc.1 1265 := Int32.toInt_inj.mp (by clear h_S h_T h_4 h_9; (try simp only [g_m1, Int32.lt_iff_toInt_lt, Int32.le_iff_toInt_le, ← Int32.toInt_inj, Int32.reduceToInt] at *); omega)
     have c := g_clamp (uc.1 1265)
     have cz := g_clamp z
     rw [e, show (uc.1 1265).toNatClampNeg = f_n (f_gp k x y) (k.1 1247).toNatClampNeg by omega] at h_4
     exact ⟨h_S, Or.inl ⟨h_D, Or.inr ⟨by omega, rfl⟩⟩⟩)
set_option maxRecDepth 100000 in
theorem g_X12_set_f_v32 (u : qS) (x : Int32) (y : Int32) (z : Int32) (k : qS) (hI : IM u) (hSc : g_rw (u.2.1 1262) 120 0 1001) (hk : IK k u) (b7_7 : 0 ≤ x ∧ x < (u.1 1239 : Int32)) (b14_11 : ¬ (0 ≤ y ∧ y ≤ 9999)) : (g_rw ((u.2.1 1262)) 120 0 1001) ∧ ((((0 ≤ x ∧ x < u.1 1239) ∧ (0 ≤ y ∧ y ≤ 9999) ∧ 0 ≤ z) ∧ k_nth (s_b (f_fz k x y)) (f_n (f_gp k x y) (k.1 1247).toNatClampNeg) z.toNatClampNeg (f_V k x y) ((-1) : Int32)) ∨ (¬ ((0 ≤ x ∧ x < u.1 1239) ∧ (0 ≤ y ∧ y ≤ 9999) ∧ 0 ≤ z) ∧ ((-1) : Int32) = -1)) := by
  have hz1239 := hI.1.s1239
  first
  | exact ⟨hSc, Or.inr ⟨fun q => (by obtain ⟨q1, q2, q3⟩ := q; first | exact absurd q1 (by assumption) | exact absurd q2 (by assumption) | exact absurd q3 (by first | assumption | exact Int32.not_le.mpr (by assumption))), rfl⟩⟩
  | (have q5 : 0 ≤ x5.toInt ∧ x5.toInt < (uc.1 1265).toInt ∧ (uc.1 1265).toInt ≤ 12 := (by clear h_S h_T h_4 h_9; (try simp only [g_m1, Int32.lt_iff_toInt_lt, Int32.le_iff_toInt_le, ← Int32.toInt_inj, Int32.reduceToInt] at *); omega)
     have c5 := g_clamp x5
     have e5 := (g_up (i := x5) q5.1 (by omega)).2
     have bt := s_bitI (x := uc.1 1269) (i := x5) q5.1 (by omega)
     rw [h_9] at bt
     have e4 : x4 = 0 := (by assumption)
     rw [e4] at h_4
     have e0 : (0 : Int32).toInt = 0 := rfl
     have cz := g_clamp z
     have tt := h_T.2 x5.toNatClampNeg (by omega)
     have v := f_V.at tt.2.1
     rw [tt.2.2] at v
     exact ⟨h_S, Or.inl ⟨h_D, Or.inl ⟨x5.toNatClampNeg, by omega, (by have w : uc.1 1269 >>> (x5 &&& 31) &&& 1 = 1 := (by with_reducible assumption); rw [h_9] at w; exact bt.mp w), by omega, v.symm⟩⟩⟩)
  | (have e : x5 = uc.1 1265 := Int32.toInt_inj.mp (by clear h_S h_T h_4 h_9; (try simp only [g_m1, Int32.lt_iff_toInt_lt, Int32.le_iff_toInt_le, ← Int32.toInt_inj, Int32.reduceToInt] at *); omega)
     have c := g_clamp (uc.1 1265)
     have cz := g_clamp z
     rw [e, show (uc.1 1265).toNatClampNeg = f_n (f_gp k x y) (k.1 1247).toNatClampNeg by omega] at h_4
     exact ⟨h_S, Or.inl ⟨h_D, Or.inr ⟨by omega, rfl⟩⟩⟩)
set_option maxRecDepth 100000 in
theorem g_X12_set_f_v33 (u : qS) (x : Int32) (y : Int32) (z : Int32) (k : qS) (hI : IM u) (hSc : g_rw (u.2.1 1262) 120 0 1001) (hk : IK k u) (b7_7 : ¬ (0 ≤ x ∧ x < (u.1 1239 : Int32))) : (g_rw ((u.2.1 1262)) 120 0 1001) ∧ ((((0 ≤ x ∧ x < u.1 1239) ∧ (0 ≤ y ∧ y ≤ 9999) ∧ 0 ≤ z) ∧ k_nth (s_b (f_fz k x y)) (f_n (f_gp k x y) (k.1 1247).toNatClampNeg) z.toNatClampNeg (f_V k x y) ((-1) : Int32)) ∨ (¬ ((0 ≤ x ∧ x < u.1 1239) ∧ (0 ≤ y ∧ y ≤ 9999) ∧ 0 ≤ z) ∧ ((-1) : Int32) = -1)) := by
  have hz1239 := hI.1.s1239
  first
  | exact ⟨hSc, Or.inr ⟨fun q => (by obtain ⟨q1, q2, q3⟩ := q; first | exact absurd q1 (by assumption) | exact absurd q2 (by assumption) | exact absurd q3 (by first | assumption | exact Int32.not_le.mpr (by assumption))), rfl⟩⟩
  | (have q5 : 0 ≤ x5.toInt ∧ x5.toInt < (uc.1 1265).toInt ∧ (uc.1 1265).toInt ≤ 12 := (by clear h_S h_T h_4 h_9; (try simp only [g_m1, Int32.lt_iff_toInt_lt, Int32.le_iff_toInt_le, ← Int32.toInt_inj, Int32.reduceToInt] at *); omega)
     have c5 := g_clamp x5
     have e5 := (g_up (i := x5) q5.1 (by omega)).2
     have bt := s_bitI (x := uc.1 1269) (i := x5) q5.1 (by omega)
     rw [h_9] at bt
     have e4 : x4 = 0 := (by assumption)
     rw [e4] at h_4
     have e0 : (0 : Int32).toInt = 0 := rfl
     have cz := g_clamp z
     have tt := h_T.2 x5.toNatClampNeg (by omega)
     have v := f_V.at tt.2.1
     rw [tt.2.2] at v
     exact ⟨h_S, Or.inl ⟨h_D, Or.inl ⟨x5.toNatClampNeg, by omega, (by have w : uc.1 1269 >>> (x5 &&& 31) &&& 1 = 1 := (by with_reducible assumption); rw [h_9] at w; exact bt.mp w), by omega, v.symm⟩⟩⟩)
  | (have e : x5 = uc.1 1265 := Int32.toInt_inj.mp (by clear h_S h_T h_4 h_9; (try simp only [g_m1, Int32.lt_iff_toInt_lt, Int32.le_iff_toInt_le, ← Int32.toInt_inj, Int32.reduceToInt] at *); omega)
     have c := g_clamp (uc.1 1265)
     have cz := g_clamp z
     rw [e, show (uc.1 1265).toNatClampNeg = f_n (f_gp k x y) (k.1 1247).toNatClampNeg by omega] at h_4
     exact ⟨h_S, Or.inl ⟨h_D, Or.inr ⟨by omega, rfl⟩⟩⟩)
set_option maxHeartbeats 1000000 in
set_option maxRecDepth 100000 in
theorem g_X12_set_f (l : Launch) (E : qE) (A : Nat → Prop) (u : qS) (x : Int32) (y : Int32) (z : Int32) (k : qS) (hI : IM u) (hSc : g_rw (u.2.1 1262) 120 0 1001) (hk : IK k u) : Met l yX12_set (uws yX12_set cX12_set 6 (some .int)) (qR 4 0 0) (qPc E A 1 u [.ref (E.2.2 1299), .int x, .int y, .int z]) (qQi E A 1 (fun r u1 => qFr [1200, 1260, 1225, 1228, 1229, 1270, 1265, 1268, 1269] [1261, 1224, 1226, 1227, 1262, 1263, 1264, 1266, 1267] [] u u1 ∧ ((g_rw (u1.2.1 1262) 120 0 1001) ∧ ((((0 ≤ x ∧ x < u.1 1239) ∧ (0 ≤ y ∧ y ≤ 9999) ∧ 0 ≤ z) ∧ k_nth (s_b (f_fz k x y)) (f_n (f_gp k x y) (k.1 1247).toNatClampNeg) z.toNatClampNeg (f_V k x y) r) ∨ (¬ ((0 ≤ x ∧ x < u.1 1239) ∧ (0 ≤ y ∧ y ≤ 9999) ∧ 0 ≤ z) ∧ r = -1))))) 0 0 A := by
  refine q_met (own := RX12) (f := 4) [.ref (E.2.2 1299), .int x, .int y, .int z] (by decide) (Nat.le_of_ble_eq_true rfl) rfl ?_
  intro p0 e0 s0 m0 bl0 me0 cd0 ls hF hr hlocks hU hS hA hl
  have hl : lv_has ls 6 [(0, .ref (E.2.2 1299)), (1, .int x), (2, .int y), (3, .int z)] := hl
  have hfr : qFr [1200, 1260, 1225, 1228, 1229, 1270, 1265, 1268, 1269] [1261, 1224, 1226, 1227, 1262, 1263, 1264, 1266, 1267] [] u u := qFr.rf
  have main : ∀ n : Nat, (∀ (x4 : Int32) (x5 : Int32) (uc : qS) (H : Heap) (locs : List Loc) (ls : Array Slot) (hfr : qFr [1200, 1260, 1225, 1228, 1229, 1270, 1265, 1268, 1269] [1261, 1224, 1226, 1227, 1262, 1263, 1264, 1266, 1267] [] u uc) (h_k : 0 ≤ x5 ∧ x5 ≤ uc.1 1265) (h_t : 0 ≤ uc.1 1265 ∧ uc.1 1265 ≤ 12) (h_S : g_rw (uc.2.1 1262) 120 0 1001) (h_D : (0 ≤ x ∧ x < u.1 1239) ∧ (0 ≤ y ∧ y ≤ 9999) ∧ 0 ≤ z) (h_9 : uc.1 1269 = f_fz k x y) (h_T : f_T (f_gp k x y) (k.1 1247).toNatClampNeg (f_n (f_gp k x y) (k.1 1247).toNatClampNeg) (uc.2.1 1266)) (h_N : (uc.1 1265).toInt = (f_n (f_gp k x y) (k.1 1247).toNatClampNeg : Int)) (h_4 : 0 ≤ x4.toInt ∧ x4.toInt = z.toInt - (k_ct (s_b (f_fz k x y)) x5.toNatClampNeg : Int)), ((uc.1 1265).toInt - x5.toInt).toNat < n → qH E A 1 uc s0 H → va_S A s0.heap H locs → lv_has ls 6 [(0, .ref (E.2.2 1299)), (1, .int x), (2, .int y), (3, .int z), (4, .int x4), (5, .int x5)] → W p0 l e0 (qR 4 0 0) s0 m0 ([.ref (E.2.2 1299), .int x, .int y, .int z] : List Value).toArray bl0 me0 cd0 H locs 0 0 (MQ bl0 (qQi E A 1 (fun r u1 => qFr [1200, 1260, 1225, 1228, 1229, 1270, 1265, 1268, 1269] [1261, 1224, 1226, 1227, 1262, 1263, 1264, 1266, 1267] [] u u1 ∧ ((g_rw (u1.2.1 1262) 120 0 1001) ∧ ((((0 ≤ x ∧ x < u.1 1239) ∧ (0 ≤ y ∧ y ≤ 9999) ∧ 0 ≤ z) ∧ k_nth (s_b (f_fz k x y)) (f_n (f_gp k x y) (k.1 1247).toNatClampNeg) z.toNatClampNeg (f_V k x y) r) ∨ (¬ ((0 ≤ x ∧ x < u.1 1239) ∧ (0 ≤ y ∧ y ≤ 9999) ∧ 0 ≤ z) ∧ r = -1))))) ([.ref (E.2.2 1299), .int x, .int y, .int z] : List Value).toArray s0 0 0 A) (F0 m0 42 ls [])) := by
    intro n
    induction n with
    | zero => exact fun _ _ _ _ _ _ _ _ _ _ _ _ _ _ _ hmu => absurd hmu (Nat.not_lt_zero _)
    | succ n ih =>
      intro x4 x5 uc H locs ls hfr h_k h_t h_S h_D h_9 h_T h_N h_4 hmu hU hS hl
      refine lv_iload hF.1 hF.2.1 dX12_set_42 (lv_at hl 5 rfl) ?_
      refine lv_aload_n hF.1 hF.2.1 dX12_set_44 rfl (lv_at hl 0 rfl) ?_
      refine q_get (v := .int (uc.1 1265)) hF hU dX12_set_45 0 12 65 1265 1299 rfl rfl rfl rfl inX12 (by decide) (by decide) w_1394 rfl rfl ?_
      refine lv_icmp_ge (tgt := 86) hF.1 hF.2.1 dX12_set_48 (by decide) (fun c48_1 => ?_) (fun c48_1 => ?_)
      · refine lv_iconst (v := (-1)) hF.1 hF.2.1 dX12_set_86 (by decide) ?_
        exact q_iret hF hr rfl hlocks hU hS dX12_set_87 ⟨hfr, (g_X12_set_f_v0 u x y z k x4 x5 uc hI hSc hk h_k h_t h_S h_D h_9 h_T h_N h_4 c48_1)⟩
      · refine lv_aload_n hF.1 hF.2.1 dX12_set_51 rfl (lv_at hl 0 rfl) ?_
        refine q_get (v := .int (uc.1 1269)) hF hU dX12_set_52 0 12 69 1269 1299 rfl rfl rfl rfl inX12 (by decide) (by decide) w_1398 rfl rfl ?_
        refine lv_iload hF.1 hF.2.1 dX12_set_55 (lv_at hl 5 rfl) ?_
        refine lv_ishr hF.1 hF.2.1 dX12_set_57 ?_
        refine lv_iconst (v := 1) hF.1 hF.2.1 dX12_set_58 (by decide) ?_
        refine lv_iand hF.1 hF.2.1 dX12_set_59 ?_
        refine lv_iconst (v := 1) hF.1 hF.2.1 dX12_set_60 (by decide) ?_
        refine lv_icmp_ne (tgt := 80) hF.1 hF.2.1 dX12_set_61 (by decide) (fun c61_2 => ?_) (fun c61_2 => ?_)
        · refine lv_iinc (v := x5 + 1) (lv' := [(5, .int (x5 + 1)), (0, .ref (E.2.2 1299)), (1, .int x), (2, .int y), (3, .int z), (4, .int x4)]) hF.1 hF.2.1 dX12_set_80 hl (k := 5) rfl rfl (by decide) rfl (fun ls hl => ?_)
          refine lv_goto (tgt := 42) hF.1 hF.2.1 dX12_set_83 (by decide) ?_
          exact ih x4 (x5 + 1) uc _ _ _ hfr (g_X12_set_f_v1 u x y z k x4 x5 uc hI hSc hk h_k h_t h_S h_D h_9 h_T h_N h_4 c48_1 c61_2) (g_X12_set_f_v2 u x y z k x4 x5 uc hI hSc hk h_k h_t h_S h_D h_9 h_T h_N h_4 c48_1 c61_2) (g_X12_set_f_v3 u x y z k x4 x5 uc hI hSc hk h_k h_t h_S h_D h_9 h_T h_N h_4 c48_1 c61_2) (g_X12_set_f_v4 u x y z k x4 x5 uc hI hSc hk h_k h_t h_S h_D h_9 h_T h_N h_4 c48_1 c61_2) (g_X12_set_f_v5 u x y z k x4 x5 uc hI hSc hk h_k h_t h_S h_D h_9 h_T h_N h_4 c48_1 c61_2) (g_X12_set_f_v6 u x y z k x4 x5 uc hI hSc hk h_k h_t h_S h_D h_9 h_T h_N h_4 c48_1 c61_2) (g_X12_set_f_v7 u x y z k x4 x5 uc hI hSc hk h_k h_t h_S h_D h_9 h_T h_N h_4 c48_1 c61_2) (g_X12_set_f_v8 u x y z k x4 x5 uc hI hSc hk h_k h_t h_S h_D h_9 h_T h_N h_4 c48_1 c61_2) (Nat.lt_of_lt_of_le (g_X12_set_f_v9 u x y z k x4 x5 uc hI hSc hk h_k h_t h_S h_D h_9 h_T h_N h_4 c48_1 c61_2) (Nat.lt_succ_iff.mp hmu)) hU hS (lv_sub hl [1, 2, 3, 4, 5, 0] rfl)
        · refine lv_iload hF.1 hF.2.1 dX12_set_64 (lv_at hl 4 rfl) ?_
          refine lv_if_ne (tgt := 77) hF.1 hF.2.1 dX12_set_66 (by decide) (fun c66_3 => ?_) (fun c66_3 => ?_)
          · refine lv_iinc (v := x4 + (-1)) (lv' := [(4, .int (x4 + (-1))), (0, .ref (E.2.2 1299)), (1, .int x), (2, .int y), (3, .int z), (5, .int x5)]) hF.1 hF.2.1 dX12_set_77 hl (k := 4) rfl rfl (by decide) rfl (fun ls hl => ?_)
            refine lv_iinc (v := x5 + 1) (lv' := [(5, .int (x5 + 1)), (4, .int (x4 + (-1))), (0, .ref (E.2.2 1299)), (1, .int x), (2, .int y), (3, .int z)]) hF.1 hF.2.1 dX12_set_80 hl (k := 5) rfl rfl (by decide) rfl (fun ls hl => ?_)
            refine lv_goto (tgt := 42) hF.1 hF.2.1 dX12_set_83 (by decide) ?_
            exact ih (x4 + (-1)) (x5 + 1) uc _ _ _ hfr (g_X12_set_f_v10 u x y z k x4 x5 uc hI hSc hk h_k h_t h_S h_D h_9 h_T h_N h_4 c48_1 c61_2 c66_3) (g_X12_set_f_v11 u x y z k x4 x5 uc hI hSc hk h_k h_t h_S h_D h_9 h_T h_N h_4 c48_1 c61_2 c66_3) (g_X12_set_f_v12 u x y z k x4 x5 uc hI hSc hk h_k h_t h_S h_D h_9 h_T h_N h_4 c48_1 c61_2 c66_3) (g_X12_set_f_v13 u x y z k x4 x5 uc hI hSc hk h_k h_t h_S h_D h_9 h_T h_N h_4 c48_1 c61_2 c66_3) (g_X12_set_f_v14 u x y z k x4 x5 uc hI hSc hk h_k h_t h_S h_D h_9 h_T h_N h_4 c48_1 c61_2 c66_3) (g_X12_set_f_v15 u x y z k x4 x5 uc hI hSc hk h_k h_t h_S h_D h_9 h_T h_N h_4 c48_1 c61_2 c66_3) (g_X12_set_f_v16 u x y z k x4 x5 uc hI hSc hk h_k h_t h_S h_D h_9 h_T h_N h_4 c48_1 c61_2 c66_3) (g_X12_set_f_v17 u x y z k x4 x5 uc hI hSc hk h_k h_t h_S h_D h_9 h_T h_N h_4 c48_1 c61_2 c66_3) (Nat.lt_of_lt_of_le (g_X12_set_f_v18 u x y z k x4 x5 uc hI hSc hk h_k h_t h_S h_D h_9 h_T h_N h_4 c48_1 c61_2 c66_3) (Nat.lt_succ_iff.mp hmu)) hU hS (lv_sub hl [2, 3, 4, 5, 1, 0] rfl)
          · refine lv_aload_n hF.1 hF.2.1 dX12_set_69 rfl (lv_at hl 0 rfl) ?_
            refine q_get (v := .ref (E.2.2 1266)) hF hU dX12_set_70 0 12 66 1266 1299 rfl rfl rfl rfl inX12 (by decide) (by decide) w_1395 rfl rfl ?_
            refine lv_iload hF.1 hF.2.1 dX12_set_73 (lv_at hl 5 rfl) ?_
            refine q_iald (v := uc.2.1 1266 (x5 : Int32).toNatClampNeg) hF hU dX12_set_75 42 1266 rfl rfl (g_X12_set_f_v19 u x y z k x4 x5 uc hI hSc hk h_k h_t h_S h_D h_9 h_T h_N h_4 c48_1 c61_2 c66_3) rfl ?_
            exact q_iret hF hr rfl hlocks hU hS dX12_set_76 ⟨hfr, (g_X12_set_f_v20 u x y z k x4 x5 uc hI hSc hk h_k h_t h_S h_D h_9 h_T h_N h_4 c48_1 c61_2 c66_3)⟩
  refine lv_aload_n hF.1 hF.2.1 dX12_set_0 rfl (lv_at hl 0 rfl) ?_
  refine lv_iconst (v := 0) hF.1 hF.2.1 dX12_set_1 (by decide) ?_
  refine q_put hF hU hS dX12_set_2 0 12 0 1200 1299 rfl rfl rfl rfl inX12 tyX12 tyX12_ok nmX12 (by decide) (by decide) rfl w_1329 rfl rfl rfl rfl (fun H locs hU hS => ?_)
  have hfr : qFr [1200, 1260, 1225, 1228, 1229, 1270, 1265, 1268, 1269] [1261, 1224, 1226, 1227, 1262, 1263, 1264, 1266, 1267] [] u (qsI u 1200 0) := hfr.setI (by decide)
  refine lv_aload_n hF.1 hF.2.1 dX12_set_5 rfl (lv_at hl 0 rfl) ?_
  refine lv_iload_n hF.1 hF.2.1 dX12_set_6 rfl (lv_at hl 1 rfl) ?_
  have hM9 := g_X12_isBuyer l E A (qsI u 1200 0) x
  have hR9 := q_runV (l := l) (e := e0) (below := bl0) (meth := me0) (R := qR 4 0 0) (cells := 0) (slots := 0) (st0 := [.int x, .ref (E.2.2 1299)]) (rest := []) hF hU hS hA 1 0 12 1299 rfl rfl rfl hM9 w_1714 w_1716 w_69 w_107 w_1717 (by decide +kernel) ⟨Nat.le_of_ble_eq_true rfl, Nat.le_of_ble_eq_true rfl⟩ dX12_set_7 rfl hl.1 rfl (Nat.le_of_ble_eq_true rfl) ⟨Nat.le_of_ble_eq_true rfl, Nat.le_of_ble_eq_true rfl⟩
  refine q_calli hR9 hU.2.2.2 hS (fun r_6 u_4 H locs hw_5 hU hS => ?_)
  obtain ⟨hw_5_e, hw_5⟩ := hw_5
  rw [hw_5_e] at hU
  have hw_5 : (r_6 = 1 ∧ (0 ≤ x ∧ x < (u.1 1239 : Int32))) ∨ (r_6 = 0 ∧ ¬ (0 ≤ x ∧ x < (u.1 1239 : Int32))) := by rw [(hfr.1 1239 (by decide))] at hw_5; exact hw_5
  rcases hw_5 with ⟨rfl, b7_7⟩ | ⟨rfl, b7_7⟩
  · refine lv_if_eq (tgt := 24) hF.1 hF.2.1 dX12_set_10 (by decide) (fun h9 => absurd h9 (by decide)) (fun _ => ?_)
    refine lv_iload_n hF.1 hF.2.1 dX12_set_13 rfl (lv_at hl 2 rfl) ?_
    have hM9 := g_X12_isDay l E A (qsI u 1200 0) y
    have hR9 := q_runS (l := l) (e := e0) (below := bl0) (meth := me0) (R := qR 4 0 0) (cells := 0) (slots := 0) (st0 := [.int y]) (rest := []) hF hU hS hA 1 hM9 w_1806 w_1807 w_107 w_1808 (by decide +kernel) ⟨Nat.le_of_ble_eq_true rfl, Nat.le_of_ble_eq_true rfl⟩ dX12_set_14 rfl hl.1 rfl (Nat.le_of_ble_eq_true rfl) ⟨Nat.le_of_ble_eq_true rfl, Nat.le_of_ble_eq_true rfl⟩
    refine q_calli hR9 hU.2.2.2 hS (fun r_10 u_8 H locs hw_9 hU hS => ?_)
    obtain ⟨hw_9_e, hw_9⟩ := hw_9
    rw [hw_9_e] at hU
    have hw_9 : (r_10 = 1 ∧ (0 ≤ y ∧ y ≤ 9999)) ∨ (r_10 = 0 ∧ ¬ (0 ≤ y ∧ y ≤ 9999)) := hw_9
    rcases hw_9 with ⟨rfl, b14_11⟩ | ⟨rfl, b14_11⟩
    · refine lv_if_eq (tgt := 24) hF.1 hF.2.1 dX12_set_17 (by decide) (fun h9 => absurd h9 (by decide)) (fun _ => ?_)
      refine lv_iload_n hF.1 hF.2.1 dX12_set_20 rfl (lv_at hl 3 rfl) ?_
      refine lv_if_ge (tgt := 26) hF.1 hF.2.1 dX12_set_21 (by decide) (fun c21_12 => ?_) (fun c21_12 => ?_)
      · refine lv_aload_n hF.1 hF.2.1 dX12_set_26 rfl (lv_at hl 0 rfl) ?_
        have hM9 := g_X12_findAll_f l E A (qsI u 1200 0) k (hI.fr hfr (by decide) (by decide)) (g_X12_set_f_v21 u x y z k hI hSc hk b7_7 b14_11 c21_12) (hk.fr hfr (by decide) (by decide))
        have hR9 := q_runV (l := l) (e := e0) (below := bl0) (meth := me0) (R := qR 4 0 0) (cells := 0) (slots := 0) (st0 := [.ref (E.2.2 1299)]) (rest := []) hF hU hS hA 0 0 12 1299 rfl rfl rfl hM9 w_1738 w_1740 w_73 w_107 w_1741 (by decide +kernel) ⟨Nat.le_of_ble_eq_true rfl, Nat.le_of_ble_eq_true rfl⟩ dX12_set_27 rfl hl.1 rfl (Nat.le_of_ble_eq_true rfl) ⟨Nat.le_of_ble_eq_true rfl, Nat.le_of_ble_eq_true rfl⟩
        refine q_callv hR9 hU.2.2.2 hS (fun u_13 H locs hw_14 hU hS => ?_)
        have hw_14_f := hw_14.1
        have hfo := hfr
        have hfr : qFr [1200, 1260, 1225, 1228, 1229, 1270, 1265, 1268, 1269] [1261, 1224, 1226, 1227, 1262, 1263, 1264, 1266, 1267] [] u u_13 := hfr.trans (hw_14_f.mono (by decide) (by decide) (by decide))
        have hw_14 := hw_14.2
        have e_16 : u_13.1 1200 = 0 := (hw_14_f.1 1200 (by decide)).trans rfl
        have hw_14 : g_rw (u_13.2.1 1262) 120 0 1001 ∧ f_fi k (u_13.2.1 1264) := hw_14
        refine lv_aload_n hF.1 hF.2.1 dX12_set_30 rfl (lv_at hl 0 rfl) ?_
        refine lv_iload_n hF.1 hF.2.1 dX12_set_31 rfl (lv_at hl 1 rfl) ?_
        refine lv_iload_n hF.1 hF.2.1 dX12_set_32 rfl (lv_at hl 2 rfl) ?_
        have hM9 := g_X12_findFewest_f l E A u_13 x y k (hI.fr hfr (by decide) (by decide)) (hk.fr hfr (by decide) (by decide)) (g_X12_set_f_v22 u x y z k u_13 hI hSc hk b7_7 b14_11 c21_12 hw_14)
        have hR9 := q_runV (l := l) (e := e0) (below := bl0) (meth := me0) (R := qR 4 0 0) (cells := 0) (slots := 0) (st0 := [.int y, .int x, .ref (E.2.2 1299)]) (rest := []) hF hU hS hA 2 0 12 1299 rfl rfl rfl hM9 w_1780 w_1782 w_82 w_107 w_1783 (by decide +kernel) ⟨Nat.le_of_ble_eq_true rfl, Nat.le_of_ble_eq_true rfl⟩ dX12_set_33 rfl hl.1 rfl (Nat.le_of_ble_eq_true rfl) ⟨Nat.le_of_ble_eq_true rfl, Nat.le_of_ble_eq_true rfl⟩
        refine q_callv hR9 hU.2.2.2 hS (fun u_17 H locs hw_18 hU hS => ?_)
        have hw_18_f := hw_18.1
        have hfo := hfr
        have hfr : qFr [1200, 1260, 1225, 1228, 1229, 1270, 1265, 1268, 1269] [1261, 1224, 1226, 1227, 1262, 1263, 1264, 1266, 1267] [] u u_17 := hfr.trans (hw_18_f.mono (by decide) (by decide) (by decide))
        have hw_18 := hw_18.2
        have e_20 : u_17.1 1200 = 0 := (hw_18_f.1 1200 (by decide)).trans e_16
        have e_21 : u_17.1 1260 = (u_13.1 1260) := (hw_18_f.1 1260 (by decide)).trans rfl
        have e_22 : u_17.1 1225 = (u_13.1 1225) := (hw_18_f.1 1225 (by decide)).trans rfl
        have e_23 : u_17.1 1228 = (u_13.1 1228) := (hw_18_f.1 1228 (by decide)).trans rfl
        have e_24 : u_17.1 1229 = (u_13.1 1229) := (hw_18_f.1 1229 (by decide)).trans rfl
        have e_25 : u_17.1 1270 = (u_13.1 1270) := (hw_18_f.1 1270 (by decide)).trans rfl
        have e_26 : u_17.2.1 1261 = (u_13.2.1 1261) := (hw_18_f.2.1 1261 (by decide)).trans rfl
        have e_27 : u_17.2.1 1224 = (u_13.2.1 1224) := (hw_18_f.2.1 1224 (by decide)).trans rfl
        have e_28 : u_17.2.1 1226 = (u_13.2.1 1226) := (hw_18_f.2.1 1226 (by decide)).trans rfl
        have e_29 : u_17.2.1 1227 = (u_13.2.1 1227) := (hw_18_f.2.1 1227 (by decide)).trans rfl
        have e_30 : u_17.2.1 1262 = (u_13.2.1 1262) := (hw_18_f.2.1 1262 (by decide)).trans rfl
        have e_31 : u_17.2.1 1263 = (u_13.2.1 1263) := (hw_18_f.2.1 1263 (by decide)).trans rfl
        have hw_18 : ((((0 ≤ u_17.1 1265 ∧ u_17.1 1265 ≤ 12) ∧ g_rw (u_17.2.1 1266) (u_17.1 1265).toInt 0 ((u.1 1247 : Int32)).toInt) ∧ u_17.1 1268 = (f_all k x y).1) ∧ u_17.1 1269 = f_fz k x y ∧ f_T (f_gp k x y) (k.1 1247).toNatClampNeg (f_n (f_gp k x y) (k.1 1247).toNatClampNeg) (u_17.2.1 1266) ∧ (u_17.1 1265).toInt = (f_n (f_gp k x y) (k.1 1247).toNatClampNeg : Int)) ∧ f_sw k x y (f_n (f_gp k x y) (k.1 1247).toNatClampNeg) ((u_13.2.1 1264)) (u_17.2.1 1264) := by rw [(hfo.1 1247 (by decide))] at hw_18; exact hw_18
        refine lv_iload_n hF.1 hF.2.1 dX12_set_36 rfl (lv_at hl 3 rfl) ?_
        refine lv_istore (lv' := [(4, .int z), (0, .ref (E.2.2 1299)), (1, .int x), (2, .int y), (3, .int z)]) hF.1 hF.2.1 dX12_set_37 hl (by decide) rfl (fun ls hl => ?_)
        refine lv_iconst (v := 0) hF.1 hF.2.1 dX12_set_39 (by decide) ?_
        refine lv_istore (lv' := [(5, .int 0), (4, .int z), (0, .ref (E.2.2 1299)), (1, .int x), (2, .int y), (3, .int z)]) hF.1 hF.2.1 dX12_set_40 hl (by decide) rfl (fun ls hl => ?_)
        exact (main _) z (0 : Int32) u_17 _ _ _ hfr (g_X12_set_f_v23 u x y z k u_13 u_17 hI hSc hk b7_7 b14_11 c21_12 hw_14 hw_18) (g_X12_set_f_v24 u x y z k u_13 u_17 hI hSc hk b7_7 b14_11 c21_12 hw_14 hw_18) (by rw [show (u_17).2.1 1262 = (u_13.2.1 1262) from e_30]; exact (g_X12_set_f_v25 u x y z k u_13 u_17 hI hSc hk b7_7 b14_11 c21_12 hw_14 hw_18)) (g_X12_set_f_v26 u x y z k u_13 u_17 hI hSc hk b7_7 b14_11 c21_12 hw_14 hw_18) (g_X12_set_f_v27 u x y z k u_13 u_17 hI hSc hk b7_7 b14_11 c21_12 hw_14 hw_18) (g_X12_set_f_v28 u x y z k u_13 u_17 hI hSc hk b7_7 b14_11 c21_12 hw_14 hw_18) (g_X12_set_f_v29 u x y z k u_13 u_17 hI hSc hk b7_7 b14_11 c21_12 hw_14 hw_18) (g_X12_set_f_v30 u x y z k u_13 u_17 hI hSc hk b7_7 b14_11 c21_12 hw_14 hw_18) (Nat.lt_succ_self _) hU hS (lv_sub hl [2, 3, 4, 5, 1, 0] rfl)
      · refine lv_iconst (v := (-1)) hF.1 hF.2.1 dX12_set_24 (by decide) ?_
        exact q_iret hF hr rfl hlocks hU hS dX12_set_25 ⟨hfr, (g_X12_set_f_v31 u x y z k hI hSc hk b7_7 b14_11 c21_12)⟩
    · refine lv_if_eq (tgt := 24) hF.1 hF.2.1 dX12_set_17 (by decide) (fun _ => ?_) (fun h9 => absurd (by decide) h9)
      refine lv_iconst (v := (-1)) hF.1 hF.2.1 dX12_set_24 (by decide) ?_
      exact q_iret hF hr rfl hlocks hU hS dX12_set_25 ⟨hfr, (g_X12_set_f_v32 u x y z k hI hSc hk b7_7 b14_11)⟩
  · refine lv_if_eq (tgt := 24) hF.1 hF.2.1 dX12_set_10 (by decide) (fun _ => ?_) (fun h9 => absurd (by decide) h9)
    refine lv_iconst (v := (-1)) hF.1 hF.2.1 dX12_set_24 (by decide) ?_
    exact q_iret hF hr rfl hlocks hU hS dX12_set_25 ⟨hfr, (g_X12_set_f_v33 u x y z k hI hSc hk b7_7)⟩
