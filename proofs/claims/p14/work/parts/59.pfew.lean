set_option maxRecDepth 100000 in
theorem g_X12_fewest_f_v0 (u : qS) (x : Int32) (y : Int32) (k : qS) (hI : IM u) (hSc : g_rw (u.2.1 1262) 120 0 1001) (hk : IK k u) (b7_4 : 0 ≤ x ∧ x < (u.1 1239 : Int32)) (b14_8 : 0 ≤ y ∧ y ≤ 9999) : g_rw ((u.2.1 1262)) 120 0 1001 := by
  have hz1239 := hI.1.s1239
  assumption
set_option maxRecDepth 100000 in
theorem g_X12_fewest_f_v1 (u : qS) (x : Int32) (y : Int32) (k : qS) (u_9 : qS) (hI : IM u) (hSc : g_rw (u.2.1 1262) 120 0 1001) (hk : IK k u) (b7_4 : 0 ≤ x ∧ x < (u.1 1239 : Int32)) (b14_8 : 0 ≤ y ∧ y ≤ 9999) (hw_10 : g_rw (u_9.2.1 1262) 120 0 1001 ∧ f_fi k (u_9.2.1 1264)) : f_a1 k ((u_9.2.1 1264)) := by
  have hz1239 := hI.1.s1239
  exact (by assumption : _ ∧ f_fi k _).2.a1
set_option maxRecDepth 100000 in
theorem g_X12_fewest_f_v2 (u : qS) (x : Int32) (y : Int32) (k : qS) (u_9 : qS) (u_13 : qS) (hI : IM u) (hSc : g_rw (u.2.1 1262) 120 0 1001) (hk : IK k u) (b7_4 : 0 ≤ x ∧ x < (u.1 1239 : Int32)) (b14_8 : 0 ≤ y ∧ y ≤ 9999) (hw_10 : g_rw (u_9.2.1 1262) 120 0 1001 ∧ f_fi k (u_9.2.1 1264)) (hw_14 : (((0 ≤ u_13.1 1265 ∧ u_13.1 1265 ≤ 12) ∧ g_rw (u_13.2.1 1266) (u_13.1 1265).toInt 0 ((u.1 1247 : Int32)).toInt) ∧ u_13.1 1268 = (f_all k x y).1) ∧ f_sw k x y (f_n (f_gp k x y) (k.1 1247).toNatClampNeg) ((u_9.2.1 1264)) (u_13.2.1 1264)) : (g_rw ((u_9.2.1 1262)) 120 0 1001) ∧ ((((0 ≤ x ∧ x < u.1 1239) ∧ (0 ≤ y ∧ y ≤ 9999)) ∧ (u_13.1 1268 : Int32) = (f_all k x y).1) ∨ (¬ ((0 ≤ x ∧ x < u.1 1239) ∧ (0 ≤ y ∧ y ≤ 9999)) ∧ (u_13.1 1268 : Int32) = -1)) := by
  have hz1247 := hI.1.s1247
  have hz1239 := hI.1.s1239
  first | exact ⟨(by assumption : g_rw _ _ _ _ ∧ f_fi k _).1, Or.inl ⟨⟨by assumption, by assumption⟩, (by assumption : (_ ∧ _) ∧ f_sw _ _ _ _ _ _).1.2⟩⟩ | exact ⟨hSc, Or.inr ⟨fun q => (by obtain ⟨q1, q2⟩ := q; first | exact absurd q1 (by assumption) | exact absurd q2 (by assumption)), rfl⟩⟩
set_option maxRecDepth 100000 in
theorem g_X12_fewest_f_v3 (u : qS) (x : Int32) (y : Int32) (k : qS) (hI : IM u) (hSc : g_rw (u.2.1 1262) 120 0 1001) (hk : IK k u) (b7_4 : 0 ≤ x ∧ x < (u.1 1239 : Int32)) (b14_8 : ¬ (0 ≤ y ∧ y ≤ 9999)) : (g_rw ((u.2.1 1262)) 120 0 1001) ∧ ((((0 ≤ x ∧ x < u.1 1239) ∧ (0 ≤ y ∧ y ≤ 9999)) ∧ ((-1) : Int32) = (f_all k x y).1) ∨ (¬ ((0 ≤ x ∧ x < u.1 1239) ∧ (0 ≤ y ∧ y ≤ 9999)) ∧ ((-1) : Int32) = -1)) := by
  have hz1239 := hI.1.s1239
  first | exact ⟨(by assumption : g_rw _ _ _ _ ∧ f_fi k _).1, Or.inl ⟨⟨by assumption, by assumption⟩, (by assumption : (_ ∧ _) ∧ f_sw _ _ _ _ _ _).1.2⟩⟩ | exact ⟨hSc, Or.inr ⟨fun q => (by obtain ⟨q1, q2⟩ := q; first | exact absurd q1 (by assumption) | exact absurd q2 (by assumption)), rfl⟩⟩
set_option maxRecDepth 100000 in
theorem g_X12_fewest_f_v4 (u : qS) (x : Int32) (y : Int32) (k : qS) (hI : IM u) (hSc : g_rw (u.2.1 1262) 120 0 1001) (hk : IK k u) (b7_4 : ¬ (0 ≤ x ∧ x < (u.1 1239 : Int32))) : (g_rw ((u.2.1 1262)) 120 0 1001) ∧ ((((0 ≤ x ∧ x < u.1 1239) ∧ (0 ≤ y ∧ y ≤ 9999)) ∧ ((-1) : Int32) = (f_all k x y).1) ∨ (¬ ((0 ≤ x ∧ x < u.1 1239) ∧ (0 ≤ y ∧ y ≤ 9999)) ∧ ((-1) : Int32) = -1)) := by
  have hz1239 := hI.1.s1239
  first | exact ⟨(by assumption : g_rw _ _ _ _ ∧ f_fi k _).1, Or.inl ⟨⟨by assumption, by assumption⟩, (by assumption : (_ ∧ _) ∧ f_sw _ _ _ _ _ _).1.2⟩⟩ | exact ⟨hSc, Or.inr ⟨fun q => (by obtain ⟨q1, q2⟩ := q; first | exact absurd q1 (by assumption) | exact absurd q2 (by assumption)), rfl⟩⟩
set_option maxHeartbeats 1000000 in
set_option maxRecDepth 100000 in
theorem g_X12_fewest_f (l : Launch) (E : qE) (A : Nat → Prop) (u : qS) (x : Int32) (y : Int32) (k : qS) (hI : IM u) (hSc : g_rw (u.2.1 1262) 120 0 1001) (hk : IK k u) : Met l yX12_fewest (uws yX12_fewest cX12_fewest 3 (some .int)) (qR 4 0 0) (qPc E A 1 u [.ref (E.2.2 1299), .int x, .int y]) (qQi E A 1 (fun r u1 => qFr [1200, 1260, 1225, 1228, 1229, 1270, 1265, 1268, 1269] [1261, 1224, 1226, 1227, 1262, 1263, 1264, 1266, 1267] [] u u1 ∧ ((g_rw (u1.2.1 1262) 120 0 1001) ∧ ((((0 ≤ x ∧ x < u.1 1239) ∧ (0 ≤ y ∧ y ≤ 9999)) ∧ r = (f_all k x y).1) ∨ (¬ ((0 ≤ x ∧ x < u.1 1239) ∧ (0 ≤ y ∧ y ≤ 9999)) ∧ r = -1))))) 0 0 A := by
  refine q_met (own := RX12) (f := 4) [.ref (E.2.2 1299), .int x, .int y] (by decide) (Nat.le_of_ble_eq_true rfl) rfl ?_
  intro p0 e0 s0 m0 bl0 me0 cd0 ls hF hr hlocks hU hS hA hl
  have hl : lv_has ls 3 [(0, .ref (E.2.2 1299)), (1, .int x), (2, .int y)] := hl
  have hfr : qFr [1200, 1260, 1225, 1228, 1229, 1270, 1265, 1268, 1269] [1261, 1224, 1226, 1227, 1262, 1263, 1264, 1266, 1267] [] u u := qFr.rf
  refine lv_aload_n hF.1 hF.2.1 dX12_fewest_0 rfl (lv_at hl 0 rfl) ?_
  refine lv_iconst (v := 0) hF.1 hF.2.1 dX12_fewest_1 (by decide) ?_
  refine q_put hF hU hS dX12_fewest_2 0 12 0 1200 1299 rfl rfl rfl rfl inX12 tyX12 tyX12_ok nmX12 (by decide) (by decide) rfl w_1329 rfl rfl rfl rfl (fun H locs hU hS => ?_)
  have hfr : qFr [1200, 1260, 1225, 1228, 1229, 1270, 1265, 1268, 1269] [1261, 1224, 1226, 1227, 1262, 1263, 1264, 1266, 1267] [] u (qsI u 1200 0) := hfr.setI (by decide)
  refine lv_aload_n hF.1 hF.2.1 dX12_fewest_5 rfl (lv_at hl 0 rfl) ?_
  refine lv_iload_n hF.1 hF.2.1 dX12_fewest_6 rfl (lv_at hl 1 rfl) ?_
  have hM9 := g_X12_isBuyer l E A (qsI u 1200 0) x
  have hR9 := q_runV (l := l) (e := e0) (below := bl0) (meth := me0) (R := qR 4 0 0) (cells := 0) (slots := 0) (st0 := [.int x, .ref (E.2.2 1299)]) (rest := []) hF hU hS hA 1 0 12 1299 rfl rfl rfl hM9 w_1714 w_1716 w_69 w_107 w_1717 (by decide +kernel) ⟨Nat.le_of_ble_eq_true rfl, Nat.le_of_ble_eq_true rfl⟩ dX12_fewest_7 rfl hl.1 rfl (Nat.le_of_ble_eq_true rfl) ⟨Nat.le_of_ble_eq_true rfl, Nat.le_of_ble_eq_true rfl⟩
  refine q_calli hR9 hU.2.2.2 hS (fun r_3 u_1 H locs hw_2 hU hS => ?_)
  obtain ⟨hw_2_e, hw_2⟩ := hw_2
  rw [hw_2_e] at hU
  have hw_2 : (r_3 = 1 ∧ (0 ≤ x ∧ x < (u.1 1239 : Int32))) ∨ (r_3 = 0 ∧ ¬ (0 ≤ x ∧ x < (u.1 1239 : Int32))) := by rw [(hfr.1 1239 (by decide))] at hw_2; exact hw_2
  rcases hw_2 with ⟨rfl, b7_4⟩ | ⟨rfl, b7_4⟩
  · refine lv_if_eq (tgt := 20) hF.1 hF.2.1 dX12_fewest_10 (by decide) (fun h9 => absurd h9 (by decide)) (fun _ => ?_)
    refine lv_iload_n hF.1 hF.2.1 dX12_fewest_13 rfl (lv_at hl 2 rfl) ?_
    have hM9 := g_X12_isDay l E A (qsI u 1200 0) y
    have hR9 := q_runS (l := l) (e := e0) (below := bl0) (meth := me0) (R := qR 4 0 0) (cells := 0) (slots := 0) (st0 := [.int y]) (rest := []) hF hU hS hA 1 hM9 w_1806 w_1807 w_107 w_1808 (by decide +kernel) ⟨Nat.le_of_ble_eq_true rfl, Nat.le_of_ble_eq_true rfl⟩ dX12_fewest_14 rfl hl.1 rfl (Nat.le_of_ble_eq_true rfl) ⟨Nat.le_of_ble_eq_true rfl, Nat.le_of_ble_eq_true rfl⟩
    refine q_calli hR9 hU.2.2.2 hS (fun r_7 u_5 H locs hw_6 hU hS => ?_)
    obtain ⟨hw_6_e, hw_6⟩ := hw_6
    rw [hw_6_e] at hU
    have hw_6 : (r_7 = 1 ∧ (0 ≤ y ∧ y ≤ 9999)) ∨ (r_7 = 0 ∧ ¬ (0 ≤ y ∧ y ≤ 9999)) := hw_6
    rcases hw_6 with ⟨rfl, b14_8⟩ | ⟨rfl, b14_8⟩
    · refine lv_if_ne (tgt := 22) hF.1 hF.2.1 dX12_fewest_17 (by decide) (fun _ => ?_) (fun h9 => absurd h9 (by decide))
      refine lv_aload_n hF.1 hF.2.1 dX12_fewest_22 rfl (lv_at hl 0 rfl) ?_
      have hM9 := g_X12_findAll_f l E A (qsI u 1200 0) k (hI.fr hfr (by decide) (by decide)) (g_X12_fewest_f_v0 u x y k hI hSc hk b7_4 b14_8) (hk.fr hfr (by decide) (by decide))
      have hR9 := q_runV (l := l) (e := e0) (below := bl0) (meth := me0) (R := qR 4 0 0) (cells := 0) (slots := 0) (st0 := [.ref (E.2.2 1299)]) (rest := []) hF hU hS hA 0 0 12 1299 rfl rfl rfl hM9 w_1738 w_1740 w_73 w_107 w_1741 (by decide +kernel) ⟨Nat.le_of_ble_eq_true rfl, Nat.le_of_ble_eq_true rfl⟩ dX12_fewest_23 rfl hl.1 rfl (Nat.le_of_ble_eq_true rfl) ⟨Nat.le_of_ble_eq_true rfl, Nat.le_of_ble_eq_true rfl⟩
      refine q_callv hR9 hU.2.2.2 hS (fun u_9 H locs hw_10 hU hS => ?_)
      have hw_10_f := hw_10.1
      have hfo := hfr
      have hfr : qFr [1200, 1260, 1225, 1228, 1229, 1270, 1265, 1268, 1269] [1261, 1224, 1226, 1227, 1262, 1263, 1264, 1266, 1267] [] u u_9 := hfr.trans (hw_10_f.mono (by decide) (by decide) (by decide))
      have hw_10 := hw_10.2
      have e_12 : u_9.1 1200 = 0 := (hw_10_f.1 1200 (by decide)).trans rfl
      have hw_10 : g_rw (u_9.2.1 1262) 120 0 1001 ∧ f_fi k (u_9.2.1 1264) := hw_10
      refine lv_aload_n hF.1 hF.2.1 dX12_fewest_26 rfl (lv_at hl 0 rfl) ?_
      refine lv_iload_n hF.1 hF.2.1 dX12_fewest_27 rfl (lv_at hl 1 rfl) ?_
      refine lv_iload_n hF.1 hF.2.1 dX12_fewest_28 rfl (lv_at hl 2 rfl) ?_
      have hM9 := g_X12_findFewest_f l E A u_9 x y k (hI.fr hfr (by decide) (by decide)) (hk.fr hfr (by decide) (by decide)) (g_X12_fewest_f_v1 u x y k u_9 hI hSc hk b7_4 b14_8 hw_10)
      have hR9 := q_runV (l := l) (e := e0) (below := bl0) (meth := me0) (R := qR 4 0 0) (cells := 0) (slots := 0) (st0 := [.int y, .int x, .ref (E.2.2 1299)]) (rest := []) hF hU hS hA 2 0 12 1299 rfl rfl rfl hM9 w_1780 w_1782 w_82 w_107 w_1783 (by decide +kernel) ⟨Nat.le_of_ble_eq_true rfl, Nat.le_of_ble_eq_true rfl⟩ dX12_fewest_29 rfl hl.1 rfl (Nat.le_of_ble_eq_true rfl) ⟨Nat.le_of_ble_eq_true rfl, Nat.le_of_ble_eq_true rfl⟩
      refine q_callv hR9 hU.2.2.2 hS (fun u_13 H locs hw_14 hU hS => ?_)
      have hw_14_f := hw_14.1
      have hfo := hfr
      have hfr : qFr [1200, 1260, 1225, 1228, 1229, 1270, 1265, 1268, 1269] [1261, 1224, 1226, 1227, 1262, 1263, 1264, 1266, 1267] [] u u_13 := hfr.trans (hw_14_f.mono (by decide) (by decide) (by decide))
      have hw_14 := hw_14.2
      have e_16 : u_13.1 1200 = 0 := (hw_14_f.1 1200 (by decide)).trans e_12
      have e_17 : u_13.1 1260 = (u_9.1 1260) := (hw_14_f.1 1260 (by decide)).trans rfl
      have e_18 : u_13.1 1225 = (u_9.1 1225) := (hw_14_f.1 1225 (by decide)).trans rfl
      have e_19 : u_13.1 1228 = (u_9.1 1228) := (hw_14_f.1 1228 (by decide)).trans rfl
      have e_20 : u_13.1 1229 = (u_9.1 1229) := (hw_14_f.1 1229 (by decide)).trans rfl
      have e_21 : u_13.1 1270 = (u_9.1 1270) := (hw_14_f.1 1270 (by decide)).trans rfl
      have e_22 : u_13.2.1 1261 = (u_9.2.1 1261) := (hw_14_f.2.1 1261 (by decide)).trans rfl
      have e_23 : u_13.2.1 1224 = (u_9.2.1 1224) := (hw_14_f.2.1 1224 (by decide)).trans rfl
      have e_24 : u_13.2.1 1226 = (u_9.2.1 1226) := (hw_14_f.2.1 1226 (by decide)).trans rfl
      have e_25 : u_13.2.1 1227 = (u_9.2.1 1227) := (hw_14_f.2.1 1227 (by decide)).trans rfl
      have e_26 : u_13.2.1 1262 = (u_9.2.1 1262) := (hw_14_f.2.1 1262 (by decide)).trans rfl
      have e_27 : u_13.2.1 1263 = (u_9.2.1 1263) := (hw_14_f.2.1 1263 (by decide)).trans rfl
      have hw_14 : (((0 ≤ u_13.1 1265 ∧ u_13.1 1265 ≤ 12) ∧ g_rw (u_13.2.1 1266) (u_13.1 1265).toInt 0 ((u.1 1247 : Int32)).toInt) ∧ u_13.1 1268 = (f_all k x y).1) ∧ f_sw k x y (f_n (f_gp k x y) (k.1 1247).toNatClampNeg) ((u_9.2.1 1264)) (u_13.2.1 1264) := by rw [(hfo.1 1247 (by decide))] at hw_14; exact hw_14
      refine lv_aload_n hF.1 hF.2.1 dX12_fewest_32 rfl (lv_at hl 0 rfl) ?_
      refine q_get (v := .int (u_13.1 1268)) hF hU dX12_fewest_33 0 12 68 1268 1299 rfl rfl rfl rfl inX12 (by decide) (by decide) w_1397 rfl rfl ?_
      exact q_iret hF hr rfl hlocks hU hS dX12_fewest_36 ⟨hfr, by first | (rw [show (u_13).2.1 1262 = (u_9.2.1 1262) from e_26]; exact (g_X12_fewest_f_v2 u x y k u_9 u_13 hI hSc hk b7_4 b14_8 hw_10 hw_14)) | rw [show (u_13).2.1 1262 = (u_9.2.1 1262) from e_26]⟩
    · refine lv_if_ne (tgt := 22) hF.1 hF.2.1 dX12_fewest_17 (by decide) (fun h9 => absurd (by decide) h9) (fun _ => ?_)
      refine lv_iconst (v := (-1)) hF.1 hF.2.1 dX12_fewest_20 (by decide) ?_
      exact q_iret hF hr rfl hlocks hU hS dX12_fewest_21 ⟨hfr, (g_X12_fewest_f_v3 u x y k hI hSc hk b7_4 b14_8)⟩
  · refine lv_if_eq (tgt := 20) hF.1 hF.2.1 dX12_fewest_10 (by decide) (fun _ => ?_) (fun h9 => absurd (by decide) h9)
    refine lv_iconst (v := (-1)) hF.1 hF.2.1 dX12_fewest_20 (by decide) ?_
    exact q_iret hF hr rfl hlocks hU hS dX12_fewest_21 ⟨hfr, (g_X12_fewest_f_v4 u x y k hI hSc hk b7_4)⟩
