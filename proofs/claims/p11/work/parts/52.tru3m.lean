set_option maxRecDepth 100000 in
theorem g_X10_inWeek_k_v0 (u : qS) (o : Nat) (k : qS) (n_o : Int32) (hk_o : qKn k u o n_o) (hz8 : 0 ≤ u.1 8 ∧ u.1 8 ≤ 20) (hz9 : 0 ≤ u.1 9 ∧ u.1 9 ≤ 8) (hz10 : 0 ≤ u.1 10 ∧ u.1 10 ≤ 120) (hz12 : 0 ≤ u.1 12 ∧ u.1 12 ≤ 16) : ((k.2.1 1250 (n_o : Int32).toNatClampNeg) / 7 : Int32) = k.2.1 1250 n_o.toNatClampNeg / 7 := by
  rfl
set_option maxHeartbeats 1000000 in
set_option maxRecDepth 100000 in
theorem g_X10_inWeek_k (l : Launch) (E : qE) (A : Nat → Prop) (u : qS) (o : Nat) (k : qS) (n_o : Int32) (hI : IC E u) (ho : qRf u o 10) (hk_o : qKn k u o n_o) : Met l yX10_inWeek (uws yX10_inWeek cX10_inWeek 1 (some .int)) (qR 0 0 0) (qPc E A 0 u [.ref o]) (qQi E A 0 (fun r u1 => u1 = u ∧ (r = k.2.1 1250 n_o.toNatClampNeg / 7))) 0 0 A := by
  refine q_met (own := RX10) (f := 0) [.ref o] (by decide) (Nat.le_of_ble_eq_true rfl) rfl ?_
  intro p0 e0 s0 m0 bl0 me0 cd0 ls hF hr hlocks hU hS hA hl
  have hl : lv_has ls 1 [(0, .ref o)] := hl
  have hz8 : 0 ≤ u.1 8 ∧ u.1 8 ≤ 20 := hI.1.s8
  have hz9 : 0 ≤ u.1 9 ∧ u.1 9 ≤ 8 := hI.1.s9
  have hz10 : 0 ≤ u.1 10 ∧ u.1 10 ≤ 120 := hI.1.s10
  have hz12 : 0 ≤ u.1 12 ∧ u.1 12 ≤ 16 := hI.1.s12
  refine lv_aload_n hF.1 hF.2.1 dX10_inWeek_0 rfl (lv_at hl 0 rfl) ?_
  obtain ⟨k_1, fs_2, hd_3, hv_4⟩ := hk_o.at 4 (by decide) (by decide)
  refine q_getd (v := .int (k.2.1 1250 (n_o : Int32).toNatClampNeg)) hF hU dX10_inWeek_1 k_1 10 4 hd_3 rfl inX10 (by decide) w_600 rfl hv_4 ?_
  refine lv_bipush (v := 7) hF.1 hF.2.1 dX10_inWeek_4 (by decide) ?_
  refine lv_idiv hF.1 hF.2.1 dX10_inWeek_6 (by decide) ?_
  exact q_iret hF hr rfl hlocks hU hS dX10_inWeek_7 ⟨rfl, (g_X10_inWeek_k_v0 u o k n_o hk_o hz8 hz9 hz10 hz12)⟩
set_option maxRecDepth 100000 in
theorem g_X3_isTaken_k_v0 (u : qS) (v : Nat) (k : qS) (P : Nat → Int32) (n_v : Int32) (S : Nat → Int32) (hk : CT k P u) (hk_v : qKn k u v n_v) (hQ : qFD 10 S u) (hfi : f_fi k S) (hz8 : 0 ≤ u.1 8 ∧ u.1 8 ≤ 20) (hz9 : 0 ≤ u.1 9 ∧ u.1 9 ≤ 8) (hz10 : 0 ≤ u.1 10 ∧ u.1 10 ≤ 120) (hz12 : 0 ≤ u.1 12 ∧ u.1 12 ≤ 16) (b5_4 : (k).2.1 1255 (n_v).toNatClampNeg ≤ f_vd (k)) (b12_11 : (S) (n_v).toNatClampNeg = 0 ∨ (S) (n_v).toNatClampNeg = 3) : (1 = (1 : Int32) ∧ (f_co k n_v)) ∨ (1 = (0 : Int32) ∧ ¬ (f_co k n_v)) := by
  first | exact Or.inl ⟨rfl, t_co hk hk_v hfi (by assumption) (by assumption)⟩ | exact Or.inr ⟨rfl, fun q => absurd q.1.2 (by assumption)⟩ | exact Or.inr ⟨rfl, t_con hfi (by assumption)⟩
set_option maxRecDepth 100000 in
theorem g_X3_isTaken_k_v1 (u : qS) (v : Nat) (k : qS) (P : Nat → Int32) (n_v : Int32) (S : Nat → Int32) (hk : CT k P u) (hk_v : qKn k u v n_v) (hQ : qFD 10 S u) (hfi : f_fi k S) (hz8 : 0 ≤ u.1 8 ∧ u.1 8 ≤ 20) (hz9 : 0 ≤ u.1 9 ∧ u.1 9 ≤ 8) (hz10 : 0 ≤ u.1 10 ∧ u.1 10 ≤ 120) (hz12 : 0 ≤ u.1 12 ∧ u.1 12 ≤ 16) (b5_4 : (k).2.1 1255 (n_v).toNatClampNeg ≤ f_vd (k)) (b12_11 : ¬ ((S) (n_v).toNatClampNeg = 0 ∨ (S) (n_v).toNatClampNeg = 3)) : (0 = (1 : Int32) ∧ (f_co k n_v)) ∨ (0 = (0 : Int32) ∧ ¬ (f_co k n_v)) := by
  first | exact Or.inl ⟨rfl, t_co hk hk_v hfi (by assumption) (by assumption)⟩ | exact Or.inr ⟨rfl, fun q => absurd q.1.2 (by assumption)⟩ | exact Or.inr ⟨rfl, t_con hfi (by assumption)⟩
set_option maxRecDepth 100000 in
theorem g_X3_isTaken_k_v2 (u : qS) (v : Nat) (k : qS) (P : Nat → Int32) (n_v : Int32) (S : Nat → Int32) (hk : CT k P u) (hk_v : qKn k u v n_v) (hQ : qFD 10 S u) (hfi : f_fi k S) (hz8 : 0 ≤ u.1 8 ∧ u.1 8 ≤ 20) (hz9 : 0 ≤ u.1 9 ∧ u.1 9 ≤ 8) (hz10 : 0 ≤ u.1 10 ∧ u.1 10 ≤ 120) (hz12 : 0 ≤ u.1 12 ∧ u.1 12 ≤ 16) (b5_4 : ¬ ((k).2.1 1255 (n_v).toNatClampNeg ≤ f_vd (k))) : (0 = (1 : Int32) ∧ (f_co k n_v)) ∨ (0 = (0 : Int32) ∧ ¬ (f_co k n_v)) := by
  first | exact Or.inl ⟨rfl, t_co hk hk_v hfi (by assumption) (by assumption)⟩ | exact Or.inr ⟨rfl, fun q => absurd q.1.2 (by assumption)⟩ | exact Or.inr ⟨rfl, t_con hfi (by assumption)⟩
set_option maxHeartbeats 1000000 in
set_option maxRecDepth 100000 in
theorem g_X3_isTaken_k (l : Launch) (E : qE) (A : Nat → Prop) (u : qS) (v : Nat) (k : qS) (P : Nat → Int32) (n_v : Int32) (S : Nat → Int32) (hI : IC E u) (hv : qRf u v 10) (hk : CT k P u) (hk_v : qKn k u v n_v) (hQ : qFD 10 S u) (hfi : f_fi k S) : Met l yX3_isTaken (uws yX3_isTaken cX3_isTaken 2 (some .boolean)) (qR 2 0 0) (qPc E A 0 u [.ref (E.2.2 399), .ref v]) (qQi E A 0 (fun r u1 => u1 = u ∧ ((r = 1 ∧ (f_co k n_v)) ∨ (r = 0 ∧ ¬ (f_co k n_v))))) 0 0 A := by
  refine q_met (own := RX3) (f := 2) [.ref (E.2.2 399), .ref v] (by decide) (Nat.le_of_ble_eq_true rfl) rfl ?_
  intro p0 e0 s0 m0 bl0 me0 cd0 ls hF hr hlocks hU hS hA hl
  have hl : lv_has ls 2 [(0, .ref (E.2.2 399)), (1, .ref v)] := hl
  have hz8 : 0 ≤ u.1 8 ∧ u.1 8 ≤ 20 := hI.1.s8
  have hz9 : 0 ≤ u.1 9 ∧ u.1 9 ≤ 8 := hI.1.s9
  have hz10 : 0 ≤ u.1 10 ∧ u.1 10 ≤ 120 := hI.1.s10
  have hz12 : 0 ≤ u.1 12 ∧ u.1 12 ≤ 16 := hI.1.s12
  refine lv_aload_n hF.1 hF.2.1 dX3_isTaken_0 rfl (lv_at hl 0 rfl) ?_
  refine q_get (v := .ref (E.2.2 99)) hF hU dX3_isTaken_1 6 3 0 300 399 rfl rfl rfl rfl inX3 (by decide) (by decide) w_377 rfl rfl ?_
  refine lv_aload_n hF.1 hF.2.1 dX3_isTaken_4 rfl (lv_at hl 1 rfl) ?_
  have hM9 := g_X0_isSeen_k l E A u v k P n_v hI hv hk hk_v
  have hR9 := q_runV (l := l) (e := e0) (below := bl0) (meth := me0) (R := qR 2 0 0) (cells := 0) (slots := 0) (st0 := [.ref v, .ref (E.2.2 99)]) (rest := []) hF hU hS hA 1 1 0 99 rfl rfl rfl hM9 w_994 w_861 w_862 w_100 w_863 (by decide +kernel) ⟨Nat.le_of_ble_eq_true rfl, Nat.le_of_ble_eq_true rfl⟩ dX3_isTaken_5 rfl hl.1 rfl (Nat.le_of_ble_eq_true rfl) ⟨Nat.le_of_ble_eq_true rfl, Nat.le_of_ble_eq_true rfl⟩
  refine q_calli hR9 hU.2.2.2 hS (fun r_3 u_1 H locs hw_2 hU hS => ?_)
  obtain ⟨hw_2_e, hw_2⟩ := hw_2
  rw [hw_2_e] at hU
  have hw_2 : (r_3 = 1 ∧ ((k).2.1 1255 (n_v).toNatClampNeg ≤ f_vd (k))) ∨ (r_3 = 0 ∧ (¬ ((k).2.1 1255 (n_v).toNatClampNeg ≤ f_vd (k)))) := hw_2
  rcases hw_2 with ⟨rfl, b5_4⟩ | ⟨rfl, b5_4⟩
  · refine lv_if_eq (tgt := 22) hF.1 hF.2.1 dX3_isTaken_8 (by decide) (fun h9 => absurd h9 (by decide)) (fun _ => ?_)
    refine lv_aload_n hF.1 hF.2.1 dX3_isTaken_11 rfl (lv_at hl 1 rfl) ?_
    have hM9 := g_X10_counts_k l E A u v k n_v S hI hv hk_v hQ
    obtain ⟨k_5, fs_6, hd_7⟩ := id (hv)
    have hR9 := q_runVd (l := l) (e := e0) (below := bl0) (meth := me0) (R := qR 2 0 0) (cells := 0) (slots := 0) (st0 := [.ref v]) (rest := []) hF hU hS hA 0 k_5 10 hd_7 rfl hM9 w_995 w_908 w_909 w_110 w_910 (by decide +kernel) ⟨Nat.le_of_ble_eq_true rfl, Nat.le_of_ble_eq_true rfl⟩ dX3_isTaken_12 rfl hl.1 rfl (Nat.le_of_ble_eq_true rfl) ⟨Nat.le_of_ble_eq_true rfl, Nat.le_of_ble_eq_true rfl⟩
    refine q_calli hR9 hU.2.2.2 hS (fun r_10 u_8 H locs hw_9 hU hS => ?_)
    obtain ⟨hw_9_e, hw_9⟩ := hw_9
    rw [hw_9_e] at hU
    have hw_9 : (r_10 = 1 ∧ ((S) (n_v).toNatClampNeg = 0 ∨ (S) (n_v).toNatClampNeg = 3)) ∨ (r_10 = 0 ∧ (¬ ((S) (n_v).toNatClampNeg = 0 ∨ (S) (n_v).toNatClampNeg = 3))) := hw_9
    rcases hw_9 with ⟨rfl, b12_11⟩ | ⟨rfl, b12_11⟩
    · refine lv_if_eq (tgt := 22) hF.1 hF.2.1 dX3_isTaken_15 (by decide) (fun h9 => absurd h9 (by decide)) (fun _ => ?_)
      refine lv_iconst (v := 1) hF.1 hF.2.1 dX3_isTaken_18 (by decide) ?_
      refine lv_goto (tgt := 23) hF.1 hF.2.1 dX3_isTaken_19 (by decide) ?_
      exact q_iret hF hr (by decide) hlocks hU hS dX3_isTaken_23 ⟨rfl, (g_X3_isTaken_k_v0 u v k P n_v S hk hk_v hQ hfi hz8 hz9 hz10 hz12 b5_4 b12_11)⟩
    · refine lv_if_eq (tgt := 22) hF.1 hF.2.1 dX3_isTaken_15 (by decide) (fun _ => ?_) (fun h9 => absurd (by decide) h9)
      refine lv_iconst (v := 0) hF.1 hF.2.1 dX3_isTaken_22 (by decide) ?_
      exact q_iret hF hr (by decide) hlocks hU hS dX3_isTaken_23 ⟨rfl, (g_X3_isTaken_k_v1 u v k P n_v S hk hk_v hQ hfi hz8 hz9 hz10 hz12 b5_4 b12_11)⟩
  · refine lv_if_eq (tgt := 22) hF.1 hF.2.1 dX3_isTaken_8 (by decide) (fun _ => ?_) (fun h9 => absurd (by decide) h9)
    refine lv_iconst (v := 0) hF.1 hF.2.1 dX3_isTaken_22 (by decide) ?_
    exact q_iret hF hr (by decide) hlocks hU hS dX3_isTaken_23 ⟨rfl, (g_X3_isTaken_k_v2 u v k P n_v S hk hk_v hQ hfi hz8 hz9 hz10 hz12 b5_4)⟩
set_option maxRecDepth 100000 in
theorem g_X3_meet_k_v0 (u : qS) (v : Nat) (w : Nat) (k : qS) (P : Nat → Int32) (n_v : Int32) (n_w : Int32) (B : Nat → Int32) (hk : CT k P u) (hk_v : qKn k u v n_v) (hk_w : qKn k u w n_w) (hB : qFD 11 B u) (hz8 : 0 ≤ u.1 8 ∧ u.1 8 ≤ 20) (hz9 : 0 ≤ u.1 9 ∧ u.1 9 ≤ 8) (hz10 : 0 ≤ u.1 10 ∧ u.1 10 ≤ 120) (hz12 : 0 ≤ u.1 12 ∧ u.1 12 ≤ 16) (hb_5 : 0 ≤ k.2.1 1249 (n_v : Int32).toNatClampNeg ∧ k.2.1 1249 (n_v : Int32).toNatClampNeg < (u.1 9)) : vp_in (k.2.1 1249 (n_v : Int32).toNatClampNeg) 8 := by
  refine g_in ?_ ?_ <;> ((try simp only [g_m1, Int32.lt_iff_toInt_lt, Int32.le_iff_toInt_le, ← Int32.toInt_inj, Int32.toInt_add, Int32.toInt_sub, Int32.toInt_mul, Int32.toInt_neg, Int32.reduceToInt, g_bm, g_bm'] at *); omega)
set_option maxRecDepth 100000 in
theorem g_X3_meet_k_v1 (u : qS) (v : Nat) (w : Nat) (k : qS) (P : Nat → Int32) (n_v : Int32) (n_w : Int32) (B : Nat → Int32) (hk : CT k P u) (hk_v : qKn k u v n_v) (hk_w : qKn k u w n_w) (hB : qFD 11 B u) (hz8 : 0 ≤ u.1 8 ∧ u.1 8 ≤ 20) (hz9 : 0 ≤ u.1 9 ∧ u.1 9 ≤ 8) (hz10 : 0 ≤ u.1 10 ∧ u.1 10 ≤ 120) (hz12 : 0 ≤ u.1 12 ∧ u.1 12 ≤ 16) (hb_5 : 0 ≤ k.2.1 1249 (n_v : Int32).toNatClampNeg ∧ k.2.1 1249 (n_v : Int32).toNatClampNeg < (u.1 9)) : vp_in (k.2.1 1249 (n_v : Int32).toNatClampNeg) 8 := by
  refine g_in ?_ ?_ <;> ((try simp only [g_m1, Int32.lt_iff_toInt_lt, Int32.le_iff_toInt_le, ← Int32.toInt_inj, Int32.toInt_add, Int32.toInt_sub, Int32.toInt_mul, Int32.toInt_neg, Int32.reduceToInt, g_bm, g_bm'] at *); omega)
set_option maxRecDepth 100000 in
theorem g_X3_meet_k_v2 (u : qS) (v : Nat) (w : Nat) (k : qS) (P : Nat → Int32) (n_v : Int32) (n_w : Int32) (B : Nat → Int32) (f_14 : Nat → Int32) (hk : CT k P u) (hk_v : qKn k u v n_v) (hk_w : qKn k u w n_w) (hB : qFD 11 B u) (hz8 : 0 ≤ u.1 8 ∧ u.1 8 ≤ 20) (hz9 : 0 ≤ u.1 9 ∧ u.1 9 ≤ 8) (hz10 : 0 ≤ u.1 10 ∧ u.1 10 ≤ 120) (hz12 : 0 ≤ u.1 12 ∧ u.1 12 ≤ 16) (hb_5 : 0 ≤ k.2.1 1249 (n_v : Int32).toNatClampNeg ∧ k.2.1 1249 (n_v : Int32).toNatClampNeg < (u.1 9)) (hf_14 : f_14 = upd (u.2.1 303) (k.2.1 1249 (n_v : Int32).toNatClampNeg : Int32).toNatClampNeg ((u.2.1 303 (k.2.1 1249 (n_v : Int32).toNatClampNeg : Int32).toNatClampNeg) + ((B (n_v : Int32).toNatClampNeg) - (B (n_w : Int32).toNatClampNeg)))) : vp_in (k.2.1 1249 (n_v : Int32).toNatClampNeg) 8 := by
  refine g_in ?_ ?_ <;> ((try simp only [g_m1, Int32.lt_iff_toInt_lt, Int32.le_iff_toInt_le, ← Int32.toInt_inj, Int32.toInt_add, Int32.toInt_sub, Int32.toInt_mul, Int32.toInt_neg, Int32.reduceToInt, g_bm, g_bm'] at *); omega)
set_option maxRecDepth 100000 in
theorem g_X3_meet_k_v3 (u : qS) (v : Nat) (w : Nat) (k : qS) (P : Nat → Int32) (n_v : Int32) (n_w : Int32) (B : Nat → Int32) (f_14 : Nat → Int32) (hk : CT k P u) (hk_v : qKn k u v n_v) (hk_w : qKn k u w n_w) (hB : qFD 11 B u) (hz8 : 0 ≤ u.1 8 ∧ u.1 8 ≤ 20) (hz9 : 0 ≤ u.1 9 ∧ u.1 9 ≤ 8) (hz10 : 0 ≤ u.1 10 ∧ u.1 10 ≤ 120) (hz12 : 0 ≤ u.1 12 ∧ u.1 12 ≤ 16) (hb_5 : 0 ≤ k.2.1 1249 (n_v : Int32).toNatClampNeg ∧ k.2.1 1249 (n_v : Int32).toNatClampNeg < (u.1 9)) (hf_14 : f_14 = upd (u.2.1 303) (k.2.1 1249 (n_v : Int32).toNatClampNeg : Int32).toNatClampNeg ((u.2.1 303 (k.2.1 1249 (n_v : Int32).toNatClampNeg : Int32).toNatClampNeg) + ((B (n_v : Int32).toNatClampNeg) - (B (n_w : Int32).toNatClampNeg)))) : vp_in (k.2.1 1249 (n_v : Int32).toNatClampNeg) 8 := by
  refine g_in ?_ ?_ <;> ((try simp only [g_m1, Int32.lt_iff_toInt_lt, Int32.le_iff_toInt_le, ← Int32.toInt_inj, Int32.toInt_add, Int32.toInt_sub, Int32.toInt_mul, Int32.toInt_neg, Int32.reduceToInt, g_bm, g_bm'] at *); omega)
set_option maxRecDepth 100000 in
theorem g_X3_meet_k_v4 (u : qS) (v : Nat) (w : Nat) (k : qS) (P : Nat → Int32) (n_v : Int32) (n_w : Int32) (B : Nat → Int32) (f_14 : Nat → Int32) (f_19 : Nat → Int32) (hk : CT k P u) (hk_v : qKn k u v n_v) (hk_w : qKn k u w n_w) (hB : qFD 11 B u) (hz8 : 0 ≤ u.1 8 ∧ u.1 8 ≤ 20) (hz9 : 0 ≤ u.1 9 ∧ u.1 9 ≤ 8) (hz10 : 0 ≤ u.1 10 ∧ u.1 10 ≤ 120) (hz12 : 0 ≤ u.1 12 ∧ u.1 12 ≤ 16) (hb_5 : 0 ≤ k.2.1 1249 (n_v : Int32).toNatClampNeg ∧ k.2.1 1249 (n_v : Int32).toNatClampNeg < (u.1 9)) (hf_14 : f_14 = upd (u.2.1 303) (k.2.1 1249 (n_v : Int32).toNatClampNeg : Int32).toNatClampNeg ((u.2.1 303 (k.2.1 1249 (n_v : Int32).toNatClampNeg : Int32).toNatClampNeg) + ((B (n_v : Int32).toNatClampNeg) - (B (n_w : Int32).toNatClampNeg)))) (hf_19 : f_19 = upd (u.2.1 304) (k.2.1 1249 (n_v : Int32).toNatClampNeg : Int32).toNatClampNeg ((u.2.1 304 (k.2.1 1249 (n_v : Int32).toNatClampNeg : Int32).toNatClampNeg) + 1)) (hb_28 : 0 ≤ k.2.1 1249 (n_w : Int32).toNatClampNeg ∧ k.2.1 1249 (n_w : Int32).toNatClampNeg < (u.1 9)) : vp_in (((k.2.1 1249 (n_v : Int32).toNatClampNeg) * 8) + (k.2.1 1249 (n_w : Int32).toNatClampNeg)) 64 := by
  have ez0 : ((k.2.1 1249 (n_v : Int32).toNatClampNeg) * 8 : Int32).toInt = (k.2.1 1249 (n_v : Int32).toNatClampNeg : Int32).toInt * (8 : Int32).toInt := g_mul (by (try simp only [g_m1, Int32.lt_iff_toInt_lt, Int32.le_iff_toInt_le, ← Int32.toInt_inj, Int32.reduceToInt] at *); omega) (by (try simp only [g_m1, Int32.lt_iff_toInt_lt, Int32.le_iff_toInt_le, ← Int32.toInt_inj, Int32.reduceToInt] at *); omega)
  have ez1 : (((k.2.1 1249 (n_v : Int32).toNatClampNeg) * 8) + (k.2.1 1249 (n_w : Int32).toNatClampNeg) : Int32).toInt = ((k.2.1 1249 (n_v : Int32).toNatClampNeg) * 8 : Int32).toInt + (k.2.1 1249 (n_w : Int32).toNatClampNeg : Int32).toInt := g_add (by (try simp only [g_m1, Int32.lt_iff_toInt_lt, Int32.le_iff_toInt_le, ← Int32.toInt_inj, Int32.reduceToInt] at *); omega) (by (try simp only [g_m1, Int32.lt_iff_toInt_lt, Int32.le_iff_toInt_le, ← Int32.toInt_inj, Int32.reduceToInt] at *); omega)
  refine g_in ?_ ?_ <;> ((try simp only [g_m1, Int32.lt_iff_toInt_lt, Int32.le_iff_toInt_le, ← Int32.toInt_inj, Int32.reduceToInt] at *); omega)
set_option maxRecDepth 100000 in
theorem g_X3_meet_k_v5 (u : qS) (v : Nat) (w : Nat) (k : qS) (P : Nat → Int32) (n_v : Int32) (n_w : Int32) (B : Nat → Int32) (f_14 : Nat → Int32) (f_19 : Nat → Int32) (hk : CT k P u) (hk_v : qKn k u v n_v) (hk_w : qKn k u w n_w) (hB : qFD 11 B u) (hz8 : 0 ≤ u.1 8 ∧ u.1 8 ≤ 20) (hz9 : 0 ≤ u.1 9 ∧ u.1 9 ≤ 8) (hz10 : 0 ≤ u.1 10 ∧ u.1 10 ≤ 120) (hz12 : 0 ≤ u.1 12 ∧ u.1 12 ≤ 16) (hb_5 : 0 ≤ k.2.1 1249 (n_v : Int32).toNatClampNeg ∧ k.2.1 1249 (n_v : Int32).toNatClampNeg < (u.1 9)) (hf_14 : f_14 = upd (u.2.1 303) (k.2.1 1249 (n_v : Int32).toNatClampNeg : Int32).toNatClampNeg ((u.2.1 303 (k.2.1 1249 (n_v : Int32).toNatClampNeg : Int32).toNatClampNeg) + ((B (n_v : Int32).toNatClampNeg) - (B (n_w : Int32).toNatClampNeg)))) (hf_19 : f_19 = upd (u.2.1 304) (k.2.1 1249 (n_v : Int32).toNatClampNeg : Int32).toNatClampNeg ((u.2.1 304 (k.2.1 1249 (n_v : Int32).toNatClampNeg : Int32).toNatClampNeg) + 1)) (hb_28 : 0 ≤ k.2.1 1249 (n_w : Int32).toNatClampNeg ∧ k.2.1 1249 (n_w : Int32).toNatClampNeg < (u.1 9)) : vp_in (((k.2.1 1249 (n_v : Int32).toNatClampNeg) * 8) + (k.2.1 1249 (n_w : Int32).toNatClampNeg)) 64 := by
  have ez0 : ((k.2.1 1249 (n_v : Int32).toNatClampNeg) * 8 : Int32).toInt = (k.2.1 1249 (n_v : Int32).toNatClampNeg : Int32).toInt * (8 : Int32).toInt := g_mul (by (try simp only [g_m1, Int32.lt_iff_toInt_lt, Int32.le_iff_toInt_le, ← Int32.toInt_inj, Int32.reduceToInt] at *); omega) (by (try simp only [g_m1, Int32.lt_iff_toInt_lt, Int32.le_iff_toInt_le, ← Int32.toInt_inj, Int32.reduceToInt] at *); omega)
  have ez1 : (((k.2.1 1249 (n_v : Int32).toNatClampNeg) * 8) + (k.2.1 1249 (n_w : Int32).toNatClampNeg) : Int32).toInt = ((k.2.1 1249 (n_v : Int32).toNatClampNeg) * 8 : Int32).toInt + (k.2.1 1249 (n_w : Int32).toNatClampNeg : Int32).toInt := g_add (by (try simp only [g_m1, Int32.lt_iff_toInt_lt, Int32.le_iff_toInt_le, ← Int32.toInt_inj, Int32.reduceToInt] at *); omega) (by (try simp only [g_m1, Int32.lt_iff_toInt_lt, Int32.le_iff_toInt_le, ← Int32.toInt_inj, Int32.reduceToInt] at *); omega)
  refine g_in ?_ ?_ <;> ((try simp only [g_m1, Int32.lt_iff_toInt_lt, Int32.le_iff_toInt_le, ← Int32.toInt_inj, Int32.reduceToInt] at *); omega)
set_option maxRecDepth 100000 in
theorem g_X3_meet_k_v6 (u : qS) (v : Nat) (w : Nat) (k : qS) (P : Nat → Int32) (n_v : Int32) (n_w : Int32) (B : Nat → Int32) (f_14 : Nat → Int32) (f_19 : Nat → Int32) (f_29 : Nat → Int32) (hk : CT k P u) (hk_v : qKn k u v n_v) (hk_w : qKn k u w n_w) (hB : qFD 11 B u) (hz8 : 0 ≤ u.1 8 ∧ u.1 8 ≤ 20) (hz9 : 0 ≤ u.1 9 ∧ u.1 9 ≤ 8) (hz10 : 0 ≤ u.1 10 ∧ u.1 10 ≤ 120) (hz12 : 0 ≤ u.1 12 ∧ u.1 12 ≤ 16) (hb_5 : 0 ≤ k.2.1 1249 (n_v : Int32).toNatClampNeg ∧ k.2.1 1249 (n_v : Int32).toNatClampNeg < (u.1 9)) (hf_14 : f_14 = upd (u.2.1 303) (k.2.1 1249 (n_v : Int32).toNatClampNeg : Int32).toNatClampNeg ((u.2.1 303 (k.2.1 1249 (n_v : Int32).toNatClampNeg : Int32).toNatClampNeg) + ((B (n_v : Int32).toNatClampNeg) - (B (n_w : Int32).toNatClampNeg)))) (hf_19 : f_19 = upd (u.2.1 304) (k.2.1 1249 (n_v : Int32).toNatClampNeg : Int32).toNatClampNeg ((u.2.1 304 (k.2.1 1249 (n_v : Int32).toNatClampNeg : Int32).toNatClampNeg) + 1)) (hb_28 : 0 ≤ k.2.1 1249 (n_w : Int32).toNatClampNeg ∧ k.2.1 1249 (n_w : Int32).toNatClampNeg < (u.1 9)) (hf_29 : f_29 = upd (u.2.1 305) (((k.2.1 1249 (n_v : Int32).toNatClampNeg) * 8) + (k.2.1 1249 (n_w : Int32).toNatClampNeg) : Int32).toNatClampNeg ((u.2.1 305 (((k.2.1 1249 (n_v : Int32).toNatClampNeg) * 8) + (k.2.1 1249 (n_w : Int32).toNatClampNeg) : Int32).toNatClampNeg) + 1)) : m_one k B n_v n_w (u.2.1 303) (u.2.1 304) (u.2.1 305) (f_14) (f_19) (f_29) := by
  exact ⟨by assumption, by assumption, by assumption⟩
set_option maxHeartbeats 1000000 in
set_option maxRecDepth 100000 in
theorem g_X3_meet_k (l : Launch) (E : qE) (A : Nat → Prop) (u : qS) (v : Nat) (w : Nat) (k : qS) (P : Nat → Int32) (n_v : Int32) (n_w : Int32) (B : Nat → Int32) (hI : IC E u) (hv : qRf u v 10) (hw : qRf u w 10) (hk : CT k P u) (hk_v : qKn k u v n_v) (hk_w : qKn k u w n_w) (hB : qFD 11 B u) : Met l yX3_meet (uws yX3_meet cX3_meet 3 none) (qR 0 0 0) (qPc E A 0 u [.ref (E.2.2 399), .ref v, .ref w]) (qQv E A 0 (fun u1 => (qFc [] [303, 304, 305] [] [] u u1 ∧ IC E u1 ∧ u1.2.2.2.2 = u.2.2.2.2) ∧ (m_one k B n_v n_w (u.2.1 303) (u.2.1 304) (u.2.1 305) (u1.2.1 303) (u1.2.1 304) (u1.2.1 305)))) 0 0 A := by
  refine q_met (own := RX3) (f := 0) [.ref (E.2.2 399), .ref v, .ref w] (by decide) (Nat.le_of_ble_eq_true rfl) rfl ?_
  intro p0 e0 s0 m0 bl0 me0 cd0 ls hF hr hlocks hU hS hA hl
  have hl : lv_has ls 3 [(0, .ref (E.2.2 399)), (1, .ref v), (2, .ref w)] := hl
  have hkd : u.2.2.2.2 = u.2.2.2.2 := rfl
  have hz8 : 0 ≤ u.1 8 ∧ u.1 8 ≤ 20 := hI.1.s8
  have hz9 : 0 ≤ u.1 9 ∧ u.1 9 ≤ 8 := hI.1.s9
  have hz10 : 0 ≤ u.1 10 ∧ u.1 10 ≤ 120 := hI.1.s10
  have hz12 : 0 ≤ u.1 12 ∧ u.1 12 ≤ 16 := hI.1.s12
  have hfr : qFc [] [303, 304, 305] [] [] u u := qFc.rf
  refine lv_aload_n hF.1 hF.2.1 dX3_meet_0 rfl (lv_at hl 0 rfl) ?_
  refine q_get (v := .ref (E.2.2 303)) hF hU dX3_meet_1 6 3 3 303 399 rfl rfl rfl rfl inX3 (by decide) (by decide) w_380 rfl rfl ?_
  refine lv_aload_n hF.1 hF.2.1 dX3_meet_4 rfl (lv_at hl 1 rfl) ?_
  obtain ⟨k_1, fs_2, hd_3, hv_4⟩ := hk_v.at 3 (by decide) (by decide)
  refine q_getd (v := .int (k.2.1 1249 (n_v : Int32).toNatClampNeg)) hF hU dX3_meet_5 k_1 10 3 hd_3 rfl inX10 (by decide) w_597 rfl hv_4 ?_
  have hb_5 : 0 ≤ k.2.1 1249 (n_v : Int32).toNatClampNeg ∧ k.2.1 1249 (n_v : Int32).toNatClampNeg < (u.1 9) := (hk.b2 hk_v).2
  refine lv_dup2_11 hF.1 hF.2.1 dX3_meet_8 rfl rfl ?_
  refine q_iald (v := u.2.1 303 (k.2.1 1249 (n_v : Int32).toNatClampNeg : Int32).toNatClampNeg) hF hU dX3_meet_9 18 303 rfl rfl (g_X3_meet_k_v0 u v w k P n_v n_w B hk hk_v hk_w hB hz8 hz9 hz10 hz12 hb_5) rfl ?_
  refine lv_aload_n hF.1 hF.2.1 dX3_meet_10 rfl (lv_at hl 1 rfl) ?_
  obtain ⟨k_6, fs_7, hd_8, hv_9⟩ := hB.at hk_v.nm
  refine q_getd (v := .int (B (n_v : Int32).toNatClampNeg)) hF hU dX3_meet_11 k_6 10 11 hd_8 rfl inX10 (by decide) w_625 rfl hv_9 ?_
  refine lv_aload_n hF.1 hF.2.1 dX3_meet_14 rfl (lv_at hl 2 rfl) ?_
  obtain ⟨k_10, fs_11, hd_12, hv_13⟩ := hB.at hk_w.nm
  refine q_getd (v := .int (B (n_w : Int32).toNatClampNeg)) hF hU dX3_meet_15 k_10 10 11 hd_12 rfl inX10 (by decide) w_625 rfl hv_13 ?_
  refine lv_isub hF.1 hF.2.1 dX3_meet_18 ?_
  refine lv_iadd hF.1 hF.2.1 dX3_meet_19 ?_
  refine q_iast hF hU hS dX3_meet_20 18 303 rfl rfl (g_X3_meet_k_v1 u v w k P n_v n_w B hk hk_v hk_w hB hz8 hz9 hz10 hz12 hb_5) (fun f_14 H locs hg9 hU hS => ?_)
  have hf_14 : f_14 = upd (u.2.1 303) (k.2.1 1249 (n_v : Int32).toNatClampNeg : Int32).toNatClampNeg ((u.2.1 303 (k.2.1 1249 (n_v : Int32).toNatClampNeg : Int32).toNatClampNeg) + ((B (n_v : Int32).toNatClampNeg) - (B (n_w : Int32).toNatClampNeg))) := hg9
  have hfr : qFc [] [303, 304, 305] [] [] u (qsF u 303 f_14) := hfr.setF (by decide)
  have hI : IC E (qsF u 303 f_14) := hI.sF (by decide)
  refine lv_aload_n hF.1 hF.2.1 dX3_meet_21 rfl (lv_at hl 0 rfl) ?_
  refine q_get (v := .ref (E.2.2 304)) hF hU dX3_meet_22 6 3 4 304 399 rfl rfl rfl rfl inX3 (by decide) (by decide) w_381 rfl rfl ?_
  refine lv_aload_n hF.1 hF.2.1 dX3_meet_25 rfl (lv_at hl 1 rfl) ?_
  obtain ⟨k_15, fs_16, hd_17, hv_18⟩ := hk_v.at 3 (by decide) (by decide)
  refine q_getd (v := .int (k.2.1 1249 (n_v : Int32).toNatClampNeg)) hF hU dX3_meet_26 k_15 10 3 hd_17 rfl inX10 (by decide) w_597 rfl hv_18 ?_
  refine lv_dup2_11 hF.1 hF.2.1 dX3_meet_29 rfl rfl ?_
  refine q_iald (v := u.2.1 304 (k.2.1 1249 (n_v : Int32).toNatClampNeg : Int32).toNatClampNeg) hF hU dX3_meet_30 19 304 rfl rfl (g_X3_meet_k_v2 u v w k P n_v n_w B f_14 hk hk_v hk_w hB hz8 hz9 hz10 hz12 hb_5 hf_14) rfl ?_
  refine lv_iconst (v := 1) hF.1 hF.2.1 dX3_meet_31 (by decide) ?_
  refine lv_iadd hF.1 hF.2.1 dX3_meet_32 ?_
  refine q_iast hF hU hS dX3_meet_33 19 304 rfl rfl (g_X3_meet_k_v3 u v w k P n_v n_w B f_14 hk hk_v hk_w hB hz8 hz9 hz10 hz12 hb_5 hf_14) (fun f_19 H locs hg9 hU hS => ?_)
  have hf_19 : f_19 = upd (u.2.1 304) (k.2.1 1249 (n_v : Int32).toNatClampNeg : Int32).toNatClampNeg ((u.2.1 304 (k.2.1 1249 (n_v : Int32).toNatClampNeg : Int32).toNatClampNeg) + 1) := hg9
  have hfr : qFc [] [303, 304, 305] [] [] u (qsF (qsF u 303 f_14) 304 f_19) := hfr.setF (by decide)
  have hI : IC E (qsF (qsF u 303 f_14) 304 f_19) := hI.sF (by decide)
  refine lv_aload_n hF.1 hF.2.1 dX3_meet_34 rfl (lv_at hl 0 rfl) ?_
  refine q_get (v := .ref (E.2.2 305)) hF hU dX3_meet_35 6 3 5 305 399 rfl rfl rfl rfl inX3 (by decide) (by decide) w_382 rfl rfl ?_
  refine lv_aload_n hF.1 hF.2.1 dX3_meet_38 rfl (lv_at hl 1 rfl) ?_
  obtain ⟨k_20, fs_21, hd_22, hv_23⟩ := hk_v.at 3 (by decide) (by decide)
  refine q_getd (v := .int (k.2.1 1249 (n_v : Int32).toNatClampNeg)) hF hU dX3_meet_39 k_20 10 3 hd_22 rfl inX10 (by decide) w_597 rfl hv_23 ?_
  refine lv_bipush (v := 8) hF.1 hF.2.1 dX3_meet_42 (by decide) ?_
  refine lv_imul hF.1 hF.2.1 dX3_meet_44 ?_
  refine lv_aload_n hF.1 hF.2.1 dX3_meet_45 rfl (lv_at hl 2 rfl) ?_
  obtain ⟨k_24, fs_25, hd_26, hv_27⟩ := hk_w.at 3 (by decide) (by decide)
  refine q_getd (v := .int (k.2.1 1249 (n_w : Int32).toNatClampNeg)) hF hU dX3_meet_46 k_24 10 3 hd_26 rfl inX10 (by decide) w_597 rfl hv_27 ?_
  have hb_28 : 0 ≤ k.2.1 1249 (n_w : Int32).toNatClampNeg ∧ k.2.1 1249 (n_w : Int32).toNatClampNeg < (u.1 9) := (by have h9 := ((hk.fr hfr (by decide) (by decide)).b2 hk_w).2; rw [(hfr.1 9 (by decide))] at h9; exact h9)
  refine lv_iadd hF.1 hF.2.1 dX3_meet_49 ?_
  refine lv_dup2_11 hF.1 hF.2.1 dX3_meet_50 rfl rfl ?_
  refine q_iald (v := u.2.1 305 (((k.2.1 1249 (n_v : Int32).toNatClampNeg) * 8) + (k.2.1 1249 (n_w : Int32).toNatClampNeg) : Int32).toNatClampNeg) hF hU dX3_meet_51 20 305 rfl rfl (g_X3_meet_k_v4 u v w k P n_v n_w B f_14 f_19 hk hk_v hk_w hB hz8 hz9 hz10 hz12 hb_5 hf_14 hf_19 hb_28) rfl ?_
  refine lv_iconst (v := 1) hF.1 hF.2.1 dX3_meet_52 (by decide) ?_
  refine lv_iadd hF.1 hF.2.1 dX3_meet_53 ?_
  refine q_iast hF hU hS dX3_meet_54 20 305 rfl rfl (g_X3_meet_k_v5 u v w k P n_v n_w B f_14 f_19 hk hk_v hk_w hB hz8 hz9 hz10 hz12 hb_5 hf_14 hf_19 hb_28) (fun f_29 H locs hg9 hU hS => ?_)
  have hf_29 : f_29 = upd (u.2.1 305) (((k.2.1 1249 (n_v : Int32).toNatClampNeg) * 8) + (k.2.1 1249 (n_w : Int32).toNatClampNeg) : Int32).toNatClampNeg ((u.2.1 305 (((k.2.1 1249 (n_v : Int32).toNatClampNeg) * 8) + (k.2.1 1249 (n_w : Int32).toNatClampNeg) : Int32).toNatClampNeg) + 1) := hg9
  have hfr : qFc [] [303, 304, 305] [] [] u (qsF (qsF (qsF u 303 f_14) 304 f_19) 305 f_29) := hfr.setF (by decide)
  have hI : IC E (qsF (qsF (qsF u 303 f_14) 304 f_19) 305 f_29) := hI.sF (by decide)
  exact q_vret hF hr hlocks hU hS dX3_meet_55 ⟨⟨hfr, hI, hkd⟩, (g_X3_meet_k_v6 u v w k P n_v n_w B f_14 f_19 f_29 hk hk_v hk_w hB hz8 hz9 hz10 hz12 hb_5 hf_14 hf_19 hb_28 hf_29)⟩
set_option maxRecDepth 100000 in
theorem g_X3_meetLater_k_v0 (u : qS) (x : Int32) (k : qS) (P : Nat → Int32) (S : Nat → Int32) (B : Nat → Int32) (Tm : mT) (x3 : Int32) (x4 : Int32) (uc : qS) (hk : CT k P u) (hQ : qFD 10 S u) (hB : qFD 11 B u) (hx : 0 ≤ x ∧ x < u.1 10) (hfi : f_fi k S) (ht : f_co k (P x.toNatClampNeg)) (hm : m_R k B Tm (u.2.1 303) (u.2.1 304) (u.2.1 305)) (hz8 : 0 ≤ u.1 8 ∧ u.1 8 ≤ 20) (hz9 : 0 ≤ u.1 9 ∧ u.1 9 ≤ 8) (hz10 : 0 ≤ u.1 10 ∧ u.1 10 ≤ 120) (hz12 : 0 ≤ u.1 12 ∧ u.1 12 ≤ 16) (h_k : x < x4 ∧ x4 ≤ u.1 10) (h_w : x3 = k.2.1 1250 (P x.toNatClampNeg).toNatClampNeg / 7) (h_m : m_R k B (fun W => Tm W + m_sg (m_h k P W x.toNatClampNeg) (x.toNatClampNeg + 1) (x4.toNatClampNeg - (x.toNatClampNeg + 1))) (uc.2.1 303) (uc.2.1 304) (uc.2.1 305)) (c29_1 : (u.1 10) ≤ (x4 : Int32)) : m_R k B (fun W => Tm W + m_sg (m_h k P W x.toNatClampNeg) (x.toNatClampNeg + 1) ((k.1 1247).toNatClampNeg - (x.toNatClampNeg + 1))) ((uc.2.1 303)) ((uc.2.1 304)) ((uc.2.1 305)) := by
  have cx := g_clamp x
  have c4 := g_clamp x4
  have cn := g_clamp (k.1 1247)
  have qx : 0 ≤ x.toInt ∧ x.toInt < x4.toInt ∧ x4.toInt ≤ (u.1 10).toInt := (by clear h_m ht hm; (try simp only [g_m1, Int32.lt_iff_toInt_lt, Int32.le_iff_toInt_le, ← Int32.toInt_inj, Int32.reduceToInt] at *); omega)
  have e10 := hk.1.1
  rw [e10] at qx
  have hD : (k.1 1247).toNatClampNeg - (x.toNatClampNeg + 1) = (x4.toNatClampNeg - (x.toNatClampNeg + 1)) + ((k.1 1247).toNatClampNeg - x4.toNatClampNeg) := by omega
  refine h_m.end hD (fun i h1 h2 => ?_)
  first
  | (have z : (u.1 10).toInt ≤ x4.toInt := (by clear h_m ht hm; (try simp only [g_m1, Int32.lt_iff_toInt_lt, Int32.le_iff_toInt_le, ← Int32.toInt_inj, Int32.reduceToInt] at *); omega)
     rw [e10] at z; exfalso; omega)
  | (have a := (by assumption : _ = k.2.1 1250 (P x4.toNatClampNeg).toNatClampNeg / 7)
     have b := (by assumption : ¬ _ = x3)
     exact m_late (J := x4.toNatClampNeg) hk.2.2.2.2.1 hk.2.2.2.2.2 (by omega) (by omega) (by omega) (fun z => b (a.trans (z.trans h_w.symm))))
set_option maxRecDepth 100000 in
theorem g_X3_meetLater_k_v1 (u : qS) (x : Int32) (k : qS) (P : Nat → Int32) (S : Nat → Int32) (B : Nat → Int32) (Tm : mT) (x3 : Int32) (x4 : Int32) (uc : qS) (hk : CT k P u) (hQ : qFD 10 S u) (hB : qFD 11 B u) (hx : 0 ≤ x ∧ x < u.1 10) (hfi : f_fi k S) (ht : f_co k (P x.toNatClampNeg)) (hm : m_R k B Tm (u.2.1 303) (u.2.1 304) (u.2.1 305)) (hz8 : 0 ≤ u.1 8 ∧ u.1 8 ≤ 20) (hz9 : 0 ≤ u.1 9 ∧ u.1 9 ≤ 8) (hz10 : 0 ≤ u.1 10 ∧ u.1 10 ≤ 120) (hz12 : 0 ≤ u.1 12 ∧ u.1 12 ≤ 16) (h_k : x < x4 ∧ x4 ≤ u.1 10) (h_w : x3 = k.2.1 1250 (P x.toNatClampNeg).toNatClampNeg / 7) (h_m : m_R k B (fun W => Tm W + m_sg (m_h k P W x.toNatClampNeg) (x.toNatClampNeg + 1) (x4.toNatClampNeg - (x.toNatClampNeg + 1))) (uc.2.1 303) (uc.2.1 304) (uc.2.1 305)) (c29_1 : ¬ (u.1 10) ≤ (x4 : Int32)) : 0 ≤ x4 ∧ x4 < (u.1 10) := by
  clear h_m ht hm; (try simp only [g_m1, Int32.lt_iff_toInt_lt, Int32.le_iff_toInt_le, ← Int32.toInt_inj, Int32.reduceToInt] at *); omega
set_option maxRecDepth 100000 in
theorem g_X3_meetLater_k_v2 (u : qS) (x : Int32) (k : qS) (P : Nat → Int32) (S : Nat → Int32) (B : Nat → Int32) (Tm : mT) (x3 : Int32) (x4 : Int32) (uc : qS) (hk : CT k P u) (hQ : qFD 10 S u) (hB : qFD 11 B u) (hx : 0 ≤ x ∧ x < u.1 10) (hfi : f_fi k S) (ht : f_co k (P x.toNatClampNeg)) (hm : m_R k B Tm (u.2.1 303) (u.2.1 304) (u.2.1 305)) (hz8 : 0 ≤ u.1 8 ∧ u.1 8 ≤ 20) (hz9 : 0 ≤ u.1 9 ∧ u.1 9 ≤ 8) (hz10 : 0 ≤ u.1 10 ∧ u.1 10 ≤ 120) (hz12 : 0 ≤ u.1 12 ∧ u.1 12 ≤ 16) (h_k : x < x4 ∧ x4 ≤ u.1 10) (h_w : x3 = k.2.1 1250 (P x.toNatClampNeg).toNatClampNeg / 7) (h_m : m_R k B (fun W => Tm W + m_sg (m_h k P W x.toNatClampNeg) (x.toNatClampNeg + 1) (x4.toNatClampNeg - (x.toNatClampNeg + 1))) (uc.2.1 303) (uc.2.1 304) (uc.2.1 305)) (c29_1 : ¬ (u.1 10) ≤ (x4 : Int32)) : vp_in (x4) 120 := by
  clear h_m ht hm; refine g_in ?_ ?_ <;> ((try simp only [g_m1, Int32.lt_iff_toInt_lt, Int32.le_iff_toInt_le, ← Int32.toInt_inj, Int32.reduceToInt] at *); omega)
set_option maxRecDepth 100000 in
theorem g_X3_meetLater_k_v3 (u : qS) (x : Int32) (k : qS) (P : Nat → Int32) (S : Nat → Int32) (B : Nat → Int32) (Tm : mT) (x3 : Int32) (x4 : Int32) (uc : qS) (hk : CT k P u) (hQ : qFD 10 S u) (hB : qFD 11 B u) (hx : 0 ≤ x ∧ x < u.1 10) (hfi : f_fi k S) (ht : f_co k (P x.toNatClampNeg)) (hm : m_R k B Tm (u.2.1 303) (u.2.1 304) (u.2.1 305)) (hz8 : 0 ≤ u.1 8 ∧ u.1 8 ≤ 20) (hz9 : 0 ≤ u.1 9 ∧ u.1 9 ≤ 8) (hz10 : 0 ≤ u.1 10 ∧ u.1 10 ≤ 120) (hz12 : 0 ≤ u.1 12 ∧ u.1 12 ≤ 16) (h_k : x < x4 ∧ x4 ≤ u.1 10) (h_w : x3 = k.2.1 1250 (P x.toNatClampNeg).toNatClampNeg / 7) (h_m : m_R k B (fun W => Tm W + m_sg (m_h k P W x.toNatClampNeg) (x.toNatClampNeg + 1) (x4.toNatClampNeg - (x.toNatClampNeg + 1))) (uc.2.1 303) (uc.2.1 304) (uc.2.1 305)) (c29_1 : ¬ (u.1 10) ≤ (x4 : Int32)) : 0 ≤ x4 ∧ x4 < (u.1 10) := by
  clear h_m ht hm; (try simp only [g_m1, Int32.lt_iff_toInt_lt, Int32.le_iff_toInt_le, ← Int32.toInt_inj, Int32.reduceToInt] at *); omega
set_option maxRecDepth 100000 in
theorem g_X3_meetLater_k_v4 (u : qS) (x : Int32) (k : qS) (P : Nat → Int32) (S : Nat → Int32) (B : Nat → Int32) (Tm : mT) (x3 : Int32) (x4 : Int32) (uc : qS) (r_10 : Int32) (hk : CT k P u) (hQ : qFD 10 S u) (hB : qFD 11 B u) (hx : 0 ≤ x ∧ x < u.1 10) (hfi : f_fi k S) (ht : f_co k (P x.toNatClampNeg)) (hm : m_R k B Tm (u.2.1 303) (u.2.1 304) (u.2.1 305)) (hz8 : 0 ≤ u.1 8 ∧ u.1 8 ≤ 20) (hz9 : 0 ≤ u.1 9 ∧ u.1 9 ≤ 8) (hz10 : 0 ≤ u.1 10 ∧ u.1 10 ≤ 120) (hz12 : 0 ≤ u.1 12 ∧ u.1 12 ≤ 16) (h_k : x < x4 ∧ x4 ≤ u.1 10) (h_w : x3 = k.2.1 1250 (P x.toNatClampNeg).toNatClampNeg / 7) (h_m : m_R k B (fun W => Tm W + m_sg (m_h k P W x.toNatClampNeg) (x.toNatClampNeg + 1) (x4.toNatClampNeg - (x.toNatClampNeg + 1))) (uc.2.1 303) (uc.2.1 304) (uc.2.1 305)) (c29_1 : ¬ (u.1 10) ≤ (x4 : Int32)) (hw_9 : r_10 = (k).2.1 1250 ((P (x4 : Int32).toNatClampNeg)).toNatClampNeg / 7) (c46_11 : ¬ (r_10 : Int32) = x3) : m_R k B (fun W => Tm W + m_sg (m_h k P W x.toNatClampNeg) (x.toNatClampNeg + 1) ((k.1 1247).toNatClampNeg - (x.toNatClampNeg + 1))) ((uc.2.1 303)) ((uc.2.1 304)) ((uc.2.1 305)) := by
  have cx := g_clamp x
  have c4 := g_clamp x4
  have cn := g_clamp (k.1 1247)
  have qx : 0 ≤ x.toInt ∧ x.toInt < x4.toInt ∧ x4.toInt ≤ (u.1 10).toInt := (by clear h_m ht hm; (try simp only [g_m1, Int32.lt_iff_toInt_lt, Int32.le_iff_toInt_le, ← Int32.toInt_inj, Int32.reduceToInt] at *); omega)
  have e10 := hk.1.1
  rw [e10] at qx
  have hD : (k.1 1247).toNatClampNeg - (x.toNatClampNeg + 1) = (x4.toNatClampNeg - (x.toNatClampNeg + 1)) + ((k.1 1247).toNatClampNeg - x4.toNatClampNeg) := by omega
  refine h_m.end hD (fun i h1 h2 => ?_)
  first
  | (have z : (u.1 10).toInt ≤ x4.toInt := (by clear h_m ht hm; (try simp only [g_m1, Int32.lt_iff_toInt_lt, Int32.le_iff_toInt_le, ← Int32.toInt_inj, Int32.reduceToInt] at *); omega)
     rw [e10] at z; exfalso; omega)
  | (have a := (by assumption : _ = k.2.1 1250 (P x4.toNatClampNeg).toNatClampNeg / 7)
     have b := (by assumption : ¬ _ = x3)
     exact m_late (J := x4.toNatClampNeg) hk.2.2.2.2.1 hk.2.2.2.2.2 (by omega) (by omega) (by omega) (fun z => b (a.trans (z.trans h_w.symm))))
set_option maxRecDepth 100000 in
theorem g_X3_meetLater_k_v5 (u : qS) (x : Int32) (k : qS) (P : Nat → Int32) (S : Nat → Int32) (B : Nat → Int32) (Tm : mT) (x3 : Int32) (x4 : Int32) (uc : qS) (r_10 : Int32) (hk : CT k P u) (hQ : qFD 10 S u) (hB : qFD 11 B u) (hx : 0 ≤ x ∧ x < u.1 10) (hfi : f_fi k S) (ht : f_co k (P x.toNatClampNeg)) (hm : m_R k B Tm (u.2.1 303) (u.2.1 304) (u.2.1 305)) (hz8 : 0 ≤ u.1 8 ∧ u.1 8 ≤ 20) (hz9 : 0 ≤ u.1 9 ∧ u.1 9 ≤ 8) (hz10 : 0 ≤ u.1 10 ∧ u.1 10 ≤ 120) (hz12 : 0 ≤ u.1 12 ∧ u.1 12 ≤ 16) (h_k : x < x4 ∧ x4 ≤ u.1 10) (h_w : x3 = k.2.1 1250 (P x.toNatClampNeg).toNatClampNeg / 7) (h_m : m_R k B (fun W => Tm W + m_sg (m_h k P W x.toNatClampNeg) (x.toNatClampNeg + 1) (x4.toNatClampNeg - (x.toNatClampNeg + 1))) (uc.2.1 303) (uc.2.1 304) (uc.2.1 305)) (c29_1 : ¬ (u.1 10) ≤ (x4 : Int32)) (hw_9 : r_10 = (k).2.1 1250 ((P (x4 : Int32).toNatClampNeg)).toNatClampNeg / 7) (c46_11 : (r_10 : Int32) = x3) : 0 ≤ x4 ∧ x4 < (u.1 10) := by
  clear h_m ht hm; (try simp only [g_m1, Int32.lt_iff_toInt_lt, Int32.le_iff_toInt_le, ← Int32.toInt_inj, Int32.reduceToInt] at *); omega
set_option maxRecDepth 100000 in
theorem g_X3_meetLater_k_v6 (u : qS) (x : Int32) (k : qS) (P : Nat → Int32) (S : Nat → Int32) (B : Nat → Int32) (Tm : mT) (x3 : Int32) (x4 : Int32) (uc : qS) (r_10 : Int32) (hk : CT k P u) (hQ : qFD 10 S u) (hB : qFD 11 B u) (hx : 0 ≤ x ∧ x < u.1 10) (hfi : f_fi k S) (ht : f_co k (P x.toNatClampNeg)) (hm : m_R k B Tm (u.2.1 303) (u.2.1 304) (u.2.1 305)) (hz8 : 0 ≤ u.1 8 ∧ u.1 8 ≤ 20) (hz9 : 0 ≤ u.1 9 ∧ u.1 9 ≤ 8) (hz10 : 0 ≤ u.1 10 ∧ u.1 10 ≤ 120) (hz12 : 0 ≤ u.1 12 ∧ u.1 12 ≤ 16) (h_k : x < x4 ∧ x4 ≤ u.1 10) (h_w : x3 = k.2.1 1250 (P x.toNatClampNeg).toNatClampNeg / 7) (h_m : m_R k B (fun W => Tm W + m_sg (m_h k P W x.toNatClampNeg) (x.toNatClampNeg + 1) (x4.toNatClampNeg - (x.toNatClampNeg + 1))) (uc.2.1 303) (uc.2.1 304) (uc.2.1 305)) (c29_1 : ¬ (u.1 10) ≤ (x4 : Int32)) (hw_9 : r_10 = (k).2.1 1250 ((P (x4 : Int32).toNatClampNeg)).toNatClampNeg / 7) (c46_11 : (r_10 : Int32) = x3) : vp_in (x4) 120 := by
  clear h_m ht hm; refine g_in ?_ ?_ <;> ((try simp only [g_m1, Int32.lt_iff_toInt_lt, Int32.le_iff_toInt_le, ← Int32.toInt_inj, Int32.reduceToInt] at *); omega)
set_option maxRecDepth 100000 in
theorem g_X3_meetLater_k_v7 (u : qS) (x : Int32) (k : qS) (P : Nat → Int32) (S : Nat → Int32) (B : Nat → Int32) (Tm : mT) (x3 : Int32) (x4 : Int32) (uc : qS) (r_10 : Int32) (hk : CT k P u) (hQ : qFD 10 S u) (hB : qFD 11 B u) (hx : 0 ≤ x ∧ x < u.1 10) (hfi : f_fi k S) (ht : f_co k (P x.toNatClampNeg)) (hm : m_R k B Tm (u.2.1 303) (u.2.1 304) (u.2.1 305)) (hz8 : 0 ≤ u.1 8 ∧ u.1 8 ≤ 20) (hz9 : 0 ≤ u.1 9 ∧ u.1 9 ≤ 8) (hz10 : 0 ≤ u.1 10 ∧ u.1 10 ≤ 120) (hz12 : 0 ≤ u.1 12 ∧ u.1 12 ≤ 16) (h_k : x < x4 ∧ x4 ≤ u.1 10) (h_w : x3 = k.2.1 1250 (P x.toNatClampNeg).toNatClampNeg / 7) (h_m : m_R k B (fun W => Tm W + m_sg (m_h k P W x.toNatClampNeg) (x.toNatClampNeg + 1) (x4.toNatClampNeg - (x.toNatClampNeg + 1))) (uc.2.1 303) (uc.2.1 304) (uc.2.1 305)) (c29_1 : ¬ (u.1 10) ≤ (x4 : Int32)) (hw_9 : r_10 = (k).2.1 1250 ((P (x4 : Int32).toNatClampNeg)).toNatClampNeg / 7) (c46_11 : (r_10 : Int32) = x3) : 0 ≤ x4 ∧ x4 < (u.1 10) := by
  clear h_m ht hm; (try simp only [g_m1, Int32.lt_iff_toInt_lt, Int32.le_iff_toInt_le, ← Int32.toInt_inj, Int32.reduceToInt] at *); omega
set_option maxRecDepth 100000 in
theorem g_X3_meetLater_k_v8 (u : qS) (x : Int32) (k : qS) (P : Nat → Int32) (S : Nat → Int32) (B : Nat → Int32) (Tm : mT) (x3 : Int32) (x4 : Int32) (uc : qS) (r_10 : Int32) (hk : CT k P u) (hQ : qFD 10 S u) (hB : qFD 11 B u) (hx : 0 ≤ x ∧ x < u.1 10) (hfi : f_fi k S) (ht : f_co k (P x.toNatClampNeg)) (hm : m_R k B Tm (u.2.1 303) (u.2.1 304) (u.2.1 305)) (hz8 : 0 ≤ u.1 8 ∧ u.1 8 ≤ 20) (hz9 : 0 ≤ u.1 9 ∧ u.1 9 ≤ 8) (hz10 : 0 ≤ u.1 10 ∧ u.1 10 ≤ 120) (hz12 : 0 ≤ u.1 12 ∧ u.1 12 ≤ 16) (h_k : x < x4 ∧ x4 ≤ u.1 10) (h_w : x3 = k.2.1 1250 (P x.toNatClampNeg).toNatClampNeg / 7) (h_m : m_R k B (fun W => Tm W + m_sg (m_h k P W x.toNatClampNeg) (x.toNatClampNeg + 1) (x4.toNatClampNeg - (x.toNatClampNeg + 1))) (uc.2.1 303) (uc.2.1 304) (uc.2.1 305)) (c29_1 : ¬ (u.1 10) ≤ (x4 : Int32)) (hw_9 : r_10 = (k).2.1 1250 ((P (x4 : Int32).toNatClampNeg)).toNatClampNeg / 7) (c46_11 : (r_10 : Int32) = x3) (hb_19 : 0 ≤ k.2.1 1248 (P (x4 : Int32).toNatClampNeg : Int32).toNatClampNeg ∧ k.2.1 1248 (P (x4 : Int32).toNatClampNeg : Int32).toNatClampNeg < (u.1 8)) (hb_24 : 0 ≤ k.2.1 1248 (P (x : Int32).toNatClampNeg : Int32).toNatClampNeg ∧ k.2.1 1248 (P (x : Int32).toNatClampNeg : Int32).toNatClampNeg < (u.1 8)) (c70_25 : ¬ (k.2.1 1248 (P (x4 : Int32).toNatClampNeg : Int32).toNatClampNeg : Int32) = (k.2.1 1248 (P (x : Int32).toNatClampNeg : Int32).toNatClampNeg)) : x < (x4 + 1) ∧ (x4 + 1) ≤ u.1 10 := by
  have qx : 0 ≤ x.toInt ∧ x.toInt < x4.toInt ∧ x4.toInt < (u.1 10).toInt ∧ (u.1 10).toInt ≤ 120 := (by clear h_m ht hm; (try simp only [g_m1, Int32.lt_iff_toInt_lt, Int32.le_iff_toInt_le, ← Int32.toInt_inj, Int32.reduceToInt] at *); omega)
  have cx := g_clamp x
  have c4 := g_clamp x4
  have e4 := (g_up (i := x4) (by omega) (by omega)).2
  have e5 := (g_up (i := x4) (by omega) (by omega)).1; clear h_m ht hm; (try simp only [g_m1, Int32.lt_iff_toInt_lt, Int32.le_iff_toInt_le, ← Int32.toInt_inj, Int32.reduceToInt] at *); omega
set_option maxRecDepth 100000 in
theorem g_X3_meetLater_k_v9 (u : qS) (x : Int32) (k : qS) (P : Nat → Int32) (S : Nat → Int32) (B : Nat → Int32) (Tm : mT) (x3 : Int32) (x4 : Int32) (uc : qS) (r_10 : Int32) (hk : CT k P u) (hQ : qFD 10 S u) (hB : qFD 11 B u) (hx : 0 ≤ x ∧ x < u.1 10) (hfi : f_fi k S) (ht : f_co k (P x.toNatClampNeg)) (hm : m_R k B Tm (u.2.1 303) (u.2.1 304) (u.2.1 305)) (hz8 : 0 ≤ u.1 8 ∧ u.1 8 ≤ 20) (hz9 : 0 ≤ u.1 9 ∧ u.1 9 ≤ 8) (hz10 : 0 ≤ u.1 10 ∧ u.1 10 ≤ 120) (hz12 : 0 ≤ u.1 12 ∧ u.1 12 ≤ 16) (h_k : x < x4 ∧ x4 ≤ u.1 10) (h_w : x3 = k.2.1 1250 (P x.toNatClampNeg).toNatClampNeg / 7) (h_m : m_R k B (fun W => Tm W + m_sg (m_h k P W x.toNatClampNeg) (x.toNatClampNeg + 1) (x4.toNatClampNeg - (x.toNatClampNeg + 1))) (uc.2.1 303) (uc.2.1 304) (uc.2.1 305)) (c29_1 : ¬ (u.1 10) ≤ (x4 : Int32)) (hw_9 : r_10 = (k).2.1 1250 ((P (x4 : Int32).toNatClampNeg)).toNatClampNeg / 7) (c46_11 : (r_10 : Int32) = x3) (hb_19 : 0 ≤ k.2.1 1248 (P (x4 : Int32).toNatClampNeg : Int32).toNatClampNeg ∧ k.2.1 1248 (P (x4 : Int32).toNatClampNeg : Int32).toNatClampNeg < (u.1 8)) (hb_24 : 0 ≤ k.2.1 1248 (P (x : Int32).toNatClampNeg : Int32).toNatClampNeg ∧ k.2.1 1248 (P (x : Int32).toNatClampNeg : Int32).toNatClampNeg < (u.1 8)) (c70_25 : ¬ (k.2.1 1248 (P (x4 : Int32).toNatClampNeg : Int32).toNatClampNeg : Int32) = (k.2.1 1248 (P (x : Int32).toNatClampNeg : Int32).toNatClampNeg)) : x3 = k.2.1 1250 (P x.toNatClampNeg).toNatClampNeg / 7 := by
  exact h_w
set_option maxRecDepth 100000 in
theorem g_X3_meetLater_k_v10 (u : qS) (x : Int32) (k : qS) (P : Nat → Int32) (S : Nat → Int32) (B : Nat → Int32) (Tm : mT) (x3 : Int32) (x4 : Int32) (uc : qS) (r_10 : Int32) (hk : CT k P u) (hQ : qFD 10 S u) (hB : qFD 11 B u) (hx : 0 ≤ x ∧ x < u.1 10) (hfi : f_fi k S) (ht : f_co k (P x.toNatClampNeg)) (hm : m_R k B Tm (u.2.1 303) (u.2.1 304) (u.2.1 305)) (hz8 : 0 ≤ u.1 8 ∧ u.1 8 ≤ 20) (hz9 : 0 ≤ u.1 9 ∧ u.1 9 ≤ 8) (hz10 : 0 ≤ u.1 10 ∧ u.1 10 ≤ 120) (hz12 : 0 ≤ u.1 12 ∧ u.1 12 ≤ 16) (h_k : x < x4 ∧ x4 ≤ u.1 10) (h_w : x3 = k.2.1 1250 (P x.toNatClampNeg).toNatClampNeg / 7) (h_m : m_R k B (fun W => Tm W + m_sg (m_h k P W x.toNatClampNeg) (x.toNatClampNeg + 1) (x4.toNatClampNeg - (x.toNatClampNeg + 1))) (uc.2.1 303) (uc.2.1 304) (uc.2.1 305)) (c29_1 : ¬ (u.1 10) ≤ (x4 : Int32)) (hw_9 : r_10 = (k).2.1 1250 ((P (x4 : Int32).toNatClampNeg)).toNatClampNeg / 7) (c46_11 : (r_10 : Int32) = x3) (hb_19 : 0 ≤ k.2.1 1248 (P (x4 : Int32).toNatClampNeg : Int32).toNatClampNeg ∧ k.2.1 1248 (P (x4 : Int32).toNatClampNeg : Int32).toNatClampNeg < (u.1 8)) (hb_24 : 0 ≤ k.2.1 1248 (P (x : Int32).toNatClampNeg : Int32).toNatClampNeg ∧ k.2.1 1248 (P (x : Int32).toNatClampNeg : Int32).toNatClampNeg < (u.1 8)) (c70_25 : ¬ (k.2.1 1248 (P (x4 : Int32).toNatClampNeg : Int32).toNatClampNeg : Int32) = (k.2.1 1248 (P (x : Int32).toNatClampNeg : Int32).toNatClampNeg)) : m_R k B (fun W => Tm W + m_sg (m_h k P W x.toNatClampNeg) (x.toNatClampNeg + 1) ((x4 + 1).toNatClampNeg - (x.toNatClampNeg + 1))) ((uc.2.1 303)) ((uc.2.1 304)) ((uc.2.1 305)) := by
  have qx : 0 ≤ x.toInt ∧ x.toInt < x4.toInt ∧ x4.toInt < (u.1 10).toInt ∧ (u.1 10).toInt ≤ 120 := (by clear h_m ht hm; (try simp only [g_m1, Int32.lt_iff_toInt_lt, Int32.le_iff_toInt_le, ← Int32.toInt_inj, Int32.reduceToInt] at *); omega)
  have cx := g_clamp x
  have c4 := g_clamp x4
  have e4 := (g_up (i := x4) (by omega) (by omega)).2
  have pb : ∀ i : Int32, 0 ≤ i → i < u.1 10 → 0 ≤ k.2.1 1249 (P i.toNatClampNeg).toNatClampNeg ∧ k.2.1 1249 (P i.toNatClampNeg).toNatClampNeg < 8 := fun i i0 i1 => m_bu hk ⟨i0, i1⟩ hz9
  have e6 : (x4 + 1).toNatClampNeg - (x.toNatClampNeg + 1) = (x4.toNatClampNeg - (x.toNatClampNeg + 1)) + 1 := by omega
  have a := (by assumption : _ = k.2.1 1250 (P x4.toNatClampNeg).toNatClampNeg / 7)
  have c := (by assumption : _ = x3)
  rw [e6]
  first
  | exact h_m.no (J := x4.toNatClampNeg) (by omega) (fun q => absurd q.2.2.1.symm (by assumption))
  | exact h_m.no (J := x4.toNatClampNeg) (by omega) (fun q => q.2.2.2.2 (by assumption : k.2.1 1249 (P x4.toNatClampNeg).toNatClampNeg = k.2.1 1249 (P x.toNatClampNeg).toNatClampNeg).symm)
  | exact h_m.no (J := x4.toNatClampNeg) (by omega) (fun q => absurd q.2.1 (by assumption))
  | exact h_m.yes (J := x4.toNatClampNeg) (by omega) ⟨ht, by assumption, (by assumption : k.2.1 1248 (P x4.toNatClampNeg).toNatClampNeg = _).symm, h_w.symm.trans (c.symm.trans a), fun z => absurd z.symm (by assumption)⟩ (by assumption) (by assumption) (pb x hx.1 hx.2) (pb x4 (Int32.le_iff_toInt_le.mpr (by show (0 : Int) ≤ _; omega)) (by first | assumption | exact Int32.not_le.mp (by assumption)))
set_option maxRecDepth 100000 in
theorem g_X3_meetLater_k_v11 (u : qS) (x : Int32) (k : qS) (P : Nat → Int32) (S : Nat → Int32) (B : Nat → Int32) (Tm : mT) (x3 : Int32) (x4 : Int32) (uc : qS) (r_10 : Int32) (hk : CT k P u) (hQ : qFD 10 S u) (hB : qFD 11 B u) (hx : 0 ≤ x ∧ x < u.1 10) (hfi : f_fi k S) (ht : f_co k (P x.toNatClampNeg)) (hm : m_R k B Tm (u.2.1 303) (u.2.1 304) (u.2.1 305)) (hz8 : 0 ≤ u.1 8 ∧ u.1 8 ≤ 20) (hz9 : 0 ≤ u.1 9 ∧ u.1 9 ≤ 8) (hz10 : 0 ≤ u.1 10 ∧ u.1 10 ≤ 120) (hz12 : 0 ≤ u.1 12 ∧ u.1 12 ≤ 16) (h_k : x < x4 ∧ x4 ≤ u.1 10) (h_w : x3 = k.2.1 1250 (P x.toNatClampNeg).toNatClampNeg / 7) (h_m : m_R k B (fun W => Tm W + m_sg (m_h k P W x.toNatClampNeg) (x.toNatClampNeg + 1) (x4.toNatClampNeg - (x.toNatClampNeg + 1))) (uc.2.1 303) (uc.2.1 304) (uc.2.1 305)) (c29_1 : ¬ (u.1 10) ≤ (x4 : Int32)) (hw_9 : r_10 = (k).2.1 1250 ((P (x4 : Int32).toNatClampNeg)).toNatClampNeg / 7) (c46_11 : (r_10 : Int32) = x3) (hb_19 : 0 ≤ k.2.1 1248 (P (x4 : Int32).toNatClampNeg : Int32).toNatClampNeg ∧ k.2.1 1248 (P (x4 : Int32).toNatClampNeg : Int32).toNatClampNeg < (u.1 8)) (hb_24 : 0 ≤ k.2.1 1248 (P (x : Int32).toNatClampNeg : Int32).toNatClampNeg ∧ k.2.1 1248 (P (x : Int32).toNatClampNeg : Int32).toNatClampNeg < (u.1 8)) (c70_25 : ¬ (k.2.1 1248 (P (x4 : Int32).toNatClampNeg : Int32).toNatClampNeg : Int32) = (k.2.1 1248 (P (x : Int32).toNatClampNeg : Int32).toNatClampNeg)) : ((u.1 10).toInt - (x4 + 1).toInt).toNat < ((u.1 10).toInt - x4.toInt).toNat := by
  have qx : 0 ≤ x.toInt ∧ x.toInt < x4.toInt ∧ x4.toInt < (u.1 10).toInt ∧ (u.1 10).toInt ≤ 120 := (by clear h_m ht hm; (try simp only [g_m1, Int32.lt_iff_toInt_lt, Int32.le_iff_toInt_le, ← Int32.toInt_inj, Int32.reduceToInt] at *); omega)
  have cx := g_clamp x
  have c4 := g_clamp x4
  have e4 := (g_up (i := x4) (by omega) (by omega)).2
  have e5 := (g_up (i := x4) (by omega) (by omega)).1; clear h_m ht hm; (try simp only [g_m1, Int32.lt_iff_toInt_lt, Int32.le_iff_toInt_le, ← Int32.toInt_inj, Int32.reduceToInt] at *); omega
set_option maxRecDepth 100000 in
theorem g_X3_meetLater_k_v12 (u : qS) (x : Int32) (k : qS) (P : Nat → Int32) (S : Nat → Int32) (B : Nat → Int32) (Tm : mT) (x3 : Int32) (x4 : Int32) (uc : qS) (r_10 : Int32) (hk : CT k P u) (hQ : qFD 10 S u) (hB : qFD 11 B u) (hx : 0 ≤ x ∧ x < u.1 10) (hfi : f_fi k S) (ht : f_co k (P x.toNatClampNeg)) (hm : m_R k B Tm (u.2.1 303) (u.2.1 304) (u.2.1 305)) (hz8 : 0 ≤ u.1 8 ∧ u.1 8 ≤ 20) (hz9 : 0 ≤ u.1 9 ∧ u.1 9 ≤ 8) (hz10 : 0 ≤ u.1 10 ∧ u.1 10 ≤ 120) (hz12 : 0 ≤ u.1 12 ∧ u.1 12 ≤ 16) (h_k : x < x4 ∧ x4 ≤ u.1 10) (h_w : x3 = k.2.1 1250 (P x.toNatClampNeg).toNatClampNeg / 7) (h_m : m_R k B (fun W => Tm W + m_sg (m_h k P W x.toNatClampNeg) (x.toNatClampNeg + 1) (x4.toNatClampNeg - (x.toNatClampNeg + 1))) (uc.2.1 303) (uc.2.1 304) (uc.2.1 305)) (c29_1 : ¬ (u.1 10) ≤ (x4 : Int32)) (hw_9 : r_10 = (k).2.1 1250 ((P (x4 : Int32).toNatClampNeg)).toNatClampNeg / 7) (c46_11 : (r_10 : Int32) = x3) (hb_19 : 0 ≤ k.2.1 1248 (P (x4 : Int32).toNatClampNeg : Int32).toNatClampNeg ∧ k.2.1 1248 (P (x4 : Int32).toNatClampNeg : Int32).toNatClampNeg < (u.1 8)) (hb_24 : 0 ≤ k.2.1 1248 (P (x : Int32).toNatClampNeg : Int32).toNatClampNeg ∧ k.2.1 1248 (P (x : Int32).toNatClampNeg : Int32).toNatClampNeg < (u.1 8)) (c70_25 : (k.2.1 1248 (P (x4 : Int32).toNatClampNeg : Int32).toNatClampNeg : Int32) = (k.2.1 1248 (P (x : Int32).toNatClampNeg : Int32).toNatClampNeg)) (hb_30 : 0 ≤ k.2.1 1249 (P (x4 : Int32).toNatClampNeg : Int32).toNatClampNeg ∧ k.2.1 1249 (P (x4 : Int32).toNatClampNeg : Int32).toNatClampNeg < (u.1 9)) (hb_35 : 0 ≤ k.2.1 1249 (P (x : Int32).toNatClampNeg : Int32).toNatClampNeg ∧ k.2.1 1249 (P (x : Int32).toNatClampNeg : Int32).toNatClampNeg < (u.1 9)) (c82_36 : (k.2.1 1249 (P (x4 : Int32).toNatClampNeg : Int32).toNatClampNeg : Int32) = (k.2.1 1249 (P (x : Int32).toNatClampNeg : Int32).toNatClampNeg)) : x < (x4 + 1) ∧ (x4 + 1) ≤ u.1 10 := by
  have qx : 0 ≤ x.toInt ∧ x.toInt < x4.toInt ∧ x4.toInt < (u.1 10).toInt ∧ (u.1 10).toInt ≤ 120 := (by clear h_m ht hm; (try simp only [g_m1, Int32.lt_iff_toInt_lt, Int32.le_iff_toInt_le, ← Int32.toInt_inj, Int32.reduceToInt] at *); omega)
  have cx := g_clamp x
  have c4 := g_clamp x4
  have e4 := (g_up (i := x4) (by omega) (by omega)).2
  have e5 := (g_up (i := x4) (by omega) (by omega)).1; clear h_m ht hm; (try simp only [g_m1, Int32.lt_iff_toInt_lt, Int32.le_iff_toInt_le, ← Int32.toInt_inj, Int32.reduceToInt] at *); omega
set_option maxRecDepth 100000 in
theorem g_X3_meetLater_k_v13 (u : qS) (x : Int32) (k : qS) (P : Nat → Int32) (S : Nat → Int32) (B : Nat → Int32) (Tm : mT) (x3 : Int32) (x4 : Int32) (uc : qS) (r_10 : Int32) (hk : CT k P u) (hQ : qFD 10 S u) (hB : qFD 11 B u) (hx : 0 ≤ x ∧ x < u.1 10) (hfi : f_fi k S) (ht : f_co k (P x.toNatClampNeg)) (hm : m_R k B Tm (u.2.1 303) (u.2.1 304) (u.2.1 305)) (hz8 : 0 ≤ u.1 8 ∧ u.1 8 ≤ 20) (hz9 : 0 ≤ u.1 9 ∧ u.1 9 ≤ 8) (hz10 : 0 ≤ u.1 10 ∧ u.1 10 ≤ 120) (hz12 : 0 ≤ u.1 12 ∧ u.1 12 ≤ 16) (h_k : x < x4 ∧ x4 ≤ u.1 10) (h_w : x3 = k.2.1 1250 (P x.toNatClampNeg).toNatClampNeg / 7) (h_m : m_R k B (fun W => Tm W + m_sg (m_h k P W x.toNatClampNeg) (x.toNatClampNeg + 1) (x4.toNatClampNeg - (x.toNatClampNeg + 1))) (uc.2.1 303) (uc.2.1 304) (uc.2.1 305)) (c29_1 : ¬ (u.1 10) ≤ (x4 : Int32)) (hw_9 : r_10 = (k).2.1 1250 ((P (x4 : Int32).toNatClampNeg)).toNatClampNeg / 7) (c46_11 : (r_10 : Int32) = x3) (hb_19 : 0 ≤ k.2.1 1248 (P (x4 : Int32).toNatClampNeg : Int32).toNatClampNeg ∧ k.2.1 1248 (P (x4 : Int32).toNatClampNeg : Int32).toNatClampNeg < (u.1 8)) (hb_24 : 0 ≤ k.2.1 1248 (P (x : Int32).toNatClampNeg : Int32).toNatClampNeg ∧ k.2.1 1248 (P (x : Int32).toNatClampNeg : Int32).toNatClampNeg < (u.1 8)) (c70_25 : (k.2.1 1248 (P (x4 : Int32).toNatClampNeg : Int32).toNatClampNeg : Int32) = (k.2.1 1248 (P (x : Int32).toNatClampNeg : Int32).toNatClampNeg)) (hb_30 : 0 ≤ k.2.1 1249 (P (x4 : Int32).toNatClampNeg : Int32).toNatClampNeg ∧ k.2.1 1249 (P (x4 : Int32).toNatClampNeg : Int32).toNatClampNeg < (u.1 9)) (hb_35 : 0 ≤ k.2.1 1249 (P (x : Int32).toNatClampNeg : Int32).toNatClampNeg ∧ k.2.1 1249 (P (x : Int32).toNatClampNeg : Int32).toNatClampNeg < (u.1 9)) (c82_36 : (k.2.1 1249 (P (x4 : Int32).toNatClampNeg : Int32).toNatClampNeg : Int32) = (k.2.1 1249 (P (x : Int32).toNatClampNeg : Int32).toNatClampNeg)) : x3 = k.2.1 1250 (P x.toNatClampNeg).toNatClampNeg / 7 := by
  exact h_w
set_option maxRecDepth 100000 in
theorem g_X3_meetLater_k_v14 (u : qS) (x : Int32) (k : qS) (P : Nat → Int32) (S : Nat → Int32) (B : Nat → Int32) (Tm : mT) (x3 : Int32) (x4 : Int32) (uc : qS) (r_10 : Int32) (hk : CT k P u) (hQ : qFD 10 S u) (hB : qFD 11 B u) (hx : 0 ≤ x ∧ x < u.1 10) (hfi : f_fi k S) (ht : f_co k (P x.toNatClampNeg)) (hm : m_R k B Tm (u.2.1 303) (u.2.1 304) (u.2.1 305)) (hz8 : 0 ≤ u.1 8 ∧ u.1 8 ≤ 20) (hz9 : 0 ≤ u.1 9 ∧ u.1 9 ≤ 8) (hz10 : 0 ≤ u.1 10 ∧ u.1 10 ≤ 120) (hz12 : 0 ≤ u.1 12 ∧ u.1 12 ≤ 16) (h_k : x < x4 ∧ x4 ≤ u.1 10) (h_w : x3 = k.2.1 1250 (P x.toNatClampNeg).toNatClampNeg / 7) (h_m : m_R k B (fun W => Tm W + m_sg (m_h k P W x.toNatClampNeg) (x.toNatClampNeg + 1) (x4.toNatClampNeg - (x.toNatClampNeg + 1))) (uc.2.1 303) (uc.2.1 304) (uc.2.1 305)) (c29_1 : ¬ (u.1 10) ≤ (x4 : Int32)) (hw_9 : r_10 = (k).2.1 1250 ((P (x4 : Int32).toNatClampNeg)).toNatClampNeg / 7) (c46_11 : (r_10 : Int32) = x3) (hb_19 : 0 ≤ k.2.1 1248 (P (x4 : Int32).toNatClampNeg : Int32).toNatClampNeg ∧ k.2.1 1248 (P (x4 : Int32).toNatClampNeg : Int32).toNatClampNeg < (u.1 8)) (hb_24 : 0 ≤ k.2.1 1248 (P (x : Int32).toNatClampNeg : Int32).toNatClampNeg ∧ k.2.1 1248 (P (x : Int32).toNatClampNeg : Int32).toNatClampNeg < (u.1 8)) (c70_25 : (k.2.1 1248 (P (x4 : Int32).toNatClampNeg : Int32).toNatClampNeg : Int32) = (k.2.1 1248 (P (x : Int32).toNatClampNeg : Int32).toNatClampNeg)) (hb_30 : 0 ≤ k.2.1 1249 (P (x4 : Int32).toNatClampNeg : Int32).toNatClampNeg ∧ k.2.1 1249 (P (x4 : Int32).toNatClampNeg : Int32).toNatClampNeg < (u.1 9)) (hb_35 : 0 ≤ k.2.1 1249 (P (x : Int32).toNatClampNeg : Int32).toNatClampNeg ∧ k.2.1 1249 (P (x : Int32).toNatClampNeg : Int32).toNatClampNeg < (u.1 9)) (c82_36 : (k.2.1 1249 (P (x4 : Int32).toNatClampNeg : Int32).toNatClampNeg : Int32) = (k.2.1 1249 (P (x : Int32).toNatClampNeg : Int32).toNatClampNeg)) : m_R k B (fun W => Tm W + m_sg (m_h k P W x.toNatClampNeg) (x.toNatClampNeg + 1) ((x4 + 1).toNatClampNeg - (x.toNatClampNeg + 1))) ((uc.2.1 303)) ((uc.2.1 304)) ((uc.2.1 305)) := by
  have qx : 0 ≤ x.toInt ∧ x.toInt < x4.toInt ∧ x4.toInt < (u.1 10).toInt ∧ (u.1 10).toInt ≤ 120 := (by clear h_m ht hm; (try simp only [g_m1, Int32.lt_iff_toInt_lt, Int32.le_iff_toInt_le, ← Int32.toInt_inj, Int32.reduceToInt] at *); omega)
  have cx := g_clamp x
  have c4 := g_clamp x4
  have e4 := (g_up (i := x4) (by omega) (by omega)).2
  have pb : ∀ i : Int32, 0 ≤ i → i < u.1 10 → 0 ≤ k.2.1 1249 (P i.toNatClampNeg).toNatClampNeg ∧ k.2.1 1249 (P i.toNatClampNeg).toNatClampNeg < 8 := fun i i0 i1 => m_bu hk ⟨i0, i1⟩ hz9
  have e6 : (x4 + 1).toNatClampNeg - (x.toNatClampNeg + 1) = (x4.toNatClampNeg - (x.toNatClampNeg + 1)) + 1 := by omega
  have a := (by assumption : _ = k.2.1 1250 (P x4.toNatClampNeg).toNatClampNeg / 7)
  have c := (by assumption : _ = x3)
  rw [e6]
  first
  | exact h_m.no (J := x4.toNatClampNeg) (by omega) (fun q => absurd q.2.2.1.symm (by assumption))
  | exact h_m.no (J := x4.toNatClampNeg) (by omega) (fun q => q.2.2.2.2 (by assumption : k.2.1 1249 (P x4.toNatClampNeg).toNatClampNeg = k.2.1 1249 (P x.toNatClampNeg).toNatClampNeg).symm)
  | exact h_m.no (J := x4.toNatClampNeg) (by omega) (fun q => absurd q.2.1 (by assumption))
  | exact h_m.yes (J := x4.toNatClampNeg) (by omega) ⟨ht, by assumption, (by assumption : k.2.1 1248 (P x4.toNatClampNeg).toNatClampNeg = _).symm, h_w.symm.trans (c.symm.trans a), fun z => absurd z.symm (by assumption)⟩ (by assumption) (by assumption) (pb x hx.1 hx.2) (pb x4 (Int32.le_iff_toInt_le.mpr (by show (0 : Int) ≤ _; omega)) (by first | assumption | exact Int32.not_le.mp (by assumption)))
set_option maxRecDepth 100000 in
theorem g_X3_meetLater_k_v15 (u : qS) (x : Int32) (k : qS) (P : Nat → Int32) (S : Nat → Int32) (B : Nat → Int32) (Tm : mT) (x3 : Int32) (x4 : Int32) (uc : qS) (r_10 : Int32) (hk : CT k P u) (hQ : qFD 10 S u) (hB : qFD 11 B u) (hx : 0 ≤ x ∧ x < u.1 10) (hfi : f_fi k S) (ht : f_co k (P x.toNatClampNeg)) (hm : m_R k B Tm (u.2.1 303) (u.2.1 304) (u.2.1 305)) (hz8 : 0 ≤ u.1 8 ∧ u.1 8 ≤ 20) (hz9 : 0 ≤ u.1 9 ∧ u.1 9 ≤ 8) (hz10 : 0 ≤ u.1 10 ∧ u.1 10 ≤ 120) (hz12 : 0 ≤ u.1 12 ∧ u.1 12 ≤ 16) (h_k : x < x4 ∧ x4 ≤ u.1 10) (h_w : x3 = k.2.1 1250 (P x.toNatClampNeg).toNatClampNeg / 7) (h_m : m_R k B (fun W => Tm W + m_sg (m_h k P W x.toNatClampNeg) (x.toNatClampNeg + 1) (x4.toNatClampNeg - (x.toNatClampNeg + 1))) (uc.2.1 303) (uc.2.1 304) (uc.2.1 305)) (c29_1 : ¬ (u.1 10) ≤ (x4 : Int32)) (hw_9 : r_10 = (k).2.1 1250 ((P (x4 : Int32).toNatClampNeg)).toNatClampNeg / 7) (c46_11 : (r_10 : Int32) = x3) (hb_19 : 0 ≤ k.2.1 1248 (P (x4 : Int32).toNatClampNeg : Int32).toNatClampNeg ∧ k.2.1 1248 (P (x4 : Int32).toNatClampNeg : Int32).toNatClampNeg < (u.1 8)) (hb_24 : 0 ≤ k.2.1 1248 (P (x : Int32).toNatClampNeg : Int32).toNatClampNeg ∧ k.2.1 1248 (P (x : Int32).toNatClampNeg : Int32).toNatClampNeg < (u.1 8)) (c70_25 : (k.2.1 1248 (P (x4 : Int32).toNatClampNeg : Int32).toNatClampNeg : Int32) = (k.2.1 1248 (P (x : Int32).toNatClampNeg : Int32).toNatClampNeg)) (hb_30 : 0 ≤ k.2.1 1249 (P (x4 : Int32).toNatClampNeg : Int32).toNatClampNeg ∧ k.2.1 1249 (P (x4 : Int32).toNatClampNeg : Int32).toNatClampNeg < (u.1 9)) (hb_35 : 0 ≤ k.2.1 1249 (P (x : Int32).toNatClampNeg : Int32).toNatClampNeg ∧ k.2.1 1249 (P (x : Int32).toNatClampNeg : Int32).toNatClampNeg < (u.1 9)) (c82_36 : (k.2.1 1249 (P (x4 : Int32).toNatClampNeg : Int32).toNatClampNeg : Int32) = (k.2.1 1249 (P (x : Int32).toNatClampNeg : Int32).toNatClampNeg)) : ((u.1 10).toInt - (x4 + 1).toInt).toNat < ((u.1 10).toInt - x4.toInt).toNat := by
  have qx : 0 ≤ x.toInt ∧ x.toInt < x4.toInt ∧ x4.toInt < (u.1 10).toInt ∧ (u.1 10).toInt ≤ 120 := (by clear h_m ht hm; (try simp only [g_m1, Int32.lt_iff_toInt_lt, Int32.le_iff_toInt_le, ← Int32.toInt_inj, Int32.reduceToInt] at *); omega)
  have cx := g_clamp x
  have c4 := g_clamp x4
  have e4 := (g_up (i := x4) (by omega) (by omega)).2
  have e5 := (g_up (i := x4) (by omega) (by omega)).1; clear h_m ht hm; (try simp only [g_m1, Int32.lt_iff_toInt_lt, Int32.le_iff_toInt_le, ← Int32.toInt_inj, Int32.reduceToInt] at *); omega
set_option maxRecDepth 100000 in
theorem g_X3_meetLater_k_v16 (u : qS) (x : Int32) (k : qS) (P : Nat → Int32) (S : Nat → Int32) (B : Nat → Int32) (Tm : mT) (x3 : Int32) (x4 : Int32) (uc : qS) (r_10 : Int32) (u_41 : qS) (u_48 : qS) (hk : CT k P u) (hQ : qFD 10 S u) (hB : qFD 11 B u) (hx : 0 ≤ x ∧ x < u.1 10) (hfi : f_fi k S) (ht : f_co k (P x.toNatClampNeg)) (hm : m_R k B Tm (u.2.1 303) (u.2.1 304) (u.2.1 305)) (hz8 : 0 ≤ u.1 8 ∧ u.1 8 ≤ 20) (hz9 : 0 ≤ u.1 9 ∧ u.1 9 ≤ 8) (hz10 : 0 ≤ u.1 10 ∧ u.1 10 ≤ 120) (hz12 : 0 ≤ u.1 12 ∧ u.1 12 ≤ 16) (h_k : x < x4 ∧ x4 ≤ u.1 10) (h_w : x3 = k.2.1 1250 (P x.toNatClampNeg).toNatClampNeg / 7) (h_m : m_R k B (fun W => Tm W + m_sg (m_h k P W x.toNatClampNeg) (x.toNatClampNeg + 1) (x4.toNatClampNeg - (x.toNatClampNeg + 1))) (uc.2.1 303) (uc.2.1 304) (uc.2.1 305)) (c29_1 : ¬ (u.1 10) ≤ (x4 : Int32)) (hw_9 : r_10 = (k).2.1 1250 ((P (x4 : Int32).toNatClampNeg)).toNatClampNeg / 7) (c46_11 : (r_10 : Int32) = x3) (hb_19 : 0 ≤ k.2.1 1248 (P (x4 : Int32).toNatClampNeg : Int32).toNatClampNeg ∧ k.2.1 1248 (P (x4 : Int32).toNatClampNeg : Int32).toNatClampNeg < (u.1 8)) (hb_24 : 0 ≤ k.2.1 1248 (P (x : Int32).toNatClampNeg : Int32).toNatClampNeg ∧ k.2.1 1248 (P (x : Int32).toNatClampNeg : Int32).toNatClampNeg < (u.1 8)) (c70_25 : (k.2.1 1248 (P (x4 : Int32).toNatClampNeg : Int32).toNatClampNeg : Int32) = (k.2.1 1248 (P (x : Int32).toNatClampNeg : Int32).toNatClampNeg)) (hb_30 : 0 ≤ k.2.1 1249 (P (x4 : Int32).toNatClampNeg : Int32).toNatClampNeg ∧ k.2.1 1249 (P (x4 : Int32).toNatClampNeg : Int32).toNatClampNeg < (u.1 9)) (hb_35 : 0 ≤ k.2.1 1249 (P (x : Int32).toNatClampNeg : Int32).toNatClampNeg ∧ k.2.1 1249 (P (x : Int32).toNatClampNeg : Int32).toNatClampNeg < (u.1 9)) (c82_36 : ¬ (k.2.1 1249 (P (x4 : Int32).toNatClampNeg : Int32).toNatClampNeg : Int32) = (k.2.1 1249 (P (x : Int32).toNatClampNeg : Int32).toNatClampNeg)) (b88_40 : f_co (k) ((P (x4 : Int32).toNatClampNeg))) (hw_42 : m_one (k) (B) ((P (x : Int32).toNatClampNeg)) ((P (x4 : Int32).toNatClampNeg)) ((uc.2.1 303)) ((uc.2.1 304)) ((uc.2.1 305)) (u_41.2.1 303) (u_41.2.1 304) (u_41.2.1 305)) (hw_49 : m_one (k) (B) ((P (x4 : Int32).toNatClampNeg)) ((P (x : Int32).toNatClampNeg)) ((u_41.2.1 303)) ((u_41.2.1 304)) ((u_41.2.1 305)) (u_48.2.1 303) (u_48.2.1 304) (u_48.2.1 305)) : x < (x4 + 1) ∧ (x4 + 1) ≤ u.1 10 := by
  have qx : 0 ≤ x.toInt ∧ x.toInt < x4.toInt ∧ x4.toInt < (u.1 10).toInt ∧ (u.1 10).toInt ≤ 120 := (by clear h_m ht hm; (try simp only [g_m1, Int32.lt_iff_toInt_lt, Int32.le_iff_toInt_le, ← Int32.toInt_inj, Int32.reduceToInt] at *); omega)
  have cx := g_clamp x
  have c4 := g_clamp x4
  have e4 := (g_up (i := x4) (by omega) (by omega)).2
  have e5 := (g_up (i := x4) (by omega) (by omega)).1; clear h_m ht hm; (try simp only [g_m1, Int32.lt_iff_toInt_lt, Int32.le_iff_toInt_le, ← Int32.toInt_inj, Int32.reduceToInt] at *); omega
set_option maxRecDepth 100000 in
theorem g_X3_meetLater_k_v17 (u : qS) (x : Int32) (k : qS) (P : Nat → Int32) (S : Nat → Int32) (B : Nat → Int32) (Tm : mT) (x3 : Int32) (x4 : Int32) (uc : qS) (r_10 : Int32) (u_41 : qS) (u_48 : qS) (hk : CT k P u) (hQ : qFD 10 S u) (hB : qFD 11 B u) (hx : 0 ≤ x ∧ x < u.1 10) (hfi : f_fi k S) (ht : f_co k (P x.toNatClampNeg)) (hm : m_R k B Tm (u.2.1 303) (u.2.1 304) (u.2.1 305)) (hz8 : 0 ≤ u.1 8 ∧ u.1 8 ≤ 20) (hz9 : 0 ≤ u.1 9 ∧ u.1 9 ≤ 8) (hz10 : 0 ≤ u.1 10 ∧ u.1 10 ≤ 120) (hz12 : 0 ≤ u.1 12 ∧ u.1 12 ≤ 16) (h_k : x < x4 ∧ x4 ≤ u.1 10) (h_w : x3 = k.2.1 1250 (P x.toNatClampNeg).toNatClampNeg / 7) (h_m : m_R k B (fun W => Tm W + m_sg (m_h k P W x.toNatClampNeg) (x.toNatClampNeg + 1) (x4.toNatClampNeg - (x.toNatClampNeg + 1))) (uc.2.1 303) (uc.2.1 304) (uc.2.1 305)) (c29_1 : ¬ (u.1 10) ≤ (x4 : Int32)) (hw_9 : r_10 = (k).2.1 1250 ((P (x4 : Int32).toNatClampNeg)).toNatClampNeg / 7) (c46_11 : (r_10 : Int32) = x3) (hb_19 : 0 ≤ k.2.1 1248 (P (x4 : Int32).toNatClampNeg : Int32).toNatClampNeg ∧ k.2.1 1248 (P (x4 : Int32).toNatClampNeg : Int32).toNatClampNeg < (u.1 8)) (hb_24 : 0 ≤ k.2.1 1248 (P (x : Int32).toNatClampNeg : Int32).toNatClampNeg ∧ k.2.1 1248 (P (x : Int32).toNatClampNeg : Int32).toNatClampNeg < (u.1 8)) (c70_25 : (k.2.1 1248 (P (x4 : Int32).toNatClampNeg : Int32).toNatClampNeg : Int32) = (k.2.1 1248 (P (x : Int32).toNatClampNeg : Int32).toNatClampNeg)) (hb_30 : 0 ≤ k.2.1 1249 (P (x4 : Int32).toNatClampNeg : Int32).toNatClampNeg ∧ k.2.1 1249 (P (x4 : Int32).toNatClampNeg : Int32).toNatClampNeg < (u.1 9)) (hb_35 : 0 ≤ k.2.1 1249 (P (x : Int32).toNatClampNeg : Int32).toNatClampNeg ∧ k.2.1 1249 (P (x : Int32).toNatClampNeg : Int32).toNatClampNeg < (u.1 9)) (c82_36 : ¬ (k.2.1 1249 (P (x4 : Int32).toNatClampNeg : Int32).toNatClampNeg : Int32) = (k.2.1 1249 (P (x : Int32).toNatClampNeg : Int32).toNatClampNeg)) (b88_40 : f_co (k) ((P (x4 : Int32).toNatClampNeg))) (hw_42 : m_one (k) (B) ((P (x : Int32).toNatClampNeg)) ((P (x4 : Int32).toNatClampNeg)) ((uc.2.1 303)) ((uc.2.1 304)) ((uc.2.1 305)) (u_41.2.1 303) (u_41.2.1 304) (u_41.2.1 305)) (hw_49 : m_one (k) (B) ((P (x4 : Int32).toNatClampNeg)) ((P (x : Int32).toNatClampNeg)) ((u_41.2.1 303)) ((u_41.2.1 304)) ((u_41.2.1 305)) (u_48.2.1 303) (u_48.2.1 304) (u_48.2.1 305)) : x3 = k.2.1 1250 (P x.toNatClampNeg).toNatClampNeg / 7 := by
  exact h_w
set_option maxRecDepth 100000 in
theorem g_X3_meetLater_k_v18 (u : qS) (x : Int32) (k : qS) (P : Nat → Int32) (S : Nat → Int32) (B : Nat → Int32) (Tm : mT) (x3 : Int32) (x4 : Int32) (uc : qS) (r_10 : Int32) (u_41 : qS) (u_48 : qS) (hk : CT k P u) (hQ : qFD 10 S u) (hB : qFD 11 B u) (hx : 0 ≤ x ∧ x < u.1 10) (hfi : f_fi k S) (ht : f_co k (P x.toNatClampNeg)) (hm : m_R k B Tm (u.2.1 303) (u.2.1 304) (u.2.1 305)) (hz8 : 0 ≤ u.1 8 ∧ u.1 8 ≤ 20) (hz9 : 0 ≤ u.1 9 ∧ u.1 9 ≤ 8) (hz10 : 0 ≤ u.1 10 ∧ u.1 10 ≤ 120) (hz12 : 0 ≤ u.1 12 ∧ u.1 12 ≤ 16) (h_k : x < x4 ∧ x4 ≤ u.1 10) (h_w : x3 = k.2.1 1250 (P x.toNatClampNeg).toNatClampNeg / 7) (h_m : m_R k B (fun W => Tm W + m_sg (m_h k P W x.toNatClampNeg) (x.toNatClampNeg + 1) (x4.toNatClampNeg - (x.toNatClampNeg + 1))) (uc.2.1 303) (uc.2.1 304) (uc.2.1 305)) (c29_1 : ¬ (u.1 10) ≤ (x4 : Int32)) (hw_9 : r_10 = (k).2.1 1250 ((P (x4 : Int32).toNatClampNeg)).toNatClampNeg / 7) (c46_11 : (r_10 : Int32) = x3) (hb_19 : 0 ≤ k.2.1 1248 (P (x4 : Int32).toNatClampNeg : Int32).toNatClampNeg ∧ k.2.1 1248 (P (x4 : Int32).toNatClampNeg : Int32).toNatClampNeg < (u.1 8)) (hb_24 : 0 ≤ k.2.1 1248 (P (x : Int32).toNatClampNeg : Int32).toNatClampNeg ∧ k.2.1 1248 (P (x : Int32).toNatClampNeg : Int32).toNatClampNeg < (u.1 8)) (c70_25 : (k.2.1 1248 (P (x4 : Int32).toNatClampNeg : Int32).toNatClampNeg : Int32) = (k.2.1 1248 (P (x : Int32).toNatClampNeg : Int32).toNatClampNeg)) (hb_30 : 0 ≤ k.2.1 1249 (P (x4 : Int32).toNatClampNeg : Int32).toNatClampNeg ∧ k.2.1 1249 (P (x4 : Int32).toNatClampNeg : Int32).toNatClampNeg < (u.1 9)) (hb_35 : 0 ≤ k.2.1 1249 (P (x : Int32).toNatClampNeg : Int32).toNatClampNeg ∧ k.2.1 1249 (P (x : Int32).toNatClampNeg : Int32).toNatClampNeg < (u.1 9)) (c82_36 : ¬ (k.2.1 1249 (P (x4 : Int32).toNatClampNeg : Int32).toNatClampNeg : Int32) = (k.2.1 1249 (P (x : Int32).toNatClampNeg : Int32).toNatClampNeg)) (b88_40 : f_co (k) ((P (x4 : Int32).toNatClampNeg))) (hw_42 : m_one (k) (B) ((P (x : Int32).toNatClampNeg)) ((P (x4 : Int32).toNatClampNeg)) ((uc.2.1 303)) ((uc.2.1 304)) ((uc.2.1 305)) (u_41.2.1 303) (u_41.2.1 304) (u_41.2.1 305)) (hw_49 : m_one (k) (B) ((P (x4 : Int32).toNatClampNeg)) ((P (x : Int32).toNatClampNeg)) ((u_41.2.1 303)) ((u_41.2.1 304)) ((u_41.2.1 305)) (u_48.2.1 303) (u_48.2.1 304) (u_48.2.1 305)) : m_R k B (fun W => Tm W + m_sg (m_h k P W x.toNatClampNeg) (x.toNatClampNeg + 1) ((x4 + 1).toNatClampNeg - (x.toNatClampNeg + 1))) ((u_48.2.1 303)) ((u_48.2.1 304)) ((u_48.2.1 305)) := by
  have qx : 0 ≤ x.toInt ∧ x.toInt < x4.toInt ∧ x4.toInt < (u.1 10).toInt ∧ (u.1 10).toInt ≤ 120 := (by clear h_m ht hm; (try simp only [g_m1, Int32.lt_iff_toInt_lt, Int32.le_iff_toInt_le, ← Int32.toInt_inj, Int32.reduceToInt] at *); omega)
  have cx := g_clamp x
  have c4 := g_clamp x4
  have e4 := (g_up (i := x4) (by omega) (by omega)).2
  have pb : ∀ i : Int32, 0 ≤ i → i < u.1 10 → 0 ≤ k.2.1 1249 (P i.toNatClampNeg).toNatClampNeg ∧ k.2.1 1249 (P i.toNatClampNeg).toNatClampNeg < 8 := fun i i0 i1 => m_bu hk ⟨i0, i1⟩ hz9
  have e6 : (x4 + 1).toNatClampNeg - (x.toNatClampNeg + 1) = (x4.toNatClampNeg - (x.toNatClampNeg + 1)) + 1 := by omega
  have a := (by assumption : _ = k.2.1 1250 (P x4.toNatClampNeg).toNatClampNeg / 7)
  have c := (by assumption : _ = x3)
  rw [e6]
  first
  | exact h_m.no (J := x4.toNatClampNeg) (by omega) (fun q => absurd q.2.2.1.symm (by assumption))
  | exact h_m.no (J := x4.toNatClampNeg) (by omega) (fun q => q.2.2.2.2 (by assumption : k.2.1 1249 (P x4.toNatClampNeg).toNatClampNeg = k.2.1 1249 (P x.toNatClampNeg).toNatClampNeg).symm)
  | exact h_m.no (J := x4.toNatClampNeg) (by omega) (fun q => absurd q.2.1 (by assumption))
  | exact h_m.yes (J := x4.toNatClampNeg) (by omega) ⟨ht, by assumption, (by assumption : k.2.1 1248 (P x4.toNatClampNeg).toNatClampNeg = _).symm, h_w.symm.trans (c.symm.trans a), fun z => absurd z.symm (by assumption)⟩ (by assumption) (by assumption) (pb x hx.1 hx.2) (pb x4 (Int32.le_iff_toInt_le.mpr (by show (0 : Int) ≤ _; omega)) (by first | assumption | exact Int32.not_le.mp (by assumption)))
set_option maxRecDepth 100000 in
theorem g_X3_meetLater_k_v19 (u : qS) (x : Int32) (k : qS) (P : Nat → Int32) (S : Nat → Int32) (B : Nat → Int32) (Tm : mT) (x3 : Int32) (x4 : Int32) (uc : qS) (r_10 : Int32) (u_41 : qS) (u_48 : qS) (hk : CT k P u) (hQ : qFD 10 S u) (hB : qFD 11 B u) (hx : 0 ≤ x ∧ x < u.1 10) (hfi : f_fi k S) (ht : f_co k (P x.toNatClampNeg)) (hm : m_R k B Tm (u.2.1 303) (u.2.1 304) (u.2.1 305)) (hz8 : 0 ≤ u.1 8 ∧ u.1 8 ≤ 20) (hz9 : 0 ≤ u.1 9 ∧ u.1 9 ≤ 8) (hz10 : 0 ≤ u.1 10 ∧ u.1 10 ≤ 120) (hz12 : 0 ≤ u.1 12 ∧ u.1 12 ≤ 16) (h_k : x < x4 ∧ x4 ≤ u.1 10) (h_w : x3 = k.2.1 1250 (P x.toNatClampNeg).toNatClampNeg / 7) (h_m : m_R k B (fun W => Tm W + m_sg (m_h k P W x.toNatClampNeg) (x.toNatClampNeg + 1) (x4.toNatClampNeg - (x.toNatClampNeg + 1))) (uc.2.1 303) (uc.2.1 304) (uc.2.1 305)) (c29_1 : ¬ (u.1 10) ≤ (x4 : Int32)) (hw_9 : r_10 = (k).2.1 1250 ((P (x4 : Int32).toNatClampNeg)).toNatClampNeg / 7) (c46_11 : (r_10 : Int32) = x3) (hb_19 : 0 ≤ k.2.1 1248 (P (x4 : Int32).toNatClampNeg : Int32).toNatClampNeg ∧ k.2.1 1248 (P (x4 : Int32).toNatClampNeg : Int32).toNatClampNeg < (u.1 8)) (hb_24 : 0 ≤ k.2.1 1248 (P (x : Int32).toNatClampNeg : Int32).toNatClampNeg ∧ k.2.1 1248 (P (x : Int32).toNatClampNeg : Int32).toNatClampNeg < (u.1 8)) (c70_25 : (k.2.1 1248 (P (x4 : Int32).toNatClampNeg : Int32).toNatClampNeg : Int32) = (k.2.1 1248 (P (x : Int32).toNatClampNeg : Int32).toNatClampNeg)) (hb_30 : 0 ≤ k.2.1 1249 (P (x4 : Int32).toNatClampNeg : Int32).toNatClampNeg ∧ k.2.1 1249 (P (x4 : Int32).toNatClampNeg : Int32).toNatClampNeg < (u.1 9)) (hb_35 : 0 ≤ k.2.1 1249 (P (x : Int32).toNatClampNeg : Int32).toNatClampNeg ∧ k.2.1 1249 (P (x : Int32).toNatClampNeg : Int32).toNatClampNeg < (u.1 9)) (c82_36 : ¬ (k.2.1 1249 (P (x4 : Int32).toNatClampNeg : Int32).toNatClampNeg : Int32) = (k.2.1 1249 (P (x : Int32).toNatClampNeg : Int32).toNatClampNeg)) (b88_40 : f_co (k) ((P (x4 : Int32).toNatClampNeg))) (hw_42 : m_one (k) (B) ((P (x : Int32).toNatClampNeg)) ((P (x4 : Int32).toNatClampNeg)) ((uc.2.1 303)) ((uc.2.1 304)) ((uc.2.1 305)) (u_41.2.1 303) (u_41.2.1 304) (u_41.2.1 305)) (hw_49 : m_one (k) (B) ((P (x4 : Int32).toNatClampNeg)) ((P (x : Int32).toNatClampNeg)) ((u_41.2.1 303)) ((u_41.2.1 304)) ((u_41.2.1 305)) (u_48.2.1 303) (u_48.2.1 304) (u_48.2.1 305)) : ((u.1 10).toInt - (x4 + 1).toInt).toNat < ((u.1 10).toInt - x4.toInt).toNat := by
  have qx : 0 ≤ x.toInt ∧ x.toInt < x4.toInt ∧ x4.toInt < (u.1 10).toInt ∧ (u.1 10).toInt ≤ 120 := (by clear h_m ht hm; (try simp only [g_m1, Int32.lt_iff_toInt_lt, Int32.le_iff_toInt_le, ← Int32.toInt_inj, Int32.reduceToInt] at *); omega)
  have cx := g_clamp x
  have c4 := g_clamp x4
  have e4 := (g_up (i := x4) (by omega) (by omega)).2
  have e5 := (g_up (i := x4) (by omega) (by omega)).1; clear h_m ht hm; (try simp only [g_m1, Int32.lt_iff_toInt_lt, Int32.le_iff_toInt_le, ← Int32.toInt_inj, Int32.reduceToInt] at *); omega
set_option maxRecDepth 100000 in
theorem g_X3_meetLater_k_v20 (u : qS) (x : Int32) (k : qS) (P : Nat → Int32) (S : Nat → Int32) (B : Nat → Int32) (Tm : mT) (x3 : Int32) (x4 : Int32) (uc : qS) (r_10 : Int32) (hk : CT k P u) (hQ : qFD 10 S u) (hB : qFD 11 B u) (hx : 0 ≤ x ∧ x < u.1 10) (hfi : f_fi k S) (ht : f_co k (P x.toNatClampNeg)) (hm : m_R k B Tm (u.2.1 303) (u.2.1 304) (u.2.1 305)) (hz8 : 0 ≤ u.1 8 ∧ u.1 8 ≤ 20) (hz9 : 0 ≤ u.1 9 ∧ u.1 9 ≤ 8) (hz10 : 0 ≤ u.1 10 ∧ u.1 10 ≤ 120) (hz12 : 0 ≤ u.1 12 ∧ u.1 12 ≤ 16) (h_k : x < x4 ∧ x4 ≤ u.1 10) (h_w : x3 = k.2.1 1250 (P x.toNatClampNeg).toNatClampNeg / 7) (h_m : m_R k B (fun W => Tm W + m_sg (m_h k P W x.toNatClampNeg) (x.toNatClampNeg + 1) (x4.toNatClampNeg - (x.toNatClampNeg + 1))) (uc.2.1 303) (uc.2.1 304) (uc.2.1 305)) (c29_1 : ¬ (u.1 10) ≤ (x4 : Int32)) (hw_9 : r_10 = (k).2.1 1250 ((P (x4 : Int32).toNatClampNeg)).toNatClampNeg / 7) (c46_11 : (r_10 : Int32) = x3) (hb_19 : 0 ≤ k.2.1 1248 (P (x4 : Int32).toNatClampNeg : Int32).toNatClampNeg ∧ k.2.1 1248 (P (x4 : Int32).toNatClampNeg : Int32).toNatClampNeg < (u.1 8)) (hb_24 : 0 ≤ k.2.1 1248 (P (x : Int32).toNatClampNeg : Int32).toNatClampNeg ∧ k.2.1 1248 (P (x : Int32).toNatClampNeg : Int32).toNatClampNeg < (u.1 8)) (c70_25 : (k.2.1 1248 (P (x4 : Int32).toNatClampNeg : Int32).toNatClampNeg : Int32) = (k.2.1 1248 (P (x : Int32).toNatClampNeg : Int32).toNatClampNeg)) (hb_30 : 0 ≤ k.2.1 1249 (P (x4 : Int32).toNatClampNeg : Int32).toNatClampNeg ∧ k.2.1 1249 (P (x4 : Int32).toNatClampNeg : Int32).toNatClampNeg < (u.1 9)) (hb_35 : 0 ≤ k.2.1 1249 (P (x : Int32).toNatClampNeg : Int32).toNatClampNeg ∧ k.2.1 1249 (P (x : Int32).toNatClampNeg : Int32).toNatClampNeg < (u.1 9)) (c82_36 : ¬ (k.2.1 1249 (P (x4 : Int32).toNatClampNeg : Int32).toNatClampNeg : Int32) = (k.2.1 1249 (P (x : Int32).toNatClampNeg : Int32).toNatClampNeg)) (b88_40 : ¬ (f_co (k) ((P (x4 : Int32).toNatClampNeg)))) : x < (x4 + 1) ∧ (x4 + 1) ≤ u.1 10 := by
  have qx : 0 ≤ x.toInt ∧ x.toInt < x4.toInt ∧ x4.toInt < (u.1 10).toInt ∧ (u.1 10).toInt ≤ 120 := (by clear h_m ht hm; (try simp only [g_m1, Int32.lt_iff_toInt_lt, Int32.le_iff_toInt_le, ← Int32.toInt_inj, Int32.reduceToInt] at *); omega)
  have cx := g_clamp x
  have c4 := g_clamp x4
  have e4 := (g_up (i := x4) (by omega) (by omega)).2
  have e5 := (g_up (i := x4) (by omega) (by omega)).1; clear h_m ht hm; (try simp only [g_m1, Int32.lt_iff_toInt_lt, Int32.le_iff_toInt_le, ← Int32.toInt_inj, Int32.reduceToInt] at *); omega
set_option maxRecDepth 100000 in
theorem g_X3_meetLater_k_v21 (u : qS) (x : Int32) (k : qS) (P : Nat → Int32) (S : Nat → Int32) (B : Nat → Int32) (Tm : mT) (x3 : Int32) (x4 : Int32) (uc : qS) (r_10 : Int32) (hk : CT k P u) (hQ : qFD 10 S u) (hB : qFD 11 B u) (hx : 0 ≤ x ∧ x < u.1 10) (hfi : f_fi k S) (ht : f_co k (P x.toNatClampNeg)) (hm : m_R k B Tm (u.2.1 303) (u.2.1 304) (u.2.1 305)) (hz8 : 0 ≤ u.1 8 ∧ u.1 8 ≤ 20) (hz9 : 0 ≤ u.1 9 ∧ u.1 9 ≤ 8) (hz10 : 0 ≤ u.1 10 ∧ u.1 10 ≤ 120) (hz12 : 0 ≤ u.1 12 ∧ u.1 12 ≤ 16) (h_k : x < x4 ∧ x4 ≤ u.1 10) (h_w : x3 = k.2.1 1250 (P x.toNatClampNeg).toNatClampNeg / 7) (h_m : m_R k B (fun W => Tm W + m_sg (m_h k P W x.toNatClampNeg) (x.toNatClampNeg + 1) (x4.toNatClampNeg - (x.toNatClampNeg + 1))) (uc.2.1 303) (uc.2.1 304) (uc.2.1 305)) (c29_1 : ¬ (u.1 10) ≤ (x4 : Int32)) (hw_9 : r_10 = (k).2.1 1250 ((P (x4 : Int32).toNatClampNeg)).toNatClampNeg / 7) (c46_11 : (r_10 : Int32) = x3) (hb_19 : 0 ≤ k.2.1 1248 (P (x4 : Int32).toNatClampNeg : Int32).toNatClampNeg ∧ k.2.1 1248 (P (x4 : Int32).toNatClampNeg : Int32).toNatClampNeg < (u.1 8)) (hb_24 : 0 ≤ k.2.1 1248 (P (x : Int32).toNatClampNeg : Int32).toNatClampNeg ∧ k.2.1 1248 (P (x : Int32).toNatClampNeg : Int32).toNatClampNeg < (u.1 8)) (c70_25 : (k.2.1 1248 (P (x4 : Int32).toNatClampNeg : Int32).toNatClampNeg : Int32) = (k.2.1 1248 (P (x : Int32).toNatClampNeg : Int32).toNatClampNeg)) (hb_30 : 0 ≤ k.2.1 1249 (P (x4 : Int32).toNatClampNeg : Int32).toNatClampNeg ∧ k.2.1 1249 (P (x4 : Int32).toNatClampNeg : Int32).toNatClampNeg < (u.1 9)) (hb_35 : 0 ≤ k.2.1 1249 (P (x : Int32).toNatClampNeg : Int32).toNatClampNeg ∧ k.2.1 1249 (P (x : Int32).toNatClampNeg : Int32).toNatClampNeg < (u.1 9)) (c82_36 : ¬ (k.2.1 1249 (P (x4 : Int32).toNatClampNeg : Int32).toNatClampNeg : Int32) = (k.2.1 1249 (P (x : Int32).toNatClampNeg : Int32).toNatClampNeg)) (b88_40 : ¬ (f_co (k) ((P (x4 : Int32).toNatClampNeg)))) : x3 = k.2.1 1250 (P x.toNatClampNeg).toNatClampNeg / 7 := by
  exact h_w
set_option maxRecDepth 100000 in
theorem g_X3_meetLater_k_v22 (u : qS) (x : Int32) (k : qS) (P : Nat → Int32) (S : Nat → Int32) (B : Nat → Int32) (Tm : mT) (x3 : Int32) (x4 : Int32) (uc : qS) (r_10 : Int32) (hk : CT k P u) (hQ : qFD 10 S u) (hB : qFD 11 B u) (hx : 0 ≤ x ∧ x < u.1 10) (hfi : f_fi k S) (ht : f_co k (P x.toNatClampNeg)) (hm : m_R k B Tm (u.2.1 303) (u.2.1 304) (u.2.1 305)) (hz8 : 0 ≤ u.1 8 ∧ u.1 8 ≤ 20) (hz9 : 0 ≤ u.1 9 ∧ u.1 9 ≤ 8) (hz10 : 0 ≤ u.1 10 ∧ u.1 10 ≤ 120) (hz12 : 0 ≤ u.1 12 ∧ u.1 12 ≤ 16) (h_k : x < x4 ∧ x4 ≤ u.1 10) (h_w : x3 = k.2.1 1250 (P x.toNatClampNeg).toNatClampNeg / 7) (h_m : m_R k B (fun W => Tm W + m_sg (m_h k P W x.toNatClampNeg) (x.toNatClampNeg + 1) (x4.toNatClampNeg - (x.toNatClampNeg + 1))) (uc.2.1 303) (uc.2.1 304) (uc.2.1 305)) (c29_1 : ¬ (u.1 10) ≤ (x4 : Int32)) (hw_9 : r_10 = (k).2.1 1250 ((P (x4 : Int32).toNatClampNeg)).toNatClampNeg / 7) (c46_11 : (r_10 : Int32) = x3) (hb_19 : 0 ≤ k.2.1 1248 (P (x4 : Int32).toNatClampNeg : Int32).toNatClampNeg ∧ k.2.1 1248 (P (x4 : Int32).toNatClampNeg : Int32).toNatClampNeg < (u.1 8)) (hb_24 : 0 ≤ k.2.1 1248 (P (x : Int32).toNatClampNeg : Int32).toNatClampNeg ∧ k.2.1 1248 (P (x : Int32).toNatClampNeg : Int32).toNatClampNeg < (u.1 8)) (c70_25 : (k.2.1 1248 (P (x4 : Int32).toNatClampNeg : Int32).toNatClampNeg : Int32) = (k.2.1 1248 (P (x : Int32).toNatClampNeg : Int32).toNatClampNeg)) (hb_30 : 0 ≤ k.2.1 1249 (P (x4 : Int32).toNatClampNeg : Int32).toNatClampNeg ∧ k.2.1 1249 (P (x4 : Int32).toNatClampNeg : Int32).toNatClampNeg < (u.1 9)) (hb_35 : 0 ≤ k.2.1 1249 (P (x : Int32).toNatClampNeg : Int32).toNatClampNeg ∧ k.2.1 1249 (P (x : Int32).toNatClampNeg : Int32).toNatClampNeg < (u.1 9)) (c82_36 : ¬ (k.2.1 1249 (P (x4 : Int32).toNatClampNeg : Int32).toNatClampNeg : Int32) = (k.2.1 1249 (P (x : Int32).toNatClampNeg : Int32).toNatClampNeg)) (b88_40 : ¬ (f_co (k) ((P (x4 : Int32).toNatClampNeg)))) : m_R k B (fun W => Tm W + m_sg (m_h k P W x.toNatClampNeg) (x.toNatClampNeg + 1) ((x4 + 1).toNatClampNeg - (x.toNatClampNeg + 1))) ((uc.2.1 303)) ((uc.2.1 304)) ((uc.2.1 305)) := by
  have qx : 0 ≤ x.toInt ∧ x.toInt < x4.toInt ∧ x4.toInt < (u.1 10).toInt ∧ (u.1 10).toInt ≤ 120 := (by clear h_m ht hm; (try simp only [g_m1, Int32.lt_iff_toInt_lt, Int32.le_iff_toInt_le, ← Int32.toInt_inj, Int32.reduceToInt] at *); omega)
  have cx := g_clamp x
  have c4 := g_clamp x4
  have e4 := (g_up (i := x4) (by omega) (by omega)).2
  have pb : ∀ i : Int32, 0 ≤ i → i < u.1 10 → 0 ≤ k.2.1 1249 (P i.toNatClampNeg).toNatClampNeg ∧ k.2.1 1249 (P i.toNatClampNeg).toNatClampNeg < 8 := fun i i0 i1 => m_bu hk ⟨i0, i1⟩ hz9
  have e6 : (x4 + 1).toNatClampNeg - (x.toNatClampNeg + 1) = (x4.toNatClampNeg - (x.toNatClampNeg + 1)) + 1 := by omega
  have a := (by assumption : _ = k.2.1 1250 (P x4.toNatClampNeg).toNatClampNeg / 7)
  have c := (by assumption : _ = x3)
  rw [e6]
  first
  | exact h_m.no (J := x4.toNatClampNeg) (by omega) (fun q => absurd q.2.2.1.symm (by assumption))
  | exact h_m.no (J := x4.toNatClampNeg) (by omega) (fun q => q.2.2.2.2 (by assumption : k.2.1 1249 (P x4.toNatClampNeg).toNatClampNeg = k.2.1 1249 (P x.toNatClampNeg).toNatClampNeg).symm)
  | exact h_m.no (J := x4.toNatClampNeg) (by omega) (fun q => absurd q.2.1 (by assumption))
  | exact h_m.yes (J := x4.toNatClampNeg) (by omega) ⟨ht, by assumption, (by assumption : k.2.1 1248 (P x4.toNatClampNeg).toNatClampNeg = _).symm, h_w.symm.trans (c.symm.trans a), fun z => absurd z.symm (by assumption)⟩ (by assumption) (by assumption) (pb x hx.1 hx.2) (pb x4 (Int32.le_iff_toInt_le.mpr (by show (0 : Int) ≤ _; omega)) (by first | assumption | exact Int32.not_le.mp (by assumption)))
set_option maxRecDepth 100000 in
theorem g_X3_meetLater_k_v23 (u : qS) (x : Int32) (k : qS) (P : Nat → Int32) (S : Nat → Int32) (B : Nat → Int32) (Tm : mT) (x3 : Int32) (x4 : Int32) (uc : qS) (r_10 : Int32) (hk : CT k P u) (hQ : qFD 10 S u) (hB : qFD 11 B u) (hx : 0 ≤ x ∧ x < u.1 10) (hfi : f_fi k S) (ht : f_co k (P x.toNatClampNeg)) (hm : m_R k B Tm (u.2.1 303) (u.2.1 304) (u.2.1 305)) (hz8 : 0 ≤ u.1 8 ∧ u.1 8 ≤ 20) (hz9 : 0 ≤ u.1 9 ∧ u.1 9 ≤ 8) (hz10 : 0 ≤ u.1 10 ∧ u.1 10 ≤ 120) (hz12 : 0 ≤ u.1 12 ∧ u.1 12 ≤ 16) (h_k : x < x4 ∧ x4 ≤ u.1 10) (h_w : x3 = k.2.1 1250 (P x.toNatClampNeg).toNatClampNeg / 7) (h_m : m_R k B (fun W => Tm W + m_sg (m_h k P W x.toNatClampNeg) (x.toNatClampNeg + 1) (x4.toNatClampNeg - (x.toNatClampNeg + 1))) (uc.2.1 303) (uc.2.1 304) (uc.2.1 305)) (c29_1 : ¬ (u.1 10) ≤ (x4 : Int32)) (hw_9 : r_10 = (k).2.1 1250 ((P (x4 : Int32).toNatClampNeg)).toNatClampNeg / 7) (c46_11 : (r_10 : Int32) = x3) (hb_19 : 0 ≤ k.2.1 1248 (P (x4 : Int32).toNatClampNeg : Int32).toNatClampNeg ∧ k.2.1 1248 (P (x4 : Int32).toNatClampNeg : Int32).toNatClampNeg < (u.1 8)) (hb_24 : 0 ≤ k.2.1 1248 (P (x : Int32).toNatClampNeg : Int32).toNatClampNeg ∧ k.2.1 1248 (P (x : Int32).toNatClampNeg : Int32).toNatClampNeg < (u.1 8)) (c70_25 : (k.2.1 1248 (P (x4 : Int32).toNatClampNeg : Int32).toNatClampNeg : Int32) = (k.2.1 1248 (P (x : Int32).toNatClampNeg : Int32).toNatClampNeg)) (hb_30 : 0 ≤ k.2.1 1249 (P (x4 : Int32).toNatClampNeg : Int32).toNatClampNeg ∧ k.2.1 1249 (P (x4 : Int32).toNatClampNeg : Int32).toNatClampNeg < (u.1 9)) (hb_35 : 0 ≤ k.2.1 1249 (P (x : Int32).toNatClampNeg : Int32).toNatClampNeg ∧ k.2.1 1249 (P (x : Int32).toNatClampNeg : Int32).toNatClampNeg < (u.1 9)) (c82_36 : ¬ (k.2.1 1249 (P (x4 : Int32).toNatClampNeg : Int32).toNatClampNeg : Int32) = (k.2.1 1249 (P (x : Int32).toNatClampNeg : Int32).toNatClampNeg)) (b88_40 : ¬ (f_co (k) ((P (x4 : Int32).toNatClampNeg)))) : ((u.1 10).toInt - (x4 + 1).toInt).toNat < ((u.1 10).toInt - x4.toInt).toNat := by
  have qx : 0 ≤ x.toInt ∧ x.toInt < x4.toInt ∧ x4.toInt < (u.1 10).toInt ∧ (u.1 10).toInt ≤ 120 := (by clear h_m ht hm; (try simp only [g_m1, Int32.lt_iff_toInt_lt, Int32.le_iff_toInt_le, ← Int32.toInt_inj, Int32.reduceToInt] at *); omega)
  have cx := g_clamp x
  have c4 := g_clamp x4
  have e4 := (g_up (i := x4) (by omega) (by omega)).2
  have e5 := (g_up (i := x4) (by omega) (by omega)).1; clear h_m ht hm; (try simp only [g_m1, Int32.lt_iff_toInt_lt, Int32.le_iff_toInt_le, ← Int32.toInt_inj, Int32.reduceToInt] at *); omega
set_option maxRecDepth 100000 in
theorem g_X3_meetLater_k_v24 (u : qS) (x : Int32) (k : qS) (P : Nat → Int32) (S : Nat → Int32) (B : Nat → Int32) (Tm : mT) (hk : CT k P u) (hQ : qFD 10 S u) (hB : qFD 11 B u) (hx : 0 ≤ x ∧ x < u.1 10) (hfi : f_fi k S) (ht : f_co k (P x.toNatClampNeg)) (hm : m_R k B Tm (u.2.1 303) (u.2.1 304) (u.2.1 305)) (hz8 : 0 ≤ u.1 8 ∧ u.1 8 ≤ 20) (hz9 : 0 ≤ u.1 9 ∧ u.1 9 ≤ 8) (hz10 : 0 ≤ u.1 10 ∧ u.1 10 ≤ 120) (hz12 : 0 ≤ u.1 12 ∧ u.1 12 ≤ 16) : 0 ≤ x ∧ x < (u.1 10) := by
  first | omega | ((try simp only [g_m1, Int32.lt_iff_toInt_lt, Int32.le_iff_toInt_le, ← Int32.toInt_inj, Int32.reduceToInt] at *); omega) | ((try simp only [g_m1, Int32.lt_iff_toInt_lt, Int32.le_iff_toInt_le, ← Int32.toInt_inj, Int32.reduceToInt] at *); omega) | ((try simp only [g_m1, Int32.lt_iff_toInt_lt, Int32.le_iff_toInt_le, ← Int32.toInt_inj, Int32.toInt_add, Int32.toInt_sub, Int32.toInt_mul, Int32.toInt_neg, Int32.reduceToInt, g_bm, g_bm'] at *); omega) | (have qr1 := g_rng x; (try simp only [g_m1, Int32.lt_iff_toInt_lt, Int32.le_iff_toInt_le, ← Int32.toInt_inj, Int32.toInt_add, Int32.toInt_sub, Int32.toInt_mul, Int32.toInt_neg, Int32.reduceToInt, g_bm, g_bm'] at *); omega) | (simp only [g_m1, Int32.lt_iff_toInt_lt, Int32.le_iff_toInt_le, ← Int32.toInt_inj, Int32.toInt_add, Int32.toInt_sub, Int32.toInt_mul, Int32.toInt_neg, Int32.reduceToInt, g_bm, g_bm'] at *; simp at *; omega) | (simp_all; done)
set_option maxRecDepth 100000 in
theorem g_X3_meetLater_k_v25 (u : qS) (x : Int32) (k : qS) (P : Nat → Int32) (S : Nat → Int32) (B : Nat → Int32) (Tm : mT) (hk : CT k P u) (hQ : qFD 10 S u) (hB : qFD 11 B u) (hx : 0 ≤ x ∧ x < u.1 10) (hfi : f_fi k S) (ht : f_co k (P x.toNatClampNeg)) (hm : m_R k B Tm (u.2.1 303) (u.2.1 304) (u.2.1 305)) (hz8 : 0 ≤ u.1 8 ∧ u.1 8 ≤ 20) (hz9 : 0 ≤ u.1 9 ∧ u.1 9 ≤ 8) (hz10 : 0 ≤ u.1 10 ∧ u.1 10 ≤ 120) (hz12 : 0 ≤ u.1 12 ∧ u.1 12 ≤ 16) : vp_in (x) 120 := by
  refine g_in ?_ ?_ <;> ((try simp only [g_m1, Int32.lt_iff_toInt_lt, Int32.le_iff_toInt_le, ← Int32.toInt_inj, Int32.toInt_add, Int32.toInt_sub, Int32.toInt_mul, Int32.toInt_neg, Int32.reduceToInt, g_bm, g_bm'] at *); omega)
set_option maxRecDepth 100000 in
theorem g_X3_meetLater_k_v26 (u : qS) (x : Int32) (k : qS) (P : Nat → Int32) (S : Nat → Int32) (B : Nat → Int32) (Tm : mT) (hk : CT k P u) (hQ : qFD 10 S u) (hB : qFD 11 B u) (hx : 0 ≤ x ∧ x < u.1 10) (hfi : f_fi k S) (ht : f_co k (P x.toNatClampNeg)) (hm : m_R k B Tm (u.2.1 303) (u.2.1 304) (u.2.1 305)) (hz8 : 0 ≤ u.1 8 ∧ u.1 8 ≤ 20) (hz9 : 0 ≤ u.1 9 ∧ u.1 9 ≤ 8) (hz10 : 0 ≤ u.1 10 ∧ u.1 10 ≤ 120) (hz12 : 0 ≤ u.1 12 ∧ u.1 12 ≤ 16) : 0 ≤ x ∧ x < (u.1 10) := by
  first | omega | ((try simp only [g_m1, Int32.lt_iff_toInt_lt, Int32.le_iff_toInt_le, ← Int32.toInt_inj, Int32.reduceToInt] at *); omega) | ((try simp only [g_m1, Int32.lt_iff_toInt_lt, Int32.le_iff_toInt_le, ← Int32.toInt_inj, Int32.reduceToInt] at *); omega) | ((try simp only [g_m1, Int32.lt_iff_toInt_lt, Int32.le_iff_toInt_le, ← Int32.toInt_inj, Int32.toInt_add, Int32.toInt_sub, Int32.toInt_mul, Int32.toInt_neg, Int32.reduceToInt, g_bm, g_bm'] at *); omega) | (have qr1 := g_rng x; (try simp only [g_m1, Int32.lt_iff_toInt_lt, Int32.le_iff_toInt_le, ← Int32.toInt_inj, Int32.toInt_add, Int32.toInt_sub, Int32.toInt_mul, Int32.toInt_neg, Int32.reduceToInt, g_bm, g_bm'] at *); omega) | (simp only [g_m1, Int32.lt_iff_toInt_lt, Int32.le_iff_toInt_le, ← Int32.toInt_inj, Int32.toInt_add, Int32.toInt_sub, Int32.toInt_mul, Int32.toInt_neg, Int32.reduceToInt, g_bm, g_bm'] at *; simp at *; omega) | (simp_all; done)
set_option maxRecDepth 100000 in
theorem g_X3_meetLater_k_v27 (u : qS) (x : Int32) (k : qS) (P : Nat → Int32) (S : Nat → Int32) (B : Nat → Int32) (Tm : mT) (r_63 : Int32) (hk : CT k P u) (hQ : qFD 10 S u) (hB : qFD 11 B u) (hx : 0 ≤ x ∧ x < u.1 10) (hfi : f_fi k S) (ht : f_co k (P x.toNatClampNeg)) (hm : m_R k B Tm (u.2.1 303) (u.2.1 304) (u.2.1 305)) (hz8 : 0 ≤ u.1 8 ∧ u.1 8 ≤ 20) (hz9 : 0 ≤ u.1 9 ∧ u.1 9 ≤ 8) (hz10 : 0 ≤ u.1 10 ∧ u.1 10 ≤ 120) (hz12 : 0 ≤ u.1 12 ∧ u.1 12 ≤ 16) (hw_62 : r_63 = (k).2.1 1250 ((P (x : Int32).toNatClampNeg)).toNatClampNeg / 7) : x < (x + 1) ∧ (x + 1) ≤ u.1 10 := by
  have e := (g_up (i := x) (by clear ht hm; (try simp only [g_m1, Int32.lt_iff_toInt_lt, Int32.le_iff_toInt_le, ← Int32.toInt_inj, Int32.reduceToInt] at *); omega) (by clear ht hm; (try simp only [g_m1, Int32.lt_iff_toInt_lt, Int32.le_iff_toInt_le, ← Int32.toInt_inj, Int32.reduceToInt] at *); omega)).1; clear ht hm; (try simp only [g_m1, Int32.lt_iff_toInt_lt, Int32.le_iff_toInt_le, ← Int32.toInt_inj, Int32.reduceToInt] at *); omega
set_option maxRecDepth 100000 in
theorem g_X3_meetLater_k_v28 (u : qS) (x : Int32) (k : qS) (P : Nat → Int32) (S : Nat → Int32) (B : Nat → Int32) (Tm : mT) (r_63 : Int32) (hk : CT k P u) (hQ : qFD 10 S u) (hB : qFD 11 B u) (hx : 0 ≤ x ∧ x < u.1 10) (hfi : f_fi k S) (ht : f_co k (P x.toNatClampNeg)) (hm : m_R k B Tm (u.2.1 303) (u.2.1 304) (u.2.1 305)) (hz8 : 0 ≤ u.1 8 ∧ u.1 8 ≤ 20) (hz9 : 0 ≤ u.1 9 ∧ u.1 9 ≤ 8) (hz10 : 0 ≤ u.1 10 ∧ u.1 10 ≤ 120) (hz12 : 0 ≤ u.1 12 ∧ u.1 12 ≤ 16) (hw_62 : r_63 = (k).2.1 1250 ((P (x : Int32).toNatClampNeg)).toNatClampNeg / 7) : r_63 = k.2.1 1250 (P x.toNatClampNeg).toNatClampNeg / 7 := by
  first | rfl | assumption
set_option maxRecDepth 100000 in
theorem g_X3_meetLater_k_v29 (u : qS) (x : Int32) (k : qS) (P : Nat → Int32) (S : Nat → Int32) (B : Nat → Int32) (Tm : mT) (r_63 : Int32) (hk : CT k P u) (hQ : qFD 10 S u) (hB : qFD 11 B u) (hx : 0 ≤ x ∧ x < u.1 10) (hfi : f_fi k S) (ht : f_co k (P x.toNatClampNeg)) (hm : m_R k B Tm (u.2.1 303) (u.2.1 304) (u.2.1 305)) (hz8 : 0 ≤ u.1 8 ∧ u.1 8 ≤ 20) (hz9 : 0 ≤ u.1 9 ∧ u.1 9 ≤ 8) (hz10 : 0 ≤ u.1 10 ∧ u.1 10 ≤ 120) (hz12 : 0 ≤ u.1 12 ∧ u.1 12 ≤ 16) (hw_62 : r_63 = (k).2.1 1250 ((P (x : Int32).toNatClampNeg)).toNatClampNeg / 7) : m_R k B (fun W => Tm W + m_sg (m_h k P W x.toNatClampNeg) (x.toNatClampNeg + 1) ((x + 1).toNatClampNeg - (x.toNatClampNeg + 1))) ((u.2.1 303)) ((u.2.1 304)) ((u.2.1 305)) := by
  have e := (g_up (i := x) (by clear ht hm; (try simp only [g_m1, Int32.lt_iff_toInt_lt, Int32.le_iff_toInt_le, ← Int32.toInt_inj, Int32.reduceToInt] at *); omega) (by clear ht hm; (try simp only [g_m1, Int32.lt_iff_toInt_lt, Int32.le_iff_toInt_le, ← Int32.toInt_inj, Int32.reduceToInt] at *); omega)).2
  rw [e, Nat.sub_self]; exact hm.st
set_option maxHeartbeats 1000000 in
set_option maxRecDepth 100000 in
theorem g_X3_meetLater_k (l : Launch) (E : qE) (A : Nat → Prop) (u : qS) (x : Int32) (k : qS) (P : Nat → Int32) (S : Nat → Int32) (B : Nat → Int32) (Tm : mT) (hI : IC E u) (hk : CT k P u) (hQ : qFD 10 S u) (hB : qFD 11 B u) (hx : 0 ≤ x ∧ x < u.1 10) (hfi : f_fi k S) (ht : f_co k (P x.toNatClampNeg)) (hm : m_R k B Tm (u.2.1 303) (u.2.1 304) (u.2.1 305)) : Met l yX3_meetLater (uws yX3_meetLater cX3_meetLater 6 none) (qR 3 0 0) (qPc E A 0 u [.ref (E.2.2 399), .int x]) (qQv E A 0 (fun u1 => (qFc [] [303, 304, 305] [] [] u u1 ∧ IC E u1 ∧ u1.2.2.2.2 = u.2.2.2.2) ∧ (m_R k B (fun W => Tm W + m_sg (m_h k P W x.toNatClampNeg) (x.toNatClampNeg + 1) ((k.1 1247).toNatClampNeg - (x.toNatClampNeg + 1))) (u1.2.1 303) (u1.2.1 304) (u1.2.1 305)))) 0 0 A := by
  refine q_met (own := RX3) (f := 3) [.ref (E.2.2 399), .int x] (by decide) (Nat.le_of_ble_eq_true rfl) rfl ?_
  intro p0 e0 s0 m0 bl0 me0 cd0 ls hF hr hlocks hU hS hA hl
  have hl : lv_has ls 6 [(0, .ref (E.2.2 399)), (1, .int x)] := hl
  have hkd : u.2.2.2.2 = u.2.2.2.2 := rfl
  have hz8 : 0 ≤ u.1 8 ∧ u.1 8 ≤ 20 := hI.1.s8
  have hz9 : 0 ≤ u.1 9 ∧ u.1 9 ≤ 8 := hI.1.s9
  have hz10 : 0 ≤ u.1 10 ∧ u.1 10 ≤ 120 := hI.1.s10
  have hz12 : 0 ≤ u.1 12 ∧ u.1 12 ≤ 16 := hI.1.s12
  have hfr : qFc [] [303, 304, 305] [] [] u u := qFc.rf
  have main : ∀ n : Nat, (∀ (a2 : Nat) (x3 : Int32) (x4 : Int32) (uc : qS) (H : Heap) (locs : List Loc) (ls : Array Slot) (hfr : qFc [] [303, 304, 305] [] [] u uc) (hI : IC E uc) (hkd : uc.2.2.2.2 = u.2.2.2.2) (ha2 : qRv uc a2) (hkn2 : qKn k uc a2 (P (x : Int32).toNatClampNeg)) (h_k : x < x4 ∧ x4 ≤ u.1 10) (h_w : x3 = k.2.1 1250 (P x.toNatClampNeg).toNatClampNeg / 7) (h_m : m_R k B (fun W => Tm W + m_sg (m_h k P W x.toNatClampNeg) (x.toNatClampNeg + 1) (x4.toNatClampNeg - (x.toNatClampNeg + 1))) (uc.2.1 303) (uc.2.1 304) (uc.2.1 305)), ((u.1 10).toInt - x4.toInt).toNat < n → qH E A 0 uc s0 H → va_S A s0.heap H locs → lv_has ls 6 [(0, .ref (E.2.2 399)), (1, .int x), (2, .ref a2), (3, .int x3), (4, .int x4)] → W p0 l e0 (qR 3 0 0) s0 m0 ([.ref (E.2.2 399), .int x] : List Value).toArray bl0 me0 cd0 H locs 0 0 (MQ bl0 (qQv E A 0 (fun u1 => (qFc [] [303, 304, 305] [] [] u u1 ∧ IC E u1 ∧ u1.2.2.2.2 = u.2.2.2.2) ∧ (m_R k B (fun W => Tm W + m_sg (m_h k P W x.toNatClampNeg) (x.toNatClampNeg + 1) ((k.1 1247).toNatClampNeg - (x.toNatClampNeg + 1))) (u1.2.1 303) (u1.2.1 304) (u1.2.1 305)))) ([.ref (E.2.2 399), .int x] : List Value).toArray s0 0 0 A) (F0 m0 20 ls [])) := by
    clear hI hfr hkd
    intro n
    induction n with
    | zero => exact fun _ _ _ _ _ _ _ _ _ _ _ _ _ _ _ hmu => absurd hmu (Nat.not_lt_zero _)
    | succ n ih =>
      intro a2 x3 x4 uc H locs ls hfr hI hkd ha2 hkn2 h_k h_w h_m hmu hU hS hl
      refine lv_iload hF.1 hF.2.1 dX3_meetLater_20 (lv_at hl 4 rfl) ?_
      refine lv_aload_n hF.1 hF.2.1 dX3_meetLater_22 rfl (lv_at hl 0 rfl) ?_
      refine q_get (v := .ref (E.2.2 99)) hF hU dX3_meetLater_23 6 3 0 300 399 rfl rfl rfl rfl inX3 (by decide) (by decide) w_377 rfl rfl ?_
      refine q_get (v := .int (u.1 10)) hF hU dX3_meetLater_26 1 0 10 10 99 rfl rfl rfl rfl inX0 (by decide) (by decide) w_170 rfl (congrArg Value.int (hfr.1 10 (by decide))) ?_
      refine lv_icmp_ge (tgt := 114) hF.1 hF.2.1 dX3_meetLater_29 (by decide) (fun c29_1 => ?_) (fun c29_1 => ?_)
      · exact q_vret hF hr hlocks hU hS dX3_meetLater_114 ⟨⟨hfr, hI, hkd⟩, (g_X3_meetLater_k_v0 u x k P S B Tm x3 x4 uc hk hQ hB hx hfi ht hm hz8 hz9 hz10 hz12 h_k h_w h_m c29_1)⟩
      · refine lv_aload_n hF.1 hF.2.1 dX3_meetLater_32 rfl (lv_at hl 0 rfl) ?_
        refine q_get (v := .ref (E.2.2 99)) hF hU dX3_meetLater_33 6 3 0 300 399 rfl rfl rfl rfl inX3 (by decide) (by decide) w_377 rfl rfl ?_
        refine q_get (v := .ref (E.2.2 3)) hF hU dX3_meetLater_36 1 0 3 3 99 rfl rfl rfl rfl inX0 (by decide) (by decide) w_155 rfl rfl ?_
        refine lv_iload hF.1 hF.2.1 dX3_meetLater_39 (lv_at hl 4 rfl) ?_
        obtain ⟨a_2, ha_2_3_e, ha_2_3⟩ := hI.r3 x4 (by rw [(hfr.1 10 (by decide))]; exact (g_X3_meetLater_k_v1 u x k P S B Tm x3 x4 uc hk hQ hB hx hfi ht hm hz8 hz9 hz10 hz12 h_k h_w h_m c29_1))
        refine q_aald (v := .ref a_2) hF hU dX3_meetLater_41 3 3 6 rfl rfl (by decide) rfl (g_X3_meetLater_k_v2 u x k P S B Tm x3 x4 uc hk hQ hB hx hfi ht hm hz8 hz9 hz10 hz12 h_k h_w h_m c29_1) (by rw [ha_2_3_e]; rfl) ?_
        have hK_4 : qKn k uc a_2 (P (x4 : Int32).toNatClampNeg) := (hk.fr hfr (by decide) (by decide)).pa (by rw [(hfr.1 10 (by decide))]; exact (g_X3_meetLater_k_v3 u x k P S B Tm x3 x4 uc hk hQ hB hx hfi ht hm hz8 hz9 hz10 hz12 h_k h_w h_m c29_1)) ha_2_3_e
        have hM9 := g_X10_inWeek_k l E A uc a_2 k (P (x4 : Int32).toNatClampNeg) hI ((ha_2_3).rf) hK_4
        obtain ⟨k_5, fs_6, hd_7⟩ := id ((ha_2_3).rf)
        have hR9 := q_runVd (l := l) (e := e0) (below := bl0) (meth := me0) (R := qR 3 0 0) (cells := 0) (slots := 0) (st0 := [.ref a_2]) (rest := []) hF hU hS hA 0 k_5 10 hd_7 rfl hM9 w_1000 w_972 w_973 w_110 w_974 (by decide +kernel) ⟨Nat.le_of_ble_eq_true rfl, Nat.le_of_ble_eq_true rfl⟩ dX3_meetLater_42 rfl hl.1 rfl (Nat.le_of_ble_eq_true rfl) ⟨Nat.le_of_ble_eq_true rfl, Nat.le_of_ble_eq_true rfl⟩
        refine q_calli hR9 hU.2.2.2 hS (fun r_10 u_8 H locs hw_9 hU hS => ?_)
        obtain ⟨hw_9_e, hw_9⟩ := hw_9
        rw [hw_9_e] at hU
        have hw_9 : r_10 = (k).2.1 1250 ((P (x4 : Int32).toNatClampNeg)).toNatClampNeg / 7 := hw_9
        refine lv_iload_n hF.1 hF.2.1 dX3_meetLater_45 rfl (lv_at hl 3 rfl) ?_
        refine lv_icmp_ne (tgt := 114) hF.1 hF.2.1 dX3_meetLater_46 (by decide) (fun c46_11 => ?_) (fun c46_11 => ?_)
        · exact q_vret hF hr hlocks hU hS dX3_meetLater_114 ⟨⟨hfr, hI, hkd⟩, (g_X3_meetLater_k_v4 u x k P S B Tm x3 x4 uc r_10 hk hQ hB hx hfi ht hm hz8 hz9 hz10 hz12 h_k h_w h_m c29_1 hw_9 c46_11)⟩
        · refine lv_aload_n hF.1 hF.2.1 dX3_meetLater_49 rfl (lv_at hl 0 rfl) ?_
          refine q_get (v := .ref (E.2.2 99)) hF hU dX3_meetLater_50 6 3 0 300 399 rfl rfl rfl rfl inX3 (by decide) (by decide) w_377 rfl rfl ?_
          refine q_get (v := .ref (E.2.2 3)) hF hU dX3_meetLater_53 1 0 3 3 99 rfl rfl rfl rfl inX0 (by decide) (by decide) w_155 rfl rfl ?_
          refine lv_iload hF.1 hF.2.1 dX3_meetLater_56 (lv_at hl 4 rfl) ?_
          obtain ⟨a_12, ha_12_13_e, ha_12_13⟩ := hI.r3 x4 (by rw [(hfr.1 10 (by decide))]; exact (g_X3_meetLater_k_v5 u x k P S B Tm x3 x4 uc r_10 hk hQ hB hx hfi ht hm hz8 hz9 hz10 hz12 h_k h_w h_m c29_1 hw_9 c46_11))
          refine q_aald (v := .ref a_12) hF hU dX3_meetLater_58 3 3 6 rfl rfl (by decide) rfl (g_X3_meetLater_k_v6 u x k P S B Tm x3 x4 uc r_10 hk hQ hB hx hfi ht hm hz8 hz9 hz10 hz12 h_k h_w h_m c29_1 hw_9 c46_11) (by rw [ha_12_13_e]; rfl) ?_
          have hK_14 : qKn k uc a_12 (P (x4 : Int32).toNatClampNeg) := (hk.fr hfr (by decide) (by decide)).pa (by rw [(hfr.1 10 (by decide))]; exact (g_X3_meetLater_k_v7 u x k P S B Tm x3 x4 uc r_10 hk hQ hB hx hfi ht hm hz8 hz9 hz10 hz12 h_k h_w h_m c29_1 hw_9 c46_11)) ha_12_13_e
          refine lv_astore (lv' := [(5, .ref a_12), (0, .ref (E.2.2 399)), (1, .int x), (2, .ref a2), (3, .int x3), (4, .int x4)]) hF.1 hF.2.1 dX3_meetLater_59 hl (by decide) rfl (fun ls hl => ?_)
          refine lv_aload hF.1 hF.2.1 dX3_meetLater_61 (lv_at hl 0 rfl) ?_
          obtain ⟨k_15, fs_16, hd_17, hv_18⟩ := hK_14.at 2 (by decide) (by decide)
          refine q_getd (v := .int (k.2.1 1248 (P (x4 : Int32).toNatClampNeg : Int32).toNatClampNeg)) hF hU dX3_meetLater_63 k_15 10 2 hd_17 rfl inX10 (by decide) w_591 rfl hv_18 ?_
          have hb_19 : 0 ≤ k.2.1 1248 (P (x4 : Int32).toNatClampNeg : Int32).toNatClampNeg ∧ k.2.1 1248 (P (x4 : Int32).toNatClampNeg : Int32).toNatClampNeg < (u.1 8) := (by have h9 := ((hk.fr hfr (by decide) (by decide)).b2 hK_14).1; rw [(hfr.1 8 (by decide))] at h9; exact h9)
          refine lv_aload_n hF.1 hF.2.1 dX3_meetLater_66 rfl (lv_at hl 3 rfl) ?_
          obtain ⟨k_20, fs_21, hd_22, hv_23⟩ := hkn2.at 2 (by decide) (by decide)
          refine q_getd (v := .int (k.2.1 1248 (P (x : Int32).toNatClampNeg : Int32).toNatClampNeg)) hF hU dX3_meetLater_67 k_20 10 2 hd_22 rfl inX10 (by decide) w_591 rfl hv_23 ?_
          have hb_24 : 0 ≤ k.2.1 1248 (P (x : Int32).toNatClampNeg : Int32).toNatClampNeg ∧ k.2.1 1248 (P (x : Int32).toNatClampNeg : Int32).toNatClampNeg < (u.1 8) := (by have h9 := ((hk.fr hfr (by decide) (by decide)).b2 hkn2).1; rw [(hfr.1 8 (by decide))] at h9; exact h9)
          refine lv_icmp_ne (tgt := 108) hF.1 hF.2.1 dX3_meetLater_70 (by decide) (fun c70_25 => ?_) (fun c70_25 => ?_)
          · refine lv_iinc (v := x4 + 1) (lv' := [(4, .int (x4 + 1)), (5, .ref a_12), (0, .ref (E.2.2 399)), (1, .int x), (2, .ref a2), (3, .int x3)]) hF.1 hF.2.1 dX3_meetLater_108 hl (k := 5) rfl rfl (by decide) rfl (fun ls hl => ?_)
            refine lv_goto (tgt := 20) hF.1 hF.2.1 dX3_meetLater_111 (by decide) ?_
            exact ih a2 x3 (x4 + 1) uc _ _ _ hfr hI hkd ha2 hkn2 (g_X3_meetLater_k_v8 u x k P S B Tm x3 x4 uc r_10 hk hQ hB hx hfi ht hm hz8 hz9 hz10 hz12 h_k h_w h_m c29_1 hw_9 c46_11 hb_19 hb_24 c70_25) (g_X3_meetLater_k_v9 u x k P S B Tm x3 x4 uc r_10 hk hQ hB hx hfi ht hm hz8 hz9 hz10 hz12 h_k h_w h_m c29_1 hw_9 c46_11 hb_19 hb_24 c70_25) (g_X3_meetLater_k_v10 u x k P S B Tm x3 x4 uc r_10 hk hQ hB hx hfi ht hm hz8 hz9 hz10 hz12 h_k h_w h_m c29_1 hw_9 c46_11 hb_19 hb_24 c70_25) (Nat.lt_of_lt_of_le (g_X3_meetLater_k_v11 u x k P S B Tm x3 x4 uc r_10 hk hQ hB hx hfi ht hm hz8 hz9 hz10 hz12 h_k h_w h_m c29_1 hw_9 c46_11 hb_19 hb_24 c70_25) (Nat.lt_succ_iff.mp hmu)) hU hS (lv_sub hl [2, 3, 4, 5, 0] rfl)
          · refine lv_aload hF.1 hF.2.1 dX3_meetLater_73 (lv_at hl 0 rfl) ?_
            obtain ⟨k_26, fs_27, hd_28, hv_29⟩ := hK_14.at 3 (by decide) (by decide)
            refine q_getd (v := .int (k.2.1 1249 (P (x4 : Int32).toNatClampNeg : Int32).toNatClampNeg)) hF hU dX3_meetLater_75 k_26 10 3 hd_28 rfl inX10 (by decide) w_597 rfl hv_29 ?_
            have hb_30 : 0 ≤ k.2.1 1249 (P (x4 : Int32).toNatClampNeg : Int32).toNatClampNeg ∧ k.2.1 1249 (P (x4 : Int32).toNatClampNeg : Int32).toNatClampNeg < (u.1 9) := (by have h9 := ((hk.fr hfr (by decide) (by decide)).b2 hK_14).2; rw [(hfr.1 9 (by decide))] at h9; exact h9)
            refine lv_aload_n hF.1 hF.2.1 dX3_meetLater_78 rfl (lv_at hl 3 rfl) ?_
            obtain ⟨k_31, fs_32, hd_33, hv_34⟩ := hkn2.at 3 (by decide) (by decide)
            refine q_getd (v := .int (k.2.1 1249 (P (x : Int32).toNatClampNeg : Int32).toNatClampNeg)) hF hU dX3_meetLater_79 k_31 10 3 hd_33 rfl inX10 (by decide) w_597 rfl hv_34 ?_
            have hb_35 : 0 ≤ k.2.1 1249 (P (x : Int32).toNatClampNeg : Int32).toNatClampNeg ∧ k.2.1 1249 (P (x : Int32).toNatClampNeg : Int32).toNatClampNeg < (u.1 9) := (by have h9 := ((hk.fr hfr (by decide) (by decide)).b2 hkn2).2; rw [(hfr.1 9 (by decide))] at h9; exact h9)
            refine lv_icmp_eq (tgt := 108) hF.1 hF.2.1 dX3_meetLater_82 (by decide) (fun c82_36 => ?_) (fun c82_36 => ?_)
            · refine lv_iinc (v := x4 + 1) (lv' := [(4, .int (x4 + 1)), (5, .ref a_12), (0, .ref (E.2.2 399)), (1, .int x), (2, .ref a2), (3, .int x3)]) hF.1 hF.2.1 dX3_meetLater_108 hl (k := 5) rfl rfl (by decide) rfl (fun ls hl => ?_)
              refine lv_goto (tgt := 20) hF.1 hF.2.1 dX3_meetLater_111 (by decide) ?_
              exact ih a2 x3 (x4 + 1) uc _ _ _ hfr hI hkd ha2 hkn2 (g_X3_meetLater_k_v12 u x k P S B Tm x3 x4 uc r_10 hk hQ hB hx hfi ht hm hz8 hz9 hz10 hz12 h_k h_w h_m c29_1 hw_9 c46_11 hb_19 hb_24 c70_25 hb_30 hb_35 c82_36) (g_X3_meetLater_k_v13 u x k P S B Tm x3 x4 uc r_10 hk hQ hB hx hfi ht hm hz8 hz9 hz10 hz12 h_k h_w h_m c29_1 hw_9 c46_11 hb_19 hb_24 c70_25 hb_30 hb_35 c82_36) (g_X3_meetLater_k_v14 u x k P S B Tm x3 x4 uc r_10 hk hQ hB hx hfi ht hm hz8 hz9 hz10 hz12 h_k h_w h_m c29_1 hw_9 c46_11 hb_19 hb_24 c70_25 hb_30 hb_35 c82_36) (Nat.lt_of_lt_of_le (g_X3_meetLater_k_v15 u x k P S B Tm x3 x4 uc r_10 hk hQ hB hx hfi ht hm hz8 hz9 hz10 hz12 h_k h_w h_m c29_1 hw_9 c46_11 hb_19 hb_24 c70_25 hb_30 hb_35 c82_36) (Nat.lt_succ_iff.mp hmu)) hU hS (lv_sub hl [2, 3, 4, 5, 0] rfl)
            · refine lv_aload_n hF.1 hF.2.1 dX3_meetLater_85 rfl (lv_at hl 1 rfl) ?_
              refine lv_aload hF.1 hF.2.1 dX3_meetLater_86 (lv_at hl 0 rfl) ?_
              have hM9 := g_X3_isTaken_k l E A uc a_12 k P (P (x4 : Int32).toNatClampNeg) S hI ((ha_12_13).rf) (hk.fr hfr (by decide) (by decide)) hK_14 (hQ.fr hfr (by decide) (by decide) (by decide) (by decide) (by decide)) hfi
              have hR9 := q_runV (l := l) (e := e0) (below := bl0) (meth := me0) (R := qR 3 0 0) (cells := 0) (slots := 0) (st0 := [.ref a_12, .ref (E.2.2 399)]) (rest := []) hF hU hS hA 1 6 3 399 rfl rfl rfl hM9 w_990 w_992 w_32 w_105 w_993 (by decide +kernel) ⟨Nat.le_of_ble_eq_true rfl, Nat.le_of_ble_eq_true rfl⟩ dX3_meetLater_88 rfl hl.1 rfl (Nat.le_of_ble_eq_true rfl) ⟨Nat.le_of_ble_eq_true rfl, Nat.le_of_ble_eq_true rfl⟩
              refine q_calli hR9 hU.2.2.2 hS (fun r_39 u_37 H locs hw_38 hU hS => ?_)
              obtain ⟨hw_38_e, hw_38⟩ := hw_38
              rw [hw_38_e] at hU
              have hw_38 : (r_39 = 1 ∧ (f_co (k) ((P (x4 : Int32).toNatClampNeg)))) ∨ (r_39 = 0 ∧ (¬ (f_co (k) ((P (x4 : Int32).toNatClampNeg))))) := hw_38
              rcases hw_38 with ⟨rfl, b88_40⟩ | ⟨rfl, b88_40⟩
              · refine lv_if_eq (tgt := 108) hF.1 hF.2.1 dX3_meetLater_91 (by decide) (fun h9 => absurd h9 (by decide)) (fun _ => ?_)
                refine lv_aload_n hF.1 hF.2.1 dX3_meetLater_94 rfl (lv_at hl 1 rfl) ?_
                refine lv_aload_n hF.1 hF.2.1 dX3_meetLater_95 rfl (lv_at hl 3 rfl) ?_
                refine lv_aload hF.1 hF.2.1 dX3_meetLater_96 (lv_at hl 0 rfl) ?_
                have hM9 := g_X3_meet_k l E A uc a2 a_12 k P (P (x : Int32).toNatClampNeg) (P (x4 : Int32).toNatClampNeg) B hI ((ha2).rf) ((ha_12_13).rf) (hk.fr hfr (by decide) (by decide)) hkn2 hK_14 (hB.fr hfr (by decide) (by decide) (by decide) (by decide) (by decide))
                have hR9 := q_runV (l := l) (e := e0) (below := bl0) (meth := me0) (R := qR 3 0 0) (cells := 0) (slots := 0) (st0 := [.ref a_12, .ref a2, .ref (E.2.2 399)]) (rest := []) hF hU hS hA 2 6 3 399 rfl rfl rfl hM9 w_1001 w_1003 w_34 w_105 w_1004 (by decide +kernel) ⟨Nat.le_of_ble_eq_true rfl, Nat.le_of_ble_eq_true rfl⟩ dX3_meetLater_98 rfl hl.1 rfl (Nat.le_of_ble_eq_true rfl) ⟨Nat.le_of_ble_eq_true rfl, Nat.le_of_ble_eq_true rfl⟩
                refine q_callv hR9 hU.2.2.2 hS (fun u_41 H locs hw_42 hU hS => ?_)
                obtain ⟨⟨hw_42_f, hI, hw_42_d⟩, hw_42⟩ := hw_42
                have hfo := hfr
                have hfr : qFc [] [303, 304, 305] [] [] u u_41 := hfr.trans (hw_42_f.mono (by decide) (by decide) (by decide) (by decide))
                have hr_44 : qRv u_41 a_12 := hw_42_f.v _ ha_12_13
                have hK_45 : qKn k u_41 a_12 (P (x4 : Int32).toNatClampNeg) := hK_14.fr hw_42_f (by decide) (by decide) (by decide) (by decide)
                have hr_46 : qRv u_41 a2 := hw_42_f.v _ ha2
                have hK_47 : qKn k u_41 a2 (P (x : Int32).toNatClampNeg) := hkn2.fr hw_42_f (by decide) (by decide) (by decide) (by decide)
                have hkd : u_41.2.2.2.2 = u.2.2.2.2 := hw_42_d.trans hkd
                have hw_42 : m_one (k) (B) ((P (x : Int32).toNatClampNeg)) ((P (x4 : Int32).toNatClampNeg)) ((uc.2.1 303)) ((uc.2.1 304)) ((uc.2.1 305)) (u_41.2.1 303) (u_41.2.1 304) (u_41.2.1 305) := hw_42
                refine lv_aload_n hF.1 hF.2.1 dX3_meetLater_101 rfl (lv_at hl 1 rfl) ?_
                refine lv_aload hF.1 hF.2.1 dX3_meetLater_102 (lv_at hl 0 rfl) ?_
                refine lv_aload_n hF.1 hF.2.1 dX3_meetLater_104 rfl (lv_at hl 3 rfl) ?_
                have hM9 := g_X3_meet_k l E A u_41 a_12 a2 k P (P (x4 : Int32).toNatClampNeg) (P (x : Int32).toNatClampNeg) B hI ((hr_44).rf) ((hr_46).rf) (hk.fr hfr (by decide) (by decide)) hK_45 hK_47 (hB.fr hfr (by decide) (by decide) (by decide) (by decide) (by decide))
                have hR9 := q_runV (l := l) (e := e0) (below := bl0) (meth := me0) (R := qR 3 0 0) (cells := 0) (slots := 0) (st0 := [.ref a2, .ref a_12, .ref (E.2.2 399)]) (rest := []) hF hU hS hA 2 6 3 399 rfl rfl rfl hM9 w_1001 w_1003 w_34 w_105 w_1004 (by decide +kernel) ⟨Nat.le_of_ble_eq_true rfl, Nat.le_of_ble_eq_true rfl⟩ dX3_meetLater_105 rfl hl.1 rfl (Nat.le_of_ble_eq_true rfl) ⟨Nat.le_of_ble_eq_true rfl, Nat.le_of_ble_eq_true rfl⟩
                refine q_callv hR9 hU.2.2.2 hS (fun u_48 H locs hw_49 hU hS => ?_)
                obtain ⟨⟨hw_49_f, hI, hw_49_d⟩, hw_49⟩ := hw_49
                have hfo := hfr
                have hfr : qFc [] [303, 304, 305] [] [] u u_48 := hfr.trans (hw_49_f.mono (by decide) (by decide) (by decide) (by decide))
                have hr_51 : qRv u_48 a_12 := hw_49_f.v _ hr_44
                have hK_52 : qKn k u_48 a_12 (P (x4 : Int32).toNatClampNeg) := hK_45.fr hw_49_f (by decide) (by decide) (by decide) (by decide)
                have hr_53 : qRv u_48 a2 := hw_49_f.v _ hr_46
                have hK_54 : qKn k u_48 a2 (P (x : Int32).toNatClampNeg) := hK_47.fr hw_49_f (by decide) (by decide) (by decide) (by decide)
                have hkd : u_48.2.2.2.2 = u.2.2.2.2 := hw_49_d.trans hkd
                have hw_49 : m_one (k) (B) ((P (x4 : Int32).toNatClampNeg)) ((P (x : Int32).toNatClampNeg)) ((u_41.2.1 303)) ((u_41.2.1 304)) ((u_41.2.1 305)) (u_48.2.1 303) (u_48.2.1 304) (u_48.2.1 305) := hw_49
                refine lv_iinc (v := x4 + 1) (lv' := [(4, .int (x4 + 1)), (5, .ref a_12), (0, .ref (E.2.2 399)), (1, .int x), (2, .ref a2), (3, .int x3)]) hF.1 hF.2.1 dX3_meetLater_108 hl (k := 5) rfl rfl (by decide) rfl (fun ls hl => ?_)
                refine lv_goto (tgt := 20) hF.1 hF.2.1 dX3_meetLater_111 (by decide) ?_
                exact ih a2 x3 (x4 + 1) u_48 _ _ _ hfr hI hkd hr_53 hK_54 (g_X3_meetLater_k_v16 u x k P S B Tm x3 x4 uc r_10 u_41 u_48 hk hQ hB hx hfi ht hm hz8 hz9 hz10 hz12 h_k h_w h_m c29_1 hw_9 c46_11 hb_19 hb_24 c70_25 hb_30 hb_35 c82_36 b88_40 hw_42 hw_49) (g_X3_meetLater_k_v17 u x k P S B Tm x3 x4 uc r_10 u_41 u_48 hk hQ hB hx hfi ht hm hz8 hz9 hz10 hz12 h_k h_w h_m c29_1 hw_9 c46_11 hb_19 hb_24 c70_25 hb_30 hb_35 c82_36 b88_40 hw_42 hw_49) (g_X3_meetLater_k_v18 u x k P S B Tm x3 x4 uc r_10 u_41 u_48 hk hQ hB hx hfi ht hm hz8 hz9 hz10 hz12 h_k h_w h_m c29_1 hw_9 c46_11 hb_19 hb_24 c70_25 hb_30 hb_35 c82_36 b88_40 hw_42 hw_49) (Nat.lt_of_lt_of_le (g_X3_meetLater_k_v19 u x k P S B Tm x3 x4 uc r_10 u_41 u_48 hk hQ hB hx hfi ht hm hz8 hz9 hz10 hz12 h_k h_w h_m c29_1 hw_9 c46_11 hb_19 hb_24 c70_25 hb_30 hb_35 c82_36 b88_40 hw_42 hw_49) (Nat.lt_succ_iff.mp hmu)) hU hS (lv_sub hl [2, 3, 4, 5, 0] rfl)
              · refine lv_if_eq (tgt := 108) hF.1 hF.2.1 dX3_meetLater_91 (by decide) (fun _ => ?_) (fun h9 => absurd (by decide) h9)
                refine lv_iinc (v := x4 + 1) (lv' := [(4, .int (x4 + 1)), (5, .ref a_12), (0, .ref (E.2.2 399)), (1, .int x), (2, .ref a2), (3, .int x3)]) hF.1 hF.2.1 dX3_meetLater_108 hl (k := 5) rfl rfl (by decide) rfl (fun ls hl => ?_)
                refine lv_goto (tgt := 20) hF.1 hF.2.1 dX3_meetLater_111 (by decide) ?_
                exact ih a2 x3 (x4 + 1) uc _ _ _ hfr hI hkd ha2 hkn2 (g_X3_meetLater_k_v20 u x k P S B Tm x3 x4 uc r_10 hk hQ hB hx hfi ht hm hz8 hz9 hz10 hz12 h_k h_w h_m c29_1 hw_9 c46_11 hb_19 hb_24 c70_25 hb_30 hb_35 c82_36 b88_40) (g_X3_meetLater_k_v21 u x k P S B Tm x3 x4 uc r_10 hk hQ hB hx hfi ht hm hz8 hz9 hz10 hz12 h_k h_w h_m c29_1 hw_9 c46_11 hb_19 hb_24 c70_25 hb_30 hb_35 c82_36 b88_40) (g_X3_meetLater_k_v22 u x k P S B Tm x3 x4 uc r_10 hk hQ hB hx hfi ht hm hz8 hz9 hz10 hz12 h_k h_w h_m c29_1 hw_9 c46_11 hb_19 hb_24 c70_25 hb_30 hb_35 c82_36 b88_40) (Nat.lt_of_lt_of_le (g_X3_meetLater_k_v23 u x k P S B Tm x3 x4 uc r_10 hk hQ hB hx hfi ht hm hz8 hz9 hz10 hz12 h_k h_w h_m c29_1 hw_9 c46_11 hb_19 hb_24 c70_25 hb_30 hb_35 c82_36 b88_40) (Nat.lt_succ_iff.mp hmu)) hU hS (lv_sub hl [2, 3, 4, 5, 0] rfl)
  refine lv_aload_n hF.1 hF.2.1 dX3_meetLater_0 rfl (lv_at hl 0 rfl) ?_
  refine q_get (v := .ref (E.2.2 99)) hF hU dX3_meetLater_1 6 3 0 300 399 rfl rfl rfl rfl inX3 (by decide) (by decide) w_377 rfl rfl ?_
  refine q_get (v := .ref (E.2.2 3)) hF hU dX3_meetLater_4 1 0 3 3 99 rfl rfl rfl rfl inX0 (by decide) (by decide) w_155 rfl rfl ?_
  refine lv_iload_n hF.1 hF.2.1 dX3_meetLater_7 rfl (lv_at hl 1 rfl) ?_
  obtain ⟨a_55, ha_55_56_e, ha_55_56⟩ := hI.r3 x (g_X3_meetLater_k_v24 u x k P S B Tm hk hQ hB hx hfi ht hm hz8 hz9 hz10 hz12)
  refine q_aald (v := .ref a_55) hF hU dX3_meetLater_8 3 3 6 rfl rfl (by decide) rfl (g_X3_meetLater_k_v25 u x k P S B Tm hk hQ hB hx hfi ht hm hz8 hz9 hz10 hz12) (by rw [ha_55_56_e]; rfl) ?_
  have hK_57 : qKn k u a_55 (P (x : Int32).toNatClampNeg) := hk.pa (g_X3_meetLater_k_v26 u x k P S B Tm hk hQ hB hx hfi ht hm hz8 hz9 hz10 hz12) ha_55_56_e
  refine lv_astore_n (lv' := [(2, .ref a_55), (0, .ref (E.2.2 399)), (1, .int x)]) hF.1 hF.2.1 dX3_meetLater_9 rfl hl (by decide) rfl (fun ls hl => ?_)
  refine lv_aload_n hF.1 hF.2.1 dX3_meetLater_10 rfl (lv_at hl 0 rfl) ?_
  have hM9 := g_X10_inWeek_k l E A u a_55 k (P (x : Int32).toNatClampNeg) hI ((ha_55_56).rf) hK_57
  obtain ⟨k_58, fs_59, hd_60⟩ := id ((ha_55_56).rf)
  have hR9 := q_runVd (l := l) (e := e0) (below := bl0) (meth := me0) (R := qR 3 0 0) (cells := 0) (slots := 0) (st0 := [.ref a_55]) (rest := []) hF hU hS hA 0 k_58 10 hd_60 rfl hM9 w_1000 w_972 w_973 w_110 w_974 (by decide +kernel) ⟨Nat.le_of_ble_eq_true rfl, Nat.le_of_ble_eq_true rfl⟩ dX3_meetLater_11 rfl hl.1 rfl (Nat.le_of_ble_eq_true rfl) ⟨Nat.le_of_ble_eq_true rfl, Nat.le_of_ble_eq_true rfl⟩
  refine q_calli hR9 hU.2.2.2 hS (fun r_63 u_61 H locs hw_62 hU hS => ?_)
  obtain ⟨hw_62_e, hw_62⟩ := hw_62
  rw [hw_62_e] at hU
  have hw_62 : r_63 = (k).2.1 1250 ((P (x : Int32).toNatClampNeg)).toNatClampNeg / 7 := hw_62
  refine lv_istore_n (lv' := [(3, .int r_63), (2, .ref a_55), (0, .ref (E.2.2 399)), (1, .int x)]) hF.1 hF.2.1 dX3_meetLater_14 rfl hl (by decide) rfl (fun ls hl => ?_)
  refine lv_iload_n hF.1 hF.2.1 dX3_meetLater_15 rfl (lv_at hl 3 rfl) ?_
  refine lv_iconst (v := 1) hF.1 hF.2.1 dX3_meetLater_16 (by decide) ?_
  refine lv_iadd hF.1 hF.2.1 dX3_meetLater_17 ?_
  refine lv_istore (lv' := [(4, .int (x + 1)), (3, .int r_63), (2, .ref a_55), (0, .ref (E.2.2 399)), (1, .int x)]) hF.1 hF.2.1 dX3_meetLater_18 hl (by decide) rfl (fun ls hl => ?_)
  exact (main _) a_55 r_63 (x + 1) u _ _ _ hfr hI hkd ha_55_56 hK_57 (g_X3_meetLater_k_v27 u x k P S B Tm r_63 hk hQ hB hx hfi ht hm hz8 hz9 hz10 hz12 hw_62) (g_X3_meetLater_k_v28 u x k P S B Tm r_63 hk hQ hB hx hfi ht hm hz8 hz9 hz10 hz12 hw_62) (g_X3_meetLater_k_v29 u x k P S B Tm r_63 hk hQ hB hx hfi ht hm hz8 hz9 hz10 hz12 hw_62) (Nat.lt_succ_self _) hU hS (lv_sub hl [3, 4, 2, 1, 0] rfl)
set_option maxRecDepth 100000 in
theorem g_X3_refresh_k_v0 (u : qS) (k : qS) (P : Nat → Int32) (Sc : Nat → Int32) (Bc : Nat → Int32) (x1 : Int32) (uc : qS) (hk : CT k P u) (hca : t_ca k u) (hz8 : 0 ≤ u.1 8 ∧ u.1 8 ≤ 20) (hz9 : 0 ≤ u.1 9 ∧ u.1 9 ≤ 8) (hz10 : 0 ≤ u.1 10 ∧ u.1 10 ≤ 120) (hz12 : 0 ≤ u.1 12 ∧ u.1 12 ≤ 16) (h_k : 0 ≤ x1 ∧ x1 ≤ u.1 10) (h_S : qFD 10 Sc uc) (h_B : qFD 11 Bc uc) (h_f : f_fi k Sc) (h_3 : uc.1 311 = u.1 18) (h_9 : uc.1 909 = u.1 18) (h_6 : uc.1 609 = u.1 18) (h_m : m_R k Bc (fun W => m_tr (m_h k P W) (k.1 1247).toNatClampNeg x1.toNatClampNeg) (uc.2.1 303) (uc.2.1 304) (uc.2.1 305)) (c74_1 : (u.1 10) ≤ (x1 : Int32)) : m_R k Bc (f_M k) (uc.2.1 303) (uc.2.1 304) (uc.2.1 305) := by
  have e : x1 = u.1 10 := Int32.toInt_inj.mp (by clear h_m h_S h_B h_f; (try simp only [g_m1, Int32.lt_iff_toInt_lt, Int32.le_iff_toInt_le, ← Int32.toInt_inj, Int32.reduceToInt] at *); omega)
  rw [e, hk.1.1] at h_m; exact h_m.fin rfl hk.2.2.2.2.1
set_option maxRecDepth 100000 in
theorem g_X3_refresh_k_v1 (u : qS) (k : qS) (P : Nat → Int32) (Sc : Nat → Int32) (Bc : Nat → Int32) (x1 : Int32) (uc : qS) (hk : CT k P u) (hca : t_ca k u) (hz8 : 0 ≤ u.1 8 ∧ u.1 8 ≤ 20) (hz9 : 0 ≤ u.1 9 ∧ u.1 9 ≤ 8) (hz10 : 0 ≤ u.1 10 ∧ u.1 10 ≤ 120) (hz12 : 0 ≤ u.1 12 ∧ u.1 12 ≤ 16) (h_k : 0 ≤ x1 ∧ x1 ≤ u.1 10) (h_S : qFD 10 Sc uc) (h_B : qFD 11 Bc uc) (h_f : f_fi k Sc) (h_3 : uc.1 311 = u.1 18) (h_9 : uc.1 909 = u.1 18) (h_6 : uc.1 609 = u.1 18) (h_m : m_R k Bc (fun W => m_tr (m_h k P W) (k.1 1247).toNatClampNeg x1.toNatClampNeg) (uc.2.1 303) (uc.2.1 304) (uc.2.1 305)) (c74_1 : ¬ (u.1 10) ≤ (x1 : Int32)) : 0 ≤ x1 ∧ x1 < (u.1 10) := by
  clear h_m h_S h_B h_f; (try simp only [g_m1, Int32.lt_iff_toInt_lt, Int32.le_iff_toInt_le, ← Int32.toInt_inj, Int32.reduceToInt] at *); omega
set_option maxRecDepth 100000 in
theorem g_X3_refresh_k_v2 (u : qS) (k : qS) (P : Nat → Int32) (Sc : Nat → Int32) (Bc : Nat → Int32) (x1 : Int32) (uc : qS) (hk : CT k P u) (hca : t_ca k u) (hz8 : 0 ≤ u.1 8 ∧ u.1 8 ≤ 20) (hz9 : 0 ≤ u.1 9 ∧ u.1 9 ≤ 8) (hz10 : 0 ≤ u.1 10 ∧ u.1 10 ≤ 120) (hz12 : 0 ≤ u.1 12 ∧ u.1 12 ≤ 16) (h_k : 0 ≤ x1 ∧ x1 ≤ u.1 10) (h_S : qFD 10 Sc uc) (h_B : qFD 11 Bc uc) (h_f : f_fi k Sc) (h_3 : uc.1 311 = u.1 18) (h_9 : uc.1 909 = u.1 18) (h_6 : uc.1 609 = u.1 18) (h_m : m_R k Bc (fun W => m_tr (m_h k P W) (k.1 1247).toNatClampNeg x1.toNatClampNeg) (uc.2.1 303) (uc.2.1 304) (uc.2.1 305)) (c74_1 : ¬ (u.1 10) ≤ (x1 : Int32)) : vp_in (x1) 120 := by
  clear h_m h_S h_B h_f; refine g_in ?_ ?_ <;> ((try simp only [g_m1, Int32.lt_iff_toInt_lt, Int32.le_iff_toInt_le, ← Int32.toInt_inj, Int32.reduceToInt] at *); omega)
set_option maxRecDepth 100000 in
theorem g_X3_refresh_k_v3 (u : qS) (k : qS) (P : Nat → Int32) (Sc : Nat → Int32) (Bc : Nat → Int32) (x1 : Int32) (uc : qS) (hk : CT k P u) (hca : t_ca k u) (hz8 : 0 ≤ u.1 8 ∧ u.1 8 ≤ 20) (hz9 : 0 ≤ u.1 9 ∧ u.1 9 ≤ 8) (hz10 : 0 ≤ u.1 10 ∧ u.1 10 ≤ 120) (hz12 : 0 ≤ u.1 12 ∧ u.1 12 ≤ 16) (h_k : 0 ≤ x1 ∧ x1 ≤ u.1 10) (h_S : qFD 10 Sc uc) (h_B : qFD 11 Bc uc) (h_f : f_fi k Sc) (h_3 : uc.1 311 = u.1 18) (h_9 : uc.1 909 = u.1 18) (h_6 : uc.1 609 = u.1 18) (h_m : m_R k Bc (fun W => m_tr (m_h k P W) (k.1 1247).toNatClampNeg x1.toNatClampNeg) (uc.2.1 303) (uc.2.1 304) (uc.2.1 305)) (c74_1 : ¬ (u.1 10) ≤ (x1 : Int32)) : 0 ≤ x1 ∧ x1 < (u.1 10) := by
  clear h_m h_S h_B h_f; (try simp only [g_m1, Int32.lt_iff_toInt_lt, Int32.le_iff_toInt_le, ← Int32.toInt_inj, Int32.reduceToInt] at *); omega
set_option maxRecDepth 100000 in
theorem g_X3_refresh_k_v4 (u : qS) (k : qS) (P : Nat → Int32) (Sc : Nat → Int32) (Bc : Nat → Int32) (x1 : Int32) (uc : qS) (hk : CT k P u) (hca : t_ca k u) (hz8 : 0 ≤ u.1 8 ∧ u.1 8 ≤ 20) (hz9 : 0 ≤ u.1 9 ∧ u.1 9 ≤ 8) (hz10 : 0 ≤ u.1 10 ∧ u.1 10 ≤ 120) (hz12 : 0 ≤ u.1 12 ∧ u.1 12 ≤ 16) (h_k : 0 ≤ x1 ∧ x1 ≤ u.1 10) (h_S : qFD 10 Sc uc) (h_B : qFD 11 Bc uc) (h_f : f_fi k Sc) (h_3 : uc.1 311 = u.1 18) (h_9 : uc.1 909 = u.1 18) (h_6 : uc.1 609 = u.1 18) (h_m : m_R k Bc (fun W => m_tr (m_h k P W) (k.1 1247).toNatClampNeg x1.toNatClampNeg) (uc.2.1 303) (uc.2.1 304) (uc.2.1 305)) (c74_1 : ¬ (u.1 10) ≤ (x1 : Int32)) (b87_8 : f_co (k) ((P (x1 : Int32).toNatClampNeg))) : 0 ≤ x1 ∧ x1 < (u.1 10 : Int32) := by
  exact ⟨h_k.1, by clear h_m h_S h_B h_f; (try simp only [g_m1, Int32.lt_iff_toInt_lt, Int32.le_iff_toInt_le, ← Int32.toInt_inj, Int32.reduceToInt] at *); omega⟩
set_option maxRecDepth 100000 in
theorem g_X3_refresh_k_v5 (u : qS) (k : qS) (P : Nat → Int32) (Sc : Nat → Int32) (Bc : Nat → Int32) (x1 : Int32) (uc : qS) (hk : CT k P u) (hca : t_ca k u) (hz8 : 0 ≤ u.1 8 ∧ u.1 8 ≤ 20) (hz9 : 0 ≤ u.1 9 ∧ u.1 9 ≤ 8) (hz10 : 0 ≤ u.1 10 ∧ u.1 10 ≤ 120) (hz12 : 0 ≤ u.1 12 ∧ u.1 12 ≤ 16) (h_k : 0 ≤ x1 ∧ x1 ≤ u.1 10) (h_S : qFD 10 Sc uc) (h_B : qFD 11 Bc uc) (h_f : f_fi k Sc) (h_3 : uc.1 311 = u.1 18) (h_9 : uc.1 909 = u.1 18) (h_6 : uc.1 609 = u.1 18) (h_m : m_R k Bc (fun W => m_tr (m_h k P W) (k.1 1247).toNatClampNeg x1.toNatClampNeg) (uc.2.1 303) (uc.2.1 304) (uc.2.1 305)) (c74_1 : ¬ (u.1 10) ≤ (x1 : Int32)) (b87_8 : f_co (k) ((P (x1 : Int32).toNatClampNeg))) : f_co k (P x1.toNatClampNeg) := by
  assumption
set_option maxRecDepth 100000 in
theorem g_X3_refresh_k_v6 (u : qS) (k : qS) (P : Nat → Int32) (Sc : Nat → Int32) (Bc : Nat → Int32) (x1 : Int32) (uc : qS) (hk : CT k P u) (hca : t_ca k u) (hz8 : 0 ≤ u.1 8 ∧ u.1 8 ≤ 20) (hz9 : 0 ≤ u.1 9 ∧ u.1 9 ≤ 8) (hz10 : 0 ≤ u.1 10 ∧ u.1 10 ≤ 120) (hz12 : 0 ≤ u.1 12 ∧ u.1 12 ≤ 16) (h_k : 0 ≤ x1 ∧ x1 ≤ u.1 10) (h_S : qFD 10 Sc uc) (h_B : qFD 11 Bc uc) (h_f : f_fi k Sc) (h_3 : uc.1 311 = u.1 18) (h_9 : uc.1 909 = u.1 18) (h_6 : uc.1 609 = u.1 18) (h_m : m_R k Bc (fun W => m_tr (m_h k P W) (k.1 1247).toNatClampNeg x1.toNatClampNeg) (uc.2.1 303) (uc.2.1 304) (uc.2.1 305)) (c74_1 : ¬ (u.1 10) ≤ (x1 : Int32)) (b87_8 : f_co (k) ((P (x1 : Int32).toNatClampNeg))) : m_R k Bc (fun W => m_tr (m_h k P W) (k.1 1247).toNatClampNeg x1.toNatClampNeg) ((uc.2.1 303)) ((uc.2.1 304)) ((uc.2.1 305)) := by
  exact h_m
set_option maxRecDepth 100000 in
theorem g_X3_refresh_k_v7 (u : qS) (k : qS) (P : Nat → Int32) (Sc : Nat → Int32) (Bc : Nat → Int32) (x1 : Int32) (uc : qS) (u_9 : qS) (hk : CT k P u) (hca : t_ca k u) (hz8 : 0 ≤ u.1 8 ∧ u.1 8 ≤ 20) (hz9 : 0 ≤ u.1 9 ∧ u.1 9 ≤ 8) (hz10 : 0 ≤ u.1 10 ∧ u.1 10 ≤ 120) (hz12 : 0 ≤ u.1 12 ∧ u.1 12 ≤ 16) (h_k : 0 ≤ x1 ∧ x1 ≤ u.1 10) (h_S : qFD 10 Sc uc) (h_B : qFD 11 Bc uc) (h_f : f_fi k Sc) (h_3 : uc.1 311 = u.1 18) (h_9 : uc.1 909 = u.1 18) (h_6 : uc.1 609 = u.1 18) (h_m : m_R k Bc (fun W => m_tr (m_h k P W) (k.1 1247).toNatClampNeg x1.toNatClampNeg) (uc.2.1 303) (uc.2.1 304) (uc.2.1 305)) (c74_1 : ¬ (u.1 10) ≤ (x1 : Int32)) (b87_8 : f_co (k) ((P (x1 : Int32).toNatClampNeg))) (hw_10 : m_R (k) (Bc) (fun W => ((fun W => m_tr (m_h k P W) (k.1 1247).toNatClampNeg x1.toNatClampNeg)) W + m_sg (m_h (k) (P) W x1.toNatClampNeg) (x1.toNatClampNeg + 1) (((k).1 1247).toNatClampNeg - (x1.toNatClampNeg + 1))) (u_9.2.1 303) (u_9.2.1 304) (u_9.2.1 305)) : 0 ≤ (x1 + 1) ∧ (x1 + 1) ≤ u.1 10 := by
  clear h_m h_S h_B h_f; (try simp only [g_m1, Int32.lt_iff_toInt_lt, Int32.le_iff_toInt_le, ← Int32.toInt_inj, Int32.toInt_add, Int32.toInt_sub, Int32.toInt_mul, Int32.toInt_neg, Int32.reduceToInt, g_bm, g_bm'] at *); omega
set_option maxRecDepth 100000 in
theorem g_X3_refresh_k_v8 (u : qS) (k : qS) (P : Nat → Int32) (Sc : Nat → Int32) (Bc : Nat → Int32) (x1 : Int32) (uc : qS) (u_9 : qS) (hk : CT k P u) (hca : t_ca k u) (hz8 : 0 ≤ u.1 8 ∧ u.1 8 ≤ 20) (hz9 : 0 ≤ u.1 9 ∧ u.1 9 ≤ 8) (hz10 : 0 ≤ u.1 10 ∧ u.1 10 ≤ 120) (hz12 : 0 ≤ u.1 12 ∧ u.1 12 ≤ 16) (h_k : 0 ≤ x1 ∧ x1 ≤ u.1 10) (h_S : qFD 10 Sc uc) (h_B : qFD 11 Bc uc) (h_f : f_fi k Sc) (h_3 : uc.1 311 = u.1 18) (h_9 : uc.1 909 = u.1 18) (h_6 : uc.1 609 = u.1 18) (h_m : m_R k Bc (fun W => m_tr (m_h k P W) (k.1 1247).toNatClampNeg x1.toNatClampNeg) (uc.2.1 303) (uc.2.1 304) (uc.2.1 305)) (c74_1 : ¬ (u.1 10) ≤ (x1 : Int32)) (b87_8 : f_co (k) ((P (x1 : Int32).toNatClampNeg))) (hw_10 : m_R (k) (Bc) (fun W => ((fun W => m_tr (m_h k P W) (k.1 1247).toNatClampNeg x1.toNatClampNeg)) W + m_sg (m_h (k) (P) W x1.toNatClampNeg) (x1.toNatClampNeg + 1) (((k).1 1247).toNatClampNeg - (x1.toNatClampNeg + 1))) (u_9.2.1 303) (u_9.2.1 304) (u_9.2.1 305)) : f_fi k Sc := by
  exact h_f
set_option maxRecDepth 100000 in
theorem g_X3_refresh_k_v9 (u : qS) (k : qS) (P : Nat → Int32) (Sc : Nat → Int32) (Bc : Nat → Int32) (x1 : Int32) (uc : qS) (u_9 : qS) (hk : CT k P u) (hca : t_ca k u) (hz8 : 0 ≤ u.1 8 ∧ u.1 8 ≤ 20) (hz9 : 0 ≤ u.1 9 ∧ u.1 9 ≤ 8) (hz10 : 0 ≤ u.1 10 ∧ u.1 10 ≤ 120) (hz12 : 0 ≤ u.1 12 ∧ u.1 12 ≤ 16) (h_k : 0 ≤ x1 ∧ x1 ≤ u.1 10) (h_S : qFD 10 Sc uc) (h_B : qFD 11 Bc uc) (h_f : f_fi k Sc) (h_3 : uc.1 311 = u.1 18) (h_9 : uc.1 909 = u.1 18) (h_6 : uc.1 609 = u.1 18) (h_m : m_R k Bc (fun W => m_tr (m_h k P W) (k.1 1247).toNatClampNeg x1.toNatClampNeg) (uc.2.1 303) (uc.2.1 304) (uc.2.1 305)) (c74_1 : ¬ (u.1 10) ≤ (x1 : Int32)) (b87_8 : f_co (k) ((P (x1 : Int32).toNatClampNeg))) (hw_10 : m_R (k) (Bc) (fun W => ((fun W => m_tr (m_h k P W) (k.1 1247).toNatClampNeg x1.toNatClampNeg)) W + m_sg (m_h (k) (P) W x1.toNatClampNeg) (x1.toNatClampNeg + 1) (((k).1 1247).toNatClampNeg - (x1.toNatClampNeg + 1))) (u_9.2.1 303) (u_9.2.1 304) (u_9.2.1 305)) : (uc.1 311 : Int32) = u.1 18 := by
  exact h_3
set_option maxRecDepth 100000 in
theorem g_X3_refresh_k_v10 (u : qS) (k : qS) (P : Nat → Int32) (Sc : Nat → Int32) (Bc : Nat → Int32) (x1 : Int32) (uc : qS) (u_9 : qS) (hk : CT k P u) (hca : t_ca k u) (hz8 : 0 ≤ u.1 8 ∧ u.1 8 ≤ 20) (hz9 : 0 ≤ u.1 9 ∧ u.1 9 ≤ 8) (hz10 : 0 ≤ u.1 10 ∧ u.1 10 ≤ 120) (hz12 : 0 ≤ u.1 12 ∧ u.1 12 ≤ 16) (h_k : 0 ≤ x1 ∧ x1 ≤ u.1 10) (h_S : qFD 10 Sc uc) (h_B : qFD 11 Bc uc) (h_f : f_fi k Sc) (h_3 : uc.1 311 = u.1 18) (h_9 : uc.1 909 = u.1 18) (h_6 : uc.1 609 = u.1 18) (h_m : m_R k Bc (fun W => m_tr (m_h k P W) (k.1 1247).toNatClampNeg x1.toNatClampNeg) (uc.2.1 303) (uc.2.1 304) (uc.2.1 305)) (c74_1 : ¬ (u.1 10) ≤ (x1 : Int32)) (b87_8 : f_co (k) ((P (x1 : Int32).toNatClampNeg))) (hw_10 : m_R (k) (Bc) (fun W => ((fun W => m_tr (m_h k P W) (k.1 1247).toNatClampNeg x1.toNatClampNeg)) W + m_sg (m_h (k) (P) W x1.toNatClampNeg) (x1.toNatClampNeg + 1) (((k).1 1247).toNatClampNeg - (x1.toNatClampNeg + 1))) (u_9.2.1 303) (u_9.2.1 304) (u_9.2.1 305)) : (uc.1 909 : Int32) = u.1 18 := by
  exact h_9
set_option maxRecDepth 100000 in
theorem g_X3_refresh_k_v11 (u : qS) (k : qS) (P : Nat → Int32) (Sc : Nat → Int32) (Bc : Nat → Int32) (x1 : Int32) (uc : qS) (u_9 : qS) (hk : CT k P u) (hca : t_ca k u) (hz8 : 0 ≤ u.1 8 ∧ u.1 8 ≤ 20) (hz9 : 0 ≤ u.1 9 ∧ u.1 9 ≤ 8) (hz10 : 0 ≤ u.1 10 ∧ u.1 10 ≤ 120) (hz12 : 0 ≤ u.1 12 ∧ u.1 12 ≤ 16) (h_k : 0 ≤ x1 ∧ x1 ≤ u.1 10) (h_S : qFD 10 Sc uc) (h_B : qFD 11 Bc uc) (h_f : f_fi k Sc) (h_3 : uc.1 311 = u.1 18) (h_9 : uc.1 909 = u.1 18) (h_6 : uc.1 609 = u.1 18) (h_m : m_R k Bc (fun W => m_tr (m_h k P W) (k.1 1247).toNatClampNeg x1.toNatClampNeg) (uc.2.1 303) (uc.2.1 304) (uc.2.1 305)) (c74_1 : ¬ (u.1 10) ≤ (x1 : Int32)) (b87_8 : f_co (k) ((P (x1 : Int32).toNatClampNeg))) (hw_10 : m_R (k) (Bc) (fun W => ((fun W => m_tr (m_h k P W) (k.1 1247).toNatClampNeg x1.toNatClampNeg)) W + m_sg (m_h (k) (P) W x1.toNatClampNeg) (x1.toNatClampNeg + 1) (((k).1 1247).toNatClampNeg - (x1.toNatClampNeg + 1))) (u_9.2.1 303) (u_9.2.1 304) (u_9.2.1 305)) : (uc.1 609 : Int32) = u.1 18 := by
  exact h_6
set_option maxRecDepth 100000 in
theorem g_X3_refresh_k_v12 (u : qS) (k : qS) (P : Nat → Int32) (Sc : Nat → Int32) (Bc : Nat → Int32) (x1 : Int32) (uc : qS) (u_9 : qS) (hk : CT k P u) (hca : t_ca k u) (hz8 : 0 ≤ u.1 8 ∧ u.1 8 ≤ 20) (hz9 : 0 ≤ u.1 9 ∧ u.1 9 ≤ 8) (hz10 : 0 ≤ u.1 10 ∧ u.1 10 ≤ 120) (hz12 : 0 ≤ u.1 12 ∧ u.1 12 ≤ 16) (h_k : 0 ≤ x1 ∧ x1 ≤ u.1 10) (h_S : qFD 10 Sc uc) (h_B : qFD 11 Bc uc) (h_f : f_fi k Sc) (h_3 : uc.1 311 = u.1 18) (h_9 : uc.1 909 = u.1 18) (h_6 : uc.1 609 = u.1 18) (h_m : m_R k Bc (fun W => m_tr (m_h k P W) (k.1 1247).toNatClampNeg x1.toNatClampNeg) (uc.2.1 303) (uc.2.1 304) (uc.2.1 305)) (c74_1 : ¬ (u.1 10) ≤ (x1 : Int32)) (b87_8 : f_co (k) ((P (x1 : Int32).toNatClampNeg))) (hw_10 : m_R (k) (Bc) (fun W => ((fun W => m_tr (m_h k P W) (k.1 1247).toNatClampNeg x1.toNatClampNeg)) W + m_sg (m_h (k) (P) W x1.toNatClampNeg) (x1.toNatClampNeg + 1) (((k).1 1247).toNatClampNeg - (x1.toNatClampNeg + 1))) (u_9.2.1 303) (u_9.2.1 304) (u_9.2.1 305)) : m_R k Bc (fun W => m_tr (m_h k P W) (k.1 1247).toNatClampNeg (x1 + 1).toNatClampNeg) ((u_9.2.1 303)) ((u_9.2.1 304)) ((u_9.2.1 305)) := by
  have hi : 0 ≤ x1 ∧ x1 < u.1 10 := ⟨h_k.1, by clear h_m h_S h_B h_f; (try simp only [g_m1, Int32.lt_iff_toInt_lt, Int32.le_iff_toInt_le, ← Int32.toInt_inj, Int32.reduceToInt] at *); omega⟩
  have q1 : 0 ≤ x1.toInt ∧ x1.toInt < 1000 := (by clear h_m h_S h_B h_f; (try simp only [g_m1, Int32.lt_iff_toInt_lt, Int32.le_iff_toInt_le, ← Int32.toInt_inj, Int32.reduceToInt] at *); omega)
  have e1 := (g_up (i := x1) q1.1 (by omega)).2
  rw [e1]
  first | exact h_m.skip (by assumption) | assumption
set_option maxRecDepth 100000 in
theorem g_X3_refresh_k_v13 (u : qS) (k : qS) (P : Nat → Int32) (Sc : Nat → Int32) (Bc : Nat → Int32) (x1 : Int32) (uc : qS) (u_9 : qS) (hk : CT k P u) (hca : t_ca k u) (hz8 : 0 ≤ u.1 8 ∧ u.1 8 ≤ 20) (hz9 : 0 ≤ u.1 9 ∧ u.1 9 ≤ 8) (hz10 : 0 ≤ u.1 10 ∧ u.1 10 ≤ 120) (hz12 : 0 ≤ u.1 12 ∧ u.1 12 ≤ 16) (h_k : 0 ≤ x1 ∧ x1 ≤ u.1 10) (h_S : qFD 10 Sc uc) (h_B : qFD 11 Bc uc) (h_f : f_fi k Sc) (h_3 : uc.1 311 = u.1 18) (h_9 : uc.1 909 = u.1 18) (h_6 : uc.1 609 = u.1 18) (h_m : m_R k Bc (fun W => m_tr (m_h k P W) (k.1 1247).toNatClampNeg x1.toNatClampNeg) (uc.2.1 303) (uc.2.1 304) (uc.2.1 305)) (c74_1 : ¬ (u.1 10) ≤ (x1 : Int32)) (b87_8 : f_co (k) ((P (x1 : Int32).toNatClampNeg))) (hw_10 : m_R (k) (Bc) (fun W => ((fun W => m_tr (m_h k P W) (k.1 1247).toNatClampNeg x1.toNatClampNeg)) W + m_sg (m_h (k) (P) W x1.toNatClampNeg) (x1.toNatClampNeg + 1) (((k).1 1247).toNatClampNeg - (x1.toNatClampNeg + 1))) (u_9.2.1 303) (u_9.2.1 304) (u_9.2.1 305)) : ((u.1 10).toInt - (x1 + 1).toInt).toNat < ((u.1 10).toInt - x1.toInt).toNat := by
  clear h_m h_S h_B h_f; (try simp only [g_m1, Int32.lt_iff_toInt_lt, Int32.le_iff_toInt_le, ← Int32.toInt_inj, Int32.toInt_add, Int32.toInt_sub, Int32.toInt_mul, Int32.toInt_neg, Int32.reduceToInt, g_bm, g_bm'] at *); omega
set_option maxRecDepth 100000 in
theorem g_X3_refresh_k_v14 (u : qS) (k : qS) (P : Nat → Int32) (Sc : Nat → Int32) (Bc : Nat → Int32) (x1 : Int32) (uc : qS) (hk : CT k P u) (hca : t_ca k u) (hz8 : 0 ≤ u.1 8 ∧ u.1 8 ≤ 20) (hz9 : 0 ≤ u.1 9 ∧ u.1 9 ≤ 8) (hz10 : 0 ≤ u.1 10 ∧ u.1 10 ≤ 120) (hz12 : 0 ≤ u.1 12 ∧ u.1 12 ≤ 16) (h_k : 0 ≤ x1 ∧ x1 ≤ u.1 10) (h_S : qFD 10 Sc uc) (h_B : qFD 11 Bc uc) (h_f : f_fi k Sc) (h_3 : uc.1 311 = u.1 18) (h_9 : uc.1 909 = u.1 18) (h_6 : uc.1 609 = u.1 18) (h_m : m_R k Bc (fun W => m_tr (m_h k P W) (k.1 1247).toNatClampNeg x1.toNatClampNeg) (uc.2.1 303) (uc.2.1 304) (uc.2.1 305)) (c74_1 : ¬ (u.1 10) ≤ (x1 : Int32)) (b87_8 : ¬ (f_co (k) ((P (x1 : Int32).toNatClampNeg)))) : 0 ≤ (x1 + 1) ∧ (x1 + 1) ≤ u.1 10 := by
  clear h_m h_S h_B h_f; (try simp only [g_m1, Int32.lt_iff_toInt_lt, Int32.le_iff_toInt_le, ← Int32.toInt_inj, Int32.toInt_add, Int32.toInt_sub, Int32.toInt_mul, Int32.toInt_neg, Int32.reduceToInt, g_bm, g_bm'] at *); omega
set_option maxRecDepth 100000 in
theorem g_X3_refresh_k_v15 (u : qS) (k : qS) (P : Nat → Int32) (Sc : Nat → Int32) (Bc : Nat → Int32) (x1 : Int32) (uc : qS) (hk : CT k P u) (hca : t_ca k u) (hz8 : 0 ≤ u.1 8 ∧ u.1 8 ≤ 20) (hz9 : 0 ≤ u.1 9 ∧ u.1 9 ≤ 8) (hz10 : 0 ≤ u.1 10 ∧ u.1 10 ≤ 120) (hz12 : 0 ≤ u.1 12 ∧ u.1 12 ≤ 16) (h_k : 0 ≤ x1 ∧ x1 ≤ u.1 10) (h_S : qFD 10 Sc uc) (h_B : qFD 11 Bc uc) (h_f : f_fi k Sc) (h_3 : uc.1 311 = u.1 18) (h_9 : uc.1 909 = u.1 18) (h_6 : uc.1 609 = u.1 18) (h_m : m_R k Bc (fun W => m_tr (m_h k P W) (k.1 1247).toNatClampNeg x1.toNatClampNeg) (uc.2.1 303) (uc.2.1 304) (uc.2.1 305)) (c74_1 : ¬ (u.1 10) ≤ (x1 : Int32)) (b87_8 : ¬ (f_co (k) ((P (x1 : Int32).toNatClampNeg)))) : f_fi k Sc := by
  exact h_f
set_option maxRecDepth 100000 in
theorem g_X3_refresh_k_v16 (u : qS) (k : qS) (P : Nat → Int32) (Sc : Nat → Int32) (Bc : Nat → Int32) (x1 : Int32) (uc : qS) (hk : CT k P u) (hca : t_ca k u) (hz8 : 0 ≤ u.1 8 ∧ u.1 8 ≤ 20) (hz9 : 0 ≤ u.1 9 ∧ u.1 9 ≤ 8) (hz10 : 0 ≤ u.1 10 ∧ u.1 10 ≤ 120) (hz12 : 0 ≤ u.1 12 ∧ u.1 12 ≤ 16) (h_k : 0 ≤ x1 ∧ x1 ≤ u.1 10) (h_S : qFD 10 Sc uc) (h_B : qFD 11 Bc uc) (h_f : f_fi k Sc) (h_3 : uc.1 311 = u.1 18) (h_9 : uc.1 909 = u.1 18) (h_6 : uc.1 609 = u.1 18) (h_m : m_R k Bc (fun W => m_tr (m_h k P W) (k.1 1247).toNatClampNeg x1.toNatClampNeg) (uc.2.1 303) (uc.2.1 304) (uc.2.1 305)) (c74_1 : ¬ (u.1 10) ≤ (x1 : Int32)) (b87_8 : ¬ (f_co (k) ((P (x1 : Int32).toNatClampNeg)))) : (uc.1 311 : Int32) = u.1 18 := by
  exact h_3
set_option maxRecDepth 100000 in
theorem g_X3_refresh_k_v17 (u : qS) (k : qS) (P : Nat → Int32) (Sc : Nat → Int32) (Bc : Nat → Int32) (x1 : Int32) (uc : qS) (hk : CT k P u) (hca : t_ca k u) (hz8 : 0 ≤ u.1 8 ∧ u.1 8 ≤ 20) (hz9 : 0 ≤ u.1 9 ∧ u.1 9 ≤ 8) (hz10 : 0 ≤ u.1 10 ∧ u.1 10 ≤ 120) (hz12 : 0 ≤ u.1 12 ∧ u.1 12 ≤ 16) (h_k : 0 ≤ x1 ∧ x1 ≤ u.1 10) (h_S : qFD 10 Sc uc) (h_B : qFD 11 Bc uc) (h_f : f_fi k Sc) (h_3 : uc.1 311 = u.1 18) (h_9 : uc.1 909 = u.1 18) (h_6 : uc.1 609 = u.1 18) (h_m : m_R k Bc (fun W => m_tr (m_h k P W) (k.1 1247).toNatClampNeg x1.toNatClampNeg) (uc.2.1 303) (uc.2.1 304) (uc.2.1 305)) (c74_1 : ¬ (u.1 10) ≤ (x1 : Int32)) (b87_8 : ¬ (f_co (k) ((P (x1 : Int32).toNatClampNeg)))) : (uc.1 909 : Int32) = u.1 18 := by
  exact h_9
set_option maxRecDepth 100000 in
theorem g_X3_refresh_k_v18 (u : qS) (k : qS) (P : Nat → Int32) (Sc : Nat → Int32) (Bc : Nat → Int32) (x1 : Int32) (uc : qS) (hk : CT k P u) (hca : t_ca k u) (hz8 : 0 ≤ u.1 8 ∧ u.1 8 ≤ 20) (hz9 : 0 ≤ u.1 9 ∧ u.1 9 ≤ 8) (hz10 : 0 ≤ u.1 10 ∧ u.1 10 ≤ 120) (hz12 : 0 ≤ u.1 12 ∧ u.1 12 ≤ 16) (h_k : 0 ≤ x1 ∧ x1 ≤ u.1 10) (h_S : qFD 10 Sc uc) (h_B : qFD 11 Bc uc) (h_f : f_fi k Sc) (h_3 : uc.1 311 = u.1 18) (h_9 : uc.1 909 = u.1 18) (h_6 : uc.1 609 = u.1 18) (h_m : m_R k Bc (fun W => m_tr (m_h k P W) (k.1 1247).toNatClampNeg x1.toNatClampNeg) (uc.2.1 303) (uc.2.1 304) (uc.2.1 305)) (c74_1 : ¬ (u.1 10) ≤ (x1 : Int32)) (b87_8 : ¬ (f_co (k) ((P (x1 : Int32).toNatClampNeg)))) : (uc.1 609 : Int32) = u.1 18 := by
  exact h_6
set_option maxRecDepth 100000 in
theorem g_X3_refresh_k_v19 (u : qS) (k : qS) (P : Nat → Int32) (Sc : Nat → Int32) (Bc : Nat → Int32) (x1 : Int32) (uc : qS) (hk : CT k P u) (hca : t_ca k u) (hz8 : 0 ≤ u.1 8 ∧ u.1 8 ≤ 20) (hz9 : 0 ≤ u.1 9 ∧ u.1 9 ≤ 8) (hz10 : 0 ≤ u.1 10 ∧ u.1 10 ≤ 120) (hz12 : 0 ≤ u.1 12 ∧ u.1 12 ≤ 16) (h_k : 0 ≤ x1 ∧ x1 ≤ u.1 10) (h_S : qFD 10 Sc uc) (h_B : qFD 11 Bc uc) (h_f : f_fi k Sc) (h_3 : uc.1 311 = u.1 18) (h_9 : uc.1 909 = u.1 18) (h_6 : uc.1 609 = u.1 18) (h_m : m_R k Bc (fun W => m_tr (m_h k P W) (k.1 1247).toNatClampNeg x1.toNatClampNeg) (uc.2.1 303) (uc.2.1 304) (uc.2.1 305)) (c74_1 : ¬ (u.1 10) ≤ (x1 : Int32)) (b87_8 : ¬ (f_co (k) ((P (x1 : Int32).toNatClampNeg)))) : m_R k Bc (fun W => m_tr (m_h k P W) (k.1 1247).toNatClampNeg (x1 + 1).toNatClampNeg) ((uc.2.1 303)) ((uc.2.1 304)) ((uc.2.1 305)) := by
  have hi : 0 ≤ x1 ∧ x1 < u.1 10 := ⟨h_k.1, by clear h_m h_S h_B h_f; (try simp only [g_m1, Int32.lt_iff_toInt_lt, Int32.le_iff_toInt_le, ← Int32.toInt_inj, Int32.reduceToInt] at *); omega⟩
  have q1 : 0 ≤ x1.toInt ∧ x1.toInt < 1000 := (by clear h_m h_S h_B h_f; (try simp only [g_m1, Int32.lt_iff_toInt_lt, Int32.le_iff_toInt_le, ← Int32.toInt_inj, Int32.reduceToInt] at *); omega)
  have e1 := (g_up (i := x1) q1.1 (by omega)).2
  rw [e1]
  first | exact h_m.skip (by assumption) | assumption
set_option maxRecDepth 100000 in
theorem g_X3_refresh_k_v20 (u : qS) (k : qS) (P : Nat → Int32) (Sc : Nat → Int32) (Bc : Nat → Int32) (x1 : Int32) (uc : qS) (hk : CT k P u) (hca : t_ca k u) (hz8 : 0 ≤ u.1 8 ∧ u.1 8 ≤ 20) (hz9 : 0 ≤ u.1 9 ∧ u.1 9 ≤ 8) (hz10 : 0 ≤ u.1 10 ∧ u.1 10 ≤ 120) (hz12 : 0 ≤ u.1 12 ∧ u.1 12 ≤ 16) (h_k : 0 ≤ x1 ∧ x1 ≤ u.1 10) (h_S : qFD 10 Sc uc) (h_B : qFD 11 Bc uc) (h_f : f_fi k Sc) (h_3 : uc.1 311 = u.1 18) (h_9 : uc.1 909 = u.1 18) (h_6 : uc.1 609 = u.1 18) (h_m : m_R k Bc (fun W => m_tr (m_h k P W) (k.1 1247).toNatClampNeg x1.toNatClampNeg) (uc.2.1 303) (uc.2.1 304) (uc.2.1 305)) (c74_1 : ¬ (u.1 10) ≤ (x1 : Int32)) (b87_8 : ¬ (f_co (k) ((P (x1 : Int32).toNatClampNeg)))) : ((u.1 10).toInt - (x1 + 1).toInt).toNat < ((u.1 10).toInt - x1.toInt).toNat := by
  clear h_m h_S h_B h_f; (try simp only [g_m1, Int32.lt_iff_toInt_lt, Int32.le_iff_toInt_le, ← Int32.toInt_inj, Int32.toInt_add, Int32.toInt_sub, Int32.toInt_mul, Int32.toInt_neg, Int32.reduceToInt, g_bm, g_bm'] at *); omega
set_option maxRecDepth 100000 in
theorem g_X3_refresh_k_v21 (u : qS) (k : qS) (P : Nat → Int32) (u_31 : qS) (S_47 : Nat → Int32) (u_49 : qS) (u_66 : qS) (u_89 : qS) (u_112 : qS) (hk : CT k P u) (hca : t_ca k u) (hz8 : 0 ≤ u.1 8 ∧ u.1 8 ≤ 20) (hz9 : 0 ≤ u.1 9 ∧ u.1 9 ≤ 8) (hz10 : 0 ≤ u.1 10 ∧ u.1 10 ≤ 120) (hz12 : 0 ≤ u.1 12 ∧ u.1 12 ≤ 16) (c11_30 : ¬ (u.1 311 : Int32) = (u.1 18)) (hq_48 : f_fi (k) S_47 ∧ u_31.1 909 = (u.1 18 : Int32)) (hq_64 : u_49.1 609 = u.1 18) (hw_67 : ∀ j : Nat, j < 8 → u_66.2.1 303 j = (0 : Int32)) (hw_90 : ∀ j : Nat, j < 8 → u_89.2.1 304 j = (0 : Int32)) (hw_113 : ∀ j : Nat, j < 64 → u_112.2.1 305 j = (0 : Int32)) : 0 ≤ (0 : Int32) ∧ (0 : Int32) ≤ u.1 10 := by
  (try simp only [g_m1, Int32.lt_iff_toInt_lt, Int32.le_iff_toInt_le, ← Int32.toInt_inj, Int32.reduceToInt] at *); omega
set_option maxRecDepth 100000 in
theorem g_X3_refresh_k_v22 (u : qS) (k : qS) (P : Nat → Int32) (u_31 : qS) (S_47 : Nat → Int32) (u_49 : qS) (u_66 : qS) (u_89 : qS) (u_112 : qS) (hk : CT k P u) (hca : t_ca k u) (hz8 : 0 ≤ u.1 8 ∧ u.1 8 ≤ 20) (hz9 : 0 ≤ u.1 9 ∧ u.1 9 ≤ 8) (hz10 : 0 ≤ u.1 10 ∧ u.1 10 ≤ 120) (hz12 : 0 ≤ u.1 12 ∧ u.1 12 ≤ 16) (c11_30 : ¬ (u.1 311 : Int32) = (u.1 18)) (hq_48 : f_fi (k) S_47 ∧ u_31.1 909 = (u.1 18 : Int32)) (hq_64 : u_49.1 609 = u.1 18) (hw_67 : ∀ j : Nat, j < 8 → u_66.2.1 303 j = (0 : Int32)) (hw_90 : ∀ j : Nat, j < 8 → u_89.2.1 304 j = (0 : Int32)) (hw_113 : ∀ j : Nat, j < 64 → u_112.2.1 305 j = (0 : Int32)) : f_fi k S_47 := by
  exact (by assumption : f_fi k _ ∧ _).1
set_option maxRecDepth 100000 in
theorem g_X3_refresh_k_v23 (u : qS) (k : qS) (P : Nat → Int32) (u_31 : qS) (S_47 : Nat → Int32) (u_49 : qS) (u_66 : qS) (u_89 : qS) (u_112 : qS) (hk : CT k P u) (hca : t_ca k u) (hz8 : 0 ≤ u.1 8 ∧ u.1 8 ≤ 20) (hz9 : 0 ≤ u.1 9 ∧ u.1 9 ≤ 8) (hz10 : 0 ≤ u.1 10 ∧ u.1 10 ≤ 120) (hz12 : 0 ≤ u.1 12 ∧ u.1 12 ≤ 16) (c11_30 : ¬ (u.1 311 : Int32) = (u.1 18)) (hq_48 : f_fi (k) S_47 ∧ u_31.1 909 = (u.1 18 : Int32)) (hq_64 : u_49.1 609 = u.1 18) (hw_67 : ∀ j : Nat, j < 8 → u_66.2.1 303 j = (0 : Int32)) (hw_90 : ∀ j : Nat, j < 8 → u_89.2.1 304 j = (0 : Int32)) (hw_113 : ∀ j : Nat, j < 64 → u_112.2.1 305 j = (0 : Int32)) : (u.1 18 : Int32) = u.1 18 := by
  first | rfl | assumption
set_option maxRecDepth 100000 in
theorem g_X3_refresh_k_v24 (u : qS) (k : qS) (P : Nat → Int32) (u_31 : qS) (S_47 : Nat → Int32) (u_49 : qS) (u_66 : qS) (u_89 : qS) (u_112 : qS) (hk : CT k P u) (hca : t_ca k u) (hz8 : 0 ≤ u.1 8 ∧ u.1 8 ≤ 20) (hz9 : 0 ≤ u.1 9 ∧ u.1 9 ≤ 8) (hz10 : 0 ≤ u.1 10 ∧ u.1 10 ≤ 120) (hz12 : 0 ≤ u.1 12 ∧ u.1 12 ≤ 16) (c11_30 : ¬ (u.1 311 : Int32) = (u.1 18)) (hq_48 : f_fi (k) S_47 ∧ u_31.1 909 = (u.1 18 : Int32)) (hq_64 : u_49.1 609 = u.1 18) (hw_67 : ∀ j : Nat, j < 8 → u_66.2.1 303 j = (0 : Int32)) (hw_90 : ∀ j : Nat, j < 8 → u_89.2.1 304 j = (0 : Int32)) (hw_113 : ∀ j : Nat, j < 64 → u_112.2.1 305 j = (0 : Int32)) : (u_31.1 909 : Int32) = u.1 18 := by
  first | assumption | exact (by assumption : f_fi k _ ∧ _).2
set_option maxRecDepth 100000 in
theorem g_X3_refresh_k_v25 (u : qS) (k : qS) (P : Nat → Int32) (u_31 : qS) (S_47 : Nat → Int32) (u_49 : qS) (u_66 : qS) (u_89 : qS) (u_112 : qS) (hk : CT k P u) (hca : t_ca k u) (hz8 : 0 ≤ u.1 8 ∧ u.1 8 ≤ 20) (hz9 : 0 ≤ u.1 9 ∧ u.1 9 ≤ 8) (hz10 : 0 ≤ u.1 10 ∧ u.1 10 ≤ 120) (hz12 : 0 ≤ u.1 12 ∧ u.1 12 ≤ 16) (c11_30 : ¬ (u.1 311 : Int32) = (u.1 18)) (hq_48 : f_fi (k) S_47 ∧ u_31.1 909 = (u.1 18 : Int32)) (hq_64 : u_49.1 609 = u.1 18) (hw_67 : ∀ j : Nat, j < 8 → u_66.2.1 303 j = (0 : Int32)) (hw_90 : ∀ j : Nat, j < 8 → u_89.2.1 304 j = (0 : Int32)) (hw_113 : ∀ j : Nat, j < 64 → u_112.2.1 305 j = (0 : Int32)) : (u_49.1 609 : Int32) = u.1 18 := by
  first | assumption | rfl
set_option maxRecDepth 100000 in
theorem g_X3_refresh_k_v26 (u : qS) (k : qS) (P : Nat → Int32) (u_31 : qS) (S_47 : Nat → Int32) (u_49 : qS) (B_65 : Nat → Int32) (u_66 : qS) (u_89 : qS) (u_112 : qS) (hk : CT k P u) (hca : t_ca k u) (hz8 : 0 ≤ u.1 8 ∧ u.1 8 ≤ 20) (hz9 : 0 ≤ u.1 9 ∧ u.1 9 ≤ 8) (hz10 : 0 ≤ u.1 10 ∧ u.1 10 ≤ 120) (hz12 : 0 ≤ u.1 12 ∧ u.1 12 ≤ 16) (c11_30 : ¬ (u.1 311 : Int32) = (u.1 18)) (hq_48 : f_fi (k) S_47 ∧ u_31.1 909 = (u.1 18 : Int32)) (hq_64 : u_49.1 609 = u.1 18) (hw_67 : ∀ j : Nat, j < 8 → u_66.2.1 303 j = (0 : Int32)) (hw_90 : ∀ j : Nat, j < 8 → u_89.2.1 304 j = (0 : Int32)) (hw_113 : ∀ j : Nat, j < 64 → u_112.2.1 305 j = (0 : Int32)) : m_R k B_65 (fun W => m_tr (m_h k P W) (k.1 1247).toNatClampNeg (0 : Int32).toNatClampNeg) ((u_66.2.1 303)) ((u_89.2.1 304)) ((u_112.2.1 305)) := by
  exact m_R.nil (by assumption) (by assumption) (by assumption)
set_option maxHeartbeats 1000000 in
set_option maxRecDepth 100000 in
theorem g_X3_refresh_k (l : Launch) (E : qE) (A : Nat → Prop) (u : qS) (k : qS) (P : Nat → Int32) (hI : IC E u) (hk : CT k P u) (hca : t_ca k u) : Met l yX3_refresh (uws yX3_refresh cX3_refresh 2 none) (qR 7 0 0) (qPc E A 0 u [.ref (E.2.2 399)]) (qQv E A 0 (fun u1 => (qFc [900, 901, 902, 908, 909, 604, 605, 606, 607, 608, 609, 311] [905, 906, 907, 601, 602, 603, 303, 304, 305] [] [904, 5010, 5011, 5012, 5013, 5014] u u1 ∧ IC E u1) ∧ (t_ca k u1 ∧ (∃ S1 B1 : Nat → Int32, qFD 10 S1 u1 ∧ qFD 11 B1 u1 ∧ (f_fi k S1 ∧ m_R k B1 (f_M k) (u1.2.1 303) (u1.2.1 304) (u1.2.1 305)))))) 0 0 A := by
  refine q_met (own := RX3) (f := 7) [.ref (E.2.2 399)] (by decide) (Nat.le_of_ble_eq_true rfl) rfl ?_
  intro p0 e0 s0 m0 bl0 me0 cd0 ls hF hr hlocks hU hS hA hl
  have hl : lv_has ls 2 [(0, .ref (E.2.2 399))] := hl
  have hz8 : 0 ≤ u.1 8 ∧ u.1 8 ≤ 20 := hI.1.s8
  have hz9 : 0 ≤ u.1 9 ∧ u.1 9 ≤ 8 := hI.1.s9
  have hz10 : 0 ≤ u.1 10 ∧ u.1 10 ≤ 120 := hI.1.s10
  have hz12 : 0 ≤ u.1 12 ∧ u.1 12 ≤ 16 := hI.1.s12
  have hfr : qFc [900, 901, 902, 908, 909, 604, 605, 606, 607, 608, 609, 311] [905, 906, 907, 601, 602, 603, 303, 304, 305] [] [904, 5010, 5011, 5012, 5013, 5014] u u := qFc.rf
  obtain ⟨S_0, hST⟩ := hk.fd hI 10 (by decide)
  obtain ⟨B_0, hBT⟩ := hk.fd hI 11 (by decide)
  have main : ∀ n : Nat, (∀ (Sc : Nat → Int32) (Bc : Nat → Int32) (x1 : Int32) (uc : qS) (H : Heap) (locs : List Loc) (ls : Array Slot) (hfr : qFc [900, 901, 902, 908, 909, 604, 605, 606, 607, 608, 609, 311] [905, 906, 907, 601, 602, 603, 303, 304, 305] [] [904, 5010, 5011, 5012, 5013, 5014] u uc) (hI : IC E uc) (h_k : 0 ≤ x1 ∧ x1 ≤ u.1 10) (h_S : qFD 10 Sc uc) (h_B : qFD 11 Bc uc) (h_f : f_fi k Sc) (h_3 : uc.1 311 = u.1 18) (h_9 : uc.1 909 = u.1 18) (h_6 : uc.1 609 = u.1 18) (h_m : m_R k Bc (fun W => m_tr (m_h k P W) (k.1 1247).toNatClampNeg x1.toNatClampNeg) (uc.2.1 303) (uc.2.1 304) (uc.2.1 305)), ((u.1 10).toInt - x1.toInt).toNat < n → qH E A 0 uc s0 H → va_S A s0.heap H locs → lv_has ls 2 [(0, .ref (E.2.2 399)), (1, .int x1)] → W p0 l e0 (qR 7 0 0) s0 m0 ([.ref (E.2.2 399)] : List Value).toArray bl0 me0 cd0 H locs 0 0 (MQ bl0 (qQv E A 0 (fun u1 => (qFc [900, 901, 902, 908, 909, 604, 605, 606, 607, 608, 609, 311] [905, 906, 907, 601, 602, 603, 303, 304, 305] [] [904, 5010, 5011, 5012, 5013, 5014] u u1 ∧ IC E u1) ∧ (t_ca k u1 ∧ (∃ S1 B1 : Nat → Int32, qFD 10 S1 u1 ∧ qFD 11 B1 u1 ∧ (f_fi k S1 ∧ m_R k B1 (f_M k) (u1.2.1 303) (u1.2.1 304) (u1.2.1 305)))))) ([.ref (E.2.2 399)] : List Value).toArray s0 0 0 A) (F0 m0 66 ls [])) := by
    clear hI hfr
    intro n
    induction n with
    | zero => exact fun _ _ _ _ _ _ _ _ _ _ _ _ _ _ _ _ _ hmu => absurd hmu (Nat.not_lt_zero _)
    | succ n ih =>
      intro Sc Bc x1 uc H locs ls hfr hI h_k h_S h_B h_f h_3 h_9 h_6 h_m hmu hU hS hl
      have hST := h_S
      have hBT := h_B
      refine lv_iload_n hF.1 hF.2.1 dX3_refresh_66 rfl (lv_at hl 1 rfl) ?_
      refine lv_aload_n hF.1 hF.2.1 dX3_refresh_67 rfl (lv_at hl 0 rfl) ?_
      refine q_get (v := .ref (E.2.2 99)) hF hU dX3_refresh_68 6 3 0 300 399 rfl rfl rfl rfl inX3 (by decide) (by decide) w_377 rfl rfl ?_
      refine q_get (v := .int (u.1 10)) hF hU dX3_refresh_71 1 0 10 10 99 rfl rfl rfl rfl inX0 (by decide) (by decide) w_170 rfl (congrArg Value.int (hfr.1 10 (by decide))) ?_
      refine lv_icmp_ge (tgt := 104) hF.1 hF.2.1 dX3_refresh_74 (by decide) (fun c74_1 => ?_) (fun c74_1 => ?_)
      · exact q_vret hF hr hlocks hU hS dX3_refresh_104 ⟨⟨hfr, hI⟩, ⟨hca.me h_S h_f h_B (g_X3_refresh_k_v0 u k P Sc Bc x1 uc hk hca hz8 hz9 hz10 hz12 h_k h_S h_B h_f h_3 h_9 h_6 h_m c74_1) h_3 h_9 h_6 (hfr.1 18 (by decide)), Sc, Bc, h_S, h_B, h_f, (g_X3_refresh_k_v0 u k P Sc Bc x1 uc hk hca hz8 hz9 hz10 hz12 h_k h_S h_B h_f h_3 h_9 h_6 h_m c74_1)⟩⟩
      · refine lv_aload_n hF.1 hF.2.1 dX3_refresh_77 rfl (lv_at hl 0 rfl) ?_
        refine lv_aload_n hF.1 hF.2.1 dX3_refresh_78 rfl (lv_at hl 0 rfl) ?_
        refine q_get (v := .ref (E.2.2 99)) hF hU dX3_refresh_79 6 3 0 300 399 rfl rfl rfl rfl inX3 (by decide) (by decide) w_377 rfl rfl ?_
        refine q_get (v := .ref (E.2.2 3)) hF hU dX3_refresh_82 1 0 3 3 99 rfl rfl rfl rfl inX0 (by decide) (by decide) w_155 rfl rfl ?_
        refine lv_iload_n hF.1 hF.2.1 dX3_refresh_85 rfl (lv_at hl 1 rfl) ?_
        obtain ⟨a_2, ha_2_3_e, ha_2_3⟩ := hI.r3 x1 (by rw [(hfr.1 10 (by decide))]; exact (g_X3_refresh_k_v1 u k P Sc Bc x1 uc hk hca hz8 hz9 hz10 hz12 h_k h_S h_B h_f h_3 h_9 h_6 h_m c74_1))
        refine q_aald (v := .ref a_2) hF hU dX3_refresh_86 3 3 6 rfl rfl (by decide) rfl (g_X3_refresh_k_v2 u k P Sc Bc x1 uc hk hca hz8 hz9 hz10 hz12 h_k h_S h_B h_f h_3 h_9 h_6 h_m c74_1) (by rw [ha_2_3_e]; rfl) ?_
        have hK_4 : qKn k uc a_2 (P (x1 : Int32).toNatClampNeg) := (hk.fr hfr (by decide) (by decide)).pa (by rw [(hfr.1 10 (by decide))]; exact (g_X3_refresh_k_v3 u k P Sc Bc x1 uc hk hca hz8 hz9 hz10 hz12 h_k h_S h_B h_f h_3 h_9 h_6 h_m c74_1)) ha_2_3_e
        have hM9 := g_X3_isTaken_k l E A uc a_2 k P (P (x1 : Int32).toNatClampNeg) Sc hI ((ha_2_3).rf) (hk.fr hfr (by decide) (by decide)) hK_4 hST h_f
        have hR9 := q_runV (l := l) (e := e0) (below := bl0) (meth := me0) (R := qR 7 0 0) (cells := 0) (slots := 0) (st0 := [.ref a_2, .ref (E.2.2 399)]) (rest := []) hF hU hS hA 1 6 3 399 rfl rfl rfl hM9 w_990 w_992 w_32 w_105 w_993 (by decide +kernel) ⟨Nat.le_of_ble_eq_true rfl, Nat.le_of_ble_eq_true rfl⟩ dX3_refresh_87 rfl hl.1 rfl (Nat.le_of_ble_eq_true rfl) ⟨Nat.le_of_ble_eq_true rfl, Nat.le_of_ble_eq_true rfl⟩
        refine q_calli hR9 hU.2.2.2 hS (fun r_7 u_5 H locs hw_6 hU hS => ?_)
        obtain ⟨hw_6_e, hw_6⟩ := hw_6
        rw [hw_6_e] at hU
        have hw_6 : (r_7 = 1 ∧ (f_co (k) ((P (x1 : Int32).toNatClampNeg)))) ∨ (r_7 = 0 ∧ (¬ (f_co (k) ((P (x1 : Int32).toNatClampNeg))))) := hw_6
        rcases hw_6 with ⟨rfl, b87_8⟩ | ⟨rfl, b87_8⟩
        · refine lv_if_eq (tgt := 98) hF.1 hF.2.1 dX3_refresh_90 (by decide) (fun h9 => absurd h9 (by decide)) (fun _ => ?_)
          refine lv_aload_n hF.1 hF.2.1 dX3_refresh_93 rfl (lv_at hl 0 rfl) ?_
          refine lv_iload_n hF.1 hF.2.1 dX3_refresh_94 rfl (lv_at hl 1 rfl) ?_
          have hM9 := g_X3_meetLater_k l E A uc x1 k P Sc Bc (fun W => m_tr (m_h k P W) (k.1 1247).toNatClampNeg x1.toNatClampNeg) hI (hk.fr hfr (by decide) (by decide)) hST hBT (by rw [(hfr.1 10 (by decide))]; exact (g_X3_refresh_k_v4 u k P Sc Bc x1 uc hk hca hz8 hz9 hz10 hz12 h_k h_S h_B h_f h_3 h_9 h_6 h_m c74_1 b87_8)) h_f (g_X3_refresh_k_v5 u k P Sc Bc x1 uc hk hca hz8 hz9 hz10 hz12 h_k h_S h_B h_f h_3 h_9 h_6 h_m c74_1 b87_8) (g_X3_refresh_k_v6 u k P Sc Bc x1 uc hk hca hz8 hz9 hz10 hz12 h_k h_S h_B h_f h_3 h_9 h_6 h_m c74_1 b87_8)
          have hR9 := q_runV (l := l) (e := e0) (below := bl0) (meth := me0) (R := qR 7 0 0) (cells := 0) (slots := 0) (st0 := [.int x1, .ref (E.2.2 399)]) (rest := []) hF hU hS hA 1 6 3 399 rfl rfl rfl hM9 w_996 w_998 w_33 w_105 w_999 (by decide +kernel) ⟨Nat.le_of_ble_eq_true rfl, Nat.le_of_ble_eq_true rfl⟩ dX3_refresh_95 rfl hl.1 rfl (Nat.le_of_ble_eq_true rfl) ⟨Nat.le_of_ble_eq_true rfl, Nat.le_of_ble_eq_true rfl⟩
          refine q_callv hR9 hU.2.2.2 hS (fun u_9 H locs hw_10 hU hS => ?_)
          obtain ⟨⟨hw_10_f, hI, hw_10_d⟩, hw_10⟩ := hw_10
          have hfo := hfr
          have hfr : qFc [900, 901, 902, 908, 909, 604, 605, 606, 607, 608, 609, 311] [905, 906, 907, 601, 602, 603, 303, 304, 305] [] [904, 5010, 5011, 5012, 5013, 5014] u u_9 := hfr.trans (hw_10_f.mono (by decide) (by decide) (by decide) (by decide))
          have e_12 : u_9.1 311 = (uc.1 311) := (hw_10_f.1 311 (by decide)).trans rfl
          have e_13 : u_9.1 604 = (uc.1 604) := (hw_10_f.1 604 (by decide)).trans rfl
          have e_14 : u_9.1 605 = (uc.1 605) := (hw_10_f.1 605 (by decide)).trans rfl
          have e_15 : u_9.1 606 = (uc.1 606) := (hw_10_f.1 606 (by decide)).trans rfl
          have e_16 : u_9.1 607 = (uc.1 607) := (hw_10_f.1 607 (by decide)).trans rfl
          have e_17 : u_9.1 608 = (uc.1 608) := (hw_10_f.1 608 (by decide)).trans rfl
          have e_18 : u_9.1 609 = (uc.1 609) := (hw_10_f.1 609 (by decide)).trans rfl
          have e_19 : u_9.1 900 = (uc.1 900) := (hw_10_f.1 900 (by decide)).trans rfl
          have e_20 : u_9.1 901 = (uc.1 901) := (hw_10_f.1 901 (by decide)).trans rfl
          have e_21 : u_9.1 902 = (uc.1 902) := (hw_10_f.1 902 (by decide)).trans rfl
          have e_22 : u_9.1 908 = (uc.1 908) := (hw_10_f.1 908 (by decide)).trans rfl
          have e_23 : u_9.1 909 = (uc.1 909) := (hw_10_f.1 909 (by decide)).trans rfl
          have e_24 : u_9.2.1 601 = (uc.2.1 601) := (hw_10_f.2.1 601 (by decide)).trans rfl
          have e_25 : u_9.2.1 602 = (uc.2.1 602) := (hw_10_f.2.1 602 (by decide)).trans rfl
          have e_26 : u_9.2.1 603 = (uc.2.1 603) := (hw_10_f.2.1 603 (by decide)).trans rfl
          have e_27 : u_9.2.1 905 = (uc.2.1 905) := (hw_10_f.2.1 905 (by decide)).trans rfl
          have e_28 : u_9.2.1 906 = (uc.2.1 906) := (hw_10_f.2.1 906 (by decide)).trans rfl
          have e_29 : u_9.2.1 907 = (uc.2.1 907) := (hw_10_f.2.1 907 (by decide)).trans rfl
          have hST : qFD 10 Sc u_9 := hST.fr hw_10_f (by decide) (by decide) (by decide) (by decide) (by decide)
          have hBT : qFD 11 Bc u_9 := hBT.fr hw_10_f (by decide) (by decide) (by decide) (by decide) (by decide)
          have hw_10 : m_R (k) (Bc) (fun W => ((fun W => m_tr (m_h k P W) (k.1 1247).toNatClampNeg x1.toNatClampNeg)) W + m_sg (m_h (k) (P) W x1.toNatClampNeg) (x1.toNatClampNeg + 1) (((k).1 1247).toNatClampNeg - (x1.toNatClampNeg + 1))) (u_9.2.1 303) (u_9.2.1 304) (u_9.2.1 305) := hw_10
          refine lv_iinc (v := x1 + 1) (lv' := [(1, .int (x1 + 1)), (0, .ref (E.2.2 399))]) hF.1 hF.2.1 dX3_refresh_98 hl (k := 1) rfl rfl (by decide) rfl (fun ls hl => ?_)
          refine lv_goto (tgt := 66) hF.1 hF.2.1 dX3_refresh_101 (by decide) ?_
          exact ih Sc Bc (x1 + 1) u_9 _ _ _ hfr hI  (g_X3_refresh_k_v7 u k P Sc Bc x1 uc u_9 hk hca hz8 hz9 hz10 hz12 h_k h_S h_B h_f h_3 h_9 h_6 h_m c74_1 b87_8 hw_10) hST hBT (g_X3_refresh_k_v8 u k P Sc Bc x1 uc u_9 hk hca hz8 hz9 hz10 hz12 h_k h_S h_B h_f h_3 h_9 h_6 h_m c74_1 b87_8 hw_10) (by rw [show (u_9).1 311 = (uc.1 311) from e_12]; exact (g_X3_refresh_k_v9 u k P Sc Bc x1 uc u_9 hk hca hz8 hz9 hz10 hz12 h_k h_S h_B h_f h_3 h_9 h_6 h_m c74_1 b87_8 hw_10)) (by rw [show (u_9).1 909 = (uc.1 909) from e_23]; exact (g_X3_refresh_k_v10 u k P Sc Bc x1 uc u_9 hk hca hz8 hz9 hz10 hz12 h_k h_S h_B h_f h_3 h_9 h_6 h_m c74_1 b87_8 hw_10)) (by rw [show (u_9).1 609 = (uc.1 609) from e_18]; exact (g_X3_refresh_k_v11 u k P Sc Bc x1 uc u_9 hk hca hz8 hz9 hz10 hz12 h_k h_S h_B h_f h_3 h_9 h_6 h_m c74_1 b87_8 hw_10)) (g_X3_refresh_k_v12 u k P Sc Bc x1 uc u_9 hk hca hz8 hz9 hz10 hz12 h_k h_S h_B h_f h_3 h_9 h_6 h_m c74_1 b87_8 hw_10) (Nat.lt_of_lt_of_le (g_X3_refresh_k_v13 u k P Sc Bc x1 uc u_9 hk hca hz8 hz9 hz10 hz12 h_k h_S h_B h_f h_3 h_9 h_6 h_m c74_1 b87_8 hw_10) (Nat.lt_succ_iff.mp hmu)) hU hS (lv_sub hl [1, 0] rfl)
        · refine lv_if_eq (tgt := 98) hF.1 hF.2.1 dX3_refresh_90 (by decide) (fun _ => ?_) (fun h9 => absurd (by decide) h9)
          refine lv_iinc (v := x1 + 1) (lv' := [(1, .int (x1 + 1)), (0, .ref (E.2.2 399))]) hF.1 hF.2.1 dX3_refresh_98 hl (k := 1) rfl rfl (by decide) rfl (fun ls hl => ?_)
          refine lv_goto (tgt := 66) hF.1 hF.2.1 dX3_refresh_101 (by decide) ?_
          exact ih Sc Bc (x1 + 1) uc _ _ _ hfr hI  (g_X3_refresh_k_v14 u k P Sc Bc x1 uc hk hca hz8 hz9 hz10 hz12 h_k h_S h_B h_f h_3 h_9 h_6 h_m c74_1 b87_8) hST hBT (g_X3_refresh_k_v15 u k P Sc Bc x1 uc hk hca hz8 hz9 hz10 hz12 h_k h_S h_B h_f h_3 h_9 h_6 h_m c74_1 b87_8) (g_X3_refresh_k_v16 u k P Sc Bc x1 uc hk hca hz8 hz9 hz10 hz12 h_k h_S h_B h_f h_3 h_9 h_6 h_m c74_1 b87_8) (g_X3_refresh_k_v17 u k P Sc Bc x1 uc hk hca hz8 hz9 hz10 hz12 h_k h_S h_B h_f h_3 h_9 h_6 h_m c74_1 b87_8) (g_X3_refresh_k_v18 u k P Sc Bc x1 uc hk hca hz8 hz9 hz10 hz12 h_k h_S h_B h_f h_3 h_9 h_6 h_m c74_1 b87_8) (g_X3_refresh_k_v19 u k P Sc Bc x1 uc hk hca hz8 hz9 hz10 hz12 h_k h_S h_B h_f h_3 h_9 h_6 h_m c74_1 b87_8) (Nat.lt_of_lt_of_le (g_X3_refresh_k_v20 u k P Sc Bc x1 uc hk hca hz8 hz9 hz10 hz12 h_k h_S h_B h_f h_3 h_9 h_6 h_m c74_1 b87_8) (Nat.lt_succ_iff.mp hmu)) hU hS (lv_sub hl [1, 0] rfl)
  refine lv_aload_n hF.1 hF.2.1 dX3_refresh_0 rfl (lv_at hl 0 rfl) ?_
  refine q_get (v := .int (u.1 311)) hF hU dX3_refresh_1 6 3 11 311 399 rfl rfl rfl rfl inX3 (by decide) (by decide) w_388 rfl rfl ?_
  refine lv_aload_n hF.1 hF.2.1 dX3_refresh_4 rfl (lv_at hl 0 rfl) ?_
  refine q_get (v := .ref (E.2.2 99)) hF hU dX3_refresh_5 6 3 0 300 399 rfl rfl rfl rfl inX3 (by decide) (by decide) w_377 rfl rfl ?_
  refine q_get (v := .int (u.1 18)) hF hU dX3_refresh_8 1 0 18 18 99 rfl rfl rfl rfl inX0 (by decide) (by decide) w_190 rfl rfl ?_
  refine lv_icmp_ne (tgt := 15) hF.1 hF.2.1 dX3_refresh_11 (by decide) (fun c11_30 => ?_) (fun c11_30 => ?_)
  · refine lv_aload_n hF.1 hF.2.1 dX3_refresh_15 rfl (lv_at hl 0 rfl) ?_
    refine lv_aload_n hF.1 hF.2.1 dX3_refresh_16 rfl (lv_at hl 0 rfl) ?_
    refine q_get (v := .ref (E.2.2 99)) hF hU dX3_refresh_17 6 3 0 300 399 rfl rfl rfl rfl inX3 (by decide) (by decide) w_377 rfl rfl ?_
    refine q_get (v := .int (u.1 18)) hF hU dX3_refresh_20 1 0 18 18 99 rfl rfl rfl rfl inX0 (by decide) (by decide) w_190 rfl rfl ?_
    refine q_put hF hU hS dX3_refresh_23 6 3 11 311 399 rfl rfl rfl rfl inX3 tyX3 tyX3_ok nmX3 (by decide) (by decide) rfl w_388 rfl rfl rfl rfl (fun H locs hU hS => ?_)
    have hfr : qFc [900, 901, 902, 908, 909, 604, 605, 606, 607, 608, 609, 311] [905, 906, 907, 601, 602, 603, 303, 304, 305] [] [904, 5010, 5011, 5012, 5013, 5014] u (qsI u 311 (u.1 18)) := hfr.setI (by decide) (fun q => absurd q (by decide))
    have hI : IC E (qsI u 311 (u.1 18)) := hI.sI (by decide)
    have hST : qFD 10 S_0 (qsI u 311 (u.1 18)) := hST.sI (by decide)
    have hBT : qFD 11 B_0 (qsI u 311 (u.1 18)) := hBT.sI (by decide)
    refine lv_aload_n hF.1 hF.2.1 dX3_refresh_26 rfl (lv_at hl 0 rfl) ?_
    refine q_get (v := .ref (E.2.2 999)) hF hU dX3_refresh_27 6 3 1 301 399 rfl rfl rfl rfl inX3 (by decide) (by decide) w_378 rfl rfl ?_
    have hM9 := g_X9_refresh_k l E A (qsI u 311 (u.1 18)) k P hI (hk.fr hfr (by decide) (by decide)) (hca.1.sI (by decide))
    have hR9 := q_runV (l := l) (e := e0) (below := bl0) (meth := me0) (R := qR 7 0 0) (cells := 0) (slots := 0) (st0 := [.ref (E.2.2 999)]) (rest := []) hF hU hS hA 0 4 9 999 rfl rfl rfl hM9 w_935 w_844 w_845 w_103 w_846 (by decide +kernel) ⟨Nat.le_of_ble_eq_true rfl, Nat.le_of_ble_eq_true rfl⟩ dX3_refresh_30 rfl hl.1 rfl (Nat.le_of_ble_eq_true rfl) ⟨Nat.le_of_ble_eq_true rfl, Nat.le_of_ble_eq_true rfl⟩
    refine q_callv hR9 hU.2.2.2 hS (fun u_31 H locs hw_32 hU hS => ?_)
    obtain ⟨⟨hw_32_f, hI⟩, hw_32⟩ := hw_32
    have hfo := hfr
    have hfr : qFc [900, 901, 902, 908, 909, 604, 605, 606, 607, 608, 609, 311] [905, 906, 907, 601, 602, 603, 303, 304, 305] [] [904, 5010, 5011, 5012, 5013, 5014] u u_31 := hfr.trans (hw_32_f.mono (by decide) (by decide) (by decide) (by decide))
    have e_34 : u_31.1 311 = (u.1 18) := (hw_32_f.1 311 (by decide)).trans rfl
    have e_35 : u_31.1 604 = (u.1 604) := (hw_32_f.1 604 (by decide)).trans rfl
    have e_36 : u_31.1 605 = (u.1 605) := (hw_32_f.1 605 (by decide)).trans rfl
    have e_37 : u_31.1 606 = (u.1 606) := (hw_32_f.1 606 (by decide)).trans rfl
    have e_38 : u_31.1 607 = (u.1 607) := (hw_32_f.1 607 (by decide)).trans rfl
    have e_39 : u_31.1 608 = (u.1 608) := (hw_32_f.1 608 (by decide)).trans rfl
    have e_40 : u_31.1 609 = (u.1 609) := (hw_32_f.1 609 (by decide)).trans rfl
    have e_41 : u_31.2.1 303 = (u.2.1 303) := (hw_32_f.2.1 303 (by decide)).trans rfl
    have e_42 : u_31.2.1 304 = (u.2.1 304) := (hw_32_f.2.1 304 (by decide)).trans rfl
    have e_43 : u_31.2.1 305 = (u.2.1 305) := (hw_32_f.2.1 305 (by decide)).trans rfl
    have e_44 : u_31.2.1 601 = (u.2.1 601) := (hw_32_f.2.1 601 (by decide)).trans rfl
    have e_45 : u_31.2.1 602 = (u.2.1 602) := (hw_32_f.2.1 602 (by decide)).trans rfl
    have e_46 : u_31.2.1 603 = (u.2.1 603) := (hw_32_f.2.1 603 (by decide)).trans rfl
    have hBT : qFD 11 B_0 u_31 := hBT.fr hw_32_f (by decide) (by decide) (by decide) (by decide) (by decide)
    obtain ⟨S_47, hST, hq_48⟩ := hw_32
    have hq_48 : f_fi (k) S_47 ∧ u_31.1 909 = (u.1 18 : Int32) := by rw [(hfo.1 18 (by decide))] at hq_48; exact hq_48
    refine lv_aload_n hF.1 hF.2.1 dX3_refresh_33 rfl (lv_at hl 0 rfl) ?_
    refine q_get (v := .ref (E.2.2 699)) hF hU dX3_refresh_34 6 3 2 302 399 rfl rfl rfl rfl inX3 (by decide) (by decide) w_379 rfl rfl ?_
    have hM9 := g_X6_refresh_k l E A u_31  hI
    have hR9 := q_runV (l := l) (e := e0) (below := bl0) (meth := me0) (R := qR 7 0 0) (cells := 0) (slots := 0) (st0 := [.ref (E.2.2 699)]) (rest := []) hF hU hS hA 0 5 6 699 rfl rfl rfl hM9 w_936 w_937 w_938 w_104 w_939 (by decide +kernel) ⟨Nat.le_of_ble_eq_true rfl, Nat.le_of_ble_eq_true rfl⟩ dX3_refresh_37 rfl hl.1 rfl (Nat.le_of_ble_eq_true rfl) ⟨Nat.le_of_ble_eq_true rfl, Nat.le_of_ble_eq_true rfl⟩
    refine q_callv hR9 hU.2.2.2 hS (fun u_49 H locs hw_50 hU hS => ?_)
    obtain ⟨⟨hw_50_f, hI⟩, hw_50⟩ := hw_50
    have hfo := hfr
    have hfr : qFc [900, 901, 902, 908, 909, 604, 605, 606, 607, 608, 609, 311] [905, 906, 907, 601, 602, 603, 303, 304, 305] [] [904, 5010, 5011, 5012, 5013, 5014] u u_49 := hfr.trans (hw_50_f.mono (by decide) (by decide) (by decide) (by decide))
    have e_52 : u_49.1 311 = (u.1 18) := (hw_50_f.1 311 (by decide)).trans e_34
    have e_53 : u_49.1 900 = (u_31.1 900) := (hw_50_f.1 900 (by decide)).trans rfl
    have e_54 : u_49.1 901 = (u_31.1 901) := (hw_50_f.1 901 (by decide)).trans rfl
    have e_55 : u_49.1 902 = (u_31.1 902) := (hw_50_f.1 902 (by decide)).trans rfl
    have e_56 : u_49.1 908 = (u_31.1 908) := (hw_50_f.1 908 (by decide)).trans rfl
    have e_57 : u_49.1 909 = (u_31.1 909) := (hw_50_f.1 909 (by decide)).trans rfl
    have e_58 : u_49.2.1 303 = (u.2.1 303) := (hw_50_f.2.1 303 (by decide)).trans e_41
    have e_59 : u_49.2.1 304 = (u.2.1 304) := (hw_50_f.2.1 304 (by decide)).trans e_42
    have e_60 : u_49.2.1 305 = (u.2.1 305) := (hw_50_f.2.1 305 (by decide)).trans e_43
    have e_61 : u_49.2.1 905 = (u_31.2.1 905) := (hw_50_f.2.1 905 (by decide)).trans rfl
    have e_62 : u_49.2.1 906 = (u_31.2.1 906) := (hw_50_f.2.1 906 (by decide)).trans rfl
    have e_63 : u_49.2.1 907 = (u_31.2.1 907) := (hw_50_f.2.1 907 (by decide)).trans rfl
    have hST : qFD 10 S_47 u_49 := hST.fr hw_50_f (by decide) (by decide) (by decide) (by decide) (by decide)
    have hq_64 : u_49.1 609 = u.1 18 := hw_50.1.trans (hfo.1 18 (by decide))
    obtain ⟨B_65, hBT⟩ := (hk.fr hfr (by decide) (by decide)).fd hI 11 (by decide)
    refine lv_aload_n hF.1 hF.2.1 dX3_refresh_40 rfl (lv_at hl 0 rfl) ?_
    refine q_get (v := .ref (E.2.2 303)) hF hU dX3_refresh_41 6 3 3 303 399 rfl rfl rfl rfl inX3 (by decide) (by decide) w_380 rfl rfl ?_
    refine lv_iconst (v := 0) hF.1 hF.2.1 dX3_refresh_44 (by decide) ?_
    have hM9 := g_fill_303 l E A u_49 0 hI
    have hR9 := q_runS (l := l) (e := e0) (below := bl0) (meth := me0) (R := qR 7 0 0) (cells := 0) (slots := 0) (st0 := [.int 0, .ref (E.2.2 303)]) (rest := []) hF hU hS hA 2 hM9 w_989 w_941 w_112 w_942 (by decide +kernel) ⟨Nat.le_of_ble_eq_true rfl, Nat.le_of_ble_eq_true rfl⟩ dX3_refresh_45 rfl hl.1 rfl (Nat.le_of_ble_eq_true rfl) ⟨Nat.le_of_ble_eq_true rfl, Nat.le_of_ble_eq_true rfl⟩
    refine q_callv hR9 hU.2.2.2 hS (fun u_66 H locs hw_67 hU hS => ?_)
    obtain ⟨⟨hw_67_f, hI, hw_67_d⟩, hw_67⟩ := hw_67
    have hfo := hfr
    have hfr : qFc [900, 901, 902, 908, 909, 604, 605, 606, 607, 608, 609, 311] [905, 906, 907, 601, 602, 603, 303, 304, 305] [] [904, 5010, 5011, 5012, 5013, 5014] u u_66 := hfr.trans (hw_67_f.mono (by decide) (by decide) (by decide) (by decide))
    have e_69 : u_66.1 311 = (u.1 18) := (hw_67_f.1 311 (by decide)).trans e_52
    have e_70 : u_66.1 604 = (u_49.1 604) := (hw_67_f.1 604 (by decide)).trans rfl
    have e_71 : u_66.1 605 = (u_49.1 605) := (hw_67_f.1 605 (by decide)).trans rfl
    have e_72 : u_66.1 606 = (u_49.1 606) := (hw_67_f.1 606 (by decide)).trans rfl
    have e_73 : u_66.1 607 = (u_49.1 607) := (hw_67_f.1 607 (by decide)).trans rfl
    have e_74 : u_66.1 608 = (u_49.1 608) := (hw_67_f.1 608 (by decide)).trans rfl
    have e_75 : u_66.1 609 = (u_49.1 609) := (hw_67_f.1 609 (by decide)).trans rfl
    have e_76 : u_66.1 900 = (u_31.1 900) := (hw_67_f.1 900 (by decide)).trans e_53
    have e_77 : u_66.1 901 = (u_31.1 901) := (hw_67_f.1 901 (by decide)).trans e_54
    have e_78 : u_66.1 902 = (u_31.1 902) := (hw_67_f.1 902 (by decide)).trans e_55
    have e_79 : u_66.1 908 = (u_31.1 908) := (hw_67_f.1 908 (by decide)).trans e_56
    have e_80 : u_66.1 909 = (u_31.1 909) := (hw_67_f.1 909 (by decide)).trans e_57
    have e_81 : u_66.2.1 304 = (u.2.1 304) := (hw_67_f.2.1 304 (by decide)).trans e_59
    have e_82 : u_66.2.1 305 = (u.2.1 305) := (hw_67_f.2.1 305 (by decide)).trans e_60
    have e_83 : u_66.2.1 601 = (u_49.2.1 601) := (hw_67_f.2.1 601 (by decide)).trans rfl
    have e_84 : u_66.2.1 602 = (u_49.2.1 602) := (hw_67_f.2.1 602 (by decide)).trans rfl
    have e_85 : u_66.2.1 603 = (u_49.2.1 603) := (hw_67_f.2.1 603 (by decide)).trans rfl
    have e_86 : u_66.2.1 905 = (u_31.2.1 905) := (hw_67_f.2.1 905 (by decide)).trans e_61
    have e_87 : u_66.2.1 906 = (u_31.2.1 906) := (hw_67_f.2.1 906 (by decide)).trans e_62
    have e_88 : u_66.2.1 907 = (u_31.2.1 907) := (hw_67_f.2.1 907 (by decide)).trans e_63
    have hST : qFD 10 S_47 u_66 := hST.fr hw_67_f (by decide) (by decide) (by decide) (by decide) (by decide)
    have hBT : qFD 11 B_65 u_66 := hBT.fr hw_67_f (by decide) (by decide) (by decide) (by decide) (by decide)
    have hw_67 : ∀ j : Nat, j < 8 → u_66.2.1 303 j = (0 : Int32) := hw_67
    refine lv_aload_n hF.1 hF.2.1 dX3_refresh_48 rfl (lv_at hl 0 rfl) ?_
    refine q_get (v := .ref (E.2.2 304)) hF hU dX3_refresh_49 6 3 4 304 399 rfl rfl rfl rfl inX3 (by decide) (by decide) w_381 rfl rfl ?_
    refine lv_iconst (v := 0) hF.1 hF.2.1 dX3_refresh_52 (by decide) ?_
    have hM9 := g_fill_304 l E A u_66 0 hI
    have hR9 := q_runS (l := l) (e := e0) (below := bl0) (meth := me0) (R := qR 7 0 0) (cells := 0) (slots := 0) (st0 := [.int 0, .ref (E.2.2 304)]) (rest := []) hF hU hS hA 2 hM9 w_989 w_941 w_112 w_942 (by decide +kernel) ⟨Nat.le_of_ble_eq_true rfl, Nat.le_of_ble_eq_true rfl⟩ dX3_refresh_53 rfl hl.1 rfl (Nat.le_of_ble_eq_true rfl) ⟨Nat.le_of_ble_eq_true rfl, Nat.le_of_ble_eq_true rfl⟩
    refine q_callv hR9 hU.2.2.2 hS (fun u_89 H locs hw_90 hU hS => ?_)
    obtain ⟨⟨hw_90_f, hI, hw_90_d⟩, hw_90⟩ := hw_90
    have hfo := hfr
    have hfr : qFc [900, 901, 902, 908, 909, 604, 605, 606, 607, 608, 609, 311] [905, 906, 907, 601, 602, 603, 303, 304, 305] [] [904, 5010, 5011, 5012, 5013, 5014] u u_89 := hfr.trans (hw_90_f.mono (by decide) (by decide) (by decide) (by decide))
    have e_92 : u_89.1 311 = (u.1 18) := (hw_90_f.1 311 (by decide)).trans e_69
    have e_93 : u_89.1 604 = (u_49.1 604) := (hw_90_f.1 604 (by decide)).trans e_70
    have e_94 : u_89.1 605 = (u_49.1 605) := (hw_90_f.1 605 (by decide)).trans e_71
    have e_95 : u_89.1 606 = (u_49.1 606) := (hw_90_f.1 606 (by decide)).trans e_72
    have e_96 : u_89.1 607 = (u_49.1 607) := (hw_90_f.1 607 (by decide)).trans e_73
    have e_97 : u_89.1 608 = (u_49.1 608) := (hw_90_f.1 608 (by decide)).trans e_74
    have e_98 : u_89.1 609 = (u_49.1 609) := (hw_90_f.1 609 (by decide)).trans e_75
    have e_99 : u_89.1 900 = (u_31.1 900) := (hw_90_f.1 900 (by decide)).trans e_76
    have e_100 : u_89.1 901 = (u_31.1 901) := (hw_90_f.1 901 (by decide)).trans e_77
    have e_101 : u_89.1 902 = (u_31.1 902) := (hw_90_f.1 902 (by decide)).trans e_78
    have e_102 : u_89.1 908 = (u_31.1 908) := (hw_90_f.1 908 (by decide)).trans e_79
    have e_103 : u_89.1 909 = (u_31.1 909) := (hw_90_f.1 909 (by decide)).trans e_80
    have e_104 : u_89.2.1 303 = (u_66.2.1 303) := (hw_90_f.2.1 303 (by decide)).trans rfl
    have e_105 : u_89.2.1 305 = (u.2.1 305) := (hw_90_f.2.1 305 (by decide)).trans e_82
    have e_106 : u_89.2.1 601 = (u_49.2.1 601) := (hw_90_f.2.1 601 (by decide)).trans e_83
    have e_107 : u_89.2.1 602 = (u_49.2.1 602) := (hw_90_f.2.1 602 (by decide)).trans e_84
    have e_108 : u_89.2.1 603 = (u_49.2.1 603) := (hw_90_f.2.1 603 (by decide)).trans e_85
    have e_109 : u_89.2.1 905 = (u_31.2.1 905) := (hw_90_f.2.1 905 (by decide)).trans e_86
    have e_110 : u_89.2.1 906 = (u_31.2.1 906) := (hw_90_f.2.1 906 (by decide)).trans e_87
    have e_111 : u_89.2.1 907 = (u_31.2.1 907) := (hw_90_f.2.1 907 (by decide)).trans e_88
    have hST : qFD 10 S_47 u_89 := hST.fr hw_90_f (by decide) (by decide) (by decide) (by decide) (by decide)
    have hBT : qFD 11 B_65 u_89 := hBT.fr hw_90_f (by decide) (by decide) (by decide) (by decide) (by decide)
    have hw_90 : ∀ j : Nat, j < 8 → u_89.2.1 304 j = (0 : Int32) := hw_90
    refine lv_aload_n hF.1 hF.2.1 dX3_refresh_56 rfl (lv_at hl 0 rfl) ?_
    refine q_get (v := .ref (E.2.2 305)) hF hU dX3_refresh_57 6 3 5 305 399 rfl rfl rfl rfl inX3 (by decide) (by decide) w_382 rfl rfl ?_
    refine lv_iconst (v := 0) hF.1 hF.2.1 dX3_refresh_60 (by decide) ?_
    have hM9 := g_fill_305 l E A u_89 0 hI
    have hR9 := q_runS (l := l) (e := e0) (below := bl0) (meth := me0) (R := qR 7 0 0) (cells := 0) (slots := 0) (st0 := [.int 0, .ref (E.2.2 305)]) (rest := []) hF hU hS hA 2 hM9 w_989 w_941 w_112 w_942 (by decide +kernel) ⟨Nat.le_of_ble_eq_true rfl, Nat.le_of_ble_eq_true rfl⟩ dX3_refresh_61 rfl hl.1 rfl (Nat.le_of_ble_eq_true rfl) ⟨Nat.le_of_ble_eq_true rfl, Nat.le_of_ble_eq_true rfl⟩
    refine q_callv hR9 hU.2.2.2 hS (fun u_112 H locs hw_113 hU hS => ?_)
    obtain ⟨⟨hw_113_f, hI, hw_113_d⟩, hw_113⟩ := hw_113
    have hfo := hfr
    have hfr : qFc [900, 901, 902, 908, 909, 604, 605, 606, 607, 608, 609, 311] [905, 906, 907, 601, 602, 603, 303, 304, 305] [] [904, 5010, 5011, 5012, 5013, 5014] u u_112 := hfr.trans (hw_113_f.mono (by decide) (by decide) (by decide) (by decide))
    have e_115 : u_112.1 311 = (u.1 18) := (hw_113_f.1 311 (by decide)).trans e_92
    have e_116 : u_112.1 604 = (u_49.1 604) := (hw_113_f.1 604 (by decide)).trans e_93
    have e_117 : u_112.1 605 = (u_49.1 605) := (hw_113_f.1 605 (by decide)).trans e_94
    have e_118 : u_112.1 606 = (u_49.1 606) := (hw_113_f.1 606 (by decide)).trans e_95
    have e_119 : u_112.1 607 = (u_49.1 607) := (hw_113_f.1 607 (by decide)).trans e_96
    have e_120 : u_112.1 608 = (u_49.1 608) := (hw_113_f.1 608 (by decide)).trans e_97
    have e_121 : u_112.1 609 = (u_49.1 609) := (hw_113_f.1 609 (by decide)).trans e_98
    have e_122 : u_112.1 900 = (u_31.1 900) := (hw_113_f.1 900 (by decide)).trans e_99
    have e_123 : u_112.1 901 = (u_31.1 901) := (hw_113_f.1 901 (by decide)).trans e_100
    have e_124 : u_112.1 902 = (u_31.1 902) := (hw_113_f.1 902 (by decide)).trans e_101
    have e_125 : u_112.1 908 = (u_31.1 908) := (hw_113_f.1 908 (by decide)).trans e_102
    have e_126 : u_112.1 909 = (u_31.1 909) := (hw_113_f.1 909 (by decide)).trans e_103
    have e_127 : u_112.2.1 303 = (u_66.2.1 303) := (hw_113_f.2.1 303 (by decide)).trans e_104
    have e_128 : u_112.2.1 304 = (u_89.2.1 304) := (hw_113_f.2.1 304 (by decide)).trans rfl
    have e_129 : u_112.2.1 601 = (u_49.2.1 601) := (hw_113_f.2.1 601 (by decide)).trans e_106
    have e_130 : u_112.2.1 602 = (u_49.2.1 602) := (hw_113_f.2.1 602 (by decide)).trans e_107
    have e_131 : u_112.2.1 603 = (u_49.2.1 603) := (hw_113_f.2.1 603 (by decide)).trans e_108
    have e_132 : u_112.2.1 905 = (u_31.2.1 905) := (hw_113_f.2.1 905 (by decide)).trans e_109
    have e_133 : u_112.2.1 906 = (u_31.2.1 906) := (hw_113_f.2.1 906 (by decide)).trans e_110
    have e_134 : u_112.2.1 907 = (u_31.2.1 907) := (hw_113_f.2.1 907 (by decide)).trans e_111
    have hST : qFD 10 S_47 u_112 := hST.fr hw_113_f (by decide) (by decide) (by decide) (by decide) (by decide)
    have hBT : qFD 11 B_65 u_112 := hBT.fr hw_113_f (by decide) (by decide) (by decide) (by decide) (by decide)
    have hw_113 : ∀ j : Nat, j < 64 → u_112.2.1 305 j = (0 : Int32) := hw_113
    refine lv_iconst (v := 0) hF.1 hF.2.1 dX3_refresh_64 (by decide) ?_
    refine lv_istore_n (lv' := [(1, .int 0), (0, .ref (E.2.2 399))]) hF.1 hF.2.1 dX3_refresh_65 rfl hl (by decide) rfl (fun ls hl => ?_)
    exact (main _) S_47 B_65 (0 : Int32) u_112 _ _ _ hfr hI  (g_X3_refresh_k_v21 u k P u_31 S_47 u_49 u_66 u_89 u_112 hk hca hz8 hz9 hz10 hz12 c11_30 hq_48 hq_64 hw_67 hw_90 hw_113) hST hBT (g_X3_refresh_k_v22 u k P u_31 S_47 u_49 u_66 u_89 u_112 hk hca hz8 hz9 hz10 hz12 c11_30 hq_48 hq_64 hw_67 hw_90 hw_113) (by rw [show (u_112).1 311 = (u.1 18) from e_115]; first | done | exact (g_X3_refresh_k_v23 u k P u_31 S_47 u_49 u_66 u_89 u_112 hk hca hz8 hz9 hz10 hz12 c11_30 hq_48 hq_64 hw_67 hw_90 hw_113)) (by rw [show (u_112).1 909 = (u_31.1 909) from e_126]; exact (g_X3_refresh_k_v24 u k P u_31 S_47 u_49 u_66 u_89 u_112 hk hca hz8 hz9 hz10 hz12 c11_30 hq_48 hq_64 hw_67 hw_90 hw_113)) (by rw [show (u_112).1 609 = (u_49.1 609) from e_121]; exact (g_X3_refresh_k_v25 u k P u_31 S_47 u_49 u_66 u_89 u_112 hk hca hz8 hz9 hz10 hz12 c11_30 hq_48 hq_64 hw_67 hw_90 hw_113)) (by rw [show (u_112).2.1 303 = (u_66.2.1 303) from e_127, show (u_112).2.1 304 = (u_89.2.1 304) from e_128]; exact (g_X3_refresh_k_v26 u k P u_31 S_47 u_49 B_65 u_66 u_89 u_112 hk hca hz8 hz9 hz10 hz12 c11_30 hq_48 hq_64 hw_67 hw_90 hw_113)) (Nat.lt_succ_self _) hU hS (lv_sub hl [1, 0] rfl)
  · obtain ⟨hq_9, hq_6, B_9, hBT, hm9⟩ := hca.2.1.2 c11_30
    obtain ⟨S_9, hST, hfi9⟩ := hca.1.use hq_9
    exact q_vret hF hr hlocks hU hS dX3_refresh_14 ⟨⟨hfr, hI⟩, ⟨hca, S_9, B_9, hST, hBT, hfi9, hm9⟩⟩
set_option maxRecDepth 100000 in
theorem g_X3_meetingsOf_k_v0 (u : qS) (x : Int32) (y : Int32) (k : qS) (P : Nat → Int32) (hk : CT k P u) (hx : 0 ≤ x ∧ x < u.1 9) (hy : 0 ≤ y ∧ y < u.1 9) (hz8 : 0 ≤ u.1 8 ∧ u.1 8 ≤ 20) (hz9 : 0 ≤ u.1 9 ∧ u.1 9 ≤ 8) (hz10 : 0 ≤ u.1 10 ∧ u.1 10 ≤ 120) (hz12 : 0 ≤ u.1 12 ∧ u.1 12 ≤ 16) : vp_in ((x * 8) + y) 64 := by
  have ez0 : (x * 8 : Int32).toInt = (x : Int32).toInt * (8 : Int32).toInt := g_mul (by (try simp only [g_m1, Int32.lt_iff_toInt_lt, Int32.le_iff_toInt_le, ← Int32.toInt_inj, Int32.reduceToInt] at *); omega) (by (try simp only [g_m1, Int32.lt_iff_toInt_lt, Int32.le_iff_toInt_le, ← Int32.toInt_inj, Int32.reduceToInt] at *); omega)
  have ez1 : ((x * 8) + y : Int32).toInt = (x * 8 : Int32).toInt + (y : Int32).toInt := g_add (by (try simp only [g_m1, Int32.lt_iff_toInt_lt, Int32.le_iff_toInt_le, ← Int32.toInt_inj, Int32.reduceToInt] at *); omega) (by (try simp only [g_m1, Int32.lt_iff_toInt_lt, Int32.le_iff_toInt_le, ← Int32.toInt_inj, Int32.reduceToInt] at *); omega)
  refine g_in ?_ ?_ <;> ((try simp only [g_m1, Int32.lt_iff_toInt_lt, Int32.le_iff_toInt_le, ← Int32.toInt_inj, Int32.reduceToInt] at *); omega)
set_option maxRecDepth 100000 in
theorem g_X3_meetingsOf_k_v1 (u : qS) (x : Int32) (y : Int32) (k : qS) (P : Nat → Int32) (hk : CT k P u) (hx : 0 ≤ x ∧ x < u.1 9) (hy : 0 ≤ y ∧ y < u.1 9) (hz8 : 0 ≤ u.1 8 ∧ u.1 8 ≤ 20) (hz9 : 0 ≤ u.1 9 ∧ u.1 9 ≤ 8) (hz10 : 0 ≤ u.1 10 ∧ u.1 10 ≤ 120) (hz12 : 0 ≤ u.1 12 ∧ u.1 12 ≤ 16) : (u.2.1 305 ((x * 8) + y : Int32).toNatClampNeg : Int32) = u.2.1 305 (x * 8 + y).toNatClampNeg := by
  rfl
set_option maxHeartbeats 1000000 in
set_option maxRecDepth 100000 in
theorem g_X3_meetingsOf_k (l : Launch) (E : qE) (A : Nat → Prop) (u : qS) (x : Int32) (y : Int32) (k : qS) (P : Nat → Int32) (hI : IC E u) (hk : CT k P u) (hx : 0 ≤ x ∧ x < u.1 9) (hy : 0 ≤ y ∧ y < u.1 9) : Met l yX3_meetingsOf (uws yX3_meetingsOf cX3_meetingsOf 3 (some .int)) (qR 0 0 0) (qPc E A 0 u [.ref (E.2.2 399), .int x, .int y]) (qQi E A 0 (fun r u1 => u1 = u ∧ (r = u.2.1 305 (x * 8 + y).toNatClampNeg))) 0 0 A := by
  refine q_met (own := RX3) (f := 0) [.ref (E.2.2 399), .int x, .int y] (by decide) (Nat.le_of_ble_eq_true rfl) rfl ?_
  intro p0 e0 s0 m0 bl0 me0 cd0 ls hF hr hlocks hU hS hA hl
  have hl : lv_has ls 3 [(0, .ref (E.2.2 399)), (1, .int x), (2, .int y)] := hl
  have hz8 : 0 ≤ u.1 8 ∧ u.1 8 ≤ 20 := hI.1.s8
  have hz9 : 0 ≤ u.1 9 ∧ u.1 9 ≤ 8 := hI.1.s9
  have hz10 : 0 ≤ u.1 10 ∧ u.1 10 ≤ 120 := hI.1.s10
  have hz12 : 0 ≤ u.1 12 ∧ u.1 12 ≤ 16 := hI.1.s12
  refine lv_aload_n hF.1 hF.2.1 dX3_meetingsOf_0 rfl (lv_at hl 0 rfl) ?_
  refine q_get (v := .ref (E.2.2 305)) hF hU dX3_meetingsOf_1 6 3 5 305 399 rfl rfl rfl rfl inX3 (by decide) (by decide) w_382 rfl rfl ?_
  refine lv_iload_n hF.1 hF.2.1 dX3_meetingsOf_4 rfl (lv_at hl 1 rfl) ?_
  refine lv_bipush (v := 8) hF.1 hF.2.1 dX3_meetingsOf_5 (by decide) ?_
  refine lv_imul hF.1 hF.2.1 dX3_meetingsOf_7 ?_
  refine lv_iload_n hF.1 hF.2.1 dX3_meetingsOf_8 rfl (lv_at hl 2 rfl) ?_
  refine lv_iadd hF.1 hF.2.1 dX3_meetingsOf_9 ?_
  refine q_iald (v := u.2.1 305 ((x * 8) + y : Int32).toNatClampNeg) hF hU dX3_meetingsOf_10 20 305 rfl rfl (g_X3_meetingsOf_k_v0 u x y k P hk hx hy hz8 hz9 hz10 hz12) rfl ?_
  exact q_iret hF hr rfl hlocks hU hS dX3_meetingsOf_11 ⟨rfl, (g_X3_meetingsOf_k_v1 u x y k P hk hx hy hz8 hz9 hz10 hz12)⟩
set_option maxRecDepth 100000 in
theorem g_X3_isMet_k_v0 (u : qS) (x : Int32) (k : qS) (P : Nat → Int32) (hk : CT k P u) (hx : 0 ≤ x ∧ x < u.1 8) (hz8 : 0 ≤ u.1 8 ∧ u.1 8 ≤ 20) (hz9 : 0 ≤ u.1 9 ∧ u.1 9 ≤ 8) (hz10 : 0 ≤ u.1 10 ∧ u.1 10 ≤ 120) (hz12 : 0 ≤ u.1 12 ∧ u.1 12 ≤ 16) : vp_in (x) 20 := by
  refine g_in ?_ ?_ <;> ((try simp only [g_m1, Int32.lt_iff_toInt_lt, Int32.le_iff_toInt_le, ← Int32.toInt_inj, Int32.toInt_add, Int32.toInt_sub, Int32.toInt_mul, Int32.toInt_neg, Int32.reduceToInt, g_bm, g_bm'] at *); omega)
set_option maxRecDepth 100000 in
theorem g_X3_isMet_k_v1 (u : qS) (x : Int32) (k : qS) (P : Nat → Int32) (hk : CT k P u) (hx : 0 ≤ x ∧ x < u.1 8) (hz8 : 0 ≤ u.1 8 ∧ u.1 8 ≤ 20) (hz9 : 0 ≤ u.1 9 ∧ u.1 9 ≤ 8) (hz10 : 0 ≤ u.1 10 ∧ u.1 10 ≤ 120) (hz12 : 0 ≤ u.1 12 ∧ u.1 12 ≤ 16) (c6_1 : (u.2.1 307 (x : Int32).toNatClampNeg : Int32) ≤ 0) : (0 = (1 : Int32) ∧ (0 < u.2.1 307 x.toNatClampNeg)) ∨ (0 = (0 : Int32) ∧ ¬ (0 < u.2.1 307 x.toNatClampNeg)) := by
  first | omega | ((try simp only [g_m1, Int32.lt_iff_toInt_lt, Int32.le_iff_toInt_le, ← Int32.toInt_inj, Int32.reduceToInt] at *); omega) | ((try simp only [g_m1, Int32.lt_iff_toInt_lt, Int32.le_iff_toInt_le, ← Int32.toInt_inj, Int32.reduceToInt] at *); omega) | ((try simp only [g_m1, Int32.lt_iff_toInt_lt, Int32.le_iff_toInt_le, ← Int32.toInt_inj, Int32.toInt_add, Int32.toInt_sub, Int32.toInt_mul, Int32.toInt_neg, Int32.reduceToInt, g_bm, g_bm'] at *); omega) | (have qr1 := g_rng x; (try simp only [g_m1, Int32.lt_iff_toInt_lt, Int32.le_iff_toInt_le, ← Int32.toInt_inj, Int32.toInt_add, Int32.toInt_sub, Int32.toInt_mul, Int32.toInt_neg, Int32.reduceToInt, g_bm, g_bm'] at *); omega) | (simp only [g_m1, Int32.lt_iff_toInt_lt, Int32.le_iff_toInt_le, ← Int32.toInt_inj, Int32.toInt_add, Int32.toInt_sub, Int32.toInt_mul, Int32.toInt_neg, Int32.reduceToInt, g_bm, g_bm'] at *; simp at *; omega) | (simp_all; done)
set_option maxRecDepth 100000 in
theorem g_X3_isMet_k_v2 (u : qS) (x : Int32) (k : qS) (P : Nat → Int32) (hk : CT k P u) (hx : 0 ≤ x ∧ x < u.1 8) (hz8 : 0 ≤ u.1 8 ∧ u.1 8 ≤ 20) (hz9 : 0 ≤ u.1 9 ∧ u.1 9 ≤ 8) (hz10 : 0 ≤ u.1 10 ∧ u.1 10 ≤ 120) (hz12 : 0 ≤ u.1 12 ∧ u.1 12 ≤ 16) (c6_1 : ¬ (u.2.1 307 (x : Int32).toNatClampNeg : Int32) ≤ 0) : (1 = (1 : Int32) ∧ (0 < u.2.1 307 x.toNatClampNeg)) ∨ (1 = (0 : Int32) ∧ ¬ (0 < u.2.1 307 x.toNatClampNeg)) := by
  first | omega | ((try simp only [g_m1, Int32.lt_iff_toInt_lt, Int32.le_iff_toInt_le, ← Int32.toInt_inj, Int32.reduceToInt] at *); omega) | ((try simp only [g_m1, Int32.lt_iff_toInt_lt, Int32.le_iff_toInt_le, ← Int32.toInt_inj, Int32.reduceToInt] at *); omega) | ((try simp only [g_m1, Int32.lt_iff_toInt_lt, Int32.le_iff_toInt_le, ← Int32.toInt_inj, Int32.toInt_add, Int32.toInt_sub, Int32.toInt_mul, Int32.toInt_neg, Int32.reduceToInt, g_bm, g_bm'] at *); omega) | (have qr1 := g_rng x; (try simp only [g_m1, Int32.lt_iff_toInt_lt, Int32.le_iff_toInt_le, ← Int32.toInt_inj, Int32.toInt_add, Int32.toInt_sub, Int32.toInt_mul, Int32.toInt_neg, Int32.reduceToInt, g_bm, g_bm'] at *); omega) | (simp only [g_m1, Int32.lt_iff_toInt_lt, Int32.le_iff_toInt_le, ← Int32.toInt_inj, Int32.toInt_add, Int32.toInt_sub, Int32.toInt_mul, Int32.toInt_neg, Int32.reduceToInt, g_bm, g_bm'] at *; simp at *; omega) | (simp_all; done)
set_option maxHeartbeats 1000000 in
set_option maxRecDepth 100000 in
theorem g_X3_isMet_k (l : Launch) (E : qE) (A : Nat → Prop) (u : qS) (x : Int32) (k : qS) (P : Nat → Int32) (hI : IC E u) (hk : CT k P u) (hx : 0 ≤ x ∧ x < u.1 8) : Met l yX3_isMet (uws yX3_isMet cX3_isMet 2 (some .boolean)) (qR 0 0 0) (qPc E A 0 u [.ref (E.2.2 399), .int x]) (qQi E A 0 (fun r u1 => u1 = u ∧ ((r = 1 ∧ (0 < u.2.1 307 x.toNatClampNeg)) ∨ (r = 0 ∧ ¬ (0 < u.2.1 307 x.toNatClampNeg))))) 0 0 A := by
  refine q_met (own := RX3) (f := 0) [.ref (E.2.2 399), .int x] (by decide) (Nat.le_of_ble_eq_true rfl) rfl ?_
  intro p0 e0 s0 m0 bl0 me0 cd0 ls hF hr hlocks hU hS hA hl
  have hl : lv_has ls 2 [(0, .ref (E.2.2 399)), (1, .int x)] := hl
  have hz8 : 0 ≤ u.1 8 ∧ u.1 8 ≤ 20 := hI.1.s8
  have hz9 : 0 ≤ u.1 9 ∧ u.1 9 ≤ 8 := hI.1.s9
  have hz10 : 0 ≤ u.1 10 ∧ u.1 10 ≤ 120 := hI.1.s10
  have hz12 : 0 ≤ u.1 12 ∧ u.1 12 ≤ 16 := hI.1.s12
  refine lv_aload_n hF.1 hF.2.1 dX3_isMet_0 rfl (lv_at hl 0 rfl) ?_
  refine q_get (v := .ref (E.2.2 307)) hF hU dX3_isMet_1 6 3 7 307 399 rfl rfl rfl rfl inX3 (by decide) (by decide) w_384 rfl rfl ?_
  refine lv_iload_n hF.1 hF.2.1 dX3_isMet_4 rfl (lv_at hl 1 rfl) ?_
  refine q_iald (v := u.2.1 307 (x : Int32).toNatClampNeg) hF hU dX3_isMet_5 22 307 rfl rfl (g_X3_isMet_k_v0 u x k P hk hx hz8 hz9 hz10 hz12) rfl ?_
  refine lv_if_le (tgt := 13) hF.1 hF.2.1 dX3_isMet_6 (by decide) (fun c6_1 => ?_) (fun c6_1 => ?_)
  · refine lv_iconst (v := 0) hF.1 hF.2.1 dX3_isMet_13 (by decide) ?_
    exact q_iret hF hr (by decide) hlocks hU hS dX3_isMet_14 ⟨rfl, (g_X3_isMet_k_v1 u x k P hk hx hz8 hz9 hz10 hz12 c6_1)⟩
  · refine lv_iconst (v := 1) hF.1 hF.2.1 dX3_isMet_9 (by decide) ?_
    refine lv_goto (tgt := 14) hF.1 hF.2.1 dX3_isMet_10 (by decide) ?_
    exact q_iret hF hr (by decide) hlocks hU hS dX3_isMet_14 ⟨rfl, (g_X3_isMet_k_v2 u x k P hk hx hz8 hz9 hz10 hz12 c6_1)⟩
set_option maxRecDepth 100000 in
theorem g_X3_doubtOf_k_v0 (u : qS) (x : Int32) (k : qS) (P : Nat → Int32) (hk : CT k P u) (hx : 0 ≤ x ∧ x < u.1 8) (hz8 : 0 ≤ u.1 8 ∧ u.1 8 ≤ 20) (hz9 : 0 ≤ u.1 9 ∧ u.1 9 ≤ 8) (hz10 : 0 ≤ u.1 10 ∧ u.1 10 ≤ 120) (hz12 : 0 ≤ u.1 12 ∧ u.1 12 ≤ 16) : vp_in (x) 20 := by
  refine g_in ?_ ?_ <;> ((try simp only [g_m1, Int32.lt_iff_toInt_lt, Int32.le_iff_toInt_le, ← Int32.toInt_inj, Int32.toInt_add, Int32.toInt_sub, Int32.toInt_mul, Int32.toInt_neg, Int32.reduceToInt, g_bm, g_bm'] at *); omega)
set_option maxRecDepth 100000 in
theorem g_X3_doubtOf_k_v1 (u : qS) (x : Int32) (y : Int32) (k : qS) (P : Nat → Int32) (hk : CT k P u) (hx : 0 ≤ x ∧ x < u.1 8) (hz8 : 0 ≤ u.1 8 ∧ u.1 8 ≤ 20) (hz9 : 0 ≤ u.1 9 ∧ u.1 9 ≤ 8) (hz10 : 0 ≤ u.1 10 ∧ u.1 10 ≤ 120) (hz12 : 0 ≤ u.1 12 ∧ u.1 12 ≤ 16) (c6_1 : (u.2.1 307 (x : Int32).toNatClampNeg : Int32) ≤ 0) : (0 : Int32) = if 0 < u.2.1 307 x.toNatClampNeg then 100 * y / u.2.1 307 x.toNatClampNeg else 0 := by
  first | rw [if_pos (Int32.not_le.mp (by assumption))] | rw [if_neg (Int32.not_lt.mpr (by assumption))] | rw [if_pos (by assumption)] | rw [if_neg (by assumption)]
set_option maxRecDepth 100000 in
theorem g_X3_doubtOf_k_v2 (u : qS) (x : Int32) (k : qS) (P : Nat → Int32) (hk : CT k P u) (hx : 0 ≤ x ∧ x < u.1 8) (hz8 : 0 ≤ u.1 8 ∧ u.1 8 ≤ 20) (hz9 : 0 ≤ u.1 9 ∧ u.1 9 ≤ 8) (hz10 : 0 ≤ u.1 10 ∧ u.1 10 ≤ 120) (hz12 : 0 ≤ u.1 12 ∧ u.1 12 ≤ 16) (c6_1 : ¬ (u.2.1 307 (x : Int32).toNatClampNeg : Int32) ≤ 0) : vp_in (x) 20 := by
  refine g_in ?_ ?_ <;> ((try simp only [g_m1, Int32.lt_iff_toInt_lt, Int32.le_iff_toInt_le, ← Int32.toInt_inj, Int32.toInt_add, Int32.toInt_sub, Int32.toInt_mul, Int32.toInt_neg, Int32.reduceToInt, g_bm, g_bm'] at *); omega)
set_option maxRecDepth 100000 in
theorem g_X3_doubtOf_k_v3 (u : qS) (x : Int32) (y : Int32) (k : qS) (P : Nat → Int32) (hk : CT k P u) (hx : 0 ≤ x ∧ x < u.1 8) (hz8 : 0 ≤ u.1 8 ∧ u.1 8 ≤ 20) (hz9 : 0 ≤ u.1 9 ∧ u.1 9 ≤ 8) (hz10 : 0 ≤ u.1 10 ∧ u.1 10 ≤ 120) (hz12 : 0 ≤ u.1 12 ∧ u.1 12 ≤ 16) (c6_1 : ¬ (u.2.1 307 (x : Int32).toNatClampNeg : Int32) ≤ 0) : ¬ (u.2.1 307 (x : Int32).toNatClampNeg) = 0 := by
  first | omega | ((try simp only [g_m1, Int32.lt_iff_toInt_lt, Int32.le_iff_toInt_le, ← Int32.toInt_inj, Int32.reduceToInt] at *); omega) | ((try simp only [g_m1, Int32.lt_iff_toInt_lt, Int32.le_iff_toInt_le, ← Int32.toInt_inj, Int32.reduceToInt] at *); omega) | ((try simp only [g_m1, Int32.lt_iff_toInt_lt, Int32.le_iff_toInt_le, ← Int32.toInt_inj, Int32.toInt_add, Int32.toInt_sub, Int32.toInt_mul, Int32.toInt_neg, Int32.reduceToInt, g_bm, g_bm'] at *); omega) | (have qr1 := g_rng x; have qr2 := g_rng y; (try simp only [g_m1, Int32.lt_iff_toInt_lt, Int32.le_iff_toInt_le, ← Int32.toInt_inj, Int32.toInt_add, Int32.toInt_sub, Int32.toInt_mul, Int32.toInt_neg, Int32.reduceToInt, g_bm, g_bm'] at *); omega) | (simp only [g_m1, Int32.lt_iff_toInt_lt, Int32.le_iff_toInt_le, ← Int32.toInt_inj, Int32.toInt_add, Int32.toInt_sub, Int32.toInt_mul, Int32.toInt_neg, Int32.reduceToInt, g_bm, g_bm'] at *; simp at *; omega) | (simp_all; done)
set_option maxRecDepth 100000 in
theorem g_X3_doubtOf_k_v4 (u : qS) (x : Int32) (y : Int32) (k : qS) (P : Nat → Int32) (hk : CT k P u) (hx : 0 ≤ x ∧ x < u.1 8) (hz8 : 0 ≤ u.1 8 ∧ u.1 8 ≤ 20) (hz9 : 0 ≤ u.1 9 ∧ u.1 9 ≤ 8) (hz10 : 0 ≤ u.1 10 ∧ u.1 10 ≤ 120) (hz12 : 0 ≤ u.1 12 ∧ u.1 12 ≤ 16) (c6_1 : ¬ (u.2.1 307 (x : Int32).toNatClampNeg : Int32) ≤ 0) : ((100 * y) / (u.2.1 307 (x : Int32).toNatClampNeg) : Int32) = if 0 < u.2.1 307 x.toNatClampNeg then 100 * y / u.2.1 307 x.toNatClampNeg else 0 := by
  first | rw [if_pos (Int32.not_le.mp (by assumption))] | rw [if_neg (Int32.not_lt.mpr (by assumption))] | rw [if_pos (by assumption)] | rw [if_neg (by assumption)]
set_option maxHeartbeats 1000000 in
set_option maxRecDepth 100000 in
theorem g_X3_doubtOf_k (l : Launch) (E : qE) (A : Nat → Prop) (u : qS) (x : Int32) (y : Int32) (k : qS) (P : Nat → Int32) (hI : IC E u) (hk : CT k P u) (hx : 0 ≤ x ∧ x < u.1 8) : Met l yX3_doubtOf (uws yX3_doubtOf cX3_doubtOf 3 (some .int)) (qR 0 0 0) (qPc E A 0 u [.ref (E.2.2 399), .int x, .int y]) (qQi E A 0 (fun r u1 => u1 = u ∧ (r = if 0 < u.2.1 307 x.toNatClampNeg then 100 * y / u.2.1 307 x.toNatClampNeg else 0))) 0 0 A := by
  refine q_met (own := RX3) (f := 0) [.ref (E.2.2 399), .int x, .int y] (by decide) (Nat.le_of_ble_eq_true rfl) rfl ?_
  intro p0 e0 s0 m0 bl0 me0 cd0 ls hF hr hlocks hU hS hA hl
  have hl : lv_has ls 3 [(0, .ref (E.2.2 399)), (1, .int x), (2, .int y)] := hl
  have hz8 : 0 ≤ u.1 8 ∧ u.1 8 ≤ 20 := hI.1.s8
  have hz9 : 0 ≤ u.1 9 ∧ u.1 9 ≤ 8 := hI.1.s9
  have hz10 : 0 ≤ u.1 10 ∧ u.1 10 ≤ 120 := hI.1.s10
  have hz12 : 0 ≤ u.1 12 ∧ u.1 12 ≤ 16 := hI.1.s12
  refine lv_aload_n hF.1 hF.2.1 dX3_doubtOf_0 rfl (lv_at hl 0 rfl) ?_
  refine q_get (v := .ref (E.2.2 307)) hF hU dX3_doubtOf_1 6 3 7 307 399 rfl rfl rfl rfl inX3 (by decide) (by decide) w_384 rfl rfl ?_
  refine lv_iload_n hF.1 hF.2.1 dX3_doubtOf_4 rfl (lv_at hl 1 rfl) ?_
  refine q_iald (v := u.2.1 307 (x : Int32).toNatClampNeg) hF hU dX3_doubtOf_5 22 307 rfl rfl (g_X3_doubtOf_k_v0 u x k P hk hx hz8 hz9 hz10 hz12) rfl ?_
  refine lv_if_le (tgt := 23) hF.1 hF.2.1 dX3_doubtOf_6 (by decide) (fun c6_1 => ?_) (fun c6_1 => ?_)
  · refine lv_iconst (v := 0) hF.1 hF.2.1 dX3_doubtOf_23 (by decide) ?_
    exact q_iret hF hr rfl hlocks hU hS dX3_doubtOf_24 ⟨rfl, (g_X3_doubtOf_k_v1 u x y k P hk hx hz8 hz9 hz10 hz12 c6_1)⟩
  · refine lv_bipush (v := 100) hF.1 hF.2.1 dX3_doubtOf_9 (by decide) ?_
    refine lv_iload_n hF.1 hF.2.1 dX3_doubtOf_11 rfl (lv_at hl 2 rfl) ?_
    refine lv_imul hF.1 hF.2.1 dX3_doubtOf_12 ?_
    refine lv_aload_n hF.1 hF.2.1 dX3_doubtOf_13 rfl (lv_at hl 0 rfl) ?_
    refine q_get (v := .ref (E.2.2 307)) hF hU dX3_doubtOf_14 6 3 7 307 399 rfl rfl rfl rfl inX3 (by decide) (by decide) w_384 rfl rfl ?_
    refine lv_iload_n hF.1 hF.2.1 dX3_doubtOf_17 rfl (lv_at hl 1 rfl) ?_
    refine q_iald (v := u.2.1 307 (x : Int32).toNatClampNeg) hF hU dX3_doubtOf_18 22 307 rfl rfl (g_X3_doubtOf_k_v2 u x k P hk hx hz8 hz9 hz10 hz12 c6_1) rfl ?_
    refine lv_idiv hF.1 hF.2.1 dX3_doubtOf_19 (g_X3_doubtOf_k_v3 u x y k P hk hx hz8 hz9 hz10 hz12 c6_1) ?_
    refine lv_goto (tgt := 24) hF.1 hF.2.1 dX3_doubtOf_20 (by decide) ?_
    exact q_iret hF hr rfl hlocks hU hS dX3_doubtOf_24 ⟨rfl, (g_X3_doubtOf_k_v4 u x y k P hk hx hz8 hz9 hz10 hz12 c6_1)⟩
set_option maxRecDepth 100000 in
theorem g_X3_addDays_k_v0 (u : qS) (x : Int32) (y : Int32) (k : qS) (P : Nat → Int32) (S : Nat → Int32) (x3 : Int32) (uc : qS) (hk : CT k P u) (hQ : qFD 10 S u) (hfi : f_fi k S) (hz8 : 0 ≤ u.1 8 ∧ u.1 8 ≤ 20) (hz9 : 0 ≤ u.1 9 ∧ u.1 9 ≤ 8) (hz10 : 0 ≤ u.1 10 ∧ u.1 10 ≤ 120) (hz12 : 0 ≤ u.1 12 ∧ u.1 12 ≤ 16) (h_k : 0 ≤ x3 ∧ x3 ≤ u.1 10) (h_a : m_A k (fun _ => 1) x y (uc.2.1 307) x3.toNatClampNeg) (c26_1 : (u.1 10) ≤ (x3 : Int32)) : m_A k (fun _ => 1) x y ((uc.2.1 307)) (k.1 1247).toNatClampNeg := by
  have e : x3 = u.1 10 := Int32.toInt_inj.mp (by clear h_a; (try simp only [g_m1, Int32.lt_iff_toInt_lt, Int32.le_iff_toInt_le, ← Int32.toInt_inj, Int32.reduceToInt] at *); omega)
  rw [e, hk.1.1] at h_a; exact h_a
set_option maxRecDepth 100000 in
theorem g_X3_addDays_k_v1 (u : qS) (x : Int32) (y : Int32) (k : qS) (P : Nat → Int32) (S : Nat → Int32) (x3 : Int32) (uc : qS) (hk : CT k P u) (hQ : qFD 10 S u) (hfi : f_fi k S) (hz8 : 0 ≤ u.1 8 ∧ u.1 8 ≤ 20) (hz9 : 0 ≤ u.1 9 ∧ u.1 9 ≤ 8) (hz10 : 0 ≤ u.1 10 ∧ u.1 10 ≤ 120) (hz12 : 0 ≤ u.1 12 ∧ u.1 12 ≤ 16) (h_k : 0 ≤ x3 ∧ x3 ≤ u.1 10) (h_a : m_A k (fun _ => 1) x y (uc.2.1 307) x3.toNatClampNeg) (c26_1 : ¬ (u.1 10) ≤ (x3 : Int32)) : 0 ≤ x3 ∧ x3 < (u.1 10) := by
  clear h_a; (try simp only [g_m1, Int32.lt_iff_toInt_lt, Int32.le_iff_toInt_le, ← Int32.toInt_inj, Int32.reduceToInt] at *); omega
set_option maxRecDepth 100000 in
theorem g_X3_addDays_k_v2 (u : qS) (x : Int32) (y : Int32) (k : qS) (P : Nat → Int32) (S : Nat → Int32) (x3 : Int32) (uc : qS) (hk : CT k P u) (hQ : qFD 10 S u) (hfi : f_fi k S) (hz8 : 0 ≤ u.1 8 ∧ u.1 8 ≤ 20) (hz9 : 0 ≤ u.1 9 ∧ u.1 9 ≤ 8) (hz10 : 0 ≤ u.1 10 ∧ u.1 10 ≤ 120) (hz12 : 0 ≤ u.1 12 ∧ u.1 12 ≤ 16) (h_k : 0 ≤ x3 ∧ x3 ≤ u.1 10) (h_a : m_A k (fun _ => 1) x y (uc.2.1 307) x3.toNatClampNeg) (c26_1 : ¬ (u.1 10) ≤ (x3 : Int32)) : vp_in (x3) 120 := by
  clear h_a; refine g_in ?_ ?_ <;> ((try simp only [g_m1, Int32.lt_iff_toInt_lt, Int32.le_iff_toInt_le, ← Int32.toInt_inj, Int32.reduceToInt] at *); omega)
set_option maxRecDepth 100000 in
theorem g_X3_addDays_k_v3 (u : qS) (x : Int32) (y : Int32) (k : qS) (P : Nat → Int32) (S : Nat → Int32) (x3 : Int32) (uc : qS) (hk : CT k P u) (hQ : qFD 10 S u) (hfi : f_fi k S) (hz8 : 0 ≤ u.1 8 ∧ u.1 8 ≤ 20) (hz9 : 0 ≤ u.1 9 ∧ u.1 9 ≤ 8) (hz10 : 0 ≤ u.1 10 ∧ u.1 10 ≤ 120) (hz12 : 0 ≤ u.1 12 ∧ u.1 12 ≤ 16) (h_k : 0 ≤ x3 ∧ x3 ≤ u.1 10) (h_a : m_A k (fun _ => 1) x y (uc.2.1 307) x3.toNatClampNeg) (c26_1 : ¬ (u.1 10) ≤ (x3 : Int32)) : 0 ≤ x3 ∧ x3 < (u.1 10) := by
  clear h_a; (try simp only [g_m1, Int32.lt_iff_toInt_lt, Int32.le_iff_toInt_le, ← Int32.toInt_inj, Int32.reduceToInt] at *); omega
set_option maxRecDepth 100000 in
theorem g_X3_addDays_k_v4 (u : qS) (x : Int32) (y : Int32) (k : qS) (P : Nat → Int32) (S : Nat → Int32) (x3 : Int32) (uc : qS) (hk : CT k P u) (hQ : qFD 10 S u) (hfi : f_fi k S) (hz8 : 0 ≤ u.1 8 ∧ u.1 8 ≤ 20) (hz9 : 0 ≤ u.1 9 ∧ u.1 9 ≤ 8) (hz10 : 0 ≤ u.1 10 ∧ u.1 10 ≤ 120) (hz12 : 0 ≤ u.1 12 ∧ u.1 12 ≤ 16) (h_k : 0 ≤ x3 ∧ x3 ≤ u.1 10) (h_a : m_A k (fun _ => 1) x y (uc.2.1 307) x3.toNatClampNeg) (c26_1 : ¬ (u.1 10) ≤ (x3 : Int32)) (b47_12 : x ≤ (k.2.1 1250 (x3 : Int32).toNatClampNeg) ∧ (k.2.1 1250 (x3 : Int32).toNatClampNeg) ≤ y) (b56_16 : f_co (k) (x3)) (hb_21 : 0 ≤ k.2.1 1248 (x3 : Int32).toNatClampNeg ∧ k.2.1 1248 (x3 : Int32).toNatClampNeg < (u.1 8)) : vp_in (k.2.1 1248 (x3 : Int32).toNatClampNeg) 20 := by
  refine g_in ?_ ?_ <;> ((try simp only [g_m1, Int32.lt_iff_toInt_lt, Int32.le_iff_toInt_le, ← Int32.toInt_inj, Int32.toInt_add, Int32.toInt_sub, Int32.toInt_mul, Int32.toInt_neg, Int32.reduceToInt, g_bm, g_bm'] at *); omega)
set_option maxRecDepth 100000 in
theorem g_X3_addDays_k_v5 (u : qS) (x : Int32) (y : Int32) (k : qS) (P : Nat → Int32) (S : Nat → Int32) (x3 : Int32) (uc : qS) (hk : CT k P u) (hQ : qFD 10 S u) (hfi : f_fi k S) (hz8 : 0 ≤ u.1 8 ∧ u.1 8 ≤ 20) (hz9 : 0 ≤ u.1 9 ∧ u.1 9 ≤ 8) (hz10 : 0 ≤ u.1 10 ∧ u.1 10 ≤ 120) (hz12 : 0 ≤ u.1 12 ∧ u.1 12 ≤ 16) (h_k : 0 ≤ x3 ∧ x3 ≤ u.1 10) (h_a : m_A k (fun _ => 1) x y (uc.2.1 307) x3.toNatClampNeg) (c26_1 : ¬ (u.1 10) ≤ (x3 : Int32)) (b47_12 : x ≤ (k.2.1 1250 (x3 : Int32).toNatClampNeg) ∧ (k.2.1 1250 (x3 : Int32).toNatClampNeg) ≤ y) (b56_16 : f_co (k) (x3)) (hb_21 : 0 ≤ k.2.1 1248 (x3 : Int32).toNatClampNeg ∧ k.2.1 1248 (x3 : Int32).toNatClampNeg < (u.1 8)) : vp_in (k.2.1 1248 (x3 : Int32).toNatClampNeg) 20 := by
  refine g_in ?_ ?_ <;> ((try simp only [g_m1, Int32.lt_iff_toInt_lt, Int32.le_iff_toInt_le, ← Int32.toInt_inj, Int32.toInt_add, Int32.toInt_sub, Int32.toInt_mul, Int32.toInt_neg, Int32.reduceToInt, g_bm, g_bm'] at *); omega)
set_option maxRecDepth 100000 in
theorem g_X3_addDays_k_v6 (u : qS) (x : Int32) (y : Int32) (k : qS) (P : Nat → Int32) (S : Nat → Int32) (x3 : Int32) (uc : qS) (r_24 : Int32) (f_25 : Nat → Int32) (hk : CT k P u) (hQ : qFD 10 S u) (hfi : f_fi k S) (hz8 : 0 ≤ u.1 8 ∧ u.1 8 ≤ 20) (hz9 : 0 ≤ u.1 9 ∧ u.1 9 ≤ 8) (hz10 : 0 ≤ u.1 10 ∧ u.1 10 ≤ 120) (hz12 : 0 ≤ u.1 12 ∧ u.1 12 ≤ 16) (h_k : 0 ≤ x3 ∧ x3 ≤ u.1 10) (h_a : m_A k (fun _ => 1) x y (uc.2.1 307) x3.toNatClampNeg) (c26_1 : ¬ (u.1 10) ≤ (x3 : Int32)) (b47_12 : x ≤ (k.2.1 1250 (x3 : Int32).toNatClampNeg) ∧ (k.2.1 1250 (x3 : Int32).toNatClampNeg) ≤ y) (b56_16 : f_co (k) (x3)) (hb_21 : 0 ≤ k.2.1 1248 (x3 : Int32).toNatClampNeg ∧ k.2.1 1248 (x3 : Int32).toNatClampNeg < (u.1 8)) (hf_25 : f_25 = upd (uc.2.1 306) (k.2.1 1248 (x3 : Int32).toNatClampNeg : Int32).toNatClampNeg ((uc.2.1 306 (k.2.1 1248 (x3 : Int32).toNatClampNeg : Int32).toNatClampNeg) + r_24)) : vp_in (k.2.1 1248 (x3 : Int32).toNatClampNeg) 20 := by
  refine g_in ?_ ?_ <;> ((try simp only [g_m1, Int32.lt_iff_toInt_lt, Int32.le_iff_toInt_le, ← Int32.toInt_inj, Int32.toInt_add, Int32.toInt_sub, Int32.toInt_mul, Int32.toInt_neg, Int32.reduceToInt, g_bm, g_bm'] at *); omega)
set_option maxRecDepth 100000 in
theorem g_X3_addDays_k_v7 (u : qS) (x : Int32) (y : Int32) (k : qS) (P : Nat → Int32) (S : Nat → Int32) (x3 : Int32) (uc : qS) (r_24 : Int32) (f_25 : Nat → Int32) (hk : CT k P u) (hQ : qFD 10 S u) (hfi : f_fi k S) (hz8 : 0 ≤ u.1 8 ∧ u.1 8 ≤ 20) (hz9 : 0 ≤ u.1 9 ∧ u.1 9 ≤ 8) (hz10 : 0 ≤ u.1 10 ∧ u.1 10 ≤ 120) (hz12 : 0 ≤ u.1 12 ∧ u.1 12 ≤ 16) (h_k : 0 ≤ x3 ∧ x3 ≤ u.1 10) (h_a : m_A k (fun _ => 1) x y (uc.2.1 307) x3.toNatClampNeg) (c26_1 : ¬ (u.1 10) ≤ (x3 : Int32)) (b47_12 : x ≤ (k.2.1 1250 (x3 : Int32).toNatClampNeg) ∧ (k.2.1 1250 (x3 : Int32).toNatClampNeg) ≤ y) (b56_16 : f_co (k) (x3)) (hb_21 : 0 ≤ k.2.1 1248 (x3 : Int32).toNatClampNeg ∧ k.2.1 1248 (x3 : Int32).toNatClampNeg < (u.1 8)) (hf_25 : f_25 = upd (uc.2.1 306) (k.2.1 1248 (x3 : Int32).toNatClampNeg : Int32).toNatClampNeg ((uc.2.1 306 (k.2.1 1248 (x3 : Int32).toNatClampNeg : Int32).toNatClampNeg) + r_24)) : vp_in (k.2.1 1248 (x3 : Int32).toNatClampNeg) 20 := by
  refine g_in ?_ ?_ <;> ((try simp only [g_m1, Int32.lt_iff_toInt_lt, Int32.le_iff_toInt_le, ← Int32.toInt_inj, Int32.toInt_add, Int32.toInt_sub, Int32.toInt_mul, Int32.toInt_neg, Int32.reduceToInt, g_bm, g_bm'] at *); omega)
set_option maxRecDepth 100000 in
theorem g_X3_addDays_k_v8 (u : qS) (x : Int32) (y : Int32) (k : qS) (P : Nat → Int32) (S : Nat → Int32) (x3 : Int32) (uc : qS) (r_24 : Int32) (f_25 : Nat → Int32) (f_30 : Nat → Int32) (hk : CT k P u) (hQ : qFD 10 S u) (hfi : f_fi k S) (hz8 : 0 ≤ u.1 8 ∧ u.1 8 ≤ 20) (hz9 : 0 ≤ u.1 9 ∧ u.1 9 ≤ 8) (hz10 : 0 ≤ u.1 10 ∧ u.1 10 ≤ 120) (hz12 : 0 ≤ u.1 12 ∧ u.1 12 ≤ 16) (h_k : 0 ≤ x3 ∧ x3 ≤ u.1 10) (h_a : m_A k (fun _ => 1) x y (uc.2.1 307) x3.toNatClampNeg) (c26_1 : ¬ (u.1 10) ≤ (x3 : Int32)) (b47_12 : x ≤ (k.2.1 1250 (x3 : Int32).toNatClampNeg) ∧ (k.2.1 1250 (x3 : Int32).toNatClampNeg) ≤ y) (b56_16 : f_co (k) (x3)) (hb_21 : 0 ≤ k.2.1 1248 (x3 : Int32).toNatClampNeg ∧ k.2.1 1248 (x3 : Int32).toNatClampNeg < (u.1 8)) (hf_25 : f_25 = upd (uc.2.1 306) (k.2.1 1248 (x3 : Int32).toNatClampNeg : Int32).toNatClampNeg ((uc.2.1 306 (k.2.1 1248 (x3 : Int32).toNatClampNeg : Int32).toNatClampNeg) + r_24)) (hf_30 : f_30 = upd (uc.2.1 307) (k.2.1 1248 (x3 : Int32).toNatClampNeg : Int32).toNatClampNeg ((uc.2.1 307 (k.2.1 1248 (x3 : Int32).toNatClampNeg : Int32).toNatClampNeg) + 1)) : 0 ≤ (x3 + 1) ∧ (x3 + 1) ≤ u.1 10 := by
  clear h_a; (try simp only [g_m1, Int32.lt_iff_toInt_lt, Int32.le_iff_toInt_le, ← Int32.toInt_inj, Int32.toInt_add, Int32.toInt_sub, Int32.toInt_mul, Int32.toInt_neg, Int32.reduceToInt, g_bm, g_bm'] at *); omega
set_option maxRecDepth 100000 in
theorem g_X3_addDays_k_v9 (u : qS) (x : Int32) (y : Int32) (k : qS) (P : Nat → Int32) (S : Nat → Int32) (x3 : Int32) (uc : qS) (r_24 : Int32) (f_25 : Nat → Int32) (f_30 : Nat → Int32) (hk : CT k P u) (hQ : qFD 10 S u) (hfi : f_fi k S) (hz8 : 0 ≤ u.1 8 ∧ u.1 8 ≤ 20) (hz9 : 0 ≤ u.1 9 ∧ u.1 9 ≤ 8) (hz10 : 0 ≤ u.1 10 ∧ u.1 10 ≤ 120) (hz12 : 0 ≤ u.1 12 ∧ u.1 12 ≤ 16) (h_k : 0 ≤ x3 ∧ x3 ≤ u.1 10) (h_a : m_A k (fun _ => 1) x y (uc.2.1 307) x3.toNatClampNeg) (c26_1 : ¬ (u.1 10) ≤ (x3 : Int32)) (b47_12 : x ≤ (k.2.1 1250 (x3 : Int32).toNatClampNeg) ∧ (k.2.1 1250 (x3 : Int32).toNatClampNeg) ≤ y) (b56_16 : f_co (k) (x3)) (hb_21 : 0 ≤ k.2.1 1248 (x3 : Int32).toNatClampNeg ∧ k.2.1 1248 (x3 : Int32).toNatClampNeg < (u.1 8)) (hf_25 : f_25 = upd (uc.2.1 306) (k.2.1 1248 (x3 : Int32).toNatClampNeg : Int32).toNatClampNeg ((uc.2.1 306 (k.2.1 1248 (x3 : Int32).toNatClampNeg : Int32).toNatClampNeg) + r_24)) (hf_30 : f_30 = upd (uc.2.1 307) (k.2.1 1248 (x3 : Int32).toNatClampNeg : Int32).toNatClampNeg ((uc.2.1 307 (k.2.1 1248 (x3 : Int32).toNatClampNeg : Int32).toNatClampNeg) + 1)) : m_A k (fun _ => 1) x y (f_30) (x3 + 1).toNatClampNeg := by
  have hi : 0 ≤ x3 ∧ x3 < u.1 10 := ⟨h_k.1, by clear h_a; (try simp only [g_m1, Int32.lt_iff_toInt_lt, Int32.le_iff_toInt_le, ← Int32.toInt_inj, Int32.reduceToInt] at *); omega⟩
  have q3 : 0 ≤ x3.toInt ∧ x3.toInt < 1000 := (by clear h_a; (try simp only [g_m1, Int32.lt_iff_toInt_lt, Int32.le_iff_toInt_le, ← Int32.toInt_inj, Int32.reduceToInt] at *); omega)
  have e3 := (g_up (i := x3) q3.1 (by omega)).2
  rw [e3]
  first | exact h_a.no q3.1 (fun q => absurd q.1 (by assumption)) | exact h_a.no q3.1 (fun q => absurd q.2 (by assumption)) | exact h_a.yes q3.1 (by assumption) (by assumption) (m_sh hk hi hz8) (by assumption)
set_option maxRecDepth 100000 in
theorem g_X3_addDays_k_v10 (u : qS) (x : Int32) (y : Int32) (k : qS) (P : Nat → Int32) (S : Nat → Int32) (x3 : Int32) (uc : qS) (r_24 : Int32) (f_25 : Nat → Int32) (f_30 : Nat → Int32) (hk : CT k P u) (hQ : qFD 10 S u) (hfi : f_fi k S) (hz8 : 0 ≤ u.1 8 ∧ u.1 8 ≤ 20) (hz9 : 0 ≤ u.1 9 ∧ u.1 9 ≤ 8) (hz10 : 0 ≤ u.1 10 ∧ u.1 10 ≤ 120) (hz12 : 0 ≤ u.1 12 ∧ u.1 12 ≤ 16) (h_k : 0 ≤ x3 ∧ x3 ≤ u.1 10) (h_a : m_A k (fun _ => 1) x y (uc.2.1 307) x3.toNatClampNeg) (c26_1 : ¬ (u.1 10) ≤ (x3 : Int32)) (b47_12 : x ≤ (k.2.1 1250 (x3 : Int32).toNatClampNeg) ∧ (k.2.1 1250 (x3 : Int32).toNatClampNeg) ≤ y) (b56_16 : f_co (k) (x3)) (hb_21 : 0 ≤ k.2.1 1248 (x3 : Int32).toNatClampNeg ∧ k.2.1 1248 (x3 : Int32).toNatClampNeg < (u.1 8)) (hf_25 : f_25 = upd (uc.2.1 306) (k.2.1 1248 (x3 : Int32).toNatClampNeg : Int32).toNatClampNeg ((uc.2.1 306 (k.2.1 1248 (x3 : Int32).toNatClampNeg : Int32).toNatClampNeg) + r_24)) (hf_30 : f_30 = upd (uc.2.1 307) (k.2.1 1248 (x3 : Int32).toNatClampNeg : Int32).toNatClampNeg ((uc.2.1 307 (k.2.1 1248 (x3 : Int32).toNatClampNeg : Int32).toNatClampNeg) + 1)) : ((u.1 10).toInt - (x3 + 1).toInt).toNat < ((u.1 10).toInt - x3.toInt).toNat := by
  clear h_a; (try simp only [g_m1, Int32.lt_iff_toInt_lt, Int32.le_iff_toInt_le, ← Int32.toInt_inj, Int32.toInt_add, Int32.toInt_sub, Int32.toInt_mul, Int32.toInt_neg, Int32.reduceToInt, g_bm, g_bm'] at *); omega
set_option maxRecDepth 100000 in
theorem g_X3_addDays_k_v11 (u : qS) (x : Int32) (y : Int32) (k : qS) (P : Nat → Int32) (S : Nat → Int32) (x3 : Int32) (uc : qS) (hk : CT k P u) (hQ : qFD 10 S u) (hfi : f_fi k S) (hz8 : 0 ≤ u.1 8 ∧ u.1 8 ≤ 20) (hz9 : 0 ≤ u.1 9 ∧ u.1 9 ≤ 8) (hz10 : 0 ≤ u.1 10 ∧ u.1 10 ≤ 120) (hz12 : 0 ≤ u.1 12 ∧ u.1 12 ≤ 16) (h_k : 0 ≤ x3 ∧ x3 ≤ u.1 10) (h_a : m_A k (fun _ => 1) x y (uc.2.1 307) x3.toNatClampNeg) (c26_1 : ¬ (u.1 10) ≤ (x3 : Int32)) (b47_12 : x ≤ (k.2.1 1250 (x3 : Int32).toNatClampNeg) ∧ (k.2.1 1250 (x3 : Int32).toNatClampNeg) ≤ y) (b56_16 : ¬ (f_co (k) (x3))) : 0 ≤ (x3 + 1) ∧ (x3 + 1) ≤ u.1 10 := by
  clear h_a; (try simp only [g_m1, Int32.lt_iff_toInt_lt, Int32.le_iff_toInt_le, ← Int32.toInt_inj, Int32.toInt_add, Int32.toInt_sub, Int32.toInt_mul, Int32.toInt_neg, Int32.reduceToInt, g_bm, g_bm'] at *); omega
set_option maxRecDepth 100000 in
theorem g_X3_addDays_k_v12 (u : qS) (x : Int32) (y : Int32) (k : qS) (P : Nat → Int32) (S : Nat → Int32) (x3 : Int32) (uc : qS) (hk : CT k P u) (hQ : qFD 10 S u) (hfi : f_fi k S) (hz8 : 0 ≤ u.1 8 ∧ u.1 8 ≤ 20) (hz9 : 0 ≤ u.1 9 ∧ u.1 9 ≤ 8) (hz10 : 0 ≤ u.1 10 ∧ u.1 10 ≤ 120) (hz12 : 0 ≤ u.1 12 ∧ u.1 12 ≤ 16) (h_k : 0 ≤ x3 ∧ x3 ≤ u.1 10) (h_a : m_A k (fun _ => 1) x y (uc.2.1 307) x3.toNatClampNeg) (c26_1 : ¬ (u.1 10) ≤ (x3 : Int32)) (b47_12 : x ≤ (k.2.1 1250 (x3 : Int32).toNatClampNeg) ∧ (k.2.1 1250 (x3 : Int32).toNatClampNeg) ≤ y) (b56_16 : ¬ (f_co (k) (x3))) : m_A k (fun _ => 1) x y ((uc.2.1 307)) (x3 + 1).toNatClampNeg := by
  have hi : 0 ≤ x3 ∧ x3 < u.1 10 := ⟨h_k.1, by clear h_a; (try simp only [g_m1, Int32.lt_iff_toInt_lt, Int32.le_iff_toInt_le, ← Int32.toInt_inj, Int32.reduceToInt] at *); omega⟩
  have q3 : 0 ≤ x3.toInt ∧ x3.toInt < 1000 := (by clear h_a; (try simp only [g_m1, Int32.lt_iff_toInt_lt, Int32.le_iff_toInt_le, ← Int32.toInt_inj, Int32.reduceToInt] at *); omega)
  have e3 := (g_up (i := x3) q3.1 (by omega)).2
  rw [e3]
  first | exact h_a.no q3.1 (fun q => absurd q.1 (by assumption)) | exact h_a.no q3.1 (fun q => absurd q.2 (by assumption)) | exact h_a.yes q3.1 (by assumption) (by assumption) (m_sh hk hi hz8) (by assumption)
set_option maxRecDepth 100000 in
theorem g_X3_addDays_k_v13 (u : qS) (x : Int32) (y : Int32) (k : qS) (P : Nat → Int32) (S : Nat → Int32) (x3 : Int32) (uc : qS) (hk : CT k P u) (hQ : qFD 10 S u) (hfi : f_fi k S) (hz8 : 0 ≤ u.1 8 ∧ u.1 8 ≤ 20) (hz9 : 0 ≤ u.1 9 ∧ u.1 9 ≤ 8) (hz10 : 0 ≤ u.1 10 ∧ u.1 10 ≤ 120) (hz12 : 0 ≤ u.1 12 ∧ u.1 12 ≤ 16) (h_k : 0 ≤ x3 ∧ x3 ≤ u.1 10) (h_a : m_A k (fun _ => 1) x y (uc.2.1 307) x3.toNatClampNeg) (c26_1 : ¬ (u.1 10) ≤ (x3 : Int32)) (b47_12 : x ≤ (k.2.1 1250 (x3 : Int32).toNatClampNeg) ∧ (k.2.1 1250 (x3 : Int32).toNatClampNeg) ≤ y) (b56_16 : ¬ (f_co (k) (x3))) : ((u.1 10).toInt - (x3 + 1).toInt).toNat < ((u.1 10).toInt - x3.toInt).toNat := by
  clear h_a; (try simp only [g_m1, Int32.lt_iff_toInt_lt, Int32.le_iff_toInt_le, ← Int32.toInt_inj, Int32.toInt_add, Int32.toInt_sub, Int32.toInt_mul, Int32.toInt_neg, Int32.reduceToInt, g_bm, g_bm'] at *); omega
set_option maxRecDepth 100000 in
theorem g_X3_addDays_k_v14 (u : qS) (x : Int32) (y : Int32) (k : qS) (P : Nat → Int32) (S : Nat → Int32) (x3 : Int32) (uc : qS) (hk : CT k P u) (hQ : qFD 10 S u) (hfi : f_fi k S) (hz8 : 0 ≤ u.1 8 ∧ u.1 8 ≤ 20) (hz9 : 0 ≤ u.1 9 ∧ u.1 9 ≤ 8) (hz10 : 0 ≤ u.1 10 ∧ u.1 10 ≤ 120) (hz12 : 0 ≤ u.1 12 ∧ u.1 12 ≤ 16) (h_k : 0 ≤ x3 ∧ x3 ≤ u.1 10) (h_a : m_A k (fun _ => 1) x y (uc.2.1 307) x3.toNatClampNeg) (c26_1 : ¬ (u.1 10) ≤ (x3 : Int32)) (b47_12 : ¬ (x ≤ (k.2.1 1250 (x3 : Int32).toNatClampNeg) ∧ (k.2.1 1250 (x3 : Int32).toNatClampNeg) ≤ y)) : 0 ≤ (x3 + 1) ∧ (x3 + 1) ≤ u.1 10 := by
  clear h_a; (try simp only [g_m1, Int32.lt_iff_toInt_lt, Int32.le_iff_toInt_le, ← Int32.toInt_inj, Int32.toInt_add, Int32.toInt_sub, Int32.toInt_mul, Int32.toInt_neg, Int32.reduceToInt, g_bm, g_bm'] at *); omega
set_option maxRecDepth 100000 in
theorem g_X3_addDays_k_v15 (u : qS) (x : Int32) (y : Int32) (k : qS) (P : Nat → Int32) (S : Nat → Int32) (x3 : Int32) (uc : qS) (hk : CT k P u) (hQ : qFD 10 S u) (hfi : f_fi k S) (hz8 : 0 ≤ u.1 8 ∧ u.1 8 ≤ 20) (hz9 : 0 ≤ u.1 9 ∧ u.1 9 ≤ 8) (hz10 : 0 ≤ u.1 10 ∧ u.1 10 ≤ 120) (hz12 : 0 ≤ u.1 12 ∧ u.1 12 ≤ 16) (h_k : 0 ≤ x3 ∧ x3 ≤ u.1 10) (h_a : m_A k (fun _ => 1) x y (uc.2.1 307) x3.toNatClampNeg) (c26_1 : ¬ (u.1 10) ≤ (x3 : Int32)) (b47_12 : ¬ (x ≤ (k.2.1 1250 (x3 : Int32).toNatClampNeg) ∧ (k.2.1 1250 (x3 : Int32).toNatClampNeg) ≤ y)) : m_A k (fun _ => 1) x y ((uc.2.1 307)) (x3 + 1).toNatClampNeg := by
  have hi : 0 ≤ x3 ∧ x3 < u.1 10 := ⟨h_k.1, by clear h_a; (try simp only [g_m1, Int32.lt_iff_toInt_lt, Int32.le_iff_toInt_le, ← Int32.toInt_inj, Int32.reduceToInt] at *); omega⟩
  have q3 : 0 ≤ x3.toInt ∧ x3.toInt < 1000 := (by clear h_a; (try simp only [g_m1, Int32.lt_iff_toInt_lt, Int32.le_iff_toInt_le, ← Int32.toInt_inj, Int32.reduceToInt] at *); omega)
  have e3 := (g_up (i := x3) q3.1 (by omega)).2
  rw [e3]
  first | exact h_a.no q3.1 (fun q => absurd q.1 (by assumption)) | exact h_a.no q3.1 (fun q => absurd q.2 (by assumption)) | exact h_a.yes q3.1 (by assumption) (by assumption) (m_sh hk hi hz8) (by assumption)
set_option maxRecDepth 100000 in
theorem g_X3_addDays_k_v16 (u : qS) (x : Int32) (y : Int32) (k : qS) (P : Nat → Int32) (S : Nat → Int32) (x3 : Int32) (uc : qS) (hk : CT k P u) (hQ : qFD 10 S u) (hfi : f_fi k S) (hz8 : 0 ≤ u.1 8 ∧ u.1 8 ≤ 20) (hz9 : 0 ≤ u.1 9 ∧ u.1 9 ≤ 8) (hz10 : 0 ≤ u.1 10 ∧ u.1 10 ≤ 120) (hz12 : 0 ≤ u.1 12 ∧ u.1 12 ≤ 16) (h_k : 0 ≤ x3 ∧ x3 ≤ u.1 10) (h_a : m_A k (fun _ => 1) x y (uc.2.1 307) x3.toNatClampNeg) (c26_1 : ¬ (u.1 10) ≤ (x3 : Int32)) (b47_12 : ¬ (x ≤ (k.2.1 1250 (x3 : Int32).toNatClampNeg) ∧ (k.2.1 1250 (x3 : Int32).toNatClampNeg) ≤ y)) : ((u.1 10).toInt - (x3 + 1).toInt).toNat < ((u.1 10).toInt - x3.toInt).toNat := by
  clear h_a; (try simp only [g_m1, Int32.lt_iff_toInt_lt, Int32.le_iff_toInt_le, ← Int32.toInt_inj, Int32.toInt_add, Int32.toInt_sub, Int32.toInt_mul, Int32.toInt_neg, Int32.reduceToInt, g_bm, g_bm'] at *); omega
set_option maxRecDepth 100000 in
theorem g_X3_addDays_k_v17 (u : qS) (k : qS) (P : Nat → Int32) (S : Nat → Int32) (u_31 : qS) (u_35 : qS) (hk : CT k P u) (hQ : qFD 10 S u) (hfi : f_fi k S) (hz8 : 0 ≤ u.1 8 ∧ u.1 8 ≤ 20) (hz9 : 0 ≤ u.1 9 ∧ u.1 9 ≤ 8) (hz10 : 0 ≤ u.1 10 ∧ u.1 10 ≤ 120) (hz12 : 0 ≤ u.1 12 ∧ u.1 12 ≤ 16) (hw_32 : ∀ j : Nat, j < 20 → u_31.2.1 306 j = (0 : Int32)) (hw_36 : ∀ j : Nat, j < 20 → u_35.2.1 307 j = (0 : Int32)) : 0 ≤ (0 : Int32) ∧ (0 : Int32) ≤ u.1 10 := by
  (try simp only [g_m1, Int32.lt_iff_toInt_lt, Int32.le_iff_toInt_le, ← Int32.toInt_inj, Int32.reduceToInt] at *); omega
set_option maxRecDepth 100000 in
theorem g_X3_addDays_k_v18 (u : qS) (x : Int32) (y : Int32) (k : qS) (P : Nat → Int32) (S : Nat → Int32) (u_31 : qS) (u_35 : qS) (hk : CT k P u) (hQ : qFD 10 S u) (hfi : f_fi k S) (hz8 : 0 ≤ u.1 8 ∧ u.1 8 ≤ 20) (hz9 : 0 ≤ u.1 9 ∧ u.1 9 ≤ 8) (hz10 : 0 ≤ u.1 10 ∧ u.1 10 ≤ 120) (hz12 : 0 ≤ u.1 12 ∧ u.1 12 ≤ 16) (hw_32 : ∀ j : Nat, j < 20 → u_31.2.1 306 j = (0 : Int32)) (hw_36 : ∀ j : Nat, j < 20 → u_35.2.1 307 j = (0 : Int32)) : m_A k (fun _ => 1) x y ((u_35.2.1 307)) (0 : Int32).toNatClampNeg := by
  exact m_A.nil (by assumption)
set_option maxHeartbeats 1000000 in
set_option maxRecDepth 100000 in
theorem g_X3_addDays_k (l : Launch) (E : qE) (A : Nat → Prop) (u : qS) (x : Int32) (y : Int32) (k : qS) (P : Nat → Int32) (S : Nat → Int32) (hI : IC E u) (hk : CT k P u) (hQ : qFD 10 S u) (hfi : f_fi k S) : Met l yX3_addDays (uws yX3_addDays cX3_addDays 5 none) (qR 3 0 0) (qPc E A 0 u [.ref (E.2.2 399), .int x, .int y]) (qQv E A 0 (fun u1 => (qFc [] [306, 307] [] [] u u1 ∧ IC E u1 ∧ u1.2.2.2.2 = u.2.2.2.2) ∧ (m_A k (fun _ => 1) x y (u1.2.1 307) (k.1 1247).toNatClampNeg))) 0 0 A := by
  refine q_met (own := RX3) (f := 3) [.ref (E.2.2 399), .int x, .int y] (by decide) (Nat.le_of_ble_eq_true rfl) rfl ?_
  intro p0 e0 s0 m0 bl0 me0 cd0 ls hF hr hlocks hU hS hA hl
  have hl : lv_has ls 5 [(0, .ref (E.2.2 399)), (1, .int x), (2, .int y)] := hl
  have hkd : u.2.2.2.2 = u.2.2.2.2 := rfl
  have hz8 : 0 ≤ u.1 8 ∧ u.1 8 ≤ 20 := hI.1.s8
  have hz9 : 0 ≤ u.1 9 ∧ u.1 9 ≤ 8 := hI.1.s9
  have hz10 : 0 ≤ u.1 10 ∧ u.1 10 ≤ 120 := hI.1.s10
  have hz12 : 0 ≤ u.1 12 ∧ u.1 12 ≤ 16 := hI.1.s12
  have hfr : qFc [] [306, 307] [] [] u u := qFc.rf
  have main : ∀ n : Nat, (∀ (x3 : Int32) (uc : qS) (H : Heap) (locs : List Loc) (ls : Array Slot) (hfr : qFc [] [306, 307] [] [] u uc) (hI : IC E uc) (hkd : uc.2.2.2.2 = u.2.2.2.2) (h_k : 0 ≤ x3 ∧ x3 ≤ u.1 10) (h_a : m_A k (fun _ => 1) x y (uc.2.1 307) x3.toNatClampNeg), ((u.1 10).toInt - x3.toInt).toNat < n → qH E A 0 uc s0 H → va_S A s0.heap H locs → lv_has ls 5 [(0, .ref (E.2.2 399)), (1, .int x), (2, .int y), (3, .int x3)] → W p0 l e0 (qR 3 0 0) s0 m0 ([.ref (E.2.2 399), .int x, .int y] : List Value).toArray bl0 me0 cd0 H locs 0 0 (MQ bl0 (qQv E A 0 (fun u1 => (qFc [] [306, 307] [] [] u u1 ∧ IC E u1 ∧ u1.2.2.2.2 = u.2.2.2.2) ∧ (m_A k (fun _ => 1) x y (u1.2.1 307) (k.1 1247).toNatClampNeg))) ([.ref (E.2.2 399), .int x, .int y] : List Value).toArray s0 0 0 A) (F0 m0 18 ls [])) := by
    clear hI hfr hkd
    intro n
    induction n with
    | zero => exact fun _ _ _ _ _ _ _ _ _ _ hmu => absurd hmu (Nat.not_lt_zero _)
    | succ n ih =>
      intro x3 uc H locs ls hfr hI hkd h_k h_a hmu hU hS hl
      refine lv_iload_n hF.1 hF.2.1 dX3_addDays_18 rfl (lv_at hl 3 rfl) ?_
      refine lv_aload_n hF.1 hF.2.1 dX3_addDays_19 rfl (lv_at hl 0 rfl) ?_
      refine q_get (v := .ref (E.2.2 99)) hF hU dX3_addDays_20 6 3 0 300 399 rfl rfl rfl rfl inX3 (by decide) (by decide) w_377 rfl rfl ?_
      refine q_get (v := .int (u.1 10)) hF hU dX3_addDays_23 1 0 10 10 99 rfl rfl rfl rfl inX0 (by decide) (by decide) w_170 rfl (congrArg Value.int (hfr.1 10 (by decide))) ?_
      refine lv_icmp_ge (tgt := 101) hF.1 hF.2.1 dX3_addDays_26 (by decide) (fun c26_1 => ?_) (fun c26_1 => ?_)
      · exact q_vret hF hr hlocks hU hS dX3_addDays_101 ⟨⟨hfr, hI, hkd⟩, (g_X3_addDays_k_v0 u x y k P S x3 uc hk hQ hfi hz8 hz9 hz10 hz12 h_k h_a c26_1)⟩
      · refine lv_aload_n hF.1 hF.2.1 dX3_addDays_29 rfl (lv_at hl 0 rfl) ?_
        refine q_get (v := .ref (E.2.2 99)) hF hU dX3_addDays_30 6 3 0 300 399 rfl rfl rfl rfl inX3 (by decide) (by decide) w_377 rfl rfl ?_
        refine q_get (v := .ref (E.2.2 2)) hF hU dX3_addDays_33 1 0 2 2 99 rfl rfl rfl rfl inX0 (by decide) (by decide) w_151 rfl rfl ?_
        refine lv_iload_n hF.1 hF.2.1 dX3_addDays_36 rfl (lv_at hl 3 rfl) ?_
        obtain ⟨a_2, ha_2_3_e, ha_2_3⟩ := hI.r2 x3 (by rw [(hfr.1 10 (by decide))]; exact (g_X3_addDays_k_v1 u x y k P S x3 uc hk hQ hfi hz8 hz9 hz10 hz12 h_k h_a c26_1))
        refine q_aald (v := .ref a_2) hF hU dX3_addDays_37 2 2 6 rfl rfl (by decide) rfl (g_X3_addDays_k_v2 u x y k P S x3 uc hk hQ hfi hz8 hz9 hz10 hz12 h_k h_a c26_1) (by rw [ha_2_3_e]; rfl) ?_
        have hK_4 : qKn k uc a_2 x3 := (hk.fr hfr (by decide) (by decide)).va (by rw [(hfr.1 10 (by decide))]; exact (g_X3_addDays_k_v3 u x y k P S x3 uc hk hQ hfi hz8 hz9 hz10 hz12 h_k h_a c26_1)) ha_2_3_e
        refine lv_astore (lv' := [(4, .ref a_2), (0, .ref (E.2.2 399)), (1, .int x), (2, .int y), (3, .int x3)]) hF.1 hF.2.1 dX3_addDays_38 hl (by decide) rfl (fun ls hl => ?_)
        refine lv_aload hF.1 hF.2.1 dX3_addDays_40 (lv_at hl 0 rfl) ?_
        obtain ⟨k_5, fs_6, hd_7, hv_8⟩ := hK_4.at 4 (by decide) (by decide)
        refine q_getd (v := .int (k.2.1 1250 (x3 : Int32).toNatClampNeg)) hF hU dX3_addDays_42 k_5 10 4 hd_7 rfl inX10 (by decide) w_602 rfl hv_8 ?_
        refine lv_iload_n hF.1 hF.2.1 dX3_addDays_45 rfl (lv_at hl 2 rfl) ?_
        refine lv_iload_n hF.1 hF.2.1 dX3_addDays_46 rfl (lv_at hl 3 rfl) ?_
        have hM9 := g_X11_isWithin l E A uc (k.2.1 1250 (x3 : Int32).toNatClampNeg) x y
        have hR9 := q_runSN (l := l) (e := e0) (below := bl0) (meth := me0) (R := qR 3 0 0) (cells := 0) (slots := 0) (st0 := [.int y, .int x, .int (k.2.1 1250 (x3 : Int32).toNatClampNeg)]) (rest := []) (host := "SecretBuyers") hF hU hS hA 3 hM9 hU.2.2.2.n1024 w_469 w_99 w_470 (by decide +kernel) ⟨Nat.le_of_ble_eq_true rfl, Nat.le_of_ble_eq_true rfl⟩ dX3_addDays_47 rfl hl.1 rfl (Nat.le_of_ble_eq_true rfl) ⟨Nat.le_of_ble_eq_true rfl, Nat.le_of_ble_eq_true rfl⟩
        refine q_calli hR9 hU.2.2.2 hS (fun r_11 u_9 H locs hw_10 hU hS => ?_)
        obtain ⟨hw_10_e, hw_10⟩ := hw_10
        rw [hw_10_e] at hU
        have hw_10 : (r_11 = 1 ∧ (x ≤ (k.2.1 1250 (x3 : Int32).toNatClampNeg) ∧ (k.2.1 1250 (x3 : Int32).toNatClampNeg) ≤ y)) ∨ (r_11 = 0 ∧ (¬ (x ≤ (k.2.1 1250 (x3 : Int32).toNatClampNeg) ∧ (k.2.1 1250 (x3 : Int32).toNatClampNeg) ≤ y))) := hw_10
        rcases hw_10 with ⟨rfl, b47_12⟩ | ⟨rfl, b47_12⟩
        · refine lv_if_eq (tgt := 95) hF.1 hF.2.1 dX3_addDays_50 (by decide) (fun h9 => absurd h9 (by decide)) (fun _ => ?_)
          refine lv_aload_n hF.1 hF.2.1 dX3_addDays_53 rfl (lv_at hl 1 rfl) ?_
          refine lv_aload hF.1 hF.2.1 dX3_addDays_54 (lv_at hl 0 rfl) ?_
          have hM9 := g_X3_isTaken_k l E A uc a_2 k P x3 S hI ((ha_2_3).rf) (hk.fr hfr (by decide) (by decide)) hK_4 (hQ.fr hfr (by decide) (by decide) (by decide) (by decide) (by decide)) hfi
          have hR9 := q_runV (l := l) (e := e0) (below := bl0) (meth := me0) (R := qR 3 0 0) (cells := 0) (slots := 0) (st0 := [.ref a_2, .ref (E.2.2 399)]) (rest := []) hF hU hS hA 1 6 3 399 rfl rfl rfl hM9 w_990 w_992 w_32 w_105 w_993 (by decide +kernel) ⟨Nat.le_of_ble_eq_true rfl, Nat.le_of_ble_eq_true rfl⟩ dX3_addDays_56 rfl hl.1 rfl (Nat.le_of_ble_eq_true rfl) ⟨Nat.le_of_ble_eq_true rfl, Nat.le_of_ble_eq_true rfl⟩
          refine q_calli hR9 hU.2.2.2 hS (fun r_15 u_13 H locs hw_14 hU hS => ?_)
          obtain ⟨hw_14_e, hw_14⟩ := hw_14
          rw [hw_14_e] at hU
          have hw_14 : (r_15 = 1 ∧ (f_co (k) (x3))) ∨ (r_15 = 0 ∧ (¬ (f_co (k) (x3)))) := hw_14
          rcases hw_14 with ⟨rfl, b56_16⟩ | ⟨rfl, b56_16⟩
          · refine lv_if_eq (tgt := 95) hF.1 hF.2.1 dX3_addDays_59 (by decide) (fun h9 => absurd h9 (by decide)) (fun _ => ?_)
            refine lv_aload_n hF.1 hF.2.1 dX3_addDays_62 rfl (lv_at hl 1 rfl) ?_
            refine q_get (v := .ref (E.2.2 306)) hF hU dX3_addDays_63 6 3 6 306 399 rfl rfl rfl rfl inX3 (by decide) (by decide) w_383 rfl rfl ?_
            refine lv_aload hF.1 hF.2.1 dX3_addDays_66 (lv_at hl 0 rfl) ?_
            obtain ⟨k_17, fs_18, hd_19, hv_20⟩ := hK_4.at 2 (by decide) (by decide)
            refine q_getd (v := .int (k.2.1 1248 (x3 : Int32).toNatClampNeg)) hF hU dX3_addDays_68 k_17 10 2 hd_19 rfl inX10 (by decide) w_591 rfl hv_20 ?_
            have hb_21 : 0 ≤ k.2.1 1248 (x3 : Int32).toNatClampNeg ∧ k.2.1 1248 (x3 : Int32).toNatClampNeg < (u.1 8) := (by have h9 := ((hk.fr hfr (by decide) (by decide)).b2 hK_4).1; rw [(hfr.1 8 (by decide))] at h9; exact h9)
            refine lv_dup2_11 hF.1 hF.2.1 dX3_addDays_71 rfl rfl ?_
            refine q_iald (v := uc.2.1 306 (k.2.1 1248 (x3 : Int32).toNatClampNeg : Int32).toNatClampNeg) hF hU dX3_addDays_72 21 306 rfl rfl (g_X3_addDays_k_v4 u x y k P S x3 uc hk hQ hfi hz8 hz9 hz10 hz12 h_k h_a c26_1 b47_12 b56_16 hb_21) rfl ?_
            refine lv_aload_n hF.1 hF.2.1 dX3_addDays_73 rfl (lv_at hl 1 rfl) ?_
            refine lv_aload hF.1 hF.2.1 dX3_addDays_74 (lv_at hl 0 rfl) ?_
            have hM9 := g_X3_fairScore l E A uc a_2 hI ((ha_2_3).rf)
            have hR9 := q_runV (l := l) (e := e0) (below := bl0) (meth := me0) (R := qR 3 0 0) (cells := 0) (slots := 0) (st0 := [.ref a_2, .ref (E.2.2 399), .int (uc.2.1 306 (k.2.1 1248 (x3 : Int32).toNatClampNeg : Int32).toNatClampNeg), .int (k.2.1 1248 (x3 : Int32).toNatClampNeg), .ref (E.2.2 306)]) (rest := [.int (uc.2.1 306 (k.2.1 1248 (x3 : Int32).toNatClampNeg : Int32).toNatClampNeg), .int (k.2.1 1248 (x3 : Int32).toNatClampNeg), .ref (E.2.2 306)]) hF hU hS hA 1 6 3 399 rfl rfl rfl hM9 w_1025 w_1026 w_1027 w_105 w_1028 (by decide +kernel) ⟨Nat.le_of_ble_eq_true rfl, Nat.le_of_ble_eq_true rfl⟩ dX3_addDays_76 rfl hl.1 rfl (Nat.le_of_ble_eq_true rfl) ⟨Nat.le_of_ble_eq_true rfl, Nat.le_of_ble_eq_true rfl⟩
            refine q_calli hR9 hU.2.2.2 hS (fun r_24 u_22 H locs hw_23 hU hS => ?_)
            obtain ⟨hw_23_e, hw_23⟩ := hw_23
            rw [hw_23_e] at hU
            refine lv_iadd hF.1 hF.2.1 dX3_addDays_79 ?_
            refine q_iast hF hU hS dX3_addDays_80 21 306 rfl rfl (g_X3_addDays_k_v5 u x y k P S x3 uc hk hQ hfi hz8 hz9 hz10 hz12 h_k h_a c26_1 b47_12 b56_16 hb_21) (fun f_25 H locs hg9 hU hS => ?_)
            have hf_25 : f_25 = upd (uc.2.1 306) (k.2.1 1248 (x3 : Int32).toNatClampNeg : Int32).toNatClampNeg ((uc.2.1 306 (k.2.1 1248 (x3 : Int32).toNatClampNeg : Int32).toNatClampNeg) + r_24) := hg9
            have hfr : qFc [] [306, 307] [] [] u (qsF uc 306 f_25) := hfr.setF (by decide)
            have hI : IC E (qsF uc 306 f_25) := hI.sF (by decide)
            refine lv_aload_n hF.1 hF.2.1 dX3_addDays_81 rfl (lv_at hl 1 rfl) ?_
            refine q_get (v := .ref (E.2.2 307)) hF hU dX3_addDays_82 6 3 7 307 399 rfl rfl rfl rfl inX3 (by decide) (by decide) w_384 rfl rfl ?_
            refine lv_aload hF.1 hF.2.1 dX3_addDays_85 (lv_at hl 0 rfl) ?_
            obtain ⟨k_26, fs_27, hd_28, hv_29⟩ := hK_4.at 2 (by decide) (by decide)
            refine q_getd (v := .int (k.2.1 1248 (x3 : Int32).toNatClampNeg)) hF hU dX3_addDays_87 k_26 10 2 hd_28 rfl inX10 (by decide) w_591 rfl hv_29 ?_
            refine lv_dup2_11 hF.1 hF.2.1 dX3_addDays_90 rfl rfl ?_
            refine q_iald (v := uc.2.1 307 (k.2.1 1248 (x3 : Int32).toNatClampNeg : Int32).toNatClampNeg) hF hU dX3_addDays_91 22 307 rfl rfl (g_X3_addDays_k_v6 u x y k P S x3 uc r_24 f_25 hk hQ hfi hz8 hz9 hz10 hz12 h_k h_a c26_1 b47_12 b56_16 hb_21 hf_25) rfl ?_
            refine lv_iconst (v := 1) hF.1 hF.2.1 dX3_addDays_92 (by decide) ?_
            refine lv_iadd hF.1 hF.2.1 dX3_addDays_93 ?_
            refine q_iast hF hU hS dX3_addDays_94 22 307 rfl rfl (g_X3_addDays_k_v7 u x y k P S x3 uc r_24 f_25 hk hQ hfi hz8 hz9 hz10 hz12 h_k h_a c26_1 b47_12 b56_16 hb_21 hf_25) (fun f_30 H locs hg9 hU hS => ?_)
            have hf_30 : f_30 = upd (uc.2.1 307) (k.2.1 1248 (x3 : Int32).toNatClampNeg : Int32).toNatClampNeg ((uc.2.1 307 (k.2.1 1248 (x3 : Int32).toNatClampNeg : Int32).toNatClampNeg) + 1) := hg9
            have hfr : qFc [] [306, 307] [] [] u (qsF (qsF uc 306 f_25) 307 f_30) := hfr.setF (by decide)
            have hI : IC E (qsF (qsF uc 306 f_25) 307 f_30) := hI.sF (by decide)
            refine lv_iinc (v := x3 + 1) (lv' := [(3, .int (x3 + 1)), (4, .ref a_2), (0, .ref (E.2.2 399)), (1, .int x), (2, .int y)]) hF.1 hF.2.1 dX3_addDays_95 hl (k := 4) rfl rfl (by decide) rfl (fun ls hl => ?_)
            refine lv_goto (tgt := 18) hF.1 hF.2.1 dX3_addDays_98 (by decide) ?_
            exact ih (x3 + 1) (qsF (qsF uc 306 f_25) 307 f_30) _ _ _ hfr hI hkd  (g_X3_addDays_k_v8 u x y k P S x3 uc r_24 f_25 f_30 hk hQ hfi hz8 hz9 hz10 hz12 h_k h_a c26_1 b47_12 b56_16 hb_21 hf_25 hf_30) (g_X3_addDays_k_v9 u x y k P S x3 uc r_24 f_25 f_30 hk hQ hfi hz8 hz9 hz10 hz12 h_k h_a c26_1 b47_12 b56_16 hb_21 hf_25 hf_30) (Nat.lt_of_lt_of_le (g_X3_addDays_k_v10 u x y k P S x3 uc r_24 f_25 f_30 hk hQ hfi hz8 hz9 hz10 hz12 h_k h_a c26_1 b47_12 b56_16 hb_21 hf_25 hf_30) (Nat.lt_succ_iff.mp hmu)) hU hS (lv_sub hl [2, 3, 4, 0] rfl)
          · refine lv_if_eq (tgt := 95) hF.1 hF.2.1 dX3_addDays_59 (by decide) (fun _ => ?_) (fun h9 => absurd (by decide) h9)
            refine lv_iinc (v := x3 + 1) (lv' := [(3, .int (x3 + 1)), (4, .ref a_2), (0, .ref (E.2.2 399)), (1, .int x), (2, .int y)]) hF.1 hF.2.1 dX3_addDays_95 hl (k := 4) rfl rfl (by decide) rfl (fun ls hl => ?_)
            refine lv_goto (tgt := 18) hF.1 hF.2.1 dX3_addDays_98 (by decide) ?_
            exact ih (x3 + 1) uc _ _ _ hfr hI hkd  (g_X3_addDays_k_v11 u x y k P S x3 uc hk hQ hfi hz8 hz9 hz10 hz12 h_k h_a c26_1 b47_12 b56_16) (g_X3_addDays_k_v12 u x y k P S x3 uc hk hQ hfi hz8 hz9 hz10 hz12 h_k h_a c26_1 b47_12 b56_16) (Nat.lt_of_lt_of_le (g_X3_addDays_k_v13 u x y k P S x3 uc hk hQ hfi hz8 hz9 hz10 hz12 h_k h_a c26_1 b47_12 b56_16) (Nat.lt_succ_iff.mp hmu)) hU hS (lv_sub hl [2, 3, 4, 0] rfl)
        · refine lv_if_eq (tgt := 95) hF.1 hF.2.1 dX3_addDays_50 (by decide) (fun _ => ?_) (fun h9 => absurd (by decide) h9)
          refine lv_iinc (v := x3 + 1) (lv' := [(3, .int (x3 + 1)), (4, .ref a_2), (0, .ref (E.2.2 399)), (1, .int x), (2, .int y)]) hF.1 hF.2.1 dX3_addDays_95 hl (k := 4) rfl rfl (by decide) rfl (fun ls hl => ?_)
          refine lv_goto (tgt := 18) hF.1 hF.2.1 dX3_addDays_98 (by decide) ?_
          exact ih (x3 + 1) uc _ _ _ hfr hI hkd  (g_X3_addDays_k_v14 u x y k P S x3 uc hk hQ hfi hz8 hz9 hz10 hz12 h_k h_a c26_1 b47_12) (g_X3_addDays_k_v15 u x y k P S x3 uc hk hQ hfi hz8 hz9 hz10 hz12 h_k h_a c26_1 b47_12) (Nat.lt_of_lt_of_le (g_X3_addDays_k_v16 u x y k P S x3 uc hk hQ hfi hz8 hz9 hz10 hz12 h_k h_a c26_1 b47_12) (Nat.lt_succ_iff.mp hmu)) hU hS (lv_sub hl [2, 3, 4, 0] rfl)
  refine lv_aload_n hF.1 hF.2.1 dX3_addDays_0 rfl (lv_at hl 0 rfl) ?_
  refine q_get (v := .ref (E.2.2 306)) hF hU dX3_addDays_1 6 3 6 306 399 rfl rfl rfl rfl inX3 (by decide) (by decide) w_383 rfl rfl ?_
  refine lv_iconst (v := 0) hF.1 hF.2.1 dX3_addDays_4 (by decide) ?_
  have hM9 := g_fill_306 l E A u 0 hI
  have hR9 := q_runS (l := l) (e := e0) (below := bl0) (meth := me0) (R := qR 3 0 0) (cells := 0) (slots := 0) (st0 := [.int 0, .ref (E.2.2 306)]) (rest := []) hF hU hS hA 2 hM9 w_989 w_941 w_112 w_942 (by decide +kernel) ⟨Nat.le_of_ble_eq_true rfl, Nat.le_of_ble_eq_true rfl⟩ dX3_addDays_5 rfl hl.1 rfl (Nat.le_of_ble_eq_true rfl) ⟨Nat.le_of_ble_eq_true rfl, Nat.le_of_ble_eq_true rfl⟩
  refine q_callv hR9 hU.2.2.2 hS (fun u_31 H locs hw_32 hU hS => ?_)
  obtain ⟨⟨hw_32_f, hI, hw_32_d⟩, hw_32⟩ := hw_32
  have hfo := hfr
  have hfr : qFc [] [306, 307] [] [] u u_31 := hfr.trans (hw_32_f.mono (by decide) (by decide) (by decide) (by decide))
  have e_34 : u_31.2.1 307 = (u.2.1 307) := (hw_32_f.2.1 307 (by decide)).trans rfl
  have hkd : u_31.2.2.2.2 = u.2.2.2.2 := hw_32_d.trans hkd
  have hw_32 : ∀ j : Nat, j < 20 → u_31.2.1 306 j = (0 : Int32) := hw_32
  refine lv_aload_n hF.1 hF.2.1 dX3_addDays_8 rfl (lv_at hl 0 rfl) ?_
  refine q_get (v := .ref (E.2.2 307)) hF hU dX3_addDays_9 6 3 7 307 399 rfl rfl rfl rfl inX3 (by decide) (by decide) w_384 rfl rfl ?_
  refine lv_iconst (v := 0) hF.1 hF.2.1 dX3_addDays_12 (by decide) ?_
  have hM9 := g_fill_307 l E A u_31 0 hI
  have hR9 := q_runS (l := l) (e := e0) (below := bl0) (meth := me0) (R := qR 3 0 0) (cells := 0) (slots := 0) (st0 := [.int 0, .ref (E.2.2 307)]) (rest := []) hF hU hS hA 2 hM9 w_989 w_941 w_112 w_942 (by decide +kernel) ⟨Nat.le_of_ble_eq_true rfl, Nat.le_of_ble_eq_true rfl⟩ dX3_addDays_13 rfl hl.1 rfl (Nat.le_of_ble_eq_true rfl) ⟨Nat.le_of_ble_eq_true rfl, Nat.le_of_ble_eq_true rfl⟩
  refine q_callv hR9 hU.2.2.2 hS (fun u_35 H locs hw_36 hU hS => ?_)
  obtain ⟨⟨hw_36_f, hI, hw_36_d⟩, hw_36⟩ := hw_36
  have hfo := hfr
  have hfr : qFc [] [306, 307] [] [] u u_35 := hfr.trans (hw_36_f.mono (by decide) (by decide) (by decide) (by decide))
  have e_38 : u_35.2.1 306 = (u_31.2.1 306) := (hw_36_f.2.1 306 (by decide)).trans rfl
  have hkd : u_35.2.2.2.2 = u.2.2.2.2 := hw_36_d.trans hkd
  have hw_36 : ∀ j : Nat, j < 20 → u_35.2.1 307 j = (0 : Int32) := hw_36
  refine lv_iconst (v := 0) hF.1 hF.2.1 dX3_addDays_16 (by decide) ?_
  refine lv_istore_n (lv' := [(3, .int 0), (0, .ref (E.2.2 399)), (1, .int x), (2, .int y)]) hF.1 hF.2.1 dX3_addDays_17 rfl hl (by decide) rfl (fun ls hl => ?_)
  exact (main _) (0 : Int32) u_35 _ _ _ hfr hI hkd  (g_X3_addDays_k_v17 u k P S u_31 u_35 hk hQ hfi hz8 hz9 hz10 hz12 hw_32 hw_36) (g_X3_addDays_k_v18 u x y k P S u_31 u_35 hk hQ hfi hz8 hz9 hz10 hz12 hw_32 hw_36) (Nat.lt_succ_self _) hU hS (lv_sub hl [1, 2, 3, 0] rfl)
