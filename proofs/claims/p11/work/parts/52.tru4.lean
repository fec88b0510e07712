set_option maxRecDepth 100000 in
theorem g_X11_fewest_k_v0 (u : qS) (x : Int32) (y : Int32) (k : qS) (P : Nat → Int32) (u_9 : qS) (S_12 : Nat → Int32) (hk : CT k P u) (hca : t_ca k u) (hz8 : 0 ≤ u.1 8 ∧ u.1 8 ≤ 20) (hz9 : 0 ≤ u.1 9 ∧ u.1 9 ≤ 8) (hz10 : 0 ≤ u.1 10 ∧ u.1 10 ≤ 120) (hz12 : 0 ≤ u.1 12 ∧ u.1 12 ≤ 16) (b5_4 : 0 ≤ x ∧ x < u.1 9) (b12_8 : 0 ≤ y ∧ y ≤ 9999) (hq_13 : f_fi (k) S_12 ∧ u_9.1 909 = u.1 18) : f_a1 k S_12 := by
  exact (by assumption : f_fi k _ ∧ _).1.a1
set_option maxRecDepth 100000 in
theorem g_X11_fewest_k_v1 (u : qS) (x : Int32) (y : Int32) (k : qS) (P : Nat → Int32) (u_9 : qS) (S_12 : Nat → Int32) (r_16 : Int32) (hk : CT k P u) (hca : t_ca k u) (hz8 : 0 ≤ u.1 8 ∧ u.1 8 ≤ 20) (hz9 : 0 ≤ u.1 9 ∧ u.1 9 ≤ 8) (hz10 : 0 ≤ u.1 10 ∧ u.1 10 ≤ 120) (hz12 : 0 ≤ u.1 12 ∧ u.1 12 ≤ 16) (b5_4 : 0 ≤ x ∧ x < u.1 9) (b12_8 : 0 ≤ y ∧ y ≤ 9999) (hq_13 : f_fi (k) S_12 ∧ u_9.1 909 = u.1 18) (hw_15 : r_16 = (f_all (k) x y).1) : (((0 ≤ x ∧ x < u.1 9) ∧ (0 ≤ y ∧ y ≤ 9999)) ∧ (r_16 : Int32) = (f_all k x y).1) ∨ (¬ ((0 ≤ x ∧ x < u.1 9) ∧ (0 ≤ y ∧ y ≤ 9999)) ∧ (r_16 : Int32) = -1) := by
  first | exact Or.inl ⟨⟨by assumption, by assumption⟩, by assumption⟩ | exact Or.inr ⟨fun q => (by obtain ⟨q1, q2⟩ := q; first | exact absurd q1 (by assumption) | exact absurd q2 (by assumption)), rfl⟩
set_option maxRecDepth 100000 in
theorem g_X11_fewest_k_v2 (u : qS) (x : Int32) (y : Int32) (k : qS) (P : Nat → Int32) (hk : CT k P u) (hca : t_ca k u) (hz8 : 0 ≤ u.1 8 ∧ u.1 8 ≤ 20) (hz9 : 0 ≤ u.1 9 ∧ u.1 9 ≤ 8) (hz10 : 0 ≤ u.1 10 ∧ u.1 10 ≤ 120) (hz12 : 0 ≤ u.1 12 ∧ u.1 12 ≤ 16) (b5_4 : 0 ≤ x ∧ x < u.1 9) (b12_8 : ¬ (0 ≤ y ∧ y ≤ 9999)) : (((0 ≤ x ∧ x < u.1 9) ∧ (0 ≤ y ∧ y ≤ 9999)) ∧ ((-1) : Int32) = (f_all k x y).1) ∨ (¬ ((0 ≤ x ∧ x < u.1 9) ∧ (0 ≤ y ∧ y ≤ 9999)) ∧ ((-1) : Int32) = -1) := by
  first | exact Or.inl ⟨⟨by assumption, by assumption⟩, by assumption⟩ | exact Or.inr ⟨fun q => (by obtain ⟨q1, q2⟩ := q; first | exact absurd q1 (by assumption) | exact absurd q2 (by assumption)), rfl⟩
set_option maxRecDepth 100000 in
theorem g_X11_fewest_k_v3 (u : qS) (x : Int32) (y : Int32) (k : qS) (P : Nat → Int32) (hk : CT k P u) (hca : t_ca k u) (hz8 : 0 ≤ u.1 8 ∧ u.1 8 ≤ 20) (hz9 : 0 ≤ u.1 9 ∧ u.1 9 ≤ 8) (hz10 : 0 ≤ u.1 10 ∧ u.1 10 ≤ 120) (hz12 : 0 ≤ u.1 12 ∧ u.1 12 ≤ 16) (b5_4 : ¬ (0 ≤ x ∧ x < u.1 9)) : (((0 ≤ x ∧ x < u.1 9) ∧ (0 ≤ y ∧ y ≤ 9999)) ∧ ((-1) : Int32) = (f_all k x y).1) ∨ (¬ ((0 ≤ x ∧ x < u.1 9) ∧ (0 ≤ y ∧ y ≤ 9999)) ∧ ((-1) : Int32) = -1) := by
  first | exact Or.inl ⟨⟨by assumption, by assumption⟩, by assumption⟩ | exact Or.inr ⟨fun q => (by obtain ⟨q1, q2⟩ := q; first | exact absurd q1 (by assumption) | exact absurd q2 (by assumption)), rfl⟩
set_option maxHeartbeats 1000000 in
set_option maxRecDepth 100000 in
theorem g_X11_fewest_k (l : Launch) (E : qE) (A : Nat → Prop) (u : qS) (x : Int32) (y : Int32) (k : qS) (P : Nat → Int32) (hI : IC E u) (hk : CT k P u) (hca : t_ca k u) : Met l yX11_fewest (uws yX11_fewest cX11_fewest 3 (some .int)) (qR 7 0 0) (qPc E A 0 u [.ref (E.2.2 1199), .int x, .int y]) (qQi E A 0 (fun r u1 => (qFc [900, 901, 902, 908, 909] [905, 906, 907] [] [904, 5010] u u1 ∧ IC E u1) ∧ (t_ca k u1 ∧ ((((0 ≤ x ∧ x < u.1 9) ∧ (0 ≤ y ∧ y ≤ 9999)) ∧ r = (f_all k x y).1) ∨ (¬ ((0 ≤ x ∧ x < u.1 9) ∧ (0 ≤ y ∧ y ≤ 9999)) ∧ r = -1))))) 0 0 A := by
  refine q_met (own := RX11) (f := 7) [.ref (E.2.2 1199), .int x, .int y] (by decide) (Nat.le_of_ble_eq_true rfl) rfl ?_
  intro p0 e0 s0 m0 bl0 me0 cd0 ls hF hr hlocks hU hS hA hl
  have hl : lv_has ls 3 [(0, .ref (E.2.2 1199)), (1, .int x), (2, .int y)] := hl
  have hz8 : 0 ≤ u.1 8 ∧ u.1 8 ≤ 20 := hI.1.s8
  have hz9 : 0 ≤ u.1 9 ∧ u.1 9 ≤ 8 := hI.1.s9
  have hz10 : 0 ≤ u.1 10 ∧ u.1 10 ≤ 120 := hI.1.s10
  have hz12 : 0 ≤ u.1 12 ∧ u.1 12 ≤ 16 := hI.1.s12
  have hfr : qFc [900, 901, 902, 908, 909] [905, 906, 907] [] [904, 5010] u u := qFc.rf
  have hCA := hca
  refine lv_aload_n hF.1 hF.2.1 dX11_fewest_0 rfl (lv_at hl 0 rfl) ?_
  refine q_get (v := .ref (E.2.2 99)) hF hU dX11_fewest_1 0 11 0 1100 1199 rfl rfl rfl rfl inX11 (by decide) (by decide) w_436 rfl rfl ?_
  refine lv_iload_n hF.1 hF.2.1 dX11_fewest_4 rfl (lv_at hl 1 rfl) ?_
  have hM9 := g_X0_hasBuyer l E A u x hI
  have hR9 := q_runV (l := l) (e := e0) (below := bl0) (meth := me0) (R := qR 7 0 0) (cells := 0) (slots := 0) (st0 := [.int x, .ref (E.2.2 99)]) (rest := []) hF hU hS hA 1 1 0 99 rfl rfl rfl hM9 w_568 w_569 w_570 w_100 w_571 (by decide +kernel) ⟨Nat.le_of_ble_eq_true rfl, Nat.le_of_ble_eq_true rfl⟩ dX11_fewest_5 rfl hl.1 rfl (Nat.le_of_ble_eq_true rfl) ⟨Nat.le_of_ble_eq_true rfl, Nat.le_of_ble_eq_true rfl⟩
  refine q_calli hR9 hU.2.2.2 hS (fun r_3 u_1 H locs hw_2 hU hS => ?_)
  obtain ⟨hw_2_e, hw_2⟩ := hw_2
  rw [hw_2_e] at hU
  have hw_2 : (r_3 = 1 ∧ (0 ≤ x ∧ x < u.1 9)) ∨ (r_3 = 0 ∧ (¬ (0 ≤ x ∧ x < u.1 9))) := hw_2
  rcases hw_2 with ⟨rfl, b5_4⟩ | ⟨rfl, b5_4⟩
  · refine lv_if_eq (tgt := 18) hF.1 hF.2.1 dX11_fewest_8 (by decide) (fun h9 => absurd h9 (by decide)) (fun _ => ?_)
    refine lv_iload_n hF.1 hF.2.1 dX11_fewest_11 rfl (lv_at hl 2 rfl) ?_
    have hM9 := g_X11_isDay l E A u y
    have hR9 := q_runS (l := l) (e := e0) (below := bl0) (meth := me0) (R := qR 7 0 0) (cells := 0) (slots := 0) (st0 := [.int y]) (rest := []) hF hU hS hA 1 hM9 w_699 w_700 w_99 w_701 (by decide +kernel) ⟨Nat.le_of_ble_eq_true rfl, Nat.le_of_ble_eq_true rfl⟩ dX11_fewest_12 rfl hl.1 rfl (Nat.le_of_ble_eq_true rfl) ⟨Nat.le_of_ble_eq_true rfl, Nat.le_of_ble_eq_true rfl⟩
    refine q_calli hR9 hU.2.2.2 hS (fun r_7 u_5 H locs hw_6 hU hS => ?_)
    obtain ⟨hw_6_e, hw_6⟩ := hw_6
    rw [hw_6_e] at hU
    have hw_6 : (r_7 = 1 ∧ (0 ≤ y ∧ y ≤ 9999)) ∨ (r_7 = 0 ∧ (¬ (0 ≤ y ∧ y ≤ 9999))) := hw_6
    rcases hw_6 with ⟨rfl, b12_8⟩ | ⟨rfl, b12_8⟩
    · refine lv_if_ne (tgt := 20) hF.1 hF.2.1 dX11_fewest_15 (by decide) (fun _ => ?_) (fun h9 => absurd h9 (by decide))
      refine lv_aload_n hF.1 hF.2.1 dX11_fewest_20 rfl (lv_at hl 0 rfl) ?_
      refine q_get (v := .ref (E.2.2 999)) hF hU dX11_fewest_21 0 11 3 1103 1199 rfl rfl rfl rfl inX11 (by decide) (by decide) w_439 rfl rfl ?_
      have hM9 := g_X9_refresh_k l E A u k P hI hk hCA.1
      have hR9 := q_runV (l := l) (e := e0) (below := bl0) (meth := me0) (R := qR 7 0 0) (cells := 0) (slots := 0) (st0 := [.ref (E.2.2 999)]) (rest := []) hF hU hS hA 0 4 9 999 rfl rfl rfl hM9 w_843 w_844 w_845 w_103 w_846 (by decide +kernel) ⟨Nat.le_of_ble_eq_true rfl, Nat.le_of_ble_eq_true rfl⟩ dX11_fewest_24 rfl hl.1 rfl (Nat.le_of_ble_eq_true rfl) ⟨Nat.le_of_ble_eq_true rfl, Nat.le_of_ble_eq_true rfl⟩
      refine q_callv hR9 hU.2.2.2 hS (fun u_9 H locs hw_10 hU hS => ?_)
      obtain ⟨⟨hw_10_f, hI⟩, hw_10⟩ := hw_10
      have hfo := hfr
      have hfr : qFc [900, 901, 902, 908, 909] [905, 906, 907] [] [904, 5010] u u_9 := hfr.trans (hw_10_f.mono (by decide) (by decide) (by decide) (by decide))
      obtain ⟨S_12, hST, hq_13⟩ := hw_10
      have hCA : t_ca k u_9 := hCA.tr hw_10_f hST hq_13.1 hq_13.2 (by decide) (by decide) (by decide)
      have hq_13 : f_fi (k) S_12 ∧ u_9.1 909 = u.1 18 := hq_13
      refine lv_aload_n hF.1 hF.2.1 dX11_fewest_27 rfl (lv_at hl 0 rfl) ?_
      refine q_get (v := .ref (E.2.2 999)) hF hU dX11_fewest_28 0 11 3 1103 1199 rfl rfl rfl rfl inX11 (by decide) (by decide) w_439 rfl rfl ?_
      refine lv_iload_n hF.1 hF.2.1 dX11_fewest_31 rfl (lv_at hl 1 rfl) ?_
      refine lv_iload_n hF.1 hF.2.1 dX11_fewest_32 rfl (lv_at hl 2 rfl) ?_
      have hM9 := g_X9_fewestOf_k l E A u_9 x y k P S_12 hI (hk.fr hfr (by decide) (by decide)) hST (g_X11_fewest_k_v0 u x y k P u_9 S_12 hk hca hz8 hz9 hz10 hz12 b5_4 b12_8 hq_13)
      have hR9 := q_runV (l := l) (e := e0) (below := bl0) (meth := me0) (R := qR 7 0 0) (cells := 0) (slots := 0) (st0 := [.int y, .int x, .ref (E.2.2 999)]) (rest := []) hF hU hS hA 2 4 9 999 rfl rfl rfl hM9 w_911 w_912 w_913 w_103 w_914 (by decide +kernel) ⟨Nat.le_of_ble_eq_true rfl, Nat.le_of_ble_eq_true rfl⟩ dX11_fewest_33 rfl hl.1 rfl (Nat.le_of_ble_eq_true rfl) ⟨Nat.le_of_ble_eq_true rfl, Nat.le_of_ble_eq_true rfl⟩
      refine q_calli hR9 hU.2.2.2 hS (fun r_16 u_14 H locs hw_15 hU hS => ?_)
      obtain ⟨⟨hw_15_f, hI, hw_15_d⟩, hw_15⟩ := hw_15
      have hfo := hfr
      have hfr : qFc [900, 901, 902, 908, 909] [905, 906, 907] [] [904, 5010] u u_14 := hfr.trans (hw_15_f.mono (by decide) (by decide) (by decide) (by decide))
      have e_17 : u_14.1 900 = (u_9.1 900) := (hw_15_f.1 900 (by decide)).trans rfl
      have e_18 : u_14.1 901 = (u_9.1 901) := (hw_15_f.1 901 (by decide)).trans rfl
      have e_19 : u_14.1 902 = (u_9.1 902) := (hw_15_f.1 902 (by decide)).trans rfl
      have e_20 : u_14.1 909 = (u_9.1 909) := (hw_15_f.1 909 (by decide)).trans rfl
      have e_21 : u_14.2.1 906 = (u_9.2.1 906) := (hw_15_f.2.1 906 (by decide)).trans rfl
      have hCA : t_ca k u_14 := hCA.fr hw_15_f (by decide) (by decide) (by decide)
      have hST : qFD 10 S_12 u_14 := hST.fr hw_15_f (by decide) (by decide) (by decide) (by decide) (by decide)
      have hw_15 : r_16 = (f_all (k) x y).1 := hw_15
      exact q_iret hF hr rfl hlocks hU hS dX11_fewest_36 ⟨⟨hfr, hI⟩, ⟨hCA, (g_X11_fewest_k_v1 u x y k P u_9 S_12 r_16 hk hca hz8 hz9 hz10 hz12 b5_4 b12_8 hq_13 hw_15)⟩⟩
    · refine lv_if_ne (tgt := 20) hF.1 hF.2.1 dX11_fewest_15 (by decide) (fun h9 => absurd (by decide) h9) (fun _ => ?_)
      refine lv_iconst (v := (-1)) hF.1 hF.2.1 dX11_fewest_18 (by decide) ?_
      exact q_iret hF hr rfl hlocks hU hS dX11_fewest_19 ⟨⟨hfr, hI⟩, ⟨hCA, (g_X11_fewest_k_v2 u x y k P hk hca hz8 hz9 hz10 hz12 b5_4 b12_8)⟩⟩
  · refine lv_if_eq (tgt := 18) hF.1 hF.2.1 dX11_fewest_8 (by decide) (fun _ => ?_) (fun h9 => absurd (by decide) h9)
    refine lv_iconst (v := (-1)) hF.1 hF.2.1 dX11_fewest_18 (by decide) ?_
    exact q_iret hF hr rfl hlocks hU hS dX11_fewest_19 ⟨⟨hfr, hI⟩, ⟨hCA, (g_X11_fewest_k_v3 u x y k P hk hca hz8 hz9 hz10 hz12 b5_4)⟩⟩
set_option maxRecDepth 100000 in
theorem g_X11_hasMean_k_v0 (u : qS) (x : Int32) (y : Int32) (z : Int32) (k : qS) (P : Nat → Int32) (S : Nat → Int32) (u_9 : qS) (hk : CT k P u) (hQ : qFD 10 S u) (hfi : f_fi k S) (hz8 : 0 ≤ u.1 8 ∧ u.1 8 ≤ 20) (hz9 : 0 ≤ u.1 9 ∧ u.1 9 ≤ 8) (hz10 : 0 ≤ u.1 10 ∧ u.1 10 ≤ 120) (hz12 : 0 ≤ u.1 12 ∧ u.1 12 ≤ 16) (b5_4 : 0 ≤ x ∧ x < u.1 8) (b13_8 : (0 ≤ y ∧ y ≤ 9999) ∧ (0 ≤ z ∧ z ≤ 9999) ∧ y ≤ z) (hw_10 : m_A (k) (fun _ => 1) y z (u_9.2.1 307) ((k).1 1247).toNatClampNeg) : 0 ≤ x ∧ x < (u.1 8 : Int32) := by
  first | omega | ((try simp only [g_m1, Int32.lt_iff_toInt_lt, Int32.le_iff_toInt_le, ← Int32.toInt_inj, Int32.reduceToInt] at *); omega) | ((try simp only [g_m1, Int32.lt_iff_toInt_lt, Int32.le_iff_toInt_le, ← Int32.toInt_inj, Int32.reduceToInt] at *); omega) | ((try simp only [g_m1, Int32.lt_iff_toInt_lt, Int32.le_iff_toInt_le, ← Int32.toInt_inj, Int32.toInt_add, Int32.toInt_sub, Int32.toInt_mul, Int32.toInt_neg, Int32.reduceToInt, g_bm, g_bm'] at *); omega) | (have qr1 := g_rng x; have qr2 := g_rng y; have qr3 := g_rng z; (try simp only [g_m1, Int32.lt_iff_toInt_lt, Int32.le_iff_toInt_le, ← Int32.toInt_inj, Int32.toInt_add, Int32.toInt_sub, Int32.toInt_mul, Int32.toInt_neg, Int32.reduceToInt, g_bm, g_bm'] at *); omega) | (simp only [g_m1, Int32.lt_iff_toInt_lt, Int32.le_iff_toInt_le, ← Int32.toInt_inj, Int32.toInt_add, Int32.toInt_sub, Int32.toInt_mul, Int32.toInt_neg, Int32.reduceToInt, g_bm, g_bm'] at *; simp at *; omega) | (simp_all; done)
set_option maxRecDepth 100000 in
theorem g_X11_hasMean_k_v1 (u : qS) (x : Int32) (y : Int32) (z : Int32) (k : qS) (P : Nat → Int32) (S : Nat → Int32) (u_9 : qS) (hk : CT k P u) (hQ : qFD 10 S u) (hfi : f_fi k S) (hz8 : 0 ≤ u.1 8 ∧ u.1 8 ≤ 20) (hz9 : 0 ≤ u.1 9 ∧ u.1 9 ≤ 8) (hz10 : 0 ≤ u.1 10 ∧ u.1 10 ≤ 120) (hz12 : 0 ≤ u.1 12 ∧ u.1 12 ≤ 16) (b5_4 : 0 ≤ x ∧ x < u.1 8) (b13_8 : (0 ≤ y ∧ y ≤ 9999) ∧ (0 ≤ z ∧ z ≤ 9999) ∧ y ≤ z) (hw_10 : m_A (k) (fun _ => 1) y z (u_9.2.1 307) ((k).1 1247).toNatClampNeg) (b35_15 : 0 < (u_9.2.1 307) x.toNatClampNeg) : (1 = (1 : Int32) ∧ (f_HM k x y z ∧ m_A k (fun _ => 1) y z ((u_9.2.1 307)) (k.1 1247).toNatClampNeg)) ∨ (1 = (0 : Int32) ∧ (¬ f_HM k x y z)) := by
  first
  | (have w := (by assumption : m_A k (fun _ => 1) y z _ _)
     have s8 := (by assumption : 0 ≤ x ∧ x < u.1 8)
     have e := w x s8.1 (Int32.lt_of_lt_of_le s8.2 hz8.2)
     first
     | exact Or.inl ⟨rfl, ⟨by rw [← hk.1.2.1]; exact s8, by assumption, by rw [← e]; assumption⟩, w⟩
     | exact Or.inr ⟨rfl, fun q => (by have n := q.2.2; rw [← e] at n; exact absurd n (by assumption))⟩)
  | exact Or.inr ⟨rfl, fun q => absurd (by rw [hk.1.2.1]; exact q.1) (by assumption : ¬ (0 ≤ x ∧ x < u.1 8))⟩
  | exact Or.inr ⟨rfl, fun q => absurd q.2.1 (by assumption)⟩
set_option maxRecDepth 100000 in
theorem g_X11_hasMean_k_v2 (u : qS) (x : Int32) (y : Int32) (z : Int32) (k : qS) (P : Nat → Int32) (S : Nat → Int32) (u_9 : qS) (hk : CT k P u) (hQ : qFD 10 S u) (hfi : f_fi k S) (hz8 : 0 ≤ u.1 8 ∧ u.1 8 ≤ 20) (hz9 : 0 ≤ u.1 9 ∧ u.1 9 ≤ 8) (hz10 : 0 ≤ u.1 10 ∧ u.1 10 ≤ 120) (hz12 : 0 ≤ u.1 12 ∧ u.1 12 ≤ 16) (b5_4 : 0 ≤ x ∧ x < u.1 8) (b13_8 : (0 ≤ y ∧ y ≤ 9999) ∧ (0 ≤ z ∧ z ≤ 9999) ∧ y ≤ z) (hw_10 : m_A (k) (fun _ => 1) y z (u_9.2.1 307) ((k).1 1247).toNatClampNeg) (b35_15 : ¬ (0 < (u_9.2.1 307) x.toNatClampNeg)) : (0 = (1 : Int32) ∧ (f_HM k x y z ∧ m_A k (fun _ => 1) y z ((u_9.2.1 307)) (k.1 1247).toNatClampNeg)) ∨ (0 = (0 : Int32) ∧ (¬ f_HM k x y z)) := by
  first
  | (have w := (by assumption : m_A k (fun _ => 1) y z _ _)
     have s8 := (by assumption : 0 ≤ x ∧ x < u.1 8)
     have e := w x s8.1 (Int32.lt_of_lt_of_le s8.2 hz8.2)
     first
     | exact Or.inl ⟨rfl, ⟨by rw [← hk.1.2.1]; exact s8, by assumption, by rw [← e]; assumption⟩, w⟩
     | exact Or.inr ⟨rfl, fun q => (by have n := q.2.2; rw [← e] at n; exact absurd n (by assumption))⟩)
  | exact Or.inr ⟨rfl, fun q => absurd (by rw [hk.1.2.1]; exact q.1) (by assumption : ¬ (0 ≤ x ∧ x < u.1 8))⟩
  | exact Or.inr ⟨rfl, fun q => absurd q.2.1 (by assumption)⟩
set_option maxRecDepth 100000 in
theorem g_X11_hasMean_k_v3 (u : qS) (x : Int32) (y : Int32) (z : Int32) (k : qS) (P : Nat → Int32) (S : Nat → Int32) (hk : CT k P u) (hQ : qFD 10 S u) (hfi : f_fi k S) (hz8 : 0 ≤ u.1 8 ∧ u.1 8 ≤ 20) (hz9 : 0 ≤ u.1 9 ∧ u.1 9 ≤ 8) (hz10 : 0 ≤ u.1 10 ∧ u.1 10 ≤ 120) (hz12 : 0 ≤ u.1 12 ∧ u.1 12 ≤ 16) (b5_4 : 0 ≤ x ∧ x < u.1 8) (b13_8 : ¬ ((0 ≤ y ∧ y ≤ 9999) ∧ (0 ≤ z ∧ z ≤ 9999) ∧ y ≤ z)) : (0 = (1 : Int32) ∧ (f_HM k x y z ∧ m_A k (fun _ => 1) y z ((u.2.1 307)) (k.1 1247).toNatClampNeg)) ∨ (0 = (0 : Int32) ∧ (¬ f_HM k x y z)) := by
  first
  | (have w := (by assumption : m_A k (fun _ => 1) y z _ _)
     have s8 := (by assumption : 0 ≤ x ∧ x < u.1 8)
     have e := w x s8.1 (Int32.lt_of_lt_of_le s8.2 hz8.2)
     first
     | exact Or.inl ⟨rfl, ⟨by rw [← hk.1.2.1]; exact s8, by assumption, by rw [← e]; assumption⟩, w⟩
     | exact Or.inr ⟨rfl, fun q => (by have n := q.2.2; rw [← e] at n; exact absurd n (by assumption))⟩)
  | exact Or.inr ⟨rfl, fun q => absurd (by rw [hk.1.2.1]; exact q.1) (by assumption : ¬ (0 ≤ x ∧ x < u.1 8))⟩
  | exact Or.inr ⟨rfl, fun q => absurd q.2.1 (by assumption)⟩
set_option maxRecDepth 100000 in
theorem g_X11_hasMean_k_v4 (u : qS) (x : Int32) (y : Int32) (z : Int32) (k : qS) (P : Nat → Int32) (S : Nat → Int32) (hk : CT k P u) (hQ : qFD 10 S u) (hfi : f_fi k S) (hz8 : 0 ≤ u.1 8 ∧ u.1 8 ≤ 20) (hz9 : 0 ≤ u.1 9 ∧ u.1 9 ≤ 8) (hz10 : 0 ≤ u.1 10 ∧ u.1 10 ≤ 120) (hz12 : 0 ≤ u.1 12 ∧ u.1 12 ≤ 16) (b5_4 : ¬ (0 ≤ x ∧ x < u.1 8)) : (0 = (1 : Int32) ∧ (f_HM k x y z ∧ m_A k (fun _ => 1) y z ((u.2.1 307)) (k.1 1247).toNatClampNeg)) ∨ (0 = (0 : Int32) ∧ (¬ f_HM k x y z)) := by
  first
  | (have w := (by assumption : m_A k (fun _ => 1) y z _ _)
     have s8 := (by assumption : 0 ≤ x ∧ x < u.1 8)
     have e := w x s8.1 (Int32.lt_of_lt_of_le s8.2 hz8.2)
     first
     | exact Or.inl ⟨rfl, ⟨by rw [← hk.1.2.1]; exact s8, by assumption, by rw [← e]; assumption⟩, w⟩
     | exact Or.inr ⟨rfl, fun q => (by have n := q.2.2; rw [← e] at n; exact absurd n (by assumption))⟩)
  | exact Or.inr ⟨rfl, fun q => absurd (by rw [hk.1.2.1]; exact q.1) (by assumption : ¬ (0 ≤ x ∧ x < u.1 8))⟩
  | exact Or.inr ⟨rfl, fun q => absurd q.2.1 (by assumption)⟩
set_option maxHeartbeats 1000000 in
set_option maxRecDepth 100000 in
theorem g_X11_hasMean_k (l : Launch) (E : qE) (A : Nat → Prop) (u : qS) (x : Int32) (y : Int32) (z : Int32) (k : qS) (P : Nat → Int32) (S : Nat → Int32) (hI : IC E u) (hk : CT k P u) (hQ : qFD 10 S u) (hfi : f_fi k S) : Met l yX11_hasMean (uws yX11_hasMean cX11_hasMean 4 (some .boolean)) (qR 4 0 0) (qPc E A 0 u [.ref (E.2.2 1199), .int x, .int y, .int z]) (qQi E A 0 (fun r u1 => (qFc [] [306, 307] [] [] u u1 ∧ IC E u1 ∧ u1.2.2.2.2 = u.2.2.2.2) ∧ ((r = 1 ∧ (f_HM k x y z ∧ m_A k (fun _ => 1) y z (u1.2.1 307) (k.1 1247).toNatClampNeg)) ∨ (r = 0 ∧ (¬ f_HM k x y z))))) 0 0 A := by
  refine q_met (own := RX11) (f := 4) [.ref (E.2.2 1199), .int x, .int y, .int z] (by decide) (Nat.le_of_ble_eq_true rfl) rfl ?_
  intro p0 e0 s0 m0 bl0 me0 cd0 ls hF hr hlocks hU hS hA hl
  have hl : lv_has ls 4 [(0, .ref (E.2.2 1199)), (1, .int x), (2, .int y), (3, .int z)] := hl
  have hkd : u.2.2.2.2 = u.2.2.2.2 := rfl
  have hz8 : 0 ≤ u.1 8 ∧ u.1 8 ≤ 20 := hI.1.s8
  have hz9 : 0 ≤ u.1 9 ∧ u.1 9 ≤ 8 := hI.1.s9
  have hz10 : 0 ≤ u.1 10 ∧ u.1 10 ≤ 120 := hI.1.s10
  have hz12 : 0 ≤ u.1 12 ∧ u.1 12 ≤ 16 := hI.1.s12
  have hfr : qFc [] [306, 307] [] [] u u := qFc.rf
  refine lv_aload_n hF.1 hF.2.1 dX11_hasMean_0 rfl (lv_at hl 0 rfl) ?_
  refine q_get (v := .ref (E.2.2 99)) hF hU dX11_hasMean_1 0 11 0 1100 1199 rfl rfl rfl rfl inX11 (by decide) (by decide) w_436 rfl rfl ?_
  refine lv_iload_n hF.1 hF.2.1 dX11_hasMean_4 rfl (lv_at hl 1 rfl) ?_
  have hM9 := g_X0_hasShop l E A u x hI
  have hR9 := q_runV (l := l) (e := e0) (below := bl0) (meth := me0) (R := qR 4 0 0) (cells := 0) (slots := 0) (st0 := [.int x, .ref (E.2.2 99)]) (rest := []) hF hU hS hA 1 1 0 99 rfl rfl rfl hM9 w_563 w_564 w_565 w_100 w_566 (by decide +kernel) ⟨Nat.le_of_ble_eq_true rfl, Nat.le_of_ble_eq_true rfl⟩ dX11_hasMean_5 rfl hl.1 rfl (Nat.le_of_ble_eq_true rfl) ⟨Nat.le_of_ble_eq_true rfl, Nat.le_of_ble_eq_true rfl⟩
  refine q_calli hR9 hU.2.2.2 hS (fun r_3 u_1 H locs hw_2 hU hS => ?_)
  obtain ⟨hw_2_e, hw_2⟩ := hw_2
  rw [hw_2_e] at hU
  have hw_2 : (r_3 = 1 ∧ (0 ≤ x ∧ x < u.1 8)) ∨ (r_3 = 0 ∧ (¬ (0 ≤ x ∧ x < u.1 8))) := hw_2
  rcases hw_2 with ⟨rfl, b5_4⟩ | ⟨rfl, b5_4⟩
  · refine lv_if_eq (tgt := 19) hF.1 hF.2.1 dX11_hasMean_8 (by decide) (fun h9 => absurd h9 (by decide)) (fun _ => ?_)
    refine lv_iload_n hF.1 hF.2.1 dX11_hasMean_11 rfl (lv_at hl 2 rfl) ?_
    refine lv_iload_n hF.1 hF.2.1 dX11_hasMean_12 rfl (lv_at hl 3 rfl) ?_
    have hM9 := g_X11_isSpan l E A u y z
    have hR9 := q_runS (l := l) (e := e0) (below := bl0) (meth := me0) (R := qR 4 0 0) (cells := 0) (slots := 0) (st0 := [.int z, .int y]) (rest := []) hF hU hS hA 2 hM9 w_1017 w_1018 w_99 w_1019 (by decide +kernel) ⟨Nat.le_of_ble_eq_true rfl, Nat.le_of_ble_eq_true rfl⟩ dX11_hasMean_13 rfl hl.1 rfl (Nat.le_of_ble_eq_true rfl) ⟨Nat.le_of_ble_eq_true rfl, Nat.le_of_ble_eq_true rfl⟩
    refine q_calli hR9 hU.2.2.2 hS (fun r_7 u_5 H locs hw_6 hU hS => ?_)
    obtain ⟨hw_6_e, hw_6⟩ := hw_6
    rw [hw_6_e] at hU
    have hw_6 : (r_7 = 1 ∧ ((0 ≤ y ∧ y ≤ 9999) ∧ (0 ≤ z ∧ z ≤ 9999) ∧ y ≤ z)) ∨ (r_7 = 0 ∧ (¬ ((0 ≤ y ∧ y ≤ 9999) ∧ (0 ≤ z ∧ z ≤ 9999) ∧ y ≤ z))) := hw_6
    rcases hw_6 with ⟨rfl, b13_8⟩ | ⟨rfl, b13_8⟩
    · refine lv_if_ne (tgt := 21) hF.1 hF.2.1 dX11_hasMean_16 (by decide) (fun _ => ?_) (fun h9 => absurd h9 (by decide))
      refine lv_aload_n hF.1 hF.2.1 dX11_hasMean_21 rfl (lv_at hl 0 rfl) ?_
      refine q_get (v := .ref (E.2.2 399)) hF hU dX11_hasMean_22 0 11 5 1105 1199 rfl rfl rfl rfl inX11 (by decide) (by decide) w_441 rfl rfl ?_
      refine lv_iload_n hF.1 hF.2.1 dX11_hasMean_25 rfl (lv_at hl 2 rfl) ?_
      refine lv_iload_n hF.1 hF.2.1 dX11_hasMean_26 rfl (lv_at hl 3 rfl) ?_
      have hM9 := g_X3_addDays_k l E A u y z k P S hI hk hQ hfi
      have hR9 := q_runV (l := l) (e := e0) (below := bl0) (meth := me0) (R := qR 4 0 0) (cells := 0) (slots := 0) (st0 := [.int z, .int y, .ref (E.2.2 399)]) (rest := []) hF hU hS hA 2 6 3 399 rfl rfl rfl hM9 w_1020 w_1021 w_1022 w_105 w_1023 (by decide +kernel) ⟨Nat.le_of_ble_eq_true rfl, Nat.le_of_ble_eq_true rfl⟩ dX11_hasMean_27 rfl hl.1 rfl (Nat.le_of_ble_eq_true rfl) ⟨Nat.le_of_ble_eq_true rfl, Nat.le_of_ble_eq_true rfl⟩
      refine q_callv hR9 hU.2.2.2 hS (fun u_9 H locs hw_10 hU hS => ?_)
      obtain ⟨⟨hw_10_f, hI, hw_10_d⟩, hw_10⟩ := hw_10
      have hfo := hfr
      have hfr : qFc [] [306, 307] [] [] u u_9 := hfr.trans (hw_10_f.mono (by decide) (by decide) (by decide) (by decide))
      have hkd : u_9.2.2.2.2 = u.2.2.2.2 := hw_10_d.trans hkd
      have hw_10 : m_A (k) (fun _ => 1) y z (u_9.2.1 307) ((k).1 1247).toNatClampNeg := hw_10
      refine lv_aload_n hF.1 hF.2.1 dX11_hasMean_30 rfl (lv_at hl 0 rfl) ?_
      refine q_get (v := .ref (E.2.2 399)) hF hU dX11_hasMean_31 0 11 5 1105 1199 rfl rfl rfl rfl inX11 (by decide) (by decide) w_441 rfl rfl ?_
      refine lv_iload_n hF.1 hF.2.1 dX11_hasMean_34 rfl (lv_at hl 1 rfl) ?_
      have hM9 := g_X3_isMet_k l E A u_9 x k P hI (hk.fr hfr (by decide) (by decide)) (by rw [(hfr.1 8 (by decide))]; exact (g_X11_hasMean_k_v0 u x y z k P S u_9 hk hQ hfi hz8 hz9 hz10 hz12 b5_4 b13_8 hw_10))
      have hR9 := q_runV (l := l) (e := e0) (below := bl0) (meth := me0) (R := qR 4 0 0) (cells := 0) (slots := 0) (st0 := [.int x, .ref (E.2.2 399)]) (rest := []) hF hU hS hA 1 6 3 399 rfl rfl rfl hM9 w_1033 w_1034 w_1035 w_105 w_1036 (by decide +kernel) ⟨Nat.le_of_ble_eq_true rfl, Nat.le_of_ble_eq_true rfl⟩ dX11_hasMean_35 rfl hl.1 rfl (Nat.le_of_ble_eq_true rfl) ⟨Nat.le_of_ble_eq_true rfl, Nat.le_of_ble_eq_true rfl⟩
      refine q_calli hR9 hU.2.2.2 hS (fun r_14 u_12 H locs hw_13 hU hS => ?_)
      obtain ⟨hw_13_e, hw_13⟩ := hw_13
      rw [hw_13_e] at hU
      have hw_13 : (r_14 = 1 ∧ (0 < (u_9.2.1 307) x.toNatClampNeg)) ∨ (r_14 = 0 ∧ (¬ (0 < (u_9.2.1 307) x.toNatClampNeg))) := hw_13
      rcases hw_13 with ⟨rfl, b35_15⟩ | ⟨rfl, b35_15⟩
      · exact q_iret hF hr (by decide) hlocks hU hS dX11_hasMean_38 ⟨⟨hfr, hI, hkd⟩, (g_X11_hasMean_k_v1 u x y z k P S u_9 hk hQ hfi hz8 hz9 hz10 hz12 b5_4 b13_8 hw_10 b35_15)⟩
      · exact q_iret hF hr (by decide) hlocks hU hS dX11_hasMean_38 ⟨⟨hfr, hI, hkd⟩, (g_X11_hasMean_k_v2 u x y z k P S u_9 hk hQ hfi hz8 hz9 hz10 hz12 b5_4 b13_8 hw_10 b35_15)⟩
    · refine lv_if_ne (tgt := 21) hF.1 hF.2.1 dX11_hasMean_16 (by decide) (fun h9 => absurd (by decide) h9) (fun _ => ?_)
      refine lv_iconst (v := 0) hF.1 hF.2.1 dX11_hasMean_19 (by decide) ?_
      exact q_iret hF hr (by decide) hlocks hU hS dX11_hasMean_20 ⟨⟨hfr, hI, hkd⟩, (g_X11_hasMean_k_v3 u x y z k P S hk hQ hfi hz8 hz9 hz10 hz12 b5_4 b13_8)⟩
  · refine lv_if_eq (tgt := 19) hF.1 hF.2.1 dX11_hasMean_8 (by decide) (fun _ => ?_) (fun h9 => absurd (by decide) h9)
    refine lv_iconst (v := 0) hF.1 hF.2.1 dX11_hasMean_19 (by decide) ?_
    exact q_iret hF hr (by decide) hlocks hU hS dX11_hasMean_20 ⟨⟨hfr, hI, hkd⟩, (g_X11_hasMean_k_v4 u x y z k P S hk hQ hfi hz8 hz9 hz10 hz12 b5_4)⟩
set_option maxRecDepth 100000 in
theorem g_X11_set_k_v0 (u : qS) (x : Int32) (y : Int32) (z : Int32) (k : qS) (P : Nat → Int32) (u_13 : qS) (S_16 : Nat → Int32) (hk : CT k P u) (hca : t_ca k u) (hz8 : 0 ≤ u.1 8 ∧ u.1 8 ≤ 20) (hz9 : 0 ≤ u.1 9 ∧ u.1 9 ≤ 8) (hz10 : 0 ≤ u.1 10 ∧ u.1 10 ≤ 120) (hz12 : 0 ≤ u.1 12 ∧ u.1 12 ≤ 16) (b5_4 : 0 ≤ x ∧ x < u.1 9) (b12_8 : 0 ≤ y ∧ y ≤ 9999) (b22_12 : (0 : Int32) ≤ z ∧ z ≤ (11 : Int32)) (hq_17 : f_fi (k) S_16 ∧ u_13.1 909 = u.1 18) : f_a1 k S_16 := by
  exact (by assumption : f_fi k _ ∧ _).1.a1
set_option maxRecDepth 100000 in
theorem g_X11_set_k_v1 (u : qS) (x : Int32) (y : Int32) (z : Int32) (k : qS) (P : Nat → Int32) (u_13 : qS) (S_16 : Nat → Int32) (hk : CT k P u) (hca : t_ca k u) (hz8 : 0 ≤ u.1 8 ∧ u.1 8 ≤ 20) (hz9 : 0 ≤ u.1 9 ∧ u.1 9 ≤ 8) (hz10 : 0 ≤ u.1 10 ∧ u.1 10 ≤ 120) (hz12 : 0 ≤ u.1 12 ∧ u.1 12 ≤ 16) (b5_4 : 0 ≤ x ∧ x < u.1 9) (b12_8 : 0 ≤ y ∧ y ≤ 9999) (b22_12 : (0 : Int32) ≤ z ∧ z ≤ (11 : Int32)) (hq_17 : f_fi (k) S_16 ∧ u_13.1 909 = u.1 18) : 0 ≤ z ∧ z ≤ 11 := by
  assumption
set_option maxRecDepth 100000 in
theorem g_X11_set_k_v2 (u : qS) (x : Int32) (y : Int32) (z : Int32) (k : qS) (P : Nat → Int32) (u_13 : qS) (S_16 : Nat → Int32) (r_20 : Int32) (hk : CT k P u) (hca : t_ca k u) (hz8 : 0 ≤ u.1 8 ∧ u.1 8 ≤ 20) (hz9 : 0 ≤ u.1 9 ∧ u.1 9 ≤ 8) (hz10 : 0 ≤ u.1 10 ∧ u.1 10 ≤ 120) (hz12 : 0 ≤ u.1 12 ∧ u.1 12 ≤ 16) (b5_4 : 0 ≤ x ∧ x < u.1 9) (b12_8 : 0 ≤ y ∧ y ≤ 9999) (b22_12 : (0 : Int32) ≤ z ∧ z ≤ (11 : Int32)) (hq_17 : f_fi (k) S_16 ∧ u_13.1 909 = u.1 18) (hw_19 : k_nth (s_b (f_fz (k) x y)) (f_n (f_gp (k) x y) ((k).1 1247).toNatClampNeg) z.toNatClampNeg (f_V (k) x y) r_20) : (((0 ≤ x ∧ x < u.1 9) ∧ (0 ≤ y ∧ y ≤ 9999) ∧ (0 ≤ z ∧ z ≤ 11)) ∧ k_nth (s_b (f_fz k x y)) (f_n (f_gp k x y) (k.1 1247).toNatClampNeg) z.toNatClampNeg (f_V k x y) (r_20 : Int32)) ∨ (¬ ((0 ≤ x ∧ x < u.1 9) ∧ (0 ≤ y ∧ y ≤ 9999) ∧ (0 ≤ z ∧ z ≤ 11)) ∧ (r_20 : Int32) = -1) := by
  first | exact Or.inl ⟨⟨by assumption, by assumption, by assumption⟩, by assumption⟩ | exact Or.inr ⟨fun q => (by obtain ⟨q1, q2, q3⟩ := q; first | exact absurd q1 (by assumption) | exact absurd q2 (by assumption) | exact absurd q3 (by assumption)), rfl⟩
set_option maxRecDepth 100000 in
theorem g_X11_set_k_v3 (u : qS) (x : Int32) (y : Int32) (z : Int32) (k : qS) (P : Nat → Int32) (hk : CT k P u) (hca : t_ca k u) (hz8 : 0 ≤ u.1 8 ∧ u.1 8 ≤ 20) (hz9 : 0 ≤ u.1 9 ∧ u.1 9 ≤ 8) (hz10 : 0 ≤ u.1 10 ∧ u.1 10 ≤ 120) (hz12 : 0 ≤ u.1 12 ∧ u.1 12 ≤ 16) (b5_4 : 0 ≤ x ∧ x < u.1 9) (b12_8 : 0 ≤ y ∧ y ≤ 9999) (b22_12 : ¬ ((0 : Int32) ≤ z ∧ z ≤ (11 : Int32))) : (((0 ≤ x ∧ x < u.1 9) ∧ (0 ≤ y ∧ y ≤ 9999) ∧ (0 ≤ z ∧ z ≤ 11)) ∧ k_nth (s_b (f_fz k x y)) (f_n (f_gp k x y) (k.1 1247).toNatClampNeg) z.toNatClampNeg (f_V k x y) ((-1) : Int32)) ∨ (¬ ((0 ≤ x ∧ x < u.1 9) ∧ (0 ≤ y ∧ y ≤ 9999) ∧ (0 ≤ z ∧ z ≤ 11)) ∧ ((-1) : Int32) = -1) := by
  first | exact Or.inl ⟨⟨by assumption, by assumption, by assumption⟩, by assumption⟩ | exact Or.inr ⟨fun q => (by obtain ⟨q1, q2, q3⟩ := q; first | exact absurd q1 (by assumption) | exact absurd q2 (by assumption) | exact absurd q3 (by assumption)), rfl⟩
set_option maxRecDepth 100000 in
theorem g_X11_set_k_v4 (u : qS) (x : Int32) (y : Int32) (z : Int32) (k : qS) (P : Nat → Int32) (hk : CT k P u) (hca : t_ca k u) (hz8 : 0 ≤ u.1 8 ∧ u.1 8 ≤ 20) (hz9 : 0 ≤ u.1 9 ∧ u.1 9 ≤ 8) (hz10 : 0 ≤ u.1 10 ∧ u.1 10 ≤ 120) (hz12 : 0 ≤ u.1 12 ∧ u.1 12 ≤ 16) (b5_4 : 0 ≤ x ∧ x < u.1 9) (b12_8 : ¬ (0 ≤ y ∧ y ≤ 9999)) : (((0 ≤ x ∧ x < u.1 9) ∧ (0 ≤ y ∧ y ≤ 9999) ∧ (0 ≤ z ∧ z ≤ 11)) ∧ k_nth (s_b (f_fz k x y)) (f_n (f_gp k x y) (k.1 1247).toNatClampNeg) z.toNatClampNeg (f_V k x y) ((-1) : Int32)) ∨ (¬ ((0 ≤ x ∧ x < u.1 9) ∧ (0 ≤ y ∧ y ≤ 9999) ∧ (0 ≤ z ∧ z ≤ 11)) ∧ ((-1) : Int32) = -1) := by
  first | exact Or.inl ⟨⟨by assumption, by assumption, by assumption⟩, by assumption⟩ | exact Or.inr ⟨fun q => (by obtain ⟨q1, q2, q3⟩ := q; first | exact absurd q1 (by assumption) | exact absurd q2 (by assumption) | exact absurd q3 (by assumption)), rfl⟩
set_option maxRecDepth 100000 in
theorem g_X11_set_k_v5 (u : qS) (x : Int32) (y : Int32) (z : Int32) (k : qS) (P : Nat → Int32) (hk : CT k P u) (hca : t_ca k u) (hz8 : 0 ≤ u.1 8 ∧ u.1 8 ≤ 20) (hz9 : 0 ≤ u.1 9 ∧ u.1 9 ≤ 8) (hz10 : 0 ≤ u.1 10 ∧ u.1 10 ≤ 120) (hz12 : 0 ≤ u.1 12 ∧ u.1 12 ≤ 16) (b5_4 : ¬ (0 ≤ x ∧ x < u.1 9)) : (((0 ≤ x ∧ x < u.1 9) ∧ (0 ≤ y ∧ y ≤ 9999) ∧ (0 ≤ z ∧ z ≤ 11)) ∧ k_nth (s_b (f_fz k x y)) (f_n (f_gp k x y) (k.1 1247).toNatClampNeg) z.toNatClampNeg (f_V k x y) ((-1) : Int32)) ∨ (¬ ((0 ≤ x ∧ x < u.1 9) ∧ (0 ≤ y ∧ y ≤ 9999) ∧ (0 ≤ z ∧ z ≤ 11)) ∧ ((-1) : Int32) = -1) := by
  first | exact Or.inl ⟨⟨by assumption, by assumption, by assumption⟩, by assumption⟩ | exact Or.inr ⟨fun q => (by obtain ⟨q1, q2, q3⟩ := q; first | exact absurd q1 (by assumption) | exact absurd q2 (by assumption) | exact absurd q3 (by assumption)), rfl⟩
set_option maxHeartbeats 1000000 in
set_option maxRecDepth 100000 in
theorem g_X11_set_k (l : Launch) (E : qE) (A : Nat → Prop) (u : qS) (x : Int32) (y : Int32) (z : Int32) (k : qS) (P : Nat → Int32) (hI : IC E u) (hk : CT k P u) (hca : t_ca k u) : Met l yX11_set (uws yX11_set cX11_set 4 (some .int)) (qR 7 0 0) (qPc E A 0 u [.ref (E.2.2 1199), .int x, .int y, .int z]) (qQi E A 0 (fun r u1 => (qFc [900, 901, 902, 908, 909] [905, 906, 907] [] [904, 5010] u u1 ∧ IC E u1) ∧ (t_ca k u1 ∧ ((((0 ≤ x ∧ x < u.1 9) ∧ (0 ≤ y ∧ y ≤ 9999) ∧ (0 ≤ z ∧ z ≤ 11)) ∧ k_nth (s_b (f_fz k x y)) (f_n (f_gp k x y) (k.1 1247).toNatClampNeg) z.toNatClampNeg (f_V k x y) r) ∨ (¬ ((0 ≤ x ∧ x < u.1 9) ∧ (0 ≤ y ∧ y ≤ 9999) ∧ (0 ≤ z ∧ z ≤ 11)) ∧ r = -1))))) 0 0 A := by
  refine q_met (own := RX11) (f := 7) [.ref (E.2.2 1199), .int x, .int y, .int z] (by decide) (Nat.le_of_ble_eq_true rfl) rfl ?_
  intro p0 e0 s0 m0 bl0 me0 cd0 ls hF hr hlocks hU hS hA hl
  have hl : lv_has ls 4 [(0, .ref (E.2.2 1199)), (1, .int x), (2, .int y), (3, .int z)] := hl
  have hz8 : 0 ≤ u.1 8 ∧ u.1 8 ≤ 20 := hI.1.s8
  have hz9 : 0 ≤ u.1 9 ∧ u.1 9 ≤ 8 := hI.1.s9
  have hz10 : 0 ≤ u.1 10 ∧ u.1 10 ≤ 120 := hI.1.s10
  have hz12 : 0 ≤ u.1 12 ∧ u.1 12 ≤ 16 := hI.1.s12
  have hfr : qFc [900, 901, 902, 908, 909] [905, 906, 907] [] [904, 5010] u u := qFc.rf
  have hCA := hca
  refine lv_aload_n hF.1 hF.2.1 dX11_set_0 rfl (lv_at hl 0 rfl) ?_
  refine q_get (v := .ref (E.2.2 99)) hF hU dX11_set_1 0 11 0 1100 1199 rfl rfl rfl rfl inX11 (by decide) (by decide) w_436 rfl rfl ?_
  refine lv_iload_n hF.1 hF.2.1 dX11_set_4 rfl (lv_at hl 1 rfl) ?_
  have hM9 := g_X0_hasBuyer l E A u x hI
  have hR9 := q_runV (l := l) (e := e0) (below := bl0) (meth := me0) (R := qR 7 0 0) (cells := 0) (slots := 0) (st0 := [.int x, .ref (E.2.2 99)]) (rest := []) hF hU hS hA 1 1 0 99 rfl rfl rfl hM9 w_568 w_569 w_570 w_100 w_571 (by decide +kernel) ⟨Nat.le_of_ble_eq_true rfl, Nat.le_of_ble_eq_true rfl⟩ dX11_set_5 rfl hl.1 rfl (Nat.le_of_ble_eq_true rfl) ⟨Nat.le_of_ble_eq_true rfl, Nat.le_of_ble_eq_true rfl⟩
  refine q_calli hR9 hU.2.2.2 hS (fun r_3 u_1 H locs hw_2 hU hS => ?_)
  obtain ⟨hw_2_e, hw_2⟩ := hw_2
  rw [hw_2_e] at hU
  have hw_2 : (r_3 = 1 ∧ (0 ≤ x ∧ x < u.1 9)) ∨ (r_3 = 0 ∧ (¬ (0 ≤ x ∧ x < u.1 9))) := hw_2
  rcases hw_2 with ⟨rfl, b5_4⟩ | ⟨rfl, b5_4⟩
  · refine lv_if_eq (tgt := 28) hF.1 hF.2.1 dX11_set_8 (by decide) (fun h9 => absurd h9 (by decide)) (fun _ => ?_)
    refine lv_iload_n hF.1 hF.2.1 dX11_set_11 rfl (lv_at hl 2 rfl) ?_
    have hM9 := g_X11_isDay l E A u y
    have hR9 := q_runS (l := l) (e := e0) (below := bl0) (meth := me0) (R := qR 7 0 0) (cells := 0) (slots := 0) (st0 := [.int y]) (rest := []) hF hU hS hA 1 hM9 w_699 w_700 w_99 w_701 (by decide +kernel) ⟨Nat.le_of_ble_eq_true rfl, Nat.le_of_ble_eq_true rfl⟩ dX11_set_12 rfl hl.1 rfl (Nat.le_of_ble_eq_true rfl) ⟨Nat.le_of_ble_eq_true rfl, Nat.le_of_ble_eq_true rfl⟩
    refine q_calli hR9 hU.2.2.2 hS (fun r_7 u_5 H locs hw_6 hU hS => ?_)
    obtain ⟨hw_6_e, hw_6⟩ := hw_6
    rw [hw_6_e] at hU
    have hw_6 : (r_7 = 1 ∧ (0 ≤ y ∧ y ≤ 9999)) ∨ (r_7 = 0 ∧ (¬ (0 ≤ y ∧ y ≤ 9999))) := hw_6
    rcases hw_6 with ⟨rfl, b12_8⟩ | ⟨rfl, b12_8⟩
    · refine lv_if_eq (tgt := 28) hF.1 hF.2.1 dX11_set_15 (by decide) (fun h9 => absurd h9 (by decide)) (fun _ => ?_)
      refine lv_iload_n hF.1 hF.2.1 dX11_set_18 rfl (lv_at hl 3 rfl) ?_
      refine lv_iconst (v := 0) hF.1 hF.2.1 dX11_set_19 (by decide) ?_
      refine lv_bipush (v := 11) hF.1 hF.2.1 dX11_set_20 (by decide) ?_
      have hM9 := g_X11_isWithin l E A u z 0 11
      have hR9 := q_runS (l := l) (e := e0) (below := bl0) (meth := me0) (R := qR 7 0 0) (cells := 0) (slots := 0) (st0 := [.int 11, .int 0, .int z]) (rest := []) hF hU hS hA 3 hM9 w_468 w_469 w_99 w_470 (by decide +kernel) ⟨Nat.le_of_ble_eq_true rfl, Nat.le_of_ble_eq_true rfl⟩ dX11_set_22 rfl hl.1 rfl (Nat.le_of_ble_eq_true rfl) ⟨Nat.le_of_ble_eq_true rfl, Nat.le_of_ble_eq_true rfl⟩
      refine q_calli hR9 hU.2.2.2 hS (fun r_11 u_9 H locs hw_10 hU hS => ?_)
      obtain ⟨hw_10_e, hw_10⟩ := hw_10
      rw [hw_10_e] at hU
      have hw_10 : (r_11 = 1 ∧ ((0 : Int32) ≤ z ∧ z ≤ (11 : Int32))) ∨ (r_11 = 0 ∧ (¬ ((0 : Int32) ≤ z ∧ z ≤ (11 : Int32)))) := hw_10
      rcases hw_10 with ⟨rfl, b22_12⟩ | ⟨rfl, b22_12⟩
      · refine lv_if_ne (tgt := 30) hF.1 hF.2.1 dX11_set_25 (by decide) (fun _ => ?_) (fun h9 => absurd h9 (by decide))
        refine lv_aload_n hF.1 hF.2.1 dX11_set_30 rfl (lv_at hl 0 rfl) ?_
        refine q_get (v := .ref (E.2.2 999)) hF hU dX11_set_31 0 11 3 1103 1199 rfl rfl rfl rfl inX11 (by decide) (by decide) w_439 rfl rfl ?_
        have hM9 := g_X9_refresh_k l E A u k P hI hk hCA.1
        have hR9 := q_runV (l := l) (e := e0) (below := bl0) (meth := me0) (R := qR 7 0 0) (cells := 0) (slots := 0) (st0 := [.ref (E.2.2 999)]) (rest := []) hF hU hS hA 0 4 9 999 rfl rfl rfl hM9 w_843 w_844 w_845 w_103 w_846 (by decide +kernel) ⟨Nat.le_of_ble_eq_true rfl, Nat.le_of_ble_eq_true rfl⟩ dX11_set_34 rfl hl.1 rfl (Nat.le_of_ble_eq_true rfl) ⟨Nat.le_of_ble_eq_true rfl, Nat.le_of_ble_eq_true rfl⟩
        refine q_callv hR9 hU.2.2.2 hS (fun u_13 H locs hw_14 hU hS => ?_)
        obtain ⟨⟨hw_14_f, hI⟩, hw_14⟩ := hw_14
        have hfo := hfr
        have hfr : qFc [900, 901, 902, 908, 909] [905, 906, 907] [] [904, 5010] u u_13 := hfr.trans (hw_14_f.mono (by decide) (by decide) (by decide) (by decide))
        obtain ⟨S_16, hST, hq_17⟩ := hw_14
        have hCA : t_ca k u_13 := hCA.tr hw_14_f hST hq_17.1 hq_17.2 (by decide) (by decide) (by decide)
        have hq_17 : f_fi (k) S_16 ∧ u_13.1 909 = u.1 18 := hq_17
        refine lv_aload_n hF.1 hF.2.1 dX11_set_37 rfl (lv_at hl 0 rfl) ?_
        refine q_get (v := .ref (E.2.2 999)) hF hU dX11_set_38 0 11 3 1103 1199 rfl rfl rfl rfl inX11 (by decide) (by decide) w_439 rfl rfl ?_
        refine lv_iload_n hF.1 hF.2.1 dX11_set_41 rfl (lv_at hl 1 rfl) ?_
        refine lv_iload_n hF.1 hF.2.1 dX11_set_42 rfl (lv_at hl 2 rfl) ?_
        refine lv_iload_n hF.1 hF.2.1 dX11_set_43 rfl (lv_at hl 3 rfl) ?_
        have hM9 := g_X9_falseAt_k l E A u_13 x y z k P S_16 hI (hk.fr hfr (by decide) (by decide)) hST (g_X11_set_k_v0 u x y z k P u_13 S_16 hk hca hz8 hz9 hz10 hz12 b5_4 b12_8 b22_12 hq_17) (g_X11_set_k_v1 u x y z k P u_13 S_16 hk hca hz8 hz9 hz10 hz12 b5_4 b12_8 b22_12 hq_17)
        have hR9 := q_runV (l := l) (e := e0) (below := bl0) (meth := me0) (R := qR 7 0 0) (cells := 0) (slots := 0) (st0 := [.int z, .int y, .int x, .ref (E.2.2 999)]) (rest := []) hF hU hS hA 3 4 9 999 rfl rfl rfl hM9 w_919 w_920 w_921 w_103 w_922 (by decide +kernel) ⟨Nat.le_of_ble_eq_true rfl, Nat.le_of_ble_eq_true rfl⟩ dX11_set_44 rfl hl.1 rfl (Nat.le_of_ble_eq_true rfl) ⟨Nat.le_of_ble_eq_true rfl, Nat.le_of_ble_eq_true rfl⟩
        refine q_calli hR9 hU.2.2.2 hS (fun r_20 u_18 H locs hw_19 hU hS => ?_)
        obtain ⟨⟨hw_19_f, hI, hw_19_d⟩, hw_19⟩ := hw_19
        have hfo := hfr
        have hfr : qFc [900, 901, 902, 908, 909] [905, 906, 907] [] [904, 5010] u u_18 := hfr.trans (hw_19_f.mono (by decide) (by decide) (by decide) (by decide))
        have e_21 : u_18.1 900 = (u_13.1 900) := (hw_19_f.1 900 (by decide)).trans rfl
        have e_22 : u_18.1 901 = (u_13.1 901) := (hw_19_f.1 901 (by decide)).trans rfl
        have e_23 : u_18.1 902 = (u_13.1 902) := (hw_19_f.1 902 (by decide)).trans rfl
        have e_24 : u_18.1 909 = (u_13.1 909) := (hw_19_f.1 909 (by decide)).trans rfl
        have e_25 : u_18.2.1 906 = (u_13.2.1 906) := (hw_19_f.2.1 906 (by decide)).trans rfl
        have hCA : t_ca k u_18 := hCA.fr hw_19_f (by decide) (by decide) (by decide)
        have hST : qFD 10 S_16 u_18 := hST.fr hw_19_f (by decide) (by decide) (by decide) (by decide) (by decide)
        have hw_19 : k_nth (s_b (f_fz (k) x y)) (f_n (f_gp (k) x y) ((k).1 1247).toNatClampNeg) z.toNatClampNeg (f_V (k) x y) r_20 := hw_19
        exact q_iret hF hr rfl hlocks hU hS dX11_set_47 ⟨⟨hfr, hI⟩, ⟨hCA, (g_X11_set_k_v2 u x y z k P u_13 S_16 r_20 hk hca hz8 hz9 hz10 hz12 b5_4 b12_8 b22_12 hq_17 hw_19)⟩⟩
      · refine lv_if_ne (tgt := 30) hF.1 hF.2.1 dX11_set_25 (by decide) (fun h9 => absurd (by decide) h9) (fun _ => ?_)
        refine lv_iconst (v := (-1)) hF.1 hF.2.1 dX11_set_28 (by decide) ?_
        exact q_iret hF hr rfl hlocks hU hS dX11_set_29 ⟨⟨hfr, hI⟩, ⟨hCA, (g_X11_set_k_v3 u x y z k P hk hca hz8 hz9 hz10 hz12 b5_4 b12_8 b22_12)⟩⟩
    · refine lv_if_eq (tgt := 28) hF.1 hF.2.1 dX11_set_15 (by decide) (fun _ => ?_) (fun h9 => absurd (by decide) h9)
      refine lv_iconst (v := (-1)) hF.1 hF.2.1 dX11_set_28 (by decide) ?_
      exact q_iret hF hr rfl hlocks hU hS dX11_set_29 ⟨⟨hfr, hI⟩, ⟨hCA, (g_X11_set_k_v4 u x y z k P hk hca hz8 hz9 hz10 hz12 b5_4 b12_8)⟩⟩
  · refine lv_if_eq (tgt := 28) hF.1 hF.2.1 dX11_set_8 (by decide) (fun _ => ?_) (fun h9 => absurd (by decide) h9)
    refine lv_iconst (v := (-1)) hF.1 hF.2.1 dX11_set_28 (by decide) ?_
    exact q_iret hF hr rfl hlocks hU hS dX11_set_29 ⟨⟨hfr, hI⟩, ⟨hCA, (g_X11_set_k_v5 u x y z k P hk hca hz8 hz9 hz10 hz12 b5_4)⟩⟩
set_option maxRecDepth 100000 in
theorem g_X11_meetings_k_v0 (u : qS) (x : Int32) (y : Int32) (k : qS) (P : Nat → Int32) (u_10 : qS) (S_13 : Nat → Int32) (B_14 : Nat → Int32) (hk : CT k P u) (hca : t_ca k u) (hz8 : 0 ≤ u.1 8 ∧ u.1 8 ≤ 20) (hz9 : 0 ≤ u.1 9 ∧ u.1 9 ≤ 8) (hz10 : 0 ≤ u.1 10 ∧ u.1 10 ≤ 120) (hz12 : 0 ≤ u.1 12 ∧ u.1 12 ≤ 16) (b5_4 : 0 ≤ x ∧ x < u.1 9) (b16_8 : 0 ≤ y ∧ y < u.1 9) (c24_9 : ¬ (x : Int32) = y) (hm_16 : f_fi (k) S_13) (hm_17 : m_R (k) B_14 (f_M (k)) (u_10.2.1 303) (u_10.2.1 304) (u_10.2.1 305)) : 0 ≤ x ∧ x < (u.1 9 : Int32) := by
  first | omega | ((try simp only [g_m1, Int32.lt_iff_toInt_lt, Int32.le_iff_toInt_le, ← Int32.toInt_inj, Int32.reduceToInt] at *); omega) | ((try simp only [g_m1, Int32.lt_iff_toInt_lt, Int32.le_iff_toInt_le, ← Int32.toInt_inj, Int32.reduceToInt] at *); omega) | ((try simp only [g_m1, Int32.lt_iff_toInt_lt, Int32.le_iff_toInt_le, ← Int32.toInt_inj, Int32.toInt_add, Int32.toInt_sub, Int32.toInt_mul, Int32.toInt_neg, Int32.reduceToInt, g_bm, g_bm'] at *); omega) | (have qr1 := g_rng x; have qr2 := g_rng y; (try simp only [g_m1, Int32.lt_iff_toInt_lt, Int32.le_iff_toInt_le, ← Int32.toInt_inj, Int32.toInt_add, Int32.toInt_sub, Int32.toInt_mul, Int32.toInt_neg, Int32.reduceToInt, g_bm, g_bm'] at *); omega) | (simp only [g_m1, Int32.lt_iff_toInt_lt, Int32.le_iff_toInt_le, ← Int32.toInt_inj, Int32.toInt_add, Int32.toInt_sub, Int32.toInt_mul, Int32.toInt_neg, Int32.reduceToInt, g_bm, g_bm'] at *; simp at *; omega) | (simp_all; done)
set_option maxRecDepth 100000 in
theorem g_X11_meetings_k_v1 (u : qS) (x : Int32) (y : Int32) (k : qS) (P : Nat → Int32) (u_10 : qS) (S_13 : Nat → Int32) (B_14 : Nat → Int32) (hk : CT k P u) (hca : t_ca k u) (hz8 : 0 ≤ u.1 8 ∧ u.1 8 ≤ 20) (hz9 : 0 ≤ u.1 9 ∧ u.1 9 ≤ 8) (hz10 : 0 ≤ u.1 10 ∧ u.1 10 ≤ 120) (hz12 : 0 ≤ u.1 12 ∧ u.1 12 ≤ 16) (b5_4 : 0 ≤ x ∧ x < u.1 9) (b16_8 : 0 ≤ y ∧ y < u.1 9) (c24_9 : ¬ (x : Int32) = y) (hm_16 : f_fi (k) S_13) (hm_17 : m_R (k) B_14 (f_M (k)) (u_10.2.1 303) (u_10.2.1 304) (u_10.2.1 305)) : 0 ≤ y ∧ y < (u.1 9 : Int32) := by
  first | omega | ((try simp only [g_m1, Int32.lt_iff_toInt_lt, Int32.le_iff_toInt_le, ← Int32.toInt_inj, Int32.reduceToInt] at *); omega) | ((try simp only [g_m1, Int32.lt_iff_toInt_lt, Int32.le_iff_toInt_le, ← Int32.toInt_inj, Int32.reduceToInt] at *); omega) | ((try simp only [g_m1, Int32.lt_iff_toInt_lt, Int32.le_iff_toInt_le, ← Int32.toInt_inj, Int32.toInt_add, Int32.toInt_sub, Int32.toInt_mul, Int32.toInt_neg, Int32.reduceToInt, g_bm, g_bm'] at *); omega) | (have qr1 := g_rng x; have qr2 := g_rng y; (try simp only [g_m1, Int32.lt_iff_toInt_lt, Int32.le_iff_toInt_le, ← Int32.toInt_inj, Int32.toInt_add, Int32.toInt_sub, Int32.toInt_mul, Int32.toInt_neg, Int32.reduceToInt, g_bm, g_bm'] at *); omega) | (simp only [g_m1, Int32.lt_iff_toInt_lt, Int32.le_iff_toInt_le, ← Int32.toInt_inj, Int32.toInt_add, Int32.toInt_sub, Int32.toInt_mul, Int32.toInt_neg, Int32.reduceToInt, g_bm, g_bm'] at *; simp at *; omega) | (simp_all; done)
set_option maxRecDepth 100000 in
theorem g_X11_meetings_k_v2 (u : qS) (x : Int32) (y : Int32) (k : qS) (P : Nat → Int32) (u_10 : qS) (S_13 : Nat → Int32) (B_14 : Nat → Int32) (r_20 : Int32) (hk : CT k P u) (hca : t_ca k u) (hz8 : 0 ≤ u.1 8 ∧ u.1 8 ≤ 20) (hz9 : 0 ≤ u.1 9 ∧ u.1 9 ≤ 8) (hz10 : 0 ≤ u.1 10 ∧ u.1 10 ≤ 120) (hz12 : 0 ≤ u.1 12 ∧ u.1 12 ≤ 16) (b5_4 : 0 ≤ x ∧ x < u.1 9) (b16_8 : 0 ≤ y ∧ y < u.1 9) (c24_9 : ¬ (x : Int32) = y) (hm_16 : f_fi (k) S_13) (hm_17 : m_R (k) B_14 (f_M (k)) (u_10.2.1 303) (u_10.2.1 304) (u_10.2.1 305)) (hw_19 : r_20 = (u_10.2.1 305) (x * 8 + y).toNatClampNeg) : (((0 ≤ x ∧ x < u.1 9) ∧ (0 ≤ y ∧ y < u.1 9) ∧ ¬ x = y) ∧ (r_20 : Int32) = f_M k (w_P k x y)) ∨ (¬ ((0 ≤ x ∧ x < u.1 9) ∧ (0 ≤ y ∧ y < u.1 9) ∧ ¬ x = y) ∧ (r_20 : Int32) = -1) := by
  first
  | (have w := (by assumption : m_R k _ (f_M k) _ _ _)
     have a := (by assumption : 0 ≤ x ∧ x < u.1 9)
     have b := (by assumption : 0 ≤ y ∧ y < u.1 9)
     refine Or.inl ⟨⟨a, b, by assumption⟩, ?_⟩
     rw [← w.2 x y a.1 (Int32.lt_of_lt_of_le a.2 hz9.2) b.1 (Int32.lt_of_lt_of_le b.2 hz9.2)]; assumption)
  | exact Or.inr ⟨fun q => (by obtain ⟨q1, q2, q3⟩ := q; first | exact absurd q1 (by assumption) | exact absurd q2 (by assumption) | exact q3 (by assumption)), rfl⟩
set_option maxRecDepth 100000 in
theorem g_X11_meetings_k_v3 (u : qS) (x : Int32) (y : Int32) (k : qS) (P : Nat → Int32) (hk : CT k P u) (hca : t_ca k u) (hz8 : 0 ≤ u.1 8 ∧ u.1 8 ≤ 20) (hz9 : 0 ≤ u.1 9 ∧ u.1 9 ≤ 8) (hz10 : 0 ≤ u.1 10 ∧ u.1 10 ≤ 120) (hz12 : 0 ≤ u.1 12 ∧ u.1 12 ≤ 16) (b5_4 : 0 ≤ x ∧ x < u.1 9) (b16_8 : 0 ≤ y ∧ y < u.1 9) (c24_9 : (x : Int32) = y) : (((0 ≤ x ∧ x < u.1 9) ∧ (0 ≤ y ∧ y < u.1 9) ∧ ¬ x = y) ∧ ((-1) : Int32) = f_M k (w_P k x y)) ∨ (¬ ((0 ≤ x ∧ x < u.1 9) ∧ (0 ≤ y ∧ y < u.1 9) ∧ ¬ x = y) ∧ ((-1) : Int32) = -1) := by
  first
  | (have w := (by assumption : m_R k _ (f_M k) _ _ _)
     have a := (by assumption : 0 ≤ x ∧ x < u.1 9)
     have b := (by assumption : 0 ≤ y ∧ y < u.1 9)
     refine Or.inl ⟨⟨a, b, by assumption⟩, ?_⟩
     rw [← w.2 x y a.1 (Int32.lt_of_lt_of_le a.2 hz9.2) b.1 (Int32.lt_of_lt_of_le b.2 hz9.2)]; assumption)
  | exact Or.inr ⟨fun q => (by obtain ⟨q1, q2, q3⟩ := q; first | exact absurd q1 (by assumption) | exact absurd q2 (by assumption) | exact q3 (by assumption)), rfl⟩
set_option maxRecDepth 100000 in
theorem g_X11_meetings_k_v4 (u : qS) (x : Int32) (y : Int32) (k : qS) (P : Nat → Int32) (hk : CT k P u) (hca : t_ca k u) (hz8 : 0 ≤ u.1 8 ∧ u.1 8 ≤ 20) (hz9 : 0 ≤ u.1 9 ∧ u.1 9 ≤ 8) (hz10 : 0 ≤ u.1 10 ∧ u.1 10 ≤ 120) (hz12 : 0 ≤ u.1 12 ∧ u.1 12 ≤ 16) (b5_4 : 0 ≤ x ∧ x < u.1 9) (b16_8 : ¬ (0 ≤ y ∧ y < u.1 9)) : (((0 ≤ x ∧ x < u.1 9) ∧ (0 ≤ y ∧ y < u.1 9) ∧ ¬ x = y) ∧ ((-1) : Int32) = f_M k (w_P k x y)) ∨ (¬ ((0 ≤ x ∧ x < u.1 9) ∧ (0 ≤ y ∧ y < u.1 9) ∧ ¬ x = y) ∧ ((-1) : Int32) = -1) := by
  first
  | (have w := (by assumption : m_R k _ (f_M k) _ _ _)
     have a := (by assumption : 0 ≤ x ∧ x < u.1 9)
     have b := (by assumption : 0 ≤ y ∧ y < u.1 9)
     refine Or.inl ⟨⟨a, b, by assumption⟩, ?_⟩
     rw [← w.2 x y a.1 (Int32.lt_of_lt_of_le a.2 hz9.2) b.1 (Int32.lt_of_lt_of_le b.2 hz9.2)]; assumption)
  | exact Or.inr ⟨fun q => (by obtain ⟨q1, q2, q3⟩ := q; first | exact absurd q1 (by assumption) | exact absurd q2 (by assumption) | exact q3 (by assumption)), rfl⟩
set_option maxRecDepth 100000 in
theorem g_X11_meetings_k_v5 (u : qS) (x : Int32) (y : Int32) (k : qS) (P : Nat → Int32) (hk : CT k P u) (hca : t_ca k u) (hz8 : 0 ≤ u.1 8 ∧ u.1 8 ≤ 20) (hz9 : 0 ≤ u.1 9 ∧ u.1 9 ≤ 8) (hz10 : 0 ≤ u.1 10 ∧ u.1 10 ≤ 120) (hz12 : 0 ≤ u.1 12 ∧ u.1 12 ≤ 16) (b5_4 : ¬ (0 ≤ x ∧ x < u.1 9)) : (((0 ≤ x ∧ x < u.1 9) ∧ (0 ≤ y ∧ y < u.1 9) ∧ ¬ x = y) ∧ ((-1) : Int32) = f_M k (w_P k x y)) ∨ (¬ ((0 ≤ x ∧ x < u.1 9) ∧ (0 ≤ y ∧ y < u.1 9) ∧ ¬ x = y) ∧ ((-1) : Int32) = -1) := by
  first
  | (have w := (by assumption : m_R k _ (f_M k) _ _ _)
     have a := (by assumption : 0 ≤ x ∧ x < u.1 9)
     have b := (by assumption : 0 ≤ y ∧ y < u.1 9)
     refine Or.inl ⟨⟨a, b, by assumption⟩, ?_⟩
     rw [← w.2 x y a.1 (Int32.lt_of_lt_of_le a.2 hz9.2) b.1 (Int32.lt_of_lt_of_le b.2 hz9.2)]; assumption)
  | exact Or.inr ⟨fun q => (by obtain ⟨q1, q2, q3⟩ := q; first | exact absurd q1 (by assumption) | exact absurd q2 (by assumption) | exact q3 (by assumption)), rfl⟩
set_option maxHeartbeats 1000000 in
set_option maxRecDepth 100000 in
theorem g_X11_meetings_k (l : Launch) (E : qE) (A : Nat → Prop) (u : qS) (x : Int32) (y : Int32) (k : qS) (P : Nat → Int32) (hI : IC E u) (hk : CT k P u) (hca : t_ca k u) : Met l yX11_meetings (uws yX11_meetings cX11_meetings 3 (some .int)) (qR 8 0 0) (qPc E A 0 u [.ref (E.2.2 1199), .int x, .int y]) (qQi E A 0 (fun r u1 => (qFc [900, 901, 902, 908, 909, 604, 605, 606, 607, 608, 609, 311] [905, 906, 907, 601, 602, 603, 303, 304, 305] [] [904, 5010, 5011, 5012, 5013, 5014] u u1 ∧ IC E u1) ∧ (t_ca k u1 ∧ ((((0 ≤ x ∧ x < u.1 9) ∧ (0 ≤ y ∧ y < u.1 9) ∧ ¬ x = y) ∧ r = f_M k (w_P k x y)) ∨ (¬ ((0 ≤ x ∧ x < u.1 9) ∧ (0 ≤ y ∧ y < u.1 9) ∧ ¬ x = y) ∧ r = -1))))) 0 0 A := by
  refine q_met (own := RX11) (f := 8) [.ref (E.2.2 1199), .int x, .int y] (by decide) (Nat.le_of_ble_eq_true rfl) rfl ?_
  intro p0 e0 s0 m0 bl0 me0 cd0 ls hF hr hlocks hU hS hA hl
  have hl : lv_has ls 3 [(0, .ref (E.2.2 1199)), (1, .int x), (2, .int y)] := hl
  have hz8 : 0 ≤ u.1 8 ∧ u.1 8 ≤ 20 := hI.1.s8
  have hz9 : 0 ≤ u.1 9 ∧ u.1 9 ≤ 8 := hI.1.s9
  have hz10 : 0 ≤ u.1 10 ∧ u.1 10 ≤ 120 := hI.1.s10
  have hz12 : 0 ≤ u.1 12 ∧ u.1 12 ≤ 16 := hI.1.s12
  have hfr : qFc [900, 901, 902, 908, 909, 604, 605, 606, 607, 608, 609, 311] [905, 906, 907, 601, 602, 603, 303, 304, 305] [] [904, 5010, 5011, 5012, 5013, 5014] u u := qFc.rf
  have hCA := hca
  refine lv_aload_n hF.1 hF.2.1 dX11_meetings_0 rfl (lv_at hl 0 rfl) ?_
  refine q_get (v := .ref (E.2.2 99)) hF hU dX11_meetings_1 0 11 0 1100 1199 rfl rfl rfl rfl inX11 (by decide) (by decide) w_436 rfl rfl ?_
  refine lv_iload_n hF.1 hF.2.1 dX11_meetings_4 rfl (lv_at hl 1 rfl) ?_
  have hM9 := g_X0_hasBuyer l E A u x hI
  have hR9 := q_runV (l := l) (e := e0) (below := bl0) (meth := me0) (R := qR 8 0 0) (cells := 0) (slots := 0) (st0 := [.int x, .ref (E.2.2 99)]) (rest := []) hF hU hS hA 1 1 0 99 rfl rfl rfl hM9 w_568 w_569 w_570 w_100 w_571 (by decide +kernel) ⟨Nat.le_of_ble_eq_true rfl, Nat.le_of_ble_eq_true rfl⟩ dX11_meetings_5 rfl hl.1 rfl (Nat.le_of_ble_eq_true rfl) ⟨Nat.le_of_ble_eq_true rfl, Nat.le_of_ble_eq_true rfl⟩
  refine q_calli hR9 hU.2.2.2 hS (fun r_3 u_1 H locs hw_2 hU hS => ?_)
  obtain ⟨hw_2_e, hw_2⟩ := hw_2
  rw [hw_2_e] at hU
  have hw_2 : (r_3 = 1 ∧ (0 ≤ x ∧ x < u.1 9)) ∨ (r_3 = 0 ∧ (¬ (0 ≤ x ∧ x < u.1 9))) := hw_2
  rcases hw_2 with ⟨rfl, b5_4⟩ | ⟨rfl, b5_4⟩
  · refine lv_if_eq (tgt := 27) hF.1 hF.2.1 dX11_meetings_8 (by decide) (fun h9 => absurd h9 (by decide)) (fun _ => ?_)
    refine lv_aload_n hF.1 hF.2.1 dX11_meetings_11 rfl (lv_at hl 0 rfl) ?_
    refine q_get (v := .ref (E.2.2 99)) hF hU dX11_meetings_12 0 11 0 1100 1199 rfl rfl rfl rfl inX11 (by decide) (by decide) w_436 rfl rfl ?_
    refine lv_iload_n hF.1 hF.2.1 dX11_meetings_15 rfl (lv_at hl 2 rfl) ?_
    have hM9 := g_X0_hasBuyer l E A u y hI
    have hR9 := q_runV (l := l) (e := e0) (below := bl0) (meth := me0) (R := qR 8 0 0) (cells := 0) (slots := 0) (st0 := [.int y, .ref (E.2.2 99)]) (rest := []) hF hU hS hA 1 1 0 99 rfl rfl rfl hM9 w_568 w_569 w_570 w_100 w_571 (by decide +kernel) ⟨Nat.le_of_ble_eq_true rfl, Nat.le_of_ble_eq_true rfl⟩ dX11_meetings_16 rfl hl.1 rfl (Nat.le_of_ble_eq_true rfl) ⟨Nat.le_of_ble_eq_true rfl, Nat.le_of_ble_eq_true rfl⟩
    refine q_calli hR9 hU.2.2.2 hS (fun r_7 u_5 H locs hw_6 hU hS => ?_)
    obtain ⟨hw_6_e, hw_6⟩ := hw_6
    rw [hw_6_e] at hU
    have hw_6 : (r_7 = 1 ∧ (0 ≤ y ∧ y < u.1 9)) ∨ (r_7 = 0 ∧ (¬ (0 ≤ y ∧ y < u.1 9))) := hw_6
    rcases hw_6 with ⟨rfl, b16_8⟩ | ⟨rfl, b16_8⟩
    · refine lv_if_eq (tgt := 27) hF.1 hF.2.1 dX11_meetings_19 (by decide) (fun h9 => absurd h9 (by decide)) (fun _ => ?_)
      refine lv_iload_n hF.1 hF.2.1 dX11_meetings_22 rfl (lv_at hl 1 rfl) ?_
      refine lv_iload_n hF.1 hF.2.1 dX11_meetings_23 rfl (lv_at hl 2 rfl) ?_
      refine lv_icmp_ne (tgt := 29) hF.1 hF.2.1 dX11_meetings_24 (by decide) (fun c24_9 => ?_) (fun c24_9 => ?_)
      · refine lv_aload_n hF.1 hF.2.1 dX11_meetings_29 rfl (lv_at hl 0 rfl) ?_
        refine q_get (v := .ref (E.2.2 399)) hF hU dX11_meetings_30 0 11 5 1105 1199 rfl rfl rfl rfl inX11 (by decide) (by decide) w_441 rfl rfl ?_
        have hM9 := g_X3_refresh_k l E A u k P hI hk hCA
        have hR9 := q_runV (l := l) (e := e0) (below := bl0) (meth := me0) (R := qR 8 0 0) (cells := 0) (slots := 0) (st0 := [.ref (E.2.2 399)]) (rest := []) hF hU hS hA 0 6 3 399 rfl rfl rfl hM9 w_931 w_932 w_933 w_105 w_934 (by decide +kernel) ⟨Nat.le_of_ble_eq_true rfl, Nat.le_of_ble_eq_true rfl⟩ dX11_meetings_33 rfl hl.1 rfl (Nat.le_of_ble_eq_true rfl) ⟨Nat.le_of_ble_eq_true rfl, Nat.le_of_ble_eq_true rfl⟩
        refine q_callv hR9 hU.2.2.2 hS (fun u_10 H locs hw_11 hU hS => ?_)
        obtain ⟨⟨hw_11_f, hI⟩, hw_11⟩ := hw_11
        have hfo := hfr
        have hfr : qFc [900, 901, 902, 908, 909, 604, 605, 606, 607, 608, 609, 311] [905, 906, 907, 601, 602, 603, 303, 304, 305] [] [904, 5010, 5011, 5012, 5013, 5014] u u_10 := hfr.trans (hw_11_f.mono (by decide) (by decide) (by decide) (by decide))
        have hCA := hw_11.1
        have hw_11 := hw_11.2
        obtain ⟨S_13, B_14, hST, hBT, hq_15⟩ := hw_11
        have hq_15 : f_fi (k) S_13 ∧ m_R (k) B_14 (f_M (k)) (u_10.2.1 303) (u_10.2.1 304) (u_10.2.1 305) := hq_15
        have hm_16 : f_fi (k) S_13 := hq_15.1
        have hm_17 : m_R (k) B_14 (f_M (k)) (u_10.2.1 303) (u_10.2.1 304) (u_10.2.1 305) := hq_15.2
        refine lv_aload_n hF.1 hF.2.1 dX11_meetings_36 rfl (lv_at hl 0 rfl) ?_
        refine q_get (v := .ref (E.2.2 399)) hF hU dX11_meetings_37 0 11 5 1105 1199 rfl rfl rfl rfl inX11 (by decide) (by decide) w_441 rfl rfl ?_
        refine lv_iload_n hF.1 hF.2.1 dX11_meetings_40 rfl (lv_at hl 1 rfl) ?_
        refine lv_iload_n hF.1 hF.2.1 dX11_meetings_41 rfl (lv_at hl 2 rfl) ?_
        have hM9 := g_X3_meetingsOf_k l E A u_10 x y k P hI (hk.fr hfr (by decide) (by decide)) (by rw [(hfr.1 9 (by decide))]; exact (g_X11_meetings_k_v0 u x y k P u_10 S_13 B_14 hk hca hz8 hz9 hz10 hz12 b5_4 b16_8 c24_9 hm_16 hm_17)) (by rw [(hfr.1 9 (by decide))]; exact (g_X11_meetings_k_v1 u x y k P u_10 S_13 B_14 hk hca hz8 hz9 hz10 hz12 b5_4 b16_8 c24_9 hm_16 hm_17))
        have hR9 := q_runV (l := l) (e := e0) (below := bl0) (meth := me0) (R := qR 8 0 0) (cells := 0) (slots := 0) (st0 := [.int y, .int x, .ref (E.2.2 399)]) (rest := []) hF hU hS hA 2 6 3 399 rfl rfl rfl hM9 w_1005 w_1006 w_1007 w_105 w_1008 (by decide +kernel) ⟨Nat.le_of_ble_eq_true rfl, Nat.le_of_ble_eq_true rfl⟩ dX11_meetings_42 rfl hl.1 rfl (Nat.le_of_ble_eq_true rfl) ⟨Nat.le_of_ble_eq_true rfl, Nat.le_of_ble_eq_true rfl⟩
        refine q_calli hR9 hU.2.2.2 hS (fun r_20 u_18 H locs hw_19 hU hS => ?_)
        obtain ⟨hw_19_e, hw_19⟩ := hw_19
        rw [hw_19_e] at hU
        have hw_19 : r_20 = (u_10.2.1 305) (x * 8 + y).toNatClampNeg := hw_19
        exact q_iret hF hr rfl hlocks hU hS dX11_meetings_45 ⟨⟨hfr, hI⟩, ⟨hCA, (g_X11_meetings_k_v2 u x y k P u_10 S_13 B_14 r_20 hk hca hz8 hz9 hz10 hz12 b5_4 b16_8 c24_9 hm_16 hm_17 hw_19)⟩⟩
      · refine lv_iconst (v := (-1)) hF.1 hF.2.1 dX11_meetings_27 (by decide) ?_
        exact q_iret hF hr rfl hlocks hU hS dX11_meetings_28 ⟨⟨hfr, hI⟩, ⟨hCA, (g_X11_meetings_k_v3 u x y k P hk hca hz8 hz9 hz10 hz12 b5_4 b16_8 c24_9)⟩⟩
    · refine lv_if_eq (tgt := 27) hF.1 hF.2.1 dX11_meetings_19 (by decide) (fun _ => ?_) (fun h9 => absurd (by decide) h9)
      refine lv_iconst (v := (-1)) hF.1 hF.2.1 dX11_meetings_27 (by decide) ?_
      exact q_iret hF hr rfl hlocks hU hS dX11_meetings_28 ⟨⟨hfr, hI⟩, ⟨hCA, (g_X11_meetings_k_v4 u x y k P hk hca hz8 hz9 hz10 hz12 b5_4 b16_8)⟩⟩
  · refine lv_if_eq (tgt := 27) hF.1 hF.2.1 dX11_meetings_8 (by decide) (fun _ => ?_) (fun h9 => absurd (by decide) h9)
    refine lv_iconst (v := (-1)) hF.1 hF.2.1 dX11_meetings_27 (by decide) ?_
    exact q_iret hF hr rfl hlocks hU hS dX11_meetings_28 ⟨⟨hfr, hI⟩, ⟨hCA, (g_X11_meetings_k_v5 u x y k P hk hca hz8 hz9 hz10 hz12 b5_4)⟩⟩
set_option maxRecDepth 100000 in
theorem g_X11_doubt_k_v0 (u : qS) (x : Int32) (y : Int32) (z : Int32) (k : qS) (P : Nat → Int32) (u_1 : qS) (S_6 : Nat → Int32) (B_7 : Nat → Int32) (hk : CT k P u) (hca : t_ca k u) (hz8 : 0 ≤ u.1 8 ∧ u.1 8 ≤ 20) (hz9 : 0 ≤ u.1 9 ∧ u.1 9 ≤ 8) (hz10 : 0 ≤ u.1 10 ∧ u.1 10 ≤ 120) (hz12 : 0 ≤ u.1 12 ∧ u.1 12 ≤ 16) (hm_9 : f_fi (k) S_6) (hm_10 : m_R (k) B_7 (f_M (k)) (u_1.2.1 303) (u_1.2.1 304) (u_1.2.1 305)) : f_fi k S_6 := by
  first | omega | ((try simp only [g_m1, Int32.lt_iff_toInt_lt, Int32.le_iff_toInt_le, ← Int32.toInt_inj, Int32.reduceToInt] at *); omega) | ((try simp only [g_m1, Int32.lt_iff_toInt_lt, Int32.le_iff_toInt_le, ← Int32.toInt_inj, Int32.reduceToInt] at *); omega) | ((try simp only [g_m1, Int32.lt_iff_toInt_lt, Int32.le_iff_toInt_le, ← Int32.toInt_inj, Int32.toInt_add, Int32.toInt_sub, Int32.toInt_mul, Int32.toInt_neg, Int32.reduceToInt, g_bm, g_bm'] at *); omega) | (have qr1 := g_rng x; have qr2 := g_rng y; have qr3 := g_rng z; (try simp only [g_m1, Int32.lt_iff_toInt_lt, Int32.le_iff_toInt_le, ← Int32.toInt_inj, Int32.toInt_add, Int32.toInt_sub, Int32.toInt_mul, Int32.toInt_neg, Int32.reduceToInt, g_bm, g_bm'] at *); omega) | (simp only [g_m1, Int32.lt_iff_toInt_lt, Int32.le_iff_toInt_le, ← Int32.toInt_inj, Int32.toInt_add, Int32.toInt_sub, Int32.toInt_mul, Int32.toInt_neg, Int32.reduceToInt, g_bm, g_bm'] at *; simp at *; omega) | (simp_all; done)
set_option maxRecDepth 100000 in
theorem g_X11_doubt_k_v1 (u : qS) (x : Int32) (y : Int32) (z : Int32) (k : qS) (P : Nat → Int32) (u_1 : qS) (S_6 : Nat → Int32) (B_7 : Nat → Int32) (u_11 : qS) (hk : CT k P u) (hca : t_ca k u) (hz8 : 0 ≤ u.1 8 ∧ u.1 8 ≤ 20) (hz9 : 0 ≤ u.1 9 ∧ u.1 9 ≤ 8) (hz10 : 0 ≤ u.1 10 ∧ u.1 10 ≤ 120) (hz12 : 0 ≤ u.1 12 ∧ u.1 12 ≤ 16) (hm_9 : f_fi (k) S_6) (hm_10 : m_R (k) B_7 (f_M (k)) (u_1.2.1 303) (u_1.2.1 304) (u_1.2.1 305)) (b11_35 : f_HM (k) x y z ∧ m_A (k) (fun _ => 1) y z (u_11.2.1 307) ((k).1 1247).toNatClampNeg) : 0 ≤ x ∧ x < (u.1 8 : Int32) := by
  have w := (by assumption : f_HM k x y z ∧ _)
  rw [hk.1.2.1]; exact w.1.1
set_option maxRecDepth 100000 in
theorem g_X11_doubt_k_v2 (u : qS) (x : Int32) (y : Int32) (z : Int32) (k : qS) (P : Nat → Int32) (u_1 : qS) (S_6 : Nat → Int32) (B_7 : Nat → Int32) (u_11 : qS) (r_38 : Int32) (hk : CT k P u) (hca : t_ca k u) (hz8 : 0 ≤ u.1 8 ∧ u.1 8 ≤ 20) (hz9 : 0 ≤ u.1 9 ∧ u.1 9 ≤ 8) (hz10 : 0 ≤ u.1 10 ∧ u.1 10 ≤ 120) (hz12 : 0 ≤ u.1 12 ∧ u.1 12 ≤ 16) (hm_9 : f_fi (k) S_6) (hm_10 : m_R (k) B_7 (f_M (k)) (u_1.2.1 303) (u_1.2.1 304) (u_1.2.1 305)) (b11_35 : f_HM (k) x y z ∧ m_A (k) (fun _ => 1) y z (u_11.2.1 307) ((k).1 1247).toNatClampNeg) (hw_37 : r_38 = if 0 < (u_11.2.1 307) x.toNatClampNeg then 100 * (u.1 1108) / (u_11.2.1 307) x.toNatClampNeg else 0) : (f_HM k x y z ∧ (r_38 : Int32) = 100 * u.1 1108 / f_ad k (fun _ => 1) y z x (k.1 1247).toNatClampNeg) ∨ (¬ f_HM k x y z ∧ (r_38 : Int32) = -1) := by
  first
  | exact Or.inr ⟨by assumption, rfl⟩
  | (have w := (by assumption : f_HM k x y z ∧ m_A k (fun _ => 1) y z _ _)
     have e := w.2 x w.1.1.1 (Int32.lt_of_lt_of_le w.1.1.2 (by rw [← hk.1.2.1]; exact hz8.2))
     refine Or.inl ⟨w.1, ?_⟩
     rw [← e]
     exact Eq.trans (by assumption) (if_pos (by rw [e]; exact w.1.2.2)))
set_option maxRecDepth 100000 in
theorem g_X11_doubt_k_v3 (u : qS) (x : Int32) (y : Int32) (z : Int32) (k : qS) (P : Nat → Int32) (u_1 : qS) (S_6 : Nat → Int32) (B_7 : Nat → Int32) (hk : CT k P u) (hca : t_ca k u) (hz8 : 0 ≤ u.1 8 ∧ u.1 8 ≤ 20) (hz9 : 0 ≤ u.1 9 ∧ u.1 9 ≤ 8) (hz10 : 0 ≤ u.1 10 ∧ u.1 10 ≤ 120) (hz12 : 0 ≤ u.1 12 ∧ u.1 12 ≤ 16) (hm_9 : f_fi (k) S_6) (hm_10 : m_R (k) B_7 (f_M (k)) (u_1.2.1 303) (u_1.2.1 304) (u_1.2.1 305)) (b11_35 : ¬ f_HM (k) x y z) : (f_HM k x y z ∧ ((-1) : Int32) = 100 * u.1 1108 / f_ad k (fun _ => 1) y z x (k.1 1247).toNatClampNeg) ∨ (¬ f_HM k x y z ∧ ((-1) : Int32) = -1) := by
  first
  | exact Or.inr ⟨by assumption, rfl⟩
  | (have w := (by assumption : f_HM k x y z ∧ m_A k (fun _ => 1) y z _ _)
     have e := w.2 x w.1.1.1 (Int32.lt_of_lt_of_le w.1.1.2 (by rw [← hk.1.2.1]; exact hz8.2))
     refine Or.inl ⟨w.1, ?_⟩
     rw [← e]
     exact Eq.trans (by assumption) (if_pos (by rw [e]; exact w.1.2.2)))
set_option maxHeartbeats 1000000 in
set_option maxRecDepth 100000 in
theorem g_X11_doubt_k (l : Launch) (E : qE) (A : Nat → Prop) (u : qS) (x : Int32) (y : Int32) (z : Int32) (k : qS) (P : Nat → Int32) (hI : IC E u) (hk : CT k P u) (hca : t_ca k u) : Met l yX11_doubt (uws yX11_doubt cX11_doubt 4 (some .int)) (qR 8 0 0) (qPc E A 0 u [.ref (E.2.2 1199), .int x, .int y, .int z]) (qQi E A 0 (fun r u1 => (qFc [900, 901, 902, 908, 909, 604, 605, 606, 607, 608, 609, 311] [905, 906, 907, 601, 602, 603, 303, 304, 305, 306, 307] [] [904, 5010, 5011, 5012, 5013, 5014] u u1 ∧ IC E u1) ∧ (t_ca k u1 ∧ ((f_HM k x y z ∧ r = 100 * u.1 1108 / f_ad k (fun _ => 1) y z x (k.1 1247).toNatClampNeg) ∨ (¬ f_HM k x y z ∧ r = -1))))) 0 0 A := by
  refine q_met (own := RX11) (f := 8) [.ref (E.2.2 1199), .int x, .int y, .int z] (by decide) (Nat.le_of_ble_eq_true rfl) rfl ?_
  intro p0 e0 s0 m0 bl0 me0 cd0 ls hF hr hlocks hU hS hA hl
  have hl : lv_has ls 4 [(0, .ref (E.2.2 1199)), (1, .int x), (2, .int y), (3, .int z)] := hl
  have hz8 : 0 ≤ u.1 8 ∧ u.1 8 ≤ 20 := hI.1.s8
  have hz9 : 0 ≤ u.1 9 ∧ u.1 9 ≤ 8 := hI.1.s9
  have hz10 : 0 ≤ u.1 10 ∧ u.1 10 ≤ 120 := hI.1.s10
  have hz12 : 0 ≤ u.1 12 ∧ u.1 12 ≤ 16 := hI.1.s12
  have hfr : qFc [900, 901, 902, 908, 909, 604, 605, 606, 607, 608, 609, 311] [905, 906, 907, 601, 602, 603, 303, 304, 305, 306, 307] [] [904, 5010, 5011, 5012, 5013, 5014] u u := qFc.rf
  have hCA := hca
  refine lv_aload_n hF.1 hF.2.1 dX11_doubt_0 rfl (lv_at hl 0 rfl) ?_
  refine q_get (v := .ref (E.2.2 399)) hF hU dX11_doubt_1 0 11 5 1105 1199 rfl rfl rfl rfl inX11 (by decide) (by decide) w_441 rfl rfl ?_
  have hM9 := g_X3_refresh_k l E A u k P hI hk hCA
  have hR9 := q_runV (l := l) (e := e0) (below := bl0) (meth := me0) (R := qR 8 0 0) (cells := 0) (slots := 0) (st0 := [.ref (E.2.2 399)]) (rest := []) hF hU hS hA 0 6 3 399 rfl rfl rfl hM9 w_931 w_932 w_933 w_105 w_934 (by decide +kernel) ⟨Nat.le_of_ble_eq_true rfl, Nat.le_of_ble_eq_true rfl⟩ dX11_doubt_4 rfl hl.1 rfl (Nat.le_of_ble_eq_true rfl) ⟨Nat.le_of_ble_eq_true rfl, Nat.le_of_ble_eq_true rfl⟩
  refine q_callv hR9 hU.2.2.2 hS (fun u_1 H locs hw_2 hU hS => ?_)
  obtain ⟨⟨hw_2_f, hI⟩, hw_2⟩ := hw_2
  have hfo := hfr
  have hfr : qFc [900, 901, 902, 908, 909, 604, 605, 606, 607, 608, 609, 311] [905, 906, 907, 601, 602, 603, 303, 304, 305, 306, 307] [] [904, 5010, 5011, 5012, 5013, 5014] u u_1 := hfr.trans (hw_2_f.mono (by decide) (by decide) (by decide) (by decide))
  have e_4 : u_1.2.1 306 = (u.2.1 306) := (hw_2_f.2.1 306 (by decide)).trans rfl
  have e_5 : u_1.2.1 307 = (u.2.1 307) := (hw_2_f.2.1 307 (by decide)).trans rfl
  have hCA := hw_2.1
  have hw_2 := hw_2.2
  obtain ⟨S_6, B_7, hST, hBT, hq_8⟩ := hw_2
  have hq_8 : f_fi (k) S_6 ∧ m_R (k) B_7 (f_M (k)) (u_1.2.1 303) (u_1.2.1 304) (u_1.2.1 305) := hq_8
  have hm_9 : f_fi (k) S_6 := hq_8.1
  have hm_10 : m_R (k) B_7 (f_M (k)) (u_1.2.1 303) (u_1.2.1 304) (u_1.2.1 305) := hq_8.2
  refine lv_aload_n hF.1 hF.2.1 dX11_doubt_7 rfl (lv_at hl 0 rfl) ?_
  refine lv_iload_n hF.1 hF.2.1 dX11_doubt_8 rfl (lv_at hl 1 rfl) ?_
  refine lv_iload_n hF.1 hF.2.1 dX11_doubt_9 rfl (lv_at hl 2 rfl) ?_
  refine lv_iload_n hF.1 hF.2.1 dX11_doubt_10 rfl (lv_at hl 3 rfl) ?_
  have hM9 := g_X11_hasMean_k l E A u_1 x y z k P S_6 hI (hk.fr hfr (by decide) (by decide)) hST (g_X11_doubt_k_v0 u x y z k P u_1 S_6 B_7 hk hca hz8 hz9 hz10 hz12 hm_9 hm_10)
  have hR9 := q_runV (l := l) (e := e0) (below := bl0) (meth := me0) (R := qR 8 0 0) (cells := 0) (slots := 0) (st0 := [.int z, .int y, .int x, .ref (E.2.2 1199)]) (rest := []) hF hU hS hA 3 0 11 1199 rfl rfl rfl hM9 w_1013 w_1015 w_35 w_99 w_1016 (by decide +kernel) ⟨Nat.le_of_ble_eq_true rfl, Nat.le_of_ble_eq_true rfl⟩ dX11_doubt_11 rfl hl.1 rfl (Nat.le_of_ble_eq_true rfl) ⟨Nat.le_of_ble_eq_true rfl, Nat.le_of_ble_eq_true rfl⟩
  refine q_calli hR9 hU.2.2.2 hS (fun r_13 u_11 H locs hw_12 hU hS => ?_)
  obtain ⟨⟨hw_12_f, hI, hw_12_d⟩, hw_12⟩ := hw_12
  have hfo := hfr
  have hfr : qFc [900, 901, 902, 908, 909, 604, 605, 606, 607, 608, 609, 311] [905, 906, 907, 601, 602, 603, 303, 304, 305, 306, 307] [] [904, 5010, 5011, 5012, 5013, 5014] u u_11 := hfr.trans (hw_12_f.mono (by decide) (by decide) (by decide) (by decide))
  have e_14 : u_11.1 311 = (u_1.1 311) := (hw_12_f.1 311 (by decide)).trans rfl
  have e_15 : u_11.1 604 = (u_1.1 604) := (hw_12_f.1 604 (by decide)).trans rfl
  have e_16 : u_11.1 605 = (u_1.1 605) := (hw_12_f.1 605 (by decide)).trans rfl
  have e_17 : u_11.1 606 = (u_1.1 606) := (hw_12_f.1 606 (by decide)).trans rfl
  have e_18 : u_11.1 607 = (u_1.1 607) := (hw_12_f.1 607 (by decide)).trans rfl
  have e_19 : u_11.1 608 = (u_1.1 608) := (hw_12_f.1 608 (by decide)).trans rfl
  have e_20 : u_11.1 609 = (u_1.1 609) := (hw_12_f.1 609 (by decide)).trans rfl
  have e_21 : u_11.1 900 = (u_1.1 900) := (hw_12_f.1 900 (by decide)).trans rfl
  have e_22 : u_11.1 901 = (u_1.1 901) := (hw_12_f.1 901 (by decide)).trans rfl
  have e_23 : u_11.1 902 = (u_1.1 902) := (hw_12_f.1 902 (by decide)).trans rfl
  have e_24 : u_11.1 908 = (u_1.1 908) := (hw_12_f.1 908 (by decide)).trans rfl
  have e_25 : u_11.1 909 = (u_1.1 909) := (hw_12_f.1 909 (by decide)).trans rfl
  have e_26 : u_11.2.1 303 = (u_1.2.1 303) := (hw_12_f.2.1 303 (by decide)).trans rfl
  have e_27 : u_11.2.1 304 = (u_1.2.1 304) := (hw_12_f.2.1 304 (by decide)).trans rfl
  have e_28 : u_11.2.1 305 = (u_1.2.1 305) := (hw_12_f.2.1 305 (by decide)).trans rfl
  have e_29 : u_11.2.1 601 = (u_1.2.1 601) := (hw_12_f.2.1 601 (by decide)).trans rfl
  have e_30 : u_11.2.1 602 = (u_1.2.1 602) := (hw_12_f.2.1 602 (by decide)).trans rfl
  have e_31 : u_11.2.1 603 = (u_1.2.1 603) := (hw_12_f.2.1 603 (by decide)).trans rfl
  have e_32 : u_11.2.1 905 = (u_1.2.1 905) := (hw_12_f.2.1 905 (by decide)).trans rfl
  have e_33 : u_11.2.1 906 = (u_1.2.1 906) := (hw_12_f.2.1 906 (by decide)).trans rfl
  have e_34 : u_11.2.1 907 = (u_1.2.1 907) := (hw_12_f.2.1 907 (by decide)).trans rfl
  have hCA : t_ca k u_11 := hCA.fr hw_12_f (by decide) (by decide) (by decide)
  have hST : qFD 10 S_6 u_11 := hST.fr hw_12_f (by decide) (by decide) (by decide) (by decide) (by decide)
  have hBT : qFD 11 B_7 u_11 := hBT.fr hw_12_f (by decide) (by decide) (by decide) (by decide) (by decide)
  have hw_12 : (r_13 = 1 ∧ (f_HM (k) x y z ∧ m_A (k) (fun _ => 1) y z (u_11.2.1 307) ((k).1 1247).toNatClampNeg)) ∨ (r_13 = 0 ∧ (¬ f_HM (k) x y z)) := hw_12
  rcases hw_12 with ⟨rfl, b11_35⟩ | ⟨rfl, b11_35⟩
  · refine lv_if_eq (tgt := 32) hF.1 hF.2.1 dX11_doubt_14 (by decide) (fun h9 => absurd h9 (by decide)) (fun _ => ?_)
    refine lv_aload_n hF.1 hF.2.1 dX11_doubt_17 rfl (lv_at hl 0 rfl) ?_
    refine q_get (v := .ref (E.2.2 399)) hF hU dX11_doubt_18 0 11 5 1105 1199 rfl rfl rfl rfl inX11 (by decide) (by decide) w_441 rfl rfl ?_
    refine lv_iload_n hF.1 hF.2.1 dX11_doubt_21 rfl (lv_at hl 1 rfl) ?_
    refine lv_aload_n hF.1 hF.2.1 dX11_doubt_22 rfl (lv_at hl 0 rfl) ?_
    refine q_get (v := .int (u.1 1108)) hF hU dX11_doubt_23 0 11 8 1108 1199 rfl rfl rfl rfl inX11 (by decide) (by decide) w_444 rfl (congrArg Value.int (hfr.1 1108 (by decide))) ?_
    have hM9 := g_X3_doubtOf_k l E A u_11 x (u.1 1108) k P hI (hk.fr hfr (by decide) (by decide)) (by rw [(hfr.1 8 (by decide))]; exact (g_X11_doubt_k_v1 u x y z k P u_1 S_6 B_7 u_11 hk hca hz8 hz9 hz10 hz12 hm_9 hm_10 b11_35))
    have hR9 := q_runV (l := l) (e := e0) (below := bl0) (meth := me0) (R := qR 8 0 0) (cells := 0) (slots := 0) (st0 := [.int (u.1 1108), .int x, .ref (E.2.2 399)]) (rest := []) hF hU hS hA 2 6 3 399 rfl rfl rfl hM9 w_1037 w_1038 w_1039 w_105 w_1040 (by decide +kernel) ⟨Nat.le_of_ble_eq_true rfl, Nat.le_of_ble_eq_true rfl⟩ dX11_doubt_26 rfl hl.1 rfl (Nat.le_of_ble_eq_true rfl) ⟨Nat.le_of_ble_eq_true rfl, Nat.le_of_ble_eq_true rfl⟩
    refine q_calli hR9 hU.2.2.2 hS (fun r_38 u_36 H locs hw_37 hU hS => ?_)
    obtain ⟨hw_37_e, hw_37⟩ := hw_37
    rw [hw_37_e] at hU
    have hw_37 : r_38 = if 0 < (u_11.2.1 307) x.toNatClampNeg then 100 * (u.1 1108) / (u_11.2.1 307) x.toNatClampNeg else 0 := hw_37
    refine lv_goto (tgt := 33) hF.1 hF.2.1 dX11_doubt_29 (by decide) ?_
    exact q_iret hF hr rfl hlocks hU hS dX11_doubt_33 ⟨⟨hfr, hI⟩, ⟨hCA, (g_X11_doubt_k_v2 u x y z k P u_1 S_6 B_7 u_11 r_38 hk hca hz8 hz9 hz10 hz12 hm_9 hm_10 b11_35 hw_37)⟩⟩
  · refine lv_if_eq (tgt := 32) hF.1 hF.2.1 dX11_doubt_14 (by decide) (fun _ => ?_) (fun h9 => absurd (by decide) h9)
    refine lv_iconst (v := (-1)) hF.1 hF.2.1 dX11_doubt_32 (by decide) ?_
    exact q_iret hF hr rfl hlocks hU hS dX11_doubt_33 ⟨⟨hfr, hI⟩, ⟨hCA, (g_X11_doubt_k_v3 u x y z k P u_1 S_6 B_7 hk hca hz8 hz9 hz10 hz12 hm_9 hm_10 b11_35)⟩⟩
set_option maxHeartbeats 1000000 in
set_option maxRecDepth 100000 in
theorem g_X11_countTruth_k (l : Launch) (E : qE) (A : Nat → Prop) (u : qS) (x : Int32) (k : qS) (P : Nat → Int32) (hI : IC E u) (hk : CT k P u) (hca : t_ca k u) : Met l yX11_countTruth (uws yX11_countTruth cX11_countTruth 2 (some .int)) (qR 7 0 0) (qPc E A 0 u [.ref (E.2.2 1199), .int x]) (qQi E A 0 (fun r u1 => (qFc [900, 901, 902, 908, 909] [905, 906, 907] [] [904, 5010] u u1 ∧ IC E u1) ∧ (t_ca k u1))) 0 0 A := by
  refine q_met (own := RX11) (f := 7) [.ref (E.2.2 1199), .int x] (by decide) (Nat.le_of_ble_eq_true rfl) rfl ?_
  intro p0 e0 s0 m0 bl0 me0 cd0 ls hF hr hlocks hU hS hA hl
  have hl : lv_has ls 2 [(0, .ref (E.2.2 1199)), (1, .int x)] := hl
  have hz8 : 0 ≤ u.1 8 ∧ u.1 8 ≤ 20 := hI.1.s8
  have hz9 : 0 ≤ u.1 9 ∧ u.1 9 ≤ 8 := hI.1.s9
  have hz10 : 0 ≤ u.1 10 ∧ u.1 10 ≤ 120 := hI.1.s10
  have hz12 : 0 ≤ u.1 12 ∧ u.1 12 ≤ 16 := hI.1.s12
  have hfr : qFc [900, 901, 902, 908, 909] [905, 906, 907] [] [904, 5010] u u := qFc.rf
  have hCA := hca
  refine lv_aload_n hF.1 hF.2.1 dX11_countTruth_0 rfl (lv_at hl 0 rfl) ?_
  refine q_get (v := .ref (E.2.2 999)) hF hU dX11_countTruth_1 0 11 3 1103 1199 rfl rfl rfl rfl inX11 (by decide) (by decide) w_439 rfl rfl ?_
  have hM9 := g_X9_refresh_k l E A u k P hI hk hCA.1
  have hR9 := q_runV (l := l) (e := e0) (below := bl0) (meth := me0) (R := qR 7 0 0) (cells := 0) (slots := 0) (st0 := [.ref (E.2.2 999)]) (rest := []) hF hU hS hA 0 4 9 999 rfl rfl rfl hM9 w_843 w_844 w_845 w_103 w_846 (by decide +kernel) ⟨Nat.le_of_ble_eq_true rfl, Nat.le_of_ble_eq_true rfl⟩ dX11_countTruth_4 rfl hl.1 rfl (Nat.le_of_ble_eq_true rfl) ⟨Nat.le_of_ble_eq_true rfl, Nat.le_of_ble_eq_true rfl⟩
  refine q_callv hR9 hU.2.2.2 hS (fun u_1 H locs hw_2 hU hS => ?_)
  obtain ⟨⟨hw_2_f, hI⟩, hw_2⟩ := hw_2
  have hfo := hfr
  have hfr : qFc [900, 901, 902, 908, 909] [905, 906, 907] [] [904, 5010] u u_1 := hfr.trans (hw_2_f.mono (by decide) (by decide) (by decide) (by decide))
  obtain ⟨S_4, hST, hq_5⟩ := hw_2
  have hCA : t_ca k u_1 := hCA.tr hw_2_f hST hq_5.1 hq_5.2 (by decide) (by decide) (by decide)
  have hq_5 : f_fi (k) S_4 ∧ u_1.1 909 = u.1 18 := hq_5
  refine lv_iload_n hF.1 hF.2.1 dX11_countTruth_7 rfl (lv_at hl 1 rfl) ?_
  refine lv_bipush (v := 6) hF.1 hF.2.1 dX11_countTruth_8 (by decide) ?_
  refine lv_icmp_ne (tgt := 23) hF.1 hF.2.1 dX11_countTruth_10 (by decide) (fun c10_6 => ?_) (fun c10_6 => ?_)
  · refine lv_iload_n hF.1 hF.2.1 dX11_countTruth_23 rfl (lv_at hl 1 rfl) ?_
    refine lv_bipush (v := 10) hF.1 hF.2.1 dX11_countTruth_24 (by decide) ?_
    refine lv_icmp_ne (tgt := 39) hF.1 hF.2.1 dX11_countTruth_26 (by decide) (fun c26_7 => ?_) (fun c26_7 => ?_)
    · refine lv_aload_n hF.1 hF.2.1 dX11_countTruth_39 rfl (lv_at hl 0 rfl) ?_
      refine q_get (v := .ref (E.2.2 999)) hF hU dX11_countTruth_40 0 11 3 1103 1199 rfl rfl rfl rfl inX11 (by decide) (by decide) w_439 rfl rfl ?_
      refine q_get (v := .int (u_1.1 902)) hF hU dX11_countTruth_43 4 9 2 902 999 rfl rfl rfl rfl inX9 (by decide) (by decide) w_304 rfl rfl ?_
      exact q_iret hF hr rfl hlocks hU hS dX11_countTruth_46 ⟨⟨hfr, hI⟩, hCA⟩
    · refine lv_aload_n hF.1 hF.2.1 dX11_countTruth_29 rfl (lv_at hl 0 rfl) ?_
      refine q_get (v := .ref (E.2.2 999)) hF hU dX11_countTruth_30 0 11 3 1103 1199 rfl rfl rfl rfl inX11 (by decide) (by decide) w_439 rfl rfl ?_
      refine q_get (v := .int (u_1.1 901)) hF hU dX11_countTruth_33 4 9 1 901 999 rfl rfl rfl rfl inX9 (by decide) (by decide) w_302 rfl rfl ?_
      refine lv_goto (tgt := 46) hF.1 hF.2.1 dX11_countTruth_36 (by decide) ?_
      exact q_iret hF hr rfl hlocks hU hS dX11_countTruth_46 ⟨⟨hfr, hI⟩, hCA⟩
  · refine lv_aload_n hF.1 hF.2.1 dX11_countTruth_13 rfl (lv_at hl 0 rfl) ?_
    refine q_get (v := .ref (E.2.2 999)) hF hU dX11_countTruth_14 0 11 3 1103 1199 rfl rfl rfl rfl inX11 (by decide) (by decide) w_439 rfl rfl ?_
    refine q_get (v := .int (u_1.1 900)) hF hU dX11_countTruth_17 4 9 0 900 999 rfl rfl rfl rfl inX9 (by decide) (by decide) w_300 rfl rfl ?_
    refine lv_goto (tgt := 46) hF.1 hF.2.1 dX11_countTruth_20 (by decide) ?_
    exact q_iret hF hr rfl hlocks hU hS dX11_countTruth_46 ⟨⟨hfr, hI⟩, hCA⟩
set_option maxRecDepth 100000 in
theorem g_X11_bonusesOf_k_v0 (u : qS) (x : Int32) (y : Int32) (z : Int32) (k : qS) (P : Nat → Int32) (x4 : Int32) (x5 : Int32) (x6 : Int32) (uc : qS) (hk : CT k P u) (hca : t_ca k u) (hz8 : 0 ≤ u.1 8 ∧ u.1 8 ≤ 20) (hz9 : 0 ≤ u.1 9 ∧ u.1 9 ≤ 8) (hz10 : 0 ≤ u.1 10 ∧ u.1 10 ≤ 120) (hz12 : 0 ≤ u.1 12 ∧ u.1 12 ≤ 16) (h_k : 0 ≤ x6) (h_j : x4 ≤ u.1 10) (h_ca : t_ca k uc) (c33_1 : ¬ x4 ≤ (x6 : Int32)) : 0 ≤ x6 ∧ x6 < (u.1 10) := by
  first | omega | ((try simp only [g_m1, Int32.lt_iff_toInt_lt, Int32.le_iff_toInt_le, ← Int32.toInt_inj, Int32.reduceToInt] at *); omega) | ((try simp only [g_m1, Int32.lt_iff_toInt_lt, Int32.le_iff_toInt_le, ← Int32.toInt_inj, Int32.reduceToInt] at *); omega) | ((try simp only [g_m1, Int32.lt_iff_toInt_lt, Int32.le_iff_toInt_le, ← Int32.toInt_inj, Int32.toInt_add, Int32.toInt_sub, Int32.toInt_mul, Int32.toInt_neg, Int32.reduceToInt, g_bm, g_bm'] at *); omega) | (have qr1 := g_rng x; have qr2 := g_rng y; have qr3 := g_rng z; have qr6 := g_rng x4; have qr7 := g_rng x5; have qr8 := g_rng x6; (try simp only [g_m1, Int32.lt_iff_toInt_lt, Int32.le_iff_toInt_le, ← Int32.toInt_inj, Int32.toInt_add, Int32.toInt_sub, Int32.toInt_mul, Int32.toInt_neg, Int32.reduceToInt, g_bm, g_bm'] at *); omega) | (simp only [g_m1, Int32.lt_iff_toInt_lt, Int32.le_iff_toInt_le, ← Int32.toInt_inj, Int32.toInt_add, Int32.toInt_sub, Int32.toInt_mul, Int32.toInt_neg, Int32.reduceToInt, g_bm, g_bm'] at *; simp at *; omega) | (simp_all; done)
set_option maxRecDepth 100000 in
theorem g_X11_bonusesOf_k_v1 (u : qS) (k : qS) (P : Nat → Int32) (x4 : Int32) (x6 : Int32) (uc : qS) (hk : CT k P u) (hca : t_ca k u) (hz8 : 0 ≤ u.1 8 ∧ u.1 8 ≤ 20) (hz9 : 0 ≤ u.1 9 ∧ u.1 9 ≤ 8) (hz10 : 0 ≤ u.1 10 ∧ u.1 10 ≤ 120) (hz12 : 0 ≤ u.1 12 ∧ u.1 12 ≤ 16) (h_k : 0 ≤ x6) (h_j : x4 ≤ u.1 10) (h_ca : t_ca k uc) (c33_1 : ¬ x4 ≤ (x6 : Int32)) : vp_in (x6) 120 := by
  refine g_in ?_ ?_ <;> ((try simp only [g_m1, Int32.lt_iff_toInt_lt, Int32.le_iff_toInt_le, ← Int32.toInt_inj, Int32.toInt_add, Int32.toInt_sub, Int32.toInt_mul, Int32.toInt_neg, Int32.reduceToInt, g_bm, g_bm'] at *); omega)
set_option maxRecDepth 100000 in
theorem g_X11_bonusesOf_k_v2 (u : qS) (x : Int32) (y : Int32) (z : Int32) (k : qS) (P : Nat → Int32) (x4 : Int32) (x5 : Int32) (x6 : Int32) (uc : qS) (hk : CT k P u) (hca : t_ca k u) (hz8 : 0 ≤ u.1 8 ∧ u.1 8 ≤ 20) (hz9 : 0 ≤ u.1 9 ∧ u.1 9 ≤ 8) (hz10 : 0 ≤ u.1 10 ∧ u.1 10 ≤ 120) (hz12 : 0 ≤ u.1 12 ∧ u.1 12 ≤ 16) (h_k : 0 ≤ x6) (h_j : x4 ≤ u.1 10) (h_ca : t_ca k uc) (c33_1 : ¬ x4 ≤ (x6 : Int32)) : 0 ≤ x6 ∧ x6 < (u.1 10) := by
  first | omega | ((try simp only [g_m1, Int32.lt_iff_toInt_lt, Int32.le_iff_toInt_le, ← Int32.toInt_inj, Int32.reduceToInt] at *); omega) | ((try simp only [g_m1, Int32.lt_iff_toInt_lt, Int32.le_iff_toInt_le, ← Int32.toInt_inj, Int32.reduceToInt] at *); omega) | ((try simp only [g_m1, Int32.lt_iff_toInt_lt, Int32.le_iff_toInt_le, ← Int32.toInt_inj, Int32.toInt_add, Int32.toInt_sub, Int32.toInt_mul, Int32.toInt_neg, Int32.reduceToInt, g_bm, g_bm'] at *); omega) | (have qr1 := g_rng x; have qr2 := g_rng y; have qr3 := g_rng z; have qr6 := g_rng x4; have qr7 := g_rng x5; have qr8 := g_rng x6; (try simp only [g_m1, Int32.lt_iff_toInt_lt, Int32.le_iff_toInt_le, ← Int32.toInt_inj, Int32.toInt_add, Int32.toInt_sub, Int32.toInt_mul, Int32.toInt_neg, Int32.reduceToInt, g_bm, g_bm'] at *); omega) | (simp only [g_m1, Int32.lt_iff_toInt_lt, Int32.le_iff_toInt_le, ← Int32.toInt_inj, Int32.toInt_add, Int32.toInt_sub, Int32.toInt_mul, Int32.toInt_neg, Int32.reduceToInt, g_bm, g_bm'] at *; simp at *; omega) | (simp_all; done)
set_option maxRecDepth 100000 in
theorem g_X11_bonusesOf_k_v3 (u : qS) (x : Int32) (y : Int32) (z : Int32) (k : qS) (P : Nat → Int32) (x4 : Int32) (x5 : Int32) (x6 : Int32) (uc : qS) (hk : CT k P u) (hca : t_ca k u) (hz8 : 0 ≤ u.1 8 ∧ u.1 8 ≤ 20) (hz9 : 0 ≤ u.1 9 ∧ u.1 9 ≤ 8) (hz10 : 0 ≤ u.1 10 ∧ u.1 10 ≤ 120) (hz12 : 0 ≤ u.1 12 ∧ u.1 12 ≤ 16) (h_k : 0 ≤ x6) (h_j : x4 ≤ u.1 10) (h_ca : t_ca k uc) (c33_1 : ¬ x4 ≤ (x6 : Int32)) (b63_19 : y ≤ (k.2.1 1250 (x6 : Int32).toNatClampNeg) ∧ (k.2.1 1250 (x6 : Int32).toNatClampNeg) ≤ z) (hb_24 : 0 ≤ k.2.1 1248 (x6 : Int32).toNatClampNeg ∧ k.2.1 1248 (x6 : Int32).toNatClampNeg < (u.1 8)) : 0 ≤ (k.2.1 1248 (x6 : Int32).toNatClampNeg) ∧ (k.2.1 1248 (x6 : Int32).toNatClampNeg) < (u.1 8) := by
  first | omega | ((try simp only [g_m1, Int32.lt_iff_toInt_lt, Int32.le_iff_toInt_le, ← Int32.toInt_inj, Int32.reduceToInt] at *); omega) | ((try simp only [g_m1, Int32.lt_iff_toInt_lt, Int32.le_iff_toInt_le, ← Int32.toInt_inj, Int32.reduceToInt] at *); omega) | ((try simp only [g_m1, Int32.lt_iff_toInt_lt, Int32.le_iff_toInt_le, ← Int32.toInt_inj, Int32.toInt_add, Int32.toInt_sub, Int32.toInt_mul, Int32.toInt_neg, Int32.reduceToInt, g_bm, g_bm'] at *); omega) | (have qr1 := g_rng x; have qr2 := g_rng y; have qr3 := g_rng z; have qr6 := g_rng x4; have qr7 := g_rng x5; have qr8 := g_rng x6; (try simp only [g_m1, Int32.lt_iff_toInt_lt, Int32.le_iff_toInt_le, ← Int32.toInt_inj, Int32.toInt_add, Int32.toInt_sub, Int32.toInt_mul, Int32.toInt_neg, Int32.reduceToInt, g_bm, g_bm'] at *); omega) | (simp only [g_m1, Int32.lt_iff_toInt_lt, Int32.le_iff_toInt_le, ← Int32.toInt_inj, Int32.toInt_add, Int32.toInt_sub, Int32.toInt_mul, Int32.toInt_neg, Int32.reduceToInt, g_bm, g_bm'] at *; simp at *; omega) | (simp_all; done)
set_option maxRecDepth 100000 in
theorem g_X11_bonusesOf_k_v4 (u : qS) (y : Int32) (z : Int32) (k : qS) (P : Nat → Int32) (x4 : Int32) (x6 : Int32) (uc : qS) (hk : CT k P u) (hca : t_ca k u) (hz8 : 0 ≤ u.1 8 ∧ u.1 8 ≤ 20) (hz9 : 0 ≤ u.1 9 ∧ u.1 9 ≤ 8) (hz10 : 0 ≤ u.1 10 ∧ u.1 10 ≤ 120) (hz12 : 0 ≤ u.1 12 ∧ u.1 12 ≤ 16) (h_k : 0 ≤ x6) (h_j : x4 ≤ u.1 10) (h_ca : t_ca k uc) (c33_1 : ¬ x4 ≤ (x6 : Int32)) (b63_19 : y ≤ (k.2.1 1250 (x6 : Int32).toNatClampNeg) ∧ (k.2.1 1250 (x6 : Int32).toNatClampNeg) ≤ z) (hb_24 : 0 ≤ k.2.1 1248 (x6 : Int32).toNatClampNeg ∧ k.2.1 1248 (x6 : Int32).toNatClampNeg < (u.1 8)) : vp_in (k.2.1 1248 (x6 : Int32).toNatClampNeg) 20 := by
  refine g_in ?_ ?_ <;> ((try simp only [g_m1, Int32.lt_iff_toInt_lt, Int32.le_iff_toInt_le, ← Int32.toInt_inj, Int32.toInt_add, Int32.toInt_sub, Int32.toInt_mul, Int32.toInt_neg, Int32.reduceToInt, g_bm, g_bm'] at *); omega)
set_option maxRecDepth 100000 in
theorem g_X11_bonusesOf_k_v5 (u : qS) (x : Int32) (y : Int32) (z : Int32) (k : qS) (P : Nat → Int32) (x4 : Int32) (x5 : Int32) (x6 : Int32) (uc : qS) (hk : CT k P u) (hca : t_ca k u) (hz8 : 0 ≤ u.1 8 ∧ u.1 8 ≤ 20) (hz9 : 0 ≤ u.1 9 ∧ u.1 9 ≤ 8) (hz10 : 0 ≤ u.1 10 ∧ u.1 10 ≤ 120) (hz12 : 0 ≤ u.1 12 ∧ u.1 12 ≤ 16) (h_k : 0 ≤ x6) (h_j : x4 ≤ u.1 10) (h_ca : t_ca k uc) (c33_1 : ¬ x4 ≤ (x6 : Int32)) (b63_19 : y ≤ (k.2.1 1250 (x6 : Int32).toNatClampNeg) ∧ (k.2.1 1250 (x6 : Int32).toNatClampNeg) ≤ z) (hb_24 : 0 ≤ k.2.1 1248 (x6 : Int32).toNatClampNeg ∧ k.2.1 1248 (x6 : Int32).toNatClampNeg < (u.1 8)) : 0 ≤ (k.2.1 1248 (x6 : Int32).toNatClampNeg) ∧ (k.2.1 1248 (x6 : Int32).toNatClampNeg) < (u.1 8) := by
  first | omega | ((try simp only [g_m1, Int32.lt_iff_toInt_lt, Int32.le_iff_toInt_le, ← Int32.toInt_inj, Int32.reduceToInt] at *); omega) | ((try simp only [g_m1, Int32.lt_iff_toInt_lt, Int32.le_iff_toInt_le, ← Int32.toInt_inj, Int32.reduceToInt] at *); omega) | ((try simp only [g_m1, Int32.lt_iff_toInt_lt, Int32.le_iff_toInt_le, ← Int32.toInt_inj, Int32.toInt_add, Int32.toInt_sub, Int32.toInt_mul, Int32.toInt_neg, Int32.reduceToInt, g_bm, g_bm'] at *); omega) | (have qr1 := g_rng x; have qr2 := g_rng y; have qr3 := g_rng z; have qr6 := g_rng x4; have qr7 := g_rng x5; have qr8 := g_rng x6; (try simp only [g_m1, Int32.lt_iff_toInt_lt, Int32.le_iff_toInt_le, ← Int32.toInt_inj, Int32.toInt_add, Int32.toInt_sub, Int32.toInt_mul, Int32.toInt_neg, Int32.reduceToInt, g_bm, g_bm'] at *); omega) | (simp only [g_m1, Int32.lt_iff_toInt_lt, Int32.le_iff_toInt_le, ← Int32.toInt_inj, Int32.toInt_add, Int32.toInt_sub, Int32.toInt_mul, Int32.toInt_neg, Int32.reduceToInt, g_bm, g_bm'] at *; simp at *; omega) | (simp_all; done)
set_option maxRecDepth 100000 in
theorem g_X11_bonusesOf_k_v6 (u : qS) (x : Int32) (y : Int32) (z : Int32) (k : qS) (P : Nat → Int32) (x4 : Int32) (x5 : Int32) (x6 : Int32) (uc : qS) (a_25 : Nat) (hk : CT k P u) (hca : t_ca k u) (hz8 : 0 ≤ u.1 8 ∧ u.1 8 ≤ 20) (hz9 : 0 ≤ u.1 9 ∧ u.1 9 ≤ 8) (hz10 : 0 ≤ u.1 10 ∧ u.1 10 ≤ 120) (hz12 : 0 ≤ u.1 12 ∧ u.1 12 ≤ 16) (h_k : 0 ≤ x6) (h_j : x4 ≤ u.1 10) (h_ca : t_ca k uc) (c33_1 : ¬ x4 ≤ (x6 : Int32)) (b63_19 : y ≤ (k.2.1 1250 (x6 : Int32).toNatClampNeg) ∧ (k.2.1 1250 (x6 : Int32).toNatClampNeg) ≤ z) (hb_24 : 0 ≤ k.2.1 1248 (x6 : Int32).toNatClampNeg ∧ k.2.1 1248 (x6 : Int32).toNatClampNeg < (u.1 8)) (hK_27 : (qsd uc.2.2.2.2 a_25 1 = k.2.1 1235 (k.2.1 1248 (x6 : Int32).toNatClampNeg : Int32).toNatClampNeg ∧ qsd uc.2.2.2.2 a_25 2 = k.2.1 1236 (k.2.1 1248 (x6 : Int32).toNatClampNeg : Int32).toNatClampNeg ∧ qsd uc.2.2.2.2 a_25 3 = k.2.1 1237 (k.2.1 1248 (x6 : Int32).toNatClampNeg : Int32).toNatClampNeg) ∧ qpd uc.2.2.2.2 (qsp uc.2.2.2.2 a_25) 0 = k.2.1 1233 (k.2.1 1248 (x6 : Int32).toNatClampNeg : Int32).toNatClampNeg ∧ qpd uc.2.2.2.2 (qsp uc.2.2.2.2 a_25) 1 = k.2.1 1234 (k.2.1 1248 (x6 : Int32).toNatClampNeg : Int32).toNatClampNeg) (c86_33 : ¬ (qsd uc.2.2.2.2 a_25 1 : Int32) = x) : 0 ≤ (x6 + 1) := by
  first | omega | ((try simp only [g_m1, Int32.lt_iff_toInt_lt, Int32.le_iff_toInt_le, ← Int32.toInt_inj, Int32.reduceToInt] at *); omega) | ((try have ez0 : (x6 + 1 : Int32).toInt = (x6 : Int32).toInt + (1 : Int32).toInt := g_add (by (try simp only [g_m1, Int32.lt_iff_toInt_lt, Int32.le_iff_toInt_le, ← Int32.toInt_inj, Int32.reduceToInt] at *); omega) (by (try simp only [g_m1, Int32.lt_iff_toInt_lt, Int32.le_iff_toInt_le, ← Int32.toInt_inj, Int32.reduceToInt] at *); omega)); (try simp only [g_m1, Int32.lt_iff_toInt_lt, Int32.le_iff_toInt_le, ← Int32.toInt_inj, Int32.reduceToInt] at *); omega) | ((try simp only [g_m1, Int32.lt_iff_toInt_lt, Int32.le_iff_toInt_le, ← Int32.toInt_inj, Int32.toInt_add, Int32.toInt_sub, Int32.toInt_mul, Int32.toInt_neg, Int32.reduceToInt, g_bm, g_bm'] at *); omega) | (have qr1 := g_rng x; have qr2 := g_rng y; have qr3 := g_rng z; have qr6 := g_rng x4; have qr7 := g_rng x5; have qr8 := g_rng x6; (try simp only [g_m1, Int32.lt_iff_toInt_lt, Int32.le_iff_toInt_le, ← Int32.toInt_inj, Int32.toInt_add, Int32.toInt_sub, Int32.toInt_mul, Int32.toInt_neg, Int32.reduceToInt, g_bm, g_bm'] at *); omega) | (simp only [g_m1, Int32.lt_iff_toInt_lt, Int32.le_iff_toInt_le, ← Int32.toInt_inj, Int32.toInt_add, Int32.toInt_sub, Int32.toInt_mul, Int32.toInt_neg, Int32.reduceToInt, g_bm, g_bm'] at *; simp at *; omega) | (simp_all; done)
set_option maxRecDepth 100000 in
theorem g_X11_bonusesOf_k_v7 (u : qS) (x : Int32) (y : Int32) (z : Int32) (k : qS) (P : Nat → Int32) (x4 : Int32) (x5 : Int32) (x6 : Int32) (uc : qS) (a_25 : Nat) (hk : CT k P u) (hca : t_ca k u) (hz8 : 0 ≤ u.1 8 ∧ u.1 8 ≤ 20) (hz9 : 0 ≤ u.1 9 ∧ u.1 9 ≤ 8) (hz10 : 0 ≤ u.1 10 ∧ u.1 10 ≤ 120) (hz12 : 0 ≤ u.1 12 ∧ u.1 12 ≤ 16) (h_k : 0 ≤ x6) (h_j : x4 ≤ u.1 10) (h_ca : t_ca k uc) (c33_1 : ¬ x4 ≤ (x6 : Int32)) (b63_19 : y ≤ (k.2.1 1250 (x6 : Int32).toNatClampNeg) ∧ (k.2.1 1250 (x6 : Int32).toNatClampNeg) ≤ z) (hb_24 : 0 ≤ k.2.1 1248 (x6 : Int32).toNatClampNeg ∧ k.2.1 1248 (x6 : Int32).toNatClampNeg < (u.1 8)) (hK_27 : (qsd uc.2.2.2.2 a_25 1 = k.2.1 1235 (k.2.1 1248 (x6 : Int32).toNatClampNeg : Int32).toNatClampNeg ∧ qsd uc.2.2.2.2 a_25 2 = k.2.1 1236 (k.2.1 1248 (x6 : Int32).toNatClampNeg : Int32).toNatClampNeg ∧ qsd uc.2.2.2.2 a_25 3 = k.2.1 1237 (k.2.1 1248 (x6 : Int32).toNatClampNeg : Int32).toNatClampNeg) ∧ qpd uc.2.2.2.2 (qsp uc.2.2.2.2 a_25) 0 = k.2.1 1233 (k.2.1 1248 (x6 : Int32).toNatClampNeg : Int32).toNatClampNeg ∧ qpd uc.2.2.2.2 (qsp uc.2.2.2.2 a_25) 1 = k.2.1 1234 (k.2.1 1248 (x6 : Int32).toNatClampNeg : Int32).toNatClampNeg) (c86_33 : ¬ (qsd uc.2.2.2.2 a_25 1 : Int32) = x) : x4 ≤ u.1 10 := by
  first | omega | ((try simp only [g_m1, Int32.lt_iff_toInt_lt, Int32.le_iff_toInt_le, ← Int32.toInt_inj, Int32.reduceToInt] at *); omega) | ((try simp only [g_m1, Int32.lt_iff_toInt_lt, Int32.le_iff_toInt_le, ← Int32.toInt_inj, Int32.reduceToInt] at *); omega) | ((try simp only [g_m1, Int32.lt_iff_toInt_lt, Int32.le_iff_toInt_le, ← Int32.toInt_inj, Int32.toInt_add, Int32.toInt_sub, Int32.toInt_mul, Int32.toInt_neg, Int32.reduceToInt, g_bm, g_bm'] at *); omega) | (have qr1 := g_rng x; have qr2 := g_rng y; have qr3 := g_rng z; have qr6 := g_rng x4; have qr7 := g_rng x5; have qr8 := g_rng x6; (try simp only [g_m1, Int32.lt_iff_toInt_lt, Int32.le_iff_toInt_le, ← Int32.toInt_inj, Int32.toInt_add, Int32.toInt_sub, Int32.toInt_mul, Int32.toInt_neg, Int32.reduceToInt, g_bm, g_bm'] at *); omega) | (simp only [g_m1, Int32.lt_iff_toInt_lt, Int32.le_iff_toInt_le, ← Int32.toInt_inj, Int32.toInt_add, Int32.toInt_sub, Int32.toInt_mul, Int32.toInt_neg, Int32.reduceToInt, g_bm, g_bm'] at *; simp at *; omega) | (simp_all; done)
set_option maxRecDepth 100000 in
theorem g_X11_bonusesOf_k_v8 (u : qS) (x : Int32) (y : Int32) (z : Int32) (k : qS) (P : Nat → Int32) (x4 : Int32) (x5 : Int32) (x6 : Int32) (uc : qS) (a_25 : Nat) (hk : CT k P u) (hca : t_ca k u) (hz8 : 0 ≤ u.1 8 ∧ u.1 8 ≤ 20) (hz9 : 0 ≤ u.1 9 ∧ u.1 9 ≤ 8) (hz10 : 0 ≤ u.1 10 ∧ u.1 10 ≤ 120) (hz12 : 0 ≤ u.1 12 ∧ u.1 12 ≤ 16) (h_k : 0 ≤ x6) (h_j : x4 ≤ u.1 10) (h_ca : t_ca k uc) (c33_1 : ¬ x4 ≤ (x6 : Int32)) (b63_19 : y ≤ (k.2.1 1250 (x6 : Int32).toNatClampNeg) ∧ (k.2.1 1250 (x6 : Int32).toNatClampNeg) ≤ z) (hb_24 : 0 ≤ k.2.1 1248 (x6 : Int32).toNatClampNeg ∧ k.2.1 1248 (x6 : Int32).toNatClampNeg < (u.1 8)) (hK_27 : (qsd uc.2.2.2.2 a_25 1 = k.2.1 1235 (k.2.1 1248 (x6 : Int32).toNatClampNeg : Int32).toNatClampNeg ∧ qsd uc.2.2.2.2 a_25 2 = k.2.1 1236 (k.2.1 1248 (x6 : Int32).toNatClampNeg : Int32).toNatClampNeg ∧ qsd uc.2.2.2.2 a_25 3 = k.2.1 1237 (k.2.1 1248 (x6 : Int32).toNatClampNeg : Int32).toNatClampNeg) ∧ qpd uc.2.2.2.2 (qsp uc.2.2.2.2 a_25) 0 = k.2.1 1233 (k.2.1 1248 (x6 : Int32).toNatClampNeg : Int32).toNatClampNeg ∧ qpd uc.2.2.2.2 (qsp uc.2.2.2.2 a_25) 1 = k.2.1 1234 (k.2.1 1248 (x6 : Int32).toNatClampNeg : Int32).toNatClampNeg) (c86_33 : ¬ (qsd uc.2.2.2.2 a_25 1 : Int32) = x) : (x4.toInt - (x6 + 1).toInt).toNat < (x4.toInt - x6.toInt).toNat := by
  first | omega | ((try simp only [g_m1, Int32.lt_iff_toInt_lt, Int32.le_iff_toInt_le, ← Int32.toInt_inj, Int32.reduceToInt] at *); omega) | ((try have ez0 : (x6 + 1 : Int32).toInt = (x6 : Int32).toInt + (1 : Int32).toInt := g_add (by (try simp only [g_m1, Int32.lt_iff_toInt_lt, Int32.le_iff_toInt_le, ← Int32.toInt_inj, Int32.reduceToInt] at *); omega) (by (try simp only [g_m1, Int32.lt_iff_toInt_lt, Int32.le_iff_toInt_le, ← Int32.toInt_inj, Int32.reduceToInt] at *); omega)); (try simp only [g_m1, Int32.lt_iff_toInt_lt, Int32.le_iff_toInt_le, ← Int32.toInt_inj, Int32.reduceToInt] at *); omega) | ((try simp only [g_m1, Int32.lt_iff_toInt_lt, Int32.le_iff_toInt_le, ← Int32.toInt_inj, Int32.toInt_add, Int32.toInt_sub, Int32.toInt_mul, Int32.toInt_neg, Int32.reduceToInt, g_bm, g_bm'] at *); omega) | (have qr1 := g_rng x; have qr2 := g_rng y; have qr3 := g_rng z; have qr6 := g_rng x4; have qr7 := g_rng x5; have qr8 := g_rng x6; (try simp only [g_m1, Int32.lt_iff_toInt_lt, Int32.le_iff_toInt_le, ← Int32.toInt_inj, Int32.toInt_add, Int32.toInt_sub, Int32.toInt_mul, Int32.toInt_neg, Int32.reduceToInt, g_bm, g_bm'] at *); omega) | (simp only [g_m1, Int32.lt_iff_toInt_lt, Int32.le_iff_toInt_le, ← Int32.toInt_inj, Int32.toInt_add, Int32.toInt_sub, Int32.toInt_mul, Int32.toInt_neg, Int32.reduceToInt, g_bm, g_bm'] at *; simp at *; omega) | (simp_all; done)
set_option maxRecDepth 100000 in
theorem g_X11_bonusesOf_k_v9 (u : qS) (x : Int32) (y : Int32) (z : Int32) (k : qS) (P : Nat → Int32) (x4 : Int32) (x5 : Int32) (x6 : Int32) (uc : qS) (a_25 : Nat) (hk : CT k P u) (hca : t_ca k u) (hz8 : 0 ≤ u.1 8 ∧ u.1 8 ≤ 20) (hz9 : 0 ≤ u.1 9 ∧ u.1 9 ≤ 8) (hz10 : 0 ≤ u.1 10 ∧ u.1 10 ≤ 120) (hz12 : 0 ≤ u.1 12 ∧ u.1 12 ≤ 16) (h_k : 0 ≤ x6) (h_j : x4 ≤ u.1 10) (h_ca : t_ca k uc) (c33_1 : ¬ x4 ≤ (x6 : Int32)) (b63_19 : y ≤ (k.2.1 1250 (x6 : Int32).toNatClampNeg) ∧ (k.2.1 1250 (x6 : Int32).toNatClampNeg) ≤ z) (hb_24 : 0 ≤ k.2.1 1248 (x6 : Int32).toNatClampNeg ∧ k.2.1 1248 (x6 : Int32).toNatClampNeg < (u.1 8)) (hK_27 : (qsd uc.2.2.2.2 a_25 1 = k.2.1 1235 (k.2.1 1248 (x6 : Int32).toNatClampNeg : Int32).toNatClampNeg ∧ qsd uc.2.2.2.2 a_25 2 = k.2.1 1236 (k.2.1 1248 (x6 : Int32).toNatClampNeg : Int32).toNatClampNeg ∧ qsd uc.2.2.2.2 a_25 3 = k.2.1 1237 (k.2.1 1248 (x6 : Int32).toNatClampNeg : Int32).toNatClampNeg) ∧ qpd uc.2.2.2.2 (qsp uc.2.2.2.2 a_25) 0 = k.2.1 1233 (k.2.1 1248 (x6 : Int32).toNatClampNeg : Int32).toNatClampNeg ∧ qpd uc.2.2.2.2 (qsp uc.2.2.2.2 a_25) 1 = k.2.1 1234 (k.2.1 1248 (x6 : Int32).toNatClampNeg : Int32).toNatClampNeg) (c86_33 : (qsd uc.2.2.2.2 a_25 1 : Int32) = x) : 0 ≤ (x6 + 1) := by
  first | omega | ((try simp only [g_m1, Int32.lt_iff_toInt_lt, Int32.le_iff_toInt_le, ← Int32.toInt_inj, Int32.reduceToInt] at *); omega) | ((try have ez1 : (x6 + 1 : Int32).toInt = (x6 : Int32).toInt + (1 : Int32).toInt := g_add (by (try simp only [g_m1, Int32.lt_iff_toInt_lt, Int32.le_iff_toInt_le, ← Int32.toInt_inj, Int32.reduceToInt] at *); omega) (by (try simp only [g_m1, Int32.lt_iff_toInt_lt, Int32.le_iff_toInt_le, ← Int32.toInt_inj, Int32.reduceToInt] at *); omega)); (try simp only [g_m1, Int32.lt_iff_toInt_lt, Int32.le_iff_toInt_le, ← Int32.toInt_inj, Int32.reduceToInt] at *); omega) | ((try simp only [g_m1, Int32.lt_iff_toInt_lt, Int32.le_iff_toInt_le, ← Int32.toInt_inj, Int32.toInt_add, Int32.toInt_sub, Int32.toInt_mul, Int32.toInt_neg, Int32.reduceToInt, g_bm, g_bm'] at *); omega) | (have qr1 := g_rng x; have qr2 := g_rng y; have qr3 := g_rng z; have qr6 := g_rng x4; have qr7 := g_rng x5; have qr8 := g_rng x6; (try simp only [g_m1, Int32.lt_iff_toInt_lt, Int32.le_iff_toInt_le, ← Int32.toInt_inj, Int32.toInt_add, Int32.toInt_sub, Int32.toInt_mul, Int32.toInt_neg, Int32.reduceToInt, g_bm, g_bm'] at *); omega) | (simp only [g_m1, Int32.lt_iff_toInt_lt, Int32.le_iff_toInt_le, ← Int32.toInt_inj, Int32.toInt_add, Int32.toInt_sub, Int32.toInt_mul, Int32.toInt_neg, Int32.reduceToInt, g_bm, g_bm'] at *; simp at *; omega) | (simp_all; done)
set_option maxRecDepth 100000 in
theorem g_X11_bonusesOf_k_v10 (u : qS) (x : Int32) (y : Int32) (z : Int32) (k : qS) (P : Nat → Int32) (x4 : Int32) (x5 : Int32) (x6 : Int32) (uc : qS) (a_25 : Nat) (hk : CT k P u) (hca : t_ca k u) (hz8 : 0 ≤ u.1 8 ∧ u.1 8 ≤ 20) (hz9 : 0 ≤ u.1 9 ∧ u.1 9 ≤ 8) (hz10 : 0 ≤ u.1 10 ∧ u.1 10 ≤ 120) (hz12 : 0 ≤ u.1 12 ∧ u.1 12 ≤ 16) (h_k : 0 ≤ x6) (h_j : x4 ≤ u.1 10) (h_ca : t_ca k uc) (c33_1 : ¬ x4 ≤ (x6 : Int32)) (b63_19 : y ≤ (k.2.1 1250 (x6 : Int32).toNatClampNeg) ∧ (k.2.1 1250 (x6 : Int32).toNatClampNeg) ≤ z) (hb_24 : 0 ≤ k.2.1 1248 (x6 : Int32).toNatClampNeg ∧ k.2.1 1248 (x6 : Int32).toNatClampNeg < (u.1 8)) (hK_27 : (qsd uc.2.2.2.2 a_25 1 = k.2.1 1235 (k.2.1 1248 (x6 : Int32).toNatClampNeg : Int32).toNatClampNeg ∧ qsd uc.2.2.2.2 a_25 2 = k.2.1 1236 (k.2.1 1248 (x6 : Int32).toNatClampNeg : Int32).toNatClampNeg ∧ qsd uc.2.2.2.2 a_25 3 = k.2.1 1237 (k.2.1 1248 (x6 : Int32).toNatClampNeg : Int32).toNatClampNeg) ∧ qpd uc.2.2.2.2 (qsp uc.2.2.2.2 a_25) 0 = k.2.1 1233 (k.2.1 1248 (x6 : Int32).toNatClampNeg : Int32).toNatClampNeg ∧ qpd uc.2.2.2.2 (qsp uc.2.2.2.2 a_25) 1 = k.2.1 1234 (k.2.1 1248 (x6 : Int32).toNatClampNeg : Int32).toNatClampNeg) (c86_33 : (qsd uc.2.2.2.2 a_25 1 : Int32) = x) : x4 ≤ u.1 10 := by
  first | omega | ((try simp only [g_m1, Int32.lt_iff_toInt_lt, Int32.le_iff_toInt_le, ← Int32.toInt_inj, Int32.reduceToInt] at *); omega) | ((try simp only [g_m1, Int32.lt_iff_toInt_lt, Int32.le_iff_toInt_le, ← Int32.toInt_inj, Int32.reduceToInt] at *); omega) | ((try simp only [g_m1, Int32.lt_iff_toInt_lt, Int32.le_iff_toInt_le, ← Int32.toInt_inj, Int32.toInt_add, Int32.toInt_sub, Int32.toInt_mul, Int32.toInt_neg, Int32.reduceToInt, g_bm, g_bm'] at *); omega) | (have qr1 := g_rng x; have qr2 := g_rng y; have qr3 := g_rng z; have qr6 := g_rng x4; have qr7 := g_rng x5; have qr8 := g_rng x6; (try simp only [g_m1, Int32.lt_iff_toInt_lt, Int32.le_iff_toInt_le, ← Int32.toInt_inj, Int32.toInt_add, Int32.toInt_sub, Int32.toInt_mul, Int32.toInt_neg, Int32.reduceToInt, g_bm, g_bm'] at *); omega) | (simp only [g_m1, Int32.lt_iff_toInt_lt, Int32.le_iff_toInt_le, ← Int32.toInt_inj, Int32.toInt_add, Int32.toInt_sub, Int32.toInt_mul, Int32.toInt_neg, Int32.reduceToInt, g_bm, g_bm'] at *; simp at *; omega) | (simp_all; done)
set_option maxRecDepth 100000 in
theorem g_X11_bonusesOf_k_v11 (u : qS) (x : Int32) (y : Int32) (z : Int32) (k : qS) (P : Nat → Int32) (x4 : Int32) (x5 : Int32) (x6 : Int32) (uc : qS) (a_25 : Nat) (hk : CT k P u) (hca : t_ca k u) (hz8 : 0 ≤ u.1 8 ∧ u.1 8 ≤ 20) (hz9 : 0 ≤ u.1 9 ∧ u.1 9 ≤ 8) (hz10 : 0 ≤ u.1 10 ∧ u.1 10 ≤ 120) (hz12 : 0 ≤ u.1 12 ∧ u.1 12 ≤ 16) (h_k : 0 ≤ x6) (h_j : x4 ≤ u.1 10) (h_ca : t_ca k uc) (c33_1 : ¬ x4 ≤ (x6 : Int32)) (b63_19 : y ≤ (k.2.1 1250 (x6 : Int32).toNatClampNeg) ∧ (k.2.1 1250 (x6 : Int32).toNatClampNeg) ≤ z) (hb_24 : 0 ≤ k.2.1 1248 (x6 : Int32).toNatClampNeg ∧ k.2.1 1248 (x6 : Int32).toNatClampNeg < (u.1 8)) (hK_27 : (qsd uc.2.2.2.2 a_25 1 = k.2.1 1235 (k.2.1 1248 (x6 : Int32).toNatClampNeg : Int32).toNatClampNeg ∧ qsd uc.2.2.2.2 a_25 2 = k.2.1 1236 (k.2.1 1248 (x6 : Int32).toNatClampNeg : Int32).toNatClampNeg ∧ qsd uc.2.2.2.2 a_25 3 = k.2.1 1237 (k.2.1 1248 (x6 : Int32).toNatClampNeg : Int32).toNatClampNeg) ∧ qpd uc.2.2.2.2 (qsp uc.2.2.2.2 a_25) 0 = k.2.1 1233 (k.2.1 1248 (x6 : Int32).toNatClampNeg : Int32).toNatClampNeg ∧ qpd uc.2.2.2.2 (qsp uc.2.2.2.2 a_25) 1 = k.2.1 1234 (k.2.1 1248 (x6 : Int32).toNatClampNeg : Int32).toNatClampNeg) (c86_33 : (qsd uc.2.2.2.2 a_25 1 : Int32) = x) : (x4.toInt - (x6 + 1).toInt).toNat < (x4.toInt - x6.toInt).toNat := by
  first | omega | ((try simp only [g_m1, Int32.lt_iff_toInt_lt, Int32.le_iff_toInt_le, ← Int32.toInt_inj, Int32.reduceToInt] at *); omega) | ((try have ez1 : (x6 + 1 : Int32).toInt = (x6 : Int32).toInt + (1 : Int32).toInt := g_add (by (try simp only [g_m1, Int32.lt_iff_toInt_lt, Int32.le_iff_toInt_le, ← Int32.toInt_inj, Int32.reduceToInt] at *); omega) (by (try simp only [g_m1, Int32.lt_iff_toInt_lt, Int32.le_iff_toInt_le, ← Int32.toInt_inj, Int32.reduceToInt] at *); omega)); (try simp only [g_m1, Int32.lt_iff_toInt_lt, Int32.le_iff_toInt_le, ← Int32.toInt_inj, Int32.reduceToInt] at *); omega) | ((try simp only [g_m1, Int32.lt_iff_toInt_lt, Int32.le_iff_toInt_le, ← Int32.toInt_inj, Int32.toInt_add, Int32.toInt_sub, Int32.toInt_mul, Int32.toInt_neg, Int32.reduceToInt, g_bm, g_bm'] at *); omega) | (have qr1 := g_rng x; have qr2 := g_rng y; have qr3 := g_rng z; have qr6 := g_rng x4; have qr7 := g_rng x5; have qr8 := g_rng x6; (try simp only [g_m1, Int32.lt_iff_toInt_lt, Int32.le_iff_toInt_le, ← Int32.toInt_inj, Int32.toInt_add, Int32.toInt_sub, Int32.toInt_mul, Int32.toInt_neg, Int32.reduceToInt, g_bm, g_bm'] at *); omega) | (simp only [g_m1, Int32.lt_iff_toInt_lt, Int32.le_iff_toInt_le, ← Int32.toInt_inj, Int32.toInt_add, Int32.toInt_sub, Int32.toInt_mul, Int32.toInt_neg, Int32.reduceToInt, g_bm, g_bm'] at *; simp at *; omega) | (simp_all; done)
set_option maxRecDepth 100000 in
theorem g_X11_bonusesOf_k_v12 (u : qS) (x : Int32) (y : Int32) (z : Int32) (k : qS) (P : Nat → Int32) (x4 : Int32) (x5 : Int32) (x6 : Int32) (uc : qS) (hk : CT k P u) (hca : t_ca k u) (hz8 : 0 ≤ u.1 8 ∧ u.1 8 ≤ 20) (hz9 : 0 ≤ u.1 9 ∧ u.1 9 ≤ 8) (hz10 : 0 ≤ u.1 10 ∧ u.1 10 ≤ 120) (hz12 : 0 ≤ u.1 12 ∧ u.1 12 ≤ 16) (h_k : 0 ≤ x6) (h_j : x4 ≤ u.1 10) (h_ca : t_ca k uc) (c33_1 : ¬ x4 ≤ (x6 : Int32)) (b63_19 : ¬ (y ≤ (k.2.1 1250 (x6 : Int32).toNatClampNeg) ∧ (k.2.1 1250 (x6 : Int32).toNatClampNeg) ≤ z)) : 0 ≤ (x6 + 1) := by
  first | omega | ((try simp only [g_m1, Int32.lt_iff_toInt_lt, Int32.le_iff_toInt_le, ← Int32.toInt_inj, Int32.reduceToInt] at *); omega) | ((try have ez0 : (x6 + 1 : Int32).toInt = (x6 : Int32).toInt + (1 : Int32).toInt := g_add (by (try simp only [g_m1, Int32.lt_iff_toInt_lt, Int32.le_iff_toInt_le, ← Int32.toInt_inj, Int32.reduceToInt] at *); omega) (by (try simp only [g_m1, Int32.lt_iff_toInt_lt, Int32.le_iff_toInt_le, ← Int32.toInt_inj, Int32.reduceToInt] at *); omega)); (try simp only [g_m1, Int32.lt_iff_toInt_lt, Int32.le_iff_toInt_le, ← Int32.toInt_inj, Int32.reduceToInt] at *); omega) | ((try simp only [g_m1, Int32.lt_iff_toInt_lt, Int32.le_iff_toInt_le, ← Int32.toInt_inj, Int32.toInt_add, Int32.toInt_sub, Int32.toInt_mul, Int32.toInt_neg, Int32.reduceToInt, g_bm, g_bm'] at *); omega) | (have qr1 := g_rng x; have qr2 := g_rng y; have qr3 := g_rng z; have qr6 := g_rng x4; have qr7 := g_rng x5; have qr8 := g_rng x6; (try simp only [g_m1, Int32.lt_iff_toInt_lt, Int32.le_iff_toInt_le, ← Int32.toInt_inj, Int32.toInt_add, Int32.toInt_sub, Int32.toInt_mul, Int32.toInt_neg, Int32.reduceToInt, g_bm, g_bm'] at *); omega) | (simp only [g_m1, Int32.lt_iff_toInt_lt, Int32.le_iff_toInt_le, ← Int32.toInt_inj, Int32.toInt_add, Int32.toInt_sub, Int32.toInt_mul, Int32.toInt_neg, Int32.reduceToInt, g_bm, g_bm'] at *; simp at *; omega) | (simp_all; done)
set_option maxRecDepth 100000 in
theorem g_X11_bonusesOf_k_v13 (u : qS) (x : Int32) (y : Int32) (z : Int32) (k : qS) (P : Nat → Int32) (x4 : Int32) (x5 : Int32) (x6 : Int32) (uc : qS) (hk : CT k P u) (hca : t_ca k u) (hz8 : 0 ≤ u.1 8 ∧ u.1 8 ≤ 20) (hz9 : 0 ≤ u.1 9 ∧ u.1 9 ≤ 8) (hz10 : 0 ≤ u.1 10 ∧ u.1 10 ≤ 120) (hz12 : 0 ≤ u.1 12 ∧ u.1 12 ≤ 16) (h_k : 0 ≤ x6) (h_j : x4 ≤ u.1 10) (h_ca : t_ca k uc) (c33_1 : ¬ x4 ≤ (x6 : Int32)) (b63_19 : ¬ (y ≤ (k.2.1 1250 (x6 : Int32).toNatClampNeg) ∧ (k.2.1 1250 (x6 : Int32).toNatClampNeg) ≤ z)) : x4 ≤ u.1 10 := by
  first | omega | ((try simp only [g_m1, Int32.lt_iff_toInt_lt, Int32.le_iff_toInt_le, ← Int32.toInt_inj, Int32.reduceToInt] at *); omega) | ((try simp only [g_m1, Int32.lt_iff_toInt_lt, Int32.le_iff_toInt_le, ← Int32.toInt_inj, Int32.reduceToInt] at *); omega) | ((try simp only [g_m1, Int32.lt_iff_toInt_lt, Int32.le_iff_toInt_le, ← Int32.toInt_inj, Int32.toInt_add, Int32.toInt_sub, Int32.toInt_mul, Int32.toInt_neg, Int32.reduceToInt, g_bm, g_bm'] at *); omega) | (have qr1 := g_rng x; have qr2 := g_rng y; have qr3 := g_rng z; have qr6 := g_rng x4; have qr7 := g_rng x5; have qr8 := g_rng x6; (try simp only [g_m1, Int32.lt_iff_toInt_lt, Int32.le_iff_toInt_le, ← Int32.toInt_inj, Int32.toInt_add, Int32.toInt_sub, Int32.toInt_mul, Int32.toInt_neg, Int32.reduceToInt, g_bm, g_bm'] at *); omega) | (simp only [g_m1, Int32.lt_iff_toInt_lt, Int32.le_iff_toInt_le, ← Int32.toInt_inj, Int32.toInt_add, Int32.toInt_sub, Int32.toInt_mul, Int32.toInt_neg, Int32.reduceToInt, g_bm, g_bm'] at *; simp at *; omega) | (simp_all; done)
set_option maxRecDepth 100000 in
theorem g_X11_bonusesOf_k_v14 (u : qS) (x : Int32) (y : Int32) (z : Int32) (k : qS) (P : Nat → Int32) (x4 : Int32) (x5 : Int32) (x6 : Int32) (uc : qS) (hk : CT k P u) (hca : t_ca k u) (hz8 : 0 ≤ u.1 8 ∧ u.1 8 ≤ 20) (hz9 : 0 ≤ u.1 9 ∧ u.1 9 ≤ 8) (hz10 : 0 ≤ u.1 10 ∧ u.1 10 ≤ 120) (hz12 : 0 ≤ u.1 12 ∧ u.1 12 ≤ 16) (h_k : 0 ≤ x6) (h_j : x4 ≤ u.1 10) (h_ca : t_ca k uc) (c33_1 : ¬ x4 ≤ (x6 : Int32)) (b63_19 : ¬ (y ≤ (k.2.1 1250 (x6 : Int32).toNatClampNeg) ∧ (k.2.1 1250 (x6 : Int32).toNatClampNeg) ≤ z)) : (x4.toInt - (x6 + 1).toInt).toNat < (x4.toInt - x6.toInt).toNat := by
  first | omega | ((try simp only [g_m1, Int32.lt_iff_toInt_lt, Int32.le_iff_toInt_le, ← Int32.toInt_inj, Int32.reduceToInt] at *); omega) | ((try have ez0 : (x6 + 1 : Int32).toInt = (x6 : Int32).toInt + (1 : Int32).toInt := g_add (by (try simp only [g_m1, Int32.lt_iff_toInt_lt, Int32.le_iff_toInt_le, ← Int32.toInt_inj, Int32.reduceToInt] at *); omega) (by (try simp only [g_m1, Int32.lt_iff_toInt_lt, Int32.le_iff_toInt_le, ← Int32.toInt_inj, Int32.reduceToInt] at *); omega)); (try simp only [g_m1, Int32.lt_iff_toInt_lt, Int32.le_iff_toInt_le, ← Int32.toInt_inj, Int32.reduceToInt] at *); omega) | ((try simp only [g_m1, Int32.lt_iff_toInt_lt, Int32.le_iff_toInt_le, ← Int32.toInt_inj, Int32.toInt_add, Int32.toInt_sub, Int32.toInt_mul, Int32.toInt_neg, Int32.reduceToInt, g_bm, g_bm'] at *); omega) | (have qr1 := g_rng x; have qr2 := g_rng y; have qr3 := g_rng z; have qr6 := g_rng x4; have qr7 := g_rng x5; have qr8 := g_rng x6; (try simp only [g_m1, Int32.lt_iff_toInt_lt, Int32.le_iff_toInt_le, ← Int32.toInt_inj, Int32.toInt_add, Int32.toInt_sub, Int32.toInt_mul, Int32.toInt_neg, Int32.reduceToInt, g_bm, g_bm'] at *); omega) | (simp only [g_m1, Int32.lt_iff_toInt_lt, Int32.le_iff_toInt_le, ← Int32.toInt_inj, Int32.toInt_add, Int32.toInt_sub, Int32.toInt_mul, Int32.toInt_neg, Int32.reduceToInt, g_bm, g_bm'] at *; simp at *; omega) | (simp_all; done)
set_option maxRecDepth 100000 in
theorem g_X11_bonusesOf_k_v15 (u : qS) (x : Int32) (y : Int32) (z : Int32) (k : qS) (P : Nat → Int32) (x4 : Int32) (x5 : Int32) (x6 : Int32) (uc : qS) (hk : CT k P u) (hca : t_ca k u) (hz8 : 0 ≤ u.1 8 ∧ u.1 8 ≤ 20) (hz9 : 0 ≤ u.1 9 ∧ u.1 9 ≤ 8) (hz10 : 0 ≤ u.1 10 ∧ u.1 10 ≤ 120) (hz12 : 0 ≤ u.1 12 ∧ u.1 12 ≤ 16) (h_k : 0 ≤ x6) (h_j : x4 ≤ u.1 10) (h_ca : t_ca k uc) (c33_1 : ¬ x4 ≤ (x6 : Int32)) : 0 ≤ (x6 + 1) := by
  first | omega | ((try simp only [g_m1, Int32.lt_iff_toInt_lt, Int32.le_iff_toInt_le, ← Int32.toInt_inj, Int32.reduceToInt] at *); omega) | ((try have ez0 : (x6 + 1 : Int32).toInt = (x6 : Int32).toInt + (1 : Int32).toInt := g_add (by (try simp only [g_m1, Int32.lt_iff_toInt_lt, Int32.le_iff_toInt_le, ← Int32.toInt_inj, Int32.reduceToInt] at *); omega) (by (try simp only [g_m1, Int32.lt_iff_toInt_lt, Int32.le_iff_toInt_le, ← Int32.toInt_inj, Int32.reduceToInt] at *); omega)); (try simp only [g_m1, Int32.lt_iff_toInt_lt, Int32.le_iff_toInt_le, ← Int32.toInt_inj, Int32.reduceToInt] at *); omega) | ((try simp only [g_m1, Int32.lt_iff_toInt_lt, Int32.le_iff_toInt_le, ← Int32.toInt_inj, Int32.toInt_add, Int32.toInt_sub, Int32.toInt_mul, Int32.toInt_neg, Int32.reduceToInt, g_bm, g_bm'] at *); omega) | (have qr1 := g_rng x; have qr2 := g_rng y; have qr3 := g_rng z; have qr6 := g_rng x4; have qr7 := g_rng x5; have qr8 := g_rng x6; (try simp only [g_m1, Int32.lt_iff_toInt_lt, Int32.le_iff_toInt_le, ← Int32.toInt_inj, Int32.toInt_add, Int32.toInt_sub, Int32.toInt_mul, Int32.toInt_neg, Int32.reduceToInt, g_bm, g_bm'] at *); omega) | (simp only [g_m1, Int32.lt_iff_toInt_lt, Int32.le_iff_toInt_le, ← Int32.toInt_inj, Int32.toInt_add, Int32.toInt_sub, Int32.toInt_mul, Int32.toInt_neg, Int32.reduceToInt, g_bm, g_bm'] at *; simp at *; omega) | (simp_all; done)
set_option maxRecDepth 100000 in
theorem g_X11_bonusesOf_k_v16 (u : qS) (x : Int32) (y : Int32) (z : Int32) (k : qS) (P : Nat → Int32) (x4 : Int32) (x5 : Int32) (x6 : Int32) (uc : qS) (hk : CT k P u) (hca : t_ca k u) (hz8 : 0 ≤ u.1 8 ∧ u.1 8 ≤ 20) (hz9 : 0 ≤ u.1 9 ∧ u.1 9 ≤ 8) (hz10 : 0 ≤ u.1 10 ∧ u.1 10 ≤ 120) (hz12 : 0 ≤ u.1 12 ∧ u.1 12 ≤ 16) (h_k : 0 ≤ x6) (h_j : x4 ≤ u.1 10) (h_ca : t_ca k uc) (c33_1 : ¬ x4 ≤ (x6 : Int32)) : x4 ≤ u.1 10 := by
  first | omega | ((try simp only [g_m1, Int32.lt_iff_toInt_lt, Int32.le_iff_toInt_le, ← Int32.toInt_inj, Int32.reduceToInt] at *); omega) | ((try simp only [g_m1, Int32.lt_iff_toInt_lt, Int32.le_iff_toInt_le, ← Int32.toInt_inj, Int32.reduceToInt] at *); omega) | ((try simp only [g_m1, Int32.lt_iff_toInt_lt, Int32.le_iff_toInt_le, ← Int32.toInt_inj, Int32.toInt_add, Int32.toInt_sub, Int32.toInt_mul, Int32.toInt_neg, Int32.reduceToInt, g_bm, g_bm'] at *); omega) | (have qr1 := g_rng x; have qr2 := g_rng y; have qr3 := g_rng z; have qr6 := g_rng x4; have qr7 := g_rng x5; have qr8 := g_rng x6; (try simp only [g_m1, Int32.lt_iff_toInt_lt, Int32.le_iff_toInt_le, ← Int32.toInt_inj, Int32.toInt_add, Int32.toInt_sub, Int32.toInt_mul, Int32.toInt_neg, Int32.reduceToInt, g_bm, g_bm'] at *); omega) | (simp only [g_m1, Int32.lt_iff_toInt_lt, Int32.le_iff_toInt_le, ← Int32.toInt_inj, Int32.toInt_add, Int32.toInt_sub, Int32.toInt_mul, Int32.toInt_neg, Int32.reduceToInt, g_bm, g_bm'] at *; simp at *; omega) | (simp_all; done)
set_option maxRecDepth 100000 in
theorem g_X11_bonusesOf_k_v17 (u : qS) (x : Int32) (y : Int32) (z : Int32) (k : qS) (P : Nat → Int32) (x4 : Int32) (x5 : Int32) (x6 : Int32) (uc : qS) (hk : CT k P u) (hca : t_ca k u) (hz8 : 0 ≤ u.1 8 ∧ u.1 8 ≤ 20) (hz9 : 0 ≤ u.1 9 ∧ u.1 9 ≤ 8) (hz10 : 0 ≤ u.1 10 ∧ u.1 10 ≤ 120) (hz12 : 0 ≤ u.1 12 ∧ u.1 12 ≤ 16) (h_k : 0 ≤ x6) (h_j : x4 ≤ u.1 10) (h_ca : t_ca k uc) (c33_1 : ¬ x4 ≤ (x6 : Int32)) : (x4.toInt - (x6 + 1).toInt).toNat < (x4.toInt - x6.toInt).toNat := by
  first | omega | ((try simp only [g_m1, Int32.lt_iff_toInt_lt, Int32.le_iff_toInt_le, ← Int32.toInt_inj, Int32.reduceToInt] at *); omega) | ((try have ez0 : (x6 + 1 : Int32).toInt = (x6 : Int32).toInt + (1 : Int32).toInt := g_add (by (try simp only [g_m1, Int32.lt_iff_toInt_lt, Int32.le_iff_toInt_le, ← Int32.toInt_inj, Int32.reduceToInt] at *); omega) (by (try simp only [g_m1, Int32.lt_iff_toInt_lt, Int32.le_iff_toInt_le, ← Int32.toInt_inj, Int32.reduceToInt] at *); omega)); (try simp only [g_m1, Int32.lt_iff_toInt_lt, Int32.le_iff_toInt_le, ← Int32.toInt_inj, Int32.reduceToInt] at *); omega) | ((try simp only [g_m1, Int32.lt_iff_toInt_lt, Int32.le_iff_toInt_le, ← Int32.toInt_inj, Int32.toInt_add, Int32.toInt_sub, Int32.toInt_mul, Int32.toInt_neg, Int32.reduceToInt, g_bm, g_bm'] at *); omega) | (have qr1 := g_rng x; have qr2 := g_rng y; have qr3 := g_rng z; have qr6 := g_rng x4; have qr7 := g_rng x5; have qr8 := g_rng x6; (try simp only [g_m1, Int32.lt_iff_toInt_lt, Int32.le_iff_toInt_le, ← Int32.toInt_inj, Int32.toInt_add, Int32.toInt_sub, Int32.toInt_mul, Int32.toInt_neg, Int32.reduceToInt, g_bm, g_bm'] at *); omega) | (simp only [g_m1, Int32.lt_iff_toInt_lt, Int32.le_iff_toInt_le, ← Int32.toInt_inj, Int32.toInt_add, Int32.toInt_sub, Int32.toInt_mul, Int32.toInt_neg, Int32.reduceToInt, g_bm, g_bm'] at *; simp at *; omega) | (simp_all; done)
set_option maxRecDepth 100000 in
theorem g_X11_bonusesOf_k_v18 (u : qS) (x : Int32) (y : Int32) (z : Int32) (k : qS) (P : Nat → Int32) (u_39 : qS) (S_51 : Nat → Int32) (r_66 : Int32) (hk : CT k P u) (hca : t_ca k u) (hz8 : 0 ≤ u.1 8 ∧ u.1 8 ≤ 20) (hz9 : 0 ≤ u.1 9 ∧ u.1 9 ≤ 8) (hz10 : 0 ≤ u.1 10 ∧ u.1 10 ≤ 120) (hz12 : 0 ≤ u.1 12 ∧ u.1 12 ≤ 16) (hq_52 : f_fi (k) S_51 ∧ u_39.1 909 = u.1 18) (hw_65 : 0 ≤ r_66 ∧ r_66 ≤ (u.1 10 : Int32)) : 0 ≤ (0 : Int32) := by
  first | omega | ((try simp only [g_m1, Int32.lt_iff_toInt_lt, Int32.le_iff_toInt_le, ← Int32.toInt_inj, Int32.reduceToInt] at *); omega) | ((try simp only [g_m1, Int32.lt_iff_toInt_lt, Int32.le_iff_toInt_le, ← Int32.toInt_inj, Int32.reduceToInt] at *); omega) | ((try simp only [g_m1, Int32.lt_iff_toInt_lt, Int32.le_iff_toInt_le, ← Int32.toInt_inj, Int32.toInt_add, Int32.toInt_sub, Int32.toInt_mul, Int32.toInt_neg, Int32.reduceToInt, g_bm, g_bm'] at *); omega) | (have qr1 := g_rng x; have qr2 := g_rng y; have qr3 := g_rng z; have qr9 := g_rng r_66; (try simp only [g_m1, Int32.lt_iff_toInt_lt, Int32.le_iff_toInt_le, ← Int32.toInt_inj, Int32.toInt_add, Int32.toInt_sub, Int32.toInt_mul, Int32.toInt_neg, Int32.reduceToInt, g_bm, g_bm'] at *); omega) | (simp only [g_m1, Int32.lt_iff_toInt_lt, Int32.le_iff_toInt_le, ← Int32.toInt_inj, Int32.toInt_add, Int32.toInt_sub, Int32.toInt_mul, Int32.toInt_neg, Int32.reduceToInt, g_bm, g_bm'] at *; simp at *; omega) | (simp_all; done)
set_option maxRecDepth 100000 in
theorem g_X11_bonusesOf_k_v19 (u : qS) (x : Int32) (y : Int32) (z : Int32) (k : qS) (P : Nat → Int32) (u_39 : qS) (S_51 : Nat → Int32) (r_66 : Int32) (hk : CT k P u) (hca : t_ca k u) (hz8 : 0 ≤ u.1 8 ∧ u.1 8 ≤ 20) (hz9 : 0 ≤ u.1 9 ∧ u.1 9 ≤ 8) (hz10 : 0 ≤ u.1 10 ∧ u.1 10 ≤ 120) (hz12 : 0 ≤ u.1 12 ∧ u.1 12 ≤ 16) (hq_52 : f_fi (k) S_51 ∧ u_39.1 909 = u.1 18) (hw_65 : 0 ≤ r_66 ∧ r_66 ≤ (u.1 10 : Int32)) : r_66 ≤ u.1 10 := by
  first | omega | ((try simp only [g_m1, Int32.lt_iff_toInt_lt, Int32.le_iff_toInt_le, ← Int32.toInt_inj, Int32.reduceToInt] at *); omega) | ((try simp only [g_m1, Int32.lt_iff_toInt_lt, Int32.le_iff_toInt_le, ← Int32.toInt_inj, Int32.reduceToInt] at *); omega) | ((try simp only [g_m1, Int32.lt_iff_toInt_lt, Int32.le_iff_toInt_le, ← Int32.toInt_inj, Int32.toInt_add, Int32.toInt_sub, Int32.toInt_mul, Int32.toInt_neg, Int32.reduceToInt, g_bm, g_bm'] at *); omega) | (have qr1 := g_rng x; have qr2 := g_rng y; have qr3 := g_rng z; have qr9 := g_rng r_66; (try simp only [g_m1, Int32.lt_iff_toInt_lt, Int32.le_iff_toInt_le, ← Int32.toInt_inj, Int32.toInt_add, Int32.toInt_sub, Int32.toInt_mul, Int32.toInt_neg, Int32.reduceToInt, g_bm, g_bm'] at *); omega) | (simp only [g_m1, Int32.lt_iff_toInt_lt, Int32.le_iff_toInt_le, ← Int32.toInt_inj, Int32.toInt_add, Int32.toInt_sub, Int32.toInt_mul, Int32.toInt_neg, Int32.reduceToInt, g_bm, g_bm'] at *; simp at *; omega) | (simp_all; done)
set_option maxHeartbeats 1000000 in
set_option maxRecDepth 100000 in
theorem g_X11_bonusesOf_k (l : Launch) (E : qE) (A : Nat → Prop) (u : qS) (x : Int32) (y : Int32) (z : Int32) (k : qS) (P : Nat → Int32) (hI : IC E u) (hk : CT k P u) (hca : t_ca k u) : Met l yX11_bonusesOf (uws yX11_bonusesOf cX11_bonusesOf 8 (some .int)) (qR 7 0 0) (qPc E A 0 u [.ref (E.2.2 1199), .int x, .int y, .int z]) (qQi E A 0 (fun r u1 => (qFc [900, 901, 902, 908, 909, 604, 605, 606, 607, 608, 609] [905, 906, 907, 601, 602, 603] [] [904, 5010, 5011, 5012, 5013, 5014] u u1 ∧ IC E u1) ∧ (t_ca k u1))) 0 0 A := by
  refine q_met (own := RX11) (f := 7) [.ref (E.2.2 1199), .int x, .int y, .int z] (by decide) (Nat.le_of_ble_eq_true rfl) rfl ?_
  intro p0 e0 s0 m0 bl0 me0 cd0 ls hF hr hlocks hU hS hA hl
  have hl : lv_has ls 8 [(0, .ref (E.2.2 1199)), (1, .int x), (2, .int y), (3, .int z)] := hl
  have hz8 : 0 ≤ u.1 8 ∧ u.1 8 ≤ 20 := hI.1.s8
  have hz9 : 0 ≤ u.1 9 ∧ u.1 9 ≤ 8 := hI.1.s9
  have hz10 : 0 ≤ u.1 10 ∧ u.1 10 ≤ 120 := hI.1.s10
  have hz12 : 0 ≤ u.1 12 ∧ u.1 12 ≤ 16 := hI.1.s12
  have hfr : qFc [900, 901, 902, 908, 909, 604, 605, 606, 607, 608, 609] [905, 906, 907, 601, 602, 603] [] [904, 5010, 5011, 5012, 5013, 5014] u u := qFc.rf
  have hCA := hca
  have main : ∀ n : Nat, (∀ (x4 : Int32) (x5 : Int32) (x6 : Int32) (uc : qS) (H : Heap) (locs : List Loc) (ls : Array Slot) (hfr : qFc [900, 901, 902, 908, 909, 604, 605, 606, 607, 608, 609] [905, 906, 907, 601, 602, 603] [] [904, 5010, 5011, 5012, 5013, 5014] u uc) (hI : IC E uc) (h_k : 0 ≤ x6) (h_j : x4 ≤ u.1 10) (h_ca : t_ca k uc), (x4.toInt - x6.toInt).toNat < n → qH E A 0 uc s0 H → va_S A s0.heap H locs → lv_has ls 8 [(0, .ref (E.2.2 1199)), (1, .int x), (2, .int y), (3, .int z), (4, .int x4), (5, .int x5), (6, .int x6)] → W p0 l e0 (qR 7 0 0) s0 m0 ([.ref (E.2.2 1199), .int x, .int y, .int z] : List Value).toArray bl0 me0 cd0 H locs 0 0 (MQ bl0 (qQi E A 0 (fun r u1 => (qFc [900, 901, 902, 908, 909, 604, 605, 606, 607, 608, 609] [905, 906, 907, 601, 602, 603] [] [904, 5010, 5011, 5012, 5013, 5014] u u1 ∧ IC E u1) ∧ (t_ca k u1))) ([.ref (E.2.2 1199), .int x, .int y, .int z] : List Value).toArray s0 0 0 A) (F0 m0 29 ls [])) := by
    clear hI hfr
    intro n
    induction n with
    | zero => exact fun _ _ _ _ _ _ _ _ _ _ _ _ hmu => absurd hmu (Nat.not_lt_zero _)
    | succ n ih =>
      intro x4 x5 x6 uc H locs ls hfr hI h_k h_j h_ca hmu hU hS hl
      have hCA := h_ca
      refine lv_iload hF.1 hF.2.1 dX11_bonusesOf_29 (lv_at hl 6 rfl) ?_
      refine lv_iload hF.1 hF.2.1 dX11_bonusesOf_31 (lv_at hl 4 rfl) ?_
      refine lv_icmp_ge (tgt := 105) hF.1 hF.2.1 dX11_bonusesOf_33 (by decide) (fun c33_1 => ?_) (fun c33_1 => ?_)
      · refine lv_iload hF.1 hF.2.1 dX11_bonusesOf_105 (lv_at hl 5 rfl) ?_
        exact q_iret hF hr rfl hlocks hU hS dX11_bonusesOf_107 ⟨⟨hfr, hI⟩, hCA⟩
      · refine lv_aload_n hF.1 hF.2.1 dX11_bonusesOf_36 rfl (lv_at hl 0 rfl) ?_
        refine q_get (v := .ref (E.2.2 99)) hF hU dX11_bonusesOf_37 0 11 0 1100 1199 rfl rfl rfl rfl inX11 (by decide) (by decide) w_436 rfl rfl ?_
        refine q_get (v := .ref (E.2.2 2)) hF hU dX11_bonusesOf_40 1 0 2 2 99 rfl rfl rfl rfl inX0 (by decide) (by decide) w_150 rfl rfl ?_
        refine lv_iload hF.1 hF.2.1 dX11_bonusesOf_43 (lv_at hl 6 rfl) ?_
        obtain ⟨a_2, ha_2_3_e, ha_2_3⟩ := hI.r2 x6 (by rw [(hfr.1 10 (by decide))]; exact (g_X11_bonusesOf_k_v0 u x y z k P x4 x5 x6 uc hk hca hz8 hz9 hz10 hz12 h_k h_j h_ca c33_1))
        refine q_aald (v := .ref a_2) hF hU dX11_bonusesOf_45 2 2 6 rfl rfl (by decide) rfl (g_X11_bonusesOf_k_v1 u k P x4 x6 uc hk hca hz8 hz9 hz10 hz12 h_k h_j h_ca c33_1) (by rw [ha_2_3_e]; rfl) ?_
        have hK_4 : qKn k uc a_2 x6 := (hk.fr hfr (by decide) (by decide)).va (by rw [(hfr.1 10 (by decide))]; exact (g_X11_bonusesOf_k_v2 u x y z k P x4 x5 x6 uc hk hca hz8 hz9 hz10 hz12 h_k h_j h_ca c33_1)) ha_2_3_e
        refine lv_astore (lv' := [(7, .ref a_2), (0, .ref (E.2.2 1199)), (1, .int x), (2, .int y), (3, .int z), (4, .int x4), (5, .int x5), (6, .int x6)]) hF.1 hF.2.1 dX11_bonusesOf_46 hl (by decide) rfl (fun ls hl => ?_)
        refine lv_aload hF.1 hF.2.1 dX11_bonusesOf_48 (lv_at hl 0 rfl) ?_
        have hM9 := g_X10_counts l E A uc a_2 hI ((ha_2_3).rf)
        obtain ⟨k_5, fs_6, hd_7⟩ := id ((ha_2_3).rf)
        have hR9 := q_runVd (l := l) (e := e0) (below := bl0) (meth := me0) (R := qR 7 0 0) (cells := 0) (slots := 0) (st0 := [.ref a_2]) (rest := []) hF hU hS hA 0 k_5 10 hd_7 rfl hM9 w_1176 w_908 w_909 w_110 w_910 (by decide +kernel) ⟨Nat.le_of_ble_eq_true rfl, Nat.le_of_ble_eq_true rfl⟩ dX11_bonusesOf_50 rfl hl.1 rfl (Nat.le_of_ble_eq_true rfl) ⟨Nat.le_of_ble_eq_true rfl, Nat.le_of_ble_eq_true rfl⟩
        refine q_calli hR9 hU.2.2.2 hS (fun r_10 u_8 H locs hw_9 hU hS => ?_)
        obtain ⟨hw_9_e, hw_9⟩ := hw_9
        rw [hw_9_e] at hU
        rcases hw_9 with rfl | rfl
        · refine lv_if_eq (tgt := 99) hF.1 hF.2.1 dX11_bonusesOf_53 (by decide) (fun h9 => absurd h9 (by decide)) (fun _ => ?_)
          refine lv_aload hF.1 hF.2.1 dX11_bonusesOf_56 (lv_at hl 0 rfl) ?_
          obtain ⟨k_12, fs_13, hd_14, hv_15⟩ := hK_4.at 4 (by decide) (by decide)
          refine q_getd (v := .int (k.2.1 1250 (x6 : Int32).toNatClampNeg)) hF hU dX11_bonusesOf_58 k_12 10 4 hd_14 rfl inX10 (by decide) w_604 rfl hv_15 ?_
          refine lv_iload_n hF.1 hF.2.1 dX11_bonusesOf_61 rfl (lv_at hl 3 rfl) ?_
          refine lv_iload_n hF.1 hF.2.1 dX11_bonusesOf_62 rfl (lv_at hl 4 rfl) ?_
          have hM9 := g_X11_isWithin l E A uc (k.2.1 1250 (x6 : Int32).toNatClampNeg) y z
          have hR9 := q_runS (l := l) (e := e0) (below := bl0) (meth := me0) (R := qR 7 0 0) (cells := 0) (slots := 0) (st0 := [.int z, .int y, .int (k.2.1 1250 (x6 : Int32).toNatClampNeg)]) (rest := []) hF hU hS hA 3 hM9 w_468 w_469 w_99 w_470 (by decide +kernel) ⟨Nat.le_of_ble_eq_true rfl, Nat.le_of_ble_eq_true rfl⟩ dX11_bonusesOf_63 rfl hl.1 rfl (Nat.le_of_ble_eq_true rfl) ⟨Nat.le_of_ble_eq_true rfl, Nat.le_of_ble_eq_true rfl⟩
          refine q_calli hR9 hU.2.2.2 hS (fun r_18 u_16 H locs hw_17 hU hS => ?_)
          obtain ⟨hw_17_e, hw_17⟩ := hw_17
          rw [hw_17_e] at hU
          have hw_17 : (r_18 = 1 ∧ (y ≤ (k.2.1 1250 (x6 : Int32).toNatClampNeg) ∧ (k.2.1 1250 (x6 : Int32).toNatClampNeg) ≤ z)) ∨ (r_18 = 0 ∧ (¬ (y ≤ (k.2.1 1250 (x6 : Int32).toNatClampNeg) ∧ (k.2.1 1250 (x6 : Int32).toNatClampNeg) ≤ z))) := hw_17
          rcases hw_17 with ⟨rfl, b63_19⟩ | ⟨rfl, b63_19⟩
          · refine lv_if_eq (tgt := 99) hF.1 hF.2.1 dX11_bonusesOf_66 (by decide) (fun h9 => absurd h9 (by decide)) (fun _ => ?_)
            refine lv_aload_n hF.1 hF.2.1 dX11_bonusesOf_69 rfl (lv_at hl 1 rfl) ?_
            refine q_get (v := .ref (E.2.2 99)) hF hU dX11_bonusesOf_70 0 11 0 1100 1199 rfl rfl rfl rfl inX11 (by decide) (by decide) w_436 rfl rfl ?_
            refine q_get (v := .ref (E.2.2 0)) hF hU dX11_bonusesOf_73 1 0 0 0 99 rfl rfl rfl rfl inX0 (by decide) (by decide) w_143 rfl rfl ?_
            refine lv_aload hF.1 hF.2.1 dX11_bonusesOf_76 (lv_at hl 0 rfl) ?_
            obtain ⟨k_20, fs_21, hd_22, hv_23⟩ := hK_4.at 2 (by decide) (by decide)
            refine q_getd (v := .int (k.2.1 1248 (x6 : Int32).toNatClampNeg)) hF hU dX11_bonusesOf_78 k_20 10 2 hd_22 rfl inX10 (by decide) w_593 rfl hv_23 ?_
            have hb_24 : 0 ≤ k.2.1 1248 (x6 : Int32).toNatClampNeg ∧ k.2.1 1248 (x6 : Int32).toNatClampNeg < (u.1 8) := (by have h9 := ((hk.fr hfr (by decide) (by decide)).b2 hK_4).1; rw [(hfr.1 8 (by decide))] at h9; exact h9)
            obtain ⟨a_25, ha_25_26_e, ha_25_26⟩ := hI.r0 (k.2.1 1248 (x6 : Int32).toNatClampNeg) (by rw [(hfr.1 8 (by decide))]; exact (g_X11_bonusesOf_k_v3 u x y z k P x4 x5 x6 uc hk hca hz8 hz9 hz10 hz12 h_k h_j h_ca c33_1 b63_19 hb_24))
            refine q_aald (v := .ref a_25) hF hU dX11_bonusesOf_81 0 0 4 rfl rfl (by decide) rfl (g_X11_bonusesOf_k_v4 u y z k P x4 x6 uc hk hca hz8 hz9 hz10 hz12 h_k h_j h_ca c33_1 b63_19 hb_24) (by rw [ha_25_26_e]; rfl) ?_
            have hK_27 : (qsd uc.2.2.2.2 a_25 1 = k.2.1 1235 (k.2.1 1248 (x6 : Int32).toNatClampNeg : Int32).toNatClampNeg ∧ qsd uc.2.2.2.2 a_25 2 = k.2.1 1236 (k.2.1 1248 (x6 : Int32).toNatClampNeg : Int32).toNatClampNeg ∧ qsd uc.2.2.2.2 a_25 3 = k.2.1 1237 (k.2.1 1248 (x6 : Int32).toNatClampNeg : Int32).toNatClampNeg) ∧ qpd uc.2.2.2.2 (qsp uc.2.2.2.2 a_25) 0 = k.2.1 1233 (k.2.1 1248 (x6 : Int32).toNatClampNeg : Int32).toNatClampNeg ∧ qpd uc.2.2.2.2 (qsp uc.2.2.2.2 a_25) 1 = k.2.1 1234 (k.2.1 1248 (x6 : Int32).toNatClampNeg : Int32).toNatClampNeg := (hk.fr hfr (by decide) (by decide)).sf (q_di hU) (by rw [(hfr.1 8 (by decide))]; exact (g_X11_bonusesOf_k_v5 u x y z k P x4 x5 x6 uc hk hca hz8 hz9 hz10 hz12 h_k h_j h_ca c33_1 b63_19 hb_24)) ha_25_26_e
            obtain ⟨k_28, fs_29, hd_31, hv_32⟩ := hI.snf ha_25_26 1 (by decide)
            refine q_getd (v := .int (qsd uc.2.2.2.2 a_25 1)) hF hU dX11_bonusesOf_82 k_28 7 1 hd_31 rfl inX7 (by decide) w_525 rfl hv_32 ?_
            refine lv_iload_n hF.1 hF.2.1 dX11_bonusesOf_85 rfl (lv_at hl 2 rfl) ?_
            refine lv_icmp_ne (tgt := 99) hF.1 hF.2.1 dX11_bonusesOf_86 (by decide) (fun c86_33 => ?_) (fun c86_33 => ?_)
            · refine lv_iinc (v := x6 + 1) (lv' := [(6, .int (x6 + 1)), (7, .ref a_2), (0, .ref (E.2.2 1199)), (1, .int x), (2, .int y), (3, .int z), (4, .int x4), (5, .int x5)]) hF.1 hF.2.1 dX11_bonusesOf_99 hl (k := 7) rfl rfl (by decide) rfl (fun ls hl => ?_)
              refine lv_goto (tgt := 29) hF.1 hF.2.1 dX11_bonusesOf_102 (by decide) ?_
              exact ih x4 x5 (x6 + 1) uc _ _ _ hfr hI  (g_X11_bonusesOf_k_v6 u x y z k P x4 x5 x6 uc a_25 hk hca hz8 hz9 hz10 hz12 h_k h_j h_ca c33_1 b63_19 hb_24 hK_27 c86_33) (g_X11_bonusesOf_k_v7 u x y z k P x4 x5 x6 uc a_25 hk hca hz8 hz9 hz10 hz12 h_k h_j h_ca c33_1 b63_19 hb_24 hK_27 c86_33) hCA (Nat.lt_of_lt_of_le (g_X11_bonusesOf_k_v8 u x y z k P x4 x5 x6 uc a_25 hk hca hz8 hz9 hz10 hz12 h_k h_j h_ca c33_1 b63_19 hb_24 hK_27 c86_33) (Nat.lt_succ_iff.mp hmu)) hU hS (lv_sub hl [2, 3, 4, 5, 6, 7, 0] rfl)
            · refine lv_iload hF.1 hF.2.1 dX11_bonusesOf_89 (lv_at hl 6 rfl) ?_
              refine lv_aload hF.1 hF.2.1 dX11_bonusesOf_91 (lv_at hl 0 rfl) ?_
              obtain ⟨k_34, fs_35, hd_37, hv_38, hv_38_2, hv_38_3, -⟩ := hI.vf ((ha_2_3).rf) 12 (by decide)
              refine q_getd (v := .int (qfd uc.2.2.2.2 a_2 12)) hF hU dX11_bonusesOf_93 k_34 10 12 hd_37 rfl inX10 (by decide) w_628 rfl hv_38 ?_
              refine lv_iadd hF.1 hF.2.1 dX11_bonusesOf_96 ?_
              refine lv_istore (lv' := [(5, .int (x5 + (qfd uc.2.2.2.2 a_2 12))), (7, .ref a_2), (0, .ref (E.2.2 1199)), (1, .int x), (2, .int y), (3, .int z), (4, .int x4), (6, .int x6)]) hF.1 hF.2.1 dX11_bonusesOf_97 hl (by decide) rfl (fun ls hl => ?_)
              refine lv_iinc (v := x6 + 1) (lv' := [(6, .int (x6 + 1)), (5, .int (x5 + (qfd uc.2.2.2.2 a_2 12))), (7, .ref a_2), (0, .ref (E.2.2 1199)), (1, .int x), (2, .int y), (3, .int z), (4, .int x4)]) hF.1 hF.2.1 dX11_bonusesOf_99 hl (k := 7) rfl rfl (by decide) rfl (fun ls hl => ?_)
              refine lv_goto (tgt := 29) hF.1 hF.2.1 dX11_bonusesOf_102 (by decide) ?_
              exact ih x4 (x5 + (qfd uc.2.2.2.2 a_2 12)) (x6 + 1) uc _ _ _ hfr hI  (g_X11_bonusesOf_k_v9 u x y z k P x4 x5 x6 uc a_25 hk hca hz8 hz9 hz10 hz12 h_k h_j h_ca c33_1 b63_19 hb_24 hK_27 c86_33) (g_X11_bonusesOf_k_v10 u x y z k P x4 x5 x6 uc a_25 hk hca hz8 hz9 hz10 hz12 h_k h_j h_ca c33_1 b63_19 hb_24 hK_27 c86_33) hCA (Nat.lt_of_lt_of_le (g_X11_bonusesOf_k_v11 u x y z k P x4 x5 x6 uc a_25 hk hca hz8 hz9 hz10 hz12 h_k h_j h_ca c33_1 b63_19 hb_24 hK_27 c86_33) (Nat.lt_succ_iff.mp hmu)) hU hS (lv_sub hl [3, 4, 5, 6, 7, 1, 0] rfl)
          · refine lv_if_eq (tgt := 99) hF.1 hF.2.1 dX11_bonusesOf_66 (by decide) (fun _ => ?_) (fun h9 => absurd (by decide) h9)
            refine lv_iinc (v := x6 + 1) (lv' := [(6, .int (x6 + 1)), (7, .ref a_2), (0, .ref (E.2.2 1199)), (1, .int x), (2, .int y), (3, .int z), (4, .int x4), (5, .int x5)]) hF.1 hF.2.1 dX11_bonusesOf_99 hl (k := 7) rfl rfl (by decide) rfl (fun ls hl => ?_)
            refine lv_goto (tgt := 29) hF.1 hF.2.1 dX11_bonusesOf_102 (by decide) ?_
            exact ih x4 x5 (x6 + 1) uc _ _ _ hfr hI  (g_X11_bonusesOf_k_v12 u x y z k P x4 x5 x6 uc hk hca hz8 hz9 hz10 hz12 h_k h_j h_ca c33_1 b63_19) (g_X11_bonusesOf_k_v13 u x y z k P x4 x5 x6 uc hk hca hz8 hz9 hz10 hz12 h_k h_j h_ca c33_1 b63_19) hCA (Nat.lt_of_lt_of_le (g_X11_bonusesOf_k_v14 u x y z k P x4 x5 x6 uc hk hca hz8 hz9 hz10 hz12 h_k h_j h_ca c33_1 b63_19) (Nat.lt_succ_iff.mp hmu)) hU hS (lv_sub hl [2, 3, 4, 5, 6, 7, 0] rfl)
        · refine lv_if_eq (tgt := 99) hF.1 hF.2.1 dX11_bonusesOf_53 (by decide) (fun _ => ?_) (fun h9 => absurd (by decide) h9)
          refine lv_iinc (v := x6 + 1) (lv' := [(6, .int (x6 + 1)), (7, .ref a_2), (0, .ref (E.2.2 1199)), (1, .int x), (2, .int y), (3, .int z), (4, .int x4), (5, .int x5)]) hF.1 hF.2.1 dX11_bonusesOf_99 hl (k := 7) rfl rfl (by decide) rfl (fun ls hl => ?_)
          refine lv_goto (tgt := 29) hF.1 hF.2.1 dX11_bonusesOf_102 (by decide) ?_
          exact ih x4 x5 (x6 + 1) uc _ _ _ hfr hI  (g_X11_bonusesOf_k_v15 u x y z k P x4 x5 x6 uc hk hca hz8 hz9 hz10 hz12 h_k h_j h_ca c33_1) (g_X11_bonusesOf_k_v16 u x y z k P x4 x5 x6 uc hk hca hz8 hz9 hz10 hz12 h_k h_j h_ca c33_1) hCA (Nat.lt_of_lt_of_le (g_X11_bonusesOf_k_v17 u x y z k P x4 x5 x6 uc hk hca hz8 hz9 hz10 hz12 h_k h_j h_ca c33_1) (Nat.lt_succ_iff.mp hmu)) hU hS (lv_sub hl [2, 3, 4, 5, 6, 7, 0] rfl)
  refine lv_aload_n hF.1 hF.2.1 dX11_bonusesOf_0 rfl (lv_at hl 0 rfl) ?_
  refine q_get (v := .ref (E.2.2 999)) hF hU dX11_bonusesOf_1 0 11 3 1103 1199 rfl rfl rfl rfl inX11 (by decide) (by decide) w_439 rfl rfl ?_
  have hM9 := g_X9_refresh_k l E A u k P hI hk hCA.1
  have hR9 := q_runV (l := l) (e := e0) (below := bl0) (meth := me0) (R := qR 7 0 0) (cells := 0) (slots := 0) (st0 := [.ref (E.2.2 999)]) (rest := []) hF hU hS hA 0 4 9 999 rfl rfl rfl hM9 w_843 w_844 w_845 w_103 w_846 (by decide +kernel) ⟨Nat.le_of_ble_eq_true rfl, Nat.le_of_ble_eq_true rfl⟩ dX11_bonusesOf_4 rfl hl.1 rfl (Nat.le_of_ble_eq_true rfl) ⟨Nat.le_of_ble_eq_true rfl, Nat.le_of_ble_eq_true rfl⟩
  refine q_callv hR9 hU.2.2.2 hS (fun u_39 H locs hw_40 hU hS => ?_)
  obtain ⟨⟨hw_40_f, hI⟩, hw_40⟩ := hw_40
  have hfo := hfr
  have hfr : qFc [900, 901, 902, 908, 909, 604, 605, 606, 607, 608, 609] [905, 906, 907, 601, 602, 603] [] [904, 5010, 5011, 5012, 5013, 5014] u u_39 := hfr.trans (hw_40_f.mono (by decide) (by decide) (by decide) (by decide))
  have e_42 : u_39.1 604 = (u.1 604) := (hw_40_f.1 604 (by decide)).trans rfl
  have e_43 : u_39.1 605 = (u.1 605) := (hw_40_f.1 605 (by decide)).trans rfl
  have e_44 : u_39.1 606 = (u.1 606) := (hw_40_f.1 606 (by decide)).trans rfl
  have e_45 : u_39.1 607 = (u.1 607) := (hw_40_f.1 607 (by decide)).trans rfl
  have e_46 : u_39.1 608 = (u.1 608) := (hw_40_f.1 608 (by decide)).trans rfl
  have e_47 : u_39.1 609 = (u.1 609) := (hw_40_f.1 609 (by decide)).trans rfl
  have e_48 : u_39.2.1 601 = (u.2.1 601) := (hw_40_f.2.1 601 (by decide)).trans rfl
  have e_49 : u_39.2.1 602 = (u.2.1 602) := (hw_40_f.2.1 602 (by decide)).trans rfl
  have e_50 : u_39.2.1 603 = (u.2.1 603) := (hw_40_f.2.1 603 (by decide)).trans rfl
  obtain ⟨S_51, hST, hq_52⟩ := hw_40
  have hCA : t_ca k u_39 := hCA.tr hw_40_f hST hq_52.1 hq_52.2 (by decide) (by decide) (by decide)
  have hq_52 : f_fi (k) S_51 ∧ u_39.1 909 = u.1 18 := hq_52
  refine lv_aload_n hF.1 hF.2.1 dX11_bonusesOf_7 rfl (lv_at hl 0 rfl) ?_
  refine q_get (v := .ref (E.2.2 699)) hF hU dX11_bonusesOf_8 0 11 4 1104 1199 rfl rfl rfl rfl inX11 (by decide) (by decide) w_440 rfl rfl ?_
  have hM9 := g_X6_refresh_k l E A u_39  hI
  have hR9 := q_runV (l := l) (e := e0) (below := bl0) (meth := me0) (R := qR 7 0 0) (cells := 0) (slots := 0) (st0 := [.ref (E.2.2 699)]) (rest := []) hF hU hS hA 0 5 6 699 rfl rfl rfl hM9 w_1162 w_937 w_938 w_104 w_939 (by decide +kernel) ⟨Nat.le_of_ble_eq_true rfl, Nat.le_of_ble_eq_true rfl⟩ dX11_bonusesOf_11 rfl hl.1 rfl (Nat.le_of_ble_eq_true rfl) ⟨Nat.le_of_ble_eq_true rfl, Nat.le_of_ble_eq_true rfl⟩
  refine q_callv hR9 hU.2.2.2 hS (fun u_53 H locs hw_54 hU hS => ?_)
  obtain ⟨⟨hw_54_f, hI⟩, hw_54⟩ := hw_54
  have hfo := hfr
  have hfr : qFc [900, 901, 902, 908, 909, 604, 605, 606, 607, 608, 609] [905, 906, 907, 601, 602, 603] [] [904, 5010, 5011, 5012, 5013, 5014] u u_53 := hfr.trans (hw_54_f.mono (by decide) (by decide) (by decide) (by decide))
  have e_56 : u_53.1 900 = (u_39.1 900) := (hw_54_f.1 900 (by decide)).trans rfl
  have e_57 : u_53.1 901 = (u_39.1 901) := (hw_54_f.1 901 (by decide)).trans rfl
  have e_58 : u_53.1 902 = (u_39.1 902) := (hw_54_f.1 902 (by decide)).trans rfl
  have e_59 : u_53.1 908 = (u_39.1 908) := (hw_54_f.1 908 (by decide)).trans rfl
  have e_60 : u_53.1 909 = (u_39.1 909) := (hw_54_f.1 909 (by decide)).trans rfl
  have e_61 : u_53.2.1 905 = (u_39.2.1 905) := (hw_54_f.2.1 905 (by decide)).trans rfl
  have e_62 : u_53.2.1 906 = (u_39.2.1 906) := (hw_54_f.2.1 906 (by decide)).trans rfl
  have e_63 : u_53.2.1 907 = (u_39.2.1 907) := (hw_54_f.2.1 907 (by decide)).trans rfl
  have hST : qFD 10 S_51 u_53 := hST.fr hw_54_f (by decide) (by decide) (by decide) (by decide) (by decide)
  have hCA : t_ca k u_53 := hCA.sc hw_54_f hw_54.1 hw_54.2 (by decide) (by decide) (by decide)
  refine lv_aload_n hF.1 hF.2.1 dX11_bonusesOf_14 rfl (lv_at hl 0 rfl) ?_
  refine q_get (v := .ref (E.2.2 99)) hF hU dX11_bonusesOf_15 0 11 0 1100 1199 rfl rfl rfl rfl inX11 (by decide) (by decide) w_436 rfl rfl ?_
  have hM9 := g_X0_knownVisits l E A u_53  hI
  have hR9 := q_runV (l := l) (e := e0) (below := bl0) (meth := me0) (R := qR 7 0 0) (cells := 0) (slots := 0) (st0 := [.ref (E.2.2 99)]) (rest := []) hF hU hS hA 0 1 0 99 rfl rfl rfl hM9 w_1175 w_903 w_904 w_100 w_905 (by decide +kernel) ⟨Nat.le_of_ble_eq_true rfl, Nat.le_of_ble_eq_true rfl⟩ dX11_bonusesOf_18 rfl hl.1 rfl (Nat.le_of_ble_eq_true rfl) ⟨Nat.le_of_ble_eq_true rfl, Nat.le_of_ble_eq_true rfl⟩
  refine q_calli hR9 hU.2.2.2 hS (fun r_66 u_64 H locs hw_65 hU hS => ?_)
  obtain ⟨hw_65_e, hw_65⟩ := hw_65
  rw [hw_65_e] at hU
  have hw_65 : 0 ≤ r_66 ∧ r_66 ≤ (u.1 10 : Int32) := by rw [(hfr.1 10 (by decide))] at hw_65; exact hw_65
  refine lv_istore (lv' := [(4, .int r_66), (0, .ref (E.2.2 1199)), (1, .int x), (2, .int y), (3, .int z)]) hF.1 hF.2.1 dX11_bonusesOf_21 hl (by decide) rfl (fun ls hl => ?_)
  refine lv_iconst (v := 0) hF.1 hF.2.1 dX11_bonusesOf_23 (by decide) ?_
  refine lv_istore (lv' := [(5, .int 0), (4, .int r_66), (0, .ref (E.2.2 1199)), (1, .int x), (2, .int y), (3, .int z)]) hF.1 hF.2.1 dX11_bonusesOf_24 hl (by decide) rfl (fun ls hl => ?_)
  refine lv_iconst (v := 0) hF.1 hF.2.1 dX11_bonusesOf_26 (by decide) ?_
  refine lv_istore (lv' := [(6, .int 0), (5, .int 0), (4, .int r_66), (0, .ref (E.2.2 1199)), (1, .int x), (2, .int y), (3, .int z)]) hF.1 hF.2.1 dX11_bonusesOf_27 hl (by decide) rfl (fun ls hl => ?_)
  exact (main _) r_66 (0 : Int32) (0 : Int32) u_53 _ _ _ hfr hI  (g_X11_bonusesOf_k_v18 u x y z k P u_39 S_51 r_66 hk hca hz8 hz9 hz10 hz12 hq_52 hw_65) (g_X11_bonusesOf_k_v19 u x y z k P u_39 S_51 r_66 hk hca hz8 hz9 hz10 hz12 hq_52 hw_65) hCA (Nat.lt_succ_self _) hU hS (lv_sub hl [3, 4, 5, 6, 2, 1, 0] rfl)
set_option maxRecDepth 100000 in
theorem g_X11_feesOf_k_v0 (u : qS) (x : Int32) (y : Int32) (z : Int32) (k : qS) (P : Nat → Int32) (x4 : Int32) (x5 : Int32) (x6 : Int32) (uc : qS) (hk : CT k P u) (hca : t_ca k u) (hx : 0 ≤ x ∧ x < u.1 9) (hz8 : 0 ≤ u.1 8 ∧ u.1 8 ≤ 20) (hz9 : 0 ≤ u.1 9 ∧ u.1 9 ≤ 8) (hz10 : 0 ≤ u.1 10 ∧ u.1 10 ≤ 120) (hz12 : 0 ≤ u.1 12 ∧ u.1 12 ≤ 16) (h_k : 0 ≤ x6) (h_j : x4 ≤ u.1 10) (h_ca : t_ca k uc) (c26_1 : ¬ x4 ≤ (x6 : Int32)) : 0 ≤ x6 ∧ x6 < (u.1 10) := by
  first | omega | ((try simp only [g_m1, Int32.lt_iff_toInt_lt, Int32.le_iff_toInt_le, ← Int32.toInt_inj, Int32.reduceToInt] at *); omega) | ((try simp only [g_m1, Int32.lt_iff_toInt_lt, Int32.le_iff_toInt_le, ← Int32.toInt_inj, Int32.reduceToInt] at *); omega) | ((try simp only [g_m1, Int32.lt_iff_toInt_lt, Int32.le_iff_toInt_le, ← Int32.toInt_inj, Int32.toInt_add, Int32.toInt_sub, Int32.toInt_mul, Int32.toInt_neg, Int32.reduceToInt, g_bm, g_bm'] at *); omega) | (have qr1 := g_rng x; have qr2 := g_rng y; have qr3 := g_rng z; have qr6 := g_rng x4; have qr7 := g_rng x5; have qr8 := g_rng x6; (try simp only [g_m1, Int32.lt_iff_toInt_lt, Int32.le_iff_toInt_le, ← Int32.toInt_inj, Int32.toInt_add, Int32.toInt_sub, Int32.toInt_mul, Int32.toInt_neg, Int32.reduceToInt, g_bm, g_bm'] at *); omega) | (simp only [g_m1, Int32.lt_iff_toInt_lt, Int32.le_iff_toInt_le, ← Int32.toInt_inj, Int32.toInt_add, Int32.toInt_sub, Int32.toInt_mul, Int32.toInt_neg, Int32.reduceToInt, g_bm, g_bm'] at *; simp at *; omega) | (simp_all; done)
set_option maxRecDepth 100000 in
theorem g_X11_feesOf_k_v1 (u : qS) (x : Int32) (k : qS) (P : Nat → Int32) (x4 : Int32) (x6 : Int32) (uc : qS) (hk : CT k P u) (hca : t_ca k u) (hx : 0 ≤ x ∧ x < u.1 9) (hz8 : 0 ≤ u.1 8 ∧ u.1 8 ≤ 20) (hz9 : 0 ≤ u.1 9 ∧ u.1 9 ≤ 8) (hz10 : 0 ≤ u.1 10 ∧ u.1 10 ≤ 120) (hz12 : 0 ≤ u.1 12 ∧ u.1 12 ≤ 16) (h_k : 0 ≤ x6) (h_j : x4 ≤ u.1 10) (h_ca : t_ca k uc) (c26_1 : ¬ x4 ≤ (x6 : Int32)) : vp_in (x6) 120 := by
  refine g_in ?_ ?_ <;> ((try simp only [g_m1, Int32.lt_iff_toInt_lt, Int32.le_iff_toInt_le, ← Int32.toInt_inj, Int32.toInt_add, Int32.toInt_sub, Int32.toInt_mul, Int32.toInt_neg, Int32.reduceToInt, g_bm, g_bm'] at *); omega)
set_option maxRecDepth 100000 in
theorem g_X11_feesOf_k_v2 (u : qS) (x : Int32) (y : Int32) (z : Int32) (k : qS) (P : Nat → Int32) (x4 : Int32) (x5 : Int32) (x6 : Int32) (uc : qS) (hk : CT k P u) (hca : t_ca k u) (hx : 0 ≤ x ∧ x < u.1 9) (hz8 : 0 ≤ u.1 8 ∧ u.1 8 ≤ 20) (hz9 : 0 ≤ u.1 9 ∧ u.1 9 ≤ 8) (hz10 : 0 ≤ u.1 10 ∧ u.1 10 ≤ 120) (hz12 : 0 ≤ u.1 12 ∧ u.1 12 ≤ 16) (h_k : 0 ≤ x6) (h_j : x4 ≤ u.1 10) (h_ca : t_ca k uc) (c26_1 : ¬ x4 ≤ (x6 : Int32)) : 0 ≤ x6 ∧ x6 < (u.1 10) := by
  first | omega | ((try simp only [g_m1, Int32.lt_iff_toInt_lt, Int32.le_iff_toInt_le, ← Int32.toInt_inj, Int32.reduceToInt] at *); omega) | ((try simp only [g_m1, Int32.lt_iff_toInt_lt, Int32.le_iff_toInt_le, ← Int32.toInt_inj, Int32.reduceToInt] at *); omega) | ((try simp only [g_m1, Int32.lt_iff_toInt_lt, Int32.le_iff_toInt_le, ← Int32.toInt_inj, Int32.toInt_add, Int32.toInt_sub, Int32.toInt_mul, Int32.toInt_neg, Int32.reduceToInt, g_bm, g_bm'] at *); omega) | (have qr1 := g_rng x; have qr2 := g_rng y; have qr3 := g_rng z; have qr6 := g_rng x4; have qr7 := g_rng x5; have qr8 := g_rng x6; (try simp only [g_m1, Int32.lt_iff_toInt_lt, Int32.le_iff_toInt_le, ← Int32.toInt_inj, Int32.toInt_add, Int32.toInt_sub, Int32.toInt_mul, Int32.toInt_neg, Int32.reduceToInt, g_bm, g_bm'] at *); omega) | (simp only [g_m1, Int32.lt_iff_toInt_lt, Int32.le_iff_toInt_le, ← Int32.toInt_inj, Int32.toInt_add, Int32.toInt_sub, Int32.toInt_mul, Int32.toInt_neg, Int32.reduceToInt, g_bm, g_bm'] at *; simp at *; omega) | (simp_all; done)
set_option maxRecDepth 100000 in
theorem g_X11_feesOf_k_v3 (u : qS) (x : Int32) (y : Int32) (z : Int32) (k : qS) (P : Nat → Int32) (x4 : Int32) (x5 : Int32) (x6 : Int32) (uc : qS) (hk : CT k P u) (hca : t_ca k u) (hx : 0 ≤ x ∧ x < u.1 9) (hz8 : 0 ≤ u.1 8 ∧ u.1 8 ≤ 20) (hz9 : 0 ≤ u.1 9 ∧ u.1 9 ≤ 8) (hz10 : 0 ≤ u.1 10 ∧ u.1 10 ≤ 120) (hz12 : 0 ≤ u.1 12 ∧ u.1 12 ≤ 16) (h_k : 0 ≤ x6) (h_j : x4 ≤ u.1 10) (h_ca : t_ca k uc) (c26_1 : ¬ x4 ≤ (x6 : Int32)) (b56_19 : y ≤ (k.2.1 1250 (x6 : Int32).toNatClampNeg) ∧ (k.2.1 1250 (x6 : Int32).toNatClampNeg) ≤ z) (hb_24 : 0 ≤ k.2.1 1249 (x6 : Int32).toNatClampNeg ∧ k.2.1 1249 (x6 : Int32).toNatClampNeg < (u.1 9)) (c68_25 : ¬ (k.2.1 1249 (x6 : Int32).toNatClampNeg : Int32) = x) : 0 ≤ (x6 + 1) := by
  first | omega | ((try simp only [g_m1, Int32.lt_iff_toInt_lt, Int32.le_iff_toInt_le, ← Int32.toInt_inj, Int32.reduceToInt] at *); omega) | ((try have ez0 : (x6 + 1 : Int32).toInt = (x6 : Int32).toInt + (1 : Int32).toInt := g_add (by (try simp only [g_m1, Int32.lt_iff_toInt_lt, Int32.le_iff_toInt_le, ← Int32.toInt_inj, Int32.reduceToInt] at *); omega) (by (try simp only [g_m1, Int32.lt_iff_toInt_lt, Int32.le_iff_toInt_le, ← Int32.toInt_inj, Int32.reduceToInt] at *); omega)); (try simp only [g_m1, Int32.lt_iff_toInt_lt, Int32.le_iff_toInt_le, ← Int32.toInt_inj, Int32.reduceToInt] at *); omega) | ((try simp only [g_m1, Int32.lt_iff_toInt_lt, Int32.le_iff_toInt_le, ← Int32.toInt_inj, Int32.toInt_add, Int32.toInt_sub, Int32.toInt_mul, Int32.toInt_neg, Int32.reduceToInt, g_bm, g_bm'] at *); omega) | (have qr1 := g_rng x; have qr2 := g_rng y; have qr3 := g_rng z; have qr6 := g_rng x4; have qr7 := g_rng x5; have qr8 := g_rng x6; (try simp only [g_m1, Int32.lt_iff_toInt_lt, Int32.le_iff_toInt_le, ← Int32.toInt_inj, Int32.toInt_add, Int32.toInt_sub, Int32.toInt_mul, Int32.toInt_neg, Int32.reduceToInt, g_bm, g_bm'] at *); omega) | (simp only [g_m1, Int32.lt_iff_toInt_lt, Int32.le_iff_toInt_le, ← Int32.toInt_inj, Int32.toInt_add, Int32.toInt_sub, Int32.toInt_mul, Int32.toInt_neg, Int32.reduceToInt, g_bm, g_bm'] at *; simp at *; omega) | (simp_all; done)
set_option maxRecDepth 100000 in
theorem g_X11_feesOf_k_v4 (u : qS) (x : Int32) (y : Int32) (z : Int32) (k : qS) (P : Nat → Int32) (x4 : Int32) (x5 : Int32) (x6 : Int32) (uc : qS) (hk : CT k P u) (hca : t_ca k u) (hx : 0 ≤ x ∧ x < u.1 9) (hz8 : 0 ≤ u.1 8 ∧ u.1 8 ≤ 20) (hz9 : 0 ≤ u.1 9 ∧ u.1 9 ≤ 8) (hz10 : 0 ≤ u.1 10 ∧ u.1 10 ≤ 120) (hz12 : 0 ≤ u.1 12 ∧ u.1 12 ≤ 16) (h_k : 0 ≤ x6) (h_j : x4 ≤ u.1 10) (h_ca : t_ca k uc) (c26_1 : ¬ x4 ≤ (x6 : Int32)) (b56_19 : y ≤ (k.2.1 1250 (x6 : Int32).toNatClampNeg) ∧ (k.2.1 1250 (x6 : Int32).toNatClampNeg) ≤ z) (hb_24 : 0 ≤ k.2.1 1249 (x6 : Int32).toNatClampNeg ∧ k.2.1 1249 (x6 : Int32).toNatClampNeg < (u.1 9)) (c68_25 : ¬ (k.2.1 1249 (x6 : Int32).toNatClampNeg : Int32) = x) : x4 ≤ u.1 10 := by
  first | omega | ((try simp only [g_m1, Int32.lt_iff_toInt_lt, Int32.le_iff_toInt_le, ← Int32.toInt_inj, Int32.reduceToInt] at *); omega) | ((try simp only [g_m1, Int32.lt_iff_toInt_lt, Int32.le_iff_toInt_le, ← Int32.toInt_inj, Int32.reduceToInt] at *); omega) | ((try simp only [g_m1, Int32.lt_iff_toInt_lt, Int32.le_iff_toInt_le, ← Int32.toInt_inj, Int32.toInt_add, Int32.toInt_sub, Int32.toInt_mul, Int32.toInt_neg, Int32.reduceToInt, g_bm, g_bm'] at *); omega) | (have qr1 := g_rng x; have qr2 := g_rng y; have qr3 := g_rng z; have qr6 := g_rng x4; have qr7 := g_rng x5; have qr8 := g_rng x6; (try simp only [g_m1, Int32.lt_iff_toInt_lt, Int32.le_iff_toInt_le, ← Int32.toInt_inj, Int32.toInt_add, Int32.toInt_sub, Int32.toInt_mul, Int32.toInt_neg, Int32.reduceToInt, g_bm, g_bm'] at *); omega) | (simp only [g_m1, Int32.lt_iff_toInt_lt, Int32.le_iff_toInt_le, ← Int32.toInt_inj, Int32.toInt_add, Int32.toInt_sub, Int32.toInt_mul, Int32.toInt_neg, Int32.reduceToInt, g_bm, g_bm'] at *; simp at *; omega) | (simp_all; done)
set_option maxRecDepth 100000 in
theorem g_X11_feesOf_k_v5 (u : qS) (x : Int32) (y : Int32) (z : Int32) (k : qS) (P : Nat → Int32) (x4 : Int32) (x5 : Int32) (x6 : Int32) (uc : qS) (hk : CT k P u) (hca : t_ca k u) (hx : 0 ≤ x ∧ x < u.1 9) (hz8 : 0 ≤ u.1 8 ∧ u.1 8 ≤ 20) (hz9 : 0 ≤ u.1 9 ∧ u.1 9 ≤ 8) (hz10 : 0 ≤ u.1 10 ∧ u.1 10 ≤ 120) (hz12 : 0 ≤ u.1 12 ∧ u.1 12 ≤ 16) (h_k : 0 ≤ x6) (h_j : x4 ≤ u.1 10) (h_ca : t_ca k uc) (c26_1 : ¬ x4 ≤ (x6 : Int32)) (b56_19 : y ≤ (k.2.1 1250 (x6 : Int32).toNatClampNeg) ∧ (k.2.1 1250 (x6 : Int32).toNatClampNeg) ≤ z) (hb_24 : 0 ≤ k.2.1 1249 (x6 : Int32).toNatClampNeg ∧ k.2.1 1249 (x6 : Int32).toNatClampNeg < (u.1 9)) (c68_25 : ¬ (k.2.1 1249 (x6 : Int32).toNatClampNeg : Int32) = x) : (x4.toInt - (x6 + 1).toInt).toNat < (x4.toInt - x6.toInt).toNat := by
  first | omega | ((try simp only [g_m1, Int32.lt_iff_toInt_lt, Int32.le_iff_toInt_le, ← Int32.toInt_inj, Int32.reduceToInt] at *); omega) | ((try have ez0 : (x6 + 1 : Int32).toInt = (x6 : Int32).toInt + (1 : Int32).toInt := g_add (by (try simp only [g_m1, Int32.lt_iff_toInt_lt, Int32.le_iff_toInt_le, ← Int32.toInt_inj, Int32.reduceToInt] at *); omega) (by (try simp only [g_m1, Int32.lt_iff_toInt_lt, Int32.le_iff_toInt_le, ← Int32.toInt_inj, Int32.reduceToInt] at *); omega)); (try simp only [g_m1, Int32.lt_iff_toInt_lt, Int32.le_iff_toInt_le, ← Int32.toInt_inj, Int32.reduceToInt] at *); omega) | ((try simp only [g_m1, Int32.lt_iff_toInt_lt, Int32.le_iff_toInt_le, ← Int32.toInt_inj, Int32.toInt_add, Int32.toInt_sub, Int32.toInt_mul, Int32.toInt_neg, Int32.reduceToInt, g_bm, g_bm'] at *); omega) | (have qr1 := g_rng x; have qr2 := g_rng y; have qr3 := g_rng z; have qr6 := g_rng x4; have qr7 := g_rng x5; have qr8 := g_rng x6; (try simp only [g_m1, Int32.lt_iff_toInt_lt, Int32.le_iff_toInt_le, ← Int32.toInt_inj, Int32.toInt_add, Int32.toInt_sub, Int32.toInt_mul, Int32.toInt_neg, Int32.reduceToInt, g_bm, g_bm'] at *); omega) | (simp only [g_m1, Int32.lt_iff_toInt_lt, Int32.le_iff_toInt_le, ← Int32.toInt_inj, Int32.toInt_add, Int32.toInt_sub, Int32.toInt_mul, Int32.toInt_neg, Int32.reduceToInt, g_bm, g_bm'] at *; simp at *; omega) | (simp_all; done)
set_option maxRecDepth 100000 in
theorem g_X11_feesOf_k_v6 (u : qS) (x : Int32) (y : Int32) (z : Int32) (k : qS) (P : Nat → Int32) (x4 : Int32) (x5 : Int32) (x6 : Int32) (uc : qS) (hk : CT k P u) (hca : t_ca k u) (hx : 0 ≤ x ∧ x < u.1 9) (hz8 : 0 ≤ u.1 8 ∧ u.1 8 ≤ 20) (hz9 : 0 ≤ u.1 9 ∧ u.1 9 ≤ 8) (hz10 : 0 ≤ u.1 10 ∧ u.1 10 ≤ 120) (hz12 : 0 ≤ u.1 12 ∧ u.1 12 ≤ 16) (h_k : 0 ≤ x6) (h_j : x4 ≤ u.1 10) (h_ca : t_ca k uc) (c26_1 : ¬ x4 ≤ (x6 : Int32)) (b56_19 : y ≤ (k.2.1 1250 (x6 : Int32).toNatClampNeg) ∧ (k.2.1 1250 (x6 : Int32).toNatClampNeg) ≤ z) (hb_24 : 0 ≤ k.2.1 1249 (x6 : Int32).toNatClampNeg ∧ k.2.1 1249 (x6 : Int32).toNatClampNeg < (u.1 9)) (c68_25 : (k.2.1 1249 (x6 : Int32).toNatClampNeg : Int32) = x) (hb_30 : 0 ≤ k.2.1 1248 (x6 : Int32).toNatClampNeg ∧ k.2.1 1248 (x6 : Int32).toNatClampNeg < (u.1 8)) : 0 ≤ x ∧ x < (u.1 9 : Int32) := by
  first | omega | ((try simp only [g_m1, Int32.lt_iff_toInt_lt, Int32.le_iff_toInt_le, ← Int32.toInt_inj, Int32.reduceToInt] at *); omega) | ((try simp only [g_m1, Int32.lt_iff_toInt_lt, Int32.le_iff_toInt_le, ← Int32.toInt_inj, Int32.reduceToInt] at *); omega) | ((try simp only [g_m1, Int32.lt_iff_toInt_lt, Int32.le_iff_toInt_le, ← Int32.toInt_inj, Int32.toInt_add, Int32.toInt_sub, Int32.toInt_mul, Int32.toInt_neg, Int32.reduceToInt, g_bm, g_bm'] at *); omega) | (have qr1 := g_rng x; have qr2 := g_rng y; have qr3 := g_rng z; have qr6 := g_rng x4; have qr7 := g_rng x5; have qr8 := g_rng x6; (try simp only [g_m1, Int32.lt_iff_toInt_lt, Int32.le_iff_toInt_le, ← Int32.toInt_inj, Int32.toInt_add, Int32.toInt_sub, Int32.toInt_mul, Int32.toInt_neg, Int32.reduceToInt, g_bm, g_bm'] at *); omega) | (simp only [g_m1, Int32.lt_iff_toInt_lt, Int32.le_iff_toInt_le, ← Int32.toInt_inj, Int32.toInt_add, Int32.toInt_sub, Int32.toInt_mul, Int32.toInt_neg, Int32.reduceToInt, g_bm, g_bm'] at *; simp at *; omega) | (simp_all; done)
set_option maxRecDepth 100000 in
theorem g_X11_feesOf_k_v7 (u : qS) (x : Int32) (y : Int32) (z : Int32) (k : qS) (P : Nat → Int32) (x4 : Int32) (x5 : Int32) (x6 : Int32) (uc : qS) (hk : CT k P u) (hca : t_ca k u) (hx : 0 ≤ x ∧ x < u.1 9) (hz8 : 0 ≤ u.1 8 ∧ u.1 8 ≤ 20) (hz9 : 0 ≤ u.1 9 ∧ u.1 9 ≤ 8) (hz10 : 0 ≤ u.1 10 ∧ u.1 10 ≤ 120) (hz12 : 0 ≤ u.1 12 ∧ u.1 12 ≤ 16) (h_k : 0 ≤ x6) (h_j : x4 ≤ u.1 10) (h_ca : t_ca k uc) (c26_1 : ¬ x4 ≤ (x6 : Int32)) (b56_19 : y ≤ (k.2.1 1250 (x6 : Int32).toNatClampNeg) ∧ (k.2.1 1250 (x6 : Int32).toNatClampNeg) ≤ z) (hb_24 : 0 ≤ k.2.1 1249 (x6 : Int32).toNatClampNeg ∧ k.2.1 1249 (x6 : Int32).toNatClampNeg < (u.1 9)) (c68_25 : (k.2.1 1249 (x6 : Int32).toNatClampNeg : Int32) = x) (hb_30 : 0 ≤ k.2.1 1248 (x6 : Int32).toNatClampNeg ∧ k.2.1 1248 (x6 : Int32).toNatClampNeg < (u.1 8)) : 0 ≤ (k.2.1 1248 (x6 : Int32).toNatClampNeg) ∧ (k.2.1 1248 (x6 : Int32).toNatClampNeg) < (u.1 8 : Int32) := by
  first | omega | ((try simp only [g_m1, Int32.lt_iff_toInt_lt, Int32.le_iff_toInt_le, ← Int32.toInt_inj, Int32.reduceToInt] at *); omega) | ((try simp only [g_m1, Int32.lt_iff_toInt_lt, Int32.le_iff_toInt_le, ← Int32.toInt_inj, Int32.reduceToInt] at *); omega) | ((try simp only [g_m1, Int32.lt_iff_toInt_lt, Int32.le_iff_toInt_le, ← Int32.toInt_inj, Int32.toInt_add, Int32.toInt_sub, Int32.toInt_mul, Int32.toInt_neg, Int32.reduceToInt, g_bm, g_bm'] at *); omega) | (have qr1 := g_rng x; have qr2 := g_rng y; have qr3 := g_rng z; have qr6 := g_rng x4; have qr7 := g_rng x5; have qr8 := g_rng x6; (try simp only [g_m1, Int32.lt_iff_toInt_lt, Int32.le_iff_toInt_le, ← Int32.toInt_inj, Int32.toInt_add, Int32.toInt_sub, Int32.toInt_mul, Int32.toInt_neg, Int32.reduceToInt, g_bm, g_bm'] at *); omega) | (simp only [g_m1, Int32.lt_iff_toInt_lt, Int32.le_iff_toInt_le, ← Int32.toInt_inj, Int32.toInt_add, Int32.toInt_sub, Int32.toInt_mul, Int32.toInt_neg, Int32.reduceToInt, g_bm, g_bm'] at *; simp at *; omega) | (simp_all; done)
set_option maxRecDepth 100000 in
theorem g_X11_feesOf_k_v8 (u : qS) (x : Int32) (y : Int32) (z : Int32) (k : qS) (P : Nat → Int32) (x4 : Int32) (x5 : Int32) (x6 : Int32) (uc : qS) (r_33 : Int32) (hk : CT k P u) (hca : t_ca k u) (hx : 0 ≤ x ∧ x < u.1 9) (hz8 : 0 ≤ u.1 8 ∧ u.1 8 ≤ 20) (hz9 : 0 ≤ u.1 9 ∧ u.1 9 ≤ 8) (hz10 : 0 ≤ u.1 10 ∧ u.1 10 ≤ 120) (hz12 : 0 ≤ u.1 12 ∧ u.1 12 ≤ 16) (h_k : 0 ≤ x6) (h_j : x4 ≤ u.1 10) (h_ca : t_ca k uc) (c26_1 : ¬ x4 ≤ (x6 : Int32)) (b56_19 : y ≤ (k.2.1 1250 (x6 : Int32).toNatClampNeg) ∧ (k.2.1 1250 (x6 : Int32).toNatClampNeg) ≤ z) (hb_24 : 0 ≤ k.2.1 1249 (x6 : Int32).toNatClampNeg ∧ k.2.1 1249 (x6 : Int32).toNatClampNeg < (u.1 9)) (c68_25 : (k.2.1 1249 (x6 : Int32).toNatClampNeg : Int32) = x) (hb_30 : 0 ≤ k.2.1 1248 (x6 : Int32).toNatClampNeg ∧ k.2.1 1248 (x6 : Int32).toNatClampNeg < (u.1 8)) (hw_32 : r_33 = c_wh uc x (k.2.1 1248 (x6 : Int32).toNatClampNeg)) : 0 ≤ (x6 + 1) := by
  first | omega | ((try simp only [g_m1, Int32.lt_iff_toInt_lt, Int32.le_iff_toInt_le, ← Int32.toInt_inj, Int32.reduceToInt] at *); omega) | ((try have ez4 : (x6 + 1 : Int32).toInt = (x6 : Int32).toInt + (1 : Int32).toInt := g_add (by (try simp only [g_m1, Int32.lt_iff_toInt_lt, Int32.le_iff_toInt_le, ← Int32.toInt_inj, Int32.reduceToInt] at *); omega) (by (try simp only [g_m1, Int32.lt_iff_toInt_lt, Int32.le_iff_toInt_le, ← Int32.toInt_inj, Int32.reduceToInt] at *); omega)); (try simp only [g_m1, Int32.lt_iff_toInt_lt, Int32.le_iff_toInt_le, ← Int32.toInt_inj, Int32.reduceToInt] at *); omega) | ((try simp only [g_m1, Int32.lt_iff_toInt_lt, Int32.le_iff_toInt_le, ← Int32.toInt_inj, Int32.toInt_add, Int32.toInt_sub, Int32.toInt_mul, Int32.toInt_neg, Int32.reduceToInt, g_bm, g_bm'] at *); omega) | (have qr1 := g_rng x; have qr2 := g_rng y; have qr3 := g_rng z; have qr6 := g_rng x4; have qr7 := g_rng x5; have qr8 := g_rng x6; have qr11 := g_rng r_33; (try simp only [g_m1, Int32.lt_iff_toInt_lt, Int32.le_iff_toInt_le, ← Int32.toInt_inj, Int32.toInt_add, Int32.toInt_sub, Int32.toInt_mul, Int32.toInt_neg, Int32.reduceToInt, g_bm, g_bm'] at *); omega) | (simp only [g_m1, Int32.lt_iff_toInt_lt, Int32.le_iff_toInt_le, ← Int32.toInt_inj, Int32.toInt_add, Int32.toInt_sub, Int32.toInt_mul, Int32.toInt_neg, Int32.reduceToInt, g_bm, g_bm'] at *; simp at *; omega) | (simp_all; done)
set_option maxRecDepth 100000 in
theorem g_X11_feesOf_k_v9 (u : qS) (x : Int32) (y : Int32) (z : Int32) (k : qS) (P : Nat → Int32) (x4 : Int32) (x5 : Int32) (x6 : Int32) (uc : qS) (r_33 : Int32) (hk : CT k P u) (hca : t_ca k u) (hx : 0 ≤ x ∧ x < u.1 9) (hz8 : 0 ≤ u.1 8 ∧ u.1 8 ≤ 20) (hz9 : 0 ≤ u.1 9 ∧ u.1 9 ≤ 8) (hz10 : 0 ≤ u.1 10 ∧ u.1 10 ≤ 120) (hz12 : 0 ≤ u.1 12 ∧ u.1 12 ≤ 16) (h_k : 0 ≤ x6) (h_j : x4 ≤ u.1 10) (h_ca : t_ca k uc) (c26_1 : ¬ x4 ≤ (x6 : Int32)) (b56_19 : y ≤ (k.2.1 1250 (x6 : Int32).toNatClampNeg) ∧ (k.2.1 1250 (x6 : Int32).toNatClampNeg) ≤ z) (hb_24 : 0 ≤ k.2.1 1249 (x6 : Int32).toNatClampNeg ∧ k.2.1 1249 (x6 : Int32).toNatClampNeg < (u.1 9)) (c68_25 : (k.2.1 1249 (x6 : Int32).toNatClampNeg : Int32) = x) (hb_30 : 0 ≤ k.2.1 1248 (x6 : Int32).toNatClampNeg ∧ k.2.1 1248 (x6 : Int32).toNatClampNeg < (u.1 8)) (hw_32 : r_33 = c_wh uc x (k.2.1 1248 (x6 : Int32).toNatClampNeg)) : x4 ≤ u.1 10 := by
  first | omega | ((try simp only [g_m1, Int32.lt_iff_toInt_lt, Int32.le_iff_toInt_le, ← Int32.toInt_inj, Int32.reduceToInt] at *); omega) | ((try simp only [g_m1, Int32.lt_iff_toInt_lt, Int32.le_iff_toInt_le, ← Int32.toInt_inj, Int32.reduceToInt] at *); omega) | ((try simp only [g_m1, Int32.lt_iff_toInt_lt, Int32.le_iff_toInt_le, ← Int32.toInt_inj, Int32.toInt_add, Int32.toInt_sub, Int32.toInt_mul, Int32.toInt_neg, Int32.reduceToInt, g_bm, g_bm'] at *); omega) | (have qr1 := g_rng x; have qr2 := g_rng y; have qr3 := g_rng z; have qr6 := g_rng x4; have qr7 := g_rng x5; have qr8 := g_rng x6; have qr11 := g_rng r_33; (try simp only [g_m1, Int32.lt_iff_toInt_lt, Int32.le_iff_toInt_le, ← Int32.toInt_inj, Int32.toInt_add, Int32.toInt_sub, Int32.toInt_mul, Int32.toInt_neg, Int32.reduceToInt, g_bm, g_bm'] at *); omega) | (simp only [g_m1, Int32.lt_iff_toInt_lt, Int32.le_iff_toInt_le, ← Int32.toInt_inj, Int32.toInt_add, Int32.toInt_sub, Int32.toInt_mul, Int32.toInt_neg, Int32.reduceToInt, g_bm, g_bm'] at *; simp at *; omega) | (simp_all; done)
set_option maxRecDepth 100000 in
theorem g_X11_feesOf_k_v10 (u : qS) (x : Int32) (y : Int32) (z : Int32) (k : qS) (P : Nat → Int32) (x4 : Int32) (x5 : Int32) (x6 : Int32) (uc : qS) (r_33 : Int32) (hk : CT k P u) (hca : t_ca k u) (hx : 0 ≤ x ∧ x < u.1 9) (hz8 : 0 ≤ u.1 8 ∧ u.1 8 ≤ 20) (hz9 : 0 ≤ u.1 9 ∧ u.1 9 ≤ 8) (hz10 : 0 ≤ u.1 10 ∧ u.1 10 ≤ 120) (hz12 : 0 ≤ u.1 12 ∧ u.1 12 ≤ 16) (h_k : 0 ≤ x6) (h_j : x4 ≤ u.1 10) (h_ca : t_ca k uc) (c26_1 : ¬ x4 ≤ (x6 : Int32)) (b56_19 : y ≤ (k.2.1 1250 (x6 : Int32).toNatClampNeg) ∧ (k.2.1 1250 (x6 : Int32).toNatClampNeg) ≤ z) (hb_24 : 0 ≤ k.2.1 1249 (x6 : Int32).toNatClampNeg ∧ k.2.1 1249 (x6 : Int32).toNatClampNeg < (u.1 9)) (c68_25 : (k.2.1 1249 (x6 : Int32).toNatClampNeg : Int32) = x) (hb_30 : 0 ≤ k.2.1 1248 (x6 : Int32).toNatClampNeg ∧ k.2.1 1248 (x6 : Int32).toNatClampNeg < (u.1 8)) (hw_32 : r_33 = c_wh uc x (k.2.1 1248 (x6 : Int32).toNatClampNeg)) : (x4.toInt - (x6 + 1).toInt).toNat < (x4.toInt - x6.toInt).toNat := by
  first | omega | ((try simp only [g_m1, Int32.lt_iff_toInt_lt, Int32.le_iff_toInt_le, ← Int32.toInt_inj, Int32.reduceToInt] at *); omega) | ((try have ez4 : (x6 + 1 : Int32).toInt = (x6 : Int32).toInt + (1 : Int32).toInt := g_add (by (try simp only [g_m1, Int32.lt_iff_toInt_lt, Int32.le_iff_toInt_le, ← Int32.toInt_inj, Int32.reduceToInt] at *); omega) (by (try simp only [g_m1, Int32.lt_iff_toInt_lt, Int32.le_iff_toInt_le, ← Int32.toInt_inj, Int32.reduceToInt] at *); omega)); (try simp only [g_m1, Int32.lt_iff_toInt_lt, Int32.le_iff_toInt_le, ← Int32.toInt_inj, Int32.reduceToInt] at *); omega) | ((try simp only [g_m1, Int32.lt_iff_toInt_lt, Int32.le_iff_toInt_le, ← Int32.toInt_inj, Int32.toInt_add, Int32.toInt_sub, Int32.toInt_mul, Int32.toInt_neg, Int32.reduceToInt, g_bm, g_bm'] at *); omega) | (have qr1 := g_rng x; have qr2 := g_rng y; have qr3 := g_rng z; have qr6 := g_rng x4; have qr7 := g_rng x5; have qr8 := g_rng x6; have qr11 := g_rng r_33; (try simp only [g_m1, Int32.lt_iff_toInt_lt, Int32.le_iff_toInt_le, ← Int32.toInt_inj, Int32.toInt_add, Int32.toInt_sub, Int32.toInt_mul, Int32.toInt_neg, Int32.reduceToInt, g_bm, g_bm'] at *); omega) | (simp only [g_m1, Int32.lt_iff_toInt_lt, Int32.le_iff_toInt_le, ← Int32.toInt_inj, Int32.toInt_add, Int32.toInt_sub, Int32.toInt_mul, Int32.toInt_neg, Int32.reduceToInt, g_bm, g_bm'] at *; simp at *; omega) | (simp_all; done)
set_option maxRecDepth 100000 in
theorem g_X11_feesOf_k_v11 (u : qS) (x : Int32) (y : Int32) (z : Int32) (k : qS) (P : Nat → Int32) (x4 : Int32) (x5 : Int32) (x6 : Int32) (uc : qS) (hk : CT k P u) (hca : t_ca k u) (hx : 0 ≤ x ∧ x < u.1 9) (hz8 : 0 ≤ u.1 8 ∧ u.1 8 ≤ 20) (hz9 : 0 ≤ u.1 9 ∧ u.1 9 ≤ 8) (hz10 : 0 ≤ u.1 10 ∧ u.1 10 ≤ 120) (hz12 : 0 ≤ u.1 12 ∧ u.1 12 ≤ 16) (h_k : 0 ≤ x6) (h_j : x4 ≤ u.1 10) (h_ca : t_ca k uc) (c26_1 : ¬ x4 ≤ (x6 : Int32)) (b56_19 : ¬ (y ≤ (k.2.1 1250 (x6 : Int32).toNatClampNeg) ∧ (k.2.1 1250 (x6 : Int32).toNatClampNeg) ≤ z)) : 0 ≤ (x6 + 1) := by
  first | omega | ((try simp only [g_m1, Int32.lt_iff_toInt_lt, Int32.le_iff_toInt_le, ← Int32.toInt_inj, Int32.reduceToInt] at *); omega) | ((try have ez0 : (x6 + 1 : Int32).toInt = (x6 : Int32).toInt + (1 : Int32).toInt := g_add (by (try simp only [g_m1, Int32.lt_iff_toInt_lt, Int32.le_iff_toInt_le, ← Int32.toInt_inj, Int32.reduceToInt] at *); omega) (by (try simp only [g_m1, Int32.lt_iff_toInt_lt, Int32.le_iff_toInt_le, ← Int32.toInt_inj, Int32.reduceToInt] at *); omega)); (try simp only [g_m1, Int32.lt_iff_toInt_lt, Int32.le_iff_toInt_le, ← Int32.toInt_inj, Int32.reduceToInt] at *); omega) | ((try simp only [g_m1, Int32.lt_iff_toInt_lt, Int32.le_iff_toInt_le, ← Int32.toInt_inj, Int32.toInt_add, Int32.toInt_sub, Int32.toInt_mul, Int32.toInt_neg, Int32.reduceToInt, g_bm, g_bm'] at *); omega) | (have qr1 := g_rng x; have qr2 := g_rng y; have qr3 := g_rng z; have qr6 := g_rng x4; have qr7 := g_rng x5; have qr8 := g_rng x6; (try simp only [g_m1, Int32.lt_iff_toInt_lt, Int32.le_iff_toInt_le, ← Int32.toInt_inj, Int32.toInt_add, Int32.toInt_sub, Int32.toInt_mul, Int32.toInt_neg, Int32.reduceToInt, g_bm, g_bm'] at *); omega) | (simp only [g_m1, Int32.lt_iff_toInt_lt, Int32.le_iff_toInt_le, ← Int32.toInt_inj, Int32.toInt_add, Int32.toInt_sub, Int32.toInt_mul, Int32.toInt_neg, Int32.reduceToInt, g_bm, g_bm'] at *; simp at *; omega) | (simp_all; done)
set_option maxRecDepth 100000 in
theorem g_X11_feesOf_k_v12 (u : qS) (x : Int32) (y : Int32) (z : Int32) (k : qS) (P : Nat → Int32) (x4 : Int32) (x5 : Int32) (x6 : Int32) (uc : qS) (hk : CT k P u) (hca : t_ca k u) (hx : 0 ≤ x ∧ x < u.1 9) (hz8 : 0 ≤ u.1 8 ∧ u.1 8 ≤ 20) (hz9 : 0 ≤ u.1 9 ∧ u.1 9 ≤ 8) (hz10 : 0 ≤ u.1 10 ∧ u.1 10 ≤ 120) (hz12 : 0 ≤ u.1 12 ∧ u.1 12 ≤ 16) (h_k : 0 ≤ x6) (h_j : x4 ≤ u.1 10) (h_ca : t_ca k uc) (c26_1 : ¬ x4 ≤ (x6 : Int32)) (b56_19 : ¬ (y ≤ (k.2.1 1250 (x6 : Int32).toNatClampNeg) ∧ (k.2.1 1250 (x6 : Int32).toNatClampNeg) ≤ z)) : x4 ≤ u.1 10 := by
  first | omega | ((try simp only [g_m1, Int32.lt_iff_toInt_lt, Int32.le_iff_toInt_le, ← Int32.toInt_inj, Int32.reduceToInt] at *); omega) | ((try simp only [g_m1, Int32.lt_iff_toInt_lt, Int32.le_iff_toInt_le, ← Int32.toInt_inj, Int32.reduceToInt] at *); omega) | ((try simp only [g_m1, Int32.lt_iff_toInt_lt, Int32.le_iff_toInt_le, ← Int32.toInt_inj, Int32.toInt_add, Int32.toInt_sub, Int32.toInt_mul, Int32.toInt_neg, Int32.reduceToInt, g_bm, g_bm'] at *); omega) | (have qr1 := g_rng x; have qr2 := g_rng y; have qr3 := g_rng z; have qr6 := g_rng x4; have qr7 := g_rng x5; have qr8 := g_rng x6; (try simp only [g_m1, Int32.lt_iff_toInt_lt, Int32.le_iff_toInt_le, ← Int32.toInt_inj, Int32.toInt_add, Int32.toInt_sub, Int32.toInt_mul, Int32.toInt_neg, Int32.reduceToInt, g_bm, g_bm'] at *); omega) | (simp only [g_m1, Int32.lt_iff_toInt_lt, Int32.le_iff_toInt_le, ← Int32.toInt_inj, Int32.toInt_add, Int32.toInt_sub, Int32.toInt_mul, Int32.toInt_neg, Int32.reduceToInt, g_bm, g_bm'] at *; simp at *; omega) | (simp_all; done)
set_option maxRecDepth 100000 in
theorem g_X11_feesOf_k_v13 (u : qS) (x : Int32) (y : Int32) (z : Int32) (k : qS) (P : Nat → Int32) (x4 : Int32) (x5 : Int32) (x6 : Int32) (uc : qS) (hk : CT k P u) (hca : t_ca k u) (hx : 0 ≤ x ∧ x < u.1 9) (hz8 : 0 ≤ u.1 8 ∧ u.1 8 ≤ 20) (hz9 : 0 ≤ u.1 9 ∧ u.1 9 ≤ 8) (hz10 : 0 ≤ u.1 10 ∧ u.1 10 ≤ 120) (hz12 : 0 ≤ u.1 12 ∧ u.1 12 ≤ 16) (h_k : 0 ≤ x6) (h_j : x4 ≤ u.1 10) (h_ca : t_ca k uc) (c26_1 : ¬ x4 ≤ (x6 : Int32)) (b56_19 : ¬ (y ≤ (k.2.1 1250 (x6 : Int32).toNatClampNeg) ∧ (k.2.1 1250 (x6 : Int32).toNatClampNeg) ≤ z)) : (x4.toInt - (x6 + 1).toInt).toNat < (x4.toInt - x6.toInt).toNat := by
  first | omega | ((try simp only [g_m1, Int32.lt_iff_toInt_lt, Int32.le_iff_toInt_le, ← Int32.toInt_inj, Int32.reduceToInt] at *); omega) | ((try have ez0 : (x6 + 1 : Int32).toInt = (x6 : Int32).toInt + (1 : Int32).toInt := g_add (by (try simp only [g_m1, Int32.lt_iff_toInt_lt, Int32.le_iff_toInt_le, ← Int32.toInt_inj, Int32.reduceToInt] at *); omega) (by (try simp only [g_m1, Int32.lt_iff_toInt_lt, Int32.le_iff_toInt_le, ← Int32.toInt_inj, Int32.reduceToInt] at *); omega)); (try simp only [g_m1, Int32.lt_iff_toInt_lt, Int32.le_iff_toInt_le, ← Int32.toInt_inj, Int32.reduceToInt] at *); omega) | ((try simp only [g_m1, Int32.lt_iff_toInt_lt, Int32.le_iff_toInt_le, ← Int32.toInt_inj, Int32.toInt_add, Int32.toInt_sub, Int32.toInt_mul, Int32.toInt_neg, Int32.reduceToInt, g_bm, g_bm'] at *); omega) | (have qr1 := g_rng x; have qr2 := g_rng y; have qr3 := g_rng z; have qr6 := g_rng x4; have qr7 := g_rng x5; have qr8 := g_rng x6; (try simp only [g_m1, Int32.lt_iff_toInt_lt, Int32.le_iff_toInt_le, ← Int32.toInt_inj, Int32.toInt_add, Int32.toInt_sub, Int32.toInt_mul, Int32.toInt_neg, Int32.reduceToInt, g_bm, g_bm'] at *); omega) | (simp only [g_m1, Int32.lt_iff_toInt_lt, Int32.le_iff_toInt_le, ← Int32.toInt_inj, Int32.toInt_add, Int32.toInt_sub, Int32.toInt_mul, Int32.toInt_neg, Int32.reduceToInt, g_bm, g_bm'] at *; simp at *; omega) | (simp_all; done)
set_option maxRecDepth 100000 in
theorem g_X11_feesOf_k_v14 (u : qS) (x : Int32) (y : Int32) (z : Int32) (k : qS) (P : Nat → Int32) (x4 : Int32) (x5 : Int32) (x6 : Int32) (uc : qS) (hk : CT k P u) (hca : t_ca k u) (hx : 0 ≤ x ∧ x < u.1 9) (hz8 : 0 ≤ u.1 8 ∧ u.1 8 ≤ 20) (hz9 : 0 ≤ u.1 9 ∧ u.1 9 ≤ 8) (hz10 : 0 ≤ u.1 10 ∧ u.1 10 ≤ 120) (hz12 : 0 ≤ u.1 12 ∧ u.1 12 ≤ 16) (h_k : 0 ≤ x6) (h_j : x4 ≤ u.1 10) (h_ca : t_ca k uc) (c26_1 : ¬ x4 ≤ (x6 : Int32)) : 0 ≤ (x6 + 1) := by
  first | omega | ((try simp only [g_m1, Int32.lt_iff_toInt_lt, Int32.le_iff_toInt_le, ← Int32.toInt_inj, Int32.reduceToInt] at *); omega) | ((try have ez0 : (x6 + 1 : Int32).toInt = (x6 : Int32).toInt + (1 : Int32).toInt := g_add (by (try simp only [g_m1, Int32.lt_iff_toInt_lt, Int32.le_iff_toInt_le, ← Int32.toInt_inj, Int32.reduceToInt] at *); omega) (by (try simp only [g_m1, Int32.lt_iff_toInt_lt, Int32.le_iff_toInt_le, ← Int32.toInt_inj, Int32.reduceToInt] at *); omega)); (try simp only [g_m1, Int32.lt_iff_toInt_lt, Int32.le_iff_toInt_le, ← Int32.toInt_inj, Int32.reduceToInt] at *); omega) | ((try simp only [g_m1, Int32.lt_iff_toInt_lt, Int32.le_iff_toInt_le, ← Int32.toInt_inj, Int32.toInt_add, Int32.toInt_sub, Int32.toInt_mul, Int32.toInt_neg, Int32.reduceToInt, g_bm, g_bm'] at *); omega) | (have qr1 := g_rng x; have qr2 := g_rng y; have qr3 := g_rng z; have qr6 := g_rng x4; have qr7 := g_rng x5; have qr8 := g_rng x6; (try simp only [g_m1, Int32.lt_iff_toInt_lt, Int32.le_iff_toInt_le, ← Int32.toInt_inj, Int32.toInt_add, Int32.toInt_sub, Int32.toInt_mul, Int32.toInt_neg, Int32.reduceToInt, g_bm, g_bm'] at *); omega) | (simp only [g_m1, Int32.lt_iff_toInt_lt, Int32.le_iff_toInt_le, ← Int32.toInt_inj, Int32.toInt_add, Int32.toInt_sub, Int32.toInt_mul, Int32.toInt_neg, Int32.reduceToInt, g_bm, g_bm'] at *; simp at *; omega) | (simp_all; done)
set_option maxRecDepth 100000 in
theorem g_X11_feesOf_k_v15 (u : qS) (x : Int32) (y : Int32) (z : Int32) (k : qS) (P : Nat → Int32) (x4 : Int32) (x5 : Int32) (x6 : Int32) (uc : qS) (hk : CT k P u) (hca : t_ca k u) (hx : 0 ≤ x ∧ x < u.1 9) (hz8 : 0 ≤ u.1 8 ∧ u.1 8 ≤ 20) (hz9 : 0 ≤ u.1 9 ∧ u.1 9 ≤ 8) (hz10 : 0 ≤ u.1 10 ∧ u.1 10 ≤ 120) (hz12 : 0 ≤ u.1 12 ∧ u.1 12 ≤ 16) (h_k : 0 ≤ x6) (h_j : x4 ≤ u.1 10) (h_ca : t_ca k uc) (c26_1 : ¬ x4 ≤ (x6 : Int32)) : x4 ≤ u.1 10 := by
  first | omega | ((try simp only [g_m1, Int32.lt_iff_toInt_lt, Int32.le_iff_toInt_le, ← Int32.toInt_inj, Int32.reduceToInt] at *); omega) | ((try simp only [g_m1, Int32.lt_iff_toInt_lt, Int32.le_iff_toInt_le, ← Int32.toInt_inj, Int32.reduceToInt] at *); omega) | ((try simp only [g_m1, Int32.lt_iff_toInt_lt, Int32.le_iff_toInt_le, ← Int32.toInt_inj, Int32.toInt_add, Int32.toInt_sub, Int32.toInt_mul, Int32.toInt_neg, Int32.reduceToInt, g_bm, g_bm'] at *); omega) | (have qr1 := g_rng x; have qr2 := g_rng y; have qr3 := g_rng z; have qr6 := g_rng x4; have qr7 := g_rng x5; have qr8 := g_rng x6; (try simp only [g_m1, Int32.lt_iff_toInt_lt, Int32.le_iff_toInt_le, ← Int32.toInt_inj, Int32.toInt_add, Int32.toInt_sub, Int32.toInt_mul, Int32.toInt_neg, Int32.reduceToInt, g_bm, g_bm'] at *); omega) | (simp only [g_m1, Int32.lt_iff_toInt_lt, Int32.le_iff_toInt_le, ← Int32.toInt_inj, Int32.toInt_add, Int32.toInt_sub, Int32.toInt_mul, Int32.toInt_neg, Int32.reduceToInt, g_bm, g_bm'] at *; simp at *; omega) | (simp_all; done)
set_option maxRecDepth 100000 in
theorem g_X11_feesOf_k_v16 (u : qS) (x : Int32) (y : Int32) (z : Int32) (k : qS) (P : Nat → Int32) (x4 : Int32) (x5 : Int32) (x6 : Int32) (uc : qS) (hk : CT k P u) (hca : t_ca k u) (hx : 0 ≤ x ∧ x < u.1 9) (hz8 : 0 ≤ u.1 8 ∧ u.1 8 ≤ 20) (hz9 : 0 ≤ u.1 9 ∧ u.1 9 ≤ 8) (hz10 : 0 ≤ u.1 10 ∧ u.1 10 ≤ 120) (hz12 : 0 ≤ u.1 12 ∧ u.1 12 ≤ 16) (h_k : 0 ≤ x6) (h_j : x4 ≤ u.1 10) (h_ca : t_ca k uc) (c26_1 : ¬ x4 ≤ (x6 : Int32)) : (x4.toInt - (x6 + 1).toInt).toNat < (x4.toInt - x6.toInt).toNat := by
  first | omega | ((try simp only [g_m1, Int32.lt_iff_toInt_lt, Int32.le_iff_toInt_le, ← Int32.toInt_inj, Int32.reduceToInt] at *); omega) | ((try have ez0 : (x6 + 1 : Int32).toInt = (x6 : Int32).toInt + (1 : Int32).toInt := g_add (by (try simp only [g_m1, Int32.lt_iff_toInt_lt, Int32.le_iff_toInt_le, ← Int32.toInt_inj, Int32.reduceToInt] at *); omega) (by (try simp only [g_m1, Int32.lt_iff_toInt_lt, Int32.le_iff_toInt_le, ← Int32.toInt_inj, Int32.reduceToInt] at *); omega)); (try simp only [g_m1, Int32.lt_iff_toInt_lt, Int32.le_iff_toInt_le, ← Int32.toInt_inj, Int32.reduceToInt] at *); omega) | ((try simp only [g_m1, Int32.lt_iff_toInt_lt, Int32.le_iff_toInt_le, ← Int32.toInt_inj, Int32.toInt_add, Int32.toInt_sub, Int32.toInt_mul, Int32.toInt_neg, Int32.reduceToInt, g_bm, g_bm'] at *); omega) | (have qr1 := g_rng x; have qr2 := g_rng y; have qr3 := g_rng z; have qr6 := g_rng x4; have qr7 := g_rng x5; have qr8 := g_rng x6; (try simp only [g_m1, Int32.lt_iff_toInt_lt, Int32.le_iff_toInt_le, ← Int32.toInt_inj, Int32.toInt_add, Int32.toInt_sub, Int32.toInt_mul, Int32.toInt_neg, Int32.reduceToInt, g_bm, g_bm'] at *); omega) | (simp only [g_m1, Int32.lt_iff_toInt_lt, Int32.le_iff_toInt_le, ← Int32.toInt_inj, Int32.toInt_add, Int32.toInt_sub, Int32.toInt_mul, Int32.toInt_neg, Int32.reduceToInt, g_bm, g_bm'] at *; simp at *; omega) | (simp_all; done)
set_option maxRecDepth 100000 in
theorem g_X11_feesOf_k_v17 (u : qS) (x : Int32) (y : Int32) (z : Int32) (k : qS) (P : Nat → Int32) (u_34 : qS) (S_37 : Nat → Int32) (r_41 : Int32) (hk : CT k P u) (hca : t_ca k u) (hx : 0 ≤ x ∧ x < u.1 9) (hz8 : 0 ≤ u.1 8 ∧ u.1 8 ≤ 20) (hz9 : 0 ≤ u.1 9 ∧ u.1 9 ≤ 8) (hz10 : 0 ≤ u.1 10 ∧ u.1 10 ≤ 120) (hz12 : 0 ≤ u.1 12 ∧ u.1 12 ≤ 16) (hq_38 : f_fi (k) S_37 ∧ u_34.1 909 = u.1 18) (hw_40 : 0 ≤ r_41 ∧ r_41 ≤ (u.1 10 : Int32)) : 0 ≤ (0 : Int32) := by
  first | omega | ((try simp only [g_m1, Int32.lt_iff_toInt_lt, Int32.le_iff_toInt_le, ← Int32.toInt_inj, Int32.reduceToInt] at *); omega) | ((try simp only [g_m1, Int32.lt_iff_toInt_lt, Int32.le_iff_toInt_le, ← Int32.toInt_inj, Int32.reduceToInt] at *); omega) | ((try simp only [g_m1, Int32.lt_iff_toInt_lt, Int32.le_iff_toInt_le, ← Int32.toInt_inj, Int32.toInt_add, Int32.toInt_sub, Int32.toInt_mul, Int32.toInt_neg, Int32.reduceToInt, g_bm, g_bm'] at *); omega) | (have qr1 := g_rng x; have qr2 := g_rng y; have qr3 := g_rng z; have qr8 := g_rng r_41; (try simp only [g_m1, Int32.lt_iff_toInt_lt, Int32.le_iff_toInt_le, ← Int32.toInt_inj, Int32.toInt_add, Int32.toInt_sub, Int32.toInt_mul, Int32.toInt_neg, Int32.reduceToInt, g_bm, g_bm'] at *); omega) | (simp only [g_m1, Int32.lt_iff_toInt_lt, Int32.le_iff_toInt_le, ← Int32.toInt_inj, Int32.toInt_add, Int32.toInt_sub, Int32.toInt_mul, Int32.toInt_neg, Int32.reduceToInt, g_bm, g_bm'] at *; simp at *; omega) | (simp_all; done)
set_option maxRecDepth 100000 in
theorem g_X11_feesOf_k_v18 (u : qS) (x : Int32) (y : Int32) (z : Int32) (k : qS) (P : Nat → Int32) (u_34 : qS) (S_37 : Nat → Int32) (r_41 : Int32) (hk : CT k P u) (hca : t_ca k u) (hx : 0 ≤ x ∧ x < u.1 9) (hz8 : 0 ≤ u.1 8 ∧ u.1 8 ≤ 20) (hz9 : 0 ≤ u.1 9 ∧ u.1 9 ≤ 8) (hz10 : 0 ≤ u.1 10 ∧ u.1 10 ≤ 120) (hz12 : 0 ≤ u.1 12 ∧ u.1 12 ≤ 16) (hq_38 : f_fi (k) S_37 ∧ u_34.1 909 = u.1 18) (hw_40 : 0 ≤ r_41 ∧ r_41 ≤ (u.1 10 : Int32)) : r_41 ≤ u.1 10 := by
  first | omega | ((try simp only [g_m1, Int32.lt_iff_toInt_lt, Int32.le_iff_toInt_le, ← Int32.toInt_inj, Int32.reduceToInt] at *); omega) | ((try simp only [g_m1, Int32.lt_iff_toInt_lt, Int32.le_iff_toInt_le, ← Int32.toInt_inj, Int32.reduceToInt] at *); omega) | ((try simp only [g_m1, Int32.lt_iff_toInt_lt, Int32.le_iff_toInt_le, ← Int32.toInt_inj, Int32.toInt_add, Int32.toInt_sub, Int32.toInt_mul, Int32.toInt_neg, Int32.reduceToInt, g_bm, g_bm'] at *); omega) | (have qr1 := g_rng x; have qr2 := g_rng y; have qr3 := g_rng z; have qr8 := g_rng r_41; (try simp only [g_m1, Int32.lt_iff_toInt_lt, Int32.le_iff_toInt_le, ← Int32.toInt_inj, Int32.toInt_add, Int32.toInt_sub, Int32.toInt_mul, Int32.toInt_neg, Int32.reduceToInt, g_bm, g_bm'] at *); omega) | (simp only [g_m1, Int32.lt_iff_toInt_lt, Int32.le_iff_toInt_le, ← Int32.toInt_inj, Int32.toInt_add, Int32.toInt_sub, Int32.toInt_mul, Int32.toInt_neg, Int32.reduceToInt, g_bm, g_bm'] at *; simp at *; omega) | (simp_all; done)
set_option maxHeartbeats 1000000 in
set_option maxRecDepth 100000 in
theorem g_X11_feesOf_k (l : Launch) (E : qE) (A : Nat → Prop) (u : qS) (x : Int32) (y : Int32) (z : Int32) (k : qS) (P : Nat → Int32) (hI : IC E u) (hk : CT k P u) (hca : t_ca k u) (hx : 0 ≤ x ∧ x < u.1 9) : Met l yX11_feesOf (uws yX11_feesOf cX11_feesOf 8 (some .int)) (qR 7 0 0) (qPc E A 0 u [.ref (E.2.2 1199), .int x, .int y, .int z]) (qQi E A 0 (fun r u1 => (qFc [900, 901, 902, 908, 909] [905, 906, 907] [] [904, 5010] u u1 ∧ IC E u1) ∧ (t_ca k u1))) 0 0 A := by
  refine q_met (own := RX11) (f := 7) [.ref (E.2.2 1199), .int x, .int y, .int z] (by decide) (Nat.le_of_ble_eq_true rfl) rfl ?_
  intro p0 e0 s0 m0 bl0 me0 cd0 ls hF hr hlocks hU hS hA hl
  have hl : lv_has ls 8 [(0, .ref (E.2.2 1199)), (1, .int x), (2, .int y), (3, .int z)] := hl
  have hz8 : 0 ≤ u.1 8 ∧ u.1 8 ≤ 20 := hI.1.s8
  have hz9 : 0 ≤ u.1 9 ∧ u.1 9 ≤ 8 := hI.1.s9
  have hz10 : 0 ≤ u.1 10 ∧ u.1 10 ≤ 120 := hI.1.s10
  have hz12 : 0 ≤ u.1 12 ∧ u.1 12 ≤ 16 := hI.1.s12
  have hfr : qFc [900, 901, 902, 908, 909] [905, 906, 907] [] [904, 5010] u u := qFc.rf
  have hCA := hca
  have main : ∀ n : Nat, (∀ (x4 : Int32) (x5 : Int32) (x6 : Int32) (uc : qS) (H : Heap) (locs : List Loc) (ls : Array Slot) (hfr : qFc [900, 901, 902, 908, 909] [905, 906, 907] [] [904, 5010] u uc) (hI : IC E uc) (h_k : 0 ≤ x6) (h_j : x4 ≤ u.1 10) (h_ca : t_ca k uc), (x4.toInt - x6.toInt).toNat < n → qH E A 0 uc s0 H → va_S A s0.heap H locs → lv_has ls 8 [(0, .ref (E.2.2 1199)), (1, .int x), (2, .int y), (3, .int z), (4, .int x4), (5, .int x5), (6, .int x6)] → W p0 l e0 (qR 7 0 0) s0 m0 ([.ref (E.2.2 1199), .int x, .int y, .int z] : List Value).toArray bl0 me0 cd0 H locs 0 0 (MQ bl0 (qQi E A 0 (fun r u1 => (qFc [900, 901, 902, 908, 909] [905, 906, 907] [] [904, 5010] u u1 ∧ IC E u1) ∧ (t_ca k u1))) ([.ref (E.2.2 1199), .int x, .int y, .int z] : List Value).toArray s0 0 0 A) (F0 m0 22 ls [])) := by
    clear hI hfr
    intro n
    induction n with
    | zero => exact fun _ _ _ _ _ _ _ _ _ _ _ _ hmu => absurd hmu (Nat.not_lt_zero _)
    | succ n ih =>
      intro x4 x5 x6 uc H locs ls hfr hI h_k h_j h_ca hmu hU hS hl
      have hCA := h_ca
      refine lv_iload hF.1 hF.2.1 dX11_feesOf_22 (lv_at hl 6 rfl) ?_
      refine lv_iload hF.1 hF.2.1 dX11_feesOf_24 (lv_at hl 4 rfl) ?_
      refine lv_icmp_ge (tgt := 112) hF.1 hF.2.1 dX11_feesOf_26 (by decide) (fun c26_1 => ?_) (fun c26_1 => ?_)
      · refine lv_iload hF.1 hF.2.1 dX11_feesOf_112 (lv_at hl 5 rfl) ?_
        exact q_iret hF hr rfl hlocks hU hS dX11_feesOf_114 ⟨⟨hfr, hI⟩, hCA⟩
      · refine lv_aload_n hF.1 hF.2.1 dX11_feesOf_29 rfl (lv_at hl 0 rfl) ?_
        refine q_get (v := .ref (E.2.2 99)) hF hU dX11_feesOf_30 0 11 0 1100 1199 rfl rfl rfl rfl inX11 (by decide) (by decide) w_436 rfl rfl ?_
        refine q_get (v := .ref (E.2.2 2)) hF hU dX11_feesOf_33 1 0 2 2 99 rfl rfl rfl rfl inX0 (by decide) (by decide) w_150 rfl rfl ?_
        refine lv_iload hF.1 hF.2.1 dX11_feesOf_36 (lv_at hl 6 rfl) ?_
        obtain ⟨a_2, ha_2_3_e, ha_2_3⟩ := hI.r2 x6 (by rw [(hfr.1 10 (by decide))]; exact (g_X11_feesOf_k_v0 u x y z k P x4 x5 x6 uc hk hca hx hz8 hz9 hz10 hz12 h_k h_j h_ca c26_1))
        refine q_aald (v := .ref a_2) hF hU dX11_feesOf_38 2 2 6 rfl rfl (by decide) rfl (g_X11_feesOf_k_v1 u x k P x4 x6 uc hk hca hx hz8 hz9 hz10 hz12 h_k h_j h_ca c26_1) (by rw [ha_2_3_e]; rfl) ?_
        have hK_4 : qKn k uc a_2 x6 := (hk.fr hfr (by decide) (by decide)).va (by rw [(hfr.1 10 (by decide))]; exact (g_X11_feesOf_k_v2 u x y z k P x4 x5 x6 uc hk hca hx hz8 hz9 hz10 hz12 h_k h_j h_ca c26_1)) ha_2_3_e
        refine lv_astore (lv' := [(7, .ref a_2), (0, .ref (E.2.2 1199)), (1, .int x), (2, .int y), (3, .int z), (4, .int x4), (5, .int x5), (6, .int x6)]) hF.1 hF.2.1 dX11_feesOf_39 hl (by decide) rfl (fun ls hl => ?_)
        refine lv_aload hF.1 hF.2.1 dX11_feesOf_41 (lv_at hl 0 rfl) ?_
        have hM9 := g_X10_counts l E A uc a_2 hI ((ha_2_3).rf)
        obtain ⟨k_5, fs_6, hd_7⟩ := id ((ha_2_3).rf)
        have hR9 := q_runVd (l := l) (e := e0) (below := bl0) (meth := me0) (R := qR 7 0 0) (cells := 0) (slots := 0) (st0 := [.ref a_2]) (rest := []) hF hU hS hA 0 k_5 10 hd_7 rfl hM9 w_1176 w_908 w_909 w_110 w_910 (by decide +kernel) ⟨Nat.le_of_ble_eq_true rfl, Nat.le_of_ble_eq_true rfl⟩ dX11_feesOf_43 rfl hl.1 rfl (Nat.le_of_ble_eq_true rfl) ⟨Nat.le_of_ble_eq_true rfl, Nat.le_of_ble_eq_true rfl⟩
        refine q_calli hR9 hU.2.2.2 hS (fun r_10 u_8 H locs hw_9 hU hS => ?_)
        obtain ⟨hw_9_e, hw_9⟩ := hw_9
        rw [hw_9_e] at hU
        rcases hw_9 with rfl | rfl
        · refine lv_if_eq (tgt := 106) hF.1 hF.2.1 dX11_feesOf_46 (by decide) (fun h9 => absurd h9 (by decide)) (fun _ => ?_)
          refine lv_aload hF.1 hF.2.1 dX11_feesOf_49 (lv_at hl 0 rfl) ?_
          obtain ⟨k_12, fs_13, hd_14, hv_15⟩ := hK_4.at 4 (by decide) (by decide)
          refine q_getd (v := .int (k.2.1 1250 (x6 : Int32).toNatClampNeg)) hF hU dX11_feesOf_51 k_12 10 4 hd_14 rfl inX10 (by decide) w_604 rfl hv_15 ?_
          refine lv_iload_n hF.1 hF.2.1 dX11_feesOf_54 rfl (lv_at hl 3 rfl) ?_
          refine lv_iload_n hF.1 hF.2.1 dX11_feesOf_55 rfl (lv_at hl 4 rfl) ?_
          have hM9 := g_X11_isWithin l E A uc (k.2.1 1250 (x6 : Int32).toNatClampNeg) y z
          have hR9 := q_runS (l := l) (e := e0) (below := bl0) (meth := me0) (R := qR 7 0 0) (cells := 0) (slots := 0) (st0 := [.int z, .int y, .int (k.2.1 1250 (x6 : Int32).toNatClampNeg)]) (rest := []) hF hU hS hA 3 hM9 w_468 w_469 w_99 w_470 (by decide +kernel) ⟨Nat.le_of_ble_eq_true rfl, Nat.le_of_ble_eq_true rfl⟩ dX11_feesOf_56 rfl hl.1 rfl (Nat.le_of_ble_eq_true rfl) ⟨Nat.le_of_ble_eq_true rfl, Nat.le_of_ble_eq_true rfl⟩
          refine q_calli hR9 hU.2.2.2 hS (fun r_18 u_16 H locs hw_17 hU hS => ?_)
          obtain ⟨hw_17_e, hw_17⟩ := hw_17
          rw [hw_17_e] at hU
          have hw_17 : (r_18 = 1 ∧ (y ≤ (k.2.1 1250 (x6 : Int32).toNatClampNeg) ∧ (k.2.1 1250 (x6 : Int32).toNatClampNeg) ≤ z)) ∨ (r_18 = 0 ∧ (¬ (y ≤ (k.2.1 1250 (x6 : Int32).toNatClampNeg) ∧ (k.2.1 1250 (x6 : Int32).toNatClampNeg) ≤ z))) := hw_17
          rcases hw_17 with ⟨rfl, b56_19⟩ | ⟨rfl, b56_19⟩
          · refine lv_if_eq (tgt := 106) hF.1 hF.2.1 dX11_feesOf_59 (by decide) (fun h9 => absurd h9 (by decide)) (fun _ => ?_)
            refine lv_aload hF.1 hF.2.1 dX11_feesOf_62 (lv_at hl 0 rfl) ?_
            obtain ⟨k_20, fs_21, hd_22, hv_23⟩ := hK_4.at 3 (by decide) (by decide)
            refine q_getd (v := .int (k.2.1 1249 (x6 : Int32).toNatClampNeg)) hF hU dX11_feesOf_64 k_20 10 3 hd_22 rfl inX10 (by decide) w_599 rfl hv_23 ?_
            have hb_24 : 0 ≤ k.2.1 1249 (x6 : Int32).toNatClampNeg ∧ k.2.1 1249 (x6 : Int32).toNatClampNeg < (u.1 9) := (by have h9 := ((hk.fr hfr (by decide) (by decide)).b2 hK_4).2; rw [(hfr.1 9 (by decide))] at h9; exact h9)
            refine lv_iload_n hF.1 hF.2.1 dX11_feesOf_67 rfl (lv_at hl 2 rfl) ?_
            refine lv_icmp_ne (tgt := 106) hF.1 hF.2.1 dX11_feesOf_68 (by decide) (fun c68_25 => ?_) (fun c68_25 => ?_)
            · refine lv_iinc (v := x6 + 1) (lv' := [(6, .int (x6 + 1)), (7, .ref a_2), (0, .ref (E.2.2 1199)), (1, .int x), (2, .int y), (3, .int z), (4, .int x4), (5, .int x5)]) hF.1 hF.2.1 dX11_feesOf_106 hl (k := 7) rfl rfl (by decide) rfl (fun ls hl => ?_)
              refine lv_goto (tgt := 22) hF.1 hF.2.1 dX11_feesOf_109 (by decide) ?_
              exact ih x4 x5 (x6 + 1) uc _ _ _ hfr hI  (g_X11_feesOf_k_v3 u x y z k P x4 x5 x6 uc hk hca hx hz8 hz9 hz10 hz12 h_k h_j h_ca c26_1 b56_19 hb_24 c68_25) (g_X11_feesOf_k_v4 u x y z k P x4 x5 x6 uc hk hca hx hz8 hz9 hz10 hz12 h_k h_j h_ca c26_1 b56_19 hb_24 c68_25) hCA (Nat.lt_of_lt_of_le (g_X11_feesOf_k_v5 u x y z k P x4 x5 x6 uc hk hca hx hz8 hz9 hz10 hz12 h_k h_j h_ca c26_1 b56_19 hb_24 c68_25) (Nat.lt_succ_iff.mp hmu)) hU hS (lv_sub hl [2, 3, 4, 5, 6, 7, 0] rfl)
            · refine lv_iload hF.1 hF.2.1 dX11_feesOf_71 (lv_at hl 6 rfl) ?_
              refine lv_aload_n hF.1 hF.2.1 dX11_feesOf_73 rfl (lv_at hl 1 rfl) ?_
              refine q_get (v := .int (u.1 1107)) hF hU dX11_feesOf_74 0 11 7 1107 1199 rfl rfl rfl rfl inX11 (by decide) (by decide) w_443 rfl (congrArg Value.int (hfr.1 1107 (by decide))) ?_
              refine lv_aload_n hF.1 hF.2.1 dX11_feesOf_77 rfl (lv_at hl 1 rfl) ?_
              refine q_get (v := .ref (E.2.2 99)) hF hU dX11_feesOf_78 0 11 0 1100 1199 rfl rfl rfl rfl inX11 (by decide) (by decide) w_436 rfl rfl ?_
              refine q_get (v := .int (u.1 15)) hF hU dX11_feesOf_81 1 0 15 15 99 rfl rfl rfl rfl inX0 (by decide) (by decide) w_183 rfl (congrArg Value.int (hfr.1 15 (by decide))) ?_
              refine lv_iconst (v := 5) hF.1 hF.2.1 dX11_feesOf_84 (by decide) ?_
              refine lv_idiv hF.1 hF.2.1 dX11_feesOf_85 (by decide) ?_
              refine lv_iconst (v := 2) hF.1 hF.2.1 dX11_feesOf_86 (by decide) ?_
              refine lv_imul hF.1 hF.2.1 dX11_feesOf_87 ?_
              refine lv_aload_n hF.1 hF.2.1 dX11_feesOf_88 rfl (lv_at hl 1 rfl) ?_
              refine q_get (v := .ref (E.2.2 99)) hF hU dX11_feesOf_89 0 11 0 1100 1199 rfl rfl rfl rfl inX11 (by decide) (by decide) w_436 rfl rfl ?_
              refine lv_iload_n hF.1 hF.2.1 dX11_feesOf_92 rfl (lv_at hl 2 rfl) ?_
              refine lv_aload hF.1 hF.2.1 dX11_feesOf_93 (lv_at hl 0 rfl) ?_
              obtain ⟨k_26, fs_27, hd_28, hv_29⟩ := hK_4.at 2 (by decide) (by decide)
              refine q_getd (v := .int (k.2.1 1248 (x6 : Int32).toNatClampNeg)) hF hU dX11_feesOf_95 k_26 10 2 hd_28 rfl inX10 (by decide) w_593 rfl hv_29 ?_
              have hb_30 : 0 ≤ k.2.1 1248 (x6 : Int32).toNatClampNeg ∧ k.2.1 1248 (x6 : Int32).toNatClampNeg < (u.1 8) := (by have h9 := ((hk.fr hfr (by decide) (by decide)).b2 hK_4).1; rw [(hfr.1 8 (by decide))] at h9; exact h9)
              have hM9 := g_X0_wayFromHome l E A uc x (k.2.1 1248 (x6 : Int32).toNatClampNeg) hI (by rw [(hfr.1 9 (by decide))]; exact (g_X11_feesOf_k_v6 u x y z k P x4 x5 x6 uc hk hca hx hz8 hz9 hz10 hz12 h_k h_j h_ca c26_1 b56_19 hb_24 c68_25 hb_30)) (by rw [(hfr.1 8 (by decide))]; exact (g_X11_feesOf_k_v7 u x y z k P x4 x5 x6 uc hk hca hx hz8 hz9 hz10 hz12 h_k h_j h_ca c26_1 b56_19 hb_24 c68_25 hb_30))
              have hR9 := q_runV (l := l) (e := e0) (below := bl0) (meth := me0) (R := qR 7 0 0) (cells := 0) (slots := 0) (st0 := [.int (k.2.1 1248 (x6 : Int32).toNatClampNeg), .int x, .ref (E.2.2 99), .int (((u.1 15) / 5) * 2), .int (u.1 1107), .int x5]) (rest := [.int (((u.1 15) / 5) * 2), .int (u.1 1107), .int x5]) hF hU hS hA 2 1 0 99 rfl rfl rfl hM9 w_1181 w_1096 w_1097 w_100 w_1098 (by decide +kernel) ⟨Nat.le_of_ble_eq_true rfl, Nat.le_of_ble_eq_true rfl⟩ dX11_feesOf_98 rfl hl.1 rfl (Nat.le_of_ble_eq_true rfl) ⟨Nat.le_of_ble_eq_true rfl, Nat.le_of_ble_eq_true rfl⟩
              refine q_calli hR9 hU.2.2.2 hS (fun r_33 u_31 H locs hw_32 hU hS => ?_)
              obtain ⟨hw_32_e, hw_32⟩ := hw_32
              rw [hw_32_e] at hU
              have hw_32 : r_33 = c_wh uc x (k.2.1 1248 (x6 : Int32).toNatClampNeg) := hw_32
              refine lv_imul hF.1 hF.2.1 dX11_feesOf_101 ?_
              refine lv_iadd hF.1 hF.2.1 dX11_feesOf_102 ?_
              refine lv_iadd hF.1 hF.2.1 dX11_feesOf_103 ?_
              refine lv_istore (lv' := [(5, .int (x5 + ((u.1 1107) + ((((u.1 15) / 5) * 2) * r_33)))), (7, .ref a_2), (0, .ref (E.2.2 1199)), (1, .int x), (2, .int y), (3, .int z), (4, .int x4), (6, .int x6)]) hF.1 hF.2.1 dX11_feesOf_104 hl (by decide) rfl (fun ls hl => ?_)
              refine lv_iinc (v := x6 + 1) (lv' := [(6, .int (x6 + 1)), (5, .int (x5 + ((u.1 1107) + ((((u.1 15) / 5) * 2) * r_33)))), (7, .ref a_2), (0, .ref (E.2.2 1199)), (1, .int x), (2, .int y), (3, .int z), (4, .int x4)]) hF.1 hF.2.1 dX11_feesOf_106 hl (k := 7) rfl rfl (by decide) rfl (fun ls hl => ?_)
              refine lv_goto (tgt := 22) hF.1 hF.2.1 dX11_feesOf_109 (by decide) ?_
              exact ih x4 (x5 + ((u.1 1107) + ((((u.1 15) / 5) * 2) * r_33))) (x6 + 1) uc _ _ _ hfr hI  (g_X11_feesOf_k_v8 u x y z k P x4 x5 x6 uc r_33 hk hca hx hz8 hz9 hz10 hz12 h_k h_j h_ca c26_1 b56_19 hb_24 c68_25 hb_30 hw_32) (g_X11_feesOf_k_v9 u x y z k P x4 x5 x6 uc r_33 hk hca hx hz8 hz9 hz10 hz12 h_k h_j h_ca c26_1 b56_19 hb_24 c68_25 hb_30 hw_32) hCA (Nat.lt_of_lt_of_le (g_X11_feesOf_k_v10 u x y z k P x4 x5 x6 uc r_33 hk hca hx hz8 hz9 hz10 hz12 h_k h_j h_ca c26_1 b56_19 hb_24 c68_25 hb_30 hw_32) (Nat.lt_succ_iff.mp hmu)) hU hS (lv_sub hl [3, 4, 5, 6, 7, 1, 0] rfl)
          · refine lv_if_eq (tgt := 106) hF.1 hF.2.1 dX11_feesOf_59 (by decide) (fun _ => ?_) (fun h9 => absurd (by decide) h9)
            refine lv_iinc (v := x6 + 1) (lv' := [(6, .int (x6 + 1)), (7, .ref a_2), (0, .ref (E.2.2 1199)), (1, .int x), (2, .int y), (3, .int z), (4, .int x4), (5, .int x5)]) hF.1 hF.2.1 dX11_feesOf_106 hl (k := 7) rfl rfl (by decide) rfl (fun ls hl => ?_)
            refine lv_goto (tgt := 22) hF.1 hF.2.1 dX11_feesOf_109 (by decide) ?_
            exact ih x4 x5 (x6 + 1) uc _ _ _ hfr hI  (g_X11_feesOf_k_v11 u x y z k P x4 x5 x6 uc hk hca hx hz8 hz9 hz10 hz12 h_k h_j h_ca c26_1 b56_19) (g_X11_feesOf_k_v12 u x y z k P x4 x5 x6 uc hk hca hx hz8 hz9 hz10 hz12 h_k h_j h_ca c26_1 b56_19) hCA (Nat.lt_of_lt_of_le (g_X11_feesOf_k_v13 u x y z k P x4 x5 x6 uc hk hca hx hz8 hz9 hz10 hz12 h_k h_j h_ca c26_1 b56_19) (Nat.lt_succ_iff.mp hmu)) hU hS (lv_sub hl [2, 3, 4, 5, 6, 7, 0] rfl)
        · refine lv_if_eq (tgt := 106) hF.1 hF.2.1 dX11_feesOf_46 (by decide) (fun _ => ?_) (fun h9 => absurd (by decide) h9)
          refine lv_iinc (v := x6 + 1) (lv' := [(6, .int (x6 + 1)), (7, .ref a_2), (0, .ref (E.2.2 1199)), (1, .int x), (2, .int y), (3, .int z), (4, .int x4), (5, .int x5)]) hF.1 hF.2.1 dX11_feesOf_106 hl (k := 7) rfl rfl (by decide) rfl (fun ls hl => ?_)
          refine lv_goto (tgt := 22) hF.1 hF.2.1 dX11_feesOf_109 (by decide) ?_
          exact ih x4 x5 (x6 + 1) uc _ _ _ hfr hI  (g_X11_feesOf_k_v14 u x y z k P x4 x5 x6 uc hk hca hx hz8 hz9 hz10 hz12 h_k h_j h_ca c26_1) (g_X11_feesOf_k_v15 u x y z k P x4 x5 x6 uc hk hca hx hz8 hz9 hz10 hz12 h_k h_j h_ca c26_1) hCA (Nat.lt_of_lt_of_le (g_X11_feesOf_k_v16 u x y z k P x4 x5 x6 uc hk hca hx hz8 hz9 hz10 hz12 h_k h_j h_ca c26_1) (Nat.lt_succ_iff.mp hmu)) hU hS (lv_sub hl [2, 3, 4, 5, 6, 7, 0] rfl)
  refine lv_aload_n hF.1 hF.2.1 dX11_feesOf_0 rfl (lv_at hl 0 rfl) ?_
  refine q_get (v := .ref (E.2.2 999)) hF hU dX11_feesOf_1 0 11 3 1103 1199 rfl rfl rfl rfl inX11 (by decide) (by decide) w_439 rfl rfl ?_
  have hM9 := g_X9_refresh_k l E A u k P hI hk hCA.1
  have hR9 := q_runV (l := l) (e := e0) (below := bl0) (meth := me0) (R := qR 7 0 0) (cells := 0) (slots := 0) (st0 := [.ref (E.2.2 999)]) (rest := []) hF hU hS hA 0 4 9 999 rfl rfl rfl hM9 w_843 w_844 w_845 w_103 w_846 (by decide +kernel) ⟨Nat.le_of_ble_eq_true rfl, Nat.le_of_ble_eq_true rfl⟩ dX11_feesOf_4 rfl hl.1 rfl (Nat.le_of_ble_eq_true rfl) ⟨Nat.le_of_ble_eq_true rfl, Nat.le_of_ble_eq_true rfl⟩
  refine q_callv hR9 hU.2.2.2 hS (fun u_34 H locs hw_35 hU hS => ?_)
  obtain ⟨⟨hw_35_f, hI⟩, hw_35⟩ := hw_35
  have hfo := hfr
  have hfr : qFc [900, 901, 902, 908, 909] [905, 906, 907] [] [904, 5010] u u_34 := hfr.trans (hw_35_f.mono (by decide) (by decide) (by decide) (by decide))
  obtain ⟨S_37, hST, hq_38⟩ := hw_35
  have hCA : t_ca k u_34 := hCA.tr hw_35_f hST hq_38.1 hq_38.2 (by decide) (by decide) (by decide)
  have hq_38 : f_fi (k) S_37 ∧ u_34.1 909 = u.1 18 := hq_38
  refine lv_aload_n hF.1 hF.2.1 dX11_feesOf_7 rfl (lv_at hl 0 rfl) ?_
  refine q_get (v := .ref (E.2.2 99)) hF hU dX11_feesOf_8 0 11 0 1100 1199 rfl rfl rfl rfl inX11 (by decide) (by decide) w_436 rfl rfl ?_
  have hM9 := g_X0_knownVisits l E A u_34  hI
  have hR9 := q_runV (l := l) (e := e0) (below := bl0) (meth := me0) (R := qR 7 0 0) (cells := 0) (slots := 0) (st0 := [.ref (E.2.2 99)]) (rest := []) hF hU hS hA 0 1 0 99 rfl rfl rfl hM9 w_1175 w_903 w_904 w_100 w_905 (by decide +kernel) ⟨Nat.le_of_ble_eq_true rfl, Nat.le_of_ble_eq_true rfl⟩ dX11_feesOf_11 rfl hl.1 rfl (Nat.le_of_ble_eq_true rfl) ⟨Nat.le_of_ble_eq_true rfl, Nat.le_of_ble_eq_true rfl⟩
  refine q_calli hR9 hU.2.2.2 hS (fun r_41 u_39 H locs hw_40 hU hS => ?_)
  obtain ⟨hw_40_e, hw_40⟩ := hw_40
  rw [hw_40_e] at hU
  have hw_40 : 0 ≤ r_41 ∧ r_41 ≤ (u.1 10 : Int32) := by rw [(hfr.1 10 (by decide))] at hw_40; exact hw_40
  refine lv_istore (lv' := [(4, .int r_41), (0, .ref (E.2.2 1199)), (1, .int x), (2, .int y), (3, .int z)]) hF.1 hF.2.1 dX11_feesOf_14 hl (by decide) rfl (fun ls hl => ?_)
  refine lv_iconst (v := 0) hF.1 hF.2.1 dX11_feesOf_16 (by decide) ?_
  refine lv_istore (lv' := [(5, .int 0), (4, .int r_41), (0, .ref (E.2.2 1199)), (1, .int x), (2, .int y), (3, .int z)]) hF.1 hF.2.1 dX11_feesOf_17 hl (by decide) rfl (fun ls hl => ?_)
  refine lv_iconst (v := 0) hF.1 hF.2.1 dX11_feesOf_19 (by decide) ?_
  refine lv_istore (lv' := [(6, .int 0), (5, .int 0), (4, .int r_41), (0, .ref (E.2.2 1199)), (1, .int x), (2, .int y), (3, .int z)]) hF.1 hF.2.1 dX11_feesOf_20 hl (by decide) rfl (fun ls hl => ?_)
  exact (main _) r_41 (0 : Int32) (0 : Int32) u_34 _ _ _ hfr hI  (g_X11_feesOf_k_v17 u x y z k P u_34 S_37 r_41 hk hca hx hz8 hz9 hz10 hz12 hq_38 hw_40) (g_X11_feesOf_k_v18 u x y z k P u_34 S_37 r_41 hk hca hx hz8 hz9 hz10 hz12 hq_38 hw_40) hCA (Nat.lt_succ_self _) hU hS (lv_sub hl [3, 4, 5, 6, 2, 1, 0] rfl)
set_option maxRecDepth 100000 in
theorem g_X11_apart_k_v0 (u : qS) (x : Int32) (y : Int32) (z : Int32) (w : Int32) (k : qS) (P : Nat → Int32) (u_1 : qS) (S_6 : Nat → Int32) (B_7 : Nat → Int32) (hk : CT k P u) (hca : t_ca k u) (hz8 : 0 ≤ u.1 8 ∧ u.1 8 ≤ 20) (hz9 : 0 ≤ u.1 9 ∧ u.1 9 ≤ 8) (hz10 : 0 ≤ u.1 10 ∧ u.1 10 ≤ 120) (hz12 : 0 ≤ u.1 12 ∧ u.1 12 ≤ 16) (hm_9 : f_fi (k) S_6) (hm_10 : m_R (k) B_7 (f_M (k)) (u_1.2.1 303) (u_1.2.1 304) (u_1.2.1 305)) (c9_11 : ¬ (x : Int32) = y) : f_fi k S_6 := by
  first | omega | ((try simp only [g_m1, Int32.lt_iff_toInt_lt, Int32.le_iff_toInt_le, ← Int32.toInt_inj, Int32.reduceToInt] at *); omega) | ((try simp only [g_m1, Int32.lt_iff_toInt_lt, Int32.le_iff_toInt_le, ← Int32.toInt_inj, Int32.reduceToInt] at *); omega) | ((try simp only [g_m1, Int32.lt_iff_toInt_lt, Int32.le_iff_toInt_le, ← Int32.toInt_inj, Int32.toInt_add, Int32.toInt_sub, Int32.toInt_mul, Int32.toInt_neg, Int32.reduceToInt, g_bm, g_bm'] at *); omega) | (have qr1 := g_rng x; have qr2 := g_rng y; have qr3 := g_rng z; have qr4 := g_rng w; (try simp only [g_m1, Int32.lt_iff_toInt_lt, Int32.le_iff_toInt_le, ← Int32.toInt_inj, Int32.toInt_add, Int32.toInt_sub, Int32.toInt_mul, Int32.toInt_neg, Int32.reduceToInt, g_bm, g_bm'] at *); omega) | (simp only [g_m1, Int32.lt_iff_toInt_lt, Int32.le_iff_toInt_le, ← Int32.toInt_inj, Int32.toInt_add, Int32.toInt_sub, Int32.toInt_mul, Int32.toInt_neg, Int32.reduceToInt, g_bm, g_bm'] at *; simp at *; omega) | (simp_all; done)
set_option maxRecDepth 100000 in
theorem g_X11_apart_k_v1 (u : qS) (x : Int32) (y : Int32) (z : Int32) (w : Int32) (k : qS) (P : Nat → Int32) (u_1 : qS) (S_6 : Nat → Int32) (B_7 : Nat → Int32) (u_12 : qS) (hk : CT k P u) (hca : t_ca k u) (hz8 : 0 ≤ u.1 8 ∧ u.1 8 ≤ 20) (hz9 : 0 ≤ u.1 9 ∧ u.1 9 ≤ 8) (hz10 : 0 ≤ u.1 10 ∧ u.1 10 ≤ 120) (hz12 : 0 ≤ u.1 12 ∧ u.1 12 ≤ 16) (hm_9 : f_fi (k) S_6) (hm_10 : m_R (k) B_7 (f_M (k)) (u_1.2.1 303) (u_1.2.1 304) (u_1.2.1 305)) (c9_11 : ¬ (x : Int32) = y) (b17_36 : f_HM (k) x z w ∧ m_A (k) (fun _ => 1) z w (u_12.2.1 307) ((k).1 1247).toNatClampNeg) (b28_40 : 0 ≤ y ∧ y < (u.1 8 : Int32)) : 0 ≤ y ∧ y < (u.1 8 : Int32) := by
  first | assumption | (rw [hk.1.2.1]; exact b17_36.1.1)
set_option maxRecDepth 100000 in
theorem g_X11_apart_k_v2 (u : qS) (x : Int32) (y : Int32) (z : Int32) (w : Int32) (k : qS) (P : Nat → Int32) (u_1 : qS) (S_6 : Nat → Int32) (B_7 : Nat → Int32) (u_12 : qS) (hk : CT k P u) (hca : t_ca k u) (hz8 : 0 ≤ u.1 8 ∧ u.1 8 ≤ 20) (hz9 : 0 ≤ u.1 9 ∧ u.1 9 ≤ 8) (hz10 : 0 ≤ u.1 10 ∧ u.1 10 ≤ 120) (hz12 : 0 ≤ u.1 12 ∧ u.1 12 ≤ 16) (hm_9 : f_fi (k) S_6) (hm_10 : m_R (k) B_7 (f_M (k)) (u_1.2.1 303) (u_1.2.1 304) (u_1.2.1 305)) (c9_11 : ¬ (x : Int32) = y) (b17_36 : f_HM (k) x z w ∧ m_A (k) (fun _ => 1) z w (u_12.2.1 307) ((k).1 1247).toNatClampNeg) (b28_40 : 0 ≤ y ∧ y < (u.1 8 : Int32)) (b39_44 : 0 < (u_12.2.1 307) y.toNatClampNeg) : 0 ≤ x ∧ x < (u.1 8 : Int32) := by
  first | assumption | (rw [hk.1.2.1]; exact b17_36.1.1)
set_option maxRecDepth 100000 in
theorem g_X11_apart_k_v3 (u : qS) (x : Int32) (y : Int32) (z : Int32) (w : Int32) (k : qS) (P : Nat → Int32) (u_1 : qS) (S_6 : Nat → Int32) (B_7 : Nat → Int32) (u_12 : qS) (hk : CT k P u) (hca : t_ca k u) (hz8 : 0 ≤ u.1 8 ∧ u.1 8 ≤ 20) (hz9 : 0 ≤ u.1 9 ∧ u.1 9 ≤ 8) (hz10 : 0 ≤ u.1 10 ∧ u.1 10 ≤ 120) (hz12 : 0 ≤ u.1 12 ∧ u.1 12 ≤ 16) (hm_9 : f_fi (k) S_6) (hm_10 : m_R (k) B_7 (f_M (k)) (u_1.2.1 303) (u_1.2.1 304) (u_1.2.1 305)) (c9_11 : ¬ (x : Int32) = y) (b17_36 : f_HM (k) x z w ∧ m_A (k) (fun _ => 1) z w (u_12.2.1 307) ((k).1 1247).toNatClampNeg) (b28_40 : 0 ≤ y ∧ y < (u.1 8 : Int32)) (b39_44 : 0 < (u_12.2.1 307) y.toNatClampNeg) : 0 ≤ y ∧ y < (u.1 8 : Int32) := by
  first | assumption | (rw [hk.1.2.1]; exact b17_36.1.1)
set_option maxRecDepth 100000 in
theorem g_X11_apart_k_v4 (u : qS) (x : Int32) (y : Int32) (z : Int32) (w : Int32) (k : qS) (P : Nat → Int32) (u_1 : qS) (S_6 : Nat → Int32) (B_7 : Nat → Int32) (u_12 : qS) (hk : CT k P u) (hca : t_ca k u) (hz8 : 0 ≤ u.1 8 ∧ u.1 8 ≤ 20) (hz9 : 0 ≤ u.1 9 ∧ u.1 9 ≤ 8) (hz10 : 0 ≤ u.1 10 ∧ u.1 10 ≤ 120) (hz12 : 0 ≤ u.1 12 ∧ u.1 12 ≤ 16) (hm_9 : f_fi (k) S_6) (hm_10 : m_R (k) B_7 (f_M (k)) (u_1.2.1 303) (u_1.2.1 304) (u_1.2.1 305)) (c9_11 : ¬ (x : Int32) = y) (b17_36 : f_HM (k) x z w ∧ m_A (k) (fun _ => 1) z w (u_12.2.1 307) ((k).1 1247).toNatClampNeg) (b28_40 : 0 ≤ y ∧ y < (u.1 8 : Int32)) (b39_44 : 0 < (u_12.2.1 307) y.toNatClampNeg) : 0 ≤ y ∧ y < (u.1 8 : Int32) := by
  first | assumption | (rw [hk.1.2.1]; exact b17_36.1.1)
set_option maxRecDepth 100000 in
theorem g_X11_apart_k_v5 (u : qS) (x : Int32) (y : Int32) (z : Int32) (w : Int32) (k : qS) (P : Nat → Int32) (u_1 : qS) (S_6 : Nat → Int32) (B_7 : Nat → Int32) (u_12 : qS) (hk : CT k P u) (hca : t_ca k u) (hz8 : 0 ≤ u.1 8 ∧ u.1 8 ≤ 20) (hz9 : 0 ≤ u.1 9 ∧ u.1 9 ≤ 8) (hz10 : 0 ≤ u.1 10 ∧ u.1 10 ≤ 120) (hz12 : 0 ≤ u.1 12 ∧ u.1 12 ≤ 16) (hm_9 : f_fi (k) S_6) (hm_10 : m_R (k) B_7 (f_M (k)) (u_1.2.1 303) (u_1.2.1 304) (u_1.2.1 305)) (c9_11 : ¬ (x : Int32) = y) (b17_36 : f_HM (k) x z w ∧ m_A (k) (fun _ => 1) z w (u_12.2.1 307) ((k).1 1247).toNatClampNeg) (b28_40 : 0 ≤ y ∧ y < (u.1 8 : Int32)) (b39_44 : 0 < (u_12.2.1 307) y.toNatClampNeg) : 0 ≤ x ∧ x < (u.1 8 : Int32) := by
  first | assumption | (rw [hk.1.2.1]; exact b17_36.1.1)
set_option maxHeartbeats 1000000 in
set_option maxRecDepth 100000 in
theorem g_X11_apart_k (l : Launch) (E : qE) (A : Nat → Prop) (u : qS) (x : Int32) (y : Int32) (z : Int32) (w : Int32) (k : qS) (P : Nat → Int32) (hI : IC E u) (hk : CT k P u) (hca : t_ca k u) : Met l yX11_apart (uws yX11_apart cX11_apart 5 (some .int)) (qR 8 0 0) (qPc E A 0 u [.ref (E.2.2 1199), .int x, .int y, .int z, .int w]) (qQi E A 0 (fun r u1 => (qFc [900, 901, 902, 908, 909, 604, 605, 606, 607, 608, 609, 311] [905, 906, 907, 601, 602, 603, 303, 304, 305, 306, 307] [] [904, 5010, 5011, 5012, 5013, 5014] u u1 ∧ IC E u1) ∧ (t_ca k u1))) 0 0 A := by
  refine q_met (own := RX11) (f := 8) [.ref (E.2.2 1199), .int x, .int y, .int z, .int w] (by decide) (Nat.le_of_ble_eq_true rfl) rfl ?_
  intro p0 e0 s0 m0 bl0 me0 cd0 ls hF hr hlocks hU hS hA hl
  have hl : lv_has ls 5 [(0, .ref (E.2.2 1199)), (1, .int x), (2, .int y), (3, .int z), (4, .int w)] := hl
  have hz8 : 0 ≤ u.1 8 ∧ u.1 8 ≤ 20 := hI.1.s8
  have hz9 : 0 ≤ u.1 9 ∧ u.1 9 ≤ 8 := hI.1.s9
  have hz10 : 0 ≤ u.1 10 ∧ u.1 10 ≤ 120 := hI.1.s10
  have hz12 : 0 ≤ u.1 12 ∧ u.1 12 ≤ 16 := hI.1.s12
  have hfr : qFc [900, 901, 902, 908, 909, 604, 605, 606, 607, 608, 609, 311] [905, 906, 907, 601, 602, 603, 303, 304, 305, 306, 307] [] [904, 5010, 5011, 5012, 5013, 5014] u u := qFc.rf
  have hCA := hca
  refine lv_aload_n hF.1 hF.2.1 dX11_apart_0 rfl (lv_at hl 0 rfl) ?_
  refine q_get (v := .ref (E.2.2 399)) hF hU dX11_apart_1 0 11 5 1105 1199 rfl rfl rfl rfl inX11 (by decide) (by decide) w_441 rfl rfl ?_
  have hM9 := g_X3_refresh_k l E A u k P hI hk hCA
  have hR9 := q_runV (l := l) (e := e0) (below := bl0) (meth := me0) (R := qR 8 0 0) (cells := 0) (slots := 0) (st0 := [.ref (E.2.2 399)]) (rest := []) hF hU hS hA 0 6 3 399 rfl rfl rfl hM9 w_931 w_932 w_933 w_105 w_934 (by decide +kernel) ⟨Nat.le_of_ble_eq_true rfl, Nat.le_of_ble_eq_true rfl⟩ dX11_apart_4 rfl hl.1 rfl (Nat.le_of_ble_eq_true rfl) ⟨Nat.le_of_ble_eq_true rfl, Nat.le_of_ble_eq_true rfl⟩
  refine q_callv hR9 hU.2.2.2 hS (fun u_1 H locs hw_2 hU hS => ?_)
  obtain ⟨⟨hw_2_f, hI⟩, hw_2⟩ := hw_2
  have hfo := hfr
  have hfr : qFc [900, 901, 902, 908, 909, 604, 605, 606, 607, 608, 609, 311] [905, 906, 907, 601, 602, 603, 303, 304, 305, 306, 307] [] [904, 5010, 5011, 5012, 5013, 5014] u u_1 := hfr.trans (hw_2_f.mono (by decide) (by decide) (by decide) (by decide))
  have e_4 : u_1.2.1 306 = (u.2.1 306) := (hw_2_f.2.1 306 (by decide)).trans rfl
  have e_5 : u_1.2.1 307 = (u.2.1 307) := (hw_2_f.2.1 307 (by decide)).trans rfl
  have hCA := hw_2.1
  have hw_2 := hw_2.2
  obtain ⟨S_6, B_7, hST, hBT, hq_8⟩ := hw_2
  have hq_8 : f_fi (k) S_6 ∧ m_R (k) B_7 (f_M (k)) (u_1.2.1 303) (u_1.2.1 304) (u_1.2.1 305) := hq_8
  have hm_9 : f_fi (k) S_6 := hq_8.1
  have hm_10 : m_R (k) B_7 (f_M (k)) (u_1.2.1 303) (u_1.2.1 304) (u_1.2.1 305) := hq_8.2
  refine lv_iload_n hF.1 hF.2.1 dX11_apart_7 rfl (lv_at hl 1 rfl) ?_
  refine lv_iload_n hF.1 hF.2.1 dX11_apart_8 rfl (lv_at hl 2 rfl) ?_
  refine lv_icmp_eq (tgt := 45) hF.1 hF.2.1 dX11_apart_9 (by decide) (fun c9_11 => ?_) (fun c9_11 => ?_)
  · refine lv_iconst (v := (-1)) hF.1 hF.2.1 dX11_apart_45 (by decide) ?_
    exact q_iret hF hr rfl hlocks hU hS dX11_apart_46 ⟨⟨hfr, hI⟩, hCA⟩
  · refine lv_aload_n hF.1 hF.2.1 dX11_apart_12 rfl (lv_at hl 0 rfl) ?_
    refine lv_iload_n hF.1 hF.2.1 dX11_apart_13 rfl (lv_at hl 1 rfl) ?_
    refine lv_iload_n hF.1 hF.2.1 dX11_apart_14 rfl (lv_at hl 3 rfl) ?_
    refine lv_iload hF.1 hF.2.1 dX11_apart_15 (lv_at hl 4 rfl) ?_
    have hM9 := g_X11_hasMean_k l E A u_1 x z w k P S_6 hI (hk.fr hfr (by decide) (by decide)) hST (g_X11_apart_k_v0 u x y z w k P u_1 S_6 B_7 hk hca hz8 hz9 hz10 hz12 hm_9 hm_10 c9_11)
    have hR9 := q_runV (l := l) (e := e0) (below := bl0) (meth := me0) (R := qR 8 0 0) (cells := 0) (slots := 0) (st0 := [.int w, .int z, .int x, .ref (E.2.2 1199)]) (rest := []) hF hU hS hA 3 0 11 1199 rfl rfl rfl hM9 w_1013 w_1015 w_35 w_99 w_1016 (by decide +kernel) ⟨Nat.le_of_ble_eq_true rfl, Nat.le_of_ble_eq_true rfl⟩ dX11_apart_17 rfl hl.1 rfl (Nat.le_of_ble_eq_true rfl) ⟨Nat.le_of_ble_eq_true rfl, Nat.le_of_ble_eq_true rfl⟩
    refine q_calli hR9 hU.2.2.2 hS (fun r_14 u_12 H locs hw_13 hU hS => ?_)
    obtain ⟨⟨hw_13_f, hI, hw_13_d⟩, hw_13⟩ := hw_13
    have hfo := hfr
    have hfr : qFc [900, 901, 902, 908, 909, 604, 605, 606, 607, 608, 609, 311] [905, 906, 907, 601, 602, 603, 303, 304, 305, 306, 307] [] [904, 5010, 5011, 5012, 5013, 5014] u u_12 := hfr.trans (hw_13_f.mono (by decide) (by decide) (by decide) (by decide))
    have e_15 : u_12.1 311 = (u_1.1 311) := (hw_13_f.1 311 (by decide)).trans rfl
    have e_16 : u_12.1 604 = (u_1.1 604) := (hw_13_f.1 604 (by decide)).trans rfl
    have e_17 : u_12.1 605 = (u_1.1 605) := (hw_13_f.1 605 (by decide)).trans rfl
    have e_18 : u_12.1 606 = (u_1.1 606) := (hw_13_f.1 606 (by decide)).trans rfl
    have e_19 : u_12.1 607 = (u_1.1 607) := (hw_13_f.1 607 (by decide)).trans rfl
    have e_20 : u_12.1 608 = (u_1.1 608) := (hw_13_f.1 608 (by decide)).trans rfl
    have e_21 : u_12.1 609 = (u_1.1 609) := (hw_13_f.1 609 (by decide)).trans rfl
    have e_22 : u_12.1 900 = (u_1.1 900) := (hw_13_f.1 900 (by decide)).trans rfl
    have e_23 : u_12.1 901 = (u_1.1 901) := (hw_13_f.1 901 (by decide)).trans rfl
    have e_24 : u_12.1 902 = (u_1.1 902) := (hw_13_f.1 902 (by decide)).trans rfl
    have e_25 : u_12.1 908 = (u_1.1 908) := (hw_13_f.1 908 (by decide)).trans rfl
    have e_26 : u_12.1 909 = (u_1.1 909) := (hw_13_f.1 909 (by decide)).trans rfl
    have e_27 : u_12.2.1 303 = (u_1.2.1 303) := (hw_13_f.2.1 303 (by decide)).trans rfl
    have e_28 : u_12.2.1 304 = (u_1.2.1 304) := (hw_13_f.2.1 304 (by decide)).trans rfl
    have e_29 : u_12.2.1 305 = (u_1.2.1 305) := (hw_13_f.2.1 305 (by decide)).trans rfl
    have e_30 : u_12.2.1 601 = (u_1.2.1 601) := (hw_13_f.2.1 601 (by decide)).trans rfl
    have e_31 : u_12.2.1 602 = (u_1.2.1 602) := (hw_13_f.2.1 602 (by decide)).trans rfl
    have e_32 : u_12.2.1 603 = (u_1.2.1 603) := (hw_13_f.2.1 603 (by decide)).trans rfl
    have e_33 : u_12.2.1 905 = (u_1.2.1 905) := (hw_13_f.2.1 905 (by decide)).trans rfl
    have e_34 : u_12.2.1 906 = (u_1.2.1 906) := (hw_13_f.2.1 906 (by decide)).trans rfl
    have e_35 : u_12.2.1 907 = (u_1.2.1 907) := (hw_13_f.2.1 907 (by decide)).trans rfl
    have hCA : t_ca k u_12 := hCA.fr hw_13_f (by decide) (by decide) (by decide)
    have hST : qFD 10 S_6 u_12 := hST.fr hw_13_f (by decide) (by decide) (by decide) (by decide) (by decide)
    have hBT : qFD 11 B_7 u_12 := hBT.fr hw_13_f (by decide) (by decide) (by decide) (by decide) (by decide)
    have hw_13 : (r_14 = 1 ∧ (f_HM (k) x z w ∧ m_A (k) (fun _ => 1) z w (u_12.2.1 307) ((k).1 1247).toNatClampNeg)) ∨ (r_14 = 0 ∧ (¬ f_HM (k) x z w)) := hw_13
    rcases hw_13 with ⟨rfl, b17_36⟩ | ⟨rfl, b17_36⟩
    · refine lv_if_eq (tgt := 45) hF.1 hF.2.1 dX11_apart_20 (by decide) (fun h9 => absurd h9 (by decide)) (fun _ => ?_)
      refine lv_aload_n hF.1 hF.2.1 dX11_apart_23 rfl (lv_at hl 0 rfl) ?_
      refine q_get (v := .ref (E.2.2 99)) hF hU dX11_apart_24 0 11 0 1100 1199 rfl rfl rfl rfl inX11 (by decide) (by decide) w_436 rfl rfl ?_
      refine lv_iload_n hF.1 hF.2.1 dX11_apart_27 rfl (lv_at hl 2 rfl) ?_
      have hM9 := g_X0_hasShop l E A u_12 y hI
      have hR9 := q_runV (l := l) (e := e0) (below := bl0) (meth := me0) (R := qR 8 0 0) (cells := 0) (slots := 0) (st0 := [.int y, .ref (E.2.2 99)]) (rest := []) hF hU hS hA 1 1 0 99 rfl rfl rfl hM9 w_563 w_564 w_565 w_100 w_566 (by decide +kernel) ⟨Nat.le_of_ble_eq_true rfl, Nat.le_of_ble_eq_true rfl⟩ dX11_apart_28 rfl hl.1 rfl (Nat.le_of_ble_eq_true rfl) ⟨Nat.le_of_ble_eq_true rfl, Nat.le_of_ble_eq_true rfl⟩
      refine q_calli hR9 hU.2.2.2 hS (fun r_39 u_37 H locs hw_38 hU hS => ?_)
      obtain ⟨hw_38_e, hw_38⟩ := hw_38
      rw [hw_38_e] at hU
      have hw_38 : (r_39 = 1 ∧ (0 ≤ y ∧ y < (u.1 8 : Int32))) ∨ (r_39 = 0 ∧ (¬ (0 ≤ y ∧ y < (u.1 8 : Int32)))) := by rw [(hfr.1 8 (by decide))] at hw_38; exact hw_38
      rcases hw_38 with ⟨rfl, b28_40⟩ | ⟨rfl, b28_40⟩
      · refine lv_if_eq (tgt := 45) hF.1 hF.2.1 dX11_apart_31 (by decide) (fun h9 => absurd h9 (by decide)) (fun _ => ?_)
        refine lv_aload_n hF.1 hF.2.1 dX11_apart_34 rfl (lv_at hl 0 rfl) ?_
        refine q_get (v := .ref (E.2.2 399)) hF hU dX11_apart_35 0 11 5 1105 1199 rfl rfl rfl rfl inX11 (by decide) (by decide) w_441 rfl rfl ?_
        refine lv_iload_n hF.1 hF.2.1 dX11_apart_38 rfl (lv_at hl 2 rfl) ?_
        have hM9 := g_X3_isMet_k l E A u_12 y k P hI (hk.fr hfr (by decide) (by decide)) (by rw [(hfr.1 8 (by decide))]; exact (g_X11_apart_k_v1 u x y z w k P u_1 S_6 B_7 u_12 hk hca hz8 hz9 hz10 hz12 hm_9 hm_10 c9_11 b17_36 b28_40))
        have hR9 := q_runV (l := l) (e := e0) (below := bl0) (meth := me0) (R := qR 8 0 0) (cells := 0) (slots := 0) (st0 := [.int y, .ref (E.2.2 399)]) (rest := []) hF hU hS hA 1 6 3 399 rfl rfl rfl hM9 w_1033 w_1034 w_1035 w_105 w_1036 (by decide +kernel) ⟨Nat.le_of_ble_eq_true rfl, Nat.le_of_ble_eq_true rfl⟩ dX11_apart_39 rfl hl.1 rfl (Nat.le_of_ble_eq_true rfl) ⟨Nat.le_of_ble_eq_true rfl, Nat.le_of_ble_eq_true rfl⟩
        refine q_calli hR9 hU.2.2.2 hS (fun r_43 u_41 H locs hw_42 hU hS => ?_)
        obtain ⟨hw_42_e, hw_42⟩ := hw_42
        rw [hw_42_e] at hU
        have hw_42 : (r_43 = 1 ∧ (0 < (u_12.2.1 307) y.toNatClampNeg)) ∨ (r_43 = 0 ∧ (¬ (0 < (u_12.2.1 307) y.toNatClampNeg))) := hw_42
        rcases hw_42 with ⟨rfl, b39_44⟩ | ⟨rfl, b39_44⟩
        · refine lv_if_ne (tgt := 47) hF.1 hF.2.1 dX11_apart_42 (by decide) (fun _ => ?_) (fun h9 => absurd h9 (by decide))
          refine lv_aload_n hF.1 hF.2.1 dX11_apart_47 rfl (lv_at hl 0 rfl) ?_
          refine q_get (v := .ref (E.2.2 399)) hF hU dX11_apart_48 0 11 5 1105 1199 rfl rfl rfl rfl inX11 (by decide) (by decide) w_441 rfl rfl ?_
          refine lv_iload_n hF.1 hF.2.1 dX11_apart_51 rfl (lv_at hl 1 rfl) ?_
          refine lv_iload_n hF.1 hF.2.1 dX11_apart_52 rfl (lv_at hl 2 rfl) ?_
          refine lv_aload_n hF.1 hF.2.1 dX11_apart_53 rfl (lv_at hl 0 rfl) ?_
          refine q_get (v := .int (u.1 1108)) hF hU dX11_apart_54 0 11 8 1108 1199 rfl rfl rfl rfl inX11 (by decide) (by decide) w_444 rfl (congrArg Value.int (hfr.1 1108 (by decide))) ?_
          have hM9 := g_X3_isLess l E A u_12 x y (u.1 1108) hI (by rw [(hfr.1 8 (by decide))]; exact (g_X11_apart_k_v2 u x y z w k P u_1 S_6 B_7 u_12 hk hca hz8 hz9 hz10 hz12 hm_9 hm_10 c9_11 b17_36 b28_40 b39_44)) (by rw [(hfr.1 8 (by decide))]; exact (g_X11_apart_k_v3 u x y z w k P u_1 S_6 B_7 u_12 hk hca hz8 hz9 hz10 hz12 hm_9 hm_10 c9_11 b17_36 b28_40 b39_44))
          have hR9 := q_runV (l := l) (e := e0) (below := bl0) (meth := me0) (R := qR 8 0 0) (cells := 0) (slots := 0) (st0 := [.int (u.1 1108), .int y, .int x, .ref (E.2.2 399)]) (rest := []) hF hU hS hA 3 6 3 399 rfl rfl rfl hM9 w_1045 w_1046 w_1047 w_105 w_1048 (by decide +kernel) ⟨Nat.le_of_ble_eq_true rfl, Nat.le_of_ble_eq_true rfl⟩ dX11_apart_57 rfl hl.1 rfl (Nat.le_of_ble_eq_true rfl) ⟨Nat.le_of_ble_eq_true rfl, Nat.le_of_ble_eq_true rfl⟩
          refine q_calli hR9 hU.2.2.2 hS (fun r_47 u_45 H locs hw_46 hU hS => ?_)
          obtain ⟨hw_46_e, hw_46⟩ := hw_46
          rw [hw_46_e] at hU
          rcases hw_46 with rfl | rfl
          · refine lv_if_eq (tgt := 65) hF.1 hF.2.1 dX11_apart_60 (by decide) (fun h9 => absurd h9 (by decide)) (fun _ => ?_)
            refine lv_iconst (v := 1) hF.1 hF.2.1 dX11_apart_63 (by decide) ?_
            exact q_iret hF hr rfl hlocks hU hS dX11_apart_64 ⟨⟨hfr, hI⟩, hCA⟩
          · refine lv_if_eq (tgt := 65) hF.1 hF.2.1 dX11_apart_60 (by decide) (fun _ => ?_) (fun h9 => absurd (by decide) h9)
            refine lv_aload_n hF.1 hF.2.1 dX11_apart_65 rfl (lv_at hl 0 rfl) ?_
            refine q_get (v := .ref (E.2.2 399)) hF hU dX11_apart_66 0 11 5 1105 1199 rfl rfl rfl rfl inX11 (by decide) (by decide) w_441 rfl rfl ?_
            refine lv_iload_n hF.1 hF.2.1 dX11_apart_69 rfl (lv_at hl 2 rfl) ?_
            refine lv_iload_n hF.1 hF.2.1 dX11_apart_70 rfl (lv_at hl 1 rfl) ?_
            refine lv_aload_n hF.1 hF.2.1 dX11_apart_71 rfl (lv_at hl 0 rfl) ?_
            refine q_get (v := .int (u.1 1108)) hF hU dX11_apart_72 0 11 8 1108 1199 rfl rfl rfl rfl inX11 (by decide) (by decide) w_444 rfl (congrArg Value.int (hfr.1 1108 (by decide))) ?_
            have hM9 := g_X3_isLess l E A u_12 y x (u.1 1108) hI (by rw [(hfr.1 8 (by decide))]; exact (g_X11_apart_k_v4 u x y z w k P u_1 S_6 B_7 u_12 hk hca hz8 hz9 hz10 hz12 hm_9 hm_10 c9_11 b17_36 b28_40 b39_44)) (by rw [(hfr.1 8 (by decide))]; exact (g_X11_apart_k_v5 u x y z w k P u_1 S_6 B_7 u_12 hk hca hz8 hz9 hz10 hz12 hm_9 hm_10 c9_11 b17_36 b28_40 b39_44))
            have hR9 := q_runV (l := l) (e := e0) (below := bl0) (meth := me0) (R := qR 8 0 0) (cells := 0) (slots := 0) (st0 := [.int (u.1 1108), .int x, .int y, .ref (E.2.2 399)]) (rest := []) hF hU hS hA 3 6 3 399 rfl rfl rfl hM9 w_1045 w_1046 w_1047 w_105 w_1048 (by decide +kernel) ⟨Nat.le_of_ble_eq_true rfl, Nat.le_of_ble_eq_true rfl⟩ dX11_apart_75 rfl hl.1 rfl (Nat.le_of_ble_eq_true rfl) ⟨Nat.le_of_ble_eq_true rfl, Nat.le_of_ble_eq_true rfl⟩
            refine q_calli hR9 hU.2.2.2 hS (fun r_51 u_49 H locs hw_50 hU hS => ?_)
            obtain ⟨hw_50_e, hw_50⟩ := hw_50
            rw [hw_50_e] at hU
            rcases hw_50 with rfl | rfl
            · refine lv_if_eq (tgt := 85) hF.1 hF.2.1 dX11_apart_78 (by decide) (fun h9 => absurd h9 (by decide)) (fun _ => ?_)
              refine lv_iconst (v := 2) hF.1 hF.2.1 dX11_apart_81 (by decide) ?_
              refine lv_goto (tgt := 86) hF.1 hF.2.1 dX11_apart_82 (by decide) ?_
              exact q_iret hF hr rfl hlocks hU hS dX11_apart_86 ⟨⟨hfr, hI⟩, hCA⟩
            · refine lv_if_eq (tgt := 85) hF.1 hF.2.1 dX11_apart_78 (by decide) (fun _ => ?_) (fun h9 => absurd (by decide) h9)
              refine lv_iconst (v := 0) hF.1 hF.2.1 dX11_apart_85 (by decide) ?_
              exact q_iret hF hr rfl hlocks hU hS dX11_apart_86 ⟨⟨hfr, hI⟩, hCA⟩
        · refine lv_if_ne (tgt := 47) hF.1 hF.2.1 dX11_apart_42 (by decide) (fun h9 => absurd (by decide) h9) (fun _ => ?_)
          refine lv_iconst (v := (-1)) hF.1 hF.2.1 dX11_apart_45 (by decide) ?_
          exact q_iret hF hr rfl hlocks hU hS dX11_apart_46 ⟨⟨hfr, hI⟩, hCA⟩
      · refine lv_if_eq (tgt := 45) hF.1 hF.2.1 dX11_apart_31 (by decide) (fun _ => ?_) (fun h9 => absurd (by decide) h9)
        refine lv_iconst (v := (-1)) hF.1 hF.2.1 dX11_apart_45 (by decide) ?_
        exact q_iret hF hr rfl hlocks hU hS dX11_apart_46 ⟨⟨hfr, hI⟩, hCA⟩
    · refine lv_if_eq (tgt := 45) hF.1 hF.2.1 dX11_apart_20 (by decide) (fun _ => ?_) (fun h9 => absurd (by decide) h9)
      refine lv_iconst (v := (-1)) hF.1 hF.2.1 dX11_apart_45 (by decide) ?_
      exact q_iret hF hr rfl hlocks hU hS dX11_apart_46 ⟨⟨hfr, hI⟩, hCA⟩
set_option maxRecDepth 100000 in
theorem g_X11_order_k_v0 (u : qS) (x : Int32) (y : Int32) (z : Int32) (w : Int32) (k : qS) (P : Nat → Int32) (u_13 : qS) (S_21 : Nat → Int32) (B_22 : Nat → Int32) (hk : CT k P u) (hca : t_ca k u) (hz8 : 0 ≤ u.1 8 ∧ u.1 8 ≤ 20) (hz9 : 0 ≤ u.1 9 ∧ u.1 9 ≤ 8) (hz10 : 0 ≤ u.1 10 ∧ u.1 10 ≤ 120) (hz12 : 0 ≤ u.1 12 ∧ u.1 12 ≤ 16) (b1_4 : 0 ≤ x ∧ x ≤ 3) (b9_8 : (0 ≤ y ∧ y ≤ 9999) ∧ (0 ≤ z ∧ z ≤ 9999) ∧ y ≤ z) (b19_12 : (0 : Int32) ≤ w ∧ w ≤ (1 : Int32)) (hm_24 : f_fi (k) S_21) (hm_25 : m_R (k) B_22 (f_M (k)) (u_13.2.1 303) (u_13.2.1 304) (u_13.2.1 305)) : f_fi k S_21 := by
  first | omega | ((try simp only [g_m1, Int32.lt_iff_toInt_lt, Int32.le_iff_toInt_le, ← Int32.toInt_inj, Int32.reduceToInt] at *); omega) | ((try simp only [g_m1, Int32.lt_iff_toInt_lt, Int32.le_iff_toInt_le, ← Int32.toInt_inj, Int32.reduceToInt] at *); omega) | ((try simp only [g_m1, Int32.lt_iff_toInt_lt, Int32.le_iff_toInt_le, ← Int32.toInt_inj, Int32.toInt_add, Int32.toInt_sub, Int32.toInt_mul, Int32.toInt_neg, Int32.reduceToInt, g_bm, g_bm'] at *); omega) | (have qr1 := g_rng x; have qr2 := g_rng y; have qr3 := g_rng z; have qr4 := g_rng w; (try simp only [g_m1, Int32.lt_iff_toInt_lt, Int32.le_iff_toInt_le, ← Int32.toInt_inj, Int32.toInt_add, Int32.toInt_sub, Int32.toInt_mul, Int32.toInt_neg, Int32.reduceToInt, g_bm, g_bm'] at *); omega) | (simp only [g_m1, Int32.lt_iff_toInt_lt, Int32.le_iff_toInt_le, ← Int32.toInt_inj, Int32.toInt_add, Int32.toInt_sub, Int32.toInt_mul, Int32.toInt_neg, Int32.reduceToInt, g_bm, g_bm'] at *; simp at *; omega) | (simp_all; done)
set_option maxRecDepth 100000 in
theorem g_X11_order_k_v1 (u : qS) (x : Int32) (y : Int32) (z : Int32) (w : Int32) (k : qS) (P : Nat → Int32) (u_13 : qS) (S_21 : Nat → Int32) (B_22 : Nat → Int32) (u_26 : qS) (u_53 : qS) (r_55 : Int32) (hk : CT k P u) (hca : t_ca k u) (hz8 : 0 ≤ u.1 8 ∧ u.1 8 ≤ 20) (hz9 : 0 ≤ u.1 9 ∧ u.1 9 ≤ 8) (hz10 : 0 ≤ u.1 10 ∧ u.1 10 ≤ 120) (hz12 : 0 ≤ u.1 12 ∧ u.1 12 ≤ 16) (b1_4 : 0 ≤ x ∧ x ≤ 3) (b9_8 : (0 ≤ y ∧ y ≤ 9999) ∧ (0 ≤ z ∧ z ≤ 9999) ∧ y ≤ z) (b19_12 : (0 : Int32) ≤ w ∧ w ≤ (1 : Int32)) (hm_24 : f_fi (k) S_21) (hm_25 : m_R (k) B_22 (f_M (k)) (u_13.2.1 303) (u_13.2.1 304) (u_13.2.1 305)) (hw_27 : m_A (k) (fun _ => 1) y z (u_26.2.1 307) ((k).1 1247).toNatClampNeg) (hp_80 : (0 ≤ (u_53.1 310).toInt ∧ (u_53.1 310).toInt ≤ 20)) (hp_81 : g_rw (u_53.2.1 308) (u_53.1 310).toInt 0 ((u.1 8 : Int32)).toInt) (hp_82 : r_55 = u_53.1 310) (c51_83 : ¬ (r_55 : Int32) = 0) (c58_84 : ¬ (w : Int32) = 0) : 0 ≤ ((u_53.1 310 : Int32)).toInt ∧ ((u_53.1 310 : Int32)).toInt ≤ 20 := by
  first | assumption | ((try simp only [g_m1, Int32.lt_iff_toInt_lt, Int32.le_iff_toInt_le, ← Int32.toInt_inj, Int32.reduceToInt] at *); omega)
set_option maxRecDepth 100000 in
theorem g_X11_order_k_v2 (u : qS) (x : Int32) (y : Int32) (z : Int32) (w : Int32) (k : qS) (P : Nat → Int32) (u_13 : qS) (S_21 : Nat → Int32) (B_22 : Nat → Int32) (u_26 : qS) (u_53 : qS) (r_55 : Int32) (hk : CT k P u) (hca : t_ca k u) (hz8 : 0 ≤ u.1 8 ∧ u.1 8 ≤ 20) (hz9 : 0 ≤ u.1 9 ∧ u.1 9 ≤ 8) (hz10 : 0 ≤ u.1 10 ∧ u.1 10 ≤ 120) (hz12 : 0 ≤ u.1 12 ∧ u.1 12 ≤ 16) (b1_4 : 0 ≤ x ∧ x ≤ 3) (b9_8 : (0 ≤ y ∧ y ≤ 9999) ∧ (0 ≤ z ∧ z ≤ 9999) ∧ y ≤ z) (b19_12 : (0 : Int32) ≤ w ∧ w ≤ (1 : Int32)) (hm_24 : f_fi (k) S_21) (hm_25 : m_R (k) B_22 (f_M (k)) (u_13.2.1 303) (u_13.2.1 304) (u_13.2.1 305)) (hw_27 : m_A (k) (fun _ => 1) y z (u_26.2.1 307) ((k).1 1247).toNatClampNeg) (hp_80 : (0 ≤ (u_53.1 310).toInt ∧ (u_53.1 310).toInt ≤ 20)) (hp_81 : g_rw (u_53.2.1 308) (u_53.1 310).toInt 0 ((u.1 8 : Int32)).toInt) (hp_82 : r_55 = u_53.1 310) (c51_83 : ¬ (r_55 : Int32) = 0) (c58_84 : ¬ (w : Int32) = 0) : g_rw ((u_53.2.1 308)) ((u_53.1 310 : Int32)).toInt 0 ((u.1 8 : Int32)).toInt := by
  first | assumption | ((try simp only [g_m1, Int32.lt_iff_toInt_lt, Int32.le_iff_toInt_le, ← Int32.toInt_inj, Int32.reduceToInt] at *); omega)
set_option maxRecDepth 100000 in
theorem g_X11_order_k_v3 (u : qS) (x : Int32) (y : Int32) (z : Int32) (w : Int32) (k : qS) (P : Nat → Int32) (u_13 : qS) (S_21 : Nat → Int32) (B_22 : Nat → Int32) (u_26 : qS) (u_53 : qS) (r_55 : Int32) (hk : CT k P u) (hca : t_ca k u) (hz8 : 0 ≤ u.1 8 ∧ u.1 8 ≤ 20) (hz9 : 0 ≤ u.1 9 ∧ u.1 9 ≤ 8) (hz10 : 0 ≤ u.1 10 ∧ u.1 10 ≤ 120) (hz12 : 0 ≤ u.1 12 ∧ u.1 12 ≤ 16) (b1_4 : 0 ≤ x ∧ x ≤ 3) (b9_8 : (0 ≤ y ∧ y ≤ 9999) ∧ (0 ≤ z ∧ z ≤ 9999) ∧ y ≤ z) (b19_12 : (0 : Int32) ≤ w ∧ w ≤ (1 : Int32)) (hm_24 : f_fi (k) S_21) (hm_25 : m_R (k) B_22 (f_M (k)) (u_13.2.1 303) (u_13.2.1 304) (u_13.2.1 305)) (hw_27 : m_A (k) (fun _ => 1) y z (u_26.2.1 307) ((k).1 1247).toNatClampNeg) (hp_80 : (0 ≤ (u_53.1 310).toInt ∧ (u_53.1 310).toInt ≤ 20)) (hp_81 : g_rw (u_53.2.1 308) (u_53.1 310).toInt 0 ((u.1 8 : Int32)).toInt) (hp_82 : r_55 = u_53.1 310) (c51_83 : ¬ (r_55 : Int32) = 0) (c58_84 : (w : Int32) = 0) : 0 ≤ ((u_53.1 310 : Int32)).toInt ∧ ((u_53.1 310 : Int32)).toInt ≤ 20 := by
  first | assumption | ((try simp only [g_m1, Int32.lt_iff_toInt_lt, Int32.le_iff_toInt_le, ← Int32.toInt_inj, Int32.reduceToInt] at *); omega)
set_option maxRecDepth 100000 in
theorem g_X11_order_k_v4 (u : qS) (x : Int32) (y : Int32) (z : Int32) (w : Int32) (k : qS) (P : Nat → Int32) (u_13 : qS) (S_21 : Nat → Int32) (B_22 : Nat → Int32) (u_26 : qS) (u_53 : qS) (r_55 : Int32) (hk : CT k P u) (hca : t_ca k u) (hz8 : 0 ≤ u.1 8 ∧ u.1 8 ≤ 20) (hz9 : 0 ≤ u.1 9 ∧ u.1 9 ≤ 8) (hz10 : 0 ≤ u.1 10 ∧ u.1 10 ≤ 120) (hz12 : 0 ≤ u.1 12 ∧ u.1 12 ≤ 16) (b1_4 : 0 ≤ x ∧ x ≤ 3) (b9_8 : (0 ≤ y ∧ y ≤ 9999) ∧ (0 ≤ z ∧ z ≤ 9999) ∧ y ≤ z) (b19_12 : (0 : Int32) ≤ w ∧ w ≤ (1 : Int32)) (hm_24 : f_fi (k) S_21) (hm_25 : m_R (k) B_22 (f_M (k)) (u_13.2.1 303) (u_13.2.1 304) (u_13.2.1 305)) (hw_27 : m_A (k) (fun _ => 1) y z (u_26.2.1 307) ((k).1 1247).toNatClampNeg) (hp_80 : (0 ≤ (u_53.1 310).toInt ∧ (u_53.1 310).toInt ≤ 20)) (hp_81 : g_rw (u_53.2.1 308) (u_53.1 310).toInt 0 ((u.1 8 : Int32)).toInt) (hp_82 : r_55 = u_53.1 310) (c51_83 : ¬ (r_55 : Int32) = 0) (c58_84 : (w : Int32) = 0) : g_rw ((u_53.2.1 308)) ((u_53.1 310 : Int32)).toInt 0 ((u.1 8 : Int32)).toInt := by
  first | assumption | ((try simp only [g_m1, Int32.lt_iff_toInt_lt, Int32.le_iff_toInt_le, ← Int32.toInt_inj, Int32.reduceToInt] at *); omega)
set_option maxHeartbeats 1000000 in
set_option maxRecDepth 100000 in
theorem g_X11_order_k (l : Launch) (E : qE) (A : Nat → Prop) (u : qS) (x : Int32) (y : Int32) (z : Int32) (w : Int32) (k : qS) (P : Nat → Int32) (hI : IC E u) (hk : CT k P u) (hca : t_ca k u) : Met l yX11_order (uws yX11_order cX11_order 5 (some .int)) (qR 8 0 0) (qPc E A 0 u [.ref (E.2.2 1199), .int x, .int y, .int z, .int w]) (qQi E A 0 (fun r u1 => (qFc [900, 901, 902, 908, 909, 604, 605, 606, 607, 608, 609, 311, 310] [905, 906, 907, 601, 602, 603, 303, 304, 305, 306, 307, 308, 309] [] [904, 5010, 5011, 5012, 5013, 5014] u u1 ∧ IC E u1) ∧ (t_ca k u1))) 0 0 A := by
  refine q_met (own := RX11) (f := 8) [.ref (E.2.2 1199), .int x, .int y, .int z, .int w] (by decide) (Nat.le_of_ble_eq_true rfl) rfl ?_
  intro p0 e0 s0 m0 bl0 me0 cd0 ls hF hr hlocks hU hS hA hl
  have hl : lv_has ls 5 [(0, .ref (E.2.2 1199)), (1, .int x), (2, .int y), (3, .int z), (4, .int w)] := hl
  have hz8 : 0 ≤ u.1 8 ∧ u.1 8 ≤ 20 := hI.1.s8
  have hz9 : 0 ≤ u.1 9 ∧ u.1 9 ≤ 8 := hI.1.s9
  have hz10 : 0 ≤ u.1 10 ∧ u.1 10 ≤ 120 := hI.1.s10
  have hz12 : 0 ≤ u.1 12 ∧ u.1 12 ≤ 16 := hI.1.s12
  have hfr : qFc [900, 901, 902, 908, 909, 604, 605, 606, 607, 608, 609, 311, 310] [905, 906, 907, 601, 602, 603, 303, 304, 305, 306, 307, 308, 309] [] [904, 5010, 5011, 5012, 5013, 5014] u u := qFc.rf
  have hCA := hca
  refine lv_iload_n hF.1 hF.2.1 dX11_order_0 rfl (lv_at hl 1 rfl) ?_
  have hM9 := g_X11_isChain l E A u x
  have hR9 := q_runS (l := l) (e := e0) (below := bl0) (meth := me0) (R := qR 8 0 0) (cells := 0) (slots := 0) (st0 := [.int x]) (rest := []) hF hU hS hA 1 hM9 w_494 w_495 w_99 w_496 (by decide +kernel) ⟨Nat.le_of_ble_eq_true rfl, Nat.le_of_ble_eq_true rfl⟩ dX11_order_1 rfl hl.1 rfl (Nat.le_of_ble_eq_true rfl) ⟨Nat.le_of_ble_eq_true rfl, Nat.le_of_ble_eq_true rfl⟩
  refine q_calli hR9 hU.2.2.2 hS (fun r_3 u_1 H locs hw_2 hU hS => ?_)
  obtain ⟨hw_2_e, hw_2⟩ := hw_2
  rw [hw_2_e] at hU
  have hw_2 : (r_3 = 1 ∧ (0 ≤ x ∧ x ≤ 3)) ∨ (r_3 = 0 ∧ (¬ (0 ≤ x ∧ x ≤ 3))) := hw_2
  rcases hw_2 with ⟨rfl, b1_4⟩ | ⟨rfl, b1_4⟩
  · refine lv_if_eq (tgt := 25) hF.1 hF.2.1 dX11_order_4 (by decide) (fun h9 => absurd h9 (by decide)) (fun _ => ?_)
    refine lv_iload_n hF.1 hF.2.1 dX11_order_7 rfl (lv_at hl 2 rfl) ?_
    refine lv_iload_n hF.1 hF.2.1 dX11_order_8 rfl (lv_at hl 3 rfl) ?_
    have hM9 := g_X11_isSpan l E A u y z
    have hR9 := q_runS (l := l) (e := e0) (below := bl0) (meth := me0) (R := qR 8 0 0) (cells := 0) (slots := 0) (st0 := [.int z, .int y]) (rest := []) hF hU hS hA 2 hM9 w_1017 w_1018 w_99 w_1019 (by decide +kernel) ⟨Nat.le_of_ble_eq_true rfl, Nat.le_of_ble_eq_true rfl⟩ dX11_order_9 rfl hl.1 rfl (Nat.le_of_ble_eq_true rfl) ⟨Nat.le_of_ble_eq_true rfl, Nat.le_of_ble_eq_true rfl⟩
    refine q_calli hR9 hU.2.2.2 hS (fun r_7 u_5 H locs hw_6 hU hS => ?_)
    obtain ⟨hw_6_e, hw_6⟩ := hw_6
    rw [hw_6_e] at hU
    have hw_6 : (r_7 = 1 ∧ ((0 ≤ y ∧ y ≤ 9999) ∧ (0 ≤ z ∧ z ≤ 9999) ∧ y ≤ z)) ∨ (r_7 = 0 ∧ (¬ ((0 ≤ y ∧ y ≤ 9999) ∧ (0 ≤ z ∧ z ≤ 9999) ∧ y ≤ z))) := hw_6
    rcases hw_6 with ⟨rfl, b9_8⟩ | ⟨rfl, b9_8⟩
    · refine lv_if_eq (tgt := 25) hF.1 hF.2.1 dX11_order_12 (by decide) (fun h9 => absurd h9 (by decide)) (fun _ => ?_)
      refine lv_iload hF.1 hF.2.1 dX11_order_15 (lv_at hl 4 rfl) ?_
      refine lv_iconst (v := 0) hF.1 hF.2.1 dX11_order_17 (by decide) ?_
      refine lv_iconst (v := 1) hF.1 hF.2.1 dX11_order_18 (by decide) ?_
      have hM9 := g_X11_isWithin l E A u w 0 1
      have hR9 := q_runS (l := l) (e := e0) (below := bl0) (meth := me0) (R := qR 8 0 0) (cells := 0) (slots := 0) (st0 := [.int 1, .int 0, .int w]) (rest := []) hF hU hS hA 3 hM9 w_468 w_469 w_99 w_470 (by decide +kernel) ⟨Nat.le_of_ble_eq_true rfl, Nat.le_of_ble_eq_true rfl⟩ dX11_order_19 rfl hl.1 rfl (Nat.le_of_ble_eq_true rfl) ⟨Nat.le_of_ble_eq_true rfl, Nat.le_of_ble_eq_true rfl⟩
      refine q_calli hR9 hU.2.2.2 hS (fun r_11 u_9 H locs hw_10 hU hS => ?_)
      obtain ⟨hw_10_e, hw_10⟩ := hw_10
      rw [hw_10_e] at hU
      have hw_10 : (r_11 = 1 ∧ ((0 : Int32) ≤ w ∧ w ≤ (1 : Int32))) ∨ (r_11 = 0 ∧ (¬ ((0 : Int32) ≤ w ∧ w ≤ (1 : Int32)))) := hw_10
      rcases hw_10 with ⟨rfl, b19_12⟩ | ⟨rfl, b19_12⟩
      · refine lv_if_ne (tgt := 27) hF.1 hF.2.1 dX11_order_22 (by decide) (fun _ => ?_) (fun h9 => absurd h9 (by decide))
        refine lv_aload_n hF.1 hF.2.1 dX11_order_27 rfl (lv_at hl 0 rfl) ?_
        refine q_get (v := .ref (E.2.2 399)) hF hU dX11_order_28 0 11 5 1105 1199 rfl rfl rfl rfl inX11 (by decide) (by decide) w_441 rfl rfl ?_
        have hM9 := g_X3_refresh_k l E A u k P hI hk hCA
        have hR9 := q_runV (l := l) (e := e0) (below := bl0) (meth := me0) (R := qR 8 0 0) (cells := 0) (slots := 0) (st0 := [.ref (E.2.2 399)]) (rest := []) hF hU hS hA 0 6 3 399 rfl rfl rfl hM9 w_931 w_932 w_933 w_105 w_934 (by decide +kernel) ⟨Nat.le_of_ble_eq_true rfl, Nat.le_of_ble_eq_true rfl⟩ dX11_order_31 rfl hl.1 rfl (Nat.le_of_ble_eq_true rfl) ⟨Nat.le_of_ble_eq_true rfl, Nat.le_of_ble_eq_true rfl⟩
        refine q_callv hR9 hU.2.2.2 hS (fun u_13 H locs hw_14 hU hS => ?_)
        obtain ⟨⟨hw_14_f, hI⟩, hw_14⟩ := hw_14
        have hfo := hfr
        have hfr : qFc [900, 901, 902, 908, 909, 604, 605, 606, 607, 608, 609, 311, 310] [905, 906, 907, 601, 602, 603, 303, 304, 305, 306, 307, 308, 309] [] [904, 5010, 5011, 5012, 5013, 5014] u u_13 := hfr.trans (hw_14_f.mono (by decide) (by decide) (by decide) (by decide))
        have e_16 : u_13.1 310 = (u.1 310) := (hw_14_f.1 310 (by decide)).trans rfl
        have e_17 : u_13.2.1 306 = (u.2.1 306) := (hw_14_f.2.1 306 (by decide)).trans rfl
        have e_18 : u_13.2.1 307 = (u.2.1 307) := (hw_14_f.2.1 307 (by decide)).trans rfl
        have e_19 : u_13.2.1 308 = (u.2.1 308) := (hw_14_f.2.1 308 (by decide)).trans rfl
        have e_20 : u_13.2.1 309 = (u.2.1 309) := (hw_14_f.2.1 309 (by decide)).trans rfl
        have hCA := hw_14.1
        have hw_14 := hw_14.2
        obtain ⟨S_21, B_22, hST, hBT, hq_23⟩ := hw_14
        have hq_23 : f_fi (k) S_21 ∧ m_R (k) B_22 (f_M (k)) (u_13.2.1 303) (u_13.2.1 304) (u_13.2.1 305) := hq_23
        have hm_24 : f_fi (k) S_21 := hq_23.1
        have hm_25 : m_R (k) B_22 (f_M (k)) (u_13.2.1 303) (u_13.2.1 304) (u_13.2.1 305) := hq_23.2
        refine lv_aload_n hF.1 hF.2.1 dX11_order_34 rfl (lv_at hl 0 rfl) ?_
        refine q_get (v := .ref (E.2.2 399)) hF hU dX11_order_35 0 11 5 1105 1199 rfl rfl rfl rfl inX11 (by decide) (by decide) w_441 rfl rfl ?_
        refine lv_iload_n hF.1 hF.2.1 dX11_order_38 rfl (lv_at hl 2 rfl) ?_
        refine lv_iload_n hF.1 hF.2.1 dX11_order_39 rfl (lv_at hl 3 rfl) ?_
        have hM9 := g_X3_addDays_k l E A u_13 y z k P S_21 hI (hk.fr hfr (by decide) (by decide)) hST (g_X11_order_k_v0 u x y z w k P u_13 S_21 B_22 hk hca hz8 hz9 hz10 hz12 b1_4 b9_8 b19_12 hm_24 hm_25)
        have hR9 := q_runV (l := l) (e := e0) (below := bl0) (meth := me0) (R := qR 8 0 0) (cells := 0) (slots := 0) (st0 := [.int z, .int y, .ref (E.2.2 399)]) (rest := []) hF hU hS hA 2 6 3 399 rfl rfl rfl hM9 w_1020 w_1021 w_1022 w_105 w_1023 (by decide +kernel) ⟨Nat.le_of_ble_eq_true rfl, Nat.le_of_ble_eq_true rfl⟩ dX11_order_40 rfl hl.1 rfl (Nat.le_of_ble_eq_true rfl) ⟨Nat.le_of_ble_eq_true rfl, Nat.le_of_ble_eq_true rfl⟩
        refine q_callv hR9 hU.2.2.2 hS (fun u_26 H locs hw_27 hU hS => ?_)
        obtain ⟨⟨hw_27_f, hI, hw_27_d⟩, hw_27⟩ := hw_27
        have hfo := hfr
        have hfr : qFc [900, 901, 902, 908, 909, 604, 605, 606, 607, 608, 609, 311, 310] [905, 906, 907, 601, 602, 603, 303, 304, 305, 306, 307, 308, 309] [] [904, 5010, 5011, 5012, 5013, 5014] u u_26 := hfr.trans (hw_27_f.mono (by decide) (by decide) (by decide) (by decide))
        have e_29 : u_26.1 310 = (u.1 310) := (hw_27_f.1 310 (by decide)).trans e_16
        have e_30 : u_26.1 311 = (u_13.1 311) := (hw_27_f.1 311 (by decide)).trans rfl
        have e_31 : u_26.1 604 = (u_13.1 604) := (hw_27_f.1 604 (by decide)).trans rfl
        have e_32 : u_26.1 605 = (u_13.1 605) := (hw_27_f.1 605 (by decide)).trans rfl
        have e_33 : u_26.1 606 = (u_13.1 606) := (hw_27_f.1 606 (by decide)).trans rfl
        have e_34 : u_26.1 607 = (u_13.1 607) := (hw_27_f.1 607 (by decide)).trans rfl
        have e_35 : u_26.1 608 = (u_13.1 608) := (hw_27_f.1 608 (by decide)).trans rfl
        have e_36 : u_26.1 609 = (u_13.1 609) := (hw_27_f.1 609 (by decide)).trans rfl
        have e_37 : u_26.1 900 = (u_13.1 900) := (hw_27_f.1 900 (by decide)).trans rfl
        have e_38 : u_26.1 901 = (u_13.1 901) := (hw_27_f.1 901 (by decide)).trans rfl
        have e_39 : u_26.1 902 = (u_13.1 902) := (hw_27_f.1 902 (by decide)).trans rfl
        have e_40 : u_26.1 908 = (u_13.1 908) := (hw_27_f.1 908 (by decide)).trans rfl
        have e_41 : u_26.1 909 = (u_13.1 909) := (hw_27_f.1 909 (by decide)).trans rfl
        have e_42 : u_26.2.1 303 = (u_13.2.1 303) := (hw_27_f.2.1 303 (by decide)).trans rfl
        have e_43 : u_26.2.1 304 = (u_13.2.1 304) := (hw_27_f.2.1 304 (by decide)).trans rfl
        have e_44 : u_26.2.1 305 = (u_13.2.1 305) := (hw_27_f.2.1 305 (by decide)).trans rfl
        have e_45 : u_26.2.1 308 = (u.2.1 308) := (hw_27_f.2.1 308 (by decide)).trans e_19
        have e_46 : u_26.2.1 309 = (u.2.1 309) := (hw_27_f.2.1 309 (by decide)).trans e_20
        have e_47 : u_26.2.1 601 = (u_13.2.1 601) := (hw_27_f.2.1 601 (by decide)).trans rfl
        have e_48 : u_26.2.1 602 = (u_13.2.1 602) := (hw_27_f.2.1 602 (by decide)).trans rfl
        have e_49 : u_26.2.1 603 = (u_13.2.1 603) := (hw_27_f.2.1 603 (by decide)).trans rfl
        have e_50 : u_26.2.1 905 = (u_13.2.1 905) := (hw_27_f.2.1 905 (by decide)).trans rfl
        have e_51 : u_26.2.1 906 = (u_13.2.1 906) := (hw_27_f.2.1 906 (by decide)).trans rfl
        have e_52 : u_26.2.1 907 = (u_13.2.1 907) := (hw_27_f.2.1 907 (by decide)).trans rfl
        have hCA : t_ca k u_26 := hCA.fr hw_27_f (by decide) (by decide) (by decide)
        have hST : qFD 10 S_21 u_26 := hST.fr hw_27_f (by decide) (by decide) (by decide) (by decide) (by decide)
        have hBT : qFD 11 B_22 u_26 := hBT.fr hw_27_f (by decide) (by decide) (by decide) (by decide) (by decide)
        have hw_27 : m_A (k) (fun _ => 1) y z (u_26.2.1 307) ((k).1 1247).toNatClampNeg := hw_27
        refine lv_aload_n hF.1 hF.2.1 dX11_order_43 rfl (lv_at hl 0 rfl) ?_
        refine q_get (v := .ref (E.2.2 399)) hF hU dX11_order_44 0 11 5 1105 1199 rfl rfl rfl rfl inX11 (by decide) (by decide) w_441 rfl rfl ?_
        refine lv_iload_n hF.1 hF.2.1 dX11_order_47 rfl (lv_at hl 1 rfl) ?_
        have hM9 := g_X3_rankChain l E A u_26 x hI
        have hR9 := q_runV (l := l) (e := e0) (below := bl0) (meth := me0) (R := qR 8 0 0) (cells := 0) (slots := 0) (st0 := [.int x, .ref (E.2.2 399)]) (rest := []) hF hU hS hA 1 6 3 399 rfl rfl rfl hM9 w_1058 w_1059 w_1060 w_105 w_1061 (by decide +kernel) ⟨Nat.le_of_ble_eq_true rfl, Nat.le_of_ble_eq_true rfl⟩ dX11_order_48 rfl hl.1 rfl (Nat.le_of_ble_eq_true rfl) ⟨Nat.le_of_ble_eq_true rfl, Nat.le_of_ble_eq_true rfl⟩
        refine q_calli hR9 hU.2.2.2 hS (fun r_55 u_53 H locs hw_54 hU hS => ?_)
        obtain ⟨⟨hw_54_f, hI, hw_54_d⟩, hw_54⟩ := hw_54
        have hfo := hfr
        have hfr : qFc [900, 901, 902, 908, 909, 604, 605, 606, 607, 608, 609, 311, 310] [905, 906, 907, 601, 602, 603, 303, 304, 305, 306, 307, 308, 309] [] [904, 5010, 5011, 5012, 5013, 5014] u u_53 := hfr.trans (hw_54_f.mono (by decide) (by decide) (by decide) (by decide))
        have e_56 : u_53.1 311 = (u_13.1 311) := (hw_54_f.1 311 (by decide)).trans e_30
        have e_57 : u_53.1 604 = (u_13.1 604) := (hw_54_f.1 604 (by decide)).trans e_31
        have e_58 : u_53.1 605 = (u_13.1 605) := (hw_54_f.1 605 (by decide)).trans e_32
        have e_59 : u_53.1 606 = (u_13.1 606) := (hw_54_f.1 606 (by decide)).trans e_33
        have e_60 : u_53.1 607 = (u_13.1 607) := (hw_54_f.1 607 (by decide)).trans e_34
        have e_61 : u_53.1 608 = (u_13.1 608) := (hw_54_f.1 608 (by decide)).trans e_35
        have e_62 : u_53.1 609 = (u_13.1 609) := (hw_54_f.1 609 (by decide)).trans e_36
        have e_63 : u_53.1 900 = (u_13.1 900) := (hw_54_f.1 900 (by decide)).trans e_37
        have e_64 : u_53.1 901 = (u_13.1 901) := (hw_54_f.1 901 (by decide)).trans e_38
        have e_65 : u_53.1 902 = (u_13.1 902) := (hw_54_f.1 902 (by decide)).trans e_39
        have e_66 : u_53.1 908 = (u_13.1 908) := (hw_54_f.1 908 (by decide)).trans e_40
        have e_67 : u_53.1 909 = (u_13.1 909) := (hw_54_f.1 909 (by decide)).trans e_41
        have e_68 : u_53.2.1 303 = (u_13.2.1 303) := (hw_54_f.2.1 303 (by decide)).trans e_42
        have e_69 : u_53.2.1 304 = (u_13.2.1 304) := (hw_54_f.2.1 304 (by decide)).trans e_43
        have e_70 : u_53.2.1 305 = (u_13.2.1 305) := (hw_54_f.2.1 305 (by decide)).trans e_44
        have e_71 : u_53.2.1 306 = (u_26.2.1 306) := (hw_54_f.2.1 306 (by decide)).trans rfl
        have e_72 : u_53.2.1 307 = (u_26.2.1 307) := (hw_54_f.2.1 307 (by decide)).trans rfl
        have e_73 : u_53.2.1 309 = (u.2.1 309) := (hw_54_f.2.1 309 (by decide)).trans e_46
        have e_74 : u_53.2.1 601 = (u_13.2.1 601) := (hw_54_f.2.1 601 (by decide)).trans e_47
        have e_75 : u_53.2.1 602 = (u_13.2.1 602) := (hw_54_f.2.1 602 (by decide)).trans e_48
        have e_76 : u_53.2.1 603 = (u_13.2.1 603) := (hw_54_f.2.1 603 (by decide)).trans e_49
        have e_77 : u_53.2.1 905 = (u_13.2.1 905) := (hw_54_f.2.1 905 (by decide)).trans e_50
        have e_78 : u_53.2.1 906 = (u_13.2.1 906) := (hw_54_f.2.1 906 (by decide)).trans e_51
        have e_79 : u_53.2.1 907 = (u_13.2.1 907) := (hw_54_f.2.1 907 (by decide)).trans e_52
        have hCA : t_ca k u_53 := hCA.fr hw_54_f (by decide) (by decide) (by decide)
        have hST : qFD 10 S_21 u_53 := hST.fr hw_54_f (by decide) (by decide) (by decide) (by decide) (by decide)
        have hBT : qFD 11 B_22 u_53 := hBT.fr hw_54_f (by decide) (by decide) (by decide) (by decide) (by decide)
        have hw_54 : (0 ≤ (u_53.1 310).toInt ∧ (u_53.1 310).toInt ≤ 20) ∧ g_rw (u_53.2.1 308) (u_53.1 310).toInt 0 ((u.1 8 : Int32)).toInt ∧ r_55 = u_53.1 310 := by rw [(hfo.1 8 (by decide))] at hw_54; exact hw_54
        have hp_80 : (0 ≤ (u_53.1 310).toInt ∧ (u_53.1 310).toInt ≤ 20) := hw_54.1
        have hp_81 : g_rw (u_53.2.1 308) (u_53.1 310).toInt 0 ((u.1 8 : Int32)).toInt := hw_54.2.1
        have hp_82 : r_55 = u_53.1 310 := hw_54.2.2
        refine lv_if_ne (tgt := 56) hF.1 hF.2.1 dX11_order_51 (by decide) (fun c51_83 => ?_) (fun c51_83 => ?_)
        · refine lv_iload hF.1 hF.2.1 dX11_order_56 (lv_at hl 4 rfl) ?_
          refine lv_if_ne (tgt := 75) hF.1 hF.2.1 dX11_order_58 (by decide) (fun c58_84 => ?_) (fun c58_84 => ?_)
          · refine lv_aload_n hF.1 hF.2.1 dX11_order_75 rfl (lv_at hl 0 rfl) ?_
            refine q_get (v := .ref (E.2.2 399)) hF hU dX11_order_76 0 11 5 1105 1199 rfl rfl rfl rfl inX11 (by decide) (by decide) w_441 rfl rfl ?_
            refine lv_aload_n hF.1 hF.2.1 dX11_order_79 rfl (lv_at hl 0 rfl) ?_
            refine q_get (v := .int (u.1 1108)) hF hU dX11_order_80 0 11 8 1108 1199 rfl rfl rfl rfl inX11 (by decide) (by decide) w_444 rfl (congrArg Value.int (hfr.1 1108 (by decide))) ?_
            have hM9 := g_X3_leadBits l E A u_53 (u.1 1108) hI (g_X11_order_k_v1 u x y z w k P u_13 S_21 B_22 u_26 u_53 r_55 hk hca hz8 hz9 hz10 hz12 b1_4 b9_8 b19_12 hm_24 hm_25 hw_27 hp_80 hp_81 hp_82 c51_83 c58_84) (by rw [(hfr.1 8 (by decide))]; exact (g_X11_order_k_v2 u x y z w k P u_13 S_21 B_22 u_26 u_53 r_55 hk hca hz8 hz9 hz10 hz12 b1_4 b9_8 b19_12 hm_24 hm_25 hw_27 hp_80 hp_81 hp_82 c51_83 c58_84))
            have hR9 := q_runV (l := l) (e := e0) (below := bl0) (meth := me0) (R := qR 8 0 0) (cells := 0) (slots := 0) (st0 := [.int (u.1 1108), .ref (E.2.2 399)]) (rest := []) hF hU hS hA 1 6 3 399 rfl rfl rfl hM9 w_1073 w_1074 w_1075 w_105 w_1076 (by decide +kernel) ⟨Nat.le_of_ble_eq_true rfl, Nat.le_of_ble_eq_true rfl⟩ dX11_order_83 rfl hl.1 rfl (Nat.le_of_ble_eq_true rfl) ⟨Nat.le_of_ble_eq_true rfl, Nat.le_of_ble_eq_true rfl⟩
            refine q_calli hR9 hU.2.2.2 hS (fun r_87 u_85 H locs hw_86 hU hS => ?_)
            obtain ⟨hw_86_e, hw_86⟩ := hw_86
            rw [hw_86_e] at hU
            exact q_iret hF hr rfl hlocks hU hS dX11_order_86 ⟨⟨hfr, hI⟩, hCA⟩
          · refine lv_aload_n hF.1 hF.2.1 dX11_order_61 rfl (lv_at hl 0 rfl) ?_
            refine q_get (v := .ref (E.2.2 399)) hF hU dX11_order_62 0 11 5 1105 1199 rfl rfl rfl rfl inX11 (by decide) (by decide) w_441 rfl rfl ?_
            refine lv_aload_n hF.1 hF.2.1 dX11_order_65 rfl (lv_at hl 0 rfl) ?_
            refine q_get (v := .int (u.1 1108)) hF hU dX11_order_66 0 11 8 1108 1199 rfl rfl rfl rfl inX11 (by decide) (by decide) w_444 rfl (congrArg Value.int (hfr.1 1108 (by decide))) ?_
            have hM9 := g_X3_longestRow l E A u_53 (u.1 1108) hI (g_X11_order_k_v3 u x y z w k P u_13 S_21 B_22 u_26 u_53 r_55 hk hca hz8 hz9 hz10 hz12 b1_4 b9_8 b19_12 hm_24 hm_25 hw_27 hp_80 hp_81 hp_82 c51_83 c58_84) (by rw [(hfr.1 8 (by decide))]; exact (g_X11_order_k_v4 u x y z w k P u_13 S_21 B_22 u_26 u_53 r_55 hk hca hz8 hz9 hz10 hz12 b1_4 b9_8 b19_12 hm_24 hm_25 hw_27 hp_80 hp_81 hp_82 c51_83 c58_84))
            have hR9 := q_runV (l := l) (e := e0) (below := bl0) (meth := me0) (R := qR 8 0 0) (cells := 0) (slots := 0) (st0 := [.int (u.1 1108), .ref (E.2.2 399)]) (rest := []) hF hU hS hA 1 6 3 399 rfl rfl rfl hM9 w_1067 w_1068 w_1069 w_105 w_1070 (by decide +kernel) ⟨Nat.le_of_ble_eq_true rfl, Nat.le_of_ble_eq_true rfl⟩ dX11_order_69 rfl hl.1 rfl (Nat.le_of_ble_eq_true rfl) ⟨Nat.le_of_ble_eq_true rfl, Nat.le_of_ble_eq_true rfl⟩
            refine q_calli hR9 hU.2.2.2 hS (fun r_90 u_88 H locs hw_89 hU hS => ?_)
            obtain ⟨⟨hw_89_f, hI, hw_89_d⟩, hw_89⟩ := hw_89
            have hfo := hfr
            have hfr : qFc [900, 901, 902, 908, 909, 604, 605, 606, 607, 608, 609, 311, 310] [905, 906, 907, 601, 602, 603, 303, 304, 305, 306, 307, 308, 309] [] [904, 5010, 5011, 5012, 5013, 5014] u u_88 := hfr.trans (hw_89_f.mono (by decide) (by decide) (by decide) (by decide))
            have e_91 : u_88.1 310 = (u_53.1 310) := (hw_89_f.1 310 (by decide)).trans rfl
            have e_92 : u_88.1 311 = (u_13.1 311) := (hw_89_f.1 311 (by decide)).trans e_56
            have e_93 : u_88.1 604 = (u_13.1 604) := (hw_89_f.1 604 (by decide)).trans e_57
            have e_94 : u_88.1 605 = (u_13.1 605) := (hw_89_f.1 605 (by decide)).trans e_58
            have e_95 : u_88.1 606 = (u_13.1 606) := (hw_89_f.1 606 (by decide)).trans e_59
            have e_96 : u_88.1 607 = (u_13.1 607) := (hw_89_f.1 607 (by decide)).trans e_60
            have e_97 : u_88.1 608 = (u_13.1 608) := (hw_89_f.1 608 (by decide)).trans e_61
            have e_98 : u_88.1 609 = (u_13.1 609) := (hw_89_f.1 609 (by decide)).trans e_62
            have e_99 : u_88.1 900 = (u_13.1 900) := (hw_89_f.1 900 (by decide)).trans e_63
            have e_100 : u_88.1 901 = (u_13.1 901) := (hw_89_f.1 901 (by decide)).trans e_64
            have e_101 : u_88.1 902 = (u_13.1 902) := (hw_89_f.1 902 (by decide)).trans e_65
            have e_102 : u_88.1 908 = (u_13.1 908) := (hw_89_f.1 908 (by decide)).trans e_66
            have e_103 : u_88.1 909 = (u_13.1 909) := (hw_89_f.1 909 (by decide)).trans e_67
            have e_104 : u_88.2.1 303 = (u_13.2.1 303) := (hw_89_f.2.1 303 (by decide)).trans e_68
            have e_105 : u_88.2.1 304 = (u_13.2.1 304) := (hw_89_f.2.1 304 (by decide)).trans e_69
            have e_106 : u_88.2.1 305 = (u_13.2.1 305) := (hw_89_f.2.1 305 (by decide)).trans e_70
            have e_107 : u_88.2.1 306 = (u_26.2.1 306) := (hw_89_f.2.1 306 (by decide)).trans e_71
            have e_108 : u_88.2.1 307 = (u_26.2.1 307) := (hw_89_f.2.1 307 (by decide)).trans e_72
            have e_109 : u_88.2.1 308 = (u_53.2.1 308) := (hw_89_f.2.1 308 (by decide)).trans rfl
            have e_110 : u_88.2.1 601 = (u_13.2.1 601) := (hw_89_f.2.1 601 (by decide)).trans e_74
            have e_111 : u_88.2.1 602 = (u_13.2.1 602) := (hw_89_f.2.1 602 (by decide)).trans e_75
            have e_112 : u_88.2.1 603 = (u_13.2.1 603) := (hw_89_f.2.1 603 (by decide)).trans e_76
            have e_113 : u_88.2.1 905 = (u_13.2.1 905) := (hw_89_f.2.1 905 (by decide)).trans e_77
            have e_114 : u_88.2.1 906 = (u_13.2.1 906) := (hw_89_f.2.1 906 (by decide)).trans e_78
            have e_115 : u_88.2.1 907 = (u_13.2.1 907) := (hw_89_f.2.1 907 (by decide)).trans e_79
            have hCA : t_ca k u_88 := hCA.fr hw_89_f (by decide) (by decide) (by decide)
            have hST : qFD 10 S_21 u_88 := hST.fr hw_89_f (by decide) (by decide) (by decide) (by decide) (by decide)
            have hBT : qFD 11 B_22 u_88 := hBT.fr hw_89_f (by decide) (by decide) (by decide) (by decide) (by decide)
            refine lv_goto (tgt := 86) hF.1 hF.2.1 dX11_order_72 (by decide) ?_
            exact q_iret hF hr rfl hlocks hU hS dX11_order_86 ⟨⟨hfr, hI⟩, hCA⟩
        · refine lv_iconst (v := (-1)) hF.1 hF.2.1 dX11_order_54 (by decide) ?_
          exact q_iret hF hr rfl hlocks hU hS dX11_order_55 ⟨⟨hfr, hI⟩, hCA⟩
      · refine lv_if_ne (tgt := 27) hF.1 hF.2.1 dX11_order_22 (by decide) (fun h9 => absurd (by decide) h9) (fun _ => ?_)
        refine lv_iconst (v := (-1)) hF.1 hF.2.1 dX11_order_25 (by decide) ?_
        exact q_iret hF hr rfl hlocks hU hS dX11_order_26 ⟨⟨hfr, hI⟩, hCA⟩
    · refine lv_if_eq (tgt := 25) hF.1 hF.2.1 dX11_order_12 (by decide) (fun _ => ?_) (fun h9 => absurd (by decide) h9)
      refine lv_iconst (v := (-1)) hF.1 hF.2.1 dX11_order_25 (by decide) ?_
      exact q_iret hF hr rfl hlocks hU hS dX11_order_26 ⟨⟨hfr, hI⟩, hCA⟩
  · refine lv_if_eq (tgt := 25) hF.1 hF.2.1 dX11_order_4 (by decide) (fun _ => ?_) (fun h9 => absurd (by decide) h9)
    refine lv_iconst (v := (-1)) hF.1 hF.2.1 dX11_order_25 (by decide) ?_
    exact q_iret hF hr rfl hlocks hU hS dX11_order_26 ⟨⟨hfr, hI⟩, hCA⟩
set_option maxRecDepth 100000 in
theorem g_X11_enough_k_v0 (u : qS) (x : Int32) (y : Int32) (z : Int32) (w : Int32) (k : qS) (P : Nat → Int32) (x5 : Int32) (x6 : Int32) (uc : qS) (hk : CT k P u) (hca : t_ca k u) (hz8 : 0 ≤ u.1 8 ∧ u.1 8 ≤ 20) (hz9 : 0 ≤ u.1 9 ∧ u.1 9 ≤ 8) (hz10 : 0 ≤ u.1 10 ∧ u.1 10 ≤ 120) (hz12 : 0 ≤ u.1 12 ∧ u.1 12 ≤ 16) (h_k : 1 ≤ x6) (h_ca : t_ca k uc) (c77_1 : ¬ 999 < (x6 : Int32)) : ¬ x6 = 0 := by
  first | omega | ((try simp only [g_m1, Int32.lt_iff_toInt_lt, Int32.le_iff_toInt_le, ← Int32.toInt_inj, Int32.reduceToInt] at *); omega) | ((try simp only [g_m1, Int32.lt_iff_toInt_lt, Int32.le_iff_toInt_le, ← Int32.toInt_inj, Int32.reduceToInt] at *); omega) | ((try simp only [g_m1, Int32.lt_iff_toInt_lt, Int32.le_iff_toInt_le, ← Int32.toInt_inj, Int32.toInt_add, Int32.toInt_sub, Int32.toInt_mul, Int32.toInt_neg, Int32.reduceToInt, g_bm, g_bm'] at *); omega) | (have qr1 := g_rng x; have qr2 := g_rng y; have qr3 := g_rng z; have qr4 := g_rng w; have qr7 := g_rng x5; have qr8 := g_rng x6; (try simp only [g_m1, Int32.lt_iff_toInt_lt, Int32.le_iff_toInt_le, ← Int32.toInt_inj, Int32.toInt_add, Int32.toInt_sub, Int32.toInt_mul, Int32.toInt_neg, Int32.reduceToInt, g_bm, g_bm'] at *); omega) | (simp only [g_m1, Int32.lt_iff_toInt_lt, Int32.le_iff_toInt_le, ← Int32.toInt_inj, Int32.toInt_add, Int32.toInt_sub, Int32.toInt_mul, Int32.toInt_neg, Int32.reduceToInt, g_bm, g_bm'] at *; simp at *; omega) | (simp_all; done)
set_option maxRecDepth 100000 in
theorem g_X11_enough_k_v1 (u : qS) (x : Int32) (y : Int32) (z : Int32) (w : Int32) (k : qS) (P : Nat → Int32) (x5 : Int32) (x6 : Int32) (uc : qS) (hk : CT k P u) (hca : t_ca k u) (hz8 : 0 ≤ u.1 8 ∧ u.1 8 ≤ 20) (hz9 : 0 ≤ u.1 9 ∧ u.1 9 ≤ 8) (hz10 : 0 ≤ u.1 10 ∧ u.1 10 ≤ 120) (hz12 : 0 ≤ u.1 12 ∧ u.1 12 ≤ 16) (h_k : 1 ≤ x6) (h_ca : t_ca k uc) (c77_1 : ¬ 999 < (x6 : Int32)) (c94_2 : (x5 : Int32) ≤ (2 * ((100 * (u.1 1108)) / x6))) : 1 ≤ (x6 + 1) := by
  first | omega | ((try simp only [g_m1, Int32.lt_iff_toInt_lt, Int32.le_iff_toInt_le, ← Int32.toInt_inj, Int32.reduceToInt] at *); omega) | ((try have ez0 : (100 * (u.1 1108) : Int32).toInt = (100 : Int32).toInt * (u.1 1108 : Int32).toInt := g_mul (by (try simp only [g_m1, Int32.lt_iff_toInt_lt, Int32.le_iff_toInt_le, ← Int32.toInt_inj, Int32.reduceToInt] at *); omega) (by (try simp only [g_m1, Int32.lt_iff_toInt_lt, Int32.le_iff_toInt_le, ← Int32.toInt_inj, Int32.reduceToInt] at *); omega)); (try have ez1 : (2 * ((100 * (u.1 1108)) / x6) : Int32).toInt = (2 : Int32).toInt * ((100 * (u.1 1108)) / x6 : Int32).toInt := g_mul (by (try simp only [g_m1, Int32.lt_iff_toInt_lt, Int32.le_iff_toInt_le, ← Int32.toInt_inj, Int32.reduceToInt] at *); omega) (by (try simp only [g_m1, Int32.lt_iff_toInt_lt, Int32.le_iff_toInt_le, ← Int32.toInt_inj, Int32.reduceToInt] at *); omega)); (try have ez2 : (x6 + 1 : Int32).toInt = (x6 : Int32).toInt + (1 : Int32).toInt := g_add (by (try simp only [g_m1, Int32.lt_iff_toInt_lt, Int32.le_iff_toInt_le, ← Int32.toInt_inj, Int32.reduceToInt] at *); omega) (by (try simp only [g_m1, Int32.lt_iff_toInt_lt, Int32.le_iff_toInt_le, ← Int32.toInt_inj, Int32.reduceToInt] at *); omega)); (try simp only [g_m1, Int32.lt_iff_toInt_lt, Int32.le_iff_toInt_le, ← Int32.toInt_inj, Int32.reduceToInt] at *); omega) | ((try simp only [g_m1, Int32.lt_iff_toInt_lt, Int32.le_iff_toInt_le, ← Int32.toInt_inj, Int32.toInt_add, Int32.toInt_sub, Int32.toInt_mul, Int32.toInt_neg, Int32.reduceToInt, g_bm, g_bm'] at *); omega) | (have qr1 := g_rng x; have qr2 := g_rng y; have qr3 := g_rng z; have qr4 := g_rng w; have qr7 := g_rng x5; have qr8 := g_rng x6; (try simp only [g_m1, Int32.lt_iff_toInt_lt, Int32.le_iff_toInt_le, ← Int32.toInt_inj, Int32.toInt_add, Int32.toInt_sub, Int32.toInt_mul, Int32.toInt_neg, Int32.reduceToInt, g_bm, g_bm'] at *); omega) | (simp only [g_m1, Int32.lt_iff_toInt_lt, Int32.le_iff_toInt_le, ← Int32.toInt_inj, Int32.toInt_add, Int32.toInt_sub, Int32.toInt_mul, Int32.toInt_neg, Int32.reduceToInt, g_bm, g_bm'] at *; simp at *; omega) | (simp_all; done)
set_option maxRecDepth 100000 in
theorem g_X11_enough_k_v2 (u : qS) (x : Int32) (y : Int32) (z : Int32) (w : Int32) (k : qS) (P : Nat → Int32) (x5 : Int32) (x6 : Int32) (uc : qS) (hk : CT k P u) (hca : t_ca k u) (hz8 : 0 ≤ u.1 8 ∧ u.1 8 ≤ 20) (hz9 : 0 ≤ u.1 9 ∧ u.1 9 ≤ 8) (hz10 : 0 ≤ u.1 10 ∧ u.1 10 ≤ 120) (hz12 : 0 ≤ u.1 12 ∧ u.1 12 ≤ 16) (h_k : 1 ≤ x6) (h_ca : t_ca k uc) (c77_1 : ¬ 999 < (x6 : Int32)) (c94_2 : (x5 : Int32) ≤ (2 * ((100 * (u.1 1108)) / x6))) : (1000 - (x6 + 1).toInt).toNat < (1000 - x6.toInt).toNat := by
  first | omega | ((try simp only [g_m1, Int32.lt_iff_toInt_lt, Int32.le_iff_toInt_le, ← Int32.toInt_inj, Int32.reduceToInt] at *); omega) | ((try have ez0 : (100 * (u.1 1108) : Int32).toInt = (100 : Int32).toInt * (u.1 1108 : Int32).toInt := g_mul (by (try simp only [g_m1, Int32.lt_iff_toInt_lt, Int32.le_iff_toInt_le, ← Int32.toInt_inj, Int32.reduceToInt] at *); omega) (by (try simp only [g_m1, Int32.lt_iff_toInt_lt, Int32.le_iff_toInt_le, ← Int32.toInt_inj, Int32.reduceToInt] at *); omega)); (try have ez1 : (2 * ((100 * (u.1 1108)) / x6) : Int32).toInt = (2 : Int32).toInt * ((100 * (u.1 1108)) / x6 : Int32).toInt := g_mul (by (try simp only [g_m1, Int32.lt_iff_toInt_lt, Int32.le_iff_toInt_le, ← Int32.toInt_inj, Int32.reduceToInt] at *); omega) (by (try simp only [g_m1, Int32.lt_iff_toInt_lt, Int32.le_iff_toInt_le, ← Int32.toInt_inj, Int32.reduceToInt] at *); omega)); (try have ez2 : (x6 + 1 : Int32).toInt = (x6 : Int32).toInt + (1 : Int32).toInt := g_add (by (try simp only [g_m1, Int32.lt_iff_toInt_lt, Int32.le_iff_toInt_le, ← Int32.toInt_inj, Int32.reduceToInt] at *); omega) (by (try simp only [g_m1, Int32.lt_iff_toInt_lt, Int32.le_iff_toInt_le, ← Int32.toInt_inj, Int32.reduceToInt] at *); omega)); (try simp only [g_m1, Int32.lt_iff_toInt_lt, Int32.le_iff_toInt_le, ← Int32.toInt_inj, Int32.reduceToInt] at *); omega) | ((try simp only [g_m1, Int32.lt_iff_toInt_lt, Int32.le_iff_toInt_le, ← Int32.toInt_inj, Int32.toInt_add, Int32.toInt_sub, Int32.toInt_mul, Int32.toInt_neg, Int32.reduceToInt, g_bm, g_bm'] at *); omega) | (have qr1 := g_rng x; have qr2 := g_rng y; have qr3 := g_rng z; have qr4 := g_rng w; have qr7 := g_rng x5; have qr8 := g_rng x6; (try simp only [g_m1, Int32.lt_iff_toInt_lt, Int32.le_iff_toInt_le, ← Int32.toInt_inj, Int32.toInt_add, Int32.toInt_sub, Int32.toInt_mul, Int32.toInt_neg, Int32.reduceToInt, g_bm, g_bm'] at *); omega) | (simp only [g_m1, Int32.lt_iff_toInt_lt, Int32.le_iff_toInt_le, ← Int32.toInt_inj, Int32.toInt_add, Int32.toInt_sub, Int32.toInt_mul, Int32.toInt_neg, Int32.reduceToInt, g_bm, g_bm'] at *; simp at *; omega) | (simp_all; done)
set_option maxRecDepth 100000 in
theorem g_X11_enough_k_v3 (u : qS) (x : Int32) (y : Int32) (z : Int32) (w : Int32) (k : qS) (P : Nat → Int32) (u_3 : qS) (S_8 : Nat → Int32) (B_9 : Nat → Int32) (hk : CT k P u) (hca : t_ca k u) (hz8 : 0 ≤ u.1 8 ∧ u.1 8 ≤ 20) (hz9 : 0 ≤ u.1 9 ∧ u.1 9 ≤ 8) (hz10 : 0 ≤ u.1 10 ∧ u.1 10 ≤ 120) (hz12 : 0 ≤ u.1 12 ∧ u.1 12 ≤ 16) (hm_11 : f_fi (k) S_8) (hm_12 : m_R (k) B_9 (f_M (k)) (u_3.2.1 303) (u_3.2.1 304) (u_3.2.1 305)) (c9_13 : ¬ (x : Int32) = y) : f_fi k S_8 := by
  first | omega | ((try simp only [g_m1, Int32.lt_iff_toInt_lt, Int32.le_iff_toInt_le, ← Int32.toInt_inj, Int32.reduceToInt] at *); omega) | ((try simp only [g_m1, Int32.lt_iff_toInt_lt, Int32.le_iff_toInt_le, ← Int32.toInt_inj, Int32.reduceToInt] at *); omega) | ((try simp only [g_m1, Int32.lt_iff_toInt_lt, Int32.le_iff_toInt_le, ← Int32.toInt_inj, Int32.toInt_add, Int32.toInt_sub, Int32.toInt_mul, Int32.toInt_neg, Int32.reduceToInt, g_bm, g_bm'] at *); omega) | (have qr1 := g_rng x; have qr2 := g_rng y; have qr3 := g_rng z; have qr4 := g_rng w; (try simp only [g_m1, Int32.lt_iff_toInt_lt, Int32.le_iff_toInt_le, ← Int32.toInt_inj, Int32.toInt_add, Int32.toInt_sub, Int32.toInt_mul, Int32.toInt_neg, Int32.reduceToInt, g_bm, g_bm'] at *); omega) | (simp only [g_m1, Int32.lt_iff_toInt_lt, Int32.le_iff_toInt_le, ← Int32.toInt_inj, Int32.toInt_add, Int32.toInt_sub, Int32.toInt_mul, Int32.toInt_neg, Int32.reduceToInt, g_bm, g_bm'] at *; simp at *; omega) | (simp_all; done)
set_option maxRecDepth 100000 in
theorem g_X11_enough_k_v4 (u : qS) (x : Int32) (y : Int32) (z : Int32) (w : Int32) (k : qS) (P : Nat → Int32) (u_3 : qS) (S_8 : Nat → Int32) (B_9 : Nat → Int32) (u_14 : qS) (hk : CT k P u) (hca : t_ca k u) (hz8 : 0 ≤ u.1 8 ∧ u.1 8 ≤ 20) (hz9 : 0 ≤ u.1 9 ∧ u.1 9 ≤ 8) (hz10 : 0 ≤ u.1 10 ∧ u.1 10 ≤ 120) (hz12 : 0 ≤ u.1 12 ∧ u.1 12 ≤ 16) (hm_11 : f_fi (k) S_8) (hm_12 : m_R (k) B_9 (f_M (k)) (u_3.2.1 303) (u_3.2.1 304) (u_3.2.1 305)) (c9_13 : ¬ (x : Int32) = y) (b17_38 : f_HM (k) x z w ∧ m_A (k) (fun _ => 1) z w (u_14.2.1 307) ((k).1 1247).toNatClampNeg) (b28_42 : 0 ≤ y ∧ y < (u.1 8 : Int32)) : 0 ≤ y ∧ y < (u.1 8 : Int32) := by
  first | assumption | (rw [hk.1.2.1]; exact b17_38.1.1)
set_option maxRecDepth 100000 in
theorem g_X11_enough_k_v5 (u : qS) (x : Int32) (y : Int32) (z : Int32) (w : Int32) (k : qS) (P : Nat → Int32) (u_3 : qS) (S_8 : Nat → Int32) (B_9 : Nat → Int32) (u_14 : qS) (hk : CT k P u) (hca : t_ca k u) (hz8 : 0 ≤ u.1 8 ∧ u.1 8 ≤ 20) (hz9 : 0 ≤ u.1 9 ∧ u.1 9 ≤ 8) (hz10 : 0 ≤ u.1 10 ∧ u.1 10 ≤ 120) (hz12 : 0 ≤ u.1 12 ∧ u.1 12 ≤ 16) (hm_11 : f_fi (k) S_8) (hm_12 : m_R (k) B_9 (f_M (k)) (u_3.2.1 303) (u_3.2.1 304) (u_3.2.1 305)) (c9_13 : ¬ (x : Int32) = y) (b17_38 : f_HM (k) x z w ∧ m_A (k) (fun _ => 1) z w (u_14.2.1 307) ((k).1 1247).toNatClampNeg) (b28_42 : 0 ≤ y ∧ y < (u.1 8 : Int32)) (b39_46 : 0 < (u_14.2.1 307) y.toNatClampNeg) : 0 ≤ x ∧ x < (u.1 8 : Int32) := by
  first | assumption | (rw [hk.1.2.1]; exact b17_38.1.1)
set_option maxRecDepth 100000 in
theorem g_X11_enough_k_v6 (u : qS) (x : Int32) (y : Int32) (z : Int32) (w : Int32) (k : qS) (P : Nat → Int32) (u_3 : qS) (S_8 : Nat → Int32) (B_9 : Nat → Int32) (u_14 : qS) (hk : CT k P u) (hca : t_ca k u) (hz8 : 0 ≤ u.1 8 ∧ u.1 8 ≤ 20) (hz9 : 0 ≤ u.1 9 ∧ u.1 9 ≤ 8) (hz10 : 0 ≤ u.1 10 ∧ u.1 10 ≤ 120) (hz12 : 0 ≤ u.1 12 ∧ u.1 12 ≤ 16) (hm_11 : f_fi (k) S_8) (hm_12 : m_R (k) B_9 (f_M (k)) (u_3.2.1 303) (u_3.2.1 304) (u_3.2.1 305)) (c9_13 : ¬ (x : Int32) = y) (b17_38 : f_HM (k) x z w ∧ m_A (k) (fun _ => 1) z w (u_14.2.1 307) ((k).1 1247).toNatClampNeg) (b28_42 : 0 ≤ y ∧ y < (u.1 8 : Int32)) (b39_46 : 0 < (u_14.2.1 307) y.toNatClampNeg) : 0 ≤ y ∧ y < (u.1 8 : Int32) := by
  first | assumption | (rw [hk.1.2.1]; exact b17_38.1.1)
set_option maxRecDepth 100000 in
theorem g_X11_enough_k_v7 (u : qS) (x : Int32) (y : Int32) (z : Int32) (w : Int32) (k : qS) (P : Nat → Int32) (u_3 : qS) (S_8 : Nat → Int32) (B_9 : Nat → Int32) (u_14 : qS) (r_49 : Int32) (r_52 : Int32) (r_53 : Int32) (hk : CT k P u) (hca : t_ca k u) (hz8 : 0 ≤ u.1 8 ∧ u.1 8 ≤ 20) (hz9 : 0 ≤ u.1 9 ∧ u.1 9 ≤ 8) (hz10 : 0 ≤ u.1 10 ∧ u.1 10 ≤ 120) (hz12 : 0 ≤ u.1 12 ∧ u.1 12 ≤ 16) (hm_11 : f_fi (k) S_8) (hm_12 : m_R (k) B_9 (f_M (k)) (u_3.2.1 303) (u_3.2.1 304) (u_3.2.1 305)) (c9_13 : ¬ (x : Int32) = y) (b17_38 : f_HM (k) x z w ∧ m_A (k) (fun _ => 1) z w (u_14.2.1 307) ((k).1 1247).toNatClampNeg) (b28_42 : 0 ≤ y ∧ y < (u.1 8 : Int32)) (b39_46 : 0 < (u_14.2.1 307) y.toNatClampNeg) : 1 ≤ (1 : Int32) := by
  first | omega | ((try simp only [g_m1, Int32.lt_iff_toInt_lt, Int32.le_iff_toInt_le, ← Int32.toInt_inj, Int32.reduceToInt] at *); omega) | ((try simp only [g_m1, Int32.lt_iff_toInt_lt, Int32.le_iff_toInt_le, ← Int32.toInt_inj, Int32.reduceToInt] at *); omega) | ((try simp only [g_m1, Int32.lt_iff_toInt_lt, Int32.le_iff_toInt_le, ← Int32.toInt_inj, Int32.toInt_add, Int32.toInt_sub, Int32.toInt_mul, Int32.toInt_neg, Int32.reduceToInt, g_bm, g_bm'] at *); omega) | (have qr1 := g_rng x; have qr2 := g_rng y; have qr3 := g_rng z; have qr4 := g_rng w; have qr11 := g_rng r_49; have qr12 := g_rng r_52; have qr13 := g_rng r_53; (try simp only [g_m1, Int32.lt_iff_toInt_lt, Int32.le_iff_toInt_le, ← Int32.toInt_inj, Int32.toInt_add, Int32.toInt_sub, Int32.toInt_mul, Int32.toInt_neg, Int32.reduceToInt, g_bm, g_bm'] at *); omega) | (simp only [g_m1, Int32.lt_iff_toInt_lt, Int32.le_iff_toInt_le, ← Int32.toInt_inj, Int32.toInt_add, Int32.toInt_sub, Int32.toInt_mul, Int32.toInt_neg, Int32.reduceToInt, g_bm, g_bm'] at *; simp at *; omega) | (simp_all; done)
set_option maxHeartbeats 1000000 in
set_option maxRecDepth 100000 in
theorem g_X11_enough_k (l : Launch) (E : qE) (A : Nat → Prop) (u : qS) (x : Int32) (y : Int32) (z : Int32) (w : Int32) (k : qS) (P : Nat → Int32) (hI : IC E u) (hk : CT k P u) (hca : t_ca k u) : Met l yX11_enough (uws yX11_enough cX11_enough 7 (some .int)) (qR 8 0 0) (qPc E A 0 u [.ref (E.2.2 1199), .int x, .int y, .int z, .int w]) (qQi E A 0 (fun r u1 => (qFc [900, 901, 902, 908, 909, 604, 605, 606, 607, 608, 609, 311] [905, 906, 907, 601, 602, 603, 303, 304, 305, 306, 307] [] [904, 5010, 5011, 5012, 5013, 5014] u u1 ∧ IC E u1) ∧ (t_ca k u1))) 0 0 A := by
  refine q_met (own := RX11) (f := 8) [.ref (E.2.2 1199), .int x, .int y, .int z, .int w] (by decide) (Nat.le_of_ble_eq_true rfl) rfl ?_
  intro p0 e0 s0 m0 bl0 me0 cd0 ls hF hr hlocks hU hS hA hl
  have hl : lv_has ls 7 [(0, .ref (E.2.2 1199)), (1, .int x), (2, .int y), (3, .int z), (4, .int w)] := hl
  have hz8 : 0 ≤ u.1 8 ∧ u.1 8 ≤ 20 := hI.1.s8
  have hz9 : 0 ≤ u.1 9 ∧ u.1 9 ≤ 8 := hI.1.s9
  have hz10 : 0 ≤ u.1 10 ∧ u.1 10 ≤ 120 := hI.1.s10
  have hz12 : 0 ≤ u.1 12 ∧ u.1 12 ≤ 16 := hI.1.s12
  have hfr : qFc [900, 901, 902, 908, 909, 604, 605, 606, 607, 608, 609, 311] [905, 906, 907, 601, 602, 603, 303, 304, 305, 306, 307] [] [904, 5010, 5011, 5012, 5013, 5014] u u := qFc.rf
  have hCA := hca
  have main : ∀ n : Nat, (∀ (x5 : Int32) (x6 : Int32) (uc : qS) (H : Heap) (locs : List Loc) (ls : Array Slot) (hfr : qFc [900, 901, 902, 908, 909, 604, 605, 606, 607, 608, 609, 311] [905, 906, 907, 601, 602, 603, 303, 304, 305, 306, 307] [] [904, 5010, 5011, 5012, 5013, 5014] u uc) (hI : IC E uc) (h_k : 1 ≤ x6) (h_ca : t_ca k uc), (1000 - x6.toInt).toNat < n → qH E A 0 uc s0 H → va_S A s0.heap H locs → lv_has ls 7 [(0, .ref (E.2.2 1199)), (1, .int x), (2, .int y), (3, .int z), (4, .int w), (5, .int x5), (6, .int x6)] → W p0 l e0 (qR 8 0 0) s0 m0 ([.ref (E.2.2 1199), .int x, .int y, .int z, .int w] : List Value).toArray bl0 me0 cd0 H locs 0 0 (MQ bl0 (qQi E A 0 (fun r u1 => (qFc [900, 901, 902, 908, 909, 604, 605, 606, 607, 608, 609, 311] [905, 906, 907, 601, 602, 603, 303, 304, 305, 306, 307] [] [904, 5010, 5011, 5012, 5013, 5014] u u1 ∧ IC E u1) ∧ (t_ca k u1))) ([.ref (E.2.2 1199), .int x, .int y, .int z, .int w] : List Value).toArray s0 0 0 A) (F0 m0 72 ls [])) := by
    clear hI hfr
    intro n
    induction n with
    | zero => exact fun _ _ _ _ _ _ _ _ _ _ hmu => absurd hmu (Nat.not_lt_zero _)
    | succ n ih =>
      intro x5 x6 uc H locs ls hfr hI h_k h_ca hmu hU hS hl
      have hCA := h_ca
      refine lv_iload hF.1 hF.2.1 dX11_enough_72 (lv_at hl 6 rfl) ?_
      refine lv_sipush (v := 999) hF.1 hF.2.1 dX11_enough_74 (by decide) ?_
      refine lv_icmp_gt (tgt := 106) hF.1 hF.2.1 dX11_enough_77 (by decide) (fun c77_1 => ?_) (fun c77_1 => ?_)
      · refine lv_iconst (v := (-1)) hF.1 hF.2.1 dX11_enough_106 (by decide) ?_
        exact q_iret hF hr rfl hlocks hU hS dX11_enough_107 ⟨⟨hfr, hI⟩, hCA⟩
      · refine lv_iload hF.1 hF.2.1 dX11_enough_80 (lv_at hl 5 rfl) ?_
        refine lv_iconst (v := 2) hF.1 hF.2.1 dX11_enough_82 (by decide) ?_
        refine lv_bipush (v := 100) hF.1 hF.2.1 dX11_enough_83 (by decide) ?_
        refine lv_aload_n hF.1 hF.2.1 dX11_enough_85 rfl (lv_at hl 0 rfl) ?_
        refine q_get (v := .int (u.1 1108)) hF hU dX11_enough_86 0 11 8 1108 1199 rfl rfl rfl rfl inX11 (by decide) (by decide) w_444 rfl (congrArg Value.int (hfr.1 1108 (by decide))) ?_
        refine lv_imul hF.1 hF.2.1 dX11_enough_89 ?_
        refine lv_iload hF.1 hF.2.1 dX11_enough_90 (lv_at hl 6 rfl) ?_
        refine lv_idiv hF.1 hF.2.1 dX11_enough_92 (g_X11_enough_k_v0 u x y z w k P x5 x6 uc hk hca hz8 hz9 hz10 hz12 h_k h_ca c77_1) ?_
        refine lv_imul hF.1 hF.2.1 dX11_enough_93 ?_
        refine lv_icmp_le (tgt := 100) hF.1 hF.2.1 dX11_enough_94 (by decide) (fun c94_2 => ?_) (fun c94_2 => ?_)
        · refine lv_iinc (v := x6 + 1) (lv' := [(6, .int (x6 + 1)), (0, .ref (E.2.2 1199)), (1, .int x), (2, .int y), (3, .int z), (4, .int w), (5, .int x5)]) hF.1 hF.2.1 dX11_enough_100 hl (k := 6) rfl rfl (by decide) rfl (fun ls hl => ?_)
          refine lv_goto (tgt := 72) hF.1 hF.2.1 dX11_enough_103 (by decide) ?_
          exact ih x5 (x6 + 1) uc _ _ _ hfr hI  (g_X11_enough_k_v1 u x y z w k P x5 x6 uc hk hca hz8 hz9 hz10 hz12 h_k h_ca c77_1 c94_2) hCA (Nat.lt_of_lt_of_le (g_X11_enough_k_v2 u x y z w k P x5 x6 uc hk hca hz8 hz9 hz10 hz12 h_k h_ca c77_1 c94_2) (Nat.lt_succ_iff.mp hmu)) hU hS (lv_sub hl [1, 2, 3, 4, 5, 6, 0] rfl)
        · refine lv_iload hF.1 hF.2.1 dX11_enough_97 (lv_at hl 6 rfl) ?_
          exact q_iret hF hr rfl hlocks hU hS dX11_enough_99 ⟨⟨hfr, hI⟩, hCA⟩
  refine lv_aload_n hF.1 hF.2.1 dX11_enough_0 rfl (lv_at hl 0 rfl) ?_
  refine q_get (v := .ref (E.2.2 399)) hF hU dX11_enough_1 0 11 5 1105 1199 rfl rfl rfl rfl inX11 (by decide) (by decide) w_441 rfl rfl ?_
  have hM9 := g_X3_refresh_k l E A u k P hI hk hCA
  have hR9 := q_runV (l := l) (e := e0) (below := bl0) (meth := me0) (R := qR 8 0 0) (cells := 0) (slots := 0) (st0 := [.ref (E.2.2 399)]) (rest := []) hF hU hS hA 0 6 3 399 rfl rfl rfl hM9 w_931 w_932 w_933 w_105 w_934 (by decide +kernel) ⟨Nat.le_of_ble_eq_true rfl, Nat.le_of_ble_eq_true rfl⟩ dX11_enough_4 rfl hl.1 rfl (Nat.le_of_ble_eq_true rfl) ⟨Nat.le_of_ble_eq_true rfl, Nat.le_of_ble_eq_true rfl⟩
  refine q_callv hR9 hU.2.2.2 hS (fun u_3 H locs hw_4 hU hS => ?_)
  obtain ⟨⟨hw_4_f, hI⟩, hw_4⟩ := hw_4
  have hfo := hfr
  have hfr : qFc [900, 901, 902, 908, 909, 604, 605, 606, 607, 608, 609, 311] [905, 906, 907, 601, 602, 603, 303, 304, 305, 306, 307] [] [904, 5010, 5011, 5012, 5013, 5014] u u_3 := hfr.trans (hw_4_f.mono (by decide) (by decide) (by decide) (by decide))
  have e_6 : u_3.2.1 306 = (u.2.1 306) := (hw_4_f.2.1 306 (by decide)).trans rfl
  have e_7 : u_3.2.1 307 = (u.2.1 307) := (hw_4_f.2.1 307 (by decide)).trans rfl
  have hCA := hw_4.1
  have hw_4 := hw_4.2
  obtain ⟨S_8, B_9, hST, hBT, hq_10⟩ := hw_4
  have hq_10 : f_fi (k) S_8 ∧ m_R (k) B_9 (f_M (k)) (u_3.2.1 303) (u_3.2.1 304) (u_3.2.1 305) := hq_10
  have hm_11 : f_fi (k) S_8 := hq_10.1
  have hm_12 : m_R (k) B_9 (f_M (k)) (u_3.2.1 303) (u_3.2.1 304) (u_3.2.1 305) := hq_10.2
  refine lv_iload_n hF.1 hF.2.1 dX11_enough_7 rfl (lv_at hl 1 rfl) ?_
  refine lv_iload_n hF.1 hF.2.1 dX11_enough_8 rfl (lv_at hl 2 rfl) ?_
  refine lv_icmp_eq (tgt := 45) hF.1 hF.2.1 dX11_enough_9 (by decide) (fun c9_13 => ?_) (fun c9_13 => ?_)
  · refine lv_iconst (v := (-1)) hF.1 hF.2.1 dX11_enough_45 (by decide) ?_
    exact q_iret hF hr rfl hlocks hU hS dX11_enough_46 ⟨⟨hfr, hI⟩, hCA⟩
  · refine lv_aload_n hF.1 hF.2.1 dX11_enough_12 rfl (lv_at hl 0 rfl) ?_
    refine lv_iload_n hF.1 hF.2.1 dX11_enough_13 rfl (lv_at hl 1 rfl) ?_
    refine lv_iload_n hF.1 hF.2.1 dX11_enough_14 rfl (lv_at hl 3 rfl) ?_
    refine lv_iload hF.1 hF.2.1 dX11_enough_15 (lv_at hl 4 rfl) ?_
    have hM9 := g_X11_hasMean_k l E A u_3 x z w k P S_8 hI (hk.fr hfr (by decide) (by decide)) hST (g_X11_enough_k_v3 u x y z w k P u_3 S_8 B_9 hk hca hz8 hz9 hz10 hz12 hm_11 hm_12 c9_13)
    have hR9 := q_runV (l := l) (e := e0) (below := bl0) (meth := me0) (R := qR 8 0 0) (cells := 0) (slots := 0) (st0 := [.int w, .int z, .int x, .ref (E.2.2 1199)]) (rest := []) hF hU hS hA 3 0 11 1199 rfl rfl rfl hM9 w_1013 w_1015 w_35 w_99 w_1016 (by decide +kernel) ⟨Nat.le_of_ble_eq_true rfl, Nat.le_of_ble_eq_true rfl⟩ dX11_enough_17 rfl hl.1 rfl (Nat.le_of_ble_eq_true rfl) ⟨Nat.le_of_ble_eq_true rfl, Nat.le_of_ble_eq_true rfl⟩
    refine q_calli hR9 hU.2.2.2 hS (fun r_16 u_14 H locs hw_15 hU hS => ?_)
    obtain ⟨⟨hw_15_f, hI, hw_15_d⟩, hw_15⟩ := hw_15
    have hfo := hfr
    have hfr : qFc [900, 901, 902, 908, 909, 604, 605, 606, 607, 608, 609, 311] [905, 906, 907, 601, 602, 603, 303, 304, 305, 306, 307] [] [904, 5010, 5011, 5012, 5013, 5014] u u_14 := hfr.trans (hw_15_f.mono (by decide) (by decide) (by decide) (by decide))
    have e_17 : u_14.1 311 = (u_3.1 311) := (hw_15_f.1 311 (by decide)).trans rfl
    have e_18 : u_14.1 604 = (u_3.1 604) := (hw_15_f.1 604 (by decide)).trans rfl
    have e_19 : u_14.1 605 = (u_3.1 605) := (hw_15_f.1 605 (by decide)).trans rfl
    have e_20 : u_14.1 606 = (u_3.1 606) := (hw_15_f.1 606 (by decide)).trans rfl
    have e_21 : u_14.1 607 = (u_3.1 607) := (hw_15_f.1 607 (by decide)).trans rfl
    have e_22 : u_14.1 608 = (u_3.1 608) := (hw_15_f.1 608 (by decide)).trans rfl
    have e_23 : u_14.1 609 = (u_3.1 609) := (hw_15_f.1 609 (by decide)).trans rfl
    have e_24 : u_14.1 900 = (u_3.1 900) := (hw_15_f.1 900 (by decide)).trans rfl
    have e_25 : u_14.1 901 = (u_3.1 901) := (hw_15_f.1 901 (by decide)).trans rfl
    have e_26 : u_14.1 902 = (u_3.1 902) := (hw_15_f.1 902 (by decide)).trans rfl
    have e_27 : u_14.1 908 = (u_3.1 908) := (hw_15_f.1 908 (by decide)).trans rfl
    have e_28 : u_14.1 909 = (u_3.1 909) := (hw_15_f.1 909 (by decide)).trans rfl
    have e_29 : u_14.2.1 303 = (u_3.2.1 303) := (hw_15_f.2.1 303 (by decide)).trans rfl
    have e_30 : u_14.2.1 304 = (u_3.2.1 304) := (hw_15_f.2.1 304 (by decide)).trans rfl
    have e_31 : u_14.2.1 305 = (u_3.2.1 305) := (hw_15_f.2.1 305 (by decide)).trans rfl
    have e_32 : u_14.2.1 601 = (u_3.2.1 601) := (hw_15_f.2.1 601 (by decide)).trans rfl
    have e_33 : u_14.2.1 602 = (u_3.2.1 602) := (hw_15_f.2.1 602 (by decide)).trans rfl
    have e_34 : u_14.2.1 603 = (u_3.2.1 603) := (hw_15_f.2.1 603 (by decide)).trans rfl
    have e_35 : u_14.2.1 905 = (u_3.2.1 905) := (hw_15_f.2.1 905 (by decide)).trans rfl
    have e_36 : u_14.2.1 906 = (u_3.2.1 906) := (hw_15_f.2.1 906 (by decide)).trans rfl
    have e_37 : u_14.2.1 907 = (u_3.2.1 907) := (hw_15_f.2.1 907 (by decide)).trans rfl
    have hCA : t_ca k u_14 := hCA.fr hw_15_f (by decide) (by decide) (by decide)
    have hST : qFD 10 S_8 u_14 := hST.fr hw_15_f (by decide) (by decide) (by decide) (by decide) (by decide)
    have hBT : qFD 11 B_9 u_14 := hBT.fr hw_15_f (by decide) (by decide) (by decide) (by decide) (by decide)
    have hw_15 : (r_16 = 1 ∧ (f_HM (k) x z w ∧ m_A (k) (fun _ => 1) z w (u_14.2.1 307) ((k).1 1247).toNatClampNeg)) ∨ (r_16 = 0 ∧ (¬ f_HM (k) x z w)) := hw_15
    rcases hw_15 with ⟨rfl, b17_38⟩ | ⟨rfl, b17_38⟩
    · refine lv_if_eq (tgt := 45) hF.1 hF.2.1 dX11_enough_20 (by decide) (fun h9 => absurd h9 (by decide)) (fun _ => ?_)
      refine lv_aload_n hF.1 hF.2.1 dX11_enough_23 rfl (lv_at hl 0 rfl) ?_
      refine q_get (v := .ref (E.2.2 99)) hF hU dX11_enough_24 0 11 0 1100 1199 rfl rfl rfl rfl inX11 (by decide) (by decide) w_436 rfl rfl ?_
      refine lv_iload_n hF.1 hF.2.1 dX11_enough_27 rfl (lv_at hl 2 rfl) ?_
      have hM9 := g_X0_hasShop l E A u_14 y hI
      have hR9 := q_runV (l := l) (e := e0) (below := bl0) (meth := me0) (R := qR 8 0 0) (cells := 0) (slots := 0) (st0 := [.int y, .ref (E.2.2 99)]) (rest := []) hF hU hS hA 1 1 0 99 rfl rfl rfl hM9 w_563 w_564 w_565 w_100 w_566 (by decide +kernel) ⟨Nat.le_of_ble_eq_true rfl, Nat.le_of_ble_eq_true rfl⟩ dX11_enough_28 rfl hl.1 rfl (Nat.le_of_ble_eq_true rfl) ⟨Nat.le_of_ble_eq_true rfl, Nat.le_of_ble_eq_true rfl⟩
      refine q_calli hR9 hU.2.2.2 hS (fun r_41 u_39 H locs hw_40 hU hS => ?_)
      obtain ⟨hw_40_e, hw_40⟩ := hw_40
      rw [hw_40_e] at hU
      have hw_40 : (r_41 = 1 ∧ (0 ≤ y ∧ y < (u.1 8 : Int32))) ∨ (r_41 = 0 ∧ (¬ (0 ≤ y ∧ y < (u.1 8 : Int32)))) := by rw [(hfr.1 8 (by decide))] at hw_40; exact hw_40
      rcases hw_40 with ⟨rfl, b28_42⟩ | ⟨rfl, b28_42⟩
      · refine lv_if_eq (tgt := 45) hF.1 hF.2.1 dX11_enough_31 (by decide) (fun h9 => absurd h9 (by decide)) (fun _ => ?_)
        refine lv_aload_n hF.1 hF.2.1 dX11_enough_34 rfl (lv_at hl 0 rfl) ?_
        refine q_get (v := .ref (E.2.2 399)) hF hU dX11_enough_35 0 11 5 1105 1199 rfl rfl rfl rfl inX11 (by decide) (by decide) w_441 rfl rfl ?_
        refine lv_iload_n hF.1 hF.2.1 dX11_enough_38 rfl (lv_at hl 2 rfl) ?_
        have hM9 := g_X3_isMet_k l E A u_14 y k P hI (hk.fr hfr (by decide) (by decide)) (by rw [(hfr.1 8 (by decide))]; exact (g_X11_enough_k_v4 u x y z w k P u_3 S_8 B_9 u_14 hk hca hz8 hz9 hz10 hz12 hm_11 hm_12 c9_13 b17_38 b28_42))
        have hR9 := q_runV (l := l) (e := e0) (below := bl0) (meth := me0) (R := qR 8 0 0) (cells := 0) (slots := 0) (st0 := [.int y, .ref (E.2.2 399)]) (rest := []) hF hU hS hA 1 6 3 399 rfl rfl rfl hM9 w_1033 w_1034 w_1035 w_105 w_1036 (by decide +kernel) ⟨Nat.le_of_ble_eq_true rfl, Nat.le_of_ble_eq_true rfl⟩ dX11_enough_39 rfl hl.1 rfl (Nat.le_of_ble_eq_true rfl) ⟨Nat.le_of_ble_eq_true rfl, Nat.le_of_ble_eq_true rfl⟩
        refine q_calli hR9 hU.2.2.2 hS (fun r_45 u_43 H locs hw_44 hU hS => ?_)
        obtain ⟨hw_44_e, hw_44⟩ := hw_44
        rw [hw_44_e] at hU
        have hw_44 : (r_45 = 1 ∧ (0 < (u_14.2.1 307) y.toNatClampNeg)) ∨ (r_45 = 0 ∧ (¬ (0 < (u_14.2.1 307) y.toNatClampNeg))) := hw_44
        rcases hw_44 with ⟨rfl, b39_46⟩ | ⟨rfl, b39_46⟩
        · refine lv_if_ne (tgt := 47) hF.1 hF.2.1 dX11_enough_42 (by decide) (fun _ => ?_) (fun h9 => absurd h9 (by decide))
          refine lv_aload_n hF.1 hF.2.1 dX11_enough_47 rfl (lv_at hl 0 rfl) ?_
          refine q_get (v := .ref (E.2.2 399)) hF hU dX11_enough_48 0 11 5 1105 1199 rfl rfl rfl rfl inX11 (by decide) (by decide) w_441 rfl rfl ?_
          refine lv_iload_n hF.1 hF.2.1 dX11_enough_51 rfl (lv_at hl 1 rfl) ?_
          have hM9 := g_X3_meanOf l E A u_14 x hI (by rw [(hfr.1 8 (by decide))]; exact (g_X11_enough_k_v5 u x y z w k P u_3 S_8 B_9 u_14 hk hca hz8 hz9 hz10 hz12 hm_11 hm_12 c9_13 b17_38 b28_42 b39_46))
          have hR9 := q_runV (l := l) (e := e0) (below := bl0) (meth := me0) (R := qR 8 0 0) (cells := 0) (slots := 0) (st0 := [.int x, .ref (E.2.2 399)]) (rest := []) hF hU hS hA 1 6 3 399 rfl rfl rfl hM9 w_1085 w_1050 w_1051 w_105 w_1052 (by decide +kernel) ⟨Nat.le_of_ble_eq_true rfl, Nat.le_of_ble_eq_true rfl⟩ dX11_enough_52 rfl hl.1 rfl (Nat.le_of_ble_eq_true rfl) ⟨Nat.le_of_ble_eq_true rfl, Nat.le_of_ble_eq_true rfl⟩
          refine q_calli hR9 hU.2.2.2 hS (fun r_49 u_47 H locs hw_48 hU hS => ?_)
          obtain ⟨hw_48_e, hw_48⟩ := hw_48
          rw [hw_48_e] at hU
          refine lv_aload_n hF.1 hF.2.1 dX11_enough_55 rfl (lv_at hl 0 rfl) ?_
          refine q_get (v := .ref (E.2.2 399)) hF hU dX11_enough_56 0 11 5 1105 1199 rfl rfl rfl rfl inX11 (by decide) (by decide) w_441 rfl rfl ?_
          refine lv_iload_n hF.1 hF.2.1 dX11_enough_59 rfl (lv_at hl 2 rfl) ?_
          have hM9 := g_X3_meanOf l E A u_14 y hI (by rw [(hfr.1 8 (by decide))]; exact (g_X11_enough_k_v6 u x y z w k P u_3 S_8 B_9 u_14 hk hca hz8 hz9 hz10 hz12 hm_11 hm_12 c9_13 b17_38 b28_42 b39_46))
          have hR9 := q_runV (l := l) (e := e0) (below := bl0) (meth := me0) (R := qR 8 0 0) (cells := 0) (slots := 0) (st0 := [.int y, .ref (E.2.2 399), .int r_49]) (rest := [.int r_49]) hF hU hS hA 1 6 3 399 rfl rfl rfl hM9 w_1085 w_1050 w_1051 w_105 w_1052 (by decide +kernel) ⟨Nat.le_of_ble_eq_true rfl, Nat.le_of_ble_eq_true rfl⟩ dX11_enough_60 rfl hl.1 rfl (Nat.le_of_ble_eq_true rfl) ⟨Nat.le_of_ble_eq_true rfl, Nat.le_of_ble_eq_true rfl⟩
          refine q_calli hR9 hU.2.2.2 hS (fun r_52 u_50 H locs hw_51 hU hS => ?_)
          obtain ⟨hw_51_e, hw_51⟩ := hw_51
          rw [hw_51_e] at hU
          refine lv_isub hF.1 hF.2.1 dX11_enough_63 ?_
          refine va_mabs hF.1 hF.2.1 (hF.2.2.1.trans hl.1.symm) hF.2.2.2.1 (hF.2.2.2.2 _ w_1086) (hF.2.2.2.2 _ w_885) (hF.2.2.2.2 _ w_113) (hF.2.2.2.2 _ w_886) (by decide) (Nat.le_of_ble_eq_true rfl) (by decide) (by decide) dX11_enough_64 ?_
          obtain ⟨r_53, hr_53⟩ : ∃ z : Int32, z = (if 0 ≤ (r_49 - r_52 : Int32) then (r_49 - r_52) else 0 - (r_49 - r_52)) := ⟨_, rfl⟩
          refine q_topi hr_53.symm ?_
          refine lv_istore (lv' := [(5, .int r_53), (0, .ref (E.2.2 1199)), (1, .int x), (2, .int y), (3, .int z), (4, .int w)]) hF.1 hF.2.1 dX11_enough_67 hl (by decide) rfl (fun ls hl => ?_)
          refine lv_iconst (v := 1) hF.1 hF.2.1 dX11_enough_69 (by decide) ?_
          refine lv_istore (lv' := [(6, .int 1), (5, .int r_53), (0, .ref (E.2.2 1199)), (1, .int x), (2, .int y), (3, .int z), (4, .int w)]) hF.1 hF.2.1 dX11_enough_70 hl (by decide) rfl (fun ls hl => ?_)
          exact (main _) r_53 (1 : Int32) u_14 _ _ _ hfr hI  (g_X11_enough_k_v7 u x y z w k P u_3 S_8 B_9 u_14 r_49 r_52 r_53 hk hca hz8 hz9 hz10 hz12 hm_11 hm_12 c9_13 b17_38 b28_42 b39_46) hCA (Nat.lt_succ_self _) hU hS (lv_sub hl [2, 3, 4, 5, 6, 1, 0] rfl)
        · refine lv_if_ne (tgt := 47) hF.1 hF.2.1 dX11_enough_42 (by decide) (fun h9 => absurd (by decide) h9) (fun _ => ?_)
          refine lv_iconst (v := (-1)) hF.1 hF.2.1 dX11_enough_45 (by decide) ?_
          exact q_iret hF hr rfl hlocks hU hS dX11_enough_46 ⟨⟨hfr, hI⟩, hCA⟩
      · refine lv_if_eq (tgt := 45) hF.1 hF.2.1 dX11_enough_31 (by decide) (fun _ => ?_) (fun h9 => absurd (by decide) h9)
        refine lv_iconst (v := (-1)) hF.1 hF.2.1 dX11_enough_45 (by decide) ?_
        exact q_iret hF hr rfl hlocks hU hS dX11_enough_46 ⟨⟨hfr, hI⟩, hCA⟩
    · refine lv_if_eq (tgt := 45) hF.1 hF.2.1 dX11_enough_20 (by decide) (fun _ => ?_) (fun h9 => absurd (by decide) h9)
      refine lv_iconst (v := (-1)) hF.1 hF.2.1 dX11_enough_45 (by decide) ?_
      exact q_iret hF hr rfl hlocks hU hS dX11_enough_46 ⟨⟨hfr, hI⟩, hCA⟩
set_option maxRecDepth 100000 in
theorem g_X11_sum_k_v0 (u : qS) (x : Int32) (y : Int32) (z : Int32) (w : Int32) (k : qS) (P : Nat → Int32) (hk : CT k P u) (hca : t_ca k u) (hz8 : 0 ≤ u.1 8 ∧ u.1 8 ≤ 20) (hz9 : 0 ≤ u.1 9 ∧ u.1 9 ≤ 8) (hz10 : 0 ≤ u.1 10 ∧ u.1 10 ≤ 120) (hz12 : 0 ≤ u.1 12 ∧ u.1 12 ≤ 16) (b3_4 : (0 ≤ z ∧ z ≤ 9999) ∧ (0 ≤ w ∧ w ≤ 9999) ∧ z ≤ w) (c12_5 : ¬ (x : Int32) = 0) (c33_6 : (x : Int32) = 1) (b41_10 : 0 ≤ y ∧ y < u.1 9) : 0 ≤ y ∧ y < (u.1 9 : Int32) := by
  first | omega | ((try simp only [g_m1, Int32.lt_iff_toInt_lt, Int32.le_iff_toInt_le, ← Int32.toInt_inj, Int32.reduceToInt] at *); omega) | ((try simp only [g_m1, Int32.lt_iff_toInt_lt, Int32.le_iff_toInt_le, ← Int32.toInt_inj, Int32.reduceToInt] at *); omega) | ((try simp only [g_m1, Int32.lt_iff_toInt_lt, Int32.le_iff_toInt_le, ← Int32.toInt_inj, Int32.toInt_add, Int32.toInt_sub, Int32.toInt_mul, Int32.toInt_neg, Int32.reduceToInt, g_bm, g_bm'] at *); omega) | (have qr1 := g_rng x; have qr2 := g_rng y; have qr3 := g_rng z; have qr4 := g_rng w; (try simp only [g_m1, Int32.lt_iff_toInt_lt, Int32.le_iff_toInt_le, ← Int32.toInt_inj, Int32.toInt_add, Int32.toInt_sub, Int32.toInt_mul, Int32.toInt_neg, Int32.reduceToInt, g_bm, g_bm'] at *); omega) | (simp only [g_m1, Int32.lt_iff_toInt_lt, Int32.le_iff_toInt_le, ← Int32.toInt_inj, Int32.toInt_add, Int32.toInt_sub, Int32.toInt_mul, Int32.toInt_neg, Int32.reduceToInt, g_bm, g_bm'] at *; simp at *; omega) | (simp_all; done)
set_option maxRecDepth 100000 in
theorem g_X11_sum_k_v1 (u : qS) (x : Int32) (y : Int32) (z : Int32) (w : Int32) (k : qS) (P : Nat → Int32) (hk : CT k P u) (hca : t_ca k u) (hz8 : 0 ≤ u.1 8 ∧ u.1 8 ≤ 20) (hz9 : 0 ≤ u.1 9 ∧ u.1 9 ≤ 8) (hz10 : 0 ≤ u.1 10 ∧ u.1 10 ≤ 120) (hz12 : 0 ≤ u.1 12 ∧ u.1 12 ≤ 16) (b3_4 : (0 ≤ z ∧ z ≤ 9999) ∧ (0 ≤ w ∧ w ≤ 9999) ∧ z ≤ w) (c12_5 : (x : Int32) = 0) (b16_26 : ¬ (0 ≤ y ∧ y ≤ 3)) (c33_30 : (x : Int32) = 1) (b41_34 : 0 ≤ y ∧ y < u.1 9) : 0 ≤ y ∧ y < (u.1 9 : Int32) := by
  first | omega | ((try simp only [g_m1, Int32.lt_iff_toInt_lt, Int32.le_iff_toInt_le, ← Int32.toInt_inj, Int32.reduceToInt] at *); omega) | ((try simp only [g_m1, Int32.lt_iff_toInt_lt, Int32.le_iff_toInt_le, ← Int32.toInt_inj, Int32.reduceToInt] at *); omega) | ((try simp only [g_m1, Int32.lt_iff_toInt_lt, Int32.le_iff_toInt_le, ← Int32.toInt_inj, Int32.toInt_add, Int32.toInt_sub, Int32.toInt_mul, Int32.toInt_neg, Int32.reduceToInt, g_bm, g_bm'] at *); omega) | (have qr1 := g_rng x; have qr2 := g_rng y; have qr3 := g_rng z; have qr4 := g_rng w; (try simp only [g_m1, Int32.lt_iff_toInt_lt, Int32.le_iff_toInt_le, ← Int32.toInt_inj, Int32.toInt_add, Int32.toInt_sub, Int32.toInt_mul, Int32.toInt_neg, Int32.reduceToInt, g_bm, g_bm'] at *); omega) | (simp only [g_m1, Int32.lt_iff_toInt_lt, Int32.le_iff_toInt_le, ← Int32.toInt_inj, Int32.toInt_add, Int32.toInt_sub, Int32.toInt_mul, Int32.toInt_neg, Int32.reduceToInt, g_bm, g_bm'] at *; simp at *; omega) | (simp_all; done)
set_option maxHeartbeats 1000000 in
set_option maxRecDepth 100000 in
theorem g_X11_sum_k (l : Launch) (E : qE) (A : Nat → Prop) (u : qS) (x : Int32) (y : Int32) (z : Int32) (w : Int32) (k : qS) (P : Nat → Int32) (hI : IC E u) (hk : CT k P u) (hca : t_ca k u) : Met l yX11_sum (uws yX11_sum cX11_sum 5 (some .int)) (qR 8 0 0) (qPc E A 0 u [.ref (E.2.2 1199), .int x, .int y, .int z, .int w]) (qQi E A 0 (fun r u1 => (qFc [900, 901, 902, 908, 909, 604, 605, 606, 607, 608, 609] [905, 906, 907, 601, 602, 603] [] [904, 5010, 5011, 5012, 5013, 5014] u u1 ∧ IC E u1) ∧ (t_ca k u1))) 0 0 A := by
  refine q_met (own := RX11) (f := 8) [.ref (E.2.2 1199), .int x, .int y, .int z, .int w] (by decide) (Nat.le_of_ble_eq_true rfl) rfl ?_
  intro p0 e0 s0 m0 bl0 me0 cd0 ls hF hr hlocks hU hS hA hl
  have hl : lv_has ls 5 [(0, .ref (E.2.2 1199)), (1, .int x), (2, .int y), (3, .int z), (4, .int w)] := hl
  have hz8 : 0 ≤ u.1 8 ∧ u.1 8 ≤ 20 := hI.1.s8
  have hz9 : 0 ≤ u.1 9 ∧ u.1 9 ≤ 8 := hI.1.s9
  have hz10 : 0 ≤ u.1 10 ∧ u.1 10 ≤ 120 := hI.1.s10
  have hz12 : 0 ≤ u.1 12 ∧ u.1 12 ≤ 16 := hI.1.s12
  have hfr : qFc [900, 901, 902, 908, 909, 604, 605, 606, 607, 608, 609] [905, 906, 907, 601, 602, 603] [] [904, 5010, 5011, 5012, 5013, 5014] u u := qFc.rf
  have hCA := hca
  refine lv_iload_n hF.1 hF.2.1 dX11_sum_0 rfl (lv_at hl 3 rfl) ?_
  refine lv_iload hF.1 hF.2.1 dX11_sum_1 (lv_at hl 4 rfl) ?_
  have hM9 := g_X11_isSpan l E A u z w
  have hR9 := q_runS (l := l) (e := e0) (below := bl0) (meth := me0) (R := qR 8 0 0) (cells := 0) (slots := 0) (st0 := [.int w, .int z]) (rest := []) hF hU hS hA 2 hM9 w_1017 w_1018 w_99 w_1019 (by decide +kernel) ⟨Nat.le_of_ble_eq_true rfl, Nat.le_of_ble_eq_true rfl⟩ dX11_sum_3 rfl hl.1 rfl (Nat.le_of_ble_eq_true rfl) ⟨Nat.le_of_ble_eq_true rfl, Nat.le_of_ble_eq_true rfl⟩
  refine q_calli hR9 hU.2.2.2 hS (fun r_3 u_1 H locs hw_2 hU hS => ?_)
  obtain ⟨hw_2_e, hw_2⟩ := hw_2
  rw [hw_2_e] at hU
  have hw_2 : (r_3 = 1 ∧ ((0 ≤ z ∧ z ≤ 9999) ∧ (0 ≤ w ∧ w ≤ 9999) ∧ z ≤ w)) ∨ (r_3 = 0 ∧ (¬ ((0 ≤ z ∧ z ≤ 9999) ∧ (0 ≤ w ∧ w ≤ 9999) ∧ z ≤ w))) := hw_2
  rcases hw_2 with ⟨rfl, b3_4⟩ | ⟨rfl, b3_4⟩
  · refine lv_if_ne (tgt := 11) hF.1 hF.2.1 dX11_sum_6 (by decide) (fun _ => ?_) (fun h9 => absurd h9 (by decide))
    refine lv_iload_n hF.1 hF.2.1 dX11_sum_11 rfl (lv_at hl 1 rfl) ?_
    refine lv_if_ne (tgt := 31) hF.1 hF.2.1 dX11_sum_12 (by decide) (fun c12_5 => ?_) (fun c12_5 => ?_)
    · refine lv_iload_n hF.1 hF.2.1 dX11_sum_31 rfl (lv_at hl 1 rfl) ?_
      refine lv_iconst (v := 1) hF.1 hF.2.1 dX11_sum_32 (by decide) ?_
      refine lv_icmp_ne (tgt := 56) hF.1 hF.2.1 dX11_sum_33 (by decide) (fun c33_6 => ?_) (fun c33_6 => ?_)
      · refine lv_iconst (v := (-1)) hF.1 hF.2.1 dX11_sum_56 (by decide) ?_
        exact q_iret hF hr rfl hlocks hU hS dX11_sum_57 ⟨⟨hfr, hI⟩, hCA⟩
      · refine lv_aload_n hF.1 hF.2.1 dX11_sum_36 rfl (lv_at hl 0 rfl) ?_
        refine q_get (v := .ref (E.2.2 99)) hF hU dX11_sum_37 0 11 0 1100 1199 rfl rfl rfl rfl inX11 (by decide) (by decide) w_436 rfl rfl ?_
        refine lv_iload_n hF.1 hF.2.1 dX11_sum_40 rfl (lv_at hl 2 rfl) ?_
        have hM9 := g_X0_hasBuyer l E A u y hI
        have hR9 := q_runV (l := l) (e := e0) (below := bl0) (meth := me0) (R := qR 8 0 0) (cells := 0) (slots := 0) (st0 := [.int y, .ref (E.2.2 99)]) (rest := []) hF hU hS hA 1 1 0 99 rfl rfl rfl hM9 w_568 w_569 w_570 w_100 w_571 (by decide +kernel) ⟨Nat.le_of_ble_eq_true rfl, Nat.le_of_ble_eq_true rfl⟩ dX11_sum_41 rfl hl.1 rfl (Nat.le_of_ble_eq_true rfl) ⟨Nat.le_of_ble_eq_true rfl, Nat.le_of_ble_eq_true rfl⟩
        refine q_calli hR9 hU.2.2.2 hS (fun r_9 u_7 H locs hw_8 hU hS => ?_)
        obtain ⟨hw_8_e, hw_8⟩ := hw_8
        rw [hw_8_e] at hU
        have hw_8 : (r_9 = 1 ∧ (0 ≤ y ∧ y < u.1 9)) ∨ (r_9 = 0 ∧ (¬ (0 ≤ y ∧ y < u.1 9))) := hw_8
        rcases hw_8 with ⟨rfl, b41_10⟩ | ⟨rfl, b41_10⟩
        · refine lv_if_eq (tgt := 56) hF.1 hF.2.1 dX11_sum_44 (by decide) (fun h9 => absurd h9 (by decide)) (fun _ => ?_)
          refine lv_aload_n hF.1 hF.2.1 dX11_sum_47 rfl (lv_at hl 0 rfl) ?_
          refine lv_iload_n hF.1 hF.2.1 dX11_sum_48 rfl (lv_at hl 2 rfl) ?_
          refine lv_iload_n hF.1 hF.2.1 dX11_sum_49 rfl (lv_at hl 3 rfl) ?_
          refine lv_iload hF.1 hF.2.1 dX11_sum_50 (lv_at hl 4 rfl) ?_
          have hM9 := g_X11_feesOf_k l E A u y z w k P hI hk hCA (g_X11_sum_k_v0 u x y z w k P hk hca hz8 hz9 hz10 hz12 b3_4 c12_5 c33_6 b41_10)
          have hR9 := q_runV (l := l) (e := e0) (below := bl0) (meth := me0) (R := qR 8 0 0) (cells := 0) (slots := 0) (st0 := [.int w, .int z, .int y, .ref (E.2.2 1199)]) (rest := []) hF hU hS hA 3 0 11 1199 rfl rfl rfl hM9 w_1177 w_1179 w_43 w_99 w_1180 (by decide +kernel) ⟨Nat.le_of_ble_eq_true rfl, Nat.le_of_ble_eq_true rfl⟩ dX11_sum_52 rfl hl.1 rfl (Nat.le_of_ble_eq_true rfl) ⟨Nat.le_of_ble_eq_true rfl, Nat.le_of_ble_eq_true rfl⟩
          refine q_calli hR9 hU.2.2.2 hS (fun r_13 u_11 H locs hw_12 hU hS => ?_)
          obtain ⟨⟨hw_12_f, hI⟩, hw_12⟩ := hw_12
          have hfo := hfr
          have hfr : qFc [900, 901, 902, 908, 909, 604, 605, 606, 607, 608, 609] [905, 906, 907, 601, 602, 603] [] [904, 5010, 5011, 5012, 5013, 5014] u u_11 := hfr.trans (hw_12_f.mono (by decide) (by decide) (by decide) (by decide))
          have e_14 : u_11.1 604 = (u.1 604) := (hw_12_f.1 604 (by decide)).trans rfl
          have e_15 : u_11.1 605 = (u.1 605) := (hw_12_f.1 605 (by decide)).trans rfl
          have e_16 : u_11.1 606 = (u.1 606) := (hw_12_f.1 606 (by decide)).trans rfl
          have e_17 : u_11.1 607 = (u.1 607) := (hw_12_f.1 607 (by decide)).trans rfl
          have e_18 : u_11.1 608 = (u.1 608) := (hw_12_f.1 608 (by decide)).trans rfl
          have e_19 : u_11.1 609 = (u.1 609) := (hw_12_f.1 609 (by decide)).trans rfl
          have e_20 : u_11.2.1 601 = (u.2.1 601) := (hw_12_f.2.1 601 (by decide)).trans rfl
          have e_21 : u_11.2.1 602 = (u.2.1 602) := (hw_12_f.2.1 602 (by decide)).trans rfl
          have e_22 : u_11.2.1 603 = (u.2.1 603) := (hw_12_f.2.1 603 (by decide)).trans rfl
          have hCA := hw_12
          exact q_iret hF hr rfl hlocks hU hS dX11_sum_55 ⟨⟨hfr, hI⟩, hCA⟩
        · refine lv_if_eq (tgt := 56) hF.1 hF.2.1 dX11_sum_44 (by decide) (fun _ => ?_) (fun h9 => absurd (by decide) h9)
          refine lv_iconst (v := (-1)) hF.1 hF.2.1 dX11_sum_56 (by decide) ?_
          exact q_iret hF hr rfl hlocks hU hS dX11_sum_57 ⟨⟨hfr, hI⟩, hCA⟩
    · refine lv_iload_n hF.1 hF.2.1 dX11_sum_15 rfl (lv_at hl 2 rfl) ?_
      have hM9 := g_X11_isChain l E A u y
      have hR9 := q_runS (l := l) (e := e0) (below := bl0) (meth := me0) (R := qR 8 0 0) (cells := 0) (slots := 0) (st0 := [.int y]) (rest := []) hF hU hS hA 1 hM9 w_494 w_495 w_99 w_496 (by decide +kernel) ⟨Nat.le_of_ble_eq_true rfl, Nat.le_of_ble_eq_true rfl⟩ dX11_sum_16 rfl hl.1 rfl (Nat.le_of_ble_eq_true rfl) ⟨Nat.le_of_ble_eq_true rfl, Nat.le_of_ble_eq_true rfl⟩
      refine q_calli hR9 hU.2.2.2 hS (fun r_25 u_23 H locs hw_24 hU hS => ?_)
      obtain ⟨hw_24_e, hw_24⟩ := hw_24
      rw [hw_24_e] at hU
      have hw_24 : (r_25 = 1 ∧ (0 ≤ y ∧ y ≤ 3)) ∨ (r_25 = 0 ∧ (¬ (0 ≤ y ∧ y ≤ 3))) := hw_24
      rcases hw_24 with ⟨rfl, b16_26⟩ | ⟨rfl, b16_26⟩
      · refine lv_if_eq (tgt := 31) hF.1 hF.2.1 dX11_sum_19 (by decide) (fun h9 => absurd h9 (by decide)) (fun _ => ?_)
        refine lv_aload_n hF.1 hF.2.1 dX11_sum_22 rfl (lv_at hl 0 rfl) ?_
        refine lv_iload_n hF.1 hF.2.1 dX11_sum_23 rfl (lv_at hl 2 rfl) ?_
        refine lv_iload_n hF.1 hF.2.1 dX11_sum_24 rfl (lv_at hl 3 rfl) ?_
        refine lv_iload hF.1 hF.2.1 dX11_sum_25 (lv_at hl 4 rfl) ?_
        have hM9 := g_X11_bonusesOf_k l E A u y z w k P hI hk hCA
        have hR9 := q_runV (l := l) (e := e0) (below := bl0) (meth := me0) (R := qR 8 0 0) (cells := 0) (slots := 0) (st0 := [.int w, .int z, .int y, .ref (E.2.2 1199)]) (rest := []) hF hU hS hA 3 0 11 1199 rfl rfl rfl hM9 w_1171 w_1173 w_42 w_99 w_1174 (by decide +kernel) ⟨Nat.le_of_ble_eq_true rfl, Nat.le_of_ble_eq_true rfl⟩ dX11_sum_27 rfl hl.1 rfl (Nat.le_of_ble_eq_true rfl) ⟨Nat.le_of_ble_eq_true rfl, Nat.le_of_ble_eq_true rfl⟩
        refine q_calli hR9 hU.2.2.2 hS (fun r_29 u_27 H locs hw_28 hU hS => ?_)
        obtain ⟨⟨hw_28_f, hI⟩, hw_28⟩ := hw_28
        have hfo := hfr
        have hfr : qFc [900, 901, 902, 908, 909, 604, 605, 606, 607, 608, 609] [905, 906, 907, 601, 602, 603] [] [904, 5010, 5011, 5012, 5013, 5014] u u_27 := hfr.trans (hw_28_f.mono (by decide) (by decide) (by decide) (by decide))
        have hCA := hw_28
        exact q_iret hF hr rfl hlocks hU hS dX11_sum_30 ⟨⟨hfr, hI⟩, hCA⟩
      · refine lv_if_eq (tgt := 31) hF.1 hF.2.1 dX11_sum_19 (by decide) (fun _ => ?_) (fun h9 => absurd (by decide) h9)
        refine lv_iload_n hF.1 hF.2.1 dX11_sum_31 rfl (lv_at hl 1 rfl) ?_
        refine lv_iconst (v := 1) hF.1 hF.2.1 dX11_sum_32 (by decide) ?_
        refine lv_icmp_ne (tgt := 56) hF.1 hF.2.1 dX11_sum_33 (by decide) (fun c33_30 => ?_) (fun c33_30 => ?_)
        · refine lv_iconst (v := (-1)) hF.1 hF.2.1 dX11_sum_56 (by decide) ?_
          exact q_iret hF hr rfl hlocks hU hS dX11_sum_57 ⟨⟨hfr, hI⟩, hCA⟩
        · refine lv_aload_n hF.1 hF.2.1 dX11_sum_36 rfl (lv_at hl 0 rfl) ?_
          refine q_get (v := .ref (E.2.2 99)) hF hU dX11_sum_37 0 11 0 1100 1199 rfl rfl rfl rfl inX11 (by decide) (by decide) w_436 rfl rfl ?_
          refine lv_iload_n hF.1 hF.2.1 dX11_sum_40 rfl (lv_at hl 2 rfl) ?_
          have hM9 := g_X0_hasBuyer l E A u y hI
          have hR9 := q_runV (l := l) (e := e0) (below := bl0) (meth := me0) (R := qR 8 0 0) (cells := 0) (slots := 0) (st0 := [.int y, .ref (E.2.2 99)]) (rest := []) hF hU hS hA 1 1 0 99 rfl rfl rfl hM9 w_568 w_569 w_570 w_100 w_571 (by decide +kernel) ⟨Nat.le_of_ble_eq_true rfl, Nat.le_of_ble_eq_true rfl⟩ dX11_sum_41 rfl hl.1 rfl (Nat.le_of_ble_eq_true rfl) ⟨Nat.le_of_ble_eq_true rfl, Nat.le_of_ble_eq_true rfl⟩
          refine q_calli hR9 hU.2.2.2 hS (fun r_33 u_31 H locs hw_32 hU hS => ?_)
          obtain ⟨hw_32_e, hw_32⟩ := hw_32
          rw [hw_32_e] at hU
          have hw_32 : (r_33 = 1 ∧ (0 ≤ y ∧ y < u.1 9)) ∨ (r_33 = 0 ∧ (¬ (0 ≤ y ∧ y < u.1 9))) := hw_32
          rcases hw_32 with ⟨rfl, b41_34⟩ | ⟨rfl, b41_34⟩
          · refine lv_if_eq (tgt := 56) hF.1 hF.2.1 dX11_sum_44 (by decide) (fun h9 => absurd h9 (by decide)) (fun _ => ?_)
            refine lv_aload_n hF.1 hF.2.1 dX11_sum_47 rfl (lv_at hl 0 rfl) ?_
            refine lv_iload_n hF.1 hF.2.1 dX11_sum_48 rfl (lv_at hl 2 rfl) ?_
            refine lv_iload_n hF.1 hF.2.1 dX11_sum_49 rfl (lv_at hl 3 rfl) ?_
            refine lv_iload hF.1 hF.2.1 dX11_sum_50 (lv_at hl 4 rfl) ?_
            have hM9 := g_X11_feesOf_k l E A u y z w k P hI hk hCA (g_X11_sum_k_v1 u x y z w k P hk hca hz8 hz9 hz10 hz12 b3_4 c12_5 b16_26 c33_30 b41_34)
            have hR9 := q_runV (l := l) (e := e0) (below := bl0) (meth := me0) (R := qR 8 0 0) (cells := 0) (slots := 0) (st0 := [.int w, .int z, .int y, .ref (E.2.2 1199)]) (rest := []) hF hU hS hA 3 0 11 1199 rfl rfl rfl hM9 w_1177 w_1179 w_43 w_99 w_1180 (by decide +kernel) ⟨Nat.le_of_ble_eq_true rfl, Nat.le_of_ble_eq_true rfl⟩ dX11_sum_52 rfl hl.1 rfl (Nat.le_of_ble_eq_true rfl) ⟨Nat.le_of_ble_eq_true rfl, Nat.le_of_ble_eq_true rfl⟩
            refine q_calli hR9 hU.2.2.2 hS (fun r_37 u_35 H locs hw_36 hU hS => ?_)
            obtain ⟨⟨hw_36_f, hI⟩, hw_36⟩ := hw_36
            have hfo := hfr
            have hfr : qFc [900, 901, 902, 908, 909, 604, 605, 606, 607, 608, 609] [905, 906, 907, 601, 602, 603] [] [904, 5010, 5011, 5012, 5013, 5014] u u_35 := hfr.trans (hw_36_f.mono (by decide) (by decide) (by decide) (by decide))
            have e_38 : u_35.1 604 = (u.1 604) := (hw_36_f.1 604 (by decide)).trans rfl
            have e_39 : u_35.1 605 = (u.1 605) := (hw_36_f.1 605 (by decide)).trans rfl
            have e_40 : u_35.1 606 = (u.1 606) := (hw_36_f.1 606 (by decide)).trans rfl
            have e_41 : u_35.1 607 = (u.1 607) := (hw_36_f.1 607 (by decide)).trans rfl
            have e_42 : u_35.1 608 = (u.1 608) := (hw_36_f.1 608 (by decide)).trans rfl
            have e_43 : u_35.1 609 = (u.1 609) := (hw_36_f.1 609 (by decide)).trans rfl
            have e_44 : u_35.2.1 601 = (u.2.1 601) := (hw_36_f.2.1 601 (by decide)).trans rfl
            have e_45 : u_35.2.1 602 = (u.2.1 602) := (hw_36_f.2.1 602 (by decide)).trans rfl
            have e_46 : u_35.2.1 603 = (u.2.1 603) := (hw_36_f.2.1 603 (by decide)).trans rfl
            have hCA := hw_36
            exact q_iret hF hr rfl hlocks hU hS dX11_sum_55 ⟨⟨hfr, hI⟩, hCA⟩
          · refine lv_if_eq (tgt := 56) hF.1 hF.2.1 dX11_sum_44 (by decide) (fun _ => ?_) (fun h9 => absurd (by decide) h9)
            refine lv_iconst (v := (-1)) hF.1 hF.2.1 dX11_sum_56 (by decide) ?_
            exact q_iret hF hr rfl hlocks hU hS dX11_sum_57 ⟨⟨hfr, hI⟩, hCA⟩
  · refine lv_if_ne (tgt := 11) hF.1 hF.2.1 dX11_sum_6 (by decide) (fun h9 => absurd (by decide) h9) (fun _ => ?_)
    refine lv_iconst (v := (-1)) hF.1 hF.2.1 dX11_sum_9 (by decide) ?_
    exact q_iret hF hr rfl hlocks hU hS dX11_sum_10 ⟨⟨hfr, hI⟩, hCA⟩
set_option maxRecDepth 100000 in
theorem g_X11_sway_k_v0 (u : qS) (x : Int32) (y : Int32) (k : qS) (P : Nat → Int32) (x4 : Int32) (x5 : Int32) (x6 : Int32) (uc : qS) (r_11 : Int32) (r_20 : Int32) (hk : CT k P u) (hca : t_ca k u) (hz8 : 0 ≤ u.1 8 ∧ u.1 8 ≤ 20) (hz9 : 0 ≤ u.1 9 ∧ u.1 9 ≤ 8) (hz10 : 0 ≤ u.1 10 ∧ u.1 10 ≤ 120) (hz12 : 0 ≤ u.1 12 ∧ u.1 12 ≤ 16) (h_k : 0 ≤ x6) (h_ca : t_ca k uc) (c57_1 : ¬ 12 ≤ (x6 : Int32)) (c91_21 : (r_20 : Int32) ≤ x5) : 0 ≤ (x6 + 1) := by
  first | omega | ((try simp only [g_m1, Int32.lt_iff_toInt_lt, Int32.le_iff_toInt_le, ← Int32.toInt_inj, Int32.reduceToInt] at *); omega) | ((try have ez1 : (x6 + 1 : Int32).toInt = (x6 : Int32).toInt + (1 : Int32).toInt := g_add (by (try simp only [g_m1, Int32.lt_iff_toInt_lt, Int32.le_iff_toInt_le, ← Int32.toInt_inj, Int32.reduceToInt] at *); omega) (by (try simp only [g_m1, Int32.lt_iff_toInt_lt, Int32.le_iff_toInt_le, ← Int32.toInt_inj, Int32.reduceToInt] at *); omega)); (try simp only [g_m1, Int32.lt_iff_toInt_lt, Int32.le_iff_toInt_le, ← Int32.toInt_inj, Int32.reduceToInt] at *); omega) | ((try simp only [g_m1, Int32.lt_iff_toInt_lt, Int32.le_iff_toInt_le, ← Int32.toInt_inj, Int32.toInt_add, Int32.toInt_sub, Int32.toInt_mul, Int32.toInt_neg, Int32.reduceToInt, g_bm, g_bm'] at *); omega) | (have qr1 := g_rng x; have qr2 := g_rng y; have qr6 := g_rng x4; have qr7 := g_rng x5; have qr8 := g_rng x6; have qr11 := g_rng r_11; have qr12 := g_rng r_20; (try simp only [g_m1, Int32.lt_iff_toInt_lt, Int32.le_iff_toInt_le, ← Int32.toInt_inj, Int32.toInt_add, Int32.toInt_sub, Int32.toInt_mul, Int32.toInt_neg, Int32.reduceToInt, g_bm, g_bm'] at *); omega) | (simp only [g_m1, Int32.lt_iff_toInt_lt, Int32.le_iff_toInt_le, ← Int32.toInt_inj, Int32.toInt_add, Int32.toInt_sub, Int32.toInt_mul, Int32.toInt_neg, Int32.reduceToInt, g_bm, g_bm'] at *; simp at *; omega) | (simp_all; done)
set_option maxRecDepth 100000 in
theorem g_X11_sway_k_v1 (u : qS) (x : Int32) (y : Int32) (k : qS) (P : Nat → Int32) (x4 : Int32) (x5 : Int32) (x6 : Int32) (uc : qS) (r_11 : Int32) (r_20 : Int32) (hk : CT k P u) (hca : t_ca k u) (hz8 : 0 ≤ u.1 8 ∧ u.1 8 ≤ 20) (hz9 : 0 ≤ u.1 9 ∧ u.1 9 ≤ 8) (hz10 : 0 ≤ u.1 10 ∧ u.1 10 ≤ 120) (hz12 : 0 ≤ u.1 12 ∧ u.1 12 ≤ 16) (h_k : 0 ≤ x6) (h_ca : t_ca k uc) (c57_1 : ¬ 12 ≤ (x6 : Int32)) (c91_21 : (r_20 : Int32) ≤ x5) : (((12 : Int32)).toInt - (x6 + 1).toInt).toNat < (((12 : Int32)).toInt - x6.toInt).toNat := by
  first | omega | ((try simp only [g_m1, Int32.lt_iff_toInt_lt, Int32.le_iff_toInt_le, ← Int32.toInt_inj, Int32.reduceToInt] at *); omega) | ((try have ez1 : (x6 + 1 : Int32).toInt = (x6 : Int32).toInt + (1 : Int32).toInt := g_add (by (try simp only [g_m1, Int32.lt_iff_toInt_lt, Int32.le_iff_toInt_le, ← Int32.toInt_inj, Int32.reduceToInt] at *); omega) (by (try simp only [g_m1, Int32.lt_iff_toInt_lt, Int32.le_iff_toInt_le, ← Int32.toInt_inj, Int32.reduceToInt] at *); omega)); (try simp only [g_m1, Int32.lt_iff_toInt_lt, Int32.le_iff_toInt_le, ← Int32.toInt_inj, Int32.reduceToInt] at *); omega) | ((try simp only [g_m1, Int32.lt_iff_toInt_lt, Int32.le_iff_toInt_le, ← Int32.toInt_inj, Int32.toInt_add, Int32.toInt_sub, Int32.toInt_mul, Int32.toInt_neg, Int32.reduceToInt, g_bm, g_bm'] at *); omega) | (have qr1 := g_rng x; have qr2 := g_rng y; have qr6 := g_rng x4; have qr7 := g_rng x5; have qr8 := g_rng x6; have qr11 := g_rng r_11; have qr12 := g_rng r_20; (try simp only [g_m1, Int32.lt_iff_toInt_lt, Int32.le_iff_toInt_le, ← Int32.toInt_inj, Int32.toInt_add, Int32.toInt_sub, Int32.toInt_mul, Int32.toInt_neg, Int32.reduceToInt, g_bm, g_bm'] at *); omega) | (simp only [g_m1, Int32.lt_iff_toInt_lt, Int32.le_iff_toInt_le, ← Int32.toInt_inj, Int32.toInt_add, Int32.toInt_sub, Int32.toInt_mul, Int32.toInt_neg, Int32.reduceToInt, g_bm, g_bm'] at *; simp at *; omega) | (simp_all; done)
set_option maxRecDepth 100000 in
theorem g_X11_sway_k_v2 (u : qS) (x : Int32) (y : Int32) (k : qS) (P : Nat → Int32) (x4 : Int32) (x5 : Int32) (x6 : Int32) (uc : qS) (r_11 : Int32) (r_20 : Int32) (hk : CT k P u) (hca : t_ca k u) (hz8 : 0 ≤ u.1 8 ∧ u.1 8 ≤ 20) (hz9 : 0 ≤ u.1 9 ∧ u.1 9 ≤ 8) (hz10 : 0 ≤ u.1 10 ∧ u.1 10 ≤ 120) (hz12 : 0 ≤ u.1 12 ∧ u.1 12 ≤ 16) (h_k : 0 ≤ x6) (h_ca : t_ca k uc) (c57_1 : ¬ 12 ≤ (x6 : Int32)) (c91_21 : ¬ (r_20 : Int32) ≤ x5) : 0 ≤ (x6 + 1) := by
  first | omega | ((try simp only [g_m1, Int32.lt_iff_toInt_lt, Int32.le_iff_toInt_le, ← Int32.toInt_inj, Int32.reduceToInt] at *); omega) | ((try have ez1 : (x6 + 1 : Int32).toInt = (x6 : Int32).toInt + (1 : Int32).toInt := g_add (by (try simp only [g_m1, Int32.lt_iff_toInt_lt, Int32.le_iff_toInt_le, ← Int32.toInt_inj, Int32.reduceToInt] at *); omega) (by (try simp only [g_m1, Int32.lt_iff_toInt_lt, Int32.le_iff_toInt_le, ← Int32.toInt_inj, Int32.reduceToInt] at *); omega)); (try simp only [g_m1, Int32.lt_iff_toInt_lt, Int32.le_iff_toInt_le, ← Int32.toInt_inj, Int32.reduceToInt] at *); omega) | ((try simp only [g_m1, Int32.lt_iff_toInt_lt, Int32.le_iff_toInt_le, ← Int32.toInt_inj, Int32.toInt_add, Int32.toInt_sub, Int32.toInt_mul, Int32.toInt_neg, Int32.reduceToInt, g_bm, g_bm'] at *); omega) | (have qr1 := g_rng x; have qr2 := g_rng y; have qr6 := g_rng x4; have qr7 := g_rng x5; have qr8 := g_rng x6; have qr11 := g_rng r_11; have qr12 := g_rng r_20; (try simp only [g_m1, Int32.lt_iff_toInt_lt, Int32.le_iff_toInt_le, ← Int32.toInt_inj, Int32.toInt_add, Int32.toInt_sub, Int32.toInt_mul, Int32.toInt_neg, Int32.reduceToInt, g_bm, g_bm'] at *); omega) | (simp only [g_m1, Int32.lt_iff_toInt_lt, Int32.le_iff_toInt_le, ← Int32.toInt_inj, Int32.toInt_add, Int32.toInt_sub, Int32.toInt_mul, Int32.toInt_neg, Int32.reduceToInt, g_bm, g_bm'] at *; simp at *; omega) | (simp_all; done)
set_option maxRecDepth 100000 in
theorem g_X11_sway_k_v3 (u : qS) (x : Int32) (y : Int32) (k : qS) (P : Nat → Int32) (x4 : Int32) (x5 : Int32) (x6 : Int32) (uc : qS) (r_11 : Int32) (r_20 : Int32) (hk : CT k P u) (hca : t_ca k u) (hz8 : 0 ≤ u.1 8 ∧ u.1 8 ≤ 20) (hz9 : 0 ≤ u.1 9 ∧ u.1 9 ≤ 8) (hz10 : 0 ≤ u.1 10 ∧ u.1 10 ≤ 120) (hz12 : 0 ≤ u.1 12 ∧ u.1 12 ≤ 16) (h_k : 0 ≤ x6) (h_ca : t_ca k uc) (c57_1 : ¬ 12 ≤ (x6 : Int32)) (c91_21 : ¬ (r_20 : Int32) ≤ x5) : (((12 : Int32)).toInt - (x6 + 1).toInt).toNat < (((12 : Int32)).toInt - x6.toInt).toNat := by
  first | omega | ((try simp only [g_m1, Int32.lt_iff_toInt_lt, Int32.le_iff_toInt_le, ← Int32.toInt_inj, Int32.reduceToInt] at *); omega) | ((try have ez1 : (x6 + 1 : Int32).toInt = (x6 : Int32).toInt + (1 : Int32).toInt := g_add (by (try simp only [g_m1, Int32.lt_iff_toInt_lt, Int32.le_iff_toInt_le, ← Int32.toInt_inj, Int32.reduceToInt] at *); omega) (by (try simp only [g_m1, Int32.lt_iff_toInt_lt, Int32.le_iff_toInt_le, ← Int32.toInt_inj, Int32.reduceToInt] at *); omega)); (try simp only [g_m1, Int32.lt_iff_toInt_lt, Int32.le_iff_toInt_le, ← Int32.toInt_inj, Int32.reduceToInt] at *); omega) | ((try simp only [g_m1, Int32.lt_iff_toInt_lt, Int32.le_iff_toInt_le, ← Int32.toInt_inj, Int32.toInt_add, Int32.toInt_sub, Int32.toInt_mul, Int32.toInt_neg, Int32.reduceToInt, g_bm, g_bm'] at *); omega) | (have qr1 := g_rng x; have qr2 := g_rng y; have qr6 := g_rng x4; have qr7 := g_rng x5; have qr8 := g_rng x6; have qr11 := g_rng r_11; have qr12 := g_rng r_20; (try simp only [g_m1, Int32.lt_iff_toInt_lt, Int32.le_iff_toInt_le, ← Int32.toInt_inj, Int32.toInt_add, Int32.toInt_sub, Int32.toInt_mul, Int32.toInt_neg, Int32.reduceToInt, g_bm, g_bm'] at *); omega) | (simp only [g_m1, Int32.lt_iff_toInt_lt, Int32.le_iff_toInt_le, ← Int32.toInt_inj, Int32.toInt_add, Int32.toInt_sub, Int32.toInt_mul, Int32.toInt_neg, Int32.reduceToInt, g_bm, g_bm'] at *; simp at *; omega) | (simp_all; done)
set_option maxRecDepth 100000 in
theorem g_X11_sway_k_v4 (u : qS) (x : Int32) (y : Int32) (k : qS) (P : Nat → Int32) (a_33 : Nat) (hk : CT k P u) (hca : t_ca k u) (hz8 : 0 ≤ u.1 8 ∧ u.1 8 ≤ 20) (hz9 : 0 ≤ u.1 9 ∧ u.1 9 ≤ 8) (hz10 : 0 ≤ u.1 10 ∧ u.1 10 ≤ 120) (hz12 : 0 ≤ u.1 12 ∧ u.1 12 ≤ 16) (b5_25 : 0 ≤ x ∧ x < u.1 8) (b14_29 : (0 : Int32) ≤ y ∧ y ≤ (1 : Int32)) (hl_34 : c_ls u x a_33) : 0 ≤ (0 : Int32) := by
  first | omega | ((try simp only [g_m1, Int32.lt_iff_toInt_lt, Int32.le_iff_toInt_le, ← Int32.toInt_inj, Int32.reduceToInt] at *); omega) | ((try simp only [g_m1, Int32.lt_iff_toInt_lt, Int32.le_iff_toInt_le, ← Int32.toInt_inj, Int32.reduceToInt] at *); omega) | ((try simp only [g_m1, Int32.lt_iff_toInt_lt, Int32.le_iff_toInt_le, ← Int32.toInt_inj, Int32.toInt_add, Int32.toInt_sub, Int32.toInt_mul, Int32.toInt_neg, Int32.reduceToInt, g_bm, g_bm'] at *); omega) | (have qr1 := g_rng x; have qr2 := g_rng y; (try simp only [g_m1, Int32.lt_iff_toInt_lt, Int32.le_iff_toInt_le, ← Int32.toInt_inj, Int32.toInt_add, Int32.toInt_sub, Int32.toInt_mul, Int32.toInt_neg, Int32.reduceToInt, g_bm, g_bm'] at *); omega) | (simp only [g_m1, Int32.lt_iff_toInt_lt, Int32.le_iff_toInt_le, ← Int32.toInt_inj, Int32.toInt_add, Int32.toInt_sub, Int32.toInt_mul, Int32.toInt_neg, Int32.reduceToInt, g_bm, g_bm'] at *; simp at *; omega) | (simp_all; done)
set_option maxHeartbeats 1000000 in
set_option maxRecDepth 100000 in
theorem g_X11_sway_k (l : Launch) (E : qE) (A : Nat → Prop) (u : qS) (x : Int32) (y : Int32) (k : qS) (P : Nat → Int32) (hI : IC E u) (hk : CT k P u) (hca : t_ca k u) : Met l yX11_sway (uws yX11_sway cX11_sway 8 (some .int)) (qR 6 0 0) (qPc E A 0 u [.ref (E.2.2 1199), .int x, .int y]) (qQi E A 0 (fun r u1 => (qFc [604, 605, 606, 607, 608, 609] [601, 602, 603] [] [5011, 5012, 5013, 5014] u u1 ∧ IC E u1) ∧ (t_ca k u1))) 0 0 A := by
  refine q_met (own := RX11) (f := 6) [.ref (E.2.2 1199), .int x, .int y] (by decide) (Nat.le_of_ble_eq_true rfl) rfl ?_
  intro p0 e0 s0 m0 bl0 me0 cd0 ls hF hr hlocks hU hS hA hl
  have hl : lv_has ls 8 [(0, .ref (E.2.2 1199)), (1, .int x), (2, .int y)] := hl
  have hz8 : 0 ≤ u.1 8 ∧ u.1 8 ≤ 20 := hI.1.s8
  have hz9 : 0 ≤ u.1 9 ∧ u.1 9 ≤ 8 := hI.1.s9
  have hz10 : 0 ≤ u.1 10 ∧ u.1 10 ≤ 120 := hI.1.s10
  have hz12 : 0 ≤ u.1 12 ∧ u.1 12 ≤ 16 := hI.1.s12
  have hfr : qFc [604, 605, 606, 607, 608, 609] [601, 602, 603] [] [5011, 5012, 5013, 5014] u u := qFc.rf
  have hCA := hca
  have main : ∀ n : Nat, (∀ (a3 : Nat) (x4 : Int32) (x5 : Int32) (x6 : Int32) (uc : qS) (H : Heap) (locs : List Loc) (ls : Array Slot) (hfr : qFc [604, 605, 606, 607, 608, 609] [601, 602, 603] [] [5011, 5012, 5013, 5014] u uc) (hI : IC E uc) (ha3 : qRv uc a3) (h_k : 0 ≤ x6) (h_ca : t_ca k uc), (((12 : Int32)).toInt - x6.toInt).toNat < n → qH E A 0 uc s0 H → va_S A s0.heap H locs → lv_has ls 8 [(0, .ref (E.2.2 1199)), (1, .int x), (2, .int y), (3, .ref a3), (4, .int x4), (5, .int x5), (6, .int x6)] → W p0 l e0 (qR 6 0 0) s0 m0 ([.ref (E.2.2 1199), .int x, .int y] : List Value).toArray bl0 me0 cd0 H locs 0 0 (MQ bl0 (qQi E A 0 (fun r u1 => (qFc [604, 605, 606, 607, 608, 609] [601, 602, 603] [] [5011, 5012, 5013, 5014] u u1 ∧ IC E u1) ∧ (t_ca k u1))) ([.ref (E.2.2 1199), .int x, .int y] : List Value).toArray s0 0 0 A) (F0 m0 53 ls [])) := by
    clear hI hfr
    intro n
    induction n with
    | zero => exact fun _ _ _ _ _ _ _ _ _ _ _ _ _ hmu => absurd hmu (Nat.not_lt_zero _)
    | succ n ih =>
      intro a3 x4 x5 x6 uc H locs ls hfr hI ha3 h_k h_ca hmu hU hS hl
      have hCA := h_ca
      refine lv_iload hF.1 hF.2.1 dX11_sway_53 (lv_at hl 6 rfl) ?_
      refine lv_bipush (v := 12) hF.1 hF.2.1 dX11_sway_55 (by decide) ?_
      refine lv_icmp_ge (tgt := 108) hF.1 hF.2.1 dX11_sway_57 (by decide) (fun c57_1 => ?_) (fun c57_1 => ?_)
      · refine lv_iload hF.1 hF.2.1 dX11_sway_108 (lv_at hl 4 rfl) ?_
        refine lv_iconst (v := (-1)) hF.1 hF.2.1 dX11_sway_110 (by decide) ?_
        refine lv_icmp_eq (tgt := 118) hF.1 hF.2.1 dX11_sway_111 (by decide) (fun c111_2 => ?_) (fun c111_2 => ?_)
        · refine lv_iload hF.1 hF.2.1 dX11_sway_118 (lv_at hl 4 rfl) ?_
          refine lv_goto (tgt := 125) hF.1 hF.2.1 dX11_sway_120 (by decide) ?_
          exact q_iret hF hr rfl hlocks hU hS dX11_sway_125 ⟨⟨hfr, hI⟩, hCA⟩
        · refine lv_iload_n hF.1 hF.2.1 dX11_sway_114 rfl (lv_at hl 2 rfl) ?_
          refine lv_if_ne (tgt := 123) hF.1 hF.2.1 dX11_sway_115 (by decide) (fun c115_3 => ?_) (fun c115_3 => ?_)
          · refine lv_iload hF.1 hF.2.1 dX11_sway_123 (lv_at hl 5 rfl) ?_
            exact q_iret hF hr rfl hlocks hU hS dX11_sway_125 ⟨⟨hfr, hI⟩, hCA⟩
          · refine lv_iload hF.1 hF.2.1 dX11_sway_118 (lv_at hl 4 rfl) ?_
            refine lv_goto (tgt := 125) hF.1 hF.2.1 dX11_sway_120 (by decide) ?_
            exact q_iret hF hr rfl hlocks hU hS dX11_sway_125 ⟨⟨hfr, hI⟩, hCA⟩
      · refine lv_aload_n hF.1 hF.2.1 dX11_sway_60 rfl (lv_at hl 0 rfl) ?_
        refine q_get (v := .ref (E.2.2 699)) hF hU dX11_sway_61 0 11 4 1104 1199 rfl rfl rfl rfl inX11 (by decide) (by decide) w_440 rfl rfl ?_
        refine lv_aload_n hF.1 hF.2.1 dX11_sway_64 rfl (lv_at hl 3 rfl) ?_
        refine lv_aload_n hF.1 hF.2.1 dX11_sway_65 rfl (lv_at hl 3 rfl) ?_
        obtain ⟨k_4, fs_5, hd_7, hv_8, hv_8_2, hv_8_3, -⟩ := hI.vf ((ha3).rf) 9 (by decide)
        refine q_getd (v := .int (qfd uc.2.2.2.2 a3 9)) hF hU dX11_sway_66 k_4 10 9 hd_7 rfl inX10 (by decide) w_620 rfl hv_8 ?_
        refine lv_iconst (v := 1) hF.1 hF.2.1 dX11_sway_69 (by decide) ?_
        refine lv_iload hF.1 hF.2.1 dX11_sway_70 (lv_at hl 6 rfl) ?_
        refine lv_ishl hF.1 hF.2.1 dX11_sway_72 ?_
        refine lv_ixor hF.1 hF.2.1 dX11_sway_73 ?_
        have hM9 := g_X6_bonusWith l E A uc a3 ((qfd uc.2.2.2.2 a3 9) ^^^ (1 <<< (x6 &&& 31))) hI ((ha3).rf)
        have hR9 := q_runV (l := l) (e := e0) (below := bl0) (meth := me0) (R := qR 6 0 0) (cells := 0) (slots := 0) (st0 := [.int ((qfd uc.2.2.2.2 a3 9) ^^^ (1 <<< (x6 &&& 31))), .ref a3, .ref (E.2.2 699)]) (rest := []) hF hU hS hA 2 5 6 699 rfl rfl rfl hM9 w_1163 w_1164 w_1165 w_104 w_1166 (by decide +kernel) ⟨Nat.le_of_ble_eq_true rfl, Nat.le_of_ble_eq_true rfl⟩ dX11_sway_74 rfl hl.1 rfl (Nat.le_of_ble_eq_true rfl) ⟨Nat.le_of_ble_eq_true rfl, Nat.le_of_ble_eq_true rfl⟩
        refine q_calli hR9 hU.2.2.2 hS (fun r_11 u_9 H locs hw_10 hU hS => ?_)
        obtain ⟨⟨hw_10_f, hI⟩, hw_10⟩ := hw_10
        have hfo := hfr
        have hfr : qFc [604, 605, 606, 607, 608, 609] [601, 602, 603] [] [5011, 5012, 5013, 5014] u u_9 := hfr.trans (hw_10_f.mono (by decide) (by decide) (by decide) (by decide))
        have e_12 : u_9.1 609 = (uc.1 609) := (hw_10_f.1 609 (by decide)).trans rfl
        have e_13 : u_9.2.1 603 = (uc.2.1 603) := (hw_10_f.2.1 603 (by decide)).trans rfl
        have hr_14 : qRv u_9 a3 := hw_10_f.v _ ha3
        have hCA : t_ca k u_9 := hCA.fr hw_10_f (by decide) (by decide) (by decide)
        refine lv_aload_n hF.1 hF.2.1 dX11_sway_77 rfl (lv_at hl 3 rfl) ?_
        obtain ⟨k_15, fs_16, hd_18, hv_19, hv_19_2, hv_19_3, -⟩ := hI.vf ((hr_14).rf) 12 (by decide)
        refine q_getd (v := .int (qfd u_9.2.2.2.2 a3 12)) hF hU dX11_sway_78 k_15 10 12 hd_18 rfl inX10 (by decide) w_628 rfl hv_19 ?_
        refine lv_isub hF.1 hF.2.1 dX11_sway_81 ?_
        refine va_mabs hF.1 hF.2.1 (hF.2.2.1.trans hl.1.symm) hF.2.2.2.1 (hF.2.2.2.2 _ w_1086) (hF.2.2.2.2 _ w_885) (hF.2.2.2.2 _ w_113) (hF.2.2.2.2 _ w_886) (by decide) (Nat.le_of_ble_eq_true rfl) (by decide) (by decide) dX11_sway_82 ?_
        obtain ⟨r_20, hr_20⟩ : ∃ z : Int32, z = (if 0 ≤ (r_11 - (qfd u_9.2.2.2.2 a3 12) : Int32) then (r_11 - (qfd u_9.2.2.2.2 a3 12)) else 0 - (r_11 - (qfd u_9.2.2.2.2 a3 12))) := ⟨_, rfl⟩
        refine q_topi hr_20.symm ?_
        refine lv_istore (lv' := [(7, .int r_20), (0, .ref (E.2.2 1199)), (1, .int x), (2, .int y), (3, .ref a3), (4, .int x4), (5, .int x5), (6, .int x6)]) hF.1 hF.2.1 dX11_sway_85 hl (by decide) rfl (fun ls hl => ?_)
        refine lv_iload hF.1 hF.2.1 dX11_sway_87 (lv_at hl 0 rfl) ?_
        refine lv_iload hF.1 hF.2.1 dX11_sway_89 (lv_at hl 6 rfl) ?_
        refine lv_icmp_le (tgt := 102) hF.1 hF.2.1 dX11_sway_91 (by decide) (fun c91_21 => ?_) (fun c91_21 => ?_)
        · refine lv_iinc (v := x6 + 1) (lv' := [(6, .int (x6 + 1)), (7, .int r_20), (0, .ref (E.2.2 1199)), (1, .int x), (2, .int y), (3, .ref a3), (4, .int x4), (5, .int x5)]) hF.1 hF.2.1 dX11_sway_102 hl (k := 7) rfl rfl (by decide) rfl (fun ls hl => ?_)
          refine lv_goto (tgt := 53) hF.1 hF.2.1 dX11_sway_105 (by decide) ?_
          exact ih a3 x4 x5 (x6 + 1) u_9 _ _ _ hfr hI hr_14 (g_X11_sway_k_v0 u x y k P x4 x5 x6 uc r_11 r_20 hk hca hz8 hz9 hz10 hz12 h_k h_ca c57_1 c91_21) hCA (Nat.lt_of_lt_of_le (g_X11_sway_k_v1 u x y k P x4 x5 x6 uc r_11 r_20 hk hca hz8 hz9 hz10 hz12 h_k h_ca c57_1 c91_21) (Nat.lt_succ_iff.mp hmu)) hU hS (lv_sub hl [2, 3, 4, 5, 6, 7, 0] rfl)
        · refine lv_iload hF.1 hF.2.1 dX11_sway_94 (lv_at hl 0 rfl) ?_
          refine lv_istore (lv' := [(5, .int r_20), (7, .int r_20), (0, .ref (E.2.2 1199)), (1, .int x), (2, .int y), (3, .ref a3), (4, .int x4), (6, .int x6)]) hF.1 hF.2.1 dX11_sway_96 hl (by decide) rfl (fun ls hl => ?_)
          refine lv_iload hF.1 hF.2.1 dX11_sway_98 (lv_at hl 7 rfl) ?_
          refine lv_istore (lv' := [(4, .int x6), (5, .int r_20), (7, .int r_20), (0, .ref (E.2.2 1199)), (1, .int x), (2, .int y), (3, .ref a3), (6, .int x6)]) hF.1 hF.2.1 dX11_sway_100 hl (by decide) rfl (fun ls hl => ?_)
          refine lv_iinc (v := x6 + 1) (lv' := [(6, .int (x6 + 1)), (4, .int x6), (5, .int r_20), (7, .int r_20), (0, .ref (E.2.2 1199)), (1, .int x), (2, .int y), (3, .ref a3)]) hF.1 hF.2.1 dX11_sway_102 hl (k := 7) rfl rfl (by decide) rfl (fun ls hl => ?_)
          refine lv_goto (tgt := 53) hF.1 hF.2.1 dX11_sway_105 (by decide) ?_
          exact ih a3 x6 r_20 (x6 + 1) u_9 _ _ _ hfr hI hr_14 (g_X11_sway_k_v2 u x y k P x4 x5 x6 uc r_11 r_20 hk hca hz8 hz9 hz10 hz12 h_k h_ca c57_1 c91_21) hCA (Nat.lt_of_lt_of_le (g_X11_sway_k_v3 u x y k P x4 x5 x6 uc r_11 r_20 hk hca hz8 hz9 hz10 hz12 h_k h_ca c57_1 c91_21) (Nat.lt_succ_iff.mp hmu)) hU hS (lv_sub hl [4, 5, 6, 7, 1, 2, 0] rfl)
  refine lv_aload_n hF.1 hF.2.1 dX11_sway_0 rfl (lv_at hl 0 rfl) ?_
  refine q_get (v := .ref (E.2.2 99)) hF hU dX11_sway_1 0 11 0 1100 1199 rfl rfl rfl rfl inX11 (by decide) (by decide) w_436 rfl rfl ?_
  refine lv_iload_n hF.1 hF.2.1 dX11_sway_4 rfl (lv_at hl 1 rfl) ?_
  have hM9 := g_X0_hasShop l E A u x hI
  have hR9 := q_runV (l := l) (e := e0) (below := bl0) (meth := me0) (R := qR 6 0 0) (cells := 0) (slots := 0) (st0 := [.int x, .ref (E.2.2 99)]) (rest := []) hF hU hS hA 1 1 0 99 rfl rfl rfl hM9 w_563 w_564 w_565 w_100 w_566 (by decide +kernel) ⟨Nat.le_of_ble_eq_true rfl, Nat.le_of_ble_eq_true rfl⟩ dX11_sway_5 rfl hl.1 rfl (Nat.le_of_ble_eq_true rfl) ⟨Nat.le_of_ble_eq_true rfl, Nat.le_of_ble_eq_true rfl⟩
  refine q_calli hR9 hU.2.2.2 hS (fun r_24 u_22 H locs hw_23 hU hS => ?_)
  obtain ⟨hw_23_e, hw_23⟩ := hw_23
  rw [hw_23_e] at hU
  have hw_23 : (r_24 = 1 ∧ (0 ≤ x ∧ x < u.1 8)) ∨ (r_24 = 0 ∧ (¬ (0 ≤ x ∧ x < u.1 8))) := hw_23
  rcases hw_23 with ⟨rfl, b5_25⟩ | ⟨rfl, b5_25⟩
  · refine lv_if_eq (tgt := 20) hF.1 hF.2.1 dX11_sway_8 (by decide) (fun h9 => absurd h9 (by decide)) (fun _ => ?_)
    refine lv_iload_n hF.1 hF.2.1 dX11_sway_11 rfl (lv_at hl 2 rfl) ?_
    refine lv_iconst (v := 0) hF.1 hF.2.1 dX11_sway_12 (by decide) ?_
    refine lv_iconst (v := 1) hF.1 hF.2.1 dX11_sway_13 (by decide) ?_
    have hM9 := g_X11_isWithin l E A u y 0 1
    have hR9 := q_runS (l := l) (e := e0) (below := bl0) (meth := me0) (R := qR 6 0 0) (cells := 0) (slots := 0) (st0 := [.int 1, .int 0, .int y]) (rest := []) hF hU hS hA 3 hM9 w_468 w_469 w_99 w_470 (by decide +kernel) ⟨Nat.le_of_ble_eq_true rfl, Nat.le_of_ble_eq_true rfl⟩ dX11_sway_14 rfl hl.1 rfl (Nat.le_of_ble_eq_true rfl) ⟨Nat.le_of_ble_eq_true rfl, Nat.le_of_ble_eq_true rfl⟩
    refine q_calli hR9 hU.2.2.2 hS (fun r_28 u_26 H locs hw_27 hU hS => ?_)
    obtain ⟨hw_27_e, hw_27⟩ := hw_27
    rw [hw_27_e] at hU
    have hw_27 : (r_28 = 1 ∧ ((0 : Int32) ≤ y ∧ y ≤ (1 : Int32))) ∨ (r_28 = 0 ∧ (¬ ((0 : Int32) ≤ y ∧ y ≤ (1 : Int32)))) := hw_27
    rcases hw_27 with ⟨rfl, b14_29⟩ | ⟨rfl, b14_29⟩
    · refine lv_if_ne (tgt := 22) hF.1 hF.2.1 dX11_sway_17 (by decide) (fun _ => ?_) (fun h9 => absurd h9 (by decide))
      refine lv_aload_n hF.1 hF.2.1 dX11_sway_22 rfl (lv_at hl 0 rfl) ?_
      refine q_get (v := .ref (E.2.2 99)) hF hU dX11_sway_23 0 11 0 1100 1199 rfl rfl rfl rfl inX11 (by decide) (by decide) w_436 rfl rfl ?_
      refine lv_iload_n hF.1 hF.2.1 dX11_sway_26 rfl (lv_at hl 1 rfl) ?_
      have hM9 := g_X0_latestOf l E A u x hI
      have hR9 := q_runV (l := l) (e := e0) (below := bl0) (meth := me0) (R := qR 6 0 0) (cells := 0) (slots := 0) (st0 := [.int x, .ref (E.2.2 99)]) (rest := []) hF hU hS hA 1 1 0 99 rfl rfl rfl hM9 w_1154 w_1155 w_1156 w_100 w_1157 (by decide +kernel) ⟨Nat.le_of_ble_eq_true rfl, Nat.le_of_ble_eq_true rfl⟩ dX11_sway_27 rfl hl.1 rfl (Nat.le_of_ble_eq_true rfl) ⟨Nat.le_of_ble_eq_true rfl, Nat.le_of_ble_eq_true rfl⟩
      refine q_callq hR9 hU.2.2.2 hS (fun u_30 H locs hw_31 hU hS => ?_) (fun a_33 u_30 H locs hw_31 hU hS => ?_)
      · rw [hw_31.1] at hU
        have hl_34 : c_nf u x 0 := hw_31.2
        refine lv_astore_nN (lv' := [(3, .null), (0, .ref (E.2.2 1199)), (1, .int x), (2, .int y)]) hF.1 hF.2.1 dX11_sway_30 rfl hl (by decide) rfl (fun ls hl => ?_)
        refine lv_aload_nN hF.1 hF.2.1 dX11_sway_31 rfl (lv_at hl 0 rfl) ?_
        refine lv_ifnonnullN hF.1 hF.2.1 dX11_sway_32 ?_
        refine lv_iconst (v := (-1)) hF.1 hF.2.1 dX11_sway_35 (by decide) ?_
        exact q_iret hF hr rfl hlocks hU hS dX11_sway_36 ⟨⟨hfr, hI⟩, hCA⟩
      · rw [hw_31.1] at hU
        have hl_34 : c_ls u x a_33 := hw_31.2.2
        have hw_31 := hw_31.2.1
        refine lv_astore_n (lv' := [(3, .ref a_33), (0, .ref (E.2.2 1199)), (1, .int x), (2, .int y)]) hF.1 hF.2.1 dX11_sway_30 rfl hl (by decide) rfl (fun ls hl => ?_)
        refine lv_aload_n hF.1 hF.2.1 dX11_sway_31 rfl (lv_at hl 0 rfl) ?_
        refine lv_ifnonnull (tgt := 37) hF.1 hF.2.1 dX11_sway_32 (by decide) ?_
        refine lv_aload_n hF.1 hF.2.1 dX11_sway_37 rfl (lv_at hl 1 rfl) ?_
        refine q_get (v := .ref (E.2.2 699)) hF hU dX11_sway_38 0 11 4 1104 1199 rfl rfl rfl rfl inX11 (by decide) (by decide) w_440 rfl rfl ?_
        have hM9 := g_X6_refresh_k l E A u  hI
        have hR9 := q_runV (l := l) (e := e0) (below := bl0) (meth := me0) (R := qR 6 0 0) (cells := 0) (slots := 0) (st0 := [.ref (E.2.2 699)]) (rest := []) hF hU hS hA 0 5 6 699 rfl rfl rfl hM9 w_1162 w_937 w_938 w_104 w_939 (by decide +kernel) ⟨Nat.le_of_ble_eq_true rfl, Nat.le_of_ble_eq_true rfl⟩ dX11_sway_41 rfl hl.1 rfl (Nat.le_of_ble_eq_true rfl) ⟨Nat.le_of_ble_eq_true rfl, Nat.le_of_ble_eq_true rfl⟩
        refine q_callv hR9 hU.2.2.2 hS (fun u_35 H locs hw_36 hU hS => ?_)
        obtain ⟨⟨hw_36_f, hI⟩, hw_36⟩ := hw_36
        have hfo := hfr
        have hfr : qFc [604, 605, 606, 607, 608, 609] [601, 602, 603] [] [5011, 5012, 5013, 5014] u u_35 := hfr.trans (hw_36_f.mono (by decide) (by decide) (by decide) (by decide))
        have hr_38 : qRv u_35 a_33 := hw_36_f.v _ hw_31
        have hCA : t_ca k u_35 := hCA.sc hw_36_f hw_36.1 hw_36.2 (by decide) (by decide) (by decide)
        refine lv_iconst (v := (-1)) hF.1 hF.2.1 dX11_sway_44 (by decide) ?_
        refine lv_istore (lv' := [(4, .int (-1)), (3, .ref a_33), (0, .ref (E.2.2 1199)), (1, .int x), (2, .int y)]) hF.1 hF.2.1 dX11_sway_45 hl (by decide) rfl (fun ls hl => ?_)
        refine lv_iconst (v := 0) hF.1 hF.2.1 dX11_sway_47 (by decide) ?_
        refine lv_istore (lv' := [(5, .int 0), (4, .int (-1)), (3, .ref a_33), (0, .ref (E.2.2 1199)), (1, .int x), (2, .int y)]) hF.1 hF.2.1 dX11_sway_48 hl (by decide) rfl (fun ls hl => ?_)
        refine lv_iconst (v := 0) hF.1 hF.2.1 dX11_sway_50 (by decide) ?_
        refine lv_istore (lv' := [(6, .int 0), (5, .int 0), (4, .int (-1)), (3, .ref a_33), (0, .ref (E.2.2 1199)), (1, .int x), (2, .int y)]) hF.1 hF.2.1 dX11_sway_51 hl (by decide) rfl (fun ls hl => ?_)
        exact (main _) a_33 ((-1) : Int32) (0 : Int32) (0 : Int32) u_35 _ _ _ hfr hI hr_38 (g_X11_sway_k_v4 u x y k P a_33 hk hca hz8 hz9 hz10 hz12 b5_25 b14_29 hl_34) hCA (Nat.lt_succ_self _) hU hS (lv_sub hl [4, 5, 6, 3, 2, 1, 0] rfl)
    · refine lv_if_ne (tgt := 22) hF.1 hF.2.1 dX11_sway_17 (by decide) (fun h9 => absurd (by decide) h9) (fun _ => ?_)
      refine lv_iconst (v := (-1)) hF.1 hF.2.1 dX11_sway_20 (by decide) ?_
      exact q_iret hF hr rfl hlocks hU hS dX11_sway_21 ⟨⟨hfr, hI⟩, hCA⟩
  · refine lv_if_eq (tgt := 20) hF.1 hF.2.1 dX11_sway_8 (by decide) (fun _ => ?_) (fun h9 => absurd (by decide) h9)
    refine lv_iconst (v := (-1)) hF.1 hF.2.1 dX11_sway_20 (by decide) ?_
    exact q_iret hF hr rfl hlocks hU hS dX11_sway_21 ⟨⟨hfr, hI⟩, hCA⟩
set_option maxHeartbeats 1000000 in
set_option maxRecDepth 100000 in
theorem g_X11_count_k (l : Launch) (E : qE) (A : Nat → Prop) (u : qS) (x : Int32) (k : qS) (P : Nat → Int32) (hI : IC E u) (hk : CT k P u) (hca : t_ca k u) : Met l yX11_count (uws yX11_count cX11_count 2 (some .int)) (qR 8 0 0) (qPc E A 0 u [.ref (E.2.2 1199), .int x]) (qQi E A 0 (fun r u1 => (qFc [900, 901, 902, 908, 909] [905, 906, 907] [] [904, 5010] u u1 ∧ IC E u1) ∧ (t_ca k u1))) 0 0 A := by
  refine q_met (own := RX11) (f := 8) [.ref (E.2.2 1199), .int x] (by decide) (Nat.le_of_ble_eq_true rfl) rfl ?_
  intro p0 e0 s0 m0 bl0 me0 cd0 ls hF hr hlocks hU hS hA hl
  have hl : lv_has ls 2 [(0, .ref (E.2.2 1199)), (1, .int x)] := hl
  have hz8 : 0 ≤ u.1 8 ∧ u.1 8 ≤ 20 := hI.1.s8
  have hz9 : 0 ≤ u.1 9 ∧ u.1 9 ≤ 8 := hI.1.s9
  have hz10 : 0 ≤ u.1 10 ∧ u.1 10 ≤ 120 := hI.1.s10
  have hz12 : 0 ≤ u.1 12 ∧ u.1 12 ≤ 16 := hI.1.s12
  have hfr : qFc [900, 901, 902, 908, 909] [905, 906, 907] [] [904, 5010] u u := qFc.rf
  have hCA := hca
  refine lv_iload_n hF.1 hF.2.1 dX11_count_0 rfl (lv_at hl 1 rfl) ?_
  rcases q_sw0_11 (x) with sw_1 | sw_1 | sw_1 | sw_1 | sw_1 | sw_1 | sw_1 | sw_1 | sw_1 | sw_1 | sw_1 | sw_1 | sw_1
  · refine lv_tableIn (off := 63) (tgt := 64) hF.1 hF.2.1 dX11_count_1 (by rw [sw_1]; decide) (by rw [sw_1]; decide) (by rw [sw_1]; rfl) (by decide) ?_
    refine lv_aload_n hF.1 hF.2.1 dX11_count_64 rfl (lv_at hl 0 rfl) ?_
    refine q_get (v := .ref (E.2.2 99)) hF hU dX11_count_65 0 11 0 1100 1199 rfl rfl rfl rfl inX11 (by decide) (by decide) w_436 rfl rfl ?_
    refine q_get (v := .int (u.1 13)) hF hU dX11_count_68 1 0 13 13 99 rfl rfl rfl rfl inX0 (by decide) (by decide) w_178 rfl rfl ?_
    exact q_iret hF hr rfl hlocks hU hS dX11_count_71 ⟨⟨hfr, hI⟩, hCA⟩
  · refine lv_tableIn (off := 71) (tgt := 72) hF.1 hF.2.1 dX11_count_1 (by rw [sw_1]; decide) (by rw [sw_1]; decide) (by rw [sw_1]; rfl) (by decide) ?_
    refine lv_aload_n hF.1 hF.2.1 dX11_count_72 rfl (lv_at hl 0 rfl) ?_
    refine q_get (v := .ref (E.2.2 99)) hF hU dX11_count_73 0 11 0 1100 1199 rfl rfl rfl rfl inX11 (by decide) (by decide) w_436 rfl rfl ?_
    have hM9 := g_X0_seenDay l E A u 
    have hR9 := q_runV (l := l) (e := e0) (below := bl0) (meth := me0) (R := qR 8 0 0) (cells := 0) (slots := 0) (st0 := [.ref (E.2.2 99)]) (rest := []) hF hU hS hA 0 1 0 99 rfl rfl rfl hM9 w_1186 w_484 w_485 w_100 w_486 (by decide +kernel) ⟨Nat.le_of_ble_eq_true rfl, Nat.le_of_ble_eq_true rfl⟩ dX11_count_76 rfl hl.1 rfl (Nat.le_of_ble_eq_true rfl) ⟨Nat.le_of_ble_eq_true rfl, Nat.le_of_ble_eq_true rfl⟩
    refine q_calli hR9 hU.2.2.2 hS (fun r_4 u_2 H locs hw_3 hU hS => ?_)
    obtain ⟨hw_3_e, hw_3⟩ := hw_3
    rw [hw_3_e] at hU
    have hw_3 : r_4 = c_sd u := hw_3
    exact q_iret hF hr rfl hlocks hU hS dX11_count_79 ⟨⟨hfr, hI⟩, hCA⟩
  · refine lv_tableIn (off := 79) (tgt := 80) hF.1 hF.2.1 dX11_count_1 (by rw [sw_1]; decide) (by rw [sw_1]; decide) (by rw [sw_1]; rfl) (by decide) ?_
    refine lv_aload_n hF.1 hF.2.1 dX11_count_80 rfl (lv_at hl 0 rfl) ?_
    refine q_get (v := .ref (E.2.2 99)) hF hU dX11_count_81 0 11 0 1100 1199 rfl rfl rfl rfl inX11 (by decide) (by decide) w_436 rfl rfl ?_
    refine q_get (v := .int (u.1 8)) hF hU dX11_count_84 1 0 8 8 99 rfl rfl rfl rfl inX0 (by decide) (by decide) w_162 rfl rfl ?_
    exact q_iret hF hr rfl hlocks hU hS dX11_count_87 ⟨⟨hfr, hI⟩, hCA⟩
  · refine lv_tableIn (off := 87) (tgt := 88) hF.1 hF.2.1 dX11_count_1 (by rw [sw_1]; decide) (by rw [sw_1]; decide) (by rw [sw_1]; rfl) (by decide) ?_
    refine lv_aload_n hF.1 hF.2.1 dX11_count_88 rfl (lv_at hl 0 rfl) ?_
    refine q_get (v := .ref (E.2.2 99)) hF hU dX11_count_89 0 11 0 1100 1199 rfl rfl rfl rfl inX11 (by decide) (by decide) w_436 rfl rfl ?_
    refine q_get (v := .int (u.1 9)) hF hU dX11_count_92 1 0 9 9 99 rfl rfl rfl rfl inX0 (by decide) (by decide) w_167 rfl rfl ?_
    exact q_iret hF hr rfl hlocks hU hS dX11_count_95 ⟨⟨hfr, hI⟩, hCA⟩
  · refine lv_tableIn (off := 95) (tgt := 96) hF.1 hF.2.1 dX11_count_1 (by rw [sw_1]; decide) (by rw [sw_1]; decide) (by rw [sw_1]; rfl) (by decide) ?_
    refine lv_aload_n hF.1 hF.2.1 dX11_count_96 rfl (lv_at hl 0 rfl) ?_
    refine q_get (v := .ref (E.2.2 99)) hF hU dX11_count_97 0 11 0 1100 1199 rfl rfl rfl rfl inX11 (by decide) (by decide) w_436 rfl rfl ?_
    refine q_get (v := .int (u.1 10)) hF hU dX11_count_100 1 0 10 10 99 rfl rfl rfl rfl inX0 (by decide) (by decide) w_172 rfl rfl ?_
    exact q_iret hF hr rfl hlocks hU hS dX11_count_103 ⟨⟨hfr, hI⟩, hCA⟩
  · refine lv_tableIn (off := 103) (tgt := 104) hF.1 hF.2.1 dX11_count_1 (by rw [sw_1]; decide) (by rw [sw_1]; decide) (by rw [sw_1]; rfl) (by decide) ?_
    refine lv_aload_n hF.1 hF.2.1 dX11_count_104 rfl (lv_at hl 0 rfl) ?_
    refine q_get (v := .ref (E.2.2 99)) hF hU dX11_count_105 0 11 0 1100 1199 rfl rfl rfl rfl inX11 (by decide) (by decide) w_436 rfl rfl ?_
    have hM9 := g_X0_knownVisits l E A u  hI
    have hR9 := q_runV (l := l) (e := e0) (below := bl0) (meth := me0) (R := qR 8 0 0) (cells := 0) (slots := 0) (st0 := [.ref (E.2.2 99)]) (rest := []) hF hU hS hA 0 1 0 99 rfl rfl rfl hM9 w_1175 w_903 w_904 w_100 w_905 (by decide +kernel) ⟨Nat.le_of_ble_eq_true rfl, Nat.le_of_ble_eq_true rfl⟩ dX11_count_108 rfl hl.1 rfl (Nat.le_of_ble_eq_true rfl) ⟨Nat.le_of_ble_eq_true rfl, Nat.le_of_ble_eq_true rfl⟩
    refine q_calli hR9 hU.2.2.2 hS (fun r_7 u_5 H locs hw_6 hU hS => ?_)
    obtain ⟨hw_6_e, hw_6⟩ := hw_6
    rw [hw_6_e] at hU
    have hw_6 : 0 ≤ r_7 ∧ r_7 ≤ u.1 10 := hw_6
    exact q_iret hF hr rfl hlocks hU hS dX11_count_111 ⟨⟨hfr, hI⟩, hCA⟩
  · refine lv_tableIn (off := 135) (tgt := 136) hF.1 hF.2.1 dX11_count_1 (by rw [sw_1]; decide) (by rw [sw_1]; decide) (by rw [sw_1]; rfl) (by decide) ?_
    refine lv_aload_n hF.1 hF.2.1 dX11_count_136 rfl (lv_at hl 0 rfl) ?_
    refine lv_iload_n hF.1 hF.2.1 dX11_count_137 rfl (lv_at hl 1 rfl) ?_
    have hM9 := g_X11_countTruth_k l E A u x k P hI hk hCA
    have hR9 := q_runV (l := l) (e := e0) (below := bl0) (meth := me0) (R := qR 8 0 0) (cells := 0) (slots := 0) (st0 := [.int x, .ref (E.2.2 1199)]) (rest := []) hF hU hS hA 1 0 11 1199 rfl rfl rfl hM9 w_1187 w_1189 w_44 w_99 w_1190 (by decide +kernel) ⟨Nat.le_of_ble_eq_true rfl, Nat.le_of_ble_eq_true rfl⟩ dX11_count_138 rfl hl.1 rfl (Nat.le_of_ble_eq_true rfl) ⟨Nat.le_of_ble_eq_true rfl, Nat.le_of_ble_eq_true rfl⟩
    refine q_calli hR9 hU.2.2.2 hS (fun r_10 u_8 H locs hw_9 hU hS => ?_)
    obtain ⟨⟨hw_9_f, hI⟩, hw_9⟩ := hw_9
    have hfo := hfr
    have hfr : qFc [900, 901, 902, 908, 909] [905, 906, 907] [] [904, 5010] u u_8 := hfr.trans (hw_9_f.mono (by decide) (by decide) (by decide) (by decide))
    have hCA := hw_9
    exact q_iret hF hr rfl hlocks hU hS dX11_count_141 ⟨⟨hfr, hI⟩, hCA⟩
  · refine lv_tableIn (off := 111) (tgt := 112) hF.1 hF.2.1 dX11_count_1 (by rw [sw_1]; decide) (by rw [sw_1]; decide) (by rw [sw_1]; rfl) (by decide) ?_
    refine lv_aload_n hF.1 hF.2.1 dX11_count_112 rfl (lv_at hl 0 rfl) ?_
    refine q_get (v := .ref (E.2.2 99)) hF hU dX11_count_113 0 11 0 1100 1199 rfl rfl rfl rfl inX11 (by decide) (by decide) w_436 rfl rfl ?_
    refine q_get (v := .int (u.1 11)) hF hU dX11_count_116 1 0 11 11 99 rfl rfl rfl rfl inX0 (by decide) (by decide) w_174 rfl rfl ?_
    exact q_iret hF hr rfl hlocks hU hS dX11_count_119 ⟨⟨hfr, hI⟩, hCA⟩
  · refine lv_tableIn (off := 119) (tgt := 120) hF.1 hF.2.1 dX11_count_1 (by rw [sw_1]; decide) (by rw [sw_1]; decide) (by rw [sw_1]; rfl) (by decide) ?_
    refine lv_aload_n hF.1 hF.2.1 dX11_count_120 rfl (lv_at hl 0 rfl) ?_
    refine q_get (v := .ref (E.2.2 99)) hF hU dX11_count_121 0 11 0 1100 1199 rfl rfl rfl rfl inX11 (by decide) (by decide) w_436 rfl rfl ?_
    refine q_get (v := .int (u.1 12)) hF hU dX11_count_124 1 0 12 12 99 rfl rfl rfl rfl inX0 (by decide) (by decide) w_176 rfl rfl ?_
    exact q_iret hF hr rfl hlocks hU hS dX11_count_127 ⟨⟨hfr, hI⟩, hCA⟩
  · refine lv_tableIn (off := 127) (tgt := 128) hF.1 hF.2.1 dX11_count_1 (by rw [sw_1]; decide) (by rw [sw_1]; decide) (by rw [sw_1]; rfl) (by decide) ?_
    refine lv_aload_n hF.1 hF.2.1 dX11_count_128 rfl (lv_at hl 0 rfl) ?_
    refine q_get (v := .ref (E.2.2 899)) hF hU dX11_count_129 0 11 1 1101 1199 rfl rfl rfl rfl inX11 (by decide) (by decide) w_437 rfl rfl ?_
    refine q_get (v := .int (u.1 801)) hF hU dX11_count_132 2 8 1 801 899 rfl rfl rfl rfl inX8 (by decide) (by decide) w_240 rfl rfl ?_
    exact q_iret hF hr rfl hlocks hU hS dX11_count_135 ⟨⟨hfr, hI⟩, hCA⟩
  · refine lv_tableIn (off := 135) (tgt := 136) hF.1 hF.2.1 dX11_count_1 (by rw [sw_1]; decide) (by rw [sw_1]; decide) (by rw [sw_1]; rfl) (by decide) ?_
    refine lv_aload_n hF.1 hF.2.1 dX11_count_136 rfl (lv_at hl 0 rfl) ?_
    refine lv_iload_n hF.1 hF.2.1 dX11_count_137 rfl (lv_at hl 1 rfl) ?_
    have hM9 := g_X11_countTruth_k l E A u x k P hI hk hCA
    have hR9 := q_runV (l := l) (e := e0) (below := bl0) (meth := me0) (R := qR 8 0 0) (cells := 0) (slots := 0) (st0 := [.int x, .ref (E.2.2 1199)]) (rest := []) hF hU hS hA 1 0 11 1199 rfl rfl rfl hM9 w_1187 w_1189 w_44 w_99 w_1190 (by decide +kernel) ⟨Nat.le_of_ble_eq_true rfl, Nat.le_of_ble_eq_true rfl⟩ dX11_count_138 rfl hl.1 rfl (Nat.le_of_ble_eq_true rfl) ⟨Nat.le_of_ble_eq_true rfl, Nat.le_of_ble_eq_true rfl⟩
    refine q_calli hR9 hU.2.2.2 hS (fun r_13 u_11 H locs hw_12 hU hS => ?_)
    obtain ⟨⟨hw_12_f, hI⟩, hw_12⟩ := hw_12
    have hfo := hfr
    have hfr : qFc [900, 901, 902, 908, 909] [905, 906, 907] [] [904, 5010] u u_11 := hfr.trans (hw_12_f.mono (by decide) (by decide) (by decide) (by decide))
    have hCA := hw_12
    exact q_iret hF hr rfl hlocks hU hS dX11_count_141 ⟨⟨hfr, hI⟩, hCA⟩
  · refine lv_tableIn (off := 135) (tgt := 136) hF.1 hF.2.1 dX11_count_1 (by rw [sw_1]; decide) (by rw [sw_1]; decide) (by rw [sw_1]; rfl) (by decide) ?_
    refine lv_aload_n hF.1 hF.2.1 dX11_count_136 rfl (lv_at hl 0 rfl) ?_
    refine lv_iload_n hF.1 hF.2.1 dX11_count_137 rfl (lv_at hl 1 rfl) ?_
    have hM9 := g_X11_countTruth_k l E A u x k P hI hk hCA
    have hR9 := q_runV (l := l) (e := e0) (below := bl0) (meth := me0) (R := qR 8 0 0) (cells := 0) (slots := 0) (st0 := [.int x, .ref (E.2.2 1199)]) (rest := []) hF hU hS hA 1 0 11 1199 rfl rfl rfl hM9 w_1187 w_1189 w_44 w_99 w_1190 (by decide +kernel) ⟨Nat.le_of_ble_eq_true rfl, Nat.le_of_ble_eq_true rfl⟩ dX11_count_138 rfl hl.1 rfl (Nat.le_of_ble_eq_true rfl) ⟨Nat.le_of_ble_eq_true rfl, Nat.le_of_ble_eq_true rfl⟩
    refine q_calli hR9 hU.2.2.2 hS (fun r_16 u_14 H locs hw_15 hU hS => ?_)
    obtain ⟨⟨hw_15_f, hI⟩, hw_15⟩ := hw_15
    have hfo := hfr
    have hfr : qFc [900, 901, 902, 908, 909] [905, 906, 907] [] [904, 5010] u u_14 := hfr.trans (hw_15_f.mono (by decide) (by decide) (by decide) (by decide))
    have hCA := hw_15
    exact q_iret hF hr rfl hlocks hU hS dX11_count_141 ⟨⟨hfr, hI⟩, hCA⟩
  · refine lv_tableOut (tgt := 142) hF.1 hF.2.1 dX11_count_1 sw_1 (by decide) ?_
    refine lv_iconst (v := (-1)) hF.1 hF.2.1 dX11_count_142 (by decide) ?_
    exact q_iret hF hr rfl hlocks hU hS dX11_count_143 ⟨⟨hfr, hI⟩, hCA⟩
set_option maxRecDepth 100000 in
theorem g_X11_look_k_v0 (u : qS) (x : Int32) (y : Int32) (k : qS) (P : Nat → Int32) (hk : CT k P u) (hca : t_ca k u) (hz8 : 0 ≤ u.1 8 ∧ u.1 8 ≤ 20) (hz9 : 0 ≤ u.1 9 ∧ u.1 9 ≤ 8) (hz10 : 0 ≤ u.1 10 ∧ u.1 10 ≤ 120) (hz12 : 0 ≤ u.1 12 ∧ u.1 12 ≤ 16) (b5_4 : 0 ≤ x ∧ x < u.1 10) (b14_8 : (0 : Int32) ≤ y ∧ y ≤ (5 : Int32)) : 0 ≤ x ∧ x < (u.1 10) := by
  first | omega | ((try simp only [g_m1, Int32.lt_iff_toInt_lt, Int32.le_iff_toInt_le, ← Int32.toInt_inj, Int32.reduceToInt] at *); omega) | ((try simp only [g_m1, Int32.lt_iff_toInt_lt, Int32.le_iff_toInt_le, ← Int32.toInt_inj, Int32.reduceToInt] at *); omega) | ((try simp only [g_m1, Int32.lt_iff_toInt_lt, Int32.le_iff_toInt_le, ← Int32.toInt_inj, Int32.toInt_add, Int32.toInt_sub, Int32.toInt_mul, Int32.toInt_neg, Int32.reduceToInt, g_bm, g_bm'] at *); omega) | (have qr1 := g_rng x; have qr2 := g_rng y; (try simp only [g_m1, Int32.lt_iff_toInt_lt, Int32.le_iff_toInt_le, ← Int32.toInt_inj, Int32.toInt_add, Int32.toInt_sub, Int32.toInt_mul, Int32.toInt_neg, Int32.reduceToInt, g_bm, g_bm'] at *); omega) | (simp only [g_m1, Int32.lt_iff_toInt_lt, Int32.le_iff_toInt_le, ← Int32.toInt_inj, Int32.toInt_add, Int32.toInt_sub, Int32.toInt_mul, Int32.toInt_neg, Int32.reduceToInt, g_bm, g_bm'] at *; simp at *; omega) | (simp_all; done)
set_option maxRecDepth 100000 in
theorem g_X11_look_k_v1 (u : qS) (x : Int32) (y : Int32) (k : qS) (P : Nat → Int32) (hk : CT k P u) (hca : t_ca k u) (hz8 : 0 ≤ u.1 8 ∧ u.1 8 ≤ 20) (hz9 : 0 ≤ u.1 9 ∧ u.1 9 ≤ 8) (hz10 : 0 ≤ u.1 10 ∧ u.1 10 ≤ 120) (hz12 : 0 ≤ u.1 12 ∧ u.1 12 ≤ 16) (b5_4 : 0 ≤ x ∧ x < u.1 10) (b14_8 : (0 : Int32) ≤ y ∧ y ≤ (5 : Int32)) : vp_in (x) 120 := by
  refine g_in ?_ ?_ <;> ((try simp only [g_m1, Int32.lt_iff_toInt_lt, Int32.le_iff_toInt_le, ← Int32.toInt_inj, Int32.toInt_add, Int32.toInt_sub, Int32.toInt_mul, Int32.toInt_neg, Int32.reduceToInt, g_bm, g_bm'] at *); omega)
set_option maxRecDepth 100000 in
theorem g_X11_look_k_v2 (u : qS) (x : Int32) (y : Int32) (k : qS) (P : Nat → Int32) (hk : CT k P u) (hca : t_ca k u) (hz8 : 0 ≤ u.1 8 ∧ u.1 8 ≤ 20) (hz9 : 0 ≤ u.1 9 ∧ u.1 9 ≤ 8) (hz10 : 0 ≤ u.1 10 ∧ u.1 10 ≤ 120) (hz12 : 0 ≤ u.1 12 ∧ u.1 12 ≤ 16) (b5_4 : 0 ≤ x ∧ x < u.1 10) (b14_8 : (0 : Int32) ≤ y ∧ y ≤ (5 : Int32)) : 0 ≤ x ∧ x < (u.1 10) := by
  first | omega | ((try simp only [g_m1, Int32.lt_iff_toInt_lt, Int32.le_iff_toInt_le, ← Int32.toInt_inj, Int32.reduceToInt] at *); omega) | ((try simp only [g_m1, Int32.lt_iff_toInt_lt, Int32.le_iff_toInt_le, ← Int32.toInt_inj, Int32.reduceToInt] at *); omega) | ((try simp only [g_m1, Int32.lt_iff_toInt_lt, Int32.le_iff_toInt_le, ← Int32.toInt_inj, Int32.toInt_add, Int32.toInt_sub, Int32.toInt_mul, Int32.toInt_neg, Int32.reduceToInt, g_bm, g_bm'] at *); omega) | (have qr1 := g_rng x; have qr2 := g_rng y; (try simp only [g_m1, Int32.lt_iff_toInt_lt, Int32.le_iff_toInt_le, ← Int32.toInt_inj, Int32.toInt_add, Int32.toInt_sub, Int32.toInt_mul, Int32.toInt_neg, Int32.reduceToInt, g_bm, g_bm'] at *); omega) | (simp only [g_m1, Int32.lt_iff_toInt_lt, Int32.le_iff_toInt_le, ← Int32.toInt_inj, Int32.toInt_add, Int32.toInt_sub, Int32.toInt_mul, Int32.toInt_neg, Int32.reduceToInt, g_bm, g_bm'] at *; simp at *; omega) | (simp_all; done)
set_option maxHeartbeats 1000000 in
set_option maxRecDepth 100000 in
theorem g_X11_look_k (l : Launch) (hst : l.stackTraces = false) (E : qE) (A : Nat → Prop) (u : qS) (x : Int32) (y : Int32) (k : qS) (P : Nat → Int32) (hI : IC E u) (hk : CT k P u) (hca : t_ca k u) : vx_Met l yX11_look (uws yX11_look cX11_look 4 (some .int)) (qR 12 1 6) (qPx E A 0 u [.ref (E.2.2 1199), .int x, .int y]) (qQi E A 0 (fun r u1 => (qFc [900, 901, 902, 908, 909, 604, 605, 606, 607, 608, 609] [905, 906, 907, 601, 602, 603] [] [904, 5010, 5011, 5012, 5013, 5014] u u1 ∧ IC E u1) ∧ (t_ca k u1))) (qXC E A 0 (fun u1 => (qFc [900, 901, 902, 908, 909, 604, 605, 606, 607, 608, 609] [905, 906, 907, 601, 602, 603] [] [904, 5010, 5011, 5012, 5013, 5014] u u1 ∧ IC E u1) ∧ t_ca k u1)) 1 6 A := by
  refine q_metX (own := RX11) (f := 12) [.ref (E.2.2 1199), .int x, .int y] (by decide) (Nat.le_of_ble_eq_true rfl) rfl ?_
  intro p0 e0 s0 m0 bl0 me0 cd0 ls hF hr hlocks hex hXs hU hS hA hl
  have hl : lv_has ls 4 [(0, .ref (E.2.2 1199)), (1, .int x), (2, .int y)] := hl
  have hz8 : 0 ≤ u.1 8 ∧ u.1 8 ≤ 20 := hI.1.s8
  have hz9 : 0 ≤ u.1 9 ∧ u.1 9 ≤ 8 := hI.1.s9
  have hz10 : 0 ≤ u.1 10 ∧ u.1 10 ≤ 120 := hI.1.s10
  have hz12 : 0 ≤ u.1 12 ∧ u.1 12 ≤ 16 := hI.1.s12
  have hfr : qFc [900, 901, 902, 908, 909, 604, 605, 606, 607, 608, 609] [905, 906, 907, 601, 602, 603] [] [904, 5010, 5011, 5012, 5013, 5014] u u := qFc.rf
  have hCA := hca
  refine lv_aload_n hF.1 hF.2.1 dX11_look_0 rfl (lv_at hl 0 rfl) ?_
  refine q_get (v := .ref (E.2.2 99)) hF hU dX11_look_1 0 11 0 1100 1199 rfl rfl rfl rfl inX11 (by decide) (by decide) w_436 rfl rfl ?_
  refine lv_iload_n hF.1 hF.2.1 dX11_look_4 rfl (lv_at hl 1 rfl) ?_
  have hM9 := g_X0_isKnown l E A u x hI
  have hR9 := q_runV (l := l) (e := e0) (below := bl0) (meth := me0) (R := qR 12 1 6) (cells := 0) (slots := 0) (st0 := [.int x, .ref (E.2.2 99)]) (rest := []) hF hU hS hA 1 1 0 99 rfl rfl rfl hM9 w_1199 w_1200 w_1201 w_100 w_1202 (by decide +kernel) ⟨Nat.le_of_ble_eq_true rfl, Nat.le_of_ble_eq_true rfl⟩ dX11_look_5 rfl hl.1 rfl (Nat.le_of_ble_eq_true rfl) ⟨Nat.le_of_ble_eq_true rfl, Nat.le_of_ble_eq_true rfl⟩
  refine q_calli hR9 hU.2.2.2 hS (fun r_3 u_1 H locs hw_2 hU hS => ?_)
  obtain ⟨hw_2_e, hw_2⟩ := hw_2
  rw [hw_2_e] at hU
  have hw_2 : (r_3 = 1 ∧ (0 ≤ x ∧ x < u.1 10)) ∨ (r_3 = 0 ∧ (True)) := hw_2
  rcases hw_2 with ⟨rfl, b5_4⟩ | ⟨rfl, b5_4⟩
  · refine lv_if_eq (tgt := 20) hF.1 hF.2.1 dX11_look_8 (by decide) (fun h9 => absurd h9 (by decide)) (fun _ => ?_)
    refine lv_iload_n hF.1 hF.2.1 dX11_look_11 rfl (lv_at hl 2 rfl) ?_
    refine lv_iconst (v := 0) hF.1 hF.2.1 dX11_look_12 (by decide) ?_
    refine lv_iconst (v := 5) hF.1 hF.2.1 dX11_look_13 (by decide) ?_
    have hM9 := g_X11_isWithin l E A u y 0 5
    have hR9 := q_runS (l := l) (e := e0) (below := bl0) (meth := me0) (R := qR 12 1 6) (cells := 0) (slots := 0) (st0 := [.int 5, .int 0, .int y]) (rest := []) hF hU hS hA 3 hM9 w_468 w_469 w_99 w_470 (by decide +kernel) ⟨Nat.le_of_ble_eq_true rfl, Nat.le_of_ble_eq_true rfl⟩ dX11_look_14 rfl hl.1 rfl (Nat.le_of_ble_eq_true rfl) ⟨Nat.le_of_ble_eq_true rfl, Nat.le_of_ble_eq_true rfl⟩
    refine q_calli hR9 hU.2.2.2 hS (fun r_7 u_5 H locs hw_6 hU hS => ?_)
    obtain ⟨hw_6_e, hw_6⟩ := hw_6
    rw [hw_6_e] at hU
    have hw_6 : (r_7 = 1 ∧ ((0 : Int32) ≤ y ∧ y ≤ (5 : Int32))) ∨ (r_7 = 0 ∧ (¬ ((0 : Int32) ≤ y ∧ y ≤ (5 : Int32)))) := hw_6
    rcases hw_6 with ⟨rfl, b14_8⟩ | ⟨rfl, b14_8⟩
    · refine lv_if_ne (tgt := 30) hF.1 hF.2.1 dX11_look_17 (by decide) (fun _ => ?_) (fun h9 => absurd h9 (by decide))
      refine lv_aload_n hF.1 hF.2.1 dX11_look_30 rfl (lv_at hl 0 rfl) ?_
      refine q_get (v := .ref (E.2.2 99)) hF hU dX11_look_31 0 11 0 1100 1199 rfl rfl rfl rfl inX11 (by decide) (by decide) w_436 rfl rfl ?_
      refine q_get (v := .ref (E.2.2 2)) hF hU dX11_look_34 1 0 2 2 99 rfl rfl rfl rfl inX0 (by decide) (by decide) w_150 rfl rfl ?_
      refine lv_iload_n hF.1 hF.2.1 dX11_look_37 rfl (lv_at hl 1 rfl) ?_
      obtain ⟨a_9, ha_9_10_e, ha_9_10⟩ := hI.r2 x (g_X11_look_k_v0 u x y k P hk hca hz8 hz9 hz10 hz12 b5_4 b14_8)
      refine q_aald (v := .ref a_9) hF hU dX11_look_38 2 2 6 rfl rfl (by decide) rfl (g_X11_look_k_v1 u x y k P hk hca hz8 hz9 hz10 hz12 b5_4 b14_8) (by rw [ha_9_10_e]; rfl) ?_
      have hK_11 : qKn k u a_9 x := hk.va (g_X11_look_k_v2 u x y k P hk hca hz8 hz9 hz10 hz12 b5_4 b14_8) ha_9_10_e
      refine lv_astore_n (lv' := [(3, .ref a_9), (0, .ref (E.2.2 1199)), (1, .int x), (2, .int y)]) hF.1 hF.2.1 dX11_look_39 rfl hl (by decide) rfl (fun ls hl => ?_)
      refine lv_iload_n hF.1 hF.2.1 dX11_look_40 rfl (lv_at hl 3 rfl) ?_
      refine lv_iconst (v := 2) hF.1 hF.2.1 dX11_look_41 (by decide) ?_
      refine lv_icmp_ne (tgt := 50) hF.1 hF.2.1 dX11_look_42 (by decide) (fun c42_12 => ?_) (fun c42_12 => ?_)
      · refine lv_iload_n hF.1 hF.2.1 dX11_look_50 rfl (lv_at hl 3 rfl) ?_
        refine lv_iconst (v := 3) hF.1 hF.2.1 dX11_look_51 (by decide) ?_
        refine lv_icmp_eq (tgt := 60) hF.1 hF.2.1 dX11_look_52 (by decide) (fun c52_13 => ?_) (fun c52_13 => ?_)
        · refine lv_aload_n hF.1 hF.2.1 dX11_look_60 rfl (lv_at hl 1 rfl) ?_
          refine q_get (v := .ref (E.2.2 999)) hF hU dX11_look_61 0 11 3 1103 1199 rfl rfl rfl rfl inX11 (by decide) (by decide) w_439 rfl rfl ?_
          have hM9 := g_X9_refresh_k l E A u k P hI hk hCA.1
          have hR9 := q_runV (l := l) (e := e0) (below := bl0) (meth := me0) (R := qR 12 1 6) (cells := 0) (slots := 0) (st0 := [.ref (E.2.2 999)]) (rest := []) hF hU hS hA 0 4 9 999 rfl rfl rfl hM9 w_843 w_844 w_845 w_103 w_846 (by decide +kernel) ⟨Nat.le_of_ble_eq_true rfl, Nat.le_of_ble_eq_true rfl⟩ dX11_look_64 rfl hl.1 rfl (Nat.le_of_ble_eq_true rfl) ⟨Nat.le_of_ble_eq_true rfl, Nat.le_of_ble_eq_true rfl⟩
          refine q_callv hR9 hU.2.2.2 hS (fun u_14 H locs hw_15 hU hS => ?_)
          obtain ⟨⟨hw_15_f, hI⟩, hw_15⟩ := hw_15
          have hfo := hfr
          have hfr : qFc [900, 901, 902, 908, 909, 604, 605, 606, 607, 608, 609] [905, 906, 907, 601, 602, 603] [] [904, 5010, 5011, 5012, 5013, 5014] u u_14 := hfr.trans (hw_15_f.mono (by decide) (by decide) (by decide) (by decide))
          have e_17 : u_14.1 604 = (u.1 604) := (hw_15_f.1 604 (by decide)).trans rfl
          have e_18 : u_14.1 605 = (u.1 605) := (hw_15_f.1 605 (by decide)).trans rfl
          have e_19 : u_14.1 606 = (u.1 606) := (hw_15_f.1 606 (by decide)).trans rfl
          have e_20 : u_14.1 607 = (u.1 607) := (hw_15_f.1 607 (by decide)).trans rfl
          have e_21 : u_14.1 608 = (u.1 608) := (hw_15_f.1 608 (by decide)).trans rfl
          have e_22 : u_14.1 609 = (u.1 609) := (hw_15_f.1 609 (by decide)).trans rfl
          have e_23 : u_14.2.1 601 = (u.2.1 601) := (hw_15_f.2.1 601 (by decide)).trans rfl
          have e_24 : u_14.2.1 602 = (u.2.1 602) := (hw_15_f.2.1 602 (by decide)).trans rfl
          have e_25 : u_14.2.1 603 = (u.2.1 603) := (hw_15_f.2.1 603 (by decide)).trans rfl
          have hr_26 : qRv u_14 a_9 := hw_15_f.v _ ha_9_10
          have hK_27 : qKn k u_14 a_9 x := hK_11.fr hw_15_f (by decide) (by decide) (by decide) (by decide)
          obtain ⟨S_28, hST, hq_29⟩ := hw_15
          have hCA : t_ca k u_14 := hCA.tr hw_15_f hST hq_29.1 hq_29.2 (by decide) (by decide) (by decide)
          have hq_29 : f_fi (k) S_28 ∧ u_14.1 909 = u.1 18 := hq_29
          refine lv_iload_n hF.1 hF.2.1 dX11_look_67 rfl (lv_at hl 3 rfl) ?_
          refine lv_iconst (v := 3) hF.1 hF.2.1 dX11_look_68 (by decide) ?_
          refine lv_icmp_ne (tgt := 79) hF.1 hF.2.1 dX11_look_69 (by decide) (fun h9 => absurd (by first | exact c52_13 | exact Int32.not_lt.mp c52_13 | exact Int32.not_le.mp c52_13 | exact Int32.not_lt.mpr c52_13 | exact Int32.not_le.mpr c52_13) h9) (fun _ => ?_)
          refine lv_aload_n hF.1 hF.2.1 dX11_look_72 rfl (lv_at hl 0 rfl) ?_
          obtain ⟨k_30, fs_31, hd_32, hv_33⟩ := hST.at hK_27.nm
          refine q_getd (v := .int (S_28 (x : Int32).toNatClampNeg)) hF hU dX11_look_73 k_30 10 10 hd_32 rfl inX10 (by decide) w_623 rfl hv_33 ?_
          refine lv_goto (tgt := 91) hF.1 hF.2.1 dX11_look_76 (by decide) ?_
          refine vx_ret ?_
          refine W.widen (k := 1) (n := 6) (by decide) (by decide) ?_
          exact q_iret hF hr rfl hlocks hU hS dX11_look_91 ⟨⟨hfr, hI⟩, hCA⟩
        · refine lv_iload_n hF.1 hF.2.1 dX11_look_55 rfl (lv_at hl 3 rfl) ?_
          refine lv_iconst (v := 4) hF.1 hF.2.1 dX11_look_56 (by decide) ?_
          refine lv_icmp_ne (tgt := 92) hF.1 hF.2.1 dX11_look_57 (by decide) (fun c57_34 => ?_) (fun c57_34 => ?_)
          · refine lv_aload_n hF.1 hF.2.1 dX11_look_92 rfl (lv_at hl 1 rfl) ?_
            refine q_get (v := .ref (E.2.2 699)) hF hU dX11_look_93 0 11 4 1104 1199 rfl rfl rfl rfl inX11 (by decide) (by decide) w_440 rfl rfl ?_
            have hM9 := g_X6_refresh_k l E A u  hI
            have hR9 := q_runV (l := l) (e := e0) (below := bl0) (meth := me0) (R := qR 12 1 6) (cells := 0) (slots := 0) (st0 := [.ref (E.2.2 699)]) (rest := []) hF hU hS hA 0 5 6 699 rfl rfl rfl hM9 w_1162 w_937 w_938 w_104 w_939 (by decide +kernel) ⟨Nat.le_of_ble_eq_true rfl, Nat.le_of_ble_eq_true rfl⟩ dX11_look_96 rfl hl.1 rfl (Nat.le_of_ble_eq_true rfl) ⟨Nat.le_of_ble_eq_true rfl, Nat.le_of_ble_eq_true rfl⟩
            refine q_callv hR9 hU.2.2.2 hS (fun u_35 H locs hw_36 hU hS => ?_)
            obtain ⟨⟨hw_36_f, hI⟩, hw_36⟩ := hw_36
            have hfo := hfr
            have hfr : qFc [900, 901, 902, 908, 909, 604, 605, 606, 607, 608, 609] [905, 906, 907, 601, 602, 603] [] [904, 5010, 5011, 5012, 5013, 5014] u u_35 := hfr.trans (hw_36_f.mono (by decide) (by decide) (by decide) (by decide))
            have e_38 : u_35.1 900 = (u.1 900) := (hw_36_f.1 900 (by decide)).trans rfl
            have e_39 : u_35.1 901 = (u.1 901) := (hw_36_f.1 901 (by decide)).trans rfl
            have e_40 : u_35.1 902 = (u.1 902) := (hw_36_f.1 902 (by decide)).trans rfl
            have e_41 : u_35.1 908 = (u.1 908) := (hw_36_f.1 908 (by decide)).trans rfl
            have e_42 : u_35.1 909 = (u.1 909) := (hw_36_f.1 909 (by decide)).trans rfl
            have e_43 : u_35.2.1 905 = (u.2.1 905) := (hw_36_f.2.1 905 (by decide)).trans rfl
            have e_44 : u_35.2.1 906 = (u.2.1 906) := (hw_36_f.2.1 906 (by decide)).trans rfl
            have e_45 : u_35.2.1 907 = (u.2.1 907) := (hw_36_f.2.1 907 (by decide)).trans rfl
            have hr_46 : qRv u_35 a_9 := hw_36_f.v _ ha_9_10
            have hK_47 : qKn k u_35 a_9 x := hK_11.fr hw_36_f (by decide) (by decide) (by decide) (by decide)
            have hCA : t_ca k u_35 := hCA.sc hw_36_f hw_36.1 hw_36.2 (by decide) (by decide) (by decide)
            refine lv_iload_n hF.1 hF.2.1 dX11_look_99 rfl (lv_at hl 3 rfl) ?_
            refine lv_if_ne (tgt := 110) hF.1 hF.2.1 dX11_look_100 (by decide) (fun c100_48 => ?_) (fun c100_48 => ?_)
            · refine lv_iload_n hF.1 hF.2.1 dX11_look_110 rfl (lv_at hl 3 rfl) ?_
              refine lv_iconst (v := 1) hF.1 hF.2.1 dX11_look_111 (by decide) ?_
              refine lv_icmp_ne (tgt := 122) hF.1 hF.2.1 dX11_look_112 (by decide) (fun c112_49 => ?_) (fun c112_49 => ?_)
              · refine lv_aload_n hF.1 hF.2.1 dX11_look_122 rfl (lv_at hl 0 rfl) ?_
                obtain ⟨k_50, fs_51, hd_53, hv_54, hv_54_2, hv_54_3, -⟩ := hI.vf ((hr_46).rf) 14 (by decide)
                refine q_getd (v := .int (qfd u_35.2.2.2.2 a_9 14)) hF hU dX11_look_123 k_50 10 14 hd_53 rfl inX10 (by decide) w_631 rfl hv_54 ?_
                refine vx_ret ?_
                refine W.widen (k := 1) (n := 6) (by decide) (by decide) ?_
                exact q_iret hF hr rfl hlocks hU hS dX11_look_126 ⟨⟨hfr, hI⟩, hCA⟩
              · refine lv_aload_n hF.1 hF.2.1 dX11_look_115 rfl (lv_at hl 0 rfl) ?_
                obtain ⟨k_55, fs_56, hd_58, hv_59, hv_59_2, hv_59_3, -⟩ := hI.vf ((hr_46).rf) 12 (by decide)
                refine q_getd (v := .int (qfd u_35.2.2.2.2 a_9 12)) hF hU dX11_look_116 k_55 10 12 hd_58 rfl inX10 (by decide) w_628 rfl hv_59 ?_
                refine lv_goto (tgt := 126) hF.1 hF.2.1 dX11_look_119 (by decide) ?_
                refine vx_ret ?_
                refine W.widen (k := 1) (n := 6) (by decide) (by decide) ?_
                exact q_iret hF hr rfl hlocks hU hS dX11_look_126 ⟨⟨hfr, hI⟩, hCA⟩
            · refine lv_aload_n hF.1 hF.2.1 dX11_look_103 rfl (lv_at hl 0 rfl) ?_
              obtain ⟨k_60, fs_61, hd_63, hv_64, hv_64_2, hv_64_3, -⟩ := hI.vf ((hr_46).rf) 11 (by decide)
              refine q_getd (v := .int (qfd u_35.2.2.2.2 a_9 11)) hF hU dX11_look_104 k_60 10 11 hd_63 rfl inX10 (by decide) w_626 rfl hv_64 ?_
              refine lv_goto (tgt := 126) hF.1 hF.2.1 dX11_look_107 (by decide) ?_
              refine vx_ret ?_
              refine W.widen (k := 1) (n := 6) (by decide) (by decide) ?_
              exact q_iret hF hr rfl hlocks hU hS dX11_look_126 ⟨⟨hfr, hI⟩, hCA⟩
          · refine lv_aload_n hF.1 hF.2.1 dX11_look_60 rfl (lv_at hl 1 rfl) ?_
            refine q_get (v := .ref (E.2.2 999)) hF hU dX11_look_61 0 11 3 1103 1199 rfl rfl rfl rfl inX11 (by decide) (by decide) w_439 rfl rfl ?_
            have hM9 := g_X9_refresh_k l E A u k P hI hk hCA.1
            have hR9 := q_runV (l := l) (e := e0) (below := bl0) (meth := me0) (R := qR 12 1 6) (cells := 0) (slots := 0) (st0 := [.ref (E.2.2 999)]) (rest := []) hF hU hS hA 0 4 9 999 rfl rfl rfl hM9 w_843 w_844 w_845 w_103 w_846 (by decide +kernel) ⟨Nat.le_of_ble_eq_true rfl, Nat.le_of_ble_eq_true rfl⟩ dX11_look_64 rfl hl.1 rfl (Nat.le_of_ble_eq_true rfl) ⟨Nat.le_of_ble_eq_true rfl, Nat.le_of_ble_eq_true rfl⟩
            refine q_callv hR9 hU.2.2.2 hS (fun u_65 H locs hw_66 hU hS => ?_)
            obtain ⟨⟨hw_66_f, hI⟩, hw_66⟩ := hw_66
            have hfo := hfr
            have hfr : qFc [900, 901, 902, 908, 909, 604, 605, 606, 607, 608, 609] [905, 906, 907, 601, 602, 603] [] [904, 5010, 5011, 5012, 5013, 5014] u u_65 := hfr.trans (hw_66_f.mono (by decide) (by decide) (by decide) (by decide))
            have e_68 : u_65.1 604 = (u.1 604) := (hw_66_f.1 604 (by decide)).trans rfl
            have e_69 : u_65.1 605 = (u.1 605) := (hw_66_f.1 605 (by decide)).trans rfl
            have e_70 : u_65.1 606 = (u.1 606) := (hw_66_f.1 606 (by decide)).trans rfl
            have e_71 : u_65.1 607 = (u.1 607) := (hw_66_f.1 607 (by decide)).trans rfl
            have e_72 : u_65.1 608 = (u.1 608) := (hw_66_f.1 608 (by decide)).trans rfl
            have e_73 : u_65.1 609 = (u.1 609) := (hw_66_f.1 609 (by decide)).trans rfl
            have e_74 : u_65.2.1 601 = (u.2.1 601) := (hw_66_f.2.1 601 (by decide)).trans rfl
            have e_75 : u_65.2.1 602 = (u.2.1 602) := (hw_66_f.2.1 602 (by decide)).trans rfl
            have e_76 : u_65.2.1 603 = (u.2.1 603) := (hw_66_f.2.1 603 (by decide)).trans rfl
            have hr_77 : qRv u_65 a_9 := hw_66_f.v _ ha_9_10
            have hK_78 : qKn k u_65 a_9 x := hK_11.fr hw_66_f (by decide) (by decide) (by decide) (by decide)
            obtain ⟨S_79, hST, hq_80⟩ := hw_66
            have hCA : t_ca k u_65 := hCA.tr hw_66_f hST hq_80.1 hq_80.2 (by decide) (by decide) (by decide)
            have hq_80 : f_fi (k) S_79 ∧ u_65.1 909 = u.1 18 := hq_80
            refine lv_iload_n hF.1 hF.2.1 dX11_look_67 rfl (lv_at hl 3 rfl) ?_
            refine lv_iconst (v := 3) hF.1 hF.2.1 dX11_look_68 (by decide) ?_
            refine lv_icmp_ne (tgt := 79) hF.1 hF.2.1 dX11_look_69 (by decide) (fun _ => ?_) (fun h9 => absurd h9 (by first | exact c52_13 | exact Int32.not_lt.mp c52_13 | exact Int32.not_le.mp c52_13 | exact Int32.not_lt.mpr c52_13 | exact Int32.not_le.mpr c52_13))
            refine lv_aload_n hF.1 hF.2.1 dX11_look_79 rfl (lv_at hl 0 rfl) ?_
            have hM9 := g_X10_counts_k l E A u_65 a_9 k x S_79 hI ((hr_77).rf) hK_78 hST
            obtain ⟨k_81, fs_82, hd_83⟩ := id ((hr_77).rf)
            have hR9 := q_runVd (l := l) (e := e0) (below := bl0) (meth := me0) (R := qR 12 1 6) (cells := 0) (slots := 0) (st0 := [.ref a_9]) (rest := []) hF hU hS hA 0 k_81 10 hd_83 rfl hM9 w_1176 w_908 w_909 w_110 w_910 (by decide +kernel) ⟨Nat.le_of_ble_eq_true rfl, Nat.le_of_ble_eq_true rfl⟩ dX11_look_80 rfl hl.1 rfl (Nat.le_of_ble_eq_true rfl) ⟨Nat.le_of_ble_eq_true rfl, Nat.le_of_ble_eq_true rfl⟩
            refine q_calli hR9 hU.2.2.2 hS (fun r_86 u_84 H locs hw_85 hU hS => ?_)
            obtain ⟨hw_85_e, hw_85⟩ := hw_85
            rw [hw_85_e] at hU
            have hw_85 : (r_86 = 1 ∧ ((S_79) (x).toNatClampNeg = 0 ∨ (S_79) (x).toNatClampNeg = 3)) ∨ (r_86 = 0 ∧ (¬ ((S_79) (x).toNatClampNeg = 0 ∨ (S_79) (x).toNatClampNeg = 3))) := hw_85
            rcases hw_85 with ⟨rfl, b80_87⟩ | ⟨rfl, b80_87⟩
            · refine lv_if_eq (tgt := 90) hF.1 hF.2.1 dX11_look_83 (by decide) (fun h9 => absurd h9 (by decide)) (fun _ => ?_)
              refine lv_iconst (v := 1) hF.1 hF.2.1 dX11_look_86 (by decide) ?_
              refine lv_goto (tgt := 91) hF.1 hF.2.1 dX11_look_87 (by decide) ?_
              refine vx_ret ?_
              refine W.widen (k := 1) (n := 6) (by decide) (by decide) ?_
              exact q_iret hF hr rfl hlocks hU hS dX11_look_91 ⟨⟨hfr, hI⟩, hCA⟩
            · refine lv_if_eq (tgt := 90) hF.1 hF.2.1 dX11_look_83 (by decide) (fun _ => ?_) (fun h9 => absurd (by decide) h9)
              refine lv_iconst (v := 0) hF.1 hF.2.1 dX11_look_90 (by decide) ?_
              refine vx_ret ?_
              refine W.widen (k := 1) (n := 6) (by decide) (by decide) ?_
              exact q_iret hF hr rfl hlocks hU hS dX11_look_91 ⟨⟨hfr, hI⟩, hCA⟩
      · refine lv_aload_n hF.1 hF.2.1 dX11_look_45 rfl (lv_at hl 0 rfl) ?_
        obtain ⟨k_88, fs_89, hd_90, hv_91⟩ := hK_11.at 9 (by decide) (by decide)
        refine q_getd (v := .int (f_fm k x)) hF hU dX11_look_46 k_88 10 9 hd_90 rfl inX10 (by decide) w_620 rfl hv_91 ?_
        refine vx_ret ?_
        refine W.widen (k := 1) (n := 6) (by decide) (by decide) ?_
        exact q_iret hF hr rfl hlocks hU hS dX11_look_49 ⟨⟨hfr, hI⟩, hCA⟩
    · refine lv_if_ne (tgt := 30) hF.1 hF.2.1 dX11_look_17 (by decide) (fun h9 => absurd (by decide) h9) (fun _ => ?_)
      exact q_throw hF hst hex hlocks hU hS hXs hXs.s212 hl.1 dX11_look_20 dX11_look_23 dX11_look_24 dX11_look_26 dX11_look_29 (by decide) (Nat.le_of_ble_eq_true rfl) (Nat.le_of_ble_eq_true rfl) (Nat.le_of_ble_eq_true rfl) (⟨⟨hfr, hI⟩, hCA⟩)
  · refine lv_if_eq (tgt := 20) hF.1 hF.2.1 dX11_look_8 (by decide) (fun _ => ?_) (fun h9 => absurd (by decide) h9)
    exact q_throw hF hst hex hlocks hU hS hXs hXs.s212 hl.1 dX11_look_20 dX11_look_23 dX11_look_24 dX11_look_26 dX11_look_29 (by decide) (Nat.le_of_ble_eq_true rfl) (Nat.le_of_ble_eq_true rfl) (Nat.le_of_ble_eq_true rfl) (⟨⟨hfr, hI⟩, hCA⟩)
set_option maxRecDepth 100000 in
theorem g_X11_fair_k_v0 (u : qS) (x : Int32) (k : qS) (P : Nat → Int32) (u_5 : qS) (S_8 : Nat → Int32) (B_9 : Nat → Int32) (hk : CT k P u) (hca : t_ca k u) (hz8 : 0 ≤ u.1 8 ∧ u.1 8 ≤ 20) (hz9 : 0 ≤ u.1 9 ∧ u.1 9 ≤ 8) (hz10 : 0 ≤ u.1 10 ∧ u.1 10 ≤ 120) (hz12 : 0 ≤ u.1 12 ∧ u.1 12 ≤ 16) (b5_4 : 0 ≤ x ∧ x < u.1 10) (hm_11 : f_fi (k) S_8) (hm_12 : m_R (k) B_9 (f_M (k)) (u_5.2.1 303) (u_5.2.1 304) (u_5.2.1 305)) : 0 ≤ x ∧ x < (u.1 10) := by
  first | omega | ((try simp only [g_m1, Int32.lt_iff_toInt_lt, Int32.le_iff_toInt_le, ← Int32.toInt_inj, Int32.reduceToInt] at *); omega) | ((try simp only [g_m1, Int32.lt_iff_toInt_lt, Int32.le_iff_toInt_le, ← Int32.toInt_inj, Int32.reduceToInt] at *); omega) | ((try simp only [g_m1, Int32.lt_iff_toInt_lt, Int32.le_iff_toInt_le, ← Int32.toInt_inj, Int32.toInt_add, Int32.toInt_sub, Int32.toInt_mul, Int32.toInt_neg, Int32.reduceToInt, g_bm, g_bm'] at *); omega) | (have qr1 := g_rng x; (try simp only [g_m1, Int32.lt_iff_toInt_lt, Int32.le_iff_toInt_le, ← Int32.toInt_inj, Int32.toInt_add, Int32.toInt_sub, Int32.toInt_mul, Int32.toInt_neg, Int32.reduceToInt, g_bm, g_bm'] at *); omega) | (simp only [g_m1, Int32.lt_iff_toInt_lt, Int32.le_iff_toInt_le, ← Int32.toInt_inj, Int32.toInt_add, Int32.toInt_sub, Int32.toInt_mul, Int32.toInt_neg, Int32.reduceToInt, g_bm, g_bm'] at *; simp at *; omega) | (simp_all; done)
set_option maxRecDepth 100000 in
theorem g_X11_fair_k_v1 (u : qS) (x : Int32) (k : qS) (P : Nat → Int32) (u_5 : qS) (S_8 : Nat → Int32) (B_9 : Nat → Int32) (hk : CT k P u) (hca : t_ca k u) (hz8 : 0 ≤ u.1 8 ∧ u.1 8 ≤ 20) (hz9 : 0 ≤ u.1 9 ∧ u.1 9 ≤ 8) (hz10 : 0 ≤ u.1 10 ∧ u.1 10 ≤ 120) (hz12 : 0 ≤ u.1 12 ∧ u.1 12 ≤ 16) (b5_4 : 0 ≤ x ∧ x < u.1 10) (hm_11 : f_fi (k) S_8) (hm_12 : m_R (k) B_9 (f_M (k)) (u_5.2.1 303) (u_5.2.1 304) (u_5.2.1 305)) : vp_in (x) 120 := by
  refine g_in ?_ ?_ <;> ((try simp only [g_m1, Int32.lt_iff_toInt_lt, Int32.le_iff_toInt_le, ← Int32.toInt_inj, Int32.toInt_add, Int32.toInt_sub, Int32.toInt_mul, Int32.toInt_neg, Int32.reduceToInt, g_bm, g_bm'] at *); omega)
set_option maxRecDepth 100000 in
theorem g_X11_fair_k_v2 (u : qS) (x : Int32) (k : qS) (P : Nat → Int32) (u_5 : qS) (S_8 : Nat → Int32) (B_9 : Nat → Int32) (hk : CT k P u) (hca : t_ca k u) (hz8 : 0 ≤ u.1 8 ∧ u.1 8 ≤ 20) (hz9 : 0 ≤ u.1 9 ∧ u.1 9 ≤ 8) (hz10 : 0 ≤ u.1 10 ∧ u.1 10 ≤ 120) (hz12 : 0 ≤ u.1 12 ∧ u.1 12 ≤ 16) (b5_4 : 0 ≤ x ∧ x < u.1 10) (hm_11 : f_fi (k) S_8) (hm_12 : m_R (k) B_9 (f_M (k)) (u_5.2.1 303) (u_5.2.1 304) (u_5.2.1 305)) : 0 ≤ x ∧ x < (u.1 10) := by
  first | omega | ((try simp only [g_m1, Int32.lt_iff_toInt_lt, Int32.le_iff_toInt_le, ← Int32.toInt_inj, Int32.reduceToInt] at *); omega) | ((try simp only [g_m1, Int32.lt_iff_toInt_lt, Int32.le_iff_toInt_le, ← Int32.toInt_inj, Int32.reduceToInt] at *); omega) | ((try simp only [g_m1, Int32.lt_iff_toInt_lt, Int32.le_iff_toInt_le, ← Int32.toInt_inj, Int32.toInt_add, Int32.toInt_sub, Int32.toInt_mul, Int32.toInt_neg, Int32.reduceToInt, g_bm, g_bm'] at *); omega) | (have qr1 := g_rng x; (try simp only [g_m1, Int32.lt_iff_toInt_lt, Int32.le_iff_toInt_le, ← Int32.toInt_inj, Int32.toInt_add, Int32.toInt_sub, Int32.toInt_mul, Int32.toInt_neg, Int32.reduceToInt, g_bm, g_bm'] at *); omega) | (simp only [g_m1, Int32.lt_iff_toInt_lt, Int32.le_iff_toInt_le, ← Int32.toInt_inj, Int32.toInt_add, Int32.toInt_sub, Int32.toInt_mul, Int32.toInt_neg, Int32.reduceToInt, g_bm, g_bm'] at *; simp at *; omega) | (simp_all; done)
set_option maxHeartbeats 1000000 in
set_option maxRecDepth 100000 in
theorem g_X11_fair_k (l : Launch) (hst : l.stackTraces = false) (E : qE) (A : Nat → Prop) (u : qS) (x : Int32) (k : qS) (P : Nat → Int32) (hI : IC E u) (hk : CT k P u) (hca : t_ca k u) : vx_Met l yX11_fair (uws yX11_fair cX11_fair 2 (some .int)) (qR 12 1 6) (qPx E A 0 u [.ref (E.2.2 1199), .int x]) (qQi E A 0 (fun r u1 => (qFc [900, 901, 902, 908, 909, 604, 605, 606, 607, 608, 609, 311] [905, 906, 907, 601, 602, 603, 303, 304, 305] [] [904, 5010, 5011, 5012, 5013, 5014] u u1 ∧ IC E u1) ∧ (t_ca k u1))) (qXC E A 0 (fun u1 => (qFc [900, 901, 902, 908, 909, 604, 605, 606, 607, 608, 609, 311] [905, 906, 907, 601, 602, 603, 303, 304, 305] [] [904, 5010, 5011, 5012, 5013, 5014] u u1 ∧ IC E u1) ∧ t_ca k u1)) 1 6 A := by
  refine q_metX (own := RX11) (f := 12) [.ref (E.2.2 1199), .int x] (by decide) (Nat.le_of_ble_eq_true rfl) rfl ?_
  intro p0 e0 s0 m0 bl0 me0 cd0 ls hF hr hlocks hex hXs hU hS hA hl
  have hl : lv_has ls 2 [(0, .ref (E.2.2 1199)), (1, .int x)] := hl
  have hz8 : 0 ≤ u.1 8 ∧ u.1 8 ≤ 20 := hI.1.s8
  have hz9 : 0 ≤ u.1 9 ∧ u.1 9 ≤ 8 := hI.1.s9
  have hz10 : 0 ≤ u.1 10 ∧ u.1 10 ≤ 120 := hI.1.s10
  have hz12 : 0 ≤ u.1 12 ∧ u.1 12 ≤ 16 := hI.1.s12
  have hfr : qFc [900, 901, 902, 908, 909, 604, 605, 606, 607, 608, 609, 311] [905, 906, 907, 601, 602, 603, 303, 304, 305] [] [904, 5010, 5011, 5012, 5013, 5014] u u := qFc.rf
  have hCA := hca
  refine lv_aload_n hF.1 hF.2.1 dX11_fair_0 rfl (lv_at hl 0 rfl) ?_
  refine q_get (v := .ref (E.2.2 99)) hF hU dX11_fair_1 0 11 0 1100 1199 rfl rfl rfl rfl inX11 (by decide) (by decide) w_436 rfl rfl ?_
  refine lv_iload_n hF.1 hF.2.1 dX11_fair_4 rfl (lv_at hl 1 rfl) ?_
  have hM9 := g_X0_isKnown l E A u x hI
  have hR9 := q_runV (l := l) (e := e0) (below := bl0) (meth := me0) (R := qR 12 1 6) (cells := 0) (slots := 0) (st0 := [.int x, .ref (E.2.2 99)]) (rest := []) hF hU hS hA 1 1 0 99 rfl rfl rfl hM9 w_1199 w_1200 w_1201 w_100 w_1202 (by decide +kernel) ⟨Nat.le_of_ble_eq_true rfl, Nat.le_of_ble_eq_true rfl⟩ dX11_fair_5 rfl hl.1 rfl (Nat.le_of_ble_eq_true rfl) ⟨Nat.le_of_ble_eq_true rfl, Nat.le_of_ble_eq_true rfl⟩
  refine q_calli hR9 hU.2.2.2 hS (fun r_3 u_1 H locs hw_2 hU hS => ?_)
  obtain ⟨hw_2_e, hw_2⟩ := hw_2
  rw [hw_2_e] at hU
  have hw_2 : (r_3 = 1 ∧ (0 ≤ x ∧ x < u.1 10)) ∨ (r_3 = 0 ∧ (True)) := hw_2
  rcases hw_2 with ⟨rfl, b5_4⟩ | ⟨rfl, b5_4⟩
  · refine lv_if_ne (tgt := 21) hF.1 hF.2.1 dX11_fair_8 (by decide) (fun _ => ?_) (fun h9 => absurd h9 (by decide))
    refine lv_aload_n hF.1 hF.2.1 dX11_fair_21 rfl (lv_at hl 0 rfl) ?_
    refine q_get (v := .ref (E.2.2 399)) hF hU dX11_fair_22 0 11 5 1105 1199 rfl rfl rfl rfl inX11 (by decide) (by decide) w_441 rfl rfl ?_
    have hM9 := g_X3_refresh_k l E A u k P hI hk hCA
    have hR9 := q_runV (l := l) (e := e0) (below := bl0) (meth := me0) (R := qR 12 1 6) (cells := 0) (slots := 0) (st0 := [.ref (E.2.2 399)]) (rest := []) hF hU hS hA 0 6 3 399 rfl rfl rfl hM9 w_931 w_932 w_933 w_105 w_934 (by decide +kernel) ⟨Nat.le_of_ble_eq_true rfl, Nat.le_of_ble_eq_true rfl⟩ dX11_fair_25 rfl hl.1 rfl (Nat.le_of_ble_eq_true rfl) ⟨Nat.le_of_ble_eq_true rfl, Nat.le_of_ble_eq_true rfl⟩
    refine q_callv hR9 hU.2.2.2 hS (fun u_5 H locs hw_6 hU hS => ?_)
    obtain ⟨⟨hw_6_f, hI⟩, hw_6⟩ := hw_6
    have hfo := hfr
    have hfr : qFc [900, 901, 902, 908, 909, 604, 605, 606, 607, 608, 609, 311] [905, 906, 907, 601, 602, 603, 303, 304, 305] [] [904, 5010, 5011, 5012, 5013, 5014] u u_5 := hfr.trans (hw_6_f.mono (by decide) (by decide) (by decide) (by decide))
    have hCA := hw_6.1
    have hw_6 := hw_6.2
    obtain ⟨S_8, B_9, hST, hBT, hq_10⟩ := hw_6
    have hq_10 : f_fi (k) S_8 ∧ m_R (k) B_9 (f_M (k)) (u_5.2.1 303) (u_5.2.1 304) (u_5.2.1 305) := hq_10
    have hm_11 : f_fi (k) S_8 := hq_10.1
    have hm_12 : m_R (k) B_9 (f_M (k)) (u_5.2.1 303) (u_5.2.1 304) (u_5.2.1 305) := hq_10.2
    refine lv_aload_n hF.1 hF.2.1 dX11_fair_28 rfl (lv_at hl 0 rfl) ?_
    refine q_get (v := .ref (E.2.2 399)) hF hU dX11_fair_29 0 11 5 1105 1199 rfl rfl rfl rfl inX11 (by decide) (by decide) w_441 rfl rfl ?_
    refine lv_aload_n hF.1 hF.2.1 dX11_fair_32 rfl (lv_at hl 0 rfl) ?_
    refine q_get (v := .ref (E.2.2 99)) hF hU dX11_fair_33 0 11 0 1100 1199 rfl rfl rfl rfl inX11 (by decide) (by decide) w_436 rfl rfl ?_
    refine q_get (v := .ref (E.2.2 2)) hF hU dX11_fair_36 1 0 2 2 99 rfl rfl rfl rfl inX0 (by decide) (by decide) w_150 rfl rfl ?_
    refine lv_iload_n hF.1 hF.2.1 dX11_fair_39 rfl (lv_at hl 1 rfl) ?_
    obtain ⟨a_13, ha_13_14_e, ha_13_14⟩ := hI.r2 x (by rw [(hfr.1 10 (by decide))]; exact (g_X11_fair_k_v0 u x k P u_5 S_8 B_9 hk hca hz8 hz9 hz10 hz12 b5_4 hm_11 hm_12))
    refine q_aald (v := .ref a_13) hF hU dX11_fair_40 2 2 6 rfl rfl (by decide) rfl (g_X11_fair_k_v1 u x k P u_5 S_8 B_9 hk hca hz8 hz9 hz10 hz12 b5_4 hm_11 hm_12) (by rw [ha_13_14_e]; rfl) ?_
    have hK_15 : qKn k u_5 a_13 x := (hk.fr hfr (by decide) (by decide)).va (by rw [(hfr.1 10 (by decide))]; exact (g_X11_fair_k_v2 u x k P u_5 S_8 B_9 hk hca hz8 hz9 hz10 hz12 b5_4 hm_11 hm_12)) ha_13_14_e
    have hM9 := g_X3_fairScore l E A u_5 a_13 hI ((ha_13_14).rf)
    have hR9 := q_runV (l := l) (e := e0) (below := bl0) (meth := me0) (R := qR 12 1 6) (cells := 0) (slots := 0) (st0 := [.ref a_13, .ref (E.2.2 399)]) (rest := []) hF hU hS hA 1 6 3 399 rfl rfl rfl hM9 w_1276 w_1026 w_1027 w_105 w_1028 (by decide +kernel) ⟨Nat.le_of_ble_eq_true rfl, Nat.le_of_ble_eq_true rfl⟩ dX11_fair_41 rfl hl.1 rfl (Nat.le_of_ble_eq_true rfl) ⟨Nat.le_of_ble_eq_true rfl, Nat.le_of_ble_eq_true rfl⟩
    refine q_calli hR9 hU.2.2.2 hS (fun r_18 u_16 H locs hw_17 hU hS => ?_)
    obtain ⟨hw_17_e, hw_17⟩ := hw_17
    rw [hw_17_e] at hU
    refine vx_ret ?_
    refine W.widen (k := 1) (n := 6) (by decide) (by decide) ?_
    exact q_iret hF hr rfl hlocks hU hS dX11_fair_44 ⟨⟨hfr, hI⟩, hCA⟩
  · refine lv_if_ne (tgt := 21) hF.1 hF.2.1 dX11_fair_8 (by decide) (fun h9 => absurd (by decide) h9) (fun _ => ?_)
    exact q_throw hF hst hex hlocks hU hS hXs hXs.s240 hl.1 dX11_fair_11 dX11_fair_14 dX11_fair_15 dX11_fair_17 dX11_fair_20 (by decide) (Nat.le_of_ble_eq_true rfl) (Nat.le_of_ble_eq_true rfl) (Nat.le_of_ble_eq_true rfl) (⟨⟨hfr, hI⟩, hCA⟩)
set_option maxRecDepth 100000 in
theorem g_X11_lean_k_v0 (u : qS) (x : Int32) (k : qS) (P : Nat → Int32) (u_5 : qS) (S_8 : Nat → Int32) (B_9 : Nat → Int32) (hk : CT k P u) (hca : t_ca k u) (hz8 : 0 ≤ u.1 8 ∧ u.1 8 ≤ 20) (hz9 : 0 ≤ u.1 9 ∧ u.1 9 ≤ 8) (hz10 : 0 ≤ u.1 10 ∧ u.1 10 ≤ 120) (hz12 : 0 ≤ u.1 12 ∧ u.1 12 ≤ 16) (b5_4 : 0 ≤ x ∧ x < u.1 9) (hm_11 : f_fi (k) S_8) (hm_12 : m_R (k) B_9 (f_M (k)) (u_5.2.1 303) (u_5.2.1 304) (u_5.2.1 305)) : 0 ≤ x ∧ x < (u.1 9 : Int32) := by
  first | omega | ((try simp only [g_m1, Int32.lt_iff_toInt_lt, Int32.le_iff_toInt_le, ← Int32.toInt_inj, Int32.reduceToInt] at *); omega) | ((try simp only [g_m1, Int32.lt_iff_toInt_lt, Int32.le_iff_toInt_le, ← Int32.toInt_inj, Int32.reduceToInt] at *); omega) | ((try simp only [g_m1, Int32.lt_iff_toInt_lt, Int32.le_iff_toInt_le, ← Int32.toInt_inj, Int32.toInt_add, Int32.toInt_sub, Int32.toInt_mul, Int32.toInt_neg, Int32.reduceToInt, g_bm, g_bm'] at *); omega) | (have qr1 := g_rng x; (try simp only [g_m1, Int32.lt_iff_toInt_lt, Int32.le_iff_toInt_le, ← Int32.toInt_inj, Int32.toInt_add, Int32.toInt_sub, Int32.toInt_mul, Int32.toInt_neg, Int32.reduceToInt, g_bm, g_bm'] at *); omega) | (simp only [g_m1, Int32.lt_iff_toInt_lt, Int32.le_iff_toInt_le, ← Int32.toInt_inj, Int32.toInt_add, Int32.toInt_sub, Int32.toInt_mul, Int32.toInt_neg, Int32.reduceToInt, g_bm, g_bm'] at *; simp at *; omega) | (simp_all; done)
set_option maxRecDepth 100000 in
theorem g_X11_lean_k_v1 (u : qS) (x : Int32) (k : qS) (P : Nat → Int32) (u_5 : qS) (S_8 : Nat → Int32) (B_9 : Nat → Int32) (hk : CT k P u) (hca : t_ca k u) (hz8 : 0 ≤ u.1 8 ∧ u.1 8 ≤ 20) (hz9 : 0 ≤ u.1 9 ∧ u.1 9 ≤ 8) (hz10 : 0 ≤ u.1 10 ∧ u.1 10 ≤ 120) (hz12 : 0 ≤ u.1 12 ∧ u.1 12 ≤ 16) (b5_4 : 0 ≤ x ∧ x < u.1 9) (hm_11 : f_fi (k) S_8) (hm_12 : m_R (k) B_9 (f_M (k)) (u_5.2.1 303) (u_5.2.1 304) (u_5.2.1 305)) : 0 ≤ x ∧ x < (u.1 9 : Int32) := by
  first | omega | ((try simp only [g_m1, Int32.lt_iff_toInt_lt, Int32.le_iff_toInt_le, ← Int32.toInt_inj, Int32.reduceToInt] at *); omega) | ((try simp only [g_m1, Int32.lt_iff_toInt_lt, Int32.le_iff_toInt_le, ← Int32.toInt_inj, Int32.reduceToInt] at *); omega) | ((try simp only [g_m1, Int32.lt_iff_toInt_lt, Int32.le_iff_toInt_le, ← Int32.toInt_inj, Int32.toInt_add, Int32.toInt_sub, Int32.toInt_mul, Int32.toInt_neg, Int32.reduceToInt, g_bm, g_bm'] at *); omega) | (have qr1 := g_rng x; (try simp only [g_m1, Int32.lt_iff_toInt_lt, Int32.le_iff_toInt_le, ← Int32.toInt_inj, Int32.toInt_add, Int32.toInt_sub, Int32.toInt_mul, Int32.toInt_neg, Int32.reduceToInt, g_bm, g_bm'] at *); omega) | (simp only [g_m1, Int32.lt_iff_toInt_lt, Int32.le_iff_toInt_le, ← Int32.toInt_inj, Int32.toInt_add, Int32.toInt_sub, Int32.toInt_mul, Int32.toInt_neg, Int32.reduceToInt, g_bm, g_bm'] at *; simp at *; omega) | (simp_all; done)
set_option maxHeartbeats 1000000 in
set_option maxRecDepth 100000 in
theorem g_X11_lean_k (l : Launch) (hst : l.stackTraces = false) (E : qE) (A : Nat → Prop) (u : qS) (x : Int32) (k : qS) (P : Nat → Int32) (hI : IC E u) (hk : CT k P u) (hca : t_ca k u) : vx_Met l yX11_lean (uws yX11_lean cX11_lean 2 (some .int)) (qR 12 1 6) (qPx E A 0 u [.ref (E.2.2 1199), .int x]) (qQi E A 0 (fun r u1 => (qFc [900, 901, 902, 908, 909, 604, 605, 606, 607, 608, 609, 311] [905, 906, 907, 601, 602, 603, 303, 304, 305] [] [904, 5010, 5011, 5012, 5013, 5014] u u1 ∧ IC E u1) ∧ (t_ca k u1))) (qXC E A 0 (fun u1 => (qFc [900, 901, 902, 908, 909, 604, 605, 606, 607, 608, 609, 311] [905, 906, 907, 601, 602, 603, 303, 304, 305] [] [904, 5010, 5011, 5012, 5013, 5014] u u1 ∧ IC E u1) ∧ t_ca k u1)) 1 6 A := by
  refine q_metX (own := RX11) (f := 12) [.ref (E.2.2 1199), .int x] (by decide) (Nat.le_of_ble_eq_true rfl) rfl ?_
  intro p0 e0 s0 m0 bl0 me0 cd0 ls hF hr hlocks hex hXs hU hS hA hl
  have hl : lv_has ls 2 [(0, .ref (E.2.2 1199)), (1, .int x)] := hl
  have hz8 : 0 ≤ u.1 8 ∧ u.1 8 ≤ 20 := hI.1.s8
  have hz9 : 0 ≤ u.1 9 ∧ u.1 9 ≤ 8 := hI.1.s9
  have hz10 : 0 ≤ u.1 10 ∧ u.1 10 ≤ 120 := hI.1.s10
  have hz12 : 0 ≤ u.1 12 ∧ u.1 12 ≤ 16 := hI.1.s12
  have hfr : qFc [900, 901, 902, 908, 909, 604, 605, 606, 607, 608, 609, 311] [905, 906, 907, 601, 602, 603, 303, 304, 305] [] [904, 5010, 5011, 5012, 5013, 5014] u u := qFc.rf
  have hCA := hca
  refine lv_aload_n hF.1 hF.2.1 dX11_lean_0 rfl (lv_at hl 0 rfl) ?_
  refine q_get (v := .ref (E.2.2 99)) hF hU dX11_lean_1 0 11 0 1100 1199 rfl rfl rfl rfl inX11 (by decide) (by decide) w_436 rfl rfl ?_
  refine lv_iload_n hF.1 hF.2.1 dX11_lean_4 rfl (lv_at hl 1 rfl) ?_
  have hM9 := g_X0_hasBuyer l E A u x hI
  have hR9 := q_runV (l := l) (e := e0) (below := bl0) (meth := me0) (R := qR 12 1 6) (cells := 0) (slots := 0) (st0 := [.int x, .ref (E.2.2 99)]) (rest := []) hF hU hS hA 1 1 0 99 rfl rfl rfl hM9 w_568 w_569 w_570 w_100 w_571 (by decide +kernel) ⟨Nat.le_of_ble_eq_true rfl, Nat.le_of_ble_eq_true rfl⟩ dX11_lean_5 rfl hl.1 rfl (Nat.le_of_ble_eq_true rfl) ⟨Nat.le_of_ble_eq_true rfl, Nat.le_of_ble_eq_true rfl⟩
  refine q_calli hR9 hU.2.2.2 hS (fun r_3 u_1 H locs hw_2 hU hS => ?_)
  obtain ⟨hw_2_e, hw_2⟩ := hw_2
  rw [hw_2_e] at hU
  have hw_2 : (r_3 = 1 ∧ (0 ≤ x ∧ x < u.1 9)) ∨ (r_3 = 0 ∧ (¬ (0 ≤ x ∧ x < u.1 9))) := hw_2
  rcases hw_2 with ⟨rfl, b5_4⟩ | ⟨rfl, b5_4⟩
  · refine lv_if_ne (tgt := 21) hF.1 hF.2.1 dX11_lean_8 (by decide) (fun _ => ?_) (fun h9 => absurd h9 (by decide))
    refine lv_aload_n hF.1 hF.2.1 dX11_lean_21 rfl (lv_at hl 0 rfl) ?_
    refine q_get (v := .ref (E.2.2 399)) hF hU dX11_lean_22 0 11 5 1105 1199 rfl rfl rfl rfl inX11 (by decide) (by decide) w_441 rfl rfl ?_
    have hM9 := g_X3_refresh_k l E A u k P hI hk hCA
    have hR9 := q_runV (l := l) (e := e0) (below := bl0) (meth := me0) (R := qR 12 1 6) (cells := 0) (slots := 0) (st0 := [.ref (E.2.2 399)]) (rest := []) hF hU hS hA 0 6 3 399 rfl rfl rfl hM9 w_931 w_932 w_933 w_105 w_934 (by decide +kernel) ⟨Nat.le_of_ble_eq_true rfl, Nat.le_of_ble_eq_true rfl⟩ dX11_lean_25 rfl hl.1 rfl (Nat.le_of_ble_eq_true rfl) ⟨Nat.le_of_ble_eq_true rfl, Nat.le_of_ble_eq_true rfl⟩
    refine q_callv hR9 hU.2.2.2 hS (fun u_5 H locs hw_6 hU hS => ?_)
    obtain ⟨⟨hw_6_f, hI⟩, hw_6⟩ := hw_6
    have hfo := hfr
    have hfr : qFc [900, 901, 902, 908, 909, 604, 605, 606, 607, 608, 609, 311] [905, 906, 907, 601, 602, 603, 303, 304, 305] [] [904, 5010, 5011, 5012, 5013, 5014] u u_5 := hfr.trans (hw_6_f.mono (by decide) (by decide) (by decide) (by decide))
    have hCA := hw_6.1
    have hw_6 := hw_6.2
    obtain ⟨S_8, B_9, hST, hBT, hq_10⟩ := hw_6
    have hq_10 : f_fi (k) S_8 ∧ m_R (k) B_9 (f_M (k)) (u_5.2.1 303) (u_5.2.1 304) (u_5.2.1 305) := hq_10
    have hm_11 : f_fi (k) S_8 := hq_10.1
    have hm_12 : m_R (k) B_9 (f_M (k)) (u_5.2.1 303) (u_5.2.1 304) (u_5.2.1 305) := hq_10.2
    refine lv_aload_n hF.1 hF.2.1 dX11_lean_28 rfl (lv_at hl 0 rfl) ?_
    refine q_get (v := .ref (E.2.2 399)) hF hU dX11_lean_29 0 11 5 1105 1199 rfl rfl rfl rfl inX11 (by decide) (by decide) w_441 rfl rfl ?_
    refine lv_iload_n hF.1 hF.2.1 dX11_lean_32 rfl (lv_at hl 1 rfl) ?_
    have hM9 := g_X3_hasLean l E A u_5 x hI (by rw [(hfr.1 9 (by decide))]; exact (g_X11_lean_k_v0 u x k P u_5 S_8 B_9 hk hca hz8 hz9 hz10 hz12 b5_4 hm_11 hm_12))
    have hR9 := q_runV (l := l) (e := e0) (below := bl0) (meth := me0) (R := qR 12 1 6) (cells := 0) (slots := 0) (st0 := [.int x, .ref (E.2.2 399)]) (rest := []) hF hU hS hA 1 6 3 399 rfl rfl rfl hM9 w_1285 w_1286 w_1287 w_105 w_1288 (by decide +kernel) ⟨Nat.le_of_ble_eq_true rfl, Nat.le_of_ble_eq_true rfl⟩ dX11_lean_33 rfl hl.1 rfl (Nat.le_of_ble_eq_true rfl) ⟨Nat.le_of_ble_eq_true rfl, Nat.le_of_ble_eq_true rfl⟩
    refine q_calli hR9 hU.2.2.2 hS (fun r_15 u_13 H locs hw_14 hU hS => ?_)
    obtain ⟨hw_14_e, hw_14⟩ := hw_14
    rw [hw_14_e] at hU
    rcases hw_14 with rfl | rfl
    · refine lv_if_ne (tgt := 50) hF.1 hF.2.1 dX11_lean_36 (by decide) (fun _ => ?_) (fun h9 => absurd h9 (by decide))
      refine lv_aload_n hF.1 hF.2.1 dX11_lean_50 rfl (lv_at hl 0 rfl) ?_
      refine q_get (v := .ref (E.2.2 399)) hF hU dX11_lean_51 0 11 5 1105 1199 rfl rfl rfl rfl inX11 (by decide) (by decide) w_441 rfl rfl ?_
      refine lv_iload_n hF.1 hF.2.1 dX11_lean_54 rfl (lv_at hl 1 rfl) ?_
      have hM9 := g_X3_leanOf l E A u_5 x hI (by rw [(hfr.1 9 (by decide))]; exact (g_X11_lean_k_v1 u x k P u_5 S_8 B_9 hk hca hz8 hz9 hz10 hz12 b5_4 hm_11 hm_12))
      have hR9 := q_runV (l := l) (e := e0) (below := bl0) (meth := me0) (R := qR 12 1 6) (cells := 0) (slots := 0) (st0 := [.int x, .ref (E.2.2 399)]) (rest := []) hF hU hS hA 1 6 3 399 rfl rfl rfl hM9 w_1290 w_1030 w_1031 w_105 w_1032 (by decide +kernel) ⟨Nat.le_of_ble_eq_true rfl, Nat.le_of_ble_eq_true rfl⟩ dX11_lean_55 rfl hl.1 rfl (Nat.le_of_ble_eq_true rfl) ⟨Nat.le_of_ble_eq_true rfl, Nat.le_of_ble_eq_true rfl⟩
      refine q_calli hR9 hU.2.2.2 hS (fun r_19 u_17 H locs hw_18 hU hS => ?_)
      obtain ⟨hw_18_e, hw_18⟩ := hw_18
      rw [hw_18_e] at hU
      refine vx_ret ?_
      refine W.widen (k := 1) (n := 6) (by decide) (by decide) ?_
      exact q_iret hF hr rfl hlocks hU hS dX11_lean_58 ⟨⟨hfr, hI⟩, hCA⟩
    · refine lv_if_ne (tgt := 50) hF.1 hF.2.1 dX11_lean_36 (by decide) (fun h9 => absurd (by decide) h9) (fun _ => ?_)
      exact q_throwW hF hst hex hlocks hU hS hXs hXs.s259 hl.1 dX11_lean_39 dX11_lean_42 dX11_lean_43 dX11_lean_46 dX11_lean_49 (by decide) (Nat.le_of_ble_eq_true rfl) (Nat.le_of_ble_eq_true rfl) (Nat.le_of_ble_eq_true rfl) (⟨⟨hfr, hI⟩, hCA⟩)
  · refine lv_if_ne (tgt := 21) hF.1 hF.2.1 dX11_lean_8 (by decide) (fun h9 => absurd (by decide) h9) (fun _ => ?_)
    exact q_throw hF hst hex hlocks hU hS hXs hXs.s254 hl.1 dX11_lean_11 dX11_lean_14 dX11_lean_15 dX11_lean_17 dX11_lean_20 (by decide) (Nat.le_of_ble_eq_true rfl) (Nat.le_of_ble_eq_true rfl) (Nat.le_of_ble_eq_true rfl) (⟨⟨hfr, hI⟩, hCA⟩)
set_option maxRecDepth 100000 in
theorem g_X11_mean_k_v0 (u : qS) (x : Int32) (y : Int32) (z : Int32) (k : qS) (P : Nat → Int32) (u_1 : qS) (S_6 : Nat → Int32) (B_7 : Nat → Int32) (hk : CT k P u) (hca : t_ca k u) (hz8 : 0 ≤ u.1 8 ∧ u.1 8 ≤ 20) (hz9 : 0 ≤ u.1 9 ∧ u.1 9 ≤ 8) (hz10 : 0 ≤ u.1 10 ∧ u.1 10 ≤ 120) (hz12 : 0 ≤ u.1 12 ∧ u.1 12 ≤ 16) (hm_9 : f_fi (k) S_6) (hm_10 : m_R (k) B_7 (f_M (k)) (u_1.2.1 303) (u_1.2.1 304) (u_1.2.1 305)) : f_fi k S_6 := by
  first | omega | ((try simp only [g_m1, Int32.lt_iff_toInt_lt, Int32.le_iff_toInt_le, ← Int32.toInt_inj, Int32.reduceToInt] at *); omega) | ((try simp only [g_m1, Int32.lt_iff_toInt_lt, Int32.le_iff_toInt_le, ← Int32.toInt_inj, Int32.reduceToInt] at *); omega) | ((try simp only [g_m1, Int32.lt_iff_toInt_lt, Int32.le_iff_toInt_le, ← Int32.toInt_inj, Int32.toInt_add, Int32.toInt_sub, Int32.toInt_mul, Int32.toInt_neg, Int32.reduceToInt, g_bm, g_bm'] at *); omega) | (have qr1 := g_rng x; have qr2 := g_rng y; have qr3 := g_rng z; (try simp only [g_m1, Int32.lt_iff_toInt_lt, Int32.le_iff_toInt_le, ← Int32.toInt_inj, Int32.toInt_add, Int32.toInt_sub, Int32.toInt_mul, Int32.toInt_neg, Int32.reduceToInt, g_bm, g_bm'] at *); omega) | (simp only [g_m1, Int32.lt_iff_toInt_lt, Int32.le_iff_toInt_le, ← Int32.toInt_inj, Int32.toInt_add, Int32.toInt_sub, Int32.toInt_mul, Int32.toInt_neg, Int32.reduceToInt, g_bm, g_bm'] at *; simp at *; omega) | (simp_all; done)
set_option maxRecDepth 100000 in
theorem g_X11_mean_k_v1 (u : qS) (x : Int32) (y : Int32) (z : Int32) (k : qS) (P : Nat → Int32) (u_1 : qS) (S_6 : Nat → Int32) (B_7 : Nat → Int32) (u_11 : qS) (hk : CT k P u) (hca : t_ca k u) (hz8 : 0 ≤ u.1 8 ∧ u.1 8 ≤ 20) (hz9 : 0 ≤ u.1 9 ∧ u.1 9 ≤ 8) (hz10 : 0 ≤ u.1 10 ∧ u.1 10 ≤ 120) (hz12 : 0 ≤ u.1 12 ∧ u.1 12 ≤ 16) (hm_9 : f_fi (k) S_6) (hm_10 : m_R (k) B_7 (f_M (k)) (u_1.2.1 303) (u_1.2.1 304) (u_1.2.1 305)) (b11_35 : f_HM (k) x y z ∧ m_A (k) (fun _ => 1) y z (u_11.2.1 307) ((k).1 1247).toNatClampNeg) : 0 ≤ x ∧ x < (u.1 8 : Int32) := by
  first | assumption | (rw [hk.1.2.1]; exact b11_35.1.1)
set_option maxHeartbeats 1000000 in
set_option maxRecDepth 100000 in
theorem g_X11_mean_k (l : Launch) (hst : l.stackTraces = false) (E : qE) (A : Nat → Prop) (u : qS) (x : Int32) (y : Int32) (z : Int32) (k : qS) (P : Nat → Int32) (hI : IC E u) (hk : CT k P u) (hca : t_ca k u) : vx_Met l yX11_mean (uws yX11_mean cX11_mean 4 (some .int)) (qR 12 1 6) (qPx E A 0 u [.ref (E.2.2 1199), .int x, .int y, .int z]) (qQi E A 0 (fun r u1 => (qFc [900, 901, 902, 908, 909, 604, 605, 606, 607, 608, 609, 311] [905, 906, 907, 601, 602, 603, 303, 304, 305, 306, 307] [] [904, 5010, 5011, 5012, 5013, 5014] u u1 ∧ IC E u1) ∧ (t_ca k u1))) (qXC E A 0 (fun u1 => (qFc [900, 901, 902, 908, 909, 604, 605, 606, 607, 608, 609, 311] [905, 906, 907, 601, 602, 603, 303, 304, 305, 306, 307] [] [904, 5010, 5011, 5012, 5013, 5014] u u1 ∧ IC E u1) ∧ t_ca k u1)) 1 6 A := by
  refine q_metX (own := RX11) (f := 12) [.ref (E.2.2 1199), .int x, .int y, .int z] (by decide) (Nat.le_of_ble_eq_true rfl) rfl ?_
  intro p0 e0 s0 m0 bl0 me0 cd0 ls hF hr hlocks hex hXs hU hS hA hl
  have hl : lv_has ls 4 [(0, .ref (E.2.2 1199)), (1, .int x), (2, .int y), (3, .int z)] := hl
  have hz8 : 0 ≤ u.1 8 ∧ u.1 8 ≤ 20 := hI.1.s8
  have hz9 : 0 ≤ u.1 9 ∧ u.1 9 ≤ 8 := hI.1.s9
  have hz10 : 0 ≤ u.1 10 ∧ u.1 10 ≤ 120 := hI.1.s10
  have hz12 : 0 ≤ u.1 12 ∧ u.1 12 ≤ 16 := hI.1.s12
  have hfr : qFc [900, 901, 902, 908, 909, 604, 605, 606, 607, 608, 609, 311] [905, 906, 907, 601, 602, 603, 303, 304, 305, 306, 307] [] [904, 5010, 5011, 5012, 5013, 5014] u u := qFc.rf
  have hCA := hca
  refine lv_aload_n hF.1 hF.2.1 dX11_mean_0 rfl (lv_at hl 0 rfl) ?_
  refine q_get (v := .ref (E.2.2 399)) hF hU dX11_mean_1 0 11 5 1105 1199 rfl rfl rfl rfl inX11 (by decide) (by decide) w_441 rfl rfl ?_
  have hM9 := g_X3_refresh_k l E A u k P hI hk hCA
  have hR9 := q_runV (l := l) (e := e0) (below := bl0) (meth := me0) (R := qR 12 1 6) (cells := 0) (slots := 0) (st0 := [.ref (E.2.2 399)]) (rest := []) hF hU hS hA 0 6 3 399 rfl rfl rfl hM9 w_931 w_932 w_933 w_105 w_934 (by decide +kernel) ⟨Nat.le_of_ble_eq_true rfl, Nat.le_of_ble_eq_true rfl⟩ dX11_mean_4 rfl hl.1 rfl (Nat.le_of_ble_eq_true rfl) ⟨Nat.le_of_ble_eq_true rfl, Nat.le_of_ble_eq_true rfl⟩
  refine q_callv hR9 hU.2.2.2 hS (fun u_1 H locs hw_2 hU hS => ?_)
  obtain ⟨⟨hw_2_f, hI⟩, hw_2⟩ := hw_2
  have hfo := hfr
  have hfr : qFc [900, 901, 902, 908, 909, 604, 605, 606, 607, 608, 609, 311] [905, 906, 907, 601, 602, 603, 303, 304, 305, 306, 307] [] [904, 5010, 5011, 5012, 5013, 5014] u u_1 := hfr.trans (hw_2_f.mono (by decide) (by decide) (by decide) (by decide))
  have e_4 : u_1.2.1 306 = (u.2.1 306) := (hw_2_f.2.1 306 (by decide)).trans rfl
  have e_5 : u_1.2.1 307 = (u.2.1 307) := (hw_2_f.2.1 307 (by decide)).trans rfl
  have hCA := hw_2.1
  have hw_2 := hw_2.2
  obtain ⟨S_6, B_7, hST, hBT, hq_8⟩ := hw_2
  have hq_8 : f_fi (k) S_6 ∧ m_R (k) B_7 (f_M (k)) (u_1.2.1 303) (u_1.2.1 304) (u_1.2.1 305) := hq_8
  have hm_9 : f_fi (k) S_6 := hq_8.1
  have hm_10 : m_R (k) B_7 (f_M (k)) (u_1.2.1 303) (u_1.2.1 304) (u_1.2.1 305) := hq_8.2
  refine lv_aload_n hF.1 hF.2.1 dX11_mean_7 rfl (lv_at hl 0 rfl) ?_
  refine lv_iload_n hF.1 hF.2.1 dX11_mean_8 rfl (lv_at hl 1 rfl) ?_
  refine lv_iload_n hF.1 hF.2.1 dX11_mean_9 rfl (lv_at hl 2 rfl) ?_
  refine lv_iload_n hF.1 hF.2.1 dX11_mean_10 rfl (lv_at hl 3 rfl) ?_
  have hM9 := g_X11_hasMean_k l E A u_1 x y z k P S_6 hI (hk.fr hfr (by decide) (by decide)) hST (g_X11_mean_k_v0 u x y z k P u_1 S_6 B_7 hk hca hz8 hz9 hz10 hz12 hm_9 hm_10)
  have hR9 := q_runV (l := l) (e := e0) (below := bl0) (meth := me0) (R := qR 12 1 6) (cells := 0) (slots := 0) (st0 := [.int z, .int y, .int x, .ref (E.2.2 1199)]) (rest := []) hF hU hS hA 3 0 11 1199 rfl rfl rfl hM9 w_1013 w_1015 w_35 w_99 w_1016 (by decide +kernel) ⟨Nat.le_of_ble_eq_true rfl, Nat.le_of_ble_eq_true rfl⟩ dX11_mean_11 rfl hl.1 rfl (Nat.le_of_ble_eq_true rfl) ⟨Nat.le_of_ble_eq_true rfl, Nat.le_of_ble_eq_true rfl⟩
  refine q_calli hR9 hU.2.2.2 hS (fun r_13 u_11 H locs hw_12 hU hS => ?_)
  obtain ⟨⟨hw_12_f, hI, hw_12_d⟩, hw_12⟩ := hw_12
  have hfo := hfr
  have hfr : qFc [900, 901, 902, 908, 909, 604, 605, 606, 607, 608, 609, 311] [905, 906, 907, 601, 602, 603, 303, 304, 305, 306, 307] [] [904, 5010, 5011, 5012, 5013, 5014] u u_11 := hfr.trans (hw_12_f.mono (by decide) (by decide) (by decide) (by decide))
  have e_14 : u_11.1 311 = (u_1.1 311) := (hw_12_f.1 311 (by decide)).trans rfl
  have e_15 : u_11.1 604 = (u_1.1 604) := (hw_12_f.1 604 (by decide)).trans rfl
  have e_16 : u_11.1 605 = (u_1.1 605) := (hw_12_f.1 605 (by decide)).trans rfl
  have e_17 : u_11.1 606 = (u_1.1 606) := (hw_12_f.1 606 (by decide)).trans rfl
  have e_18 : u_11.1 607 = (u_1.1 607) := (hw_12_f.1 607 (by decide)).trans rfl
  have e_19 : u_11.1 608 = (u_1.1 608) := (hw_12_f.1 608 (by decide)).trans rfl
  have e_20 : u_11.1 609 = (u_1.1 609) := (hw_12_f.1 609 (by decide)).trans rfl
  have e_21 : u_11.1 900 = (u_1.1 900) := (hw_12_f.1 900 (by decide)).trans rfl
  have e_22 : u_11.1 901 = (u_1.1 901) := (hw_12_f.1 901 (by decide)).trans rfl
  have e_23 : u_11.1 902 = (u_1.1 902) := (hw_12_f.1 902 (by decide)).trans rfl
  have e_24 : u_11.1 908 = (u_1.1 908) := (hw_12_f.1 908 (by decide)).trans rfl
  have e_25 : u_11.1 909 = (u_1.1 909) := (hw_12_f.1 909 (by decide)).trans rfl
  have e_26 : u_11.2.1 303 = (u_1.2.1 303) := (hw_12_f.2.1 303 (by decide)).trans rfl
  have e_27 : u_11.2.1 304 = (u_1.2.1 304) := (hw_12_f.2.1 304 (by decide)).trans rfl
  have e_28 : u_11.2.1 305 = (u_1.2.1 305) := (hw_12_f.2.1 305 (by decide)).trans rfl
  have e_29 : u_11.2.1 601 = (u_1.2.1 601) := (hw_12_f.2.1 601 (by decide)).trans rfl
  have e_30 : u_11.2.1 602 = (u_1.2.1 602) := (hw_12_f.2.1 602 (by decide)).trans rfl
  have e_31 : u_11.2.1 603 = (u_1.2.1 603) := (hw_12_f.2.1 603 (by decide)).trans rfl
  have e_32 : u_11.2.1 905 = (u_1.2.1 905) := (hw_12_f.2.1 905 (by decide)).trans rfl
  have e_33 : u_11.2.1 906 = (u_1.2.1 906) := (hw_12_f.2.1 906 (by decide)).trans rfl
  have e_34 : u_11.2.1 907 = (u_1.2.1 907) := (hw_12_f.2.1 907 (by decide)).trans rfl
  have hCA : t_ca k u_11 := hCA.fr hw_12_f (by decide) (by decide) (by decide)
  have hST : qFD 10 S_6 u_11 := hST.fr hw_12_f (by decide) (by decide) (by decide) (by decide) (by decide)
  have hBT : qFD 11 B_7 u_11 := hBT.fr hw_12_f (by decide) (by decide) (by decide) (by decide) (by decide)
  have hw_12 : (r_13 = 1 ∧ (f_HM (k) x y z ∧ m_A (k) (fun _ => 1) y z (u_11.2.1 307) ((k).1 1247).toNatClampNeg)) ∨ (r_13 = 0 ∧ (¬ f_HM (k) x y z)) := hw_12
  rcases hw_12 with ⟨rfl, b11_35⟩ | ⟨rfl, b11_35⟩
  · refine lv_if_ne (tgt := 28) hF.1 hF.2.1 dX11_mean_14 (by decide) (fun _ => ?_) (fun h9 => absurd h9 (by decide))
    refine lv_aload_n hF.1 hF.2.1 dX11_mean_28 rfl (lv_at hl 0 rfl) ?_
    refine q_get (v := .ref (E.2.2 399)) hF hU dX11_mean_29 0 11 5 1105 1199 rfl rfl rfl rfl inX11 (by decide) (by decide) w_441 rfl rfl ?_
    refine lv_iload_n hF.1 hF.2.1 dX11_mean_32 rfl (lv_at hl 1 rfl) ?_
    have hM9 := g_X3_meanOf l E A u_11 x hI (by rw [(hfr.1 8 (by decide))]; exact (g_X11_mean_k_v1 u x y z k P u_1 S_6 B_7 u_11 hk hca hz8 hz9 hz10 hz12 hm_9 hm_10 b11_35))
    have hR9 := q_runV (l := l) (e := e0) (below := bl0) (meth := me0) (R := qR 12 1 6) (cells := 0) (slots := 0) (st0 := [.int x, .ref (E.2.2 399)]) (rest := []) hF hU hS hA 1 6 3 399 rfl rfl rfl hM9 w_1085 w_1050 w_1051 w_105 w_1052 (by decide +kernel) ⟨Nat.le_of_ble_eq_true rfl, Nat.le_of_ble_eq_true rfl⟩ dX11_mean_33 rfl hl.1 rfl (Nat.le_of_ble_eq_true rfl) ⟨Nat.le_of_ble_eq_true rfl, Nat.le_of_ble_eq_true rfl⟩
    refine q_calli hR9 hU.2.2.2 hS (fun r_38 u_36 H locs hw_37 hU hS => ?_)
    obtain ⟨hw_37_e, hw_37⟩ := hw_37
    rw [hw_37_e] at hU
    refine vx_ret ?_
    refine W.widen (k := 1) (n := 6) (by decide) (by decide) ?_
    exact q_iret hF hr rfl hlocks hU hS dX11_mean_36 ⟨⟨hfr, hI⟩, hCA⟩
  · refine lv_if_ne (tgt := 28) hF.1 hF.2.1 dX11_mean_14 (by decide) (fun h9 => absurd (by decide) h9) (fun _ => ?_)
    exact q_throwW hF hst hex hlocks hU hS hXs hXs.s271 hl.1 dX11_mean_17 dX11_mean_20 dX11_mean_21 dX11_mean_24 dX11_mean_27 (by decide) (Nat.le_of_ble_eq_true rfl) (Nat.le_of_ble_eq_true rfl) (Nat.le_of_ble_eq_true rfl) (⟨⟨hfr, hI⟩, hCA⟩)
