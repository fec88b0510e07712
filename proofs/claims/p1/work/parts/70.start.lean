theorem w_known {args : Array Value} {s : State} (hts : ∀ w ∈ qw_tbl, w.before args s = true) : ∃ (dC : Nat → ClassId) (dI : Nat → Nat → Nat), ∀ (k : Nat) (q : vw_C), vwCl[k]? = some q → u_Kn s q.1 q.2.1 q.2.2 (dC k) (dI k) := by
  obtain ⟨c0, i0, h0⟩ := u_known (C := RX0) (T := TX0) (N := 19) (n := 19) hts inX0 (hts (.instantiable RX0 19) w_129)
  obtain ⟨c1, i1, h1⟩ := u_known (C := RX1) (T := TX1) (N := 4) (n := 4) hts inX1 (hts (.instantiable RX1 4) w_793)
  obtain ⟨c2, i2, h2⟩ := u_known (C := RX2) (T := TX2) (N := 5) (n := 5) hts inX2 (hts (.instantiable RX2 5) w_415)
  obtain ⟨c3, i3, h3⟩ := u_known (C := RX3) (T := TX3) (N := 12) (n := 12) hts inX3 (hts (.instantiable RX3 12) w_372)
  obtain ⟨c4, i4, h4⟩ := u_known (C := RX4) (T := TX4) (N := 2) (n := 2) hts inX4 (hts (.instantiable RX4 2) w_503)
  obtain ⟨c5, i5, h5⟩ := u_known (C := RX5) (T := TX5) (N := 6) (n := 6) hts inX5 (hts (.instantiable RX5 6) w_267)
  obtain ⟨c6, i6, h6⟩ := u_known (C := RX6) (T := TX6) (N := 10) (n := 10) hts inX6 (hts (.instantiable RX6 10) w_335)
  obtain ⟨c7, i7, h7⟩ := u_known (C := RX7) (T := TX7) (N := 5) (n := 5) hts inX7 (hts (.instantiable RX7 5) w_501)
  obtain ⟨c8, i8, h8⟩ := u_known (C := RX8) (T := TX8) (N := 7) (n := 7) hts inX8 (hts (.instantiable RX8 7) w_233)
  obtain ⟨c9, i9, h9⟩ := u_known (C := RX9) (T := TX9) (N := 10) (n := 10) hts inX9 (hts (.instantiable RX9 10) w_293)
  obtain ⟨c10, i10, h10⟩ := u_known (C := RX10) (T := TX10) (N := 15) (n := 15) hts inX10 (hts (.instantiable RX10 15) w_577)
  obtain ⟨c11, i11, h11⟩ := u_known (C := RX11) (T := TX11) (N := 9) (n := 9) hts inX11 (hts (.instantiable RX11 9) w_121)
  obtain ⟨c12, i12, h12⟩ := u_known (C := RX12) (T := TX12) (N := 81) (n := 81) hts inX12 (hts (.instantiable RX12 81) w_1310)
  refine ⟨fun k => [c0, c1, c2, c3, c4, c5, c6, c7, c8, c9, c10, c11, c12].getD k c0, fun k => [i0, i1, i2, i3, i4, i5, i6, i7, i8, i9, i10, i11, i12].getD k i0, ?_⟩
  intro k q hq
  match k, hq with
  | 0, hq => cases hq; exact h0
  | 1, hq => cases hq; exact h1
  | 2, hq => cases hq; exact h2
  | 3, hq => cases hq; exact h3
  | 4, hq => cases hq; exact h4
  | 5, hq => cases hq; exact h5
  | 6, hq => cases hq; exact h6
  | 7, hq => cases hq; exact h7
  | 8, hq => cases hq; exact h8
  | 9, hq => cases hq; exact h9
  | 10, hq => cases hq; exact h10
  | 11, hq => cases hq; exact h11
  | 12, hq => cases hq; exact h12
  | k + 13, hq => simp [vwCl] at hq

theorem w_kinds {args : Array Value} {s : State} (hts : ∀ w ∈ lw_tbl, w.before args s = true) : ∃ ka : Nat → ClassId, ∀ (D : va_G) (ad : Nat → Nat) (k : Nat) (q : ClassId × FieldType), (qT (D, ka, ad))[k]? = some q → ArrOfT s q.1 q.2 ∧ va_RA s q.1 q.2 := by
  obtain ⟨a0, b0, p0, x0, y0, z0⟩ := Cond.arrayClass_spec (hts _ (qw_in w_231))
  obtain ⟨a1, b1, p1, x1, y1, z1⟩ := Cond.arrayClass_spec (hts _ (qw_in w_333))
  obtain ⟨a2, b2, p2, x2, y2, z2⟩ := Cond.arrayClass_spec (hts _ (qw_in w_265))
  obtain ⟨a3, b3, p3, x3, y3, z3⟩ := Cond.arrayClass_spec (hts _ (qw_in w_291))
  obtain ⟨p4, a4, b4, f4, -, y4, z4, x4⟩ := Cond.arrayOver_spec (hts _ w_135)
  obtain ⟨p5, a5, b5, f5, -, y5, z5, x5⟩ := Cond.arrayOver_spec (hts _ w_137)
  obtain ⟨p6, a6, b6, f6, -, y6, z6, x6⟩ := Cond.arrayOver_spec (hts _ w_139)
  obtain ⟨p7, a7, b7, f7, -, y7, z7, x7⟩ := Cond.arrayOver_spec (hts _ w_141)
  refine ⟨fun k => [a0, a1, a2, a3, a4, a5, a6, a7].getD k a0, ?_⟩
  intro D ad k q hq
  match k, hq with
  | 0, hq => cases hq; exact ⟨fun n z => ⟨fun k h => (by cases h), b0, y0, p0, z0⟩, x0⟩
  | 1, hq => cases hq; exact ⟨fun n z => ⟨fun k h => (by cases h), b1, y1, p1, z1⟩, x1⟩
  | 2, hq => cases hq; exact ⟨fun n z => ⟨fun k h => (by cases h), b2, y2, p2, z2⟩, x2⟩
  | 3, hq => cases hq; exact ⟨fun n z => ⟨fun k h => (by cases h), b3, y3, p3, z3⟩, x3⟩
  | 4, hq => cases hq; exact ⟨fun n z => ⟨fun k h => (by cases h), b4, y4, p4, z4⟩, b4, p4, y4, z4, f4, x4⟩
  | 5, hq => cases hq; exact ⟨fun n z => ⟨fun k h => (by cases h), b5, y5, p5, z5⟩, b5, p5, y5, z5, f5, x5⟩
  | 6, hq => cases hq; exact ⟨fun n z => ⟨fun k h => (by cases h), b6, y6, p6, z6⟩, b6, p6, y6, z6, f6, x6⟩
  | 7, hq => cases hq; exact ⟨fun n z => ⟨fun k h => (by cases h), b7, y7, p7, z7⟩, b7, p7, y7, z7, f7, x7⟩
  | k + 8, hq => simp [qT] at hq

set_option maxHeartbeats 1000000 in
set_option maxRecDepth 100000 in
theorem l_mid {p : Program} {e : Env} {s : State} {m : MethodId} {below : List Frame} {meth : Method} {c : Code} (l : Launch) {b L : Nat} {xs : Nat → Int32} (hL : L ≤ 8) (C0 : lw_At p s m meth c b L xs) (hst : l.stackTraces = false) (E : qE) (u v : qS) {H : Heap} {locs : List Loc} {ls : Array Slot} {o : Nat} (hK : va_K E.1 vwCl (qT E) s) (hN : qNs s) (hP : va_P E.1 vwCl (qW E 0 u ++ qW E 1 v) H) (hD : va_D (fun q : Nat => s.heap.size ≤ q) (qW E 0 u ++ qW E 1 v)) (hS : va_S (fun q : Nat => s.heap.size ≤ q) s.heap H locs) (hXs : qXs (fun q : Nat => s.heap.size ≤ q) s H) (hl : lv_has ls 7 [(4, .int 0), (3, .ref o), (2, .ref (E.2.2 1299)), (1, .ref (E.2.2 1199)), (0, .ref b)]) (hfr : l_fresh u v) : W p l e room_1 s m #[Value.ref b] below meth c H locs 92 111496 (lw_Z below #[Value.ref b] s) (F0 m 23 ls []) := by
  obtain ⟨hx, hb, hr, hml, hown, hts, hX, hbl, hlocks, hgv⟩ := id C0
  have hbA : ¬ (fun q : Nat => s.heap.size ≤ q) b := Nat.not_le.mpr hbl
  refine lv_iload hx hb dL_law_23 (lv_at hl 0 rfl) ?_
  refine lv_aload_n hx hb dL_law_25 rfl (lv_at hl 4 rfl) ?_
  refine va_slen hx hb hX hbl hbA hS dL_law_26 ?_
  refine lv_bipush (v := 8) hx hb dL_law_27 (by decide) ?_
  refine lv_isub hx hb dL_law_29 ?_
  by_cases h8 : L = 8
  · subst h8
    refine lv_icmp_gt (tgt := 1653) hx hb dL_law_30 (by decide) (fun h9 => absurd h9 (by decide)) (fun _ => ?_)
    refine lv_aload_n hx hb dL_law_33 rfl (lv_at hl 4 rfl) ?_
    refine lv_iload hx hb dL_law_34 (lv_at hl 0 rfl) ?_
    refine va_sld hx hb hX hbl hbA hS (q_in (by decide)) dL_law_36 ?_
    refine lv_bipush (v := 31) hx hb dL_law_37 (by decide) ?_
    refine lv_iand hx hb dL_law_39 ?_
    rcases q_sw0_26 (xs (0 : Int32).toNatClampNeg &&& 31) with h | h | h | h | h | h | h | h | h | h | h | h | h | h | h | h | h | h | h | h | h | h | h | h | h | h | h | h
    · refine lv_tableIn (off := 124) (tgt := 164) hx hb dL_law_40 (by rw [h]; decide) (by rw [h]; decide) (by rw [h]; rfl) (by decide) ?_
      exact l_case0 l C0 hst E u v hK hN hP hD hS hXs hl hfr
    · refine lv_tableIn (off := 149) (tgt := 189) hx hb dL_law_40 (by rw [h]; decide) (by rw [h]; decide) (by rw [h]; rfl) (by decide) ?_
      exact l_case1 l C0 hst E u v hK hN hP hD hS hXs hl hfr
    · refine lv_tableIn (off := 174) (tgt := 214) hx hb dL_law_40 (by rw [h]; decide) (by rw [h]; decide) (by rw [h]; rfl) (by decide) ?_
      exact l_case2 l C0 hst E u v hK hN hP hD hS hXs hl hfr
    · refine lv_tableIn (off := 277) (tgt := 317) hx hb dL_law_40 (by rw [h]; decide) (by rw [h]; decide) (by rw [h]; rfl) (by decide) ?_
      exact l_case3 l C0 hst E u v hK hN hP hD hS hXs hl hfr
    · refine lv_tableIn (off := 314) (tgt := 354) hx hb dL_law_40 (by rw [h]; decide) (by rw [h]; decide) (by rw [h]; rfl) (by decide) ?_
      exact l_case4 l C0 hst E u v hK hN hP hD hS hXs hl hfr
    · refine lv_tableIn (off := 363) (tgt := 403) hx hb dL_law_40 (by rw [h]; decide) (by rw [h]; decide) (by rw [h]; rfl) (by decide) ?_
      exact l_case5 l C0 hst E u v hK hN hP hD hS hXs hl hfr
    · refine lv_tableIn (off := 400) (tgt := 440) hx hb dL_law_40 (by rw [h]; decide) (by rw [h]; decide) (by rw [h]; rfl) (by decide) ?_
      exact l_case6 l C0 hst E u v hK hN hP hD hS hXs hl hfr
    · refine lv_tableIn (off := 501) (tgt := 541) hx hb dL_law_40 (by rw [h]; decide) (by rw [h]; decide) (by rw [h]; rfl) (by decide) ?_
      exact l_case7 l C0 hst E u v hK hN hP hD hS hXs hl hfr
    · refine lv_tableIn (off := 538) (tgt := 578) hx hb dL_law_40 (by rw [h]; decide) (by rw [h]; decide) (by rw [h]; rfl) (by decide) ?_
      exact l_case8 l C0 hst E u v hK hN hP hD hS hXs hl hfr
    · refine lv_tableIn (off := 685) (tgt := 725) hx hb dL_law_40 (by rw [h]; decide) (by rw [h]; decide) (by rw [h]; rfl) (by decide) ?_
      exact l_case9 l C0 hst E u v hK hN hP hD hS hXs hl hfr
    · refine lv_tableIn (off := 722) (tgt := 762) hx hb dL_law_40 (by rw [h]; decide) (by rw [h]; decide) (by rw [h]; rfl) (by decide) ?_
      exact l_case10 l C0 hst E u v hK hN hP hD hS hXs hl hfr
    · refine lv_tableIn (off := 790) (tgt := 830) hx hb dL_law_40 (by rw [h]; decide) (by rw [h]; decide) (by rw [h]; rfl) (by decide) ?_
      exact l_case11 l C0 hst E u v hK hN hP hD hS hXs hl hfr
    · refine lv_tableIn (off := 846) (tgt := 886) hx hb dL_law_40 (by rw [h]; decide) (by rw [h]; decide) (by rw [h]; rfl) (by decide) ?_
      exact l_case12 l C0 hst E u v hK hN hP hD hS hXs hl hfr
    · refine lv_tableIn (off := 883) (tgt := 923) hx hb dL_law_40 (by rw [h]; decide) (by rw [h]; decide) (by rw [h]; rfl) (by decide) ?_
      exact l_case13 l C0 hst E u v hK hN hP hD hS hXs hl hfr
    · refine lv_tableIn (off := 932) (tgt := 972) hx hb dL_law_40 (by rw [h]; decide) (by rw [h]; decide) (by rw [h]; rfl) (by decide) ?_
      exact l_case14 l C0 hst E u v hK hN hP hD hS hXs hl hfr
    · refine lv_tableIn (off := 988) (tgt := 1028) hx hb dL_law_40 (by rw [h]; decide) (by rw [h]; decide) (by rw [h]; rfl) (by decide) ?_
      exact l_case15 l C0 hst E u v hK hN hP hD hS hXs hl hfr
    · refine lv_tableIn (off := 1025) (tgt := 1065) hx hb dL_law_40 (by rw [h]; decide) (by rw [h]; decide) (by rw [h]; rfl) (by decide) ?_
      exact l_case16 l C0 hst E u v hK hN hP hD hS hXs hl hfr
    · refine lv_tableIn (off := 1105) (tgt := 1145) hx hb dL_law_40 (by rw [h]; decide) (by rw [h]; decide) (by rw [h]; rfl) (by decide) ?_
      exact l_case17 l C0 hst E u v hK hN hP hD hS hXs hl hfr
    · refine lv_tableIn (off := 1154) (tgt := 1194) hx hb dL_law_40 (by rw [h]; decide) (by rw [h]; decide) (by rw [h]; rfl) (by decide) ?_
      exact l_case18 l C0 hst E u v hK hN hP hD hS hXs hl hfr
    · refine lv_tableIn (off := 1215) (tgt := 1255) hx hb dL_law_40 (by rw [h]; decide) (by rw [h]; decide) (by rw [h]; rfl) (by decide) ?_
      exact l_case19 l C0 hst E u v hK hN hP hD hS hXs hl hfr
    · refine lv_tableIn (off := 1276) (tgt := 1316) hx hb dL_law_40 (by rw [h]; decide) (by rw [h]; decide) (by rw [h]; rfl) (by decide) ?_
      exact l_case20 l C0 hst E u v hK hN hP hD hS hXs hl hfr
    · refine lv_tableIn (off := 1337) (tgt := 1377) hx hb dL_law_40 (by rw [h]; decide) (by rw [h]; decide) (by rw [h]; rfl) (by decide) ?_
      exact l_case21 l C0 hst E u v hK hN hP hD hS hXs hl hfr
    · refine lv_tableIn (off := 1386) (tgt := 1426) hx hb dL_law_40 (by rw [h]; decide) (by rw [h]; decide) (by rw [h]; rfl) (by decide) ?_
      exact l_case22 l C0 hst E u v hK hN hP hD hS hXs hl hfr
    · refine lv_tableIn (off := 1435) (tgt := 1475) hx hb dL_law_40 (by rw [h]; decide) (by rw [h]; decide) (by rw [h]; rfl) (by decide) ?_
      exact l_case23 l C0 hst E u v hK hN hP hD hS hXs hl hfr
    · refine lv_tableIn (off := 1484) (tgt := 1524) hx hb dL_law_40 (by rw [h]; decide) (by rw [h]; decide) (by rw [h]; rfl) (by decide) ?_
      exact l_case24 l C0 hst E u v hK hN hP hD hS hXs hl hfr
    · refine lv_tableIn (off := 1521) (tgt := 1561) hx hb dL_law_40 (by rw [h]; decide) (by rw [h]; decide) (by rw [h]; rfl) (by decide) ?_
      exact l_case25 l C0 hst E u v hK hN hP hD hS hXs hl hfr
    · refine lv_tableIn (off := 1582) (tgt := 1622) hx hb dL_law_40 (by rw [h]; decide) (by rw [h]; decide) (by rw [h]; rfl) (by decide) ?_
      exact l_case26 l C0 hst E u v hK hN hP hD hS hXs hl hfr
    · refine lv_tableOut (tgt := 1647) hx hb dL_law_40 h (by decide) ?_
      exact l_exit l C0 hS (lv_sub hl [0, 4] rfl) (Nat.le_of_ble_eq_true rfl) (Nat.le_of_ble_eq_true rfl)
  · have hlt : L < 8 := by omega
    have hneg : (Int32.ofNat L - 8 : Int32) < 0 := by
      rcases (by omega : L = 0 ∨ L = 1 ∨ L = 2 ∨ L = 3 ∨ L = 4 ∨ L = 5 ∨ L = 6 ∨ L = 7) with rfl | rfl | rfl | rfl | rfl | rfl | rfl | rfl <;> decide
    refine lv_icmp_gt (tgt := 1653) hx hb dL_law_30 (by decide) (fun _ => ?_) (fun h9 => absurd hneg h9)
    refine lv_iconst (v := 1) hx hb dL_law_1653 (by decide) ?_
    refine va_forget (fun q h => hS.2.2 q h) ?_
    refine W.widen (k := 600002) (n := 7302232) (Nat.le_of_ble_eq_true rfl) (Nat.le_of_ble_eq_true rfl) ?_
    exact lw_ret hx hb hr hlocks dL_law_1654
