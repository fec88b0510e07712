set_option maxRecDepth 100000 in
theorem g_X10_goes_v0 (u : qS) (o : Nat) (x : Int32) (y : Int32) (z : Int32) (a : Int32) (b : Int32) (dd : Nat) (fs : List Value) (hx : 0 ≤ x ∧ x < u.1 8) (hy : 0 ≤ y ∧ y < u.1 9) (hd0 : u.2.2.2.2[dd]? = some (o, .inr (10, fs))) (hz8 : 0 ≤ u.1 8 ∧ u.1 8 ≤ 20) (hz9 : 0 ≤ u.1 9 ∧ u.1 9 ≤ 8) (hz10 : 0 ≤ u.1 10 ∧ u.1 10 ≤ 120) (hz12 : 0 ≤ u.1 12 ∧ u.1 12 ≤ 16) : 0 ≤ (x : Int32) ∧ (x : Int32) < (u.1 8) := by
  first | omega | ((try simp only [g_m1, Int32.lt_iff_toInt_lt, Int32.le_iff_toInt_le, ← Int32.toInt_inj, Int32.reduceToInt] at *); omega) | ((try simp only [g_m1, Int32.lt_iff_toInt_lt, Int32.le_iff_toInt_le, ← Int32.toInt_inj, Int32.reduceToInt] at *); omega) | ((try simp only [g_m1, Int32.lt_iff_toInt_lt, Int32.le_iff_toInt_le, ← Int32.toInt_inj, Int32.toInt_add, Int32.toInt_sub, Int32.toInt_mul, Int32.toInt_neg, Int32.reduceToInt, g_bm, g_bm'] at *); omega) | (have qr2 := g_rng x; have qr3 := g_rng y; have qr4 := g_rng z; have qr5 := g_rng a; have qr6 := g_rng b; (try simp only [g_m1, Int32.lt_iff_toInt_lt, Int32.le_iff_toInt_le, ← Int32.toInt_inj, Int32.toInt_add, Int32.toInt_sub, Int32.toInt_mul, Int32.toInt_neg, Int32.reduceToInt, g_bm, g_bm'] at *); omega) | (simp only [g_m1, Int32.lt_iff_toInt_lt, Int32.le_iff_toInt_le, ← Int32.toInt_inj, Int32.toInt_add, Int32.toInt_sub, Int32.toInt_mul, Int32.toInt_neg, Int32.reduceToInt, g_bm, g_bm'] at *; simp at *; omega) | (simp_all; done)
set_option maxRecDepth 100000 in
theorem g_X10_goes_v1 (u : qS) (o : Nat) (x : Int32) (y : Int32) (z : Int32) (a : Int32) (b : Int32) (dd : Nat) (fs : List Value) (hx : 0 ≤ x ∧ x < u.1 8) (hy : 0 ≤ y ∧ y < u.1 9) (hd0 : u.2.2.2.2[dd]? = some (o, .inr (10, fs))) (hz8 : 0 ≤ u.1 8 ∧ u.1 8 ≤ 20) (hz9 : 0 ≤ u.1 9 ∧ u.1 9 ≤ 8) (hz10 : 0 ≤ u.1 10 ∧ u.1 10 ≤ 120) (hz12 : 0 ≤ u.1 12 ∧ u.1 12 ≤ 16) : 0 ≤ (y : Int32) ∧ (y : Int32) < (u.1 9) := by
  first | omega | ((try simp only [g_m1, Int32.lt_iff_toInt_lt, Int32.le_iff_toInt_le, ← Int32.toInt_inj, Int32.reduceToInt] at *); omega) | ((try simp only [g_m1, Int32.lt_iff_toInt_lt, Int32.le_iff_toInt_le, ← Int32.toInt_inj, Int32.reduceToInt] at *); omega) | ((try simp only [g_m1, Int32.lt_iff_toInt_lt, Int32.le_iff_toInt_le, ← Int32.toInt_inj, Int32.toInt_add, Int32.toInt_sub, Int32.toInt_mul, Int32.toInt_neg, Int32.reduceToInt, g_bm, g_bm'] at *); omega) | (have qr2 := g_rng x; have qr3 := g_rng y; have qr4 := g_rng z; have qr5 := g_rng a; have qr6 := g_rng b; (try simp only [g_m1, Int32.lt_iff_toInt_lt, Int32.le_iff_toInt_le, ← Int32.toInt_inj, Int32.toInt_add, Int32.toInt_sub, Int32.toInt_mul, Int32.toInt_neg, Int32.reduceToInt, g_bm, g_bm'] at *); omega) | (simp only [g_m1, Int32.lt_iff_toInt_lt, Int32.le_iff_toInt_le, ← Int32.toInt_inj, Int32.toInt_add, Int32.toInt_sub, Int32.toInt_mul, Int32.toInt_neg, Int32.reduceToInt, g_bm, g_bm'] at *; simp at *; omega) | (simp_all; done)
set_option maxHeartbeats 1000000 in
set_option maxRecDepth 100000 in
theorem g_X10_goes (l : Launch) (E : qE) (A : Nat → Prop) (u : qS) (o : Nat) (x : Int32) (y : Int32) (z : Int32) (a : Int32) (b : Int32) (dd : Nat) (fs : List Value) (hI : IC E u) (ho : qRf u o 10) (hx : 0 ≤ x ∧ x < u.1 8) (hy : 0 ≤ y ∧ y < u.1 9) (hd0 : u.2.2.2.2[dd]? = some (o, .inr (10, fs))) : Met l yX10_goes (uws yX10_goes cX10_goes 6 none) (qR 0 0 0) (qPc E A 0 u [.ref o, .int x, .int y, .int z, .int a, .int b]) (qQv E A 0 (fun u1 => (qFc [] [] [] [5000] u u1 ∧ IC E u1) ∧ (u1.2.2.2.2[dd]? = some (o, .inr (10, (((((fs).set 2 (.int (x))).set 3 (.int (y))).set 4 (.int (z))).set 5 (.int (a))).set 6 (.int (b)))) ∧ ∀ k9 : Nat, dd ≠ k9 → u1.2.2.2.2[k9]? = u.2.2.2.2[k9]?))) 0 0 A := by
  refine q_met (own := RX10) (f := 0) [.ref o, .int x, .int y, .int z, .int a, .int b] (by decide) (Nat.le_of_ble_eq_true rfl) rfl ?_
  intro p0 e0 s0 m0 bl0 me0 cd0 ls hF hr hlocks hU hS hA hl
  have hl : lv_has ls 6 [(0, .ref o), (1, .int x), (2, .int y), (3, .int z), (4, .int a), (5, .int b)] := hl
  have hz8 : 0 ≤ u.1 8 ∧ u.1 8 ≤ 20 := hI.1.s8
  have hz9 : 0 ≤ u.1 9 ∧ u.1 9 ≤ 8 := hI.1.s9
  have hz10 : 0 ≤ u.1 10 ∧ u.1 10 ≤ 120 := hI.1.s10
  have hz12 : 0 ≤ u.1 12 ∧ u.1 12 ≤ 16 := hI.1.s12
  have hfr : qFc [] [] [] [5000] u u := qFc.rf
  refine lv_aload_n hF.1 hF.2.1 dX10_goes_0 rfl (lv_at hl 0 rfl) ?_
  refine lv_iload_n hF.1 hF.2.1 dX10_goes_1 rfl (lv_at hl 1 rfl) ?_
  have hdd := hd0
  have hok : ∀ k9 : Nat, dd ≠ k9 → u.2.2.2.2[k9]? = u.2.2.2.2[k9]? := fun _ _ => rfl
  have hv_5_l := ((hI.2.1 dd o 10 (fs) hdd).1 rfl).1
  have hp_8 := hI.vput (j := 2) (x := x) hdd (by decide) (fun _ => (g_X10_goes_v0 u o x y z a b dd fs hx hy hd0 hz8 hz9 hz10 hz12)) (fun q => absurd q (by decide))
  refine q_putd hF hU hS dX10_goes_2 dd 10 2 hdd rfl inX10 tyX10 tyX10_ok nmX10 (by decide) w_589 rfl (Or.inl rfl) rfl rfl (by rw [hv_5_l]; decide) (fun u_6 H locs hu_7 hd9 hU hS => ?_)
  rw [← hu_7] at hp_8
  have hI := hp_8.1
  have hp_8_f := hp_8.2 [] [] [] [5000] (Or.inr (by decide))
  have hfo := hfr
  have hfr : qFc [] [] [] [5000] u u_6 := hfr.trans (hp_8_f.mono (by decide) (by decide) (by decide) (by decide))
  have hr_9 : qRf u_6 o 10 := hp_8_f.r _ _ ho
  have hok : ∀ k9 : Nat, dd ≠ k9 → u_6.2.2.2.2[k9]? = u.2.2.2.2[k9]? := fun k9 q9 => by rw [hu_7]; exact (List.getElem?_set_ne q9).trans (hok k9 q9)
  have hdd := hd9
  refine lv_aload_n hF.1 hF.2.1 dX10_goes_5 rfl (lv_at hl 0 rfl) ?_
  refine lv_iload_n hF.1 hF.2.1 dX10_goes_6 rfl (lv_at hl 2 rfl) ?_
  have hv_14_l := ((hI.2.1 dd o 10 ((fs).set 2 (.int (x))) hdd).1 rfl).1
  have hp_17 := hI.vput (j := 3) (x := y) hdd (by decide) (fun q => absurd q (by decide)) (fun _ => (by rw [(hfr.1 9 (by decide))]; exact (g_X10_goes_v1 u o x y z a b dd fs hx hy hd0 hz8 hz9 hz10 hz12)))
  refine q_putd hF hU hS dX10_goes_7 dd 10 3 hdd rfl inX10 tyX10 tyX10_ok nmX10 (by decide) w_595 rfl (Or.inl rfl) rfl rfl (by rw [hv_14_l]; decide) (fun u_15 H locs hu_16 hd9 hU hS => ?_)
  rw [← hu_16] at hp_17
  have hI := hp_17.1
  have hp_17_f := hp_17.2 [] [] [] [5000] (Or.inr (by decide))
  have hfo := hfr
  have hfr : qFc [] [] [] [5000] u u_15 := hfr.trans (hp_17_f.mono (by decide) (by decide) (by decide) (by decide))
  have hr_18 : qRf u_15 o 10 := hp_17_f.r _ _ hr_9
  have hok : ∀ k9 : Nat, dd ≠ k9 → u_15.2.2.2.2[k9]? = u.2.2.2.2[k9]? := fun k9 q9 => by rw [hu_16]; exact (List.getElem?_set_ne q9).trans (hok k9 q9)
  have hdd := hd9
  refine lv_aload_n hF.1 hF.2.1 dX10_goes_10 rfl (lv_at hl 0 rfl) ?_
  refine lv_iload_n hF.1 hF.2.1 dX10_goes_11 rfl (lv_at hl 3 rfl) ?_
  have hv_23_l := ((hI.2.1 dd o 10 (((fs).set 2 (.int (x))).set 3 (.int (y))) hdd).1 rfl).1
  have hp_26 := hI.vput (j := 4) (x := z) hdd (by decide) (fun q => absurd q (by decide)) (fun q => absurd q (by decide))
  refine q_putd hF hU hS dX10_goes_12 dd 10 4 hdd rfl inX10 tyX10 tyX10_ok nmX10 (by decide) w_600 rfl (Or.inl rfl) rfl rfl (by rw [hv_23_l]; decide) (fun u_24 H locs hu_25 hd9 hU hS => ?_)
  rw [← hu_25] at hp_26
  have hI := hp_26.1
  have hp_26_f := hp_26.2 [] [] [] [5000] (Or.inr (by decide))
  have hfo := hfr
  have hfr : qFc [] [] [] [5000] u u_24 := hfr.trans (hp_26_f.mono (by decide) (by decide) (by decide) (by decide))
  have hr_27 : qRf u_24 o 10 := hp_26_f.r _ _ hr_18
  have hok : ∀ k9 : Nat, dd ≠ k9 → u_24.2.2.2.2[k9]? = u.2.2.2.2[k9]? := fun k9 q9 => by rw [hu_25]; exact (List.getElem?_set_ne q9).trans (hok k9 q9)
  have hdd := hd9
  refine lv_aload_n hF.1 hF.2.1 dX10_goes_15 rfl (lv_at hl 0 rfl) ?_
  refine lv_iload hF.1 hF.2.1 dX10_goes_16 (lv_at hl 4 rfl) ?_
  have hv_32_l := ((hI.2.1 dd o 10 ((((fs).set 2 (.int (x))).set 3 (.int (y))).set 4 (.int (z))) hdd).1 rfl).1
  have hp_35 := hI.vput (j := 5) (x := a) hdd (by decide) (fun q => absurd q (by decide)) (fun q => absurd q (by decide))
  refine q_putd hF hU hS dX10_goes_18 dd 10 5 hdd rfl inX10 tyX10 tyX10_ok nmX10 (by decide) w_605 rfl (Or.inl rfl) rfl rfl (by rw [hv_32_l]; decide) (fun u_33 H locs hu_34 hd9 hU hS => ?_)
  rw [← hu_34] at hp_35
  have hI := hp_35.1
  have hp_35_f := hp_35.2 [] [] [] [5000] (Or.inr (by decide))
  have hfo := hfr
  have hfr : qFc [] [] [] [5000] u u_33 := hfr.trans (hp_35_f.mono (by decide) (by decide) (by decide) (by decide))
  have hr_36 : qRf u_33 o 10 := hp_35_f.r _ _ hr_27
  have hok : ∀ k9 : Nat, dd ≠ k9 → u_33.2.2.2.2[k9]? = u.2.2.2.2[k9]? := fun k9 q9 => by rw [hu_34]; exact (List.getElem?_set_ne q9).trans (hok k9 q9)
  have hdd := hd9
  refine lv_aload_n hF.1 hF.2.1 dX10_goes_21 rfl (lv_at hl 0 rfl) ?_
  refine lv_iload hF.1 hF.2.1 dX10_goes_22 (lv_at hl 5 rfl) ?_
  have hv_41_l := ((hI.2.1 dd o 10 (((((fs).set 2 (.int (x))).set 3 (.int (y))).set 4 (.int (z))).set 5 (.int (a))) hdd).1 rfl).1
  have hp_44 := hI.vput (j := 6) (x := b) hdd (by decide) (fun q => absurd q (by decide)) (fun q => absurd q (by decide))
  refine q_putd hF hU hS dX10_goes_24 dd 10 6 hdd rfl inX10 tyX10 tyX10_ok nmX10 (by decide) w_609 rfl (Or.inl rfl) rfl rfl (by rw [hv_41_l]; decide) (fun u_42 H locs hu_43 hd9 hU hS => ?_)
  rw [← hu_43] at hp_44
  have hI := hp_44.1
  have hp_44_f := hp_44.2 [] [] [] [5000] (Or.inr (by decide))
  have hfo := hfr
  have hfr : qFc [] [] [] [5000] u u_42 := hfr.trans (hp_44_f.mono (by decide) (by decide) (by decide) (by decide))
  have hr_45 : qRf u_42 o 10 := hp_44_f.r _ _ hr_36
  have hok : ∀ k9 : Nat, dd ≠ k9 → u_42.2.2.2.2[k9]? = u.2.2.2.2[k9]? := fun k9 q9 => by rw [hu_43]; exact (List.getElem?_set_ne q9).trans (hok k9 q9)
  have hdd := hd9
  exact q_vret hF hr hlocks hU hS dX10_goes_27 ⟨⟨hfr, hI⟩, ⟨hdd, hok⟩⟩
set_option maxHeartbeats 1000000 in
set_option maxRecDepth 100000 in
theorem g_X10_tells (l : Launch) (E : qE) (A : Nat → Prop) (u : qS) (o : Nat) (x : Int32) (y : Int32) (dd : Nat) (fs : List Value) (hI : IC E u) (ho : qRf u o 10) (hd0 : u.2.2.2.2[dd]? = some (o, .inr (10, fs))) : Met l yX10_tells (uws yX10_tells cX10_tells 3 none) (qR 0 0 0) (qPc E A 0 u [.ref o, .int x, .int y]) (qQv E A 0 (fun u1 => (qFc [] [] [] [5000] u u1 ∧ IC E u1) ∧ (u1.2.2.2.2[dd]? = some (o, .inr (10, (((fs).set 7 (.int (x))).set 9 (.int (x))).set 8 (.int (y)))) ∧ ∀ k9 : Nat, dd ≠ k9 → u1.2.2.2.2[k9]? = u.2.2.2.2[k9]?))) 0 0 A := by
  refine q_met (own := RX10) (f := 0) [.ref o, .int x, .int y] (by decide) (Nat.le_of_ble_eq_true rfl) rfl ?_
  intro p0 e0 s0 m0 bl0 me0 cd0 ls hF hr hlocks hU hS hA hl
  have hl : lv_has ls 3 [(0, .ref o), (1, .int x), (2, .int y)] := hl
  have hz8 : 0 ≤ u.1 8 ∧ u.1 8 ≤ 20 := hI.1.s8
  have hz9 : 0 ≤ u.1 9 ∧ u.1 9 ≤ 8 := hI.1.s9
  have hz10 : 0 ≤ u.1 10 ∧ u.1 10 ≤ 120 := hI.1.s10
  have hz12 : 0 ≤ u.1 12 ∧ u.1 12 ≤ 16 := hI.1.s12
  have hfr : qFc [] [] [] [5000] u u := qFc.rf
  refine lv_aload_n hF.1 hF.2.1 dX10_tells_0 rfl (lv_at hl 0 rfl) ?_
  refine lv_iload_n hF.1 hF.2.1 dX10_tells_1 rfl (lv_at hl 1 rfl) ?_
  have hdd := hd0
  have hok : ∀ k9 : Nat, dd ≠ k9 → u.2.2.2.2[k9]? = u.2.2.2.2[k9]? := fun _ _ => rfl
  have hv_5_l := ((hI.2.1 dd o 10 (fs) hdd).1 rfl).1
  have hp_8 := hI.vput (j := 7) (x := x) hdd (by decide) (fun q => absurd q (by decide)) (fun q => absurd q (by decide))
  refine q_putd hF hU hS dX10_tells_2 dd 10 7 hdd rfl inX10 tyX10 tyX10_ok nmX10 (by decide) w_611 rfl (Or.inl rfl) rfl rfl (by rw [hv_5_l]; decide) (fun u_6 H locs hu_7 hd9 hU hS => ?_)
  rw [← hu_7] at hp_8
  have hI := hp_8.1
  have hp_8_f := hp_8.2 [] [] [] [5000] (Or.inr (by decide))
  have hfo := hfr
  have hfr : qFc [] [] [] [5000] u u_6 := hfr.trans (hp_8_f.mono (by decide) (by decide) (by decide) (by decide))
  have hr_9 : qRf u_6 o 10 := hp_8_f.r _ _ ho
  have hok : ∀ k9 : Nat, dd ≠ k9 → u_6.2.2.2.2[k9]? = u.2.2.2.2[k9]? := fun k9 q9 => by rw [hu_7]; exact (List.getElem?_set_ne q9).trans (hok k9 q9)
  have hdd := hd9
  refine lv_aload_n hF.1 hF.2.1 dX10_tells_5 rfl (lv_at hl 0 rfl) ?_
  refine lv_iload_n hF.1 hF.2.1 dX10_tells_6 rfl (lv_at hl 1 rfl) ?_
  have hv_14_l := ((hI.2.1 dd o 10 ((fs).set 7 (.int (x))) hdd).1 rfl).1
  have hp_17 := hI.vput (j := 9) (x := x) hdd (by decide) (fun q => absurd q (by decide)) (fun q => absurd q (by decide))
  refine q_putd hF hU hS dX10_tells_7 dd 10 9 hdd rfl inX10 tyX10 tyX10_ok nmX10 (by decide) w_616 rfl (Or.inl rfl) rfl rfl (by rw [hv_14_l]; decide) (fun u_15 H locs hu_16 hd9 hU hS => ?_)
  rw [← hu_16] at hp_17
  have hI := hp_17.1
  have hp_17_f := hp_17.2 [] [] [] [] (Or.inl (by decide))
  have hfo := hfr
  have hfr : qFc [] [] [] [5000] u u_15 := hfr.trans (hp_17_f.mono (by decide) (by decide) (by decide) (by decide))
  have hr_18 : qRf u_15 o 10 := hp_17_f.r _ _ hr_9
  have hok : ∀ k9 : Nat, dd ≠ k9 → u_15.2.2.2.2[k9]? = u.2.2.2.2[k9]? := fun k9 q9 => by rw [hu_16]; exact (List.getElem?_set_ne q9).trans (hok k9 q9)
  have hdd := hd9
  refine lv_aload_n hF.1 hF.2.1 dX10_tells_10 rfl (lv_at hl 0 rfl) ?_
  refine lv_iload_n hF.1 hF.2.1 dX10_tells_11 rfl (lv_at hl 2 rfl) ?_
  have hv_23_l := ((hI.2.1 dd o 10 (((fs).set 7 (.int (x))).set 9 (.int (x))) hdd).1 rfl).1
  have hp_26 := hI.vput (j := 8) (x := y) hdd (by decide) (fun q => absurd q (by decide)) (fun q => absurd q (by decide))
  refine q_putd hF hU hS dX10_tells_12 dd 10 8 hdd rfl inX10 tyX10 tyX10_ok nmX10 (by decide) w_613 rfl (Or.inl rfl) rfl rfl (by rw [hv_23_l]; decide) (fun u_24 H locs hu_25 hd9 hU hS => ?_)
  rw [← hu_25] at hp_26
  have hI := hp_26.1
  have hp_26_f := hp_26.2 [] [] [] [5000] (Or.inr (by decide))
  have hfo := hfr
  have hfr : qFc [] [] [] [5000] u u_24 := hfr.trans (hp_26_f.mono (by decide) (by decide) (by decide) (by decide))
  have hr_27 : qRf u_24 o 10 := hp_26_f.r _ _ hr_18
  have hok : ∀ k9 : Nat, dd ≠ k9 → u_24.2.2.2.2[k9]? = u.2.2.2.2[k9]? := fun k9 q9 => by rw [hu_25]; exact (List.getElem?_set_ne q9).trans (hok k9 q9)
  have hdd := hd9
  exact q_vret hF hr hlocks hU hS dX10_tells_15 ⟨⟨hfr, hI⟩, ⟨hdd, hok⟩⟩
set_option maxRecDepth 100000 in
theorem g_X0_keepBrief_v0 (u : qS) (hc : (u.1 12).toInt < 16) (hz8 : 0 ≤ u.1 8 ∧ u.1 8 ≤ 20) (hz9 : 0 ≤ u.1 9 ∧ u.1 9 ≤ 8) (hz10 : 0 ≤ u.1 10 ∧ u.1 10 ≤ 120) (hz12 : 0 ≤ u.1 12 ∧ u.1 12 ≤ 16) : vp_in (u.1 12) 16 := by
  refine g_in ?_ ?_ <;> ((try simp only [g_m1, Int32.lt_iff_toInt_lt, Int32.le_iff_toInt_le, ← Int32.toInt_inj, Int32.toInt_add, Int32.toInt_sub, Int32.toInt_mul, Int32.toInt_neg, Int32.reduceToInt, g_bm, g_bm'] at *); omega)
set_option maxRecDepth 100000 in
theorem g_X0_keepBrief_v1 (u : qS) (hc : (u.1 12).toInt < 16) (hz8 : 0 ≤ u.1 8 ∧ u.1 8 ≤ 20) (hz9 : 0 ≤ u.1 9 ∧ u.1 9 ≤ 8) (hz10 : 0 ≤ u.1 10 ∧ u.1 10 ≤ 120) (hz12 : 0 ≤ u.1 12 ∧ u.1 12 ≤ 16) : 0 ≤ ((u.1 12) + 1 : Int32) ∧ ((u.1 12) + 1 : Int32) ≤ 16 := by
  first | omega | ((try simp only [g_m1, Int32.lt_iff_toInt_lt, Int32.le_iff_toInt_le, ← Int32.toInt_inj, Int32.reduceToInt] at *); omega) | ((try have ez0 : ((u.1 12) + 1 : Int32).toInt = (u.1 12 : Int32).toInt + (1 : Int32).toInt := g_add (by (try simp only [g_m1, Int32.lt_iff_toInt_lt, Int32.le_iff_toInt_le, ← Int32.toInt_inj, Int32.reduceToInt] at *); omega) (by (try simp only [g_m1, Int32.lt_iff_toInt_lt, Int32.le_iff_toInt_le, ← Int32.toInt_inj, Int32.reduceToInt] at *); omega)); (try simp only [g_m1, Int32.lt_iff_toInt_lt, Int32.le_iff_toInt_le, ← Int32.toInt_inj, Int32.reduceToInt] at *); omega) | ((try simp only [g_m1, Int32.lt_iff_toInt_lt, Int32.le_iff_toInt_le, ← Int32.toInt_inj, Int32.toInt_add, Int32.toInt_sub, Int32.toInt_mul, Int32.toInt_neg, Int32.reduceToInt, g_bm, g_bm'] at *); omega) | ((try simp only [g_m1, Int32.lt_iff_toInt_lt, Int32.le_iff_toInt_le, ← Int32.toInt_inj, Int32.toInt_add, Int32.toInt_sub, Int32.toInt_mul, Int32.toInt_neg, Int32.reduceToInt, g_bm, g_bm'] at *); omega) | (simp only [g_m1, Int32.lt_iff_toInt_lt, Int32.le_iff_toInt_le, ← Int32.toInt_inj, Int32.toInt_add, Int32.toInt_sub, Int32.toInt_mul, Int32.toInt_neg, Int32.reduceToInt, g_bm, g_bm'] at *; simp at *; omega) | (simp_all; done)
set_option maxRecDepth 100000 in
theorem g_X0_keepBrief_v2 (u : qS) (hc : (u.1 12).toInt < 16) (hz8 : 0 ≤ u.1 8 ∧ u.1 8 ≤ 20) (hz9 : 0 ≤ u.1 9 ∧ u.1 9 ≤ 8) (hz10 : 0 ≤ u.1 10 ∧ u.1 10 ≤ 120) (hz12 : 0 ≤ u.1 12 ∧ u.1 12 ≤ 16) : ((u.1 12) + 1 : Int32).toInt = (u.1 12 : Int32).toInt + 1 := by
  exact (g_up (by (try simp only [g_m1, Int32.lt_iff_toInt_lt, Int32.le_iff_toInt_le, ← Int32.toInt_inj, Int32.reduceToInt] at *); omega) (by (try simp only [g_m1, Int32.lt_iff_toInt_lt, Int32.le_iff_toInt_le, ← Int32.toInt_inj, Int32.reduceToInt] at *); omega)).1
set_option maxRecDepth 100000 in
theorem g_X0_keepBrief_v3 (u : qS) (hc : (u.1 12).toInt < 16) (hz8 : 0 ≤ u.1 8 ∧ u.1 8 ≤ 20) (hz9 : 0 ≤ u.1 9 ∧ u.1 9 ≤ 8) (hz10 : 0 ≤ u.1 10 ∧ u.1 10 ≤ 120) (hz12 : 0 ≤ u.1 12 ∧ u.1 12 ≤ 16) : (u.1 12 : Int32) ≤ ((u.1 12) + 1 : Int32) := by
  have z := (g_up (i := u.1 12) (by (try simp only [g_m1, Int32.lt_iff_toInt_lt, Int32.le_iff_toInt_le, ← Int32.toInt_inj, Int32.reduceToInt] at *); omega) (by (try simp only [g_m1, Int32.lt_iff_toInt_lt, Int32.le_iff_toInt_le, ← Int32.toInt_inj, Int32.reduceToInt] at *); omega)).1; (try simp only [g_m1, Int32.lt_iff_toInt_lt, Int32.le_iff_toInt_le, ← Int32.toInt_inj, Int32.reduceToInt] at *); omega
set_option maxHeartbeats 1000000 in
set_option maxRecDepth 100000 in
theorem g_X0_keepBrief (l : Launch) (E : qE) (A : Nat → Prop) (u : qS) (v : Nat) (hI : IC E u) (hv : qRf u v 1) (hc : (u.1 12).toInt < 16) : Met l yX0_keepBrief (uws yX0_keepBrief cX0_keepBrief 2 none) (qR 0 0 0) (qPc E A 0 u [.ref (E.2.2 99), .ref v]) (qQv E A 0 (fun u1 => (qFc [12, 18] [] [] [4] u u1 ∧ IC E u1) ∧ (True))) 0 0 A := by
  refine q_met (own := RX0) (f := 0) [.ref (E.2.2 99), .ref v] (by decide) (Nat.le_of_ble_eq_true rfl) rfl ?_
  intro p0 e0 s0 m0 bl0 me0 cd0 ls hF hr hlocks hU hS hA hl
  have hl : lv_has ls 2 [(0, .ref (E.2.2 99)), (1, .ref v)] := hl
  have hz8 : 0 ≤ u.1 8 ∧ u.1 8 ≤ 20 := hI.1.s8
  have hz9 : 0 ≤ u.1 9 ∧ u.1 9 ≤ 8 := hI.1.s9
  have hz10 : 0 ≤ u.1 10 ∧ u.1 10 ≤ 120 := hI.1.s10
  have hz12 : 0 ≤ u.1 12 ∧ u.1 12 ≤ 16 := hI.1.s12
  have hfr : qFc [12, 18] [] [] [4] u u := qFc.rf
  refine lv_aload_n hF.1 hF.2.1 dX0_keepBrief_0 rfl (lv_at hl 0 rfl) ?_
  refine q_get (v := .ref (E.2.2 4)) hF hU dX0_keepBrief_1 1 0 4 4 99 rfl rfl rfl rfl inX0 (by decide) (by decide) w_156 rfl rfl ?_
  refine lv_aload_n hF.1 hF.2.1 dX0_keepBrief_4 rfl (lv_at hl 0 rfl) ?_
  refine q_get (v := .int (u.1 12)) hF hU dX0_keepBrief_5 1 0 12 12 99 rfl rfl rfl rfl inX0 (by decide) (by decide) w_177 rfl rfl ?_
  refine lv_aload_n hF.1 hF.2.1 dX0_keepBrief_8 rfl (lv_at hl 1 rfl) ?_
  obtain ⟨k_1, fs_2, hd_3⟩ := id (hv)
  refine q_aast hF hU hS dX0_keepBrief_9 4 4 7 rfl rfl (by decide) k_1 1 hd_3 rfl rfl (g_X0_keepBrief_v0 u hc hz8 hz9 hz10 hz12) (fun f_4 H locs hg_f_4 hU hS => ?_)
  have hfr : qFc [12, 18] [] [] [4] u (qsR u 4 f_4) := hfr.setR (by decide)
  have hI : IC E (qsR u 4 f_4) := by rw [hg_f_4]; exact hI.w4
  have hent : f_4 (u.1 12 : Int32).toNatClampNeg = some v := by rw [hg_f_4]; exact g_vs
  refine lv_aload_n hF.1 hF.2.1 dX0_keepBrief_10 rfl (lv_at hl 0 rfl) ?_
  refine lv_dup hF.1 hF.2.1 dX0_keepBrief_11 rfl ?_
  refine q_get (v := .int (u.1 12)) hF hU dX0_keepBrief_12 1 0 12 12 99 rfl rfl rfl rfl inX0 (by decide) (by decide) w_177 rfl rfl ?_
  refine lv_iconst (v := 1) hF.1 hF.2.1 dX0_keepBrief_15 (by decide) ?_
  refine lv_iadd hF.1 hF.2.1 dX0_keepBrief_16 ?_
  refine q_put hF hU hS dX0_keepBrief_17 1 0 12 12 99 rfl rfl rfl rfl inX0 tyX0 tyX0_ok nmX0 (by decide) (by decide) rfl w_177 rfl rfl rfl rfl (fun H locs hU hS => ?_)
  have hfr : qFc [12, 18] [] [] [4] u (qsI (qsR u 4 f_4) 12 ((u.1 12) + 1)) := hfr.setI (by decide) (fun q => absurd q (by decide))
  have hI : IC E (qsI (qsR u 4 f_4) 12 ((u.1 12) + 1)) := hI.s12 (g_X0_keepBrief_v1 u hc hz8 hz9 hz10 hz12) (fun i a b => (g_lt1 (g_X0_keepBrief_v2 u hc hz8 hz9 hz10 hz12) b).elim (fun q => hI.2.2.2.2.2.2.1 i a q) (fun q => by rw [q]; exact ⟨v, hent, hv⟩))
  refine lv_aload_n hF.1 hF.2.1 dX0_keepBrief_20 rfl (lv_at hl 0 rfl) ?_
  refine lv_dup hF.1 hF.2.1 dX0_keepBrief_21 rfl ?_
  refine q_get (v := .int (u.1 18)) hF hU dX0_keepBrief_22 1 0 18 18 99 rfl rfl rfl rfl inX0 (by decide) (by decide) w_191 rfl rfl ?_
  refine lv_iconst (v := 1) hF.1 hF.2.1 dX0_keepBrief_25 (by decide) ?_
  refine lv_iadd hF.1 hF.2.1 dX0_keepBrief_26 ?_
  refine q_put hF hU hS dX0_keepBrief_27 1 0 18 18 99 rfl rfl rfl rfl inX0 tyX0 tyX0_ok nmX0 (by decide) (by decide) rfl w_191 rfl rfl rfl rfl (fun H locs hU hS => ?_)
  have hfr : qFc [12, 18] [] [] [4] u (qsI (qsI (qsR u 4 f_4) 12 ((u.1 12) + 1)) 18 ((u.1 18) + 1)) := hfr.setI (by decide) (fun q => absurd q (by decide))
  have hI : IC E (qsI (qsI (qsR u 4 f_4) 12 ((u.1 12) + 1)) 18 ((u.1 18) + 1)) := hI.sI (by decide)
  exact q_vret hF hr hlocks hU hS dX0_keepBrief_30 ⟨⟨hfr, hI⟩, trivial⟩
set_option maxRecDepth 100000 in
theorem g_X11_buyer_v0 (u : qS) (x : Int32) (y : Int32) (hz8 : 0 ≤ u.1 8 ∧ u.1 8 ≤ 20) (hz9 : 0 ≤ u.1 9 ∧ u.1 9 ≤ 8) (hz10 : 0 ≤ u.1 10 ∧ u.1 10 ≤ 120) (hz12 : 0 ≤ u.1 12 ∧ u.1 12 ≤ 16) (b2_4 : (0 ≤ x ∧ x ≤ 99) ∧ (0 ≤ y ∧ y ≤ 99)) (c17_5 : (u.1 9 : Int32) < 8) : vp_in (u.1 9) 8 := by
  refine g_in ?_ ?_ <;> ((try simp only [g_m1, Int32.lt_iff_toInt_lt, Int32.le_iff_toInt_le, ← Int32.toInt_inj, Int32.toInt_add, Int32.toInt_sub, Int32.toInt_mul, Int32.toInt_neg, Int32.reduceToInt, g_bm, g_bm'] at *); omega)
set_option maxRecDepth 100000 in
theorem g_X11_buyer_v1 (u : qS) (x : Int32) (y : Int32) (hz8 : 0 ≤ u.1 8 ∧ u.1 8 ≤ 20) (hz9 : 0 ≤ u.1 9 ∧ u.1 9 ≤ 8) (hz10 : 0 ≤ u.1 10 ∧ u.1 10 ≤ 120) (hz12 : 0 ≤ u.1 12 ∧ u.1 12 ≤ 16) (b2_4 : (0 ≤ x ∧ x ≤ 99) ∧ (0 ≤ y ∧ y ≤ 99)) (c17_5 : (u.1 9 : Int32) < 8) : 0 ≤ ((u.1 9) + 1 : Int32) ∧ ((u.1 9) + 1 : Int32) ≤ 8 := by
  first | omega | ((try simp only [g_m1, Int32.lt_iff_toInt_lt, Int32.le_iff_toInt_le, ← Int32.toInt_inj, Int32.reduceToInt] at *); omega) | ((try have ez0 : ((u.1 9) + 1 : Int32).toInt = (u.1 9 : Int32).toInt + (1 : Int32).toInt := g_add (by (try simp only [g_m1, Int32.lt_iff_toInt_lt, Int32.le_iff_toInt_le, ← Int32.toInt_inj, Int32.reduceToInt] at *); omega) (by (try simp only [g_m1, Int32.lt_iff_toInt_lt, Int32.le_iff_toInt_le, ← Int32.toInt_inj, Int32.reduceToInt] at *); omega)); (try simp only [g_m1, Int32.lt_iff_toInt_lt, Int32.le_iff_toInt_le, ← Int32.toInt_inj, Int32.reduceToInt] at *); omega) | ((try simp only [g_m1, Int32.lt_iff_toInt_lt, Int32.le_iff_toInt_le, ← Int32.toInt_inj, Int32.toInt_add, Int32.toInt_sub, Int32.toInt_mul, Int32.toInt_neg, Int32.reduceToInt, g_bm, g_bm'] at *); omega) | (have qr1 := g_rng x; have qr2 := g_rng y; (try simp only [g_m1, Int32.lt_iff_toInt_lt, Int32.le_iff_toInt_le, ← Int32.toInt_inj, Int32.toInt_add, Int32.toInt_sub, Int32.toInt_mul, Int32.toInt_neg, Int32.reduceToInt, g_bm, g_bm'] at *); omega) | (simp only [g_m1, Int32.lt_iff_toInt_lt, Int32.le_iff_toInt_le, ← Int32.toInt_inj, Int32.toInt_add, Int32.toInt_sub, Int32.toInt_mul, Int32.toInt_neg, Int32.reduceToInt, g_bm, g_bm'] at *; simp at *; omega) | (simp_all; done)
set_option maxRecDepth 100000 in
theorem g_X11_buyer_v2 (u : qS) (x : Int32) (y : Int32) (hz8 : 0 ≤ u.1 8 ∧ u.1 8 ≤ 20) (hz9 : 0 ≤ u.1 9 ∧ u.1 9 ≤ 8) (hz10 : 0 ≤ u.1 10 ∧ u.1 10 ≤ 120) (hz12 : 0 ≤ u.1 12 ∧ u.1 12 ≤ 16) (b2_4 : (0 ≤ x ∧ x ≤ 99) ∧ (0 ≤ y ∧ y ≤ 99)) (c17_5 : (u.1 9 : Int32) < 8) : ((u.1 9) + 1 : Int32).toInt = (u.1 9 : Int32).toInt + 1 := by
  exact (g_up (by (try simp only [g_m1, Int32.lt_iff_toInt_lt, Int32.le_iff_toInt_le, ← Int32.toInt_inj, Int32.reduceToInt] at *); omega) (by (try simp only [g_m1, Int32.lt_iff_toInt_lt, Int32.le_iff_toInt_le, ← Int32.toInt_inj, Int32.reduceToInt] at *); omega)).1
set_option maxRecDepth 100000 in
theorem g_X11_buyer_v3 (u : qS) (x : Int32) (y : Int32) (hz8 : 0 ≤ u.1 8 ∧ u.1 8 ≤ 20) (hz9 : 0 ≤ u.1 9 ∧ u.1 9 ≤ 8) (hz10 : 0 ≤ u.1 10 ∧ u.1 10 ≤ 120) (hz12 : 0 ≤ u.1 12 ∧ u.1 12 ≤ 16) (b2_4 : (0 ≤ x ∧ x ≤ 99) ∧ (0 ≤ y ∧ y ≤ 99)) (c17_5 : (u.1 9 : Int32) < 8) : (u.1 9 : Int32) ≤ ((u.1 9) + 1 : Int32) := by
  have z := (g_up (i := u.1 9) (by (try simp only [g_m1, Int32.lt_iff_toInt_lt, Int32.le_iff_toInt_le, ← Int32.toInt_inj, Int32.reduceToInt] at *); omega) (by (try simp only [g_m1, Int32.lt_iff_toInt_lt, Int32.le_iff_toInt_le, ← Int32.toInt_inj, Int32.reduceToInt] at *); omega)).1; (try simp only [g_m1, Int32.lt_iff_toInt_lt, Int32.le_iff_toInt_le, ← Int32.toInt_inj, Int32.reduceToInt] at *); omega
set_option maxRecDepth 100000 in
theorem g_X11_buyer_v4 (u : qS) (x : Int32) (y : Int32) (u_9 : qS) (f_16 : Nat → Option Nat) (hz8 : 0 ≤ u.1 8 ∧ u.1 8 ≤ 20) (hz9 : 0 ≤ u.1 9 ∧ u.1 9 ≤ 8) (hz10 : 0 ≤ u.1 10 ∧ u.1 10 ≤ 120) (hz12 : 0 ≤ u.1 12 ∧ u.1 12 ≤ 16) (b2_4 : (0 ≤ x ∧ x ≤ 99) ∧ (0 ≤ y ∧ y ≤ 99)) (c17_5 : (u.1 9 : Int32) < 8) (hHn : qHn u (qsI (qsR u_9 1 f_16) 9 ((u.1 9) + 1)) x y) : ((((0 ≤ x ∧ x ≤ 99) ∧ (0 ≤ y ∧ y ≤ 99)) ∧ u.1 9 < 8) ∧ (((u.1 9) + 1) - 1 : Int32) = u.1 9 ∧ ((u.1 9) + 1 : Int32) = u.1 9 + 1 ∧ qHn u (qsI (qsR u_9 1 f_16) 9 ((u.1 9) + 1)) x y) ∨ (¬ (((0 ≤ x ∧ x ≤ 99) ∧ (0 ≤ y ∧ y ≤ 99)) ∧ u.1 9 < 8) ∧ (((u.1 9) + 1) - 1 : Int32) = -1 ∧ ((u.1 9) + 1 : Int32) = u.1 9 ∧ qH0 u (qsI (qsR u_9 1 f_16) 9 ((u.1 9) + 1))) := by
  first | (refine Or.inl ⟨⟨?_, ?_⟩, ?_, rfl, ?_⟩ <;> first | assumption | (clear hHn; (try simp only [g_m1, Int32.lt_iff_toInt_lt, Int32.le_iff_toInt_le, ← Int32.toInt_inj, Int32.reduceToInt] at *); omega) | (clear hHn; (try simp only [g_m1, Int32.lt_iff_toInt_lt, Int32.le_iff_toInt_le, ← Int32.toInt_inj, Int32.toInt_add, Int32.toInt_sub, Int32.toInt_mul, Int32.toInt_neg, Int32.reduceToInt, g_bm, g_bm'] at *); omega)) | exact Or.inr ⟨fun q0 => (by obtain ⟨q1, q2⟩ := q0; (try simp only [g_m1, Int32.lt_iff_toInt_lt, Int32.le_iff_toInt_le, ← Int32.toInt_inj, Int32.reduceToInt] at *); omega), rfl, rfl, rfl, rfl⟩
set_option maxRecDepth 100000 in
theorem g_X11_buyer_v5 (u : qS) (x : Int32) (y : Int32) (hz8 : 0 ≤ u.1 8 ∧ u.1 8 ≤ 20) (hz9 : 0 ≤ u.1 9 ∧ u.1 9 ≤ 8) (hz10 : 0 ≤ u.1 10 ∧ u.1 10 ≤ 120) (hz12 : 0 ≤ u.1 12 ∧ u.1 12 ≤ 16) (b2_4 : (0 ≤ x ∧ x ≤ 99) ∧ (0 ≤ y ∧ y ≤ 99)) (c17_5 : ¬ (u.1 9 : Int32) < 8) : ((((0 ≤ x ∧ x ≤ 99) ∧ (0 ≤ y ∧ y ≤ 99)) ∧ u.1 9 < 8) ∧ ((-1) : Int32) = u.1 9 ∧ (u.1 9 : Int32) = u.1 9 + 1 ∧ qHn u u x y) ∨ (¬ (((0 ≤ x ∧ x ≤ 99) ∧ (0 ≤ y ∧ y ≤ 99)) ∧ u.1 9 < 8) ∧ ((-1) : Int32) = -1 ∧ (u.1 9 : Int32) = u.1 9 ∧ qH0 u u) := by
  first | (refine Or.inl ⟨⟨?_, ?_⟩, ?_, rfl, ?_⟩ <;> first | assumption | (clear hHn; (try simp only [g_m1, Int32.lt_iff_toInt_lt, Int32.le_iff_toInt_le, ← Int32.toInt_inj, Int32.reduceToInt] at *); omega) | (clear hHn; (try simp only [g_m1, Int32.lt_iff_toInt_lt, Int32.le_iff_toInt_le, ← Int32.toInt_inj, Int32.toInt_add, Int32.toInt_sub, Int32.toInt_mul, Int32.toInt_neg, Int32.reduceToInt, g_bm, g_bm'] at *); omega)) | exact Or.inr ⟨fun q0 => (by obtain ⟨q1, q2⟩ := q0; (try simp only [g_m1, Int32.lt_iff_toInt_lt, Int32.le_iff_toInt_le, ← Int32.toInt_inj, Int32.reduceToInt] at *); omega), rfl, rfl, rfl, rfl⟩
set_option maxRecDepth 100000 in
theorem g_X11_buyer_v6 (u : qS) (x : Int32) (y : Int32) (hz8 : 0 ≤ u.1 8 ∧ u.1 8 ≤ 20) (hz9 : 0 ≤ u.1 9 ∧ u.1 9 ≤ 8) (hz10 : 0 ≤ u.1 10 ∧ u.1 10 ≤ 120) (hz12 : 0 ≤ u.1 12 ∧ u.1 12 ≤ 16) (b2_4 : ¬ ((0 ≤ x ∧ x ≤ 99) ∧ (0 ≤ y ∧ y ≤ 99))) : ((((0 ≤ x ∧ x ≤ 99) ∧ (0 ≤ y ∧ y ≤ 99)) ∧ u.1 9 < 8) ∧ ((-1) : Int32) = u.1 9 ∧ (u.1 9 : Int32) = u.1 9 + 1 ∧ qHn u u x y) ∨ (¬ (((0 ≤ x ∧ x ≤ 99) ∧ (0 ≤ y ∧ y ≤ 99)) ∧ u.1 9 < 8) ∧ ((-1) : Int32) = -1 ∧ (u.1 9 : Int32) = u.1 9 ∧ qH0 u u) := by
  first | (refine Or.inl ⟨⟨?_, ?_⟩, ?_, rfl, ?_⟩ <;> first | assumption | (clear hHn; (try simp only [g_m1, Int32.lt_iff_toInt_lt, Int32.le_iff_toInt_le, ← Int32.toInt_inj, Int32.reduceToInt] at *); omega) | (clear hHn; (try simp only [g_m1, Int32.lt_iff_toInt_lt, Int32.le_iff_toInt_le, ← Int32.toInt_inj, Int32.toInt_add, Int32.toInt_sub, Int32.toInt_mul, Int32.toInt_neg, Int32.reduceToInt, g_bm, g_bm'] at *); omega)) | exact Or.inr ⟨fun q0 => (by obtain ⟨q1, q2⟩ := q0; (try simp only [g_m1, Int32.lt_iff_toInt_lt, Int32.le_iff_toInt_le, ← Int32.toInt_inj, Int32.reduceToInt] at *); omega), rfl, rfl, rfl, rfl⟩
set_option maxHeartbeats 1000000 in
set_option maxRecDepth 100000 in
theorem g_X11_buyer (l : Launch) (E : qE) (A : Nat → Prop) (u : qS) (x : Int32) (y : Int32) (hI : IC E u) : Met l yX11_buyer (uws yX11_buyer cX11_buyer 3 (some .int)) (qR 2 1 2) (qPc E A 0 u [.ref (E.2.2 1199), .int x, .int y]) (qQi E A 0 (fun r u1 => (qFc [9] [] [] [1] u u1 ∧ IC E u1) ∧ (((((0 ≤ x ∧ x ≤ 99) ∧ (0 ≤ y ∧ y ≤ 99)) ∧ u.1 9 < 8) ∧ r = u.1 9 ∧ u1.1 9 = u.1 9 + 1 ∧ qHn u u1 x y) ∨ (¬ (((0 ≤ x ∧ x ≤ 99) ∧ (0 ≤ y ∧ y ≤ 99)) ∧ u.1 9 < 8) ∧ r = -1 ∧ u1.1 9 = u.1 9 ∧ qH0 u u1)))) 1 2 A := by
  refine q_met (own := RX11) (f := 2) [.ref (E.2.2 1199), .int x, .int y] (by decide) (Nat.le_of_ble_eq_true rfl) rfl ?_
  intro p0 e0 s0 m0 bl0 me0 cd0 ls hF hr hlocks hU hS hA hl
  have hl : lv_has ls 3 [(0, .ref (E.2.2 1199)), (1, .int x), (2, .int y)] := hl
  have hz8 : 0 ≤ u.1 8 ∧ u.1 8 ≤ 20 := hI.1.s8
  have hz9 : 0 ≤ u.1 9 ∧ u.1 9 ≤ 8 := hI.1.s9
  have hz10 : 0 ≤ u.1 10 ∧ u.1 10 ≤ 120 := hI.1.s10
  have hz12 : 0 ≤ u.1 12 ∧ u.1 12 ≤ 16 := hI.1.s12
  have hfr : qFc [9] [] [] [1] u u := qFc.rf
  refine lv_iload_n hF.1 hF.2.1 dX11_buyer_0 rfl (lv_at hl 1 rfl) ?_
  refine lv_iload_n hF.1 hF.2.1 dX11_buyer_1 rfl (lv_at hl 2 rfl) ?_
  have hM9 := g_X11_isPlace l E A u x y
  have hR9 := q_runS (l := l) (e := e0) (below := bl0) (meth := me0) (R := qR 2 1 2) (cells := 0) (slots := 0) (st0 := [.int y, .int x]) (rest := []) hF hU hS hA 2 hM9 w_491 w_492 w_99 w_493 (by decide +kernel) ⟨Nat.le_of_ble_eq_true rfl, Nat.le_of_ble_eq_true rfl⟩ dX11_buyer_2 rfl hl.1 rfl (Nat.le_of_ble_eq_true rfl) ⟨Nat.le_of_ble_eq_true rfl, Nat.le_of_ble_eq_true rfl⟩
  refine q_calli hR9 hU.2.2.2 hS (fun r_3 u_1 H locs hw_2 hU hS => ?_)
  obtain ⟨hw_2_e, hw_2⟩ := hw_2
  rw [hw_2_e] at hU
  have hw_2 : (r_3 = 1 ∧ ((0 ≤ x ∧ x ≤ 99) ∧ (0 ≤ y ∧ y ≤ 99))) ∨ (r_3 = 0 ∧ (¬ ((0 ≤ x ∧ x ≤ 99) ∧ (0 ≤ y ∧ y ≤ 99)))) := hw_2
  rcases hw_2 with ⟨rfl, b2_4⟩ | ⟨rfl, b2_4⟩
  · refine lv_if_eq (tgt := 20) hF.1 hF.2.1 dX11_buyer_5 (by decide) (fun h9 => absurd h9 (by decide)) (fun _ => ?_)
    refine lv_aload_n hF.1 hF.2.1 dX11_buyer_8 rfl (lv_at hl 0 rfl) ?_
    refine q_get (v := .ref (E.2.2 99)) hF hU dX11_buyer_9 0 11 0 1100 1199 rfl rfl rfl rfl inX11 (by decide) (by decide) w_436 rfl rfl ?_
    refine q_get (v := .int (u.1 9)) hF hU dX11_buyer_12 1 0 9 9 99 rfl rfl rfl rfl inX0 (by decide) (by decide) w_167 rfl rfl ?_
    refine lv_bipush (v := 8) hF.1 hF.2.1 dX11_buyer_15 (by decide) ?_
    refine lv_icmp_lt (tgt := 22) hF.1 hF.2.1 dX11_buyer_17 (by decide) (fun c17_5 => ?_) (fun c17_5 => ?_)
    · refine lv_aload_n hF.1 hF.2.1 dX11_buyer_22 rfl (lv_at hl 0 rfl) ?_
      refine q_get (v := .ref (E.2.2 99)) hF hU dX11_buyer_23 0 11 0 1100 1199 rfl rfl rfl rfl inX11 (by decide) (by decide) w_436 rfl rfl ?_
      refine q_get (v := .ref (E.2.2 1)) hF hU dX11_buyer_26 1 0 1 1 99 rfl rfl rfl rfl inX0 (by decide) (by decide) w_147 rfl rfl ?_
      refine lv_aload_n hF.1 hF.2.1 dX11_buyer_29 rfl (lv_at hl 0 rfl) ?_
      refine q_get (v := .ref (E.2.2 99)) hF hU dX11_buyer_30 0 11 0 1100 1199 rfl rfl rfl rfl inX11 (by decide) (by decide) w_436 rfl rfl ?_
      refine q_get (v := .int (u.1 9)) hF hU dX11_buyer_33 1 0 9 9 99 rfl rfl rfl rfl inX0 (by decide) (by decide) w_167 rfl rfl ?_
      refine q_new hF hU hS hA dX11_buyer_36 4 rfl inX4 tyX4 tyX4_ok w_502 w_503 w_109 [.int 0, .int 0] (by decide) (Nat.le_of_ble_eq_true rfl) (Nat.le_of_ble_eq_true rfl) (fun q_6 H hU hS => ?_)
      have hU : qH E A 0 (qsX u (u.2.2.2.2 ++ [(q_6, .inr (4, [.int 0, .int 0]))])) s0 H := hU
      refine lv_dup hF.1 hF.2.1 dX11_buyer_39 rfl ?_
      refine lv_iload_n hF.1 hF.2.1 dX11_buyer_40 rfl (lv_at hl 1 rfl) ?_
      refine lv_iload_n hF.1 hF.2.1 dX11_buyer_41 rfl (lv_at hl 2 rfl) ?_
      have hd9 : (qsX u (u.2.2.2.2 ++ [(q_6, .inr (4, [.int 0, .int 0]))])).2.2.2.2[u.2.2.2.2.length + 0]? = some (q_6, .inr (4, [.int 0, .int 0])) := q_cat (X := u.2.2.2.2) (C := [(q_6, .inr (4, [.int 0, .int 0]))]) (m := 0) rfl rfl
      have hM9 := (k_X4_init l E A 0 (qsX u (u.2.2.2.2 ++ [(q_6, .inr (4, [.int 0, .int 0]))])) q_6 (u.2.2.2.2.length + 0) x y hd9)
      have hR9 := q_runI (l := l) (e := e0) (below := bl0) (meth := me0) (R := qR 2 1 2) (cells := 1) (slots := 2) (st0 := [.int y, .int x, .ref q_6, .ref q_6, .int (u.1 9), .ref (E.2.2 1)]) (rest := [.ref q_6, .int (u.1 9), .ref (E.2.2 1)]) hF hU hS hA 2 hM9 w_504 w_505 w_109 w_506 rfl (by decide +kernel) ⟨Nat.le_of_ble_eq_true rfl, Nat.le_of_ble_eq_true rfl⟩ dX11_buyer_42 rfl hl.1 rfl (Nat.le_of_ble_eq_true rfl) ⟨Nat.le_of_ble_eq_true rfl, Nat.le_of_ble_eq_true rfl⟩
      refine q_callv hR9 hU.2.2.2 hS (fun u_7 H locs hw_8 hU hS => ?_)
      have e9 : (u.2.2.2.2 ++ ([(q_6, .inr (4, [.int 0, .int 0]))] : va_W)).set (u.2.2.2.2.length + 0) (q_6, .inr (4, [.int x, .int y])) ++ [] = u.2.2.2.2 ++ (([(q_6, .inr (4, [.int x, .int y]))] : va_W) ++ []) := q_csub rfl rfl
      have e9 : (u.2.2.2.2 ++ ([(q_6, .inr (4, [.int 0, .int 0]))] : va_W)).set (u.2.2.2.2.length + 0) (q_6, .inr (4, [.int x, .int y])) ++ [] = u.2.2.2.2 ++ ([(q_6, .inr (4, [.int x, .int y]))] : va_W) := e9
      have hU : qH E A 0 (qsX u (u.2.2.2.2 ++ [(q_6, .inr (4, [.int x, .int y]))])) s0 H := by
        have h : qH E A 0 (qsX u ((u.2.2.2.2 ++ ([(q_6, .inr (4, [.int 0, .int 0]))] : va_W)).set (u.2.2.2.2.length + 0) (q_6, .inr (4, [.int x, .int y])) ++ [])) s0 H := by rw [hw_8] at hU; exact hU
        rw [e9] at h; exact h
      have hp_10 := hI.newP (q := q_6) (x := x) (y := y)
      obtain ⟨u_9, hun_u_9⟩ : ∃ zz9 : qS, zz9 = qsX u (u.2.2.2.2 ++ [(q_6, .inr (4, [.int x, .int y]))]) := ⟨_, rfl⟩
      have hU : qH E A 0 u_9 s0 H := by rw [hun_u_9]; exact hU
      have hp_10_f : qFc [] [] [] [] u u_9 := by rw [hun_u_9]; exact hp_10.1.2
      have hI : IC E u_9 := by rw [hun_u_9]; exact hp_10.1.1
      have hfo := hfr
      have hfr : qFc [9] [] [] [1] u u_9 := hfr.trans (hp_10_f.mono (by decide) (by decide) (by decide) (by decide))
      have e_11 : u_9.1 9 = (u.1 9) := (hp_10_f.1 9 (by decide)).trans rfl
      have hr_12 : qRf u_9 q_6 4 := by rw [hun_u_9]; exact hp_10.2
      have hdd : u_9.2.2.2.2[u.2.2.2.2.length]? = some (q_6, .inr (4, [.int x, .int y])) := by rw [hun_u_9]; show (u.2.2.2.2 ++ _)[_]? = _; rw [List.getElem?_append_right (Nat.le_refl _), Nat.sub_self]; rfl
      have hok : ∀ k9 : Nat, k9 < u.2.2.2.2.length → u_9.2.2.2.2[k9]? = u.2.2.2.2[k9]? := fun k9 h9 => by rw [hun_u_9]; exact List.getElem?_append_left h9
      have hx1 : qxr u_9 1 = qxr u 1 := by rw [hun_u_9]; rfl
      obtain ⟨k_13, fs_14, hd_15⟩ := id (hr_12)
      refine q_aast hF hU hS dX11_buyer_45 1 1 5 rfl rfl (by decide) k_13 4 hd_15 rfl rfl (g_X11_buyer_v0 u x y hz8 hz9 hz10 hz12 b2_4 c17_5) (fun f_16 H locs hg_f_16 hU hS => ?_)
      have hfr : qFc [9] [] [] [1] u (qsR u_9 1 f_16) := hfr.setR (by decide)
      have hix : u_9.1 9 = (u.1 9) := e_11
      have hI : IC E (qsR u_9 1 f_16) := by rw [hg_f_16, ← hix]; exact hI.w1
      have hent : f_16 (u.1 9 : Int32).toNatClampNeg = some q_6 := by rw [hg_f_16]; exact g_vs
      refine lv_aload_n hF.1 hF.2.1 dX11_buyer_46 rfl (lv_at hl 0 rfl) ?_
      refine q_get (v := .ref (E.2.2 99)) hF hU dX11_buyer_47 0 11 0 1100 1199 rfl rfl rfl rfl inX11 (by decide) (by decide) w_436 rfl rfl ?_
      refine lv_dup hF.1 hF.2.1 dX11_buyer_50 rfl ?_
      refine q_get (v := .int (u.1 9)) hF hU dX11_buyer_51 1 0 9 9 99 rfl rfl rfl rfl inX0 (by decide) (by decide) w_167 rfl (congrArg Value.int e_11) ?_
      refine lv_iconst (v := 1) hF.1 hF.2.1 dX11_buyer_54 (by decide) ?_
      refine lv_iadd hF.1 hF.2.1 dX11_buyer_55 ?_
      refine q_put hF hU hS dX11_buyer_56 1 0 9 9 99 rfl rfl rfl rfl inX0 tyX0 tyX0_ok nmX0 (by decide) (by decide) rfl w_167 rfl rfl rfl rfl (fun H locs hU hS => ?_)
      have hfr : qFc [9] [] [] [1] u (qsI (qsR u_9 1 f_16) 9 ((u.1 9) + 1)) := hfr.setI (by decide) (fun q => absurd q (by decide))
      have hI : IC E (qsI (qsR u_9 1 f_16) 9 ((u.1 9) + 1)) := hI.s9 (g_X11_buyer_v1 u x y hz8 hz9 hz10 hz12 b2_4 c17_5) (by rw [show (qsR u_9 1 f_16).1 9 = (u.1 9) from e_11]; exact (g_X11_buyer_v3 u x y hz8 hz9 hz10 hz12 b2_4 c17_5)) (fun i a b => (g_lt1 (g_X11_buyer_v2 u x y hz8 hz9 hz10 hz12 b2_4 c17_5) b).elim (fun q => hI.2.2.2.1 i a (by rw [show (qsR u_9 1 f_16).1 9 = (u.1 9) from e_11]; exact q)) (fun q => by rw [q]; exact ⟨q_6, hent, hr_12⟩))
      have hHn : qHn u (qsI (qsR u_9 1 f_16) 9 ((u.1 9) + 1)) x y := ⟨q_6, by show f_16 = _; rw [hg_f_16]; show va_up (qxr u_9 1) _ _ = _; rw [hx1], hdd, hok⟩
      refine lv_aload_n hF.1 hF.2.1 dX11_buyer_59 rfl (lv_at hl 0 rfl) ?_
      refine q_get (v := .ref (E.2.2 99)) hF hU dX11_buyer_60 0 11 0 1100 1199 rfl rfl rfl rfl inX11 (by decide) (by decide) w_436 rfl rfl ?_
      refine q_get (v := .int ((u.1 9) + 1)) hF hU dX11_buyer_63 1 0 9 9 99 rfl rfl rfl rfl inX0 (by decide) (by decide) w_167 rfl rfl ?_
      refine lv_iconst (v := 1) hF.1 hF.2.1 dX11_buyer_66 (by decide) ?_
      refine lv_isub hF.1 hF.2.1 dX11_buyer_67 ?_
      exact q_iret hF hr rfl hlocks hU hS dX11_buyer_68 ⟨⟨hfr, hI⟩, (g_X11_buyer_v4 u x y u_9 f_16 hz8 hz9 hz10 hz12 b2_4 c17_5 hHn)⟩
    · refine lv_iconst (v := (-1)) hF.1 hF.2.1 dX11_buyer_20 (by decide) ?_
      refine W.widen (k := 1) (n := 2) (by decide) (by decide) ?_
      exact q_iret hF hr rfl hlocks hU hS dX11_buyer_21 ⟨⟨hfr, hI⟩, (g_X11_buyer_v5 u x y hz8 hz9 hz10 hz12 b2_4 c17_5)⟩
  · refine lv_if_eq (tgt := 20) hF.1 hF.2.1 dX11_buyer_5 (by decide) (fun _ => ?_) (fun h9 => absurd (by decide) h9)
    refine lv_iconst (v := (-1)) hF.1 hF.2.1 dX11_buyer_20 (by decide) ?_
    refine W.widen (k := 1) (n := 2) (by decide) (by decide) ?_
    exact q_iret hF hr rfl hlocks hU hS dX11_buyer_21 ⟨⟨hfr, hI⟩, (g_X11_buyer_v6 u x y hz8 hz9 hz10 hz12 b2_4)⟩
set_option maxRecDepth 100000 in
theorem g_X11_shop_v0 (u : qS) (x : Int32) (y : Int32) (c : Int32) (f : Int32) (t : Int32) (z : Int32) (hz : z = 1 ∨ z = 0) (hz8 : 0 ≤ u.1 8 ∧ u.1 8 ≤ 20) (hz9 : 0 ≤ u.1 9 ∧ u.1 9 ≤ 8) (hz10 : 0 ≤ u.1 10 ∧ u.1 10 ≤ 120) (hz12 : 0 ≤ u.1 12 ∧ u.1 12 ≤ 16) (b2_4 : (0 ≤ x ∧ x ≤ 99) ∧ (0 ≤ y ∧ y ≤ 99)) (b9_8 : 0 ≤ c ∧ c ≤ 3) (b17_12 : 0 ≤ f ∧ f ≤ 1439) (b25_16 : 0 ≤ t ∧ t ≤ 1439) (c35_17 : (f : Int32) ≤ t) (c49_18 : (u.1 8 : Int32) < 20) : vp_in (u.1 8) 20 := by
  refine g_in ?_ ?_ <;> ((try simp only [g_m1, Int32.lt_iff_toInt_lt, Int32.le_iff_toInt_le, ← Int32.toInt_inj, Int32.toInt_add, Int32.toInt_sub, Int32.toInt_mul, Int32.toInt_neg, Int32.reduceToInt, g_bm, g_bm'] at *); omega)
set_option maxRecDepth 100000 in
theorem g_X11_shop_v1 (u : qS) (x : Int32) (y : Int32) (c : Int32) (f : Int32) (t : Int32) (z : Int32) (hz : z = 1 ∨ z = 0) (hz8 : 0 ≤ u.1 8 ∧ u.1 8 ≤ 20) (hz9 : 0 ≤ u.1 9 ∧ u.1 9 ≤ 8) (hz10 : 0 ≤ u.1 10 ∧ u.1 10 ≤ 120) (hz12 : 0 ≤ u.1 12 ∧ u.1 12 ≤ 16) (b2_4 : (0 ≤ x ∧ x ≤ 99) ∧ (0 ≤ y ∧ y ≤ 99)) (b9_8 : 0 ≤ c ∧ c ≤ 3) (b17_12 : 0 ≤ f ∧ f ≤ 1439) (b25_16 : 0 ≤ t ∧ t ≤ 1439) (c35_17 : (f : Int32) ≤ t) (c49_18 : (u.1 8 : Int32) < 20) : 0 ≤ ((u.1 8) + 1 : Int32) ∧ ((u.1 8) + 1 : Int32) ≤ 20 := by
  first | omega | ((try simp only [g_m1, Int32.lt_iff_toInt_lt, Int32.le_iff_toInt_le, ← Int32.toInt_inj, Int32.reduceToInt] at *); omega) | ((try have ez0 : ((u.1 8) + 1 : Int32).toInt = (u.1 8 : Int32).toInt + (1 : Int32).toInt := g_add (by (try simp only [g_m1, Int32.lt_iff_toInt_lt, Int32.le_iff_toInt_le, ← Int32.toInt_inj, Int32.reduceToInt] at *); omega) (by (try simp only [g_m1, Int32.lt_iff_toInt_lt, Int32.le_iff_toInt_le, ← Int32.toInt_inj, Int32.reduceToInt] at *); omega)); (try simp only [g_m1, Int32.lt_iff_toInt_lt, Int32.le_iff_toInt_le, ← Int32.toInt_inj, Int32.reduceToInt] at *); omega) | ((try simp only [g_m1, Int32.lt_iff_toInt_lt, Int32.le_iff_toInt_le, ← Int32.toInt_inj, Int32.toInt_add, Int32.toInt_sub, Int32.toInt_mul, Int32.toInt_neg, Int32.reduceToInt, g_bm, g_bm'] at *); omega) | (have qr1 := g_rng x; have qr2 := g_rng y; have qr3 := g_rng c; have qr4 := g_rng f; have qr5 := g_rng t; have qr6 := g_rng z; (try simp only [g_m1, Int32.lt_iff_toInt_lt, Int32.le_iff_toInt_le, ← Int32.toInt_inj, Int32.toInt_add, Int32.toInt_sub, Int32.toInt_mul, Int32.toInt_neg, Int32.reduceToInt, g_bm, g_bm'] at *); omega) | (simp only [g_m1, Int32.lt_iff_toInt_lt, Int32.le_iff_toInt_le, ← Int32.toInt_inj, Int32.toInt_add, Int32.toInt_sub, Int32.toInt_mul, Int32.toInt_neg, Int32.reduceToInt, g_bm, g_bm'] at *; simp at *; omega) | (simp_all; done)
set_option maxRecDepth 100000 in
theorem g_X11_shop_v2 (u : qS) (x : Int32) (y : Int32) (c : Int32) (f : Int32) (t : Int32) (z : Int32) (hz : z = 1 ∨ z = 0) (hz8 : 0 ≤ u.1 8 ∧ u.1 8 ≤ 20) (hz9 : 0 ≤ u.1 9 ∧ u.1 9 ≤ 8) (hz10 : 0 ≤ u.1 10 ∧ u.1 10 ≤ 120) (hz12 : 0 ≤ u.1 12 ∧ u.1 12 ≤ 16) (b2_4 : (0 ≤ x ∧ x ≤ 99) ∧ (0 ≤ y ∧ y ≤ 99)) (b9_8 : 0 ≤ c ∧ c ≤ 3) (b17_12 : 0 ≤ f ∧ f ≤ 1439) (b25_16 : 0 ≤ t ∧ t ≤ 1439) (c35_17 : (f : Int32) ≤ t) (c49_18 : (u.1 8 : Int32) < 20) : ((u.1 8) + 1 : Int32).toInt = (u.1 8 : Int32).toInt + 1 := by
  exact (g_up (by (try simp only [g_m1, Int32.lt_iff_toInt_lt, Int32.le_iff_toInt_le, ← Int32.toInt_inj, Int32.reduceToInt] at *); omega) (by (try simp only [g_m1, Int32.lt_iff_toInt_lt, Int32.le_iff_toInt_le, ← Int32.toInt_inj, Int32.reduceToInt] at *); omega)).1
set_option maxRecDepth 100000 in
theorem g_X11_shop_v3 (u : qS) (x : Int32) (y : Int32) (c : Int32) (f : Int32) (t : Int32) (z : Int32) (hz : z = 1 ∨ z = 0) (hz8 : 0 ≤ u.1 8 ∧ u.1 8 ≤ 20) (hz9 : 0 ≤ u.1 9 ∧ u.1 9 ≤ 8) (hz10 : 0 ≤ u.1 10 ∧ u.1 10 ≤ 120) (hz12 : 0 ≤ u.1 12 ∧ u.1 12 ≤ 16) (b2_4 : (0 ≤ x ∧ x ≤ 99) ∧ (0 ≤ y ∧ y ≤ 99)) (b9_8 : 0 ≤ c ∧ c ≤ 3) (b17_12 : 0 ≤ f ∧ f ≤ 1439) (b25_16 : 0 ≤ t ∧ t ≤ 1439) (c35_17 : (f : Int32) ≤ t) (c49_18 : (u.1 8 : Int32) < 20) : (u.1 8 : Int32) ≤ ((u.1 8) + 1 : Int32) := by
  have z := (g_up (i := u.1 8) (by (try simp only [g_m1, Int32.lt_iff_toInt_lt, Int32.le_iff_toInt_le, ← Int32.toInt_inj, Int32.reduceToInt] at *); omega) (by (try simp only [g_m1, Int32.lt_iff_toInt_lt, Int32.le_iff_toInt_le, ← Int32.toInt_inj, Int32.reduceToInt] at *); omega)).1; (try simp only [g_m1, Int32.lt_iff_toInt_lt, Int32.le_iff_toInt_le, ← Int32.toInt_inj, Int32.reduceToInt] at *); omega
set_option maxRecDepth 100000 in
theorem g_X11_shop_v4 (u : qS) (x : Int32) (y : Int32) (c : Int32) (f : Int32) (t : Int32) (z : Int32) (u_25 : qS) (f_32 : Nat → Option Nat) (hz : z = 1 ∨ z = 0) (hz8 : 0 ≤ u.1 8 ∧ u.1 8 ≤ 20) (hz9 : 0 ≤ u.1 9 ∧ u.1 9 ≤ 8) (hz10 : 0 ≤ u.1 10 ∧ u.1 10 ≤ 120) (hz12 : 0 ≤ u.1 12 ∧ u.1 12 ≤ 16) (b2_4 : (0 ≤ x ∧ x ≤ 99) ∧ (0 ≤ y ∧ y ≤ 99)) (b9_8 : 0 ≤ c ∧ c ≤ 3) (b17_12 : 0 ≤ f ∧ f ≤ 1439) (b25_16 : 0 ≤ t ∧ t ≤ 1439) (c35_17 : (f : Int32) ≤ t) (c49_18 : (u.1 8 : Int32) < 20) (hSn : qSn u (qsI (qsR u_25 0 f_32) 8 ((u.1 8) + 1)) x y c f t z) : ((((0 ≤ x ∧ x ≤ 99) ∧ (0 ≤ y ∧ y ≤ 99)) ∧ (0 ≤ c ∧ c ≤ 3) ∧ (0 ≤ f ∧ f ≤ 1439) ∧ (f ≤ t ∧ t ≤ 1439) ∧ u.1 8 < 20) ∧ (((u.1 8) + 1) - 1 : Int32) = u.1 8 ∧ ((u.1 8) + 1 : Int32) = u.1 8 + 1 ∧ qSn u (qsI (qsR u_25 0 f_32) 8 ((u.1 8) + 1)) x y c f t z) ∨ (¬ (((0 ≤ x ∧ x ≤ 99) ∧ (0 ≤ y ∧ y ≤ 99)) ∧ (0 ≤ c ∧ c ≤ 3) ∧ (0 ≤ f ∧ f ≤ 1439) ∧ (f ≤ t ∧ t ≤ 1439) ∧ u.1 8 < 20) ∧ (((u.1 8) + 1) - 1 : Int32) = -1 ∧ ((u.1 8) + 1 : Int32) = u.1 8 ∧ qS0 u (qsI (qsR u_25 0 f_32) 8 ((u.1 8) + 1))) := by
  first | (refine Or.inl ⟨⟨?_, ?_, ?_, ?_, ?_⟩, ?_, rfl, ?_⟩ <;> first | assumption | (clear hSn; (try simp only [g_m1, Int32.lt_iff_toInt_lt, Int32.le_iff_toInt_le, ← Int32.toInt_inj, Int32.reduceToInt] at *); omega) | (clear hSn; (try simp only [g_m1, Int32.lt_iff_toInt_lt, Int32.le_iff_toInt_le, ← Int32.toInt_inj, Int32.toInt_add, Int32.toInt_sub, Int32.toInt_mul, Int32.toInt_neg, Int32.reduceToInt, g_bm, g_bm'] at *); omega)) | exact Or.inr ⟨fun q0 => (by obtain ⟨q1, q2, q3, q4, q5⟩ := q0; (try simp only [g_m1, Int32.lt_iff_toInt_lt, Int32.le_iff_toInt_le, ← Int32.toInt_inj, Int32.reduceToInt] at *); omega), rfl, rfl, rfl, rfl⟩
set_option maxRecDepth 100000 in
theorem g_X11_shop_v5 (u : qS) (x : Int32) (y : Int32) (c : Int32) (f : Int32) (t : Int32) (z : Int32) (hz : z = 1 ∨ z = 0) (hz8 : 0 ≤ u.1 8 ∧ u.1 8 ≤ 20) (hz9 : 0 ≤ u.1 9 ∧ u.1 9 ≤ 8) (hz10 : 0 ≤ u.1 10 ∧ u.1 10 ≤ 120) (hz12 : 0 ≤ u.1 12 ∧ u.1 12 ≤ 16) (b2_4 : (0 ≤ x ∧ x ≤ 99) ∧ (0 ≤ y ∧ y ≤ 99)) (b9_8 : 0 ≤ c ∧ c ≤ 3) (b17_12 : 0 ≤ f ∧ f ≤ 1439) (b25_16 : 0 ≤ t ∧ t ≤ 1439) (c35_17 : (f : Int32) ≤ t) (c49_18 : ¬ (u.1 8 : Int32) < 20) : ((((0 ≤ x ∧ x ≤ 99) ∧ (0 ≤ y ∧ y ≤ 99)) ∧ (0 ≤ c ∧ c ≤ 3) ∧ (0 ≤ f ∧ f ≤ 1439) ∧ (f ≤ t ∧ t ≤ 1439) ∧ u.1 8 < 20) ∧ ((-1) : Int32) = u.1 8 ∧ (u.1 8 : Int32) = u.1 8 + 1 ∧ qSn u u x y c f t z) ∨ (¬ (((0 ≤ x ∧ x ≤ 99) ∧ (0 ≤ y ∧ y ≤ 99)) ∧ (0 ≤ c ∧ c ≤ 3) ∧ (0 ≤ f ∧ f ≤ 1439) ∧ (f ≤ t ∧ t ≤ 1439) ∧ u.1 8 < 20) ∧ ((-1) : Int32) = -1 ∧ (u.1 8 : Int32) = u.1 8 ∧ qS0 u u) := by
  first | (refine Or.inl ⟨⟨?_, ?_, ?_, ?_, ?_⟩, ?_, rfl, ?_⟩ <;> first | assumption | (clear hSn; (try simp only [g_m1, Int32.lt_iff_toInt_lt, Int32.le_iff_toInt_le, ← Int32.toInt_inj, Int32.reduceToInt] at *); omega) | (clear hSn; (try simp only [g_m1, Int32.lt_iff_toInt_lt, Int32.le_iff_toInt_le, ← Int32.toInt_inj, Int32.toInt_add, Int32.toInt_sub, Int32.toInt_mul, Int32.toInt_neg, Int32.reduceToInt, g_bm, g_bm'] at *); omega)) | exact Or.inr ⟨fun q0 => (by obtain ⟨q1, q2, q3, q4, q5⟩ := q0; (try simp only [g_m1, Int32.lt_iff_toInt_lt, Int32.le_iff_toInt_le, ← Int32.toInt_inj, Int32.reduceToInt] at *); omega), rfl, rfl, rfl, rfl⟩
set_option maxRecDepth 100000 in
theorem g_X11_shop_v6 (u : qS) (x : Int32) (y : Int32) (c : Int32) (f : Int32) (t : Int32) (z : Int32) (hz : z = 1 ∨ z = 0) (hz8 : 0 ≤ u.1 8 ∧ u.1 8 ≤ 20) (hz9 : 0 ≤ u.1 9 ∧ u.1 9 ≤ 8) (hz10 : 0 ≤ u.1 10 ∧ u.1 10 ≤ 120) (hz12 : 0 ≤ u.1 12 ∧ u.1 12 ≤ 16) (b2_4 : (0 ≤ x ∧ x ≤ 99) ∧ (0 ≤ y ∧ y ≤ 99)) (b9_8 : 0 ≤ c ∧ c ≤ 3) (b17_12 : 0 ≤ f ∧ f ≤ 1439) (b25_16 : 0 ≤ t ∧ t ≤ 1439) (c35_17 : ¬ (f : Int32) ≤ t) : ((((0 ≤ x ∧ x ≤ 99) ∧ (0 ≤ y ∧ y ≤ 99)) ∧ (0 ≤ c ∧ c ≤ 3) ∧ (0 ≤ f ∧ f ≤ 1439) ∧ (f ≤ t ∧ t ≤ 1439) ∧ u.1 8 < 20) ∧ ((-1) : Int32) = u.1 8 ∧ (u.1 8 : Int32) = u.1 8 + 1 ∧ qSn u u x y c f t z) ∨ (¬ (((0 ≤ x ∧ x ≤ 99) ∧ (0 ≤ y ∧ y ≤ 99)) ∧ (0 ≤ c ∧ c ≤ 3) ∧ (0 ≤ f ∧ f ≤ 1439) ∧ (f ≤ t ∧ t ≤ 1439) ∧ u.1 8 < 20) ∧ ((-1) : Int32) = -1 ∧ (u.1 8 : Int32) = u.1 8 ∧ qS0 u u) := by
  first | (refine Or.inl ⟨⟨?_, ?_, ?_, ?_, ?_⟩, ?_, rfl, ?_⟩ <;> first | assumption | (clear hSn; (try simp only [g_m1, Int32.lt_iff_toInt_lt, Int32.le_iff_toInt_le, ← Int32.toInt_inj, Int32.reduceToInt] at *); omega) | (clear hSn; (try simp only [g_m1, Int32.lt_iff_toInt_lt, Int32.le_iff_toInt_le, ← Int32.toInt_inj, Int32.toInt_add, Int32.toInt_sub, Int32.toInt_mul, Int32.toInt_neg, Int32.reduceToInt, g_bm, g_bm'] at *); omega)) | exact Or.inr ⟨fun q0 => (by obtain ⟨q1, q2, q3, q4, q5⟩ := q0; (try simp only [g_m1, Int32.lt_iff_toInt_lt, Int32.le_iff_toInt_le, ← Int32.toInt_inj, Int32.reduceToInt] at *); omega), rfl, rfl, rfl, rfl⟩
set_option maxRecDepth 100000 in
theorem g_X11_shop_v7 (u : qS) (x : Int32) (y : Int32) (c : Int32) (f : Int32) (t : Int32) (z : Int32) (hz : z = 1 ∨ z = 0) (hz8 : 0 ≤ u.1 8 ∧ u.1 8 ≤ 20) (hz9 : 0 ≤ u.1 9 ∧ u.1 9 ≤ 8) (hz10 : 0 ≤ u.1 10 ∧ u.1 10 ≤ 120) (hz12 : 0 ≤ u.1 12 ∧ u.1 12 ≤ 16) (b2_4 : (0 ≤ x ∧ x ≤ 99) ∧ (0 ≤ y ∧ y ≤ 99)) (b9_8 : 0 ≤ c ∧ c ≤ 3) (b17_12 : 0 ≤ f ∧ f ≤ 1439) (b25_16 : ¬ (0 ≤ t ∧ t ≤ 1439)) : ((((0 ≤ x ∧ x ≤ 99) ∧ (0 ≤ y ∧ y ≤ 99)) ∧ (0 ≤ c ∧ c ≤ 3) ∧ (0 ≤ f ∧ f ≤ 1439) ∧ (f ≤ t ∧ t ≤ 1439) ∧ u.1 8 < 20) ∧ ((-1) : Int32) = u.1 8 ∧ (u.1 8 : Int32) = u.1 8 + 1 ∧ qSn u u x y c f t z) ∨ (¬ (((0 ≤ x ∧ x ≤ 99) ∧ (0 ≤ y ∧ y ≤ 99)) ∧ (0 ≤ c ∧ c ≤ 3) ∧ (0 ≤ f ∧ f ≤ 1439) ∧ (f ≤ t ∧ t ≤ 1439) ∧ u.1 8 < 20) ∧ ((-1) : Int32) = -1 ∧ (u.1 8 : Int32) = u.1 8 ∧ qS0 u u) := by
  first | (refine Or.inl ⟨⟨?_, ?_, ?_, ?_, ?_⟩, ?_, rfl, ?_⟩ <;> first | assumption | (clear hSn; (try simp only [g_m1, Int32.lt_iff_toInt_lt, Int32.le_iff_toInt_le, ← Int32.toInt_inj, Int32.reduceToInt] at *); omega) | (clear hSn; (try simp only [g_m1, Int32.lt_iff_toInt_lt, Int32.le_iff_toInt_le, ← Int32.toInt_inj, Int32.toInt_add, Int32.toInt_sub, Int32.toInt_mul, Int32.toInt_neg, Int32.reduceToInt, g_bm, g_bm'] at *); omega)) | exact Or.inr ⟨fun q0 => (by obtain ⟨q1, q2, q3, q4, q5⟩ := q0; (try simp only [g_m1, Int32.lt_iff_toInt_lt, Int32.le_iff_toInt_le, ← Int32.toInt_inj, Int32.reduceToInt] at *); omega), rfl, rfl, rfl, rfl⟩
set_option maxRecDepth 100000 in
theorem g_X11_shop_v8 (u : qS) (x : Int32) (y : Int32) (c : Int32) (f : Int32) (t : Int32) (z : Int32) (hz : z = 1 ∨ z = 0) (hz8 : 0 ≤ u.1 8 ∧ u.1 8 ≤ 20) (hz9 : 0 ≤ u.1 9 ∧ u.1 9 ≤ 8) (hz10 : 0 ≤ u.1 10 ∧ u.1 10 ≤ 120) (hz12 : 0 ≤ u.1 12 ∧ u.1 12 ≤ 16) (b2_4 : (0 ≤ x ∧ x ≤ 99) ∧ (0 ≤ y ∧ y ≤ 99)) (b9_8 : 0 ≤ c ∧ c ≤ 3) (b17_12 : ¬ (0 ≤ f ∧ f ≤ 1439)) : ((((0 ≤ x ∧ x ≤ 99) ∧ (0 ≤ y ∧ y ≤ 99)) ∧ (0 ≤ c ∧ c ≤ 3) ∧ (0 ≤ f ∧ f ≤ 1439) ∧ (f ≤ t ∧ t ≤ 1439) ∧ u.1 8 < 20) ∧ ((-1) : Int32) = u.1 8 ∧ (u.1 8 : Int32) = u.1 8 + 1 ∧ qSn u u x y c f t z) ∨ (¬ (((0 ≤ x ∧ x ≤ 99) ∧ (0 ≤ y ∧ y ≤ 99)) ∧ (0 ≤ c ∧ c ≤ 3) ∧ (0 ≤ f ∧ f ≤ 1439) ∧ (f ≤ t ∧ t ≤ 1439) ∧ u.1 8 < 20) ∧ ((-1) : Int32) = -1 ∧ (u.1 8 : Int32) = u.1 8 ∧ qS0 u u) := by
  first | (refine Or.inl ⟨⟨?_, ?_, ?_, ?_, ?_⟩, ?_, rfl, ?_⟩ <;> first | assumption | (clear hSn; (try simp only [g_m1, Int32.lt_iff_toInt_lt, Int32.le_iff_toInt_le, ← Int32.toInt_inj, Int32.reduceToInt] at *); omega) | (clear hSn; (try simp only [g_m1, Int32.lt_iff_toInt_lt, Int32.le_iff_toInt_le, ← Int32.toInt_inj, Int32.toInt_add, Int32.toInt_sub, Int32.toInt_mul, Int32.toInt_neg, Int32.reduceToInt, g_bm, g_bm'] at *); omega)) | exact Or.inr ⟨fun q0 => (by obtain ⟨q1, q2, q3, q4, q5⟩ := q0; (try simp only [g_m1, Int32.lt_iff_toInt_lt, Int32.le_iff_toInt_le, ← Int32.toInt_inj, Int32.reduceToInt] at *); omega), rfl, rfl, rfl, rfl⟩
set_option maxRecDepth 100000 in
theorem g_X11_shop_v9 (u : qS) (x : Int32) (y : Int32) (c : Int32) (f : Int32) (t : Int32) (z : Int32) (hz : z = 1 ∨ z = 0) (hz8 : 0 ≤ u.1 8 ∧ u.1 8 ≤ 20) (hz9 : 0 ≤ u.1 9 ∧ u.1 9 ≤ 8) (hz10 : 0 ≤ u.1 10 ∧ u.1 10 ≤ 120) (hz12 : 0 ≤ u.1 12 ∧ u.1 12 ≤ 16) (b2_4 : (0 ≤ x ∧ x ≤ 99) ∧ (0 ≤ y ∧ y ≤ 99)) (b9_8 : ¬ (0 ≤ c ∧ c ≤ 3)) : ((((0 ≤ x ∧ x ≤ 99) ∧ (0 ≤ y ∧ y ≤ 99)) ∧ (0 ≤ c ∧ c ≤ 3) ∧ (0 ≤ f ∧ f ≤ 1439) ∧ (f ≤ t ∧ t ≤ 1439) ∧ u.1 8 < 20) ∧ ((-1) : Int32) = u.1 8 ∧ (u.1 8 : Int32) = u.1 8 + 1 ∧ qSn u u x y c f t z) ∨ (¬ (((0 ≤ x ∧ x ≤ 99) ∧ (0 ≤ y ∧ y ≤ 99)) ∧ (0 ≤ c ∧ c ≤ 3) ∧ (0 ≤ f ∧ f ≤ 1439) ∧ (f ≤ t ∧ t ≤ 1439) ∧ u.1 8 < 20) ∧ ((-1) : Int32) = -1 ∧ (u.1 8 : Int32) = u.1 8 ∧ qS0 u u) := by
  first | (refine Or.inl ⟨⟨?_, ?_, ?_, ?_, ?_⟩, ?_, rfl, ?_⟩ <;> first | assumption | (clear hSn; (try simp only [g_m1, Int32.lt_iff_toInt_lt, Int32.le_iff_toInt_le, ← Int32.toInt_inj, Int32.reduceToInt] at *); omega) | (clear hSn; (try simp only [g_m1, Int32.lt_iff_toInt_lt, Int32.le_iff_toInt_le, ← Int32.toInt_inj, Int32.toInt_add, Int32.toInt_sub, Int32.toInt_mul, Int32.toInt_neg, Int32.reduceToInt, g_bm, g_bm'] at *); omega)) | exact Or.inr ⟨fun q0 => (by obtain ⟨q1, q2, q3, q4, q5⟩ := q0; (try simp only [g_m1, Int32.lt_iff_toInt_lt, Int32.le_iff_toInt_le, ← Int32.toInt_inj, Int32.reduceToInt] at *); omega), rfl, rfl, rfl, rfl⟩
set_option maxRecDepth 100000 in
theorem g_X11_shop_v10 (u : qS) (x : Int32) (y : Int32) (c : Int32) (f : Int32) (t : Int32) (z : Int32) (hz : z = 1 ∨ z = 0) (hz8 : 0 ≤ u.1 8 ∧ u.1 8 ≤ 20) (hz9 : 0 ≤ u.1 9 ∧ u.1 9 ≤ 8) (hz10 : 0 ≤ u.1 10 ∧ u.1 10 ≤ 120) (hz12 : 0 ≤ u.1 12 ∧ u.1 12 ≤ 16) (b2_4 : ¬ ((0 ≤ x ∧ x ≤ 99) ∧ (0 ≤ y ∧ y ≤ 99))) : ((((0 ≤ x ∧ x ≤ 99) ∧ (0 ≤ y ∧ y ≤ 99)) ∧ (0 ≤ c ∧ c ≤ 3) ∧ (0 ≤ f ∧ f ≤ 1439) ∧ (f ≤ t ∧ t ≤ 1439) ∧ u.1 8 < 20) ∧ ((-1) : Int32) = u.1 8 ∧ (u.1 8 : Int32) = u.1 8 + 1 ∧ qSn u u x y c f t z) ∨ (¬ (((0 ≤ x ∧ x ≤ 99) ∧ (0 ≤ y ∧ y ≤ 99)) ∧ (0 ≤ c ∧ c ≤ 3) ∧ (0 ≤ f ∧ f ≤ 1439) ∧ (f ≤ t ∧ t ≤ 1439) ∧ u.1 8 < 20) ∧ ((-1) : Int32) = -1 ∧ (u.1 8 : Int32) = u.1 8 ∧ qS0 u u) := by
  first | (refine Or.inl ⟨⟨?_, ?_, ?_, ?_, ?_⟩, ?_, rfl, ?_⟩ <;> first | assumption | (clear hSn; (try simp only [g_m1, Int32.lt_iff_toInt_lt, Int32.le_iff_toInt_le, ← Int32.toInt_inj, Int32.reduceToInt] at *); omega) | (clear hSn; (try simp only [g_m1, Int32.lt_iff_toInt_lt, Int32.le_iff_toInt_le, ← Int32.toInt_inj, Int32.toInt_add, Int32.toInt_sub, Int32.toInt_mul, Int32.toInt_neg, Int32.reduceToInt, g_bm, g_bm'] at *); omega)) | exact Or.inr ⟨fun q0 => (by obtain ⟨q1, q2, q3, q4, q5⟩ := q0; (try simp only [g_m1, Int32.lt_iff_toInt_lt, Int32.le_iff_toInt_le, ← Int32.toInt_inj, Int32.reduceToInt] at *); omega), rfl, rfl, rfl, rfl⟩
set_option maxHeartbeats 1000000 in
set_option maxRecDepth 100000 in
theorem g_X11_shop (l : Launch) (E : qE) (A : Nat → Prop) (u : qS) (x : Int32) (y : Int32) (c : Int32) (f : Int32) (t : Int32) (z : Int32) (hI : IC E u) (hz : z = 1 ∨ z = 0) : Met l yX11_shop (uws yX11_shop cX11_shop 7 (some .int)) (qR 2 2 7) (qPc E A 0 u [.ref (E.2.2 1199), .int x, .int y, .int c, .int f, .int t, .int z]) (qQi E A 0 (fun r u1 => (qFc [8] [] [] [0] u u1 ∧ IC E u1) ∧ (((((0 ≤ x ∧ x ≤ 99) ∧ (0 ≤ y ∧ y ≤ 99)) ∧ (0 ≤ c ∧ c ≤ 3) ∧ (0 ≤ f ∧ f ≤ 1439) ∧ (f ≤ t ∧ t ≤ 1439) ∧ u.1 8 < 20) ∧ r = u.1 8 ∧ u1.1 8 = u.1 8 + 1 ∧ qSn u u1 x y c f t z) ∨ (¬ (((0 ≤ x ∧ x ≤ 99) ∧ (0 ≤ y ∧ y ≤ 99)) ∧ (0 ≤ c ∧ c ≤ 3) ∧ (0 ≤ f ∧ f ≤ 1439) ∧ (f ≤ t ∧ t ≤ 1439) ∧ u.1 8 < 20) ∧ r = -1 ∧ u1.1 8 = u.1 8 ∧ qS0 u u1)))) 2 7 A := by
  refine q_met (own := RX11) (f := 2) [.ref (E.2.2 1199), .int x, .int y, .int c, .int f, .int t, .int z] (by decide) (Nat.le_of_ble_eq_true rfl) rfl ?_
  intro p0 e0 s0 m0 bl0 me0 cd0 ls hF hr hlocks hU hS hA hl
  have hl : lv_has ls 7 [(0, .ref (E.2.2 1199)), (1, .int x), (2, .int y), (3, .int c), (4, .int f), (5, .int t), (6, .int z)] := hl
  have hz8 : 0 ≤ u.1 8 ∧ u.1 8 ≤ 20 := hI.1.s8
  have hz9 : 0 ≤ u.1 9 ∧ u.1 9 ≤ 8 := hI.1.s9
  have hz10 : 0 ≤ u.1 10 ∧ u.1 10 ≤ 120 := hI.1.s10
  have hz12 : 0 ≤ u.1 12 ∧ u.1 12 ≤ 16 := hI.1.s12
  have hfr : qFc [8] [] [] [0] u u := qFc.rf
  have hnar : narrow .boolean (.int z) = .int z := g_nar hz
  have hfit : fits .boolean (.int z) = true := by rcases hz with h | h <;> rw [h] <;> decide
  refine lv_iload_n hF.1 hF.2.1 dX11_shop_0 rfl (lv_at hl 1 rfl) ?_
  refine lv_iload_n hF.1 hF.2.1 dX11_shop_1 rfl (lv_at hl 2 rfl) ?_
  have hM9 := g_X11_isPlace l E A u x y
  have hR9 := q_runS (l := l) (e := e0) (below := bl0) (meth := me0) (R := qR 2 2 7) (cells := 0) (slots := 0) (st0 := [.int y, .int x]) (rest := []) hF hU hS hA 2 hM9 w_491 w_492 w_99 w_493 (by decide +kernel) ⟨Nat.le_of_ble_eq_true rfl, Nat.le_of_ble_eq_true rfl⟩ dX11_shop_2 rfl hl.1 rfl (Nat.le_of_ble_eq_true rfl) ⟨Nat.le_of_ble_eq_true rfl, Nat.le_of_ble_eq_true rfl⟩
  refine q_calli hR9 hU.2.2.2 hS (fun r_3 u_1 H locs hw_2 hU hS => ?_)
  obtain ⟨hw_2_e, hw_2⟩ := hw_2
  rw [hw_2_e] at hU
  have hw_2 : (r_3 = 1 ∧ ((0 ≤ x ∧ x ≤ 99) ∧ (0 ≤ y ∧ y ≤ 99))) ∨ (r_3 = 0 ∧ (¬ ((0 ≤ x ∧ x ≤ 99) ∧ (0 ≤ y ∧ y ≤ 99)))) := hw_2
  rcases hw_2 with ⟨rfl, b2_4⟩ | ⟨rfl, b2_4⟩
  · refine lv_if_eq (tgt := 38) hF.1 hF.2.1 dX11_shop_5 (by decide) (fun h9 => absurd h9 (by decide)) (fun _ => ?_)
    refine lv_iload_n hF.1 hF.2.1 dX11_shop_8 rfl (lv_at hl 3 rfl) ?_
    have hM9 := g_X11_isChain l E A u c
    have hR9 := q_runS (l := l) (e := e0) (below := bl0) (meth := me0) (R := qR 2 2 7) (cells := 0) (slots := 0) (st0 := [.int c]) (rest := []) hF hU hS hA 1 hM9 w_494 w_495 w_99 w_496 (by decide +kernel) ⟨Nat.le_of_ble_eq_true rfl, Nat.le_of_ble_eq_true rfl⟩ dX11_shop_9 rfl hl.1 rfl (Nat.le_of_ble_eq_true rfl) ⟨Nat.le_of_ble_eq_true rfl, Nat.le_of_ble_eq_true rfl⟩
    refine q_calli hR9 hU.2.2.2 hS (fun r_7 u_5 H locs hw_6 hU hS => ?_)
    obtain ⟨hw_6_e, hw_6⟩ := hw_6
    rw [hw_6_e] at hU
    have hw_6 : (r_7 = 1 ∧ (0 ≤ c ∧ c ≤ 3)) ∨ (r_7 = 0 ∧ (¬ (0 ≤ c ∧ c ≤ 3))) := hw_6
    rcases hw_6 with ⟨rfl, b9_8⟩ | ⟨rfl, b9_8⟩
    · refine lv_if_eq (tgt := 38) hF.1 hF.2.1 dX11_shop_12 (by decide) (fun h9 => absurd h9 (by decide)) (fun _ => ?_)
      refine lv_iload hF.1 hF.2.1 dX11_shop_15 (lv_at hl 4 rfl) ?_
      have hM9 := g_X11_isMinute l E A u f
      have hR9 := q_runS (l := l) (e := e0) (below := bl0) (meth := me0) (R := qR 2 2 7) (cells := 0) (slots := 0) (st0 := [.int f]) (rest := []) hF hU hS hA 1 hM9 w_497 w_498 w_99 w_499 (by decide +kernel) ⟨Nat.le_of_ble_eq_true rfl, Nat.le_of_ble_eq_true rfl⟩ dX11_shop_17 rfl hl.1 rfl (Nat.le_of_ble_eq_true rfl) ⟨Nat.le_of_ble_eq_true rfl, Nat.le_of_ble_eq_true rfl⟩
      refine q_calli hR9 hU.2.2.2 hS (fun r_11 u_9 H locs hw_10 hU hS => ?_)
      obtain ⟨hw_10_e, hw_10⟩ := hw_10
      rw [hw_10_e] at hU
      have hw_10 : (r_11 = 1 ∧ (0 ≤ f ∧ f ≤ 1439)) ∨ (r_11 = 0 ∧ (¬ (0 ≤ f ∧ f ≤ 1439))) := hw_10
      rcases hw_10 with ⟨rfl, b17_12⟩ | ⟨rfl, b17_12⟩
      · refine lv_if_eq (tgt := 38) hF.1 hF.2.1 dX11_shop_20 (by decide) (fun h9 => absurd h9 (by decide)) (fun _ => ?_)
        refine lv_iload hF.1 hF.2.1 dX11_shop_23 (lv_at hl 5 rfl) ?_
        have hM9 := g_X11_isMinute l E A u t
        have hR9 := q_runS (l := l) (e := e0) (below := bl0) (meth := me0) (R := qR 2 2 7) (cells := 0) (slots := 0) (st0 := [.int t]) (rest := []) hF hU hS hA 1 hM9 w_497 w_498 w_99 w_499 (by decide +kernel) ⟨Nat.le_of_ble_eq_true rfl, Nat.le_of_ble_eq_true rfl⟩ dX11_shop_25 rfl hl.1 rfl (Nat.le_of_ble_eq_true rfl) ⟨Nat.le_of_ble_eq_true rfl, Nat.le_of_ble_eq_true rfl⟩
        refine q_calli hR9 hU.2.2.2 hS (fun r_15 u_13 H locs hw_14 hU hS => ?_)
        obtain ⟨hw_14_e, hw_14⟩ := hw_14
        rw [hw_14_e] at hU
        have hw_14 : (r_15 = 1 ∧ (0 ≤ t ∧ t ≤ 1439)) ∨ (r_15 = 0 ∧ (¬ (0 ≤ t ∧ t ≤ 1439))) := hw_14
        rcases hw_14 with ⟨rfl, b25_16⟩ | ⟨rfl, b25_16⟩
        · refine lv_if_eq (tgt := 38) hF.1 hF.2.1 dX11_shop_28 (by decide) (fun h9 => absurd h9 (by decide)) (fun _ => ?_)
          refine lv_iload hF.1 hF.2.1 dX11_shop_31 (lv_at hl 4 rfl) ?_
          refine lv_iload hF.1 hF.2.1 dX11_shop_33 (lv_at hl 5 rfl) ?_
          refine lv_icmp_le (tgt := 40) hF.1 hF.2.1 dX11_shop_35 (by decide) (fun c35_17 => ?_) (fun c35_17 => ?_)
          · refine lv_aload_n hF.1 hF.2.1 dX11_shop_40 rfl (lv_at hl 0 rfl) ?_
            refine q_get (v := .ref (E.2.2 99)) hF hU dX11_shop_41 0 11 0 1100 1199 rfl rfl rfl rfl inX11 (by decide) (by decide) w_436 rfl rfl ?_
            refine q_get (v := .int (u.1 8)) hF hU dX11_shop_44 1 0 8 8 99 rfl rfl rfl rfl inX0 (by decide) (by decide) w_162 rfl rfl ?_
            refine lv_bipush (v := 20) hF.1 hF.2.1 dX11_shop_47 (by decide) ?_
            refine lv_icmp_lt (tgt := 54) hF.1 hF.2.1 dX11_shop_49 (by decide) (fun c49_18 => ?_) (fun c49_18 => ?_)
            · refine lv_aload_n hF.1 hF.2.1 dX11_shop_54 rfl (lv_at hl 0 rfl) ?_
              refine q_get (v := .ref (E.2.2 99)) hF hU dX11_shop_55 0 11 0 1100 1199 rfl rfl rfl rfl inX11 (by decide) (by decide) w_436 rfl rfl ?_
              refine q_get (v := .ref (E.2.2 0)) hF hU dX11_shop_58 1 0 0 0 99 rfl rfl rfl rfl inX0 (by decide) (by decide) w_143 rfl rfl ?_
              refine lv_aload_n hF.1 hF.2.1 dX11_shop_61 rfl (lv_at hl 0 rfl) ?_
              refine q_get (v := .ref (E.2.2 99)) hF hU dX11_shop_62 0 11 0 1100 1199 rfl rfl rfl rfl inX11 (by decide) (by decide) w_436 rfl rfl ?_
              refine q_get (v := .int (u.1 8)) hF hU dX11_shop_65 1 0 8 8 99 rfl rfl rfl rfl inX0 (by decide) (by decide) w_162 rfl rfl ?_
              refine q_new hF hU hS hA dX11_shop_68 7 rfl inX7 tyX7 tyX7_ok w_500 w_501 w_108 [.null, .int 0, .int 0, .int 0, .int 0] (by decide) (Nat.le_of_ble_eq_true rfl) (Nat.le_of_ble_eq_true rfl) (fun q_19 H hU hS => ?_)
              have hU : qH E A 0 (qsX u (u.2.2.2.2 ++ [(q_19, .inr (7, [.null, .int 0, .int 0, .int 0, .int 0]))])) s0 H := hU
              refine lv_dup hF.1 hF.2.1 dX11_shop_71 rfl ?_
              refine q_new hF hU hS hA dX11_shop_72 4 rfl inX4 tyX4 tyX4_ok w_502 w_503 w_109 [.int 0, .int 0] (by decide) (Nat.le_of_ble_eq_true rfl) (Nat.le_of_ble_eq_true rfl) (fun q_20 H hU hS => ?_)
              have e7 : (u.2.2.2.2 ++ ([(q_19, .inr (7, [.null, .int 0, .int 0, .int 0, .int 0]))] : va_W)) ++ [(q_20, .inr (4, [.int 0, .int 0]))] = u.2.2.2.2 ++ ([(q_19, .inr (7, [.null, .int 0, .int 0, .int 0, .int 0])), (q_20, .inr (4, [.int 0, .int 0]))] : va_W) := List.append_assoc _ _ _
              have hU : qH E A 0 (qsX u (u.2.2.2.2 ++ [(q_19, .inr (7, [.null, .int 0, .int 0, .int 0, .int 0])), (q_20, .inr (4, [.int 0, .int 0]))])) s0 H := by
                have h : qH E A 0 (qsX u ((u.2.2.2.2 ++ ([(q_19, .inr (7, [.null, .int 0, .int 0, .int 0, .int 0]))] : va_W)) ++ [(q_20, .inr (4, [.int 0, .int 0]))])) s0 H := hU
                rw [e7] at h; exact h
              refine lv_dup hF.1 hF.2.1 dX11_shop_75 rfl ?_
              refine lv_iload_n hF.1 hF.2.1 dX11_shop_76 rfl (lv_at hl 1 rfl) ?_
              refine lv_iload_n hF.1 hF.2.1 dX11_shop_77 rfl (lv_at hl 2 rfl) ?_
              have hd9 : (qsX u (u.2.2.2.2 ++ [(q_19, .inr (7, [.null, .int 0, .int 0, .int 0, .int 0])), (q_20, .inr (4, [.int 0, .int 0]))])).2.2.2.2[u.2.2.2.2.length + 1]? = some (q_20, .inr (4, [.int 0, .int 0])) := q_cat (X := u.2.2.2.2) (C := [(q_19, .inr (7, [.null, .int 0, .int 0, .int 0, .int 0])), (q_20, .inr (4, [.int 0, .int 0]))]) (m := 1) rfl rfl
              have hM9 := (k_X4_init l E A 0 (qsX u (u.2.2.2.2 ++ [(q_19, .inr (7, [.null, .int 0, .int 0, .int 0, .int 0])), (q_20, .inr (4, [.int 0, .int 0]))])) q_20 (u.2.2.2.2.length + 1) x y hd9)
              have hR9 := q_runI (l := l) (e := e0) (below := bl0) (meth := me0) (R := qR 2 2 7) (cells := 2) (slots := 7) (st0 := [.int y, .int x, .ref q_20, .ref q_20, .ref q_19, .ref q_19, .int (u.1 8), .ref (E.2.2 0)]) (rest := [.ref q_20, .ref q_19, .ref q_19, .int (u.1 8), .ref (E.2.2 0)]) hF hU hS hA 2 hM9 w_504 w_505 w_109 w_506 rfl (by decide +kernel) ⟨Nat.le_of_ble_eq_true rfl, Nat.le_of_ble_eq_true rfl⟩ dX11_shop_78 rfl hl.1 rfl (Nat.le_of_ble_eq_true rfl) ⟨Nat.le_of_ble_eq_true rfl, Nat.le_of_ble_eq_true rfl⟩
              refine q_callv hR9 hU.2.2.2 hS (fun u_21 H locs hw_22 hU hS => ?_)
              have e9 : (u.2.2.2.2 ++ ([(q_19, .inr (7, [.null, .int 0, .int 0, .int 0, .int 0])), (q_20, .inr (4, [.int 0, .int 0]))] : va_W)).set (u.2.2.2.2.length + 1) (q_20, .inr (4, [.int x, .int y])) ++ [] = u.2.2.2.2 ++ (([(q_19, .inr (7, [.null, .int 0, .int 0, .int 0, .int 0])), (q_20, .inr (4, [.int x, .int y]))] : va_W) ++ []) := q_csub rfl rfl
              have e9 : (u.2.2.2.2 ++ ([(q_19, .inr (7, [.null, .int 0, .int 0, .int 0, .int 0])), (q_20, .inr (4, [.int 0, .int 0]))] : va_W)).set (u.2.2.2.2.length + 1) (q_20, .inr (4, [.int x, .int y])) ++ [] = u.2.2.2.2 ++ ([(q_19, .inr (7, [.null, .int 0, .int 0, .int 0, .int 0])), (q_20, .inr (4, [.int x, .int y]))] : va_W) := e9
              have hU : qH E A 0 (qsX u (u.2.2.2.2 ++ [(q_19, .inr (7, [.null, .int 0, .int 0, .int 0, .int 0])), (q_20, .inr (4, [.int x, .int y]))])) s0 H := by
                have h : qH E A 0 (qsX u ((u.2.2.2.2 ++ ([(q_19, .inr (7, [.null, .int 0, .int 0, .int 0, .int 0])), (q_20, .inr (4, [.int 0, .int 0]))] : va_W)).set (u.2.2.2.2.length + 1) (q_20, .inr (4, [.int x, .int y])) ++ [])) s0 H := by rw [hw_22] at hU; exact hU
                rw [e9] at h; exact h
              refine lv_iload_n hF.1 hF.2.1 dX11_shop_81 rfl (lv_at hl 3 rfl) ?_
              refine lv_iload hF.1 hF.2.1 dX11_shop_82 (lv_at hl 4 rfl) ?_
              refine lv_iload hF.1 hF.2.1 dX11_shop_84 (lv_at hl 5 rfl) ?_
              refine lv_iload hF.1 hF.2.1 dX11_shop_86 (lv_at hl 6 rfl) ?_
              have hd9 : (qsX u (u.2.2.2.2 ++ [(q_19, .inr (7, [.null, .int 0, .int 0, .int 0, .int 0])), (q_20, .inr (4, [.int x, .int y]))])).2.2.2.2[u.2.2.2.2.length + 0]? = some (q_19, .inr (7, [.null, .int 0, .int 0, .int 0, .int 0])) := q_cat (X := u.2.2.2.2) (C := [(q_19, .inr (7, [.null, .int 0, .int 0, .int 0, .int 0])), (q_20, .inr (4, [.int x, .int y]))]) (m := 0) rfl rfl
              have hM9 := (k_X7_init l E A 0 (qsX u (u.2.2.2.2 ++ [(q_19, .inr (7, [.null, .int 0, .int 0, .int 0, .int 0])), (q_20, .inr (4, [.int x, .int y]))])) q_19 (u.2.2.2.2.length + 0) q_20 c f t z hnar hfit hd9)
              have hR9 := q_runI (l := l) (e := e0) (below := bl0) (meth := me0) (R := qR 2 2 7) (cells := 2) (slots := 7) (st0 := [.int z, .int t, .int f, .int c, .ref q_20, .ref q_19, .ref q_19, .int (u.1 8), .ref (E.2.2 0)]) (rest := [.ref q_19, .int (u.1 8), .ref (E.2.2 0)]) hF hU hS hA 5 hM9 w_515 w_516 w_108 w_517 rfl (by decide +kernel) ⟨Nat.le_of_ble_eq_true rfl, Nat.le_of_ble_eq_true rfl⟩ dX11_shop_88 rfl hl.1 rfl (Nat.le_of_ble_eq_true rfl) ⟨Nat.le_of_ble_eq_true rfl, Nat.le_of_ble_eq_true rfl⟩
              refine q_callv hR9 hU.2.2.2 hS (fun u_23 H locs hw_24 hU hS => ?_)
              have e9 : (u.2.2.2.2 ++ ([(q_19, .inr (7, [.null, .int 0, .int 0, .int 0, .int 0])), (q_20, .inr (4, [.int x, .int y]))] : va_W)).set (u.2.2.2.2.length + 0) (q_19, .inr (7, [.ref q_20, .int c, .int f, .int t, .int z])) ++ [] = u.2.2.2.2 ++ (([(q_19, .inr (7, [.ref q_20, .int c, .int f, .int t, .int z])), (q_20, .inr (4, [.int x, .int y]))] : va_W) ++ []) := q_csub rfl rfl
              have e9 : (u.2.2.2.2 ++ ([(q_19, .inr (7, [.null, .int 0, .int 0, .int 0, .int 0])), (q_20, .inr (4, [.int x, .int y]))] : va_W)).set (u.2.2.2.2.length + 0) (q_19, .inr (7, [.ref q_20, .int c, .int f, .int t, .int z])) ++ [] = u.2.2.2.2 ++ ([(q_19, .inr (7, [.ref q_20, .int c, .int f, .int t, .int z])), (q_20, .inr (4, [.int x, .int y]))] : va_W) := e9
              have hU : qH E A 0 (qsX u (u.2.2.2.2 ++ [(q_19, .inr (7, [.ref q_20, .int c, .int f, .int t, .int z])), (q_20, .inr (4, [.int x, .int y]))])) s0 H := by
                have h : qH E A 0 (qsX u ((u.2.2.2.2 ++ ([(q_19, .inr (7, [.null, .int 0, .int 0, .int 0, .int 0])), (q_20, .inr (4, [.int x, .int y]))] : va_W)).set (u.2.2.2.2.length + 0) (q_19, .inr (7, [.ref q_20, .int c, .int f, .int t, .int z])) ++ [])) s0 H := by rw [hw_24] at hU; exact hU
                rw [e9] at h; exact h
              have hp_26 := hI.newS (q := q_19) (p := q_20) (x := x) (y := y) (c := c) (o := f) (d := t) (r := z)
              obtain ⟨u_25, hun_u_25⟩ : ∃ zz9 : qS, zz9 = qsX u (u.2.2.2.2 ++ [(q_19, .inr (7, [.ref q_20, .int c, .int f, .int t, .int z])), (q_20, .inr (4, [.int x, .int y]))]) := ⟨_, rfl⟩
              have hU : qH E A 0 u_25 s0 H := by rw [hun_u_25]; exact hU
              have hp_26_f : qFc [] [] [] [] u u_25 := by rw [hun_u_25]; exact hp_26.1.2
              have hI : IC E u_25 := by rw [hun_u_25]; exact hp_26.1.1
              have hfo := hfr
              have hfr : qFc [8] [] [] [0] u u_25 := hfr.trans (hp_26_f.mono (by decide) (by decide) (by decide) (by decide))
              have e_27 : u_25.1 8 = (u.1 8) := (hp_26_f.1 8 (by decide)).trans rfl
              have hr_28 : qRf u_25 q_19 7 := by rw [hun_u_25]; exact hp_26.2
              have hdd : u_25.2.2.2.2[u.2.2.2.2.length]? = some (q_19, .inr (7, [.ref q_20, .int c, .int f, .int t, .int z])) := by rw [hun_u_25]; show (u.2.2.2.2 ++ _)[_]? = _; rw [List.getElem?_append_right (Nat.le_refl _), Nat.sub_self]; rfl
              have hdp : u_25.2.2.2.2[u.2.2.2.2.length + 1]? = some (q_20, .inr (4, [.int x, .int y])) := by rw [hun_u_25]; show (u.2.2.2.2 ++ _)[_]? = _; rw [List.getElem?_append_right (by omega), Nat.add_sub_cancel_left]; rfl
              have hok : ∀ k9 : Nat, k9 < u.2.2.2.2.length → u_25.2.2.2.2[k9]? = u.2.2.2.2[k9]? := fun k9 h9 => by rw [hun_u_25]; exact List.getElem?_append_left h9
              have hx0 : qxr u_25 0 = qxr u 0 := by rw [hun_u_25]; rfl
              obtain ⟨k_29, fs_30, hd_31⟩ := id (hr_28)
              refine q_aast hF hU hS dX11_shop_91 0 0 4 rfl rfl (by decide) k_29 7 hd_31 rfl rfl (g_X11_shop_v0 u x y c f t z hz hz8 hz9 hz10 hz12 b2_4 b9_8 b17_12 b25_16 c35_17 c49_18) (fun f_32 H locs hg_f_32 hU hS => ?_)
              have hfr : qFc [8] [] [] [0] u (qsR u_25 0 f_32) := hfr.setR (by decide)
              have hix : u_25.1 8 = (u.1 8) := e_27
              have hI : IC E (qsR u_25 0 f_32) := by rw [hg_f_32, ← hix]; exact hI.w0
              have hent : f_32 (u.1 8 : Int32).toNatClampNeg = some q_19 := by rw [hg_f_32]; exact g_vs
              refine lv_aload_n hF.1 hF.2.1 dX11_shop_92 rfl (lv_at hl 0 rfl) ?_
              refine q_get (v := .ref (E.2.2 99)) hF hU dX11_shop_93 0 11 0 1100 1199 rfl rfl rfl rfl inX11 (by decide) (by decide) w_436 rfl rfl ?_
              refine lv_dup hF.1 hF.2.1 dX11_shop_96 rfl ?_
              refine q_get (v := .int (u.1 8)) hF hU dX11_shop_97 1 0 8 8 99 rfl rfl rfl rfl inX0 (by decide) (by decide) w_162 rfl (congrArg Value.int e_27) ?_
              refine lv_iconst (v := 1) hF.1 hF.2.1 dX11_shop_100 (by decide) ?_
              refine lv_iadd hF.1 hF.2.1 dX11_shop_101 ?_
              refine q_put hF hU hS dX11_shop_102 1 0 8 8 99 rfl rfl rfl rfl inX0 tyX0 tyX0_ok nmX0 (by decide) (by decide) rfl w_162 rfl rfl rfl rfl (fun H locs hU hS => ?_)
              have hfr : qFc [8] [] [] [0] u (qsI (qsR u_25 0 f_32) 8 ((u.1 8) + 1)) := hfr.setI (by decide) (fun q => absurd q (by decide))
              have hI : IC E (qsI (qsR u_25 0 f_32) 8 ((u.1 8) + 1)) := hI.s8 (g_X11_shop_v1 u x y c f t z hz hz8 hz9 hz10 hz12 b2_4 b9_8 b17_12 b25_16 c35_17 c49_18) (by rw [show (qsR u_25 0 f_32).1 8 = (u.1 8) from e_27]; exact (g_X11_shop_v3 u x y c f t z hz hz8 hz9 hz10 hz12 b2_4 b9_8 b17_12 b25_16 c35_17 c49_18)) (fun i a b => (g_lt1 (g_X11_shop_v2 u x y c f t z hz hz8 hz9 hz10 hz12 b2_4 b9_8 b17_12 b25_16 c35_17 c49_18) b).elim (fun q => hI.2.2.1 i a (by rw [show (qsR u_25 0 f_32).1 8 = (u.1 8) from e_27]; exact q)) (fun q => by rw [q]; exact ⟨q_19, hent, hr_28⟩))
              have hSn : qSn u (qsI (qsR u_25 0 f_32) 8 ((u.1 8) + 1)) x y c f t z := ⟨q_19, q_20, by show f_32 = _; rw [hg_f_32]; show va_up (qxr u_25 0) _ _ = _; rw [hx0], hdd, hdp, hok⟩
              refine lv_aload_n hF.1 hF.2.1 dX11_shop_105 rfl (lv_at hl 0 rfl) ?_
              refine q_get (v := .ref (E.2.2 99)) hF hU dX11_shop_106 0 11 0 1100 1199 rfl rfl rfl rfl inX11 (by decide) (by decide) w_436 rfl rfl ?_
              refine q_get (v := .int ((u.1 8) + 1)) hF hU dX11_shop_109 1 0 8 8 99 rfl rfl rfl rfl inX0 (by decide) (by decide) w_162 rfl rfl ?_
              refine lv_iconst (v := 1) hF.1 hF.2.1 dX11_shop_112 (by decide) ?_
              refine lv_isub hF.1 hF.2.1 dX11_shop_113 ?_
              exact q_iret hF hr rfl hlocks hU hS dX11_shop_114 ⟨⟨hfr, hI⟩, (g_X11_shop_v4 u x y c f t z u_25 f_32 hz hz8 hz9 hz10 hz12 b2_4 b9_8 b17_12 b25_16 c35_17 c49_18 hSn)⟩
            · refine lv_iconst (v := (-1)) hF.1 hF.2.1 dX11_shop_52 (by decide) ?_
              refine W.widen (k := 2) (n := 7) (by decide) (by decide) ?_
              exact q_iret hF hr rfl hlocks hU hS dX11_shop_53 ⟨⟨hfr, hI⟩, (g_X11_shop_v5 u x y c f t z hz hz8 hz9 hz10 hz12 b2_4 b9_8 b17_12 b25_16 c35_17 c49_18)⟩
          · refine lv_iconst (v := (-1)) hF.1 hF.2.1 dX11_shop_38 (by decide) ?_
            refine W.widen (k := 2) (n := 7) (by decide) (by decide) ?_
            exact q_iret hF hr rfl hlocks hU hS dX11_shop_39 ⟨⟨hfr, hI⟩, (g_X11_shop_v6 u x y c f t z hz hz8 hz9 hz10 hz12 b2_4 b9_8 b17_12 b25_16 c35_17)⟩
        · refine lv_if_eq (tgt := 38) hF.1 hF.2.1 dX11_shop_28 (by decide) (fun _ => ?_) (fun h9 => absurd (by decide) h9)
          refine lv_iconst (v := (-1)) hF.1 hF.2.1 dX11_shop_38 (by decide) ?_
          refine W.widen (k := 2) (n := 7) (by decide) (by decide) ?_
          exact q_iret hF hr rfl hlocks hU hS dX11_shop_39 ⟨⟨hfr, hI⟩, (g_X11_shop_v7 u x y c f t z hz hz8 hz9 hz10 hz12 b2_4 b9_8 b17_12 b25_16)⟩
      · refine lv_if_eq (tgt := 38) hF.1 hF.2.1 dX11_shop_20 (by decide) (fun _ => ?_) (fun h9 => absurd (by decide) h9)
        refine lv_iconst (v := (-1)) hF.1 hF.2.1 dX11_shop_38 (by decide) ?_
        refine W.widen (k := 2) (n := 7) (by decide) (by decide) ?_
        exact q_iret hF hr rfl hlocks hU hS dX11_shop_39 ⟨⟨hfr, hI⟩, (g_X11_shop_v8 u x y c f t z hz hz8 hz9 hz10 hz12 b2_4 b9_8 b17_12)⟩
    · refine lv_if_eq (tgt := 38) hF.1 hF.2.1 dX11_shop_12 (by decide) (fun _ => ?_) (fun h9 => absurd (by decide) h9)
      refine lv_iconst (v := (-1)) hF.1 hF.2.1 dX11_shop_38 (by decide) ?_
      refine W.widen (k := 2) (n := 7) (by decide) (by decide) ?_
      exact q_iret hF hr rfl hlocks hU hS dX11_shop_39 ⟨⟨hfr, hI⟩, (g_X11_shop_v9 u x y c f t z hz hz8 hz9 hz10 hz12 b2_4 b9_8)⟩
  · refine lv_if_eq (tgt := 38) hF.1 hF.2.1 dX11_shop_5 (by decide) (fun _ => ?_) (fun h9 => absurd (by decide) h9)
    refine lv_iconst (v := (-1)) hF.1 hF.2.1 dX11_shop_38 (by decide) ?_
    refine W.widen (k := 2) (n := 7) (by decide) (by decide) ?_
    exact q_iret hF hr rfl hlocks hU hS dX11_shop_39 ⟨⟨hfr, hI⟩, (g_X11_shop_v10 u x y c f t z hz hz8 hz9 hz10 hz12 b2_4)⟩
set_option maxRecDepth 100000 in
theorem g_X0_keepVisit_v0 (u : qS) (v : Nat) (x2 : Int32) (uc : qS) (hn : qRn u v (u.1 10)) (hc : (u.1 10).toInt < 120) (hz8 : 0 ≤ u.1 8 ∧ u.1 8 ≤ 20) (hz9 : 0 ≤ u.1 9 ∧ u.1 9 ≤ 8) (hz10 : 0 ≤ u.1 10 ∧ u.1 10 ≤ 120) (hz12 : 0 ≤ u.1 12 ∧ u.1 12 ≤ 16) (h_j : 0 ≤ x2 ∧ x2 ≤ uc.1 10) (h_n : qRn uc v (uc.1 10)) (h_m : uc.1 10 = u.1 10) (h_2 : qxr uc 2 = qxr u 2) (h_r : x2 < uc.1 10 → ∃ b, qxr uc 3 (uc.1 10).toNatClampNeg = some b ∧ qRv uc b) (c6_1 : (x2 : Int32) ≤ 0) : vp_in (x2) 120 := by
  refine g_in ?_ ?_ <;> ((try simp only [g_m1, Int32.lt_iff_toInt_lt, Int32.le_iff_toInt_le, ← Int32.toInt_inj, Int32.toInt_add, Int32.toInt_sub, Int32.toInt_mul, Int32.toInt_neg, Int32.reduceToInt, g_bm, g_bm'] at *); omega)
set_option maxRecDepth 100000 in
theorem g_X0_keepVisit_v1 (u : qS) (v : Nat) (x2 : Int32) (uc : qS) (f_5 : Nat → Option Nat) (hn : qRn u v (u.1 10)) (hc : (u.1 10).toInt < 120) (hz8 : 0 ≤ u.1 8 ∧ u.1 8 ≤ 20) (hz9 : 0 ≤ u.1 9 ∧ u.1 9 ≤ 8) (hz10 : 0 ≤ u.1 10 ∧ u.1 10 ≤ 120) (hz12 : 0 ≤ u.1 12 ∧ u.1 12 ≤ 16) (h_j : 0 ≤ x2 ∧ x2 ≤ uc.1 10) (h_n : qRn uc v (uc.1 10)) (h_m : uc.1 10 = u.1 10) (h_2 : qxr uc 2 = qxr u 2) (h_r : x2 < uc.1 10 → ∃ b, qxr uc 3 (uc.1 10).toNatClampNeg = some b ∧ qRv uc b) (c6_1 : (x2 : Int32) ≤ 0) (hg_f_5 : f_5 = va_up (uc.2.2.2.1 3) (x2 : Int32).toNatClampNeg (some v)) (hs_6 : 0 ≤ uc.1 10 ∧ uc.1 10 ≤ 120) : vp_in (uc.1 10) 120 := by
  refine g_in ?_ ?_ <;> ((try simp only [g_m1, Int32.lt_iff_toInt_lt, Int32.le_iff_toInt_le, ← Int32.toInt_inj, Int32.toInt_add, Int32.toInt_sub, Int32.toInt_mul, Int32.toInt_neg, Int32.reduceToInt, g_bm, g_bm'] at *); omega)
set_option maxRecDepth 100000 in
theorem g_X0_keepVisit_v2 (u : qS) (v : Nat) (x2 : Int32) (uc : qS) (f_5 : Nat → Option Nat) (f_10 : Nat → Option Nat) (hn : qRn u v (u.1 10)) (hc : (u.1 10).toInt < 120) (hz8 : 0 ≤ u.1 8 ∧ u.1 8 ≤ 20) (hz9 : 0 ≤ u.1 9 ∧ u.1 9 ≤ 8) (hz10 : 0 ≤ u.1 10 ∧ u.1 10 ≤ 120) (hz12 : 0 ≤ u.1 12 ∧ u.1 12 ≤ 16) (h_j : 0 ≤ x2 ∧ x2 ≤ uc.1 10) (h_n : qRn uc v (uc.1 10)) (h_m : uc.1 10 = u.1 10) (h_2 : qxr uc 2 = qxr u 2) (h_r : x2 < uc.1 10 → ∃ b, qxr uc 3 (uc.1 10).toNatClampNeg = some b ∧ qRv uc b) (c6_1 : (x2 : Int32) ≤ 0) (hg_f_5 : f_5 = va_up (uc.2.2.2.1 3) (x2 : Int32).toNatClampNeg (some v)) (hs_6 : 0 ≤ uc.1 10 ∧ uc.1 10 ≤ 120) (hg_f_10 : f_10 = va_up ((qsR uc 3 f_5).2.2.2.1 2) (uc.1 10 : Int32).toNatClampNeg (some v)) : uc.1 10 ≤ uc.1 10 + 1 := by
  have z := (g_up (i := uc.1 10) (by rw [h_m]; (try simp only [g_m1, Int32.lt_iff_toInt_lt, Int32.le_iff_toInt_le, ← Int32.toInt_inj, Int32.reduceToInt] at *); omega) (by rw [h_m]; (try simp only [g_m1, Int32.lt_iff_toInt_lt, Int32.le_iff_toInt_le, ← Int32.toInt_inj, Int32.reduceToInt] at *); omega)).1; (try simp only [g_m1, Int32.lt_iff_toInt_lt, Int32.le_iff_toInt_le, ← Int32.toInt_inj, Int32.reduceToInt] at *); omega
set_option maxRecDepth 100000 in
theorem g_X0_keepVisit_v3 (u : qS) (v : Nat) (x2 : Int32) (uc : qS) (f_5 : Nat → Option Nat) (f_10 : Nat → Option Nat) (hn : qRn u v (u.1 10)) (hc : (u.1 10).toInt < 120) (hz8 : 0 ≤ u.1 8 ∧ u.1 8 ≤ 20) (hz9 : 0 ≤ u.1 9 ∧ u.1 9 ≤ 8) (hz10 : 0 ≤ u.1 10 ∧ u.1 10 ≤ 120) (hz12 : 0 ≤ u.1 12 ∧ u.1 12 ≤ 16) (h_j : 0 ≤ x2 ∧ x2 ≤ uc.1 10) (h_n : qRn uc v (uc.1 10)) (h_m : uc.1 10 = u.1 10) (h_2 : qxr uc 2 = qxr u 2) (h_r : x2 < uc.1 10 → ∃ b, qxr uc 3 (uc.1 10).toNatClampNeg = some b ∧ qRv uc b) (c6_1 : (x2 : Int32) ≤ 0) (hg_f_5 : f_5 = va_up (uc.2.2.2.1 3) (x2 : Int32).toNatClampNeg (some v)) (hs_6 : 0 ≤ uc.1 10 ∧ uc.1 10 ≤ 120) (hg_f_10 : f_10 = va_up ((qsR uc 3 f_5).2.2.2.1 2) (uc.1 10 : Int32).toNatClampNeg (some v)) : (uc.1 10).toInt < 120 := by
  first | omega | ((try simp only [g_m1, Int32.lt_iff_toInt_lt, Int32.le_iff_toInt_le, ← Int32.toInt_inj, Int32.reduceToInt] at *); omega) | ((try simp only [g_m1, Int32.lt_iff_toInt_lt, Int32.le_iff_toInt_le, ← Int32.toInt_inj, Int32.reduceToInt] at *); omega) | ((try simp only [g_m1, Int32.lt_iff_toInt_lt, Int32.le_iff_toInt_le, ← Int32.toInt_inj, Int32.toInt_add, Int32.toInt_sub, Int32.toInt_mul, Int32.toInt_neg, Int32.reduceToInt, g_bm, g_bm'] at *); omega) | (have qr2 := g_rng x2; (try simp only [g_m1, Int32.lt_iff_toInt_lt, Int32.le_iff_toInt_le, ← Int32.toInt_inj, Int32.toInt_add, Int32.toInt_sub, Int32.toInt_mul, Int32.toInt_neg, Int32.reduceToInt, g_bm, g_bm'] at *); omega) | (simp only [g_m1, Int32.lt_iff_toInt_lt, Int32.le_iff_toInt_le, ← Int32.toInt_inj, Int32.toInt_add, Int32.toInt_sub, Int32.toInt_mul, Int32.toInt_neg, Int32.reduceToInt, g_bm, g_bm'] at *; simp at *; omega) | (simp_all; done)
set_option maxRecDepth 100000 in
theorem g_X0_keepVisit_v4 (u : qS) (v : Nat) (x2 : Int32) (uc : qS) (f_5 : Nat → Option Nat) (f_10 : Nat → Option Nat) (hn : qRn u v (u.1 10)) (hc : (u.1 10).toInt < 120) (hz8 : 0 ≤ u.1 8 ∧ u.1 8 ≤ 20) (hz9 : 0 ≤ u.1 9 ∧ u.1 9 ≤ 8) (hz10 : 0 ≤ u.1 10 ∧ u.1 10 ≤ 120) (hz12 : 0 ≤ u.1 12 ∧ u.1 12 ≤ 16) (h_j : 0 ≤ x2 ∧ x2 ≤ uc.1 10) (h_n : qRn uc v (uc.1 10)) (h_m : uc.1 10 = u.1 10) (h_2 : qxr uc 2 = qxr u 2) (h_r : x2 < uc.1 10 → ∃ b, qxr uc 3 (uc.1 10).toNatClampNeg = some b ∧ qRv uc b) (c6_1 : (x2 : Int32) ≤ 0) (hg_f_5 : f_5 = va_up (uc.2.2.2.1 3) (x2 : Int32).toNatClampNeg (some v)) (hs_6 : 0 ≤ uc.1 10 ∧ uc.1 10 ≤ 120) (hg_f_10 : f_10 = va_up ((qsR uc 3 f_5).2.2.2.1 2) (uc.1 10 : Int32).toNatClampNeg (some v)) : 0 ≤ x2 ∧ x2 ≤ uc.1 10 := by
  exact h_j
set_option maxRecDepth 100000 in
theorem g_X0_keepVisit_v5 (u : qS) (v : Nat) (x2 : Int32) (uc : qS) (f_5 : Nat → Option Nat) (f_10 : Nat → Option Nat) (hn : qRn u v (u.1 10)) (hc : (u.1 10).toInt < 120) (hz8 : 0 ≤ u.1 8 ∧ u.1 8 ≤ 20) (hz9 : 0 ≤ u.1 9 ∧ u.1 9 ≤ 8) (hz10 : 0 ≤ u.1 10 ∧ u.1 10 ≤ 120) (hz12 : 0 ≤ u.1 12 ∧ u.1 12 ≤ 16) (h_j : 0 ≤ x2 ∧ x2 ≤ uc.1 10) (h_n : qRn uc v (uc.1 10)) (h_m : uc.1 10 = u.1 10) (h_2 : qxr uc 2 = qxr u 2) (h_r : x2 < uc.1 10 → ∃ b, qxr uc 3 (uc.1 10).toNatClampNeg = some b ∧ qRv uc b) (c6_1 : (x2 : Int32) ≤ 0) (hg_f_5 : f_5 = va_up (uc.2.2.2.1 3) (x2 : Int32).toNatClampNeg (some v)) (hs_6 : 0 ≤ uc.1 10 ∧ uc.1 10 ≤ 120) (hg_f_10 : f_10 = va_up ((qsR uc 3 f_5).2.2.2.1 2) (uc.1 10 : Int32).toNatClampNeg (some v)) : ∀ i : Int32, 0 ≤ i → i ≤ uc.1 10 → i ≠ x2 → (i < uc.1 10 ∨ ∃ b, qxr uc 3 i.toNatClampNeg = some b ∧ qRv uc b) := by
  intro i a b c
  by_cases q : i = uc.1 10
  · refine Or.inr ?_
    have z : x2 < uc.1 10 := by
      have z1 := Int32.le_iff_toInt_le.mp h_j.2
      have z2 : x2.toInt ≠ (uc.1 10).toInt := fun y => c (q.trans (Int32.toInt_inj.mp y).symm)
      exact Int32.lt_iff_toInt_lt.mpr (by omega)
    rw [q]; exact h_r z
  · exact Or.inl (Int32.lt_iff_toInt_lt.mpr (by have z1 := Int32.le_iff_toInt_le.mp b; have z2 : i.toInt ≠ (uc.1 10).toInt := fun y => q (Int32.toInt_inj.mp y); omega))
set_option maxRecDepth 100000 in
theorem g_X0_keepVisit_v6 (u : qS) (v : Nat) (x2 : Int32) (uc : qS) (f_5 : Nat → Option Nat) (f_10 : Nat → Option Nat) (hn : qRn u v (u.1 10)) (hc : (u.1 10).toInt < 120) (hz8 : 0 ≤ u.1 8 ∧ u.1 8 ≤ 20) (hz9 : 0 ≤ u.1 9 ∧ u.1 9 ≤ 8) (hz10 : 0 ≤ u.1 10 ∧ u.1 10 ≤ 120) (hz12 : 0 ≤ u.1 12 ∧ u.1 12 ≤ 16) (h_j : 0 ≤ x2 ∧ x2 ≤ uc.1 10) (h_n : qRn uc v (uc.1 10)) (h_m : uc.1 10 = u.1 10) (h_2 : qxr uc 2 = qxr u 2) (h_r : x2 < uc.1 10 → ∃ b, qxr uc 3 (uc.1 10).toNatClampNeg = some b ∧ qRv uc b) (c6_1 : (x2 : Int32) ≤ 0) (hg_f_5 : f_5 = va_up (uc.2.2.2.1 3) (x2 : Int32).toNatClampNeg (some v)) (hs_6 : 0 ≤ uc.1 10 ∧ uc.1 10 ≤ 120) (hg_f_10 : f_10 = va_up ((qsR uc 3 f_5).2.2.2.1 2) (uc.1 10 : Int32).toNatClampNeg (some v)) : ((uc.1 10) + 1 : Int32) = u.1 10 + 1 ∧ qxr (qsI (qsI (qsR (qsR uc 3 f_5) 2 f_10) 10 ((uc.1 10) + 1)) 18 ((uc.1 18) + 1)) 2 = va_up (qxr u 2) (u.1 10).toNatClampNeg (some v) := by
  exact ⟨by rw [h_m], (by assumption : _ = va_up ((qsR uc 3 _).2.2.2.1 2) _ (some v)).trans (by rw [h_m]; show va_up (qxr uc 2) _ _ = _; rw [h_2])⟩
set_option maxRecDepth 100000 in
theorem g_X0_keepVisit_v7 (u : qS) (v : Nat) (x2 : Int32) (uc : qS) (hn : qRn u v (u.1 10)) (hc : (u.1 10).toInt < 120) (hz8 : 0 ≤ u.1 8 ∧ u.1 8 ≤ 20) (hz9 : 0 ≤ u.1 9 ∧ u.1 9 ≤ 8) (hz10 : 0 ≤ u.1 10 ∧ u.1 10 ≤ 120) (hz12 : 0 ≤ u.1 12 ∧ u.1 12 ≤ 16) (h_j : 0 ≤ x2 ∧ x2 ≤ uc.1 10) (h_n : qRn uc v (uc.1 10)) (h_m : uc.1 10 = u.1 10) (h_2 : qxr uc 2 = qxr u 2) (h_r : x2 < uc.1 10 → ∃ b, qxr uc 3 (uc.1 10).toNatClampNeg = some b ∧ qRv uc b) (c6_1 : ¬ (x2 : Int32) ≤ 0) : 0 ≤ (x2 - 1) ∧ (x2 - 1) < (uc.1 10) := by
  first | omega | ((try simp only [g_m1, Int32.lt_iff_toInt_lt, Int32.le_iff_toInt_le, ← Int32.toInt_inj, Int32.reduceToInt] at *); omega) | ((try have ez0 : (x2 - 1 : Int32).toInt = (x2 : Int32).toInt - (1 : Int32).toInt := g_sub (by (try simp only [g_m1, Int32.lt_iff_toInt_lt, Int32.le_iff_toInt_le, ← Int32.toInt_inj, Int32.reduceToInt] at *); omega) (by (try simp only [g_m1, Int32.lt_iff_toInt_lt, Int32.le_iff_toInt_le, ← Int32.toInt_inj, Int32.reduceToInt] at *); omega)); (try simp only [g_m1, Int32.lt_iff_toInt_lt, Int32.le_iff_toInt_le, ← Int32.toInt_inj, Int32.reduceToInt] at *); omega) | ((try simp only [g_m1, Int32.lt_iff_toInt_lt, Int32.le_iff_toInt_le, ← Int32.toInt_inj, Int32.toInt_add, Int32.toInt_sub, Int32.toInt_mul, Int32.toInt_neg, Int32.reduceToInt, g_bm, g_bm'] at *); omega) | (have qr2 := g_rng x2; (try simp only [g_m1, Int32.lt_iff_toInt_lt, Int32.le_iff_toInt_le, ← Int32.toInt_inj, Int32.toInt_add, Int32.toInt_sub, Int32.toInt_mul, Int32.toInt_neg, Int32.reduceToInt, g_bm, g_bm'] at *); omega) | (simp only [g_m1, Int32.lt_iff_toInt_lt, Int32.le_iff_toInt_le, ← Int32.toInt_inj, Int32.toInt_add, Int32.toInt_sub, Int32.toInt_mul, Int32.toInt_neg, Int32.reduceToInt, g_bm, g_bm'] at *; simp at *; omega) | (simp_all; done)
set_option maxRecDepth 100000 in
theorem g_X0_keepVisit_v8 (u : qS) (v : Nat) (x2 : Int32) (uc : qS) (hn : qRn u v (u.1 10)) (hc : (u.1 10).toInt < 120) (hz8 : 0 ≤ u.1 8 ∧ u.1 8 ≤ 20) (hz9 : 0 ≤ u.1 9 ∧ u.1 9 ≤ 8) (hz10 : 0 ≤ u.1 10 ∧ u.1 10 ≤ 120) (hz12 : 0 ≤ u.1 12 ∧ u.1 12 ≤ 16) (h_j : 0 ≤ x2 ∧ x2 ≤ uc.1 10) (h_n : qRn uc v (uc.1 10)) (h_m : uc.1 10 = u.1 10) (h_2 : qxr uc 2 = qxr u 2) (h_r : x2 < uc.1 10 → ∃ b, qxr uc 3 (uc.1 10).toNatClampNeg = some b ∧ qRv uc b) (c6_1 : ¬ (x2 : Int32) ≤ 0) : vp_in (x2 - 1) 120 := by
  have ez0 : (x2 - 1 : Int32).toInt = (x2 : Int32).toInt - (1 : Int32).toInt := g_sub (by (try simp only [g_m1, Int32.lt_iff_toInt_lt, Int32.le_iff_toInt_le, ← Int32.toInt_inj, Int32.reduceToInt] at *); omega) (by (try simp only [g_m1, Int32.lt_iff_toInt_lt, Int32.le_iff_toInt_le, ← Int32.toInt_inj, Int32.reduceToInt] at *); omega)
  refine g_in ?_ ?_ <;> ((try simp only [g_m1, Int32.lt_iff_toInt_lt, Int32.le_iff_toInt_le, ← Int32.toInt_inj, Int32.reduceToInt] at *); omega)
set_option maxRecDepth 100000 in
theorem g_X0_keepVisit_v9 (u : qS) (v : Nat) (x2 : Int32) (uc : qS) (a_11 : Nat) (hn : qRn u v (u.1 10)) (hc : (u.1 10).toInt < 120) (hz8 : 0 ≤ u.1 8 ∧ u.1 8 ≤ 20) (hz9 : 0 ≤ u.1 9 ∧ u.1 9 ≤ 8) (hz10 : 0 ≤ u.1 10 ∧ u.1 10 ≤ 120) (hz12 : 0 ≤ u.1 12 ∧ u.1 12 ≤ 16) (h_j : 0 ≤ x2 ∧ x2 ≤ uc.1 10) (h_n : qRn uc v (uc.1 10)) (h_m : uc.1 10 = u.1 10) (h_2 : qxr uc 2 = qxr u 2) (h_r : x2 < uc.1 10 → ∃ b, qxr uc 3 (uc.1 10).toNatClampNeg = some b ∧ qRv uc b) (c6_1 : ¬ (x2 : Int32) ≤ 0) (ha_11_12 : qRv uc a_11) : 0 ≤ (x2 - 1) ∧ (x2 - 1) < (uc.1 10) := by
  first | omega | ((try simp only [g_m1, Int32.lt_iff_toInt_lt, Int32.le_iff_toInt_le, ← Int32.toInt_inj, Int32.reduceToInt] at *); omega) | ((try have ez0 : (x2 - 1 : Int32).toInt = (x2 : Int32).toInt - (1 : Int32).toInt := g_sub (by (try simp only [g_m1, Int32.lt_iff_toInt_lt, Int32.le_iff_toInt_le, ← Int32.toInt_inj, Int32.reduceToInt] at *); omega) (by (try simp only [g_m1, Int32.lt_iff_toInt_lt, Int32.le_iff_toInt_le, ← Int32.toInt_inj, Int32.reduceToInt] at *); omega)); (try have ez1 : (x2 - 1 : Int32).toInt = (x2 : Int32).toInt - (1 : Int32).toInt := g_sub (by (try simp only [g_m1, Int32.lt_iff_toInt_lt, Int32.le_iff_toInt_le, ← Int32.toInt_inj, Int32.reduceToInt] at *); omega) (by (try simp only [g_m1, Int32.lt_iff_toInt_lt, Int32.le_iff_toInt_le, ← Int32.toInt_inj, Int32.reduceToInt] at *); omega)); (try simp only [g_m1, Int32.lt_iff_toInt_lt, Int32.le_iff_toInt_le, ← Int32.toInt_inj, Int32.reduceToInt] at *); omega) | ((try simp only [g_m1, Int32.lt_iff_toInt_lt, Int32.le_iff_toInt_le, ← Int32.toInt_inj, Int32.toInt_add, Int32.toInt_sub, Int32.toInt_mul, Int32.toInt_neg, Int32.reduceToInt, g_bm, g_bm'] at *); omega) | (have qr2 := g_rng x2; (try simp only [g_m1, Int32.lt_iff_toInt_lt, Int32.le_iff_toInt_le, ← Int32.toInt_inj, Int32.toInt_add, Int32.toInt_sub, Int32.toInt_mul, Int32.toInt_neg, Int32.reduceToInt, g_bm, g_bm'] at *); omega) | (simp only [g_m1, Int32.lt_iff_toInt_lt, Int32.le_iff_toInt_le, ← Int32.toInt_inj, Int32.toInt_add, Int32.toInt_sub, Int32.toInt_mul, Int32.toInt_neg, Int32.reduceToInt, g_bm, g_bm'] at *; simp at *; omega) | (simp_all; done)
set_option maxRecDepth 100000 in
theorem g_X0_keepVisit_v10 (u : qS) (v : Nat) (x2 : Int32) (uc : qS) (a_11 : Nat) (hn : qRn u v (u.1 10)) (hc : (u.1 10).toInt < 120) (hz8 : 0 ≤ u.1 8 ∧ u.1 8 ≤ 20) (hz9 : 0 ≤ u.1 9 ∧ u.1 9 ≤ 8) (hz10 : 0 ≤ u.1 10 ∧ u.1 10 ≤ 120) (hz12 : 0 ≤ u.1 12 ∧ u.1 12 ≤ 16) (h_j : 0 ≤ x2 ∧ x2 ≤ uc.1 10) (h_n : qRn uc v (uc.1 10)) (h_m : uc.1 10 = u.1 10) (h_2 : qxr uc 2 = qxr u 2) (h_r : x2 < uc.1 10 → ∃ b, qxr uc 3 (uc.1 10).toNatClampNeg = some b ∧ qRv uc b) (c6_1 : ¬ (x2 : Int32) ≤ 0) (ha_11_12 : qRv uc a_11) : vp_in (x2 - 1) 120 := by
  have ez0 : (x2 - 1 : Int32).toInt = (x2 : Int32).toInt - (1 : Int32).toInt := g_sub (by (try simp only [g_m1, Int32.lt_iff_toInt_lt, Int32.le_iff_toInt_le, ← Int32.toInt_inj, Int32.reduceToInt] at *); omega) (by (try simp only [g_m1, Int32.lt_iff_toInt_lt, Int32.le_iff_toInt_le, ← Int32.toInt_inj, Int32.reduceToInt] at *); omega)
  refine g_in ?_ ?_ <;> ((try simp only [g_m1, Int32.lt_iff_toInt_lt, Int32.le_iff_toInt_le, ← Int32.toInt_inj, Int32.reduceToInt] at *); omega)
set_option maxRecDepth 100000 in
theorem g_X0_keepVisit_v11 (u : qS) (v : Nat) (x2 : Int32) (uc : qS) (a_11 : Nat) (a_17 : Nat) (hn : qRn u v (u.1 10)) (hc : (u.1 10).toInt < 120) (hz8 : 0 ≤ u.1 8 ∧ u.1 8 ≤ 20) (hz9 : 0 ≤ u.1 9 ∧ u.1 9 ≤ 8) (hz10 : 0 ≤ u.1 10 ∧ u.1 10 ≤ 120) (hz12 : 0 ≤ u.1 12 ∧ u.1 12 ≤ 16) (h_j : 0 ≤ x2 ∧ x2 ≤ uc.1 10) (h_n : qRn uc v (uc.1 10)) (h_m : uc.1 10 = u.1 10) (h_2 : qxr uc 2 = qxr u 2) (h_r : x2 < uc.1 10 → ∃ b, qxr uc 3 (uc.1 10).toNatClampNeg = some b ∧ qRv uc b) (c6_1 : ¬ (x2 : Int32) ≤ 0) (ha_11_12 : qRv uc a_11) (ha_17_18 : qRv uc a_17) : vp_in (x2) 120 := by
  refine g_in ?_ ?_ <;> ((try simp only [g_m1, Int32.lt_iff_toInt_lt, Int32.le_iff_toInt_le, ← Int32.toInt_inj, Int32.toInt_add, Int32.toInt_sub, Int32.toInt_mul, Int32.toInt_neg, Int32.reduceToInt, g_bm, g_bm'] at *); omega)
set_option maxRecDepth 100000 in
theorem g_X0_keepVisit_v12 (u : qS) (v : Nat) (x2 : Int32) (uc : qS) (a_11 : Nat) (a_17 : Nat) (f_22 : Nat → Option Nat) (hn : qRn u v (u.1 10)) (hc : (u.1 10).toInt < 120) (hz8 : 0 ≤ u.1 8 ∧ u.1 8 ≤ 20) (hz9 : 0 ≤ u.1 9 ∧ u.1 9 ≤ 8) (hz10 : 0 ≤ u.1 10 ∧ u.1 10 ≤ 120) (hz12 : 0 ≤ u.1 12 ∧ u.1 12 ≤ 16) (h_j : 0 ≤ x2 ∧ x2 ≤ uc.1 10) (h_n : qRn uc v (uc.1 10)) (h_m : uc.1 10 = u.1 10) (h_2 : qxr uc 2 = qxr u 2) (h_r : x2 < uc.1 10 → ∃ b, qxr uc 3 (uc.1 10).toNatClampNeg = some b ∧ qRv uc b) (c6_1 : ¬ (x2 : Int32) ≤ 0) (ha_11_12 : qRv uc a_11) (ha_17_18 : qRv uc a_17) (hg_f_22 : f_22 = va_up (uc.2.2.2.1 3) (x2 : Int32).toNatClampNeg (some a_17)) : 0 ≤ (x2 + (-1)) ∧ (x2 + (-1)) ≤ (uc.1 10 : Int32) := by
  first | omega | ((try simp only [g_m1, Int32.lt_iff_toInt_lt, Int32.le_iff_toInt_le, ← Int32.toInt_inj, Int32.reduceToInt] at *); omega) | ((try have ez2 : (x2 + (-1) : Int32).toInt = (x2 : Int32).toInt + ((-1) : Int32).toInt := g_add (by (try simp only [g_m1, Int32.lt_iff_toInt_lt, Int32.le_iff_toInt_le, ← Int32.toInt_inj, Int32.reduceToInt] at *); omega) (by (try simp only [g_m1, Int32.lt_iff_toInt_lt, Int32.le_iff_toInt_le, ← Int32.toInt_inj, Int32.reduceToInt] at *); omega)); (try simp only [g_m1, Int32.lt_iff_toInt_lt, Int32.le_iff_toInt_le, ← Int32.toInt_inj, Int32.reduceToInt] at *); omega) | ((try simp only [g_m1, Int32.lt_iff_toInt_lt, Int32.le_iff_toInt_le, ← Int32.toInt_inj, Int32.toInt_add, Int32.toInt_sub, Int32.toInt_mul, Int32.toInt_neg, Int32.reduceToInt, g_bm, g_bm'] at *); omega) | (have qr2 := g_rng x2; (try simp only [g_m1, Int32.lt_iff_toInt_lt, Int32.le_iff_toInt_le, ← Int32.toInt_inj, Int32.toInt_add, Int32.toInt_sub, Int32.toInt_mul, Int32.toInt_neg, Int32.reduceToInt, g_bm, g_bm'] at *); omega) | (simp only [g_m1, Int32.lt_iff_toInt_lt, Int32.le_iff_toInt_le, ← Int32.toInt_inj, Int32.toInt_add, Int32.toInt_sub, Int32.toInt_mul, Int32.toInt_neg, Int32.reduceToInt, g_bm, g_bm'] at *; simp at *; omega) | (simp_all; done)
set_option maxRecDepth 100000 in
theorem g_X0_keepVisit_v13 (u : qS) (v : Nat) (x2 : Int32) (uc : qS) (a_11 : Nat) (a_17 : Nat) (f_22 : Nat → Option Nat) (hn : qRn u v (u.1 10)) (hc : (u.1 10).toInt < 120) (hz8 : 0 ≤ u.1 8 ∧ u.1 8 ≤ 20) (hz9 : 0 ≤ u.1 9 ∧ u.1 9 ≤ 8) (hz10 : 0 ≤ u.1 10 ∧ u.1 10 ≤ 120) (hz12 : 0 ≤ u.1 12 ∧ u.1 12 ≤ 16) (h_j : 0 ≤ x2 ∧ x2 ≤ uc.1 10) (h_n : qRn uc v (uc.1 10)) (h_m : uc.1 10 = u.1 10) (h_2 : qxr uc 2 = qxr u 2) (h_r : x2 < uc.1 10 → ∃ b, qxr uc 3 (uc.1 10).toNatClampNeg = some b ∧ qRv uc b) (c6_1 : ¬ (x2 : Int32) ≤ 0) (ha_11_12 : qRv uc a_11) (ha_17_18 : qRv uc a_17) (hg_f_22 : f_22 = va_up (uc.2.2.2.1 3) (x2 : Int32).toNatClampNeg (some a_17)) : qRn (qsR uc 3 f_22) v ((uc.1 10 : Int32)) := by
  exact h_n
set_option maxRecDepth 100000 in
theorem g_X0_keepVisit_v14 (u : qS) (v : Nat) (x2 : Int32) (uc : qS) (a_11 : Nat) (a_17 : Nat) (f_22 : Nat → Option Nat) (hn : qRn u v (u.1 10)) (hc : (u.1 10).toInt < 120) (hz8 : 0 ≤ u.1 8 ∧ u.1 8 ≤ 20) (hz9 : 0 ≤ u.1 9 ∧ u.1 9 ≤ 8) (hz10 : 0 ≤ u.1 10 ∧ u.1 10 ≤ 120) (hz12 : 0 ≤ u.1 12 ∧ u.1 12 ≤ 16) (h_j : 0 ≤ x2 ∧ x2 ≤ uc.1 10) (h_n : qRn uc v (uc.1 10)) (h_m : uc.1 10 = u.1 10) (h_2 : qxr uc 2 = qxr u 2) (h_r : x2 < uc.1 10 → ∃ b, qxr uc 3 (uc.1 10).toNatClampNeg = some b ∧ qRv uc b) (c6_1 : ¬ (x2 : Int32) ≤ 0) (ha_11_12 : qRv uc a_11) (ha_17_18 : qRv uc a_17) (hg_f_22 : f_22 = va_up (uc.2.2.2.1 3) (x2 : Int32).toNatClampNeg (some a_17)) : (uc.1 10 : Int32) = u.1 10 := by
  exact h_m
set_option maxRecDepth 100000 in
theorem g_X0_keepVisit_v15 (u : qS) (v : Nat) (x2 : Int32) (uc : qS) (a_11 : Nat) (a_17 : Nat) (f_22 : Nat → Option Nat) (hn : qRn u v (u.1 10)) (hc : (u.1 10).toInt < 120) (hz8 : 0 ≤ u.1 8 ∧ u.1 8 ≤ 20) (hz9 : 0 ≤ u.1 9 ∧ u.1 9 ≤ 8) (hz10 : 0 ≤ u.1 10 ∧ u.1 10 ≤ 120) (hz12 : 0 ≤ u.1 12 ∧ u.1 12 ≤ 16) (h_j : 0 ≤ x2 ∧ x2 ≤ uc.1 10) (h_n : qRn uc v (uc.1 10)) (h_m : uc.1 10 = u.1 10) (h_2 : qxr uc 2 = qxr u 2) (h_r : x2 < uc.1 10 → ∃ b, qxr uc 3 (uc.1 10).toNatClampNeg = some b ∧ qRv uc b) (c6_1 : ¬ (x2 : Int32) ≤ 0) (ha_11_12 : qRv uc a_11) (ha_17_18 : qRv uc a_17) (hg_f_22 : f_22 = va_up (uc.2.2.2.1 3) (x2 : Int32).toNatClampNeg (some a_17)) : qxr (qsR uc 3 f_22) 2 = qxr u 2 := by
  exact h_2
set_option maxRecDepth 100000 in
theorem g_X0_keepVisit_v16 (u : qS) (v : Nat) (x2 : Int32) (uc : qS) (a_11 : Nat) (a_17 : Nat) (f_22 : Nat → Option Nat) (hn : qRn u v (u.1 10)) (hc : (u.1 10).toInt < 120) (hz8 : 0 ≤ u.1 8 ∧ u.1 8 ≤ 20) (hz9 : 0 ≤ u.1 9 ∧ u.1 9 ≤ 8) (hz10 : 0 ≤ u.1 10 ∧ u.1 10 ≤ 120) (hz12 : 0 ≤ u.1 12 ∧ u.1 12 ≤ 16) (h_j : 0 ≤ x2 ∧ x2 ≤ uc.1 10) (h_n : qRn uc v (uc.1 10)) (h_m : uc.1 10 = u.1 10) (h_2 : qxr uc 2 = qxr u 2) (h_r : x2 < uc.1 10 → ∃ b, qxr uc 3 (uc.1 10).toNatClampNeg = some b ∧ qRv uc b) (c6_1 : ¬ (x2 : Int32) ≤ 0) (ha_11_12 : qRv uc a_11) (ha_17_18 : qRv uc a_17) (hg_f_22 : f_22 = va_up (uc.2.2.2.1 3) (x2 : Int32).toNatClampNeg (some a_17)) : (x2 + (-1)) < (uc.1 10 : Int32) → ∃ b, qxr (qsR uc 3 f_22) 3 ((uc.1 10 : Int32)).toNatClampNeg = some b ∧ qRv (qsR uc 3 f_22) b := by
  intro _
  have e9 := (by assumption : _ = va_up (uc.2.2.2.1 3) x2.toNatClampNeg (some _))
  by_cases q : x2 = uc.1 10
  · exact ⟨_, by rw [qxr_s, e9, q, g_vs], by assumption⟩
  · have z : x2 < uc.1 10 := Int32.lt_iff_toInt_lt.mpr (by have z1 := Int32.le_iff_toInt_le.mp h_j.2; have z2 : x2.toInt ≠ (uc.1 10).toInt := fun y => q (Int32.toInt_inj.mp y); omega)
    obtain ⟨b, b1, b2⟩ := h_r z
    refine ⟨b, ?_, b2⟩
    rw [qxr_s, e9, g_vu (fun y => g_ne h_j.1 z y.symm)]
    exact b1
set_option maxRecDepth 100000 in
theorem g_X0_keepVisit_v17 (u : qS) (v : Nat) (x2 : Int32) (uc : qS) (a_11 : Nat) (a_17 : Nat) (f_22 : Nat → Option Nat) (hn : qRn u v (u.1 10)) (hc : (u.1 10).toInt < 120) (hz8 : 0 ≤ u.1 8 ∧ u.1 8 ≤ 20) (hz9 : 0 ≤ u.1 9 ∧ u.1 9 ≤ 8) (hz10 : 0 ≤ u.1 10 ∧ u.1 10 ≤ 120) (hz12 : 0 ≤ u.1 12 ∧ u.1 12 ≤ 16) (h_j : 0 ≤ x2 ∧ x2 ≤ uc.1 10) (h_n : qRn uc v (uc.1 10)) (h_m : uc.1 10 = u.1 10) (h_2 : qxr uc 2 = qxr u 2) (h_r : x2 < uc.1 10 → ∃ b, qxr uc 3 (uc.1 10).toNatClampNeg = some b ∧ qRv uc b) (c6_1 : ¬ (x2 : Int32) ≤ 0) (ha_11_12 : qRv uc a_11) (ha_17_18 : qRv uc a_17) (hg_f_22 : f_22 = va_up (uc.2.2.2.1 3) (x2 : Int32).toNatClampNeg (some a_17)) : (x2 + (-1)).toInt.toNat < x2.toInt.toNat := by
  first | omega | ((try simp only [g_m1, Int32.lt_iff_toInt_lt, Int32.le_iff_toInt_le, ← Int32.toInt_inj, Int32.reduceToInt] at *); omega) | ((try have ez2 : (x2 + (-1) : Int32).toInt = (x2 : Int32).toInt + ((-1) : Int32).toInt := g_add (by (try simp only [g_m1, Int32.lt_iff_toInt_lt, Int32.le_iff_toInt_le, ← Int32.toInt_inj, Int32.reduceToInt] at *); omega) (by (try simp only [g_m1, Int32.lt_iff_toInt_lt, Int32.le_iff_toInt_le, ← Int32.toInt_inj, Int32.reduceToInt] at *); omega)); (try simp only [g_m1, Int32.lt_iff_toInt_lt, Int32.le_iff_toInt_le, ← Int32.toInt_inj, Int32.reduceToInt] at *); omega) | ((try simp only [g_m1, Int32.lt_iff_toInt_lt, Int32.le_iff_toInt_le, ← Int32.toInt_inj, Int32.toInt_add, Int32.toInt_sub, Int32.toInt_mul, Int32.toInt_neg, Int32.reduceToInt, g_bm, g_bm'] at *); omega) | (have qr2 := g_rng x2; (try simp only [g_m1, Int32.lt_iff_toInt_lt, Int32.le_iff_toInt_le, ← Int32.toInt_inj, Int32.toInt_add, Int32.toInt_sub, Int32.toInt_mul, Int32.toInt_neg, Int32.reduceToInt, g_bm, g_bm'] at *); omega) | (simp only [g_m1, Int32.lt_iff_toInt_lt, Int32.le_iff_toInt_le, ← Int32.toInt_inj, Int32.toInt_add, Int32.toInt_sub, Int32.toInt_mul, Int32.toInt_neg, Int32.reduceToInt, g_bm, g_bm'] at *; simp at *; omega) | (simp_all; done)
set_option maxRecDepth 100000 in
theorem g_X0_keepVisit_v18 (u : qS) (v : Nat) (x2 : Int32) (uc : qS) (a_11 : Nat) (hn : qRn u v (u.1 10)) (hc : (u.1 10).toInt < 120) (hz8 : 0 ≤ u.1 8 ∧ u.1 8 ≤ 20) (hz9 : 0 ≤ u.1 9 ∧ u.1 9 ≤ 8) (hz10 : 0 ≤ u.1 10 ∧ u.1 10 ≤ 120) (hz12 : 0 ≤ u.1 12 ∧ u.1 12 ≤ 16) (h_j : 0 ≤ x2 ∧ x2 ≤ uc.1 10) (h_n : qRn uc v (uc.1 10)) (h_m : uc.1 10 = u.1 10) (h_2 : qxr uc 2 = qxr u 2) (h_r : x2 < uc.1 10 → ∃ b, qxr uc 3 (uc.1 10).toNatClampNeg = some b ∧ qRv uc b) (c6_1 : ¬ (x2 : Int32) ≤ 0) (ha_11_12 : qRv uc a_11) : vp_in (x2) 120 := by
  refine g_in ?_ ?_ <;> ((try simp only [g_m1, Int32.lt_iff_toInt_lt, Int32.le_iff_toInt_le, ← Int32.toInt_inj, Int32.toInt_add, Int32.toInt_sub, Int32.toInt_mul, Int32.toInt_neg, Int32.reduceToInt, g_bm, g_bm'] at *); omega)
set_option maxRecDepth 100000 in
theorem g_X0_keepVisit_v19 (u : qS) (v : Nat) (x2 : Int32) (uc : qS) (a_11 : Nat) (f_26 : Nat → Option Nat) (hn : qRn u v (u.1 10)) (hc : (u.1 10).toInt < 120) (hz8 : 0 ≤ u.1 8 ∧ u.1 8 ≤ 20) (hz9 : 0 ≤ u.1 9 ∧ u.1 9 ≤ 8) (hz10 : 0 ≤ u.1 10 ∧ u.1 10 ≤ 120) (hz12 : 0 ≤ u.1 12 ∧ u.1 12 ≤ 16) (h_j : 0 ≤ x2 ∧ x2 ≤ uc.1 10) (h_n : qRn uc v (uc.1 10)) (h_m : uc.1 10 = u.1 10) (h_2 : qxr uc 2 = qxr u 2) (h_r : x2 < uc.1 10 → ∃ b, qxr uc 3 (uc.1 10).toNatClampNeg = some b ∧ qRv uc b) (c6_1 : ¬ (x2 : Int32) ≤ 0) (ha_11_12 : qRv uc a_11) (hg_f_26 : f_26 = va_up (uc.2.2.2.1 3) (x2 : Int32).toNatClampNeg (some v)) (hs_27 : 0 ≤ uc.1 10 ∧ uc.1 10 ≤ 120) : vp_in (uc.1 10) 120 := by
  refine g_in ?_ ?_ <;> ((try simp only [g_m1, Int32.lt_iff_toInt_lt, Int32.le_iff_toInt_le, ← Int32.toInt_inj, Int32.toInt_add, Int32.toInt_sub, Int32.toInt_mul, Int32.toInt_neg, Int32.reduceToInt, g_bm, g_bm'] at *); omega)
set_option maxRecDepth 100000 in
theorem g_X0_keepVisit_v20 (u : qS) (v : Nat) (x2 : Int32) (uc : qS) (a_11 : Nat) (f_26 : Nat → Option Nat) (f_31 : Nat → Option Nat) (hn : qRn u v (u.1 10)) (hc : (u.1 10).toInt < 120) (hz8 : 0 ≤ u.1 8 ∧ u.1 8 ≤ 20) (hz9 : 0 ≤ u.1 9 ∧ u.1 9 ≤ 8) (hz10 : 0 ≤ u.1 10 ∧ u.1 10 ≤ 120) (hz12 : 0 ≤ u.1 12 ∧ u.1 12 ≤ 16) (h_j : 0 ≤ x2 ∧ x2 ≤ uc.1 10) (h_n : qRn uc v (uc.1 10)) (h_m : uc.1 10 = u.1 10) (h_2 : qxr uc 2 = qxr u 2) (h_r : x2 < uc.1 10 → ∃ b, qxr uc 3 (uc.1 10).toNatClampNeg = some b ∧ qRv uc b) (c6_1 : ¬ (x2 : Int32) ≤ 0) (ha_11_12 : qRv uc a_11) (hg_f_26 : f_26 = va_up (uc.2.2.2.1 3) (x2 : Int32).toNatClampNeg (some v)) (hs_27 : 0 ≤ uc.1 10 ∧ uc.1 10 ≤ 120) (hg_f_31 : f_31 = va_up ((qsR uc 3 f_26).2.2.2.1 2) (uc.1 10 : Int32).toNatClampNeg (some v)) : uc.1 10 ≤ uc.1 10 + 1 := by
  have z := (g_up (i := uc.1 10) (by rw [h_m]; (try simp only [g_m1, Int32.lt_iff_toInt_lt, Int32.le_iff_toInt_le, ← Int32.toInt_inj, Int32.reduceToInt] at *); omega) (by rw [h_m]; (try simp only [g_m1, Int32.lt_iff_toInt_lt, Int32.le_iff_toInt_le, ← Int32.toInt_inj, Int32.reduceToInt] at *); omega)).1; (try simp only [g_m1, Int32.lt_iff_toInt_lt, Int32.le_iff_toInt_le, ← Int32.toInt_inj, Int32.reduceToInt] at *); omega
set_option maxRecDepth 100000 in
theorem g_X0_keepVisit_v21 (u : qS) (v : Nat) (x2 : Int32) (uc : qS) (a_11 : Nat) (f_26 : Nat → Option Nat) (f_31 : Nat → Option Nat) (hn : qRn u v (u.1 10)) (hc : (u.1 10).toInt < 120) (hz8 : 0 ≤ u.1 8 ∧ u.1 8 ≤ 20) (hz9 : 0 ≤ u.1 9 ∧ u.1 9 ≤ 8) (hz10 : 0 ≤ u.1 10 ∧ u.1 10 ≤ 120) (hz12 : 0 ≤ u.1 12 ∧ u.1 12 ≤ 16) (h_j : 0 ≤ x2 ∧ x2 ≤ uc.1 10) (h_n : qRn uc v (uc.1 10)) (h_m : uc.1 10 = u.1 10) (h_2 : qxr uc 2 = qxr u 2) (h_r : x2 < uc.1 10 → ∃ b, qxr uc 3 (uc.1 10).toNatClampNeg = some b ∧ qRv uc b) (c6_1 : ¬ (x2 : Int32) ≤ 0) (ha_11_12 : qRv uc a_11) (hg_f_26 : f_26 = va_up (uc.2.2.2.1 3) (x2 : Int32).toNatClampNeg (some v)) (hs_27 : 0 ≤ uc.1 10 ∧ uc.1 10 ≤ 120) (hg_f_31 : f_31 = va_up ((qsR uc 3 f_26).2.2.2.1 2) (uc.1 10 : Int32).toNatClampNeg (some v)) : (uc.1 10).toInt < 120 := by
  first | omega | ((try simp only [g_m1, Int32.lt_iff_toInt_lt, Int32.le_iff_toInt_le, ← Int32.toInt_inj, Int32.reduceToInt] at *); omega) | ((try simp only [g_m1, Int32.lt_iff_toInt_lt, Int32.le_iff_toInt_le, ← Int32.toInt_inj, Int32.reduceToInt] at *); omega) | ((try simp only [g_m1, Int32.lt_iff_toInt_lt, Int32.le_iff_toInt_le, ← Int32.toInt_inj, Int32.toInt_add, Int32.toInt_sub, Int32.toInt_mul, Int32.toInt_neg, Int32.reduceToInt, g_bm, g_bm'] at *); omega) | (have qr2 := g_rng x2; (try simp only [g_m1, Int32.lt_iff_toInt_lt, Int32.le_iff_toInt_le, ← Int32.toInt_inj, Int32.toInt_add, Int32.toInt_sub, Int32.toInt_mul, Int32.toInt_neg, Int32.reduceToInt, g_bm, g_bm'] at *); omega) | (simp only [g_m1, Int32.lt_iff_toInt_lt, Int32.le_iff_toInt_le, ← Int32.toInt_inj, Int32.toInt_add, Int32.toInt_sub, Int32.toInt_mul, Int32.toInt_neg, Int32.reduceToInt, g_bm, g_bm'] at *; simp at *; omega) | (simp_all; done)
set_option maxRecDepth 100000 in
theorem g_X0_keepVisit_v22 (u : qS) (v : Nat) (x2 : Int32) (uc : qS) (a_11 : Nat) (f_26 : Nat → Option Nat) (f_31 : Nat → Option Nat) (hn : qRn u v (u.1 10)) (hc : (u.1 10).toInt < 120) (hz8 : 0 ≤ u.1 8 ∧ u.1 8 ≤ 20) (hz9 : 0 ≤ u.1 9 ∧ u.1 9 ≤ 8) (hz10 : 0 ≤ u.1 10 ∧ u.1 10 ≤ 120) (hz12 : 0 ≤ u.1 12 ∧ u.1 12 ≤ 16) (h_j : 0 ≤ x2 ∧ x2 ≤ uc.1 10) (h_n : qRn uc v (uc.1 10)) (h_m : uc.1 10 = u.1 10) (h_2 : qxr uc 2 = qxr u 2) (h_r : x2 < uc.1 10 → ∃ b, qxr uc 3 (uc.1 10).toNatClampNeg = some b ∧ qRv uc b) (c6_1 : ¬ (x2 : Int32) ≤ 0) (ha_11_12 : qRv uc a_11) (hg_f_26 : f_26 = va_up (uc.2.2.2.1 3) (x2 : Int32).toNatClampNeg (some v)) (hs_27 : 0 ≤ uc.1 10 ∧ uc.1 10 ≤ 120) (hg_f_31 : f_31 = va_up ((qsR uc 3 f_26).2.2.2.1 2) (uc.1 10 : Int32).toNatClampNeg (some v)) : 0 ≤ x2 ∧ x2 ≤ uc.1 10 := by
  exact h_j
set_option maxRecDepth 100000 in
theorem g_X0_keepVisit_v23 (u : qS) (v : Nat) (x2 : Int32) (uc : qS) (a_11 : Nat) (f_26 : Nat → Option Nat) (f_31 : Nat → Option Nat) (hn : qRn u v (u.1 10)) (hc : (u.1 10).toInt < 120) (hz8 : 0 ≤ u.1 8 ∧ u.1 8 ≤ 20) (hz9 : 0 ≤ u.1 9 ∧ u.1 9 ≤ 8) (hz10 : 0 ≤ u.1 10 ∧ u.1 10 ≤ 120) (hz12 : 0 ≤ u.1 12 ∧ u.1 12 ≤ 16) (h_j : 0 ≤ x2 ∧ x2 ≤ uc.1 10) (h_n : qRn uc v (uc.1 10)) (h_m : uc.1 10 = u.1 10) (h_2 : qxr uc 2 = qxr u 2) (h_r : x2 < uc.1 10 → ∃ b, qxr uc 3 (uc.1 10).toNatClampNeg = some b ∧ qRv uc b) (c6_1 : ¬ (x2 : Int32) ≤ 0) (ha_11_12 : qRv uc a_11) (hg_f_26 : f_26 = va_up (uc.2.2.2.1 3) (x2 : Int32).toNatClampNeg (some v)) (hs_27 : 0 ≤ uc.1 10 ∧ uc.1 10 ≤ 120) (hg_f_31 : f_31 = va_up ((qsR uc 3 f_26).2.2.2.1 2) (uc.1 10 : Int32).toNatClampNeg (some v)) : ∀ i : Int32, 0 ≤ i → i ≤ uc.1 10 → i ≠ x2 → (i < uc.1 10 ∨ ∃ b, qxr uc 3 i.toNatClampNeg = some b ∧ qRv uc b) := by
  intro i a b c
  by_cases q : i = uc.1 10
  · refine Or.inr ?_
    have z : x2 < uc.1 10 := by
      have z1 := Int32.le_iff_toInt_le.mp h_j.2
      have z2 : x2.toInt ≠ (uc.1 10).toInt := fun y => c (q.trans (Int32.toInt_inj.mp y).symm)
      exact Int32.lt_iff_toInt_lt.mpr (by omega)
    rw [q]; exact h_r z
  · exact Or.inl (Int32.lt_iff_toInt_lt.mpr (by have z1 := Int32.le_iff_toInt_le.mp b; have z2 : i.toInt ≠ (uc.1 10).toInt := fun y => q (Int32.toInt_inj.mp y); omega))
set_option maxRecDepth 100000 in
theorem g_X0_keepVisit_v24 (u : qS) (v : Nat) (x2 : Int32) (uc : qS) (a_11 : Nat) (f_26 : Nat → Option Nat) (f_31 : Nat → Option Nat) (hn : qRn u v (u.1 10)) (hc : (u.1 10).toInt < 120) (hz8 : 0 ≤ u.1 8 ∧ u.1 8 ≤ 20) (hz9 : 0 ≤ u.1 9 ∧ u.1 9 ≤ 8) (hz10 : 0 ≤ u.1 10 ∧ u.1 10 ≤ 120) (hz12 : 0 ≤ u.1 12 ∧ u.1 12 ≤ 16) (h_j : 0 ≤ x2 ∧ x2 ≤ uc.1 10) (h_n : qRn uc v (uc.1 10)) (h_m : uc.1 10 = u.1 10) (h_2 : qxr uc 2 = qxr u 2) (h_r : x2 < uc.1 10 → ∃ b, qxr uc 3 (uc.1 10).toNatClampNeg = some b ∧ qRv uc b) (c6_1 : ¬ (x2 : Int32) ≤ 0) (ha_11_12 : qRv uc a_11) (hg_f_26 : f_26 = va_up (uc.2.2.2.1 3) (x2 : Int32).toNatClampNeg (some v)) (hs_27 : 0 ≤ uc.1 10 ∧ uc.1 10 ≤ 120) (hg_f_31 : f_31 = va_up ((qsR uc 3 f_26).2.2.2.1 2) (uc.1 10 : Int32).toNatClampNeg (some v)) : ((uc.1 10) + 1 : Int32) = u.1 10 + 1 ∧ qxr (qsI (qsI (qsR (qsR uc 3 f_26) 2 f_31) 10 ((uc.1 10) + 1)) 18 ((uc.1 18) + 1)) 2 = va_up (qxr u 2) (u.1 10).toNatClampNeg (some v) := by
  exact ⟨by rw [h_m], (by assumption : _ = va_up ((qsR uc 3 _).2.2.2.1 2) _ (some v)).trans (by rw [h_m]; show va_up (qxr uc 2) _ _ = _; rw [h_2])⟩
set_option maxRecDepth 100000 in
theorem g_X0_keepVisit_v25 (u : qS) (v : Nat) (hn : qRn u v (u.1 10)) (hc : (u.1 10).toInt < 120) (hz8 : 0 ≤ u.1 8 ∧ u.1 8 ≤ 20) (hz9 : 0 ≤ u.1 9 ∧ u.1 9 ≤ 8) (hz10 : 0 ≤ u.1 10 ∧ u.1 10 ≤ 120) (hz12 : 0 ≤ u.1 12 ∧ u.1 12 ≤ 16) : 0 ≤ (u.1 10) ∧ (u.1 10) ≤ (u.1 10 : Int32) := by
  first | omega | ((try simp only [g_m1, Int32.lt_iff_toInt_lt, Int32.le_iff_toInt_le, ← Int32.toInt_inj, Int32.reduceToInt] at *); omega) | ((try simp only [g_m1, Int32.lt_iff_toInt_lt, Int32.le_iff_toInt_le, ← Int32.toInt_inj, Int32.reduceToInt] at *); omega) | ((try simp only [g_m1, Int32.lt_iff_toInt_lt, Int32.le_iff_toInt_le, ← Int32.toInt_inj, Int32.toInt_add, Int32.toInt_sub, Int32.toInt_mul, Int32.toInt_neg, Int32.reduceToInt, g_bm, g_bm'] at *); omega) | ((try simp only [g_m1, Int32.lt_iff_toInt_lt, Int32.le_iff_toInt_le, ← Int32.toInt_inj, Int32.toInt_add, Int32.toInt_sub, Int32.toInt_mul, Int32.toInt_neg, Int32.reduceToInt, g_bm, g_bm'] at *); omega) | (simp only [g_m1, Int32.lt_iff_toInt_lt, Int32.le_iff_toInt_le, ← Int32.toInt_inj, Int32.toInt_add, Int32.toInt_sub, Int32.toInt_mul, Int32.toInt_neg, Int32.reduceToInt, g_bm, g_bm'] at *; simp at *; omega) | (simp_all; done)
set_option maxRecDepth 100000 in
theorem g_X0_keepVisit_v26 (u : qS) (v : Nat) (hn : qRn u v (u.1 10)) (hc : (u.1 10).toInt < 120) (hz8 : 0 ≤ u.1 8 ∧ u.1 8 ≤ 20) (hz9 : 0 ≤ u.1 9 ∧ u.1 9 ≤ 8) (hz10 : 0 ≤ u.1 10 ∧ u.1 10 ≤ 120) (hz12 : 0 ≤ u.1 12 ∧ u.1 12 ≤ 16) : qRn u v ((u.1 10 : Int32)) := by
  exact hn
set_option maxRecDepth 100000 in
theorem g_X0_keepVisit_v27 (u : qS) (v : Nat) (hn : qRn u v (u.1 10)) (hc : (u.1 10).toInt < 120) (hz8 : 0 ≤ u.1 8 ∧ u.1 8 ≤ 20) (hz9 : 0 ≤ u.1 9 ∧ u.1 9 ≤ 8) (hz10 : 0 ≤ u.1 10 ∧ u.1 10 ≤ 120) (hz12 : 0 ≤ u.1 12 ∧ u.1 12 ≤ 16) : (u.1 10 : Int32) = u.1 10 := by
  rfl
set_option maxRecDepth 100000 in
theorem g_X0_keepVisit_v28 (u : qS) (v : Nat) (hn : qRn u v (u.1 10)) (hc : (u.1 10).toInt < 120) (hz8 : 0 ≤ u.1 8 ∧ u.1 8 ≤ 20) (hz9 : 0 ≤ u.1 9 ∧ u.1 9 ≤ 8) (hz10 : 0 ≤ u.1 10 ∧ u.1 10 ≤ 120) (hz12 : 0 ≤ u.1 12 ∧ u.1 12 ≤ 16) : qxr u 2 = qxr u 2 := by
  rfl
set_option maxRecDepth 100000 in
theorem g_X0_keepVisit_v29 (u : qS) (v : Nat) (hn : qRn u v (u.1 10)) (hc : (u.1 10).toInt < 120) (hz8 : 0 ≤ u.1 8 ∧ u.1 8 ≤ 20) (hz9 : 0 ≤ u.1 9 ∧ u.1 9 ≤ 8) (hz10 : 0 ≤ u.1 10 ∧ u.1 10 ≤ 120) (hz12 : 0 ≤ u.1 12 ∧ u.1 12 ≤ 16) : (u.1 10) < (u.1 10 : Int32) → ∃ b, qxr u 3 ((u.1 10 : Int32)).toNatClampNeg = some b ∧ qRv u b := by
  intro q; exact absurd q (Int32.lt_irrefl)
set_option maxHeartbeats 1000000 in
set_option maxRecDepth 100000 in
theorem g_X0_keepVisit (l : Launch) (E : qE) (A : Nat → Prop) (u : qS) (v : Nat) (hI : IC E u) (hv : qRf u v 10) (hn : qRn u v (u.1 10)) (hc : (u.1 10).toInt < 120) : Met l yX0_keepVisit (uws yX0_keepVisit cX0_keepVisit 3 none) (qR 1 0 0) (qPc E A 0 u [.ref (E.2.2 99), .ref v]) (qQv E A 0 (fun u1 => (qFc [10, 18] [] [] [2, 3] u u1 ∧ IC E u1 ∧ u1.2.2.2.2 = u.2.2.2.2) ∧ (u1.1 10 = u.1 10 + 1 ∧ qxr u1 2 = va_up (qxr u 2) (u.1 10).toNatClampNeg (some v)))) 0 0 A := by
  refine q_met (own := RX0) (f := 1) [.ref (E.2.2 99), .ref v] (by decide) (Nat.le_of_ble_eq_true rfl) rfl ?_
  intro p0 e0 s0 m0 bl0 me0 cd0 ls hF hr hlocks hU hS hA hl
  have hl : lv_has ls 3 [(0, .ref (E.2.2 99)), (1, .ref v)] := hl
  have hkd : u.2.2.2.2 = u.2.2.2.2 := rfl
  have hz8 : 0 ≤ u.1 8 ∧ u.1 8 ≤ 20 := hI.1.s8
  have hz9 : 0 ≤ u.1 9 ∧ u.1 9 ≤ 8 := hI.1.s9
  have hz10 : 0 ≤ u.1 10 ∧ u.1 10 ≤ 120 := hI.1.s10
  have hz12 : 0 ≤ u.1 12 ∧ u.1 12 ≤ 16 := hI.1.s12
  have hfr : qFc [10, 18] [] [] [2, 3] u u := qFc.rf
  have main : ∀ n : Nat, (∀ (x2 : Int32) (uc : qS) (H : Heap) (locs : List Loc) (ls : Array Slot) (hfr : qFc [10, 18] [] [] [2, 3] u uc) (hI : IC E uc) (hkd : uc.2.2.2.2 = u.2.2.2.2) (hl1 : qRf uc v 10) (h_j : 0 ≤ x2 ∧ x2 ≤ uc.1 10) (h_n : qRn uc v (uc.1 10)) (h_m : uc.1 10 = u.1 10) (h_2 : qxr uc 2 = qxr u 2) (h_r : x2 < uc.1 10 → ∃ b, qxr uc 3 (uc.1 10).toNatClampNeg = some b ∧ qRv uc b), x2.toInt.toNat < n → qH E A 0 uc s0 H → va_S A s0.heap H locs → lv_has ls 3 [(0, .ref (E.2.2 99)), (1, .ref v), (2, .int x2)] → W p0 l e0 (qR 1 0 0) s0 m0 ([.ref (E.2.2 99), .ref v] : List Value).toArray bl0 me0 cd0 H locs 0 0 (MQ bl0 (qQv E A 0 (fun u1 => (qFc [10, 18] [] [] [2, 3] u u1 ∧ IC E u1 ∧ u1.2.2.2.2 = u.2.2.2.2) ∧ (u1.1 10 = u.1 10 + 1 ∧ qxr u1 2 = va_up (qxr u 2) (u.1 10).toNatClampNeg (some v)))) ([.ref (E.2.2 99), .ref v] : List Value).toArray s0 0 0 A) (F0 m0 5 ls [])) := by
    clear hI hfr hkd
    intro n
    induction n with
    | zero => exact fun _ _ _ _ _ _ _ _ _ _ _ _ _ _ hmu => absurd hmu (Nat.not_lt_zero _)
    | succ n ih =>
      intro x2 uc H locs ls hfr hI hkd hl1 h_j h_n h_m h_2 h_r hmu hU hS hl
      refine lv_iload_n hF.1 hF.2.1 dX0_keepVisit_5 rfl (lv_at hl 2 rfl) ?_
      refine lv_if_le (tgt := 44) hF.1 hF.2.1 dX0_keepVisit_6 (by decide) (fun c6_1 => ?_) (fun c6_1 => ?_)
      · refine lv_aload_n hF.1 hF.2.1 dX0_keepVisit_44 rfl (lv_at hl 0 rfl) ?_
        refine q_get (v := .ref (E.2.2 3)) hF hU dX0_keepVisit_45 1 0 3 3 99 rfl rfl rfl rfl inX0 (by decide) (by decide) w_152 rfl rfl ?_
        refine lv_iload_n hF.1 hF.2.1 dX0_keepVisit_48 rfl (lv_at hl 2 rfl) ?_
        refine lv_aload_n hF.1 hF.2.1 dX0_keepVisit_49 rfl (lv_at hl 1 rfl) ?_
        obtain ⟨k_2, fs_3, hd_4⟩ := id (hl1)
        refine q_aast hF hU hS dX0_keepVisit_50 3 3 6 rfl rfl (by decide) k_2 10 hd_4 rfl rfl (g_X0_keepVisit_v0 u v x2 uc hn hc hz8 hz9 hz10 hz12 h_j h_n h_m h_2 h_r c6_1) (fun f_5 H locs hg_f_5 hU hS => ?_)
        have hfr : qFc [10, 18] [] [] [2, 3] u (qsR uc 3 f_5) := hfr.setR (by decide)
        refine lv_aload_n hF.1 hF.2.1 dX0_keepVisit_51 rfl (lv_at hl 0 rfl) ?_
        refine q_get (v := .ref (E.2.2 2)) hF hU dX0_keepVisit_52 1 0 2 2 99 rfl rfl rfl rfl inX0 (by decide) (by decide) w_148 rfl rfl ?_
        refine lv_aload_n hF.1 hF.2.1 dX0_keepVisit_55 rfl (lv_at hl 0 rfl) ?_
        refine q_get (v := .int (uc.1 10)) hF hU dX0_keepVisit_56 1 0 10 10 99 rfl rfl rfl rfl inX0 (by decide) (by decide) w_171 rfl rfl ?_
        have hs_6 : 0 ≤ uc.1 10 ∧ uc.1 10 ≤ 120 := hI.1.s10
        refine lv_aload_n hF.1 hF.2.1 dX0_keepVisit_59 rfl (lv_at hl 1 rfl) ?_
        obtain ⟨k_7, fs_8, hd_9⟩ := id (hl1)
        refine q_aast hF hU hS dX0_keepVisit_60 2 2 6 rfl rfl (by decide) k_7 10 hd_9 rfl rfl (g_X0_keepVisit_v1 u v x2 uc f_5 hn hc hz8 hz9 hz10 hz12 h_j h_n h_m h_2 h_r c6_1 hg_f_5 hs_6) (fun f_10 H locs hg_f_10 hU hS => ?_)
        have hfr : qFc [10, 18] [] [] [2, 3] u (qsR (qsR uc 3 f_5) 2 f_10) := hfr.setR (by decide)
        refine lv_aload_n hF.1 hF.2.1 dX0_keepVisit_61 rfl (lv_at hl 0 rfl) ?_
        refine lv_dup hF.1 hF.2.1 dX0_keepVisit_62 rfl ?_
        refine q_get (v := .int (uc.1 10)) hF hU dX0_keepVisit_63 1 0 10 10 99 rfl rfl rfl rfl inX0 (by decide) (by decide) w_171 rfl rfl ?_
        refine lv_iconst (v := 1) hF.1 hF.2.1 dX0_keepVisit_66 (by decide) ?_
        refine lv_iadd hF.1 hF.2.1 dX0_keepVisit_67 ?_
        refine q_put hF hU hS dX0_keepVisit_68 1 0 10 10 99 rfl rfl rfl rfl inX0 tyX0 tyX0_ok nmX0 (by decide) (by decide) rfl w_171 rfl rfl rfl rfl (fun H locs hU hS => ?_)
        have hfr : qFc [10, 18] [] [] [2, 3] u (qsI (qsR (qsR uc 3 f_5) 2 f_10) 10 ((uc.1 10) + 1)) := hfr.setI (by decide) (fun _ => (g_X0_keepVisit_v2 u v x2 uc f_5 f_10 hn hc hz8 hz9 hz10 hz12 h_j h_n h_m h_2 h_r c6_1 hg_f_5 hs_6 hg_f_10))
        have hI : IC E (qsI (qsR (qsR uc 3 f_5) 2 f_10) 10 ((uc.1 10) + 1)) := (hI.keep h_n (g_X0_keepVisit_v3 u v x2 uc f_5 f_10 hn hc hz8 hz9 hz10 hz12 h_j h_n h_m h_2 h_r c6_1 hg_f_5 hs_6 hg_f_10) (g_X0_keepVisit_v4 u v x2 uc f_5 f_10 hn hc hz8 hz9 hz10 hz12 h_j h_n h_m h_2 h_r c6_1 hg_f_5 hs_6 hg_f_10) (fun i a b c => ((g_X0_keepVisit_v5 u v x2 uc f_5 f_10 hn hc hz8 hz9 hz10 hz12 h_j h_n h_m h_2 h_r c6_1 hg_f_5 hs_6 hg_f_10) i a b c).elim (fun q => hI.r3 i ⟨a, q⟩) id) hg_f_5 hg_f_10).1
        refine lv_aload_n hF.1 hF.2.1 dX0_keepVisit_71 rfl (lv_at hl 0 rfl) ?_
        refine lv_dup hF.1 hF.2.1 dX0_keepVisit_72 rfl ?_
        refine q_get (v := .int (uc.1 18)) hF hU dX0_keepVisit_73 1 0 18 18 99 rfl rfl rfl rfl inX0 (by decide) (by decide) w_191 rfl rfl ?_
        refine lv_iconst (v := 1) hF.1 hF.2.1 dX0_keepVisit_76 (by decide) ?_
        refine lv_iadd hF.1 hF.2.1 dX0_keepVisit_77 ?_
        refine q_put hF hU hS dX0_keepVisit_78 1 0 18 18 99 rfl rfl rfl rfl inX0 tyX0 tyX0_ok nmX0 (by decide) (by decide) rfl w_191 rfl rfl rfl rfl (fun H locs hU hS => ?_)
        have hfr : qFc [10, 18] [] [] [2, 3] u (qsI (qsI (qsR (qsR uc 3 f_5) 2 f_10) 10 ((uc.1 10) + 1)) 18 ((uc.1 18) + 1)) := hfr.setI (by decide) (fun q => absurd q (by decide))
        have hI : IC E (qsI (qsI (qsR (qsR uc 3 f_5) 2 f_10) 10 ((uc.1 10) + 1)) 18 ((uc.1 18) + 1)) := hI.sI (by decide)
        exact q_vret hF hr hlocks hU hS dX0_keepVisit_81 ⟨⟨hfr, hI, hkd⟩, (g_X0_keepVisit_v6 u v x2 uc f_5 f_10 hn hc hz8 hz9 hz10 hz12 h_j h_n h_m h_2 h_r c6_1 hg_f_5 hs_6 hg_f_10)⟩
      · refine lv_aload_n hF.1 hF.2.1 dX0_keepVisit_9 rfl (lv_at hl 0 rfl) ?_
        refine q_get (v := .ref (E.2.2 3)) hF hU dX0_keepVisit_10 1 0 3 3 99 rfl rfl rfl rfl inX0 (by decide) (by decide) w_152 rfl rfl ?_
        refine lv_iload_n hF.1 hF.2.1 dX0_keepVisit_13 rfl (lv_at hl 2 rfl) ?_
        refine lv_iconst (v := 1) hF.1 hF.2.1 dX0_keepVisit_14 (by decide) ?_
        refine lv_isub hF.1 hF.2.1 dX0_keepVisit_15 ?_
        obtain ⟨a_11, ha_11_12_e, ha_11_12⟩ := hI.r3 (x2 - 1) (g_X0_keepVisit_v7 u v x2 uc hn hc hz8 hz9 hz10 hz12 h_j h_n h_m h_2 h_r c6_1)
        refine q_aald (v := .ref a_11) hF hU dX0_keepVisit_16 3 3 6 rfl rfl (by decide) rfl (g_X0_keepVisit_v8 u v x2 uc hn hc hz8 hz9 hz10 hz12 h_j h_n h_m h_2 h_r c6_1) (by rw [ha_11_12_e]; rfl) ?_
        refine lv_aload_n hF.1 hF.2.1 dX0_keepVisit_17 rfl (lv_at hl 1 rfl) ?_
        have hM9 := g_X0_isLater l E A uc a_11 v hI ((ha_11_12).rf) hl1
        have hR9 := q_runS (l := l) (e := e0) (below := bl0) (meth := me0) (R := qR 1 0 0) (cells := 0) (slots := 0) (st0 := [.ref v, .ref a_11]) (rest := []) hF hU hS hA 2 hM9 w_675 w_676 w_100 w_677 (by decide +kernel) ⟨Nat.le_of_ble_eq_true rfl, Nat.le_of_ble_eq_true rfl⟩ dX0_keepVisit_18 rfl hl.1 rfl (Nat.le_of_ble_eq_true rfl) ⟨Nat.le_of_ble_eq_true rfl, Nat.le_of_ble_eq_true rfl⟩
        refine q_calli hR9 hU.2.2.2 hS (fun r_15 u_13 H locs hw_14 hU hS => ?_)
        obtain ⟨hw_14_e, hw_14⟩ := hw_14
        rw [hw_14_e] at hU
        rcases hw_14 with rfl | rfl
        · refine lv_if_eq (tgt := 44) hF.1 hF.2.1 dX0_keepVisit_21 (by decide) (fun h9 => absurd h9 (by decide)) (fun _ => ?_)
          refine lv_aload_n hF.1 hF.2.1 dX0_keepVisit_24 rfl (lv_at hl 0 rfl) ?_
          refine q_get (v := .ref (E.2.2 3)) hF hU dX0_keepVisit_25 1 0 3 3 99 rfl rfl rfl rfl inX0 (by decide) (by decide) w_152 rfl rfl ?_
          refine lv_iload_n hF.1 hF.2.1 dX0_keepVisit_28 rfl (lv_at hl 2 rfl) ?_
          refine lv_aload_n hF.1 hF.2.1 dX0_keepVisit_29 rfl (lv_at hl 0 rfl) ?_
          refine q_get (v := .ref (E.2.2 3)) hF hU dX0_keepVisit_30 1 0 3 3 99 rfl rfl rfl rfl inX0 (by decide) (by decide) w_152 rfl rfl ?_
          refine lv_iload_n hF.1 hF.2.1 dX0_keepVisit_33 rfl (lv_at hl 2 rfl) ?_
          refine lv_iconst (v := 1) hF.1 hF.2.1 dX0_keepVisit_34 (by decide) ?_
          refine lv_isub hF.1 hF.2.1 dX0_keepVisit_35 ?_
          obtain ⟨a_17, ha_17_18_e, ha_17_18⟩ := hI.r3 (x2 - 1) (g_X0_keepVisit_v9 u v x2 uc a_11 hn hc hz8 hz9 hz10 hz12 h_j h_n h_m h_2 h_r c6_1 ha_11_12)
          refine q_aald (v := .ref a_17) hF hU dX0_keepVisit_36 3 3 6 rfl rfl (by decide) rfl (g_X0_keepVisit_v10 u v x2 uc a_11 hn hc hz8 hz9 hz10 hz12 h_j h_n h_m h_2 h_r c6_1 ha_11_12) (by rw [ha_17_18_e]; rfl) ?_
          obtain ⟨k_19, fs_20, hd_21⟩ := id ((ha_17_18).rf)
          refine q_aast hF hU hS dX0_keepVisit_37 3 3 6 rfl rfl (by decide) k_19 10 hd_21 rfl rfl (g_X0_keepVisit_v11 u v x2 uc a_11 a_17 hn hc hz8 hz9 hz10 hz12 h_j h_n h_m h_2 h_r c6_1 ha_11_12 ha_17_18) (fun f_22 H locs hg_f_22 hU hS => ?_)
          have hfr : qFc [10, 18] [] [] [2, 3] u (qsR uc 3 f_22) := hfr.setR (by decide)
          have hI : IC E (qsR uc 3 f_22) := by rw [hg_f_22]; exact hI.w3 ha_17_18
          refine lv_iinc (v := x2 + (-1)) (lv' := [(2, .int (x2 + (-1))), (0, .ref (E.2.2 99)), (1, .ref v)]) hF.1 hF.2.1 dX0_keepVisit_38 hl (k := 2) rfl rfl (by decide) rfl (fun ls hl => ?_)
          refine lv_goto (tgt := 5) hF.1 hF.2.1 dX0_keepVisit_41 (by decide) ?_
          exact ih (x2 + (-1)) (qsR uc 3 f_22) _ _ _ hfr hI hkd hl1 (g_X0_keepVisit_v12 u v x2 uc a_11 a_17 f_22 hn hc hz8 hz9 hz10 hz12 h_j h_n h_m h_2 h_r c6_1 ha_11_12 ha_17_18 hg_f_22) (g_X0_keepVisit_v13 u v x2 uc a_11 a_17 f_22 hn hc hz8 hz9 hz10 hz12 h_j h_n h_m h_2 h_r c6_1 ha_11_12 ha_17_18 hg_f_22) (g_X0_keepVisit_v14 u v x2 uc a_11 a_17 f_22 hn hc hz8 hz9 hz10 hz12 h_j h_n h_m h_2 h_r c6_1 ha_11_12 ha_17_18 hg_f_22) (g_X0_keepVisit_v15 u v x2 uc a_11 a_17 f_22 hn hc hz8 hz9 hz10 hz12 h_j h_n h_m h_2 h_r c6_1 ha_11_12 ha_17_18 hg_f_22) (g_X0_keepVisit_v16 u v x2 uc a_11 a_17 f_22 hn hc hz8 hz9 hz10 hz12 h_j h_n h_m h_2 h_r c6_1 ha_11_12 ha_17_18 hg_f_22) (Nat.lt_of_lt_of_le (g_X0_keepVisit_v17 u v x2 uc a_11 a_17 f_22 hn hc hz8 hz9 hz10 hz12 h_j h_n h_m h_2 h_r c6_1 ha_11_12 ha_17_18 hg_f_22) (Nat.lt_succ_iff.mp hmu)) hU hS (lv_sub hl [1, 2, 0] rfl)
        · refine lv_if_eq (tgt := 44) hF.1 hF.2.1 dX0_keepVisit_21 (by decide) (fun _ => ?_) (fun h9 => absurd (by decide) h9)
          refine lv_aload_n hF.1 hF.2.1 dX0_keepVisit_44 rfl (lv_at hl 0 rfl) ?_
          refine q_get (v := .ref (E.2.2 3)) hF hU dX0_keepVisit_45 1 0 3 3 99 rfl rfl rfl rfl inX0 (by decide) (by decide) w_152 rfl rfl ?_
          refine lv_iload_n hF.1 hF.2.1 dX0_keepVisit_48 rfl (lv_at hl 2 rfl) ?_
          refine lv_aload_n hF.1 hF.2.1 dX0_keepVisit_49 rfl (lv_at hl 1 rfl) ?_
          obtain ⟨k_23, fs_24, hd_25⟩ := id (hl1)
          refine q_aast hF hU hS dX0_keepVisit_50 3 3 6 rfl rfl (by decide) k_23 10 hd_25 rfl rfl (g_X0_keepVisit_v18 u v x2 uc a_11 hn hc hz8 hz9 hz10 hz12 h_j h_n h_m h_2 h_r c6_1 ha_11_12) (fun f_26 H locs hg_f_26 hU hS => ?_)
          have hfr : qFc [10, 18] [] [] [2, 3] u (qsR uc 3 f_26) := hfr.setR (by decide)
          refine lv_aload_n hF.1 hF.2.1 dX0_keepVisit_51 rfl (lv_at hl 0 rfl) ?_
          refine q_get (v := .ref (E.2.2 2)) hF hU dX0_keepVisit_52 1 0 2 2 99 rfl rfl rfl rfl inX0 (by decide) (by decide) w_148 rfl rfl ?_
          refine lv_aload_n hF.1 hF.2.1 dX0_keepVisit_55 rfl (lv_at hl 0 rfl) ?_
          refine q_get (v := .int (uc.1 10)) hF hU dX0_keepVisit_56 1 0 10 10 99 rfl rfl rfl rfl inX0 (by decide) (by decide) w_171 rfl rfl ?_
          have hs_27 : 0 ≤ uc.1 10 ∧ uc.1 10 ≤ 120 := hI.1.s10
          refine lv_aload_n hF.1 hF.2.1 dX0_keepVisit_59 rfl (lv_at hl 1 rfl) ?_
          obtain ⟨k_28, fs_29, hd_30⟩ := id (hl1)
          refine q_aast hF hU hS dX0_keepVisit_60 2 2 6 rfl rfl (by decide) k_28 10 hd_30 rfl rfl (g_X0_keepVisit_v19 u v x2 uc a_11 f_26 hn hc hz8 hz9 hz10 hz12 h_j h_n h_m h_2 h_r c6_1 ha_11_12 hg_f_26 hs_27) (fun f_31 H locs hg_f_31 hU hS => ?_)
          have hfr : qFc [10, 18] [] [] [2, 3] u (qsR (qsR uc 3 f_26) 2 f_31) := hfr.setR (by decide)
          refine lv_aload_n hF.1 hF.2.1 dX0_keepVisit_61 rfl (lv_at hl 0 rfl) ?_
          refine lv_dup hF.1 hF.2.1 dX0_keepVisit_62 rfl ?_
          refine q_get (v := .int (uc.1 10)) hF hU dX0_keepVisit_63 1 0 10 10 99 rfl rfl rfl rfl inX0 (by decide) (by decide) w_171 rfl rfl ?_
          refine lv_iconst (v := 1) hF.1 hF.2.1 dX0_keepVisit_66 (by decide) ?_
          refine lv_iadd hF.1 hF.2.1 dX0_keepVisit_67 ?_
          refine q_put hF hU hS dX0_keepVisit_68 1 0 10 10 99 rfl rfl rfl rfl inX0 tyX0 tyX0_ok nmX0 (by decide) (by decide) rfl w_171 rfl rfl rfl rfl (fun H locs hU hS => ?_)
          have hfr : qFc [10, 18] [] [] [2, 3] u (qsI (qsR (qsR uc 3 f_26) 2 f_31) 10 ((uc.1 10) + 1)) := hfr.setI (by decide) (fun _ => (g_X0_keepVisit_v20 u v x2 uc a_11 f_26 f_31 hn hc hz8 hz9 hz10 hz12 h_j h_n h_m h_2 h_r c6_1 ha_11_12 hg_f_26 hs_27 hg_f_31))
          have hI : IC E (qsI (qsR (qsR uc 3 f_26) 2 f_31) 10 ((uc.1 10) + 1)) := (hI.keep h_n (g_X0_keepVisit_v21 u v x2 uc a_11 f_26 f_31 hn hc hz8 hz9 hz10 hz12 h_j h_n h_m h_2 h_r c6_1 ha_11_12 hg_f_26 hs_27 hg_f_31) (g_X0_keepVisit_v22 u v x2 uc a_11 f_26 f_31 hn hc hz8 hz9 hz10 hz12 h_j h_n h_m h_2 h_r c6_1 ha_11_12 hg_f_26 hs_27 hg_f_31) (fun i a b c => ((g_X0_keepVisit_v23 u v x2 uc a_11 f_26 f_31 hn hc hz8 hz9 hz10 hz12 h_j h_n h_m h_2 h_r c6_1 ha_11_12 hg_f_26 hs_27 hg_f_31) i a b c).elim (fun q => hI.r3 i ⟨a, q⟩) id) hg_f_26 hg_f_31).1
          refine lv_aload_n hF.1 hF.2.1 dX0_keepVisit_71 rfl (lv_at hl 0 rfl) ?_
          refine lv_dup hF.1 hF.2.1 dX0_keepVisit_72 rfl ?_
          refine q_get (v := .int (uc.1 18)) hF hU dX0_keepVisit_73 1 0 18 18 99 rfl rfl rfl rfl inX0 (by decide) (by decide) w_191 rfl rfl ?_
          refine lv_iconst (v := 1) hF.1 hF.2.1 dX0_keepVisit_76 (by decide) ?_
          refine lv_iadd hF.1 hF.2.1 dX0_keepVisit_77 ?_
          refine q_put hF hU hS dX0_keepVisit_78 1 0 18 18 99 rfl rfl rfl rfl inX0 tyX0 tyX0_ok nmX0 (by decide) (by decide) rfl w_191 rfl rfl rfl rfl (fun H locs hU hS => ?_)
          have hfr : qFc [10, 18] [] [] [2, 3] u (qsI (qsI (qsR (qsR uc 3 f_26) 2 f_31) 10 ((uc.1 10) + 1)) 18 ((uc.1 18) + 1)) := hfr.setI (by decide) (fun q => absurd q (by decide))
          have hI : IC E (qsI (qsI (qsR (qsR uc 3 f_26) 2 f_31) 10 ((uc.1 10) + 1)) 18 ((uc.1 18) + 1)) := hI.sI (by decide)
          exact q_vret hF hr hlocks hU hS dX0_keepVisit_81 ⟨⟨hfr, hI, hkd⟩, (g_X0_keepVisit_v24 u v x2 uc a_11 f_26 f_31 hn hc hz8 hz9 hz10 hz12 h_j h_n h_m h_2 h_r c6_1 ha_11_12 hg_f_26 hs_27 hg_f_31)⟩
  refine lv_aload_n hF.1 hF.2.1 dX0_keepVisit_0 rfl (lv_at hl 0 rfl) ?_
  refine q_get (v := .int (u.1 10)) hF hU dX0_keepVisit_1 1 0 10 10 99 rfl rfl rfl rfl inX0 (by decide) (by decide) w_171 rfl rfl ?_
  refine lv_istore_n (lv' := [(2, .int (u.1 10)), (0, .ref (E.2.2 99)), (1, .ref v)]) hF.1 hF.2.1 dX0_keepVisit_4 rfl hl (by decide) rfl (fun ls hl => ?_)
  exact (main _) (u.1 10) u _ _ _ hfr hI hkd hv (g_X0_keepVisit_v25 u v hn hc hz8 hz9 hz10 hz12) (g_X0_keepVisit_v26 u v hn hc hz8 hz9 hz10 hz12) (g_X0_keepVisit_v27 u v hn hc hz8 hz9 hz10 hz12) (g_X0_keepVisit_v28 u v hn hc hz8 hz9 hz10 hz12) (g_X0_keepVisit_v29 u v hn hc hz8 hz9 hz10 hz12) (Nat.lt_succ_self _) hU hS (lv_sub hl [1, 2, 0] rfl)
set_option maxRecDepth 100000 in
theorem g_X11_visit_v0 (u : qS) (x : Int32) (y : Int32) (z : Int32) (a : Int32) (b : Int32) (c : Int32) (e : Int32) (hz8 : 0 ≤ u.1 8 ∧ u.1 8 ≤ 20) (hz9 : 0 ≤ u.1 9 ∧ u.1 9 ≤ 8) (hz10 : 0 ≤ u.1 10 ∧ u.1 10 ≤ 120) (hz12 : 0 ≤ u.1 12 ∧ u.1 12 ≤ 16) (b5_4 : 0 ≤ x ∧ x < u.1 8) (b16_8 : 0 ≤ y ∧ y < u.1 9) (b31_12 : (0 : Int32) ≤ z ∧ z ≤ (u.1 13)) (b41_16 : 0 ≤ a ∧ a ≤ 1439) (b53_20 : (1 : Int32) ≤ b ∧ b ≤ (300 : Int32)) (b65_24 : (0 : Int32) ≤ c ∧ c ≤ (4095 : Int32)) (c76_25 : (e : Int32) = (-1)) (c98_26 : 120 ≤ (u.1 10 : Int32)) : (((0 ≤ x ∧ x < u.1 8) ∧ (0 ≤ y ∧ y < u.1 9) ∧ (0 ≤ z ∧ z ≤ u.1 13) ∧ (0 ≤ a ∧ a ≤ 1439) ∧ (1 ≤ b ∧ b ≤ 300) ∧ (0 ≤ c ∧ c ≤ 4095) ∧ (-1 ≤ e ∧ e ≤ 1439) ∧ u.1 10 < 120 ∧ g_ct (cvr u 3) (cvr u 4) y z (u.1 10).toNatClampNeg < 12) ∧ ((-1) : Int32) = u.1 10 ∧ (u.1 10 : Int32) = u.1 10 + 1 ∧ qVn u u x y z a b c e) ∨ (¬ ((0 ≤ x ∧ x < u.1 8) ∧ (0 ≤ y ∧ y < u.1 9) ∧ (0 ≤ z ∧ z ≤ u.1 13) ∧ (0 ≤ a ∧ a ≤ 1439) ∧ (1 ≤ b ∧ b ≤ 300) ∧ (0 ≤ c ∧ c ≤ 4095) ∧ (-1 ≤ e ∧ e ≤ 1439) ∧ u.1 10 < 120 ∧ g_ct (cvr u 3) (cvr u 4) y z (u.1 10).toNatClampNeg < 12) ∧ ((-1) : Int32) = -1 ∧ (u.1 10 : Int32) = u.1 10 ∧ qV0 u u) := by
  first | (refine Or.inl ⟨⟨?_, ?_, ?_, ?_, ?_, ?_, ?_, ?_, ?_⟩, ?_, ?_, ?_⟩ <;> first | assumption | exact (by assumption : _ ∧ qxr _ 2 = _).1 | (clear hVn hnum; (try simp only [g_m1, Int32.lt_iff_toInt_lt, Int32.le_iff_toInt_le, ← Int32.toInt_inj, Int32.reduceToInt] at *); omega)) | exact Or.inr ⟨fun q9 => (by obtain ⟨q1, q2, q3, q4, q5, q6, q7, q8, q9⟩ := q9; (try simp only [g_m1, Int32.lt_iff_toInt_lt, Int32.le_iff_toInt_le, ← Int32.toInt_inj, Int32.reduceToInt] at *); omega), rfl, rfl, rfl, rfl⟩
set_option maxRecDepth 100000 in
theorem g_X11_visit_v1 (u : qS) (x : Int32) (y : Int32) (z : Int32) (a : Int32) (b : Int32) (c : Int32) (e : Int32) (r_29 : Int32) (hz8 : 0 ≤ u.1 8 ∧ u.1 8 ≤ 20) (hz9 : 0 ≤ u.1 9 ∧ u.1 9 ≤ 8) (hz10 : 0 ≤ u.1 10 ∧ u.1 10 ≤ 120) (hz12 : 0 ≤ u.1 12 ∧ u.1 12 ≤ 16) (b5_4 : 0 ≤ x ∧ x < u.1 8) (b16_8 : 0 ≤ y ∧ y < u.1 9) (b31_12 : (0 : Int32) ≤ z ∧ z ≤ (u.1 13)) (b41_16 : 0 ≤ a ∧ a ≤ 1439) (b53_20 : (1 : Int32) ≤ b ∧ b ≤ (300 : Int32)) (b65_24 : (0 : Int32) ≤ c ∧ c ≤ (4095 : Int32)) (c76_25 : (e : Int32) = (-1)) (c98_26 : ¬ 120 ≤ (u.1 10 : Int32)) (hw_28 : r_29.toInt = (g_ct (cvr u 3) (cvr u 4) y z (u.1 10).toNatClampNeg : Int)) (c112_30 : (r_29 : Int32) < 12) : 0 < u.1 8 := by
  first | omega | ((try simp only [g_m1, Int32.lt_iff_toInt_lt, Int32.le_iff_toInt_le, ← Int32.toInt_inj, Int32.reduceToInt] at *); omega) | ((try simp only [g_m1, Int32.lt_iff_toInt_lt, Int32.le_iff_toInt_le, ← Int32.toInt_inj, Int32.reduceToInt] at *); omega) | ((try simp only [g_m1, Int32.lt_iff_toInt_lt, Int32.le_iff_toInt_le, ← Int32.toInt_inj, Int32.toInt_add, Int32.toInt_sub, Int32.toInt_mul, Int32.toInt_neg, Int32.reduceToInt, g_bm, g_bm'] at *); omega) | (have qr1 := g_rng x; have qr2 := g_rng y; have qr3 := g_rng z; have qr4 := g_rng a; have qr5 := g_rng b; have qr6 := g_rng c; have qr7 := g_rng e; have qr8 := g_rng r_29; (try simp only [g_m1, Int32.lt_iff_toInt_lt, Int32.le_iff_toInt_le, ← Int32.toInt_inj, Int32.toInt_add, Int32.toInt_sub, Int32.toInt_mul, Int32.toInt_neg, Int32.reduceToInt, g_bm, g_bm'] at *); omega) | (simp only [g_m1, Int32.lt_iff_toInt_lt, Int32.le_iff_toInt_le, ← Int32.toInt_inj, Int32.toInt_add, Int32.toInt_sub, Int32.toInt_mul, Int32.toInt_neg, Int32.reduceToInt, g_bm, g_bm'] at *; simp at *; omega) | (simp_all; done)
set_option maxRecDepth 100000 in
theorem g_X11_visit_v2 (u : qS) (x : Int32) (y : Int32) (z : Int32) (a : Int32) (b : Int32) (c : Int32) (e : Int32) (r_29 : Int32) (hz8 : 0 ≤ u.1 8 ∧ u.1 8 ≤ 20) (hz9 : 0 ≤ u.1 9 ∧ u.1 9 ≤ 8) (hz10 : 0 ≤ u.1 10 ∧ u.1 10 ≤ 120) (hz12 : 0 ≤ u.1 12 ∧ u.1 12 ≤ 16) (b5_4 : 0 ≤ x ∧ x < u.1 8) (b16_8 : 0 ≤ y ∧ y < u.1 9) (b31_12 : (0 : Int32) ≤ z ∧ z ≤ (u.1 13)) (b41_16 : 0 ≤ a ∧ a ≤ 1439) (b53_20 : (1 : Int32) ≤ b ∧ b ≤ (300 : Int32)) (b65_24 : (0 : Int32) ≤ c ∧ c ≤ (4095 : Int32)) (c76_25 : (e : Int32) = (-1)) (c98_26 : ¬ 120 ≤ (u.1 10 : Int32)) (hw_28 : r_29.toInt = (g_ct (cvr u 3) (cvr u 4) y z (u.1 10).toNatClampNeg : Int)) (c112_30 : (r_29 : Int32) < 12) : 0 < u.1 9 := by
  first | omega | ((try simp only [g_m1, Int32.lt_iff_toInt_lt, Int32.le_iff_toInt_le, ← Int32.toInt_inj, Int32.reduceToInt] at *); omega) | ((try simp only [g_m1, Int32.lt_iff_toInt_lt, Int32.le_iff_toInt_le, ← Int32.toInt_inj, Int32.reduceToInt] at *); omega) | ((try simp only [g_m1, Int32.lt_iff_toInt_lt, Int32.le_iff_toInt_le, ← Int32.toInt_inj, Int32.toInt_add, Int32.toInt_sub, Int32.toInt_mul, Int32.toInt_neg, Int32.reduceToInt, g_bm, g_bm'] at *); omega) | (have qr1 := g_rng x; have qr2 := g_rng y; have qr3 := g_rng z; have qr4 := g_rng a; have qr5 := g_rng b; have qr6 := g_rng c; have qr7 := g_rng e; have qr8 := g_rng r_29; (try simp only [g_m1, Int32.lt_iff_toInt_lt, Int32.le_iff_toInt_le, ← Int32.toInt_inj, Int32.toInt_add, Int32.toInt_sub, Int32.toInt_mul, Int32.toInt_neg, Int32.reduceToInt, g_bm, g_bm'] at *); omega) | (simp only [g_m1, Int32.lt_iff_toInt_lt, Int32.le_iff_toInt_le, ← Int32.toInt_inj, Int32.toInt_add, Int32.toInt_sub, Int32.toInt_mul, Int32.toInt_neg, Int32.reduceToInt, g_bm, g_bm'] at *; simp at *; omega) | (simp_all; done)
set_option maxRecDepth 100000 in
theorem g_X11_visit_v3 (u : qS) (x : Int32) (y : Int32) (z : Int32) (a : Int32) (b : Int32) (c : Int32) (e : Int32) (r_29 : Int32) (hz8 : 0 ≤ u.1 8 ∧ u.1 8 ≤ 20) (hz9 : 0 ≤ u.1 9 ∧ u.1 9 ≤ 8) (hz10 : 0 ≤ u.1 10 ∧ u.1 10 ≤ 120) (hz12 : 0 ≤ u.1 12 ∧ u.1 12 ≤ 16) (b5_4 : 0 ≤ x ∧ x < u.1 8) (b16_8 : 0 ≤ y ∧ y < u.1 9) (b31_12 : (0 : Int32) ≤ z ∧ z ≤ (u.1 13)) (b41_16 : 0 ≤ a ∧ a ≤ 1439) (b53_20 : (1 : Int32) ≤ b ∧ b ≤ (300 : Int32)) (b65_24 : (0 : Int32) ≤ c ∧ c ≤ (4095 : Int32)) (c76_25 : (e : Int32) = (-1)) (c98_26 : ¬ 120 ≤ (u.1 10 : Int32)) (hw_28 : r_29.toInt = (g_ct (cvr u 3) (cvr u 4) y z (u.1 10).toNatClampNeg : Int)) (c112_30 : (r_29 : Int32) < 12) : 0 ≤ x ∧ x < (u.1 8 : Int32) := by
  first | omega | ((try simp only [g_m1, Int32.lt_iff_toInt_lt, Int32.le_iff_toInt_le, ← Int32.toInt_inj, Int32.reduceToInt] at *); omega) | ((try simp only [g_m1, Int32.lt_iff_toInt_lt, Int32.le_iff_toInt_le, ← Int32.toInt_inj, Int32.reduceToInt] at *); omega) | ((try simp only [g_m1, Int32.lt_iff_toInt_lt, Int32.le_iff_toInt_le, ← Int32.toInt_inj, Int32.toInt_add, Int32.toInt_sub, Int32.toInt_mul, Int32.toInt_neg, Int32.reduceToInt, g_bm, g_bm'] at *); omega) | (have qr1 := g_rng x; have qr2 := g_rng y; have qr3 := g_rng z; have qr4 := g_rng a; have qr5 := g_rng b; have qr6 := g_rng c; have qr7 := g_rng e; have qr8 := g_rng r_29; (try simp only [g_m1, Int32.lt_iff_toInt_lt, Int32.le_iff_toInt_le, ← Int32.toInt_inj, Int32.toInt_add, Int32.toInt_sub, Int32.toInt_mul, Int32.toInt_neg, Int32.reduceToInt, g_bm, g_bm'] at *); omega) | (simp only [g_m1, Int32.lt_iff_toInt_lt, Int32.le_iff_toInt_le, ← Int32.toInt_inj, Int32.toInt_add, Int32.toInt_sub, Int32.toInt_mul, Int32.toInt_neg, Int32.reduceToInt, g_bm, g_bm'] at *; simp at *; omega) | (simp_all; done)
set_option maxRecDepth 100000 in
theorem g_X11_visit_v4 (u : qS) (x : Int32) (y : Int32) (z : Int32) (a : Int32) (b : Int32) (c : Int32) (e : Int32) (r_29 : Int32) (hz8 : 0 ≤ u.1 8 ∧ u.1 8 ≤ 20) (hz9 : 0 ≤ u.1 9 ∧ u.1 9 ≤ 8) (hz10 : 0 ≤ u.1 10 ∧ u.1 10 ≤ 120) (hz12 : 0 ≤ u.1 12 ∧ u.1 12 ≤ 16) (b5_4 : 0 ≤ x ∧ x < u.1 8) (b16_8 : 0 ≤ y ∧ y < u.1 9) (b31_12 : (0 : Int32) ≤ z ∧ z ≤ (u.1 13)) (b41_16 : 0 ≤ a ∧ a ≤ 1439) (b53_20 : (1 : Int32) ≤ b ∧ b ≤ (300 : Int32)) (b65_24 : (0 : Int32) ≤ c ∧ c ≤ (4095 : Int32)) (c76_25 : (e : Int32) = (-1)) (c98_26 : ¬ 120 ≤ (u.1 10 : Int32)) (hw_28 : r_29.toInt = (g_ct (cvr u 3) (cvr u 4) y z (u.1 10).toNatClampNeg : Int)) (c112_30 : (r_29 : Int32) < 12) : 0 ≤ y ∧ y < (u.1 9 : Int32) := by
  first | omega | ((try simp only [g_m1, Int32.lt_iff_toInt_lt, Int32.le_iff_toInt_le, ← Int32.toInt_inj, Int32.reduceToInt] at *); omega) | ((try simp only [g_m1, Int32.lt_iff_toInt_lt, Int32.le_iff_toInt_le, ← Int32.toInt_inj, Int32.reduceToInt] at *); omega) | ((try simp only [g_m1, Int32.lt_iff_toInt_lt, Int32.le_iff_toInt_le, ← Int32.toInt_inj, Int32.toInt_add, Int32.toInt_sub, Int32.toInt_mul, Int32.toInt_neg, Int32.reduceToInt, g_bm, g_bm'] at *); omega) | (have qr1 := g_rng x; have qr2 := g_rng y; have qr3 := g_rng z; have qr4 := g_rng a; have qr5 := g_rng b; have qr6 := g_rng c; have qr7 := g_rng e; have qr8 := g_rng r_29; (try simp only [g_m1, Int32.lt_iff_toInt_lt, Int32.le_iff_toInt_le, ← Int32.toInt_inj, Int32.toInt_add, Int32.toInt_sub, Int32.toInt_mul, Int32.toInt_neg, Int32.reduceToInt, g_bm, g_bm'] at *); omega) | (simp only [g_m1, Int32.lt_iff_toInt_lt, Int32.le_iff_toInt_le, ← Int32.toInt_inj, Int32.toInt_add, Int32.toInt_sub, Int32.toInt_mul, Int32.toInt_neg, Int32.reduceToInt, g_bm, g_bm'] at *; simp at *; omega) | (simp_all; done)
set_option maxRecDepth 100000 in
theorem g_X11_visit_v5 (u : qS) (x : Int32) (y : Int32) (z : Int32) (a : Int32) (b : Int32) (c : Int32) (e : Int32) (r_29 : Int32) (hz8 : 0 ≤ u.1 8 ∧ u.1 8 ≤ 20) (hz9 : 0 ≤ u.1 9 ∧ u.1 9 ≤ 8) (hz10 : 0 ≤ u.1 10 ∧ u.1 10 ≤ 120) (hz12 : 0 ≤ u.1 12 ∧ u.1 12 ≤ 16) (b5_4 : 0 ≤ x ∧ x < u.1 8) (b16_8 : 0 ≤ y ∧ y < u.1 9) (b31_12 : (0 : Int32) ≤ z ∧ z ≤ (u.1 13)) (b41_16 : 0 ≤ a ∧ a ≤ 1439) (b53_20 : (1 : Int32) ≤ b ∧ b ≤ (300 : Int32)) (b65_24 : (0 : Int32) ≤ c ∧ c ≤ (4095 : Int32)) (c76_25 : (e : Int32) = (-1)) (c98_26 : ¬ 120 ≤ (u.1 10 : Int32)) (hw_28 : r_29.toInt = (g_ct (cvr u 3) (cvr u 4) y z (u.1 10).toNatClampNeg : Int)) (c112_30 : (r_29 : Int32) < 12) : ((u.1 10 : Int32)).toInt < 120 := by
  first | omega | ((try simp only [g_m1, Int32.lt_iff_toInt_lt, Int32.le_iff_toInt_le, ← Int32.toInt_inj, Int32.reduceToInt] at *); omega) | ((try simp only [g_m1, Int32.lt_iff_toInt_lt, Int32.le_iff_toInt_le, ← Int32.toInt_inj, Int32.reduceToInt] at *); omega) | ((try simp only [g_m1, Int32.lt_iff_toInt_lt, Int32.le_iff_toInt_le, ← Int32.toInt_inj, Int32.toInt_add, Int32.toInt_sub, Int32.toInt_mul, Int32.toInt_neg, Int32.reduceToInt, g_bm, g_bm'] at *); omega) | (have qr1 := g_rng x; have qr2 := g_rng y; have qr3 := g_rng z; have qr4 := g_rng a; have qr5 := g_rng b; have qr6 := g_rng c; have qr7 := g_rng e; have qr8 := g_rng r_29; (try simp only [g_m1, Int32.lt_iff_toInt_lt, Int32.le_iff_toInt_le, ← Int32.toInt_inj, Int32.toInt_add, Int32.toInt_sub, Int32.toInt_mul, Int32.toInt_neg, Int32.reduceToInt, g_bm, g_bm'] at *); omega) | (simp only [g_m1, Int32.lt_iff_toInt_lt, Int32.le_iff_toInt_le, ← Int32.toInt_inj, Int32.toInt_add, Int32.toInt_sub, Int32.toInt_mul, Int32.toInt_neg, Int32.reduceToInt, g_bm, g_bm'] at *; simp at *; omega) | (simp_all; done)
set_option maxRecDepth 100000 in
theorem g_X11_visit_v6 (u : qS) (x : Int32) (y : Int32) (z : Int32) (a : Int32) (b : Int32) (c : Int32) (e : Int32) (r_29 : Int32) (u_51 : qS) (u_57 : qS) (q_31 : Nat) (hz8 : 0 ≤ u.1 8 ∧ u.1 8 ≤ 20) (hz9 : 0 ≤ u.1 9 ∧ u.1 9 ≤ 8) (hz10 : 0 ≤ u.1 10 ∧ u.1 10 ≤ 120) (hz12 : 0 ≤ u.1 12 ∧ u.1 12 ≤ 16) (b5_4 : 0 ≤ x ∧ x < u.1 8) (b16_8 : 0 ≤ y ∧ y < u.1 9) (b31_12 : (0 : Int32) ≤ z ∧ z ≤ (u.1 13)) (b41_16 : 0 ≤ a ∧ a ≤ 1439) (b53_20 : (1 : Int32) ≤ b ∧ b ≤ (300 : Int32)) (b65_24 : (0 : Int32) ≤ c ∧ c ≤ (4095 : Int32)) (c76_25 : (e : Int32) = (-1)) (c98_26 : ¬ 120 ≤ (u.1 10 : Int32)) (hw_28 : r_29.toInt = (g_ct (cvr u 3) (cvr u 4) y z (u.1 10).toNatClampNeg : Int)) (c112_30 : (r_29 : Int32) < 12) (hw_58 : u_57.1 10 = (u.1 10 : Int32) + 1 ∧ qxr u_57 2 = va_up (qxr u_51 2) ((u.1 10 : Int32)).toNatClampNeg (some q_31)) (hVn : qVn u u_57 x y z a b c e) (hnum : qfd u_51.2.2.2.2 q_31 0 = u.1 10) : (((0 ≤ x ∧ x < u.1 8) ∧ (0 ≤ y ∧ y < u.1 9) ∧ (0 ≤ z ∧ z ≤ u.1 13) ∧ (0 ≤ a ∧ a ≤ 1439) ∧ (1 ≤ b ∧ b ≤ 300) ∧ (0 ≤ c ∧ c ≤ 4095) ∧ (-1 ≤ e ∧ e ≤ 1439) ∧ u.1 10 < 120 ∧ g_ct (cvr u 3) (cvr u 4) y z (u.1 10).toNatClampNeg < 12) ∧ (qfd u_51.2.2.2.2 q_31 0 : Int32) = u.1 10 ∧ (u_57.1 10 : Int32) = u.1 10 + 1 ∧ qVn u u_57 x y z a b c e) ∨ (¬ ((0 ≤ x ∧ x < u.1 8) ∧ (0 ≤ y ∧ y < u.1 9) ∧ (0 ≤ z ∧ z ≤ u.1 13) ∧ (0 ≤ a ∧ a ≤ 1439) ∧ (1 ≤ b ∧ b ≤ 300) ∧ (0 ≤ c ∧ c ≤ 4095) ∧ (-1 ≤ e ∧ e ≤ 1439) ∧ u.1 10 < 120 ∧ g_ct (cvr u 3) (cvr u 4) y z (u.1 10).toNatClampNeg < 12) ∧ (qfd u_51.2.2.2.2 q_31 0 : Int32) = -1 ∧ (u_57.1 10 : Int32) = u.1 10 ∧ qV0 u u_57) := by
  first | (refine Or.inl ⟨⟨?_, ?_, ?_, ?_, ?_, ?_, ?_, ?_, ?_⟩, ?_, ?_, ?_⟩ <;> first | assumption | exact (by assumption : _ ∧ qxr _ 2 = _).1 | (clear hVn hnum; (try simp only [g_m1, Int32.lt_iff_toInt_lt, Int32.le_iff_toInt_le, ← Int32.toInt_inj, Int32.reduceToInt] at *); omega)) | exact Or.inr ⟨fun q9 => (by obtain ⟨q1, q2, q3, q4, q5, q6, q7, q8, q9⟩ := q9; (try simp only [g_m1, Int32.lt_iff_toInt_lt, Int32.le_iff_toInt_le, ← Int32.toInt_inj, Int32.reduceToInt] at *); omega), rfl, rfl, rfl, rfl⟩
set_option maxRecDepth 100000 in
theorem g_X11_visit_v7 (u : qS) (x : Int32) (y : Int32) (z : Int32) (a : Int32) (b : Int32) (c : Int32) (e : Int32) (r_29 : Int32) (hz8 : 0 ≤ u.1 8 ∧ u.1 8 ≤ 20) (hz9 : 0 ≤ u.1 9 ∧ u.1 9 ≤ 8) (hz10 : 0 ≤ u.1 10 ∧ u.1 10 ≤ 120) (hz12 : 0 ≤ u.1 12 ∧ u.1 12 ≤ 16) (b5_4 : 0 ≤ x ∧ x < u.1 8) (b16_8 : 0 ≤ y ∧ y < u.1 9) (b31_12 : (0 : Int32) ≤ z ∧ z ≤ (u.1 13)) (b41_16 : 0 ≤ a ∧ a ≤ 1439) (b53_20 : (1 : Int32) ≤ b ∧ b ≤ (300 : Int32)) (b65_24 : (0 : Int32) ≤ c ∧ c ≤ (4095 : Int32)) (c76_25 : (e : Int32) = (-1)) (c98_26 : ¬ 120 ≤ (u.1 10 : Int32)) (hw_28 : r_29.toInt = (g_ct (cvr u 3) (cvr u 4) y z (u.1 10).toNatClampNeg : Int)) (c112_30 : ¬ (r_29 : Int32) < 12) : (((0 ≤ x ∧ x < u.1 8) ∧ (0 ≤ y ∧ y < u.1 9) ∧ (0 ≤ z ∧ z ≤ u.1 13) ∧ (0 ≤ a ∧ a ≤ 1439) ∧ (1 ≤ b ∧ b ≤ 300) ∧ (0 ≤ c ∧ c ≤ 4095) ∧ (-1 ≤ e ∧ e ≤ 1439) ∧ u.1 10 < 120 ∧ g_ct (cvr u 3) (cvr u 4) y z (u.1 10).toNatClampNeg < 12) ∧ ((-1) : Int32) = u.1 10 ∧ (u.1 10 : Int32) = u.1 10 + 1 ∧ qVn u u x y z a b c e) ∨ (¬ ((0 ≤ x ∧ x < u.1 8) ∧ (0 ≤ y ∧ y < u.1 9) ∧ (0 ≤ z ∧ z ≤ u.1 13) ∧ (0 ≤ a ∧ a ≤ 1439) ∧ (1 ≤ b ∧ b ≤ 300) ∧ (0 ≤ c ∧ c ≤ 4095) ∧ (-1 ≤ e ∧ e ≤ 1439) ∧ u.1 10 < 120 ∧ g_ct (cvr u 3) (cvr u 4) y z (u.1 10).toNatClampNeg < 12) ∧ ((-1) : Int32) = -1 ∧ (u.1 10 : Int32) = u.1 10 ∧ qV0 u u) := by
  first | (refine Or.inl ⟨⟨?_, ?_, ?_, ?_, ?_, ?_, ?_, ?_, ?_⟩, ?_, ?_, ?_⟩ <;> first | assumption | exact (by assumption : _ ∧ qxr _ 2 = _).1 | (clear hVn hnum; (try simp only [g_m1, Int32.lt_iff_toInt_lt, Int32.le_iff_toInt_le, ← Int32.toInt_inj, Int32.reduceToInt] at *); omega)) | exact Or.inr ⟨fun q9 => (by obtain ⟨q1, q2, q3, q4, q5, q6, q7, q8, q9⟩ := q9; (try simp only [g_m1, Int32.lt_iff_toInt_lt, Int32.le_iff_toInt_le, ← Int32.toInt_inj, Int32.reduceToInt] at *); omega), rfl, rfl, rfl, rfl⟩
set_option maxRecDepth 100000 in
theorem g_X11_visit_v8 (u : qS) (x : Int32) (y : Int32) (z : Int32) (a : Int32) (b : Int32) (c : Int32) (e : Int32) (hz8 : 0 ≤ u.1 8 ∧ u.1 8 ≤ 20) (hz9 : 0 ≤ u.1 9 ∧ u.1 9 ≤ 8) (hz10 : 0 ≤ u.1 10 ∧ u.1 10 ≤ 120) (hz12 : 0 ≤ u.1 12 ∧ u.1 12 ≤ 16) (b5_4 : 0 ≤ x ∧ x < u.1 8) (b16_8 : 0 ≤ y ∧ y < u.1 9) (b31_12 : (0 : Int32) ≤ z ∧ z ≤ (u.1 13)) (b41_16 : 0 ≤ a ∧ a ≤ 1439) (b53_20 : (1 : Int32) ≤ b ∧ b ≤ (300 : Int32)) (b65_24 : (0 : Int32) ≤ c ∧ c ≤ (4095 : Int32)) (c76_25 : ¬ (e : Int32) = (-1)) (b81_69 : 0 ≤ e ∧ e ≤ 1439) (c98_70 : 120 ≤ (u.1 10 : Int32)) : (((0 ≤ x ∧ x < u.1 8) ∧ (0 ≤ y ∧ y < u.1 9) ∧ (0 ≤ z ∧ z ≤ u.1 13) ∧ (0 ≤ a ∧ a ≤ 1439) ∧ (1 ≤ b ∧ b ≤ 300) ∧ (0 ≤ c ∧ c ≤ 4095) ∧ (-1 ≤ e ∧ e ≤ 1439) ∧ u.1 10 < 120 ∧ g_ct (cvr u 3) (cvr u 4) y z (u.1 10).toNatClampNeg < 12) ∧ ((-1) : Int32) = u.1 10 ∧ (u.1 10 : Int32) = u.1 10 + 1 ∧ qVn u u x y z a b c e) ∨ (¬ ((0 ≤ x ∧ x < u.1 8) ∧ (0 ≤ y ∧ y < u.1 9) ∧ (0 ≤ z ∧ z ≤ u.1 13) ∧ (0 ≤ a ∧ a ≤ 1439) ∧ (1 ≤ b ∧ b ≤ 300) ∧ (0 ≤ c ∧ c ≤ 4095) ∧ (-1 ≤ e ∧ e ≤ 1439) ∧ u.1 10 < 120 ∧ g_ct (cvr u 3) (cvr u 4) y z (u.1 10).toNatClampNeg < 12) ∧ ((-1) : Int32) = -1 ∧ (u.1 10 : Int32) = u.1 10 ∧ qV0 u u) := by
  first | (refine Or.inl ⟨⟨?_, ?_, ?_, ?_, ?_, ?_, ?_, ?_, ?_⟩, ?_, ?_, ?_⟩ <;> first | assumption | exact (by assumption : _ ∧ qxr _ 2 = _).1 | (clear hVn hnum; (try simp only [g_m1, Int32.lt_iff_toInt_lt, Int32.le_iff_toInt_le, ← Int32.toInt_inj, Int32.reduceToInt] at *); omega)) | exact Or.inr ⟨fun q9 => (by obtain ⟨q1, q2, q3, q4, q5, q6, q7, q8, q9⟩ := q9; (try simp only [g_m1, Int32.lt_iff_toInt_lt, Int32.le_iff_toInt_le, ← Int32.toInt_inj, Int32.reduceToInt] at *); omega), rfl, rfl, rfl, rfl⟩
set_option maxRecDepth 100000 in
theorem g_X11_visit_v9 (u : qS) (x : Int32) (y : Int32) (z : Int32) (a : Int32) (b : Int32) (c : Int32) (e : Int32) (r_73 : Int32) (hz8 : 0 ≤ u.1 8 ∧ u.1 8 ≤ 20) (hz9 : 0 ≤ u.1 9 ∧ u.1 9 ≤ 8) (hz10 : 0 ≤ u.1 10 ∧ u.1 10 ≤ 120) (hz12 : 0 ≤ u.1 12 ∧ u.1 12 ≤ 16) (b5_4 : 0 ≤ x ∧ x < u.1 8) (b16_8 : 0 ≤ y ∧ y < u.1 9) (b31_12 : (0 : Int32) ≤ z ∧ z ≤ (u.1 13)) (b41_16 : 0 ≤ a ∧ a ≤ 1439) (b53_20 : (1 : Int32) ≤ b ∧ b ≤ (300 : Int32)) (b65_24 : (0 : Int32) ≤ c ∧ c ≤ (4095 : Int32)) (c76_25 : ¬ (e : Int32) = (-1)) (b81_69 : 0 ≤ e ∧ e ≤ 1439) (c98_70 : ¬ 120 ≤ (u.1 10 : Int32)) (hw_72 : r_73.toInt = (g_ct (cvr u 3) (cvr u 4) y z (u.1 10).toNatClampNeg : Int)) (c112_74 : (r_73 : Int32) < 12) : 0 < u.1 8 := by
  first | omega | ((try simp only [g_m1, Int32.lt_iff_toInt_lt, Int32.le_iff_toInt_le, ← Int32.toInt_inj, Int32.reduceToInt] at *); omega) | ((try simp only [g_m1, Int32.lt_iff_toInt_lt, Int32.le_iff_toInt_le, ← Int32.toInt_inj, Int32.reduceToInt] at *); omega) | ((try simp only [g_m1, Int32.lt_iff_toInt_lt, Int32.le_iff_toInt_le, ← Int32.toInt_inj, Int32.toInt_add, Int32.toInt_sub, Int32.toInt_mul, Int32.toInt_neg, Int32.reduceToInt, g_bm, g_bm'] at *); omega) | (have qr1 := g_rng x; have qr2 := g_rng y; have qr3 := g_rng z; have qr4 := g_rng a; have qr5 := g_rng b; have qr6 := g_rng c; have qr7 := g_rng e; have qr8 := g_rng r_73; (try simp only [g_m1, Int32.lt_iff_toInt_lt, Int32.le_iff_toInt_le, ← Int32.toInt_inj, Int32.toInt_add, Int32.toInt_sub, Int32.toInt_mul, Int32.toInt_neg, Int32.reduceToInt, g_bm, g_bm'] at *); omega) | (simp only [g_m1, Int32.lt_iff_toInt_lt, Int32.le_iff_toInt_le, ← Int32.toInt_inj, Int32.toInt_add, Int32.toInt_sub, Int32.toInt_mul, Int32.toInt_neg, Int32.reduceToInt, g_bm, g_bm'] at *; simp at *; omega) | (simp_all; done)
set_option maxRecDepth 100000 in
theorem g_X11_visit_v10 (u : qS) (x : Int32) (y : Int32) (z : Int32) (a : Int32) (b : Int32) (c : Int32) (e : Int32) (r_73 : Int32) (hz8 : 0 ≤ u.1 8 ∧ u.1 8 ≤ 20) (hz9 : 0 ≤ u.1 9 ∧ u.1 9 ≤ 8) (hz10 : 0 ≤ u.1 10 ∧ u.1 10 ≤ 120) (hz12 : 0 ≤ u.1 12 ∧ u.1 12 ≤ 16) (b5_4 : 0 ≤ x ∧ x < u.1 8) (b16_8 : 0 ≤ y ∧ y < u.1 9) (b31_12 : (0 : Int32) ≤ z ∧ z ≤ (u.1 13)) (b41_16 : 0 ≤ a ∧ a ≤ 1439) (b53_20 : (1 : Int32) ≤ b ∧ b ≤ (300 : Int32)) (b65_24 : (0 : Int32) ≤ c ∧ c ≤ (4095 : Int32)) (c76_25 : ¬ (e : Int32) = (-1)) (b81_69 : 0 ≤ e ∧ e ≤ 1439) (c98_70 : ¬ 120 ≤ (u.1 10 : Int32)) (hw_72 : r_73.toInt = (g_ct (cvr u 3) (cvr u 4) y z (u.1 10).toNatClampNeg : Int)) (c112_74 : (r_73 : Int32) < 12) : 0 < u.1 9 := by
  first | omega | ((try simp only [g_m1, Int32.lt_iff_toInt_lt, Int32.le_iff_toInt_le, ← Int32.toInt_inj, Int32.reduceToInt] at *); omega) | ((try simp only [g_m1, Int32.lt_iff_toInt_lt, Int32.le_iff_toInt_le, ← Int32.toInt_inj, Int32.reduceToInt] at *); omega) | ((try simp only [g_m1, Int32.lt_iff_toInt_lt, Int32.le_iff_toInt_le, ← Int32.toInt_inj, Int32.toInt_add, Int32.toInt_sub, Int32.toInt_mul, Int32.toInt_neg, Int32.reduceToInt, g_bm, g_bm'] at *); omega) | (have qr1 := g_rng x; have qr2 := g_rng y; have qr3 := g_rng z; have qr4 := g_rng a; have qr5 := g_rng b; have qr6 := g_rng c; have qr7 := g_rng e; have qr8 := g_rng r_73; (try simp only [g_m1, Int32.lt_iff_toInt_lt, Int32.le_iff_toInt_le, ← Int32.toInt_inj, Int32.toInt_add, Int32.toInt_sub, Int32.toInt_mul, Int32.toInt_neg, Int32.reduceToInt, g_bm, g_bm'] at *); omega) | (simp only [g_m1, Int32.lt_iff_toInt_lt, Int32.le_iff_toInt_le, ← Int32.toInt_inj, Int32.toInt_add, Int32.toInt_sub, Int32.toInt_mul, Int32.toInt_neg, Int32.reduceToInt, g_bm, g_bm'] at *; simp at *; omega) | (simp_all; done)
set_option maxRecDepth 100000 in
theorem g_X11_visit_v11 (u : qS) (x : Int32) (y : Int32) (z : Int32) (a : Int32) (b : Int32) (c : Int32) (e : Int32) (r_73 : Int32) (hz8 : 0 ≤ u.1 8 ∧ u.1 8 ≤ 20) (hz9 : 0 ≤ u.1 9 ∧ u.1 9 ≤ 8) (hz10 : 0 ≤ u.1 10 ∧ u.1 10 ≤ 120) (hz12 : 0 ≤ u.1 12 ∧ u.1 12 ≤ 16) (b5_4 : 0 ≤ x ∧ x < u.1 8) (b16_8 : 0 ≤ y ∧ y < u.1 9) (b31_12 : (0 : Int32) ≤ z ∧ z ≤ (u.1 13)) (b41_16 : 0 ≤ a ∧ a ≤ 1439) (b53_20 : (1 : Int32) ≤ b ∧ b ≤ (300 : Int32)) (b65_24 : (0 : Int32) ≤ c ∧ c ≤ (4095 : Int32)) (c76_25 : ¬ (e : Int32) = (-1)) (b81_69 : 0 ≤ e ∧ e ≤ 1439) (c98_70 : ¬ 120 ≤ (u.1 10 : Int32)) (hw_72 : r_73.toInt = (g_ct (cvr u 3) (cvr u 4) y z (u.1 10).toNatClampNeg : Int)) (c112_74 : (r_73 : Int32) < 12) : 0 ≤ x ∧ x < (u.1 8 : Int32) := by
  first | omega | ((try simp only [g_m1, Int32.lt_iff_toInt_lt, Int32.le_iff_toInt_le, ← Int32.toInt_inj, Int32.reduceToInt] at *); omega) | ((try simp only [g_m1, Int32.lt_iff_toInt_lt, Int32.le_iff_toInt_le, ← Int32.toInt_inj, Int32.reduceToInt] at *); omega) | ((try simp only [g_m1, Int32.lt_iff_toInt_lt, Int32.le_iff_toInt_le, ← Int32.toInt_inj, Int32.toInt_add, Int32.toInt_sub, Int32.toInt_mul, Int32.toInt_neg, Int32.reduceToInt, g_bm, g_bm'] at *); omega) | (have qr1 := g_rng x; have qr2 := g_rng y; have qr3 := g_rng z; have qr4 := g_rng a; have qr5 := g_rng b; have qr6 := g_rng c; have qr7 := g_rng e; have qr8 := g_rng r_73; (try simp only [g_m1, Int32.lt_iff_toInt_lt, Int32.le_iff_toInt_le, ← Int32.toInt_inj, Int32.toInt_add, Int32.toInt_sub, Int32.toInt_mul, Int32.toInt_neg, Int32.reduceToInt, g_bm, g_bm'] at *); omega) | (simp only [g_m1, Int32.lt_iff_toInt_lt, Int32.le_iff_toInt_le, ← Int32.toInt_inj, Int32.toInt_add, Int32.toInt_sub, Int32.toInt_mul, Int32.toInt_neg, Int32.reduceToInt, g_bm, g_bm'] at *; simp at *; omega) | (simp_all; done)
set_option maxRecDepth 100000 in
theorem g_X11_visit_v12 (u : qS) (x : Int32) (y : Int32) (z : Int32) (a : Int32) (b : Int32) (c : Int32) (e : Int32) (r_73 : Int32) (hz8 : 0 ≤ u.1 8 ∧ u.1 8 ≤ 20) (hz9 : 0 ≤ u.1 9 ∧ u.1 9 ≤ 8) (hz10 : 0 ≤ u.1 10 ∧ u.1 10 ≤ 120) (hz12 : 0 ≤ u.1 12 ∧ u.1 12 ≤ 16) (b5_4 : 0 ≤ x ∧ x < u.1 8) (b16_8 : 0 ≤ y ∧ y < u.1 9) (b31_12 : (0 : Int32) ≤ z ∧ z ≤ (u.1 13)) (b41_16 : 0 ≤ a ∧ a ≤ 1439) (b53_20 : (1 : Int32) ≤ b ∧ b ≤ (300 : Int32)) (b65_24 : (0 : Int32) ≤ c ∧ c ≤ (4095 : Int32)) (c76_25 : ¬ (e : Int32) = (-1)) (b81_69 : 0 ≤ e ∧ e ≤ 1439) (c98_70 : ¬ 120 ≤ (u.1 10 : Int32)) (hw_72 : r_73.toInt = (g_ct (cvr u 3) (cvr u 4) y z (u.1 10).toNatClampNeg : Int)) (c112_74 : (r_73 : Int32) < 12) : 0 ≤ y ∧ y < (u.1 9 : Int32) := by
  first | omega | ((try simp only [g_m1, Int32.lt_iff_toInt_lt, Int32.le_iff_toInt_le, ← Int32.toInt_inj, Int32.reduceToInt] at *); omega) | ((try simp only [g_m1, Int32.lt_iff_toInt_lt, Int32.le_iff_toInt_le, ← Int32.toInt_inj, Int32.reduceToInt] at *); omega) | ((try simp only [g_m1, Int32.lt_iff_toInt_lt, Int32.le_iff_toInt_le, ← Int32.toInt_inj, Int32.toInt_add, Int32.toInt_sub, Int32.toInt_mul, Int32.toInt_neg, Int32.reduceToInt, g_bm, g_bm'] at *); omega) | (have qr1 := g_rng x; have qr2 := g_rng y; have qr3 := g_rng z; have qr4 := g_rng a; have qr5 := g_rng b; have qr6 := g_rng c; have qr7 := g_rng e; have qr8 := g_rng r_73; (try simp only [g_m1, Int32.lt_iff_toInt_lt, Int32.le_iff_toInt_le, ← Int32.toInt_inj, Int32.toInt_add, Int32.toInt_sub, Int32.toInt_mul, Int32.toInt_neg, Int32.reduceToInt, g_bm, g_bm'] at *); omega) | (simp only [g_m1, Int32.lt_iff_toInt_lt, Int32.le_iff_toInt_le, ← Int32.toInt_inj, Int32.toInt_add, Int32.toInt_sub, Int32.toInt_mul, Int32.toInt_neg, Int32.reduceToInt, g_bm, g_bm'] at *; simp at *; omega) | (simp_all; done)
set_option maxRecDepth 100000 in
theorem g_X11_visit_v13 (u : qS) (x : Int32) (y : Int32) (z : Int32) (a : Int32) (b : Int32) (c : Int32) (e : Int32) (r_73 : Int32) (hz8 : 0 ≤ u.1 8 ∧ u.1 8 ≤ 20) (hz9 : 0 ≤ u.1 9 ∧ u.1 9 ≤ 8) (hz10 : 0 ≤ u.1 10 ∧ u.1 10 ≤ 120) (hz12 : 0 ≤ u.1 12 ∧ u.1 12 ≤ 16) (b5_4 : 0 ≤ x ∧ x < u.1 8) (b16_8 : 0 ≤ y ∧ y < u.1 9) (b31_12 : (0 : Int32) ≤ z ∧ z ≤ (u.1 13)) (b41_16 : 0 ≤ a ∧ a ≤ 1439) (b53_20 : (1 : Int32) ≤ b ∧ b ≤ (300 : Int32)) (b65_24 : (0 : Int32) ≤ c ∧ c ≤ (4095 : Int32)) (c76_25 : ¬ (e : Int32) = (-1)) (b81_69 : 0 ≤ e ∧ e ≤ 1439) (c98_70 : ¬ 120 ≤ (u.1 10 : Int32)) (hw_72 : r_73.toInt = (g_ct (cvr u 3) (cvr u 4) y z (u.1 10).toNatClampNeg : Int)) (c112_74 : (r_73 : Int32) < 12) : ((u.1 10 : Int32)).toInt < 120 := by
  first | omega | ((try simp only [g_m1, Int32.lt_iff_toInt_lt, Int32.le_iff_toInt_le, ← Int32.toInt_inj, Int32.reduceToInt] at *); omega) | ((try simp only [g_m1, Int32.lt_iff_toInt_lt, Int32.le_iff_toInt_le, ← Int32.toInt_inj, Int32.reduceToInt] at *); omega) | ((try simp only [g_m1, Int32.lt_iff_toInt_lt, Int32.le_iff_toInt_le, ← Int32.toInt_inj, Int32.toInt_add, Int32.toInt_sub, Int32.toInt_mul, Int32.toInt_neg, Int32.reduceToInt, g_bm, g_bm'] at *); omega) | (have qr1 := g_rng x; have qr2 := g_rng y; have qr3 := g_rng z; have qr4 := g_rng a; have qr5 := g_rng b; have qr6 := g_rng c; have qr7 := g_rng e; have qr8 := g_rng r_73; (try simp only [g_m1, Int32.lt_iff_toInt_lt, Int32.le_iff_toInt_le, ← Int32.toInt_inj, Int32.toInt_add, Int32.toInt_sub, Int32.toInt_mul, Int32.toInt_neg, Int32.reduceToInt, g_bm, g_bm'] at *); omega) | (simp only [g_m1, Int32.lt_iff_toInt_lt, Int32.le_iff_toInt_le, ← Int32.toInt_inj, Int32.toInt_add, Int32.toInt_sub, Int32.toInt_mul, Int32.toInt_neg, Int32.reduceToInt, g_bm, g_bm'] at *; simp at *; omega) | (simp_all; done)
set_option maxRecDepth 100000 in
theorem g_X11_visit_v14 (u : qS) (x : Int32) (y : Int32) (z : Int32) (a : Int32) (b : Int32) (c : Int32) (e : Int32) (r_73 : Int32) (u_95 : qS) (u_101 : qS) (q_75 : Nat) (hz8 : 0 ≤ u.1 8 ∧ u.1 8 ≤ 20) (hz9 : 0 ≤ u.1 9 ∧ u.1 9 ≤ 8) (hz10 : 0 ≤ u.1 10 ∧ u.1 10 ≤ 120) (hz12 : 0 ≤ u.1 12 ∧ u.1 12 ≤ 16) (b5_4 : 0 ≤ x ∧ x < u.1 8) (b16_8 : 0 ≤ y ∧ y < u.1 9) (b31_12 : (0 : Int32) ≤ z ∧ z ≤ (u.1 13)) (b41_16 : 0 ≤ a ∧ a ≤ 1439) (b53_20 : (1 : Int32) ≤ b ∧ b ≤ (300 : Int32)) (b65_24 : (0 : Int32) ≤ c ∧ c ≤ (4095 : Int32)) (c76_25 : ¬ (e : Int32) = (-1)) (b81_69 : 0 ≤ e ∧ e ≤ 1439) (c98_70 : ¬ 120 ≤ (u.1 10 : Int32)) (hw_72 : r_73.toInt = (g_ct (cvr u 3) (cvr u 4) y z (u.1 10).toNatClampNeg : Int)) (c112_74 : (r_73 : Int32) < 12) (hw_102 : u_101.1 10 = (u.1 10 : Int32) + 1 ∧ qxr u_101 2 = va_up (qxr u_95 2) ((u.1 10 : Int32)).toNatClampNeg (some q_75)) (hVn : qVn u u_101 x y z a b c e) (hnum : qfd u_95.2.2.2.2 q_75 0 = u.1 10) : (((0 ≤ x ∧ x < u.1 8) ∧ (0 ≤ y ∧ y < u.1 9) ∧ (0 ≤ z ∧ z ≤ u.1 13) ∧ (0 ≤ a ∧ a ≤ 1439) ∧ (1 ≤ b ∧ b ≤ 300) ∧ (0 ≤ c ∧ c ≤ 4095) ∧ (-1 ≤ e ∧ e ≤ 1439) ∧ u.1 10 < 120 ∧ g_ct (cvr u 3) (cvr u 4) y z (u.1 10).toNatClampNeg < 12) ∧ (qfd u_95.2.2.2.2 q_75 0 : Int32) = u.1 10 ∧ (u_101.1 10 : Int32) = u.1 10 + 1 ∧ qVn u u_101 x y z a b c e) ∨ (¬ ((0 ≤ x ∧ x < u.1 8) ∧ (0 ≤ y ∧ y < u.1 9) ∧ (0 ≤ z ∧ z ≤ u.1 13) ∧ (0 ≤ a ∧ a ≤ 1439) ∧ (1 ≤ b ∧ b ≤ 300) ∧ (0 ≤ c ∧ c ≤ 4095) ∧ (-1 ≤ e ∧ e ≤ 1439) ∧ u.1 10 < 120 ∧ g_ct (cvr u 3) (cvr u 4) y z (u.1 10).toNatClampNeg < 12) ∧ (qfd u_95.2.2.2.2 q_75 0 : Int32) = -1 ∧ (u_101.1 10 : Int32) = u.1 10 ∧ qV0 u u_101) := by
  first | (refine Or.inl ⟨⟨?_, ?_, ?_, ?_, ?_, ?_, ?_, ?_, ?_⟩, ?_, ?_, ?_⟩ <;> first | assumption | exact (by assumption : _ ∧ qxr _ 2 = _).1 | (clear hVn hnum; (try simp only [g_m1, Int32.lt_iff_toInt_lt, Int32.le_iff_toInt_le, ← Int32.toInt_inj, Int32.reduceToInt] at *); omega)) | exact Or.inr ⟨fun q9 => (by obtain ⟨q1, q2, q3, q4, q5, q6, q7, q8, q9⟩ := q9; (try simp only [g_m1, Int32.lt_iff_toInt_lt, Int32.le_iff_toInt_le, ← Int32.toInt_inj, Int32.reduceToInt] at *); omega), rfl, rfl, rfl, rfl⟩
set_option maxRecDepth 100000 in
theorem g_X11_visit_v15 (u : qS) (x : Int32) (y : Int32) (z : Int32) (a : Int32) (b : Int32) (c : Int32) (e : Int32) (r_73 : Int32) (hz8 : 0 ≤ u.1 8 ∧ u.1 8 ≤ 20) (hz9 : 0 ≤ u.1 9 ∧ u.1 9 ≤ 8) (hz10 : 0 ≤ u.1 10 ∧ u.1 10 ≤ 120) (hz12 : 0 ≤ u.1 12 ∧ u.1 12 ≤ 16) (b5_4 : 0 ≤ x ∧ x < u.1 8) (b16_8 : 0 ≤ y ∧ y < u.1 9) (b31_12 : (0 : Int32) ≤ z ∧ z ≤ (u.1 13)) (b41_16 : 0 ≤ a ∧ a ≤ 1439) (b53_20 : (1 : Int32) ≤ b ∧ b ≤ (300 : Int32)) (b65_24 : (0 : Int32) ≤ c ∧ c ≤ (4095 : Int32)) (c76_25 : ¬ (e : Int32) = (-1)) (b81_69 : 0 ≤ e ∧ e ≤ 1439) (c98_70 : ¬ 120 ≤ (u.1 10 : Int32)) (hw_72 : r_73.toInt = (g_ct (cvr u 3) (cvr u 4) y z (u.1 10).toNatClampNeg : Int)) (c112_74 : ¬ (r_73 : Int32) < 12) : (((0 ≤ x ∧ x < u.1 8) ∧ (0 ≤ y ∧ y < u.1 9) ∧ (0 ≤ z ∧ z ≤ u.1 13) ∧ (0 ≤ a ∧ a ≤ 1439) ∧ (1 ≤ b ∧ b ≤ 300) ∧ (0 ≤ c ∧ c ≤ 4095) ∧ (-1 ≤ e ∧ e ≤ 1439) ∧ u.1 10 < 120 ∧ g_ct (cvr u 3) (cvr u 4) y z (u.1 10).toNatClampNeg < 12) ∧ ((-1) : Int32) = u.1 10 ∧ (u.1 10 : Int32) = u.1 10 + 1 ∧ qVn u u x y z a b c e) ∨ (¬ ((0 ≤ x ∧ x < u.1 8) ∧ (0 ≤ y ∧ y < u.1 9) ∧ (0 ≤ z ∧ z ≤ u.1 13) ∧ (0 ≤ a ∧ a ≤ 1439) ∧ (1 ≤ b ∧ b ≤ 300) ∧ (0 ≤ c ∧ c ≤ 4095) ∧ (-1 ≤ e ∧ e ≤ 1439) ∧ u.1 10 < 120 ∧ g_ct (cvr u 3) (cvr u 4) y z (u.1 10).toNatClampNeg < 12) ∧ ((-1) : Int32) = -1 ∧ (u.1 10 : Int32) = u.1 10 ∧ qV0 u u) := by
  first | (refine Or.inl ⟨⟨?_, ?_, ?_, ?_, ?_, ?_, ?_, ?_, ?_⟩, ?_, ?_, ?_⟩ <;> first | assumption | exact (by assumption : _ ∧ qxr _ 2 = _).1 | (clear hVn hnum; (try simp only [g_m1, Int32.lt_iff_toInt_lt, Int32.le_iff_toInt_le, ← Int32.toInt_inj, Int32.reduceToInt] at *); omega)) | exact Or.inr ⟨fun q9 => (by obtain ⟨q1, q2, q3, q4, q5, q6, q7, q8, q9⟩ := q9; (try simp only [g_m1, Int32.lt_iff_toInt_lt, Int32.le_iff_toInt_le, ← Int32.toInt_inj, Int32.reduceToInt] at *); omega), rfl, rfl, rfl, rfl⟩
set_option maxRecDepth 100000 in
theorem g_X11_visit_v16 (u : qS) (x : Int32) (y : Int32) (z : Int32) (a : Int32) (b : Int32) (c : Int32) (e : Int32) (hz8 : 0 ≤ u.1 8 ∧ u.1 8 ≤ 20) (hz9 : 0 ≤ u.1 9 ∧ u.1 9 ≤ 8) (hz10 : 0 ≤ u.1 10 ∧ u.1 10 ≤ 120) (hz12 : 0 ≤ u.1 12 ∧ u.1 12 ≤ 16) (b5_4 : 0 ≤ x ∧ x < u.1 8) (b16_8 : 0 ≤ y ∧ y < u.1 9) (b31_12 : (0 : Int32) ≤ z ∧ z ≤ (u.1 13)) (b41_16 : 0 ≤ a ∧ a ≤ 1439) (b53_20 : (1 : Int32) ≤ b ∧ b ≤ (300 : Int32)) (b65_24 : (0 : Int32) ≤ c ∧ c ≤ (4095 : Int32)) (c76_25 : ¬ (e : Int32) = (-1)) (b81_69 : ¬ (0 ≤ e ∧ e ≤ 1439)) : (((0 ≤ x ∧ x < u.1 8) ∧ (0 ≤ y ∧ y < u.1 9) ∧ (0 ≤ z ∧ z ≤ u.1 13) ∧ (0 ≤ a ∧ a ≤ 1439) ∧ (1 ≤ b ∧ b ≤ 300) ∧ (0 ≤ c ∧ c ≤ 4095) ∧ (-1 ≤ e ∧ e ≤ 1439) ∧ u.1 10 < 120 ∧ g_ct (cvr u 3) (cvr u 4) y z (u.1 10).toNatClampNeg < 12) ∧ ((-1) : Int32) = u.1 10 ∧ (u.1 10 : Int32) = u.1 10 + 1 ∧ qVn u u x y z a b c e) ∨ (¬ ((0 ≤ x ∧ x < u.1 8) ∧ (0 ≤ y ∧ y < u.1 9) ∧ (0 ≤ z ∧ z ≤ u.1 13) ∧ (0 ≤ a ∧ a ≤ 1439) ∧ (1 ≤ b ∧ b ≤ 300) ∧ (0 ≤ c ∧ c ≤ 4095) ∧ (-1 ≤ e ∧ e ≤ 1439) ∧ u.1 10 < 120 ∧ g_ct (cvr u 3) (cvr u 4) y z (u.1 10).toNatClampNeg < 12) ∧ ((-1) : Int32) = -1 ∧ (u.1 10 : Int32) = u.1 10 ∧ qV0 u u) := by
  first | (refine Or.inl ⟨⟨?_, ?_, ?_, ?_, ?_, ?_, ?_, ?_, ?_⟩, ?_, ?_, ?_⟩ <;> first | assumption | exact (by assumption : _ ∧ qxr _ 2 = _).1 | (clear hVn hnum; (try simp only [g_m1, Int32.lt_iff_toInt_lt, Int32.le_iff_toInt_le, ← Int32.toInt_inj, Int32.reduceToInt] at *); omega)) | exact Or.inr ⟨fun q9 => (by obtain ⟨q1, q2, q3, q4, q5, q6, q7, q8, q9⟩ := q9; (try simp only [g_m1, Int32.lt_iff_toInt_lt, Int32.le_iff_toInt_le, ← Int32.toInt_inj, Int32.reduceToInt] at *); omega), rfl, rfl, rfl, rfl⟩
set_option maxRecDepth 100000 in
theorem g_X11_visit_v17 (u : qS) (x : Int32) (y : Int32) (z : Int32) (a : Int32) (b : Int32) (c : Int32) (e : Int32) (hz8 : 0 ≤ u.1 8 ∧ u.1 8 ≤ 20) (hz9 : 0 ≤ u.1 9 ∧ u.1 9 ≤ 8) (hz10 : 0 ≤ u.1 10 ∧ u.1 10 ≤ 120) (hz12 : 0 ≤ u.1 12 ∧ u.1 12 ≤ 16) (b5_4 : 0 ≤ x ∧ x < u.1 8) (b16_8 : 0 ≤ y ∧ y < u.1 9) (b31_12 : (0 : Int32) ≤ z ∧ z ≤ (u.1 13)) (b41_16 : 0 ≤ a ∧ a ≤ 1439) (b53_20 : (1 : Int32) ≤ b ∧ b ≤ (300 : Int32)) (b65_24 : ¬ ((0 : Int32) ≤ c ∧ c ≤ (4095 : Int32))) : (((0 ≤ x ∧ x < u.1 8) ∧ (0 ≤ y ∧ y < u.1 9) ∧ (0 ≤ z ∧ z ≤ u.1 13) ∧ (0 ≤ a ∧ a ≤ 1439) ∧ (1 ≤ b ∧ b ≤ 300) ∧ (0 ≤ c ∧ c ≤ 4095) ∧ (-1 ≤ e ∧ e ≤ 1439) ∧ u.1 10 < 120 ∧ g_ct (cvr u 3) (cvr u 4) y z (u.1 10).toNatClampNeg < 12) ∧ ((-1) : Int32) = u.1 10 ∧ (u.1 10 : Int32) = u.1 10 + 1 ∧ qVn u u x y z a b c e) ∨ (¬ ((0 ≤ x ∧ x < u.1 8) ∧ (0 ≤ y ∧ y < u.1 9) ∧ (0 ≤ z ∧ z ≤ u.1 13) ∧ (0 ≤ a ∧ a ≤ 1439) ∧ (1 ≤ b ∧ b ≤ 300) ∧ (0 ≤ c ∧ c ≤ 4095) ∧ (-1 ≤ e ∧ e ≤ 1439) ∧ u.1 10 < 120 ∧ g_ct (cvr u 3) (cvr u 4) y z (u.1 10).toNatClampNeg < 12) ∧ ((-1) : Int32) = -1 ∧ (u.1 10 : Int32) = u.1 10 ∧ qV0 u u) := by
  first | (refine Or.inl ⟨⟨?_, ?_, ?_, ?_, ?_, ?_, ?_, ?_, ?_⟩, ?_, ?_, ?_⟩ <;> first | assumption | exact (by assumption : _ ∧ qxr _ 2 = _).1 | (clear hVn hnum; (try simp only [g_m1, Int32.lt_iff_toInt_lt, Int32.le_iff_toInt_le, ← Int32.toInt_inj, Int32.reduceToInt] at *); omega)) | exact Or.inr ⟨fun q9 => (by obtain ⟨q1, q2, q3, q4, q5, q6, q7, q8, q9⟩ := q9; (try simp only [g_m1, Int32.lt_iff_toInt_lt, Int32.le_iff_toInt_le, ← Int32.toInt_inj, Int32.reduceToInt] at *); omega), rfl, rfl, rfl, rfl⟩
set_option maxRecDepth 100000 in
theorem g_X11_visit_v18 (u : qS) (x : Int32) (y : Int32) (z : Int32) (a : Int32) (b : Int32) (c : Int32) (e : Int32) (hz8 : 0 ≤ u.1 8 ∧ u.1 8 ≤ 20) (hz9 : 0 ≤ u.1 9 ∧ u.1 9 ≤ 8) (hz10 : 0 ≤ u.1 10 ∧ u.1 10 ≤ 120) (hz12 : 0 ≤ u.1 12 ∧ u.1 12 ≤ 16) (b5_4 : 0 ≤ x ∧ x < u.1 8) (b16_8 : 0 ≤ y ∧ y < u.1 9) (b31_12 : (0 : Int32) ≤ z ∧ z ≤ (u.1 13)) (b41_16 : 0 ≤ a ∧ a ≤ 1439) (b53_20 : ¬ ((1 : Int32) ≤ b ∧ b ≤ (300 : Int32))) : (((0 ≤ x ∧ x < u.1 8) ∧ (0 ≤ y ∧ y < u.1 9) ∧ (0 ≤ z ∧ z ≤ u.1 13) ∧ (0 ≤ a ∧ a ≤ 1439) ∧ (1 ≤ b ∧ b ≤ 300) ∧ (0 ≤ c ∧ c ≤ 4095) ∧ (-1 ≤ e ∧ e ≤ 1439) ∧ u.1 10 < 120 ∧ g_ct (cvr u 3) (cvr u 4) y z (u.1 10).toNatClampNeg < 12) ∧ ((-1) : Int32) = u.1 10 ∧ (u.1 10 : Int32) = u.1 10 + 1 ∧ qVn u u x y z a b c e) ∨ (¬ ((0 ≤ x ∧ x < u.1 8) ∧ (0 ≤ y ∧ y < u.1 9) ∧ (0 ≤ z ∧ z ≤ u.1 13) ∧ (0 ≤ a ∧ a ≤ 1439) ∧ (1 ≤ b ∧ b ≤ 300) ∧ (0 ≤ c ∧ c ≤ 4095) ∧ (-1 ≤ e ∧ e ≤ 1439) ∧ u.1 10 < 120 ∧ g_ct (cvr u 3) (cvr u 4) y z (u.1 10).toNatClampNeg < 12) ∧ ((-1) : Int32) = -1 ∧ (u.1 10 : Int32) = u.1 10 ∧ qV0 u u) := by
  first | (refine Or.inl ⟨⟨?_, ?_, ?_, ?_, ?_, ?_, ?_, ?_, ?_⟩, ?_, ?_, ?_⟩ <;> first | assumption | exact (by assumption : _ ∧ qxr _ 2 = _).1 | (clear hVn hnum; (try simp only [g_m1, Int32.lt_iff_toInt_lt, Int32.le_iff_toInt_le, ← Int32.toInt_inj, Int32.reduceToInt] at *); omega)) | exact Or.inr ⟨fun q9 => (by obtain ⟨q1, q2, q3, q4, q5, q6, q7, q8, q9⟩ := q9; (try simp only [g_m1, Int32.lt_iff_toInt_lt, Int32.le_iff_toInt_le, ← Int32.toInt_inj, Int32.reduceToInt] at *); omega), rfl, rfl, rfl, rfl⟩
set_option maxRecDepth 100000 in
theorem g_X11_visit_v19 (u : qS) (x : Int32) (y : Int32) (z : Int32) (a : Int32) (b : Int32) (c : Int32) (e : Int32) (hz8 : 0 ≤ u.1 8 ∧ u.1 8 ≤ 20) (hz9 : 0 ≤ u.1 9 ∧ u.1 9 ≤ 8) (hz10 : 0 ≤ u.1 10 ∧ u.1 10 ≤ 120) (hz12 : 0 ≤ u.1 12 ∧ u.1 12 ≤ 16) (b5_4 : 0 ≤ x ∧ x < u.1 8) (b16_8 : 0 ≤ y ∧ y < u.1 9) (b31_12 : (0 : Int32) ≤ z ∧ z ≤ (u.1 13)) (b41_16 : ¬ (0 ≤ a ∧ a ≤ 1439)) : (((0 ≤ x ∧ x < u.1 8) ∧ (0 ≤ y ∧ y < u.1 9) ∧ (0 ≤ z ∧ z ≤ u.1 13) ∧ (0 ≤ a ∧ a ≤ 1439) ∧ (1 ≤ b ∧ b ≤ 300) ∧ (0 ≤ c ∧ c ≤ 4095) ∧ (-1 ≤ e ∧ e ≤ 1439) ∧ u.1 10 < 120 ∧ g_ct (cvr u 3) (cvr u 4) y z (u.1 10).toNatClampNeg < 12) ∧ ((-1) : Int32) = u.1 10 ∧ (u.1 10 : Int32) = u.1 10 + 1 ∧ qVn u u x y z a b c e) ∨ (¬ ((0 ≤ x ∧ x < u.1 8) ∧ (0 ≤ y ∧ y < u.1 9) ∧ (0 ≤ z ∧ z ≤ u.1 13) ∧ (0 ≤ a ∧ a ≤ 1439) ∧ (1 ≤ b ∧ b ≤ 300) ∧ (0 ≤ c ∧ c ≤ 4095) ∧ (-1 ≤ e ∧ e ≤ 1439) ∧ u.1 10 < 120 ∧ g_ct (cvr u 3) (cvr u 4) y z (u.1 10).toNatClampNeg < 12) ∧ ((-1) : Int32) = -1 ∧ (u.1 10 : Int32) = u.1 10 ∧ qV0 u u) := by
  first | (refine Or.inl ⟨⟨?_, ?_, ?_, ?_, ?_, ?_, ?_, ?_, ?_⟩, ?_, ?_, ?_⟩ <;> first | assumption | exact (by assumption : _ ∧ qxr _ 2 = _).1 | (clear hVn hnum; (try simp only [g_m1, Int32.lt_iff_toInt_lt, Int32.le_iff_toInt_le, ← Int32.toInt_inj, Int32.reduceToInt] at *); omega)) | exact Or.inr ⟨fun q9 => (by obtain ⟨q1, q2, q3, q4, q5, q6, q7, q8, q9⟩ := q9; (try simp only [g_m1, Int32.lt_iff_toInt_lt, Int32.le_iff_toInt_le, ← Int32.toInt_inj, Int32.reduceToInt] at *); omega), rfl, rfl, rfl, rfl⟩
set_option maxRecDepth 100000 in
theorem g_X11_visit_v20 (u : qS) (x : Int32) (y : Int32) (z : Int32) (a : Int32) (b : Int32) (c : Int32) (e : Int32) (hz8 : 0 ≤ u.1 8 ∧ u.1 8 ≤ 20) (hz9 : 0 ≤ u.1 9 ∧ u.1 9 ≤ 8) (hz10 : 0 ≤ u.1 10 ∧ u.1 10 ≤ 120) (hz12 : 0 ≤ u.1 12 ∧ u.1 12 ≤ 16) (b5_4 : 0 ≤ x ∧ x < u.1 8) (b16_8 : 0 ≤ y ∧ y < u.1 9) (b31_12 : ¬ ((0 : Int32) ≤ z ∧ z ≤ (u.1 13))) : (((0 ≤ x ∧ x < u.1 8) ∧ (0 ≤ y ∧ y < u.1 9) ∧ (0 ≤ z ∧ z ≤ u.1 13) ∧ (0 ≤ a ∧ a ≤ 1439) ∧ (1 ≤ b ∧ b ≤ 300) ∧ (0 ≤ c ∧ c ≤ 4095) ∧ (-1 ≤ e ∧ e ≤ 1439) ∧ u.1 10 < 120 ∧ g_ct (cvr u 3) (cvr u 4) y z (u.1 10).toNatClampNeg < 12) ∧ ((-1) : Int32) = u.1 10 ∧ (u.1 10 : Int32) = u.1 10 + 1 ∧ qVn u u x y z a b c e) ∨ (¬ ((0 ≤ x ∧ x < u.1 8) ∧ (0 ≤ y ∧ y < u.1 9) ∧ (0 ≤ z ∧ z ≤ u.1 13) ∧ (0 ≤ a ∧ a ≤ 1439) ∧ (1 ≤ b ∧ b ≤ 300) ∧ (0 ≤ c ∧ c ≤ 4095) ∧ (-1 ≤ e ∧ e ≤ 1439) ∧ u.1 10 < 120 ∧ g_ct (cvr u 3) (cvr u 4) y z (u.1 10).toNatClampNeg < 12) ∧ ((-1) : Int32) = -1 ∧ (u.1 10 : Int32) = u.1 10 ∧ qV0 u u) := by
  first | (refine Or.inl ⟨⟨?_, ?_, ?_, ?_, ?_, ?_, ?_, ?_, ?_⟩, ?_, ?_, ?_⟩ <;> first | assumption | exact (by assumption : _ ∧ qxr _ 2 = _).1 | (clear hVn hnum; (try simp only [g_m1, Int32.lt_iff_toInt_lt, Int32.le_iff_toInt_le, ← Int32.toInt_inj, Int32.reduceToInt] at *); omega)) | exact Or.inr ⟨fun q9 => (by obtain ⟨q1, q2, q3, q4, q5, q6, q7, q8, q9⟩ := q9; (try simp only [g_m1, Int32.lt_iff_toInt_lt, Int32.le_iff_toInt_le, ← Int32.toInt_inj, Int32.reduceToInt] at *); omega), rfl, rfl, rfl, rfl⟩
set_option maxRecDepth 100000 in
theorem g_X11_visit_v21 (u : qS) (x : Int32) (y : Int32) (z : Int32) (a : Int32) (b : Int32) (c : Int32) (e : Int32) (hz8 : 0 ≤ u.1 8 ∧ u.1 8 ≤ 20) (hz9 : 0 ≤ u.1 9 ∧ u.1 9 ≤ 8) (hz10 : 0 ≤ u.1 10 ∧ u.1 10 ≤ 120) (hz12 : 0 ≤ u.1 12 ∧ u.1 12 ≤ 16) (b5_4 : 0 ≤ x ∧ x < u.1 8) (b16_8 : ¬ (0 ≤ y ∧ y < u.1 9)) : (((0 ≤ x ∧ x < u.1 8) ∧ (0 ≤ y ∧ y < u.1 9) ∧ (0 ≤ z ∧ z ≤ u.1 13) ∧ (0 ≤ a ∧ a ≤ 1439) ∧ (1 ≤ b ∧ b ≤ 300) ∧ (0 ≤ c ∧ c ≤ 4095) ∧ (-1 ≤ e ∧ e ≤ 1439) ∧ u.1 10 < 120 ∧ g_ct (cvr u 3) (cvr u 4) y z (u.1 10).toNatClampNeg < 12) ∧ ((-1) : Int32) = u.1 10 ∧ (u.1 10 : Int32) = u.1 10 + 1 ∧ qVn u u x y z a b c e) ∨ (¬ ((0 ≤ x ∧ x < u.1 8) ∧ (0 ≤ y ∧ y < u.1 9) ∧ (0 ≤ z ∧ z ≤ u.1 13) ∧ (0 ≤ a ∧ a ≤ 1439) ∧ (1 ≤ b ∧ b ≤ 300) ∧ (0 ≤ c ∧ c ≤ 4095) ∧ (-1 ≤ e ∧ e ≤ 1439) ∧ u.1 10 < 120 ∧ g_ct (cvr u 3) (cvr u 4) y z (u.1 10).toNatClampNeg < 12) ∧ ((-1) : Int32) = -1 ∧ (u.1 10 : Int32) = u.1 10 ∧ qV0 u u) := by
  first | (refine Or.inl ⟨⟨?_, ?_, ?_, ?_, ?_, ?_, ?_, ?_, ?_⟩, ?_, ?_, ?_⟩ <;> first | assumption | exact (by assumption : _ ∧ qxr _ 2 = _).1 | (clear hVn hnum; (try simp only [g_m1, Int32.lt_iff_toInt_lt, Int32.le_iff_toInt_le, ← Int32.toInt_inj, Int32.reduceToInt] at *); omega)) | exact Or.inr ⟨fun q9 => (by obtain ⟨q1, q2, q3, q4, q5, q6, q7, q8, q9⟩ := q9; (try simp only [g_m1, Int32.lt_iff_toInt_lt, Int32.le_iff_toInt_le, ← Int32.toInt_inj, Int32.reduceToInt] at *); omega), rfl, rfl, rfl, rfl⟩
set_option maxRecDepth 100000 in
theorem g_X11_visit_v22 (u : qS) (x : Int32) (y : Int32) (z : Int32) (a : Int32) (b : Int32) (c : Int32) (e : Int32) (hz8 : 0 ≤ u.1 8 ∧ u.1 8 ≤ 20) (hz9 : 0 ≤ u.1 9 ∧ u.1 9 ≤ 8) (hz10 : 0 ≤ u.1 10 ∧ u.1 10 ≤ 120) (hz12 : 0 ≤ u.1 12 ∧ u.1 12 ≤ 16) (b5_4 : ¬ (0 ≤ x ∧ x < u.1 8)) : (((0 ≤ x ∧ x < u.1 8) ∧ (0 ≤ y ∧ y < u.1 9) ∧ (0 ≤ z ∧ z ≤ u.1 13) ∧ (0 ≤ a ∧ a ≤ 1439) ∧ (1 ≤ b ∧ b ≤ 300) ∧ (0 ≤ c ∧ c ≤ 4095) ∧ (-1 ≤ e ∧ e ≤ 1439) ∧ u.1 10 < 120 ∧ g_ct (cvr u 3) (cvr u 4) y z (u.1 10).toNatClampNeg < 12) ∧ ((-1) : Int32) = u.1 10 ∧ (u.1 10 : Int32) = u.1 10 + 1 ∧ qVn u u x y z a b c e) ∨ (¬ ((0 ≤ x ∧ x < u.1 8) ∧ (0 ≤ y ∧ y < u.1 9) ∧ (0 ≤ z ∧ z ≤ u.1 13) ∧ (0 ≤ a ∧ a ≤ 1439) ∧ (1 ≤ b ∧ b ≤ 300) ∧ (0 ≤ c ∧ c ≤ 4095) ∧ (-1 ≤ e ∧ e ≤ 1439) ∧ u.1 10 < 120 ∧ g_ct (cvr u 3) (cvr u 4) y z (u.1 10).toNatClampNeg < 12) ∧ ((-1) : Int32) = -1 ∧ (u.1 10 : Int32) = u.1 10 ∧ qV0 u u) := by
  first | (refine Or.inl ⟨⟨?_, ?_, ?_, ?_, ?_, ?_, ?_, ?_, ?_⟩, ?_, ?_, ?_⟩ <;> first | assumption | exact (by assumption : _ ∧ qxr _ 2 = _).1 | (clear hVn hnum; (try simp only [g_m1, Int32.lt_iff_toInt_lt, Int32.le_iff_toInt_le, ← Int32.toInt_inj, Int32.reduceToInt] at *); omega)) | exact Or.inr ⟨fun q9 => (by obtain ⟨q1, q2, q3, q4, q5, q6, q7, q8, q9⟩ := q9; (try simp only [g_m1, Int32.lt_iff_toInt_lt, Int32.le_iff_toInt_le, ← Int32.toInt_inj, Int32.reduceToInt] at *); omega), rfl, rfl, rfl, rfl⟩
set_option maxHeartbeats 1000000 in
set_option maxRecDepth 100000 in
theorem g_X11_visit (l : Launch) (E : qE) (A : Nat → Prop) (u : qS) (x : Int32) (y : Int32) (z : Int32) (a : Int32) (b : Int32) (c : Int32) (e : Int32) (hI : IC E u) : Met l yX11_visit (uws yX11_visit cX11_visit 9 (some .int)) (qR 2 1 15) (qPc E A 0 u [.ref (E.2.2 1199), .int x, .int y, .int z, .int a, .int b, .int c, .int e]) (qQi E A 0 (fun r u1 => (qFc [10, 18] [] [] [2, 3, 5000] u u1 ∧ IC E u1) ∧ ((((0 ≤ x ∧ x < u.1 8) ∧ (0 ≤ y ∧ y < u.1 9) ∧ (0 ≤ z ∧ z ≤ u.1 13) ∧ (0 ≤ a ∧ a ≤ 1439) ∧ (1 ≤ b ∧ b ≤ 300) ∧ (0 ≤ c ∧ c ≤ 4095) ∧ (-1 ≤ e ∧ e ≤ 1439) ∧ u.1 10 < 120 ∧ g_ct (cvr u 3) (cvr u 4) y z (u.1 10).toNatClampNeg < 12) ∧ r = u.1 10 ∧ u1.1 10 = u.1 10 + 1 ∧ qVn u u1 x y z a b c e) ∨ (¬ ((0 ≤ x ∧ x < u.1 8) ∧ (0 ≤ y ∧ y < u.1 9) ∧ (0 ≤ z ∧ z ≤ u.1 13) ∧ (0 ≤ a ∧ a ≤ 1439) ∧ (1 ≤ b ∧ b ≤ 300) ∧ (0 ≤ c ∧ c ≤ 4095) ∧ (-1 ≤ e ∧ e ≤ 1439) ∧ u.1 10 < 120 ∧ g_ct (cvr u 3) (cvr u 4) y z (u.1 10).toNatClampNeg < 12) ∧ r = -1 ∧ u1.1 10 = u.1 10 ∧ qV0 u u1)))) 1 15 A := by
  refine q_met (own := RX11) (f := 2) [.ref (E.2.2 1199), .int x, .int y, .int z, .int a, .int b, .int c, .int e] (by decide) (Nat.le_of_ble_eq_true rfl) rfl ?_
  intro p0 e0 s0 m0 bl0 me0 cd0 ls hF hr hlocks hU hS hA hl
  have hl : lv_has ls 9 [(0, .ref (E.2.2 1199)), (1, .int x), (2, .int y), (3, .int z), (4, .int a), (5, .int b), (6, .int c), (7, .int e)] := hl
  have hz8 : 0 ≤ u.1 8 ∧ u.1 8 ≤ 20 := hI.1.s8
  have hz9 : 0 ≤ u.1 9 ∧ u.1 9 ≤ 8 := hI.1.s9
  have hz10 : 0 ≤ u.1 10 ∧ u.1 10 ≤ 120 := hI.1.s10
  have hz12 : 0 ≤ u.1 12 ∧ u.1 12 ≤ 16 := hI.1.s12
  have hfr : qFc [10, 18] [] [] [2, 3, 5000] u u := qFc.rf
  refine lv_aload_n hF.1 hF.2.1 dX11_visit_0 rfl (lv_at hl 0 rfl) ?_
  refine q_get (v := .ref (E.2.2 99)) hF hU dX11_visit_1 0 11 0 1100 1199 rfl rfl rfl rfl inX11 (by decide) (by decide) w_436 rfl rfl ?_
  refine lv_iload_n hF.1 hF.2.1 dX11_visit_4 rfl (lv_at hl 1 rfl) ?_
  have hM9 := g_X0_hasShop l E A u x hI
  have hR9 := q_runV (l := l) (e := e0) (below := bl0) (meth := me0) (R := qR 2 1 15) (cells := 0) (slots := 0) (st0 := [.int x, .ref (E.2.2 99)]) (rest := []) hF hU hS hA 1 1 0 99 rfl rfl rfl hM9 w_563 w_564 w_565 w_100 w_566 (by decide +kernel) ⟨Nat.le_of_ble_eq_true rfl, Nat.le_of_ble_eq_true rfl⟩ dX11_visit_5 rfl hl.1 rfl (Nat.le_of_ble_eq_true rfl) ⟨Nat.le_of_ble_eq_true rfl, Nat.le_of_ble_eq_true rfl⟩
  refine q_calli hR9 hU.2.2.2 hS (fun r_3 u_1 H locs hw_2 hU hS => ?_)
  obtain ⟨hw_2_e, hw_2⟩ := hw_2
  rw [hw_2_e] at hU
  have hw_2 : (r_3 = 1 ∧ (0 ≤ x ∧ x < u.1 8)) ∨ (r_3 = 0 ∧ (¬ (0 ≤ x ∧ x < u.1 8))) := hw_2
  rcases hw_2 with ⟨rfl, b5_4⟩ | ⟨rfl, b5_4⟩
  · refine lv_if_eq (tgt := 37) hF.1 hF.2.1 dX11_visit_8 (by decide) (fun h9 => absurd h9 (by decide)) (fun _ => ?_)
    refine lv_aload_n hF.1 hF.2.1 dX11_visit_11 rfl (lv_at hl 0 rfl) ?_
    refine q_get (v := .ref (E.2.2 99)) hF hU dX11_visit_12 0 11 0 1100 1199 rfl rfl rfl rfl inX11 (by decide) (by decide) w_436 rfl rfl ?_
    refine lv_iload_n hF.1 hF.2.1 dX11_visit_15 rfl (lv_at hl 2 rfl) ?_
    have hM9 := g_X0_hasBuyer l E A u y hI
    have hR9 := q_runV (l := l) (e := e0) (below := bl0) (meth := me0) (R := qR 2 1 15) (cells := 0) (slots := 0) (st0 := [.int y, .ref (E.2.2 99)]) (rest := []) hF hU hS hA 1 1 0 99 rfl rfl rfl hM9 w_568 w_569 w_570 w_100 w_571 (by decide +kernel) ⟨Nat.le_of_ble_eq_true rfl, Nat.le_of_ble_eq_true rfl⟩ dX11_visit_16 rfl hl.1 rfl (Nat.le_of_ble_eq_true rfl) ⟨Nat.le_of_ble_eq_true rfl, Nat.le_of_ble_eq_true rfl⟩
    refine q_calli hR9 hU.2.2.2 hS (fun r_7 u_5 H locs hw_6 hU hS => ?_)
    obtain ⟨hw_6_e, hw_6⟩ := hw_6
    rw [hw_6_e] at hU
    have hw_6 : (r_7 = 1 ∧ (0 ≤ y ∧ y < u.1 9)) ∨ (r_7 = 0 ∧ (¬ (0 ≤ y ∧ y < u.1 9))) := hw_6
    rcases hw_6 with ⟨rfl, b16_8⟩ | ⟨rfl, b16_8⟩
    · refine lv_if_eq (tgt := 37) hF.1 hF.2.1 dX11_visit_19 (by decide) (fun h9 => absurd h9 (by decide)) (fun _ => ?_)
      refine lv_iload_n hF.1 hF.2.1 dX11_visit_22 rfl (lv_at hl 3 rfl) ?_
      refine lv_iconst (v := 0) hF.1 hF.2.1 dX11_visit_23 (by decide) ?_
      refine lv_aload_n hF.1 hF.2.1 dX11_visit_24 rfl (lv_at hl 0 rfl) ?_
      refine q_get (v := .ref (E.2.2 99)) hF hU dX11_visit_25 0 11 0 1100 1199 rfl rfl rfl rfl inX11 (by decide) (by decide) w_436 rfl rfl ?_
      refine q_get (v := .int (u.1 13)) hF hU dX11_visit_28 1 0 13 13 99 rfl rfl rfl rfl inX0 (by decide) (by decide) w_178 rfl rfl ?_
      have hM9 := g_X11_isWithin l E A u z 0 (u.1 13)
      have hR9 := q_runS (l := l) (e := e0) (below := bl0) (meth := me0) (R := qR 2 1 15) (cells := 0) (slots := 0) (st0 := [.int (u.1 13), .int 0, .int z]) (rest := []) hF hU hS hA 3 hM9 w_468 w_469 w_99 w_470 (by decide +kernel) ⟨Nat.le_of_ble_eq_true rfl, Nat.le_of_ble_eq_true rfl⟩ dX11_visit_31 rfl hl.1 rfl (Nat.le_of_ble_eq_true rfl) ⟨Nat.le_of_ble_eq_true rfl, Nat.le_of_ble_eq_true rfl⟩
      refine q_calli hR9 hU.2.2.2 hS (fun r_11 u_9 H locs hw_10 hU hS => ?_)
      obtain ⟨hw_10_e, hw_10⟩ := hw_10
      rw [hw_10_e] at hU
      have hw_10 : (r_11 = 1 ∧ ((0 : Int32) ≤ z ∧ z ≤ (u.1 13))) ∨ (r_11 = 0 ∧ (¬ ((0 : Int32) ≤ z ∧ z ≤ (u.1 13)))) := hw_10
      rcases hw_10 with ⟨rfl, b31_12⟩ | ⟨rfl, b31_12⟩
      · refine lv_if_ne (tgt := 39) hF.1 hF.2.1 dX11_visit_34 (by decide) (fun _ => ?_) (fun h9 => absurd h9 (by decide))
        refine lv_iload hF.1 hF.2.1 dX11_visit_39 (lv_at hl 4 rfl) ?_
        have hM9 := g_X11_isMinute l E A u a
        have hR9 := q_runS (l := l) (e := e0) (below := bl0) (meth := me0) (R := qR 2 1 15) (cells := 0) (slots := 0) (st0 := [.int a]) (rest := []) hF hU hS hA 1 hM9 w_497 w_498 w_99 w_499 (by decide +kernel) ⟨Nat.le_of_ble_eq_true rfl, Nat.le_of_ble_eq_true rfl⟩ dX11_visit_41 rfl hl.1 rfl (Nat.le_of_ble_eq_true rfl) ⟨Nat.le_of_ble_eq_true rfl, Nat.le_of_ble_eq_true rfl⟩
        refine q_calli hR9 hU.2.2.2 hS (fun r_15 u_13 H locs hw_14 hU hS => ?_)
        obtain ⟨hw_14_e, hw_14⟩ := hw_14
        rw [hw_14_e] at hU
        have hw_14 : (r_15 = 1 ∧ (0 ≤ a ∧ a ≤ 1439)) ∨ (r_15 = 0 ∧ (¬ (0 ≤ a ∧ a ≤ 1439))) := hw_14
        rcases hw_14 with ⟨rfl, b41_16⟩ | ⟨rfl, b41_16⟩
        · refine lv_if_eq (tgt := 71) hF.1 hF.2.1 dX11_visit_44 (by decide) (fun h9 => absurd h9 (by decide)) (fun _ => ?_)
          refine lv_iload hF.1 hF.2.1 dX11_visit_47 (lv_at hl 5 rfl) ?_
          refine lv_iconst (v := 1) hF.1 hF.2.1 dX11_visit_49 (by decide) ?_
          refine lv_sipush (v := 300) hF.1 hF.2.1 dX11_visit_50 (by decide) ?_
          have hM9 := g_X11_isWithin l E A u b 1 300
          have hR9 := q_runS (l := l) (e := e0) (below := bl0) (meth := me0) (R := qR 2 1 15) (cells := 0) (slots := 0) (st0 := [.int 300, .int 1, .int b]) (rest := []) hF hU hS hA 3 hM9 w_468 w_469 w_99 w_470 (by decide +kernel) ⟨Nat.le_of_ble_eq_true rfl, Nat.le_of_ble_eq_true rfl⟩ dX11_visit_53 rfl hl.1 rfl (Nat.le_of_ble_eq_true rfl) ⟨Nat.le_of_ble_eq_true rfl, Nat.le_of_ble_eq_true rfl⟩
          refine q_calli hR9 hU.2.2.2 hS (fun r_19 u_17 H locs hw_18 hU hS => ?_)
          obtain ⟨hw_18_e, hw_18⟩ := hw_18
          rw [hw_18_e] at hU
          have hw_18 : (r_19 = 1 ∧ ((1 : Int32) ≤ b ∧ b ≤ (300 : Int32))) ∨ (r_19 = 0 ∧ (¬ ((1 : Int32) ≤ b ∧ b ≤ (300 : Int32)))) := hw_18
          rcases hw_18 with ⟨rfl, b53_20⟩ | ⟨rfl, b53_20⟩
          · refine lv_if_eq (tgt := 71) hF.1 hF.2.1 dX11_visit_56 (by decide) (fun h9 => absurd h9 (by decide)) (fun _ => ?_)
            refine lv_iload hF.1 hF.2.1 dX11_visit_59 (lv_at hl 6 rfl) ?_
            refine lv_iconst (v := 0) hF.1 hF.2.1 dX11_visit_61 (by decide) ?_
            refine lv_sipush (v := 4095) hF.1 hF.2.1 dX11_visit_62 (by decide) ?_
            have hM9 := g_X11_isWithin l E A u c 0 4095
            have hR9 := q_runS (l := l) (e := e0) (below := bl0) (meth := me0) (R := qR 2 1 15) (cells := 0) (slots := 0) (st0 := [.int 4095, .int 0, .int c]) (rest := []) hF hU hS hA 3 hM9 w_468 w_469 w_99 w_470 (by decide +kernel) ⟨Nat.le_of_ble_eq_true rfl, Nat.le_of_ble_eq_true rfl⟩ dX11_visit_65 rfl hl.1 rfl (Nat.le_of_ble_eq_true rfl) ⟨Nat.le_of_ble_eq_true rfl, Nat.le_of_ble_eq_true rfl⟩
            refine q_calli hR9 hU.2.2.2 hS (fun r_23 u_21 H locs hw_22 hU hS => ?_)
            obtain ⟨hw_22_e, hw_22⟩ := hw_22
            rw [hw_22_e] at hU
            have hw_22 : (r_23 = 1 ∧ ((0 : Int32) ≤ c ∧ c ≤ (4095 : Int32))) ∨ (r_23 = 0 ∧ (¬ ((0 : Int32) ≤ c ∧ c ≤ (4095 : Int32)))) := hw_22
            rcases hw_22 with ⟨rfl, b65_24⟩ | ⟨rfl, b65_24⟩
            · refine lv_if_ne (tgt := 73) hF.1 hF.2.1 dX11_visit_68 (by decide) (fun _ => ?_) (fun h9 => absurd h9 (by decide))
              refine lv_iload hF.1 hF.2.1 dX11_visit_73 (lv_at hl 7 rfl) ?_
              refine lv_iconst (v := (-1)) hF.1 hF.2.1 dX11_visit_75 (by decide) ?_
              refine lv_icmp_eq (tgt := 89) hF.1 hF.2.1 dX11_visit_76 (by decide) (fun c76_25 => ?_) (fun c76_25 => ?_)
              · refine lv_aload_n hF.1 hF.2.1 dX11_visit_89 rfl (lv_at hl 0 rfl) ?_
                refine q_get (v := .ref (E.2.2 99)) hF hU dX11_visit_90 0 11 0 1100 1199 rfl rfl rfl rfl inX11 (by decide) (by decide) w_436 rfl rfl ?_
                refine q_get (v := .int (u.1 10)) hF hU dX11_visit_93 1 0 10 10 99 rfl rfl rfl rfl inX0 (by decide) (by decide) w_172 rfl rfl ?_
                refine lv_bipush (v := 120) hF.1 hF.2.1 dX11_visit_96 (by decide) ?_
                refine lv_icmp_ge (tgt := 115) hF.1 hF.2.1 dX11_visit_98 (by decide) (fun c98_26 => ?_) (fun c98_26 => ?_)
                · refine lv_iconst (v := (-1)) hF.1 hF.2.1 dX11_visit_115 (by decide) ?_
                  refine W.widen (k := 1) (n := 15) (by decide) (by decide) ?_
                  exact q_iret hF hr rfl hlocks hU hS dX11_visit_116 ⟨⟨hfr, hI⟩, (g_X11_visit_v0 u x y z a b c e hz8 hz9 hz10 hz12 b5_4 b16_8 b31_12 b41_16 b53_20 b65_24 c76_25 c98_26)⟩
                · refine lv_aload_n hF.1 hF.2.1 dX11_visit_101 rfl (lv_at hl 0 rfl) ?_
                  refine q_get (v := .ref (E.2.2 99)) hF hU dX11_visit_102 0 11 0 1100 1199 rfl rfl rfl rfl inX11 (by decide) (by decide) w_436 rfl rfl ?_
                  refine lv_iload_n hF.1 hF.2.1 dX11_visit_105 rfl (lv_at hl 2 rfl) ?_
                  refine lv_iload_n hF.1 hF.2.1 dX11_visit_106 rfl (lv_at hl 3 rfl) ?_
                  have hM9 := g_X0_toldOf l E A u y z hI
                  have hR9 := q_runV (l := l) (e := e0) (below := bl0) (meth := me0) (R := qR 2 1 15) (cells := 0) (slots := 0) (st0 := [.int z, .int y, .ref (E.2.2 99)]) (rest := []) hF hU hS hA 2 1 0 99 rfl rfl rfl hM9 w_572 w_573 w_574 w_100 w_575 (by decide +kernel) ⟨Nat.le_of_ble_eq_true rfl, Nat.le_of_ble_eq_true rfl⟩ dX11_visit_107 rfl hl.1 rfl (Nat.le_of_ble_eq_true rfl) ⟨Nat.le_of_ble_eq_true rfl, Nat.le_of_ble_eq_true rfl⟩
                  refine q_calli hR9 hU.2.2.2 hS (fun r_29 u_27 H locs hw_28 hU hS => ?_)
                  obtain ⟨hw_28_e, hw_28⟩ := hw_28
                  rw [hw_28_e] at hU
                  have hw_28 : r_29.toInt = (g_ct (cvr u 3) (cvr u 4) y z (u.1 10).toNatClampNeg : Int) := hw_28
                  refine lv_bipush (v := 12) hF.1 hF.2.1 dX11_visit_110 (by decide) ?_
                  refine lv_icmp_lt (tgt := 117) hF.1 hF.2.1 dX11_visit_112 (by decide) (fun c112_30 => ?_) (fun c112_30 => ?_)
                  · refine q_new hF hU hS hA dX11_visit_117 10 rfl inX10 tyX10 tyX10_ok w_576 w_577 w_110 [.int 0, .int 0, .int 0, .int 0, .int 0, .int 0, .int 0, .int 0, .int 0, .int 0, .int 0, .int 0, .int 0, .int 0, .int 0] (by decide) (Nat.le_of_ble_eq_true rfl) (Nat.le_of_ble_eq_true rfl) (fun q_31 H hU hS => ?_)
                    have hU : qH E A 0 (qsX u (u.2.2.2.2 ++ [(q_31, .inr (10, [.int 0, .int 0, .int 0, .int 0, .int 0, .int 0, .int 0, .int 0, .int 0, .int 0, .int 0, .int 0, .int 0, .int 0, .int 0]))])) s0 H := hU
                    refine lv_dup hF.1 hF.2.1 dX11_visit_120 rfl ?_
                    refine lv_aload_n hF.1 hF.2.1 dX11_visit_121 rfl (lv_at hl 0 rfl) ?_
                    refine q_get (v := .ref (E.2.2 99)) hF hU dX11_visit_122 0 11 0 1100 1199 rfl rfl rfl rfl inX11 (by decide) (by decide) w_436 rfl rfl ?_
                    refine q_get (v := .int (u.1 10)) hF hU dX11_visit_125 1 0 10 10 99 rfl rfl rfl rfl inX0 (by decide) (by decide) w_172 rfl rfl ?_
                    refine lv_aload_n hF.1 hF.2.1 dX11_visit_128 rfl (lv_at hl 0 rfl) ?_
                    refine q_get (v := .ref (E.2.2 99)) hF hU dX11_visit_129 0 11 0 1100 1199 rfl rfl rfl rfl inX11 (by decide) (by decide) w_436 rfl rfl ?_
                    refine q_get (v := .int (u.1 13)) hF hU dX11_visit_132 1 0 13 13 99 rfl rfl rfl rfl inX0 (by decide) (by decide) w_178 rfl (congrArg Value.int (hfr.1 13 (by decide))) ?_
                    have hd9 : (qsX u (u.2.2.2.2 ++ [(q_31, .inr (10, [.int 0, .int 0, .int 0, .int 0, .int 0, .int 0, .int 0, .int 0, .int 0, .int 0, .int 0, .int 0, .int 0, .int 0, .int 0]))])).2.2.2.2[u.2.2.2.2.length + 0]? = some (q_31, .inr (10, [.int 0, .int 0, .int 0, .int 0, .int 0, .int 0, .int 0, .int 0, .int 0, .int 0, .int 0, .int 0, .int 0, .int 0, .int 0])) := q_cat (X := u.2.2.2.2) (C := [(q_31, .inr (10, [.int 0, .int 0, .int 0, .int 0, .int 0, .int 0, .int 0, .int 0, .int 0, .int 0, .int 0, .int 0, .int 0, .int 0, .int 0]))]) (m := 0) rfl rfl
                    have hM9 := (k_X10_init l E A 0 (qsX u (u.2.2.2.2 ++ [(q_31, .inr (10, [.int 0, .int 0, .int 0, .int 0, .int 0, .int 0, .int 0, .int 0, .int 0, .int 0, .int 0, .int 0, .int 0, .int 0, .int 0]))])) q_31 (u.2.2.2.2.length + 0) (u.1 10) (u.1 13) hd9)
                    have hR9 := q_runI (l := l) (e := e0) (below := bl0) (meth := me0) (R := qR 2 1 15) (cells := 1) (slots := 15) (st0 := [.int (u.1 13), .int (u.1 10), .ref q_31, .ref q_31]) (rest := [.ref q_31]) hF hU hS hA 2 hM9 w_578 w_579 w_110 w_580 rfl (by decide +kernel) ⟨Nat.le_of_ble_eq_true rfl, Nat.le_of_ble_eq_true rfl⟩ dX11_visit_135 rfl hl.1 rfl (Nat.le_of_ble_eq_true rfl) ⟨Nat.le_of_ble_eq_true rfl, Nat.le_of_ble_eq_true rfl⟩
                    refine q_callv hR9 hU.2.2.2 hS (fun u_32 H locs hw_33 hU hS => ?_)
                    have e9 : (u.2.2.2.2 ++ ([(q_31, .inr (10, [.int 0, .int 0, .int 0, .int 0, .int 0, .int 0, .int 0, .int 0, .int 0, .int 0, .int 0, .int 0, .int 0, .int 0, .int 0]))] : va_W)).set (u.2.2.2.2.length + 0) (q_31, .inr (10, [.int (u.1 10), .int (u.1 13), .int 0, .int 0, .int 0, .int 0, .int 0, .int 0, .int 0, .int 0, .int 0, .int 0, .int 0, .int 0, .int 0])) ++ [] = u.2.2.2.2 ++ (([(q_31, .inr (10, [.int (u.1 10), .int (u.1 13), .int 0, .int 0, .int 0, .int 0, .int 0, .int 0, .int 0, .int 0, .int 0, .int 0, .int 0, .int 0, .int 0]))] : va_W) ++ []) := q_csub rfl rfl
                    have e9 : (u.2.2.2.2 ++ ([(q_31, .inr (10, [.int 0, .int 0, .int 0, .int 0, .int 0, .int 0, .int 0, .int 0, .int 0, .int 0, .int 0, .int 0, .int 0, .int 0, .int 0]))] : va_W)).set (u.2.2.2.2.length + 0) (q_31, .inr (10, [.int (u.1 10), .int (u.1 13), .int 0, .int 0, .int 0, .int 0, .int 0, .int 0, .int 0, .int 0, .int 0, .int 0, .int 0, .int 0, .int 0])) ++ [] = u.2.2.2.2 ++ ([(q_31, .inr (10, [.int (u.1 10), .int (u.1 13), .int 0, .int 0, .int 0, .int 0, .int 0, .int 0, .int 0, .int 0, .int 0, .int 0, .int 0, .int 0, .int 0]))] : va_W) := e9
                    have hU : qH E A 0 (qsX u (u.2.2.2.2 ++ [(q_31, .inr (10, [.int (u.1 10), .int (u.1 13), .int 0, .int 0, .int 0, .int 0, .int 0, .int 0, .int 0, .int 0, .int 0, .int 0, .int 0, .int 0, .int 0]))])) s0 H := by
                      have h : qH E A 0 (qsX u ((u.2.2.2.2 ++ ([(q_31, .inr (10, [.int 0, .int 0, .int 0, .int 0, .int 0, .int 0, .int 0, .int 0, .int 0, .int 0, .int 0, .int 0, .int 0, .int 0, .int 0]))] : va_W)).set (u.2.2.2.2.length + 0) (q_31, .inr (10, [.int (u.1 10), .int (u.1 13), .int 0, .int 0, .int 0, .int 0, .int 0, .int 0, .int 0, .int 0, .int 0, .int 0, .int 0, .int 0, .int 0])) ++ [])) s0 H := by rw [hw_33] at hU; exact hU
                      rw [e9] at h; exact h
                    have hp_35 := hI.newV (q := q_31) (n := u.1 10) (t := u.1 13) (g_X11_visit_v1 u x y z a b c e r_29 hz8 hz9 hz10 hz12 b5_4 b16_8 b31_12 b41_16 b53_20 b65_24 c76_25 c98_26 hw_28 c112_30) (g_X11_visit_v2 u x y z a b c e r_29 hz8 hz9 hz10 hz12 b5_4 b16_8 b31_12 b41_16 b53_20 b65_24 c76_25 c98_26 hw_28 c112_30)
                    obtain ⟨u_34, hun_u_34⟩ : ∃ zz9 : qS, zz9 = qsX u (u.2.2.2.2 ++ [(q_31, .inr (10, [.int (u.1 10), .int (u.1 13), .int 0, .int 0, .int 0, .int 0, .int 0, .int 0, .int 0, .int 0, .int 0, .int 0, .int 0, .int 0, .int 0]))]) := ⟨_, rfl⟩
                    have hU : qH E A 0 u_34 s0 H := by rw [hun_u_34]; exact hU
                    have hp_35_f : qFc [] [] [] [] u u_34 := by rw [hun_u_34]; exact hp_35.1.2
                    have hI : IC E u_34 := by rw [hun_u_34]; exact hp_35.1.1
                    have hfo := hfr
                    have hfr : qFc [10, 18] [] [] [2, 3, 5000] u u_34 := hfr.trans (hp_35_f.mono (by decide) (by decide) (by decide) (by decide))
                    have e_36 : u_34.1 10 = (u.1 10) := (hp_35_f.1 10 (by decide)).trans rfl
                    have e_37 : u_34.1 18 = (u.1 18) := (hp_35_f.1 18 (by decide)).trans rfl
                    have hrn : qRn u_34 q_31 (u.1 10) := by rw [hun_u_34]; exact hp_35.2
                    have hr_38 : qRf u_34 q_31 10 := hrn.rf
                    have hdd : u_34.2.2.2.2[u.2.2.2.2.length]? = some (q_31, .inr (10, [.int (u.1 10), .int (u.1 13), .int 0, .int 0, .int 0, .int 0, .int 0, .int 0, .int 0, .int 0, .int 0, .int 0, .int 0, .int 0, .int 0])) := by rw [hun_u_34]; show (u.2.2.2.2 ++ _)[_]? = _; rw [List.getElem?_append_right (Nat.le_refl _), Nat.sub_self]; rfl
                    have hok : ∀ k9 : Nat, k9 < u.2.2.2.2.length → u_34.2.2.2.2[k9]? = u.2.2.2.2[k9]? := fun k9 h9 => by rw [hun_u_34]; exact List.getElem?_append_left h9
                    have hx2 : qxr u_34 2 = qxr u 2 := by rw [hun_u_34]; rfl
                    refine lv_astore (lv' := [(8, .ref q_31), (0, .ref (E.2.2 1199)), (1, .int x), (2, .int y), (3, .int z), (4, .int a), (5, .int b), (6, .int c), (7, .int e)]) hF.1 hF.2.1 dX11_visit_138 hl (by decide) rfl (fun ls hl => ?_)
                    refine lv_aload hF.1 hF.2.1 dX11_visit_140 (lv_at hl 0 rfl) ?_
                    refine lv_iload_n hF.1 hF.2.1 dX11_visit_142 rfl (lv_at hl 2 rfl) ?_
                    refine lv_iload_n hF.1 hF.2.1 dX11_visit_143 rfl (lv_at hl 3 rfl) ?_
                    refine lv_iload_n hF.1 hF.2.1 dX11_visit_144 rfl (lv_at hl 4 rfl) ?_
                    refine lv_iload hF.1 hF.2.1 dX11_visit_145 (lv_at hl 5 rfl) ?_
                    refine lv_iload hF.1 hF.2.1 dX11_visit_147 (lv_at hl 6 rfl) ?_
                    have hM9 := g_X10_goes l E A u_34 q_31 x y z a b (u.2.2.2.2.length) ([.int (u.1 10), .int (u.1 13), .int 0, .int 0, .int 0, .int 0, .int 0, .int 0, .int 0, .int 0, .int 0, .int 0, .int 0, .int 0, .int 0]) hI hr_38 (by rw [(hfr.1 8 (by decide))]; exact (g_X11_visit_v3 u x y z a b c e r_29 hz8 hz9 hz10 hz12 b5_4 b16_8 b31_12 b41_16 b53_20 b65_24 c76_25 c98_26 hw_28 c112_30)) (by rw [(hfr.1 9 (by decide))]; exact (g_X11_visit_v4 u x y z a b c e r_29 hz8 hz9 hz10 hz12 b5_4 b16_8 b31_12 b41_16 b53_20 b65_24 c76_25 c98_26 hw_28 c112_30)) hdd
                    obtain ⟨k_39, fs_40, hd_41⟩ := id (hr_38)
                    have hR9 := q_runVd (l := l) (e := e0) (below := bl0) (meth := me0) (R := qR 2 1 15) (cells := 1) (slots := 15) (st0 := [.int b, .int a, .int z, .int y, .int x, .ref q_31]) (rest := []) hF hU hS hA 5 k_39 10 hd_41 rfl hM9 w_663 w_664 w_665 w_110 w_666 (by decide +kernel) ⟨Nat.le_of_ble_eq_true rfl, Nat.le_of_ble_eq_true rfl⟩ dX11_visit_149 rfl hl.1 rfl (Nat.le_of_ble_eq_true rfl) ⟨Nat.le_of_ble_eq_true rfl, Nat.le_of_ble_eq_true rfl⟩
                    refine q_callv hR9 hU.2.2.2 hS (fun u_42 H locs hw_43 hU hS => ?_)
                    obtain ⟨⟨hw_43_f, hI⟩, hw_43⟩ := hw_43
                    have hfo := hfr
                    have hfr : qFc [10, 18] [] [] [2, 3, 5000] u u_42 := hfr.trans (hw_43_f.mono (by decide) (by decide) (by decide) (by decide))
                    have e_45 : u_42.1 10 = (u.1 10) := (hw_43_f.1 10 (by decide)).trans e_36
                    have e_46 : u_42.1 18 = (u.1 18) := (hw_43_f.1 18 (by decide)).trans e_37
                    have hr_47 : qRf u_42 q_31 10 := hw_43_f.r _ _ hr_38
                    have hrn := hw_43_f.n _ _ hrn
                    have hw_43 : u_42.2.2.2.2[((u.2.2.2.2.length))]? = some (q_31, .inr (10, ((((((([.int (u.1 10), .int (u.1 13), .int 0, .int 0, .int 0, .int 0, .int 0, .int 0, .int 0, .int 0, .int 0, .int 0, .int 0, .int 0, .int 0]))).set 2 (.int (x))).set 3 (.int (y))).set 4 (.int (z))).set 5 (.int (a))).set 6 (.int (b)))) ∧ ∀ k9 : Nat, ((u.2.2.2.2.length)) ≠ k9 → u_42.2.2.2.2[k9]? = u_34.2.2.2.2[k9]? := hw_43
                    have hdd := hw_43.1
                    have hok : ∀ k9 : Nat, k9 < u.2.2.2.2.length → u_42.2.2.2.2[k9]? = u.2.2.2.2[k9]? := fun k9 h9 => (hw_43.2 k9 (by omega)).trans (hok k9 h9)
                    have hx2 : qxr u_42 2 = qxr u 2 := (hw_43_f.2.2.2.1 2 (by decide)).trans hx2
                    refine lv_aload hF.1 hF.2.1 dX11_visit_152 (lv_at hl 0 rfl) ?_
                    refine lv_iload hF.1 hF.2.1 dX11_visit_154 (lv_at hl 7 rfl) ?_
                    refine lv_iload hF.1 hF.2.1 dX11_visit_156 (lv_at hl 8 rfl) ?_
                    have hM9 := g_X10_tells l E A u_42 q_31 c e (u.2.2.2.2.length) (((((([.int (u.1 10), .int (u.1 13), .int 0, .int 0, .int 0, .int 0, .int 0, .int 0, .int 0, .int 0, .int 0, .int 0, .int 0, .int 0, .int 0]).set 2 (.int (x))).set 3 (.int (y))).set 4 (.int (z))).set 5 (.int (a))).set 6 (.int (b))) hI hr_47 hdd
                    obtain ⟨k_48, fs_49, hd_50⟩ := id (hr_47)
                    have hR9 := q_runVd (l := l) (e := e0) (below := bl0) (meth := me0) (R := qR 2 1 15) (cells := 1) (slots := 15) (st0 := [.int e, .int c, .ref q_31]) (rest := []) hF hU hS hA 2 k_48 10 hd_50 rfl hM9 w_667 w_668 w_669 w_110 w_670 (by decide +kernel) ⟨Nat.le_of_ble_eq_true rfl, Nat.le_of_ble_eq_true rfl⟩ dX11_visit_158 rfl hl.1 rfl (Nat.le_of_ble_eq_true rfl) ⟨Nat.le_of_ble_eq_true rfl, Nat.le_of_ble_eq_true rfl⟩
                    refine q_callv hR9 hU.2.2.2 hS (fun u_51 H locs hw_52 hU hS => ?_)
                    obtain ⟨⟨hw_52_f, hI⟩, hw_52⟩ := hw_52
                    have hfo := hfr
                    have hfr : qFc [10, 18] [] [] [2, 3, 5000] u u_51 := hfr.trans (hw_52_f.mono (by decide) (by decide) (by decide) (by decide))
                    have e_54 : u_51.1 10 = (u.1 10) := (hw_52_f.1 10 (by decide)).trans e_45
                    have e_55 : u_51.1 18 = (u.1 18) := (hw_52_f.1 18 (by decide)).trans e_46
                    have hr_56 : qRf u_51 q_31 10 := hw_52_f.r _ _ hr_47
                    have hrn := hw_52_f.n _ _ hrn
                    have hw_52 : u_51.2.2.2.2[((u.2.2.2.2.length))]? = some (q_31, .inr (10, (((((((((([.int (u.1 10), .int (u.1 13), .int 0, .int 0, .int 0, .int 0, .int 0, .int 0, .int 0, .int 0, .int 0, .int 0, .int 0, .int 0, .int 0]).set 2 (.int (x))).set 3 (.int (y))).set 4 (.int (z))).set 5 (.int (a))).set 6 (.int (b))))).set 7 (.int (c))).set 9 (.int (c))).set 8 (.int (e)))) ∧ ∀ k9 : Nat, ((u.2.2.2.2.length)) ≠ k9 → u_51.2.2.2.2[k9]? = u_42.2.2.2.2[k9]? := hw_52
                    have hdd := hw_52.1
                    have hok : ∀ k9 : Nat, k9 < u.2.2.2.2.length → u_51.2.2.2.2[k9]? = u.2.2.2.2[k9]? := fun k9 h9 => (hw_52.2 k9 (by omega)).trans (hok k9 h9)
                    have hx2 : qxr u_51 2 = qxr u 2 := (hw_52_f.2.2.2.1 2 (by decide)).trans hx2
                    refine lv_aload_n hF.1 hF.2.1 dX11_visit_161 rfl (lv_at hl 1 rfl) ?_
                    refine q_get (v := .ref (E.2.2 99)) hF hU dX11_visit_162 0 11 0 1100 1199 rfl rfl rfl rfl inX11 (by decide) (by decide) w_436 rfl rfl ?_
                    refine lv_aload hF.1 hF.2.1 dX11_visit_165 (lv_at hl 0 rfl) ?_
                    have hM9 := g_X0_keepVisit l E A u_51 q_31 hI hr_56 (by rw [show u_51.1 10 = u.1 10 from e_54]; exact hrn) (by rw [show (u_51).1 10 = (u.1 10) from e_54]; exact (g_X11_visit_v5 u x y z a b c e r_29 hz8 hz9 hz10 hz12 b5_4 b16_8 b31_12 b41_16 b53_20 b65_24 c76_25 c98_26 hw_28 c112_30))
                    have hR9 := q_runV (l := l) (e := e0) (below := bl0) (meth := me0) (R := qR 2 1 15) (cells := 1) (slots := 15) (st0 := [.ref q_31, .ref (E.2.2 99)]) (rest := []) hF hU hS hA 1 1 0 99 rfl rfl rfl hM9 w_671 w_672 w_673 w_100 w_674 (by decide +kernel) ⟨Nat.le_of_ble_eq_true rfl, Nat.le_of_ble_eq_true rfl⟩ dX11_visit_167 rfl hl.1 rfl (Nat.le_of_ble_eq_true rfl) ⟨Nat.le_of_ble_eq_true rfl, Nat.le_of_ble_eq_true rfl⟩
                    refine q_callv hR9 hU.2.2.2 hS (fun u_57 H locs hw_58 hU hS => ?_)
                    obtain ⟨⟨hw_58_f, hI, hw_58_d⟩, hw_58⟩ := hw_58
                    have hfo := hfr
                    have hfr : qFc [10, 18] [] [] [2, 3, 5000] u u_57 := hfr.trans (hw_58_f.mono (by decide) (by decide) (by decide) (by decide))
                    have hr_60 : qRf u_57 q_31 10 := hw_58_f.r _ _ hr_56
                    have hrn := hw_58_f.n _ _ hrn
                    have hw_58 : u_57.1 10 = (u.1 10 : Int32) + 1 ∧ qxr u_57 2 = va_up (qxr u_51 2) ((u.1 10 : Int32)).toNatClampNeg (some q_31) := by rw [show (u_51).1 10 = (u.1 10) from e_54] at hw_58; exact hw_58
                    have hVn : qVn u u_57 x y z a b c e := ⟨q_31, hw_58.2.trans (by rw [hx2]), by rw [hw_58_d]; exact hdd, fun k9 h9 => by rw [hw_58_d]; exact hok k9 h9⟩
                    have hnum : qfd u_51.2.2.2.2 q_31 0 = u.1 10 := qfd_at (D := u_51.2.2.2.2) (by have z := q_di hU; rw [hw_58_d] at z; exact z) hdd rfl
                    refine lv_aload hF.1 hF.2.1 dX11_visit_170 (lv_at hl 0 rfl) ?_
                    obtain ⟨k_61, fs_62, hd_64, hv_65, hv_65_2, hv_65_3, -⟩ := hI.vf hr_60 0 (by decide)
                    rw [show u_57.2.2.2.2 = u_51.2.2.2.2 from hw_58_d] at hv_65 hv_65_2 hv_65_3
                    refine q_getd (v := .int (qfd u_51.2.2.2.2 q_31 0)) hF hU dX11_visit_172 k_61 10 0 hd_64 rfl inX10 (by decide) w_584 rfl hv_65 ?_
                    exact q_iret hF hr rfl hlocks hU hS dX11_visit_175 ⟨⟨hfr, hI⟩, (g_X11_visit_v6 u x y z a b c e r_29 u_51 u_57 q_31 hz8 hz9 hz10 hz12 b5_4 b16_8 b31_12 b41_16 b53_20 b65_24 c76_25 c98_26 hw_28 c112_30 hw_58 hVn hnum)⟩
                  · refine lv_iconst (v := (-1)) hF.1 hF.2.1 dX11_visit_115 (by decide) ?_
                    refine W.widen (k := 1) (n := 15) (by decide) (by decide) ?_
                    exact q_iret hF hr rfl hlocks hU hS dX11_visit_116 ⟨⟨hfr, hI⟩, (g_X11_visit_v7 u x y z a b c e r_29 hz8 hz9 hz10 hz12 b5_4 b16_8 b31_12 b41_16 b53_20 b65_24 c76_25 c98_26 hw_28 c112_30)⟩
              · refine lv_iload hF.1 hF.2.1 dX11_visit_79 (lv_at hl 7 rfl) ?_
                have hM9 := g_X11_isMinute l E A u e
                have hR9 := q_runS (l := l) (e := e0) (below := bl0) (meth := me0) (R := qR 2 1 15) (cells := 0) (slots := 0) (st0 := [.int e]) (rest := []) hF hU hS hA 1 hM9 w_497 w_498 w_99 w_499 (by decide +kernel) ⟨Nat.le_of_ble_eq_true rfl, Nat.le_of_ble_eq_true rfl⟩ dX11_visit_81 rfl hl.1 rfl (Nat.le_of_ble_eq_true rfl) ⟨Nat.le_of_ble_eq_true rfl, Nat.le_of_ble_eq_true rfl⟩
                refine q_calli hR9 hU.2.2.2 hS (fun r_68 u_66 H locs hw_67 hU hS => ?_)
                obtain ⟨hw_67_e, hw_67⟩ := hw_67
                rw [hw_67_e] at hU
                have hw_67 : (r_68 = 1 ∧ (0 ≤ e ∧ e ≤ 1439)) ∨ (r_68 = 0 ∧ (¬ (0 ≤ e ∧ e ≤ 1439))) := hw_67
                rcases hw_67 with ⟨rfl, b81_69⟩ | ⟨rfl, b81_69⟩
                · refine lv_if_ne (tgt := 89) hF.1 hF.2.1 dX11_visit_84 (by decide) (fun _ => ?_) (fun h9 => absurd h9 (by decide))
                  refine lv_aload_n hF.1 hF.2.1 dX11_visit_89 rfl (lv_at hl 0 rfl) ?_
                  refine q_get (v := .ref (E.2.2 99)) hF hU dX11_visit_90 0 11 0 1100 1199 rfl rfl rfl rfl inX11 (by decide) (by decide) w_436 rfl rfl ?_
                  refine q_get (v := .int (u.1 10)) hF hU dX11_visit_93 1 0 10 10 99 rfl rfl rfl rfl inX0 (by decide) (by decide) w_172 rfl rfl ?_
                  refine lv_bipush (v := 120) hF.1 hF.2.1 dX11_visit_96 (by decide) ?_
                  refine lv_icmp_ge (tgt := 115) hF.1 hF.2.1 dX11_visit_98 (by decide) (fun c98_70 => ?_) (fun c98_70 => ?_)
                  · refine lv_iconst (v := (-1)) hF.1 hF.2.1 dX11_visit_115 (by decide) ?_
                    refine W.widen (k := 1) (n := 15) (by decide) (by decide) ?_
                    exact q_iret hF hr rfl hlocks hU hS dX11_visit_116 ⟨⟨hfr, hI⟩, (g_X11_visit_v8 u x y z a b c e hz8 hz9 hz10 hz12 b5_4 b16_8 b31_12 b41_16 b53_20 b65_24 c76_25 b81_69 c98_70)⟩
                  · refine lv_aload_n hF.1 hF.2.1 dX11_visit_101 rfl (lv_at hl 0 rfl) ?_
                    refine q_get (v := .ref (E.2.2 99)) hF hU dX11_visit_102 0 11 0 1100 1199 rfl rfl rfl rfl inX11 (by decide) (by decide) w_436 rfl rfl ?_
                    refine lv_iload_n hF.1 hF.2.1 dX11_visit_105 rfl (lv_at hl 2 rfl) ?_
                    refine lv_iload_n hF.1 hF.2.1 dX11_visit_106 rfl (lv_at hl 3 rfl) ?_
                    have hM9 := g_X0_toldOf l E A u y z hI
                    have hR9 := q_runV (l := l) (e := e0) (below := bl0) (meth := me0) (R := qR 2 1 15) (cells := 0) (slots := 0) (st0 := [.int z, .int y, .ref (E.2.2 99)]) (rest := []) hF hU hS hA 2 1 0 99 rfl rfl rfl hM9 w_572 w_573 w_574 w_100 w_575 (by decide +kernel) ⟨Nat.le_of_ble_eq_true rfl, Nat.le_of_ble_eq_true rfl⟩ dX11_visit_107 rfl hl.1 rfl (Nat.le_of_ble_eq_true rfl) ⟨Nat.le_of_ble_eq_true rfl, Nat.le_of_ble_eq_true rfl⟩
                    refine q_calli hR9 hU.2.2.2 hS (fun r_73 u_71 H locs hw_72 hU hS => ?_)
                    obtain ⟨hw_72_e, hw_72⟩ := hw_72
                    rw [hw_72_e] at hU
                    have hw_72 : r_73.toInt = (g_ct (cvr u 3) (cvr u 4) y z (u.1 10).toNatClampNeg : Int) := hw_72
                    refine lv_bipush (v := 12) hF.1 hF.2.1 dX11_visit_110 (by decide) ?_
                    refine lv_icmp_lt (tgt := 117) hF.1 hF.2.1 dX11_visit_112 (by decide) (fun c112_74 => ?_) (fun c112_74 => ?_)
                    · refine q_new hF hU hS hA dX11_visit_117 10 rfl inX10 tyX10 tyX10_ok w_576 w_577 w_110 [.int 0, .int 0, .int 0, .int 0, .int 0, .int 0, .int 0, .int 0, .int 0, .int 0, .int 0, .int 0, .int 0, .int 0, .int 0] (by decide) (Nat.le_of_ble_eq_true rfl) (Nat.le_of_ble_eq_true rfl) (fun q_75 H hU hS => ?_)
                      have hU : qH E A 0 (qsX u (u.2.2.2.2 ++ [(q_75, .inr (10, [.int 0, .int 0, .int 0, .int 0, .int 0, .int 0, .int 0, .int 0, .int 0, .int 0, .int 0, .int 0, .int 0, .int 0, .int 0]))])) s0 H := hU
                      refine lv_dup hF.1 hF.2.1 dX11_visit_120 rfl ?_
                      refine lv_aload_n hF.1 hF.2.1 dX11_visit_121 rfl (lv_at hl 0 rfl) ?_
                      refine q_get (v := .ref (E.2.2 99)) hF hU dX11_visit_122 0 11 0 1100 1199 rfl rfl rfl rfl inX11 (by decide) (by decide) w_436 rfl rfl ?_
                      refine q_get (v := .int (u.1 10)) hF hU dX11_visit_125 1 0 10 10 99 rfl rfl rfl rfl inX0 (by decide) (by decide) w_172 rfl rfl ?_
                      refine lv_aload_n hF.1 hF.2.1 dX11_visit_128 rfl (lv_at hl 0 rfl) ?_
                      refine q_get (v := .ref (E.2.2 99)) hF hU dX11_visit_129 0 11 0 1100 1199 rfl rfl rfl rfl inX11 (by decide) (by decide) w_436 rfl rfl ?_
                      refine q_get (v := .int (u.1 13)) hF hU dX11_visit_132 1 0 13 13 99 rfl rfl rfl rfl inX0 (by decide) (by decide) w_178 rfl (congrArg Value.int (hfr.1 13 (by decide))) ?_
                      have hd9 : (qsX u (u.2.2.2.2 ++ [(q_75, .inr (10, [.int 0, .int 0, .int 0, .int 0, .int 0, .int 0, .int 0, .int 0, .int 0, .int 0, .int 0, .int 0, .int 0, .int 0, .int 0]))])).2.2.2.2[u.2.2.2.2.length + 0]? = some (q_75, .inr (10, [.int 0, .int 0, .int 0, .int 0, .int 0, .int 0, .int 0, .int 0, .int 0, .int 0, .int 0, .int 0, .int 0, .int 0, .int 0])) := q_cat (X := u.2.2.2.2) (C := [(q_75, .inr (10, [.int 0, .int 0, .int 0, .int 0, .int 0, .int 0, .int 0, .int 0, .int 0, .int 0, .int 0, .int 0, .int 0, .int 0, .int 0]))]) (m := 0) rfl rfl
                      have hM9 := (k_X10_init l E A 0 (qsX u (u.2.2.2.2 ++ [(q_75, .inr (10, [.int 0, .int 0, .int 0, .int 0, .int 0, .int 0, .int 0, .int 0, .int 0, .int 0, .int 0, .int 0, .int 0, .int 0, .int 0]))])) q_75 (u.2.2.2.2.length + 0) (u.1 10) (u.1 13) hd9)
                      have hR9 := q_runI (l := l) (e := e0) (below := bl0) (meth := me0) (R := qR 2 1 15) (cells := 1) (slots := 15) (st0 := [.int (u.1 13), .int (u.1 10), .ref q_75, .ref q_75]) (rest := [.ref q_75]) hF hU hS hA 2 hM9 w_578 w_579 w_110 w_580 rfl (by decide +kernel) ⟨Nat.le_of_ble_eq_true rfl, Nat.le_of_ble_eq_true rfl⟩ dX11_visit_135 rfl hl.1 rfl (Nat.le_of_ble_eq_true rfl) ⟨Nat.le_of_ble_eq_true rfl, Nat.le_of_ble_eq_true rfl⟩
                      refine q_callv hR9 hU.2.2.2 hS (fun u_76 H locs hw_77 hU hS => ?_)
                      have e9 : (u.2.2.2.2 ++ ([(q_75, .inr (10, [.int 0, .int 0, .int 0, .int 0, .int 0, .int 0, .int 0, .int 0, .int 0, .int 0, .int 0, .int 0, .int 0, .int 0, .int 0]))] : va_W)).set (u.2.2.2.2.length + 0) (q_75, .inr (10, [.int (u.1 10), .int (u.1 13), .int 0, .int 0, .int 0, .int 0, .int 0, .int 0, .int 0, .int 0, .int 0, .int 0, .int 0, .int 0, .int 0])) ++ [] = u.2.2.2.2 ++ (([(q_75, .inr (10, [.int (u.1 10), .int (u.1 13), .int 0, .int 0, .int 0, .int 0, .int 0, .int 0, .int 0, .int 0, .int 0, .int 0, .int 0, .int 0, .int 0]))] : va_W) ++ []) := q_csub rfl rfl
                      have e9 : (u.2.2.2.2 ++ ([(q_75, .inr (10, [.int 0, .int 0, .int 0, .int 0, .int 0, .int 0, .int 0, .int 0, .int 0, .int 0, .int 0, .int 0, .int 0, .int 0, .int 0]))] : va_W)).set (u.2.2.2.2.length + 0) (q_75, .inr (10, [.int (u.1 10), .int (u.1 13), .int 0, .int 0, .int 0, .int 0, .int 0, .int 0, .int 0, .int 0, .int 0, .int 0, .int 0, .int 0, .int 0])) ++ [] = u.2.2.2.2 ++ ([(q_75, .inr (10, [.int (u.1 10), .int (u.1 13), .int 0, .int 0, .int 0, .int 0, .int 0, .int 0, .int 0, .int 0, .int 0, .int 0, .int 0, .int 0, .int 0]))] : va_W) := e9
                      have hU : qH E A 0 (qsX u (u.2.2.2.2 ++ [(q_75, .inr (10, [.int (u.1 10), .int (u.1 13), .int 0, .int 0, .int 0, .int 0, .int 0, .int 0, .int 0, .int 0, .int 0, .int 0, .int 0, .int 0, .int 0]))])) s0 H := by
                        have h : qH E A 0 (qsX u ((u.2.2.2.2 ++ ([(q_75, .inr (10, [.int 0, .int 0, .int 0, .int 0, .int 0, .int 0, .int 0, .int 0, .int 0, .int 0, .int 0, .int 0, .int 0, .int 0, .int 0]))] : va_W)).set (u.2.2.2.2.length + 0) (q_75, .inr (10, [.int (u.1 10), .int (u.1 13), .int 0, .int 0, .int 0, .int 0, .int 0, .int 0, .int 0, .int 0, .int 0, .int 0, .int 0, .int 0, .int 0])) ++ [])) s0 H := by rw [hw_77] at hU; exact hU
                        rw [e9] at h; exact h
                      have hp_79 := hI.newV (q := q_75) (n := u.1 10) (t := u.1 13) (g_X11_visit_v9 u x y z a b c e r_73 hz8 hz9 hz10 hz12 b5_4 b16_8 b31_12 b41_16 b53_20 b65_24 c76_25 b81_69 c98_70 hw_72 c112_74) (g_X11_visit_v10 u x y z a b c e r_73 hz8 hz9 hz10 hz12 b5_4 b16_8 b31_12 b41_16 b53_20 b65_24 c76_25 b81_69 c98_70 hw_72 c112_74)
                      obtain ⟨u_78, hun_u_78⟩ : ∃ zz9 : qS, zz9 = qsX u (u.2.2.2.2 ++ [(q_75, .inr (10, [.int (u.1 10), .int (u.1 13), .int 0, .int 0, .int 0, .int 0, .int 0, .int 0, .int 0, .int 0, .int 0, .int 0, .int 0, .int 0, .int 0]))]) := ⟨_, rfl⟩
                      have hU : qH E A 0 u_78 s0 H := by rw [hun_u_78]; exact hU
                      have hp_79_f : qFc [] [] [] [] u u_78 := by rw [hun_u_78]; exact hp_79.1.2
                      have hI : IC E u_78 := by rw [hun_u_78]; exact hp_79.1.1
                      have hfo := hfr
                      have hfr : qFc [10, 18] [] [] [2, 3, 5000] u u_78 := hfr.trans (hp_79_f.mono (by decide) (by decide) (by decide) (by decide))
                      have e_80 : u_78.1 10 = (u.1 10) := (hp_79_f.1 10 (by decide)).trans rfl
                      have e_81 : u_78.1 18 = (u.1 18) := (hp_79_f.1 18 (by decide)).trans rfl
                      have hrn : qRn u_78 q_75 (u.1 10) := by rw [hun_u_78]; exact hp_79.2
                      have hr_82 : qRf u_78 q_75 10 := hrn.rf
                      have hdd : u_78.2.2.2.2[u.2.2.2.2.length]? = some (q_75, .inr (10, [.int (u.1 10), .int (u.1 13), .int 0, .int 0, .int 0, .int 0, .int 0, .int 0, .int 0, .int 0, .int 0, .int 0, .int 0, .int 0, .int 0])) := by rw [hun_u_78]; show (u.2.2.2.2 ++ _)[_]? = _; rw [List.getElem?_append_right (Nat.le_refl _), Nat.sub_self]; rfl
                      have hok : ∀ k9 : Nat, k9 < u.2.2.2.2.length → u_78.2.2.2.2[k9]? = u.2.2.2.2[k9]? := fun k9 h9 => by rw [hun_u_78]; exact List.getElem?_append_left h9
                      have hx2 : qxr u_78 2 = qxr u 2 := by rw [hun_u_78]; rfl
                      refine lv_astore (lv' := [(8, .ref q_75), (0, .ref (E.2.2 1199)), (1, .int x), (2, .int y), (3, .int z), (4, .int a), (5, .int b), (6, .int c), (7, .int e)]) hF.1 hF.2.1 dX11_visit_138 hl (by decide) rfl (fun ls hl => ?_)
                      refine lv_aload hF.1 hF.2.1 dX11_visit_140 (lv_at hl 0 rfl) ?_
                      refine lv_iload_n hF.1 hF.2.1 dX11_visit_142 rfl (lv_at hl 2 rfl) ?_
                      refine lv_iload_n hF.1 hF.2.1 dX11_visit_143 rfl (lv_at hl 3 rfl) ?_
                      refine lv_iload_n hF.1 hF.2.1 dX11_visit_144 rfl (lv_at hl 4 rfl) ?_
                      refine lv_iload hF.1 hF.2.1 dX11_visit_145 (lv_at hl 5 rfl) ?_
                      refine lv_iload hF.1 hF.2.1 dX11_visit_147 (lv_at hl 6 rfl) ?_
                      have hM9 := g_X10_goes l E A u_78 q_75 x y z a b (u.2.2.2.2.length) ([.int (u.1 10), .int (u.1 13), .int 0, .int 0, .int 0, .int 0, .int 0, .int 0, .int 0, .int 0, .int 0, .int 0, .int 0, .int 0, .int 0]) hI hr_82 (by rw [(hfr.1 8 (by decide))]; exact (g_X11_visit_v11 u x y z a b c e r_73 hz8 hz9 hz10 hz12 b5_4 b16_8 b31_12 b41_16 b53_20 b65_24 c76_25 b81_69 c98_70 hw_72 c112_74)) (by rw [(hfr.1 9 (by decide))]; exact (g_X11_visit_v12 u x y z a b c e r_73 hz8 hz9 hz10 hz12 b5_4 b16_8 b31_12 b41_16 b53_20 b65_24 c76_25 b81_69 c98_70 hw_72 c112_74)) hdd
                      obtain ⟨k_83, fs_84, hd_85⟩ := id (hr_82)
                      have hR9 := q_runVd (l := l) (e := e0) (below := bl0) (meth := me0) (R := qR 2 1 15) (cells := 1) (slots := 15) (st0 := [.int b, .int a, .int z, .int y, .int x, .ref q_75]) (rest := []) hF hU hS hA 5 k_83 10 hd_85 rfl hM9 w_663 w_664 w_665 w_110 w_666 (by decide +kernel) ⟨Nat.le_of_ble_eq_true rfl, Nat.le_of_ble_eq_true rfl⟩ dX11_visit_149 rfl hl.1 rfl (Nat.le_of_ble_eq_true rfl) ⟨Nat.le_of_ble_eq_true rfl, Nat.le_of_ble_eq_true rfl⟩
                      refine q_callv hR9 hU.2.2.2 hS (fun u_86 H locs hw_87 hU hS => ?_)
                      obtain ⟨⟨hw_87_f, hI⟩, hw_87⟩ := hw_87
                      have hfo := hfr
                      have hfr : qFc [10, 18] [] [] [2, 3, 5000] u u_86 := hfr.trans (hw_87_f.mono (by decide) (by decide) (by decide) (by decide))
                      have e_89 : u_86.1 10 = (u.1 10) := (hw_87_f.1 10 (by decide)).trans e_80
                      have e_90 : u_86.1 18 = (u.1 18) := (hw_87_f.1 18 (by decide)).trans e_81
                      have hr_91 : qRf u_86 q_75 10 := hw_87_f.r _ _ hr_82
                      have hrn := hw_87_f.n _ _ hrn
                      have hw_87 : u_86.2.2.2.2[((u.2.2.2.2.length))]? = some (q_75, .inr (10, ((((((([.int (u.1 10), .int (u.1 13), .int 0, .int 0, .int 0, .int 0, .int 0, .int 0, .int 0, .int 0, .int 0, .int 0, .int 0, .int 0, .int 0]))).set 2 (.int (x))).set 3 (.int (y))).set 4 (.int (z))).set 5 (.int (a))).set 6 (.int (b)))) ∧ ∀ k9 : Nat, ((u.2.2.2.2.length)) ≠ k9 → u_86.2.2.2.2[k9]? = u_78.2.2.2.2[k9]? := hw_87
                      have hdd := hw_87.1
                      have hok : ∀ k9 : Nat, k9 < u.2.2.2.2.length → u_86.2.2.2.2[k9]? = u.2.2.2.2[k9]? := fun k9 h9 => (hw_87.2 k9 (by omega)).trans (hok k9 h9)
                      have hx2 : qxr u_86 2 = qxr u 2 := (hw_87_f.2.2.2.1 2 (by decide)).trans hx2
                      refine lv_aload hF.1 hF.2.1 dX11_visit_152 (lv_at hl 0 rfl) ?_
                      refine lv_iload hF.1 hF.2.1 dX11_visit_154 (lv_at hl 7 rfl) ?_
                      refine lv_iload hF.1 hF.2.1 dX11_visit_156 (lv_at hl 8 rfl) ?_
                      have hM9 := g_X10_tells l E A u_86 q_75 c e (u.2.2.2.2.length) (((((([.int (u.1 10), .int (u.1 13), .int 0, .int 0, .int 0, .int 0, .int 0, .int 0, .int 0, .int 0, .int 0, .int 0, .int 0, .int 0, .int 0]).set 2 (.int (x))).set 3 (.int (y))).set 4 (.int (z))).set 5 (.int (a))).set 6 (.int (b))) hI hr_91 hdd
                      obtain ⟨k_92, fs_93, hd_94⟩ := id (hr_91)
                      have hR9 := q_runVd (l := l) (e := e0) (below := bl0) (meth := me0) (R := qR 2 1 15) (cells := 1) (slots := 15) (st0 := [.int e, .int c, .ref q_75]) (rest := []) hF hU hS hA 2 k_92 10 hd_94 rfl hM9 w_667 w_668 w_669 w_110 w_670 (by decide +kernel) ⟨Nat.le_of_ble_eq_true rfl, Nat.le_of_ble_eq_true rfl⟩ dX11_visit_158 rfl hl.1 rfl (Nat.le_of_ble_eq_true rfl) ⟨Nat.le_of_ble_eq_true rfl, Nat.le_of_ble_eq_true rfl⟩
                      refine q_callv hR9 hU.2.2.2 hS (fun u_95 H locs hw_96 hU hS => ?_)
                      obtain ⟨⟨hw_96_f, hI⟩, hw_96⟩ := hw_96
                      have hfo := hfr
                      have hfr : qFc [10, 18] [] [] [2, 3, 5000] u u_95 := hfr.trans (hw_96_f.mono (by decide) (by decide) (by decide) (by decide))
                      have e_98 : u_95.1 10 = (u.1 10) := (hw_96_f.1 10 (by decide)).trans e_89
                      have e_99 : u_95.1 18 = (u.1 18) := (hw_96_f.1 18 (by decide)).trans e_90
                      have hr_100 : qRf u_95 q_75 10 := hw_96_f.r _ _ hr_91
                      have hrn := hw_96_f.n _ _ hrn
                      have hw_96 : u_95.2.2.2.2[((u.2.2.2.2.length))]? = some (q_75, .inr (10, (((((((((([.int (u.1 10), .int (u.1 13), .int 0, .int 0, .int 0, .int 0, .int 0, .int 0, .int 0, .int 0, .int 0, .int 0, .int 0, .int 0, .int 0]).set 2 (.int (x))).set 3 (.int (y))).set 4 (.int (z))).set 5 (.int (a))).set 6 (.int (b))))).set 7 (.int (c))).set 9 (.int (c))).set 8 (.int (e)))) ∧ ∀ k9 : Nat, ((u.2.2.2.2.length)) ≠ k9 → u_95.2.2.2.2[k9]? = u_86.2.2.2.2[k9]? := hw_96
                      have hdd := hw_96.1
                      have hok : ∀ k9 : Nat, k9 < u.2.2.2.2.length → u_95.2.2.2.2[k9]? = u.2.2.2.2[k9]? := fun k9 h9 => (hw_96.2 k9 (by omega)).trans (hok k9 h9)
                      have hx2 : qxr u_95 2 = qxr u 2 := (hw_96_f.2.2.2.1 2 (by decide)).trans hx2
                      refine lv_aload_n hF.1 hF.2.1 dX11_visit_161 rfl (lv_at hl 1 rfl) ?_
                      refine q_get (v := .ref (E.2.2 99)) hF hU dX11_visit_162 0 11 0 1100 1199 rfl rfl rfl rfl inX11 (by decide) (by decide) w_436 rfl rfl ?_
                      refine lv_aload hF.1 hF.2.1 dX11_visit_165 (lv_at hl 0 rfl) ?_
                      have hM9 := g_X0_keepVisit l E A u_95 q_75 hI hr_100 (by rw [show u_95.1 10 = u.1 10 from e_98]; exact hrn) (by rw [show (u_95).1 10 = (u.1 10) from e_98]; exact (g_X11_visit_v13 u x y z a b c e r_73 hz8 hz9 hz10 hz12 b5_4 b16_8 b31_12 b41_16 b53_20 b65_24 c76_25 b81_69 c98_70 hw_72 c112_74))
                      have hR9 := q_runV (l := l) (e := e0) (below := bl0) (meth := me0) (R := qR 2 1 15) (cells := 1) (slots := 15) (st0 := [.ref q_75, .ref (E.2.2 99)]) (rest := []) hF hU hS hA 1 1 0 99 rfl rfl rfl hM9 w_671 w_672 w_673 w_100 w_674 (by decide +kernel) ⟨Nat.le_of_ble_eq_true rfl, Nat.le_of_ble_eq_true rfl⟩ dX11_visit_167 rfl hl.1 rfl (Nat.le_of_ble_eq_true rfl) ⟨Nat.le_of_ble_eq_true rfl, Nat.le_of_ble_eq_true rfl⟩
                      refine q_callv hR9 hU.2.2.2 hS (fun u_101 H locs hw_102 hU hS => ?_)
                      obtain ⟨⟨hw_102_f, hI, hw_102_d⟩, hw_102⟩ := hw_102
                      have hfo := hfr
                      have hfr : qFc [10, 18] [] [] [2, 3, 5000] u u_101 := hfr.trans (hw_102_f.mono (by decide) (by decide) (by decide) (by decide))
                      have hr_104 : qRf u_101 q_75 10 := hw_102_f.r _ _ hr_100
                      have hrn := hw_102_f.n _ _ hrn
                      have hw_102 : u_101.1 10 = (u.1 10 : Int32) + 1 ∧ qxr u_101 2 = va_up (qxr u_95 2) ((u.1 10 : Int32)).toNatClampNeg (some q_75) := by rw [show (u_95).1 10 = (u.1 10) from e_98] at hw_102; exact hw_102
                      have hVn : qVn u u_101 x y z a b c e := ⟨q_75, hw_102.2.trans (by rw [hx2]), by rw [hw_102_d]; exact hdd, fun k9 h9 => by rw [hw_102_d]; exact hok k9 h9⟩
                      have hnum : qfd u_95.2.2.2.2 q_75 0 = u.1 10 := qfd_at (D := u_95.2.2.2.2) (by have z := q_di hU; rw [hw_102_d] at z; exact z) hdd rfl
                      refine lv_aload hF.1 hF.2.1 dX11_visit_170 (lv_at hl 0 rfl) ?_
                      obtain ⟨k_105, fs_106, hd_108, hv_109, hv_109_2, hv_109_3, -⟩ := hI.vf hr_104 0 (by decide)
                      rw [show u_101.2.2.2.2 = u_95.2.2.2.2 from hw_102_d] at hv_109 hv_109_2 hv_109_3
                      refine q_getd (v := .int (qfd u_95.2.2.2.2 q_75 0)) hF hU dX11_visit_172 k_105 10 0 hd_108 rfl inX10 (by decide) w_584 rfl hv_109 ?_
                      exact q_iret hF hr rfl hlocks hU hS dX11_visit_175 ⟨⟨hfr, hI⟩, (g_X11_visit_v14 u x y z a b c e r_73 u_95 u_101 q_75 hz8 hz9 hz10 hz12 b5_4 b16_8 b31_12 b41_16 b53_20 b65_24 c76_25 b81_69 c98_70 hw_72 c112_74 hw_102 hVn hnum)⟩
                    · refine lv_iconst (v := (-1)) hF.1 hF.2.1 dX11_visit_115 (by decide) ?_
                      refine W.widen (k := 1) (n := 15) (by decide) (by decide) ?_
                      exact q_iret hF hr rfl hlocks hU hS dX11_visit_116 ⟨⟨hfr, hI⟩, (g_X11_visit_v15 u x y z a b c e r_73 hz8 hz9 hz10 hz12 b5_4 b16_8 b31_12 b41_16 b53_20 b65_24 c76_25 b81_69 c98_70 hw_72 c112_74)⟩
                · refine lv_if_ne (tgt := 89) hF.1 hF.2.1 dX11_visit_84 (by decide) (fun h9 => absurd (by decide) h9) (fun _ => ?_)
                  refine lv_iconst (v := (-1)) hF.1 hF.2.1 dX11_visit_87 (by decide) ?_
                  refine W.widen (k := 1) (n := 15) (by decide) (by decide) ?_
                  exact q_iret hF hr rfl hlocks hU hS dX11_visit_88 ⟨⟨hfr, hI⟩, (g_X11_visit_v16 u x y z a b c e hz8 hz9 hz10 hz12 b5_4 b16_8 b31_12 b41_16 b53_20 b65_24 c76_25 b81_69)⟩
            · refine lv_if_ne (tgt := 73) hF.1 hF.2.1 dX11_visit_68 (by decide) (fun h9 => absurd (by decide) h9) (fun _ => ?_)
              refine lv_iconst (v := (-1)) hF.1 hF.2.1 dX11_visit_71 (by decide) ?_
              refine W.widen (k := 1) (n := 15) (by decide) (by decide) ?_
              exact q_iret hF hr rfl hlocks hU hS dX11_visit_72 ⟨⟨hfr, hI⟩, (g_X11_visit_v17 u x y z a b c e hz8 hz9 hz10 hz12 b5_4 b16_8 b31_12 b41_16 b53_20 b65_24)⟩
          · refine lv_if_eq (tgt := 71) hF.1 hF.2.1 dX11_visit_56 (by decide) (fun _ => ?_) (fun h9 => absurd (by decide) h9)
            refine lv_iconst (v := (-1)) hF.1 hF.2.1 dX11_visit_71 (by decide) ?_
            refine W.widen (k := 1) (n := 15) (by decide) (by decide) ?_
            exact q_iret hF hr rfl hlocks hU hS dX11_visit_72 ⟨⟨hfr, hI⟩, (g_X11_visit_v18 u x y z a b c e hz8 hz9 hz10 hz12 b5_4 b16_8 b31_12 b41_16 b53_20)⟩
        · refine lv_if_eq (tgt := 71) hF.1 hF.2.1 dX11_visit_44 (by decide) (fun _ => ?_) (fun h9 => absurd (by decide) h9)
          refine lv_iconst (v := (-1)) hF.1 hF.2.1 dX11_visit_71 (by decide) ?_
          refine W.widen (k := 1) (n := 15) (by decide) (by decide) ?_
          exact q_iret hF hr rfl hlocks hU hS dX11_visit_72 ⟨⟨hfr, hI⟩, (g_X11_visit_v19 u x y z a b c e hz8 hz9 hz10 hz12 b5_4 b16_8 b31_12 b41_16)⟩
      · refine lv_if_ne (tgt := 39) hF.1 hF.2.1 dX11_visit_34 (by decide) (fun h9 => absurd (by decide) h9) (fun _ => ?_)
        refine lv_iconst (v := (-1)) hF.1 hF.2.1 dX11_visit_37 (by decide) ?_
        refine W.widen (k := 1) (n := 15) (by decide) (by decide) ?_
        exact q_iret hF hr rfl hlocks hU hS dX11_visit_38 ⟨⟨hfr, hI⟩, (g_X11_visit_v20 u x y z a b c e hz8 hz9 hz10 hz12 b5_4 b16_8 b31_12)⟩
    · refine lv_if_eq (tgt := 37) hF.1 hF.2.1 dX11_visit_19 (by decide) (fun _ => ?_) (fun h9 => absurd (by decide) h9)
      refine lv_iconst (v := (-1)) hF.1 hF.2.1 dX11_visit_37 (by decide) ?_
      refine W.widen (k := 1) (n := 15) (by decide) (by decide) ?_
      exact q_iret hF hr rfl hlocks hU hS dX11_visit_38 ⟨⟨hfr, hI⟩, (g_X11_visit_v21 u x y z a b c e hz8 hz9 hz10 hz12 b5_4 b16_8)⟩
  · refine lv_if_eq (tgt := 37) hF.1 hF.2.1 dX11_visit_8 (by decide) (fun _ => ?_) (fun h9 => absurd (by decide) h9)
    refine lv_iconst (v := (-1)) hF.1 hF.2.1 dX11_visit_37 (by decide) ?_
    refine W.widen (k := 1) (n := 15) (by decide) (by decide) ?_
    exact q_iret hF hr rfl hlocks hU hS dX11_visit_38 ⟨⟨hfr, hI⟩, (g_X11_visit_v22 u x y z a b c e hz8 hz9 hz10 hz12 b5_4)⟩
set_option maxRecDepth 100000 in
theorem g_X11_brief_v0 (u : qS) (x : Int32) (y : Int32) (u_10 : qS) (r_12 : Int32) (hz8 : 0 ≤ u.1 8 ∧ u.1 8 ≤ 20) (hz9 : 0 ≤ u.1 9 ∧ u.1 9 ≤ 8) (hz10 : 0 ≤ u.1 10 ∧ u.1 10 ≤ 120) (hz12 : 0 ≤ u.1 12 ∧ u.1 12 ≤ 16) (hz801 : 0 ≤ u.1 801 ∧ u.1 801 ≤ 1000) (b1_4 : 0 ≤ x ∧ x ≤ 3) (b8_8 : 0 ≤ y ∧ y ≤ 9999) (c23_9 : (u.1 12 : Int32) < 16) (hp_16 : (0 ≤ (u_10.1 806).toInt ∧ (u_10.1 806).toInt ≤ (u.1 801).toInt)) (hp_17 : (0 ≤ (u_10.1 504).toInt ∧ (u_10.1 504).toInt ≤ 1000)) (hp_18 : (0 ≤ (u_10.1 503).toInt ∧ (u_10.1 503).toInt ≤ 8)) (c53_19 : ¬ (r_12 : Int32) = 0) : (0 : Int32) = 0 := by
  rfl
set_option maxRecDepth 100000 in
theorem g_X11_brief_v1 (u : qS) (x : Int32) (y : Int32) (u_10 : qS) (r_12 : Int32) (hz8 : 0 ≤ u.1 8 ∧ u.1 8 ≤ 20) (hz9 : 0 ≤ u.1 9 ∧ u.1 9 ≤ 8) (hz10 : 0 ≤ u.1 10 ∧ u.1 10 ≤ 120) (hz12 : 0 ≤ u.1 12 ∧ u.1 12 ≤ 16) (hz801 : 0 ≤ u.1 801 ∧ u.1 801 ≤ 1000) (b1_4 : 0 ≤ x ∧ x ≤ 3) (b8_8 : 0 ≤ y ∧ y ≤ 9999) (c23_9 : (u.1 12 : Int32) < 16) (hp_16 : (0 ≤ (u_10.1 806).toInt ∧ (u_10.1 806).toInt ≤ (u.1 801).toInt)) (hp_17 : (0 ≤ (u_10.1 504).toInt ∧ (u_10.1 504).toInt ≤ 1000)) (hp_18 : (0 ≤ (u_10.1 503).toInt ∧ (u_10.1 503).toInt ≤ 8)) (c53_19 : (r_12 : Int32) = 0) : 0 ≤ (u_10.1 504).toInt ∧ (u_10.1 504).toInt ≤ 1000 := by
  first | omega | ((try simp only [g_m1, Int32.lt_iff_toInt_lt, Int32.le_iff_toInt_le, ← Int32.toInt_inj, Int32.reduceToInt] at *); omega) | ((try simp only [g_m1, Int32.lt_iff_toInt_lt, Int32.le_iff_toInt_le, ← Int32.toInt_inj, Int32.reduceToInt] at *); omega) | ((try simp only [g_m1, Int32.lt_iff_toInt_lt, Int32.le_iff_toInt_le, ← Int32.toInt_inj, Int32.toInt_add, Int32.toInt_sub, Int32.toInt_mul, Int32.toInt_neg, Int32.reduceToInt, g_bm, g_bm'] at *); omega) | (have qr1 := g_rng x; have qr2 := g_rng y; have qr4 := g_rng r_12; (try simp only [g_m1, Int32.lt_iff_toInt_lt, Int32.le_iff_toInt_le, ← Int32.toInt_inj, Int32.toInt_add, Int32.toInt_sub, Int32.toInt_mul, Int32.toInt_neg, Int32.reduceToInt, g_bm, g_bm'] at *); omega) | (simp only [g_m1, Int32.lt_iff_toInt_lt, Int32.le_iff_toInt_le, ← Int32.toInt_inj, Int32.toInt_add, Int32.toInt_sub, Int32.toInt_mul, Int32.toInt_neg, Int32.reduceToInt, g_bm, g_bm'] at *; simp at *; omega) | (simp_all; done)
set_option maxRecDepth 100000 in
theorem g_X11_brief_v2 (u : qS) (x : Int32) (y : Int32) (u_10 : qS) (r_12 : Int32) (hz8 : 0 ≤ u.1 8 ∧ u.1 8 ≤ 20) (hz9 : 0 ≤ u.1 9 ∧ u.1 9 ≤ 8) (hz10 : 0 ≤ u.1 10 ∧ u.1 10 ≤ 120) (hz12 : 0 ≤ u.1 12 ∧ u.1 12 ≤ 16) (hz801 : 0 ≤ u.1 801 ∧ u.1 801 ≤ 1000) (b1_4 : 0 ≤ x ∧ x ≤ 3) (b8_8 : 0 ≤ y ∧ y ≤ 9999) (c23_9 : (u.1 12 : Int32) < 16) (hp_16 : (0 ≤ (u_10.1 806).toInt ∧ (u_10.1 806).toInt ≤ (u.1 801).toInt)) (hp_17 : (0 ≤ (u_10.1 504).toInt ∧ (u_10.1 504).toInt ≤ 1000)) (hp_18 : (0 ≤ (u_10.1 503).toInt ∧ (u_10.1 503).toInt ≤ 8)) (c53_19 : (r_12 : Int32) = 0) : (u_10.1 504).toNatClampNeg ≤ 1000 := by
  rw [g_clamp]; (try simp only [g_m1, Int32.lt_iff_toInt_lt, Int32.le_iff_toInt_le, ← Int32.toInt_inj, Int32.reduceToInt] at *); omega
set_option maxRecDepth 100000 in
theorem g_X11_brief_v3 (u : qS) (x : Int32) (y : Int32) (u_10 : qS) (r_12 : Int32) (hz8 : 0 ≤ u.1 8 ∧ u.1 8 ≤ 20) (hz9 : 0 ≤ u.1 9 ∧ u.1 9 ≤ 8) (hz10 : 0 ≤ u.1 10 ∧ u.1 10 ≤ 120) (hz12 : 0 ≤ u.1 12 ∧ u.1 12 ≤ 16) (hz801 : 0 ≤ u.1 801 ∧ u.1 801 ≤ 1000) (b1_4 : 0 ≤ x ∧ x ≤ 3) (b8_8 : 0 ≤ y ∧ y ≤ 9999) (c23_9 : (u.1 12 : Int32) < 16) (hp_16 : (0 ≤ (u_10.1 806).toInt ∧ (u_10.1 806).toInt ≤ (u.1 801).toInt)) (hp_17 : (0 ≤ (u_10.1 504).toInt ∧ (u_10.1 504).toInt ≤ 1000)) (hp_18 : (0 ≤ (u_10.1 503).toInt ∧ (u_10.1 503).toInt ≤ 8)) (c53_19 : (r_12 : Int32) = 0) : ((u.1 12 : Int32)).toInt < 16 := by
  first | omega | ((try simp only [g_m1, Int32.lt_iff_toInt_lt, Int32.le_iff_toInt_le, ← Int32.toInt_inj, Int32.reduceToInt] at *); omega) | ((try simp only [g_m1, Int32.lt_iff_toInt_lt, Int32.le_iff_toInt_le, ← Int32.toInt_inj, Int32.reduceToInt] at *); omega) | ((try simp only [g_m1, Int32.lt_iff_toInt_lt, Int32.le_iff_toInt_le, ← Int32.toInt_inj, Int32.toInt_add, Int32.toInt_sub, Int32.toInt_mul, Int32.toInt_neg, Int32.reduceToInt, g_bm, g_bm'] at *); omega) | (have qr1 := g_rng x; have qr2 := g_rng y; have qr4 := g_rng r_12; (try simp only [g_m1, Int32.lt_iff_toInt_lt, Int32.le_iff_toInt_le, ← Int32.toInt_inj, Int32.toInt_add, Int32.toInt_sub, Int32.toInt_mul, Int32.toInt_neg, Int32.reduceToInt, g_bm, g_bm'] at *); omega) | (simp only [g_m1, Int32.lt_iff_toInt_lt, Int32.le_iff_toInt_le, ← Int32.toInt_inj, Int32.toInt_add, Int32.toInt_sub, Int32.toInt_mul, Int32.toInt_neg, Int32.reduceToInt, g_bm, g_bm'] at *; simp at *; omega) | (simp_all; done)
set_option maxRecDepth 100000 in
theorem g_X11_brief_v4 (u : qS) (x : Int32) (y : Int32) (u_10 : qS) (r_12 : Int32) (hz8 : 0 ≤ u.1 8 ∧ u.1 8 ≤ 20) (hz9 : 0 ≤ u.1 9 ∧ u.1 9 ≤ 8) (hz10 : 0 ≤ u.1 10 ∧ u.1 10 ≤ 120) (hz12 : 0 ≤ u.1 12 ∧ u.1 12 ≤ 16) (hz801 : 0 ≤ u.1 801 ∧ u.1 801 ≤ 1000) (b1_4 : 0 ≤ x ∧ x ≤ 3) (b8_8 : 0 ≤ y ∧ y ≤ 9999) (c23_9 : (u.1 12 : Int32) < 16) (hp_16 : (0 ≤ (u_10.1 806).toInt ∧ (u_10.1 806).toInt ≤ (u.1 801).toInt)) (hp_17 : (0 ≤ (u_10.1 504).toInt ∧ (u_10.1 504).toInt ≤ 1000)) (hp_18 : (0 ≤ (u_10.1 503).toInt ∧ (u_10.1 503).toInt ≤ 8)) (c53_19 : (r_12 : Int32) = 0) : (0 : Int32) = 0 := by
  rfl
set_option maxRecDepth 100000 in
theorem g_X11_brief_v5 (u : qS) (x : Int32) (y : Int32) (hz8 : 0 ≤ u.1 8 ∧ u.1 8 ≤ 20) (hz9 : 0 ≤ u.1 9 ∧ u.1 9 ≤ 8) (hz10 : 0 ≤ u.1 10 ∧ u.1 10 ≤ 120) (hz12 : 0 ≤ u.1 12 ∧ u.1 12 ≤ 16) (hz801 : 0 ≤ u.1 801 ∧ u.1 801 ≤ 1000) (b1_4 : 0 ≤ x ∧ x ≤ 3) (b8_8 : 0 ≤ y ∧ y ≤ 9999) (c23_9 : ¬ (u.1 12 : Int32) < 16) : (0 : Int32) = 0 := by
  rfl
set_option maxRecDepth 100000 in
theorem g_X11_brief_v6 (u : qS) (x : Int32) (y : Int32) (hz8 : 0 ≤ u.1 8 ∧ u.1 8 ≤ 20) (hz9 : 0 ≤ u.1 9 ∧ u.1 9 ≤ 8) (hz10 : 0 ≤ u.1 10 ∧ u.1 10 ≤ 120) (hz12 : 0 ≤ u.1 12 ∧ u.1 12 ≤ 16) (hz801 : 0 ≤ u.1 801 ∧ u.1 801 ≤ 1000) (b1_4 : 0 ≤ x ∧ x ≤ 3) (b8_8 : ¬ (0 ≤ y ∧ y ≤ 9999)) : (0 : Int32) = 0 := by
  rfl
set_option maxRecDepth 100000 in
theorem g_X11_brief_v7 (u : qS) (x : Int32) (hz8 : 0 ≤ u.1 8 ∧ u.1 8 ≤ 20) (hz9 : 0 ≤ u.1 9 ∧ u.1 9 ≤ 8) (hz10 : 0 ≤ u.1 10 ∧ u.1 10 ≤ 120) (hz12 : 0 ≤ u.1 12 ∧ u.1 12 ≤ 16) (hz801 : 0 ≤ u.1 801 ∧ u.1 801 ≤ 1000) (b1_4 : ¬ (0 ≤ x ∧ x ≤ 3)) : (0 : Int32) = 0 := by
  rfl
set_option maxHeartbeats 1000000 in
set_option maxRecDepth 100000 in
theorem g_X11_brief (l : Launch) (E : qE) (A : Nat → Prop) (u : qS) (x : Int32) (y : Int32) (hI : IC E u) : Met l yX11_brief (uws yX11_brief cX11_brief 4 (some .int)) (qR 37 2 1004) (qPw E A 0 u [.ref (E.2.2 1199), .int x, .int y]) (qQi E A 0 (fun r u1 => (qFc [802, 803, 804, 806, 504, 505, 503, 801, 12, 18] [502] [805, 501] [4] u u1 ∧ IC E u1) ∧ (u1.1 801 = 0))) 2 1004 A := by
  refine q_metW (own := RX11) (f := 37) [.ref (E.2.2 1199), .int x, .int y] (by decide) (Nat.le_of_ble_eq_true rfl) rfl ?_
  intro p0 e0 s0 m0 bl0 me0 cd0 ls hF hr hlocks hZ hU hS hA hl
  have hl : lv_has ls 4 [(0, .ref (E.2.2 1199)), (1, .int x), (2, .int y)] := hl
  have hz8 : 0 ≤ u.1 8 ∧ u.1 8 ≤ 20 := hI.1.s8
  have hz9 : 0 ≤ u.1 9 ∧ u.1 9 ≤ 8 := hI.1.s9
  have hz10 : 0 ≤ u.1 10 ∧ u.1 10 ≤ 120 := hI.1.s10
  have hz12 : 0 ≤ u.1 12 ∧ u.1 12 ≤ 16 := hI.1.s12
  have hz801 : 0 ≤ u.1 801 ∧ u.1 801 ≤ 1000 := hI.1.s801
  have hfr : qFc [802, 803, 804, 806, 504, 505, 503, 801, 12, 18] [502] [805, 501] [4] u u := qFc.rf
  refine lv_iload_n hF.1 hF.2.1 dX11_brief_0 rfl (lv_at hl 1 rfl) ?_
  have hM9 := g_X11_isChain l E A u x
  have hR9 := q_runS (l := l) (e := e0) (below := bl0) (meth := me0) (R := qR 37 2 1004) (cells := 0) (slots := 0) (st0 := [.int x]) (rest := []) hF hU hS hA 1 hM9 w_494 w_495 w_99 w_496 (by decide +kernel) ⟨Nat.le_of_ble_eq_true rfl, Nat.le_of_ble_eq_true rfl⟩ dX11_brief_1 rfl hl.1 rfl (Nat.le_of_ble_eq_true rfl) ⟨Nat.le_of_ble_eq_true rfl, Nat.le_of_ble_eq_true rfl⟩
  refine q_calli hR9 hU.2.2.2 hS (fun r_3 u_1 H locs hw_2 hU hS => ?_)
  obtain ⟨hw_2_e, hw_2⟩ := hw_2
  rw [hw_2_e] at hU
  have hw_2 : (r_3 = 1 ∧ (0 ≤ x ∧ x ≤ 3)) ∨ (r_3 = 0 ∧ (¬ (0 ≤ x ∧ x ≤ 3))) := hw_2
  rcases hw_2 with ⟨rfl, b1_4⟩ | ⟨rfl, b1_4⟩
  · refine lv_if_eq (tgt := 26) hF.1 hF.2.1 dX11_brief_4 (by decide) (fun h9 => absurd h9 (by decide)) (fun _ => ?_)
    refine lv_iload_n hF.1 hF.2.1 dX11_brief_7 rfl (lv_at hl 2 rfl) ?_
    have hM9 := g_X11_isDay l E A u y
    have hR9 := q_runS (l := l) (e := e0) (below := bl0) (meth := me0) (R := qR 37 2 1004) (cells := 0) (slots := 0) (st0 := [.int y]) (rest := []) hF hU hS hA 1 hM9 w_699 w_700 w_99 w_701 (by decide +kernel) ⟨Nat.le_of_ble_eq_true rfl, Nat.le_of_ble_eq_true rfl⟩ dX11_brief_8 rfl hl.1 rfl (Nat.le_of_ble_eq_true rfl) ⟨Nat.le_of_ble_eq_true rfl, Nat.le_of_ble_eq_true rfl⟩
    refine q_calli hR9 hU.2.2.2 hS (fun r_7 u_5 H locs hw_6 hU hS => ?_)
    obtain ⟨hw_6_e, hw_6⟩ := hw_6
    rw [hw_6_e] at hU
    have hw_6 : (r_7 = 1 ∧ (0 ≤ y ∧ y ≤ 9999)) ∨ (r_7 = 0 ∧ (¬ (0 ≤ y ∧ y ≤ 9999))) := hw_6
    rcases hw_6 with ⟨rfl, b8_8⟩ | ⟨rfl, b8_8⟩
    · refine lv_if_eq (tgt := 26) hF.1 hF.2.1 dX11_brief_11 (by decide) (fun h9 => absurd h9 (by decide)) (fun _ => ?_)
      refine lv_aload_n hF.1 hF.2.1 dX11_brief_14 rfl (lv_at hl 0 rfl) ?_
      refine q_get (v := .ref (E.2.2 99)) hF hU dX11_brief_15 0 11 0 1100 1199 rfl rfl rfl rfl inX11 (by decide) (by decide) w_436 rfl rfl ?_
      refine q_get (v := .int (u.1 12)) hF hU dX11_brief_18 1 0 12 12 99 rfl rfl rfl rfl inX0 (by decide) (by decide) w_176 rfl rfl ?_
      refine lv_bipush (v := 16) hF.1 hF.2.1 dX11_brief_21 (by decide) ?_
      refine lv_icmp_lt (tgt := 36) hF.1 hF.2.1 dX11_brief_23 (by decide) (fun c23_9 => ?_) (fun c23_9 => ?_)
      · refine lv_aload_n hF.1 hF.2.1 dX11_brief_36 rfl (lv_at hl 0 rfl) ?_
        refine q_get (v := .ref (E.2.2 599)) hF hU dX11_brief_37 0 11 2 1102 1199 rfl rfl rfl rfl inX11 (by decide) (by decide) w_438 rfl rfl ?_
        have hM9 := g_X5_readBrief l E A u  hI
        have hR9 := q_runVW (l := l) (e := e0) (below := bl0) (meth := me0) (R := qR 37 2 1004) (cells := 0) (slots := 0) (st0 := [.ref (E.2.2 599)]) (rest := []) hF hU hS hA hZ 0 3 5 599 rfl rfl rfl hM9 w_702 w_703 w_704 w_102 w_705 (by decide +kernel) ⟨Nat.le_of_ble_eq_true rfl, Nat.le_of_ble_eq_true rfl⟩ dX11_brief_40 rfl hl.1 rfl (Nat.le_of_ble_eq_true rfl) ⟨Nat.le_of_ble_eq_true rfl, Nat.le_of_ble_eq_true rfl⟩
        refine q_calli hR9 hU.2.2.2 hS (fun r_12 u_10 H locs hw_11 hU hS => ?_)
        obtain ⟨⟨hw_11_f, hI, hw_11_d⟩, hw_11⟩ := hw_11
        have hfo := hfr
        have hfr : qFc [802, 803, 804, 806, 504, 505, 503, 801, 12, 18] [502] [805, 501] [4] u u_10 := hfr.trans (hw_11_f.mono (by decide) (by decide) (by decide) (by decide))
        have e_13 : u_10.1 12 = (u.1 12) := (hw_11_f.1 12 (by decide)).trans rfl
        have e_14 : u_10.1 18 = (u.1 18) := (hw_11_f.1 18 (by decide)).trans rfl
        have e_15 : u_10.1 801 = (u.1 801) := (hw_11_f.1 801 (by decide)).trans rfl
        have hw_11 : (0 ≤ (u_10.1 806).toInt ∧ (u_10.1 806).toInt ≤ (u.1 801).toInt) ∧ (0 ≤ (u_10.1 504).toInt ∧ (u_10.1 504).toInt ≤ 1000) ∧ (0 ≤ (u_10.1 503).toInt ∧ (u_10.1 503).toInt ≤ 8) := hw_11
        have hp_16 : (0 ≤ (u_10.1 806).toInt ∧ (u_10.1 806).toInt ≤ (u.1 801).toInt) := hw_11.1
        have hp_17 : (0 ≤ (u_10.1 504).toInt ∧ (u_10.1 504).toInt ≤ 1000) := hw_11.2.1
        have hp_18 : (0 ≤ (u_10.1 503).toInt ∧ (u_10.1 503).toInt ≤ 8) := hw_11.2.2
        refine lv_istore_n (lv' := [(3, .int r_12), (0, .ref (E.2.2 1199)), (1, .int x), (2, .int y)]) hF.1 hF.2.1 dX11_brief_43 rfl hl (by decide) rfl (fun ls hl => ?_)
        refine lv_aload_n hF.1 hF.2.1 dX11_brief_44 rfl (lv_at hl 1 rfl) ?_
        refine q_get (v := .ref (E.2.2 899)) hF hU dX11_brief_45 0 11 1 1101 1199 rfl rfl rfl rfl inX11 (by decide) (by decide) w_437 rfl rfl ?_
        refine lv_iconst (v := 0) hF.1 hF.2.1 dX11_brief_48 (by decide) ?_
        refine q_put hF hU hS dX11_brief_49 2 8 1 801 899 rfl rfl rfl rfl inX8 tyX8 tyX8_ok nmX8 (by decide) (by decide) rfl w_240 rfl rfl rfl rfl (fun H locs hU hS => ?_)
        have hfr : qFc [802, 803, 804, 806, 504, 505, 503, 801, 12, 18] [502] [805, 501] [4] u (qsI u_10 801 0) := hfr.setI (by decide) (fun q => absurd q (by decide))
        have hI : IC E (qsI u_10 801 0) := hI.s801 (by decide)
        refine lv_iload_n hF.1 hF.2.1 dX11_brief_52 rfl (lv_at hl 0 rfl) ?_
        refine lv_if_ne (tgt := 86) hF.1 hF.2.1 dX11_brief_53 (by decide) (fun c53_19 => ?_) (fun c53_19 => ?_)
        · refine lv_iload_n hF.1 hF.2.1 dX11_brief_86 rfl (lv_at hl 0 rfl) ?_
          refine W.widen (k := 2) (n := 1004) (by decide) (by decide) ?_
          exact q_iret hF hr rfl hlocks hU hS dX11_brief_87 ⟨⟨hfr, hI⟩, (g_X11_brief_v0 u x y u_10 r_12 hz8 hz9 hz10 hz12 hz801 b1_4 b8_8 c23_9 hp_16 hp_17 hp_18 c53_19)⟩
        · refine lv_aload_n hF.1 hF.2.1 dX11_brief_56 rfl (lv_at hl 1 rfl) ?_
          refine q_get (v := .ref (E.2.2 99)) hF hU dX11_brief_57 0 11 0 1100 1199 rfl rfl rfl rfl inX11 (by decide) (by decide) w_436 rfl rfl ?_
          refine q_new hF hU hS hA dX11_brief_60 1 rfl inX1 tyX1 tyX1_ok w_792 w_793 w_111 [.int 0, .int 0, .int 0, .null] (by decide) (Nat.le_of_ble_eq_true rfl) (Nat.le_of_ble_eq_true rfl) (fun q_20 H hU hS => ?_)
          have hU : qH E A 0 (qsX (qsI u_10 801 0) (u_10.2.2.2.2 ++ [(q_20, .inr (1, [.int 0, .int 0, .int 0, .null]))])) s0 H := hU
          refine lv_dup hF.1 hF.2.1 dX11_brief_63 rfl ?_
          refine lv_iload_n hF.1 hF.2.1 dX11_brief_64 rfl (lv_at hl 2 rfl) ?_
          refine lv_iload_n hF.1 hF.2.1 dX11_brief_65 rfl (lv_at hl 3 rfl) ?_
          refine lv_aload_n hF.1 hF.2.1 dX11_brief_66 rfl (lv_at hl 1 rfl) ?_
          refine q_get (v := .ref (E.2.2 99)) hF hU dX11_brief_67 0 11 0 1100 1199 rfl rfl rfl rfl inX11 (by decide) (by decide) w_436 rfl rfl ?_
          refine q_get (v := .int (u.1 13)) hF hU dX11_brief_70 1 0 13 13 99 rfl rfl rfl rfl inX0 (by decide) (by decide) w_178 rfl (congrArg Value.int (hfr.1 13 (by decide))) ?_
          refine lv_aload_n hF.1 hF.2.1 dX11_brief_73 rfl (lv_at hl 1 rfl) ?_
          refine q_get (v := .ref (E.2.2 599)) hF hU dX11_brief_74 0 11 2 1102 1199 rfl rfl rfl rfl inX11 (by decide) (by decide) w_438 rfl rfl ?_
          have hM9 := g_X5_codeRead l E A (qsX (qsI u_10 801 0) (u_10.2.2.2.2 ++ [(q_20, .inr (1, [.int 0, .int 0, .int 0, .null]))])) (g_X11_brief_v1 u x y u_10 r_12 hz8 hz9 hz10 hz12 hz801 b1_4 b8_8 c23_9 hp_16 hp_17 hp_18 c53_19)
          have hR9 := q_runV (l := l) (e := e0) (below := bl0) (meth := me0) (R := qR 37 2 1004) (cells := 1) (slots := 4) (st0 := [.ref (E.2.2 599), .int (u.1 13), .int y, .int x, .ref q_20, .ref q_20, .ref (E.2.2 99)]) (rest := [.int (u.1 13), .int y, .int x, .ref q_20, .ref q_20, .ref (E.2.2 99)]) hF hU hS hA 0 3 5 599 rfl rfl rfl hM9 w_794 w_795 w_796 w_102 w_797 (by decide +kernel) ⟨Nat.le_of_ble_eq_true rfl, Nat.le_of_ble_eq_true rfl⟩ dX11_brief_77 rfl hl.1 rfl (Nat.le_of_ble_eq_true rfl) ⟨Nat.le_of_ble_eq_true rfl, Nat.le_of_ble_eq_true rfl⟩
          refine q_callr hR9 hU.2.2.2 hS (fun u_9 q_21 H locs hw_9 hU hS => ?_)
          obtain ⟨g_22, hw_9⟩ := hw_9
          rw [hw_9] at hU
          have e7 : (u_10.2.2.2.2 ++ ([(q_20, .inr (1, [.int 0, .int 0, .int 0, .null]))] : va_W)) ++ [(q_21, .inl (E.2.1 0, (u_10.1 504).toNatClampNeg, .inl g_22))] = u_10.2.2.2.2 ++ ([(q_20, .inr (1, [.int 0, .int 0, .int 0, .null])), (q_21, .inl (E.2.1 0, (u_10.1 504).toNatClampNeg, .inl g_22))] : va_W) := List.append_assoc _ _ _
          have hU : qH E A 0 (qsX (qsI u_10 801 0) (u_10.2.2.2.2 ++ [(q_20, .inr (1, [.int 0, .int 0, .int 0, .null])), (q_21, .inl (E.2.1 0, (u_10.1 504).toNatClampNeg, .inl g_22))])) s0 H := by
            have h : qH E A 0 (qsX (qsI u_10 801 0) ((u_10.2.2.2.2 ++ ([(q_20, .inr (1, [.int 0, .int 0, .int 0, .null]))] : va_W)) ++ [(q_21, .inl (E.2.1 0, (u_10.1 504).toNatClampNeg, .inl g_22))])) s0 H := hU
            rw [e7] at h; exact h
          have hd9 : (qsX (qsI u_10 801 0) (u_10.2.2.2.2 ++ [(q_20, .inr (1, [.int 0, .int 0, .int 0, .null])), (q_21, .inl (E.2.1 0, (u_10.1 504).toNatClampNeg, .inl g_22))])).2.2.2.2[u_10.2.2.2.2.length + 0]? = some (q_20, .inr (1, [.int 0, .int 0, .int 0, .null])) := q_cat (X := u_10.2.2.2.2) (C := [(q_20, .inr (1, [.int 0, .int 0, .int 0, .null])), (q_21, .inl (E.2.1 0, (u_10.1 504).toNatClampNeg, .inl g_22))]) (m := 0) rfl rfl
          have hM9 := (k_X1_init l E A 0 (qsX (qsI u_10 801 0) (u_10.2.2.2.2 ++ [(q_20, .inr (1, [.int 0, .int 0, .int 0, .null])), (q_21, .inl (E.2.1 0, (u_10.1 504).toNatClampNeg, .inl g_22))])) q_20 (u_10.2.2.2.2.length + 0) x y (u.1 13) q_21 hd9)
          have hR9 := q_runI (l := l) (e := e0) (below := bl0) (meth := me0) (R := qR 37 2 1004) (cells := 2) (slots := 1004) (st0 := [.ref q_21, .int (u.1 13), .int y, .int x, .ref q_20, .ref q_20, .ref (E.2.2 99)]) (rest := [.ref q_20, .ref (E.2.2 99)]) hF hU hS hA 4 hM9 w_814 w_815 w_111 w_816 rfl (by decide +kernel) ⟨Nat.le_of_ble_eq_true rfl, Nat.le_of_ble_eq_true rfl⟩ dX11_brief_80 rfl hl.1 rfl (Nat.le_of_ble_eq_true rfl) ⟨Nat.le_of_ble_eq_true rfl, Nat.le_of_ble_eq_true rfl⟩
          refine q_callv hR9 hU.2.2.2 hS (fun u_23 H locs hw_24 hU hS => ?_)
          have e9 : (u_10.2.2.2.2 ++ ([(q_20, .inr (1, [.int 0, .int 0, .int 0, .null])), (q_21, .inl (E.2.1 0, (u_10.1 504).toNatClampNeg, .inl g_22))] : va_W)).set (u_10.2.2.2.2.length + 0) (q_20, .inr (1, [.int x, .int y, .int (u.1 13), .ref q_21])) ++ [] = u_10.2.2.2.2 ++ (([(q_20, .inr (1, [.int x, .int y, .int (u.1 13), .ref q_21])), (q_21, .inl (E.2.1 0, (u_10.1 504).toNatClampNeg, .inl g_22))] : va_W) ++ []) := q_csub rfl rfl
          have e9 : (u_10.2.2.2.2 ++ ([(q_20, .inr (1, [.int 0, .int 0, .int 0, .null])), (q_21, .inl (E.2.1 0, (u_10.1 504).toNatClampNeg, .inl g_22))] : va_W)).set (u_10.2.2.2.2.length + 0) (q_20, .inr (1, [.int x, .int y, .int (u.1 13), .ref q_21])) ++ [] = u_10.2.2.2.2 ++ ([(q_20, .inr (1, [.int x, .int y, .int (u.1 13), .ref q_21])), (q_21, .inl (E.2.1 0, (u_10.1 504).toNatClampNeg, .inl g_22))] : va_W) := e9
          have hU : qH E A 0 (qsX (qsI u_10 801 0) (u_10.2.2.2.2 ++ [(q_20, .inr (1, [.int x, .int y, .int (u.1 13), .ref q_21])), (q_21, .inl (E.2.1 0, (u_10.1 504).toNatClampNeg, .inl g_22))])) s0 H := by
            have h : qH E A 0 (qsX (qsI u_10 801 0) ((u_10.2.2.2.2 ++ ([(q_20, .inr (1, [.int 0, .int 0, .int 0, .null])), (q_21, .inl (E.2.1 0, (u_10.1 504).toNatClampNeg, .inl g_22))] : va_W)).set (u_10.2.2.2.2.length + 0) (q_20, .inr (1, [.int x, .int y, .int (u.1 13), .ref q_21])) ++ [])) s0 H := by rw [hw_24] at hU; exact hU
            rw [e9] at h; exact h
          have hp_26 := hI.newB (q := q_20) (p := q_21) (x := x) (y := y) (z := u.1 13) (g := g_22) (g_X11_brief_v2 u x y u_10 r_12 hz8 hz9 hz10 hz12 hz801 b1_4 b8_8 c23_9 hp_16 hp_17 hp_18 c53_19)
          obtain ⟨u_25, hun_u_25⟩ : ∃ zz9 : qS, zz9 = qsX (qsI u_10 801 0) (u_10.2.2.2.2 ++ [(q_20, .inr (1, [.int x, .int y, .int (u.1 13), .ref q_21])), (q_21, .inl (E.2.1 0, (u_10.1 504).toNatClampNeg, .inl g_22))]) := ⟨_, rfl⟩
          have hU : qH E A 0 u_25 s0 H := by rw [hun_u_25]; exact hU
          have hp_26_f : qFc [] [] [] [] (qsI u_10 801 0) u_25 := by rw [hun_u_25]; exact hp_26.1.2
          have hI : IC E u_25 := by rw [hun_u_25]; exact hp_26.1.1
          have hfo := hfr
          have hfr : qFc [802, 803, 804, 806, 504, 505, 503, 801, 12, 18] [502] [805, 501] [4] u u_25 := hfr.trans (hp_26_f.mono (by decide) (by decide) (by decide) (by decide))
          have e_27 : u_25.1 12 = (u.1 12) := (hp_26_f.1 12 (by decide)).trans e_13
          have e_28 : u_25.1 18 = (u.1 18) := (hp_26_f.1 18 (by decide)).trans e_14
          have e_29 : u_25.1 503 = (u_10.1 503) := (hp_26_f.1 503 (by decide)).trans rfl
          have e_30 : u_25.1 504 = (u_10.1 504) := (hp_26_f.1 504 (by decide)).trans rfl
          have e_31 : u_25.1 505 = (u_10.1 505) := (hp_26_f.1 505 (by decide)).trans rfl
          have e_32 : u_25.1 801 = 0 := (hp_26_f.1 801 (by decide)).trans rfl
          have e_33 : u_25.1 802 = (u_10.1 802) := (hp_26_f.1 802 (by decide)).trans rfl
          have e_34 : u_25.1 803 = (u_10.1 803) := (hp_26_f.1 803 (by decide)).trans rfl
          have e_35 : u_25.1 804 = (u_10.1 804) := (hp_26_f.1 804 (by decide)).trans rfl
          have e_36 : u_25.1 806 = (u_10.1 806) := (hp_26_f.1 806 (by decide)).trans rfl
          have e_37 : u_25.2.1 502 = (u_10.2.1 502) := (hp_26_f.2.1 502 (by decide)).trans rfl
          have e_38 : u_25.2.2.1 501 = (u_10.2.2.1 501) := (hp_26_f.2.2.1 501 (by decide)).trans rfl
          have e_39 : u_25.2.2.1 805 = (u_10.2.2.1 805) := (hp_26_f.2.2.1 805 (by decide)).trans rfl
          have hr_40 : qRf u_25 q_20 1 := by rw [hun_u_25]; exact hp_26.2
          have hM9 := g_X0_keepBrief l E A u_25 q_20 hI hr_40 (by rw [show (u_25).1 12 = (u.1 12) from e_27]; exact (g_X11_brief_v3 u x y u_10 r_12 hz8 hz9 hz10 hz12 hz801 b1_4 b8_8 c23_9 hp_16 hp_17 hp_18 c53_19))
          have hR9 := q_runV (l := l) (e := e0) (below := bl0) (meth := me0) (R := qR 37 2 1004) (cells := 2) (slots := 1004) (st0 := [.ref q_20, .ref (E.2.2 99)]) (rest := []) hF hU hS hA 1 1 0 99 rfl rfl rfl hM9 w_835 w_836 w_837 w_100 w_838 (by decide +kernel) ⟨Nat.le_of_ble_eq_true rfl, Nat.le_of_ble_eq_true rfl⟩ dX11_brief_83 rfl hl.1 rfl (Nat.le_of_ble_eq_true rfl) ⟨Nat.le_of_ble_eq_true rfl, Nat.le_of_ble_eq_true rfl⟩
          refine q_callv hR9 hU.2.2.2 hS (fun u_41 H locs hw_42 hU hS => ?_)
          obtain ⟨⟨hw_42_f, hI⟩, hw_42⟩ := hw_42
          have hfo := hfr
          have hfr : qFc [802, 803, 804, 806, 504, 505, 503, 801, 12, 18] [502] [805, 501] [4] u u_41 := hfr.trans (hw_42_f.mono (by decide) (by decide) (by decide) (by decide))
          have e_44 : u_41.1 503 = (u_10.1 503) := (hw_42_f.1 503 (by decide)).trans e_29
          have e_45 : u_41.1 504 = (u_10.1 504) := (hw_42_f.1 504 (by decide)).trans e_30
          have e_46 : u_41.1 505 = (u_10.1 505) := (hw_42_f.1 505 (by decide)).trans e_31
          have e_47 : u_41.1 801 = 0 := (hw_42_f.1 801 (by decide)).trans e_32
          have e_48 : u_41.1 802 = (u_10.1 802) := (hw_42_f.1 802 (by decide)).trans e_33
          have e_49 : u_41.1 803 = (u_10.1 803) := (hw_42_f.1 803 (by decide)).trans e_34
          have e_50 : u_41.1 804 = (u_10.1 804) := (hw_42_f.1 804 (by decide)).trans e_35
          have e_51 : u_41.1 806 = (u_10.1 806) := (hw_42_f.1 806 (by decide)).trans e_36
          have e_52 : u_41.2.1 502 = (u_10.2.1 502) := (hw_42_f.2.1 502 (by decide)).trans e_37
          have e_53 : u_41.2.2.1 501 = (u_10.2.2.1 501) := (hw_42_f.2.2.1 501 (by decide)).trans e_38
          have e_54 : u_41.2.2.1 805 = (u_10.2.2.1 805) := (hw_42_f.2.2.1 805 (by decide)).trans e_39
          refine lv_iload_n hF.1 hF.2.1 dX11_brief_86 rfl (lv_at hl 0 rfl) ?_
          exact q_iret hF hr rfl hlocks hU hS dX11_brief_87 ⟨⟨hfr, hI⟩, by first | (rw [show (u_41).1 801 = 0 from e_47]; exact (g_X11_brief_v4 u x y u_10 r_12 hz8 hz9 hz10 hz12 hz801 b1_4 b8_8 c23_9 hp_16 hp_17 hp_18 c53_19)) | rw [show (u_41).1 801 = 0 from e_47]⟩
      · refine lv_aload_n hF.1 hF.2.1 dX11_brief_26 rfl (lv_at hl 0 rfl) ?_
        refine q_get (v := .ref (E.2.2 899)) hF hU dX11_brief_27 0 11 1 1101 1199 rfl rfl rfl rfl inX11 (by decide) (by decide) w_437 rfl rfl ?_
        refine lv_iconst (v := 0) hF.1 hF.2.1 dX11_brief_30 (by decide) ?_
        refine q_put hF hU hS dX11_brief_31 2 8 1 801 899 rfl rfl rfl rfl inX8 tyX8 tyX8_ok nmX8 (by decide) (by decide) rfl w_240 rfl rfl rfl rfl (fun H locs hU hS => ?_)
        have hfr : qFc [802, 803, 804, 806, 504, 505, 503, 801, 12, 18] [502] [805, 501] [4] u (qsI u 801 0) := hfr.setI (by decide) (fun q => absurd q (by decide))
        have hI : IC E (qsI u 801 0) := hI.s801 (by decide)
        refine lv_iconst (v := (-1)) hF.1 hF.2.1 dX11_brief_34 (by decide) ?_
        refine W.widen (k := 2) (n := 1004) (by decide) (by decide) ?_
        exact q_iret hF hr rfl hlocks hU hS dX11_brief_35 ⟨⟨hfr, hI⟩, (g_X11_brief_v5 u x y hz8 hz9 hz10 hz12 hz801 b1_4 b8_8 c23_9)⟩
    · refine lv_if_eq (tgt := 26) hF.1 hF.2.1 dX11_brief_11 (by decide) (fun _ => ?_) (fun h9 => absurd (by decide) h9)
      refine lv_aload_n hF.1 hF.2.1 dX11_brief_26 rfl (lv_at hl 0 rfl) ?_
      refine q_get (v := .ref (E.2.2 899)) hF hU dX11_brief_27 0 11 1 1101 1199 rfl rfl rfl rfl inX11 (by decide) (by decide) w_437 rfl rfl ?_
      refine lv_iconst (v := 0) hF.1 hF.2.1 dX11_brief_30 (by decide) ?_
      refine q_put hF hU hS dX11_brief_31 2 8 1 801 899 rfl rfl rfl rfl inX8 tyX8 tyX8_ok nmX8 (by decide) (by decide) rfl w_240 rfl rfl rfl rfl (fun H locs hU hS => ?_)
      have hfr : qFc [802, 803, 804, 806, 504, 505, 503, 801, 12, 18] [502] [805, 501] [4] u (qsI u 801 0) := hfr.setI (by decide) (fun q => absurd q (by decide))
      have hI : IC E (qsI u 801 0) := hI.s801 (by decide)
      refine lv_iconst (v := (-1)) hF.1 hF.2.1 dX11_brief_34 (by decide) ?_
      refine W.widen (k := 2) (n := 1004) (by decide) (by decide) ?_
      exact q_iret hF hr rfl hlocks hU hS dX11_brief_35 ⟨⟨hfr, hI⟩, (g_X11_brief_v6 u x y hz8 hz9 hz10 hz12 hz801 b1_4 b8_8)⟩
  · refine lv_if_eq (tgt := 26) hF.1 hF.2.1 dX11_brief_4 (by decide) (fun _ => ?_) (fun h9 => absurd (by decide) h9)
    refine lv_aload_n hF.1 hF.2.1 dX11_brief_26 rfl (lv_at hl 0 rfl) ?_
    refine q_get (v := .ref (E.2.2 899)) hF hU dX11_brief_27 0 11 1 1101 1199 rfl rfl rfl rfl inX11 (by decide) (by decide) w_437 rfl rfl ?_
    refine lv_iconst (v := 0) hF.1 hF.2.1 dX11_brief_30 (by decide) ?_
    refine q_put hF hU hS dX11_brief_31 2 8 1 801 899 rfl rfl rfl rfl inX8 tyX8 tyX8_ok nmX8 (by decide) (by decide) rfl w_240 rfl rfl rfl rfl (fun H locs hU hS => ?_)
    have hfr : qFc [802, 803, 804, 806, 504, 505, 503, 801, 12, 18] [502] [805, 501] [4] u (qsI u 801 0) := hfr.setI (by decide) (fun q => absurd q (by decide))
    have hI : IC E (qsI u 801 0) := hI.s801 (by decide)
    refine lv_iconst (v := (-1)) hF.1 hF.2.1 dX11_brief_34 (by decide) ?_
    refine W.widen (k := 2) (n := 1004) (by decide) (by decide) ?_
    exact q_iret hF hr rfl hlocks hU hS dX11_brief_35 ⟨⟨hfr, hI⟩, (g_X11_brief_v7 u x hz8 hz9 hz10 hz12 hz801 b1_4)⟩
