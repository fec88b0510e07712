/-! copies of the reader's code -/
theorem g_fitI {cA : ClassId} {N : Nat} {f : Nat → Int32} (i : Nat) (v : Value) (hv : (vp_cell cA (N, .inl f)).slots[i]? = some v) : fits .int v = true := by
  rcases Nat.lt_or_ge i N with q | q
  · have z : (vp_cell cA (N, .inl f)).slots[i]? = some (.int (f i)) := arrV_read (N := N) (j := i) cA (fun j => .int (f j)) q
    rw [z] at hv
    injection hv with hv
    rw [← hv]; rfl
  · have z : (vp_cell cA (N, .inl f)).slots[i]? = none := Array.getElem?_eq_none (by rw [show (vp_cell cA (N, .inl f)).slots.size = N from arrV_size _ _ _]; exact q)
    rw [z] at hv; cases hv
set_option maxHeartbeats 800000 in
set_option maxRecDepth 100000 in
theorem g_copyOf (l : Launch) (E : qE) (A : Nat → Prop) (u : qS) (n : Int32) (h0 : 0 ≤ n.toInt) (h1 : n.toInt ≤ 1000) : Met l yJ7_copyOf_59c91 (uws yJ7_copyOf_59c91 cJ7_copyOf_59c91 3 (some (.array .int))) (qR 2 1 1000) (qPc E A 0 u [.ref (E.2.2 502), .int n]) (qQr E A 0 (fun u1 a => ∃ g, u1 = qsX u (u.2.2.2.2 ++ [(a, .inl (E.2.1 0, n.toNatClampNeg, .inl g))]))) 1 1000 A := by
  have cn := g_clamp n
  have hN : n.toNatClampNeg ≤ 1000 := by omega
  have hneg : ¬ n < 0 := fun q => by have := Int32.lt_iff_toInt_lt.mp q; have e0 : (0 : Int32).toInt = 0 := rfl; omega
  refine q_met (own := RJ7) (f := 2) [.ref (E.2.2 502), .int n] (by decide) (Nat.le_of_ble_eq_true rfl) rfl ?_
  intro p0 e0 s0 m0 bl0 me0 cd0 ls hF hr hlocks hU hS hA hl
  have hl : lv_has ls 3 [(0, .ref (E.2.2 502)), (1, .int n)] := hl
  refine lv_iload_n hF.1 hF.2.1 dJ7_copyOf_59c91_0 rfl (lv_at hl 1 rfl) ?_
  refine lv_aload_n hF.1 hF.2.1 dJ7_copyOf_59c91_1 rfl (lv_at hl 0 rfl) ?_
  refine q_alen (v := 1000) hF hU dJ7_copyOf_59c91_2 10 502 rfl 0 (by decide) rfl ?_
  refine lv_icmp_ne (tgt := 14) hF.1 hF.2.1 dJ7_copyOf_59c91_3 (by decide) (fun hne => ?_) (fun heq => ?_)
  · refine lv_iload_n hF.1 hF.2.1 dJ7_copyOf_59c91_14 rfl (lv_at hl 1 rfl) ?_
    have hU : qH E A 0 (qsX u (u.2.2.2.2 ++ [])) s0 s0.heap := by rw [List.append_nil]; exact hU
    refine c_newa (N' := n.toNatClampNeg) hF hU hS hA dJ7_copyOf_59c91_15 0 rfl rfl w_231 (fun _ _ => uqI) (n.toNatClampNeg, .inl (fun _ => 0)) (fun _ => rfl) hneg rfl (by show n.toNatClampNeg * 4 ≤ _; omega) (Nat.le_of_ble_eq_true rfl) (by show 0 + n.toNatClampNeg ≤ 1000; omega) (k' := 1) (n' := 0 + n.toNatClampNeg) rfl rfl (fun q H hU hS => ?_)
    have hU : qH E A 0 (qsX u (u.2.2.2.2 ++ [(q, .inl (E.2.1 0, n.toNatClampNeg, .inl (fun _ => 0)))])) s0 H := hU
    refine lv_astore_n (lv' := [(2, .ref q), (0, .ref (E.2.2 502)), (1, .int n)]) hF.1 hF.2.1 dJ7_copyOf_59c91_17 rfl hl (by decide) rfl (fun ls hl => ?_)
    refine lv_aload_n hF.1 hF.2.1 dJ7_copyOf_59c91_18 rfl (lv_at hl 1 rfl) ?_
    refine lv_iconst (v := 0) hF.1 hF.2.1 dJ7_copyOf_59c91_19 (by decide) ?_
    refine lv_aload_n hF.1 hF.2.1 dJ7_copyOf_59c91_20 rfl (lv_at hl 0 rfl) ?_
    refine lv_iconst (v := 0) hF.1 hF.2.1 dJ7_copyOf_59c91_21 (by decide) ?_
    refine lv_aload_n hF.1 hF.2.1 dJ7_copyOf_59c91_22 rfl (lv_at hl 1 rfl) ?_
    refine q_alen (v := 1000) hF hU dJ7_copyOf_59c91_23 10 502 rfl 0 (by decide) rfl ?_
    refine lv_iload_n hF.1 hF.2.1 dJ7_copyOf_59c91_24 rfl (lv_at hl 2 rfl) ?_
    refine va_mmin hF.1 hF.2.1 (hF.2.2.1.trans hl.1.symm) hF.2.2.2.1 (hF.2.2.2.2 _ w_808) (hF.2.2.2.2 _ w_809) (hF.2.2.2.2 _ w_113) (hF.2.2.2.2 _ w_810) (by decide) (Nat.le_of_ble_eq_true rfl) (by decide) (by show 0 + n.toNatClampNeg ≤ 1000; omega) dJ7_copyOf_59c91_25 ?_
    refine q_topi (y := n) (if_pos (Int32.lt_iff_toInt_lt.mpr (by have e : (1000 : Int32).toInt = 1000 := rfl; have z : n.toInt ≠ (1000 : Int32).toInt := fun q => hne (Int32.toInt_inj.mp q); omega))) ?_
    have hd : (qsX u (u.2.2.2.2 ++ [(q, .inl (E.2.1 0, n.toNatClampNeg, .inl (fun _ => 0)))])).2.2.2.2[u.2.2.2.2.length + 0]? = some (q, .inl (E.2.1 0, n.toNatClampNeg, .inl (fun _ => 0))) := q_cat rfl rfl
    refine va_copyi (D := E.1) hF.1 hF.2.1 (hF.2.2.1.trans hl.1.symm) hF.2.2.2.1 (hF.2.2.2.2 _ w_811) (hF.2.2.2.2 _ w_813) (hF.2.2.2.2 _ w_812) (hF.2.2.2.2 _ w_114) hU.1 hU.2.1 hU.2.2.1 hS ((qob 0).length + 10) ((qob 0).length + ((qar 0).length + (u.2.2.2.2.length + 0))) 0 0 (ty := .int) (c0 := E.2.1 0) (c1 := E.2.1 0) (n0 := 1000) (n1 := n.toNatClampNeg) (by rw [qW_ar (n := 502) rfl, qac, qe_0 (by decide)]; rfl) (qW_dyn hd) rfl rfl rfl (by decide) (by decide) hneg (by show 0 + n.toNatClampNeg ≤ 1000; omega) (by show 0 + n.toNatClampNeg ≤ n.toNatClampNeg; omega) (fun i h => rfl) (by decide) (Nat.le_of_ble_eq_true rfl) dJ7_copyOf_59c91_28 (fun H1 locs1 h1 h2 h3 => ?_)
    rw [qW_setX] at h1 h2
    obtain ⟨g9, hg9⟩ : ∃ z, z = va_cpy (u.2.1 502) (fun _ => 0) (0 : Int32).toNatClampNeg (0 : Int32).toNatClampNeg n.toNatClampNeg := ⟨_, rfl⟩
    have e9 : (u.2.2.2.2 ++ ([(q, .inl (E.2.1 0, n.toNatClampNeg, .inl (fun _ => 0)))] : va_W)).set (u.2.2.2.2.length + 0) (q, .inl (E.2.1 0, n.toNatClampNeg, .inl g9)) ++ [] = u.2.2.2.2 ++ (([(q, .inl (E.2.1 0, n.toNatClampNeg, .inl g9))] : va_W) ++ []) := q_csub rfl rfl
    rw [List.append_nil] at e9
    have e8 : qsX u (u.2.2.2.2 ++ [(q, .inl (E.2.1 0, n.toNatClampNeg, .inl g9))]) = qsX (qsX u (u.2.2.2.2 ++ [(q, .inl (E.2.1 0, n.toNatClampNeg, .inl (fun _ => 0)))])) ((u.2.2.2.2 ++ ([(q, .inl (E.2.1 0, n.toNatClampNeg, .inl (fun _ => 0)))] : va_W)).set (u.2.2.2.2.length + 0) (q, .inl (E.2.1 0, n.toNatClampNeg, .inl g9))) := congrArg (qsX u) e9.symm
    have h1 : va_P E.1 vwCl (qW E 0 (qsX u (u.2.2.2.2 ++ [(q, .inl (E.2.1 0, n.toNatClampNeg, .inl g9))]))) H1 := by rw [e8, hg9]; exact h1
    have h2 : va_D A (qW E 0 (qsX u (u.2.2.2.2 ++ [(q, .inl (E.2.1 0, n.toNatClampNeg, .inl g9))]))) := by rw [e8, hg9]; exact h2
    refine lv_aload_n hF.1 hF.2.1 dJ7_copyOf_59c91_31 rfl (lv_at hl 0 rfl) ?_
    have hU9 : qH E A 0 (qsX u (u.2.2.2.2 ++ [(q, .inl (E.2.1 0, n.toNatClampNeg, .inl g9))])) s0 H1 := ⟨hU.1, h1, h2, hU.2.2.2⟩
    have hp9 : ∃ g, qsX u (u.2.2.2.2 ++ [(q, .inl (E.2.1 0, n.toNatClampNeg, .inl g9))]) = qsX u (u.2.2.2.2 ++ [(q, .inl (E.2.1 0, n.toNatClampNeg, .inl g))]) := ⟨g9, rfl⟩
    refine W.widen (k := 1) (n := 1000) (Nat.le_of_ble_eq_true rfl) (by omega) ?_
    exact q_aret hF hr (Or.inr ⟨_, rfl⟩) hlocks hU9 h3 dJ7_copyOf_59c91_32 hp9
  · have h1000 : n = 1000 := heq
    subst h1000
    refine lv_aload_n hF.1 hF.2.1 dJ7_copyOf_59c91_6 rfl (lv_at hl 0 rfl) ?_
    have hc0 : s0.vm.findClass "[I" = some (E.2.1 0) := (hU.1.2 0 _ rfl).2
    refine va_clone (D := E.1) hF.1 hF.2.1 (hF.2.2.1.trans hl.1.symm) hF.2.2.2.1 (hF.2.2.2.2 _ w_801) (hF.2.2.2.2 _ w_802) (hF.2.2.2.2 _ w_803) (hF.2.2.2.2 _ w_804) (hF.2.2.2.2 _ w_805) hU.2.2.2.n806 hU.1 hU.2.1 hU.2.2.1 hS hA ((qob 0).length + 10) 0 (cA := E.2.1 0) (x := (1000, .inl (u.2.1 502))) (ty := .int) (by rw [qW_ar (n := 502) rfl, qac, qe_0 (by decide)]; rfl) rfl hc0 (fun i v hv => g_fitI i v hv) (by decide) (Nat.le_of_ble_eq_true rfl) (by decide) (Nat.le_of_ble_eq_true rfl) dJ7_copyOf_59c91_7 (fun q H1 _ h1 h2 h3 => ?_)
    rw [qW_app] at h1 h2
    have hU9 : qH E A 0 (qsX u (u.2.2.2.2 ++ [(q, .inl (E.2.1 0, 1000, .inl (u.2.1 502)))])) s0 H1 := ⟨hU.1, h1, h2, hU.2.2.2⟩
    have hd9 : (qsX u (u.2.2.2.2 ++ [(q, .inl (E.2.1 0, 1000, .inl (u.2.1 502)))])).2.2.2.2[u.2.2.2.2.length + 0]? = some (q, .inl (E.2.1 0, 1000, .inl (u.2.1 502))) := q_cat rfl rfl
    refine va_castA (D := E.1) hF.1 hF.2.1 hF.2.2.2.1 (hF.2.2.2.2 _ w_807) hU9.2.1 _ (qW_dyn hd9) hc0 dJ7_copyOf_59c91_10 ?_
    have hp9 : ∃ g, qsX u (u.2.2.2.2 ++ [(q, .inl (E.2.1 0, 1000, .inl (u.2.1 502)))]) = qsX u (u.2.2.2.2 ++ [(q, .inl (E.2.1 0, (1000 : Int32).toNatClampNeg, .inl g))]) := ⟨u.2.1 502, rfl⟩
    refine W.widen (k := 1) (n := 1000) (Nat.le_of_ble_eq_true rfl) (Nat.le_of_ble_eq_true rfl) ?_
    exact q_aret hF hr (Or.inr ⟨_, rfl⟩) hlocks hU9 h3 dJ7_copyOf_59c91_13 hp9
set_option maxHeartbeats 800000 in
set_option maxRecDepth 100000 in
theorem g_X5_codeRead (l : Launch) (E : qE) (A : Nat → Prop) (u : qS) (hc : 0 ≤ (u.1 504).toInt ∧ (u.1 504).toInt ≤ 1000) : Met l yX5_codeRead (uws yX5_codeRead cX5_codeRead 1 (some (.array .int))) (qR 3 1 1000) (qPc E A 0 u [.ref (E.2.2 599)]) (qQr E A 0 (fun u1 a => ∃ g, u1 = qsX u (u.2.2.2.2 ++ [(a, .inl (E.2.1 0, (u.1 504).toNatClampNeg, .inl g))]))) 1 1000 A := by
  refine q_met (own := RX5) (f := 3) [.ref (E.2.2 599)] (by decide) (Nat.le_of_ble_eq_true rfl) rfl ?_
  intro p0 e0 s0 m0 bl0 me0 cd0 ls hF hr hlocks hU hS hA hl
  have hl : lv_has ls 1 [(0, .ref (E.2.2 599))] := hl
  refine lv_aload_n hF.1 hF.2.1 dX5_codeRead_0 rfl (lv_at hl 0 rfl) ?_
  refine q_get (v := .ref (E.2.2 502)) hF hU dX5_codeRead_1 3 5 2 502 599 rfl rfl rfl rfl inX5 (by decide) (by decide) w_274 rfl rfl ?_
  refine lv_aload_n hF.1 hF.2.1 dX5_codeRead_4 rfl (lv_at hl 0 rfl) ?_
  refine q_get (v := .int (u.1 504)) hF hU dX5_codeRead_5 3 5 4 504 599 rfl rfl rfl rfl inX5 (by decide) (by decide) w_276 rfl rfl ?_
  have hM9 := (g_copyOf l E A u (u.1 504) hc.1 hc.2)
  have hR9 := q_runS (l := l) (e := e0) (below := bl0) (meth := me0) (R := qR 3 1 1000) (cells := 0) (slots := 0) (st0 := [.int (u.1 504), .ref (E.2.2 502)]) (rest := []) hF hU hS hA 2 hM9 w_798 w_799 w_112 w_800 (by decide +kernel) ⟨Nat.le_of_ble_eq_true rfl, Nat.le_of_ble_eq_true rfl⟩ dX5_codeRead_8 rfl hl.1 rfl (Nat.le_of_ble_eq_true rfl) ⟨Nat.le_of_ble_eq_true rfl, Nat.le_of_ble_eq_true rfl⟩
  refine q_callr hR9 hU.2.2.2 hS (fun u_1 q_3 H locs hw_2 hU hS => ?_)
  obtain ⟨g_4, hw_2a⟩ := hw_2
  rw [hw_2a] at hU
  have hU : qH E A 0 (qsX u (u.2.2.2.2 ++ [(q_3, .inl (E.2.1 0, (u.1 504).toNatClampNeg, .inl g_4))])) s0 H := hU
  exact q_aret hF hr (Or.inr ⟨_, rfl⟩) hlocks hU hS dX5_codeRead_11 (⟨_, rfl⟩)
