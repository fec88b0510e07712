theorem l_ge {i : Int32} {L : Nat} (hL : L ≤ 4096) (h : ¬ (Int32.ofNat L - 8 < i)) (h0 : 0 ≤ i.toInt) : i.toInt + 8 ≤ L := by
  have e : (Int32.ofNat L).toInt = L := Int32.toInt_ofNat_of_lt (by omega)
  have k : (8 : Int32).toInt = 8 := by decide
  have z : (Int32.ofNat L - 8).toInt = (Int32.ofNat L).toInt - (8 : Int32).toInt := g_sub (by rw [e, k]; omega) (by rw [e, k]; omega)
  have q := Int32.not_lt.mp h
  have q2 := Int32.le_iff_toInt_le.mp q
  omega
set_option maxHeartbeats 400000 in
set_option maxRecDepth 100000 in
theorem l_turn {p : Program} {e : Env} {s : State} {m : MethodId} {below : List Frame} {meth : Method} {c : Code} (l : Launch) {b L : Nat} {xs : Nat → Int32} (C0 : lw_At p s m meth c b L xs) (hst : l.stackTraces = false) (E : qE) {o : Nat} (hX0 : qXs (fun q : Nat => s.heap.size ≤ q) s s.heap) (hZ0 : qZw (fun q : Nat => s.heap.size ≤ q) s s.heap) (hL : L ≤ 4096) {i : Int32} (h0 : 0 ≤ i.toInt) (h8 : i.toInt + 8 ≤ L) {u v : qS} {H : Heap} {locs : List Loc} {ls : Array Slot} {cells slots : Nat} (hc : cells + 2 ≤ room_1.cells) (hs : slots + 1004 ≤ room_1.slots) (hV : l_2 E (fun q : Nat => s.heap.size ≤ q) u v s H) (hS : va_S (fun q : Nat => s.heap.size ≤ q) s.heap H locs) (hC : RC E o u) (hM : RM v) (hD : RD u v) (hl : lv_has ls 7 [(4, .int i), (3, .ref o), (2, .ref (E.2.2 1299)), (1, .ref (E.2.2 1199)), (0, .ref b)])
    (kk : ∀ (u v : qS) (H : Heap) (locs : List Loc) (ls : Array Slot) (k n : Nat), k ≤ cells + 2 → n ≤ slots + 1004 → l_2 E (fun q : Nat => s.heap.size ≤ q) u v s H → va_S (fun q : Nat => s.heap.size ≤ q) s.heap H locs → RC E o u → RM v → RD u v → lv_has ls 7 [(4, .int i), (3, .ref o), (2, .ref (E.2.2 1299)), (1, .ref (E.2.2 1199)), (0, .ref b)] → W p l e room_1 s m #[Value.ref b] below meth c H locs k n (lw_Z below #[Value.ref b] s) (F0 m 1535 ls [])) : W p l e room_1 s m #[Value.ref b] below meth c H locs cells slots (lw_Z below #[Value.ref b] s) (F0 m 33 ls []) := by
  obtain ⟨hx, hb, hr, hml, hown, hts, hX, hbl, hlocks, hgv⟩ := id C0
  have hbA : ¬ (fun q : Nat => s.heap.size ≤ q) b := Nat.not_le.mpr hbl
  refine lv_aload_n hx hb dL_law_33 rfl (lv_at hl 4 rfl) ?_
  refine lv_iload hx hb dL_law_34 (lv_at hl 0 rfl) ?_
  refine va_sld hx hb hX hbl hbA hS (g_in (by omega) (by omega)) dL_law_36 ?_
  refine lv_bipush (v := 31) hx hb dL_law_37 (by decide) ?_
  refine lv_iand hx hb dL_law_39 ?_
  rcases q_sw0_26 (xs i.toNatClampNeg &&& 31) with h | h | h | h | h | h | h | h | h | h | h | h | h | h | h | h | h | h | h | h | h | h | h | h | h | h | h | h
  · refine lv_tableIn (off := 124) (tgt := 164) hx hb dL_law_40 (by rw [h]; decide) (by rw [h]; decide) (by rw [h]; rfl) (by decide) ?_
    exact l_case0 l C0 hst E hX0 hZ0 hL h0 h8 hc hs hV hS hC hM hD hl kk
  · refine lv_tableIn (off := 149) (tgt := 189) hx hb dL_law_40 (by rw [h]; decide) (by rw [h]; decide) (by rw [h]; rfl) (by decide) ?_
    exact l_case1 l C0 hst E hX0 hZ0 hL h0 h8 hc hs hV hS hC hM hD hl kk
  · refine lv_tableIn (off := 174) (tgt := 214) hx hb dL_law_40 (by rw [h]; decide) (by rw [h]; decide) (by rw [h]; rfl) (by decide) ?_
    exact l_case2 l C0 hst E hX0 hZ0 hL h0 h8 hc hs hV hS hC hM hD hl kk
  · refine lv_tableIn (off := 277) (tgt := 317) hx hb dL_law_40 (by rw [h]; decide) (by rw [h]; decide) (by rw [h]; rfl) (by decide) ?_
    exact l_case3 l C0 hst E hX0 hZ0 hL h0 h8 hc hs hV hS hC hM hD hl kk
  · refine lv_tableIn (off := 314) (tgt := 354) hx hb dL_law_40 (by rw [h]; decide) (by rw [h]; decide) (by rw [h]; rfl) (by decide) ?_
    exact l_case4 l C0 hst E hX0 hZ0 hL h0 h8 hc hs hV hS hC hM hD hl kk
  · refine lv_tableIn (off := 363) (tgt := 403) hx hb dL_law_40 (by rw [h]; decide) (by rw [h]; decide) (by rw [h]; rfl) (by decide) ?_
    exact l_case5 l C0 hst E hX0 hZ0 hL h0 h8 hc hs hV hS hC hM hD hl kk
  · refine lv_tableIn (off := 400) (tgt := 440) hx hb dL_law_40 (by rw [h]; decide) (by rw [h]; decide) (by rw [h]; rfl) (by decide) ?_
    exact l_case6 l C0 hst E hX0 hZ0 hL h0 h8 hc hs hV hS hC hM hD hl kk
  · refine lv_tableIn (off := 501) (tgt := 541) hx hb dL_law_40 (by rw [h]; decide) (by rw [h]; decide) (by rw [h]; rfl) (by decide) ?_
    exact l_case7 l C0 hst E hX0 hZ0 hL h0 h8 hc hs hV hS hC hM hD hl kk
  · refine lv_tableIn (off := 538) (tgt := 578) hx hb dL_law_40 (by rw [h]; decide) (by rw [h]; decide) (by rw [h]; rfl) (by decide) ?_
    exact l_case8 l C0 hst E hX0 hZ0 hL h0 h8 hc hs hV hS hC hM hD hl kk
  · refine lv_tableIn (off := 685) (tgt := 725) hx hb dL_law_40 (by rw [h]; decide) (by rw [h]; decide) (by rw [h]; rfl) (by decide) ?_
    exact l_case9 l C0 hst E hX0 hZ0 hL h0 h8 hc hs hV hS hC hM hD hl kk
  · refine lv_tableIn (off := 722) (tgt := 762) hx hb dL_law_40 (by rw [h]; decide) (by rw [h]; decide) (by rw [h]; rfl) (by decide) ?_
    exact l_case10 l C0 hst E hX0 hZ0 hL h0 h8 hc hs hV hS hC hM hD hl kk
  · refine lv_tableIn (off := 762) (tgt := 802) hx hb dL_law_40 (by rw [h]; decide) (by rw [h]; decide) (by rw [h]; rfl) (by decide) ?_
    exact l_case11 l C0 hst E hX0 hZ0 hL h0 h8 hc hs hV hS hC hM hD hl kk
  · refine lv_tableIn (off := 790) (tgt := 830) hx hb dL_law_40 (by rw [h]; decide) (by rw [h]; decide) (by rw [h]; rfl) (by decide) ?_
    exact l_case12 l C0 hst E hX0 hZ0 hL h0 h8 hc hs hV hS hC hM hD hl kk
  · refine lv_tableIn (off := 827) (tgt := 867) hx hb dL_law_40 (by rw [h]; decide) (by rw [h]; decide) (by rw [h]; rfl) (by decide) ?_
    exact l_case13 l C0 hst E hX0 hZ0 hL h0 h8 hc hs hV hS hC hM hD hl kk
  · refine lv_tableIn (off := 876) (tgt := 916) hx hb dL_law_40 (by rw [h]; decide) (by rw [h]; decide) (by rw [h]; rfl) (by decide) ?_
    exact l_case14 l C0 hst E hX0 hZ0 hL h0 h8 hc hs hV hS hC hM hD hl kk
  · refine lv_tableIn (off := 904) (tgt := 944) hx hb dL_law_40 (by rw [h]; decide) (by rw [h]; decide) (by rw [h]; rfl) (by decide) ?_
    exact l_case15 l C0 hst E hX0 hZ0 hL h0 h8 hc hs hV hS hC hM hD hl kk
  · refine lv_tableIn (off := 941) (tgt := 981) hx hb dL_law_40 (by rw [h]; decide) (by rw [h]; decide) (by rw [h]; rfl) (by decide) ?_
    exact l_case16 l C0 hst E hX0 hZ0 hL h0 h8 hc hs hV hS hC hM hD hl kk
  · refine lv_tableIn (off := 993) (tgt := 1033) hx hb dL_law_40 (by rw [h]; decide) (by rw [h]; decide) (by rw [h]; rfl) (by decide) ?_
    exact l_case17 l C0 hst E hX0 hZ0 hL h0 h8 hc hs hV hS hC hM hD hl kk
  · refine lv_tableIn (off := 1042) (tgt := 1082) hx hb dL_law_40 (by rw [h]; decide) (by rw [h]; decide) (by rw [h]; rfl) (by decide) ?_
    exact l_case18 l C0 hst E hX0 hZ0 hL h0 h8 hc hs hV hS hC hM hD hl kk
  · refine lv_tableIn (off := 1103) (tgt := 1143) hx hb dL_law_40 (by rw [h]; decide) (by rw [h]; decide) (by rw [h]; rfl) (by decide) ?_
    exact l_case19 l C0 hst E hX0 hZ0 hL h0 h8 hc hs hV hS hC hM hD hl kk
  · refine lv_tableIn (off := 1164) (tgt := 1204) hx hb dL_law_40 (by rw [h]; decide) (by rw [h]; decide) (by rw [h]; rfl) (by decide) ?_
    exact l_case20 l C0 hst E hX0 hZ0 hL h0 h8 hc hs hV hS hC hM hD hl kk
  · refine lv_tableIn (off := 1225) (tgt := 1265) hx hb dL_law_40 (by rw [h]; decide) (by rw [h]; decide) (by rw [h]; rfl) (by decide) ?_
    exact l_case21 l C0 hst E hX0 hZ0 hL h0 h8 hc hs hV hS hC hM hD hl kk
  · refine lv_tableIn (off := 1274) (tgt := 1314) hx hb dL_law_40 (by rw [h]; decide) (by rw [h]; decide) (by rw [h]; rfl) (by decide) ?_
    exact l_case22 l C0 hst E hX0 hZ0 hL h0 h8 hc hs hV hS hC hM hD hl kk
  · refine lv_tableIn (off := 1323) (tgt := 1363) hx hb dL_law_40 (by rw [h]; decide) (by rw [h]; decide) (by rw [h]; rfl) (by decide) ?_
    exact l_case23 l C0 hst E hX0 hZ0 hL h0 h8 hc hs hV hS hC hM hD hl kk
  · refine lv_tableIn (off := 1372) (tgt := 1412) hx hb dL_law_40 (by rw [h]; decide) (by rw [h]; decide) (by rw [h]; rfl) (by decide) ?_
    exact l_case24 l C0 hst E hX0 hZ0 hL h0 h8 hc hs hV hS hC hM hD hl kk
  · refine lv_tableIn (off := 1409) (tgt := 1449) hx hb dL_law_40 (by rw [h]; decide) (by rw [h]; decide) (by rw [h]; rfl) (by decide) ?_
    exact l_case25 l C0 hst E hX0 hZ0 hL h0 h8 hc hs hV hS hC hM hD hl kk
  · refine lv_tableIn (off := 1470) (tgt := 1510) hx hb dL_law_40 (by rw [h]; decide) (by rw [h]; decide) (by rw [h]; rfl) (by decide) ?_
    exact l_case26 l C0 hst E hX0 hZ0 hL h0 h8 hc hs hV hS hC hM hD hl kk
  · refine lv_tableOut (tgt := 1535) hx hb dL_law_40 h (by decide) ?_
    exact kk u v H locs ls cells slots (by omega) (by omega) hV hS hC hM hD hl
set_option maxHeartbeats 400000 in
set_option maxRecDepth 100000 in
theorem l_loop {p : Program} {e : Env} {s : State} {m : MethodId} {below : List Frame} {meth : Method} {c : Code} (l : Launch) {b L : Nat} {xs : Nat → Int32} (C0 : lw_At p s m meth c b L xs) (hst : l.stackTraces = false) (E : qE) {o : Nat} (hX0 : qXs (fun q : Nat => s.heap.size ≤ q) s s.heap) (hZ0 : qZw (fun q : Nat => s.heap.size ≤ q) s s.heap) (hL : L ≤ 4096) (n : Nat) : ∀ {i : Int32} (h0 : 0 ≤ i.toInt) (hn : (L : Int) < i.toInt + 8 * (n + 1)) {u v : qS} {H : Heap} {locs : List Loc} {ls : Array Slot} {cells slots : Nat} (hc : cells + 2 * n ≤ room_1.cells) (hs : slots + 1004 * n ≤ room_1.slots) (hV : l_2 E (fun q : Nat => s.heap.size ≤ q) u v s H) (hS : va_S (fun q : Nat => s.heap.size ≤ q) s.heap H locs) (hC : RC E o u) (hM : RM v) (hD : RD u v) (hl : lv_has ls 7 [(4, .int i), (3, .ref o), (2, .ref (E.2.2 1299)), (1, .ref (E.2.2 1199)), (0, .ref b)]), W p l e room_1 s m #[Value.ref b] below meth c H locs cells slots (lw_Z below #[Value.ref b] s) (F0 m 23 ls []) := by
  obtain ⟨hx, hb, hr, hml, hown, hts, hX, hbl, hlocks, hgv⟩ := id C0
  have hbA : ¬ (fun q : Nat => s.heap.size ≤ q) b := Nat.not_le.mpr hbl
  induction n with
  | zero =>
    intro i h0 hn u v H locs ls cells slots hc hs hV hS hC hM hD hl
    refine lv_iload hx hb dL_law_23 (lv_at hl 0 rfl) ?_
    refine lv_aload_n hx hb dL_law_25 rfl (lv_at hl 4 rfl) ?_
    refine va_slen hx hb hX hbl hbA hS dL_law_26 ?_
    refine lv_bipush (v := 8) hx hb dL_law_27 (by decide) ?_
    refine lv_isub hx hb dL_law_29 ?_
    refine lv_icmp_gt (tgt := 1541) hx hb dL_law_30 (by decide) (fun _ => ?_) (fun h9 => absurd (l_ge hL h9 h0) (by omega))
    refine lv_iconst (v := 1) hx hb dL_law_1541 (by decide) ?_
    refine va_forget (fun q h => hS.2.2 q h) ?_
    refine W.widen (k := 601024) (n := 7293034) (show cells ≤ room_1.cells by omega) (show slots ≤ room_1.slots by omega) ?_
    exact lw_ret hx hb hr hlocks dL_law_1542
  | succ n ih =>
    intro i h0 hn u v H locs ls cells slots hc hs hV hS hC hM hD hl
    refine lv_iload hx hb dL_law_23 (lv_at hl 0 rfl) ?_
    refine lv_aload_n hx hb dL_law_25 rfl (lv_at hl 4 rfl) ?_
    refine va_slen hx hb hX hbl hbA hS dL_law_26 ?_
    refine lv_bipush (v := 8) hx hb dL_law_27 (by decide) ?_
    refine lv_isub hx hb dL_law_29 ?_
    refine lv_icmp_gt (tgt := 1541) hx hb dL_law_30 (by decide) (fun _ => ?_) (fun h9 => ?_)
    · refine lv_iconst (v := 1) hx hb dL_law_1541 (by decide) ?_
      refine va_forget (fun q h => hS.2.2 q h) ?_
      refine W.widen (k := 601024) (n := 7293034) (show cells ≤ room_1.cells by omega) (show slots ≤ room_1.slots by omega) ?_
      exact lw_ret hx hb hr hlocks dL_law_1542
    · have h8 := l_ge hL h9 h0
      refine l_turn l C0 hst E hX0 hZ0 hL h0 h8 (show cells + 2 ≤ room_1.cells by omega) (show slots + 1004 ≤ room_1.slots by omega) hV hS hC hM hD hl (fun u v H locs ls k n9 hk hn9 hV hS hC hM hD hl => ?_)
      refine lv_iinc (v := i + 8) (lv' := [(4, .int (i + 8)), (3, .ref o), (2, .ref (E.2.2 1299)), (1, .ref (E.2.2 1199)), (0, .ref b)]) hx hb dL_law_1535 hl (k := 0) rfl rfl (by decide) rfl (fun ls hl => ?_)
      refine lv_goto (tgt := 23) hx hb dL_law_1538 (by decide) ?_
      have k8 : (8 : Int32).toInt = 8 := by decide
      have z : (i + 8 : Int32).toInt = i.toInt + (8 : Int32).toInt := g_add (by rw [k8]; omega) (by rw [k8]; omega)
      exact ih (by omega) (by omega) (by omega) (by omega) hV hS hC hM hD hl
