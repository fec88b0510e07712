def l_fresh (u v : qS) : Prop := u.1 8 = 0 ∧ u.1 9 = 0 ∧ u.1 10 = 0 ∧ u.1 11 = 0 ∧ u.1 12 = 0 ∧ u.1 13 = 0 ∧ u.1 14 = (-1) ∧ u.1 15 = 5 ∧ u.1 18 = 0 ∧ u.1 311 = 0 ∧ u.1 609 = 0 ∧ u.1 801 = 0 ∧ u.1 900 = 0 ∧ u.1 901 = 0 ∧ u.1 902 = 0 ∧ u.1 909 = 0 ∧ v.1 1202 = 0 ∧ v.1 1210 = 0 ∧ v.1 1230 = 0 ∧ v.1 1231 = (-1) ∧ v.1 1232 = 0 ∧ v.1 1239 = 0 ∧ v.1 1247 = 0 ∧ v.1 1256 = 0
set_option maxHeartbeats 400000 in
theorem l_exit {p : Program} {e : Env} {s : State} {m : MethodId} {below : List Frame} {meth : Method} {c : Code} (l : Launch) {b : Nat} {xs : Nat → Int32} (C0 : lw_At p s m meth c b 8 xs) {H : Heap} {locs : List Loc} {ls : Array Slot} {cells slots : Nat} (hS : va_S (fun q : Nat => s.heap.size ≤ q) s.heap H locs) (hl : lv_has ls 7 [(4, .int 0), (0, .ref b)]) (hc : cells ≤ 600002) (hs : slots ≤ 7302232) : W p l e room_1 s m #[Value.ref b] below meth c H locs cells slots (lw_Z below #[Value.ref b] s) (F0 m 1647 ls []) := by
  obtain ⟨hx, hb, hr, hml, hown, hts, hX, hbl, hlocks, hgv⟩ := id C0
  have hbA : ¬ (fun q : Nat => s.heap.size ≤ q) b := Nat.not_le.mpr hbl
  refine lv_iinc (v := 8) (lv' := [(4, .int 8), (0, .ref b)]) hx hb dL_law_1647 hl (k := 0) rfl (by decide) (by decide) rfl (fun ls hl => ?_)
  refine lv_goto (tgt := 23) hx hb dL_law_1650 (by decide) ?_
  refine lv_iload hx hb dL_law_23 (lv_at hl 0 rfl) ?_
  refine lv_aload_n hx hb dL_law_25 rfl (lv_at hl 1 rfl) ?_
  refine va_slen hx hb hX hbl hbA hS dL_law_26 ?_
  refine lv_bipush (v := 8) hx hb dL_law_27 (by decide) ?_
  refine lv_isub hx hb dL_law_29 ?_
  refine lv_icmp_gt (tgt := 1653) hx hb dL_law_30 (by decide) (fun _ => ?_) (fun h9 => absurd (by decide) h9)
  refine lv_iconst (v := 1) hx hb dL_law_1653 (by decide) ?_
  refine va_forget (fun q h => hS.2.2 q h) ?_
  refine W.widen (k := 600002) (n := 7302232) hc hs ?_
  exact lw_ret hx hb hr hlocks dL_law_1654
set_option maxHeartbeats 400000 in
set_option maxRecDepth 100000 in
theorem l_case0 {p : Program} {e : Env} {s : State} {m : MethodId} {below : List Frame} {meth : Method} {c : Code} (l : Launch) {b : Nat} {xs : Nat → Int32} (C0 : lw_At p s m meth c b 8 xs) (hst : l.stackTraces = false) (E : qE) (u v : qS) {H : Heap} {locs : List Loc} {ls : Array Slot} {o : Nat} (hK : va_K E.1 vwCl (qT E) s) (hN : qNs s) (hP : va_P E.1 vwCl (qW E 0 u ++ qW E 1 v) H) (hD : va_D (fun q : Nat => s.heap.size ≤ q) (qW E 0 u ++ qW E 1 v)) (hS : va_S (fun q : Nat => s.heap.size ≤ q) s.heap H locs) (hXs : qXs (fun q : Nat => s.heap.size ≤ q) s H) (hl : lv_has ls 7 [(4, .int 0), (3, .ref o), (2, .ref (E.2.2 1299)), (1, .ref (E.2.2 1199)), (0, .ref b)]) (hfr : l_fresh u v) : W p l e room_1 s m #[Value.ref b] below meth c H locs 92 111496 (lw_Z below #[Value.ref b] s) (F0 m 164 ls []) := by
  obtain ⟨hx, hb, hr, hml, hown, hts, hX, hbl, hlocks, hgv⟩ := id C0
  obtain ⟨fc_8, fc_9, fc_10, fc_11, fc_12, fc_13, fc_14, fc_15, fc_18, fc_311, fc_609, fc_801, fc_900, fc_901, fc_902, fc_909, fm_1202, fm_1210, fm_1230, fm_1231, fm_1232, fm_1239, fm_1247, fm_1256⟩ := hfr
  have hF : qX p m c code 7 s #[Value.ref b] "SecretBuyersLaw" := ⟨hx, hb, hml, hown, fun w h => hts w (qw_in h)⟩
  have hA : ∀ q : Nat, s.heap.size ≤ q → (fun q : Nat => s.heap.size ≤ q) q := fun _ h => h
  have hbA : ¬ (fun q : Nat => s.heap.size ≤ q) b := Nat.not_le.mpr hbl
  refine lv_aload_n hx hb dL_law_164 rfl (lv_at hl 3 rfl) ?_
  refine lv_aload_n hx hb dL_law_165 rfl (lv_at hl 4 rfl) ?_
  refine lv_iload hx hb dL_law_166 (lv_at hl 0 rfl) ?_
  refine lv_iconst (v := 1) hx hb dL_law_168 (by decide) ?_
  refine lv_iadd hx hb dL_law_169 ?_
  refine q_topi (y := 1) (by decide) ?_
  refine va_sld hx hb hX hbl hbA hS (q_in (by decide)) dL_law_170 ?_
  have hM9 := fun A' : Nat → Prop => k_X11_days l E A' u (xs (1 : Int32).toNatClampNeg) fc_13
  refine l_callC (As := [.int (xs (1 : Int32).toNatClampNeg)]) (st0 := [.int (xs (1 : Int32).toNatClampNeg), .ref (E.2.2 1199)]) (rest := []) (mc := 0) (ms := 0) (f := 2) hF hK hN hP hD hS hA 1 hM9 w_464 w_465 w_466 w_99 w_467 (by decide +kernel) ⟨Nat.le_of_ble_eq_true rfl, Nat.le_of_ble_eq_true rfl⟩ dL_law_171 rfl hl.1 rfl (Nat.le_of_ble_eq_true rfl) ⟨Nat.le_of_ble_eq_true rfl, Nat.le_of_ble_eq_true rfl⟩ (fun r2 u1 H locs h1 hV hS => ?_)
  refine lv_aload_n hx hb dL_law_174 rfl (lv_at hl 2 rfl) ?_
  refine lv_aload_n hx hb dL_law_175 rfl (lv_at hl 4 rfl) ?_
  refine lv_iload hx hb dL_law_176 (lv_at hl 0 rfl) ?_
  refine lv_iconst (v := 1) hx hb dL_law_178 (by decide) ?_
  refine lv_iadd hx hb dL_law_179 ?_
  refine q_topi (y := 1) (by decide) ?_
  refine va_sld hx hb hX hbl hbA hS (q_in (by decide)) dL_law_180 ?_
  have hM9 := k_X12_days l E (fun q : Nat => s.heap.size ≤ q) v (xs (1 : Int32).toNatClampNeg) fm_1230
  have hR9 := q_runV (l := l) (e := e) (below := below) (meth := meth) (R := room_1) (cells := 92) (slots := 111496) (st0 := [.int (xs (1 : Int32).toNatClampNeg), .ref (E.2.2 1299), .int r2]) (rest := [.int r2]) hF hV hS hA 1 0 12 1299 rfl rfl rfl hM9 w_1680 w_1681 w_1682 w_107 w_1683 (by decide +kernel) ⟨Nat.le_of_ble_eq_true rfl, Nat.le_of_ble_eq_true rfl⟩ dL_law_181 rfl hl.1 rfl (Nat.le_of_ble_eq_true rfl) ⟨Nat.le_of_ble_eq_true rfl, Nat.le_of_ble_eq_true rfl⟩
  refine q_calli hR9 hN hS (fun r4 v5 H locs h3 hV hS => ?_)
  refine lv_icmp_eq (tgt := 1647) hx hb dL_law_184 (by decide) (fun _ => ?_) (fun hneq => absurd (q_same h1 h3) hneq)
  exact l_exit l C0 hS (lv_sub hl [0, 4] rfl) (Nat.le_of_ble_eq_true rfl) (Nat.le_of_ble_eq_true rfl)
set_option maxHeartbeats 400000 in
set_option maxRecDepth 100000 in
theorem l_case1 {p : Program} {e : Env} {s : State} {m : MethodId} {below : List Frame} {meth : Method} {c : Code} (l : Launch) {b : Nat} {xs : Nat → Int32} (C0 : lw_At p s m meth c b 8 xs) (hst : l.stackTraces = false) (E : qE) (u v : qS) {H : Heap} {locs : List Loc} {ls : Array Slot} {o : Nat} (hK : va_K E.1 vwCl (qT E) s) (hN : qNs s) (hP : va_P E.1 vwCl (qW E 0 u ++ qW E 1 v) H) (hD : va_D (fun q : Nat => s.heap.size ≤ q) (qW E 0 u ++ qW E 1 v)) (hS : va_S (fun q : Nat => s.heap.size ≤ q) s.heap H locs) (hXs : qXs (fun q : Nat => s.heap.size ≤ q) s H) (hl : lv_has ls 7 [(4, .int 0), (3, .ref o), (2, .ref (E.2.2 1299)), (1, .ref (E.2.2 1199)), (0, .ref b)]) (hfr : l_fresh u v) : W p l e room_1 s m #[Value.ref b] below meth c H locs 92 111496 (lw_Z below #[Value.ref b] s) (F0 m 189 ls []) := by
  obtain ⟨hx, hb, hr, hml, hown, hts, hX, hbl, hlocks, hgv⟩ := id C0
  obtain ⟨fc_8, fc_9, fc_10, fc_11, fc_12, fc_13, fc_14, fc_15, fc_18, fc_311, fc_609, fc_801, fc_900, fc_901, fc_902, fc_909, fm_1202, fm_1210, fm_1230, fm_1231, fm_1232, fm_1239, fm_1247, fm_1256⟩ := hfr
  have hF : qX p m c code 7 s #[Value.ref b] "SecretBuyersLaw" := ⟨hx, hb, hml, hown, fun w h => hts w (qw_in h)⟩
  have hA : ∀ q : Nat, s.heap.size ≤ q → (fun q : Nat => s.heap.size ≤ q) q := fun _ h => h
  have hbA : ¬ (fun q : Nat => s.heap.size ≤ q) b := Nat.not_le.mpr hbl
  refine lv_aload_n hx hb dL_law_189 rfl (lv_at hl 3 rfl) ?_
  refine lv_aload_n hx hb dL_law_190 rfl (lv_at hl 4 rfl) ?_
  refine lv_iload hx hb dL_law_191 (lv_at hl 0 rfl) ?_
  refine lv_iconst (v := 1) hx hb dL_law_193 (by decide) ?_
  refine lv_iadd hx hb dL_law_194 ?_
  refine q_topi (y := 1) (by decide) ?_
  refine va_sld hx hb hX hbl hbA hS (q_in (by decide)) dL_law_195 ?_
  have hM9 := fun A' : Nat → Prop => k_X11_view l E A' u (xs (1 : Int32).toNatClampNeg) fc_13 fc_10 fc_11
  refine l_callC (As := [.int (xs (1 : Int32).toNatClampNeg)]) (st0 := [.int (xs (1 : Int32).toNatClampNeg), .ref (E.2.2 1199)]) (rest := []) (mc := 0) (ms := 0) (f := 3) hF hK hN hP hD hS hA 1 hM9 w_471 w_472 w_473 w_99 w_474 (by decide +kernel) ⟨Nat.le_of_ble_eq_true rfl, Nat.le_of_ble_eq_true rfl⟩ dL_law_196 rfl hl.1 rfl (Nat.le_of_ble_eq_true rfl) ⟨Nat.le_of_ble_eq_true rfl, Nat.le_of_ble_eq_true rfl⟩ (fun r2 u1 H locs h1 hV hS => ?_)
  refine lv_aload_n hx hb dL_law_199 rfl (lv_at hl 2 rfl) ?_
  refine lv_aload_n hx hb dL_law_200 rfl (lv_at hl 4 rfl) ?_
  refine lv_iload hx hb dL_law_201 (lv_at hl 0 rfl) ?_
  refine lv_iconst (v := 1) hx hb dL_law_203 (by decide) ?_
  refine lv_iadd hx hb dL_law_204 ?_
  refine q_topi (y := 1) (by decide) ?_
  refine va_sld hx hb hX hbl hbA hS (q_in (by decide)) dL_law_205 ?_
  have hM9 := k_X12_view l E (fun q : Nat => s.heap.size ≤ q) v (xs (1 : Int32).toNatClampNeg) fm_1230
  have hR9 := q_runV (l := l) (e := e) (below := below) (meth := meth) (R := room_1) (cells := 92) (slots := 111496) (st0 := [.int (xs (1 : Int32).toNatClampNeg), .ref (E.2.2 1299), .int r2]) (rest := [.int r2]) hF hV hS hA 1 0 12 1299 rfl rfl rfl hM9 w_1687 w_1688 w_1689 w_107 w_1690 (by decide +kernel) ⟨Nat.le_of_ble_eq_true rfl, Nat.le_of_ble_eq_true rfl⟩ dL_law_206 rfl hl.1 rfl (Nat.le_of_ble_eq_true rfl) ⟨Nat.le_of_ble_eq_true rfl, Nat.le_of_ble_eq_true rfl⟩
  refine q_calli hR9 hN hS (fun r4 v5 H locs h3 hV hS => ?_)
  refine lv_icmp_eq (tgt := 1647) hx hb dL_law_209 (by decide) (fun _ => ?_) (fun hneq => absurd (q_same h1 h3) hneq)
  exact l_exit l C0 hS (lv_sub hl [0, 4] rfl) (Nat.le_of_ble_eq_true rfl) (Nat.le_of_ble_eq_true rfl)
set_option maxHeartbeats 400000 in
set_option maxRecDepth 100000 in
theorem l_case2 {p : Program} {e : Env} {s : State} {m : MethodId} {below : List Frame} {meth : Method} {c : Code} (l : Launch) {b : Nat} {xs : Nat → Int32} (C0 : lw_At p s m meth c b 8 xs) (hst : l.stackTraces = false) (E : qE) (u v : qS) {H : Heap} {locs : List Loc} {ls : Array Slot} {o : Nat} (hK : va_K E.1 vwCl (qT E) s) (hN : qNs s) (hP : va_P E.1 vwCl (qW E 0 u ++ qW E 1 v) H) (hD : va_D (fun q : Nat => s.heap.size ≤ q) (qW E 0 u ++ qW E 1 v)) (hS : va_S (fun q : Nat => s.heap.size ≤ q) s.heap H locs) (hXs : qXs (fun q : Nat => s.heap.size ≤ q) s H) (hl : lv_has ls 7 [(4, .int 0), (3, .ref o), (2, .ref (E.2.2 1299)), (1, .ref (E.2.2 1199)), (0, .ref b)]) (hfr : l_fresh u v) : W p l e room_1 s m #[Value.ref b] below meth c H locs 92 111496 (lw_Z below #[Value.ref b] s) (F0 m 214 ls []) := by
  obtain ⟨hx, hb, hr, hml, hown, hts, hX, hbl, hlocks, hgv⟩ := id C0
  obtain ⟨fc_8, fc_9, fc_10, fc_11, fc_12, fc_13, fc_14, fc_15, fc_18, fc_311, fc_609, fc_801, fc_900, fc_901, fc_902, fc_909, fm_1202, fm_1210, fm_1230, fm_1231, fm_1232, fm_1239, fm_1247, fm_1256⟩ := hfr
  have hF : qX p m c code 7 s #[Value.ref b] "SecretBuyersLaw" := ⟨hx, hb, hml, hown, fun w h => hts w (qw_in h)⟩
  have hA : ∀ q : Nat, s.heap.size ≤ q → (fun q : Nat => s.heap.size ≤ q) q := fun _ h => h
  have hbA : ¬ (fun q : Nat => s.heap.size ≤ q) b := Nat.not_le.mpr hbl
  refine lv_aload_n hx hb dL_law_214 rfl (lv_at hl 3 rfl) ?_
  refine lv_aload_n hx hb dL_law_215 rfl (lv_at hl 4 rfl) ?_
  refine lv_iload hx hb dL_law_216 (lv_at hl 0 rfl) ?_
  refine lv_iconst (v := 1) hx hb dL_law_218 (by decide) ?_
  refine lv_iadd hx hb dL_law_219 ?_
  refine q_topi (y := 1) (by decide) ?_
  refine va_sld hx hb hX hbl hbA hS (q_in (by decide)) dL_law_220 ?_
  refine lv_aload_n hx hb dL_law_221 rfl (lv_at hl 4 rfl) ?_
  refine lv_iload hx hb dL_law_222 (lv_at hl 0 rfl) ?_
  refine lv_iconst (v := 2) hx hb dL_law_224 (by decide) ?_
  refine lv_iadd hx hb dL_law_225 ?_
  refine q_topi (y := 2) (by decide) ?_
  refine va_sld hx hb hX hbl hbA hS (q_in (by decide)) dL_law_226 ?_
  refine lv_aload_n hx hb dL_law_227 rfl (lv_at hl 4 rfl) ?_
  refine lv_iload hx hb dL_law_228 (lv_at hl 0 rfl) ?_
  refine lv_iconst (v := 3) hx hb dL_law_230 (by decide) ?_
  refine lv_iadd hx hb dL_law_231 ?_
  refine q_topi (y := 3) (by decide) ?_
  refine va_sld hx hb hX hbl hbA hS (q_in (by decide)) dL_law_232 ?_
  refine lv_aload_n hx hb dL_law_233 rfl (lv_at hl 4 rfl) ?_
  refine lv_iload hx hb dL_law_234 (lv_at hl 0 rfl) ?_
  refine lv_iconst (v := 4) hx hb dL_law_236 (by decide) ?_
  refine lv_iadd hx hb dL_law_237 ?_
  refine q_topi (y := 4) (by decide) ?_
  refine va_sld hx hb hX hbl hbA hS (q_in (by decide)) dL_law_238 ?_
  refine lv_aload_n hx hb dL_law_239 rfl (lv_at hl 4 rfl) ?_
  refine lv_iload hx hb dL_law_240 (lv_at hl 0 rfl) ?_
  refine lv_iconst (v := 5) hx hb dL_law_242 (by decide) ?_
  refine lv_iadd hx hb dL_law_243 ?_
  refine q_topi (y := 5) (by decide) ?_
  refine va_sld hx hb hX hbl hbA hS (q_in (by decide)) dL_law_244 ?_
  refine lv_aload_n hx hb dL_law_245 rfl (lv_at hl 4 rfl) ?_
  refine lv_iload hx hb dL_law_246 (lv_at hl 0 rfl) ?_
  refine lv_bipush (v := 6) hx hb dL_law_248 (by decide) ?_
  refine lv_iadd hx hb dL_law_250 ?_
  refine q_topi (y := 6) (by decide) ?_
  refine va_sld hx hb hX hbl hbA hS (q_in (by decide)) dL_law_251 ?_
  refine lv_if_eq (tgt := 259) hx hb dL_law_252 (by decide) (fun c1 => ?_) (fun c1 => ?_)
  · refine lv_iconst (v := 0) hx hb dL_law_259 (by decide) ?_
    have hM9 := fun A' : Nat → Prop => k_X11_shop l E A' u (xs (1 : Int32).toNatClampNeg) (xs (2 : Int32).toNatClampNeg) (xs (3 : Int32).toNatClampNeg) (xs (4 : Int32).toNatClampNeg) (xs (5 : Int32).toNatClampNeg) 0 fc_8 (by decide) (by decide)
    refine l_callC (As := [.int (xs (1 : Int32).toNatClampNeg), .int (xs (2 : Int32).toNatClampNeg), .int (xs (3 : Int32).toNatClampNeg), .int (xs (4 : Int32).toNatClampNeg), .int (xs (5 : Int32).toNatClampNeg), .int 0]) (st0 := [.int 0, .int (xs (5 : Int32).toNatClampNeg), .int (xs (4 : Int32).toNatClampNeg), .int (xs (3 : Int32).toNatClampNeg), .int (xs (2 : Int32).toNatClampNeg), .int (xs (1 : Int32).toNatClampNeg), .ref (E.2.2 1199)]) (rest := []) (mc := 2) (ms := 7) (f := 3) hF hK hN hP hD hS hA 6 hM9 w_487 w_488 w_489 w_99 w_490 (by decide +kernel) ⟨Nat.le_of_ble_eq_true rfl, Nat.le_of_ble_eq_true rfl⟩ dL_law_260 rfl hl.1 rfl (Nat.le_of_ble_eq_true rfl) ⟨Nat.le_of_ble_eq_true rfl, Nat.le_of_ble_eq_true rfl⟩ (fun r3 u1 H locs h2 hV hS => ?_)
    refine lv_aload_n hx hb dL_law_263 rfl (lv_at hl 2 rfl) ?_
    refine lv_aload_n hx hb dL_law_264 rfl (lv_at hl 4 rfl) ?_
    refine lv_iload hx hb dL_law_265 (lv_at hl 0 rfl) ?_
    refine lv_iconst (v := 1) hx hb dL_law_267 (by decide) ?_
    refine lv_iadd hx hb dL_law_268 ?_
    refine q_topi (y := 1) (by decide) ?_
    refine va_sld hx hb hX hbl hbA hS (q_in (by decide)) dL_law_269 ?_
    refine lv_aload_n hx hb dL_law_270 rfl (lv_at hl 4 rfl) ?_
    refine lv_iload hx hb dL_law_271 (lv_at hl 0 rfl) ?_
    refine lv_iconst (v := 2) hx hb dL_law_273 (by decide) ?_
    refine lv_iadd hx hb dL_law_274 ?_
    refine q_topi (y := 2) (by decide) ?_
    refine va_sld hx hb hX hbl hbA hS (q_in (by decide)) dL_law_275 ?_
    refine lv_aload_n hx hb dL_law_276 rfl (lv_at hl 4 rfl) ?_
    refine lv_iload hx hb dL_law_277 (lv_at hl 0 rfl) ?_
    refine lv_iconst (v := 3) hx hb dL_law_279 (by decide) ?_
    refine lv_iadd hx hb dL_law_280 ?_
    refine q_topi (y := 3) (by decide) ?_
    refine va_sld hx hb hX hbl hbA hS (q_in (by decide)) dL_law_281 ?_
    refine lv_aload_n hx hb dL_law_282 rfl (lv_at hl 4 rfl) ?_
    refine lv_iload hx hb dL_law_283 (lv_at hl 0 rfl) ?_
    refine lv_iconst (v := 4) hx hb dL_law_285 (by decide) ?_
    refine lv_iadd hx hb dL_law_286 ?_
    refine q_topi (y := 4) (by decide) ?_
    refine va_sld hx hb hX hbl hbA hS (q_in (by decide)) dL_law_287 ?_
    refine lv_aload_n hx hb dL_law_288 rfl (lv_at hl 4 rfl) ?_
    refine lv_iload hx hb dL_law_289 (lv_at hl 0 rfl) ?_
    refine lv_iconst (v := 5) hx hb dL_law_291 (by decide) ?_
    refine lv_iadd hx hb dL_law_292 ?_
    refine q_topi (y := 5) (by decide) ?_
    refine va_sld hx hb hX hbl hbA hS (q_in (by decide)) dL_law_293 ?_
    refine lv_aload_n hx hb dL_law_294 rfl (lv_at hl 4 rfl) ?_
    refine lv_iload hx hb dL_law_295 (lv_at hl 0 rfl) ?_
    refine lv_bipush (v := 6) hx hb dL_law_297 (by decide) ?_
    refine lv_iadd hx hb dL_law_299 ?_
    refine q_topi (y := 6) (by decide) ?_
    refine va_sld hx hb hX hbl hbA hS (q_in (by decide)) dL_law_300 ?_
    refine lv_if_eq (tgt := 308) hx hb dL_law_301 (by decide) (fun _ => ?_) (fun h9 => absurd c1 h9)
    refine lv_iconst (v := 0) hx hb dL_law_308 (by decide) ?_
    have hM9 := k_X12_shop l E (fun q : Nat => s.heap.size ≤ q) v (xs (1 : Int32).toNatClampNeg) (xs (2 : Int32).toNatClampNeg) (xs (3 : Int32).toNatClampNeg) (xs (4 : Int32).toNatClampNeg) (xs (5 : Int32).toNatClampNeg) 0 fm_1232
    have hR9 := q_runV (l := l) (e := e) (below := below) (meth := meth) (R := room_1) (cells := 94) (slots := 111503) (st0 := [.int 0, .int (xs (5 : Int32).toNatClampNeg), .int (xs (4 : Int32).toNatClampNeg), .int (xs (3 : Int32).toNatClampNeg), .int (xs (2 : Int32).toNatClampNeg), .int (xs (1 : Int32).toNatClampNeg), .ref (E.2.2 1299), .int r3]) (rest := [.int r3]) hF hV hS hA 6 0 12 1299 rfl rfl rfl hM9 w_1691 w_1692 w_1693 w_107 w_1694 (by decide +kernel) ⟨Nat.le_of_ble_eq_true rfl, Nat.le_of_ble_eq_true rfl⟩ dL_law_309 rfl hl.1 rfl (Nat.le_of_ble_eq_true rfl) ⟨Nat.le_of_ble_eq_true rfl, Nat.le_of_ble_eq_true rfl⟩
    refine q_calli hR9 hN hS (fun r5 v6 H locs h4 hV hS => ?_)
    refine lv_icmp_eq (tgt := 1647) hx hb dL_law_312 (by decide) (fun _ => ?_) (fun hneq => absurd (q_same h2 h4) hneq)
    exact l_exit l C0 hS (lv_sub hl [0, 4] rfl) (Nat.le_of_ble_eq_true rfl) (Nat.le_of_ble_eq_true rfl)
  · refine lv_iconst (v := 1) hx hb dL_law_255 (by decide) ?_
    refine lv_goto (tgt := 260) hx hb dL_law_256 (by decide) ?_
    have hM9 := fun A' : Nat → Prop => k_X11_shop l E A' u (xs (1 : Int32).toNatClampNeg) (xs (2 : Int32).toNatClampNeg) (xs (3 : Int32).toNatClampNeg) (xs (4 : Int32).toNatClampNeg) (xs (5 : Int32).toNatClampNeg) 1 fc_8 (by decide) (by decide)
    refine l_callC (As := [.int (xs (1 : Int32).toNatClampNeg), .int (xs (2 : Int32).toNatClampNeg), .int (xs (3 : Int32).toNatClampNeg), .int (xs (4 : Int32).toNatClampNeg), .int (xs (5 : Int32).toNatClampNeg), .int 1]) (st0 := [.int 1, .int (xs (5 : Int32).toNatClampNeg), .int (xs (4 : Int32).toNatClampNeg), .int (xs (3 : Int32).toNatClampNeg), .int (xs (2 : Int32).toNatClampNeg), .int (xs (1 : Int32).toNatClampNeg), .ref (E.2.2 1199)]) (rest := []) (mc := 2) (ms := 7) (f := 3) hF hK hN hP hD hS hA 6 hM9 w_487 w_488 w_489 w_99 w_490 (by decide +kernel) ⟨Nat.le_of_ble_eq_true rfl, Nat.le_of_ble_eq_true rfl⟩ dL_law_260 rfl hl.1 rfl (Nat.le_of_ble_eq_true rfl) ⟨Nat.le_of_ble_eq_true rfl, Nat.le_of_ble_eq_true rfl⟩ (fun r8 u1 H locs h7 hV hS => ?_)
    refine lv_aload_n hx hb dL_law_263 rfl (lv_at hl 2 rfl) ?_
    refine lv_aload_n hx hb dL_law_264 rfl (lv_at hl 4 rfl) ?_
    refine lv_iload hx hb dL_law_265 (lv_at hl 0 rfl) ?_
    refine lv_iconst (v := 1) hx hb dL_law_267 (by decide) ?_
    refine lv_iadd hx hb dL_law_268 ?_
    refine q_topi (y := 1) (by decide) ?_
    refine va_sld hx hb hX hbl hbA hS (q_in (by decide)) dL_law_269 ?_
    refine lv_aload_n hx hb dL_law_270 rfl (lv_at hl 4 rfl) ?_
    refine lv_iload hx hb dL_law_271 (lv_at hl 0 rfl) ?_
    refine lv_iconst (v := 2) hx hb dL_law_273 (by decide) ?_
    refine lv_iadd hx hb dL_law_274 ?_
    refine q_topi (y := 2) (by decide) ?_
    refine va_sld hx hb hX hbl hbA hS (q_in (by decide)) dL_law_275 ?_
    refine lv_aload_n hx hb dL_law_276 rfl (lv_at hl 4 rfl) ?_
    refine lv_iload hx hb dL_law_277 (lv_at hl 0 rfl) ?_
    refine lv_iconst (v := 3) hx hb dL_law_279 (by decide) ?_
    refine lv_iadd hx hb dL_law_280 ?_
    refine q_topi (y := 3) (by decide) ?_
    refine va_sld hx hb hX hbl hbA hS (q_in (by decide)) dL_law_281 ?_
    refine lv_aload_n hx hb dL_law_282 rfl (lv_at hl 4 rfl) ?_
    refine lv_iload hx hb dL_law_283 (lv_at hl 0 rfl) ?_
    refine lv_iconst (v := 4) hx hb dL_law_285 (by decide) ?_
    refine lv_iadd hx hb dL_law_286 ?_
    refine q_topi (y := 4) (by decide) ?_
    refine va_sld hx hb hX hbl hbA hS (q_in (by decide)) dL_law_287 ?_
    refine lv_aload_n hx hb dL_law_288 rfl (lv_at hl 4 rfl) ?_
    refine lv_iload hx hb dL_law_289 (lv_at hl 0 rfl) ?_
    refine lv_iconst (v := 5) hx hb dL_law_291 (by decide) ?_
    refine lv_iadd hx hb dL_law_292 ?_
    refine q_topi (y := 5) (by decide) ?_
    refine va_sld hx hb hX hbl hbA hS (q_in (by decide)) dL_law_293 ?_
    refine lv_aload_n hx hb dL_law_294 rfl (lv_at hl 4 rfl) ?_
    refine lv_iload hx hb dL_law_295 (lv_at hl 0 rfl) ?_
    refine lv_bipush (v := 6) hx hb dL_law_297 (by decide) ?_
    refine lv_iadd hx hb dL_law_299 ?_
    refine q_topi (y := 6) (by decide) ?_
    refine va_sld hx hb hX hbl hbA hS (q_in (by decide)) dL_law_300 ?_
    refine lv_if_eq (tgt := 308) hx hb dL_law_301 (by decide) (fun h9 => absurd h9 c1) (fun _ => ?_)
    refine lv_iconst (v := 1) hx hb dL_law_304 (by decide) ?_
    refine lv_goto (tgt := 309) hx hb dL_law_305 (by decide) ?_
    have hM9 := k_X12_shop l E (fun q : Nat => s.heap.size ≤ q) v (xs (1 : Int32).toNatClampNeg) (xs (2 : Int32).toNatClampNeg) (xs (3 : Int32).toNatClampNeg) (xs (4 : Int32).toNatClampNeg) (xs (5 : Int32).toNatClampNeg) 1 fm_1232
    have hR9 := q_runV (l := l) (e := e) (below := below) (meth := meth) (R := room_1) (cells := 94) (slots := 111503) (st0 := [.int 1, .int (xs (5 : Int32).toNatClampNeg), .int (xs (4 : Int32).toNatClampNeg), .int (xs (3 : Int32).toNatClampNeg), .int (xs (2 : Int32).toNatClampNeg), .int (xs (1 : Int32).toNatClampNeg), .ref (E.2.2 1299), .int r8]) (rest := [.int r8]) hF hV hS hA 6 0 12 1299 rfl rfl rfl hM9 w_1691 w_1692 w_1693 w_107 w_1694 (by decide +kernel) ⟨Nat.le_of_ble_eq_true rfl, Nat.le_of_ble_eq_true rfl⟩ dL_law_309 rfl hl.1 rfl (Nat.le_of_ble_eq_true rfl) ⟨Nat.le_of_ble_eq_true rfl, Nat.le_of_ble_eq_true rfl⟩
    refine q_calli hR9 hN hS (fun r10 v11 H locs h9 hV hS => ?_)
    refine lv_icmp_eq (tgt := 1647) hx hb dL_law_312 (by decide) (fun _ => ?_) (fun hneq => absurd (q_same h7 h9) hneq)
    exact l_exit l C0 hS (lv_sub hl [0, 4] rfl) (Nat.le_of_ble_eq_true rfl) (Nat.le_of_ble_eq_true rfl)
set_option maxHeartbeats 400000 in
set_option maxRecDepth 100000 in
theorem l_case3 {p : Program} {e : Env} {s : State} {m : MethodId} {below : List Frame} {meth : Method} {c : Code} (l : Launch) {b : Nat} {xs : Nat → Int32} (C0 : lw_At p s m meth c b 8 xs) (hst : l.stackTraces = false) (E : qE) (u v : qS) {H : Heap} {locs : List Loc} {ls : Array Slot} {o : Nat} (hK : va_K E.1 vwCl (qT E) s) (hN : qNs s) (hP : va_P E.1 vwCl (qW E 0 u ++ qW E 1 v) H) (hD : va_D (fun q : Nat => s.heap.size ≤ q) (qW E 0 u ++ qW E 1 v)) (hS : va_S (fun q : Nat => s.heap.size ≤ q) s.heap H locs) (hXs : qXs (fun q : Nat => s.heap.size ≤ q) s H) (hl : lv_has ls 7 [(4, .int 0), (3, .ref o), (2, .ref (E.2.2 1299)), (1, .ref (E.2.2 1199)), (0, .ref b)]) (hfr : l_fresh u v) : W p l e room_1 s m #[Value.ref b] below meth c H locs 92 111496 (lw_Z below #[Value.ref b] s) (F0 m 317 ls []) := by
  obtain ⟨hx, hb, hr, hml, hown, hts, hX, hbl, hlocks, hgv⟩ := id C0
  obtain ⟨fc_8, fc_9, fc_10, fc_11, fc_12, fc_13, fc_14, fc_15, fc_18, fc_311, fc_609, fc_801, fc_900, fc_901, fc_902, fc_909, fm_1202, fm_1210, fm_1230, fm_1231, fm_1232, fm_1239, fm_1247, fm_1256⟩ := hfr
  have hF : qX p m c code 7 s #[Value.ref b] "SecretBuyersLaw" := ⟨hx, hb, hml, hown, fun w h => hts w (qw_in h)⟩
  have hA : ∀ q : Nat, s.heap.size ≤ q → (fun q : Nat => s.heap.size ≤ q) q := fun _ h => h
  have hbA : ¬ (fun q : Nat => s.heap.size ≤ q) b := Nat.not_le.mpr hbl
  refine lv_aload_n hx hb dL_law_317 rfl (lv_at hl 3 rfl) ?_
  refine lv_aload_n hx hb dL_law_318 rfl (lv_at hl 4 rfl) ?_
  refine lv_iload hx hb dL_law_319 (lv_at hl 0 rfl) ?_
  refine lv_iconst (v := 1) hx hb dL_law_321 (by decide) ?_
  refine lv_iadd hx hb dL_law_322 ?_
  refine q_topi (y := 1) (by decide) ?_
  refine va_sld hx hb hX hbl hbA hS (q_in (by decide)) dL_law_323 ?_
  refine lv_aload_n hx hb dL_law_324 rfl (lv_at hl 4 rfl) ?_
  refine lv_iload hx hb dL_law_325 (lv_at hl 0 rfl) ?_
  refine lv_iconst (v := 2) hx hb dL_law_327 (by decide) ?_
  refine lv_iadd hx hb dL_law_328 ?_
  refine q_topi (y := 2) (by decide) ?_
  refine va_sld hx hb hX hbl hbA hS (q_in (by decide)) dL_law_329 ?_
  have hM9 := fun A' : Nat → Prop => k_X11_buyer l E A' u (xs (1 : Int32).toNatClampNeg) (xs (2 : Int32).toNatClampNeg) fc_9
  refine l_callC (As := [.int (xs (1 : Int32).toNatClampNeg), .int (xs (2 : Int32).toNatClampNeg)]) (st0 := [.int (xs (2 : Int32).toNatClampNeg), .int (xs (1 : Int32).toNatClampNeg), .ref (E.2.2 1199)]) (rest := []) (mc := 1) (ms := 2) (f := 3) hF hK hN hP hD hS hA 2 hM9 w_543 w_544 w_545 w_99 w_546 (by decide +kernel) ⟨Nat.le_of_ble_eq_true rfl, Nat.le_of_ble_eq_true rfl⟩ dL_law_330 rfl hl.1 rfl (Nat.le_of_ble_eq_true rfl) ⟨Nat.le_of_ble_eq_true rfl, Nat.le_of_ble_eq_true rfl⟩ (fun r2 u1 H locs h1 hV hS => ?_)
  refine lv_aload_n hx hb dL_law_333 rfl (lv_at hl 2 rfl) ?_
  refine lv_aload_n hx hb dL_law_334 rfl (lv_at hl 4 rfl) ?_
  refine lv_iload hx hb dL_law_335 (lv_at hl 0 rfl) ?_
  refine lv_iconst (v := 1) hx hb dL_law_337 (by decide) ?_
  refine lv_iadd hx hb dL_law_338 ?_
  refine q_topi (y := 1) (by decide) ?_
  refine va_sld hx hb hX hbl hbA hS (q_in (by decide)) dL_law_339 ?_
  refine lv_aload_n hx hb dL_law_340 rfl (lv_at hl 4 rfl) ?_
  refine lv_iload hx hb dL_law_341 (lv_at hl 0 rfl) ?_
  refine lv_iconst (v := 2) hx hb dL_law_343 (by decide) ?_
  refine lv_iadd hx hb dL_law_344 ?_
  refine q_topi (y := 2) (by decide) ?_
  refine va_sld hx hb hX hbl hbA hS (q_in (by decide)) dL_law_345 ?_
  have hM9 := k_X12_buyer l E (fun q : Nat => s.heap.size ≤ q) v (xs (1 : Int32).toNatClampNeg) (xs (2 : Int32).toNatClampNeg) fm_1239
  have hR9 := q_runV (l := l) (e := e) (below := below) (meth := meth) (R := room_1) (cells := 93) (slots := 111498) (st0 := [.int (xs (2 : Int32).toNatClampNeg), .int (xs (1 : Int32).toNatClampNeg), .ref (E.2.2 1299), .int r2]) (rest := [.int r2]) hF hV hS hA 2 0 12 1299 rfl rfl rfl hM9 w_1698 w_1699 w_1700 w_107 w_1701 (by decide +kernel) ⟨Nat.le_of_ble_eq_true rfl, Nat.le_of_ble_eq_true rfl⟩ dL_law_346 rfl hl.1 rfl (Nat.le_of_ble_eq_true rfl) ⟨Nat.le_of_ble_eq_true rfl, Nat.le_of_ble_eq_true rfl⟩
  refine q_calli hR9 hN hS (fun r4 v5 H locs h3 hV hS => ?_)
  refine lv_icmp_eq (tgt := 1647) hx hb dL_law_349 (by decide) (fun _ => ?_) (fun hneq => absurd (q_same h1 h3) hneq)
  exact l_exit l C0 hS (lv_sub hl [0, 4] rfl) (Nat.le_of_ble_eq_true rfl) (Nat.le_of_ble_eq_true rfl)
set_option maxHeartbeats 400000 in
set_option maxRecDepth 100000 in
theorem l_case4 {p : Program} {e : Env} {s : State} {m : MethodId} {below : List Frame} {meth : Method} {c : Code} (l : Launch) {b : Nat} {xs : Nat → Int32} (C0 : lw_At p s m meth c b 8 xs) (hst : l.stackTraces = false) (E : qE) (u v : qS) {H : Heap} {locs : List Loc} {ls : Array Slot} {o : Nat} (hK : va_K E.1 vwCl (qT E) s) (hN : qNs s) (hP : va_P E.1 vwCl (qW E 0 u ++ qW E 1 v) H) (hD : va_D (fun q : Nat => s.heap.size ≤ q) (qW E 0 u ++ qW E 1 v)) (hS : va_S (fun q : Nat => s.heap.size ≤ q) s.heap H locs) (hXs : qXs (fun q : Nat => s.heap.size ≤ q) s H) (hl : lv_has ls 7 [(4, .int 0), (3, .ref o), (2, .ref (E.2.2 1299)), (1, .ref (E.2.2 1199)), (0, .ref b)]) (hfr : l_fresh u v) : W p l e room_1 s m #[Value.ref b] below meth c H locs 92 111496 (lw_Z below #[Value.ref b] s) (F0 m 354 ls []) := by
  obtain ⟨hx, hb, hr, hml, hown, hts, hX, hbl, hlocks, hgv⟩ := id C0
  obtain ⟨fc_8, fc_9, fc_10, fc_11, fc_12, fc_13, fc_14, fc_15, fc_18, fc_311, fc_609, fc_801, fc_900, fc_901, fc_902, fc_909, fm_1202, fm_1210, fm_1230, fm_1231, fm_1232, fm_1239, fm_1247, fm_1256⟩ := hfr
  have hF : qX p m c code 7 s #[Value.ref b] "SecretBuyersLaw" := ⟨hx, hb, hml, hown, fun w h => hts w (qw_in h)⟩
  have hA : ∀ q : Nat, s.heap.size ≤ q → (fun q : Nat => s.heap.size ≤ q) q := fun _ h => h
  have hbA : ¬ (fun q : Nat => s.heap.size ≤ q) b := Nat.not_le.mpr hbl
  refine lv_aload_n hx hb dL_law_354 rfl (lv_at hl 3 rfl) ?_
  refine lv_aload_n hx hb dL_law_355 rfl (lv_at hl 4 rfl) ?_
  refine lv_iload hx hb dL_law_356 (lv_at hl 0 rfl) ?_
  refine lv_iconst (v := 1) hx hb dL_law_358 (by decide) ?_
  refine lv_iadd hx hb dL_law_359 ?_
  refine q_topi (y := 1) (by decide) ?_
  refine va_sld hx hb hX hbl hbA hS (q_in (by decide)) dL_law_360 ?_
  refine lv_aload_n hx hb dL_law_361 rfl (lv_at hl 4 rfl) ?_
  refine lv_iload hx hb dL_law_362 (lv_at hl 0 rfl) ?_
  refine lv_iconst (v := 2) hx hb dL_law_364 (by decide) ?_
  refine lv_iadd hx hb dL_law_365 ?_
  refine q_topi (y := 2) (by decide) ?_
  refine va_sld hx hb hX hbl hbA hS (q_in (by decide)) dL_law_366 ?_
  refine lv_aload_n hx hb dL_law_367 rfl (lv_at hl 4 rfl) ?_
  refine lv_iload hx hb dL_law_368 (lv_at hl 0 rfl) ?_
  refine lv_iconst (v := 3) hx hb dL_law_370 (by decide) ?_
  refine lv_iadd hx hb dL_law_371 ?_
  refine q_topi (y := 3) (by decide) ?_
  refine va_sld hx hb hX hbl hbA hS (q_in (by decide)) dL_law_372 ?_
  have hM9 := fun A' : Nat → Prop => k_X11_terms l E A' u (xs (1 : Int32).toNatClampNeg) (xs (2 : Int32).toNatClampNeg) (xs (3 : Int32).toNatClampNeg) 
  refine l_callC (As := [.int (xs (1 : Int32).toNatClampNeg), .int (xs (2 : Int32).toNatClampNeg), .int (xs (3 : Int32).toNatClampNeg)]) (st0 := [.int (xs (3 : Int32).toNatClampNeg), .int (xs (2 : Int32).toNatClampNeg), .int (xs (1 : Int32).toNatClampNeg), .ref (E.2.2 1199)]) (rest := []) (mc := 0) (ms := 0) (f := 2) hF hK hN hP hD hS hA 3 hM9 w_547 w_548 w_549 w_99 w_550 (by decide +kernel) ⟨Nat.le_of_ble_eq_true rfl, Nat.le_of_ble_eq_true rfl⟩ dL_law_373 rfl hl.1 rfl (Nat.le_of_ble_eq_true rfl) ⟨Nat.le_of_ble_eq_true rfl, Nat.le_of_ble_eq_true rfl⟩ (fun r2 u1 H locs h1 hV hS => ?_)
  refine lv_aload_n hx hb dL_law_376 rfl (lv_at hl 2 rfl) ?_
  refine lv_aload_n hx hb dL_law_377 rfl (lv_at hl 4 rfl) ?_
  refine lv_iload hx hb dL_law_378 (lv_at hl 0 rfl) ?_
  refine lv_iconst (v := 1) hx hb dL_law_380 (by decide) ?_
  refine lv_iadd hx hb dL_law_381 ?_
  refine q_topi (y := 1) (by decide) ?_
  refine va_sld hx hb hX hbl hbA hS (q_in (by decide)) dL_law_382 ?_
  refine lv_aload_n hx hb dL_law_383 rfl (lv_at hl 4 rfl) ?_
  refine lv_iload hx hb dL_law_384 (lv_at hl 0 rfl) ?_
  refine lv_iconst (v := 2) hx hb dL_law_386 (by decide) ?_
  refine lv_iadd hx hb dL_law_387 ?_
  refine q_topi (y := 2) (by decide) ?_
  refine va_sld hx hb hX hbl hbA hS (q_in (by decide)) dL_law_388 ?_
  refine lv_aload_n hx hb dL_law_389 rfl (lv_at hl 4 rfl) ?_
  refine lv_iload hx hb dL_law_390 (lv_at hl 0 rfl) ?_
  refine lv_iconst (v := 3) hx hb dL_law_392 (by decide) ?_
  refine lv_iadd hx hb dL_law_393 ?_
  refine q_topi (y := 3) (by decide) ?_
  refine va_sld hx hb hX hbl hbA hS (q_in (by decide)) dL_law_394 ?_
  have hM9 := k_X12_terms l E (fun q : Nat => s.heap.size ≤ q) v (xs (1 : Int32).toNatClampNeg) (xs (2 : Int32).toNatClampNeg) (xs (3 : Int32).toNatClampNeg) 
  have hR9 := q_runV (l := l) (e := e) (below := below) (meth := meth) (R := room_1) (cells := 92) (slots := 111496) (st0 := [.int (xs (3 : Int32).toNatClampNeg), .int (xs (2 : Int32).toNatClampNeg), .int (xs (1 : Int32).toNatClampNeg), .ref (E.2.2 1299), .int r2]) (rest := [.int r2]) hF hV hS hA 3 0 12 1299 rfl rfl rfl hM9 w_1702 w_1703 w_1704 w_107 w_1705 (by decide +kernel) ⟨Nat.le_of_ble_eq_true rfl, Nat.le_of_ble_eq_true rfl⟩ dL_law_395 rfl hl.1 rfl (Nat.le_of_ble_eq_true rfl) ⟨Nat.le_of_ble_eq_true rfl, Nat.le_of_ble_eq_true rfl⟩
  refine q_calli hR9 hN hS (fun r4 v5 H locs h3 hV hS => ?_)
  refine lv_icmp_eq (tgt := 1647) hx hb dL_law_398 (by decide) (fun _ => ?_) (fun hneq => absurd (q_same h1 h3) hneq)
  exact l_exit l C0 hS (lv_sub hl [0, 4] rfl) (Nat.le_of_ble_eq_true rfl) (Nat.le_of_ble_eq_true rfl)
set_option maxHeartbeats 400000 in
set_option maxRecDepth 100000 in
theorem l_case5 {p : Program} {e : Env} {s : State} {m : MethodId} {below : List Frame} {meth : Method} {c : Code} (l : Launch) {b : Nat} {xs : Nat → Int32} (C0 : lw_At p s m meth c b 8 xs) (hst : l.stackTraces = false) (E : qE) (u v : qS) {H : Heap} {locs : List Loc} {ls : Array Slot} {o : Nat} (hK : va_K E.1 vwCl (qT E) s) (hN : qNs s) (hP : va_P E.1 vwCl (qW E 0 u ++ qW E 1 v) H) (hD : va_D (fun q : Nat => s.heap.size ≤ q) (qW E 0 u ++ qW E 1 v)) (hS : va_S (fun q : Nat => s.heap.size ≤ q) s.heap H locs) (hXs : qXs (fun q : Nat => s.heap.size ≤ q) s H) (hl : lv_has ls 7 [(4, .int 0), (3, .ref o), (2, .ref (E.2.2 1299)), (1, .ref (E.2.2 1199)), (0, .ref b)]) (hfr : l_fresh u v) : W p l e room_1 s m #[Value.ref b] below meth c H locs 92 111496 (lw_Z below #[Value.ref b] s) (F0 m 403 ls []) := by
  obtain ⟨hx, hb, hr, hml, hown, hts, hX, hbl, hlocks, hgv⟩ := id C0
  obtain ⟨fc_8, fc_9, fc_10, fc_11, fc_12, fc_13, fc_14, fc_15, fc_18, fc_311, fc_609, fc_801, fc_900, fc_901, fc_902, fc_909, fm_1202, fm_1210, fm_1230, fm_1231, fm_1232, fm_1239, fm_1247, fm_1256⟩ := hfr
  have hF : qX p m c code 7 s #[Value.ref b] "SecretBuyersLaw" := ⟨hx, hb, hml, hown, fun w h => hts w (qw_in h)⟩
  have hA : ∀ q : Nat, s.heap.size ≤ q → (fun q : Nat => s.heap.size ≤ q) q := fun _ h => h
  have hbA : ¬ (fun q : Nat => s.heap.size ≤ q) b := Nat.not_le.mpr hbl
  refine lv_aload_n hx hb dL_law_403 rfl (lv_at hl 3 rfl) ?_
  refine lv_aload_n hx hb dL_law_404 rfl (lv_at hl 4 rfl) ?_
  refine lv_iload hx hb dL_law_405 (lv_at hl 0 rfl) ?_
  refine lv_iconst (v := 1) hx hb dL_law_407 (by decide) ?_
  refine lv_iadd hx hb dL_law_408 ?_
  refine q_topi (y := 1) (by decide) ?_
  refine va_sld hx hb hX hbl hbA hS (q_in (by decide)) dL_law_409 ?_
  refine lv_aload_n hx hb dL_law_410 rfl (lv_at hl 4 rfl) ?_
  refine lv_iload hx hb dL_law_411 (lv_at hl 0 rfl) ?_
  refine lv_iconst (v := 2) hx hb dL_law_413 (by decide) ?_
  refine lv_iadd hx hb dL_law_414 ?_
  refine q_topi (y := 2) (by decide) ?_
  refine va_sld hx hb hX hbl hbA hS (q_in (by decide)) dL_law_415 ?_
  have hM9 := fun A' : Nat → Prop => k_X11_rest l E A' u (xs (1 : Int32).toNatClampNeg) (xs (2 : Int32).toNatClampNeg) 
  refine l_callC (As := [.int (xs (1 : Int32).toNatClampNeg), .int (xs (2 : Int32).toNatClampNeg)]) (st0 := [.int (xs (2 : Int32).toNatClampNeg), .int (xs (1 : Int32).toNatClampNeg), .ref (E.2.2 1199)]) (rest := []) (mc := 0) (ms := 0) (f := 2) hF hK hN hP hD hS hA 2 hM9 w_555 w_556 w_557 w_99 w_558 (by decide +kernel) ⟨Nat.le_of_ble_eq_true rfl, Nat.le_of_ble_eq_true rfl⟩ dL_law_416 rfl hl.1 rfl (Nat.le_of_ble_eq_true rfl) ⟨Nat.le_of_ble_eq_true rfl, Nat.le_of_ble_eq_true rfl⟩ (fun r2 u1 H locs h1 hV hS => ?_)
  refine lv_aload_n hx hb dL_law_419 rfl (lv_at hl 2 rfl) ?_
  refine lv_aload_n hx hb dL_law_420 rfl (lv_at hl 4 rfl) ?_
  refine lv_iload hx hb dL_law_421 (lv_at hl 0 rfl) ?_
  refine lv_iconst (v := 1) hx hb dL_law_423 (by decide) ?_
  refine lv_iadd hx hb dL_law_424 ?_
  refine q_topi (y := 1) (by decide) ?_
  refine va_sld hx hb hX hbl hbA hS (q_in (by decide)) dL_law_425 ?_
  refine lv_aload_n hx hb dL_law_426 rfl (lv_at hl 4 rfl) ?_
  refine lv_iload hx hb dL_law_427 (lv_at hl 0 rfl) ?_
  refine lv_iconst (v := 2) hx hb dL_law_429 (by decide) ?_
  refine lv_iadd hx hb dL_law_430 ?_
  refine q_topi (y := 2) (by decide) ?_
  refine va_sld hx hb hX hbl hbA hS (q_in (by decide)) dL_law_431 ?_
  have hM9 := k_X12_rest l E (fun q : Nat => s.heap.size ≤ q) v (xs (1 : Int32).toNatClampNeg) (xs (2 : Int32).toNatClampNeg) 
  have hR9 := q_runV (l := l) (e := e) (below := below) (meth := meth) (R := room_1) (cells := 92) (slots := 111496) (st0 := [.int (xs (2 : Int32).toNatClampNeg), .int (xs (1 : Int32).toNatClampNeg), .ref (E.2.2 1299), .int r2]) (rest := [.int r2]) hF hV hS hA 2 0 12 1299 rfl rfl rfl hM9 w_1706 w_1707 w_1708 w_107 w_1709 (by decide +kernel) ⟨Nat.le_of_ble_eq_true rfl, Nat.le_of_ble_eq_true rfl⟩ dL_law_432 rfl hl.1 rfl (Nat.le_of_ble_eq_true rfl) ⟨Nat.le_of_ble_eq_true rfl, Nat.le_of_ble_eq_true rfl⟩
  refine q_calli hR9 hN hS (fun r4 v5 H locs h3 hV hS => ?_)
  refine lv_icmp_eq (tgt := 1647) hx hb dL_law_435 (by decide) (fun _ => ?_) (fun hneq => absurd (q_same h1 h3) hneq)
  exact l_exit l C0 hS (lv_sub hl [0, 4] rfl) (Nat.le_of_ble_eq_true rfl) (Nat.le_of_ble_eq_true rfl)
set_option maxHeartbeats 400000 in
set_option maxRecDepth 100000 in
theorem l_case6 {p : Program} {e : Env} {s : State} {m : MethodId} {below : List Frame} {meth : Method} {c : Code} (l : Launch) {b : Nat} {xs : Nat → Int32} (C0 : lw_At p s m meth c b 8 xs) (hst : l.stackTraces = false) (E : qE) (u v : qS) {H : Heap} {locs : List Loc} {ls : Array Slot} {o : Nat} (hK : va_K E.1 vwCl (qT E) s) (hN : qNs s) (hP : va_P E.1 vwCl (qW E 0 u ++ qW E 1 v) H) (hD : va_D (fun q : Nat => s.heap.size ≤ q) (qW E 0 u ++ qW E 1 v)) (hS : va_S (fun q : Nat => s.heap.size ≤ q) s.heap H locs) (hXs : qXs (fun q : Nat => s.heap.size ≤ q) s H) (hl : lv_has ls 7 [(4, .int 0), (3, .ref o), (2, .ref (E.2.2 1299)), (1, .ref (E.2.2 1199)), (0, .ref b)]) (hfr : l_fresh u v) : W p l e room_1 s m #[Value.ref b] below meth c H locs 92 111496 (lw_Z below #[Value.ref b] s) (F0 m 440 ls []) := by
  obtain ⟨hx, hb, hr, hml, hown, hts, hX, hbl, hlocks, hgv⟩ := id C0
  obtain ⟨fc_8, fc_9, fc_10, fc_11, fc_12, fc_13, fc_14, fc_15, fc_18, fc_311, fc_609, fc_801, fc_900, fc_901, fc_902, fc_909, fm_1202, fm_1210, fm_1230, fm_1231, fm_1232, fm_1239, fm_1247, fm_1256⟩ := hfr
  have hF : qX p m c code 7 s #[Value.ref b] "SecretBuyersLaw" := ⟨hx, hb, hml, hown, fun w h => hts w (qw_in h)⟩
  have hA : ∀ q : Nat, s.heap.size ≤ q → (fun q : Nat => s.heap.size ≤ q) q := fun _ h => h
  have hbA : ¬ (fun q : Nat => s.heap.size ≤ q) b := Nat.not_le.mpr hbl
  refine lv_aload_n hx hb dL_law_440 rfl (lv_at hl 3 rfl) ?_
  refine lv_aload_n hx hb dL_law_441 rfl (lv_at hl 4 rfl) ?_
  refine lv_iload hx hb dL_law_442 (lv_at hl 0 rfl) ?_
  refine lv_iconst (v := 1) hx hb dL_law_444 (by decide) ?_
  refine lv_iadd hx hb dL_law_445 ?_
  refine q_topi (y := 1) (by decide) ?_
  refine va_sld hx hb hX hbl hbA hS (q_in (by decide)) dL_law_446 ?_
  refine lv_aload_n hx hb dL_law_447 rfl (lv_at hl 4 rfl) ?_
  refine lv_iload hx hb dL_law_448 (lv_at hl 0 rfl) ?_
  refine lv_iconst (v := 2) hx hb dL_law_450 (by decide) ?_
  refine lv_iadd hx hb dL_law_451 ?_
  refine q_topi (y := 2) (by decide) ?_
  refine va_sld hx hb hX hbl hbA hS (q_in (by decide)) dL_law_452 ?_
  refine lv_aload_n hx hb dL_law_453 rfl (lv_at hl 4 rfl) ?_
  refine lv_iload hx hb dL_law_454 (lv_at hl 0 rfl) ?_
  refine lv_iconst (v := 3) hx hb dL_law_456 (by decide) ?_
  refine lv_iadd hx hb dL_law_457 ?_
  refine q_topi (y := 3) (by decide) ?_
  refine va_sld hx hb hX hbl hbA hS (q_in (by decide)) dL_law_458 ?_
  refine lv_aload_n hx hb dL_law_459 rfl (lv_at hl 4 rfl) ?_
  refine lv_iload hx hb dL_law_460 (lv_at hl 0 rfl) ?_
  refine lv_iconst (v := 4) hx hb dL_law_462 (by decide) ?_
  refine lv_iadd hx hb dL_law_463 ?_
  refine q_topi (y := 4) (by decide) ?_
  refine va_sld hx hb hX hbl hbA hS (q_in (by decide)) dL_law_464 ?_
  refine lv_aload_n hx hb dL_law_465 rfl (lv_at hl 4 rfl) ?_
  refine lv_iload hx hb dL_law_466 (lv_at hl 0 rfl) ?_
  refine lv_iconst (v := 5) hx hb dL_law_468 (by decide) ?_
  refine lv_iadd hx hb dL_law_469 ?_
  refine q_topi (y := 5) (by decide) ?_
  refine va_sld hx hb hX hbl hbA hS (q_in (by decide)) dL_law_470 ?_
  refine lv_aload_n hx hb dL_law_471 rfl (lv_at hl 4 rfl) ?_
  refine lv_iload hx hb dL_law_472 (lv_at hl 0 rfl) ?_
  refine lv_bipush (v := 6) hx hb dL_law_474 (by decide) ?_
  refine lv_iadd hx hb dL_law_476 ?_
  refine q_topi (y := 6) (by decide) ?_
  refine va_sld hx hb hX hbl hbA hS (q_in (by decide)) dL_law_477 ?_
  refine lv_aload_n hx hb dL_law_478 rfl (lv_at hl 4 rfl) ?_
  refine lv_iload hx hb dL_law_479 (lv_at hl 0 rfl) ?_
  refine lv_bipush (v := 7) hx hb dL_law_481 (by decide) ?_
  refine lv_iadd hx hb dL_law_483 ?_
  refine q_topi (y := 7) (by decide) ?_
  refine va_sld hx hb hX hbl hbA hS (q_in (by decide)) dL_law_484 ?_
  have hM9 := fun A' : Nat → Prop => k_X11_visit l E A' u (xs (1 : Int32).toNatClampNeg) (xs (2 : Int32).toNatClampNeg) (xs (3 : Int32).toNatClampNeg) (xs (4 : Int32).toNatClampNeg) (xs (5 : Int32).toNatClampNeg) (xs (6 : Int32).toNatClampNeg) (xs (7 : Int32).toNatClampNeg) fc_8
  refine l_callC (As := [.int (xs (1 : Int32).toNatClampNeg), .int (xs (2 : Int32).toNatClampNeg), .int (xs (3 : Int32).toNatClampNeg), .int (xs (4 : Int32).toNatClampNeg), .int (xs (5 : Int32).toNatClampNeg), .int (xs (6 : Int32).toNatClampNeg), .int (xs (7 : Int32).toNatClampNeg)]) (st0 := [.int (xs (7 : Int32).toNatClampNeg), .int (xs (6 : Int32).toNatClampNeg), .int (xs (5 : Int32).toNatClampNeg), .int (xs (4 : Int32).toNatClampNeg), .int (xs (3 : Int32).toNatClampNeg), .int (xs (2 : Int32).toNatClampNeg), .int (xs (1 : Int32).toNatClampNeg), .ref (E.2.2 1199)]) (rest := []) (mc := 0) (ms := 0) (f := 3) hF hK hN hP hD hS hA 7 hM9 w_559 w_560 w_561 w_99 w_562 (by decide +kernel) ⟨Nat.le_of_ble_eq_true rfl, Nat.le_of_ble_eq_true rfl⟩ dL_law_485 rfl hl.1 rfl (Nat.le_of_ble_eq_true rfl) ⟨Nat.le_of_ble_eq_true rfl, Nat.le_of_ble_eq_true rfl⟩ (fun r2 u1 H locs h1 hV hS => ?_)
  refine lv_aload_n hx hb dL_law_488 rfl (lv_at hl 2 rfl) ?_
  refine lv_aload_n hx hb dL_law_489 rfl (lv_at hl 4 rfl) ?_
  refine lv_iload hx hb dL_law_490 (lv_at hl 0 rfl) ?_
  refine lv_iconst (v := 1) hx hb dL_law_492 (by decide) ?_
  refine lv_iadd hx hb dL_law_493 ?_
  refine q_topi (y := 1) (by decide) ?_
  refine va_sld hx hb hX hbl hbA hS (q_in (by decide)) dL_law_494 ?_
  refine lv_aload_n hx hb dL_law_495 rfl (lv_at hl 4 rfl) ?_
  refine lv_iload hx hb dL_law_496 (lv_at hl 0 rfl) ?_
  refine lv_iconst (v := 2) hx hb dL_law_498 (by decide) ?_
  refine lv_iadd hx hb dL_law_499 ?_
  refine q_topi (y := 2) (by decide) ?_
  refine va_sld hx hb hX hbl hbA hS (q_in (by decide)) dL_law_500 ?_
  refine lv_aload_n hx hb dL_law_501 rfl (lv_at hl 4 rfl) ?_
  refine lv_iload hx hb dL_law_502 (lv_at hl 0 rfl) ?_
  refine lv_iconst (v := 3) hx hb dL_law_504 (by decide) ?_
  refine lv_iadd hx hb dL_law_505 ?_
  refine q_topi (y := 3) (by decide) ?_
  refine va_sld hx hb hX hbl hbA hS (q_in (by decide)) dL_law_506 ?_
  refine lv_aload_n hx hb dL_law_507 rfl (lv_at hl 4 rfl) ?_
  refine lv_iload hx hb dL_law_508 (lv_at hl 0 rfl) ?_
  refine lv_iconst (v := 4) hx hb dL_law_510 (by decide) ?_
  refine lv_iadd hx hb dL_law_511 ?_
  refine q_topi (y := 4) (by decide) ?_
  refine va_sld hx hb hX hbl hbA hS (q_in (by decide)) dL_law_512 ?_
  refine lv_aload_n hx hb dL_law_513 rfl (lv_at hl 4 rfl) ?_
  refine lv_iload hx hb dL_law_514 (lv_at hl 0 rfl) ?_
  refine lv_iconst (v := 5) hx hb dL_law_516 (by decide) ?_
  refine lv_iadd hx hb dL_law_517 ?_
  refine q_topi (y := 5) (by decide) ?_
  refine va_sld hx hb hX hbl hbA hS (q_in (by decide)) dL_law_518 ?_
  refine lv_aload_n hx hb dL_law_519 rfl (lv_at hl 4 rfl) ?_
  refine lv_iload hx hb dL_law_520 (lv_at hl 0 rfl) ?_
  refine lv_bipush (v := 6) hx hb dL_law_522 (by decide) ?_
  refine lv_iadd hx hb dL_law_524 ?_
  refine q_topi (y := 6) (by decide) ?_
  refine va_sld hx hb hX hbl hbA hS (q_in (by decide)) dL_law_525 ?_
  refine lv_aload_n hx hb dL_law_526 rfl (lv_at hl 4 rfl) ?_
  refine lv_iload hx hb dL_law_527 (lv_at hl 0 rfl) ?_
  refine lv_bipush (v := 7) hx hb dL_law_529 (by decide) ?_
  refine lv_iadd hx hb dL_law_531 ?_
  refine q_topi (y := 7) (by decide) ?_
  refine va_sld hx hb hX hbl hbA hS (q_in (by decide)) dL_law_532 ?_
  have hM9 := k_X12_visit l E (fun q : Nat => s.heap.size ≤ q) v (xs (1 : Int32).toNatClampNeg) (xs (2 : Int32).toNatClampNeg) (xs (3 : Int32).toNatClampNeg) (xs (4 : Int32).toNatClampNeg) (xs (5 : Int32).toNatClampNeg) (xs (6 : Int32).toNatClampNeg) (xs (7 : Int32).toNatClampNeg) fm_1232
  have hR9 := q_runV (l := l) (e := e) (below := below) (meth := meth) (R := room_1) (cells := 92) (slots := 111496) (st0 := [.int (xs (7 : Int32).toNatClampNeg), .int (xs (6 : Int32).toNatClampNeg), .int (xs (5 : Int32).toNatClampNeg), .int (xs (4 : Int32).toNatClampNeg), .int (xs (3 : Int32).toNatClampNeg), .int (xs (2 : Int32).toNatClampNeg), .int (xs (1 : Int32).toNatClampNeg), .ref (E.2.2 1299), .int r2]) (rest := [.int r2]) hF hV hS hA 7 0 12 1299 rfl rfl rfl hM9 w_1710 w_1711 w_1712 w_107 w_1713 (by decide +kernel) ⟨Nat.le_of_ble_eq_true rfl, Nat.le_of_ble_eq_true rfl⟩ dL_law_533 rfl hl.1 rfl (Nat.le_of_ble_eq_true rfl) ⟨Nat.le_of_ble_eq_true rfl, Nat.le_of_ble_eq_true rfl⟩
  refine q_calli hR9 hN hS (fun r4 v5 H locs h3 hV hS => ?_)
  refine lv_icmp_eq (tgt := 1647) hx hb dL_law_536 (by decide) (fun _ => ?_) (fun hneq => absurd (h1.trans h3.symm) hneq)
  exact l_exit l C0 hS (lv_sub hl [0, 4] rfl) (Nat.le_of_ble_eq_true rfl) (Nat.le_of_ble_eq_true rfl)
set_option maxHeartbeats 400000 in
set_option maxRecDepth 100000 in
theorem l_case7 {p : Program} {e : Env} {s : State} {m : MethodId} {below : List Frame} {meth : Method} {c : Code} (l : Launch) {b : Nat} {xs : Nat → Int32} (C0 : lw_At p s m meth c b 8 xs) (hst : l.stackTraces = false) (E : qE) (u v : qS) {H : Heap} {locs : List Loc} {ls : Array Slot} {o : Nat} (hK : va_K E.1 vwCl (qT E) s) (hN : qNs s) (hP : va_P E.1 vwCl (qW E 0 u ++ qW E 1 v) H) (hD : va_D (fun q : Nat => s.heap.size ≤ q) (qW E 0 u ++ qW E 1 v)) (hS : va_S (fun q : Nat => s.heap.size ≤ q) s.heap H locs) (hXs : qXs (fun q : Nat => s.heap.size ≤ q) s H) (hl : lv_has ls 7 [(4, .int 0), (3, .ref o), (2, .ref (E.2.2 1299)), (1, .ref (E.2.2 1199)), (0, .ref b)]) (hfr : l_fresh u v) : W p l e room_1 s m #[Value.ref b] below meth c H locs 92 111496 (lw_Z below #[Value.ref b] s) (F0 m 541 ls []) := by
  obtain ⟨hx, hb, hr, hml, hown, hts, hX, hbl, hlocks, hgv⟩ := id C0
  obtain ⟨fc_8, fc_9, fc_10, fc_11, fc_12, fc_13, fc_14, fc_15, fc_18, fc_311, fc_609, fc_801, fc_900, fc_901, fc_902, fc_909, fm_1202, fm_1210, fm_1230, fm_1231, fm_1232, fm_1239, fm_1247, fm_1256⟩ := hfr
  have hF : qX p m c code 7 s #[Value.ref b] "SecretBuyersLaw" := ⟨hx, hb, hml, hown, fun w h => hts w (qw_in h)⟩
  have hA : ∀ q : Nat, s.heap.size ≤ q → (fun q : Nat => s.heap.size ≤ q) q := fun _ h => h
  have hbA : ¬ (fun q : Nat => s.heap.size ≤ q) b := Nat.not_le.mpr hbl
  refine lv_aload_n hx hb dL_law_541 rfl (lv_at hl 3 rfl) ?_
  refine lv_aload_n hx hb dL_law_542 rfl (lv_at hl 4 rfl) ?_
  refine lv_iload hx hb dL_law_543 (lv_at hl 0 rfl) ?_
  refine lv_iconst (v := 1) hx hb dL_law_545 (by decide) ?_
  refine lv_iadd hx hb dL_law_546 ?_
  refine q_topi (y := 1) (by decide) ?_
  refine va_sld hx hb hX hbl hbA hS (q_in (by decide)) dL_law_547 ?_
  refine lv_aload_n hx hb dL_law_548 rfl (lv_at hl 4 rfl) ?_
  refine lv_iload hx hb dL_law_549 (lv_at hl 0 rfl) ?_
  refine lv_iconst (v := 2) hx hb dL_law_551 (by decide) ?_
  refine lv_iadd hx hb dL_law_552 ?_
  refine q_topi (y := 2) (by decide) ?_
  refine va_sld hx hb hX hbl hbA hS (q_in (by decide)) dL_law_553 ?_
  have hM9 := fun A' : Nat → Prop => k_X11_appeal l E A' u (xs (1 : Int32).toNatClampNeg) (xs (2 : Int32).toNatClampNeg) fc_10
  refine l_callC (As := [.int (xs (1 : Int32).toNatClampNeg), .int (xs (2 : Int32).toNatClampNeg)]) (st0 := [.int (xs (2 : Int32).toNatClampNeg), .int (xs (1 : Int32).toNatClampNeg), .ref (E.2.2 1199)]) (rest := []) (mc := 0) (ms := 0) (f := 3) hF hK hN hP hD hS hA 2 hM9 w_678 w_679 w_680 w_99 w_681 (by decide +kernel) ⟨Nat.le_of_ble_eq_true rfl, Nat.le_of_ble_eq_true rfl⟩ dL_law_554 rfl hl.1 rfl (Nat.le_of_ble_eq_true rfl) ⟨Nat.le_of_ble_eq_true rfl, Nat.le_of_ble_eq_true rfl⟩ (fun r2 u1 H locs h1 hV hS => ?_)
  refine lv_aload_n hx hb dL_law_557 rfl (lv_at hl 2 rfl) ?_
  refine lv_aload_n hx hb dL_law_558 rfl (lv_at hl 4 rfl) ?_
  refine lv_iload hx hb dL_law_559 (lv_at hl 0 rfl) ?_
  refine lv_iconst (v := 1) hx hb dL_law_561 (by decide) ?_
  refine lv_iadd hx hb dL_law_562 ?_
  refine q_topi (y := 1) (by decide) ?_
  refine va_sld hx hb hX hbl hbA hS (q_in (by decide)) dL_law_563 ?_
  refine lv_aload_n hx hb dL_law_564 rfl (lv_at hl 4 rfl) ?_
  refine lv_iload hx hb dL_law_565 (lv_at hl 0 rfl) ?_
  refine lv_iconst (v := 2) hx hb dL_law_567 (by decide) ?_
  refine lv_iadd hx hb dL_law_568 ?_
  refine q_topi (y := 2) (by decide) ?_
  refine va_sld hx hb hX hbl hbA hS (q_in (by decide)) dL_law_569 ?_
  have hM9 := k_X12_appeal l E (fun q : Nat => s.heap.size ≤ q) v (xs (1 : Int32).toNatClampNeg) (xs (2 : Int32).toNatClampNeg) fm_1247
  have hR9 := q_runV (l := l) (e := e) (below := below) (meth := meth) (R := room_1) (cells := 92) (slots := 111496) (st0 := [.int (xs (2 : Int32).toNatClampNeg), .int (xs (1 : Int32).toNatClampNeg), .ref (E.2.2 1299), .int r2]) (rest := [.int r2]) hF hV hS hA 2 0 12 1299 rfl rfl rfl hM9 w_1726 w_1727 w_1728 w_107 w_1729 (by decide +kernel) ⟨Nat.le_of_ble_eq_true rfl, Nat.le_of_ble_eq_true rfl⟩ dL_law_570 rfl hl.1 rfl (Nat.le_of_ble_eq_true rfl) ⟨Nat.le_of_ble_eq_true rfl, Nat.le_of_ble_eq_true rfl⟩
  refine q_calli hR9 hN hS (fun r4 v5 H locs h3 hV hS => ?_)
  refine lv_icmp_eq (tgt := 1647) hx hb dL_law_573 (by decide) (fun _ => ?_) (fun hneq => absurd (h1.trans h3.symm) hneq)
  exact l_exit l C0 hS (lv_sub hl [0, 4] rfl) (Nat.le_of_ble_eq_true rfl) (Nat.le_of_ble_eq_true rfl)
set_option maxHeartbeats 400000 in
set_option maxRecDepth 100000 in
theorem l_case8 {p : Program} {e : Env} {s : State} {m : MethodId} {below : List Frame} {meth : Method} {c : Code} (l : Launch) {b : Nat} {xs : Nat → Int32} (C0 : lw_At p s m meth c b 8 xs) (hst : l.stackTraces = false) (E : qE) (u v : qS) {H : Heap} {locs : List Loc} {ls : Array Slot} {o : Nat} (hK : va_K E.1 vwCl (qT E) s) (hN : qNs s) (hP : va_P E.1 vwCl (qW E 0 u ++ qW E 1 v) H) (hD : va_D (fun q : Nat => s.heap.size ≤ q) (qW E 0 u ++ qW E 1 v)) (hS : va_S (fun q : Nat => s.heap.size ≤ q) s.heap H locs) (hXs : qXs (fun q : Nat => s.heap.size ≤ q) s H) (hl : lv_has ls 7 [(4, .int 0), (3, .ref o), (2, .ref (E.2.2 1299)), (1, .ref (E.2.2 1199)), (0, .ref b)]) (hfr : l_fresh u v) : W p l e room_1 s m #[Value.ref b] below meth c H locs 92 111496 (lw_Z below #[Value.ref b] s) (F0 m 578 ls []) := by
  obtain ⟨hx, hb, hr, hml, hown, hts, hX, hbl, hlocks, hgv⟩ := id C0
  obtain ⟨fc_8, fc_9, fc_10, fc_11, fc_12, fc_13, fc_14, fc_15, fc_18, fc_311, fc_609, fc_801, fc_900, fc_901, fc_902, fc_909, fm_1202, fm_1210, fm_1230, fm_1231, fm_1232, fm_1239, fm_1247, fm_1256⟩ := hfr
  have hF : qX p m c code 7 s #[Value.ref b] "SecretBuyersLaw" := ⟨hx, hb, hml, hown, fun w h => hts w (qw_in h)⟩
  have hA : ∀ q : Nat, s.heap.size ≤ q → (fun q : Nat => s.heap.size ≤ q) q := fun _ h => h
  have hbA : ¬ (fun q : Nat => s.heap.size ≤ q) b := Nat.not_le.mpr hbl
  refine lv_aload_n hx hb dL_law_578 rfl (lv_at hl 3 rfl) ?_
  refine lv_aload_n hx hb dL_law_579 rfl (lv_at hl 4 rfl) ?_
  refine lv_iload hx hb dL_law_580 (lv_at hl 0 rfl) ?_
  refine lv_iconst (v := 1) hx hb dL_law_582 (by decide) ?_
  refine lv_iadd hx hb dL_law_583 ?_
  refine q_topi (y := 1) (by decide) ?_
  refine va_sld hx hb hX hbl hbA hS (q_in (by decide)) dL_law_584 ?_
  refine lv_i2l (v := (xs (1 : Int32).toNatClampNeg).toInt64) hx hb dL_law_585 rfl ?_
  refine lv_bipush (v := 32) hx hb dL_law_586 (by decide) ?_
  refine lv_lshl (v := ((xs (1 : Int32).toNatClampNeg).toInt64) <<< ((32 : Int32).toInt64 &&& 63)) hx hb dL_law_588 rfl ?_
  refine lv_aload_n hx hb dL_law_589 rfl (lv_at hl 4 rfl) ?_
  refine lv_iload hx hb dL_law_590 (lv_at hl 0 rfl) ?_
  refine lv_iconst (v := 2) hx hb dL_law_592 (by decide) ?_
  refine lv_iadd hx hb dL_law_593 ?_
  refine q_topi (y := 2) (by decide) ?_
  refine va_sld hx hb hX hbl hbA hS (q_in (by decide)) dL_law_594 ?_
  refine lv_i2l (v := (xs (2 : Int32).toNatClampNeg).toInt64) hx hb dL_law_595 rfl ?_
  refine lv_ldc2 (v := 4294967295) hx hb hown (hF.2.2.2.2 _ w_1929) dL_law_596 ?_
  refine lv_land hx hb dL_law_599 ?_
  refine lv_lor hx hb dL_law_600 ?_
  refine lv_aload_n hx hb dL_law_601 rfl (lv_at hl 4 rfl) ?_
  refine lv_iload hx hb dL_law_602 (lv_at hl 0 rfl) ?_
  refine lv_iconst (v := 3) hx hb dL_law_604 (by decide) ?_
  refine lv_iadd hx hb dL_law_605 ?_
  refine q_topi (y := 3) (by decide) ?_
  refine va_sld hx hb hX hbl hbA hS (q_in (by decide)) dL_law_606 ?_
  refine lv_i2l (v := (xs (3 : Int32).toNatClampNeg).toInt64) hx hb dL_law_607 rfl ?_
  refine lv_bipush (v := 32) hx hb dL_law_608 (by decide) ?_
  refine lv_lshl (v := ((xs (3 : Int32).toNatClampNeg).toInt64) <<< ((32 : Int32).toInt64 &&& 63)) hx hb dL_law_610 rfl ?_
  refine lv_aload_n hx hb dL_law_611 rfl (lv_at hl 4 rfl) ?_
  refine lv_iload hx hb dL_law_612 (lv_at hl 0 rfl) ?_
  refine lv_iconst (v := 4) hx hb dL_law_614 (by decide) ?_
  refine lv_iadd hx hb dL_law_615 ?_
  refine q_topi (y := 4) (by decide) ?_
  refine va_sld hx hb hX hbl hbA hS (q_in (by decide)) dL_law_616 ?_
  refine lv_i2l (v := (xs (4 : Int32).toNatClampNeg).toInt64) hx hb dL_law_617 rfl ?_
  refine lv_ldc2 (v := 4294967295) hx hb hown (hF.2.2.2.2 _ w_1929) dL_law_618 ?_
  refine lv_land hx hb dL_law_621 ?_
  refine lv_lor hx hb dL_law_622 ?_
  refine lv_aload_n hx hb dL_law_623 rfl (lv_at hl 4 rfl) ?_
  refine lv_iload hx hb dL_law_624 (lv_at hl 0 rfl) ?_
  refine lv_iconst (v := 5) hx hb dL_law_626 (by decide) ?_
  refine lv_iadd hx hb dL_law_627 ?_
  refine q_topi (y := 5) (by decide) ?_
  refine va_sld hx hb hX hbl hbA hS (q_in (by decide)) dL_law_628 ?_
  refine lv_i2l (v := (xs (5 : Int32).toNatClampNeg).toInt64) hx hb dL_law_629 rfl ?_
  refine lv_bipush (v := 32) hx hb dL_law_630 (by decide) ?_
  refine lv_lshl (v := ((xs (5 : Int32).toNatClampNeg).toInt64) <<< ((32 : Int32).toInt64 &&& 63)) hx hb dL_law_632 rfl ?_
  refine lv_aload_n hx hb dL_law_633 rfl (lv_at hl 4 rfl) ?_
  refine lv_iload hx hb dL_law_634 (lv_at hl 0 rfl) ?_
  refine lv_bipush (v := 6) hx hb dL_law_636 (by decide) ?_
  refine lv_iadd hx hb dL_law_638 ?_
  refine q_topi (y := 6) (by decide) ?_
  refine va_sld hx hb hX hbl hbA hS (q_in (by decide)) dL_law_639 ?_
  refine lv_i2l (v := (xs (6 : Int32).toNatClampNeg).toInt64) hx hb dL_law_640 rfl ?_
  refine lv_ldc2 (v := 4294967295) hx hb hown (hF.2.2.2.2 _ w_1929) dL_law_641 ?_
  refine lv_land hx hb dL_law_644 ?_
  refine lv_lor hx hb dL_law_645 ?_
  have hM9 := fun A' : Nat → Prop => k_X11_feed l E A' u ((((xs (1 : Int32).toNatClampNeg).toInt64) <<< ((32 : Int32).toInt64 &&& 63)) ||| (((xs (2 : Int32).toNatClampNeg).toInt64) &&& 4294967295)) ((((xs (3 : Int32).toNatClampNeg).toInt64) <<< ((32 : Int32).toInt64 &&& 63)) ||| (((xs (4 : Int32).toNatClampNeg).toInt64) &&& 4294967295)) ((((xs (5 : Int32).toNatClampNeg).toInt64) <<< ((32 : Int32).toInt64 &&& 63)) ||| (((xs (6 : Int32).toNatClampNeg).toInt64) &&& 4294967295)) (fc_801.trans nI_0.symm)
  refine l_callC (As := [.long ((((xs (1 : Int32).toNatClampNeg).toInt64) <<< ((32 : Int32).toInt64 &&& 63)) ||| (((xs (2 : Int32).toNatClampNeg).toInt64) &&& 4294967295)), .long ((((xs (3 : Int32).toNatClampNeg).toInt64) <<< ((32 : Int32).toInt64 &&& 63)) ||| (((xs (4 : Int32).toNatClampNeg).toInt64) &&& 4294967295)), .long ((((xs (5 : Int32).toNatClampNeg).toInt64) <<< ((32 : Int32).toInt64 &&& 63)) ||| (((xs (6 : Int32).toNatClampNeg).toInt64) &&& 4294967295))]) (st0 := [.long ((((xs (5 : Int32).toNatClampNeg).toInt64) <<< ((32 : Int32).toInt64 &&& 63)) ||| (((xs (6 : Int32).toNatClampNeg).toInt64) &&& 4294967295)), .long ((((xs (3 : Int32).toNatClampNeg).toInt64) <<< ((32 : Int32).toInt64 &&& 63)) ||| (((xs (4 : Int32).toNatClampNeg).toInt64) &&& 4294967295)), .long ((((xs (1 : Int32).toNatClampNeg).toInt64) <<< ((32 : Int32).toInt64 &&& 63)) ||| (((xs (2 : Int32).toNatClampNeg).toInt64) &&& 4294967295)), .ref (E.2.2 1199)]) (rest := []) (mc := 0) (ms := 0) (f := 2) hF hK hN hP hD hS hA 3 hM9 w_686 w_687 w_688 w_99 w_689 (by decide +kernel) ⟨Nat.le_of_ble_eq_true rfl, Nat.le_of_ble_eq_true rfl⟩ dL_law_646 rfl hl.1 rfl (Nat.le_of_ble_eq_true rfl) ⟨Nat.le_of_ble_eq_true rfl, Nat.le_of_ble_eq_true rfl⟩ (fun r2 u1 H locs h1 hV hS => ?_)
  refine lv_aload_n hx hb dL_law_649 rfl (lv_at hl 2 rfl) ?_
  refine lv_aload_n hx hb dL_law_650 rfl (lv_at hl 4 rfl) ?_
  refine lv_iload hx hb dL_law_651 (lv_at hl 0 rfl) ?_
  refine lv_iconst (v := 1) hx hb dL_law_653 (by decide) ?_
  refine lv_iadd hx hb dL_law_654 ?_
  refine q_topi (y := 1) (by decide) ?_
  refine va_sld hx hb hX hbl hbA hS (q_in (by decide)) dL_law_655 ?_
  refine lv_i2l (v := (xs (1 : Int32).toNatClampNeg).toInt64) hx hb dL_law_656 rfl ?_
  refine lv_bipush (v := 32) hx hb dL_law_657 (by decide) ?_
  refine lv_lshl (v := ((xs (1 : Int32).toNatClampNeg).toInt64) <<< ((32 : Int32).toInt64 &&& 63)) hx hb dL_law_659 rfl ?_
  refine lv_aload_n hx hb dL_law_660 rfl (lv_at hl 4 rfl) ?_
  refine lv_iload hx hb dL_law_661 (lv_at hl 0 rfl) ?_
  refine lv_iconst (v := 2) hx hb dL_law_663 (by decide) ?_
  refine lv_iadd hx hb dL_law_664 ?_
  refine q_topi (y := 2) (by decide) ?_
  refine va_sld hx hb hX hbl hbA hS (q_in (by decide)) dL_law_665 ?_
  refine lv_i2l (v := (xs (2 : Int32).toNatClampNeg).toInt64) hx hb dL_law_666 rfl ?_
  refine lv_ldc2 (v := 4294967295) hx hb hown (hF.2.2.2.2 _ w_1929) dL_law_667 ?_
  refine lv_land hx hb dL_law_670 ?_
  refine lv_lor hx hb dL_law_671 ?_
  refine lv_aload_n hx hb dL_law_672 rfl (lv_at hl 4 rfl) ?_
  refine lv_iload hx hb dL_law_673 (lv_at hl 0 rfl) ?_
  refine lv_iconst (v := 3) hx hb dL_law_675 (by decide) ?_
  refine lv_iadd hx hb dL_law_676 ?_
  refine q_topi (y := 3) (by decide) ?_
  refine va_sld hx hb hX hbl hbA hS (q_in (by decide)) dL_law_677 ?_
  refine lv_i2l (v := (xs (3 : Int32).toNatClampNeg).toInt64) hx hb dL_law_678 rfl ?_
  refine lv_bipush (v := 32) hx hb dL_law_679 (by decide) ?_
  refine lv_lshl (v := ((xs (3 : Int32).toNatClampNeg).toInt64) <<< ((32 : Int32).toInt64 &&& 63)) hx hb dL_law_681 rfl ?_
  refine lv_aload_n hx hb dL_law_682 rfl (lv_at hl 4 rfl) ?_
  refine lv_iload hx hb dL_law_683 (lv_at hl 0 rfl) ?_
  refine lv_iconst (v := 4) hx hb dL_law_685 (by decide) ?_
  refine lv_iadd hx hb dL_law_686 ?_
  refine q_topi (y := 4) (by decide) ?_
  refine va_sld hx hb hX hbl hbA hS (q_in (by decide)) dL_law_687 ?_
  refine lv_i2l (v := (xs (4 : Int32).toNatClampNeg).toInt64) hx hb dL_law_688 rfl ?_
  refine lv_ldc2 (v := 4294967295) hx hb hown (hF.2.2.2.2 _ w_1929) dL_law_689 ?_
  refine lv_land hx hb dL_law_692 ?_
  refine lv_lor hx hb dL_law_693 ?_
  refine lv_aload_n hx hb dL_law_694 rfl (lv_at hl 4 rfl) ?_
  refine lv_iload hx hb dL_law_695 (lv_at hl 0 rfl) ?_
  refine lv_iconst (v := 5) hx hb dL_law_697 (by decide) ?_
  refine lv_iadd hx hb dL_law_698 ?_
  refine q_topi (y := 5) (by decide) ?_
  refine va_sld hx hb hX hbl hbA hS (q_in (by decide)) dL_law_699 ?_
  refine lv_i2l (v := (xs (5 : Int32).toNatClampNeg).toInt64) hx hb dL_law_700 rfl ?_
  refine lv_bipush (v := 32) hx hb dL_law_701 (by decide) ?_
  refine lv_lshl (v := ((xs (5 : Int32).toNatClampNeg).toInt64) <<< ((32 : Int32).toInt64 &&& 63)) hx hb dL_law_703 rfl ?_
  refine lv_aload_n hx hb dL_law_704 rfl (lv_at hl 4 rfl) ?_
  refine lv_iload hx hb dL_law_705 (lv_at hl 0 rfl) ?_
  refine lv_bipush (v := 6) hx hb dL_law_707 (by decide) ?_
  refine lv_iadd hx hb dL_law_709 ?_
  refine q_topi (y := 6) (by decide) ?_
  refine va_sld hx hb hX hbl hbA hS (q_in (by decide)) dL_law_710 ?_
  refine lv_i2l (v := (xs (6 : Int32).toNatClampNeg).toInt64) hx hb dL_law_711 rfl ?_
  refine lv_ldc2 (v := 4294967295) hx hb hown (hF.2.2.2.2 _ w_1929) dL_law_712 ?_
  refine lv_land hx hb dL_law_715 ?_
  refine lv_lor hx hb dL_law_716 ?_
  have hM9 := k_X12_feed l E (fun q : Nat => s.heap.size ≤ q) v ((((xs (1 : Int32).toNatClampNeg).toInt64) <<< ((32 : Int32).toInt64 &&& 63)) ||| (((xs (2 : Int32).toNatClampNeg).toInt64) &&& 4294967295)) ((((xs (3 : Int32).toNatClampNeg).toInt64) <<< ((32 : Int32).toInt64 &&& 63)) ||| (((xs (4 : Int32).toNatClampNeg).toInt64) &&& 4294967295)) ((((xs (5 : Int32).toNatClampNeg).toInt64) <<< ((32 : Int32).toInt64 &&& 63)) ||| (((xs (6 : Int32).toNatClampNeg).toInt64) &&& 4294967295)) (fm_1202.trans nI_0.symm)
  have hR9 := q_runV (l := l) (e := e) (below := below) (meth := meth) (R := room_1) (cells := 92) (slots := 111496) (st0 := [.long ((((xs (5 : Int32).toNatClampNeg).toInt64) <<< ((32 : Int32).toInt64 &&& 63)) ||| (((xs (6 : Int32).toNatClampNeg).toInt64) &&& 4294967295)), .long ((((xs (3 : Int32).toNatClampNeg).toInt64) <<< ((32 : Int32).toInt64 &&& 63)) ||| (((xs (4 : Int32).toNatClampNeg).toInt64) &&& 4294967295)), .long ((((xs (1 : Int32).toNatClampNeg).toInt64) <<< ((32 : Int32).toInt64 &&& 63)) ||| (((xs (2 : Int32).toNatClampNeg).toInt64) &&& 4294967295)), .ref (E.2.2 1299), .int r2]) (rest := [.int r2]) hF hV hS hA 3 0 12 1299 rfl rfl rfl hM9 w_1303 w_1304 w_1305 w_107 w_1306 (by decide +kernel) ⟨Nat.le_of_ble_eq_true rfl, Nat.le_of_ble_eq_true rfl⟩ dL_law_717 rfl hl.1 rfl (Nat.le_of_ble_eq_true rfl) ⟨Nat.le_of_ble_eq_true rfl, Nat.le_of_ble_eq_true rfl⟩
  refine q_calli hR9 hN hS (fun r4 v5 H locs h3 hV hS => ?_)
  refine lv_icmp_eq (tgt := 1647) hx hb dL_law_720 (by decide) (fun _ => ?_) (fun hneq => absurd (l_feed h1 h3) hneq)
  exact l_exit l C0 hS (lv_sub hl [0, 4] rfl) (Nat.le_of_ble_eq_true rfl) (Nat.le_of_ble_eq_true rfl)
set_option maxHeartbeats 400000 in
set_option maxRecDepth 100000 in
theorem l_case9 {p : Program} {e : Env} {s : State} {m : MethodId} {below : List Frame} {meth : Method} {c : Code} (l : Launch) {b : Nat} {xs : Nat → Int32} (C0 : lw_At p s m meth c b 8 xs) (hst : l.stackTraces = false) (E : qE) (u v : qS) {H : Heap} {locs : List Loc} {ls : Array Slot} {o : Nat} (hK : va_K E.1 vwCl (qT E) s) (hN : qNs s) (hP : va_P E.1 vwCl (qW E 0 u ++ qW E 1 v) H) (hD : va_D (fun q : Nat => s.heap.size ≤ q) (qW E 0 u ++ qW E 1 v)) (hS : va_S (fun q : Nat => s.heap.size ≤ q) s.heap H locs) (hXs : qXs (fun q : Nat => s.heap.size ≤ q) s H) (hl : lv_has ls 7 [(4, .int 0), (3, .ref o), (2, .ref (E.2.2 1299)), (1, .ref (E.2.2 1199)), (0, .ref b)]) (hfr : l_fresh u v) : W p l e room_1 s m #[Value.ref b] below meth c H locs 92 111496 (lw_Z below #[Value.ref b] s) (F0 m 725 ls []) := by
  obtain ⟨hx, hb, hr, hml, hown, hts, hX, hbl, hlocks, hgv⟩ := id C0
  obtain ⟨fc_8, fc_9, fc_10, fc_11, fc_12, fc_13, fc_14, fc_15, fc_18, fc_311, fc_609, fc_801, fc_900, fc_901, fc_902, fc_909, fm_1202, fm_1210, fm_1230, fm_1231, fm_1232, fm_1239, fm_1247, fm_1256⟩ := hfr
  have hF : qX p m c code 7 s #[Value.ref b] "SecretBuyersLaw" := ⟨hx, hb, hml, hown, fun w h => hts w (qw_in h)⟩
  have hA : ∀ q : Nat, s.heap.size ≤ q → (fun q : Nat => s.heap.size ≤ q) q := fun _ h => h
  have hbA : ¬ (fun q : Nat => s.heap.size ≤ q) b := Nat.not_le.mpr hbl
  refine lv_aload_n hx hb dL_law_725 rfl (lv_at hl 3 rfl) ?_
  refine lv_aload_n hx hb dL_law_726 rfl (lv_at hl 4 rfl) ?_
  refine lv_iload hx hb dL_law_727 (lv_at hl 0 rfl) ?_
  refine lv_iconst (v := 1) hx hb dL_law_729 (by decide) ?_
  refine lv_iadd hx hb dL_law_730 ?_
  refine q_topi (y := 1) (by decide) ?_
  refine va_sld hx hb hX hbl hbA hS (q_in (by decide)) dL_law_731 ?_
  refine lv_aload_n hx hb dL_law_732 rfl (lv_at hl 4 rfl) ?_
  refine lv_iload hx hb dL_law_733 (lv_at hl 0 rfl) ?_
  refine lv_iconst (v := 2) hx hb dL_law_735 (by decide) ?_
  refine lv_iadd hx hb dL_law_736 ?_
  refine q_topi (y := 2) (by decide) ?_
  refine va_sld hx hb hX hbl hbA hS (q_in (by decide)) dL_law_737 ?_
  have hM9 := fun A' : Nat → Prop => k_X11_brief l E A' u (xs (1 : Int32).toNatClampNeg) (xs (2 : Int32).toNatClampNeg) fc_12 fc_801 fc_13
  refine l_callC (As := [.int (xs (1 : Int32).toNatClampNeg), .int (xs (2 : Int32).toNatClampNeg)]) (st0 := [.int (xs (2 : Int32).toNatClampNeg), .int (xs (1 : Int32).toNatClampNeg), .ref (E.2.2 1199)]) (rest := []) (mc := 2) (ms := 4) (f := 6) hF hK hN hP hD hS hA 2 hM9 w_695 w_696 w_697 w_99 w_698 (by decide +kernel) ⟨Nat.le_of_ble_eq_true rfl, Nat.le_of_ble_eq_true rfl⟩ dL_law_738 rfl hl.1 rfl (Nat.le_of_ble_eq_true rfl) ⟨Nat.le_of_ble_eq_true rfl, Nat.le_of_ble_eq_true rfl⟩ (fun r2 u1 H locs h1 hV hS => ?_)
  refine lv_aload_n hx hb dL_law_741 rfl (lv_at hl 2 rfl) ?_
  refine lv_aload_n hx hb dL_law_742 rfl (lv_at hl 4 rfl) ?_
  refine lv_iload hx hb dL_law_743 (lv_at hl 0 rfl) ?_
  refine lv_iconst (v := 1) hx hb dL_law_745 (by decide) ?_
  refine lv_iadd hx hb dL_law_746 ?_
  refine q_topi (y := 1) (by decide) ?_
  refine va_sld hx hb hX hbl hbA hS (q_in (by decide)) dL_law_747 ?_
  refine lv_aload_n hx hb dL_law_748 rfl (lv_at hl 4 rfl) ?_
  refine lv_iload hx hb dL_law_749 (lv_at hl 0 rfl) ?_
  refine lv_iconst (v := 2) hx hb dL_law_751 (by decide) ?_
  refine lv_iadd hx hb dL_law_752 ?_
  refine q_topi (y := 2) (by decide) ?_
  refine va_sld hx hb hX hbl hbA hS (q_in (by decide)) dL_law_753 ?_
  have hM9 := k_X12_brief l E (fun q : Nat => s.heap.size ≤ q) v (xs (1 : Int32).toNatClampNeg) (xs (2 : Int32).toNatClampNeg) fm_1210 fm_1202
  have hR9 := q_runV (l := l) (e := e) (below := below) (meth := meth) (R := room_1) (cells := 94) (slots := 111500) (st0 := [.int (xs (2 : Int32).toNatClampNeg), .int (xs (1 : Int32).toNatClampNeg), .ref (E.2.2 1299), .int r2]) (rest := [.int r2]) hF hV hS hA 2 0 12 1299 rfl rfl rfl hM9 w_1577 w_1578 w_1579 w_107 w_1580 (by decide +kernel) ⟨Nat.le_of_ble_eq_true rfl, Nat.le_of_ble_eq_true rfl⟩ dL_law_754 rfl hl.1 rfl (Nat.le_of_ble_eq_true rfl) ⟨Nat.le_of_ble_eq_true rfl, Nat.le_of_ble_eq_true rfl⟩
  refine q_calli hR9 hN hS (fun r4 v5 H locs h3 hV hS => ?_)
  refine lv_icmp_eq (tgt := 1647) hx hb dL_law_757 (by decide) (fun _ => ?_) (fun hneq => absurd (q_same h1 h3) hneq)
  exact l_exit l C0 hS (lv_sub hl [0, 4] rfl) (Nat.le_of_ble_eq_true rfl) (Nat.le_of_ble_eq_true rfl)
set_option maxHeartbeats 400000 in
set_option maxRecDepth 100000 in
theorem l_case10 {p : Program} {e : Env} {s : State} {m : MethodId} {below : List Frame} {meth : Method} {c : Code} (l : Launch) {b : Nat} {xs : Nat → Int32} (C0 : lw_At p s m meth c b 8 xs) (hst : l.stackTraces = false) (E : qE) (u v : qS) {H : Heap} {locs : List Loc} {ls : Array Slot} {o : Nat} (hK : va_K E.1 vwCl (qT E) s) (hN : qNs s) (hP : va_P E.1 vwCl (qW E 0 u ++ qW E 1 v) H) (hD : va_D (fun q : Nat => s.heap.size ≤ q) (qW E 0 u ++ qW E 1 v)) (hS : va_S (fun q : Nat => s.heap.size ≤ q) s.heap H locs) (hXs : qXs (fun q : Nat => s.heap.size ≤ q) s H) (hl : lv_has ls 7 [(4, .int 0), (3, .ref o), (2, .ref (E.2.2 1299)), (1, .ref (E.2.2 1199)), (0, .ref b)]) (hfr : l_fresh u v) : W p l e room_1 s m #[Value.ref b] below meth c H locs 92 111496 (lw_Z below #[Value.ref b] s) (F0 m 762 ls []) := by
  obtain ⟨hx, hb, hr, hml, hown, hts, hX, hbl, hlocks, hgv⟩ := id C0
  obtain ⟨fc_8, fc_9, fc_10, fc_11, fc_12, fc_13, fc_14, fc_15, fc_18, fc_311, fc_609, fc_801, fc_900, fc_901, fc_902, fc_909, fm_1202, fm_1210, fm_1230, fm_1231, fm_1232, fm_1239, fm_1247, fm_1256⟩ := hfr
  have hF : qX p m c code 7 s #[Value.ref b] "SecretBuyersLaw" := ⟨hx, hb, hml, hown, fun w h => hts w (qw_in h)⟩
  have hA : ∀ q : Nat, s.heap.size ≤ q → (fun q : Nat => s.heap.size ≤ q) q := fun _ h => h
  have hbA : ¬ (fun q : Nat => s.heap.size ≤ q) b := Nat.not_le.mpr hbl
  refine lv_aload_n hx hb dL_law_762 rfl (lv_at hl 3 rfl) ?_
  refine lv_aload_n hx hb dL_law_763 rfl (lv_at hl 4 rfl) ?_
  refine lv_iload hx hb dL_law_764 (lv_at hl 0 rfl) ?_
  refine lv_iconst (v := 1) hx hb dL_law_766 (by decide) ?_
  refine lv_iadd hx hb dL_law_767 ?_
  refine q_topi (y := 1) (by decide) ?_
  refine va_sld hx hb hX hbl hbA hS (q_in (by decide)) dL_law_768 ?_
  refine lv_aload_n hx hb dL_law_769 rfl (lv_at hl 4 rfl) ?_
  refine lv_iload hx hb dL_law_770 (lv_at hl 0 rfl) ?_
  refine lv_iconst (v := 2) hx hb dL_law_772 (by decide) ?_
  refine lv_iadd hx hb dL_law_773 ?_
  refine q_topi (y := 2) (by decide) ?_
  refine va_sld hx hb hX hbl hbA hS (q_in (by decide)) dL_law_774 ?_
  refine lv_aload_n hx hb dL_law_775 rfl (lv_at hl 1 rfl) ?_
  have hM9 := fun A' : Nat → Prop => k_L_look l hst E A' u o (xs (1 : Int32).toNatClampNeg) (xs (2 : Int32).toNatClampNeg) fc_10
  refine l_callL (As := [.ref (E.2.2 1199), .int (xs (1 : Int32).toNatClampNeg), .int (xs (2 : Int32).toNatClampNeg), .ref o]) (st0 := [.ref o, .int (xs (2 : Int32).toNatClampNeg), .int (xs (1 : Int32).toNatClampNeg), .ref (E.2.2 1199)]) (rest := []) (mc := 1) (ms := 6) (f := 10) hF hK hN hP hD hS hA hXs 4 hM9 w_1191 w_1192 w_98 w_1193 (by decide +kernel) ⟨Nat.le_of_ble_eq_true rfl, Nat.le_of_ble_eq_true rfl⟩ dL_law_776 rfl hl.1 rfl (Nat.le_of_ble_eq_true rfl) ⟨Nat.le_of_ble_eq_true rfl, Nat.le_of_ble_eq_true rfl⟩ (fun r1 u1 H locs h2 hV hS => ?_)
  refine q_topi (y := 1) h2 ?_
  refine lv_istore (lv' := [(5, .int 1), (4, .int 0), (3, .ref o), (2, .ref (E.2.2 1299)), (1, .ref (E.2.2 1199)), (0, .ref b)]) hx hb dL_law_779 hl (by decide) rfl (fun ls hl => ?_)
  refine lv_aload_n hx hb dL_law_781 rfl (lv_at hl 3 rfl) ?_
  refine lv_aload_n hx hb dL_law_782 rfl (lv_at hl 5 rfl) ?_
  refine lv_iload hx hb dL_law_783 (lv_at hl 1 rfl) ?_
  refine lv_iconst (v := 1) hx hb dL_law_785 (by decide) ?_
  refine lv_iadd hx hb dL_law_786 ?_
  refine q_topi (y := 1) (by decide) ?_
  refine va_sld hx hb hX hbl hbA hS (q_in (by decide)) dL_law_787 ?_
  refine lv_aload_n hx hb dL_law_788 rfl (lv_at hl 5 rfl) ?_
  refine lv_iload hx hb dL_law_789 (lv_at hl 1 rfl) ?_
  refine lv_iconst (v := 2) hx hb dL_law_791 (by decide) ?_
  refine lv_iadd hx hb dL_law_792 ?_
  refine q_topi (y := 2) (by decide) ?_
  refine va_sld hx hb hX hbl hbA hS (q_in (by decide)) dL_law_793 ?_
  have hM9 := k_X12_look l E (fun q : Nat => s.heap.size ≤ q) v (xs (1 : Int32).toNatClampNeg) (xs (2 : Int32).toNatClampNeg) fm_1247
  have hR9 := q_runV (l := l) (e := e) (below := below) (meth := meth) (R := room_1) (cells := 93) (slots := 111502) (st0 := [.int (xs (2 : Int32).toNatClampNeg), .int (xs (1 : Int32).toNatClampNeg), .ref (E.2.2 1299)]) (rest := []) hF hV hS hA 2 0 12 1299 rfl rfl rfl hM9 w_1730 w_1731 w_1732 w_107 w_1733 (by decide +kernel) ⟨Nat.le_of_ble_eq_true rfl, Nat.le_of_ble_eq_true rfl⟩ dL_law_794 rfl hl.1 rfl (Nat.le_of_ble_eq_true rfl) ⟨Nat.le_of_ble_eq_true rfl, Nat.le_of_ble_eq_true rfl⟩
  refine q_calli hR9 hN hS (fun r4 v5 H locs h3 hV hS => ?_)
  refine lv_istore (lv' := [(6, .int r4), (5, .int 1), (4, .int 0), (3, .ref o), (2, .ref (E.2.2 1299)), (1, .ref (E.2.2 1199)), (0, .ref b)]) hx hb dL_law_797 hl (by decide) rfl (fun ls hl => ?_)
  refine lv_aload_n hx hb dL_law_799 rfl (lv_at hl 4 rfl) ?_
  have hM9 := k_X12_thrown l E (fun q : Nat => s.heap.size ≤ q) v5
  have hR9 := q_runV (l := l) (e := e) (below := below) (meth := meth) (R := room_1) (cells := 93) (slots := 111502) (st0 := [.ref (E.2.2 1299)]) (rest := []) hF hV hS hA 0 0 12 1299 rfl rfl rfl hM9 w_1299 w_1300 w_1301 w_107 w_1302 (by decide +kernel) ⟨Nat.le_of_ble_eq_true rfl, Nat.le_of_ble_eq_true rfl⟩ dL_law_800 rfl hl.1 rfl (Nat.le_of_ble_eq_true rfl) ⟨Nat.le_of_ble_eq_true rfl, Nat.le_of_ble_eq_true rfl⟩
  refine q_calli hR9 hN hS (fun r7 v8 H locs h6 hV hS => ?_)
  refine lv_iload hx hb dL_law_803 (lv_at hl 1 rfl) ?_
  refine lv_icmp_eq (tgt := 810) hx hb dL_law_805 (by decide) (fun _ => ?_) (fun hneq => absurd (h6.2.trans h3) hneq)
  refine lv_iload hx hb dL_law_810 (lv_at hl 1 rfl) ?_
  refine lv_if_ne (tgt := 827) hx hb dL_law_812 (by decide) (fun _ => ?_) (fun h9 => absurd h9 (by decide))
  refine lv_goto (tgt := 1647) hx hb dL_law_827 (by decide) ?_
  exact l_exit l C0 hS (lv_sub hl [2, 6] rfl) (Nat.le_of_ble_eq_true rfl) (Nat.le_of_ble_eq_true rfl)
set_option maxHeartbeats 400000 in
set_option maxRecDepth 100000 in
theorem l_case11 {p : Program} {e : Env} {s : State} {m : MethodId} {below : List Frame} {meth : Method} {c : Code} (l : Launch) {b : Nat} {xs : Nat → Int32} (C0 : lw_At p s m meth c b 8 xs) (hst : l.stackTraces = false) (E : qE) (u v : qS) {H : Heap} {locs : List Loc} {ls : Array Slot} {o : Nat} (hK : va_K E.1 vwCl (qT E) s) (hN : qNs s) (hP : va_P E.1 vwCl (qW E 0 u ++ qW E 1 v) H) (hD : va_D (fun q : Nat => s.heap.size ≤ q) (qW E 0 u ++ qW E 1 v)) (hS : va_S (fun q : Nat => s.heap.size ≤ q) s.heap H locs) (hXs : qXs (fun q : Nat => s.heap.size ≤ q) s H) (hl : lv_has ls 7 [(4, .int 0), (3, .ref o), (2, .ref (E.2.2 1299)), (1, .ref (E.2.2 1199)), (0, .ref b)]) (hfr : l_fresh u v) : W p l e room_1 s m #[Value.ref b] below meth c H locs 92 111496 (lw_Z below #[Value.ref b] s) (F0 m 830 ls []) := by
  obtain ⟨hx, hb, hr, hml, hown, hts, hX, hbl, hlocks, hgv⟩ := id C0
  obtain ⟨fc_8, fc_9, fc_10, fc_11, fc_12, fc_13, fc_14, fc_15, fc_18, fc_311, fc_609, fc_801, fc_900, fc_901, fc_902, fc_909, fm_1202, fm_1210, fm_1230, fm_1231, fm_1232, fm_1239, fm_1247, fm_1256⟩ := hfr
  have hF : qX p m c code 7 s #[Value.ref b] "SecretBuyersLaw" := ⟨hx, hb, hml, hown, fun w h => hts w (qw_in h)⟩
  have hA : ∀ q : Nat, s.heap.size ≤ q → (fun q : Nat => s.heap.size ≤ q) q := fun _ h => h
  have hbA : ¬ (fun q : Nat => s.heap.size ≤ q) b := Nat.not_le.mpr hbl
  refine lv_aload_n hx hb dL_law_830 rfl (lv_at hl 3 rfl) ?_
  refine lv_aload_n hx hb dL_law_831 rfl (lv_at hl 4 rfl) ?_
  refine lv_iload hx hb dL_law_832 (lv_at hl 0 rfl) ?_
  refine lv_iconst (v := 1) hx hb dL_law_834 (by decide) ?_
  refine lv_iadd hx hb dL_law_835 ?_
  refine q_topi (y := 1) (by decide) ?_
  refine va_sld hx hb hX hbl hbA hS (q_in (by decide)) dL_law_836 ?_
  refine lv_aload_n hx hb dL_law_837 rfl (lv_at hl 1 rfl) ?_
  have hM9 := fun A' : Nat → Prop => k_L_fair l hst E A' u o (xs (1 : Int32).toNatClampNeg) fc_10
  refine l_callL (As := [.ref (E.2.2 1199), .int (xs (1 : Int32).toNatClampNeg), .ref o]) (st0 := [.ref o, .int (xs (1 : Int32).toNatClampNeg), .ref (E.2.2 1199)]) (rest := []) (mc := 1) (ms := 6) (f := 10) hF hK hN hP hD hS hA hXs 3 hM9 w_1268 w_1269 w_98 w_1270 (by decide +kernel) ⟨Nat.le_of_ble_eq_true rfl, Nat.le_of_ble_eq_true rfl⟩ dL_law_838 rfl hl.1 rfl (Nat.le_of_ble_eq_true rfl) ⟨Nat.le_of_ble_eq_true rfl, Nat.le_of_ble_eq_true rfl⟩ (fun r1 u1 H locs h2 hV hS => ?_)
  refine q_topi (y := 1) h2 ?_
  refine lv_istore (lv' := [(5, .int 1), (4, .int 0), (3, .ref o), (2, .ref (E.2.2 1299)), (1, .ref (E.2.2 1199)), (0, .ref b)]) hx hb dL_law_841 hl (by decide) rfl (fun ls hl => ?_)
  refine lv_aload_n hx hb dL_law_843 rfl (lv_at hl 3 rfl) ?_
  refine lv_aload_n hx hb dL_law_844 rfl (lv_at hl 5 rfl) ?_
  refine lv_iload hx hb dL_law_845 (lv_at hl 1 rfl) ?_
  refine lv_iconst (v := 1) hx hb dL_law_847 (by decide) ?_
  refine lv_iadd hx hb dL_law_848 ?_
  refine q_topi (y := 1) (by decide) ?_
  refine va_sld hx hb hX hbl hbA hS (q_in (by decide)) dL_law_849 ?_
  have hM9 := k_X12_fair l E (fun q : Nat => s.heap.size ≤ q) v (xs (1 : Int32).toNatClampNeg) fm_1247
  have hR9 := q_runV (l := l) (e := e) (below := below) (meth := meth) (R := room_1) (cells := 93) (slots := 111502) (st0 := [.int (xs (1 : Int32).toNatClampNeg), .ref (E.2.2 1299)]) (rest := []) hF hV hS hA 1 0 12 1299 rfl rfl rfl hM9 w_1817 w_1818 w_1819 w_107 w_1820 (by decide +kernel) ⟨Nat.le_of_ble_eq_true rfl, Nat.le_of_ble_eq_true rfl⟩ dL_law_850 rfl hl.1 rfl (Nat.le_of_ble_eq_true rfl) ⟨Nat.le_of_ble_eq_true rfl, Nat.le_of_ble_eq_true rfl⟩
  refine q_calli hR9 hN hS (fun r4 v5 H locs h3 hV hS => ?_)
  refine lv_istore (lv' := [(6, .int r4), (5, .int 1), (4, .int 0), (3, .ref o), (2, .ref (E.2.2 1299)), (1, .ref (E.2.2 1199)), (0, .ref b)]) hx hb dL_law_853 hl (by decide) rfl (fun ls hl => ?_)
  refine lv_aload_n hx hb dL_law_855 rfl (lv_at hl 4 rfl) ?_
  have hM9 := k_X12_thrown l E (fun q : Nat => s.heap.size ≤ q) v5
  have hR9 := q_runV (l := l) (e := e) (below := below) (meth := meth) (R := room_1) (cells := 93) (slots := 111502) (st0 := [.ref (E.2.2 1299)]) (rest := []) hF hV hS hA 0 0 12 1299 rfl rfl rfl hM9 w_1299 w_1300 w_1301 w_107 w_1302 (by decide +kernel) ⟨Nat.le_of_ble_eq_true rfl, Nat.le_of_ble_eq_true rfl⟩ dL_law_856 rfl hl.1 rfl (Nat.le_of_ble_eq_true rfl) ⟨Nat.le_of_ble_eq_true rfl, Nat.le_of_ble_eq_true rfl⟩
  refine q_calli hR9 hN hS (fun r7 v8 H locs h6 hV hS => ?_)
  refine lv_iload hx hb dL_law_859 (lv_at hl 1 rfl) ?_
  refine lv_icmp_eq (tgt := 866) hx hb dL_law_861 (by decide) (fun _ => ?_) (fun hneq => absurd (h6.2.trans h3) hneq)
  refine lv_iload hx hb dL_law_866 (lv_at hl 1 rfl) ?_
  refine lv_if_ne (tgt := 883) hx hb dL_law_868 (by decide) (fun _ => ?_) (fun h9 => absurd h9 (by decide))
  refine lv_goto (tgt := 1647) hx hb dL_law_883 (by decide) ?_
  exact l_exit l C0 hS (lv_sub hl [2, 6] rfl) (Nat.le_of_ble_eq_true rfl) (Nat.le_of_ble_eq_true rfl)
set_option maxHeartbeats 400000 in
set_option maxRecDepth 100000 in
theorem l_case12 {p : Program} {e : Env} {s : State} {m : MethodId} {below : List Frame} {meth : Method} {c : Code} (l : Launch) {b : Nat} {xs : Nat → Int32} (C0 : lw_At p s m meth c b 8 xs) (hst : l.stackTraces = false) (E : qE) (u v : qS) {H : Heap} {locs : List Loc} {ls : Array Slot} {o : Nat} (hK : va_K E.1 vwCl (qT E) s) (hN : qNs s) (hP : va_P E.1 vwCl (qW E 0 u ++ qW E 1 v) H) (hD : va_D (fun q : Nat => s.heap.size ≤ q) (qW E 0 u ++ qW E 1 v)) (hS : va_S (fun q : Nat => s.heap.size ≤ q) s.heap H locs) (hXs : qXs (fun q : Nat => s.heap.size ≤ q) s H) (hl : lv_has ls 7 [(4, .int 0), (3, .ref o), (2, .ref (E.2.2 1299)), (1, .ref (E.2.2 1199)), (0, .ref b)]) (hfr : l_fresh u v) : W p l e room_1 s m #[Value.ref b] below meth c H locs 92 111496 (lw_Z below #[Value.ref b] s) (F0 m 886 ls []) := by
  obtain ⟨hx, hb, hr, hml, hown, hts, hX, hbl, hlocks, hgv⟩ := id C0
  obtain ⟨fc_8, fc_9, fc_10, fc_11, fc_12, fc_13, fc_14, fc_15, fc_18, fc_311, fc_609, fc_801, fc_900, fc_901, fc_902, fc_909, fm_1202, fm_1210, fm_1230, fm_1231, fm_1232, fm_1239, fm_1247, fm_1256⟩ := hfr
  have hF : qX p m c code 7 s #[Value.ref b] "SecretBuyersLaw" := ⟨hx, hb, hml, hown, fun w h => hts w (qw_in h)⟩
  have hA : ∀ q : Nat, s.heap.size ≤ q → (fun q : Nat => s.heap.size ≤ q) q := fun _ h => h
  have hbA : ¬ (fun q : Nat => s.heap.size ≤ q) b := Nat.not_le.mpr hbl
  refine lv_aload_n hx hb dL_law_886 rfl (lv_at hl 3 rfl) ?_
  refine lv_aload_n hx hb dL_law_887 rfl (lv_at hl 4 rfl) ?_
  refine lv_iload hx hb dL_law_888 (lv_at hl 0 rfl) ?_
  refine lv_iconst (v := 1) hx hb dL_law_890 (by decide) ?_
  refine lv_iadd hx hb dL_law_891 ?_
  refine q_topi (y := 1) (by decide) ?_
  refine va_sld hx hb hX hbl hbA hS (q_in (by decide)) dL_law_892 ?_
  refine lv_aload_n hx hb dL_law_893 rfl (lv_at hl 4 rfl) ?_
  refine lv_iload hx hb dL_law_894 (lv_at hl 0 rfl) ?_
  refine lv_iconst (v := 2) hx hb dL_law_896 (by decide) ?_
  refine lv_iadd hx hb dL_law_897 ?_
  refine q_topi (y := 2) (by decide) ?_
  refine va_sld hx hb hX hbl hbA hS (q_in (by decide)) dL_law_898 ?_
  have hM9 := fun A' : Nat → Prop => k_X11_fewest l E A' u (xs (1 : Int32).toNatClampNeg) (xs (2 : Int32).toNatClampNeg) fc_9
  refine l_callC (As := [.int (xs (1 : Int32).toNatClampNeg), .int (xs (2 : Int32).toNatClampNeg)]) (st0 := [.int (xs (2 : Int32).toNatClampNeg), .int (xs (1 : Int32).toNatClampNeg), .ref (E.2.2 1199)]) (rest := []) (mc := 0) (ms := 0) (f := 9) hF hK hN hP hD hS hA 2 hM9 w_839 w_840 w_841 w_99 w_842 (by decide +kernel) ⟨Nat.le_of_ble_eq_true rfl, Nat.le_of_ble_eq_true rfl⟩ dL_law_899 rfl hl.1 rfl (Nat.le_of_ble_eq_true rfl) ⟨Nat.le_of_ble_eq_true rfl, Nat.le_of_ble_eq_true rfl⟩ (fun r2 u1 H locs h1 hV hS => ?_)
  refine lv_aload_n hx hb dL_law_902 rfl (lv_at hl 2 rfl) ?_
  refine lv_aload_n hx hb dL_law_903 rfl (lv_at hl 4 rfl) ?_
  refine lv_iload hx hb dL_law_904 (lv_at hl 0 rfl) ?_
  refine lv_iconst (v := 1) hx hb dL_law_906 (by decide) ?_
  refine lv_iadd hx hb dL_law_907 ?_
  refine q_topi (y := 1) (by decide) ?_
  refine va_sld hx hb hX hbl hbA hS (q_in (by decide)) dL_law_908 ?_
  refine lv_aload_n hx hb dL_law_909 rfl (lv_at hl 4 rfl) ?_
  refine lv_iload hx hb dL_law_910 (lv_at hl 0 rfl) ?_
  refine lv_iconst (v := 2) hx hb dL_law_912 (by decide) ?_
  refine lv_iadd hx hb dL_law_913 ?_
  refine q_topi (y := 2) (by decide) ?_
  refine va_sld hx hb hX hbl hbA hS (q_in (by decide)) dL_law_914 ?_
  have hM9 := k_X12_fewest l E (fun q : Nat => s.heap.size ≤ q) v (xs (1 : Int32).toNatClampNeg) (xs (2 : Int32).toNatClampNeg) fm_1239
  have hR9 := q_runV (l := l) (e := e) (below := below) (meth := meth) (R := room_1) (cells := 92) (slots := 111496) (st0 := [.int (xs (2 : Int32).toNatClampNeg), .int (xs (1 : Int32).toNatClampNeg), .ref (E.2.2 1299), .int r2]) (rest := [.int r2]) hF hV hS hA 2 0 12 1299 rfl rfl rfl hM9 w_1806 w_1807 w_1808 w_107 w_1809 (by decide +kernel) ⟨Nat.le_of_ble_eq_true rfl, Nat.le_of_ble_eq_true rfl⟩ dL_law_915 rfl hl.1 rfl (Nat.le_of_ble_eq_true rfl) ⟨Nat.le_of_ble_eq_true rfl, Nat.le_of_ble_eq_true rfl⟩
  refine q_calli hR9 hN hS (fun r4 v5 H locs h3 hV hS => ?_)
  refine lv_icmp_eq (tgt := 1647) hx hb dL_law_918 (by decide) (fun _ => ?_) (fun hneq => absurd (h1.trans h3.symm) hneq)
  exact l_exit l C0 hS (lv_sub hl [0, 4] rfl) (Nat.le_of_ble_eq_true rfl) (Nat.le_of_ble_eq_true rfl)
set_option maxHeartbeats 400000 in
set_option maxRecDepth 100000 in
theorem l_case13 {p : Program} {e : Env} {s : State} {m : MethodId} {below : List Frame} {meth : Method} {c : Code} (l : Launch) {b : Nat} {xs : Nat → Int32} (C0 : lw_At p s m meth c b 8 xs) (hst : l.stackTraces = false) (E : qE) (u v : qS) {H : Heap} {locs : List Loc} {ls : Array Slot} {o : Nat} (hK : va_K E.1 vwCl (qT E) s) (hN : qNs s) (hP : va_P E.1 vwCl (qW E 0 u ++ qW E 1 v) H) (hD : va_D (fun q : Nat => s.heap.size ≤ q) (qW E 0 u ++ qW E 1 v)) (hS : va_S (fun q : Nat => s.heap.size ≤ q) s.heap H locs) (hXs : qXs (fun q : Nat => s.heap.size ≤ q) s H) (hl : lv_has ls 7 [(4, .int 0), (3, .ref o), (2, .ref (E.2.2 1299)), (1, .ref (E.2.2 1199)), (0, .ref b)]) (hfr : l_fresh u v) : W p l e room_1 s m #[Value.ref b] below meth c H locs 92 111496 (lw_Z below #[Value.ref b] s) (F0 m 923 ls []) := by
  obtain ⟨hx, hb, hr, hml, hown, hts, hX, hbl, hlocks, hgv⟩ := id C0
  obtain ⟨fc_8, fc_9, fc_10, fc_11, fc_12, fc_13, fc_14, fc_15, fc_18, fc_311, fc_609, fc_801, fc_900, fc_901, fc_902, fc_909, fm_1202, fm_1210, fm_1230, fm_1231, fm_1232, fm_1239, fm_1247, fm_1256⟩ := hfr
  have hF : qX p m c code 7 s #[Value.ref b] "SecretBuyersLaw" := ⟨hx, hb, hml, hown, fun w h => hts w (qw_in h)⟩
  have hA : ∀ q : Nat, s.heap.size ≤ q → (fun q : Nat => s.heap.size ≤ q) q := fun _ h => h
  have hbA : ¬ (fun q : Nat => s.heap.size ≤ q) b := Nat.not_le.mpr hbl
  refine lv_aload_n hx hb dL_law_923 rfl (lv_at hl 3 rfl) ?_
  refine lv_aload_n hx hb dL_law_924 rfl (lv_at hl 4 rfl) ?_
  refine lv_iload hx hb dL_law_925 (lv_at hl 0 rfl) ?_
  refine lv_iconst (v := 1) hx hb dL_law_927 (by decide) ?_
  refine lv_iadd hx hb dL_law_928 ?_
  refine q_topi (y := 1) (by decide) ?_
  refine va_sld hx hb hX hbl hbA hS (q_in (by decide)) dL_law_929 ?_
  refine lv_aload_n hx hb dL_law_930 rfl (lv_at hl 4 rfl) ?_
  refine lv_iload hx hb dL_law_931 (lv_at hl 0 rfl) ?_
  refine lv_iconst (v := 2) hx hb dL_law_933 (by decide) ?_
  refine lv_iadd hx hb dL_law_934 ?_
  refine q_topi (y := 2) (by decide) ?_
  refine va_sld hx hb hX hbl hbA hS (q_in (by decide)) dL_law_935 ?_
  refine lv_aload_n hx hb dL_law_936 rfl (lv_at hl 4 rfl) ?_
  refine lv_iload hx hb dL_law_937 (lv_at hl 0 rfl) ?_
  refine lv_iconst (v := 3) hx hb dL_law_939 (by decide) ?_
  refine lv_iadd hx hb dL_law_940 ?_
  refine q_topi (y := 3) (by decide) ?_
  refine va_sld hx hb hX hbl hbA hS (q_in (by decide)) dL_law_941 ?_
  have hM9 := fun A' : Nat → Prop => k_X11_set l E A' u (xs (1 : Int32).toNatClampNeg) (xs (2 : Int32).toNatClampNeg) (xs (3 : Int32).toNatClampNeg) fc_9
  refine l_callC (As := [.int (xs (1 : Int32).toNatClampNeg), .int (xs (2 : Int32).toNatClampNeg), .int (xs (3 : Int32).toNatClampNeg)]) (st0 := [.int (xs (3 : Int32).toNatClampNeg), .int (xs (2 : Int32).toNatClampNeg), .int (xs (1 : Int32).toNatClampNeg), .ref (E.2.2 1199)]) (rest := []) (mc := 0) (ms := 0) (f := 9) hF hK hN hP hD hS hA 3 hM9 w_915 w_916 w_917 w_99 w_918 (by decide +kernel) ⟨Nat.le_of_ble_eq_true rfl, Nat.le_of_ble_eq_true rfl⟩ dL_law_942 rfl hl.1 rfl (Nat.le_of_ble_eq_true rfl) ⟨Nat.le_of_ble_eq_true rfl, Nat.le_of_ble_eq_true rfl⟩ (fun r2 u1 H locs h1 hV hS => ?_)
  refine lv_aload_n hx hb dL_law_945 rfl (lv_at hl 2 rfl) ?_
  refine lv_aload_n hx hb dL_law_946 rfl (lv_at hl 4 rfl) ?_
  refine lv_iload hx hb dL_law_947 (lv_at hl 0 rfl) ?_
  refine lv_iconst (v := 1) hx hb dL_law_949 (by decide) ?_
  refine lv_iadd hx hb dL_law_950 ?_
  refine q_topi (y := 1) (by decide) ?_
  refine va_sld hx hb hX hbl hbA hS (q_in (by decide)) dL_law_951 ?_
  refine lv_aload_n hx hb dL_law_952 rfl (lv_at hl 4 rfl) ?_
  refine lv_iload hx hb dL_law_953 (lv_at hl 0 rfl) ?_
  refine lv_iconst (v := 2) hx hb dL_law_955 (by decide) ?_
  refine lv_iadd hx hb dL_law_956 ?_
  refine q_topi (y := 2) (by decide) ?_
  refine va_sld hx hb hX hbl hbA hS (q_in (by decide)) dL_law_957 ?_
  refine lv_aload_n hx hb dL_law_958 rfl (lv_at hl 4 rfl) ?_
  refine lv_iload hx hb dL_law_959 (lv_at hl 0 rfl) ?_
  refine lv_iconst (v := 3) hx hb dL_law_961 (by decide) ?_
  refine lv_iadd hx hb dL_law_962 ?_
  refine q_topi (y := 3) (by decide) ?_
  refine va_sld hx hb hX hbl hbA hS (q_in (by decide)) dL_law_963 ?_
  have hM9 := k_X12_set l E (fun q : Nat => s.heap.size ≤ q) v (xs (1 : Int32).toNatClampNeg) (xs (2 : Int32).toNatClampNeg) (xs (3 : Int32).toNatClampNeg) fm_1239
  have hR9 := q_runV (l := l) (e := e) (below := below) (meth := meth) (R := room_1) (cells := 92) (slots := 111496) (st0 := [.int (xs (3 : Int32).toNatClampNeg), .int (xs (2 : Int32).toNatClampNeg), .int (xs (1 : Int32).toNatClampNeg), .ref (E.2.2 1299), .int r2]) (rest := [.int r2]) hF hV hS hA 3 0 12 1299 rfl rfl rfl hM9 w_1813 w_1814 w_1815 w_107 w_1816 (by decide +kernel) ⟨Nat.le_of_ble_eq_true rfl, Nat.le_of_ble_eq_true rfl⟩ dL_law_964 rfl hl.1 rfl (Nat.le_of_ble_eq_true rfl) ⟨Nat.le_of_ble_eq_true rfl, Nat.le_of_ble_eq_true rfl⟩
  refine q_calli hR9 hN hS (fun r4 v5 H locs h3 hV hS => ?_)
  refine lv_icmp_eq (tgt := 1647) hx hb dL_law_967 (by decide) (fun _ => ?_) (fun hneq => absurd (h1.trans h3.symm) hneq)
  exact l_exit l C0 hS (lv_sub hl [0, 4] rfl) (Nat.le_of_ble_eq_true rfl) (Nat.le_of_ble_eq_true rfl)
set_option maxHeartbeats 400000 in
set_option maxRecDepth 100000 in
theorem l_case14 {p : Program} {e : Env} {s : State} {m : MethodId} {below : List Frame} {meth : Method} {c : Code} (l : Launch) {b : Nat} {xs : Nat → Int32} (C0 : lw_At p s m meth c b 8 xs) (hst : l.stackTraces = false) (E : qE) (u v : qS) {H : Heap} {locs : List Loc} {ls : Array Slot} {o : Nat} (hK : va_K E.1 vwCl (qT E) s) (hN : qNs s) (hP : va_P E.1 vwCl (qW E 0 u ++ qW E 1 v) H) (hD : va_D (fun q : Nat => s.heap.size ≤ q) (qW E 0 u ++ qW E 1 v)) (hS : va_S (fun q : Nat => s.heap.size ≤ q) s.heap H locs) (hXs : qXs (fun q : Nat => s.heap.size ≤ q) s H) (hl : lv_has ls 7 [(4, .int 0), (3, .ref o), (2, .ref (E.2.2 1299)), (1, .ref (E.2.2 1199)), (0, .ref b)]) (hfr : l_fresh u v) : W p l e room_1 s m #[Value.ref b] below meth c H locs 92 111496 (lw_Z below #[Value.ref b] s) (F0 m 972 ls []) := by
  obtain ⟨hx, hb, hr, hml, hown, hts, hX, hbl, hlocks, hgv⟩ := id C0
  obtain ⟨fc_8, fc_9, fc_10, fc_11, fc_12, fc_13, fc_14, fc_15, fc_18, fc_311, fc_609, fc_801, fc_900, fc_901, fc_902, fc_909, fm_1202, fm_1210, fm_1230, fm_1231, fm_1232, fm_1239, fm_1247, fm_1256⟩ := hfr
  have hF : qX p m c code 7 s #[Value.ref b] "SecretBuyersLaw" := ⟨hx, hb, hml, hown, fun w h => hts w (qw_in h)⟩
  have hA : ∀ q : Nat, s.heap.size ≤ q → (fun q : Nat => s.heap.size ≤ q) q := fun _ h => h
  have hbA : ¬ (fun q : Nat => s.heap.size ≤ q) b := Nat.not_le.mpr hbl
  refine lv_aload_n hx hb dL_law_972 rfl (lv_at hl 3 rfl) ?_
  refine lv_aload_n hx hb dL_law_973 rfl (lv_at hl 4 rfl) ?_
  refine lv_iload hx hb dL_law_974 (lv_at hl 0 rfl) ?_
  refine lv_iconst (v := 1) hx hb dL_law_976 (by decide) ?_
  refine lv_iadd hx hb dL_law_977 ?_
  refine q_topi (y := 1) (by decide) ?_
  refine va_sld hx hb hX hbl hbA hS (q_in (by decide)) dL_law_978 ?_
  refine lv_aload_n hx hb dL_law_979 rfl (lv_at hl 1 rfl) ?_
  have hM9 := fun A' : Nat → Prop => k_L_lean l hst E A' u o (xs (1 : Int32).toNatClampNeg) fc_9
  refine l_callL (As := [.ref (E.2.2 1199), .int (xs (1 : Int32).toNatClampNeg), .ref o]) (st0 := [.ref o, .int (xs (1 : Int32).toNatClampNeg), .ref (E.2.2 1199)]) (rest := []) (mc := 1) (ms := 6) (f := 10) hF hK hN hP hD hS hA hXs 3 hM9 w_1277 w_1278 w_98 w_1279 (by decide +kernel) ⟨Nat.le_of_ble_eq_true rfl, Nat.le_of_ble_eq_true rfl⟩ dL_law_980 rfl hl.1 rfl (Nat.le_of_ble_eq_true rfl) ⟨Nat.le_of_ble_eq_true rfl, Nat.le_of_ble_eq_true rfl⟩ (fun r1 u1 H locs h2 hV hS => ?_)
  refine q_topi (y := 1) h2 ?_
  refine lv_istore (lv' := [(5, .int 1), (4, .int 0), (3, .ref o), (2, .ref (E.2.2 1299)), (1, .ref (E.2.2 1199)), (0, .ref b)]) hx hb dL_law_983 hl (by decide) rfl (fun ls hl => ?_)
  refine lv_aload_n hx hb dL_law_985 rfl (lv_at hl 3 rfl) ?_
  refine lv_aload_n hx hb dL_law_986 rfl (lv_at hl 5 rfl) ?_
  refine lv_iload hx hb dL_law_987 (lv_at hl 1 rfl) ?_
  refine lv_iconst (v := 1) hx hb dL_law_989 (by decide) ?_
  refine lv_iadd hx hb dL_law_990 ?_
  refine q_topi (y := 1) (by decide) ?_
  refine va_sld hx hb hX hbl hbA hS (q_in (by decide)) dL_law_991 ?_
  have hM9 := k_X12_lean l E (fun q : Nat => s.heap.size ≤ q) v (xs (1 : Int32).toNatClampNeg) fm_1239
  have hR9 := q_runV (l := l) (e := e) (below := below) (meth := meth) (R := room_1) (cells := 93) (slots := 111502) (st0 := [.int (xs (1 : Int32).toNatClampNeg), .ref (E.2.2 1299)]) (rest := []) hF hV hS hA 1 0 12 1299 rfl rfl rfl hM9 w_1833 w_1834 w_1835 w_107 w_1836 (by decide +kernel) ⟨Nat.le_of_ble_eq_true rfl, Nat.le_of_ble_eq_true rfl⟩ dL_law_992 rfl hl.1 rfl (Nat.le_of_ble_eq_true rfl) ⟨Nat.le_of_ble_eq_true rfl, Nat.le_of_ble_eq_true rfl⟩
  refine q_calli hR9 hN hS (fun r4 v5 H locs h3 hV hS => ?_)
  refine lv_istore (lv' := [(6, .int r4), (5, .int 1), (4, .int 0), (3, .ref o), (2, .ref (E.2.2 1299)), (1, .ref (E.2.2 1199)), (0, .ref b)]) hx hb dL_law_995 hl (by decide) rfl (fun ls hl => ?_)
  refine lv_aload_n hx hb dL_law_997 rfl (lv_at hl 4 rfl) ?_
  have hM9 := k_X12_thrown l E (fun q : Nat => s.heap.size ≤ q) v5
  have hR9 := q_runV (l := l) (e := e) (below := below) (meth := meth) (R := room_1) (cells := 93) (slots := 111502) (st0 := [.ref (E.2.2 1299)]) (rest := []) hF hV hS hA 0 0 12 1299 rfl rfl rfl hM9 w_1299 w_1300 w_1301 w_107 w_1302 (by decide +kernel) ⟨Nat.le_of_ble_eq_true rfl, Nat.le_of_ble_eq_true rfl⟩ dL_law_998 rfl hl.1 rfl (Nat.le_of_ble_eq_true rfl) ⟨Nat.le_of_ble_eq_true rfl, Nat.le_of_ble_eq_true rfl⟩
  refine q_calli hR9 hN hS (fun r7 v8 H locs h6 hV hS => ?_)
  refine lv_iload hx hb dL_law_1001 (lv_at hl 1 rfl) ?_
  refine lv_icmp_eq (tgt := 1008) hx hb dL_law_1003 (by decide) (fun _ => ?_) (fun hneq => absurd (h6.2.trans h3) hneq)
  refine lv_iload hx hb dL_law_1008 (lv_at hl 1 rfl) ?_
  refine lv_if_ne (tgt := 1025) hx hb dL_law_1010 (by decide) (fun _ => ?_) (fun h9 => absurd h9 (by decide))
  refine lv_goto (tgt := 1647) hx hb dL_law_1025 (by decide) ?_
  exact l_exit l C0 hS (lv_sub hl [2, 6] rfl) (Nat.le_of_ble_eq_true rfl) (Nat.le_of_ble_eq_true rfl)
set_option maxHeartbeats 400000 in
set_option maxRecDepth 100000 in
theorem l_case15 {p : Program} {e : Env} {s : State} {m : MethodId} {below : List Frame} {meth : Method} {c : Code} (l : Launch) {b : Nat} {xs : Nat → Int32} (C0 : lw_At p s m meth c b 8 xs) (hst : l.stackTraces = false) (E : qE) (u v : qS) {H : Heap} {locs : List Loc} {ls : Array Slot} {o : Nat} (hK : va_K E.1 vwCl (qT E) s) (hN : qNs s) (hP : va_P E.1 vwCl (qW E 0 u ++ qW E 1 v) H) (hD : va_D (fun q : Nat => s.heap.size ≤ q) (qW E 0 u ++ qW E 1 v)) (hS : va_S (fun q : Nat => s.heap.size ≤ q) s.heap H locs) (hXs : qXs (fun q : Nat => s.heap.size ≤ q) s H) (hl : lv_has ls 7 [(4, .int 0), (3, .ref o), (2, .ref (E.2.2 1299)), (1, .ref (E.2.2 1199)), (0, .ref b)]) (hfr : l_fresh u v) : W p l e room_1 s m #[Value.ref b] below meth c H locs 92 111496 (lw_Z below #[Value.ref b] s) (F0 m 1028 ls []) := by
  obtain ⟨hx, hb, hr, hml, hown, hts, hX, hbl, hlocks, hgv⟩ := id C0
  obtain ⟨fc_8, fc_9, fc_10, fc_11, fc_12, fc_13, fc_14, fc_15, fc_18, fc_311, fc_609, fc_801, fc_900, fc_901, fc_902, fc_909, fm_1202, fm_1210, fm_1230, fm_1231, fm_1232, fm_1239, fm_1247, fm_1256⟩ := hfr
  have hF : qX p m c code 7 s #[Value.ref b] "SecretBuyersLaw" := ⟨hx, hb, hml, hown, fun w h => hts w (qw_in h)⟩
  have hA : ∀ q : Nat, s.heap.size ≤ q → (fun q : Nat => s.heap.size ≤ q) q := fun _ h => h
  have hbA : ¬ (fun q : Nat => s.heap.size ≤ q) b := Nat.not_le.mpr hbl
  refine lv_aload_n hx hb dL_law_1028 rfl (lv_at hl 3 rfl) ?_
  refine lv_aload_n hx hb dL_law_1029 rfl (lv_at hl 4 rfl) ?_
  refine lv_iload hx hb dL_law_1030 (lv_at hl 0 rfl) ?_
  refine lv_iconst (v := 1) hx hb dL_law_1032 (by decide) ?_
  refine lv_iadd hx hb dL_law_1033 ?_
  refine q_topi (y := 1) (by decide) ?_
  refine va_sld hx hb hX hbl hbA hS (q_in (by decide)) dL_law_1034 ?_
  refine lv_aload_n hx hb dL_law_1035 rfl (lv_at hl 4 rfl) ?_
  refine lv_iload hx hb dL_law_1036 (lv_at hl 0 rfl) ?_
  refine lv_iconst (v := 2) hx hb dL_law_1038 (by decide) ?_
  refine lv_iadd hx hb dL_law_1039 ?_
  refine q_topi (y := 2) (by decide) ?_
  refine va_sld hx hb hX hbl hbA hS (q_in (by decide)) dL_law_1040 ?_
  have hM9 := fun A' : Nat → Prop => k_X11_meetings l E A' u (xs (1 : Int32).toNatClampNeg) (xs (2 : Int32).toNatClampNeg) fc_9
  refine l_callC (As := [.int (xs (1 : Int32).toNatClampNeg), .int (xs (2 : Int32).toNatClampNeg)]) (st0 := [.int (xs (2 : Int32).toNatClampNeg), .int (xs (1 : Int32).toNatClampNeg), .ref (E.2.2 1199)]) (rest := []) (mc := 0) (ms := 0) (f := 9) hF hK hN hP hD hS hA 2 hM9 w_927 w_928 w_929 w_99 w_930 (by decide +kernel) ⟨Nat.le_of_ble_eq_true rfl, Nat.le_of_ble_eq_true rfl⟩ dL_law_1041 rfl hl.1 rfl (Nat.le_of_ble_eq_true rfl) ⟨Nat.le_of_ble_eq_true rfl, Nat.le_of_ble_eq_true rfl⟩ (fun r2 u1 H locs h1 hV hS => ?_)
  refine lv_aload_n hx hb dL_law_1044 rfl (lv_at hl 2 rfl) ?_
  refine lv_aload_n hx hb dL_law_1045 rfl (lv_at hl 4 rfl) ?_
  refine lv_iload hx hb dL_law_1046 (lv_at hl 0 rfl) ?_
  refine lv_iconst (v := 1) hx hb dL_law_1048 (by decide) ?_
  refine lv_iadd hx hb dL_law_1049 ?_
  refine q_topi (y := 1) (by decide) ?_
  refine va_sld hx hb hX hbl hbA hS (q_in (by decide)) dL_law_1050 ?_
  refine lv_aload_n hx hb dL_law_1051 rfl (lv_at hl 4 rfl) ?_
  refine lv_iload hx hb dL_law_1052 (lv_at hl 0 rfl) ?_
  refine lv_iconst (v := 2) hx hb dL_law_1054 (by decide) ?_
  refine lv_iadd hx hb dL_law_1055 ?_
  refine q_topi (y := 2) (by decide) ?_
  refine va_sld hx hb hX hbl hbA hS (q_in (by decide)) dL_law_1056 ?_
  have hM9 := k_X12_meetings l E (fun q : Nat => s.heap.size ≤ q) v (xs (1 : Int32).toNatClampNeg) (xs (2 : Int32).toNatClampNeg) fm_1239
  have hR9 := q_runV (l := l) (e := e) (below := below) (meth := meth) (R := room_1) (cells := 92) (slots := 111496) (st0 := [.int (xs (2 : Int32).toNatClampNeg), .int (xs (1 : Int32).toNatClampNeg), .ref (E.2.2 1299), .int r2]) (rest := [.int r2]) hF hV hS hA 2 0 12 1299 rfl rfl rfl hM9 w_1837 w_1838 w_1839 w_107 w_1840 (by decide +kernel) ⟨Nat.le_of_ble_eq_true rfl, Nat.le_of_ble_eq_true rfl⟩ dL_law_1057 rfl hl.1 rfl (Nat.le_of_ble_eq_true rfl) ⟨Nat.le_of_ble_eq_true rfl, Nat.le_of_ble_eq_true rfl⟩
  refine q_calli hR9 hN hS (fun r4 v5 H locs h3 hV hS => ?_)
  refine lv_icmp_eq (tgt := 1647) hx hb dL_law_1060 (by decide) (fun _ => ?_) (fun hneq => absurd (h1.trans h3.symm) hneq)
  exact l_exit l C0 hS (lv_sub hl [0, 4] rfl) (Nat.le_of_ble_eq_true rfl) (Nat.le_of_ble_eq_true rfl)
set_option maxHeartbeats 400000 in
set_option maxRecDepth 100000 in
theorem l_case16 {p : Program} {e : Env} {s : State} {m : MethodId} {below : List Frame} {meth : Method} {c : Code} (l : Launch) {b : Nat} {xs : Nat → Int32} (C0 : lw_At p s m meth c b 8 xs) (hst : l.stackTraces = false) (E : qE) (u v : qS) {H : Heap} {locs : List Loc} {ls : Array Slot} {o : Nat} (hK : va_K E.1 vwCl (qT E) s) (hN : qNs s) (hP : va_P E.1 vwCl (qW E 0 u ++ qW E 1 v) H) (hD : va_D (fun q : Nat => s.heap.size ≤ q) (qW E 0 u ++ qW E 1 v)) (hS : va_S (fun q : Nat => s.heap.size ≤ q) s.heap H locs) (hXs : qXs (fun q : Nat => s.heap.size ≤ q) s H) (hl : lv_has ls 7 [(4, .int 0), (3, .ref o), (2, .ref (E.2.2 1299)), (1, .ref (E.2.2 1199)), (0, .ref b)]) (hfr : l_fresh u v) : W p l e room_1 s m #[Value.ref b] below meth c H locs 92 111496 (lw_Z below #[Value.ref b] s) (F0 m 1065 ls []) := by
  obtain ⟨hx, hb, hr, hml, hown, hts, hX, hbl, hlocks, hgv⟩ := id C0
  obtain ⟨fc_8, fc_9, fc_10, fc_11, fc_12, fc_13, fc_14, fc_15, fc_18, fc_311, fc_609, fc_801, fc_900, fc_901, fc_902, fc_909, fm_1202, fm_1210, fm_1230, fm_1231, fm_1232, fm_1239, fm_1247, fm_1256⟩ := hfr
  have hF : qX p m c code 7 s #[Value.ref b] "SecretBuyersLaw" := ⟨hx, hb, hml, hown, fun w h => hts w (qw_in h)⟩
  have hA : ∀ q : Nat, s.heap.size ≤ q → (fun q : Nat => s.heap.size ≤ q) q := fun _ h => h
  have hbA : ¬ (fun q : Nat => s.heap.size ≤ q) b := Nat.not_le.mpr hbl
  refine lv_aload_n hx hb dL_law_1065 rfl (lv_at hl 3 rfl) ?_
  refine lv_aload_n hx hb dL_law_1066 rfl (lv_at hl 4 rfl) ?_
  refine lv_iload hx hb dL_law_1067 (lv_at hl 0 rfl) ?_
  refine lv_iconst (v := 1) hx hb dL_law_1069 (by decide) ?_
  refine lv_iadd hx hb dL_law_1070 ?_
  refine q_topi (y := 1) (by decide) ?_
  refine va_sld hx hb hX hbl hbA hS (q_in (by decide)) dL_law_1071 ?_
  refine lv_aload_n hx hb dL_law_1072 rfl (lv_at hl 4 rfl) ?_
  refine lv_iload hx hb dL_law_1073 (lv_at hl 0 rfl) ?_
  refine lv_iconst (v := 2) hx hb dL_law_1075 (by decide) ?_
  refine lv_iadd hx hb dL_law_1076 ?_
  refine q_topi (y := 2) (by decide) ?_
  refine va_sld hx hb hX hbl hbA hS (q_in (by decide)) dL_law_1077 ?_
  refine lv_aload_n hx hb dL_law_1078 rfl (lv_at hl 4 rfl) ?_
  refine lv_iload hx hb dL_law_1079 (lv_at hl 0 rfl) ?_
  refine lv_iconst (v := 3) hx hb dL_law_1081 (by decide) ?_
  refine lv_iadd hx hb dL_law_1082 ?_
  refine q_topi (y := 3) (by decide) ?_
  refine va_sld hx hb hX hbl hbA hS (q_in (by decide)) dL_law_1083 ?_
  refine lv_aload_n hx hb dL_law_1084 rfl (lv_at hl 1 rfl) ?_
  have hM9 := fun A' : Nat → Prop => k_L_mean l hst E A' u o (xs (1 : Int32).toNatClampNeg) (xs (2 : Int32).toNatClampNeg) (xs (3 : Int32).toNatClampNeg) fc_8 fc_311 fc_18 fc_10
  refine l_callL (As := [.ref (E.2.2 1199), .int (xs (1 : Int32).toNatClampNeg), .int (xs (2 : Int32).toNatClampNeg), .int (xs (3 : Int32).toNatClampNeg), .ref o]) (st0 := [.ref o, .int (xs (3 : Int32).toNatClampNeg), .int (xs (2 : Int32).toNatClampNeg), .int (xs (1 : Int32).toNatClampNeg), .ref (E.2.2 1199)]) (rest := []) (mc := 1) (ms := 6) (f := 10) hF hK hN hP hD hS hA hXs 5 hM9 w_1291 w_1292 w_98 w_1293 (by decide +kernel) ⟨Nat.le_of_ble_eq_true rfl, Nat.le_of_ble_eq_true rfl⟩ dL_law_1085 rfl hl.1 rfl (Nat.le_of_ble_eq_true rfl) ⟨Nat.le_of_ble_eq_true rfl, Nat.le_of_ble_eq_true rfl⟩ (fun r1 u1 H locs h2 hV hS => ?_)
  refine q_topi (y := 1) h2 ?_
  refine lv_istore (lv' := [(5, .int 1), (4, .int 0), (3, .ref o), (2, .ref (E.2.2 1299)), (1, .ref (E.2.2 1199)), (0, .ref b)]) hx hb dL_law_1088 hl (by decide) rfl (fun ls hl => ?_)
  refine lv_aload_n hx hb dL_law_1090 rfl (lv_at hl 3 rfl) ?_
  refine lv_aload_n hx hb dL_law_1091 rfl (lv_at hl 5 rfl) ?_
  refine lv_iload hx hb dL_law_1092 (lv_at hl 1 rfl) ?_
  refine lv_iconst (v := 1) hx hb dL_law_1094 (by decide) ?_
  refine lv_iadd hx hb dL_law_1095 ?_
  refine q_topi (y := 1) (by decide) ?_
  refine va_sld hx hb hX hbl hbA hS (q_in (by decide)) dL_law_1096 ?_
  refine lv_aload_n hx hb dL_law_1097 rfl (lv_at hl 5 rfl) ?_
  refine lv_iload hx hb dL_law_1098 (lv_at hl 1 rfl) ?_
  refine lv_iconst (v := 2) hx hb dL_law_1100 (by decide) ?_
  refine lv_iadd hx hb dL_law_1101 ?_
  refine q_topi (y := 2) (by decide) ?_
  refine va_sld hx hb hX hbl hbA hS (q_in (by decide)) dL_law_1102 ?_
  refine lv_aload_n hx hb dL_law_1103 rfl (lv_at hl 5 rfl) ?_
  refine lv_iload hx hb dL_law_1104 (lv_at hl 1 rfl) ?_
  refine lv_iconst (v := 3) hx hb dL_law_1106 (by decide) ?_
  refine lv_iadd hx hb dL_law_1107 ?_
  refine q_topi (y := 3) (by decide) ?_
  refine va_sld hx hb hX hbl hbA hS (q_in (by decide)) dL_law_1108 ?_
  have hM9 := k_X12_mean l E (fun q : Nat => s.heap.size ≤ q) v (xs (1 : Int32).toNatClampNeg) (xs (2 : Int32).toNatClampNeg) (xs (3 : Int32).toNatClampNeg) fm_1232
  have hR9 := q_runV (l := l) (e := e) (below := below) (meth := meth) (R := room_1) (cells := 93) (slots := 111502) (st0 := [.int (xs (3 : Int32).toNatClampNeg), .int (xs (2 : Int32).toNatClampNeg), .int (xs (1 : Int32).toNatClampNeg), .ref (E.2.2 1299)]) (rest := []) hF hV hS hA 3 0 12 1299 rfl rfl rfl hM9 w_1841 w_1842 w_1843 w_107 w_1844 (by decide +kernel) ⟨Nat.le_of_ble_eq_true rfl, Nat.le_of_ble_eq_true rfl⟩ dL_law_1109 rfl hl.1 rfl (Nat.le_of_ble_eq_true rfl) ⟨Nat.le_of_ble_eq_true rfl, Nat.le_of_ble_eq_true rfl⟩
  refine q_calli hR9 hN hS (fun r4 v5 H locs h3 hV hS => ?_)
  refine lv_istore (lv' := [(6, .int r4), (5, .int 1), (4, .int 0), (3, .ref o), (2, .ref (E.2.2 1299)), (1, .ref (E.2.2 1199)), (0, .ref b)]) hx hb dL_law_1112 hl (by decide) rfl (fun ls hl => ?_)
  refine lv_aload_n hx hb dL_law_1114 rfl (lv_at hl 4 rfl) ?_
  have hM9 := k_X12_thrown l E (fun q : Nat => s.heap.size ≤ q) v5
  have hR9 := q_runV (l := l) (e := e) (below := below) (meth := meth) (R := room_1) (cells := 93) (slots := 111502) (st0 := [.ref (E.2.2 1299)]) (rest := []) hF hV hS hA 0 0 12 1299 rfl rfl rfl hM9 w_1299 w_1300 w_1301 w_107 w_1302 (by decide +kernel) ⟨Nat.le_of_ble_eq_true rfl, Nat.le_of_ble_eq_true rfl⟩ dL_law_1115 rfl hl.1 rfl (Nat.le_of_ble_eq_true rfl) ⟨Nat.le_of_ble_eq_true rfl, Nat.le_of_ble_eq_true rfl⟩
  refine q_calli hR9 hN hS (fun r7 v8 H locs h6 hV hS => ?_)
  refine lv_iload hx hb dL_law_1118 (lv_at hl 1 rfl) ?_
  refine lv_icmp_eq (tgt := 1125) hx hb dL_law_1120 (by decide) (fun _ => ?_) (fun hneq => absurd (h6.2.trans h3) hneq)
  refine lv_iload hx hb dL_law_1125 (lv_at hl 1 rfl) ?_
  refine lv_if_ne (tgt := 1142) hx hb dL_law_1127 (by decide) (fun _ => ?_) (fun h9 => absurd h9 (by decide))
  refine lv_goto (tgt := 1647) hx hb dL_law_1142 (by decide) ?_
  exact l_exit l C0 hS (lv_sub hl [2, 6] rfl) (Nat.le_of_ble_eq_true rfl) (Nat.le_of_ble_eq_true rfl)
set_option maxHeartbeats 400000 in
set_option maxRecDepth 100000 in
theorem l_case17 {p : Program} {e : Env} {s : State} {m : MethodId} {below : List Frame} {meth : Method} {c : Code} (l : Launch) {b : Nat} {xs : Nat → Int32} (C0 : lw_At p s m meth c b 8 xs) (hst : l.stackTraces = false) (E : qE) (u v : qS) {H : Heap} {locs : List Loc} {ls : Array Slot} {o : Nat} (hK : va_K E.1 vwCl (qT E) s) (hN : qNs s) (hP : va_P E.1 vwCl (qW E 0 u ++ qW E 1 v) H) (hD : va_D (fun q : Nat => s.heap.size ≤ q) (qW E 0 u ++ qW E 1 v)) (hS : va_S (fun q : Nat => s.heap.size ≤ q) s.heap H locs) (hXs : qXs (fun q : Nat => s.heap.size ≤ q) s H) (hl : lv_has ls 7 [(4, .int 0), (3, .ref o), (2, .ref (E.2.2 1299)), (1, .ref (E.2.2 1199)), (0, .ref b)]) (hfr : l_fresh u v) : W p l e room_1 s m #[Value.ref b] below meth c H locs 92 111496 (lw_Z below #[Value.ref b] s) (F0 m 1145 ls []) := by
  obtain ⟨hx, hb, hr, hml, hown, hts, hX, hbl, hlocks, hgv⟩ := id C0
  obtain ⟨fc_8, fc_9, fc_10, fc_11, fc_12, fc_13, fc_14, fc_15, fc_18, fc_311, fc_609, fc_801, fc_900, fc_901, fc_902, fc_909, fm_1202, fm_1210, fm_1230, fm_1231, fm_1232, fm_1239, fm_1247, fm_1256⟩ := hfr
  have hF : qX p m c code 7 s #[Value.ref b] "SecretBuyersLaw" := ⟨hx, hb, hml, hown, fun w h => hts w (qw_in h)⟩
  have hA : ∀ q : Nat, s.heap.size ≤ q → (fun q : Nat => s.heap.size ≤ q) q := fun _ h => h
  have hbA : ¬ (fun q : Nat => s.heap.size ≤ q) b := Nat.not_le.mpr hbl
  refine lv_aload_n hx hb dL_law_1145 rfl (lv_at hl 3 rfl) ?_
  refine lv_aload_n hx hb dL_law_1146 rfl (lv_at hl 4 rfl) ?_
  refine lv_iload hx hb dL_law_1147 (lv_at hl 0 rfl) ?_
  refine lv_iconst (v := 1) hx hb dL_law_1149 (by decide) ?_
  refine lv_iadd hx hb dL_law_1150 ?_
  refine q_topi (y := 1) (by decide) ?_
  refine va_sld hx hb hX hbl hbA hS (q_in (by decide)) dL_law_1151 ?_
  refine lv_aload_n hx hb dL_law_1152 rfl (lv_at hl 4 rfl) ?_
  refine lv_iload hx hb dL_law_1153 (lv_at hl 0 rfl) ?_
  refine lv_iconst (v := 2) hx hb dL_law_1155 (by decide) ?_
  refine lv_iadd hx hb dL_law_1156 ?_
  refine q_topi (y := 2) (by decide) ?_
  refine va_sld hx hb hX hbl hbA hS (q_in (by decide)) dL_law_1157 ?_
  refine lv_aload_n hx hb dL_law_1158 rfl (lv_at hl 4 rfl) ?_
  refine lv_iload hx hb dL_law_1159 (lv_at hl 0 rfl) ?_
  refine lv_iconst (v := 3) hx hb dL_law_1161 (by decide) ?_
  refine lv_iadd hx hb dL_law_1162 ?_
  refine q_topi (y := 3) (by decide) ?_
  refine va_sld hx hb hX hbl hbA hS (q_in (by decide)) dL_law_1163 ?_
  have hM9 := fun A' : Nat → Prop => k_X11_doubt l E A' u (xs (1 : Int32).toNatClampNeg) (xs (2 : Int32).toNatClampNeg) (xs (3 : Int32).toNatClampNeg) fc_8 fc_311 fc_18 fc_10
  refine l_callC (As := [.int (xs (1 : Int32).toNatClampNeg), .int (xs (2 : Int32).toNatClampNeg), .int (xs (3 : Int32).toNatClampNeg)]) (st0 := [.int (xs (3 : Int32).toNatClampNeg), .int (xs (2 : Int32).toNatClampNeg), .int (xs (1 : Int32).toNatClampNeg), .ref (E.2.2 1199)]) (rest := []) (mc := 0) (ms := 0) (f := 9) hF hK hN hP hD hS hA 3 hM9 w_1009 w_1010 w_1011 w_99 w_1012 (by decide +kernel) ⟨Nat.le_of_ble_eq_true rfl, Nat.le_of_ble_eq_true rfl⟩ dL_law_1164 rfl hl.1 rfl (Nat.le_of_ble_eq_true rfl) ⟨Nat.le_of_ble_eq_true rfl, Nat.le_of_ble_eq_true rfl⟩ (fun r2 u1 H locs h1 hV hS => ?_)
  refine lv_aload_n hx hb dL_law_1167 rfl (lv_at hl 2 rfl) ?_
  refine lv_aload_n hx hb dL_law_1168 rfl (lv_at hl 4 rfl) ?_
  refine lv_iload hx hb dL_law_1169 (lv_at hl 0 rfl) ?_
  refine lv_iconst (v := 1) hx hb dL_law_1171 (by decide) ?_
  refine lv_iadd hx hb dL_law_1172 ?_
  refine q_topi (y := 1) (by decide) ?_
  refine va_sld hx hb hX hbl hbA hS (q_in (by decide)) dL_law_1173 ?_
  refine lv_aload_n hx hb dL_law_1174 rfl (lv_at hl 4 rfl) ?_
  refine lv_iload hx hb dL_law_1175 (lv_at hl 0 rfl) ?_
  refine lv_iconst (v := 2) hx hb dL_law_1177 (by decide) ?_
  refine lv_iadd hx hb dL_law_1178 ?_
  refine q_topi (y := 2) (by decide) ?_
  refine va_sld hx hb hX hbl hbA hS (q_in (by decide)) dL_law_1179 ?_
  refine lv_aload_n hx hb dL_law_1180 rfl (lv_at hl 4 rfl) ?_
  refine lv_iload hx hb dL_law_1181 (lv_at hl 0 rfl) ?_
  refine lv_iconst (v := 3) hx hb dL_law_1183 (by decide) ?_
  refine lv_iadd hx hb dL_law_1184 ?_
  refine q_topi (y := 3) (by decide) ?_
  refine va_sld hx hb hX hbl hbA hS (q_in (by decide)) dL_law_1185 ?_
  have hM9 := k_X12_doubt l E (fun q : Nat => s.heap.size ≤ q) v (xs (1 : Int32).toNatClampNeg) (xs (2 : Int32).toNatClampNeg) (xs (3 : Int32).toNatClampNeg) fm_1232
  have hR9 := q_runV (l := l) (e := e) (below := below) (meth := meth) (R := room_1) (cells := 92) (slots := 111496) (st0 := [.int (xs (3 : Int32).toNatClampNeg), .int (xs (2 : Int32).toNatClampNeg), .int (xs (1 : Int32).toNatClampNeg), .ref (E.2.2 1299), .int r2]) (rest := [.int r2]) hF hV hS hA 3 0 12 1299 rfl rfl rfl hM9 w_1856 w_1857 w_1858 w_107 w_1859 (by decide +kernel) ⟨Nat.le_of_ble_eq_true rfl, Nat.le_of_ble_eq_true rfl⟩ dL_law_1186 rfl hl.1 rfl (Nat.le_of_ble_eq_true rfl) ⟨Nat.le_of_ble_eq_true rfl, Nat.le_of_ble_eq_true rfl⟩
  refine q_calli hR9 hN hS (fun r4 v5 H locs h3 hV hS => ?_)
  refine lv_icmp_eq (tgt := 1647) hx hb dL_law_1189 (by decide) (fun _ => ?_) (fun hneq => absurd (h1.trans h3.symm) hneq)
  exact l_exit l C0 hS (lv_sub hl [0, 4] rfl) (Nat.le_of_ble_eq_true rfl) (Nat.le_of_ble_eq_true rfl)
set_option maxHeartbeats 400000 in
set_option maxRecDepth 100000 in
theorem l_case18 {p : Program} {e : Env} {s : State} {m : MethodId} {below : List Frame} {meth : Method} {c : Code} (l : Launch) {b : Nat} {xs : Nat → Int32} (C0 : lw_At p s m meth c b 8 xs) (hst : l.stackTraces = false) (E : qE) (u v : qS) {H : Heap} {locs : List Loc} {ls : Array Slot} {o : Nat} (hK : va_K E.1 vwCl (qT E) s) (hN : qNs s) (hP : va_P E.1 vwCl (qW E 0 u ++ qW E 1 v) H) (hD : va_D (fun q : Nat => s.heap.size ≤ q) (qW E 0 u ++ qW E 1 v)) (hS : va_S (fun q : Nat => s.heap.size ≤ q) s.heap H locs) (hXs : qXs (fun q : Nat => s.heap.size ≤ q) s H) (hl : lv_has ls 7 [(4, .int 0), (3, .ref o), (2, .ref (E.2.2 1299)), (1, .ref (E.2.2 1199)), (0, .ref b)]) (hfr : l_fresh u v) : W p l e room_1 s m #[Value.ref b] below meth c H locs 92 111496 (lw_Z below #[Value.ref b] s) (F0 m 1194 ls []) := by
  obtain ⟨hx, hb, hr, hml, hown, hts, hX, hbl, hlocks, hgv⟩ := id C0
  obtain ⟨fc_8, fc_9, fc_10, fc_11, fc_12, fc_13, fc_14, fc_15, fc_18, fc_311, fc_609, fc_801, fc_900, fc_901, fc_902, fc_909, fm_1202, fm_1210, fm_1230, fm_1231, fm_1232, fm_1239, fm_1247, fm_1256⟩ := hfr
  have hF : qX p m c code 7 s #[Value.ref b] "SecretBuyersLaw" := ⟨hx, hb, hml, hown, fun w h => hts w (qw_in h)⟩
  have hA : ∀ q : Nat, s.heap.size ≤ q → (fun q : Nat => s.heap.size ≤ q) q := fun _ h => h
  have hbA : ¬ (fun q : Nat => s.heap.size ≤ q) b := Nat.not_le.mpr hbl
  refine lv_aload_n hx hb dL_law_1194 rfl (lv_at hl 3 rfl) ?_
  refine lv_aload_n hx hb dL_law_1195 rfl (lv_at hl 4 rfl) ?_
  refine lv_iload hx hb dL_law_1196 (lv_at hl 0 rfl) ?_
  refine lv_iconst (v := 1) hx hb dL_law_1198 (by decide) ?_
  refine lv_iadd hx hb dL_law_1199 ?_
  refine q_topi (y := 1) (by decide) ?_
  refine va_sld hx hb hX hbl hbA hS (q_in (by decide)) dL_law_1200 ?_
  refine lv_aload_n hx hb dL_law_1201 rfl (lv_at hl 4 rfl) ?_
  refine lv_iload hx hb dL_law_1202 (lv_at hl 0 rfl) ?_
  refine lv_iconst (v := 2) hx hb dL_law_1204 (by decide) ?_
  refine lv_iadd hx hb dL_law_1205 ?_
  refine q_topi (y := 2) (by decide) ?_
  refine va_sld hx hb hX hbl hbA hS (q_in (by decide)) dL_law_1206 ?_
  refine lv_aload_n hx hb dL_law_1207 rfl (lv_at hl 4 rfl) ?_
  refine lv_iload hx hb dL_law_1208 (lv_at hl 0 rfl) ?_
  refine lv_iconst (v := 3) hx hb dL_law_1210 (by decide) ?_
  refine lv_iadd hx hb dL_law_1211 ?_
  refine q_topi (y := 3) (by decide) ?_
  refine va_sld hx hb hX hbl hbA hS (q_in (by decide)) dL_law_1212 ?_
  refine lv_aload_n hx hb dL_law_1213 rfl (lv_at hl 4 rfl) ?_
  refine lv_iload hx hb dL_law_1214 (lv_at hl 0 rfl) ?_
  refine lv_iconst (v := 4) hx hb dL_law_1216 (by decide) ?_
  refine lv_iadd hx hb dL_law_1217 ?_
  refine q_topi (y := 4) (by decide) ?_
  refine va_sld hx hb hX hbl hbA hS (q_in (by decide)) dL_law_1218 ?_
  have hM9 := fun A' : Nat → Prop => k_X11_apart l E A' u (xs (1 : Int32).toNatClampNeg) (xs (2 : Int32).toNatClampNeg) (xs (3 : Int32).toNatClampNeg) (xs (4 : Int32).toNatClampNeg) fc_8 fc_311 fc_18 fc_10
  refine l_callC (As := [.int (xs (1 : Int32).toNatClampNeg), .int (xs (2 : Int32).toNatClampNeg), .int (xs (3 : Int32).toNatClampNeg), .int (xs (4 : Int32).toNatClampNeg)]) (st0 := [.int (xs (4 : Int32).toNatClampNeg), .int (xs (3 : Int32).toNatClampNeg), .int (xs (2 : Int32).toNatClampNeg), .int (xs (1 : Int32).toNatClampNeg), .ref (E.2.2 1199)]) (rest := []) (mc := 0) (ms := 0) (f := 9) hF hK hN hP hD hS hA 4 hM9 w_1041 w_1042 w_1043 w_99 w_1044 (by decide +kernel) ⟨Nat.le_of_ble_eq_true rfl, Nat.le_of_ble_eq_true rfl⟩ dL_law_1219 rfl hl.1 rfl (Nat.le_of_ble_eq_true rfl) ⟨Nat.le_of_ble_eq_true rfl, Nat.le_of_ble_eq_true rfl⟩ (fun r2 u1 H locs h1 hV hS => ?_)
  refine lv_aload_n hx hb dL_law_1222 rfl (lv_at hl 2 rfl) ?_
  refine lv_aload_n hx hb dL_law_1223 rfl (lv_at hl 4 rfl) ?_
  refine lv_iload hx hb dL_law_1224 (lv_at hl 0 rfl) ?_
  refine lv_iconst (v := 1) hx hb dL_law_1226 (by decide) ?_
  refine lv_iadd hx hb dL_law_1227 ?_
  refine q_topi (y := 1) (by decide) ?_
  refine va_sld hx hb hX hbl hbA hS (q_in (by decide)) dL_law_1228 ?_
  refine lv_aload_n hx hb dL_law_1229 rfl (lv_at hl 4 rfl) ?_
  refine lv_iload hx hb dL_law_1230 (lv_at hl 0 rfl) ?_
  refine lv_iconst (v := 2) hx hb dL_law_1232 (by decide) ?_
  refine lv_iadd hx hb dL_law_1233 ?_
  refine q_topi (y := 2) (by decide) ?_
  refine va_sld hx hb hX hbl hbA hS (q_in (by decide)) dL_law_1234 ?_
  refine lv_aload_n hx hb dL_law_1235 rfl (lv_at hl 4 rfl) ?_
  refine lv_iload hx hb dL_law_1236 (lv_at hl 0 rfl) ?_
  refine lv_iconst (v := 3) hx hb dL_law_1238 (by decide) ?_
  refine lv_iadd hx hb dL_law_1239 ?_
  refine q_topi (y := 3) (by decide) ?_
  refine va_sld hx hb hX hbl hbA hS (q_in (by decide)) dL_law_1240 ?_
  refine lv_aload_n hx hb dL_law_1241 rfl (lv_at hl 4 rfl) ?_
  refine lv_iload hx hb dL_law_1242 (lv_at hl 0 rfl) ?_
  refine lv_iconst (v := 4) hx hb dL_law_1244 (by decide) ?_
  refine lv_iadd hx hb dL_law_1245 ?_
  refine q_topi (y := 4) (by decide) ?_
  refine va_sld hx hb hX hbl hbA hS (q_in (by decide)) dL_law_1246 ?_
  have hM9 := k_X12_apart l E (fun q : Nat => s.heap.size ≤ q) v (xs (1 : Int32).toNatClampNeg) (xs (2 : Int32).toNatClampNeg) (xs (3 : Int32).toNatClampNeg) (xs (4 : Int32).toNatClampNeg) fm_1232
  have hR9 := q_runV (l := l) (e := e) (below := below) (meth := meth) (R := room_1) (cells := 92) (slots := 111496) (st0 := [.int (xs (4 : Int32).toNatClampNeg), .int (xs (3 : Int32).toNatClampNeg), .int (xs (2 : Int32).toNatClampNeg), .int (xs (1 : Int32).toNatClampNeg), .ref (E.2.2 1299), .int r2]) (rest := [.int r2]) hF hV hS hA 4 0 12 1299 rfl rfl rfl hM9 w_1864 w_1865 w_1866 w_107 w_1867 (by decide +kernel) ⟨Nat.le_of_ble_eq_true rfl, Nat.le_of_ble_eq_true rfl⟩ dL_law_1247 rfl hl.1 rfl (Nat.le_of_ble_eq_true rfl) ⟨Nat.le_of_ble_eq_true rfl, Nat.le_of_ble_eq_true rfl⟩
  refine q_calli hR9 hN hS (fun r4 v5 H locs h3 hV hS => ?_)
  refine lv_icmp_eq (tgt := 1647) hx hb dL_law_1250 (by decide) (fun _ => ?_) (fun hneq => absurd (h1.trans h3.symm) hneq)
  exact l_exit l C0 hS (lv_sub hl [0, 4] rfl) (Nat.le_of_ble_eq_true rfl) (Nat.le_of_ble_eq_true rfl)
set_option maxHeartbeats 400000 in
set_option maxRecDepth 100000 in
theorem l_case19 {p : Program} {e : Env} {s : State} {m : MethodId} {below : List Frame} {meth : Method} {c : Code} (l : Launch) {b : Nat} {xs : Nat → Int32} (C0 : lw_At p s m meth c b 8 xs) (hst : l.stackTraces = false) (E : qE) (u v : qS) {H : Heap} {locs : List Loc} {ls : Array Slot} {o : Nat} (hK : va_K E.1 vwCl (qT E) s) (hN : qNs s) (hP : va_P E.1 vwCl (qW E 0 u ++ qW E 1 v) H) (hD : va_D (fun q : Nat => s.heap.size ≤ q) (qW E 0 u ++ qW E 1 v)) (hS : va_S (fun q : Nat => s.heap.size ≤ q) s.heap H locs) (hXs : qXs (fun q : Nat => s.heap.size ≤ q) s H) (hl : lv_has ls 7 [(4, .int 0), (3, .ref o), (2, .ref (E.2.2 1299)), (1, .ref (E.2.2 1199)), (0, .ref b)]) (hfr : l_fresh u v) : W p l e room_1 s m #[Value.ref b] below meth c H locs 92 111496 (lw_Z below #[Value.ref b] s) (F0 m 1255 ls []) := by
  obtain ⟨hx, hb, hr, hml, hown, hts, hX, hbl, hlocks, hgv⟩ := id C0
  obtain ⟨fc_8, fc_9, fc_10, fc_11, fc_12, fc_13, fc_14, fc_15, fc_18, fc_311, fc_609, fc_801, fc_900, fc_901, fc_902, fc_909, fm_1202, fm_1210, fm_1230, fm_1231, fm_1232, fm_1239, fm_1247, fm_1256⟩ := hfr
  have hF : qX p m c code 7 s #[Value.ref b] "SecretBuyersLaw" := ⟨hx, hb, hml, hown, fun w h => hts w (qw_in h)⟩
  have hA : ∀ q : Nat, s.heap.size ≤ q → (fun q : Nat => s.heap.size ≤ q) q := fun _ h => h
  have hbA : ¬ (fun q : Nat => s.heap.size ≤ q) b := Nat.not_le.mpr hbl
  refine lv_aload_n hx hb dL_law_1255 rfl (lv_at hl 3 rfl) ?_
  refine lv_aload_n hx hb dL_law_1256 rfl (lv_at hl 4 rfl) ?_
  refine lv_iload hx hb dL_law_1257 (lv_at hl 0 rfl) ?_
  refine lv_iconst (v := 1) hx hb dL_law_1259 (by decide) ?_
  refine lv_iadd hx hb dL_law_1260 ?_
  refine q_topi (y := 1) (by decide) ?_
  refine va_sld hx hb hX hbl hbA hS (q_in (by decide)) dL_law_1261 ?_
  refine lv_aload_n hx hb dL_law_1262 rfl (lv_at hl 4 rfl) ?_
  refine lv_iload hx hb dL_law_1263 (lv_at hl 0 rfl) ?_
  refine lv_iconst (v := 2) hx hb dL_law_1265 (by decide) ?_
  refine lv_iadd hx hb dL_law_1266 ?_
  refine q_topi (y := 2) (by decide) ?_
  refine va_sld hx hb hX hbl hbA hS (q_in (by decide)) dL_law_1267 ?_
  refine lv_aload_n hx hb dL_law_1268 rfl (lv_at hl 4 rfl) ?_
  refine lv_iload hx hb dL_law_1269 (lv_at hl 0 rfl) ?_
  refine lv_iconst (v := 3) hx hb dL_law_1271 (by decide) ?_
  refine lv_iadd hx hb dL_law_1272 ?_
  refine q_topi (y := 3) (by decide) ?_
  refine va_sld hx hb hX hbl hbA hS (q_in (by decide)) dL_law_1273 ?_
  refine lv_aload_n hx hb dL_law_1274 rfl (lv_at hl 4 rfl) ?_
  refine lv_iload hx hb dL_law_1275 (lv_at hl 0 rfl) ?_
  refine lv_iconst (v := 4) hx hb dL_law_1277 (by decide) ?_
  refine lv_iadd hx hb dL_law_1278 ?_
  refine q_topi (y := 4) (by decide) ?_
  refine va_sld hx hb hX hbl hbA hS (q_in (by decide)) dL_law_1279 ?_
  have hM9 := fun A' : Nat → Prop => k_X11_order l E A' u (xs (1 : Int32).toNatClampNeg) (xs (2 : Int32).toNatClampNeg) (xs (3 : Int32).toNatClampNeg) (xs (4 : Int32).toNatClampNeg) fc_8 fc_311 fc_18 fc_10
  refine l_callC (As := [.int (xs (1 : Int32).toNatClampNeg), .int (xs (2 : Int32).toNatClampNeg), .int (xs (3 : Int32).toNatClampNeg), .int (xs (4 : Int32).toNatClampNeg)]) (st0 := [.int (xs (4 : Int32).toNatClampNeg), .int (xs (3 : Int32).toNatClampNeg), .int (xs (2 : Int32).toNatClampNeg), .int (xs (1 : Int32).toNatClampNeg), .ref (E.2.2 1199)]) (rest := []) (mc := 0) (ms := 0) (f := 9) hF hK hN hP hD hS hA 4 hM9 w_1054 w_1055 w_1056 w_99 w_1057 (by decide +kernel) ⟨Nat.le_of_ble_eq_true rfl, Nat.le_of_ble_eq_true rfl⟩ dL_law_1280 rfl hl.1 rfl (Nat.le_of_ble_eq_true rfl) ⟨Nat.le_of_ble_eq_true rfl, Nat.le_of_ble_eq_true rfl⟩ (fun r2 u1 H locs h1 hV hS => ?_)
  refine lv_aload_n hx hb dL_law_1283 rfl (lv_at hl 2 rfl) ?_
  refine lv_aload_n hx hb dL_law_1284 rfl (lv_at hl 4 rfl) ?_
  refine lv_iload hx hb dL_law_1285 (lv_at hl 0 rfl) ?_
  refine lv_iconst (v := 1) hx hb dL_law_1287 (by decide) ?_
  refine lv_iadd hx hb dL_law_1288 ?_
  refine q_topi (y := 1) (by decide) ?_
  refine va_sld hx hb hX hbl hbA hS (q_in (by decide)) dL_law_1289 ?_
  refine lv_aload_n hx hb dL_law_1290 rfl (lv_at hl 4 rfl) ?_
  refine lv_iload hx hb dL_law_1291 (lv_at hl 0 rfl) ?_
  refine lv_iconst (v := 2) hx hb dL_law_1293 (by decide) ?_
  refine lv_iadd hx hb dL_law_1294 ?_
  refine q_topi (y := 2) (by decide) ?_
  refine va_sld hx hb hX hbl hbA hS (q_in (by decide)) dL_law_1295 ?_
  refine lv_aload_n hx hb dL_law_1296 rfl (lv_at hl 4 rfl) ?_
  refine lv_iload hx hb dL_law_1297 (lv_at hl 0 rfl) ?_
  refine lv_iconst (v := 3) hx hb dL_law_1299 (by decide) ?_
  refine lv_iadd hx hb dL_law_1300 ?_
  refine q_topi (y := 3) (by decide) ?_
  refine va_sld hx hb hX hbl hbA hS (q_in (by decide)) dL_law_1301 ?_
  refine lv_aload_n hx hb dL_law_1302 rfl (lv_at hl 4 rfl) ?_
  refine lv_iload hx hb dL_law_1303 (lv_at hl 0 rfl) ?_
  refine lv_iconst (v := 4) hx hb dL_law_1305 (by decide) ?_
  refine lv_iadd hx hb dL_law_1306 ?_
  refine q_topi (y := 4) (by decide) ?_
  refine va_sld hx hb hX hbl hbA hS (q_in (by decide)) dL_law_1307 ?_
  have hM9 := k_X12_order l E (fun q : Nat => s.heap.size ≤ q) v (xs (1 : Int32).toNatClampNeg) (xs (2 : Int32).toNatClampNeg) (xs (3 : Int32).toNatClampNeg) (xs (4 : Int32).toNatClampNeg) fm_1247 fm_1232
  have hR9 := q_runV (l := l) (e := e) (below := below) (meth := meth) (R := room_1) (cells := 92) (slots := 111496) (st0 := [.int (xs (4 : Int32).toNatClampNeg), .int (xs (3 : Int32).toNatClampNeg), .int (xs (2 : Int32).toNatClampNeg), .int (xs (1 : Int32).toNatClampNeg), .ref (E.2.2 1299), .int r2]) (rest := [.int r2]) hF hV hS hA 4 0 12 1299 rfl rfl rfl hM9 w_1876 w_1877 w_1878 w_107 w_1879 (by decide +kernel) ⟨Nat.le_of_ble_eq_true rfl, Nat.le_of_ble_eq_true rfl⟩ dL_law_1308 rfl hl.1 rfl (Nat.le_of_ble_eq_true rfl) ⟨Nat.le_of_ble_eq_true rfl, Nat.le_of_ble_eq_true rfl⟩
  refine q_calli hR9 hN hS (fun r4 v5 H locs h3 hV hS => ?_)
  refine lv_icmp_eq (tgt := 1647) hx hb dL_law_1311 (by decide) (fun _ => ?_) (fun hneq => absurd (h1.trans h3.symm) hneq)
  exact l_exit l C0 hS (lv_sub hl [0, 4] rfl) (Nat.le_of_ble_eq_true rfl) (Nat.le_of_ble_eq_true rfl)
set_option maxHeartbeats 400000 in
set_option maxRecDepth 100000 in
theorem l_case20 {p : Program} {e : Env} {s : State} {m : MethodId} {below : List Frame} {meth : Method} {c : Code} (l : Launch) {b : Nat} {xs : Nat → Int32} (C0 : lw_At p s m meth c b 8 xs) (hst : l.stackTraces = false) (E : qE) (u v : qS) {H : Heap} {locs : List Loc} {ls : Array Slot} {o : Nat} (hK : va_K E.1 vwCl (qT E) s) (hN : qNs s) (hP : va_P E.1 vwCl (qW E 0 u ++ qW E 1 v) H) (hD : va_D (fun q : Nat => s.heap.size ≤ q) (qW E 0 u ++ qW E 1 v)) (hS : va_S (fun q : Nat => s.heap.size ≤ q) s.heap H locs) (hXs : qXs (fun q : Nat => s.heap.size ≤ q) s H) (hl : lv_has ls 7 [(4, .int 0), (3, .ref o), (2, .ref (E.2.2 1299)), (1, .ref (E.2.2 1199)), (0, .ref b)]) (hfr : l_fresh u v) : W p l e room_1 s m #[Value.ref b] below meth c H locs 92 111496 (lw_Z below #[Value.ref b] s) (F0 m 1316 ls []) := by
  obtain ⟨hx, hb, hr, hml, hown, hts, hX, hbl, hlocks, hgv⟩ := id C0
  obtain ⟨fc_8, fc_9, fc_10, fc_11, fc_12, fc_13, fc_14, fc_15, fc_18, fc_311, fc_609, fc_801, fc_900, fc_901, fc_902, fc_909, fm_1202, fm_1210, fm_1230, fm_1231, fm_1232, fm_1239, fm_1247, fm_1256⟩ := hfr
  have hF : qX p m c code 7 s #[Value.ref b] "SecretBuyersLaw" := ⟨hx, hb, hml, hown, fun w h => hts w (qw_in h)⟩
  have hA : ∀ q : Nat, s.heap.size ≤ q → (fun q : Nat => s.heap.size ≤ q) q := fun _ h => h
  have hbA : ¬ (fun q : Nat => s.heap.size ≤ q) b := Nat.not_le.mpr hbl
  refine lv_aload_n hx hb dL_law_1316 rfl (lv_at hl 3 rfl) ?_
  refine lv_aload_n hx hb dL_law_1317 rfl (lv_at hl 4 rfl) ?_
  refine lv_iload hx hb dL_law_1318 (lv_at hl 0 rfl) ?_
  refine lv_iconst (v := 1) hx hb dL_law_1320 (by decide) ?_
  refine lv_iadd hx hb dL_law_1321 ?_
  refine q_topi (y := 1) (by decide) ?_
  refine va_sld hx hb hX hbl hbA hS (q_in (by decide)) dL_law_1322 ?_
  refine lv_aload_n hx hb dL_law_1323 rfl (lv_at hl 4 rfl) ?_
  refine lv_iload hx hb dL_law_1324 (lv_at hl 0 rfl) ?_
  refine lv_iconst (v := 2) hx hb dL_law_1326 (by decide) ?_
  refine lv_iadd hx hb dL_law_1327 ?_
  refine q_topi (y := 2) (by decide) ?_
  refine va_sld hx hb hX hbl hbA hS (q_in (by decide)) dL_law_1328 ?_
  refine lv_aload_n hx hb dL_law_1329 rfl (lv_at hl 4 rfl) ?_
  refine lv_iload hx hb dL_law_1330 (lv_at hl 0 rfl) ?_
  refine lv_iconst (v := 3) hx hb dL_law_1332 (by decide) ?_
  refine lv_iadd hx hb dL_law_1333 ?_
  refine q_topi (y := 3) (by decide) ?_
  refine va_sld hx hb hX hbl hbA hS (q_in (by decide)) dL_law_1334 ?_
  refine lv_aload_n hx hb dL_law_1335 rfl (lv_at hl 4 rfl) ?_
  refine lv_iload hx hb dL_law_1336 (lv_at hl 0 rfl) ?_
  refine lv_iconst (v := 4) hx hb dL_law_1338 (by decide) ?_
  refine lv_iadd hx hb dL_law_1339 ?_
  refine q_topi (y := 4) (by decide) ?_
  refine va_sld hx hb hX hbl hbA hS (q_in (by decide)) dL_law_1340 ?_
  have hM9 := fun A' : Nat → Prop => k_X11_enough l E A' u (xs (1 : Int32).toNatClampNeg) (xs (2 : Int32).toNatClampNeg) (xs (3 : Int32).toNatClampNeg) (xs (4 : Int32).toNatClampNeg) fc_8 fc_311 fc_18 fc_10
  refine l_callC (As := [.int (xs (1 : Int32).toNatClampNeg), .int (xs (2 : Int32).toNatClampNeg), .int (xs (3 : Int32).toNatClampNeg), .int (xs (4 : Int32).toNatClampNeg)]) (st0 := [.int (xs (4 : Int32).toNatClampNeg), .int (xs (3 : Int32).toNatClampNeg), .int (xs (2 : Int32).toNatClampNeg), .int (xs (1 : Int32).toNatClampNeg), .ref (E.2.2 1199)]) (rest := []) (mc := 0) (ms := 0) (f := 9) hF hK hN hP hD hS hA 4 hM9 w_1081 w_1082 w_1083 w_99 w_1084 (by decide +kernel) ⟨Nat.le_of_ble_eq_true rfl, Nat.le_of_ble_eq_true rfl⟩ dL_law_1341 rfl hl.1 rfl (Nat.le_of_ble_eq_true rfl) ⟨Nat.le_of_ble_eq_true rfl, Nat.le_of_ble_eq_true rfl⟩ (fun r2 u1 H locs h1 hV hS => ?_)
  refine lv_aload_n hx hb dL_law_1344 rfl (lv_at hl 2 rfl) ?_
  refine lv_aload_n hx hb dL_law_1345 rfl (lv_at hl 4 rfl) ?_
  refine lv_iload hx hb dL_law_1346 (lv_at hl 0 rfl) ?_
  refine lv_iconst (v := 1) hx hb dL_law_1348 (by decide) ?_
  refine lv_iadd hx hb dL_law_1349 ?_
  refine q_topi (y := 1) (by decide) ?_
  refine va_sld hx hb hX hbl hbA hS (q_in (by decide)) dL_law_1350 ?_
  refine lv_aload_n hx hb dL_law_1351 rfl (lv_at hl 4 rfl) ?_
  refine lv_iload hx hb dL_law_1352 (lv_at hl 0 rfl) ?_
  refine lv_iconst (v := 2) hx hb dL_law_1354 (by decide) ?_
  refine lv_iadd hx hb dL_law_1355 ?_
  refine q_topi (y := 2) (by decide) ?_
  refine va_sld hx hb hX hbl hbA hS (q_in (by decide)) dL_law_1356 ?_
  refine lv_aload_n hx hb dL_law_1357 rfl (lv_at hl 4 rfl) ?_
  refine lv_iload hx hb dL_law_1358 (lv_at hl 0 rfl) ?_
  refine lv_iconst (v := 3) hx hb dL_law_1360 (by decide) ?_
  refine lv_iadd hx hb dL_law_1361 ?_
  refine q_topi (y := 3) (by decide) ?_
  refine va_sld hx hb hX hbl hbA hS (q_in (by decide)) dL_law_1362 ?_
  refine lv_aload_n hx hb dL_law_1363 rfl (lv_at hl 4 rfl) ?_
  refine lv_iload hx hb dL_law_1364 (lv_at hl 0 rfl) ?_
  refine lv_iconst (v := 4) hx hb dL_law_1366 (by decide) ?_
  refine lv_iadd hx hb dL_law_1367 ?_
  refine q_topi (y := 4) (by decide) ?_
  refine va_sld hx hb hX hbl hbA hS (q_in (by decide)) dL_law_1368 ?_
  have hM9 := k_X12_enough l E (fun q : Nat => s.heap.size ≤ q) v (xs (1 : Int32).toNatClampNeg) (xs (2 : Int32).toNatClampNeg) (xs (3 : Int32).toNatClampNeg) (xs (4 : Int32).toNatClampNeg) fm_1232
  have hR9 := q_runV (l := l) (e := e) (below := below) (meth := meth) (R := room_1) (cells := 92) (slots := 111496) (st0 := [.int (xs (4 : Int32).toNatClampNeg), .int (xs (3 : Int32).toNatClampNeg), .int (xs (2 : Int32).toNatClampNeg), .int (xs (1 : Int32).toNatClampNeg), .ref (E.2.2 1299), .int r2]) (rest := [.int r2]) hF hV hS hA 4 0 12 1299 rfl rfl rfl hM9 w_1880 w_1881 w_1882 w_107 w_1883 (by decide +kernel) ⟨Nat.le_of_ble_eq_true rfl, Nat.le_of_ble_eq_true rfl⟩ dL_law_1369 rfl hl.1 rfl (Nat.le_of_ble_eq_true rfl) ⟨Nat.le_of_ble_eq_true rfl, Nat.le_of_ble_eq_true rfl⟩
  refine q_calli hR9 hN hS (fun r4 v5 H locs h3 hV hS => ?_)
  refine lv_icmp_eq (tgt := 1647) hx hb dL_law_1372 (by decide) (fun _ => ?_) (fun hneq => absurd (h1.trans h3.symm) hneq)
  exact l_exit l C0 hS (lv_sub hl [0, 4] rfl) (Nat.le_of_ble_eq_true rfl) (Nat.le_of_ble_eq_true rfl)
set_option maxHeartbeats 400000 in
set_option maxRecDepth 100000 in
theorem l_case21 {p : Program} {e : Env} {s : State} {m : MethodId} {below : List Frame} {meth : Method} {c : Code} (l : Launch) {b : Nat} {xs : Nat → Int32} (C0 : lw_At p s m meth c b 8 xs) (hst : l.stackTraces = false) (E : qE) (u v : qS) {H : Heap} {locs : List Loc} {ls : Array Slot} {o : Nat} (hK : va_K E.1 vwCl (qT E) s) (hN : qNs s) (hP : va_P E.1 vwCl (qW E 0 u ++ qW E 1 v) H) (hD : va_D (fun q : Nat => s.heap.size ≤ q) (qW E 0 u ++ qW E 1 v)) (hS : va_S (fun q : Nat => s.heap.size ≤ q) s.heap H locs) (hXs : qXs (fun q : Nat => s.heap.size ≤ q) s H) (hl : lv_has ls 7 [(4, .int 0), (3, .ref o), (2, .ref (E.2.2 1299)), (1, .ref (E.2.2 1199)), (0, .ref b)]) (hfr : l_fresh u v) : W p l e room_1 s m #[Value.ref b] below meth c H locs 92 111496 (lw_Z below #[Value.ref b] s) (F0 m 1377 ls []) := by
  obtain ⟨hx, hb, hr, hml, hown, hts, hX, hbl, hlocks, hgv⟩ := id C0
  obtain ⟨fc_8, fc_9, fc_10, fc_11, fc_12, fc_13, fc_14, fc_15, fc_18, fc_311, fc_609, fc_801, fc_900, fc_901, fc_902, fc_909, fm_1202, fm_1210, fm_1230, fm_1231, fm_1232, fm_1239, fm_1247, fm_1256⟩ := hfr
  have hF : qX p m c code 7 s #[Value.ref b] "SecretBuyersLaw" := ⟨hx, hb, hml, hown, fun w h => hts w (qw_in h)⟩
  have hA : ∀ q : Nat, s.heap.size ≤ q → (fun q : Nat => s.heap.size ≤ q) q := fun _ h => h
  have hbA : ¬ (fun q : Nat => s.heap.size ≤ q) b := Nat.not_le.mpr hbl
  refine lv_aload_n hx hb dL_law_1377 rfl (lv_at hl 3 rfl) ?_
  refine lv_aload_n hx hb dL_law_1378 rfl (lv_at hl 4 rfl) ?_
  refine lv_iload hx hb dL_law_1379 (lv_at hl 0 rfl) ?_
  refine lv_iconst (v := 1) hx hb dL_law_1381 (by decide) ?_
  refine lv_iadd hx hb dL_law_1382 ?_
  refine q_topi (y := 1) (by decide) ?_
  refine va_sld hx hb hX hbl hbA hS (q_in (by decide)) dL_law_1383 ?_
  refine lv_aload_n hx hb dL_law_1384 rfl (lv_at hl 4 rfl) ?_
  refine lv_iload hx hb dL_law_1385 (lv_at hl 0 rfl) ?_
  refine lv_iconst (v := 2) hx hb dL_law_1387 (by decide) ?_
  refine lv_iadd hx hb dL_law_1388 ?_
  refine q_topi (y := 2) (by decide) ?_
  refine va_sld hx hb hX hbl hbA hS (q_in (by decide)) dL_law_1389 ?_
  refine lv_aload_n hx hb dL_law_1390 rfl (lv_at hl 4 rfl) ?_
  refine lv_iload hx hb dL_law_1391 (lv_at hl 0 rfl) ?_
  refine lv_iconst (v := 3) hx hb dL_law_1393 (by decide) ?_
  refine lv_iadd hx hb dL_law_1394 ?_
  refine q_topi (y := 3) (by decide) ?_
  refine va_sld hx hb hX hbl hbA hS (q_in (by decide)) dL_law_1395 ?_
  have hM9 := fun A' : Nat → Prop => k_X11_may l E A' u (xs (1 : Int32).toNatClampNeg) (xs (2 : Int32).toNatClampNeg) (xs (3 : Int32).toNatClampNeg) fc_9
  refine l_callC (As := [.int (xs (1 : Int32).toNatClampNeg), .int (xs (2 : Int32).toNatClampNeg), .int (xs (3 : Int32).toNatClampNeg)]) (st0 := [.int (xs (3 : Int32).toNatClampNeg), .int (xs (2 : Int32).toNatClampNeg), .int (xs (1 : Int32).toNatClampNeg), .ref (E.2.2 1199)]) (rest := []) (mc := 0) (ms := 0) (f := 9) hF hK hN hP hD hS hA 3 hM9 w_1087 w_1088 w_1089 w_99 w_1090 (by decide +kernel) ⟨Nat.le_of_ble_eq_true rfl, Nat.le_of_ble_eq_true rfl⟩ dL_law_1396 rfl hl.1 rfl (Nat.le_of_ble_eq_true rfl) ⟨Nat.le_of_ble_eq_true rfl, Nat.le_of_ble_eq_true rfl⟩ (fun r2 u1 H locs h1 hV hS => ?_)
  refine lv_aload_n hx hb dL_law_1399 rfl (lv_at hl 2 rfl) ?_
  refine lv_aload_n hx hb dL_law_1400 rfl (lv_at hl 4 rfl) ?_
  refine lv_iload hx hb dL_law_1401 (lv_at hl 0 rfl) ?_
  refine lv_iconst (v := 1) hx hb dL_law_1403 (by decide) ?_
  refine lv_iadd hx hb dL_law_1404 ?_
  refine q_topi (y := 1) (by decide) ?_
  refine va_sld hx hb hX hbl hbA hS (q_in (by decide)) dL_law_1405 ?_
  refine lv_aload_n hx hb dL_law_1406 rfl (lv_at hl 4 rfl) ?_
  refine lv_iload hx hb dL_law_1407 (lv_at hl 0 rfl) ?_
  refine lv_iconst (v := 2) hx hb dL_law_1409 (by decide) ?_
  refine lv_iadd hx hb dL_law_1410 ?_
  refine q_topi (y := 2) (by decide) ?_
  refine va_sld hx hb hX hbl hbA hS (q_in (by decide)) dL_law_1411 ?_
  refine lv_aload_n hx hb dL_law_1412 rfl (lv_at hl 4 rfl) ?_
  refine lv_iload hx hb dL_law_1413 (lv_at hl 0 rfl) ?_
  refine lv_iconst (v := 3) hx hb dL_law_1415 (by decide) ?_
  refine lv_iadd hx hb dL_law_1416 ?_
  refine q_topi (y := 3) (by decide) ?_
  refine va_sld hx hb hX hbl hbA hS (q_in (by decide)) dL_law_1417 ?_
  have hM9 := k_X12_may l E (fun q : Nat => s.heap.size ≤ q) v (xs (1 : Int32).toNatClampNeg) (xs (2 : Int32).toNatClampNeg) (xs (3 : Int32).toNatClampNeg) fm_1239
  have hR9 := q_runV (l := l) (e := e) (below := below) (meth := meth) (R := room_1) (cells := 92) (slots := 111496) (st0 := [.int (xs (3 : Int32).toNatClampNeg), .int (xs (2 : Int32).toNatClampNeg), .int (xs (1 : Int32).toNatClampNeg), .ref (E.2.2 1299), .int r2]) (rest := [.int r2]) hF hV hS hA 3 0 12 1299 rfl rfl rfl hM9 w_1884 w_1885 w_1886 w_107 w_1887 (by decide +kernel) ⟨Nat.le_of_ble_eq_true rfl, Nat.le_of_ble_eq_true rfl⟩ dL_law_1418 rfl hl.1 rfl (Nat.le_of_ble_eq_true rfl) ⟨Nat.le_of_ble_eq_true rfl, Nat.le_of_ble_eq_true rfl⟩
  refine q_calli hR9 hN hS (fun r4 v5 H locs h3 hV hS => ?_)
  refine lv_icmp_eq (tgt := 1647) hx hb dL_law_1421 (by decide) (fun _ => ?_) (fun hneq => absurd (h1.trans h3.symm) hneq)
  exact l_exit l C0 hS (lv_sub hl [0, 4] rfl) (Nat.le_of_ble_eq_true rfl) (Nat.le_of_ble_eq_true rfl)
set_option maxHeartbeats 400000 in
set_option maxRecDepth 100000 in
theorem l_case22 {p : Program} {e : Env} {s : State} {m : MethodId} {below : List Frame} {meth : Method} {c : Code} (l : Launch) {b : Nat} {xs : Nat → Int32} (C0 : lw_At p s m meth c b 8 xs) (hst : l.stackTraces = false) (E : qE) (u v : qS) {H : Heap} {locs : List Loc} {ls : Array Slot} {o : Nat} (hK : va_K E.1 vwCl (qT E) s) (hN : qNs s) (hP : va_P E.1 vwCl (qW E 0 u ++ qW E 1 v) H) (hD : va_D (fun q : Nat => s.heap.size ≤ q) (qW E 0 u ++ qW E 1 v)) (hS : va_S (fun q : Nat => s.heap.size ≤ q) s.heap H locs) (hXs : qXs (fun q : Nat => s.heap.size ≤ q) s H) (hl : lv_has ls 7 [(4, .int 0), (3, .ref o), (2, .ref (E.2.2 1299)), (1, .ref (E.2.2 1199)), (0, .ref b)]) (hfr : l_fresh u v) : W p l e room_1 s m #[Value.ref b] below meth c H locs 92 111496 (lw_Z below #[Value.ref b] s) (F0 m 1426 ls []) := by
  obtain ⟨hx, hb, hr, hml, hown, hts, hX, hbl, hlocks, hgv⟩ := id C0
  obtain ⟨fc_8, fc_9, fc_10, fc_11, fc_12, fc_13, fc_14, fc_15, fc_18, fc_311, fc_609, fc_801, fc_900, fc_901, fc_902, fc_909, fm_1202, fm_1210, fm_1230, fm_1231, fm_1232, fm_1239, fm_1247, fm_1256⟩ := hfr
  have hF : qX p m c code 7 s #[Value.ref b] "SecretBuyersLaw" := ⟨hx, hb, hml, hown, fun w h => hts w (qw_in h)⟩
  have hA : ∀ q : Nat, s.heap.size ≤ q → (fun q : Nat => s.heap.size ≤ q) q := fun _ h => h
  have hbA : ¬ (fun q : Nat => s.heap.size ≤ q) b := Nat.not_le.mpr hbl
  refine lv_aload_n hx hb dL_law_1426 rfl (lv_at hl 3 rfl) ?_
  refine lv_aload_n hx hb dL_law_1427 rfl (lv_at hl 4 rfl) ?_
  refine lv_iload hx hb dL_law_1428 (lv_at hl 0 rfl) ?_
  refine lv_iconst (v := 1) hx hb dL_law_1430 (by decide) ?_
  refine lv_iadd hx hb dL_law_1431 ?_
  refine q_topi (y := 1) (by decide) ?_
  refine va_sld hx hb hX hbl hbA hS (q_in (by decide)) dL_law_1432 ?_
  refine lv_aload_n hx hb dL_law_1433 rfl (lv_at hl 4 rfl) ?_
  refine lv_iload hx hb dL_law_1434 (lv_at hl 0 rfl) ?_
  refine lv_iconst (v := 2) hx hb dL_law_1436 (by decide) ?_
  refine lv_iadd hx hb dL_law_1437 ?_
  refine q_topi (y := 2) (by decide) ?_
  refine va_sld hx hb hX hbl hbA hS (q_in (by decide)) dL_law_1438 ?_
  refine lv_aload_n hx hb dL_law_1439 rfl (lv_at hl 4 rfl) ?_
  refine lv_iload hx hb dL_law_1440 (lv_at hl 0 rfl) ?_
  refine lv_iconst (v := 3) hx hb dL_law_1442 (by decide) ?_
  refine lv_iadd hx hb dL_law_1443 ?_
  refine q_topi (y := 3) (by decide) ?_
  refine va_sld hx hb hX hbl hbA hS (q_in (by decide)) dL_law_1444 ?_
  have hM9 := fun A' : Nat → Prop => k_X11_given l E A' u (xs (1 : Int32).toNatClampNeg) (xs (2 : Int32).toNatClampNeg) (xs (3 : Int32).toNatClampNeg) fc_8
  refine l_callC (As := [.int (xs (1 : Int32).toNatClampNeg), .int (xs (2 : Int32).toNatClampNeg), .int (xs (3 : Int32).toNatClampNeg)]) (st0 := [.int (xs (3 : Int32).toNatClampNeg), .int (xs (2 : Int32).toNatClampNeg), .int (xs (1 : Int32).toNatClampNeg), .ref (E.2.2 1199)]) (rest := []) (mc := 0) (ms := 0) (f := 9) hF hK hN hP hD hS hA 3 hM9 w_1105 w_1106 w_1107 w_99 w_1108 (by decide +kernel) ⟨Nat.le_of_ble_eq_true rfl, Nat.le_of_ble_eq_true rfl⟩ dL_law_1445 rfl hl.1 rfl (Nat.le_of_ble_eq_true rfl) ⟨Nat.le_of_ble_eq_true rfl, Nat.le_of_ble_eq_true rfl⟩ (fun r2 u1 H locs h1 hV hS => ?_)
  refine lv_aload_n hx hb dL_law_1448 rfl (lv_at hl 2 rfl) ?_
  refine lv_aload_n hx hb dL_law_1449 rfl (lv_at hl 4 rfl) ?_
  refine lv_iload hx hb dL_law_1450 (lv_at hl 0 rfl) ?_
  refine lv_iconst (v := 1) hx hb dL_law_1452 (by decide) ?_
  refine lv_iadd hx hb dL_law_1453 ?_
  refine q_topi (y := 1) (by decide) ?_
  refine va_sld hx hb hX hbl hbA hS (q_in (by decide)) dL_law_1454 ?_
  refine lv_aload_n hx hb dL_law_1455 rfl (lv_at hl 4 rfl) ?_
  refine lv_iload hx hb dL_law_1456 (lv_at hl 0 rfl) ?_
  refine lv_iconst (v := 2) hx hb dL_law_1458 (by decide) ?_
  refine lv_iadd hx hb dL_law_1459 ?_
  refine q_topi (y := 2) (by decide) ?_
  refine va_sld hx hb hX hbl hbA hS (q_in (by decide)) dL_law_1460 ?_
  refine lv_aload_n hx hb dL_law_1461 rfl (lv_at hl 4 rfl) ?_
  refine lv_iload hx hb dL_law_1462 (lv_at hl 0 rfl) ?_
  refine lv_iconst (v := 3) hx hb dL_law_1464 (by decide) ?_
  refine lv_iadd hx hb dL_law_1465 ?_
  refine q_topi (y := 3) (by decide) ?_
  refine va_sld hx hb hX hbl hbA hS (q_in (by decide)) dL_law_1466 ?_
  have hM9 := k_X12_given l E (fun q : Nat => s.heap.size ≤ q) v (xs (1 : Int32).toNatClampNeg) (xs (2 : Int32).toNatClampNeg) (xs (3 : Int32).toNatClampNeg) fm_1232
  have hR9 := q_runV (l := l) (e := e) (below := below) (meth := meth) (R := room_1) (cells := 92) (slots := 111496) (st0 := [.int (xs (3 : Int32).toNatClampNeg), .int (xs (2 : Int32).toNatClampNeg), .int (xs (1 : Int32).toNatClampNeg), .ref (E.2.2 1299), .int r2]) (rest := [.int r2]) hF hV hS hA 3 0 12 1299 rfl rfl rfl hM9 w_1892 w_1893 w_1894 w_107 w_1895 (by decide +kernel) ⟨Nat.le_of_ble_eq_true rfl, Nat.le_of_ble_eq_true rfl⟩ dL_law_1467 rfl hl.1 rfl (Nat.le_of_ble_eq_true rfl) ⟨Nat.le_of_ble_eq_true rfl, Nat.le_of_ble_eq_true rfl⟩
  refine q_calli hR9 hN hS (fun r4 v5 H locs h3 hV hS => ?_)
  refine lv_icmp_eq (tgt := 1647) hx hb dL_law_1470 (by decide) (fun _ => ?_) (fun hneq => absurd (h1.trans h3.symm) hneq)
  exact l_exit l C0 hS (lv_sub hl [0, 4] rfl) (Nat.le_of_ble_eq_true rfl) (Nat.le_of_ble_eq_true rfl)
set_option maxHeartbeats 400000 in
set_option maxRecDepth 100000 in
theorem l_case23 {p : Program} {e : Env} {s : State} {m : MethodId} {below : List Frame} {meth : Method} {c : Code} (l : Launch) {b : Nat} {xs : Nat → Int32} (C0 : lw_At p s m meth c b 8 xs) (hst : l.stackTraces = false) (E : qE) (u v : qS) {H : Heap} {locs : List Loc} {ls : Array Slot} {o : Nat} (hK : va_K E.1 vwCl (qT E) s) (hN : qNs s) (hP : va_P E.1 vwCl (qW E 0 u ++ qW E 1 v) H) (hD : va_D (fun q : Nat => s.heap.size ≤ q) (qW E 0 u ++ qW E 1 v)) (hS : va_S (fun q : Nat => s.heap.size ≤ q) s.heap H locs) (hXs : qXs (fun q : Nat => s.heap.size ≤ q) s H) (hl : lv_has ls 7 [(4, .int 0), (3, .ref o), (2, .ref (E.2.2 1299)), (1, .ref (E.2.2 1199)), (0, .ref b)]) (hfr : l_fresh u v) : W p l e room_1 s m #[Value.ref b] below meth c H locs 92 111496 (lw_Z below #[Value.ref b] s) (F0 m 1475 ls []) := by
  obtain ⟨hx, hb, hr, hml, hown, hts, hX, hbl, hlocks, hgv⟩ := id C0
  obtain ⟨fc_8, fc_9, fc_10, fc_11, fc_12, fc_13, fc_14, fc_15, fc_18, fc_311, fc_609, fc_801, fc_900, fc_901, fc_902, fc_909, fm_1202, fm_1210, fm_1230, fm_1231, fm_1232, fm_1239, fm_1247, fm_1256⟩ := hfr
  have hF : qX p m c code 7 s #[Value.ref b] "SecretBuyersLaw" := ⟨hx, hb, hml, hown, fun w h => hts w (qw_in h)⟩
  have hA : ∀ q : Nat, s.heap.size ≤ q → (fun q : Nat => s.heap.size ≤ q) q := fun _ h => h
  have hbA : ¬ (fun q : Nat => s.heap.size ≤ q) b := Nat.not_le.mpr hbl
  refine lv_aload_n hx hb dL_law_1475 rfl (lv_at hl 3 rfl) ?_
  refine lv_aload_n hx hb dL_law_1476 rfl (lv_at hl 4 rfl) ?_
  refine lv_iload hx hb dL_law_1477 (lv_at hl 0 rfl) ?_
  refine lv_iconst (v := 1) hx hb dL_law_1479 (by decide) ?_
  refine lv_iadd hx hb dL_law_1480 ?_
  refine q_topi (y := 1) (by decide) ?_
  refine va_sld hx hb hX hbl hbA hS (q_in (by decide)) dL_law_1481 ?_
  refine lv_aload_n hx hb dL_law_1482 rfl (lv_at hl 4 rfl) ?_
  refine lv_iload hx hb dL_law_1483 (lv_at hl 0 rfl) ?_
  refine lv_iconst (v := 2) hx hb dL_law_1485 (by decide) ?_
  refine lv_iadd hx hb dL_law_1486 ?_
  refine q_topi (y := 2) (by decide) ?_
  refine va_sld hx hb hX hbl hbA hS (q_in (by decide)) dL_law_1487 ?_
  refine lv_aload_n hx hb dL_law_1488 rfl (lv_at hl 4 rfl) ?_
  refine lv_iload hx hb dL_law_1489 (lv_at hl 0 rfl) ?_
  refine lv_iconst (v := 3) hx hb dL_law_1491 (by decide) ?_
  refine lv_iadd hx hb dL_law_1492 ?_
  refine q_topi (y := 3) (by decide) ?_
  refine va_sld hx hb hX hbl hbA hS (q_in (by decide)) dL_law_1493 ?_
  have hM9 := fun A' : Nat → Prop => k_X11_drawn l E A' u (xs (1 : Int32).toNatClampNeg) (xs (2 : Int32).toNatClampNeg) (xs (3 : Int32).toNatClampNeg) fc_8
  refine l_callC (As := [.int (xs (1 : Int32).toNatClampNeg), .int (xs (2 : Int32).toNatClampNeg), .int (xs (3 : Int32).toNatClampNeg)]) (st0 := [.int (xs (3 : Int32).toNatClampNeg), .int (xs (2 : Int32).toNatClampNeg), .int (xs (1 : Int32).toNatClampNeg), .ref (E.2.2 1199)]) (rest := []) (mc := 0) (ms := 0) (f := 9) hF hK hN hP hD hS hA 3 hM9 w_1146 w_1147 w_1148 w_99 w_1149 (by decide +kernel) ⟨Nat.le_of_ble_eq_true rfl, Nat.le_of_ble_eq_true rfl⟩ dL_law_1494 rfl hl.1 rfl (Nat.le_of_ble_eq_true rfl) ⟨Nat.le_of_ble_eq_true rfl, Nat.le_of_ble_eq_true rfl⟩ (fun r2 u1 H locs h1 hV hS => ?_)
  refine lv_aload_n hx hb dL_law_1497 rfl (lv_at hl 2 rfl) ?_
  refine lv_aload_n hx hb dL_law_1498 rfl (lv_at hl 4 rfl) ?_
  refine lv_iload hx hb dL_law_1499 (lv_at hl 0 rfl) ?_
  refine lv_iconst (v := 1) hx hb dL_law_1501 (by decide) ?_
  refine lv_iadd hx hb dL_law_1502 ?_
  refine q_topi (y := 1) (by decide) ?_
  refine va_sld hx hb hX hbl hbA hS (q_in (by decide)) dL_law_1503 ?_
  refine lv_aload_n hx hb dL_law_1504 rfl (lv_at hl 4 rfl) ?_
  refine lv_iload hx hb dL_law_1505 (lv_at hl 0 rfl) ?_
  refine lv_iconst (v := 2) hx hb dL_law_1507 (by decide) ?_
  refine lv_iadd hx hb dL_law_1508 ?_
  refine q_topi (y := 2) (by decide) ?_
  refine va_sld hx hb hX hbl hbA hS (q_in (by decide)) dL_law_1509 ?_
  refine lv_aload_n hx hb dL_law_1510 rfl (lv_at hl 4 rfl) ?_
  refine lv_iload hx hb dL_law_1511 (lv_at hl 0 rfl) ?_
  refine lv_iconst (v := 3) hx hb dL_law_1513 (by decide) ?_
  refine lv_iadd hx hb dL_law_1514 ?_
  refine q_topi (y := 3) (by decide) ?_
  refine va_sld hx hb hX hbl hbA hS (q_in (by decide)) dL_law_1515 ?_
  have hM9 := k_X12_drawn l E (fun q : Nat => s.heap.size ≤ q) v (xs (1 : Int32).toNatClampNeg) (xs (2 : Int32).toNatClampNeg) (xs (3 : Int32).toNatClampNeg) fm_1232
  have hR9 := q_runV (l := l) (e := e) (below := below) (meth := meth) (R := room_1) (cells := 92) (slots := 111496) (st0 := [.int (xs (3 : Int32).toNatClampNeg), .int (xs (2 : Int32).toNatClampNeg), .int (xs (1 : Int32).toNatClampNeg), .ref (E.2.2 1299), .int r2]) (rest := [.int r2]) hF hV hS hA 3 0 12 1299 rfl rfl rfl hM9 w_1909 w_1910 w_1911 w_107 w_1912 (by decide +kernel) ⟨Nat.le_of_ble_eq_true rfl, Nat.le_of_ble_eq_true rfl⟩ dL_law_1516 rfl hl.1 rfl (Nat.le_of_ble_eq_true rfl) ⟨Nat.le_of_ble_eq_true rfl, Nat.le_of_ble_eq_true rfl⟩
  refine q_calli hR9 hN hS (fun r4 v5 H locs h3 hV hS => ?_)
  refine lv_icmp_eq (tgt := 1647) hx hb dL_law_1519 (by decide) (fun _ => ?_) (fun hneq => absurd (h1.trans h3.symm) hneq)
  exact l_exit l C0 hS (lv_sub hl [0, 4] rfl) (Nat.le_of_ble_eq_true rfl) (Nat.le_of_ble_eq_true rfl)
set_option maxHeartbeats 400000 in
set_option maxRecDepth 100000 in
theorem l_case24 {p : Program} {e : Env} {s : State} {m : MethodId} {below : List Frame} {meth : Method} {c : Code} (l : Launch) {b : Nat} {xs : Nat → Int32} (C0 : lw_At p s m meth c b 8 xs) (hst : l.stackTraces = false) (E : qE) (u v : qS) {H : Heap} {locs : List Loc} {ls : Array Slot} {o : Nat} (hK : va_K E.1 vwCl (qT E) s) (hN : qNs s) (hP : va_P E.1 vwCl (qW E 0 u ++ qW E 1 v) H) (hD : va_D (fun q : Nat => s.heap.size ≤ q) (qW E 0 u ++ qW E 1 v)) (hS : va_S (fun q : Nat => s.heap.size ≤ q) s.heap H locs) (hXs : qXs (fun q : Nat => s.heap.size ≤ q) s H) (hl : lv_has ls 7 [(4, .int 0), (3, .ref o), (2, .ref (E.2.2 1299)), (1, .ref (E.2.2 1199)), (0, .ref b)]) (hfr : l_fresh u v) : W p l e room_1 s m #[Value.ref b] below meth c H locs 92 111496 (lw_Z below #[Value.ref b] s) (F0 m 1524 ls []) := by
  obtain ⟨hx, hb, hr, hml, hown, hts, hX, hbl, hlocks, hgv⟩ := id C0
  obtain ⟨fc_8, fc_9, fc_10, fc_11, fc_12, fc_13, fc_14, fc_15, fc_18, fc_311, fc_609, fc_801, fc_900, fc_901, fc_902, fc_909, fm_1202, fm_1210, fm_1230, fm_1231, fm_1232, fm_1239, fm_1247, fm_1256⟩ := hfr
  have hF : qX p m c code 7 s #[Value.ref b] "SecretBuyersLaw" := ⟨hx, hb, hml, hown, fun w h => hts w (qw_in h)⟩
  have hA : ∀ q : Nat, s.heap.size ≤ q → (fun q : Nat => s.heap.size ≤ q) q := fun _ h => h
  have hbA : ¬ (fun q : Nat => s.heap.size ≤ q) b := Nat.not_le.mpr hbl
  refine lv_aload_n hx hb dL_law_1524 rfl (lv_at hl 3 rfl) ?_
  refine lv_aload_n hx hb dL_law_1525 rfl (lv_at hl 4 rfl) ?_
  refine lv_iload hx hb dL_law_1526 (lv_at hl 0 rfl) ?_
  refine lv_iconst (v := 1) hx hb dL_law_1528 (by decide) ?_
  refine lv_iadd hx hb dL_law_1529 ?_
  refine q_topi (y := 1) (by decide) ?_
  refine va_sld hx hb hX hbl hbA hS (q_in (by decide)) dL_law_1530 ?_
  refine lv_aload_n hx hb dL_law_1531 rfl (lv_at hl 4 rfl) ?_
  refine lv_iload hx hb dL_law_1532 (lv_at hl 0 rfl) ?_
  refine lv_iconst (v := 2) hx hb dL_law_1534 (by decide) ?_
  refine lv_iadd hx hb dL_law_1535 ?_
  refine q_topi (y := 2) (by decide) ?_
  refine va_sld hx hb hX hbl hbA hS (q_in (by decide)) dL_law_1536 ?_
  have hM9 := fun A' : Nat → Prop => k_X11_sway l E A' u (xs (1 : Int32).toNatClampNeg) (xs (2 : Int32).toNatClampNeg) fc_8
  refine l_callC (As := [.int (xs (1 : Int32).toNatClampNeg), .int (xs (2 : Int32).toNatClampNeg)]) (st0 := [.int (xs (2 : Int32).toNatClampNeg), .int (xs (1 : Int32).toNatClampNeg), .ref (E.2.2 1199)]) (rest := []) (mc := 0) (ms := 0) (f := 9) hF hK hN hP hD hS hA 2 hM9 w_1158 w_1159 w_1160 w_99 w_1161 (by decide +kernel) ⟨Nat.le_of_ble_eq_true rfl, Nat.le_of_ble_eq_true rfl⟩ dL_law_1537 rfl hl.1 rfl (Nat.le_of_ble_eq_true rfl) ⟨Nat.le_of_ble_eq_true rfl, Nat.le_of_ble_eq_true rfl⟩ (fun r2 u1 H locs h1 hV hS => ?_)
  refine lv_aload_n hx hb dL_law_1540 rfl (lv_at hl 2 rfl) ?_
  refine lv_aload_n hx hb dL_law_1541 rfl (lv_at hl 4 rfl) ?_
  refine lv_iload hx hb dL_law_1542 (lv_at hl 0 rfl) ?_
  refine lv_iconst (v := 1) hx hb dL_law_1544 (by decide) ?_
  refine lv_iadd hx hb dL_law_1545 ?_
  refine q_topi (y := 1) (by decide) ?_
  refine va_sld hx hb hX hbl hbA hS (q_in (by decide)) dL_law_1546 ?_
  refine lv_aload_n hx hb dL_law_1547 rfl (lv_at hl 4 rfl) ?_
  refine lv_iload hx hb dL_law_1548 (lv_at hl 0 rfl) ?_
  refine lv_iconst (v := 2) hx hb dL_law_1550 (by decide) ?_
  refine lv_iadd hx hb dL_law_1551 ?_
  refine q_topi (y := 2) (by decide) ?_
  refine va_sld hx hb hX hbl hbA hS (q_in (by decide)) dL_law_1552 ?_
  have hM9 := k_X12_sway l E (fun q : Nat => s.heap.size ≤ q) v (xs (1 : Int32).toNatClampNeg) (xs (2 : Int32).toNatClampNeg) fm_1232
  have hR9 := q_runV (l := l) (e := e) (below := below) (meth := meth) (R := room_1) (cells := 92) (slots := 111496) (st0 := [.int (xs (2 : Int32).toNatClampNeg), .int (xs (1 : Int32).toNatClampNeg), .ref (E.2.2 1299), .int r2]) (rest := [.int r2]) hF hV hS hA 2 0 12 1299 rfl rfl rfl hM9 w_1917 w_1918 w_1919 w_107 w_1920 (by decide +kernel) ⟨Nat.le_of_ble_eq_true rfl, Nat.le_of_ble_eq_true rfl⟩ dL_law_1553 rfl hl.1 rfl (Nat.le_of_ble_eq_true rfl) ⟨Nat.le_of_ble_eq_true rfl, Nat.le_of_ble_eq_true rfl⟩
  refine q_calli hR9 hN hS (fun r4 v5 H locs h3 hV hS => ?_)
  refine lv_icmp_eq (tgt := 1647) hx hb dL_law_1556 (by decide) (fun _ => ?_) (fun hneq => absurd (h1.trans h3.symm) hneq)
  exact l_exit l C0 hS (lv_sub hl [0, 4] rfl) (Nat.le_of_ble_eq_true rfl) (Nat.le_of_ble_eq_true rfl)
set_option maxHeartbeats 400000 in
set_option maxRecDepth 100000 in
theorem l_case25 {p : Program} {e : Env} {s : State} {m : MethodId} {below : List Frame} {meth : Method} {c : Code} (l : Launch) {b : Nat} {xs : Nat → Int32} (C0 : lw_At p s m meth c b 8 xs) (hst : l.stackTraces = false) (E : qE) (u v : qS) {H : Heap} {locs : List Loc} {ls : Array Slot} {o : Nat} (hK : va_K E.1 vwCl (qT E) s) (hN : qNs s) (hP : va_P E.1 vwCl (qW E 0 u ++ qW E 1 v) H) (hD : va_D (fun q : Nat => s.heap.size ≤ q) (qW E 0 u ++ qW E 1 v)) (hS : va_S (fun q : Nat => s.heap.size ≤ q) s.heap H locs) (hXs : qXs (fun q : Nat => s.heap.size ≤ q) s H) (hl : lv_has ls 7 [(4, .int 0), (3, .ref o), (2, .ref (E.2.2 1299)), (1, .ref (E.2.2 1199)), (0, .ref b)]) (hfr : l_fresh u v) : W p l e room_1 s m #[Value.ref b] below meth c H locs 92 111496 (lw_Z below #[Value.ref b] s) (F0 m 1561 ls []) := by
  obtain ⟨hx, hb, hr, hml, hown, hts, hX, hbl, hlocks, hgv⟩ := id C0
  obtain ⟨fc_8, fc_9, fc_10, fc_11, fc_12, fc_13, fc_14, fc_15, fc_18, fc_311, fc_609, fc_801, fc_900, fc_901, fc_902, fc_909, fm_1202, fm_1210, fm_1230, fm_1231, fm_1232, fm_1239, fm_1247, fm_1256⟩ := hfr
  have hF : qX p m c code 7 s #[Value.ref b] "SecretBuyersLaw" := ⟨hx, hb, hml, hown, fun w h => hts w (qw_in h)⟩
  have hA : ∀ q : Nat, s.heap.size ≤ q → (fun q : Nat => s.heap.size ≤ q) q := fun _ h => h
  have hbA : ¬ (fun q : Nat => s.heap.size ≤ q) b := Nat.not_le.mpr hbl
  refine lv_aload_n hx hb dL_law_1561 rfl (lv_at hl 3 rfl) ?_
  refine lv_aload_n hx hb dL_law_1562 rfl (lv_at hl 4 rfl) ?_
  refine lv_iload hx hb dL_law_1563 (lv_at hl 0 rfl) ?_
  refine lv_iconst (v := 1) hx hb dL_law_1565 (by decide) ?_
  refine lv_iadd hx hb dL_law_1566 ?_
  refine q_topi (y := 1) (by decide) ?_
  refine va_sld hx hb hX hbl hbA hS (q_in (by decide)) dL_law_1567 ?_
  refine lv_aload_n hx hb dL_law_1568 rfl (lv_at hl 4 rfl) ?_
  refine lv_iload hx hb dL_law_1569 (lv_at hl 0 rfl) ?_
  refine lv_iconst (v := 2) hx hb dL_law_1571 (by decide) ?_
  refine lv_iadd hx hb dL_law_1572 ?_
  refine q_topi (y := 2) (by decide) ?_
  refine va_sld hx hb hX hbl hbA hS (q_in (by decide)) dL_law_1573 ?_
  refine lv_aload_n hx hb dL_law_1574 rfl (lv_at hl 4 rfl) ?_
  refine lv_iload hx hb dL_law_1575 (lv_at hl 0 rfl) ?_
  refine lv_iconst (v := 3) hx hb dL_law_1577 (by decide) ?_
  refine lv_iadd hx hb dL_law_1578 ?_
  refine q_topi (y := 3) (by decide) ?_
  refine va_sld hx hb hX hbl hbA hS (q_in (by decide)) dL_law_1579 ?_
  refine lv_aload_n hx hb dL_law_1580 rfl (lv_at hl 4 rfl) ?_
  refine lv_iload hx hb dL_law_1581 (lv_at hl 0 rfl) ?_
  refine lv_iconst (v := 4) hx hb dL_law_1583 (by decide) ?_
  refine lv_iadd hx hb dL_law_1584 ?_
  refine q_topi (y := 4) (by decide) ?_
  refine va_sld hx hb hX hbl hbA hS (q_in (by decide)) dL_law_1585 ?_
  have hM9 := fun A' : Nat → Prop => k_X11_sum l E A' u (xs (1 : Int32).toNatClampNeg) (xs (2 : Int32).toNatClampNeg) (xs (3 : Int32).toNatClampNeg) (xs (4 : Int32).toNatClampNeg) fc_609 fc_9 fc_909 fc_18 fc_10
  refine l_callC (As := [.int (xs (1 : Int32).toNatClampNeg), .int (xs (2 : Int32).toNatClampNeg), .int (xs (3 : Int32).toNatClampNeg), .int (xs (4 : Int32).toNatClampNeg)]) (st0 := [.int (xs (4 : Int32).toNatClampNeg), .int (xs (3 : Int32).toNatClampNeg), .int (xs (2 : Int32).toNatClampNeg), .int (xs (1 : Int32).toNatClampNeg), .ref (E.2.2 1199)]) (rest := []) (mc := 0) (ms := 0) (f := 6) hF hK hN hP hD hS hA 4 hM9 w_1167 w_1168 w_1169 w_99 w_1170 (by decide +kernel) ⟨Nat.le_of_ble_eq_true rfl, Nat.le_of_ble_eq_true rfl⟩ dL_law_1586 rfl hl.1 rfl (Nat.le_of_ble_eq_true rfl) ⟨Nat.le_of_ble_eq_true rfl, Nat.le_of_ble_eq_true rfl⟩ (fun r2 u1 H locs h1 hV hS => ?_)
  refine lv_aload_n hx hb dL_law_1589 rfl (lv_at hl 2 rfl) ?_
  refine lv_aload_n hx hb dL_law_1590 rfl (lv_at hl 4 rfl) ?_
  refine lv_iload hx hb dL_law_1591 (lv_at hl 0 rfl) ?_
  refine lv_iconst (v := 1) hx hb dL_law_1593 (by decide) ?_
  refine lv_iadd hx hb dL_law_1594 ?_
  refine q_topi (y := 1) (by decide) ?_
  refine va_sld hx hb hX hbl hbA hS (q_in (by decide)) dL_law_1595 ?_
  refine lv_aload_n hx hb dL_law_1596 rfl (lv_at hl 4 rfl) ?_
  refine lv_iload hx hb dL_law_1597 (lv_at hl 0 rfl) ?_
  refine lv_iconst (v := 2) hx hb dL_law_1599 (by decide) ?_
  refine lv_iadd hx hb dL_law_1600 ?_
  refine q_topi (y := 2) (by decide) ?_
  refine va_sld hx hb hX hbl hbA hS (q_in (by decide)) dL_law_1601 ?_
  refine lv_aload_n hx hb dL_law_1602 rfl (lv_at hl 4 rfl) ?_
  refine lv_iload hx hb dL_law_1603 (lv_at hl 0 rfl) ?_
  refine lv_iconst (v := 3) hx hb dL_law_1605 (by decide) ?_
  refine lv_iadd hx hb dL_law_1606 ?_
  refine q_topi (y := 3) (by decide) ?_
  refine va_sld hx hb hX hbl hbA hS (q_in (by decide)) dL_law_1607 ?_
  refine lv_aload_n hx hb dL_law_1608 rfl (lv_at hl 4 rfl) ?_
  refine lv_iload hx hb dL_law_1609 (lv_at hl 0 rfl) ?_
  refine lv_iconst (v := 4) hx hb dL_law_1611 (by decide) ?_
  refine lv_iadd hx hb dL_law_1612 ?_
  refine q_topi (y := 4) (by decide) ?_
  refine va_sld hx hb hX hbl hbA hS (q_in (by decide)) dL_law_1613 ?_
  have hM9 := k_X12_sum l E (fun q : Nat => s.heap.size ≤ q) v (xs (1 : Int32).toNatClampNeg) (xs (2 : Int32).toNatClampNeg) (xs (3 : Int32).toNatClampNeg) (xs (4 : Int32).toNatClampNeg) fm_1247 fm_1239
  have hR9 := q_runV (l := l) (e := e) (below := below) (meth := meth) (R := room_1) (cells := 92) (slots := 111496) (st0 := [.int (xs (4 : Int32).toNatClampNeg), .int (xs (3 : Int32).toNatClampNeg), .int (xs (2 : Int32).toNatClampNeg), .int (xs (1 : Int32).toNatClampNeg), .ref (E.2.2 1299), .int r2]) (rest := [.int r2]) hF hV hS hA 4 0 12 1299 rfl rfl rfl hM9 w_1921 w_1922 w_1923 w_107 w_1924 (by decide +kernel) ⟨Nat.le_of_ble_eq_true rfl, Nat.le_of_ble_eq_true rfl⟩ dL_law_1614 rfl hl.1 rfl (Nat.le_of_ble_eq_true rfl) ⟨Nat.le_of_ble_eq_true rfl, Nat.le_of_ble_eq_true rfl⟩
  refine q_calli hR9 hN hS (fun r4 v5 H locs h3 hV hS => ?_)
  refine lv_icmp_eq (tgt := 1647) hx hb dL_law_1617 (by decide) (fun _ => ?_) (fun hneq => absurd (q_same h1 h3) hneq)
  exact l_exit l C0 hS (lv_sub hl [0, 4] rfl) (Nat.le_of_ble_eq_true rfl) (Nat.le_of_ble_eq_true rfl)
set_option maxHeartbeats 400000 in
set_option maxRecDepth 100000 in
theorem l_case26 {p : Program} {e : Env} {s : State} {m : MethodId} {below : List Frame} {meth : Method} {c : Code} (l : Launch) {b : Nat} {xs : Nat → Int32} (C0 : lw_At p s m meth c b 8 xs) (hst : l.stackTraces = false) (E : qE) (u v : qS) {H : Heap} {locs : List Loc} {ls : Array Slot} {o : Nat} (hK : va_K E.1 vwCl (qT E) s) (hN : qNs s) (hP : va_P E.1 vwCl (qW E 0 u ++ qW E 1 v) H) (hD : va_D (fun q : Nat => s.heap.size ≤ q) (qW E 0 u ++ qW E 1 v)) (hS : va_S (fun q : Nat => s.heap.size ≤ q) s.heap H locs) (hXs : qXs (fun q : Nat => s.heap.size ≤ q) s H) (hl : lv_has ls 7 [(4, .int 0), (3, .ref o), (2, .ref (E.2.2 1299)), (1, .ref (E.2.2 1199)), (0, .ref b)]) (hfr : l_fresh u v) : W p l e room_1 s m #[Value.ref b] below meth c H locs 92 111496 (lw_Z below #[Value.ref b] s) (F0 m 1622 ls []) := by
  obtain ⟨hx, hb, hr, hml, hown, hts, hX, hbl, hlocks, hgv⟩ := id C0
  obtain ⟨fc_8, fc_9, fc_10, fc_11, fc_12, fc_13, fc_14, fc_15, fc_18, fc_311, fc_609, fc_801, fc_900, fc_901, fc_902, fc_909, fm_1202, fm_1210, fm_1230, fm_1231, fm_1232, fm_1239, fm_1247, fm_1256⟩ := hfr
  have hF : qX p m c code 7 s #[Value.ref b] "SecretBuyersLaw" := ⟨hx, hb, hml, hown, fun w h => hts w (qw_in h)⟩
  have hA : ∀ q : Nat, s.heap.size ≤ q → (fun q : Nat => s.heap.size ≤ q) q := fun _ h => h
  have hbA : ¬ (fun q : Nat => s.heap.size ≤ q) b := Nat.not_le.mpr hbl
  refine lv_aload_n hx hb dL_law_1622 rfl (lv_at hl 3 rfl) ?_
  refine lv_aload_n hx hb dL_law_1623 rfl (lv_at hl 4 rfl) ?_
  refine lv_iload hx hb dL_law_1624 (lv_at hl 0 rfl) ?_
  refine lv_iconst (v := 1) hx hb dL_law_1626 (by decide) ?_
  refine lv_iadd hx hb dL_law_1627 ?_
  refine q_topi (y := 1) (by decide) ?_
  refine va_sld hx hb hX hbl hbA hS (q_in (by decide)) dL_law_1628 ?_
  have hM9 := fun A' : Nat → Prop => k_X11_count l E A' u (xs (1 : Int32).toNatClampNeg) fc_13 fc_14 fc_8 fc_9 fc_11 fc_12 fc_801 fc_909 fc_18 fc_10 fc_900 fc_901 fc_902
  refine l_callC (As := [.int (xs (1 : Int32).toNatClampNeg)]) (st0 := [.int (xs (1 : Int32).toNatClampNeg), .ref (E.2.2 1199)]) (rest := []) (mc := 0) (ms := 0) (f := 6) hF hK hN hP hD hS hA 1 hM9 w_1182 w_1183 w_1184 w_99 w_1185 (by decide +kernel) ⟨Nat.le_of_ble_eq_true rfl, Nat.le_of_ble_eq_true rfl⟩ dL_law_1629 rfl hl.1 rfl (Nat.le_of_ble_eq_true rfl) ⟨Nat.le_of_ble_eq_true rfl, Nat.le_of_ble_eq_true rfl⟩ (fun r2 u1 H locs h1 hV hS => ?_)
  refine lv_aload_n hx hb dL_law_1632 rfl (lv_at hl 2 rfl) ?_
  refine lv_aload_n hx hb dL_law_1633 rfl (lv_at hl 4 rfl) ?_
  refine lv_iload hx hb dL_law_1634 (lv_at hl 0 rfl) ?_
  refine lv_iconst (v := 1) hx hb dL_law_1636 (by decide) ?_
  refine lv_iadd hx hb dL_law_1637 ?_
  refine q_topi (y := 1) (by decide) ?_
  refine va_sld hx hb hX hbl hbA hS (q_in (by decide)) dL_law_1638 ?_
  have hM9 := k_X12_count l E (fun q : Nat => s.heap.size ≤ q) v (xs (1 : Int32).toNatClampNeg) fm_1230 fm_1231 fm_1232 fm_1239 fm_1247 fm_1210 fm_1256 fm_1202
  have hR9 := q_runV (l := l) (e := e) (below := below) (meth := meth) (R := room_1) (cells := 92) (slots := 111496) (st0 := [.int (xs (1 : Int32).toNatClampNeg), .ref (E.2.2 1299), .int r2]) (rest := [.int r2]) hF hV hS hA 1 0 12 1299 rfl rfl rfl hM9 w_1925 w_1926 w_1927 w_107 w_1928 (by decide +kernel) ⟨Nat.le_of_ble_eq_true rfl, Nat.le_of_ble_eq_true rfl⟩ dL_law_1639 rfl hl.1 rfl (Nat.le_of_ble_eq_true rfl) ⟨Nat.le_of_ble_eq_true rfl, Nat.le_of_ble_eq_true rfl⟩
  refine q_calli hR9 hN hS (fun r4 v5 H locs h3 hV hS => ?_)
  refine lv_icmp_eq (tgt := 1647) hx hb dL_law_1642 (by decide) (fun _ => ?_) (fun hneq => absurd (q_same h1 h3) hneq)
  exact l_exit l C0 hS (lv_sub hl [0, 4] rfl) (Nat.le_of_ble_eq_true rfl) (Nat.le_of_ble_eq_true rfl)
