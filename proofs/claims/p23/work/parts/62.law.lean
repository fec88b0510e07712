theorem l_sameg {P Q : Prop} {r r' x y a b z w : Int32} (h : (P ∧ r = x ∧ a = z) ∨ (¬ P ∧ r = y ∧ a = w)) (k : (Q ∧ r' = x ∧ b = z) ∨ (¬ Q ∧ r' = y ∧ b = w)) (hPQ : P ↔ Q) : r = r' ∧ a = b := by
  rcases h with ⟨p, h1, h2⟩ | ⟨p, h1, h2⟩ <;> rcases k with ⟨q, k1, k2⟩ | ⟨q, k1, k2⟩
  · exact ⟨h1.trans k1.symm, h2.trans k2.symm⟩
  · exact absurd (hPQ.mp p) q
  · exact absurd (hPQ.mpr q) p
  · exact ⟨h1.trans k1.symm, h2.trans k2.symm⟩
theorem l_days {u v u1 : qS} {x r : Int32} (h : RD u v) (k : ((0 ≤ x ∧ x ≤ 1000 ∧ u.1 13 + x ≤ 9999) ∧ r = u.1 13 + x ∧ u1.1 13 = u.1 13 + x) ∨ (¬ (0 ≤ x ∧ x ≤ 1000 ∧ u.1 13 + x ≤ 9999) ∧ r = -1 ∧ u1.1 13 = u.1 13)) : ((0 ≤ x ∧ x ≤ 1000 ∧ v.1 1230 + x ≤ 9999) ∧ r = v.1 1230 + x ∧ u1.1 13 = v.1 1230 + x) ∨ (¬ (0 ≤ x ∧ x ≤ 1000 ∧ v.1 1230 + x ≤ 9999) ∧ r = -1 ∧ u1.1 13 = v.1 1230) := by
  rw [h.1] at k; exact k
theorem l_ne20 {x : Int32} (h : 0 ≤ x ∧ x ≤ 20) : (x < 20) = (¬ x = 20) := by
  apply propext; constructor
  · intro k e; rw [e] at k; revert k; decide
  · intro k; have h2 := Int32.le_iff_toInt_le.mp h.2; refine Int32.lt_iff_toInt_lt.mpr ?_; have : x.toInt ≠ (20 : Int32).toInt := fun e => k (Int32.toInt_inj.mp e); omega
theorem l_ne8 {x : Int32} (h : 0 ≤ x ∧ x ≤ 8) : (x < 8) = (¬ x = 8) := by
  apply propext; constructor
  · intro k e; rw [e] at k; revert k; decide
  · intro k; have h2 := Int32.le_iff_toInt_le.mp h.2; refine Int32.lt_iff_toInt_lt.mpr ?_; have : x.toInt ≠ (8 : Int32).toInt := fun e => k (Int32.toInt_inj.mp e); omega
theorem l_shop {u v u1 : qS} {r : Int32} {P1 P2 P3 P4 : Prop} (h : RD u v) (hi : IM v) (k : ((P1 ∧ P2 ∧ P3 ∧ P4 ∧ u.1 8 < 20) ∧ r = u.1 8 ∧ u1.1 8 = u.1 8 + 1) ∨ (¬ (P1 ∧ P2 ∧ P3 ∧ P4 ∧ u.1 8 < 20) ∧ r = -1 ∧ u1.1 8 = u.1 8)) : ((P1 ∧ P2 ∧ P3 ∧ P4 ∧ ¬ v.1 1232 = 20) ∧ r = v.1 1232 ∧ u1.1 8 = v.1 1232 + 1) ∨ (¬ (P1 ∧ P2 ∧ P3 ∧ P4 ∧ ¬ v.1 1232 = 20) ∧ r = -1 ∧ u1.1 8 = v.1 1232) := by
  rw [h.2.1, l_ne20 hi.1.s1232] at k; exact k
theorem l_buyer {u v u1 : qS} {r : Int32} {P1 : Prop} (h : RD u v) (hi : IM v) (k : ((P1 ∧ u.1 9 < 8) ∧ r = u.1 9 ∧ u1.1 9 = u.1 9 + 1) ∨ (¬ (P1 ∧ u.1 9 < 8) ∧ r = -1 ∧ u1.1 9 = u.1 9)) : ((P1 ∧ ¬ v.1 1239 = 8) ∧ r = v.1 1239 ∧ u1.1 9 = v.1 1239 + 1) ∨ (¬ (P1 ∧ ¬ v.1 1239 = 8) ∧ r = -1 ∧ u1.1 9 = v.1 1239) := by
  rw [h.2.2.1, l_ne8 hi.1.s1239] at k; exact k
theorem l_same2 {P Q : Prop} {r r' x y : Int32} (hPQ : P ↔ Q) (h : (P ∧ r = x) ∨ (¬ P ∧ r = y)) (k : (Q ∧ r' = x) ∨ (¬ Q ∧ r' = y)) : r = r' := by
  rcases h with ⟨p, h1⟩ | ⟨p, h1⟩ <;> rcases k with ⟨q, k1⟩ | ⟨q, k1⟩
  · exact h1.trans k1.symm
  · exact absurd (hPQ.mp p) q
  · exact absurd (hPQ.mpr q) p
  · exact h1.trans k1.symm
theorem l_view {u v : qS} {x : Int32} (h : RD u v) : (0 ≤ x ∧ x ≤ u.1 13) ↔ (0 ≤ x ∧ x ≤ v.1 1230) := by rw [h.1]
theorem l_same3 {P Q : Prop} {r r' x a b : Int32} (hPQ : P ↔ Q) (h : (P ∧ r = a) ∨ (¬ P ∧ r = x)) (k : (Q ∧ r' = b) ∨ (¬ Q ∧ r' = x)) (he : a = b) : r = r' := l_same2 hPQ h (he ▸ k)
set_option maxHeartbeats 400000 in
set_option maxRecDepth 100000 in
theorem l_case0 {p : Program} {e : Env} {s : State} {m : MethodId} {below : List Frame} {meth : Method} {c : Code} (l : Launch) {b L : Nat} {xs : Nat → Int32} (C0 : lw_At p s m meth c b L xs) (hst : l.stackTraces = false) (E : qE) {o : Nat} (hX0 : qXs (fun q : Nat => s.heap.size ≤ q) s s.heap) (hZ0 : qZw (fun q : Nat => s.heap.size ≤ q) s s.heap) (hL : L ≤ 4096) {i : Int32} (h0 : 0 ≤ i.toInt) (h8 : i.toInt + 8 ≤ L) {u v : qS} {H : Heap} {locs : List Loc} {ls : Array Slot} {cells slots : Nat} (hc : cells + 2 ≤ room_1.cells) (hs : slots + 1004 ≤ room_1.slots) (hV : l_2 E (fun q : Nat => s.heap.size ≤ q) u v s H) (hS : va_S (fun q : Nat => s.heap.size ≤ q) s.heap H locs) (hC : RC E o u) (hM : RM v) (hD : RD u v) (hl : lv_has ls 7 [(4, .int i), (3, .ref o), (2, .ref (E.2.2 1299)), (1, .ref (E.2.2 1199)), (0, .ref b)])
    (kk : ∀ (u v : qS) (H : Heap) (locs : List Loc) (ls : Array Slot) (k n : Nat), k ≤ cells + 2 → n ≤ slots + 1004 → l_2 E (fun q : Nat => s.heap.size ≤ q) u v s H → va_S (fun q : Nat => s.heap.size ≤ q) s.heap H locs → RC E o u → RM v → RD u v → lv_has ls 7 [(4, .int i), (3, .ref o), (2, .ref (E.2.2 1299)), (1, .ref (E.2.2 1199)), (0, .ref b)] → W p l e room_1 s m #[Value.ref b] below meth c H locs k n (lw_Z below #[Value.ref b] s) (F0 m 1535 ls [])) : W p l e room_1 s m #[Value.ref b] below meth c H locs cells slots (lw_Z below #[Value.ref b] s) (F0 m 164 ls []) := by
  obtain ⟨hx, hb, hr, hml, hown, hts, hX, hbl, hlocks, hgv⟩ := id C0
  have hF : qX p m c code 7 s #[Value.ref b] "SecretBuyersLaw" := ⟨hx, hb, hml, hown, fun w h => hts w (qw_in h)⟩
  have hA : ∀ q : Nat, s.heap.size ≤ q → (fun q : Nat => s.heap.size ≤ q) q := fun _ h => h
  have hbA : ¬ (fun q : Nat => s.heap.size ≤ q) b := Nat.not_le.mpr hbl
  refine lv_aload_n hx hb dL_law_164 rfl (lv_at hl 3 rfl) ?_
  refine lv_aload_n hx hb dL_law_165 rfl (lv_at hl 4 rfl) ?_
  refine lv_iload hx hb dL_law_166 (lv_at hl 0 rfl) ?_
  refine lv_iconst (v := 1) hx hb dL_law_168 (by decide) ?_
  refine lv_iadd hx hb dL_law_169 ?_
  refine va_sld hx hb hX hbl hbA hS (l_in (k := 1) h0 h8 hL (by decide)) dL_law_170 ?_
  have hM9 := fun A' : Nat → Prop => g_X11_days l E A' u (xs (i + 1 : Int32).toNatClampNeg) hC.1
  refine l_callC2 (As := [.int (xs (i + 1 : Int32).toNatClampNeg)]) (st0 := [.int (xs (i + 1 : Int32).toNatClampNeg), .ref (E.2.2 1199)]) (rest := []) (mc := 0) (ms := 0) (f := 1) hF hV hS hA 1 hM9 w_464 w_465 w_466 w_99 w_467 (by decide +kernel) ⟨Nat.le_of_ble_eq_true rfl, Nat.le_of_ble_eq_true rfl⟩ dL_law_171 rfl hl.1 rfl (Nat.le_of_ble_eq_true rfl) ⟨by omega, by omega⟩ (fun r2 u3 H locs h1 hV hS => ?_)
  have k4 : RC E o u3 := hC.f h1.1.1 h1.1.2
  refine lv_pop hx hb dL_law_174 rfl ?_
  refine lv_aload_n hx hb dL_law_175 rfl (lv_at hl 2 rfl) ?_
  refine lv_aload_n hx hb dL_law_176 rfl (lv_at hl 4 rfl) ?_
  refine lv_iload hx hb dL_law_177 (lv_at hl 0 rfl) ?_
  refine lv_iconst (v := 1) hx hb dL_law_179 (by decide) ?_
  refine lv_iadd hx hb dL_law_180 ?_
  refine va_sld hx hb hX hbl hbA hS (l_in (k := 1) h0 h8 hL (by decide)) dL_law_181 ?_
  have hM9 := fun A' : Nat → Prop => g_X12_days l E A' v (xs (i + 1 : Int32).toNatClampNeg) hM.1
  refine l_callM2 (As := [.int (xs (i + 1 : Int32).toNatClampNeg)]) (st0 := [.int (xs (i + 1 : Int32).toNatClampNeg), .ref (E.2.2 1299)]) (rest := []) (mc := 0) (ms := 0) (f := 1) hF hV hS hA 1 hM9 w_1676 w_1677 w_1678 w_107 w_1679 (by decide +kernel) ⟨Nat.le_of_ble_eq_true rfl, Nat.le_of_ble_eq_true rfl⟩ dL_law_182 rfl hl.1 rfl (Nat.le_of_ble_eq_true rfl) ⟨by omega, by omega⟩ (fun r6 v7 H locs h5 hV hS => ?_)
  have k8 : RM v7 := hM.i h5.1 h5.2.1 (by decide) (by decide)
  have s9 := l_sameg (l_days hD h1.2) h5.2.2 Iff.rfl
  have d9 : RD u3 v7 := ⟨s9.2, (h1.1.1.1 8 (by decide)).trans (hD.2.1.trans (h5.1.1 1232 (by decide)).symm), (h1.1.1.1 9 (by decide)).trans (hD.2.2.1.trans (h5.1.1 1239 (by decide)).symm), (h1.1.1.1 801 (by decide)).trans (hD.2.2.2.1.trans (h5.1.1 1202 (by decide)).symm), (h1.1.1.1 10 (by decide)).trans (hD.2.2.2.2.1.trans (h5.1.1 1247 (by decide)).symm), (h1.1.1.1 11 (by decide)).trans (hD.2.2.2.2.2.1.trans (h5.1.1 1256 (by decide)).symm), (h1.1.1.1 14 (by decide)).trans (hD.2.2.2.2.2.2.1.trans (h5.1.1 1231 (by decide)).symm), (h1.1.1.1 16 (by decide)).trans (hD.2.2.2.2.2.2.2.1.trans (h5.1.1 1245 (by decide)).symm), (h1.1.1.1 17 (by decide)).trans (hD.2.2.2.2.2.2.2.2.1.trans (h5.1.1 1246 (by decide)).symm), (RV.v (u := u3) (hD.2.2.2.2.2.2.2.2.2.fr h1.1.1 (by decide) (by decide) (by decide) (fun _ _ => rfl)) (fun n hn => h5.1.2.1 n (by revert n; decide)))⟩
  refine lv_pop hx hb dL_law_185 rfl ?_
  refine lv_goto (tgt := 1535) hx hb dL_law_186 (by decide) ?_
  exact kk u3 v7 H locs ls _ _ (by omega) (by omega) hV hS k4 k8 d9 (lv_sub hl [0, 1, 2, 3, 4] rfl)
set_option maxHeartbeats 400000 in
set_option maxRecDepth 100000 in
theorem l_case1 {p : Program} {e : Env} {s : State} {m : MethodId} {below : List Frame} {meth : Method} {c : Code} (l : Launch) {b L : Nat} {xs : Nat → Int32} (C0 : lw_At p s m meth c b L xs) (hst : l.stackTraces = false) (E : qE) {o : Nat} (hX0 : qXs (fun q : Nat => s.heap.size ≤ q) s s.heap) (hZ0 : qZw (fun q : Nat => s.heap.size ≤ q) s s.heap) (hL : L ≤ 4096) {i : Int32} (h0 : 0 ≤ i.toInt) (h8 : i.toInt + 8 ≤ L) {u v : qS} {H : Heap} {locs : List Loc} {ls : Array Slot} {cells slots : Nat} (hc : cells + 2 ≤ room_1.cells) (hs : slots + 1004 ≤ room_1.slots) (hV : l_2 E (fun q : Nat => s.heap.size ≤ q) u v s H) (hS : va_S (fun q : Nat => s.heap.size ≤ q) s.heap H locs) (hC : RC E o u) (hM : RM v) (hD : RD u v) (hl : lv_has ls 7 [(4, .int i), (3, .ref o), (2, .ref (E.2.2 1299)), (1, .ref (E.2.2 1199)), (0, .ref b)])
    (kk : ∀ (u v : qS) (H : Heap) (locs : List Loc) (ls : Array Slot) (k n : Nat), k ≤ cells + 2 → n ≤ slots + 1004 → l_2 E (fun q : Nat => s.heap.size ≤ q) u v s H → va_S (fun q : Nat => s.heap.size ≤ q) s.heap H locs → RC E o u → RM v → RD u v → lv_has ls 7 [(4, .int i), (3, .ref o), (2, .ref (E.2.2 1299)), (1, .ref (E.2.2 1199)), (0, .ref b)] → W p l e room_1 s m #[Value.ref b] below meth c H locs k n (lw_Z below #[Value.ref b] s) (F0 m 1535 ls [])) : W p l e room_1 s m #[Value.ref b] below meth c H locs cells slots (lw_Z below #[Value.ref b] s) (F0 m 189 ls []) := by
  obtain ⟨hx, hb, hr, hml, hown, hts, hX, hbl, hlocks, hgv⟩ := id C0
  have hF : qX p m c code 7 s #[Value.ref b] "SecretBuyersLaw" := ⟨hx, hb, hml, hown, fun w h => hts w (qw_in h)⟩
  have hA : ∀ q : Nat, s.heap.size ≤ q → (fun q : Nat => s.heap.size ≤ q) q := fun _ h => h
  have hbA : ¬ (fun q : Nat => s.heap.size ≤ q) b := Nat.not_le.mpr hbl
  refine lv_aload_n hx hb dL_law_189 rfl (lv_at hl 3 rfl) ?_
  refine lv_aload_n hx hb dL_law_190 rfl (lv_at hl 4 rfl) ?_
  refine lv_iload hx hb dL_law_191 (lv_at hl 0 rfl) ?_
  refine lv_iconst (v := 1) hx hb dL_law_193 (by decide) ?_
  refine lv_iadd hx hb dL_law_194 ?_
  refine va_sld hx hb hX hbl hbA hS (l_in (k := 1) h0 h8 hL (by decide)) dL_law_195 ?_
  have hM9 := fun A' : Nat → Prop => g_X11_view l E A' u (xs (i + 1 : Int32).toNatClampNeg) hC.1
  refine l_callC2 (As := [.int (xs (i + 1 : Int32).toNatClampNeg)]) (st0 := [.int (xs (i + 1 : Int32).toNatClampNeg), .ref (E.2.2 1199)]) (rest := []) (mc := 0) (ms := 0) (f := 3) hF hV hS hA 1 hM9 w_471 w_472 w_473 w_99 w_474 (by decide +kernel) ⟨Nat.le_of_ble_eq_true rfl, Nat.le_of_ble_eq_true rfl⟩ dL_law_196 rfl hl.1 rfl (Nat.le_of_ble_eq_true rfl) ⟨by omega, by omega⟩ (fun r2 u3 H locs h1 hV hS => ?_)
  have k4 : RC E o u3 := hC.f h1.1.1 h1.1.2
  refine lv_pop hx hb dL_law_199 rfl ?_
  refine lv_aload_n hx hb dL_law_200 rfl (lv_at hl 2 rfl) ?_
  refine lv_aload_n hx hb dL_law_201 rfl (lv_at hl 4 rfl) ?_
  refine lv_iload hx hb dL_law_202 (lv_at hl 0 rfl) ?_
  refine lv_iconst (v := 1) hx hb dL_law_204 (by decide) ?_
  refine lv_iadd hx hb dL_law_205 ?_
  refine va_sld hx hb hX hbl hbA hS (l_in (k := 1) h0 h8 hL (by decide)) dL_law_206 ?_
  have hM9 := fun A' : Nat → Prop => g_X12_view l E A' v (xs (i + 1 : Int32).toNatClampNeg) hM.1
  refine l_callM2 (As := [.int (xs (i + 1 : Int32).toNatClampNeg)]) (st0 := [.int (xs (i + 1 : Int32).toNatClampNeg), .ref (E.2.2 1299)]) (rest := []) (mc := 0) (ms := 0) (f := 1) hF hV hS hA 1 hM9 w_1683 w_1684 w_1685 w_107 w_1686 (by decide +kernel) ⟨Nat.le_of_ble_eq_true rfl, Nat.le_of_ble_eq_true rfl⟩ dL_law_207 rfl hl.1 rfl (Nat.le_of_ble_eq_true rfl) ⟨by omega, by omega⟩ (fun r6 v7 H locs h5 hV hS => ?_)
  have k8 : RM v7 := hM.i h5.1 h5.2.1 (by decide) (by decide)
  have s9 := l_view23 hD.1 hD.2.2.2.2.2.2.1 hD.2.2.2.2.2.2.2.2.2.2.2.2.2.2.2.2 h1.2 h5.2.2
  have d9 : RD u3 v7 := ⟨(h1.1.1.1 13 (by decide)).trans (hD.1.trans (h5.1.1 1230 (by decide)).symm), (h1.1.1.1 8 (by decide)).trans (hD.2.1.trans (h5.1.1 1232 (by decide)).symm), (h1.1.1.1 9 (by decide)).trans (hD.2.2.1.trans (h5.1.1 1239 (by decide)).symm), (h1.1.1.1 801 (by decide)).trans (hD.2.2.2.1.trans (h5.1.1 1202 (by decide)).symm), (h1.1.1.1 10 (by decide)).trans (hD.2.2.2.2.1.trans (h5.1.1 1247 (by decide)).symm), (h1.1.1.1 11 (by decide)).trans (hD.2.2.2.2.2.1.trans (h5.1.1 1256 (by decide)).symm), s9.2.1, (h1.1.1.1 16 (by decide)).trans (hD.2.2.2.2.2.2.2.1.trans (h5.1.1 1245 (by decide)).symm), (h1.1.1.1 17 (by decide)).trans (hD.2.2.2.2.2.2.2.2.1.trans (h5.1.1 1246 (by decide)).symm), ⟨hD.2.2.2.2.2.2.2.2.2.1.fr h1.1.1 (by decide) (by decide) (by decide) (fun n hn => h5.1.2.1 n (by revert n; decide)), hD.2.2.2.2.2.2.2.2.2.2.1.fr h1.1.1 (by decide) (by decide) (fun n hn => h5.1.2.1 n (by revert n; decide)), fun i hi => by rw [(h1.1.1.1 10 (by decide))] at hi; rw [h5.1.2.1 1255 (by decide)]; exact hD.2.2.2.2.2.2.2.2.2.2.2.1 i hi, hD.2.2.2.2.2.2.2.2.2.2.2.2.1.fr h1.1.1 (by decide) (by decide) (fun n hn => h5.1.2.1 n (by revert n; decide)), l_wb hD.2.2.2.2.2.2.2.2.2.2.2.2.2 (h1.1.1.1 8 (by decide)) (h1.1.1.1 9 (by decide)) (h1.1.1.1 10 (by decide)) s9.2.2 (fun n hn => h5.1.2.1 n (by revert n; decide))⟩⟩
  refine lv_pop hx hb dL_law_210 rfl ?_
  refine lv_goto (tgt := 1535) hx hb dL_law_211 (by decide) ?_
  exact kk u3 v7 H locs ls _ _ (by omega) (by omega) hV hS k4 k8 d9 (lv_sub hl [0, 1, 2, 3, 4] rfl)
set_option maxHeartbeats 400000 in
set_option maxRecDepth 100000 in
theorem l_case2 {p : Program} {e : Env} {s : State} {m : MethodId} {below : List Frame} {meth : Method} {c : Code} (l : Launch) {b L : Nat} {xs : Nat → Int32} (C0 : lw_At p s m meth c b L xs) (hst : l.stackTraces = false) (E : qE) {o : Nat} (hX0 : qXs (fun q : Nat => s.heap.size ≤ q) s s.heap) (hZ0 : qZw (fun q : Nat => s.heap.size ≤ q) s s.heap) (hL : L ≤ 4096) {i : Int32} (h0 : 0 ≤ i.toInt) (h8 : i.toInt + 8 ≤ L) {u v : qS} {H : Heap} {locs : List Loc} {ls : Array Slot} {cells slots : Nat} (hc : cells + 2 ≤ room_1.cells) (hs : slots + 1004 ≤ room_1.slots) (hV : l_2 E (fun q : Nat => s.heap.size ≤ q) u v s H) (hS : va_S (fun q : Nat => s.heap.size ≤ q) s.heap H locs) (hC : RC E o u) (hM : RM v) (hD : RD u v) (hl : lv_has ls 7 [(4, .int i), (3, .ref o), (2, .ref (E.2.2 1299)), (1, .ref (E.2.2 1199)), (0, .ref b)])
    (kk : ∀ (u v : qS) (H : Heap) (locs : List Loc) (ls : Array Slot) (k n : Nat), k ≤ cells + 2 → n ≤ slots + 1004 → l_2 E (fun q : Nat => s.heap.size ≤ q) u v s H → va_S (fun q : Nat => s.heap.size ≤ q) s.heap H locs → RC E o u → RM v → RD u v → lv_has ls 7 [(4, .int i), (3, .ref o), (2, .ref (E.2.2 1299)), (1, .ref (E.2.2 1199)), (0, .ref b)] → W p l e room_1 s m #[Value.ref b] below meth c H locs k n (lw_Z below #[Value.ref b] s) (F0 m 1535 ls [])) : W p l e room_1 s m #[Value.ref b] below meth c H locs cells slots (lw_Z below #[Value.ref b] s) (F0 m 214 ls []) := by
  obtain ⟨hx, hb, hr, hml, hown, hts, hX, hbl, hlocks, hgv⟩ := id C0
  have hF : qX p m c code 7 s #[Value.ref b] "SecretBuyersLaw" := ⟨hx, hb, hml, hown, fun w h => hts w (qw_in h)⟩
  have hA : ∀ q : Nat, s.heap.size ≤ q → (fun q : Nat => s.heap.size ≤ q) q := fun _ h => h
  have hbA : ¬ (fun q : Nat => s.heap.size ≤ q) b := Nat.not_le.mpr hbl
  refine lv_aload_n hx hb dL_law_214 rfl (lv_at hl 3 rfl) ?_
  refine lv_aload_n hx hb dL_law_215 rfl (lv_at hl 4 rfl) ?_
  refine lv_iload hx hb dL_law_216 (lv_at hl 0 rfl) ?_
  refine lv_iconst (v := 1) hx hb dL_law_218 (by decide) ?_
  refine lv_iadd hx hb dL_law_219 ?_
  refine va_sld hx hb hX hbl hbA hS (l_in (k := 1) h0 h8 hL (by decide)) dL_law_220 ?_
  refine lv_aload_n hx hb dL_law_221 rfl (lv_at hl 4 rfl) ?_
  refine lv_iload hx hb dL_law_222 (lv_at hl 0 rfl) ?_
  refine lv_iconst (v := 2) hx hb dL_law_224 (by decide) ?_
  refine lv_iadd hx hb dL_law_225 ?_
  refine va_sld hx hb hX hbl hbA hS (l_in (k := 2) h0 h8 hL (by decide)) dL_law_226 ?_
  refine lv_aload_n hx hb dL_law_227 rfl (lv_at hl 4 rfl) ?_
  refine lv_iload hx hb dL_law_228 (lv_at hl 0 rfl) ?_
  refine lv_iconst (v := 3) hx hb dL_law_230 (by decide) ?_
  refine lv_iadd hx hb dL_law_231 ?_
  refine va_sld hx hb hX hbl hbA hS (l_in (k := 3) h0 h8 hL (by decide)) dL_law_232 ?_
  refine lv_aload_n hx hb dL_law_233 rfl (lv_at hl 4 rfl) ?_
  refine lv_iload hx hb dL_law_234 (lv_at hl 0 rfl) ?_
  refine lv_iconst (v := 4) hx hb dL_law_236 (by decide) ?_
  refine lv_iadd hx hb dL_law_237 ?_
  refine va_sld hx hb hX hbl hbA hS (l_in (k := 4) h0 h8 hL (by decide)) dL_law_238 ?_
  refine lv_aload_n hx hb dL_law_239 rfl (lv_at hl 4 rfl) ?_
  refine lv_iload hx hb dL_law_240 (lv_at hl 0 rfl) ?_
  refine lv_iconst (v := 5) hx hb dL_law_242 (by decide) ?_
  refine lv_iadd hx hb dL_law_243 ?_
  refine va_sld hx hb hX hbl hbA hS (l_in (k := 5) h0 h8 hL (by decide)) dL_law_244 ?_
  refine lv_aload_n hx hb dL_law_245 rfl (lv_at hl 4 rfl) ?_
  refine lv_iload hx hb dL_law_246 (lv_at hl 0 rfl) ?_
  refine lv_bipush (v := 6) hx hb dL_law_248 (by decide) ?_
  refine lv_iadd hx hb dL_law_250 ?_
  refine va_sld hx hb hX hbl hbA hS (l_in (k := 6) h0 h8 hL (by decide)) dL_law_251 ?_
  refine lv_if_eq (tgt := 259) hx hb dL_law_252 (by decide) (fun c1 => ?_) (fun c1 => ?_)
  · refine lv_iconst (v := 0) hx hb dL_law_259 (by decide) ?_
    have hM9 := fun A' : Nat → Prop => g_X11_shop l E A' u (xs (i + 1 : Int32).toNatClampNeg) (xs (i + 2 : Int32).toNatClampNeg) (xs (i + 3 : Int32).toNatClampNeg) (xs (i + 4 : Int32).toNatClampNeg) (xs (i + 5 : Int32).toNatClampNeg) 0 hC.1 (by decide)
    refine l_callC2 (As := [.int (xs (i + 1 : Int32).toNatClampNeg), .int (xs (i + 2 : Int32).toNatClampNeg), .int (xs (i + 3 : Int32).toNatClampNeg), .int (xs (i + 4 : Int32).toNatClampNeg), .int (xs (i + 5 : Int32).toNatClampNeg), .int 0]) (st0 := [.int 0, .int (xs (i + 5 : Int32).toNatClampNeg), .int (xs (i + 4 : Int32).toNatClampNeg), .int (xs (i + 3 : Int32).toNatClampNeg), .int (xs (i + 2 : Int32).toNatClampNeg), .int (xs (i + 1 : Int32).toNatClampNeg), .ref (E.2.2 1199)]) (rest := []) (mc := 2) (ms := 7) (f := 2) hF hV hS hA 6 hM9 w_487 w_488 w_489 w_99 w_490 (by decide +kernel) ⟨Nat.le_of_ble_eq_true rfl, Nat.le_of_ble_eq_true rfl⟩ dL_law_260 rfl hl.1 rfl (Nat.le_of_ble_eq_true rfl) ⟨by omega, by omega⟩ (fun r3 u4 H locs h2 hV hS => ?_)
    have k5 : RC E o u4 := hC.f h2.1.1 h2.1.2
    refine lv_pop hx hb dL_law_263 rfl ?_
    refine lv_aload_n hx hb dL_law_264 rfl (lv_at hl 2 rfl) ?_
    refine lv_aload_n hx hb dL_law_265 rfl (lv_at hl 4 rfl) ?_
    refine lv_iload hx hb dL_law_266 (lv_at hl 0 rfl) ?_
    refine lv_iconst (v := 1) hx hb dL_law_268 (by decide) ?_
    refine lv_iadd hx hb dL_law_269 ?_
    refine va_sld hx hb hX hbl hbA hS (l_in (k := 1) h0 h8 hL (by decide)) dL_law_270 ?_
    refine lv_aload_n hx hb dL_law_271 rfl (lv_at hl 4 rfl) ?_
    refine lv_iload hx hb dL_law_272 (lv_at hl 0 rfl) ?_
    refine lv_iconst (v := 2) hx hb dL_law_274 (by decide) ?_
    refine lv_iadd hx hb dL_law_275 ?_
    refine va_sld hx hb hX hbl hbA hS (l_in (k := 2) h0 h8 hL (by decide)) dL_law_276 ?_
    refine lv_aload_n hx hb dL_law_277 rfl (lv_at hl 4 rfl) ?_
    refine lv_iload hx hb dL_law_278 (lv_at hl 0 rfl) ?_
    refine lv_iconst (v := 3) hx hb dL_law_280 (by decide) ?_
    refine lv_iadd hx hb dL_law_281 ?_
    refine va_sld hx hb hX hbl hbA hS (l_in (k := 3) h0 h8 hL (by decide)) dL_law_282 ?_
    refine lv_aload_n hx hb dL_law_283 rfl (lv_at hl 4 rfl) ?_
    refine lv_iload hx hb dL_law_284 (lv_at hl 0 rfl) ?_
    refine lv_iconst (v := 4) hx hb dL_law_286 (by decide) ?_
    refine lv_iadd hx hb dL_law_287 ?_
    refine va_sld hx hb hX hbl hbA hS (l_in (k := 4) h0 h8 hL (by decide)) dL_law_288 ?_
    refine lv_aload_n hx hb dL_law_289 rfl (lv_at hl 4 rfl) ?_
    refine lv_iload hx hb dL_law_290 (lv_at hl 0 rfl) ?_
    refine lv_iconst (v := 5) hx hb dL_law_292 (by decide) ?_
    refine lv_iadd hx hb dL_law_293 ?_
    refine va_sld hx hb hX hbl hbA hS (l_in (k := 5) h0 h8 hL (by decide)) dL_law_294 ?_
    refine lv_aload_n hx hb dL_law_295 rfl (lv_at hl 4 rfl) ?_
    refine lv_iload hx hb dL_law_296 (lv_at hl 0 rfl) ?_
    refine lv_bipush (v := 6) hx hb dL_law_298 (by decide) ?_
    refine lv_iadd hx hb dL_law_300 ?_
    refine va_sld hx hb hX hbl hbA hS (l_in (k := 6) h0 h8 hL (by decide)) dL_law_301 ?_
    refine lv_if_eq (tgt := 309) hx hb dL_law_302 (by decide) (fun _ => ?_) (fun h9 => absurd c1 h9)
    refine lv_iconst (v := 0) hx hb dL_law_309 (by decide) ?_
    have hM9 := fun A' : Nat → Prop => g_X12_shop l E A' v (xs (i + 1 : Int32).toNatClampNeg) (xs (i + 2 : Int32).toNatClampNeg) (xs (i + 3 : Int32).toNatClampNeg) (xs (i + 4 : Int32).toNatClampNeg) (xs (i + 5 : Int32).toNatClampNeg) 0 hM.1
    refine l_callM2 (As := [.int (xs (i + 1 : Int32).toNatClampNeg), .int (xs (i + 2 : Int32).toNatClampNeg), .int (xs (i + 3 : Int32).toNatClampNeg), .int (xs (i + 4 : Int32).toNatClampNeg), .int (xs (i + 5 : Int32).toNatClampNeg), .int 0]) (st0 := [.int 0, .int (xs (i + 5 : Int32).toNatClampNeg), .int (xs (i + 4 : Int32).toNatClampNeg), .int (xs (i + 3 : Int32).toNatClampNeg), .int (xs (i + 2 : Int32).toNatClampNeg), .int (xs (i + 1 : Int32).toNatClampNeg), .ref (E.2.2 1299)]) (rest := []) (mc := 0) (ms := 0) (f := 2) hF hV hS hA 6 hM9 w_1687 w_1688 w_1689 w_107 w_1690 (by decide +kernel) ⟨Nat.le_of_ble_eq_true rfl, Nat.le_of_ble_eq_true rfl⟩ dL_law_310 rfl hl.1 rfl (Nat.le_of_ble_eq_true rfl) ⟨by omega, by omega⟩ (fun r7 v8 H locs h6 hV hS => ?_)
    have k9 : RM v8 := hM.i h6.1 h6.2.1 (by decide) (by decide)
    have s9 := l_shop9 hD (by decide) hC.1.1.s8 h2.2 h6.2.2
    have d10 : RD u4 v8 := ⟨(h2.1.1.1 13 (by decide)).trans (hD.1.trans (h6.1.1 1230 (by decide)).symm), s9.2.1, (h2.1.1.1 9 (by decide)).trans (hD.2.2.1.trans (h6.1.1 1239 (by decide)).symm), (h2.1.1.1 801 (by decide)).trans (hD.2.2.2.1.trans (h6.1.1 1202 (by decide)).symm), (h2.1.1.1 10 (by decide)).trans (hD.2.2.2.2.1.trans (h6.1.1 1247 (by decide)).symm), (h2.1.1.1 11 (by decide)).trans (hD.2.2.2.2.2.1.trans (h6.1.1 1256 (by decide)).symm), (h2.1.1.1 14 (by decide)).trans (hD.2.2.2.2.2.2.1.trans (h6.1.1 1231 (by decide)).symm), (h2.1.1.1 16 (by decide)).trans (hD.2.2.2.2.2.2.2.1.trans (h6.1.1 1245 (by decide)).symm), (h2.1.1.1 17 (by decide)).trans (hD.2.2.2.2.2.2.2.2.1.trans (h6.1.1 1246 (by decide)).symm), ⟨hD.2.2.2.2.2.2.2.2.2.1.fr h2.1.1 (by decide) (by decide) (by decide) (fun n hn => h6.1.2.1 n (by revert n; decide)), s9.2.2, fun i hi => by rw [(h2.1.1.1 10 (by decide))] at hi; rw [h6.1.2.1 1255 (by decide)]; exact hD.2.2.2.2.2.2.2.2.2.2.2.1 i hi, hD.2.2.2.2.2.2.2.2.2.2.2.2.1.fr h2.1.1 (by decide) (by decide) (fun n hn => h6.1.2.1 n (by revert n; decide)), b_shop hD.2.2.2.2.2.2.2.2.2.2.2.2.2 hD.2.1 s9.2.1 (h2.1.1.1 9 (by decide)) (h2.1.1.1 10 (by decide)) (h2.1.1.1 14 (by decide)) hM.1 (fun n hn => h6.1.2.1 n (by revert n; decide)) h6.2.2⟩⟩
    refine lv_pop hx hb dL_law_313 rfl ?_
    refine lv_goto (tgt := 1535) hx hb dL_law_314 (by decide) ?_
    exact kk u4 v8 H locs ls _ _ (by omega) (by omega) hV hS k5 k9 d10 (lv_sub hl [0, 1, 2, 3, 4] rfl)
  · refine lv_iconst (v := 1) hx hb dL_law_255 (by decide) ?_
    refine lv_goto (tgt := 260) hx hb dL_law_256 (by decide) ?_
    have hM9 := fun A' : Nat → Prop => g_X11_shop l E A' u (xs (i + 1 : Int32).toNatClampNeg) (xs (i + 2 : Int32).toNatClampNeg) (xs (i + 3 : Int32).toNatClampNeg) (xs (i + 4 : Int32).toNatClampNeg) (xs (i + 5 : Int32).toNatClampNeg) 1 hC.1 (by decide)
    refine l_callC2 (As := [.int (xs (i + 1 : Int32).toNatClampNeg), .int (xs (i + 2 : Int32).toNatClampNeg), .int (xs (i + 3 : Int32).toNatClampNeg), .int (xs (i + 4 : Int32).toNatClampNeg), .int (xs (i + 5 : Int32).toNatClampNeg), .int 1]) (st0 := [.int 1, .int (xs (i + 5 : Int32).toNatClampNeg), .int (xs (i + 4 : Int32).toNatClampNeg), .int (xs (i + 3 : Int32).toNatClampNeg), .int (xs (i + 2 : Int32).toNatClampNeg), .int (xs (i + 1 : Int32).toNatClampNeg), .ref (E.2.2 1199)]) (rest := []) (mc := 2) (ms := 7) (f := 2) hF hV hS hA 6 hM9 w_487 w_488 w_489 w_99 w_490 (by decide +kernel) ⟨Nat.le_of_ble_eq_true rfl, Nat.le_of_ble_eq_true rfl⟩ dL_law_260 rfl hl.1 rfl (Nat.le_of_ble_eq_true rfl) ⟨by omega, by omega⟩ (fun r12 u13 H locs h11 hV hS => ?_)
    have k14 : RC E o u13 := hC.f h11.1.1 h11.1.2
    refine lv_pop hx hb dL_law_263 rfl ?_
    refine lv_aload_n hx hb dL_law_264 rfl (lv_at hl 2 rfl) ?_
    refine lv_aload_n hx hb dL_law_265 rfl (lv_at hl 4 rfl) ?_
    refine lv_iload hx hb dL_law_266 (lv_at hl 0 rfl) ?_
    refine lv_iconst (v := 1) hx hb dL_law_268 (by decide) ?_
    refine lv_iadd hx hb dL_law_269 ?_
    refine va_sld hx hb hX hbl hbA hS (l_in (k := 1) h0 h8 hL (by decide)) dL_law_270 ?_
    refine lv_aload_n hx hb dL_law_271 rfl (lv_at hl 4 rfl) ?_
    refine lv_iload hx hb dL_law_272 (lv_at hl 0 rfl) ?_
    refine lv_iconst (v := 2) hx hb dL_law_274 (by decide) ?_
    refine lv_iadd hx hb dL_law_275 ?_
    refine va_sld hx hb hX hbl hbA hS (l_in (k := 2) h0 h8 hL (by decide)) dL_law_276 ?_
    refine lv_aload_n hx hb dL_law_277 rfl (lv_at hl 4 rfl) ?_
    refine lv_iload hx hb dL_law_278 (lv_at hl 0 rfl) ?_
    refine lv_iconst (v := 3) hx hb dL_law_280 (by decide) ?_
    refine lv_iadd hx hb dL_law_281 ?_
    refine va_sld hx hb hX hbl hbA hS (l_in (k := 3) h0 h8 hL (by decide)) dL_law_282 ?_
    refine lv_aload_n hx hb dL_law_283 rfl (lv_at hl 4 rfl) ?_
    refine lv_iload hx hb dL_law_284 (lv_at hl 0 rfl) ?_
    refine lv_iconst (v := 4) hx hb dL_law_286 (by decide) ?_
    refine lv_iadd hx hb dL_law_287 ?_
    refine va_sld hx hb hX hbl hbA hS (l_in (k := 4) h0 h8 hL (by decide)) dL_law_288 ?_
    refine lv_aload_n hx hb dL_law_289 rfl (lv_at hl 4 rfl) ?_
    refine lv_iload hx hb dL_law_290 (lv_at hl 0 rfl) ?_
    refine lv_iconst (v := 5) hx hb dL_law_292 (by decide) ?_
    refine lv_iadd hx hb dL_law_293 ?_
    refine va_sld hx hb hX hbl hbA hS (l_in (k := 5) h0 h8 hL (by decide)) dL_law_294 ?_
    refine lv_aload_n hx hb dL_law_295 rfl (lv_at hl 4 rfl) ?_
    refine lv_iload hx hb dL_law_296 (lv_at hl 0 rfl) ?_
    refine lv_bipush (v := 6) hx hb dL_law_298 (by decide) ?_
    refine lv_iadd hx hb dL_law_300 ?_
    refine va_sld hx hb hX hbl hbA hS (l_in (k := 6) h0 h8 hL (by decide)) dL_law_301 ?_
    refine lv_if_eq (tgt := 309) hx hb dL_law_302 (by decide) (fun h9 => absurd h9 c1) (fun _ => ?_)
    refine lv_iconst (v := 1) hx hb dL_law_305 (by decide) ?_
    refine lv_goto (tgt := 310) hx hb dL_law_306 (by decide) ?_
    have hM9 := fun A' : Nat → Prop => g_X12_shop l E A' v (xs (i + 1 : Int32).toNatClampNeg) (xs (i + 2 : Int32).toNatClampNeg) (xs (i + 3 : Int32).toNatClampNeg) (xs (i + 4 : Int32).toNatClampNeg) (xs (i + 5 : Int32).toNatClampNeg) 1 hM.1
    refine l_callM2 (As := [.int (xs (i + 1 : Int32).toNatClampNeg), .int (xs (i + 2 : Int32).toNatClampNeg), .int (xs (i + 3 : Int32).toNatClampNeg), .int (xs (i + 4 : Int32).toNatClampNeg), .int (xs (i + 5 : Int32).toNatClampNeg), .int 1]) (st0 := [.int 1, .int (xs (i + 5 : Int32).toNatClampNeg), .int (xs (i + 4 : Int32).toNatClampNeg), .int (xs (i + 3 : Int32).toNatClampNeg), .int (xs (i + 2 : Int32).toNatClampNeg), .int (xs (i + 1 : Int32).toNatClampNeg), .ref (E.2.2 1299)]) (rest := []) (mc := 0) (ms := 0) (f := 2) hF hV hS hA 6 hM9 w_1687 w_1688 w_1689 w_107 w_1690 (by decide +kernel) ⟨Nat.le_of_ble_eq_true rfl, Nat.le_of_ble_eq_true rfl⟩ dL_law_310 rfl hl.1 rfl (Nat.le_of_ble_eq_true rfl) ⟨by omega, by omega⟩ (fun r16 v17 H locs h15 hV hS => ?_)
    have k18 : RM v17 := hM.i h15.1 h15.2.1 (by decide) (by decide)
    have s9 := l_shop9 hD (by decide) hC.1.1.s8 h11.2 h15.2.2
    have d19 : RD u13 v17 := ⟨(h11.1.1.1 13 (by decide)).trans (hD.1.trans (h15.1.1 1230 (by decide)).symm), s9.2.1, (h11.1.1.1 9 (by decide)).trans (hD.2.2.1.trans (h15.1.1 1239 (by decide)).symm), (h11.1.1.1 801 (by decide)).trans (hD.2.2.2.1.trans (h15.1.1 1202 (by decide)).symm), (h11.1.1.1 10 (by decide)).trans (hD.2.2.2.2.1.trans (h15.1.1 1247 (by decide)).symm), (h11.1.1.1 11 (by decide)).trans (hD.2.2.2.2.2.1.trans (h15.1.1 1256 (by decide)).symm), (h11.1.1.1 14 (by decide)).trans (hD.2.2.2.2.2.2.1.trans (h15.1.1 1231 (by decide)).symm), (h11.1.1.1 16 (by decide)).trans (hD.2.2.2.2.2.2.2.1.trans (h15.1.1 1245 (by decide)).symm), (h11.1.1.1 17 (by decide)).trans (hD.2.2.2.2.2.2.2.2.1.trans (h15.1.1 1246 (by decide)).symm), ⟨hD.2.2.2.2.2.2.2.2.2.1.fr h11.1.1 (by decide) (by decide) (by decide) (fun n hn => h15.1.2.1 n (by revert n; decide)), s9.2.2, fun i hi => by rw [(h11.1.1.1 10 (by decide))] at hi; rw [h15.1.2.1 1255 (by decide)]; exact hD.2.2.2.2.2.2.2.2.2.2.2.1 i hi, hD.2.2.2.2.2.2.2.2.2.2.2.2.1.fr h11.1.1 (by decide) (by decide) (fun n hn => h15.1.2.1 n (by revert n; decide)), b_shop hD.2.2.2.2.2.2.2.2.2.2.2.2.2 hD.2.1 s9.2.1 (h11.1.1.1 9 (by decide)) (h11.1.1.1 10 (by decide)) (h11.1.1.1 14 (by decide)) hM.1 (fun n hn => h15.1.2.1 n (by revert n; decide)) h15.2.2⟩⟩
    refine lv_pop hx hb dL_law_313 rfl ?_
    refine lv_goto (tgt := 1535) hx hb dL_law_314 (by decide) ?_
    exact kk u13 v17 H locs ls _ _ (by omega) (by omega) hV hS k14 k18 d19 (lv_sub hl [0, 1, 2, 3, 4] rfl)
set_option maxHeartbeats 400000 in
set_option maxRecDepth 100000 in
theorem l_case3 {p : Program} {e : Env} {s : State} {m : MethodId} {below : List Frame} {meth : Method} {c : Code} (l : Launch) {b L : Nat} {xs : Nat → Int32} (C0 : lw_At p s m meth c b L xs) (hst : l.stackTraces = false) (E : qE) {o : Nat} (hX0 : qXs (fun q : Nat => s.heap.size ≤ q) s s.heap) (hZ0 : qZw (fun q : Nat => s.heap.size ≤ q) s s.heap) (hL : L ≤ 4096) {i : Int32} (h0 : 0 ≤ i.toInt) (h8 : i.toInt + 8 ≤ L) {u v : qS} {H : Heap} {locs : List Loc} {ls : Array Slot} {cells slots : Nat} (hc : cells + 2 ≤ room_1.cells) (hs : slots + 1004 ≤ room_1.slots) (hV : l_2 E (fun q : Nat => s.heap.size ≤ q) u v s H) (hS : va_S (fun q : Nat => s.heap.size ≤ q) s.heap H locs) (hC : RC E o u) (hM : RM v) (hD : RD u v) (hl : lv_has ls 7 [(4, .int i), (3, .ref o), (2, .ref (E.2.2 1299)), (1, .ref (E.2.2 1199)), (0, .ref b)])
    (kk : ∀ (u v : qS) (H : Heap) (locs : List Loc) (ls : Array Slot) (k n : Nat), k ≤ cells + 2 → n ≤ slots + 1004 → l_2 E (fun q : Nat => s.heap.size ≤ q) u v s H → va_S (fun q : Nat => s.heap.size ≤ q) s.heap H locs → RC E o u → RM v → RD u v → lv_has ls 7 [(4, .int i), (3, .ref o), (2, .ref (E.2.2 1299)), (1, .ref (E.2.2 1199)), (0, .ref b)] → W p l e room_1 s m #[Value.ref b] below meth c H locs k n (lw_Z below #[Value.ref b] s) (F0 m 1535 ls [])) : W p l e room_1 s m #[Value.ref b] below meth c H locs cells slots (lw_Z below #[Value.ref b] s) (F0 m 317 ls []) := by
  obtain ⟨hx, hb, hr, hml, hown, hts, hX, hbl, hlocks, hgv⟩ := id C0
  have hF : qX p m c code 7 s #[Value.ref b] "SecretBuyersLaw" := ⟨hx, hb, hml, hown, fun w h => hts w (qw_in h)⟩
  have hA : ∀ q : Nat, s.heap.size ≤ q → (fun q : Nat => s.heap.size ≤ q) q := fun _ h => h
  have hbA : ¬ (fun q : Nat => s.heap.size ≤ q) b := Nat.not_le.mpr hbl
  refine lv_aload_n hx hb dL_law_317 rfl (lv_at hl 3 rfl) ?_
  refine lv_aload_n hx hb dL_law_318 rfl (lv_at hl 4 rfl) ?_
  refine lv_iload hx hb dL_law_319 (lv_at hl 0 rfl) ?_
  refine lv_iconst (v := 1) hx hb dL_law_321 (by decide) ?_
  refine lv_iadd hx hb dL_law_322 ?_
  refine va_sld hx hb hX hbl hbA hS (l_in (k := 1) h0 h8 hL (by decide)) dL_law_323 ?_
  refine lv_aload_n hx hb dL_law_324 rfl (lv_at hl 4 rfl) ?_
  refine lv_iload hx hb dL_law_325 (lv_at hl 0 rfl) ?_
  refine lv_iconst (v := 2) hx hb dL_law_327 (by decide) ?_
  refine lv_iadd hx hb dL_law_328 ?_
  refine va_sld hx hb hX hbl hbA hS (l_in (k := 2) h0 h8 hL (by decide)) dL_law_329 ?_
  have hM9 := fun A' : Nat → Prop => g_X11_buyer l E A' u (xs (i + 1 : Int32).toNatClampNeg) (xs (i + 2 : Int32).toNatClampNeg) hC.1
  refine l_callC2 (As := [.int (xs (i + 1 : Int32).toNatClampNeg), .int (xs (i + 2 : Int32).toNatClampNeg)]) (st0 := [.int (xs (i + 2 : Int32).toNatClampNeg), .int (xs (i + 1 : Int32).toNatClampNeg), .ref (E.2.2 1199)]) (rest := []) (mc := 1) (ms := 2) (f := 2) hF hV hS hA 2 hM9 w_543 w_544 w_545 w_99 w_546 (by decide +kernel) ⟨Nat.le_of_ble_eq_true rfl, Nat.le_of_ble_eq_true rfl⟩ dL_law_330 rfl hl.1 rfl (Nat.le_of_ble_eq_true rfl) ⟨by omega, by omega⟩ (fun r2 u3 H locs h1 hV hS => ?_)
  have k4 : RC E o u3 := hC.f h1.1.1 h1.1.2
  refine lv_pop hx hb dL_law_333 rfl ?_
  refine lv_aload_n hx hb dL_law_334 rfl (lv_at hl 2 rfl) ?_
  refine lv_aload_n hx hb dL_law_335 rfl (lv_at hl 4 rfl) ?_
  refine lv_iload hx hb dL_law_336 (lv_at hl 0 rfl) ?_
  refine lv_iconst (v := 1) hx hb dL_law_338 (by decide) ?_
  refine lv_iadd hx hb dL_law_339 ?_
  refine va_sld hx hb hX hbl hbA hS (l_in (k := 1) h0 h8 hL (by decide)) dL_law_340 ?_
  refine lv_aload_n hx hb dL_law_341 rfl (lv_at hl 4 rfl) ?_
  refine lv_iload hx hb dL_law_342 (lv_at hl 0 rfl) ?_
  refine lv_iconst (v := 2) hx hb dL_law_344 (by decide) ?_
  refine lv_iadd hx hb dL_law_345 ?_
  refine va_sld hx hb hX hbl hbA hS (l_in (k := 2) h0 h8 hL (by decide)) dL_law_346 ?_
  have hM9 := fun A' : Nat → Prop => g_X12_buyer l E A' v (xs (i + 1 : Int32).toNatClampNeg) (xs (i + 2 : Int32).toNatClampNeg) hM.1
  refine l_callM2 (As := [.int (xs (i + 1 : Int32).toNatClampNeg), .int (xs (i + 2 : Int32).toNatClampNeg)]) (st0 := [.int (xs (i + 2 : Int32).toNatClampNeg), .int (xs (i + 1 : Int32).toNatClampNeg), .ref (E.2.2 1299)]) (rest := []) (mc := 0) (ms := 0) (f := 2) hF hV hS hA 2 hM9 w_1694 w_1695 w_1696 w_107 w_1697 (by decide +kernel) ⟨Nat.le_of_ble_eq_true rfl, Nat.le_of_ble_eq_true rfl⟩ dL_law_347 rfl hl.1 rfl (Nat.le_of_ble_eq_true rfl) ⟨by omega, by omega⟩ (fun r6 v7 H locs h5 hV hS => ?_)
  have k8 : RM v7 := hM.i h5.1 h5.2.1 (by decide) (by decide)
  have s9 := l_buyer23 hD.2.2.1 hD.2.2.2.2.2.2.2.2.2.2.2.2.1 hC.1.1.s9 h1.2 h5.2.2 hD.2.2.2.2.2.2.2.2.2.2.2.2.2.2.1
  have d9 : RD u3 v7 := ⟨(h1.1.1.1 13 (by decide)).trans (hD.1.trans (h5.1.1 1230 (by decide)).symm), (h1.1.1.1 8 (by decide)).trans (hD.2.1.trans (h5.1.1 1232 (by decide)).symm), s9.2.1, (h1.1.1.1 801 (by decide)).trans (hD.2.2.2.1.trans (h5.1.1 1202 (by decide)).symm), (h1.1.1.1 10 (by decide)).trans (hD.2.2.2.2.1.trans (h5.1.1 1247 (by decide)).symm), (h1.1.1.1 11 (by decide)).trans (hD.2.2.2.2.2.1.trans (h5.1.1 1256 (by decide)).symm), (h1.1.1.1 14 (by decide)).trans (hD.2.2.2.2.2.2.1.trans (h5.1.1 1231 (by decide)).symm), (h1.1.1.1 16 (by decide)).trans (hD.2.2.2.2.2.2.2.1.trans (h5.1.1 1245 (by decide)).symm), (h1.1.1.1 17 (by decide)).trans (hD.2.2.2.2.2.2.2.2.1.trans (h5.1.1 1246 (by decide)).symm), ⟨hD.2.2.2.2.2.2.2.2.2.1.fr h1.1.1 (by decide) (by decide) (by decide) (fun n hn => h5.1.2.1 n (by revert n; decide)), hD.2.2.2.2.2.2.2.2.2.2.1.fr h1.1.1 (by decide) (by decide) (fun n hn => h5.1.2.1 n (by revert n; decide)), fun i hi => by rw [(h1.1.1.1 10 (by decide))] at hi; rw [h5.1.2.1 1255 (by decide)]; exact hD.2.2.2.2.2.2.2.2.2.2.2.1 i hi, s9.2.2.1, l_bb hD.2.2.2.2.2.2.2.2.2.2.2.2.2 (h1.1.1.1 8 (by decide)) (h1.1.1.1 10 (by decide)) (h1.1.1.1 14 (by decide)) s9.2.2.2 (fun n hn => h5.1.2.1 n (by revert n; decide))⟩⟩
  refine lv_pop hx hb dL_law_350 rfl ?_
  refine lv_goto (tgt := 1535) hx hb dL_law_351 (by decide) ?_
  exact kk u3 v7 H locs ls _ _ (by omega) (by omega) hV hS k4 k8 d9 (lv_sub hl [0, 1, 2, 3, 4] rfl)
set_option maxHeartbeats 400000 in
set_option maxRecDepth 100000 in
theorem l_case4 {p : Program} {e : Env} {s : State} {m : MethodId} {below : List Frame} {meth : Method} {c : Code} (l : Launch) {b L : Nat} {xs : Nat → Int32} (C0 : lw_At p s m meth c b L xs) (hst : l.stackTraces = false) (E : qE) {o : Nat} (hX0 : qXs (fun q : Nat => s.heap.size ≤ q) s s.heap) (hZ0 : qZw (fun q : Nat => s.heap.size ≤ q) s s.heap) (hL : L ≤ 4096) {i : Int32} (h0 : 0 ≤ i.toInt) (h8 : i.toInt + 8 ≤ L) {u v : qS} {H : Heap} {locs : List Loc} {ls : Array Slot} {cells slots : Nat} (hc : cells + 2 ≤ room_1.cells) (hs : slots + 1004 ≤ room_1.slots) (hV : l_2 E (fun q : Nat => s.heap.size ≤ q) u v s H) (hS : va_S (fun q : Nat => s.heap.size ≤ q) s.heap H locs) (hC : RC E o u) (hM : RM v) (hD : RD u v) (hl : lv_has ls 7 [(4, .int i), (3, .ref o), (2, .ref (E.2.2 1299)), (1, .ref (E.2.2 1199)), (0, .ref b)])
    (kk : ∀ (u v : qS) (H : Heap) (locs : List Loc) (ls : Array Slot) (k n : Nat), k ≤ cells + 2 → n ≤ slots + 1004 → l_2 E (fun q : Nat => s.heap.size ≤ q) u v s H → va_S (fun q : Nat => s.heap.size ≤ q) s.heap H locs → RC E o u → RM v → RD u v → lv_has ls 7 [(4, .int i), (3, .ref o), (2, .ref (E.2.2 1299)), (1, .ref (E.2.2 1199)), (0, .ref b)] → W p l e room_1 s m #[Value.ref b] below meth c H locs k n (lw_Z below #[Value.ref b] s) (F0 m 1535 ls [])) : W p l e room_1 s m #[Value.ref b] below meth c H locs cells slots (lw_Z below #[Value.ref b] s) (F0 m 354 ls []) := by
  obtain ⟨hx, hb, hr, hml, hown, hts, hX, hbl, hlocks, hgv⟩ := id C0
  have hF : qX p m c code 7 s #[Value.ref b] "SecretBuyersLaw" := ⟨hx, hb, hml, hown, fun w h => hts w (qw_in h)⟩
  have hA : ∀ q : Nat, s.heap.size ≤ q → (fun q : Nat => s.heap.size ≤ q) q := fun _ h => h
  have hbA : ¬ (fun q : Nat => s.heap.size ≤ q) b := Nat.not_le.mpr hbl
  refine lv_aload_n hx hb dL_law_354 rfl (lv_at hl 3 rfl) ?_
  refine lv_aload_n hx hb dL_law_355 rfl (lv_at hl 4 rfl) ?_
  refine lv_iload hx hb dL_law_356 (lv_at hl 0 rfl) ?_
  refine lv_iconst (v := 1) hx hb dL_law_358 (by decide) ?_
  refine lv_iadd hx hb dL_law_359 ?_
  refine va_sld hx hb hX hbl hbA hS (l_in (k := 1) h0 h8 hL (by decide)) dL_law_360 ?_
  refine lv_aload_n hx hb dL_law_361 rfl (lv_at hl 4 rfl) ?_
  refine lv_iload hx hb dL_law_362 (lv_at hl 0 rfl) ?_
  refine lv_iconst (v := 2) hx hb dL_law_364 (by decide) ?_
  refine lv_iadd hx hb dL_law_365 ?_
  refine va_sld hx hb hX hbl hbA hS (l_in (k := 2) h0 h8 hL (by decide)) dL_law_366 ?_
  refine lv_aload_n hx hb dL_law_367 rfl (lv_at hl 4 rfl) ?_
  refine lv_iload hx hb dL_law_368 (lv_at hl 0 rfl) ?_
  refine lv_iconst (v := 3) hx hb dL_law_370 (by decide) ?_
  refine lv_iadd hx hb dL_law_371 ?_
  refine va_sld hx hb hX hbl hbA hS (l_in (k := 3) h0 h8 hL (by decide)) dL_law_372 ?_
  have hM9 := fun A' : Nat → Prop => g_X11_terms l E A' u (xs (i + 1 : Int32).toNatClampNeg) (xs (i + 2 : Int32).toNatClampNeg) (xs (i + 3 : Int32).toNatClampNeg) hC.1
  refine l_callC2 (As := [.int (xs (i + 1 : Int32).toNatClampNeg), .int (xs (i + 2 : Int32).toNatClampNeg), .int (xs (i + 3 : Int32).toNatClampNeg)]) (st0 := [.int (xs (i + 3 : Int32).toNatClampNeg), .int (xs (i + 2 : Int32).toNatClampNeg), .int (xs (i + 1 : Int32).toNatClampNeg), .ref (E.2.2 1199)]) (rest := []) (mc := 0) (ms := 0) (f := 1) hF hV hS hA 3 hM9 w_547 w_548 w_549 w_99 w_550 (by decide +kernel) ⟨Nat.le_of_ble_eq_true rfl, Nat.le_of_ble_eq_true rfl⟩ dL_law_373 rfl hl.1 rfl (Nat.le_of_ble_eq_true rfl) ⟨by omega, by omega⟩ (fun r2 u3 H locs h1 hV hS => ?_)
  have k4 : RC E o u3 := hC.f h1.1.1 h1.1.2
  refine lv_pop hx hb dL_law_376 rfl ?_
  refine lv_aload_n hx hb dL_law_377 rfl (lv_at hl 2 rfl) ?_
  refine lv_aload_n hx hb dL_law_378 rfl (lv_at hl 4 rfl) ?_
  refine lv_iload hx hb dL_law_379 (lv_at hl 0 rfl) ?_
  refine lv_iconst (v := 1) hx hb dL_law_381 (by decide) ?_
  refine lv_iadd hx hb dL_law_382 ?_
  refine va_sld hx hb hX hbl hbA hS (l_in (k := 1) h0 h8 hL (by decide)) dL_law_383 ?_
  refine lv_aload_n hx hb dL_law_384 rfl (lv_at hl 4 rfl) ?_
  refine lv_iload hx hb dL_law_385 (lv_at hl 0 rfl) ?_
  refine lv_iconst (v := 2) hx hb dL_law_387 (by decide) ?_
  refine lv_iadd hx hb dL_law_388 ?_
  refine va_sld hx hb hX hbl hbA hS (l_in (k := 2) h0 h8 hL (by decide)) dL_law_389 ?_
  refine lv_aload_n hx hb dL_law_390 rfl (lv_at hl 4 rfl) ?_
  refine lv_iload hx hb dL_law_391 (lv_at hl 0 rfl) ?_
  refine lv_iconst (v := 3) hx hb dL_law_393 (by decide) ?_
  refine lv_iadd hx hb dL_law_394 ?_
  refine va_sld hx hb hX hbl hbA hS (l_in (k := 3) h0 h8 hL (by decide)) dL_law_395 ?_
  have hM9 := fun A' : Nat → Prop => g_X12_terms l E A' v (xs (i + 1 : Int32).toNatClampNeg) (xs (i + 2 : Int32).toNatClampNeg) (xs (i + 3 : Int32).toNatClampNeg) hM.1
  refine l_callM2 (As := [.int (xs (i + 1 : Int32).toNatClampNeg), .int (xs (i + 2 : Int32).toNatClampNeg), .int (xs (i + 3 : Int32).toNatClampNeg)]) (st0 := [.int (xs (i + 3 : Int32).toNatClampNeg), .int (xs (i + 2 : Int32).toNatClampNeg), .int (xs (i + 1 : Int32).toNatClampNeg), .ref (E.2.2 1299)]) (rest := []) (mc := 0) (ms := 0) (f := 1) hF hV hS hA 3 hM9 w_1698 w_1699 w_1700 w_107 w_1701 (by decide +kernel) ⟨Nat.le_of_ble_eq_true rfl, Nat.le_of_ble_eq_true rfl⟩ dL_law_396 rfl hl.1 rfl (Nat.le_of_ble_eq_true rfl) ⟨by omega, by omega⟩ (fun r6 v7 H locs h5 hV hS => ?_)
  have k8 : RM v7 := hM.i h5.1 h5.2.1 (by decide) (by decide)
  have d9 : RD u3 v7 := hD.k (h1.1.1.1 13 (by decide)) (h1.1.1.1 8 (by decide)) (h1.1.1.1 9 (by decide)) (h5.1.1 1230 (by decide)) (h5.1.1 1232 (by decide)) (h5.1.1 1239 (by decide)) (h1.1.1.1 801 (by decide)) (h5.1.1 1202 (by decide)) (h1.1.1.1 10 (by decide)) (h5.1.1 1247 (by decide)) (h1.1.1.1 11 (by decide)) (h5.1.1 1256 (by decide)) (h1.1.1.1 14 (by decide)) (h5.1.1 1231 (by decide)) (h1.1.1.1 16 (by decide)) (h5.1.1 1245 (by decide)) (h1.1.1.1 17 (by decide)) (h5.1.1 1246 (by decide)) (RV.v (u := u3) (hD.2.2.2.2.2.2.2.2.2.fr h1.1.1 (by decide) (by decide) (by decide) (fun _ _ => rfl)) (fun n hn => h5.1.2.1 n (by revert n; decide)))
  refine lv_pop hx hb dL_law_399 rfl ?_
  refine lv_goto (tgt := 1535) hx hb dL_law_400 (by decide) ?_
  exact kk u3 v7 H locs ls _ _ (by omega) (by omega) hV hS k4 k8 d9 (lv_sub hl [0, 1, 2, 3, 4] rfl)
set_option maxHeartbeats 400000 in
set_option maxRecDepth 100000 in
theorem l_case5 {p : Program} {e : Env} {s : State} {m : MethodId} {below : List Frame} {meth : Method} {c : Code} (l : Launch) {b L : Nat} {xs : Nat → Int32} (C0 : lw_At p s m meth c b L xs) (hst : l.stackTraces = false) (E : qE) {o : Nat} (hX0 : qXs (fun q : Nat => s.heap.size ≤ q) s s.heap) (hZ0 : qZw (fun q : Nat => s.heap.size ≤ q) s s.heap) (hL : L ≤ 4096) {i : Int32} (h0 : 0 ≤ i.toInt) (h8 : i.toInt + 8 ≤ L) {u v : qS} {H : Heap} {locs : List Loc} {ls : Array Slot} {cells slots : Nat} (hc : cells + 2 ≤ room_1.cells) (hs : slots + 1004 ≤ room_1.slots) (hV : l_2 E (fun q : Nat => s.heap.size ≤ q) u v s H) (hS : va_S (fun q : Nat => s.heap.size ≤ q) s.heap H locs) (hC : RC E o u) (hM : RM v) (hD : RD u v) (hl : lv_has ls 7 [(4, .int i), (3, .ref o), (2, .ref (E.2.2 1299)), (1, .ref (E.2.2 1199)), (0, .ref b)])
    (kk : ∀ (u v : qS) (H : Heap) (locs : List Loc) (ls : Array Slot) (k n : Nat), k ≤ cells + 2 → n ≤ slots + 1004 → l_2 E (fun q : Nat => s.heap.size ≤ q) u v s H → va_S (fun q : Nat => s.heap.size ≤ q) s.heap H locs → RC E o u → RM v → RD u v → lv_has ls 7 [(4, .int i), (3, .ref o), (2, .ref (E.2.2 1299)), (1, .ref (E.2.2 1199)), (0, .ref b)] → W p l e room_1 s m #[Value.ref b] below meth c H locs k n (lw_Z below #[Value.ref b] s) (F0 m 1535 ls [])) : W p l e room_1 s m #[Value.ref b] below meth c H locs cells slots (lw_Z below #[Value.ref b] s) (F0 m 403 ls []) := by
  obtain ⟨hx, hb, hr, hml, hown, hts, hX, hbl, hlocks, hgv⟩ := id C0
  have hF : qX p m c code 7 s #[Value.ref b] "SecretBuyersLaw" := ⟨hx, hb, hml, hown, fun w h => hts w (qw_in h)⟩
  have hA : ∀ q : Nat, s.heap.size ≤ q → (fun q : Nat => s.heap.size ≤ q) q := fun _ h => h
  have hbA : ¬ (fun q : Nat => s.heap.size ≤ q) b := Nat.not_le.mpr hbl
  refine lv_aload_n hx hb dL_law_403 rfl (lv_at hl 3 rfl) ?_
  refine lv_aload_n hx hb dL_law_404 rfl (lv_at hl 4 rfl) ?_
  refine lv_iload hx hb dL_law_405 (lv_at hl 0 rfl) ?_
  refine lv_iconst (v := 1) hx hb dL_law_407 (by decide) ?_
  refine lv_iadd hx hb dL_law_408 ?_
  refine va_sld hx hb hX hbl hbA hS (l_in (k := 1) h0 h8 hL (by decide)) dL_law_409 ?_
  refine lv_aload_n hx hb dL_law_410 rfl (lv_at hl 4 rfl) ?_
  refine lv_iload hx hb dL_law_411 (lv_at hl 0 rfl) ?_
  refine lv_iconst (v := 2) hx hb dL_law_413 (by decide) ?_
  refine lv_iadd hx hb dL_law_414 ?_
  refine va_sld hx hb hX hbl hbA hS (l_in (k := 2) h0 h8 hL (by decide)) dL_law_415 ?_
  have hM9 := fun A' : Nat → Prop => g_X11_rest l E A' u (xs (i + 1 : Int32).toNatClampNeg) (xs (i + 2 : Int32).toNatClampNeg) hC.1
  refine l_callC2 (As := [.int (xs (i + 1 : Int32).toNatClampNeg), .int (xs (i + 2 : Int32).toNatClampNeg)]) (st0 := [.int (xs (i + 2 : Int32).toNatClampNeg), .int (xs (i + 1 : Int32).toNatClampNeg), .ref (E.2.2 1199)]) (rest := []) (mc := 0) (ms := 0) (f := 1) hF hV hS hA 2 hM9 w_555 w_556 w_557 w_99 w_558 (by decide +kernel) ⟨Nat.le_of_ble_eq_true rfl, Nat.le_of_ble_eq_true rfl⟩ dL_law_416 rfl hl.1 rfl (Nat.le_of_ble_eq_true rfl) ⟨by omega, by omega⟩ (fun r2 u3 H locs h1 hV hS => ?_)
  have k4 : RC E o u3 := hC.f h1.1.1 h1.1.2
  refine lv_pop hx hb dL_law_419 rfl ?_
  refine lv_aload_n hx hb dL_law_420 rfl (lv_at hl 2 rfl) ?_
  refine lv_aload_n hx hb dL_law_421 rfl (lv_at hl 4 rfl) ?_
  refine lv_iload hx hb dL_law_422 (lv_at hl 0 rfl) ?_
  refine lv_iconst (v := 1) hx hb dL_law_424 (by decide) ?_
  refine lv_iadd hx hb dL_law_425 ?_
  refine va_sld hx hb hX hbl hbA hS (l_in (k := 1) h0 h8 hL (by decide)) dL_law_426 ?_
  refine lv_aload_n hx hb dL_law_427 rfl (lv_at hl 4 rfl) ?_
  refine lv_iload hx hb dL_law_428 (lv_at hl 0 rfl) ?_
  refine lv_iconst (v := 2) hx hb dL_law_430 (by decide) ?_
  refine lv_iadd hx hb dL_law_431 ?_
  refine va_sld hx hb hX hbl hbA hS (l_in (k := 2) h0 h8 hL (by decide)) dL_law_432 ?_
  have hM9 := fun A' : Nat → Prop => g_X12_rest l E A' v (xs (i + 1 : Int32).toNatClampNeg) (xs (i + 2 : Int32).toNatClampNeg) hM.1
  refine l_callM2 (As := [.int (xs (i + 1 : Int32).toNatClampNeg), .int (xs (i + 2 : Int32).toNatClampNeg)]) (st0 := [.int (xs (i + 2 : Int32).toNatClampNeg), .int (xs (i + 1 : Int32).toNatClampNeg), .ref (E.2.2 1299)]) (rest := []) (mc := 0) (ms := 0) (f := 1) hF hV hS hA 2 hM9 w_1702 w_1703 w_1704 w_107 w_1705 (by decide +kernel) ⟨Nat.le_of_ble_eq_true rfl, Nat.le_of_ble_eq_true rfl⟩ dL_law_433 rfl hl.1 rfl (Nat.le_of_ble_eq_true rfl) ⟨by omega, by omega⟩ (fun r6 v7 H locs h5 hV hS => ?_)
  have k8 : RM v7 := hM.i h5.1 h5.2.1 (by decide) (by decide)
  have s9 := l_rest23 hD.2.2.2.2.2.2.2.1 hD.2.2.2.2.2.2.2.2.1 h1.2 h5.2.2
  have d9 : RD u3 v7 := ⟨(h1.1.1.1 13 (by decide)).trans (hD.1.trans (h5.1.1 1230 (by decide)).symm), (h1.1.1.1 8 (by decide)).trans (hD.2.1.trans (h5.1.1 1232 (by decide)).symm), (h1.1.1.1 9 (by decide)).trans (hD.2.2.1.trans (h5.1.1 1239 (by decide)).symm), (h1.1.1.1 801 (by decide)).trans (hD.2.2.2.1.trans (h5.1.1 1202 (by decide)).symm), (h1.1.1.1 10 (by decide)).trans (hD.2.2.2.2.1.trans (h5.1.1 1247 (by decide)).symm), (h1.1.1.1 11 (by decide)).trans (hD.2.2.2.2.2.1.trans (h5.1.1 1256 (by decide)).symm), (h1.1.1.1 14 (by decide)).trans (hD.2.2.2.2.2.2.1.trans (h5.1.1 1231 (by decide)).symm), s9.2.1, s9.2.2, (RV.v (u := u3) (hD.2.2.2.2.2.2.2.2.2.fr h1.1.1 (by decide) (by decide) (by decide) (fun _ _ => rfl)) (fun n hn => h5.1.2.1 n (by revert n; decide)))⟩
  refine lv_pop hx hb dL_law_436 rfl ?_
  refine lv_goto (tgt := 1535) hx hb dL_law_437 (by decide) ?_
  exact kk u3 v7 H locs ls _ _ (by omega) (by omega) hV hS k4 k8 d9 (lv_sub hl [0, 1, 2, 3, 4] rfl)
set_option maxHeartbeats 400000 in
set_option maxRecDepth 100000 in
theorem l_case6 {p : Program} {e : Env} {s : State} {m : MethodId} {below : List Frame} {meth : Method} {c : Code} (l : Launch) {b L : Nat} {xs : Nat → Int32} (C0 : lw_At p s m meth c b L xs) (hst : l.stackTraces = false) (E : qE) {o : Nat} (hX0 : qXs (fun q : Nat => s.heap.size ≤ q) s s.heap) (hZ0 : qZw (fun q : Nat => s.heap.size ≤ q) s s.heap) (hL : L ≤ 4096) {i : Int32} (h0 : 0 ≤ i.toInt) (h8 : i.toInt + 8 ≤ L) {u v : qS} {H : Heap} {locs : List Loc} {ls : Array Slot} {cells slots : Nat} (hc : cells + 2 ≤ room_1.cells) (hs : slots + 1004 ≤ room_1.slots) (hV : l_2 E (fun q : Nat => s.heap.size ≤ q) u v s H) (hS : va_S (fun q : Nat => s.heap.size ≤ q) s.heap H locs) (hC : RC E o u) (hM : RM v) (hD : RD u v) (hl : lv_has ls 7 [(4, .int i), (3, .ref o), (2, .ref (E.2.2 1299)), (1, .ref (E.2.2 1199)), (0, .ref b)])
    (kk : ∀ (u v : qS) (H : Heap) (locs : List Loc) (ls : Array Slot) (k n : Nat), k ≤ cells + 2 → n ≤ slots + 1004 → l_2 E (fun q : Nat => s.heap.size ≤ q) u v s H → va_S (fun q : Nat => s.heap.size ≤ q) s.heap H locs → RC E o u → RM v → RD u v → lv_has ls 7 [(4, .int i), (3, .ref o), (2, .ref (E.2.2 1299)), (1, .ref (E.2.2 1199)), (0, .ref b)] → W p l e room_1 s m #[Value.ref b] below meth c H locs k n (lw_Z below #[Value.ref b] s) (F0 m 1535 ls [])) : W p l e room_1 s m #[Value.ref b] below meth c H locs cells slots (lw_Z below #[Value.ref b] s) (F0 m 440 ls []) := by
  obtain ⟨hx, hb, hr, hml, hown, hts, hX, hbl, hlocks, hgv⟩ := id C0
  have hF : qX p m c code 7 s #[Value.ref b] "SecretBuyersLaw" := ⟨hx, hb, hml, hown, fun w h => hts w (qw_in h)⟩
  have hA : ∀ q : Nat, s.heap.size ≤ q → (fun q : Nat => s.heap.size ≤ q) q := fun _ h => h
  have hbA : ¬ (fun q : Nat => s.heap.size ≤ q) b := Nat.not_le.mpr hbl
  refine lv_aload_n hx hb dL_law_440 rfl (lv_at hl 3 rfl) ?_
  refine lv_aload_n hx hb dL_law_441 rfl (lv_at hl 4 rfl) ?_
  refine lv_iload hx hb dL_law_442 (lv_at hl 0 rfl) ?_
  refine lv_iconst (v := 1) hx hb dL_law_444 (by decide) ?_
  refine lv_iadd hx hb dL_law_445 ?_
  refine va_sld hx hb hX hbl hbA hS (l_in (k := 1) h0 h8 hL (by decide)) dL_law_446 ?_
  refine lv_aload_n hx hb dL_law_447 rfl (lv_at hl 4 rfl) ?_
  refine lv_iload hx hb dL_law_448 (lv_at hl 0 rfl) ?_
  refine lv_iconst (v := 2) hx hb dL_law_450 (by decide) ?_
  refine lv_iadd hx hb dL_law_451 ?_
  refine va_sld hx hb hX hbl hbA hS (l_in (k := 2) h0 h8 hL (by decide)) dL_law_452 ?_
  refine lv_aload_n hx hb dL_law_453 rfl (lv_at hl 4 rfl) ?_
  refine lv_iload hx hb dL_law_454 (lv_at hl 0 rfl) ?_
  refine lv_iconst (v := 3) hx hb dL_law_456 (by decide) ?_
  refine lv_iadd hx hb dL_law_457 ?_
  refine va_sld hx hb hX hbl hbA hS (l_in (k := 3) h0 h8 hL (by decide)) dL_law_458 ?_
  refine lv_aload_n hx hb dL_law_459 rfl (lv_at hl 4 rfl) ?_
  refine lv_iload hx hb dL_law_460 (lv_at hl 0 rfl) ?_
  refine lv_iconst (v := 4) hx hb dL_law_462 (by decide) ?_
  refine lv_iadd hx hb dL_law_463 ?_
  refine va_sld hx hb hX hbl hbA hS (l_in (k := 4) h0 h8 hL (by decide)) dL_law_464 ?_
  refine lv_aload_n hx hb dL_law_465 rfl (lv_at hl 4 rfl) ?_
  refine lv_iload hx hb dL_law_466 (lv_at hl 0 rfl) ?_
  refine lv_iconst (v := 5) hx hb dL_law_468 (by decide) ?_
  refine lv_iadd hx hb dL_law_469 ?_
  refine va_sld hx hb hX hbl hbA hS (l_in (k := 5) h0 h8 hL (by decide)) dL_law_470 ?_
  refine lv_aload_n hx hb dL_law_471 rfl (lv_at hl 4 rfl) ?_
  refine lv_iload hx hb dL_law_472 (lv_at hl 0 rfl) ?_
  refine lv_bipush (v := 6) hx hb dL_law_474 (by decide) ?_
  refine lv_iadd hx hb dL_law_476 ?_
  refine va_sld hx hb hX hbl hbA hS (l_in (k := 6) h0 h8 hL (by decide)) dL_law_477 ?_
  refine lv_aload_n hx hb dL_law_478 rfl (lv_at hl 4 rfl) ?_
  refine lv_iload hx hb dL_law_479 (lv_at hl 0 rfl) ?_
  refine lv_bipush (v := 7) hx hb dL_law_481 (by decide) ?_
  refine lv_iadd hx hb dL_law_483 ?_
  refine va_sld hx hb hX hbl hbA hS (l_in (k := 7) h0 h8 hL (by decide)) dL_law_484 ?_
  have hDi := q_di hV.1
  have hM9 := fun A' : Nat → Prop => g_X11_visit l E A' u (xs (i + 1 : Int32).toNatClampNeg) (xs (i + 2 : Int32).toNatClampNeg) (xs (i + 3 : Int32).toNatClampNeg) (xs (i + 4 : Int32).toNatClampNeg) (xs (i + 5 : Int32).toNatClampNeg) (xs (i + 6 : Int32).toNatClampNeg) (xs (i + 7 : Int32).toNatClampNeg) hC.1
  refine l_callC2 (As := [.int (xs (i + 1 : Int32).toNatClampNeg), .int (xs (i + 2 : Int32).toNatClampNeg), .int (xs (i + 3 : Int32).toNatClampNeg), .int (xs (i + 4 : Int32).toNatClampNeg), .int (xs (i + 5 : Int32).toNatClampNeg), .int (xs (i + 6 : Int32).toNatClampNeg), .int (xs (i + 7 : Int32).toNatClampNeg)]) (st0 := [.int (xs (i + 7 : Int32).toNatClampNeg), .int (xs (i + 6 : Int32).toNatClampNeg), .int (xs (i + 5 : Int32).toNatClampNeg), .int (xs (i + 4 : Int32).toNatClampNeg), .int (xs (i + 3 : Int32).toNatClampNeg), .int (xs (i + 2 : Int32).toNatClampNeg), .int (xs (i + 1 : Int32).toNatClampNeg), .ref (E.2.2 1199)]) (rest := []) (mc := 1) (ms := 15) (f := 2) hF hV hS hA 7 hM9 w_559 w_560 w_561 w_99 w_562 (by decide +kernel) ⟨Nat.le_of_ble_eq_true rfl, Nat.le_of_ble_eq_true rfl⟩ dL_law_485 rfl hl.1 rfl (Nat.le_of_ble_eq_true rfl) ⟨by omega, by omega⟩ (fun r2 u3 H locs h1 hV hS => ?_)
  have k4 : RC E o u3 := hC.f h1.1.1 h1.1.2
  refine lv_pop hx hb dL_law_488 rfl ?_
  refine lv_aload_n hx hb dL_law_489 rfl (lv_at hl 2 rfl) ?_
  refine lv_aload_n hx hb dL_law_490 rfl (lv_at hl 4 rfl) ?_
  refine lv_iload hx hb dL_law_491 (lv_at hl 0 rfl) ?_
  refine lv_iconst (v := 1) hx hb dL_law_493 (by decide) ?_
  refine lv_iadd hx hb dL_law_494 ?_
  refine va_sld hx hb hX hbl hbA hS (l_in (k := 1) h0 h8 hL (by decide)) dL_law_495 ?_
  refine lv_aload_n hx hb dL_law_496 rfl (lv_at hl 4 rfl) ?_
  refine lv_iload hx hb dL_law_497 (lv_at hl 0 rfl) ?_
  refine lv_iconst (v := 2) hx hb dL_law_499 (by decide) ?_
  refine lv_iadd hx hb dL_law_500 ?_
  refine va_sld hx hb hX hbl hbA hS (l_in (k := 2) h0 h8 hL (by decide)) dL_law_501 ?_
  refine lv_aload_n hx hb dL_law_502 rfl (lv_at hl 4 rfl) ?_
  refine lv_iload hx hb dL_law_503 (lv_at hl 0 rfl) ?_
  refine lv_iconst (v := 3) hx hb dL_law_505 (by decide) ?_
  refine lv_iadd hx hb dL_law_506 ?_
  refine va_sld hx hb hX hbl hbA hS (l_in (k := 3) h0 h8 hL (by decide)) dL_law_507 ?_
  refine lv_aload_n hx hb dL_law_508 rfl (lv_at hl 4 rfl) ?_
  refine lv_iload hx hb dL_law_509 (lv_at hl 0 rfl) ?_
  refine lv_iconst (v := 4) hx hb dL_law_511 (by decide) ?_
  refine lv_iadd hx hb dL_law_512 ?_
  refine va_sld hx hb hX hbl hbA hS (l_in (k := 4) h0 h8 hL (by decide)) dL_law_513 ?_
  refine lv_aload_n hx hb dL_law_514 rfl (lv_at hl 4 rfl) ?_
  refine lv_iload hx hb dL_law_515 (lv_at hl 0 rfl) ?_
  refine lv_iconst (v := 5) hx hb dL_law_517 (by decide) ?_
  refine lv_iadd hx hb dL_law_518 ?_
  refine va_sld hx hb hX hbl hbA hS (l_in (k := 5) h0 h8 hL (by decide)) dL_law_519 ?_
  refine lv_aload_n hx hb dL_law_520 rfl (lv_at hl 4 rfl) ?_
  refine lv_iload hx hb dL_law_521 (lv_at hl 0 rfl) ?_
  refine lv_bipush (v := 6) hx hb dL_law_523 (by decide) ?_
  refine lv_iadd hx hb dL_law_525 ?_
  refine va_sld hx hb hX hbl hbA hS (l_in (k := 6) h0 h8 hL (by decide)) dL_law_526 ?_
  refine lv_aload_n hx hb dL_law_527 rfl (lv_at hl 4 rfl) ?_
  refine lv_iload hx hb dL_law_528 (lv_at hl 0 rfl) ?_
  refine lv_bipush (v := 7) hx hb dL_law_530 (by decide) ?_
  refine lv_iadd hx hb dL_law_532 ?_
  refine va_sld hx hb hX hbl hbA hS (l_in (k := 7) h0 h8 hL (by decide)) dL_law_533 ?_
  have hM9 := fun A' : Nat → Prop => g_X12_visit l E A' v (xs (i + 1 : Int32).toNatClampNeg) (xs (i + 2 : Int32).toNatClampNeg) (xs (i + 3 : Int32).toNatClampNeg) (xs (i + 4 : Int32).toNatClampNeg) (xs (i + 5 : Int32).toNatClampNeg) (xs (i + 6 : Int32).toNatClampNeg) (xs (i + 7 : Int32).toNatClampNeg) hM.1
  refine l_callM2 (As := [.int (xs (i + 1 : Int32).toNatClampNeg), .int (xs (i + 2 : Int32).toNatClampNeg), .int (xs (i + 3 : Int32).toNatClampNeg), .int (xs (i + 4 : Int32).toNatClampNeg), .int (xs (i + 5 : Int32).toNatClampNeg), .int (xs (i + 6 : Int32).toNatClampNeg), .int (xs (i + 7 : Int32).toNatClampNeg)]) (st0 := [.int (xs (i + 7 : Int32).toNatClampNeg), .int (xs (i + 6 : Int32).toNatClampNeg), .int (xs (i + 5 : Int32).toNatClampNeg), .int (xs (i + 4 : Int32).toNatClampNeg), .int (xs (i + 3 : Int32).toNatClampNeg), .int (xs (i + 2 : Int32).toNatClampNeg), .int (xs (i + 1 : Int32).toNatClampNeg), .ref (E.2.2 1299)]) (rest := []) (mc := 0) (ms := 0) (f := 1) hF hV hS hA 7 hM9 w_1706 w_1707 w_1708 w_107 w_1709 (by decide +kernel) ⟨Nat.le_of_ble_eq_true rfl, Nat.le_of_ble_eq_true rfl⟩ dL_law_534 rfl hl.1 rfl (Nat.le_of_ble_eq_true rfl) ⟨by omega, by omega⟩ (fun r6 v7 H locs h5 hV hS => ?_)
  have k8 : RM v7 := hM.i h5.1 h5.2.1 (by decide) (by decide)
  have s9 := l_visit hD hM.1 hC.1.1.s10 hDi h1.2 h5.2.2
  have d9 : RD u3 v7 := ⟨(h1.1.1.1 13 (by decide)).trans (hD.1.trans (h5.1.1 1230 (by decide)).symm), (h1.1.1.1 8 (by decide)).trans (hD.2.1.trans (h5.1.1 1232 (by decide)).symm), (h1.1.1.1 9 (by decide)).trans (hD.2.2.1.trans (h5.1.1 1239 (by decide)).symm), (h1.1.1.1 801 (by decide)).trans (hD.2.2.2.1.trans (h5.1.1 1202 (by decide)).symm), s9.2.1, (h1.1.1.1 11 (by decide)).trans (hD.2.2.2.2.2.1.trans (h5.1.1 1256 (by decide)).symm), (h1.1.1.1 14 (by decide)).trans (hD.2.2.2.2.2.2.1.trans (h5.1.1 1231 (by decide)).symm), (h1.1.1.1 16 (by decide)).trans (hD.2.2.2.2.2.2.2.1.trans (h5.1.1 1245 (by decide)).symm), (h1.1.1.1 17 (by decide)).trans (hD.2.2.2.2.2.2.2.2.1.trans (h5.1.1 1246 (by decide)).symm), ⟨s9.2.2, hD.2.2.2.2.2.2.2.2.2.2.1.fr h1.1.1 (by decide) (by decide) (fun n hn => h5.1.2.1 n (by revert n; decide)), hD.2.2.2.2.2.2.2.2.2.2.2.1.new hD.2.2.2.2.1 s9.2.1 hM.1 h5.2.2, hD.2.2.2.2.2.2.2.2.2.2.2.2.1.fr h1.1.1 (by decide) (by decide) (fun n hn => h5.1.2.1 n (by revert n; decide)), l_vb hD.2.2.2.2.2.2.2.2.2.2.2.2.2 (h1.1.1.1 8 (by decide)) (h1.1.1.1 9 (by decide)) (h1.1.1.1 14 (by decide)) (b_visit hD.2.2.2.2.2.2.2.2.2.2.2.2.2.2.2.1 hD.2.2.2.2.1 s9.2.1 hM.1 h5.2.2) (fun n hn => h5.1.2.1 n (by revert n; decide))⟩⟩
  refine lv_pop hx hb dL_law_537 rfl ?_
  refine lv_goto (tgt := 1535) hx hb dL_law_538 (by decide) ?_
  exact kk u3 v7 H locs ls _ _ (by omega) (by omega) hV hS k4 k8 d9 (lv_sub hl [0, 1, 2, 3, 4] rfl)
set_option maxHeartbeats 400000 in
set_option maxRecDepth 100000 in
theorem l_case7 {p : Program} {e : Env} {s : State} {m : MethodId} {below : List Frame} {meth : Method} {c : Code} (l : Launch) {b L : Nat} {xs : Nat → Int32} (C0 : lw_At p s m meth c b L xs) (hst : l.stackTraces = false) (E : qE) {o : Nat} (hX0 : qXs (fun q : Nat => s.heap.size ≤ q) s s.heap) (hZ0 : qZw (fun q : Nat => s.heap.size ≤ q) s s.heap) (hL : L ≤ 4096) {i : Int32} (h0 : 0 ≤ i.toInt) (h8 : i.toInt + 8 ≤ L) {u v : qS} {H : Heap} {locs : List Loc} {ls : Array Slot} {cells slots : Nat} (hc : cells + 2 ≤ room_1.cells) (hs : slots + 1004 ≤ room_1.slots) (hV : l_2 E (fun q : Nat => s.heap.size ≤ q) u v s H) (hS : va_S (fun q : Nat => s.heap.size ≤ q) s.heap H locs) (hC : RC E o u) (hM : RM v) (hD : RD u v) (hl : lv_has ls 7 [(4, .int i), (3, .ref o), (2, .ref (E.2.2 1299)), (1, .ref (E.2.2 1199)), (0, .ref b)])
    (kk : ∀ (u v : qS) (H : Heap) (locs : List Loc) (ls : Array Slot) (k n : Nat), k ≤ cells + 2 → n ≤ slots + 1004 → l_2 E (fun q : Nat => s.heap.size ≤ q) u v s H → va_S (fun q : Nat => s.heap.size ≤ q) s.heap H locs → RC E o u → RM v → RD u v → lv_has ls 7 [(4, .int i), (3, .ref o), (2, .ref (E.2.2 1299)), (1, .ref (E.2.2 1199)), (0, .ref b)] → W p l e room_1 s m #[Value.ref b] below meth c H locs k n (lw_Z below #[Value.ref b] s) (F0 m 1535 ls [])) : W p l e room_1 s m #[Value.ref b] below meth c H locs cells slots (lw_Z below #[Value.ref b] s) (F0 m 541 ls []) := by
  obtain ⟨hx, hb, hr, hml, hown, hts, hX, hbl, hlocks, hgv⟩ := id C0
  have hF : qX p m c code 7 s #[Value.ref b] "SecretBuyersLaw" := ⟨hx, hb, hml, hown, fun w h => hts w (qw_in h)⟩
  have hA : ∀ q : Nat, s.heap.size ≤ q → (fun q : Nat => s.heap.size ≤ q) q := fun _ h => h
  have hbA : ¬ (fun q : Nat => s.heap.size ≤ q) b := Nat.not_le.mpr hbl
  refine lv_aload_n hx hb dL_law_541 rfl (lv_at hl 3 rfl) ?_
  refine lv_aload_n hx hb dL_law_542 rfl (lv_at hl 4 rfl) ?_
  refine lv_iload hx hb dL_law_543 (lv_at hl 0 rfl) ?_
  refine lv_iconst (v := 1) hx hb dL_law_545 (by decide) ?_
  refine lv_iadd hx hb dL_law_546 ?_
  refine va_sld hx hb hX hbl hbA hS (l_in (k := 1) h0 h8 hL (by decide)) dL_law_547 ?_
  refine lv_aload_n hx hb dL_law_548 rfl (lv_at hl 4 rfl) ?_
  refine lv_iload hx hb dL_law_549 (lv_at hl 0 rfl) ?_
  refine lv_iconst (v := 2) hx hb dL_law_551 (by decide) ?_
  refine lv_iadd hx hb dL_law_552 ?_
  refine va_sld hx hb hX hbl hbA hS (l_in (k := 2) h0 h8 hL (by decide)) dL_law_553 ?_
  have hDi := q_di hV.1
  have hM9 := fun A' : Nat → Prop => g_X11_appeal l E A' u (xs (i + 1 : Int32).toNatClampNeg) (xs (i + 2 : Int32).toNatClampNeg) hC.1
  refine l_callC2 (As := [.int (xs (i + 1 : Int32).toNatClampNeg), .int (xs (i + 2 : Int32).toNatClampNeg)]) (st0 := [.int (xs (i + 2 : Int32).toNatClampNeg), .int (xs (i + 1 : Int32).toNatClampNeg), .ref (E.2.2 1199)]) (rest := []) (mc := 0) (ms := 0) (f := 3) hF hV hS hA 2 hM9 w_678 w_679 w_680 w_99 w_681 (by decide +kernel) ⟨Nat.le_of_ble_eq_true rfl, Nat.le_of_ble_eq_true rfl⟩ dL_law_554 rfl hl.1 rfl (Nat.le_of_ble_eq_true rfl) ⟨by omega, by omega⟩ (fun r2 u3 H locs h1 hV hS => ?_)
  have k4 : RC E o u3 := hC.f h1.1.1 h1.1.2
  refine lv_pop hx hb dL_law_557 rfl ?_
  refine lv_aload_n hx hb dL_law_558 rfl (lv_at hl 2 rfl) ?_
  refine lv_aload_n hx hb dL_law_559 rfl (lv_at hl 4 rfl) ?_
  refine lv_iload hx hb dL_law_560 (lv_at hl 0 rfl) ?_
  refine lv_iconst (v := 1) hx hb dL_law_562 (by decide) ?_
  refine lv_iadd hx hb dL_law_563 ?_
  refine va_sld hx hb hX hbl hbA hS (l_in (k := 1) h0 h8 hL (by decide)) dL_law_564 ?_
  refine lv_aload_n hx hb dL_law_565 rfl (lv_at hl 4 rfl) ?_
  refine lv_iload hx hb dL_law_566 (lv_at hl 0 rfl) ?_
  refine lv_iconst (v := 2) hx hb dL_law_568 (by decide) ?_
  refine lv_iadd hx hb dL_law_569 ?_
  refine va_sld hx hb hX hbl hbA hS (l_in (k := 2) h0 h8 hL (by decide)) dL_law_570 ?_
  have hM9 := fun A' : Nat → Prop => g_X12_appeal l E A' v (xs (i + 1 : Int32).toNatClampNeg) (xs (i + 2 : Int32).toNatClampNeg) hM.1
  refine l_callM2 (As := [.int (xs (i + 1 : Int32).toNatClampNeg), .int (xs (i + 2 : Int32).toNatClampNeg)]) (st0 := [.int (xs (i + 2 : Int32).toNatClampNeg), .int (xs (i + 1 : Int32).toNatClampNeg), .ref (E.2.2 1299)]) (rest := []) (mc := 0) (ms := 0) (f := 1) hF hV hS hA 2 hM9 w_1722 w_1723 w_1724 w_107 w_1725 (by decide +kernel) ⟨Nat.le_of_ble_eq_true rfl, Nat.le_of_ble_eq_true rfl⟩ dL_law_571 rfl hl.1 rfl (Nat.le_of_ble_eq_true rfl) ⟨by omega, by omega⟩ (fun r6 v7 H locs h5 hV hS => ?_)
  have k8 : RM v7 := hM.i h5.1 h5.2.1 (by decide) (by decide)
  have s9 := l_appeal hD hM.1 hC.1.1.s11 hDi h1.2 h5.2.2
  have d9 : RD u3 v7 := ⟨(h1.1.1.1 13 (by decide)).trans (hD.1.trans (h5.1.1 1230 (by decide)).symm), (h1.1.1.1 8 (by decide)).trans (hD.2.1.trans (h5.1.1 1232 (by decide)).symm), (h1.1.1.1 9 (by decide)).trans (hD.2.2.1.trans (h5.1.1 1239 (by decide)).symm), (h1.1.1.1 801 (by decide)).trans (hD.2.2.2.1.trans (h5.1.1 1202 (by decide)).symm), (h1.1.1.1 10 (by decide)).trans (hD.2.2.2.2.1.trans (h5.1.1 1247 (by decide)).symm), s9.2, (h1.1.1.1 14 (by decide)).trans (hD.2.2.2.2.2.2.1.trans (h5.1.1 1231 (by decide)).symm), (h1.1.1.1 16 (by decide)).trans (hD.2.2.2.2.2.2.2.1.trans (h5.1.1 1245 (by decide)).symm), (h1.1.1.1 17 (by decide)).trans (hD.2.2.2.2.2.2.2.2.1.trans (h5.1.1 1246 (by decide)).symm), (RV.v (u := u3) (hD.2.2.2.2.2.2.2.2.2.fr h1.1.1 (by decide) (by decide) (by decide) (fun _ _ => rfl)) (fun n hn => h5.1.2.1 n (by revert n; decide)))⟩
  refine lv_pop hx hb dL_law_574 rfl ?_
  refine lv_goto (tgt := 1535) hx hb dL_law_575 (by decide) ?_
  exact kk u3 v7 H locs ls _ _ (by omega) (by omega) hV hS k4 k8 d9 (lv_sub hl [0, 1, 2, 3, 4] rfl)
set_option maxHeartbeats 400000 in
set_option maxRecDepth 100000 in
theorem l_case8 {p : Program} {e : Env} {s : State} {m : MethodId} {below : List Frame} {meth : Method} {c : Code} (l : Launch) {b L : Nat} {xs : Nat → Int32} (C0 : lw_At p s m meth c b L xs) (hst : l.stackTraces = false) (E : qE) {o : Nat} (hX0 : qXs (fun q : Nat => s.heap.size ≤ q) s s.heap) (hZ0 : qZw (fun q : Nat => s.heap.size ≤ q) s s.heap) (hL : L ≤ 4096) {i : Int32} (h0 : 0 ≤ i.toInt) (h8 : i.toInt + 8 ≤ L) {u v : qS} {H : Heap} {locs : List Loc} {ls : Array Slot} {cells slots : Nat} (hc : cells + 2 ≤ room_1.cells) (hs : slots + 1004 ≤ room_1.slots) (hV : l_2 E (fun q : Nat => s.heap.size ≤ q) u v s H) (hS : va_S (fun q : Nat => s.heap.size ≤ q) s.heap H locs) (hC : RC E o u) (hM : RM v) (hD : RD u v) (hl : lv_has ls 7 [(4, .int i), (3, .ref o), (2, .ref (E.2.2 1299)), (1, .ref (E.2.2 1199)), (0, .ref b)])
    (kk : ∀ (u v : qS) (H : Heap) (locs : List Loc) (ls : Array Slot) (k n : Nat), k ≤ cells + 2 → n ≤ slots + 1004 → l_2 E (fun q : Nat => s.heap.size ≤ q) u v s H → va_S (fun q : Nat => s.heap.size ≤ q) s.heap H locs → RC E o u → RM v → RD u v → lv_has ls 7 [(4, .int i), (3, .ref o), (2, .ref (E.2.2 1299)), (1, .ref (E.2.2 1199)), (0, .ref b)] → W p l e room_1 s m #[Value.ref b] below meth c H locs k n (lw_Z below #[Value.ref b] s) (F0 m 1535 ls [])) : W p l e room_1 s m #[Value.ref b] below meth c H locs cells slots (lw_Z below #[Value.ref b] s) (F0 m 578 ls []) := by
  obtain ⟨hx, hb, hr, hml, hown, hts, hX, hbl, hlocks, hgv⟩ := id C0
  have hF : qX p m c code 7 s #[Value.ref b] "SecretBuyersLaw" := ⟨hx, hb, hml, hown, fun w h => hts w (qw_in h)⟩
  have hA : ∀ q : Nat, s.heap.size ≤ q → (fun q : Nat => s.heap.size ≤ q) q := fun _ h => h
  have hbA : ¬ (fun q : Nat => s.heap.size ≤ q) b := Nat.not_le.mpr hbl
  refine lv_aload_n hx hb dL_law_578 rfl (lv_at hl 3 rfl) ?_
  refine lv_aload_n hx hb dL_law_579 rfl (lv_at hl 4 rfl) ?_
  refine lv_iload hx hb dL_law_580 (lv_at hl 0 rfl) ?_
  refine lv_iconst (v := 1) hx hb dL_law_582 (by decide) ?_
  refine lv_iadd hx hb dL_law_583 ?_
  refine va_sld hx hb hX hbl hbA hS (l_in (k := 1) h0 h8 hL (by decide)) dL_law_584 ?_
  refine lv_i2l (v := (xs (i + 1 : Int32).toNatClampNeg).toInt64) hx hb dL_law_585 rfl ?_
  refine lv_bipush (v := 32) hx hb dL_law_586 (by decide) ?_
  refine lv_lshl (v := ((xs (i + 1 : Int32).toNatClampNeg).toInt64) <<< ((32 : Int32).toInt64 &&& 63)) hx hb dL_law_588 rfl ?_
  refine lv_aload_n hx hb dL_law_589 rfl (lv_at hl 4 rfl) ?_
  refine lv_iload hx hb dL_law_590 (lv_at hl 0 rfl) ?_
  refine lv_iconst (v := 2) hx hb dL_law_592 (by decide) ?_
  refine lv_iadd hx hb dL_law_593 ?_
  refine va_sld hx hb hX hbl hbA hS (l_in (k := 2) h0 h8 hL (by decide)) dL_law_594 ?_
  refine lv_i2l (v := (xs (i + 2 : Int32).toNatClampNeg).toInt64) hx hb dL_law_595 rfl ?_
  refine lv_ldc2 (v := 4294967295) hx hb hown (hF.2.2.2.2 _ w_1925) dL_law_596 ?_
  refine lv_land hx hb dL_law_599 ?_
  refine lv_lor hx hb dL_law_600 ?_
  refine lv_aload_n hx hb dL_law_601 rfl (lv_at hl 4 rfl) ?_
  refine lv_iload hx hb dL_law_602 (lv_at hl 0 rfl) ?_
  refine lv_iconst (v := 3) hx hb dL_law_604 (by decide) ?_
  refine lv_iadd hx hb dL_law_605 ?_
  refine va_sld hx hb hX hbl hbA hS (l_in (k := 3) h0 h8 hL (by decide)) dL_law_606 ?_
  refine lv_i2l (v := (xs (i + 3 : Int32).toNatClampNeg).toInt64) hx hb dL_law_607 rfl ?_
  refine lv_bipush (v := 32) hx hb dL_law_608 (by decide) ?_
  refine lv_lshl (v := ((xs (i + 3 : Int32).toNatClampNeg).toInt64) <<< ((32 : Int32).toInt64 &&& 63)) hx hb dL_law_610 rfl ?_
  refine lv_aload_n hx hb dL_law_611 rfl (lv_at hl 4 rfl) ?_
  refine lv_iload hx hb dL_law_612 (lv_at hl 0 rfl) ?_
  refine lv_iconst (v := 4) hx hb dL_law_614 (by decide) ?_
  refine lv_iadd hx hb dL_law_615 ?_
  refine va_sld hx hb hX hbl hbA hS (l_in (k := 4) h0 h8 hL (by decide)) dL_law_616 ?_
  refine lv_i2l (v := (xs (i + 4 : Int32).toNatClampNeg).toInt64) hx hb dL_law_617 rfl ?_
  refine lv_ldc2 (v := 4294967295) hx hb hown (hF.2.2.2.2 _ w_1925) dL_law_618 ?_
  refine lv_land hx hb dL_law_621 ?_
  refine lv_lor hx hb dL_law_622 ?_
  refine lv_aload_n hx hb dL_law_623 rfl (lv_at hl 4 rfl) ?_
  refine lv_iload hx hb dL_law_624 (lv_at hl 0 rfl) ?_
  refine lv_iconst (v := 5) hx hb dL_law_626 (by decide) ?_
  refine lv_iadd hx hb dL_law_627 ?_
  refine va_sld hx hb hX hbl hbA hS (l_in (k := 5) h0 h8 hL (by decide)) dL_law_628 ?_
  refine lv_i2l (v := (xs (i + 5 : Int32).toNatClampNeg).toInt64) hx hb dL_law_629 rfl ?_
  refine lv_bipush (v := 32) hx hb dL_law_630 (by decide) ?_
  refine lv_lshl (v := ((xs (i + 5 : Int32).toNatClampNeg).toInt64) <<< ((32 : Int32).toInt64 &&& 63)) hx hb dL_law_632 rfl ?_
  refine lv_aload_n hx hb dL_law_633 rfl (lv_at hl 4 rfl) ?_
  refine lv_iload hx hb dL_law_634 (lv_at hl 0 rfl) ?_
  refine lv_bipush (v := 6) hx hb dL_law_636 (by decide) ?_
  refine lv_iadd hx hb dL_law_638 ?_
  refine va_sld hx hb hX hbl hbA hS (l_in (k := 6) h0 h8 hL (by decide)) dL_law_639 ?_
  refine lv_i2l (v := (xs (i + 6 : Int32).toNatClampNeg).toInt64) hx hb dL_law_640 rfl ?_
  refine lv_ldc2 (v := 4294967295) hx hb hown (hF.2.2.2.2 _ w_1925) dL_law_641 ?_
  refine lv_land hx hb dL_law_644 ?_
  refine lv_lor hx hb dL_law_645 ?_
  have hM9 := fun A' : Nat → Prop => g_X11_feed l E A' u ((((xs (i + 1 : Int32).toNatClampNeg).toInt64) <<< ((32 : Int32).toInt64 &&& 63)) ||| (((xs (i + 2 : Int32).toNatClampNeg).toInt64) &&& 4294967295)) ((((xs (i + 3 : Int32).toNatClampNeg).toInt64) <<< ((32 : Int32).toInt64 &&& 63)) ||| (((xs (i + 4 : Int32).toNatClampNeg).toInt64) &&& 4294967295)) ((((xs (i + 5 : Int32).toNatClampNeg).toInt64) <<< ((32 : Int32).toInt64 &&& 63)) ||| (((xs (i + 6 : Int32).toNatClampNeg).toInt64) &&& 4294967295)) hC.1
  refine l_callC2 (As := [.long ((((xs (i + 1 : Int32).toNatClampNeg).toInt64) <<< ((32 : Int32).toInt64 &&& 63)) ||| (((xs (i + 2 : Int32).toNatClampNeg).toInt64) &&& 4294967295)), .long ((((xs (i + 3 : Int32).toNatClampNeg).toInt64) <<< ((32 : Int32).toInt64 &&& 63)) ||| (((xs (i + 4 : Int32).toNatClampNeg).toInt64) &&& 4294967295)), .long ((((xs (i + 5 : Int32).toNatClampNeg).toInt64) <<< ((32 : Int32).toInt64 &&& 63)) ||| (((xs (i + 6 : Int32).toNatClampNeg).toInt64) &&& 4294967295))]) (st0 := [.long ((((xs (i + 5 : Int32).toNatClampNeg).toInt64) <<< ((32 : Int32).toInt64 &&& 63)) ||| (((xs (i + 6 : Int32).toNatClampNeg).toInt64) &&& 4294967295)), .long ((((xs (i + 3 : Int32).toNatClampNeg).toInt64) <<< ((32 : Int32).toInt64 &&& 63)) ||| (((xs (i + 4 : Int32).toNatClampNeg).toInt64) &&& 4294967295)), .long ((((xs (i + 1 : Int32).toNatClampNeg).toInt64) <<< ((32 : Int32).toInt64 &&& 63)) ||| (((xs (i + 2 : Int32).toNatClampNeg).toInt64) &&& 4294967295)), .ref (E.2.2 1199)]) (rest := []) (mc := 0) (ms := 0) (f := 2) hF hV hS hA 3 hM9 w_686 w_687 w_688 w_99 w_689 (by decide +kernel) ⟨Nat.le_of_ble_eq_true rfl, Nat.le_of_ble_eq_true rfl⟩ dL_law_646 rfl hl.1 rfl (Nat.le_of_ble_eq_true rfl) ⟨by omega, by omega⟩ (fun r2 u3 H locs h1 hV hS => ?_)
  have k4 : RC E o u3 := hC.f h1.1.1 h1.1.2
  refine lv_pop hx hb dL_law_649 rfl ?_
  refine lv_aload_n hx hb dL_law_650 rfl (lv_at hl 2 rfl) ?_
  refine lv_aload_n hx hb dL_law_651 rfl (lv_at hl 4 rfl) ?_
  refine lv_iload hx hb dL_law_652 (lv_at hl 0 rfl) ?_
  refine lv_iconst (v := 1) hx hb dL_law_654 (by decide) ?_
  refine lv_iadd hx hb dL_law_655 ?_
  refine va_sld hx hb hX hbl hbA hS (l_in (k := 1) h0 h8 hL (by decide)) dL_law_656 ?_
  refine lv_i2l (v := (xs (i + 1 : Int32).toNatClampNeg).toInt64) hx hb dL_law_657 rfl ?_
  refine lv_bipush (v := 32) hx hb dL_law_658 (by decide) ?_
  refine lv_lshl (v := ((xs (i + 1 : Int32).toNatClampNeg).toInt64) <<< ((32 : Int32).toInt64 &&& 63)) hx hb dL_law_660 rfl ?_
  refine lv_aload_n hx hb dL_law_661 rfl (lv_at hl 4 rfl) ?_
  refine lv_iload hx hb dL_law_662 (lv_at hl 0 rfl) ?_
  refine lv_iconst (v := 2) hx hb dL_law_664 (by decide) ?_
  refine lv_iadd hx hb dL_law_665 ?_
  refine va_sld hx hb hX hbl hbA hS (l_in (k := 2) h0 h8 hL (by decide)) dL_law_666 ?_
  refine lv_i2l (v := (xs (i + 2 : Int32).toNatClampNeg).toInt64) hx hb dL_law_667 rfl ?_
  refine lv_ldc2 (v := 4294967295) hx hb hown (hF.2.2.2.2 _ w_1925) dL_law_668 ?_
  refine lv_land hx hb dL_law_671 ?_
  refine lv_lor hx hb dL_law_672 ?_
  refine lv_aload_n hx hb dL_law_673 rfl (lv_at hl 4 rfl) ?_
  refine lv_iload hx hb dL_law_674 (lv_at hl 0 rfl) ?_
  refine lv_iconst (v := 3) hx hb dL_law_676 (by decide) ?_
  refine lv_iadd hx hb dL_law_677 ?_
  refine va_sld hx hb hX hbl hbA hS (l_in (k := 3) h0 h8 hL (by decide)) dL_law_678 ?_
  refine lv_i2l (v := (xs (i + 3 : Int32).toNatClampNeg).toInt64) hx hb dL_law_679 rfl ?_
  refine lv_bipush (v := 32) hx hb dL_law_680 (by decide) ?_
  refine lv_lshl (v := ((xs (i + 3 : Int32).toNatClampNeg).toInt64) <<< ((32 : Int32).toInt64 &&& 63)) hx hb dL_law_682 rfl ?_
  refine lv_aload_n hx hb dL_law_683 rfl (lv_at hl 4 rfl) ?_
  refine lv_iload hx hb dL_law_684 (lv_at hl 0 rfl) ?_
  refine lv_iconst (v := 4) hx hb dL_law_686 (by decide) ?_
  refine lv_iadd hx hb dL_law_687 ?_
  refine va_sld hx hb hX hbl hbA hS (l_in (k := 4) h0 h8 hL (by decide)) dL_law_688 ?_
  refine lv_i2l (v := (xs (i + 4 : Int32).toNatClampNeg).toInt64) hx hb dL_law_689 rfl ?_
  refine lv_ldc2 (v := 4294967295) hx hb hown (hF.2.2.2.2 _ w_1925) dL_law_690 ?_
  refine lv_land hx hb dL_law_693 ?_
  refine lv_lor hx hb dL_law_694 ?_
  refine lv_aload_n hx hb dL_law_695 rfl (lv_at hl 4 rfl) ?_
  refine lv_iload hx hb dL_law_696 (lv_at hl 0 rfl) ?_
  refine lv_iconst (v := 5) hx hb dL_law_698 (by decide) ?_
  refine lv_iadd hx hb dL_law_699 ?_
  refine va_sld hx hb hX hbl hbA hS (l_in (k := 5) h0 h8 hL (by decide)) dL_law_700 ?_
  refine lv_i2l (v := (xs (i + 5 : Int32).toNatClampNeg).toInt64) hx hb dL_law_701 rfl ?_
  refine lv_bipush (v := 32) hx hb dL_law_702 (by decide) ?_
  refine lv_lshl (v := ((xs (i + 5 : Int32).toNatClampNeg).toInt64) <<< ((32 : Int32).toInt64 &&& 63)) hx hb dL_law_704 rfl ?_
  refine lv_aload_n hx hb dL_law_705 rfl (lv_at hl 4 rfl) ?_
  refine lv_iload hx hb dL_law_706 (lv_at hl 0 rfl) ?_
  refine lv_bipush (v := 6) hx hb dL_law_708 (by decide) ?_
  refine lv_iadd hx hb dL_law_710 ?_
  refine va_sld hx hb hX hbl hbA hS (l_in (k := 6) h0 h8 hL (by decide)) dL_law_711 ?_
  refine lv_i2l (v := (xs (i + 6 : Int32).toNatClampNeg).toInt64) hx hb dL_law_712 rfl ?_
  refine lv_ldc2 (v := 4294967295) hx hb hown (hF.2.2.2.2 _ w_1925) dL_law_713 ?_
  refine lv_land hx hb dL_law_716 ?_
  refine lv_lor hx hb dL_law_717 ?_
  have hM9 := fun A' : Nat → Prop => g_X12_feed l E A' v ((((xs (i + 1 : Int32).toNatClampNeg).toInt64) <<< ((32 : Int32).toInt64 &&& 63)) ||| (((xs (i + 2 : Int32).toNatClampNeg).toInt64) &&& 4294967295)) ((((xs (i + 3 : Int32).toNatClampNeg).toInt64) <<< ((32 : Int32).toInt64 &&& 63)) ||| (((xs (i + 4 : Int32).toNatClampNeg).toInt64) &&& 4294967295)) ((((xs (i + 5 : Int32).toNatClampNeg).toInt64) <<< ((32 : Int32).toInt64 &&& 63)) ||| (((xs (i + 6 : Int32).toNatClampNeg).toInt64) &&& 4294967295)) hM.1
  refine l_callM2 (As := [.long ((((xs (i + 1 : Int32).toNatClampNeg).toInt64) <<< ((32 : Int32).toInt64 &&& 63)) ||| (((xs (i + 2 : Int32).toNatClampNeg).toInt64) &&& 4294967295)), .long ((((xs (i + 3 : Int32).toNatClampNeg).toInt64) <<< ((32 : Int32).toInt64 &&& 63)) ||| (((xs (i + 4 : Int32).toNatClampNeg).toInt64) &&& 4294967295)), .long ((((xs (i + 5 : Int32).toNatClampNeg).toInt64) <<< ((32 : Int32).toInt64 &&& 63)) ||| (((xs (i + 6 : Int32).toNatClampNeg).toInt64) &&& 4294967295))]) (st0 := [.long ((((xs (i + 5 : Int32).toNatClampNeg).toInt64) <<< ((32 : Int32).toInt64 &&& 63)) ||| (((xs (i + 6 : Int32).toNatClampNeg).toInt64) &&& 4294967295)), .long ((((xs (i + 3 : Int32).toNatClampNeg).toInt64) <<< ((32 : Int32).toInt64 &&& 63)) ||| (((xs (i + 4 : Int32).toNatClampNeg).toInt64) &&& 4294967295)), .long ((((xs (i + 1 : Int32).toNatClampNeg).toInt64) <<< ((32 : Int32).toInt64 &&& 63)) ||| (((xs (i + 2 : Int32).toNatClampNeg).toInt64) &&& 4294967295)), .ref (E.2.2 1299)]) (rest := []) (mc := 0) (ms := 0) (f := 1) hF hV hS hA 3 hM9 w_1299 w_1300 w_1301 w_107 w_1302 (by decide +kernel) ⟨Nat.le_of_ble_eq_true rfl, Nat.le_of_ble_eq_true rfl⟩ dL_law_718 rfl hl.1 rfl (Nat.le_of_ble_eq_true rfl) ⟨by omega, by omega⟩ (fun r6 v7 H locs h5 hV hS => ?_)
  have k8 : RM v7 := hM.i h5.1 h5.2.1 (by decide) (by decide)
  have s9 := l_feed (u1 := u3) (v1 := v7) hD h1.2 h5.2.2
  have d9 : RD u3 v7 := ⟨(h1.1.1.1 13 (by decide)).trans (hD.1.trans (h5.1.1 1230 (by decide)).symm), (h1.1.1.1 8 (by decide)).trans (hD.2.1.trans (h5.1.1 1232 (by decide)).symm), (h1.1.1.1 9 (by decide)).trans (hD.2.2.1.trans (h5.1.1 1239 (by decide)).symm), s9.2, (h1.1.1.1 10 (by decide)).trans (hD.2.2.2.2.1.trans (h5.1.1 1247 (by decide)).symm), (h1.1.1.1 11 (by decide)).trans (hD.2.2.2.2.2.1.trans (h5.1.1 1256 (by decide)).symm), (h1.1.1.1 14 (by decide)).trans (hD.2.2.2.2.2.2.1.trans (h5.1.1 1231 (by decide)).symm), (h1.1.1.1 16 (by decide)).trans (hD.2.2.2.2.2.2.2.1.trans (h5.1.1 1245 (by decide)).symm), (h1.1.1.1 17 (by decide)).trans (hD.2.2.2.2.2.2.2.2.1.trans (h5.1.1 1246 (by decide)).symm), (RV.v (u := u3) (hD.2.2.2.2.2.2.2.2.2.fr h1.1.1 (by decide) (by decide) (by decide) (fun _ _ => rfl)) (fun n hn => h5.1.2.1 n (by revert n; decide)))⟩
  refine lv_pop hx hb dL_law_721 rfl ?_
  refine lv_goto (tgt := 1535) hx hb dL_law_722 (by decide) ?_
  exact kk u3 v7 H locs ls _ _ (by omega) (by omega) hV hS k4 k8 d9 (lv_sub hl [0, 1, 2, 3, 4] rfl)
set_option maxHeartbeats 400000 in
set_option maxRecDepth 100000 in
theorem l_case9 {p : Program} {e : Env} {s : State} {m : MethodId} {below : List Frame} {meth : Method} {c : Code} (l : Launch) {b L : Nat} {xs : Nat → Int32} (C0 : lw_At p s m meth c b L xs) (hst : l.stackTraces = false) (E : qE) {o : Nat} (hX0 : qXs (fun q : Nat => s.heap.size ≤ q) s s.heap) (hZ0 : qZw (fun q : Nat => s.heap.size ≤ q) s s.heap) (hL : L ≤ 4096) {i : Int32} (h0 : 0 ≤ i.toInt) (h8 : i.toInt + 8 ≤ L) {u v : qS} {H : Heap} {locs : List Loc} {ls : Array Slot} {cells slots : Nat} (hc : cells + 2 ≤ room_1.cells) (hs : slots + 1004 ≤ room_1.slots) (hV : l_2 E (fun q : Nat => s.heap.size ≤ q) u v s H) (hS : va_S (fun q : Nat => s.heap.size ≤ q) s.heap H locs) (hC : RC E o u) (hM : RM v) (hD : RD u v) (hl : lv_has ls 7 [(4, .int i), (3, .ref o), (2, .ref (E.2.2 1299)), (1, .ref (E.2.2 1199)), (0, .ref b)])
    (kk : ∀ (u v : qS) (H : Heap) (locs : List Loc) (ls : Array Slot) (k n : Nat), k ≤ cells + 2 → n ≤ slots + 1004 → l_2 E (fun q : Nat => s.heap.size ≤ q) u v s H → va_S (fun q : Nat => s.heap.size ≤ q) s.heap H locs → RC E o u → RM v → RD u v → lv_has ls 7 [(4, .int i), (3, .ref o), (2, .ref (E.2.2 1299)), (1, .ref (E.2.2 1199)), (0, .ref b)] → W p l e room_1 s m #[Value.ref b] below meth c H locs k n (lw_Z below #[Value.ref b] s) (F0 m 1535 ls [])) : W p l e room_1 s m #[Value.ref b] below meth c H locs cells slots (lw_Z below #[Value.ref b] s) (F0 m 725 ls []) := by
  obtain ⟨hx, hb, hr, hml, hown, hts, hX, hbl, hlocks, hgv⟩ := id C0
  have hF : qX p m c code 7 s #[Value.ref b] "SecretBuyersLaw" := ⟨hx, hb, hml, hown, fun w h => hts w (qw_in h)⟩
  have hA : ∀ q : Nat, s.heap.size ≤ q → (fun q : Nat => s.heap.size ≤ q) q := fun _ h => h
  have hbA : ¬ (fun q : Nat => s.heap.size ≤ q) b := Nat.not_le.mpr hbl
  refine lv_aload_n hx hb dL_law_725 rfl (lv_at hl 3 rfl) ?_
  refine lv_aload_n hx hb dL_law_726 rfl (lv_at hl 4 rfl) ?_
  refine lv_iload hx hb dL_law_727 (lv_at hl 0 rfl) ?_
  refine lv_iconst (v := 1) hx hb dL_law_729 (by decide) ?_
  refine lv_iadd hx hb dL_law_730 ?_
  refine va_sld hx hb hX hbl hbA hS (l_in (k := 1) h0 h8 hL (by decide)) dL_law_731 ?_
  refine lv_aload_n hx hb dL_law_732 rfl (lv_at hl 4 rfl) ?_
  refine lv_iload hx hb dL_law_733 (lv_at hl 0 rfl) ?_
  refine lv_iconst (v := 2) hx hb dL_law_735 (by decide) ?_
  refine lv_iadd hx hb dL_law_736 ?_
  refine va_sld hx hb hX hbl hbA hS (l_in (k := 2) h0 h8 hL (by decide)) dL_law_737 ?_
  have hM9 := fun A' : Nat → Prop => g_X11_brief l E A' u (xs (i + 1 : Int32).toNatClampNeg) (xs (i + 2 : Int32).toNatClampNeg) hC.1
  refine l_callW2 (As := [.int (xs (i + 1 : Int32).toNatClampNeg), .int (xs (i + 2 : Int32).toNatClampNeg)]) (st0 := [.int (xs (i + 2 : Int32).toNatClampNeg), .int (xs (i + 1 : Int32).toNatClampNeg), .ref (E.2.2 1199)]) (rest := []) (mc := 2) (ms := 1004) (f := 37) hF hV hS hA (hZ0.kept hS) 2 hM9 w_695 w_696 w_697 w_99 w_698 (by decide +kernel) ⟨Nat.le_of_ble_eq_true rfl, Nat.le_of_ble_eq_true rfl⟩ dL_law_738 rfl hl.1 rfl (Nat.le_of_ble_eq_true rfl) ⟨by omega, by omega⟩ (fun r2 u3 H locs h1 hV hS => ?_)
  have k4 : RC E o u3 := hC.f h1.1.1 h1.1.2
  refine lv_pop hx hb dL_law_741 rfl ?_
  refine lv_aload_n hx hb dL_law_742 rfl (lv_at hl 2 rfl) ?_
  refine lv_aload_n hx hb dL_law_743 rfl (lv_at hl 4 rfl) ?_
  refine lv_iload hx hb dL_law_744 (lv_at hl 0 rfl) ?_
  refine lv_iconst (v := 1) hx hb dL_law_746 (by decide) ?_
  refine lv_iadd hx hb dL_law_747 ?_
  refine va_sld hx hb hX hbl hbA hS (l_in (k := 1) h0 h8 hL (by decide)) dL_law_748 ?_
  refine lv_aload_n hx hb dL_law_749 rfl (lv_at hl 4 rfl) ?_
  refine lv_iload hx hb dL_law_750 (lv_at hl 0 rfl) ?_
  refine lv_iconst (v := 2) hx hb dL_law_752 (by decide) ?_
  refine lv_iadd hx hb dL_law_753 ?_
  refine va_sld hx hb hX hbl hbA hS (l_in (k := 2) h0 h8 hL (by decide)) dL_law_754 ?_
  have hM9 := fun A' : Nat → Prop => g_X12_brief l E A' v (xs (i + 1 : Int32).toNatClampNeg) (xs (i + 2 : Int32).toNatClampNeg) hM.1 hM.2.2
  refine l_callM2 (As := [.int (xs (i + 1 : Int32).toNatClampNeg), .int (xs (i + 2 : Int32).toNatClampNeg)]) (st0 := [.int (xs (i + 2 : Int32).toNatClampNeg), .int (xs (i + 1 : Int32).toNatClampNeg), .ref (E.2.2 1299)]) (rest := []) (mc := 0) (ms := 0) (f := 31) hF hV hS hA 2 hM9 w_1573 w_1574 w_1575 w_107 w_1576 (by decide +kernel) ⟨Nat.le_of_ble_eq_true rfl, Nat.le_of_ble_eq_true rfl⟩ dL_law_755 rfl hl.1 rfl (Nat.le_of_ble_eq_true rfl) ⟨by omega, by omega⟩ (fun r6 v7 H locs h5 hV hS => ?_)
  have k8 : RM v7 := hM.b h5.1 h5.2.1 h5.2.2.1 (by decide)
  have d9 : RD u3 v7 := ⟨(h1.1.1.1 13 (by decide)).trans (hD.1.trans (h5.1.1 1230 (by decide)).symm), (h1.1.1.1 8 (by decide)).trans (hD.2.1.trans (h5.1.1 1232 (by decide)).symm), (h1.1.1.1 9 (by decide)).trans (hD.2.2.1.trans (h5.1.1 1239 (by decide)).symm), h1.2.trans h5.2.2.2.symm, (h1.1.1.1 10 (by decide)).trans (hD.2.2.2.2.1.trans (h5.1.1 1247 (by decide)).symm), (h1.1.1.1 11 (by decide)).trans (hD.2.2.2.2.2.1.trans (h5.1.1 1256 (by decide)).symm), (h1.1.1.1 14 (by decide)).trans (hD.2.2.2.2.2.2.1.trans (h5.1.1 1231 (by decide)).symm), (h1.1.1.1 16 (by decide)).trans (hD.2.2.2.2.2.2.2.1.trans (h5.1.1 1245 (by decide)).symm), (h1.1.1.1 17 (by decide)).trans (hD.2.2.2.2.2.2.2.2.1.trans (h5.1.1 1246 (by decide)).symm), (RV.v (u := u3) (hD.2.2.2.2.2.2.2.2.2.fr h1.1.1 (by decide) (by decide) (by decide) (fun _ _ => rfl)) (fun n hn => h5.1.2.1 n (by revert n; decide)))⟩
  refine lv_pop hx hb dL_law_758 rfl ?_
  refine lv_goto (tgt := 1535) hx hb dL_law_759 (by decide) ?_
  exact kk u3 v7 H locs ls _ _ (by omega) (by omega) hV hS k4 k8 d9 (lv_sub hl [0, 1, 2, 3, 4] rfl)
set_option maxHeartbeats 400000 in
set_option maxRecDepth 100000 in
theorem l_case10 {p : Program} {e : Env} {s : State} {m : MethodId} {below : List Frame} {meth : Method} {c : Code} (l : Launch) {b L : Nat} {xs : Nat → Int32} (C0 : lw_At p s m meth c b L xs) (hst : l.stackTraces = false) (E : qE) {o : Nat} (hX0 : qXs (fun q : Nat => s.heap.size ≤ q) s s.heap) (hZ0 : qZw (fun q : Nat => s.heap.size ≤ q) s s.heap) (hL : L ≤ 4096) {i : Int32} (h0 : 0 ≤ i.toInt) (h8 : i.toInt + 8 ≤ L) {u v : qS} {H : Heap} {locs : List Loc} {ls : Array Slot} {cells slots : Nat} (hc : cells + 2 ≤ room_1.cells) (hs : slots + 1004 ≤ room_1.slots) (hV : l_2 E (fun q : Nat => s.heap.size ≤ q) u v s H) (hS : va_S (fun q : Nat => s.heap.size ≤ q) s.heap H locs) (hC : RC E o u) (hM : RM v) (hD : RD u v) (hl : lv_has ls 7 [(4, .int i), (3, .ref o), (2, .ref (E.2.2 1299)), (1, .ref (E.2.2 1199)), (0, .ref b)])
    (kk : ∀ (u v : qS) (H : Heap) (locs : List Loc) (ls : Array Slot) (k n : Nat), k ≤ cells + 2 → n ≤ slots + 1004 → l_2 E (fun q : Nat => s.heap.size ≤ q) u v s H → va_S (fun q : Nat => s.heap.size ≤ q) s.heap H locs → RC E o u → RM v → RD u v → lv_has ls 7 [(4, .int i), (3, .ref o), (2, .ref (E.2.2 1299)), (1, .ref (E.2.2 1199)), (0, .ref b)] → W p l e room_1 s m #[Value.ref b] below meth c H locs k n (lw_Z below #[Value.ref b] s) (F0 m 1535 ls [])) : W p l e room_1 s m #[Value.ref b] below meth c H locs cells slots (lw_Z below #[Value.ref b] s) (F0 m 762 ls []) := by
  obtain ⟨hx, hb, hr, hml, hown, hts, hX, hbl, hlocks, hgv⟩ := id C0
  have hF : qX p m c code 7 s #[Value.ref b] "SecretBuyersLaw" := ⟨hx, hb, hml, hown, fun w h => hts w (qw_in h)⟩
  have hA : ∀ q : Nat, s.heap.size ≤ q → (fun q : Nat => s.heap.size ≤ q) q := fun _ h => h
  have hbA : ¬ (fun q : Nat => s.heap.size ≤ q) b := Nat.not_le.mpr hbl
  refine lv_aload_n hx hb dL_law_762 rfl (lv_at hl 3 rfl) ?_
  refine lv_aload_n hx hb dL_law_763 rfl (lv_at hl 4 rfl) ?_
  refine lv_iload hx hb dL_law_764 (lv_at hl 0 rfl) ?_
  refine lv_iconst (v := 1) hx hb dL_law_766 (by decide) ?_
  refine lv_iadd hx hb dL_law_767 ?_
  refine va_sld hx hb hX hbl hbA hS (l_in (k := 1) h0 h8 hL (by decide)) dL_law_768 ?_
  refine lv_aload_n hx hb dL_law_769 rfl (lv_at hl 4 rfl) ?_
  refine lv_iload hx hb dL_law_770 (lv_at hl 0 rfl) ?_
  refine lv_iconst (v := 2) hx hb dL_law_772 (by decide) ?_
  refine lv_iadd hx hb dL_law_773 ?_
  refine va_sld hx hb hX hbl hbA hS (l_in (k := 2) h0 h8 hL (by decide)) dL_law_774 ?_
  refine lv_aload_n hx hb dL_law_775 rfl (lv_at hl 1 rfl) ?_
  have hM9 := fun A' : Nat → Prop => g_L_look l hst E A' u o (xs (i + 1 : Int32).toNatClampNeg) (xs (i + 2 : Int32).toNatClampNeg) hC
  refine l_callL2 (As := [.ref (E.2.2 1199), .int (xs (i + 1 : Int32).toNatClampNeg), .int (xs (i + 2 : Int32).toNatClampNeg), .ref o]) (st0 := [.ref o, .int (xs (i + 2 : Int32).toNatClampNeg), .int (xs (i + 1 : Int32).toNatClampNeg), .ref (E.2.2 1199)]) (rest := []) (mc := 1) (ms := 6) (f := 13) hF hV hS hA (hX0.kept (fun a h1 h2 => hS.2.1 a h1 h2)) 4 hM9 w_1191 w_1192 w_98 w_1193 (by decide +kernel) ⟨Nat.le_of_ble_eq_true rfl, Nat.le_of_ble_eq_true rfl⟩ dL_law_776 rfl hl.1 rfl (Nat.le_of_ble_eq_true rfl) ⟨by omega, by omega⟩ (fun r1 u3 H locs h2 hV hS => ?_)
  refine lv_istore (lv' := [(5, .int r1), (4, .int i), (3, .ref o), (2, .ref (E.2.2 1299)), (1, .ref (E.2.2 1199)), (0, .ref b)]) hx hb dL_law_779 hl (by decide) rfl (fun ls hl => ?_)
  refine lv_aload_n hx hb dL_law_781 rfl (lv_at hl 3 rfl) ?_
  refine lv_aload_n hx hb dL_law_782 rfl (lv_at hl 5 rfl) ?_
  refine lv_iload hx hb dL_law_783 (lv_at hl 1 rfl) ?_
  refine lv_iconst (v := 1) hx hb dL_law_785 (by decide) ?_
  refine lv_iadd hx hb dL_law_786 ?_
  refine va_sld hx hb hX hbl hbA hS (l_in (k := 1) h0 h8 hL (by decide)) dL_law_787 ?_
  refine lv_aload_n hx hb dL_law_788 rfl (lv_at hl 5 rfl) ?_
  refine lv_iload hx hb dL_law_789 (lv_at hl 1 rfl) ?_
  refine lv_iconst (v := 2) hx hb dL_law_791 (by decide) ?_
  refine lv_iadd hx hb dL_law_792 ?_
  refine va_sld hx hb hX hbl hbA hS (l_in (k := 2) h0 h8 hL (by decide)) dL_law_793 ?_
  have hM9 := fun A' : Nat → Prop => g_X12_look l E A' v (xs (i + 1 : Int32).toNatClampNeg) (xs (i + 2 : Int32).toNatClampNeg) hM.1 hM.2.1
  refine l_callM2 (As := [.int (xs (i + 1 : Int32).toNatClampNeg), .int (xs (i + 2 : Int32).toNatClampNeg)]) (st0 := [.int (xs (i + 2 : Int32).toNatClampNeg), .int (xs (i + 1 : Int32).toNatClampNeg), .ref (E.2.2 1299)]) (rest := []) (mc := 0) (ms := 0) (f := 4) hF hV hS hA 2 hM9 w_1726 w_1727 w_1728 w_107 w_1729 (by decide +kernel) ⟨Nat.le_of_ble_eq_true rfl, Nat.le_of_ble_eq_true rfl⟩ dL_law_794 rfl hl.1 rfl (Nat.le_of_ble_eq_true rfl) ⟨by omega, by omega⟩ (fun r5 v6 H locs h4 hV hS => ?_)
  have k7 : RM v6 := hM.q h4.1 (by decide) (by decide) h4.2
  have d8 : RD u3 v6 := hD.k (h2.1 13 (by decide)) (h2.1 8 (by decide)) (h2.1 9 (by decide)) (h4.1.1 1230 (by decide)) (h4.1.1 1232 (by decide)) (h4.1.1 1239 (by decide)) (h2.1 801 (by decide)) (h4.1.1 1202 (by decide)) (h2.1 10 (by decide)) (h4.1.1 1247 (by decide)) (h2.1 11 (by decide)) (h4.1.1 1256 (by decide)) (h2.1 14 (by decide)) (h4.1.1 1231 (by decide)) (h2.1 16 (by decide)) (h4.1.1 1245 (by decide)) (h2.1 17 (by decide)) (h4.1.1 1246 (by decide)) (RV.v (u := u3) (h2.2.1 _ hD.2.2.2.2.2.2.2.2.2) (fun n hn => h4.1.2.1 n (by revert n; decide)))
  refine lv_istore (lv' := [(6, .int r5), (5, .int r1), (4, .int i), (3, .ref o), (2, .ref (E.2.2 1299)), (1, .ref (E.2.2 1199)), (0, .ref b)]) hx hb dL_law_797 hl (by decide) rfl (fun ls hl => ?_)
  refine lv_goto (tgt := 1535) hx hb dL_law_799 (by decide) ?_
  exact kk u3 v6 H locs ls _ _ (by omega) (by omega) hV hS h2.2.2 k7 d8 (lv_sub hl [2, 3, 4, 5, 6] rfl)
set_option maxHeartbeats 400000 in
set_option maxRecDepth 100000 in
theorem l_case11 {p : Program} {e : Env} {s : State} {m : MethodId} {below : List Frame} {meth : Method} {c : Code} (l : Launch) {b L : Nat} {xs : Nat → Int32} (C0 : lw_At p s m meth c b L xs) (hst : l.stackTraces = false) (E : qE) {o : Nat} (hX0 : qXs (fun q : Nat => s.heap.size ≤ q) s s.heap) (hZ0 : qZw (fun q : Nat => s.heap.size ≤ q) s s.heap) (hL : L ≤ 4096) {i : Int32} (h0 : 0 ≤ i.toInt) (h8 : i.toInt + 8 ≤ L) {u v : qS} {H : Heap} {locs : List Loc} {ls : Array Slot} {cells slots : Nat} (hc : cells + 2 ≤ room_1.cells) (hs : slots + 1004 ≤ room_1.slots) (hV : l_2 E (fun q : Nat => s.heap.size ≤ q) u v s H) (hS : va_S (fun q : Nat => s.heap.size ≤ q) s.heap H locs) (hC : RC E o u) (hM : RM v) (hD : RD u v) (hl : lv_has ls 7 [(4, .int i), (3, .ref o), (2, .ref (E.2.2 1299)), (1, .ref (E.2.2 1199)), (0, .ref b)])
    (kk : ∀ (u v : qS) (H : Heap) (locs : List Loc) (ls : Array Slot) (k n : Nat), k ≤ cells + 2 → n ≤ slots + 1004 → l_2 E (fun q : Nat => s.heap.size ≤ q) u v s H → va_S (fun q : Nat => s.heap.size ≤ q) s.heap H locs → RC E o u → RM v → RD u v → lv_has ls 7 [(4, .int i), (3, .ref o), (2, .ref (E.2.2 1299)), (1, .ref (E.2.2 1199)), (0, .ref b)] → W p l e room_1 s m #[Value.ref b] below meth c H locs k n (lw_Z below #[Value.ref b] s) (F0 m 1535 ls [])) : W p l e room_1 s m #[Value.ref b] below meth c H locs cells slots (lw_Z below #[Value.ref b] s) (F0 m 802 ls []) := by
  obtain ⟨hx, hb, hr, hml, hown, hts, hX, hbl, hlocks, hgv⟩ := id C0
  have hF : qX p m c code 7 s #[Value.ref b] "SecretBuyersLaw" := ⟨hx, hb, hml, hown, fun w h => hts w (qw_in h)⟩
  have hA : ∀ q : Nat, s.heap.size ≤ q → (fun q : Nat => s.heap.size ≤ q) q := fun _ h => h
  have hbA : ¬ (fun q : Nat => s.heap.size ≤ q) b := Nat.not_le.mpr hbl
  refine lv_aload_n hx hb dL_law_802 rfl (lv_at hl 3 rfl) ?_
  refine lv_aload_n hx hb dL_law_803 rfl (lv_at hl 4 rfl) ?_
  refine lv_iload hx hb dL_law_804 (lv_at hl 0 rfl) ?_
  refine lv_iconst (v := 1) hx hb dL_law_806 (by decide) ?_
  refine lv_iadd hx hb dL_law_807 ?_
  refine va_sld hx hb hX hbl hbA hS (l_in (k := 1) h0 h8 hL (by decide)) dL_law_808 ?_
  refine lv_aload_n hx hb dL_law_809 rfl (lv_at hl 1 rfl) ?_
  have hM9 := fun A' : Nat → Prop => g_L_fair l hst E A' u o (xs (i + 1 : Int32).toNatClampNeg) hC
  refine l_callL2 (As := [.ref (E.2.2 1199), .int (xs (i + 1 : Int32).toNatClampNeg), .ref o]) (st0 := [.ref o, .int (xs (i + 1 : Int32).toNatClampNeg), .ref (E.2.2 1199)]) (rest := []) (mc := 1) (ms := 6) (f := 13) hF hV hS hA (hX0.kept (fun a h1 h2 => hS.2.1 a h1 h2)) 3 hM9 w_1268 w_1269 w_98 w_1270 (by decide +kernel) ⟨Nat.le_of_ble_eq_true rfl, Nat.le_of_ble_eq_true rfl⟩ dL_law_810 rfl hl.1 rfl (Nat.le_of_ble_eq_true rfl) ⟨by omega, by omega⟩ (fun r1 u3 H locs h2 hV hS => ?_)
  refine lv_istore (lv' := [(5, .int r1), (4, .int i), (3, .ref o), (2, .ref (E.2.2 1299)), (1, .ref (E.2.2 1199)), (0, .ref b)]) hx hb dL_law_813 hl (by decide) rfl (fun ls hl => ?_)
  refine lv_aload_n hx hb dL_law_815 rfl (lv_at hl 3 rfl) ?_
  refine lv_aload_n hx hb dL_law_816 rfl (lv_at hl 5 rfl) ?_
  refine lv_iload hx hb dL_law_817 (lv_at hl 1 rfl) ?_
  refine lv_iconst (v := 1) hx hb dL_law_819 (by decide) ?_
  refine lv_iadd hx hb dL_law_820 ?_
  refine va_sld hx hb hX hbl hbA hS (l_in (k := 1) h0 h8 hL (by decide)) dL_law_821 ?_
  have hM9 := fun A' : Nat → Prop => g_X12_fair l E A' v (xs (i + 1 : Int32).toNatClampNeg) hM.1 hM.2.1
  refine l_callM2 (As := [.int (xs (i + 1 : Int32).toNatClampNeg)]) (st0 := [.int (xs (i + 1 : Int32).toNatClampNeg), .ref (E.2.2 1299)]) (rest := []) (mc := 0) (ms := 0) (f := 5) hF hV hS hA 1 hM9 w_1813 w_1814 w_1815 w_107 w_1816 (by decide +kernel) ⟨Nat.le_of_ble_eq_true rfl, Nat.le_of_ble_eq_true rfl⟩ dL_law_822 rfl hl.1 rfl (Nat.le_of_ble_eq_true rfl) ⟨by omega, by omega⟩ (fun r5 v6 H locs h4 hV hS => ?_)
  have k7 : RM v6 := hM.q h4.1 (by decide) (by decide) h4.2
  have d8 : RD u3 v6 := hD.k (h2.1 13 (by decide)) (h2.1 8 (by decide)) (h2.1 9 (by decide)) (h4.1.1 1230 (by decide)) (h4.1.1 1232 (by decide)) (h4.1.1 1239 (by decide)) (h2.1 801 (by decide)) (h4.1.1 1202 (by decide)) (h2.1 10 (by decide)) (h4.1.1 1247 (by decide)) (h2.1 11 (by decide)) (h4.1.1 1256 (by decide)) (h2.1 14 (by decide)) (h4.1.1 1231 (by decide)) (h2.1 16 (by decide)) (h4.1.1 1245 (by decide)) (h2.1 17 (by decide)) (h4.1.1 1246 (by decide)) (RV.v (u := u3) (h2.2.1 _ hD.2.2.2.2.2.2.2.2.2) (fun n hn => h4.1.2.1 n (by revert n; decide)))
  refine lv_istore (lv' := [(6, .int r5), (5, .int r1), (4, .int i), (3, .ref o), (2, .ref (E.2.2 1299)), (1, .ref (E.2.2 1199)), (0, .ref b)]) hx hb dL_law_825 hl (by decide) rfl (fun ls hl => ?_)
  refine lv_goto (tgt := 1535) hx hb dL_law_827 (by decide) ?_
  exact kk u3 v6 H locs ls _ _ (by omega) (by omega) hV hS h2.2.2 k7 d8 (lv_sub hl [2, 3, 4, 5, 6] rfl)
set_option maxHeartbeats 400000 in
set_option maxRecDepth 100000 in
theorem l_case12 {p : Program} {e : Env} {s : State} {m : MethodId} {below : List Frame} {meth : Method} {c : Code} (l : Launch) {b L : Nat} {xs : Nat → Int32} (C0 : lw_At p s m meth c b L xs) (hst : l.stackTraces = false) (E : qE) {o : Nat} (hX0 : qXs (fun q : Nat => s.heap.size ≤ q) s s.heap) (hZ0 : qZw (fun q : Nat => s.heap.size ≤ q) s s.heap) (hL : L ≤ 4096) {i : Int32} (h0 : 0 ≤ i.toInt) (h8 : i.toInt + 8 ≤ L) {u v : qS} {H : Heap} {locs : List Loc} {ls : Array Slot} {cells slots : Nat} (hc : cells + 2 ≤ room_1.cells) (hs : slots + 1004 ≤ room_1.slots) (hV : l_2 E (fun q : Nat => s.heap.size ≤ q) u v s H) (hS : va_S (fun q : Nat => s.heap.size ≤ q) s.heap H locs) (hC : RC E o u) (hM : RM v) (hD : RD u v) (hl : lv_has ls 7 [(4, .int i), (3, .ref o), (2, .ref (E.2.2 1299)), (1, .ref (E.2.2 1199)), (0, .ref b)])
    (kk : ∀ (u v : qS) (H : Heap) (locs : List Loc) (ls : Array Slot) (k n : Nat), k ≤ cells + 2 → n ≤ slots + 1004 → l_2 E (fun q : Nat => s.heap.size ≤ q) u v s H → va_S (fun q : Nat => s.heap.size ≤ q) s.heap H locs → RC E o u → RM v → RD u v → lv_has ls 7 [(4, .int i), (3, .ref o), (2, .ref (E.2.2 1299)), (1, .ref (E.2.2 1199)), (0, .ref b)] → W p l e room_1 s m #[Value.ref b] below meth c H locs k n (lw_Z below #[Value.ref b] s) (F0 m 1535 ls [])) : W p l e room_1 s m #[Value.ref b] below meth c H locs cells slots (lw_Z below #[Value.ref b] s) (F0 m 830 ls []) := by
  obtain ⟨hx, hb, hr, hml, hown, hts, hX, hbl, hlocks, hgv⟩ := id C0
  have hF : qX p m c code 7 s #[Value.ref b] "SecretBuyersLaw" := ⟨hx, hb, hml, hown, fun w h => hts w (qw_in h)⟩
  have hA : ∀ q : Nat, s.heap.size ≤ q → (fun q : Nat => s.heap.size ≤ q) q := fun _ h => h
  have hbA : ¬ (fun q : Nat => s.heap.size ≤ q) b := Nat.not_le.mpr hbl
  refine lv_aload_n hx hb dL_law_830 rfl (lv_at hl 3 rfl) ?_
  refine lv_aload_n hx hb dL_law_831 rfl (lv_at hl 4 rfl) ?_
  refine lv_iload hx hb dL_law_832 (lv_at hl 0 rfl) ?_
  refine lv_iconst (v := 1) hx hb dL_law_834 (by decide) ?_
  refine lv_iadd hx hb dL_law_835 ?_
  refine va_sld hx hb hX hbl hbA hS (l_in (k := 1) h0 h8 hL (by decide)) dL_law_836 ?_
  refine lv_aload_n hx hb dL_law_837 rfl (lv_at hl 4 rfl) ?_
  refine lv_iload hx hb dL_law_838 (lv_at hl 0 rfl) ?_
  refine lv_iconst (v := 2) hx hb dL_law_840 (by decide) ?_
  refine lv_iadd hx hb dL_law_841 ?_
  refine va_sld hx hb hX hbl hbA hS (l_in (k := 2) h0 h8 hL (by decide)) dL_law_842 ?_
  have hM9 := fun A' : Nat → Prop => g_X11_fewest l E A' u (xs (i + 1 : Int32).toNatClampNeg) (xs (i + 2 : Int32).toNatClampNeg) hC.1
  refine l_callC2 (As := [.int (xs (i + 1 : Int32).toNatClampNeg), .int (xs (i + 2 : Int32).toNatClampNeg)]) (st0 := [.int (xs (i + 2 : Int32).toNatClampNeg), .int (xs (i + 1 : Int32).toNatClampNeg), .ref (E.2.2 1199)]) (rest := []) (mc := 0) (ms := 0) (f := 7) hF hV hS hA 2 hM9 w_839 w_840 w_841 w_99 w_842 (by decide +kernel) ⟨Nat.le_of_ble_eq_true rfl, Nat.le_of_ble_eq_true rfl⟩ dL_law_843 rfl hl.1 rfl (Nat.le_of_ble_eq_true rfl) ⟨by omega, by omega⟩ (fun r2 u3 H locs h1 hV hS => ?_)
  have k4 : RC E o u3 := hC.f h1.1.1 h1.1.2
  refine lv_pop hx hb dL_law_846 rfl ?_
  refine lv_aload_n hx hb dL_law_847 rfl (lv_at hl 2 rfl) ?_
  refine lv_aload_n hx hb dL_law_848 rfl (lv_at hl 4 rfl) ?_
  refine lv_iload hx hb dL_law_849 (lv_at hl 0 rfl) ?_
  refine lv_iconst (v := 1) hx hb dL_law_851 (by decide) ?_
  refine lv_iadd hx hb dL_law_852 ?_
  refine va_sld hx hb hX hbl hbA hS (l_in (k := 1) h0 h8 hL (by decide)) dL_law_853 ?_
  refine lv_aload_n hx hb dL_law_854 rfl (lv_at hl 4 rfl) ?_
  refine lv_iload hx hb dL_law_855 (lv_at hl 0 rfl) ?_
  refine lv_iconst (v := 2) hx hb dL_law_857 (by decide) ?_
  refine lv_iadd hx hb dL_law_858 ?_
  refine va_sld hx hb hX hbl hbA hS (l_in (k := 2) h0 h8 hL (by decide)) dL_law_859 ?_
  have hM9 := fun A' : Nat → Prop => g_X12_fewest l E A' v (xs (i + 1 : Int32).toNatClampNeg) (xs (i + 2 : Int32).toNatClampNeg) hM.1 hM.2.1
  refine l_callM2 (As := [.int (xs (i + 1 : Int32).toNatClampNeg), .int (xs (i + 2 : Int32).toNatClampNeg)]) (st0 := [.int (xs (i + 2 : Int32).toNatClampNeg), .int (xs (i + 1 : Int32).toNatClampNeg), .ref (E.2.2 1299)]) (rest := []) (mc := 0) (ms := 0) (f := 4) hF hV hS hA 2 hM9 w_1802 w_1803 w_1804 w_107 w_1805 (by decide +kernel) ⟨Nat.le_of_ble_eq_true rfl, Nat.le_of_ble_eq_true rfl⟩ dL_law_860 rfl hl.1 rfl (Nat.le_of_ble_eq_true rfl) ⟨by omega, by omega⟩ (fun r6 v7 H locs h5 hV hS => ?_)
  have k8 : RM v7 := hM.q h5.1 (by decide) (by decide) h5.2
  have d9 : RD u3 v7 := hD.k (h1.1.1.1 13 (by decide)) (h1.1.1.1 8 (by decide)) (h1.1.1.1 9 (by decide)) (h5.1.1 1230 (by decide)) (h5.1.1 1232 (by decide)) (h5.1.1 1239 (by decide)) (h1.1.1.1 801 (by decide)) (h5.1.1 1202 (by decide)) (h1.1.1.1 10 (by decide)) (h5.1.1 1247 (by decide)) (h1.1.1.1 11 (by decide)) (h5.1.1 1256 (by decide)) (h1.1.1.1 14 (by decide)) (h5.1.1 1231 (by decide)) (h1.1.1.1 16 (by decide)) (h5.1.1 1245 (by decide)) (h1.1.1.1 17 (by decide)) (h5.1.1 1246 (by decide)) (RV.v (u := u3) (hD.2.2.2.2.2.2.2.2.2.fr h1.1.1 (by decide) (by decide) (by decide) (fun _ _ => rfl)) (fun n hn => h5.1.2.1 n (by revert n; decide)))
  refine lv_pop hx hb dL_law_863 rfl ?_
  refine lv_goto (tgt := 1535) hx hb dL_law_864 (by decide) ?_
  exact kk u3 v7 H locs ls _ _ (by omega) (by omega) hV hS k4 k8 d9 (lv_sub hl [0, 1, 2, 3, 4] rfl)
set_option maxHeartbeats 400000 in
set_option maxRecDepth 100000 in
theorem l_case13 {p : Program} {e : Env} {s : State} {m : MethodId} {below : List Frame} {meth : Method} {c : Code} (l : Launch) {b L : Nat} {xs : Nat → Int32} (C0 : lw_At p s m meth c b L xs) (hst : l.stackTraces = false) (E : qE) {o : Nat} (hX0 : qXs (fun q : Nat => s.heap.size ≤ q) s s.heap) (hZ0 : qZw (fun q : Nat => s.heap.size ≤ q) s s.heap) (hL : L ≤ 4096) {i : Int32} (h0 : 0 ≤ i.toInt) (h8 : i.toInt + 8 ≤ L) {u v : qS} {H : Heap} {locs : List Loc} {ls : Array Slot} {cells slots : Nat} (hc : cells + 2 ≤ room_1.cells) (hs : slots + 1004 ≤ room_1.slots) (hV : l_2 E (fun q : Nat => s.heap.size ≤ q) u v s H) (hS : va_S (fun q : Nat => s.heap.size ≤ q) s.heap H locs) (hC : RC E o u) (hM : RM v) (hD : RD u v) (hl : lv_has ls 7 [(4, .int i), (3, .ref o), (2, .ref (E.2.2 1299)), (1, .ref (E.2.2 1199)), (0, .ref b)])
    (kk : ∀ (u v : qS) (H : Heap) (locs : List Loc) (ls : Array Slot) (k n : Nat), k ≤ cells + 2 → n ≤ slots + 1004 → l_2 E (fun q : Nat => s.heap.size ≤ q) u v s H → va_S (fun q : Nat => s.heap.size ≤ q) s.heap H locs → RC E o u → RM v → RD u v → lv_has ls 7 [(4, .int i), (3, .ref o), (2, .ref (E.2.2 1299)), (1, .ref (E.2.2 1199)), (0, .ref b)] → W p l e room_1 s m #[Value.ref b] below meth c H locs k n (lw_Z below #[Value.ref b] s) (F0 m 1535 ls [])) : W p l e room_1 s m #[Value.ref b] below meth c H locs cells slots (lw_Z below #[Value.ref b] s) (F0 m 867 ls []) := by
  obtain ⟨hx, hb, hr, hml, hown, hts, hX, hbl, hlocks, hgv⟩ := id C0
  have hF : qX p m c code 7 s #[Value.ref b] "SecretBuyersLaw" := ⟨hx, hb, hml, hown, fun w h => hts w (qw_in h)⟩
  have hA : ∀ q : Nat, s.heap.size ≤ q → (fun q : Nat => s.heap.size ≤ q) q := fun _ h => h
  have hbA : ¬ (fun q : Nat => s.heap.size ≤ q) b := Nat.not_le.mpr hbl
  refine lv_aload_n hx hb dL_law_867 rfl (lv_at hl 3 rfl) ?_
  refine lv_aload_n hx hb dL_law_868 rfl (lv_at hl 4 rfl) ?_
  refine lv_iload hx hb dL_law_869 (lv_at hl 0 rfl) ?_
  refine lv_iconst (v := 1) hx hb dL_law_871 (by decide) ?_
  refine lv_iadd hx hb dL_law_872 ?_
  refine va_sld hx hb hX hbl hbA hS (l_in (k := 1) h0 h8 hL (by decide)) dL_law_873 ?_
  refine lv_aload_n hx hb dL_law_874 rfl (lv_at hl 4 rfl) ?_
  refine lv_iload hx hb dL_law_875 (lv_at hl 0 rfl) ?_
  refine lv_iconst (v := 2) hx hb dL_law_877 (by decide) ?_
  refine lv_iadd hx hb dL_law_878 ?_
  refine va_sld hx hb hX hbl hbA hS (l_in (k := 2) h0 h8 hL (by decide)) dL_law_879 ?_
  refine lv_aload_n hx hb dL_law_880 rfl (lv_at hl 4 rfl) ?_
  refine lv_iload hx hb dL_law_881 (lv_at hl 0 rfl) ?_
  refine lv_iconst (v := 3) hx hb dL_law_883 (by decide) ?_
  refine lv_iadd hx hb dL_law_884 ?_
  refine va_sld hx hb hX hbl hbA hS (l_in (k := 3) h0 h8 hL (by decide)) dL_law_885 ?_
  have hM9 := fun A' : Nat → Prop => g_X11_set l E A' u (xs (i + 1 : Int32).toNatClampNeg) (xs (i + 2 : Int32).toNatClampNeg) (xs (i + 3 : Int32).toNatClampNeg) hC.1
  refine l_callC2 (As := [.int (xs (i + 1 : Int32).toNatClampNeg), .int (xs (i + 2 : Int32).toNatClampNeg), .int (xs (i + 3 : Int32).toNatClampNeg)]) (st0 := [.int (xs (i + 3 : Int32).toNatClampNeg), .int (xs (i + 2 : Int32).toNatClampNeg), .int (xs (i + 1 : Int32).toNatClampNeg), .ref (E.2.2 1199)]) (rest := []) (mc := 0) (ms := 0) (f := 7) hF hV hS hA 3 hM9 w_915 w_916 w_917 w_99 w_918 (by decide +kernel) ⟨Nat.le_of_ble_eq_true rfl, Nat.le_of_ble_eq_true rfl⟩ dL_law_886 rfl hl.1 rfl (Nat.le_of_ble_eq_true rfl) ⟨by omega, by omega⟩ (fun r2 u3 H locs h1 hV hS => ?_)
  have k4 : RC E o u3 := hC.f h1.1.1 h1.1.2
  refine lv_pop hx hb dL_law_889 rfl ?_
  refine lv_aload_n hx hb dL_law_890 rfl (lv_at hl 2 rfl) ?_
  refine lv_aload_n hx hb dL_law_891 rfl (lv_at hl 4 rfl) ?_
  refine lv_iload hx hb dL_law_892 (lv_at hl 0 rfl) ?_
  refine lv_iconst (v := 1) hx hb dL_law_894 (by decide) ?_
  refine lv_iadd hx hb dL_law_895 ?_
  refine va_sld hx hb hX hbl hbA hS (l_in (k := 1) h0 h8 hL (by decide)) dL_law_896 ?_
  refine lv_aload_n hx hb dL_law_897 rfl (lv_at hl 4 rfl) ?_
  refine lv_iload hx hb dL_law_898 (lv_at hl 0 rfl) ?_
  refine lv_iconst (v := 2) hx hb dL_law_900 (by decide) ?_
  refine lv_iadd hx hb dL_law_901 ?_
  refine va_sld hx hb hX hbl hbA hS (l_in (k := 2) h0 h8 hL (by decide)) dL_law_902 ?_
  refine lv_aload_n hx hb dL_law_903 rfl (lv_at hl 4 rfl) ?_
  refine lv_iload hx hb dL_law_904 (lv_at hl 0 rfl) ?_
  refine lv_iconst (v := 3) hx hb dL_law_906 (by decide) ?_
  refine lv_iadd hx hb dL_law_907 ?_
  refine va_sld hx hb hX hbl hbA hS (l_in (k := 3) h0 h8 hL (by decide)) dL_law_908 ?_
  have hM9 := fun A' : Nat → Prop => g_X12_set l E A' v (xs (i + 1 : Int32).toNatClampNeg) (xs (i + 2 : Int32).toNatClampNeg) (xs (i + 3 : Int32).toNatClampNeg) hM.1 hM.2.1
  refine l_callM2 (As := [.int (xs (i + 1 : Int32).toNatClampNeg), .int (xs (i + 2 : Int32).toNatClampNeg), .int (xs (i + 3 : Int32).toNatClampNeg)]) (st0 := [.int (xs (i + 3 : Int32).toNatClampNeg), .int (xs (i + 2 : Int32).toNatClampNeg), .int (xs (i + 1 : Int32).toNatClampNeg), .ref (E.2.2 1299)]) (rest := []) (mc := 0) (ms := 0) (f := 4) hF hV hS hA 3 hM9 w_1809 w_1810 w_1811 w_107 w_1812 (by decide +kernel) ⟨Nat.le_of_ble_eq_true rfl, Nat.le_of_ble_eq_true rfl⟩ dL_law_909 rfl hl.1 rfl (Nat.le_of_ble_eq_true rfl) ⟨by omega, by omega⟩ (fun r6 v7 H locs h5 hV hS => ?_)
  have k8 : RM v7 := hM.q h5.1 (by decide) (by decide) h5.2
  have d9 : RD u3 v7 := hD.k (h1.1.1.1 13 (by decide)) (h1.1.1.1 8 (by decide)) (h1.1.1.1 9 (by decide)) (h5.1.1 1230 (by decide)) (h5.1.1 1232 (by decide)) (h5.1.1 1239 (by decide)) (h1.1.1.1 801 (by decide)) (h5.1.1 1202 (by decide)) (h1.1.1.1 10 (by decide)) (h5.1.1 1247 (by decide)) (h1.1.1.1 11 (by decide)) (h5.1.1 1256 (by decide)) (h1.1.1.1 14 (by decide)) (h5.1.1 1231 (by decide)) (h1.1.1.1 16 (by decide)) (h5.1.1 1245 (by decide)) (h1.1.1.1 17 (by decide)) (h5.1.1 1246 (by decide)) (RV.v (u := u3) (hD.2.2.2.2.2.2.2.2.2.fr h1.1.1 (by decide) (by decide) (by decide) (fun _ _ => rfl)) (fun n hn => h5.1.2.1 n (by revert n; decide)))
  refine lv_pop hx hb dL_law_912 rfl ?_
  refine lv_goto (tgt := 1535) hx hb dL_law_913 (by decide) ?_
  exact kk u3 v7 H locs ls _ _ (by omega) (by omega) hV hS k4 k8 d9 (lv_sub hl [0, 1, 2, 3, 4] rfl)
set_option maxHeartbeats 400000 in
set_option maxRecDepth 100000 in
theorem l_case14 {p : Program} {e : Env} {s : State} {m : MethodId} {below : List Frame} {meth : Method} {c : Code} (l : Launch) {b L : Nat} {xs : Nat → Int32} (C0 : lw_At p s m meth c b L xs) (hst : l.stackTraces = false) (E : qE) {o : Nat} (hX0 : qXs (fun q : Nat => s.heap.size ≤ q) s s.heap) (hZ0 : qZw (fun q : Nat => s.heap.size ≤ q) s s.heap) (hL : L ≤ 4096) {i : Int32} (h0 : 0 ≤ i.toInt) (h8 : i.toInt + 8 ≤ L) {u v : qS} {H : Heap} {locs : List Loc} {ls : Array Slot} {cells slots : Nat} (hc : cells + 2 ≤ room_1.cells) (hs : slots + 1004 ≤ room_1.slots) (hV : l_2 E (fun q : Nat => s.heap.size ≤ q) u v s H) (hS : va_S (fun q : Nat => s.heap.size ≤ q) s.heap H locs) (hC : RC E o u) (hM : RM v) (hD : RD u v) (hl : lv_has ls 7 [(4, .int i), (3, .ref o), (2, .ref (E.2.2 1299)), (1, .ref (E.2.2 1199)), (0, .ref b)])
    (kk : ∀ (u v : qS) (H : Heap) (locs : List Loc) (ls : Array Slot) (k n : Nat), k ≤ cells + 2 → n ≤ slots + 1004 → l_2 E (fun q : Nat => s.heap.size ≤ q) u v s H → va_S (fun q : Nat => s.heap.size ≤ q) s.heap H locs → RC E o u → RM v → RD u v → lv_has ls 7 [(4, .int i), (3, .ref o), (2, .ref (E.2.2 1299)), (1, .ref (E.2.2 1199)), (0, .ref b)] → W p l e room_1 s m #[Value.ref b] below meth c H locs k n (lw_Z below #[Value.ref b] s) (F0 m 1535 ls [])) : W p l e room_1 s m #[Value.ref b] below meth c H locs cells slots (lw_Z below #[Value.ref b] s) (F0 m 916 ls []) := by
  obtain ⟨hx, hb, hr, hml, hown, hts, hX, hbl, hlocks, hgv⟩ := id C0
  have hF : qX p m c code 7 s #[Value.ref b] "SecretBuyersLaw" := ⟨hx, hb, hml, hown, fun w h => hts w (qw_in h)⟩
  have hA : ∀ q : Nat, s.heap.size ≤ q → (fun q : Nat => s.heap.size ≤ q) q := fun _ h => h
  have hbA : ¬ (fun q : Nat => s.heap.size ≤ q) b := Nat.not_le.mpr hbl
  refine lv_aload_n hx hb dL_law_916 rfl (lv_at hl 3 rfl) ?_
  refine lv_aload_n hx hb dL_law_917 rfl (lv_at hl 4 rfl) ?_
  refine lv_iload hx hb dL_law_918 (lv_at hl 0 rfl) ?_
  refine lv_iconst (v := 1) hx hb dL_law_920 (by decide) ?_
  refine lv_iadd hx hb dL_law_921 ?_
  refine va_sld hx hb hX hbl hbA hS (l_in (k := 1) h0 h8 hL (by decide)) dL_law_922 ?_
  refine lv_aload_n hx hb dL_law_923 rfl (lv_at hl 1 rfl) ?_
  have hM9 := fun A' : Nat → Prop => g_L_lean l hst E A' u o (xs (i + 1 : Int32).toNatClampNeg) hC
  refine l_callL2 (As := [.ref (E.2.2 1199), .int (xs (i + 1 : Int32).toNatClampNeg), .ref o]) (st0 := [.ref o, .int (xs (i + 1 : Int32).toNatClampNeg), .ref (E.2.2 1199)]) (rest := []) (mc := 1) (ms := 6) (f := 13) hF hV hS hA (hX0.kept (fun a h1 h2 => hS.2.1 a h1 h2)) 3 hM9 w_1277 w_1278 w_98 w_1279 (by decide +kernel) ⟨Nat.le_of_ble_eq_true rfl, Nat.le_of_ble_eq_true rfl⟩ dL_law_924 rfl hl.1 rfl (Nat.le_of_ble_eq_true rfl) ⟨by omega, by omega⟩ (fun r1 u3 H locs h2 hV hS => ?_)
  refine lv_istore (lv' := [(5, .int r1), (4, .int i), (3, .ref o), (2, .ref (E.2.2 1299)), (1, .ref (E.2.2 1199)), (0, .ref b)]) hx hb dL_law_927 hl (by decide) rfl (fun ls hl => ?_)
  refine lv_aload_n hx hb dL_law_929 rfl (lv_at hl 3 rfl) ?_
  refine lv_aload_n hx hb dL_law_930 rfl (lv_at hl 5 rfl) ?_
  refine lv_iload hx hb dL_law_931 (lv_at hl 1 rfl) ?_
  refine lv_iconst (v := 1) hx hb dL_law_933 (by decide) ?_
  refine lv_iadd hx hb dL_law_934 ?_
  refine va_sld hx hb hX hbl hbA hS (l_in (k := 1) h0 h8 hL (by decide)) dL_law_935 ?_
  have hM9 := fun A' : Nat → Prop => g_X12_lean l E A' v (xs (i + 1 : Int32).toNatClampNeg) hM.1 hM.2.1
  refine l_callM2 (As := [.int (xs (i + 1 : Int32).toNatClampNeg)]) (st0 := [.int (xs (i + 1 : Int32).toNatClampNeg), .ref (E.2.2 1299)]) (rest := []) (mc := 0) (ms := 0) (f := 5) hF hV hS hA 1 hM9 w_1829 w_1830 w_1831 w_107 w_1832 (by decide +kernel) ⟨Nat.le_of_ble_eq_true rfl, Nat.le_of_ble_eq_true rfl⟩ dL_law_936 rfl hl.1 rfl (Nat.le_of_ble_eq_true rfl) ⟨by omega, by omega⟩ (fun r5 v6 H locs h4 hV hS => ?_)
  have k7 : RM v6 := hM.q h4.1 (by decide) (by decide) h4.2
  have d8 : RD u3 v6 := hD.k (h2.1 13 (by decide)) (h2.1 8 (by decide)) (h2.1 9 (by decide)) (h4.1.1 1230 (by decide)) (h4.1.1 1232 (by decide)) (h4.1.1 1239 (by decide)) (h2.1 801 (by decide)) (h4.1.1 1202 (by decide)) (h2.1 10 (by decide)) (h4.1.1 1247 (by decide)) (h2.1 11 (by decide)) (h4.1.1 1256 (by decide)) (h2.1 14 (by decide)) (h4.1.1 1231 (by decide)) (h2.1 16 (by decide)) (h4.1.1 1245 (by decide)) (h2.1 17 (by decide)) (h4.1.1 1246 (by decide)) (RV.v (u := u3) (h2.2.1 _ hD.2.2.2.2.2.2.2.2.2) (fun n hn => h4.1.2.1 n (by revert n; decide)))
  refine lv_istore (lv' := [(6, .int r5), (5, .int r1), (4, .int i), (3, .ref o), (2, .ref (E.2.2 1299)), (1, .ref (E.2.2 1199)), (0, .ref b)]) hx hb dL_law_939 hl (by decide) rfl (fun ls hl => ?_)
  refine lv_goto (tgt := 1535) hx hb dL_law_941 (by decide) ?_
  exact kk u3 v6 H locs ls _ _ (by omega) (by omega) hV hS h2.2.2 k7 d8 (lv_sub hl [2, 3, 4, 5, 6] rfl)
set_option maxHeartbeats 400000 in
set_option maxRecDepth 100000 in
theorem l_case15 {p : Program} {e : Env} {s : State} {m : MethodId} {below : List Frame} {meth : Method} {c : Code} (l : Launch) {b L : Nat} {xs : Nat → Int32} (C0 : lw_At p s m meth c b L xs) (hst : l.stackTraces = false) (E : qE) {o : Nat} (hX0 : qXs (fun q : Nat => s.heap.size ≤ q) s s.heap) (hZ0 : qZw (fun q : Nat => s.heap.size ≤ q) s s.heap) (hL : L ≤ 4096) {i : Int32} (h0 : 0 ≤ i.toInt) (h8 : i.toInt + 8 ≤ L) {u v : qS} {H : Heap} {locs : List Loc} {ls : Array Slot} {cells slots : Nat} (hc : cells + 2 ≤ room_1.cells) (hs : slots + 1004 ≤ room_1.slots) (hV : l_2 E (fun q : Nat => s.heap.size ≤ q) u v s H) (hS : va_S (fun q : Nat => s.heap.size ≤ q) s.heap H locs) (hC : RC E o u) (hM : RM v) (hD : RD u v) (hl : lv_has ls 7 [(4, .int i), (3, .ref o), (2, .ref (E.2.2 1299)), (1, .ref (E.2.2 1199)), (0, .ref b)])
    (kk : ∀ (u v : qS) (H : Heap) (locs : List Loc) (ls : Array Slot) (k n : Nat), k ≤ cells + 2 → n ≤ slots + 1004 → l_2 E (fun q : Nat => s.heap.size ≤ q) u v s H → va_S (fun q : Nat => s.heap.size ≤ q) s.heap H locs → RC E o u → RM v → RD u v → lv_has ls 7 [(4, .int i), (3, .ref o), (2, .ref (E.2.2 1299)), (1, .ref (E.2.2 1199)), (0, .ref b)] → W p l e room_1 s m #[Value.ref b] below meth c H locs k n (lw_Z below #[Value.ref b] s) (F0 m 1535 ls [])) : W p l e room_1 s m #[Value.ref b] below meth c H locs cells slots (lw_Z below #[Value.ref b] s) (F0 m 944 ls []) := by
  obtain ⟨hx, hb, hr, hml, hown, hts, hX, hbl, hlocks, hgv⟩ := id C0
  have hF : qX p m c code 7 s #[Value.ref b] "SecretBuyersLaw" := ⟨hx, hb, hml, hown, fun w h => hts w (qw_in h)⟩
  have hA : ∀ q : Nat, s.heap.size ≤ q → (fun q : Nat => s.heap.size ≤ q) q := fun _ h => h
  have hbA : ¬ (fun q : Nat => s.heap.size ≤ q) b := Nat.not_le.mpr hbl
  refine lv_aload_n hx hb dL_law_944 rfl (lv_at hl 3 rfl) ?_
  refine lv_aload_n hx hb dL_law_945 rfl (lv_at hl 4 rfl) ?_
  refine lv_iload hx hb dL_law_946 (lv_at hl 0 rfl) ?_
  refine lv_iconst (v := 1) hx hb dL_law_948 (by decide) ?_
  refine lv_iadd hx hb dL_law_949 ?_
  refine va_sld hx hb hX hbl hbA hS (l_in (k := 1) h0 h8 hL (by decide)) dL_law_950 ?_
  refine lv_aload_n hx hb dL_law_951 rfl (lv_at hl 4 rfl) ?_
  refine lv_iload hx hb dL_law_952 (lv_at hl 0 rfl) ?_
  refine lv_iconst (v := 2) hx hb dL_law_954 (by decide) ?_
  refine lv_iadd hx hb dL_law_955 ?_
  refine va_sld hx hb hX hbl hbA hS (l_in (k := 2) h0 h8 hL (by decide)) dL_law_956 ?_
  have hM9 := fun A' : Nat → Prop => g_X11_meetings l E A' u (xs (i + 1 : Int32).toNatClampNeg) (xs (i + 2 : Int32).toNatClampNeg) hC.1
  refine l_callC2 (As := [.int (xs (i + 1 : Int32).toNatClampNeg), .int (xs (i + 2 : Int32).toNatClampNeg)]) (st0 := [.int (xs (i + 2 : Int32).toNatClampNeg), .int (xs (i + 1 : Int32).toNatClampNeg), .ref (E.2.2 1199)]) (rest := []) (mc := 0) (ms := 0) (f := 8) hF hV hS hA 2 hM9 w_927 w_928 w_929 w_99 w_930 (by decide +kernel) ⟨Nat.le_of_ble_eq_true rfl, Nat.le_of_ble_eq_true rfl⟩ dL_law_957 rfl hl.1 rfl (Nat.le_of_ble_eq_true rfl) ⟨by omega, by omega⟩ (fun r2 u3 H locs h1 hV hS => ?_)
  have k4 : RC E o u3 := hC.f h1.1.1 h1.1.2
  refine lv_pop hx hb dL_law_960 rfl ?_
  refine lv_aload_n hx hb dL_law_961 rfl (lv_at hl 2 rfl) ?_
  refine lv_aload_n hx hb dL_law_962 rfl (lv_at hl 4 rfl) ?_
  refine lv_iload hx hb dL_law_963 (lv_at hl 0 rfl) ?_
  refine lv_iconst (v := 1) hx hb dL_law_965 (by decide) ?_
  refine lv_iadd hx hb dL_law_966 ?_
  refine va_sld hx hb hX hbl hbA hS (l_in (k := 1) h0 h8 hL (by decide)) dL_law_967 ?_
  refine lv_aload_n hx hb dL_law_968 rfl (lv_at hl 4 rfl) ?_
  refine lv_iload hx hb dL_law_969 (lv_at hl 0 rfl) ?_
  refine lv_iconst (v := 2) hx hb dL_law_971 (by decide) ?_
  refine lv_iadd hx hb dL_law_972 ?_
  refine va_sld hx hb hX hbl hbA hS (l_in (k := 2) h0 h8 hL (by decide)) dL_law_973 ?_
  have hM9 := fun A' : Nat → Prop => g_X12_meetings l E A' v (xs (i + 1 : Int32).toNatClampNeg) (xs (i + 2 : Int32).toNatClampNeg) hM.1 hM.2.1
  refine l_callM2 (As := [.int (xs (i + 1 : Int32).toNatClampNeg), .int (xs (i + 2 : Int32).toNatClampNeg)]) (st0 := [.int (xs (i + 2 : Int32).toNatClampNeg), .int (xs (i + 1 : Int32).toNatClampNeg), .ref (E.2.2 1299)]) (rest := []) (mc := 0) (ms := 0) (f := 4) hF hV hS hA 2 hM9 w_1833 w_1834 w_1835 w_107 w_1836 (by decide +kernel) ⟨Nat.le_of_ble_eq_true rfl, Nat.le_of_ble_eq_true rfl⟩ dL_law_974 rfl hl.1 rfl (Nat.le_of_ble_eq_true rfl) ⟨by omega, by omega⟩ (fun r6 v7 H locs h5 hV hS => ?_)
  have k8 : RM v7 := hM.q h5.1 (by decide) (by decide) h5.2
  have d9 : RD u3 v7 := hD.k (h1.1.1.1 13 (by decide)) (h1.1.1.1 8 (by decide)) (h1.1.1.1 9 (by decide)) (h5.1.1 1230 (by decide)) (h5.1.1 1232 (by decide)) (h5.1.1 1239 (by decide)) (h1.1.1.1 801 (by decide)) (h5.1.1 1202 (by decide)) (h1.1.1.1 10 (by decide)) (h5.1.1 1247 (by decide)) (h1.1.1.1 11 (by decide)) (h5.1.1 1256 (by decide)) (h1.1.1.1 14 (by decide)) (h5.1.1 1231 (by decide)) (h1.1.1.1 16 (by decide)) (h5.1.1 1245 (by decide)) (h1.1.1.1 17 (by decide)) (h5.1.1 1246 (by decide)) (RV.v (u := u3) (hD.2.2.2.2.2.2.2.2.2.fr h1.1.1 (by decide) (by decide) (by decide) (fun _ _ => rfl)) (fun n hn => h5.1.2.1 n (by revert n; decide)))
  refine lv_pop hx hb dL_law_977 rfl ?_
  refine lv_goto (tgt := 1535) hx hb dL_law_978 (by decide) ?_
  exact kk u3 v7 H locs ls _ _ (by omega) (by omega) hV hS k4 k8 d9 (lv_sub hl [0, 1, 2, 3, 4] rfl)
set_option maxHeartbeats 400000 in
set_option maxRecDepth 100000 in
theorem l_case16 {p : Program} {e : Env} {s : State} {m : MethodId} {below : List Frame} {meth : Method} {c : Code} (l : Launch) {b L : Nat} {xs : Nat → Int32} (C0 : lw_At p s m meth c b L xs) (hst : l.stackTraces = false) (E : qE) {o : Nat} (hX0 : qXs (fun q : Nat => s.heap.size ≤ q) s s.heap) (hZ0 : qZw (fun q : Nat => s.heap.size ≤ q) s s.heap) (hL : L ≤ 4096) {i : Int32} (h0 : 0 ≤ i.toInt) (h8 : i.toInt + 8 ≤ L) {u v : qS} {H : Heap} {locs : List Loc} {ls : Array Slot} {cells slots : Nat} (hc : cells + 2 ≤ room_1.cells) (hs : slots + 1004 ≤ room_1.slots) (hV : l_2 E (fun q : Nat => s.heap.size ≤ q) u v s H) (hS : va_S (fun q : Nat => s.heap.size ≤ q) s.heap H locs) (hC : RC E o u) (hM : RM v) (hD : RD u v) (hl : lv_has ls 7 [(4, .int i), (3, .ref o), (2, .ref (E.2.2 1299)), (1, .ref (E.2.2 1199)), (0, .ref b)])
    (kk : ∀ (u v : qS) (H : Heap) (locs : List Loc) (ls : Array Slot) (k n : Nat), k ≤ cells + 2 → n ≤ slots + 1004 → l_2 E (fun q : Nat => s.heap.size ≤ q) u v s H → va_S (fun q : Nat => s.heap.size ≤ q) s.heap H locs → RC E o u → RM v → RD u v → lv_has ls 7 [(4, .int i), (3, .ref o), (2, .ref (E.2.2 1299)), (1, .ref (E.2.2 1199)), (0, .ref b)] → W p l e room_1 s m #[Value.ref b] below meth c H locs k n (lw_Z below #[Value.ref b] s) (F0 m 1535 ls [])) : W p l e room_1 s m #[Value.ref b] below meth c H locs cells slots (lw_Z below #[Value.ref b] s) (F0 m 981 ls []) := by
  obtain ⟨hx, hb, hr, hml, hown, hts, hX, hbl, hlocks, hgv⟩ := id C0
  have hF : qX p m c code 7 s #[Value.ref b] "SecretBuyersLaw" := ⟨hx, hb, hml, hown, fun w h => hts w (qw_in h)⟩
  have hA : ∀ q : Nat, s.heap.size ≤ q → (fun q : Nat => s.heap.size ≤ q) q := fun _ h => h
  have hbA : ¬ (fun q : Nat => s.heap.size ≤ q) b := Nat.not_le.mpr hbl
  refine lv_aload_n hx hb dL_law_981 rfl (lv_at hl 3 rfl) ?_
  refine lv_aload_n hx hb dL_law_982 rfl (lv_at hl 4 rfl) ?_
  refine lv_iload hx hb dL_law_983 (lv_at hl 0 rfl) ?_
  refine lv_iconst (v := 1) hx hb dL_law_985 (by decide) ?_
  refine lv_iadd hx hb dL_law_986 ?_
  refine va_sld hx hb hX hbl hbA hS (l_in (k := 1) h0 h8 hL (by decide)) dL_law_987 ?_
  refine lv_aload_n hx hb dL_law_988 rfl (lv_at hl 4 rfl) ?_
  refine lv_iload hx hb dL_law_989 (lv_at hl 0 rfl) ?_
  refine lv_iconst (v := 2) hx hb dL_law_991 (by decide) ?_
  refine lv_iadd hx hb dL_law_992 ?_
  refine va_sld hx hb hX hbl hbA hS (l_in (k := 2) h0 h8 hL (by decide)) dL_law_993 ?_
  refine lv_aload_n hx hb dL_law_994 rfl (lv_at hl 4 rfl) ?_
  refine lv_iload hx hb dL_law_995 (lv_at hl 0 rfl) ?_
  refine lv_iconst (v := 3) hx hb dL_law_997 (by decide) ?_
  refine lv_iadd hx hb dL_law_998 ?_
  refine va_sld hx hb hX hbl hbA hS (l_in (k := 3) h0 h8 hL (by decide)) dL_law_999 ?_
  refine lv_aload_n hx hb dL_law_1000 rfl (lv_at hl 1 rfl) ?_
  have hM9 := fun A' : Nat → Prop => g_L_mean l hst E A' u o (xs (i + 1 : Int32).toNatClampNeg) (xs (i + 2 : Int32).toNatClampNeg) (xs (i + 3 : Int32).toNatClampNeg) hC
  refine l_callL2 (As := [.ref (E.2.2 1199), .int (xs (i + 1 : Int32).toNatClampNeg), .int (xs (i + 2 : Int32).toNatClampNeg), .int (xs (i + 3 : Int32).toNatClampNeg), .ref o]) (st0 := [.ref o, .int (xs (i + 3 : Int32).toNatClampNeg), .int (xs (i + 2 : Int32).toNatClampNeg), .int (xs (i + 1 : Int32).toNatClampNeg), .ref (E.2.2 1199)]) (rest := []) (mc := 1) (ms := 6) (f := 13) hF hV hS hA (hX0.kept (fun a h1 h2 => hS.2.1 a h1 h2)) 5 hM9 w_1291 w_1292 w_98 w_1293 (by decide +kernel) ⟨Nat.le_of_ble_eq_true rfl, Nat.le_of_ble_eq_true rfl⟩ dL_law_1001 rfl hl.1 rfl (Nat.le_of_ble_eq_true rfl) ⟨by omega, by omega⟩ (fun r1 u3 H locs h2 hV hS => ?_)
  refine lv_istore (lv' := [(5, .int r1), (4, .int i), (3, .ref o), (2, .ref (E.2.2 1299)), (1, .ref (E.2.2 1199)), (0, .ref b)]) hx hb dL_law_1004 hl (by decide) rfl (fun ls hl => ?_)
  refine lv_aload_n hx hb dL_law_1006 rfl (lv_at hl 3 rfl) ?_
  refine lv_aload_n hx hb dL_law_1007 rfl (lv_at hl 5 rfl) ?_
  refine lv_iload hx hb dL_law_1008 (lv_at hl 1 rfl) ?_
  refine lv_iconst (v := 1) hx hb dL_law_1010 (by decide) ?_
  refine lv_iadd hx hb dL_law_1011 ?_
  refine va_sld hx hb hX hbl hbA hS (l_in (k := 1) h0 h8 hL (by decide)) dL_law_1012 ?_
  refine lv_aload_n hx hb dL_law_1013 rfl (lv_at hl 5 rfl) ?_
  refine lv_iload hx hb dL_law_1014 (lv_at hl 1 rfl) ?_
  refine lv_iconst (v := 2) hx hb dL_law_1016 (by decide) ?_
  refine lv_iadd hx hb dL_law_1017 ?_
  refine va_sld hx hb hX hbl hbA hS (l_in (k := 2) h0 h8 hL (by decide)) dL_law_1018 ?_
  refine lv_aload_n hx hb dL_law_1019 rfl (lv_at hl 5 rfl) ?_
  refine lv_iload hx hb dL_law_1020 (lv_at hl 1 rfl) ?_
  refine lv_iconst (v := 3) hx hb dL_law_1022 (by decide) ?_
  refine lv_iadd hx hb dL_law_1023 ?_
  refine va_sld hx hb hX hbl hbA hS (l_in (k := 3) h0 h8 hL (by decide)) dL_law_1024 ?_
  have hM9 := fun A' : Nat → Prop => g_X12_mean l E A' v (xs (i + 1 : Int32).toNatClampNeg) (xs (i + 2 : Int32).toNatClampNeg) (xs (i + 3 : Int32).toNatClampNeg) hM.1 hM.2.1
  refine l_callM2 (As := [.int (xs (i + 1 : Int32).toNatClampNeg), .int (xs (i + 2 : Int32).toNatClampNeg), .int (xs (i + 3 : Int32).toNatClampNeg)]) (st0 := [.int (xs (i + 3 : Int32).toNatClampNeg), .int (xs (i + 2 : Int32).toNatClampNeg), .int (xs (i + 1 : Int32).toNatClampNeg), .ref (E.2.2 1299)]) (rest := []) (mc := 0) (ms := 0) (f := 7) hF hV hS hA 3 hM9 w_1837 w_1838 w_1839 w_107 w_1840 (by decide +kernel) ⟨Nat.le_of_ble_eq_true rfl, Nat.le_of_ble_eq_true rfl⟩ dL_law_1025 rfl hl.1 rfl (Nat.le_of_ble_eq_true rfl) ⟨by omega, by omega⟩ (fun r5 v6 H locs h4 hV hS => ?_)
  have k7 : RM v6 := hM.q h4.1 (by decide) (by decide) h4.2
  have d8 : RD u3 v6 := hD.k (h2.1 13 (by decide)) (h2.1 8 (by decide)) (h2.1 9 (by decide)) (h4.1.1 1230 (by decide)) (h4.1.1 1232 (by decide)) (h4.1.1 1239 (by decide)) (h2.1 801 (by decide)) (h4.1.1 1202 (by decide)) (h2.1 10 (by decide)) (h4.1.1 1247 (by decide)) (h2.1 11 (by decide)) (h4.1.1 1256 (by decide)) (h2.1 14 (by decide)) (h4.1.1 1231 (by decide)) (h2.1 16 (by decide)) (h4.1.1 1245 (by decide)) (h2.1 17 (by decide)) (h4.1.1 1246 (by decide)) (RV.v (u := u3) (h2.2.1 _ hD.2.2.2.2.2.2.2.2.2) (fun n hn => h4.1.2.1 n (by revert n; decide)))
  refine lv_istore (lv' := [(6, .int r5), (5, .int r1), (4, .int i), (3, .ref o), (2, .ref (E.2.2 1299)), (1, .ref (E.2.2 1199)), (0, .ref b)]) hx hb dL_law_1028 hl (by decide) rfl (fun ls hl => ?_)
  refine lv_goto (tgt := 1535) hx hb dL_law_1030 (by decide) ?_
  exact kk u3 v6 H locs ls _ _ (by omega) (by omega) hV hS h2.2.2 k7 d8 (lv_sub hl [2, 3, 4, 5, 6] rfl)
set_option maxHeartbeats 400000 in
set_option maxRecDepth 100000 in
theorem l_case17 {p : Program} {e : Env} {s : State} {m : MethodId} {below : List Frame} {meth : Method} {c : Code} (l : Launch) {b L : Nat} {xs : Nat → Int32} (C0 : lw_At p s m meth c b L xs) (hst : l.stackTraces = false) (E : qE) {o : Nat} (hX0 : qXs (fun q : Nat => s.heap.size ≤ q) s s.heap) (hZ0 : qZw (fun q : Nat => s.heap.size ≤ q) s s.heap) (hL : L ≤ 4096) {i : Int32} (h0 : 0 ≤ i.toInt) (h8 : i.toInt + 8 ≤ L) {u v : qS} {H : Heap} {locs : List Loc} {ls : Array Slot} {cells slots : Nat} (hc : cells + 2 ≤ room_1.cells) (hs : slots + 1004 ≤ room_1.slots) (hV : l_2 E (fun q : Nat => s.heap.size ≤ q) u v s H) (hS : va_S (fun q : Nat => s.heap.size ≤ q) s.heap H locs) (hC : RC E o u) (hM : RM v) (hD : RD u v) (hl : lv_has ls 7 [(4, .int i), (3, .ref o), (2, .ref (E.2.2 1299)), (1, .ref (E.2.2 1199)), (0, .ref b)])
    (kk : ∀ (u v : qS) (H : Heap) (locs : List Loc) (ls : Array Slot) (k n : Nat), k ≤ cells + 2 → n ≤ slots + 1004 → l_2 E (fun q : Nat => s.heap.size ≤ q) u v s H → va_S (fun q : Nat => s.heap.size ≤ q) s.heap H locs → RC E o u → RM v → RD u v → lv_has ls 7 [(4, .int i), (3, .ref o), (2, .ref (E.2.2 1299)), (1, .ref (E.2.2 1199)), (0, .ref b)] → W p l e room_1 s m #[Value.ref b] below meth c H locs k n (lw_Z below #[Value.ref b] s) (F0 m 1535 ls [])) : W p l e room_1 s m #[Value.ref b] below meth c H locs cells slots (lw_Z below #[Value.ref b] s) (F0 m 1033 ls []) := by
  obtain ⟨hx, hb, hr, hml, hown, hts, hX, hbl, hlocks, hgv⟩ := id C0
  have hF : qX p m c code 7 s #[Value.ref b] "SecretBuyersLaw" := ⟨hx, hb, hml, hown, fun w h => hts w (qw_in h)⟩
  have hA : ∀ q : Nat, s.heap.size ≤ q → (fun q : Nat => s.heap.size ≤ q) q := fun _ h => h
  have hbA : ¬ (fun q : Nat => s.heap.size ≤ q) b := Nat.not_le.mpr hbl
  refine lv_aload_n hx hb dL_law_1033 rfl (lv_at hl 3 rfl) ?_
  refine lv_aload_n hx hb dL_law_1034 rfl (lv_at hl 4 rfl) ?_
  refine lv_iload hx hb dL_law_1035 (lv_at hl 0 rfl) ?_
  refine lv_iconst (v := 1) hx hb dL_law_1037 (by decide) ?_
  refine lv_iadd hx hb dL_law_1038 ?_
  refine va_sld hx hb hX hbl hbA hS (l_in (k := 1) h0 h8 hL (by decide)) dL_law_1039 ?_
  refine lv_aload_n hx hb dL_law_1040 rfl (lv_at hl 4 rfl) ?_
  refine lv_iload hx hb dL_law_1041 (lv_at hl 0 rfl) ?_
  refine lv_iconst (v := 2) hx hb dL_law_1043 (by decide) ?_
  refine lv_iadd hx hb dL_law_1044 ?_
  refine va_sld hx hb hX hbl hbA hS (l_in (k := 2) h0 h8 hL (by decide)) dL_law_1045 ?_
  refine lv_aload_n hx hb dL_law_1046 rfl (lv_at hl 4 rfl) ?_
  refine lv_iload hx hb dL_law_1047 (lv_at hl 0 rfl) ?_
  refine lv_iconst (v := 3) hx hb dL_law_1049 (by decide) ?_
  refine lv_iadd hx hb dL_law_1050 ?_
  refine va_sld hx hb hX hbl hbA hS (l_in (k := 3) h0 h8 hL (by decide)) dL_law_1051 ?_
  have hM9 := fun A' : Nat → Prop => g_X11_doubt l E A' u (xs (i + 1 : Int32).toNatClampNeg) (xs (i + 2 : Int32).toNatClampNeg) (xs (i + 3 : Int32).toNatClampNeg) hC.1
  refine l_callC2 (As := [.int (xs (i + 1 : Int32).toNatClampNeg), .int (xs (i + 2 : Int32).toNatClampNeg), .int (xs (i + 3 : Int32).toNatClampNeg)]) (st0 := [.int (xs (i + 3 : Int32).toNatClampNeg), .int (xs (i + 2 : Int32).toNatClampNeg), .int (xs (i + 1 : Int32).toNatClampNeg), .ref (E.2.2 1199)]) (rest := []) (mc := 0) (ms := 0) (f := 8) hF hV hS hA 3 hM9 w_1009 w_1010 w_1011 w_99 w_1012 (by decide +kernel) ⟨Nat.le_of_ble_eq_true rfl, Nat.le_of_ble_eq_true rfl⟩ dL_law_1052 rfl hl.1 rfl (Nat.le_of_ble_eq_true rfl) ⟨by omega, by omega⟩ (fun r2 u3 H locs h1 hV hS => ?_)
  have k4 : RC E o u3 := hC.f h1.1.1 h1.1.2
  refine lv_pop hx hb dL_law_1055 rfl ?_
  refine lv_aload_n hx hb dL_law_1056 rfl (lv_at hl 2 rfl) ?_
  refine lv_aload_n hx hb dL_law_1057 rfl (lv_at hl 4 rfl) ?_
  refine lv_iload hx hb dL_law_1058 (lv_at hl 0 rfl) ?_
  refine lv_iconst (v := 1) hx hb dL_law_1060 (by decide) ?_
  refine lv_iadd hx hb dL_law_1061 ?_
  refine va_sld hx hb hX hbl hbA hS (l_in (k := 1) h0 h8 hL (by decide)) dL_law_1062 ?_
  refine lv_aload_n hx hb dL_law_1063 rfl (lv_at hl 4 rfl) ?_
  refine lv_iload hx hb dL_law_1064 (lv_at hl 0 rfl) ?_
  refine lv_iconst (v := 2) hx hb dL_law_1066 (by decide) ?_
  refine lv_iadd hx hb dL_law_1067 ?_
  refine va_sld hx hb hX hbl hbA hS (l_in (k := 2) h0 h8 hL (by decide)) dL_law_1068 ?_
  refine lv_aload_n hx hb dL_law_1069 rfl (lv_at hl 4 rfl) ?_
  refine lv_iload hx hb dL_law_1070 (lv_at hl 0 rfl) ?_
  refine lv_iconst (v := 3) hx hb dL_law_1072 (by decide) ?_
  refine lv_iadd hx hb dL_law_1073 ?_
  refine va_sld hx hb hX hbl hbA hS (l_in (k := 3) h0 h8 hL (by decide)) dL_law_1074 ?_
  have hM9 := fun A' : Nat → Prop => g_X12_doubt l E A' v (xs (i + 1 : Int32).toNatClampNeg) (xs (i + 2 : Int32).toNatClampNeg) (xs (i + 3 : Int32).toNatClampNeg) hM.1 hM.2.1
  refine l_callM2 (As := [.int (xs (i + 1 : Int32).toNatClampNeg), .int (xs (i + 2 : Int32).toNatClampNeg), .int (xs (i + 3 : Int32).toNatClampNeg)]) (st0 := [.int (xs (i + 3 : Int32).toNatClampNeg), .int (xs (i + 2 : Int32).toNatClampNeg), .int (xs (i + 1 : Int32).toNatClampNeg), .ref (E.2.2 1299)]) (rest := []) (mc := 0) (ms := 0) (f := 7) hF hV hS hA 3 hM9 w_1852 w_1853 w_1854 w_107 w_1855 (by decide +kernel) ⟨Nat.le_of_ble_eq_true rfl, Nat.le_of_ble_eq_true rfl⟩ dL_law_1075 rfl hl.1 rfl (Nat.le_of_ble_eq_true rfl) ⟨by omega, by omega⟩ (fun r6 v7 H locs h5 hV hS => ?_)
  have k8 : RM v7 := hM.q h5.1 (by decide) (by decide) h5.2
  have d9 : RD u3 v7 := hD.k (h1.1.1.1 13 (by decide)) (h1.1.1.1 8 (by decide)) (h1.1.1.1 9 (by decide)) (h5.1.1 1230 (by decide)) (h5.1.1 1232 (by decide)) (h5.1.1 1239 (by decide)) (h1.1.1.1 801 (by decide)) (h5.1.1 1202 (by decide)) (h1.1.1.1 10 (by decide)) (h5.1.1 1247 (by decide)) (h1.1.1.1 11 (by decide)) (h5.1.1 1256 (by decide)) (h1.1.1.1 14 (by decide)) (h5.1.1 1231 (by decide)) (h1.1.1.1 16 (by decide)) (h5.1.1 1245 (by decide)) (h1.1.1.1 17 (by decide)) (h5.1.1 1246 (by decide)) (RV.v (u := u3) (hD.2.2.2.2.2.2.2.2.2.fr h1.1.1 (by decide) (by decide) (by decide) (fun _ _ => rfl)) (fun n hn => h5.1.2.1 n (by revert n; decide)))
  refine lv_pop hx hb dL_law_1078 rfl ?_
  refine lv_goto (tgt := 1535) hx hb dL_law_1079 (by decide) ?_
  exact kk u3 v7 H locs ls _ _ (by omega) (by omega) hV hS k4 k8 d9 (lv_sub hl [0, 1, 2, 3, 4] rfl)
set_option maxHeartbeats 400000 in
set_option maxRecDepth 100000 in
theorem l_case18 {p : Program} {e : Env} {s : State} {m : MethodId} {below : List Frame} {meth : Method} {c : Code} (l : Launch) {b L : Nat} {xs : Nat → Int32} (C0 : lw_At p s m meth c b L xs) (hst : l.stackTraces = false) (E : qE) {o : Nat} (hX0 : qXs (fun q : Nat => s.heap.size ≤ q) s s.heap) (hZ0 : qZw (fun q : Nat => s.heap.size ≤ q) s s.heap) (hL : L ≤ 4096) {i : Int32} (h0 : 0 ≤ i.toInt) (h8 : i.toInt + 8 ≤ L) {u v : qS} {H : Heap} {locs : List Loc} {ls : Array Slot} {cells slots : Nat} (hc : cells + 2 ≤ room_1.cells) (hs : slots + 1004 ≤ room_1.slots) (hV : l_2 E (fun q : Nat => s.heap.size ≤ q) u v s H) (hS : va_S (fun q : Nat => s.heap.size ≤ q) s.heap H locs) (hC : RC E o u) (hM : RM v) (hD : RD u v) (hl : lv_has ls 7 [(4, .int i), (3, .ref o), (2, .ref (E.2.2 1299)), (1, .ref (E.2.2 1199)), (0, .ref b)])
    (kk : ∀ (u v : qS) (H : Heap) (locs : List Loc) (ls : Array Slot) (k n : Nat), k ≤ cells + 2 → n ≤ slots + 1004 → l_2 E (fun q : Nat => s.heap.size ≤ q) u v s H → va_S (fun q : Nat => s.heap.size ≤ q) s.heap H locs → RC E o u → RM v → RD u v → lv_has ls 7 [(4, .int i), (3, .ref o), (2, .ref (E.2.2 1299)), (1, .ref (E.2.2 1199)), (0, .ref b)] → W p l e room_1 s m #[Value.ref b] below meth c H locs k n (lw_Z below #[Value.ref b] s) (F0 m 1535 ls [])) : W p l e room_1 s m #[Value.ref b] below meth c H locs cells slots (lw_Z below #[Value.ref b] s) (F0 m 1082 ls []) := by
  obtain ⟨hx, hb, hr, hml, hown, hts, hX, hbl, hlocks, hgv⟩ := id C0
  have hF : qX p m c code 7 s #[Value.ref b] "SecretBuyersLaw" := ⟨hx, hb, hml, hown, fun w h => hts w (qw_in h)⟩
  have hA : ∀ q : Nat, s.heap.size ≤ q → (fun q : Nat => s.heap.size ≤ q) q := fun _ h => h
  have hbA : ¬ (fun q : Nat => s.heap.size ≤ q) b := Nat.not_le.mpr hbl
  refine lv_aload_n hx hb dL_law_1082 rfl (lv_at hl 3 rfl) ?_
  refine lv_aload_n hx hb dL_law_1083 rfl (lv_at hl 4 rfl) ?_
  refine lv_iload hx hb dL_law_1084 (lv_at hl 0 rfl) ?_
  refine lv_iconst (v := 1) hx hb dL_law_1086 (by decide) ?_
  refine lv_iadd hx hb dL_law_1087 ?_
  refine va_sld hx hb hX hbl hbA hS (l_in (k := 1) h0 h8 hL (by decide)) dL_law_1088 ?_
  refine lv_aload_n hx hb dL_law_1089 rfl (lv_at hl 4 rfl) ?_
  refine lv_iload hx hb dL_law_1090 (lv_at hl 0 rfl) ?_
  refine lv_iconst (v := 2) hx hb dL_law_1092 (by decide) ?_
  refine lv_iadd hx hb dL_law_1093 ?_
  refine va_sld hx hb hX hbl hbA hS (l_in (k := 2) h0 h8 hL (by decide)) dL_law_1094 ?_
  refine lv_aload_n hx hb dL_law_1095 rfl (lv_at hl 4 rfl) ?_
  refine lv_iload hx hb dL_law_1096 (lv_at hl 0 rfl) ?_
  refine lv_iconst (v := 3) hx hb dL_law_1098 (by decide) ?_
  refine lv_iadd hx hb dL_law_1099 ?_
  refine va_sld hx hb hX hbl hbA hS (l_in (k := 3) h0 h8 hL (by decide)) dL_law_1100 ?_
  refine lv_aload_n hx hb dL_law_1101 rfl (lv_at hl 4 rfl) ?_
  refine lv_iload hx hb dL_law_1102 (lv_at hl 0 rfl) ?_
  refine lv_iconst (v := 4) hx hb dL_law_1104 (by decide) ?_
  refine lv_iadd hx hb dL_law_1105 ?_
  refine va_sld hx hb hX hbl hbA hS (l_in (k := 4) h0 h8 hL (by decide)) dL_law_1106 ?_
  have hM9 := fun A' : Nat → Prop => g_X11_apart l E A' u (xs (i + 1 : Int32).toNatClampNeg) (xs (i + 2 : Int32).toNatClampNeg) (xs (i + 3 : Int32).toNatClampNeg) (xs (i + 4 : Int32).toNatClampNeg) hC.1
  refine l_callC2 (As := [.int (xs (i + 1 : Int32).toNatClampNeg), .int (xs (i + 2 : Int32).toNatClampNeg), .int (xs (i + 3 : Int32).toNatClampNeg), .int (xs (i + 4 : Int32).toNatClampNeg)]) (st0 := [.int (xs (i + 4 : Int32).toNatClampNeg), .int (xs (i + 3 : Int32).toNatClampNeg), .int (xs (i + 2 : Int32).toNatClampNeg), .int (xs (i + 1 : Int32).toNatClampNeg), .ref (E.2.2 1199)]) (rest := []) (mc := 0) (ms := 0) (f := 8) hF hV hS hA 4 hM9 w_1041 w_1042 w_1043 w_99 w_1044 (by decide +kernel) ⟨Nat.le_of_ble_eq_true rfl, Nat.le_of_ble_eq_true rfl⟩ dL_law_1107 rfl hl.1 rfl (Nat.le_of_ble_eq_true rfl) ⟨by omega, by omega⟩ (fun r2 u3 H locs h1 hV hS => ?_)
  have k4 : RC E o u3 := hC.f h1.1.1 h1.1.2
  refine lv_pop hx hb dL_law_1110 rfl ?_
  refine lv_aload_n hx hb dL_law_1111 rfl (lv_at hl 2 rfl) ?_
  refine lv_aload_n hx hb dL_law_1112 rfl (lv_at hl 4 rfl) ?_
  refine lv_iload hx hb dL_law_1113 (lv_at hl 0 rfl) ?_
  refine lv_iconst (v := 1) hx hb dL_law_1115 (by decide) ?_
  refine lv_iadd hx hb dL_law_1116 ?_
  refine va_sld hx hb hX hbl hbA hS (l_in (k := 1) h0 h8 hL (by decide)) dL_law_1117 ?_
  refine lv_aload_n hx hb dL_law_1118 rfl (lv_at hl 4 rfl) ?_
  refine lv_iload hx hb dL_law_1119 (lv_at hl 0 rfl) ?_
  refine lv_iconst (v := 2) hx hb dL_law_1121 (by decide) ?_
  refine lv_iadd hx hb dL_law_1122 ?_
  refine va_sld hx hb hX hbl hbA hS (l_in (k := 2) h0 h8 hL (by decide)) dL_law_1123 ?_
  refine lv_aload_n hx hb dL_law_1124 rfl (lv_at hl 4 rfl) ?_
  refine lv_iload hx hb dL_law_1125 (lv_at hl 0 rfl) ?_
  refine lv_iconst (v := 3) hx hb dL_law_1127 (by decide) ?_
  refine lv_iadd hx hb dL_law_1128 ?_
  refine va_sld hx hb hX hbl hbA hS (l_in (k := 3) h0 h8 hL (by decide)) dL_law_1129 ?_
  refine lv_aload_n hx hb dL_law_1130 rfl (lv_at hl 4 rfl) ?_
  refine lv_iload hx hb dL_law_1131 (lv_at hl 0 rfl) ?_
  refine lv_iconst (v := 4) hx hb dL_law_1133 (by decide) ?_
  refine lv_iadd hx hb dL_law_1134 ?_
  refine va_sld hx hb hX hbl hbA hS (l_in (k := 4) h0 h8 hL (by decide)) dL_law_1135 ?_
  have hM9 := fun A' : Nat → Prop => g_X12_apart l E A' v (xs (i + 1 : Int32).toNatClampNeg) (xs (i + 2 : Int32).toNatClampNeg) (xs (i + 3 : Int32).toNatClampNeg) (xs (i + 4 : Int32).toNatClampNeg) hM.1 hM.2.1
  refine l_callM2 (As := [.int (xs (i + 1 : Int32).toNatClampNeg), .int (xs (i + 2 : Int32).toNatClampNeg), .int (xs (i + 3 : Int32).toNatClampNeg), .int (xs (i + 4 : Int32).toNatClampNeg)]) (st0 := [.int (xs (i + 4 : Int32).toNatClampNeg), .int (xs (i + 3 : Int32).toNatClampNeg), .int (xs (i + 2 : Int32).toNatClampNeg), .int (xs (i + 1 : Int32).toNatClampNeg), .ref (E.2.2 1299)]) (rest := []) (mc := 0) (ms := 0) (f := 8) hF hV hS hA 4 hM9 w_1860 w_1861 w_1862 w_107 w_1863 (by decide +kernel) ⟨Nat.le_of_ble_eq_true rfl, Nat.le_of_ble_eq_true rfl⟩ dL_law_1136 rfl hl.1 rfl (Nat.le_of_ble_eq_true rfl) ⟨by omega, by omega⟩ (fun r6 v7 H locs h5 hV hS => ?_)
  have k8 : RM v7 := hM.q h5.1 (by decide) (by decide) h5.2
  have d9 : RD u3 v7 := hD.k (h1.1.1.1 13 (by decide)) (h1.1.1.1 8 (by decide)) (h1.1.1.1 9 (by decide)) (h5.1.1 1230 (by decide)) (h5.1.1 1232 (by decide)) (h5.1.1 1239 (by decide)) (h1.1.1.1 801 (by decide)) (h5.1.1 1202 (by decide)) (h1.1.1.1 10 (by decide)) (h5.1.1 1247 (by decide)) (h1.1.1.1 11 (by decide)) (h5.1.1 1256 (by decide)) (h1.1.1.1 14 (by decide)) (h5.1.1 1231 (by decide)) (h1.1.1.1 16 (by decide)) (h5.1.1 1245 (by decide)) (h1.1.1.1 17 (by decide)) (h5.1.1 1246 (by decide)) (RV.v (u := u3) (hD.2.2.2.2.2.2.2.2.2.fr h1.1.1 (by decide) (by decide) (by decide) (fun _ _ => rfl)) (fun n hn => h5.1.2.1 n (by revert n; decide)))
  refine lv_pop hx hb dL_law_1139 rfl ?_
  refine lv_goto (tgt := 1535) hx hb dL_law_1140 (by decide) ?_
  exact kk u3 v7 H locs ls _ _ (by omega) (by omega) hV hS k4 k8 d9 (lv_sub hl [0, 1, 2, 3, 4] rfl)
set_option maxHeartbeats 400000 in
set_option maxRecDepth 100000 in
theorem l_case19 {p : Program} {e : Env} {s : State} {m : MethodId} {below : List Frame} {meth : Method} {c : Code} (l : Launch) {b L : Nat} {xs : Nat → Int32} (C0 : lw_At p s m meth c b L xs) (hst : l.stackTraces = false) (E : qE) {o : Nat} (hX0 : qXs (fun q : Nat => s.heap.size ≤ q) s s.heap) (hZ0 : qZw (fun q : Nat => s.heap.size ≤ q) s s.heap) (hL : L ≤ 4096) {i : Int32} (h0 : 0 ≤ i.toInt) (h8 : i.toInt + 8 ≤ L) {u v : qS} {H : Heap} {locs : List Loc} {ls : Array Slot} {cells slots : Nat} (hc : cells + 2 ≤ room_1.cells) (hs : slots + 1004 ≤ room_1.slots) (hV : l_2 E (fun q : Nat => s.heap.size ≤ q) u v s H) (hS : va_S (fun q : Nat => s.heap.size ≤ q) s.heap H locs) (hC : RC E o u) (hM : RM v) (hD : RD u v) (hl : lv_has ls 7 [(4, .int i), (3, .ref o), (2, .ref (E.2.2 1299)), (1, .ref (E.2.2 1199)), (0, .ref b)])
    (kk : ∀ (u v : qS) (H : Heap) (locs : List Loc) (ls : Array Slot) (k n : Nat), k ≤ cells + 2 → n ≤ slots + 1004 → l_2 E (fun q : Nat => s.heap.size ≤ q) u v s H → va_S (fun q : Nat => s.heap.size ≤ q) s.heap H locs → RC E o u → RM v → RD u v → lv_has ls 7 [(4, .int i), (3, .ref o), (2, .ref (E.2.2 1299)), (1, .ref (E.2.2 1199)), (0, .ref b)] → W p l e room_1 s m #[Value.ref b] below meth c H locs k n (lw_Z below #[Value.ref b] s) (F0 m 1535 ls [])) : W p l e room_1 s m #[Value.ref b] below meth c H locs cells slots (lw_Z below #[Value.ref b] s) (F0 m 1143 ls []) := by
  obtain ⟨hx, hb, hr, hml, hown, hts, hX, hbl, hlocks, hgv⟩ := id C0
  have hF : qX p m c code 7 s #[Value.ref b] "SecretBuyersLaw" := ⟨hx, hb, hml, hown, fun w h => hts w (qw_in h)⟩
  have hA : ∀ q : Nat, s.heap.size ≤ q → (fun q : Nat => s.heap.size ≤ q) q := fun _ h => h
  have hbA : ¬ (fun q : Nat => s.heap.size ≤ q) b := Nat.not_le.mpr hbl
  refine lv_aload_n hx hb dL_law_1143 rfl (lv_at hl 3 rfl) ?_
  refine lv_aload_n hx hb dL_law_1144 rfl (lv_at hl 4 rfl) ?_
  refine lv_iload hx hb dL_law_1145 (lv_at hl 0 rfl) ?_
  refine lv_iconst (v := 1) hx hb dL_law_1147 (by decide) ?_
  refine lv_iadd hx hb dL_law_1148 ?_
  refine va_sld hx hb hX hbl hbA hS (l_in (k := 1) h0 h8 hL (by decide)) dL_law_1149 ?_
  refine lv_aload_n hx hb dL_law_1150 rfl (lv_at hl 4 rfl) ?_
  refine lv_iload hx hb dL_law_1151 (lv_at hl 0 rfl) ?_
  refine lv_iconst (v := 2) hx hb dL_law_1153 (by decide) ?_
  refine lv_iadd hx hb dL_law_1154 ?_
  refine va_sld hx hb hX hbl hbA hS (l_in (k := 2) h0 h8 hL (by decide)) dL_law_1155 ?_
  refine lv_aload_n hx hb dL_law_1156 rfl (lv_at hl 4 rfl) ?_
  refine lv_iload hx hb dL_law_1157 (lv_at hl 0 rfl) ?_
  refine lv_iconst (v := 3) hx hb dL_law_1159 (by decide) ?_
  refine lv_iadd hx hb dL_law_1160 ?_
  refine va_sld hx hb hX hbl hbA hS (l_in (k := 3) h0 h8 hL (by decide)) dL_law_1161 ?_
  refine lv_aload_n hx hb dL_law_1162 rfl (lv_at hl 4 rfl) ?_
  refine lv_iload hx hb dL_law_1163 (lv_at hl 0 rfl) ?_
  refine lv_iconst (v := 4) hx hb dL_law_1165 (by decide) ?_
  refine lv_iadd hx hb dL_law_1166 ?_
  refine va_sld hx hb hX hbl hbA hS (l_in (k := 4) h0 h8 hL (by decide)) dL_law_1167 ?_
  have hM9 := fun A' : Nat → Prop => g_X11_order l E A' u (xs (i + 1 : Int32).toNatClampNeg) (xs (i + 2 : Int32).toNatClampNeg) (xs (i + 3 : Int32).toNatClampNeg) (xs (i + 4 : Int32).toNatClampNeg) hC.1
  refine l_callC2 (As := [.int (xs (i + 1 : Int32).toNatClampNeg), .int (xs (i + 2 : Int32).toNatClampNeg), .int (xs (i + 3 : Int32).toNatClampNeg), .int (xs (i + 4 : Int32).toNatClampNeg)]) (st0 := [.int (xs (i + 4 : Int32).toNatClampNeg), .int (xs (i + 3 : Int32).toNatClampNeg), .int (xs (i + 2 : Int32).toNatClampNeg), .int (xs (i + 1 : Int32).toNatClampNeg), .ref (E.2.2 1199)]) (rest := []) (mc := 0) (ms := 0) (f := 8) hF hV hS hA 4 hM9 w_1054 w_1055 w_1056 w_99 w_1057 (by decide +kernel) ⟨Nat.le_of_ble_eq_true rfl, Nat.le_of_ble_eq_true rfl⟩ dL_law_1168 rfl hl.1 rfl (Nat.le_of_ble_eq_true rfl) ⟨by omega, by omega⟩ (fun r2 u3 H locs h1 hV hS => ?_)
  have k4 : RC E o u3 := hC.f h1.1.1 h1.1.2
  refine lv_pop hx hb dL_law_1171 rfl ?_
  refine lv_aload_n hx hb dL_law_1172 rfl (lv_at hl 2 rfl) ?_
  refine lv_aload_n hx hb dL_law_1173 rfl (lv_at hl 4 rfl) ?_
  refine lv_iload hx hb dL_law_1174 (lv_at hl 0 rfl) ?_
  refine lv_iconst (v := 1) hx hb dL_law_1176 (by decide) ?_
  refine lv_iadd hx hb dL_law_1177 ?_
  refine va_sld hx hb hX hbl hbA hS (l_in (k := 1) h0 h8 hL (by decide)) dL_law_1178 ?_
  refine lv_aload_n hx hb dL_law_1179 rfl (lv_at hl 4 rfl) ?_
  refine lv_iload hx hb dL_law_1180 (lv_at hl 0 rfl) ?_
  refine lv_iconst (v := 2) hx hb dL_law_1182 (by decide) ?_
  refine lv_iadd hx hb dL_law_1183 ?_
  refine va_sld hx hb hX hbl hbA hS (l_in (k := 2) h0 h8 hL (by decide)) dL_law_1184 ?_
  refine lv_aload_n hx hb dL_law_1185 rfl (lv_at hl 4 rfl) ?_
  refine lv_iload hx hb dL_law_1186 (lv_at hl 0 rfl) ?_
  refine lv_iconst (v := 3) hx hb dL_law_1188 (by decide) ?_
  refine lv_iadd hx hb dL_law_1189 ?_
  refine va_sld hx hb hX hbl hbA hS (l_in (k := 3) h0 h8 hL (by decide)) dL_law_1190 ?_
  refine lv_aload_n hx hb dL_law_1191 rfl (lv_at hl 4 rfl) ?_
  refine lv_iload hx hb dL_law_1192 (lv_at hl 0 rfl) ?_
  refine lv_iconst (v := 4) hx hb dL_law_1194 (by decide) ?_
  refine lv_iadd hx hb dL_law_1195 ?_
  refine va_sld hx hb hX hbl hbA hS (l_in (k := 4) h0 h8 hL (by decide)) dL_law_1196 ?_
  have hM9 := fun A' : Nat → Prop => g_X12_order l E A' v (xs (i + 1 : Int32).toNatClampNeg) (xs (i + 2 : Int32).toNatClampNeg) (xs (i + 3 : Int32).toNatClampNeg) (xs (i + 4 : Int32).toNatClampNeg) hM.1 hM.2.1
  refine l_callM2 (As := [.int (xs (i + 1 : Int32).toNatClampNeg), .int (xs (i + 2 : Int32).toNatClampNeg), .int (xs (i + 3 : Int32).toNatClampNeg), .int (xs (i + 4 : Int32).toNatClampNeg)]) (st0 := [.int (xs (i + 4 : Int32).toNatClampNeg), .int (xs (i + 3 : Int32).toNatClampNeg), .int (xs (i + 2 : Int32).toNatClampNeg), .int (xs (i + 1 : Int32).toNatClampNeg), .ref (E.2.2 1299)]) (rest := []) (mc := 0) (ms := 0) (f := 6) hF hV hS hA 4 hM9 w_1872 w_1873 w_1874 w_107 w_1875 (by decide +kernel) ⟨Nat.le_of_ble_eq_true rfl, Nat.le_of_ble_eq_true rfl⟩ dL_law_1197 rfl hl.1 rfl (Nat.le_of_ble_eq_true rfl) ⟨by omega, by omega⟩ (fun r6 v7 H locs h5 hV hS => ?_)
  have k8 : RM v7 := hM.q h5.1 (by decide) (by decide) h5.2
  have d9 : RD u3 v7 := hD.k (h1.1.1.1 13 (by decide)) (h1.1.1.1 8 (by decide)) (h1.1.1.1 9 (by decide)) (h5.1.1 1230 (by decide)) (h5.1.1 1232 (by decide)) (h5.1.1 1239 (by decide)) (h1.1.1.1 801 (by decide)) (h5.1.1 1202 (by decide)) (h1.1.1.1 10 (by decide)) (h5.1.1 1247 (by decide)) (h1.1.1.1 11 (by decide)) (h5.1.1 1256 (by decide)) (h1.1.1.1 14 (by decide)) (h5.1.1 1231 (by decide)) (h1.1.1.1 16 (by decide)) (h5.1.1 1245 (by decide)) (h1.1.1.1 17 (by decide)) (h5.1.1 1246 (by decide)) (RV.v (u := u3) (hD.2.2.2.2.2.2.2.2.2.fr h1.1.1 (by decide) (by decide) (by decide) (fun _ _ => rfl)) (fun n hn => h5.1.2.1 n (by revert n; decide)))
  refine lv_pop hx hb dL_law_1200 rfl ?_
  refine lv_goto (tgt := 1535) hx hb dL_law_1201 (by decide) ?_
  exact kk u3 v7 H locs ls _ _ (by omega) (by omega) hV hS k4 k8 d9 (lv_sub hl [0, 1, 2, 3, 4] rfl)
set_option maxHeartbeats 400000 in
set_option maxRecDepth 100000 in
theorem l_case20 {p : Program} {e : Env} {s : State} {m : MethodId} {below : List Frame} {meth : Method} {c : Code} (l : Launch) {b L : Nat} {xs : Nat → Int32} (C0 : lw_At p s m meth c b L xs) (hst : l.stackTraces = false) (E : qE) {o : Nat} (hX0 : qXs (fun q : Nat => s.heap.size ≤ q) s s.heap) (hZ0 : qZw (fun q : Nat => s.heap.size ≤ q) s s.heap) (hL : L ≤ 4096) {i : Int32} (h0 : 0 ≤ i.toInt) (h8 : i.toInt + 8 ≤ L) {u v : qS} {H : Heap} {locs : List Loc} {ls : Array Slot} {cells slots : Nat} (hc : cells + 2 ≤ room_1.cells) (hs : slots + 1004 ≤ room_1.slots) (hV : l_2 E (fun q : Nat => s.heap.size ≤ q) u v s H) (hS : va_S (fun q : Nat => s.heap.size ≤ q) s.heap H locs) (hC : RC E o u) (hM : RM v) (hD : RD u v) (hl : lv_has ls 7 [(4, .int i), (3, .ref o), (2, .ref (E.2.2 1299)), (1, .ref (E.2.2 1199)), (0, .ref b)])
    (kk : ∀ (u v : qS) (H : Heap) (locs : List Loc) (ls : Array Slot) (k n : Nat), k ≤ cells + 2 → n ≤ slots + 1004 → l_2 E (fun q : Nat => s.heap.size ≤ q) u v s H → va_S (fun q : Nat => s.heap.size ≤ q) s.heap H locs → RC E o u → RM v → RD u v → lv_has ls 7 [(4, .int i), (3, .ref o), (2, .ref (E.2.2 1299)), (1, .ref (E.2.2 1199)), (0, .ref b)] → W p l e room_1 s m #[Value.ref b] below meth c H locs k n (lw_Z below #[Value.ref b] s) (F0 m 1535 ls [])) : W p l e room_1 s m #[Value.ref b] below meth c H locs cells slots (lw_Z below #[Value.ref b] s) (F0 m 1204 ls []) := by
  obtain ⟨hx, hb, hr, hml, hown, hts, hX, hbl, hlocks, hgv⟩ := id C0
  have hF : qX p m c code 7 s #[Value.ref b] "SecretBuyersLaw" := ⟨hx, hb, hml, hown, fun w h => hts w (qw_in h)⟩
  have hA : ∀ q : Nat, s.heap.size ≤ q → (fun q : Nat => s.heap.size ≤ q) q := fun _ h => h
  have hbA : ¬ (fun q : Nat => s.heap.size ≤ q) b := Nat.not_le.mpr hbl
  refine lv_aload_n hx hb dL_law_1204 rfl (lv_at hl 3 rfl) ?_
  refine lv_aload_n hx hb dL_law_1205 rfl (lv_at hl 4 rfl) ?_
  refine lv_iload hx hb dL_law_1206 (lv_at hl 0 rfl) ?_
  refine lv_iconst (v := 1) hx hb dL_law_1208 (by decide) ?_
  refine lv_iadd hx hb dL_law_1209 ?_
  refine va_sld hx hb hX hbl hbA hS (l_in (k := 1) h0 h8 hL (by decide)) dL_law_1210 ?_
  refine lv_aload_n hx hb dL_law_1211 rfl (lv_at hl 4 rfl) ?_
  refine lv_iload hx hb dL_law_1212 (lv_at hl 0 rfl) ?_
  refine lv_iconst (v := 2) hx hb dL_law_1214 (by decide) ?_
  refine lv_iadd hx hb dL_law_1215 ?_
  refine va_sld hx hb hX hbl hbA hS (l_in (k := 2) h0 h8 hL (by decide)) dL_law_1216 ?_
  refine lv_aload_n hx hb dL_law_1217 rfl (lv_at hl 4 rfl) ?_
  refine lv_iload hx hb dL_law_1218 (lv_at hl 0 rfl) ?_
  refine lv_iconst (v := 3) hx hb dL_law_1220 (by decide) ?_
  refine lv_iadd hx hb dL_law_1221 ?_
  refine va_sld hx hb hX hbl hbA hS (l_in (k := 3) h0 h8 hL (by decide)) dL_law_1222 ?_
  refine lv_aload_n hx hb dL_law_1223 rfl (lv_at hl 4 rfl) ?_
  refine lv_iload hx hb dL_law_1224 (lv_at hl 0 rfl) ?_
  refine lv_iconst (v := 4) hx hb dL_law_1226 (by decide) ?_
  refine lv_iadd hx hb dL_law_1227 ?_
  refine va_sld hx hb hX hbl hbA hS (l_in (k := 4) h0 h8 hL (by decide)) dL_law_1228 ?_
  have hM9 := fun A' : Nat → Prop => g_X11_enough l E A' u (xs (i + 1 : Int32).toNatClampNeg) (xs (i + 2 : Int32).toNatClampNeg) (xs (i + 3 : Int32).toNatClampNeg) (xs (i + 4 : Int32).toNatClampNeg) hC.1
  refine l_callC2 (As := [.int (xs (i + 1 : Int32).toNatClampNeg), .int (xs (i + 2 : Int32).toNatClampNeg), .int (xs (i + 3 : Int32).toNatClampNeg), .int (xs (i + 4 : Int32).toNatClampNeg)]) (st0 := [.int (xs (i + 4 : Int32).toNatClampNeg), .int (xs (i + 3 : Int32).toNatClampNeg), .int (xs (i + 2 : Int32).toNatClampNeg), .int (xs (i + 1 : Int32).toNatClampNeg), .ref (E.2.2 1199)]) (rest := []) (mc := 0) (ms := 0) (f := 8) hF hV hS hA 4 hM9 w_1081 w_1082 w_1083 w_99 w_1084 (by decide +kernel) ⟨Nat.le_of_ble_eq_true rfl, Nat.le_of_ble_eq_true rfl⟩ dL_law_1229 rfl hl.1 rfl (Nat.le_of_ble_eq_true rfl) ⟨by omega, by omega⟩ (fun r2 u3 H locs h1 hV hS => ?_)
  have k4 : RC E o u3 := hC.f h1.1.1 h1.1.2
  refine lv_pop hx hb dL_law_1232 rfl ?_
  refine lv_aload_n hx hb dL_law_1233 rfl (lv_at hl 2 rfl) ?_
  refine lv_aload_n hx hb dL_law_1234 rfl (lv_at hl 4 rfl) ?_
  refine lv_iload hx hb dL_law_1235 (lv_at hl 0 rfl) ?_
  refine lv_iconst (v := 1) hx hb dL_law_1237 (by decide) ?_
  refine lv_iadd hx hb dL_law_1238 ?_
  refine va_sld hx hb hX hbl hbA hS (l_in (k := 1) h0 h8 hL (by decide)) dL_law_1239 ?_
  refine lv_aload_n hx hb dL_law_1240 rfl (lv_at hl 4 rfl) ?_
  refine lv_iload hx hb dL_law_1241 (lv_at hl 0 rfl) ?_
  refine lv_iconst (v := 2) hx hb dL_law_1243 (by decide) ?_
  refine lv_iadd hx hb dL_law_1244 ?_
  refine va_sld hx hb hX hbl hbA hS (l_in (k := 2) h0 h8 hL (by decide)) dL_law_1245 ?_
  refine lv_aload_n hx hb dL_law_1246 rfl (lv_at hl 4 rfl) ?_
  refine lv_iload hx hb dL_law_1247 (lv_at hl 0 rfl) ?_
  refine lv_iconst (v := 3) hx hb dL_law_1249 (by decide) ?_
  refine lv_iadd hx hb dL_law_1250 ?_
  refine va_sld hx hb hX hbl hbA hS (l_in (k := 3) h0 h8 hL (by decide)) dL_law_1251 ?_
  refine lv_aload_n hx hb dL_law_1252 rfl (lv_at hl 4 rfl) ?_
  refine lv_iload hx hb dL_law_1253 (lv_at hl 0 rfl) ?_
  refine lv_iconst (v := 4) hx hb dL_law_1255 (by decide) ?_
  refine lv_iadd hx hb dL_law_1256 ?_
  refine va_sld hx hb hX hbl hbA hS (l_in (k := 4) h0 h8 hL (by decide)) dL_law_1257 ?_
  have hM9 := fun A' : Nat → Prop => g_X12_enough l E A' v (xs (i + 1 : Int32).toNatClampNeg) (xs (i + 2 : Int32).toNatClampNeg) (xs (i + 3 : Int32).toNatClampNeg) (xs (i + 4 : Int32).toNatClampNeg) hM.1 hM.2.1
  refine l_callM2 (As := [.int (xs (i + 1 : Int32).toNatClampNeg), .int (xs (i + 2 : Int32).toNatClampNeg), .int (xs (i + 3 : Int32).toNatClampNeg), .int (xs (i + 4 : Int32).toNatClampNeg)]) (st0 := [.int (xs (i + 4 : Int32).toNatClampNeg), .int (xs (i + 3 : Int32).toNatClampNeg), .int (xs (i + 2 : Int32).toNatClampNeg), .int (xs (i + 1 : Int32).toNatClampNeg), .ref (E.2.2 1299)]) (rest := []) (mc := 0) (ms := 0) (f := 8) hF hV hS hA 4 hM9 w_1876 w_1877 w_1878 w_107 w_1879 (by decide +kernel) ⟨Nat.le_of_ble_eq_true rfl, Nat.le_of_ble_eq_true rfl⟩ dL_law_1258 rfl hl.1 rfl (Nat.le_of_ble_eq_true rfl) ⟨by omega, by omega⟩ (fun r6 v7 H locs h5 hV hS => ?_)
  have k8 : RM v7 := hM.q h5.1 (by decide) (by decide) h5.2
  have d9 : RD u3 v7 := hD.k (h1.1.1.1 13 (by decide)) (h1.1.1.1 8 (by decide)) (h1.1.1.1 9 (by decide)) (h5.1.1 1230 (by decide)) (h5.1.1 1232 (by decide)) (h5.1.1 1239 (by decide)) (h1.1.1.1 801 (by decide)) (h5.1.1 1202 (by decide)) (h1.1.1.1 10 (by decide)) (h5.1.1 1247 (by decide)) (h1.1.1.1 11 (by decide)) (h5.1.1 1256 (by decide)) (h1.1.1.1 14 (by decide)) (h5.1.1 1231 (by decide)) (h1.1.1.1 16 (by decide)) (h5.1.1 1245 (by decide)) (h1.1.1.1 17 (by decide)) (h5.1.1 1246 (by decide)) (RV.v (u := u3) (hD.2.2.2.2.2.2.2.2.2.fr h1.1.1 (by decide) (by decide) (by decide) (fun _ _ => rfl)) (fun n hn => h5.1.2.1 n (by revert n; decide)))
  refine lv_pop hx hb dL_law_1261 rfl ?_
  refine lv_goto (tgt := 1535) hx hb dL_law_1262 (by decide) ?_
  exact kk u3 v7 H locs ls _ _ (by omega) (by omega) hV hS k4 k8 d9 (lv_sub hl [0, 1, 2, 3, 4] rfl)
set_option maxHeartbeats 400000 in
set_option maxRecDepth 100000 in
theorem l_case21 {p : Program} {e : Env} {s : State} {m : MethodId} {below : List Frame} {meth : Method} {c : Code} (l : Launch) {b L : Nat} {xs : Nat → Int32} (C0 : lw_At p s m meth c b L xs) (hst : l.stackTraces = false) (E : qE) {o : Nat} (hX0 : qXs (fun q : Nat => s.heap.size ≤ q) s s.heap) (hZ0 : qZw (fun q : Nat => s.heap.size ≤ q) s s.heap) (hL : L ≤ 4096) {i : Int32} (h0 : 0 ≤ i.toInt) (h8 : i.toInt + 8 ≤ L) {u v : qS} {H : Heap} {locs : List Loc} {ls : Array Slot} {cells slots : Nat} (hc : cells + 2 ≤ room_1.cells) (hs : slots + 1004 ≤ room_1.slots) (hV : l_2 E (fun q : Nat => s.heap.size ≤ q) u v s H) (hS : va_S (fun q : Nat => s.heap.size ≤ q) s.heap H locs) (hC : RC E o u) (hM : RM v) (hD : RD u v) (hl : lv_has ls 7 [(4, .int i), (3, .ref o), (2, .ref (E.2.2 1299)), (1, .ref (E.2.2 1199)), (0, .ref b)])
    (kk : ∀ (u v : qS) (H : Heap) (locs : List Loc) (ls : Array Slot) (k n : Nat), k ≤ cells + 2 → n ≤ slots + 1004 → l_2 E (fun q : Nat => s.heap.size ≤ q) u v s H → va_S (fun q : Nat => s.heap.size ≤ q) s.heap H locs → RC E o u → RM v → RD u v → lv_has ls 7 [(4, .int i), (3, .ref o), (2, .ref (E.2.2 1299)), (1, .ref (E.2.2 1199)), (0, .ref b)] → W p l e room_1 s m #[Value.ref b] below meth c H locs k n (lw_Z below #[Value.ref b] s) (F0 m 1535 ls [])) : W p l e room_1 s m #[Value.ref b] below meth c H locs cells slots (lw_Z below #[Value.ref b] s) (F0 m 1265 ls []) := by
  obtain ⟨hx, hb, hr, hml, hown, hts, hX, hbl, hlocks, hgv⟩ := id C0
  have hF : qX p m c code 7 s #[Value.ref b] "SecretBuyersLaw" := ⟨hx, hb, hml, hown, fun w h => hts w (qw_in h)⟩
  have hA : ∀ q : Nat, s.heap.size ≤ q → (fun q : Nat => s.heap.size ≤ q) q := fun _ h => h
  have hbA : ¬ (fun q : Nat => s.heap.size ≤ q) b := Nat.not_le.mpr hbl
  refine lv_aload_n hx hb dL_law_1265 rfl (lv_at hl 3 rfl) ?_
  refine lv_aload_n hx hb dL_law_1266 rfl (lv_at hl 4 rfl) ?_
  refine lv_iload hx hb dL_law_1267 (lv_at hl 0 rfl) ?_
  refine lv_iconst (v := 1) hx hb dL_law_1269 (by decide) ?_
  refine lv_iadd hx hb dL_law_1270 ?_
  refine va_sld hx hb hX hbl hbA hS (l_in (k := 1) h0 h8 hL (by decide)) dL_law_1271 ?_
  refine lv_aload_n hx hb dL_law_1272 rfl (lv_at hl 4 rfl) ?_
  refine lv_iload hx hb dL_law_1273 (lv_at hl 0 rfl) ?_
  refine lv_iconst (v := 2) hx hb dL_law_1275 (by decide) ?_
  refine lv_iadd hx hb dL_law_1276 ?_
  refine va_sld hx hb hX hbl hbA hS (l_in (k := 2) h0 h8 hL (by decide)) dL_law_1277 ?_
  refine lv_aload_n hx hb dL_law_1278 rfl (lv_at hl 4 rfl) ?_
  refine lv_iload hx hb dL_law_1279 (lv_at hl 0 rfl) ?_
  refine lv_iconst (v := 3) hx hb dL_law_1281 (by decide) ?_
  refine lv_iadd hx hb dL_law_1282 ?_
  refine va_sld hx hb hX hbl hbA hS (l_in (k := 3) h0 h8 hL (by decide)) dL_law_1283 ?_
  have hDi := q_di hV.1
  have hM9 := fun A' : Nat → Prop => g_X11_may l E A' u (xs (i + 1 : Int32).toNatClampNeg) (xs (i + 2 : Int32).toNatClampNeg) (xs (i + 3 : Int32).toNatClampNeg) hC.1
  refine l_callC2 (As := [.int (xs (i + 1 : Int32).toNatClampNeg), .int (xs (i + 2 : Int32).toNatClampNeg), .int (xs (i + 3 : Int32).toNatClampNeg)]) (st0 := [.int (xs (i + 3 : Int32).toNatClampNeg), .int (xs (i + 2 : Int32).toNatClampNeg), .int (xs (i + 1 : Int32).toNatClampNeg), .ref (E.2.2 1199)]) (rest := []) (mc := 0) (ms := 0) (f := 5) hF hV hS hA 3 hM9 w_1087 w_1088 w_1089 w_99 w_1090 (by decide +kernel) ⟨Nat.le_of_ble_eq_true rfl, Nat.le_of_ble_eq_true rfl⟩ dL_law_1284 rfl hl.1 rfl (Nat.le_of_ble_eq_true rfl) ⟨by omega, by omega⟩ (fun r2 u3 H locs h1 hV hS => ?_)
  have k4 : RC E o u3 := by rw [h1.1]; exact hC
  refine lv_aload_n hx hb dL_law_1287 rfl (lv_at hl 2 rfl) ?_
  refine lv_aload_n hx hb dL_law_1288 rfl (lv_at hl 4 rfl) ?_
  refine lv_iload hx hb dL_law_1289 (lv_at hl 0 rfl) ?_
  refine lv_iconst (v := 1) hx hb dL_law_1291 (by decide) ?_
  refine lv_iadd hx hb dL_law_1292 ?_
  refine va_sld hx hb hX hbl hbA hS (l_in (k := 1) h0 h8 hL (by decide)) dL_law_1293 ?_
  refine lv_aload_n hx hb dL_law_1294 rfl (lv_at hl 4 rfl) ?_
  refine lv_iload hx hb dL_law_1295 (lv_at hl 0 rfl) ?_
  refine lv_iconst (v := 2) hx hb dL_law_1297 (by decide) ?_
  refine lv_iadd hx hb dL_law_1298 ?_
  refine va_sld hx hb hX hbl hbA hS (l_in (k := 2) h0 h8 hL (by decide)) dL_law_1299 ?_
  refine lv_aload_n hx hb dL_law_1300 rfl (lv_at hl 4 rfl) ?_
  refine lv_iload hx hb dL_law_1301 (lv_at hl 0 rfl) ?_
  refine lv_iconst (v := 3) hx hb dL_law_1303 (by decide) ?_
  refine lv_iadd hx hb dL_law_1304 ?_
  refine va_sld hx hb hX hbl hbA hS (l_in (k := 3) h0 h8 hL (by decide)) dL_law_1305 ?_
  have hM9 := fun A' : Nat → Prop => g_X12_may l E A' v (xs (i + 1 : Int32).toNatClampNeg) (xs (i + 2 : Int32).toNatClampNeg) (xs (i + 3 : Int32).toNatClampNeg) hM.1
  refine l_callM2 (As := [.int (xs (i + 1 : Int32).toNatClampNeg), .int (xs (i + 2 : Int32).toNatClampNeg), .int (xs (i + 3 : Int32).toNatClampNeg)]) (st0 := [.int (xs (i + 3 : Int32).toNatClampNeg), .int (xs (i + 2 : Int32).toNatClampNeg), .int (xs (i + 1 : Int32).toNatClampNeg), .ref (E.2.2 1299), .int r2]) (rest := [.int r2]) (mc := 0) (ms := 0) (f := 3) hF hV hS hA 3 hM9 w_1880 w_1881 w_1882 w_107 w_1883 (by decide +kernel) ⟨Nat.le_of_ble_eq_true rfl, Nat.le_of_ble_eq_true rfl⟩ dL_law_1306 rfl hl.1 rfl (Nat.le_of_ble_eq_true rfl) ⟨by omega, by omega⟩ (fun r6 v7 H locs h5 hV hS => ?_)
  have k8 : RM v7 := hM.n h5.1 (by decide) (by decide)
  have d9 : RD u3 v7 := hD.k (by rw [h1.1]) (by rw [h1.1]) (by rw [h1.1]) (h5.1.1 1230 (by decide)) (h5.1.1 1232 (by decide)) (h5.1.1 1239 (by decide)) (by rw [h1.1]) (h5.1.1 1202 (by decide)) (by rw [h1.1]) (h5.1.1 1247 (by decide)) (by rw [h1.1]) (h5.1.1 1256 (by decide)) (by rw [h1.1]) (h5.1.1 1231 (by decide)) (by rw [h1.1]) (h5.1.1 1245 (by decide)) (by rw [h1.1]) (h5.1.1 1246 (by decide)) (RV.v (u := u3) (by rw [h1.1]; exact hD.2.2.2.2.2.2.2.2.2) (fun n hn => h5.1.2.1 n (by revert n; decide)))
  refine lv_icmp_eq (tgt := 1535) hx hb dL_law_1309 (by decide) (fun _ => ?_) (fun hneq => absurd (l_may hD.2.2.2.2.2.2.2.2.2 hDi hM.1 hD.1 hD.2.1 hD.2.2.1 hD.2.2.2.2.1 hD.2.2.2.2.2.2.1 hD.2.2.2.2.2.2.2.1 hD.2.2.2.2.2.2.2.2.1 h1.2 h5.2) hneq)
  exact kk u3 v7 H locs ls _ _ (by omega) (by omega) hV hS k4 k8 d9 (lv_sub hl [0, 1, 2, 3, 4] rfl)
set_option maxHeartbeats 400000 in
set_option maxRecDepth 100000 in
theorem l_case22 {p : Program} {e : Env} {s : State} {m : MethodId} {below : List Frame} {meth : Method} {c : Code} (l : Launch) {b L : Nat} {xs : Nat → Int32} (C0 : lw_At p s m meth c b L xs) (hst : l.stackTraces = false) (E : qE) {o : Nat} (hX0 : qXs (fun q : Nat => s.heap.size ≤ q) s s.heap) (hZ0 : qZw (fun q : Nat => s.heap.size ≤ q) s s.heap) (hL : L ≤ 4096) {i : Int32} (h0 : 0 ≤ i.toInt) (h8 : i.toInt + 8 ≤ L) {u v : qS} {H : Heap} {locs : List Loc} {ls : Array Slot} {cells slots : Nat} (hc : cells + 2 ≤ room_1.cells) (hs : slots + 1004 ≤ room_1.slots) (hV : l_2 E (fun q : Nat => s.heap.size ≤ q) u v s H) (hS : va_S (fun q : Nat => s.heap.size ≤ q) s.heap H locs) (hC : RC E o u) (hM : RM v) (hD : RD u v) (hl : lv_has ls 7 [(4, .int i), (3, .ref o), (2, .ref (E.2.2 1299)), (1, .ref (E.2.2 1199)), (0, .ref b)])
    (kk : ∀ (u v : qS) (H : Heap) (locs : List Loc) (ls : Array Slot) (k n : Nat), k ≤ cells + 2 → n ≤ slots + 1004 → l_2 E (fun q : Nat => s.heap.size ≤ q) u v s H → va_S (fun q : Nat => s.heap.size ≤ q) s.heap H locs → RC E o u → RM v → RD u v → lv_has ls 7 [(4, .int i), (3, .ref o), (2, .ref (E.2.2 1299)), (1, .ref (E.2.2 1199)), (0, .ref b)] → W p l e room_1 s m #[Value.ref b] below meth c H locs k n (lw_Z below #[Value.ref b] s) (F0 m 1535 ls [])) : W p l e room_1 s m #[Value.ref b] below meth c H locs cells slots (lw_Z below #[Value.ref b] s) (F0 m 1314 ls []) := by
  obtain ⟨hx, hb, hr, hml, hown, hts, hX, hbl, hlocks, hgv⟩ := id C0
  have hF : qX p m c code 7 s #[Value.ref b] "SecretBuyersLaw" := ⟨hx, hb, hml, hown, fun w h => hts w (qw_in h)⟩
  have hA : ∀ q : Nat, s.heap.size ≤ q → (fun q : Nat => s.heap.size ≤ q) q := fun _ h => h
  have hbA : ¬ (fun q : Nat => s.heap.size ≤ q) b := Nat.not_le.mpr hbl
  refine lv_aload_n hx hb dL_law_1314 rfl (lv_at hl 3 rfl) ?_
  refine lv_aload_n hx hb dL_law_1315 rfl (lv_at hl 4 rfl) ?_
  refine lv_iload hx hb dL_law_1316 (lv_at hl 0 rfl) ?_
  refine lv_iconst (v := 1) hx hb dL_law_1318 (by decide) ?_
  refine lv_iadd hx hb dL_law_1319 ?_
  refine va_sld hx hb hX hbl hbA hS (l_in (k := 1) h0 h8 hL (by decide)) dL_law_1320 ?_
  refine lv_aload_n hx hb dL_law_1321 rfl (lv_at hl 4 rfl) ?_
  refine lv_iload hx hb dL_law_1322 (lv_at hl 0 rfl) ?_
  refine lv_iconst (v := 2) hx hb dL_law_1324 (by decide) ?_
  refine lv_iadd hx hb dL_law_1325 ?_
  refine va_sld hx hb hX hbl hbA hS (l_in (k := 2) h0 h8 hL (by decide)) dL_law_1326 ?_
  refine lv_aload_n hx hb dL_law_1327 rfl (lv_at hl 4 rfl) ?_
  refine lv_iload hx hb dL_law_1328 (lv_at hl 0 rfl) ?_
  refine lv_iconst (v := 3) hx hb dL_law_1330 (by decide) ?_
  refine lv_iadd hx hb dL_law_1331 ?_
  refine va_sld hx hb hX hbl hbA hS (l_in (k := 3) h0 h8 hL (by decide)) dL_law_1332 ?_
  have hM9 := fun A' : Nat → Prop => g_X11_given l E A' u (xs (i + 1 : Int32).toNatClampNeg) (xs (i + 2 : Int32).toNatClampNeg) (xs (i + 3 : Int32).toNatClampNeg) hC.1
  refine l_callC2 (As := [.int (xs (i + 1 : Int32).toNatClampNeg), .int (xs (i + 2 : Int32).toNatClampNeg), .int (xs (i + 3 : Int32).toNatClampNeg)]) (st0 := [.int (xs (i + 3 : Int32).toNatClampNeg), .int (xs (i + 2 : Int32).toNatClampNeg), .int (xs (i + 1 : Int32).toNatClampNeg), .ref (E.2.2 1199)]) (rest := []) (mc := 0) (ms := 0) (f := 7) hF hV hS hA 3 hM9 w_1105 w_1106 w_1107 w_99 w_1108 (by decide +kernel) ⟨Nat.le_of_ble_eq_true rfl, Nat.le_of_ble_eq_true rfl⟩ dL_law_1333 rfl hl.1 rfl (Nat.le_of_ble_eq_true rfl) ⟨by omega, by omega⟩ (fun r2 u3 H locs h1 hV hS => ?_)
  have k4 : RC E o u3 := hC.f h1.1.1 h1.1.2
  refine lv_pop hx hb dL_law_1336 rfl ?_
  refine lv_aload_n hx hb dL_law_1337 rfl (lv_at hl 2 rfl) ?_
  refine lv_aload_n hx hb dL_law_1338 rfl (lv_at hl 4 rfl) ?_
  refine lv_iload hx hb dL_law_1339 (lv_at hl 0 rfl) ?_
  refine lv_iconst (v := 1) hx hb dL_law_1341 (by decide) ?_
  refine lv_iadd hx hb dL_law_1342 ?_
  refine va_sld hx hb hX hbl hbA hS (l_in (k := 1) h0 h8 hL (by decide)) dL_law_1343 ?_
  refine lv_aload_n hx hb dL_law_1344 rfl (lv_at hl 4 rfl) ?_
  refine lv_iload hx hb dL_law_1345 (lv_at hl 0 rfl) ?_
  refine lv_iconst (v := 2) hx hb dL_law_1347 (by decide) ?_
  refine lv_iadd hx hb dL_law_1348 ?_
  refine va_sld hx hb hX hbl hbA hS (l_in (k := 2) h0 h8 hL (by decide)) dL_law_1349 ?_
  refine lv_aload_n hx hb dL_law_1350 rfl (lv_at hl 4 rfl) ?_
  refine lv_iload hx hb dL_law_1351 (lv_at hl 0 rfl) ?_
  refine lv_iconst (v := 3) hx hb dL_law_1353 (by decide) ?_
  refine lv_iadd hx hb dL_law_1354 ?_
  refine va_sld hx hb hX hbl hbA hS (l_in (k := 3) h0 h8 hL (by decide)) dL_law_1355 ?_
  have hM9 := fun A' : Nat → Prop => g_X12_given l E A' v (xs (i + 1 : Int32).toNatClampNeg) (xs (i + 2 : Int32).toNatClampNeg) (xs (i + 3 : Int32).toNatClampNeg) hM.1
  refine l_callM2 (As := [.int (xs (i + 1 : Int32).toNatClampNeg), .int (xs (i + 2 : Int32).toNatClampNeg), .int (xs (i + 3 : Int32).toNatClampNeg)]) (st0 := [.int (xs (i + 3 : Int32).toNatClampNeg), .int (xs (i + 2 : Int32).toNatClampNeg), .int (xs (i + 1 : Int32).toNatClampNeg), .ref (E.2.2 1299)]) (rest := []) (mc := 0) (ms := 0) (f := 4) hF hV hS hA 3 hM9 w_1888 w_1889 w_1890 w_107 w_1891 (by decide +kernel) ⟨Nat.le_of_ble_eq_true rfl, Nat.le_of_ble_eq_true rfl⟩ dL_law_1356 rfl hl.1 rfl (Nat.le_of_ble_eq_true rfl) ⟨by omega, by omega⟩ (fun r6 v7 H locs h5 hV hS => ?_)
  have k8 : RM v7 := hM.n h5.1 (by decide) (by decide)
  have d9 : RD u3 v7 := hD.k (h1.1.1.1 13 (by decide)) (h1.1.1.1 8 (by decide)) (h1.1.1.1 9 (by decide)) (h5.1.1 1230 (by decide)) (h5.1.1 1232 (by decide)) (h5.1.1 1239 (by decide)) (h1.1.1.1 801 (by decide)) (h5.1.1 1202 (by decide)) (h1.1.1.1 10 (by decide)) (h5.1.1 1247 (by decide)) (h1.1.1.1 11 (by decide)) (h5.1.1 1256 (by decide)) (h1.1.1.1 14 (by decide)) (h5.1.1 1231 (by decide)) (h1.1.1.1 16 (by decide)) (h5.1.1 1245 (by decide)) (h1.1.1.1 17 (by decide)) (h5.1.1 1246 (by decide)) (RV.v (u := u3) (hD.2.2.2.2.2.2.2.2.2.fr h1.1.1 (by decide) (by decide) (by decide) (fun _ _ => rfl)) (fun n hn => h5.1.2.1 n (by revert n; decide)))
  refine lv_pop hx hb dL_law_1359 rfl ?_
  refine lv_goto (tgt := 1535) hx hb dL_law_1360 (by decide) ?_
  exact kk u3 v7 H locs ls _ _ (by omega) (by omega) hV hS k4 k8 d9 (lv_sub hl [0, 1, 2, 3, 4] rfl)
set_option maxHeartbeats 400000 in
set_option maxRecDepth 100000 in
theorem l_case23 {p : Program} {e : Env} {s : State} {m : MethodId} {below : List Frame} {meth : Method} {c : Code} (l : Launch) {b L : Nat} {xs : Nat → Int32} (C0 : lw_At p s m meth c b L xs) (hst : l.stackTraces = false) (E : qE) {o : Nat} (hX0 : qXs (fun q : Nat => s.heap.size ≤ q) s s.heap) (hZ0 : qZw (fun q : Nat => s.heap.size ≤ q) s s.heap) (hL : L ≤ 4096) {i : Int32} (h0 : 0 ≤ i.toInt) (h8 : i.toInt + 8 ≤ L) {u v : qS} {H : Heap} {locs : List Loc} {ls : Array Slot} {cells slots : Nat} (hc : cells + 2 ≤ room_1.cells) (hs : slots + 1004 ≤ room_1.slots) (hV : l_2 E (fun q : Nat => s.heap.size ≤ q) u v s H) (hS : va_S (fun q : Nat => s.heap.size ≤ q) s.heap H locs) (hC : RC E o u) (hM : RM v) (hD : RD u v) (hl : lv_has ls 7 [(4, .int i), (3, .ref o), (2, .ref (E.2.2 1299)), (1, .ref (E.2.2 1199)), (0, .ref b)])
    (kk : ∀ (u v : qS) (H : Heap) (locs : List Loc) (ls : Array Slot) (k n : Nat), k ≤ cells + 2 → n ≤ slots + 1004 → l_2 E (fun q : Nat => s.heap.size ≤ q) u v s H → va_S (fun q : Nat => s.heap.size ≤ q) s.heap H locs → RC E o u → RM v → RD u v → lv_has ls 7 [(4, .int i), (3, .ref o), (2, .ref (E.2.2 1299)), (1, .ref (E.2.2 1199)), (0, .ref b)] → W p l e room_1 s m #[Value.ref b] below meth c H locs k n (lw_Z below #[Value.ref b] s) (F0 m 1535 ls [])) : W p l e room_1 s m #[Value.ref b] below meth c H locs cells slots (lw_Z below #[Value.ref b] s) (F0 m 1363 ls []) := by
  obtain ⟨hx, hb, hr, hml, hown, hts, hX, hbl, hlocks, hgv⟩ := id C0
  have hF : qX p m c code 7 s #[Value.ref b] "SecretBuyersLaw" := ⟨hx, hb, hml, hown, fun w h => hts w (qw_in h)⟩
  have hA : ∀ q : Nat, s.heap.size ≤ q → (fun q : Nat => s.heap.size ≤ q) q := fun _ h => h
  have hbA : ¬ (fun q : Nat => s.heap.size ≤ q) b := Nat.not_le.mpr hbl
  refine lv_aload_n hx hb dL_law_1363 rfl (lv_at hl 3 rfl) ?_
  refine lv_aload_n hx hb dL_law_1364 rfl (lv_at hl 4 rfl) ?_
  refine lv_iload hx hb dL_law_1365 (lv_at hl 0 rfl) ?_
  refine lv_iconst (v := 1) hx hb dL_law_1367 (by decide) ?_
  refine lv_iadd hx hb dL_law_1368 ?_
  refine va_sld hx hb hX hbl hbA hS (l_in (k := 1) h0 h8 hL (by decide)) dL_law_1369 ?_
  refine lv_aload_n hx hb dL_law_1370 rfl (lv_at hl 4 rfl) ?_
  refine lv_iload hx hb dL_law_1371 (lv_at hl 0 rfl) ?_
  refine lv_iconst (v := 2) hx hb dL_law_1373 (by decide) ?_
  refine lv_iadd hx hb dL_law_1374 ?_
  refine va_sld hx hb hX hbl hbA hS (l_in (k := 2) h0 h8 hL (by decide)) dL_law_1375 ?_
  refine lv_aload_n hx hb dL_law_1376 rfl (lv_at hl 4 rfl) ?_
  refine lv_iload hx hb dL_law_1377 (lv_at hl 0 rfl) ?_
  refine lv_iconst (v := 3) hx hb dL_law_1379 (by decide) ?_
  refine lv_iadd hx hb dL_law_1380 ?_
  refine va_sld hx hb hX hbl hbA hS (l_in (k := 3) h0 h8 hL (by decide)) dL_law_1381 ?_
  have hM9 := fun A' : Nat → Prop => g_X11_drawn l E A' u (xs (i + 1 : Int32).toNatClampNeg) (xs (i + 2 : Int32).toNatClampNeg) (xs (i + 3 : Int32).toNatClampNeg) hC.1
  refine l_callC2 (As := [.int (xs (i + 1 : Int32).toNatClampNeg), .int (xs (i + 2 : Int32).toNatClampNeg), .int (xs (i + 3 : Int32).toNatClampNeg)]) (st0 := [.int (xs (i + 3 : Int32).toNatClampNeg), .int (xs (i + 2 : Int32).toNatClampNeg), .int (xs (i + 1 : Int32).toNatClampNeg), .ref (E.2.2 1199)]) (rest := []) (mc := 0) (ms := 0) (f := 3) hF hV hS hA 3 hM9 w_1146 w_1147 w_1148 w_99 w_1149 (by decide +kernel) ⟨Nat.le_of_ble_eq_true rfl, Nat.le_of_ble_eq_true rfl⟩ dL_law_1382 rfl hl.1 rfl (Nat.le_of_ble_eq_true rfl) ⟨by omega, by omega⟩ (fun r2 u3 H locs h1 hV hS => ?_)
  have k4 : RC E o u3 := by rw [h1.1]; exact hC
  refine lv_pop hx hb dL_law_1385 rfl ?_
  refine lv_aload_n hx hb dL_law_1386 rfl (lv_at hl 2 rfl) ?_
  refine lv_aload_n hx hb dL_law_1387 rfl (lv_at hl 4 rfl) ?_
  refine lv_iload hx hb dL_law_1388 (lv_at hl 0 rfl) ?_
  refine lv_iconst (v := 1) hx hb dL_law_1390 (by decide) ?_
  refine lv_iadd hx hb dL_law_1391 ?_
  refine va_sld hx hb hX hbl hbA hS (l_in (k := 1) h0 h8 hL (by decide)) dL_law_1392 ?_
  refine lv_aload_n hx hb dL_law_1393 rfl (lv_at hl 4 rfl) ?_
  refine lv_iload hx hb dL_law_1394 (lv_at hl 0 rfl) ?_
  refine lv_iconst (v := 2) hx hb dL_law_1396 (by decide) ?_
  refine lv_iadd hx hb dL_law_1397 ?_
  refine va_sld hx hb hX hbl hbA hS (l_in (k := 2) h0 h8 hL (by decide)) dL_law_1398 ?_
  refine lv_aload_n hx hb dL_law_1399 rfl (lv_at hl 4 rfl) ?_
  refine lv_iload hx hb dL_law_1400 (lv_at hl 0 rfl) ?_
  refine lv_iconst (v := 3) hx hb dL_law_1402 (by decide) ?_
  refine lv_iadd hx hb dL_law_1403 ?_
  refine va_sld hx hb hX hbl hbA hS (l_in (k := 3) h0 h8 hL (by decide)) dL_law_1404 ?_
  have hM9 := fun A' : Nat → Prop => g_X12_drawn l E A' v (xs (i + 1 : Int32).toNatClampNeg) (xs (i + 2 : Int32).toNatClampNeg) (xs (i + 3 : Int32).toNatClampNeg) hM.1
  refine l_callM2 (As := [.int (xs (i + 1 : Int32).toNatClampNeg), .int (xs (i + 2 : Int32).toNatClampNeg), .int (xs (i + 3 : Int32).toNatClampNeg)]) (st0 := [.int (xs (i + 3 : Int32).toNatClampNeg), .int (xs (i + 2 : Int32).toNatClampNeg), .int (xs (i + 1 : Int32).toNatClampNeg), .ref (E.2.2 1299)]) (rest := []) (mc := 0) (ms := 0) (f := 3) hF hV hS hA 3 hM9 w_1905 w_1906 w_1907 w_107 w_1908 (by decide +kernel) ⟨Nat.le_of_ble_eq_true rfl, Nat.le_of_ble_eq_true rfl⟩ dL_law_1405 rfl hl.1 rfl (Nat.le_of_ble_eq_true rfl) ⟨by omega, by omega⟩ (fun r6 v7 H locs h5 hV hS => ?_)
  have k8 : RM v7 := hM.n h5.1 (by decide) (by decide)
  have d9 : RD u3 v7 := hD.k (by rw [h1.1]) (by rw [h1.1]) (by rw [h1.1]) (h5.1.1 1230 (by decide)) (h5.1.1 1232 (by decide)) (h5.1.1 1239 (by decide)) (by rw [h1.1]) (h5.1.1 1202 (by decide)) (by rw [h1.1]) (h5.1.1 1247 (by decide)) (by rw [h1.1]) (h5.1.1 1256 (by decide)) (by rw [h1.1]) (h5.1.1 1231 (by decide)) (by rw [h1.1]) (h5.1.1 1245 (by decide)) (by rw [h1.1]) (h5.1.1 1246 (by decide)) (RV.v (u := u3) (by rw [h1.1]; exact hD.2.2.2.2.2.2.2.2.2) (fun n hn => h5.1.2.1 n (by revert n; decide)))
  refine lv_pop hx hb dL_law_1408 rfl ?_
  refine lv_goto (tgt := 1535) hx hb dL_law_1409 (by decide) ?_
  exact kk u3 v7 H locs ls _ _ (by omega) (by omega) hV hS k4 k8 d9 (lv_sub hl [0, 1, 2, 3, 4] rfl)
set_option maxHeartbeats 400000 in
set_option maxRecDepth 100000 in
theorem l_case24 {p : Program} {e : Env} {s : State} {m : MethodId} {below : List Frame} {meth : Method} {c : Code} (l : Launch) {b L : Nat} {xs : Nat → Int32} (C0 : lw_At p s m meth c b L xs) (hst : l.stackTraces = false) (E : qE) {o : Nat} (hX0 : qXs (fun q : Nat => s.heap.size ≤ q) s s.heap) (hZ0 : qZw (fun q : Nat => s.heap.size ≤ q) s s.heap) (hL : L ≤ 4096) {i : Int32} (h0 : 0 ≤ i.toInt) (h8 : i.toInt + 8 ≤ L) {u v : qS} {H : Heap} {locs : List Loc} {ls : Array Slot} {cells slots : Nat} (hc : cells + 2 ≤ room_1.cells) (hs : slots + 1004 ≤ room_1.slots) (hV : l_2 E (fun q : Nat => s.heap.size ≤ q) u v s H) (hS : va_S (fun q : Nat => s.heap.size ≤ q) s.heap H locs) (hC : RC E o u) (hM : RM v) (hD : RD u v) (hl : lv_has ls 7 [(4, .int i), (3, .ref o), (2, .ref (E.2.2 1299)), (1, .ref (E.2.2 1199)), (0, .ref b)])
    (kk : ∀ (u v : qS) (H : Heap) (locs : List Loc) (ls : Array Slot) (k n : Nat), k ≤ cells + 2 → n ≤ slots + 1004 → l_2 E (fun q : Nat => s.heap.size ≤ q) u v s H → va_S (fun q : Nat => s.heap.size ≤ q) s.heap H locs → RC E o u → RM v → RD u v → lv_has ls 7 [(4, .int i), (3, .ref o), (2, .ref (E.2.2 1299)), (1, .ref (E.2.2 1199)), (0, .ref b)] → W p l e room_1 s m #[Value.ref b] below meth c H locs k n (lw_Z below #[Value.ref b] s) (F0 m 1535 ls [])) : W p l e room_1 s m #[Value.ref b] below meth c H locs cells slots (lw_Z below #[Value.ref b] s) (F0 m 1412 ls []) := by
  obtain ⟨hx, hb, hr, hml, hown, hts, hX, hbl, hlocks, hgv⟩ := id C0
  have hF : qX p m c code 7 s #[Value.ref b] "SecretBuyersLaw" := ⟨hx, hb, hml, hown, fun w h => hts w (qw_in h)⟩
  have hA : ∀ q : Nat, s.heap.size ≤ q → (fun q : Nat => s.heap.size ≤ q) q := fun _ h => h
  have hbA : ¬ (fun q : Nat => s.heap.size ≤ q) b := Nat.not_le.mpr hbl
  refine lv_aload_n hx hb dL_law_1412 rfl (lv_at hl 3 rfl) ?_
  refine lv_aload_n hx hb dL_law_1413 rfl (lv_at hl 4 rfl) ?_
  refine lv_iload hx hb dL_law_1414 (lv_at hl 0 rfl) ?_
  refine lv_iconst (v := 1) hx hb dL_law_1416 (by decide) ?_
  refine lv_iadd hx hb dL_law_1417 ?_
  refine va_sld hx hb hX hbl hbA hS (l_in (k := 1) h0 h8 hL (by decide)) dL_law_1418 ?_
  refine lv_aload_n hx hb dL_law_1419 rfl (lv_at hl 4 rfl) ?_
  refine lv_iload hx hb dL_law_1420 (lv_at hl 0 rfl) ?_
  refine lv_iconst (v := 2) hx hb dL_law_1422 (by decide) ?_
  refine lv_iadd hx hb dL_law_1423 ?_
  refine va_sld hx hb hX hbl hbA hS (l_in (k := 2) h0 h8 hL (by decide)) dL_law_1424 ?_
  have hM9 := fun A' : Nat → Prop => g_X11_sway l E A' u (xs (i + 1 : Int32).toNatClampNeg) (xs (i + 2 : Int32).toNatClampNeg) hC.1
  refine l_callC2 (As := [.int (xs (i + 1 : Int32).toNatClampNeg), .int (xs (i + 2 : Int32).toNatClampNeg)]) (st0 := [.int (xs (i + 2 : Int32).toNatClampNeg), .int (xs (i + 1 : Int32).toNatClampNeg), .ref (E.2.2 1199)]) (rest := []) (mc := 0) (ms := 0) (f := 6) hF hV hS hA 2 hM9 w_1158 w_1159 w_1160 w_99 w_1161 (by decide +kernel) ⟨Nat.le_of_ble_eq_true rfl, Nat.le_of_ble_eq_true rfl⟩ dL_law_1425 rfl hl.1 rfl (Nat.le_of_ble_eq_true rfl) ⟨by omega, by omega⟩ (fun r2 u3 H locs h1 hV hS => ?_)
  have k4 : RC E o u3 := hC.f h1.1.1 h1.1.2
  refine lv_pop hx hb dL_law_1428 rfl ?_
  refine lv_aload_n hx hb dL_law_1429 rfl (lv_at hl 2 rfl) ?_
  refine lv_aload_n hx hb dL_law_1430 rfl (lv_at hl 4 rfl) ?_
  refine lv_iload hx hb dL_law_1431 (lv_at hl 0 rfl) ?_
  refine lv_iconst (v := 1) hx hb dL_law_1433 (by decide) ?_
  refine lv_iadd hx hb dL_law_1434 ?_
  refine va_sld hx hb hX hbl hbA hS (l_in (k := 1) h0 h8 hL (by decide)) dL_law_1435 ?_
  refine lv_aload_n hx hb dL_law_1436 rfl (lv_at hl 4 rfl) ?_
  refine lv_iload hx hb dL_law_1437 (lv_at hl 0 rfl) ?_
  refine lv_iconst (v := 2) hx hb dL_law_1439 (by decide) ?_
  refine lv_iadd hx hb dL_law_1440 ?_
  refine va_sld hx hb hX hbl hbA hS (l_in (k := 2) h0 h8 hL (by decide)) dL_law_1441 ?_
  have hM9 := fun A' : Nat → Prop => g_X12_sway l E A' v (xs (i + 1 : Int32).toNatClampNeg) (xs (i + 2 : Int32).toNatClampNeg) hM.1 hM.2.1
  refine l_callM2 (As := [.int (xs (i + 1 : Int32).toNatClampNeg), .int (xs (i + 2 : Int32).toNatClampNeg)]) (st0 := [.int (xs (i + 2 : Int32).toNatClampNeg), .int (xs (i + 1 : Int32).toNatClampNeg), .ref (E.2.2 1299)]) (rest := []) (mc := 0) (ms := 0) (f := 4) hF hV hS hA 2 hM9 w_1913 w_1914 w_1915 w_107 w_1916 (by decide +kernel) ⟨Nat.le_of_ble_eq_true rfl, Nat.le_of_ble_eq_true rfl⟩ dL_law_1442 rfl hl.1 rfl (Nat.le_of_ble_eq_true rfl) ⟨by omega, by omega⟩ (fun r6 v7 H locs h5 hV hS => ?_)
  have k8 : RM v7 := hM.q h5.1 (by decide) (by decide) h5.2
  have d9 : RD u3 v7 := hD.k (h1.1.1.1 13 (by decide)) (h1.1.1.1 8 (by decide)) (h1.1.1.1 9 (by decide)) (h5.1.1 1230 (by decide)) (h5.1.1 1232 (by decide)) (h5.1.1 1239 (by decide)) (h1.1.1.1 801 (by decide)) (h5.1.1 1202 (by decide)) (h1.1.1.1 10 (by decide)) (h5.1.1 1247 (by decide)) (h1.1.1.1 11 (by decide)) (h5.1.1 1256 (by decide)) (h1.1.1.1 14 (by decide)) (h5.1.1 1231 (by decide)) (h1.1.1.1 16 (by decide)) (h5.1.1 1245 (by decide)) (h1.1.1.1 17 (by decide)) (h5.1.1 1246 (by decide)) (RV.v (u := u3) (hD.2.2.2.2.2.2.2.2.2.fr h1.1.1 (by decide) (by decide) (by decide) (fun _ _ => rfl)) (fun n hn => h5.1.2.1 n (by revert n; decide)))
  refine lv_pop hx hb dL_law_1445 rfl ?_
  refine lv_goto (tgt := 1535) hx hb dL_law_1446 (by decide) ?_
  exact kk u3 v7 H locs ls _ _ (by omega) (by omega) hV hS k4 k8 d9 (lv_sub hl [0, 1, 2, 3, 4] rfl)
set_option maxHeartbeats 400000 in
set_option maxRecDepth 100000 in
theorem l_case25 {p : Program} {e : Env} {s : State} {m : MethodId} {below : List Frame} {meth : Method} {c : Code} (l : Launch) {b L : Nat} {xs : Nat → Int32} (C0 : lw_At p s m meth c b L xs) (hst : l.stackTraces = false) (E : qE) {o : Nat} (hX0 : qXs (fun q : Nat => s.heap.size ≤ q) s s.heap) (hZ0 : qZw (fun q : Nat => s.heap.size ≤ q) s s.heap) (hL : L ≤ 4096) {i : Int32} (h0 : 0 ≤ i.toInt) (h8 : i.toInt + 8 ≤ L) {u v : qS} {H : Heap} {locs : List Loc} {ls : Array Slot} {cells slots : Nat} (hc : cells + 2 ≤ room_1.cells) (hs : slots + 1004 ≤ room_1.slots) (hV : l_2 E (fun q : Nat => s.heap.size ≤ q) u v s H) (hS : va_S (fun q : Nat => s.heap.size ≤ q) s.heap H locs) (hC : RC E o u) (hM : RM v) (hD : RD u v) (hl : lv_has ls 7 [(4, .int i), (3, .ref o), (2, .ref (E.2.2 1299)), (1, .ref (E.2.2 1199)), (0, .ref b)])
    (kk : ∀ (u v : qS) (H : Heap) (locs : List Loc) (ls : Array Slot) (k n : Nat), k ≤ cells + 2 → n ≤ slots + 1004 → l_2 E (fun q : Nat => s.heap.size ≤ q) u v s H → va_S (fun q : Nat => s.heap.size ≤ q) s.heap H locs → RC E o u → RM v → RD u v → lv_has ls 7 [(4, .int i), (3, .ref o), (2, .ref (E.2.2 1299)), (1, .ref (E.2.2 1199)), (0, .ref b)] → W p l e room_1 s m #[Value.ref b] below meth c H locs k n (lw_Z below #[Value.ref b] s) (F0 m 1535 ls [])) : W p l e room_1 s m #[Value.ref b] below meth c H locs cells slots (lw_Z below #[Value.ref b] s) (F0 m 1449 ls []) := by
  obtain ⟨hx, hb, hr, hml, hown, hts, hX, hbl, hlocks, hgv⟩ := id C0
  have hF : qX p m c code 7 s #[Value.ref b] "SecretBuyersLaw" := ⟨hx, hb, hml, hown, fun w h => hts w (qw_in h)⟩
  have hA : ∀ q : Nat, s.heap.size ≤ q → (fun q : Nat => s.heap.size ≤ q) q := fun _ h => h
  have hbA : ¬ (fun q : Nat => s.heap.size ≤ q) b := Nat.not_le.mpr hbl
  refine lv_aload_n hx hb dL_law_1449 rfl (lv_at hl 3 rfl) ?_
  refine lv_aload_n hx hb dL_law_1450 rfl (lv_at hl 4 rfl) ?_
  refine lv_iload hx hb dL_law_1451 (lv_at hl 0 rfl) ?_
  refine lv_iconst (v := 1) hx hb dL_law_1453 (by decide) ?_
  refine lv_iadd hx hb dL_law_1454 ?_
  refine va_sld hx hb hX hbl hbA hS (l_in (k := 1) h0 h8 hL (by decide)) dL_law_1455 ?_
  refine lv_aload_n hx hb dL_law_1456 rfl (lv_at hl 4 rfl) ?_
  refine lv_iload hx hb dL_law_1457 (lv_at hl 0 rfl) ?_
  refine lv_iconst (v := 2) hx hb dL_law_1459 (by decide) ?_
  refine lv_iadd hx hb dL_law_1460 ?_
  refine va_sld hx hb hX hbl hbA hS (l_in (k := 2) h0 h8 hL (by decide)) dL_law_1461 ?_
  refine lv_aload_n hx hb dL_law_1462 rfl (lv_at hl 4 rfl) ?_
  refine lv_iload hx hb dL_law_1463 (lv_at hl 0 rfl) ?_
  refine lv_iconst (v := 3) hx hb dL_law_1465 (by decide) ?_
  refine lv_iadd hx hb dL_law_1466 ?_
  refine va_sld hx hb hX hbl hbA hS (l_in (k := 3) h0 h8 hL (by decide)) dL_law_1467 ?_
  refine lv_aload_n hx hb dL_law_1468 rfl (lv_at hl 4 rfl) ?_
  refine lv_iload hx hb dL_law_1469 (lv_at hl 0 rfl) ?_
  refine lv_iconst (v := 4) hx hb dL_law_1471 (by decide) ?_
  refine lv_iadd hx hb dL_law_1472 ?_
  refine va_sld hx hb hX hbl hbA hS (l_in (k := 4) h0 h8 hL (by decide)) dL_law_1473 ?_
  have hM9 := fun A' : Nat → Prop => g_X11_sum l E A' u (xs (i + 1 : Int32).toNatClampNeg) (xs (i + 2 : Int32).toNatClampNeg) (xs (i + 3 : Int32).toNatClampNeg) (xs (i + 4 : Int32).toNatClampNeg) hC.1
  refine l_callC2 (As := [.int (xs (i + 1 : Int32).toNatClampNeg), .int (xs (i + 2 : Int32).toNatClampNeg), .int (xs (i + 3 : Int32).toNatClampNeg), .int (xs (i + 4 : Int32).toNatClampNeg)]) (st0 := [.int (xs (i + 4 : Int32).toNatClampNeg), .int (xs (i + 3 : Int32).toNatClampNeg), .int (xs (i + 2 : Int32).toNatClampNeg), .int (xs (i + 1 : Int32).toNatClampNeg), .ref (E.2.2 1199)]) (rest := []) (mc := 0) (ms := 0) (f := 8) hF hV hS hA 4 hM9 w_1167 w_1168 w_1169 w_99 w_1170 (by decide +kernel) ⟨Nat.le_of_ble_eq_true rfl, Nat.le_of_ble_eq_true rfl⟩ dL_law_1474 rfl hl.1 rfl (Nat.le_of_ble_eq_true rfl) ⟨by omega, by omega⟩ (fun r2 u3 H locs h1 hV hS => ?_)
  have k4 : RC E o u3 := hC.f h1.1.1 h1.1.2
  refine lv_pop hx hb dL_law_1477 rfl ?_
  refine lv_aload_n hx hb dL_law_1478 rfl (lv_at hl 2 rfl) ?_
  refine lv_aload_n hx hb dL_law_1479 rfl (lv_at hl 4 rfl) ?_
  refine lv_iload hx hb dL_law_1480 (lv_at hl 0 rfl) ?_
  refine lv_iconst (v := 1) hx hb dL_law_1482 (by decide) ?_
  refine lv_iadd hx hb dL_law_1483 ?_
  refine va_sld hx hb hX hbl hbA hS (l_in (k := 1) h0 h8 hL (by decide)) dL_law_1484 ?_
  refine lv_aload_n hx hb dL_law_1485 rfl (lv_at hl 4 rfl) ?_
  refine lv_iload hx hb dL_law_1486 (lv_at hl 0 rfl) ?_
  refine lv_iconst (v := 2) hx hb dL_law_1488 (by decide) ?_
  refine lv_iadd hx hb dL_law_1489 ?_
  refine va_sld hx hb hX hbl hbA hS (l_in (k := 2) h0 h8 hL (by decide)) dL_law_1490 ?_
  refine lv_aload_n hx hb dL_law_1491 rfl (lv_at hl 4 rfl) ?_
  refine lv_iload hx hb dL_law_1492 (lv_at hl 0 rfl) ?_
  refine lv_iconst (v := 3) hx hb dL_law_1494 (by decide) ?_
  refine lv_iadd hx hb dL_law_1495 ?_
  refine va_sld hx hb hX hbl hbA hS (l_in (k := 3) h0 h8 hL (by decide)) dL_law_1496 ?_
  refine lv_aload_n hx hb dL_law_1497 rfl (lv_at hl 4 rfl) ?_
  refine lv_iload hx hb dL_law_1498 (lv_at hl 0 rfl) ?_
  refine lv_iconst (v := 4) hx hb dL_law_1500 (by decide) ?_
  refine lv_iadd hx hb dL_law_1501 ?_
  refine va_sld hx hb hX hbl hbA hS (l_in (k := 4) h0 h8 hL (by decide)) dL_law_1502 ?_
  have hM9 := fun A' : Nat → Prop => g_X12_sum l E A' v (xs (i + 1 : Int32).toNatClampNeg) (xs (i + 2 : Int32).toNatClampNeg) (xs (i + 3 : Int32).toNatClampNeg) (xs (i + 4 : Int32).toNatClampNeg) hM.1 hM.2.1
  refine l_callM2 (As := [.int (xs (i + 1 : Int32).toNatClampNeg), .int (xs (i + 2 : Int32).toNatClampNeg), .int (xs (i + 3 : Int32).toNatClampNeg), .int (xs (i + 4 : Int32).toNatClampNeg)]) (st0 := [.int (xs (i + 4 : Int32).toNatClampNeg), .int (xs (i + 3 : Int32).toNatClampNeg), .int (xs (i + 2 : Int32).toNatClampNeg), .int (xs (i + 1 : Int32).toNatClampNeg), .ref (E.2.2 1299)]) (rest := []) (mc := 0) (ms := 0) (f := 4) hF hV hS hA 4 hM9 w_1917 w_1918 w_1919 w_107 w_1920 (by decide +kernel) ⟨Nat.le_of_ble_eq_true rfl, Nat.le_of_ble_eq_true rfl⟩ dL_law_1503 rfl hl.1 rfl (Nat.le_of_ble_eq_true rfl) ⟨by omega, by omega⟩ (fun r6 v7 H locs h5 hV hS => ?_)
  have k8 : RM v7 := hM.q h5.1 (by decide) (by decide) h5.2
  have d9 : RD u3 v7 := hD.k (h1.1.1.1 13 (by decide)) (h1.1.1.1 8 (by decide)) (h1.1.1.1 9 (by decide)) (h5.1.1 1230 (by decide)) (h5.1.1 1232 (by decide)) (h5.1.1 1239 (by decide)) (h1.1.1.1 801 (by decide)) (h5.1.1 1202 (by decide)) (h1.1.1.1 10 (by decide)) (h5.1.1 1247 (by decide)) (h1.1.1.1 11 (by decide)) (h5.1.1 1256 (by decide)) (h1.1.1.1 14 (by decide)) (h5.1.1 1231 (by decide)) (h1.1.1.1 16 (by decide)) (h5.1.1 1245 (by decide)) (h1.1.1.1 17 (by decide)) (h5.1.1 1246 (by decide)) (RV.v (u := u3) (hD.2.2.2.2.2.2.2.2.2.fr h1.1.1 (by decide) (by decide) (by decide) (fun _ _ => rfl)) (fun n hn => h5.1.2.1 n (by revert n; decide)))
  refine lv_pop hx hb dL_law_1506 rfl ?_
  refine lv_goto (tgt := 1535) hx hb dL_law_1507 (by decide) ?_
  exact kk u3 v7 H locs ls _ _ (by omega) (by omega) hV hS k4 k8 d9 (lv_sub hl [0, 1, 2, 3, 4] rfl)
set_option maxHeartbeats 400000 in
set_option maxRecDepth 100000 in
theorem l_case26 {p : Program} {e : Env} {s : State} {m : MethodId} {below : List Frame} {meth : Method} {c : Code} (l : Launch) {b L : Nat} {xs : Nat → Int32} (C0 : lw_At p s m meth c b L xs) (hst : l.stackTraces = false) (E : qE) {o : Nat} (hX0 : qXs (fun q : Nat => s.heap.size ≤ q) s s.heap) (hZ0 : qZw (fun q : Nat => s.heap.size ≤ q) s s.heap) (hL : L ≤ 4096) {i : Int32} (h0 : 0 ≤ i.toInt) (h8 : i.toInt + 8 ≤ L) {u v : qS} {H : Heap} {locs : List Loc} {ls : Array Slot} {cells slots : Nat} (hc : cells + 2 ≤ room_1.cells) (hs : slots + 1004 ≤ room_1.slots) (hV : l_2 E (fun q : Nat => s.heap.size ≤ q) u v s H) (hS : va_S (fun q : Nat => s.heap.size ≤ q) s.heap H locs) (hC : RC E o u) (hM : RM v) (hD : RD u v) (hl : lv_has ls 7 [(4, .int i), (3, .ref o), (2, .ref (E.2.2 1299)), (1, .ref (E.2.2 1199)), (0, .ref b)])
    (kk : ∀ (u v : qS) (H : Heap) (locs : List Loc) (ls : Array Slot) (k n : Nat), k ≤ cells + 2 → n ≤ slots + 1004 → l_2 E (fun q : Nat => s.heap.size ≤ q) u v s H → va_S (fun q : Nat => s.heap.size ≤ q) s.heap H locs → RC E o u → RM v → RD u v → lv_has ls 7 [(4, .int i), (3, .ref o), (2, .ref (E.2.2 1299)), (1, .ref (E.2.2 1199)), (0, .ref b)] → W p l e room_1 s m #[Value.ref b] below meth c H locs k n (lw_Z below #[Value.ref b] s) (F0 m 1535 ls [])) : W p l e room_1 s m #[Value.ref b] below meth c H locs cells slots (lw_Z below #[Value.ref b] s) (F0 m 1510 ls []) := by
  obtain ⟨hx, hb, hr, hml, hown, hts, hX, hbl, hlocks, hgv⟩ := id C0
  have hF : qX p m c code 7 s #[Value.ref b] "SecretBuyersLaw" := ⟨hx, hb, hml, hown, fun w h => hts w (qw_in h)⟩
  have hA : ∀ q : Nat, s.heap.size ≤ q → (fun q : Nat => s.heap.size ≤ q) q := fun _ h => h
  have hbA : ¬ (fun q : Nat => s.heap.size ≤ q) b := Nat.not_le.mpr hbl
  refine lv_aload_n hx hb dL_law_1510 rfl (lv_at hl 3 rfl) ?_
  refine lv_aload_n hx hb dL_law_1511 rfl (lv_at hl 4 rfl) ?_
  refine lv_iload hx hb dL_law_1512 (lv_at hl 0 rfl) ?_
  refine lv_iconst (v := 1) hx hb dL_law_1514 (by decide) ?_
  refine lv_iadd hx hb dL_law_1515 ?_
  refine va_sld hx hb hX hbl hbA hS (l_in (k := 1) h0 h8 hL (by decide)) dL_law_1516 ?_
  have hM9 := fun A' : Nat → Prop => g_X11_count l E A' u (xs (i + 1 : Int32).toNatClampNeg) hC.1
  refine l_callC2 (As := [.int (xs (i + 1 : Int32).toNatClampNeg)]) (st0 := [.int (xs (i + 1 : Int32).toNatClampNeg), .ref (E.2.2 1199)]) (rest := []) (mc := 0) (ms := 0) (f := 8) hF hV hS hA 1 hM9 w_1182 w_1183 w_1184 w_99 w_1185 (by decide +kernel) ⟨Nat.le_of_ble_eq_true rfl, Nat.le_of_ble_eq_true rfl⟩ dL_law_1517 rfl hl.1 rfl (Nat.le_of_ble_eq_true rfl) ⟨by omega, by omega⟩ (fun r2 u3 H locs h1 hV hS => ?_)
  have k4 : RC E o u3 := hC.f h1.1.1 h1.1.2
  refine lv_pop hx hb dL_law_1520 rfl ?_
  refine lv_aload_n hx hb dL_law_1521 rfl (lv_at hl 2 rfl) ?_
  refine lv_aload_n hx hb dL_law_1522 rfl (lv_at hl 4 rfl) ?_
  refine lv_iload hx hb dL_law_1523 (lv_at hl 0 rfl) ?_
  refine lv_iconst (v := 1) hx hb dL_law_1525 (by decide) ?_
  refine lv_iadd hx hb dL_law_1526 ?_
  refine va_sld hx hb hX hbl hbA hS (l_in (k := 1) h0 h8 hL (by decide)) dL_law_1527 ?_
  have hM9 := fun A' : Nat → Prop => g_X12_count l E A' v (xs (i + 1 : Int32).toNatClampNeg) hM.1 hM.2.1
  refine l_callM2 (As := [.int (xs (i + 1 : Int32).toNatClampNeg)]) (st0 := [.int (xs (i + 1 : Int32).toNatClampNeg), .ref (E.2.2 1299)]) (rest := []) (mc := 0) (ms := 0) (f := 4) hF hV hS hA 1 hM9 w_1921 w_1922 w_1923 w_107 w_1924 (by decide +kernel) ⟨Nat.le_of_ble_eq_true rfl, Nat.le_of_ble_eq_true rfl⟩ dL_law_1528 rfl hl.1 rfl (Nat.le_of_ble_eq_true rfl) ⟨by omega, by omega⟩ (fun r6 v7 H locs h5 hV hS => ?_)
  have k8 : RM v7 := hM.q h5.1 (by decide) (by decide) h5.2
  have d9 : RD u3 v7 := hD.k (h1.1.1.1 13 (by decide)) (h1.1.1.1 8 (by decide)) (h1.1.1.1 9 (by decide)) (h5.1.1 1230 (by decide)) (h5.1.1 1232 (by decide)) (h5.1.1 1239 (by decide)) (h1.1.1.1 801 (by decide)) (h5.1.1 1202 (by decide)) (h1.1.1.1 10 (by decide)) (h5.1.1 1247 (by decide)) (h1.1.1.1 11 (by decide)) (h5.1.1 1256 (by decide)) (h1.1.1.1 14 (by decide)) (h5.1.1 1231 (by decide)) (h1.1.1.1 16 (by decide)) (h5.1.1 1245 (by decide)) (h1.1.1.1 17 (by decide)) (h5.1.1 1246 (by decide)) (RV.v (u := u3) (hD.2.2.2.2.2.2.2.2.2.fr h1.1.1 (by decide) (by decide) (by decide) (fun _ _ => rfl)) (fun n hn => h5.1.2.1 n (by revert n; decide)))
  refine lv_pop hx hb dL_law_1531 rfl ?_
  refine lv_goto (tgt := 1535) hx hb dL_law_1532 (by decide) ?_
  exact kk u3 v7 H locs ls _ _ (by omega) (by omega) hV hS k4 k8 d9 (lv_sub hl [0, 1, 2, 3, 4] rfl)
