theorem w_known {args : Array Value} {s : State} (hts : ∀ w ∈ qw_tbl, w.before args s = true) : ∃ (dC : Nat → ClassId) (dI : Nat → Nat → Nat), ∀ (k : Nat) (q : vw_C), vwCl[k]? = some q → u_Kn s q.1 q.2.1 q.2.2 (dC k) (dI k) := by
  obtain ⟨c0, i0, h0⟩ := u_known (C := RX0) (T := TX0) (N := 19) (n := 19) hts inX0 (hts (.instantiable RX0 19) w_129)
  obtain ⟨c1, i1, h1⟩ := u_known (C := RX1) (T := TX1) (N := 4) (n := 4) hts inX1 (hts (.instantiable RX1 4) w_793)
  obtain ⟨c2, i2, h2⟩ := u_known (C := RX2) (T := TX2) (N := 5) (n := 5) hts inX2 (hts (.instantiable RX2 5) w_415)
  obtain ⟨c3, i3, h3⟩ := u_known (C := RX3) (T := TX3) (N := 12) (n := 12) hts inX3 (hts (.instantiable RX3 12) w_372)
  obtain ⟨c4, i4, h4⟩ := u_known (C := RX4) (T := TX4) (N := 2) (n := 2) hts inX4 (hts (.instantiable RX4 2) w_503)
  obtain ⟨c5, i5, h5⟩ := u_known (C := RX5) (T := TX5) (N := 6) (n := 6) hts inX5 (hts (.instantiable RX5 6) w_267)
  obtain ⟨c6, i6, h6⟩ := u_known (C := RX6) (T := TX6) (N := 10) (n := 10) hts inX6 (hts (.instantiable RX6 10) w_335)
  obtain ⟨c7, i7, h7⟩ := u_known (C := RX7) (T := TX7) (N := 5) (n := 5) hts inX7 (hts (.instantiable RX7 5) w_501)
  obtain ⟨c8, i8, h8⟩ := u_known (C := RX8) (T := TX8) (N := 7) (n := 7) hts inX8 (hts (.instantiable RX8 7) w_233)
  obtain ⟨c9, i9, h9⟩ := u_known (C := RX9) (T := TX9) (N := 10) (n := 10) hts inX9 (hts (.instantiable RX9 10) w_293)
  obtain ⟨c10, i10, h10⟩ := u_known (C := RX10) (T := TX10) (N := 15) (n := 15) hts inX10 (hts (.instantiable RX10 15) w_577)
  obtain ⟨c11, i11, h11⟩ := u_known (C := RX11) (T := TX11) (N := 9) (n := 9) hts inX11 (hts (.instantiable RX11 9) w_121)
  obtain ⟨c12, i12, h12⟩ := u_known (C := RX12) (T := TX12) (N := 81) (n := 81) hts inX12 (hts (.instantiable RX12 81) w_1306)
  refine ⟨fun k => [c0, c1, c2, c3, c4, c5, c6, c7, c8, c9, c10, c11, c12].getD k c0, fun k => [i0, i1, i2, i3, i4, i5, i6, i7, i8, i9, i10, i11, i12].getD k i0, ?_⟩
  intro k q hq
  match k, hq with
  | 0, hq => cases hq; exact h0
  | 1, hq => cases hq; exact h1
  | 2, hq => cases hq; exact h2
  | 3, hq => cases hq; exact h3
  | 4, hq => cases hq; exact h4
  | 5, hq => cases hq; exact h5
  | 6, hq => cases hq; exact h6
  | 7, hq => cases hq; exact h7
  | 8, hq => cases hq; exact h8
  | 9, hq => cases hq; exact h9
  | 10, hq => cases hq; exact h10
  | 11, hq => cases hq; exact h11
  | 12, hq => cases hq; exact h12
  | k + 13, hq => simp [vwCl] at hq

theorem w_kinds {args : Array Value} {s : State} (hts : ∀ w ∈ lw_tbl, w.before args s = true) : ∃ ka : Nat → ClassId, ∀ (D : va_G) (ad : Nat → Nat) (k : Nat) (q : ClassId × FieldType), (qT (D, ka, ad))[k]? = some q → ArrOfT s q.1 q.2 ∧ va_RA s q.1 q.2 := by
  obtain ⟨a0, b0, p0, x0, y0, z0⟩ := Cond.arrayClass_spec (hts _ (qw_in w_231))
  obtain ⟨a1, b1, p1, x1, y1, z1⟩ := Cond.arrayClass_spec (hts _ (qw_in w_333))
  obtain ⟨a2, b2, p2, x2, y2, z2⟩ := Cond.arrayClass_spec (hts _ (qw_in w_265))
  obtain ⟨a3, b3, p3, x3, y3, z3⟩ := Cond.arrayClass_spec (hts _ (qw_in w_291))
  obtain ⟨p4, a4, b4, f4, -, y4, z4, x4⟩ := Cond.arrayOver_spec (hts _ w_135)
  obtain ⟨p5, a5, b5, f5, -, y5, z5, x5⟩ := Cond.arrayOver_spec (hts _ w_137)
  obtain ⟨p6, a6, b6, f6, -, y6, z6, x6⟩ := Cond.arrayOver_spec (hts _ w_139)
  obtain ⟨p7, a7, b7, f7, -, y7, z7, x7⟩ := Cond.arrayOver_spec (hts _ w_141)
  refine ⟨fun k => [a0, a1, a2, a3, a4, a5, a6, a7].getD k a0, ?_⟩
  intro D ad k q hq
  match k, hq with
  | 0, hq => cases hq; exact ⟨fun n z => ⟨fun k h => (by cases h), b0, y0, p0, z0⟩, x0⟩
  | 1, hq => cases hq; exact ⟨fun n z => ⟨fun k h => (by cases h), b1, y1, p1, z1⟩, x1⟩
  | 2, hq => cases hq; exact ⟨fun n z => ⟨fun k h => (by cases h), b2, y2, p2, z2⟩, x2⟩
  | 3, hq => cases hq; exact ⟨fun n z => ⟨fun k h => (by cases h), b3, y3, p3, z3⟩, x3⟩
  | 4, hq => cases hq; exact ⟨fun n z => ⟨fun k h => (by cases h), b4, y4, p4, z4⟩, b4, p4, y4, z4, f4, x4⟩
  | 5, hq => cases hq; exact ⟨fun n z => ⟨fun k h => (by cases h), b5, y5, p5, z5⟩, b5, p5, y5, z5, f5, x5⟩
  | 6, hq => cases hq; exact ⟨fun n z => ⟨fun k h => (by cases h), b6, y6, p6, z6⟩, b6, p6, y6, z6, f6, x6⟩
  | 7, hq => cases hq; exact ⟨fun n z => ⟨fun k h => (by cases h), b7, y7, p7, z7⟩, b7, p7, y7, z7, f7, x7⟩
  | k + 8, hq => simp [qT] at hq

theorem l_words {args : Array Value} {s : State} (hl : (Cond.laysStatic "SecretBuyers" "WORDS" "[J").before args s = true) (hini : (Cond.initialized "SecretBuyers").before args s = true) (harr : (Cond.arrayOf (.static "SecretBuyers" "WORDS" "[J") .long).before args s = true) (hlen : (Cond.eq (.length (.static "SecretBuyers" "WORDS" "[J")) (.int 15)).before args s = true)
    (e0 : (Cond.eq (.elem (.static "SecretBuyers" "WORDS" "[J") (.int 0)) (.long 7103860)).before args s = true)
    (e1 : (Cond.eq (.elem (.static "SecretBuyers" "WORDS" "[J") (.int 1)) (.long 6382692)).before args s = true)
    (e2 : (Cond.eq (.elem (.static "SecretBuyers" "WORDS" "[J") (.int 2)) (.long 2003330414)).before args s = true)
    (e3 : (Cond.eq (.elem (.static "SecretBuyers" "WORDS" "[J") (.int 3)) (.long 1836413812)).before args s = true)
    (e4 : (Cond.eq (.elem (.static "SecretBuyers" "WORDS" "[J") (.int 4)) (.long 422776305011)).before args s = true)
    (e5 : (Cond.eq (.elem (.static "SecretBuyers" "WORDS" "[J") (.int 5)) (.long 6385252)).before args s = true)
    (e6 : (Cond.eq (.elem (.static "SecretBuyers" "WORDS" "[J") (.int 6)) (.long 28530)).before args s = true)
    (e7 : (Cond.eq (.elem (.static "SecretBuyers" "WORDS" "[J") (.int 7)) (.long 1769235821)).before args s = true)
    (e8 : (Cond.eq (.elem (.static "SecretBuyers" "WORDS" "[J") (.int 8)) (.long 6384748)).before args s = true)
    (e9 : (Cond.eq (.elem (.static "SecretBuyers" "WORDS" "[J") (.int 9)) (.long 30796695599342963)).before args s = true)
    (e10 : (Cond.eq (.elem (.static "SecretBuyers" "WORDS" "[J") (.int 10)) (.long 1752135026)).before args s = true)
    (e11 : (Cond.eq (.elem (.static "SecretBuyers" "WORDS" "[J") (.int 11)) (.long 32199624922591348)).before args s = true)
    (e12 : (Cond.eq (.elem (.static "SecretBuyers" "WORDS" "[J") (.int 12)) (.long 2003133803)).before args s = true)
    (e13 : (Cond.eq (.elem (.static "SecretBuyers" "WORDS" "[J") (.int 13)) (.long 108187649798757)).before args s = true)
    (e14 : (Cond.eq (.elem (.static "SecretBuyers" "WORDS" "[J") (.int 14)) (.long 7237492)).before args s = true)
    : qZw (fun q : Nat => s.heap.size ≤ q) s s.heap := by
  have hA0 : ∀ a : Nat, a < s.heap.size → ¬ (fun q : Nat => s.heap.size ≤ q) a := fun a h => Nat.not_le.mpr h
  obtain ⟨t, ht, hT⟩ := va_Tof (N := 15) (f := fun j => .long (([7103860, 6382692, 2003330414, 1836413812, 422776305011, 6385252, 28530, 1769235821, 6384748, 30796695599342963, 1752135026, 32199624922591348, 2003133803, 108187649798757, 7237492] : List Int64).getD j 0)) (A := fun q : Nat => s.heap.size ≤ q) (by decide) harr (va_eqt hlen) (fun j hj => by
    match j, hj with
    | 0, _ => exact va_eqtl e0
    | 1, _ => exact va_eqtl e1
    | 2, _ => exact va_eqtl e2
    | 3, _ => exact va_eqtl e3
    | 4, _ => exact va_eqtl e4
    | 5, _ => exact va_eqtl e5
    | 6, _ => exact va_eqtl e6
    | 7, _ => exact va_eqtl e7
    | 8, _ => exact va_eqtl e8
    | 9, _ => exact va_eqtl e9
    | 10, _ => exact va_eqtl e10
    | 11, _ => exact va_eqtl e11
    | 12, _ => exact va_eqtl e12
    | 13, _ => exact va_eqtl e13
    | 14, _ => exact va_eqtl e14
    | j + 15, hj => exact absurd hj (by omega)) hA0
  exact ⟨t, _, va_Zof hl hini ht hA0, hT⟩

theorem l_freshC {E : qE} {u : qS} {o : Nat} (h : u.2.2.2.2 = [(o, .inl (E.2.1 3, 1, .inr (.inl (fun _ => 0))))]) (h8 : u.1 8 = 0) (h9 : u.1 9 = 0) (h10 : u.1 10 = 0) (h11 : u.1 11 = 0) (h12 : u.1 12 = 0) (h13 : u.1 13 = 0) (h801 : u.1 801 = 0) (h908 : u.1 908 = 0) : RC E o u := by
  have no : ∀ i : Int32, 0 ≤ i → i < 0 → False := fun i a b => absurd (Int32.lt_of_le_of_lt a b) Int32.lt_irrefl
  refine ⟨⟨?_, ?_, ?_⟩, 0, fun _ => 0, by rw [h]; rfl⟩
  · unfold CN; rw [h8, h9, h10, h11, h12, h13, h801, h908]; decide
  · intro k a c fs hk
    rw [h] at hk
    match k, hk with
    | 0, hk => injection hk with hk; injection hk with _ hk; cases hk
    | k + 1, hk => simp at hk
  · unfold CR; rw [h8, h9, h10, h11, h12, h908]
    exact ⟨fun i a b => (no i a b).elim, fun i a b => (no i a b).elim, fun i a b => (no i a b).elim, fun i a b => (no i a b).elim, fun i a b => (no i a b).elim, fun i a b => (no i a b).elim, fun i a b => (no i a b).elim⟩
theorem l_freshM {v : qS} (h1 : v.1 1202 = 0) (h2 : v.1 1210 = 0) (h3 : v.1 1230 = 0) (h4 : v.1 1232 = 0) (h5 : v.1 1239 = 0) (h6 : 0 ≤ v.1 1244 ∧ v.1 1244 ≤ 1000) (h7 : v.1 1247 = 0) (h8 : v.1 1256 = 0) (hw : IW v) (hs : v.2.1 1262 = fun _ => 0) : RM v := by
  have no : ∀ i : Int32, 0 ≤ i → i < 0 → False := fun i a b => absurd (Int32.lt_of_le_of_lt a b) Int32.lt_irrefl
  refine ⟨⟨?_, ?_, ?_, hw⟩, ?_, ?_⟩
  · unfold IN; rw [h1, h2, h3, h4, h5, h7, h8]; exact ⟨by decide, by decide, by decide, by decide, by decide, h6, by decide, by decide⟩
  · unfold IV; rw [h4, h5, h7, h8]
    exact ⟨fun i a b => (no i a b).elim, fun i a b => (no i a b).elim, fun b d => Nat.zero_le _⟩
  · unfold g_BW; rw [h2]; exact fun i a b => (no i a b).elim
  · rw [hs]; intro i a b; exact ⟨(by decide : (0 : Int) ≤ (0 : Int32).toInt), (by decide : (0 : Int32).toInt < 1001)⟩
  · unfold g_IB; rw [h2]; intro b hb; exact absurd hb (Nat.not_lt_zero _)

set_option maxRecDepth 100000 in
theorem l_go {p : Program} {e : Env} {s : State} {m : MethodId} {below : List Frame} {meth : Method} {c : Code} (l : Launch) {b L : Nat} {xs : Nat → Int32} (hL : L ≤ 4096) (C0 : lw_At p s m meth c b L xs) (hst : l.stackTraces = false) (E : qE) (u v : qS) {H : Heap} {locs : List Loc} {ls : Array Slot} {o : Nat} (hK : va_K E.1 vwCl (qT E) s) (hN : qNs s) (hX0 : qXs (fun q : Nat => s.heap.size ≤ q) s s.heap) (hZ0 : qZw (fun q : Nat => s.heap.size ≤ q) s s.heap) (hP : va_P E.1 vwCl (qW E 0 u ++ qW E 1 v) H) (hD : va_D (fun q : Nat => s.heap.size ≤ q) (qW E 0 u ++ qW E 1 v)) (hS : va_S (fun q : Nat => s.heap.size ≤ q) s.heap H locs) (hl : lv_has ls 7 [(4, .int 0), (3, .ref o), (2, .ref (E.2.2 1299)), (1, .ref (E.2.2 1199)), (0, .ref b)]) (hC : RC E o u) (hM : RM v) (hR : RD u v) : W p l e room_1 s m #[Value.ref b] below meth c H locs 92 111496 (lw_Z below #[Value.ref b] s) (F0 m 23 ls []) := by
  have hV : l_2 E (fun q : Nat => s.heap.size ≤ q) u v s H := ⟨⟨hK, l_left hP, l_dl hD, hN⟩, ⟨hK, l_right hP, l_dr hD, hN⟩, fun i j a b ha hb he => by
    have h1 : (qW E 0 u ++ qW E 1 v)[i]? = some a := by rw [List.getElem?_append_left (List.getElem?_eq_some_iff.mp ha).1]; exact ha
    have h2 : (qW E 0 u ++ qW E 1 v)[(qW E 0 u).length + j]? = some b := by rw [List.getElem?_append_right (Nat.le_add_right _ _), Nat.add_sub_cancel_left]; exact hb
    have h3 := hD.1 i _ a b h1 h2 he
    have := (List.getElem?_eq_some_iff.mp ha).1
    omega⟩
  exact l_loop l C0 hst E hX0 hZ0 hL 512 (i := 0) (by decide) (show (L : Int) < 0 + 8 * ((512 : Nat) + 1) by omega) (Nat.le_of_ble_eq_true rfl) (Nat.le_of_ble_eq_true rfl) hV hS hC hM hR hl
