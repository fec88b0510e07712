/-! a buyer's day in the order of time, and the sets by the order of numbers -/
/-- the order of time, as the class has it -/
def t_ord (k : qS) (P : Nat → Int32) : Prop := (∀ i : Nat, i < (k.1 1247).toNatClampNeg → 0 ≤ (P i).toInt ∧ (P i).toInt < (k.1 1247).toInt) ∧ (∀ x : Int32, 0 ≤ x.toInt → x.toInt < (k.1 1247).toInt → ∃ i : Nat, i < (k.1 1247).toNatClampNeg ∧ P i = x) ∧ ∀ i j : Nat, i < j → j < (k.1 1247).toNatClampNeg → (k.2.1 1250 (P i).toNatClampNeg).toInt < (k.2.1 1250 (P j).toNatClampNeg).toInt ∨ ((k.2.1 1250 (P i).toNatClampNeg).toInt = (k.2.1 1250 (P j).toNatClampNeg).toInt ∧ ((k.2.1 1251 (P i).toNatClampNeg).toInt < (k.2.1 1251 (P j).toNatClampNeg).toInt ∨ ((k.2.1 1251 (P i).toNatClampNeg).toInt = (k.2.1 1251 (P j).toNatClampNeg).toInt ∧ (P i).toInt < (P j).toInt)))
/-- how far what k tells goes -/
def t_bd (k : qS) : Prop := (∀ i : Nat, i < (k.1 1247).toNatClampNeg → (0 ≤ (k.2.1 1248 i).toInt ∧ (k.2.1 1248 i).toInt < (k.1 1232).toInt) ∧ (0 ≤ (k.2.1 1249 i).toInt ∧ (k.2.1 1249 i).toInt < (k.1 1239).toInt) ∧ (0 ≤ (k.2.1 1250 i).toInt ∧ (k.2.1 1250 i).toInt ≤ 9999) ∧ (0 ≤ (k.2.1 1251 i).toInt ∧ (k.2.1 1251 i).toInt ≤ 1439) ∧ (1 ≤ (k.2.1 1252 i).toInt ∧ (k.2.1 1252 i).toInt ≤ 300) ∧ -1 ≤ (k.2.1 1254 i).toInt) ∧ (∀ i : Nat, i < (k.1 1232).toNatClampNeg → (0 ≤ (k.2.1 1233 i).toInt ∧ (k.2.1 1233 i).toInt ≤ 99) ∧ (0 ≤ (k.2.1 1234 i).toInt ∧ (k.2.1 1234 i).toInt ≤ 99)) ∧ (1 ≤ (k.1 1242).toInt ∧ (k.1 1242).toInt ≤ 60) ∧ (0 ≤ (k.1 1247).toInt ∧ (k.1 1247).toInt ≤ 120) ∧ (0 ≤ (k.1 1232).toInt ∧ (k.1 1232).toInt ≤ 20) ∧ ∀ b d : Int32, g_ct (k.2.1 1249) (k.2.1 1250) b d (k.1 1247).toNatClampNeg ≤ 12
def t_wi (a b c d : Int) : Int := (if c ≤ a then a - c else c - a) + (if d ≤ b then b - d else d - b)
theorem t_wi_tri {a b c d e f : Int} : t_wi a b e f ≤ t_wi a b c d + t_wi c d e f := by
  unfold t_wi; (repeat' split) <;> omega
theorem t_wi_0 {a b c d : Int} : 0 ≤ t_wi a b c d := by
  unfold t_wi; (repeat' split) <;> omega
theorem t_wi_le {a b c d : Int} (ha : 0 ≤ a ∧ a ≤ 99) (hb : 0 ≤ b ∧ b ≤ 99) (hc : 0 ≤ c ∧ c ≤ 99) (hd : 0 ≤ d ∧ d ≤ 99) : t_wi a b c d ≤ 198 := by
  unfold t_wi; (repeat' split) <;> omega
theorem t_ab {x v : Int32} (hx : 0 ≤ x.toInt ∧ x.toInt ≤ 9999) (hv : 0 ≤ v.toInt ∧ v.toInt ≤ 9999) : (if v ≤ x then x - v else v - x).toInt = (if v.toInt ≤ x.toInt then x.toInt - v.toInt else v.toInt - x.toInt) := by
  have e := g_sub (x := x) (y := v) (by omega) (by omega)
  have e2 := g_sub (x := v) (y := x) (by omega) (by omega)
  by_cases q : v ≤ x
  · rw [if_pos q, if_pos (Int32.le_iff_toInt_le.mp q)]; exact e
  · rw [if_neg q, if_neg (fun z => q (Int32.le_iff_toInt_le.mpr z))]; exact e2
theorem f_wb_i {x y v w : Int32} (hx : 0 ≤ x.toInt ∧ x.toInt ≤ 99) (hy : 0 ≤ y.toInt ∧ y.toInt ≤ 99) (hv : 0 ≤ v.toInt ∧ v.toInt ≤ 99) (hw : 0 ≤ w.toInt ∧ w.toInt ≤ 99) : (f_wb x y v w).toInt = t_wi x.toInt y.toInt v.toInt w.toInt := by
  have e1 := t_ab (x := x) (v := v) ⟨hx.1, by omega⟩ ⟨hv.1, by omega⟩
  have e2 := t_ab (x := y) (v := w) ⟨hy.1, by omega⟩ ⟨hw.1, by omega⟩
  unfold f_wb
  have b := t_wi_le hx hy hv hw
  have b0 := t_wi_0 (a := x.toInt) (b := y.toInt) (c := v.toInt) (d := w.toInt)
  unfold t_wi at b b0 ⊢
  rw [g_add (by rw [e1, e2]; omega) (by rw [e1, e2]; omega), e1, e2]
theorem f_wb_c {x y v w : Int32} : f_wb x y v w = f_wb v w x y := by
  have h : ∀ a b : Int32, (if b ≤ a then a - b else b - a) = (if a ≤ b then b - a else a - b) := fun a b => by
    by_cases q : b ≤ a
    · rw [if_pos q]
      by_cases r : a ≤ b
      · rw [if_pos r, Int32.le_antisymm q r]
      · rw [if_neg r]
    · rw [if_neg q]
      have r : a ≤ b := Int32.le_of_lt (Int32.not_le.mp q)
      rw [if_pos r]
  unfold f_wb; rw [h x v, h y w]
/-- the earlier and then the later -/
def t_bo (k : qS) (x y : Int32) : Prop := k.2.1 1251 x.toNatClampNeg + k.2.1 1252 x.toNatClampNeg + k.1 1242 * f_wb (k.2.1 1233 (k.2.1 1248 x.toNatClampNeg).toNatClampNeg) (k.2.1 1234 (k.2.1 1248 x.toNatClampNeg).toNatClampNeg) (k.2.1 1233 (k.2.1 1248 y.toNatClampNeg).toNatClampNeg) (k.2.1 1234 (k.2.1 1248 y.toNatClampNeg).toNatClampNeg) ≤ k.2.1 1251 y.toNatClampNeg
def t_lt (k : qS) (x y : Int32) : Prop := (k.2.1 1251 x.toNatClampNeg).toInt < (k.2.1 1251 y.toNatClampNeg).toInt ∨ ((k.2.1 1251 x.toNatClampNeg).toInt = (k.2.1 1251 y.toNatClampNeg).toInt ∧ x.toInt < y.toInt)
theorem t_lt.ne {k : qS} {x y : Int32} (h : t_lt k x y) : x ≠ y := fun e => by
  subst e; unfold t_lt at h; omega
theorem t_lt.c {k : qS} {x y : Int32} (h : t_lt k x y) : (k.2.1 1251 x.toNatClampNeg < k.2.1 1251 y.toNatClampNeg ∨ (k.2.1 1251 x.toNatClampNeg = k.2.1 1251 y.toNatClampNeg ∧ x < y)) ∧ ¬ (k.2.1 1251 y.toNatClampNeg < k.2.1 1251 x.toNatClampNeg ∨ (k.2.1 1251 y.toNatClampNeg = k.2.1 1251 x.toNatClampNeg ∧ y < x)) := by
  unfold t_lt at h
  constructor
  · rcases h with q | ⟨q, r⟩
    · exact Or.inl (Int32.lt_iff_toInt_lt.mpr q)
    · exact Or.inr ⟨Int32.toInt_inj.mp q, Int32.lt_iff_toInt_lt.mpr r⟩
  · rintro (q | ⟨q, r⟩)
    · have := Int32.lt_iff_toInt_lt.mp q; omega
    · have := Int32.lt_iff_toInt_lt.mp r; rw [q] at h; omega
theorem t_bo_1 {k : qS} {x y : Int32} (h : t_lt k x y) : f_bo k x y ↔ t_bo k x y := by
  have c := h.c
  have e : f_fs k x y = x := by unfold f_fs; rw [if_pos c.1]
  have e2 : f_sc k x y = y := by unfold f_sc; rw [if_pos e]
  unfold f_bo t_bo; rw [e, e2]
theorem t_bo_2 {k : qS} {x y : Int32} (h : t_lt k x y) : f_bo k y x ↔ t_bo k x y := by
  have c := h.c
  have e : f_fs k y x = x := by unfold f_fs; rw [if_neg c.2]
  have e2 : f_sc k y x = y := by unfold f_sc; rw [e, if_neg h.ne]
  unfold f_bo t_bo; rw [e, e2, f_wb_c]
/-- a visit that is there -/
def t_in (k : qS) (x : Int32) : Prop := 0 ≤ x.toInt ∧ x.toInt < (k.1 1247).toInt
theorem t_in.n {k : qS} {x : Int32} (h : t_in k x) : x.toNatClampNeg < (k.1 1247).toNatClampNeg := by
  have c1 := g_clamp x; have c2 := g_clamp (k.1 1247); unfold t_in at h; omega
theorem f_gp.t {k : qS} {b d v : Int32} (h : f_gp k b d v) : t_in k v := by
  have a1 := Int32.le_iff_toInt_le.mp h.1.1.1; have a2 := Int32.lt_iff_toInt_lt.mp h.1.1.2
  exact ⟨a1, a2⟩
/-- the way between the shops of two, and what both mean in whole numbers -/
theorem t_bo_i {k : qS} (hb : t_bd k) {x y : Int32} (hx : t_in k x) (hy : t_in k y) : ∃ w : Int, w = t_wi (k.2.1 1233 (k.2.1 1248 x.toNatClampNeg).toNatClampNeg).toInt (k.2.1 1234 (k.2.1 1248 x.toNatClampNeg).toNatClampNeg).toInt (k.2.1 1233 (k.2.1 1248 y.toNatClampNeg).toNatClampNeg).toInt (k.2.1 1234 (k.2.1 1248 y.toNatClampNeg).toNatClampNeg).toInt ∧ (t_bo k x y ↔ (k.2.1 1251 x.toNatClampNeg).toInt + (k.2.1 1252 x.toNatClampNeg).toInt + (k.1 1242).toInt * w ≤ (k.2.1 1251 y.toNatClampNeg).toInt) := by
  have bx := hb.1 _ hx.n
  have by' := hb.1 _ hy.n
  have c32 := g_clamp (k.1 1232)
  have sx : (k.2.1 1248 x.toNatClampNeg).toNatClampNeg < (k.1 1232).toNatClampNeg := by have := g_clamp (k.2.1 1248 x.toNatClampNeg); omega
  have sy : (k.2.1 1248 y.toNatClampNeg).toNatClampNeg < (k.1 1232).toNatClampNeg := by have := g_clamp (k.2.1 1248 y.toNatClampNeg); omega
  have px := hb.2.1 _ sx
  have py := hb.2.1 _ sy
  refine ⟨_, rfl, ?_⟩
  have e := f_wb_i px.1 px.2 py.1 py.2
  have w0 := t_wi_0 (a := (k.2.1 1233 (k.2.1 1248 x.toNatClampNeg).toNatClampNeg).toInt) (b := (k.2.1 1234 (k.2.1 1248 x.toNatClampNeg).toNatClampNeg).toInt) (c := (k.2.1 1233 (k.2.1 1248 y.toNatClampNeg).toNatClampNeg).toInt) (d := (k.2.1 1234 (k.2.1 1248 y.toNatClampNeg).toNatClampNeg).toInt)
  have w1 := t_wi_le px.1 px.2 py.1 py.2
  have pa := hb.2.2.1
  rw [← e] at w0 w1 ⊢
  have m0 : 0 ≤ (k.1 1242).toInt * (f_wb (k.2.1 1233 (k.2.1 1248 x.toNatClampNeg).toNatClampNeg) (k.2.1 1234 (k.2.1 1248 x.toNatClampNeg).toNatClampNeg) (k.2.1 1233 (k.2.1 1248 y.toNatClampNeg).toNatClampNeg) (k.2.1 1234 (k.2.1 1248 y.toNatClampNeg).toNatClampNeg)).toInt := Int.mul_nonneg (by omega) w0
  have m1 : (k.1 1242).toInt * (f_wb (k.2.1 1233 (k.2.1 1248 x.toNatClampNeg).toNatClampNeg) (k.2.1 1234 (k.2.1 1248 x.toNatClampNeg).toNatClampNeg) (k.2.1 1233 (k.2.1 1248 y.toNatClampNeg).toNatClampNeg) (k.2.1 1234 (k.2.1 1248 y.toNatClampNeg).toNatClampNeg)).toInt ≤ 60 * 198 := Int.le_trans (Int.mul_le_mul_of_nonneg_right pa.2 w0) (Int.mul_le_mul_of_nonneg_left w1 (by decide))
  have em := g_mul (x := k.1 1242) (y := f_wb (k.2.1 1233 (k.2.1 1248 x.toNatClampNeg).toNatClampNeg) (k.2.1 1234 (k.2.1 1248 x.toNatClampNeg).toNatClampNeg) (k.2.1 1233 (k.2.1 1248 y.toNatClampNeg).toNatClampNeg) (k.2.1 1234 (k.2.1 1248 y.toNatClampNeg).toNatClampNeg)) (by omega) (by omega)
  have ea := g_add (x := k.2.1 1251 x.toNatClampNeg) (y := k.2.1 1252 x.toNatClampNeg) (by omega) (by omega)
  unfold t_bo
  rw [Int32.le_iff_toInt_le, g_add (by rw [ea, em]; omega) (by rw [ea, em]; omega), ea, em]
theorem t_bo.tr {k : qS} (hb : t_bd k) {x y z : Int32} (hx : t_in k x) (hy : t_in k y) (hz : t_in k z) (h1 : t_bo k x y) (h2 : t_bo k y z) : t_bo k x z := by
  obtain ⟨w1, e1, i1⟩ := t_bo_i hb hx hy
  obtain ⟨w2, e2, i2⟩ := t_bo_i hb hy hz
  obtain ⟨w3, e3, i3⟩ := t_bo_i hb hx hz
  have j1 := i1.mp h1
  have j2 := i2.mp h2
  have tri : w3 ≤ w1 + w2 := by rw [e1, e2, e3]; exact t_wi_tri
  have pa := hb.2.2.1
  have m : (k.1 1242).toInt * w3 ≤ (k.1 1242).toInt * (w1 + w2) := Int.mul_le_mul_of_nonneg_left tri (by omega)
  rw [Int.mul_add] at m
  have by' := hb.1 _ hy.n
  exact i3.mpr (by omega)
/-- a group in the order of time -/
def t_g (k : qS) (b d : Int32) (m : Nat) (N : Nat → Int32) : Prop := (∀ j : Nat, j < m → f_gp k b d (N j)) ∧ (∀ i j : Nat, i < j → j < m → t_lt k (N i) (N j)) ∧ (∀ v : Int32, f_gp k b d v → ∃ j : Nat, j < m ∧ N j = v) ∧ m = f_n (f_gp k b d) (k.1 1247).toNatClampNeg
theorem f_n_ct {P : Int32 → Prop} : ∀ n : Nat, f_n P n = k_ct (fun i => @decide (P (Int32.ofNat i)) (Classical.propDecidable _)) n
  | 0 => rfl
  | n + 1 => by
    by_cases q : P (Int32.ofNat n)
    · rw [f_n.t q, f_n_ct n, k_ct_t]
      exact @decide_eq_true _ (Classical.propDecidable _) q
    · rw [f_n.f q, f_n_ct n, k_ct_f]
      exact @decide_eq_false _ (Classical.propDecidable _) q
theorem f_n_12 {k : qS} {b d : Int32} : ∀ n : Nat, n ≤ 1000 → f_n (f_gp k b d) n ≤ g_ct (k.2.1 1249) (k.2.1 1250) b d n
  | 0, _ => Nat.le_refl _
  | n + 1, h => by
    have ih := f_n_12 (k := k) (b := b) (d := d) n (by omega)
    have e := (f_ofn (n := n) (by omega)).2
    by_cases q : f_gp k b d (Int32.ofNat n)
    · rw [f_n.t q]
      have w1 := q.2.1
      have w2 := q.2.2.1
      rw [e] at w1 w2
      show _ ≤ g_ct _ _ b d n + (if _ then 1 else 0)
      rw [if_pos ⟨w1, w2⟩]; omega
    · rw [f_n.f q]
      show _ ≤ g_ct _ _ b d n + (if _ then 1 else 0)
      omega
theorem t_12 {k : qS} (hb : t_bd k) (b d : Int32) : f_n (f_gp k b d) (k.1 1247).toNatClampNeg ≤ 12 := by
  have c := g_clamp (k.1 1247)
  have b1 := hb.2.2.2.1
  have q := f_n_12 (k := k) (b := b) (d := d) (k.1 1247).toNatClampNeg (by omega)
  have w := hb.2.2.2.2.2 b d
  omega
theorem f_n.inj {P : Int32 → Prop} {v w : Int32} (v0 : 0 ≤ v.toInt) (w0 : 0 ≤ w.toInt) (hv : P v) (hw : P w) (e : f_n P v.toNatClampNeg = f_n P w.toNatClampNeg) : v = w := by
  have c1 := g_clamp v; have c2 := g_clamp w
  rcases Int.lt_trichotomy v.toInt w.toInt with q | q | q
  · have l := f_n.lt (P := P) (n := w.toNatClampNeg) v0 (by omega) hv; omega
  · exact Int32.toInt_inj.mp q
  · have l := f_n.lt (P := P) (n := v.toNatClampNeg) w0 (by omega) hw; omega
theorem f_n.ex {P : Int32 → Prop} {n r : Nat} (hn : n ≤ 1000) (h : r < f_n P n) : ∃ v : Int32, 0 ≤ v.toInt ∧ v.toInt < n ∧ P v ∧ f_n P v.toNatClampNeg = r := by
  rw [f_n_ct] at h
  obtain ⟨j, a, b, c⟩ := k_ct_at (S := fun i => @decide (P (Int32.ofNat i)) (Classical.propDecidable _)) (t := r + 1) (by omega) n h
  have e := f_ofn (n := j) (by omega)
  have hp : P (Int32.ofNat j) := @of_decide_eq_true _ (Classical.propDecidable _) b
  refine ⟨Int32.ofNat j, by omega, by omega, hp, ?_⟩
  rw [e.2, f_n_ct]
  rw [k_ct_t b] at c; omega
theorem t_pow : ∀ m : Nat, m ≤ 12 → ((1 : Int32) <<< (Int32.ofNat m &&& 31)).toNatClampNeg = 2 ^ m := by decide
theorem t_words {k : qS} {b d : Int32} {m L : Nat} {N : Nat → Int32} {U W : Nat → Nat} (hb : t_bd k) (hg : t_g k b d m N) (hu : k_up (fun i j => t_bo k (N i) (N j)) k_z m U) (hw : k_dw (fun i j => t_bo k (N i) (N j)) m W) (hL : L = 0 ∨ ∃ i, i < m ∧ U i = L) (hL2 : ∀ i, i < m → U i ≤ L) :
    (f_all k b d).1.toInt = m - L ∧ ∀ i, i < m → f_st k b d (N i) = @ite _ (k_sure U W L i) (Classical.propDecidable _) 2 (@ite _ (k_need U W m L i) (Classical.propDecidable _) 0 3) := by
  obtain ⟨g1, g2, g3, g4⟩ := hg
  have m12 : m ≤ 12 := by rw [g4]; exact t_12 hb b d
  have cn := g_clamp (k.1 1247)
  have bn := hb.2.2.2.1
  have inj : ∀ i j, i < m → j < m → N i = N j → i = j := fun i j hi hj e => by
    rcases Nat.lt_trichotomy i j with q | q | q
    · exact absurd e (g2 i j q hj).ne
    · exact q
    · exact absurd e.symm (g2 j i q hi).ne
  have pinj : ∀ i j, i < m → j < m → f_n (f_gp k b d) (N i).toNatClampNeg = f_n (f_gp k b d) (N j).toNatClampNeg → i = j := fun i j hi hj e =>
    inj i j hi hj (f_n.inj (g1 i hi).t.1 (g1 j hj).t.1 (g1 i hi) (g1 j hj) e)
  have plt : ∀ i, i < m → f_n (f_gp k b d) (N i).toNatClampNeg < m := fun i hi => by
    rw [g4]; exact f_n.lt (g1 i hi).t.1 (by have := (g1 i hi).t.2; omega) (g1 i hi)
  have hp : k_pm (fun i => f_n (f_gp k b d) (N i).toNatClampNeg) m := by
    refine ⟨plt, fun r hr => ?_, fun i j hi hj e => pinj i j hi hj e⟩
    obtain ⟨v, -, -, v3, v4⟩ := f_n.ex (P := f_gp k b d) (n := (k.1 1247).toNatClampNeg) (by omega) (by rw [← g4]; exact hr)
    obtain ⟨j, j1, j2⟩ := g3 v v3
    exact ⟨j, j1, by show f_n (f_gp k b d) (N j).toNatClampNeg = r; rw [j2]; exact v4⟩
  have ht : k_tr (fun i j => t_bo k (N i) (N j)) m := fun i j l a b c h1 h2 => t_bo.tr hb (g1 i (by omega)).t (g1 j (by omega)).t (g1 l c).t h1 h2
  have eth : f_th k b d = Int32.ofNat m := by unfold f_th; rw [← g4]
  have th : (f_th k b d).toInt = m := by rw [eth]; exact (f_ofn (by omega)).1
  have hD : ∀ x, x < 2 ^ m → (f_D k b d (Int32.ofNat x) ↔ ∀ i j, i < j → j < m → t_bo k (N i) (N j) ∨ x.testBit (f_n (f_gp k b d) (N i).toNatClampNeg) = true ∨ x.testBit (f_n (f_gp k b d) (N j).toNatClampNeg) = true) := fun x hx => by
    have bit : ∀ i, i < m → ((¬ (Int32.ofNat x >>> (Int32.ofNat (f_n (f_gp k b d) (N i).toNatClampNeg) &&& 31)) &&& 1 = 0) ↔ x.testBit (f_n (f_gp k b d) (N i).toNatClampNeg) = true) := fun i hi => by
      have l := plt i hi
      rw [s_bit0 (by omega), s_of (by omega)]
    constructor
    · intro h i j a c
      rcases Nat.lt_or_ge (f_n (f_gp k b d) (N i).toNatClampNeg) (f_n (f_gp k b d) (N j).toNatClampNeg) with q | q
      · rcases h (N j) (N i) (g1 j c) (g1 i (by omega)) q with r | r | r
        · exact Or.inl ((t_bo_2 (g2 i j a c)).mp r)
        · exact Or.inr (Or.inr ((bit j c).mp r))
        · exact Or.inr (Or.inl ((bit i (by omega)).mp r))
      · have ne : f_n (f_gp k b d) (N i).toNatClampNeg ≠ f_n (f_gp k b d) (N j).toNatClampNeg := fun e => by have := pinj i j (by omega) c e; omega
        rcases h (N i) (N j) (g1 i (by omega)) (g1 j c) (by omega) with r | r | r
        · exact Or.inl ((t_bo_1 (g2 i j a c)).mp r)
        · exact Or.inr (Or.inl ((bit i (by omega)).mp r))
        · exact Or.inr (Or.inr ((bit j c).mp r))
    · intro h v w hv hw hlt
      obtain ⟨i, i1, i2⟩ := g3 v hv
      obtain ⟨j, j1, j2⟩ := g3 w hw
      subst i2 j2
      rcases Nat.lt_trichotomy i j with q | q | q
      · rcases h i j q j1 with r | r | r
        · exact Or.inl ((t_bo_1 (g2 i j q j1)).mpr r)
        · exact Or.inr (Or.inl ((bit i i1).mpr r))
        · exact Or.inr (Or.inr ((bit j j1).mpr r))
      · subst q; omega
      · rcases h j i q i1 with r | r | r
        · exact Or.inl ((t_bo_2 (g2 j i q i1)).mpr r)
        · exact Or.inr (Or.inr ((bit j j1).mpr r))
        · exact Or.inr (Or.inl ((bit i i1).mpr r))
  have kw := k_word (th := f_th k b d) (D := f_D k b d) m12 th hp ht hu hw hL hL2 hD
  have ea : f_all k b d = f_sl (f_th k b d) (f_D k b d) (2 ^ m) := by unfold f_all; rw [eth, t_pow m m12]
  unfold f_st
  rw [ea]
  exact kw
/-- the group's row out of the row by time -/
noncomputable def t_mb (k : qS) (P : Nat → Int32) (b d : Int32) (i : Nat) : Bool := @decide (f_gp k b d (P i)) (Classical.propDecidable _)
theorem t_mb.t {k : qS} {P : Nat → Int32} {b d : Int32} {i : Nat} (h : f_gp k b d (P i)) : t_mb k P b d i = true := @decide_eq_true _ (Classical.propDecidable _) h
theorem t_mb.f {k : qS} {P : Nat → Int32} {b d : Int32} {i : Nat} (h : ¬ f_gp k b d (P i)) : t_mb k P b d i = false := @decide_eq_false _ (Classical.propDecidable _) h
theorem t_mb.g {k : qS} {P : Nat → Int32} {b d : Int32} {i : Nat} (h : t_mb k P b d i = true) : f_gp k b d (P i) := @of_decide_eq_true _ (Classical.propDecidable _) h
noncomputable def t_N (k : qS) (P : Nat → Int32) (b d : Int32) (j : Nat) : Int32 := P (Classical.epsilon (fun q : Nat => t_mb k P b d q = true ∧ k_ct (t_mb k P b d) q = j))
theorem t_N_at {k : qS} {P : Nat → Int32} {b d : Int32} {q : Nat} (h : t_mb k P b d q = true) : t_N k P b d (k_ct (t_mb k P b d) q) = P q := by
  have e := Classical.epsilon_spec (p := fun q' : Nat => t_mb k P b d q' = true ∧ k_ct (t_mb k P b d) q' = k_ct (t_mb k P b d) q) ⟨q, h, rfl⟩
  unfold t_N
  generalize Classical.epsilon (fun q' : Nat => t_mb k P b d q' = true ∧ k_ct (t_mb k P b d) q' = k_ct (t_mb k P b d) q) = z at e
  rcases Nat.lt_trichotomy z q with w | w | w
  · have l := k_ct_le (S := t_mb k P b d) (a := z + 1) (b := q) w
    rw [k_ct_t e.1] at l; omega
  · rw [w]
  · have l := k_ct_le (S := t_mb k P b d) (a := q + 1) (b := z) w
    rw [k_ct_t h] at l; omega
theorem t_ord.pm {k : qS} {P : Nat → Int32} (h : t_ord k P) : k_pm (fun i => (P i).toNatClampNeg) (k.1 1247).toNatClampNeg := by
  have c := g_clamp (k.1 1247)
  refine ⟨fun i hi => ?_, fun n hn => ?_, fun i j hi hj e => ?_⟩
  · have w := h.1 i hi
    have c1 := g_clamp (P i)
    show (P i).toNatClampNeg < _; omega
  · have r := g_rng (k.1 1247)
    have e : (Int32.ofNat n).toInt = n := Int32.toInt_ofNat_of_lt (by omega)
    obtain ⟨i, i1, i2⟩ := h.2.1 (Int32.ofNat n) (by omega) (by omega)
    refine ⟨i, i1, ?_⟩
    show (P i).toNatClampNeg = n
    rw [i2]; have := g_clamp (Int32.ofNat n); omega
  · have e : (P i).toNatClampNeg = (P j).toNatClampNeg := e
    have ep : P i = P j := g_inj (h.1 i hi).1 (h.1 j hj).1 e
    rcases Nat.lt_trichotomy i j with q | q | q
    · have w := h.2.2 i j q hj; rw [ep] at w; omega
    · exact q
    · have w := h.2.2 j i q hi; rw [ep] at w; omega
theorem t_mb.n {k : qS} {P : Nat → Int32} (h : t_ord k P) (b d : Int32) : k_ct (t_mb k P b d) (k.1 1247).toNatClampNeg = f_n (f_gp k b d) (k.1 1247).toNatClampNeg := by
  rw [f_n_ct, ← h.pm.ct (fun i => @decide (f_gp k b d (Int32.ofNat i)) (Classical.propDecidable _))]
  refine k_ct_cg _ (fun i hi => ?_)
  show _ = @decide (f_gp k b d (Int32.ofNat (P i).toNatClampNeg)) (Classical.propDecidable _)
  rw [f_of (h.1 i hi).1]; rfl
theorem t_N.g {k : qS} {P : Nat → Int32} (h : t_ord k P) (b d : Int32) : t_g k b d (k_ct (t_mb k P b d) (k.1 1247).toNatClampNeg) (t_N k P b d) := by
  have ex : ∀ j, j < k_ct (t_mb k P b d) (k.1 1247).toNatClampNeg → ∃ q, q < (k.1 1247).toNatClampNeg ∧ t_mb k P b d q = true ∧ k_ct (t_mb k P b d) q = j ∧ t_N k P b d j = P q := fun j hj => by
    obtain ⟨q, q1, q2, q3⟩ := k_ct_at (S := t_mb k P b d) (t := j + 1) (by omega) _ hj
    rw [k_ct_t q2] at q3
    have e : k_ct (t_mb k P b d) q = j := by omega
    exact ⟨q, q1, q2, e, by rw [← e]; exact t_N_at q2⟩
  refine ⟨fun j hj => ?_, fun i j hij hj => ?_, fun v hv => ?_, t_mb.n h b d⟩
  · obtain ⟨q, -, q2, -, q4⟩ := ex j hj
    rw [q4]; exact t_mb.g q2
  · obtain ⟨p, p1, p2, p3, p4⟩ := ex i (by omega)
    obtain ⟨q, q1, q2, q3, q4⟩ := ex j hj
    have lt : p < q := by
      rcases Nat.lt_or_ge p q with z | z
      · exact z
      · have := k_ct_le (S := t_mb k P b d) z; omega
    have w := h.2.2 p q lt q1
    have d1 := (t_mb.g p2).2.2.1
    have d2 := (t_mb.g q2).2.2.1
    rw [p4, q4]
    rw [d1, d2] at w
    unfold t_lt; omega
  · obtain ⟨i, i1, i2⟩ := h.2.1 v hv.t.1 hv.t.2
    have mb := t_mb.t (k := k) (P := P) (b := b) (d := d) (i := i) (by rw [i2]; exact hv)
    refine ⟨k_ct (t_mb k P b d) i, ?_, by rw [t_N_at mb]; exact i2⟩
    have l := k_ct_le (S := t_mb k P b d) (a := i + 1) (b := (k.1 1247).toNatClampNeg) i1
    rw [k_ct_t mb] at l; omega
