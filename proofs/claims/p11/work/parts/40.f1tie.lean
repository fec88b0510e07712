/-! the class held against what the reference keeps: visits by their numbers, rows of a visit's numbers -/
/-- what the k-th tells of a visit, by the place of the number -/
def t_f (k : qS) (j : Nat) (x : Int32) : Int32 := match j with
  | 1 => k.2.1 1255 x.toNatClampNeg
  | 2 => k.2.1 1248 x.toNatClampNeg
  | 3 => k.2.1 1249 x.toNatClampNeg
  | 4 => k.2.1 1250 x.toNatClampNeg
  | 5 => k.2.1 1251 x.toNatClampNeg
  | 6 => k.2.1 1252 x.toNatClampNeg
  | 7 => k.2.1 1253 x.toNatClampNeg
  | 8 => k.2.1 1254 x.toNatClampNeg
  | _ => f_fm k x
/-- a is the visit of the number x, as k tells it -/
def qKn (k u : qS) (a : Nat) (x : Int32) : Prop := (0 ≤ x ∧ x < u.1 10) ∧ u.2.2.2.1 2 x.toNatClampNeg = some a ∧ ∃ (dd : Nat) (fs : List Value), u.2.2.2.2[dd]? = some (a, .inr (10, fs)) ∧ fs[0]? = some (.int x) ∧ ∀ j : Nat, 0 < j → j < 10 → fs[j]? = some (.int (t_f k j x))
theorem qKn.fr {M R G X : List Nat} {k u w : qS} {a : Nat} {x : Int32} (h : qKn k u a x) (hf : qFc M R G X u w) (h10 : 10 ∉ M) (h2 : 2 ∉ X) (h5 : 5000 ∉ X) (h9 : 5009 ∉ X) : qKn k w a x := by
  obtain ⟨h0, h1, dd, fs, hd, hn, hj⟩ := h
  obtain ⟨f1, k1, -, k3⟩ := hf.kj dd a 10 fs hd
  refine ⟨by rw [hf.1 10 h10]; exact h0, by rw [hf.2.2.2.1 2 h2]; exact h1, dd, f1, k1, ?_, fun j a b => ?_⟩
  · rw [k3 0 (by decide) h5]; exact hn
  · rw [k3 j (by omega) (by unfold qfx; by_cases q : j < 9; · rw [if_pos q]; exact h5
                            · rw [if_neg q, show 5000 + j = 5009 by omega]; exact h9)]; exact hj j a b
theorem qKn.at {k u : qS} {a : Nat} {x : Int32} (h : qKn k u a x) (j : Nat) (h0 : 0 < j) (h9 : j < 10) : ∃ (dd : Nat) (fs : List Value), u.2.2.2.2[dd]? = some (a, .inr (10, fs)) ∧ fs[j]? = some (.int (t_f k j x)) := by
  obtain ⟨-, -, dd, fs, hd, -, hj⟩ := h
  exact ⟨dd, fs, hd, hj j h0 h9⟩
theorem qKn.at0 {k u : qS} {a : Nat} {x : Int32} (h : qKn k u a x) : ∃ (dd : Nat) (fs : List Value), u.2.2.2.2[dd]? = some (a, .inr (10, fs)) ∧ fs[0]? = some (.int x) := by
  obtain ⟨-, -, dd, fs, hd, hn, -⟩ := h
  exact ⟨dd, fs, hd, hn⟩
theorem qKn.rf {k u : qS} {a : Nat} {x : Int32} (h : qKn k u a x) : qRf u a 10 := by
  obtain ⟨-, -, dd, fs, hd, -, -⟩ := h
  exact ⟨dd, fs, hd⟩
/-- a is the visit of the number x -/
def qNm (u : qS) (a : Nat) (x : Int32) : Prop := (0 ≤ x ∧ x < u.1 10) ∧ u.2.2.2.1 2 x.toNatClampNeg = some a ∧ ∃ (dd : Nat) (fs : List Value), u.2.2.2.2[dd]? = some (a, .inr (10, fs)) ∧ fs[0]? = some (.int x)
theorem qKn.nm {k u : qS} {a : Nat} {x : Int32} (h : qKn k u a x) : qNm u a x := ⟨h.1, h.2.1, h.at0⟩
theorem qNm.fr {M R G X : List Nat} {u w : qS} {a : Nat} {x : Int32} (h : qNm u a x) (hf : qFc M R G X u w) (h10 : 10 ∉ M) (h2 : 2 ∉ X) (h5 : 5000 ∉ X) : qNm w a x := by
  obtain ⟨h0, h1, dd, fs, hd, hn⟩ := h
  obtain ⟨f1, k1, -, k3⟩ := hf.kj dd a 10 fs hd
  exact ⟨by rw [hf.1 10 h10]; exact h0, by rw [hf.2.2.2.1 2 h2]; exact h1, dd, f1, k1, by rw [k3 0 (by decide) h5]; exact hn⟩
/-- a row of numbers of the visits, by the number's place -/
def qFD (j : Nat) (F : Nat → Int32) (u : qS) : Prop := ∀ x : Int32, 0 ≤ x → x < u.1 10 → ∃ (a dd : Nat) (fs : List Value), u.2.2.2.1 2 x.toNatClampNeg = some a ∧ u.2.2.2.2[dd]? = some (a, .inr (10, fs)) ∧ fs[0]? = some (.int x) ∧ fs[j]? = some (.int (F x.toNatClampNeg))
theorem qFD.fr {M R G X : List Nat} {j : Nat} {F : Nat → Int32} {u w : qS} (h : qFD j F u) (hf : qFc M R G X u w) (h10 : 10 ∉ M) (h2 : 2 ∉ X) (h5 : 5000 ∉ X) (hj : qfx j ∉ X) (h15 : j < 15) : qFD j F w := fun x a b => by
  rw [hf.1 10 h10] at b
  obtain ⟨c, dd, fs, e1, e2, e3, e4⟩ := h x a b
  obtain ⟨f1, k1, -, k3⟩ := hf.kj dd c 10 fs e2
  exact ⟨c, dd, f1, by rw [hf.2.2.2.1 2 h2]; exact e1, k1, by rw [k3 0 (by decide) h5]; exact e3, by rw [k3 j h15 hj]; exact e4⟩
theorem qFD.at {j : Nat} {F : Nat → Int32} {u : qS} {a : Nat} {x : Int32} (h : qFD j F u) (ha : qNm u a x) : ∃ (dd : Nat) (fs : List Value), u.2.2.2.2[dd]? = some (a, .inr (10, fs)) ∧ fs[j]? = some (.int (F x.toNatClampNeg)) := by
  obtain ⟨c, dd, fs, e1, e2, -, e4⟩ := h x ha.1.1 ha.1.2
  have e := ha.2.1.symm.trans e1
  injection e with e
  subst e
  exact ⟨dd, fs, e2, e4⟩
theorem qFD.nm {j : Nat} {F : Nat → Int32} {u : qS} {a : Nat} {x : Int32} (h : qFD j F u) (hx : 0 ≤ x ∧ x < u.1 10) (e : u.2.2.2.1 2 x.toNatClampNeg = some a) : qNm u a x := by
  obtain ⟨c, dd, fs, e1, e2, e3, -⟩ := h x hx.1 hx.2
  have z := e1.symm.trans e
  injection z with z
  subst z
  exact ⟨hx, e1, dd, fs, e2, e3⟩
theorem qFD.put {j : Nat} {F : Nat → Int32} {u : qS} {a dk : Nat} {x z : Int32} {fs : List Value} (h : qFD j F u) (hD : qDi u.2.2.2.2) (ha : qNm u a x) (hd : u.2.2.2.2[dk]? = some (a, .inr (10, fs))) (hj : 0 < j) : qFD j (upd F x.toNatClampNeg z) (qsX u (u.2.2.2.2.set dk (a, .inr (10, fs.set j (.int z))))) := fun y h0 h1 => by
  have h1 : y < u.1 10 := h1
  obtain ⟨c, dd, gs, e1, e2, e3, e4⟩ := h y h0 h1
  by_cases q : y = x
  · subst q
    have e := ha.2.1.symm.trans e1
    injection e with e
    subst e
    have ed := hD dd dk _ _ e2 hd rfl
    subst ed
    rw [hd] at e2; injection e2 with e2; injection e2 with _ e2; injection e2 with e2; injection e2 with _ e2
    subst e2
    refine ⟨a, dd, fs.set j (.int z), e1, List.getElem?_set_self (List.getElem?_eq_some_iff.mp hd).1, ?_, ?_⟩
    · rw [List.getElem?_set_ne (by omega)]; exact e3
    · rw [pk_us]; exact List.getElem?_set_self (List.getElem?_eq_some_iff.mp e4).1
  · have nx : y.toNatClampNeg ≠ x.toNatClampNeg := fun e => q (g_inj (Int32.le_iff_toInt_le.mp h0) (Int32.le_iff_toInt_le.mp ha.1.1) e)
    have ne : dk ≠ dd := fun e => by
      subst e
      rw [hd] at e2; injection e2 with e2; injection e2 with e5 e2; injection e2 with e2; injection e2 with _ e2
      subst e2
      obtain ⟨d3, f3, a1, a2⟩ := ha.2.2
      have ed := hD d3 dk _ _ a1 hd rfl
      subst ed
      rw [hd] at a1; injection a1 with a1; injection a1 with _ a1; injection a1 with a1; injection a1 with _ a1
      subst a1
      have z := a2.symm.trans e3
      injection z with z; injection z with z
      exact q z.symm
    exact ⟨c, dd, gs, e1, (List.getElem?_set_ne ne).trans e2, e3, by rw [pk_un nx]; exact e4⟩
/-- the class's book is k's -/
def CT (k : qS) (P : Nat → Int32) (u : qS) : Prop := (u.1 10 = k.1 1247 ∧ u.1 8 = k.1 1232 ∧ u.1 9 = k.1 1239 ∧ c_sd u = f_vd k ∧ u.1 15 = k.1 1242) ∧ (∀ x : Int32, 0 ≤ x → x < u.1 10 → ∃ a, qKn k u a x) ∧ (∀ i : Int32, 0 ≤ i → i < u.1 10 → u.2.2.2.1 3 i.toNatClampNeg = u.2.2.2.1 2 (P i.toNatClampNeg).toNatClampNeg) ∧ (∀ i : Int32, 0 ≤ i → i < u.1 8 → ∃ (a dd p dp : Nat), u.2.2.2.1 0 i.toNatClampNeg = some a ∧ u.2.2.2.2[dd]? = some (a, .inr (7, [.ref p, .int (k.2.1 1235 i.toNatClampNeg), .int (k.2.1 1236 i.toNatClampNeg), .int (k.2.1 1237 i.toNatClampNeg), .int (k.2.1 1238 i.toNatClampNeg)])) ∧ u.2.2.2.2[dp]? = some (p, .inr (4, [.int (k.2.1 1233 i.toNatClampNeg), .int (k.2.1 1234 i.toNatClampNeg)]))) ∧ t_ord k P ∧ t_bd k
theorem CT.fr {M R G X : List Nat} {k u w : qS} {P : Nat → Int32} (h : CT k P u) (hf : qFc M R G X u w) (hM : ∀ n ∈ [8, 9, 10, 13, 14, 15], n ∉ M) (hX : ∀ n ∈ [0, 2, 3, 5000, 5009], n ∉ X) : CT k P w := by
  obtain ⟨⟨h1, h2, h3, h4, h5⟩, hv, hp, hs, ho⟩ := h
  have e10 := hf.1 10 (hM _ (by decide))
  have e8 := hf.1 8 (hM _ (by decide))
  refine ⟨⟨by rw [e10]; exact h1, by rw [e8]; exact h2, by rw [hf.1 9 (hM _ (by decide))]; exact h3, by unfold c_sd; rw [hf.1 13 (hM _ (by decide)), hf.1 14 (hM _ (by decide))]; exact h4, by rw [hf.1 15 (hM _ (by decide))]; exact h5⟩, fun x a b => ?_, fun i a b => ?_, fun i a b => ?_, ho⟩
  · rw [e10] at b
    obtain ⟨c, hc⟩ := hv x a b
    exact ⟨c, hc.fr hf (hM _ (by decide)) (hX _ (by decide)) (hX _ (by decide)) (hX _ (by decide))⟩
  · rw [e10] at b
    rw [hf.2.2.2.1 3 (hX _ (by decide)), hf.2.2.2.1 2 (hX _ (by decide))]
    exact hp i a b
  · rw [e8] at b
    obtain ⟨c, dd, p, dp, e1, e2, e3⟩ := hs i a b
    obtain ⟨f1, k1, k2, -⟩ := hf.kj dd c 7 _ e2
    obtain ⟨f2, j1, j2, -⟩ := hf.kj dp p 4 _ e3
    rw [k2 (by decide)] at k1
    rw [j2 (by decide)] at j1
    exact ⟨c, dd, p, dp, by rw [hf.2.2.2.1 0 (hX _ (by decide))]; exact e1, k1, j1⟩
theorem CT.va {k u : qS} {P : Nat → Int32} {a : Nat} {x : Int32} (h : CT k P u) (hx : 0 ≤ x ∧ x < u.1 10) (e : u.2.2.2.1 2 x.toNatClampNeg = some a) : qKn k u a x := by
  obtain ⟨c, hc⟩ := h.2.1 x hx.1 hx.2
  have z := hc.2.1.symm.trans e
  injection z with z
  rw [← z]; exact hc
theorem CT.pn {k u : qS} {P : Nat → Int32} {x : Int32} (h : CT k P u) (hx : 0 ≤ x ∧ x < u.1 10) : 0 ≤ P x.toNatClampNeg ∧ P x.toNatClampNeg < u.1 10 := by
  have x0 : 0 ≤ x.toInt := Int32.le_iff_toInt_le.mp hx.1
  have x1 := Int32.lt_iff_toInt_lt.mp hx.2
  have c := g_clamp x
  have c2 := g_clamp (k.1 1247)
  have e10 := h.1.1
  rw [e10] at x1
  have w := h.2.2.2.2.1.1 x.toNatClampNeg (by omega)
  exact ⟨Int32.le_iff_toInt_le.mpr w.1, by rw [e10]; exact Int32.lt_iff_toInt_lt.mpr w.2⟩
theorem CT.pa {k u : qS} {P : Nat → Int32} {a : Nat} {x : Int32} (h : CT k P u) (hx : 0 ≤ x ∧ x < u.1 10) (e : u.2.2.2.1 3 x.toNatClampNeg = some a) : qKn k u a (P x.toNatClampNeg) :=
  h.va (h.pn hx) (by rw [← h.2.2.1 x hx.1 hx.2]; exact e)
/-- a visit's shop and buyer -/
theorem CT.b2 {k u : qS} {P : Nat → Int32} {a : Nat} {x : Int32} (h : CT k P u) (ha : qKn k u a x) : (0 ≤ k.2.1 1248 x.toNatClampNeg ∧ k.2.1 1248 x.toNatClampNeg < u.1 8) ∧ (0 ≤ k.2.1 1249 x.toNatClampNeg ∧ k.2.1 1249 x.toNatClampNeg < u.1 9) := by
  have x0 : 0 ≤ x.toInt := Int32.le_iff_toInt_le.mp ha.1.1
  have x1 := Int32.lt_iff_toInt_lt.mp ha.1.2
  have c := g_clamp x
  have c2 := g_clamp (k.1 1247)
  rw [h.1.1] at x1
  have w := h.2.2.2.2.2.1 x.toNatClampNeg (by omega)
  rw [h.1.2.1, h.1.2.2.1]
  exact ⟨⟨Int32.le_iff_toInt_le.mpr w.1.1, Int32.lt_iff_toInt_lt.mpr w.1.2⟩, Int32.le_iff_toInt_le.mpr w.2.1.1, Int32.lt_iff_toInt_lt.mpr w.2.1.2⟩
/-- a shop's numbers -/
theorem CT.sf {k u : qS} {P : Nat → Int32} {a : Nat} {i : Int32} (h : CT k P u) (hD : qDi u.2.2.2.2) (hi : 0 ≤ i ∧ i < u.1 8) (e : u.2.2.2.1 0 i.toNatClampNeg = some a) : (qsd u.2.2.2.2 a 1 = k.2.1 1235 i.toNatClampNeg ∧ qsd u.2.2.2.2 a 2 = k.2.1 1236 i.toNatClampNeg ∧ qsd u.2.2.2.2 a 3 = k.2.1 1237 i.toNatClampNeg) ∧ qpd u.2.2.2.2 (qsp u.2.2.2.2 a) 0 = k.2.1 1233 i.toNatClampNeg ∧ qpd u.2.2.2.2 (qsp u.2.2.2.2 a) 1 = k.2.1 1234 i.toNatClampNeg := by
  obtain ⟨c, dd, p, dp, e1, e2, e3⟩ := h.2.2.2.1 i hi.1 hi.2
  have z := e1.symm.trans e
  injection z with z
  subst z
  have ep : qsp u.2.2.2.2 c = p := qsp_at hD e2 rfl
  rw [ep]
  exact ⟨⟨qsd_at hD e2 rfl, qsd_at hD e2 rfl, qsd_at hD e2 rfl⟩, qpd_at hD e3 rfl, qpd_at hD e3 rfl⟩
/-- each number of the visits has a row -/
theorem CT.fd {E : qE} {k u : qS} {P : Nat → Int32} (h : CT k P u) (hI : IC E u) (j : Nat) (hj : j < 15) : ∃ F : Nat → Int32, qFD j F u := by
  have ex : ∀ n : Nat, ∃ z : Int32, ∀ x : Int32, 0 ≤ x → x < u.1 10 → x.toNatClampNeg = n → ∃ (a dd : Nat) (fs : List Value), u.2.2.2.1 2 n = some a ∧ u.2.2.2.2[dd]? = some (a, .inr (10, fs)) ∧ fs[0]? = some (.int x) ∧ fs[j]? = some (.int z) := fun n => by
    by_cases q : ∃ x : Int32, 0 ≤ x ∧ x < u.1 10 ∧ x.toNatClampNeg = n
    · obtain ⟨x, x0, x1, x2⟩ := q
      obtain ⟨a, ha⟩ := h.2.1 x x0 x1
      obtain ⟨-, e1, dd, fs, e2, e3, -⟩ := ha
      obtain ⟨-, hx⟩ := (hI.2.1 dd a 10 fs e2).1 rfl
      obtain ⟨z, hz, -⟩ := hx j hj
      refine ⟨z, fun y y0 y1 y2 => ?_⟩
      have ey : y = x := g_inj (Int32.le_iff_toInt_le.mp y0) (Int32.le_iff_toInt_le.mp x0) (y2.trans x2.symm)
      subst ey
      exact ⟨a, dd, fs, by rw [← y2]; exact e1, e2, e3, hz⟩
    · exact ⟨0, fun x a b c => absurd ⟨x, a, b, c⟩ q⟩
  exact ⟨fun n => Classical.choose (ex n), fun x a b => Classical.choose_spec (ex x.toNatClampNeg) x a b rfl⟩
/-- the group's row -/
def qG (k u : qS) (N : Nat → Int32) : Prop := ∀ j : Int32, 0 ≤ j → j < u.1 908 → ∀ a : Nat, u.2.2.2.1 904 j.toNatClampNeg = some a → qKn k u a (N j.toNatClampNeg)
theorem qG.fr {M R G X : List Nat} {k u w : qS} {N : Nat → Int32} (h : qG k u N) (hf : qFc M R G X u w) (hM : ∀ n ∈ [10, 908], n ∉ M) (hX : ∀ n ∈ [2, 904, 5000, 5009], n ∉ X) : qG k w N := fun j a b c e => by
  rw [hf.1 908 (hM _ (by decide))] at b
  rw [hf.2.2.2.1 904 (hX _ (by decide))] at e
  exact (h j a b c e).fr hf (hM _ (by decide)) (hX _ (by decide)) (hX _ (by decide)) (hX _ (by decide))
theorem qFD.sI {j n : Nat} {F : Nat → Int32} {u : qS} {x : Int32} (h : qFD j F u) (hn : 10 ≠ n) : qFD j F (qsI u n x) := fun y a b => h y a (by
  have b : y < upd u.1 n x 10 := b
  rw [pk_un hn] at b; exact b)
theorem qG.nil {k u : qS} {N : Nat → Int32} : qG k (qsI u 908 0) N := fun j a b => absurd (Int32.lt_of_le_of_lt a (show j < 0 from b)) (Int32.lt_irrefl)
theorem qG.push {k u : qS} {N : Nat → Int32} {f : Nat → Option Nat} {g : Nat → Int32} {v : Nat} (h : qG k u N) (hb : 0 ≤ (u.1 908).toInt ∧ (u.1 908).toInt < 12) (hv : qKn k u v (N (u.1 908).toNatClampNeg)) (hf : f = va_up (u.2.2.2.1 904) (u.1 908).toNatClampNeg (some v)) : qG k (qsI (qsF (qsR u 904 f) 907 g) 908 (u.1 908 + 1)) N := fun j a b c e => by
  have up := (g_up (i := u.1 908) hb.1 (by omega)).1
  have b : j < u.1 908 + 1 := b
  have b2 := Int32.lt_iff_toInt_lt.mp b
  have a2 : 0 ≤ j.toInt := Int32.le_iff_toInt_le.mp a
  have e : f j.toNatClampNeg = some c := e
  rw [hf] at e
  have lift : ∀ x, qKn k u c x → qKn k (qsI (qsF (qsR u 904 f) 907 g) 908 (u.1 908 + 1)) c x := fun x q => q
  rcases Int.lt_or_le j.toInt (u.1 908).toInt with q | q
  · rw [c_vu (fun z => by have c1 := g_clamp j; have c2 := g_clamp (u.1 908); omega)] at e
    exact lift _ (h j a (Int32.lt_iff_toInt_lt.mpr q) c e)
  · have ej : j = u.1 908 := Int32.toInt_inj.mp (by omega)
    subst ej
    rw [c_vs] at e
    injection e with e
    subst e
    exact lift _ hv
theorem t_cab {x v : Int32} (hx : 0 ≤ x.toInt ∧ x.toInt ≤ 9999) (hv : 0 ≤ v.toInt ∧ v.toInt ≤ 9999) : c_ab (x - v) = if v ≤ x then x - v else v - x := by
  have e := g_sub (x := x) (y := v) (by omega) (by omega)
  have e2 := g_sub (x := v) (y := x) (by omega) (by omega)
  have e0 : (0 : Int32).toInt = 0 := rfl
  unfold c_ab
  by_cases q : v ≤ x
  · rw [if_pos q, if_pos]
    have := Int32.le_iff_toInt_le.mp q
    exact Int32.le_iff_toInt_le.mpr (by rw [e, e0]; omega)
  · have q2 := Int32.lt_iff_toInt_lt.mp (Int32.not_le.mp q)
    rw [if_neg q, if_neg (fun z => by have z2 := Int32.le_iff_toInt_le.mp z; rw [e, e0] at z2; omega)]
    refine Int32.toInt_inj.mp ?_
    rw [g_sub (by rw [e0, e]; omega) (by rw [e0, e]; omega), e, e2, e0]; omega
theorem qKn.t {k u : qS} {P : Nat → Int32} {a : Nat} {x : Int32} (hk : CT k P u) (h : qKn k u a x) : t_in k x := by
  have x0 : 0 ≤ x.toInt := Int32.le_iff_toInt_le.mp h.1.1
  have x1 := Int32.lt_iff_toInt_lt.mp h.1.2
  rw [hk.1.1] at x1
  exact ⟨x0, x1⟩
theorem t_rc {k u : qS} {P : Nat → Int32} {a : Nat} {x : Int32} (hk : CT k P u) (h : qKn k u a x) : -1 ≤ (k.2.1 1254 x.toNatClampNeg).toInt := (hk.2.2.2.2.2.1 _ (h.t hk).n).2.2.2.2.2
theorem t_way {k u : qS} {P : Nat → Int32} {v w a b : Nat} {x y : Int32} (hk : CT k P u) (hv : qKn k u v x) (hw : qKn k u w y)
    (s1 : qpd u.2.2.2.2 (qsp u.2.2.2.2 a) 0 = k.2.1 1233 (k.2.1 1248 x.toNatClampNeg).toNatClampNeg ∧ qpd u.2.2.2.2 (qsp u.2.2.2.2 a) 1 = k.2.1 1234 (k.2.1 1248 x.toNatClampNeg).toNatClampNeg)
    (s2 : qpd u.2.2.2.2 (qsp u.2.2.2.2 b) 0 = k.2.1 1233 (k.2.1 1248 y.toNatClampNeg).toNatClampNeg ∧ qpd u.2.2.2.2 (qsp u.2.2.2.2 b) 1 = k.2.1 1234 (k.2.1 1248 y.toNatClampNeg).toNatClampNeg) :
    c_ab (qpd u.2.2.2.2 (qsp u.2.2.2.2 a) 0 - qpd u.2.2.2.2 (qsp u.2.2.2.2 b) 0) + c_ab (qpd u.2.2.2.2 (qsp u.2.2.2.2 a) 1 - qpd u.2.2.2.2 (qsp u.2.2.2.2 b) 1) = f_wb (k.2.1 1233 (k.2.1 1248 x.toNatClampNeg).toNatClampNeg) (k.2.1 1234 (k.2.1 1248 x.toNatClampNeg).toNatClampNeg) (k.2.1 1233 (k.2.1 1248 y.toNatClampNeg).toNatClampNeg) (k.2.1 1234 (k.2.1 1248 y.toNatClampNeg).toNatClampNeg) := by
  have bx := hk.2.2.2.2.2.1 _ (hv.t hk).n
  have by' := hk.2.2.2.2.2.1 _ (hw.t hk).n
  have c32 := g_clamp (k.1 1232)
  have px := hk.2.2.2.2.2.2.1 (k.2.1 1248 x.toNatClampNeg).toNatClampNeg (by have := g_clamp (k.2.1 1248 x.toNatClampNeg); omega)
  have py := hk.2.2.2.2.2.2.1 (k.2.1 1248 y.toNatClampNeg).toNatClampNeg (by have := g_clamp (k.2.1 1248 y.toNatClampNeg); omega)
  rw [s1.1, s1.2, s2.1, s2.2, t_cab ⟨px.1.1, by omega⟩ ⟨py.1.1, by omega⟩, t_cab ⟨px.2.1, by omega⟩ ⟨py.2.1, by omega⟩]; rfl
/-- who belongs to a group, by the place in time -/
theorem CT.ps {k u : qS} {P : Nat → Int32} {i : Int32} (hk : CT k P u) (hi : 0 ≤ i ∧ i < u.1 10) : 0 ≤ P i.toNatClampNeg ∧ P i.toNatClampNeg < k.1 1247 := by
  have w := hk.pn hi
  rw [hk.1.1] at w; exact w
theorem t_yes {k u : qS} {P S : Nat → Int32} {i b d : Int32} (hk : CT k P u) (hi : 0 ≤ i ∧ i < u.1 10) (ha : f_a1 k S) (h1 : k.2.1 1255 (P i.toNatClampNeg).toNatClampNeg ≤ f_vd k) (h2 : k.2.1 1249 (P i.toNatClampNeg).toNatClampNeg = b) (h3 : k.2.1 1250 (P i.toNatClampNeg).toNatClampNeg = d) (h4 : ¬ S (P i.toNatClampNeg).toNatClampNeg = 1) : f_gp k b d (P i.toNatClampNeg) :=
  ⟨⟨hk.ps hi, h1⟩, h2, h3, Classical.byContradiction (fun q => h4 ((ha _ ⟨hk.ps hi, h1⟩).mpr q))⟩
theorem t_no1 {k : qS} {b d v : Int32} (h : ¬ k.2.1 1255 v.toNatClampNeg ≤ f_vd k) : ¬ f_gp k b d v := fun q => h q.1.2
theorem t_no2 {k : qS} {b d v : Int32} (h : ¬ k.2.1 1249 v.toNatClampNeg = b) : ¬ f_gp k b d v := fun q => h q.2.1
theorem t_no3 {k : qS} {b d v : Int32} (h : ¬ k.2.1 1250 v.toNatClampNeg = d) : ¬ f_gp k b d v := fun q => h q.2.2.1
theorem t_no4 {k : qS} {S : Nat → Int32} {b d v : Int32} (ha : f_a1 k S) (h : S v.toNatClampNeg = 1) : ¬ f_gp k b d v := fun q => (ha v q.1).mp h q.2.2.2
/-- none behind a later day -/
theorem t_late {k u : qS} {P : Nat → Int32} {i b d : Int32} (hk : CT k P u) (hi : 0 ≤ i ∧ i < u.1 10) (h : d < k.2.1 1250 (P i.toNatClampNeg).toNatClampNeg) : k_ct (t_mb k P b d) (k.1 1247).toNatClampNeg = k_ct (t_mb k P b d) i.toNatClampNeg := by
  have x0 : 0 ≤ i.toInt := Int32.le_iff_toInt_le.mp hi.1
  have x1 := Int32.lt_iff_toInt_lt.mp hi.2
  rw [hk.1.1] at x1
  have c1 := g_clamp i
  have c2 := g_clamp (k.1 1247)
  refine k_ct_no (by omega) (fun j a b2 => t_mb.f (fun q => ?_))
  have e := q.2.2.1
  have w := Int32.lt_iff_toInt_lt.mp h
  rcases Nat.lt_or_ge i.toNatClampNeg j with z | z
  · have o := hk.2.2.2.2.1.2.2 i.toNatClampNeg j z b2
    rw [e] at o; omega
  · have ej : j = i.toNatClampNeg := by omega
    rw [ej] at e; rw [e] at w; omega
/-- not more than twelve -/
theorem t_full {k u : qS} {P : Nat → Int32} {i b d : Int32} (hk : CT k P u) (hi : 0 ≤ i ∧ i < u.1 10) (h : f_gp k b d (P i.toNatClampNeg)) : k_ct (t_mb k P b d) i.toNatClampNeg < 12 := by
  have x0 : 0 ≤ i.toInt := Int32.le_iff_toInt_le.mp hi.1
  have x1 := Int32.lt_iff_toInt_lt.mp hi.2
  rw [hk.1.1] at x1
  have c1 := g_clamp i
  have c2 := g_clamp (k.1 1247)
  have l := k_ct_le (S := t_mb k P b d) (a := i.toNatClampNeg + 1) (b := (k.1 1247).toNatClampNeg) (by omega)
  rw [k_ct_t (t_mb.t h), t_mb.n hk.2.2.2.2.1] at l
  have := t_12 hk.2.2.2.2.2 b d
  omega
theorem t_nn {z : Int32} {n : Nat} (h : z.toInt = n) : z.toNatClampNeg = n := by have := g_clamp z; omega
/-- what was worked out for this edition is right -/
def t_c1 (k u : qS) : Prop := (0 ≤ (u.1 909).toInt ∧ (u.1 909).toInt ≤ (u.1 18).toInt) ∧ (u.1 909 = u.1 18 → ∃ S : Nat → Int32, qFD 10 S u ∧ f_fi k S)
theorem t_c1.use {k u : qS} (h : t_c1 k u) (e1 : u.1 909 = u.1 18) : ∃ S : Nat → Int32, qFD 10 S u ∧ f_fi k S := h.2 e1
theorem t_c1.of {k u w : qS} {S : Nat → Int32} (h : t_c1 k u) (hs : qFD 10 S w) (hf : f_fi k S) (e9 : w.1 909 = u.1 18) (e18 : w.1 18 = u.1 18) : t_c1 k w := by
  have h0 := h.1
  exact ⟨by rw [e9, e18]; omega, fun _ => ⟨S, hs, hf⟩⟩
theorem t_c1.fr {M R G X : List Nat} {k u w : qS} (h : t_c1 k u) (hf : qFc M R G X u w) (hM : ∀ n ∈ [10, 18, 909], n ∉ M) (hX : ∀ n ∈ [2, 5000, 5010], n ∉ X) : t_c1 k w := by
  unfold t_c1
  rw [hf.1 909 (hM _ (by decide)), hf.1 18 (hM _ (by decide))]
  refine ⟨h.1, fun e => ?_⟩
  obtain ⟨S, a, b⟩ := h.2 e
  exact ⟨S, a.fr hf (hM _ (by decide)) (hX _ (by decide)) (hX _ (by decide)) (hX _ (by decide)) (by decide), b⟩
theorem t_c1.sI {k u : qS} {n : Nat} {x : Int32} (h : t_c1 k u) (hn : ∀ m ∈ [10, 18, 909], m ≠ n) : t_c1 k (qsI u n x) := by
  have e : ∀ m ∈ [10, 18, 909], (qsI u n x).1 m = u.1 m := fun m hm => pk_un (hn m hm)
  unfold t_c1
  rw [e 909 (by decide), e 18 (by decide)]
  refine ⟨h.1, fun q => ?_⟩
  obtain ⟨S, a, b⟩ := h.2 q
  exact ⟨S, a.sI (hn _ (by decide)), b⟩
/-- a new edition: nothing is worked out for it -/
theorem t_c1.new {k k' u w : qS} (h : t_c1 k u) (e9 : w.1 909 = u.1 909) (e18 : w.1 18 = u.1 18 + 1) (hb : (u.1 18).toInt < 100000) : t_c1 k' w := by
  have h0 := h.1
  have up := (g_up (i := u.1 18) (by omega) (by omega)).1
  refine ⟨by rw [e9, e18, up]; omega, fun q => ?_⟩
  rw [e9, e18] at q
  have z : (u.1 909).toInt = (u.1 18 + 1).toInt := by rw [q]
  omega
