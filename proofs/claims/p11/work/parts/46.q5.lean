/-! the class's tape and reader, and what they have read -/
def z_C (f : Nat → Int32) (n : Nat) (u : qS) (Z : zS) : Prop :=
  (u.2.1 800 = f ∧ (u.1 801).toInt = n) ∧ u.1 803 = z_K f n Z.1 ∧ u.1 802 = z_PL f n Z.1 ∧ (u.1 806).toInt = x_b f n (Z.1 + 1) ∧
  (z_K f n Z.1 = 2 → u.1 804 = z_N f n Z.1) ∧ (z_K f n Z.1 = 3 → u.2.2.1 805 0 = z_cw (z_W f n Z.1)) ∧ u.1 505 = Z.2.1
/-- the names told: none is asked for once there is a fault -/
def z_G (G : Nat → List Int32) (m : Nat) (u : qS) (Z : zS) : Prop :=
  Z.2.1 = 0 → u.1 503 = Int32.ofNat m ∧ m ≤ 8 ∧ ∀ j, j < m → u.2.2.1 501 j = z_cw (G j) ∧ z_ok (G j)
section ZC
variable {f : Nat → Int32} {n m : Nat} {u v : qS} {Z : zS} {G : Nat → List Int32} {M R L X : List Nat} {k x y : Int32}
end ZC
theorem z_C.k {f : Nat → Int32} {n : Nat} {u : qS} {Z : zS} (h : z_C f n u Z) : u.1 803 = z_K f n Z.1 := h.2.1
section ZC
variable {f : Nat → Int32} {n m : Nat} {u v : qS} {Z : zS} {G : Nat → List Int32} {M R L X : List Nat} {k x y : Int32}
theorem z_C.p (h : z_C f n u Z) : u.1 802 = z_PL f n Z.1 := h.2.2.1
theorem z_C.nx (h : z_C f n u Z) : (u.1 806).toInt = x_b f n (Z.1 + 1) := h.2.2.2.1
theorem z_C.nu (h : z_C f n u Z) : z_K f n Z.1 = 2 → u.1 804 = z_N f n Z.1 := h.2.2.2.2.1
theorem z_C.w (h : z_C f n u Z) : z_K f n Z.1 = 3 → u.2.2.1 805 0 = z_cw (z_W f n Z.1) := h.2.2.2.2.2.1
end ZC
theorem z_C.f {f : Nat → Int32} {n : Nat} {u : qS} {Z : zS} (h : z_C f n u Z) : u.1 505 = Z.2.1 := h.2.2.2.2.2.2
section ZC
variable {f : Nat → Int32} {n m : Nat} {u v : qS} {Z : zS} {G : Nat → List Int32} {M R L X : List Nat} {k x y : Int32}
theorem z_C.fr (h : z_C f n u Z) (hf : qFc M R L X u v) (h1 : ∀ a ∈ [801, 802, 803, 804, 806, 505], a ∉ M) (h2 : 800 ∉ R) (h3 : 805 ∉ L) : z_C f n v Z := by
  unfold z_C at *
  rw [hf.1 801 (h1 _ (by decide)), hf.1 802 (h1 _ (by decide)), hf.1 803 (h1 _ (by decide)), hf.1 804 (h1 _ (by decide)), hf.1 806 (h1 _ (by decide)), hf.1 505 (h1 _ (by decide)), hf.2.1 800 h2, hf.2.2.1 805 h3]
  exact h
theorem z_C.sI {a : Nat} (h : z_C f n u Z) (h1 : ∀ b ∈ [801, 802, 803, 804, 806, 505], b ≠ a) : z_C f n (qsI u a x) Z := by
  have e : ∀ b ∈ [801, 802, 803, 804, 806, 505], (qsI u a x).1 b = u.1 b := fun b hb => pk_un (h1 b hb)
  unfold z_C at *
  rw [e 801 (by decide), e 802 (by decide), e 803 (by decide), e 804 (by decide), e 806 (by decide), e 505 (by decide)]
  exact h
theorem z_C.fail1 (h : z_C f n u Z) (q : u.1 505 = 0) : z_C f n (qsI u 505 (x + 16 * u.1 802)) (z_fail (z_T f n) x Z) := by
  have q2 : Z.2.1 = 0 := h.f.symm.trans q
  have e : ∀ b ∈ [801, 802, 803, 804, 806], (qsI u 505 (x + 16 * u.1 802)).1 b = u.1 b := fun b hb => pk_un (by revert b; decide)
  have e2 : (qsI u 505 (x + 16 * u.1 802)).1 505 = x + 16 * u.1 802 := by show upd u.1 505 (x + 16 * u.1 802) 505 = _; exact pk_us
  rw [z_fail.o q2]
  unfold z_C
  rw [e 801 (by decide), e 802 (by decide), e 803 (by decide), e 804 (by decide), e 806 (by decide), e2, h.p]
  exact ⟨h.1, h.2.1, (by first | rfl | exact h.p.symm ▸ h.p), h.2.2.2.1, h.2.2.2.2.1, h.2.2.2.2.2.1, rfl⟩
theorem z_C.fail0 (h : z_C f n u Z) (q : ¬ u.1 505 = 0) : z_C f n u (z_fail (z_T f n) x Z) := by
  rw [z_fail.f (fun z => q (h.f.trans z))]; exact h
theorem z_C.emit (h : z_C f n u Z) : z_C f n u (z_emit x y Z) := by
  unfold z_C at *
  rw [z_emit.i, z_emit.e]
  exact h
theorem z_G.fr (h : z_G G m u Z) (hf : qFc M R L X u v) (h1 : 503 ∉ M) (h2 : 501 ∉ L) : z_G G m v Z := by
  unfold z_G at *
  rw [hf.1 503 h1, hf.2.2.1 501 h2]
  exact h
theorem z_G.b {Z' : zS} (h : z_G G m u Z) (hb : Z'.2.1 = 0 → Z.2.1 = 0) : z_G G m u Z' := fun q => h (hb q)
end ZC
/-- a tape at which a token is to be read -/
def z_C0 (f : Nat → Int32) (n : Nat) (u : qS) (Z : zS) : Prop := (u.2.1 800 = f ∧ (u.1 801).toInt = n) ∧ (u.1 806).toInt = x_b f n Z.1 ∧ u.1 505 = Z.2.1
theorem z_lvl.o {x : Int32} (h : x.toInt < 6 ∨ 18 < x.toInt) : z_lvl x = 4 := by
  have w : ∀ y : Int32, (6 ≤ y.toInt ∧ y.toInt ≤ 18) → x ≠ y := fun y hy e => by rw [e] at h; omega
  have a := w 6 (by decide)
  have b := w 7 (by decide)
  have c := w 8 (by decide)
  have d := w 9 (by decide)
  have e := w 10 (by decide)
  have f := w 17 (by decide)
  have g := w 18 (by decide)
  unfold z_lvl
  rw [if_neg (fun z => z.elim f g), if_neg (fun z => z.elim a b), if_neg (fun z => z.elim c d), if_neg e]
theorem z_sg.o {x : Int32} (h : x.toInt < 40 ∨ 61 < x.toInt) : z_sg x = 0 := by
  have w : ∀ y : Int32, (40 ≤ y.toInt ∧ y.toInt ≤ 61) → x ≠ y := fun y hy e => by rw [e] at h; omega
  unfold z_sg
  rw [if_neg (w 40 (by decide)), if_neg (w 41 (by decide)), if_neg (w 60 (by decide)), if_neg (w 61 (by decide)), if_neg (w 43 (by decide)), if_neg (w 45 (by decide)), if_neg (w 42 (by decide)), if_neg (w 59 (by decide))]
section ZD
variable {f : Nat → Int32} {n m d : Nat} {u v : qS} {Z Y : zS} {G : Nat → List Int32} {k x y r lv j : Int32} {M R L X : List Nat}
theorem z_C.nx0 (h : z_C f n u Z) : z_C0 f n u (z_next Z) := ⟨h.1, h.nx, h.f⟩
theorem z_C.sF {a : Nat} {g : Nat → Int32} (h : z_C f n u Z) (ha : 800 ≠ a) : z_C f n (qsF u a g) Z := by
  unfold z_C at *
  show ((va_up u.2.1 a g 800 = f ∧ _) ∧ _)
  rw [show va_up u.2.1 a g 800 = u.2.1 800 by unfold va_up; rw [if_neg ha]]
  exact h
theorem z_C.sG {a : Nat} {g : Nat → Int64} (h : z_C f n u Z) (ha : 805 ≠ a) : z_C f n (qsG u a g) Z := by
  unfold z_C at *
  have e : (qsG u a g).2.2.1 805 = u.2.2.1 805 := by show va_up u.2.2.1 a g 805 = _; unfold va_up; rw [if_neg ha]
  rw [e]
  exact h
theorem z_C.passF (h : z_C f n u Z) (q : ¬ u.1 505 = 0) (g : z_C f n v Z) : z_C f n v (z_pass (z_T f n) k Z) := by
  rw [z_pass.f (fun z => q (h.f.trans z))]; exact g
theorem z_C.passY (h : z_C f n u Z) (q : u.1 505 = 0) (r : u.1 803 = k) (g : z_C f n v (z_next Z)) : z_C f n v (z_pass (z_T f n) k Z) := by
  have e : (z_T f n).1 Z.1 = k := h.k.symm.trans r
  rw [z_pass.y (h.f.symm.trans q) e]; exact g
theorem z_C.passN (h : z_C f n u Z) (q : u.1 505 = 0) (r : ¬ u.1 803 = k) (g : z_C f n v (z_fail (z_T f n) 1 Z)) : z_C f n v (z_pass (z_T f n) k Z) := by
  have e : (z_T f n).1 Z.1 ≠ k := fun z => r (h.k.trans z)
  rw [z_pass.n (h.f.symm.trans q) e]; exact g
theorem z_C.itemA (h : z_C f n u Z) (q : ¬ u.1 803 = 2) (g : z_C f n v (z_fail (z_T f n) 1 Z)) : z_C f n v (z_item (z_T f n) Z) := by
  have e : (z_T f n).1 Z.1 ≠ 2 := fun z => q (h.k.trans z)
  unfold z_item; rw [if_pos e]; exact g
theorem z_C.itemB (h : z_C f n u Z) (q : u.1 803 = 2) (r : ¬ u.1 804 < 12) (g : z_C f n v (z_fail (z_T f n) 4 Z)) : z_C f n v (z_item (z_T f n) Z) := by
  have e : (z_T f n).1 Z.1 = 2 := h.k.symm.trans q
  have e2 : 12 ≤ (z_T f n).2.1 Z.1 := by
    have w : u.1 804 = (z_T f n).2.1 Z.1 := h.nu e
    rw [← w]; exact Int32.not_lt.mp r
  unfold z_item; rw [if_neg (fun z => z e), if_pos e2]; exact g
theorem z_C.itemC (h : z_C f n u Z) (q : u.1 803 = 2) (r : u.1 804 < 12) (g : z_C f n v (z_next (z_emit 19 (u.1 804) Z))) : z_C f n v (z_item (z_T f n) Z) := by
  have e : (z_T f n).1 Z.1 = 2 := h.k.symm.trans q
  have w : u.1 804 = (z_T f n).2.1 Z.1 := h.nu e
  rw [w] at g r
  unfold z_item; rw [if_neg (fun z => z e), if_neg (Int32.not_le.mpr r)]; exact g
theorem z_C.partF (h : z_C f n u Z) (q : ¬ u.1 505 = 0) (g : z_C f n v Z) : z_C f n v (z_part (z_T f n) G m d Z) := by
  rw [z_part.f (fun z => q (h.f.trans z)) d]; exact g
theorem z_C.partA (h : z_C f n u Z) (q : u.1 505 = 0) (r : ¬ z_can (u.1 803)) (g : z_C f n v (z_fail (z_T f n) 1 Z)) : z_C f n v (z_part (z_T f n) G m d Z) := by
  have e : z_part (z_T f n) G m d Z = z_fail (z_T f n) 1 Z := by
    cases d <;> exact z_p.can (h.f.symm.trans q) r h.k
  rw [e]; exact g
theorem z_C.partB (h : z_C f n u Z) (q : u.1 505 = 0) (c : z_can (u.1 803)) (e3 : u.1 803 = 3) (w : r = z_ix G (z_W f n Z.1) m) (w2 : r = -1) (g : z_C f n v (z_fail (z_T f n) 2 Z)) : z_C f n v (z_part (z_T f n) G m d Z) := by
  have e : z_part (z_T f n) G m d Z = z_fail (z_T f n) 2 Z := by
    cases d <;> exact z_p.told (h.f.symm.trans q) c h.k e3 (w.symm.trans w2)
  rw [e]; exact g
/-- a part that may stand -/
def z_on (f : Nat → Int32) (n m : Nat) (G : Nat → List Int32) (u : qS) (Z : zS) : Prop := u.1 505 = 0 ∧ z_can (u.1 803) ∧ ¬ (u.1 803 = 3 ∧ z_ix G (z_W f n Z.1) m = -1)
theorem z_on.a (q : u.1 505 = 0) (c : z_can (u.1 803)) (e : ¬ u.1 803 = 3) : z_on f n m G u Z := ⟨q, c, fun z => e z.1⟩
theorem z_on.b (q : u.1 505 = 0) (c : z_can (u.1 803)) (w : r = z_ix G (z_W f n Z.1) m) (e : ¬ r = -1) : z_on f n m G u Z := ⟨q, c, fun z => e (w.trans z.2)⟩
theorem z_C.part5 (h : z_C f n u Z) (o : z_on f n m G u Z) (g : z_C f n v (z_fail (z_T f n) 5 Z)) : z_C f n v (z_part (z_T f n) G m 0 Z) := by
  have e : z_part (z_T f n) G m 0 Z = z_fail (z_T f n) 5 Z := z_p.on (h.f.symm.trans o.1) o.2.1 h.k o.2.2
  rw [e]; exact g
theorem z_C.partX (h : z_C f n u Z) (o : z_on f n m G u Z) : z_part (z_T f n) G m (d + 1) Z = z_in (z_T f n) G m (z_part (z_T f n) G m d) Z := z_p.on (h.f.symm.trans o.1) o.2.1 h.k o.2.2
theorem z_C.partN (h : z_C f n u Z) (o : z_on f n m G u Z) (q : u.1 803 = 26) (g : z_C f n v (z_emit 26 0 (z_part (z_T f n) G m d (z_next Z)))) : z_C f n v (z_part (z_T f n) G m (d + 1) Z) := by
  rw [h.partX o, z_in.not h.k q]; exact g
theorem z_C.partO (h : z_C f n u Z) (o : z_on f n m G u Z) (q : u.1 803 = 4) (g : z_C f n v (z_pass (z_T f n) 5 (z_ts (z_T f n) (z_part (z_T f n) G m d) (z_next Z)))) : z_C f n v (z_part (z_T f n) G m (d + 1) Z) := by
  rw [h.partX o, z_in.opn h.k q]; exact g
theorem z_C.partI (h : z_C f n u Z) (o : z_on f n m G u Z) (q : u.1 803 = 19) (g : z_C f n v (z_item (z_T f n) (z_next Z))) : z_C f n v (z_part (z_T f n) G m (d + 1) Z) := by
  rw [h.partX o, z_in.item h.k q]; exact g
theorem z_C.partE (h : z_C f n u Z) (o : z_on f n m G u Z) (q1 : ¬ u.1 803 = 26) (q2 : ¬ u.1 803 = 4) (q3 : ¬ u.1 803 = 19) (w : x = if u.1 803 = 2 then u.1 804 else if u.1 803 = 3 then z_ix G (z_W f n Z.1) m else 0) (g : z_C f n v (z_next (z_emit (u.1 803) x Z))) : z_C f n v (z_part (z_T f n) G m (d + 1) Z) := by
  rw [h.partX o, z_in.oth h.k q1 q2 q3]
  have e : x = if u.1 803 = 2 then z_N f n Z.1 else if u.1 803 = 3 then z_ix G (z_W f n Z.1) m else 0 := by
    rw [w]
    by_cases z : u.1 803 = 2
    · rw [if_pos z, if_pos z, h.nu (h.k.symm.trans z)]
    · rw [if_neg z, if_neg z]
  rw [← e]; exact g
theorem z_lp.S {P : zS → zS} {MO a b : Nat} (hZ : z_C f n u Z) (hL : z_lp (z_T f n) lv P MO Y = z_lp (z_T f n) lv P (MO - a) Z) (ha : a < MO) (hb : b = a + 1) (q : u.1 505 = 0) (w : r = z_lvl (u.1 803)) (w2 : r = lv) :
    z_lp (z_T f n) lv P MO Y = z_lp (z_T f n) lv P (MO - b) (z_emit (u.1 803) 0 (P (z_next Z))) := by
  have e : z_lvl ((z_T f n).1 Z.1) = lv := by
    show z_lvl (z_K f n Z.1) = lv
    rw [← hZ.k, ← w]; exact w2
  rw [hL, show MO - a = (MO - b) + 1 by omega, z_lp.y (hZ.f.symm.trans q) e, hZ.k]
  try rfl
theorem z_C.lpA {P : zS → zS} {MO a : Nat} (hL : z_lp (z_T f n) lv P MO Y = z_lp (z_T f n) lv P (MO - a) Z) (ha : MO ≤ a) (g : z_C f n v Z) : z_C f n v (z_lp (z_T f n) lv P MO Y) := by
  rw [hL, show MO - a = 0 by omega]; exact g
theorem z_C.lpB {P : zS → zS} {MO a : Nat} (hL : z_lp (z_T f n) lv P MO Y = z_lp (z_T f n) lv P (MO - a) Z) (q : ¬ u.1 505 = 0) (g : z_C f n u Z) : z_C f n u (z_lp (z_T f n) lv P MO Y) := by
  rw [hL, z_lp.f _ (fun z => q (g.f.trans z))]; exact g
theorem z_C.lpC {P : zS → zS} {MO a : Nat} (hL : z_lp (z_T f n) lv P MO Y = z_lp (z_T f n) lv P (MO - a) Z) (w : r = z_lvl (u.1 803)) (w2 : ¬ r = lv) (g : z_C f n u Z) : z_C f n u (z_lp (z_T f n) lv P MO Y) := by
  have e : z_lvl ((z_T f n).1 Z.1) ≠ lv := fun z => w2 (by rw [w, g.k]; exact z)
  rw [hL, z_lp.n _ e]; exact g
theorem z_C.aomY (q : k = 13) (g : z_C f n v (z_end (z_T f n) k 0 (z_E (z_T f n) G m (z_pass (z_T f n) 14 (z_E (z_T f n) G m Z))))) : z_C f n v (z_aom (z_T f n) G m k Z) := by
  unfold z_aom; rw [if_pos q]; exact g
theorem z_C.aomN (q : ¬ k = 13) (g : z_C f n v (z_end (z_T f n) k 0 (z_E (z_T f n) G m Z))) : z_C f n v (z_aom (z_T f n) G m k Z) := by
  unfold z_aom; rw [if_neg q]; exact g
theorem z_C.bonA (h : z_C f n u Z) (q : ¬ u.1 803 = 2) (g : z_C f n v (z_fail (z_T f n) 1 Z)) : z_C f n v (z_bon (z_T f n) G m Z) := by
  have e : (z_T f n).1 Z.1 ≠ 2 := fun z => q (h.k.trans z)
  unfold z_bon; rw [if_pos e]; exact g
theorem z_C.bonB (h : z_C f n u Z) (q : u.1 803 = 2) (g : z_C f n v (z_end (z_T f n) 16 (u.1 804) (z_E (z_T f n) G m (z_pass (z_T f n) 14 (z_next Z))))) : z_C f n v (z_bon (z_T f n) G m Z) := by
  have e : (z_T f n).1 Z.1 = 2 := h.k.symm.trans q
  have w : u.1 804 = (z_T f n).2.1 Z.1 := h.nu e
  rw [w] at g
  unfold z_bon; rw [if_neg (fun z => z e)]; exact g
end ZD
theorem z_G.sI {G : Nat → List Int32} {m a : Nat} {u : qS} {Z : zS} {x : Int32} (h : z_G G m u Z) (ha : 503 ≠ a) : z_G G m (qsI u a x) Z := by
  have e : (qsI u a x).1 503 = u.1 503 := pk_un ha
  unfold z_G at *
  rw [e]
  exact h
