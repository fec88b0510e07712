/-! the reference's parts -/
def z_onP (f : Nat → Int32) (n m : Nat) (G : Nat → List Int32) (Z : zS) : Prop := Z.2.1 = 0 ∧ z_can (z_K f n Z.1) ∧ ¬ (z_K f n Z.1 = 3 ∧ z_ix G (z_W f n Z.1) m = -1)
/-- of the facts looked for up to k: none, or the token is one -/
def z_fct (f : Nat → Int32) (n : Nat) (Z : zS) (x : Int32) (k : Nat) : Prop := (x = -1 ∧ ∀ j, 9 ≤ j → j < k → ¬ (Z.2.1 = 0 ∧ z_K f n Z.1 = z_kk j)) ∨ (0 ≤ x ∧ 20 ≤ z_K f n Z.1 ∧ z_K f n Z.1 ≤ 25)
section ZR3
variable {f : Nat → Int32} {n m d : Nat} {Z Y : zS} {G : Nat → List Int32} {a e a1 e1 x y r k lv : Int32} {so pl : Nat → Int32} {va wd nm : Nat → Int64} {N : Int} {P X : zS → zS}
theorem z_R.one (c : Y.2.1 = 0 ∧ z_lvl (z_K f n Y.1) = lv) (g : z_R a e (z_emit (z_K f n Y.1) 0 (X (z_next Y)))) : z_R a e (z_lp (z_T f n) lv X 1 Y) := by
  rw [z_lp.y c.1 c.2]; exact g
theorem z_R.none (g : z_R a e Y) (c : ¬ (Y.2.1 = 0 ∧ z_lvl (z_K f n Y.1) = lv)) : z_R a e (z_lp (z_T f n) lv X 1 Y) := by
  by_cases q : Y.2.1 = 0
  · rw [z_lp.n _ (fun z => c ⟨q, z⟩)]; exact g
  · rw [z_lp.f _ q]; exact g
theorem z_kk.fact {j : Nat} (h1 : 9 ≤ j) (h2 : j < 15) : 20 ≤ z_kk j ∧ z_kk j ≤ 25 := by
  have key : ∀ a : Fin 15, 9 ≤ a.val → 20 ≤ z_kk a.val ∧ z_kk a.val ≤ 25 := by decide +kernel
  exact key ⟨j, h2⟩ h1
theorem z_kk.onto {c : Int32} (h : 20 ≤ c ∧ c ≤ 25) : ∃ j, 9 ≤ j ∧ j < 15 ∧ c = z_kk j := by
  have h1 : 20 ≤ c.toInt := Int32.le_iff_toInt_le.mp h.1
  have h2 : c.toInt ≤ 25 := Int32.le_iff_toInt_le.mp h.2
  have w : ∀ a : Fin 6, (z_kk (9 + a.val)).toInt = 20 + a.val := by decide +kernel
  refine ⟨9 + (c.toInt - 20).toNat, by omega, by omega, Int32.toInt_inj.mp ?_⟩
  have q := w ⟨(c.toInt - 20).toNat, by omega⟩
  show c.toInt = (z_kk (9 + (c.toInt - 20).toNat)).toInt
  rw [q]
  show c.toInt = 20 + (((c.toInt - 20).toNat : Nat) : Int)
  omega
theorem z_k7 : z_kk (7 : Int32).toNatClampNeg = 26 := by decide
theorem z_k8 : z_kk (8 : Int32).toNatClampNeg = 19 := by decide
theorem z_s40 : z_sg 40 = 4 := by decide
theorem z_fct.none : z_fct f n Z (-1) 9 := Or.inl ⟨rfl, fun j a b => absurd a (by omega)⟩
theorem z_fct.yes (hQ : z_Q f n so pl va wd N) (hz : z_R a e Z) (ha : a.toInt ≤ N) (hk : 9 ≤ k ∧ k < 15) (h : g_isW e so va a wd k) (hy : y = k - 9) {j : Nat} : z_fct f n Z y j := by
  have k1 : 9 ≤ k.toInt := Int32.le_iff_toInt_le.mp hk.1
  have k2 : k.toInt < 15 := Int32.lt_iff_toInt_lt.mp hk.2
  have lk : k.toNatClampNeg < 15 := by rw [g_clamp]; omega
  have c := (hQ.w hz ha lk).mp h
  have g := z_kk.fact (j := k.toNatClampNeg) (by rw [g_clamp]; omega) lk
  refine Or.inr ⟨?_, ?_, ?_⟩
  · rw [hy]
    refine Int32.le_iff_toInt_le.mpr ?_
    rw [g_sub (x := k) (y := 9) (by show _ ≤ k.toInt - 9; omega) (by show k.toInt - 9 < _; omega)]
    show (0 : Int) ≤ k.toInt - 9
    omega
  · rw [c.2]; exact g.1
  · rw [c.2]; exact g.2
theorem z_fct.go (hQ : z_Q f n so pl va wd N) (hz : z_R a e Z) (ha : a.toInt ≤ N) (hk : 9 ≤ k ∧ k < 15) (h : ¬ g_isW e so va a wd k) (w : z_fct f n Z x k.toNatClampNeg) : z_fct f n Z x (k + 1).toNatClampNeg := by
  have k1 : 9 ≤ k.toInt := Int32.le_iff_toInt_le.mp hk.1
  have k2 : k.toInt < 15 := Int32.lt_iff_toInt_lt.mp hk.2
  have lk : k.toNatClampNeg < 15 := by rw [g_clamp]; omega
  have e1 := (g_up (i := k) (by omega) (by omega)).2
  rcases w with w | w
  · refine Or.inl ⟨w.1, fun j j1 j2 q => ?_⟩
    rw [e1] at j2
    by_cases z : j = k.toNatClampNeg
    · rw [z] at q; exact h ((hQ.w hz ha lk).mpr q)
    · exact w.2 j j1 (by omega) q
  · exact Or.inr w
theorem z_fct.can (h : z_fct f n Z x 15) (hx : 0 ≤ x) : z_can (z_K f n Z.1) ∧ z_K f n Z.1 ≠ 3 := by
  rcases h with h | h
  · rw [h.1] at hx; exact absurd hx (by decide)
  · refine ⟨Or.inr (Or.inr (Or.inr ⟨Int32.le_trans (by decide) h.2.1, Int32.le_trans h.2.2 (by decide)⟩)), fun z => ?_⟩
    have := h.2.1
    rw [z] at this; exact absurd this (by decide)
theorem z_not.can (hQ : z_Q f n so pl va wd N) (hz : z_R a e Z) (ha : a.toInt ≤ N) (h0 : Z.2.1 = 0) (hf : z_fct f n Z x 15) (hx : ¬ 0 ≤ x) (h2 : ¬ so a.toNatClampNeg = 2) (h3 : ¬ g_isN e so va a wd 15) (h4 : ¬ g_isS e so va a 40) (h7 : ¬ g_isW e so va a wd 7) (h8 : ¬ g_isW e so va a wd 8) : ¬ z_can (z_K f n Z.1) := by
  intro c
  have c7 : z_K f n Z.1 ≠ 26 := fun z => h7 ((hQ.w hz ha (by decide)).mpr ⟨h0, z.trans z_k7.symm⟩)
  have c8 : z_K f n Z.1 ≠ 19 := fun z => h8 ((hQ.w hz ha (by decide)).mpr ⟨h0, z.trans z_k8.symm⟩)
  rcases c with c | c | c | c
  · exact h2 ((hQ.k2 hz ha).mpr c)
  · exact h3 ((hQ.nm hz ha).mpr ⟨h0, c⟩)
  · exact h4 ((hQ.s hz ha (by decide) (by unfold x_le; decide) (by unfold x_di; decide)).mpr ⟨h0, c.trans z_s40.symm⟩)
  · rcases hf with w | w
    · have l1 : 19 ≤ (z_K f n Z.1).toInt := Int32.le_iff_toInt_le.mp c.1
      have l2 : (z_K f n Z.1).toInt ≤ 26 := Int32.le_iff_toInt_le.mp c.2
      have n1 : (z_K f n Z.1).toInt ≠ 26 := fun z => c7 (Int32.toInt_inj.mp z)
      have n2 : (z_K f n Z.1).toInt ≠ 19 := fun z => c8 (Int32.toInt_inj.mp z)
      obtain ⟨j, j1, j2, j3⟩ := z_kk.onto (c := z_K f n Z.1) ⟨Int32.le_iff_toInt_le.mpr (by show (20 : Int) ≤ _; omega), Int32.le_iff_toInt_le.mpr (by show _ ≤ (25 : Int); omega)⟩
      exact w.2 j j1 j2 ⟨h0, j3⟩
    · exact hx w.1
end ZR3
/-- what may stand -/
theorem z_may.f {f : Nat → Int32} {n : Nat} {Z : zS} {x : Int32} (hf : z_fct f n Z x 15) (hx : 0 ≤ x) : z_can (z_K f n Z.1) := (hf.can hx).1
section ZR3
variable {f : Nat → Int32} {n m d : Nat} {Z Y : zS} {G : Nat → List Int32} {a e a1 e1 x y r k lv : Int32} {so pl : Nat → Int32} {va wd nm : Nat → Int64} {N : Int} {P X : zS → zS}
end ZR3
theorem z_may.n {f : Nat → Int32} {n : Nat} {Z : zS} {a : Int32} {e : Int32} {so : Nat → Int32} {pl : Nat → Int32} {va : Nat → Int64} {wd : Nat → Int64} {N : Int} (hQ : z_Q f n so pl va wd N) (hz : z_R a e Z) (ha : a.toInt ≤ N) (h2 : so a.toNatClampNeg = 2) : z_can (z_K f n Z.1) := Or.inl ((hQ.k2 hz ha).mp h2)
section ZR3
variable {f : Nat → Int32} {n m d : Nat} {Z Y : zS} {G : Nat → List Int32} {a e a1 e1 x y r k lv : Int32} {so pl : Nat → Int32} {va wd nm : Nat → Int64} {N : Int} {P X : zS → zS}
end ZR3
theorem z_may.m {f : Nat → Int32} {n : Nat} {Z : zS} {a : Int32} {e : Int32} {so : Nat → Int32} {pl : Nat → Int32} {va : Nat → Int64} {wd : Nat → Int64} {N : Int} (hQ : z_Q f n so pl va wd N) (hz : z_R a e Z) (ha : a.toInt ≤ N) (h : g_isN e so va a wd 15) : z_can (z_K f n Z.1) := Or.inr (Or.inl ((hQ.nm hz ha).mp h).2)
section ZR3
variable {f : Nat → Int32} {n m d : Nat} {Z Y : zS} {G : Nat → List Int32} {a e a1 e1 x y r k lv : Int32} {so pl : Nat → Int32} {va wd nm : Nat → Int64} {N : Int} {P X : zS → zS}
theorem z_may.s (hQ : z_Q f n so pl va wd N) (hz : z_R a e Z) (ha : a.toInt ≤ N) (h : g_isS e so va a 40) : z_can (z_K f n Z.1) := Or.inr (Or.inr (Or.inl (((hQ.s hz ha (by decide) (by unfold x_le; decide) (by unfold x_di; decide)).mp h).2.trans z_s40)))
theorem z_may.w (hQ : z_Q f n so pl va wd N) (hz : z_R a e Z) (ha : a.toInt ≤ N) (hk : k = 7 ∨ k = 8) (h : g_isW e so va a wd k) : z_can (z_K f n Z.1) := by
  rcases hk with q | q
  · subst q
    have c : z_K f n Z.1 = 26 := ((hQ.w hz ha (by decide)).mp h).2.trans z_k7
    rw [c]; exact Or.inr (Or.inr (Or.inr (by decide)))
  · subst q
    have c : z_K f n Z.1 = 19 := ((hQ.w hz ha (by decide)).mp h).2.trans z_k8
    rw [c]; exact Or.inr (Or.inr (Or.inr (by decide)))
theorem z_no3 (hQ : z_Q f n so pl va wd N) (hz : z_R a e Z) (ha : a.toInt ≤ N) (h0 : Z.2.1 = 0) (h : ¬ g_isN e so va a wd 15) : ¬ (z_K f n Z.1 = 3 ∧ z_ix G (z_W f n Z.1) m = -1) := fun q => h ((hQ.nm hz ha).mpr ⟨h0, q.1⟩)
theorem z_ix3 (hr : r = z_ix G (z_W f n Z.1) m) (h : 0 ≤ r) : ¬ (z_K f n Z.1 = 3 ∧ z_ix G (z_W f n Z.1) m = -1) := fun q => by
  rw [hr, q.2] at h; exact absurd h (by decide)
theorem z_R.partF (hz : z_R a e Z) (q : ¬ e ≤ 0) : z_R a e (z_part (z_T f n) G m d Z) := by
  have : Z.2.1 ≠ 0 := fun z => q (by rw [hz.2, z]; decide)
  rw [z_part.f this d]; exact hz
theorem z_R.part1 (h0 : Z.2.1 = 0) (c : ¬ z_can (z_K f n Z.1)) (g : z_R a e (z_fail (z_T f n) 1 Z)) : z_R a e (z_part (z_T f n) G m d Z) := by
  have q : z_part (z_T f n) G m d Z = z_fail (z_T f n) 1 Z := by cases d <;> exact z_p.can h0 c rfl
  rw [q]; exact g
theorem z_R.part2 (hQ : z_Q f n so pl va wd N) (hz : z_R a1 e1 Z) (ha : a1.toInt ≤ N) (h : g_isN e1 so va a1 wd 15) (hr : r = z_ix G (z_W f n Z.1) m) (hm : m ≤ 8) (hlt : ¬ 0 ≤ r) (g : z_R a e (z_fail (z_T f n) 2 Z)) : z_R a e (z_part (z_T f n) G m d Z) := by
  have c := (hQ.nm hz ha).mp h
  have i : z_ix G (z_W f n Z.1) m = -1 := by
    rcases z_ix.rg (G := G) (w := z_W f n Z.1) m with z | ⟨j, j1, j2, -⟩
    · exact z
    · refine absurd ?_ hlt
      rw [hr, j2]
      refine Int32.le_iff_toInt_le.mpr ?_
      rw [Int32.toInt_ofNat_of_lt (by omega)]
      exact Int.natCast_nonneg _
  have q : z_part (z_T f n) G m d Z = z_fail (z_T f n) 2 Z := by cases d <;> exact z_p.told c.1 (Or.inr (Or.inl c.2)) rfl c.2 i
  rw [q]; exact g
theorem z_onP.mk (h0 : Z.2.1 = 0) (h1 : z_can (z_K f n Z.1)) (h2 : ¬ (z_K f n Z.1 = 3 ∧ z_ix G (z_W f n Z.1) m = -1)) : z_onP f n m G Z := ⟨h0, h1, h2⟩
theorem z_R.part5 (o : z_onP f n m G Z) (g : z_R a e (z_fail (z_T f n) 5 Z)) : z_R a e (z_part (z_T f n) G m 0 Z) := by
  have q : z_part (z_T f n) G m 0 Z = z_fail (z_T f n) 5 Z := z_p.on o.1 o.2.1 rfl o.2.2
  rw [q]; exact g
end ZR3
theorem z_onP.x {f : Nat → Int32} {n : Nat} {m : Nat} {d : Nat} {Z : zS} {G : Nat → List Int32} (o : z_onP f n m G Z) : z_part (z_T f n) G m (d + 1) Z = z_in (z_T f n) G m (z_part (z_T f n) G m d) Z := z_p.on o.1 o.2.1 rfl o.2.2
section ZR3
variable {f : Nat → Int32} {n m d : Nat} {Z Y : zS} {G : Nat → List Int32} {a e a1 e1 x y r k lv : Int32} {so pl : Nat → Int32} {va wd nm : Nat → Int64} {N : Int} {P X : zS → zS}
theorem z_R.partN (hQ : z_Q f n so pl va wd N) (hz : z_R a1 e1 Z) (ha : a1.toInt ≤ N) (o : z_onP f n m G Z) (h : g_isW e1 so va a1 wd 7) (g : z_R a e (z_emit 26 0 (z_part (z_T f n) G m d (z_next Z)))) : z_R a e (z_part (z_T f n) G m (d + 1) Z) := by
  have k : z_K f n Z.1 = 26 := ((hQ.w hz ha (by decide)).mp h).2.trans z_k7
  rw [o.x, z_in.not rfl k]; exact g
theorem z_ne1 (p : Int32) : 1 + 16 * p ≠ 0 := fun z => by
  have e := congrArg Int32.toInt z
  rw [Int32.toInt_add, Int32.toInt_mul, g_bm, g_bm] at e
  have e : (((1 : Int) + ((16 * p.toInt + 2147483648) % 4294967296 - 2147483648)) + 2147483648) % 4294967296 - 2147483648 = 0 := e
  omega
theorem z_ne4 (p : Int32) : 4 + 16 * p ≠ 0 := fun z => by
  have e := congrArg Int32.toInt z
  rw [Int32.toInt_add, Int32.toInt_mul, g_bm, g_bm] at e
  have e : (((4 : Int) + ((16 * p.toInt + 2147483648) % 4294967296 - 2147483648)) + 2147483648) % 4294967296 - 2147483648 = 0 := e
  omega
theorem z_ne3 (p : Int32) : 3 + 16 * p ≠ 0 := fun z => by
  have e := congrArg Int32.toInt z
  rw [Int32.toInt_add, Int32.toInt_mul, g_bm, g_bm] at e
  have e : (((3 : Int) + ((16 * p.toInt + 2147483648) % 4294967296 - 2147483648)) + 2147483648) % 4294967296 - 2147483648 = 0 := e
  omega
theorem z_ne5 (p : Int32) : 5 + 16 * p ≠ 0 := fun z => by
  have e := congrArg Int32.toInt z
  rw [Int32.toInt_add, Int32.toInt_mul, g_bm, g_bm] at e
  have e : (((5 : Int) + ((16 * p.toInt + 2147483648) % 4294967296 - 2147483648)) + 2147483648) % 4294967296 - 2147483648 = 0 := e
  omega
theorem z_item.num {T : zT} (h : Y.2.1 = 0) : z_item T Y = z_emit 19 (T.2.1 Y.1) (z_num T 11 Y) := by
  unfold z_item z_num
  rw [if_neg (show ¬ Y.2.1 ≠ 0 from fun z => z h)]
  have le : ∀ v : Int32, (12 ≤ v) ↔ 11 < v := fun v => by
    rw [Int32.le_iff_toInt_le, Int32.lt_iff_toInt_lt]
    show (12 : Int) ≤ _ ↔ (11 : Int) < _
    omega
  by_cases k : T.1 Y.1 ≠ 2
  · rw [if_pos k, if_pos k, z_emit.f (s := z_fail T 1 Y) (by rw [z_fail.o h]; exact z_ne1 _)]
  · rw [if_neg k, if_neg k]
    by_cases l : 12 ≤ T.2.1 Y.1
    · rw [if_pos l, if_pos ((le _).mp l), z_emit.f (s := z_fail T 4 Y) (by rw [z_fail.o h]; exact z_ne4 _)]
    · rw [if_neg l, if_neg (fun z => l ((le _).mpr z))]
      unfold z_next z_emit
      rw [if_pos h]
      show _ = if Y.2.1 = 0 then _ else _
      rw [if_pos h]
theorem z_R.partI (hQ : z_Q f n so pl va wd N) (hz : z_R a1 e1 Z) (ha : a1.toInt ≤ N) (o : z_onP f n m G Z) (h : g_isW e1 so va a1 wd 8) (g : z_R a e (z_emit 19 (z_N f n (z_next Z).1) (z_num (z_T f n) 11 (z_next Z)))) : z_R a e (z_part (z_T f n) G m (d + 1) Z) := by
  have k : z_K f n Z.1 = 19 := ((hQ.w hz ha (by decide)).mp h).2.trans z_k8
  rw [o.x, z_in.item rfl k, z_item.num (show (z_next Z).2.1 = 0 from o.1)]; exact g
theorem z_R.partO (hQ : z_Q f n so pl va wd N) (hz : z_R a1 e1 Z) (ha : a1.toInt ≤ N) (o : z_onP f n m G Z) (h : g_isS e1 so va a1 40) (g : z_R a e (z_pass (z_T f n) (z_sg 41) (z_ts (z_T f n) (z_part (z_T f n) G m d) (z_next Z)))) : z_R a e (z_part (z_T f n) G m (d + 1) Z) := by
  have k : z_K f n Z.1 = 4 := ((hQ.s hz ha (by decide) (by unfold x_le; decide) (by unfold x_di; decide)).mp h).2.trans z_s40
  have e41 : z_sg 41 = 5 := by decide
  rw [e41] at g
  rw [o.x, z_in.opn rfl k]; exact g
theorem z_R.partE (hQ : z_Q f n so pl va wd N) (hz : z_R a1 e1 Z) (ha : a1.toInt ≤ N) (o : z_onP f n m G Z) (h4 : ¬ g_isS e1 so va a1 40) (h7 : ¬ g_isW e1 so va a1 wd 7) (h8 : ¬ g_isW e1 so va a1 wd 8)
    (g : z_R a e (z_next (z_emit (z_K f n Z.1) (if z_K f n Z.1 = 2 then z_N f n Z.1 else if z_K f n Z.1 = 3 then z_ix G (z_W f n Z.1) m else 0) Z))) : z_R a e (z_part (z_T f n) G m (d + 1) Z) := by
  have c4 : ¬ z_K f n Z.1 = 4 := fun z => h4 ((hQ.s hz ha (by decide) (by unfold x_le; decide) (by unfold x_di; decide)).mpr ⟨o.1, z.trans z_s40.symm⟩)
  have c7 : ¬ z_K f n Z.1 = 26 := fun z => h7 ((hQ.w hz ha (by decide)).mpr ⟨o.1, z.trans z_k7.symm⟩)
  have c8 : ¬ z_K f n Z.1 = 19 := fun z => h8 ((hQ.w hz ha (by decide)).mpr ⟨o.1, z.trans z_k8.symm⟩)
  rw [o.x, z_in.oth rfl c7 c4 c8]; exact g
/-- a name's number -/
theorem z_H.go {c : Int32} (hQ : z_Q f n so pl va wd N) (hz : z_R a e Z) (ha : a.toInt ≤ N) (hg : z_H G m nm c Z) (h3 : z_K f n Z.1 = 3) (h0 : Z.2.1 = 0) (hk : 0 ≤ k ∧ k < c) (hr : r = lg_cmp (nm k.toNatClampNeg) (va a.toNatClampNeg)) (w : x = z_ix G (z_W f n Z.1) k.toNatClampNeg) :
    (r = 0 → k = z_ix G (z_W f n Z.1) (k + 1).toNatClampNeg) ∧ (¬ r = 0 → x = z_ix G (z_W f n Z.1) (k + 1).toNatClampNeg) := by
  obtain ⟨g1, g2, g3, g4⟩ := hg h0
  obtain ⟨M, t, l, -, -⟩ := hQ.at hz ha
  have cm : c.toInt = m := by rw [g1, Int32.toInt_ofNat_of_lt (by omega)]
  have k0 : 0 ≤ k.toInt := Int32.le_iff_toInt_le.mp hk.1
  have k1 := Int32.lt_iff_toInt_lt.mp hk.2
  have ck := g_clamp k
  have lt : k.toNatClampNeg < m := by omega
  have e1 := (g_up (i := k) k0 (by omega)).2
  have q := g3 _ lt
  obtain ⟨a1, a2, a3, -⟩ := z_K.three h3
  have vv : va a.toNatClampNeg = z_rw (z_W f n Z.1) := by rw [hz.i]; exact t.va l a1 a2 a3
  have iff : r = 0 ↔ G k.toNatClampNeg = z_W f n Z.1 := by rw [hr, g_lc, q.1, vv, z_rw.inj q.2 (z_K.ok h3)]
  rw [e1]
  refine ⟨fun y => ?_, fun y => ?_⟩
  · rw [z_ix.last (fun i j i1 i2 => g4 i j i1 (by omega)) (iff.mp y), Int32.ofNat_toNatClampNeg k hk.1]
  · rw [z_ix.skip (fun z => y (iff.mpr z))]; exact w
end ZR3
theorem z_H.fin {G : Nat → List Int32} {m : Nat} {nm : Nat → Int64} {c x r : Int32} {Z : zS} {w : List Int32} (hg : z_H G m nm c Z) (h0 : Z.2.1 = 0) (h1 : x ≤ c) (h2 : c ≤ x) (h : r = z_ix G w x.toNatClampNeg) : r = z_ix G w m := by
  obtain ⟨g1, g2, -⟩ := hg h0
  have e : x = c := Int32.le_antisymm h1 h2
  have cm : c.toInt = m := by rw [g1, Int32.toInt_ofNat_of_lt (by omega)]
  rw [h, e, show c.toNatClampNeg = m by rw [g_clamp]; omega]
