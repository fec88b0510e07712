/-! the reference's steps, in what has been read -/
def z_num (T : zT) (h : Int32) (Z : zS) : zS := if Z.2.1 ≠ 0 then Z else if T.1 Z.1 ≠ 2 then z_fail T 1 Z else if h < T.2.1 Z.1 then z_fail T 4 Z else z_next Z
/-- the reference's names -/
def z_H (G : Nat → List Int32) (m : Nat) (nm : Nat → Int64) (c : Int32) (Z : zS) : Prop :=
  Z.2.1 = 0 → c = Int32.ofNat m ∧ m ≤ 8 ∧ (∀ j, j < m → nm j = z_rw (G j) ∧ z_ok (G j)) ∧ ∀ i j, i < j → j < m → G i ≠ G j
section ZR2
variable {f : Nat → Int32} {n m d : Nat} {Z Y Y' : zS} {G : Nat → List Int32} {a e a1 e1 x lv r : Int32} {so pl : Nat → Int32} {va wd nm : Nat → Int64} {N : Int} {P X : zS → zS}
theorem z_H.b {c : Int32} (h : z_H G m nm c Z) (hb : Y.2.1 = 0 → Z.2.1 = 0) : z_H G m nm c Y := fun q => h (hb q)
theorem z_num.b {T : zT} {h : Int32} (q : (z_num T h Z).2.1 = 0) : Z.2.1 = 0 := Classical.byContradiction fun z => z (by unfold z_num at q; rw [if_pos z] at q; exact q)
theorem z_pass.no {T : zT} {k : Int32} (h : ¬ (Z.2.1 = 0 ∧ T.1 Z.1 = k)) : z_pass T k Z = z_fail T 1 Z := by
  by_cases q : Z.2.1 = 0
  · exact z_pass.n q (fun z => h ⟨q, z⟩)
  · rw [z_pass.f q, z_fail.f q]
theorem z_R.sgY (hQ : z_Q f n so pl va wd N) (hz : z_R a e Z) (ha : a.toInt ≤ N) (hx : z_sg x ≠ 0 ∧ ¬ x_le x ∧ ¬ x_di x) (h : g_isS e so va a x) (l : 0 ≤ a.toInt ∧ a.toInt < 1000) : z_R (a + 1) e (z_pass (z_T f n) (z_sg x) Z) := by
  have c := (hQ.s hz ha hx.1 hx.2.1 hx.2.2).mp h
  have k : (z_T f n).1 Z.1 = z_sg x := c.2
  rw [z_pass.y c.1 k]; exact hz.next l
theorem z_R.sgN (hQ : z_Q f n so pl va wd N) (hz : z_R a e Z) (ha : a.toInt ≤ N) (hx : z_sg x ≠ 0 ∧ ¬ x_le x ∧ ¬ x_di x) (h : ¬ g_isS e so va a x) (g : z_R a1 e1 (z_fail (z_T f n) 1 Z)) : z_R a1 e1 (z_pass (z_T f n) (z_sg x) Z) := by
  rw [z_pass.no (k := z_sg x) (fun c => h ((hQ.s hz ha hx.1 hx.2.1 hx.2.2).mpr c))]; exact g
theorem z_R.wdY (hQ : z_Q f n so pl va wd N) (hz : z_R a e Z) (ha : a.toInt ≤ N) (hx : 0 ≤ x ∧ x < 15) (h : g_isW e so va a wd x) (l : 0 ≤ a.toInt ∧ a.toInt < 1000) : z_R (a + 1) e (z_pass (z_T f n) (z_kk x.toNatClampNeg) Z) := by
  have lx : x.toNatClampNeg < 15 := by
    have l1 : x.toInt < 15 := Int32.lt_iff_toInt_lt.mp hx.2
    rw [g_clamp]; omega
  have c := (hQ.w hz ha lx).mp h
  have k : (z_T f n).1 Z.1 = z_kk x.toNatClampNeg := c.2
  rw [z_pass.y c.1 k]; exact hz.next l
theorem z_R.wdN (hQ : z_Q f n so pl va wd N) (hz : z_R a e Z) (ha : a.toInt ≤ N) (hx : 0 ≤ x ∧ x < 15) (h : ¬ g_isW e so va a wd x) (g : z_R a1 e1 (z_fail (z_T f n) 1 Z)) : z_R a1 e1 (z_pass (z_T f n) (z_kk x.toNatClampNeg) Z) := by
  have lx : x.toNatClampNeg < 15 := by
    have l1 : x.toInt < 15 := Int32.lt_iff_toInt_lt.mp hx.2
    rw [g_clamp]; omega
  rw [z_pass.no (k := z_kk x.toNatClampNeg) (fun c => h ((hQ.w hz ha lx).mpr c))]; exact g
theorem z_R.numF (hz : z_R a e Z) (q : ¬ e = 0) : z_R a e (z_num (z_T f n) x Z) := by
  unfold z_num; rw [if_pos (fun z => q (hz.2.trans z))]; exact hz
theorem z_R.num1 (hQ : z_Q f n so pl va wd N) (hz : z_R a e Z) (ha : a.toInt ≤ N) (q : e = 0) (h : ¬ so a.toNatClampNeg = 2) (g : z_R a1 e1 (z_fail (z_T f n) 1 Z)) : z_R a1 e1 (z_num (z_T f n) x Z) := by
  have k : (z_T f n).1 Z.1 ≠ 2 := fun z => h ((hQ.k2 hz ha).mpr z)
  unfold z_num; rw [if_neg (fun z => z (hz.2.symm.trans q)), if_pos k]; exact g
theorem z_lc {p q : Int64} : 0 < lg_cmp p q ↔ q < p := by
  unfold lg_cmp
  constructor
  · intro h
    split at h
    · rename_i g; exact g
    · split at h <;> exact absurd h (by decide)
  · intro h
    rw [if_pos h]; decide
theorem z_i64lt {p q : Int32} : p.toInt64 < q.toInt64 ↔ p < q := by
  rw [Int64.lt_iff_toInt_lt, Int32.lt_iff_toInt_lt, Int32.toInt_toInt64, Int32.toInt_toInt64]
theorem z_R.num4 (hQ : z_Q f n so pl va wd N) (hz : z_R a e Z) (ha : a.toInt ≤ N) (q : e = 0) (h : so a.toNatClampNeg = 2) (hr : r = lg_cmp (va a.toNatClampNeg) x.toInt64) (h4 : 0 < r) (g : z_R a1 e1 (z_fail (z_T f n) 4 Z)) : z_R a1 e1 (z_num (z_T f n) x Z) := by
  have k := (hQ.k2 hz ha).mp h
  have v := hQ.nu hz ha k
  have lt : x < (z_T f n).2.1 Z.1 := by
    rw [hr, v, z_lc, z_i64lt] at h4; exact h4
  unfold z_num; rw [if_neg (fun z => z (hz.2.symm.trans q)), if_neg (fun z => z k), if_pos lt]; exact g
theorem z_R.numY (hQ : z_Q f n so pl va wd N) (hz : z_R a e Z) (ha : a.toInt ≤ N) (q : e = 0) (h : so a.toNatClampNeg = 2) (hr : r = lg_cmp (va a.toNatClampNeg) x.toInt64) (h4 : ¬ 0 < r) (l : 0 ≤ a.toInt ∧ a.toInt < 1000) : z_R (a + 1) e (z_num (z_T f n) x Z) := by
  have k := (hQ.k2 hz ha).mp h
  have v := hQ.nu hz ha k
  have lt : ¬ x < (z_T f n).2.1 Z.1 := fun z => h4 (by rw [hr, v, z_lc, z_i64lt]; exact z)
  unfold z_num; rw [if_neg (fun z => z (hz.2.symm.trans q)), if_neg (fun z => z k), if_neg lt]; exact hz.next l
/-! loops of a level -/
theorem z_lvl.k0 {k : Int32} : z_lvl k = 0 ↔ k = 17 ∨ k = 18 := by
  unfold z_lvl
  by_cases h : k = 17 ∨ k = 18
  · rw [if_pos h]; exact ⟨fun _ => h, fun _ => rfl⟩
  · rw [if_neg h]
    refine ⟨fun z => ?_, fun z => absurd z h⟩
    split at z
    · exact absurd z (by decide)
    · split at z
      · exact absurd z (by decide)
      · split at z <;> exact absurd z (by decide)
theorem z_lvl.k1 {k : Int32} : z_lvl k = 1 ↔ k = 6 ∨ k = 7 := by
  unfold z_lvl
  by_cases h0 : k = 17 ∨ k = 18
  · rw [if_pos h0]
    refine ⟨fun z => absurd z (by decide), fun z => ?_⟩
    rcases h0 with h | h <;> rw [h] at z <;> exact absurd z (by decide)
  · rw [if_neg h0]
    by_cases h : k = 6 ∨ k = 7
    · rw [if_pos h]; exact ⟨fun _ => h, fun _ => rfl⟩
    · rw [if_neg h]
      refine ⟨fun z => ?_, fun z => absurd z h⟩
      split at z
      · exact absurd z (by decide)
      · split at z <;> exact absurd z (by decide)
theorem z_lvl.k2 {k : Int32} : z_lvl k = 2 ↔ k = 8 ∨ k = 9 := by
  unfold z_lvl
  by_cases h0 : k = 17 ∨ k = 18
  · rw [if_pos h0]
    refine ⟨fun z => absurd z (by decide), fun z => ?_⟩
    rcases h0 with h | h <;> rw [h] at z <;> exact absurd z (by decide)
  · rw [if_neg h0]
    by_cases h1 : k = 6 ∨ k = 7
    · rw [if_pos h1]
      refine ⟨fun z => absurd z (by decide), fun z => ?_⟩
      rcases h1 with h | h <;> rw [h] at z <;> exact absurd z (by decide)
    · rw [if_neg h1]
      by_cases h : k = 8 ∨ k = 9
      · rw [if_pos h]; exact ⟨fun _ => h, fun _ => rfl⟩
      · rw [if_neg h]
        refine ⟨fun z => ?_, fun z => absurd z h⟩
        split at z <;> exact absurd z (by decide)
theorem z_lvl.k3 {k : Int32} : z_lvl k = 3 ↔ k = 10 := by
  unfold z_lvl
  by_cases h0 : k = 17 ∨ k = 18
  · rw [if_pos h0]
    refine ⟨fun z => absurd z (by decide), fun z => ?_⟩
    rcases h0 with h | h <;> rw [h] at z <;> exact absurd z (by decide)
  · rw [if_neg h0]
    by_cases h1 : k = 6 ∨ k = 7
    · rw [if_pos h1]
      refine ⟨fun z => absurd z (by decide), fun z => ?_⟩
      rcases h1 with h | h <;> rw [h] at z <;> exact absurd z (by decide)
    · rw [if_neg h1]
      by_cases h2 : k = 8 ∨ k = 9
      · rw [if_pos h2]
        refine ⟨fun z => absurd z (by decide), fun z => ?_⟩
        rcases h2 with h | h <;> rw [h] at z <;> exact absurd z (by decide)
      · rw [if_neg h2]
        by_cases h : k = 10
        · rw [if_pos h]; exact ⟨fun _ => h, fun _ => rfl⟩
        · rw [if_neg h]; exact ⟨fun z => absurd z (by decide), fun z => absurd z h⟩
theorem z_R.stop {j : Nat} (hz : z_R a e Z) (hL : z_lp (z_T f n) lv X 1000 Y = z_lp (z_T f n) lv X (1000 - j) Z) (c : ¬ (Z.2.1 = 0 ∧ z_lvl (z_K f n Z.1) = lv)) : z_R a e (z_lp (z_T f n) lv X 1000 Y) := by
  rw [hL]
  by_cases q : Z.2.1 = 0
  · rw [z_lp.n _ (fun z => c ⟨q, z⟩)]; exact hz
  · rw [z_lp.f _ q]; exact hz
theorem z_R.go {j : Nat} (hL : z_lp (z_T f n) lv X 1000 Y = z_lp (z_T f n) lv X (1000 - j) Z) (hj : j ≤ Z.1) (hb : Z.1 < 1000) (c : Z.2.1 = 0 ∧ z_lvl (z_K f n Z.1) = lv) : z_lp (z_T f n) lv X 1000 Y = z_lp (z_T f n) lv X (1000 - (j + 1)) (z_emit (z_K f n Z.1) 0 (X (z_next Z))) := by
  rw [hL, show 1000 - j = (1000 - (j + 1)) + 1 by omega, z_lp.y c.1 c.2]
  try rfl
end ZR2
