theorem g_rw.ext {f : Nat → Int32} {n n' lo hi : Int} (h : g_rw f n lo hi) (j : Int32) (hj : n = j.toInt) (hn : n' = n + 1) (hx : lo ≤ (f j.toNatClampNeg).toInt ∧ (f j.toNatClampNeg).toInt < hi) : g_rw f n' lo hi := fun i h0 h1 => by
  by_cases e : i = j
  · rw [e]; exact hx
  · have e2 : i.toInt ≠ j.toInt := fun q => e (Int32.toInt_inj.mp q)
    exact h i h0 (by omega)
theorem g_divn {x y : Int32} (hx : 0 ≤ x.toInt) (hy : 1 ≤ y.toInt) : 0 ≤ (x / y).toInt ∧ (x / y).toInt ≤ x.toInt := by
  have hr := g_rng x
  have p : x.toInt.tdiv y.toInt = x.toInt / y.toInt := Int.tdiv_eq_ediv_of_nonneg hx
  have a : x.toInt / y.toInt ≤ x.toInt := Int.ediv_le_self _ hx
  have b : 0 ≤ x.toInt / y.toInt := Int.ediv_nonneg hx (by omega)
  rw [Int32.toInt_div, g_bmod (by omega) (by omega)]
  omega
