theorem g_div {x y : Int32} {K : Int} (hK : 0 ≤ K) (hK2 : K < 2147483648) (hy : 1 ≤ y.toInt) (h1 : -(K * y.toInt) ≤ x.toInt) (h2 : x.toInt ≤ K * y.toInt) : -K ≤ (x / y).toInt ∧ (x / y).toInt < K + 1 := by
  have hb : -K ≤ x.toInt.tdiv y.toInt ∧ x.toInt.tdiv y.toInt ≤ K := by
    rcases Int.lt_or_le x.toInt 0 with hx | hx
    · have e : x.toInt.tdiv y.toInt = -((-x.toInt).tdiv y.toInt) := by rw [Int.neg_tdiv, Int.neg_neg]
      have p : (-x.toInt).tdiv y.toInt = (-x.toInt) / y.toInt := Int.tdiv_eq_ediv_of_nonneg (by omega)
      have a : (-x.toInt) / y.toInt ≤ K := Int.ediv_le_of_le_mul (by omega) (by omega)
      have b : 0 ≤ (-x.toInt) / y.toInt := Int.ediv_nonneg (by omega) (by omega)
      omega
    · have p : x.toInt.tdiv y.toInt = x.toInt / y.toInt := Int.tdiv_eq_ediv_of_nonneg hx
      have a : x.toInt / y.toInt ≤ K := Int.ediv_le_of_le_mul (by omega) h2
      have b : 0 ≤ x.toInt / y.toInt := Int.ediv_nonneg hx (by omega)
      omega
  rw [Int32.toInt_div, g_bmod (by omega) (by omega)]
  omega
