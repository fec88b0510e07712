/-! sets as bits -/
theorem g_sh1 {k : Int32} (h0 : 0 ≤ k.toInt) (h1 : k.toInt ≤ 8) : 1 ≤ ((1 : Int32) <<< (k &&& 31)).toInt ∧ ((1 : Int32) <<< (k &&& 31)).toInt ≤ 256 ∧ (k.toInt < 8 → ((1 : Int32) <<< (k &&& 31)).toInt < 256) := by
  rcases (by omega : k.toInt = 0 ∨ k.toInt = 1 ∨ k.toInt = 2 ∨ k.toInt = 3 ∨ k.toInt = 4 ∨ k.toInt = 5 ∨ k.toInt = 6 ∨ k.toInt = 7 ∨ k.toInt = 8) with h | h | h | h | h | h | h | h | h
  · rw [show k = 0 from Int32.toInt_inj.mp h]; decide
  · rw [show k = 1 from Int32.toInt_inj.mp h]; decide
  · rw [show k = 2 from Int32.toInt_inj.mp h]; decide
  · rw [show k = 3 from Int32.toInt_inj.mp h]; decide
  · rw [show k = 4 from Int32.toInt_inj.mp h]; decide
  · rw [show k = 5 from Int32.toInt_inj.mp h]; decide
  · rw [show k = 6 from Int32.toInt_inj.mp h]; decide
  · rw [show k = 7 from Int32.toInt_inj.mp h]; decide
  · rw [show k = 8 from Int32.toInt_inj.mp h]; decide
theorem g_nat {x : Int32} (h0 : 0 ≤ x.toInt) : (x.toBitVec.toNat : Int) = x.toInt := by
  have e : x.toInt = x.toBitVec.toInt := rfl
  rw [e] at h0 ⊢
  rw [BitVec.toInt_eq_toNat_cond] at h0 ⊢
  have := x.toBitVec.isLt
  split at h0 <;> split <;> omega
theorem g_xor8 {x y : Int32} (hx : 0 ≤ x.toInt ∧ x.toInt < 256) (hy : 0 ≤ y.toInt ∧ y.toInt < 256) : 0 ≤ (x ^^^ y).toInt ∧ (x ^^^ y).toInt < 256 := by
  have a := g_nat hx.1
  have b := g_nat hy.1
  have l : (x ^^^ y).toBitVec.toNat = x.toBitVec.toNat ^^^ y.toBitVec.toNat := BitVec.toNat_xor _ _
  have z : x.toBitVec.toNat ^^^ y.toBitVec.toNat < 2 ^ 8 := Nat.xor_lt_two_pow (by omega) (by omega)
  have e : (x ^^^ y).toInt = (x ^^^ y).toBitVec.toInt := rfl
  rw [e, BitVec.toInt_eq_toNat_cond, if_pos (by omega)]
  omega
