/-! how many signs come behind the tape: by the place of the loop -/
theorem f_cM {v : Int64} {x : Int32} (h0 : 0 ≤ x.toInt) (h1 : x.toInt ≤ 56) (hm : x.toInt % 8 = 0) : cntM v ((x.toInt + 8) / 8).toNat = cntM v (((x + -8).toInt + 8) / 8).toNat + okn (bytM v x) := by
  have e8 : (x + -8).toInt = x.toInt + -8 := g_add (x := x) (y := -8) (by show _ ≤ x.toInt + -8; omega) (by show x.toInt + -8 < _; omega)
  have e1 : ((x.toInt + 8) / 8).toNat = (x.toInt / 8).toNat + 1 := by omega
  have e2 : (((x + -8).toInt + 8) / 8).toNat = (x.toInt / 8).toNat := by rw [e8]; omega
  have e3 : nI (8 * (x.toInt / 8).toNat) = x := Int32.toInt_inj.mp (by rw [nI_toInt (by omega)]; omega)
  rw [e1, e2]
  show cntM v (x.toInt / 8).toNat + okn (bytM v (nI (8 * (x.toInt / 8).toNat))) = _
  rw [e3]
theorem f_cC {v : Int64} {x : Int32} (h0 : 0 ≤ x.toInt) (h1 : x.toInt ≤ 56) (hm : x.toInt % 8 = 0) : cntC v ((x.toInt + 8) / 8).toNat = cntC v (((x + -8).toInt + 8) / 8).toNat + okn (bytC v x) := by
  have e8 : (x + -8).toInt = x.toInt + -8 := g_add (x := x) (y := -8) (by show _ ≤ x.toInt + -8; omega) (by show x.toInt + -8 < _; omega)
  have e1 : ((x.toInt + 8) / 8).toNat = (x.toInt / 8).toNat + 1 := by omega
  have e2 : (((x + -8).toInt + 8) / 8).toNat = (x.toInt / 8).toNat := by rw [e8]; omega
  have e3 : nI (8 * (x.toInt / 8).toNat) = x := Int32.toInt_inj.mp (by rw [nI_toInt (by omega)]; omega)
  rw [e1, e2]
  show cntC v (x.toInt / 8).toNat + okn (bytC v (nI (8 * (x.toInt / 8).toNat))) = _
  rw [e3]
