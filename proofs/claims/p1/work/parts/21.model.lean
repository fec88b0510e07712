theorem k_X12_lay_r0 (u : qS) (uc : qS) (v : Int64) (t : Nat) (i : Nat) (t1 : Nat) (k : Int32) (f_3 : Nat → Int32) (h1 : k = nI (8 * i) - 8) (h2 : i ≤ 8) (h3 : uc.1 1202 = nI t1) (h4 : t1 + i ≤ 24) (h5 : t1 + cntM v i = t + cntM v 8) (c4_1 : ¬ (k : Int32) < 0) (c21_2 : (((v >>> ((k : Int32).toInt64 &&& 63)).toInt32) &&& 255 : Int32) = 10) (hf_3 : upd (uc.2.1 1201) (uc.1 1202 : Int32).toNatClampNeg (((v >>> ((k : Int32).toInt64 &&& 63)).toInt32) &&& 255) = f_3) : (k + (-8)) = nI (8 * (i - 1)) - 8 := by
  exact lay_kn h1 h2 (by assumption)
theorem k_X12_lay_r1 (u : qS) (uc : qS) (v : Int64) (t : Nat) (i : Nat) (t1 : Nat) (k : Int32) (f_3 : Nat → Int32) (h1 : k = nI (8 * i) - 8) (h2 : i ≤ 8) (h3 : uc.1 1202 = nI t1) (h4 : t1 + i ≤ 24) (h5 : t1 + cntM v i = t + cntM v 8) (c4_1 : ¬ (k : Int32) < 0) (c21_2 : (((v >>> ((k : Int32).toInt64 &&& 63)).toInt32) &&& 255 : Int32) = 10) (hf_3 : upd (uc.2.1 1201) (uc.1 1202 : Int32).toNatClampNeg (((v >>> ((k : Int32).toInt64 &&& 63)).toInt32) &&& 255) = f_3) : (i - 1) ≤ 8 := by
  omega
theorem k_X12_lay_r2 (u : qS) (uc : qS) (v : Int64) (t : Nat) (i : Nat) (t1 : Nat) (k : Int32) (f_3 : Nat → Int32) (h1 : k = nI (8 * i) - 8) (h2 : i ≤ 8) (h3 : uc.1 1202 = nI t1) (h4 : t1 + i ≤ 24) (h5 : t1 + cntM v i = t + cntM v 8) (c4_1 : ¬ (k : Int32) < 0) (c21_2 : (((v >>> ((k : Int32).toInt64 &&& 63)).toInt32) &&& 255 : Int32) = 10) (hf_3 : upd (uc.2.1 1201) (uc.1 1202 : Int32).toNatClampNeg (((v >>> ((k : Int32).toInt64 &&& 63)).toInt32) &&& 255) = f_3) : ((uc.1 1202) + 1 : Int32) = nI (t1 + 1) := by
  first | exact lay_1 h3 | exact h3 | exact h_t
theorem k_X12_lay_r3 (u : qS) (uc : qS) (v : Int64) (t : Nat) (i : Nat) (t1 : Nat) (k : Int32) (f_3 : Nat → Int32) (h1 : k = nI (8 * i) - 8) (h2 : i ≤ 8) (h3 : uc.1 1202 = nI t1) (h4 : t1 + i ≤ 24) (h5 : t1 + cntM v i = t + cntM v 8) (c4_1 : ¬ (k : Int32) < 0) (c21_2 : (((v >>> ((k : Int32).toInt64 &&& 63)).toInt32) &&& 255 : Int32) = 10) (hf_3 : upd (uc.2.1 1201) (uc.1 1202 : Int32).toNatClampNeg (((v >>> ((k : Int32).toInt64 &&& 63)).toInt32) &&& 255) = f_3) : (t1 + 1) + (i - 1) ≤ 24 := by
  first | omega | (have := (lay_k h1 h2 (by assumption)).1; omega)
theorem k_X12_lay_r4 (u : qS) (uc : qS) (v : Int64) (t : Nat) (i : Nat) (t1 : Nat) (k : Int32) (f_3 : Nat → Int32) (h1 : k = nI (8 * i) - 8) (h2 : i ≤ 8) (h3 : uc.1 1202 = nI t1) (h4 : t1 + i ≤ 24) (h5 : t1 + cntM v i = t + cntM v 8) (c4_1 : ¬ (k : Int32) < 0) (c21_2 : (((v >>> ((k : Int32).toInt64 &&& 63)).toInt32) &&& 255 : Int32) = 10) (hf_3 : upd (uc.2.1 1201) (uc.1 1202 : Int32).toNatClampNeg (((v >>> ((k : Int32).toInt64 &&& 63)).toInt32) &&& 255) = f_3) : (t1 + 1) + cntM v (i - 1) = t + cntM v 8 := by
  first | (have e := lay_sM v h1 h2 (by assumption); first | (have e2 : okn (bytM v k) = 1 := okn_1 (Or.inl (by assumption)); omega) | (have e2 : okn (bytM v k) = 1 := okn_1 (Or.inr ⟨Int32.not_lt.mp (by assumption), Int32.not_lt.mp (by assumption)⟩); omega) | (have e2 : okn (bytM v k) = 0 := okn_0 (by assumption) (Or.inl (by assumption)); omega) | (have e2 : okn (bytM v k) = 0 := okn_0 (by assumption) (Or.inr (by assumption)); omega)) | rfl
theorem k_X12_lay_r5 (u : qS) (uc : qS) (v : Int64) (t : Nat) (i : Nat) (t1 : Nat) (k : Int32) (f_3 : Nat → Int32) (h1 : k = nI (8 * i) - 8) (h2 : i ≤ 8) (h3 : uc.1 1202 = nI t1) (h4 : t1 + i ≤ 24) (h5 : t1 + cntM v i = t + cntM v 8) (c4_1 : ¬ (k : Int32) < 0) (c21_2 : (((v >>> ((k : Int32).toInt64 &&& 63)).toInt32) &&& 255 : Int32) = 10) (hf_3 : upd (uc.2.1 1201) (uc.1 1202 : Int32).toNatClampNeg (((v >>> ((k : Int32).toInt64 &&& 63)).toInt32) &&& 255) = f_3) : (i - 1) < i := by
  have := (lay_k h1 h2 (by assumption)).1; omega
theorem k_X12_lay_r6 (u : qS) (uc : qS) (v : Int64) (t : Nat) (i : Nat) (t1 : Nat) (k : Int32) (h1 : k = nI (8 * i) - 8) (h2 : i ≤ 8) (h3 : uc.1 1202 = nI t1) (h4 : t1 + i ≤ 24) (h5 : t1 + cntM v i = t + cntM v 8) (c4_1 : ¬ (k : Int32) < 0) (c21_2 : ¬ (((v >>> ((k : Int32).toInt64 &&& 63)).toInt32) &&& 255 : Int32) = 10) (c28_4 : (((v >>> ((k : Int32).toInt64 &&& 63)).toInt32) &&& 255 : Int32) < 32) : (k + (-8)) = nI (8 * (i - 1)) - 8 := by
  exact lay_kn h1 h2 (by assumption)
theorem k_X12_lay_r7 (u : qS) (uc : qS) (v : Int64) (t : Nat) (i : Nat) (t1 : Nat) (k : Int32) (h1 : k = nI (8 * i) - 8) (h2 : i ≤ 8) (h3 : uc.1 1202 = nI t1) (h4 : t1 + i ≤ 24) (h5 : t1 + cntM v i = t + cntM v 8) (c4_1 : ¬ (k : Int32) < 0) (c21_2 : ¬ (((v >>> ((k : Int32).toInt64 &&& 63)).toInt32) &&& 255 : Int32) = 10) (c28_4 : (((v >>> ((k : Int32).toInt64 &&& 63)).toInt32) &&& 255 : Int32) < 32) : (i - 1) ≤ 8 := by
  omega
theorem k_X12_lay_r8 (u : qS) (uc : qS) (v : Int64) (t : Nat) (i : Nat) (t1 : Nat) (k : Int32) (h1 : k = nI (8 * i) - 8) (h2 : i ≤ 8) (h3 : uc.1 1202 = nI t1) (h4 : t1 + i ≤ 24) (h5 : t1 + cntM v i = t + cntM v 8) (c4_1 : ¬ (k : Int32) < 0) (c21_2 : ¬ (((v >>> ((k : Int32).toInt64 &&& 63)).toInt32) &&& 255 : Int32) = 10) (c28_4 : (((v >>> ((k : Int32).toInt64 &&& 63)).toInt32) &&& 255 : Int32) < 32) : (uc.1 1202) = nI t1 := by
  first | exact lay_1 h3 | exact h3 | exact h_t
theorem k_X12_lay_r9 (u : qS) (uc : qS) (v : Int64) (t : Nat) (i : Nat) (t1 : Nat) (k : Int32) (h1 : k = nI (8 * i) - 8) (h2 : i ≤ 8) (h3 : uc.1 1202 = nI t1) (h4 : t1 + i ≤ 24) (h5 : t1 + cntM v i = t + cntM v 8) (c4_1 : ¬ (k : Int32) < 0) (c21_2 : ¬ (((v >>> ((k : Int32).toInt64 &&& 63)).toInt32) &&& 255 : Int32) = 10) (c28_4 : (((v >>> ((k : Int32).toInt64 &&& 63)).toInt32) &&& 255 : Int32) < 32) : t1 + (i - 1) ≤ 24 := by
  first | omega | (have := (lay_k h1 h2 (by assumption)).1; omega)
theorem k_X12_lay_r10 (u : qS) (uc : qS) (v : Int64) (t : Nat) (i : Nat) (t1 : Nat) (k : Int32) (h1 : k = nI (8 * i) - 8) (h2 : i ≤ 8) (h3 : uc.1 1202 = nI t1) (h4 : t1 + i ≤ 24) (h5 : t1 + cntM v i = t + cntM v 8) (c4_1 : ¬ (k : Int32) < 0) (c21_2 : ¬ (((v >>> ((k : Int32).toInt64 &&& 63)).toInt32) &&& 255 : Int32) = 10) (c28_4 : (((v >>> ((k : Int32).toInt64 &&& 63)).toInt32) &&& 255 : Int32) < 32) : t1 + cntM v (i - 1) = t + cntM v 8 := by
  first | (have e := lay_sM v h1 h2 (by assumption); first | (have e2 : okn (bytM v k) = 1 := okn_1 (Or.inl (by assumption)); omega) | (have e2 : okn (bytM v k) = 1 := okn_1 (Or.inr ⟨Int32.not_lt.mp (by assumption), Int32.not_lt.mp (by assumption)⟩); omega) | (have e2 : okn (bytM v k) = 0 := okn_0 (by assumption) (Or.inl (by assumption)); omega) | (have e2 : okn (bytM v k) = 0 := okn_0 (by assumption) (Or.inr (by assumption)); omega)) | rfl
theorem k_X12_lay_r11 (u : qS) (uc : qS) (v : Int64) (t : Nat) (i : Nat) (t1 : Nat) (k : Int32) (h1 : k = nI (8 * i) - 8) (h2 : i ≤ 8) (h3 : uc.1 1202 = nI t1) (h4 : t1 + i ≤ 24) (h5 : t1 + cntM v i = t + cntM v 8) (c4_1 : ¬ (k : Int32) < 0) (c21_2 : ¬ (((v >>> ((k : Int32).toInt64 &&& 63)).toInt32) &&& 255 : Int32) = 10) (c28_4 : (((v >>> ((k : Int32).toInt64 &&& 63)).toInt32) &&& 255 : Int32) < 32) : (i - 1) < i := by
  have := (lay_k h1 h2 (by assumption)).1; omega
theorem k_X12_lay_r12 (u : qS) (uc : qS) (v : Int64) (t : Nat) (i : Nat) (t1 : Nat) (k : Int32) (h1 : k = nI (8 * i) - 8) (h2 : i ≤ 8) (h3 : uc.1 1202 = nI t1) (h4 : t1 + i ≤ 24) (h5 : t1 + cntM v i = t + cntM v 8) (c4_1 : ¬ (k : Int32) < 0) (c21_2 : ¬ (((v >>> ((k : Int32).toInt64 &&& 63)).toInt32) &&& 255 : Int32) = 10) (c28_4 : ¬ (((v >>> ((k : Int32).toInt64 &&& 63)).toInt32) &&& 255 : Int32) < 32) (c35_5 : 126 < (((v >>> ((k : Int32).toInt64 &&& 63)).toInt32) &&& 255 : Int32)) : (k + (-8)) = nI (8 * (i - 1)) - 8 := by
  exact lay_kn h1 h2 (by assumption)
theorem k_X12_lay_r13 (u : qS) (uc : qS) (v : Int64) (t : Nat) (i : Nat) (t1 : Nat) (k : Int32) (h1 : k = nI (8 * i) - 8) (h2 : i ≤ 8) (h3 : uc.1 1202 = nI t1) (h4 : t1 + i ≤ 24) (h5 : t1 + cntM v i = t + cntM v 8) (c4_1 : ¬ (k : Int32) < 0) (c21_2 : ¬ (((v >>> ((k : Int32).toInt64 &&& 63)).toInt32) &&& 255 : Int32) = 10) (c28_4 : ¬ (((v >>> ((k : Int32).toInt64 &&& 63)).toInt32) &&& 255 : Int32) < 32) (c35_5 : 126 < (((v >>> ((k : Int32).toInt64 &&& 63)).toInt32) &&& 255 : Int32)) : (i - 1) ≤ 8 := by
  omega
theorem k_X12_lay_r14 (u : qS) (uc : qS) (v : Int64) (t : Nat) (i : Nat) (t1 : Nat) (k : Int32) (h1 : k = nI (8 * i) - 8) (h2 : i ≤ 8) (h3 : uc.1 1202 = nI t1) (h4 : t1 + i ≤ 24) (h5 : t1 + cntM v i = t + cntM v 8) (c4_1 : ¬ (k : Int32) < 0) (c21_2 : ¬ (((v >>> ((k : Int32).toInt64 &&& 63)).toInt32) &&& 255 : Int32) = 10) (c28_4 : ¬ (((v >>> ((k : Int32).toInt64 &&& 63)).toInt32) &&& 255 : Int32) < 32) (c35_5 : 126 < (((v >>> ((k : Int32).toInt64 &&& 63)).toInt32) &&& 255 : Int32)) : (uc.1 1202) = nI t1 := by
  first | exact lay_1 h3 | exact h3 | exact h_t
theorem k_X12_lay_r15 (u : qS) (uc : qS) (v : Int64) (t : Nat) (i : Nat) (t1 : Nat) (k : Int32) (h1 : k = nI (8 * i) - 8) (h2 : i ≤ 8) (h3 : uc.1 1202 = nI t1) (h4 : t1 + i ≤ 24) (h5 : t1 + cntM v i = t + cntM v 8) (c4_1 : ¬ (k : Int32) < 0) (c21_2 : ¬ (((v >>> ((k : Int32).toInt64 &&& 63)).toInt32) &&& 255 : Int32) = 10) (c28_4 : ¬ (((v >>> ((k : Int32).toInt64 &&& 63)).toInt32) &&& 255 : Int32) < 32) (c35_5 : 126 < (((v >>> ((k : Int32).toInt64 &&& 63)).toInt32) &&& 255 : Int32)) : t1 + (i - 1) ≤ 24 := by
  first | omega | (have := (lay_k h1 h2 (by assumption)).1; omega)
theorem k_X12_lay_r16 (u : qS) (uc : qS) (v : Int64) (t : Nat) (i : Nat) (t1 : Nat) (k : Int32) (h1 : k = nI (8 * i) - 8) (h2 : i ≤ 8) (h3 : uc.1 1202 = nI t1) (h4 : t1 + i ≤ 24) (h5 : t1 + cntM v i = t + cntM v 8) (c4_1 : ¬ (k : Int32) < 0) (c21_2 : ¬ (((v >>> ((k : Int32).toInt64 &&& 63)).toInt32) &&& 255 : Int32) = 10) (c28_4 : ¬ (((v >>> ((k : Int32).toInt64 &&& 63)).toInt32) &&& 255 : Int32) < 32) (c35_5 : 126 < (((v >>> ((k : Int32).toInt64 &&& 63)).toInt32) &&& 255 : Int32)) : t1 + cntM v (i - 1) = t + cntM v 8 := by
  first | (have e := lay_sM v h1 h2 (by assumption); first | (have e2 : okn (bytM v k) = 1 := okn_1 (Or.inl (by assumption)); omega) | (have e2 : okn (bytM v k) = 1 := okn_1 (Or.inr ⟨Int32.not_lt.mp (by assumption), Int32.not_lt.mp (by assumption)⟩); omega) | (have e2 : okn (bytM v k) = 0 := okn_0 (by assumption) (Or.inl (by assumption)); omega) | (have e2 : okn (bytM v k) = 0 := okn_0 (by assumption) (Or.inr (by assumption)); omega)) | rfl
theorem k_X12_lay_r17 (u : qS) (uc : qS) (v : Int64) (t : Nat) (i : Nat) (t1 : Nat) (k : Int32) (h1 : k = nI (8 * i) - 8) (h2 : i ≤ 8) (h3 : uc.1 1202 = nI t1) (h4 : t1 + i ≤ 24) (h5 : t1 + cntM v i = t + cntM v 8) (c4_1 : ¬ (k : Int32) < 0) (c21_2 : ¬ (((v >>> ((k : Int32).toInt64 &&& 63)).toInt32) &&& 255 : Int32) = 10) (c28_4 : ¬ (((v >>> ((k : Int32).toInt64 &&& 63)).toInt32) &&& 255 : Int32) < 32) (c35_5 : 126 < (((v >>> ((k : Int32).toInt64 &&& 63)).toInt32) &&& 255 : Int32)) : (i - 1) < i := by
  have := (lay_k h1 h2 (by assumption)).1; omega
theorem k_X12_lay_r18 (u : qS) (uc : qS) (v : Int64) (t : Nat) (i : Nat) (t1 : Nat) (k : Int32) (f_6 : Nat → Int32) (h1 : k = nI (8 * i) - 8) (h2 : i ≤ 8) (h3 : uc.1 1202 = nI t1) (h4 : t1 + i ≤ 24) (h5 : t1 + cntM v i = t + cntM v 8) (c4_1 : ¬ (k : Int32) < 0) (c21_2 : ¬ (((v >>> ((k : Int32).toInt64 &&& 63)).toInt32) &&& 255 : Int32) = 10) (c28_4 : ¬ (((v >>> ((k : Int32).toInt64 &&& 63)).toInt32) &&& 255 : Int32) < 32) (c35_5 : ¬ 126 < (((v >>> ((k : Int32).toInt64 &&& 63)).toInt32) &&& 255 : Int32)) (hf_6 : upd (uc.2.1 1201) (uc.1 1202 : Int32).toNatClampNeg (((v >>> ((k : Int32).toInt64 &&& 63)).toInt32) &&& 255) = f_6) : (k + (-8)) = nI (8 * (i - 1)) - 8 := by
  exact lay_kn h1 h2 (by assumption)
theorem k_X12_lay_r19 (u : qS) (uc : qS) (v : Int64) (t : Nat) (i : Nat) (t1 : Nat) (k : Int32) (f_6 : Nat → Int32) (h1 : k = nI (8 * i) - 8) (h2 : i ≤ 8) (h3 : uc.1 1202 = nI t1) (h4 : t1 + i ≤ 24) (h5 : t1 + cntM v i = t + cntM v 8) (c4_1 : ¬ (k : Int32) < 0) (c21_2 : ¬ (((v >>> ((k : Int32).toInt64 &&& 63)).toInt32) &&& 255 : Int32) = 10) (c28_4 : ¬ (((v >>> ((k : Int32).toInt64 &&& 63)).toInt32) &&& 255 : Int32) < 32) (c35_5 : ¬ 126 < (((v >>> ((k : Int32).toInt64 &&& 63)).toInt32) &&& 255 : Int32)) (hf_6 : upd (uc.2.1 1201) (uc.1 1202 : Int32).toNatClampNeg (((v >>> ((k : Int32).toInt64 &&& 63)).toInt32) &&& 255) = f_6) : (i - 1) ≤ 8 := by
  omega
theorem k_X12_lay_r20 (u : qS) (uc : qS) (v : Int64) (t : Nat) (i : Nat) (t1 : Nat) (k : Int32) (f_6 : Nat → Int32) (h1 : k = nI (8 * i) - 8) (h2 : i ≤ 8) (h3 : uc.1 1202 = nI t1) (h4 : t1 + i ≤ 24) (h5 : t1 + cntM v i = t + cntM v 8) (c4_1 : ¬ (k : Int32) < 0) (c21_2 : ¬ (((v >>> ((k : Int32).toInt64 &&& 63)).toInt32) &&& 255 : Int32) = 10) (c28_4 : ¬ (((v >>> ((k : Int32).toInt64 &&& 63)).toInt32) &&& 255 : Int32) < 32) (c35_5 : ¬ 126 < (((v >>> ((k : Int32).toInt64 &&& 63)).toInt32) &&& 255 : Int32)) (hf_6 : upd (uc.2.1 1201) (uc.1 1202 : Int32).toNatClampNeg (((v >>> ((k : Int32).toInt64 &&& 63)).toInt32) &&& 255) = f_6) : ((uc.1 1202) + 1 : Int32) = nI (t1 + 1) := by
  first | exact lay_1 h3 | exact h3 | exact h_t
theorem k_X12_lay_r21 (u : qS) (uc : qS) (v : Int64) (t : Nat) (i : Nat) (t1 : Nat) (k : Int32) (f_6 : Nat → Int32) (h1 : k = nI (8 * i) - 8) (h2 : i ≤ 8) (h3 : uc.1 1202 = nI t1) (h4 : t1 + i ≤ 24) (h5 : t1 + cntM v i = t + cntM v 8) (c4_1 : ¬ (k : Int32) < 0) (c21_2 : ¬ (((v >>> ((k : Int32).toInt64 &&& 63)).toInt32) &&& 255 : Int32) = 10) (c28_4 : ¬ (((v >>> ((k : Int32).toInt64 &&& 63)).toInt32) &&& 255 : Int32) < 32) (c35_5 : ¬ 126 < (((v >>> ((k : Int32).toInt64 &&& 63)).toInt32) &&& 255 : Int32)) (hf_6 : upd (uc.2.1 1201) (uc.1 1202 : Int32).toNatClampNeg (((v >>> ((k : Int32).toInt64 &&& 63)).toInt32) &&& 255) = f_6) : (t1 + 1) + (i - 1) ≤ 24 := by
  first | omega | (have := (lay_k h1 h2 (by assumption)).1; omega)
theorem k_X12_lay_r22 (u : qS) (uc : qS) (v : Int64) (t : Nat) (i : Nat) (t1 : Nat) (k : Int32) (f_6 : Nat → Int32) (h1 : k = nI (8 * i) - 8) (h2 : i ≤ 8) (h3 : uc.1 1202 = nI t1) (h4 : t1 + i ≤ 24) (h5 : t1 + cntM v i = t + cntM v 8) (c4_1 : ¬ (k : Int32) < 0) (c21_2 : ¬ (((v >>> ((k : Int32).toInt64 &&& 63)).toInt32) &&& 255 : Int32) = 10) (c28_4 : ¬ (((v >>> ((k : Int32).toInt64 &&& 63)).toInt32) &&& 255 : Int32) < 32) (c35_5 : ¬ 126 < (((v >>> ((k : Int32).toInt64 &&& 63)).toInt32) &&& 255 : Int32)) (hf_6 : upd (uc.2.1 1201) (uc.1 1202 : Int32).toNatClampNeg (((v >>> ((k : Int32).toInt64 &&& 63)).toInt32) &&& 255) = f_6) : (t1 + 1) + cntM v (i - 1) = t + cntM v 8 := by
  first | (have e := lay_sM v h1 h2 (by assumption); first | (have e2 : okn (bytM v k) = 1 := okn_1 (Or.inl (by assumption)); omega) | (have e2 : okn (bytM v k) = 1 := okn_1 (Or.inr ⟨Int32.not_lt.mp (by assumption), Int32.not_lt.mp (by assumption)⟩); omega) | (have e2 : okn (bytM v k) = 0 := okn_0 (by assumption) (Or.inl (by assumption)); omega) | (have e2 : okn (bytM v k) = 0 := okn_0 (by assumption) (Or.inr (by assumption)); omega)) | rfl
theorem k_X12_lay_r23 (u : qS) (uc : qS) (v : Int64) (t : Nat) (i : Nat) (t1 : Nat) (k : Int32) (f_6 : Nat → Int32) (h1 : k = nI (8 * i) - 8) (h2 : i ≤ 8) (h3 : uc.1 1202 = nI t1) (h4 : t1 + i ≤ 24) (h5 : t1 + cntM v i = t + cntM v 8) (c4_1 : ¬ (k : Int32) < 0) (c21_2 : ¬ (((v >>> ((k : Int32).toInt64 &&& 63)).toInt32) &&& 255 : Int32) = 10) (c28_4 : ¬ (((v >>> ((k : Int32).toInt64 &&& 63)).toInt32) &&& 255 : Int32) < 32) (c35_5 : ¬ 126 < (((v >>> ((k : Int32).toInt64 &&& 63)).toInt32) &&& 255 : Int32)) (hf_6 : upd (uc.2.1 1201) (uc.1 1202 : Int32).toNatClampNeg (((v >>> ((k : Int32).toInt64 &&& 63)).toInt32) &&& 255) = f_6) : (i - 1) < i := by
  have := (lay_k h1 h2 (by assumption)).1; omega
theorem k_X12_lay_r24 (u : qS) (v : Int64) (t : Nat) (h_t : u.1 1202 = nI t) (h_8 : t + 8 ≤ 24) : 56 = nI (8 * 8) - 8 := by
  decide +kernel
theorem k_X12_lay_r25 (u : qS) (v : Int64) (t : Nat) (h_t : u.1 1202 = nI t) (h_8 : t + 8 ≤ 24) : 8 ≤ 8 := by
  omega
theorem k_X12_lay_r26 (u : qS) (v : Int64) (t : Nat) (h_t : u.1 1202 = nI t) (h_8 : t + 8 ≤ 24) : (u.1 1202) = nI t := by
  first | exact lay_1 h3 | exact h3 | exact h_t
theorem k_X12_lay_r27 (u : qS) (v : Int64) (t : Nat) (h_t : u.1 1202 = nI t) (h_8 : t + 8 ≤ 24) : t + 8 ≤ 24 := by
  first | omega | (have := (lay_k h1 h2 (by assumption)).1; omega)
theorem k_X12_lay_r28 (u : qS) (v : Int64) (t : Nat) (h_t : u.1 1202 = nI t) (h_8 : t + 8 ≤ 24) : t + cntM v 8 = t + cntM v 8 := by
  first | (have e := lay_sM v h1 h2 (by assumption); first | (have e2 : okn (bytM v k) = 1 := okn_1 (Or.inl (by assumption)); omega) | (have e2 : okn (bytM v k) = 1 := okn_1 (Or.inr ⟨Int32.not_lt.mp (by assumption), Int32.not_lt.mp (by assumption)⟩); omega) | (have e2 : okn (bytM v k) = 0 := okn_0 (by assumption) (Or.inl (by assumption)); omega) | (have e2 : okn (bytM v k) = 0 := okn_0 (by assumption) (Or.inr (by assumption)); omega)) | rfl
set_option maxHeartbeats 400000 in
set_option maxRecDepth 100000 in
theorem k_X12_lay (l : Launch) (E : qE) (A : Nat → Prop) (u : qS) (v : Int64) (t : Nat) (h_t : u.1 1202 = nI t) (h_8 : t + 8 ≤ 24) : Met l yX12_lay (uws yX12_lay cX12_lay 5 none) (qR 0 0 0) (qPc E A 1 u [.ref (E.2.2 1299), .long v]) (qQv E A 1 (fun u1 => u1.1 1202 = nI (t + cntM v 8))) 0 0 A := by
  refine q_met (own := RX12) (f := 0) [.ref (E.2.2 1299), .long v] (by decide) (Nat.le_of_ble_eq_true rfl) rfl ?_
  intro p0 e0 s0 m0 bl0 me0 cd0 ls hF hr hlocks hU hS hA hl
  have hl : lv_has ls 5 [(0, .ref (E.2.2 1299)), (1, .long v)] := hl
  have main : ∀ n : Nat, (∀ (i : Nat) (t1 : Nat) (k : Int32) (uc : qS) (H : Heap) (locs : List Loc) (ls : Array Slot) (h1 : k = nI (8 * i) - 8) (h2 : i ≤ 8) (h3 : uc.1 1202 = nI t1) (h4 : t1 + i ≤ 24) (h5 : t1 + cntM v i = t + cntM v 8), i < n → qH E A 1 uc s0 H → va_S A s0.heap H locs → lv_has ls 5 [(0, .ref (E.2.2 1299)), (1, .long v), (3, .int k)] → W p0 l e0 (qR 0 0 0) s0 m0 ([.ref (E.2.2 1299), .long v] : List Value).toArray bl0 me0 cd0 H locs 0 0 (MQ bl0 (qQv E A 1 (fun u1 => u1.1 1202 = nI (t + cntM v 8))) ([.ref (E.2.2 1299), .long v] : List Value).toArray s0 0 0 A) (F0 m0 3 ls [])) := by
    intro n
    induction n with
    | zero => exact fun _ _ _ _ _ _ _ _ _ _ _ _ hmu => absurd hmu (Nat.not_lt_zero _)
    | succ n ih =>
      intro i t1 k uc H locs ls h1 h2 h3 h4 h5 hmu hU hS hl
      refine lv_iload_n hF.1 hF.2.1 dX12_lay_3 rfl (lv_at hl 2 rfl) ?_
      refine lv_if_lt (tgt := 75) hF.1 hF.2.1 dX12_lay_4 (by decide) (fun c4_1 => ?_) (fun c4_1 => ?_)
      · exact q_vret hF hr hlocks hU hS dX12_lay_75 (by have e := lay_k0 h1 h2 (by assumption); subst e; exact h3.trans (congrArg nI h5))
      · refine lv_lload_n hF.1 hF.2.1 dX12_lay_7 rfl (lv_at hl 1 rfl) ?_
        refine lv_iload_n hF.1 hF.2.1 dX12_lay_8 rfl (lv_at hl 2 rfl) ?_
        refine lv_lshr (v := v >>> ((k : Int32).toInt64 &&& 63)) hF.1 hF.2.1 dX12_lay_9 rfl ?_
        refine lv_l2i (v := (v >>> ((k : Int32).toInt64 &&& 63)).toInt32) hF.1 hF.2.1 dX12_lay_10 rfl ?_
        refine lv_sipush (v := 255) hF.1 hF.2.1 dX12_lay_11 (by decide) ?_
        refine lv_iand hF.1 hF.2.1 dX12_lay_14 ?_
        refine lv_istore (lv' := [(4, .int (((v >>> ((k : Int32).toInt64 &&& 63)).toInt32) &&& 255)), (0, .ref (E.2.2 1299)), (1, .long v), (3, .int k)]) hF.1 hF.2.1 dX12_lay_15 hl (by decide) rfl (fun ls hl => ?_)
        refine lv_iload hF.1 hF.2.1 dX12_lay_17 (lv_at hl 0 rfl) ?_
        refine lv_bipush (v := 10) hF.1 hF.2.1 dX12_lay_19 (by decide) ?_
        refine lv_icmp_eq (tgt := 38) hF.1 hF.2.1 dX12_lay_21 (by decide) (fun c21_2 => ?_) (fun c21_2 => ?_)
        · refine lv_aload_n hF.1 hF.2.1 dX12_lay_38 rfl (lv_at hl 1 rfl) ?_
          refine q_get (v := .int (uc.1 1202)) hF hU dX12_lay_39 0 12 2 1202 1299 rfl rfl rfl rfl inX12 (by decide) (by decide) w_1335 rfl rfl ?_
          refine lv_sipush (v := 1000) hF.1 hF.2.1 dX12_lay_42 (by decide) ?_
          refine lv_icmp_ge (tgt := 69) hF.1 hF.2.1 dX12_lay_45 (by decide) (fun h9 => absurd h9 (lay_ge h3 h4)) (fun _ => ?_)
          refine lv_aload_n hF.1 hF.2.1 dX12_lay_48 rfl (lv_at hl 1 rfl) ?_
          refine q_get (v := .ref (E.2.2 1201)) hF hU dX12_lay_49 0 12 1 1201 1299 rfl rfl rfl rfl inX12 (by decide) (by decide) w_1334 rfl rfl ?_
          refine lv_aload_n hF.1 hF.2.1 dX12_lay_52 rfl (lv_at hl 1 rfl) ?_
          refine q_get (v := .int (uc.1 1202)) hF hU dX12_lay_53 0 12 2 1202 1299 rfl rfl rfl rfl inX12 (by decide) (by decide) w_1335 rfl rfl ?_
          refine lv_iload hF.1 hF.2.1 dX12_lay_56 (lv_at hl 0 rfl) ?_
          refine q_iast hF hU hS dX12_lay_58 0 1201 rfl rfl (lay_in h3 h4) (fun f_3 H locs hg hU hS => ?_)
          have hf_3 : upd (uc.2.1 1201) (uc.1 1202 : Int32).toNatClampNeg (((v >>> ((k : Int32).toInt64 &&& 63)).toInt32) &&& 255) = f_3 := hg.symm
          refine lv_aload_n hF.1 hF.2.1 dX12_lay_59 rfl (lv_at hl 1 rfl) ?_
          refine lv_dup hF.1 hF.2.1 dX12_lay_60 rfl ?_
          refine q_get (v := .int (uc.1 1202)) hF hU dX12_lay_61 0 12 2 1202 1299 rfl rfl rfl rfl inX12 (by decide) (by decide) w_1335 rfl rfl ?_
          refine lv_iconst (v := 1) hF.1 hF.2.1 dX12_lay_64 (by decide) ?_
          refine lv_iadd hF.1 hF.2.1 dX12_lay_65 ?_
          refine q_put hF hU hS dX12_lay_66 0 12 2 1202 1299 rfl rfl rfl rfl inX12 tyX12 tyX12_ok nmX12 (by decide) (by decide) rfl w_1335 rfl rfl rfl rfl (fun H locs hU hS => ?_)
          refine lv_iinc (v := k + (-8)) (lv' := [(3, .int (k + (-8))), (4, .int (((v >>> ((k : Int32).toInt64 &&& 63)).toInt32) &&& 255)), (0, .ref (E.2.2 1299)), (1, .long v)]) hF.1 hF.2.1 dX12_lay_69 hl (k := 3) rfl rfl (by decide) rfl (fun ls hl => ?_)
          refine lv_goto (tgt := 3) hF.1 hF.2.1 dX12_lay_72 (by decide) ?_
          exact ih (i - 1) (t1 + 1) (k + (-8)) (qsI (qsF uc 1201 f_3) 1202 ((uc.1 1202) + 1)) _ _ _ (k_X12_lay_r0 u uc v t i t1 k f_3 h1 h2 h3 h4 h5 c4_1 c21_2 hf_3) (k_X12_lay_r1 u uc v t i t1 k f_3 h1 h2 h3 h4 h5 c4_1 c21_2 hf_3) (k_X12_lay_r2 u uc v t i t1 k f_3 h1 h2 h3 h4 h5 c4_1 c21_2 hf_3) (k_X12_lay_r3 u uc v t i t1 k f_3 h1 h2 h3 h4 h5 c4_1 c21_2 hf_3) (k_X12_lay_r4 u uc v t i t1 k f_3 h1 h2 h3 h4 h5 c4_1 c21_2 hf_3) (Nat.lt_of_lt_of_le (k_X12_lay_r5 u uc v t i t1 k f_3 h1 h2 h3 h4 h5 c4_1 c21_2 hf_3) (Nat.lt_succ_iff.mp hmu)) hU hS (lv_sub hl [2, 3, 0] rfl)
        · refine lv_iload hF.1 hF.2.1 dX12_lay_24 (lv_at hl 0 rfl) ?_
          refine lv_bipush (v := 32) hF.1 hF.2.1 dX12_lay_26 (by decide) ?_
          refine lv_icmp_lt (tgt := 69) hF.1 hF.2.1 dX12_lay_28 (by decide) (fun c28_4 => ?_) (fun c28_4 => ?_)
          · refine lv_iinc (v := k + (-8)) (lv' := [(3, .int (k + (-8))), (4, .int (((v >>> ((k : Int32).toInt64 &&& 63)).toInt32) &&& 255)), (0, .ref (E.2.2 1299)), (1, .long v)]) hF.1 hF.2.1 dX12_lay_69 hl (k := 3) rfl rfl (by decide) rfl (fun ls hl => ?_)
            refine lv_goto (tgt := 3) hF.1 hF.2.1 dX12_lay_72 (by decide) ?_
            exact ih (i - 1) t1 (k + (-8)) uc _ _ _ (k_X12_lay_r6 u uc v t i t1 k h1 h2 h3 h4 h5 c4_1 c21_2 c28_4) (k_X12_lay_r7 u uc v t i t1 k h1 h2 h3 h4 h5 c4_1 c21_2 c28_4) (k_X12_lay_r8 u uc v t i t1 k h1 h2 h3 h4 h5 c4_1 c21_2 c28_4) (k_X12_lay_r9 u uc v t i t1 k h1 h2 h3 h4 h5 c4_1 c21_2 c28_4) (k_X12_lay_r10 u uc v t i t1 k h1 h2 h3 h4 h5 c4_1 c21_2 c28_4) (Nat.lt_of_lt_of_le (k_X12_lay_r11 u uc v t i t1 k h1 h2 h3 h4 h5 c4_1 c21_2 c28_4) (Nat.lt_succ_iff.mp hmu)) hU hS (lv_sub hl [2, 3, 0] rfl)
          · refine lv_iload hF.1 hF.2.1 dX12_lay_31 (lv_at hl 0 rfl) ?_
            refine lv_bipush (v := 126) hF.1 hF.2.1 dX12_lay_33 (by decide) ?_
            refine lv_icmp_gt (tgt := 69) hF.1 hF.2.1 dX12_lay_35 (by decide) (fun c35_5 => ?_) (fun c35_5 => ?_)
            · refine lv_iinc (v := k + (-8)) (lv' := [(3, .int (k + (-8))), (4, .int (((v >>> ((k : Int32).toInt64 &&& 63)).toInt32) &&& 255)), (0, .ref (E.2.2 1299)), (1, .long v)]) hF.1 hF.2.1 dX12_lay_69 hl (k := 3) rfl rfl (by decide) rfl (fun ls hl => ?_)
              refine lv_goto (tgt := 3) hF.1 hF.2.1 dX12_lay_72 (by decide) ?_
              exact ih (i - 1) t1 (k + (-8)) uc _ _ _ (k_X12_lay_r12 u uc v t i t1 k h1 h2 h3 h4 h5 c4_1 c21_2 c28_4 c35_5) (k_X12_lay_r13 u uc v t i t1 k h1 h2 h3 h4 h5 c4_1 c21_2 c28_4 c35_5) (k_X12_lay_r14 u uc v t i t1 k h1 h2 h3 h4 h5 c4_1 c21_2 c28_4 c35_5) (k_X12_lay_r15 u uc v t i t1 k h1 h2 h3 h4 h5 c4_1 c21_2 c28_4 c35_5) (k_X12_lay_r16 u uc v t i t1 k h1 h2 h3 h4 h5 c4_1 c21_2 c28_4 c35_5) (Nat.lt_of_lt_of_le (k_X12_lay_r17 u uc v t i t1 k h1 h2 h3 h4 h5 c4_1 c21_2 c28_4 c35_5) (Nat.lt_succ_iff.mp hmu)) hU hS (lv_sub hl [2, 3, 0] rfl)
            · refine lv_aload_n hF.1 hF.2.1 dX12_lay_38 rfl (lv_at hl 1 rfl) ?_
              refine q_get (v := .int (uc.1 1202)) hF hU dX12_lay_39 0 12 2 1202 1299 rfl rfl rfl rfl inX12 (by decide) (by decide) w_1335 rfl rfl ?_
              refine lv_sipush (v := 1000) hF.1 hF.2.1 dX12_lay_42 (by decide) ?_
              refine lv_icmp_ge (tgt := 69) hF.1 hF.2.1 dX12_lay_45 (by decide) (fun h9 => absurd h9 (lay_ge h3 h4)) (fun _ => ?_)
              refine lv_aload_n hF.1 hF.2.1 dX12_lay_48 rfl (lv_at hl 1 rfl) ?_
              refine q_get (v := .ref (E.2.2 1201)) hF hU dX12_lay_49 0 12 1 1201 1299 rfl rfl rfl rfl inX12 (by decide) (by decide) w_1334 rfl rfl ?_
              refine lv_aload_n hF.1 hF.2.1 dX12_lay_52 rfl (lv_at hl 1 rfl) ?_
              refine q_get (v := .int (uc.1 1202)) hF hU dX12_lay_53 0 12 2 1202 1299 rfl rfl rfl rfl inX12 (by decide) (by decide) w_1335 rfl rfl ?_
              refine lv_iload hF.1 hF.2.1 dX12_lay_56 (lv_at hl 0 rfl) ?_
              refine q_iast hF hU hS dX12_lay_58 0 1201 rfl rfl (lay_in h3 h4) (fun f_6 H locs hg hU hS => ?_)
              have hf_6 : upd (uc.2.1 1201) (uc.1 1202 : Int32).toNatClampNeg (((v >>> ((k : Int32).toInt64 &&& 63)).toInt32) &&& 255) = f_6 := hg.symm
              refine lv_aload_n hF.1 hF.2.1 dX12_lay_59 rfl (lv_at hl 1 rfl) ?_
              refine lv_dup hF.1 hF.2.1 dX12_lay_60 rfl ?_
              refine q_get (v := .int (uc.1 1202)) hF hU dX12_lay_61 0 12 2 1202 1299 rfl rfl rfl rfl inX12 (by decide) (by decide) w_1335 rfl rfl ?_
              refine lv_iconst (v := 1) hF.1 hF.2.1 dX12_lay_64 (by decide) ?_
              refine lv_iadd hF.1 hF.2.1 dX12_lay_65 ?_
              refine q_put hF hU hS dX12_lay_66 0 12 2 1202 1299 rfl rfl rfl rfl inX12 tyX12 tyX12_ok nmX12 (by decide) (by decide) rfl w_1335 rfl rfl rfl rfl (fun H locs hU hS => ?_)
              refine lv_iinc (v := k + (-8)) (lv' := [(3, .int (k + (-8))), (4, .int (((v >>> ((k : Int32).toInt64 &&& 63)).toInt32) &&& 255)), (0, .ref (E.2.2 1299)), (1, .long v)]) hF.1 hF.2.1 dX12_lay_69 hl (k := 3) rfl rfl (by decide) rfl (fun ls hl => ?_)
              refine lv_goto (tgt := 3) hF.1 hF.2.1 dX12_lay_72 (by decide) ?_
              exact ih (i - 1) (t1 + 1) (k + (-8)) (qsI (qsF uc 1201 f_6) 1202 ((uc.1 1202) + 1)) _ _ _ (k_X12_lay_r18 u uc v t i t1 k f_6 h1 h2 h3 h4 h5 c4_1 c21_2 c28_4 c35_5 hf_6) (k_X12_lay_r19 u uc v t i t1 k f_6 h1 h2 h3 h4 h5 c4_1 c21_2 c28_4 c35_5 hf_6) (k_X12_lay_r20 u uc v t i t1 k f_6 h1 h2 h3 h4 h5 c4_1 c21_2 c28_4 c35_5 hf_6) (k_X12_lay_r21 u uc v t i t1 k f_6 h1 h2 h3 h4 h5 c4_1 c21_2 c28_4 c35_5 hf_6) (k_X12_lay_r22 u uc v t i t1 k f_6 h1 h2 h3 h4 h5 c4_1 c21_2 c28_4 c35_5 hf_6) (Nat.lt_of_lt_of_le (k_X12_lay_r23 u uc v t i t1 k f_6 h1 h2 h3 h4 h5 c4_1 c21_2 c28_4 c35_5 hf_6) (Nat.lt_succ_iff.mp hmu)) hU hS (lv_sub hl [2, 3, 0] rfl)
  refine lv_bipush (v := 56) hF.1 hF.2.1 dX12_lay_0 (by decide) ?_
  refine lv_istore_n (lv' := [(3, .int 56), (0, .ref (E.2.2 1299)), (1, .long v)]) hF.1 hF.2.1 dX12_lay_2 rfl hl (by decide) rfl (fun ls hl => ?_)
  exact (main _) 8 t 56 u _ _ _ (k_X12_lay_r24 u v t h_t h_8) (k_X12_lay_r25 u v t h_t h_8) (k_X12_lay_r26 u v t h_t h_8) (k_X12_lay_r27 u v t h_t h_8) (k_X12_lay_r28 u v t h_t h_8) (Nat.lt_succ_self _) hU hS (lv_sub hl [1, 2, 0] rfl)
set_option maxHeartbeats 400000 in
set_option maxRecDepth 100000 in
theorem k_X12_feed (l : Launch) (E : qE) (A : Nat → Prop) (u : qS) (a : Int64) (b : Int64) (c : Int64) (h_taped : u.1 1202 = nI 0) : Met l yX12_feed (uws yX12_feed cX12_feed 7 (some .int)) (qR 1 0 0) (qPc E A 1 u [.ref (E.2.2 1299), .long a, .long b, .long c]) (qQi E A 1 (fun r _ => r = nI (0 + cntM a 8 + cntM b 8 + cntM c 8))) 0 0 A := by
  refine q_met (own := RX12) (f := 1) [.ref (E.2.2 1299), .long a, .long b, .long c] (by decide) (Nat.le_of_ble_eq_true rfl) rfl ?_
  intro p0 e0 s0 m0 bl0 me0 cd0 ls hF hr hlocks hU hS hA hl
  have hl : lv_has ls 7 [(0, .ref (E.2.2 1299)), (1, .long a), (3, .long b), (5, .long c)] := hl
  refine lv_aload_n hF.1 hF.2.1 dX12_feed_0 rfl (lv_at hl 0 rfl) ?_
  refine lv_iconst (v := 0) hF.1 hF.2.1 dX12_feed_1 (by decide) ?_
  refine q_put hF hU hS dX12_feed_2 0 12 0 1200 1299 rfl rfl rfl rfl inX12 tyX12 tyX12_ok nmX12 (by decide) (by decide) rfl w_1333 rfl rfl rfl rfl (fun H locs hU hS => ?_)
  refine lv_aload_n hF.1 hF.2.1 dX12_feed_5 rfl (lv_at hl 0 rfl) ?_
  refine lv_lload_n hF.1 hF.2.1 dX12_feed_6 rfl (lv_at hl 1 rfl) ?_
  have hM9 := (k_X12_lay l E A (qsI u 1200 0) a 0 h_taped (by have h1 := cntM_le a 8; have h2 := cntM_le b 8; omega))
  have hR9 := q_runV (l := l) (e := e0) (below := bl0) (meth := me0) (R := qR 1 0 0) (cells := 0) (slots := 0) (st0 := [.long a, .ref (E.2.2 1299)]) (rest := []) hF hU hS hA 1 0 12 1299 rfl rfl rfl hM9 w_1307 w_1309 w_46 w_107 w_1311 (by decide +kernel) ⟨Nat.le_of_ble_eq_true rfl, Nat.le_of_ble_eq_true rfl⟩ dX12_feed_7 rfl hl.1 rfl (Nat.le_of_ble_eq_true rfl) ⟨Nat.le_of_ble_eq_true rfl, Nat.le_of_ble_eq_true rfl⟩
  refine q_callv hR9 hU.2.2.2 hS (fun u_1 H locs hw_2 hU hS => ?_)
  refine lv_aload_n hF.1 hF.2.1 dX12_feed_10 rfl (lv_at hl 0 rfl) ?_
  refine lv_lload_n hF.1 hF.2.1 dX12_feed_11 rfl (lv_at hl 2 rfl) ?_
  have hM9 := (k_X12_lay l E A u_1 b (0 + cntM a 8) hw_2 (by have h1 := cntM_le a 8; have h2 := cntM_le b 8; omega))
  have hR9 := q_runV (l := l) (e := e0) (below := bl0) (meth := me0) (R := qR 1 0 0) (cells := 0) (slots := 0) (st0 := [.long b, .ref (E.2.2 1299)]) (rest := []) hF hU hS hA 1 0 12 1299 rfl rfl rfl hM9 w_1307 w_1309 w_46 w_107 w_1311 (by decide +kernel) ⟨Nat.le_of_ble_eq_true rfl, Nat.le_of_ble_eq_true rfl⟩ dX12_feed_12 rfl hl.1 rfl (Nat.le_of_ble_eq_true rfl) ⟨Nat.le_of_ble_eq_true rfl, Nat.le_of_ble_eq_true rfl⟩
  refine q_callv hR9 hU.2.2.2 hS (fun u_3 H locs hw_4 hU hS => ?_)
  refine lv_aload_n hF.1 hF.2.1 dX12_feed_15 rfl (lv_at hl 0 rfl) ?_
  refine lv_lload hF.1 hF.2.1 dX12_feed_16 (lv_at hl 3 rfl) ?_
  have hM9 := (k_X12_lay l E A u_3 c ((0 + cntM a 8) + cntM b 8) hw_4 (by have h1 := cntM_le a 8; have h2 := cntM_le b 8; omega))
  have hR9 := q_runV (l := l) (e := e0) (below := bl0) (meth := me0) (R := qR 1 0 0) (cells := 0) (slots := 0) (st0 := [.long c, .ref (E.2.2 1299)]) (rest := []) hF hU hS hA 1 0 12 1299 rfl rfl rfl hM9 w_1307 w_1309 w_46 w_107 w_1311 (by decide +kernel) ⟨Nat.le_of_ble_eq_true rfl, Nat.le_of_ble_eq_true rfl⟩ dX12_feed_18 rfl hl.1 rfl (Nat.le_of_ble_eq_true rfl) ⟨Nat.le_of_ble_eq_true rfl, Nat.le_of_ble_eq_true rfl⟩
  refine q_callv hR9 hU.2.2.2 hS (fun u_5 H locs hw_6 hU hS => ?_)
  refine lv_aload_n hF.1 hF.2.1 dX12_feed_21 rfl (lv_at hl 0 rfl) ?_
  refine q_get (v := .int (nI (((0 + cntM a 8) + cntM b 8) + cntM c 8))) hF hU dX12_feed_22 0 12 2 1202 1299 rfl rfl rfl rfl inX12 (by decide) (by decide) w_1335 rfl (congrArg Value.int hw_6) ?_
  exact q_iret hF hr rfl hlocks hU hS dX12_feed_25 (rfl)
set_option maxHeartbeats 400000 in
set_option maxRecDepth 100000 in
theorem k_X12_cutAll (l : Launch) (E : qE) (A : Nat → Prop) (u : qS) (h_taped : u.1 1202 = 0) : Met l yX12_cutAll (uws yX12_cutAll cX12_cutAll 7 none) (qR 1 0 0) (qPc E A 1 u [.ref (E.2.2 1299)]) (qQv E A 1 (fun u1 => u1.1 = (qsI (qsI (qsI (qsI u 1203 0) 1202 0) 1207 0) 1208 0).1 ∧ u1.2.1 1204 (0 : Int32).toNatClampNeg = 0)) 0 0 A := by
  refine q_met (own := RX12) (f := 1) [.ref (E.2.2 1299)] (by decide) (Nat.le_of_ble_eq_true rfl) rfl ?_
  intro p0 e0 s0 m0 bl0 me0 cd0 ls hF hr hlocks hU hS hA hl
  have hl : lv_has ls 7 [(0, .ref (E.2.2 1299))] := hl
  refine lv_aload_n hF.1 hF.2.1 dX12_cutAll_0 rfl (lv_at hl 0 rfl) ?_
  refine lv_aload_n hF.1 hF.2.1 dX12_cutAll_1 rfl (lv_at hl 0 rfl) ?_
  refine q_get (v := .int 0) hF hU dX12_cutAll_2 0 12 2 1202 1299 rfl rfl rfl rfl inX12 (by decide) (by decide) w_1335 rfl (congrArg Value.int h_taped) ?_
  refine q_put hF hU hS dX12_cutAll_5 0 12 3 1203 1299 rfl rfl rfl rfl inX12 tyX12 tyX12_ok nmX12 (by decide) (by decide) rfl w_1336 rfl rfl rfl rfl (fun H locs hU hS => ?_)
  refine lv_aload_n hF.1 hF.2.1 dX12_cutAll_8 rfl (lv_at hl 0 rfl) ?_
  refine lv_iconst (v := 0) hF.1 hF.2.1 dX12_cutAll_9 (by decide) ?_
  refine q_put hF hU hS dX12_cutAll_10 0 12 2 1202 1299 rfl rfl rfl rfl inX12 tyX12 tyX12_ok nmX12 (by decide) (by decide) rfl w_1335 rfl rfl rfl rfl (fun H locs hU hS => ?_)
  refine lv_iconst (v := 0) hF.1 hF.2.1 dX12_cutAll_13 (by decide) ?_
  refine lv_istore_n (lv' := [(1, .int 0), (0, .ref (E.2.2 1299))]) hF.1 hF.2.1 dX12_cutAll_14 rfl hl (by decide) rfl (fun ls hl => ?_)
  refine lv_iconst (v := 0) hF.1 hF.2.1 dX12_cutAll_15 (by decide) ?_
  refine lv_istore_n (lv' := [(2, .int 0), (1, .int 0), (0, .ref (E.2.2 1299))]) hF.1 hF.2.1 dX12_cutAll_16 rfl hl (by decide) rfl (fun ls hl => ?_)
  refine lv_iload_n hF.1 hF.2.1 dX12_cutAll_17 rfl (lv_at hl 0 rfl) ?_
  refine lv_aload_n hF.1 hF.2.1 dX12_cutAll_18 rfl (lv_at hl 2 rfl) ?_
  refine q_get (v := .int 0) hF hU dX12_cutAll_19 0 12 3 1203 1299 rfl rfl rfl rfl inX12 (by decide) (by decide) w_1336 rfl rfl ?_
  refine lv_icmp_ge (tgt := 279) hF.1 hF.2.1 dX12_cutAll_22 (by decide) (fun _ => ?_) (fun h9 => absurd (by decide) h9)
  refine lv_aload_n hF.1 hF.2.1 dX12_cutAll_279 rfl (lv_at hl 2 rfl) ?_
  refine q_get (v := .ref (E.2.2 1204)) hF hU dX12_cutAll_280 0 12 4 1204 1299 rfl rfl rfl rfl inX12 (by decide) (by decide) w_1337 rfl rfl ?_
  refine lv_iload_n hF.1 hF.2.1 dX12_cutAll_283 rfl (lv_at hl 1 rfl) ?_
  refine lv_iconst (v := 0) hF.1 hF.2.1 dX12_cutAll_284 (by decide) ?_
  refine q_iast hF hU hS dX12_cutAll_285 1 1204 rfl rfl (q_in (by decide)) (fun f_1 H locs hg hU hS => ?_)
  have hf_1 : upd (u.2.1 1204) (0 : Int32).toNatClampNeg 0 = f_1 := hg.symm
  have e_2 : f_1 (0 : Int32).toNatClampNeg = 0 := by rw [← hf_1]; exact pk_us
  refine lv_aload_n hF.1 hF.2.1 dX12_cutAll_286 rfl (lv_at hl 2 rfl) ?_
  refine q_get (v := .ref (E.2.2 1205)) hF hU dX12_cutAll_287 0 12 5 1205 1299 rfl rfl rfl rfl inX12 (by decide) (by decide) w_1338 rfl rfl ?_
  refine lv_iload_n hF.1 hF.2.1 dX12_cutAll_290 rfl (lv_at hl 1 rfl) ?_
  refine lv_aload_n hF.1 hF.2.1 dX12_cutAll_291 rfl (lv_at hl 2 rfl) ?_
  refine q_get (v := .int 0) hF hU dX12_cutAll_292 0 12 3 1203 1299 rfl rfl rfl rfl inX12 (by decide) (by decide) w_1336 rfl rfl ?_
  refine q_iast hF hU hS dX12_cutAll_295 2 1205 rfl rfl (q_in (by decide)) (fun f_3 H locs hg hU hS => ?_)
  have hf_3 : upd (u.2.1 1205) (0 : Int32).toNatClampNeg 0 = f_3 := hg.symm
  have e_4 : f_3 (0 : Int32).toNatClampNeg = 0 := by rw [← hf_3]; exact pk_us
  refine lv_aload_n hF.1 hF.2.1 dX12_cutAll_296 rfl (lv_at hl 2 rfl) ?_
  refine lv_iconst (v := 0) hF.1 hF.2.1 dX12_cutAll_297 (by decide) ?_
  refine q_put hF hU hS dX12_cutAll_298 0 12 7 1207 1299 rfl rfl rfl rfl inX12 tyX12 tyX12_ok nmX12 (by decide) (by decide) rfl w_1340 rfl rfl rfl rfl (fun H locs hU hS => ?_)
  refine lv_aload_n hF.1 hF.2.1 dX12_cutAll_301 rfl (lv_at hl 2 rfl) ?_
  refine lv_iconst (v := 0) hF.1 hF.2.1 dX12_cutAll_302 (by decide) ?_
  refine q_put hF hU hS dX12_cutAll_303 0 12 8 1208 1299 rfl rfl rfl rfl inX12 tyX12 tyX12_ok nmX12 (by decide) (by decide) rfl w_1341 rfl rfl rfl rfl (fun H locs hU hS => ?_)
  exact q_vret hF hr hlocks hU hS dX12_cutAll_306 (⟨rfl, e_2⟩)
set_option maxHeartbeats 400000 in
set_option maxRecDepth 100000 in
theorem k_X12_keeps (l : Launch) (E : qE) (A : Nat → Prop) (u : qS) (x : Int32) (y : Int32) (h_briefs : u.1 1210 = 0) (h_codes : u.1 1221 = 0) (h_l16 : u.2.1 1214 (16 : Int32).toNatClampNeg = 0) : Met l yX12_keeps (uws yX12_keeps cX12_keeps 5 none) (qR 0 0 0) (qPc E A 1 u [.ref (E.2.2 1299), .int x, .int y]) (qQv E A 1 (fun u1 => u1.1 = (qsI u 1210 1).1)) 0 0 A := by
  refine q_met (own := RX12) (f := 0) [.ref (E.2.2 1299), .int x, .int y] (by decide) (Nat.le_of_ble_eq_true rfl) rfl ?_
  intro p0 e0 s0 m0 bl0 me0 cd0 ls hF hr hlocks hU hS hA hl
  have hl : lv_has ls 5 [(0, .ref (E.2.2 1299)), (1, .int x), (2, .int y)] := hl
  refine lv_aload_n hF.1 hF.2.1 dX12_keeps_0 rfl (lv_at hl 0 rfl) ?_
  refine q_get (v := .int 0) hF hU dX12_keeps_1 0 12 10 1210 1299 rfl rfl rfl rfl inX12 (by decide) (by decide) w_1343 rfl (congrArg Value.int h_briefs) ?_
  refine lv_istore_n (lv' := [(3, .int 0), (0, .ref (E.2.2 1299)), (1, .int x), (2, .int y)]) hF.1 hF.2.1 dX12_keeps_4 rfl hl (by decide) rfl (fun ls hl => ?_)
  refine lv_aload_n hF.1 hF.2.1 dX12_keeps_5 rfl (lv_at hl 1 rfl) ?_
  refine q_get (v := .ref (E.2.2 1211)) hF hU dX12_keeps_6 0 12 11 1211 1299 rfl rfl rfl rfl inX12 (by decide) (by decide) w_1344 rfl rfl ?_
  refine lv_iload_n hF.1 hF.2.1 dX12_keeps_9 rfl (lv_at hl 0 rfl) ?_
  refine lv_iload_n hF.1 hF.2.1 dX12_keeps_10 rfl (lv_at hl 2 rfl) ?_
  refine q_iast hF hU hS dX12_keeps_11 5 1211 rfl rfl (q_in (by decide)) (fun f_1 H locs hg hU hS => ?_)
  have hf_1 : upd (u.2.1 1211) (0 : Int32).toNatClampNeg x = f_1 := hg.symm
  have e_2 : f_1 (0 : Int32).toNatClampNeg = x := by rw [← hf_1]; exact pk_us
  refine lv_aload_n hF.1 hF.2.1 dX12_keeps_12 rfl (lv_at hl 1 rfl) ?_
  refine q_get (v := .ref (E.2.2 1212)) hF hU dX12_keeps_13 0 12 12 1212 1299 rfl rfl rfl rfl inX12 (by decide) (by decide) w_1345 rfl rfl ?_
  refine lv_iload_n hF.1 hF.2.1 dX12_keeps_16 rfl (lv_at hl 0 rfl) ?_
  refine lv_iload_n hF.1 hF.2.1 dX12_keeps_17 rfl (lv_at hl 3 rfl) ?_
  refine q_iast hF hU hS dX12_keeps_18 6 1212 rfl rfl (q_in (by decide)) (fun f_3 H locs hg hU hS => ?_)
  have hf_3 : upd (u.2.1 1212) (0 : Int32).toNatClampNeg y = f_3 := hg.symm
  have e_4 : f_3 (0 : Int32).toNatClampNeg = y := by rw [← hf_3]; exact pk_us
  refine lv_aload_n hF.1 hF.2.1 dX12_keeps_19 rfl (lv_at hl 1 rfl) ?_
  refine q_get (v := .ref (E.2.2 1213)) hF hU dX12_keeps_20 0 12 13 1213 1299 rfl rfl rfl rfl inX12 (by decide) (by decide) w_1346 rfl rfl ?_
  refine lv_iload_n hF.1 hF.2.1 dX12_keeps_23 rfl (lv_at hl 0 rfl) ?_
  refine lv_aload_n hF.1 hF.2.1 dX12_keeps_24 rfl (lv_at hl 1 rfl) ?_
  refine q_get (v := .int (u.1 1230)) hF hU dX12_keeps_25 0 12 30 1230 1299 rfl rfl rfl rfl inX12 (by decide) (by decide) w_1363 rfl rfl ?_
  refine q_iast hF hU hS dX12_keeps_28 7 1213 rfl rfl (q_in (by decide)) (fun f_5 H locs hg hU hS => ?_)
  have hf_5 : upd (u.2.1 1213) (0 : Int32).toNatClampNeg (u.1 1230) = f_5 := hg.symm
  have e_6 : f_5 (0 : Int32).toNatClampNeg = u.1 1230 := by rw [← hf_5]; exact pk_us
  refine lv_aload_n hF.1 hF.2.1 dX12_keeps_29 rfl (lv_at hl 1 rfl) ?_
  refine q_get (v := .ref (E.2.2 1214)) hF hU dX12_keeps_30 0 12 14 1214 1299 rfl rfl rfl rfl inX12 (by decide) (by decide) w_1347 rfl rfl ?_
  refine lv_iload_n hF.1 hF.2.1 dX12_keeps_33 rfl (lv_at hl 0 rfl) ?_
  refine lv_aload_n hF.1 hF.2.1 dX12_keeps_34 rfl (lv_at hl 1 rfl) ?_
  refine q_get (v := .ref (E.2.2 1214)) hF hU dX12_keeps_35 0 12 14 1214 1299 rfl rfl rfl rfl inX12 (by decide) (by decide) w_1347 rfl rfl ?_
  refine lv_bipush (v := 16) hF.1 hF.2.1 dX12_keeps_38 (by decide) ?_
  refine q_iald (v := 0) hF hU dX12_keeps_40 8 1214 rfl rfl (q_in (by decide)) h_l16 ?_
  refine q_iast hF hU hS dX12_keeps_41 8 1214 rfl rfl (q_in (by decide)) (fun f_7 H locs hg hU hS => ?_)
  have hf_7 : upd (u.2.1 1214) (0 : Int32).toNatClampNeg 0 = f_7 := hg.symm
  have e_8 : f_7 (16 : Int32).toNatClampNeg = 0 := by rw [← hf_7]; exact (pk_un (by decide)).trans h_l16
  have e_9 : f_7 (0 : Int32).toNatClampNeg = 0 := by rw [← hf_7]; exact pk_us
  refine lv_iconst (v := 0) hF.1 hF.2.1 dX12_keeps_42 (by decide) ?_
  refine lv_istore (lv' := [(4, .int 0), (3, .int 0), (0, .ref (E.2.2 1299)), (1, .int x), (2, .int y)]) hF.1 hF.2.1 dX12_keeps_43 hl (by decide) rfl (fun ls hl => ?_)
  refine lv_iload hF.1 hF.2.1 dX12_keeps_45 (lv_at hl 0 rfl) ?_
  refine lv_aload_n hF.1 hF.2.1 dX12_keeps_47 rfl (lv_at hl 2 rfl) ?_
  refine q_get (v := .ref (E.2.2 1214)) hF hU dX12_keeps_48 0 12 14 1214 1299 rfl rfl rfl rfl inX12 (by decide) (by decide) w_1347 rfl rfl ?_
  refine lv_bipush (v := 16) hF.1 hF.2.1 dX12_keeps_51 (by decide) ?_
  refine q_iald (v := 0) hF hU dX12_keeps_53 8 1214 rfl rfl (q_in (by decide)) e_8 ?_
  refine lv_icmp_ge (tgt := 175) hF.1 hF.2.1 dX12_keeps_54 (by decide) (fun _ => ?_) (fun h9 => absurd (by decide) h9)
  refine lv_iconst (v := 0) hF.1 hF.2.1 dX12_keeps_175 (by decide) ?_
  refine lv_istore (lv' := [(4, .int 0), (3, .int 0), (0, .ref (E.2.2 1299)), (1, .int x), (2, .int y)]) hF.1 hF.2.1 dX12_keeps_176 hl (by decide) rfl (fun ls hl => ?_)
  refine lv_iload hF.1 hF.2.1 dX12_keeps_178 (lv_at hl 0 rfl) ?_
  refine lv_aload_n hF.1 hF.2.1 dX12_keeps_180 rfl (lv_at hl 2 rfl) ?_
  refine q_get (v := .int 0) hF hU dX12_keeps_181 0 12 21 1221 1299 rfl rfl rfl rfl inX12 (by decide) (by decide) w_1354 rfl (congrArg Value.int h_codes) ?_
  refine lv_icmp_ge (tgt := 241) hF.1 hF.2.1 dX12_keeps_184 (by decide) (fun _ => ?_) (fun h9 => absurd (by decide) h9)
  refine lv_aload_n hF.1 hF.2.1 dX12_keeps_241 rfl (lv_at hl 2 rfl) ?_
  refine lv_dup hF.1 hF.2.1 dX12_keeps_242 rfl ?_
  refine q_get (v := .int 0) hF hU dX12_keeps_243 0 12 10 1210 1299 rfl rfl rfl rfl inX12 (by decide) (by decide) w_1343 rfl (congrArg Value.int h_briefs) ?_
  refine lv_iconst (v := 1) hF.1 hF.2.1 dX12_keeps_246 (by decide) ?_
  refine lv_iadd hF.1 hF.2.1 dX12_keeps_247 ?_
  refine q_topi (y := 1) (by decide) ?_
  refine q_put hF hU hS dX12_keeps_248 0 12 10 1210 1299 rfl rfl rfl rfl inX12 tyX12 tyX12_ok nmX12 (by decide) (by decide) rfl w_1343 rfl rfl rfl rfl (fun H locs hU hS => ?_)
  exact q_vret hF hr hlocks hU hS dX12_keeps_251 (rfl)
theorem k_X12_brief_r0 (x : Int32) (y : Int32) (c6_1 : (x : Int32) < 0) : (((0 ≤ x ∧ x ≤ 3) ∧ (0 ≤ y ∧ y ≤ 9999)) ∧ ((-1) : Int32) = 0) ∨ (¬ ((0 ≤ x ∧ x ≤ 3) ∧ (0 ≤ y ∧ y ≤ 9999)) ∧ ((-1) : Int32) = (-1)) := by
  first | rfl | (simp only [Int32.lt_iff_toInt_lt, Int32.le_iff_toInt_le, ← Int32.toInt_inj, Int32.zero_add, Int32.add_zero] at *; omega) | (simp only [Int32.lt_iff_toInt_lt, Int32.le_iff_toInt_le, ← Int32.toInt_inj, Int32.zero_add, Int32.add_zero] at *; done) | (simp only [Int32.lt_iff_toInt_lt, Int32.le_iff_toInt_le, ← Int32.toInt_inj, Int32.zero_add, Int32.add_zero] at *; simp at *; omega) | (simp at *; omega) | (simp_all; done)
theorem k_X12_brief_r1 (x : Int32) (y : Int32) (c6_1 : ¬ (x : Int32) < 0) (c11_2 : 3 < (x : Int32)) : (((0 ≤ x ∧ x ≤ 3) ∧ (0 ≤ y ∧ y ≤ 9999)) ∧ ((-1) : Int32) = 0) ∨ (¬ ((0 ≤ x ∧ x ≤ 3) ∧ (0 ≤ y ∧ y ≤ 9999)) ∧ ((-1) : Int32) = (-1)) := by
  first | rfl | (simp only [Int32.lt_iff_toInt_lt, Int32.le_iff_toInt_le, ← Int32.toInt_inj, Int32.zero_add, Int32.add_zero] at *; omega) | (simp only [Int32.lt_iff_toInt_lt, Int32.le_iff_toInt_le, ← Int32.toInt_inj, Int32.zero_add, Int32.add_zero] at *; done) | (simp only [Int32.lt_iff_toInt_lt, Int32.le_iff_toInt_le, ← Int32.toInt_inj, Int32.zero_add, Int32.add_zero] at *; simp at *; omega) | (simp at *; omega) | (simp_all; done)
theorem k_X12_brief_r2 (x : Int32) (y : Int32) (c6_1 : ¬ (x : Int32) < 0) (c11_2 : ¬ 3 < (x : Int32)) (c15_3 : (y : Int32) < 0) : (((0 ≤ x ∧ x ≤ 3) ∧ (0 ≤ y ∧ y ≤ 9999)) ∧ ((-1) : Int32) = 0) ∨ (¬ ((0 ≤ x ∧ x ≤ 3) ∧ (0 ≤ y ∧ y ≤ 9999)) ∧ ((-1) : Int32) = (-1)) := by
  first | rfl | (simp only [Int32.lt_iff_toInt_lt, Int32.le_iff_toInt_le, ← Int32.toInt_inj, Int32.zero_add, Int32.add_zero] at *; omega) | (simp only [Int32.lt_iff_toInt_lt, Int32.le_iff_toInt_le, ← Int32.toInt_inj, Int32.zero_add, Int32.add_zero] at *; done) | (simp only [Int32.lt_iff_toInt_lt, Int32.le_iff_toInt_le, ← Int32.toInt_inj, Int32.zero_add, Int32.add_zero] at *; simp at *; omega) | (simp at *; omega) | (simp_all; done)
theorem k_X12_brief_r3 (x : Int32) (y : Int32) (c6_1 : ¬ (x : Int32) < 0) (c11_2 : ¬ 3 < (x : Int32)) (c15_3 : ¬ (y : Int32) < 0) (c22_4 : 9999 < (y : Int32)) : (((0 ≤ x ∧ x ≤ 3) ∧ (0 ≤ y ∧ y ≤ 9999)) ∧ ((-1) : Int32) = 0) ∨ (¬ ((0 ≤ x ∧ x ≤ 3) ∧ (0 ≤ y ∧ y ≤ 9999)) ∧ ((-1) : Int32) = (-1)) := by
  first | rfl | (simp only [Int32.lt_iff_toInt_lt, Int32.le_iff_toInt_le, ← Int32.toInt_inj, Int32.zero_add, Int32.add_zero] at *; omega) | (simp only [Int32.lt_iff_toInt_lt, Int32.le_iff_toInt_le, ← Int32.toInt_inj, Int32.zero_add, Int32.add_zero] at *; done) | (simp only [Int32.lt_iff_toInt_lt, Int32.le_iff_toInt_le, ← Int32.toInt_inj, Int32.zero_add, Int32.add_zero] at *; simp at *; omega) | (simp at *; omega) | (simp_all; done)
theorem k_X12_brief_r4 (x : Int32) (y : Int32) (c6_1 : ¬ (x : Int32) < 0) (c11_2 : ¬ 3 < (x : Int32)) (c15_3 : ¬ (y : Int32) < 0) (c22_4 : ¬ 9999 < (y : Int32)) : (((0 ≤ x ∧ x ≤ 3) ∧ (0 ≤ y ∧ y ≤ 9999)) ∧ (0 : Int32) = 0) ∨ (¬ ((0 ≤ x ∧ x ≤ 3) ∧ (0 ≤ y ∧ y ≤ 9999)) ∧ (0 : Int32) = (-1)) := by
  first | rfl | (simp only [Int32.lt_iff_toInt_lt, Int32.le_iff_toInt_le, ← Int32.toInt_inj, Int32.zero_add, Int32.add_zero] at *; omega) | (simp only [Int32.lt_iff_toInt_lt, Int32.le_iff_toInt_le, ← Int32.toInt_inj, Int32.zero_add, Int32.add_zero] at *; done) | (simp only [Int32.lt_iff_toInt_lt, Int32.le_iff_toInt_le, ← Int32.toInt_inj, Int32.zero_add, Int32.add_zero] at *; simp at *; omega) | (simp at *; omega) | (simp_all; done)
set_option maxHeartbeats 400000 in
set_option maxRecDepth 100000 in
theorem k_X12_brief (l : Launch) (E : qE) (A : Nat → Prop) (u : qS) (x : Int32) (y : Int32) (h_briefs : u.1 1210 = 0) (h_taped : u.1 1202 = 0) : Met l yX12_brief (uws yX12_brief cX12_brief 3 (some .int)) (qR 2 0 0) (qPc E A 1 u [.ref (E.2.2 1299), .int x, .int y]) (qQi E A 1 (fun r _ => (((0 ≤ x ∧ x ≤ 3) ∧ (0 ≤ y ∧ y ≤ 9999)) ∧ r = 0) ∨ (¬ ((0 ≤ x ∧ x ≤ 3) ∧ (0 ≤ y ∧ y ≤ 9999)) ∧ r = (-1)))) 0 0 A := by
  refine q_met (own := RX12) (f := 2) [.ref (E.2.2 1299), .int x, .int y] (by decide) (Nat.le_of_ble_eq_true rfl) rfl ?_
  intro p0 e0 s0 m0 bl0 me0 cd0 ls hF hr hlocks hU hS hA hl
  have hl : lv_has ls 3 [(0, .ref (E.2.2 1299)), (1, .int x), (2, .int y)] := hl
  refine lv_aload_n hF.1 hF.2.1 dX12_brief_0 rfl (lv_at hl 0 rfl) ?_
  refine lv_iconst (v := 0) hF.1 hF.2.1 dX12_brief_1 (by decide) ?_
  refine q_put hF hU hS dX12_brief_2 0 12 0 1200 1299 rfl rfl rfl rfl inX12 tyX12 tyX12_ok nmX12 (by decide) (by decide) rfl w_1333 rfl rfl rfl rfl (fun H locs hU hS => ?_)
  refine lv_iload_n hF.1 hF.2.1 dX12_brief_5 rfl (lv_at hl 1 rfl) ?_
  refine lv_if_lt (tgt := 34) hF.1 hF.2.1 dX12_brief_6 (by decide) (fun c6_1 => ?_) (fun c6_1 => ?_)
  · refine lv_aload_n hF.1 hF.2.1 dX12_brief_34 rfl (lv_at hl 0 rfl) ?_
    refine lv_iconst (v := 0) hF.1 hF.2.1 dX12_brief_35 (by decide) ?_
    refine q_put hF hU hS dX12_brief_36 0 12 2 1202 1299 rfl rfl rfl rfl inX12 tyX12 tyX12_ok nmX12 (by decide) (by decide) rfl w_1335 rfl rfl rfl rfl (fun H locs hU hS => ?_)
    refine lv_iconst (v := (-1)) hF.1 hF.2.1 dX12_brief_39 (by decide) ?_
    exact q_iret hF hr rfl hlocks hU hS dX12_brief_40 (k_X12_brief_r0 x y c6_1)
  · refine lv_iload_n hF.1 hF.2.1 dX12_brief_9 rfl (lv_at hl 1 rfl) ?_
    refine lv_iconst (v := 3) hF.1 hF.2.1 dX12_brief_10 (by decide) ?_
    refine lv_icmp_gt (tgt := 34) hF.1 hF.2.1 dX12_brief_11 (by decide) (fun c11_2 => ?_) (fun c11_2 => ?_)
    · refine lv_aload_n hF.1 hF.2.1 dX12_brief_34 rfl (lv_at hl 0 rfl) ?_
      refine lv_iconst (v := 0) hF.1 hF.2.1 dX12_brief_35 (by decide) ?_
      refine q_put hF hU hS dX12_brief_36 0 12 2 1202 1299 rfl rfl rfl rfl inX12 tyX12 tyX12_ok nmX12 (by decide) (by decide) rfl w_1335 rfl rfl rfl rfl (fun H locs hU hS => ?_)
      refine lv_iconst (v := (-1)) hF.1 hF.2.1 dX12_brief_39 (by decide) ?_
      exact q_iret hF hr rfl hlocks hU hS dX12_brief_40 (k_X12_brief_r1 x y c6_1 c11_2)
    · refine lv_iload_n hF.1 hF.2.1 dX12_brief_14 rfl (lv_at hl 2 rfl) ?_
      refine lv_if_lt (tgt := 34) hF.1 hF.2.1 dX12_brief_15 (by decide) (fun c15_3 => ?_) (fun c15_3 => ?_)
      · refine lv_aload_n hF.1 hF.2.1 dX12_brief_34 rfl (lv_at hl 0 rfl) ?_
        refine lv_iconst (v := 0) hF.1 hF.2.1 dX12_brief_35 (by decide) ?_
        refine q_put hF hU hS dX12_brief_36 0 12 2 1202 1299 rfl rfl rfl rfl inX12 tyX12 tyX12_ok nmX12 (by decide) (by decide) rfl w_1335 rfl rfl rfl rfl (fun H locs hU hS => ?_)
        refine lv_iconst (v := (-1)) hF.1 hF.2.1 dX12_brief_39 (by decide) ?_
        exact q_iret hF hr rfl hlocks hU hS dX12_brief_40 (k_X12_brief_r2 x y c6_1 c11_2 c15_3)
      · refine lv_iload_n hF.1 hF.2.1 dX12_brief_18 rfl (lv_at hl 2 rfl) ?_
        refine lv_sipush (v := 9999) hF.1 hF.2.1 dX12_brief_19 (by decide) ?_
        refine lv_icmp_gt (tgt := 34) hF.1 hF.2.1 dX12_brief_22 (by decide) (fun c22_4 => ?_) (fun c22_4 => ?_)
        · refine lv_aload_n hF.1 hF.2.1 dX12_brief_34 rfl (lv_at hl 0 rfl) ?_
          refine lv_iconst (v := 0) hF.1 hF.2.1 dX12_brief_35 (by decide) ?_
          refine q_put hF hU hS dX12_brief_36 0 12 2 1202 1299 rfl rfl rfl rfl inX12 tyX12 tyX12_ok nmX12 (by decide) (by decide) rfl w_1335 rfl rfl rfl rfl (fun H locs hU hS => ?_)
          refine lv_iconst (v := (-1)) hF.1 hF.2.1 dX12_brief_39 (by decide) ?_
          exact q_iret hF hr rfl hlocks hU hS dX12_brief_40 (k_X12_brief_r3 x y c6_1 c11_2 c15_3 c22_4)
        · refine lv_aload_n hF.1 hF.2.1 dX12_brief_25 rfl (lv_at hl 0 rfl) ?_
          refine q_get (v := .int 0) hF hU dX12_brief_26 0 12 10 1210 1299 rfl rfl rfl rfl inX12 (by decide) (by decide) w_1343 rfl (congrArg Value.int h_briefs) ?_
          refine lv_bipush (v := 16) hF.1 hF.2.1 dX12_brief_29 (by decide) ?_
          refine lv_icmp_ne (tgt := 41) hF.1 hF.2.1 dX12_brief_31 (by decide) (fun _ => ?_) (fun h9 => absurd h9 (by decide))
          refine lv_aload_n hF.1 hF.2.1 dX12_brief_41 rfl (lv_at hl 0 rfl) ?_
          have hM9 := (k_X12_cutAll l E A (qsI u 1200 0) h_taped)
          have hR9 := q_runV (l := l) (e := e0) (below := bl0) (meth := me0) (R := qR 2 0 0) (cells := 0) (slots := 0) (st0 := [.ref (E.2.2 1299)]) (rest := []) hF hU hS hA 0 0 12 1299 rfl rfl rfl hM9 w_1581 w_1583 w_47 w_107 w_1584 (by decide +kernel) ⟨Nat.le_of_ble_eq_true rfl, Nat.le_of_ble_eq_true rfl⟩ dX12_brief_42 rfl hl.1 rfl (Nat.le_of_ble_eq_true rfl) ⟨Nat.le_of_ble_eq_true rfl, Nat.le_of_ble_eq_true rfl⟩
          refine q_callv hR9 hU.2.2.2 hS (fun u_5 H locs hw_6 hU hS => ?_)
          have q_7 : u_5.1 1210 = 0 := (congrFun hw_6.1 1210).trans h_briefs
          have q_8 : u_5.1 1200 = 0 := (congrFun hw_6.1 1200).trans rfl
          have q_9 : u_5.1 1203 = 0 := (congrFun hw_6.1 1203).trans rfl
          have q_10 : u_5.1 1202 = 0 := (congrFun hw_6.1 1202).trans rfl
          have q_11 : u_5.1 1207 = 0 := (congrFun hw_6.1 1207).trans rfl
          have q_12 : u_5.1 1208 = 0 := (congrFun hw_6.1 1208).trans rfl
          refine lv_aload_n hF.1 hF.2.1 dX12_brief_45 rfl (lv_at hl 0 rfl) ?_
          refine lv_iconst (v := 0) hF.1 hF.2.1 dX12_brief_46 (by decide) ?_
          refine q_put hF hU hS dX12_brief_47 0 12 21 1221 1299 rfl rfl rfl rfl inX12 tyX12 tyX12_ok nmX12 (by decide) (by decide) rfl w_1354 rfl rfl rfl rfl (fun H locs hU hS => ?_)
          refine lv_aload_n hF.1 hF.2.1 dX12_brief_50 rfl (lv_at hl 0 rfl) ?_
          refine lv_iconst (v := 0) hF.1 hF.2.1 dX12_brief_51 (by decide) ?_
          refine q_put hF hU hS dX12_brief_52 0 12 19 1219 1299 rfl rfl rfl rfl inX12 tyX12 tyX12_ok nmX12 (by decide) (by decide) rfl w_1352 rfl rfl rfl rfl (fun H locs hU hS => ?_)
          refine lv_aload_n hF.1 hF.2.1 dX12_brief_55 rfl (lv_at hl 0 rfl) ?_
          refine q_get (v := .ref (E.2.2 1214)) hF hU dX12_brief_56 0 12 14 1214 1299 rfl rfl rfl rfl inX12 (by decide) (by decide) w_1347 rfl rfl ?_
          refine lv_bipush (v := 16) hF.1 hF.2.1 dX12_brief_59 (by decide) ?_
          refine lv_iconst (v := 0) hF.1 hF.2.1 dX12_brief_61 (by decide) ?_
          refine q_iast hF hU hS dX12_brief_62 8 1214 rfl rfl (q_in (by decide)) (fun f_13 H locs hg hU hS => ?_)
          have hf_13 : upd (u_5.2.1 1214) (16 : Int32).toNatClampNeg 0 = f_13 := hg.symm
          have e_14 : f_13 (16 : Int32).toNatClampNeg = 0 := by rw [← hf_13]; exact pk_us
          refine lv_aload_n hF.1 hF.2.1 dX12_brief_63 rfl (lv_at hl 0 rfl) ?_
          refine q_get (v := .int 0) hF hU dX12_brief_64 0 12 8 1208 1299 rfl rfl rfl rfl inX12 (by decide) (by decide) w_1341 rfl (congrArg Value.int q_12) ?_
          refine lv_if_ne (tgt := 89) hF.1 hF.2.1 dX12_brief_67 (by decide) (fun h9 => absurd (by decide) h9) (fun _ => ?_)
          refine lv_aload_n hF.1 hF.2.1 dX12_brief_70 rfl (lv_at hl 0 rfl) ?_
          refine q_get (v := .ref (E.2.2 1204)) hF hU dX12_brief_71 0 12 4 1204 1299 rfl rfl rfl rfl inX12 (by decide) (by decide) w_1337 rfl rfl ?_
          refine lv_aload_n hF.1 hF.2.1 dX12_brief_74 rfl (lv_at hl 0 rfl) ?_
          refine q_get (v := .int 0) hF hU dX12_brief_75 0 12 7 1207 1299 rfl rfl rfl rfl inX12 (by decide) (by decide) w_1340 rfl (congrArg Value.int q_11) ?_
          refine q_iald (v := 0) hF hU dX12_brief_78 1 1204 rfl rfl (q_in (by decide)) hw_6.2 ?_
          refine lv_if_eq (tgt := 89) hF.1 hF.2.1 dX12_brief_79 (by decide) (fun _ => ?_) (fun h9 => absurd (by decide) h9)
          refine lv_aload_n hF.1 hF.2.1 dX12_brief_89 rfl (lv_at hl 0 rfl) ?_
          refine q_get (v := .int 0) hF hU dX12_brief_90 0 12 8 1208 1299 rfl rfl rfl rfl inX12 (by decide) (by decide) w_1341 rfl (congrArg Value.int q_12) ?_
          refine lv_if_ne (tgt := 102) hF.1 hF.2.1 dX12_brief_93 (by decide) (fun h9 => absurd (by decide) h9) (fun _ => ?_)
          refine lv_aload_n hF.1 hF.2.1 dX12_brief_96 rfl (lv_at hl 0 rfl) ?_
          refine lv_iload_n hF.1 hF.2.1 dX12_brief_97 rfl (lv_at hl 1 rfl) ?_
          refine lv_iload_n hF.1 hF.2.1 dX12_brief_98 rfl (lv_at hl 2 rfl) ?_
          have hM9 := (k_X12_keeps l E A (qsF (qsI (qsI u_5 1221 0) 1219 0) 1214 f_13) x y q_7 rfl e_14)
          have hR9 := q_runV (l := l) (e := e0) (below := bl0) (meth := me0) (R := qR 2 0 0) (cells := 0) (slots := 0) (st0 := [.int y, .int x, .ref (E.2.2 1299)]) (rest := []) hF hU hS hA 2 0 12 1299 rfl rfl rfl hM9 w_1676 w_1678 w_67 w_107 w_1679 (by decide +kernel) ⟨Nat.le_of_ble_eq_true rfl, Nat.le_of_ble_eq_true rfl⟩ dX12_brief_99 rfl hl.1 rfl (Nat.le_of_ble_eq_true rfl) ⟨Nat.le_of_ble_eq_true rfl, Nat.le_of_ble_eq_true rfl⟩
          refine q_callv hR9 hU.2.2.2 hS (fun u_15 H locs hw_16 hU hS => ?_)
          have q_17 : u_15.1 1200 = 0 := (congrFun hw_16 1200).trans q_8
          have q_18 : u_15.1 1203 = 0 := (congrFun hw_16 1203).trans q_9
          have q_19 : u_15.1 1202 = 0 := (congrFun hw_16 1202).trans q_10
          have q_20 : u_15.1 1207 = 0 := (congrFun hw_16 1207).trans q_11
          have q_21 : u_15.1 1208 = 0 := (congrFun hw_16 1208).trans q_12
          have q_22 : u_15.1 1221 = 0 := (congrFun hw_16 1221).trans rfl
          have q_23 : u_15.1 1219 = 0 := (congrFun hw_16 1219).trans rfl
          have q_24 : u_15.1 1210 = 1 := (congrFun hw_16 1210).trans rfl
          refine lv_aload_n hF.1 hF.2.1 dX12_brief_102 rfl (lv_at hl 0 rfl) ?_
          refine q_get (v := .int 0) hF hU dX12_brief_103 0 12 8 1208 1299 rfl rfl rfl rfl inX12 (by decide) (by decide) w_1341 rfl (congrArg Value.int q_21) ?_
          exact q_iret hF hr rfl hlocks hU hS dX12_brief_106 (k_X12_brief_r4 x y c6_1 c11_2 c15_3 c22_4)
set_option maxHeartbeats 400000 in
set_option maxRecDepth 100000 in
theorem k_X12_findLeans (l : Launch) (E : qE) (A : Nat → Prop) (u : qS) (h_visits : u.1 1247 = 0) : Met l yX12_findLeans (uws yX12_findLeans cX12_findLeans 5 none) (qR 4 0 0) (qPc E A 1 u [.ref (E.2.2 1299)]) (qQv E A 1 (fun u1 => u1.1 = (qsI (qsI u 1260 0) 1270 0).1)) 0 0 A := by
  refine q_met (own := RX12) (f := 4) [.ref (E.2.2 1299)] (by decide) (Nat.le_of_ble_eq_true rfl) rfl ?_
  intro p0 e0 s0 m0 bl0 me0 cd0 ls hF hr hlocks hU hS hA hl
  have hl : lv_has ls 5 [(0, .ref (E.2.2 1299))] := hl
  refine lv_aload_n hF.1 hF.2.1 dX12_findLeans_0 rfl (lv_at hl 0 rfl) ?_
  have hM9 := (k_X12_findAll l E A u h_visits)
  have hR9 := q_runV (l := l) (e := e0) (below := bl0) (meth := me0) (R := qR 4 0 0) (cells := 0) (slots := 0) (st0 := [.ref (E.2.2 1299)]) (rest := []) hF hU hS hA 0 0 12 1299 rfl rfl rfl hM9 w_1742 w_1744 w_73 w_107 w_1745 (by decide +kernel) ⟨Nat.le_of_ble_eq_true rfl, Nat.le_of_ble_eq_true rfl⟩ dX12_findLeans_1 rfl hl.1 rfl (Nat.le_of_ble_eq_true rfl) ⟨Nat.le_of_ble_eq_true rfl, Nat.le_of_ble_eq_true rfl⟩
  refine q_callv hR9 hU.2.2.2 hS (fun u_1 H locs hw_2 hU hS => ?_)
  rw [hw_2] at hU
  refine lv_iconst (v := 0) hF.1 hF.2.1 dX12_findLeans_4 (by decide) ?_
  refine lv_istore_n (lv' := [(1, .int 0), (0, .ref (E.2.2 1299))]) hF.1 hF.2.1 dX12_findLeans_5 rfl hl (by decide) rfl (fun ls hl => ?_)
  refine lv_iload_n hF.1 hF.2.1 dX12_findLeans_6 rfl (lv_at hl 0 rfl) ?_
  refine lv_bipush (v := 8) hF.1 hF.2.1 dX12_findLeans_7 (by decide) ?_
  refine lv_icmp_ge (tgt := 136) hF.1 hF.2.1 dX12_findLeans_9 (by decide) (fun h9 => absurd h9 (by decide)) (fun _ => ?_)
  refine lv_iconst (v := 0) hF.1 hF.2.1 dX12_findLeans_12 (by decide) ?_
  refine lv_istore_n (lv' := [(2, .int 0), (1, .int 0), (0, .ref (E.2.2 1299))]) hF.1 hF.2.1 dX12_findLeans_13 rfl hl (by decide) rfl (fun ls hl => ?_)
  refine lv_aload_n hF.1 hF.2.1 dX12_findLeans_14 rfl (lv_at hl 2 rfl) ?_
  refine q_get (v := .ref (E.2.2 1272)) hF hU dX12_findLeans_15 0 12 72 1272 1299 rfl rfl rfl rfl inX12 (by decide) (by decide) w_1405 rfl rfl ?_
  refine lv_iload_n hF.1 hF.2.1 dX12_findLeans_18 rfl (lv_at hl 1 rfl) ?_
  refine lv_iconst (v := 0) hF.1 hF.2.1 dX12_findLeans_19 (by decide) ?_
  refine q_iast hF hU hS dX12_findLeans_20 45 1272 rfl rfl (q_in (by decide)) (fun f_3 H locs hg hU hS => ?_)
  have hf_3 : upd (u.2.1 1272) (0 : Int32).toNatClampNeg 0 = f_3 := hg.symm
  have e_4 : f_3 (0 : Int32).toNatClampNeg = 0 := by rw [← hf_3]; exact pk_us
  refine lv_iconst (v := 0) hF.1 hF.2.1 dX12_findLeans_21 (by decide) ?_
  refine lv_istore_n (lv' := [(3, .int 0), (2, .int 0), (1, .int 0), (0, .ref (E.2.2 1299))]) hF.1 hF.2.1 dX12_findLeans_22 rfl hl (by decide) rfl (fun ls hl => ?_)
  refine lv_iload_n hF.1 hF.2.1 dX12_findLeans_23 rfl (lv_at hl 0 rfl) ?_
  refine lv_aload_n hF.1 hF.2.1 dX12_findLeans_24 rfl (lv_at hl 3 rfl) ?_
  refine q_get (v := .int 0) hF hU dX12_findLeans_25 0 12 47 1247 1299 rfl rfl rfl rfl inX12 (by decide) (by decide) w_1380 rfl (congrArg Value.int h_visits) ?_
  refine lv_icmp_ge (tgt := 102) hF.1 hF.2.1 dX12_findLeans_28 (by decide) (fun _ => ?_) (fun h9 => absurd (by decide) h9)
  refine lv_aload_n hF.1 hF.2.1 dX12_findLeans_102 rfl (lv_at hl 3 rfl) ?_
  refine q_get (v := .ref (E.2.2 1271)) hF hU dX12_findLeans_103 0 12 71 1271 1299 rfl rfl rfl rfl inX12 (by decide) (by decide) w_1404 rfl rfl ?_
  refine lv_iload_n hF.1 hF.2.1 dX12_findLeans_106 rfl (lv_at hl 2 rfl) ?_
  refine lv_aload_n hF.1 hF.2.1 dX12_findLeans_107 rfl (lv_at hl 3 rfl) ?_
  refine q_get (v := .ref (E.2.2 1272)) hF hU dX12_findLeans_108 0 12 72 1272 1299 rfl rfl rfl rfl inX12 (by decide) (by decide) w_1405 rfl rfl ?_
  refine lv_iload_n hF.1 hF.2.1 dX12_findLeans_111 rfl (lv_at hl 2 rfl) ?_
  refine q_iald (v := 0) hF hU dX12_findLeans_112 45 1272 rfl rfl (q_in (by decide)) e_4 ?_
  refine lv_iconst (v := 2) hF.1 hF.2.1 dX12_findLeans_113 (by decide) ?_
  refine lv_icmp_ge (tgt := 121) hF.1 hF.2.1 dX12_findLeans_114 (by decide) (fun h9 => absurd h9 (by decide)) (fun _ => ?_)
  refine lv_iconst (v := 0) hF.1 hF.2.1 dX12_findLeans_117 (by decide) ?_
  refine lv_goto (tgt := 129) hF.1 hF.2.1 dX12_findLeans_118 (by decide) ?_
  refine q_iast hF hU hS dX12_findLeans_129 44 1271 rfl rfl (q_in (by decide)) (fun f_5 H locs hg hU hS => ?_)
  have hf_5 : upd (u.2.1 1271) (0 : Int32).toNatClampNeg 0 = f_5 := hg.symm
  have e_6 : f_5 (0 : Int32).toNatClampNeg = 0 := by rw [← hf_5]; exact pk_us
  refine lv_iinc (v := 1) (lv' := [(1, .int 1), (3, .int 0), (2, .int 0), (0, .ref (E.2.2 1299))]) hF.1 hF.2.1 dX12_findLeans_130 hl (k := 2) rfl (by decide) (by decide) rfl (fun ls hl => ?_)
  refine lv_goto (tgt := 6) hF.1 hF.2.1 dX12_findLeans_133 (by decide) ?_
  refine lv_iload_n hF.1 hF.2.1 dX12_findLeans_6 rfl (lv_at hl 0 rfl) ?_
  refine lv_bipush (v := 8) hF.1 hF.2.1 dX12_findLeans_7 (by decide) ?_
  refine lv_icmp_ge (tgt := 136) hF.1 hF.2.1 dX12_findLeans_9 (by decide) (fun h9 => absurd h9 (by decide)) (fun _ => ?_)
  refine lv_iconst (v := 0) hF.1 hF.2.1 dX12_findLeans_12 (by decide) ?_
  refine lv_istore_n (lv' := [(2, .int 0), (1, .int 1), (3, .int 0), (0, .ref (E.2.2 1299))]) hF.1 hF.2.1 dX12_findLeans_13 rfl hl (by decide) rfl (fun ls hl => ?_)
  refine lv_aload_n hF.1 hF.2.1 dX12_findLeans_14 rfl (lv_at hl 3 rfl) ?_
  refine q_get (v := .ref (E.2.2 1272)) hF hU dX12_findLeans_15 0 12 72 1272 1299 rfl rfl rfl rfl inX12 (by decide) (by decide) w_1405 rfl rfl ?_
  refine lv_iload_n hF.1 hF.2.1 dX12_findLeans_18 rfl (lv_at hl 1 rfl) ?_
  refine lv_iconst (v := 0) hF.1 hF.2.1 dX12_findLeans_19 (by decide) ?_
  refine q_iast hF hU hS dX12_findLeans_20 45 1272 rfl rfl (q_in (by decide)) (fun f_7 H locs hg hU hS => ?_)
  have hf_7 : upd (f_3) (1 : Int32).toNatClampNeg 0 = f_7 := hg.symm
  have e_8 : f_7 (0 : Int32).toNatClampNeg = 0 := by rw [← hf_7]; exact (pk_un (by decide)).trans e_4
  have e_9 : f_7 (1 : Int32).toNatClampNeg = 0 := by rw [← hf_7]; exact pk_us
  refine lv_iconst (v := 0) hF.1 hF.2.1 dX12_findLeans_21 (by decide) ?_
  refine lv_istore_n (lv' := [(3, .int 0), (2, .int 0), (1, .int 1), (0, .ref (E.2.2 1299))]) hF.1 hF.2.1 dX12_findLeans_22 rfl hl (by decide) rfl (fun ls hl => ?_)
  refine lv_iload_n hF.1 hF.2.1 dX12_findLeans_23 rfl (lv_at hl 0 rfl) ?_
  refine lv_aload_n hF.1 hF.2.1 dX12_findLeans_24 rfl (lv_at hl 3 rfl) ?_
  refine q_get (v := .int 0) hF hU dX12_findLeans_25 0 12 47 1247 1299 rfl rfl rfl rfl inX12 (by decide) (by decide) w_1380 rfl (congrArg Value.int h_visits) ?_
  refine lv_icmp_ge (tgt := 102) hF.1 hF.2.1 dX12_findLeans_28 (by decide) (fun _ => ?_) (fun h9 => absurd (by decide) h9)
  refine lv_aload_n hF.1 hF.2.1 dX12_findLeans_102 rfl (lv_at hl 3 rfl) ?_
  refine q_get (v := .ref (E.2.2 1271)) hF hU dX12_findLeans_103 0 12 71 1271 1299 rfl rfl rfl rfl inX12 (by decide) (by decide) w_1404 rfl rfl ?_
  refine lv_iload_n hF.1 hF.2.1 dX12_findLeans_106 rfl (lv_at hl 2 rfl) ?_
  refine lv_aload_n hF.1 hF.2.1 dX12_findLeans_107 rfl (lv_at hl 3 rfl) ?_
  refine q_get (v := .ref (E.2.2 1272)) hF hU dX12_findLeans_108 0 12 72 1272 1299 rfl rfl rfl rfl inX12 (by decide) (by decide) w_1405 rfl rfl ?_
  refine lv_iload_n hF.1 hF.2.1 dX12_findLeans_111 rfl (lv_at hl 2 rfl) ?_
  refine q_iald (v := 0) hF hU dX12_findLeans_112 45 1272 rfl rfl (q_in (by decide)) e_9 ?_
  refine lv_iconst (v := 2) hF.1 hF.2.1 dX12_findLeans_113 (by decide) ?_
  refine lv_icmp_ge (tgt := 121) hF.1 hF.2.1 dX12_findLeans_114 (by decide) (fun h9 => absurd h9 (by decide)) (fun _ => ?_)
  refine lv_iconst (v := 0) hF.1 hF.2.1 dX12_findLeans_117 (by decide) ?_
  refine lv_goto (tgt := 129) hF.1 hF.2.1 dX12_findLeans_118 (by decide) ?_
  refine q_iast hF hU hS dX12_findLeans_129 44 1271 rfl rfl (q_in (by decide)) (fun f_10 H locs hg hU hS => ?_)
  have hf_10 : upd (f_5) (1 : Int32).toNatClampNeg 0 = f_10 := hg.symm
  have e_11 : f_10 (0 : Int32).toNatClampNeg = 0 := by rw [← hf_10]; exact (pk_un (by decide)).trans e_6
  have e_12 : f_10 (1 : Int32).toNatClampNeg = 0 := by rw [← hf_10]; exact pk_us
  refine lv_iinc (v := 2) (lv' := [(1, .int 2), (3, .int 0), (2, .int 0), (0, .ref (E.2.2 1299))]) hF.1 hF.2.1 dX12_findLeans_130 hl (k := 2) rfl (by decide) (by decide) rfl (fun ls hl => ?_)
  refine lv_goto (tgt := 6) hF.1 hF.2.1 dX12_findLeans_133 (by decide) ?_
  refine lv_iload_n hF.1 hF.2.1 dX12_findLeans_6 rfl (lv_at hl 0 rfl) ?_
  refine lv_bipush (v := 8) hF.1 hF.2.1 dX12_findLeans_7 (by decide) ?_
  refine lv_icmp_ge (tgt := 136) hF.1 hF.2.1 dX12_findLeans_9 (by decide) (fun h9 => absurd h9 (by decide)) (fun _ => ?_)
  refine lv_iconst (v := 0) hF.1 hF.2.1 dX12_findLeans_12 (by decide) ?_
  refine lv_istore_n (lv' := [(2, .int 0), (1, .int 2), (3, .int 0), (0, .ref (E.2.2 1299))]) hF.1 hF.2.1 dX12_findLeans_13 rfl hl (by decide) rfl (fun ls hl => ?_)
  refine lv_aload_n hF.1 hF.2.1 dX12_findLeans_14 rfl (lv_at hl 3 rfl) ?_
  refine q_get (v := .ref (E.2.2 1272)) hF hU dX12_findLeans_15 0 12 72 1272 1299 rfl rfl rfl rfl inX12 (by decide) (by decide) w_1405 rfl rfl ?_
  refine lv_iload_n hF.1 hF.2.1 dX12_findLeans_18 rfl (lv_at hl 1 rfl) ?_
  refine lv_iconst (v := 0) hF.1 hF.2.1 dX12_findLeans_19 (by decide) ?_
  refine q_iast hF hU hS dX12_findLeans_20 45 1272 rfl rfl (q_in (by decide)) (fun f_13 H locs hg hU hS => ?_)
  have hf_13 : upd (f_7) (2 : Int32).toNatClampNeg 0 = f_13 := hg.symm
  have e_14 : f_13 (0 : Int32).toNatClampNeg = 0 := by rw [← hf_13]; exact (pk_un (by decide)).trans e_8
  have e_15 : f_13 (1 : Int32).toNatClampNeg = 0 := by rw [← hf_13]; exact (pk_un (by decide)).trans e_9
  have e_16 : f_13 (2 : Int32).toNatClampNeg = 0 := by rw [← hf_13]; exact pk_us
  refine lv_iconst (v := 0) hF.1 hF.2.1 dX12_findLeans_21 (by decide) ?_
  refine lv_istore_n (lv' := [(3, .int 0), (2, .int 0), (1, .int 2), (0, .ref (E.2.2 1299))]) hF.1 hF.2.1 dX12_findLeans_22 rfl hl (by decide) rfl (fun ls hl => ?_)
  refine lv_iload_n hF.1 hF.2.1 dX12_findLeans_23 rfl (lv_at hl 0 rfl) ?_
  refine lv_aload_n hF.1 hF.2.1 dX12_findLeans_24 rfl (lv_at hl 3 rfl) ?_
  refine q_get (v := .int 0) hF hU dX12_findLeans_25 0 12 47 1247 1299 rfl rfl rfl rfl inX12 (by decide) (by decide) w_1380 rfl (congrArg Value.int h_visits) ?_
  refine lv_icmp_ge (tgt := 102) hF.1 hF.2.1 dX12_findLeans_28 (by decide) (fun _ => ?_) (fun h9 => absurd (by decide) h9)
  refine lv_aload_n hF.1 hF.2.1 dX12_findLeans_102 rfl (lv_at hl 3 rfl) ?_
  refine q_get (v := .ref (E.2.2 1271)) hF hU dX12_findLeans_103 0 12 71 1271 1299 rfl rfl rfl rfl inX12 (by decide) (by decide) w_1404 rfl rfl ?_
  refine lv_iload_n hF.1 hF.2.1 dX12_findLeans_106 rfl (lv_at hl 2 rfl) ?_
  refine lv_aload_n hF.1 hF.2.1 dX12_findLeans_107 rfl (lv_at hl 3 rfl) ?_
  refine q_get (v := .ref (E.2.2 1272)) hF hU dX12_findLeans_108 0 12 72 1272 1299 rfl rfl rfl rfl inX12 (by decide) (by decide) w_1405 rfl rfl ?_
  refine lv_iload_n hF.1 hF.2.1 dX12_findLeans_111 rfl (lv_at hl 2 rfl) ?_
  refine q_iald (v := 0) hF hU dX12_findLeans_112 45 1272 rfl rfl (q_in (by decide)) e_16 ?_
  refine lv_iconst (v := 2) hF.1 hF.2.1 dX12_findLeans_113 (by decide) ?_
  refine lv_icmp_ge (tgt := 121) hF.1 hF.2.1 dX12_findLeans_114 (by decide) (fun h9 => absurd h9 (by decide)) (fun _ => ?_)
  refine lv_iconst (v := 0) hF.1 hF.2.1 dX12_findLeans_117 (by decide) ?_
  refine lv_goto (tgt := 129) hF.1 hF.2.1 dX12_findLeans_118 (by decide) ?_
  refine q_iast hF hU hS dX12_findLeans_129 44 1271 rfl rfl (q_in (by decide)) (fun f_17 H locs hg hU hS => ?_)
  have hf_17 : upd (f_10) (2 : Int32).toNatClampNeg 0 = f_17 := hg.symm
  have e_18 : f_17 (0 : Int32).toNatClampNeg = 0 := by rw [← hf_17]; exact (pk_un (by decide)).trans e_11
  have e_19 : f_17 (1 : Int32).toNatClampNeg = 0 := by rw [← hf_17]; exact (pk_un (by decide)).trans e_12
  have e_20 : f_17 (2 : Int32).toNatClampNeg = 0 := by rw [← hf_17]; exact pk_us
  refine lv_iinc (v := 3) (lv' := [(1, .int 3), (3, .int 0), (2, .int 0), (0, .ref (E.2.2 1299))]) hF.1 hF.2.1 dX12_findLeans_130 hl (k := 2) rfl (by decide) (by decide) rfl (fun ls hl => ?_)
  refine lv_goto (tgt := 6) hF.1 hF.2.1 dX12_findLeans_133 (by decide) ?_
  refine lv_iload_n hF.1 hF.2.1 dX12_findLeans_6 rfl (lv_at hl 0 rfl) ?_
  refine lv_bipush (v := 8) hF.1 hF.2.1 dX12_findLeans_7 (by decide) ?_
  refine lv_icmp_ge (tgt := 136) hF.1 hF.2.1 dX12_findLeans_9 (by decide) (fun h9 => absurd h9 (by decide)) (fun _ => ?_)
  refine lv_iconst (v := 0) hF.1 hF.2.1 dX12_findLeans_12 (by decide) ?_
  refine lv_istore_n (lv' := [(2, .int 0), (1, .int 3), (3, .int 0), (0, .ref (E.2.2 1299))]) hF.1 hF.2.1 dX12_findLeans_13 rfl hl (by decide) rfl (fun ls hl => ?_)
  refine lv_aload_n hF.1 hF.2.1 dX12_findLeans_14 rfl (lv_at hl 3 rfl) ?_
  refine q_get (v := .ref (E.2.2 1272)) hF hU dX12_findLeans_15 0 12 72 1272 1299 rfl rfl rfl rfl inX12 (by decide) (by decide) w_1405 rfl rfl ?_
  refine lv_iload_n hF.1 hF.2.1 dX12_findLeans_18 rfl (lv_at hl 1 rfl) ?_
  refine lv_iconst (v := 0) hF.1 hF.2.1 dX12_findLeans_19 (by decide) ?_
  refine q_iast hF hU hS dX12_findLeans_20 45 1272 rfl rfl (q_in (by decide)) (fun f_21 H locs hg hU hS => ?_)
  have hf_21 : upd (f_13) (3 : Int32).toNatClampNeg 0 = f_21 := hg.symm
  have e_22 : f_21 (0 : Int32).toNatClampNeg = 0 := by rw [← hf_21]; exact (pk_un (by decide)).trans e_14
  have e_23 : f_21 (1 : Int32).toNatClampNeg = 0 := by rw [← hf_21]; exact (pk_un (by decide)).trans e_15
  have e_24 : f_21 (2 : Int32).toNatClampNeg = 0 := by rw [← hf_21]; exact (pk_un (by decide)).trans e_16
  have e_25 : f_21 (3 : Int32).toNatClampNeg = 0 := by rw [← hf_21]; exact pk_us
  refine lv_iconst (v := 0) hF.1 hF.2.1 dX12_findLeans_21 (by decide) ?_
  refine lv_istore_n (lv' := [(3, .int 0), (2, .int 0), (1, .int 3), (0, .ref (E.2.2 1299))]) hF.1 hF.2.1 dX12_findLeans_22 rfl hl (by decide) rfl (fun ls hl => ?_)
  refine lv_iload_n hF.1 hF.2.1 dX12_findLeans_23 rfl (lv_at hl 0 rfl) ?_
  refine lv_aload_n hF.1 hF.2.1 dX12_findLeans_24 rfl (lv_at hl 3 rfl) ?_
  refine q_get (v := .int 0) hF hU dX12_findLeans_25 0 12 47 1247 1299 rfl rfl rfl rfl inX12 (by decide) (by decide) w_1380 rfl (congrArg Value.int h_visits) ?_
  refine lv_icmp_ge (tgt := 102) hF.1 hF.2.1 dX12_findLeans_28 (by decide) (fun _ => ?_) (fun h9 => absurd (by decide) h9)
  refine lv_aload_n hF.1 hF.2.1 dX12_findLeans_102 rfl (lv_at hl 3 rfl) ?_
  refine q_get (v := .ref (E.2.2 1271)) hF hU dX12_findLeans_103 0 12 71 1271 1299 rfl rfl rfl rfl inX12 (by decide) (by decide) w_1404 rfl rfl ?_
  refine lv_iload_n hF.1 hF.2.1 dX12_findLeans_106 rfl (lv_at hl 2 rfl) ?_
  refine lv_aload_n hF.1 hF.2.1 dX12_findLeans_107 rfl (lv_at hl 3 rfl) ?_
  refine q_get (v := .ref (E.2.2 1272)) hF hU dX12_findLeans_108 0 12 72 1272 1299 rfl rfl rfl rfl inX12 (by decide) (by decide) w_1405 rfl rfl ?_
  refine lv_iload_n hF.1 hF.2.1 dX12_findLeans_111 rfl (lv_at hl 2 rfl) ?_
  refine q_iald (v := 0) hF hU dX12_findLeans_112 45 1272 rfl rfl (q_in (by decide)) e_25 ?_
  refine lv_iconst (v := 2) hF.1 hF.2.1 dX12_findLeans_113 (by decide) ?_
  refine lv_icmp_ge (tgt := 121) hF.1 hF.2.1 dX12_findLeans_114 (by decide) (fun h9 => absurd h9 (by decide)) (fun _ => ?_)
  refine lv_iconst (v := 0) hF.1 hF.2.1 dX12_findLeans_117 (by decide) ?_
  refine lv_goto (tgt := 129) hF.1 hF.2.1 dX12_findLeans_118 (by decide) ?_
  refine q_iast hF hU hS dX12_findLeans_129 44 1271 rfl rfl (q_in (by decide)) (fun f_26 H locs hg hU hS => ?_)
  have hf_26 : upd (f_17) (3 : Int32).toNatClampNeg 0 = f_26 := hg.symm
  have e_27 : f_26 (0 : Int32).toNatClampNeg = 0 := by rw [← hf_26]; exact (pk_un (by decide)).trans e_18
  have e_28 : f_26 (1 : Int32).toNatClampNeg = 0 := by rw [← hf_26]; exact (pk_un (by decide)).trans e_19
  have e_29 : f_26 (2 : Int32).toNatClampNeg = 0 := by rw [← hf_26]; exact (pk_un (by decide)).trans e_20
  have e_30 : f_26 (3 : Int32).toNatClampNeg = 0 := by rw [← hf_26]; exact pk_us
  refine lv_iinc (v := 4) (lv' := [(1, .int 4), (3, .int 0), (2, .int 0), (0, .ref (E.2.2 1299))]) hF.1 hF.2.1 dX12_findLeans_130 hl (k := 2) rfl (by decide) (by decide) rfl (fun ls hl => ?_)
  refine lv_goto (tgt := 6) hF.1 hF.2.1 dX12_findLeans_133 (by decide) ?_
  refine lv_iload_n hF.1 hF.2.1 dX12_findLeans_6 rfl (lv_at hl 0 rfl) ?_
  refine lv_bipush (v := 8) hF.1 hF.2.1 dX12_findLeans_7 (by decide) ?_
  refine lv_icmp_ge (tgt := 136) hF.1 hF.2.1 dX12_findLeans_9 (by decide) (fun h9 => absurd h9 (by decide)) (fun _ => ?_)
  refine lv_iconst (v := 0) hF.1 hF.2.1 dX12_findLeans_12 (by decide) ?_
  refine lv_istore_n (lv' := [(2, .int 0), (1, .int 4), (3, .int 0), (0, .ref (E.2.2 1299))]) hF.1 hF.2.1 dX12_findLeans_13 rfl hl (by decide) rfl (fun ls hl => ?_)
  refine lv_aload_n hF.1 hF.2.1 dX12_findLeans_14 rfl (lv_at hl 3 rfl) ?_
  refine q_get (v := .ref (E.2.2 1272)) hF hU dX12_findLeans_15 0 12 72 1272 1299 rfl rfl rfl rfl inX12 (by decide) (by decide) w_1405 rfl rfl ?_
  refine lv_iload_n hF.1 hF.2.1 dX12_findLeans_18 rfl (lv_at hl 1 rfl) ?_
  refine lv_iconst (v := 0) hF.1 hF.2.1 dX12_findLeans_19 (by decide) ?_
  refine q_iast hF hU hS dX12_findLeans_20 45 1272 rfl rfl (q_in (by decide)) (fun f_31 H locs hg hU hS => ?_)
  have hf_31 : upd (f_21) (4 : Int32).toNatClampNeg 0 = f_31 := hg.symm
  have e_32 : f_31 (0 : Int32).toNatClampNeg = 0 := by rw [← hf_31]; exact (pk_un (by decide)).trans e_22
  have e_33 : f_31 (1 : Int32).toNatClampNeg = 0 := by rw [← hf_31]; exact (pk_un (by decide)).trans e_23
  have e_34 : f_31 (2 : Int32).toNatClampNeg = 0 := by rw [← hf_31]; exact (pk_un (by decide)).trans e_24
  have e_35 : f_31 (3 : Int32).toNatClampNeg = 0 := by rw [← hf_31]; exact (pk_un (by decide)).trans e_25
  have e_36 : f_31 (4 : Int32).toNatClampNeg = 0 := by rw [← hf_31]; exact pk_us
  refine lv_iconst (v := 0) hF.1 hF.2.1 dX12_findLeans_21 (by decide) ?_
  refine lv_istore_n (lv' := [(3, .int 0), (2, .int 0), (1, .int 4), (0, .ref (E.2.2 1299))]) hF.1 hF.2.1 dX12_findLeans_22 rfl hl (by decide) rfl (fun ls hl => ?_)
  refine lv_iload_n hF.1 hF.2.1 dX12_findLeans_23 rfl (lv_at hl 0 rfl) ?_
  refine lv_aload_n hF.1 hF.2.1 dX12_findLeans_24 rfl (lv_at hl 3 rfl) ?_
  refine q_get (v := .int 0) hF hU dX12_findLeans_25 0 12 47 1247 1299 rfl rfl rfl rfl inX12 (by decide) (by decide) w_1380 rfl (congrArg Value.int h_visits) ?_
  refine lv_icmp_ge (tgt := 102) hF.1 hF.2.1 dX12_findLeans_28 (by decide) (fun _ => ?_) (fun h9 => absurd (by decide) h9)
  refine lv_aload_n hF.1 hF.2.1 dX12_findLeans_102 rfl (lv_at hl 3 rfl) ?_
  refine q_get (v := .ref (E.2.2 1271)) hF hU dX12_findLeans_103 0 12 71 1271 1299 rfl rfl rfl rfl inX12 (by decide) (by decide) w_1404 rfl rfl ?_
  refine lv_iload_n hF.1 hF.2.1 dX12_findLeans_106 rfl (lv_at hl 2 rfl) ?_
  refine lv_aload_n hF.1 hF.2.1 dX12_findLeans_107 rfl (lv_at hl 3 rfl) ?_
  refine q_get (v := .ref (E.2.2 1272)) hF hU dX12_findLeans_108 0 12 72 1272 1299 rfl rfl rfl rfl inX12 (by decide) (by decide) w_1405 rfl rfl ?_
  refine lv_iload_n hF.1 hF.2.1 dX12_findLeans_111 rfl (lv_at hl 2 rfl) ?_
  refine q_iald (v := 0) hF hU dX12_findLeans_112 45 1272 rfl rfl (q_in (by decide)) e_36 ?_
  refine lv_iconst (v := 2) hF.1 hF.2.1 dX12_findLeans_113 (by decide) ?_
  refine lv_icmp_ge (tgt := 121) hF.1 hF.2.1 dX12_findLeans_114 (by decide) (fun h9 => absurd h9 (by decide)) (fun _ => ?_)
  refine lv_iconst (v := 0) hF.1 hF.2.1 dX12_findLeans_117 (by decide) ?_
  refine lv_goto (tgt := 129) hF.1 hF.2.1 dX12_findLeans_118 (by decide) ?_
  refine q_iast hF hU hS dX12_findLeans_129 44 1271 rfl rfl (q_in (by decide)) (fun f_37 H locs hg hU hS => ?_)
  have hf_37 : upd (f_26) (4 : Int32).toNatClampNeg 0 = f_37 := hg.symm
  have e_38 : f_37 (0 : Int32).toNatClampNeg = 0 := by rw [← hf_37]; exact (pk_un (by decide)).trans e_27
  have e_39 : f_37 (1 : Int32).toNatClampNeg = 0 := by rw [← hf_37]; exact (pk_un (by decide)).trans e_28
  have e_40 : f_37 (2 : Int32).toNatClampNeg = 0 := by rw [← hf_37]; exact (pk_un (by decide)).trans e_29
  have e_41 : f_37 (3 : Int32).toNatClampNeg = 0 := by rw [← hf_37]; exact (pk_un (by decide)).trans e_30
  have e_42 : f_37 (4 : Int32).toNatClampNeg = 0 := by rw [← hf_37]; exact pk_us
  refine lv_iinc (v := 5) (lv' := [(1, .int 5), (3, .int 0), (2, .int 0), (0, .ref (E.2.2 1299))]) hF.1 hF.2.1 dX12_findLeans_130 hl (k := 2) rfl (by decide) (by decide) rfl (fun ls hl => ?_)
  refine lv_goto (tgt := 6) hF.1 hF.2.1 dX12_findLeans_133 (by decide) ?_
  refine lv_iload_n hF.1 hF.2.1 dX12_findLeans_6 rfl (lv_at hl 0 rfl) ?_
  refine lv_bipush (v := 8) hF.1 hF.2.1 dX12_findLeans_7 (by decide) ?_
  refine lv_icmp_ge (tgt := 136) hF.1 hF.2.1 dX12_findLeans_9 (by decide) (fun h9 => absurd h9 (by decide)) (fun _ => ?_)
  refine lv_iconst (v := 0) hF.1 hF.2.1 dX12_findLeans_12 (by decide) ?_
  refine lv_istore_n (lv' := [(2, .int 0), (1, .int 5), (3, .int 0), (0, .ref (E.2.2 1299))]) hF.1 hF.2.1 dX12_findLeans_13 rfl hl (by decide) rfl (fun ls hl => ?_)
  refine lv_aload_n hF.1 hF.2.1 dX12_findLeans_14 rfl (lv_at hl 3 rfl) ?_
  refine q_get (v := .ref (E.2.2 1272)) hF hU dX12_findLeans_15 0 12 72 1272 1299 rfl rfl rfl rfl inX12 (by decide) (by decide) w_1405 rfl rfl ?_
  refine lv_iload_n hF.1 hF.2.1 dX12_findLeans_18 rfl (lv_at hl 1 rfl) ?_
  refine lv_iconst (v := 0) hF.1 hF.2.1 dX12_findLeans_19 (by decide) ?_
  refine q_iast hF hU hS dX12_findLeans_20 45 1272 rfl rfl (q_in (by decide)) (fun f_43 H locs hg hU hS => ?_)
  have hf_43 : upd (f_31) (5 : Int32).toNatClampNeg 0 = f_43 := hg.symm
  have e_44 : f_43 (0 : Int32).toNatClampNeg = 0 := by rw [← hf_43]; exact (pk_un (by decide)).trans e_32
  have e_45 : f_43 (1 : Int32).toNatClampNeg = 0 := by rw [← hf_43]; exact (pk_un (by decide)).trans e_33
  have e_46 : f_43 (2 : Int32).toNatClampNeg = 0 := by rw [← hf_43]; exact (pk_un (by decide)).trans e_34
  have e_47 : f_43 (3 : Int32).toNatClampNeg = 0 := by rw [← hf_43]; exact (pk_un (by decide)).trans e_35
  have e_48 : f_43 (4 : Int32).toNatClampNeg = 0 := by rw [← hf_43]; exact (pk_un (by decide)).trans e_36
  have e_49 : f_43 (5 : Int32).toNatClampNeg = 0 := by rw [← hf_43]; exact pk_us
  refine lv_iconst (v := 0) hF.1 hF.2.1 dX12_findLeans_21 (by decide) ?_
  refine lv_istore_n (lv' := [(3, .int 0), (2, .int 0), (1, .int 5), (0, .ref (E.2.2 1299))]) hF.1 hF.2.1 dX12_findLeans_22 rfl hl (by decide) rfl (fun ls hl => ?_)
  refine lv_iload_n hF.1 hF.2.1 dX12_findLeans_23 rfl (lv_at hl 0 rfl) ?_
  refine lv_aload_n hF.1 hF.2.1 dX12_findLeans_24 rfl (lv_at hl 3 rfl) ?_
  refine q_get (v := .int 0) hF hU dX12_findLeans_25 0 12 47 1247 1299 rfl rfl rfl rfl inX12 (by decide) (by decide) w_1380 rfl (congrArg Value.int h_visits) ?_
  refine lv_icmp_ge (tgt := 102) hF.1 hF.2.1 dX12_findLeans_28 (by decide) (fun _ => ?_) (fun h9 => absurd (by decide) h9)
  refine lv_aload_n hF.1 hF.2.1 dX12_findLeans_102 rfl (lv_at hl 3 rfl) ?_
  refine q_get (v := .ref (E.2.2 1271)) hF hU dX12_findLeans_103 0 12 71 1271 1299 rfl rfl rfl rfl inX12 (by decide) (by decide) w_1404 rfl rfl ?_
  refine lv_iload_n hF.1 hF.2.1 dX12_findLeans_106 rfl (lv_at hl 2 rfl) ?_
  refine lv_aload_n hF.1 hF.2.1 dX12_findLeans_107 rfl (lv_at hl 3 rfl) ?_
  refine q_get (v := .ref (E.2.2 1272)) hF hU dX12_findLeans_108 0 12 72 1272 1299 rfl rfl rfl rfl inX12 (by decide) (by decide) w_1405 rfl rfl ?_
  refine lv_iload_n hF.1 hF.2.1 dX12_findLeans_111 rfl (lv_at hl 2 rfl) ?_
  refine q_iald (v := 0) hF hU dX12_findLeans_112 45 1272 rfl rfl (q_in (by decide)) e_49 ?_
  refine lv_iconst (v := 2) hF.1 hF.2.1 dX12_findLeans_113 (by decide) ?_
  refine lv_icmp_ge (tgt := 121) hF.1 hF.2.1 dX12_findLeans_114 (by decide) (fun h9 => absurd h9 (by decide)) (fun _ => ?_)
  refine lv_iconst (v := 0) hF.1 hF.2.1 dX12_findLeans_117 (by decide) ?_
  refine lv_goto (tgt := 129) hF.1 hF.2.1 dX12_findLeans_118 (by decide) ?_
  refine q_iast hF hU hS dX12_findLeans_129 44 1271 rfl rfl (q_in (by decide)) (fun f_50 H locs hg hU hS => ?_)
  have hf_50 : upd (f_37) (5 : Int32).toNatClampNeg 0 = f_50 := hg.symm
  have e_51 : f_50 (0 : Int32).toNatClampNeg = 0 := by rw [← hf_50]; exact (pk_un (by decide)).trans e_38
  have e_52 : f_50 (1 : Int32).toNatClampNeg = 0 := by rw [← hf_50]; exact (pk_un (by decide)).trans e_39
  have e_53 : f_50 (2 : Int32).toNatClampNeg = 0 := by rw [← hf_50]; exact (pk_un (by decide)).trans e_40
  have e_54 : f_50 (3 : Int32).toNatClampNeg = 0 := by rw [← hf_50]; exact (pk_un (by decide)).trans e_41
  have e_55 : f_50 (4 : Int32).toNatClampNeg = 0 := by rw [← hf_50]; exact (pk_un (by decide)).trans e_42
  have e_56 : f_50 (5 : Int32).toNatClampNeg = 0 := by rw [← hf_50]; exact pk_us
  refine lv_iinc (v := 6) (lv' := [(1, .int 6), (3, .int 0), (2, .int 0), (0, .ref (E.2.2 1299))]) hF.1 hF.2.1 dX12_findLeans_130 hl (k := 2) rfl (by decide) (by decide) rfl (fun ls hl => ?_)
  refine lv_goto (tgt := 6) hF.1 hF.2.1 dX12_findLeans_133 (by decide) ?_
  refine lv_iload_n hF.1 hF.2.1 dX12_findLeans_6 rfl (lv_at hl 0 rfl) ?_
  refine lv_bipush (v := 8) hF.1 hF.2.1 dX12_findLeans_7 (by decide) ?_
  refine lv_icmp_ge (tgt := 136) hF.1 hF.2.1 dX12_findLeans_9 (by decide) (fun h9 => absurd h9 (by decide)) (fun _ => ?_)
  refine lv_iconst (v := 0) hF.1 hF.2.1 dX12_findLeans_12 (by decide) ?_
  refine lv_istore_n (lv' := [(2, .int 0), (1, .int 6), (3, .int 0), (0, .ref (E.2.2 1299))]) hF.1 hF.2.1 dX12_findLeans_13 rfl hl (by decide) rfl (fun ls hl => ?_)
  refine lv_aload_n hF.1 hF.2.1 dX12_findLeans_14 rfl (lv_at hl 3 rfl) ?_
  refine q_get (v := .ref (E.2.2 1272)) hF hU dX12_findLeans_15 0 12 72 1272 1299 rfl rfl rfl rfl inX12 (by decide) (by decide) w_1405 rfl rfl ?_
  refine lv_iload_n hF.1 hF.2.1 dX12_findLeans_18 rfl (lv_at hl 1 rfl) ?_
  refine lv_iconst (v := 0) hF.1 hF.2.1 dX12_findLeans_19 (by decide) ?_
  refine q_iast hF hU hS dX12_findLeans_20 45 1272 rfl rfl (q_in (by decide)) (fun f_57 H locs hg hU hS => ?_)
  have hf_57 : upd (f_43) (6 : Int32).toNatClampNeg 0 = f_57 := hg.symm
  have e_58 : f_57 (0 : Int32).toNatClampNeg = 0 := by rw [← hf_57]; exact (pk_un (by decide)).trans e_44
  have e_59 : f_57 (1 : Int32).toNatClampNeg = 0 := by rw [← hf_57]; exact (pk_un (by decide)).trans e_45
  have e_60 : f_57 (2 : Int32).toNatClampNeg = 0 := by rw [← hf_57]; exact (pk_un (by decide)).trans e_46
  have e_61 : f_57 (3 : Int32).toNatClampNeg = 0 := by rw [← hf_57]; exact (pk_un (by decide)).trans e_47
  have e_62 : f_57 (4 : Int32).toNatClampNeg = 0 := by rw [← hf_57]; exact (pk_un (by decide)).trans e_48
  have e_63 : f_57 (5 : Int32).toNatClampNeg = 0 := by rw [← hf_57]; exact (pk_un (by decide)).trans e_49
  have e_64 : f_57 (6 : Int32).toNatClampNeg = 0 := by rw [← hf_57]; exact pk_us
  refine lv_iconst (v := 0) hF.1 hF.2.1 dX12_findLeans_21 (by decide) ?_
  refine lv_istore_n (lv' := [(3, .int 0), (2, .int 0), (1, .int 6), (0, .ref (E.2.2 1299))]) hF.1 hF.2.1 dX12_findLeans_22 rfl hl (by decide) rfl (fun ls hl => ?_)
  refine lv_iload_n hF.1 hF.2.1 dX12_findLeans_23 rfl (lv_at hl 0 rfl) ?_
  refine lv_aload_n hF.1 hF.2.1 dX12_findLeans_24 rfl (lv_at hl 3 rfl) ?_
  refine q_get (v := .int 0) hF hU dX12_findLeans_25 0 12 47 1247 1299 rfl rfl rfl rfl inX12 (by decide) (by decide) w_1380 rfl (congrArg Value.int h_visits) ?_
  refine lv_icmp_ge (tgt := 102) hF.1 hF.2.1 dX12_findLeans_28 (by decide) (fun _ => ?_) (fun h9 => absurd (by decide) h9)
  refine lv_aload_n hF.1 hF.2.1 dX12_findLeans_102 rfl (lv_at hl 3 rfl) ?_
  refine q_get (v := .ref (E.2.2 1271)) hF hU dX12_findLeans_103 0 12 71 1271 1299 rfl rfl rfl rfl inX12 (by decide) (by decide) w_1404 rfl rfl ?_
  refine lv_iload_n hF.1 hF.2.1 dX12_findLeans_106 rfl (lv_at hl 2 rfl) ?_
  refine lv_aload_n hF.1 hF.2.1 dX12_findLeans_107 rfl (lv_at hl 3 rfl) ?_
  refine q_get (v := .ref (E.2.2 1272)) hF hU dX12_findLeans_108 0 12 72 1272 1299 rfl rfl rfl rfl inX12 (by decide) (by decide) w_1405 rfl rfl ?_
  refine lv_iload_n hF.1 hF.2.1 dX12_findLeans_111 rfl (lv_at hl 2 rfl) ?_
  refine q_iald (v := 0) hF hU dX12_findLeans_112 45 1272 rfl rfl (q_in (by decide)) e_64 ?_
  refine lv_iconst (v := 2) hF.1 hF.2.1 dX12_findLeans_113 (by decide) ?_
  refine lv_icmp_ge (tgt := 121) hF.1 hF.2.1 dX12_findLeans_114 (by decide) (fun h9 => absurd h9 (by decide)) (fun _ => ?_)
  refine lv_iconst (v := 0) hF.1 hF.2.1 dX12_findLeans_117 (by decide) ?_
  refine lv_goto (tgt := 129) hF.1 hF.2.1 dX12_findLeans_118 (by decide) ?_
  refine q_iast hF hU hS dX12_findLeans_129 44 1271 rfl rfl (q_in (by decide)) (fun f_65 H locs hg hU hS => ?_)
  have hf_65 : upd (f_50) (6 : Int32).toNatClampNeg 0 = f_65 := hg.symm
  have e_66 : f_65 (0 : Int32).toNatClampNeg = 0 := by rw [← hf_65]; exact (pk_un (by decide)).trans e_51
  have e_67 : f_65 (1 : Int32).toNatClampNeg = 0 := by rw [← hf_65]; exact (pk_un (by decide)).trans e_52
  have e_68 : f_65 (2 : Int32).toNatClampNeg = 0 := by rw [← hf_65]; exact (pk_un (by decide)).trans e_53
  have e_69 : f_65 (3 : Int32).toNatClampNeg = 0 := by rw [← hf_65]; exact (pk_un (by decide)).trans e_54
  have e_70 : f_65 (4 : Int32).toNatClampNeg = 0 := by rw [← hf_65]; exact (pk_un (by decide)).trans e_55
  have e_71 : f_65 (5 : Int32).toNatClampNeg = 0 := by rw [← hf_65]; exact (pk_un (by decide)).trans e_56
  have e_72 : f_65 (6 : Int32).toNatClampNeg = 0 := by rw [← hf_65]; exact pk_us
  refine lv_iinc (v := 7) (lv' := [(1, .int 7), (3, .int 0), (2, .int 0), (0, .ref (E.2.2 1299))]) hF.1 hF.2.1 dX12_findLeans_130 hl (k := 2) rfl (by decide) (by decide) rfl (fun ls hl => ?_)
  refine lv_goto (tgt := 6) hF.1 hF.2.1 dX12_findLeans_133 (by decide) ?_
  refine lv_iload_n hF.1 hF.2.1 dX12_findLeans_6 rfl (lv_at hl 0 rfl) ?_
  refine lv_bipush (v := 8) hF.1 hF.2.1 dX12_findLeans_7 (by decide) ?_
  refine lv_icmp_ge (tgt := 136) hF.1 hF.2.1 dX12_findLeans_9 (by decide) (fun h9 => absurd h9 (by decide)) (fun _ => ?_)
  refine lv_iconst (v := 0) hF.1 hF.2.1 dX12_findLeans_12 (by decide) ?_
  refine lv_istore_n (lv' := [(2, .int 0), (1, .int 7), (3, .int 0), (0, .ref (E.2.2 1299))]) hF.1 hF.2.1 dX12_findLeans_13 rfl hl (by decide) rfl (fun ls hl => ?_)
  refine lv_aload_n hF.1 hF.2.1 dX12_findLeans_14 rfl (lv_at hl 3 rfl) ?_
  refine q_get (v := .ref (E.2.2 1272)) hF hU dX12_findLeans_15 0 12 72 1272 1299 rfl rfl rfl rfl inX12 (by decide) (by decide) w_1405 rfl rfl ?_
  refine lv_iload_n hF.1 hF.2.1 dX12_findLeans_18 rfl (lv_at hl 1 rfl) ?_
  refine lv_iconst (v := 0) hF.1 hF.2.1 dX12_findLeans_19 (by decide) ?_
  refine q_iast hF hU hS dX12_findLeans_20 45 1272 rfl rfl (q_in (by decide)) (fun f_73 H locs hg hU hS => ?_)
  have hf_73 : upd (f_57) (7 : Int32).toNatClampNeg 0 = f_73 := hg.symm
  have e_74 : f_73 (0 : Int32).toNatClampNeg = 0 := by rw [← hf_73]; exact (pk_un (by decide)).trans e_58
  have e_75 : f_73 (1 : Int32).toNatClampNeg = 0 := by rw [← hf_73]; exact (pk_un (by decide)).trans e_59
  have e_76 : f_73 (2 : Int32).toNatClampNeg = 0 := by rw [← hf_73]; exact (pk_un (by decide)).trans e_60
  have e_77 : f_73 (3 : Int32).toNatClampNeg = 0 := by rw [← hf_73]; exact (pk_un (by decide)).trans e_61
  have e_78 : f_73 (4 : Int32).toNatClampNeg = 0 := by rw [← hf_73]; exact (pk_un (by decide)).trans e_62
  have e_79 : f_73 (5 : Int32).toNatClampNeg = 0 := by rw [← hf_73]; exact (pk_un (by decide)).trans e_63
  have e_80 : f_73 (6 : Int32).toNatClampNeg = 0 := by rw [← hf_73]; exact (pk_un (by decide)).trans e_64
  have e_81 : f_73 (7 : Int32).toNatClampNeg = 0 := by rw [← hf_73]; exact pk_us
  refine lv_iconst (v := 0) hF.1 hF.2.1 dX12_findLeans_21 (by decide) ?_
  refine lv_istore_n (lv' := [(3, .int 0), (2, .int 0), (1, .int 7), (0, .ref (E.2.2 1299))]) hF.1 hF.2.1 dX12_findLeans_22 rfl hl (by decide) rfl (fun ls hl => ?_)
  refine lv_iload_n hF.1 hF.2.1 dX12_findLeans_23 rfl (lv_at hl 0 rfl) ?_
  refine lv_aload_n hF.1 hF.2.1 dX12_findLeans_24 rfl (lv_at hl 3 rfl) ?_
  refine q_get (v := .int 0) hF hU dX12_findLeans_25 0 12 47 1247 1299 rfl rfl rfl rfl inX12 (by decide) (by decide) w_1380 rfl (congrArg Value.int h_visits) ?_
  refine lv_icmp_ge (tgt := 102) hF.1 hF.2.1 dX12_findLeans_28 (by decide) (fun _ => ?_) (fun h9 => absurd (by decide) h9)
  refine lv_aload_n hF.1 hF.2.1 dX12_findLeans_102 rfl (lv_at hl 3 rfl) ?_
  refine q_get (v := .ref (E.2.2 1271)) hF hU dX12_findLeans_103 0 12 71 1271 1299 rfl rfl rfl rfl inX12 (by decide) (by decide) w_1404 rfl rfl ?_
  refine lv_iload_n hF.1 hF.2.1 dX12_findLeans_106 rfl (lv_at hl 2 rfl) ?_
  refine lv_aload_n hF.1 hF.2.1 dX12_findLeans_107 rfl (lv_at hl 3 rfl) ?_
  refine q_get (v := .ref (E.2.2 1272)) hF hU dX12_findLeans_108 0 12 72 1272 1299 rfl rfl rfl rfl inX12 (by decide) (by decide) w_1405 rfl rfl ?_
  refine lv_iload_n hF.1 hF.2.1 dX12_findLeans_111 rfl (lv_at hl 2 rfl) ?_
  refine q_iald (v := 0) hF hU dX12_findLeans_112 45 1272 rfl rfl (q_in (by decide)) e_81 ?_
  refine lv_iconst (v := 2) hF.1 hF.2.1 dX12_findLeans_113 (by decide) ?_
  refine lv_icmp_ge (tgt := 121) hF.1 hF.2.1 dX12_findLeans_114 (by decide) (fun h9 => absurd h9 (by decide)) (fun _ => ?_)
  refine lv_iconst (v := 0) hF.1 hF.2.1 dX12_findLeans_117 (by decide) ?_
  refine lv_goto (tgt := 129) hF.1 hF.2.1 dX12_findLeans_118 (by decide) ?_
  refine q_iast hF hU hS dX12_findLeans_129 44 1271 rfl rfl (q_in (by decide)) (fun f_82 H locs hg hU hS => ?_)
  have hf_82 : upd (f_65) (7 : Int32).toNatClampNeg 0 = f_82 := hg.symm
  have e_83 : f_82 (0 : Int32).toNatClampNeg = 0 := by rw [← hf_82]; exact (pk_un (by decide)).trans e_66
  have e_84 : f_82 (1 : Int32).toNatClampNeg = 0 := by rw [← hf_82]; exact (pk_un (by decide)).trans e_67
  have e_85 : f_82 (2 : Int32).toNatClampNeg = 0 := by rw [← hf_82]; exact (pk_un (by decide)).trans e_68
  have e_86 : f_82 (3 : Int32).toNatClampNeg = 0 := by rw [← hf_82]; exact (pk_un (by decide)).trans e_69
  have e_87 : f_82 (4 : Int32).toNatClampNeg = 0 := by rw [← hf_82]; exact (pk_un (by decide)).trans e_70
  have e_88 : f_82 (5 : Int32).toNatClampNeg = 0 := by rw [← hf_82]; exact (pk_un (by decide)).trans e_71
  have e_89 : f_82 (6 : Int32).toNatClampNeg = 0 := by rw [← hf_82]; exact (pk_un (by decide)).trans e_72
  have e_90 : f_82 (7 : Int32).toNatClampNeg = 0 := by rw [← hf_82]; exact pk_us
  refine lv_iinc (v := 8) (lv' := [(1, .int 8), (3, .int 0), (2, .int 0), (0, .ref (E.2.2 1299))]) hF.1 hF.2.1 dX12_findLeans_130 hl (k := 2) rfl (by decide) (by decide) rfl (fun ls hl => ?_)
  refine lv_goto (tgt := 6) hF.1 hF.2.1 dX12_findLeans_133 (by decide) ?_
  refine lv_iload_n hF.1 hF.2.1 dX12_findLeans_6 rfl (lv_at hl 0 rfl) ?_
  refine lv_bipush (v := 8) hF.1 hF.2.1 dX12_findLeans_7 (by decide) ?_
  refine lv_icmp_ge (tgt := 136) hF.1 hF.2.1 dX12_findLeans_9 (by decide) (fun _ => ?_) (fun h9 => absurd (by decide) h9)
  exact q_vret hF hr hlocks hU hS dX12_findLeans_136 (rfl)
set_option maxHeartbeats 400000 in
set_option maxRecDepth 100000 in
theorem k_X12_findMeans (l : Launch) (E : qE) (A : Nat → Prop) (u : qS) (x : Int32) (y : Int32) (h_visits : u.1 1247 = 0) (h_shops : u.1 1232 = 0) : Met l yX12_findMeans (uws yX12_findMeans cX12_findMeans 6 none) (qR 5 0 0) (qPc E A 1 u [.ref (E.2.2 1299), .int x, .int y]) (qQv E A 1 (fun u1 => u1.1 = (qsI (qsI u 1260 0) 1270 0).1)) 0 0 A := by
  refine q_met (own := RX12) (f := 5) [.ref (E.2.2 1299), .int x, .int y] (by decide) (Nat.le_of_ble_eq_true rfl) rfl ?_
  intro p0 e0 s0 m0 bl0 me0 cd0 ls hF hr hlocks hU hS hA hl
  have hl : lv_has ls 6 [(0, .ref (E.2.2 1299)), (1, .int x), (2, .int y)] := hl
  refine lv_aload_n hF.1 hF.2.1 dX12_findMeans_0 rfl (lv_at hl 0 rfl) ?_
  have hM9 := (k_X12_findLeans l E A u h_visits)
  have hR9 := q_runV (l := l) (e := e0) (below := bl0) (meth := me0) (R := qR 5 0 0) (cells := 0) (slots := 0) (st0 := [.ref (E.2.2 1299)]) (rest := []) hF hU hS hA 0 0 12 1299 rfl rfl rfl hM9 w_1821 w_1823 w_86 w_107 w_1824 (by decide +kernel) ⟨Nat.le_of_ble_eq_true rfl, Nat.le_of_ble_eq_true rfl⟩ dX12_findMeans_1 rfl hl.1 rfl (Nat.le_of_ble_eq_true rfl) ⟨Nat.le_of_ble_eq_true rfl, Nat.le_of_ble_eq_true rfl⟩
  refine q_callv hR9 hU.2.2.2 hS (fun u_1 H locs hw_2 hU hS => ?_)
  have q_3 : u_1.1 1247 = 0 := (congrFun hw_2 1247).trans h_visits
  have q_4 : u_1.1 1232 = 0 := (congrFun hw_2 1232).trans h_shops
  have q_5 : u_1.1 1260 = 0 := (congrFun hw_2 1260).trans rfl
  have q_6 : u_1.1 1270 = 0 := (congrFun hw_2 1270).trans rfl
  refine lv_iconst (v := 0) hF.1 hF.2.1 dX12_findMeans_4 (by decide) ?_
  refine lv_istore_n (lv' := [(3, .int 0), (0, .ref (E.2.2 1299)), (1, .int x), (2, .int y)]) hF.1 hF.2.1 dX12_findMeans_5 rfl hl (by decide) rfl (fun ls hl => ?_)
  refine lv_iload_n hF.1 hF.2.1 dX12_findMeans_6 rfl (lv_at hl 0 rfl) ?_
  refine lv_aload_n hF.1 hF.2.1 dX12_findMeans_7 rfl (lv_at hl 1 rfl) ?_
  refine q_get (v := .int 0) hF hU dX12_findMeans_8 0 12 32 1232 1299 rfl rfl rfl rfl inX12 (by decide) (by decide) w_1365 rfl (congrArg Value.int q_4) ?_
  refine lv_icmp_ge (tgt := 135) hF.1 hF.2.1 dX12_findMeans_11 (by decide) (fun _ => ?_) (fun h9 => absurd (by decide) h9)
  exact q_vret hF hr hlocks hU hS dX12_findMeans_135 (hw_2.trans rfl)
theorem k_X12_order_r0 (x : Int32) (y : Int32) (z : Int32) (w : Int32) (b8_1 : 0 ≤ x ∧ x ≤ 3) (b16_2 : (0 ≤ y ∧ y ≤ 9999) ∧ (0 ≤ z ∧ z ≤ 9999) ∧ y ≤ z) (b26_3 : 0 ≤ w ∧ w ≤ 1) : ((-1) : Int32) = (-1) := by
  first | rfl | (simp only [Int32.lt_iff_toInt_lt, Int32.le_iff_toInt_le, ← Int32.toInt_inj, Int32.zero_add, Int32.add_zero] at *; omega) | (simp only [Int32.lt_iff_toInt_lt, Int32.le_iff_toInt_le, ← Int32.toInt_inj, Int32.zero_add, Int32.add_zero] at *; done) | (simp only [Int32.lt_iff_toInt_lt, Int32.le_iff_toInt_le, ← Int32.toInt_inj, Int32.zero_add, Int32.add_zero] at *; simp at *; omega) | (simp at *; omega) | (simp_all; done)
theorem k_X12_order_r1 (x : Int32) (y : Int32) (z : Int32) (w : Int32) (b8_1 : 0 ≤ x ∧ x ≤ 3) (b16_2 : (0 ≤ y ∧ y ≤ 9999) ∧ (0 ≤ z ∧ z ≤ 9999) ∧ y ≤ z) (b26_3 : ¬ (0 ≤ w ∧ w ≤ 1)) : ((-1) : Int32) = (-1) := by
  first | rfl | (simp only [Int32.lt_iff_toInt_lt, Int32.le_iff_toInt_le, ← Int32.toInt_inj, Int32.zero_add, Int32.add_zero] at *; omega) | (simp only [Int32.lt_iff_toInt_lt, Int32.le_iff_toInt_le, ← Int32.toInt_inj, Int32.zero_add, Int32.add_zero] at *; done) | (simp only [Int32.lt_iff_toInt_lt, Int32.le_iff_toInt_le, ← Int32.toInt_inj, Int32.zero_add, Int32.add_zero] at *; simp at *; omega) | (simp at *; omega) | (simp_all; done)
theorem k_X12_order_r2 (x : Int32) (y : Int32) (z : Int32) (w : Int32) (b8_1 : 0 ≤ x ∧ x ≤ 3) (b16_2 : ¬ ((0 ≤ y ∧ y ≤ 9999) ∧ (0 ≤ z ∧ z ≤ 9999) ∧ y ≤ z)) : ((-1) : Int32) = (-1) := by
  first | rfl | (simp only [Int32.lt_iff_toInt_lt, Int32.le_iff_toInt_le, ← Int32.toInt_inj, Int32.zero_add, Int32.add_zero] at *; omega) | (simp only [Int32.lt_iff_toInt_lt, Int32.le_iff_toInt_le, ← Int32.toInt_inj, Int32.zero_add, Int32.add_zero] at *; done) | (simp only [Int32.lt_iff_toInt_lt, Int32.le_iff_toInt_le, ← Int32.toInt_inj, Int32.zero_add, Int32.add_zero] at *; simp at *; omega) | (simp at *; omega) | (simp_all; done)
theorem k_X12_order_r3 (x : Int32) (y : Int32) (z : Int32) (w : Int32) (b8_1 : ¬ (0 ≤ x ∧ x ≤ 3)) : ((-1) : Int32) = (-1) := by
  first | rfl | (simp only [Int32.lt_iff_toInt_lt, Int32.le_iff_toInt_le, ← Int32.toInt_inj, Int32.zero_add, Int32.add_zero] at *; omega) | (simp only [Int32.lt_iff_toInt_lt, Int32.le_iff_toInt_le, ← Int32.toInt_inj, Int32.zero_add, Int32.add_zero] at *; done) | (simp only [Int32.lt_iff_toInt_lt, Int32.le_iff_toInt_le, ← Int32.toInt_inj, Int32.zero_add, Int32.add_zero] at *; simp at *; omega) | (simp at *; omega) | (simp_all; done)
set_option maxHeartbeats 400000 in
set_option maxRecDepth 100000 in
theorem k_X12_order (l : Launch) (E : qE) (A : Nat → Prop) (u : qS) (x : Int32) (y : Int32) (z : Int32) (w : Int32) (h_visits : u.1 1247 = 0) (h_shops : u.1 1232 = 0) : Met l yX12_order (uws yX12_order cX12_order 11 (some .int)) (qR 6 0 0) (qPc E A 1 u [.ref (E.2.2 1299), .int x, .int y, .int z, .int w]) (qQi E A 1 (fun r _ => r = (-1))) 0 0 A := by
  refine q_met (own := RX12) (f := 6) [.ref (E.2.2 1299), .int x, .int y, .int z, .int w] (by decide) (Nat.le_of_ble_eq_true rfl) rfl ?_
  intro p0 e0 s0 m0 bl0 me0 cd0 ls hF hr hlocks hU hS hA hl
  have hl : lv_has ls 11 [(0, .ref (E.2.2 1299)), (1, .int x), (2, .int y), (3, .int z), (4, .int w)] := hl
  refine lv_aload_n hF.1 hF.2.1 dX12_order_0 rfl (lv_at hl 0 rfl) ?_
  refine lv_iconst (v := 0) hF.1 hF.2.1 dX12_order_1 (by decide) ?_
  refine q_put hF hU hS dX12_order_2 0 12 0 1200 1299 rfl rfl rfl rfl inX12 tyX12 tyX12_ok nmX12 (by decide) (by decide) rfl w_1333 rfl rfl rfl rfl (fun H locs hU hS => ?_)
  refine lv_iload_n hF.1 hF.2.1 dX12_order_5 rfl (lv_at hl 1 rfl) ?_
  refine lv_iconst (v := 0) hF.1 hF.2.1 dX12_order_6 (by decide) ?_
  refine lv_iconst (v := 3) hF.1 hF.2.1 dX12_order_7 (by decide) ?_
  have hM9 := (k_X12_within l E A 1 (qsI u 1200 0) x 0 3)
  have hR9 := q_runS (l := l) (e := e0) (below := bl0) (meth := me0) (R := qR 6 0 0) (cells := 0) (slots := 0) (st0 := [.int 3, .int 0, .int x]) (rest := []) hF hU hS hA 3 hM9 w_1684 w_1685 w_107 w_1686 (by decide +kernel) ⟨Nat.le_of_ble_eq_true rfl, Nat.le_of_ble_eq_true rfl⟩ dX12_order_8 rfl hl.1 rfl (Nat.le_of_ble_eq_true rfl) ⟨Nat.le_of_ble_eq_true rfl, Nat.le_of_ble_eq_true rfl⟩
  refine q_calli hR9 hU.2.2.2 hS (fun r u1 H locs hw hU hS => ?_)
  obtain ⟨hu1, hw⟩ := hw
  rw [hu1] at hU
  rcases hw with ⟨rfl, b8_1⟩ | ⟨rfl, b8_1⟩
  · refine lv_if_eq (tgt := 32) hF.1 hF.2.1 dX12_order_11 (by decide) (fun h9 => absurd h9 (by decide)) (fun _ => ?_)
    refine lv_iload_n hF.1 hF.2.1 dX12_order_14 rfl (lv_at hl 2 rfl) ?_
    refine lv_iload_n hF.1 hF.2.1 dX12_order_15 rfl (lv_at hl 3 rfl) ?_
    have hM9 := (k_X12_areDays l E A 1 (qsI u 1200 0) y z)
    have hR9 := q_runS (l := l) (e := e0) (below := bl0) (meth := me0) (R := qR 6 0 0) (cells := 0) (slots := 0) (st0 := [.int z, .int y]) (rest := []) hF hU hS hA 2 hM9 w_1849 w_1850 w_107 w_1851 (by decide +kernel) ⟨Nat.le_of_ble_eq_true rfl, Nat.le_of_ble_eq_true rfl⟩ dX12_order_16 rfl hl.1 rfl (Nat.le_of_ble_eq_true rfl) ⟨Nat.le_of_ble_eq_true rfl, Nat.le_of_ble_eq_true rfl⟩
    refine q_calli hR9 hU.2.2.2 hS (fun r u1 H locs hw hU hS => ?_)
    obtain ⟨hu1, hw⟩ := hw
    rw [hu1] at hU
    rcases hw with ⟨rfl, b16_2⟩ | ⟨rfl, b16_2⟩
    · refine lv_if_eq (tgt := 32) hF.1 hF.2.1 dX12_order_19 (by decide) (fun h9 => absurd h9 (by decide)) (fun _ => ?_)
      refine lv_iload hF.1 hF.2.1 dX12_order_22 (lv_at hl 4 rfl) ?_
      refine lv_iconst (v := 0) hF.1 hF.2.1 dX12_order_24 (by decide) ?_
      refine lv_iconst (v := 1) hF.1 hF.2.1 dX12_order_25 (by decide) ?_
      have hM9 := (k_X12_within l E A 1 (qsI u 1200 0) w 0 1)
      have hR9 := q_runS (l := l) (e := e0) (below := bl0) (meth := me0) (R := qR 6 0 0) (cells := 0) (slots := 0) (st0 := [.int 1, .int 0, .int w]) (rest := []) hF hU hS hA 3 hM9 w_1684 w_1685 w_107 w_1686 (by decide +kernel) ⟨Nat.le_of_ble_eq_true rfl, Nat.le_of_ble_eq_true rfl⟩ dX12_order_26 rfl hl.1 rfl (Nat.le_of_ble_eq_true rfl) ⟨Nat.le_of_ble_eq_true rfl, Nat.le_of_ble_eq_true rfl⟩
      refine q_calli hR9 hU.2.2.2 hS (fun r u1 H locs hw hU hS => ?_)
      obtain ⟨hu1, hw⟩ := hw
      rw [hu1] at hU
      rcases hw with ⟨rfl, b26_3⟩ | ⟨rfl, b26_3⟩
      · refine lv_if_ne (tgt := 34) hF.1 hF.2.1 dX12_order_29 (by decide) (fun _ => ?_) (fun h9 => absurd h9 (by decide))
        refine lv_aload_n hF.1 hF.2.1 dX12_order_34 rfl (lv_at hl 0 rfl) ?_
        refine lv_iload_n hF.1 hF.2.1 dX12_order_35 rfl (lv_at hl 2 rfl) ?_
        refine lv_iload_n hF.1 hF.2.1 dX12_order_36 rfl (lv_at hl 3 rfl) ?_
        have hM9 := (k_X12_findMeans l E A (qsI u 1200 0) y z h_visits h_shops)
        have hR9 := q_runV (l := l) (e := e0) (below := bl0) (meth := me0) (R := qR 6 0 0) (cells := 0) (slots := 0) (st0 := [.int z, .int y, .ref (E.2.2 1299)]) (rest := []) hF hU hS hA 2 0 12 1299 rfl rfl rfl hM9 w_1852 w_1854 w_90 w_107 w_1855 (by decide +kernel) ⟨Nat.le_of_ble_eq_true rfl, Nat.le_of_ble_eq_true rfl⟩ dX12_order_37 rfl hl.1 rfl (Nat.le_of_ble_eq_true rfl) ⟨Nat.le_of_ble_eq_true rfl, Nat.le_of_ble_eq_true rfl⟩
        refine q_callv hR9 hU.2.2.2 hS (fun u_4 H locs hw_5 hU hS => ?_)
        have q_6 : u_4.1 1247 = 0 := (congrFun hw_5 1247).trans h_visits
        have q_7 : u_4.1 1232 = 0 := (congrFun hw_5 1232).trans h_shops
        have q_8 : u_4.1 1200 = 0 := (congrFun hw_5 1200).trans rfl
        have q_9 : u_4.1 1260 = 0 := (congrFun hw_5 1260).trans rfl
        have q_10 : u_4.1 1270 = 0 := (congrFun hw_5 1270).trans rfl
        refine lv_iconst (v := 0) hF.1 hF.2.1 dX12_order_40 (by decide) ?_
        refine lv_istore (lv' := [(5, .int 0), (0, .ref (E.2.2 1299)), (1, .int x), (2, .int y), (3, .int z), (4, .int w)]) hF.1 hF.2.1 dX12_order_41 hl (by decide) rfl (fun ls hl => ?_)
        refine lv_iconst (v := 0) hF.1 hF.2.1 dX12_order_43 (by decide) ?_
        refine lv_istore (lv' := [(6, .int 0), (5, .int 0), (0, .ref (E.2.2 1299)), (1, .int x), (2, .int y), (3, .int z), (4, .int w)]) hF.1 hF.2.1 dX12_order_44 hl (by decide) rfl (fun ls hl => ?_)
        refine lv_iconst (v := 0) hF.1 hF.2.1 dX12_order_46 (by decide) ?_
        refine lv_istore (lv' := [(7, .int 0), (6, .int 0), (5, .int 0), (0, .ref (E.2.2 1299)), (1, .int x), (2, .int y), (3, .int z), (4, .int w)]) hF.1 hF.2.1 dX12_order_47 hl (by decide) rfl (fun ls hl => ?_)
        refine lv_iload hF.1 hF.2.1 dX12_order_49 (lv_at hl 0 rfl) ?_
        refine lv_aload_n hF.1 hF.2.1 dX12_order_51 rfl (lv_at hl 3 rfl) ?_
        refine q_get (v := .int 0) hF hU dX12_order_52 0 12 32 1232 1299 rfl rfl rfl rfl inX12 (by decide) (by decide) w_1365 rfl (congrArg Value.int q_7) ?_
        refine lv_icmp_ge (tgt := 97) hF.1 hF.2.1 dX12_order_55 (by decide) (fun _ => ?_) (fun h9 => absurd (by decide) h9)
        refine lv_iconst (v := 1) hF.1 hF.2.1 dX12_order_97 (by decide) ?_
        refine lv_istore (lv' := [(7, .int 1), (6, .int 0), (5, .int 0), (0, .ref (E.2.2 1299)), (1, .int x), (2, .int y), (3, .int z), (4, .int w)]) hF.1 hF.2.1 dX12_order_98 hl (by decide) rfl (fun ls hl => ?_)
        refine lv_iload hF.1 hF.2.1 dX12_order_100 (lv_at hl 0 rfl) ?_
        refine lv_if_eq (tgt := 214) hF.1 hF.2.1 dX12_order_102 (by decide) (fun h9 => absurd h9 (by decide)) (fun _ => ?_)
        refine lv_iconst (v := 0) hF.1 hF.2.1 dX12_order_105 (by decide) ?_
        refine lv_istore (lv' := [(7, .int 0), (6, .int 0), (5, .int 0), (0, .ref (E.2.2 1299)), (1, .int x), (2, .int y), (3, .int z), (4, .int w)]) hF.1 hF.2.1 dX12_order_106 hl (by decide) rfl (fun ls hl => ?_)
        refine lv_iconst (v := 0) hF.1 hF.2.1 dX12_order_108 (by decide) ?_
        refine lv_istore (lv' := [(8, .int 0), (7, .int 0), (6, .int 0), (5, .int 0), (0, .ref (E.2.2 1299)), (1, .int x), (2, .int y), (3, .int z), (4, .int w)]) hF.1 hF.2.1 dX12_order_109 hl (by decide) rfl (fun ls hl => ?_)
        refine lv_iload hF.1 hF.2.1 dX12_order_111 (lv_at hl 0 rfl) ?_
        refine lv_aload_n hF.1 hF.2.1 dX12_order_113 rfl (lv_at hl 4 rfl) ?_
        refine q_get (v := .int 0) hF hU dX12_order_114 0 12 32 1232 1299 rfl rfl rfl rfl inX12 (by decide) (by decide) w_1365 rfl (congrArg Value.int q_7) ?_
        refine lv_icmp_ge (tgt := 211) hF.1 hF.2.1 dX12_order_117 (by decide) (fun _ => ?_) (fun h9 => absurd (by decide) h9)
        refine lv_goto (tgt := 100) hF.1 hF.2.1 dX12_order_211 (by decide) ?_
        refine lv_iload hF.1 hF.2.1 dX12_order_100 (lv_at hl 1 rfl) ?_
        refine lv_if_eq (tgt := 214) hF.1 hF.2.1 dX12_order_102 (by decide) (fun _ => ?_) (fun h9 => absurd (by decide) h9)
        refine lv_iconst (v := 0) hF.1 hF.2.1 dX12_order_214 (by decide) ?_
        refine lv_istore (lv' := [(8, .int 0), (7, .int 0), (6, .int 0), (5, .int 0), (0, .ref (E.2.2 1299)), (1, .int x), (2, .int y), (3, .int z), (4, .int w)]) hF.1 hF.2.1 dX12_order_215 hl (by decide) rfl (fun ls hl => ?_)
        refine lv_iload hF.1 hF.2.1 dX12_order_217 (lv_at hl 0 rfl) ?_
        refine lv_aload_n hF.1 hF.2.1 dX12_order_219 rfl (lv_at hl 4 rfl) ?_
        refine q_get (v := .int 0) hF hU dX12_order_220 0 12 32 1232 1299 rfl rfl rfl rfl inX12 (by decide) (by decide) w_1365 rfl (congrArg Value.int q_7) ?_
        refine lv_icmp_ge (tgt := 344) hF.1 hF.2.1 dX12_order_223 (by decide) (fun _ => ?_) (fun h9 => absurd (by decide) h9)
        refine lv_iload hF.1 hF.2.1 dX12_order_344 (lv_at hl 3 rfl) ?_
        refine lv_if_ne (tgt := 353) hF.1 hF.2.1 dX12_order_346 (by decide) (fun h9 => absurd (by decide) h9) (fun _ => ?_)
        refine lv_iconst (v := (-1)) hF.1 hF.2.1 dX12_order_349 (by decide) ?_
        refine lv_goto (tgt := 365) hF.1 hF.2.1 dX12_order_350 (by decide) ?_
        exact q_iret hF hr rfl hlocks hU hS dX12_order_365 (k_X12_order_r0 x y z w b8_1 b16_2 b26_3)
      · refine lv_if_ne (tgt := 34) hF.1 hF.2.1 dX12_order_29 (by decide) (fun h9 => absurd (by decide) h9) (fun _ => ?_)
        refine lv_iconst (v := (-1)) hF.1 hF.2.1 dX12_order_32 (by decide) ?_
        exact q_iret hF hr rfl hlocks hU hS dX12_order_33 (k_X12_order_r1 x y z w b8_1 b16_2 b26_3)
    · refine lv_if_eq (tgt := 32) hF.1 hF.2.1 dX12_order_19 (by decide) (fun _ => ?_) (fun h9 => absurd (by decide) h9)
      refine lv_iconst (v := (-1)) hF.1 hF.2.1 dX12_order_32 (by decide) ?_
      exact q_iret hF hr rfl hlocks hU hS dX12_order_33 (k_X12_order_r2 x y z w b8_1 b16_2)
  · refine lv_if_eq (tgt := 32) hF.1 hF.2.1 dX12_order_11 (by decide) (fun _ => ?_) (fun h9 => absurd (by decide) h9)
    refine lv_iconst (v := (-1)) hF.1 hF.2.1 dX12_order_32 (by decide) ?_
    exact q_iret hF hr rfl hlocks hU hS dX12_order_33 (k_X12_order_r3 x y z w b8_1)
theorem k_X12_sum_r0 (x : Int32) (y : Int32) (z : Int32) (w : Int32) (b8_1 : 0 ≤ x ∧ x ≤ 1) (b17_2 : (0 ≤ z ∧ z ≤ 9999) ∧ (0 ≤ w ∧ w ≤ 9999) ∧ z ≤ w) (c24_3 : ¬ (x : Int32) = 0) : ((x = 0 ∧ (0 ≤ y ∧ y ≤ 3) ∧ (0 ≤ z ∧ z ≤ 9999) ∧ (0 ≤ w ∧ w ≤ 9999) ∧ z ≤ w) ∧ ((-1) : Int32) = 0) ∨ (¬ (x = 0 ∧ (0 ≤ y ∧ y ≤ 3) ∧ (0 ≤ z ∧ z ≤ 9999) ∧ (0 ≤ w ∧ w ≤ 9999) ∧ z ≤ w) ∧ ((-1) : Int32) = (-1)) := by
  first | rfl | (simp only [Int32.lt_iff_toInt_lt, Int32.le_iff_toInt_le, ← Int32.toInt_inj, Int32.zero_add, Int32.add_zero] at *; omega) | (simp only [Int32.lt_iff_toInt_lt, Int32.le_iff_toInt_le, ← Int32.toInt_inj, Int32.zero_add, Int32.add_zero] at *; done) | (simp only [Int32.lt_iff_toInt_lt, Int32.le_iff_toInt_le, ← Int32.toInt_inj, Int32.zero_add, Int32.add_zero] at *; simp at *; omega) | (simp at *; omega) | (simp_all; done)
theorem k_X12_sum_r1 (x : Int32) (y : Int32) (z : Int32) (w : Int32) (b8_1 : 0 ≤ x ∧ x ≤ 1) (b17_2 : (0 ≤ z ∧ z ≤ 9999) ∧ (0 ≤ w ∧ w ≤ 9999) ∧ z ≤ w) (c24_3 : (x : Int32) = 0) (b30_4 : 0 ≤ y ∧ y ≤ 3) : ((x = 0 ∧ (0 ≤ y ∧ y ≤ 3) ∧ (0 ≤ z ∧ z ≤ 9999) ∧ (0 ≤ w ∧ w ≤ 9999) ∧ z ≤ w) ∧ (0 : Int32) = 0) ∨ (¬ (x = 0 ∧ (0 ≤ y ∧ y ≤ 3) ∧ (0 ≤ z ∧ z ≤ 9999) ∧ (0 ≤ w ∧ w ≤ 9999) ∧ z ≤ w) ∧ (0 : Int32) = (-1)) := by
  first | rfl | (simp only [Int32.lt_iff_toInt_lt, Int32.le_iff_toInt_le, ← Int32.toInt_inj, Int32.zero_add, Int32.add_zero] at *; omega) | (simp only [Int32.lt_iff_toInt_lt, Int32.le_iff_toInt_le, ← Int32.toInt_inj, Int32.zero_add, Int32.add_zero] at *; done) | (simp only [Int32.lt_iff_toInt_lt, Int32.le_iff_toInt_le, ← Int32.toInt_inj, Int32.zero_add, Int32.add_zero] at *; simp at *; omega) | (simp at *; omega) | (simp_all; done)
theorem k_X12_sum_r2 (x : Int32) (y : Int32) (z : Int32) (w : Int32) (b8_1 : 0 ≤ x ∧ x ≤ 1) (b17_2 : (0 ≤ z ∧ z ≤ 9999) ∧ (0 ≤ w ∧ w ≤ 9999) ∧ z ≤ w) (c24_3 : (x : Int32) = 0) (b30_4 : ¬ (0 ≤ y ∧ y ≤ 3)) : ((x = 0 ∧ (0 ≤ y ∧ y ≤ 3) ∧ (0 ≤ z ∧ z ≤ 9999) ∧ (0 ≤ w ∧ w ≤ 9999) ∧ z ≤ w) ∧ ((-1) : Int32) = 0) ∨ (¬ (x = 0 ∧ (0 ≤ y ∧ y ≤ 3) ∧ (0 ≤ z ∧ z ≤ 9999) ∧ (0 ≤ w ∧ w ≤ 9999) ∧ z ≤ w) ∧ ((-1) : Int32) = (-1)) := by
  first | rfl | (simp only [Int32.lt_iff_toInt_lt, Int32.le_iff_toInt_le, ← Int32.toInt_inj, Int32.zero_add, Int32.add_zero] at *; omega) | (simp only [Int32.lt_iff_toInt_lt, Int32.le_iff_toInt_le, ← Int32.toInt_inj, Int32.zero_add, Int32.add_zero] at *; done) | (simp only [Int32.lt_iff_toInt_lt, Int32.le_iff_toInt_le, ← Int32.toInt_inj, Int32.zero_add, Int32.add_zero] at *; simp at *; omega) | (simp at *; omega) | (simp_all; done)
theorem k_X12_sum_r3 (x : Int32) (y : Int32) (z : Int32) (w : Int32) (b8_1 : 0 ≤ x ∧ x ≤ 1) (b17_2 : ¬ ((0 ≤ z ∧ z ≤ 9999) ∧ (0 ≤ w ∧ w ≤ 9999) ∧ z ≤ w)) : ((x = 0 ∧ (0 ≤ y ∧ y ≤ 3) ∧ (0 ≤ z ∧ z ≤ 9999) ∧ (0 ≤ w ∧ w ≤ 9999) ∧ z ≤ w) ∧ ((-1) : Int32) = 0) ∨ (¬ (x = 0 ∧ (0 ≤ y ∧ y ≤ 3) ∧ (0 ≤ z ∧ z ≤ 9999) ∧ (0 ≤ w ∧ w ≤ 9999) ∧ z ≤ w) ∧ ((-1) : Int32) = (-1)) := by
  first | rfl | (simp only [Int32.lt_iff_toInt_lt, Int32.le_iff_toInt_le, ← Int32.toInt_inj, Int32.zero_add, Int32.add_zero] at *; omega) | (simp only [Int32.lt_iff_toInt_lt, Int32.le_iff_toInt_le, ← Int32.toInt_inj, Int32.zero_add, Int32.add_zero] at *; done) | (simp only [Int32.lt_iff_toInt_lt, Int32.le_iff_toInt_le, ← Int32.toInt_inj, Int32.zero_add, Int32.add_zero] at *; simp at *; omega) | (simp at *; omega) | (simp_all; done)
theorem k_X12_sum_r4 (x : Int32) (y : Int32) (z : Int32) (w : Int32) (b8_1 : ¬ (0 ≤ x ∧ x ≤ 1)) : ((x = 0 ∧ (0 ≤ y ∧ y ≤ 3) ∧ (0 ≤ z ∧ z ≤ 9999) ∧ (0 ≤ w ∧ w ≤ 9999) ∧ z ≤ w) ∧ ((-1) : Int32) = 0) ∨ (¬ (x = 0 ∧ (0 ≤ y ∧ y ≤ 3) ∧ (0 ≤ z ∧ z ≤ 9999) ∧ (0 ≤ w ∧ w ≤ 9999) ∧ z ≤ w) ∧ ((-1) : Int32) = (-1)) := by
  first | rfl | (simp only [Int32.lt_iff_toInt_lt, Int32.le_iff_toInt_le, ← Int32.toInt_inj, Int32.zero_add, Int32.add_zero] at *; omega) | (simp only [Int32.lt_iff_toInt_lt, Int32.le_iff_toInt_le, ← Int32.toInt_inj, Int32.zero_add, Int32.add_zero] at *; done) | (simp only [Int32.lt_iff_toInt_lt, Int32.le_iff_toInt_le, ← Int32.toInt_inj, Int32.zero_add, Int32.add_zero] at *; simp at *; omega) | (simp at *; omega) | (simp_all; done)
set_option maxHeartbeats 400000 in
set_option maxRecDepth 100000 in
theorem k_X12_sum (l : Launch) (E : qE) (A : Nat → Prop) (u : qS) (x : Int32) (y : Int32) (z : Int32) (w : Int32) (h_visits : u.1 1247 = 0) (h_buyers : u.1 1239 = 0) : Met l yX12_sum (uws yX12_sum cX12_sum 7 (some .int)) (qR 6 0 0) (qPc E A 1 u [.ref (E.2.2 1299), .int x, .int y, .int z, .int w]) (qQi E A 1 (fun r _ => ((x = 0 ∧ (0 ≤ y ∧ y ≤ 3) ∧ (0 ≤ z ∧ z ≤ 9999) ∧ (0 ≤ w ∧ w ≤ 9999) ∧ z ≤ w) ∧ r = 0) ∨ (¬ (x = 0 ∧ (0 ≤ y ∧ y ≤ 3) ∧ (0 ≤ z ∧ z ≤ 9999) ∧ (0 ≤ w ∧ w ≤ 9999) ∧ z ≤ w) ∧ r = (-1)))) 0 0 A := by
  refine q_met (own := RX12) (f := 6) [.ref (E.2.2 1299), .int x, .int y, .int z, .int w] (by decide) (Nat.le_of_ble_eq_true rfl) rfl ?_
  intro p0 e0 s0 m0 bl0 me0 cd0 ls hF hr hlocks hU hS hA hl
  have hl : lv_has ls 7 [(0, .ref (E.2.2 1299)), (1, .int x), (2, .int y), (3, .int z), (4, .int w)] := hl
  refine lv_aload_n hF.1 hF.2.1 dX12_sum_0 rfl (lv_at hl 0 rfl) ?_
  refine lv_iconst (v := 0) hF.1 hF.2.1 dX12_sum_1 (by decide) ?_
  refine q_put hF hU hS dX12_sum_2 0 12 0 1200 1299 rfl rfl rfl rfl inX12 tyX12 tyX12_ok nmX12 (by decide) (by decide) rfl w_1333 rfl rfl rfl rfl (fun H locs hU hS => ?_)
  refine lv_iload_n hF.1 hF.2.1 dX12_sum_5 rfl (lv_at hl 1 rfl) ?_
  refine lv_iconst (v := 0) hF.1 hF.2.1 dX12_sum_6 (by decide) ?_
  refine lv_iconst (v := 1) hF.1 hF.2.1 dX12_sum_7 (by decide) ?_
  have hM9 := (k_X12_within l E A 1 (qsI u 1200 0) x 0 1)
  have hR9 := q_runS (l := l) (e := e0) (below := bl0) (meth := me0) (R := qR 6 0 0) (cells := 0) (slots := 0) (st0 := [.int 1, .int 0, .int x]) (rest := []) hF hU hS hA 3 hM9 w_1684 w_1685 w_107 w_1686 (by decide +kernel) ⟨Nat.le_of_ble_eq_true rfl, Nat.le_of_ble_eq_true rfl⟩ dX12_sum_8 rfl hl.1 rfl (Nat.le_of_ble_eq_true rfl) ⟨Nat.le_of_ble_eq_true rfl, Nat.le_of_ble_eq_true rfl⟩
  refine q_calli hR9 hU.2.2.2 hS (fun r u1 H locs hw hU hS => ?_)
  obtain ⟨hu1, hw⟩ := hw
  rw [hu1] at hU
  rcases hw with ⟨rfl, b8_1⟩ | ⟨rfl, b8_1⟩
  · refine lv_if_eq (tgt := 47) hF.1 hF.2.1 dX12_sum_11 (by decide) (fun h9 => absurd h9 (by decide)) (fun _ => ?_)
    refine lv_iload_n hF.1 hF.2.1 dX12_sum_14 rfl (lv_at hl 3 rfl) ?_
    refine lv_iload hF.1 hF.2.1 dX12_sum_15 (lv_at hl 4 rfl) ?_
    have hM9 := (k_X12_areDays l E A 1 (qsI u 1200 0) z w)
    have hR9 := q_runS (l := l) (e := e0) (below := bl0) (meth := me0) (R := qR 6 0 0) (cells := 0) (slots := 0) (st0 := [.int w, .int z]) (rest := []) hF hU hS hA 2 hM9 w_1849 w_1850 w_107 w_1851 (by decide +kernel) ⟨Nat.le_of_ble_eq_true rfl, Nat.le_of_ble_eq_true rfl⟩ dX12_sum_17 rfl hl.1 rfl (Nat.le_of_ble_eq_true rfl) ⟨Nat.le_of_ble_eq_true rfl, Nat.le_of_ble_eq_true rfl⟩
    refine q_calli hR9 hU.2.2.2 hS (fun r u1 H locs hw hU hS => ?_)
    obtain ⟨hu1, hw⟩ := hw
    rw [hu1] at hU
    rcases hw with ⟨rfl, b17_2⟩ | ⟨rfl, b17_2⟩
    · refine lv_if_eq (tgt := 47) hF.1 hF.2.1 dX12_sum_20 (by decide) (fun h9 => absurd h9 (by decide)) (fun _ => ?_)
      refine lv_iload_n hF.1 hF.2.1 dX12_sum_23 rfl (lv_at hl 1 rfl) ?_
      refine lv_if_ne (tgt := 39) hF.1 hF.2.1 dX12_sum_24 (by decide) (fun c24_3 => ?_) (fun c24_3 => ?_)
      · refine lv_aload_n hF.1 hF.2.1 dX12_sum_39 rfl (lv_at hl 0 rfl) ?_
        refine lv_iload_n hF.1 hF.2.1 dX12_sum_40 rfl (lv_at hl 2 rfl) ?_
        have hM9 := (k_X12_isBuyer l E A (qsI u 1200 0) y h_buyers)
        have hR9 := q_runV (l := l) (e := e0) (below := bl0) (meth := me0) (R := qR 6 0 0) (cells := 0) (slots := 0) (st0 := [.int y, .ref (E.2.2 1299)]) (rest := []) hF hU hS hA 1 0 12 1299 rfl rfl rfl hM9 w_1718 w_1720 w_69 w_107 w_1721 (by decide +kernel) ⟨Nat.le_of_ble_eq_true rfl, Nat.le_of_ble_eq_true rfl⟩ dX12_sum_41 rfl hl.1 rfl (Nat.le_of_ble_eq_true rfl) ⟨Nat.le_of_ble_eq_true rfl, Nat.le_of_ble_eq_true rfl⟩
        refine q_calli hR9 hU.2.2.2 hS (fun r u1 H locs hw hU hS => ?_)
        rw [hw.1] at hU
        refine q_topi hw.2 ?_
        refine lv_if_ne (tgt := 49) hF.1 hF.2.1 dX12_sum_44 (by decide) (fun h9 => absurd (by decide) h9) (fun _ => ?_)
        refine lv_iconst (v := (-1)) hF.1 hF.2.1 dX12_sum_47 (by decide) ?_
        exact q_iret hF hr rfl hlocks hU hS dX12_sum_48 (k_X12_sum_r0 x y z w b8_1 b17_2 c24_3)
      · refine lv_iload_n hF.1 hF.2.1 dX12_sum_27 rfl (lv_at hl 2 rfl) ?_
        refine lv_iconst (v := 0) hF.1 hF.2.1 dX12_sum_28 (by decide) ?_
        refine lv_iconst (v := 3) hF.1 hF.2.1 dX12_sum_29 (by decide) ?_
        have hM9 := (k_X12_within l E A 1 (qsI u 1200 0) y 0 3)
        have hR9 := q_runS (l := l) (e := e0) (below := bl0) (meth := me0) (R := qR 6 0 0) (cells := 0) (slots := 0) (st0 := [.int 3, .int 0, .int y]) (rest := []) hF hU hS hA 3 hM9 w_1684 w_1685 w_107 w_1686 (by decide +kernel) ⟨Nat.le_of_ble_eq_true rfl, Nat.le_of_ble_eq_true rfl⟩ dX12_sum_30 rfl hl.1 rfl (Nat.le_of_ble_eq_true rfl) ⟨Nat.le_of_ble_eq_true rfl, Nat.le_of_ble_eq_true rfl⟩
        refine q_calli hR9 hU.2.2.2 hS (fun r u1 H locs hw hU hS => ?_)
        obtain ⟨hu1, hw⟩ := hw
        rw [hu1] at hU
        rcases hw with ⟨rfl, b30_4⟩ | ⟨rfl, b30_4⟩
        · refine lv_if_ne (tgt := 49) hF.1 hF.2.1 dX12_sum_33 (by decide) (fun _ => ?_) (fun h9 => absurd h9 (by decide))
          refine lv_aload_n hF.1 hF.2.1 dX12_sum_49 rfl (lv_at hl 0 rfl) ?_
          have hM9 := (k_X12_findAll l E A (qsI u 1200 0) h_visits)
          have hR9 := q_runV (l := l) (e := e0) (below := bl0) (meth := me0) (R := qR 6 0 0) (cells := 0) (slots := 0) (st0 := [.ref (E.2.2 1299)]) (rest := []) hF hU hS hA 0 0 12 1299 rfl rfl rfl hM9 w_1742 w_1744 w_73 w_107 w_1745 (by decide +kernel) ⟨Nat.le_of_ble_eq_true rfl, Nat.le_of_ble_eq_true rfl⟩ dX12_sum_50 rfl hl.1 rfl (Nat.le_of_ble_eq_true rfl) ⟨Nat.le_of_ble_eq_true rfl, Nat.le_of_ble_eq_true rfl⟩
          refine q_callv hR9 hU.2.2.2 hS (fun u_5 H locs hw_6 hU hS => ?_)
          rw [hw_6] at hU
          refine lv_iconst (v := 0) hF.1 hF.2.1 dX12_sum_53 (by decide) ?_
          refine lv_istore (lv' := [(5, .int 0), (0, .ref (E.2.2 1299)), (1, .int x), (2, .int y), (3, .int z), (4, .int w)]) hF.1 hF.2.1 dX12_sum_54 hl (by decide) rfl (fun ls hl => ?_)
          refine lv_iconst (v := 0) hF.1 hF.2.1 dX12_sum_56 (by decide) ?_
          refine lv_istore (lv' := [(6, .int 0), (5, .int 0), (0, .ref (E.2.2 1299)), (1, .int x), (2, .int y), (3, .int z), (4, .int w)]) hF.1 hF.2.1 dX12_sum_57 hl (by decide) rfl (fun ls hl => ?_)
          refine lv_iload hF.1 hF.2.1 dX12_sum_59 (lv_at hl 0 rfl) ?_
          refine lv_aload_n hF.1 hF.2.1 dX12_sum_61 rfl (lv_at hl 2 rfl) ?_
          refine q_get (v := .int 0) hF hU dX12_sum_62 0 12 47 1247 1299 rfl rfl rfl rfl inX12 (by decide) (by decide) w_1380 rfl (congrArg Value.int h_visits) ?_
          refine lv_icmp_ge (tgt := 184) hF.1 hF.2.1 dX12_sum_65 (by decide) (fun _ => ?_) (fun h9 => absurd (by decide) h9)
          refine lv_iload hF.1 hF.2.1 dX12_sum_184 (lv_at hl 1 rfl) ?_
          exact q_iret hF hr rfl hlocks hU hS dX12_sum_186 (k_X12_sum_r1 x y z w b8_1 b17_2 c24_3 b30_4)
        · refine lv_if_ne (tgt := 49) hF.1 hF.2.1 dX12_sum_33 (by decide) (fun h9 => absurd (by decide) h9) (fun _ => ?_)
          refine lv_goto (tgt := 47) hF.1 hF.2.1 dX12_sum_36 (by decide) ?_
          refine lv_iconst (v := (-1)) hF.1 hF.2.1 dX12_sum_47 (by decide) ?_
          exact q_iret hF hr rfl hlocks hU hS dX12_sum_48 (k_X12_sum_r2 x y z w b8_1 b17_2 c24_3 b30_4)
    · refine lv_if_eq (tgt := 47) hF.1 hF.2.1 dX12_sum_20 (by decide) (fun _ => ?_) (fun h9 => absurd (by decide) h9)
      refine lv_iconst (v := (-1)) hF.1 hF.2.1 dX12_sum_47 (by decide) ?_
      exact q_iret hF hr rfl hlocks hU hS dX12_sum_48 (k_X12_sum_r3 x y z w b8_1 b17_2)
  · refine lv_if_eq (tgt := 47) hF.1 hF.2.1 dX12_sum_11 (by decide) (fun _ => ?_) (fun h9 => absurd (by decide) h9)
    refine lv_iconst (v := (-1)) hF.1 hF.2.1 dX12_sum_47 (by decide) ?_
    exact q_iret hF hr rfl hlocks hU hS dX12_sum_48 (k_X12_sum_r4 x y z w b8_1)
theorem k_X12_count_r0 (x : Int32) (sw_3 : (x : Int32) = 0) : ((0 ≤ x ∧ x ≤ 11) ∧ (0 : Int32) = 0) ∨ (¬ (0 ≤ x ∧ x ≤ 11) ∧ (0 : Int32) = (-1)) := by
  first | rfl | (simp only [Int32.lt_iff_toInt_lt, Int32.le_iff_toInt_le, ← Int32.toInt_inj, Int32.zero_add, Int32.add_zero] at *; omega) | (simp only [Int32.lt_iff_toInt_lt, Int32.le_iff_toInt_le, ← Int32.toInt_inj, Int32.zero_add, Int32.add_zero] at *; done) | (simp only [Int32.lt_iff_toInt_lt, Int32.le_iff_toInt_le, ← Int32.toInt_inj, Int32.zero_add, Int32.add_zero] at *; simp at *; omega) | (simp at *; omega) | (simp_all; done)
theorem k_X12_count_r1 (x : Int32) (sw_3 : (x : Int32) = 1) : ((0 ≤ x ∧ x ≤ 11) ∧ (0 : Int32) = 0) ∨ (¬ (0 ≤ x ∧ x ≤ 11) ∧ (0 : Int32) = (-1)) := by
  first | rfl | (simp only [Int32.lt_iff_toInt_lt, Int32.le_iff_toInt_le, ← Int32.toInt_inj, Int32.zero_add, Int32.add_zero] at *; omega) | (simp only [Int32.lt_iff_toInt_lt, Int32.le_iff_toInt_le, ← Int32.toInt_inj, Int32.zero_add, Int32.add_zero] at *; done) | (simp only [Int32.lt_iff_toInt_lt, Int32.le_iff_toInt_le, ← Int32.toInt_inj, Int32.zero_add, Int32.add_zero] at *; simp at *; omega) | (simp at *; omega) | (simp_all; done)
theorem k_X12_count_r2 (x : Int32) (sw_3 : (x : Int32) = 2) : ((0 ≤ x ∧ x ≤ 11) ∧ (0 : Int32) = 0) ∨ (¬ (0 ≤ x ∧ x ≤ 11) ∧ (0 : Int32) = (-1)) := by
  first | rfl | (simp only [Int32.lt_iff_toInt_lt, Int32.le_iff_toInt_le, ← Int32.toInt_inj, Int32.zero_add, Int32.add_zero] at *; omega) | (simp only [Int32.lt_iff_toInt_lt, Int32.le_iff_toInt_le, ← Int32.toInt_inj, Int32.zero_add, Int32.add_zero] at *; done) | (simp only [Int32.lt_iff_toInt_lt, Int32.le_iff_toInt_le, ← Int32.toInt_inj, Int32.zero_add, Int32.add_zero] at *; simp at *; omega) | (simp at *; omega) | (simp_all; done)
theorem k_X12_count_r3 (x : Int32) (sw_3 : (x : Int32) = 3) : ((0 ≤ x ∧ x ≤ 11) ∧ (0 : Int32) = 0) ∨ (¬ (0 ≤ x ∧ x ≤ 11) ∧ (0 : Int32) = (-1)) := by
  first | rfl | (simp only [Int32.lt_iff_toInt_lt, Int32.le_iff_toInt_le, ← Int32.toInt_inj, Int32.zero_add, Int32.add_zero] at *; omega) | (simp only [Int32.lt_iff_toInt_lt, Int32.le_iff_toInt_le, ← Int32.toInt_inj, Int32.zero_add, Int32.add_zero] at *; done) | (simp only [Int32.lt_iff_toInt_lt, Int32.le_iff_toInt_le, ← Int32.toInt_inj, Int32.zero_add, Int32.add_zero] at *; simp at *; omega) | (simp at *; omega) | (simp_all; done)
theorem k_X12_count_r4 (x : Int32) (sw_3 : (x : Int32) = 4) : ((0 ≤ x ∧ x ≤ 11) ∧ (0 : Int32) = 0) ∨ (¬ (0 ≤ x ∧ x ≤ 11) ∧ (0 : Int32) = (-1)) := by
  first | rfl | (simp only [Int32.lt_iff_toInt_lt, Int32.le_iff_toInt_le, ← Int32.toInt_inj, Int32.zero_add, Int32.add_zero] at *; omega) | (simp only [Int32.lt_iff_toInt_lt, Int32.le_iff_toInt_le, ← Int32.toInt_inj, Int32.zero_add, Int32.add_zero] at *; done) | (simp only [Int32.lt_iff_toInt_lt, Int32.le_iff_toInt_le, ← Int32.toInt_inj, Int32.zero_add, Int32.add_zero] at *; simp at *; omega) | (simp at *; omega) | (simp_all; done)
theorem k_X12_count_r5 (x : Int32) (sw_3 : (x : Int32) = 5) : ((0 ≤ x ∧ x ≤ 11) ∧ (0 : Int32) = 0) ∨ (¬ (0 ≤ x ∧ x ≤ 11) ∧ (0 : Int32) = (-1)) := by
  first | rfl | (simp only [Int32.lt_iff_toInt_lt, Int32.le_iff_toInt_le, ← Int32.toInt_inj, Int32.zero_add, Int32.add_zero] at *; omega) | (simp only [Int32.lt_iff_toInt_lt, Int32.le_iff_toInt_le, ← Int32.toInt_inj, Int32.zero_add, Int32.add_zero] at *; done) | (simp only [Int32.lt_iff_toInt_lt, Int32.le_iff_toInt_le, ← Int32.toInt_inj, Int32.zero_add, Int32.add_zero] at *; simp at *; omega) | (simp at *; omega) | (simp_all; done)
theorem k_X12_count_r6 (x : Int32) (sw_3 : (x : Int32) = 6) : ((0 ≤ x ∧ x ≤ 11) ∧ (0 : Int32) = 0) ∨ (¬ (0 ≤ x ∧ x ≤ 11) ∧ (0 : Int32) = (-1)) := by
  first | rfl | (simp only [Int32.lt_iff_toInt_lt, Int32.le_iff_toInt_le, ← Int32.toInt_inj, Int32.zero_add, Int32.add_zero] at *; omega) | (simp only [Int32.lt_iff_toInt_lt, Int32.le_iff_toInt_le, ← Int32.toInt_inj, Int32.zero_add, Int32.add_zero] at *; done) | (simp only [Int32.lt_iff_toInt_lt, Int32.le_iff_toInt_le, ← Int32.toInt_inj, Int32.zero_add, Int32.add_zero] at *; simp at *; omega) | (simp at *; omega) | (simp_all; done)
theorem k_X12_count_r7 (x : Int32) (sw_3 : (x : Int32) = 7) : ((0 ≤ x ∧ x ≤ 11) ∧ (0 : Int32) = 0) ∨ (¬ (0 ≤ x ∧ x ≤ 11) ∧ (0 : Int32) = (-1)) := by
  first | rfl | (simp only [Int32.lt_iff_toInt_lt, Int32.le_iff_toInt_le, ← Int32.toInt_inj, Int32.zero_add, Int32.add_zero] at *; omega) | (simp only [Int32.lt_iff_toInt_lt, Int32.le_iff_toInt_le, ← Int32.toInt_inj, Int32.zero_add, Int32.add_zero] at *; done) | (simp only [Int32.lt_iff_toInt_lt, Int32.le_iff_toInt_le, ← Int32.toInt_inj, Int32.zero_add, Int32.add_zero] at *; simp at *; omega) | (simp at *; omega) | (simp_all; done)
theorem k_X12_count_r8 (x : Int32) (sw_3 : (x : Int32) = 8) : ((0 ≤ x ∧ x ≤ 11) ∧ (0 : Int32) = 0) ∨ (¬ (0 ≤ x ∧ x ≤ 11) ∧ (0 : Int32) = (-1)) := by
  first | rfl | (simp only [Int32.lt_iff_toInt_lt, Int32.le_iff_toInt_le, ← Int32.toInt_inj, Int32.zero_add, Int32.add_zero] at *; omega) | (simp only [Int32.lt_iff_toInt_lt, Int32.le_iff_toInt_le, ← Int32.toInt_inj, Int32.zero_add, Int32.add_zero] at *; done) | (simp only [Int32.lt_iff_toInt_lt, Int32.le_iff_toInt_le, ← Int32.toInt_inj, Int32.zero_add, Int32.add_zero] at *; simp at *; omega) | (simp at *; omega) | (simp_all; done)
theorem k_X12_count_r9 (x : Int32) (sw_3 : (x : Int32) = 9) : ((0 ≤ x ∧ x ≤ 11) ∧ (0 : Int32) = 0) ∨ (¬ (0 ≤ x ∧ x ≤ 11) ∧ (0 : Int32) = (-1)) := by
  first | rfl | (simp only [Int32.lt_iff_toInt_lt, Int32.le_iff_toInt_le, ← Int32.toInt_inj, Int32.zero_add, Int32.add_zero] at *; omega) | (simp only [Int32.lt_iff_toInt_lt, Int32.le_iff_toInt_le, ← Int32.toInt_inj, Int32.zero_add, Int32.add_zero] at *; done) | (simp only [Int32.lt_iff_toInt_lt, Int32.le_iff_toInt_le, ← Int32.toInt_inj, Int32.zero_add, Int32.add_zero] at *; simp at *; omega) | (simp at *; omega) | (simp_all; done)
theorem k_X12_count_r10 (x : Int32) (sw_3 : (x : Int32) = 10) : ((0 ≤ x ∧ x ≤ 11) ∧ (0 : Int32) = 0) ∨ (¬ (0 ≤ x ∧ x ≤ 11) ∧ (0 : Int32) = (-1)) := by
  first | rfl | (simp only [Int32.lt_iff_toInt_lt, Int32.le_iff_toInt_le, ← Int32.toInt_inj, Int32.zero_add, Int32.add_zero] at *; omega) | (simp only [Int32.lt_iff_toInt_lt, Int32.le_iff_toInt_le, ← Int32.toInt_inj, Int32.zero_add, Int32.add_zero] at *; done) | (simp only [Int32.lt_iff_toInt_lt, Int32.le_iff_toInt_le, ← Int32.toInt_inj, Int32.zero_add, Int32.add_zero] at *; simp at *; omega) | (simp at *; omega) | (simp_all; done)
theorem k_X12_count_r11 (x : Int32) (sw_3 : (x : Int32) = 11) : ((0 ≤ x ∧ x ≤ 11) ∧ (0 : Int32) = 0) ∨ (¬ (0 ≤ x ∧ x ≤ 11) ∧ (0 : Int32) = (-1)) := by
  first | rfl | (simp only [Int32.lt_iff_toInt_lt, Int32.le_iff_toInt_le, ← Int32.toInt_inj, Int32.zero_add, Int32.add_zero] at *; omega) | (simp only [Int32.lt_iff_toInt_lt, Int32.le_iff_toInt_le, ← Int32.toInt_inj, Int32.zero_add, Int32.add_zero] at *; done) | (simp only [Int32.lt_iff_toInt_lt, Int32.le_iff_toInt_le, ← Int32.toInt_inj, Int32.zero_add, Int32.add_zero] at *; simp at *; omega) | (simp at *; omega) | (simp_all; done)
theorem k_X12_count_r12 (x : Int32) (sw_3 : (x : Int32).toInt < 0 ∨ 11 < (x : Int32).toInt) : ((0 ≤ x ∧ x ≤ 11) ∧ ((-1) : Int32) = 0) ∨ (¬ (0 ≤ x ∧ x ≤ 11) ∧ ((-1) : Int32) = (-1)) := by
  first | rfl | (simp only [Int32.lt_iff_toInt_lt, Int32.le_iff_toInt_le, ← Int32.toInt_inj, Int32.zero_add, Int32.add_zero] at *; omega) | (simp only [Int32.lt_iff_toInt_lt, Int32.le_iff_toInt_le, ← Int32.toInt_inj, Int32.zero_add, Int32.add_zero] at *; done) | (simp only [Int32.lt_iff_toInt_lt, Int32.le_iff_toInt_le, ← Int32.toInt_inj, Int32.zero_add, Int32.add_zero] at *; simp at *; omega) | (simp at *; omega) | (simp_all; done)
set_option maxHeartbeats 400000 in
set_option maxRecDepth 100000 in
theorem k_X12_count (l : Launch) (E : qE) (A : Nat → Prop) (u : qS) (x : Int32) (h_now : u.1 1230 = 0) (h_viewed : u.1 1231 = (-1)) (h_shops : u.1 1232 = 0) (h_buyers : u.1 1239 = 0) (h_visits : u.1 1247 = 0) (h_briefs : u.1 1210 = 0) (h_appeals : u.1 1256 = 0) (h_taped : u.1 1202 = 0) : Met l yX12_count (uws yX12_count cX12_count 4 (some .int)) (qR 6 0 0) (qPc E A 1 u [.ref (E.2.2 1299), .int x]) (qQi E A 1 (fun r _ => ((0 ≤ x ∧ x ≤ 11) ∧ r = 0) ∨ (¬ (0 ≤ x ∧ x ≤ 11) ∧ r = (-1)))) 0 0 A := by
  refine q_met (own := RX12) (f := 6) [.ref (E.2.2 1299), .int x] (by decide) (Nat.le_of_ble_eq_true rfl) rfl ?_
  intro p0 e0 s0 m0 bl0 me0 cd0 ls hF hr hlocks hU hS hA hl
  have hl : lv_has ls 4 [(0, .ref (E.2.2 1299)), (1, .int x)] := hl
  refine lv_aload_n hF.1 hF.2.1 dX12_count_0 rfl (lv_at hl 0 rfl) ?_
  refine lv_iconst (v := 0) hF.1 hF.2.1 dX12_count_1 (by decide) ?_
  refine q_put hF hU hS dX12_count_2 0 12 0 1200 1299 rfl rfl rfl rfl inX12 tyX12 tyX12_ok nmX12 (by decide) (by decide) rfl w_1333 rfl rfl rfl rfl (fun H locs hU hS => ?_)
  refine lv_aload_n hF.1 hF.2.1 dX12_count_5 rfl (lv_at hl 0 rfl) ?_
  have hM9 := (k_X12_findAll l E A (qsI u 1200 0) h_visits)
  have hR9 := q_runV (l := l) (e := e0) (below := bl0) (meth := me0) (R := qR 6 0 0) (cells := 0) (slots := 0) (st0 := [.ref (E.2.2 1299)]) (rest := []) hF hU hS hA 0 0 12 1299 rfl rfl rfl hM9 w_1742 w_1744 w_73 w_107 w_1745 (by decide +kernel) ⟨Nat.le_of_ble_eq_true rfl, Nat.le_of_ble_eq_true rfl⟩ dX12_count_6 rfl hl.1 rfl (Nat.le_of_ble_eq_true rfl) ⟨Nat.le_of_ble_eq_true rfl, Nat.le_of_ble_eq_true rfl⟩
  refine q_callv hR9 hU.2.2.2 hS (fun u_1 H locs hw_2 hU hS => ?_)
  rw [hw_2] at hU
  refine lv_iconst (v := 0) hF.1 hF.2.1 dX12_count_9 (by decide) ?_
  refine lv_istore_n (lv' := [(2, .int 0), (0, .ref (E.2.2 1299)), (1, .int x)]) hF.1 hF.2.1 dX12_count_10 rfl hl (by decide) rfl (fun ls hl => ?_)
  refine lv_iload_n hF.1 hF.2.1 dX12_count_11 rfl (lv_at hl 2 rfl) ?_
  rcases q_sw0_11 (x) with sw_3 | sw_3 | sw_3 | sw_3 | sw_3 | sw_3 | sw_3 | sw_3 | sw_3 | sw_3 | sw_3 | sw_3 | sw_3
  · refine lv_tableIn (off := 64) (tgt := 76) hF.1 hF.2.1 dX12_count_12 (by rw [sw_3]; decide) (by rw [sw_3]; decide) (by rw [sw_3]; rfl) (by decide) ?_
    refine lv_aload_n hF.1 hF.2.1 dX12_count_76 rfl (lv_at hl 1 rfl) ?_
    refine q_get (v := .int 0) hF hU dX12_count_77 0 12 30 1230 1299 rfl rfl rfl rfl inX12 (by decide) (by decide) w_1363 rfl (congrArg Value.int h_now) ?_
    exact q_iret hF hr rfl hlocks hU hS dX12_count_80 (k_X12_count_r0 x sw_3)
  · refine lv_tableIn (off := 69) (tgt := 81) hF.1 hF.2.1 dX12_count_12 (by rw [sw_3]; decide) (by rw [sw_3]; decide) (by rw [sw_3]; rfl) (by decide) ?_
    refine lv_aload_n hF.1 hF.2.1 dX12_count_81 rfl (lv_at hl 1 rfl) ?_
    have hM9 := (k_X12_viewDay l E A (qsI (qsI (qsI u 1200 0) 1260 0) 1270 0) h_viewed h_now)
    have hR9 := q_runV (l := l) (e := e0) (below := bl0) (meth := me0) (R := qR 6 0 0) (cells := 0) (slots := 0) (st0 := [.ref (E.2.2 1299)]) (rest := []) hF hU hS hA 0 0 12 1299 rfl rfl rfl hM9 w_1738 w_1740 w_72 w_107 w_1741 (by decide +kernel) ⟨Nat.le_of_ble_eq_true rfl, Nat.le_of_ble_eq_true rfl⟩ dX12_count_82 rfl hl.1 rfl (Nat.le_of_ble_eq_true rfl) ⟨Nat.le_of_ble_eq_true rfl, Nat.le_of_ble_eq_true rfl⟩
    refine q_calli hR9 hU.2.2.2 hS (fun r u1 H locs hw hU hS => ?_)
    rw [hw.1] at hU
    refine q_topi hw.2 ?_
    exact q_iret hF hr rfl hlocks hU hS dX12_count_85 (k_X12_count_r1 x sw_3)
  · refine lv_tableIn (off := 74) (tgt := 86) hF.1 hF.2.1 dX12_count_12 (by rw [sw_3]; decide) (by rw [sw_3]; decide) (by rw [sw_3]; rfl) (by decide) ?_
    refine lv_aload_n hF.1 hF.2.1 dX12_count_86 rfl (lv_at hl 1 rfl) ?_
    refine q_get (v := .int 0) hF hU dX12_count_87 0 12 32 1232 1299 rfl rfl rfl rfl inX12 (by decide) (by decide) w_1365 rfl (congrArg Value.int h_shops) ?_
    exact q_iret hF hr rfl hlocks hU hS dX12_count_90 (k_X12_count_r2 x sw_3)
  · refine lv_tableIn (off := 79) (tgt := 91) hF.1 hF.2.1 dX12_count_12 (by rw [sw_3]; decide) (by rw [sw_3]; decide) (by rw [sw_3]; rfl) (by decide) ?_
    refine lv_aload_n hF.1 hF.2.1 dX12_count_91 rfl (lv_at hl 1 rfl) ?_
    refine q_get (v := .int 0) hF hU dX12_count_92 0 12 39 1239 1299 rfl rfl rfl rfl inX12 (by decide) (by decide) w_1372 rfl (congrArg Value.int h_buyers) ?_
    exact q_iret hF hr rfl hlocks hU hS dX12_count_95 (k_X12_count_r3 x sw_3)
  · refine lv_tableIn (off := 84) (tgt := 96) hF.1 hF.2.1 dX12_count_12 (by rw [sw_3]; decide) (by rw [sw_3]; decide) (by rw [sw_3]; rfl) (by decide) ?_
    refine lv_aload_n hF.1 hF.2.1 dX12_count_96 rfl (lv_at hl 1 rfl) ?_
    refine q_get (v := .int 0) hF hU dX12_count_97 0 12 47 1247 1299 rfl rfl rfl rfl inX12 (by decide) (by decide) w_1380 rfl (congrArg Value.int h_visits) ?_
    exact q_iret hF hr rfl hlocks hU hS dX12_count_100 (k_X12_count_r4 x sw_3)
  · refine lv_tableIn (off := 89) (tgt := 101) hF.1 hF.2.1 dX12_count_12 (by rw [sw_3]; decide) (by rw [sw_3]; decide) (by rw [sw_3]; rfl) (by decide) ?_
    refine lv_aload_n hF.1 hF.2.1 dX12_count_101 rfl (lv_at hl 1 rfl) ?_
    refine q_get (v := .int 0) hF hU dX12_count_102 0 12 60 1260 1299 rfl rfl rfl rfl inX12 (by decide) (by decide) w_1393 rfl rfl ?_
    exact q_iret hF hr rfl hlocks hU hS dX12_count_105 (k_X12_count_r5 x sw_3)
  · refine lv_tableIn (off := 94) (tgt := 106) hF.1 hF.2.1 dX12_count_12 (by rw [sw_3]; decide) (by rw [sw_3]; decide) (by rw [sw_3]; rfl) (by decide) ?_
    refine lv_iconst (v := 0) hF.1 hF.2.1 dX12_count_106 (by decide) ?_
    refine lv_istore_n (lv' := [(3, .int 0), (2, .int 0), (0, .ref (E.2.2 1299)), (1, .int x)]) hF.1 hF.2.1 dX12_count_107 rfl hl (by decide) rfl (fun ls hl => ?_)
    refine lv_iload_n hF.1 hF.2.1 dX12_count_108 rfl (lv_at hl 0 rfl) ?_
    refine lv_aload_n hF.1 hF.2.1 dX12_count_109 rfl (lv_at hl 2 rfl) ?_
    refine q_get (v := .int 0) hF hU dX12_count_110 0 12 47 1247 1299 rfl rfl rfl rfl inX12 (by decide) (by decide) w_1380 rfl (congrArg Value.int h_visits) ?_
    refine lv_icmp_ge (tgt := 138) hF.1 hF.2.1 dX12_count_113 (by decide) (fun _ => ?_) (fun h9 => absurd (by decide) h9)
    refine lv_iload_n hF.1 hF.2.1 dX12_count_138 rfl (lv_at hl 1 rfl) ?_
    exact q_iret hF hr rfl hlocks hU hS dX12_count_139 (k_X12_count_r6 x sw_3)
  · refine lv_tableIn (off := 128) (tgt := 140) hF.1 hF.2.1 dX12_count_12 (by rw [sw_3]; decide) (by rw [sw_3]; decide) (by rw [sw_3]; rfl) (by decide) ?_
    refine lv_aload_n hF.1 hF.2.1 dX12_count_140 rfl (lv_at hl 1 rfl) ?_
    refine q_get (v := .int 0) hF hU dX12_count_141 0 12 56 1256 1299 rfl rfl rfl rfl inX12 (by decide) (by decide) w_1389 rfl (congrArg Value.int h_appeals) ?_
    exact q_iret hF hr rfl hlocks hU hS dX12_count_144 (k_X12_count_r7 x sw_3)
  · refine lv_tableIn (off := 133) (tgt := 145) hF.1 hF.2.1 dX12_count_12 (by rw [sw_3]; decide) (by rw [sw_3]; decide) (by rw [sw_3]; rfl) (by decide) ?_
    refine lv_aload_n hF.1 hF.2.1 dX12_count_145 rfl (lv_at hl 1 rfl) ?_
    refine q_get (v := .int 0) hF hU dX12_count_146 0 12 10 1210 1299 rfl rfl rfl rfl inX12 (by decide) (by decide) w_1343 rfl (congrArg Value.int h_briefs) ?_
    exact q_iret hF hr rfl hlocks hU hS dX12_count_149 (k_X12_count_r8 x sw_3)
  · refine lv_tableIn (off := 138) (tgt := 150) hF.1 hF.2.1 dX12_count_12 (by rw [sw_3]; decide) (by rw [sw_3]; decide) (by rw [sw_3]; rfl) (by decide) ?_
    refine lv_aload_n hF.1 hF.2.1 dX12_count_150 rfl (lv_at hl 1 rfl) ?_
    refine q_get (v := .int 0) hF hU dX12_count_151 0 12 2 1202 1299 rfl rfl rfl rfl inX12 (by decide) (by decide) w_1335 rfl (congrArg Value.int h_taped) ?_
    exact q_iret hF hr rfl hlocks hU hS dX12_count_154 (k_X12_count_r9 x sw_3)
  · refine lv_tableIn (off := 143) (tgt := 155) hF.1 hF.2.1 dX12_count_12 (by rw [sw_3]; decide) (by rw [sw_3]; decide) (by rw [sw_3]; rfl) (by decide) ?_
    refine lv_iconst (v := 0) hF.1 hF.2.1 dX12_count_155 (by decide) ?_
    refine lv_istore_n (lv' := [(3, .int 0), (2, .int 0), (0, .ref (E.2.2 1299)), (1, .int x)]) hF.1 hF.2.1 dX12_count_156 rfl hl (by decide) rfl (fun ls hl => ?_)
    refine lv_iload_n hF.1 hF.2.1 dX12_count_157 rfl (lv_at hl 0 rfl) ?_
    refine lv_aload_n hF.1 hF.2.1 dX12_count_158 rfl (lv_at hl 2 rfl) ?_
    refine q_get (v := .int 0) hF hU dX12_count_159 0 12 47 1247 1299 rfl rfl rfl rfl inX12 (by decide) (by decide) w_1380 rfl (congrArg Value.int h_visits) ?_
    refine lv_icmp_ge (tgt := 197) hF.1 hF.2.1 dX12_count_162 (by decide) (fun _ => ?_) (fun h9 => absurd (by decide) h9)
    refine lv_iload_n hF.1 hF.2.1 dX12_count_197 rfl (lv_at hl 1 rfl) ?_
    exact q_iret hF hr rfl hlocks hU hS dX12_count_198 (k_X12_count_r10 x sw_3)
  · refine lv_tableIn (off := 187) (tgt := 199) hF.1 hF.2.1 dX12_count_12 (by rw [sw_3]; decide) (by rw [sw_3]; decide) (by rw [sw_3]; rfl) (by decide) ?_
    refine lv_aload_n hF.1 hF.2.1 dX12_count_199 rfl (lv_at hl 1 rfl) ?_
    refine q_get (v := .int 0) hF hU dX12_count_200 0 12 70 1270 1299 rfl rfl rfl rfl inX12 (by decide) (by decide) w_1403 rfl rfl ?_
    exact q_iret hF hr rfl hlocks hU hS dX12_count_203 (k_X12_count_r11 x sw_3)
  · refine lv_tableOut (tgt := 204) hF.1 hF.2.1 dX12_count_12 sw_3 (by decide) ?_
    refine lv_iconst (v := (-1)) hF.1 hF.2.1 dX12_count_204 (by decide) ?_
    exact q_iret hF hr rfl hlocks hU hS dX12_count_205 (k_X12_count_r12 x sw_3)
