set_option maxRecDepth 100000 in
theorem g_X12_visitsOf_v0 (u : qS) (x : Int32) (y : Int32) (x3 : Int32) (x4 : Int32) (hI : IM u) (h_k : 0 ≤ x4) (h_v : x4 ≤ u.1 1247) (h_n : x3.toInt = (g_ct (u.2.1 1249) (u.2.1 1250) x y x4.toNatClampNeg : Int)) (hs_1 : 0 ≤ u.1 1247 ∧ u.1 1247 ≤ 120) (c11_2 : (u.1 1247) ≤ (x4 : Int32)) : (x3 : Int32).toInt = (g_ct (u.2.1 1249) (u.2.1 1250) x y (u.1 1247).toNatClampNeg : Int) := by
  have e : x4 = u.1 1247 := Int32.toInt_inj.mp (by (try simp only [Int32.lt_iff_toInt_lt, Int32.le_iff_toInt_le, ← Int32.toInt_inj, Int32.toInt_add, Int32.toInt_sub, Int32.toInt_mul, Int32.toInt_neg, Int32.reduceToInt, g_bm, g_bm'] at *); omega)
  rw [e] at h_n; exact h_n
set_option maxRecDepth 100000 in
theorem g_X12_visitsOf_v1 (u : qS) (x : Int32) (y : Int32) (x3 : Int32) (x4 : Int32) (hI : IM u) (h_k : 0 ≤ x4) (h_v : x4 ≤ u.1 1247) (h_n : x3.toInt = (g_ct (u.2.1 1249) (u.2.1 1250) x y x4.toNatClampNeg : Int)) (hs_1 : 0 ≤ u.1 1247 ∧ u.1 1247 ≤ 120) (c11_2 : ¬ (u.1 1247) ≤ (x4 : Int32)) : vp_in (x4) 120 := by
  refine g_in ?_ ?_ <;> ((try simp only [Int32.lt_iff_toInt_lt, Int32.le_iff_toInt_le, ← Int32.toInt_inj, Int32.toInt_add, Int32.toInt_sub, Int32.toInt_mul, Int32.toInt_neg, Int32.reduceToInt, g_bm, g_bm'] at *); omega)
set_option maxRecDepth 100000 in
theorem g_X12_visitsOf_v2 (u : qS) (x : Int32) (y : Int32) (x3 : Int32) (x4 : Int32) (hI : IM u) (h_k : 0 ≤ x4) (h_v : x4 ≤ u.1 1247) (h_n : x3.toInt = (g_ct (u.2.1 1249) (u.2.1 1250) x y x4.toNatClampNeg : Int)) (hs_1 : 0 ≤ u.1 1247 ∧ u.1 1247 ≤ 120) (c11_2 : ¬ (u.1 1247) ≤ (x4 : Int32)) : 0 ≤ x4 ∧ x4 < u.1 1247 := by
  first | omega | ((try simp only [Int32.lt_iff_toInt_lt, Int32.le_iff_toInt_le, ← Int32.toInt_inj, Int32.toInt_add, Int32.toInt_sub, Int32.toInt_mul, Int32.toInt_neg, Int32.reduceToInt, g_bm, g_bm'] at *); omega) | (simp only [Int32.lt_iff_toInt_lt, Int32.le_iff_toInt_le, ← Int32.toInt_inj, Int32.toInt_add, Int32.toInt_sub, Int32.toInt_mul, Int32.toInt_neg, Int32.reduceToInt, g_bm, g_bm'] at *; simp at *; omega) | (simp_all; done)
set_option maxRecDepth 100000 in
theorem g_X12_visitsOf_v3 (u : qS) (x : Int32) (y : Int32) (x3 : Int32) (x4 : Int32) (hI : IM u) (h_k : 0 ≤ x4) (h_v : x4 ≤ u.1 1247) (h_n : x3.toInt = (g_ct (u.2.1 1249) (u.2.1 1250) x y x4.toNatClampNeg : Int)) (hs_1 : 0 ≤ u.1 1247 ∧ u.1 1247 ≤ 120) (c11_2 : ¬ (u.1 1247) ≤ (x4 : Int32)) (hb_3 : 0 ≤ (u.2.1 1249 (x4 : Int32).toNatClampNeg) ∧ (u.2.1 1249 (x4 : Int32).toNatClampNeg) < u.1 1239) (hs_4 : 0 ≤ u.1 1239 ∧ u.1 1239 ≤ 8) (c23_5 : ¬ (u.2.1 1249 (x4 : Int32).toNatClampNeg : Int32) = x) : 0 ≤ (x4 + 1) := by
  first | omega | ((try simp only [Int32.lt_iff_toInt_lt, Int32.le_iff_toInt_le, ← Int32.toInt_inj, Int32.toInt_add, Int32.toInt_sub, Int32.toInt_mul, Int32.toInt_neg, Int32.reduceToInt, g_bm, g_bm'] at *); omega) | (simp only [Int32.lt_iff_toInt_lt, Int32.le_iff_toInt_le, ← Int32.toInt_inj, Int32.toInt_add, Int32.toInt_sub, Int32.toInt_mul, Int32.toInt_neg, Int32.reduceToInt, g_bm, g_bm'] at *; simp at *; omega) | (simp_all; done)
set_option maxRecDepth 100000 in
theorem g_X12_visitsOf_v4 (u : qS) (x : Int32) (y : Int32) (x3 : Int32) (x4 : Int32) (hI : IM u) (h_k : 0 ≤ x4) (h_v : x4 ≤ u.1 1247) (h_n : x3.toInt = (g_ct (u.2.1 1249) (u.2.1 1250) x y x4.toNatClampNeg : Int)) (hs_1 : 0 ≤ u.1 1247 ∧ u.1 1247 ≤ 120) (c11_2 : ¬ (u.1 1247) ≤ (x4 : Int32)) (hb_3 : 0 ≤ (u.2.1 1249 (x4 : Int32).toNatClampNeg) ∧ (u.2.1 1249 (x4 : Int32).toNatClampNeg) < u.1 1239) (hs_4 : 0 ≤ u.1 1239 ∧ u.1 1239 ≤ 8) (c23_5 : ¬ (u.2.1 1249 (x4 : Int32).toNatClampNeg : Int32) = x) : (x4 + 1) ≤ u.1 1247 := by
  first | omega | ((try simp only [Int32.lt_iff_toInt_lt, Int32.le_iff_toInt_le, ← Int32.toInt_inj, Int32.toInt_add, Int32.toInt_sub, Int32.toInt_mul, Int32.toInt_neg, Int32.reduceToInt, g_bm, g_bm'] at *); omega) | (simp only [Int32.lt_iff_toInt_lt, Int32.le_iff_toInt_le, ← Int32.toInt_inj, Int32.toInt_add, Int32.toInt_sub, Int32.toInt_mul, Int32.toInt_neg, Int32.reduceToInt, g_bm, g_bm'] at *; simp at *; omega) | (simp_all; done)
set_option maxRecDepth 100000 in
theorem g_X12_visitsOf_v5 (u : qS) (x : Int32) (y : Int32) (x3 : Int32) (x4 : Int32) (hI : IM u) (h_k : 0 ≤ x4) (h_v : x4 ≤ u.1 1247) (h_n : x3.toInt = (g_ct (u.2.1 1249) (u.2.1 1250) x y x4.toNatClampNeg : Int)) (hs_1 : 0 ≤ u.1 1247 ∧ u.1 1247 ≤ 120) (c11_2 : ¬ (u.1 1247) ≤ (x4 : Int32)) (hb_3 : 0 ≤ (u.2.1 1249 (x4 : Int32).toNatClampNeg) ∧ (u.2.1 1249 (x4 : Int32).toNatClampNeg) < u.1 1239) (hs_4 : 0 ≤ u.1 1239 ∧ u.1 1239 ≤ 8) (c23_5 : ¬ (u.2.1 1249 (x4 : Int32).toNatClampNeg : Int32) = x) : (x3 + 0).toInt = (g_ct (u.2.1 1249) (u.2.1 1250) x y (x4 + 1).toNatClampNeg : Int) := by
  have e := g_ct_s (u.2.1 1249) (u.2.1 1250) x y (v := x4) (by (try simp only [Int32.lt_iff_toInt_lt, Int32.le_iff_toInt_le, ← Int32.toInt_inj, Int32.toInt_add, Int32.toInt_sub, Int32.toInt_mul, Int32.toInt_neg, Int32.reduceToInt, g_bm, g_bm'] at *); omega) (by (try simp only [Int32.lt_iff_toInt_lt, Int32.le_iff_toInt_le, ← Int32.toInt_inj, Int32.toInt_add, Int32.toInt_sub, Int32.toInt_mul, Int32.toInt_neg, Int32.reduceToInt, g_bm, g_bm'] at *); omega)
  have hc := g_ct_le (u.2.1 1249) (u.2.1 1250) x y x4.toNatClampNeg
  have hd := g_clamp x4
  first | rw [if_pos ⟨by assumption, by assumption⟩] at e | rw [if_neg (fun q => absurd q.1 (by assumption))] at e | rw [if_neg (fun q => absurd q.2 (by assumption))] at e
  (try simp only [Int32.lt_iff_toInt_lt, Int32.le_iff_toInt_le, ← Int32.toInt_inj, Int32.toInt_add, Int32.toInt_sub, Int32.toInt_mul, Int32.toInt_neg, Int32.reduceToInt, g_bm, g_bm'] at *); omega
set_option maxRecDepth 100000 in
theorem g_X12_visitsOf_v6 (u : qS) (x : Int32) (y : Int32) (x3 : Int32) (x4 : Int32) (hI : IM u) (h_k : 0 ≤ x4) (h_v : x4 ≤ u.1 1247) (h_n : x3.toInt = (g_ct (u.2.1 1249) (u.2.1 1250) x y x4.toNatClampNeg : Int)) (hs_1 : 0 ≤ u.1 1247 ∧ u.1 1247 ≤ 120) (c11_2 : ¬ (u.1 1247) ≤ (x4 : Int32)) (hb_3 : 0 ≤ (u.2.1 1249 (x4 : Int32).toNatClampNeg) ∧ (u.2.1 1249 (x4 : Int32).toNatClampNeg) < u.1 1239) (hs_4 : 0 ≤ u.1 1239 ∧ u.1 1239 ≤ 8) (c23_5 : ¬ (u.2.1 1249 (x4 : Int32).toNatClampNeg : Int32) = x) : ((u.1 1247).toInt - (x4 + 1).toInt).toNat < ((u.1 1247).toInt - x4.toInt).toNat := by
  first | omega | ((try simp only [Int32.lt_iff_toInt_lt, Int32.le_iff_toInt_le, ← Int32.toInt_inj, Int32.toInt_add, Int32.toInt_sub, Int32.toInt_mul, Int32.toInt_neg, Int32.reduceToInt, g_bm, g_bm'] at *); omega) | (simp only [Int32.lt_iff_toInt_lt, Int32.le_iff_toInt_le, ← Int32.toInt_inj, Int32.toInt_add, Int32.toInt_sub, Int32.toInt_mul, Int32.toInt_neg, Int32.reduceToInt, g_bm, g_bm'] at *; simp at *; omega) | (simp_all; done)
set_option maxRecDepth 100000 in
theorem g_X12_visitsOf_v7 (u : qS) (x : Int32) (y : Int32) (x3 : Int32) (x4 : Int32) (hI : IM u) (h_k : 0 ≤ x4) (h_v : x4 ≤ u.1 1247) (h_n : x3.toInt = (g_ct (u.2.1 1249) (u.2.1 1250) x y x4.toNatClampNeg : Int)) (hs_1 : 0 ≤ u.1 1247 ∧ u.1 1247 ≤ 120) (c11_2 : ¬ (u.1 1247) ≤ (x4 : Int32)) (hb_3 : 0 ≤ (u.2.1 1249 (x4 : Int32).toNatClampNeg) ∧ (u.2.1 1249 (x4 : Int32).toNatClampNeg) < u.1 1239) (hs_4 : 0 ≤ u.1 1239 ∧ u.1 1239 ≤ 8) (c23_5 : (u.2.1 1249 (x4 : Int32).toNatClampNeg : Int32) = x) : vp_in (x4) 120 := by
  refine g_in ?_ ?_ <;> ((try simp only [Int32.lt_iff_toInt_lt, Int32.le_iff_toInt_le, ← Int32.toInt_inj, Int32.toInt_add, Int32.toInt_sub, Int32.toInt_mul, Int32.toInt_neg, Int32.reduceToInt, g_bm, g_bm'] at *); omega)
set_option maxRecDepth 100000 in
theorem g_X12_visitsOf_v8 (u : qS) (x : Int32) (y : Int32) (x3 : Int32) (x4 : Int32) (hI : IM u) (h_k : 0 ≤ x4) (h_v : x4 ≤ u.1 1247) (h_n : x3.toInt = (g_ct (u.2.1 1249) (u.2.1 1250) x y x4.toNatClampNeg : Int)) (hs_1 : 0 ≤ u.1 1247 ∧ u.1 1247 ≤ 120) (c11_2 : ¬ (u.1 1247) ≤ (x4 : Int32)) (hb_3 : 0 ≤ (u.2.1 1249 (x4 : Int32).toNatClampNeg) ∧ (u.2.1 1249 (x4 : Int32).toNatClampNeg) < u.1 1239) (hs_4 : 0 ≤ u.1 1239 ∧ u.1 1239 ≤ 8) (c23_5 : (u.2.1 1249 (x4 : Int32).toNatClampNeg : Int32) = x) (c34_6 : ¬ (u.2.1 1250 (x4 : Int32).toNatClampNeg : Int32) = y) : 0 ≤ (x4 + 1) := by
  first | omega | ((try simp only [Int32.lt_iff_toInt_lt, Int32.le_iff_toInt_le, ← Int32.toInt_inj, Int32.toInt_add, Int32.toInt_sub, Int32.toInt_mul, Int32.toInt_neg, Int32.reduceToInt, g_bm, g_bm'] at *); omega) | (simp only [Int32.lt_iff_toInt_lt, Int32.le_iff_toInt_le, ← Int32.toInt_inj, Int32.toInt_add, Int32.toInt_sub, Int32.toInt_mul, Int32.toInt_neg, Int32.reduceToInt, g_bm, g_bm'] at *; simp at *; omega) | (simp_all; done)
set_option maxRecDepth 100000 in
theorem g_X12_visitsOf_v9 (u : qS) (x : Int32) (y : Int32) (x3 : Int32) (x4 : Int32) (hI : IM u) (h_k : 0 ≤ x4) (h_v : x4 ≤ u.1 1247) (h_n : x3.toInt = (g_ct (u.2.1 1249) (u.2.1 1250) x y x4.toNatClampNeg : Int)) (hs_1 : 0 ≤ u.1 1247 ∧ u.1 1247 ≤ 120) (c11_2 : ¬ (u.1 1247) ≤ (x4 : Int32)) (hb_3 : 0 ≤ (u.2.1 1249 (x4 : Int32).toNatClampNeg) ∧ (u.2.1 1249 (x4 : Int32).toNatClampNeg) < u.1 1239) (hs_4 : 0 ≤ u.1 1239 ∧ u.1 1239 ≤ 8) (c23_5 : (u.2.1 1249 (x4 : Int32).toNatClampNeg : Int32) = x) (c34_6 : ¬ (u.2.1 1250 (x4 : Int32).toNatClampNeg : Int32) = y) : (x4 + 1) ≤ u.1 1247 := by
  first | omega | ((try simp only [Int32.lt_iff_toInt_lt, Int32.le_iff_toInt_le, ← Int32.toInt_inj, Int32.toInt_add, Int32.toInt_sub, Int32.toInt_mul, Int32.toInt_neg, Int32.reduceToInt, g_bm, g_bm'] at *); omega) | (simp only [Int32.lt_iff_toInt_lt, Int32.le_iff_toInt_le, ← Int32.toInt_inj, Int32.toInt_add, Int32.toInt_sub, Int32.toInt_mul, Int32.toInt_neg, Int32.reduceToInt, g_bm, g_bm'] at *; simp at *; omega) | (simp_all; done)
set_option maxRecDepth 100000 in
theorem g_X12_visitsOf_v10 (u : qS) (x : Int32) (y : Int32) (x3 : Int32) (x4 : Int32) (hI : IM u) (h_k : 0 ≤ x4) (h_v : x4 ≤ u.1 1247) (h_n : x3.toInt = (g_ct (u.2.1 1249) (u.2.1 1250) x y x4.toNatClampNeg : Int)) (hs_1 : 0 ≤ u.1 1247 ∧ u.1 1247 ≤ 120) (c11_2 : ¬ (u.1 1247) ≤ (x4 : Int32)) (hb_3 : 0 ≤ (u.2.1 1249 (x4 : Int32).toNatClampNeg) ∧ (u.2.1 1249 (x4 : Int32).toNatClampNeg) < u.1 1239) (hs_4 : 0 ≤ u.1 1239 ∧ u.1 1239 ≤ 8) (c23_5 : (u.2.1 1249 (x4 : Int32).toNatClampNeg : Int32) = x) (c34_6 : ¬ (u.2.1 1250 (x4 : Int32).toNatClampNeg : Int32) = y) : (x3 + 0).toInt = (g_ct (u.2.1 1249) (u.2.1 1250) x y (x4 + 1).toNatClampNeg : Int) := by
  have e := g_ct_s (u.2.1 1249) (u.2.1 1250) x y (v := x4) (by (try simp only [Int32.lt_iff_toInt_lt, Int32.le_iff_toInt_le, ← Int32.toInt_inj, Int32.toInt_add, Int32.toInt_sub, Int32.toInt_mul, Int32.toInt_neg, Int32.reduceToInt, g_bm, g_bm'] at *); omega) (by (try simp only [Int32.lt_iff_toInt_lt, Int32.le_iff_toInt_le, ← Int32.toInt_inj, Int32.toInt_add, Int32.toInt_sub, Int32.toInt_mul, Int32.toInt_neg, Int32.reduceToInt, g_bm, g_bm'] at *); omega)
  have hc := g_ct_le (u.2.1 1249) (u.2.1 1250) x y x4.toNatClampNeg
  have hd := g_clamp x4
  first | rw [if_pos ⟨by assumption, by assumption⟩] at e | rw [if_neg (fun q => absurd q.1 (by assumption))] at e | rw [if_neg (fun q => absurd q.2 (by assumption))] at e
  (try simp only [Int32.lt_iff_toInt_lt, Int32.le_iff_toInt_le, ← Int32.toInt_inj, Int32.toInt_add, Int32.toInt_sub, Int32.toInt_mul, Int32.toInt_neg, Int32.reduceToInt, g_bm, g_bm'] at *); omega
set_option maxRecDepth 100000 in
theorem g_X12_visitsOf_v11 (u : qS) (x : Int32) (y : Int32) (x3 : Int32) (x4 : Int32) (hI : IM u) (h_k : 0 ≤ x4) (h_v : x4 ≤ u.1 1247) (h_n : x3.toInt = (g_ct (u.2.1 1249) (u.2.1 1250) x y x4.toNatClampNeg : Int)) (hs_1 : 0 ≤ u.1 1247 ∧ u.1 1247 ≤ 120) (c11_2 : ¬ (u.1 1247) ≤ (x4 : Int32)) (hb_3 : 0 ≤ (u.2.1 1249 (x4 : Int32).toNatClampNeg) ∧ (u.2.1 1249 (x4 : Int32).toNatClampNeg) < u.1 1239) (hs_4 : 0 ≤ u.1 1239 ∧ u.1 1239 ≤ 8) (c23_5 : (u.2.1 1249 (x4 : Int32).toNatClampNeg : Int32) = x) (c34_6 : ¬ (u.2.1 1250 (x4 : Int32).toNatClampNeg : Int32) = y) : ((u.1 1247).toInt - (x4 + 1).toInt).toNat < ((u.1 1247).toInt - x4.toInt).toNat := by
  first | omega | ((try simp only [Int32.lt_iff_toInt_lt, Int32.le_iff_toInt_le, ← Int32.toInt_inj, Int32.toInt_add, Int32.toInt_sub, Int32.toInt_mul, Int32.toInt_neg, Int32.reduceToInt, g_bm, g_bm'] at *); omega) | (simp only [Int32.lt_iff_toInt_lt, Int32.le_iff_toInt_le, ← Int32.toInt_inj, Int32.toInt_add, Int32.toInt_sub, Int32.toInt_mul, Int32.toInt_neg, Int32.reduceToInt, g_bm, g_bm'] at *; simp at *; omega) | (simp_all; done)
set_option maxRecDepth 100000 in
theorem g_X12_visitsOf_v12 (u : qS) (x : Int32) (y : Int32) (x3 : Int32) (x4 : Int32) (hI : IM u) (h_k : 0 ≤ x4) (h_v : x4 ≤ u.1 1247) (h_n : x3.toInt = (g_ct (u.2.1 1249) (u.2.1 1250) x y x4.toNatClampNeg : Int)) (hs_1 : 0 ≤ u.1 1247 ∧ u.1 1247 ≤ 120) (c11_2 : ¬ (u.1 1247) ≤ (x4 : Int32)) (hb_3 : 0 ≤ (u.2.1 1249 (x4 : Int32).toNatClampNeg) ∧ (u.2.1 1249 (x4 : Int32).toNatClampNeg) < u.1 1239) (hs_4 : 0 ≤ u.1 1239 ∧ u.1 1239 ≤ 8) (c23_5 : (u.2.1 1249 (x4 : Int32).toNatClampNeg : Int32) = x) (c34_6 : (u.2.1 1250 (x4 : Int32).toNatClampNeg : Int32) = y) : 0 ≤ (x4 + 1) := by
  first | omega | ((try simp only [Int32.lt_iff_toInt_lt, Int32.le_iff_toInt_le, ← Int32.toInt_inj, Int32.toInt_add, Int32.toInt_sub, Int32.toInt_mul, Int32.toInt_neg, Int32.reduceToInt, g_bm, g_bm'] at *); omega) | (simp only [Int32.lt_iff_toInt_lt, Int32.le_iff_toInt_le, ← Int32.toInt_inj, Int32.toInt_add, Int32.toInt_sub, Int32.toInt_mul, Int32.toInt_neg, Int32.reduceToInt, g_bm, g_bm'] at *; simp at *; omega) | (simp_all; done)
set_option maxRecDepth 100000 in
theorem g_X12_visitsOf_v13 (u : qS) (x : Int32) (y : Int32) (x3 : Int32) (x4 : Int32) (hI : IM u) (h_k : 0 ≤ x4) (h_v : x4 ≤ u.1 1247) (h_n : x3.toInt = (g_ct (u.2.1 1249) (u.2.1 1250) x y x4.toNatClampNeg : Int)) (hs_1 : 0 ≤ u.1 1247 ∧ u.1 1247 ≤ 120) (c11_2 : ¬ (u.1 1247) ≤ (x4 : Int32)) (hb_3 : 0 ≤ (u.2.1 1249 (x4 : Int32).toNatClampNeg) ∧ (u.2.1 1249 (x4 : Int32).toNatClampNeg) < u.1 1239) (hs_4 : 0 ≤ u.1 1239 ∧ u.1 1239 ≤ 8) (c23_5 : (u.2.1 1249 (x4 : Int32).toNatClampNeg : Int32) = x) (c34_6 : (u.2.1 1250 (x4 : Int32).toNatClampNeg : Int32) = y) : (x4 + 1) ≤ u.1 1247 := by
  first | omega | ((try simp only [Int32.lt_iff_toInt_lt, Int32.le_iff_toInt_le, ← Int32.toInt_inj, Int32.toInt_add, Int32.toInt_sub, Int32.toInt_mul, Int32.toInt_neg, Int32.reduceToInt, g_bm, g_bm'] at *); omega) | (simp only [Int32.lt_iff_toInt_lt, Int32.le_iff_toInt_le, ← Int32.toInt_inj, Int32.toInt_add, Int32.toInt_sub, Int32.toInt_mul, Int32.toInt_neg, Int32.reduceToInt, g_bm, g_bm'] at *; simp at *; omega) | (simp_all; done)
set_option maxRecDepth 100000 in
theorem g_X12_visitsOf_v14 (u : qS) (x : Int32) (y : Int32) (x3 : Int32) (x4 : Int32) (hI : IM u) (h_k : 0 ≤ x4) (h_v : x4 ≤ u.1 1247) (h_n : x3.toInt = (g_ct (u.2.1 1249) (u.2.1 1250) x y x4.toNatClampNeg : Int)) (hs_1 : 0 ≤ u.1 1247 ∧ u.1 1247 ≤ 120) (c11_2 : ¬ (u.1 1247) ≤ (x4 : Int32)) (hb_3 : 0 ≤ (u.2.1 1249 (x4 : Int32).toNatClampNeg) ∧ (u.2.1 1249 (x4 : Int32).toNatClampNeg) < u.1 1239) (hs_4 : 0 ≤ u.1 1239 ∧ u.1 1239 ≤ 8) (c23_5 : (u.2.1 1249 (x4 : Int32).toNatClampNeg : Int32) = x) (c34_6 : (u.2.1 1250 (x4 : Int32).toNatClampNeg : Int32) = y) : (x3 + 1).toInt = (g_ct (u.2.1 1249) (u.2.1 1250) x y (x4 + 1).toNatClampNeg : Int) := by
  have e := g_ct_s (u.2.1 1249) (u.2.1 1250) x y (v := x4) (by (try simp only [Int32.lt_iff_toInt_lt, Int32.le_iff_toInt_le, ← Int32.toInt_inj, Int32.toInt_add, Int32.toInt_sub, Int32.toInt_mul, Int32.toInt_neg, Int32.reduceToInt, g_bm, g_bm'] at *); omega) (by (try simp only [Int32.lt_iff_toInt_lt, Int32.le_iff_toInt_le, ← Int32.toInt_inj, Int32.toInt_add, Int32.toInt_sub, Int32.toInt_mul, Int32.toInt_neg, Int32.reduceToInt, g_bm, g_bm'] at *); omega)
  have hc := g_ct_le (u.2.1 1249) (u.2.1 1250) x y x4.toNatClampNeg
  have hd := g_clamp x4
  first | rw [if_pos ⟨by assumption, by assumption⟩] at e | rw [if_neg (fun q => absurd q.1 (by assumption))] at e | rw [if_neg (fun q => absurd q.2 (by assumption))] at e
  (try simp only [Int32.lt_iff_toInt_lt, Int32.le_iff_toInt_le, ← Int32.toInt_inj, Int32.toInt_add, Int32.toInt_sub, Int32.toInt_mul, Int32.toInt_neg, Int32.reduceToInt, g_bm, g_bm'] at *); omega
set_option maxRecDepth 100000 in
theorem g_X12_visitsOf_v15 (u : qS) (x : Int32) (y : Int32) (x3 : Int32) (x4 : Int32) (hI : IM u) (h_k : 0 ≤ x4) (h_v : x4 ≤ u.1 1247) (h_n : x3.toInt = (g_ct (u.2.1 1249) (u.2.1 1250) x y x4.toNatClampNeg : Int)) (hs_1 : 0 ≤ u.1 1247 ∧ u.1 1247 ≤ 120) (c11_2 : ¬ (u.1 1247) ≤ (x4 : Int32)) (hb_3 : 0 ≤ (u.2.1 1249 (x4 : Int32).toNatClampNeg) ∧ (u.2.1 1249 (x4 : Int32).toNatClampNeg) < u.1 1239) (hs_4 : 0 ≤ u.1 1239 ∧ u.1 1239 ≤ 8) (c23_5 : (u.2.1 1249 (x4 : Int32).toNatClampNeg : Int32) = x) (c34_6 : (u.2.1 1250 (x4 : Int32).toNatClampNeg : Int32) = y) : ((u.1 1247).toInt - (x4 + 1).toInt).toNat < ((u.1 1247).toInt - x4.toInt).toNat := by
  first | omega | ((try simp only [Int32.lt_iff_toInt_lt, Int32.le_iff_toInt_le, ← Int32.toInt_inj, Int32.toInt_add, Int32.toInt_sub, Int32.toInt_mul, Int32.toInt_neg, Int32.reduceToInt, g_bm, g_bm'] at *); omega) | (simp only [Int32.lt_iff_toInt_lt, Int32.le_iff_toInt_le, ← Int32.toInt_inj, Int32.toInt_add, Int32.toInt_sub, Int32.toInt_mul, Int32.toInt_neg, Int32.reduceToInt, g_bm, g_bm'] at *; simp at *; omega) | (simp_all; done)
set_option maxRecDepth 100000 in
theorem g_X12_visitsOf_v16 (u : qS) (hI : IM u) : 0 ≤ (0 : Int32) := by
  first | omega | ((try simp only [Int32.lt_iff_toInt_lt, Int32.le_iff_toInt_le, ← Int32.toInt_inj, Int32.toInt_add, Int32.toInt_sub, Int32.toInt_mul, Int32.toInt_neg, Int32.reduceToInt, g_bm, g_bm'] at *); omega) | (simp only [Int32.lt_iff_toInt_lt, Int32.le_iff_toInt_le, ← Int32.toInt_inj, Int32.toInt_add, Int32.toInt_sub, Int32.toInt_mul, Int32.toInt_neg, Int32.reduceToInt, g_bm, g_bm'] at *; simp at *; omega) | (simp_all; done)
set_option maxRecDepth 100000 in
theorem g_X12_visitsOf_v17 (u : qS) (hI : IM u) : (0 : Int32) ≤ u.1 1247 := by
  have hz1247 := hI.1.s1247
  first | omega | ((try simp only [Int32.lt_iff_toInt_lt, Int32.le_iff_toInt_le, ← Int32.toInt_inj, Int32.toInt_add, Int32.toInt_sub, Int32.toInt_mul, Int32.toInt_neg, Int32.reduceToInt, g_bm, g_bm'] at *); omega) | (simp only [Int32.lt_iff_toInt_lt, Int32.le_iff_toInt_le, ← Int32.toInt_inj, Int32.toInt_add, Int32.toInt_sub, Int32.toInt_mul, Int32.toInt_neg, Int32.reduceToInt, g_bm, g_bm'] at *; simp at *; omega) | (simp_all; done)
set_option maxRecDepth 100000 in
theorem g_X12_visitsOf_v18 (u : qS) (x : Int32) (y : Int32) (hI : IM u) : (0 : Int32).toInt = (g_ct (u.2.1 1249) (u.2.1 1250) x y (0 : Int32).toNatClampNeg : Int) := by
  rfl
set_option maxHeartbeats 1000000 in
set_option maxRecDepth 100000 in
theorem g_X12_visitsOf (l : Launch) (E : qE) (A : Nat → Prop) (u : qS) (x : Int32) (y : Int32) (hI : IM u) : Met l yX12_visitsOf (uws yX12_visitsOf cX12_visitsOf 5 (some .int)) (qR 0 0 0) (qPc E A 1 u [.ref (E.2.2 1299), .int x, .int y]) (qQi E A 1 (fun r u1 => u1 = u ∧ (r.toInt = (g_ct (u.2.1 1249) (u.2.1 1250) x y (u.1 1247).toNatClampNeg : Int)))) 0 0 A := by
  refine q_met (own := RX12) (f := 0) [.ref (E.2.2 1299), .int x, .int y] (by decide) (Nat.le_of_ble_eq_true rfl) rfl ?_
  intro p0 e0 s0 m0 bl0 me0 cd0 ls hF hr hlocks hU hS hA hl
  have hl : lv_has ls 5 [(0, .ref (E.2.2 1299)), (1, .int x), (2, .int y)] := hl
  have main : ∀ n : Nat, (∀ (x3 : Int32) (x4 : Int32) (uc : qS) (H : Heap) (locs : List Loc) (ls : Array Slot) (huc : u = uc) (h_k : 0 ≤ x4) (h_v : x4 ≤ u.1 1247) (h_n : x3.toInt = (g_ct (u.2.1 1249) (u.2.1 1250) x y x4.toNatClampNeg : Int)), ((u.1 1247).toInt - x4.toInt).toNat < n → qH E A 1 uc s0 H → va_S A s0.heap H locs → lv_has ls 5 [(0, .ref (E.2.2 1299)), (1, .int x), (2, .int y), (3, .int x3), (4, .int x4)] → W p0 l e0 (qR 0 0 0) s0 m0 ([.ref (E.2.2 1299), .int x, .int y] : List Value).toArray bl0 me0 cd0 H locs 0 0 (MQ bl0 (qQi E A 1 (fun r u1 => u1 = u ∧ (r.toInt = (g_ct (u.2.1 1249) (u.2.1 1250) x y (u.1 1247).toNatClampNeg : Int)))) ([.ref (E.2.2 1299), .int x, .int y] : List Value).toArray s0 0 0 A) (F0 m0 5 ls [])) := by
    intro n
    induction n with
    | zero => exact fun _ _ _ _ _ _ _ _ _ _ hmu => absurd hmu (Nat.not_lt_zero _)
    | succ n ih =>
      intro x3 x4 uc H locs ls huc h_k h_v h_n hmu hU hS hl
      subst huc
      refine lv_iload hF.1 hF.2.1 dX12_visitsOf_5 (lv_at hl 4 rfl) ?_
      refine lv_aload_n hF.1 hF.2.1 dX12_visitsOf_7 rfl (lv_at hl 0 rfl) ?_
      refine q_get (v := .int (u.1 1247)) hF hU dX12_visitsOf_8 0 12 47 1247 1299 rfl rfl rfl rfl inX12 (by decide) (by decide) w_1379 rfl rfl ?_
      have hs_1 : 0 ≤ u.1 1247 ∧ u.1 1247 ≤ 120 := hI.1.s1247
      refine lv_icmp_ge (tgt := 50) hF.1 hF.2.1 dX12_visitsOf_11 (by decide) (fun c11_2 => ?_) (fun c11_2 => ?_)
      · refine lv_iload_n hF.1 hF.2.1 dX12_visitsOf_50 rfl (lv_at hl 3 rfl) ?_
        exact q_iret hF hr rfl hlocks hU hS dX12_visitsOf_51 ⟨rfl, (g_X12_visitsOf_v0 u x y x3 x4 hI h_k h_v h_n hs_1 c11_2)⟩
      · refine lv_iload_n hF.1 hF.2.1 dX12_visitsOf_14 rfl (lv_at hl 3 rfl) ?_
        refine lv_aload_n hF.1 hF.2.1 dX12_visitsOf_15 rfl (lv_at hl 0 rfl) ?_
        refine q_get (v := .ref (E.2.2 1249)) hF hU dX12_visitsOf_16 0 12 49 1249 1299 rfl rfl rfl rfl inX12 (by decide) (by decide) w_1381 rfl rfl ?_
        refine lv_iload hF.1 hF.2.1 dX12_visitsOf_19 (lv_at hl 4 rfl) ?_
        refine q_iald (v := u.2.1 1249 (x4 : Int32).toNatClampNeg) hF hU dX12_visitsOf_21 28 1249 rfl rfl (g_X12_visitsOf_v1 u x y x3 x4 hI h_k h_v h_n hs_1 c11_2) rfl ?_
        have hb_3 : 0 ≤ (u.2.1 1249 (x4 : Int32).toNatClampNeg) ∧ (u.2.1 1249 (x4 : Int32).toNatClampNeg) < u.1 1239 := hI.2.1.r1249 x4 (g_X12_visitsOf_v2 u x y x3 x4 hI h_k h_v h_n hs_1 c11_2)
        have hs_4 : 0 ≤ u.1 1239 ∧ u.1 1239 ≤ 8 := hI.1.s1239
        refine lv_iload_n hF.1 hF.2.1 dX12_visitsOf_22 rfl (lv_at hl 1 rfl) ?_
        refine lv_icmp_ne (tgt := 41) hF.1 hF.2.1 dX12_visitsOf_23 (by decide) (fun c23_5 => ?_) (fun c23_5 => ?_)
        · refine lv_iconst (v := 0) hF.1 hF.2.1 dX12_visitsOf_41 (by decide) ?_
          refine lv_iadd hF.1 hF.2.1 dX12_visitsOf_42 ?_
          refine lv_istore_n (lv' := [(3, .int (x3 + 0)), (0, .ref (E.2.2 1299)), (1, .int x), (2, .int y), (4, .int x4)]) hF.1 hF.2.1 dX12_visitsOf_43 rfl hl (by decide) rfl (fun ls hl => ?_)
          refine lv_iinc (v := x4 + 1) (lv' := [(4, .int (x4 + 1)), (3, .int (x3 + 0)), (0, .ref (E.2.2 1299)), (1, .int x), (2, .int y)]) hF.1 hF.2.1 dX12_visitsOf_44 hl (k := 4) rfl rfl (by decide) rfl (fun ls hl => ?_)
          refine lv_goto (tgt := 5) hF.1 hF.2.1 dX12_visitsOf_47 (by decide) ?_
          exact ih (x3 + 0) (x4 + 1) u _ _ _ rfl (g_X12_visitsOf_v3 u x y x3 x4 hI h_k h_v h_n hs_1 c11_2 hb_3 hs_4 c23_5) (g_X12_visitsOf_v4 u x y x3 x4 hI h_k h_v h_n hs_1 c11_2 hb_3 hs_4 c23_5) (g_X12_visitsOf_v5 u x y x3 x4 hI h_k h_v h_n hs_1 c11_2 hb_3 hs_4 c23_5) (Nat.lt_of_lt_of_le (g_X12_visitsOf_v6 u x y x3 x4 hI h_k h_v h_n hs_1 c11_2 hb_3 hs_4 c23_5) (Nat.lt_succ_iff.mp hmu)) hU hS (lv_sub hl [2, 3, 4, 1, 0] rfl)
        · refine lv_aload_n hF.1 hF.2.1 dX12_visitsOf_26 rfl (lv_at hl 0 rfl) ?_
          refine q_get (v := .ref (E.2.2 1250)) hF hU dX12_visitsOf_27 0 12 50 1250 1299 rfl rfl rfl rfl inX12 (by decide) (by decide) w_1382 rfl rfl ?_
          refine lv_iload hF.1 hF.2.1 dX12_visitsOf_30 (lv_at hl 4 rfl) ?_
          refine q_iald (v := u.2.1 1250 (x4 : Int32).toNatClampNeg) hF hU dX12_visitsOf_32 29 1250 rfl rfl (g_X12_visitsOf_v7 u x y x3 x4 hI h_k h_v h_n hs_1 c11_2 hb_3 hs_4 c23_5) rfl ?_
          refine lv_iload_n hF.1 hF.2.1 dX12_visitsOf_33 rfl (lv_at hl 2 rfl) ?_
          refine lv_icmp_ne (tgt := 41) hF.1 hF.2.1 dX12_visitsOf_34 (by decide) (fun c34_6 => ?_) (fun c34_6 => ?_)
          · refine lv_iconst (v := 0) hF.1 hF.2.1 dX12_visitsOf_41 (by decide) ?_
            refine lv_iadd hF.1 hF.2.1 dX12_visitsOf_42 ?_
            refine lv_istore_n (lv' := [(3, .int (x3 + 0)), (0, .ref (E.2.2 1299)), (1, .int x), (2, .int y), (4, .int x4)]) hF.1 hF.2.1 dX12_visitsOf_43 rfl hl (by decide) rfl (fun ls hl => ?_)
            refine lv_iinc (v := x4 + 1) (lv' := [(4, .int (x4 + 1)), (3, .int (x3 + 0)), (0, .ref (E.2.2 1299)), (1, .int x), (2, .int y)]) hF.1 hF.2.1 dX12_visitsOf_44 hl (k := 4) rfl rfl (by decide) rfl (fun ls hl => ?_)
            refine lv_goto (tgt := 5) hF.1 hF.2.1 dX12_visitsOf_47 (by decide) ?_
            exact ih (x3 + 0) (x4 + 1) u _ _ _ rfl (g_X12_visitsOf_v8 u x y x3 x4 hI h_k h_v h_n hs_1 c11_2 hb_3 hs_4 c23_5 c34_6) (g_X12_visitsOf_v9 u x y x3 x4 hI h_k h_v h_n hs_1 c11_2 hb_3 hs_4 c23_5 c34_6) (g_X12_visitsOf_v10 u x y x3 x4 hI h_k h_v h_n hs_1 c11_2 hb_3 hs_4 c23_5 c34_6) (Nat.lt_of_lt_of_le (g_X12_visitsOf_v11 u x y x3 x4 hI h_k h_v h_n hs_1 c11_2 hb_3 hs_4 c23_5 c34_6) (Nat.lt_succ_iff.mp hmu)) hU hS (lv_sub hl [2, 3, 4, 1, 0] rfl)
          · refine lv_iconst (v := 1) hF.1 hF.2.1 dX12_visitsOf_37 (by decide) ?_
            refine lv_goto (tgt := 42) hF.1 hF.2.1 dX12_visitsOf_38 (by decide) ?_
            refine lv_iadd hF.1 hF.2.1 dX12_visitsOf_42 ?_
            refine lv_istore_n (lv' := [(3, .int (x3 + 1)), (0, .ref (E.2.2 1299)), (1, .int x), (2, .int y), (4, .int x4)]) hF.1 hF.2.1 dX12_visitsOf_43 rfl hl (by decide) rfl (fun ls hl => ?_)
            refine lv_iinc (v := x4 + 1) (lv' := [(4, .int (x4 + 1)), (3, .int (x3 + 1)), (0, .ref (E.2.2 1299)), (1, .int x), (2, .int y)]) hF.1 hF.2.1 dX12_visitsOf_44 hl (k := 4) rfl rfl (by decide) rfl (fun ls hl => ?_)
            refine lv_goto (tgt := 5) hF.1 hF.2.1 dX12_visitsOf_47 (by decide) ?_
            exact ih (x3 + 1) (x4 + 1) u _ _ _ rfl (g_X12_visitsOf_v12 u x y x3 x4 hI h_k h_v h_n hs_1 c11_2 hb_3 hs_4 c23_5 c34_6) (g_X12_visitsOf_v13 u x y x3 x4 hI h_k h_v h_n hs_1 c11_2 hb_3 hs_4 c23_5 c34_6) (g_X12_visitsOf_v14 u x y x3 x4 hI h_k h_v h_n hs_1 c11_2 hb_3 hs_4 c23_5 c34_6) (Nat.lt_of_lt_of_le (g_X12_visitsOf_v15 u x y x3 x4 hI h_k h_v h_n hs_1 c11_2 hb_3 hs_4 c23_5 c34_6) (Nat.lt_succ_iff.mp hmu)) hU hS (lv_sub hl [2, 3, 4, 1, 0] rfl)
  refine lv_iconst (v := 0) hF.1 hF.2.1 dX12_visitsOf_0 (by decide) ?_
  refine lv_istore_n (lv' := [(3, .int 0), (0, .ref (E.2.2 1299)), (1, .int x), (2, .int y)]) hF.1 hF.2.1 dX12_visitsOf_1 rfl hl (by decide) rfl (fun ls hl => ?_)
  refine lv_iconst (v := 0) hF.1 hF.2.1 dX12_visitsOf_2 (by decide) ?_
  refine lv_istore (lv' := [(4, .int 0), (3, .int 0), (0, .ref (E.2.2 1299)), (1, .int x), (2, .int y)]) hF.1 hF.2.1 dX12_visitsOf_3 hl (by decide) rfl (fun ls hl => ?_)
  exact (main _) (0 : Int32) (0 : Int32) u _ _ _ rfl (g_X12_visitsOf_v16 u hI) (g_X12_visitsOf_v17 u hI) (g_X12_visitsOf_v18 u x y hI) (Nat.lt_succ_self _) hU hS (lv_sub hl [2, 3, 4, 1, 0] rfl)
set_option maxRecDepth 100000 in
theorem g_X12_tells_v0 (u : qS) (x : Int32) (r_3 : Int32) (f_4 : Nat → Int32) (hI : IM u) (hv : 0 ≤ x ∧ x < u.1 1247) (hvs : u.1 1247 ≤ 120) (hf_4 : f_4 = upd (u.2.1 1224) (0 : Int32).toNatClampNeg r_3) : vp_in (x) 120 := by
  have hz1247 := hI.1.s1247
  refine g_in ?_ ?_ <;> ((try simp only [Int32.lt_iff_toInt_lt, Int32.le_iff_toInt_le, ← Int32.toInt_inj, Int32.toInt_add, Int32.toInt_sub, Int32.toInt_mul, Int32.toInt_neg, Int32.reduceToInt, g_bm, g_bm'] at *); omega)
set_option maxRecDepth 100000 in
theorem g_X12_tells_v1 (u : qS) (x : Int32) (r_3 : Int32) (f_4 : Nat → Int32) (f_5 : Nat → Int32) (hI : IM u) (hv : 0 ≤ x ∧ x < u.1 1247) (hvs : u.1 1247 ≤ 120) (hf_4 : f_4 = upd (u.2.1 1224) (0 : Int32).toNatClampNeg r_3) (hf_5 : f_5 = upd (f_4) (1 : Int32).toNatClampNeg (u.2.1 1252 (x : Int32).toNatClampNeg)) : vp_in (x) 120 := by
  have hz1247 := hI.1.s1247
  refine g_in ?_ ?_ <;> ((try simp only [Int32.lt_iff_toInt_lt, Int32.le_iff_toInt_le, ← Int32.toInt_inj, Int32.toInt_add, Int32.toInt_sub, Int32.toInt_mul, Int32.toInt_neg, Int32.reduceToInt, g_bm, g_bm'] at *); omega)
set_option maxRecDepth 100000 in
theorem g_X12_tells_v2 (u : qS) (x : Int32) (r_3 : Int32) (f_4 : Nat → Int32) (f_5 : Nat → Int32) (f_6 : Nat → Int32) (hI : IM u) (hv : 0 ≤ x ∧ x < u.1 1247) (hvs : u.1 1247 ≤ 120) (hf_4 : f_4 = upd (u.2.1 1224) (0 : Int32).toNatClampNeg r_3) (hf_5 : f_5 = upd (f_4) (1 : Int32).toNatClampNeg (u.2.1 1252 (x : Int32).toNatClampNeg)) (hf_6 : f_6 = upd (f_5) (2 : Int32).toNatClampNeg ((u.2.1 1251 (x : Int32).toNatClampNeg) / 60)) : vp_in (x) 120 := by
  have hz1247 := hI.1.s1247
  refine g_in ?_ ?_ <;> ((try simp only [Int32.lt_iff_toInt_lt, Int32.le_iff_toInt_le, ← Int32.toInt_inj, Int32.toInt_add, Int32.toInt_sub, Int32.toInt_mul, Int32.toInt_neg, Int32.reduceToInt, g_bm, g_bm'] at *); omega)
set_option maxRecDepth 100000 in
theorem g_X12_tells_v3 (u : qS) (x : Int32) (r_3 : Int32) (f_4 : Nat → Int32) (f_5 : Nat → Int32) (f_6 : Nat → Int32) (f_8 : Nat → Int32) (hI : IM u) (hv : 0 ≤ x ∧ x < u.1 1247) (hvs : u.1 1247 ≤ 120) (hf_4 : f_4 = upd (u.2.1 1224) (0 : Int32).toNatClampNeg r_3) (hf_5 : f_5 = upd (f_4) (1 : Int32).toNatClampNeg (u.2.1 1252 (x : Int32).toNatClampNeg)) (hf_6 : f_6 = upd (f_5) (2 : Int32).toNatClampNeg ((u.2.1 1251 (x : Int32).toNatClampNeg) / 60)) (c53_7 : 0 ≤ (u.2.1 1254 (x : Int32).toNatClampNeg : Int32)) (hf_8 : f_8 = upd (f_6) (3 : Int32).toNatClampNeg 1) : vp_in (x) 120 := by
  have hz1247 := hI.1.s1247
  refine g_in ?_ ?_ <;> ((try simp only [Int32.lt_iff_toInt_lt, Int32.le_iff_toInt_le, ← Int32.toInt_inj, Int32.toInt_add, Int32.toInt_sub, Int32.toInt_mul, Int32.toInt_neg, Int32.reduceToInt, g_bm, g_bm'] at *); omega)
set_option maxRecDepth 100000 in
theorem g_X12_tells_v4 (u : qS) (x : Int32) (r_3 : Int32) (f_4 : Nat → Int32) (f_5 : Nat → Int32) (f_6 : Nat → Int32) (f_11 : Nat → Int32) (hI : IM u) (hv : 0 ≤ x ∧ x < u.1 1247) (hvs : u.1 1247 ≤ 120) (hf_4 : f_4 = upd (u.2.1 1224) (0 : Int32).toNatClampNeg r_3) (hf_5 : f_5 = upd (f_4) (1 : Int32).toNatClampNeg (u.2.1 1252 (x : Int32).toNatClampNeg)) (hf_6 : f_6 = upd (f_5) (2 : Int32).toNatClampNeg ((u.2.1 1251 (x : Int32).toNatClampNeg) / 60)) (c53_7 : ¬ 0 ≤ (u.2.1 1254 (x : Int32).toNatClampNeg : Int32)) (hf_11 : f_11 = upd (f_6) (3 : Int32).toNatClampNeg 0) : vp_in (x) 120 := by
  have hz1247 := hI.1.s1247
  refine g_in ?_ ?_ <;> ((try simp only [Int32.lt_iff_toInt_lt, Int32.le_iff_toInt_le, ← Int32.toInt_inj, Int32.toInt_add, Int32.toInt_sub, Int32.toInt_mul, Int32.toInt_neg, Int32.reduceToInt, g_bm, g_bm'] at *); omega)
set_option maxHeartbeats 1000000 in
set_option maxRecDepth 100000 in
theorem g_X12_tells (l : Launch) (E : qE) (A : Nat → Prop) (u : qS) (x : Int32) (y : Int32) (z : Int32) (hI : IM u) (hv : 0 ≤ x ∧ x < u.1 1247) (hvs : u.1 1247 ≤ 120) : Met l yX12_tells (uws yX12_tells cX12_tells 4 none) (qR 1 0 0) (qPc E A 1 u [.ref (E.2.2 1299), .int x, .int y, .int z]) (qQv E A 1 (fun u1 => qFr [1225] [1224] [] u u1 ∧ (True))) 0 0 A := by
  refine q_met (own := RX12) (f := 1) [.ref (E.2.2 1299), .int x, .int y, .int z] (by decide) (Nat.le_of_ble_eq_true rfl) rfl ?_
  intro p0 e0 s0 m0 bl0 me0 cd0 ls hF hr hlocks hU hS hA hl
  have hl : lv_has ls 4 [(0, .ref (E.2.2 1299)), (1, .int x), (2, .int y), (3, .int z)] := hl
  have hfr : qFr [1225] [1224] [] u u := qFr.rf
  refine lv_aload_n hF.1 hF.2.1 dX12_tells_0 rfl (lv_at hl 0 rfl) ?_
  refine lv_iload_n hF.1 hF.2.1 dX12_tells_1 rfl (lv_at hl 2 rfl) ?_
  refine q_put hF hU hS dX12_tells_2 0 12 25 1225 1299 rfl rfl rfl rfl inX12 tyX12 tyX12_ok nmX12 (by decide) (by decide) rfl w_1357 rfl rfl rfl rfl (fun H locs hU hS => ?_)
  have hfr : qFr [1225] [1224] [] u (qsI u 1225 y) := hfr.setI (by decide)
  refine lv_aload_n hF.1 hF.2.1 dX12_tells_5 rfl (lv_at hl 0 rfl) ?_
  refine q_get (v := .ref (E.2.2 1224)) hF hU dX12_tells_6 0 12 24 1224 1299 rfl rfl rfl rfl inX12 (by decide) (by decide) w_1356 rfl rfl ?_
  refine lv_iconst (v := 0) hF.1 hF.2.1 dX12_tells_9 (by decide) ?_
  refine lv_iload_n hF.1 hF.2.1 dX12_tells_10 rfl (lv_at hl 2 rfl) ?_
  have hM9 := g_X12_bits l E A (qsI u 1225 y) y
  have hR9 := q_runS (l := l) (e := e0) (below := bl0) (meth := me0) (R := qR 1 0 0) (cells := 0) (slots := 0) (st0 := [.int y, .int 0, .ref (E.2.2 1224)]) (rest := [.int 0, .ref (E.2.2 1224)]) hF hU hS hA 1 hM9 w_1761 w_1762 w_107 w_1763 (by decide +kernel) ⟨Nat.le_of_ble_eq_true rfl, Nat.le_of_ble_eq_true rfl⟩ dX12_tells_11 rfl hl.1 rfl (Nat.le_of_ble_eq_true rfl) ⟨Nat.le_of_ble_eq_true rfl, Nat.le_of_ble_eq_true rfl⟩
  refine q_calli hR9 hU.2.2.2 hS (fun r_3 u_1 H locs hw_2 hU hS => ?_)
  obtain ⟨hw_2_e, hw_2⟩ := hw_2
  rw [hw_2_e] at hU
  refine q_iast hF hU hS dX12_tells_14 16 1224 rfl rfl (q_in (by decide)) (fun f_4 H locs hg9 hU hS => ?_)
  have hf_4 : f_4 = upd (u.2.1 1224) (0 : Int32).toNatClampNeg r_3 := hg9
  have hfr : qFr [1225] [1224] [] u (qsF (qsI u 1225 y) 1224 f_4) := hfr.setF (by decide)
  refine lv_aload_n hF.1 hF.2.1 dX12_tells_15 rfl (lv_at hl 0 rfl) ?_
  refine q_get (v := .ref (E.2.2 1224)) hF hU dX12_tells_16 0 12 24 1224 1299 rfl rfl rfl rfl inX12 (by decide) (by decide) w_1356 rfl rfl ?_
  refine lv_iconst (v := 1) hF.1 hF.2.1 dX12_tells_19 (by decide) ?_
  refine lv_aload_n hF.1 hF.2.1 dX12_tells_20 rfl (lv_at hl 0 rfl) ?_
  refine q_get (v := .ref (E.2.2 1252)) hF hU dX12_tells_21 0 12 52 1252 1299 rfl rfl rfl rfl inX12 (by decide) (by decide) w_1384 rfl rfl ?_
  refine lv_iload_n hF.1 hF.2.1 dX12_tells_24 rfl (lv_at hl 1 rfl) ?_
  refine q_iald (v := u.2.1 1252 (x : Int32).toNatClampNeg) hF hU dX12_tells_25 31 1252 rfl rfl (g_X12_tells_v0 u x r_3 f_4 hI hv hvs hf_4) (congrFun (hfr.2.1 1252 (by decide)) _) ?_
  refine q_iast hF hU hS dX12_tells_26 16 1224 rfl rfl (q_in (by decide)) (fun f_5 H locs hg9 hU hS => ?_)
  have hf_5 : f_5 = upd (f_4) (1 : Int32).toNatClampNeg (u.2.1 1252 (x : Int32).toNatClampNeg) := hg9
  have hfr : qFr [1225] [1224] [] u (qsF (qsF (qsI u 1225 y) 1224 f_4) 1224 f_5) := hfr.setF (by decide)
  refine lv_aload_n hF.1 hF.2.1 dX12_tells_27 rfl (lv_at hl 0 rfl) ?_
  refine q_get (v := .ref (E.2.2 1224)) hF hU dX12_tells_28 0 12 24 1224 1299 rfl rfl rfl rfl inX12 (by decide) (by decide) w_1356 rfl rfl ?_
  refine lv_iconst (v := 2) hF.1 hF.2.1 dX12_tells_31 (by decide) ?_
  refine lv_aload_n hF.1 hF.2.1 dX12_tells_32 rfl (lv_at hl 0 rfl) ?_
  refine q_get (v := .ref (E.2.2 1251)) hF hU dX12_tells_33 0 12 51 1251 1299 rfl rfl rfl rfl inX12 (by decide) (by decide) w_1383 rfl rfl ?_
  refine lv_iload_n hF.1 hF.2.1 dX12_tells_36 rfl (lv_at hl 1 rfl) ?_
  refine q_iald (v := u.2.1 1251 (x : Int32).toNatClampNeg) hF hU dX12_tells_37 30 1251 rfl rfl (g_X12_tells_v1 u x r_3 f_4 f_5 hI hv hvs hf_4 hf_5) (congrFun (hfr.2.1 1251 (by decide)) _) ?_
  refine lv_bipush (v := 60) hF.1 hF.2.1 dX12_tells_38 (by decide) ?_
  refine lv_idiv hF.1 hF.2.1 dX12_tells_40 (by decide) ?_
  refine q_iast hF hU hS dX12_tells_41 16 1224 rfl rfl (q_in (by decide)) (fun f_6 H locs hg9 hU hS => ?_)
  have hf_6 : f_6 = upd (f_5) (2 : Int32).toNatClampNeg ((u.2.1 1251 (x : Int32).toNatClampNeg) / 60) := hg9
  have hfr : qFr [1225] [1224] [] u (qsF (qsF (qsF (qsI u 1225 y) 1224 f_4) 1224 f_5) 1224 f_6) := hfr.setF (by decide)
  refine lv_aload_n hF.1 hF.2.1 dX12_tells_42 rfl (lv_at hl 0 rfl) ?_
  refine q_get (v := .ref (E.2.2 1224)) hF hU dX12_tells_43 0 12 24 1224 1299 rfl rfl rfl rfl inX12 (by decide) (by decide) w_1356 rfl rfl ?_
  refine lv_iconst (v := 3) hF.1 hF.2.1 dX12_tells_46 (by decide) ?_
  refine lv_aload_n hF.1 hF.2.1 dX12_tells_47 rfl (lv_at hl 0 rfl) ?_
  refine q_get (v := .ref (E.2.2 1254)) hF hU dX12_tells_48 0 12 54 1254 1299 rfl rfl rfl rfl inX12 (by decide) (by decide) w_1386 rfl rfl ?_
  refine lv_iload_n hF.1 hF.2.1 dX12_tells_51 rfl (lv_at hl 1 rfl) ?_
  refine q_iald (v := u.2.1 1254 (x : Int32).toNatClampNeg) hF hU dX12_tells_52 33 1254 rfl rfl (g_X12_tells_v2 u x r_3 f_4 f_5 f_6 hI hv hvs hf_4 hf_5 hf_6) (congrFun (hfr.2.1 1254 (by decide)) _) ?_
  refine lv_if_ge (tgt := 60) hF.1 hF.2.1 dX12_tells_53 (by decide) (fun c53_7 => ?_) (fun c53_7 => ?_)
  · refine lv_iconst (v := 1) hF.1 hF.2.1 dX12_tells_60 (by decide) ?_
    refine q_iast hF hU hS dX12_tells_61 16 1224 rfl rfl (q_in (by decide)) (fun f_8 H locs hg9 hU hS => ?_)
    have hf_8 : f_8 = upd (f_6) (3 : Int32).toNatClampNeg 1 := hg9
    have hfr : qFr [1225] [1224] [] u (qsF (qsF (qsF (qsF (qsI u 1225 y) 1224 f_4) 1224 f_5) 1224 f_6) 1224 f_8) := hfr.setF (by decide)
    refine lv_aload_n hF.1 hF.2.1 dX12_tells_62 rfl (lv_at hl 0 rfl) ?_
    refine q_get (v := .ref (E.2.2 1224)) hF hU dX12_tells_63 0 12 24 1224 1299 rfl rfl rfl rfl inX12 (by decide) (by decide) w_1356 rfl rfl ?_
    refine lv_iconst (v := 4) hF.1 hF.2.1 dX12_tells_66 (by decide) ?_
    refine lv_aload_n hF.1 hF.2.1 dX12_tells_67 rfl (lv_at hl 0 rfl) ?_
    refine q_get (v := .ref (E.2.2 1250)) hF hU dX12_tells_68 0 12 50 1250 1299 rfl rfl rfl rfl inX12 (by decide) (by decide) w_1382 rfl rfl ?_
    refine lv_iload_n hF.1 hF.2.1 dX12_tells_71 rfl (lv_at hl 1 rfl) ?_
    refine q_iald (v := u.2.1 1250 (x : Int32).toNatClampNeg) hF hU dX12_tells_72 29 1250 rfl rfl (g_X12_tells_v3 u x r_3 f_4 f_5 f_6 f_8 hI hv hvs hf_4 hf_5 hf_6 c53_7 hf_8) (congrFun (hfr.2.1 1250 (by decide)) _) ?_
    refine lv_bipush (v := 7) hF.1 hF.2.1 dX12_tells_73 (by decide) ?_
    refine lv_idiv hF.1 hF.2.1 dX12_tells_75 (by decide) ?_
    refine lv_bipush (v := 53) hF.1 hF.2.1 dX12_tells_76 (by decide) ?_
    refine lv_irem hF.1 hF.2.1 dX12_tells_78 (by decide) ?_
    refine q_iast hF hU hS dX12_tells_79 16 1224 rfl rfl (q_in (by decide)) (fun f_9 H locs hg9 hU hS => ?_)
    have hf_9 : f_9 = upd (f_8) (4 : Int32).toNatClampNeg (((u.2.1 1250 (x : Int32).toNatClampNeg) / 7) - ((u.2.1 1250 (x : Int32).toNatClampNeg) / 7) / 53 * 53) := hg9
    have hfr : qFr [1225] [1224] [] u (qsF (qsF (qsF (qsF (qsF (qsI u 1225 y) 1224 f_4) 1224 f_5) 1224 f_6) 1224 f_8) 1224 f_9) := hfr.setF (by decide)
    refine lv_aload_n hF.1 hF.2.1 dX12_tells_80 rfl (lv_at hl 0 rfl) ?_
    refine q_get (v := .ref (E.2.2 1224)) hF hU dX12_tells_81 0 12 24 1224 1299 rfl rfl rfl rfl inX12 (by decide) (by decide) w_1356 rfl rfl ?_
    refine lv_iconst (v := 5) hF.1 hF.2.1 dX12_tells_84 (by decide) ?_
    refine lv_iload_n hF.1 hF.2.1 dX12_tells_85 rfl (lv_at hl 3 rfl) ?_
    refine q_iast hF hU hS dX12_tells_86 16 1224 rfl rfl (q_in (by decide)) (fun f_10 H locs hg9 hU hS => ?_)
    have hf_10 : f_10 = upd (f_9) (5 : Int32).toNatClampNeg z := hg9
    have hfr : qFr [1225] [1224] [] u (qsF (qsF (qsF (qsF (qsF (qsF (qsI u 1225 y) 1224 f_4) 1224 f_5) 1224 f_6) 1224 f_8) 1224 f_9) 1224 f_10) := hfr.setF (by decide)
    exact q_vret hF hr hlocks hU hS dX12_tells_87 ⟨hfr, trivial⟩
  · refine lv_iconst (v := 0) hF.1 hF.2.1 dX12_tells_56 (by decide) ?_
    refine lv_goto (tgt := 61) hF.1 hF.2.1 dX12_tells_57 (by decide) ?_
    refine q_iast hF hU hS dX12_tells_61 16 1224 rfl rfl (q_in (by decide)) (fun f_11 H locs hg9 hU hS => ?_)
    have hf_11 : f_11 = upd (f_6) (3 : Int32).toNatClampNeg 0 := hg9
    have hfr : qFr [1225] [1224] [] u (qsF (qsF (qsF (qsF (qsI u 1225 y) 1224 f_4) 1224 f_5) 1224 f_6) 1224 f_11) := hfr.setF (by decide)
    refine lv_aload_n hF.1 hF.2.1 dX12_tells_62 rfl (lv_at hl 0 rfl) ?_
    refine q_get (v := .ref (E.2.2 1224)) hF hU dX12_tells_63 0 12 24 1224 1299 rfl rfl rfl rfl inX12 (by decide) (by decide) w_1356 rfl rfl ?_
    refine lv_iconst (v := 4) hF.1 hF.2.1 dX12_tells_66 (by decide) ?_
    refine lv_aload_n hF.1 hF.2.1 dX12_tells_67 rfl (lv_at hl 0 rfl) ?_
    refine q_get (v := .ref (E.2.2 1250)) hF hU dX12_tells_68 0 12 50 1250 1299 rfl rfl rfl rfl inX12 (by decide) (by decide) w_1382 rfl rfl ?_
    refine lv_iload_n hF.1 hF.2.1 dX12_tells_71 rfl (lv_at hl 1 rfl) ?_
    refine q_iald (v := u.2.1 1250 (x : Int32).toNatClampNeg) hF hU dX12_tells_72 29 1250 rfl rfl (g_X12_tells_v4 u x r_3 f_4 f_5 f_6 f_11 hI hv hvs hf_4 hf_5 hf_6 c53_7 hf_11) (congrFun (hfr.2.1 1250 (by decide)) _) ?_
    refine lv_bipush (v := 7) hF.1 hF.2.1 dX12_tells_73 (by decide) ?_
    refine lv_idiv hF.1 hF.2.1 dX12_tells_75 (by decide) ?_
    refine lv_bipush (v := 53) hF.1 hF.2.1 dX12_tells_76 (by decide) ?_
    refine lv_irem hF.1 hF.2.1 dX12_tells_78 (by decide) ?_
    refine q_iast hF hU hS dX12_tells_79 16 1224 rfl rfl (q_in (by decide)) (fun f_12 H locs hg9 hU hS => ?_)
    have hf_12 : f_12 = upd (f_11) (4 : Int32).toNatClampNeg (((u.2.1 1250 (x : Int32).toNatClampNeg) / 7) - ((u.2.1 1250 (x : Int32).toNatClampNeg) / 7) / 53 * 53) := hg9
    have hfr : qFr [1225] [1224] [] u (qsF (qsF (qsF (qsF (qsF (qsI u 1225 y) 1224 f_4) 1224 f_5) 1224 f_6) 1224 f_11) 1224 f_12) := hfr.setF (by decide)
    refine lv_aload_n hF.1 hF.2.1 dX12_tells_80 rfl (lv_at hl 0 rfl) ?_
    refine q_get (v := .ref (E.2.2 1224)) hF hU dX12_tells_81 0 12 24 1224 1299 rfl rfl rfl rfl inX12 (by decide) (by decide) w_1356 rfl rfl ?_
    refine lv_iconst (v := 5) hF.1 hF.2.1 dX12_tells_84 (by decide) ?_
    refine lv_iload_n hF.1 hF.2.1 dX12_tells_85 rfl (lv_at hl 3 rfl) ?_
    refine q_iast hF hU hS dX12_tells_86 16 1224 rfl rfl (q_in (by decide)) (fun f_13 H locs hg9 hU hS => ?_)
    have hf_13 : f_13 = upd (f_12) (5 : Int32).toNatClampNeg z := hg9
    have hfr : qFr [1225] [1224] [] u (qsF (qsF (qsF (qsF (qsF (qsF (qsI u 1225 y) 1224 f_4) 1224 f_5) 1224 f_6) 1224 f_11) 1224 f_12) 1224 f_13) := hfr.setF (by decide)
    exact q_vret hF hr hlocks hU hS dX12_tells_87 ⟨hfr, trivial⟩
set_option maxHeartbeats 1000000 in
set_option maxRecDepth 100000 in
theorem g_X12_both (l : Launch) (E : qE) (A : Nat → Prop) (u : qS) (x : Int32) (y : Int32) (z : Int32) : Met l yX12_both (uws yX12_both cX12_both 3 (some .int)) (qR 0 0 0) (qPc E A 1 u [.int x, .int y, .int z]) (qQi E A 1 (fun r u1 => u1 = u ∧ (True))) 0 0 A := by
  refine q_met (own := RX12) (f := 0) [.int x, .int y, .int z] (by decide) (Nat.le_of_ble_eq_true rfl) rfl ?_
  intro p0 e0 s0 m0 bl0 me0 cd0 ls hF hr hlocks hU hS hA hl
  have hl : lv_has ls 3 [(0, .int x), (1, .int y), (2, .int z)] := hl
  refine lv_iload_n hF.1 hF.2.1 dX12_both_0 rfl (lv_at hl 0 rfl) ?_
  rcases q_sw6_11 (x) with sw_1 | sw_1 | sw_1 | sw_1 | sw_1 | sw_1 | sw_1
  · refine lv_tableIn (off := 39) (tgt := 40) hF.1 hF.2.1 dX12_both_1 (by rw [sw_1]; decide) (by rw [sw_1]; decide) (by rw [sw_1]; rfl) (by decide) ?_
    refine lv_iload_n hF.1 hF.2.1 dX12_both_40 rfl (lv_at hl 1 rfl) ?_
    refine lv_iload_n hF.1 hF.2.1 dX12_both_41 rfl (lv_at hl 2 rfl) ?_
    refine lv_iadd hF.1 hF.2.1 dX12_both_42 ?_
    exact q_iret hF hr rfl hlocks hU hS dX12_both_43 ⟨rfl, trivial⟩
  · refine lv_tableIn (off := 43) (tgt := 44) hF.1 hF.2.1 dX12_both_1 (by rw [sw_1]; decide) (by rw [sw_1]; decide) (by rw [sw_1]; rfl) (by decide) ?_
    refine lv_iload_n hF.1 hF.2.1 dX12_both_44 rfl (lv_at hl 1 rfl) ?_
    refine lv_iload_n hF.1 hF.2.1 dX12_both_45 rfl (lv_at hl 2 rfl) ?_
    refine lv_isub hF.1 hF.2.1 dX12_both_46 ?_
    exact q_iret hF hr rfl hlocks hU hS dX12_both_47 ⟨rfl, trivial⟩
  · refine lv_tableIn (off := 47) (tgt := 48) hF.1 hF.2.1 dX12_both_1 (by rw [sw_1]; decide) (by rw [sw_1]; decide) (by rw [sw_1]; rfl) (by decide) ?_
    refine lv_iload_n hF.1 hF.2.1 dX12_both_48 rfl (lv_at hl 1 rfl) ?_
    refine lv_iload_n hF.1 hF.2.1 dX12_both_49 rfl (lv_at hl 2 rfl) ?_
    refine lv_imul hF.1 hF.2.1 dX12_both_50 ?_
    exact q_iret hF hr rfl hlocks hU hS dX12_both_51 ⟨rfl, trivial⟩
  · refine lv_tableIn (off := 51) (tgt := 52) hF.1 hF.2.1 dX12_both_1 (by rw [sw_1]; decide) (by rw [sw_1]; decide) (by rw [sw_1]; rfl) (by decide) ?_
    refine lv_iload_n hF.1 hF.2.1 dX12_both_52 rfl (lv_at hl 1 rfl) ?_
    refine lv_iload_n hF.1 hF.2.1 dX12_both_53 rfl (lv_at hl 2 rfl) ?_
    refine lv_icmp_ge (tgt := 61) hF.1 hF.2.1 dX12_both_54 (by decide) (fun c54_2 => ?_) (fun c54_2 => ?_)
    · refine lv_iconst (v := 0) hF.1 hF.2.1 dX12_both_61 (by decide) ?_
      exact q_iret hF hr rfl hlocks hU hS dX12_both_62 ⟨rfl, trivial⟩
    · refine lv_iconst (v := 1) hF.1 hF.2.1 dX12_both_57 (by decide) ?_
      refine lv_goto (tgt := 62) hF.1 hF.2.1 dX12_both_58 (by decide) ?_
      exact q_iret hF hr rfl hlocks hU hS dX12_both_62 ⟨rfl, trivial⟩
  · refine lv_tableIn (off := 62) (tgt := 63) hF.1 hF.2.1 dX12_both_1 (by rw [sw_1]; decide) (by rw [sw_1]; decide) (by rw [sw_1]; rfl) (by decide) ?_
    refine lv_iload_n hF.1 hF.2.1 dX12_both_63 rfl (lv_at hl 1 rfl) ?_
    refine lv_iload_n hF.1 hF.2.1 dX12_both_64 rfl (lv_at hl 2 rfl) ?_
    refine lv_icmp_ne (tgt := 72) hF.1 hF.2.1 dX12_both_65 (by decide) (fun c65_3 => ?_) (fun c65_3 => ?_)
    · refine lv_iconst (v := 0) hF.1 hF.2.1 dX12_both_72 (by decide) ?_
      exact q_iret hF hr rfl hlocks hU hS dX12_both_73 ⟨rfl, trivial⟩
    · refine lv_iconst (v := 1) hF.1 hF.2.1 dX12_both_68 (by decide) ?_
      refine lv_goto (tgt := 73) hF.1 hF.2.1 dX12_both_69 (by decide) ?_
      exact q_iret hF hr rfl hlocks hU hS dX12_both_73 ⟨rfl, trivial⟩
  · refine lv_tableIn (off := 73) (tgt := 74) hF.1 hF.2.1 dX12_both_1 (by rw [sw_1]; decide) (by rw [sw_1]; decide) (by rw [sw_1]; rfl) (by decide) ?_
    refine lv_iload_n hF.1 hF.2.1 dX12_both_74 rfl (lv_at hl 1 rfl) ?_
    refine lv_if_eq (tgt := 86) hF.1 hF.2.1 dX12_both_75 (by decide) (fun c75_4 => ?_) (fun c75_4 => ?_)
    · refine lv_iconst (v := 0) hF.1 hF.2.1 dX12_both_86 (by decide) ?_
      exact q_iret hF hr rfl hlocks hU hS dX12_both_87 ⟨rfl, trivial⟩
    · refine lv_iload_n hF.1 hF.2.1 dX12_both_78 rfl (lv_at hl 2 rfl) ?_
      refine lv_if_eq (tgt := 86) hF.1 hF.2.1 dX12_both_79 (by decide) (fun c79_5 => ?_) (fun c79_5 => ?_)
      · refine lv_iconst (v := 0) hF.1 hF.2.1 dX12_both_86 (by decide) ?_
        exact q_iret hF hr rfl hlocks hU hS dX12_both_87 ⟨rfl, trivial⟩
      · refine lv_iconst (v := 1) hF.1 hF.2.1 dX12_both_82 (by decide) ?_
        refine lv_goto (tgt := 87) hF.1 hF.2.1 dX12_both_83 (by decide) ?_
        exact q_iret hF hr rfl hlocks hU hS dX12_both_87 ⟨rfl, trivial⟩
  · refine lv_tableOut (tgt := 88) hF.1 hF.2.1 dX12_both_1 sw_1 (by decide) ?_
    refine lv_iload_n hF.1 hF.2.1 dX12_both_88 rfl (lv_at hl 1 rfl) ?_
    refine lv_if_ne (tgt := 96) hF.1 hF.2.1 dX12_both_89 (by decide) (fun c89_6 => ?_) (fun c89_6 => ?_)
    · refine lv_iconst (v := 1) hF.1 hF.2.1 dX12_both_96 (by decide) ?_
      refine lv_goto (tgt := 101) hF.1 hF.2.1 dX12_both_97 (by decide) ?_
      exact q_iret hF hr rfl hlocks hU hS dX12_both_101 ⟨rfl, trivial⟩
    · refine lv_iload_n hF.1 hF.2.1 dX12_both_92 rfl (lv_at hl 2 rfl) ?_
      refine lv_if_eq (tgt := 100) hF.1 hF.2.1 dX12_both_93 (by decide) (fun c93_7 => ?_) (fun c93_7 => ?_)
      · refine lv_iconst (v := 0) hF.1 hF.2.1 dX12_both_100 (by decide) ?_
        exact q_iret hF hr rfl hlocks hU hS dX12_both_101 ⟨rfl, trivial⟩
      · refine lv_iconst (v := 1) hF.1 hF.2.1 dX12_both_96 (by decide) ?_
        refine lv_goto (tgt := 101) hF.1 hF.2.1 dX12_both_97 (by decide) ?_
        exact q_iret hF hr rfl hlocks hU hS dX12_both_101 ⟨rfl, trivial⟩
set_option maxRecDepth 100000 in
theorem g_X12_worth_v0 (u : qS) (x : Int32) (x2 : Int32) (x3 : Int32) (hg : g_gf (u.2.1 1222) (u.2.1 1223) x) (h_w : g_wk (u.2.1 1222) (u.2.1 1223) x3 x2) : vp_in (x3) 20400 := by
  have q2 := g_wk_r h_w
  refine g_in ?_ ?_ <;> ((try simp only [Int32.lt_iff_toInt_lt, Int32.le_iff_toInt_le, ← Int32.toInt_inj, Int32.toInt_add, Int32.toInt_sub, Int32.toInt_mul, Int32.toInt_neg, Int32.reduceToInt, g_bm, g_bm'] at *); omega)
set_option maxRecDepth 100000 in
theorem g_X12_worth_v1 (u : qS) (x : Int32) (x2 : Int32) (x3 : Int32) (hg : g_gf (u.2.1 1222) (u.2.1 1223) x) (h_w : g_wk (u.2.1 1222) (u.2.1 1223) x3 x2) (c10_1 : ¬ (u.2.1 1222 (x3 : Int32).toNatClampNeg : Int32) = 0) : vp_in (x3) 20400 := by
  have q2 := g_wk_r h_w
  refine g_in ?_ ?_ <;> ((try simp only [Int32.lt_iff_toInt_lt, Int32.le_iff_toInt_le, ← Int32.toInt_inj, Int32.toInt_add, Int32.toInt_sub, Int32.toInt_mul, Int32.toInt_neg, Int32.reduceToInt, g_bm, g_bm'] at *); omega)
set_option maxRecDepth 100000 in
theorem g_X12_worth_v2 (u : qS) (x : Int32) (x2 : Int32) (x3 : Int32) (hg : g_gf (u.2.1 1222) (u.2.1 1223) x) (h_w : g_wk (u.2.1 1222) (u.2.1 1223) x3 x2) (c10_1 : ¬ (u.2.1 1222 (x3 : Int32).toNatClampNeg : Int32) = 0) (c24_2 : 4 < (u.2.1 1222 (x3 : Int32).toNatClampNeg : Int32)) (c110_3 : ¬ (u.2.1 1222 (x3 : Int32).toNatClampNeg : Int32) = 5) : vp_in ((x2 + (-1)) - 1) 1200 := by
  have q := g_wk_c h_w (by assumption) (by assumption) (by assumption)
  have q2 := g_wk_r h_w
  clear h_w; obtain ⟨q, -⟩ := q; refine g_in ?_ ?_ <;> ((try simp only [Int32.lt_iff_toInt_lt, Int32.le_iff_toInt_le, ← Int32.toInt_inj, Int32.toInt_add, Int32.toInt_sub, Int32.toInt_mul, Int32.toInt_neg, Int32.reduceToInt, g_bm, g_bm'] at *); omega)
set_option maxRecDepth 100000 in
theorem g_X12_worth_v3 (u : qS) (x : Int32) (x2 : Int32) (x3 : Int32) (hg : g_gf (u.2.1 1222) (u.2.1 1223) x) (h_w : g_wk (u.2.1 1222) (u.2.1 1223) x3 x2) (c10_1 : ¬ (u.2.1 1222 (x3 : Int32).toNatClampNeg : Int32) = 0) (c24_2 : 4 < (u.2.1 1222 (x3 : Int32).toNatClampNeg : Int32)) (c110_3 : ¬ (u.2.1 1222 (x3 : Int32).toNatClampNeg : Int32) = 5) : vp_in (x2 + (-1)) 1200 := by
  have q := g_wk_c h_w (by assumption) (by assumption) (by assumption)
  have q2 := g_wk_r h_w
  clear h_w; obtain ⟨q, -⟩ := q; refine g_in ?_ ?_ <;> ((try simp only [Int32.lt_iff_toInt_lt, Int32.le_iff_toInt_le, ← Int32.toInt_inj, Int32.toInt_add, Int32.toInt_sub, Int32.toInt_mul, Int32.toInt_neg, Int32.reduceToInt, g_bm, g_bm'] at *); omega)
set_option maxRecDepth 100000 in
theorem g_X12_worth_v4 (u : qS) (x : Int32) (x2 : Int32) (x3 : Int32) (hg : g_gf (u.2.1 1222) (u.2.1 1223) x) (h_w : g_wk (u.2.1 1222) (u.2.1 1223) x3 x2) (c10_1 : ¬ (u.2.1 1222 (x3 : Int32).toNatClampNeg : Int32) = 0) (c24_2 : 4 < (u.2.1 1222 (x3 : Int32).toNatClampNeg : Int32)) (c110_3 : ¬ (u.2.1 1222 (x3 : Int32).toNatClampNeg : Int32) = 5) : vp_in ((x2 + (-1)) - 1) 1200 := by
  have q := g_wk_c h_w (by assumption) (by assumption) (by assumption)
  have q2 := g_wk_r h_w
  clear h_w; obtain ⟨q, -⟩ := q; refine g_in ?_ ?_ <;> ((try simp only [Int32.lt_iff_toInt_lt, Int32.le_iff_toInt_le, ← Int32.toInt_inj, Int32.toInt_add, Int32.toInt_sub, Int32.toInt_mul, Int32.toInt_neg, Int32.reduceToInt, g_bm, g_bm'] at *); omega)
set_option maxRecDepth 100000 in
theorem g_X12_worth_v5 (u : qS) (x : Int32) (x2 : Int32) (x3 : Int32) (uc : qS) (r_6 : Int32) (f_7 : Nat → Int32) (hg : g_gf (u.2.1 1222) (u.2.1 1223) x) (h_w : g_wk (u.2.1 1222) (u.2.1 1223) x3 x2) (c10_1 : ¬ (u.2.1 1222 (x3 : Int32).toNatClampNeg : Int32) = 0) (c24_2 : 4 < (u.2.1 1222 (x3 : Int32).toNatClampNeg : Int32)) (c110_3 : ¬ (u.2.1 1222 (x3 : Int32).toNatClampNeg : Int32) = 5) (hf_7 : f_7 = upd (uc.2.1 1227) ((x2 + (-1)) - 1 : Int32).toNatClampNeg r_6) : g_wk (u.2.1 1222) (u.2.1 1223) (x3 + 1) (x2 + (-1)) := by
  first | (have q := g_wk_c h_w (by assumption) (by assumption) (by assumption); exact q.2) | (have q := g_wk_b h_w (by assumption); exact q.2) | (have q := g_wk_a h_w (by assumption) (by assumption); exact q.2.2)
set_option maxRecDepth 100000 in
theorem g_X12_worth_v6 (u : qS) (x : Int32) (x2 : Int32) (x3 : Int32) (uc : qS) (r_6 : Int32) (f_7 : Nat → Int32) (hg : g_gf (u.2.1 1222) (u.2.1 1223) x) (h_w : g_wk (u.2.1 1222) (u.2.1 1223) x3 x2) (c10_1 : ¬ (u.2.1 1222 (x3 : Int32).toNatClampNeg : Int32) = 0) (c24_2 : 4 < (u.2.1 1222 (x3 : Int32).toNatClampNeg : Int32)) (c110_3 : ¬ (u.2.1 1222 (x3 : Int32).toNatClampNeg : Int32) = 5) (hf_7 : f_7 = upd (uc.2.1 1227) ((x2 + (-1)) - 1 : Int32).toNatClampNeg r_6) : 20400 - (x3 + 1).toNatClampNeg < 20400 - x3.toNatClampNeg := by
  have q2 := g_wk_r h_w
  have q3 := g_up q2.1.1 (by omega)
  have q4 := g_clamp x3
  omega
set_option maxRecDepth 100000 in
theorem g_X12_worth_v7 (u : qS) (x : Int32) (x2 : Int32) (x3 : Int32) (hg : g_gf (u.2.1 1222) (u.2.1 1223) x) (h_w : g_wk (u.2.1 1222) (u.2.1 1223) x3 x2) (c10_1 : ¬ (u.2.1 1222 (x3 : Int32).toNatClampNeg : Int32) = 0) (c24_2 : 4 < (u.2.1 1222 (x3 : Int32).toNatClampNeg : Int32)) (c110_3 : (u.2.1 1222 (x3 : Int32).toNatClampNeg : Int32) = 5) : vp_in (x2 - 1) 1200 := by
  have q := g_wk_b h_w (by assumption)
  have q2 := g_wk_r h_w
  clear h_w; obtain ⟨q, -⟩ := q; refine g_in ?_ ?_ <;> ((try simp only [Int32.lt_iff_toInt_lt, Int32.le_iff_toInt_le, ← Int32.toInt_inj, Int32.toInt_add, Int32.toInt_sub, Int32.toInt_mul, Int32.toInt_neg, Int32.reduceToInt, g_bm, g_bm'] at *); omega)
set_option maxRecDepth 100000 in
theorem g_X12_worth_v8 (u : qS) (x : Int32) (x2 : Int32) (x3 : Int32) (uc : qS) (hg : g_gf (u.2.1 1222) (u.2.1 1223) x) (h_w : g_wk (u.2.1 1222) (u.2.1 1223) x3 x2) (c10_1 : ¬ (u.2.1 1222 (x3 : Int32).toNatClampNeg : Int32) = 0) (c24_2 : 4 < (u.2.1 1222 (x3 : Int32).toNatClampNeg : Int32)) (c110_3 : (u.2.1 1222 (x3 : Int32).toNatClampNeg : Int32) = 5) (c128_8 : ¬ (uc.2.1 1227 (x2 - 1 : Int32).toNatClampNeg : Int32) = 0) : vp_in (x2 - 1) 1200 := by
  have q := g_wk_b h_w (by assumption)
  have q2 := g_wk_r h_w
  clear h_w; obtain ⟨q, -⟩ := q; refine g_in ?_ ?_ <;> ((try simp only [Int32.lt_iff_toInt_lt, Int32.le_iff_toInt_le, ← Int32.toInt_inj, Int32.toInt_add, Int32.toInt_sub, Int32.toInt_mul, Int32.toInt_neg, Int32.reduceToInt, g_bm, g_bm'] at *); omega)
set_option maxRecDepth 100000 in
theorem g_X12_worth_v9 (u : qS) (x : Int32) (x2 : Int32) (x3 : Int32) (uc : qS) (f_9 : Nat → Int32) (hg : g_gf (u.2.1 1222) (u.2.1 1223) x) (h_w : g_wk (u.2.1 1222) (u.2.1 1223) x3 x2) (c10_1 : ¬ (u.2.1 1222 (x3 : Int32).toNatClampNeg : Int32) = 0) (c24_2 : 4 < (u.2.1 1222 (x3 : Int32).toNatClampNeg : Int32)) (c110_3 : (u.2.1 1222 (x3 : Int32).toNatClampNeg : Int32) = 5) (c128_8 : ¬ (uc.2.1 1227 (x2 - 1 : Int32).toNatClampNeg : Int32) = 0) (hf_9 : f_9 = upd (uc.2.1 1227) (x2 - 1 : Int32).toNatClampNeg 0) : g_wk (u.2.1 1222) (u.2.1 1223) (x3 + 1) x2 := by
  first | (have q := g_wk_c h_w (by assumption) (by assumption) (by assumption); exact q.2) | (have q := g_wk_b h_w (by assumption); exact q.2) | (have q := g_wk_a h_w (by assumption) (by assumption); exact q.2.2)
set_option maxRecDepth 100000 in
theorem g_X12_worth_v10 (u : qS) (x : Int32) (x2 : Int32) (x3 : Int32) (uc : qS) (f_9 : Nat → Int32) (hg : g_gf (u.2.1 1222) (u.2.1 1223) x) (h_w : g_wk (u.2.1 1222) (u.2.1 1223) x3 x2) (c10_1 : ¬ (u.2.1 1222 (x3 : Int32).toNatClampNeg : Int32) = 0) (c24_2 : 4 < (u.2.1 1222 (x3 : Int32).toNatClampNeg : Int32)) (c110_3 : (u.2.1 1222 (x3 : Int32).toNatClampNeg : Int32) = 5) (c128_8 : ¬ (uc.2.1 1227 (x2 - 1 : Int32).toNatClampNeg : Int32) = 0) (hf_9 : f_9 = upd (uc.2.1 1227) (x2 - 1 : Int32).toNatClampNeg 0) : 20400 - (x3 + 1).toNatClampNeg < 20400 - x3.toNatClampNeg := by
  have q2 := g_wk_r h_w
  have q3 := g_up q2.1.1 (by omega)
  have q4 := g_clamp x3
  omega
set_option maxRecDepth 100000 in
theorem g_X12_worth_v11 (u : qS) (x : Int32) (x2 : Int32) (x3 : Int32) (uc : qS) (hg : g_gf (u.2.1 1222) (u.2.1 1223) x) (h_w : g_wk (u.2.1 1222) (u.2.1 1223) x3 x2) (c10_1 : ¬ (u.2.1 1222 (x3 : Int32).toNatClampNeg : Int32) = 0) (c24_2 : 4 < (u.2.1 1222 (x3 : Int32).toNatClampNeg : Int32)) (c110_3 : (u.2.1 1222 (x3 : Int32).toNatClampNeg : Int32) = 5) (c128_8 : (uc.2.1 1227 (x2 - 1 : Int32).toNatClampNeg : Int32) = 0) : vp_in (x2 - 1) 1200 := by
  have q := g_wk_b h_w (by assumption)
  have q2 := g_wk_r h_w
  clear h_w; obtain ⟨q, -⟩ := q; refine g_in ?_ ?_ <;> ((try simp only [Int32.lt_iff_toInt_lt, Int32.le_iff_toInt_le, ← Int32.toInt_inj, Int32.toInt_add, Int32.toInt_sub, Int32.toInt_mul, Int32.toInt_neg, Int32.reduceToInt, g_bm, g_bm'] at *); omega)
set_option maxRecDepth 100000 in
theorem g_X12_worth_v12 (u : qS) (x : Int32) (x2 : Int32) (x3 : Int32) (uc : qS) (f_10 : Nat → Int32) (hg : g_gf (u.2.1 1222) (u.2.1 1223) x) (h_w : g_wk (u.2.1 1222) (u.2.1 1223) x3 x2) (c10_1 : ¬ (u.2.1 1222 (x3 : Int32).toNatClampNeg : Int32) = 0) (c24_2 : 4 < (u.2.1 1222 (x3 : Int32).toNatClampNeg : Int32)) (c110_3 : (u.2.1 1222 (x3 : Int32).toNatClampNeg : Int32) = 5) (c128_8 : (uc.2.1 1227 (x2 - 1 : Int32).toNatClampNeg : Int32) = 0) (hf_10 : f_10 = upd (uc.2.1 1227) (x2 - 1 : Int32).toNatClampNeg 1) : g_wk (u.2.1 1222) (u.2.1 1223) (x3 + 1) x2 := by
  first | (have q := g_wk_c h_w (by assumption) (by assumption) (by assumption); exact q.2) | (have q := g_wk_b h_w (by assumption); exact q.2) | (have q := g_wk_a h_w (by assumption) (by assumption); exact q.2.2)
set_option maxRecDepth 100000 in
theorem g_X12_worth_v13 (u : qS) (x : Int32) (x2 : Int32) (x3 : Int32) (uc : qS) (f_10 : Nat → Int32) (hg : g_gf (u.2.1 1222) (u.2.1 1223) x) (h_w : g_wk (u.2.1 1222) (u.2.1 1223) x3 x2) (c10_1 : ¬ (u.2.1 1222 (x3 : Int32).toNatClampNeg : Int32) = 0) (c24_2 : 4 < (u.2.1 1222 (x3 : Int32).toNatClampNeg : Int32)) (c110_3 : (u.2.1 1222 (x3 : Int32).toNatClampNeg : Int32) = 5) (c128_8 : (uc.2.1 1227 (x2 - 1 : Int32).toNatClampNeg : Int32) = 0) (hf_10 : f_10 = upd (uc.2.1 1227) (x2 - 1 : Int32).toNatClampNeg 1) : 20400 - (x3 + 1).toNatClampNeg < 20400 - x3.toNatClampNeg := by
  have q2 := g_wk_r h_w
  have q3 := g_up q2.1.1 (by omega)
  have q4 := g_clamp x3
  omega
set_option maxRecDepth 100000 in
theorem g_X12_worth_v14 (u : qS) (x : Int32) (x2 : Int32) (x3 : Int32) (hg : g_gf (u.2.1 1222) (u.2.1 1223) x) (h_w : g_wk (u.2.1 1222) (u.2.1 1223) x3 x2) (c10_1 : ¬ (u.2.1 1222 (x3 : Int32).toNatClampNeg : Int32) = 0) (c24_2 : ¬ 4 < (u.2.1 1222 (x3 : Int32).toNatClampNeg : Int32)) (c35_11 : ¬ (u.2.1 1222 (x3 : Int32).toNatClampNeg : Int32) = 1) (c50_12 : ¬ (u.2.1 1222 (x3 : Int32).toNatClampNeg : Int32) = 2) (c70_13 : ¬ (u.2.1 1222 (x3 : Int32).toNatClampNeg : Int32) = 3) : vp_in (x3) 20400 := by
  have q2 := g_wk_r h_w
  refine g_in ?_ ?_ <;> ((try simp only [Int32.lt_iff_toInt_lt, Int32.le_iff_toInt_le, ← Int32.toInt_inj, Int32.toInt_add, Int32.toInt_sub, Int32.toInt_mul, Int32.toInt_neg, Int32.reduceToInt, g_bm, g_bm'] at *); omega)
set_option maxRecDepth 100000 in
theorem g_X12_worth_v15 (u : qS) (x : Int32) (x2 : Int32) (x3 : Int32) (hg : g_gf (u.2.1 1222) (u.2.1 1223) x) (h_w : g_wk (u.2.1 1222) (u.2.1 1223) x3 x2) (c10_1 : ¬ (u.2.1 1222 (x3 : Int32).toNatClampNeg : Int32) = 0) (c24_2 : ¬ 4 < (u.2.1 1222 (x3 : Int32).toNatClampNeg : Int32)) (c35_11 : ¬ (u.2.1 1222 (x3 : Int32).toNatClampNeg : Int32) = 1) (c50_12 : ¬ (u.2.1 1222 (x3 : Int32).toNatClampNeg : Int32) = 2) (c70_13 : ¬ (u.2.1 1222 (x3 : Int32).toNatClampNeg : Int32) = 3) : vp_in (x2) 1200 := by
  have q2 := g_wk_r h_w
  refine g_in ?_ ?_ <;> ((try simp only [Int32.lt_iff_toInt_lt, Int32.le_iff_toInt_le, ← Int32.toInt_inj, Int32.toInt_add, Int32.toInt_sub, Int32.toInt_mul, Int32.toInt_neg, Int32.reduceToInt, g_bm, g_bm'] at *); omega)
set_option maxRecDepth 100000 in
theorem g_X12_worth_v16 (u : qS) (x : Int32) (x2 : Int32) (x3 : Int32) (uc : qS) (f_14 : Nat → Int32) (hg : g_gf (u.2.1 1222) (u.2.1 1223) x) (h_w : g_wk (u.2.1 1222) (u.2.1 1223) x3 x2) (c10_1 : ¬ (u.2.1 1222 (x3 : Int32).toNatClampNeg : Int32) = 0) (c24_2 : ¬ 4 < (u.2.1 1222 (x3 : Int32).toNatClampNeg : Int32)) (c35_11 : ¬ (u.2.1 1222 (x3 : Int32).toNatClampNeg : Int32) = 1) (c50_12 : ¬ (u.2.1 1222 (x3 : Int32).toNatClampNeg : Int32) = 2) (c70_13 : ¬ (u.2.1 1222 (x3 : Int32).toNatClampNeg : Int32) = 3) (hf_14 : f_14 = upd (uc.2.1 1227) (x2 : Int32).toNatClampNeg (((u.1 1225) >>> (u.2.1 1223 (x3 : Int32).toNatClampNeg &&& 31)) &&& 1)) : g_wk (u.2.1 1222) (u.2.1 1223) (x3 + 1) (x2 + 1) := by
  first | (have q := g_wk_c h_w (by assumption) (by assumption) (by assumption); exact q.2) | (have q := g_wk_b h_w (by assumption); exact q.2) | (have q := g_wk_a h_w (by assumption) (by assumption); exact q.2.2)
set_option maxRecDepth 100000 in
theorem g_X12_worth_v17 (u : qS) (x : Int32) (x2 : Int32) (x3 : Int32) (uc : qS) (f_14 : Nat → Int32) (hg : g_gf (u.2.1 1222) (u.2.1 1223) x) (h_w : g_wk (u.2.1 1222) (u.2.1 1223) x3 x2) (c10_1 : ¬ (u.2.1 1222 (x3 : Int32).toNatClampNeg : Int32) = 0) (c24_2 : ¬ 4 < (u.2.1 1222 (x3 : Int32).toNatClampNeg : Int32)) (c35_11 : ¬ (u.2.1 1222 (x3 : Int32).toNatClampNeg : Int32) = 1) (c50_12 : ¬ (u.2.1 1222 (x3 : Int32).toNatClampNeg : Int32) = 2) (c70_13 : ¬ (u.2.1 1222 (x3 : Int32).toNatClampNeg : Int32) = 3) (hf_14 : f_14 = upd (uc.2.1 1227) (x2 : Int32).toNatClampNeg (((u.1 1225) >>> (u.2.1 1223 (x3 : Int32).toNatClampNeg &&& 31)) &&& 1)) : 20400 - (x3 + 1).toNatClampNeg < 20400 - x3.toNatClampNeg := by
  have q2 := g_wk_r h_w
  have q3 := g_up q2.1.1 (by omega)
  have q4 := g_clamp x3
  omega
set_option maxRecDepth 100000 in
theorem g_X12_worth_v18 (u : qS) (x : Int32) (x2 : Int32) (x3 : Int32) (hg : g_gf (u.2.1 1222) (u.2.1 1223) x) (h_w : g_wk (u.2.1 1222) (u.2.1 1223) x3 x2) (c10_1 : ¬ (u.2.1 1222 (x3 : Int32).toNatClampNeg : Int32) = 0) (c24_2 : ¬ 4 < (u.2.1 1222 (x3 : Int32).toNatClampNeg : Int32)) (c35_11 : ¬ (u.2.1 1222 (x3 : Int32).toNatClampNeg : Int32) = 1) (c50_12 : ¬ (u.2.1 1222 (x3 : Int32).toNatClampNeg : Int32) = 2) (c70_13 : (u.2.1 1222 (x3 : Int32).toNatClampNeg : Int32) = 3) : vp_in (x3) 20400 := by
  have q2 := g_wk_r h_w
  refine g_in ?_ ?_ <;> ((try simp only [Int32.lt_iff_toInt_lt, Int32.le_iff_toInt_le, ← Int32.toInt_inj, Int32.toInt_add, Int32.toInt_sub, Int32.toInt_mul, Int32.toInt_neg, Int32.reduceToInt, g_bm, g_bm'] at *); omega)
set_option maxRecDepth 100000 in
theorem g_X12_worth_v19 (u : qS) (x : Int32) (x2 : Int32) (x3 : Int32) (hg : g_gf (u.2.1 1222) (u.2.1 1223) x) (h_w : g_wk (u.2.1 1222) (u.2.1 1223) x3 x2) (c10_1 : ¬ (u.2.1 1222 (x3 : Int32).toNatClampNeg : Int32) = 0) (c24_2 : ¬ 4 < (u.2.1 1222 (x3 : Int32).toNatClampNeg : Int32)) (c35_11 : ¬ (u.2.1 1222 (x3 : Int32).toNatClampNeg : Int32) = 1) (c50_12 : ¬ (u.2.1 1222 (x3 : Int32).toNatClampNeg : Int32) = 2) (c70_13 : (u.2.1 1222 (x3 : Int32).toNatClampNeg : Int32) = 3) : vp_in (u.2.1 1223 (x3 : Int32).toNatClampNeg) 8 := by
  have q := (g_wk_a h_w (by assumption) (by assumption)).2.1 (by assumption)
  refine g_in ?_ ?_ <;> ((try simp only [Int32.lt_iff_toInt_lt, Int32.le_iff_toInt_le, ← Int32.toInt_inj, Int32.toInt_add, Int32.toInt_sub, Int32.toInt_mul, Int32.toInt_neg, Int32.reduceToInt, g_bm, g_bm'] at *); omega)
set_option maxRecDepth 100000 in
theorem g_X12_worth_v20 (u : qS) (x : Int32) (x2 : Int32) (x3 : Int32) (hg : g_gf (u.2.1 1222) (u.2.1 1223) x) (h_w : g_wk (u.2.1 1222) (u.2.1 1223) x3 x2) (c10_1 : ¬ (u.2.1 1222 (x3 : Int32).toNatClampNeg : Int32) = 0) (c24_2 : ¬ 4 < (u.2.1 1222 (x3 : Int32).toNatClampNeg : Int32)) (c35_11 : ¬ (u.2.1 1222 (x3 : Int32).toNatClampNeg : Int32) = 1) (c50_12 : ¬ (u.2.1 1222 (x3 : Int32).toNatClampNeg : Int32) = 2) (c70_13 : (u.2.1 1222 (x3 : Int32).toNatClampNeg : Int32) = 3) : vp_in (x2) 1200 := by
  have q2 := g_wk_r h_w
  refine g_in ?_ ?_ <;> ((try simp only [Int32.lt_iff_toInt_lt, Int32.le_iff_toInt_le, ← Int32.toInt_inj, Int32.toInt_add, Int32.toInt_sub, Int32.toInt_mul, Int32.toInt_neg, Int32.reduceToInt, g_bm, g_bm'] at *); omega)
set_option maxRecDepth 100000 in
theorem g_X12_worth_v21 (u : qS) (x : Int32) (x2 : Int32) (x3 : Int32) (uc : qS) (f_15 : Nat → Int32) (hg : g_gf (u.2.1 1222) (u.2.1 1223) x) (h_w : g_wk (u.2.1 1222) (u.2.1 1223) x3 x2) (c10_1 : ¬ (u.2.1 1222 (x3 : Int32).toNatClampNeg : Int32) = 0) (c24_2 : ¬ 4 < (u.2.1 1222 (x3 : Int32).toNatClampNeg : Int32)) (c35_11 : ¬ (u.2.1 1222 (x3 : Int32).toNatClampNeg : Int32) = 1) (c50_12 : ¬ (u.2.1 1222 (x3 : Int32).toNatClampNeg : Int32) = 2) (c70_13 : (u.2.1 1222 (x3 : Int32).toNatClampNeg : Int32) = 3) (hf_15 : f_15 = upd (uc.2.1 1227) (x2 : Int32).toNatClampNeg (u.2.1 1226 (u.2.1 1223 (x3 : Int32).toNatClampNeg : Int32).toNatClampNeg)) : g_wk (u.2.1 1222) (u.2.1 1223) (x3 + 1) (x2 + 1) := by
  first | (have q := g_wk_c h_w (by assumption) (by assumption) (by assumption); exact q.2) | (have q := g_wk_b h_w (by assumption); exact q.2) | (have q := g_wk_a h_w (by assumption) (by assumption); exact q.2.2)
set_option maxRecDepth 100000 in
theorem g_X12_worth_v22 (u : qS) (x : Int32) (x2 : Int32) (x3 : Int32) (uc : qS) (f_15 : Nat → Int32) (hg : g_gf (u.2.1 1222) (u.2.1 1223) x) (h_w : g_wk (u.2.1 1222) (u.2.1 1223) x3 x2) (c10_1 : ¬ (u.2.1 1222 (x3 : Int32).toNatClampNeg : Int32) = 0) (c24_2 : ¬ 4 < (u.2.1 1222 (x3 : Int32).toNatClampNeg : Int32)) (c35_11 : ¬ (u.2.1 1222 (x3 : Int32).toNatClampNeg : Int32) = 1) (c50_12 : ¬ (u.2.1 1222 (x3 : Int32).toNatClampNeg : Int32) = 2) (c70_13 : (u.2.1 1222 (x3 : Int32).toNatClampNeg : Int32) = 3) (hf_15 : f_15 = upd (uc.2.1 1227) (x2 : Int32).toNatClampNeg (u.2.1 1226 (u.2.1 1223 (x3 : Int32).toNatClampNeg : Int32).toNatClampNeg)) : 20400 - (x3 + 1).toNatClampNeg < 20400 - x3.toNatClampNeg := by
  have q2 := g_wk_r h_w
  have q3 := g_up q2.1.1 (by omega)
  have q4 := g_clamp x3
  omega
set_option maxRecDepth 100000 in
theorem g_X12_worth_v23 (u : qS) (x : Int32) (x2 : Int32) (x3 : Int32) (hg : g_gf (u.2.1 1222) (u.2.1 1223) x) (h_w : g_wk (u.2.1 1222) (u.2.1 1223) x3 x2) (c10_1 : ¬ (u.2.1 1222 (x3 : Int32).toNatClampNeg : Int32) = 0) (c24_2 : ¬ 4 < (u.2.1 1222 (x3 : Int32).toNatClampNeg : Int32)) (c35_11 : ¬ (u.2.1 1222 (x3 : Int32).toNatClampNeg : Int32) = 1) (c50_12 : (u.2.1 1222 (x3 : Int32).toNatClampNeg : Int32) = 2) : vp_in (x3) 20400 := by
  have q2 := g_wk_r h_w
  refine g_in ?_ ?_ <;> ((try simp only [Int32.lt_iff_toInt_lt, Int32.le_iff_toInt_le, ← Int32.toInt_inj, Int32.toInt_add, Int32.toInt_sub, Int32.toInt_mul, Int32.toInt_neg, Int32.reduceToInt, g_bm, g_bm'] at *); omega)
set_option maxRecDepth 100000 in
theorem g_X12_worth_v24 (u : qS) (x : Int32) (x2 : Int32) (x3 : Int32) (hg : g_gf (u.2.1 1222) (u.2.1 1223) x) (h_w : g_wk (u.2.1 1222) (u.2.1 1223) x3 x2) (c10_1 : ¬ (u.2.1 1222 (x3 : Int32).toNatClampNeg : Int32) = 0) (c24_2 : ¬ 4 < (u.2.1 1222 (x3 : Int32).toNatClampNeg : Int32)) (c35_11 : ¬ (u.2.1 1222 (x3 : Int32).toNatClampNeg : Int32) = 1) (c50_12 : (u.2.1 1222 (x3 : Int32).toNatClampNeg : Int32) = 2) : vp_in (u.2.1 1223 (x3 : Int32).toNatClampNeg) 6 := by
  have q := (g_wk_a h_w (by assumption) (by assumption)).1 (by assumption)
  refine g_in ?_ ?_ <;> ((try simp only [Int32.lt_iff_toInt_lt, Int32.le_iff_toInt_le, ← Int32.toInt_inj, Int32.toInt_add, Int32.toInt_sub, Int32.toInt_mul, Int32.toInt_neg, Int32.reduceToInt, g_bm, g_bm'] at *); omega)
set_option maxRecDepth 100000 in
theorem g_X12_worth_v25 (u : qS) (x : Int32) (x2 : Int32) (x3 : Int32) (hg : g_gf (u.2.1 1222) (u.2.1 1223) x) (h_w : g_wk (u.2.1 1222) (u.2.1 1223) x3 x2) (c10_1 : ¬ (u.2.1 1222 (x3 : Int32).toNatClampNeg : Int32) = 0) (c24_2 : ¬ 4 < (u.2.1 1222 (x3 : Int32).toNatClampNeg : Int32)) (c35_11 : ¬ (u.2.1 1222 (x3 : Int32).toNatClampNeg : Int32) = 1) (c50_12 : (u.2.1 1222 (x3 : Int32).toNatClampNeg : Int32) = 2) : vp_in (x2) 1200 := by
  have q2 := g_wk_r h_w
  refine g_in ?_ ?_ <;> ((try simp only [Int32.lt_iff_toInt_lt, Int32.le_iff_toInt_le, ← Int32.toInt_inj, Int32.toInt_add, Int32.toInt_sub, Int32.toInt_mul, Int32.toInt_neg, Int32.reduceToInt, g_bm, g_bm'] at *); omega)
set_option maxRecDepth 100000 in
theorem g_X12_worth_v26 (u : qS) (x : Int32) (x2 : Int32) (x3 : Int32) (uc : qS) (f_16 : Nat → Int32) (hg : g_gf (u.2.1 1222) (u.2.1 1223) x) (h_w : g_wk (u.2.1 1222) (u.2.1 1223) x3 x2) (c10_1 : ¬ (u.2.1 1222 (x3 : Int32).toNatClampNeg : Int32) = 0) (c24_2 : ¬ 4 < (u.2.1 1222 (x3 : Int32).toNatClampNeg : Int32)) (c35_11 : ¬ (u.2.1 1222 (x3 : Int32).toNatClampNeg : Int32) = 1) (c50_12 : (u.2.1 1222 (x3 : Int32).toNatClampNeg : Int32) = 2) (hf_16 : f_16 = upd (uc.2.1 1227) (x2 : Int32).toNatClampNeg (u.2.1 1224 (u.2.1 1223 (x3 : Int32).toNatClampNeg : Int32).toNatClampNeg)) : g_wk (u.2.1 1222) (u.2.1 1223) (x3 + 1) (x2 + 1) := by
  first | (have q := g_wk_c h_w (by assumption) (by assumption) (by assumption); exact q.2) | (have q := g_wk_b h_w (by assumption); exact q.2) | (have q := g_wk_a h_w (by assumption) (by assumption); exact q.2.2)
set_option maxRecDepth 100000 in
theorem g_X12_worth_v27 (u : qS) (x : Int32) (x2 : Int32) (x3 : Int32) (uc : qS) (f_16 : Nat → Int32) (hg : g_gf (u.2.1 1222) (u.2.1 1223) x) (h_w : g_wk (u.2.1 1222) (u.2.1 1223) x3 x2) (c10_1 : ¬ (u.2.1 1222 (x3 : Int32).toNatClampNeg : Int32) = 0) (c24_2 : ¬ 4 < (u.2.1 1222 (x3 : Int32).toNatClampNeg : Int32)) (c35_11 : ¬ (u.2.1 1222 (x3 : Int32).toNatClampNeg : Int32) = 1) (c50_12 : (u.2.1 1222 (x3 : Int32).toNatClampNeg : Int32) = 2) (hf_16 : f_16 = upd (uc.2.1 1227) (x2 : Int32).toNatClampNeg (u.2.1 1224 (u.2.1 1223 (x3 : Int32).toNatClampNeg : Int32).toNatClampNeg)) : 20400 - (x3 + 1).toNatClampNeg < 20400 - x3.toNatClampNeg := by
  have q2 := g_wk_r h_w
  have q3 := g_up q2.1.1 (by omega)
  have q4 := g_clamp x3
  omega
set_option maxRecDepth 100000 in
theorem g_X12_worth_v28 (u : qS) (x : Int32) (x2 : Int32) (x3 : Int32) (hg : g_gf (u.2.1 1222) (u.2.1 1223) x) (h_w : g_wk (u.2.1 1222) (u.2.1 1223) x3 x2) (c10_1 : ¬ (u.2.1 1222 (x3 : Int32).toNatClampNeg : Int32) = 0) (c24_2 : ¬ 4 < (u.2.1 1222 (x3 : Int32).toNatClampNeg : Int32)) (c35_11 : (u.2.1 1222 (x3 : Int32).toNatClampNeg : Int32) = 1) : vp_in (x3) 20400 := by
  have q2 := g_wk_r h_w
  refine g_in ?_ ?_ <;> ((try simp only [Int32.lt_iff_toInt_lt, Int32.le_iff_toInt_le, ← Int32.toInt_inj, Int32.toInt_add, Int32.toInt_sub, Int32.toInt_mul, Int32.toInt_neg, Int32.reduceToInt, g_bm, g_bm'] at *); omega)
set_option maxRecDepth 100000 in
theorem g_X12_worth_v29 (u : qS) (x : Int32) (x2 : Int32) (x3 : Int32) (hg : g_gf (u.2.1 1222) (u.2.1 1223) x) (h_w : g_wk (u.2.1 1222) (u.2.1 1223) x3 x2) (c10_1 : ¬ (u.2.1 1222 (x3 : Int32).toNatClampNeg : Int32) = 0) (c24_2 : ¬ 4 < (u.2.1 1222 (x3 : Int32).toNatClampNeg : Int32)) (c35_11 : (u.2.1 1222 (x3 : Int32).toNatClampNeg : Int32) = 1) : vp_in (x2) 1200 := by
  have q2 := g_wk_r h_w
  refine g_in ?_ ?_ <;> ((try simp only [Int32.lt_iff_toInt_lt, Int32.le_iff_toInt_le, ← Int32.toInt_inj, Int32.toInt_add, Int32.toInt_sub, Int32.toInt_mul, Int32.toInt_neg, Int32.reduceToInt, g_bm, g_bm'] at *); omega)
set_option maxRecDepth 100000 in
theorem g_X12_worth_v30 (u : qS) (x : Int32) (x2 : Int32) (x3 : Int32) (uc : qS) (f_17 : Nat → Int32) (hg : g_gf (u.2.1 1222) (u.2.1 1223) x) (h_w : g_wk (u.2.1 1222) (u.2.1 1223) x3 x2) (c10_1 : ¬ (u.2.1 1222 (x3 : Int32).toNatClampNeg : Int32) = 0) (c24_2 : ¬ 4 < (u.2.1 1222 (x3 : Int32).toNatClampNeg : Int32)) (c35_11 : (u.2.1 1222 (x3 : Int32).toNatClampNeg : Int32) = 1) (hf_17 : f_17 = upd (uc.2.1 1227) (x2 : Int32).toNatClampNeg (u.2.1 1223 (x3 : Int32).toNatClampNeg)) : g_wk (u.2.1 1222) (u.2.1 1223) (x3 + 1) (x2 + 1) := by
  first | (have q := g_wk_c h_w (by assumption) (by assumption) (by assumption); exact q.2) | (have q := g_wk_b h_w (by assumption); exact q.2) | (have q := g_wk_a h_w (by assumption) (by assumption); exact q.2.2)
set_option maxRecDepth 100000 in
theorem g_X12_worth_v31 (u : qS) (x : Int32) (x2 : Int32) (x3 : Int32) (uc : qS) (f_17 : Nat → Int32) (hg : g_gf (u.2.1 1222) (u.2.1 1223) x) (h_w : g_wk (u.2.1 1222) (u.2.1 1223) x3 x2) (c10_1 : ¬ (u.2.1 1222 (x3 : Int32).toNatClampNeg : Int32) = 0) (c24_2 : ¬ 4 < (u.2.1 1222 (x3 : Int32).toNatClampNeg : Int32)) (c35_11 : (u.2.1 1222 (x3 : Int32).toNatClampNeg : Int32) = 1) (hf_17 : f_17 = upd (uc.2.1 1227) (x2 : Int32).toNatClampNeg (u.2.1 1223 (x3 : Int32).toNatClampNeg)) : 20400 - (x3 + 1).toNatClampNeg < 20400 - x3.toNatClampNeg := by
  have q2 := g_wk_r h_w
  have q3 := g_up q2.1.1 (by omega)
  have q4 := g_clamp x3
  omega
set_option maxRecDepth 100000 in
theorem g_X12_worth_v32 (u : qS) (x : Int32) (hg : g_gf (u.2.1 1222) (u.2.1 1223) x) : g_wk (u.2.1 1222) (u.2.1 1223) x (0 : Int32) := by
  exact g_wk_of hg
set_option maxHeartbeats 1000000 in
set_option maxRecDepth 100000 in
theorem g_X12_worth (l : Launch) (E : qE) (A : Nat → Prop) (u : qS) (x : Int32) (hg : g_gf (u.2.1 1222) (u.2.1 1223) x) : Met l yX12_worth (uws yX12_worth cX12_worth 5 (some .int)) (qR 1 0 0) (qPc E A 1 u [.ref (E.2.2 1299), .int x]) (qQi E A 1 (fun r u1 => qFr [] [1227] [] u u1 ∧ (True))) 0 0 A := by
  refine q_met (own := RX12) (f := 1) [.ref (E.2.2 1299), .int x] (by decide) (Nat.le_of_ble_eq_true rfl) rfl ?_
  intro p0 e0 s0 m0 bl0 me0 cd0 ls hF hr hlocks hU hS hA hl
  have hl : lv_has ls 5 [(0, .ref (E.2.2 1299)), (1, .int x)] := hl
  have hfr : qFr [] [1227] [] u u := qFr.rf
  have main : ∀ n : Nat, (∀ (x2 : Int32) (x3 : Int32) (uc : qS) (H : Heap) (locs : List Loc) (ls : Array Slot) (hfr : qFr [] [1227] [] u uc) (h_w : g_wk (u.2.1 1222) (u.2.1 1223) x3 x2), 20400 - x3.toNatClampNeg < n → qH E A 1 uc s0 H → va_S A s0.heap H locs → lv_has ls 5 [(0, .ref (E.2.2 1299)), (1, .int x), (2, .int x2), (3, .int x3)] → W p0 l e0 (qR 1 0 0) s0 m0 ([.ref (E.2.2 1299), .int x] : List Value).toArray bl0 me0 cd0 H locs 0 0 (MQ bl0 (qQi E A 1 (fun r u1 => qFr [] [1227] [] u u1 ∧ (True))) ([.ref (E.2.2 1299), .int x] : List Value).toArray s0 0 0 A) (F0 m0 4 ls [])) := by
    intro n
    induction n with
    | zero => exact fun _ _ _ _ _ _ _ _ hmu => absurd hmu (Nat.not_lt_zero _)
    | succ n ih =>
      intro x2 x3 uc H locs ls hfr h_w hmu hU hS hl
      refine lv_aload_n hF.1 hF.2.1 dX12_worth_4 rfl (lv_at hl 0 rfl) ?_
      refine q_get (v := .ref (E.2.2 1222)) hF hU dX12_worth_5 0 12 22 1222 1299 rfl rfl rfl rfl inX12 (by decide) (by decide) w_1354 rfl rfl ?_
      refine lv_iload_n hF.1 hF.2.1 dX12_worth_8 rfl (lv_at hl 3 rfl) ?_
      refine q_iald (v := u.2.1 1222 (x3 : Int32).toNatClampNeg) hF hU dX12_worth_9 14 1222 rfl rfl (g_X12_worth_v0 u x x2 x3 hg h_w) (congrFun (hfr.2.1 1222 (by decide)) _) ?_
      refine lv_if_eq (tgt := 176) hF.1 hF.2.1 dX12_worth_10 (by decide) (fun c10_1 => ?_) (fun c10_1 => ?_)
      · refine lv_aload_n hF.1 hF.2.1 dX12_worth_176 rfl (lv_at hl 0 rfl) ?_
        refine q_get (v := .ref (E.2.2 1227)) hF hU dX12_worth_177 0 12 27 1227 1299 rfl rfl rfl rfl inX12 (by decide) (by decide) w_1359 rfl rfl ?_
        refine lv_iconst (v := 0) hF.1 hF.2.1 dX12_worth_180 (by decide) ?_
        refine q_iald (v := uc.2.1 1227 (0 : Int32).toNatClampNeg) hF hU dX12_worth_181 18 1227 rfl rfl (q_in (by decide)) rfl ?_
        exact q_iret hF hr rfl hlocks hU hS dX12_worth_182 ⟨hfr, trivial⟩
      · refine lv_aload_n hF.1 hF.2.1 dX12_worth_13 rfl (lv_at hl 0 rfl) ?_
        refine q_get (v := .ref (E.2.2 1222)) hF hU dX12_worth_14 0 12 22 1222 1299 rfl rfl rfl rfl inX12 (by decide) (by decide) w_1354 rfl rfl ?_
        refine lv_iload_n hF.1 hF.2.1 dX12_worth_17 rfl (lv_at hl 3 rfl) ?_
        refine q_iald (v := u.2.1 1222 (x3 : Int32).toNatClampNeg) hF hU dX12_worth_18 14 1222 rfl rfl (g_X12_worth_v1 u x x2 x3 hg h_w c10_1) (congrFun (hfr.2.1 1222 (by decide)) _) ?_
        refine lv_istore (lv' := [(4, .int (u.2.1 1222 (x3 : Int32).toNatClampNeg)), (0, .ref (E.2.2 1299)), (1, .int x), (2, .int x2), (3, .int x3)]) hF.1 hF.2.1 dX12_worth_19 hl (by decide) rfl (fun ls hl => ?_)
        refine lv_iload hF.1 hF.2.1 dX12_worth_21 (lv_at hl 0 rfl) ?_
        refine lv_iconst (v := 4) hF.1 hF.2.1 dX12_worth_23 (by decide) ?_
        refine lv_icmp_gt (tgt := 107) hF.1 hF.2.1 dX12_worth_24 (by decide) (fun c24_2 => ?_) (fun c24_2 => ?_)
        · refine lv_iload hF.1 hF.2.1 dX12_worth_107 (lv_at hl 0 rfl) ?_
          refine lv_iconst (v := 5) hF.1 hF.2.1 dX12_worth_109 (by decide) ?_
          refine lv_icmp_ne (tgt := 140) hF.1 hF.2.1 dX12_worth_110 (by decide) (fun c110_3 => ?_) (fun c110_3 => ?_)
          · refine lv_iinc (v := x2 + (-1)) (lv' := [(2, .int (x2 + (-1))), (4, .int (u.2.1 1222 (x3 : Int32).toNatClampNeg)), (0, .ref (E.2.2 1299)), (1, .int x), (3, .int x3)]) hF.1 hF.2.1 dX12_worth_140 hl (k := 3) rfl rfl (by decide) rfl (fun ls hl => ?_)
            refine lv_aload_n hF.1 hF.2.1 dX12_worth_143 rfl (lv_at hl 2 rfl) ?_
            refine q_get (v := .ref (E.2.2 1227)) hF hU dX12_worth_144 0 12 27 1227 1299 rfl rfl rfl rfl inX12 (by decide) (by decide) w_1359 rfl rfl ?_
            refine lv_iload_n hF.1 hF.2.1 dX12_worth_147 rfl (lv_at hl 0 rfl) ?_
            refine lv_iconst (v := 1) hF.1 hF.2.1 dX12_worth_148 (by decide) ?_
            refine lv_isub hF.1 hF.2.1 dX12_worth_149 ?_
            refine lv_iload hF.1 hF.2.1 dX12_worth_150 (lv_at hl 1 rfl) ?_
            refine lv_aload_n hF.1 hF.2.1 dX12_worth_152 rfl (lv_at hl 2 rfl) ?_
            refine q_get (v := .ref (E.2.2 1227)) hF hU dX12_worth_153 0 12 27 1227 1299 rfl rfl rfl rfl inX12 (by decide) (by decide) w_1359 rfl rfl ?_
            refine lv_iload_n hF.1 hF.2.1 dX12_worth_156 rfl (lv_at hl 0 rfl) ?_
            refine lv_iconst (v := 1) hF.1 hF.2.1 dX12_worth_157 (by decide) ?_
            refine lv_isub hF.1 hF.2.1 dX12_worth_158 ?_
            refine q_iald (v := uc.2.1 1227 ((x2 + (-1)) - 1 : Int32).toNatClampNeg) hF hU dX12_worth_159 18 1227 rfl rfl (g_X12_worth_v2 u x x2 x3 hg h_w c10_1 c24_2 c110_3) rfl ?_
            refine lv_aload_n hF.1 hF.2.1 dX12_worth_160 rfl (lv_at hl 2 rfl) ?_
            refine q_get (v := .ref (E.2.2 1227)) hF hU dX12_worth_161 0 12 27 1227 1299 rfl rfl rfl rfl inX12 (by decide) (by decide) w_1359 rfl rfl ?_
            refine lv_iload_n hF.1 hF.2.1 dX12_worth_164 rfl (lv_at hl 0 rfl) ?_
            refine q_iald (v := uc.2.1 1227 (x2 + (-1) : Int32).toNatClampNeg) hF hU dX12_worth_165 18 1227 rfl rfl (g_X12_worth_v3 u x x2 x3 hg h_w c10_1 c24_2 c110_3) rfl ?_
            have hM9 := g_X12_both l E A uc (u.2.1 1222 (x3 : Int32).toNatClampNeg) (uc.2.1 1227 ((x2 + (-1)) - 1 : Int32).toNatClampNeg) (uc.2.1 1227 (x2 + (-1) : Int32).toNatClampNeg)
            have hR9 := q_runS (l := l) (e := e0) (below := bl0) (meth := me0) (R := qR 1 0 0) (cells := 0) (slots := 0) (st0 := [.int (uc.2.1 1227 (x2 + (-1) : Int32).toNatClampNeg), .int (uc.2.1 1227 ((x2 + (-1)) - 1 : Int32).toNatClampNeg), .int (u.2.1 1222 (x3 : Int32).toNatClampNeg), .int ((x2 + (-1)) - 1), .ref (E.2.2 1227)]) (rest := [.int ((x2 + (-1)) - 1), .ref (E.2.2 1227)]) hF hU hS hA 3 hM9 w_1776 w_1777 w_107 w_1778 (by decide +kernel) ⟨Nat.le_of_ble_eq_true rfl, Nat.le_of_ble_eq_true rfl⟩ dX12_worth_166 rfl hl.1 rfl (Nat.le_of_ble_eq_true rfl) ⟨Nat.le_of_ble_eq_true rfl, Nat.le_of_ble_eq_true rfl⟩
            refine q_calli hR9 hU.2.2.2 hS (fun r_6 u_4 H locs hw_5 hU hS => ?_)
            obtain ⟨hw_5_e, hw_5⟩ := hw_5
            rw [hw_5_e] at hU
            refine q_iast hF hU hS dX12_worth_169 18 1227 rfl rfl (g_X12_worth_v4 u x x2 x3 hg h_w c10_1 c24_2 c110_3) (fun f_7 H locs hg9 hU hS => ?_)
            have hf_7 : f_7 = upd (uc.2.1 1227) ((x2 + (-1)) - 1 : Int32).toNatClampNeg r_6 := hg9
            have hfr : qFr [] [1227] [] u (qsF uc 1227 f_7) := hfr.setF (by decide)
            refine lv_iinc (v := x3 + 1) (lv' := [(3, .int (x3 + 1)), (2, .int (x2 + (-1))), (4, .int (u.2.1 1222 (x3 : Int32).toNatClampNeg)), (0, .ref (E.2.2 1299)), (1, .int x)]) hF.1 hF.2.1 dX12_worth_170 hl (k := 4) rfl rfl (by decide) rfl (fun ls hl => ?_)
            refine lv_goto (tgt := 4) hF.1 hF.2.1 dX12_worth_173 (by decide) ?_
            exact ih (x2 + (-1)) (x3 + 1) (qsF uc 1227 f_7) _ _ _ hfr (g_X12_worth_v5 u x x2 x3 uc r_6 f_7 hg h_w c10_1 c24_2 c110_3 hf_7) (Nat.lt_of_lt_of_le (g_X12_worth_v6 u x x2 x3 uc r_6 f_7 hg h_w c10_1 c24_2 c110_3 hf_7) (Nat.lt_succ_iff.mp hmu)) hU hS (lv_sub hl [3, 4, 1, 0] rfl)
          · refine lv_aload_n hF.1 hF.2.1 dX12_worth_113 rfl (lv_at hl 1 rfl) ?_
            refine q_get (v := .ref (E.2.2 1227)) hF hU dX12_worth_114 0 12 27 1227 1299 rfl rfl rfl rfl inX12 (by decide) (by decide) w_1359 rfl rfl ?_
            refine lv_iload_n hF.1 hF.2.1 dX12_worth_117 rfl (lv_at hl 3 rfl) ?_
            refine lv_iconst (v := 1) hF.1 hF.2.1 dX12_worth_118 (by decide) ?_
            refine lv_isub hF.1 hF.2.1 dX12_worth_119 ?_
            refine lv_aload_n hF.1 hF.2.1 dX12_worth_120 rfl (lv_at hl 1 rfl) ?_
            refine q_get (v := .ref (E.2.2 1227)) hF hU dX12_worth_121 0 12 27 1227 1299 rfl rfl rfl rfl inX12 (by decide) (by decide) w_1359 rfl rfl ?_
            refine lv_iload_n hF.1 hF.2.1 dX12_worth_124 rfl (lv_at hl 3 rfl) ?_
            refine lv_iconst (v := 1) hF.1 hF.2.1 dX12_worth_125 (by decide) ?_
            refine lv_isub hF.1 hF.2.1 dX12_worth_126 ?_
            refine q_iald (v := uc.2.1 1227 (x2 - 1 : Int32).toNatClampNeg) hF hU dX12_worth_127 18 1227 rfl rfl (g_X12_worth_v7 u x x2 x3 hg h_w c10_1 c24_2 c110_3) rfl ?_
            refine lv_if_ne (tgt := 135) hF.1 hF.2.1 dX12_worth_128 (by decide) (fun c128_8 => ?_) (fun c128_8 => ?_)
            · refine lv_iconst (v := 0) hF.1 hF.2.1 dX12_worth_135 (by decide) ?_
              refine q_iast hF hU hS dX12_worth_136 18 1227 rfl rfl (g_X12_worth_v8 u x x2 x3 uc hg h_w c10_1 c24_2 c110_3 c128_8) (fun f_9 H locs hg9 hU hS => ?_)
              have hf_9 : f_9 = upd (uc.2.1 1227) (x2 - 1 : Int32).toNatClampNeg 0 := hg9
              have hfr : qFr [] [1227] [] u (qsF uc 1227 f_9) := hfr.setF (by decide)
              refine lv_goto (tgt := 170) hF.1 hF.2.1 dX12_worth_137 (by decide) ?_
              refine lv_iinc (v := x3 + 1) (lv' := [(3, .int (x3 + 1)), (4, .int (u.2.1 1222 (x3 : Int32).toNatClampNeg)), (0, .ref (E.2.2 1299)), (1, .int x), (2, .int x2)]) hF.1 hF.2.1 dX12_worth_170 hl (k := 4) rfl rfl (by decide) rfl (fun ls hl => ?_)
              refine lv_goto (tgt := 4) hF.1 hF.2.1 dX12_worth_173 (by decide) ?_
              exact ih x2 (x3 + 1) (qsF uc 1227 f_9) _ _ _ hfr (g_X12_worth_v9 u x x2 x3 uc f_9 hg h_w c10_1 c24_2 c110_3 c128_8 hf_9) (Nat.lt_of_lt_of_le (g_X12_worth_v10 u x x2 x3 uc f_9 hg h_w c10_1 c24_2 c110_3 c128_8 hf_9) (Nat.lt_succ_iff.mp hmu)) hU hS (lv_sub hl [2, 3, 4, 0] rfl)
            · refine lv_iconst (v := 1) hF.1 hF.2.1 dX12_worth_131 (by decide) ?_
              refine lv_goto (tgt := 136) hF.1 hF.2.1 dX12_worth_132 (by decide) ?_
              refine q_iast hF hU hS dX12_worth_136 18 1227 rfl rfl (g_X12_worth_v11 u x x2 x3 uc hg h_w c10_1 c24_2 c110_3 c128_8) (fun f_10 H locs hg9 hU hS => ?_)
              have hf_10 : f_10 = upd (uc.2.1 1227) (x2 - 1 : Int32).toNatClampNeg 1 := hg9
              have hfr : qFr [] [1227] [] u (qsF uc 1227 f_10) := hfr.setF (by decide)
              refine lv_goto (tgt := 170) hF.1 hF.2.1 dX12_worth_137 (by decide) ?_
              refine lv_iinc (v := x3 + 1) (lv' := [(3, .int (x3 + 1)), (4, .int (u.2.1 1222 (x3 : Int32).toNatClampNeg)), (0, .ref (E.2.2 1299)), (1, .int x), (2, .int x2)]) hF.1 hF.2.1 dX12_worth_170 hl (k := 4) rfl rfl (by decide) rfl (fun ls hl => ?_)
              refine lv_goto (tgt := 4) hF.1 hF.2.1 dX12_worth_173 (by decide) ?_
              exact ih x2 (x3 + 1) (qsF uc 1227 f_10) _ _ _ hfr (g_X12_worth_v12 u x x2 x3 uc f_10 hg h_w c10_1 c24_2 c110_3 c128_8 hf_10) (Nat.lt_of_lt_of_le (g_X12_worth_v13 u x x2 x3 uc f_10 hg h_w c10_1 c24_2 c110_3 c128_8 hf_10) (Nat.lt_succ_iff.mp hmu)) hU hS (lv_sub hl [2, 3, 4, 0] rfl)
        · refine lv_aload_n hF.1 hF.2.1 dX12_worth_27 rfl (lv_at hl 1 rfl) ?_
          refine q_get (v := .ref (E.2.2 1227)) hF hU dX12_worth_28 0 12 27 1227 1299 rfl rfl rfl rfl inX12 (by decide) (by decide) w_1359 rfl rfl ?_
          refine lv_iload_n hF.1 hF.2.1 dX12_worth_31 rfl (lv_at hl 3 rfl) ?_
          refine lv_iload hF.1 hF.2.1 dX12_worth_32 (lv_at hl 0 rfl) ?_
          refine lv_iconst (v := 1) hF.1 hF.2.1 dX12_worth_34 (by decide) ?_
          refine lv_icmp_ne (tgt := 47) hF.1 hF.2.1 dX12_worth_35 (by decide) (fun c35_11 => ?_) (fun c35_11 => ?_)
          · refine lv_iload hF.1 hF.2.1 dX12_worth_47 (lv_at hl 0 rfl) ?_
            refine lv_iconst (v := 2) hF.1 hF.2.1 dX12_worth_49 (by decide) ?_
            refine lv_icmp_ne (tgt := 67) hF.1 hF.2.1 dX12_worth_50 (by decide) (fun c50_12 => ?_) (fun c50_12 => ?_)
            · refine lv_iload hF.1 hF.2.1 dX12_worth_67 (lv_at hl 0 rfl) ?_
              refine lv_iconst (v := 3) hF.1 hF.2.1 dX12_worth_69 (by decide) ?_
              refine lv_icmp_ne (tgt := 87) hF.1 hF.2.1 dX12_worth_70 (by decide) (fun c70_13 => ?_) (fun c70_13 => ?_)
              · refine lv_aload_n hF.1 hF.2.1 dX12_worth_87 rfl (lv_at hl 1 rfl) ?_
                refine q_get (v := .int (u.1 1225)) hF hU dX12_worth_88 0 12 25 1225 1299 rfl rfl rfl rfl inX12 (by decide) (by decide) w_1357 rfl (congrArg Value.int (hfr.1 1225 (by decide))) ?_
                refine lv_aload_n hF.1 hF.2.1 dX12_worth_91 rfl (lv_at hl 1 rfl) ?_
                refine q_get (v := .ref (E.2.2 1223)) hF hU dX12_worth_92 0 12 23 1223 1299 rfl rfl rfl rfl inX12 (by decide) (by decide) w_1355 rfl rfl ?_
                refine lv_iload_n hF.1 hF.2.1 dX12_worth_95 rfl (lv_at hl 4 rfl) ?_
                refine q_iald (v := u.2.1 1223 (x3 : Int32).toNatClampNeg) hF hU dX12_worth_96 15 1223 rfl rfl (g_X12_worth_v14 u x x2 x3 hg h_w c10_1 c24_2 c35_11 c50_12 c70_13) (congrFun (hfr.2.1 1223 (by decide)) _) ?_
                refine lv_ishr hF.1 hF.2.1 dX12_worth_97 ?_
                refine lv_iconst (v := 1) hF.1 hF.2.1 dX12_worth_98 (by decide) ?_
                refine lv_iand hF.1 hF.2.1 dX12_worth_99 ?_
                refine q_iast hF hU hS dX12_worth_100 18 1227 rfl rfl (g_X12_worth_v15 u x x2 x3 hg h_w c10_1 c24_2 c35_11 c50_12 c70_13) (fun f_14 H locs hg9 hU hS => ?_)
                have hf_14 : f_14 = upd (uc.2.1 1227) (x2 : Int32).toNatClampNeg (((u.1 1225) >>> (u.2.1 1223 (x3 : Int32).toNatClampNeg &&& 31)) &&& 1) := hg9
                have hfr : qFr [] [1227] [] u (qsF uc 1227 f_14) := hfr.setF (by decide)
                refine lv_iinc (v := x2 + 1) (lv' := [(2, .int (x2 + 1)), (4, .int (u.2.1 1222 (x3 : Int32).toNatClampNeg)), (0, .ref (E.2.2 1299)), (1, .int x), (3, .int x3)]) hF.1 hF.2.1 dX12_worth_101 hl (k := 3) rfl rfl (by decide) rfl (fun ls hl => ?_)
                refine lv_goto (tgt := 170) hF.1 hF.2.1 dX12_worth_104 (by decide) ?_
                refine lv_iinc (v := x3 + 1) (lv' := [(3, .int (x3 + 1)), (2, .int (x2 + 1)), (4, .int (u.2.1 1222 (x3 : Int32).toNatClampNeg)), (0, .ref (E.2.2 1299)), (1, .int x)]) hF.1 hF.2.1 dX12_worth_170 hl (k := 4) rfl rfl (by decide) rfl (fun ls hl => ?_)
                refine lv_goto (tgt := 4) hF.1 hF.2.1 dX12_worth_173 (by decide) ?_
                exact ih (x2 + 1) (x3 + 1) (qsF uc 1227 f_14) _ _ _ hfr (g_X12_worth_v16 u x x2 x3 uc f_14 hg h_w c10_1 c24_2 c35_11 c50_12 c70_13 hf_14) (Nat.lt_of_lt_of_le (g_X12_worth_v17 u x x2 x3 uc f_14 hg h_w c10_1 c24_2 c35_11 c50_12 c70_13 hf_14) (Nat.lt_succ_iff.mp hmu)) hU hS (lv_sub hl [3, 4, 1, 0] rfl)
              · refine lv_aload_n hF.1 hF.2.1 dX12_worth_73 rfl (lv_at hl 1 rfl) ?_
                refine q_get (v := .ref (E.2.2 1226)) hF hU dX12_worth_74 0 12 26 1226 1299 rfl rfl rfl rfl inX12 (by decide) (by decide) w_1358 rfl rfl ?_
                refine lv_aload_n hF.1 hF.2.1 dX12_worth_77 rfl (lv_at hl 1 rfl) ?_
                refine q_get (v := .ref (E.2.2 1223)) hF hU dX12_worth_78 0 12 23 1223 1299 rfl rfl rfl rfl inX12 (by decide) (by decide) w_1355 rfl rfl ?_
                refine lv_iload_n hF.1 hF.2.1 dX12_worth_81 rfl (lv_at hl 4 rfl) ?_
                refine q_iald (v := u.2.1 1223 (x3 : Int32).toNatClampNeg) hF hU dX12_worth_82 15 1223 rfl rfl (g_X12_worth_v18 u x x2 x3 hg h_w c10_1 c24_2 c35_11 c50_12 c70_13) (congrFun (hfr.2.1 1223 (by decide)) _) ?_
                refine q_iald (v := u.2.1 1226 (u.2.1 1223 (x3 : Int32).toNatClampNeg : Int32).toNatClampNeg) hF hU dX12_worth_83 17 1226 rfl rfl (g_X12_worth_v19 u x x2 x3 hg h_w c10_1 c24_2 c35_11 c50_12 c70_13) (congrFun (hfr.2.1 1226 (by decide)) _) ?_
                refine lv_goto (tgt := 100) hF.1 hF.2.1 dX12_worth_84 (by decide) ?_
                refine q_iast hF hU hS dX12_worth_100 18 1227 rfl rfl (g_X12_worth_v20 u x x2 x3 hg h_w c10_1 c24_2 c35_11 c50_12 c70_13) (fun f_15 H locs hg9 hU hS => ?_)
                have hf_15 : f_15 = upd (uc.2.1 1227) (x2 : Int32).toNatClampNeg (u.2.1 1226 (u.2.1 1223 (x3 : Int32).toNatClampNeg : Int32).toNatClampNeg) := hg9
                have hfr : qFr [] [1227] [] u (qsF uc 1227 f_15) := hfr.setF (by decide)
                refine lv_iinc (v := x2 + 1) (lv' := [(2, .int (x2 + 1)), (4, .int (u.2.1 1222 (x3 : Int32).toNatClampNeg)), (0, .ref (E.2.2 1299)), (1, .int x), (3, .int x3)]) hF.1 hF.2.1 dX12_worth_101 hl (k := 3) rfl rfl (by decide) rfl (fun ls hl => ?_)
                refine lv_goto (tgt := 170) hF.1 hF.2.1 dX12_worth_104 (by decide) ?_
                refine lv_iinc (v := x3 + 1) (lv' := [(3, .int (x3 + 1)), (2, .int (x2 + 1)), (4, .int (u.2.1 1222 (x3 : Int32).toNatClampNeg)), (0, .ref (E.2.2 1299)), (1, .int x)]) hF.1 hF.2.1 dX12_worth_170 hl (k := 4) rfl rfl (by decide) rfl (fun ls hl => ?_)
                refine lv_goto (tgt := 4) hF.1 hF.2.1 dX12_worth_173 (by decide) ?_
                exact ih (x2 + 1) (x3 + 1) (qsF uc 1227 f_15) _ _ _ hfr (g_X12_worth_v21 u x x2 x3 uc f_15 hg h_w c10_1 c24_2 c35_11 c50_12 c70_13 hf_15) (Nat.lt_of_lt_of_le (g_X12_worth_v22 u x x2 x3 uc f_15 hg h_w c10_1 c24_2 c35_11 c50_12 c70_13 hf_15) (Nat.lt_succ_iff.mp hmu)) hU hS (lv_sub hl [3, 4, 1, 0] rfl)
            · refine lv_aload_n hF.1 hF.2.1 dX12_worth_53 rfl (lv_at hl 1 rfl) ?_
              refine q_get (v := .ref (E.2.2 1224)) hF hU dX12_worth_54 0 12 24 1224 1299 rfl rfl rfl rfl inX12 (by decide) (by decide) w_1356 rfl rfl ?_
              refine lv_aload_n hF.1 hF.2.1 dX12_worth_57 rfl (lv_at hl 1 rfl) ?_
              refine q_get (v := .ref (E.2.2 1223)) hF hU dX12_worth_58 0 12 23 1223 1299 rfl rfl rfl rfl inX12 (by decide) (by decide) w_1355 rfl rfl ?_
              refine lv_iload_n hF.1 hF.2.1 dX12_worth_61 rfl (lv_at hl 4 rfl) ?_
              refine q_iald (v := u.2.1 1223 (x3 : Int32).toNatClampNeg) hF hU dX12_worth_62 15 1223 rfl rfl (g_X12_worth_v23 u x x2 x3 hg h_w c10_1 c24_2 c35_11 c50_12) (congrFun (hfr.2.1 1223 (by decide)) _) ?_
              refine q_iald (v := u.2.1 1224 (u.2.1 1223 (x3 : Int32).toNatClampNeg : Int32).toNatClampNeg) hF hU dX12_worth_63 16 1224 rfl rfl (g_X12_worth_v24 u x x2 x3 hg h_w c10_1 c24_2 c35_11 c50_12) (congrFun (hfr.2.1 1224 (by decide)) _) ?_
              refine lv_goto (tgt := 100) hF.1 hF.2.1 dX12_worth_64 (by decide) ?_
              refine q_iast hF hU hS dX12_worth_100 18 1227 rfl rfl (g_X12_worth_v25 u x x2 x3 hg h_w c10_1 c24_2 c35_11 c50_12) (fun f_16 H locs hg9 hU hS => ?_)
              have hf_16 : f_16 = upd (uc.2.1 1227) (x2 : Int32).toNatClampNeg (u.2.1 1224 (u.2.1 1223 (x3 : Int32).toNatClampNeg : Int32).toNatClampNeg) := hg9
              have hfr : qFr [] [1227] [] u (qsF uc 1227 f_16) := hfr.setF (by decide)
              refine lv_iinc (v := x2 + 1) (lv' := [(2, .int (x2 + 1)), (4, .int (u.2.1 1222 (x3 : Int32).toNatClampNeg)), (0, .ref (E.2.2 1299)), (1, .int x), (3, .int x3)]) hF.1 hF.2.1 dX12_worth_101 hl (k := 3) rfl rfl (by decide) rfl (fun ls hl => ?_)
              refine lv_goto (tgt := 170) hF.1 hF.2.1 dX12_worth_104 (by decide) ?_
              refine lv_iinc (v := x3 + 1) (lv' := [(3, .int (x3 + 1)), (2, .int (x2 + 1)), (4, .int (u.2.1 1222 (x3 : Int32).toNatClampNeg)), (0, .ref (E.2.2 1299)), (1, .int x)]) hF.1 hF.2.1 dX12_worth_170 hl (k := 4) rfl rfl (by decide) rfl (fun ls hl => ?_)
              refine lv_goto (tgt := 4) hF.1 hF.2.1 dX12_worth_173 (by decide) ?_
              exact ih (x2 + 1) (x3 + 1) (qsF uc 1227 f_16) _ _ _ hfr (g_X12_worth_v26 u x x2 x3 uc f_16 hg h_w c10_1 c24_2 c35_11 c50_12 hf_16) (Nat.lt_of_lt_of_le (g_X12_worth_v27 u x x2 x3 uc f_16 hg h_w c10_1 c24_2 c35_11 c50_12 hf_16) (Nat.lt_succ_iff.mp hmu)) hU hS (lv_sub hl [3, 4, 1, 0] rfl)
          · refine lv_aload_n hF.1 hF.2.1 dX12_worth_38 rfl (lv_at hl 1 rfl) ?_
            refine q_get (v := .ref (E.2.2 1223)) hF hU dX12_worth_39 0 12 23 1223 1299 rfl rfl rfl rfl inX12 (by decide) (by decide) w_1355 rfl rfl ?_
            refine lv_iload_n hF.1 hF.2.1 dX12_worth_42 rfl (lv_at hl 4 rfl) ?_
            refine q_iald (v := u.2.1 1223 (x3 : Int32).toNatClampNeg) hF hU dX12_worth_43 15 1223 rfl rfl (g_X12_worth_v28 u x x2 x3 hg h_w c10_1 c24_2 c35_11) (congrFun (hfr.2.1 1223 (by decide)) _) ?_
            refine lv_goto (tgt := 100) hF.1 hF.2.1 dX12_worth_44 (by decide) ?_
            refine q_iast hF hU hS dX12_worth_100 18 1227 rfl rfl (g_X12_worth_v29 u x x2 x3 hg h_w c10_1 c24_2 c35_11) (fun f_17 H locs hg9 hU hS => ?_)
            have hf_17 : f_17 = upd (uc.2.1 1227) (x2 : Int32).toNatClampNeg (u.2.1 1223 (x3 : Int32).toNatClampNeg) := hg9
            have hfr : qFr [] [1227] [] u (qsF uc 1227 f_17) := hfr.setF (by decide)
            refine lv_iinc (v := x2 + 1) (lv' := [(2, .int (x2 + 1)), (4, .int (u.2.1 1222 (x3 : Int32).toNatClampNeg)), (0, .ref (E.2.2 1299)), (1, .int x), (3, .int x3)]) hF.1 hF.2.1 dX12_worth_101 hl (k := 3) rfl rfl (by decide) rfl (fun ls hl => ?_)
            refine lv_goto (tgt := 170) hF.1 hF.2.1 dX12_worth_104 (by decide) ?_
            refine lv_iinc (v := x3 + 1) (lv' := [(3, .int (x3 + 1)), (2, .int (x2 + 1)), (4, .int (u.2.1 1222 (x3 : Int32).toNatClampNeg)), (0, .ref (E.2.2 1299)), (1, .int x)]) hF.1 hF.2.1 dX12_worth_170 hl (k := 4) rfl rfl (by decide) rfl (fun ls hl => ?_)
            refine lv_goto (tgt := 4) hF.1 hF.2.1 dX12_worth_173 (by decide) ?_
            exact ih (x2 + 1) (x3 + 1) (qsF uc 1227 f_17) _ _ _ hfr (g_X12_worth_v30 u x x2 x3 uc f_17 hg h_w c10_1 c24_2 c35_11 hf_17) (Nat.lt_of_lt_of_le (g_X12_worth_v31 u x x2 x3 uc f_17 hg h_w c10_1 c24_2 c35_11 hf_17) (Nat.lt_succ_iff.mp hmu)) hU hS (lv_sub hl [3, 4, 1, 0] rfl)
  refine lv_iconst (v := 0) hF.1 hF.2.1 dX12_worth_0 (by decide) ?_
  refine lv_istore_n (lv' := [(2, .int 0), (0, .ref (E.2.2 1299)), (1, .int x)]) hF.1 hF.2.1 dX12_worth_1 rfl hl (by decide) rfl (fun ls hl => ?_)
  refine lv_iload_n hF.1 hF.2.1 dX12_worth_2 rfl (lv_at hl 2 rfl) ?_
  refine lv_istore_n (lv' := [(3, .int x), (2, .int 0), (0, .ref (E.2.2 1299)), (1, .int x)]) hF.1 hF.2.1 dX12_worth_3 rfl hl (by decide) rfl (fun ls hl => ?_)
  exact (main _) (0 : Int32) x u _ _ _ hfr (g_X12_worth_v32 u x hg) (Nat.lt_succ_self _) hU hS (lv_sub hl [2, 3, 1, 0] rfl)
set_option maxRecDepth 100000 in
theorem g_X12_judges_v0 (u : qS) (x : Int32) (x5 : Int32) (x6 : Int32) (hI : IM u) (h_1 : x < u.1 1210) (h_b : 0 ≤ x.toInt) (h_l : 16 * x.toInt ≤ x6.toInt) (h_r : x6.toInt ≤ 16 * x.toInt + (u.2.1 1214 x.toNatClampNeg).toInt) (h_n : x5.toInt = (g_lets (u.2.1 1215) (16 * x.toNatClampNeg) (x6.toNatClampNeg - 16 * x.toNatClampNeg) : Int)) : vp_in (x) 17 := by
  have hz1210 := hI.1.s1210
  have q8 := hI.1.s1210; clear h_n; refine g_in ?_ ?_ <;> ((try simp only [Int32.lt_iff_toInt_lt, Int32.le_iff_toInt_le, ← Int32.toInt_inj, Int32.toInt_add, Int32.toInt_sub, Int32.toInt_mul, Int32.toInt_neg, Int32.reduceToInt, g_bm, g_bm'] at *); omega)
set_option maxRecDepth 100000 in
theorem g_X12_judges_v1 (u : qS) (x : Int32) (x4 : Int32) (x5 : Int32) (x6 : Int32) (hI : IM u) (h_1 : x < u.1 1210) (h_b : 0 ≤ x.toInt) (h_l : 16 * x.toInt ≤ x6.toInt) (h_r : x6.toInt ≤ 16 * x.toInt + (u.2.1 1214 x.toNatClampNeg).toInt) (h_n : x5.toInt = (g_lets (u.2.1 1215) (16 * x.toNatClampNeg) (x6.toNatClampNeg - 16 * x.toNatClampNeg) : Int)) (c44_1 : ((16 * x) + (u.2.1 1214 (x : Int32).toNatClampNeg)) ≤ (x6 : Int32)) (c200_2 : ¬ (x4 : Int32) = 0) : 0 ≤ (0 : Int32) ∧ (0 : Int32) ≤ 1000 := by
  have hz1210 := hI.1.s1210
  first | omega | ((try simp only [Int32.lt_iff_toInt_lt, Int32.le_iff_toInt_le, ← Int32.toInt_inj, Int32.toInt_add, Int32.toInt_sub, Int32.toInt_mul, Int32.toInt_neg, Int32.reduceToInt, g_bm, g_bm'] at *); omega) | (simp only [Int32.lt_iff_toInt_lt, Int32.le_iff_toInt_le, ← Int32.toInt_inj, Int32.toInt_add, Int32.toInt_sub, Int32.toInt_mul, Int32.toInt_neg, Int32.reduceToInt, g_bm, g_bm'] at *; simp at *; omega) | (simp_all; done)
set_option maxRecDepth 100000 in
theorem g_X12_judges_v2 (u : qS) (x : Int32) (x2 : Int32) (x3 : Int32) (x4 : Int32) (x5 : Int32) (x6 : Int32) (hI : IM u) (h_1 : x < u.1 1210) (h_b : 0 ≤ x.toInt) (h_l : 16 * x.toInt ≤ x6.toInt) (h_r : x6.toInt ≤ 16 * x.toInt + (u.2.1 1214 x.toNatClampNeg).toInt) (h_n : x5.toInt = (g_lets (u.2.1 1215) (16 * x.toNatClampNeg) (x6.toNatClampNeg - 16 * x.toNatClampNeg) : Int)) (c44_1 : ((16 * x) + (u.2.1 1214 (x : Int32).toNatClampNeg)) ≤ (x6 : Int32)) (c200_2 : (x4 : Int32) = 0) (c204_3 : 0 ≤ (x2 : Int32)) (c215_4 : (x2 : Int32) ≤ 1000) (c235_5 : 0 ≤ (x3 : Int32)) : 0 ≤ (x2 : Int32) ∧ (x2 : Int32) ≤ 1000 := by
  have hz1210 := hI.1.s1210
  first | omega | ((try simp only [Int32.lt_iff_toInt_lt, Int32.le_iff_toInt_le, ← Int32.toInt_inj, Int32.toInt_add, Int32.toInt_sub, Int32.toInt_mul, Int32.toInt_neg, Int32.reduceToInt, g_bm, g_bm'] at *); omega) | (simp only [Int32.lt_iff_toInt_lt, Int32.le_iff_toInt_le, ← Int32.toInt_inj, Int32.toInt_add, Int32.toInt_sub, Int32.toInt_mul, Int32.toInt_neg, Int32.reduceToInt, g_bm, g_bm'] at *; simp at *; omega) | (simp_all; done)
set_option maxRecDepth 100000 in
theorem g_X12_judges_v3 (u : qS) (x : Int32) (x2 : Int32) (x3 : Int32) (x4 : Int32) (x5 : Int32) (x6 : Int32) (hI : IM u) (h_1 : x < u.1 1210) (h_b : 0 ≤ x.toInt) (h_l : 16 * x.toInt ≤ x6.toInt) (h_r : x6.toInt ≤ 16 * x.toInt + (u.2.1 1214 x.toNatClampNeg).toInt) (h_n : x5.toInt = (g_lets (u.2.1 1215) (16 * x.toNatClampNeg) (x6.toNatClampNeg - 16 * x.toNatClampNeg) : Int)) (c44_1 : ((16 * x) + (u.2.1 1214 (x : Int32).toNatClampNeg)) ≤ (x6 : Int32)) (c200_2 : (x4 : Int32) = 0) (c204_3 : 0 ≤ (x2 : Int32)) (c215_4 : (x2 : Int32) ≤ 1000) (c235_5 : ¬ 0 ≤ (x3 : Int32)) : 0 ≤ (x2 : Int32) ∧ (x2 : Int32) ≤ 1000 := by
  have hz1210 := hI.1.s1210
  first | omega | ((try simp only [Int32.lt_iff_toInt_lt, Int32.le_iff_toInt_le, ← Int32.toInt_inj, Int32.toInt_add, Int32.toInt_sub, Int32.toInt_mul, Int32.toInt_neg, Int32.reduceToInt, g_bm, g_bm'] at *); omega) | (simp only [Int32.lt_iff_toInt_lt, Int32.le_iff_toInt_le, ← Int32.toInt_inj, Int32.toInt_add, Int32.toInt_sub, Int32.toInt_mul, Int32.toInt_neg, Int32.reduceToInt, g_bm, g_bm'] at *; simp at *; omega) | (simp_all; done)
set_option maxRecDepth 100000 in
theorem g_X12_judges_v4 (u : qS) (x : Int32) (x2 : Int32) (x3 : Int32) (x4 : Int32) (x5 : Int32) (x6 : Int32) (hI : IM u) (h_1 : x < u.1 1210) (h_b : 0 ≤ x.toInt) (h_l : 16 * x.toInt ≤ x6.toInt) (h_r : x6.toInt ≤ 16 * x.toInt + (u.2.1 1214 x.toNatClampNeg).toInt) (h_n : x5.toInt = (g_lets (u.2.1 1215) (16 * x.toNatClampNeg) (x6.toNatClampNeg - 16 * x.toNatClampNeg) : Int)) (c44_1 : ((16 * x) + (u.2.1 1214 (x : Int32).toNatClampNeg)) ≤ (x6 : Int32)) (c200_2 : (x4 : Int32) = 0) (c204_3 : 0 ≤ (x2 : Int32)) (c215_4 : ¬ (x2 : Int32) ≤ 1000) (c235_6 : 0 ≤ (x3 : Int32)) : 0 ≤ (1000 : Int32) ∧ (1000 : Int32) ≤ 1000 := by
  have hz1210 := hI.1.s1210
  first | omega | ((try simp only [Int32.lt_iff_toInt_lt, Int32.le_iff_toInt_le, ← Int32.toInt_inj, Int32.toInt_add, Int32.toInt_sub, Int32.toInt_mul, Int32.toInt_neg, Int32.reduceToInt, g_bm, g_bm'] at *); omega) | (simp only [Int32.lt_iff_toInt_lt, Int32.le_iff_toInt_le, ← Int32.toInt_inj, Int32.toInt_add, Int32.toInt_sub, Int32.toInt_mul, Int32.toInt_neg, Int32.reduceToInt, g_bm, g_bm'] at *; simp at *; omega) | (simp_all; done)
set_option maxRecDepth 100000 in
theorem g_X12_judges_v5 (u : qS) (x : Int32) (x2 : Int32) (x3 : Int32) (x4 : Int32) (x5 : Int32) (x6 : Int32) (hI : IM u) (h_1 : x < u.1 1210) (h_b : 0 ≤ x.toInt) (h_l : 16 * x.toInt ≤ x6.toInt) (h_r : x6.toInt ≤ 16 * x.toInt + (u.2.1 1214 x.toNatClampNeg).toInt) (h_n : x5.toInt = (g_lets (u.2.1 1215) (16 * x.toNatClampNeg) (x6.toNatClampNeg - 16 * x.toNatClampNeg) : Int)) (c44_1 : ((16 * x) + (u.2.1 1214 (x : Int32).toNatClampNeg)) ≤ (x6 : Int32)) (c200_2 : (x4 : Int32) = 0) (c204_3 : 0 ≤ (x2 : Int32)) (c215_4 : ¬ (x2 : Int32) ≤ 1000) (c235_6 : ¬ 0 ≤ (x3 : Int32)) : 0 ≤ (1000 : Int32) ∧ (1000 : Int32) ≤ 1000 := by
  have hz1210 := hI.1.s1210
  first | omega | ((try simp only [Int32.lt_iff_toInt_lt, Int32.le_iff_toInt_le, ← Int32.toInt_inj, Int32.toInt_add, Int32.toInt_sub, Int32.toInt_mul, Int32.toInt_neg, Int32.reduceToInt, g_bm, g_bm'] at *); omega) | (simp only [Int32.lt_iff_toInt_lt, Int32.le_iff_toInt_le, ← Int32.toInt_inj, Int32.toInt_add, Int32.toInt_sub, Int32.toInt_mul, Int32.toInt_neg, Int32.reduceToInt, g_bm, g_bm'] at *; simp at *; omega) | (simp_all; done)
set_option maxRecDepth 100000 in
theorem g_X12_judges_v6 (u : qS) (x : Int32) (x2 : Int32) (x3 : Int32) (x4 : Int32) (x5 : Int32) (x6 : Int32) (hI : IM u) (h_1 : x < u.1 1210) (h_b : 0 ≤ x.toInt) (h_l : 16 * x.toInt ≤ x6.toInt) (h_r : x6.toInt ≤ 16 * x.toInt + (u.2.1 1214 x.toNatClampNeg).toInt) (h_n : x5.toInt = (g_lets (u.2.1 1215) (16 * x.toNatClampNeg) (x6.toNatClampNeg - 16 * x.toNatClampNeg) : Int)) (c44_1 : ((16 * x) + (u.2.1 1214 (x : Int32).toNatClampNeg)) ≤ (x6 : Int32)) (c200_2 : (x4 : Int32) = 0) (c204_3 : ¬ 0 ≤ (x2 : Int32)) (c235_7 : 0 ≤ (x3 : Int32)) : 0 ≤ (0 : Int32) ∧ (0 : Int32) ≤ 1000 := by
  have hz1210 := hI.1.s1210
  first | omega | ((try simp only [Int32.lt_iff_toInt_lt, Int32.le_iff_toInt_le, ← Int32.toInt_inj, Int32.toInt_add, Int32.toInt_sub, Int32.toInt_mul, Int32.toInt_neg, Int32.reduceToInt, g_bm, g_bm'] at *); omega) | (simp only [Int32.lt_iff_toInt_lt, Int32.le_iff_toInt_le, ← Int32.toInt_inj, Int32.toInt_add, Int32.toInt_sub, Int32.toInt_mul, Int32.toInt_neg, Int32.reduceToInt, g_bm, g_bm'] at *; simp at *; omega) | (simp_all; done)
set_option maxRecDepth 100000 in
theorem g_X12_judges_v7 (u : qS) (x : Int32) (x2 : Int32) (x3 : Int32) (x4 : Int32) (x5 : Int32) (x6 : Int32) (hI : IM u) (h_1 : x < u.1 1210) (h_b : 0 ≤ x.toInt) (h_l : 16 * x.toInt ≤ x6.toInt) (h_r : x6.toInt ≤ 16 * x.toInt + (u.2.1 1214 x.toNatClampNeg).toInt) (h_n : x5.toInt = (g_lets (u.2.1 1215) (16 * x.toNatClampNeg) (x6.toNatClampNeg - 16 * x.toNatClampNeg) : Int)) (c44_1 : ((16 * x) + (u.2.1 1214 (x : Int32).toNatClampNeg)) ≤ (x6 : Int32)) (c200_2 : (x4 : Int32) = 0) (c204_3 : ¬ 0 ≤ (x2 : Int32)) (c235_7 : ¬ 0 ≤ (x3 : Int32)) : 0 ≤ (0 : Int32) ∧ (0 : Int32) ≤ 1000 := by
  have hz1210 := hI.1.s1210
  first | omega | ((try simp only [Int32.lt_iff_toInt_lt, Int32.le_iff_toInt_le, ← Int32.toInt_inj, Int32.toInt_add, Int32.toInt_sub, Int32.toInt_mul, Int32.toInt_neg, Int32.reduceToInt, g_bm, g_bm'] at *); omega) | (simp only [Int32.lt_iff_toInt_lt, Int32.le_iff_toInt_le, ← Int32.toInt_inj, Int32.toInt_add, Int32.toInt_sub, Int32.toInt_mul, Int32.toInt_neg, Int32.reduceToInt, g_bm, g_bm'] at *; simp at *; omega) | (simp_all; done)
set_option maxRecDepth 100000 in
theorem g_X12_judges_v8 (u : qS) (x : Int32) (x5 : Int32) (x6 : Int32) (hI : IM u) (h_1 : x < u.1 1210) (h_b : 0 ≤ x.toInt) (h_l : 16 * x.toInt ≤ x6.toInt) (h_r : x6.toInt ≤ 16 * x.toInt + (u.2.1 1214 x.toNatClampNeg).toInt) (h_n : x5.toInt = (g_lets (u.2.1 1215) (16 * x.toNatClampNeg) (x6.toNatClampNeg - 16 * x.toNatClampNeg) : Int)) (c44_1 : ¬ ((16 * x) + (u.2.1 1214 (x : Int32).toNatClampNeg)) ≤ (x6 : Int32)) : vp_in (x6) 272 := by
  have hz1210 := hI.1.s1210
  have q := g_jd hI.2.2.1 (b := x) (k := x6) h_b h_1 hI.1.s1210.2 h_l (by have q9 := (hI.2.2.1 x (Int32.le_iff_toInt_le.mpr h_b) h_1).1; have q8 := hI.1.s1210; have q7 : x < u.1 1210 := h_1; clear h_n; (try simp only [Int32.lt_iff_toInt_lt, Int32.le_iff_toInt_le, ← Int32.toInt_inj, Int32.toInt_add, Int32.toInt_sub, Int32.toInt_mul, Int32.toInt_neg, Int32.reduceToInt, g_bm, g_bm'] at *); omega)
  have q1 := q.1; clear q h_n; refine g_in ?_ ?_ <;> ((try simp only [Int32.lt_iff_toInt_lt, Int32.le_iff_toInt_le, ← Int32.toInt_inj, Int32.toInt_add, Int32.toInt_sub, Int32.toInt_mul, Int32.toInt_neg, Int32.reduceToInt, g_bm, g_bm'] at *); omega)
set_option maxRecDepth 100000 in
theorem g_X12_judges_v9 (u : qS) (x : Int32) (x5 : Int32) (x6 : Int32) (hI : IM u) (h_1 : x < u.1 1210) (h_b : 0 ≤ x.toInt) (h_l : 16 * x.toInt ≤ x6.toInt) (h_r : x6.toInt ≤ 16 * x.toInt + (u.2.1 1214 x.toNatClampNeg).toInt) (h_n : x5.toInt = (g_lets (u.2.1 1215) (16 * x.toNatClampNeg) (x6.toNatClampNeg - 16 * x.toNatClampNeg) : Int)) (c44_1 : ¬ ((16 * x) + (u.2.1 1214 (x : Int32).toNatClampNeg)) ≤ (x6 : Int32)) (c54_8 : ¬ (u.2.1 1215 (x6 : Int32).toNatClampNeg : Int32) = 0) : vp_in (x6) 272 := by
  have hz1210 := hI.1.s1210
  have q := g_jd hI.2.2.1 (b := x) (k := x6) h_b h_1 hI.1.s1210.2 h_l (by have q9 := (hI.2.2.1 x (Int32.le_iff_toInt_le.mpr h_b) h_1).1; have q8 := hI.1.s1210; have q7 : x < u.1 1210 := h_1; clear h_n; (try simp only [Int32.lt_iff_toInt_lt, Int32.le_iff_toInt_le, ← Int32.toInt_inj, Int32.toInt_add, Int32.toInt_sub, Int32.toInt_mul, Int32.toInt_neg, Int32.reduceToInt, g_bm, g_bm'] at *); omega)
  have q1 := q.1; clear q h_n; refine g_in ?_ ?_ <;> ((try simp only [Int32.lt_iff_toInt_lt, Int32.le_iff_toInt_le, ← Int32.toInt_inj, Int32.toInt_add, Int32.toInt_sub, Int32.toInt_mul, Int32.toInt_neg, Int32.reduceToInt, g_bm, g_bm'] at *); omega)
set_option maxRecDepth 100000 in
theorem g_X12_judges_v10 (u : qS) (x : Int32) (x5 : Int32) (x6 : Int32) (hI : IM u) (h_1 : x < u.1 1210) (h_b : 0 ≤ x.toInt) (h_l : 16 * x.toInt ≤ x6.toInt) (h_r : x6.toInt ≤ 16 * x.toInt + (u.2.1 1214 x.toNatClampNeg).toInt) (h_n : x5.toInt = (g_lets (u.2.1 1215) (16 * x.toNatClampNeg) (x6.toNatClampNeg - 16 * x.toNatClampNeg) : Int)) (c44_1 : ¬ ((16 * x) + (u.2.1 1214 (x : Int32).toNatClampNeg)) ≤ (x6 : Int32)) (c54_8 : ¬ (u.2.1 1215 (x6 : Int32).toNatClampNeg : Int32) = 0) (c89_9 : ¬ (u.2.1 1215 (x6 : Int32).toNatClampNeg : Int32) = 2) : vp_in (x6) 272 := by
  have hz1210 := hI.1.s1210
  have q := g_jd hI.2.2.1 (b := x) (k := x6) h_b h_1 hI.1.s1210.2 h_l (by have q9 := (hI.2.2.1 x (Int32.le_iff_toInt_le.mpr h_b) h_1).1; have q8 := hI.1.s1210; have q7 : x < u.1 1210 := h_1; clear h_n; (try simp only [Int32.lt_iff_toInt_lt, Int32.le_iff_toInt_le, ← Int32.toInt_inj, Int32.toInt_add, Int32.toInt_sub, Int32.toInt_mul, Int32.toInt_neg, Int32.reduceToInt, g_bm, g_bm'] at *); omega)
  have q1 := q.1; clear q h_n; refine g_in ?_ ?_ <;> ((try simp only [Int32.lt_iff_toInt_lt, Int32.le_iff_toInt_le, ← Int32.toInt_inj, Int32.toInt_add, Int32.toInt_sub, Int32.toInt_mul, Int32.toInt_neg, Int32.reduceToInt, g_bm, g_bm'] at *); omega)
set_option maxRecDepth 100000 in
theorem g_X12_judges_v11 (u : qS) (x : Int32) (x5 : Int32) (x6 : Int32) (hI : IM u) (h_1 : x < u.1 1210) (h_b : 0 ≤ x.toInt) (h_l : 16 * x.toInt ≤ x6.toInt) (h_r : x6.toInt ≤ 16 * x.toInt + (u.2.1 1214 x.toNatClampNeg).toInt) (h_n : x5.toInt = (g_lets (u.2.1 1215) (16 * x.toNatClampNeg) (x6.toNatClampNeg - 16 * x.toNatClampNeg) : Int)) (c44_1 : ¬ ((16 * x) + (u.2.1 1214 (x : Int32).toNatClampNeg)) ≤ (x6 : Int32)) (c54_8 : ¬ (u.2.1 1215 (x6 : Int32).toNatClampNeg : Int32) = 0) (c89_9 : ¬ (u.2.1 1215 (x6 : Int32).toNatClampNeg : Int32) = 2) : g_gf ((u.2.1 1222)) ((u.2.1 1223)) ((u.2.1 1218) (x6 : Int32).toNatClampNeg) := by
  have hz1210 := hI.1.s1210
  have q := g_jd hI.2.2.1 (b := x) (k := x6) h_b h_1 hI.1.s1210.2 h_l (by have q9 := (hI.2.2.1 x (Int32.le_iff_toInt_le.mpr h_b) h_1).1; have q8 := hI.1.s1210; have q7 : x < u.1 1210 := h_1; clear h_n; (try simp only [Int32.lt_iff_toInt_lt, Int32.le_iff_toInt_le, ← Int32.toInt_inj, Int32.toInt_add, Int32.toInt_sub, Int32.toInt_mul, Int32.toInt_neg, Int32.reduceToInt, g_bm, g_bm'] at *); omega)
  exact q.2.2.1 (by assumption) (by assumption)
set_option maxRecDepth 100000 in
theorem g_X12_judges_v12 (u : qS) (x : Int32) (x5 : Int32) (x6 : Int32) (r_12 : Int32) (hI : IM u) (h_1 : x < u.1 1210) (h_b : 0 ≤ x.toInt) (h_l : 16 * x.toInt ≤ x6.toInt) (h_r : x6.toInt ≤ 16 * x.toInt + (u.2.1 1214 x.toNatClampNeg).toInt) (h_n : x5.toInt = (g_lets (u.2.1 1215) (16 * x.toNatClampNeg) (x6.toNatClampNeg - 16 * x.toNatClampNeg) : Int)) (c44_1 : ¬ ((16 * x) + (u.2.1 1214 (x : Int32).toNatClampNeg)) ≤ (x6 : Int32)) (c54_8 : ¬ (u.2.1 1215 (x6 : Int32).toNatClampNeg : Int32) = 0) (c89_9 : ¬ (u.2.1 1215 (x6 : Int32).toNatClampNeg : Int32) = 2) (c132_16 : (r_12 : Int32) = 0) : 0 ≤ x.toInt := by
  have hz1210 := hI.1.s1210
  first | omega | ((try simp only [Int32.lt_iff_toInt_lt, Int32.le_iff_toInt_le, ← Int32.toInt_inj, Int32.toInt_add, Int32.toInt_sub, Int32.toInt_mul, Int32.toInt_neg, Int32.reduceToInt, g_bm, g_bm'] at *); omega) | (simp only [Int32.lt_iff_toInt_lt, Int32.le_iff_toInt_le, ← Int32.toInt_inj, Int32.toInt_add, Int32.toInt_sub, Int32.toInt_mul, Int32.toInt_neg, Int32.reduceToInt, g_bm, g_bm'] at *; simp at *; omega) | (simp_all; done)
set_option maxRecDepth 100000 in
theorem g_X12_judges_v13 (u : qS) (x : Int32) (x5 : Int32) (x6 : Int32) (r_12 : Int32) (hI : IM u) (h_1 : x < u.1 1210) (h_b : 0 ≤ x.toInt) (h_l : 16 * x.toInt ≤ x6.toInt) (h_r : x6.toInt ≤ 16 * x.toInt + (u.2.1 1214 x.toNatClampNeg).toInt) (h_n : x5.toInt = (g_lets (u.2.1 1215) (16 * x.toNatClampNeg) (x6.toNatClampNeg - 16 * x.toNatClampNeg) : Int)) (c44_1 : ¬ ((16 * x) + (u.2.1 1214 (x : Int32).toNatClampNeg)) ≤ (x6 : Int32)) (c54_8 : ¬ (u.2.1 1215 (x6 : Int32).toNatClampNeg : Int32) = 0) (c89_9 : ¬ (u.2.1 1215 (x6 : Int32).toNatClampNeg : Int32) = 2) (c132_16 : (r_12 : Int32) = 0) : 16 * x.toInt ≤ (x6 + 1).toInt := by
  have hz1210 := hI.1.s1210
  have q8 := hI.1.s1210; have q9 := (hI.2.2.1 x (Int32.le_iff_toInt_le.mpr h_b) h_1).1; clear h_n; (try simp only [Int32.lt_iff_toInt_lt, Int32.le_iff_toInt_le, ← Int32.toInt_inj, Int32.toInt_add, Int32.toInt_sub, Int32.toInt_mul, Int32.toInt_neg, Int32.reduceToInt, g_bm, g_bm'] at *); omega
set_option maxRecDepth 100000 in
theorem g_X12_judges_v14 (u : qS) (x : Int32) (x5 : Int32) (x6 : Int32) (r_12 : Int32) (hI : IM u) (h_1 : x < u.1 1210) (h_b : 0 ≤ x.toInt) (h_l : 16 * x.toInt ≤ x6.toInt) (h_r : x6.toInt ≤ 16 * x.toInt + (u.2.1 1214 x.toNatClampNeg).toInt) (h_n : x5.toInt = (g_lets (u.2.1 1215) (16 * x.toNatClampNeg) (x6.toNatClampNeg - 16 * x.toNatClampNeg) : Int)) (c44_1 : ¬ ((16 * x) + (u.2.1 1214 (x : Int32).toNatClampNeg)) ≤ (x6 : Int32)) (c54_8 : ¬ (u.2.1 1215 (x6 : Int32).toNatClampNeg : Int32) = 0) (c89_9 : ¬ (u.2.1 1215 (x6 : Int32).toNatClampNeg : Int32) = 2) (c132_16 : (r_12 : Int32) = 0) : (x6 + 1).toInt ≤ 16 * x.toInt + (u.2.1 1214 x.toNatClampNeg).toInt := by
  have hz1210 := hI.1.s1210
  have q8 := hI.1.s1210; have q9 := (hI.2.2.1 x (Int32.le_iff_toInt_le.mpr h_b) h_1).1; clear h_n; (try simp only [Int32.lt_iff_toInt_lt, Int32.le_iff_toInt_le, ← Int32.toInt_inj, Int32.toInt_add, Int32.toInt_sub, Int32.toInt_mul, Int32.toInt_neg, Int32.reduceToInt, g_bm, g_bm'] at *); omega
set_option maxRecDepth 100000 in
theorem g_X12_judges_v15 (u : qS) (x : Int32) (x5 : Int32) (x6 : Int32) (r_12 : Int32) (hI : IM u) (h_1 : x < u.1 1210) (h_b : 0 ≤ x.toInt) (h_l : 16 * x.toInt ≤ x6.toInt) (h_r : x6.toInt ≤ 16 * x.toInt + (u.2.1 1214 x.toNatClampNeg).toInt) (h_n : x5.toInt = (g_lets (u.2.1 1215) (16 * x.toNatClampNeg) (x6.toNatClampNeg - 16 * x.toNatClampNeg) : Int)) (c44_1 : ¬ ((16 * x) + (u.2.1 1214 (x : Int32).toNatClampNeg)) ≤ (x6 : Int32)) (c54_8 : ¬ (u.2.1 1215 (x6 : Int32).toNatClampNeg : Int32) = 0) (c89_9 : ¬ (u.2.1 1215 (x6 : Int32).toNatClampNeg : Int32) = 2) (c132_16 : (r_12 : Int32) = 0) : x5.toInt = (g_lets (u.2.1 1215) (16 * x.toNatClampNeg) ((x6 + 1).toNatClampNeg - 16 * x.toNatClampNeg) : Int) := by
  have hz1210 := hI.1.s1210
  have q := g_jd hI.2.2.1 (b := x) (k := x6) h_b h_1 hI.1.s1210.2 h_l (by have q9 := (hI.2.2.1 x (Int32.le_iff_toInt_le.mpr h_b) h_1).1; have q8 := hI.1.s1210; have q7 : x < u.1 1210 := h_1; clear h_n; (try simp only [Int32.lt_iff_toInt_lt, Int32.le_iff_toInt_le, ← Int32.toInt_inj, Int32.toInt_add, Int32.toInt_sub, Int32.toInt_mul, Int32.toInt_neg, Int32.reduceToInt, g_bm, g_bm'] at *); omega)
  have q1 := q.2.2.2; have q3 := q.1; clear q
  have q6 : (x6 + 1).toNatClampNeg = x6.toNatClampNeg + 1 := (g_up (by omega) (by omega)).2
  have c6 := g_clamp x6
  have cx := g_clamp x
  have es : g_lets (u.2.1 1215) (16 * x.toNatClampNeg) ((x6 + 1).toNatClampNeg - 16 * x.toNatClampNeg) = g_lets (u.2.1 1215) (16 * x.toNatClampNeg) (x6.toNatClampNeg - 16 * x.toNatClampNeg) + (if u.2.1 1215 (16 * x.toNatClampNeg + (x6.toNatClampNeg - 16 * x.toNatClampNeg)) = 0 then 1 else 0) := by
    rw [q6, show x6.toNatClampNeg + 1 - 16 * x.toNatClampNeg = (x6.toNatClampNeg - 16 * x.toNatClampNeg) + 1 from by omega]; rfl
  rw [show 16 * x.toNatClampNeg + (x6.toNatClampNeg - 16 * x.toNatClampNeg) = x6.toNatClampNeg from by omega] at es
  first | rw [if_pos (by assumption)] at es q1 | rw [if_neg (by assumption)] at es q1
  first | (have q5 : (x5 + 1).toInt = x5.toInt + 1 := (g_up (by omega) (by omega)).1; omega) | omega
set_option maxRecDepth 100000 in
theorem g_X12_judges_v16 (u : qS) (x : Int32) (x5 : Int32) (x6 : Int32) (r_12 : Int32) (hI : IM u) (h_1 : x < u.1 1210) (h_b : 0 ≤ x.toInt) (h_l : 16 * x.toInt ≤ x6.toInt) (h_r : x6.toInt ≤ 16 * x.toInt + (u.2.1 1214 x.toNatClampNeg).toInt) (h_n : x5.toInt = (g_lets (u.2.1 1215) (16 * x.toNatClampNeg) (x6.toNatClampNeg - 16 * x.toNatClampNeg) : Int)) (c44_1 : ¬ ((16 * x) + (u.2.1 1214 (x : Int32).toNatClampNeg)) ≤ (x6 : Int32)) (c54_8 : ¬ (u.2.1 1215 (x6 : Int32).toNatClampNeg : Int32) = 0) (c89_9 : ¬ (u.2.1 1215 (x6 : Int32).toNatClampNeg : Int32) = 2) (c132_16 : (r_12 : Int32) = 0) : (272 - (x6 + 1).toInt).toNat < (272 - x6.toInt).toNat := by
  have hz1210 := hI.1.s1210
  have q8 := hI.1.s1210; have q9 := (hI.2.2.1 x (Int32.le_iff_toInt_le.mpr h_b) h_1).1; clear h_n; (try simp only [Int32.lt_iff_toInt_lt, Int32.le_iff_toInt_le, ← Int32.toInt_inj, Int32.toInt_add, Int32.toInt_sub, Int32.toInt_mul, Int32.toInt_neg, Int32.reduceToInt, g_bm, g_bm'] at *); omega
set_option maxRecDepth 100000 in
theorem g_X12_judges_v17 (u : qS) (x : Int32) (x5 : Int32) (x6 : Int32) (r_12 : Int32) (hI : IM u) (h_1 : x < u.1 1210) (h_b : 0 ≤ x.toInt) (h_l : 16 * x.toInt ≤ x6.toInt) (h_r : x6.toInt ≤ 16 * x.toInt + (u.2.1 1214 x.toNatClampNeg).toInt) (h_n : x5.toInt = (g_lets (u.2.1 1215) (16 * x.toNatClampNeg) (x6.toNatClampNeg - 16 * x.toNatClampNeg) : Int)) (c44_1 : ¬ ((16 * x) + (u.2.1 1214 (x : Int32).toNatClampNeg)) ≤ (x6 : Int32)) (c54_8 : ¬ (u.2.1 1215 (x6 : Int32).toNatClampNeg : Int32) = 0) (c89_9 : ¬ (u.2.1 1215 (x6 : Int32).toNatClampNeg : Int32) = 2) (c132_16 : ¬ (r_12 : Int32) = 0) : vp_in (x6) 272 := by
  have hz1210 := hI.1.s1210
  have q := g_jd hI.2.2.1 (b := x) (k := x6) h_b h_1 hI.1.s1210.2 h_l (by have q9 := (hI.2.2.1 x (Int32.le_iff_toInt_le.mpr h_b) h_1).1; have q8 := hI.1.s1210; have q7 : x < u.1 1210 := h_1; clear h_n; (try simp only [Int32.lt_iff_toInt_lt, Int32.le_iff_toInt_le, ← Int32.toInt_inj, Int32.toInt_add, Int32.toInt_sub, Int32.toInt_mul, Int32.toInt_neg, Int32.reduceToInt, g_bm, g_bm'] at *); omega)
  have q1 := q.1; clear q h_n; refine g_in ?_ ?_ <;> ((try simp only [Int32.lt_iff_toInt_lt, Int32.le_iff_toInt_le, ← Int32.toInt_inj, Int32.toInt_add, Int32.toInt_sub, Int32.toInt_mul, Int32.toInt_neg, Int32.reduceToInt, g_bm, g_bm'] at *); omega)
set_option maxRecDepth 100000 in
theorem g_X12_judges_v18 (u : qS) (x : Int32) (x5 : Int32) (x6 : Int32) (r_12 : Int32) (hI : IM u) (h_1 : x < u.1 1210) (h_b : 0 ≤ x.toInt) (h_l : 16 * x.toInt ≤ x6.toInt) (h_r : x6.toInt ≤ 16 * x.toInt + (u.2.1 1214 x.toNatClampNeg).toInt) (h_n : x5.toInt = (g_lets (u.2.1 1215) (16 * x.toNatClampNeg) (x6.toNatClampNeg - 16 * x.toNatClampNeg) : Int)) (c44_1 : ¬ ((16 * x) + (u.2.1 1214 (x : Int32).toNatClampNeg)) ≤ (x6 : Int32)) (c54_8 : ¬ (u.2.1 1215 (x6 : Int32).toNatClampNeg : Int32) = 0) (c89_9 : ¬ (u.2.1 1215 (x6 : Int32).toNatClampNeg : Int32) = 2) (c132_16 : ¬ (r_12 : Int32) = 0) (c144_17 : ¬ (u.2.1 1215 (x6 : Int32).toNatClampNeg : Int32) = 1) : vp_in (x6) 272 := by
  have hz1210 := hI.1.s1210
  have q := g_jd hI.2.2.1 (b := x) (k := x6) h_b h_1 hI.1.s1210.2 h_l (by have q9 := (hI.2.2.1 x (Int32.le_iff_toInt_le.mpr h_b) h_1).1; have q8 := hI.1.s1210; have q7 : x < u.1 1210 := h_1; clear h_n; (try simp only [Int32.lt_iff_toInt_lt, Int32.le_iff_toInt_le, ← Int32.toInt_inj, Int32.toInt_add, Int32.toInt_sub, Int32.toInt_mul, Int32.toInt_neg, Int32.reduceToInt, g_bm, g_bm'] at *); omega)
  have q1 := q.1; clear q h_n; refine g_in ?_ ?_ <;> ((try simp only [Int32.lt_iff_toInt_lt, Int32.le_iff_toInt_le, ← Int32.toInt_inj, Int32.toInt_add, Int32.toInt_sub, Int32.toInt_mul, Int32.toInt_neg, Int32.reduceToInt, g_bm, g_bm'] at *); omega)
set_option maxRecDepth 100000 in
theorem g_X12_judges_v19 (u : qS) (x : Int32) (x5 : Int32) (x6 : Int32) (r_12 : Int32) (hI : IM u) (h_1 : x < u.1 1210) (h_b : 0 ≤ x.toInt) (h_l : 16 * x.toInt ≤ x6.toInt) (h_r : x6.toInt ≤ 16 * x.toInt + (u.2.1 1214 x.toNatClampNeg).toInt) (h_n : x5.toInt = (g_lets (u.2.1 1215) (16 * x.toNatClampNeg) (x6.toNatClampNeg - 16 * x.toNatClampNeg) : Int)) (c44_1 : ¬ ((16 * x) + (u.2.1 1214 (x : Int32).toNatClampNeg)) ≤ (x6 : Int32)) (c54_8 : ¬ (u.2.1 1215 (x6 : Int32).toNatClampNeg : Int32) = 0) (c89_9 : ¬ (u.2.1 1215 (x6 : Int32).toNatClampNeg : Int32) = 2) (c132_16 : ¬ (r_12 : Int32) = 0) (c144_17 : ¬ (u.2.1 1215 (x6 : Int32).toNatClampNeg : Int32) = 1) (c172_18 : ¬ (u.2.1 1215 (x6 : Int32).toNatClampNeg : Int32) = 3) : 0 ≤ x.toInt := by
  have hz1210 := hI.1.s1210
  first | omega | ((try simp only [Int32.lt_iff_toInt_lt, Int32.le_iff_toInt_le, ← Int32.toInt_inj, Int32.toInt_add, Int32.toInt_sub, Int32.toInt_mul, Int32.toInt_neg, Int32.reduceToInt, g_bm, g_bm'] at *); omega) | (simp only [Int32.lt_iff_toInt_lt, Int32.le_iff_toInt_le, ← Int32.toInt_inj, Int32.toInt_add, Int32.toInt_sub, Int32.toInt_mul, Int32.toInt_neg, Int32.reduceToInt, g_bm, g_bm'] at *; simp at *; omega) | (simp_all; done)
set_option maxRecDepth 100000 in
theorem g_X12_judges_v20 (u : qS) (x : Int32) (x5 : Int32) (x6 : Int32) (r_12 : Int32) (hI : IM u) (h_1 : x < u.1 1210) (h_b : 0 ≤ x.toInt) (h_l : 16 * x.toInt ≤ x6.toInt) (h_r : x6.toInt ≤ 16 * x.toInt + (u.2.1 1214 x.toNatClampNeg).toInt) (h_n : x5.toInt = (g_lets (u.2.1 1215) (16 * x.toNatClampNeg) (x6.toNatClampNeg - 16 * x.toNatClampNeg) : Int)) (c44_1 : ¬ ((16 * x) + (u.2.1 1214 (x : Int32).toNatClampNeg)) ≤ (x6 : Int32)) (c54_8 : ¬ (u.2.1 1215 (x6 : Int32).toNatClampNeg : Int32) = 0) (c89_9 : ¬ (u.2.1 1215 (x6 : Int32).toNatClampNeg : Int32) = 2) (c132_16 : ¬ (r_12 : Int32) = 0) (c144_17 : ¬ (u.2.1 1215 (x6 : Int32).toNatClampNeg : Int32) = 1) (c172_18 : ¬ (u.2.1 1215 (x6 : Int32).toNatClampNeg : Int32) = 3) : 16 * x.toInt ≤ (x6 + 1).toInt := by
  have hz1210 := hI.1.s1210
  have q8 := hI.1.s1210; have q9 := (hI.2.2.1 x (Int32.le_iff_toInt_le.mpr h_b) h_1).1; clear h_n; (try simp only [Int32.lt_iff_toInt_lt, Int32.le_iff_toInt_le, ← Int32.toInt_inj, Int32.toInt_add, Int32.toInt_sub, Int32.toInt_mul, Int32.toInt_neg, Int32.reduceToInt, g_bm, g_bm'] at *); omega
set_option maxRecDepth 100000 in
theorem g_X12_judges_v21 (u : qS) (x : Int32) (x5 : Int32) (x6 : Int32) (r_12 : Int32) (hI : IM u) (h_1 : x < u.1 1210) (h_b : 0 ≤ x.toInt) (h_l : 16 * x.toInt ≤ x6.toInt) (h_r : x6.toInt ≤ 16 * x.toInt + (u.2.1 1214 x.toNatClampNeg).toInt) (h_n : x5.toInt = (g_lets (u.2.1 1215) (16 * x.toNatClampNeg) (x6.toNatClampNeg - 16 * x.toNatClampNeg) : Int)) (c44_1 : ¬ ((16 * x) + (u.2.1 1214 (x : Int32).toNatClampNeg)) ≤ (x6 : Int32)) (c54_8 : ¬ (u.2.1 1215 (x6 : Int32).toNatClampNeg : Int32) = 0) (c89_9 : ¬ (u.2.1 1215 (x6 : Int32).toNatClampNeg : Int32) = 2) (c132_16 : ¬ (r_12 : Int32) = 0) (c144_17 : ¬ (u.2.1 1215 (x6 : Int32).toNatClampNeg : Int32) = 1) (c172_18 : ¬ (u.2.1 1215 (x6 : Int32).toNatClampNeg : Int32) = 3) : (x6 + 1).toInt ≤ 16 * x.toInt + (u.2.1 1214 x.toNatClampNeg).toInt := by
  have hz1210 := hI.1.s1210
  have q8 := hI.1.s1210; have q9 := (hI.2.2.1 x (Int32.le_iff_toInt_le.mpr h_b) h_1).1; clear h_n; (try simp only [Int32.lt_iff_toInt_lt, Int32.le_iff_toInt_le, ← Int32.toInt_inj, Int32.toInt_add, Int32.toInt_sub, Int32.toInt_mul, Int32.toInt_neg, Int32.reduceToInt, g_bm, g_bm'] at *); omega
set_option maxRecDepth 100000 in
theorem g_X12_judges_v22 (u : qS) (x : Int32) (x5 : Int32) (x6 : Int32) (r_12 : Int32) (hI : IM u) (h_1 : x < u.1 1210) (h_b : 0 ≤ x.toInt) (h_l : 16 * x.toInt ≤ x6.toInt) (h_r : x6.toInt ≤ 16 * x.toInt + (u.2.1 1214 x.toNatClampNeg).toInt) (h_n : x5.toInt = (g_lets (u.2.1 1215) (16 * x.toNatClampNeg) (x6.toNatClampNeg - 16 * x.toNatClampNeg) : Int)) (c44_1 : ¬ ((16 * x) + (u.2.1 1214 (x : Int32).toNatClampNeg)) ≤ (x6 : Int32)) (c54_8 : ¬ (u.2.1 1215 (x6 : Int32).toNatClampNeg : Int32) = 0) (c89_9 : ¬ (u.2.1 1215 (x6 : Int32).toNatClampNeg : Int32) = 2) (c132_16 : ¬ (r_12 : Int32) = 0) (c144_17 : ¬ (u.2.1 1215 (x6 : Int32).toNatClampNeg : Int32) = 1) (c172_18 : ¬ (u.2.1 1215 (x6 : Int32).toNatClampNeg : Int32) = 3) : x5.toInt = (g_lets (u.2.1 1215) (16 * x.toNatClampNeg) ((x6 + 1).toNatClampNeg - 16 * x.toNatClampNeg) : Int) := by
  have hz1210 := hI.1.s1210
  have q := g_jd hI.2.2.1 (b := x) (k := x6) h_b h_1 hI.1.s1210.2 h_l (by have q9 := (hI.2.2.1 x (Int32.le_iff_toInt_le.mpr h_b) h_1).1; have q8 := hI.1.s1210; have q7 : x < u.1 1210 := h_1; clear h_n; (try simp only [Int32.lt_iff_toInt_lt, Int32.le_iff_toInt_le, ← Int32.toInt_inj, Int32.toInt_add, Int32.toInt_sub, Int32.toInt_mul, Int32.toInt_neg, Int32.reduceToInt, g_bm, g_bm'] at *); omega)
  have q1 := q.2.2.2; have q3 := q.1; clear q
  have q6 : (x6 + 1).toNatClampNeg = x6.toNatClampNeg + 1 := (g_up (by omega) (by omega)).2
  have c6 := g_clamp x6
  have cx := g_clamp x
  have es : g_lets (u.2.1 1215) (16 * x.toNatClampNeg) ((x6 + 1).toNatClampNeg - 16 * x.toNatClampNeg) = g_lets (u.2.1 1215) (16 * x.toNatClampNeg) (x6.toNatClampNeg - 16 * x.toNatClampNeg) + (if u.2.1 1215 (16 * x.toNatClampNeg + (x6.toNatClampNeg - 16 * x.toNatClampNeg)) = 0 then 1 else 0) := by
    rw [q6, show x6.toNatClampNeg + 1 - 16 * x.toNatClampNeg = (x6.toNatClampNeg - 16 * x.toNatClampNeg) + 1 from by omega]; rfl
  rw [show 16 * x.toNatClampNeg + (x6.toNatClampNeg - 16 * x.toNatClampNeg) = x6.toNatClampNeg from by omega] at es
  first | rw [if_pos (by assumption)] at es q1 | rw [if_neg (by assumption)] at es q1
  first | (have q5 : (x5 + 1).toInt = x5.toInt + 1 := (g_up (by omega) (by omega)).1; omega) | omega
set_option maxRecDepth 100000 in
theorem g_X12_judges_v23 (u : qS) (x : Int32) (x5 : Int32) (x6 : Int32) (r_12 : Int32) (hI : IM u) (h_1 : x < u.1 1210) (h_b : 0 ≤ x.toInt) (h_l : 16 * x.toInt ≤ x6.toInt) (h_r : x6.toInt ≤ 16 * x.toInt + (u.2.1 1214 x.toNatClampNeg).toInt) (h_n : x5.toInt = (g_lets (u.2.1 1215) (16 * x.toNatClampNeg) (x6.toNatClampNeg - 16 * x.toNatClampNeg) : Int)) (c44_1 : ¬ ((16 * x) + (u.2.1 1214 (x : Int32).toNatClampNeg)) ≤ (x6 : Int32)) (c54_8 : ¬ (u.2.1 1215 (x6 : Int32).toNatClampNeg : Int32) = 0) (c89_9 : ¬ (u.2.1 1215 (x6 : Int32).toNatClampNeg : Int32) = 2) (c132_16 : ¬ (r_12 : Int32) = 0) (c144_17 : ¬ (u.2.1 1215 (x6 : Int32).toNatClampNeg : Int32) = 1) (c172_18 : ¬ (u.2.1 1215 (x6 : Int32).toNatClampNeg : Int32) = 3) : (272 - (x6 + 1).toInt).toNat < (272 - x6.toInt).toNat := by
  have hz1210 := hI.1.s1210
  have q8 := hI.1.s1210; have q9 := (hI.2.2.1 x (Int32.le_iff_toInt_le.mpr h_b) h_1).1; clear h_n; (try simp only [Int32.lt_iff_toInt_lt, Int32.le_iff_toInt_le, ← Int32.toInt_inj, Int32.toInt_add, Int32.toInt_sub, Int32.toInt_mul, Int32.toInt_neg, Int32.reduceToInt, g_bm, g_bm'] at *); omega
set_option maxRecDepth 100000 in
theorem g_X12_judges_v24 (u : qS) (x : Int32) (x3 : Int32) (x5 : Int32) (x6 : Int32) (r_12 : Int32) (hI : IM u) (h_1 : x < u.1 1210) (h_b : 0 ≤ x.toInt) (h_l : 16 * x.toInt ≤ x6.toInt) (h_r : x6.toInt ≤ 16 * x.toInt + (u.2.1 1214 x.toNatClampNeg).toInt) (h_n : x5.toInt = (g_lets (u.2.1 1215) (16 * x.toNatClampNeg) (x6.toNatClampNeg - 16 * x.toNatClampNeg) : Int)) (c44_1 : ¬ ((16 * x) + (u.2.1 1214 (x : Int32).toNatClampNeg)) ≤ (x6 : Int32)) (c54_8 : ¬ (u.2.1 1215 (x6 : Int32).toNatClampNeg : Int32) = 0) (c89_9 : ¬ (u.2.1 1215 (x6 : Int32).toNatClampNeg : Int32) = 2) (c132_16 : ¬ (r_12 : Int32) = 0) (c144_17 : ¬ (u.2.1 1215 (x6 : Int32).toNatClampNeg : Int32) = 1) (c172_18 : (u.2.1 1215 (x6 : Int32).toNatClampNeg : Int32) = 3) (c176_19 : 0 ≤ (x3 : Int32)) : 0 ≤ x.toInt := by
  have hz1210 := hI.1.s1210
  first | omega | ((try simp only [Int32.lt_iff_toInt_lt, Int32.le_iff_toInt_le, ← Int32.toInt_inj, Int32.toInt_add, Int32.toInt_sub, Int32.toInt_mul, Int32.toInt_neg, Int32.reduceToInt, g_bm, g_bm'] at *); omega) | (simp only [Int32.lt_iff_toInt_lt, Int32.le_iff_toInt_le, ← Int32.toInt_inj, Int32.toInt_add, Int32.toInt_sub, Int32.toInt_mul, Int32.toInt_neg, Int32.reduceToInt, g_bm, g_bm'] at *; simp at *; omega) | (simp_all; done)
set_option maxRecDepth 100000 in
theorem g_X12_judges_v25 (u : qS) (x : Int32) (x3 : Int32) (x5 : Int32) (x6 : Int32) (r_12 : Int32) (hI : IM u) (h_1 : x < u.1 1210) (h_b : 0 ≤ x.toInt) (h_l : 16 * x.toInt ≤ x6.toInt) (h_r : x6.toInt ≤ 16 * x.toInt + (u.2.1 1214 x.toNatClampNeg).toInt) (h_n : x5.toInt = (g_lets (u.2.1 1215) (16 * x.toNatClampNeg) (x6.toNatClampNeg - 16 * x.toNatClampNeg) : Int)) (c44_1 : ¬ ((16 * x) + (u.2.1 1214 (x : Int32).toNatClampNeg)) ≤ (x6 : Int32)) (c54_8 : ¬ (u.2.1 1215 (x6 : Int32).toNatClampNeg : Int32) = 0) (c89_9 : ¬ (u.2.1 1215 (x6 : Int32).toNatClampNeg : Int32) = 2) (c132_16 : ¬ (r_12 : Int32) = 0) (c144_17 : ¬ (u.2.1 1215 (x6 : Int32).toNatClampNeg : Int32) = 1) (c172_18 : (u.2.1 1215 (x6 : Int32).toNatClampNeg : Int32) = 3) (c176_19 : 0 ≤ (x3 : Int32)) : 16 * x.toInt ≤ (x6 + 1).toInt := by
  have hz1210 := hI.1.s1210
  have q8 := hI.1.s1210; have q9 := (hI.2.2.1 x (Int32.le_iff_toInt_le.mpr h_b) h_1).1; clear h_n; (try simp only [Int32.lt_iff_toInt_lt, Int32.le_iff_toInt_le, ← Int32.toInt_inj, Int32.toInt_add, Int32.toInt_sub, Int32.toInt_mul, Int32.toInt_neg, Int32.reduceToInt, g_bm, g_bm'] at *); omega
set_option maxRecDepth 100000 in
theorem g_X12_judges_v26 (u : qS) (x : Int32) (x3 : Int32) (x5 : Int32) (x6 : Int32) (r_12 : Int32) (hI : IM u) (h_1 : x < u.1 1210) (h_b : 0 ≤ x.toInt) (h_l : 16 * x.toInt ≤ x6.toInt) (h_r : x6.toInt ≤ 16 * x.toInt + (u.2.1 1214 x.toNatClampNeg).toInt) (h_n : x5.toInt = (g_lets (u.2.1 1215) (16 * x.toNatClampNeg) (x6.toNatClampNeg - 16 * x.toNatClampNeg) : Int)) (c44_1 : ¬ ((16 * x) + (u.2.1 1214 (x : Int32).toNatClampNeg)) ≤ (x6 : Int32)) (c54_8 : ¬ (u.2.1 1215 (x6 : Int32).toNatClampNeg : Int32) = 0) (c89_9 : ¬ (u.2.1 1215 (x6 : Int32).toNatClampNeg : Int32) = 2) (c132_16 : ¬ (r_12 : Int32) = 0) (c144_17 : ¬ (u.2.1 1215 (x6 : Int32).toNatClampNeg : Int32) = 1) (c172_18 : (u.2.1 1215 (x6 : Int32).toNatClampNeg : Int32) = 3) (c176_19 : 0 ≤ (x3 : Int32)) : (x6 + 1).toInt ≤ 16 * x.toInt + (u.2.1 1214 x.toNatClampNeg).toInt := by
  have hz1210 := hI.1.s1210
  have q8 := hI.1.s1210; have q9 := (hI.2.2.1 x (Int32.le_iff_toInt_le.mpr h_b) h_1).1; clear h_n; (try simp only [Int32.lt_iff_toInt_lt, Int32.le_iff_toInt_le, ← Int32.toInt_inj, Int32.toInt_add, Int32.toInt_sub, Int32.toInt_mul, Int32.toInt_neg, Int32.reduceToInt, g_bm, g_bm'] at *); omega
set_option maxRecDepth 100000 in
theorem g_X12_judges_v27 (u : qS) (x : Int32) (x3 : Int32) (x5 : Int32) (x6 : Int32) (r_12 : Int32) (hI : IM u) (h_1 : x < u.1 1210) (h_b : 0 ≤ x.toInt) (h_l : 16 * x.toInt ≤ x6.toInt) (h_r : x6.toInt ≤ 16 * x.toInt + (u.2.1 1214 x.toNatClampNeg).toInt) (h_n : x5.toInt = (g_lets (u.2.1 1215) (16 * x.toNatClampNeg) (x6.toNatClampNeg - 16 * x.toNatClampNeg) : Int)) (c44_1 : ¬ ((16 * x) + (u.2.1 1214 (x : Int32).toNatClampNeg)) ≤ (x6 : Int32)) (c54_8 : ¬ (u.2.1 1215 (x6 : Int32).toNatClampNeg : Int32) = 0) (c89_9 : ¬ (u.2.1 1215 (x6 : Int32).toNatClampNeg : Int32) = 2) (c132_16 : ¬ (r_12 : Int32) = 0) (c144_17 : ¬ (u.2.1 1215 (x6 : Int32).toNatClampNeg : Int32) = 1) (c172_18 : (u.2.1 1215 (x6 : Int32).toNatClampNeg : Int32) = 3) (c176_19 : 0 ≤ (x3 : Int32)) : x5.toInt = (g_lets (u.2.1 1215) (16 * x.toNatClampNeg) ((x6 + 1).toNatClampNeg - 16 * x.toNatClampNeg) : Int) := by
  have hz1210 := hI.1.s1210
  have q := g_jd hI.2.2.1 (b := x) (k := x6) h_b h_1 hI.1.s1210.2 h_l (by have q9 := (hI.2.2.1 x (Int32.le_iff_toInt_le.mpr h_b) h_1).1; have q8 := hI.1.s1210; have q7 : x < u.1 1210 := h_1; clear h_n; (try simp only [Int32.lt_iff_toInt_lt, Int32.le_iff_toInt_le, ← Int32.toInt_inj, Int32.toInt_add, Int32.toInt_sub, Int32.toInt_mul, Int32.toInt_neg, Int32.reduceToInt, g_bm, g_bm'] at *); omega)
  have q1 := q.2.2.2; have q3 := q.1; clear q
  have q6 : (x6 + 1).toNatClampNeg = x6.toNatClampNeg + 1 := (g_up (by omega) (by omega)).2
  have c6 := g_clamp x6
  have cx := g_clamp x
  have es : g_lets (u.2.1 1215) (16 * x.toNatClampNeg) ((x6 + 1).toNatClampNeg - 16 * x.toNatClampNeg) = g_lets (u.2.1 1215) (16 * x.toNatClampNeg) (x6.toNatClampNeg - 16 * x.toNatClampNeg) + (if u.2.1 1215 (16 * x.toNatClampNeg + (x6.toNatClampNeg - 16 * x.toNatClampNeg)) = 0 then 1 else 0) := by
    rw [q6, show x6.toNatClampNeg + 1 - 16 * x.toNatClampNeg = (x6.toNatClampNeg - 16 * x.toNatClampNeg) + 1 from by omega]; rfl
  rw [show 16 * x.toNatClampNeg + (x6.toNatClampNeg - 16 * x.toNatClampNeg) = x6.toNatClampNeg from by omega] at es
  first | rw [if_pos (by assumption)] at es q1 | rw [if_neg (by assumption)] at es q1
  first | (have q5 : (x5 + 1).toInt = x5.toInt + 1 := (g_up (by omega) (by omega)).1; omega) | omega
set_option maxRecDepth 100000 in
theorem g_X12_judges_v28 (u : qS) (x : Int32) (x3 : Int32) (x5 : Int32) (x6 : Int32) (r_12 : Int32) (hI : IM u) (h_1 : x < u.1 1210) (h_b : 0 ≤ x.toInt) (h_l : 16 * x.toInt ≤ x6.toInt) (h_r : x6.toInt ≤ 16 * x.toInt + (u.2.1 1214 x.toNatClampNeg).toInt) (h_n : x5.toInt = (g_lets (u.2.1 1215) (16 * x.toNatClampNeg) (x6.toNatClampNeg - 16 * x.toNatClampNeg) : Int)) (c44_1 : ¬ ((16 * x) + (u.2.1 1214 (x : Int32).toNatClampNeg)) ≤ (x6 : Int32)) (c54_8 : ¬ (u.2.1 1215 (x6 : Int32).toNatClampNeg : Int32) = 0) (c89_9 : ¬ (u.2.1 1215 (x6 : Int32).toNatClampNeg : Int32) = 2) (c132_16 : ¬ (r_12 : Int32) = 0) (c144_17 : ¬ (u.2.1 1215 (x6 : Int32).toNatClampNeg : Int32) = 1) (c172_18 : (u.2.1 1215 (x6 : Int32).toNatClampNeg : Int32) = 3) (c176_19 : 0 ≤ (x3 : Int32)) : (272 - (x6 + 1).toInt).toNat < (272 - x6.toInt).toNat := by
  have hz1210 := hI.1.s1210
  have q8 := hI.1.s1210; have q9 := (hI.2.2.1 x (Int32.le_iff_toInt_le.mpr h_b) h_1).1; clear h_n; (try simp only [Int32.lt_iff_toInt_lt, Int32.le_iff_toInt_le, ← Int32.toInt_inj, Int32.toInt_add, Int32.toInt_sub, Int32.toInt_mul, Int32.toInt_neg, Int32.reduceToInt, g_bm, g_bm'] at *); omega
set_option maxRecDepth 100000 in
theorem g_X12_judges_v29 (u : qS) (x : Int32) (x3 : Int32) (x5 : Int32) (x6 : Int32) (r_12 : Int32) (hI : IM u) (h_1 : x < u.1 1210) (h_b : 0 ≤ x.toInt) (h_l : 16 * x.toInt ≤ x6.toInt) (h_r : x6.toInt ≤ 16 * x.toInt + (u.2.1 1214 x.toNatClampNeg).toInt) (h_n : x5.toInt = (g_lets (u.2.1 1215) (16 * x.toNatClampNeg) (x6.toNatClampNeg - 16 * x.toNatClampNeg) : Int)) (c44_1 : ¬ ((16 * x) + (u.2.1 1214 (x : Int32).toNatClampNeg)) ≤ (x6 : Int32)) (c54_8 : ¬ (u.2.1 1215 (x6 : Int32).toNatClampNeg : Int32) = 0) (c89_9 : ¬ (u.2.1 1215 (x6 : Int32).toNatClampNeg : Int32) = 2) (c132_16 : ¬ (r_12 : Int32) = 0) (c144_17 : ¬ (u.2.1 1215 (x6 : Int32).toNatClampNeg : Int32) = 1) (c172_18 : (u.2.1 1215 (x6 : Int32).toNatClampNeg : Int32) = 3) (c176_19 : ¬ 0 ≤ (x3 : Int32)) : vp_in (x6) 272 := by
  have hz1210 := hI.1.s1210
  have q := g_jd hI.2.2.1 (b := x) (k := x6) h_b h_1 hI.1.s1210.2 h_l (by have q9 := (hI.2.2.1 x (Int32.le_iff_toInt_le.mpr h_b) h_1).1; have q8 := hI.1.s1210; have q7 : x < u.1 1210 := h_1; clear h_n; (try simp only [Int32.lt_iff_toInt_lt, Int32.le_iff_toInt_le, ← Int32.toInt_inj, Int32.toInt_add, Int32.toInt_sub, Int32.toInt_mul, Int32.toInt_neg, Int32.reduceToInt, g_bm, g_bm'] at *); omega)
  have q1 := q.1; clear q h_n; refine g_in ?_ ?_ <;> ((try simp only [Int32.lt_iff_toInt_lt, Int32.le_iff_toInt_le, ← Int32.toInt_inj, Int32.toInt_add, Int32.toInt_sub, Int32.toInt_mul, Int32.toInt_neg, Int32.reduceToInt, g_bm, g_bm'] at *); omega)
set_option maxRecDepth 100000 in
theorem g_X12_judges_v30 (u : qS) (x : Int32) (x3 : Int32) (x5 : Int32) (x6 : Int32) (r_12 : Int32) (hI : IM u) (h_1 : x < u.1 1210) (h_b : 0 ≤ x.toInt) (h_l : 16 * x.toInt ≤ x6.toInt) (h_r : x6.toInt ≤ 16 * x.toInt + (u.2.1 1214 x.toNatClampNeg).toInt) (h_n : x5.toInt = (g_lets (u.2.1 1215) (16 * x.toNatClampNeg) (x6.toNatClampNeg - 16 * x.toNatClampNeg) : Int)) (c44_1 : ¬ ((16 * x) + (u.2.1 1214 (x : Int32).toNatClampNeg)) ≤ (x6 : Int32)) (c54_8 : ¬ (u.2.1 1215 (x6 : Int32).toNatClampNeg : Int32) = 0) (c89_9 : ¬ (u.2.1 1215 (x6 : Int32).toNatClampNeg : Int32) = 2) (c132_16 : ¬ (r_12 : Int32) = 0) (c144_17 : ¬ (u.2.1 1215 (x6 : Int32).toNatClampNeg : Int32) = 1) (c172_18 : (u.2.1 1215 (x6 : Int32).toNatClampNeg : Int32) = 3) (c176_19 : ¬ 0 ≤ (x3 : Int32)) : 0 ≤ x.toInt := by
  have hz1210 := hI.1.s1210
  first | omega | ((try simp only [Int32.lt_iff_toInt_lt, Int32.le_iff_toInt_le, ← Int32.toInt_inj, Int32.toInt_add, Int32.toInt_sub, Int32.toInt_mul, Int32.toInt_neg, Int32.reduceToInt, g_bm, g_bm'] at *); omega) | (simp only [Int32.lt_iff_toInt_lt, Int32.le_iff_toInt_le, ← Int32.toInt_inj, Int32.toInt_add, Int32.toInt_sub, Int32.toInt_mul, Int32.toInt_neg, Int32.reduceToInt, g_bm, g_bm'] at *; simp at *; omega) | (simp_all; done)
set_option maxRecDepth 100000 in
theorem g_X12_judges_v31 (u : qS) (x : Int32) (x3 : Int32) (x5 : Int32) (x6 : Int32) (r_12 : Int32) (hI : IM u) (h_1 : x < u.1 1210) (h_b : 0 ≤ x.toInt) (h_l : 16 * x.toInt ≤ x6.toInt) (h_r : x6.toInt ≤ 16 * x.toInt + (u.2.1 1214 x.toNatClampNeg).toInt) (h_n : x5.toInt = (g_lets (u.2.1 1215) (16 * x.toNatClampNeg) (x6.toNatClampNeg - 16 * x.toNatClampNeg) : Int)) (c44_1 : ¬ ((16 * x) + (u.2.1 1214 (x : Int32).toNatClampNeg)) ≤ (x6 : Int32)) (c54_8 : ¬ (u.2.1 1215 (x6 : Int32).toNatClampNeg : Int32) = 0) (c89_9 : ¬ (u.2.1 1215 (x6 : Int32).toNatClampNeg : Int32) = 2) (c132_16 : ¬ (r_12 : Int32) = 0) (c144_17 : ¬ (u.2.1 1215 (x6 : Int32).toNatClampNeg : Int32) = 1) (c172_18 : (u.2.1 1215 (x6 : Int32).toNatClampNeg : Int32) = 3) (c176_19 : ¬ 0 ≤ (x3 : Int32)) : 16 * x.toInt ≤ (x6 + 1).toInt := by
  have hz1210 := hI.1.s1210
  have q8 := hI.1.s1210; have q9 := (hI.2.2.1 x (Int32.le_iff_toInt_le.mpr h_b) h_1).1; clear h_n; (try simp only [Int32.lt_iff_toInt_lt, Int32.le_iff_toInt_le, ← Int32.toInt_inj, Int32.toInt_add, Int32.toInt_sub, Int32.toInt_mul, Int32.toInt_neg, Int32.reduceToInt, g_bm, g_bm'] at *); omega
set_option maxRecDepth 100000 in
theorem g_X12_judges_v32 (u : qS) (x : Int32) (x3 : Int32) (x5 : Int32) (x6 : Int32) (r_12 : Int32) (hI : IM u) (h_1 : x < u.1 1210) (h_b : 0 ≤ x.toInt) (h_l : 16 * x.toInt ≤ x6.toInt) (h_r : x6.toInt ≤ 16 * x.toInt + (u.2.1 1214 x.toNatClampNeg).toInt) (h_n : x5.toInt = (g_lets (u.2.1 1215) (16 * x.toNatClampNeg) (x6.toNatClampNeg - 16 * x.toNatClampNeg) : Int)) (c44_1 : ¬ ((16 * x) + (u.2.1 1214 (x : Int32).toNatClampNeg)) ≤ (x6 : Int32)) (c54_8 : ¬ (u.2.1 1215 (x6 : Int32).toNatClampNeg : Int32) = 0) (c89_9 : ¬ (u.2.1 1215 (x6 : Int32).toNatClampNeg : Int32) = 2) (c132_16 : ¬ (r_12 : Int32) = 0) (c144_17 : ¬ (u.2.1 1215 (x6 : Int32).toNatClampNeg : Int32) = 1) (c172_18 : (u.2.1 1215 (x6 : Int32).toNatClampNeg : Int32) = 3) (c176_19 : ¬ 0 ≤ (x3 : Int32)) : (x6 + 1).toInt ≤ 16 * x.toInt + (u.2.1 1214 x.toNatClampNeg).toInt := by
  have hz1210 := hI.1.s1210
  have q8 := hI.1.s1210; have q9 := (hI.2.2.1 x (Int32.le_iff_toInt_le.mpr h_b) h_1).1; clear h_n; (try simp only [Int32.lt_iff_toInt_lt, Int32.le_iff_toInt_le, ← Int32.toInt_inj, Int32.toInt_add, Int32.toInt_sub, Int32.toInt_mul, Int32.toInt_neg, Int32.reduceToInt, g_bm, g_bm'] at *); omega
set_option maxRecDepth 100000 in
theorem g_X12_judges_v33 (u : qS) (x : Int32) (x3 : Int32) (x5 : Int32) (x6 : Int32) (r_12 : Int32) (hI : IM u) (h_1 : x < u.1 1210) (h_b : 0 ≤ x.toInt) (h_l : 16 * x.toInt ≤ x6.toInt) (h_r : x6.toInt ≤ 16 * x.toInt + (u.2.1 1214 x.toNatClampNeg).toInt) (h_n : x5.toInt = (g_lets (u.2.1 1215) (16 * x.toNatClampNeg) (x6.toNatClampNeg - 16 * x.toNatClampNeg) : Int)) (c44_1 : ¬ ((16 * x) + (u.2.1 1214 (x : Int32).toNatClampNeg)) ≤ (x6 : Int32)) (c54_8 : ¬ (u.2.1 1215 (x6 : Int32).toNatClampNeg : Int32) = 0) (c89_9 : ¬ (u.2.1 1215 (x6 : Int32).toNatClampNeg : Int32) = 2) (c132_16 : ¬ (r_12 : Int32) = 0) (c144_17 : ¬ (u.2.1 1215 (x6 : Int32).toNatClampNeg : Int32) = 1) (c172_18 : (u.2.1 1215 (x6 : Int32).toNatClampNeg : Int32) = 3) (c176_19 : ¬ 0 ≤ (x3 : Int32)) : x5.toInt = (g_lets (u.2.1 1215) (16 * x.toNatClampNeg) ((x6 + 1).toNatClampNeg - 16 * x.toNatClampNeg) : Int) := by
  have hz1210 := hI.1.s1210
  have q := g_jd hI.2.2.1 (b := x) (k := x6) h_b h_1 hI.1.s1210.2 h_l (by have q9 := (hI.2.2.1 x (Int32.le_iff_toInt_le.mpr h_b) h_1).1; have q8 := hI.1.s1210; have q7 : x < u.1 1210 := h_1; clear h_n; (try simp only [Int32.lt_iff_toInt_lt, Int32.le_iff_toInt_le, ← Int32.toInt_inj, Int32.toInt_add, Int32.toInt_sub, Int32.toInt_mul, Int32.toInt_neg, Int32.reduceToInt, g_bm, g_bm'] at *); omega)
  have q1 := q.2.2.2; have q3 := q.1; clear q
  have q6 : (x6 + 1).toNatClampNeg = x6.toNatClampNeg + 1 := (g_up (by omega) (by omega)).2
  have c6 := g_clamp x6
  have cx := g_clamp x
  have es : g_lets (u.2.1 1215) (16 * x.toNatClampNeg) ((x6 + 1).toNatClampNeg - 16 * x.toNatClampNeg) = g_lets (u.2.1 1215) (16 * x.toNatClampNeg) (x6.toNatClampNeg - 16 * x.toNatClampNeg) + (if u.2.1 1215 (16 * x.toNatClampNeg + (x6.toNatClampNeg - 16 * x.toNatClampNeg)) = 0 then 1 else 0) := by
    rw [q6, show x6.toNatClampNeg + 1 - 16 * x.toNatClampNeg = (x6.toNatClampNeg - 16 * x.toNatClampNeg) + 1 from by omega]; rfl
  rw [show 16 * x.toNatClampNeg + (x6.toNatClampNeg - 16 * x.toNatClampNeg) = x6.toNatClampNeg from by omega] at es
  first | rw [if_pos (by assumption)] at es q1 | rw [if_neg (by assumption)] at es q1
  first | (have q5 : (x5 + 1).toInt = x5.toInt + 1 := (g_up (by omega) (by omega)).1; omega) | omega
set_option maxRecDepth 100000 in
theorem g_X12_judges_v34 (u : qS) (x : Int32) (x3 : Int32) (x5 : Int32) (x6 : Int32) (r_12 : Int32) (hI : IM u) (h_1 : x < u.1 1210) (h_b : 0 ≤ x.toInt) (h_l : 16 * x.toInt ≤ x6.toInt) (h_r : x6.toInt ≤ 16 * x.toInt + (u.2.1 1214 x.toNatClampNeg).toInt) (h_n : x5.toInt = (g_lets (u.2.1 1215) (16 * x.toNatClampNeg) (x6.toNatClampNeg - 16 * x.toNatClampNeg) : Int)) (c44_1 : ¬ ((16 * x) + (u.2.1 1214 (x : Int32).toNatClampNeg)) ≤ (x6 : Int32)) (c54_8 : ¬ (u.2.1 1215 (x6 : Int32).toNatClampNeg : Int32) = 0) (c89_9 : ¬ (u.2.1 1215 (x6 : Int32).toNatClampNeg : Int32) = 2) (c132_16 : ¬ (r_12 : Int32) = 0) (c144_17 : ¬ (u.2.1 1215 (x6 : Int32).toNatClampNeg : Int32) = 1) (c172_18 : (u.2.1 1215 (x6 : Int32).toNatClampNeg : Int32) = 3) (c176_19 : ¬ 0 ≤ (x3 : Int32)) : (272 - (x6 + 1).toInt).toNat < (272 - x6.toInt).toNat := by
  have hz1210 := hI.1.s1210
  have q8 := hI.1.s1210; have q9 := (hI.2.2.1 x (Int32.le_iff_toInt_le.mpr h_b) h_1).1; clear h_n; (try simp only [Int32.lt_iff_toInt_lt, Int32.le_iff_toInt_le, ← Int32.toInt_inj, Int32.toInt_add, Int32.toInt_sub, Int32.toInt_mul, Int32.toInt_neg, Int32.reduceToInt, g_bm, g_bm'] at *); omega
set_option maxRecDepth 100000 in
theorem g_X12_judges_v35 (u : qS) (x : Int32) (x5 : Int32) (x6 : Int32) (r_12 : Int32) (hI : IM u) (h_1 : x < u.1 1210) (h_b : 0 ≤ x.toInt) (h_l : 16 * x.toInt ≤ x6.toInt) (h_r : x6.toInt ≤ 16 * x.toInt + (u.2.1 1214 x.toNatClampNeg).toInt) (h_n : x5.toInt = (g_lets (u.2.1 1215) (16 * x.toNatClampNeg) (x6.toNatClampNeg - 16 * x.toNatClampNeg) : Int)) (c44_1 : ¬ ((16 * x) + (u.2.1 1214 (x : Int32).toNatClampNeg)) ≤ (x6 : Int32)) (c54_8 : ¬ (u.2.1 1215 (x6 : Int32).toNatClampNeg : Int32) = 0) (c89_9 : ¬ (u.2.1 1215 (x6 : Int32).toNatClampNeg : Int32) = 2) (c132_16 : ¬ (r_12 : Int32) = 0) (c144_17 : (u.2.1 1215 (x6 : Int32).toNatClampNeg : Int32) = 1) : vp_in (x6) 272 := by
  have hz1210 := hI.1.s1210
  have q := g_jd hI.2.2.1 (b := x) (k := x6) h_b h_1 hI.1.s1210.2 h_l (by have q9 := (hI.2.2.1 x (Int32.le_iff_toInt_le.mpr h_b) h_1).1; have q8 := hI.1.s1210; have q7 : x < u.1 1210 := h_1; clear h_n; (try simp only [Int32.lt_iff_toInt_lt, Int32.le_iff_toInt_le, ← Int32.toInt_inj, Int32.toInt_add, Int32.toInt_sub, Int32.toInt_mul, Int32.toInt_neg, Int32.reduceToInt, g_bm, g_bm'] at *); omega)
  have q1 := q.1; clear q h_n; refine g_in ?_ ?_ <;> ((try simp only [Int32.lt_iff_toInt_lt, Int32.le_iff_toInt_le, ← Int32.toInt_inj, Int32.toInt_add, Int32.toInt_sub, Int32.toInt_mul, Int32.toInt_neg, Int32.reduceToInt, g_bm, g_bm'] at *); omega)
set_option maxRecDepth 100000 in
theorem g_X12_judges_v36 (u : qS) (x : Int32) (x5 : Int32) (x6 : Int32) (r_12 : Int32) (hI : IM u) (h_1 : x < u.1 1210) (h_b : 0 ≤ x.toInt) (h_l : 16 * x.toInt ≤ x6.toInt) (h_r : x6.toInt ≤ 16 * x.toInt + (u.2.1 1214 x.toNatClampNeg).toInt) (h_n : x5.toInt = (g_lets (u.2.1 1215) (16 * x.toNatClampNeg) (x6.toNatClampNeg - 16 * x.toNatClampNeg) : Int)) (c44_1 : ¬ ((16 * x) + (u.2.1 1214 (x : Int32).toNatClampNeg)) ≤ (x6 : Int32)) (c54_8 : ¬ (u.2.1 1215 (x6 : Int32).toNatClampNeg : Int32) = 0) (c89_9 : ¬ (u.2.1 1215 (x6 : Int32).toNatClampNeg : Int32) = 2) (c132_16 : ¬ (r_12 : Int32) = 0) (c144_17 : (u.2.1 1215 (x6 : Int32).toNatClampNeg : Int32) = 1) : g_gf ((u.2.1 1222)) ((u.2.1 1223)) ((u.2.1 1217) (x6 : Int32).toNatClampNeg) := by
  have hz1210 := hI.1.s1210
  have q := g_jd hI.2.2.1 (b := x) (k := x6) h_b h_1 hI.1.s1210.2 h_l (by have q9 := (hI.2.2.1 x (Int32.le_iff_toInt_le.mpr h_b) h_1).1; have q8 := hI.1.s1210; have q7 : x < u.1 1210 := h_1; clear h_n; (try simp only [Int32.lt_iff_toInt_lt, Int32.le_iff_toInt_le, ← Int32.toInt_inj, Int32.toInt_add, Int32.toInt_sub, Int32.toInt_mul, Int32.toInt_neg, Int32.reduceToInt, g_bm, g_bm'] at *); omega)
  first | exact q.2.1 (g_n3 (Or.inl (by assumption))) | exact q.2.1 (g_n3 (Or.inr (Or.inl (by assumption)))) | exact q.2.1 (g_n3 (Or.inr (Or.inr (by assumption))))
set_option maxRecDepth 100000 in
theorem g_X12_judges_v37 (u : qS) (x : Int32) (x5 : Int32) (x6 : Int32) (r_12 : Int32) (hI : IM u) (h_1 : x < u.1 1210) (h_b : 0 ≤ x.toInt) (h_l : 16 * x.toInt ≤ x6.toInt) (h_r : x6.toInt ≤ 16 * x.toInt + (u.2.1 1214 x.toNatClampNeg).toInt) (h_n : x5.toInt = (g_lets (u.2.1 1215) (16 * x.toNatClampNeg) (x6.toNatClampNeg - 16 * x.toNatClampNeg) : Int)) (c44_1 : ¬ ((16 * x) + (u.2.1 1214 (x : Int32).toNatClampNeg)) ≤ (x6 : Int32)) (c54_8 : ¬ (u.2.1 1215 (x6 : Int32).toNatClampNeg : Int32) = 0) (c89_9 : ¬ (u.2.1 1215 (x6 : Int32).toNatClampNeg : Int32) = 2) (c132_16 : ¬ (r_12 : Int32) = 0) (c144_17 : (u.2.1 1215 (x6 : Int32).toNatClampNeg : Int32) = 1) : vp_in (x6) 272 := by
  have hz1210 := hI.1.s1210
  have q := g_jd hI.2.2.1 (b := x) (k := x6) h_b h_1 hI.1.s1210.2 h_l (by have q9 := (hI.2.2.1 x (Int32.le_iff_toInt_le.mpr h_b) h_1).1; have q8 := hI.1.s1210; have q7 : x < u.1 1210 := h_1; clear h_n; (try simp only [Int32.lt_iff_toInt_lt, Int32.le_iff_toInt_le, ← Int32.toInt_inj, Int32.toInt_add, Int32.toInt_sub, Int32.toInt_mul, Int32.toInt_neg, Int32.reduceToInt, g_bm, g_bm'] at *); omega)
  have q1 := q.1; clear q h_n; refine g_in ?_ ?_ <;> ((try simp only [Int32.lt_iff_toInt_lt, Int32.le_iff_toInt_le, ← Int32.toInt_inj, Int32.toInt_add, Int32.toInt_sub, Int32.toInt_mul, Int32.toInt_neg, Int32.reduceToInt, g_bm, g_bm'] at *); omega)
set_option maxRecDepth 100000 in
theorem g_X12_judges_v38 (u : qS) (x : Int32) (x5 : Int32) (x6 : Int32) (r_12 : Int32) (hI : IM u) (h_1 : x < u.1 1210) (h_b : 0 ≤ x.toInt) (h_l : 16 * x.toInt ≤ x6.toInt) (h_r : x6.toInt ≤ 16 * x.toInt + (u.2.1 1214 x.toNatClampNeg).toInt) (h_n : x5.toInt = (g_lets (u.2.1 1215) (16 * x.toNatClampNeg) (x6.toNatClampNeg - 16 * x.toNatClampNeg) : Int)) (c44_1 : ¬ ((16 * x) + (u.2.1 1214 (x : Int32).toNatClampNeg)) ≤ (x6 : Int32)) (c54_8 : ¬ (u.2.1 1215 (x6 : Int32).toNatClampNeg : Int32) = 0) (c89_9 : ¬ (u.2.1 1215 (x6 : Int32).toNatClampNeg : Int32) = 2) (c132_16 : ¬ (r_12 : Int32) = 0) (c144_17 : (u.2.1 1215 (x6 : Int32).toNatClampNeg : Int32) = 1) (c172_26 : ¬ (u.2.1 1215 (x6 : Int32).toNatClampNeg : Int32) = 3) : 0 ≤ x.toInt := by
  have hz1210 := hI.1.s1210
  first | omega | ((try simp only [Int32.lt_iff_toInt_lt, Int32.le_iff_toInt_le, ← Int32.toInt_inj, Int32.toInt_add, Int32.toInt_sub, Int32.toInt_mul, Int32.toInt_neg, Int32.reduceToInt, g_bm, g_bm'] at *); omega) | (simp only [Int32.lt_iff_toInt_lt, Int32.le_iff_toInt_le, ← Int32.toInt_inj, Int32.toInt_add, Int32.toInt_sub, Int32.toInt_mul, Int32.toInt_neg, Int32.reduceToInt, g_bm, g_bm'] at *; simp at *; omega) | (simp_all; done)
set_option maxRecDepth 100000 in
theorem g_X12_judges_v39 (u : qS) (x : Int32) (x5 : Int32) (x6 : Int32) (r_12 : Int32) (hI : IM u) (h_1 : x < u.1 1210) (h_b : 0 ≤ x.toInt) (h_l : 16 * x.toInt ≤ x6.toInt) (h_r : x6.toInt ≤ 16 * x.toInt + (u.2.1 1214 x.toNatClampNeg).toInt) (h_n : x5.toInt = (g_lets (u.2.1 1215) (16 * x.toNatClampNeg) (x6.toNatClampNeg - 16 * x.toNatClampNeg) : Int)) (c44_1 : ¬ ((16 * x) + (u.2.1 1214 (x : Int32).toNatClampNeg)) ≤ (x6 : Int32)) (c54_8 : ¬ (u.2.1 1215 (x6 : Int32).toNatClampNeg : Int32) = 0) (c89_9 : ¬ (u.2.1 1215 (x6 : Int32).toNatClampNeg : Int32) = 2) (c132_16 : ¬ (r_12 : Int32) = 0) (c144_17 : (u.2.1 1215 (x6 : Int32).toNatClampNeg : Int32) = 1) (c172_26 : ¬ (u.2.1 1215 (x6 : Int32).toNatClampNeg : Int32) = 3) : 16 * x.toInt ≤ (x6 + 1).toInt := by
  have hz1210 := hI.1.s1210
  have q8 := hI.1.s1210; have q9 := (hI.2.2.1 x (Int32.le_iff_toInt_le.mpr h_b) h_1).1; clear h_n; (try simp only [Int32.lt_iff_toInt_lt, Int32.le_iff_toInt_le, ← Int32.toInt_inj, Int32.toInt_add, Int32.toInt_sub, Int32.toInt_mul, Int32.toInt_neg, Int32.reduceToInt, g_bm, g_bm'] at *); omega
set_option maxRecDepth 100000 in
theorem g_X12_judges_v40 (u : qS) (x : Int32) (x5 : Int32) (x6 : Int32) (r_12 : Int32) (hI : IM u) (h_1 : x < u.1 1210) (h_b : 0 ≤ x.toInt) (h_l : 16 * x.toInt ≤ x6.toInt) (h_r : x6.toInt ≤ 16 * x.toInt + (u.2.1 1214 x.toNatClampNeg).toInt) (h_n : x5.toInt = (g_lets (u.2.1 1215) (16 * x.toNatClampNeg) (x6.toNatClampNeg - 16 * x.toNatClampNeg) : Int)) (c44_1 : ¬ ((16 * x) + (u.2.1 1214 (x : Int32).toNatClampNeg)) ≤ (x6 : Int32)) (c54_8 : ¬ (u.2.1 1215 (x6 : Int32).toNatClampNeg : Int32) = 0) (c89_9 : ¬ (u.2.1 1215 (x6 : Int32).toNatClampNeg : Int32) = 2) (c132_16 : ¬ (r_12 : Int32) = 0) (c144_17 : (u.2.1 1215 (x6 : Int32).toNatClampNeg : Int32) = 1) (c172_26 : ¬ (u.2.1 1215 (x6 : Int32).toNatClampNeg : Int32) = 3) : (x6 + 1).toInt ≤ 16 * x.toInt + (u.2.1 1214 x.toNatClampNeg).toInt := by
  have hz1210 := hI.1.s1210
  have q8 := hI.1.s1210; have q9 := (hI.2.2.1 x (Int32.le_iff_toInt_le.mpr h_b) h_1).1; clear h_n; (try simp only [Int32.lt_iff_toInt_lt, Int32.le_iff_toInt_le, ← Int32.toInt_inj, Int32.toInt_add, Int32.toInt_sub, Int32.toInt_mul, Int32.toInt_neg, Int32.reduceToInt, g_bm, g_bm'] at *); omega
set_option maxRecDepth 100000 in
theorem g_X12_judges_v41 (u : qS) (x : Int32) (x5 : Int32) (x6 : Int32) (r_12 : Int32) (hI : IM u) (h_1 : x < u.1 1210) (h_b : 0 ≤ x.toInt) (h_l : 16 * x.toInt ≤ x6.toInt) (h_r : x6.toInt ≤ 16 * x.toInt + (u.2.1 1214 x.toNatClampNeg).toInt) (h_n : x5.toInt = (g_lets (u.2.1 1215) (16 * x.toNatClampNeg) (x6.toNatClampNeg - 16 * x.toNatClampNeg) : Int)) (c44_1 : ¬ ((16 * x) + (u.2.1 1214 (x : Int32).toNatClampNeg)) ≤ (x6 : Int32)) (c54_8 : ¬ (u.2.1 1215 (x6 : Int32).toNatClampNeg : Int32) = 0) (c89_9 : ¬ (u.2.1 1215 (x6 : Int32).toNatClampNeg : Int32) = 2) (c132_16 : ¬ (r_12 : Int32) = 0) (c144_17 : (u.2.1 1215 (x6 : Int32).toNatClampNeg : Int32) = 1) (c172_26 : ¬ (u.2.1 1215 (x6 : Int32).toNatClampNeg : Int32) = 3) : x5.toInt = (g_lets (u.2.1 1215) (16 * x.toNatClampNeg) ((x6 + 1).toNatClampNeg - 16 * x.toNatClampNeg) : Int) := by
  have hz1210 := hI.1.s1210
  have q := g_jd hI.2.2.1 (b := x) (k := x6) h_b h_1 hI.1.s1210.2 h_l (by have q9 := (hI.2.2.1 x (Int32.le_iff_toInt_le.mpr h_b) h_1).1; have q8 := hI.1.s1210; have q7 : x < u.1 1210 := h_1; clear h_n; (try simp only [Int32.lt_iff_toInt_lt, Int32.le_iff_toInt_le, ← Int32.toInt_inj, Int32.toInt_add, Int32.toInt_sub, Int32.toInt_mul, Int32.toInt_neg, Int32.reduceToInt, g_bm, g_bm'] at *); omega)
  have q1 := q.2.2.2; have q3 := q.1; clear q
  have q6 : (x6 + 1).toNatClampNeg = x6.toNatClampNeg + 1 := (g_up (by omega) (by omega)).2
  have c6 := g_clamp x6
  have cx := g_clamp x
  have es : g_lets (u.2.1 1215) (16 * x.toNatClampNeg) ((x6 + 1).toNatClampNeg - 16 * x.toNatClampNeg) = g_lets (u.2.1 1215) (16 * x.toNatClampNeg) (x6.toNatClampNeg - 16 * x.toNatClampNeg) + (if u.2.1 1215 (16 * x.toNatClampNeg + (x6.toNatClampNeg - 16 * x.toNatClampNeg)) = 0 then 1 else 0) := by
    rw [q6, show x6.toNatClampNeg + 1 - 16 * x.toNatClampNeg = (x6.toNatClampNeg - 16 * x.toNatClampNeg) + 1 from by omega]; rfl
  rw [show 16 * x.toNatClampNeg + (x6.toNatClampNeg - 16 * x.toNatClampNeg) = x6.toNatClampNeg from by omega] at es
  first | rw [if_pos (by assumption)] at es q1 | rw [if_neg (by assumption)] at es q1
  first | (have q5 : (x5 + 1).toInt = x5.toInt + 1 := (g_up (by omega) (by omega)).1; omega) | omega
set_option maxRecDepth 100000 in
theorem g_X12_judges_v42 (u : qS) (x : Int32) (x5 : Int32) (x6 : Int32) (r_12 : Int32) (hI : IM u) (h_1 : x < u.1 1210) (h_b : 0 ≤ x.toInt) (h_l : 16 * x.toInt ≤ x6.toInt) (h_r : x6.toInt ≤ 16 * x.toInt + (u.2.1 1214 x.toNatClampNeg).toInt) (h_n : x5.toInt = (g_lets (u.2.1 1215) (16 * x.toNatClampNeg) (x6.toNatClampNeg - 16 * x.toNatClampNeg) : Int)) (c44_1 : ¬ ((16 * x) + (u.2.1 1214 (x : Int32).toNatClampNeg)) ≤ (x6 : Int32)) (c54_8 : ¬ (u.2.1 1215 (x6 : Int32).toNatClampNeg : Int32) = 0) (c89_9 : ¬ (u.2.1 1215 (x6 : Int32).toNatClampNeg : Int32) = 2) (c132_16 : ¬ (r_12 : Int32) = 0) (c144_17 : (u.2.1 1215 (x6 : Int32).toNatClampNeg : Int32) = 1) (c172_26 : ¬ (u.2.1 1215 (x6 : Int32).toNatClampNeg : Int32) = 3) : (272 - (x6 + 1).toInt).toNat < (272 - x6.toInt).toNat := by
  have hz1210 := hI.1.s1210
  have q8 := hI.1.s1210; have q9 := (hI.2.2.1 x (Int32.le_iff_toInt_le.mpr h_b) h_1).1; clear h_n; (try simp only [Int32.lt_iff_toInt_lt, Int32.le_iff_toInt_le, ← Int32.toInt_inj, Int32.toInt_add, Int32.toInt_sub, Int32.toInt_mul, Int32.toInt_neg, Int32.reduceToInt, g_bm, g_bm'] at *); omega
set_option maxRecDepth 100000 in
theorem g_X12_judges_v43 (u : qS) (x : Int32) (x3 : Int32) (x5 : Int32) (x6 : Int32) (r_12 : Int32) (hI : IM u) (h_1 : x < u.1 1210) (h_b : 0 ≤ x.toInt) (h_l : 16 * x.toInt ≤ x6.toInt) (h_r : x6.toInt ≤ 16 * x.toInt + (u.2.1 1214 x.toNatClampNeg).toInt) (h_n : x5.toInt = (g_lets (u.2.1 1215) (16 * x.toNatClampNeg) (x6.toNatClampNeg - 16 * x.toNatClampNeg) : Int)) (c44_1 : ¬ ((16 * x) + (u.2.1 1214 (x : Int32).toNatClampNeg)) ≤ (x6 : Int32)) (c54_8 : ¬ (u.2.1 1215 (x6 : Int32).toNatClampNeg : Int32) = 0) (c89_9 : ¬ (u.2.1 1215 (x6 : Int32).toNatClampNeg : Int32) = 2) (c132_16 : ¬ (r_12 : Int32) = 0) (c144_17 : (u.2.1 1215 (x6 : Int32).toNatClampNeg : Int32) = 1) (c172_26 : (u.2.1 1215 (x6 : Int32).toNatClampNeg : Int32) = 3) (c176_27 : 0 ≤ (x3 : Int32)) : 0 ≤ x.toInt := by
  have hz1210 := hI.1.s1210
  first | omega | ((try simp only [Int32.lt_iff_toInt_lt, Int32.le_iff_toInt_le, ← Int32.toInt_inj, Int32.toInt_add, Int32.toInt_sub, Int32.toInt_mul, Int32.toInt_neg, Int32.reduceToInt, g_bm, g_bm'] at *); omega) | (simp only [Int32.lt_iff_toInt_lt, Int32.le_iff_toInt_le, ← Int32.toInt_inj, Int32.toInt_add, Int32.toInt_sub, Int32.toInt_mul, Int32.toInt_neg, Int32.reduceToInt, g_bm, g_bm'] at *; simp at *; omega) | (simp_all; done)
set_option maxRecDepth 100000 in
theorem g_X12_judges_v44 (u : qS) (x : Int32) (x3 : Int32) (x5 : Int32) (x6 : Int32) (r_12 : Int32) (hI : IM u) (h_1 : x < u.1 1210) (h_b : 0 ≤ x.toInt) (h_l : 16 * x.toInt ≤ x6.toInt) (h_r : x6.toInt ≤ 16 * x.toInt + (u.2.1 1214 x.toNatClampNeg).toInt) (h_n : x5.toInt = (g_lets (u.2.1 1215) (16 * x.toNatClampNeg) (x6.toNatClampNeg - 16 * x.toNatClampNeg) : Int)) (c44_1 : ¬ ((16 * x) + (u.2.1 1214 (x : Int32).toNatClampNeg)) ≤ (x6 : Int32)) (c54_8 : ¬ (u.2.1 1215 (x6 : Int32).toNatClampNeg : Int32) = 0) (c89_9 : ¬ (u.2.1 1215 (x6 : Int32).toNatClampNeg : Int32) = 2) (c132_16 : ¬ (r_12 : Int32) = 0) (c144_17 : (u.2.1 1215 (x6 : Int32).toNatClampNeg : Int32) = 1) (c172_26 : (u.2.1 1215 (x6 : Int32).toNatClampNeg : Int32) = 3) (c176_27 : 0 ≤ (x3 : Int32)) : 16 * x.toInt ≤ (x6 + 1).toInt := by
  have hz1210 := hI.1.s1210
  have q8 := hI.1.s1210; have q9 := (hI.2.2.1 x (Int32.le_iff_toInt_le.mpr h_b) h_1).1; clear h_n; (try simp only [Int32.lt_iff_toInt_lt, Int32.le_iff_toInt_le, ← Int32.toInt_inj, Int32.toInt_add, Int32.toInt_sub, Int32.toInt_mul, Int32.toInt_neg, Int32.reduceToInt, g_bm, g_bm'] at *); omega
set_option maxRecDepth 100000 in
theorem g_X12_judges_v45 (u : qS) (x : Int32) (x3 : Int32) (x5 : Int32) (x6 : Int32) (r_12 : Int32) (hI : IM u) (h_1 : x < u.1 1210) (h_b : 0 ≤ x.toInt) (h_l : 16 * x.toInt ≤ x6.toInt) (h_r : x6.toInt ≤ 16 * x.toInt + (u.2.1 1214 x.toNatClampNeg).toInt) (h_n : x5.toInt = (g_lets (u.2.1 1215) (16 * x.toNatClampNeg) (x6.toNatClampNeg - 16 * x.toNatClampNeg) : Int)) (c44_1 : ¬ ((16 * x) + (u.2.1 1214 (x : Int32).toNatClampNeg)) ≤ (x6 : Int32)) (c54_8 : ¬ (u.2.1 1215 (x6 : Int32).toNatClampNeg : Int32) = 0) (c89_9 : ¬ (u.2.1 1215 (x6 : Int32).toNatClampNeg : Int32) = 2) (c132_16 : ¬ (r_12 : Int32) = 0) (c144_17 : (u.2.1 1215 (x6 : Int32).toNatClampNeg : Int32) = 1) (c172_26 : (u.2.1 1215 (x6 : Int32).toNatClampNeg : Int32) = 3) (c176_27 : 0 ≤ (x3 : Int32)) : (x6 + 1).toInt ≤ 16 * x.toInt + (u.2.1 1214 x.toNatClampNeg).toInt := by
  have hz1210 := hI.1.s1210
  have q8 := hI.1.s1210; have q9 := (hI.2.2.1 x (Int32.le_iff_toInt_le.mpr h_b) h_1).1; clear h_n; (try simp only [Int32.lt_iff_toInt_lt, Int32.le_iff_toInt_le, ← Int32.toInt_inj, Int32.toInt_add, Int32.toInt_sub, Int32.toInt_mul, Int32.toInt_neg, Int32.reduceToInt, g_bm, g_bm'] at *); omega
set_option maxRecDepth 100000 in
theorem g_X12_judges_v46 (u : qS) (x : Int32) (x3 : Int32) (x5 : Int32) (x6 : Int32) (r_12 : Int32) (hI : IM u) (h_1 : x < u.1 1210) (h_b : 0 ≤ x.toInt) (h_l : 16 * x.toInt ≤ x6.toInt) (h_r : x6.toInt ≤ 16 * x.toInt + (u.2.1 1214 x.toNatClampNeg).toInt) (h_n : x5.toInt = (g_lets (u.2.1 1215) (16 * x.toNatClampNeg) (x6.toNatClampNeg - 16 * x.toNatClampNeg) : Int)) (c44_1 : ¬ ((16 * x) + (u.2.1 1214 (x : Int32).toNatClampNeg)) ≤ (x6 : Int32)) (c54_8 : ¬ (u.2.1 1215 (x6 : Int32).toNatClampNeg : Int32) = 0) (c89_9 : ¬ (u.2.1 1215 (x6 : Int32).toNatClampNeg : Int32) = 2) (c132_16 : ¬ (r_12 : Int32) = 0) (c144_17 : (u.2.1 1215 (x6 : Int32).toNatClampNeg : Int32) = 1) (c172_26 : (u.2.1 1215 (x6 : Int32).toNatClampNeg : Int32) = 3) (c176_27 : 0 ≤ (x3 : Int32)) : x5.toInt = (g_lets (u.2.1 1215) (16 * x.toNatClampNeg) ((x6 + 1).toNatClampNeg - 16 * x.toNatClampNeg) : Int) := by
  have hz1210 := hI.1.s1210
  have q := g_jd hI.2.2.1 (b := x) (k := x6) h_b h_1 hI.1.s1210.2 h_l (by have q9 := (hI.2.2.1 x (Int32.le_iff_toInt_le.mpr h_b) h_1).1; have q8 := hI.1.s1210; have q7 : x < u.1 1210 := h_1; clear h_n; (try simp only [Int32.lt_iff_toInt_lt, Int32.le_iff_toInt_le, ← Int32.toInt_inj, Int32.toInt_add, Int32.toInt_sub, Int32.toInt_mul, Int32.toInt_neg, Int32.reduceToInt, g_bm, g_bm'] at *); omega)
  have q1 := q.2.2.2; have q3 := q.1; clear q
  have q6 : (x6 + 1).toNatClampNeg = x6.toNatClampNeg + 1 := (g_up (by omega) (by omega)).2
  have c6 := g_clamp x6
  have cx := g_clamp x
  have es : g_lets (u.2.1 1215) (16 * x.toNatClampNeg) ((x6 + 1).toNatClampNeg - 16 * x.toNatClampNeg) = g_lets (u.2.1 1215) (16 * x.toNatClampNeg) (x6.toNatClampNeg - 16 * x.toNatClampNeg) + (if u.2.1 1215 (16 * x.toNatClampNeg + (x6.toNatClampNeg - 16 * x.toNatClampNeg)) = 0 then 1 else 0) := by
    rw [q6, show x6.toNatClampNeg + 1 - 16 * x.toNatClampNeg = (x6.toNatClampNeg - 16 * x.toNatClampNeg) + 1 from by omega]; rfl
  rw [show 16 * x.toNatClampNeg + (x6.toNatClampNeg - 16 * x.toNatClampNeg) = x6.toNatClampNeg from by omega] at es
  first | rw [if_pos (by assumption)] at es q1 | rw [if_neg (by assumption)] at es q1
  first | (have q5 : (x5 + 1).toInt = x5.toInt + 1 := (g_up (by omega) (by omega)).1; omega) | omega
set_option maxRecDepth 100000 in
theorem g_X12_judges_v47 (u : qS) (x : Int32) (x3 : Int32) (x5 : Int32) (x6 : Int32) (r_12 : Int32) (hI : IM u) (h_1 : x < u.1 1210) (h_b : 0 ≤ x.toInt) (h_l : 16 * x.toInt ≤ x6.toInt) (h_r : x6.toInt ≤ 16 * x.toInt + (u.2.1 1214 x.toNatClampNeg).toInt) (h_n : x5.toInt = (g_lets (u.2.1 1215) (16 * x.toNatClampNeg) (x6.toNatClampNeg - 16 * x.toNatClampNeg) : Int)) (c44_1 : ¬ ((16 * x) + (u.2.1 1214 (x : Int32).toNatClampNeg)) ≤ (x6 : Int32)) (c54_8 : ¬ (u.2.1 1215 (x6 : Int32).toNatClampNeg : Int32) = 0) (c89_9 : ¬ (u.2.1 1215 (x6 : Int32).toNatClampNeg : Int32) = 2) (c132_16 : ¬ (r_12 : Int32) = 0) (c144_17 : (u.2.1 1215 (x6 : Int32).toNatClampNeg : Int32) = 1) (c172_26 : (u.2.1 1215 (x6 : Int32).toNatClampNeg : Int32) = 3) (c176_27 : 0 ≤ (x3 : Int32)) : (272 - (x6 + 1).toInt).toNat < (272 - x6.toInt).toNat := by
  have hz1210 := hI.1.s1210
  have q8 := hI.1.s1210; have q9 := (hI.2.2.1 x (Int32.le_iff_toInt_le.mpr h_b) h_1).1; clear h_n; (try simp only [Int32.lt_iff_toInt_lt, Int32.le_iff_toInt_le, ← Int32.toInt_inj, Int32.toInt_add, Int32.toInt_sub, Int32.toInt_mul, Int32.toInt_neg, Int32.reduceToInt, g_bm, g_bm'] at *); omega
set_option maxRecDepth 100000 in
theorem g_X12_judges_v48 (u : qS) (x : Int32) (x3 : Int32) (x5 : Int32) (x6 : Int32) (r_12 : Int32) (hI : IM u) (h_1 : x < u.1 1210) (h_b : 0 ≤ x.toInt) (h_l : 16 * x.toInt ≤ x6.toInt) (h_r : x6.toInt ≤ 16 * x.toInt + (u.2.1 1214 x.toNatClampNeg).toInt) (h_n : x5.toInt = (g_lets (u.2.1 1215) (16 * x.toNatClampNeg) (x6.toNatClampNeg - 16 * x.toNatClampNeg) : Int)) (c44_1 : ¬ ((16 * x) + (u.2.1 1214 (x : Int32).toNatClampNeg)) ≤ (x6 : Int32)) (c54_8 : ¬ (u.2.1 1215 (x6 : Int32).toNatClampNeg : Int32) = 0) (c89_9 : ¬ (u.2.1 1215 (x6 : Int32).toNatClampNeg : Int32) = 2) (c132_16 : ¬ (r_12 : Int32) = 0) (c144_17 : (u.2.1 1215 (x6 : Int32).toNatClampNeg : Int32) = 1) (c172_26 : (u.2.1 1215 (x6 : Int32).toNatClampNeg : Int32) = 3) (c176_27 : ¬ 0 ≤ (x3 : Int32)) : vp_in (x6) 272 := by
  have hz1210 := hI.1.s1210
  have q := g_jd hI.2.2.1 (b := x) (k := x6) h_b h_1 hI.1.s1210.2 h_l (by have q9 := (hI.2.2.1 x (Int32.le_iff_toInt_le.mpr h_b) h_1).1; have q8 := hI.1.s1210; have q7 : x < u.1 1210 := h_1; clear h_n; (try simp only [Int32.lt_iff_toInt_lt, Int32.le_iff_toInt_le, ← Int32.toInt_inj, Int32.toInt_add, Int32.toInt_sub, Int32.toInt_mul, Int32.toInt_neg, Int32.reduceToInt, g_bm, g_bm'] at *); omega)
  have q1 := q.1; clear q h_n; refine g_in ?_ ?_ <;> ((try simp only [Int32.lt_iff_toInt_lt, Int32.le_iff_toInt_le, ← Int32.toInt_inj, Int32.toInt_add, Int32.toInt_sub, Int32.toInt_mul, Int32.toInt_neg, Int32.reduceToInt, g_bm, g_bm'] at *); omega)
set_option maxRecDepth 100000 in
theorem g_X12_judges_v49 (u : qS) (x : Int32) (x3 : Int32) (x5 : Int32) (x6 : Int32) (r_12 : Int32) (hI : IM u) (h_1 : x < u.1 1210) (h_b : 0 ≤ x.toInt) (h_l : 16 * x.toInt ≤ x6.toInt) (h_r : x6.toInt ≤ 16 * x.toInt + (u.2.1 1214 x.toNatClampNeg).toInt) (h_n : x5.toInt = (g_lets (u.2.1 1215) (16 * x.toNatClampNeg) (x6.toNatClampNeg - 16 * x.toNatClampNeg) : Int)) (c44_1 : ¬ ((16 * x) + (u.2.1 1214 (x : Int32).toNatClampNeg)) ≤ (x6 : Int32)) (c54_8 : ¬ (u.2.1 1215 (x6 : Int32).toNatClampNeg : Int32) = 0) (c89_9 : ¬ (u.2.1 1215 (x6 : Int32).toNatClampNeg : Int32) = 2) (c132_16 : ¬ (r_12 : Int32) = 0) (c144_17 : (u.2.1 1215 (x6 : Int32).toNatClampNeg : Int32) = 1) (c172_26 : (u.2.1 1215 (x6 : Int32).toNatClampNeg : Int32) = 3) (c176_27 : ¬ 0 ≤ (x3 : Int32)) : 0 ≤ x.toInt := by
  have hz1210 := hI.1.s1210
  first | omega | ((try simp only [Int32.lt_iff_toInt_lt, Int32.le_iff_toInt_le, ← Int32.toInt_inj, Int32.toInt_add, Int32.toInt_sub, Int32.toInt_mul, Int32.toInt_neg, Int32.reduceToInt, g_bm, g_bm'] at *); omega) | (simp only [Int32.lt_iff_toInt_lt, Int32.le_iff_toInt_le, ← Int32.toInt_inj, Int32.toInt_add, Int32.toInt_sub, Int32.toInt_mul, Int32.toInt_neg, Int32.reduceToInt, g_bm, g_bm'] at *; simp at *; omega) | (simp_all; done)
set_option maxRecDepth 100000 in
theorem g_X12_judges_v50 (u : qS) (x : Int32) (x3 : Int32) (x5 : Int32) (x6 : Int32) (r_12 : Int32) (hI : IM u) (h_1 : x < u.1 1210) (h_b : 0 ≤ x.toInt) (h_l : 16 * x.toInt ≤ x6.toInt) (h_r : x6.toInt ≤ 16 * x.toInt + (u.2.1 1214 x.toNatClampNeg).toInt) (h_n : x5.toInt = (g_lets (u.2.1 1215) (16 * x.toNatClampNeg) (x6.toNatClampNeg - 16 * x.toNatClampNeg) : Int)) (c44_1 : ¬ ((16 * x) + (u.2.1 1214 (x : Int32).toNatClampNeg)) ≤ (x6 : Int32)) (c54_8 : ¬ (u.2.1 1215 (x6 : Int32).toNatClampNeg : Int32) = 0) (c89_9 : ¬ (u.2.1 1215 (x6 : Int32).toNatClampNeg : Int32) = 2) (c132_16 : ¬ (r_12 : Int32) = 0) (c144_17 : (u.2.1 1215 (x6 : Int32).toNatClampNeg : Int32) = 1) (c172_26 : (u.2.1 1215 (x6 : Int32).toNatClampNeg : Int32) = 3) (c176_27 : ¬ 0 ≤ (x3 : Int32)) : 16 * x.toInt ≤ (x6 + 1).toInt := by
  have hz1210 := hI.1.s1210
  have q8 := hI.1.s1210; have q9 := (hI.2.2.1 x (Int32.le_iff_toInt_le.mpr h_b) h_1).1; clear h_n; (try simp only [Int32.lt_iff_toInt_lt, Int32.le_iff_toInt_le, ← Int32.toInt_inj, Int32.toInt_add, Int32.toInt_sub, Int32.toInt_mul, Int32.toInt_neg, Int32.reduceToInt, g_bm, g_bm'] at *); omega
set_option maxRecDepth 100000 in
theorem g_X12_judges_v51 (u : qS) (x : Int32) (x3 : Int32) (x5 : Int32) (x6 : Int32) (r_12 : Int32) (hI : IM u) (h_1 : x < u.1 1210) (h_b : 0 ≤ x.toInt) (h_l : 16 * x.toInt ≤ x6.toInt) (h_r : x6.toInt ≤ 16 * x.toInt + (u.2.1 1214 x.toNatClampNeg).toInt) (h_n : x5.toInt = (g_lets (u.2.1 1215) (16 * x.toNatClampNeg) (x6.toNatClampNeg - 16 * x.toNatClampNeg) : Int)) (c44_1 : ¬ ((16 * x) + (u.2.1 1214 (x : Int32).toNatClampNeg)) ≤ (x6 : Int32)) (c54_8 : ¬ (u.2.1 1215 (x6 : Int32).toNatClampNeg : Int32) = 0) (c89_9 : ¬ (u.2.1 1215 (x6 : Int32).toNatClampNeg : Int32) = 2) (c132_16 : ¬ (r_12 : Int32) = 0) (c144_17 : (u.2.1 1215 (x6 : Int32).toNatClampNeg : Int32) = 1) (c172_26 : (u.2.1 1215 (x6 : Int32).toNatClampNeg : Int32) = 3) (c176_27 : ¬ 0 ≤ (x3 : Int32)) : (x6 + 1).toInt ≤ 16 * x.toInt + (u.2.1 1214 x.toNatClampNeg).toInt := by
  have hz1210 := hI.1.s1210
  have q8 := hI.1.s1210; have q9 := (hI.2.2.1 x (Int32.le_iff_toInt_le.mpr h_b) h_1).1; clear h_n; (try simp only [Int32.lt_iff_toInt_lt, Int32.le_iff_toInt_le, ← Int32.toInt_inj, Int32.toInt_add, Int32.toInt_sub, Int32.toInt_mul, Int32.toInt_neg, Int32.reduceToInt, g_bm, g_bm'] at *); omega
set_option maxRecDepth 100000 in
theorem g_X12_judges_v52 (u : qS) (x : Int32) (x3 : Int32) (x5 : Int32) (x6 : Int32) (r_12 : Int32) (hI : IM u) (h_1 : x < u.1 1210) (h_b : 0 ≤ x.toInt) (h_l : 16 * x.toInt ≤ x6.toInt) (h_r : x6.toInt ≤ 16 * x.toInt + (u.2.1 1214 x.toNatClampNeg).toInt) (h_n : x5.toInt = (g_lets (u.2.1 1215) (16 * x.toNatClampNeg) (x6.toNatClampNeg - 16 * x.toNatClampNeg) : Int)) (c44_1 : ¬ ((16 * x) + (u.2.1 1214 (x : Int32).toNatClampNeg)) ≤ (x6 : Int32)) (c54_8 : ¬ (u.2.1 1215 (x6 : Int32).toNatClampNeg : Int32) = 0) (c89_9 : ¬ (u.2.1 1215 (x6 : Int32).toNatClampNeg : Int32) = 2) (c132_16 : ¬ (r_12 : Int32) = 0) (c144_17 : (u.2.1 1215 (x6 : Int32).toNatClampNeg : Int32) = 1) (c172_26 : (u.2.1 1215 (x6 : Int32).toNatClampNeg : Int32) = 3) (c176_27 : ¬ 0 ≤ (x3 : Int32)) : x5.toInt = (g_lets (u.2.1 1215) (16 * x.toNatClampNeg) ((x6 + 1).toNatClampNeg - 16 * x.toNatClampNeg) : Int) := by
  have hz1210 := hI.1.s1210
  have q := g_jd hI.2.2.1 (b := x) (k := x6) h_b h_1 hI.1.s1210.2 h_l (by have q9 := (hI.2.2.1 x (Int32.le_iff_toInt_le.mpr h_b) h_1).1; have q8 := hI.1.s1210; have q7 : x < u.1 1210 := h_1; clear h_n; (try simp only [Int32.lt_iff_toInt_lt, Int32.le_iff_toInt_le, ← Int32.toInt_inj, Int32.toInt_add, Int32.toInt_sub, Int32.toInt_mul, Int32.toInt_neg, Int32.reduceToInt, g_bm, g_bm'] at *); omega)
  have q1 := q.2.2.2; have q3 := q.1; clear q
  have q6 : (x6 + 1).toNatClampNeg = x6.toNatClampNeg + 1 := (g_up (by omega) (by omega)).2
  have c6 := g_clamp x6
  have cx := g_clamp x
  have es : g_lets (u.2.1 1215) (16 * x.toNatClampNeg) ((x6 + 1).toNatClampNeg - 16 * x.toNatClampNeg) = g_lets (u.2.1 1215) (16 * x.toNatClampNeg) (x6.toNatClampNeg - 16 * x.toNatClampNeg) + (if u.2.1 1215 (16 * x.toNatClampNeg + (x6.toNatClampNeg - 16 * x.toNatClampNeg)) = 0 then 1 else 0) := by
    rw [q6, show x6.toNatClampNeg + 1 - 16 * x.toNatClampNeg = (x6.toNatClampNeg - 16 * x.toNatClampNeg) + 1 from by omega]; rfl
  rw [show 16 * x.toNatClampNeg + (x6.toNatClampNeg - 16 * x.toNatClampNeg) = x6.toNatClampNeg from by omega] at es
  first | rw [if_pos (by assumption)] at es q1 | rw [if_neg (by assumption)] at es q1
  first | (have q5 : (x5 + 1).toInt = x5.toInt + 1 := (g_up (by omega) (by omega)).1; omega) | omega
set_option maxRecDepth 100000 in
theorem g_X12_judges_v53 (u : qS) (x : Int32) (x3 : Int32) (x5 : Int32) (x6 : Int32) (r_12 : Int32) (hI : IM u) (h_1 : x < u.1 1210) (h_b : 0 ≤ x.toInt) (h_l : 16 * x.toInt ≤ x6.toInt) (h_r : x6.toInt ≤ 16 * x.toInt + (u.2.1 1214 x.toNatClampNeg).toInt) (h_n : x5.toInt = (g_lets (u.2.1 1215) (16 * x.toNatClampNeg) (x6.toNatClampNeg - 16 * x.toNatClampNeg) : Int)) (c44_1 : ¬ ((16 * x) + (u.2.1 1214 (x : Int32).toNatClampNeg)) ≤ (x6 : Int32)) (c54_8 : ¬ (u.2.1 1215 (x6 : Int32).toNatClampNeg : Int32) = 0) (c89_9 : ¬ (u.2.1 1215 (x6 : Int32).toNatClampNeg : Int32) = 2) (c132_16 : ¬ (r_12 : Int32) = 0) (c144_17 : (u.2.1 1215 (x6 : Int32).toNatClampNeg : Int32) = 1) (c172_26 : (u.2.1 1215 (x6 : Int32).toNatClampNeg : Int32) = 3) (c176_27 : ¬ 0 ≤ (x3 : Int32)) : (272 - (x6 + 1).toInt).toNat < (272 - x6.toInt).toNat := by
  have hz1210 := hI.1.s1210
  have q8 := hI.1.s1210; have q9 := (hI.2.2.1 x (Int32.le_iff_toInt_le.mpr h_b) h_1).1; clear h_n; (try simp only [Int32.lt_iff_toInt_lt, Int32.le_iff_toInt_le, ← Int32.toInt_inj, Int32.toInt_add, Int32.toInt_sub, Int32.toInt_mul, Int32.toInt_neg, Int32.reduceToInt, g_bm, g_bm'] at *); omega
set_option maxRecDepth 100000 in
theorem g_X12_judges_v54 (u : qS) (x : Int32) (x4 : Int32) (x5 : Int32) (x6 : Int32) (hI : IM u) (h_1 : x < u.1 1210) (h_b : 0 ≤ x.toInt) (h_l : 16 * x.toInt ≤ x6.toInt) (h_r : x6.toInt ≤ 16 * x.toInt + (u.2.1 1214 x.toNatClampNeg).toInt) (h_n : x5.toInt = (g_lets (u.2.1 1215) (16 * x.toNatClampNeg) (x6.toNatClampNeg - 16 * x.toNatClampNeg) : Int)) (c44_1 : ¬ ((16 * x) + (u.2.1 1214 (x : Int32).toNatClampNeg)) ≤ (x6 : Int32)) (c54_8 : ¬ (u.2.1 1215 (x6 : Int32).toNatClampNeg : Int32) = 0) (c89_9 : (u.2.1 1215 (x6 : Int32).toNatClampNeg : Int32) = 2) (c94_28 : ¬ (x4 : Int32) = 0) : 0 ≤ x.toInt := by
  have hz1210 := hI.1.s1210
  first | omega | ((try simp only [Int32.lt_iff_toInt_lt, Int32.le_iff_toInt_le, ← Int32.toInt_inj, Int32.toInt_add, Int32.toInt_sub, Int32.toInt_mul, Int32.toInt_neg, Int32.reduceToInt, g_bm, g_bm'] at *); omega) | (simp only [Int32.lt_iff_toInt_lt, Int32.le_iff_toInt_le, ← Int32.toInt_inj, Int32.toInt_add, Int32.toInt_sub, Int32.toInt_mul, Int32.toInt_neg, Int32.reduceToInt, g_bm, g_bm'] at *; simp at *; omega) | (simp_all; done)
set_option maxRecDepth 100000 in
theorem g_X12_judges_v55 (u : qS) (x : Int32) (x4 : Int32) (x5 : Int32) (x6 : Int32) (hI : IM u) (h_1 : x < u.1 1210) (h_b : 0 ≤ x.toInt) (h_l : 16 * x.toInt ≤ x6.toInt) (h_r : x6.toInt ≤ 16 * x.toInt + (u.2.1 1214 x.toNatClampNeg).toInt) (h_n : x5.toInt = (g_lets (u.2.1 1215) (16 * x.toNatClampNeg) (x6.toNatClampNeg - 16 * x.toNatClampNeg) : Int)) (c44_1 : ¬ ((16 * x) + (u.2.1 1214 (x : Int32).toNatClampNeg)) ≤ (x6 : Int32)) (c54_8 : ¬ (u.2.1 1215 (x6 : Int32).toNatClampNeg : Int32) = 0) (c89_9 : (u.2.1 1215 (x6 : Int32).toNatClampNeg : Int32) = 2) (c94_28 : ¬ (x4 : Int32) = 0) : 16 * x.toInt ≤ (x6 + 1).toInt := by
  have hz1210 := hI.1.s1210
  have q8 := hI.1.s1210; have q9 := (hI.2.2.1 x (Int32.le_iff_toInt_le.mpr h_b) h_1).1; clear h_n; (try simp only [Int32.lt_iff_toInt_lt, Int32.le_iff_toInt_le, ← Int32.toInt_inj, Int32.toInt_add, Int32.toInt_sub, Int32.toInt_mul, Int32.toInt_neg, Int32.reduceToInt, g_bm, g_bm'] at *); omega
set_option maxRecDepth 100000 in
theorem g_X12_judges_v56 (u : qS) (x : Int32) (x4 : Int32) (x5 : Int32) (x6 : Int32) (hI : IM u) (h_1 : x < u.1 1210) (h_b : 0 ≤ x.toInt) (h_l : 16 * x.toInt ≤ x6.toInt) (h_r : x6.toInt ≤ 16 * x.toInt + (u.2.1 1214 x.toNatClampNeg).toInt) (h_n : x5.toInt = (g_lets (u.2.1 1215) (16 * x.toNatClampNeg) (x6.toNatClampNeg - 16 * x.toNatClampNeg) : Int)) (c44_1 : ¬ ((16 * x) + (u.2.1 1214 (x : Int32).toNatClampNeg)) ≤ (x6 : Int32)) (c54_8 : ¬ (u.2.1 1215 (x6 : Int32).toNatClampNeg : Int32) = 0) (c89_9 : (u.2.1 1215 (x6 : Int32).toNatClampNeg : Int32) = 2) (c94_28 : ¬ (x4 : Int32) = 0) : (x6 + 1).toInt ≤ 16 * x.toInt + (u.2.1 1214 x.toNatClampNeg).toInt := by
  have hz1210 := hI.1.s1210
  have q8 := hI.1.s1210; have q9 := (hI.2.2.1 x (Int32.le_iff_toInt_le.mpr h_b) h_1).1; clear h_n; (try simp only [Int32.lt_iff_toInt_lt, Int32.le_iff_toInt_le, ← Int32.toInt_inj, Int32.toInt_add, Int32.toInt_sub, Int32.toInt_mul, Int32.toInt_neg, Int32.reduceToInt, g_bm, g_bm'] at *); omega
set_option maxRecDepth 100000 in
theorem g_X12_judges_v57 (u : qS) (x : Int32) (x4 : Int32) (x5 : Int32) (x6 : Int32) (hI : IM u) (h_1 : x < u.1 1210) (h_b : 0 ≤ x.toInt) (h_l : 16 * x.toInt ≤ x6.toInt) (h_r : x6.toInt ≤ 16 * x.toInt + (u.2.1 1214 x.toNatClampNeg).toInt) (h_n : x5.toInt = (g_lets (u.2.1 1215) (16 * x.toNatClampNeg) (x6.toNatClampNeg - 16 * x.toNatClampNeg) : Int)) (c44_1 : ¬ ((16 * x) + (u.2.1 1214 (x : Int32).toNatClampNeg)) ≤ (x6 : Int32)) (c54_8 : ¬ (u.2.1 1215 (x6 : Int32).toNatClampNeg : Int32) = 0) (c89_9 : (u.2.1 1215 (x6 : Int32).toNatClampNeg : Int32) = 2) (c94_28 : ¬ (x4 : Int32) = 0) : x5.toInt = (g_lets (u.2.1 1215) (16 * x.toNatClampNeg) ((x6 + 1).toNatClampNeg - 16 * x.toNatClampNeg) : Int) := by
  have hz1210 := hI.1.s1210
  have q := g_jd hI.2.2.1 (b := x) (k := x6) h_b h_1 hI.1.s1210.2 h_l (by have q9 := (hI.2.2.1 x (Int32.le_iff_toInt_le.mpr h_b) h_1).1; have q8 := hI.1.s1210; have q7 : x < u.1 1210 := h_1; clear h_n; (try simp only [Int32.lt_iff_toInt_lt, Int32.le_iff_toInt_le, ← Int32.toInt_inj, Int32.toInt_add, Int32.toInt_sub, Int32.toInt_mul, Int32.toInt_neg, Int32.reduceToInt, g_bm, g_bm'] at *); omega)
  have q1 := q.2.2.2; have q3 := q.1; clear q
  have q6 : (x6 + 1).toNatClampNeg = x6.toNatClampNeg + 1 := (g_up (by omega) (by omega)).2
  have c6 := g_clamp x6
  have cx := g_clamp x
  have es : g_lets (u.2.1 1215) (16 * x.toNatClampNeg) ((x6 + 1).toNatClampNeg - 16 * x.toNatClampNeg) = g_lets (u.2.1 1215) (16 * x.toNatClampNeg) (x6.toNatClampNeg - 16 * x.toNatClampNeg) + (if u.2.1 1215 (16 * x.toNatClampNeg + (x6.toNatClampNeg - 16 * x.toNatClampNeg)) = 0 then 1 else 0) := by
    rw [q6, show x6.toNatClampNeg + 1 - 16 * x.toNatClampNeg = (x6.toNatClampNeg - 16 * x.toNatClampNeg) + 1 from by omega]; rfl
  rw [show 16 * x.toNatClampNeg + (x6.toNatClampNeg - 16 * x.toNatClampNeg) = x6.toNatClampNeg from by omega] at es
  first | rw [if_pos (by assumption)] at es q1 | rw [if_neg (by assumption)] at es q1
  first | (have q5 : (x5 + 1).toInt = x5.toInt + 1 := (g_up (by omega) (by omega)).1; omega) | omega
set_option maxRecDepth 100000 in
theorem g_X12_judges_v58 (u : qS) (x : Int32) (x4 : Int32) (x5 : Int32) (x6 : Int32) (hI : IM u) (h_1 : x < u.1 1210) (h_b : 0 ≤ x.toInt) (h_l : 16 * x.toInt ≤ x6.toInt) (h_r : x6.toInt ≤ 16 * x.toInt + (u.2.1 1214 x.toNatClampNeg).toInt) (h_n : x5.toInt = (g_lets (u.2.1 1215) (16 * x.toNatClampNeg) (x6.toNatClampNeg - 16 * x.toNatClampNeg) : Int)) (c44_1 : ¬ ((16 * x) + (u.2.1 1214 (x : Int32).toNatClampNeg)) ≤ (x6 : Int32)) (c54_8 : ¬ (u.2.1 1215 (x6 : Int32).toNatClampNeg : Int32) = 0) (c89_9 : (u.2.1 1215 (x6 : Int32).toNatClampNeg : Int32) = 2) (c94_28 : ¬ (x4 : Int32) = 0) : (272 - (x6 + 1).toInt).toNat < (272 - x6.toInt).toNat := by
  have hz1210 := hI.1.s1210
  have q8 := hI.1.s1210; have q9 := (hI.2.2.1 x (Int32.le_iff_toInt_le.mpr h_b) h_1).1; clear h_n; (try simp only [Int32.lt_iff_toInt_lt, Int32.le_iff_toInt_le, ← Int32.toInt_inj, Int32.toInt_add, Int32.toInt_sub, Int32.toInt_mul, Int32.toInt_neg, Int32.reduceToInt, g_bm, g_bm'] at *); omega
set_option maxRecDepth 100000 in
theorem g_X12_judges_v59 (u : qS) (x : Int32) (x4 : Int32) (x5 : Int32) (x6 : Int32) (hI : IM u) (h_1 : x < u.1 1210) (h_b : 0 ≤ x.toInt) (h_l : 16 * x.toInt ≤ x6.toInt) (h_r : x6.toInt ≤ 16 * x.toInt + (u.2.1 1214 x.toNatClampNeg).toInt) (h_n : x5.toInt = (g_lets (u.2.1 1215) (16 * x.toNatClampNeg) (x6.toNatClampNeg - 16 * x.toNatClampNeg) : Int)) (c44_1 : ¬ ((16 * x) + (u.2.1 1214 (x : Int32).toNatClampNeg)) ≤ (x6 : Int32)) (c54_8 : ¬ (u.2.1 1215 (x6 : Int32).toNatClampNeg : Int32) = 0) (c89_9 : (u.2.1 1215 (x6 : Int32).toNatClampNeg : Int32) = 2) (c94_28 : (x4 : Int32) = 0) : vp_in (x6) 272 := by
  have hz1210 := hI.1.s1210
  have q := g_jd hI.2.2.1 (b := x) (k := x6) h_b h_1 hI.1.s1210.2 h_l (by have q9 := (hI.2.2.1 x (Int32.le_iff_toInt_le.mpr h_b) h_1).1; have q8 := hI.1.s1210; have q7 : x < u.1 1210 := h_1; clear h_n; (try simp only [Int32.lt_iff_toInt_lt, Int32.le_iff_toInt_le, ← Int32.toInt_inj, Int32.toInt_add, Int32.toInt_sub, Int32.toInt_mul, Int32.toInt_neg, Int32.reduceToInt, g_bm, g_bm'] at *); omega)
  have q1 := q.1; clear q h_n; refine g_in ?_ ?_ <;> ((try simp only [Int32.lt_iff_toInt_lt, Int32.le_iff_toInt_le, ← Int32.toInt_inj, Int32.toInt_add, Int32.toInt_sub, Int32.toInt_mul, Int32.toInt_neg, Int32.reduceToInt, g_bm, g_bm'] at *); omega)
set_option maxRecDepth 100000 in
theorem g_X12_judges_v60 (u : qS) (x : Int32) (x4 : Int32) (x5 : Int32) (x6 : Int32) (hI : IM u) (h_1 : x < u.1 1210) (h_b : 0 ≤ x.toInt) (h_l : 16 * x.toInt ≤ x6.toInt) (h_r : x6.toInt ≤ 16 * x.toInt + (u.2.1 1214 x.toNatClampNeg).toInt) (h_n : x5.toInt = (g_lets (u.2.1 1215) (16 * x.toNatClampNeg) (x6.toNatClampNeg - 16 * x.toNatClampNeg) : Int)) (c44_1 : ¬ ((16 * x) + (u.2.1 1214 (x : Int32).toNatClampNeg)) ≤ (x6 : Int32)) (c54_8 : ¬ (u.2.1 1215 (x6 : Int32).toNatClampNeg : Int32) = 0) (c89_9 : (u.2.1 1215 (x6 : Int32).toNatClampNeg : Int32) = 2) (c94_28 : (x4 : Int32) = 0) : g_gf ((u.2.1 1222)) ((u.2.1 1223)) ((u.2.1 1217) (x6 : Int32).toNatClampNeg) := by
  have hz1210 := hI.1.s1210
  have q := g_jd hI.2.2.1 (b := x) (k := x6) h_b h_1 hI.1.s1210.2 h_l (by have q9 := (hI.2.2.1 x (Int32.le_iff_toInt_le.mpr h_b) h_1).1; have q8 := hI.1.s1210; have q7 : x < u.1 1210 := h_1; clear h_n; (try simp only [Int32.lt_iff_toInt_lt, Int32.le_iff_toInt_le, ← Int32.toInt_inj, Int32.toInt_add, Int32.toInt_sub, Int32.toInt_mul, Int32.toInt_neg, Int32.reduceToInt, g_bm, g_bm'] at *); omega)
  first | exact q.2.1 (g_n3 (Or.inl (by assumption))) | exact q.2.1 (g_n3 (Or.inr (Or.inl (by assumption)))) | exact q.2.1 (g_n3 (Or.inr (Or.inr (by assumption))))
set_option maxRecDepth 100000 in
theorem g_X12_judges_v61 (u : qS) (x : Int32) (x4 : Int32) (x5 : Int32) (x6 : Int32) (r_31 : Int32) (hI : IM u) (h_1 : x < u.1 1210) (h_b : 0 ≤ x.toInt) (h_l : 16 * x.toInt ≤ x6.toInt) (h_r : x6.toInt ≤ 16 * x.toInt + (u.2.1 1214 x.toNatClampNeg).toInt) (h_n : x5.toInt = (g_lets (u.2.1 1215) (16 * x.toNatClampNeg) (x6.toNatClampNeg - 16 * x.toNatClampNeg) : Int)) (c44_1 : ¬ ((16 * x) + (u.2.1 1214 (x : Int32).toNatClampNeg)) ≤ (x6 : Int32)) (c54_8 : ¬ (u.2.1 1215 (x6 : Int32).toNatClampNeg : Int32) = 0) (c89_9 : (u.2.1 1215 (x6 : Int32).toNatClampNeg : Int32) = 2) (c94_28 : (x4 : Int32) = 0) (c108_35 : ¬ (r_31 : Int32) = 0) : 0 ≤ x.toInt := by
  have hz1210 := hI.1.s1210
  first | omega | ((try simp only [Int32.lt_iff_toInt_lt, Int32.le_iff_toInt_le, ← Int32.toInt_inj, Int32.toInt_add, Int32.toInt_sub, Int32.toInt_mul, Int32.toInt_neg, Int32.reduceToInt, g_bm, g_bm'] at *); omega) | (simp only [Int32.lt_iff_toInt_lt, Int32.le_iff_toInt_le, ← Int32.toInt_inj, Int32.toInt_add, Int32.toInt_sub, Int32.toInt_mul, Int32.toInt_neg, Int32.reduceToInt, g_bm, g_bm'] at *; simp at *; omega) | (simp_all; done)
set_option maxRecDepth 100000 in
theorem g_X12_judges_v62 (u : qS) (x : Int32) (x4 : Int32) (x5 : Int32) (x6 : Int32) (r_31 : Int32) (hI : IM u) (h_1 : x < u.1 1210) (h_b : 0 ≤ x.toInt) (h_l : 16 * x.toInt ≤ x6.toInt) (h_r : x6.toInt ≤ 16 * x.toInt + (u.2.1 1214 x.toNatClampNeg).toInt) (h_n : x5.toInt = (g_lets (u.2.1 1215) (16 * x.toNatClampNeg) (x6.toNatClampNeg - 16 * x.toNatClampNeg) : Int)) (c44_1 : ¬ ((16 * x) + (u.2.1 1214 (x : Int32).toNatClampNeg)) ≤ (x6 : Int32)) (c54_8 : ¬ (u.2.1 1215 (x6 : Int32).toNatClampNeg : Int32) = 0) (c89_9 : (u.2.1 1215 (x6 : Int32).toNatClampNeg : Int32) = 2) (c94_28 : (x4 : Int32) = 0) (c108_35 : ¬ (r_31 : Int32) = 0) : 16 * x.toInt ≤ (x6 + 1).toInt := by
  have hz1210 := hI.1.s1210
  have q8 := hI.1.s1210; have q9 := (hI.2.2.1 x (Int32.le_iff_toInt_le.mpr h_b) h_1).1; clear h_n; (try simp only [Int32.lt_iff_toInt_lt, Int32.le_iff_toInt_le, ← Int32.toInt_inj, Int32.toInt_add, Int32.toInt_sub, Int32.toInt_mul, Int32.toInt_neg, Int32.reduceToInt, g_bm, g_bm'] at *); omega
set_option maxRecDepth 100000 in
theorem g_X12_judges_v63 (u : qS) (x : Int32) (x4 : Int32) (x5 : Int32) (x6 : Int32) (r_31 : Int32) (hI : IM u) (h_1 : x < u.1 1210) (h_b : 0 ≤ x.toInt) (h_l : 16 * x.toInt ≤ x6.toInt) (h_r : x6.toInt ≤ 16 * x.toInt + (u.2.1 1214 x.toNatClampNeg).toInt) (h_n : x5.toInt = (g_lets (u.2.1 1215) (16 * x.toNatClampNeg) (x6.toNatClampNeg - 16 * x.toNatClampNeg) : Int)) (c44_1 : ¬ ((16 * x) + (u.2.1 1214 (x : Int32).toNatClampNeg)) ≤ (x6 : Int32)) (c54_8 : ¬ (u.2.1 1215 (x6 : Int32).toNatClampNeg : Int32) = 0) (c89_9 : (u.2.1 1215 (x6 : Int32).toNatClampNeg : Int32) = 2) (c94_28 : (x4 : Int32) = 0) (c108_35 : ¬ (r_31 : Int32) = 0) : (x6 + 1).toInt ≤ 16 * x.toInt + (u.2.1 1214 x.toNatClampNeg).toInt := by
  have hz1210 := hI.1.s1210
  have q8 := hI.1.s1210; have q9 := (hI.2.2.1 x (Int32.le_iff_toInt_le.mpr h_b) h_1).1; clear h_n; (try simp only [Int32.lt_iff_toInt_lt, Int32.le_iff_toInt_le, ← Int32.toInt_inj, Int32.toInt_add, Int32.toInt_sub, Int32.toInt_mul, Int32.toInt_neg, Int32.reduceToInt, g_bm, g_bm'] at *); omega
set_option maxRecDepth 100000 in
theorem g_X12_judges_v64 (u : qS) (x : Int32) (x4 : Int32) (x5 : Int32) (x6 : Int32) (r_31 : Int32) (hI : IM u) (h_1 : x < u.1 1210) (h_b : 0 ≤ x.toInt) (h_l : 16 * x.toInt ≤ x6.toInt) (h_r : x6.toInt ≤ 16 * x.toInt + (u.2.1 1214 x.toNatClampNeg).toInt) (h_n : x5.toInt = (g_lets (u.2.1 1215) (16 * x.toNatClampNeg) (x6.toNatClampNeg - 16 * x.toNatClampNeg) : Int)) (c44_1 : ¬ ((16 * x) + (u.2.1 1214 (x : Int32).toNatClampNeg)) ≤ (x6 : Int32)) (c54_8 : ¬ (u.2.1 1215 (x6 : Int32).toNatClampNeg : Int32) = 0) (c89_9 : (u.2.1 1215 (x6 : Int32).toNatClampNeg : Int32) = 2) (c94_28 : (x4 : Int32) = 0) (c108_35 : ¬ (r_31 : Int32) = 0) : x5.toInt = (g_lets (u.2.1 1215) (16 * x.toNatClampNeg) ((x6 + 1).toNatClampNeg - 16 * x.toNatClampNeg) : Int) := by
  have hz1210 := hI.1.s1210
  have q := g_jd hI.2.2.1 (b := x) (k := x6) h_b h_1 hI.1.s1210.2 h_l (by have q9 := (hI.2.2.1 x (Int32.le_iff_toInt_le.mpr h_b) h_1).1; have q8 := hI.1.s1210; have q7 : x < u.1 1210 := h_1; clear h_n; (try simp only [Int32.lt_iff_toInt_lt, Int32.le_iff_toInt_le, ← Int32.toInt_inj, Int32.toInt_add, Int32.toInt_sub, Int32.toInt_mul, Int32.toInt_neg, Int32.reduceToInt, g_bm, g_bm'] at *); omega)
  have q1 := q.2.2.2; have q3 := q.1; clear q
  have q6 : (x6 + 1).toNatClampNeg = x6.toNatClampNeg + 1 := (g_up (by omega) (by omega)).2
  have c6 := g_clamp x6
  have cx := g_clamp x
  have es : g_lets (u.2.1 1215) (16 * x.toNatClampNeg) ((x6 + 1).toNatClampNeg - 16 * x.toNatClampNeg) = g_lets (u.2.1 1215) (16 * x.toNatClampNeg) (x6.toNatClampNeg - 16 * x.toNatClampNeg) + (if u.2.1 1215 (16 * x.toNatClampNeg + (x6.toNatClampNeg - 16 * x.toNatClampNeg)) = 0 then 1 else 0) := by
    rw [q6, show x6.toNatClampNeg + 1 - 16 * x.toNatClampNeg = (x6.toNatClampNeg - 16 * x.toNatClampNeg) + 1 from by omega]; rfl
  rw [show 16 * x.toNatClampNeg + (x6.toNatClampNeg - 16 * x.toNatClampNeg) = x6.toNatClampNeg from by omega] at es
  first | rw [if_pos (by assumption)] at es q1 | rw [if_neg (by assumption)] at es q1
  first | (have q5 : (x5 + 1).toInt = x5.toInt + 1 := (g_up (by omega) (by omega)).1; omega) | omega
set_option maxRecDepth 100000 in
theorem g_X12_judges_v65 (u : qS) (x : Int32) (x4 : Int32) (x5 : Int32) (x6 : Int32) (r_31 : Int32) (hI : IM u) (h_1 : x < u.1 1210) (h_b : 0 ≤ x.toInt) (h_l : 16 * x.toInt ≤ x6.toInt) (h_r : x6.toInt ≤ 16 * x.toInt + (u.2.1 1214 x.toNatClampNeg).toInt) (h_n : x5.toInt = (g_lets (u.2.1 1215) (16 * x.toNatClampNeg) (x6.toNatClampNeg - 16 * x.toNatClampNeg) : Int)) (c44_1 : ¬ ((16 * x) + (u.2.1 1214 (x : Int32).toNatClampNeg)) ≤ (x6 : Int32)) (c54_8 : ¬ (u.2.1 1215 (x6 : Int32).toNatClampNeg : Int32) = 0) (c89_9 : (u.2.1 1215 (x6 : Int32).toNatClampNeg : Int32) = 2) (c94_28 : (x4 : Int32) = 0) (c108_35 : ¬ (r_31 : Int32) = 0) : (272 - (x6 + 1).toInt).toNat < (272 - x6.toInt).toNat := by
  have hz1210 := hI.1.s1210
  have q8 := hI.1.s1210; have q9 := (hI.2.2.1 x (Int32.le_iff_toInt_le.mpr h_b) h_1).1; clear h_n; (try simp only [Int32.lt_iff_toInt_lt, Int32.le_iff_toInt_le, ← Int32.toInt_inj, Int32.toInt_add, Int32.toInt_sub, Int32.toInt_mul, Int32.toInt_neg, Int32.reduceToInt, g_bm, g_bm'] at *); omega
set_option maxRecDepth 100000 in
theorem g_X12_judges_v66 (u : qS) (x : Int32) (x4 : Int32) (x5 : Int32) (x6 : Int32) (r_31 : Int32) (hI : IM u) (h_1 : x < u.1 1210) (h_b : 0 ≤ x.toInt) (h_l : 16 * x.toInt ≤ x6.toInt) (h_r : x6.toInt ≤ 16 * x.toInt + (u.2.1 1214 x.toNatClampNeg).toInt) (h_n : x5.toInt = (g_lets (u.2.1 1215) (16 * x.toNatClampNeg) (x6.toNatClampNeg - 16 * x.toNatClampNeg) : Int)) (c44_1 : ¬ ((16 * x) + (u.2.1 1214 (x : Int32).toNatClampNeg)) ≤ (x6 : Int32)) (c54_8 : ¬ (u.2.1 1215 (x6 : Int32).toNatClampNeg : Int32) = 0) (c89_9 : (u.2.1 1215 (x6 : Int32).toNatClampNeg : Int32) = 2) (c94_28 : (x4 : Int32) = 0) (c108_35 : (r_31 : Int32) = 0) : 0 ≤ x.toInt := by
  have hz1210 := hI.1.s1210
  first | omega | ((try simp only [Int32.lt_iff_toInt_lt, Int32.le_iff_toInt_le, ← Int32.toInt_inj, Int32.toInt_add, Int32.toInt_sub, Int32.toInt_mul, Int32.toInt_neg, Int32.reduceToInt, g_bm, g_bm'] at *); omega) | (simp only [Int32.lt_iff_toInt_lt, Int32.le_iff_toInt_le, ← Int32.toInt_inj, Int32.toInt_add, Int32.toInt_sub, Int32.toInt_mul, Int32.toInt_neg, Int32.reduceToInt, g_bm, g_bm'] at *; simp at *; omega) | (simp_all; done)
set_option maxRecDepth 100000 in
theorem g_X12_judges_v67 (u : qS) (x : Int32) (x4 : Int32) (x5 : Int32) (x6 : Int32) (r_31 : Int32) (hI : IM u) (h_1 : x < u.1 1210) (h_b : 0 ≤ x.toInt) (h_l : 16 * x.toInt ≤ x6.toInt) (h_r : x6.toInt ≤ 16 * x.toInt + (u.2.1 1214 x.toNatClampNeg).toInt) (h_n : x5.toInt = (g_lets (u.2.1 1215) (16 * x.toNatClampNeg) (x6.toNatClampNeg - 16 * x.toNatClampNeg) : Int)) (c44_1 : ¬ ((16 * x) + (u.2.1 1214 (x : Int32).toNatClampNeg)) ≤ (x6 : Int32)) (c54_8 : ¬ (u.2.1 1215 (x6 : Int32).toNatClampNeg : Int32) = 0) (c89_9 : (u.2.1 1215 (x6 : Int32).toNatClampNeg : Int32) = 2) (c94_28 : (x4 : Int32) = 0) (c108_35 : (r_31 : Int32) = 0) : 16 * x.toInt ≤ (x6 + 1).toInt := by
  have hz1210 := hI.1.s1210
  have q8 := hI.1.s1210; have q9 := (hI.2.2.1 x (Int32.le_iff_toInt_le.mpr h_b) h_1).1; clear h_n; (try simp only [Int32.lt_iff_toInt_lt, Int32.le_iff_toInt_le, ← Int32.toInt_inj, Int32.toInt_add, Int32.toInt_sub, Int32.toInt_mul, Int32.toInt_neg, Int32.reduceToInt, g_bm, g_bm'] at *); omega
set_option maxRecDepth 100000 in
theorem g_X12_judges_v68 (u : qS) (x : Int32) (x4 : Int32) (x5 : Int32) (x6 : Int32) (r_31 : Int32) (hI : IM u) (h_1 : x < u.1 1210) (h_b : 0 ≤ x.toInt) (h_l : 16 * x.toInt ≤ x6.toInt) (h_r : x6.toInt ≤ 16 * x.toInt + (u.2.1 1214 x.toNatClampNeg).toInt) (h_n : x5.toInt = (g_lets (u.2.1 1215) (16 * x.toNatClampNeg) (x6.toNatClampNeg - 16 * x.toNatClampNeg) : Int)) (c44_1 : ¬ ((16 * x) + (u.2.1 1214 (x : Int32).toNatClampNeg)) ≤ (x6 : Int32)) (c54_8 : ¬ (u.2.1 1215 (x6 : Int32).toNatClampNeg : Int32) = 0) (c89_9 : (u.2.1 1215 (x6 : Int32).toNatClampNeg : Int32) = 2) (c94_28 : (x4 : Int32) = 0) (c108_35 : (r_31 : Int32) = 0) : (x6 + 1).toInt ≤ 16 * x.toInt + (u.2.1 1214 x.toNatClampNeg).toInt := by
  have hz1210 := hI.1.s1210
  have q8 := hI.1.s1210; have q9 := (hI.2.2.1 x (Int32.le_iff_toInt_le.mpr h_b) h_1).1; clear h_n; (try simp only [Int32.lt_iff_toInt_lt, Int32.le_iff_toInt_le, ← Int32.toInt_inj, Int32.toInt_add, Int32.toInt_sub, Int32.toInt_mul, Int32.toInt_neg, Int32.reduceToInt, g_bm, g_bm'] at *); omega
set_option maxRecDepth 100000 in
theorem g_X12_judges_v69 (u : qS) (x : Int32) (x4 : Int32) (x5 : Int32) (x6 : Int32) (r_31 : Int32) (hI : IM u) (h_1 : x < u.1 1210) (h_b : 0 ≤ x.toInt) (h_l : 16 * x.toInt ≤ x6.toInt) (h_r : x6.toInt ≤ 16 * x.toInt + (u.2.1 1214 x.toNatClampNeg).toInt) (h_n : x5.toInt = (g_lets (u.2.1 1215) (16 * x.toNatClampNeg) (x6.toNatClampNeg - 16 * x.toNatClampNeg) : Int)) (c44_1 : ¬ ((16 * x) + (u.2.1 1214 (x : Int32).toNatClampNeg)) ≤ (x6 : Int32)) (c54_8 : ¬ (u.2.1 1215 (x6 : Int32).toNatClampNeg : Int32) = 0) (c89_9 : (u.2.1 1215 (x6 : Int32).toNatClampNeg : Int32) = 2) (c94_28 : (x4 : Int32) = 0) (c108_35 : (r_31 : Int32) = 0) : x5.toInt = (g_lets (u.2.1 1215) (16 * x.toNatClampNeg) ((x6 + 1).toNatClampNeg - 16 * x.toNatClampNeg) : Int) := by
  have hz1210 := hI.1.s1210
  have q := g_jd hI.2.2.1 (b := x) (k := x6) h_b h_1 hI.1.s1210.2 h_l (by have q9 := (hI.2.2.1 x (Int32.le_iff_toInt_le.mpr h_b) h_1).1; have q8 := hI.1.s1210; have q7 : x < u.1 1210 := h_1; clear h_n; (try simp only [Int32.lt_iff_toInt_lt, Int32.le_iff_toInt_le, ← Int32.toInt_inj, Int32.toInt_add, Int32.toInt_sub, Int32.toInt_mul, Int32.toInt_neg, Int32.reduceToInt, g_bm, g_bm'] at *); omega)
  have q1 := q.2.2.2; have q3 := q.1; clear q
  have q6 : (x6 + 1).toNatClampNeg = x6.toNatClampNeg + 1 := (g_up (by omega) (by omega)).2
  have c6 := g_clamp x6
  have cx := g_clamp x
  have es : g_lets (u.2.1 1215) (16 * x.toNatClampNeg) ((x6 + 1).toNatClampNeg - 16 * x.toNatClampNeg) = g_lets (u.2.1 1215) (16 * x.toNatClampNeg) (x6.toNatClampNeg - 16 * x.toNatClampNeg) + (if u.2.1 1215 (16 * x.toNatClampNeg + (x6.toNatClampNeg - 16 * x.toNatClampNeg)) = 0 then 1 else 0) := by
    rw [q6, show x6.toNatClampNeg + 1 - 16 * x.toNatClampNeg = (x6.toNatClampNeg - 16 * x.toNatClampNeg) + 1 from by omega]; rfl
  rw [show 16 * x.toNatClampNeg + (x6.toNatClampNeg - 16 * x.toNatClampNeg) = x6.toNatClampNeg from by omega] at es
  first | rw [if_pos (by assumption)] at es q1 | rw [if_neg (by assumption)] at es q1
  first | (have q5 : (x5 + 1).toInt = x5.toInt + 1 := (g_up (by omega) (by omega)).1; omega) | omega
set_option maxRecDepth 100000 in
theorem g_X12_judges_v70 (u : qS) (x : Int32) (x4 : Int32) (x5 : Int32) (x6 : Int32) (r_31 : Int32) (hI : IM u) (h_1 : x < u.1 1210) (h_b : 0 ≤ x.toInt) (h_l : 16 * x.toInt ≤ x6.toInt) (h_r : x6.toInt ≤ 16 * x.toInt + (u.2.1 1214 x.toNatClampNeg).toInt) (h_n : x5.toInt = (g_lets (u.2.1 1215) (16 * x.toNatClampNeg) (x6.toNatClampNeg - 16 * x.toNatClampNeg) : Int)) (c44_1 : ¬ ((16 * x) + (u.2.1 1214 (x : Int32).toNatClampNeg)) ≤ (x6 : Int32)) (c54_8 : ¬ (u.2.1 1215 (x6 : Int32).toNatClampNeg : Int32) = 0) (c89_9 : (u.2.1 1215 (x6 : Int32).toNatClampNeg : Int32) = 2) (c94_28 : (x4 : Int32) = 0) (c108_35 : (r_31 : Int32) = 0) : (272 - (x6 + 1).toInt).toNat < (272 - x6.toInt).toNat := by
  have hz1210 := hI.1.s1210
  have q8 := hI.1.s1210; have q9 := (hI.2.2.1 x (Int32.le_iff_toInt_le.mpr h_b) h_1).1; clear h_n; (try simp only [Int32.lt_iff_toInt_lt, Int32.le_iff_toInt_le, ← Int32.toInt_inj, Int32.toInt_add, Int32.toInt_sub, Int32.toInt_mul, Int32.toInt_neg, Int32.reduceToInt, g_bm, g_bm'] at *); omega
set_option maxRecDepth 100000 in
theorem g_X12_judges_v71 (u : qS) (x : Int32) (x5 : Int32) (x6 : Int32) (hI : IM u) (h_1 : x < u.1 1210) (h_b : 0 ≤ x.toInt) (h_l : 16 * x.toInt ≤ x6.toInt) (h_r : x6.toInt ≤ 16 * x.toInt + (u.2.1 1214 x.toNatClampNeg).toInt) (h_n : x5.toInt = (g_lets (u.2.1 1215) (16 * x.toNatClampNeg) (x6.toNatClampNeg - 16 * x.toNatClampNeg) : Int)) (c44_1 : ¬ ((16 * x) + (u.2.1 1214 (x : Int32).toNatClampNeg)) ≤ (x6 : Int32)) (c54_8 : (u.2.1 1215 (x6 : Int32).toNatClampNeg : Int32) = 0) : vp_in (x6) 272 := by
  have hz1210 := hI.1.s1210
  have q := g_jd hI.2.2.1 (b := x) (k := x6) h_b h_1 hI.1.s1210.2 h_l (by have q9 := (hI.2.2.1 x (Int32.le_iff_toInt_le.mpr h_b) h_1).1; have q8 := hI.1.s1210; have q7 : x < u.1 1210 := h_1; clear h_n; (try simp only [Int32.lt_iff_toInt_lt, Int32.le_iff_toInt_le, ← Int32.toInt_inj, Int32.toInt_add, Int32.toInt_sub, Int32.toInt_mul, Int32.toInt_neg, Int32.reduceToInt, g_bm, g_bm'] at *); omega)
  have q1 := q.1; clear q h_n; refine g_in ?_ ?_ <;> ((try simp only [Int32.lt_iff_toInt_lt, Int32.le_iff_toInt_le, ← Int32.toInt_inj, Int32.toInt_add, Int32.toInt_sub, Int32.toInt_mul, Int32.toInt_neg, Int32.reduceToInt, g_bm, g_bm'] at *); omega)
set_option maxRecDepth 100000 in
theorem g_X12_judges_v72 (u : qS) (x : Int32) (x5 : Int32) (x6 : Int32) (hI : IM u) (h_1 : x < u.1 1210) (h_b : 0 ≤ x.toInt) (h_l : 16 * x.toInt ≤ x6.toInt) (h_r : x6.toInt ≤ 16 * x.toInt + (u.2.1 1214 x.toNatClampNeg).toInt) (h_n : x5.toInt = (g_lets (u.2.1 1215) (16 * x.toNatClampNeg) (x6.toNatClampNeg - 16 * x.toNatClampNeg) : Int)) (c44_1 : ¬ ((16 * x) + (u.2.1 1214 (x : Int32).toNatClampNeg)) ≤ (x6 : Int32)) (c54_8 : (u.2.1 1215 (x6 : Int32).toNatClampNeg : Int32) = 0) : g_gf ((u.2.1 1222)) ((u.2.1 1223)) ((u.2.1 1217) (x6 : Int32).toNatClampNeg) := by
  have hz1210 := hI.1.s1210
  have q := g_jd hI.2.2.1 (b := x) (k := x6) h_b h_1 hI.1.s1210.2 h_l (by have q9 := (hI.2.2.1 x (Int32.le_iff_toInt_le.mpr h_b) h_1).1; have q8 := hI.1.s1210; have q7 : x < u.1 1210 := h_1; clear h_n; (try simp only [Int32.lt_iff_toInt_lt, Int32.le_iff_toInt_le, ← Int32.toInt_inj, Int32.toInt_add, Int32.toInt_sub, Int32.toInt_mul, Int32.toInt_neg, Int32.reduceToInt, g_bm, g_bm'] at *); omega)
  first | exact q.2.1 (g_n3 (Or.inl (by assumption))) | exact q.2.1 (g_n3 (Or.inr (Or.inl (by assumption)))) | exact q.2.1 (g_n3 (Or.inr (Or.inr (by assumption))))
set_option maxRecDepth 100000 in
theorem g_X12_judges_v73 (u : qS) (x : Int32) (x5 : Int32) (x6 : Int32) (hI : IM u) (h_1 : x < u.1 1210) (h_b : 0 ≤ x.toInt) (h_l : 16 * x.toInt ≤ x6.toInt) (h_r : x6.toInt ≤ 16 * x.toInt + (u.2.1 1214 x.toNatClampNeg).toInt) (h_n : x5.toInt = (g_lets (u.2.1 1215) (16 * x.toNatClampNeg) (x6.toNatClampNeg - 16 * x.toNatClampNeg) : Int)) (c44_1 : ¬ ((16 * x) + (u.2.1 1214 (x : Int32).toNatClampNeg)) ≤ (x6 : Int32)) (c54_8 : (u.2.1 1215 (x6 : Int32).toNatClampNeg : Int32) = 0) : vp_in (x5) 8 := by
  have hz1210 := hI.1.s1210
  have q := g_jd hI.2.2.1 (b := x) (k := x6) h_b h_1 hI.1.s1210.2 h_l (by have q9 := (hI.2.2.1 x (Int32.le_iff_toInt_le.mpr h_b) h_1).1; have q8 := hI.1.s1210; have q7 : x < u.1 1210 := h_1; clear h_n; (try simp only [Int32.lt_iff_toInt_lt, Int32.le_iff_toInt_le, ← Int32.toInt_inj, Int32.toInt_add, Int32.toInt_sub, Int32.toInt_mul, Int32.toInt_neg, Int32.reduceToInt, g_bm, g_bm'] at *); omega)
  have q1 := q.2.2.2; rw [if_pos (by assumption)] at q1; clear q; refine g_in ?_ ?_ <;> ((try simp only [Int32.lt_iff_toInt_lt, Int32.le_iff_toInt_le, ← Int32.toInt_inj, Int32.toInt_add, Int32.toInt_sub, Int32.toInt_mul, Int32.toInt_neg, Int32.reduceToInt, g_bm, g_bm'] at *); omega)
set_option maxRecDepth 100000 in
theorem g_X12_judges_v74 (u : qS) (x : Int32) (x5 : Int32) (x6 : Int32) (uc : qS) (r_38 : Int32) (f_42 : Nat → Int32) (hI : IM u) (h_1 : x < u.1 1210) (h_b : 0 ≤ x.toInt) (h_l : 16 * x.toInt ≤ x6.toInt) (h_r : x6.toInt ≤ 16 * x.toInt + (u.2.1 1214 x.toNatClampNeg).toInt) (h_n : x5.toInt = (g_lets (u.2.1 1215) (16 * x.toNatClampNeg) (x6.toNatClampNeg - 16 * x.toNatClampNeg) : Int)) (c44_1 : ¬ ((16 * x) + (u.2.1 1214 (x : Int32).toNatClampNeg)) ≤ (x6 : Int32)) (c54_8 : (u.2.1 1215 (x6 : Int32).toNatClampNeg : Int32) = 0) (hf_42 : f_42 = upd (uc.2.1 1226) (x5 : Int32).toNatClampNeg r_38) : 0 ≤ x.toInt := by
  have hz1210 := hI.1.s1210
  first | omega | ((try simp only [Int32.lt_iff_toInt_lt, Int32.le_iff_toInt_le, ← Int32.toInt_inj, Int32.toInt_add, Int32.toInt_sub, Int32.toInt_mul, Int32.toInt_neg, Int32.reduceToInt, g_bm, g_bm'] at *); omega) | (simp only [Int32.lt_iff_toInt_lt, Int32.le_iff_toInt_le, ← Int32.toInt_inj, Int32.toInt_add, Int32.toInt_sub, Int32.toInt_mul, Int32.toInt_neg, Int32.reduceToInt, g_bm, g_bm'] at *; simp at *; omega) | (simp_all; done)
set_option maxRecDepth 100000 in
theorem g_X12_judges_v75 (u : qS) (x : Int32) (x5 : Int32) (x6 : Int32) (uc : qS) (r_38 : Int32) (f_42 : Nat → Int32) (hI : IM u) (h_1 : x < u.1 1210) (h_b : 0 ≤ x.toInt) (h_l : 16 * x.toInt ≤ x6.toInt) (h_r : x6.toInt ≤ 16 * x.toInt + (u.2.1 1214 x.toNatClampNeg).toInt) (h_n : x5.toInt = (g_lets (u.2.1 1215) (16 * x.toNatClampNeg) (x6.toNatClampNeg - 16 * x.toNatClampNeg) : Int)) (c44_1 : ¬ ((16 * x) + (u.2.1 1214 (x : Int32).toNatClampNeg)) ≤ (x6 : Int32)) (c54_8 : (u.2.1 1215 (x6 : Int32).toNatClampNeg : Int32) = 0) (hf_42 : f_42 = upd (uc.2.1 1226) (x5 : Int32).toNatClampNeg r_38) : 16 * x.toInt ≤ (x6 + 1).toInt := by
  have hz1210 := hI.1.s1210
  have q8 := hI.1.s1210; have q9 := (hI.2.2.1 x (Int32.le_iff_toInt_le.mpr h_b) h_1).1; clear h_n; (try simp only [Int32.lt_iff_toInt_lt, Int32.le_iff_toInt_le, ← Int32.toInt_inj, Int32.toInt_add, Int32.toInt_sub, Int32.toInt_mul, Int32.toInt_neg, Int32.reduceToInt, g_bm, g_bm'] at *); omega
set_option maxRecDepth 100000 in
theorem g_X12_judges_v76 (u : qS) (x : Int32) (x5 : Int32) (x6 : Int32) (uc : qS) (r_38 : Int32) (f_42 : Nat → Int32) (hI : IM u) (h_1 : x < u.1 1210) (h_b : 0 ≤ x.toInt) (h_l : 16 * x.toInt ≤ x6.toInt) (h_r : x6.toInt ≤ 16 * x.toInt + (u.2.1 1214 x.toNatClampNeg).toInt) (h_n : x5.toInt = (g_lets (u.2.1 1215) (16 * x.toNatClampNeg) (x6.toNatClampNeg - 16 * x.toNatClampNeg) : Int)) (c44_1 : ¬ ((16 * x) + (u.2.1 1214 (x : Int32).toNatClampNeg)) ≤ (x6 : Int32)) (c54_8 : (u.2.1 1215 (x6 : Int32).toNatClampNeg : Int32) = 0) (hf_42 : f_42 = upd (uc.2.1 1226) (x5 : Int32).toNatClampNeg r_38) : (x6 + 1).toInt ≤ 16 * x.toInt + (u.2.1 1214 x.toNatClampNeg).toInt := by
  have hz1210 := hI.1.s1210
  have q8 := hI.1.s1210; have q9 := (hI.2.2.1 x (Int32.le_iff_toInt_le.mpr h_b) h_1).1; clear h_n; (try simp only [Int32.lt_iff_toInt_lt, Int32.le_iff_toInt_le, ← Int32.toInt_inj, Int32.toInt_add, Int32.toInt_sub, Int32.toInt_mul, Int32.toInt_neg, Int32.reduceToInt, g_bm, g_bm'] at *); omega
set_option maxRecDepth 100000 in
theorem g_X12_judges_v77 (u : qS) (x : Int32) (x5 : Int32) (x6 : Int32) (uc : qS) (r_38 : Int32) (f_42 : Nat → Int32) (hI : IM u) (h_1 : x < u.1 1210) (h_b : 0 ≤ x.toInt) (h_l : 16 * x.toInt ≤ x6.toInt) (h_r : x6.toInt ≤ 16 * x.toInt + (u.2.1 1214 x.toNatClampNeg).toInt) (h_n : x5.toInt = (g_lets (u.2.1 1215) (16 * x.toNatClampNeg) (x6.toNatClampNeg - 16 * x.toNatClampNeg) : Int)) (c44_1 : ¬ ((16 * x) + (u.2.1 1214 (x : Int32).toNatClampNeg)) ≤ (x6 : Int32)) (c54_8 : (u.2.1 1215 (x6 : Int32).toNatClampNeg : Int32) = 0) (hf_42 : f_42 = upd (uc.2.1 1226) (x5 : Int32).toNatClampNeg r_38) : (x5 + 1).toInt = (g_lets (u.2.1 1215) (16 * x.toNatClampNeg) ((x6 + 1).toNatClampNeg - 16 * x.toNatClampNeg) : Int) := by
  have hz1210 := hI.1.s1210
  have q := g_jd hI.2.2.1 (b := x) (k := x6) h_b h_1 hI.1.s1210.2 h_l (by have q9 := (hI.2.2.1 x (Int32.le_iff_toInt_le.mpr h_b) h_1).1; have q8 := hI.1.s1210; have q7 : x < u.1 1210 := h_1; clear h_n; (try simp only [Int32.lt_iff_toInt_lt, Int32.le_iff_toInt_le, ← Int32.toInt_inj, Int32.toInt_add, Int32.toInt_sub, Int32.toInt_mul, Int32.toInt_neg, Int32.reduceToInt, g_bm, g_bm'] at *); omega)
  have q1 := q.2.2.2; have q3 := q.1; clear q
  have q6 : (x6 + 1).toNatClampNeg = x6.toNatClampNeg + 1 := (g_up (by omega) (by omega)).2
  have c6 := g_clamp x6
  have cx := g_clamp x
  have es : g_lets (u.2.1 1215) (16 * x.toNatClampNeg) ((x6 + 1).toNatClampNeg - 16 * x.toNatClampNeg) = g_lets (u.2.1 1215) (16 * x.toNatClampNeg) (x6.toNatClampNeg - 16 * x.toNatClampNeg) + (if u.2.1 1215 (16 * x.toNatClampNeg + (x6.toNatClampNeg - 16 * x.toNatClampNeg)) = 0 then 1 else 0) := by
    rw [q6, show x6.toNatClampNeg + 1 - 16 * x.toNatClampNeg = (x6.toNatClampNeg - 16 * x.toNatClampNeg) + 1 from by omega]; rfl
  rw [show 16 * x.toNatClampNeg + (x6.toNatClampNeg - 16 * x.toNatClampNeg) = x6.toNatClampNeg from by omega] at es
  first | rw [if_pos (by assumption)] at es q1 | rw [if_neg (by assumption)] at es q1
  first | (have q5 : (x5 + 1).toInt = x5.toInt + 1 := (g_up (by omega) (by omega)).1; omega) | omega
set_option maxRecDepth 100000 in
theorem g_X12_judges_v78 (u : qS) (x : Int32) (x5 : Int32) (x6 : Int32) (uc : qS) (r_38 : Int32) (f_42 : Nat → Int32) (hI : IM u) (h_1 : x < u.1 1210) (h_b : 0 ≤ x.toInt) (h_l : 16 * x.toInt ≤ x6.toInt) (h_r : x6.toInt ≤ 16 * x.toInt + (u.2.1 1214 x.toNatClampNeg).toInt) (h_n : x5.toInt = (g_lets (u.2.1 1215) (16 * x.toNatClampNeg) (x6.toNatClampNeg - 16 * x.toNatClampNeg) : Int)) (c44_1 : ¬ ((16 * x) + (u.2.1 1214 (x : Int32).toNatClampNeg)) ≤ (x6 : Int32)) (c54_8 : (u.2.1 1215 (x6 : Int32).toNatClampNeg : Int32) = 0) (hf_42 : f_42 = upd (uc.2.1 1226) (x5 : Int32).toNatClampNeg r_38) : (272 - (x6 + 1).toInt).toNat < (272 - x6.toInt).toNat := by
  have hz1210 := hI.1.s1210
  have q8 := hI.1.s1210; have q9 := (hI.2.2.1 x (Int32.le_iff_toInt_le.mpr h_b) h_1).1; clear h_n; (try simp only [Int32.lt_iff_toInt_lt, Int32.le_iff_toInt_le, ← Int32.toInt_inj, Int32.toInt_add, Int32.toInt_sub, Int32.toInt_mul, Int32.toInt_neg, Int32.reduceToInt, g_bm, g_bm'] at *); omega
set_option maxRecDepth 100000 in
theorem g_X12_judges_v79 (u : qS) (x : Int32) (hI : IM u) (h_1 : x < u.1 1210) (c11_43 : 0 ≤ (x : Int32)) : 0 ≤ x.toInt := by
  have hz1210 := hI.1.s1210
  (try simp only [Int32.lt_iff_toInt_lt, Int32.le_iff_toInt_le, ← Int32.toInt_inj, Int32.toInt_add, Int32.toInt_sub, Int32.toInt_mul, Int32.toInt_neg, Int32.reduceToInt, g_bm, g_bm'] at *); omega
set_option maxRecDepth 100000 in
theorem g_X12_judges_v80 (u : qS) (x : Int32) (hI : IM u) (h_1 : x < u.1 1210) (c11_43 : 0 ≤ (x : Int32)) : 16 * x.toInt ≤ (16 * x).toInt := by
  have hz1210 := hI.1.s1210
  have q8 := hI.1.s1210; (try simp only [Int32.lt_iff_toInt_lt, Int32.le_iff_toInt_le, ← Int32.toInt_inj, Int32.toInt_add, Int32.toInt_sub, Int32.toInt_mul, Int32.toInt_neg, Int32.reduceToInt, g_bm, g_bm'] at *); omega
set_option maxRecDepth 100000 in
theorem g_X12_judges_v81 (u : qS) (x : Int32) (hI : IM u) (h_1 : x < u.1 1210) (c11_43 : 0 ≤ (x : Int32)) : (16 * x).toInt ≤ 16 * x.toInt + (u.2.1 1214 x.toNatClampNeg).toInt := by
  have hz1210 := hI.1.s1210
  have q8 := hI.1.s1210; have q9 := (hI.2.2.1 x (by assumption) h_1).1; (try simp only [Int32.lt_iff_toInt_lt, Int32.le_iff_toInt_le, ← Int32.toInt_inj, Int32.toInt_add, Int32.toInt_sub, Int32.toInt_mul, Int32.toInt_neg, Int32.reduceToInt, g_bm, g_bm'] at *); omega
set_option maxRecDepth 100000 in
theorem g_X12_judges_v82 (u : qS) (x : Int32) (hI : IM u) (h_1 : x < u.1 1210) (c11_43 : 0 ≤ (x : Int32)) : (0 : Int32).toInt = (g_lets (u.2.1 1215) (16 * x.toNatClampNeg) ((16 * x).toNatClampNeg - 16 * x.toNatClampNeg) : Int) := by
  have hz1210 := hI.1.s1210
  have q8 := hI.1.s1210
  have e : ((16 : Int32) * x).toNatClampNeg = 16 * x.toNatClampNeg := by rw [g_clamp, g_clamp]; (try simp only [Int32.lt_iff_toInt_lt, Int32.le_iff_toInt_le, ← Int32.toInt_inj, Int32.toInt_add, Int32.toInt_sub, Int32.toInt_mul, Int32.toInt_neg, Int32.reduceToInt, g_bm, g_bm'] at *); omega
  rw [e, Nat.sub_self]; rfl
set_option maxRecDepth 100000 in
theorem g_X12_judges_v83 (u : qS) (x : Int32) (hI : IM u) (h_1 : x < u.1 1210) (c11_43 : ¬ 0 ≤ (x : Int32)) : 0 ≤ (0 : Int32) ∧ (0 : Int32) ≤ 1000 := by
  have hz1210 := hI.1.s1210
  first | omega | ((try simp only [Int32.lt_iff_toInt_lt, Int32.le_iff_toInt_le, ← Int32.toInt_inj, Int32.toInt_add, Int32.toInt_sub, Int32.toInt_mul, Int32.toInt_neg, Int32.reduceToInt, g_bm, g_bm'] at *); omega) | (simp only [Int32.lt_iff_toInt_lt, Int32.le_iff_toInt_le, ← Int32.toInt_inj, Int32.toInt_add, Int32.toInt_sub, Int32.toInt_mul, Int32.toInt_neg, Int32.reduceToInt, g_bm, g_bm'] at *; simp at *; omega) | (simp_all; done)
set_option maxHeartbeats 1000000 in
set_option maxRecDepth 100000 in
theorem g_X12_judges (l : Launch) (E : qE) (A : Nat → Prop) (u : qS) (x : Int32) (hI : IM u) (h_1 : x < u.1 1210) : Met l yX12_judges (uws yX12_judges cX12_judges 7 none) (qR 2 0 0) (qPc E A 1 u [.ref (E.2.2 1299), .int x]) (qQv E A 1 (fun u1 => qFr [1228, 1229] [1226, 1227] [] u u1 ∧ (0 ≤ u1.1 1228 ∧ u1.1 1228 ≤ 1000))) 0 0 A := by
  refine q_met (own := RX12) (f := 2) [.ref (E.2.2 1299), .int x] (by decide) (Nat.le_of_ble_eq_true rfl) rfl ?_
  intro p0 e0 s0 m0 bl0 me0 cd0 ls hF hr hlocks hU hS hA hl
  have hl : lv_has ls 7 [(0, .ref (E.2.2 1299)), (1, .int x)] := hl
  have hfr : qFr [1228, 1229] [1226, 1227] [] u u := qFr.rf
  have main : ∀ n : Nat, (∀ (x2 : Int32) (x3 : Int32) (x4 : Int32) (x5 : Int32) (x6 : Int32) (uc : qS) (H : Heap) (locs : List Loc) (ls : Array Slot) (hfr : qFr [1228, 1229] [1226, 1227] [] u uc) (h_b : 0 ≤ x.toInt) (h_l : 16 * x.toInt ≤ x6.toInt) (h_r : x6.toInt ≤ 16 * x.toInt + (u.2.1 1214 x.toNatClampNeg).toInt) (h_n : x5.toInt = (g_lets (u.2.1 1215) (16 * x.toNatClampNeg) (x6.toNatClampNeg - 16 * x.toNatClampNeg) : Int)), (272 - x6.toInt).toNat < n → qH E A 1 uc s0 H → va_S A s0.heap H locs → lv_has ls 7 [(0, .ref (E.2.2 1299)), (1, .int x), (2, .int x2), (3, .int x3), (4, .int x4), (5, .int x5), (6, .int x6)] → W p0 l e0 (qR 2 0 0) s0 m0 ([.ref (E.2.2 1299), .int x] : List Value).toArray bl0 me0 cd0 H locs 0 0 (MQ bl0 (qQv E A 1 (fun u1 => qFr [1228, 1229] [1226, 1227] [] u u1 ∧ (0 ≤ u1.1 1228 ∧ u1.1 1228 ≤ 1000))) ([.ref (E.2.2 1299), .int x] : List Value).toArray s0 0 0 A) (F0 m0 31 ls [])) := by
    intro n
    induction n with
    | zero => exact fun _ _ _ _ _ _ _ _ _ _ _ _ _ _ hmu => absurd hmu (Nat.not_lt_zero _)
    | succ n ih =>
      intro x2 x3 x4 x5 x6 uc H locs ls hfr h_b h_l h_r h_n hmu hU hS hl
      refine lv_iload hF.1 hF.2.1 dX12_judges_31 (lv_at hl 6 rfl) ?_
      refine lv_bipush (v := 16) hF.1 hF.2.1 dX12_judges_33 (by decide) ?_
      refine lv_iload_n hF.1 hF.2.1 dX12_judges_35 rfl (lv_at hl 1 rfl) ?_
      refine lv_imul hF.1 hF.2.1 dX12_judges_36 ?_
      refine lv_aload_n hF.1 hF.2.1 dX12_judges_37 rfl (lv_at hl 0 rfl) ?_
      refine q_get (v := .ref (E.2.2 1214)) hF hU dX12_judges_38 0 12 14 1214 1299 rfl rfl rfl rfl inX12 (by decide) (by decide) w_1346 rfl rfl ?_
      refine lv_iload_n hF.1 hF.2.1 dX12_judges_41 rfl (lv_at hl 1 rfl) ?_
      refine q_iald (v := u.2.1 1214 (x : Int32).toNatClampNeg) hF hU dX12_judges_42 8 1214 rfl rfl (g_X12_judges_v0 u x x5 x6 hI h_1 h_b h_l h_r h_n) (congrFun (hfr.2.1 1214 (by decide)) _) ?_
      refine lv_iadd hF.1 hF.2.1 dX12_judges_43 ?_
      refine lv_icmp_ge (tgt := 197) hF.1 hF.2.1 dX12_judges_44 (by decide) (fun c44_1 => ?_) (fun c44_1 => ?_)
      · refine lv_aload_n hF.1 hF.2.1 dX12_judges_197 rfl (lv_at hl 0 rfl) ?_
        refine lv_iload hF.1 hF.2.1 dX12_judges_198 (lv_at hl 4 rfl) ?_
        refine lv_if_ne (tgt := 207) hF.1 hF.2.1 dX12_judges_200 (by decide) (fun c200_2 => ?_) (fun c200_2 => ?_)
        · refine lv_iconst (v := 0) hF.1 hF.2.1 dX12_judges_207 (by decide) ?_
          refine lv_goto (tgt := 225) hF.1 hF.2.1 dX12_judges_208 (by decide) ?_
          refine q_put hF hU hS dX12_judges_225 0 12 28 1228 1299 rfl rfl rfl rfl inX12 tyX12 tyX12_ok nmX12 (by decide) (by decide) rfl w_1360 rfl rfl rfl rfl (fun H locs hU hS => ?_)
          have hfr : qFr [1228, 1229] [1226, 1227] [] u (qsI uc 1228 0) := hfr.setI (by decide)
          refine lv_aload_n hF.1 hF.2.1 dX12_judges_228 rfl (lv_at hl 0 rfl) ?_
          refine lv_iload hF.1 hF.2.1 dX12_judges_229 (lv_at hl 4 rfl) ?_
          refine lv_if_ne (tgt := 238) hF.1 hF.2.1 dX12_judges_231 (by decide) (fun _ => ?_) (fun h9 => absurd h9 (by first | exact c200_2 | exact Int32.not_lt.mp c200_2 | exact Int32.not_le.mp c200_2 | exact Int32.not_lt.mpr c200_2 | exact Int32.not_le.mpr c200_2))
          refine lv_iconst (v := 0) hF.1 hF.2.1 dX12_judges_238 (by decide) ?_
          refine lv_goto (tgt := 243) hF.1 hF.2.1 dX12_judges_239 (by decide) ?_
          refine q_put hF hU hS dX12_judges_243 0 12 29 1229 1299 rfl rfl rfl rfl inX12 tyX12 tyX12_ok nmX12 (by decide) (by decide) rfl w_1361 rfl rfl rfl rfl (fun H locs hU hS => ?_)
          have hfr : qFr [1228, 1229] [1226, 1227] [] u (qsI (qsI uc 1228 0) 1229 0) := hfr.setI (by decide)
          exact q_vret hF hr hlocks hU hS dX12_judges_246 ⟨hfr, (g_X12_judges_v1 u x x4 x5 x6 hI h_1 h_b h_l h_r h_n c44_1 c200_2)⟩
        · refine lv_iload_n hF.1 hF.2.1 dX12_judges_203 rfl (lv_at hl 2 rfl) ?_
          refine lv_if_ge (tgt := 211) hF.1 hF.2.1 dX12_judges_204 (by decide) (fun c204_3 => ?_) (fun c204_3 => ?_)
          · refine lv_iload_n hF.1 hF.2.1 dX12_judges_211 rfl (lv_at hl 2 rfl) ?_
            refine lv_sipush (v := 1000) hF.1 hF.2.1 dX12_judges_212 (by decide) ?_
            refine lv_icmp_le (tgt := 224) hF.1 hF.2.1 dX12_judges_215 (by decide) (fun c215_4 => ?_) (fun c215_4 => ?_)
            · refine lv_iload_n hF.1 hF.2.1 dX12_judges_224 rfl (lv_at hl 2 rfl) ?_
              refine q_put hF hU hS dX12_judges_225 0 12 28 1228 1299 rfl rfl rfl rfl inX12 tyX12 tyX12_ok nmX12 (by decide) (by decide) rfl w_1360 rfl rfl rfl rfl (fun H locs hU hS => ?_)
              have hfr : qFr [1228, 1229] [1226, 1227] [] u (qsI uc 1228 x2) := hfr.setI (by decide)
              refine lv_aload_n hF.1 hF.2.1 dX12_judges_228 rfl (lv_at hl 0 rfl) ?_
              refine lv_iload hF.1 hF.2.1 dX12_judges_229 (lv_at hl 4 rfl) ?_
              refine lv_if_ne (tgt := 238) hF.1 hF.2.1 dX12_judges_231 (by decide) (fun h9 => absurd (by first | exact c200_2 | exact Int32.not_lt.mp c200_2 | exact Int32.not_le.mp c200_2 | exact Int32.not_lt.mpr c200_2 | exact Int32.not_le.mpr c200_2) h9) (fun _ => ?_)
              refine lv_iload_n hF.1 hF.2.1 dX12_judges_234 rfl (lv_at hl 3 rfl) ?_
              refine lv_if_ge (tgt := 242) hF.1 hF.2.1 dX12_judges_235 (by decide) (fun c235_5 => ?_) (fun c235_5 => ?_)
              · refine lv_iload_n hF.1 hF.2.1 dX12_judges_242 rfl (lv_at hl 3 rfl) ?_
                refine q_put hF hU hS dX12_judges_243 0 12 29 1229 1299 rfl rfl rfl rfl inX12 tyX12 tyX12_ok nmX12 (by decide) (by decide) rfl w_1361 rfl rfl rfl rfl (fun H locs hU hS => ?_)
                have hfr : qFr [1228, 1229] [1226, 1227] [] u (qsI (qsI uc 1228 x2) 1229 x3) := hfr.setI (by decide)
                exact q_vret hF hr hlocks hU hS dX12_judges_246 ⟨hfr, (g_X12_judges_v2 u x x2 x3 x4 x5 x6 hI h_1 h_b h_l h_r h_n c44_1 c200_2 c204_3 c215_4 c235_5)⟩
              · refine lv_iconst (v := 0) hF.1 hF.2.1 dX12_judges_238 (by decide) ?_
                refine lv_goto (tgt := 243) hF.1 hF.2.1 dX12_judges_239 (by decide) ?_
                refine q_put hF hU hS dX12_judges_243 0 12 29 1229 1299 rfl rfl rfl rfl inX12 tyX12 tyX12_ok nmX12 (by decide) (by decide) rfl w_1361 rfl rfl rfl rfl (fun H locs hU hS => ?_)
                have hfr : qFr [1228, 1229] [1226, 1227] [] u (qsI (qsI uc 1228 x2) 1229 0) := hfr.setI (by decide)
                exact q_vret hF hr hlocks hU hS dX12_judges_246 ⟨hfr, (g_X12_judges_v3 u x x2 x3 x4 x5 x6 hI h_1 h_b h_l h_r h_n c44_1 c200_2 c204_3 c215_4 c235_5)⟩
            · refine lv_sipush (v := 1000) hF.1 hF.2.1 dX12_judges_218 (by decide) ?_
              refine lv_goto (tgt := 225) hF.1 hF.2.1 dX12_judges_221 (by decide) ?_
              refine q_put hF hU hS dX12_judges_225 0 12 28 1228 1299 rfl rfl rfl rfl inX12 tyX12 tyX12_ok nmX12 (by decide) (by decide) rfl w_1360 rfl rfl rfl rfl (fun H locs hU hS => ?_)
              have hfr : qFr [1228, 1229] [1226, 1227] [] u (qsI uc 1228 1000) := hfr.setI (by decide)
              refine lv_aload_n hF.1 hF.2.1 dX12_judges_228 rfl (lv_at hl 0 rfl) ?_
              refine lv_iload hF.1 hF.2.1 dX12_judges_229 (lv_at hl 4 rfl) ?_
              refine lv_if_ne (tgt := 238) hF.1 hF.2.1 dX12_judges_231 (by decide) (fun h9 => absurd (by first | exact c200_2 | exact Int32.not_lt.mp c200_2 | exact Int32.not_le.mp c200_2 | exact Int32.not_lt.mpr c200_2 | exact Int32.not_le.mpr c200_2) h9) (fun _ => ?_)
              refine lv_iload_n hF.1 hF.2.1 dX12_judges_234 rfl (lv_at hl 3 rfl) ?_
              refine lv_if_ge (tgt := 242) hF.1 hF.2.1 dX12_judges_235 (by decide) (fun c235_6 => ?_) (fun c235_6 => ?_)
              · refine lv_iload_n hF.1 hF.2.1 dX12_judges_242 rfl (lv_at hl 3 rfl) ?_
                refine q_put hF hU hS dX12_judges_243 0 12 29 1229 1299 rfl rfl rfl rfl inX12 tyX12 tyX12_ok nmX12 (by decide) (by decide) rfl w_1361 rfl rfl rfl rfl (fun H locs hU hS => ?_)
                have hfr : qFr [1228, 1229] [1226, 1227] [] u (qsI (qsI uc 1228 1000) 1229 x3) := hfr.setI (by decide)
                exact q_vret hF hr hlocks hU hS dX12_judges_246 ⟨hfr, (g_X12_judges_v4 u x x2 x3 x4 x5 x6 hI h_1 h_b h_l h_r h_n c44_1 c200_2 c204_3 c215_4 c235_6)⟩
              · refine lv_iconst (v := 0) hF.1 hF.2.1 dX12_judges_238 (by decide) ?_
                refine lv_goto (tgt := 243) hF.1 hF.2.1 dX12_judges_239 (by decide) ?_
                refine q_put hF hU hS dX12_judges_243 0 12 29 1229 1299 rfl rfl rfl rfl inX12 tyX12 tyX12_ok nmX12 (by decide) (by decide) rfl w_1361 rfl rfl rfl rfl (fun H locs hU hS => ?_)
                have hfr : qFr [1228, 1229] [1226, 1227] [] u (qsI (qsI uc 1228 1000) 1229 0) := hfr.setI (by decide)
                exact q_vret hF hr hlocks hU hS dX12_judges_246 ⟨hfr, (g_X12_judges_v5 u x x2 x3 x4 x5 x6 hI h_1 h_b h_l h_r h_n c44_1 c200_2 c204_3 c215_4 c235_6)⟩
          · refine lv_iconst (v := 0) hF.1 hF.2.1 dX12_judges_207 (by decide) ?_
            refine lv_goto (tgt := 225) hF.1 hF.2.1 dX12_judges_208 (by decide) ?_
            refine q_put hF hU hS dX12_judges_225 0 12 28 1228 1299 rfl rfl rfl rfl inX12 tyX12 tyX12_ok nmX12 (by decide) (by decide) rfl w_1360 rfl rfl rfl rfl (fun H locs hU hS => ?_)
            have hfr : qFr [1228, 1229] [1226, 1227] [] u (qsI uc 1228 0) := hfr.setI (by decide)
            refine lv_aload_n hF.1 hF.2.1 dX12_judges_228 rfl (lv_at hl 0 rfl) ?_
            refine lv_iload hF.1 hF.2.1 dX12_judges_229 (lv_at hl 4 rfl) ?_
            refine lv_if_ne (tgt := 238) hF.1 hF.2.1 dX12_judges_231 (by decide) (fun h9 => absurd (by first | exact c200_2 | exact Int32.not_lt.mp c200_2 | exact Int32.not_le.mp c200_2 | exact Int32.not_lt.mpr c200_2 | exact Int32.not_le.mpr c200_2) h9) (fun _ => ?_)
            refine lv_iload_n hF.1 hF.2.1 dX12_judges_234 rfl (lv_at hl 3 rfl) ?_
            refine lv_if_ge (tgt := 242) hF.1 hF.2.1 dX12_judges_235 (by decide) (fun c235_7 => ?_) (fun c235_7 => ?_)
            · refine lv_iload_n hF.1 hF.2.1 dX12_judges_242 rfl (lv_at hl 3 rfl) ?_
              refine q_put hF hU hS dX12_judges_243 0 12 29 1229 1299 rfl rfl rfl rfl inX12 tyX12 tyX12_ok nmX12 (by decide) (by decide) rfl w_1361 rfl rfl rfl rfl (fun H locs hU hS => ?_)
              have hfr : qFr [1228, 1229] [1226, 1227] [] u (qsI (qsI uc 1228 0) 1229 x3) := hfr.setI (by decide)
              exact q_vret hF hr hlocks hU hS dX12_judges_246 ⟨hfr, (g_X12_judges_v6 u x x2 x3 x4 x5 x6 hI h_1 h_b h_l h_r h_n c44_1 c200_2 c204_3 c235_7)⟩
            · refine lv_iconst (v := 0) hF.1 hF.2.1 dX12_judges_238 (by decide) ?_
              refine lv_goto (tgt := 243) hF.1 hF.2.1 dX12_judges_239 (by decide) ?_
              refine q_put hF hU hS dX12_judges_243 0 12 29 1229 1299 rfl rfl rfl rfl inX12 tyX12 tyX12_ok nmX12 (by decide) (by decide) rfl w_1361 rfl rfl rfl rfl (fun H locs hU hS => ?_)
              have hfr : qFr [1228, 1229] [1226, 1227] [] u (qsI (qsI uc 1228 0) 1229 0) := hfr.setI (by decide)
              exact q_vret hF hr hlocks hU hS dX12_judges_246 ⟨hfr, (g_X12_judges_v7 u x x2 x3 x4 x5 x6 hI h_1 h_b h_l h_r h_n c44_1 c200_2 c204_3 c235_7)⟩
      · refine lv_aload_n hF.1 hF.2.1 dX12_judges_47 rfl (lv_at hl 0 rfl) ?_
        refine q_get (v := .ref (E.2.2 1215)) hF hU dX12_judges_48 0 12 15 1215 1299 rfl rfl rfl rfl inX12 (by decide) (by decide) w_1347 rfl rfl ?_
        refine lv_iload hF.1 hF.2.1 dX12_judges_51 (lv_at hl 6 rfl) ?_
        refine q_iald (v := u.2.1 1215 (x6 : Int32).toNatClampNeg) hF hU dX12_judges_53 9 1215 rfl rfl (g_X12_judges_v8 u x x5 x6 hI h_1 h_b h_l h_r h_n c44_1) (congrFun (hfr.2.1 1215 (by decide)) _) ?_
        refine lv_if_ne (tgt := 81) hF.1 hF.2.1 dX12_judges_54 (by decide) (fun c54_8 => ?_) (fun c54_8 => ?_)
        · refine lv_aload_n hF.1 hF.2.1 dX12_judges_81 rfl (lv_at hl 0 rfl) ?_
          refine q_get (v := .ref (E.2.2 1215)) hF hU dX12_judges_82 0 12 15 1215 1299 rfl rfl rfl rfl inX12 (by decide) (by decide) w_1347 rfl rfl ?_
          refine lv_iload hF.1 hF.2.1 dX12_judges_85 (lv_at hl 6 rfl) ?_
          refine q_iald (v := u.2.1 1215 (x6 : Int32).toNatClampNeg) hF hU dX12_judges_87 9 1215 rfl rfl (g_X12_judges_v9 u x x5 x6 hI h_1 h_b h_l h_r h_n c44_1 c54_8) (congrFun (hfr.2.1 1215 (by decide)) _) ?_
          refine lv_iconst (v := 2) hF.1 hF.2.1 dX12_judges_88 (by decide) ?_
          refine lv_icmp_ne (tgt := 121) hF.1 hF.2.1 dX12_judges_89 (by decide) (fun c89_9 => ?_) (fun c89_9 => ?_)
          · refine lv_aload_n hF.1 hF.2.1 dX12_judges_121 rfl (lv_at hl 0 rfl) ?_
            refine lv_aload_n hF.1 hF.2.1 dX12_judges_122 rfl (lv_at hl 0 rfl) ?_
            refine q_get (v := .ref (E.2.2 1218)) hF hU dX12_judges_123 0 12 18 1218 1299 rfl rfl rfl rfl inX12 (by decide) (by decide) w_1350 rfl rfl ?_
            refine lv_iload hF.1 hF.2.1 dX12_judges_126 (lv_at hl 6 rfl) ?_
            refine q_iald (v := u.2.1 1218 (x6 : Int32).toNatClampNeg) hF hU dX12_judges_128 12 1218 rfl rfl (g_X12_judges_v10 u x x5 x6 hI h_1 h_b h_l h_r h_n c44_1 c54_8 c89_9) (congrFun (hfr.2.1 1218 (by decide)) _) ?_
            have hM9 := g_X12_worth l E A uc (u.2.1 1218 (x6 : Int32).toNatClampNeg) (by rw [(hfr.2.1 1222 (by decide)), (hfr.2.1 1223 (by decide))]; exact (g_X12_judges_v11 u x x5 x6 hI h_1 h_b h_l h_r h_n c44_1 c54_8 c89_9))
            have hR9 := q_runV (l := l) (e := e0) (below := bl0) (meth := me0) (R := qR 2 0 0) (cells := 0) (slots := 0) (st0 := [.int (u.2.1 1218 (x6 : Int32).toNatClampNeg), .ref (E.2.2 1299)]) (rest := []) hF hU hS hA 1 0 12 1299 rfl rfl rfl hM9 w_1772 w_1774 w_80 w_107 w_1775 (by decide +kernel) ⟨Nat.le_of_ble_eq_true rfl, Nat.le_of_ble_eq_true rfl⟩ dX12_judges_129 rfl hl.1 rfl (Nat.le_of_ble_eq_true rfl) ⟨Nat.le_of_ble_eq_true rfl, Nat.le_of_ble_eq_true rfl⟩
            refine q_calli hR9 hU.2.2.2 hS (fun r_12 u_10 H locs hw_11 hU hS => ?_)
            have hw_11_f := hw_11.1
            have hfr : qFr [1228, 1229] [1226, 1227] [] u u_10 := hfr.trans (hw_11_f.mono (by decide) (by decide) (by decide))
            have hw_11 := hw_11.2
            have e_13 : u_10.1 1228 = (uc.1 1228) := (hw_11_f.1 1228 (by decide)).trans rfl
            have e_14 : u_10.1 1229 = (uc.1 1229) := (hw_11_f.1 1229 (by decide)).trans rfl
            have e_15 : u_10.2.1 1226 = (uc.2.1 1226) := (hw_11_f.2.1 1226 (by decide)).trans rfl
            refine lv_if_eq (tgt := 191) hF.1 hF.2.1 dX12_judges_132 (by decide) (fun c132_16 => ?_) (fun c132_16 => ?_)
            · refine lv_iinc (v := x6 + 1) (lv' := [(6, .int (x6 + 1)), (0, .ref (E.2.2 1299)), (1, .int x), (2, .int x2), (3, .int x3), (4, .int x4), (5, .int x5)]) hF.1 hF.2.1 dX12_judges_191 hl (k := 6) rfl rfl (by decide) rfl (fun ls hl => ?_)
              refine lv_goto (tgt := 31) hF.1 hF.2.1 dX12_judges_194 (by decide) ?_
              exact ih x2 x3 x4 x5 (x6 + 1) u_10 _ _ _ hfr (g_X12_judges_v12 u x x5 x6 r_12 hI h_1 h_b h_l h_r h_n c44_1 c54_8 c89_9 c132_16) (g_X12_judges_v13 u x x5 x6 r_12 hI h_1 h_b h_l h_r h_n c44_1 c54_8 c89_9 c132_16) (g_X12_judges_v14 u x x5 x6 r_12 hI h_1 h_b h_l h_r h_n c44_1 c54_8 c89_9 c132_16) (g_X12_judges_v15 u x x5 x6 r_12 hI h_1 h_b h_l h_r h_n c44_1 c54_8 c89_9 c132_16) (Nat.lt_of_lt_of_le (g_X12_judges_v16 u x x5 x6 r_12 hI h_1 h_b h_l h_r h_n c44_1 c54_8 c89_9 c132_16) (Nat.lt_succ_iff.mp hmu)) hU hS (lv_sub hl [1, 2, 3, 4, 5, 6, 0] rfl)
            · refine lv_iload_n hF.1 hF.2.1 dX12_judges_135 rfl (lv_at hl 2 rfl) ?_
              refine lv_aload_n hF.1 hF.2.1 dX12_judges_136 rfl (lv_at hl 0 rfl) ?_
              refine q_get (v := .ref (E.2.2 1215)) hF hU dX12_judges_137 0 12 15 1215 1299 rfl rfl rfl rfl inX12 (by decide) (by decide) w_1347 rfl rfl ?_
              refine lv_iload hF.1 hF.2.1 dX12_judges_140 (lv_at hl 6 rfl) ?_
              refine q_iald (v := u.2.1 1215 (x6 : Int32).toNatClampNeg) hF hU dX12_judges_142 9 1215 rfl rfl (g_X12_judges_v17 u x x5 x6 r_12 hI h_1 h_b h_l h_r h_n c44_1 c54_8 c89_9 c132_16) (congrFun (hfr.2.1 1215 (by decide)) _) ?_
              refine lv_iconst (v := 1) hF.1 hF.2.1 dX12_judges_143 (by decide) ?_
              refine lv_icmp_ne (tgt := 161) hF.1 hF.2.1 dX12_judges_144 (by decide) (fun c144_17 => ?_) (fun c144_17 => ?_)
              · refine lv_iconst (v := 0) hF.1 hF.2.1 dX12_judges_161 (by decide) ?_
                refine lv_iadd hF.1 hF.2.1 dX12_judges_162 ?_
                refine lv_istore_n (lv' := [(2, .int (x2 + 0)), (0, .ref (E.2.2 1299)), (1, .int x), (3, .int x3), (4, .int x4), (5, .int x5), (6, .int x6)]) hF.1 hF.2.1 dX12_judges_163 rfl hl (by decide) rfl (fun ls hl => ?_)
                refine lv_aload_n hF.1 hF.2.1 dX12_judges_164 rfl (lv_at hl 1 rfl) ?_
                refine q_get (v := .ref (E.2.2 1215)) hF hU dX12_judges_165 0 12 15 1215 1299 rfl rfl rfl rfl inX12 (by decide) (by decide) w_1347 rfl rfl ?_
                refine lv_iload hF.1 hF.2.1 dX12_judges_168 (lv_at hl 6 rfl) ?_
                refine q_iald (v := u.2.1 1215 (x6 : Int32).toNatClampNeg) hF hU dX12_judges_170 9 1215 rfl rfl (g_X12_judges_v18 u x x5 x6 r_12 hI h_1 h_b h_l h_r h_n c44_1 c54_8 c89_9 c132_16 c144_17) (congrFun (hfr.2.1 1215 (by decide)) _) ?_
                refine lv_iconst (v := 3) hF.1 hF.2.1 dX12_judges_171 (by decide) ?_
                refine lv_icmp_ne (tgt := 189) hF.1 hF.2.1 dX12_judges_172 (by decide) (fun c172_18 => ?_) (fun c172_18 => ?_)
                · refine lv_iload_n hF.1 hF.2.1 dX12_judges_189 rfl (lv_at hl 3 rfl) ?_
                  refine lv_istore_n (lv' := [(3, .int x3), (2, .int (x2 + 0)), (0, .ref (E.2.2 1299)), (1, .int x), (4, .int x4), (5, .int x5), (6, .int x6)]) hF.1 hF.2.1 dX12_judges_190 rfl hl (by decide) rfl (fun ls hl => ?_)
                  refine lv_iinc (v := x6 + 1) (lv' := [(6, .int (x6 + 1)), (3, .int x3), (2, .int (x2 + 0)), (0, .ref (E.2.2 1299)), (1, .int x), (4, .int x4), (5, .int x5)]) hF.1 hF.2.1 dX12_judges_191 hl (k := 6) rfl rfl (by decide) rfl (fun ls hl => ?_)
                  refine lv_goto (tgt := 31) hF.1 hF.2.1 dX12_judges_194 (by decide) ?_
                  exact ih (x2 + 0) x3 x4 x5 (x6 + 1) u_10 _ _ _ hfr (g_X12_judges_v19 u x x5 x6 r_12 hI h_1 h_b h_l h_r h_n c44_1 c54_8 c89_9 c132_16 c144_17 c172_18) (g_X12_judges_v20 u x x5 x6 r_12 hI h_1 h_b h_l h_r h_n c44_1 c54_8 c89_9 c132_16 c144_17 c172_18) (g_X12_judges_v21 u x x5 x6 r_12 hI h_1 h_b h_l h_r h_n c44_1 c54_8 c89_9 c132_16 c144_17 c172_18) (g_X12_judges_v22 u x x5 x6 r_12 hI h_1 h_b h_l h_r h_n c44_1 c54_8 c89_9 c132_16 c144_17 c172_18) (Nat.lt_of_lt_of_le (g_X12_judges_v23 u x x5 x6 r_12 hI h_1 h_b h_l h_r h_n c44_1 c54_8 c89_9 c132_16 c144_17 c172_18) (Nat.lt_succ_iff.mp hmu)) hU hS (lv_sub hl [3, 4, 2, 1, 5, 6, 0] rfl)
                · refine lv_iload_n hF.1 hF.2.1 dX12_judges_175 rfl (lv_at hl 3 rfl) ?_
                  refine lv_if_ge (tgt := 189) hF.1 hF.2.1 dX12_judges_176 (by decide) (fun c176_19 => ?_) (fun c176_19 => ?_)
                  · refine lv_iload_n hF.1 hF.2.1 dX12_judges_189 rfl (lv_at hl 3 rfl) ?_
                    refine lv_istore_n (lv' := [(3, .int x3), (2, .int (x2 + 0)), (0, .ref (E.2.2 1299)), (1, .int x), (4, .int x4), (5, .int x5), (6, .int x6)]) hF.1 hF.2.1 dX12_judges_190 rfl hl (by decide) rfl (fun ls hl => ?_)
                    refine lv_iinc (v := x6 + 1) (lv' := [(6, .int (x6 + 1)), (3, .int x3), (2, .int (x2 + 0)), (0, .ref (E.2.2 1299)), (1, .int x), (4, .int x4), (5, .int x5)]) hF.1 hF.2.1 dX12_judges_191 hl (k := 6) rfl rfl (by decide) rfl (fun ls hl => ?_)
                    refine lv_goto (tgt := 31) hF.1 hF.2.1 dX12_judges_194 (by decide) ?_
                    exact ih (x2 + 0) x3 x4 x5 (x6 + 1) u_10 _ _ _ hfr (g_X12_judges_v24 u x x3 x5 x6 r_12 hI h_1 h_b h_l h_r h_n c44_1 c54_8 c89_9 c132_16 c144_17 c172_18 c176_19) (g_X12_judges_v25 u x x3 x5 x6 r_12 hI h_1 h_b h_l h_r h_n c44_1 c54_8 c89_9 c132_16 c144_17 c172_18 c176_19) (g_X12_judges_v26 u x x3 x5 x6 r_12 hI h_1 h_b h_l h_r h_n c44_1 c54_8 c89_9 c132_16 c144_17 c172_18 c176_19) (g_X12_judges_v27 u x x3 x5 x6 r_12 hI h_1 h_b h_l h_r h_n c44_1 c54_8 c89_9 c132_16 c144_17 c172_18 c176_19) (Nat.lt_of_lt_of_le (g_X12_judges_v28 u x x3 x5 x6 r_12 hI h_1 h_b h_l h_r h_n c44_1 c54_8 c89_9 c132_16 c144_17 c172_18 c176_19) (Nat.lt_succ_iff.mp hmu)) hU hS (lv_sub hl [3, 4, 2, 1, 5, 6, 0] rfl)
                  · refine lv_aload_n hF.1 hF.2.1 dX12_judges_179 rfl (lv_at hl 1 rfl) ?_
                    refine q_get (v := .ref (E.2.2 1216)) hF hU dX12_judges_180 0 12 16 1216 1299 rfl rfl rfl rfl inX12 (by decide) (by decide) w_1348 rfl rfl ?_
                    refine lv_iload hF.1 hF.2.1 dX12_judges_183 (lv_at hl 6 rfl) ?_
                    refine q_iald (v := u.2.1 1216 (x6 : Int32).toNatClampNeg) hF hU dX12_judges_185 10 1216 rfl rfl (g_X12_judges_v29 u x x3 x5 x6 r_12 hI h_1 h_b h_l h_r h_n c44_1 c54_8 c89_9 c132_16 c144_17 c172_18 c176_19) (congrFun (hfr.2.1 1216 (by decide)) _) ?_
                    refine lv_goto (tgt := 190) hF.1 hF.2.1 dX12_judges_186 (by decide) ?_
                    refine lv_istore_n (lv' := [(3, .int (u.2.1 1216 (x6 : Int32).toNatClampNeg)), (2, .int (x2 + 0)), (0, .ref (E.2.2 1299)), (1, .int x), (4, .int x4), (5, .int x5), (6, .int x6)]) hF.1 hF.2.1 dX12_judges_190 rfl hl (by decide) rfl (fun ls hl => ?_)
                    refine lv_iinc (v := x6 + 1) (lv' := [(6, .int (x6 + 1)), (3, .int (u.2.1 1216 (x6 : Int32).toNatClampNeg)), (2, .int (x2 + 0)), (0, .ref (E.2.2 1299)), (1, .int x), (4, .int x4), (5, .int x5)]) hF.1 hF.2.1 dX12_judges_191 hl (k := 6) rfl rfl (by decide) rfl (fun ls hl => ?_)
                    refine lv_goto (tgt := 31) hF.1 hF.2.1 dX12_judges_194 (by decide) ?_
                    exact ih (x2 + 0) (u.2.1 1216 (x6 : Int32).toNatClampNeg) x4 x5 (x6 + 1) u_10 _ _ _ hfr (g_X12_judges_v30 u x x3 x5 x6 r_12 hI h_1 h_b h_l h_r h_n c44_1 c54_8 c89_9 c132_16 c144_17 c172_18 c176_19) (g_X12_judges_v31 u x x3 x5 x6 r_12 hI h_1 h_b h_l h_r h_n c44_1 c54_8 c89_9 c132_16 c144_17 c172_18 c176_19) (g_X12_judges_v32 u x x3 x5 x6 r_12 hI h_1 h_b h_l h_r h_n c44_1 c54_8 c89_9 c132_16 c144_17 c172_18 c176_19) (g_X12_judges_v33 u x x3 x5 x6 r_12 hI h_1 h_b h_l h_r h_n c44_1 c54_8 c89_9 c132_16 c144_17 c172_18 c176_19) (Nat.lt_of_lt_of_le (g_X12_judges_v34 u x x3 x5 x6 r_12 hI h_1 h_b h_l h_r h_n c44_1 c54_8 c89_9 c132_16 c144_17 c172_18 c176_19) (Nat.lt_succ_iff.mp hmu)) hU hS (lv_sub hl [3, 4, 2, 1, 5, 6, 0] rfl)
              · refine lv_aload_n hF.1 hF.2.1 dX12_judges_147 rfl (lv_at hl 0 rfl) ?_
                refine lv_aload_n hF.1 hF.2.1 dX12_judges_148 rfl (lv_at hl 0 rfl) ?_
                refine q_get (v := .ref (E.2.2 1217)) hF hU dX12_judges_149 0 12 17 1217 1299 rfl rfl rfl rfl inX12 (by decide) (by decide) w_1349 rfl rfl ?_
                refine lv_iload hF.1 hF.2.1 dX12_judges_152 (lv_at hl 6 rfl) ?_
                refine q_iald (v := u.2.1 1217 (x6 : Int32).toNatClampNeg) hF hU dX12_judges_154 11 1217 rfl rfl (g_X12_judges_v35 u x x5 x6 r_12 hI h_1 h_b h_l h_r h_n c44_1 c54_8 c89_9 c132_16 c144_17) (congrFun (hfr.2.1 1217 (by decide)) _) ?_
                have hM9 := g_X12_worth l E A u_10 (u.2.1 1217 (x6 : Int32).toNatClampNeg) (by rw [(hfr.2.1 1222 (by decide)), (hfr.2.1 1223 (by decide))]; exact (g_X12_judges_v36 u x x5 x6 r_12 hI h_1 h_b h_l h_r h_n c44_1 c54_8 c89_9 c132_16 c144_17))
                have hR9 := q_runV (l := l) (e := e0) (below := bl0) (meth := me0) (R := qR 2 0 0) (cells := 0) (slots := 0) (st0 := [.int (u.2.1 1217 (x6 : Int32).toNatClampNeg), .ref (E.2.2 1299), .int x2]) (rest := [.int x2]) hF hU hS hA 1 0 12 1299 rfl rfl rfl hM9 w_1772 w_1774 w_80 w_107 w_1775 (by decide +kernel) ⟨Nat.le_of_ble_eq_true rfl, Nat.le_of_ble_eq_true rfl⟩ dX12_judges_155 rfl hl.1 rfl (Nat.le_of_ble_eq_true rfl) ⟨Nat.le_of_ble_eq_true rfl, Nat.le_of_ble_eq_true rfl⟩
                refine q_calli hR9 hU.2.2.2 hS (fun r_22 u_20 H locs hw_21 hU hS => ?_)
                have hw_21_f := hw_21.1
                have hfr : qFr [1228, 1229] [1226, 1227] [] u u_20 := hfr.trans (hw_21_f.mono (by decide) (by decide) (by decide))
                have hw_21 := hw_21.2
                have e_23 : u_20.1 1228 = (uc.1 1228) := (hw_21_f.1 1228 (by decide)).trans e_13
                have e_24 : u_20.1 1229 = (uc.1 1229) := (hw_21_f.1 1229 (by decide)).trans e_14
                have e_25 : u_20.2.1 1226 = (uc.2.1 1226) := (hw_21_f.2.1 1226 (by decide)).trans e_15
                refine lv_goto (tgt := 162) hF.1 hF.2.1 dX12_judges_158 (by decide) ?_
                refine lv_iadd hF.1 hF.2.1 dX12_judges_162 ?_
                refine lv_istore_n (lv' := [(2, .int (x2 + r_22)), (0, .ref (E.2.2 1299)), (1, .int x), (3, .int x3), (4, .int x4), (5, .int x5), (6, .int x6)]) hF.1 hF.2.1 dX12_judges_163 rfl hl (by decide) rfl (fun ls hl => ?_)
                refine lv_aload_n hF.1 hF.2.1 dX12_judges_164 rfl (lv_at hl 1 rfl) ?_
                refine q_get (v := .ref (E.2.2 1215)) hF hU dX12_judges_165 0 12 15 1215 1299 rfl rfl rfl rfl inX12 (by decide) (by decide) w_1347 rfl rfl ?_
                refine lv_iload hF.1 hF.2.1 dX12_judges_168 (lv_at hl 6 rfl) ?_
                refine q_iald (v := u.2.1 1215 (x6 : Int32).toNatClampNeg) hF hU dX12_judges_170 9 1215 rfl rfl (g_X12_judges_v37 u x x5 x6 r_12 hI h_1 h_b h_l h_r h_n c44_1 c54_8 c89_9 c132_16 c144_17) (congrFun (hfr.2.1 1215 (by decide)) _) ?_
                refine lv_iconst (v := 3) hF.1 hF.2.1 dX12_judges_171 (by decide) ?_
                refine lv_icmp_ne (tgt := 189) hF.1 hF.2.1 dX12_judges_172 (by decide) (fun c172_26 => ?_) (fun c172_26 => ?_)
                · refine lv_iload_n hF.1 hF.2.1 dX12_judges_189 rfl (lv_at hl 3 rfl) ?_
                  refine lv_istore_n (lv' := [(3, .int x3), (2, .int (x2 + r_22)), (0, .ref (E.2.2 1299)), (1, .int x), (4, .int x4), (5, .int x5), (6, .int x6)]) hF.1 hF.2.1 dX12_judges_190 rfl hl (by decide) rfl (fun ls hl => ?_)
                  refine lv_iinc (v := x6 + 1) (lv' := [(6, .int (x6 + 1)), (3, .int x3), (2, .int (x2 + r_22)), (0, .ref (E.2.2 1299)), (1, .int x), (4, .int x4), (5, .int x5)]) hF.1 hF.2.1 dX12_judges_191 hl (k := 6) rfl rfl (by decide) rfl (fun ls hl => ?_)
                  refine lv_goto (tgt := 31) hF.1 hF.2.1 dX12_judges_194 (by decide) ?_
                  exact ih (x2 + r_22) x3 x4 x5 (x6 + 1) u_20 _ _ _ hfr (g_X12_judges_v38 u x x5 x6 r_12 hI h_1 h_b h_l h_r h_n c44_1 c54_8 c89_9 c132_16 c144_17 c172_26) (g_X12_judges_v39 u x x5 x6 r_12 hI h_1 h_b h_l h_r h_n c44_1 c54_8 c89_9 c132_16 c144_17 c172_26) (g_X12_judges_v40 u x x5 x6 r_12 hI h_1 h_b h_l h_r h_n c44_1 c54_8 c89_9 c132_16 c144_17 c172_26) (g_X12_judges_v41 u x x5 x6 r_12 hI h_1 h_b h_l h_r h_n c44_1 c54_8 c89_9 c132_16 c144_17 c172_26) (Nat.lt_of_lt_of_le (g_X12_judges_v42 u x x5 x6 r_12 hI h_1 h_b h_l h_r h_n c44_1 c54_8 c89_9 c132_16 c144_17 c172_26) (Nat.lt_succ_iff.mp hmu)) hU hS (lv_sub hl [3, 4, 2, 1, 5, 6, 0] rfl)
                · refine lv_iload_n hF.1 hF.2.1 dX12_judges_175 rfl (lv_at hl 3 rfl) ?_
                  refine lv_if_ge (tgt := 189) hF.1 hF.2.1 dX12_judges_176 (by decide) (fun c176_27 => ?_) (fun c176_27 => ?_)
                  · refine lv_iload_n hF.1 hF.2.1 dX12_judges_189 rfl (lv_at hl 3 rfl) ?_
                    refine lv_istore_n (lv' := [(3, .int x3), (2, .int (x2 + r_22)), (0, .ref (E.2.2 1299)), (1, .int x), (4, .int x4), (5, .int x5), (6, .int x6)]) hF.1 hF.2.1 dX12_judges_190 rfl hl (by decide) rfl (fun ls hl => ?_)
                    refine lv_iinc (v := x6 + 1) (lv' := [(6, .int (x6 + 1)), (3, .int x3), (2, .int (x2 + r_22)), (0, .ref (E.2.2 1299)), (1, .int x), (4, .int x4), (5, .int x5)]) hF.1 hF.2.1 dX12_judges_191 hl (k := 6) rfl rfl (by decide) rfl (fun ls hl => ?_)
                    refine lv_goto (tgt := 31) hF.1 hF.2.1 dX12_judges_194 (by decide) ?_
                    exact ih (x2 + r_22) x3 x4 x5 (x6 + 1) u_20 _ _ _ hfr (g_X12_judges_v43 u x x3 x5 x6 r_12 hI h_1 h_b h_l h_r h_n c44_1 c54_8 c89_9 c132_16 c144_17 c172_26 c176_27) (g_X12_judges_v44 u x x3 x5 x6 r_12 hI h_1 h_b h_l h_r h_n c44_1 c54_8 c89_9 c132_16 c144_17 c172_26 c176_27) (g_X12_judges_v45 u x x3 x5 x6 r_12 hI h_1 h_b h_l h_r h_n c44_1 c54_8 c89_9 c132_16 c144_17 c172_26 c176_27) (g_X12_judges_v46 u x x3 x5 x6 r_12 hI h_1 h_b h_l h_r h_n c44_1 c54_8 c89_9 c132_16 c144_17 c172_26 c176_27) (Nat.lt_of_lt_of_le (g_X12_judges_v47 u x x3 x5 x6 r_12 hI h_1 h_b h_l h_r h_n c44_1 c54_8 c89_9 c132_16 c144_17 c172_26 c176_27) (Nat.lt_succ_iff.mp hmu)) hU hS (lv_sub hl [3, 4, 2, 1, 5, 6, 0] rfl)
                  · refine lv_aload_n hF.1 hF.2.1 dX12_judges_179 rfl (lv_at hl 1 rfl) ?_
                    refine q_get (v := .ref (E.2.2 1216)) hF hU dX12_judges_180 0 12 16 1216 1299 rfl rfl rfl rfl inX12 (by decide) (by decide) w_1348 rfl rfl ?_
                    refine lv_iload hF.1 hF.2.1 dX12_judges_183 (lv_at hl 6 rfl) ?_
                    refine q_iald (v := u.2.1 1216 (x6 : Int32).toNatClampNeg) hF hU dX12_judges_185 10 1216 rfl rfl (g_X12_judges_v48 u x x3 x5 x6 r_12 hI h_1 h_b h_l h_r h_n c44_1 c54_8 c89_9 c132_16 c144_17 c172_26 c176_27) (congrFun (hfr.2.1 1216 (by decide)) _) ?_
                    refine lv_goto (tgt := 190) hF.1 hF.2.1 dX12_judges_186 (by decide) ?_
                    refine lv_istore_n (lv' := [(3, .int (u.2.1 1216 (x6 : Int32).toNatClampNeg)), (2, .int (x2 + r_22)), (0, .ref (E.2.2 1299)), (1, .int x), (4, .int x4), (5, .int x5), (6, .int x6)]) hF.1 hF.2.1 dX12_judges_190 rfl hl (by decide) rfl (fun ls hl => ?_)
                    refine lv_iinc (v := x6 + 1) (lv' := [(6, .int (x6 + 1)), (3, .int (u.2.1 1216 (x6 : Int32).toNatClampNeg)), (2, .int (x2 + r_22)), (0, .ref (E.2.2 1299)), (1, .int x), (4, .int x4), (5, .int x5)]) hF.1 hF.2.1 dX12_judges_191 hl (k := 6) rfl rfl (by decide) rfl (fun ls hl => ?_)
                    refine lv_goto (tgt := 31) hF.1 hF.2.1 dX12_judges_194 (by decide) ?_
                    exact ih (x2 + r_22) (u.2.1 1216 (x6 : Int32).toNatClampNeg) x4 x5 (x6 + 1) u_20 _ _ _ hfr (g_X12_judges_v49 u x x3 x5 x6 r_12 hI h_1 h_b h_l h_r h_n c44_1 c54_8 c89_9 c132_16 c144_17 c172_26 c176_27) (g_X12_judges_v50 u x x3 x5 x6 r_12 hI h_1 h_b h_l h_r h_n c44_1 c54_8 c89_9 c132_16 c144_17 c172_26 c176_27) (g_X12_judges_v51 u x x3 x5 x6 r_12 hI h_1 h_b h_l h_r h_n c44_1 c54_8 c89_9 c132_16 c144_17 c172_26 c176_27) (g_X12_judges_v52 u x x3 x5 x6 r_12 hI h_1 h_b h_l h_r h_n c44_1 c54_8 c89_9 c132_16 c144_17 c172_26 c176_27) (Nat.lt_of_lt_of_le (g_X12_judges_v53 u x x3 x5 x6 r_12 hI h_1 h_b h_l h_r h_n c44_1 c54_8 c89_9 c132_16 c144_17 c172_26 c176_27) (Nat.lt_succ_iff.mp hmu)) hU hS (lv_sub hl [3, 4, 2, 1, 5, 6, 0] rfl)
          · refine lv_iload hF.1 hF.2.1 dX12_judges_92 (lv_at hl 4 rfl) ?_
            refine lv_if_ne (tgt := 111) hF.1 hF.2.1 dX12_judges_94 (by decide) (fun c94_28 => ?_) (fun c94_28 => ?_)
            · refine lv_iconst (v := 1) hF.1 hF.2.1 dX12_judges_111 (by decide) ?_
              refine lv_goto (tgt := 116) hF.1 hF.2.1 dX12_judges_112 (by decide) ?_
              refine lv_istore (lv' := [(4, .int 1), (0, .ref (E.2.2 1299)), (1, .int x), (2, .int x2), (3, .int x3), (5, .int x5), (6, .int x6)]) hF.1 hF.2.1 dX12_judges_116 hl (by decide) rfl (fun ls hl => ?_)
              refine lv_goto (tgt := 191) hF.1 hF.2.1 dX12_judges_118 (by decide) ?_
              refine lv_iinc (v := x6 + 1) (lv' := [(6, .int (x6 + 1)), (4, .int 1), (0, .ref (E.2.2 1299)), (1, .int x), (2, .int x2), (3, .int x3), (5, .int x5)]) hF.1 hF.2.1 dX12_judges_191 hl (k := 6) rfl rfl (by decide) rfl (fun ls hl => ?_)
              refine lv_goto (tgt := 31) hF.1 hF.2.1 dX12_judges_194 (by decide) ?_
              exact ih x2 x3 (1 : Int32) x5 (x6 + 1) uc _ _ _ hfr (g_X12_judges_v54 u x x4 x5 x6 hI h_1 h_b h_l h_r h_n c44_1 c54_8 c89_9 c94_28) (g_X12_judges_v55 u x x4 x5 x6 hI h_1 h_b h_l h_r h_n c44_1 c54_8 c89_9 c94_28) (g_X12_judges_v56 u x x4 x5 x6 hI h_1 h_b h_l h_r h_n c44_1 c54_8 c89_9 c94_28) (g_X12_judges_v57 u x x4 x5 x6 hI h_1 h_b h_l h_r h_n c44_1 c54_8 c89_9 c94_28) (Nat.lt_of_lt_of_le (g_X12_judges_v58 u x x4 x5 x6 hI h_1 h_b h_l h_r h_n c44_1 c54_8 c89_9 c94_28) (Nat.lt_succ_iff.mp hmu)) hU hS (lv_sub hl [2, 3, 4, 5, 1, 6, 0] rfl)
            · refine lv_aload_n hF.1 hF.2.1 dX12_judges_97 rfl (lv_at hl 0 rfl) ?_
              refine lv_aload_n hF.1 hF.2.1 dX12_judges_98 rfl (lv_at hl 0 rfl) ?_
              refine q_get (v := .ref (E.2.2 1217)) hF hU dX12_judges_99 0 12 17 1217 1299 rfl rfl rfl rfl inX12 (by decide) (by decide) w_1349 rfl rfl ?_
              refine lv_iload hF.1 hF.2.1 dX12_judges_102 (lv_at hl 6 rfl) ?_
              refine q_iald (v := u.2.1 1217 (x6 : Int32).toNatClampNeg) hF hU dX12_judges_104 11 1217 rfl rfl (g_X12_judges_v59 u x x4 x5 x6 hI h_1 h_b h_l h_r h_n c44_1 c54_8 c89_9 c94_28) (congrFun (hfr.2.1 1217 (by decide)) _) ?_
              have hM9 := g_X12_worth l E A uc (u.2.1 1217 (x6 : Int32).toNatClampNeg) (by rw [(hfr.2.1 1222 (by decide)), (hfr.2.1 1223 (by decide))]; exact (g_X12_judges_v60 u x x4 x5 x6 hI h_1 h_b h_l h_r h_n c44_1 c54_8 c89_9 c94_28))
              have hR9 := q_runV (l := l) (e := e0) (below := bl0) (meth := me0) (R := qR 2 0 0) (cells := 0) (slots := 0) (st0 := [.int (u.2.1 1217 (x6 : Int32).toNatClampNeg), .ref (E.2.2 1299)]) (rest := []) hF hU hS hA 1 0 12 1299 rfl rfl rfl hM9 w_1772 w_1774 w_80 w_107 w_1775 (by decide +kernel) ⟨Nat.le_of_ble_eq_true rfl, Nat.le_of_ble_eq_true rfl⟩ dX12_judges_105 rfl hl.1 rfl (Nat.le_of_ble_eq_true rfl) ⟨Nat.le_of_ble_eq_true rfl, Nat.le_of_ble_eq_true rfl⟩
              refine q_calli hR9 hU.2.2.2 hS (fun r_31 u_29 H locs hw_30 hU hS => ?_)
              have hw_30_f := hw_30.1
              have hfr : qFr [1228, 1229] [1226, 1227] [] u u_29 := hfr.trans (hw_30_f.mono (by decide) (by decide) (by decide))
              have hw_30 := hw_30.2
              have e_32 : u_29.1 1228 = (uc.1 1228) := (hw_30_f.1 1228 (by decide)).trans rfl
              have e_33 : u_29.1 1229 = (uc.1 1229) := (hw_30_f.1 1229 (by decide)).trans rfl
              have e_34 : u_29.2.1 1226 = (uc.2.1 1226) := (hw_30_f.2.1 1226 (by decide)).trans rfl
              refine lv_if_ne (tgt := 115) hF.1 hF.2.1 dX12_judges_108 (by decide) (fun c108_35 => ?_) (fun c108_35 => ?_)
              · refine lv_iconst (v := 0) hF.1 hF.2.1 dX12_judges_115 (by decide) ?_
                refine lv_istore (lv' := [(4, .int 0), (0, .ref (E.2.2 1299)), (1, .int x), (2, .int x2), (3, .int x3), (5, .int x5), (6, .int x6)]) hF.1 hF.2.1 dX12_judges_116 hl (by decide) rfl (fun ls hl => ?_)
                refine lv_goto (tgt := 191) hF.1 hF.2.1 dX12_judges_118 (by decide) ?_
                refine lv_iinc (v := x6 + 1) (lv' := [(6, .int (x6 + 1)), (4, .int 0), (0, .ref (E.2.2 1299)), (1, .int x), (2, .int x2), (3, .int x3), (5, .int x5)]) hF.1 hF.2.1 dX12_judges_191 hl (k := 6) rfl rfl (by decide) rfl (fun ls hl => ?_)
                refine lv_goto (tgt := 31) hF.1 hF.2.1 dX12_judges_194 (by decide) ?_
                exact ih x2 x3 (0 : Int32) x5 (x6 + 1) u_29 _ _ _ hfr (g_X12_judges_v61 u x x4 x5 x6 r_31 hI h_1 h_b h_l h_r h_n c44_1 c54_8 c89_9 c94_28 c108_35) (g_X12_judges_v62 u x x4 x5 x6 r_31 hI h_1 h_b h_l h_r h_n c44_1 c54_8 c89_9 c94_28 c108_35) (g_X12_judges_v63 u x x4 x5 x6 r_31 hI h_1 h_b h_l h_r h_n c44_1 c54_8 c89_9 c94_28 c108_35) (g_X12_judges_v64 u x x4 x5 x6 r_31 hI h_1 h_b h_l h_r h_n c44_1 c54_8 c89_9 c94_28 c108_35) (Nat.lt_of_lt_of_le (g_X12_judges_v65 u x x4 x5 x6 r_31 hI h_1 h_b h_l h_r h_n c44_1 c54_8 c89_9 c94_28 c108_35) (Nat.lt_succ_iff.mp hmu)) hU hS (lv_sub hl [2, 3, 4, 5, 1, 6, 0] rfl)
              · refine lv_iconst (v := 1) hF.1 hF.2.1 dX12_judges_111 (by decide) ?_
                refine lv_goto (tgt := 116) hF.1 hF.2.1 dX12_judges_112 (by decide) ?_
                refine lv_istore (lv' := [(4, .int 1), (0, .ref (E.2.2 1299)), (1, .int x), (2, .int x2), (3, .int x3), (5, .int x5), (6, .int x6)]) hF.1 hF.2.1 dX12_judges_116 hl (by decide) rfl (fun ls hl => ?_)
                refine lv_goto (tgt := 191) hF.1 hF.2.1 dX12_judges_118 (by decide) ?_
                refine lv_iinc (v := x6 + 1) (lv' := [(6, .int (x6 + 1)), (4, .int 1), (0, .ref (E.2.2 1299)), (1, .int x), (2, .int x2), (3, .int x3), (5, .int x5)]) hF.1 hF.2.1 dX12_judges_191 hl (k := 6) rfl rfl (by decide) rfl (fun ls hl => ?_)
                refine lv_goto (tgt := 31) hF.1 hF.2.1 dX12_judges_194 (by decide) ?_
                exact ih x2 x3 (1 : Int32) x5 (x6 + 1) u_29 _ _ _ hfr (g_X12_judges_v66 u x x4 x5 x6 r_31 hI h_1 h_b h_l h_r h_n c44_1 c54_8 c89_9 c94_28 c108_35) (g_X12_judges_v67 u x x4 x5 x6 r_31 hI h_1 h_b h_l h_r h_n c44_1 c54_8 c89_9 c94_28 c108_35) (g_X12_judges_v68 u x x4 x5 x6 r_31 hI h_1 h_b h_l h_r h_n c44_1 c54_8 c89_9 c94_28 c108_35) (g_X12_judges_v69 u x x4 x5 x6 r_31 hI h_1 h_b h_l h_r h_n c44_1 c54_8 c89_9 c94_28 c108_35) (Nat.lt_of_lt_of_le (g_X12_judges_v70 u x x4 x5 x6 r_31 hI h_1 h_b h_l h_r h_n c44_1 c54_8 c89_9 c94_28 c108_35) (Nat.lt_succ_iff.mp hmu)) hU hS (lv_sub hl [2, 3, 4, 5, 1, 6, 0] rfl)
        · refine lv_aload_n hF.1 hF.2.1 dX12_judges_57 rfl (lv_at hl 0 rfl) ?_
          refine q_get (v := .ref (E.2.2 1226)) hF hU dX12_judges_58 0 12 26 1226 1299 rfl rfl rfl rfl inX12 (by decide) (by decide) w_1358 rfl rfl ?_
          refine lv_iload hF.1 hF.2.1 dX12_judges_61 (lv_at hl 5 rfl) ?_
          refine lv_aload_n hF.1 hF.2.1 dX12_judges_63 rfl (lv_at hl 0 rfl) ?_
          refine lv_aload_n hF.1 hF.2.1 dX12_judges_64 rfl (lv_at hl 0 rfl) ?_
          refine q_get (v := .ref (E.2.2 1217)) hF hU dX12_judges_65 0 12 17 1217 1299 rfl rfl rfl rfl inX12 (by decide) (by decide) w_1349 rfl rfl ?_
          refine lv_iload hF.1 hF.2.1 dX12_judges_68 (lv_at hl 6 rfl) ?_
          refine q_iald (v := u.2.1 1217 (x6 : Int32).toNatClampNeg) hF hU dX12_judges_70 11 1217 rfl rfl (g_X12_judges_v71 u x x5 x6 hI h_1 h_b h_l h_r h_n c44_1 c54_8) (congrFun (hfr.2.1 1217 (by decide)) _) ?_
          have hM9 := g_X12_worth l E A uc (u.2.1 1217 (x6 : Int32).toNatClampNeg) (by rw [(hfr.2.1 1222 (by decide)), (hfr.2.1 1223 (by decide))]; exact (g_X12_judges_v72 u x x5 x6 hI h_1 h_b h_l h_r h_n c44_1 c54_8))
          have hR9 := q_runV (l := l) (e := e0) (below := bl0) (meth := me0) (R := qR 2 0 0) (cells := 0) (slots := 0) (st0 := [.int (u.2.1 1217 (x6 : Int32).toNatClampNeg), .ref (E.2.2 1299), .int x5, .ref (E.2.2 1226)]) (rest := [.int x5, .ref (E.2.2 1226)]) hF hU hS hA 1 0 12 1299 rfl rfl rfl hM9 w_1772 w_1774 w_80 w_107 w_1775 (by decide +kernel) ⟨Nat.le_of_ble_eq_true rfl, Nat.le_of_ble_eq_true rfl⟩ dX12_judges_71 rfl hl.1 rfl (Nat.le_of_ble_eq_true rfl) ⟨Nat.le_of_ble_eq_true rfl, Nat.le_of_ble_eq_true rfl⟩
          refine q_calli hR9 hU.2.2.2 hS (fun r_38 u_36 H locs hw_37 hU hS => ?_)
          have hw_37_f := hw_37.1
          have hfr : qFr [1228, 1229] [1226, 1227] [] u u_36 := hfr.trans (hw_37_f.mono (by decide) (by decide) (by decide))
          have hw_37 := hw_37.2
          have e_39 : u_36.1 1228 = (uc.1 1228) := (hw_37_f.1 1228 (by decide)).trans rfl
          have e_40 : u_36.1 1229 = (uc.1 1229) := (hw_37_f.1 1229 (by decide)).trans rfl
          have e_41 : u_36.2.1 1226 = (uc.2.1 1226) := (hw_37_f.2.1 1226 (by decide)).trans rfl
          refine q_iast hF hU hS dX12_judges_74 17 1226 rfl rfl (g_X12_judges_v73 u x x5 x6 hI h_1 h_b h_l h_r h_n c44_1 c54_8) (fun f_42 H locs hg9 hU hS => ?_)
          have hf_42 : f_42 = upd (uc.2.1 1226) (x5 : Int32).toNatClampNeg r_38 := by rw [e_41] at hg9; exact hg9
          have hfr : qFr [1228, 1229] [1226, 1227] [] u (qsF u_36 1226 f_42) := hfr.setF (by decide)
          refine lv_iinc (v := x5 + 1) (lv' := [(5, .int (x5 + 1)), (0, .ref (E.2.2 1299)), (1, .int x), (2, .int x2), (3, .int x3), (4, .int x4), (6, .int x6)]) hF.1 hF.2.1 dX12_judges_75 hl (k := 5) rfl rfl (by decide) rfl (fun ls hl => ?_)
          refine lv_goto (tgt := 191) hF.1 hF.2.1 dX12_judges_78 (by decide) ?_
          refine lv_iinc (v := x6 + 1) (lv' := [(6, .int (x6 + 1)), (5, .int (x5 + 1)), (0, .ref (E.2.2 1299)), (1, .int x), (2, .int x2), (3, .int x3), (4, .int x4)]) hF.1 hF.2.1 dX12_judges_191 hl (k := 6) rfl rfl (by decide) rfl (fun ls hl => ?_)
          refine lv_goto (tgt := 31) hF.1 hF.2.1 dX12_judges_194 (by decide) ?_
          exact ih x2 x3 x4 (x5 + 1) (x6 + 1) (qsF u_36 1226 f_42) _ _ _ hfr (g_X12_judges_v74 u x x5 x6 uc r_38 f_42 hI h_1 h_b h_l h_r h_n c44_1 c54_8 hf_42) (g_X12_judges_v75 u x x5 x6 uc r_38 f_42 hI h_1 h_b h_l h_r h_n c44_1 c54_8 hf_42) (g_X12_judges_v76 u x x5 x6 uc r_38 f_42 hI h_1 h_b h_l h_r h_n c44_1 c54_8 hf_42) (g_X12_judges_v77 u x x5 x6 uc r_38 f_42 hI h_1 h_b h_l h_r h_n c44_1 c54_8 hf_42) (Nat.lt_of_lt_of_le (g_X12_judges_v78 u x x5 x6 uc r_38 f_42 hI h_1 h_b h_l h_r h_n c44_1 c54_8 hf_42) (Nat.lt_succ_iff.mp hmu)) hU hS (lv_sub hl [2, 3, 4, 5, 6, 1, 0] rfl)
  refine lv_aload_n hF.1 hF.2.1 dX12_judges_0 rfl (lv_at hl 0 rfl) ?_
  refine lv_iconst (v := 0) hF.1 hF.2.1 dX12_judges_1 (by decide) ?_
  refine q_put hF hU hS dX12_judges_2 0 12 28 1228 1299 rfl rfl rfl rfl inX12 tyX12 tyX12_ok nmX12 (by decide) (by decide) rfl w_1360 rfl rfl rfl rfl (fun H locs hU hS => ?_)
  have hfr : qFr [1228, 1229] [1226, 1227] [] u (qsI u 1228 0) := hfr.setI (by decide)
  refine lv_aload_n hF.1 hF.2.1 dX12_judges_5 rfl (lv_at hl 0 rfl) ?_
  refine lv_iconst (v := 0) hF.1 hF.2.1 dX12_judges_6 (by decide) ?_
  refine q_put hF hU hS dX12_judges_7 0 12 29 1229 1299 rfl rfl rfl rfl inX12 tyX12 tyX12_ok nmX12 (by decide) (by decide) rfl w_1361 rfl rfl rfl rfl (fun H locs hU hS => ?_)
  have hfr : qFr [1228, 1229] [1226, 1227] [] u (qsI (qsI u 1228 0) 1229 0) := hfr.setI (by decide)
  refine lv_iload_n hF.1 hF.2.1 dX12_judges_10 rfl (lv_at hl 1 rfl) ?_
  refine lv_if_ge (tgt := 15) hF.1 hF.2.1 dX12_judges_11 (by decide) (fun c11_43 => ?_) (fun c11_43 => ?_)
  · refine lv_iconst (v := 0) hF.1 hF.2.1 dX12_judges_15 (by decide) ?_
    refine lv_istore_n (lv' := [(2, .int 0), (0, .ref (E.2.2 1299)), (1, .int x)]) hF.1 hF.2.1 dX12_judges_16 rfl hl (by decide) rfl (fun ls hl => ?_)
    refine lv_iconst (v := (-1)) hF.1 hF.2.1 dX12_judges_17 (by decide) ?_
    refine lv_istore_n (lv' := [(3, .int (-1)), (2, .int 0), (0, .ref (E.2.2 1299)), (1, .int x)]) hF.1 hF.2.1 dX12_judges_18 rfl hl (by decide) rfl (fun ls hl => ?_)
    refine lv_iconst (v := 0) hF.1 hF.2.1 dX12_judges_19 (by decide) ?_
    refine lv_istore (lv' := [(4, .int 0), (3, .int (-1)), (2, .int 0), (0, .ref (E.2.2 1299)), (1, .int x)]) hF.1 hF.2.1 dX12_judges_20 hl (by decide) rfl (fun ls hl => ?_)
    refine lv_iconst (v := 0) hF.1 hF.2.1 dX12_judges_22 (by decide) ?_
    refine lv_istore (lv' := [(5, .int 0), (4, .int 0), (3, .int (-1)), (2, .int 0), (0, .ref (E.2.2 1299)), (1, .int x)]) hF.1 hF.2.1 dX12_judges_23 hl (by decide) rfl (fun ls hl => ?_)
    refine lv_bipush (v := 16) hF.1 hF.2.1 dX12_judges_25 (by decide) ?_
    refine lv_iload_n hF.1 hF.2.1 dX12_judges_27 rfl (lv_at hl 5 rfl) ?_
    refine lv_imul hF.1 hF.2.1 dX12_judges_28 ?_
    refine lv_istore (lv' := [(6, .int (16 * x)), (5, .int 0), (4, .int 0), (3, .int (-1)), (2, .int 0), (0, .ref (E.2.2 1299)), (1, .int x)]) hF.1 hF.2.1 dX12_judges_29 hl (by decide) rfl (fun ls hl => ?_)
    exact (main _) (0 : Int32) ((-1) : Int32) (0 : Int32) (0 : Int32) (16 * x) (qsI (qsI u 1228 0) 1229 0) _ _ _ hfr (g_X12_judges_v79 u x hI h_1 c11_43) (g_X12_judges_v80 u x hI h_1 c11_43) (g_X12_judges_v81 u x hI h_1 c11_43) (g_X12_judges_v82 u x hI h_1 c11_43) (Nat.lt_succ_self _) hU hS (lv_sub hl [5, 6, 4, 3, 2, 1, 0] rfl)
  · exact q_vret hF hr hlocks hU hS dX12_judges_14 ⟨hfr, (g_X12_judges_v83 u x hI h_1 c11_43)⟩
set_option maxRecDepth 100000 in
theorem g_X12_doesDo_v0 (u : qS) (x2 : Int32) (ht : 0 ≤ u.1 1265 ∧ u.1 1265 ≤ 12) (h_i : 0 ≤ x2) (c7_1 : (u.1 1265) ≤ (x2 : Int32)) : (1 : Int32) = 1 ∨ (1 : Int32) = 0 := by
  first | omega | ((try simp only [Int32.lt_iff_toInt_lt, Int32.le_iff_toInt_le, ← Int32.toInt_inj, Int32.toInt_add, Int32.toInt_sub, Int32.toInt_mul, Int32.toInt_neg, Int32.reduceToInt, g_bm, g_bm'] at *); omega) | (simp only [Int32.lt_iff_toInt_lt, Int32.le_iff_toInt_le, ← Int32.toInt_inj, Int32.toInt_add, Int32.toInt_sub, Int32.toInt_mul, Int32.toInt_neg, Int32.reduceToInt, g_bm, g_bm'] at *; simp at *; omega) | (simp_all; done)
set_option maxRecDepth 100000 in
theorem g_X12_doesDo_v1 (u : qS) (x2 : Int32) (ht : 0 ≤ u.1 1265 ∧ u.1 1265 ≤ 12) (h_i : 0 ≤ x2) (c7_1 : ¬ (u.1 1265) ≤ (x2 : Int32)) : 0 ≤ x2 := by
  first | omega | ((try simp only [Int32.lt_iff_toInt_lt, Int32.le_iff_toInt_le, ← Int32.toInt_inj, Int32.toInt_add, Int32.toInt_sub, Int32.toInt_mul, Int32.toInt_neg, Int32.reduceToInt, g_bm, g_bm'] at *); omega) | (simp only [Int32.lt_iff_toInt_lt, Int32.le_iff_toInt_le, ← Int32.toInt_inj, Int32.toInt_add, Int32.toInt_sub, Int32.toInt_mul, Int32.toInt_neg, Int32.reduceToInt, g_bm, g_bm'] at *; simp at *; omega) | (simp_all; done)
set_option maxRecDepth 100000 in
theorem g_X12_doesDo_v2 (u : qS) (x2 : Int32) (ht : 0 ≤ u.1 1265 ∧ u.1 1265 ≤ 12) (h_i : 0 ≤ x2) (c7_1 : ¬ (u.1 1265) ≤ (x2 : Int32)) : x2 < u.1 1265 := by
  first | omega | ((try simp only [Int32.lt_iff_toInt_lt, Int32.le_iff_toInt_le, ← Int32.toInt_inj, Int32.toInt_add, Int32.toInt_sub, Int32.toInt_mul, Int32.toInt_neg, Int32.reduceToInt, g_bm, g_bm'] at *); omega) | (simp only [Int32.lt_iff_toInt_lt, Int32.le_iff_toInt_le, ← Int32.toInt_inj, Int32.toInt_add, Int32.toInt_sub, Int32.toInt_mul, Int32.toInt_neg, Int32.reduceToInt, g_bm, g_bm'] at *; simp at *; omega) | (simp_all; done)
set_option maxRecDepth 100000 in
theorem g_X12_doesDo_v3 (u : qS) (x2 : Int32) (ht : 0 ≤ u.1 1265 ∧ u.1 1265 ≤ 12) (h_i : 0 ≤ x2) (c7_1 : ¬ (u.1 1265) ≤ (x2 : Int32)) : 0 ≤ (0 : Int32) := by
  first | omega | ((try simp only [Int32.lt_iff_toInt_lt, Int32.le_iff_toInt_le, ← Int32.toInt_inj, Int32.toInt_add, Int32.toInt_sub, Int32.toInt_mul, Int32.toInt_neg, Int32.reduceToInt, g_bm, g_bm'] at *); omega) | (simp only [Int32.lt_iff_toInt_lt, Int32.le_iff_toInt_le, ← Int32.toInt_inj, Int32.toInt_add, Int32.toInt_sub, Int32.toInt_mul, Int32.toInt_neg, Int32.reduceToInt, g_bm, g_bm'] at *; simp at *; omega) | (simp_all; done)
set_option maxRecDepth 100000 in
theorem g_X12_doesDo_v4 (u : qS) (x2 : Int32) (ht : 0 ≤ u.1 1265 ∧ u.1 1265 ≤ 12) (h_i : 0 ≤ x2) (c7_1 : ¬ (u.1 1265) ≤ (x2 : Int32)) : ((u.1 1265).toInt - x2.toInt).toNat * 64 + (x2.toInt - (0 : Int32).toInt).toNat < ((u.1 1265).toInt - x2.toInt).toNat * 64 + 63 := by
  first | omega | ((try simp only [Int32.lt_iff_toInt_lt, Int32.le_iff_toInt_le, ← Int32.toInt_inj, Int32.toInt_add, Int32.toInt_sub, Int32.toInt_mul, Int32.toInt_neg, Int32.reduceToInt, g_bm, g_bm'] at *); omega) | (simp only [Int32.lt_iff_toInt_lt, Int32.le_iff_toInt_le, ← Int32.toInt_inj, Int32.toInt_add, Int32.toInt_sub, Int32.toInt_mul, Int32.toInt_neg, Int32.reduceToInt, g_bm, g_bm'] at *; simp at *; omega) | (simp_all; done)
set_option maxRecDepth 100000 in
theorem g_X12_doesDo_v5 (u : qS) (x2 : Int32) (x3 : Int32) (ht : 0 ≤ u.1 1265 ∧ u.1 1265 ≤ 12) (h_i : 0 ≤ x2) (h_j : x2 < u.1 1265) (h_k : 0 ≤ x3) (c14_2 : x2 ≤ (x3 : Int32)) : 0 ≤ (x2 + 1) := by
  first | omega | ((try simp only [Int32.lt_iff_toInt_lt, Int32.le_iff_toInt_le, ← Int32.toInt_inj, Int32.toInt_add, Int32.toInt_sub, Int32.toInt_mul, Int32.toInt_neg, Int32.reduceToInt, g_bm, g_bm'] at *); omega) | (simp only [Int32.lt_iff_toInt_lt, Int32.le_iff_toInt_le, ← Int32.toInt_inj, Int32.toInt_add, Int32.toInt_sub, Int32.toInt_mul, Int32.toInt_neg, Int32.reduceToInt, g_bm, g_bm'] at *; simp at *; omega) | (simp_all; done)
set_option maxRecDepth 100000 in
theorem g_X12_doesDo_v6 (u : qS) (x2 : Int32) (x3 : Int32) (ht : 0 ≤ u.1 1265 ∧ u.1 1265 ≤ 12) (h_i : 0 ≤ x2) (h_j : x2 < u.1 1265) (h_k : 0 ≤ x3) (c14_2 : x2 ≤ (x3 : Int32)) : ((u.1 1265).toInt - (x2 + 1).toInt).toNat * 64 + 63 < ((u.1 1265).toInt - x2.toInt).toNat * 64 + (x2.toInt - x3.toInt).toNat := by
  first | omega | ((try simp only [Int32.lt_iff_toInt_lt, Int32.le_iff_toInt_le, ← Int32.toInt_inj, Int32.toInt_add, Int32.toInt_sub, Int32.toInt_mul, Int32.toInt_neg, Int32.reduceToInt, g_bm, g_bm'] at *); omega) | (simp only [Int32.lt_iff_toInt_lt, Int32.le_iff_toInt_le, ← Int32.toInt_inj, Int32.toInt_add, Int32.toInt_sub, Int32.toInt_mul, Int32.toInt_neg, Int32.reduceToInt, g_bm, g_bm'] at *; simp at *; omega) | (simp_all; done)
set_option maxRecDepth 100000 in
theorem g_X12_doesDo_v7 (u : qS) (x2 : Int32) (x3 : Int32) (ht : 0 ≤ u.1 1265 ∧ u.1 1265 ≤ 12) (h_i : 0 ≤ x2) (h_j : x2 < u.1 1265) (h_k : 0 ≤ x3) (c14_2 : ¬ x2 ≤ (x3 : Int32)) : vp_in ((12 * x2) + x3) 144 := by
  have ez0 : (12 * x2 : Int32).toInt = (12 : Int32).toInt * (x2 : Int32).toInt := g_mul (by (try simp only [Int32.lt_iff_toInt_lt, Int32.le_iff_toInt_le, ← Int32.toInt_inj, Int32.reduceToInt] at *); omega) (by (try simp only [Int32.lt_iff_toInt_lt, Int32.le_iff_toInt_le, ← Int32.toInt_inj, Int32.reduceToInt] at *); omega)
  have ez1 : ((12 * x2) + x3 : Int32).toInt = (12 * x2 : Int32).toInt + (x3 : Int32).toInt := g_add (by (try simp only [Int32.lt_iff_toInt_lt, Int32.le_iff_toInt_le, ← Int32.toInt_inj, Int32.reduceToInt] at *); omega) (by (try simp only [Int32.lt_iff_toInt_lt, Int32.le_iff_toInt_le, ← Int32.toInt_inj, Int32.reduceToInt] at *); omega)
  refine g_in ?_ ?_ <;> ((try simp only [Int32.lt_iff_toInt_lt, Int32.le_iff_toInt_le, ← Int32.toInt_inj, Int32.reduceToInt] at *); omega)
set_option maxRecDepth 100000 in
theorem g_X12_doesDo_v8 (u : qS) (x2 : Int32) (x3 : Int32) (ht : 0 ≤ u.1 1265 ∧ u.1 1265 ≤ 12) (h_i : 0 ≤ x2) (h_j : x2 < u.1 1265) (h_k : 0 ≤ x3) (c14_2 : ¬ x2 ≤ (x3 : Int32)) (c28_3 : (u.2.1 1267 ((12 * x2) + x3 : Int32).toNatClampNeg : Int32) = 0) : 0 ≤ x2 := by
  first | omega | ((try simp only [Int32.lt_iff_toInt_lt, Int32.le_iff_toInt_le, ← Int32.toInt_inj, Int32.toInt_add, Int32.toInt_sub, Int32.toInt_mul, Int32.toInt_neg, Int32.reduceToInt, g_bm, g_bm'] at *); omega) | (simp only [Int32.lt_iff_toInt_lt, Int32.le_iff_toInt_le, ← Int32.toInt_inj, Int32.toInt_add, Int32.toInt_sub, Int32.toInt_mul, Int32.toInt_neg, Int32.reduceToInt, g_bm, g_bm'] at *; simp at *; omega) | (simp_all; done)
set_option maxRecDepth 100000 in
theorem g_X12_doesDo_v9 (u : qS) (x2 : Int32) (x3 : Int32) (ht : 0 ≤ u.1 1265 ∧ u.1 1265 ≤ 12) (h_i : 0 ≤ x2) (h_j : x2 < u.1 1265) (h_k : 0 ≤ x3) (c14_2 : ¬ x2 ≤ (x3 : Int32)) (c28_3 : (u.2.1 1267 ((12 * x2) + x3 : Int32).toNatClampNeg : Int32) = 0) : x2 < u.1 1265 := by
  first | omega | ((try simp only [Int32.lt_iff_toInt_lt, Int32.le_iff_toInt_le, ← Int32.toInt_inj, Int32.toInt_add, Int32.toInt_sub, Int32.toInt_mul, Int32.toInt_neg, Int32.reduceToInt, g_bm, g_bm'] at *); omega) | (simp only [Int32.lt_iff_toInt_lt, Int32.le_iff_toInt_le, ← Int32.toInt_inj, Int32.toInt_add, Int32.toInt_sub, Int32.toInt_mul, Int32.toInt_neg, Int32.reduceToInt, g_bm, g_bm'] at *; simp at *; omega) | (simp_all; done)
set_option maxRecDepth 100000 in
theorem g_X12_doesDo_v10 (u : qS) (x2 : Int32) (x3 : Int32) (ht : 0 ≤ u.1 1265 ∧ u.1 1265 ≤ 12) (h_i : 0 ≤ x2) (h_j : x2 < u.1 1265) (h_k : 0 ≤ x3) (c14_2 : ¬ x2 ≤ (x3 : Int32)) (c28_3 : (u.2.1 1267 ((12 * x2) + x3 : Int32).toNatClampNeg : Int32) = 0) : 0 ≤ (x3 + 1) := by
  first | omega | ((try simp only [Int32.lt_iff_toInt_lt, Int32.le_iff_toInt_le, ← Int32.toInt_inj, Int32.toInt_add, Int32.toInt_sub, Int32.toInt_mul, Int32.toInt_neg, Int32.reduceToInt, g_bm, g_bm'] at *); omega) | (simp only [Int32.lt_iff_toInt_lt, Int32.le_iff_toInt_le, ← Int32.toInt_inj, Int32.toInt_add, Int32.toInt_sub, Int32.toInt_mul, Int32.toInt_neg, Int32.reduceToInt, g_bm, g_bm'] at *; simp at *; omega) | (simp_all; done)
set_option maxRecDepth 100000 in
theorem g_X12_doesDo_v11 (u : qS) (x2 : Int32) (x3 : Int32) (ht : 0 ≤ u.1 1265 ∧ u.1 1265 ≤ 12) (h_i : 0 ≤ x2) (h_j : x2 < u.1 1265) (h_k : 0 ≤ x3) (c14_2 : ¬ x2 ≤ (x3 : Int32)) (c28_3 : (u.2.1 1267 ((12 * x2) + x3 : Int32).toNatClampNeg : Int32) = 0) : ((u.1 1265).toInt - x2.toInt).toNat * 64 + (x2.toInt - (x3 + 1).toInt).toNat < ((u.1 1265).toInt - x2.toInt).toNat * 64 + (x2.toInt - x3.toInt).toNat := by
  first | omega | ((try simp only [Int32.lt_iff_toInt_lt, Int32.le_iff_toInt_le, ← Int32.toInt_inj, Int32.toInt_add, Int32.toInt_sub, Int32.toInt_mul, Int32.toInt_neg, Int32.reduceToInt, g_bm, g_bm'] at *); omega) | (simp only [Int32.lt_iff_toInt_lt, Int32.le_iff_toInt_le, ← Int32.toInt_inj, Int32.toInt_add, Int32.toInt_sub, Int32.toInt_mul, Int32.toInt_neg, Int32.reduceToInt, g_bm, g_bm'] at *; simp at *; omega) | (simp_all; done)
set_option maxRecDepth 100000 in
theorem g_X12_doesDo_v12 (u : qS) (x : Int32) (x2 : Int32) (x3 : Int32) (ht : 0 ≤ u.1 1265 ∧ u.1 1265 ≤ 12) (h_i : 0 ≤ x2) (h_j : x2 < u.1 1265) (h_k : 0 ≤ x3) (c14_2 : ¬ x2 ≤ (x3 : Int32)) (c28_3 : ¬ (u.2.1 1267 ((12 * x2) + x3 : Int32).toNatClampNeg : Int32) = 0) (c36_4 : ¬ ((x >>> (x2 &&& 31)) &&& 1 : Int32) = 0) : 0 ≤ x2 := by
  first | omega | ((try simp only [Int32.lt_iff_toInt_lt, Int32.le_iff_toInt_le, ← Int32.toInt_inj, Int32.toInt_add, Int32.toInt_sub, Int32.toInt_mul, Int32.toInt_neg, Int32.reduceToInt, g_bm, g_bm'] at *); omega) | (simp only [Int32.lt_iff_toInt_lt, Int32.le_iff_toInt_le, ← Int32.toInt_inj, Int32.toInt_add, Int32.toInt_sub, Int32.toInt_mul, Int32.toInt_neg, Int32.reduceToInt, g_bm, g_bm'] at *; simp at *; omega) | (simp_all; done)
set_option maxRecDepth 100000 in
theorem g_X12_doesDo_v13 (u : qS) (x : Int32) (x2 : Int32) (x3 : Int32) (ht : 0 ≤ u.1 1265 ∧ u.1 1265 ≤ 12) (h_i : 0 ≤ x2) (h_j : x2 < u.1 1265) (h_k : 0 ≤ x3) (c14_2 : ¬ x2 ≤ (x3 : Int32)) (c28_3 : ¬ (u.2.1 1267 ((12 * x2) + x3 : Int32).toNatClampNeg : Int32) = 0) (c36_4 : ¬ ((x >>> (x2 &&& 31)) &&& 1 : Int32) = 0) : x2 < u.1 1265 := by
  first | omega | ((try simp only [Int32.lt_iff_toInt_lt, Int32.le_iff_toInt_le, ← Int32.toInt_inj, Int32.toInt_add, Int32.toInt_sub, Int32.toInt_mul, Int32.toInt_neg, Int32.reduceToInt, g_bm, g_bm'] at *); omega) | (simp only [Int32.lt_iff_toInt_lt, Int32.le_iff_toInt_le, ← Int32.toInt_inj, Int32.toInt_add, Int32.toInt_sub, Int32.toInt_mul, Int32.toInt_neg, Int32.reduceToInt, g_bm, g_bm'] at *; simp at *; omega) | (simp_all; done)
set_option maxRecDepth 100000 in
theorem g_X12_doesDo_v14 (u : qS) (x : Int32) (x2 : Int32) (x3 : Int32) (ht : 0 ≤ u.1 1265 ∧ u.1 1265 ≤ 12) (h_i : 0 ≤ x2) (h_j : x2 < u.1 1265) (h_k : 0 ≤ x3) (c14_2 : ¬ x2 ≤ (x3 : Int32)) (c28_3 : ¬ (u.2.1 1267 ((12 * x2) + x3 : Int32).toNatClampNeg : Int32) = 0) (c36_4 : ¬ ((x >>> (x2 &&& 31)) &&& 1 : Int32) = 0) : 0 ≤ (x3 + 1) := by
  first | omega | ((try simp only [Int32.lt_iff_toInt_lt, Int32.le_iff_toInt_le, ← Int32.toInt_inj, Int32.toInt_add, Int32.toInt_sub, Int32.toInt_mul, Int32.toInt_neg, Int32.reduceToInt, g_bm, g_bm'] at *); omega) | (simp only [Int32.lt_iff_toInt_lt, Int32.le_iff_toInt_le, ← Int32.toInt_inj, Int32.toInt_add, Int32.toInt_sub, Int32.toInt_mul, Int32.toInt_neg, Int32.reduceToInt, g_bm, g_bm'] at *; simp at *; omega) | (simp_all; done)
set_option maxRecDepth 100000 in
theorem g_X12_doesDo_v15 (u : qS) (x : Int32) (x2 : Int32) (x3 : Int32) (ht : 0 ≤ u.1 1265 ∧ u.1 1265 ≤ 12) (h_i : 0 ≤ x2) (h_j : x2 < u.1 1265) (h_k : 0 ≤ x3) (c14_2 : ¬ x2 ≤ (x3 : Int32)) (c28_3 : ¬ (u.2.1 1267 ((12 * x2) + x3 : Int32).toNatClampNeg : Int32) = 0) (c36_4 : ¬ ((x >>> (x2 &&& 31)) &&& 1 : Int32) = 0) : ((u.1 1265).toInt - x2.toInt).toNat * 64 + (x2.toInt - (x3 + 1).toInt).toNat < ((u.1 1265).toInt - x2.toInt).toNat * 64 + (x2.toInt - x3.toInt).toNat := by
  first | omega | ((try simp only [Int32.lt_iff_toInt_lt, Int32.le_iff_toInt_le, ← Int32.toInt_inj, Int32.toInt_add, Int32.toInt_sub, Int32.toInt_mul, Int32.toInt_neg, Int32.reduceToInt, g_bm, g_bm'] at *); omega) | (simp only [Int32.lt_iff_toInt_lt, Int32.le_iff_toInt_le, ← Int32.toInt_inj, Int32.toInt_add, Int32.toInt_sub, Int32.toInt_mul, Int32.toInt_neg, Int32.reduceToInt, g_bm, g_bm'] at *; simp at *; omega) | (simp_all; done)
set_option maxRecDepth 100000 in
theorem g_X12_doesDo_v16 (u : qS) (x : Int32) (x2 : Int32) (x3 : Int32) (ht : 0 ≤ u.1 1265 ∧ u.1 1265 ≤ 12) (h_i : 0 ≤ x2) (h_j : x2 < u.1 1265) (h_k : 0 ≤ x3) (c14_2 : ¬ x2 ≤ (x3 : Int32)) (c28_3 : ¬ (u.2.1 1267 ((12 * x2) + x3 : Int32).toNatClampNeg : Int32) = 0) (c36_4 : ((x >>> (x2 &&& 31)) &&& 1 : Int32) = 0) (c44_5 : ¬ ((x >>> (x3 &&& 31)) &&& 1 : Int32) = 0) : 0 ≤ x2 := by
  first | omega | ((try simp only [Int32.lt_iff_toInt_lt, Int32.le_iff_toInt_le, ← Int32.toInt_inj, Int32.toInt_add, Int32.toInt_sub, Int32.toInt_mul, Int32.toInt_neg, Int32.reduceToInt, g_bm, g_bm'] at *); omega) | (simp only [Int32.lt_iff_toInt_lt, Int32.le_iff_toInt_le, ← Int32.toInt_inj, Int32.toInt_add, Int32.toInt_sub, Int32.toInt_mul, Int32.toInt_neg, Int32.reduceToInt, g_bm, g_bm'] at *; simp at *; omega) | (simp_all; done)
set_option maxRecDepth 100000 in
theorem g_X12_doesDo_v17 (u : qS) (x : Int32) (x2 : Int32) (x3 : Int32) (ht : 0 ≤ u.1 1265 ∧ u.1 1265 ≤ 12) (h_i : 0 ≤ x2) (h_j : x2 < u.1 1265) (h_k : 0 ≤ x3) (c14_2 : ¬ x2 ≤ (x3 : Int32)) (c28_3 : ¬ (u.2.1 1267 ((12 * x2) + x3 : Int32).toNatClampNeg : Int32) = 0) (c36_4 : ((x >>> (x2 &&& 31)) &&& 1 : Int32) = 0) (c44_5 : ¬ ((x >>> (x3 &&& 31)) &&& 1 : Int32) = 0) : x2 < u.1 1265 := by
  first | omega | ((try simp only [Int32.lt_iff_toInt_lt, Int32.le_iff_toInt_le, ← Int32.toInt_inj, Int32.toInt_add, Int32.toInt_sub, Int32.toInt_mul, Int32.toInt_neg, Int32.reduceToInt, g_bm, g_bm'] at *); omega) | (simp only [Int32.lt_iff_toInt_lt, Int32.le_iff_toInt_le, ← Int32.toInt_inj, Int32.toInt_add, Int32.toInt_sub, Int32.toInt_mul, Int32.toInt_neg, Int32.reduceToInt, g_bm, g_bm'] at *; simp at *; omega) | (simp_all; done)
set_option maxRecDepth 100000 in
theorem g_X12_doesDo_v18 (u : qS) (x : Int32) (x2 : Int32) (x3 : Int32) (ht : 0 ≤ u.1 1265 ∧ u.1 1265 ≤ 12) (h_i : 0 ≤ x2) (h_j : x2 < u.1 1265) (h_k : 0 ≤ x3) (c14_2 : ¬ x2 ≤ (x3 : Int32)) (c28_3 : ¬ (u.2.1 1267 ((12 * x2) + x3 : Int32).toNatClampNeg : Int32) = 0) (c36_4 : ((x >>> (x2 &&& 31)) &&& 1 : Int32) = 0) (c44_5 : ¬ ((x >>> (x3 &&& 31)) &&& 1 : Int32) = 0) : 0 ≤ (x3 + 1) := by
  first | omega | ((try simp only [Int32.lt_iff_toInt_lt, Int32.le_iff_toInt_le, ← Int32.toInt_inj, Int32.toInt_add, Int32.toInt_sub, Int32.toInt_mul, Int32.toInt_neg, Int32.reduceToInt, g_bm, g_bm'] at *); omega) | (simp only [Int32.lt_iff_toInt_lt, Int32.le_iff_toInt_le, ← Int32.toInt_inj, Int32.toInt_add, Int32.toInt_sub, Int32.toInt_mul, Int32.toInt_neg, Int32.reduceToInt, g_bm, g_bm'] at *; simp at *; omega) | (simp_all; done)
set_option maxRecDepth 100000 in
theorem g_X12_doesDo_v19 (u : qS) (x : Int32) (x2 : Int32) (x3 : Int32) (ht : 0 ≤ u.1 1265 ∧ u.1 1265 ≤ 12) (h_i : 0 ≤ x2) (h_j : x2 < u.1 1265) (h_k : 0 ≤ x3) (c14_2 : ¬ x2 ≤ (x3 : Int32)) (c28_3 : ¬ (u.2.1 1267 ((12 * x2) + x3 : Int32).toNatClampNeg : Int32) = 0) (c36_4 : ((x >>> (x2 &&& 31)) &&& 1 : Int32) = 0) (c44_5 : ¬ ((x >>> (x3 &&& 31)) &&& 1 : Int32) = 0) : ((u.1 1265).toInt - x2.toInt).toNat * 64 + (x2.toInt - (x3 + 1).toInt).toNat < ((u.1 1265).toInt - x2.toInt).toNat * 64 + (x2.toInt - x3.toInt).toNat := by
  first | omega | ((try simp only [Int32.lt_iff_toInt_lt, Int32.le_iff_toInt_le, ← Int32.toInt_inj, Int32.toInt_add, Int32.toInt_sub, Int32.toInt_mul, Int32.toInt_neg, Int32.reduceToInt, g_bm, g_bm'] at *); omega) | (simp only [Int32.lt_iff_toInt_lt, Int32.le_iff_toInt_le, ← Int32.toInt_inj, Int32.toInt_add, Int32.toInt_sub, Int32.toInt_mul, Int32.toInt_neg, Int32.reduceToInt, g_bm, g_bm'] at *; simp at *; omega) | (simp_all; done)
set_option maxRecDepth 100000 in
theorem g_X12_doesDo_v20 (u : qS) (x : Int32) (x2 : Int32) (x3 : Int32) (ht : 0 ≤ u.1 1265 ∧ u.1 1265 ≤ 12) (h_i : 0 ≤ x2) (h_j : x2 < u.1 1265) (h_k : 0 ≤ x3) (c14_2 : ¬ x2 ≤ (x3 : Int32)) (c28_3 : ¬ (u.2.1 1267 ((12 * x2) + x3 : Int32).toNatClampNeg : Int32) = 0) (c36_4 : ((x >>> (x2 &&& 31)) &&& 1 : Int32) = 0) (c44_5 : ((x >>> (x3 &&& 31)) &&& 1 : Int32) = 0) : (0 : Int32) = 1 ∨ (0 : Int32) = 0 := by
  first | omega | ((try simp only [Int32.lt_iff_toInt_lt, Int32.le_iff_toInt_le, ← Int32.toInt_inj, Int32.toInt_add, Int32.toInt_sub, Int32.toInt_mul, Int32.toInt_neg, Int32.reduceToInt, g_bm, g_bm'] at *); omega) | (simp only [Int32.lt_iff_toInt_lt, Int32.le_iff_toInt_le, ← Int32.toInt_inj, Int32.toInt_add, Int32.toInt_sub, Int32.toInt_mul, Int32.toInt_neg, Int32.reduceToInt, g_bm, g_bm'] at *; simp at *; omega) | (simp_all; done)
set_option maxRecDepth 100000 in
theorem g_X12_doesDo_v21 (u : qS) (ht : 0 ≤ u.1 1265 ∧ u.1 1265 ≤ 12) : 0 ≤ (0 : Int32) := by
  first | omega | ((try simp only [Int32.lt_iff_toInt_lt, Int32.le_iff_toInt_le, ← Int32.toInt_inj, Int32.toInt_add, Int32.toInt_sub, Int32.toInt_mul, Int32.toInt_neg, Int32.reduceToInt, g_bm, g_bm'] at *); omega) | (simp only [Int32.lt_iff_toInt_lt, Int32.le_iff_toInt_le, ← Int32.toInt_inj, Int32.toInt_add, Int32.toInt_sub, Int32.toInt_mul, Int32.toInt_neg, Int32.reduceToInt, g_bm, g_bm'] at *; simp at *; omega) | (simp_all; done)
set_option maxHeartbeats 1000000 in
set_option maxRecDepth 100000 in
theorem g_X12_doesDo (l : Launch) (E : qE) (A : Nat → Prop) (u : qS) (x : Int32) (ht : 0 ≤ u.1 1265 ∧ u.1 1265 ≤ 12) : Met l yX12_doesDo (uws yX12_doesDo cX12_doesDo 4 (some .boolean)) (qR 0 0 0) (qPc E A 1 u [.ref (E.2.2 1299), .int x]) (qQi E A 1 (fun r u1 => u1 = u ∧ (r = 1 ∨ r = 0))) 0 0 A := by
  refine q_met (own := RX12) (f := 0) [.ref (E.2.2 1299), .int x] (by decide) (Nat.le_of_ble_eq_true rfl) rfl ?_
  intro p0 e0 s0 m0 bl0 me0 cd0 ls hF hr hlocks hU hS hA hl
  have hl : lv_has ls 4 [(0, .ref (E.2.2 1299)), (1, .int x)] := hl
  have main : ∀ n : Nat, (∀ (x2 : Int32) (uc : qS) (H : Heap) (locs : List Loc) (ls : Array Slot) (huc : u = uc) (h_i : 0 ≤ x2), ((u.1 1265).toInt - x2.toInt).toNat * 64 + 63 < n → qH E A 1 uc s0 H → va_S A s0.heap H locs → lv_has ls 4 [(0, .ref (E.2.2 1299)), (1, .int x), (2, .int x2)] → W p0 l e0 (qR 0 0 0) s0 m0 ([.ref (E.2.2 1299), .int x] : List Value).toArray bl0 me0 cd0 H locs 0 0 (MQ bl0 (qQi E A 1 (fun r u1 => u1 = u ∧ (r = 1 ∨ r = 0))) ([.ref (E.2.2 1299), .int x] : List Value).toArray s0 0 0 A) (F0 m0 2 ls [])) ∧ (∀ (x2 : Int32) (x3 : Int32) (uc : qS) (H : Heap) (locs : List Loc) (ls : Array Slot) (huc : u = uc) (h_i : 0 ≤ x2) (h_j : x2 < u.1 1265) (h_k : 0 ≤ x3), ((u.1 1265).toInt - x2.toInt).toNat * 64 + (x2.toInt - x3.toInt).toNat < n → qH E A 1 uc s0 H → va_S A s0.heap H locs → lv_has ls 4 [(0, .ref (E.2.2 1299)), (1, .int x), (2, .int x2), (3, .int x3)] → W p0 l e0 (qR 0 0 0) s0 m0 ([.ref (E.2.2 1299), .int x] : List Value).toArray bl0 me0 cd0 H locs 0 0 (MQ bl0 (qQi E A 1 (fun r u1 => u1 = u ∧ (r = 1 ∨ r = 0))) ([.ref (E.2.2 1299), .int x] : List Value).toArray s0 0 0 A) (F0 m0 12 ls [])) := by
    intro n
    induction n with
    | zero => exact ⟨fun _ _ _ _ _ _ _ hmu => absurd hmu (Nat.not_lt_zero _), fun _ _ _ _ _ _ _ _ _ _ hmu => absurd hmu (Nat.not_lt_zero _)⟩
    | succ n ih =>
      refine ⟨?_, ?_⟩
      · intro x2 uc H locs ls huc h_i hmu hU hS hl
        subst huc
        refine lv_iload_n hF.1 hF.2.1 dX12_doesDo_2 rfl (lv_at hl 2 rfl) ?_
        refine lv_aload_n hF.1 hF.2.1 dX12_doesDo_3 rfl (lv_at hl 0 rfl) ?_
        refine q_get (v := .int (u.1 1265)) hF hU dX12_doesDo_4 0 12 65 1265 1299 rfl rfl rfl rfl inX12 (by decide) (by decide) w_1397 rfl rfl ?_
        refine lv_icmp_ge (tgt := 61) hF.1 hF.2.1 dX12_doesDo_7 (by decide) (fun c7_1 => ?_) (fun c7_1 => ?_)
        · refine lv_iconst (v := 1) hF.1 hF.2.1 dX12_doesDo_61 (by decide) ?_
          exact q_iret hF hr (by decide) hlocks hU hS dX12_doesDo_62 ⟨rfl, (g_X12_doesDo_v0 u x2 ht h_i c7_1)⟩
        · refine lv_iconst (v := 0) hF.1 hF.2.1 dX12_doesDo_10 (by decide) ?_
          refine lv_istore_n (lv' := [(3, .int 0), (0, .ref (E.2.2 1299)), (1, .int x), (2, .int x2)]) hF.1 hF.2.1 dX12_doesDo_11 rfl hl (by decide) rfl (fun ls hl => ?_)
          exact ih.2 x2 (0 : Int32) u _ _ _ rfl (g_X12_doesDo_v1 u x2 ht h_i c7_1) (g_X12_doesDo_v2 u x2 ht h_i c7_1) (g_X12_doesDo_v3 u x2 ht h_i c7_1) (Nat.lt_of_lt_of_le (g_X12_doesDo_v4 u x2 ht h_i c7_1) (Nat.lt_succ_iff.mp hmu)) hU hS (lv_sub hl [1, 2, 3, 0] rfl)
      · intro x2 x3 uc H locs ls huc h_i h_j h_k hmu hU hS hl
        subst huc
        refine lv_iload_n hF.1 hF.2.1 dX12_doesDo_12 rfl (lv_at hl 3 rfl) ?_
        refine lv_iload_n hF.1 hF.2.1 dX12_doesDo_13 rfl (lv_at hl 2 rfl) ?_
        refine lv_icmp_ge (tgt := 55) hF.1 hF.2.1 dX12_doesDo_14 (by decide) (fun c14_2 => ?_) (fun c14_2 => ?_)
        · refine lv_iinc (v := x2 + 1) (lv' := [(2, .int (x2 + 1)), (0, .ref (E.2.2 1299)), (1, .int x), (3, .int x3)]) hF.1 hF.2.1 dX12_doesDo_55 hl (k := 2) rfl rfl (by decide) rfl (fun ls hl => ?_)
          refine lv_goto (tgt := 2) hF.1 hF.2.1 dX12_doesDo_58 (by decide) ?_
          exact ih.1 (x2 + 1) u _ _ _ rfl (g_X12_doesDo_v5 u x2 x3 ht h_i h_j h_k c14_2) (Nat.lt_of_lt_of_le (g_X12_doesDo_v6 u x2 x3 ht h_i h_j h_k c14_2) (Nat.lt_succ_iff.mp hmu)) hU hS (lv_sub hl [1, 2, 0] rfl)
        · refine lv_aload_n hF.1 hF.2.1 dX12_doesDo_17 rfl (lv_at hl 0 rfl) ?_
          refine q_get (v := .ref (E.2.2 1267)) hF hU dX12_doesDo_18 0 12 67 1267 1299 rfl rfl rfl rfl inX12 (by decide) (by decide) w_1399 rfl rfl ?_
          refine lv_bipush (v := 12) hF.1 hF.2.1 dX12_doesDo_21 (by decide) ?_
          refine lv_iload_n hF.1 hF.2.1 dX12_doesDo_23 rfl (lv_at hl 2 rfl) ?_
          refine lv_imul hF.1 hF.2.1 dX12_doesDo_24 ?_
          refine lv_iload_n hF.1 hF.2.1 dX12_doesDo_25 rfl (lv_at hl 3 rfl) ?_
          refine lv_iadd hF.1 hF.2.1 dX12_doesDo_26 ?_
          refine q_zald (v := u.2.1 1267 ((12 * x2) + x3 : Int32).toNatClampNeg) hF hU dX12_doesDo_27 43 1267 rfl rfl (g_X12_doesDo_v7 u x2 x3 ht h_i h_j h_k c14_2) rfl ?_
          refine lv_if_eq (tgt := 49) hF.1 hF.2.1 dX12_doesDo_28 (by decide) (fun c28_3 => ?_) (fun c28_3 => ?_)
          · refine lv_iinc (v := x3 + 1) (lv' := [(3, .int (x3 + 1)), (0, .ref (E.2.2 1299)), (1, .int x), (2, .int x2)]) hF.1 hF.2.1 dX12_doesDo_49 hl (k := 3) rfl rfl (by decide) rfl (fun ls hl => ?_)
            refine lv_goto (tgt := 12) hF.1 hF.2.1 dX12_doesDo_52 (by decide) ?_
            exact ih.2 x2 (x3 + 1) u _ _ _ rfl (g_X12_doesDo_v8 u x2 x3 ht h_i h_j h_k c14_2 c28_3) (g_X12_doesDo_v9 u x2 x3 ht h_i h_j h_k c14_2 c28_3) (g_X12_doesDo_v10 u x2 x3 ht h_i h_j h_k c14_2 c28_3) (Nat.lt_of_lt_of_le (g_X12_doesDo_v11 u x2 x3 ht h_i h_j h_k c14_2 c28_3) (Nat.lt_succ_iff.mp hmu)) hU hS (lv_sub hl [1, 2, 3, 0] rfl)
          · refine lv_iload_n hF.1 hF.2.1 dX12_doesDo_31 rfl (lv_at hl 1 rfl) ?_
            refine lv_iload_n hF.1 hF.2.1 dX12_doesDo_32 rfl (lv_at hl 2 rfl) ?_
            refine lv_ishr hF.1 hF.2.1 dX12_doesDo_33 ?_
            refine lv_iconst (v := 1) hF.1 hF.2.1 dX12_doesDo_34 (by decide) ?_
            refine lv_iand hF.1 hF.2.1 dX12_doesDo_35 ?_
            refine lv_if_ne (tgt := 49) hF.1 hF.2.1 dX12_doesDo_36 (by decide) (fun c36_4 => ?_) (fun c36_4 => ?_)
            · refine lv_iinc (v := x3 + 1) (lv' := [(3, .int (x3 + 1)), (0, .ref (E.2.2 1299)), (1, .int x), (2, .int x2)]) hF.1 hF.2.1 dX12_doesDo_49 hl (k := 3) rfl rfl (by decide) rfl (fun ls hl => ?_)
              refine lv_goto (tgt := 12) hF.1 hF.2.1 dX12_doesDo_52 (by decide) ?_
              exact ih.2 x2 (x3 + 1) u _ _ _ rfl (g_X12_doesDo_v12 u x x2 x3 ht h_i h_j h_k c14_2 c28_3 c36_4) (g_X12_doesDo_v13 u x x2 x3 ht h_i h_j h_k c14_2 c28_3 c36_4) (g_X12_doesDo_v14 u x x2 x3 ht h_i h_j h_k c14_2 c28_3 c36_4) (Nat.lt_of_lt_of_le (g_X12_doesDo_v15 u x x2 x3 ht h_i h_j h_k c14_2 c28_3 c36_4) (Nat.lt_succ_iff.mp hmu)) hU hS (lv_sub hl [1, 2, 3, 0] rfl)
            · refine lv_iload_n hF.1 hF.2.1 dX12_doesDo_39 rfl (lv_at hl 1 rfl) ?_
              refine lv_iload_n hF.1 hF.2.1 dX12_doesDo_40 rfl (lv_at hl 3 rfl) ?_
              refine lv_ishr hF.1 hF.2.1 dX12_doesDo_41 ?_
              refine lv_iconst (v := 1) hF.1 hF.2.1 dX12_doesDo_42 (by decide) ?_
              refine lv_iand hF.1 hF.2.1 dX12_doesDo_43 ?_
              refine lv_if_ne (tgt := 49) hF.1 hF.2.1 dX12_doesDo_44 (by decide) (fun c44_5 => ?_) (fun c44_5 => ?_)
              · refine lv_iinc (v := x3 + 1) (lv' := [(3, .int (x3 + 1)), (0, .ref (E.2.2 1299)), (1, .int x), (2, .int x2)]) hF.1 hF.2.1 dX12_doesDo_49 hl (k := 3) rfl rfl (by decide) rfl (fun ls hl => ?_)
                refine lv_goto (tgt := 12) hF.1 hF.2.1 dX12_doesDo_52 (by decide) ?_
                exact ih.2 x2 (x3 + 1) u _ _ _ rfl (g_X12_doesDo_v16 u x x2 x3 ht h_i h_j h_k c14_2 c28_3 c36_4 c44_5) (g_X12_doesDo_v17 u x x2 x3 ht h_i h_j h_k c14_2 c28_3 c36_4 c44_5) (g_X12_doesDo_v18 u x x2 x3 ht h_i h_j h_k c14_2 c28_3 c36_4 c44_5) (Nat.lt_of_lt_of_le (g_X12_doesDo_v19 u x x2 x3 ht h_i h_j h_k c14_2 c28_3 c36_4 c44_5) (Nat.lt_succ_iff.mp hmu)) hU hS (lv_sub hl [1, 2, 3, 0] rfl)
              · refine lv_iconst (v := 0) hF.1 hF.2.1 dX12_doesDo_47 (by decide) ?_
                exact q_iret hF hr (by decide) hlocks hU hS dX12_doesDo_48 ⟨rfl, (g_X12_doesDo_v20 u x x2 x3 ht h_i h_j h_k c14_2 c28_3 c36_4 c44_5)⟩
  refine lv_iconst (v := 0) hF.1 hF.2.1 dX12_doesDo_0 (by decide) ?_
  refine lv_istore_n (lv' := [(2, .int 0), (0, .ref (E.2.2 1299)), (1, .int x)]) hF.1 hF.2.1 dX12_doesDo_1 rfl hl (by decide) rfl (fun ls hl => ?_)
  exact (main _).1 (0 : Int32) u _ _ _ rfl (g_X12_doesDo_v21 u ht) (Nat.lt_succ_self _) hU hS (lv_sub hl [1, 2, 0] rfl)
