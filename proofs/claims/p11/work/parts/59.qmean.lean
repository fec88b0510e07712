set_option maxRecDepth 100000 in
theorem g_X12_isMeeting_f_v0 (u : qS) (x : Int32) (y : Int32) (k : qS) (hI : IM u) (hk : IK k u) (hfi : f_fi k (u.2.1 1264)) : f_fi k ((u.2.1 1264)) := by
  first | omega | ((try simp only [g_m1, Int32.lt_iff_toInt_lt, Int32.le_iff_toInt_le, ← Int32.toInt_inj, Int32.reduceToInt] at *); omega) | ((try simp only [g_m1, Int32.lt_iff_toInt_lt, Int32.le_iff_toInt_le, ← Int32.toInt_inj, Int32.reduceToInt] at *); omega) | ((try simp only [g_m1, Int32.lt_iff_toInt_lt, Int32.le_iff_toInt_le, ← Int32.toInt_inj, Int32.toInt_add, Int32.toInt_sub, Int32.toInt_mul, Int32.toInt_neg, Int32.reduceToInt, g_bm, g_bm'] at *); omega) | (have qr1 := g_rng x; have qr2 := g_rng y; (try simp only [g_m1, Int32.lt_iff_toInt_lt, Int32.le_iff_toInt_le, ← Int32.toInt_inj, Int32.toInt_add, Int32.toInt_sub, Int32.toInt_mul, Int32.toInt_neg, Int32.reduceToInt, g_bm, g_bm'] at *); omega) | (simp only [g_m1, Int32.lt_iff_toInt_lt, Int32.le_iff_toInt_le, ← Int32.toInt_inj, Int32.toInt_add, Int32.toInt_sub, Int32.toInt_mul, Int32.toInt_neg, Int32.reduceToInt, g_bm, g_bm'] at *; simp at *; omega) | (simp_all; done)
set_option maxRecDepth 100000 in
theorem g_X12_isMeeting_f_v1 (u : qS) (x : Int32) (y : Int32) (k : qS) (hI : IM u) (hk : IK k u) (hfi : f_fi k (u.2.1 1264)) (b2_4 : f_co k x) : f_fi k ((u.2.1 1264)) := by
  first | omega | ((try simp only [g_m1, Int32.lt_iff_toInt_lt, Int32.le_iff_toInt_le, ← Int32.toInt_inj, Int32.reduceToInt] at *); omega) | ((try simp only [g_m1, Int32.lt_iff_toInt_lt, Int32.le_iff_toInt_le, ← Int32.toInt_inj, Int32.reduceToInt] at *); omega) | ((try simp only [g_m1, Int32.lt_iff_toInt_lt, Int32.le_iff_toInt_le, ← Int32.toInt_inj, Int32.toInt_add, Int32.toInt_sub, Int32.toInt_mul, Int32.toInt_neg, Int32.reduceToInt, g_bm, g_bm'] at *); omega) | (have qr1 := g_rng x; have qr2 := g_rng y; (try simp only [g_m1, Int32.lt_iff_toInt_lt, Int32.le_iff_toInt_le, ← Int32.toInt_inj, Int32.toInt_add, Int32.toInt_sub, Int32.toInt_mul, Int32.toInt_neg, Int32.reduceToInt, g_bm, g_bm'] at *); omega) | (simp only [g_m1, Int32.lt_iff_toInt_lt, Int32.le_iff_toInt_le, ← Int32.toInt_inj, Int32.toInt_add, Int32.toInt_sub, Int32.toInt_mul, Int32.toInt_neg, Int32.reduceToInt, g_bm, g_bm'] at *; simp at *; omega) | (simp_all; done)
set_option maxRecDepth 100000 in
theorem g_X12_isMeeting_f_v2 (u : qS) (x : Int32) (y : Int32) (k : qS) (hI : IM u) (hk : IK k u) (hfi : f_fi k (u.2.1 1264)) (b2_4 : f_co k x) (b10_8 : f_co k y) : vp_in (x) 120 := by
  have qa := (by assumption : f_co k x).1.1
  rw [← hk.i 1247 (by decide)] at qa
  clear hfi; have q8 := hI.1.s1247; refine g_in ?_ ?_ <;> ((try simp only [g_m1, Int32.lt_iff_toInt_lt, Int32.le_iff_toInt_le, ← Int32.toInt_inj, Int32.reduceToInt] at *); omega)
set_option maxRecDepth 100000 in
theorem g_X12_isMeeting_f_v3 (u : qS) (x : Int32) (y : Int32) (k : qS) (hI : IM u) (hk : IK k u) (hfi : f_fi k (u.2.1 1264)) (b2_4 : f_co k x) (b10_8 : f_co k y) : 0 ≤ x ∧ x < u.1 1247 := by
  have hz1247 := hI.1.s1247
  have qa := (by assumption : f_co k x).1.1
  rw [← hk.i 1247 (by decide)] at qa
  clear hfi; exact qa
set_option maxRecDepth 100000 in
theorem g_X12_isMeeting_f_v4 (u : qS) (x : Int32) (y : Int32) (k : qS) (hI : IM u) (hk : IK k u) (hfi : f_fi k (u.2.1 1264)) (b2_4 : f_co k x) (b10_8 : f_co k y) (hb_9 : 0 ≤ (u.2.1 1248 (x : Int32).toNatClampNeg) ∧ (u.2.1 1248 (x : Int32).toNatClampNeg) < u.1 1232) (hs_10 : 0 ≤ u.1 1232 ∧ u.1 1232 ≤ 20) : vp_in (y) 120 := by
  have qa := (by assumption : f_co k y).1.1
  rw [← hk.i 1247 (by decide)] at qa
  clear hfi; have q8 := hI.1.s1247; refine g_in ?_ ?_ <;> ((try simp only [g_m1, Int32.lt_iff_toInt_lt, Int32.le_iff_toInt_le, ← Int32.toInt_inj, Int32.reduceToInt] at *); omega)
set_option maxRecDepth 100000 in
theorem g_X12_isMeeting_f_v5 (u : qS) (x : Int32) (y : Int32) (k : qS) (hI : IM u) (hk : IK k u) (hfi : f_fi k (u.2.1 1264)) (b2_4 : f_co k x) (b10_8 : f_co k y) (hb_9 : 0 ≤ (u.2.1 1248 (x : Int32).toNatClampNeg) ∧ (u.2.1 1248 (x : Int32).toNatClampNeg) < u.1 1232) (hs_10 : 0 ≤ u.1 1232 ∧ u.1 1232 ≤ 20) : 0 ≤ y ∧ y < u.1 1247 := by
  have hz1247 := hI.1.s1247
  have qa := (by assumption : f_co k y).1.1
  rw [← hk.i 1247 (by decide)] at qa
  clear hfi; exact qa
set_option maxRecDepth 100000 in
theorem g_X12_isMeeting_f_v6 (u : qS) (x : Int32) (y : Int32) (k : qS) (hI : IM u) (hk : IK k u) (hfi : f_fi k (u.2.1 1264)) (b2_4 : f_co k x) (b10_8 : f_co k y) (hb_9 : 0 ≤ (u.2.1 1248 (x : Int32).toNatClampNeg) ∧ (u.2.1 1248 (x : Int32).toNatClampNeg) < u.1 1232) (hs_10 : 0 ≤ u.1 1232 ∧ u.1 1232 ≤ 20) (hb_11 : 0 ≤ (u.2.1 1248 (y : Int32).toNatClampNeg) ∧ (u.2.1 1248 (y : Int32).toNatClampNeg) < u.1 1232) (c28_12 : ¬ (u.2.1 1248 (x : Int32).toNatClampNeg : Int32) = (u.2.1 1248 (y : Int32).toNatClampNeg)) : (0 = (1 : Int32) ∧ (f_mt k x y)) ∨ (0 = (0 : Int32) ∧ ¬ (f_mt k x y)) := by
  have k1248 := hk.r 1248 (by decide)
  have k1249 := hk.r 1249 (by decide)
  have k1250 := hk.r 1250 (by decide)
  unfold f_mt; rw [← k1248, ← k1249, ← k1250]
  first
  | exact Or.inl ⟨rfl, by assumption, by assumption, by assumption, by assumption, by assumption⟩
  | exact Or.inr ⟨rfl, fun q => absurd q.1 (by assumption)⟩
  | exact Or.inr ⟨rfl, fun q => absurd q.2.1 (by assumption)⟩
  | exact Or.inr ⟨rfl, fun q => absurd q.2.2.1 (by assumption)⟩
  | exact Or.inr ⟨rfl, fun q => absurd q.2.2.2.1 (by assumption)⟩
  | exact Or.inr ⟨rfl, fun q => q.2.2.2.2 (by assumption)⟩
set_option maxRecDepth 100000 in
theorem g_X12_isMeeting_f_v7 (u : qS) (x : Int32) (y : Int32) (k : qS) (hI : IM u) (hk : IK k u) (hfi : f_fi k (u.2.1 1264)) (b2_4 : f_co k x) (b10_8 : f_co k y) (hb_9 : 0 ≤ (u.2.1 1248 (x : Int32).toNatClampNeg) ∧ (u.2.1 1248 (x : Int32).toNatClampNeg) < u.1 1232) (hs_10 : 0 ≤ u.1 1232 ∧ u.1 1232 ≤ 20) (hb_11 : 0 ≤ (u.2.1 1248 (y : Int32).toNatClampNeg) ∧ (u.2.1 1248 (y : Int32).toNatClampNeg) < u.1 1232) (c28_12 : (u.2.1 1248 (x : Int32).toNatClampNeg : Int32) = (u.2.1 1248 (y : Int32).toNatClampNeg)) : vp_in (x) 120 := by
  have qa := (by assumption : f_co k x).1.1
  rw [← hk.i 1247 (by decide)] at qa
  clear hfi; have q8 := hI.1.s1247; refine g_in ?_ ?_ <;> ((try simp only [g_m1, Int32.lt_iff_toInt_lt, Int32.le_iff_toInt_le, ← Int32.toInt_inj, Int32.reduceToInt] at *); omega)
set_option maxRecDepth 100000 in
theorem g_X12_isMeeting_f_v8 (u : qS) (x : Int32) (y : Int32) (k : qS) (hI : IM u) (hk : IK k u) (hfi : f_fi k (u.2.1 1264)) (b2_4 : f_co k x) (b10_8 : f_co k y) (hb_9 : 0 ≤ (u.2.1 1248 (x : Int32).toNatClampNeg) ∧ (u.2.1 1248 (x : Int32).toNatClampNeg) < u.1 1232) (hs_10 : 0 ≤ u.1 1232 ∧ u.1 1232 ≤ 20) (hb_11 : 0 ≤ (u.2.1 1248 (y : Int32).toNatClampNeg) ∧ (u.2.1 1248 (y : Int32).toNatClampNeg) < u.1 1232) (c28_12 : (u.2.1 1248 (x : Int32).toNatClampNeg : Int32) = (u.2.1 1248 (y : Int32).toNatClampNeg)) : vp_in (y) 120 := by
  have qa := (by assumption : f_co k y).1.1
  rw [← hk.i 1247 (by decide)] at qa
  clear hfi; have q8 := hI.1.s1247; refine g_in ?_ ?_ <;> ((try simp only [g_m1, Int32.lt_iff_toInt_lt, Int32.le_iff_toInt_le, ← Int32.toInt_inj, Int32.reduceToInt] at *); omega)
set_option maxRecDepth 100000 in
theorem g_X12_isMeeting_f_v9 (u : qS) (x : Int32) (y : Int32) (k : qS) (hI : IM u) (hk : IK k u) (hfi : f_fi k (u.2.1 1264)) (b2_4 : f_co k x) (b10_8 : f_co k y) (hb_9 : 0 ≤ (u.2.1 1248 (x : Int32).toNatClampNeg) ∧ (u.2.1 1248 (x : Int32).toNatClampNeg) < u.1 1232) (hs_10 : 0 ≤ u.1 1232 ∧ u.1 1232 ≤ 20) (hb_11 : 0 ≤ (u.2.1 1248 (y : Int32).toNatClampNeg) ∧ (u.2.1 1248 (y : Int32).toNatClampNeg) < u.1 1232) (c28_12 : (u.2.1 1248 (x : Int32).toNatClampNeg : Int32) = (u.2.1 1248 (y : Int32).toNatClampNeg)) (c49_13 : ¬ ((u.2.1 1250 (x : Int32).toNatClampNeg) / 7 : Int32) = ((u.2.1 1250 (y : Int32).toNatClampNeg) / 7)) : (0 = (1 : Int32) ∧ (f_mt k x y)) ∨ (0 = (0 : Int32) ∧ ¬ (f_mt k x y)) := by
  have k1248 := hk.r 1248 (by decide)
  have k1249 := hk.r 1249 (by decide)
  have k1250 := hk.r 1250 (by decide)
  unfold f_mt; rw [← k1248, ← k1249, ← k1250]
  first
  | exact Or.inl ⟨rfl, by assumption, by assumption, by assumption, by assumption, by assumption⟩
  | exact Or.inr ⟨rfl, fun q => absurd q.1 (by assumption)⟩
  | exact Or.inr ⟨rfl, fun q => absurd q.2.1 (by assumption)⟩
  | exact Or.inr ⟨rfl, fun q => absurd q.2.2.1 (by assumption)⟩
  | exact Or.inr ⟨rfl, fun q => absurd q.2.2.2.1 (by assumption)⟩
  | exact Or.inr ⟨rfl, fun q => q.2.2.2.2 (by assumption)⟩
set_option maxRecDepth 100000 in
theorem g_X12_isMeeting_f_v10 (u : qS) (x : Int32) (y : Int32) (k : qS) (hI : IM u) (hk : IK k u) (hfi : f_fi k (u.2.1 1264)) (b2_4 : f_co k x) (b10_8 : f_co k y) (hb_9 : 0 ≤ (u.2.1 1248 (x : Int32).toNatClampNeg) ∧ (u.2.1 1248 (x : Int32).toNatClampNeg) < u.1 1232) (hs_10 : 0 ≤ u.1 1232 ∧ u.1 1232 ≤ 20) (hb_11 : 0 ≤ (u.2.1 1248 (y : Int32).toNatClampNeg) ∧ (u.2.1 1248 (y : Int32).toNatClampNeg) < u.1 1232) (c28_12 : (u.2.1 1248 (x : Int32).toNatClampNeg : Int32) = (u.2.1 1248 (y : Int32).toNatClampNeg)) (c49_13 : ((u.2.1 1250 (x : Int32).toNatClampNeg) / 7 : Int32) = ((u.2.1 1250 (y : Int32).toNatClampNeg) / 7)) : vp_in (x) 120 := by
  have qa := (by assumption : f_co k x).1.1
  rw [← hk.i 1247 (by decide)] at qa
  clear hfi; have q8 := hI.1.s1247; refine g_in ?_ ?_ <;> ((try simp only [g_m1, Int32.lt_iff_toInt_lt, Int32.le_iff_toInt_le, ← Int32.toInt_inj, Int32.reduceToInt] at *); omega)
set_option maxRecDepth 100000 in
theorem g_X12_isMeeting_f_v11 (u : qS) (x : Int32) (y : Int32) (k : qS) (hI : IM u) (hk : IK k u) (hfi : f_fi k (u.2.1 1264)) (b2_4 : f_co k x) (b10_8 : f_co k y) (hb_9 : 0 ≤ (u.2.1 1248 (x : Int32).toNatClampNeg) ∧ (u.2.1 1248 (x : Int32).toNatClampNeg) < u.1 1232) (hs_10 : 0 ≤ u.1 1232 ∧ u.1 1232 ≤ 20) (hb_11 : 0 ≤ (u.2.1 1248 (y : Int32).toNatClampNeg) ∧ (u.2.1 1248 (y : Int32).toNatClampNeg) < u.1 1232) (c28_12 : (u.2.1 1248 (x : Int32).toNatClampNeg : Int32) = (u.2.1 1248 (y : Int32).toNatClampNeg)) (c49_13 : ((u.2.1 1250 (x : Int32).toNatClampNeg) / 7 : Int32) = ((u.2.1 1250 (y : Int32).toNatClampNeg) / 7)) : 0 ≤ x ∧ x < u.1 1247 := by
  have hz1247 := hI.1.s1247
  have qa := (by assumption : f_co k x).1.1
  rw [← hk.i 1247 (by decide)] at qa
  clear hfi; exact qa
set_option maxRecDepth 100000 in
theorem g_X12_isMeeting_f_v12 (u : qS) (x : Int32) (y : Int32) (k : qS) (hI : IM u) (hk : IK k u) (hfi : f_fi k (u.2.1 1264)) (b2_4 : f_co k x) (b10_8 : f_co k y) (hb_9 : 0 ≤ (u.2.1 1248 (x : Int32).toNatClampNeg) ∧ (u.2.1 1248 (x : Int32).toNatClampNeg) < u.1 1232) (hs_10 : 0 ≤ u.1 1232 ∧ u.1 1232 ≤ 20) (hb_11 : 0 ≤ (u.2.1 1248 (y : Int32).toNatClampNeg) ∧ (u.2.1 1248 (y : Int32).toNatClampNeg) < u.1 1232) (c28_12 : (u.2.1 1248 (x : Int32).toNatClampNeg : Int32) = (u.2.1 1248 (y : Int32).toNatClampNeg)) (c49_13 : ((u.2.1 1250 (x : Int32).toNatClampNeg) / 7 : Int32) = ((u.2.1 1250 (y : Int32).toNatClampNeg) / 7)) (hb_14 : 0 ≤ (u.2.1 1249 (x : Int32).toNatClampNeg) ∧ (u.2.1 1249 (x : Int32).toNatClampNeg) < u.1 1239) (hs_15 : 0 ≤ u.1 1239 ∧ u.1 1239 ≤ 8) : vp_in (y) 120 := by
  have qa := (by assumption : f_co k y).1.1
  rw [← hk.i 1247 (by decide)] at qa
  clear hfi; have q8 := hI.1.s1247; refine g_in ?_ ?_ <;> ((try simp only [g_m1, Int32.lt_iff_toInt_lt, Int32.le_iff_toInt_le, ← Int32.toInt_inj, Int32.reduceToInt] at *); omega)
set_option maxRecDepth 100000 in
theorem g_X12_isMeeting_f_v13 (u : qS) (x : Int32) (y : Int32) (k : qS) (hI : IM u) (hk : IK k u) (hfi : f_fi k (u.2.1 1264)) (b2_4 : f_co k x) (b10_8 : f_co k y) (hb_9 : 0 ≤ (u.2.1 1248 (x : Int32).toNatClampNeg) ∧ (u.2.1 1248 (x : Int32).toNatClampNeg) < u.1 1232) (hs_10 : 0 ≤ u.1 1232 ∧ u.1 1232 ≤ 20) (hb_11 : 0 ≤ (u.2.1 1248 (y : Int32).toNatClampNeg) ∧ (u.2.1 1248 (y : Int32).toNatClampNeg) < u.1 1232) (c28_12 : (u.2.1 1248 (x : Int32).toNatClampNeg : Int32) = (u.2.1 1248 (y : Int32).toNatClampNeg)) (c49_13 : ((u.2.1 1250 (x : Int32).toNatClampNeg) / 7 : Int32) = ((u.2.1 1250 (y : Int32).toNatClampNeg) / 7)) (hb_14 : 0 ≤ (u.2.1 1249 (x : Int32).toNatClampNeg) ∧ (u.2.1 1249 (x : Int32).toNatClampNeg) < u.1 1239) (hs_15 : 0 ≤ u.1 1239 ∧ u.1 1239 ≤ 8) : 0 ≤ y ∧ y < u.1 1247 := by
  have hz1247 := hI.1.s1247
  have qa := (by assumption : f_co k y).1.1
  rw [← hk.i 1247 (by decide)] at qa
  clear hfi; exact qa
set_option maxRecDepth 100000 in
theorem g_X12_isMeeting_f_v14 (u : qS) (x : Int32) (y : Int32) (k : qS) (hI : IM u) (hk : IK k u) (hfi : f_fi k (u.2.1 1264)) (b2_4 : f_co k x) (b10_8 : f_co k y) (hb_9 : 0 ≤ (u.2.1 1248 (x : Int32).toNatClampNeg) ∧ (u.2.1 1248 (x : Int32).toNatClampNeg) < u.1 1232) (hs_10 : 0 ≤ u.1 1232 ∧ u.1 1232 ≤ 20) (hb_11 : 0 ≤ (u.2.1 1248 (y : Int32).toNatClampNeg) ∧ (u.2.1 1248 (y : Int32).toNatClampNeg) < u.1 1232) (c28_12 : (u.2.1 1248 (x : Int32).toNatClampNeg : Int32) = (u.2.1 1248 (y : Int32).toNatClampNeg)) (c49_13 : ((u.2.1 1250 (x : Int32).toNatClampNeg) / 7 : Int32) = ((u.2.1 1250 (y : Int32).toNatClampNeg) / 7)) (hb_14 : 0 ≤ (u.2.1 1249 (x : Int32).toNatClampNeg) ∧ (u.2.1 1249 (x : Int32).toNatClampNeg) < u.1 1239) (hs_15 : 0 ≤ u.1 1239 ∧ u.1 1239 ≤ 8) (hb_16 : 0 ≤ (u.2.1 1249 (y : Int32).toNatClampNeg) ∧ (u.2.1 1249 (y : Int32).toNatClampNeg) < u.1 1239) (c64_17 : (u.2.1 1249 (x : Int32).toNatClampNeg : Int32) = (u.2.1 1249 (y : Int32).toNatClampNeg)) : (0 = (1 : Int32) ∧ (f_mt k x y)) ∨ (0 = (0 : Int32) ∧ ¬ (f_mt k x y)) := by
  have k1248 := hk.r 1248 (by decide)
  have k1249 := hk.r 1249 (by decide)
  have k1250 := hk.r 1250 (by decide)
  unfold f_mt; rw [← k1248, ← k1249, ← k1250]
  first
  | exact Or.inl ⟨rfl, by assumption, by assumption, by assumption, by assumption, by assumption⟩
  | exact Or.inr ⟨rfl, fun q => absurd q.1 (by assumption)⟩
  | exact Or.inr ⟨rfl, fun q => absurd q.2.1 (by assumption)⟩
  | exact Or.inr ⟨rfl, fun q => absurd q.2.2.1 (by assumption)⟩
  | exact Or.inr ⟨rfl, fun q => absurd q.2.2.2.1 (by assumption)⟩
  | exact Or.inr ⟨rfl, fun q => q.2.2.2.2 (by assumption)⟩
set_option maxRecDepth 100000 in
theorem g_X12_isMeeting_f_v15 (u : qS) (x : Int32) (y : Int32) (k : qS) (hI : IM u) (hk : IK k u) (hfi : f_fi k (u.2.1 1264)) (b2_4 : f_co k x) (b10_8 : f_co k y) (hb_9 : 0 ≤ (u.2.1 1248 (x : Int32).toNatClampNeg) ∧ (u.2.1 1248 (x : Int32).toNatClampNeg) < u.1 1232) (hs_10 : 0 ≤ u.1 1232 ∧ u.1 1232 ≤ 20) (hb_11 : 0 ≤ (u.2.1 1248 (y : Int32).toNatClampNeg) ∧ (u.2.1 1248 (y : Int32).toNatClampNeg) < u.1 1232) (c28_12 : (u.2.1 1248 (x : Int32).toNatClampNeg : Int32) = (u.2.1 1248 (y : Int32).toNatClampNeg)) (c49_13 : ((u.2.1 1250 (x : Int32).toNatClampNeg) / 7 : Int32) = ((u.2.1 1250 (y : Int32).toNatClampNeg) / 7)) (hb_14 : 0 ≤ (u.2.1 1249 (x : Int32).toNatClampNeg) ∧ (u.2.1 1249 (x : Int32).toNatClampNeg) < u.1 1239) (hs_15 : 0 ≤ u.1 1239 ∧ u.1 1239 ≤ 8) (hb_16 : 0 ≤ (u.2.1 1249 (y : Int32).toNatClampNeg) ∧ (u.2.1 1249 (y : Int32).toNatClampNeg) < u.1 1239) (c64_17 : ¬ (u.2.1 1249 (x : Int32).toNatClampNeg : Int32) = (u.2.1 1249 (y : Int32).toNatClampNeg)) : (1 = (1 : Int32) ∧ (f_mt k x y)) ∨ (1 = (0 : Int32) ∧ ¬ (f_mt k x y)) := by
  have k1248 := hk.r 1248 (by decide)
  have k1249 := hk.r 1249 (by decide)
  have k1250 := hk.r 1250 (by decide)
  unfold f_mt; rw [← k1248, ← k1249, ← k1250]
  first
  | exact Or.inl ⟨rfl, by assumption, by assumption, by assumption, by assumption, by assumption⟩
  | exact Or.inr ⟨rfl, fun q => absurd q.1 (by assumption)⟩
  | exact Or.inr ⟨rfl, fun q => absurd q.2.1 (by assumption)⟩
  | exact Or.inr ⟨rfl, fun q => absurd q.2.2.1 (by assumption)⟩
  | exact Or.inr ⟨rfl, fun q => absurd q.2.2.2.1 (by assumption)⟩
  | exact Or.inr ⟨rfl, fun q => q.2.2.2.2 (by assumption)⟩
set_option maxRecDepth 100000 in
theorem g_X12_isMeeting_f_v16 (u : qS) (x : Int32) (y : Int32) (k : qS) (hI : IM u) (hk : IK k u) (hfi : f_fi k (u.2.1 1264)) (b2_4 : f_co k x) (b10_8 : ¬ (f_co k y)) : (0 = (1 : Int32) ∧ (f_mt k x y)) ∨ (0 = (0 : Int32) ∧ ¬ (f_mt k x y)) := by
  have k1248 := hk.r 1248 (by decide)
  have k1249 := hk.r 1249 (by decide)
  have k1250 := hk.r 1250 (by decide)
  unfold f_mt; rw [← k1248, ← k1249, ← k1250]
  first
  | exact Or.inl ⟨rfl, by assumption, by assumption, by assumption, by assumption, by assumption⟩
  | exact Or.inr ⟨rfl, fun q => absurd q.1 (by assumption)⟩
  | exact Or.inr ⟨rfl, fun q => absurd q.2.1 (by assumption)⟩
  | exact Or.inr ⟨rfl, fun q => absurd q.2.2.1 (by assumption)⟩
  | exact Or.inr ⟨rfl, fun q => absurd q.2.2.2.1 (by assumption)⟩
  | exact Or.inr ⟨rfl, fun q => q.2.2.2.2 (by assumption)⟩
set_option maxRecDepth 100000 in
theorem g_X12_isMeeting_f_v17 (u : qS) (x : Int32) (y : Int32) (k : qS) (hI : IM u) (hk : IK k u) (hfi : f_fi k (u.2.1 1264)) (b2_4 : ¬ (f_co k x)) : (0 = (1 : Int32) ∧ (f_mt k x y)) ∨ (0 = (0 : Int32) ∧ ¬ (f_mt k x y)) := by
  have k1248 := hk.r 1248 (by decide)
  have k1249 := hk.r 1249 (by decide)
  have k1250 := hk.r 1250 (by decide)
  unfold f_mt; rw [← k1248, ← k1249, ← k1250]
  first
  | exact Or.inl ⟨rfl, by assumption, by assumption, by assumption, by assumption, by assumption⟩
  | exact Or.inr ⟨rfl, fun q => absurd q.1 (by assumption)⟩
  | exact Or.inr ⟨rfl, fun q => absurd q.2.1 (by assumption)⟩
  | exact Or.inr ⟨rfl, fun q => absurd q.2.2.1 (by assumption)⟩
  | exact Or.inr ⟨rfl, fun q => absurd q.2.2.2.1 (by assumption)⟩
  | exact Or.inr ⟨rfl, fun q => q.2.2.2.2 (by assumption)⟩
set_option maxHeartbeats 1000000 in
set_option maxRecDepth 100000 in
theorem g_X12_isMeeting_f (l : Launch) (E : qE) (A : Nat → Prop) (u : qS) (x : Int32) (y : Int32) (k : qS) (hI : IM u) (hk : IK k u) (hfi : f_fi k (u.2.1 1264)) : Met l yX12_isMeeting (uws yX12_isMeeting cX12_isMeeting 3 (some .boolean)) (qR 3 0 0) (qPc E A 1 u [.ref (E.2.2 1299), .int x, .int y]) (qQi E A 1 (fun r u1 => u1 = u ∧ ((r = 1 ∧ (f_mt k x y)) ∨ (r = 0 ∧ ¬ (f_mt k x y))))) 0 0 A := by
  refine q_met (own := RX12) (f := 3) [.ref (E.2.2 1299), .int x, .int y] (by decide) (Nat.le_of_ble_eq_true rfl) rfl ?_
  intro p0 e0 s0 m0 bl0 me0 cd0 ls hF hr hlocks hU hS hA hl
  have hl : lv_has ls 3 [(0, .ref (E.2.2 1299)), (1, .int x), (2, .int y)] := hl
  refine lv_aload_n hF.1 hF.2.1 dX12_isMeeting_0 rfl (lv_at hl 0 rfl) ?_
  refine lv_iload_n hF.1 hF.2.1 dX12_isMeeting_1 rfl (lv_at hl 1 rfl) ?_
  have hM9 := g_X12_counts_f l E A u x k hI hk (g_X12_isMeeting_f_v0 u x y k hI hk hfi)
  have hR9 := q_runV (l := l) (e := e0) (below := bl0) (meth := me0) (R := qR 3 0 0) (cells := 0) (slots := 0) (st0 := [.int x, .ref (E.2.2 1299)]) (rest := []) hF hU hS hA 1 0 12 1299 rfl rfl rfl hM9 w_1798 w_1800 w_85 w_107 w_1801 (by decide +kernel) ⟨Nat.le_of_ble_eq_true rfl, Nat.le_of_ble_eq_true rfl⟩ dX12_isMeeting_2 rfl hl.1 rfl (Nat.le_of_ble_eq_true rfl) ⟨Nat.le_of_ble_eq_true rfl, Nat.le_of_ble_eq_true rfl⟩
  refine q_calli hR9 hU.2.2.2 hS (fun r_3 u_1 H locs hw_2 hU hS => ?_)
  obtain ⟨hw_2_e, hw_2⟩ := hw_2
  rw [hw_2_e] at hU
  have hw_2 : (r_3 = 1 ∧ (f_co k x)) ∨ (r_3 = 0 ∧ ¬ (f_co k x)) := hw_2
  rcases hw_2 with ⟨rfl, b2_4⟩ | ⟨rfl, b2_4⟩
  · refine lv_if_eq (tgt := 71) hF.1 hF.2.1 dX12_isMeeting_5 (by decide) (fun h9 => absurd h9 (by decide)) (fun _ => ?_)
    refine lv_aload_n hF.1 hF.2.1 dX12_isMeeting_8 rfl (lv_at hl 0 rfl) ?_
    refine lv_iload_n hF.1 hF.2.1 dX12_isMeeting_9 rfl (lv_at hl 2 rfl) ?_
    have hM9 := g_X12_counts_f l E A u y k hI hk (g_X12_isMeeting_f_v1 u x y k hI hk hfi b2_4)
    have hR9 := q_runV (l := l) (e := e0) (below := bl0) (meth := me0) (R := qR 3 0 0) (cells := 0) (slots := 0) (st0 := [.int y, .ref (E.2.2 1299)]) (rest := []) hF hU hS hA 1 0 12 1299 rfl rfl rfl hM9 w_1798 w_1800 w_85 w_107 w_1801 (by decide +kernel) ⟨Nat.le_of_ble_eq_true rfl, Nat.le_of_ble_eq_true rfl⟩ dX12_isMeeting_10 rfl hl.1 rfl (Nat.le_of_ble_eq_true rfl) ⟨Nat.le_of_ble_eq_true rfl, Nat.le_of_ble_eq_true rfl⟩
    refine q_calli hR9 hU.2.2.2 hS (fun r_7 u_5 H locs hw_6 hU hS => ?_)
    obtain ⟨hw_6_e, hw_6⟩ := hw_6
    rw [hw_6_e] at hU
    have hw_6 : (r_7 = 1 ∧ (f_co k y)) ∨ (r_7 = 0 ∧ ¬ (f_co k y)) := hw_6
    rcases hw_6 with ⟨rfl, b10_8⟩ | ⟨rfl, b10_8⟩
    · refine lv_if_eq (tgt := 71) hF.1 hF.2.1 dX12_isMeeting_13 (by decide) (fun h9 => absurd h9 (by decide)) (fun _ => ?_)
      refine lv_aload_n hF.1 hF.2.1 dX12_isMeeting_16 rfl (lv_at hl 0 rfl) ?_
      refine q_get (v := .ref (E.2.2 1248)) hF hU dX12_isMeeting_17 0 12 48 1248 1299 rfl rfl rfl rfl inX12 (by decide) (by decide) w_1377 rfl rfl ?_
      refine lv_iload_n hF.1 hF.2.1 dX12_isMeeting_20 rfl (lv_at hl 1 rfl) ?_
      refine q_iald (v := u.2.1 1248 (x : Int32).toNatClampNeg) hF hU dX12_isMeeting_21 27 1248 rfl rfl (g_X12_isMeeting_f_v2 u x y k hI hk hfi b2_4 b10_8) rfl ?_
      have hb_9 : 0 ≤ (u.2.1 1248 (x : Int32).toNatClampNeg) ∧ (u.2.1 1248 (x : Int32).toNatClampNeg) < u.1 1232 := hI.2.1.r1248 x (g_X12_isMeeting_f_v3 u x y k hI hk hfi b2_4 b10_8)
      have hs_10 : 0 ≤ u.1 1232 ∧ u.1 1232 ≤ 20 := hI.1.s1232
      refine lv_aload_n hF.1 hF.2.1 dX12_isMeeting_22 rfl (lv_at hl 0 rfl) ?_
      refine q_get (v := .ref (E.2.2 1248)) hF hU dX12_isMeeting_23 0 12 48 1248 1299 rfl rfl rfl rfl inX12 (by decide) (by decide) w_1377 rfl rfl ?_
      refine lv_iload_n hF.1 hF.2.1 dX12_isMeeting_26 rfl (lv_at hl 2 rfl) ?_
      refine q_iald (v := u.2.1 1248 (y : Int32).toNatClampNeg) hF hU dX12_isMeeting_27 27 1248 rfl rfl (g_X12_isMeeting_f_v4 u x y k hI hk hfi b2_4 b10_8 hb_9 hs_10) rfl ?_
      have hb_11 : 0 ≤ (u.2.1 1248 (y : Int32).toNatClampNeg) ∧ (u.2.1 1248 (y : Int32).toNatClampNeg) < u.1 1232 := hI.2.1.r1248 y (g_X12_isMeeting_f_v5 u x y k hI hk hfi b2_4 b10_8 hb_9 hs_10)
      refine lv_icmp_ne (tgt := 71) hF.1 hF.2.1 dX12_isMeeting_28 (by decide) (fun c28_12 => ?_) (fun c28_12 => ?_)
      · refine lv_iconst (v := 0) hF.1 hF.2.1 dX12_isMeeting_71 (by decide) ?_
        exact q_iret hF hr (by decide) hlocks hU hS dX12_isMeeting_72 ⟨rfl, (g_X12_isMeeting_f_v6 u x y k hI hk hfi b2_4 b10_8 hb_9 hs_10 hb_11 c28_12)⟩
      · refine lv_aload_n hF.1 hF.2.1 dX12_isMeeting_31 rfl (lv_at hl 0 rfl) ?_
        refine q_get (v := .ref (E.2.2 1250)) hF hU dX12_isMeeting_32 0 12 50 1250 1299 rfl rfl rfl rfl inX12 (by decide) (by decide) w_1379 rfl rfl ?_
        refine lv_iload_n hF.1 hF.2.1 dX12_isMeeting_35 rfl (lv_at hl 1 rfl) ?_
        refine q_iald (v := u.2.1 1250 (x : Int32).toNatClampNeg) hF hU dX12_isMeeting_36 29 1250 rfl rfl (g_X12_isMeeting_f_v7 u x y k hI hk hfi b2_4 b10_8 hb_9 hs_10 hb_11 c28_12) rfl ?_
        refine lv_bipush (v := 7) hF.1 hF.2.1 dX12_isMeeting_37 (by decide) ?_
        refine lv_idiv hF.1 hF.2.1 dX12_isMeeting_39 (by decide) ?_
        refine lv_aload_n hF.1 hF.2.1 dX12_isMeeting_40 rfl (lv_at hl 0 rfl) ?_
        refine q_get (v := .ref (E.2.2 1250)) hF hU dX12_isMeeting_41 0 12 50 1250 1299 rfl rfl rfl rfl inX12 (by decide) (by decide) w_1379 rfl rfl ?_
        refine lv_iload_n hF.1 hF.2.1 dX12_isMeeting_44 rfl (lv_at hl 2 rfl) ?_
        refine q_iald (v := u.2.1 1250 (y : Int32).toNatClampNeg) hF hU dX12_isMeeting_45 29 1250 rfl rfl (g_X12_isMeeting_f_v8 u x y k hI hk hfi b2_4 b10_8 hb_9 hs_10 hb_11 c28_12) rfl ?_
        refine lv_bipush (v := 7) hF.1 hF.2.1 dX12_isMeeting_46 (by decide) ?_
        refine lv_idiv hF.1 hF.2.1 dX12_isMeeting_48 (by decide) ?_
        refine lv_icmp_ne (tgt := 71) hF.1 hF.2.1 dX12_isMeeting_49 (by decide) (fun c49_13 => ?_) (fun c49_13 => ?_)
        · refine lv_iconst (v := 0) hF.1 hF.2.1 dX12_isMeeting_71 (by decide) ?_
          exact q_iret hF hr (by decide) hlocks hU hS dX12_isMeeting_72 ⟨rfl, (g_X12_isMeeting_f_v9 u x y k hI hk hfi b2_4 b10_8 hb_9 hs_10 hb_11 c28_12 c49_13)⟩
        · refine lv_aload_n hF.1 hF.2.1 dX12_isMeeting_52 rfl (lv_at hl 0 rfl) ?_
          refine q_get (v := .ref (E.2.2 1249)) hF hU dX12_isMeeting_53 0 12 49 1249 1299 rfl rfl rfl rfl inX12 (by decide) (by decide) w_1378 rfl rfl ?_
          refine lv_iload_n hF.1 hF.2.1 dX12_isMeeting_56 rfl (lv_at hl 1 rfl) ?_
          refine q_iald (v := u.2.1 1249 (x : Int32).toNatClampNeg) hF hU dX12_isMeeting_57 28 1249 rfl rfl (g_X12_isMeeting_f_v10 u x y k hI hk hfi b2_4 b10_8 hb_9 hs_10 hb_11 c28_12 c49_13) rfl ?_
          have hb_14 : 0 ≤ (u.2.1 1249 (x : Int32).toNatClampNeg) ∧ (u.2.1 1249 (x : Int32).toNatClampNeg) < u.1 1239 := hI.2.1.r1249 x (g_X12_isMeeting_f_v11 u x y k hI hk hfi b2_4 b10_8 hb_9 hs_10 hb_11 c28_12 c49_13)
          have hs_15 : 0 ≤ u.1 1239 ∧ u.1 1239 ≤ 8 := hI.1.s1239
          refine lv_aload_n hF.1 hF.2.1 dX12_isMeeting_58 rfl (lv_at hl 0 rfl) ?_
          refine q_get (v := .ref (E.2.2 1249)) hF hU dX12_isMeeting_59 0 12 49 1249 1299 rfl rfl rfl rfl inX12 (by decide) (by decide) w_1378 rfl rfl ?_
          refine lv_iload_n hF.1 hF.2.1 dX12_isMeeting_62 rfl (lv_at hl 2 rfl) ?_
          refine q_iald (v := u.2.1 1249 (y : Int32).toNatClampNeg) hF hU dX12_isMeeting_63 28 1249 rfl rfl (g_X12_isMeeting_f_v12 u x y k hI hk hfi b2_4 b10_8 hb_9 hs_10 hb_11 c28_12 c49_13 hb_14 hs_15) rfl ?_
          have hb_16 : 0 ≤ (u.2.1 1249 (y : Int32).toNatClampNeg) ∧ (u.2.1 1249 (y : Int32).toNatClampNeg) < u.1 1239 := hI.2.1.r1249 y (g_X12_isMeeting_f_v13 u x y k hI hk hfi b2_4 b10_8 hb_9 hs_10 hb_11 c28_12 c49_13 hb_14 hs_15)
          refine lv_icmp_eq (tgt := 71) hF.1 hF.2.1 dX12_isMeeting_64 (by decide) (fun c64_17 => ?_) (fun c64_17 => ?_)
          · refine lv_iconst (v := 0) hF.1 hF.2.1 dX12_isMeeting_71 (by decide) ?_
            exact q_iret hF hr (by decide) hlocks hU hS dX12_isMeeting_72 ⟨rfl, (g_X12_isMeeting_f_v14 u x y k hI hk hfi b2_4 b10_8 hb_9 hs_10 hb_11 c28_12 c49_13 hb_14 hs_15 hb_16 c64_17)⟩
          · refine lv_iconst (v := 1) hF.1 hF.2.1 dX12_isMeeting_67 (by decide) ?_
            refine lv_goto (tgt := 72) hF.1 hF.2.1 dX12_isMeeting_68 (by decide) ?_
            exact q_iret hF hr (by decide) hlocks hU hS dX12_isMeeting_72 ⟨rfl, (g_X12_isMeeting_f_v15 u x y k hI hk hfi b2_4 b10_8 hb_9 hs_10 hb_11 c28_12 c49_13 hb_14 hs_15 hb_16 c64_17)⟩
    · refine lv_if_eq (tgt := 71) hF.1 hF.2.1 dX12_isMeeting_13 (by decide) (fun _ => ?_) (fun h9 => absurd (by decide) h9)
      refine lv_iconst (v := 0) hF.1 hF.2.1 dX12_isMeeting_71 (by decide) ?_
      exact q_iret hF hr (by decide) hlocks hU hS dX12_isMeeting_72 ⟨rfl, (g_X12_isMeeting_f_v16 u x y k hI hk hfi b2_4 b10_8)⟩
  · refine lv_if_eq (tgt := 71) hF.1 hF.2.1 dX12_isMeeting_5 (by decide) (fun _ => ?_) (fun h9 => absurd (by decide) h9)
    refine lv_iconst (v := 0) hF.1 hF.2.1 dX12_isMeeting_71 (by decide) ?_
    exact q_iret hF hr (by decide) hlocks hU hS dX12_isMeeting_72 ⟨rfl, (g_X12_isMeeting_f_v17 u x y k hI hk hfi b2_4)⟩
set_option maxRecDepth 100000 in
theorem g_X12_meetings_f_v0 (u : qS) (x : Int32) (y : Int32) (k : qS) (x3 : Int32) (x4 : Int32) (uc : qS) (hI : IM u) (hSc : g_rw (u.2.1 1262) 120 0 1001) (hk : IK k u) (h_k : 0 ≤ x4 ∧ x4 ≤ u.1 1247) (h_D : (0 ≤ x ∧ x < u.1 1239) ∧ (0 ≤ y ∧ y < u.1 1239) ∧ ¬ x = y) (h_S : g_rw (uc.2.1 1262) 120 0 1001) (h_f : f_fi k (uc.2.1 1264)) (h_n : x3 = m_sm (fun i => m_sm (f_mg k (w_P k x y) i) (k.1 1247).toNatClampNeg) x4.toNatClampNeg) (hs_1 : 0 ≤ u.1 1247 ∧ u.1 1247 ≤ 120) (c43_2 : (u.1 1247) ≤ (x4 : Int32)) : (g_rw ((uc.2.1 1262)) 120 0 1001) ∧ ((((0 ≤ x ∧ x < u.1 1239) ∧ (0 ≤ y ∧ y < u.1 1239) ∧ ¬ x = y) ∧ (x3 : Int32) = f_M k (w_P k x y)) ∨ (¬ ((0 ≤ x ∧ x < u.1 1239) ∧ (0 ≤ y ∧ y < u.1 1239) ∧ ¬ x = y) ∧ (x3 : Int32) = -1)) := by
  have hz1239 := hI.1.s1239
  first
  | exact ⟨hSc, Or.inr ⟨fun q => (by obtain ⟨q1, q2, q3⟩ := q; first | exact absurd q1 (by assumption) | exact absurd q2 (by assumption) | exact absurd (by assumption) q3), rfl⟩⟩
  | (have q8 := hI.1.s1247
     have e : x4 = u.1 1247 := Int32.toInt_inj.mp (by clear h_S h_f h_n; (try simp only [g_m1, Int32.lt_iff_toInt_lt, Int32.le_iff_toInt_le, ← Int32.toInt_inj, Int32.reduceToInt] at *); omega)
     rw [e, hk.i 1247 (by decide)] at h_n
     exact ⟨h_S, Or.inl ⟨h_D, h_n⟩⟩)
set_option maxRecDepth 100000 in
theorem g_X12_meetings_f_v1 (u : qS) (x : Int32) (y : Int32) (k : qS) (x3 : Int32) (x4 : Int32) (uc : qS) (hI : IM u) (hSc : g_rw (u.2.1 1262) 120 0 1001) (hk : IK k u) (h_k : 0 ≤ x4 ∧ x4 ≤ u.1 1247) (h_D : (0 ≤ x ∧ x < u.1 1239) ∧ (0 ≤ y ∧ y < u.1 1239) ∧ ¬ x = y) (h_S : g_rw (uc.2.1 1262) 120 0 1001) (h_f : f_fi k (uc.2.1 1264)) (h_n : x3 = m_sm (fun i => m_sm (f_mg k (w_P k x y) i) (k.1 1247).toNatClampNeg) x4.toNatClampNeg) (hs_1 : 0 ≤ u.1 1247 ∧ u.1 1247 ≤ 120) (c43_2 : ¬ (u.1 1247) ≤ (x4 : Int32)) : 0 ≤ x4 ∧ x4 < u.1 1247 := by
  have hz1239 := hI.1.s1239
  have q8 := hI.1.s1247; clear h_S h_f h_n; (try simp only [g_m1, Int32.lt_iff_toInt_lt, Int32.le_iff_toInt_le, ← Int32.toInt_inj, Int32.reduceToInt] at *); omega
set_option maxRecDepth 100000 in
theorem g_X12_meetings_f_v2 (u : qS) (x : Int32) (y : Int32) (k : qS) (x3 : Int32) (x4 : Int32) (uc : qS) (hI : IM u) (hSc : g_rw (u.2.1 1262) 120 0 1001) (hk : IK k u) (h_k : 0 ≤ x4 ∧ x4 ≤ u.1 1247) (h_D : (0 ≤ x ∧ x < u.1 1239) ∧ (0 ≤ y ∧ y < u.1 1239) ∧ ¬ x = y) (h_S : g_rw (uc.2.1 1262) 120 0 1001) (h_f : f_fi k (uc.2.1 1264)) (h_n : x3 = m_sm (fun i => m_sm (f_mg k (w_P k x y) i) (k.1 1247).toNatClampNeg) x4.toNatClampNeg) (hs_1 : 0 ≤ u.1 1247 ∧ u.1 1247 ≤ 120) (c43_2 : ¬ (u.1 1247) ≤ (x4 : Int32)) : 0 ≤ (0 : Int32) ∧ (0 : Int32) ≤ u.1 1247 := by
  have hz1239 := hI.1.s1239
  have q8 := hI.1.s1247; clear h_S h_f h_n; (try simp only [g_m1, Int32.lt_iff_toInt_lt, Int32.le_iff_toInt_le, ← Int32.toInt_inj, Int32.reduceToInt] at *); omega
set_option maxRecDepth 100000 in
theorem g_X12_meetings_f_v3 (u : qS) (x : Int32) (y : Int32) (k : qS) (x3 : Int32) (x4 : Int32) (uc : qS) (hI : IM u) (hSc : g_rw (u.2.1 1262) 120 0 1001) (hk : IK k u) (h_k : 0 ≤ x4 ∧ x4 ≤ u.1 1247) (h_D : (0 ≤ x ∧ x < u.1 1239) ∧ (0 ≤ y ∧ y < u.1 1239) ∧ ¬ x = y) (h_S : g_rw (uc.2.1 1262) 120 0 1001) (h_f : f_fi k (uc.2.1 1264)) (h_n : x3 = m_sm (fun i => m_sm (f_mg k (w_P k x y) i) (k.1 1247).toNatClampNeg) x4.toNatClampNeg) (hs_1 : 0 ≤ u.1 1247 ∧ u.1 1247 ≤ 120) (c43_2 : ¬ (u.1 1247) ≤ (x4 : Int32)) : (0 ≤ x ∧ x < u.1 1239) ∧ (0 ≤ y ∧ y < u.1 1239) ∧ ¬ x = y := by
  have hz1239 := hI.1.s1239
  exact h_D
set_option maxRecDepth 100000 in
theorem g_X12_meetings_f_v4 (u : qS) (x : Int32) (y : Int32) (k : qS) (x3 : Int32) (x4 : Int32) (uc : qS) (hI : IM u) (hSc : g_rw (u.2.1 1262) 120 0 1001) (hk : IK k u) (h_k : 0 ≤ x4 ∧ x4 ≤ u.1 1247) (h_D : (0 ≤ x ∧ x < u.1 1239) ∧ (0 ≤ y ∧ y < u.1 1239) ∧ ¬ x = y) (h_S : g_rw (uc.2.1 1262) 120 0 1001) (h_f : f_fi k (uc.2.1 1264)) (h_n : x3 = m_sm (fun i => m_sm (f_mg k (w_P k x y) i) (k.1 1247).toNatClampNeg) x4.toNatClampNeg) (hs_1 : 0 ≤ u.1 1247 ∧ u.1 1247 ≤ 120) (c43_2 : ¬ (u.1 1247) ≤ (x4 : Int32)) : g_rw ((uc.2.1 1262)) 120 0 1001 := by
  have hz1239 := hI.1.s1239
  exact h_S
set_option maxRecDepth 100000 in
theorem g_X12_meetings_f_v5 (u : qS) (x : Int32) (y : Int32) (k : qS) (x3 : Int32) (x4 : Int32) (uc : qS) (hI : IM u) (hSc : g_rw (u.2.1 1262) 120 0 1001) (hk : IK k u) (h_k : 0 ≤ x4 ∧ x4 ≤ u.1 1247) (h_D : (0 ≤ x ∧ x < u.1 1239) ∧ (0 ≤ y ∧ y < u.1 1239) ∧ ¬ x = y) (h_S : g_rw (uc.2.1 1262) 120 0 1001) (h_f : f_fi k (uc.2.1 1264)) (h_n : x3 = m_sm (fun i => m_sm (f_mg k (w_P k x y) i) (k.1 1247).toNatClampNeg) x4.toNatClampNeg) (hs_1 : 0 ≤ u.1 1247 ∧ u.1 1247 ≤ 120) (c43_2 : ¬ (u.1 1247) ≤ (x4 : Int32)) : f_fi k ((uc.2.1 1264)) := by
  have hz1239 := hI.1.s1239
  exact h_f
set_option maxRecDepth 100000 in
theorem g_X12_meetings_f_v6 (u : qS) (x : Int32) (y : Int32) (k : qS) (x3 : Int32) (x4 : Int32) (uc : qS) (hI : IM u) (hSc : g_rw (u.2.1 1262) 120 0 1001) (hk : IK k u) (h_k : 0 ≤ x4 ∧ x4 ≤ u.1 1247) (h_D : (0 ≤ x ∧ x < u.1 1239) ∧ (0 ≤ y ∧ y < u.1 1239) ∧ ¬ x = y) (h_S : g_rw (uc.2.1 1262) 120 0 1001) (h_f : f_fi k (uc.2.1 1264)) (h_n : x3 = m_sm (fun i => m_sm (f_mg k (w_P k x y) i) (k.1 1247).toNatClampNeg) x4.toNatClampNeg) (hs_1 : 0 ≤ u.1 1247 ∧ u.1 1247 ≤ 120) (c43_2 : ¬ (u.1 1247) ≤ (x4 : Int32)) : x3 = m_sm (fun i => m_sm (f_mg k (w_P k x y) i) (k.1 1247).toNatClampNeg) x4.toNatClampNeg + m_sm (f_mg k (w_P k x y) x4.toNatClampNeg) (0 : Int32).toNatClampNeg := by
  have hz1239 := hI.1.s1239
  rw [h_n]; exact (Int32.add_zero _).symm
set_option maxRecDepth 100000 in
theorem g_X12_meetings_f_v7 (u : qS) (x : Int32) (y : Int32) (k : qS) (x3 : Int32) (x4 : Int32) (uc : qS) (hI : IM u) (hSc : g_rw (u.2.1 1262) 120 0 1001) (hk : IK k u) (h_k : 0 ≤ x4 ∧ x4 ≤ u.1 1247) (h_D : (0 ≤ x ∧ x < u.1 1239) ∧ (0 ≤ y ∧ y < u.1 1239) ∧ ¬ x = y) (h_S : g_rw (uc.2.1 1262) 120 0 1001) (h_f : f_fi k (uc.2.1 1264)) (h_n : x3 = m_sm (fun i => m_sm (f_mg k (w_P k x y) i) (k.1 1247).toNatClampNeg) x4.toNatClampNeg) (hs_1 : 0 ≤ u.1 1247 ∧ u.1 1247 ≤ 120) (c43_2 : ¬ (u.1 1247) ≤ (x4 : Int32)) : ((u.1 1247).toInt - x4.toInt).toNat * 256 + ((u.1 1247).toInt - (0 : Int32).toInt).toNat < ((u.1 1247).toInt - x4.toInt).toNat * 256 + 255 := by
  have hz1239 := hI.1.s1239
  have q8 := hI.1.s1247; clear h_S h_f h_n; (try simp only [g_m1, Int32.lt_iff_toInt_lt, Int32.le_iff_toInt_le, ← Int32.toInt_inj, Int32.reduceToInt] at *); omega
set_option maxRecDepth 100000 in
theorem g_X12_meetings_f_v8 (u : qS) (x : Int32) (y : Int32) (k : qS) (x3 : Int32) (x4 : Int32) (x5 : Int32) (uc : qS) (hI : IM u) (hSc : g_rw (u.2.1 1262) 120 0 1001) (hk : IK k u) (h_k : 0 ≤ x4 ∧ x4 < u.1 1247) (h_j : 0 ≤ x5 ∧ x5 ≤ u.1 1247) (h_D : (0 ≤ x ∧ x < u.1 1239) ∧ (0 ≤ y ∧ y < u.1 1239) ∧ ¬ x = y) (h_S : g_rw (uc.2.1 1262) 120 0 1001) (h_f : f_fi k (uc.2.1 1264)) (h_n : x3 = m_sm (fun i => m_sm (f_mg k (w_P k x y) i) (k.1 1247).toNatClampNeg) x4.toNatClampNeg + m_sm (f_mg k (w_P k x y) x4.toNatClampNeg) x5.toNatClampNeg) (hs_3 : 0 ≤ u.1 1247 ∧ u.1 1247 ≤ 120) (c55_4 : (u.1 1247) ≤ (x5 : Int32)) : 0 ≤ (x4 + 1) ∧ (x4 + 1) ≤ u.1 1247 := by
  have hz1239 := hI.1.s1239
  have q8 := hI.1.s1247; clear h_S h_f h_n; (try simp only [g_m1, Int32.lt_iff_toInt_lt, Int32.le_iff_toInt_le, ← Int32.toInt_inj, Int32.toInt_add, Int32.toInt_sub, Int32.toInt_mul, Int32.toInt_neg, Int32.reduceToInt, g_bm, g_bm'] at *); omega
set_option maxRecDepth 100000 in
theorem g_X12_meetings_f_v9 (u : qS) (x : Int32) (y : Int32) (k : qS) (x3 : Int32) (x4 : Int32) (x5 : Int32) (uc : qS) (hI : IM u) (hSc : g_rw (u.2.1 1262) 120 0 1001) (hk : IK k u) (h_k : 0 ≤ x4 ∧ x4 < u.1 1247) (h_j : 0 ≤ x5 ∧ x5 ≤ u.1 1247) (h_D : (0 ≤ x ∧ x < u.1 1239) ∧ (0 ≤ y ∧ y < u.1 1239) ∧ ¬ x = y) (h_S : g_rw (uc.2.1 1262) 120 0 1001) (h_f : f_fi k (uc.2.1 1264)) (h_n : x3 = m_sm (fun i => m_sm (f_mg k (w_P k x y) i) (k.1 1247).toNatClampNeg) x4.toNatClampNeg + m_sm (f_mg k (w_P k x y) x4.toNatClampNeg) x5.toNatClampNeg) (hs_3 : 0 ≤ u.1 1247 ∧ u.1 1247 ≤ 120) (c55_4 : (u.1 1247) ≤ (x5 : Int32)) : (0 ≤ x ∧ x < u.1 1239) ∧ (0 ≤ y ∧ y < u.1 1239) ∧ ¬ x = y := by
  have hz1239 := hI.1.s1239
  exact h_D
set_option maxRecDepth 100000 in
theorem g_X12_meetings_f_v10 (u : qS) (x : Int32) (y : Int32) (k : qS) (x3 : Int32) (x4 : Int32) (x5 : Int32) (uc : qS) (hI : IM u) (hSc : g_rw (u.2.1 1262) 120 0 1001) (hk : IK k u) (h_k : 0 ≤ x4 ∧ x4 < u.1 1247) (h_j : 0 ≤ x5 ∧ x5 ≤ u.1 1247) (h_D : (0 ≤ x ∧ x < u.1 1239) ∧ (0 ≤ y ∧ y < u.1 1239) ∧ ¬ x = y) (h_S : g_rw (uc.2.1 1262) 120 0 1001) (h_f : f_fi k (uc.2.1 1264)) (h_n : x3 = m_sm (fun i => m_sm (f_mg k (w_P k x y) i) (k.1 1247).toNatClampNeg) x4.toNatClampNeg + m_sm (f_mg k (w_P k x y) x4.toNatClampNeg) x5.toNatClampNeg) (hs_3 : 0 ≤ u.1 1247 ∧ u.1 1247 ≤ 120) (c55_4 : (u.1 1247) ≤ (x5 : Int32)) : g_rw ((uc.2.1 1262)) 120 0 1001 := by
  have hz1239 := hI.1.s1239
  exact h_S
set_option maxRecDepth 100000 in
theorem g_X12_meetings_f_v11 (u : qS) (x : Int32) (y : Int32) (k : qS) (x3 : Int32) (x4 : Int32) (x5 : Int32) (uc : qS) (hI : IM u) (hSc : g_rw (u.2.1 1262) 120 0 1001) (hk : IK k u) (h_k : 0 ≤ x4 ∧ x4 < u.1 1247) (h_j : 0 ≤ x5 ∧ x5 ≤ u.1 1247) (h_D : (0 ≤ x ∧ x < u.1 1239) ∧ (0 ≤ y ∧ y < u.1 1239) ∧ ¬ x = y) (h_S : g_rw (uc.2.1 1262) 120 0 1001) (h_f : f_fi k (uc.2.1 1264)) (h_n : x3 = m_sm (fun i => m_sm (f_mg k (w_P k x y) i) (k.1 1247).toNatClampNeg) x4.toNatClampNeg + m_sm (f_mg k (w_P k x y) x4.toNatClampNeg) x5.toNatClampNeg) (hs_3 : 0 ≤ u.1 1247 ∧ u.1 1247 ≤ 120) (c55_4 : (u.1 1247) ≤ (x5 : Int32)) : f_fi k ((uc.2.1 1264)) := by
  have hz1239 := hI.1.s1239
  exact h_f
set_option maxRecDepth 100000 in
theorem g_X12_meetings_f_v12 (u : qS) (x : Int32) (y : Int32) (k : qS) (x3 : Int32) (x4 : Int32) (x5 : Int32) (uc : qS) (hI : IM u) (hSc : g_rw (u.2.1 1262) 120 0 1001) (hk : IK k u) (h_k : 0 ≤ x4 ∧ x4 < u.1 1247) (h_j : 0 ≤ x5 ∧ x5 ≤ u.1 1247) (h_D : (0 ≤ x ∧ x < u.1 1239) ∧ (0 ≤ y ∧ y < u.1 1239) ∧ ¬ x = y) (h_S : g_rw (uc.2.1 1262) 120 0 1001) (h_f : f_fi k (uc.2.1 1264)) (h_n : x3 = m_sm (fun i => m_sm (f_mg k (w_P k x y) i) (k.1 1247).toNatClampNeg) x4.toNatClampNeg + m_sm (f_mg k (w_P k x y) x4.toNatClampNeg) x5.toNatClampNeg) (hs_3 : 0 ≤ u.1 1247 ∧ u.1 1247 ≤ 120) (c55_4 : (u.1 1247) ≤ (x5 : Int32)) : x3 = m_sm (fun i => m_sm (f_mg k (w_P k x y) i) (k.1 1247).toNatClampNeg) (x4 + 1).toNatClampNeg := by
  have hz1239 := hI.1.s1239
  have q8 := hI.1.s1247
  have e : x5 = u.1 1247 := Int32.toInt_inj.mp (by clear h_S h_f h_n; (try simp only [g_m1, Int32.lt_iff_toInt_lt, Int32.le_iff_toInt_le, ← Int32.toInt_inj, Int32.reduceToInt] at *); omega)
  have k47 := hk.i 1247 (by decide)
  rw [e, k47] at h_n
  have qv : 0 ≤ x4.toInt ∧ x4.toInt < 1000 := (by clear h_S h_f h_n; (try simp only [g_m1, Int32.lt_iff_toInt_lt, Int32.le_iff_toInt_le, ← Int32.toInt_inj, Int32.reduceToInt] at *); omega)
  have e_x4 := (g_up (i := x4) qv.1 (by omega)).2
  rw [e_x4, m_sm_s]; exact h_n
set_option maxRecDepth 100000 in
theorem g_X12_meetings_f_v13 (u : qS) (x : Int32) (y : Int32) (k : qS) (x3 : Int32) (x4 : Int32) (x5 : Int32) (uc : qS) (hI : IM u) (hSc : g_rw (u.2.1 1262) 120 0 1001) (hk : IK k u) (h_k : 0 ≤ x4 ∧ x4 < u.1 1247) (h_j : 0 ≤ x5 ∧ x5 ≤ u.1 1247) (h_D : (0 ≤ x ∧ x < u.1 1239) ∧ (0 ≤ y ∧ y < u.1 1239) ∧ ¬ x = y) (h_S : g_rw (uc.2.1 1262) 120 0 1001) (h_f : f_fi k (uc.2.1 1264)) (h_n : x3 = m_sm (fun i => m_sm (f_mg k (w_P k x y) i) (k.1 1247).toNatClampNeg) x4.toNatClampNeg + m_sm (f_mg k (w_P k x y) x4.toNatClampNeg) x5.toNatClampNeg) (hs_3 : 0 ≤ u.1 1247 ∧ u.1 1247 ≤ 120) (c55_4 : (u.1 1247) ≤ (x5 : Int32)) : ((u.1 1247).toInt - (x4 + 1).toInt).toNat * 256 + 255 < ((u.1 1247).toInt - x4.toInt).toNat * 256 + ((u.1 1247).toInt - x5.toInt).toNat := by
  have hz1239 := hI.1.s1239
  have q8 := hI.1.s1247; clear h_S h_f h_n; (try simp only [g_m1, Int32.lt_iff_toInt_lt, Int32.le_iff_toInt_le, ← Int32.toInt_inj, Int32.toInt_add, Int32.toInt_sub, Int32.toInt_mul, Int32.toInt_neg, Int32.reduceToInt, g_bm, g_bm'] at *); omega
set_option maxRecDepth 100000 in
theorem g_X12_meetings_f_v14 (u : qS) (x : Int32) (y : Int32) (k : qS) (x3 : Int32) (x4 : Int32) (x5 : Int32) (uc : qS) (hI : IM u) (hSc : g_rw (u.2.1 1262) 120 0 1001) (hk : IK k u) (h_k : 0 ≤ x4 ∧ x4 < u.1 1247) (h_j : 0 ≤ x5 ∧ x5 ≤ u.1 1247) (h_D : (0 ≤ x ∧ x < u.1 1239) ∧ (0 ≤ y ∧ y < u.1 1239) ∧ ¬ x = y) (h_S : g_rw (uc.2.1 1262) 120 0 1001) (h_f : f_fi k (uc.2.1 1264)) (h_n : x3 = m_sm (fun i => m_sm (f_mg k (w_P k x y) i) (k.1 1247).toNatClampNeg) x4.toNatClampNeg + m_sm (f_mg k (w_P k x y) x4.toNatClampNeg) x5.toNatClampNeg) (hs_3 : 0 ≤ u.1 1247 ∧ u.1 1247 ≤ 120) (c55_4 : ¬ (u.1 1247) ≤ (x5 : Int32)) : vp_in (x4) 120 := by
  have hz1239 := hI.1.s1239
  have q8 := hI.1.s1247; clear h_S h_f h_n; refine g_in ?_ ?_ <;> ((try simp only [g_m1, Int32.lt_iff_toInt_lt, Int32.le_iff_toInt_le, ← Int32.toInt_inj, Int32.reduceToInt] at *); omega)
set_option maxRecDepth 100000 in
theorem g_X12_meetings_f_v15 (u : qS) (x : Int32) (y : Int32) (k : qS) (x3 : Int32) (x4 : Int32) (x5 : Int32) (uc : qS) (hI : IM u) (hSc : g_rw (u.2.1 1262) 120 0 1001) (hk : IK k u) (h_k : 0 ≤ x4 ∧ x4 < u.1 1247) (h_j : 0 ≤ x5 ∧ x5 ≤ u.1 1247) (h_D : (0 ≤ x ∧ x < u.1 1239) ∧ (0 ≤ y ∧ y < u.1 1239) ∧ ¬ x = y) (h_S : g_rw (uc.2.1 1262) 120 0 1001) (h_f : f_fi k (uc.2.1 1264)) (h_n : x3 = m_sm (fun i => m_sm (f_mg k (w_P k x y) i) (k.1 1247).toNatClampNeg) x4.toNatClampNeg + m_sm (f_mg k (w_P k x y) x4.toNatClampNeg) x5.toNatClampNeg) (hs_3 : 0 ≤ u.1 1247 ∧ u.1 1247 ≤ 120) (c55_4 : ¬ (u.1 1247) ≤ (x5 : Int32)) : 0 ≤ x4 ∧ x4 < u.1 1247 := by
  have hz1239 := hI.1.s1239
  clear h_S h_f h_n; (try simp only [g_m1, Int32.lt_iff_toInt_lt, Int32.le_iff_toInt_le, ← Int32.toInt_inj, Int32.reduceToInt] at *); omega
set_option maxRecDepth 100000 in
theorem g_X12_meetings_f_v16 (u : qS) (x : Int32) (y : Int32) (k : qS) (x3 : Int32) (x4 : Int32) (x5 : Int32) (uc : qS) (hI : IM u) (hSc : g_rw (u.2.1 1262) 120 0 1001) (hk : IK k u) (h_k : 0 ≤ x4 ∧ x4 < u.1 1247) (h_j : 0 ≤ x5 ∧ x5 ≤ u.1 1247) (h_D : (0 ≤ x ∧ x < u.1 1239) ∧ (0 ≤ y ∧ y < u.1 1239) ∧ ¬ x = y) (h_S : g_rw (uc.2.1 1262) 120 0 1001) (h_f : f_fi k (uc.2.1 1264)) (h_n : x3 = m_sm (fun i => m_sm (f_mg k (w_P k x y) i) (k.1 1247).toNatClampNeg) x4.toNatClampNeg + m_sm (f_mg k (w_P k x y) x4.toNatClampNeg) x5.toNatClampNeg) (hs_3 : 0 ≤ u.1 1247 ∧ u.1 1247 ≤ 120) (c55_4 : ¬ (u.1 1247) ≤ (x5 : Int32)) (hb_5 : 0 ≤ (u.2.1 1249 (x4 : Int32).toNatClampNeg) ∧ (u.2.1 1249 (x4 : Int32).toNatClampNeg) < u.1 1239) (hs_6 : 0 ≤ u.1 1239 ∧ u.1 1239 ≤ 8) (c67_7 : ¬ (u.2.1 1249 (x4 : Int32).toNatClampNeg : Int32) = x) : 0 ≤ x4 ∧ x4 < u.1 1247 := by
  clear h_S h_f h_n; (try simp only [g_m1, Int32.lt_iff_toInt_lt, Int32.le_iff_toInt_le, ← Int32.toInt_inj, Int32.reduceToInt] at *); omega
set_option maxRecDepth 100000 in
theorem g_X12_meetings_f_v17 (u : qS) (x : Int32) (y : Int32) (k : qS) (x3 : Int32) (x4 : Int32) (x5 : Int32) (uc : qS) (hI : IM u) (hSc : g_rw (u.2.1 1262) 120 0 1001) (hk : IK k u) (h_k : 0 ≤ x4 ∧ x4 < u.1 1247) (h_j : 0 ≤ x5 ∧ x5 ≤ u.1 1247) (h_D : (0 ≤ x ∧ x < u.1 1239) ∧ (0 ≤ y ∧ y < u.1 1239) ∧ ¬ x = y) (h_S : g_rw (uc.2.1 1262) 120 0 1001) (h_f : f_fi k (uc.2.1 1264)) (h_n : x3 = m_sm (fun i => m_sm (f_mg k (w_P k x y) i) (k.1 1247).toNatClampNeg) x4.toNatClampNeg + m_sm (f_mg k (w_P k x y) x4.toNatClampNeg) x5.toNatClampNeg) (hs_3 : 0 ≤ u.1 1247 ∧ u.1 1247 ≤ 120) (c55_4 : ¬ (u.1 1247) ≤ (x5 : Int32)) (hb_5 : 0 ≤ (u.2.1 1249 (x4 : Int32).toNatClampNeg) ∧ (u.2.1 1249 (x4 : Int32).toNatClampNeg) < u.1 1239) (hs_6 : 0 ≤ u.1 1239 ∧ u.1 1239 ≤ 8) (c67_7 : ¬ (u.2.1 1249 (x4 : Int32).toNatClampNeg : Int32) = x) : 0 ≤ (x5 + 1) ∧ (x5 + 1) ≤ u.1 1247 := by
  have q8 := hI.1.s1247; clear h_S h_f h_n; (try simp only [g_m1, Int32.lt_iff_toInt_lt, Int32.le_iff_toInt_le, ← Int32.toInt_inj, Int32.toInt_add, Int32.toInt_sub, Int32.toInt_mul, Int32.toInt_neg, Int32.reduceToInt, g_bm, g_bm'] at *); omega
set_option maxRecDepth 100000 in
theorem g_X12_meetings_f_v18 (u : qS) (x : Int32) (y : Int32) (k : qS) (x3 : Int32) (x4 : Int32) (x5 : Int32) (uc : qS) (hI : IM u) (hSc : g_rw (u.2.1 1262) 120 0 1001) (hk : IK k u) (h_k : 0 ≤ x4 ∧ x4 < u.1 1247) (h_j : 0 ≤ x5 ∧ x5 ≤ u.1 1247) (h_D : (0 ≤ x ∧ x < u.1 1239) ∧ (0 ≤ y ∧ y < u.1 1239) ∧ ¬ x = y) (h_S : g_rw (uc.2.1 1262) 120 0 1001) (h_f : f_fi k (uc.2.1 1264)) (h_n : x3 = m_sm (fun i => m_sm (f_mg k (w_P k x y) i) (k.1 1247).toNatClampNeg) x4.toNatClampNeg + m_sm (f_mg k (w_P k x y) x4.toNatClampNeg) x5.toNatClampNeg) (hs_3 : 0 ≤ u.1 1247 ∧ u.1 1247 ≤ 120) (c55_4 : ¬ (u.1 1247) ≤ (x5 : Int32)) (hb_5 : 0 ≤ (u.2.1 1249 (x4 : Int32).toNatClampNeg) ∧ (u.2.1 1249 (x4 : Int32).toNatClampNeg) < u.1 1239) (hs_6 : 0 ≤ u.1 1239 ∧ u.1 1239 ≤ 8) (c67_7 : ¬ (u.2.1 1249 (x4 : Int32).toNatClampNeg : Int32) = x) : (0 ≤ x ∧ x < u.1 1239) ∧ (0 ≤ y ∧ y < u.1 1239) ∧ ¬ x = y := by
  exact h_D
set_option maxRecDepth 100000 in
theorem g_X12_meetings_f_v19 (u : qS) (x : Int32) (y : Int32) (k : qS) (x3 : Int32) (x4 : Int32) (x5 : Int32) (uc : qS) (hI : IM u) (hSc : g_rw (u.2.1 1262) 120 0 1001) (hk : IK k u) (h_k : 0 ≤ x4 ∧ x4 < u.1 1247) (h_j : 0 ≤ x5 ∧ x5 ≤ u.1 1247) (h_D : (0 ≤ x ∧ x < u.1 1239) ∧ (0 ≤ y ∧ y < u.1 1239) ∧ ¬ x = y) (h_S : g_rw (uc.2.1 1262) 120 0 1001) (h_f : f_fi k (uc.2.1 1264)) (h_n : x3 = m_sm (fun i => m_sm (f_mg k (w_P k x y) i) (k.1 1247).toNatClampNeg) x4.toNatClampNeg + m_sm (f_mg k (w_P k x y) x4.toNatClampNeg) x5.toNatClampNeg) (hs_3 : 0 ≤ u.1 1247 ∧ u.1 1247 ≤ 120) (c55_4 : ¬ (u.1 1247) ≤ (x5 : Int32)) (hb_5 : 0 ≤ (u.2.1 1249 (x4 : Int32).toNatClampNeg) ∧ (u.2.1 1249 (x4 : Int32).toNatClampNeg) < u.1 1239) (hs_6 : 0 ≤ u.1 1239 ∧ u.1 1239 ≤ 8) (c67_7 : ¬ (u.2.1 1249 (x4 : Int32).toNatClampNeg : Int32) = x) : g_rw ((uc.2.1 1262)) 120 0 1001 := by
  exact h_S
set_option maxRecDepth 100000 in
theorem g_X12_meetings_f_v20 (u : qS) (x : Int32) (y : Int32) (k : qS) (x3 : Int32) (x4 : Int32) (x5 : Int32) (uc : qS) (hI : IM u) (hSc : g_rw (u.2.1 1262) 120 0 1001) (hk : IK k u) (h_k : 0 ≤ x4 ∧ x4 < u.1 1247) (h_j : 0 ≤ x5 ∧ x5 ≤ u.1 1247) (h_D : (0 ≤ x ∧ x < u.1 1239) ∧ (0 ≤ y ∧ y < u.1 1239) ∧ ¬ x = y) (h_S : g_rw (uc.2.1 1262) 120 0 1001) (h_f : f_fi k (uc.2.1 1264)) (h_n : x3 = m_sm (fun i => m_sm (f_mg k (w_P k x y) i) (k.1 1247).toNatClampNeg) x4.toNatClampNeg + m_sm (f_mg k (w_P k x y) x4.toNatClampNeg) x5.toNatClampNeg) (hs_3 : 0 ≤ u.1 1247 ∧ u.1 1247 ≤ 120) (c55_4 : ¬ (u.1 1247) ≤ (x5 : Int32)) (hb_5 : 0 ≤ (u.2.1 1249 (x4 : Int32).toNatClampNeg) ∧ (u.2.1 1249 (x4 : Int32).toNatClampNeg) < u.1 1239) (hs_6 : 0 ≤ u.1 1239 ∧ u.1 1239 ≤ 8) (c67_7 : ¬ (u.2.1 1249 (x4 : Int32).toNatClampNeg : Int32) = x) : f_fi k ((uc.2.1 1264)) := by
  exact h_f
set_option maxRecDepth 100000 in
theorem g_X12_meetings_f_v21 (u : qS) (x : Int32) (y : Int32) (k : qS) (x3 : Int32) (x4 : Int32) (x5 : Int32) (uc : qS) (hI : IM u) (hSc : g_rw (u.2.1 1262) 120 0 1001) (hk : IK k u) (h_k : 0 ≤ x4 ∧ x4 < u.1 1247) (h_j : 0 ≤ x5 ∧ x5 ≤ u.1 1247) (h_D : (0 ≤ x ∧ x < u.1 1239) ∧ (0 ≤ y ∧ y < u.1 1239) ∧ ¬ x = y) (h_S : g_rw (uc.2.1 1262) 120 0 1001) (h_f : f_fi k (uc.2.1 1264)) (h_n : x3 = m_sm (fun i => m_sm (f_mg k (w_P k x y) i) (k.1 1247).toNatClampNeg) x4.toNatClampNeg + m_sm (f_mg k (w_P k x y) x4.toNatClampNeg) x5.toNatClampNeg) (hs_3 : 0 ≤ u.1 1247 ∧ u.1 1247 ≤ 120) (c55_4 : ¬ (u.1 1247) ≤ (x5 : Int32)) (hb_5 : 0 ≤ (u.2.1 1249 (x4 : Int32).toNatClampNeg) ∧ (u.2.1 1249 (x4 : Int32).toNatClampNeg) < u.1 1239) (hs_6 : 0 ≤ u.1 1239 ∧ u.1 1239 ≤ 8) (c67_7 : ¬ (u.2.1 1249 (x4 : Int32).toNatClampNeg : Int32) = x) : (x3 + 0) = m_sm (fun i => m_sm (f_mg k (w_P k x y) i) (k.1 1247).toNatClampNeg) x4.toNatClampNeg + m_sm (f_mg k (w_P k x y) x4.toNatClampNeg) (x5 + 1).toNatClampNeg := by
  have k49 := hk.r 1249 (by decide)
  have q8 := hI.1.s1247
  have qv : 0 ≤ x5.toInt ∧ x5.toInt < 1000 := (by clear h_S h_f h_n; (try simp only [g_m1, Int32.lt_iff_toInt_lt, Int32.le_iff_toInt_le, ← Int32.toInt_inj, Int32.reduceToInt] at *); omega)
  have e_x5 := (g_up (i := x5) qv.1 (by omega)).2
  have p4 : 0 ≤ x4.toInt := (by clear h_S h_f h_n; (try simp only [g_m1, Int32.lt_iff_toInt_lt, Int32.le_iff_toInt_le, ← Int32.toInt_inj, Int32.reduceToInt] at *); omega)
  have p5 := qv.1
  rw [e_x5, m_sm_s]
  first
  | (rw [m_pt (by assumption : f_mt k x4 x5) p4 p5 (by rw [← k49]; assumption) (by rw [← k49]; assumption), h_n]; ac_rfl)
  | (rw [m_p0 p4 p5 (fun q1 _ _ => absurd q1 (by assumption)), h_n]; ac_rfl)
  | (rw [m_p0 p4 p5 (fun _ q2 _ => (by rw [← k49] at q2; exact absurd q2 (by assumption))), h_n]; ac_rfl)
  | (rw [m_p0 p4 p5 (fun _ _ q3 => (by rw [← k49] at q3; exact absurd q3 (by assumption))), h_n]; ac_rfl)
set_option maxRecDepth 100000 in
theorem g_X12_meetings_f_v22 (u : qS) (x : Int32) (y : Int32) (k : qS) (x3 : Int32) (x4 : Int32) (x5 : Int32) (uc : qS) (hI : IM u) (hSc : g_rw (u.2.1 1262) 120 0 1001) (hk : IK k u) (h_k : 0 ≤ x4 ∧ x4 < u.1 1247) (h_j : 0 ≤ x5 ∧ x5 ≤ u.1 1247) (h_D : (0 ≤ x ∧ x < u.1 1239) ∧ (0 ≤ y ∧ y < u.1 1239) ∧ ¬ x = y) (h_S : g_rw (uc.2.1 1262) 120 0 1001) (h_f : f_fi k (uc.2.1 1264)) (h_n : x3 = m_sm (fun i => m_sm (f_mg k (w_P k x y) i) (k.1 1247).toNatClampNeg) x4.toNatClampNeg + m_sm (f_mg k (w_P k x y) x4.toNatClampNeg) x5.toNatClampNeg) (hs_3 : 0 ≤ u.1 1247 ∧ u.1 1247 ≤ 120) (c55_4 : ¬ (u.1 1247) ≤ (x5 : Int32)) (hb_5 : 0 ≤ (u.2.1 1249 (x4 : Int32).toNatClampNeg) ∧ (u.2.1 1249 (x4 : Int32).toNatClampNeg) < u.1 1239) (hs_6 : 0 ≤ u.1 1239 ∧ u.1 1239 ≤ 8) (c67_7 : ¬ (u.2.1 1249 (x4 : Int32).toNatClampNeg : Int32) = x) : ((u.1 1247).toInt - x4.toInt).toNat * 256 + ((u.1 1247).toInt - (x5 + 1).toInt).toNat < ((u.1 1247).toInt - x4.toInt).toNat * 256 + ((u.1 1247).toInt - x5.toInt).toNat := by
  have q8 := hI.1.s1247; clear h_S h_f h_n; (try simp only [g_m1, Int32.lt_iff_toInt_lt, Int32.le_iff_toInt_le, ← Int32.toInt_inj, Int32.toInt_add, Int32.toInt_sub, Int32.toInt_mul, Int32.toInt_neg, Int32.reduceToInt, g_bm, g_bm'] at *); omega
set_option maxRecDepth 100000 in
theorem g_X12_meetings_f_v23 (u : qS) (x : Int32) (y : Int32) (k : qS) (x3 : Int32) (x4 : Int32) (x5 : Int32) (uc : qS) (hI : IM u) (hSc : g_rw (u.2.1 1262) 120 0 1001) (hk : IK k u) (h_k : 0 ≤ x4 ∧ x4 < u.1 1247) (h_j : 0 ≤ x5 ∧ x5 ≤ u.1 1247) (h_D : (0 ≤ x ∧ x < u.1 1239) ∧ (0 ≤ y ∧ y < u.1 1239) ∧ ¬ x = y) (h_S : g_rw (uc.2.1 1262) 120 0 1001) (h_f : f_fi k (uc.2.1 1264)) (h_n : x3 = m_sm (fun i => m_sm (f_mg k (w_P k x y) i) (k.1 1247).toNatClampNeg) x4.toNatClampNeg + m_sm (f_mg k (w_P k x y) x4.toNatClampNeg) x5.toNatClampNeg) (hs_3 : 0 ≤ u.1 1247 ∧ u.1 1247 ≤ 120) (c55_4 : ¬ (u.1 1247) ≤ (x5 : Int32)) (hb_5 : 0 ≤ (u.2.1 1249 (x4 : Int32).toNatClampNeg) ∧ (u.2.1 1249 (x4 : Int32).toNatClampNeg) < u.1 1239) (hs_6 : 0 ≤ u.1 1239 ∧ u.1 1239 ≤ 8) (c67_7 : (u.2.1 1249 (x4 : Int32).toNatClampNeg : Int32) = x) : vp_in (x5) 120 := by
  have q8 := hI.1.s1247; clear h_S h_f h_n; refine g_in ?_ ?_ <;> ((try simp only [g_m1, Int32.lt_iff_toInt_lt, Int32.le_iff_toInt_le, ← Int32.toInt_inj, Int32.reduceToInt] at *); omega)
set_option maxRecDepth 100000 in
theorem g_X12_meetings_f_v24 (u : qS) (x : Int32) (y : Int32) (k : qS) (x3 : Int32) (x4 : Int32) (x5 : Int32) (uc : qS) (hI : IM u) (hSc : g_rw (u.2.1 1262) 120 0 1001) (hk : IK k u) (h_k : 0 ≤ x4 ∧ x4 < u.1 1247) (h_j : 0 ≤ x5 ∧ x5 ≤ u.1 1247) (h_D : (0 ≤ x ∧ x < u.1 1239) ∧ (0 ≤ y ∧ y < u.1 1239) ∧ ¬ x = y) (h_S : g_rw (uc.2.1 1262) 120 0 1001) (h_f : f_fi k (uc.2.1 1264)) (h_n : x3 = m_sm (fun i => m_sm (f_mg k (w_P k x y) i) (k.1 1247).toNatClampNeg) x4.toNatClampNeg + m_sm (f_mg k (w_P k x y) x4.toNatClampNeg) x5.toNatClampNeg) (hs_3 : 0 ≤ u.1 1247 ∧ u.1 1247 ≤ 120) (c55_4 : ¬ (u.1 1247) ≤ (x5 : Int32)) (hb_5 : 0 ≤ (u.2.1 1249 (x4 : Int32).toNatClampNeg) ∧ (u.2.1 1249 (x4 : Int32).toNatClampNeg) < u.1 1239) (hs_6 : 0 ≤ u.1 1239 ∧ u.1 1239 ≤ 8) (c67_7 : (u.2.1 1249 (x4 : Int32).toNatClampNeg : Int32) = x) : 0 ≤ x5 ∧ x5 < u.1 1247 := by
  clear h_S h_f h_n; (try simp only [g_m1, Int32.lt_iff_toInt_lt, Int32.le_iff_toInt_le, ← Int32.toInt_inj, Int32.reduceToInt] at *); omega
set_option maxRecDepth 100000 in
theorem g_X12_meetings_f_v25 (u : qS) (x : Int32) (y : Int32) (k : qS) (x3 : Int32) (x4 : Int32) (x5 : Int32) (uc : qS) (hI : IM u) (hSc : g_rw (u.2.1 1262) 120 0 1001) (hk : IK k u) (h_k : 0 ≤ x4 ∧ x4 < u.1 1247) (h_j : 0 ≤ x5 ∧ x5 ≤ u.1 1247) (h_D : (0 ≤ x ∧ x < u.1 1239) ∧ (0 ≤ y ∧ y < u.1 1239) ∧ ¬ x = y) (h_S : g_rw (uc.2.1 1262) 120 0 1001) (h_f : f_fi k (uc.2.1 1264)) (h_n : x3 = m_sm (fun i => m_sm (f_mg k (w_P k x y) i) (k.1 1247).toNatClampNeg) x4.toNatClampNeg + m_sm (f_mg k (w_P k x y) x4.toNatClampNeg) x5.toNatClampNeg) (hs_3 : 0 ≤ u.1 1247 ∧ u.1 1247 ≤ 120) (c55_4 : ¬ (u.1 1247) ≤ (x5 : Int32)) (hb_5 : 0 ≤ (u.2.1 1249 (x4 : Int32).toNatClampNeg) ∧ (u.2.1 1249 (x4 : Int32).toNatClampNeg) < u.1 1239) (hs_6 : 0 ≤ u.1 1239 ∧ u.1 1239 ≤ 8) (c67_7 : (u.2.1 1249 (x4 : Int32).toNatClampNeg : Int32) = x) (hb_8 : 0 ≤ (u.2.1 1249 (x5 : Int32).toNatClampNeg) ∧ (u.2.1 1249 (x5 : Int32).toNatClampNeg) < u.1 1239) (c78_9 : ¬ (u.2.1 1249 (x5 : Int32).toNatClampNeg : Int32) = y) : 0 ≤ x4 ∧ x4 < u.1 1247 := by
  clear h_S h_f h_n; (try simp only [g_m1, Int32.lt_iff_toInt_lt, Int32.le_iff_toInt_le, ← Int32.toInt_inj, Int32.reduceToInt] at *); omega
set_option maxRecDepth 100000 in
theorem g_X12_meetings_f_v26 (u : qS) (x : Int32) (y : Int32) (k : qS) (x3 : Int32) (x4 : Int32) (x5 : Int32) (uc : qS) (hI : IM u) (hSc : g_rw (u.2.1 1262) 120 0 1001) (hk : IK k u) (h_k : 0 ≤ x4 ∧ x4 < u.1 1247) (h_j : 0 ≤ x5 ∧ x5 ≤ u.1 1247) (h_D : (0 ≤ x ∧ x < u.1 1239) ∧ (0 ≤ y ∧ y < u.1 1239) ∧ ¬ x = y) (h_S : g_rw (uc.2.1 1262) 120 0 1001) (h_f : f_fi k (uc.2.1 1264)) (h_n : x3 = m_sm (fun i => m_sm (f_mg k (w_P k x y) i) (k.1 1247).toNatClampNeg) x4.toNatClampNeg + m_sm (f_mg k (w_P k x y) x4.toNatClampNeg) x5.toNatClampNeg) (hs_3 : 0 ≤ u.1 1247 ∧ u.1 1247 ≤ 120) (c55_4 : ¬ (u.1 1247) ≤ (x5 : Int32)) (hb_5 : 0 ≤ (u.2.1 1249 (x4 : Int32).toNatClampNeg) ∧ (u.2.1 1249 (x4 : Int32).toNatClampNeg) < u.1 1239) (hs_6 : 0 ≤ u.1 1239 ∧ u.1 1239 ≤ 8) (c67_7 : (u.2.1 1249 (x4 : Int32).toNatClampNeg : Int32) = x) (hb_8 : 0 ≤ (u.2.1 1249 (x5 : Int32).toNatClampNeg) ∧ (u.2.1 1249 (x5 : Int32).toNatClampNeg) < u.1 1239) (c78_9 : ¬ (u.2.1 1249 (x5 : Int32).toNatClampNeg : Int32) = y) : 0 ≤ (x5 + 1) ∧ (x5 + 1) ≤ u.1 1247 := by
  have q8 := hI.1.s1247; clear h_S h_f h_n; (try simp only [g_m1, Int32.lt_iff_toInt_lt, Int32.le_iff_toInt_le, ← Int32.toInt_inj, Int32.toInt_add, Int32.toInt_sub, Int32.toInt_mul, Int32.toInt_neg, Int32.reduceToInt, g_bm, g_bm'] at *); omega
set_option maxRecDepth 100000 in
theorem g_X12_meetings_f_v27 (u : qS) (x : Int32) (y : Int32) (k : qS) (x3 : Int32) (x4 : Int32) (x5 : Int32) (uc : qS) (hI : IM u) (hSc : g_rw (u.2.1 1262) 120 0 1001) (hk : IK k u) (h_k : 0 ≤ x4 ∧ x4 < u.1 1247) (h_j : 0 ≤ x5 ∧ x5 ≤ u.1 1247) (h_D : (0 ≤ x ∧ x < u.1 1239) ∧ (0 ≤ y ∧ y < u.1 1239) ∧ ¬ x = y) (h_S : g_rw (uc.2.1 1262) 120 0 1001) (h_f : f_fi k (uc.2.1 1264)) (h_n : x3 = m_sm (fun i => m_sm (f_mg k (w_P k x y) i) (k.1 1247).toNatClampNeg) x4.toNatClampNeg + m_sm (f_mg k (w_P k x y) x4.toNatClampNeg) x5.toNatClampNeg) (hs_3 : 0 ≤ u.1 1247 ∧ u.1 1247 ≤ 120) (c55_4 : ¬ (u.1 1247) ≤ (x5 : Int32)) (hb_5 : 0 ≤ (u.2.1 1249 (x4 : Int32).toNatClampNeg) ∧ (u.2.1 1249 (x4 : Int32).toNatClampNeg) < u.1 1239) (hs_6 : 0 ≤ u.1 1239 ∧ u.1 1239 ≤ 8) (c67_7 : (u.2.1 1249 (x4 : Int32).toNatClampNeg : Int32) = x) (hb_8 : 0 ≤ (u.2.1 1249 (x5 : Int32).toNatClampNeg) ∧ (u.2.1 1249 (x5 : Int32).toNatClampNeg) < u.1 1239) (c78_9 : ¬ (u.2.1 1249 (x5 : Int32).toNatClampNeg : Int32) = y) : (0 ≤ x ∧ x < u.1 1239) ∧ (0 ≤ y ∧ y < u.1 1239) ∧ ¬ x = y := by
  exact h_D
set_option maxRecDepth 100000 in
theorem g_X12_meetings_f_v28 (u : qS) (x : Int32) (y : Int32) (k : qS) (x3 : Int32) (x4 : Int32) (x5 : Int32) (uc : qS) (hI : IM u) (hSc : g_rw (u.2.1 1262) 120 0 1001) (hk : IK k u) (h_k : 0 ≤ x4 ∧ x4 < u.1 1247) (h_j : 0 ≤ x5 ∧ x5 ≤ u.1 1247) (h_D : (0 ≤ x ∧ x < u.1 1239) ∧ (0 ≤ y ∧ y < u.1 1239) ∧ ¬ x = y) (h_S : g_rw (uc.2.1 1262) 120 0 1001) (h_f : f_fi k (uc.2.1 1264)) (h_n : x3 = m_sm (fun i => m_sm (f_mg k (w_P k x y) i) (k.1 1247).toNatClampNeg) x4.toNatClampNeg + m_sm (f_mg k (w_P k x y) x4.toNatClampNeg) x5.toNatClampNeg) (hs_3 : 0 ≤ u.1 1247 ∧ u.1 1247 ≤ 120) (c55_4 : ¬ (u.1 1247) ≤ (x5 : Int32)) (hb_5 : 0 ≤ (u.2.1 1249 (x4 : Int32).toNatClampNeg) ∧ (u.2.1 1249 (x4 : Int32).toNatClampNeg) < u.1 1239) (hs_6 : 0 ≤ u.1 1239 ∧ u.1 1239 ≤ 8) (c67_7 : (u.2.1 1249 (x4 : Int32).toNatClampNeg : Int32) = x) (hb_8 : 0 ≤ (u.2.1 1249 (x5 : Int32).toNatClampNeg) ∧ (u.2.1 1249 (x5 : Int32).toNatClampNeg) < u.1 1239) (c78_9 : ¬ (u.2.1 1249 (x5 : Int32).toNatClampNeg : Int32) = y) : g_rw ((uc.2.1 1262)) 120 0 1001 := by
  exact h_S
set_option maxRecDepth 100000 in
theorem g_X12_meetings_f_v29 (u : qS) (x : Int32) (y : Int32) (k : qS) (x3 : Int32) (x4 : Int32) (x5 : Int32) (uc : qS) (hI : IM u) (hSc : g_rw (u.2.1 1262) 120 0 1001) (hk : IK k u) (h_k : 0 ≤ x4 ∧ x4 < u.1 1247) (h_j : 0 ≤ x5 ∧ x5 ≤ u.1 1247) (h_D : (0 ≤ x ∧ x < u.1 1239) ∧ (0 ≤ y ∧ y < u.1 1239) ∧ ¬ x = y) (h_S : g_rw (uc.2.1 1262) 120 0 1001) (h_f : f_fi k (uc.2.1 1264)) (h_n : x3 = m_sm (fun i => m_sm (f_mg k (w_P k x y) i) (k.1 1247).toNatClampNeg) x4.toNatClampNeg + m_sm (f_mg k (w_P k x y) x4.toNatClampNeg) x5.toNatClampNeg) (hs_3 : 0 ≤ u.1 1247 ∧ u.1 1247 ≤ 120) (c55_4 : ¬ (u.1 1247) ≤ (x5 : Int32)) (hb_5 : 0 ≤ (u.2.1 1249 (x4 : Int32).toNatClampNeg) ∧ (u.2.1 1249 (x4 : Int32).toNatClampNeg) < u.1 1239) (hs_6 : 0 ≤ u.1 1239 ∧ u.1 1239 ≤ 8) (c67_7 : (u.2.1 1249 (x4 : Int32).toNatClampNeg : Int32) = x) (hb_8 : 0 ≤ (u.2.1 1249 (x5 : Int32).toNatClampNeg) ∧ (u.2.1 1249 (x5 : Int32).toNatClampNeg) < u.1 1239) (c78_9 : ¬ (u.2.1 1249 (x5 : Int32).toNatClampNeg : Int32) = y) : f_fi k ((uc.2.1 1264)) := by
  exact h_f
set_option maxRecDepth 100000 in
theorem g_X12_meetings_f_v30 (u : qS) (x : Int32) (y : Int32) (k : qS) (x3 : Int32) (x4 : Int32) (x5 : Int32) (uc : qS) (hI : IM u) (hSc : g_rw (u.2.1 1262) 120 0 1001) (hk : IK k u) (h_k : 0 ≤ x4 ∧ x4 < u.1 1247) (h_j : 0 ≤ x5 ∧ x5 ≤ u.1 1247) (h_D : (0 ≤ x ∧ x < u.1 1239) ∧ (0 ≤ y ∧ y < u.1 1239) ∧ ¬ x = y) (h_S : g_rw (uc.2.1 1262) 120 0 1001) (h_f : f_fi k (uc.2.1 1264)) (h_n : x3 = m_sm (fun i => m_sm (f_mg k (w_P k x y) i) (k.1 1247).toNatClampNeg) x4.toNatClampNeg + m_sm (f_mg k (w_P k x y) x4.toNatClampNeg) x5.toNatClampNeg) (hs_3 : 0 ≤ u.1 1247 ∧ u.1 1247 ≤ 120) (c55_4 : ¬ (u.1 1247) ≤ (x5 : Int32)) (hb_5 : 0 ≤ (u.2.1 1249 (x4 : Int32).toNatClampNeg) ∧ (u.2.1 1249 (x4 : Int32).toNatClampNeg) < u.1 1239) (hs_6 : 0 ≤ u.1 1239 ∧ u.1 1239 ≤ 8) (c67_7 : (u.2.1 1249 (x4 : Int32).toNatClampNeg : Int32) = x) (hb_8 : 0 ≤ (u.2.1 1249 (x5 : Int32).toNatClampNeg) ∧ (u.2.1 1249 (x5 : Int32).toNatClampNeg) < u.1 1239) (c78_9 : ¬ (u.2.1 1249 (x5 : Int32).toNatClampNeg : Int32) = y) : (x3 + 0) = m_sm (fun i => m_sm (f_mg k (w_P k x y) i) (k.1 1247).toNatClampNeg) x4.toNatClampNeg + m_sm (f_mg k (w_P k x y) x4.toNatClampNeg) (x5 + 1).toNatClampNeg := by
  have k49 := hk.r 1249 (by decide)
  have q8 := hI.1.s1247
  have qv : 0 ≤ x5.toInt ∧ x5.toInt < 1000 := (by clear h_S h_f h_n; (try simp only [g_m1, Int32.lt_iff_toInt_lt, Int32.le_iff_toInt_le, ← Int32.toInt_inj, Int32.reduceToInt] at *); omega)
  have e_x5 := (g_up (i := x5) qv.1 (by omega)).2
  have p4 : 0 ≤ x4.toInt := (by clear h_S h_f h_n; (try simp only [g_m1, Int32.lt_iff_toInt_lt, Int32.le_iff_toInt_le, ← Int32.toInt_inj, Int32.reduceToInt] at *); omega)
  have p5 := qv.1
  rw [e_x5, m_sm_s]
  first
  | (rw [m_pt (by assumption : f_mt k x4 x5) p4 p5 (by rw [← k49]; assumption) (by rw [← k49]; assumption), h_n]; ac_rfl)
  | (rw [m_p0 p4 p5 (fun q1 _ _ => absurd q1 (by assumption)), h_n]; ac_rfl)
  | (rw [m_p0 p4 p5 (fun _ q2 _ => (by rw [← k49] at q2; exact absurd q2 (by assumption))), h_n]; ac_rfl)
  | (rw [m_p0 p4 p5 (fun _ _ q3 => (by rw [← k49] at q3; exact absurd q3 (by assumption))), h_n]; ac_rfl)
set_option maxRecDepth 100000 in
theorem g_X12_meetings_f_v31 (u : qS) (x : Int32) (y : Int32) (k : qS) (x3 : Int32) (x4 : Int32) (x5 : Int32) (uc : qS) (hI : IM u) (hSc : g_rw (u.2.1 1262) 120 0 1001) (hk : IK k u) (h_k : 0 ≤ x4 ∧ x4 < u.1 1247) (h_j : 0 ≤ x5 ∧ x5 ≤ u.1 1247) (h_D : (0 ≤ x ∧ x < u.1 1239) ∧ (0 ≤ y ∧ y < u.1 1239) ∧ ¬ x = y) (h_S : g_rw (uc.2.1 1262) 120 0 1001) (h_f : f_fi k (uc.2.1 1264)) (h_n : x3 = m_sm (fun i => m_sm (f_mg k (w_P k x y) i) (k.1 1247).toNatClampNeg) x4.toNatClampNeg + m_sm (f_mg k (w_P k x y) x4.toNatClampNeg) x5.toNatClampNeg) (hs_3 : 0 ≤ u.1 1247 ∧ u.1 1247 ≤ 120) (c55_4 : ¬ (u.1 1247) ≤ (x5 : Int32)) (hb_5 : 0 ≤ (u.2.1 1249 (x4 : Int32).toNatClampNeg) ∧ (u.2.1 1249 (x4 : Int32).toNatClampNeg) < u.1 1239) (hs_6 : 0 ≤ u.1 1239 ∧ u.1 1239 ≤ 8) (c67_7 : (u.2.1 1249 (x4 : Int32).toNatClampNeg : Int32) = x) (hb_8 : 0 ≤ (u.2.1 1249 (x5 : Int32).toNatClampNeg) ∧ (u.2.1 1249 (x5 : Int32).toNatClampNeg) < u.1 1239) (c78_9 : ¬ (u.2.1 1249 (x5 : Int32).toNatClampNeg : Int32) = y) : ((u.1 1247).toInt - x4.toInt).toNat * 256 + ((u.1 1247).toInt - (x5 + 1).toInt).toNat < ((u.1 1247).toInt - x4.toInt).toNat * 256 + ((u.1 1247).toInt - x5.toInt).toNat := by
  have q8 := hI.1.s1247; clear h_S h_f h_n; (try simp only [g_m1, Int32.lt_iff_toInt_lt, Int32.le_iff_toInt_le, ← Int32.toInt_inj, Int32.toInt_add, Int32.toInt_sub, Int32.toInt_mul, Int32.toInt_neg, Int32.reduceToInt, g_bm, g_bm'] at *); omega
set_option maxRecDepth 100000 in
theorem g_X12_meetings_f_v32 (u : qS) (x : Int32) (y : Int32) (k : qS) (x3 : Int32) (x4 : Int32) (x5 : Int32) (uc : qS) (hI : IM u) (hSc : g_rw (u.2.1 1262) 120 0 1001) (hk : IK k u) (h_k : 0 ≤ x4 ∧ x4 < u.1 1247) (h_j : 0 ≤ x5 ∧ x5 ≤ u.1 1247) (h_D : (0 ≤ x ∧ x < u.1 1239) ∧ (0 ≤ y ∧ y < u.1 1239) ∧ ¬ x = y) (h_S : g_rw (uc.2.1 1262) 120 0 1001) (h_f : f_fi k (uc.2.1 1264)) (h_n : x3 = m_sm (fun i => m_sm (f_mg k (w_P k x y) i) (k.1 1247).toNatClampNeg) x4.toNatClampNeg + m_sm (f_mg k (w_P k x y) x4.toNatClampNeg) x5.toNatClampNeg) (hs_3 : 0 ≤ u.1 1247 ∧ u.1 1247 ≤ 120) (c55_4 : ¬ (u.1 1247) ≤ (x5 : Int32)) (hb_5 : 0 ≤ (u.2.1 1249 (x4 : Int32).toNatClampNeg) ∧ (u.2.1 1249 (x4 : Int32).toNatClampNeg) < u.1 1239) (hs_6 : 0 ≤ u.1 1239 ∧ u.1 1239 ≤ 8) (c67_7 : (u.2.1 1249 (x4 : Int32).toNatClampNeg : Int32) = x) (hb_8 : 0 ≤ (u.2.1 1249 (x5 : Int32).toNatClampNeg) ∧ (u.2.1 1249 (x5 : Int32).toNatClampNeg) < u.1 1239) (c78_9 : (u.2.1 1249 (x5 : Int32).toNatClampNeg : Int32) = y) : f_fi k ((uc.2.1 1264)) := by
  exact h_f
set_option maxRecDepth 100000 in
theorem g_X12_meetings_f_v33 (u : qS) (x : Int32) (y : Int32) (k : qS) (x3 : Int32) (x4 : Int32) (x5 : Int32) (uc : qS) (hI : IM u) (hSc : g_rw (u.2.1 1262) 120 0 1001) (hk : IK k u) (h_k : 0 ≤ x4 ∧ x4 < u.1 1247) (h_j : 0 ≤ x5 ∧ x5 ≤ u.1 1247) (h_D : (0 ≤ x ∧ x < u.1 1239) ∧ (0 ≤ y ∧ y < u.1 1239) ∧ ¬ x = y) (h_S : g_rw (uc.2.1 1262) 120 0 1001) (h_f : f_fi k (uc.2.1 1264)) (h_n : x3 = m_sm (fun i => m_sm (f_mg k (w_P k x y) i) (k.1 1247).toNatClampNeg) x4.toNatClampNeg + m_sm (f_mg k (w_P k x y) x4.toNatClampNeg) x5.toNatClampNeg) (hs_3 : 0 ≤ u.1 1247 ∧ u.1 1247 ≤ 120) (c55_4 : ¬ (u.1 1247) ≤ (x5 : Int32)) (hb_5 : 0 ≤ (u.2.1 1249 (x4 : Int32).toNatClampNeg) ∧ (u.2.1 1249 (x4 : Int32).toNatClampNeg) < u.1 1239) (hs_6 : 0 ≤ u.1 1239 ∧ u.1 1239 ≤ 8) (c67_7 : (u.2.1 1249 (x4 : Int32).toNatClampNeg : Int32) = x) (hb_8 : 0 ≤ (u.2.1 1249 (x5 : Int32).toNatClampNeg) ∧ (u.2.1 1249 (x5 : Int32).toNatClampNeg) < u.1 1239) (c78_9 : (u.2.1 1249 (x5 : Int32).toNatClampNeg : Int32) = y) (b86_13 : f_mt k x4 x5) : 0 ≤ x4 ∧ x4 < u.1 1247 := by
  clear h_S h_f h_n; (try simp only [g_m1, Int32.lt_iff_toInt_lt, Int32.le_iff_toInt_le, ← Int32.toInt_inj, Int32.reduceToInt] at *); omega
set_option maxRecDepth 100000 in
theorem g_X12_meetings_f_v34 (u : qS) (x : Int32) (y : Int32) (k : qS) (x3 : Int32) (x4 : Int32) (x5 : Int32) (uc : qS) (hI : IM u) (hSc : g_rw (u.2.1 1262) 120 0 1001) (hk : IK k u) (h_k : 0 ≤ x4 ∧ x4 < u.1 1247) (h_j : 0 ≤ x5 ∧ x5 ≤ u.1 1247) (h_D : (0 ≤ x ∧ x < u.1 1239) ∧ (0 ≤ y ∧ y < u.1 1239) ∧ ¬ x = y) (h_S : g_rw (uc.2.1 1262) 120 0 1001) (h_f : f_fi k (uc.2.1 1264)) (h_n : x3 = m_sm (fun i => m_sm (f_mg k (w_P k x y) i) (k.1 1247).toNatClampNeg) x4.toNatClampNeg + m_sm (f_mg k (w_P k x y) x4.toNatClampNeg) x5.toNatClampNeg) (hs_3 : 0 ≤ u.1 1247 ∧ u.1 1247 ≤ 120) (c55_4 : ¬ (u.1 1247) ≤ (x5 : Int32)) (hb_5 : 0 ≤ (u.2.1 1249 (x4 : Int32).toNatClampNeg) ∧ (u.2.1 1249 (x4 : Int32).toNatClampNeg) < u.1 1239) (hs_6 : 0 ≤ u.1 1239 ∧ u.1 1239 ≤ 8) (c67_7 : (u.2.1 1249 (x4 : Int32).toNatClampNeg : Int32) = x) (hb_8 : 0 ≤ (u.2.1 1249 (x5 : Int32).toNatClampNeg) ∧ (u.2.1 1249 (x5 : Int32).toNatClampNeg) < u.1 1239) (c78_9 : (u.2.1 1249 (x5 : Int32).toNatClampNeg : Int32) = y) (b86_13 : f_mt k x4 x5) : 0 ≤ (x5 + 1) ∧ (x5 + 1) ≤ u.1 1247 := by
  have q8 := hI.1.s1247; clear h_S h_f h_n; (try simp only [g_m1, Int32.lt_iff_toInt_lt, Int32.le_iff_toInt_le, ← Int32.toInt_inj, Int32.toInt_add, Int32.toInt_sub, Int32.toInt_mul, Int32.toInt_neg, Int32.reduceToInt, g_bm, g_bm'] at *); omega
set_option maxRecDepth 100000 in
theorem g_X12_meetings_f_v35 (u : qS) (x : Int32) (y : Int32) (k : qS) (x3 : Int32) (x4 : Int32) (x5 : Int32) (uc : qS) (hI : IM u) (hSc : g_rw (u.2.1 1262) 120 0 1001) (hk : IK k u) (h_k : 0 ≤ x4 ∧ x4 < u.1 1247) (h_j : 0 ≤ x5 ∧ x5 ≤ u.1 1247) (h_D : (0 ≤ x ∧ x < u.1 1239) ∧ (0 ≤ y ∧ y < u.1 1239) ∧ ¬ x = y) (h_S : g_rw (uc.2.1 1262) 120 0 1001) (h_f : f_fi k (uc.2.1 1264)) (h_n : x3 = m_sm (fun i => m_sm (f_mg k (w_P k x y) i) (k.1 1247).toNatClampNeg) x4.toNatClampNeg + m_sm (f_mg k (w_P k x y) x4.toNatClampNeg) x5.toNatClampNeg) (hs_3 : 0 ≤ u.1 1247 ∧ u.1 1247 ≤ 120) (c55_4 : ¬ (u.1 1247) ≤ (x5 : Int32)) (hb_5 : 0 ≤ (u.2.1 1249 (x4 : Int32).toNatClampNeg) ∧ (u.2.1 1249 (x4 : Int32).toNatClampNeg) < u.1 1239) (hs_6 : 0 ≤ u.1 1239 ∧ u.1 1239 ≤ 8) (c67_7 : (u.2.1 1249 (x4 : Int32).toNatClampNeg : Int32) = x) (hb_8 : 0 ≤ (u.2.1 1249 (x5 : Int32).toNatClampNeg) ∧ (u.2.1 1249 (x5 : Int32).toNatClampNeg) < u.1 1239) (c78_9 : (u.2.1 1249 (x5 : Int32).toNatClampNeg : Int32) = y) (b86_13 : f_mt k x4 x5) : (0 ≤ x ∧ x < u.1 1239) ∧ (0 ≤ y ∧ y < u.1 1239) ∧ ¬ x = y := by
  exact h_D
set_option maxRecDepth 100000 in
theorem g_X12_meetings_f_v36 (u : qS) (x : Int32) (y : Int32) (k : qS) (x3 : Int32) (x4 : Int32) (x5 : Int32) (uc : qS) (hI : IM u) (hSc : g_rw (u.2.1 1262) 120 0 1001) (hk : IK k u) (h_k : 0 ≤ x4 ∧ x4 < u.1 1247) (h_j : 0 ≤ x5 ∧ x5 ≤ u.1 1247) (h_D : (0 ≤ x ∧ x < u.1 1239) ∧ (0 ≤ y ∧ y < u.1 1239) ∧ ¬ x = y) (h_S : g_rw (uc.2.1 1262) 120 0 1001) (h_f : f_fi k (uc.2.1 1264)) (h_n : x3 = m_sm (fun i => m_sm (f_mg k (w_P k x y) i) (k.1 1247).toNatClampNeg) x4.toNatClampNeg + m_sm (f_mg k (w_P k x y) x4.toNatClampNeg) x5.toNatClampNeg) (hs_3 : 0 ≤ u.1 1247 ∧ u.1 1247 ≤ 120) (c55_4 : ¬ (u.1 1247) ≤ (x5 : Int32)) (hb_5 : 0 ≤ (u.2.1 1249 (x4 : Int32).toNatClampNeg) ∧ (u.2.1 1249 (x4 : Int32).toNatClampNeg) < u.1 1239) (hs_6 : 0 ≤ u.1 1239 ∧ u.1 1239 ≤ 8) (c67_7 : (u.2.1 1249 (x4 : Int32).toNatClampNeg : Int32) = x) (hb_8 : 0 ≤ (u.2.1 1249 (x5 : Int32).toNatClampNeg) ∧ (u.2.1 1249 (x5 : Int32).toNatClampNeg) < u.1 1239) (c78_9 : (u.2.1 1249 (x5 : Int32).toNatClampNeg : Int32) = y) (b86_13 : f_mt k x4 x5) : g_rw ((uc.2.1 1262)) 120 0 1001 := by
  exact h_S
set_option maxRecDepth 100000 in
theorem g_X12_meetings_f_v37 (u : qS) (x : Int32) (y : Int32) (k : qS) (x3 : Int32) (x4 : Int32) (x5 : Int32) (uc : qS) (hI : IM u) (hSc : g_rw (u.2.1 1262) 120 0 1001) (hk : IK k u) (h_k : 0 ≤ x4 ∧ x4 < u.1 1247) (h_j : 0 ≤ x5 ∧ x5 ≤ u.1 1247) (h_D : (0 ≤ x ∧ x < u.1 1239) ∧ (0 ≤ y ∧ y < u.1 1239) ∧ ¬ x = y) (h_S : g_rw (uc.2.1 1262) 120 0 1001) (h_f : f_fi k (uc.2.1 1264)) (h_n : x3 = m_sm (fun i => m_sm (f_mg k (w_P k x y) i) (k.1 1247).toNatClampNeg) x4.toNatClampNeg + m_sm (f_mg k (w_P k x y) x4.toNatClampNeg) x5.toNatClampNeg) (hs_3 : 0 ≤ u.1 1247 ∧ u.1 1247 ≤ 120) (c55_4 : ¬ (u.1 1247) ≤ (x5 : Int32)) (hb_5 : 0 ≤ (u.2.1 1249 (x4 : Int32).toNatClampNeg) ∧ (u.2.1 1249 (x4 : Int32).toNatClampNeg) < u.1 1239) (hs_6 : 0 ≤ u.1 1239 ∧ u.1 1239 ≤ 8) (c67_7 : (u.2.1 1249 (x4 : Int32).toNatClampNeg : Int32) = x) (hb_8 : 0 ≤ (u.2.1 1249 (x5 : Int32).toNatClampNeg) ∧ (u.2.1 1249 (x5 : Int32).toNatClampNeg) < u.1 1239) (c78_9 : (u.2.1 1249 (x5 : Int32).toNatClampNeg : Int32) = y) (b86_13 : f_mt k x4 x5) : f_fi k ((uc.2.1 1264)) := by
  exact h_f
set_option maxRecDepth 100000 in
theorem g_X12_meetings_f_v38 (u : qS) (x : Int32) (y : Int32) (k : qS) (x3 : Int32) (x4 : Int32) (x5 : Int32) (uc : qS) (hI : IM u) (hSc : g_rw (u.2.1 1262) 120 0 1001) (hk : IK k u) (h_k : 0 ≤ x4 ∧ x4 < u.1 1247) (h_j : 0 ≤ x5 ∧ x5 ≤ u.1 1247) (h_D : (0 ≤ x ∧ x < u.1 1239) ∧ (0 ≤ y ∧ y < u.1 1239) ∧ ¬ x = y) (h_S : g_rw (uc.2.1 1262) 120 0 1001) (h_f : f_fi k (uc.2.1 1264)) (h_n : x3 = m_sm (fun i => m_sm (f_mg k (w_P k x y) i) (k.1 1247).toNatClampNeg) x4.toNatClampNeg + m_sm (f_mg k (w_P k x y) x4.toNatClampNeg) x5.toNatClampNeg) (hs_3 : 0 ≤ u.1 1247 ∧ u.1 1247 ≤ 120) (c55_4 : ¬ (u.1 1247) ≤ (x5 : Int32)) (hb_5 : 0 ≤ (u.2.1 1249 (x4 : Int32).toNatClampNeg) ∧ (u.2.1 1249 (x4 : Int32).toNatClampNeg) < u.1 1239) (hs_6 : 0 ≤ u.1 1239 ∧ u.1 1239 ≤ 8) (c67_7 : (u.2.1 1249 (x4 : Int32).toNatClampNeg : Int32) = x) (hb_8 : 0 ≤ (u.2.1 1249 (x5 : Int32).toNatClampNeg) ∧ (u.2.1 1249 (x5 : Int32).toNatClampNeg) < u.1 1239) (c78_9 : (u.2.1 1249 (x5 : Int32).toNatClampNeg : Int32) = y) (b86_13 : f_mt k x4 x5) : (x3 + 1) = m_sm (fun i => m_sm (f_mg k (w_P k x y) i) (k.1 1247).toNatClampNeg) x4.toNatClampNeg + m_sm (f_mg k (w_P k x y) x4.toNatClampNeg) (x5 + 1).toNatClampNeg := by
  have k49 := hk.r 1249 (by decide)
  have q8 := hI.1.s1247
  have qv : 0 ≤ x5.toInt ∧ x5.toInt < 1000 := (by clear h_S h_f h_n; (try simp only [g_m1, Int32.lt_iff_toInt_lt, Int32.le_iff_toInt_le, ← Int32.toInt_inj, Int32.reduceToInt] at *); omega)
  have e_x5 := (g_up (i := x5) qv.1 (by omega)).2
  have p4 : 0 ≤ x4.toInt := (by clear h_S h_f h_n; (try simp only [g_m1, Int32.lt_iff_toInt_lt, Int32.le_iff_toInt_le, ← Int32.toInt_inj, Int32.reduceToInt] at *); omega)
  have p5 := qv.1
  rw [e_x5, m_sm_s]
  first
  | (rw [m_pt (by assumption : f_mt k x4 x5) p4 p5 (by rw [← k49]; assumption) (by rw [← k49]; assumption), h_n]; ac_rfl)
  | (rw [m_p0 p4 p5 (fun q1 _ _ => absurd q1 (by assumption)), h_n]; ac_rfl)
  | (rw [m_p0 p4 p5 (fun _ q2 _ => (by rw [← k49] at q2; exact absurd q2 (by assumption))), h_n]; ac_rfl)
  | (rw [m_p0 p4 p5 (fun _ _ q3 => (by rw [← k49] at q3; exact absurd q3 (by assumption))), h_n]; ac_rfl)
set_option maxRecDepth 100000 in
theorem g_X12_meetings_f_v39 (u : qS) (x : Int32) (y : Int32) (k : qS) (x3 : Int32) (x4 : Int32) (x5 : Int32) (uc : qS) (hI : IM u) (hSc : g_rw (u.2.1 1262) 120 0 1001) (hk : IK k u) (h_k : 0 ≤ x4 ∧ x4 < u.1 1247) (h_j : 0 ≤ x5 ∧ x5 ≤ u.1 1247) (h_D : (0 ≤ x ∧ x < u.1 1239) ∧ (0 ≤ y ∧ y < u.1 1239) ∧ ¬ x = y) (h_S : g_rw (uc.2.1 1262) 120 0 1001) (h_f : f_fi k (uc.2.1 1264)) (h_n : x3 = m_sm (fun i => m_sm (f_mg k (w_P k x y) i) (k.1 1247).toNatClampNeg) x4.toNatClampNeg + m_sm (f_mg k (w_P k x y) x4.toNatClampNeg) x5.toNatClampNeg) (hs_3 : 0 ≤ u.1 1247 ∧ u.1 1247 ≤ 120) (c55_4 : ¬ (u.1 1247) ≤ (x5 : Int32)) (hb_5 : 0 ≤ (u.2.1 1249 (x4 : Int32).toNatClampNeg) ∧ (u.2.1 1249 (x4 : Int32).toNatClampNeg) < u.1 1239) (hs_6 : 0 ≤ u.1 1239 ∧ u.1 1239 ≤ 8) (c67_7 : (u.2.1 1249 (x4 : Int32).toNatClampNeg : Int32) = x) (hb_8 : 0 ≤ (u.2.1 1249 (x5 : Int32).toNatClampNeg) ∧ (u.2.1 1249 (x5 : Int32).toNatClampNeg) < u.1 1239) (c78_9 : (u.2.1 1249 (x5 : Int32).toNatClampNeg : Int32) = y) (b86_13 : f_mt k x4 x5) : ((u.1 1247).toInt - x4.toInt).toNat * 256 + ((u.1 1247).toInt - (x5 + 1).toInt).toNat < ((u.1 1247).toInt - x4.toInt).toNat * 256 + ((u.1 1247).toInt - x5.toInt).toNat := by
  have q8 := hI.1.s1247; clear h_S h_f h_n; (try simp only [g_m1, Int32.lt_iff_toInt_lt, Int32.le_iff_toInt_le, ← Int32.toInt_inj, Int32.toInt_add, Int32.toInt_sub, Int32.toInt_mul, Int32.toInt_neg, Int32.reduceToInt, g_bm, g_bm'] at *); omega
set_option maxRecDepth 100000 in
theorem g_X12_meetings_f_v40 (u : qS) (x : Int32) (y : Int32) (k : qS) (x3 : Int32) (x4 : Int32) (x5 : Int32) (uc : qS) (hI : IM u) (hSc : g_rw (u.2.1 1262) 120 0 1001) (hk : IK k u) (h_k : 0 ≤ x4 ∧ x4 < u.1 1247) (h_j : 0 ≤ x5 ∧ x5 ≤ u.1 1247) (h_D : (0 ≤ x ∧ x < u.1 1239) ∧ (0 ≤ y ∧ y < u.1 1239) ∧ ¬ x = y) (h_S : g_rw (uc.2.1 1262) 120 0 1001) (h_f : f_fi k (uc.2.1 1264)) (h_n : x3 = m_sm (fun i => m_sm (f_mg k (w_P k x y) i) (k.1 1247).toNatClampNeg) x4.toNatClampNeg + m_sm (f_mg k (w_P k x y) x4.toNatClampNeg) x5.toNatClampNeg) (hs_3 : 0 ≤ u.1 1247 ∧ u.1 1247 ≤ 120) (c55_4 : ¬ (u.1 1247) ≤ (x5 : Int32)) (hb_5 : 0 ≤ (u.2.1 1249 (x4 : Int32).toNatClampNeg) ∧ (u.2.1 1249 (x4 : Int32).toNatClampNeg) < u.1 1239) (hs_6 : 0 ≤ u.1 1239 ∧ u.1 1239 ≤ 8) (c67_7 : (u.2.1 1249 (x4 : Int32).toNatClampNeg : Int32) = x) (hb_8 : 0 ≤ (u.2.1 1249 (x5 : Int32).toNatClampNeg) ∧ (u.2.1 1249 (x5 : Int32).toNatClampNeg) < u.1 1239) (c78_9 : (u.2.1 1249 (x5 : Int32).toNatClampNeg : Int32) = y) (b86_13 : ¬ (f_mt k x4 x5)) : 0 ≤ x4 ∧ x4 < u.1 1247 := by
  clear h_S h_f h_n; (try simp only [g_m1, Int32.lt_iff_toInt_lt, Int32.le_iff_toInt_le, ← Int32.toInt_inj, Int32.reduceToInt] at *); omega
set_option maxRecDepth 100000 in
theorem g_X12_meetings_f_v41 (u : qS) (x : Int32) (y : Int32) (k : qS) (x3 : Int32) (x4 : Int32) (x5 : Int32) (uc : qS) (hI : IM u) (hSc : g_rw (u.2.1 1262) 120 0 1001) (hk : IK k u) (h_k : 0 ≤ x4 ∧ x4 < u.1 1247) (h_j : 0 ≤ x5 ∧ x5 ≤ u.1 1247) (h_D : (0 ≤ x ∧ x < u.1 1239) ∧ (0 ≤ y ∧ y < u.1 1239) ∧ ¬ x = y) (h_S : g_rw (uc.2.1 1262) 120 0 1001) (h_f : f_fi k (uc.2.1 1264)) (h_n : x3 = m_sm (fun i => m_sm (f_mg k (w_P k x y) i) (k.1 1247).toNatClampNeg) x4.toNatClampNeg + m_sm (f_mg k (w_P k x y) x4.toNatClampNeg) x5.toNatClampNeg) (hs_3 : 0 ≤ u.1 1247 ∧ u.1 1247 ≤ 120) (c55_4 : ¬ (u.1 1247) ≤ (x5 : Int32)) (hb_5 : 0 ≤ (u.2.1 1249 (x4 : Int32).toNatClampNeg) ∧ (u.2.1 1249 (x4 : Int32).toNatClampNeg) < u.1 1239) (hs_6 : 0 ≤ u.1 1239 ∧ u.1 1239 ≤ 8) (c67_7 : (u.2.1 1249 (x4 : Int32).toNatClampNeg : Int32) = x) (hb_8 : 0 ≤ (u.2.1 1249 (x5 : Int32).toNatClampNeg) ∧ (u.2.1 1249 (x5 : Int32).toNatClampNeg) < u.1 1239) (c78_9 : (u.2.1 1249 (x5 : Int32).toNatClampNeg : Int32) = y) (b86_13 : ¬ (f_mt k x4 x5)) : 0 ≤ (x5 + 1) ∧ (x5 + 1) ≤ u.1 1247 := by
  have q8 := hI.1.s1247; clear h_S h_f h_n; (try simp only [g_m1, Int32.lt_iff_toInt_lt, Int32.le_iff_toInt_le, ← Int32.toInt_inj, Int32.toInt_add, Int32.toInt_sub, Int32.toInt_mul, Int32.toInt_neg, Int32.reduceToInt, g_bm, g_bm'] at *); omega
set_option maxRecDepth 100000 in
theorem g_X12_meetings_f_v42 (u : qS) (x : Int32) (y : Int32) (k : qS) (x3 : Int32) (x4 : Int32) (x5 : Int32) (uc : qS) (hI : IM u) (hSc : g_rw (u.2.1 1262) 120 0 1001) (hk : IK k u) (h_k : 0 ≤ x4 ∧ x4 < u.1 1247) (h_j : 0 ≤ x5 ∧ x5 ≤ u.1 1247) (h_D : (0 ≤ x ∧ x < u.1 1239) ∧ (0 ≤ y ∧ y < u.1 1239) ∧ ¬ x = y) (h_S : g_rw (uc.2.1 1262) 120 0 1001) (h_f : f_fi k (uc.2.1 1264)) (h_n : x3 = m_sm (fun i => m_sm (f_mg k (w_P k x y) i) (k.1 1247).toNatClampNeg) x4.toNatClampNeg + m_sm (f_mg k (w_P k x y) x4.toNatClampNeg) x5.toNatClampNeg) (hs_3 : 0 ≤ u.1 1247 ∧ u.1 1247 ≤ 120) (c55_4 : ¬ (u.1 1247) ≤ (x5 : Int32)) (hb_5 : 0 ≤ (u.2.1 1249 (x4 : Int32).toNatClampNeg) ∧ (u.2.1 1249 (x4 : Int32).toNatClampNeg) < u.1 1239) (hs_6 : 0 ≤ u.1 1239 ∧ u.1 1239 ≤ 8) (c67_7 : (u.2.1 1249 (x4 : Int32).toNatClampNeg : Int32) = x) (hb_8 : 0 ≤ (u.2.1 1249 (x5 : Int32).toNatClampNeg) ∧ (u.2.1 1249 (x5 : Int32).toNatClampNeg) < u.1 1239) (c78_9 : (u.2.1 1249 (x5 : Int32).toNatClampNeg : Int32) = y) (b86_13 : ¬ (f_mt k x4 x5)) : (0 ≤ x ∧ x < u.1 1239) ∧ (0 ≤ y ∧ y < u.1 1239) ∧ ¬ x = y := by
  exact h_D
set_option maxRecDepth 100000 in
theorem g_X12_meetings_f_v43 (u : qS) (x : Int32) (y : Int32) (k : qS) (x3 : Int32) (x4 : Int32) (x5 : Int32) (uc : qS) (hI : IM u) (hSc : g_rw (u.2.1 1262) 120 0 1001) (hk : IK k u) (h_k : 0 ≤ x4 ∧ x4 < u.1 1247) (h_j : 0 ≤ x5 ∧ x5 ≤ u.1 1247) (h_D : (0 ≤ x ∧ x < u.1 1239) ∧ (0 ≤ y ∧ y < u.1 1239) ∧ ¬ x = y) (h_S : g_rw (uc.2.1 1262) 120 0 1001) (h_f : f_fi k (uc.2.1 1264)) (h_n : x3 = m_sm (fun i => m_sm (f_mg k (w_P k x y) i) (k.1 1247).toNatClampNeg) x4.toNatClampNeg + m_sm (f_mg k (w_P k x y) x4.toNatClampNeg) x5.toNatClampNeg) (hs_3 : 0 ≤ u.1 1247 ∧ u.1 1247 ≤ 120) (c55_4 : ¬ (u.1 1247) ≤ (x5 : Int32)) (hb_5 : 0 ≤ (u.2.1 1249 (x4 : Int32).toNatClampNeg) ∧ (u.2.1 1249 (x4 : Int32).toNatClampNeg) < u.1 1239) (hs_6 : 0 ≤ u.1 1239 ∧ u.1 1239 ≤ 8) (c67_7 : (u.2.1 1249 (x4 : Int32).toNatClampNeg : Int32) = x) (hb_8 : 0 ≤ (u.2.1 1249 (x5 : Int32).toNatClampNeg) ∧ (u.2.1 1249 (x5 : Int32).toNatClampNeg) < u.1 1239) (c78_9 : (u.2.1 1249 (x5 : Int32).toNatClampNeg : Int32) = y) (b86_13 : ¬ (f_mt k x4 x5)) : g_rw ((uc.2.1 1262)) 120 0 1001 := by
  exact h_S
set_option maxRecDepth 100000 in
theorem g_X12_meetings_f_v44 (u : qS) (x : Int32) (y : Int32) (k : qS) (x3 : Int32) (x4 : Int32) (x5 : Int32) (uc : qS) (hI : IM u) (hSc : g_rw (u.2.1 1262) 120 0 1001) (hk : IK k u) (h_k : 0 ≤ x4 ∧ x4 < u.1 1247) (h_j : 0 ≤ x5 ∧ x5 ≤ u.1 1247) (h_D : (0 ≤ x ∧ x < u.1 1239) ∧ (0 ≤ y ∧ y < u.1 1239) ∧ ¬ x = y) (h_S : g_rw (uc.2.1 1262) 120 0 1001) (h_f : f_fi k (uc.2.1 1264)) (h_n : x3 = m_sm (fun i => m_sm (f_mg k (w_P k x y) i) (k.1 1247).toNatClampNeg) x4.toNatClampNeg + m_sm (f_mg k (w_P k x y) x4.toNatClampNeg) x5.toNatClampNeg) (hs_3 : 0 ≤ u.1 1247 ∧ u.1 1247 ≤ 120) (c55_4 : ¬ (u.1 1247) ≤ (x5 : Int32)) (hb_5 : 0 ≤ (u.2.1 1249 (x4 : Int32).toNatClampNeg) ∧ (u.2.1 1249 (x4 : Int32).toNatClampNeg) < u.1 1239) (hs_6 : 0 ≤ u.1 1239 ∧ u.1 1239 ≤ 8) (c67_7 : (u.2.1 1249 (x4 : Int32).toNatClampNeg : Int32) = x) (hb_8 : 0 ≤ (u.2.1 1249 (x5 : Int32).toNatClampNeg) ∧ (u.2.1 1249 (x5 : Int32).toNatClampNeg) < u.1 1239) (c78_9 : (u.2.1 1249 (x5 : Int32).toNatClampNeg : Int32) = y) (b86_13 : ¬ (f_mt k x4 x5)) : f_fi k ((uc.2.1 1264)) := by
  exact h_f
set_option maxRecDepth 100000 in
theorem g_X12_meetings_f_v45 (u : qS) (x : Int32) (y : Int32) (k : qS) (x3 : Int32) (x4 : Int32) (x5 : Int32) (uc : qS) (hI : IM u) (hSc : g_rw (u.2.1 1262) 120 0 1001) (hk : IK k u) (h_k : 0 ≤ x4 ∧ x4 < u.1 1247) (h_j : 0 ≤ x5 ∧ x5 ≤ u.1 1247) (h_D : (0 ≤ x ∧ x < u.1 1239) ∧ (0 ≤ y ∧ y < u.1 1239) ∧ ¬ x = y) (h_S : g_rw (uc.2.1 1262) 120 0 1001) (h_f : f_fi k (uc.2.1 1264)) (h_n : x3 = m_sm (fun i => m_sm (f_mg k (w_P k x y) i) (k.1 1247).toNatClampNeg) x4.toNatClampNeg + m_sm (f_mg k (w_P k x y) x4.toNatClampNeg) x5.toNatClampNeg) (hs_3 : 0 ≤ u.1 1247 ∧ u.1 1247 ≤ 120) (c55_4 : ¬ (u.1 1247) ≤ (x5 : Int32)) (hb_5 : 0 ≤ (u.2.1 1249 (x4 : Int32).toNatClampNeg) ∧ (u.2.1 1249 (x4 : Int32).toNatClampNeg) < u.1 1239) (hs_6 : 0 ≤ u.1 1239 ∧ u.1 1239 ≤ 8) (c67_7 : (u.2.1 1249 (x4 : Int32).toNatClampNeg : Int32) = x) (hb_8 : 0 ≤ (u.2.1 1249 (x5 : Int32).toNatClampNeg) ∧ (u.2.1 1249 (x5 : Int32).toNatClampNeg) < u.1 1239) (c78_9 : (u.2.1 1249 (x5 : Int32).toNatClampNeg : Int32) = y) (b86_13 : ¬ (f_mt k x4 x5)) : (x3 + 0) = m_sm (fun i => m_sm (f_mg k (w_P k x y) i) (k.1 1247).toNatClampNeg) x4.toNatClampNeg + m_sm (f_mg k (w_P k x y) x4.toNatClampNeg) (x5 + 1).toNatClampNeg := by
  have k49 := hk.r 1249 (by decide)
  have q8 := hI.1.s1247
  have qv : 0 ≤ x5.toInt ∧ x5.toInt < 1000 := (by clear h_S h_f h_n; (try simp only [g_m1, Int32.lt_iff_toInt_lt, Int32.le_iff_toInt_le, ← Int32.toInt_inj, Int32.reduceToInt] at *); omega)
  have e_x5 := (g_up (i := x5) qv.1 (by omega)).2
  have p4 : 0 ≤ x4.toInt := (by clear h_S h_f h_n; (try simp only [g_m1, Int32.lt_iff_toInt_lt, Int32.le_iff_toInt_le, ← Int32.toInt_inj, Int32.reduceToInt] at *); omega)
  have p5 := qv.1
  rw [e_x5, m_sm_s]
  first
  | (rw [m_pt (by assumption : f_mt k x4 x5) p4 p5 (by rw [← k49]; assumption) (by rw [← k49]; assumption), h_n]; ac_rfl)
  | (rw [m_p0 p4 p5 (fun q1 _ _ => absurd q1 (by assumption)), h_n]; ac_rfl)
  | (rw [m_p0 p4 p5 (fun _ q2 _ => (by rw [← k49] at q2; exact absurd q2 (by assumption))), h_n]; ac_rfl)
  | (rw [m_p0 p4 p5 (fun _ _ q3 => (by rw [← k49] at q3; exact absurd q3 (by assumption))), h_n]; ac_rfl)
set_option maxRecDepth 100000 in
theorem g_X12_meetings_f_v46 (u : qS) (x : Int32) (y : Int32) (k : qS) (x3 : Int32) (x4 : Int32) (x5 : Int32) (uc : qS) (hI : IM u) (hSc : g_rw (u.2.1 1262) 120 0 1001) (hk : IK k u) (h_k : 0 ≤ x4 ∧ x4 < u.1 1247) (h_j : 0 ≤ x5 ∧ x5 ≤ u.1 1247) (h_D : (0 ≤ x ∧ x < u.1 1239) ∧ (0 ≤ y ∧ y < u.1 1239) ∧ ¬ x = y) (h_S : g_rw (uc.2.1 1262) 120 0 1001) (h_f : f_fi k (uc.2.1 1264)) (h_n : x3 = m_sm (fun i => m_sm (f_mg k (w_P k x y) i) (k.1 1247).toNatClampNeg) x4.toNatClampNeg + m_sm (f_mg k (w_P k x y) x4.toNatClampNeg) x5.toNatClampNeg) (hs_3 : 0 ≤ u.1 1247 ∧ u.1 1247 ≤ 120) (c55_4 : ¬ (u.1 1247) ≤ (x5 : Int32)) (hb_5 : 0 ≤ (u.2.1 1249 (x4 : Int32).toNatClampNeg) ∧ (u.2.1 1249 (x4 : Int32).toNatClampNeg) < u.1 1239) (hs_6 : 0 ≤ u.1 1239 ∧ u.1 1239 ≤ 8) (c67_7 : (u.2.1 1249 (x4 : Int32).toNatClampNeg : Int32) = x) (hb_8 : 0 ≤ (u.2.1 1249 (x5 : Int32).toNatClampNeg) ∧ (u.2.1 1249 (x5 : Int32).toNatClampNeg) < u.1 1239) (c78_9 : (u.2.1 1249 (x5 : Int32).toNatClampNeg : Int32) = y) (b86_13 : ¬ (f_mt k x4 x5)) : ((u.1 1247).toInt - x4.toInt).toNat * 256 + ((u.1 1247).toInt - (x5 + 1).toInt).toNat < ((u.1 1247).toInt - x4.toInt).toNat * 256 + ((u.1 1247).toInt - x5.toInt).toNat := by
  have q8 := hI.1.s1247; clear h_S h_f h_n; (try simp only [g_m1, Int32.lt_iff_toInt_lt, Int32.le_iff_toInt_le, ← Int32.toInt_inj, Int32.toInt_add, Int32.toInt_sub, Int32.toInt_mul, Int32.toInt_neg, Int32.reduceToInt, g_bm, g_bm'] at *); omega
set_option maxRecDepth 100000 in
theorem g_X12_meetings_f_v47 (u : qS) (x : Int32) (y : Int32) (k : qS) (hI : IM u) (hSc : g_rw (u.2.1 1262) 120 0 1001) (hk : IK k u) (b7_17 : 0 ≤ x ∧ x < (u.1 1239 : Int32)) (b15_21 : 0 ≤ y ∧ y < (u.1 1239 : Int32)) (c23_22 : ¬ (x : Int32) = y) : g_rw ((u.2.1 1262)) 120 0 1001 := by
  have hz1239 := hI.1.s1239
  assumption
set_option maxRecDepth 100000 in
theorem g_X12_meetings_f_v48 (u : qS) (x : Int32) (y : Int32) (k : qS) (u_23 : qS) (hI : IM u) (hSc : g_rw (u.2.1 1262) 120 0 1001) (hk : IK k u) (b7_17 : 0 ≤ x ∧ x < (u.1 1239 : Int32)) (b15_21 : 0 ≤ y ∧ y < (u.1 1239 : Int32)) (c23_22 : ¬ (x : Int32) = y) (hw_24 : g_rw (u_23.2.1 1262) 120 0 1001 ∧ f_fi k (u_23.2.1 1264)) : 0 ≤ (0 : Int32) ∧ (0 : Int32) ≤ u.1 1247 := by
  have hz1247 := hI.1.s1247
  have hz1239 := hI.1.s1239
  have q8 := hI.1.s1247; (try simp only [g_m1, Int32.lt_iff_toInt_lt, Int32.le_iff_toInt_le, ← Int32.toInt_inj, Int32.reduceToInt] at *); omega
set_option maxRecDepth 100000 in
theorem g_X12_meetings_f_v49 (u : qS) (x : Int32) (y : Int32) (k : qS) (u_23 : qS) (hI : IM u) (hSc : g_rw (u.2.1 1262) 120 0 1001) (hk : IK k u) (b7_17 : 0 ≤ x ∧ x < (u.1 1239 : Int32)) (b15_21 : 0 ≤ y ∧ y < (u.1 1239 : Int32)) (c23_22 : ¬ (x : Int32) = y) (hw_24 : g_rw (u_23.2.1 1262) 120 0 1001 ∧ f_fi k (u_23.2.1 1264)) : (0 ≤ x ∧ x < u.1 1239) ∧ (0 ≤ y ∧ y < u.1 1239) ∧ ¬ x = y := by
  have hz1239 := hI.1.s1239
  exact ⟨by assumption, by assumption, by assumption⟩
set_option maxRecDepth 100000 in
theorem g_X12_meetings_f_v50 (u : qS) (x : Int32) (y : Int32) (k : qS) (u_23 : qS) (hI : IM u) (hSc : g_rw (u.2.1 1262) 120 0 1001) (hk : IK k u) (b7_17 : 0 ≤ x ∧ x < (u.1 1239 : Int32)) (b15_21 : 0 ≤ y ∧ y < (u.1 1239 : Int32)) (c23_22 : ¬ (x : Int32) = y) (hw_24 : g_rw (u_23.2.1 1262) 120 0 1001 ∧ f_fi k (u_23.2.1 1264)) : g_rw ((u_23.2.1 1262)) 120 0 1001 := by
  have hz1239 := hI.1.s1239
  exact (by assumption : g_rw _ _ _ _ ∧ f_fi k _).1
set_option maxRecDepth 100000 in
theorem g_X12_meetings_f_v51 (u : qS) (x : Int32) (y : Int32) (k : qS) (u_23 : qS) (hI : IM u) (hSc : g_rw (u.2.1 1262) 120 0 1001) (hk : IK k u) (b7_17 : 0 ≤ x ∧ x < (u.1 1239 : Int32)) (b15_21 : 0 ≤ y ∧ y < (u.1 1239 : Int32)) (c23_22 : ¬ (x : Int32) = y) (hw_24 : g_rw (u_23.2.1 1262) 120 0 1001 ∧ f_fi k (u_23.2.1 1264)) : f_fi k ((u_23.2.1 1264)) := by
  have hz1239 := hI.1.s1239
  exact (by assumption : g_rw _ _ _ _ ∧ f_fi k _).2
set_option maxRecDepth 100000 in
theorem g_X12_meetings_f_v52 (u : qS) (x : Int32) (y : Int32) (k : qS) (u_23 : qS) (hI : IM u) (hSc : g_rw (u.2.1 1262) 120 0 1001) (hk : IK k u) (b7_17 : 0 ≤ x ∧ x < (u.1 1239 : Int32)) (b15_21 : 0 ≤ y ∧ y < (u.1 1239 : Int32)) (c23_22 : ¬ (x : Int32) = y) (hw_24 : g_rw (u_23.2.1 1262) 120 0 1001 ∧ f_fi k (u_23.2.1 1264)) : (0 : Int32) = m_sm (fun i => m_sm (f_mg k (w_P k x y) i) (k.1 1247).toNatClampNeg) (0 : Int32).toNatClampNeg := by
  have hz1239 := hI.1.s1239
  rfl
set_option maxRecDepth 100000 in
theorem g_X12_meetings_f_v53 (u : qS) (x : Int32) (y : Int32) (k : qS) (hI : IM u) (hSc : g_rw (u.2.1 1262) 120 0 1001) (hk : IK k u) (b7_17 : 0 ≤ x ∧ x < (u.1 1239 : Int32)) (b15_21 : 0 ≤ y ∧ y < (u.1 1239 : Int32)) (c23_22 : (x : Int32) = y) : (g_rw ((u.2.1 1262)) 120 0 1001) ∧ ((((0 ≤ x ∧ x < u.1 1239) ∧ (0 ≤ y ∧ y < u.1 1239) ∧ ¬ x = y) ∧ ((-1) : Int32) = f_M k (w_P k x y)) ∨ (¬ ((0 ≤ x ∧ x < u.1 1239) ∧ (0 ≤ y ∧ y < u.1 1239) ∧ ¬ x = y) ∧ ((-1) : Int32) = -1)) := by
  have hz1247 := hI.1.s1247
  have hz1239 := hI.1.s1239
  first
  | exact ⟨hSc, Or.inr ⟨fun q => (by obtain ⟨q1, q2, q3⟩ := q; first | exact absurd q1 (by assumption) | exact absurd q2 (by assumption) | exact absurd (by assumption) q3), rfl⟩⟩
  | (have q8 := hI.1.s1247
     have e : x4 = u.1 1247 := Int32.toInt_inj.mp (by clear h_S h_f h_n; (try simp only [g_m1, Int32.lt_iff_toInt_lt, Int32.le_iff_toInt_le, ← Int32.toInt_inj, Int32.reduceToInt] at *); omega)
     rw [e, hk.i 1247 (by decide)] at h_n
     exact ⟨h_S, Or.inl ⟨h_D, h_n⟩⟩)
set_option maxRecDepth 100000 in
theorem g_X12_meetings_f_v54 (u : qS) (x : Int32) (y : Int32) (k : qS) (hI : IM u) (hSc : g_rw (u.2.1 1262) 120 0 1001) (hk : IK k u) (b7_17 : 0 ≤ x ∧ x < (u.1 1239 : Int32)) (b15_21 : ¬ (0 ≤ y ∧ y < (u.1 1239 : Int32))) : (g_rw ((u.2.1 1262)) 120 0 1001) ∧ ((((0 ≤ x ∧ x < u.1 1239) ∧ (0 ≤ y ∧ y < u.1 1239) ∧ ¬ x = y) ∧ ((-1) : Int32) = f_M k (w_P k x y)) ∨ (¬ ((0 ≤ x ∧ x < u.1 1239) ∧ (0 ≤ y ∧ y < u.1 1239) ∧ ¬ x = y) ∧ ((-1) : Int32) = -1)) := by
  have hz1247 := hI.1.s1247
  have hz1239 := hI.1.s1239
  first
  | exact ⟨hSc, Or.inr ⟨fun q => (by obtain ⟨q1, q2, q3⟩ := q; first | exact absurd q1 (by assumption) | exact absurd q2 (by assumption) | exact absurd (by assumption) q3), rfl⟩⟩
  | (have q8 := hI.1.s1247
     have e : x4 = u.1 1247 := Int32.toInt_inj.mp (by clear h_S h_f h_n; (try simp only [g_m1, Int32.lt_iff_toInt_lt, Int32.le_iff_toInt_le, ← Int32.toInt_inj, Int32.reduceToInt] at *); omega)
     rw [e, hk.i 1247 (by decide)] at h_n
     exact ⟨h_S, Or.inl ⟨h_D, h_n⟩⟩)
set_option maxRecDepth 100000 in
theorem g_X12_meetings_f_v55 (u : qS) (x : Int32) (y : Int32) (k : qS) (hI : IM u) (hSc : g_rw (u.2.1 1262) 120 0 1001) (hk : IK k u) (b7_17 : ¬ (0 ≤ x ∧ x < (u.1 1239 : Int32))) : (g_rw ((u.2.1 1262)) 120 0 1001) ∧ ((((0 ≤ x ∧ x < u.1 1239) ∧ (0 ≤ y ∧ y < u.1 1239) ∧ ¬ x = y) ∧ ((-1) : Int32) = f_M k (w_P k x y)) ∨ (¬ ((0 ≤ x ∧ x < u.1 1239) ∧ (0 ≤ y ∧ y < u.1 1239) ∧ ¬ x = y) ∧ ((-1) : Int32) = -1)) := by
  have hz1247 := hI.1.s1247
  have hz1239 := hI.1.s1239
  first
  | exact ⟨hSc, Or.inr ⟨fun q => (by obtain ⟨q1, q2, q3⟩ := q; first | exact absurd q1 (by assumption) | exact absurd q2 (by assumption) | exact absurd (by assumption) q3), rfl⟩⟩
  | (have q8 := hI.1.s1247
     have e : x4 = u.1 1247 := Int32.toInt_inj.mp (by clear h_S h_f h_n; (try simp only [g_m1, Int32.lt_iff_toInt_lt, Int32.le_iff_toInt_le, ← Int32.toInt_inj, Int32.reduceToInt] at *); omega)
     rw [e, hk.i 1247 (by decide)] at h_n
     exact ⟨h_S, Or.inl ⟨h_D, h_n⟩⟩)
set_option maxHeartbeats 1000000 in
set_option maxRecDepth 100000 in
theorem g_X12_meetings_f (l : Launch) (E : qE) (A : Nat → Prop) (u : qS) (x : Int32) (y : Int32) (k : qS) (hI : IM u) (hSc : g_rw (u.2.1 1262) 120 0 1001) (hk : IK k u) : Met l yX12_meetings (uws yX12_meetings cX12_meetings 6 (some .int)) (qR 4 0 0) (qPc E A 1 u [.ref (E.2.2 1299), .int x, .int y]) (qQi E A 1 (fun r u1 => qFr [1200, 1260, 1225, 1228, 1229, 1270, 1265, 1268, 1269] [1261, 1224, 1226, 1227, 1262, 1263, 1264, 1266, 1267] [] u u1 ∧ ((g_rw (u1.2.1 1262) 120 0 1001) ∧ ((((0 ≤ x ∧ x < u.1 1239) ∧ (0 ≤ y ∧ y < u.1 1239) ∧ ¬ x = y) ∧ r = f_M k (w_P k x y)) ∨ (¬ ((0 ≤ x ∧ x < u.1 1239) ∧ (0 ≤ y ∧ y < u.1 1239) ∧ ¬ x = y) ∧ r = -1))))) 0 0 A := by
  refine q_met (own := RX12) (f := 4) [.ref (E.2.2 1299), .int x, .int y] (by decide) (Nat.le_of_ble_eq_true rfl) rfl ?_
  intro p0 e0 s0 m0 bl0 me0 cd0 ls hF hr hlocks hU hS hA hl
  have hl : lv_has ls 6 [(0, .ref (E.2.2 1299)), (1, .int x), (2, .int y)] := hl
  have hfr : qFr [1200, 1260, 1225, 1228, 1229, 1270, 1265, 1268, 1269] [1261, 1224, 1226, 1227, 1262, 1263, 1264, 1266, 1267] [] u u := qFr.rf
  have main : ∀ n : Nat, (∀ (x3 : Int32) (x4 : Int32) (uc : qS) (H : Heap) (locs : List Loc) (ls : Array Slot) (hfr : qFr [1200, 1260, 1225, 1228, 1229, 1270, 1265, 1268, 1269] [1261, 1224, 1226, 1227, 1262, 1263, 1264, 1266, 1267] [] u uc) (h_k : 0 ≤ x4 ∧ x4 ≤ u.1 1247) (h_D : (0 ≤ x ∧ x < u.1 1239) ∧ (0 ≤ y ∧ y < u.1 1239) ∧ ¬ x = y) (h_S : g_rw (uc.2.1 1262) 120 0 1001) (h_f : f_fi k (uc.2.1 1264)) (h_n : x3 = m_sm (fun i => m_sm (f_mg k (w_P k x y) i) (k.1 1247).toNatClampNeg) x4.toNatClampNeg), ((u.1 1247).toInt - x4.toInt).toNat * 256 + 255 < n → qH E A 1 uc s0 H → va_S A s0.heap H locs → lv_has ls 6 [(0, .ref (E.2.2 1299)), (1, .int x), (2, .int y), (3, .int x3), (4, .int x4)] → W p0 l e0 (qR 4 0 0) s0 m0 ([.ref (E.2.2 1299), .int x, .int y] : List Value).toArray bl0 me0 cd0 H locs 0 0 (MQ bl0 (qQi E A 1 (fun r u1 => qFr [1200, 1260, 1225, 1228, 1229, 1270, 1265, 1268, 1269] [1261, 1224, 1226, 1227, 1262, 1263, 1264, 1266, 1267] [] u u1 ∧ ((g_rw (u1.2.1 1262) 120 0 1001) ∧ ((((0 ≤ x ∧ x < u.1 1239) ∧ (0 ≤ y ∧ y < u.1 1239) ∧ ¬ x = y) ∧ r = f_M k (w_P k x y)) ∨ (¬ ((0 ≤ x ∧ x < u.1 1239) ∧ (0 ≤ y ∧ y < u.1 1239) ∧ ¬ x = y) ∧ r = -1))))) ([.ref (E.2.2 1299), .int x, .int y] : List Value).toArray s0 0 0 A) (F0 m0 37 ls [])) ∧ (∀ (x3 : Int32) (x4 : Int32) (x5 : Int32) (uc : qS) (H : Heap) (locs : List Loc) (ls : Array Slot) (hfr : qFr [1200, 1260, 1225, 1228, 1229, 1270, 1265, 1268, 1269] [1261, 1224, 1226, 1227, 1262, 1263, 1264, 1266, 1267] [] u uc) (h_k : 0 ≤ x4 ∧ x4 < u.1 1247) (h_j : 0 ≤ x5 ∧ x5 ≤ u.1 1247) (h_D : (0 ≤ x ∧ x < u.1 1239) ∧ (0 ≤ y ∧ y < u.1 1239) ∧ ¬ x = y) (h_S : g_rw (uc.2.1 1262) 120 0 1001) (h_f : f_fi k (uc.2.1 1264)) (h_n : x3 = m_sm (fun i => m_sm (f_mg k (w_P k x y) i) (k.1 1247).toNatClampNeg) x4.toNatClampNeg + m_sm (f_mg k (w_P k x y) x4.toNatClampNeg) x5.toNatClampNeg), ((u.1 1247).toInt - x4.toInt).toNat * 256 + ((u.1 1247).toInt - x5.toInt).toNat < n → qH E A 1 uc s0 H → va_S A s0.heap H locs → lv_has ls 6 [(0, .ref (E.2.2 1299)), (1, .int x), (2, .int y), (3, .int x3), (4, .int x4), (5, .int x5)] → W p0 l e0 (qR 4 0 0) s0 m0 ([.ref (E.2.2 1299), .int x, .int y] : List Value).toArray bl0 me0 cd0 H locs 0 0 (MQ bl0 (qQi E A 1 (fun r u1 => qFr [1200, 1260, 1225, 1228, 1229, 1270, 1265, 1268, 1269] [1261, 1224, 1226, 1227, 1262, 1263, 1264, 1266, 1267] [] u u1 ∧ ((g_rw (u1.2.1 1262) 120 0 1001) ∧ ((((0 ≤ x ∧ x < u.1 1239) ∧ (0 ≤ y ∧ y < u.1 1239) ∧ ¬ x = y) ∧ r = f_M k (w_P k x y)) ∨ (¬ ((0 ≤ x ∧ x < u.1 1239) ∧ (0 ≤ y ∧ y < u.1 1239) ∧ ¬ x = y) ∧ r = -1))))) ([.ref (E.2.2 1299), .int x, .int y] : List Value).toArray s0 0 0 A) (F0 m0 49 ls [])) := by
    intro n
    induction n with
    | zero => exact ⟨fun _ _ _ _ _ _ _ _ _ _ _ _ hmu => absurd hmu (Nat.not_lt_zero _), fun _ _ _ _ _ _ _ _ _ _ _ _ _ _ hmu => absurd hmu (Nat.not_lt_zero _)⟩
    | succ n ih =>
      refine ⟨?_, ?_⟩
      · intro x3 x4 uc H locs ls hfr h_k h_D h_S h_f h_n hmu hU hS hl
        refine lv_iload hF.1 hF.2.1 dX12_meetings_37 (lv_at hl 4 rfl) ?_
        refine lv_aload_n hF.1 hF.2.1 dX12_meetings_39 rfl (lv_at hl 0 rfl) ?_
        refine q_get (v := .int (u.1 1247)) hF hU dX12_meetings_40 0 12 47 1247 1299 rfl rfl rfl rfl inX12 (by decide) (by decide) w_1376 rfl (congrArg Value.int (hfr.1 1247 (by decide))) ?_
        have hs_1 : 0 ≤ u.1 1247 ∧ u.1 1247 ≤ 120 := hI.1.s1247
        refine lv_icmp_ge (tgt := 111) hF.1 hF.2.1 dX12_meetings_43 (by decide) (fun c43_2 => ?_) (fun c43_2 => ?_)
        · refine lv_iload_n hF.1 hF.2.1 dX12_meetings_111 rfl (lv_at hl 3 rfl) ?_
          exact q_iret hF hr rfl hlocks hU hS dX12_meetings_112 ⟨hfr, (g_X12_meetings_f_v0 u x y k x3 x4 uc hI hSc hk h_k h_D h_S h_f h_n hs_1 c43_2)⟩
        · refine lv_iconst (v := 0) hF.1 hF.2.1 dX12_meetings_46 (by decide) ?_
          refine lv_istore (lv' := [(5, .int 0), (0, .ref (E.2.2 1299)), (1, .int x), (2, .int y), (3, .int x3), (4, .int x4)]) hF.1 hF.2.1 dX12_meetings_47 hl (by decide) rfl (fun ls hl => ?_)
          exact ih.2 x3 x4 (0 : Int32) uc _ _ _ hfr (g_X12_meetings_f_v1 u x y k x3 x4 uc hI hSc hk h_k h_D h_S h_f h_n hs_1 c43_2) (g_X12_meetings_f_v2 u x y k x3 x4 uc hI hSc hk h_k h_D h_S h_f h_n hs_1 c43_2) (g_X12_meetings_f_v3 u x y k x3 x4 uc hI hSc hk h_k h_D h_S h_f h_n hs_1 c43_2) (g_X12_meetings_f_v4 u x y k x3 x4 uc hI hSc hk h_k h_D h_S h_f h_n hs_1 c43_2) (g_X12_meetings_f_v5 u x y k x3 x4 uc hI hSc hk h_k h_D h_S h_f h_n hs_1 c43_2) (g_X12_meetings_f_v6 u x y k x3 x4 uc hI hSc hk h_k h_D h_S h_f h_n hs_1 c43_2) (Nat.lt_of_lt_of_le (g_X12_meetings_f_v7 u x y k x3 x4 uc hI hSc hk h_k h_D h_S h_f h_n hs_1 c43_2) (Nat.lt_succ_iff.mp hmu)) hU hS (lv_sub hl [1, 2, 3, 4, 5, 0] rfl)
      · intro x3 x4 x5 uc H locs ls hfr h_k h_j h_D h_S h_f h_n hmu hU hS hl
        refine lv_iload hF.1 hF.2.1 dX12_meetings_49 (lv_at hl 5 rfl) ?_
        refine lv_aload_n hF.1 hF.2.1 dX12_meetings_51 rfl (lv_at hl 0 rfl) ?_
        refine q_get (v := .int (u.1 1247)) hF hU dX12_meetings_52 0 12 47 1247 1299 rfl rfl rfl rfl inX12 (by decide) (by decide) w_1376 rfl (congrArg Value.int (hfr.1 1247 (by decide))) ?_
        have hs_3 : 0 ≤ u.1 1247 ∧ u.1 1247 ≤ 120 := hI.1.s1247
        refine lv_icmp_ge (tgt := 105) hF.1 hF.2.1 dX12_meetings_55 (by decide) (fun c55_4 => ?_) (fun c55_4 => ?_)
        · refine lv_iinc (v := x4 + 1) (lv' := [(4, .int (x4 + 1)), (0, .ref (E.2.2 1299)), (1, .int x), (2, .int y), (3, .int x3), (5, .int x5)]) hF.1 hF.2.1 dX12_meetings_105 hl (k := 4) rfl rfl (by decide) rfl (fun ls hl => ?_)
          refine lv_goto (tgt := 37) hF.1 hF.2.1 dX12_meetings_108 (by decide) ?_
          exact ih.1 x3 (x4 + 1) uc _ _ _ hfr (g_X12_meetings_f_v8 u x y k x3 x4 x5 uc hI hSc hk h_k h_j h_D h_S h_f h_n hs_3 c55_4) (g_X12_meetings_f_v9 u x y k x3 x4 x5 uc hI hSc hk h_k h_j h_D h_S h_f h_n hs_3 c55_4) (g_X12_meetings_f_v10 u x y k x3 x4 x5 uc hI hSc hk h_k h_j h_D h_S h_f h_n hs_3 c55_4) (g_X12_meetings_f_v11 u x y k x3 x4 x5 uc hI hSc hk h_k h_j h_D h_S h_f h_n hs_3 c55_4) (g_X12_meetings_f_v12 u x y k x3 x4 x5 uc hI hSc hk h_k h_j h_D h_S h_f h_n hs_3 c55_4) (Nat.lt_of_lt_of_le (g_X12_meetings_f_v13 u x y k x3 x4 x5 uc hI hSc hk h_k h_j h_D h_S h_f h_n hs_3 c55_4) (Nat.lt_succ_iff.mp hmu)) hU hS (lv_sub hl [1, 2, 3, 4, 0] rfl)
        · refine lv_iload_n hF.1 hF.2.1 dX12_meetings_58 rfl (lv_at hl 3 rfl) ?_
          refine lv_aload_n hF.1 hF.2.1 dX12_meetings_59 rfl (lv_at hl 0 rfl) ?_
          refine q_get (v := .ref (E.2.2 1249)) hF hU dX12_meetings_60 0 12 49 1249 1299 rfl rfl rfl rfl inX12 (by decide) (by decide) w_1378 rfl rfl ?_
          refine lv_iload hF.1 hF.2.1 dX12_meetings_63 (lv_at hl 4 rfl) ?_
          refine q_iald (v := u.2.1 1249 (x4 : Int32).toNatClampNeg) hF hU dX12_meetings_65 28 1249 rfl rfl (g_X12_meetings_f_v14 u x y k x3 x4 x5 uc hI hSc hk h_k h_j h_D h_S h_f h_n hs_3 c55_4) (congrFun (hfr.2.1 1249 (by decide)) _) ?_
          have hb_5 : 0 ≤ (u.2.1 1249 (x4 : Int32).toNatClampNeg) ∧ (u.2.1 1249 (x4 : Int32).toNatClampNeg) < u.1 1239 := hI.2.1.r1249 x4 (g_X12_meetings_f_v15 u x y k x3 x4 x5 uc hI hSc hk h_k h_j h_D h_S h_f h_n hs_3 c55_4)
          have hs_6 : 0 ≤ u.1 1239 ∧ u.1 1239 ≤ 8 := hI.1.s1239
          refine lv_iload_n hF.1 hF.2.1 dX12_meetings_66 rfl (lv_at hl 1 rfl) ?_
          refine lv_icmp_ne (tgt := 96) hF.1 hF.2.1 dX12_meetings_67 (by decide) (fun c67_7 => ?_) (fun c67_7 => ?_)
          · refine lv_iconst (v := 0) hF.1 hF.2.1 dX12_meetings_96 (by decide) ?_
            refine lv_iadd hF.1 hF.2.1 dX12_meetings_97 ?_
            refine lv_istore_n (lv' := [(3, .int (x3 + 0)), (0, .ref (E.2.2 1299)), (1, .int x), (2, .int y), (4, .int x4), (5, .int x5)]) hF.1 hF.2.1 dX12_meetings_98 rfl hl (by decide) rfl (fun ls hl => ?_)
            refine lv_iinc (v := x5 + 1) (lv' := [(5, .int (x5 + 1)), (3, .int (x3 + 0)), (0, .ref (E.2.2 1299)), (1, .int x), (2, .int y), (4, .int x4)]) hF.1 hF.2.1 dX12_meetings_99 hl (k := 5) rfl rfl (by decide) rfl (fun ls hl => ?_)
            refine lv_goto (tgt := 49) hF.1 hF.2.1 dX12_meetings_102 (by decide) ?_
            exact ih.2 (x3 + 0) x4 (x5 + 1) uc _ _ _ hfr (g_X12_meetings_f_v16 u x y k x3 x4 x5 uc hI hSc hk h_k h_j h_D h_S h_f h_n hs_3 c55_4 hb_5 hs_6 c67_7) (g_X12_meetings_f_v17 u x y k x3 x4 x5 uc hI hSc hk h_k h_j h_D h_S h_f h_n hs_3 c55_4 hb_5 hs_6 c67_7) (g_X12_meetings_f_v18 u x y k x3 x4 x5 uc hI hSc hk h_k h_j h_D h_S h_f h_n hs_3 c55_4 hb_5 hs_6 c67_7) (g_X12_meetings_f_v19 u x y k x3 x4 x5 uc hI hSc hk h_k h_j h_D h_S h_f h_n hs_3 c55_4 hb_5 hs_6 c67_7) (g_X12_meetings_f_v20 u x y k x3 x4 x5 uc hI hSc hk h_k h_j h_D h_S h_f h_n hs_3 c55_4 hb_5 hs_6 c67_7) (g_X12_meetings_f_v21 u x y k x3 x4 x5 uc hI hSc hk h_k h_j h_D h_S h_f h_n hs_3 c55_4 hb_5 hs_6 c67_7) (Nat.lt_of_lt_of_le (g_X12_meetings_f_v22 u x y k x3 x4 x5 uc hI hSc hk h_k h_j h_D h_S h_f h_n hs_3 c55_4 hb_5 hs_6 c67_7) (Nat.lt_succ_iff.mp hmu)) hU hS (lv_sub hl [2, 3, 4, 1, 5, 0] rfl)
          · refine lv_aload_n hF.1 hF.2.1 dX12_meetings_70 rfl (lv_at hl 0 rfl) ?_
            refine q_get (v := .ref (E.2.2 1249)) hF hU dX12_meetings_71 0 12 49 1249 1299 rfl rfl rfl rfl inX12 (by decide) (by decide) w_1378 rfl rfl ?_
            refine lv_iload hF.1 hF.2.1 dX12_meetings_74 (lv_at hl 5 rfl) ?_
            refine q_iald (v := u.2.1 1249 (x5 : Int32).toNatClampNeg) hF hU dX12_meetings_76 28 1249 rfl rfl (g_X12_meetings_f_v23 u x y k x3 x4 x5 uc hI hSc hk h_k h_j h_D h_S h_f h_n hs_3 c55_4 hb_5 hs_6 c67_7) (congrFun (hfr.2.1 1249 (by decide)) _) ?_
            have hb_8 : 0 ≤ (u.2.1 1249 (x5 : Int32).toNatClampNeg) ∧ (u.2.1 1249 (x5 : Int32).toNatClampNeg) < u.1 1239 := hI.2.1.r1249 x5 (g_X12_meetings_f_v24 u x y k x3 x4 x5 uc hI hSc hk h_k h_j h_D h_S h_f h_n hs_3 c55_4 hb_5 hs_6 c67_7)
            refine lv_iload_n hF.1 hF.2.1 dX12_meetings_77 rfl (lv_at hl 2 rfl) ?_
            refine lv_icmp_ne (tgt := 96) hF.1 hF.2.1 dX12_meetings_78 (by decide) (fun c78_9 => ?_) (fun c78_9 => ?_)
            · refine lv_iconst (v := 0) hF.1 hF.2.1 dX12_meetings_96 (by decide) ?_
              refine lv_iadd hF.1 hF.2.1 dX12_meetings_97 ?_
              refine lv_istore_n (lv' := [(3, .int (x3 + 0)), (0, .ref (E.2.2 1299)), (1, .int x), (2, .int y), (4, .int x4), (5, .int x5)]) hF.1 hF.2.1 dX12_meetings_98 rfl hl (by decide) rfl (fun ls hl => ?_)
              refine lv_iinc (v := x5 + 1) (lv' := [(5, .int (x5 + 1)), (3, .int (x3 + 0)), (0, .ref (E.2.2 1299)), (1, .int x), (2, .int y), (4, .int x4)]) hF.1 hF.2.1 dX12_meetings_99 hl (k := 5) rfl rfl (by decide) rfl (fun ls hl => ?_)
              refine lv_goto (tgt := 49) hF.1 hF.2.1 dX12_meetings_102 (by decide) ?_
              exact ih.2 (x3 + 0) x4 (x5 + 1) uc _ _ _ hfr (g_X12_meetings_f_v25 u x y k x3 x4 x5 uc hI hSc hk h_k h_j h_D h_S h_f h_n hs_3 c55_4 hb_5 hs_6 c67_7 hb_8 c78_9) (g_X12_meetings_f_v26 u x y k x3 x4 x5 uc hI hSc hk h_k h_j h_D h_S h_f h_n hs_3 c55_4 hb_5 hs_6 c67_7 hb_8 c78_9) (g_X12_meetings_f_v27 u x y k x3 x4 x5 uc hI hSc hk h_k h_j h_D h_S h_f h_n hs_3 c55_4 hb_5 hs_6 c67_7 hb_8 c78_9) (g_X12_meetings_f_v28 u x y k x3 x4 x5 uc hI hSc hk h_k h_j h_D h_S h_f h_n hs_3 c55_4 hb_5 hs_6 c67_7 hb_8 c78_9) (g_X12_meetings_f_v29 u x y k x3 x4 x5 uc hI hSc hk h_k h_j h_D h_S h_f h_n hs_3 c55_4 hb_5 hs_6 c67_7 hb_8 c78_9) (g_X12_meetings_f_v30 u x y k x3 x4 x5 uc hI hSc hk h_k h_j h_D h_S h_f h_n hs_3 c55_4 hb_5 hs_6 c67_7 hb_8 c78_9) (Nat.lt_of_lt_of_le (g_X12_meetings_f_v31 u x y k x3 x4 x5 uc hI hSc hk h_k h_j h_D h_S h_f h_n hs_3 c55_4 hb_5 hs_6 c67_7 hb_8 c78_9) (Nat.lt_succ_iff.mp hmu)) hU hS (lv_sub hl [2, 3, 4, 1, 5, 0] rfl)
            · refine lv_aload_n hF.1 hF.2.1 dX12_meetings_81 rfl (lv_at hl 0 rfl) ?_
              refine lv_iload hF.1 hF.2.1 dX12_meetings_82 (lv_at hl 4 rfl) ?_
              refine lv_iload hF.1 hF.2.1 dX12_meetings_84 (lv_at hl 5 rfl) ?_
              have hM9 := g_X12_isMeeting_f l E A uc x4 x5 k (hI.fr hfr (by decide) (by decide)) (hk.fr hfr (by decide) (by decide)) (g_X12_meetings_f_v32 u x y k x3 x4 x5 uc hI hSc hk h_k h_j h_D h_S h_f h_n hs_3 c55_4 hb_5 hs_6 c67_7 hb_8 c78_9)
              have hR9 := q_runV (l := l) (e := e0) (below := bl0) (meth := me0) (R := qR 4 0 0) (cells := 0) (slots := 0) (st0 := [.int x5, .int x4, .ref (E.2.2 1299), .int x3]) (rest := [.int x3]) hF hU hS hA 2 0 12 1299 rfl rfl rfl hM9 w_1821 w_1823 w_87 w_107 w_1824 (by decide +kernel) ⟨Nat.le_of_ble_eq_true rfl, Nat.le_of_ble_eq_true rfl⟩ dX12_meetings_86 rfl hl.1 rfl (Nat.le_of_ble_eq_true rfl) ⟨Nat.le_of_ble_eq_true rfl, Nat.le_of_ble_eq_true rfl⟩
              refine q_calli hR9 hU.2.2.2 hS (fun r_12 u_10 H locs hw_11 hU hS => ?_)
              obtain ⟨hw_11_e, hw_11⟩ := hw_11
              rw [hw_11_e] at hU
              have hw_11 : (r_12 = 1 ∧ (f_mt k x4 x5)) ∨ (r_12 = 0 ∧ ¬ (f_mt k x4 x5)) := hw_11
              rcases hw_11 with ⟨rfl, b86_13⟩ | ⟨rfl, b86_13⟩
              · refine lv_if_eq (tgt := 96) hF.1 hF.2.1 dX12_meetings_89 (by decide) (fun h9 => absurd h9 (by decide)) (fun _ => ?_)
                refine lv_iconst (v := 1) hF.1 hF.2.1 dX12_meetings_92 (by decide) ?_
                refine lv_goto (tgt := 97) hF.1 hF.2.1 dX12_meetings_93 (by decide) ?_
                refine lv_iadd hF.1 hF.2.1 dX12_meetings_97 ?_
                refine lv_istore_n (lv' := [(3, .int (x3 + 1)), (0, .ref (E.2.2 1299)), (1, .int x), (2, .int y), (4, .int x4), (5, .int x5)]) hF.1 hF.2.1 dX12_meetings_98 rfl hl (by decide) rfl (fun ls hl => ?_)
                refine lv_iinc (v := x5 + 1) (lv' := [(5, .int (x5 + 1)), (3, .int (x3 + 1)), (0, .ref (E.2.2 1299)), (1, .int x), (2, .int y), (4, .int x4)]) hF.1 hF.2.1 dX12_meetings_99 hl (k := 5) rfl rfl (by decide) rfl (fun ls hl => ?_)
                refine lv_goto (tgt := 49) hF.1 hF.2.1 dX12_meetings_102 (by decide) ?_
                exact ih.2 (x3 + 1) x4 (x5 + 1) uc _ _ _ hfr (g_X12_meetings_f_v33 u x y k x3 x4 x5 uc hI hSc hk h_k h_j h_D h_S h_f h_n hs_3 c55_4 hb_5 hs_6 c67_7 hb_8 c78_9 b86_13) (g_X12_meetings_f_v34 u x y k x3 x4 x5 uc hI hSc hk h_k h_j h_D h_S h_f h_n hs_3 c55_4 hb_5 hs_6 c67_7 hb_8 c78_9 b86_13) (g_X12_meetings_f_v35 u x y k x3 x4 x5 uc hI hSc hk h_k h_j h_D h_S h_f h_n hs_3 c55_4 hb_5 hs_6 c67_7 hb_8 c78_9 b86_13) (g_X12_meetings_f_v36 u x y k x3 x4 x5 uc hI hSc hk h_k h_j h_D h_S h_f h_n hs_3 c55_4 hb_5 hs_6 c67_7 hb_8 c78_9 b86_13) (g_X12_meetings_f_v37 u x y k x3 x4 x5 uc hI hSc hk h_k h_j h_D h_S h_f h_n hs_3 c55_4 hb_5 hs_6 c67_7 hb_8 c78_9 b86_13) (g_X12_meetings_f_v38 u x y k x3 x4 x5 uc hI hSc hk h_k h_j h_D h_S h_f h_n hs_3 c55_4 hb_5 hs_6 c67_7 hb_8 c78_9 b86_13) (Nat.lt_of_lt_of_le (g_X12_meetings_f_v39 u x y k x3 x4 x5 uc hI hSc hk h_k h_j h_D h_S h_f h_n hs_3 c55_4 hb_5 hs_6 c67_7 hb_8 c78_9 b86_13) (Nat.lt_succ_iff.mp hmu)) hU hS (lv_sub hl [2, 3, 4, 1, 5, 0] rfl)
              · refine lv_if_eq (tgt := 96) hF.1 hF.2.1 dX12_meetings_89 (by decide) (fun _ => ?_) (fun h9 => absurd (by decide) h9)
                refine lv_iconst (v := 0) hF.1 hF.2.1 dX12_meetings_96 (by decide) ?_
                refine lv_iadd hF.1 hF.2.1 dX12_meetings_97 ?_
                refine lv_istore_n (lv' := [(3, .int (x3 + 0)), (0, .ref (E.2.2 1299)), (1, .int x), (2, .int y), (4, .int x4), (5, .int x5)]) hF.1 hF.2.1 dX12_meetings_98 rfl hl (by decide) rfl (fun ls hl => ?_)
                refine lv_iinc (v := x5 + 1) (lv' := [(5, .int (x5 + 1)), (3, .int (x3 + 0)), (0, .ref (E.2.2 1299)), (1, .int x), (2, .int y), (4, .int x4)]) hF.1 hF.2.1 dX12_meetings_99 hl (k := 5) rfl rfl (by decide) rfl (fun ls hl => ?_)
                refine lv_goto (tgt := 49) hF.1 hF.2.1 dX12_meetings_102 (by decide) ?_
                exact ih.2 (x3 + 0) x4 (x5 + 1) uc _ _ _ hfr (g_X12_meetings_f_v40 u x y k x3 x4 x5 uc hI hSc hk h_k h_j h_D h_S h_f h_n hs_3 c55_4 hb_5 hs_6 c67_7 hb_8 c78_9 b86_13) (g_X12_meetings_f_v41 u x y k x3 x4 x5 uc hI hSc hk h_k h_j h_D h_S h_f h_n hs_3 c55_4 hb_5 hs_6 c67_7 hb_8 c78_9 b86_13) (g_X12_meetings_f_v42 u x y k x3 x4 x5 uc hI hSc hk h_k h_j h_D h_S h_f h_n hs_3 c55_4 hb_5 hs_6 c67_7 hb_8 c78_9 b86_13) (g_X12_meetings_f_v43 u x y k x3 x4 x5 uc hI hSc hk h_k h_j h_D h_S h_f h_n hs_3 c55_4 hb_5 hs_6 c67_7 hb_8 c78_9 b86_13) (g_X12_meetings_f_v44 u x y k x3 x4 x5 uc hI hSc hk h_k h_j h_D h_S h_f h_n hs_3 c55_4 hb_5 hs_6 c67_7 hb_8 c78_9 b86_13) (g_X12_meetings_f_v45 u x y k x3 x4 x5 uc hI hSc hk h_k h_j h_D h_S h_f h_n hs_3 c55_4 hb_5 hs_6 c67_7 hb_8 c78_9 b86_13) (Nat.lt_of_lt_of_le (g_X12_meetings_f_v46 u x y k x3 x4 x5 uc hI hSc hk h_k h_j h_D h_S h_f h_n hs_3 c55_4 hb_5 hs_6 c67_7 hb_8 c78_9 b86_13) (Nat.lt_succ_iff.mp hmu)) hU hS (lv_sub hl [2, 3, 4, 1, 5, 0] rfl)
  refine lv_aload_n hF.1 hF.2.1 dX12_meetings_0 rfl (lv_at hl 0 rfl) ?_
  refine lv_iconst (v := 0) hF.1 hF.2.1 dX12_meetings_1 (by decide) ?_
  refine q_put hF hU hS dX12_meetings_2 0 12 0 1200 1299 rfl rfl rfl rfl inX12 tyX12 tyX12_ok nmX12 (by decide) (by decide) rfl w_1329 rfl rfl rfl rfl (fun H locs hU hS => ?_)
  have hfr : qFr [1200, 1260, 1225, 1228, 1229, 1270, 1265, 1268, 1269] [1261, 1224, 1226, 1227, 1262, 1263, 1264, 1266, 1267] [] u (qsI u 1200 0) := hfr.setI (by decide)
  refine lv_aload_n hF.1 hF.2.1 dX12_meetings_5 rfl (lv_at hl 0 rfl) ?_
  refine lv_iload_n hF.1 hF.2.1 dX12_meetings_6 rfl (lv_at hl 1 rfl) ?_
  have hM9 := g_X12_isBuyer l E A (qsI u 1200 0) x
  have hR9 := q_runV (l := l) (e := e0) (below := bl0) (meth := me0) (R := qR 4 0 0) (cells := 0) (slots := 0) (st0 := [.int x, .ref (E.2.2 1299)]) (rest := []) hF hU hS hA 1 0 12 1299 rfl rfl rfl hM9 w_1714 w_1716 w_69 w_107 w_1717 (by decide +kernel) ⟨Nat.le_of_ble_eq_true rfl, Nat.le_of_ble_eq_true rfl⟩ dX12_meetings_7 rfl hl.1 rfl (Nat.le_of_ble_eq_true rfl) ⟨Nat.le_of_ble_eq_true rfl, Nat.le_of_ble_eq_true rfl⟩
  refine q_calli hR9 hU.2.2.2 hS (fun r_16 u_14 H locs hw_15 hU hS => ?_)
  obtain ⟨hw_15_e, hw_15⟩ := hw_15
  rw [hw_15_e] at hU
  have hw_15 : (r_16 = 1 ∧ (0 ≤ x ∧ x < (u.1 1239 : Int32))) ∨ (r_16 = 0 ∧ ¬ (0 ≤ x ∧ x < (u.1 1239 : Int32))) := by rw [(hfr.1 1239 (by decide))] at hw_15; exact hw_15
  rcases hw_15 with ⟨rfl, b7_17⟩ | ⟨rfl, b7_17⟩
  · refine lv_if_eq (tgt := 26) hF.1 hF.2.1 dX12_meetings_10 (by decide) (fun h9 => absurd h9 (by decide)) (fun _ => ?_)
    refine lv_aload_n hF.1 hF.2.1 dX12_meetings_13 rfl (lv_at hl 0 rfl) ?_
    refine lv_iload_n hF.1 hF.2.1 dX12_meetings_14 rfl (lv_at hl 2 rfl) ?_
    have hM9 := g_X12_isBuyer l E A (qsI u 1200 0) y
    have hR9 := q_runV (l := l) (e := e0) (below := bl0) (meth := me0) (R := qR 4 0 0) (cells := 0) (slots := 0) (st0 := [.int y, .ref (E.2.2 1299)]) (rest := []) hF hU hS hA 1 0 12 1299 rfl rfl rfl hM9 w_1714 w_1716 w_69 w_107 w_1717 (by decide +kernel) ⟨Nat.le_of_ble_eq_true rfl, Nat.le_of_ble_eq_true rfl⟩ dX12_meetings_15 rfl hl.1 rfl (Nat.le_of_ble_eq_true rfl) ⟨Nat.le_of_ble_eq_true rfl, Nat.le_of_ble_eq_true rfl⟩
    refine q_calli hR9 hU.2.2.2 hS (fun r_20 u_18 H locs hw_19 hU hS => ?_)
    obtain ⟨hw_19_e, hw_19⟩ := hw_19
    rw [hw_19_e] at hU
    have hw_19 : (r_20 = 1 ∧ (0 ≤ y ∧ y < (u.1 1239 : Int32))) ∨ (r_20 = 0 ∧ ¬ (0 ≤ y ∧ y < (u.1 1239 : Int32))) := by rw [(hfr.1 1239 (by decide))] at hw_19; exact hw_19
    rcases hw_19 with ⟨rfl, b15_21⟩ | ⟨rfl, b15_21⟩
    · refine lv_if_eq (tgt := 26) hF.1 hF.2.1 dX12_meetings_18 (by decide) (fun h9 => absurd h9 (by decide)) (fun _ => ?_)
      refine lv_iload_n hF.1 hF.2.1 dX12_meetings_21 rfl (lv_at hl 1 rfl) ?_
      refine lv_iload_n hF.1 hF.2.1 dX12_meetings_22 rfl (lv_at hl 2 rfl) ?_
      refine lv_icmp_ne (tgt := 28) hF.1 hF.2.1 dX12_meetings_23 (by decide) (fun c23_22 => ?_) (fun c23_22 => ?_)
      · refine lv_aload_n hF.1 hF.2.1 dX12_meetings_28 rfl (lv_at hl 0 rfl) ?_
        have hM9 := g_X12_findAll_f l E A (qsI u 1200 0) k (hI.fr hfr (by decide) (by decide)) (g_X12_meetings_f_v47 u x y k hI hSc hk b7_17 b15_21 c23_22) (hk.fr hfr (by decide) (by decide))
        have hR9 := q_runV (l := l) (e := e0) (below := bl0) (meth := me0) (R := qR 4 0 0) (cells := 0) (slots := 0) (st0 := [.ref (E.2.2 1299)]) (rest := []) hF hU hS hA 0 0 12 1299 rfl rfl rfl hM9 w_1738 w_1740 w_73 w_107 w_1741 (by decide +kernel) ⟨Nat.le_of_ble_eq_true rfl, Nat.le_of_ble_eq_true rfl⟩ dX12_meetings_29 rfl hl.1 rfl (Nat.le_of_ble_eq_true rfl) ⟨Nat.le_of_ble_eq_true rfl, Nat.le_of_ble_eq_true rfl⟩
        refine q_callv hR9 hU.2.2.2 hS (fun u_23 H locs hw_24 hU hS => ?_)
        have hw_24_f := hw_24.1
        have hfo := hfr
        have hfr : qFr [1200, 1260, 1225, 1228, 1229, 1270, 1265, 1268, 1269] [1261, 1224, 1226, 1227, 1262, 1263, 1264, 1266, 1267] [] u u_23 := hfr.trans (hw_24_f.mono (by decide) (by decide) (by decide))
        have hw_24 := hw_24.2
        have e_26 : u_23.1 1200 = 0 := (hw_24_f.1 1200 (by decide)).trans rfl
        have hw_24 : g_rw (u_23.2.1 1262) 120 0 1001 ∧ f_fi k (u_23.2.1 1264) := hw_24
        refine lv_iconst (v := 0) hF.1 hF.2.1 dX12_meetings_32 (by decide) ?_
        refine lv_istore_n (lv' := [(3, .int 0), (0, .ref (E.2.2 1299)), (1, .int x), (2, .int y)]) hF.1 hF.2.1 dX12_meetings_33 rfl hl (by decide) rfl (fun ls hl => ?_)
        refine lv_iconst (v := 0) hF.1 hF.2.1 dX12_meetings_34 (by decide) ?_
        refine lv_istore (lv' := [(4, .int 0), (3, .int 0), (0, .ref (E.2.2 1299)), (1, .int x), (2, .int y)]) hF.1 hF.2.1 dX12_meetings_35 hl (by decide) rfl (fun ls hl => ?_)
        exact (main _).1 (0 : Int32) (0 : Int32) u_23 _ _ _ hfr (g_X12_meetings_f_v48 u x y k u_23 hI hSc hk b7_17 b15_21 c23_22 hw_24) (g_X12_meetings_f_v49 u x y k u_23 hI hSc hk b7_17 b15_21 c23_22 hw_24) (g_X12_meetings_f_v50 u x y k u_23 hI hSc hk b7_17 b15_21 c23_22 hw_24) (g_X12_meetings_f_v51 u x y k u_23 hI hSc hk b7_17 b15_21 c23_22 hw_24) (g_X12_meetings_f_v52 u x y k u_23 hI hSc hk b7_17 b15_21 c23_22 hw_24) (Nat.lt_succ_self _) hU hS (lv_sub hl [2, 3, 4, 1, 0] rfl)
      · refine lv_iconst (v := (-1)) hF.1 hF.2.1 dX12_meetings_26 (by decide) ?_
        exact q_iret hF hr rfl hlocks hU hS dX12_meetings_27 ⟨hfr, (g_X12_meetings_f_v53 u x y k hI hSc hk b7_17 b15_21 c23_22)⟩
    · refine lv_if_eq (tgt := 26) hF.1 hF.2.1 dX12_meetings_18 (by decide) (fun _ => ?_) (fun h9 => absurd (by decide) h9)
      refine lv_iconst (v := (-1)) hF.1 hF.2.1 dX12_meetings_26 (by decide) ?_
      exact q_iret hF hr rfl hlocks hU hS dX12_meetings_27 ⟨hfr, (g_X12_meetings_f_v54 u x y k hI hSc hk b7_17 b15_21)⟩
  · refine lv_if_eq (tgt := 26) hF.1 hF.2.1 dX12_meetings_10 (by decide) (fun _ => ?_) (fun h9 => absurd (by decide) h9)
    refine lv_iconst (v := (-1)) hF.1 hF.2.1 dX12_meetings_26 (by decide) ?_
    exact q_iret hF hr rfl hlocks hU hS dX12_meetings_27 ⟨hfr, (g_X12_meetings_f_v55 u x y k hI hSc hk b7_17)⟩
set_option maxRecDepth 100000 in
theorem g_X12_hasMean_h_v0 (u : qS) (x : Int32) (y : Int32) (z : Int32) (k : qS) (hI : IM u) (hSc : g_rw (u.2.1 1262) 120 0 1001) (hk : IK k u) (b2_4 : 0 ≤ x ∧ x < u.1 1232) (b10_8 : (0 ≤ y ∧ y ≤ 9999) ∧ (0 ≤ z ∧ z ≤ 9999) ∧ y ≤ z) : g_rw ((u.2.1 1262)) 120 0 1001 := by
  have hz1232 := hI.1.s1232
  assumption
set_option maxRecDepth 100000 in
theorem g_X12_hasMean_h_v1 (u : qS) (x : Int32) (y : Int32) (z : Int32) (k : qS) (u_9 : qS) (hI : IM u) (hSc : g_rw (u.2.1 1262) 120 0 1001) (hk : IK k u) (b2_4 : 0 ≤ x ∧ x < u.1 1232) (b10_8 : (0 ≤ y ∧ y ≤ 9999) ∧ (0 ≤ z ∧ z ≤ 9999) ∧ y ≤ z) (hp_12 : g_rw (u_9.2.1 1262) 120 0 1001) (hp_13 : g_rw (u_9.2.1 1273) (u.1 1232).toInt (-200000) 200001) (hp_14 : g_rw (u_9.2.1 1274) (u.1 1232).toInt 0 121) (hp_15 : f_cm k y z (u_9.2.1 1274) (u.1 1232).toInt) : vp_in (x) 20 := by
  have hz1232 := hI.1.s1232
  refine g_in ?_ ?_ <;> ((try simp only [g_m1, Int32.lt_iff_toInt_lt, Int32.le_iff_toInt_le, ← Int32.toInt_inj, Int32.toInt_add, Int32.toInt_sub, Int32.toInt_mul, Int32.toInt_neg, Int32.reduceToInt, g_bm, g_bm'] at *); omega)
set_option maxRecDepth 100000 in
theorem g_X12_hasMean_h_v2 (u : qS) (x : Int32) (y : Int32) (z : Int32) (k : qS) (u_9 : qS) (hI : IM u) (hSc : g_rw (u.2.1 1262) 120 0 1001) (hk : IK k u) (b2_4 : 0 ≤ x ∧ x < u.1 1232) (b10_8 : (0 ≤ y ∧ y ≤ 9999) ∧ (0 ≤ z ∧ z ≤ 9999) ∧ y ≤ z) (hp_12 : g_rw (u_9.2.1 1262) 120 0 1001) (hp_13 : g_rw (u_9.2.1 1273) (u.1 1232).toInt (-200000) 200001) (hp_14 : g_rw (u_9.2.1 1274) (u.1 1232).toInt 0 121) (hp_15 : f_cm k y z (u_9.2.1 1274) (u.1 1232).toInt) (c30_16 : (u_9.2.1 1274 (x : Int32).toNatClampNeg : Int32) ≤ 0) : (0 = (1 : Int32) ∧ ((g_rw ((u_9.2.1 1262)) 120 0 1001) ∧ f_HM k x y z ∧ f_cm k y z ((u_9.2.1 1274)) (u.1 1232).toInt)) ∨ (0 = (0 : Int32) ∧ ((g_rw ((u_9.2.1 1262)) 120 0 1001) ∧ ¬ f_HM k x y z)) := by
  have hz1247 := hI.1.s1247
  have hz1232 := hI.1.s1232
  have k32 := hk.i 1232 (by decide)
  have k47 := hk.i 1247 (by decide)
  have q8 := hI.1.s1247
  have n47 : (k.1 1247).toNatClampNeg ≤ 1000 := (by rw [← k47]; have c := g_clamp (u.1 1247); have b : (u.1 1247).toInt ≤ 120 := Int32.le_iff_toInt_le.mp q8.2; omega)
  first
  | exact Or.inr ⟨rfl, hSc, fun q => absurd (by rw [k32]; exact q.1) (by assumption : ¬ (0 ≤ x ∧ x < u.1 1232))⟩
  | exact Or.inr ⟨rfl, hSc, fun q => absurd q.2.1 (by assumption)⟩
  | (have w := (by assumption : f_cm k y z _ _)
     have s8 := (by assumption : 0 ≤ x ∧ x < u.1 1232)
     have a0 : 0 ≤ x.toInt := Int32.le_iff_toInt_le.mp s8.1
     have e := (w x a0 (Int32.lt_iff_toInt_lt.mp s8.2)).trans (m_cnt _ n47).symm
     have e2 := Int32.toInt_inj.mp e
     first
     | exact Or.inl ⟨rfl, by assumption, ⟨by rw [← k32]; exact s8, by assumption, by rw [← e2]; first | assumption | exact Int32.not_le.mp (by assumption)⟩, w⟩
     | exact Or.inr ⟨rfl, by assumption, fun q => absurd q.2.2 (by rw [← e2]; first | assumption | exact Int32.not_lt.mpr (by assumption))⟩)
set_option maxRecDepth 100000 in
theorem g_X12_hasMean_h_v3 (u : qS) (x : Int32) (y : Int32) (z : Int32) (k : qS) (u_9 : qS) (hI : IM u) (hSc : g_rw (u.2.1 1262) 120 0 1001) (hk : IK k u) (b2_4 : 0 ≤ x ∧ x < u.1 1232) (b10_8 : (0 ≤ y ∧ y ≤ 9999) ∧ (0 ≤ z ∧ z ≤ 9999) ∧ y ≤ z) (hp_12 : g_rw (u_9.2.1 1262) 120 0 1001) (hp_13 : g_rw (u_9.2.1 1273) (u.1 1232).toInt (-200000) 200001) (hp_14 : g_rw (u_9.2.1 1274) (u.1 1232).toInt 0 121) (hp_15 : f_cm k y z (u_9.2.1 1274) (u.1 1232).toInt) (c30_16 : ¬ (u_9.2.1 1274 (x : Int32).toNatClampNeg : Int32) ≤ 0) : (1 = (1 : Int32) ∧ ((g_rw ((u_9.2.1 1262)) 120 0 1001) ∧ f_HM k x y z ∧ f_cm k y z ((u_9.2.1 1274)) (u.1 1232).toInt)) ∨ (1 = (0 : Int32) ∧ ((g_rw ((u_9.2.1 1262)) 120 0 1001) ∧ ¬ f_HM k x y z)) := by
  have hz1247 := hI.1.s1247
  have hz1232 := hI.1.s1232
  have k32 := hk.i 1232 (by decide)
  have k47 := hk.i 1247 (by decide)
  have q8 := hI.1.s1247
  have n47 : (k.1 1247).toNatClampNeg ≤ 1000 := (by rw [← k47]; have c := g_clamp (u.1 1247); have b : (u.1 1247).toInt ≤ 120 := Int32.le_iff_toInt_le.mp q8.2; omega)
  first
  | exact Or.inr ⟨rfl, hSc, fun q => absurd (by rw [k32]; exact q.1) (by assumption : ¬ (0 ≤ x ∧ x < u.1 1232))⟩
  | exact Or.inr ⟨rfl, hSc, fun q => absurd q.2.1 (by assumption)⟩
  | (have w := (by assumption : f_cm k y z _ _)
     have s8 := (by assumption : 0 ≤ x ∧ x < u.1 1232)
     have a0 : 0 ≤ x.toInt := Int32.le_iff_toInt_le.mp s8.1
     have e := (w x a0 (Int32.lt_iff_toInt_lt.mp s8.2)).trans (m_cnt _ n47).symm
     have e2 := Int32.toInt_inj.mp e
     first
     | exact Or.inl ⟨rfl, by assumption, ⟨by rw [← k32]; exact s8, by assumption, by rw [← e2]; first | assumption | exact Int32.not_le.mp (by assumption)⟩, w⟩
     | exact Or.inr ⟨rfl, by assumption, fun q => absurd q.2.2 (by rw [← e2]; first | assumption | exact Int32.not_lt.mpr (by assumption))⟩)
set_option maxRecDepth 100000 in
theorem g_X12_hasMean_h_v4 (u : qS) (x : Int32) (y : Int32) (z : Int32) (k : qS) (hI : IM u) (hSc : g_rw (u.2.1 1262) 120 0 1001) (hk : IK k u) (b2_4 : 0 ≤ x ∧ x < u.1 1232) (b10_8 : ¬ ((0 ≤ y ∧ y ≤ 9999) ∧ (0 ≤ z ∧ z ≤ 9999) ∧ y ≤ z)) : (0 = (1 : Int32) ∧ ((g_rw ((u.2.1 1262)) 120 0 1001) ∧ f_HM k x y z ∧ f_cm k y z ((u.2.1 1274)) (u.1 1232).toInt)) ∨ (0 = (0 : Int32) ∧ ((g_rw ((u.2.1 1262)) 120 0 1001) ∧ ¬ f_HM k x y z)) := by
  have hz1247 := hI.1.s1247
  have hz1232 := hI.1.s1232
  have k32 := hk.i 1232 (by decide)
  have k47 := hk.i 1247 (by decide)
  have q8 := hI.1.s1247
  have n47 : (k.1 1247).toNatClampNeg ≤ 1000 := (by rw [← k47]; have c := g_clamp (u.1 1247); have b : (u.1 1247).toInt ≤ 120 := Int32.le_iff_toInt_le.mp q8.2; omega)
  first
  | exact Or.inr ⟨rfl, hSc, fun q => absurd (by rw [k32]; exact q.1) (by assumption : ¬ (0 ≤ x ∧ x < u.1 1232))⟩
  | exact Or.inr ⟨rfl, hSc, fun q => absurd q.2.1 (by assumption)⟩
  | (have w := (by assumption : f_cm k y z _ _)
     have s8 := (by assumption : 0 ≤ x ∧ x < u.1 1232)
     have a0 : 0 ≤ x.toInt := Int32.le_iff_toInt_le.mp s8.1
     have e := (w x a0 (Int32.lt_iff_toInt_lt.mp s8.2)).trans (m_cnt _ n47).symm
     have e2 := Int32.toInt_inj.mp e
     first
     | exact Or.inl ⟨rfl, by assumption, ⟨by rw [← k32]; exact s8, by assumption, by rw [← e2]; first | assumption | exact Int32.not_le.mp (by assumption)⟩, w⟩
     | exact Or.inr ⟨rfl, by assumption, fun q => absurd q.2.2 (by rw [← e2]; first | assumption | exact Int32.not_lt.mpr (by assumption))⟩)
set_option maxRecDepth 100000 in
theorem g_X12_hasMean_h_v5 (u : qS) (x : Int32) (y : Int32) (z : Int32) (k : qS) (hI : IM u) (hSc : g_rw (u.2.1 1262) 120 0 1001) (hk : IK k u) (b2_4 : ¬ (0 ≤ x ∧ x < u.1 1232)) : (0 = (1 : Int32) ∧ ((g_rw ((u.2.1 1262)) 120 0 1001) ∧ f_HM k x y z ∧ f_cm k y z ((u.2.1 1274)) (u.1 1232).toInt)) ∨ (0 = (0 : Int32) ∧ ((g_rw ((u.2.1 1262)) 120 0 1001) ∧ ¬ f_HM k x y z)) := by
  have hz1247 := hI.1.s1247
  have hz1232 := hI.1.s1232
  have k32 := hk.i 1232 (by decide)
  have k47 := hk.i 1247 (by decide)
  have q8 := hI.1.s1247
  have n47 : (k.1 1247).toNatClampNeg ≤ 1000 := (by rw [← k47]; have c := g_clamp (u.1 1247); have b : (u.1 1247).toInt ≤ 120 := Int32.le_iff_toInt_le.mp q8.2; omega)
  first
  | exact Or.inr ⟨rfl, hSc, fun q => absurd (by rw [k32]; exact q.1) (by assumption : ¬ (0 ≤ x ∧ x < u.1 1232))⟩
  | exact Or.inr ⟨rfl, hSc, fun q => absurd q.2.1 (by assumption)⟩
  | (have w := (by assumption : f_cm k y z _ _)
     have s8 := (by assumption : 0 ≤ x ∧ x < u.1 1232)
     have a0 : 0 ≤ x.toInt := Int32.le_iff_toInt_le.mp s8.1
     have e := (w x a0 (Int32.lt_iff_toInt_lt.mp s8.2)).trans (m_cnt _ n47).symm
     have e2 := Int32.toInt_inj.mp e
     first
     | exact Or.inl ⟨rfl, by assumption, ⟨by rw [← k32]; exact s8, by assumption, by rw [← e2]; first | assumption | exact Int32.not_le.mp (by assumption)⟩, w⟩
     | exact Or.inr ⟨rfl, by assumption, fun q => absurd q.2.2 (by rw [← e2]; first | assumption | exact Int32.not_lt.mpr (by assumption))⟩)
set_option maxHeartbeats 1000000 in
set_option maxRecDepth 100000 in
theorem g_X12_hasMean_h (l : Launch) (E : qE) (A : Nat → Prop) (u : qS) (x : Int32) (y : Int32) (z : Int32) (k : qS) (hI : IM u) (hSc : g_rw (u.2.1 1262) 120 0 1001) (hk : IK k u) : Met l yX12_hasMean (uws yX12_hasMean cX12_hasMean 4 (some .boolean)) (qR 6 0 0) (qPc E A 1 u [.ref (E.2.2 1299), .int x, .int y, .int z]) (qQi E A 1 (fun r u1 => qFr [1260, 1225, 1228, 1229, 1270, 1265, 1268, 1269] [1261, 1224, 1226, 1227, 1262, 1263, 1264, 1266, 1267, 1271, 1272, 1273, 1274] [] u u1 ∧ ((r = 1 ∧ ((g_rw (u1.2.1 1262) 120 0 1001) ∧ f_HM k x y z ∧ f_cm k y z (u1.2.1 1274) (u.1 1232).toInt)) ∨ (r = 0 ∧ ((g_rw (u1.2.1 1262) 120 0 1001) ∧ ¬ f_HM k x y z))))) 0 0 A := by
  refine q_met (own := RX12) (f := 6) [.ref (E.2.2 1299), .int x, .int y, .int z] (by decide) (Nat.le_of_ble_eq_true rfl) rfl ?_
  intro p0 e0 s0 m0 bl0 me0 cd0 ls hF hr hlocks hU hS hA hl
  have hl : lv_has ls 4 [(0, .ref (E.2.2 1299)), (1, .int x), (2, .int y), (3, .int z)] := hl
  have hfr : qFr [1260, 1225, 1228, 1229, 1270, 1265, 1268, 1269] [1261, 1224, 1226, 1227, 1262, 1263, 1264, 1266, 1267, 1271, 1272, 1273, 1274] [] u u := qFr.rf
  refine lv_aload_n hF.1 hF.2.1 dX12_hasMean_0 rfl (lv_at hl 0 rfl) ?_
  refine lv_iload_n hF.1 hF.2.1 dX12_hasMean_1 rfl (lv_at hl 1 rfl) ?_
  have hM9 := g_X12_isShop l E A u x
  have hR9 := q_runV (l := l) (e := e0) (below := bl0) (meth := me0) (R := qR 6 0 0) (cells := 0) (slots := 0) (st0 := [.int x, .ref (E.2.2 1299)]) (rest := []) hF hU hS hA 1 0 12 1299 rfl rfl rfl hM9 w_1710 w_1712 w_68 w_107 w_1713 (by decide +kernel) ⟨Nat.le_of_ble_eq_true rfl, Nat.le_of_ble_eq_true rfl⟩ dX12_hasMean_2 rfl hl.1 rfl (Nat.le_of_ble_eq_true rfl) ⟨Nat.le_of_ble_eq_true rfl, Nat.le_of_ble_eq_true rfl⟩
  refine q_calli hR9 hU.2.2.2 hS (fun r_3 u_1 H locs hw_2 hU hS => ?_)
  obtain ⟨hw_2_e, hw_2⟩ := hw_2
  rw [hw_2_e] at hU
  have hw_2 : (r_3 = 1 ∧ (0 ≤ x ∧ x < u.1 1232)) ∨ (r_3 = 0 ∧ ¬ (0 ≤ x ∧ x < u.1 1232)) := hw_2
  rcases hw_2 with ⟨rfl, b2_4⟩ | ⟨rfl, b2_4⟩
  · refine lv_if_eq (tgt := 16) hF.1 hF.2.1 dX12_hasMean_5 (by decide) (fun h9 => absurd h9 (by decide)) (fun _ => ?_)
    refine lv_iload_n hF.1 hF.2.1 dX12_hasMean_8 rfl (lv_at hl 2 rfl) ?_
    refine lv_iload_n hF.1 hF.2.1 dX12_hasMean_9 rfl (lv_at hl 3 rfl) ?_
    have hM9 := g_X12_areDays l E A u y z
    have hR9 := q_runS (l := l) (e := e0) (below := bl0) (meth := me0) (R := qR 6 0 0) (cells := 0) (slots := 0) (st0 := [.int z, .int y]) (rest := []) hF hU hS hA 2 hM9 w_1845 w_1846 w_107 w_1847 (by decide +kernel) ⟨Nat.le_of_ble_eq_true rfl, Nat.le_of_ble_eq_true rfl⟩ dX12_hasMean_10 rfl hl.1 rfl (Nat.le_of_ble_eq_true rfl) ⟨Nat.le_of_ble_eq_true rfl, Nat.le_of_ble_eq_true rfl⟩
    refine q_calli hR9 hU.2.2.2 hS (fun r_7 u_5 H locs hw_6 hU hS => ?_)
    obtain ⟨hw_6_e, hw_6⟩ := hw_6
    rw [hw_6_e] at hU
    have hw_6 : (r_7 = 1 ∧ ((0 ≤ y ∧ y ≤ 9999) ∧ (0 ≤ z ∧ z ≤ 9999) ∧ y ≤ z)) ∨ (r_7 = 0 ∧ ¬ ((0 ≤ y ∧ y ≤ 9999) ∧ (0 ≤ z ∧ z ≤ 9999) ∧ y ≤ z)) := hw_6
    rcases hw_6 with ⟨rfl, b10_8⟩ | ⟨rfl, b10_8⟩
    · refine lv_if_ne (tgt := 18) hF.1 hF.2.1 dX12_hasMean_13 (by decide) (fun _ => ?_) (fun h9 => absurd h9 (by decide))
      refine lv_aload_n hF.1 hF.2.1 dX12_hasMean_18 rfl (lv_at hl 0 rfl) ?_
      refine lv_iload_n hF.1 hF.2.1 dX12_hasMean_19 rfl (lv_at hl 2 rfl) ?_
      refine lv_iload_n hF.1 hF.2.1 dX12_hasMean_20 rfl (lv_at hl 3 rfl) ?_
      have hM9 := g_X12_findMeans_f l E A u y z k hI (g_X12_hasMean_h_v0 u x y z k hI hSc hk b2_4 b10_8) hk
      have hR9 := q_runV (l := l) (e := e0) (below := bl0) (meth := me0) (R := qR 6 0 0) (cells := 0) (slots := 0) (st0 := [.int z, .int y, .ref (E.2.2 1299)]) (rest := []) hF hU hS hA 2 0 12 1299 rfl rfl rfl hM9 w_1848 w_1850 w_90 w_107 w_1851 (by decide +kernel) ⟨Nat.le_of_ble_eq_true rfl, Nat.le_of_ble_eq_true rfl⟩ dX12_hasMean_21 rfl hl.1 rfl (Nat.le_of_ble_eq_true rfl) ⟨Nat.le_of_ble_eq_true rfl, Nat.le_of_ble_eq_true rfl⟩
      refine q_callv hR9 hU.2.2.2 hS (fun u_9 H locs hw_10 hU hS => ?_)
      have hw_10_f := hw_10.1
      have hfo := hfr
      have hfr : qFr [1260, 1225, 1228, 1229, 1270, 1265, 1268, 1269] [1261, 1224, 1226, 1227, 1262, 1263, 1264, 1266, 1267, 1271, 1272, 1273, 1274] [] u u_9 := hfr.trans (hw_10_f.mono (by decide) (by decide) (by decide))
      have hw_10 := hw_10.2
      have hw_10 : g_rw (u_9.2.1 1262) 120 0 1001 ∧ g_rw (u_9.2.1 1273) (u.1 1232).toInt (-200000) 200001 ∧ g_rw (u_9.2.1 1274) (u.1 1232).toInt 0 121 ∧ f_cm k y z (u_9.2.1 1274) (u.1 1232).toInt := hw_10
      have hp_12 : g_rw (u_9.2.1 1262) 120 0 1001 := hw_10.1
      have hp_13 : g_rw (u_9.2.1 1273) (u.1 1232).toInt (-200000) 200001 := hw_10.2.1
      have hp_14 : g_rw (u_9.2.1 1274) (u.1 1232).toInt 0 121 := hw_10.2.2.1
      have hp_15 : f_cm k y z (u_9.2.1 1274) (u.1 1232).toInt := hw_10.2.2.2
      refine lv_aload_n hF.1 hF.2.1 dX12_hasMean_24 rfl (lv_at hl 0 rfl) ?_
      refine q_get (v := .ref (E.2.2 1274)) hF hU dX12_hasMean_25 0 12 74 1274 1299 rfl rfl rfl rfl inX12 (by decide) (by decide) w_1403 rfl rfl ?_
      refine lv_iload_n hF.1 hF.2.1 dX12_hasMean_28 rfl (lv_at hl 1 rfl) ?_
      refine q_iald (v := u_9.2.1 1274 (x : Int32).toNatClampNeg) hF hU dX12_hasMean_29 47 1274 rfl rfl (g_X12_hasMean_h_v1 u x y z k u_9 hI hSc hk b2_4 b10_8 hp_12 hp_13 hp_14 hp_15) rfl ?_
      refine lv_if_le (tgt := 37) hF.1 hF.2.1 dX12_hasMean_30 (by decide) (fun c30_16 => ?_) (fun c30_16 => ?_)
      · refine lv_iconst (v := 0) hF.1 hF.2.1 dX12_hasMean_37 (by decide) ?_
        exact q_iret hF hr (by decide) hlocks hU hS dX12_hasMean_38 ⟨hfr, (g_X12_hasMean_h_v2 u x y z k u_9 hI hSc hk b2_4 b10_8 hp_12 hp_13 hp_14 hp_15 c30_16)⟩
      · refine lv_iconst (v := 1) hF.1 hF.2.1 dX12_hasMean_33 (by decide) ?_
        refine lv_goto (tgt := 38) hF.1 hF.2.1 dX12_hasMean_34 (by decide) ?_
        exact q_iret hF hr (by decide) hlocks hU hS dX12_hasMean_38 ⟨hfr, (g_X12_hasMean_h_v3 u x y z k u_9 hI hSc hk b2_4 b10_8 hp_12 hp_13 hp_14 hp_15 c30_16)⟩
    · refine lv_if_ne (tgt := 18) hF.1 hF.2.1 dX12_hasMean_13 (by decide) (fun h9 => absurd (by decide) h9) (fun _ => ?_)
      refine lv_iconst (v := 0) hF.1 hF.2.1 dX12_hasMean_16 (by decide) ?_
      exact q_iret hF hr (by decide) hlocks hU hS dX12_hasMean_17 ⟨hfr, (g_X12_hasMean_h_v4 u x y z k hI hSc hk b2_4 b10_8)⟩
  · refine lv_if_eq (tgt := 16) hF.1 hF.2.1 dX12_hasMean_5 (by decide) (fun _ => ?_) (fun h9 => absurd (by decide) h9)
    refine lv_iconst (v := 0) hF.1 hF.2.1 dX12_hasMean_16 (by decide) ?_
    exact q_iret hF hr (by decide) hlocks hU hS dX12_hasMean_17 ⟨hfr, (g_X12_hasMean_h_v5 u x y z k hI hSc hk b2_4)⟩
set_option maxRecDepth 100000 in
theorem g_X12_doubtOf_f_v0 (u : qS) (x : Int32) (hI : IM u) (hx : 0 ≤ x ∧ x < u.1 1232) (hn : 0 < u.2.1 1274 x.toNatClampNeg) (hs_1 : 0 ≤ u.1 1244 ∧ u.1 1244 ≤ 1000) : vp_in (x) 20 := by
  have hz1232 := hI.1.s1232
  refine g_in ?_ ?_ <;> ((try simp only [g_m1, Int32.lt_iff_toInt_lt, Int32.le_iff_toInt_le, ← Int32.toInt_inj, Int32.toInt_add, Int32.toInt_sub, Int32.toInt_mul, Int32.toInt_neg, Int32.reduceToInt, g_bm, g_bm'] at *); omega)
set_option maxRecDepth 100000 in
theorem g_X12_doubtOf_f_v1 (u : qS) (x : Int32) (hI : IM u) (hx : 0 ≤ x ∧ x < u.1 1232) (hn : 0 < u.2.1 1274 x.toNatClampNeg) (hs_1 : 0 ≤ u.1 1244 ∧ u.1 1244 ≤ 1000) : ¬ (u.2.1 1274 (x : Int32).toNatClampNeg) = 0 := by
  have hz1232 := hI.1.s1232
  exact fun e => absurd (e ▸ hn) Int32.lt_irrefl
set_option maxRecDepth 100000 in
theorem g_X12_doubtOf_f_v2 (u : qS) (x : Int32) (hI : IM u) (hx : 0 ≤ x ∧ x < u.1 1232) (hn : 0 < u.2.1 1274 x.toNatClampNeg) (hs_1 : 0 ≤ u.1 1244 ∧ u.1 1244 ≤ 1000) : ((100 * (u.1 1244)) / (u.2.1 1274 (x : Int32).toNatClampNeg) : Int32) = 100 * u.1 1244 / u.2.1 1274 x.toNatClampNeg := by
  have hz1232 := hI.1.s1232
  rfl
set_option maxHeartbeats 1000000 in
set_option maxRecDepth 100000 in
theorem g_X12_doubtOf_f (l : Launch) (E : qE) (A : Nat → Prop) (u : qS) (x : Int32) (hI : IM u) (hx : 0 ≤ x ∧ x < u.1 1232) (hn : 0 < u.2.1 1274 x.toNatClampNeg) : Met l yX12_doubtOf (uws yX12_doubtOf cX12_doubtOf 2 (some .int)) (qR 0 0 0) (qPc E A 1 u [.ref (E.2.2 1299), .int x]) (qQi E A 1 (fun r u1 => u1 = u ∧ (r = 100 * u.1 1244 / u.2.1 1274 x.toNatClampNeg))) 0 0 A := by
  refine q_met (own := RX12) (f := 0) [.ref (E.2.2 1299), .int x] (by decide) (Nat.le_of_ble_eq_true rfl) rfl ?_
  intro p0 e0 s0 m0 bl0 me0 cd0 ls hF hr hlocks hU hS hA hl
  have hl : lv_has ls 2 [(0, .ref (E.2.2 1299)), (1, .int x)] := hl
  refine lv_bipush (v := 100) hF.1 hF.2.1 dX12_doubtOf_0 (by decide) ?_
  refine lv_aload_n hF.1 hF.2.1 dX12_doubtOf_2 rfl (lv_at hl 0 rfl) ?_
  refine q_get (v := .int (u.1 1244)) hF hU dX12_doubtOf_3 0 12 44 1244 1299 rfl rfl rfl rfl inX12 (by decide) (by decide) w_1373 rfl rfl ?_
  have hs_1 : 0 ≤ u.1 1244 ∧ u.1 1244 ≤ 1000 := hI.1.s1244
  refine lv_imul hF.1 hF.2.1 dX12_doubtOf_6 ?_
  refine lv_aload_n hF.1 hF.2.1 dX12_doubtOf_7 rfl (lv_at hl 0 rfl) ?_
  refine q_get (v := .ref (E.2.2 1274)) hF hU dX12_doubtOf_8 0 12 74 1274 1299 rfl rfl rfl rfl inX12 (by decide) (by decide) w_1403 rfl rfl ?_
  refine lv_iload_n hF.1 hF.2.1 dX12_doubtOf_11 rfl (lv_at hl 1 rfl) ?_
  refine q_iald (v := u.2.1 1274 (x : Int32).toNatClampNeg) hF hU dX12_doubtOf_12 47 1274 rfl rfl (g_X12_doubtOf_f_v0 u x hI hx hn hs_1) rfl ?_
  refine lv_idiv hF.1 hF.2.1 dX12_doubtOf_13 (g_X12_doubtOf_f_v1 u x hI hx hn hs_1) ?_
  exact q_iret hF hr rfl hlocks hU hS dX12_doubtOf_14 ⟨rfl, (g_X12_doubtOf_f_v2 u x hI hx hn hs_1)⟩
set_option maxRecDepth 100000 in
theorem g_X12_doubt_f_v0 (u : qS) (k : qS) (hI : IM u) (hSc : g_rw (u.2.1 1262) 120 0 1001) (hk : IK k u) : g_rw ((u.2.1 1262)) 120 0 1001 := by
  assumption
set_option maxRecDepth 100000 in
theorem g_X12_doubt_f_v1 (u : qS) (x : Int32) (y : Int32) (z : Int32) (k : qS) (u_1 : qS) (hI : IM u) (hSc : g_rw (u.2.1 1262) 120 0 1001) (hk : IK k u) (b9_5 : (g_rw (u_1.2.1 1262) 120 0 1001) ∧ f_HM k x y z ∧ f_cm k y z (u_1.2.1 1274) ((u.1 1232 : Int32)).toInt) : 0 ≤ x ∧ x < (u.1 1232 : Int32) := by
  have hz1232 := hI.1.s1232
  have w := (by assumption : g_rw _ _ _ _ ∧ f_HM k x y z ∧ _)
  rw [hk.i 1232 (by decide)]; exact w.2.1.1
set_option maxRecDepth 100000 in
theorem g_X12_doubt_f_v2 (u : qS) (x : Int32) (y : Int32) (z : Int32) (k : qS) (u_1 : qS) (hI : IM u) (hSc : g_rw (u.2.1 1262) 120 0 1001) (hk : IK k u) (b9_5 : (g_rw (u_1.2.1 1262) 120 0 1001) ∧ f_HM k x y z ∧ f_cm k y z (u_1.2.1 1274) ((u.1 1232 : Int32)).toInt) : 0 < (u_1.2.1 1274) x.toNatClampNeg := by
  have hz1247 := hI.1.s1247
  have hz1232 := hI.1.s1232
  have k32 := hk.i 1232 (by decide)
  have k47 := hk.i 1247 (by decide)
  have q8 := hI.1.s1247
  have n47 : (k.1 1247).toNatClampNeg ≤ 1000 := (by rw [← k47]; have c := g_clamp (u.1 1247); have b : (u.1 1247).toInt ≤ 120 := Int32.le_iff_toInt_le.mp q8.2; omega)
  have w := (by assumption : g_rw _ _ _ _ ∧ f_HM k x y z ∧ _)
  have a0 : 0 ≤ x.toInt := Int32.le_iff_toInt_le.mp w.2.1.1.1
  have e2 := Int32.toInt_inj.mp ((w.2.2 x a0 (Int32.lt_iff_toInt_lt.mp (by rw [k32]; exact w.2.1.1.2))).trans (m_cnt _ n47).symm)
  rw [e2]; exact w.2.1.2.2
set_option maxRecDepth 100000 in
theorem g_X12_doubt_f_v3 (u : qS) (x : Int32) (y : Int32) (z : Int32) (k : qS) (u_1 : qS) (r_8 : Int32) (hI : IM u) (hSc : g_rw (u.2.1 1262) 120 0 1001) (hk : IK k u) (b9_5 : (g_rw (u_1.2.1 1262) 120 0 1001) ∧ f_HM k x y z ∧ f_cm k y z (u_1.2.1 1274) ((u.1 1232 : Int32)).toInt) (hw_7 : r_8 = 100 * (u.1 1244 : Int32) / (u_1.2.1 1274) x.toNatClampNeg) : (g_rw ((u_1.2.1 1262)) 120 0 1001) ∧ ((f_HM k x y z ∧ (r_8 : Int32) = 100 * u.1 1244 / f_ad k (fun _ => 1) y z x (k.1 1247).toNatClampNeg) ∨ (¬ f_HM k x y z ∧ (r_8 : Int32) = -1)) := by
  have hz1247 := hI.1.s1247
  have hz1244 := hI.1.s1244
  have hz1232 := hI.1.s1232
  have k32 := hk.i 1232 (by decide)
  have k47 := hk.i 1247 (by decide)
  have q8 := hI.1.s1247
  have n47 : (k.1 1247).toNatClampNeg ≤ 1000 := (by rw [← k47]; have c := g_clamp (u.1 1247); have b : (u.1 1247).toInt ≤ 120 := Int32.le_iff_toInt_le.mp q8.2; omega)
  first
  | (have w := (by assumption : g_rw _ _ _ _ ∧ ¬ f_HM k x y z)
     exact ⟨w.1, Or.inr ⟨w.2, rfl⟩⟩)
  | (have w := (by assumption : g_rw _ _ _ _ ∧ f_HM k x y z ∧ _)
     have a0 : 0 ≤ x.toInt := Int32.le_iff_toInt_le.mp w.2.1.1.1
     have e2 := Int32.toInt_inj.mp ((w.2.2 x a0 (Int32.lt_iff_toInt_lt.mp (by rw [k32]; exact w.2.1.1.2))).trans (m_cnt _ n47).symm)
     refine ⟨w.1, Or.inl ⟨w.2.1, ?_⟩⟩
     rw [← e2]; assumption)
set_option maxRecDepth 100000 in
theorem g_X12_doubt_f_v4 (u : qS) (x : Int32) (y : Int32) (z : Int32) (k : qS) (u_1 : qS) (hI : IM u) (hSc : g_rw (u.2.1 1262) 120 0 1001) (hk : IK k u) (b9_5 : (g_rw (u_1.2.1 1262) 120 0 1001) ∧ ¬ f_HM k x y z) : (g_rw ((u_1.2.1 1262)) 120 0 1001) ∧ ((f_HM k x y z ∧ ((-1) : Int32) = 100 * u.1 1244 / f_ad k (fun _ => 1) y z x (k.1 1247).toNatClampNeg) ∨ (¬ f_HM k x y z ∧ ((-1) : Int32) = -1)) := by
  have hz1247 := hI.1.s1247
  have hz1244 := hI.1.s1244
  have k32 := hk.i 1232 (by decide)
  have k47 := hk.i 1247 (by decide)
  have q8 := hI.1.s1247
  have n47 : (k.1 1247).toNatClampNeg ≤ 1000 := (by rw [← k47]; have c := g_clamp (u.1 1247); have b : (u.1 1247).toInt ≤ 120 := Int32.le_iff_toInt_le.mp q8.2; omega)
  first
  | (have w := (by assumption : g_rw _ _ _ _ ∧ ¬ f_HM k x y z)
     exact ⟨w.1, Or.inr ⟨w.2, rfl⟩⟩)
  | (have w := (by assumption : g_rw _ _ _ _ ∧ f_HM k x y z ∧ _)
     have a0 : 0 ≤ x.toInt := Int32.le_iff_toInt_le.mp w.2.1.1.1
     have e2 := Int32.toInt_inj.mp ((w.2.2 x a0 (Int32.lt_iff_toInt_lt.mp (by rw [k32]; exact w.2.1.1.2))).trans (m_cnt _ n47).symm)
     refine ⟨w.1, Or.inl ⟨w.2.1, ?_⟩⟩
     rw [← e2]; assumption)
set_option maxHeartbeats 1000000 in
set_option maxRecDepth 100000 in
theorem g_X12_doubt_f (l : Launch) (E : qE) (A : Nat → Prop) (u : qS) (x : Int32) (y : Int32) (z : Int32) (k : qS) (hI : IM u) (hSc : g_rw (u.2.1 1262) 120 0 1001) (hk : IK k u) : Met l yX12_doubt (uws yX12_doubt cX12_doubt 4 (some .int)) (qR 7 0 0) (qPc E A 1 u [.ref (E.2.2 1299), .int x, .int y, .int z]) (qQi E A 1 (fun r u1 => qFr [1200, 1260, 1225, 1228, 1229, 1270, 1265, 1268, 1269] [1261, 1224, 1226, 1227, 1262, 1263, 1264, 1266, 1267, 1271, 1272, 1273, 1274] [] u u1 ∧ ((g_rw (u1.2.1 1262) 120 0 1001) ∧ ((f_HM k x y z ∧ r = 100 * u.1 1244 / f_ad k (fun _ => 1) y z x (k.1 1247).toNatClampNeg) ∨ (¬ f_HM k x y z ∧ r = -1))))) 0 0 A := by
  refine q_met (own := RX12) (f := 7) [.ref (E.2.2 1299), .int x, .int y, .int z] (by decide) (Nat.le_of_ble_eq_true rfl) rfl ?_
  intro p0 e0 s0 m0 bl0 me0 cd0 ls hF hr hlocks hU hS hA hl
  have hl : lv_has ls 4 [(0, .ref (E.2.2 1299)), (1, .int x), (2, .int y), (3, .int z)] := hl
  have hfr : qFr [1200, 1260, 1225, 1228, 1229, 1270, 1265, 1268, 1269] [1261, 1224, 1226, 1227, 1262, 1263, 1264, 1266, 1267, 1271, 1272, 1273, 1274] [] u u := qFr.rf
  refine lv_aload_n hF.1 hF.2.1 dX12_doubt_0 rfl (lv_at hl 0 rfl) ?_
  refine lv_iconst (v := 0) hF.1 hF.2.1 dX12_doubt_1 (by decide) ?_
  refine q_put hF hU hS dX12_doubt_2 0 12 0 1200 1299 rfl rfl rfl rfl inX12 tyX12 tyX12_ok nmX12 (by decide) (by decide) rfl w_1329 rfl rfl rfl rfl (fun H locs hU hS => ?_)
  have hfr : qFr [1200, 1260, 1225, 1228, 1229, 1270, 1265, 1268, 1269] [1261, 1224, 1226, 1227, 1262, 1263, 1264, 1266, 1267, 1271, 1272, 1273, 1274] [] u (qsI u 1200 0) := hfr.setI (by decide)
  refine lv_aload_n hF.1 hF.2.1 dX12_doubt_5 rfl (lv_at hl 0 rfl) ?_
  refine lv_iload_n hF.1 hF.2.1 dX12_doubt_6 rfl (lv_at hl 1 rfl) ?_
  refine lv_iload_n hF.1 hF.2.1 dX12_doubt_7 rfl (lv_at hl 2 rfl) ?_
  refine lv_iload_n hF.1 hF.2.1 dX12_doubt_8 rfl (lv_at hl 3 rfl) ?_
  have hM9 := g_X12_hasMean_h l E A (qsI u 1200 0) x y z k (hI.fr hfr (by decide) (by decide)) (g_X12_doubt_f_v0 u k hI hSc hk) (hk.fr hfr (by decide) (by decide))
  have hR9 := q_runV (l := l) (e := e0) (below := bl0) (meth := me0) (R := qR 7 0 0) (cells := 0) (slots := 0) (st0 := [.int z, .int y, .int x, .ref (E.2.2 1299)]) (rest := []) hF hU hS hA 3 0 12 1299 rfl rfl rfl hM9 w_1841 w_1843 w_89 w_107 w_1844 (by decide +kernel) ⟨Nat.le_of_ble_eq_true rfl, Nat.le_of_ble_eq_true rfl⟩ dX12_doubt_9 rfl hl.1 rfl (Nat.le_of_ble_eq_true rfl) ⟨Nat.le_of_ble_eq_true rfl, Nat.le_of_ble_eq_true rfl⟩
  refine q_calli hR9 hU.2.2.2 hS (fun r_3 u_1 H locs hw_2 hU hS => ?_)
  have hw_2_f := hw_2.1
  have hfo := hfr
  have hfr : qFr [1200, 1260, 1225, 1228, 1229, 1270, 1265, 1268, 1269] [1261, 1224, 1226, 1227, 1262, 1263, 1264, 1266, 1267, 1271, 1272, 1273, 1274] [] u u_1 := hfr.trans (hw_2_f.mono (by decide) (by decide) (by decide))
  have hw_2 := hw_2.2
  have e_4 : u_1.1 1200 = 0 := (hw_2_f.1 1200 (by decide)).trans rfl
  have hw_2 : (r_3 = 1 ∧ ((g_rw (u_1.2.1 1262) 120 0 1001) ∧ f_HM k x y z ∧ f_cm k y z (u_1.2.1 1274) ((u.1 1232 : Int32)).toInt)) ∨ (r_3 = 0 ∧ ((g_rw (u_1.2.1 1262) 120 0 1001) ∧ ¬ f_HM k x y z)) := by rw [(hfo.1 1232 (by decide))] at hw_2; exact hw_2
  rcases hw_2 with ⟨rfl, b9_5⟩ | ⟨rfl, b9_5⟩
  · refine lv_if_eq (tgt := 23) hF.1 hF.2.1 dX12_doubt_12 (by decide) (fun h9 => absurd h9 (by decide)) (fun _ => ?_)
    refine lv_aload_n hF.1 hF.2.1 dX12_doubt_15 rfl (lv_at hl 0 rfl) ?_
    refine lv_iload_n hF.1 hF.2.1 dX12_doubt_16 rfl (lv_at hl 1 rfl) ?_
    have hM9 := g_X12_doubtOf_f l E A u_1 x (hI.fr hfr (by decide) (by decide)) (by rw [(hfr.1 1232 (by decide))]; exact (g_X12_doubt_f_v1 u x y z k u_1 hI hSc hk b9_5)) (g_X12_doubt_f_v2 u x y z k u_1 hI hSc hk b9_5)
    have hR9 := q_runV (l := l) (e := e0) (below := bl0) (meth := me0) (R := qR 7 0 0) (cells := 0) (slots := 0) (st0 := [.int x, .ref (E.2.2 1299)]) (rest := []) hF hU hS hA 1 0 12 1299 rfl rfl rfl hM9 w_1856 w_1858 w_91 w_107 w_1859 (by decide +kernel) ⟨Nat.le_of_ble_eq_true rfl, Nat.le_of_ble_eq_true rfl⟩ dX12_doubt_17 rfl hl.1 rfl (Nat.le_of_ble_eq_true rfl) ⟨Nat.le_of_ble_eq_true rfl, Nat.le_of_ble_eq_true rfl⟩
    refine q_calli hR9 hU.2.2.2 hS (fun r_8 u_6 H locs hw_7 hU hS => ?_)
    obtain ⟨hw_7_e, hw_7⟩ := hw_7
    rw [hw_7_e] at hU
    have hw_7 : r_8 = 100 * (u.1 1244 : Int32) / (u_1.2.1 1274) x.toNatClampNeg := by rw [(hfr.1 1244 (by decide))] at hw_7; exact hw_7
    refine lv_goto (tgt := 24) hF.1 hF.2.1 dX12_doubt_20 (by decide) ?_
    exact q_iret hF hr rfl hlocks hU hS dX12_doubt_24 ⟨hfr, (g_X12_doubt_f_v3 u x y z k u_1 r_8 hI hSc hk b9_5 hw_7)⟩
  · refine lv_if_eq (tgt := 23) hF.1 hF.2.1 dX12_doubt_12 (by decide) (fun _ => ?_) (fun h9 => absurd (by decide) h9)
    refine lv_iconst (v := (-1)) hF.1 hF.2.1 dX12_doubt_23 (by decide) ?_
    exact q_iret hF hr rfl hlocks hU hS dX12_doubt_24 ⟨hfr, (g_X12_doubt_f_v4 u x y z k u_1 hI hSc hk b9_5)⟩
