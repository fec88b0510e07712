set_option maxRecDepth 100000 in
theorem g_X6_refresh_k_v0 (u : qS) (x1 : Int32) (uc : qS) (hz8 : 0 ≤ u.1 8 ∧ u.1 8 ≤ 20) (hz9 : 0 ≤ u.1 9 ∧ u.1 9 ≤ 8) (hz10 : 0 ≤ u.1 10 ∧ u.1 10 ≤ 120) (hz12 : 0 ≤ u.1 12 ∧ u.1 12 ≤ 16) (h_k : 0 ≤ x1) (h_9 : uc.1 609 = u.1 18) (h_n : ¬ u.1 609 = u.1 18) (c44_1 : (u.1 10) ≤ (x1 : Int32)) : (uc.1 609 : Int32) = u.1 18 ∧ (u.1 609 = u.1 18 → ∀ B : Nat → Int32, qFD 11 B u → qFD 11 B uc) := by
  first | exact ⟨by assumption, fun _ _ h => h⟩ | exact ⟨h_9, fun q => absurd q h_n⟩
set_option maxRecDepth 100000 in
theorem g_X6_refresh_k_v1 (u : qS) (x1 : Int32) (uc : qS) (hz8 : 0 ≤ u.1 8 ∧ u.1 8 ≤ 20) (hz9 : 0 ≤ u.1 9 ∧ u.1 9 ≤ 8) (hz10 : 0 ≤ u.1 10 ∧ u.1 10 ≤ 120) (hz12 : 0 ≤ u.1 12 ∧ u.1 12 ≤ 16) (h_k : 0 ≤ x1) (h_9 : uc.1 609 = u.1 18) (h_n : ¬ u.1 609 = u.1 18) (c44_1 : ¬ (u.1 10) ≤ (x1 : Int32)) : 0 ≤ x1 ∧ x1 < (u.1 10) := by
  first | omega | ((try simp only [g_m1, Int32.lt_iff_toInt_lt, Int32.le_iff_toInt_le, ← Int32.toInt_inj, Int32.reduceToInt] at *); omega) | ((try simp only [g_m1, Int32.lt_iff_toInt_lt, Int32.le_iff_toInt_le, ← Int32.toInt_inj, Int32.reduceToInt] at *); omega) | ((try simp only [g_m1, Int32.lt_iff_toInt_lt, Int32.le_iff_toInt_le, ← Int32.toInt_inj, Int32.toInt_add, Int32.toInt_sub, Int32.toInt_mul, Int32.toInt_neg, Int32.reduceToInt, g_bm, g_bm'] at *); omega) | (have qr1 := g_rng x1; (try simp only [g_m1, Int32.lt_iff_toInt_lt, Int32.le_iff_toInt_le, ← Int32.toInt_inj, Int32.toInt_add, Int32.toInt_sub, Int32.toInt_mul, Int32.toInt_neg, Int32.reduceToInt, g_bm, g_bm'] at *); omega) | (simp only [g_m1, Int32.lt_iff_toInt_lt, Int32.le_iff_toInt_le, ← Int32.toInt_inj, Int32.toInt_add, Int32.toInt_sub, Int32.toInt_mul, Int32.toInt_neg, Int32.reduceToInt, g_bm, g_bm'] at *; simp at *; omega) | (simp_all; done)
set_option maxRecDepth 100000 in
theorem g_X6_refresh_k_v2 (u : qS) (x1 : Int32) (uc : qS) (hz8 : 0 ≤ u.1 8 ∧ u.1 8 ≤ 20) (hz9 : 0 ≤ u.1 9 ∧ u.1 9 ≤ 8) (hz10 : 0 ≤ u.1 10 ∧ u.1 10 ≤ 120) (hz12 : 0 ≤ u.1 12 ∧ u.1 12 ≤ 16) (h_k : 0 ≤ x1) (h_9 : uc.1 609 = u.1 18) (h_n : ¬ u.1 609 = u.1 18) (c44_1 : ¬ (u.1 10) ≤ (x1 : Int32)) : vp_in (x1) 120 := by
  refine g_in ?_ ?_ <;> ((try simp only [g_m1, Int32.lt_iff_toInt_lt, Int32.le_iff_toInt_le, ← Int32.toInt_inj, Int32.toInt_add, Int32.toInt_sub, Int32.toInt_mul, Int32.toInt_neg, Int32.reduceToInt, g_bm, g_bm'] at *); omega)
set_option maxRecDepth 100000 in
theorem g_X6_refresh_k_v3 (u : qS) (x1 : Int32) (uc : qS) (a_2 : Nat) (hz8 : 0 ≤ u.1 8 ∧ u.1 8 ≤ 20) (hz9 : 0 ≤ u.1 9 ∧ u.1 9 ≤ 8) (hz10 : 0 ≤ u.1 10 ∧ u.1 10 ≤ 120) (hz12 : 0 ≤ u.1 12 ∧ u.1 12 ≤ 16) (h_k : 0 ≤ x1) (h_9 : uc.1 609 = u.1 18) (h_n : ¬ u.1 609 = u.1 18) (c44_1 : ¬ (u.1 10) ≤ (x1 : Int32)) (b60_7 : qfd uc.2.2.2.2 a_2 1 ≤ c_sd uc) : 0 ≤ x1 ∧ x1 < (u.1 10) := by
  first | omega | ((try simp only [g_m1, Int32.lt_iff_toInt_lt, Int32.le_iff_toInt_le, ← Int32.toInt_inj, Int32.reduceToInt] at *); omega) | ((try simp only [g_m1, Int32.lt_iff_toInt_lt, Int32.le_iff_toInt_le, ← Int32.toInt_inj, Int32.reduceToInt] at *); omega) | ((try simp only [g_m1, Int32.lt_iff_toInt_lt, Int32.le_iff_toInt_le, ← Int32.toInt_inj, Int32.toInt_add, Int32.toInt_sub, Int32.toInt_mul, Int32.toInt_neg, Int32.reduceToInt, g_bm, g_bm'] at *); omega) | (have qr1 := g_rng x1; (try simp only [g_m1, Int32.lt_iff_toInt_lt, Int32.le_iff_toInt_le, ← Int32.toInt_inj, Int32.toInt_add, Int32.toInt_sub, Int32.toInt_mul, Int32.toInt_neg, Int32.reduceToInt, g_bm, g_bm'] at *); omega) | (simp only [g_m1, Int32.lt_iff_toInt_lt, Int32.le_iff_toInt_le, ← Int32.toInt_inj, Int32.toInt_add, Int32.toInt_sub, Int32.toInt_mul, Int32.toInt_neg, Int32.reduceToInt, g_bm, g_bm'] at *; simp at *; omega) | (simp_all; done)
set_option maxRecDepth 100000 in
theorem g_X6_refresh_k_v4 (u : qS) (x1 : Int32) (uc : qS) (a_2 : Nat) (hz8 : 0 ≤ u.1 8 ∧ u.1 8 ≤ 20) (hz9 : 0 ≤ u.1 9 ∧ u.1 9 ≤ 8) (hz10 : 0 ≤ u.1 10 ∧ u.1 10 ≤ 120) (hz12 : 0 ≤ u.1 12 ∧ u.1 12 ≤ 16) (h_k : 0 ≤ x1) (h_9 : uc.1 609 = u.1 18) (h_n : ¬ u.1 609 = u.1 18) (c44_1 : ¬ (u.1 10) ≤ (x1 : Int32)) (b60_7 : qfd uc.2.2.2.2 a_2 1 ≤ c_sd uc) : vp_in (x1) 120 := by
  refine g_in ?_ ?_ <;> ((try simp only [g_m1, Int32.lt_iff_toInt_lt, Int32.le_iff_toInt_le, ← Int32.toInt_inj, Int32.toInt_add, Int32.toInt_sub, Int32.toInt_mul, Int32.toInt_neg, Int32.reduceToInt, g_bm, g_bm'] at *); omega)
set_option maxRecDepth 100000 in
theorem g_X6_refresh_k_v5 (u : qS) (x1 : Int32) (uc : qS) (a_2 : Nat) (hz8 : 0 ≤ u.1 8 ∧ u.1 8 ≤ 20) (hz9 : 0 ≤ u.1 9 ∧ u.1 9 ≤ 8) (hz10 : 0 ≤ u.1 10 ∧ u.1 10 ≤ 120) (hz12 : 0 ≤ u.1 12 ∧ u.1 12 ≤ 16) (h_k : 0 ≤ x1) (h_9 : uc.1 609 = u.1 18) (h_n : ¬ u.1 609 = u.1 18) (c44_1 : ¬ (u.1 10) ≤ (x1 : Int32)) (b60_7 : qfd uc.2.2.2.2 a_2 1 ≤ c_sd uc) : 0 ≤ (x1 + 1) := by
  first | omega | ((try simp only [g_m1, Int32.lt_iff_toInt_lt, Int32.le_iff_toInt_le, ← Int32.toInt_inj, Int32.reduceToInt] at *); omega) | ((try have ez0 : (x1 + 1 : Int32).toInt = (x1 : Int32).toInt + (1 : Int32).toInt := g_add (by (try simp only [g_m1, Int32.lt_iff_toInt_lt, Int32.le_iff_toInt_le, ← Int32.toInt_inj, Int32.reduceToInt] at *); omega) (by (try simp only [g_m1, Int32.lt_iff_toInt_lt, Int32.le_iff_toInt_le, ← Int32.toInt_inj, Int32.reduceToInt] at *); omega)); (try simp only [g_m1, Int32.lt_iff_toInt_lt, Int32.le_iff_toInt_le, ← Int32.toInt_inj, Int32.reduceToInt] at *); omega) | ((try simp only [g_m1, Int32.lt_iff_toInt_lt, Int32.le_iff_toInt_le, ← Int32.toInt_inj, Int32.toInt_add, Int32.toInt_sub, Int32.toInt_mul, Int32.toInt_neg, Int32.reduceToInt, g_bm, g_bm'] at *); omega) | (have qr1 := g_rng x1; (try simp only [g_m1, Int32.lt_iff_toInt_lt, Int32.le_iff_toInt_le, ← Int32.toInt_inj, Int32.toInt_add, Int32.toInt_sub, Int32.toInt_mul, Int32.toInt_neg, Int32.reduceToInt, g_bm, g_bm'] at *); omega) | (simp only [g_m1, Int32.lt_iff_toInt_lt, Int32.le_iff_toInt_le, ← Int32.toInt_inj, Int32.toInt_add, Int32.toInt_sub, Int32.toInt_mul, Int32.toInt_neg, Int32.reduceToInt, g_bm, g_bm'] at *; simp at *; omega) | (simp_all; done)
set_option maxRecDepth 100000 in
theorem g_X6_refresh_k_v6 (u : qS) (x1 : Int32) (uc : qS) (a_2 : Nat) (hz8 : 0 ≤ u.1 8 ∧ u.1 8 ≤ 20) (hz9 : 0 ≤ u.1 9 ∧ u.1 9 ≤ 8) (hz10 : 0 ≤ u.1 10 ∧ u.1 10 ≤ 120) (hz12 : 0 ≤ u.1 12 ∧ u.1 12 ≤ 16) (h_k : 0 ≤ x1) (h_9 : uc.1 609 = u.1 18) (h_n : ¬ u.1 609 = u.1 18) (c44_1 : ¬ (u.1 10) ≤ (x1 : Int32)) (b60_7 : qfd uc.2.2.2.2 a_2 1 ≤ c_sd uc) : (uc.1 609 : Int32) = u.1 18 := by
  exact h_9
set_option maxRecDepth 100000 in
theorem g_X6_refresh_k_v7 (u : qS) (x1 : Int32) (uc : qS) (a_2 : Nat) (hz8 : 0 ≤ u.1 8 ∧ u.1 8 ≤ 20) (hz9 : 0 ≤ u.1 9 ∧ u.1 9 ≤ 8) (hz10 : 0 ≤ u.1 10 ∧ u.1 10 ≤ 120) (hz12 : 0 ≤ u.1 12 ∧ u.1 12 ≤ 16) (h_k : 0 ≤ x1) (h_9 : uc.1 609 = u.1 18) (h_n : ¬ u.1 609 = u.1 18) (c44_1 : ¬ (u.1 10) ≤ (x1 : Int32)) (b60_7 : qfd uc.2.2.2.2 a_2 1 ≤ c_sd uc) : ¬ u.1 609 = u.1 18 := by
  exact h_n
set_option maxRecDepth 100000 in
theorem g_X6_refresh_k_v8 (u : qS) (x1 : Int32) (uc : qS) (a_2 : Nat) (hz8 : 0 ≤ u.1 8 ∧ u.1 8 ≤ 20) (hz9 : 0 ≤ u.1 9 ∧ u.1 9 ≤ 8) (hz10 : 0 ≤ u.1 10 ∧ u.1 10 ≤ 120) (hz12 : 0 ≤ u.1 12 ∧ u.1 12 ≤ 16) (h_k : 0 ≤ x1) (h_9 : uc.1 609 = u.1 18) (h_n : ¬ u.1 609 = u.1 18) (c44_1 : ¬ (u.1 10) ≤ (x1 : Int32)) (b60_7 : qfd uc.2.2.2.2 a_2 1 ≤ c_sd uc) : ((u.1 10).toInt - (x1 + 1).toInt).toNat < ((u.1 10).toInt - x1.toInt).toNat := by
  first | omega | ((try simp only [g_m1, Int32.lt_iff_toInt_lt, Int32.le_iff_toInt_le, ← Int32.toInt_inj, Int32.reduceToInt] at *); omega) | ((try have ez0 : (x1 + 1 : Int32).toInt = (x1 : Int32).toInt + (1 : Int32).toInt := g_add (by (try simp only [g_m1, Int32.lt_iff_toInt_lt, Int32.le_iff_toInt_le, ← Int32.toInt_inj, Int32.reduceToInt] at *); omega) (by (try simp only [g_m1, Int32.lt_iff_toInt_lt, Int32.le_iff_toInt_le, ← Int32.toInt_inj, Int32.reduceToInt] at *); omega)); (try simp only [g_m1, Int32.lt_iff_toInt_lt, Int32.le_iff_toInt_le, ← Int32.toInt_inj, Int32.reduceToInt] at *); omega) | ((try simp only [g_m1, Int32.lt_iff_toInt_lt, Int32.le_iff_toInt_le, ← Int32.toInt_inj, Int32.toInt_add, Int32.toInt_sub, Int32.toInt_mul, Int32.toInt_neg, Int32.reduceToInt, g_bm, g_bm'] at *); omega) | (have qr1 := g_rng x1; (try simp only [g_m1, Int32.lt_iff_toInt_lt, Int32.le_iff_toInt_le, ← Int32.toInt_inj, Int32.toInt_add, Int32.toInt_sub, Int32.toInt_mul, Int32.toInt_neg, Int32.reduceToInt, g_bm, g_bm'] at *); omega) | (simp only [g_m1, Int32.lt_iff_toInt_lt, Int32.le_iff_toInt_le, ← Int32.toInt_inj, Int32.toInt_add, Int32.toInt_sub, Int32.toInt_mul, Int32.toInt_neg, Int32.reduceToInt, g_bm, g_bm'] at *; simp at *; omega) | (simp_all; done)
set_option maxRecDepth 100000 in
theorem g_X6_refresh_k_v9 (u : qS) (x1 : Int32) (uc : qS) (a_2 : Nat) (hz8 : 0 ≤ u.1 8 ∧ u.1 8 ≤ 20) (hz9 : 0 ≤ u.1 9 ∧ u.1 9 ≤ 8) (hz10 : 0 ≤ u.1 10 ∧ u.1 10 ≤ 120) (hz12 : 0 ≤ u.1 12 ∧ u.1 12 ≤ 16) (h_k : 0 ≤ x1) (h_9 : uc.1 609 = u.1 18) (h_n : ¬ u.1 609 = u.1 18) (c44_1 : ¬ (u.1 10) ≤ (x1 : Int32)) (b60_7 : ¬ (qfd uc.2.2.2.2 a_2 1 ≤ c_sd uc)) : 0 ≤ (x1 + 1) := by
  first | omega | ((try simp only [g_m1, Int32.lt_iff_toInt_lt, Int32.le_iff_toInt_le, ← Int32.toInt_inj, Int32.reduceToInt] at *); omega) | ((try have ez0 : (x1 + 1 : Int32).toInt = (x1 : Int32).toInt + (1 : Int32).toInt := g_add (by (try simp only [g_m1, Int32.lt_iff_toInt_lt, Int32.le_iff_toInt_le, ← Int32.toInt_inj, Int32.reduceToInt] at *); omega) (by (try simp only [g_m1, Int32.lt_iff_toInt_lt, Int32.le_iff_toInt_le, ← Int32.toInt_inj, Int32.reduceToInt] at *); omega)); (try simp only [g_m1, Int32.lt_iff_toInt_lt, Int32.le_iff_toInt_le, ← Int32.toInt_inj, Int32.reduceToInt] at *); omega) | ((try simp only [g_m1, Int32.lt_iff_toInt_lt, Int32.le_iff_toInt_le, ← Int32.toInt_inj, Int32.toInt_add, Int32.toInt_sub, Int32.toInt_mul, Int32.toInt_neg, Int32.reduceToInt, g_bm, g_bm'] at *); omega) | (have qr1 := g_rng x1; (try simp only [g_m1, Int32.lt_iff_toInt_lt, Int32.le_iff_toInt_le, ← Int32.toInt_inj, Int32.toInt_add, Int32.toInt_sub, Int32.toInt_mul, Int32.toInt_neg, Int32.reduceToInt, g_bm, g_bm'] at *); omega) | (simp only [g_m1, Int32.lt_iff_toInt_lt, Int32.le_iff_toInt_le, ← Int32.toInt_inj, Int32.toInt_add, Int32.toInt_sub, Int32.toInt_mul, Int32.toInt_neg, Int32.reduceToInt, g_bm, g_bm'] at *; simp at *; omega) | (simp_all; done)
set_option maxRecDepth 100000 in
theorem g_X6_refresh_k_v10 (u : qS) (x1 : Int32) (uc : qS) (a_2 : Nat) (hz8 : 0 ≤ u.1 8 ∧ u.1 8 ≤ 20) (hz9 : 0 ≤ u.1 9 ∧ u.1 9 ≤ 8) (hz10 : 0 ≤ u.1 10 ∧ u.1 10 ≤ 120) (hz12 : 0 ≤ u.1 12 ∧ u.1 12 ≤ 16) (h_k : 0 ≤ x1) (h_9 : uc.1 609 = u.1 18) (h_n : ¬ u.1 609 = u.1 18) (c44_1 : ¬ (u.1 10) ≤ (x1 : Int32)) (b60_7 : ¬ (qfd uc.2.2.2.2 a_2 1 ≤ c_sd uc)) : (uc.1 609 : Int32) = u.1 18 := by
  exact h_9
set_option maxRecDepth 100000 in
theorem g_X6_refresh_k_v11 (u : qS) (x1 : Int32) (uc : qS) (a_2 : Nat) (hz8 : 0 ≤ u.1 8 ∧ u.1 8 ≤ 20) (hz9 : 0 ≤ u.1 9 ∧ u.1 9 ≤ 8) (hz10 : 0 ≤ u.1 10 ∧ u.1 10 ≤ 120) (hz12 : 0 ≤ u.1 12 ∧ u.1 12 ≤ 16) (h_k : 0 ≤ x1) (h_9 : uc.1 609 = u.1 18) (h_n : ¬ u.1 609 = u.1 18) (c44_1 : ¬ (u.1 10) ≤ (x1 : Int32)) (b60_7 : ¬ (qfd uc.2.2.2.2 a_2 1 ≤ c_sd uc)) : ¬ u.1 609 = u.1 18 := by
  exact h_n
set_option maxRecDepth 100000 in
theorem g_X6_refresh_k_v12 (u : qS) (x1 : Int32) (uc : qS) (a_2 : Nat) (hz8 : 0 ≤ u.1 8 ∧ u.1 8 ≤ 20) (hz9 : 0 ≤ u.1 9 ∧ u.1 9 ≤ 8) (hz10 : 0 ≤ u.1 10 ∧ u.1 10 ≤ 120) (hz12 : 0 ≤ u.1 12 ∧ u.1 12 ≤ 16) (h_k : 0 ≤ x1) (h_9 : uc.1 609 = u.1 18) (h_n : ¬ u.1 609 = u.1 18) (c44_1 : ¬ (u.1 10) ≤ (x1 : Int32)) (b60_7 : ¬ (qfd uc.2.2.2.2 a_2 1 ≤ c_sd uc)) : ((u.1 10).toInt - (x1 + 1).toInt).toNat < ((u.1 10).toInt - x1.toInt).toNat := by
  first | omega | ((try simp only [g_m1, Int32.lt_iff_toInt_lt, Int32.le_iff_toInt_le, ← Int32.toInt_inj, Int32.reduceToInt] at *); omega) | ((try have ez0 : (x1 + 1 : Int32).toInt = (x1 : Int32).toInt + (1 : Int32).toInt := g_add (by (try simp only [g_m1, Int32.lt_iff_toInt_lt, Int32.le_iff_toInt_le, ← Int32.toInt_inj, Int32.reduceToInt] at *); omega) (by (try simp only [g_m1, Int32.lt_iff_toInt_lt, Int32.le_iff_toInt_le, ← Int32.toInt_inj, Int32.reduceToInt] at *); omega)); (try simp only [g_m1, Int32.lt_iff_toInt_lt, Int32.le_iff_toInt_le, ← Int32.toInt_inj, Int32.reduceToInt] at *); omega) | ((try simp only [g_m1, Int32.lt_iff_toInt_lt, Int32.le_iff_toInt_le, ← Int32.toInt_inj, Int32.toInt_add, Int32.toInt_sub, Int32.toInt_mul, Int32.toInt_neg, Int32.reduceToInt, g_bm, g_bm'] at *); omega) | (have qr1 := g_rng x1; (try simp only [g_m1, Int32.lt_iff_toInt_lt, Int32.le_iff_toInt_le, ← Int32.toInt_inj, Int32.toInt_add, Int32.toInt_sub, Int32.toInt_mul, Int32.toInt_neg, Int32.reduceToInt, g_bm, g_bm'] at *); omega) | (simp only [g_m1, Int32.lt_iff_toInt_lt, Int32.le_iff_toInt_le, ← Int32.toInt_inj, Int32.toInt_add, Int32.toInt_sub, Int32.toInt_mul, Int32.toInt_neg, Int32.reduceToInt, g_bm, g_bm'] at *; simp at *; omega) | (simp_all; done)
set_option maxRecDepth 100000 in
theorem g_X6_refresh_k_v13 (u : qS) (u_15 : qS) (hz8 : 0 ≤ u.1 8 ∧ u.1 8 ≤ 20) (hz9 : 0 ≤ u.1 9 ∧ u.1 9 ≤ 8) (hz10 : 0 ≤ u.1 10 ∧ u.1 10 ≤ 120) (hz12 : 0 ≤ u.1 12 ∧ u.1 12 ≤ 16) (c11_14 : ¬ (u.1 609 : Int32) = (u.1 18)) (hw_16 : ∀ j : Nat, j < 20 → u_15.2.1 603 j = (0 : Int32)) : 0 ≤ (0 : Int32) := by
  first | omega | ((try simp only [g_m1, Int32.lt_iff_toInt_lt, Int32.le_iff_toInt_le, ← Int32.toInt_inj, Int32.reduceToInt] at *); omega) | ((try simp only [g_m1, Int32.lt_iff_toInt_lt, Int32.le_iff_toInt_le, ← Int32.toInt_inj, Int32.reduceToInt] at *); omega) | ((try simp only [g_m1, Int32.lt_iff_toInt_lt, Int32.le_iff_toInt_le, ← Int32.toInt_inj, Int32.toInt_add, Int32.toInt_sub, Int32.toInt_mul, Int32.toInt_neg, Int32.reduceToInt, g_bm, g_bm'] at *); omega) | ((try simp only [g_m1, Int32.lt_iff_toInt_lt, Int32.le_iff_toInt_le, ← Int32.toInt_inj, Int32.toInt_add, Int32.toInt_sub, Int32.toInt_mul, Int32.toInt_neg, Int32.reduceToInt, g_bm, g_bm'] at *); omega) | (simp only [g_m1, Int32.lt_iff_toInt_lt, Int32.le_iff_toInt_le, ← Int32.toInt_inj, Int32.toInt_add, Int32.toInt_sub, Int32.toInt_mul, Int32.toInt_neg, Int32.reduceToInt, g_bm, g_bm'] at *; simp at *; omega) | (simp_all; done)
set_option maxRecDepth 100000 in
theorem g_X6_refresh_k_v14 (u : qS) (u_15 : qS) (hz8 : 0 ≤ u.1 8 ∧ u.1 8 ≤ 20) (hz9 : 0 ≤ u.1 9 ∧ u.1 9 ≤ 8) (hz10 : 0 ≤ u.1 10 ∧ u.1 10 ≤ 120) (hz12 : 0 ≤ u.1 12 ∧ u.1 12 ≤ 16) (c11_14 : ¬ (u.1 609 : Int32) = (u.1 18)) (hw_16 : ∀ j : Nat, j < 20 → u_15.2.1 603 j = (0 : Int32)) : (u.1 18 : Int32) = u.1 18 := by
  rfl
set_option maxRecDepth 100000 in
theorem g_X6_refresh_k_v15 (u : qS) (u_15 : qS) (hz8 : 0 ≤ u.1 8 ∧ u.1 8 ≤ 20) (hz9 : 0 ≤ u.1 9 ∧ u.1 9 ≤ 8) (hz10 : 0 ≤ u.1 10 ∧ u.1 10 ≤ 120) (hz12 : 0 ≤ u.1 12 ∧ u.1 12 ≤ 16) (c11_14 : ¬ (u.1 609 : Int32) = (u.1 18)) (hw_16 : ∀ j : Nat, j < 20 → u_15.2.1 603 j = (0 : Int32)) : ¬ u.1 609 = u.1 18 := by
  assumption
set_option maxRecDepth 100000 in
theorem g_X6_refresh_k_v16 (u : qS) (hz8 : 0 ≤ u.1 8 ∧ u.1 8 ≤ 20) (hz9 : 0 ≤ u.1 9 ∧ u.1 9 ≤ 8) (hz10 : 0 ≤ u.1 10 ∧ u.1 10 ≤ 120) (hz12 : 0 ≤ u.1 12 ∧ u.1 12 ≤ 16) (c11_14 : (u.1 609 : Int32) = (u.1 18)) : (u.1 609 : Int32) = u.1 18 ∧ (u.1 609 = u.1 18 → ∀ B : Nat → Int32, qFD 11 B u → qFD 11 B u) := by
  first | exact ⟨by assumption, fun _ _ h => h⟩ | exact ⟨h_9, fun q => absurd q h_n⟩
set_option maxHeartbeats 1000000 in
set_option maxRecDepth 100000 in
theorem g_X6_refresh_k (l : Launch) (E : qE) (A : Nat → Prop) (u : qS) (hI : IC E u) : Met l yX6_refresh (uws yX6_refresh cX6_refresh 2 none) (qR 5 0 0) (qPc E A 0 u [.ref (E.2.2 699)]) (qQv E A 0 (fun u1 => (qFc [604, 605, 606, 607, 608, 609] [601, 602, 603] [] [5011, 5012, 5013, 5014] u u1 ∧ IC E u1) ∧ (u1.1 609 = u.1 18 ∧ (u.1 609 = u.1 18 → ∀ B : Nat → Int32, qFD 11 B u → qFD 11 B u1)))) 0 0 A := by
  refine q_met (own := RX6) (f := 5) [.ref (E.2.2 699)] (by decide) (Nat.le_of_ble_eq_true rfl) rfl ?_
  intro p0 e0 s0 m0 bl0 me0 cd0 ls hF hr hlocks hU hS hA hl
  have hl : lv_has ls 2 [(0, .ref (E.2.2 699))] := hl
  have hz8 : 0 ≤ u.1 8 ∧ u.1 8 ≤ 20 := hI.1.s8
  have hz9 : 0 ≤ u.1 9 ∧ u.1 9 ≤ 8 := hI.1.s9
  have hz10 : 0 ≤ u.1 10 ∧ u.1 10 ≤ 120 := hI.1.s10
  have hz12 : 0 ≤ u.1 12 ∧ u.1 12 ≤ 16 := hI.1.s12
  have hfr : qFc [604, 605, 606, 607, 608, 609] [601, 602, 603] [] [5011, 5012, 5013, 5014] u u := qFc.rf
  have main : ∀ n : Nat, (∀ (x1 : Int32) (uc : qS) (H : Heap) (locs : List Loc) (ls : Array Slot) (hfr : qFc [604, 605, 606, 607, 608, 609] [601, 602, 603] [] [5011, 5012, 5013, 5014] u uc) (hI : IC E uc) (h_k : 0 ≤ x1) (h_9 : uc.1 609 = u.1 18) (h_n : ¬ u.1 609 = u.1 18), ((u.1 10).toInt - x1.toInt).toNat < n → qH E A 0 uc s0 H → va_S A s0.heap H locs → lv_has ls 2 [(0, .ref (E.2.2 699)), (1, .int x1)] → W p0 l e0 (qR 5 0 0) s0 m0 ([.ref (E.2.2 699)] : List Value).toArray bl0 me0 cd0 H locs 0 0 (MQ bl0 (qQv E A 0 (fun u1 => (qFc [604, 605, 606, 607, 608, 609] [601, 602, 603] [] [5011, 5012, 5013, 5014] u u1 ∧ IC E u1) ∧ (u1.1 609 = u.1 18 ∧ (u.1 609 = u.1 18 → ∀ B : Nat → Int32, qFD 11 B u → qFD 11 B u1)))) ([.ref (E.2.2 699)] : List Value).toArray s0 0 0 A) (F0 m0 36 ls [])) := by
    clear hI hfr
    intro n
    induction n with
    | zero => exact fun _ _ _ _ _ _ _ _ _ _ hmu => absurd hmu (Nat.not_lt_zero _)
    | succ n ih =>
      intro x1 uc H locs ls hfr hI h_k h_9 h_n hmu hU hS hl
      refine lv_iload_n hF.1 hF.2.1 dX6_refresh_36 rfl (lv_at hl 1 rfl) ?_
      refine lv_aload_n hF.1 hF.2.1 dX6_refresh_37 rfl (lv_at hl 0 rfl) ?_
      refine q_get (v := .ref (E.2.2 99)) hF hU dX6_refresh_38 5 6 0 600 699 rfl rfl rfl rfl inX6 (by decide) (by decide) w_340 rfl rfl ?_
      refine q_get (v := .int (u.1 10)) hF hU dX6_refresh_41 1 0 10 10 99 rfl rfl rfl rfl inX0 (by decide) (by decide) w_168 rfl (congrArg Value.int (hfr.1 10 (by decide))) ?_
      refine lv_icmp_ge (tgt := 85) hF.1 hF.2.1 dX6_refresh_44 (by decide) (fun c44_1 => ?_) (fun c44_1 => ?_)
      · exact q_vret hF hr hlocks hU hS dX6_refresh_85 ⟨⟨hfr, hI⟩, (g_X6_refresh_k_v0 u x1 uc hz8 hz9 hz10 hz12 h_k h_9 h_n c44_1)⟩
      · refine lv_aload_n hF.1 hF.2.1 dX6_refresh_47 rfl (lv_at hl 0 rfl) ?_
        refine q_get (v := .ref (E.2.2 99)) hF hU dX6_refresh_48 5 6 0 600 699 rfl rfl rfl rfl inX6 (by decide) (by decide) w_340 rfl rfl ?_
        refine lv_aload_n hF.1 hF.2.1 dX6_refresh_51 rfl (lv_at hl 0 rfl) ?_
        refine q_get (v := .ref (E.2.2 99)) hF hU dX6_refresh_52 5 6 0 600 699 rfl rfl rfl rfl inX6 (by decide) (by decide) w_340 rfl rfl ?_
        refine q_get (v := .ref (E.2.2 3)) hF hU dX6_refresh_55 1 0 3 3 99 rfl rfl rfl rfl inX0 (by decide) (by decide) w_154 rfl rfl ?_
        refine lv_iload_n hF.1 hF.2.1 dX6_refresh_58 rfl (lv_at hl 1 rfl) ?_
        obtain ⟨a_2, ha_2_3_e, ha_2_3⟩ := hI.r3 x1 (by rw [(hfr.1 10 (by decide))]; exact (g_X6_refresh_k_v1 u x1 uc hz8 hz9 hz10 hz12 h_k h_9 h_n c44_1))
        refine q_aald (v := .ref a_2) hF hU dX6_refresh_59 3 3 6 rfl rfl (by decide) rfl (g_X6_refresh_k_v2 u x1 uc hz8 hz9 hz10 hz12 h_k h_9 h_n c44_1) (by rw [ha_2_3_e]; rfl) ?_
        have hM9 := g_X0_isSeen l E A uc a_2 hI ((ha_2_3).rf)
        have hR9 := q_runV (l := l) (e := e0) (below := bl0) (meth := me0) (R := qR 5 0 0) (cells := 0) (slots := 0) (st0 := [.ref a_2, .ref (E.2.2 99)]) (rest := []) hF hU hS hA 1 1 0 99 rfl rfl rfl hM9 w_943 w_861 w_862 w_100 w_863 (by decide +kernel) ⟨Nat.le_of_ble_eq_true rfl, Nat.le_of_ble_eq_true rfl⟩ dX6_refresh_60 rfl hl.1 rfl (Nat.le_of_ble_eq_true rfl) ⟨Nat.le_of_ble_eq_true rfl, Nat.le_of_ble_eq_true rfl⟩
        refine q_calli hR9 hU.2.2.2 hS (fun r_6 u_4 H locs hw_5 hU hS => ?_)
        obtain ⟨hw_5_e, hw_5⟩ := hw_5
        rw [hw_5_e] at hU
        have hw_5 : (r_6 = 1 ∧ (qfd uc.2.2.2.2 a_2 1 ≤ c_sd uc)) ∨ (r_6 = 0 ∧ (¬ (qfd uc.2.2.2.2 a_2 1 ≤ c_sd uc))) := hw_5
        rcases hw_5 with ⟨rfl, b60_7⟩ | ⟨rfl, b60_7⟩
        · refine lv_if_eq (tgt := 79) hF.1 hF.2.1 dX6_refresh_63 (by decide) (fun h9 => absurd h9 (by decide)) (fun _ => ?_)
          refine lv_aload_n hF.1 hF.2.1 dX6_refresh_66 rfl (lv_at hl 0 rfl) ?_
          refine lv_aload_n hF.1 hF.2.1 dX6_refresh_67 rfl (lv_at hl 0 rfl) ?_
          refine q_get (v := .ref (E.2.2 99)) hF hU dX6_refresh_68 5 6 0 600 699 rfl rfl rfl rfl inX6 (by decide) (by decide) w_340 rfl rfl ?_
          refine q_get (v := .ref (E.2.2 3)) hF hU dX6_refresh_71 1 0 3 3 99 rfl rfl rfl rfl inX0 (by decide) (by decide) w_154 rfl rfl ?_
          refine lv_iload_n hF.1 hF.2.1 dX6_refresh_74 rfl (lv_at hl 1 rfl) ?_
          obtain ⟨a_8, ha_8_9_e, ha_8_9⟩ := hI.r3 x1 (by rw [(hfr.1 10 (by decide))]; exact (g_X6_refresh_k_v3 u x1 uc a_2 hz8 hz9 hz10 hz12 h_k h_9 h_n c44_1 b60_7))
          refine q_aald (v := .ref a_8) hF hU dX6_refresh_75 3 3 6 rfl rfl (by decide) rfl (g_X6_refresh_k_v4 u x1 uc a_2 hz8 hz9 hz10 hz12 h_k h_9 h_n c44_1 b60_7) (by rw [ha_8_9_e]; rfl) ?_
          have hM9 := g_X6_scoreVisit l E A uc a_8 hI ((ha_8_9).rf)
          have hR9 := q_runV (l := l) (e := e0) (below := bl0) (meth := me0) (R := qR 5 0 0) (cells := 0) (slots := 0) (st0 := [.ref a_8, .ref (E.2.2 699)]) (rest := []) hF hU hS hA 1 5 6 699 rfl rfl rfl hM9 w_944 w_946 w_25 w_104 w_947 (by decide +kernel) ⟨Nat.le_of_ble_eq_true rfl, Nat.le_of_ble_eq_true rfl⟩ dX6_refresh_76 rfl hl.1 rfl (Nat.le_of_ble_eq_true rfl) ⟨Nat.le_of_ble_eq_true rfl, Nat.le_of_ble_eq_true rfl⟩
          refine q_callv hR9 hU.2.2.2 hS (fun u_10 H locs hw_11 hU hS => ?_)
          obtain ⟨⟨hw_11_f, hI⟩, hw_11⟩ := hw_11
          have hfo := hfr
          have hfr : qFc [604, 605, 606, 607, 608, 609] [601, 602, 603] [] [5011, 5012, 5013, 5014] u u_10 := hfr.trans (hw_11_f.mono (by decide) (by decide) (by decide) (by decide))
          have e_13 : u_10.1 609 = (uc.1 609) := (hw_11_f.1 609 (by decide)).trans rfl
          refine lv_iinc (v := x1 + 1) (lv' := [(1, .int (x1 + 1)), (0, .ref (E.2.2 699))]) hF.1 hF.2.1 dX6_refresh_79 hl (k := 1) rfl rfl (by decide) rfl (fun ls hl => ?_)
          refine lv_goto (tgt := 36) hF.1 hF.2.1 dX6_refresh_82 (by decide) ?_
          exact ih (x1 + 1) u_10 _ _ _ hfr hI  (g_X6_refresh_k_v5 u x1 uc a_2 hz8 hz9 hz10 hz12 h_k h_9 h_n c44_1 b60_7) (by rw [show (u_10).1 609 = (uc.1 609) from e_13]; exact (g_X6_refresh_k_v6 u x1 uc a_2 hz8 hz9 hz10 hz12 h_k h_9 h_n c44_1 b60_7)) (g_X6_refresh_k_v7 u x1 uc a_2 hz8 hz9 hz10 hz12 h_k h_9 h_n c44_1 b60_7) (Nat.lt_of_lt_of_le (g_X6_refresh_k_v8 u x1 uc a_2 hz8 hz9 hz10 hz12 h_k h_9 h_n c44_1 b60_7) (Nat.lt_succ_iff.mp hmu)) hU hS (lv_sub hl [1, 0] rfl)
        · refine lv_if_eq (tgt := 79) hF.1 hF.2.1 dX6_refresh_63 (by decide) (fun _ => ?_) (fun h9 => absurd (by decide) h9)
          refine lv_iinc (v := x1 + 1) (lv' := [(1, .int (x1 + 1)), (0, .ref (E.2.2 699))]) hF.1 hF.2.1 dX6_refresh_79 hl (k := 1) rfl rfl (by decide) rfl (fun ls hl => ?_)
          refine lv_goto (tgt := 36) hF.1 hF.2.1 dX6_refresh_82 (by decide) ?_
          exact ih (x1 + 1) uc _ _ _ hfr hI  (g_X6_refresh_k_v9 u x1 uc a_2 hz8 hz9 hz10 hz12 h_k h_9 h_n c44_1 b60_7) (g_X6_refresh_k_v10 u x1 uc a_2 hz8 hz9 hz10 hz12 h_k h_9 h_n c44_1 b60_7) (g_X6_refresh_k_v11 u x1 uc a_2 hz8 hz9 hz10 hz12 h_k h_9 h_n c44_1 b60_7) (Nat.lt_of_lt_of_le (g_X6_refresh_k_v12 u x1 uc a_2 hz8 hz9 hz10 hz12 h_k h_9 h_n c44_1 b60_7) (Nat.lt_succ_iff.mp hmu)) hU hS (lv_sub hl [1, 0] rfl)
  refine lv_aload_n hF.1 hF.2.1 dX6_refresh_0 rfl (lv_at hl 0 rfl) ?_
  refine q_get (v := .int (u.1 609)) hF hU dX6_refresh_1 5 6 9 609 699 rfl rfl rfl rfl inX6 (by decide) (by decide) w_349 rfl rfl ?_
  refine lv_aload_n hF.1 hF.2.1 dX6_refresh_4 rfl (lv_at hl 0 rfl) ?_
  refine q_get (v := .ref (E.2.2 99)) hF hU dX6_refresh_5 5 6 0 600 699 rfl rfl rfl rfl inX6 (by decide) (by decide) w_340 rfl rfl ?_
  refine q_get (v := .int (u.1 18)) hF hU dX6_refresh_8 1 0 18 18 99 rfl rfl rfl rfl inX0 (by decide) (by decide) w_189 rfl rfl ?_
  refine lv_icmp_ne (tgt := 15) hF.1 hF.2.1 dX6_refresh_11 (by decide) (fun c11_14 => ?_) (fun c11_14 => ?_)
  · refine lv_aload_n hF.1 hF.2.1 dX6_refresh_15 rfl (lv_at hl 0 rfl) ?_
    refine lv_aload_n hF.1 hF.2.1 dX6_refresh_16 rfl (lv_at hl 0 rfl) ?_
    refine q_get (v := .ref (E.2.2 99)) hF hU dX6_refresh_17 5 6 0 600 699 rfl rfl rfl rfl inX6 (by decide) (by decide) w_340 rfl rfl ?_
    refine q_get (v := .int (u.1 18)) hF hU dX6_refresh_20 1 0 18 18 99 rfl rfl rfl rfl inX0 (by decide) (by decide) w_189 rfl rfl ?_
    refine q_put hF hU hS dX6_refresh_23 5 6 9 609 699 rfl rfl rfl rfl inX6 tyX6 tyX6_ok nmX6 (by decide) (by decide) rfl w_349 rfl rfl rfl rfl (fun H locs hU hS => ?_)
    have hfr : qFc [604, 605, 606, 607, 608, 609] [601, 602, 603] [] [5011, 5012, 5013, 5014] u (qsI u 609 (u.1 18)) := hfr.setI (by decide) (fun q => absurd q (by decide))
    have hI : IC E (qsI u 609 (u.1 18)) := hI.sI (by decide)
    refine lv_aload_n hF.1 hF.2.1 dX6_refresh_26 rfl (lv_at hl 0 rfl) ?_
    refine q_get (v := .ref (E.2.2 603)) hF hU dX6_refresh_27 5 6 3 603 699 rfl rfl rfl rfl inX6 (by decide) (by decide) w_343 rfl rfl ?_
    refine lv_iconst (v := 0) hF.1 hF.2.1 dX6_refresh_30 (by decide) ?_
    have hM9 := g_fill_603 l E A (qsI u 609 (u.1 18)) 0 hI
    have hR9 := q_runS (l := l) (e := e0) (below := bl0) (meth := me0) (R := qR 5 0 0) (cells := 0) (slots := 0) (st0 := [.int 0, .ref (E.2.2 603)]) (rest := []) hF hU hS hA 2 hM9 w_940 w_941 w_112 w_942 (by decide +kernel) ⟨Nat.le_of_ble_eq_true rfl, Nat.le_of_ble_eq_true rfl⟩ dX6_refresh_31 rfl hl.1 rfl (Nat.le_of_ble_eq_true rfl) ⟨Nat.le_of_ble_eq_true rfl, Nat.le_of_ble_eq_true rfl⟩
    refine q_callv hR9 hU.2.2.2 hS (fun u_15 H locs hw_16 hU hS => ?_)
    obtain ⟨⟨hw_16_f, hI, hw_16_d⟩, hw_16⟩ := hw_16
    have hfo := hfr
    have hfr : qFc [604, 605, 606, 607, 608, 609] [601, 602, 603] [] [5011, 5012, 5013, 5014] u u_15 := hfr.trans (hw_16_f.mono (by decide) (by decide) (by decide) (by decide))
    have e_18 : u_15.1 604 = (u.1 604) := (hw_16_f.1 604 (by decide)).trans rfl
    have e_19 : u_15.1 605 = (u.1 605) := (hw_16_f.1 605 (by decide)).trans rfl
    have e_20 : u_15.1 606 = (u.1 606) := (hw_16_f.1 606 (by decide)).trans rfl
    have e_21 : u_15.1 607 = (u.1 607) := (hw_16_f.1 607 (by decide)).trans rfl
    have e_22 : u_15.1 608 = (u.1 608) := (hw_16_f.1 608 (by decide)).trans rfl
    have e_23 : u_15.1 609 = (u.1 18) := (hw_16_f.1 609 (by decide)).trans rfl
    have e_24 : u_15.2.1 601 = (u.2.1 601) := (hw_16_f.2.1 601 (by decide)).trans rfl
    have e_25 : u_15.2.1 602 = (u.2.1 602) := (hw_16_f.2.1 602 (by decide)).trans rfl
    have hw_16 : ∀ j : Nat, j < 20 → u_15.2.1 603 j = (0 : Int32) := hw_16
    refine lv_iconst (v := 0) hF.1 hF.2.1 dX6_refresh_34 (by decide) ?_
    refine lv_istore_n (lv' := [(1, .int 0), (0, .ref (E.2.2 699))]) hF.1 hF.2.1 dX6_refresh_35 rfl hl (by decide) rfl (fun ls hl => ?_)
    exact (main _) (0 : Int32) u_15 _ _ _ hfr hI  (g_X6_refresh_k_v13 u u_15 hz8 hz9 hz10 hz12 c11_14 hw_16) (by rw [show (u_15).1 609 = (u.1 18) from e_23]; first | done | exact (g_X6_refresh_k_v14 u u_15 hz8 hz9 hz10 hz12 c11_14 hw_16)) (g_X6_refresh_k_v15 u u_15 hz8 hz9 hz10 hz12 c11_14 hw_16) (Nat.lt_succ_self _) hU hS (lv_sub hl [1, 0] rfl)
  · exact q_vret hF hr hlocks hU hS dX6_refresh_14 ⟨⟨hfr, hI⟩, (g_X6_refresh_k_v16 u hz8 hz9 hz10 hz12 c11_14)⟩
