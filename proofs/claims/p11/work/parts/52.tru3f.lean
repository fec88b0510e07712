set_option maxRecDepth 100000 in
theorem g_X9_nextByNumber_k_v0 (u : qS) (x : Int32) (k : qS) (P : Nat → Int32) (N : Nat → Int32) (x2 : Int32) (x3 : Int32) (hk : CT k P u) (hG : qG k u N) (hz8 : 0 ≤ u.1 8 ∧ u.1 8 ≤ 20) (hz9 : 0 ≤ u.1 9 ∧ u.1 9 ≤ 8) (hz10 : 0 ≤ u.1 10 ∧ u.1 10 ≤ 120) (hz12 : 0 ≤ u.1 12 ∧ u.1 12 ≤ 16) (hz908 : 0 ≤ u.1 908 ∧ u.1 908 ≤ 12) (h_k : 0 ≤ x3 ∧ x3 ≤ u.1 908) (h_f : -1 ≤ x2 ∧ x2 < u.1 908) (h_e : x2 < x3) (h_b : (x2 = -1 ∧ ∀ j, j < x3.toNatClampNeg → (N j).toInt ≤ x.toInt) ∨ ((0 ≤ x2.toInt ∧ x2.toInt < x3.toInt) ∧ x.toInt < (N x2.toNatClampNeg).toInt ∧ ∀ j, j < x3.toNatClampNeg → x.toInt < (N j).toInt → (N x2.toNatClampNeg).toInt ≤ (N j).toInt)) (c9_1 : (u.1 908) ≤ (x3 : Int32)) : t_nb N (u.1 908).toNatClampNeg x (x2 : Int32) := by
  have e : x3 = u.1 908 := Int32.toInt_inj.mp (by clear h_b; (try simp only [g_m1, Int32.lt_iff_toInt_lt, Int32.le_iff_toInt_le, ← Int32.toInt_inj, Int32.reduceToInt] at *); omega)
  rw [e] at h_b
  rcases h_b with ⟨b1, b2⟩ | ⟨b1, b2, b3⟩
  · exact Or.inl ⟨b1, b2⟩
  · have c9 := g_clamp (u.1 908)
    exact Or.inr ⟨⟨b1.1, by omega⟩, b2, b3⟩
set_option maxRecDepth 100000 in
theorem g_X9_nextByNumber_k_v1 (u : qS) (x : Int32) (k : qS) (P : Nat → Int32) (N : Nat → Int32) (x2 : Int32) (x3 : Int32) (hk : CT k P u) (hG : qG k u N) (hz8 : 0 ≤ u.1 8 ∧ u.1 8 ≤ 20) (hz9 : 0 ≤ u.1 9 ∧ u.1 9 ≤ 8) (hz10 : 0 ≤ u.1 10 ∧ u.1 10 ≤ 120) (hz12 : 0 ≤ u.1 12 ∧ u.1 12 ≤ 16) (hz908 : 0 ≤ u.1 908 ∧ u.1 908 ≤ 12) (h_k : 0 ≤ x3 ∧ x3 ≤ u.1 908) (h_f : -1 ≤ x2 ∧ x2 < u.1 908) (h_e : x2 < x3) (h_b : (x2 = -1 ∧ ∀ j, j < x3.toNatClampNeg → (N j).toInt ≤ x.toInt) ∨ ((0 ≤ x2.toInt ∧ x2.toInt < x3.toInt) ∧ x.toInt < (N x2.toNatClampNeg).toInt ∧ ∀ j, j < x3.toNatClampNeg → x.toInt < (N j).toInt → (N x2.toNatClampNeg).toInt ≤ (N j).toInt)) (c9_1 : ¬ (u.1 908) ≤ (x3 : Int32)) : 0 ≤ x3 ∧ x3 < (u.1 908) := by
  clear h_b; (try simp only [g_m1, Int32.lt_iff_toInt_lt, Int32.le_iff_toInt_le, ← Int32.toInt_inj, Int32.reduceToInt] at *); omega
set_option maxRecDepth 100000 in
theorem g_X9_nextByNumber_k_v2 (u : qS) (x : Int32) (k : qS) (P : Nat → Int32) (N : Nat → Int32) (x2 : Int32) (x3 : Int32) (hk : CT k P u) (hG : qG k u N) (hz8 : 0 ≤ u.1 8 ∧ u.1 8 ≤ 20) (hz9 : 0 ≤ u.1 9 ∧ u.1 9 ≤ 8) (hz10 : 0 ≤ u.1 10 ∧ u.1 10 ≤ 120) (hz12 : 0 ≤ u.1 12 ∧ u.1 12 ≤ 16) (hz908 : 0 ≤ u.1 908 ∧ u.1 908 ≤ 12) (h_k : 0 ≤ x3 ∧ x3 ≤ u.1 908) (h_f : -1 ≤ x2 ∧ x2 < u.1 908) (h_e : x2 < x3) (h_b : (x2 = -1 ∧ ∀ j, j < x3.toNatClampNeg → (N j).toInt ≤ x.toInt) ∨ ((0 ≤ x2.toInt ∧ x2.toInt < x3.toInt) ∧ x.toInt < (N x2.toNatClampNeg).toInt ∧ ∀ j, j < x3.toNatClampNeg → x.toInt < (N j).toInt → (N x2.toNatClampNeg).toInt ≤ (N j).toInt)) (c9_1 : ¬ (u.1 908) ≤ (x3 : Int32)) : vp_in (x3) 12 := by
  clear h_b; refine g_in ?_ ?_ <;> ((try simp only [g_m1, Int32.lt_iff_toInt_lt, Int32.le_iff_toInt_le, ← Int32.toInt_inj, Int32.reduceToInt] at *); omega)
set_option maxRecDepth 100000 in
theorem g_X9_nextByNumber_k_v3 (u : qS) (x : Int32) (k : qS) (P : Nat → Int32) (N : Nat → Int32) (x2 : Int32) (x3 : Int32) (hk : CT k P u) (hG : qG k u N) (hz8 : 0 ≤ u.1 8 ∧ u.1 8 ≤ 20) (hz9 : 0 ≤ u.1 9 ∧ u.1 9 ≤ 8) (hz10 : 0 ≤ u.1 10 ∧ u.1 10 ≤ 120) (hz12 : 0 ≤ u.1 12 ∧ u.1 12 ≤ 16) (hz908 : 0 ≤ u.1 908 ∧ u.1 908 ≤ 12) (h_k : 0 ≤ x3 ∧ x3 ≤ u.1 908) (h_f : -1 ≤ x2 ∧ x2 < u.1 908) (h_e : x2 < x3) (h_b : (x2 = -1 ∧ ∀ j, j < x3.toNatClampNeg → (N j).toInt ≤ x.toInt) ∨ ((0 ≤ x2.toInt ∧ x2.toInt < x3.toInt) ∧ x.toInt < (N x2.toNatClampNeg).toInt ∧ ∀ j, j < x3.toNatClampNeg → x.toInt < (N j).toInt → (N x2.toNatClampNeg).toInt ≤ (N j).toInt)) (c9_1 : ¬ (u.1 908) ≤ (x3 : Int32)) : 0 ≤ x3 ∧ x3 < (u.1 908) := by
  clear h_b; (try simp only [g_m1, Int32.lt_iff_toInt_lt, Int32.le_iff_toInt_le, ← Int32.toInt_inj, Int32.reduceToInt] at *); omega
set_option maxRecDepth 100000 in
theorem g_X9_nextByNumber_k_v4 (u : qS) (x : Int32) (k : qS) (P : Nat → Int32) (N : Nat → Int32) (x2 : Int32) (x3 : Int32) (hk : CT k P u) (hG : qG k u N) (hz8 : 0 ≤ u.1 8 ∧ u.1 8 ≤ 20) (hz9 : 0 ≤ u.1 9 ∧ u.1 9 ≤ 8) (hz10 : 0 ≤ u.1 10 ∧ u.1 10 ≤ 120) (hz12 : 0 ≤ u.1 12 ∧ u.1 12 ≤ 16) (hz908 : 0 ≤ u.1 908 ∧ u.1 908 ≤ 12) (h_k : 0 ≤ x3 ∧ x3 ≤ u.1 908) (h_f : -1 ≤ x2 ∧ x2 < u.1 908) (h_e : x2 < x3) (h_b : (x2 = -1 ∧ ∀ j, j < x3.toNatClampNeg → (N j).toInt ≤ x.toInt) ∨ ((0 ≤ x2.toInt ∧ x2.toInt < x3.toInt) ∧ x.toInt < (N x2.toNatClampNeg).toInt ∧ ∀ j, j < x3.toNatClampNeg → x.toInt < (N j).toInt → (N x2.toNatClampNeg).toInt ≤ (N j).toInt)) (c9_1 : ¬ (u.1 908) ≤ (x3 : Int32)) (c26_9 : (N (x3 : Int32).toNatClampNeg : Int32) ≤ x) : 0 ≤ (x3 + 1) ∧ (x3 + 1) ≤ u.1 908 := by
  clear h_b; (try simp only [g_m1, Int32.lt_iff_toInt_lt, Int32.le_iff_toInt_le, ← Int32.toInt_inj, Int32.toInt_add, Int32.toInt_sub, Int32.toInt_mul, Int32.toInt_neg, Int32.reduceToInt, g_bm, g_bm'] at *); omega
set_option maxRecDepth 100000 in
theorem g_X9_nextByNumber_k_v5 (u : qS) (x : Int32) (k : qS) (P : Nat → Int32) (N : Nat → Int32) (x2 : Int32) (x3 : Int32) (hk : CT k P u) (hG : qG k u N) (hz8 : 0 ≤ u.1 8 ∧ u.1 8 ≤ 20) (hz9 : 0 ≤ u.1 9 ∧ u.1 9 ≤ 8) (hz10 : 0 ≤ u.1 10 ∧ u.1 10 ≤ 120) (hz12 : 0 ≤ u.1 12 ∧ u.1 12 ≤ 16) (hz908 : 0 ≤ u.1 908 ∧ u.1 908 ≤ 12) (h_k : 0 ≤ x3 ∧ x3 ≤ u.1 908) (h_f : -1 ≤ x2 ∧ x2 < u.1 908) (h_e : x2 < x3) (h_b : (x2 = -1 ∧ ∀ j, j < x3.toNatClampNeg → (N j).toInt ≤ x.toInt) ∨ ((0 ≤ x2.toInt ∧ x2.toInt < x3.toInt) ∧ x.toInt < (N x2.toNatClampNeg).toInt ∧ ∀ j, j < x3.toNatClampNeg → x.toInt < (N j).toInt → (N x2.toNatClampNeg).toInt ≤ (N j).toInt)) (c9_1 : ¬ (u.1 908) ≤ (x3 : Int32)) (c26_9 : (N (x3 : Int32).toNatClampNeg : Int32) ≤ x) : -1 ≤ x2 ∧ x2 < u.1 908 := by
  clear h_b; (try simp only [g_m1, Int32.lt_iff_toInt_lt, Int32.le_iff_toInt_le, ← Int32.toInt_inj, Int32.toInt_add, Int32.toInt_sub, Int32.toInt_mul, Int32.toInt_neg, Int32.reduceToInt, g_bm, g_bm'] at *); omega
set_option maxRecDepth 100000 in
theorem g_X9_nextByNumber_k_v6 (u : qS) (x : Int32) (k : qS) (P : Nat → Int32) (N : Nat → Int32) (x2 : Int32) (x3 : Int32) (hk : CT k P u) (hG : qG k u N) (hz8 : 0 ≤ u.1 8 ∧ u.1 8 ≤ 20) (hz9 : 0 ≤ u.1 9 ∧ u.1 9 ≤ 8) (hz10 : 0 ≤ u.1 10 ∧ u.1 10 ≤ 120) (hz12 : 0 ≤ u.1 12 ∧ u.1 12 ≤ 16) (hz908 : 0 ≤ u.1 908 ∧ u.1 908 ≤ 12) (h_k : 0 ≤ x3 ∧ x3 ≤ u.1 908) (h_f : -1 ≤ x2 ∧ x2 < u.1 908) (h_e : x2 < x3) (h_b : (x2 = -1 ∧ ∀ j, j < x3.toNatClampNeg → (N j).toInt ≤ x.toInt) ∨ ((0 ≤ x2.toInt ∧ x2.toInt < x3.toInt) ∧ x.toInt < (N x2.toNatClampNeg).toInt ∧ ∀ j, j < x3.toNatClampNeg → x.toInt < (N j).toInt → (N x2.toNatClampNeg).toInt ≤ (N j).toInt)) (c9_1 : ¬ (u.1 908) ≤ (x3 : Int32)) (c26_9 : (N (x3 : Int32).toNatClampNeg : Int32) ≤ x) : x2 < (x3 + 1) := by
  clear h_b; (try simp only [g_m1, Int32.lt_iff_toInt_lt, Int32.le_iff_toInt_le, ← Int32.toInt_inj, Int32.toInt_add, Int32.toInt_sub, Int32.toInt_mul, Int32.toInt_neg, Int32.reduceToInt, g_bm, g_bm'] at *); omega
set_option maxRecDepth 100000 in
theorem g_X9_nextByNumber_k_v7 (u : qS) (x : Int32) (k : qS) (P : Nat → Int32) (N : Nat → Int32) (x2 : Int32) (x3 : Int32) (hk : CT k P u) (hG : qG k u N) (hz8 : 0 ≤ u.1 8 ∧ u.1 8 ≤ 20) (hz9 : 0 ≤ u.1 9 ∧ u.1 9 ≤ 8) (hz10 : 0 ≤ u.1 10 ∧ u.1 10 ≤ 120) (hz12 : 0 ≤ u.1 12 ∧ u.1 12 ≤ 16) (hz908 : 0 ≤ u.1 908 ∧ u.1 908 ≤ 12) (h_k : 0 ≤ x3 ∧ x3 ≤ u.1 908) (h_f : -1 ≤ x2 ∧ x2 < u.1 908) (h_e : x2 < x3) (h_b : (x2 = -1 ∧ ∀ j, j < x3.toNatClampNeg → (N j).toInt ≤ x.toInt) ∨ ((0 ≤ x2.toInt ∧ x2.toInt < x3.toInt) ∧ x.toInt < (N x2.toNatClampNeg).toInt ∧ ∀ j, j < x3.toNatClampNeg → x.toInt < (N j).toInt → (N x2.toNatClampNeg).toInt ≤ (N j).toInt)) (c9_1 : ¬ (u.1 908) ≤ (x3 : Int32)) (c26_9 : (N (x3 : Int32).toNatClampNeg : Int32) ≤ x) : (x2 = -1 ∧ ∀ j, j < (x3 + 1).toNatClampNeg → (N j).toInt ≤ x.toInt) ∨ ((0 ≤ x2.toInt ∧ x2.toInt < (x3 + 1).toInt) ∧ x.toInt < (N x2.toNatClampNeg).toInt ∧ ∀ j, j < (x3 + 1).toNatClampNeg → x.toInt < (N j).toInt → (N x2.toNatClampNeg).toInt ≤ (N j).toInt) := by
  have q3 : 0 ≤ x3.toInt ∧ x3.toInt < 12 := (by clear h_b; (try simp only [g_m1, Int32.lt_iff_toInt_lt, Int32.le_iff_toInt_le, ← Int32.toInt_inj, Int32.reduceToInt] at *); omega)
  have c3 := g_clamp x3
  have e3 := g_up (i := x3) q3.1 (by omega)
  rw [e3.2, e3.1]
  have lt1 : ∀ j, j < x3.toNatClampNeg + 1 → j < x3.toNatClampNeg ∨ j = x3.toNatClampNeg := fun j h => by omega
  first
  | (have le : (N x3.toNatClampNeg).toInt ≤ x.toInt := Int32.le_iff_toInt_le.mp (by first | assumption | exact Int32.not_lt.mp (by assumption))
     rcases h_b with ⟨b1, b2⟩ | ⟨b1, b2, b3⟩
     · exact Or.inl ⟨b1, fun j hj => (lt1 j hj).elim (b2 j) (fun e => by rw [e]; exact le)⟩
     · exact Or.inr ⟨⟨b1.1, by omega⟩, b2, fun j hj w => (lt1 j hj).elim (fun q => b3 j q w) (fun e => by rw [e] at w; omega)⟩)
  | (have gt : x.toInt < (N x3.toNatClampNeg).toInt := Int32.lt_iff_toInt_lt.mp (by first | assumption | exact Int32.not_le.mp (by assumption))
     first
     | (have le : (N x2.toNatClampNeg).toInt ≤ (N x3.toNatClampNeg).toInt := Int32.le_iff_toInt_le.mp (by first | assumption | exact Int32.not_lt.mp (by assumption))
        rcases h_b with ⟨b1, b2⟩ | ⟨b1, b2, b3⟩
        · exact absurd b1 (by assumption)
        · exact Or.inr ⟨⟨b1.1, by omega⟩, b2, fun j hj w => (lt1 j hj).elim (fun q => b3 j q w) (fun e => by rw [e]; exact le)⟩)
     | (refine Or.inr ⟨⟨by omega, by omega⟩, gt, fun j hj w => ?_⟩
        rcases h_b with ⟨b1, b2⟩ | ⟨b1, b2, b3⟩
        · exact (lt1 j hj).elim (fun q => by have := b2 j q; omega) (fun e => by rw [e]; exact Int.le_refl _)
        · first
          | (have lt : (N x3.toNatClampNeg).toInt < (N x2.toNatClampNeg).toInt := Int32.lt_iff_toInt_lt.mp (by first | assumption | exact Int32.not_le.mp (by assumption))
             exact (lt1 j hj).elim (fun q => by have := b3 j q w; omega) (fun e => by rw [e]; exact Int.le_refl _))
          | (have e2 : x2 = -1 := (by assumption)
             rw [e2] at b1
             exact absurd b1.1 (by decide))))
set_option maxRecDepth 100000 in
theorem g_X9_nextByNumber_k_v8 (u : qS) (x : Int32) (k : qS) (P : Nat → Int32) (N : Nat → Int32) (x2 : Int32) (x3 : Int32) (hk : CT k P u) (hG : qG k u N) (hz8 : 0 ≤ u.1 8 ∧ u.1 8 ≤ 20) (hz9 : 0 ≤ u.1 9 ∧ u.1 9 ≤ 8) (hz10 : 0 ≤ u.1 10 ∧ u.1 10 ≤ 120) (hz12 : 0 ≤ u.1 12 ∧ u.1 12 ≤ 16) (hz908 : 0 ≤ u.1 908 ∧ u.1 908 ≤ 12) (h_k : 0 ≤ x3 ∧ x3 ≤ u.1 908) (h_f : -1 ≤ x2 ∧ x2 < u.1 908) (h_e : x2 < x3) (h_b : (x2 = -1 ∧ ∀ j, j < x3.toNatClampNeg → (N j).toInt ≤ x.toInt) ∨ ((0 ≤ x2.toInt ∧ x2.toInt < x3.toInt) ∧ x.toInt < (N x2.toNatClampNeg).toInt ∧ ∀ j, j < x3.toNatClampNeg → x.toInt < (N j).toInt → (N x2.toNatClampNeg).toInt ≤ (N j).toInt)) (c9_1 : ¬ (u.1 908) ≤ (x3 : Int32)) (c26_9 : (N (x3 : Int32).toNatClampNeg : Int32) ≤ x) : ((u.1 908).toInt - (x3 + 1).toInt).toNat < ((u.1 908).toInt - x3.toInt).toNat := by
  clear h_b; (try simp only [g_m1, Int32.lt_iff_toInt_lt, Int32.le_iff_toInt_le, ← Int32.toInt_inj, Int32.toInt_add, Int32.toInt_sub, Int32.toInt_mul, Int32.toInt_neg, Int32.reduceToInt, g_bm, g_bm'] at *); omega
set_option maxRecDepth 100000 in
theorem g_X9_nextByNumber_k_v9 (u : qS) (x : Int32) (k : qS) (P : Nat → Int32) (N : Nat → Int32) (x2 : Int32) (x3 : Int32) (hk : CT k P u) (hG : qG k u N) (hz8 : 0 ≤ u.1 8 ∧ u.1 8 ≤ 20) (hz9 : 0 ≤ u.1 9 ∧ u.1 9 ≤ 8) (hz10 : 0 ≤ u.1 10 ∧ u.1 10 ≤ 120) (hz12 : 0 ≤ u.1 12 ∧ u.1 12 ≤ 16) (hz908 : 0 ≤ u.1 908 ∧ u.1 908 ≤ 12) (h_k : 0 ≤ x3 ∧ x3 ≤ u.1 908) (h_f : -1 ≤ x2 ∧ x2 < u.1 908) (h_e : x2 < x3) (h_b : (x2 = -1 ∧ ∀ j, j < x3.toNatClampNeg → (N j).toInt ≤ x.toInt) ∨ ((0 ≤ x2.toInt ∧ x2.toInt < x3.toInt) ∧ x.toInt < (N x2.toNatClampNeg).toInt ∧ ∀ j, j < x3.toNatClampNeg → x.toInt < (N j).toInt → (N x2.toNatClampNeg).toInt ≤ (N j).toInt)) (c9_1 : ¬ (u.1 908) ≤ (x3 : Int32)) (c26_9 : ¬ (N (x3 : Int32).toNatClampNeg : Int32) ≤ x) (c31_10 : (x2 : Int32) = (-1)) : 0 ≤ (x3 + 1) ∧ (x3 + 1) ≤ u.1 908 := by
  clear h_b; (try simp only [g_m1, Int32.lt_iff_toInt_lt, Int32.le_iff_toInt_le, ← Int32.toInt_inj, Int32.toInt_add, Int32.toInt_sub, Int32.toInt_mul, Int32.toInt_neg, Int32.reduceToInt, g_bm, g_bm'] at *); omega
set_option maxRecDepth 100000 in
theorem g_X9_nextByNumber_k_v10 (u : qS) (x : Int32) (k : qS) (P : Nat → Int32) (N : Nat → Int32) (x2 : Int32) (x3 : Int32) (hk : CT k P u) (hG : qG k u N) (hz8 : 0 ≤ u.1 8 ∧ u.1 8 ≤ 20) (hz9 : 0 ≤ u.1 9 ∧ u.1 9 ≤ 8) (hz10 : 0 ≤ u.1 10 ∧ u.1 10 ≤ 120) (hz12 : 0 ≤ u.1 12 ∧ u.1 12 ≤ 16) (hz908 : 0 ≤ u.1 908 ∧ u.1 908 ≤ 12) (h_k : 0 ≤ x3 ∧ x3 ≤ u.1 908) (h_f : -1 ≤ x2 ∧ x2 < u.1 908) (h_e : x2 < x3) (h_b : (x2 = -1 ∧ ∀ j, j < x3.toNatClampNeg → (N j).toInt ≤ x.toInt) ∨ ((0 ≤ x2.toInt ∧ x2.toInt < x3.toInt) ∧ x.toInt < (N x2.toNatClampNeg).toInt ∧ ∀ j, j < x3.toNatClampNeg → x.toInt < (N j).toInt → (N x2.toNatClampNeg).toInt ≤ (N j).toInt)) (c9_1 : ¬ (u.1 908) ≤ (x3 : Int32)) (c26_9 : ¬ (N (x3 : Int32).toNatClampNeg : Int32) ≤ x) (c31_10 : (x2 : Int32) = (-1)) : -1 ≤ x3 ∧ x3 < u.1 908 := by
  clear h_b; (try simp only [g_m1, Int32.lt_iff_toInt_lt, Int32.le_iff_toInt_le, ← Int32.toInt_inj, Int32.toInt_add, Int32.toInt_sub, Int32.toInt_mul, Int32.toInt_neg, Int32.reduceToInt, g_bm, g_bm'] at *); omega
set_option maxRecDepth 100000 in
theorem g_X9_nextByNumber_k_v11 (u : qS) (x : Int32) (k : qS) (P : Nat → Int32) (N : Nat → Int32) (x2 : Int32) (x3 : Int32) (hk : CT k P u) (hG : qG k u N) (hz8 : 0 ≤ u.1 8 ∧ u.1 8 ≤ 20) (hz9 : 0 ≤ u.1 9 ∧ u.1 9 ≤ 8) (hz10 : 0 ≤ u.1 10 ∧ u.1 10 ≤ 120) (hz12 : 0 ≤ u.1 12 ∧ u.1 12 ≤ 16) (hz908 : 0 ≤ u.1 908 ∧ u.1 908 ≤ 12) (h_k : 0 ≤ x3 ∧ x3 ≤ u.1 908) (h_f : -1 ≤ x2 ∧ x2 < u.1 908) (h_e : x2 < x3) (h_b : (x2 = -1 ∧ ∀ j, j < x3.toNatClampNeg → (N j).toInt ≤ x.toInt) ∨ ((0 ≤ x2.toInt ∧ x2.toInt < x3.toInt) ∧ x.toInt < (N x2.toNatClampNeg).toInt ∧ ∀ j, j < x3.toNatClampNeg → x.toInt < (N j).toInt → (N x2.toNatClampNeg).toInt ≤ (N j).toInt)) (c9_1 : ¬ (u.1 908) ≤ (x3 : Int32)) (c26_9 : ¬ (N (x3 : Int32).toNatClampNeg : Int32) ≤ x) (c31_10 : (x2 : Int32) = (-1)) : x3 < (x3 + 1) := by
  clear h_b; (try simp only [g_m1, Int32.lt_iff_toInt_lt, Int32.le_iff_toInt_le, ← Int32.toInt_inj, Int32.toInt_add, Int32.toInt_sub, Int32.toInt_mul, Int32.toInt_neg, Int32.reduceToInt, g_bm, g_bm'] at *); omega
set_option maxRecDepth 100000 in
theorem g_X9_nextByNumber_k_v12 (u : qS) (x : Int32) (k : qS) (P : Nat → Int32) (N : Nat → Int32) (x2 : Int32) (x3 : Int32) (hk : CT k P u) (hG : qG k u N) (hz8 : 0 ≤ u.1 8 ∧ u.1 8 ≤ 20) (hz9 : 0 ≤ u.1 9 ∧ u.1 9 ≤ 8) (hz10 : 0 ≤ u.1 10 ∧ u.1 10 ≤ 120) (hz12 : 0 ≤ u.1 12 ∧ u.1 12 ≤ 16) (hz908 : 0 ≤ u.1 908 ∧ u.1 908 ≤ 12) (h_k : 0 ≤ x3 ∧ x3 ≤ u.1 908) (h_f : -1 ≤ x2 ∧ x2 < u.1 908) (h_e : x2 < x3) (h_b : (x2 = -1 ∧ ∀ j, j < x3.toNatClampNeg → (N j).toInt ≤ x.toInt) ∨ ((0 ≤ x2.toInt ∧ x2.toInt < x3.toInt) ∧ x.toInt < (N x2.toNatClampNeg).toInt ∧ ∀ j, j < x3.toNatClampNeg → x.toInt < (N j).toInt → (N x2.toNatClampNeg).toInt ≤ (N j).toInt)) (c9_1 : ¬ (u.1 908) ≤ (x3 : Int32)) (c26_9 : ¬ (N (x3 : Int32).toNatClampNeg : Int32) ≤ x) (c31_10 : (x2 : Int32) = (-1)) : (x3 = -1 ∧ ∀ j, j < (x3 + 1).toNatClampNeg → (N j).toInt ≤ x.toInt) ∨ ((0 ≤ x3.toInt ∧ x3.toInt < (x3 + 1).toInt) ∧ x.toInt < (N x3.toNatClampNeg).toInt ∧ ∀ j, j < (x3 + 1).toNatClampNeg → x.toInt < (N j).toInt → (N x3.toNatClampNeg).toInt ≤ (N j).toInt) := by
  have q3 : 0 ≤ x3.toInt ∧ x3.toInt < 12 := (by clear h_b; (try simp only [g_m1, Int32.lt_iff_toInt_lt, Int32.le_iff_toInt_le, ← Int32.toInt_inj, Int32.reduceToInt] at *); omega)
  have c3 := g_clamp x3
  have e3 := g_up (i := x3) q3.1 (by omega)
  rw [e3.2, e3.1]
  have lt1 : ∀ j, j < x3.toNatClampNeg + 1 → j < x3.toNatClampNeg ∨ j = x3.toNatClampNeg := fun j h => by omega
  first
  | (have le : (N x3.toNatClampNeg).toInt ≤ x.toInt := Int32.le_iff_toInt_le.mp (by first | assumption | exact Int32.not_lt.mp (by assumption))
     rcases h_b with ⟨b1, b2⟩ | ⟨b1, b2, b3⟩
     · exact Or.inl ⟨b1, fun j hj => (lt1 j hj).elim (b2 j) (fun e => by rw [e]; exact le)⟩
     · exact Or.inr ⟨⟨b1.1, by omega⟩, b2, fun j hj w => (lt1 j hj).elim (fun q => b3 j q w) (fun e => by rw [e] at w; omega)⟩)
  | (have gt : x.toInt < (N x3.toNatClampNeg).toInt := Int32.lt_iff_toInt_lt.mp (by first | assumption | exact Int32.not_le.mp (by assumption))
     first
     | (have le : (N x2.toNatClampNeg).toInt ≤ (N x3.toNatClampNeg).toInt := Int32.le_iff_toInt_le.mp (by first | assumption | exact Int32.not_lt.mp (by assumption))
        rcases h_b with ⟨b1, b2⟩ | ⟨b1, b2, b3⟩
        · exact absurd b1 (by assumption)
        · exact Or.inr ⟨⟨b1.1, by omega⟩, b2, fun j hj w => (lt1 j hj).elim (fun q => b3 j q w) (fun e => by rw [e]; exact le)⟩)
     | (refine Or.inr ⟨⟨by omega, by omega⟩, gt, fun j hj w => ?_⟩
        rcases h_b with ⟨b1, b2⟩ | ⟨b1, b2, b3⟩
        · exact (lt1 j hj).elim (fun q => by have := b2 j q; omega) (fun e => by rw [e]; exact Int.le_refl _)
        · first
          | (have lt : (N x3.toNatClampNeg).toInt < (N x2.toNatClampNeg).toInt := Int32.lt_iff_toInt_lt.mp (by first | assumption | exact Int32.not_le.mp (by assumption))
             exact (lt1 j hj).elim (fun q => by have := b3 j q w; omega) (fun e => by rw [e]; exact Int.le_refl _))
          | (have e2 : x2 = -1 := (by assumption)
             rw [e2] at b1
             exact absurd b1.1 (by decide))))
set_option maxRecDepth 100000 in
theorem g_X9_nextByNumber_k_v13 (u : qS) (x : Int32) (k : qS) (P : Nat → Int32) (N : Nat → Int32) (x2 : Int32) (x3 : Int32) (hk : CT k P u) (hG : qG k u N) (hz8 : 0 ≤ u.1 8 ∧ u.1 8 ≤ 20) (hz9 : 0 ≤ u.1 9 ∧ u.1 9 ≤ 8) (hz10 : 0 ≤ u.1 10 ∧ u.1 10 ≤ 120) (hz12 : 0 ≤ u.1 12 ∧ u.1 12 ≤ 16) (hz908 : 0 ≤ u.1 908 ∧ u.1 908 ≤ 12) (h_k : 0 ≤ x3 ∧ x3 ≤ u.1 908) (h_f : -1 ≤ x2 ∧ x2 < u.1 908) (h_e : x2 < x3) (h_b : (x2 = -1 ∧ ∀ j, j < x3.toNatClampNeg → (N j).toInt ≤ x.toInt) ∨ ((0 ≤ x2.toInt ∧ x2.toInt < x3.toInt) ∧ x.toInt < (N x2.toNatClampNeg).toInt ∧ ∀ j, j < x3.toNatClampNeg → x.toInt < (N j).toInt → (N x2.toNatClampNeg).toInt ≤ (N j).toInt)) (c9_1 : ¬ (u.1 908) ≤ (x3 : Int32)) (c26_9 : ¬ (N (x3 : Int32).toNatClampNeg : Int32) ≤ x) (c31_10 : (x2 : Int32) = (-1)) : ((u.1 908).toInt - (x3 + 1).toInt).toNat < ((u.1 908).toInt - x3.toInt).toNat := by
  clear h_b; (try simp only [g_m1, Int32.lt_iff_toInt_lt, Int32.le_iff_toInt_le, ← Int32.toInt_inj, Int32.toInt_add, Int32.toInt_sub, Int32.toInt_mul, Int32.toInt_neg, Int32.reduceToInt, g_bm, g_bm'] at *); omega
set_option maxRecDepth 100000 in
theorem g_X9_nextByNumber_k_v14 (u : qS) (x : Int32) (k : qS) (P : Nat → Int32) (N : Nat → Int32) (x2 : Int32) (x3 : Int32) (hk : CT k P u) (hG : qG k u N) (hz8 : 0 ≤ u.1 8 ∧ u.1 8 ≤ 20) (hz9 : 0 ≤ u.1 9 ∧ u.1 9 ≤ 8) (hz10 : 0 ≤ u.1 10 ∧ u.1 10 ≤ 120) (hz12 : 0 ≤ u.1 12 ∧ u.1 12 ≤ 16) (hz908 : 0 ≤ u.1 908 ∧ u.1 908 ≤ 12) (h_k : 0 ≤ x3 ∧ x3 ≤ u.1 908) (h_f : -1 ≤ x2 ∧ x2 < u.1 908) (h_e : x2 < x3) (h_b : (x2 = -1 ∧ ∀ j, j < x3.toNatClampNeg → (N j).toInt ≤ x.toInt) ∨ ((0 ≤ x2.toInt ∧ x2.toInt < x3.toInt) ∧ x.toInt < (N x2.toNatClampNeg).toInt ∧ ∀ j, j < x3.toNatClampNeg → x.toInt < (N j).toInt → (N x2.toNatClampNeg).toInt ≤ (N j).toInt)) (c9_1 : ¬ (u.1 908) ≤ (x3 : Int32)) (c26_9 : ¬ (N (x3 : Int32).toNatClampNeg : Int32) ≤ x) (c31_10 : ¬ (x2 : Int32) = (-1)) : 0 ≤ x2 ∧ x2 < (u.1 908) := by
  clear h_b; (try simp only [g_m1, Int32.lt_iff_toInt_lt, Int32.le_iff_toInt_le, ← Int32.toInt_inj, Int32.reduceToInt] at *); omega
set_option maxRecDepth 100000 in
theorem g_X9_nextByNumber_k_v15 (u : qS) (x : Int32) (k : qS) (P : Nat → Int32) (N : Nat → Int32) (x2 : Int32) (x3 : Int32) (hk : CT k P u) (hG : qG k u N) (hz8 : 0 ≤ u.1 8 ∧ u.1 8 ≤ 20) (hz9 : 0 ≤ u.1 9 ∧ u.1 9 ≤ 8) (hz10 : 0 ≤ u.1 10 ∧ u.1 10 ≤ 120) (hz12 : 0 ≤ u.1 12 ∧ u.1 12 ≤ 16) (hz908 : 0 ≤ u.1 908 ∧ u.1 908 ≤ 12) (h_k : 0 ≤ x3 ∧ x3 ≤ u.1 908) (h_f : -1 ≤ x2 ∧ x2 < u.1 908) (h_e : x2 < x3) (h_b : (x2 = -1 ∧ ∀ j, j < x3.toNatClampNeg → (N j).toInt ≤ x.toInt) ∨ ((0 ≤ x2.toInt ∧ x2.toInt < x3.toInt) ∧ x.toInt < (N x2.toNatClampNeg).toInt ∧ ∀ j, j < x3.toNatClampNeg → x.toInt < (N j).toInt → (N x2.toNatClampNeg).toInt ≤ (N j).toInt)) (c9_1 : ¬ (u.1 908) ≤ (x3 : Int32)) (c26_9 : ¬ (N (x3 : Int32).toNatClampNeg : Int32) ≤ x) (c31_10 : ¬ (x2 : Int32) = (-1)) : vp_in (x2) 12 := by
  clear h_b; refine g_in ?_ ?_ <;> ((try simp only [g_m1, Int32.lt_iff_toInt_lt, Int32.le_iff_toInt_le, ← Int32.toInt_inj, Int32.reduceToInt] at *); omega)
set_option maxRecDepth 100000 in
theorem g_X9_nextByNumber_k_v16 (u : qS) (x : Int32) (k : qS) (P : Nat → Int32) (N : Nat → Int32) (x2 : Int32) (x3 : Int32) (hk : CT k P u) (hG : qG k u N) (hz8 : 0 ≤ u.1 8 ∧ u.1 8 ≤ 20) (hz9 : 0 ≤ u.1 9 ∧ u.1 9 ≤ 8) (hz10 : 0 ≤ u.1 10 ∧ u.1 10 ≤ 120) (hz12 : 0 ≤ u.1 12 ∧ u.1 12 ≤ 16) (hz908 : 0 ≤ u.1 908 ∧ u.1 908 ≤ 12) (h_k : 0 ≤ x3 ∧ x3 ≤ u.1 908) (h_f : -1 ≤ x2 ∧ x2 < u.1 908) (h_e : x2 < x3) (h_b : (x2 = -1 ∧ ∀ j, j < x3.toNatClampNeg → (N j).toInt ≤ x.toInt) ∨ ((0 ≤ x2.toInt ∧ x2.toInt < x3.toInt) ∧ x.toInt < (N x2.toNatClampNeg).toInt ∧ ∀ j, j < x3.toNatClampNeg → x.toInt < (N j).toInt → (N x2.toNatClampNeg).toInt ≤ (N j).toInt)) (c9_1 : ¬ (u.1 908) ≤ (x3 : Int32)) (c26_9 : ¬ (N (x3 : Int32).toNatClampNeg : Int32) ≤ x) (c31_10 : ¬ (x2 : Int32) = (-1)) : 0 ≤ x2 ∧ x2 < (u.1 908) := by
  clear h_b; (try simp only [g_m1, Int32.lt_iff_toInt_lt, Int32.le_iff_toInt_le, ← Int32.toInt_inj, Int32.reduceToInt] at *); omega
set_option maxRecDepth 100000 in
theorem g_X9_nextByNumber_k_v17 (u : qS) (x : Int32) (k : qS) (P : Nat → Int32) (N : Nat → Int32) (x2 : Int32) (x3 : Int32) (hk : CT k P u) (hG : qG k u N) (hz8 : 0 ≤ u.1 8 ∧ u.1 8 ≤ 20) (hz9 : 0 ≤ u.1 9 ∧ u.1 9 ≤ 8) (hz10 : 0 ≤ u.1 10 ∧ u.1 10 ≤ 120) (hz12 : 0 ≤ u.1 12 ∧ u.1 12 ≤ 16) (hz908 : 0 ≤ u.1 908 ∧ u.1 908 ≤ 12) (h_k : 0 ≤ x3 ∧ x3 ≤ u.1 908) (h_f : -1 ≤ x2 ∧ x2 < u.1 908) (h_e : x2 < x3) (h_b : (x2 = -1 ∧ ∀ j, j < x3.toNatClampNeg → (N j).toInt ≤ x.toInt) ∨ ((0 ≤ x2.toInt ∧ x2.toInt < x3.toInt) ∧ x.toInt < (N x2.toNatClampNeg).toInt ∧ ∀ j, j < x3.toNatClampNeg → x.toInt < (N j).toInt → (N x2.toNatClampNeg).toInt ≤ (N j).toInt)) (c9_1 : ¬ (u.1 908) ≤ (x3 : Int32)) (c26_9 : ¬ (N (x3 : Int32).toNatClampNeg : Int32) ≤ x) (c31_10 : ¬ (x2 : Int32) = (-1)) (c45_18 : (N (x2 : Int32).toNatClampNeg) ≤ (N (x3 : Int32).toNatClampNeg : Int32)) : 0 ≤ (x3 + 1) ∧ (x3 + 1) ≤ u.1 908 := by
  clear h_b; (try simp only [g_m1, Int32.lt_iff_toInt_lt, Int32.le_iff_toInt_le, ← Int32.toInt_inj, Int32.toInt_add, Int32.toInt_sub, Int32.toInt_mul, Int32.toInt_neg, Int32.reduceToInt, g_bm, g_bm'] at *); omega
set_option maxRecDepth 100000 in
theorem g_X9_nextByNumber_k_v18 (u : qS) (x : Int32) (k : qS) (P : Nat → Int32) (N : Nat → Int32) (x2 : Int32) (x3 : Int32) (hk : CT k P u) (hG : qG k u N) (hz8 : 0 ≤ u.1 8 ∧ u.1 8 ≤ 20) (hz9 : 0 ≤ u.1 9 ∧ u.1 9 ≤ 8) (hz10 : 0 ≤ u.1 10 ∧ u.1 10 ≤ 120) (hz12 : 0 ≤ u.1 12 ∧ u.1 12 ≤ 16) (hz908 : 0 ≤ u.1 908 ∧ u.1 908 ≤ 12) (h_k : 0 ≤ x3 ∧ x3 ≤ u.1 908) (h_f : -1 ≤ x2 ∧ x2 < u.1 908) (h_e : x2 < x3) (h_b : (x2 = -1 ∧ ∀ j, j < x3.toNatClampNeg → (N j).toInt ≤ x.toInt) ∨ ((0 ≤ x2.toInt ∧ x2.toInt < x3.toInt) ∧ x.toInt < (N x2.toNatClampNeg).toInt ∧ ∀ j, j < x3.toNatClampNeg → x.toInt < (N j).toInt → (N x2.toNatClampNeg).toInt ≤ (N j).toInt)) (c9_1 : ¬ (u.1 908) ≤ (x3 : Int32)) (c26_9 : ¬ (N (x3 : Int32).toNatClampNeg : Int32) ≤ x) (c31_10 : ¬ (x2 : Int32) = (-1)) (c45_18 : (N (x2 : Int32).toNatClampNeg) ≤ (N (x3 : Int32).toNatClampNeg : Int32)) : -1 ≤ x2 ∧ x2 < u.1 908 := by
  clear h_b; (try simp only [g_m1, Int32.lt_iff_toInt_lt, Int32.le_iff_toInt_le, ← Int32.toInt_inj, Int32.toInt_add, Int32.toInt_sub, Int32.toInt_mul, Int32.toInt_neg, Int32.reduceToInt, g_bm, g_bm'] at *); omega
set_option maxRecDepth 100000 in
theorem g_X9_nextByNumber_k_v19 (u : qS) (x : Int32) (k : qS) (P : Nat → Int32) (N : Nat → Int32) (x2 : Int32) (x3 : Int32) (hk : CT k P u) (hG : qG k u N) (hz8 : 0 ≤ u.1 8 ∧ u.1 8 ≤ 20) (hz9 : 0 ≤ u.1 9 ∧ u.1 9 ≤ 8) (hz10 : 0 ≤ u.1 10 ∧ u.1 10 ≤ 120) (hz12 : 0 ≤ u.1 12 ∧ u.1 12 ≤ 16) (hz908 : 0 ≤ u.1 908 ∧ u.1 908 ≤ 12) (h_k : 0 ≤ x3 ∧ x3 ≤ u.1 908) (h_f : -1 ≤ x2 ∧ x2 < u.1 908) (h_e : x2 < x3) (h_b : (x2 = -1 ∧ ∀ j, j < x3.toNatClampNeg → (N j).toInt ≤ x.toInt) ∨ ((0 ≤ x2.toInt ∧ x2.toInt < x3.toInt) ∧ x.toInt < (N x2.toNatClampNeg).toInt ∧ ∀ j, j < x3.toNatClampNeg → x.toInt < (N j).toInt → (N x2.toNatClampNeg).toInt ≤ (N j).toInt)) (c9_1 : ¬ (u.1 908) ≤ (x3 : Int32)) (c26_9 : ¬ (N (x3 : Int32).toNatClampNeg : Int32) ≤ x) (c31_10 : ¬ (x2 : Int32) = (-1)) (c45_18 : (N (x2 : Int32).toNatClampNeg) ≤ (N (x3 : Int32).toNatClampNeg : Int32)) : x2 < (x3 + 1) := by
  clear h_b; (try simp only [g_m1, Int32.lt_iff_toInt_lt, Int32.le_iff_toInt_le, ← Int32.toInt_inj, Int32.toInt_add, Int32.toInt_sub, Int32.toInt_mul, Int32.toInt_neg, Int32.reduceToInt, g_bm, g_bm'] at *); omega
set_option maxRecDepth 100000 in
theorem g_X9_nextByNumber_k_v20 (u : qS) (x : Int32) (k : qS) (P : Nat → Int32) (N : Nat → Int32) (x2 : Int32) (x3 : Int32) (hk : CT k P u) (hG : qG k u N) (hz8 : 0 ≤ u.1 8 ∧ u.1 8 ≤ 20) (hz9 : 0 ≤ u.1 9 ∧ u.1 9 ≤ 8) (hz10 : 0 ≤ u.1 10 ∧ u.1 10 ≤ 120) (hz12 : 0 ≤ u.1 12 ∧ u.1 12 ≤ 16) (hz908 : 0 ≤ u.1 908 ∧ u.1 908 ≤ 12) (h_k : 0 ≤ x3 ∧ x3 ≤ u.1 908) (h_f : -1 ≤ x2 ∧ x2 < u.1 908) (h_e : x2 < x3) (h_b : (x2 = -1 ∧ ∀ j, j < x3.toNatClampNeg → (N j).toInt ≤ x.toInt) ∨ ((0 ≤ x2.toInt ∧ x2.toInt < x3.toInt) ∧ x.toInt < (N x2.toNatClampNeg).toInt ∧ ∀ j, j < x3.toNatClampNeg → x.toInt < (N j).toInt → (N x2.toNatClampNeg).toInt ≤ (N j).toInt)) (c9_1 : ¬ (u.1 908) ≤ (x3 : Int32)) (c26_9 : ¬ (N (x3 : Int32).toNatClampNeg : Int32) ≤ x) (c31_10 : ¬ (x2 : Int32) = (-1)) (c45_18 : (N (x2 : Int32).toNatClampNeg) ≤ (N (x3 : Int32).toNatClampNeg : Int32)) : (x2 = -1 ∧ ∀ j, j < (x3 + 1).toNatClampNeg → (N j).toInt ≤ x.toInt) ∨ ((0 ≤ x2.toInt ∧ x2.toInt < (x3 + 1).toInt) ∧ x.toInt < (N x2.toNatClampNeg).toInt ∧ ∀ j, j < (x3 + 1).toNatClampNeg → x.toInt < (N j).toInt → (N x2.toNatClampNeg).toInt ≤ (N j).toInt) := by
  have q3 : 0 ≤ x3.toInt ∧ x3.toInt < 12 := (by clear h_b; (try simp only [g_m1, Int32.lt_iff_toInt_lt, Int32.le_iff_toInt_le, ← Int32.toInt_inj, Int32.reduceToInt] at *); omega)
  have c3 := g_clamp x3
  have e3 := g_up (i := x3) q3.1 (by omega)
  rw [e3.2, e3.1]
  have lt1 : ∀ j, j < x3.toNatClampNeg + 1 → j < x3.toNatClampNeg ∨ j = x3.toNatClampNeg := fun j h => by omega
  first
  | (have le : (N x3.toNatClampNeg).toInt ≤ x.toInt := Int32.le_iff_toInt_le.mp (by first | assumption | exact Int32.not_lt.mp (by assumption))
     rcases h_b with ⟨b1, b2⟩ | ⟨b1, b2, b3⟩
     · exact Or.inl ⟨b1, fun j hj => (lt1 j hj).elim (b2 j) (fun e => by rw [e]; exact le)⟩
     · exact Or.inr ⟨⟨b1.1, by omega⟩, b2, fun j hj w => (lt1 j hj).elim (fun q => b3 j q w) (fun e => by rw [e] at w; omega)⟩)
  | (have gt : x.toInt < (N x3.toNatClampNeg).toInt := Int32.lt_iff_toInt_lt.mp (by first | assumption | exact Int32.not_le.mp (by assumption))
     first
     | (have le : (N x2.toNatClampNeg).toInt ≤ (N x3.toNatClampNeg).toInt := Int32.le_iff_toInt_le.mp (by first | assumption | exact Int32.not_lt.mp (by assumption))
        rcases h_b with ⟨b1, b2⟩ | ⟨b1, b2, b3⟩
        · exact absurd b1 (by assumption)
        · exact Or.inr ⟨⟨b1.1, by omega⟩, b2, fun j hj w => (lt1 j hj).elim (fun q => b3 j q w) (fun e => by rw [e]; exact le)⟩)
     | (refine Or.inr ⟨⟨by omega, by omega⟩, gt, fun j hj w => ?_⟩
        rcases h_b with ⟨b1, b2⟩ | ⟨b1, b2, b3⟩
        · exact (lt1 j hj).elim (fun q => by have := b2 j q; omega) (fun e => by rw [e]; exact Int.le_refl _)
        · first
          | (have lt : (N x3.toNatClampNeg).toInt < (N x2.toNatClampNeg).toInt := Int32.lt_iff_toInt_lt.mp (by first | assumption | exact Int32.not_le.mp (by assumption))
             exact (lt1 j hj).elim (fun q => by have := b3 j q w; omega) (fun e => by rw [e]; exact Int.le_refl _))
          | (have e2 : x2 = -1 := (by assumption)
             rw [e2] at b1
             exact absurd b1.1 (by decide))))
set_option maxRecDepth 100000 in
theorem g_X9_nextByNumber_k_v21 (u : qS) (x : Int32) (k : qS) (P : Nat → Int32) (N : Nat → Int32) (x2 : Int32) (x3 : Int32) (hk : CT k P u) (hG : qG k u N) (hz8 : 0 ≤ u.1 8 ∧ u.1 8 ≤ 20) (hz9 : 0 ≤ u.1 9 ∧ u.1 9 ≤ 8) (hz10 : 0 ≤ u.1 10 ∧ u.1 10 ≤ 120) (hz12 : 0 ≤ u.1 12 ∧ u.1 12 ≤ 16) (hz908 : 0 ≤ u.1 908 ∧ u.1 908 ≤ 12) (h_k : 0 ≤ x3 ∧ x3 ≤ u.1 908) (h_f : -1 ≤ x2 ∧ x2 < u.1 908) (h_e : x2 < x3) (h_b : (x2 = -1 ∧ ∀ j, j < x3.toNatClampNeg → (N j).toInt ≤ x.toInt) ∨ ((0 ≤ x2.toInt ∧ x2.toInt < x3.toInt) ∧ x.toInt < (N x2.toNatClampNeg).toInt ∧ ∀ j, j < x3.toNatClampNeg → x.toInt < (N j).toInt → (N x2.toNatClampNeg).toInt ≤ (N j).toInt)) (c9_1 : ¬ (u.1 908) ≤ (x3 : Int32)) (c26_9 : ¬ (N (x3 : Int32).toNatClampNeg : Int32) ≤ x) (c31_10 : ¬ (x2 : Int32) = (-1)) (c45_18 : (N (x2 : Int32).toNatClampNeg) ≤ (N (x3 : Int32).toNatClampNeg : Int32)) : ((u.1 908).toInt - (x3 + 1).toInt).toNat < ((u.1 908).toInt - x3.toInt).toNat := by
  clear h_b; (try simp only [g_m1, Int32.lt_iff_toInt_lt, Int32.le_iff_toInt_le, ← Int32.toInt_inj, Int32.toInt_add, Int32.toInt_sub, Int32.toInt_mul, Int32.toInt_neg, Int32.reduceToInt, g_bm, g_bm'] at *); omega
set_option maxRecDepth 100000 in
theorem g_X9_nextByNumber_k_v22 (u : qS) (x : Int32) (k : qS) (P : Nat → Int32) (N : Nat → Int32) (x2 : Int32) (x3 : Int32) (hk : CT k P u) (hG : qG k u N) (hz8 : 0 ≤ u.1 8 ∧ u.1 8 ≤ 20) (hz9 : 0 ≤ u.1 9 ∧ u.1 9 ≤ 8) (hz10 : 0 ≤ u.1 10 ∧ u.1 10 ≤ 120) (hz12 : 0 ≤ u.1 12 ∧ u.1 12 ≤ 16) (hz908 : 0 ≤ u.1 908 ∧ u.1 908 ≤ 12) (h_k : 0 ≤ x3 ∧ x3 ≤ u.1 908) (h_f : -1 ≤ x2 ∧ x2 < u.1 908) (h_e : x2 < x3) (h_b : (x2 = -1 ∧ ∀ j, j < x3.toNatClampNeg → (N j).toInt ≤ x.toInt) ∨ ((0 ≤ x2.toInt ∧ x2.toInt < x3.toInt) ∧ x.toInt < (N x2.toNatClampNeg).toInt ∧ ∀ j, j < x3.toNatClampNeg → x.toInt < (N j).toInt → (N x2.toNatClampNeg).toInt ≤ (N j).toInt)) (c9_1 : ¬ (u.1 908) ≤ (x3 : Int32)) (c26_9 : ¬ (N (x3 : Int32).toNatClampNeg : Int32) ≤ x) (c31_10 : ¬ (x2 : Int32) = (-1)) (c45_18 : ¬ (N (x2 : Int32).toNatClampNeg) ≤ (N (x3 : Int32).toNatClampNeg : Int32)) : 0 ≤ (x3 + 1) ∧ (x3 + 1) ≤ u.1 908 := by
  clear h_b; (try simp only [g_m1, Int32.lt_iff_toInt_lt, Int32.le_iff_toInt_le, ← Int32.toInt_inj, Int32.toInt_add, Int32.toInt_sub, Int32.toInt_mul, Int32.toInt_neg, Int32.reduceToInt, g_bm, g_bm'] at *); omega
set_option maxRecDepth 100000 in
theorem g_X9_nextByNumber_k_v23 (u : qS) (x : Int32) (k : qS) (P : Nat → Int32) (N : Nat → Int32) (x2 : Int32) (x3 : Int32) (hk : CT k P u) (hG : qG k u N) (hz8 : 0 ≤ u.1 8 ∧ u.1 8 ≤ 20) (hz9 : 0 ≤ u.1 9 ∧ u.1 9 ≤ 8) (hz10 : 0 ≤ u.1 10 ∧ u.1 10 ≤ 120) (hz12 : 0 ≤ u.1 12 ∧ u.1 12 ≤ 16) (hz908 : 0 ≤ u.1 908 ∧ u.1 908 ≤ 12) (h_k : 0 ≤ x3 ∧ x3 ≤ u.1 908) (h_f : -1 ≤ x2 ∧ x2 < u.1 908) (h_e : x2 < x3) (h_b : (x2 = -1 ∧ ∀ j, j < x3.toNatClampNeg → (N j).toInt ≤ x.toInt) ∨ ((0 ≤ x2.toInt ∧ x2.toInt < x3.toInt) ∧ x.toInt < (N x2.toNatClampNeg).toInt ∧ ∀ j, j < x3.toNatClampNeg → x.toInt < (N j).toInt → (N x2.toNatClampNeg).toInt ≤ (N j).toInt)) (c9_1 : ¬ (u.1 908) ≤ (x3 : Int32)) (c26_9 : ¬ (N (x3 : Int32).toNatClampNeg : Int32) ≤ x) (c31_10 : ¬ (x2 : Int32) = (-1)) (c45_18 : ¬ (N (x2 : Int32).toNatClampNeg) ≤ (N (x3 : Int32).toNatClampNeg : Int32)) : -1 ≤ x3 ∧ x3 < u.1 908 := by
  clear h_b; (try simp only [g_m1, Int32.lt_iff_toInt_lt, Int32.le_iff_toInt_le, ← Int32.toInt_inj, Int32.toInt_add, Int32.toInt_sub, Int32.toInt_mul, Int32.toInt_neg, Int32.reduceToInt, g_bm, g_bm'] at *); omega
set_option maxRecDepth 100000 in
theorem g_X9_nextByNumber_k_v24 (u : qS) (x : Int32) (k : qS) (P : Nat → Int32) (N : Nat → Int32) (x2 : Int32) (x3 : Int32) (hk : CT k P u) (hG : qG k u N) (hz8 : 0 ≤ u.1 8 ∧ u.1 8 ≤ 20) (hz9 : 0 ≤ u.1 9 ∧ u.1 9 ≤ 8) (hz10 : 0 ≤ u.1 10 ∧ u.1 10 ≤ 120) (hz12 : 0 ≤ u.1 12 ∧ u.1 12 ≤ 16) (hz908 : 0 ≤ u.1 908 ∧ u.1 908 ≤ 12) (h_k : 0 ≤ x3 ∧ x3 ≤ u.1 908) (h_f : -1 ≤ x2 ∧ x2 < u.1 908) (h_e : x2 < x3) (h_b : (x2 = -1 ∧ ∀ j, j < x3.toNatClampNeg → (N j).toInt ≤ x.toInt) ∨ ((0 ≤ x2.toInt ∧ x2.toInt < x3.toInt) ∧ x.toInt < (N x2.toNatClampNeg).toInt ∧ ∀ j, j < x3.toNatClampNeg → x.toInt < (N j).toInt → (N x2.toNatClampNeg).toInt ≤ (N j).toInt)) (c9_1 : ¬ (u.1 908) ≤ (x3 : Int32)) (c26_9 : ¬ (N (x3 : Int32).toNatClampNeg : Int32) ≤ x) (c31_10 : ¬ (x2 : Int32) = (-1)) (c45_18 : ¬ (N (x2 : Int32).toNatClampNeg) ≤ (N (x3 : Int32).toNatClampNeg : Int32)) : x3 < (x3 + 1) := by
  clear h_b; (try simp only [g_m1, Int32.lt_iff_toInt_lt, Int32.le_iff_toInt_le, ← Int32.toInt_inj, Int32.toInt_add, Int32.toInt_sub, Int32.toInt_mul, Int32.toInt_neg, Int32.reduceToInt, g_bm, g_bm'] at *); omega
set_option maxRecDepth 100000 in
theorem g_X9_nextByNumber_k_v25 (u : qS) (x : Int32) (k : qS) (P : Nat → Int32) (N : Nat → Int32) (x2 : Int32) (x3 : Int32) (hk : CT k P u) (hG : qG k u N) (hz8 : 0 ≤ u.1 8 ∧ u.1 8 ≤ 20) (hz9 : 0 ≤ u.1 9 ∧ u.1 9 ≤ 8) (hz10 : 0 ≤ u.1 10 ∧ u.1 10 ≤ 120) (hz12 : 0 ≤ u.1 12 ∧ u.1 12 ≤ 16) (hz908 : 0 ≤ u.1 908 ∧ u.1 908 ≤ 12) (h_k : 0 ≤ x3 ∧ x3 ≤ u.1 908) (h_f : -1 ≤ x2 ∧ x2 < u.1 908) (h_e : x2 < x3) (h_b : (x2 = -1 ∧ ∀ j, j < x3.toNatClampNeg → (N j).toInt ≤ x.toInt) ∨ ((0 ≤ x2.toInt ∧ x2.toInt < x3.toInt) ∧ x.toInt < (N x2.toNatClampNeg).toInt ∧ ∀ j, j < x3.toNatClampNeg → x.toInt < (N j).toInt → (N x2.toNatClampNeg).toInt ≤ (N j).toInt)) (c9_1 : ¬ (u.1 908) ≤ (x3 : Int32)) (c26_9 : ¬ (N (x3 : Int32).toNatClampNeg : Int32) ≤ x) (c31_10 : ¬ (x2 : Int32) = (-1)) (c45_18 : ¬ (N (x2 : Int32).toNatClampNeg) ≤ (N (x3 : Int32).toNatClampNeg : Int32)) : (x3 = -1 ∧ ∀ j, j < (x3 + 1).toNatClampNeg → (N j).toInt ≤ x.toInt) ∨ ((0 ≤ x3.toInt ∧ x3.toInt < (x3 + 1).toInt) ∧ x.toInt < (N x3.toNatClampNeg).toInt ∧ ∀ j, j < (x3 + 1).toNatClampNeg → x.toInt < (N j).toInt → (N x3.toNatClampNeg).toInt ≤ (N j).toInt) := by
  have q3 : 0 ≤ x3.toInt ∧ x3.toInt < 12 := (by clear h_b; (try simp only [g_m1, Int32.lt_iff_toInt_lt, Int32.le_iff_toInt_le, ← Int32.toInt_inj, Int32.reduceToInt] at *); omega)
  have c3 := g_clamp x3
  have e3 := g_up (i := x3) q3.1 (by omega)
  rw [e3.2, e3.1]
  have lt1 : ∀ j, j < x3.toNatClampNeg + 1 → j < x3.toNatClampNeg ∨ j = x3.toNatClampNeg := fun j h => by omega
  first
  | (have le : (N x3.toNatClampNeg).toInt ≤ x.toInt := Int32.le_iff_toInt_le.mp (by first | assumption | exact Int32.not_lt.mp (by assumption))
     rcases h_b with ⟨b1, b2⟩ | ⟨b1, b2, b3⟩
     · exact Or.inl ⟨b1, fun j hj => (lt1 j hj).elim (b2 j) (fun e => by rw [e]; exact le)⟩
     · exact Or.inr ⟨⟨b1.1, by omega⟩, b2, fun j hj w => (lt1 j hj).elim (fun q => b3 j q w) (fun e => by rw [e] at w; omega)⟩)
  | (have gt : x.toInt < (N x3.toNatClampNeg).toInt := Int32.lt_iff_toInt_lt.mp (by first | assumption | exact Int32.not_le.mp (by assumption))
     first
     | (have le : (N x2.toNatClampNeg).toInt ≤ (N x3.toNatClampNeg).toInt := Int32.le_iff_toInt_le.mp (by first | assumption | exact Int32.not_lt.mp (by assumption))
        rcases h_b with ⟨b1, b2⟩ | ⟨b1, b2, b3⟩
        · exact absurd b1 (by assumption)
        · exact Or.inr ⟨⟨b1.1, by omega⟩, b2, fun j hj w => (lt1 j hj).elim (fun q => b3 j q w) (fun e => by rw [e]; exact le)⟩)
     | (refine Or.inr ⟨⟨by omega, by omega⟩, gt, fun j hj w => ?_⟩
        rcases h_b with ⟨b1, b2⟩ | ⟨b1, b2, b3⟩
        · exact (lt1 j hj).elim (fun q => by have := b2 j q; omega) (fun e => by rw [e]; exact Int.le_refl _)
        · first
          | (have lt : (N x3.toNatClampNeg).toInt < (N x2.toNatClampNeg).toInt := Int32.lt_iff_toInt_lt.mp (by first | assumption | exact Int32.not_le.mp (by assumption))
             exact (lt1 j hj).elim (fun q => by have := b3 j q w; omega) (fun e => by rw [e]; exact Int.le_refl _))
          | (have e2 : x2 = -1 := (by assumption)
             rw [e2] at b1
             exact absurd b1.1 (by decide))))
set_option maxRecDepth 100000 in
theorem g_X9_nextByNumber_k_v26 (u : qS) (x : Int32) (k : qS) (P : Nat → Int32) (N : Nat → Int32) (x2 : Int32) (x3 : Int32) (hk : CT k P u) (hG : qG k u N) (hz8 : 0 ≤ u.1 8 ∧ u.1 8 ≤ 20) (hz9 : 0 ≤ u.1 9 ∧ u.1 9 ≤ 8) (hz10 : 0 ≤ u.1 10 ∧ u.1 10 ≤ 120) (hz12 : 0 ≤ u.1 12 ∧ u.1 12 ≤ 16) (hz908 : 0 ≤ u.1 908 ∧ u.1 908 ≤ 12) (h_k : 0 ≤ x3 ∧ x3 ≤ u.1 908) (h_f : -1 ≤ x2 ∧ x2 < u.1 908) (h_e : x2 < x3) (h_b : (x2 = -1 ∧ ∀ j, j < x3.toNatClampNeg → (N j).toInt ≤ x.toInt) ∨ ((0 ≤ x2.toInt ∧ x2.toInt < x3.toInt) ∧ x.toInt < (N x2.toNatClampNeg).toInt ∧ ∀ j, j < x3.toNatClampNeg → x.toInt < (N j).toInt → (N x2.toNatClampNeg).toInt ≤ (N j).toInt)) (c9_1 : ¬ (u.1 908) ≤ (x3 : Int32)) (c26_9 : ¬ (N (x3 : Int32).toNatClampNeg : Int32) ≤ x) (c31_10 : ¬ (x2 : Int32) = (-1)) (c45_18 : ¬ (N (x2 : Int32).toNatClampNeg) ≤ (N (x3 : Int32).toNatClampNeg : Int32)) : ((u.1 908).toInt - (x3 + 1).toInt).toNat < ((u.1 908).toInt - x3.toInt).toNat := by
  clear h_b; (try simp only [g_m1, Int32.lt_iff_toInt_lt, Int32.le_iff_toInt_le, ← Int32.toInt_inj, Int32.toInt_add, Int32.toInt_sub, Int32.toInt_mul, Int32.toInt_neg, Int32.reduceToInt, g_bm, g_bm'] at *); omega
set_option maxRecDepth 100000 in
theorem g_X9_nextByNumber_k_v27 (u : qS) (k : qS) (P : Nat → Int32) (N : Nat → Int32) (hk : CT k P u) (hG : qG k u N) (hz8 : 0 ≤ u.1 8 ∧ u.1 8 ≤ 20) (hz9 : 0 ≤ u.1 9 ∧ u.1 9 ≤ 8) (hz10 : 0 ≤ u.1 10 ∧ u.1 10 ≤ 120) (hz12 : 0 ≤ u.1 12 ∧ u.1 12 ≤ 16) (hz908 : 0 ≤ u.1 908 ∧ u.1 908 ≤ 12) : 0 ≤ (0 : Int32) ∧ (0 : Int32) ≤ u.1 908 := by
  (try simp only [g_m1, Int32.lt_iff_toInt_lt, Int32.le_iff_toInt_le, ← Int32.toInt_inj, Int32.reduceToInt] at *); omega
set_option maxRecDepth 100000 in
theorem g_X9_nextByNumber_k_v28 (u : qS) (k : qS) (P : Nat → Int32) (N : Nat → Int32) (hk : CT k P u) (hG : qG k u N) (hz8 : 0 ≤ u.1 8 ∧ u.1 8 ≤ 20) (hz9 : 0 ≤ u.1 9 ∧ u.1 9 ≤ 8) (hz10 : 0 ≤ u.1 10 ∧ u.1 10 ≤ 120) (hz12 : 0 ≤ u.1 12 ∧ u.1 12 ≤ 16) (hz908 : 0 ≤ u.1 908 ∧ u.1 908 ≤ 12) : -1 ≤ ((-1) : Int32) ∧ ((-1) : Int32) < u.1 908 := by
  (try simp only [g_m1, Int32.lt_iff_toInt_lt, Int32.le_iff_toInt_le, ← Int32.toInt_inj, Int32.reduceToInt] at *); omega
set_option maxRecDepth 100000 in
theorem g_X9_nextByNumber_k_v29 (u : qS) (k : qS) (P : Nat → Int32) (N : Nat → Int32) (hk : CT k P u) (hG : qG k u N) (hz8 : 0 ≤ u.1 8 ∧ u.1 8 ≤ 20) (hz9 : 0 ≤ u.1 9 ∧ u.1 9 ≤ 8) (hz10 : 0 ≤ u.1 10 ∧ u.1 10 ≤ 120) (hz12 : 0 ≤ u.1 12 ∧ u.1 12 ≤ 16) (hz908 : 0 ≤ u.1 908 ∧ u.1 908 ≤ 12) : ((-1) : Int32) < (0 : Int32) := by
  decide
set_option maxRecDepth 100000 in
theorem g_X9_nextByNumber_k_v30 (u : qS) (x : Int32) (k : qS) (P : Nat → Int32) (N : Nat → Int32) (hk : CT k P u) (hG : qG k u N) (hz8 : 0 ≤ u.1 8 ∧ u.1 8 ≤ 20) (hz9 : 0 ≤ u.1 9 ∧ u.1 9 ≤ 8) (hz10 : 0 ≤ u.1 10 ∧ u.1 10 ≤ 120) (hz12 : 0 ≤ u.1 12 ∧ u.1 12 ≤ 16) (hz908 : 0 ≤ u.1 908 ∧ u.1 908 ≤ 12) : (((-1) : Int32) = -1 ∧ ∀ j, j < (0 : Int32).toNatClampNeg → (N j).toInt ≤ x.toInt) ∨ ((0 ≤ ((-1) : Int32).toInt ∧ ((-1) : Int32).toInt < (0 : Int32).toInt) ∧ x.toInt < (N ((-1) : Int32).toNatClampNeg).toInt ∧ ∀ j, j < (0 : Int32).toNatClampNeg → x.toInt < (N j).toInt → (N ((-1) : Int32).toNatClampNeg).toInt ≤ (N j).toInt) := by
  exact Or.inl ⟨rfl, fun j hj => absurd hj (Nat.not_lt_zero _)⟩
set_option maxHeartbeats 1000000 in
set_option maxRecDepth 100000 in
theorem g_X9_nextByNumber_k (l : Launch) (E : qE) (A : Nat → Prop) (u : qS) (x : Int32) (k : qS) (P : Nat → Int32) (N : Nat → Int32) (hI : IC E u) (hk : CT k P u) (hG : qG k u N) : Met l yX9_nextByNumber (uws yX9_nextByNumber cX9_nextByNumber 5 (some .int)) (qR 0 0 0) (qPc E A 0 u [.ref (E.2.2 999), .int x]) (qQi E A 0 (fun r u1 => u1 = u ∧ (t_nb N (u.1 908).toNatClampNeg x r))) 0 0 A := by
  refine q_met (own := RX9) (f := 0) [.ref (E.2.2 999), .int x] (by decide) (Nat.le_of_ble_eq_true rfl) rfl ?_
  intro p0 e0 s0 m0 bl0 me0 cd0 ls hF hr hlocks hU hS hA hl
  have hl : lv_has ls 5 [(0, .ref (E.2.2 999)), (1, .int x)] := hl
  have hz8 : 0 ≤ u.1 8 ∧ u.1 8 ≤ 20 := hI.1.s8
  have hz9 : 0 ≤ u.1 9 ∧ u.1 9 ≤ 8 := hI.1.s9
  have hz10 : 0 ≤ u.1 10 ∧ u.1 10 ≤ 120 := hI.1.s10
  have hz12 : 0 ≤ u.1 12 ∧ u.1 12 ≤ 16 := hI.1.s12
  have hz908 : 0 ≤ u.1 908 ∧ u.1 908 ≤ 12 := hI.1.s908
  have main : ∀ n : Nat, (∀ (x2 : Int32) (x3 : Int32) (uc : qS) (H : Heap) (locs : List Loc) (ls : Array Slot) (huc : u = uc) (h_k : 0 ≤ x3 ∧ x3 ≤ u.1 908) (h_f : -1 ≤ x2 ∧ x2 < u.1 908) (h_e : x2 < x3) (h_b : (x2 = -1 ∧ ∀ j, j < x3.toNatClampNeg → (N j).toInt ≤ x.toInt) ∨ ((0 ≤ x2.toInt ∧ x2.toInt < x3.toInt) ∧ x.toInt < (N x2.toNatClampNeg).toInt ∧ ∀ j, j < x3.toNatClampNeg → x.toInt < (N j).toInt → (N x2.toNatClampNeg).toInt ≤ (N j).toInt)), ((u.1 908).toInt - x3.toInt).toNat < n → qH E A 0 uc s0 H → va_S A s0.heap H locs → lv_has ls 5 [(0, .ref (E.2.2 999)), (1, .int x), (2, .int x2), (3, .int x3)] → W p0 l e0 (qR 0 0 0) s0 m0 ([.ref (E.2.2 999), .int x] : List Value).toArray bl0 me0 cd0 H locs 0 0 (MQ bl0 (qQi E A 0 (fun r u1 => u1 = u ∧ (t_nb N (u.1 908).toNatClampNeg x r))) ([.ref (E.2.2 999), .int x] : List Value).toArray s0 0 0 A) (F0 m0 4 ls [])) := by
    intro n
    induction n with
    | zero => exact fun _ _ _ _ _ _ _ _ _ _ _ hmu => absurd hmu (Nat.not_lt_zero _)
    | succ n ih =>
      intro x2 x3 uc H locs ls huc h_k h_f h_e h_b hmu hU hS hl
      subst huc
      refine lv_iload_n hF.1 hF.2.1 dX9_nextByNumber_4 rfl (lv_at hl 3 rfl) ?_
      refine lv_aload_n hF.1 hF.2.1 dX9_nextByNumber_5 rfl (lv_at hl 0 rfl) ?_
      refine q_get (v := .int (u.1 908)) hF hU dX9_nextByNumber_6 4 9 8 908 999 rfl rfl rfl rfl inX9 (by decide) (by decide) w_310 rfl rfl ?_
      refine lv_icmp_ge (tgt := 56) hF.1 hF.2.1 dX9_nextByNumber_9 (by decide) (fun c9_1 => ?_) (fun c9_1 => ?_)
      · refine lv_iload_n hF.1 hF.2.1 dX9_nextByNumber_56 rfl (lv_at hl 2 rfl) ?_
        exact q_iret hF hr rfl hlocks hU hS dX9_nextByNumber_57 ⟨rfl, (g_X9_nextByNumber_k_v0 u x k P N x2 x3 hk hG hz8 hz9 hz10 hz12 hz908 h_k h_f h_e h_b c9_1)⟩
      · refine lv_aload_n hF.1 hF.2.1 dX9_nextByNumber_12 rfl (lv_at hl 0 rfl) ?_
        refine q_get (v := .ref (E.2.2 904)) hF hU dX9_nextByNumber_13 4 9 4 904 999 rfl rfl rfl rfl inX9 (by decide) (by decide) w_306 rfl rfl ?_
        refine lv_iload_n hF.1 hF.2.1 dX9_nextByNumber_16 rfl (lv_at hl 3 rfl) ?_
        obtain ⟨a_2, ha_2_3_e, ha_2_3⟩ := hI.r904 x3 (g_X9_nextByNumber_k_v1 u x k P N x2 x3 hk hG hz8 hz9 hz10 hz12 hz908 h_k h_f h_e h_b c9_1)
        refine q_aald (v := .ref a_2) hF hU dX9_nextByNumber_17 11 904 6 rfl rfl (by decide) rfl (g_X9_nextByNumber_k_v2 u x k P N x2 x3 hk hG hz8 hz9 hz10 hz12 hz908 h_k h_f h_e h_b c9_1) (by rw [ha_2_3_e]; rfl) ?_
        have hK_4 : qKn k u a_2 (N (x3 : Int32).toNatClampNeg) := hG x3 ((g_X9_nextByNumber_k_v3 u x k P N x2 x3 hk hG hz8 hz9 hz10 hz12 hz908 h_k h_f h_e h_b c9_1) : 0 ≤ x3 ∧ x3 < u.1 908).1 ((g_X9_nextByNumber_k_v3 u x k P N x2 x3 hk hG hz8 hz9 hz10 hz12 hz908 h_k h_f h_e h_b c9_1) : 0 ≤ x3 ∧ x3 < u.1 908).2 _ ha_2_3_e
        obtain ⟨k_5, fs_6, hd_7, hv_8⟩ := hK_4.at0
        refine q_getd (v := .int (N (x3 : Int32).toNatClampNeg)) hF hU dX9_nextByNumber_18 k_5 10 0 hd_7 rfl inX10 (by decide) w_583 rfl hv_8 ?_
        refine lv_istore (lv' := [(4, .int (N (x3 : Int32).toNatClampNeg)), (0, .ref (E.2.2 999)), (1, .int x), (2, .int x2), (3, .int x3)]) hF.1 hF.2.1 dX9_nextByNumber_21 hl (by decide) rfl (fun ls hl => ?_)
        refine lv_iload hF.1 hF.2.1 dX9_nextByNumber_23 (lv_at hl 0 rfl) ?_
        refine lv_iload_n hF.1 hF.2.1 dX9_nextByNumber_25 rfl (lv_at hl 2 rfl) ?_
        refine lv_icmp_le (tgt := 50) hF.1 hF.2.1 dX9_nextByNumber_26 (by decide) (fun c26_9 => ?_) (fun c26_9 => ?_)
        · refine lv_iinc (v := x3 + 1) (lv' := [(3, .int (x3 + 1)), (4, .int (N (x3 : Int32).toNatClampNeg)), (0, .ref (E.2.2 999)), (1, .int x), (2, .int x2)]) hF.1 hF.2.1 dX9_nextByNumber_50 hl (k := 4) rfl rfl (by decide) rfl (fun ls hl => ?_)
          refine lv_goto (tgt := 4) hF.1 hF.2.1 dX9_nextByNumber_53 (by decide) ?_
          exact ih x2 (x3 + 1) u _ _ _ rfl  (g_X9_nextByNumber_k_v4 u x k P N x2 x3 hk hG hz8 hz9 hz10 hz12 hz908 h_k h_f h_e h_b c9_1 c26_9) (g_X9_nextByNumber_k_v5 u x k P N x2 x3 hk hG hz8 hz9 hz10 hz12 hz908 h_k h_f h_e h_b c9_1 c26_9) (g_X9_nextByNumber_k_v6 u x k P N x2 x3 hk hG hz8 hz9 hz10 hz12 hz908 h_k h_f h_e h_b c9_1 c26_9) (g_X9_nextByNumber_k_v7 u x k P N x2 x3 hk hG hz8 hz9 hz10 hz12 hz908 h_k h_f h_e h_b c9_1 c26_9) (Nat.lt_of_lt_of_le (g_X9_nextByNumber_k_v8 u x k P N x2 x3 hk hG hz8 hz9 hz10 hz12 hz908 h_k h_f h_e h_b c9_1 c26_9) (Nat.lt_succ_iff.mp hmu)) hU hS (lv_sub hl [2, 3, 4, 0] rfl)
        · refine lv_iload_n hF.1 hF.2.1 dX9_nextByNumber_29 rfl (lv_at hl 3 rfl) ?_
          refine lv_iconst (v := (-1)) hF.1 hF.2.1 dX9_nextByNumber_30 (by decide) ?_
          refine lv_icmp_eq (tgt := 48) hF.1 hF.2.1 dX9_nextByNumber_31 (by decide) (fun c31_10 => ?_) (fun c31_10 => ?_)
          · refine lv_iload_n hF.1 hF.2.1 dX9_nextByNumber_48 rfl (lv_at hl 4 rfl) ?_
            refine lv_istore_n (lv' := [(2, .int x3), (4, .int (N (x3 : Int32).toNatClampNeg)), (0, .ref (E.2.2 999)), (1, .int x), (3, .int x3)]) hF.1 hF.2.1 dX9_nextByNumber_49 rfl hl (by decide) rfl (fun ls hl => ?_)
            refine lv_iinc (v := x3 + 1) (lv' := [(3, .int (x3 + 1)), (2, .int x3), (4, .int (N (x3 : Int32).toNatClampNeg)), (0, .ref (E.2.2 999)), (1, .int x)]) hF.1 hF.2.1 dX9_nextByNumber_50 hl (k := 4) rfl rfl (by decide) rfl (fun ls hl => ?_)
            refine lv_goto (tgt := 4) hF.1 hF.2.1 dX9_nextByNumber_53 (by decide) ?_
            exact ih x3 (x3 + 1) u _ _ _ rfl  (g_X9_nextByNumber_k_v9 u x k P N x2 x3 hk hG hz8 hz9 hz10 hz12 hz908 h_k h_f h_e h_b c9_1 c26_9 c31_10) (g_X9_nextByNumber_k_v10 u x k P N x2 x3 hk hG hz8 hz9 hz10 hz12 hz908 h_k h_f h_e h_b c9_1 c26_9 c31_10) (g_X9_nextByNumber_k_v11 u x k P N x2 x3 hk hG hz8 hz9 hz10 hz12 hz908 h_k h_f h_e h_b c9_1 c26_9 c31_10) (g_X9_nextByNumber_k_v12 u x k P N x2 x3 hk hG hz8 hz9 hz10 hz12 hz908 h_k h_f h_e h_b c9_1 c26_9 c31_10) (Nat.lt_of_lt_of_le (g_X9_nextByNumber_k_v13 u x k P N x2 x3 hk hG hz8 hz9 hz10 hz12 hz908 h_k h_f h_e h_b c9_1 c26_9 c31_10) (Nat.lt_succ_iff.mp hmu)) hU hS (lv_sub hl [3, 4, 1, 0] rfl)
          · refine lv_iload hF.1 hF.2.1 dX9_nextByNumber_34 (lv_at hl 0 rfl) ?_
            refine lv_aload_n hF.1 hF.2.1 dX9_nextByNumber_36 rfl (lv_at hl 1 rfl) ?_
            refine q_get (v := .ref (E.2.2 904)) hF hU dX9_nextByNumber_37 4 9 4 904 999 rfl rfl rfl rfl inX9 (by decide) (by decide) w_306 rfl rfl ?_
            refine lv_iload_n hF.1 hF.2.1 dX9_nextByNumber_40 rfl (lv_at hl 3 rfl) ?_
            obtain ⟨a_11, ha_11_12_e, ha_11_12⟩ := hI.r904 x2 (g_X9_nextByNumber_k_v14 u x k P N x2 x3 hk hG hz8 hz9 hz10 hz12 hz908 h_k h_f h_e h_b c9_1 c26_9 c31_10)
            refine q_aald (v := .ref a_11) hF hU dX9_nextByNumber_41 11 904 6 rfl rfl (by decide) rfl (g_X9_nextByNumber_k_v15 u x k P N x2 x3 hk hG hz8 hz9 hz10 hz12 hz908 h_k h_f h_e h_b c9_1 c26_9 c31_10) (by rw [ha_11_12_e]; rfl) ?_
            have hK_13 : qKn k u a_11 (N (x2 : Int32).toNatClampNeg) := hG x2 ((g_X9_nextByNumber_k_v16 u x k P N x2 x3 hk hG hz8 hz9 hz10 hz12 hz908 h_k h_f h_e h_b c9_1 c26_9 c31_10) : 0 ≤ x2 ∧ x2 < u.1 908).1 ((g_X9_nextByNumber_k_v16 u x k P N x2 x3 hk hG hz8 hz9 hz10 hz12 hz908 h_k h_f h_e h_b c9_1 c26_9 c31_10) : 0 ≤ x2 ∧ x2 < u.1 908).2 _ ha_11_12_e
            obtain ⟨k_14, fs_15, hd_16, hv_17⟩ := hK_13.at0
            refine q_getd (v := .int (N (x2 : Int32).toNatClampNeg)) hF hU dX9_nextByNumber_42 k_14 10 0 hd_16 rfl inX10 (by decide) w_583 rfl hv_17 ?_
            refine lv_icmp_ge (tgt := 50) hF.1 hF.2.1 dX9_nextByNumber_45 (by decide) (fun c45_18 => ?_) (fun c45_18 => ?_)
            · refine lv_iinc (v := x3 + 1) (lv' := [(3, .int (x3 + 1)), (4, .int (N (x3 : Int32).toNatClampNeg)), (0, .ref (E.2.2 999)), (1, .int x), (2, .int x2)]) hF.1 hF.2.1 dX9_nextByNumber_50 hl (k := 4) rfl rfl (by decide) rfl (fun ls hl => ?_)
              refine lv_goto (tgt := 4) hF.1 hF.2.1 dX9_nextByNumber_53 (by decide) ?_
              exact ih x2 (x3 + 1) u _ _ _ rfl  (g_X9_nextByNumber_k_v17 u x k P N x2 x3 hk hG hz8 hz9 hz10 hz12 hz908 h_k h_f h_e h_b c9_1 c26_9 c31_10 c45_18) (g_X9_nextByNumber_k_v18 u x k P N x2 x3 hk hG hz8 hz9 hz10 hz12 hz908 h_k h_f h_e h_b c9_1 c26_9 c31_10 c45_18) (g_X9_nextByNumber_k_v19 u x k P N x2 x3 hk hG hz8 hz9 hz10 hz12 hz908 h_k h_f h_e h_b c9_1 c26_9 c31_10 c45_18) (g_X9_nextByNumber_k_v20 u x k P N x2 x3 hk hG hz8 hz9 hz10 hz12 hz908 h_k h_f h_e h_b c9_1 c26_9 c31_10 c45_18) (Nat.lt_of_lt_of_le (g_X9_nextByNumber_k_v21 u x k P N x2 x3 hk hG hz8 hz9 hz10 hz12 hz908 h_k h_f h_e h_b c9_1 c26_9 c31_10 c45_18) (Nat.lt_succ_iff.mp hmu)) hU hS (lv_sub hl [2, 3, 4, 0] rfl)
            · refine lv_iload_n hF.1 hF.2.1 dX9_nextByNumber_48 rfl (lv_at hl 4 rfl) ?_
              refine lv_istore_n (lv' := [(2, .int x3), (4, .int (N (x3 : Int32).toNatClampNeg)), (0, .ref (E.2.2 999)), (1, .int x), (3, .int x3)]) hF.1 hF.2.1 dX9_nextByNumber_49 rfl hl (by decide) rfl (fun ls hl => ?_)
              refine lv_iinc (v := x3 + 1) (lv' := [(3, .int (x3 + 1)), (2, .int x3), (4, .int (N (x3 : Int32).toNatClampNeg)), (0, .ref (E.2.2 999)), (1, .int x)]) hF.1 hF.2.1 dX9_nextByNumber_50 hl (k := 4) rfl rfl (by decide) rfl (fun ls hl => ?_)
              refine lv_goto (tgt := 4) hF.1 hF.2.1 dX9_nextByNumber_53 (by decide) ?_
              exact ih x3 (x3 + 1) u _ _ _ rfl  (g_X9_nextByNumber_k_v22 u x k P N x2 x3 hk hG hz8 hz9 hz10 hz12 hz908 h_k h_f h_e h_b c9_1 c26_9 c31_10 c45_18) (g_X9_nextByNumber_k_v23 u x k P N x2 x3 hk hG hz8 hz9 hz10 hz12 hz908 h_k h_f h_e h_b c9_1 c26_9 c31_10 c45_18) (g_X9_nextByNumber_k_v24 u x k P N x2 x3 hk hG hz8 hz9 hz10 hz12 hz908 h_k h_f h_e h_b c9_1 c26_9 c31_10 c45_18) (g_X9_nextByNumber_k_v25 u x k P N x2 x3 hk hG hz8 hz9 hz10 hz12 hz908 h_k h_f h_e h_b c9_1 c26_9 c31_10 c45_18) (Nat.lt_of_lt_of_le (g_X9_nextByNumber_k_v26 u x k P N x2 x3 hk hG hz8 hz9 hz10 hz12 hz908 h_k h_f h_e h_b c9_1 c26_9 c31_10 c45_18) (Nat.lt_succ_iff.mp hmu)) hU hS (lv_sub hl [3, 4, 1, 0] rfl)
  refine lv_iconst (v := (-1)) hF.1 hF.2.1 dX9_nextByNumber_0 (by decide) ?_
  refine lv_istore_n (lv' := [(2, .int (-1)), (0, .ref (E.2.2 999)), (1, .int x)]) hF.1 hF.2.1 dX9_nextByNumber_1 rfl hl (by decide) rfl (fun ls hl => ?_)
  refine lv_iconst (v := 0) hF.1 hF.2.1 dX9_nextByNumber_2 (by decide) ?_
  refine lv_istore_n (lv' := [(3, .int 0), (2, .int (-1)), (0, .ref (E.2.2 999)), (1, .int x)]) hF.1 hF.2.1 dX9_nextByNumber_3 rfl hl (by decide) rfl (fun ls hl => ?_)
  exact (main _) ((-1) : Int32) (0 : Int32) u _ _ _ rfl  (g_X9_nextByNumber_k_v27 u k P N hk hG hz8 hz9 hz10 hz12 hz908) (g_X9_nextByNumber_k_v28 u k P N hk hG hz8 hz9 hz10 hz12 hz908) (g_X9_nextByNumber_k_v29 u k P N hk hG hz8 hz9 hz10 hz12 hz908) (g_X9_nextByNumber_k_v30 u x k P N hk hG hz8 hz9 hz10 hz12 hz908) (Nat.lt_succ_self _) hU hS (lv_sub hl [2, 3, 1, 0] rfl)
set_option maxRecDepth 100000 in
theorem g_X9_falseAt_k_v0 (u : qS) (x : Int32) (y : Int32) (z : Int32) (k : qS) (P : Nat → Int32) (S : Nat → Int32) (x4 : Int32) (x5 : Int32) (x6 : Int32) (x7 : Int32) (uc : qS) (hk : CT k P u) (hQ : qFD 10 S u) (ha : f_a1 k S) (hz : 0 ≤ z ∧ z ≤ 11) (hz8 : 0 ≤ u.1 8 ∧ u.1 8 ≤ 20) (hz9 : 0 ≤ u.1 9 ∧ u.1 9 ≤ 8) (hz10 : 0 ≤ u.1 10 ∧ u.1 10 ≤ 120) (hz12 : 0 ≤ u.1 12 ∧ u.1 12 ≤ 16) (hz908 : 0 ≤ u.1 908 ∧ u.1 908 ≤ 12) (h_k : 0 ≤ x7 ∧ x7 ≤ uc.1 908) (h_G : qG k uc (t_N k P x y)) (h_s : (uc.1 908).toInt = ((k_ct (t_mb k P x y) (k.1 1247).toNatClampNeg) : Int)) (h_9 : 0 ≤ uc.1 908 ∧ uc.1 908 ≤ 12) (h_4 : 0 ≤ x4.toInt) (h_L : t_lo k (t_N k P x y) (k_ct (t_mb k P x y) (k.1 1247).toNatClampNeg) x4.toInt.toNat) (h_O : t_Os k x y (t_N k P x y) (k_ct (t_mb k P x y) (k.1 1247).toNatClampNeg) x4.toInt.toNat x7.toNatClampNeg (uc.2.1 907)) (h_5 : x5.toInt = (k_ct (k_gr (fun i j => t_bo k ((t_N k P x y) i) ((t_N k P x y) j)) (k_ct (t_mb k P x y) (k.1 1247).toNatClampNeg) x4.toInt.toNat (fun i => f_n (f_gp k x y) ((t_N k P x y) i).toNatClampNeg) x7.toNatClampNeg) x7.toNatClampNeg : Int) ∧ x5.toInt ≤ z.toInt) (h_6 : t_la k x y x7.toNatClampNeg x6) (c28_1 : (uc.1 908) ≤ (x7 : Int32)) : k_nth (s_b (f_fz k x y)) (f_n (f_gp k x y) (k.1 1247).toNatClampNeg) z.toNatClampNeg (f_V k x y) ((-1) : Int32) := by
  have hg := t_N.g hk.2.2.2.2.1 x y
  have hb := hk.2.2.2.2.2
  have e9 := t_nn h_s
  have mn := t_mb.n hk.2.2.2.2.1 x y
  have gF := t_gF hb hg h_L
  have z0 : 0 ≤ z.toInt := Int32.le_iff_toInt_le.mp hz.1
  have cz := g_clamp z
  have c7 := g_clamp x7
  rw [← mn]
  first
  | (have q7 : 0 ≤ x7.toInt ∧ x7.toInt < (k_ct (t_mb k P x y) (k.1 1247).toNatClampNeg) := (by clear h_G h_L h_O h_6; (try simp only [g_m1, Int32.lt_iff_toInt_lt, Int32.le_iff_toInt_le, ← Int32.toInt_inj, Int32.reduceToInt] at *); omega)
     have c7 := g_clamp x7
     have m12 : (k_ct (t_mb k P x y) (k.1 1247).toNatClampNeg) ≤ 12 := (t_gset hb hg).1
     have e7 := (g_up (i := x7) q7.1 (by omega)).2
     have nb := (by assumption : t_nb _ _ _ _)
     rw [e9] at nb
     have nx := t_next hb hg (n := x7.toNatClampNeg) (by omega) h_6 nb
     have ua := (by assumption : t_ua _ _ _ _ ∧ t_mx _ _ _)
     rw [e9] at ua
     have kp := t_keep (p := fun i => f_n (f_gp k x y) ((t_N k P x y) i).toNatClampNeg) (T := fun r => k_gr (fun i j => t_bo k ((t_N k P x y) i) ((t_N k P x y) j)) (k_ct (t_mb k P x y) (k.1 1247).toNatClampNeg) x4.toInt.toNat (fun i => f_n (f_gp k x y) ((t_N k P x y) i).toNatClampNeg) x7.toNatClampNeg r || decide (r = x7.toNatClampNeg)) ua.1 ua.2 (t_gset hb hg).2.2.1 (h_O.try hb hg ⟨nx.1.2, nx.1.1⟩ nx.2 (by assumption) (by decide)) h_L.top
     have lb : (x4.toInt.toNat : Int) = x4.toInt := Int.toNat_of_nonneg h_4
     exact t_fin1 hb hg h_L (kp.mp (by have ge := Int32.le_iff_toInt_le.mp (by first | exact (by assumption : x4 ≤ _) | exact Int32.not_lt.mp (by assumption : ¬ _ < x4)); omega)) (by omega) nx (by have e5 : x5 = z := (by assumption); have h5 := h_5.1; rw [e5] at h5; omega))
  | (have q7 : 0 ≤ x7.toInt ∧ x7.toInt < (k_ct (t_mb k P x y) (k.1 1247).toNatClampNeg) := (by clear h_G h_L h_O h_6; (try simp only [g_m1, Int32.lt_iff_toInt_lt, Int32.le_iff_toInt_le, ← Int32.toInt_inj, Int32.reduceToInt] at *); omega)
     have c7 := g_clamp x7
     have m12 : (k_ct (t_mb k P x y) (k.1 1247).toNatClampNeg) ≤ 12 := (t_gset hb hg).1
     have e7 := (g_up (i := x7) q7.1 (by omega)).2
     have nb := (by assumption : t_nb _ _ _ _)
     rw [e9] at nb
     have nx := t_next hb hg (n := x7.toNatClampNeg) (by omega) h_6 nb
     exfalso; have r1 := (by assumption : _ = (-1 : Int32)); have n1 := nx.1; rw [r1] at n1; exact absurd n1.1 (by decide))
  | (have e : x7 = uc.1 908 := Int32.toInt_inj.mp (by clear h_G h_L h_O h_6; (try simp only [g_m1, Int32.lt_iff_toInt_lt, Int32.le_iff_toInt_le, ← Int32.toInt_inj, Int32.reduceToInt] at *); omega)
     rw [e, e9] at h_5
     refine Or.inr ⟨?_, rfl⟩
     have ce : k_ct (s_b (f_fz k x y)) (k_ct (t_mb k P x y) (k.1 1247).toNatClampNeg) = k_ct (k_gr (fun i j => t_bo k ((t_N k P x y) i) ((t_N k P x y) j)) (k_ct (t_mb k P x y) (k.1 1247).toNatClampNeg) x4.toInt.toNat (fun i => f_n (f_gp k x y) ((t_N k P x y) i).toNatClampNeg) (k_ct (t_mb k P x y) (k.1 1247).toNatClampNeg)) (k_ct (t_mb k P x y) (k.1 1247).toNatClampNeg) := k_ct_cg _ (fun i hi => by rw [gF _ (Nat.le_refl _), decide_eq_true hi]; rfl)
     rw [ce]; omega)
set_option maxRecDepth 100000 in
theorem g_X9_falseAt_k_v1 (u : qS) (x : Int32) (y : Int32) (z : Int32) (k : qS) (P : Nat → Int32) (S : Nat → Int32) (x4 : Int32) (x5 : Int32) (x6 : Int32) (x7 : Int32) (uc : qS) (r_4 : Int32) (hk : CT k P u) (hQ : qFD 10 S u) (ha : f_a1 k S) (hz : 0 ≤ z ∧ z ≤ 11) (hz8 : 0 ≤ u.1 8 ∧ u.1 8 ≤ 20) (hz9 : 0 ≤ u.1 9 ∧ u.1 9 ≤ 8) (hz10 : 0 ≤ u.1 10 ∧ u.1 10 ≤ 120) (hz12 : 0 ≤ u.1 12 ∧ u.1 12 ≤ 16) (hz908 : 0 ≤ u.1 908 ∧ u.1 908 ≤ 12) (h_k : 0 ≤ x7 ∧ x7 ≤ uc.1 908) (h_G : qG k uc (t_N k P x y)) (h_s : (uc.1 908).toInt = ((k_ct (t_mb k P x y) (k.1 1247).toNatClampNeg) : Int)) (h_9 : 0 ≤ uc.1 908 ∧ uc.1 908 ≤ 12) (h_4 : 0 ≤ x4.toInt) (h_L : t_lo k (t_N k P x y) (k_ct (t_mb k P x y) (k.1 1247).toNatClampNeg) x4.toInt.toNat) (h_O : t_Os k x y (t_N k P x y) (k_ct (t_mb k P x y) (k.1 1247).toNatClampNeg) x4.toInt.toNat x7.toNatClampNeg (uc.2.1 907)) (h_5 : x5.toInt = (k_ct (k_gr (fun i j => t_bo k ((t_N k P x y) i) ((t_N k P x y) j)) (k_ct (t_mb k P x y) (k.1 1247).toNatClampNeg) x4.toInt.toNat (fun i => f_n (f_gp k x y) ((t_N k P x y) i).toNatClampNeg) x7.toNatClampNeg) x7.toNatClampNeg : Int) ∧ x5.toInt ≤ z.toInt) (h_6 : t_la k x y x7.toNatClampNeg x6) (c28_1 : ¬ (uc.1 908) ≤ (x7 : Int32)) (hw_3 : t_nb ((t_N k P x y)) ((uc.1 908 : Int32)).toNatClampNeg x6 r_4) (c42_5 : ¬ (r_4 : Int32) = (-1)) : 0 ≤ r_4 ∧ r_4 < (uc.1 908) := by
  have hg := t_N.g hk.2.2.2.2.1 x y
  have hb := hk.2.2.2.2.2
  have e9 := t_nn h_s
  have q7 : 0 ≤ x7.toInt ∧ x7.toInt < (k_ct (t_mb k P x y) (k.1 1247).toNatClampNeg) := (by clear h_G h_L h_O h_6; (try simp only [g_m1, Int32.lt_iff_toInt_lt, Int32.le_iff_toInt_le, ← Int32.toInt_inj, Int32.reduceToInt] at *); omega)
  have c7 := g_clamp x7
  have m12 : (k_ct (t_mb k P x y) (k.1 1247).toNatClampNeg) ≤ 12 := (t_gset hb hg).1
  have e7 := (g_up (i := x7) q7.1 (by omega)).2
  have nb := (by assumption : t_nb _ _ _ _)
  rw [e9] at nb
  have nx := t_next hb hg (n := x7.toNatClampNeg) (by omega) h_6 nb
  clear h_G h_L h_O h_6 nb; have n1 := nx.1; clear nx; (try simp only [g_m1, Int32.lt_iff_toInt_lt, Int32.le_iff_toInt_le, ← Int32.toInt_inj, Int32.reduceToInt] at *); omega
set_option maxRecDepth 100000 in
theorem g_X9_falseAt_k_v2 (u : qS) (x : Int32) (y : Int32) (z : Int32) (k : qS) (P : Nat → Int32) (S : Nat → Int32) (x4 : Int32) (x5 : Int32) (x6 : Int32) (x7 : Int32) (uc : qS) (r_4 : Int32) (hk : CT k P u) (hQ : qFD 10 S u) (ha : f_a1 k S) (hz : 0 ≤ z ∧ z ≤ 11) (hz8 : 0 ≤ u.1 8 ∧ u.1 8 ≤ 20) (hz9 : 0 ≤ u.1 9 ∧ u.1 9 ≤ 8) (hz10 : 0 ≤ u.1 10 ∧ u.1 10 ≤ 120) (hz12 : 0 ≤ u.1 12 ∧ u.1 12 ≤ 16) (hz908 : 0 ≤ u.1 908 ∧ u.1 908 ≤ 12) (h_k : 0 ≤ x7 ∧ x7 ≤ uc.1 908) (h_G : qG k uc (t_N k P x y)) (h_s : (uc.1 908).toInt = ((k_ct (t_mb k P x y) (k.1 1247).toNatClampNeg) : Int)) (h_9 : 0 ≤ uc.1 908 ∧ uc.1 908 ≤ 12) (h_4 : 0 ≤ x4.toInt) (h_L : t_lo k (t_N k P x y) (k_ct (t_mb k P x y) (k.1 1247).toNatClampNeg) x4.toInt.toNat) (h_O : t_Os k x y (t_N k P x y) (k_ct (t_mb k P x y) (k.1 1247).toNatClampNeg) x4.toInt.toNat x7.toNatClampNeg (uc.2.1 907)) (h_5 : x5.toInt = (k_ct (k_gr (fun i j => t_bo k ((t_N k P x y) i) ((t_N k P x y) j)) (k_ct (t_mb k P x y) (k.1 1247).toNatClampNeg) x4.toInt.toNat (fun i => f_n (f_gp k x y) ((t_N k P x y) i).toNatClampNeg) x7.toNatClampNeg) x7.toNatClampNeg : Int) ∧ x5.toInt ≤ z.toInt) (h_6 : t_la k x y x7.toNatClampNeg x6) (c28_1 : ¬ (uc.1 908) ≤ (x7 : Int32)) (hw_3 : t_nb ((t_N k P x y)) ((uc.1 908 : Int32)).toNatClampNeg x6 r_4) (c42_5 : ¬ (r_4 : Int32) = (-1)) : vp_in (r_4) 12 := by
  have hg := t_N.g hk.2.2.2.2.1 x y
  have hb := hk.2.2.2.2.2
  have e9 := t_nn h_s
  have q7 : 0 ≤ x7.toInt ∧ x7.toInt < (k_ct (t_mb k P x y) (k.1 1247).toNatClampNeg) := (by clear h_G h_L h_O h_6; (try simp only [g_m1, Int32.lt_iff_toInt_lt, Int32.le_iff_toInt_le, ← Int32.toInt_inj, Int32.reduceToInt] at *); omega)
  have c7 := g_clamp x7
  have m12 : (k_ct (t_mb k P x y) (k.1 1247).toNatClampNeg) ≤ 12 := (t_gset hb hg).1
  have e7 := (g_up (i := x7) q7.1 (by omega)).2
  have nb := (by assumption : t_nb _ _ _ _)
  rw [e9] at nb
  have nx := t_next hb hg (n := x7.toNatClampNeg) (by omega) h_6 nb
  have n1 := nx.1; clear h_G h_L h_O h_6 nb nx; refine g_in ?_ ?_ <;> ((try simp only [g_m1, Int32.lt_iff_toInt_lt, Int32.le_iff_toInt_le, ← Int32.toInt_inj, Int32.reduceToInt] at *); omega)
set_option maxRecDepth 100000 in
theorem g_X9_falseAt_k_v3 (u : qS) (x : Int32) (y : Int32) (z : Int32) (k : qS) (P : Nat → Int32) (S : Nat → Int32) (x4 : Int32) (x5 : Int32) (x6 : Int32) (x7 : Int32) (uc : qS) (r_4 : Int32) (hk : CT k P u) (hQ : qFD 10 S u) (ha : f_a1 k S) (hz : 0 ≤ z ∧ z ≤ 11) (hz8 : 0 ≤ u.1 8 ∧ u.1 8 ≤ 20) (hz9 : 0 ≤ u.1 9 ∧ u.1 9 ≤ 8) (hz10 : 0 ≤ u.1 10 ∧ u.1 10 ≤ 120) (hz12 : 0 ≤ u.1 12 ∧ u.1 12 ≤ 16) (hz908 : 0 ≤ u.1 908 ∧ u.1 908 ≤ 12) (h_k : 0 ≤ x7 ∧ x7 ≤ uc.1 908) (h_G : qG k uc (t_N k P x y)) (h_s : (uc.1 908).toInt = ((k_ct (t_mb k P x y) (k.1 1247).toNatClampNeg) : Int)) (h_9 : 0 ≤ uc.1 908 ∧ uc.1 908 ≤ 12) (h_4 : 0 ≤ x4.toInt) (h_L : t_lo k (t_N k P x y) (k_ct (t_mb k P x y) (k.1 1247).toNatClampNeg) x4.toInt.toNat) (h_O : t_Os k x y (t_N k P x y) (k_ct (t_mb k P x y) (k.1 1247).toNatClampNeg) x4.toInt.toNat x7.toNatClampNeg (uc.2.1 907)) (h_5 : x5.toInt = (k_ct (k_gr (fun i j => t_bo k ((t_N k P x y) i) ((t_N k P x y) j)) (k_ct (t_mb k P x y) (k.1 1247).toNatClampNeg) x4.toInt.toNat (fun i => f_n (f_gp k x y) ((t_N k P x y) i).toNatClampNeg) x7.toNatClampNeg) x7.toNatClampNeg : Int) ∧ x5.toInt ≤ z.toInt) (h_6 : t_la k x y x7.toNatClampNeg x6) (c28_1 : ¬ (uc.1 908) ≤ (x7 : Int32)) (hw_3 : t_nb ((t_N k P x y)) ((uc.1 908 : Int32)).toNatClampNeg x6 r_4) (c42_5 : ¬ (r_4 : Int32) = (-1)) : 0 ≤ r_4 ∧ r_4 < (uc.1 908) := by
  have hg := t_N.g hk.2.2.2.2.1 x y
  have hb := hk.2.2.2.2.2
  have e9 := t_nn h_s
  have q7 : 0 ≤ x7.toInt ∧ x7.toInt < (k_ct (t_mb k P x y) (k.1 1247).toNatClampNeg) := (by clear h_G h_L h_O h_6; (try simp only [g_m1, Int32.lt_iff_toInt_lt, Int32.le_iff_toInt_le, ← Int32.toInt_inj, Int32.reduceToInt] at *); omega)
  have c7 := g_clamp x7
  have m12 : (k_ct (t_mb k P x y) (k.1 1247).toNatClampNeg) ≤ 12 := (t_gset hb hg).1
  have e7 := (g_up (i := x7) q7.1 (by omega)).2
  have nb := (by assumption : t_nb _ _ _ _)
  rw [e9] at nb
  have nx := t_next hb hg (n := x7.toNatClampNeg) (by omega) h_6 nb
  clear h_G h_L h_O h_6 nb; have n1 := nx.1; clear nx; (try simp only [g_m1, Int32.lt_iff_toInt_lt, Int32.le_iff_toInt_le, ← Int32.toInt_inj, Int32.reduceToInt] at *); omega
set_option maxRecDepth 100000 in
theorem g_X9_falseAt_k_v4 (u : qS) (x : Int32) (y : Int32) (z : Int32) (k : qS) (P : Nat → Int32) (S : Nat → Int32) (x4 : Int32) (x5 : Int32) (x6 : Int32) (x7 : Int32) (uc : qS) (r_4 : Int32) (hk : CT k P u) (hQ : qFD 10 S u) (ha : f_a1 k S) (hz : 0 ≤ z ∧ z ≤ 11) (hz8 : 0 ≤ u.1 8 ∧ u.1 8 ≤ 20) (hz9 : 0 ≤ u.1 9 ∧ u.1 9 ≤ 8) (hz10 : 0 ≤ u.1 10 ∧ u.1 10 ≤ 120) (hz12 : 0 ≤ u.1 12 ∧ u.1 12 ≤ 16) (hz908 : 0 ≤ u.1 908 ∧ u.1 908 ≤ 12) (h_k : 0 ≤ x7 ∧ x7 ≤ uc.1 908) (h_G : qG k uc (t_N k P x y)) (h_s : (uc.1 908).toInt = ((k_ct (t_mb k P x y) (k.1 1247).toNatClampNeg) : Int)) (h_9 : 0 ≤ uc.1 908 ∧ uc.1 908 ≤ 12) (h_4 : 0 ≤ x4.toInt) (h_L : t_lo k (t_N k P x y) (k_ct (t_mb k P x y) (k.1 1247).toNatClampNeg) x4.toInt.toNat) (h_O : t_Os k x y (t_N k P x y) (k_ct (t_mb k P x y) (k.1 1247).toNatClampNeg) x4.toInt.toNat x7.toNatClampNeg (uc.2.1 907)) (h_5 : x5.toInt = (k_ct (k_gr (fun i j => t_bo k ((t_N k P x y) i) ((t_N k P x y) j)) (k_ct (t_mb k P x y) (k.1 1247).toNatClampNeg) x4.toInt.toNat (fun i => f_n (f_gp k x y) ((t_N k P x y) i).toNatClampNeg) x7.toNatClampNeg) x7.toNatClampNeg : Int) ∧ x5.toInt ≤ z.toInt) (h_6 : t_la k x y x7.toNatClampNeg x6) (c28_1 : ¬ (uc.1 908) ≤ (x7 : Int32)) (hw_3 : t_nb ((t_N k P x y)) ((uc.1 908 : Int32)).toNatClampNeg x6 r_4) (c42_5 : ¬ (r_4 : Int32) = (-1)) : vp_in (r_4) 12 := by
  have hg := t_N.g hk.2.2.2.2.1 x y
  have hb := hk.2.2.2.2.2
  have e9 := t_nn h_s
  have q7 : 0 ≤ x7.toInt ∧ x7.toInt < (k_ct (t_mb k P x y) (k.1 1247).toNatClampNeg) := (by clear h_G h_L h_O h_6; (try simp only [g_m1, Int32.lt_iff_toInt_lt, Int32.le_iff_toInt_le, ← Int32.toInt_inj, Int32.reduceToInt] at *); omega)
  have c7 := g_clamp x7
  have m12 : (k_ct (t_mb k P x y) (k.1 1247).toNatClampNeg) ≤ 12 := (t_gset hb hg).1
  have e7 := (g_up (i := x7) q7.1 (by omega)).2
  have nb := (by assumption : t_nb _ _ _ _)
  rw [e9] at nb
  have nx := t_next hb hg (n := x7.toNatClampNeg) (by omega) h_6 nb
  have n1 := nx.1; clear h_G h_L h_O h_6 nb nx; refine g_in ?_ ?_ <;> ((try simp only [g_m1, Int32.lt_iff_toInt_lt, Int32.le_iff_toInt_le, ← Int32.toInt_inj, Int32.reduceToInt] at *); omega)
set_option maxRecDepth 100000 in
theorem g_X9_falseAt_k_v5 (u : qS) (x : Int32) (y : Int32) (z : Int32) (k : qS) (P : Nat → Int32) (S : Nat → Int32) (x4 : Int32) (x5 : Int32) (x6 : Int32) (x7 : Int32) (uc : qS) (r_4 : Int32) (f_13 : Nat → Int32) (u_14 : qS) (r_16 : Int32) (hk : CT k P u) (hQ : qFD 10 S u) (ha : f_a1 k S) (hz : 0 ≤ z ∧ z ≤ 11) (hz8 : 0 ≤ u.1 8 ∧ u.1 8 ≤ 20) (hz9 : 0 ≤ u.1 9 ∧ u.1 9 ≤ 8) (hz10 : 0 ≤ u.1 10 ∧ u.1 10 ≤ 120) (hz12 : 0 ≤ u.1 12 ∧ u.1 12 ≤ 16) (hz908 : 0 ≤ u.1 908 ∧ u.1 908 ≤ 12) (h_k : 0 ≤ x7 ∧ x7 ≤ uc.1 908) (h_G : qG k uc (t_N k P x y)) (h_s : (uc.1 908).toInt = ((k_ct (t_mb k P x y) (k.1 1247).toNatClampNeg) : Int)) (h_9 : 0 ≤ uc.1 908 ∧ uc.1 908 ≤ 12) (h_4 : 0 ≤ x4.toInt) (h_L : t_lo k (t_N k P x y) (k_ct (t_mb k P x y) (k.1 1247).toNatClampNeg) x4.toInt.toNat) (h_O : t_Os k x y (t_N k P x y) (k_ct (t_mb k P x y) (k.1 1247).toNatClampNeg) x4.toInt.toNat x7.toNatClampNeg (uc.2.1 907)) (h_5 : x5.toInt = (k_ct (k_gr (fun i j => t_bo k ((t_N k P x y) i) ((t_N k P x y) j)) (k_ct (t_mb k P x y) (k.1 1247).toNatClampNeg) x4.toInt.toNat (fun i => f_n (f_gp k x y) ((t_N k P x y) i).toNatClampNeg) x7.toNatClampNeg) x7.toNatClampNeg : Int) ∧ x5.toInt ≤ z.toInt) (h_6 : t_la k x y x7.toNatClampNeg x6) (c28_1 : ¬ (uc.1 908) ≤ (x7 : Int32)) (hw_3 : t_nb ((t_N k P x y)) ((uc.1 908 : Int32)).toNatClampNeg x6 r_4) (c42_5 : ¬ (r_4 : Int32) = (-1)) (hf_13 : f_13 = upd (uc.2.1 907) (r_4 : Int32).toNatClampNeg (vp_nar .boolean 1)) (hw_15 : t_ua (fun i j => t_bo (k) (((t_N k P x y)) i) (((t_N k P x y)) j)) (f_13) (u_14.2.1 905) ((uc.1 908 : Int32)).toNatClampNeg ∧ t_mx (u_14.2.1 905) r_16 ((uc.1 908 : Int32)).toNatClampNeg) (c73_19 : x4 ≤ (r_16 : Int32)) (c90_20 : ¬ (x5 : Int32) = z) : 0 ≤ (x7 + 1) ∧ (x7 + 1) ≤ (uc.1 908 : Int32) := by
  clear h_G h_L h_O h_6 hz; (try simp only [g_m1, Int32.lt_iff_toInt_lt, Int32.le_iff_toInt_le, ← Int32.toInt_inj, Int32.toInt_add, Int32.toInt_sub, Int32.toInt_mul, Int32.toInt_neg, Int32.reduceToInt, g_bm, g_bm'] at *); omega
set_option maxRecDepth 100000 in
theorem g_X9_falseAt_k_v6 (u : qS) (x : Int32) (y : Int32) (z : Int32) (k : qS) (P : Nat → Int32) (S : Nat → Int32) (x4 : Int32) (x5 : Int32) (x6 : Int32) (x7 : Int32) (uc : qS) (r_4 : Int32) (f_13 : Nat → Int32) (u_14 : qS) (r_16 : Int32) (hk : CT k P u) (hQ : qFD 10 S u) (ha : f_a1 k S) (hz : 0 ≤ z ∧ z ≤ 11) (hz8 : 0 ≤ u.1 8 ∧ u.1 8 ≤ 20) (hz9 : 0 ≤ u.1 9 ∧ u.1 9 ≤ 8) (hz10 : 0 ≤ u.1 10 ∧ u.1 10 ≤ 120) (hz12 : 0 ≤ u.1 12 ∧ u.1 12 ≤ 16) (hz908 : 0 ≤ u.1 908 ∧ u.1 908 ≤ 12) (h_k : 0 ≤ x7 ∧ x7 ≤ uc.1 908) (h_G : qG k uc (t_N k P x y)) (h_s : (uc.1 908).toInt = ((k_ct (t_mb k P x y) (k.1 1247).toNatClampNeg) : Int)) (h_9 : 0 ≤ uc.1 908 ∧ uc.1 908 ≤ 12) (h_4 : 0 ≤ x4.toInt) (h_L : t_lo k (t_N k P x y) (k_ct (t_mb k P x y) (k.1 1247).toNatClampNeg) x4.toInt.toNat) (h_O : t_Os k x y (t_N k P x y) (k_ct (t_mb k P x y) (k.1 1247).toNatClampNeg) x4.toInt.toNat x7.toNatClampNeg (uc.2.1 907)) (h_5 : x5.toInt = (k_ct (k_gr (fun i j => t_bo k ((t_N k P x y) i) ((t_N k P x y) j)) (k_ct (t_mb k P x y) (k.1 1247).toNatClampNeg) x4.toInt.toNat (fun i => f_n (f_gp k x y) ((t_N k P x y) i).toNatClampNeg) x7.toNatClampNeg) x7.toNatClampNeg : Int) ∧ x5.toInt ≤ z.toInt) (h_6 : t_la k x y x7.toNatClampNeg x6) (c28_1 : ¬ (uc.1 908) ≤ (x7 : Int32)) (hw_3 : t_nb ((t_N k P x y)) ((uc.1 908 : Int32)).toNatClampNeg x6 r_4) (c42_5 : ¬ (r_4 : Int32) = (-1)) (hf_13 : f_13 = upd (uc.2.1 907) (r_4 : Int32).toNatClampNeg (vp_nar .boolean 1)) (hw_15 : t_ua (fun i j => t_bo (k) (((t_N k P x y)) i) (((t_N k P x y)) j)) (f_13) (u_14.2.1 905) ((uc.1 908 : Int32)).toNatClampNeg ∧ t_mx (u_14.2.1 905) r_16 ((uc.1 908 : Int32)).toNatClampNeg) (c73_19 : x4 ≤ (r_16 : Int32)) (c90_20 : ¬ (x5 : Int32) = z) : ((uc.1 908 : Int32)).toInt = ((k_ct (t_mb k P x y) (k.1 1247).toNatClampNeg) : Int) := by
  exact h_s
set_option maxRecDepth 100000 in
theorem g_X9_falseAt_k_v7 (u : qS) (x : Int32) (y : Int32) (z : Int32) (k : qS) (P : Nat → Int32) (S : Nat → Int32) (x4 : Int32) (x5 : Int32) (x6 : Int32) (x7 : Int32) (uc : qS) (r_4 : Int32) (f_13 : Nat → Int32) (u_14 : qS) (r_16 : Int32) (hk : CT k P u) (hQ : qFD 10 S u) (ha : f_a1 k S) (hz : 0 ≤ z ∧ z ≤ 11) (hz8 : 0 ≤ u.1 8 ∧ u.1 8 ≤ 20) (hz9 : 0 ≤ u.1 9 ∧ u.1 9 ≤ 8) (hz10 : 0 ≤ u.1 10 ∧ u.1 10 ≤ 120) (hz12 : 0 ≤ u.1 12 ∧ u.1 12 ≤ 16) (hz908 : 0 ≤ u.1 908 ∧ u.1 908 ≤ 12) (h_k : 0 ≤ x7 ∧ x7 ≤ uc.1 908) (h_G : qG k uc (t_N k P x y)) (h_s : (uc.1 908).toInt = ((k_ct (t_mb k P x y) (k.1 1247).toNatClampNeg) : Int)) (h_9 : 0 ≤ uc.1 908 ∧ uc.1 908 ≤ 12) (h_4 : 0 ≤ x4.toInt) (h_L : t_lo k (t_N k P x y) (k_ct (t_mb k P x y) (k.1 1247).toNatClampNeg) x4.toInt.toNat) (h_O : t_Os k x y (t_N k P x y) (k_ct (t_mb k P x y) (k.1 1247).toNatClampNeg) x4.toInt.toNat x7.toNatClampNeg (uc.2.1 907)) (h_5 : x5.toInt = (k_ct (k_gr (fun i j => t_bo k ((t_N k P x y) i) ((t_N k P x y) j)) (k_ct (t_mb k P x y) (k.1 1247).toNatClampNeg) x4.toInt.toNat (fun i => f_n (f_gp k x y) ((t_N k P x y) i).toNatClampNeg) x7.toNatClampNeg) x7.toNatClampNeg : Int) ∧ x5.toInt ≤ z.toInt) (h_6 : t_la k x y x7.toNatClampNeg x6) (c28_1 : ¬ (uc.1 908) ≤ (x7 : Int32)) (hw_3 : t_nb ((t_N k P x y)) ((uc.1 908 : Int32)).toNatClampNeg x6 r_4) (c42_5 : ¬ (r_4 : Int32) = (-1)) (hf_13 : f_13 = upd (uc.2.1 907) (r_4 : Int32).toNatClampNeg (vp_nar .boolean 1)) (hw_15 : t_ua (fun i j => t_bo (k) (((t_N k P x y)) i) (((t_N k P x y)) j)) (f_13) (u_14.2.1 905) ((uc.1 908 : Int32)).toNatClampNeg ∧ t_mx (u_14.2.1 905) r_16 ((uc.1 908 : Int32)).toNatClampNeg) (c73_19 : x4 ≤ (r_16 : Int32)) (c90_20 : ¬ (x5 : Int32) = z) : 0 ≤ (uc.1 908 : Int32) ∧ (uc.1 908 : Int32) ≤ 12 := by
  exact h_9
set_option maxRecDepth 100000 in
theorem g_X9_falseAt_k_v8 (u : qS) (x : Int32) (y : Int32) (z : Int32) (k : qS) (P : Nat → Int32) (S : Nat → Int32) (x4 : Int32) (x5 : Int32) (x6 : Int32) (x7 : Int32) (uc : qS) (r_4 : Int32) (f_13 : Nat → Int32) (u_14 : qS) (r_16 : Int32) (hk : CT k P u) (hQ : qFD 10 S u) (ha : f_a1 k S) (hz : 0 ≤ z ∧ z ≤ 11) (hz8 : 0 ≤ u.1 8 ∧ u.1 8 ≤ 20) (hz9 : 0 ≤ u.1 9 ∧ u.1 9 ≤ 8) (hz10 : 0 ≤ u.1 10 ∧ u.1 10 ≤ 120) (hz12 : 0 ≤ u.1 12 ∧ u.1 12 ≤ 16) (hz908 : 0 ≤ u.1 908 ∧ u.1 908 ≤ 12) (h_k : 0 ≤ x7 ∧ x7 ≤ uc.1 908) (h_G : qG k uc (t_N k P x y)) (h_s : (uc.1 908).toInt = ((k_ct (t_mb k P x y) (k.1 1247).toNatClampNeg) : Int)) (h_9 : 0 ≤ uc.1 908 ∧ uc.1 908 ≤ 12) (h_4 : 0 ≤ x4.toInt) (h_L : t_lo k (t_N k P x y) (k_ct (t_mb k P x y) (k.1 1247).toNatClampNeg) x4.toInt.toNat) (h_O : t_Os k x y (t_N k P x y) (k_ct (t_mb k P x y) (k.1 1247).toNatClampNeg) x4.toInt.toNat x7.toNatClampNeg (uc.2.1 907)) (h_5 : x5.toInt = (k_ct (k_gr (fun i j => t_bo k ((t_N k P x y) i) ((t_N k P x y) j)) (k_ct (t_mb k P x y) (k.1 1247).toNatClampNeg) x4.toInt.toNat (fun i => f_n (f_gp k x y) ((t_N k P x y) i).toNatClampNeg) x7.toNatClampNeg) x7.toNatClampNeg : Int) ∧ x5.toInt ≤ z.toInt) (h_6 : t_la k x y x7.toNatClampNeg x6) (c28_1 : ¬ (uc.1 908) ≤ (x7 : Int32)) (hw_3 : t_nb ((t_N k P x y)) ((uc.1 908 : Int32)).toNatClampNeg x6 r_4) (c42_5 : ¬ (r_4 : Int32) = (-1)) (hf_13 : f_13 = upd (uc.2.1 907) (r_4 : Int32).toNatClampNeg (vp_nar .boolean 1)) (hw_15 : t_ua (fun i j => t_bo (k) (((t_N k P x y)) i) (((t_N k P x y)) j)) (f_13) (u_14.2.1 905) ((uc.1 908 : Int32)).toNatClampNeg ∧ t_mx (u_14.2.1 905) r_16 ((uc.1 908 : Int32)).toNatClampNeg) (c73_19 : x4 ≤ (r_16 : Int32)) (c90_20 : ¬ (x5 : Int32) = z) : 0 ≤ x4.toInt := by
  exact h_4
set_option maxRecDepth 100000 in
theorem g_X9_falseAt_k_v9 (u : qS) (x : Int32) (y : Int32) (z : Int32) (k : qS) (P : Nat → Int32) (S : Nat → Int32) (x4 : Int32) (x5 : Int32) (x6 : Int32) (x7 : Int32) (uc : qS) (r_4 : Int32) (f_13 : Nat → Int32) (u_14 : qS) (r_16 : Int32) (hk : CT k P u) (hQ : qFD 10 S u) (ha : f_a1 k S) (hz : 0 ≤ z ∧ z ≤ 11) (hz8 : 0 ≤ u.1 8 ∧ u.1 8 ≤ 20) (hz9 : 0 ≤ u.1 9 ∧ u.1 9 ≤ 8) (hz10 : 0 ≤ u.1 10 ∧ u.1 10 ≤ 120) (hz12 : 0 ≤ u.1 12 ∧ u.1 12 ≤ 16) (hz908 : 0 ≤ u.1 908 ∧ u.1 908 ≤ 12) (h_k : 0 ≤ x7 ∧ x7 ≤ uc.1 908) (h_G : qG k uc (t_N k P x y)) (h_s : (uc.1 908).toInt = ((k_ct (t_mb k P x y) (k.1 1247).toNatClampNeg) : Int)) (h_9 : 0 ≤ uc.1 908 ∧ uc.1 908 ≤ 12) (h_4 : 0 ≤ x4.toInt) (h_L : t_lo k (t_N k P x y) (k_ct (t_mb k P x y) (k.1 1247).toNatClampNeg) x4.toInt.toNat) (h_O : t_Os k x y (t_N k P x y) (k_ct (t_mb k P x y) (k.1 1247).toNatClampNeg) x4.toInt.toNat x7.toNatClampNeg (uc.2.1 907)) (h_5 : x5.toInt = (k_ct (k_gr (fun i j => t_bo k ((t_N k P x y) i) ((t_N k P x y) j)) (k_ct (t_mb k P x y) (k.1 1247).toNatClampNeg) x4.toInt.toNat (fun i => f_n (f_gp k x y) ((t_N k P x y) i).toNatClampNeg) x7.toNatClampNeg) x7.toNatClampNeg : Int) ∧ x5.toInt ≤ z.toInt) (h_6 : t_la k x y x7.toNatClampNeg x6) (c28_1 : ¬ (uc.1 908) ≤ (x7 : Int32)) (hw_3 : t_nb ((t_N k P x y)) ((uc.1 908 : Int32)).toNatClampNeg x6 r_4) (c42_5 : ¬ (r_4 : Int32) = (-1)) (hf_13 : f_13 = upd (uc.2.1 907) (r_4 : Int32).toNatClampNeg (vp_nar .boolean 1)) (hw_15 : t_ua (fun i j => t_bo (k) (((t_N k P x y)) i) (((t_N k P x y)) j)) (f_13) (u_14.2.1 905) ((uc.1 908 : Int32)).toNatClampNeg ∧ t_mx (u_14.2.1 905) r_16 ((uc.1 908 : Int32)).toNatClampNeg) (c73_19 : x4 ≤ (r_16 : Int32)) (c90_20 : ¬ (x5 : Int32) = z) : t_lo k (t_N k P x y) (k_ct (t_mb k P x y) (k.1 1247).toNatClampNeg) x4.toInt.toNat := by
  exact h_L
set_option maxRecDepth 100000 in
theorem g_X9_falseAt_k_v10 (u : qS) (x : Int32) (y : Int32) (z : Int32) (k : qS) (P : Nat → Int32) (S : Nat → Int32) (x4 : Int32) (x5 : Int32) (x6 : Int32) (x7 : Int32) (uc : qS) (r_4 : Int32) (f_13 : Nat → Int32) (u_14 : qS) (r_16 : Int32) (hk : CT k P u) (hQ : qFD 10 S u) (ha : f_a1 k S) (hz : 0 ≤ z ∧ z ≤ 11) (hz8 : 0 ≤ u.1 8 ∧ u.1 8 ≤ 20) (hz9 : 0 ≤ u.1 9 ∧ u.1 9 ≤ 8) (hz10 : 0 ≤ u.1 10 ∧ u.1 10 ≤ 120) (hz12 : 0 ≤ u.1 12 ∧ u.1 12 ≤ 16) (hz908 : 0 ≤ u.1 908 ∧ u.1 908 ≤ 12) (h_k : 0 ≤ x7 ∧ x7 ≤ uc.1 908) (h_G : qG k uc (t_N k P x y)) (h_s : (uc.1 908).toInt = ((k_ct (t_mb k P x y) (k.1 1247).toNatClampNeg) : Int)) (h_9 : 0 ≤ uc.1 908 ∧ uc.1 908 ≤ 12) (h_4 : 0 ≤ x4.toInt) (h_L : t_lo k (t_N k P x y) (k_ct (t_mb k P x y) (k.1 1247).toNatClampNeg) x4.toInt.toNat) (h_O : t_Os k x y (t_N k P x y) (k_ct (t_mb k P x y) (k.1 1247).toNatClampNeg) x4.toInt.toNat x7.toNatClampNeg (uc.2.1 907)) (h_5 : x5.toInt = (k_ct (k_gr (fun i j => t_bo k ((t_N k P x y) i) ((t_N k P x y) j)) (k_ct (t_mb k P x y) (k.1 1247).toNatClampNeg) x4.toInt.toNat (fun i => f_n (f_gp k x y) ((t_N k P x y) i).toNatClampNeg) x7.toNatClampNeg) x7.toNatClampNeg : Int) ∧ x5.toInt ≤ z.toInt) (h_6 : t_la k x y x7.toNatClampNeg x6) (c28_1 : ¬ (uc.1 908) ≤ (x7 : Int32)) (hw_3 : t_nb ((t_N k P x y)) ((uc.1 908 : Int32)).toNatClampNeg x6 r_4) (c42_5 : ¬ (r_4 : Int32) = (-1)) (hf_13 : f_13 = upd (uc.2.1 907) (r_4 : Int32).toNatClampNeg (vp_nar .boolean 1)) (hw_15 : t_ua (fun i j => t_bo (k) (((t_N k P x y)) i) (((t_N k P x y)) j)) (f_13) (u_14.2.1 905) ((uc.1 908 : Int32)).toNatClampNeg ∧ t_mx (u_14.2.1 905) r_16 ((uc.1 908 : Int32)).toNatClampNeg) (c73_19 : x4 ≤ (r_16 : Int32)) (c90_20 : ¬ (x5 : Int32) = z) : t_Os k x y (t_N k P x y) (k_ct (t_mb k P x y) (k.1 1247).toNatClampNeg) x4.toInt.toNat (x7 + 1).toNatClampNeg (f_13) := by
  have hg := t_N.g hk.2.2.2.2.1 x y
  have hb := hk.2.2.2.2.2
  have e9 := t_nn h_s
  have q7 : 0 ≤ x7.toInt ∧ x7.toInt < (k_ct (t_mb k P x y) (k.1 1247).toNatClampNeg) := (by clear h_G h_L h_O h_6; (try simp only [g_m1, Int32.lt_iff_toInt_lt, Int32.le_iff_toInt_le, ← Int32.toInt_inj, Int32.reduceToInt] at *); omega)
  have c7 := g_clamp x7
  have m12 : (k_ct (t_mb k P x y) (k.1 1247).toNatClampNeg) ≤ 12 := (t_gset hb hg).1
  have e7 := (g_up (i := x7) q7.1 (by omega)).2
  have nb := (by assumption : t_nb _ _ _ _)
  rw [e9] at nb
  have nx := t_next hb hg (n := x7.toNatClampNeg) (by omega) h_6 nb
  have ua := (by assumption : t_ua _ _ _ _ ∧ t_mx _ _ _)
  rw [e9] at ua
  have kp := t_keep (p := fun i => f_n (f_gp k x y) ((t_N k P x y) i).toNatClampNeg) (T := fun r => k_gr (fun i j => t_bo k ((t_N k P x y) i) ((t_N k P x y) j)) (k_ct (t_mb k P x y) (k.1 1247).toNatClampNeg) x4.toInt.toNat (fun i => f_n (f_gp k x y) ((t_N k P x y) i).toNatClampNeg) x7.toNatClampNeg r || decide (r = x7.toNatClampNeg)) ua.1 ua.2 (t_gset hb hg).2.2.1 (h_O.try hb hg ⟨nx.1.2, nx.1.1⟩ nx.2 (by assumption) (by decide)) h_L.top
  have lb : (x4.toInt.toNat : Int) = x4.toInt := Int.toNat_of_nonneg h_4
  rw [e7]
  first
  | (have lt := Int32.lt_iff_toInt_lt.mp (by first | exact Int32.not_le.mp (by assumption : ¬ x4 ≤ _) | exact (by assumption : _ < x4))
     exact h_O.in hb hg h_L ⟨nx.1.2, nx.1.1⟩ nx.2 (by assumption) (by assumption) (by decide) (fun q => by have := kp.mpr q; omega))
  | (have ge := Int32.le_iff_toInt_le.mp (by first | exact (by assumption : x4 ≤ _) | exact Int32.not_lt.mp (by assumption : ¬ _ < x4))
     exact h_O.out hb hg ⟨nx.1.2, nx.1.1⟩ nx.2 (by assumption) (by decide) (kp.mp (by omega)))
set_option maxRecDepth 100000 in
theorem g_X9_falseAt_k_v11 (u : qS) (x : Int32) (y : Int32) (z : Int32) (k : qS) (P : Nat → Int32) (S : Nat → Int32) (x4 : Int32) (x5 : Int32) (x6 : Int32) (x7 : Int32) (uc : qS) (r_4 : Int32) (f_13 : Nat → Int32) (u_14 : qS) (r_16 : Int32) (hk : CT k P u) (hQ : qFD 10 S u) (ha : f_a1 k S) (hz : 0 ≤ z ∧ z ≤ 11) (hz8 : 0 ≤ u.1 8 ∧ u.1 8 ≤ 20) (hz9 : 0 ≤ u.1 9 ∧ u.1 9 ≤ 8) (hz10 : 0 ≤ u.1 10 ∧ u.1 10 ≤ 120) (hz12 : 0 ≤ u.1 12 ∧ u.1 12 ≤ 16) (hz908 : 0 ≤ u.1 908 ∧ u.1 908 ≤ 12) (h_k : 0 ≤ x7 ∧ x7 ≤ uc.1 908) (h_G : qG k uc (t_N k P x y)) (h_s : (uc.1 908).toInt = ((k_ct (t_mb k P x y) (k.1 1247).toNatClampNeg) : Int)) (h_9 : 0 ≤ uc.1 908 ∧ uc.1 908 ≤ 12) (h_4 : 0 ≤ x4.toInt) (h_L : t_lo k (t_N k P x y) (k_ct (t_mb k P x y) (k.1 1247).toNatClampNeg) x4.toInt.toNat) (h_O : t_Os k x y (t_N k P x y) (k_ct (t_mb k P x y) (k.1 1247).toNatClampNeg) x4.toInt.toNat x7.toNatClampNeg (uc.2.1 907)) (h_5 : x5.toInt = (k_ct (k_gr (fun i j => t_bo k ((t_N k P x y) i) ((t_N k P x y) j)) (k_ct (t_mb k P x y) (k.1 1247).toNatClampNeg) x4.toInt.toNat (fun i => f_n (f_gp k x y) ((t_N k P x y) i).toNatClampNeg) x7.toNatClampNeg) x7.toNatClampNeg : Int) ∧ x5.toInt ≤ z.toInt) (h_6 : t_la k x y x7.toNatClampNeg x6) (c28_1 : ¬ (uc.1 908) ≤ (x7 : Int32)) (hw_3 : t_nb ((t_N k P x y)) ((uc.1 908 : Int32)).toNatClampNeg x6 r_4) (c42_5 : ¬ (r_4 : Int32) = (-1)) (hf_13 : f_13 = upd (uc.2.1 907) (r_4 : Int32).toNatClampNeg (vp_nar .boolean 1)) (hw_15 : t_ua (fun i j => t_bo (k) (((t_N k P x y)) i) (((t_N k P x y)) j)) (f_13) (u_14.2.1 905) ((uc.1 908 : Int32)).toNatClampNeg ∧ t_mx (u_14.2.1 905) r_16 ((uc.1 908 : Int32)).toNatClampNeg) (c73_19 : x4 ≤ (r_16 : Int32)) (c90_20 : ¬ (x5 : Int32) = z) : (x5 + 1).toInt = (k_ct (k_gr (fun i j => t_bo k ((t_N k P x y) i) ((t_N k P x y) j)) (k_ct (t_mb k P x y) (k.1 1247).toNatClampNeg) x4.toInt.toNat (fun i => f_n (f_gp k x y) ((t_N k P x y) i).toNatClampNeg) (x7 + 1).toNatClampNeg) (x7 + 1).toNatClampNeg : Int) ∧ (x5 + 1).toInt ≤ z.toInt := by
  have hg := t_N.g hk.2.2.2.2.1 x y
  have hb := hk.2.2.2.2.2
  have e9 := t_nn h_s
  have q7 : 0 ≤ x7.toInt ∧ x7.toInt < (k_ct (t_mb k P x y) (k.1 1247).toNatClampNeg) := (by clear h_G h_L h_O h_6; (try simp only [g_m1, Int32.lt_iff_toInt_lt, Int32.le_iff_toInt_le, ← Int32.toInt_inj, Int32.reduceToInt] at *); omega)
  have c7 := g_clamp x7
  have m12 : (k_ct (t_mb k P x y) (k.1 1247).toNatClampNeg) ≤ 12 := (t_gset hb hg).1
  have e7 := (g_up (i := x7) q7.1 (by omega)).2
  have nb := (by assumption : t_nb _ _ _ _)
  rw [e9] at nb
  have nx := t_next hb hg (n := x7.toNatClampNeg) (by omega) h_6 nb
  have ua := (by assumption : t_ua _ _ _ _ ∧ t_mx _ _ _)
  rw [e9] at ua
  have kp := t_keep (p := fun i => f_n (f_gp k x y) ((t_N k P x y) i).toNatClampNeg) (T := fun r => k_gr (fun i j => t_bo k ((t_N k P x y) i) ((t_N k P x y) j)) (k_ct (t_mb k P x y) (k.1 1247).toNatClampNeg) x4.toInt.toNat (fun i => f_n (f_gp k x y) ((t_N k P x y) i).toNatClampNeg) x7.toNatClampNeg r || decide (r = x7.toNatClampNeg)) ua.1 ua.2 (t_gset hb hg).2.2.1 (h_O.try hb hg ⟨nx.1.2, nx.1.1⟩ nx.2 (by assumption) (by decide)) h_L.top
  have lb : (x4.toInt.toNat : Int) = x4.toInt := Int.toNat_of_nonneg h_4
  have gF := t_gF hb hg h_L
  have cg : ∀ a, a ≤ x7.toNatClampNeg → k_ct (k_gr (fun i j => t_bo k ((t_N k P x y) i) ((t_N k P x y) j)) (k_ct (t_mb k P x y) (k.1 1247).toNatClampNeg) x4.toInt.toNat (fun i => f_n (f_gp k x y) ((t_N k P x y) i).toNatClampNeg) (x7.toNatClampNeg + 1)) a = k_ct (k_gr (fun i j => t_bo k ((t_N k P x y) i) ((t_N k P x y) j)) (k_ct (t_mb k P x y) (k.1 1247).toNatClampNeg) x4.toInt.toNat (fun i => f_n (f_gp k x y) ((t_N k P x y) i).toNatClampNeg) x7.toNatClampNeg) a := fun a ha => k_ct_cg a (fun i hi => by rw [gF _ (by omega), gF _ (by omega), decide_eq_true (by omega : i < x7.toNatClampNeg + 1), decide_eq_true (by omega : i < x7.toNatClampNeg)])
  rw [e7]
  first
  | (have lt := Int32.lt_iff_toInt_lt.mp (by first | exact Int32.not_le.mp (by assumption : ¬ x4 ≤ _) | exact (by assumption : _ < x4))
     have gn : k_gr (fun i j => t_bo k ((t_N k P x y) i) ((t_N k P x y) j)) (k_ct (t_mb k P x y) (k.1 1247).toNatClampNeg) x4.toInt.toNat (fun i => f_n (f_gp k x y) ((t_N k P x y) i).toNatClampNeg) (x7.toNatClampNeg + 1) x7.toNatClampNeg = false := (by rw [t_gr0 (fun q => by have := kp.mpr q; omega), gF _ (by omega), decide_eq_false (Nat.lt_irrefl _)]; rfl)
     rw [k_ct_f gn, cg _ (Nat.le_refl _)]; exact h_5)
  | (have ge := Int32.le_iff_toInt_le.mp (by first | exact (by assumption : x4 ≤ _) | exact Int32.not_lt.mp (by assumption : ¬ _ < x4))
     have gn : k_gr (fun i j => t_bo k ((t_N k P x y) i) ((t_N k P x y) j)) (k_ct (t_mb k P x y) (k.1 1247).toNatClampNeg) x4.toInt.toNat (fun i => f_n (f_gp k x y) ((t_N k P x y) i).toNatClampNeg) (x7.toNatClampNeg + 1) x7.toNatClampNeg = true := (by rw [t_gr1 (kp.mp (by omega))]; show (_ || decide (x7.toNatClampNeg = x7.toNatClampNeg)) = true; rw [decide_eq_true rfl, Bool.or_true])
     have m7 : k_ct (k_gr (fun i j => t_bo k ((t_N k P x y) i) ((t_N k P x y) j)) (k_ct (t_mb k P x y) (k.1 1247).toNatClampNeg) x4.toInt.toNat (fun i => f_n (f_gp k x y) ((t_N k P x y) i).toNatClampNeg) x7.toNatClampNeg) x7.toNatClampNeg ≤ x7.toNatClampNeg := k_ct_m _
     rw [k_ct_t gn, cg _ (Nat.le_refl _)]
     have ne : x5.toInt ≠ z.toInt := fun q => absurd (Int32.toInt_inj.mp q) (by assumption)
     rw [(g_up (i := x5) (by omega) (by omega)).1]; omega)
set_option maxRecDepth 100000 in
theorem g_X9_falseAt_k_v12 (u : qS) (x : Int32) (y : Int32) (z : Int32) (k : qS) (P : Nat → Int32) (S : Nat → Int32) (x4 : Int32) (x5 : Int32) (x6 : Int32) (x7 : Int32) (uc : qS) (r_4 : Int32) (f_13 : Nat → Int32) (u_14 : qS) (r_16 : Int32) (hk : CT k P u) (hQ : qFD 10 S u) (ha : f_a1 k S) (hz : 0 ≤ z ∧ z ≤ 11) (hz8 : 0 ≤ u.1 8 ∧ u.1 8 ≤ 20) (hz9 : 0 ≤ u.1 9 ∧ u.1 9 ≤ 8) (hz10 : 0 ≤ u.1 10 ∧ u.1 10 ≤ 120) (hz12 : 0 ≤ u.1 12 ∧ u.1 12 ≤ 16) (hz908 : 0 ≤ u.1 908 ∧ u.1 908 ≤ 12) (h_k : 0 ≤ x7 ∧ x7 ≤ uc.1 908) (h_G : qG k uc (t_N k P x y)) (h_s : (uc.1 908).toInt = ((k_ct (t_mb k P x y) (k.1 1247).toNatClampNeg) : Int)) (h_9 : 0 ≤ uc.1 908 ∧ uc.1 908 ≤ 12) (h_4 : 0 ≤ x4.toInt) (h_L : t_lo k (t_N k P x y) (k_ct (t_mb k P x y) (k.1 1247).toNatClampNeg) x4.toInt.toNat) (h_O : t_Os k x y (t_N k P x y) (k_ct (t_mb k P x y) (k.1 1247).toNatClampNeg) x4.toInt.toNat x7.toNatClampNeg (uc.2.1 907)) (h_5 : x5.toInt = (k_ct (k_gr (fun i j => t_bo k ((t_N k P x y) i) ((t_N k P x y) j)) (k_ct (t_mb k P x y) (k.1 1247).toNatClampNeg) x4.toInt.toNat (fun i => f_n (f_gp k x y) ((t_N k P x y) i).toNatClampNeg) x7.toNatClampNeg) x7.toNatClampNeg : Int) ∧ x5.toInt ≤ z.toInt) (h_6 : t_la k x y x7.toNatClampNeg x6) (c28_1 : ¬ (uc.1 908) ≤ (x7 : Int32)) (hw_3 : t_nb ((t_N k P x y)) ((uc.1 908 : Int32)).toNatClampNeg x6 r_4) (c42_5 : ¬ (r_4 : Int32) = (-1)) (hf_13 : f_13 = upd (uc.2.1 907) (r_4 : Int32).toNatClampNeg (vp_nar .boolean 1)) (hw_15 : t_ua (fun i j => t_bo (k) (((t_N k P x y)) i) (((t_N k P x y)) j)) (f_13) (u_14.2.1 905) ((uc.1 908 : Int32)).toNatClampNeg ∧ t_mx (u_14.2.1 905) r_16 ((uc.1 908 : Int32)).toNatClampNeg) (c73_19 : x4 ≤ (r_16 : Int32)) (c90_20 : ¬ (x5 : Int32) = z) : t_la k x y (x7 + 1).toNatClampNeg ((t_N k P x y) (r_4 : Int32).toNatClampNeg) := by
  have hg := t_N.g hk.2.2.2.2.1 x y
  have hb := hk.2.2.2.2.2
  have e9 := t_nn h_s
  have q7 : 0 ≤ x7.toInt ∧ x7.toInt < (k_ct (t_mb k P x y) (k.1 1247).toNatClampNeg) := (by clear h_G h_L h_O h_6; (try simp only [g_m1, Int32.lt_iff_toInt_lt, Int32.le_iff_toInt_le, ← Int32.toInt_inj, Int32.reduceToInt] at *); omega)
  have c7 := g_clamp x7
  have m12 : (k_ct (t_mb k P x y) (k.1 1247).toNatClampNeg) ≤ 12 := (t_gset hb hg).1
  have e7 := (g_up (i := x7) q7.1 (by omega)).2
  have nb := (by assumption : t_nb _ _ _ _)
  rw [e9] at nb
  have nx := t_next hb hg (n := x7.toNatClampNeg) (by omega) h_6 nb
  rw [e7]
  exact t_la.s hg nx
set_option maxRecDepth 100000 in
theorem g_X9_falseAt_k_v13 (u : qS) (x : Int32) (y : Int32) (z : Int32) (k : qS) (P : Nat → Int32) (S : Nat → Int32) (x4 : Int32) (x5 : Int32) (x6 : Int32) (x7 : Int32) (uc : qS) (r_4 : Int32) (f_13 : Nat → Int32) (u_14 : qS) (r_16 : Int32) (hk : CT k P u) (hQ : qFD 10 S u) (ha : f_a1 k S) (hz : 0 ≤ z ∧ z ≤ 11) (hz8 : 0 ≤ u.1 8 ∧ u.1 8 ≤ 20) (hz9 : 0 ≤ u.1 9 ∧ u.1 9 ≤ 8) (hz10 : 0 ≤ u.1 10 ∧ u.1 10 ≤ 120) (hz12 : 0 ≤ u.1 12 ∧ u.1 12 ≤ 16) (hz908 : 0 ≤ u.1 908 ∧ u.1 908 ≤ 12) (h_k : 0 ≤ x7 ∧ x7 ≤ uc.1 908) (h_G : qG k uc (t_N k P x y)) (h_s : (uc.1 908).toInt = ((k_ct (t_mb k P x y) (k.1 1247).toNatClampNeg) : Int)) (h_9 : 0 ≤ uc.1 908 ∧ uc.1 908 ≤ 12) (h_4 : 0 ≤ x4.toInt) (h_L : t_lo k (t_N k P x y) (k_ct (t_mb k P x y) (k.1 1247).toNatClampNeg) x4.toInt.toNat) (h_O : t_Os k x y (t_N k P x y) (k_ct (t_mb k P x y) (k.1 1247).toNatClampNeg) x4.toInt.toNat x7.toNatClampNeg (uc.2.1 907)) (h_5 : x5.toInt = (k_ct (k_gr (fun i j => t_bo k ((t_N k P x y) i) ((t_N k P x y) j)) (k_ct (t_mb k P x y) (k.1 1247).toNatClampNeg) x4.toInt.toNat (fun i => f_n (f_gp k x y) ((t_N k P x y) i).toNatClampNeg) x7.toNatClampNeg) x7.toNatClampNeg : Int) ∧ x5.toInt ≤ z.toInt) (h_6 : t_la k x y x7.toNatClampNeg x6) (c28_1 : ¬ (uc.1 908) ≤ (x7 : Int32)) (hw_3 : t_nb ((t_N k P x y)) ((uc.1 908 : Int32)).toNatClampNeg x6 r_4) (c42_5 : ¬ (r_4 : Int32) = (-1)) (hf_13 : f_13 = upd (uc.2.1 907) (r_4 : Int32).toNatClampNeg (vp_nar .boolean 1)) (hw_15 : t_ua (fun i j => t_bo (k) (((t_N k P x y)) i) (((t_N k P x y)) j)) (f_13) (u_14.2.1 905) ((uc.1 908 : Int32)).toNatClampNeg ∧ t_mx (u_14.2.1 905) r_16 ((uc.1 908 : Int32)).toNatClampNeg) (c73_19 : x4 ≤ (r_16 : Int32)) (c90_20 : ¬ (x5 : Int32) = z) : (((uc.1 908 : Int32)).toInt - (x7 + 1).toInt).toNat < ((uc.1 908).toInt - x7.toInt).toNat := by
  clear h_G h_L h_O h_6 hz; (try simp only [g_m1, Int32.lt_iff_toInt_lt, Int32.le_iff_toInt_le, ← Int32.toInt_inj, Int32.toInt_add, Int32.toInt_sub, Int32.toInt_mul, Int32.toInt_neg, Int32.reduceToInt, g_bm, g_bm'] at *); omega
set_option maxRecDepth 100000 in
theorem g_X9_falseAt_k_v14 (u : qS) (x : Int32) (y : Int32) (z : Int32) (k : qS) (P : Nat → Int32) (S : Nat → Int32) (x4 : Int32) (x5 : Int32) (x6 : Int32) (x7 : Int32) (uc : qS) (r_4 : Int32) (f_13 : Nat → Int32) (u_14 : qS) (r_16 : Int32) (hk : CT k P u) (hQ : qFD 10 S u) (ha : f_a1 k S) (hz : 0 ≤ z ∧ z ≤ 11) (hz8 : 0 ≤ u.1 8 ∧ u.1 8 ≤ 20) (hz9 : 0 ≤ u.1 9 ∧ u.1 9 ≤ 8) (hz10 : 0 ≤ u.1 10 ∧ u.1 10 ≤ 120) (hz12 : 0 ≤ u.1 12 ∧ u.1 12 ≤ 16) (hz908 : 0 ≤ u.1 908 ∧ u.1 908 ≤ 12) (h_k : 0 ≤ x7 ∧ x7 ≤ uc.1 908) (h_G : qG k uc (t_N k P x y)) (h_s : (uc.1 908).toInt = ((k_ct (t_mb k P x y) (k.1 1247).toNatClampNeg) : Int)) (h_9 : 0 ≤ uc.1 908 ∧ uc.1 908 ≤ 12) (h_4 : 0 ≤ x4.toInt) (h_L : t_lo k (t_N k P x y) (k_ct (t_mb k P x y) (k.1 1247).toNatClampNeg) x4.toInt.toNat) (h_O : t_Os k x y (t_N k P x y) (k_ct (t_mb k P x y) (k.1 1247).toNatClampNeg) x4.toInt.toNat x7.toNatClampNeg (uc.2.1 907)) (h_5 : x5.toInt = (k_ct (k_gr (fun i j => t_bo k ((t_N k P x y) i) ((t_N k P x y) j)) (k_ct (t_mb k P x y) (k.1 1247).toNatClampNeg) x4.toInt.toNat (fun i => f_n (f_gp k x y) ((t_N k P x y) i).toNatClampNeg) x7.toNatClampNeg) x7.toNatClampNeg : Int) ∧ x5.toInt ≤ z.toInt) (h_6 : t_la k x y x7.toNatClampNeg x6) (c28_1 : ¬ (uc.1 908) ≤ (x7 : Int32)) (hw_3 : t_nb ((t_N k P x y)) ((uc.1 908 : Int32)).toNatClampNeg x6 r_4) (c42_5 : ¬ (r_4 : Int32) = (-1)) (hf_13 : f_13 = upd (uc.2.1 907) (r_4 : Int32).toNatClampNeg (vp_nar .boolean 1)) (hw_15 : t_ua (fun i j => t_bo (k) (((t_N k P x y)) i) (((t_N k P x y)) j)) (f_13) (u_14.2.1 905) ((uc.1 908 : Int32)).toNatClampNeg ∧ t_mx (u_14.2.1 905) r_16 ((uc.1 908 : Int32)).toNatClampNeg) (c73_19 : x4 ≤ (r_16 : Int32)) (c90_20 : (x5 : Int32) = z) : k_nth (s_b (f_fz k x y)) (f_n (f_gp k x y) (k.1 1247).toNatClampNeg) z.toNatClampNeg (f_V k x y) ((t_N k P x y) (r_4 : Int32).toNatClampNeg : Int32) := by
  have hg := t_N.g hk.2.2.2.2.1 x y
  have hb := hk.2.2.2.2.2
  have e9 := t_nn h_s
  have mn := t_mb.n hk.2.2.2.2.1 x y
  have gF := t_gF hb hg h_L
  have z0 : 0 ≤ z.toInt := Int32.le_iff_toInt_le.mp hz.1
  have cz := g_clamp z
  have c7 := g_clamp x7
  rw [← mn]
  first
  | (have q7 : 0 ≤ x7.toInt ∧ x7.toInt < (k_ct (t_mb k P x y) (k.1 1247).toNatClampNeg) := (by clear h_G h_L h_O h_6; (try simp only [g_m1, Int32.lt_iff_toInt_lt, Int32.le_iff_toInt_le, ← Int32.toInt_inj, Int32.reduceToInt] at *); omega)
     have c7 := g_clamp x7
     have m12 : (k_ct (t_mb k P x y) (k.1 1247).toNatClampNeg) ≤ 12 := (t_gset hb hg).1
     have e7 := (g_up (i := x7) q7.1 (by omega)).2
     have nb := (by assumption : t_nb _ _ _ _)
     rw [e9] at nb
     have nx := t_next hb hg (n := x7.toNatClampNeg) (by omega) h_6 nb
     have ua := (by assumption : t_ua _ _ _ _ ∧ t_mx _ _ _)
     rw [e9] at ua
     have kp := t_keep (p := fun i => f_n (f_gp k x y) ((t_N k P x y) i).toNatClampNeg) (T := fun r => k_gr (fun i j => t_bo k ((t_N k P x y) i) ((t_N k P x y) j)) (k_ct (t_mb k P x y) (k.1 1247).toNatClampNeg) x4.toInt.toNat (fun i => f_n (f_gp k x y) ((t_N k P x y) i).toNatClampNeg) x7.toNatClampNeg r || decide (r = x7.toNatClampNeg)) ua.1 ua.2 (t_gset hb hg).2.2.1 (h_O.try hb hg ⟨nx.1.2, nx.1.1⟩ nx.2 (by assumption) (by decide)) h_L.top
     have lb : (x4.toInt.toNat : Int) = x4.toInt := Int.toNat_of_nonneg h_4
     exact t_fin1 hb hg h_L (kp.mp (by have ge := Int32.le_iff_toInt_le.mp (by first | exact (by assumption : x4 ≤ _) | exact Int32.not_lt.mp (by assumption : ¬ _ < x4)); omega)) (by omega) nx (by have e5 : x5 = z := (by assumption); have h5 := h_5.1; rw [e5] at h5; omega))
  | (have q7 : 0 ≤ x7.toInt ∧ x7.toInt < (k_ct (t_mb k P x y) (k.1 1247).toNatClampNeg) := (by clear h_G h_L h_O h_6; (try simp only [g_m1, Int32.lt_iff_toInt_lt, Int32.le_iff_toInt_le, ← Int32.toInt_inj, Int32.reduceToInt] at *); omega)
     have c7 := g_clamp x7
     have m12 : (k_ct (t_mb k P x y) (k.1 1247).toNatClampNeg) ≤ 12 := (t_gset hb hg).1
     have e7 := (g_up (i := x7) q7.1 (by omega)).2
     have nb := (by assumption : t_nb _ _ _ _)
     rw [e9] at nb
     have nx := t_next hb hg (n := x7.toNatClampNeg) (by omega) h_6 nb
     exfalso; have r1 := (by assumption : _ = (-1 : Int32)); have n1 := nx.1; rw [r1] at n1; exact absurd n1.1 (by decide))
  | (have e : x7 = uc.1 908 := Int32.toInt_inj.mp (by clear h_G h_L h_O h_6; (try simp only [g_m1, Int32.lt_iff_toInt_lt, Int32.le_iff_toInt_le, ← Int32.toInt_inj, Int32.reduceToInt] at *); omega)
     rw [e, e9] at h_5
     refine Or.inr ⟨?_, rfl⟩
     have ce : k_ct (s_b (f_fz k x y)) (k_ct (t_mb k P x y) (k.1 1247).toNatClampNeg) = k_ct (k_gr (fun i j => t_bo k ((t_N k P x y) i) ((t_N k P x y) j)) (k_ct (t_mb k P x y) (k.1 1247).toNatClampNeg) x4.toInt.toNat (fun i => f_n (f_gp k x y) ((t_N k P x y) i).toNatClampNeg) (k_ct (t_mb k P x y) (k.1 1247).toNatClampNeg)) (k_ct (t_mb k P x y) (k.1 1247).toNatClampNeg) := k_ct_cg _ (fun i hi => by rw [gF _ (Nat.le_refl _), decide_eq_true hi]; rfl)
     rw [ce]; omega)
set_option maxRecDepth 100000 in
theorem g_X9_falseAt_k_v15 (u : qS) (x : Int32) (y : Int32) (z : Int32) (k : qS) (P : Nat → Int32) (S : Nat → Int32) (x4 : Int32) (x5 : Int32) (x6 : Int32) (x7 : Int32) (uc : qS) (r_4 : Int32) (f_13 : Nat → Int32) (u_14 : qS) (r_16 : Int32) (hk : CT k P u) (hQ : qFD 10 S u) (ha : f_a1 k S) (hz : 0 ≤ z ∧ z ≤ 11) (hz8 : 0 ≤ u.1 8 ∧ u.1 8 ≤ 20) (hz9 : 0 ≤ u.1 9 ∧ u.1 9 ≤ 8) (hz10 : 0 ≤ u.1 10 ∧ u.1 10 ≤ 120) (hz12 : 0 ≤ u.1 12 ∧ u.1 12 ≤ 16) (hz908 : 0 ≤ u.1 908 ∧ u.1 908 ≤ 12) (h_k : 0 ≤ x7 ∧ x7 ≤ uc.1 908) (h_G : qG k uc (t_N k P x y)) (h_s : (uc.1 908).toInt = ((k_ct (t_mb k P x y) (k.1 1247).toNatClampNeg) : Int)) (h_9 : 0 ≤ uc.1 908 ∧ uc.1 908 ≤ 12) (h_4 : 0 ≤ x4.toInt) (h_L : t_lo k (t_N k P x y) (k_ct (t_mb k P x y) (k.1 1247).toNatClampNeg) x4.toInt.toNat) (h_O : t_Os k x y (t_N k P x y) (k_ct (t_mb k P x y) (k.1 1247).toNatClampNeg) x4.toInt.toNat x7.toNatClampNeg (uc.2.1 907)) (h_5 : x5.toInt = (k_ct (k_gr (fun i j => t_bo k ((t_N k P x y) i) ((t_N k P x y) j)) (k_ct (t_mb k P x y) (k.1 1247).toNatClampNeg) x4.toInt.toNat (fun i => f_n (f_gp k x y) ((t_N k P x y) i).toNatClampNeg) x7.toNatClampNeg) x7.toNatClampNeg : Int) ∧ x5.toInt ≤ z.toInt) (h_6 : t_la k x y x7.toNatClampNeg x6) (c28_1 : ¬ (uc.1 908) ≤ (x7 : Int32)) (hw_3 : t_nb ((t_N k P x y)) ((uc.1 908 : Int32)).toNatClampNeg x6 r_4) (c42_5 : ¬ (r_4 : Int32) = (-1)) (hf_13 : f_13 = upd (uc.2.1 907) (r_4 : Int32).toNatClampNeg (vp_nar .boolean 1)) (hw_15 : t_ua (fun i j => t_bo (k) (((t_N k P x y)) i) (((t_N k P x y)) j)) (f_13) (u_14.2.1 905) ((uc.1 908 : Int32)).toNatClampNeg ∧ t_mx (u_14.2.1 905) r_16 ((uc.1 908 : Int32)).toNatClampNeg) (c73_19 : ¬ x4 ≤ (r_16 : Int32)) : vp_in (r_4) 12 := by
  have hg := t_N.g hk.2.2.2.2.1 x y
  have hb := hk.2.2.2.2.2
  have e9 := t_nn h_s
  have q7 : 0 ≤ x7.toInt ∧ x7.toInt < (k_ct (t_mb k P x y) (k.1 1247).toNatClampNeg) := (by clear h_G h_L h_O h_6; (try simp only [g_m1, Int32.lt_iff_toInt_lt, Int32.le_iff_toInt_le, ← Int32.toInt_inj, Int32.reduceToInt] at *); omega)
  have c7 := g_clamp x7
  have m12 : (k_ct (t_mb k P x y) (k.1 1247).toNatClampNeg) ≤ 12 := (t_gset hb hg).1
  have e7 := (g_up (i := x7) q7.1 (by omega)).2
  have nb := (by assumption : t_nb _ _ _ _)
  rw [e9] at nb
  have nx := t_next hb hg (n := x7.toNatClampNeg) (by omega) h_6 nb
  have n1 := nx.1; clear h_G h_L h_O h_6 nb nx; refine g_in ?_ ?_ <;> ((try simp only [g_m1, Int32.lt_iff_toInt_lt, Int32.le_iff_toInt_le, ← Int32.toInt_inj, Int32.reduceToInt] at *); omega)
set_option maxRecDepth 100000 in
theorem g_X9_falseAt_k_v16 (u : qS) (x : Int32) (y : Int32) (z : Int32) (k : qS) (P : Nat → Int32) (S : Nat → Int32) (x4 : Int32) (x5 : Int32) (x6 : Int32) (x7 : Int32) (uc : qS) (r_4 : Int32) (f_13 : Nat → Int32) (u_14 : qS) (r_16 : Int32) (f_21 : Nat → Int32) (hk : CT k P u) (hQ : qFD 10 S u) (ha : f_a1 k S) (hz : 0 ≤ z ∧ z ≤ 11) (hz8 : 0 ≤ u.1 8 ∧ u.1 8 ≤ 20) (hz9 : 0 ≤ u.1 9 ∧ u.1 9 ≤ 8) (hz10 : 0 ≤ u.1 10 ∧ u.1 10 ≤ 120) (hz12 : 0 ≤ u.1 12 ∧ u.1 12 ≤ 16) (hz908 : 0 ≤ u.1 908 ∧ u.1 908 ≤ 12) (h_k : 0 ≤ x7 ∧ x7 ≤ uc.1 908) (h_G : qG k uc (t_N k P x y)) (h_s : (uc.1 908).toInt = ((k_ct (t_mb k P x y) (k.1 1247).toNatClampNeg) : Int)) (h_9 : 0 ≤ uc.1 908 ∧ uc.1 908 ≤ 12) (h_4 : 0 ≤ x4.toInt) (h_L : t_lo k (t_N k P x y) (k_ct (t_mb k P x y) (k.1 1247).toNatClampNeg) x4.toInt.toNat) (h_O : t_Os k x y (t_N k P x y) (k_ct (t_mb k P x y) (k.1 1247).toNatClampNeg) x4.toInt.toNat x7.toNatClampNeg (uc.2.1 907)) (h_5 : x5.toInt = (k_ct (k_gr (fun i j => t_bo k ((t_N k P x y) i) ((t_N k P x y) j)) (k_ct (t_mb k P x y) (k.1 1247).toNatClampNeg) x4.toInt.toNat (fun i => f_n (f_gp k x y) ((t_N k P x y) i).toNatClampNeg) x7.toNatClampNeg) x7.toNatClampNeg : Int) ∧ x5.toInt ≤ z.toInt) (h_6 : t_la k x y x7.toNatClampNeg x6) (c28_1 : ¬ (uc.1 908) ≤ (x7 : Int32)) (hw_3 : t_nb ((t_N k P x y)) ((uc.1 908 : Int32)).toNatClampNeg x6 r_4) (c42_5 : ¬ (r_4 : Int32) = (-1)) (hf_13 : f_13 = upd (uc.2.1 907) (r_4 : Int32).toNatClampNeg (vp_nar .boolean 1)) (hw_15 : t_ua (fun i j => t_bo (k) (((t_N k P x y)) i) (((t_N k P x y)) j)) (f_13) (u_14.2.1 905) ((uc.1 908 : Int32)).toNatClampNeg ∧ t_mx (u_14.2.1 905) r_16 ((uc.1 908 : Int32)).toNatClampNeg) (c73_19 : ¬ x4 ≤ (r_16 : Int32)) (hf_21 : f_21 = upd (f_13) (r_4 : Int32).toNatClampNeg (vp_nar .boolean 0)) : 0 ≤ (x7 + 1) ∧ (x7 + 1) ≤ (uc.1 908 : Int32) := by
  clear h_G h_L h_O h_6 hz; (try simp only [g_m1, Int32.lt_iff_toInt_lt, Int32.le_iff_toInt_le, ← Int32.toInt_inj, Int32.toInt_add, Int32.toInt_sub, Int32.toInt_mul, Int32.toInt_neg, Int32.reduceToInt, g_bm, g_bm'] at *); omega
set_option maxRecDepth 100000 in
theorem g_X9_falseAt_k_v17 (u : qS) (x : Int32) (y : Int32) (z : Int32) (k : qS) (P : Nat → Int32) (S : Nat → Int32) (x4 : Int32) (x5 : Int32) (x6 : Int32) (x7 : Int32) (uc : qS) (r_4 : Int32) (f_13 : Nat → Int32) (u_14 : qS) (r_16 : Int32) (f_21 : Nat → Int32) (hk : CT k P u) (hQ : qFD 10 S u) (ha : f_a1 k S) (hz : 0 ≤ z ∧ z ≤ 11) (hz8 : 0 ≤ u.1 8 ∧ u.1 8 ≤ 20) (hz9 : 0 ≤ u.1 9 ∧ u.1 9 ≤ 8) (hz10 : 0 ≤ u.1 10 ∧ u.1 10 ≤ 120) (hz12 : 0 ≤ u.1 12 ∧ u.1 12 ≤ 16) (hz908 : 0 ≤ u.1 908 ∧ u.1 908 ≤ 12) (h_k : 0 ≤ x7 ∧ x7 ≤ uc.1 908) (h_G : qG k uc (t_N k P x y)) (h_s : (uc.1 908).toInt = ((k_ct (t_mb k P x y) (k.1 1247).toNatClampNeg) : Int)) (h_9 : 0 ≤ uc.1 908 ∧ uc.1 908 ≤ 12) (h_4 : 0 ≤ x4.toInt) (h_L : t_lo k (t_N k P x y) (k_ct (t_mb k P x y) (k.1 1247).toNatClampNeg) x4.toInt.toNat) (h_O : t_Os k x y (t_N k P x y) (k_ct (t_mb k P x y) (k.1 1247).toNatClampNeg) x4.toInt.toNat x7.toNatClampNeg (uc.2.1 907)) (h_5 : x5.toInt = (k_ct (k_gr (fun i j => t_bo k ((t_N k P x y) i) ((t_N k P x y) j)) (k_ct (t_mb k P x y) (k.1 1247).toNatClampNeg) x4.toInt.toNat (fun i => f_n (f_gp k x y) ((t_N k P x y) i).toNatClampNeg) x7.toNatClampNeg) x7.toNatClampNeg : Int) ∧ x5.toInt ≤ z.toInt) (h_6 : t_la k x y x7.toNatClampNeg x6) (c28_1 : ¬ (uc.1 908) ≤ (x7 : Int32)) (hw_3 : t_nb ((t_N k P x y)) ((uc.1 908 : Int32)).toNatClampNeg x6 r_4) (c42_5 : ¬ (r_4 : Int32) = (-1)) (hf_13 : f_13 = upd (uc.2.1 907) (r_4 : Int32).toNatClampNeg (vp_nar .boolean 1)) (hw_15 : t_ua (fun i j => t_bo (k) (((t_N k P x y)) i) (((t_N k P x y)) j)) (f_13) (u_14.2.1 905) ((uc.1 908 : Int32)).toNatClampNeg ∧ t_mx (u_14.2.1 905) r_16 ((uc.1 908 : Int32)).toNatClampNeg) (c73_19 : ¬ x4 ≤ (r_16 : Int32)) (hf_21 : f_21 = upd (f_13) (r_4 : Int32).toNatClampNeg (vp_nar .boolean 0)) : ((uc.1 908 : Int32)).toInt = ((k_ct (t_mb k P x y) (k.1 1247).toNatClampNeg) : Int) := by
  exact h_s
set_option maxRecDepth 100000 in
theorem g_X9_falseAt_k_v18 (u : qS) (x : Int32) (y : Int32) (z : Int32) (k : qS) (P : Nat → Int32) (S : Nat → Int32) (x4 : Int32) (x5 : Int32) (x6 : Int32) (x7 : Int32) (uc : qS) (r_4 : Int32) (f_13 : Nat → Int32) (u_14 : qS) (r_16 : Int32) (f_21 : Nat → Int32) (hk : CT k P u) (hQ : qFD 10 S u) (ha : f_a1 k S) (hz : 0 ≤ z ∧ z ≤ 11) (hz8 : 0 ≤ u.1 8 ∧ u.1 8 ≤ 20) (hz9 : 0 ≤ u.1 9 ∧ u.1 9 ≤ 8) (hz10 : 0 ≤ u.1 10 ∧ u.1 10 ≤ 120) (hz12 : 0 ≤ u.1 12 ∧ u.1 12 ≤ 16) (hz908 : 0 ≤ u.1 908 ∧ u.1 908 ≤ 12) (h_k : 0 ≤ x7 ∧ x7 ≤ uc.1 908) (h_G : qG k uc (t_N k P x y)) (h_s : (uc.1 908).toInt = ((k_ct (t_mb k P x y) (k.1 1247).toNatClampNeg) : Int)) (h_9 : 0 ≤ uc.1 908 ∧ uc.1 908 ≤ 12) (h_4 : 0 ≤ x4.toInt) (h_L : t_lo k (t_N k P x y) (k_ct (t_mb k P x y) (k.1 1247).toNatClampNeg) x4.toInt.toNat) (h_O : t_Os k x y (t_N k P x y) (k_ct (t_mb k P x y) (k.1 1247).toNatClampNeg) x4.toInt.toNat x7.toNatClampNeg (uc.2.1 907)) (h_5 : x5.toInt = (k_ct (k_gr (fun i j => t_bo k ((t_N k P x y) i) ((t_N k P x y) j)) (k_ct (t_mb k P x y) (k.1 1247).toNatClampNeg) x4.toInt.toNat (fun i => f_n (f_gp k x y) ((t_N k P x y) i).toNatClampNeg) x7.toNatClampNeg) x7.toNatClampNeg : Int) ∧ x5.toInt ≤ z.toInt) (h_6 : t_la k x y x7.toNatClampNeg x6) (c28_1 : ¬ (uc.1 908) ≤ (x7 : Int32)) (hw_3 : t_nb ((t_N k P x y)) ((uc.1 908 : Int32)).toNatClampNeg x6 r_4) (c42_5 : ¬ (r_4 : Int32) = (-1)) (hf_13 : f_13 = upd (uc.2.1 907) (r_4 : Int32).toNatClampNeg (vp_nar .boolean 1)) (hw_15 : t_ua (fun i j => t_bo (k) (((t_N k P x y)) i) (((t_N k P x y)) j)) (f_13) (u_14.2.1 905) ((uc.1 908 : Int32)).toNatClampNeg ∧ t_mx (u_14.2.1 905) r_16 ((uc.1 908 : Int32)).toNatClampNeg) (c73_19 : ¬ x4 ≤ (r_16 : Int32)) (hf_21 : f_21 = upd (f_13) (r_4 : Int32).toNatClampNeg (vp_nar .boolean 0)) : 0 ≤ (uc.1 908 : Int32) ∧ (uc.1 908 : Int32) ≤ 12 := by
  exact h_9
set_option maxRecDepth 100000 in
theorem g_X9_falseAt_k_v19 (u : qS) (x : Int32) (y : Int32) (z : Int32) (k : qS) (P : Nat → Int32) (S : Nat → Int32) (x4 : Int32) (x5 : Int32) (x6 : Int32) (x7 : Int32) (uc : qS) (r_4 : Int32) (f_13 : Nat → Int32) (u_14 : qS) (r_16 : Int32) (f_21 : Nat → Int32) (hk : CT k P u) (hQ : qFD 10 S u) (ha : f_a1 k S) (hz : 0 ≤ z ∧ z ≤ 11) (hz8 : 0 ≤ u.1 8 ∧ u.1 8 ≤ 20) (hz9 : 0 ≤ u.1 9 ∧ u.1 9 ≤ 8) (hz10 : 0 ≤ u.1 10 ∧ u.1 10 ≤ 120) (hz12 : 0 ≤ u.1 12 ∧ u.1 12 ≤ 16) (hz908 : 0 ≤ u.1 908 ∧ u.1 908 ≤ 12) (h_k : 0 ≤ x7 ∧ x7 ≤ uc.1 908) (h_G : qG k uc (t_N k P x y)) (h_s : (uc.1 908).toInt = ((k_ct (t_mb k P x y) (k.1 1247).toNatClampNeg) : Int)) (h_9 : 0 ≤ uc.1 908 ∧ uc.1 908 ≤ 12) (h_4 : 0 ≤ x4.toInt) (h_L : t_lo k (t_N k P x y) (k_ct (t_mb k P x y) (k.1 1247).toNatClampNeg) x4.toInt.toNat) (h_O : t_Os k x y (t_N k P x y) (k_ct (t_mb k P x y) (k.1 1247).toNatClampNeg) x4.toInt.toNat x7.toNatClampNeg (uc.2.1 907)) (h_5 : x5.toInt = (k_ct (k_gr (fun i j => t_bo k ((t_N k P x y) i) ((t_N k P x y) j)) (k_ct (t_mb k P x y) (k.1 1247).toNatClampNeg) x4.toInt.toNat (fun i => f_n (f_gp k x y) ((t_N k P x y) i).toNatClampNeg) x7.toNatClampNeg) x7.toNatClampNeg : Int) ∧ x5.toInt ≤ z.toInt) (h_6 : t_la k x y x7.toNatClampNeg x6) (c28_1 : ¬ (uc.1 908) ≤ (x7 : Int32)) (hw_3 : t_nb ((t_N k P x y)) ((uc.1 908 : Int32)).toNatClampNeg x6 r_4) (c42_5 : ¬ (r_4 : Int32) = (-1)) (hf_13 : f_13 = upd (uc.2.1 907) (r_4 : Int32).toNatClampNeg (vp_nar .boolean 1)) (hw_15 : t_ua (fun i j => t_bo (k) (((t_N k P x y)) i) (((t_N k P x y)) j)) (f_13) (u_14.2.1 905) ((uc.1 908 : Int32)).toNatClampNeg ∧ t_mx (u_14.2.1 905) r_16 ((uc.1 908 : Int32)).toNatClampNeg) (c73_19 : ¬ x4 ≤ (r_16 : Int32)) (hf_21 : f_21 = upd (f_13) (r_4 : Int32).toNatClampNeg (vp_nar .boolean 0)) : 0 ≤ x4.toInt := by
  exact h_4
set_option maxRecDepth 100000 in
theorem g_X9_falseAt_k_v20 (u : qS) (x : Int32) (y : Int32) (z : Int32) (k : qS) (P : Nat → Int32) (S : Nat → Int32) (x4 : Int32) (x5 : Int32) (x6 : Int32) (x7 : Int32) (uc : qS) (r_4 : Int32) (f_13 : Nat → Int32) (u_14 : qS) (r_16 : Int32) (f_21 : Nat → Int32) (hk : CT k P u) (hQ : qFD 10 S u) (ha : f_a1 k S) (hz : 0 ≤ z ∧ z ≤ 11) (hz8 : 0 ≤ u.1 8 ∧ u.1 8 ≤ 20) (hz9 : 0 ≤ u.1 9 ∧ u.1 9 ≤ 8) (hz10 : 0 ≤ u.1 10 ∧ u.1 10 ≤ 120) (hz12 : 0 ≤ u.1 12 ∧ u.1 12 ≤ 16) (hz908 : 0 ≤ u.1 908 ∧ u.1 908 ≤ 12) (h_k : 0 ≤ x7 ∧ x7 ≤ uc.1 908) (h_G : qG k uc (t_N k P x y)) (h_s : (uc.1 908).toInt = ((k_ct (t_mb k P x y) (k.1 1247).toNatClampNeg) : Int)) (h_9 : 0 ≤ uc.1 908 ∧ uc.1 908 ≤ 12) (h_4 : 0 ≤ x4.toInt) (h_L : t_lo k (t_N k P x y) (k_ct (t_mb k P x y) (k.1 1247).toNatClampNeg) x4.toInt.toNat) (h_O : t_Os k x y (t_N k P x y) (k_ct (t_mb k P x y) (k.1 1247).toNatClampNeg) x4.toInt.toNat x7.toNatClampNeg (uc.2.1 907)) (h_5 : x5.toInt = (k_ct (k_gr (fun i j => t_bo k ((t_N k P x y) i) ((t_N k P x y) j)) (k_ct (t_mb k P x y) (k.1 1247).toNatClampNeg) x4.toInt.toNat (fun i => f_n (f_gp k x y) ((t_N k P x y) i).toNatClampNeg) x7.toNatClampNeg) x7.toNatClampNeg : Int) ∧ x5.toInt ≤ z.toInt) (h_6 : t_la k x y x7.toNatClampNeg x6) (c28_1 : ¬ (uc.1 908) ≤ (x7 : Int32)) (hw_3 : t_nb ((t_N k P x y)) ((uc.1 908 : Int32)).toNatClampNeg x6 r_4) (c42_5 : ¬ (r_4 : Int32) = (-1)) (hf_13 : f_13 = upd (uc.2.1 907) (r_4 : Int32).toNatClampNeg (vp_nar .boolean 1)) (hw_15 : t_ua (fun i j => t_bo (k) (((t_N k P x y)) i) (((t_N k P x y)) j)) (f_13) (u_14.2.1 905) ((uc.1 908 : Int32)).toNatClampNeg ∧ t_mx (u_14.2.1 905) r_16 ((uc.1 908 : Int32)).toNatClampNeg) (c73_19 : ¬ x4 ≤ (r_16 : Int32)) (hf_21 : f_21 = upd (f_13) (r_4 : Int32).toNatClampNeg (vp_nar .boolean 0)) : t_lo k (t_N k P x y) (k_ct (t_mb k P x y) (k.1 1247).toNatClampNeg) x4.toInt.toNat := by
  exact h_L
set_option maxRecDepth 100000 in
theorem g_X9_falseAt_k_v21 (u : qS) (x : Int32) (y : Int32) (z : Int32) (k : qS) (P : Nat → Int32) (S : Nat → Int32) (x4 : Int32) (x5 : Int32) (x6 : Int32) (x7 : Int32) (uc : qS) (r_4 : Int32) (f_13 : Nat → Int32) (u_14 : qS) (r_16 : Int32) (f_21 : Nat → Int32) (hk : CT k P u) (hQ : qFD 10 S u) (ha : f_a1 k S) (hz : 0 ≤ z ∧ z ≤ 11) (hz8 : 0 ≤ u.1 8 ∧ u.1 8 ≤ 20) (hz9 : 0 ≤ u.1 9 ∧ u.1 9 ≤ 8) (hz10 : 0 ≤ u.1 10 ∧ u.1 10 ≤ 120) (hz12 : 0 ≤ u.1 12 ∧ u.1 12 ≤ 16) (hz908 : 0 ≤ u.1 908 ∧ u.1 908 ≤ 12) (h_k : 0 ≤ x7 ∧ x7 ≤ uc.1 908) (h_G : qG k uc (t_N k P x y)) (h_s : (uc.1 908).toInt = ((k_ct (t_mb k P x y) (k.1 1247).toNatClampNeg) : Int)) (h_9 : 0 ≤ uc.1 908 ∧ uc.1 908 ≤ 12) (h_4 : 0 ≤ x4.toInt) (h_L : t_lo k (t_N k P x y) (k_ct (t_mb k P x y) (k.1 1247).toNatClampNeg) x4.toInt.toNat) (h_O : t_Os k x y (t_N k P x y) (k_ct (t_mb k P x y) (k.1 1247).toNatClampNeg) x4.toInt.toNat x7.toNatClampNeg (uc.2.1 907)) (h_5 : x5.toInt = (k_ct (k_gr (fun i j => t_bo k ((t_N k P x y) i) ((t_N k P x y) j)) (k_ct (t_mb k P x y) (k.1 1247).toNatClampNeg) x4.toInt.toNat (fun i => f_n (f_gp k x y) ((t_N k P x y) i).toNatClampNeg) x7.toNatClampNeg) x7.toNatClampNeg : Int) ∧ x5.toInt ≤ z.toInt) (h_6 : t_la k x y x7.toNatClampNeg x6) (c28_1 : ¬ (uc.1 908) ≤ (x7 : Int32)) (hw_3 : t_nb ((t_N k P x y)) ((uc.1 908 : Int32)).toNatClampNeg x6 r_4) (c42_5 : ¬ (r_4 : Int32) = (-1)) (hf_13 : f_13 = upd (uc.2.1 907) (r_4 : Int32).toNatClampNeg (vp_nar .boolean 1)) (hw_15 : t_ua (fun i j => t_bo (k) (((t_N k P x y)) i) (((t_N k P x y)) j)) (f_13) (u_14.2.1 905) ((uc.1 908 : Int32)).toNatClampNeg ∧ t_mx (u_14.2.1 905) r_16 ((uc.1 908 : Int32)).toNatClampNeg) (c73_19 : ¬ x4 ≤ (r_16 : Int32)) (hf_21 : f_21 = upd (f_13) (r_4 : Int32).toNatClampNeg (vp_nar .boolean 0)) : t_Os k x y (t_N k P x y) (k_ct (t_mb k P x y) (k.1 1247).toNatClampNeg) x4.toInt.toNat (x7 + 1).toNatClampNeg (f_21) := by
  have hg := t_N.g hk.2.2.2.2.1 x y
  have hb := hk.2.2.2.2.2
  have e9 := t_nn h_s
  have q7 : 0 ≤ x7.toInt ∧ x7.toInt < (k_ct (t_mb k P x y) (k.1 1247).toNatClampNeg) := (by clear h_G h_L h_O h_6; (try simp only [g_m1, Int32.lt_iff_toInt_lt, Int32.le_iff_toInt_le, ← Int32.toInt_inj, Int32.reduceToInt] at *); omega)
  have c7 := g_clamp x7
  have m12 : (k_ct (t_mb k P x y) (k.1 1247).toNatClampNeg) ≤ 12 := (t_gset hb hg).1
  have e7 := (g_up (i := x7) q7.1 (by omega)).2
  have nb := (by assumption : t_nb _ _ _ _)
  rw [e9] at nb
  have nx := t_next hb hg (n := x7.toNatClampNeg) (by omega) h_6 nb
  have ua := (by assumption : t_ua _ _ _ _ ∧ t_mx _ _ _)
  rw [e9] at ua
  have kp := t_keep (p := fun i => f_n (f_gp k x y) ((t_N k P x y) i).toNatClampNeg) (T := fun r => k_gr (fun i j => t_bo k ((t_N k P x y) i) ((t_N k P x y) j)) (k_ct (t_mb k P x y) (k.1 1247).toNatClampNeg) x4.toInt.toNat (fun i => f_n (f_gp k x y) ((t_N k P x y) i).toNatClampNeg) x7.toNatClampNeg r || decide (r = x7.toNatClampNeg)) ua.1 ua.2 (t_gset hb hg).2.2.1 (h_O.try hb hg ⟨nx.1.2, nx.1.1⟩ nx.2 (by assumption) (by decide)) h_L.top
  have lb : (x4.toInt.toNat : Int) = x4.toInt := Int.toNat_of_nonneg h_4
  rw [e7]
  first
  | (have lt := Int32.lt_iff_toInt_lt.mp (by first | exact Int32.not_le.mp (by assumption : ¬ x4 ≤ _) | exact (by assumption : _ < x4))
     exact h_O.in hb hg h_L ⟨nx.1.2, nx.1.1⟩ nx.2 (by assumption) (by assumption) (by decide) (fun q => by have := kp.mpr q; omega))
  | (have ge := Int32.le_iff_toInt_le.mp (by first | exact (by assumption : x4 ≤ _) | exact Int32.not_lt.mp (by assumption : ¬ _ < x4))
     exact h_O.out hb hg ⟨nx.1.2, nx.1.1⟩ nx.2 (by assumption) (by decide) (kp.mp (by omega)))
set_option maxRecDepth 100000 in
theorem g_X9_falseAt_k_v22 (u : qS) (x : Int32) (y : Int32) (z : Int32) (k : qS) (P : Nat → Int32) (S : Nat → Int32) (x4 : Int32) (x5 : Int32) (x6 : Int32) (x7 : Int32) (uc : qS) (r_4 : Int32) (f_13 : Nat → Int32) (u_14 : qS) (r_16 : Int32) (f_21 : Nat → Int32) (hk : CT k P u) (hQ : qFD 10 S u) (ha : f_a1 k S) (hz : 0 ≤ z ∧ z ≤ 11) (hz8 : 0 ≤ u.1 8 ∧ u.1 8 ≤ 20) (hz9 : 0 ≤ u.1 9 ∧ u.1 9 ≤ 8) (hz10 : 0 ≤ u.1 10 ∧ u.1 10 ≤ 120) (hz12 : 0 ≤ u.1 12 ∧ u.1 12 ≤ 16) (hz908 : 0 ≤ u.1 908 ∧ u.1 908 ≤ 12) (h_k : 0 ≤ x7 ∧ x7 ≤ uc.1 908) (h_G : qG k uc (t_N k P x y)) (h_s : (uc.1 908).toInt = ((k_ct (t_mb k P x y) (k.1 1247).toNatClampNeg) : Int)) (h_9 : 0 ≤ uc.1 908 ∧ uc.1 908 ≤ 12) (h_4 : 0 ≤ x4.toInt) (h_L : t_lo k (t_N k P x y) (k_ct (t_mb k P x y) (k.1 1247).toNatClampNeg) x4.toInt.toNat) (h_O : t_Os k x y (t_N k P x y) (k_ct (t_mb k P x y) (k.1 1247).toNatClampNeg) x4.toInt.toNat x7.toNatClampNeg (uc.2.1 907)) (h_5 : x5.toInt = (k_ct (k_gr (fun i j => t_bo k ((t_N k P x y) i) ((t_N k P x y) j)) (k_ct (t_mb k P x y) (k.1 1247).toNatClampNeg) x4.toInt.toNat (fun i => f_n (f_gp k x y) ((t_N k P x y) i).toNatClampNeg) x7.toNatClampNeg) x7.toNatClampNeg : Int) ∧ x5.toInt ≤ z.toInt) (h_6 : t_la k x y x7.toNatClampNeg x6) (c28_1 : ¬ (uc.1 908) ≤ (x7 : Int32)) (hw_3 : t_nb ((t_N k P x y)) ((uc.1 908 : Int32)).toNatClampNeg x6 r_4) (c42_5 : ¬ (r_4 : Int32) = (-1)) (hf_13 : f_13 = upd (uc.2.1 907) (r_4 : Int32).toNatClampNeg (vp_nar .boolean 1)) (hw_15 : t_ua (fun i j => t_bo (k) (((t_N k P x y)) i) (((t_N k P x y)) j)) (f_13) (u_14.2.1 905) ((uc.1 908 : Int32)).toNatClampNeg ∧ t_mx (u_14.2.1 905) r_16 ((uc.1 908 : Int32)).toNatClampNeg) (c73_19 : ¬ x4 ≤ (r_16 : Int32)) (hf_21 : f_21 = upd (f_13) (r_4 : Int32).toNatClampNeg (vp_nar .boolean 0)) : x5.toInt = (k_ct (k_gr (fun i j => t_bo k ((t_N k P x y) i) ((t_N k P x y) j)) (k_ct (t_mb k P x y) (k.1 1247).toNatClampNeg) x4.toInt.toNat (fun i => f_n (f_gp k x y) ((t_N k P x y) i).toNatClampNeg) (x7 + 1).toNatClampNeg) (x7 + 1).toNatClampNeg : Int) ∧ x5.toInt ≤ z.toInt := by
  have hg := t_N.g hk.2.2.2.2.1 x y
  have hb := hk.2.2.2.2.2
  have e9 := t_nn h_s
  have q7 : 0 ≤ x7.toInt ∧ x7.toInt < (k_ct (t_mb k P x y) (k.1 1247).toNatClampNeg) := (by clear h_G h_L h_O h_6; (try simp only [g_m1, Int32.lt_iff_toInt_lt, Int32.le_iff_toInt_le, ← Int32.toInt_inj, Int32.reduceToInt] at *); omega)
  have c7 := g_clamp x7
  have m12 : (k_ct (t_mb k P x y) (k.1 1247).toNatClampNeg) ≤ 12 := (t_gset hb hg).1
  have e7 := (g_up (i := x7) q7.1 (by omega)).2
  have nb := (by assumption : t_nb _ _ _ _)
  rw [e9] at nb
  have nx := t_next hb hg (n := x7.toNatClampNeg) (by omega) h_6 nb
  have ua := (by assumption : t_ua _ _ _ _ ∧ t_mx _ _ _)
  rw [e9] at ua
  have kp := t_keep (p := fun i => f_n (f_gp k x y) ((t_N k P x y) i).toNatClampNeg) (T := fun r => k_gr (fun i j => t_bo k ((t_N k P x y) i) ((t_N k P x y) j)) (k_ct (t_mb k P x y) (k.1 1247).toNatClampNeg) x4.toInt.toNat (fun i => f_n (f_gp k x y) ((t_N k P x y) i).toNatClampNeg) x7.toNatClampNeg r || decide (r = x7.toNatClampNeg)) ua.1 ua.2 (t_gset hb hg).2.2.1 (h_O.try hb hg ⟨nx.1.2, nx.1.1⟩ nx.2 (by assumption) (by decide)) h_L.top
  have lb : (x4.toInt.toNat : Int) = x4.toInt := Int.toNat_of_nonneg h_4
  have gF := t_gF hb hg h_L
  have cg : ∀ a, a ≤ x7.toNatClampNeg → k_ct (k_gr (fun i j => t_bo k ((t_N k P x y) i) ((t_N k P x y) j)) (k_ct (t_mb k P x y) (k.1 1247).toNatClampNeg) x4.toInt.toNat (fun i => f_n (f_gp k x y) ((t_N k P x y) i).toNatClampNeg) (x7.toNatClampNeg + 1)) a = k_ct (k_gr (fun i j => t_bo k ((t_N k P x y) i) ((t_N k P x y) j)) (k_ct (t_mb k P x y) (k.1 1247).toNatClampNeg) x4.toInt.toNat (fun i => f_n (f_gp k x y) ((t_N k P x y) i).toNatClampNeg) x7.toNatClampNeg) a := fun a ha => k_ct_cg a (fun i hi => by rw [gF _ (by omega), gF _ (by omega), decide_eq_true (by omega : i < x7.toNatClampNeg + 1), decide_eq_true (by omega : i < x7.toNatClampNeg)])
  rw [e7]
  first
  | (have lt := Int32.lt_iff_toInt_lt.mp (by first | exact Int32.not_le.mp (by assumption : ¬ x4 ≤ _) | exact (by assumption : _ < x4))
     have gn : k_gr (fun i j => t_bo k ((t_N k P x y) i) ((t_N k P x y) j)) (k_ct (t_mb k P x y) (k.1 1247).toNatClampNeg) x4.toInt.toNat (fun i => f_n (f_gp k x y) ((t_N k P x y) i).toNatClampNeg) (x7.toNatClampNeg + 1) x7.toNatClampNeg = false := (by rw [t_gr0 (fun q => by have := kp.mpr q; omega), gF _ (by omega), decide_eq_false (Nat.lt_irrefl _)]; rfl)
     rw [k_ct_f gn, cg _ (Nat.le_refl _)]; exact h_5)
  | (have ge := Int32.le_iff_toInt_le.mp (by first | exact (by assumption : x4 ≤ _) | exact Int32.not_lt.mp (by assumption : ¬ _ < x4))
     have gn : k_gr (fun i j => t_bo k ((t_N k P x y) i) ((t_N k P x y) j)) (k_ct (t_mb k P x y) (k.1 1247).toNatClampNeg) x4.toInt.toNat (fun i => f_n (f_gp k x y) ((t_N k P x y) i).toNatClampNeg) (x7.toNatClampNeg + 1) x7.toNatClampNeg = true := (by rw [t_gr1 (kp.mp (by omega))]; show (_ || decide (x7.toNatClampNeg = x7.toNatClampNeg)) = true; rw [decide_eq_true rfl, Bool.or_true])
     have m7 : k_ct (k_gr (fun i j => t_bo k ((t_N k P x y) i) ((t_N k P x y) j)) (k_ct (t_mb k P x y) (k.1 1247).toNatClampNeg) x4.toInt.toNat (fun i => f_n (f_gp k x y) ((t_N k P x y) i).toNatClampNeg) x7.toNatClampNeg) x7.toNatClampNeg ≤ x7.toNatClampNeg := k_ct_m _
     rw [k_ct_t gn, cg _ (Nat.le_refl _)]
     have ne : x5.toInt ≠ z.toInt := fun q => absurd (Int32.toInt_inj.mp q) (by assumption)
     rw [(g_up (i := x5) (by omega) (by omega)).1]; omega)
set_option maxRecDepth 100000 in
theorem g_X9_falseAt_k_v23 (u : qS) (x : Int32) (y : Int32) (z : Int32) (k : qS) (P : Nat → Int32) (S : Nat → Int32) (x4 : Int32) (x5 : Int32) (x6 : Int32) (x7 : Int32) (uc : qS) (r_4 : Int32) (f_13 : Nat → Int32) (u_14 : qS) (r_16 : Int32) (f_21 : Nat → Int32) (hk : CT k P u) (hQ : qFD 10 S u) (ha : f_a1 k S) (hz : 0 ≤ z ∧ z ≤ 11) (hz8 : 0 ≤ u.1 8 ∧ u.1 8 ≤ 20) (hz9 : 0 ≤ u.1 9 ∧ u.1 9 ≤ 8) (hz10 : 0 ≤ u.1 10 ∧ u.1 10 ≤ 120) (hz12 : 0 ≤ u.1 12 ∧ u.1 12 ≤ 16) (hz908 : 0 ≤ u.1 908 ∧ u.1 908 ≤ 12) (h_k : 0 ≤ x7 ∧ x7 ≤ uc.1 908) (h_G : qG k uc (t_N k P x y)) (h_s : (uc.1 908).toInt = ((k_ct (t_mb k P x y) (k.1 1247).toNatClampNeg) : Int)) (h_9 : 0 ≤ uc.1 908 ∧ uc.1 908 ≤ 12) (h_4 : 0 ≤ x4.toInt) (h_L : t_lo k (t_N k P x y) (k_ct (t_mb k P x y) (k.1 1247).toNatClampNeg) x4.toInt.toNat) (h_O : t_Os k x y (t_N k P x y) (k_ct (t_mb k P x y) (k.1 1247).toNatClampNeg) x4.toInt.toNat x7.toNatClampNeg (uc.2.1 907)) (h_5 : x5.toInt = (k_ct (k_gr (fun i j => t_bo k ((t_N k P x y) i) ((t_N k P x y) j)) (k_ct (t_mb k P x y) (k.1 1247).toNatClampNeg) x4.toInt.toNat (fun i => f_n (f_gp k x y) ((t_N k P x y) i).toNatClampNeg) x7.toNatClampNeg) x7.toNatClampNeg : Int) ∧ x5.toInt ≤ z.toInt) (h_6 : t_la k x y x7.toNatClampNeg x6) (c28_1 : ¬ (uc.1 908) ≤ (x7 : Int32)) (hw_3 : t_nb ((t_N k P x y)) ((uc.1 908 : Int32)).toNatClampNeg x6 r_4) (c42_5 : ¬ (r_4 : Int32) = (-1)) (hf_13 : f_13 = upd (uc.2.1 907) (r_4 : Int32).toNatClampNeg (vp_nar .boolean 1)) (hw_15 : t_ua (fun i j => t_bo (k) (((t_N k P x y)) i) (((t_N k P x y)) j)) (f_13) (u_14.2.1 905) ((uc.1 908 : Int32)).toNatClampNeg ∧ t_mx (u_14.2.1 905) r_16 ((uc.1 908 : Int32)).toNatClampNeg) (c73_19 : ¬ x4 ≤ (r_16 : Int32)) (hf_21 : f_21 = upd (f_13) (r_4 : Int32).toNatClampNeg (vp_nar .boolean 0)) : t_la k x y (x7 + 1).toNatClampNeg ((t_N k P x y) (r_4 : Int32).toNatClampNeg) := by
  have hg := t_N.g hk.2.2.2.2.1 x y
  have hb := hk.2.2.2.2.2
  have e9 := t_nn h_s
  have q7 : 0 ≤ x7.toInt ∧ x7.toInt < (k_ct (t_mb k P x y) (k.1 1247).toNatClampNeg) := (by clear h_G h_L h_O h_6; (try simp only [g_m1, Int32.lt_iff_toInt_lt, Int32.le_iff_toInt_le, ← Int32.toInt_inj, Int32.reduceToInt] at *); omega)
  have c7 := g_clamp x7
  have m12 : (k_ct (t_mb k P x y) (k.1 1247).toNatClampNeg) ≤ 12 := (t_gset hb hg).1
  have e7 := (g_up (i := x7) q7.1 (by omega)).2
  have nb := (by assumption : t_nb _ _ _ _)
  rw [e9] at nb
  have nx := t_next hb hg (n := x7.toNatClampNeg) (by omega) h_6 nb
  rw [e7]
  exact t_la.s hg nx
set_option maxRecDepth 100000 in
theorem g_X9_falseAt_k_v24 (u : qS) (x : Int32) (y : Int32) (z : Int32) (k : qS) (P : Nat → Int32) (S : Nat → Int32) (x4 : Int32) (x5 : Int32) (x6 : Int32) (x7 : Int32) (uc : qS) (r_4 : Int32) (f_13 : Nat → Int32) (u_14 : qS) (r_16 : Int32) (f_21 : Nat → Int32) (hk : CT k P u) (hQ : qFD 10 S u) (ha : f_a1 k S) (hz : 0 ≤ z ∧ z ≤ 11) (hz8 : 0 ≤ u.1 8 ∧ u.1 8 ≤ 20) (hz9 : 0 ≤ u.1 9 ∧ u.1 9 ≤ 8) (hz10 : 0 ≤ u.1 10 ∧ u.1 10 ≤ 120) (hz12 : 0 ≤ u.1 12 ∧ u.1 12 ≤ 16) (hz908 : 0 ≤ u.1 908 ∧ u.1 908 ≤ 12) (h_k : 0 ≤ x7 ∧ x7 ≤ uc.1 908) (h_G : qG k uc (t_N k P x y)) (h_s : (uc.1 908).toInt = ((k_ct (t_mb k P x y) (k.1 1247).toNatClampNeg) : Int)) (h_9 : 0 ≤ uc.1 908 ∧ uc.1 908 ≤ 12) (h_4 : 0 ≤ x4.toInt) (h_L : t_lo k (t_N k P x y) (k_ct (t_mb k P x y) (k.1 1247).toNatClampNeg) x4.toInt.toNat) (h_O : t_Os k x y (t_N k P x y) (k_ct (t_mb k P x y) (k.1 1247).toNatClampNeg) x4.toInt.toNat x7.toNatClampNeg (uc.2.1 907)) (h_5 : x5.toInt = (k_ct (k_gr (fun i j => t_bo k ((t_N k P x y) i) ((t_N k P x y) j)) (k_ct (t_mb k P x y) (k.1 1247).toNatClampNeg) x4.toInt.toNat (fun i => f_n (f_gp k x y) ((t_N k P x y) i).toNatClampNeg) x7.toNatClampNeg) x7.toNatClampNeg : Int) ∧ x5.toInt ≤ z.toInt) (h_6 : t_la k x y x7.toNatClampNeg x6) (c28_1 : ¬ (uc.1 908) ≤ (x7 : Int32)) (hw_3 : t_nb ((t_N k P x y)) ((uc.1 908 : Int32)).toNatClampNeg x6 r_4) (c42_5 : ¬ (r_4 : Int32) = (-1)) (hf_13 : f_13 = upd (uc.2.1 907) (r_4 : Int32).toNatClampNeg (vp_nar .boolean 1)) (hw_15 : t_ua (fun i j => t_bo (k) (((t_N k P x y)) i) (((t_N k P x y)) j)) (f_13) (u_14.2.1 905) ((uc.1 908 : Int32)).toNatClampNeg ∧ t_mx (u_14.2.1 905) r_16 ((uc.1 908 : Int32)).toNatClampNeg) (c73_19 : ¬ x4 ≤ (r_16 : Int32)) (hf_21 : f_21 = upd (f_13) (r_4 : Int32).toNatClampNeg (vp_nar .boolean 0)) : (((uc.1 908 : Int32)).toInt - (x7 + 1).toInt).toNat < ((uc.1 908).toInt - x7.toInt).toNat := by
  clear h_G h_L h_O h_6 hz; (try simp only [g_m1, Int32.lt_iff_toInt_lt, Int32.le_iff_toInt_le, ← Int32.toInt_inj, Int32.toInt_add, Int32.toInt_sub, Int32.toInt_mul, Int32.toInt_neg, Int32.reduceToInt, g_bm, g_bm'] at *); omega
set_option maxRecDepth 100000 in
theorem g_X9_falseAt_k_v25 (u : qS) (x : Int32) (y : Int32) (z : Int32) (k : qS) (P : Nat → Int32) (S : Nat → Int32) (x4 : Int32) (x5 : Int32) (x6 : Int32) (x7 : Int32) (uc : qS) (r_4 : Int32) (hk : CT k P u) (hQ : qFD 10 S u) (ha : f_a1 k S) (hz : 0 ≤ z ∧ z ≤ 11) (hz8 : 0 ≤ u.1 8 ∧ u.1 8 ≤ 20) (hz9 : 0 ≤ u.1 9 ∧ u.1 9 ≤ 8) (hz10 : 0 ≤ u.1 10 ∧ u.1 10 ≤ 120) (hz12 : 0 ≤ u.1 12 ∧ u.1 12 ≤ 16) (hz908 : 0 ≤ u.1 908 ∧ u.1 908 ≤ 12) (h_k : 0 ≤ x7 ∧ x7 ≤ uc.1 908) (h_G : qG k uc (t_N k P x y)) (h_s : (uc.1 908).toInt = ((k_ct (t_mb k P x y) (k.1 1247).toNatClampNeg) : Int)) (h_9 : 0 ≤ uc.1 908 ∧ uc.1 908 ≤ 12) (h_4 : 0 ≤ x4.toInt) (h_L : t_lo k (t_N k P x y) (k_ct (t_mb k P x y) (k.1 1247).toNatClampNeg) x4.toInt.toNat) (h_O : t_Os k x y (t_N k P x y) (k_ct (t_mb k P x y) (k.1 1247).toNatClampNeg) x4.toInt.toNat x7.toNatClampNeg (uc.2.1 907)) (h_5 : x5.toInt = (k_ct (k_gr (fun i j => t_bo k ((t_N k P x y) i) ((t_N k P x y) j)) (k_ct (t_mb k P x y) (k.1 1247).toNatClampNeg) x4.toInt.toNat (fun i => f_n (f_gp k x y) ((t_N k P x y) i).toNatClampNeg) x7.toNatClampNeg) x7.toNatClampNeg : Int) ∧ x5.toInt ≤ z.toInt) (h_6 : t_la k x y x7.toNatClampNeg x6) (c28_1 : ¬ (uc.1 908) ≤ (x7 : Int32)) (hw_3 : t_nb ((t_N k P x y)) ((uc.1 908 : Int32)).toNatClampNeg x6 r_4) (c42_5 : (r_4 : Int32) = (-1)) : k_nth (s_b (f_fz k x y)) (f_n (f_gp k x y) (k.1 1247).toNatClampNeg) z.toNatClampNeg (f_V k x y) ((-1) : Int32) := by
  have hg := t_N.g hk.2.2.2.2.1 x y
  have hb := hk.2.2.2.2.2
  have e9 := t_nn h_s
  have mn := t_mb.n hk.2.2.2.2.1 x y
  have gF := t_gF hb hg h_L
  have z0 : 0 ≤ z.toInt := Int32.le_iff_toInt_le.mp hz.1
  have cz := g_clamp z
  have c7 := g_clamp x7
  rw [← mn]
  first
  | (have q7 : 0 ≤ x7.toInt ∧ x7.toInt < (k_ct (t_mb k P x y) (k.1 1247).toNatClampNeg) := (by clear h_G h_L h_O h_6; (try simp only [g_m1, Int32.lt_iff_toInt_lt, Int32.le_iff_toInt_le, ← Int32.toInt_inj, Int32.reduceToInt] at *); omega)
     have c7 := g_clamp x7
     have m12 : (k_ct (t_mb k P x y) (k.1 1247).toNatClampNeg) ≤ 12 := (t_gset hb hg).1
     have e7 := (g_up (i := x7) q7.1 (by omega)).2
     have nb := (by assumption : t_nb _ _ _ _)
     rw [e9] at nb
     have nx := t_next hb hg (n := x7.toNatClampNeg) (by omega) h_6 nb
     have ua := (by assumption : t_ua _ _ _ _ ∧ t_mx _ _ _)
     rw [e9] at ua
     have kp := t_keep (p := fun i => f_n (f_gp k x y) ((t_N k P x y) i).toNatClampNeg) (T := fun r => k_gr (fun i j => t_bo k ((t_N k P x y) i) ((t_N k P x y) j)) (k_ct (t_mb k P x y) (k.1 1247).toNatClampNeg) x4.toInt.toNat (fun i => f_n (f_gp k x y) ((t_N k P x y) i).toNatClampNeg) x7.toNatClampNeg r || decide (r = x7.toNatClampNeg)) ua.1 ua.2 (t_gset hb hg).2.2.1 (h_O.try hb hg ⟨nx.1.2, nx.1.1⟩ nx.2 (by assumption) (by decide)) h_L.top
     have lb : (x4.toInt.toNat : Int) = x4.toInt := Int.toNat_of_nonneg h_4
     exact t_fin1 hb hg h_L (kp.mp (by have ge := Int32.le_iff_toInt_le.mp (by first | exact (by assumption : x4 ≤ _) | exact Int32.not_lt.mp (by assumption : ¬ _ < x4)); omega)) (by omega) nx (by have e5 : x5 = z := (by assumption); have h5 := h_5.1; rw [e5] at h5; omega))
  | (have q7 : 0 ≤ x7.toInt ∧ x7.toInt < (k_ct (t_mb k P x y) (k.1 1247).toNatClampNeg) := (by clear h_G h_L h_O h_6; (try simp only [g_m1, Int32.lt_iff_toInt_lt, Int32.le_iff_toInt_le, ← Int32.toInt_inj, Int32.reduceToInt] at *); omega)
     have c7 := g_clamp x7
     have m12 : (k_ct (t_mb k P x y) (k.1 1247).toNatClampNeg) ≤ 12 := (t_gset hb hg).1
     have e7 := (g_up (i := x7) q7.1 (by omega)).2
     have nb := (by assumption : t_nb _ _ _ _)
     rw [e9] at nb
     have nx := t_next hb hg (n := x7.toNatClampNeg) (by omega) h_6 nb
     exfalso; have r1 := (by assumption : _ = (-1 : Int32)); have n1 := nx.1; rw [r1] at n1; exact absurd n1.1 (by decide))
  | (have e : x7 = uc.1 908 := Int32.toInt_inj.mp (by clear h_G h_L h_O h_6; (try simp only [g_m1, Int32.lt_iff_toInt_lt, Int32.le_iff_toInt_le, ← Int32.toInt_inj, Int32.reduceToInt] at *); omega)
     rw [e, e9] at h_5
     refine Or.inr ⟨?_, rfl⟩
     have ce : k_ct (s_b (f_fz k x y)) (k_ct (t_mb k P x y) (k.1 1247).toNatClampNeg) = k_ct (k_gr (fun i j => t_bo k ((t_N k P x y) i) ((t_N k P x y) j)) (k_ct (t_mb k P x y) (k.1 1247).toNatClampNeg) x4.toInt.toNat (fun i => f_n (f_gp k x y) ((t_N k P x y) i).toNatClampNeg) (k_ct (t_mb k P x y) (k.1 1247).toNatClampNeg)) (k_ct (t_mb k P x y) (k.1 1247).toNatClampNeg) := k_ct_cg _ (fun i hi => by rw [gF _ (Nat.le_refl _), decide_eq_true hi]; rfl)
     rw [ce]; omega)
set_option maxRecDepth 100000 in
theorem g_X9_falseAt_k_v26 (u : qS) (z : Int32) (k : qS) (P : Nat → Int32) (S : Nat → Int32) (hk : CT k P u) (hQ : qFD 10 S u) (ha : f_a1 k S) (hz : 0 ≤ z ∧ z ≤ 11) (hz8 : 0 ≤ u.1 8 ∧ u.1 8 ≤ 20) (hz9 : 0 ≤ u.1 9 ∧ u.1 9 ≤ 8) (hz10 : 0 ≤ u.1 10 ∧ u.1 10 ≤ 120) (hz12 : 0 ≤ u.1 12 ∧ u.1 12 ≤ 16) (hz908 : 0 ≤ u.1 908 ∧ u.1 908 ≤ 12) : 0 ≤ (0 : Int32) ∧ (0 : Int32) ≤ (u.1 10 : Int32) := by
  exact ⟨by decide, by clear hz; (try simp only [g_m1, Int32.lt_iff_toInt_lt, Int32.le_iff_toInt_le, ← Int32.toInt_inj, Int32.reduceToInt] at *); omega⟩
set_option maxRecDepth 100000 in
theorem g_X9_falseAt_k_v27 (u : qS) (z : Int32) (k : qS) (P : Nat → Int32) (S : Nat → Int32) (hk : CT k P u) (hQ : qFD 10 S u) (ha : f_a1 k S) (hz : 0 ≤ z ∧ z ≤ 11) (hz8 : 0 ≤ u.1 8 ∧ u.1 8 ≤ 20) (hz9 : 0 ≤ u.1 9 ∧ u.1 9 ≤ 8) (hz10 : 0 ≤ u.1 10 ∧ u.1 10 ≤ 120) (hz12 : 0 ≤ u.1 12 ∧ u.1 12 ≤ 16) (hz908 : 0 ≤ u.1 908 ∧ u.1 908 ≤ 12) : f_a1 k S := by
  exact ha
set_option maxRecDepth 100000 in
theorem g_X9_falseAt_k_v28 (u : qS) (x : Int32) (y : Int32) (z : Int32) (k : qS) (P : Nat → Int32) (S : Nat → Int32) (hk : CT k P u) (hQ : qFD 10 S u) (ha : f_a1 k S) (hz : 0 ≤ z ∧ z ≤ 11) (hz8 : 0 ≤ u.1 8 ∧ u.1 8 ≤ 20) (hz9 : 0 ≤ u.1 9 ∧ u.1 9 ≤ 8) (hz10 : 0 ≤ u.1 10 ∧ u.1 10 ≤ 120) (hz12 : 0 ≤ u.1 12 ∧ u.1 12 ≤ 16) (hz908 : 0 ≤ u.1 908 ∧ u.1 908 ≤ 12) : ∀ i : Nat, i < (0 : Int32).toNatClampNeg → ¬ f_gp k x y (P i) := by
  intro i hi; exact absurd hi (Nat.not_lt_zero _)
set_option maxRecDepth 100000 in
theorem g_X9_falseAt_k_v29 (u : qS) (x : Int32) (y : Int32) (z : Int32) (k : qS) (P : Nat → Int32) (S : Nat → Int32) (u_22 : qS) (u_26 : qS) (r_28 : Int32) (hk : CT k P u) (hQ : qFD 10 S u) (ha : f_a1 k S) (hz : 0 ≤ z ∧ z ≤ 11) (hz8 : 0 ≤ u.1 8 ∧ u.1 8 ≤ 20) (hz9 : 0 ≤ u.1 9 ∧ u.1 9 ≤ 8) (hz10 : 0 ≤ u.1 10 ∧ u.1 10 ≤ 120) (hz12 : 0 ≤ u.1 12 ∧ u.1 12 ≤ 16) (hz908 : 0 ≤ u.1 908 ∧ u.1 908 ≤ 12) (hw_23 : qG (k) u_22 (t_N (k) (P) x y) ∧ (u_22.1 908).toInt = (k_ct (t_mb (k) (P) x y) ((k).1 1247).toNatClampNeg : Int) ∧ (∀ j : Nat, j < (u_22.1 908).toNatClampNeg → u_22.2.1 907 j = 0)) (hw_27 : t_ua (fun i j => t_bo (k) (((t_N k P x y)) i) (((t_N k P x y)) j)) ((u_22.2.1 907)) (u_26.2.1 905) ((u_22.1 908 : Int32)).toNatClampNeg ∧ t_mx (u_26.2.1 905) r_28 ((u_22.1 908 : Int32)).toNatClampNeg) : 0 ≤ (0 : Int32) ∧ (0 : Int32) ≤ (u_22.1 908 : Int32) := by
  have w := (by assumption : qG k _ _ ∧ _ ∧ _)
  exact ⟨by decide, Int32.le_iff_toInt_le.mpr (by show (0 : Int) ≤ _; rw [w.2.1]; omega)⟩
set_option maxRecDepth 100000 in
theorem g_X9_falseAt_k_v30 (u : qS) (x : Int32) (y : Int32) (z : Int32) (k : qS) (P : Nat → Int32) (S : Nat → Int32) (u_22 : qS) (u_26 : qS) (r_28 : Int32) (hk : CT k P u) (hQ : qFD 10 S u) (ha : f_a1 k S) (hz : 0 ≤ z ∧ z ≤ 11) (hz8 : 0 ≤ u.1 8 ∧ u.1 8 ≤ 20) (hz9 : 0 ≤ u.1 9 ∧ u.1 9 ≤ 8) (hz10 : 0 ≤ u.1 10 ∧ u.1 10 ≤ 120) (hz12 : 0 ≤ u.1 12 ∧ u.1 12 ≤ 16) (hz908 : 0 ≤ u.1 908 ∧ u.1 908 ≤ 12) (hw_23 : qG (k) u_22 (t_N (k) (P) x y) ∧ (u_22.1 908).toInt = (k_ct (t_mb (k) (P) x y) ((k).1 1247).toNatClampNeg : Int) ∧ (∀ j : Nat, j < (u_22.1 908).toNatClampNeg → u_22.2.1 907 j = 0)) (hw_27 : t_ua (fun i j => t_bo (k) (((t_N k P x y)) i) (((t_N k P x y)) j)) ((u_22.2.1 907)) (u_26.2.1 905) ((u_22.1 908 : Int32)).toNatClampNeg ∧ t_mx (u_26.2.1 905) r_28 ((u_22.1 908 : Int32)).toNatClampNeg) : ((u_22.1 908 : Int32)).toInt = ((k_ct (t_mb k P x y) (k.1 1247).toNatClampNeg) : Int) := by
  exact (by assumption : qG k _ _ ∧ _ ∧ _).2.1
set_option maxRecDepth 100000 in
theorem g_X9_falseAt_k_v31 (u : qS) (x : Int32) (y : Int32) (z : Int32) (k : qS) (P : Nat → Int32) (S : Nat → Int32) (u_22 : qS) (u_26 : qS) (r_28 : Int32) (hk : CT k P u) (hQ : qFD 10 S u) (ha : f_a1 k S) (hz : 0 ≤ z ∧ z ≤ 11) (hz8 : 0 ≤ u.1 8 ∧ u.1 8 ≤ 20) (hz9 : 0 ≤ u.1 9 ∧ u.1 9 ≤ 8) (hz10 : 0 ≤ u.1 10 ∧ u.1 10 ≤ 120) (hz12 : 0 ≤ u.1 12 ∧ u.1 12 ≤ 16) (hz908 : 0 ≤ u.1 908 ∧ u.1 908 ≤ 12) (hw_23 : qG (k) u_22 (t_N (k) (P) x y) ∧ (u_22.1 908).toInt = (k_ct (t_mb (k) (P) x y) ((k).1 1247).toNatClampNeg : Int) ∧ (∀ j : Nat, j < (u_22.1 908).toNatClampNeg → u_22.2.1 907 j = 0)) (hw_27 : t_ua (fun i j => t_bo (k) (((t_N k P x y)) i) (((t_N k P x y)) j)) ((u_22.2.1 907)) (u_26.2.1 905) ((u_22.1 908 : Int32)).toNatClampNeg ∧ t_mx (u_26.2.1 905) r_28 ((u_22.1 908 : Int32)).toNatClampNeg) : 0 ≤ (u_22.1 908 : Int32) ∧ (u_22.1 908 : Int32) ≤ 12 := by
  have w := (by assumption : qG k _ _ ∧ _ ∧ _)
  have m12 := (t_gset hk.2.2.2.2.2 (t_N.g hk.2.2.2.2.1 x y)).1
  exact ⟨Int32.le_iff_toInt_le.mpr (by show (0 : Int) ≤ _; rw [w.2.1]; omega), Int32.le_iff_toInt_le.mpr (by show _ ≤ (12 : Int); rw [w.2.1]; omega)⟩
set_option maxRecDepth 100000 in
theorem g_X9_falseAt_k_v32 (u : qS) (x : Int32) (y : Int32) (z : Int32) (k : qS) (P : Nat → Int32) (S : Nat → Int32) (u_22 : qS) (u_26 : qS) (r_28 : Int32) (hk : CT k P u) (hQ : qFD 10 S u) (ha : f_a1 k S) (hz : 0 ≤ z ∧ z ≤ 11) (hz8 : 0 ≤ u.1 8 ∧ u.1 8 ≤ 20) (hz9 : 0 ≤ u.1 9 ∧ u.1 9 ≤ 8) (hz10 : 0 ≤ u.1 10 ∧ u.1 10 ≤ 120) (hz12 : 0 ≤ u.1 12 ∧ u.1 12 ≤ 16) (hz908 : 0 ≤ u.1 908 ∧ u.1 908 ≤ 12) (hw_23 : qG (k) u_22 (t_N (k) (P) x y) ∧ (u_22.1 908).toInt = (k_ct (t_mb (k) (P) x y) ((k).1 1247).toNatClampNeg : Int) ∧ (∀ j : Nat, j < (u_22.1 908).toNatClampNeg → u_22.2.1 907 j = 0)) (hw_27 : t_ua (fun i j => t_bo (k) (((t_N k P x y)) i) (((t_N k P x y)) j)) ((u_22.2.1 907)) (u_26.2.1 905) ((u_22.1 908 : Int32)).toNatClampNeg ∧ t_mx (u_26.2.1 905) r_28 ((u_22.1 908 : Int32)).toNatClampNeg) : 0 ≤ r_28.toInt := by
  have w := (by assumption : qG k _ _ ∧ _ ∧ _)
  have e := t_nn w.2.1
  have v := (by assumption : t_ua _ _ _ _ ∧ t_mx _ _ _)
  rw [e] at v
  exact v.2.1
set_option maxRecDepth 100000 in
theorem g_X9_falseAt_k_v33 (u : qS) (x : Int32) (y : Int32) (z : Int32) (k : qS) (P : Nat → Int32) (S : Nat → Int32) (u_22 : qS) (u_26 : qS) (r_28 : Int32) (hk : CT k P u) (hQ : qFD 10 S u) (ha : f_a1 k S) (hz : 0 ≤ z ∧ z ≤ 11) (hz8 : 0 ≤ u.1 8 ∧ u.1 8 ≤ 20) (hz9 : 0 ≤ u.1 9 ∧ u.1 9 ≤ 8) (hz10 : 0 ≤ u.1 10 ∧ u.1 10 ≤ 120) (hz12 : 0 ≤ u.1 12 ∧ u.1 12 ≤ 16) (hz908 : 0 ≤ u.1 908 ∧ u.1 908 ≤ 12) (hw_23 : qG (k) u_22 (t_N (k) (P) x y) ∧ (u_22.1 908).toInt = (k_ct (t_mb (k) (P) x y) ((k).1 1247).toNatClampNeg : Int) ∧ (∀ j : Nat, j < (u_22.1 908).toNatClampNeg → u_22.2.1 907 j = 0)) (hw_27 : t_ua (fun i j => t_bo (k) (((t_N k P x y)) i) (((t_N k P x y)) j)) ((u_22.2.1 907)) (u_26.2.1 905) ((u_22.1 908 : Int32)).toNatClampNeg ∧ t_mx (u_26.2.1 905) r_28 ((u_22.1 908 : Int32)).toNatClampNeg) : t_lo k (t_N k P x y) (k_ct (t_mb k P x y) (k.1 1247).toNatClampNeg) r_28.toInt.toNat := by
  have w := (by assumption : qG k _ _ ∧ _ ∧ _)
  have e := t_nn w.2.1
  have v := (by assumption : t_ua _ _ _ _ ∧ t_mx _ _ _)
  rw [e] at v
  exact t_lo.of v.1 (by have o := w.2.2; rw [e] at o; exact o) v.2
set_option maxRecDepth 100000 in
theorem g_X9_falseAt_k_v34 (u : qS) (x : Int32) (y : Int32) (z : Int32) (k : qS) (P : Nat → Int32) (S : Nat → Int32) (u_22 : qS) (u_26 : qS) (r_28 : Int32) (hk : CT k P u) (hQ : qFD 10 S u) (ha : f_a1 k S) (hz : 0 ≤ z ∧ z ≤ 11) (hz8 : 0 ≤ u.1 8 ∧ u.1 8 ≤ 20) (hz9 : 0 ≤ u.1 9 ∧ u.1 9 ≤ 8) (hz10 : 0 ≤ u.1 10 ∧ u.1 10 ≤ 120) (hz12 : 0 ≤ u.1 12 ∧ u.1 12 ≤ 16) (hz908 : 0 ≤ u.1 908 ∧ u.1 908 ≤ 12) (hw_23 : qG (k) u_22 (t_N (k) (P) x y) ∧ (u_22.1 908).toInt = (k_ct (t_mb (k) (P) x y) ((k).1 1247).toNatClampNeg : Int) ∧ (∀ j : Nat, j < (u_22.1 908).toNatClampNeg → u_22.2.1 907 j = 0)) (hw_27 : t_ua (fun i j => t_bo (k) (((t_N k P x y)) i) (((t_N k P x y)) j)) ((u_22.2.1 907)) (u_26.2.1 905) ((u_22.1 908 : Int32)).toNatClampNeg ∧ t_mx (u_26.2.1 905) r_28 ((u_22.1 908 : Int32)).toNatClampNeg) : t_Os k x y (t_N k P x y) (k_ct (t_mb k P x y) (k.1 1247).toNatClampNeg) r_28.toInt.toNat (0 : Int32).toNatClampNeg ((u_22.2.1 907)) := by
  have w := (by assumption : qG k _ _ ∧ _ ∧ _)
  have e := t_nn w.2.1
  have v := (by assumption : t_ua _ _ _ _ ∧ t_mx _ _ _)
  rw [e] at v
  exact t_Os.nil (by have o := w.2.2; rw [e] at o; exact o)
set_option maxRecDepth 100000 in
theorem g_X9_falseAt_k_v35 (u : qS) (x : Int32) (y : Int32) (z : Int32) (k : qS) (P : Nat → Int32) (S : Nat → Int32) (u_22 : qS) (u_26 : qS) (r_28 : Int32) (hk : CT k P u) (hQ : qFD 10 S u) (ha : f_a1 k S) (hz : 0 ≤ z ∧ z ≤ 11) (hz8 : 0 ≤ u.1 8 ∧ u.1 8 ≤ 20) (hz9 : 0 ≤ u.1 9 ∧ u.1 9 ≤ 8) (hz10 : 0 ≤ u.1 10 ∧ u.1 10 ≤ 120) (hz12 : 0 ≤ u.1 12 ∧ u.1 12 ≤ 16) (hz908 : 0 ≤ u.1 908 ∧ u.1 908 ≤ 12) (hw_23 : qG (k) u_22 (t_N (k) (P) x y) ∧ (u_22.1 908).toInt = (k_ct (t_mb (k) (P) x y) ((k).1 1247).toNatClampNeg : Int) ∧ (∀ j : Nat, j < (u_22.1 908).toNatClampNeg → u_22.2.1 907 j = 0)) (hw_27 : t_ua (fun i j => t_bo (k) (((t_N k P x y)) i) (((t_N k P x y)) j)) ((u_22.2.1 907)) (u_26.2.1 905) ((u_22.1 908 : Int32)).toNatClampNeg ∧ t_mx (u_26.2.1 905) r_28 ((u_22.1 908 : Int32)).toNatClampNeg) : (0 : Int32).toInt = (k_ct (k_gr (fun i j => t_bo k ((t_N k P x y) i) ((t_N k P x y) j)) (k_ct (t_mb k P x y) (k.1 1247).toNatClampNeg) r_28.toInt.toNat (fun i => f_n (f_gp k x y) ((t_N k P x y) i).toNatClampNeg) (0 : Int32).toNatClampNeg) (0 : Int32).toNatClampNeg : Int) ∧ (0 : Int32).toInt ≤ z.toInt := by
  exact ⟨rfl, Int32.le_iff_toInt_le.mp hz.1⟩
set_option maxRecDepth 100000 in
theorem g_X9_falseAt_k_v36 (u : qS) (x : Int32) (y : Int32) (z : Int32) (k : qS) (P : Nat → Int32) (S : Nat → Int32) (u_22 : qS) (u_26 : qS) (r_28 : Int32) (hk : CT k P u) (hQ : qFD 10 S u) (ha : f_a1 k S) (hz : 0 ≤ z ∧ z ≤ 11) (hz8 : 0 ≤ u.1 8 ∧ u.1 8 ≤ 20) (hz9 : 0 ≤ u.1 9 ∧ u.1 9 ≤ 8) (hz10 : 0 ≤ u.1 10 ∧ u.1 10 ≤ 120) (hz12 : 0 ≤ u.1 12 ∧ u.1 12 ≤ 16) (hz908 : 0 ≤ u.1 908 ∧ u.1 908 ≤ 12) (hw_23 : qG (k) u_22 (t_N (k) (P) x y) ∧ (u_22.1 908).toInt = (k_ct (t_mb (k) (P) x y) ((k).1 1247).toNatClampNeg : Int) ∧ (∀ j : Nat, j < (u_22.1 908).toNatClampNeg → u_22.2.1 907 j = 0)) (hw_27 : t_ua (fun i j => t_bo (k) (((t_N k P x y)) i) (((t_N k P x y)) j)) ((u_22.2.1 907)) (u_26.2.1 905) ((u_22.1 908 : Int32)).toNatClampNeg ∧ t_mx (u_26.2.1 905) r_28 ((u_22.1 908 : Int32)).toNatClampNeg) : t_la k x y (0 : Int32).toNatClampNeg ((-1) : Int32) := by
  exact ⟨fun _ => rfl, fun q e => by cases e⟩
set_option maxHeartbeats 1000000 in
set_option maxRecDepth 100000 in
theorem g_X9_falseAt_k (l : Launch) (E : qE) (A : Nat → Prop) (u : qS) (x : Int32) (y : Int32) (z : Int32) (k : qS) (P : Nat → Int32) (S : Nat → Int32) (hI : IC E u) (hk : CT k P u) (hQ : qFD 10 S u) (ha : f_a1 k S) (hz : 0 ≤ z ∧ z ≤ 11) : Met l yX9_falseAt (uws yX9_falseAt cX9_falseAt 9 (some .int)) (qR 5 0 0) (qPc E A 0 u [.ref (E.2.2 999), .int x, .int y, .int z]) (qQi E A 0 (fun r u1 => (qFc [908] [905, 907] [] [904] u u1 ∧ IC E u1 ∧ u1.2.2.2.2 = u.2.2.2.2) ∧ (k_nth (s_b (f_fz k x y)) (f_n (f_gp k x y) (k.1 1247).toNatClampNeg) z.toNatClampNeg (f_V k x y) r))) 0 0 A := by
  refine q_met (own := RX9) (f := 5) [.ref (E.2.2 999), .int x, .int y, .int z] (by decide) (Nat.le_of_ble_eq_true rfl) rfl ?_
  intro p0 e0 s0 m0 bl0 me0 cd0 ls hF hr hlocks hU hS hA hl
  have hl : lv_has ls 9 [(0, .ref (E.2.2 999)), (1, .int x), (2, .int y), (3, .int z)] := hl
  have hkd : u.2.2.2.2 = u.2.2.2.2 := rfl
  have hz8 : 0 ≤ u.1 8 ∧ u.1 8 ≤ 20 := hI.1.s8
  have hz9 : 0 ≤ u.1 9 ∧ u.1 9 ≤ 8 := hI.1.s9
  have hz10 : 0 ≤ u.1 10 ∧ u.1 10 ≤ 120 := hI.1.s10
  have hz12 : 0 ≤ u.1 12 ∧ u.1 12 ≤ 16 := hI.1.s12
  have hz908 : 0 ≤ u.1 908 ∧ u.1 908 ≤ 12 := hI.1.s908
  have hfr : qFc [908] [905, 907] [] [904] u u := qFc.rf
  have main : ∀ n : Nat, (∀ (x4 : Int32) (x5 : Int32) (x6 : Int32) (x7 : Int32) (uc : qS) (H : Heap) (locs : List Loc) (ls : Array Slot) (hfr : qFc [908] [905, 907] [] [904] u uc) (hI : IC E uc) (hkd : uc.2.2.2.2 = u.2.2.2.2) (h_k : 0 ≤ x7 ∧ x7 ≤ uc.1 908) (h_G : qG k uc (t_N k P x y)) (h_s : (uc.1 908).toInt = ((k_ct (t_mb k P x y) (k.1 1247).toNatClampNeg) : Int)) (h_9 : 0 ≤ uc.1 908 ∧ uc.1 908 ≤ 12) (h_4 : 0 ≤ x4.toInt) (h_L : t_lo k (t_N k P x y) (k_ct (t_mb k P x y) (k.1 1247).toNatClampNeg) x4.toInt.toNat) (h_O : t_Os k x y (t_N k P x y) (k_ct (t_mb k P x y) (k.1 1247).toNatClampNeg) x4.toInt.toNat x7.toNatClampNeg (uc.2.1 907)) (h_5 : x5.toInt = (k_ct (k_gr (fun i j => t_bo k ((t_N k P x y) i) ((t_N k P x y) j)) (k_ct (t_mb k P x y) (k.1 1247).toNatClampNeg) x4.toInt.toNat (fun i => f_n (f_gp k x y) ((t_N k P x y) i).toNatClampNeg) x7.toNatClampNeg) x7.toNatClampNeg : Int) ∧ x5.toInt ≤ z.toInt) (h_6 : t_la k x y x7.toNatClampNeg x6), ((uc.1 908).toInt - x7.toInt).toNat < n → qH E A 0 uc s0 H → va_S A s0.heap H locs → lv_has ls 9 [(0, .ref (E.2.2 999)), (1, .int x), (2, .int y), (3, .int z), (4, .int x4), (5, .int x5), (6, .int x6), (7, .int x7)] → W p0 l e0 (qR 5 0 0) s0 m0 ([.ref (E.2.2 999), .int x, .int y, .int z] : List Value).toArray bl0 me0 cd0 H locs 0 0 (MQ bl0 (qQi E A 0 (fun r u1 => (qFc [908] [905, 907] [] [904] u u1 ∧ IC E u1 ∧ u1.2.2.2.2 = u.2.2.2.2) ∧ (k_nth (s_b (f_fz k x y)) (f_n (f_gp k x y) (k.1 1247).toNatClampNeg) z.toNatClampNeg (f_V k x y) r))) ([.ref (E.2.2 999), .int x, .int y, .int z] : List Value).toArray s0 0 0 A) (F0 m0 22 ls [])) := by
    clear hI hfr hkd
    intro n
    induction n with
    | zero => exact fun _ _ _ _ _ _ _ _ _ _ _ _ _ _ _ _ _ _ _ _ hmu => absurd hmu (Nat.not_lt_zero _)
    | succ n ih =>
      intro x4 x5 x6 x7 uc H locs ls hfr hI hkd h_k h_G h_s h_9 h_4 h_L h_O h_5 h_6 hmu hU hS hl
      refine lv_iload hF.1 hF.2.1 dX9_falseAt_22 (lv_at hl 7 rfl) ?_
      refine lv_aload_n hF.1 hF.2.1 dX9_falseAt_24 rfl (lv_at hl 0 rfl) ?_
      refine q_get (v := .int (uc.1 908)) hF hU dX9_falseAt_25 4 9 8 908 999 rfl rfl rfl rfl inX9 (by decide) (by decide) w_310 rfl rfl ?_
      refine lv_icmp_ge (tgt := 105) hF.1 hF.2.1 dX9_falseAt_28 (by decide) (fun c28_1 => ?_) (fun c28_1 => ?_)
      · refine lv_iconst (v := (-1)) hF.1 hF.2.1 dX9_falseAt_105 (by decide) ?_
        exact q_iret hF hr rfl hlocks hU hS dX9_falseAt_106 ⟨⟨hfr, hI, hkd⟩, (g_X9_falseAt_k_v0 u x y z k P S x4 x5 x6 x7 uc hk hQ ha hz hz8 hz9 hz10 hz12 hz908 h_k h_G h_s h_9 h_4 h_L h_O h_5 h_6 c28_1)⟩
      · refine lv_aload_n hF.1 hF.2.1 dX9_falseAt_31 rfl (lv_at hl 0 rfl) ?_
        refine lv_iload hF.1 hF.2.1 dX9_falseAt_32 (lv_at hl 6 rfl) ?_
        have hM9 := g_X9_nextByNumber_k l E A uc x6 k P (t_N k P x y) hI (hk.fr hfr (by decide) (by decide)) h_G
        have hR9 := q_runV (l := l) (e := e0) (below := bl0) (meth := me0) (R := qR 5 0 0) (cells := 0) (slots := 0) (st0 := [.int x6, .ref (E.2.2 999)]) (rest := []) hF hU hS hA 1 4 9 999 rfl rfl rfl hM9 w_923 w_925 w_24 w_103 w_926 (by decide +kernel) ⟨Nat.le_of_ble_eq_true rfl, Nat.le_of_ble_eq_true rfl⟩ dX9_falseAt_34 rfl hl.1 rfl (Nat.le_of_ble_eq_true rfl) ⟨Nat.le_of_ble_eq_true rfl, Nat.le_of_ble_eq_true rfl⟩
        refine q_calli hR9 hU.2.2.2 hS (fun r_4 u_2 H locs hw_3 hU hS => ?_)
        obtain ⟨hw_3_e, hw_3⟩ := hw_3
        rw [hw_3_e] at hU
        have hw_3 : t_nb ((t_N k P x y)) ((uc.1 908 : Int32)).toNatClampNeg x6 r_4 := hw_3
        refine lv_istore (lv' := [(8, .int r_4), (0, .ref (E.2.2 999)), (1, .int x), (2, .int y), (3, .int z), (4, .int x4), (5, .int x5), (6, .int x6), (7, .int x7)]) hF.1 hF.2.1 dX9_falseAt_37 hl (by decide) rfl (fun ls hl => ?_)
        refine lv_iload hF.1 hF.2.1 dX9_falseAt_39 (lv_at hl 0 rfl) ?_
        refine lv_iconst (v := (-1)) hF.1 hF.2.1 dX9_falseAt_41 (by decide) ?_
        refine lv_icmp_ne (tgt := 47) hF.1 hF.2.1 dX9_falseAt_42 (by decide) (fun c42_5 => ?_) (fun c42_5 => ?_)
        · refine lv_aload_n hF.1 hF.2.1 dX9_falseAt_47 rfl (lv_at hl 1 rfl) ?_
          refine q_get (v := .ref (E.2.2 904)) hF hU dX9_falseAt_48 4 9 4 904 999 rfl rfl rfl rfl inX9 (by decide) (by decide) w_306 rfl rfl ?_
          refine lv_iload hF.1 hF.2.1 dX9_falseAt_51 (lv_at hl 0 rfl) ?_
          obtain ⟨a_6, ha_6_7_e, ha_6_7⟩ := hI.r904 r_4 (g_X9_falseAt_k_v1 u x y z k P S x4 x5 x6 x7 uc r_4 hk hQ ha hz hz8 hz9 hz10 hz12 hz908 h_k h_G h_s h_9 h_4 h_L h_O h_5 h_6 c28_1 hw_3 c42_5)
          refine q_aald (v := .ref a_6) hF hU dX9_falseAt_53 11 904 6 rfl rfl (by decide) rfl (g_X9_falseAt_k_v2 u x y z k P S x4 x5 x6 x7 uc r_4 hk hQ ha hz hz8 hz9 hz10 hz12 hz908 h_k h_G h_s h_9 h_4 h_L h_O h_5 h_6 c28_1 hw_3 c42_5) (by rw [ha_6_7_e]; rfl) ?_
          have hK_8 : qKn k uc a_6 ((t_N k P x y) (r_4 : Int32).toNatClampNeg) := h_G r_4 ((g_X9_falseAt_k_v3 u x y z k P S x4 x5 x6 x7 uc r_4 hk hQ ha hz hz8 hz9 hz10 hz12 hz908 h_k h_G h_s h_9 h_4 h_L h_O h_5 h_6 c28_1 hw_3 c42_5) : 0 ≤ r_4 ∧ r_4 < uc.1 908).1 ((g_X9_falseAt_k_v3 u x y z k P S x4 x5 x6 x7 uc r_4 hk hQ ha hz hz8 hz9 hz10 hz12 hz908 h_k h_G h_s h_9 h_4 h_L h_O h_5 h_6 c28_1 hw_3 c42_5) : 0 ≤ r_4 ∧ r_4 < uc.1 908).2 _ ha_6_7_e
          obtain ⟨k_9, fs_10, hd_11, hv_12⟩ := hK_8.at0
          refine q_getd (v := .int ((t_N k P x y) (r_4 : Int32).toNatClampNeg)) hF hU dX9_falseAt_54 k_9 10 0 hd_11 rfl inX10 (by decide) w_583 rfl hv_12 ?_
          refine lv_istore (lv' := [(6, .int ((t_N k P x y) (r_4 : Int32).toNatClampNeg)), (8, .int r_4), (0, .ref (E.2.2 999)), (1, .int x), (2, .int y), (3, .int z), (4, .int x4), (5, .int x5), (7, .int x7)]) hF.1 hF.2.1 dX9_falseAt_57 hl (by decide) rfl (fun ls hl => ?_)
          refine lv_aload_n hF.1 hF.2.1 dX9_falseAt_59 rfl (lv_at hl 2 rfl) ?_
          refine q_get (v := .ref (E.2.2 907)) hF hU dX9_falseAt_60 4 9 7 907 999 rfl rfl rfl rfl inX9 (by decide) (by decide) w_309 rfl rfl ?_
          refine lv_iload hF.1 hF.2.1 dX9_falseAt_63 (lv_at hl 1 rfl) ?_
          refine lv_iconst (v := 1) hF.1 hF.2.1 dX9_falseAt_65 (by decide) ?_
          refine q_zast hF hU hS dX9_falseAt_66 14 907 rfl rfl (g_X9_falseAt_k_v4 u x y z k P S x4 x5 x6 x7 uc r_4 hk hQ ha hz hz8 hz9 hz10 hz12 hz908 h_k h_G h_s h_9 h_4 h_L h_O h_5 h_6 c28_1 hw_3 c42_5) rfl (fun f_13 H locs hg9 hU hS => ?_)
          have hf_13 : f_13 = upd (uc.2.1 907) (r_4 : Int32).toNatClampNeg (vp_nar .boolean 1) := hg9
          have hfr : qFc [908] [905, 907] [] [904] u (qsF uc 907 f_13) := hfr.setF (by decide)
          have hI : IC E (qsF uc 907 f_13) := hI.sF (by decide)
          have hGt : qG k (qsF uc 907 f_13) (t_N k P x y) := h_G
          refine lv_aload_n hF.1 hF.2.1 dX9_falseAt_67 rfl (lv_at hl 2 rfl) ?_
          have hM9 := g_X9_longestUp_k l E A (qsF uc 907 f_13) k P (t_N k P x y) hI (hk.fr hfr (by decide) (by decide)) hGt
          have hR9 := q_runV (l := l) (e := e0) (below := bl0) (meth := me0) (R := qR 5 0 0) (cells := 0) (slots := 0) (st0 := [.ref (E.2.2 999)]) (rest := []) hF hU hS hA 0 4 9 999 rfl rfl rfl hM9 w_872 w_874 w_19 w_103 w_875 (by decide +kernel) ⟨Nat.le_of_ble_eq_true rfl, Nat.le_of_ble_eq_true rfl⟩ dX9_falseAt_68 rfl hl.1 rfl (Nat.le_of_ble_eq_true rfl) ⟨Nat.le_of_ble_eq_true rfl, Nat.le_of_ble_eq_true rfl⟩
          refine q_calli hR9 hU.2.2.2 hS (fun r_16 u_14 H locs hw_15 hU hS => ?_)
          obtain ⟨⟨hw_15_f, hI, hw_15_d⟩, hw_15⟩ := hw_15
          have hfo := hfr
          have hfr : qFc [908] [905, 907] [] [904] u u_14 := hfr.trans (hw_15_f.mono (by decide) (by decide) (by decide) (by decide))
          have e_17 : u_14.1 908 = (uc.1 908) := (hw_15_f.1 908 (by decide)).trans rfl
          have e_18 : u_14.2.1 907 = f_13 := (hw_15_f.2.1 907 (by decide)).trans rfl
          have hkd : u_14.2.2.2.2 = u.2.2.2.2 := hw_15_d.trans hkd
          have hGt : qG k u_14 (t_N k P x y) := hGt.fr hw_15_f (by decide) (by decide)
          have hw_15 : t_ua (fun i j => t_bo (k) (((t_N k P x y)) i) (((t_N k P x y)) j)) (f_13) (u_14.2.1 905) ((uc.1 908 : Int32)).toNatClampNeg ∧ t_mx (u_14.2.1 905) r_16 ((uc.1 908 : Int32)).toNatClampNeg := hw_15
          refine lv_iload hF.1 hF.2.1 dX9_falseAt_71 (lv_at hl 6 rfl) ?_
          refine lv_icmp_ge (tgt := 87) hF.1 hF.2.1 dX9_falseAt_73 (by decide) (fun c73_19 => ?_) (fun c73_19 => ?_)
          · refine lv_iload hF.1 hF.2.1 dX9_falseAt_87 (lv_at hl 7 rfl) ?_
            refine lv_iload_n hF.1 hF.2.1 dX9_falseAt_89 rfl (lv_at hl 5 rfl) ?_
            refine lv_icmp_ne (tgt := 96) hF.1 hF.2.1 dX9_falseAt_90 (by decide) (fun c90_20 => ?_) (fun c90_20 => ?_)
            · refine lv_iinc (v := x5 + 1) (lv' := [(5, .int (x5 + 1)), (6, .int ((t_N k P x y) (r_4 : Int32).toNatClampNeg)), (8, .int r_4), (0, .ref (E.2.2 999)), (1, .int x), (2, .int y), (3, .int z), (4, .int x4), (7, .int x7)]) hF.1 hF.2.1 dX9_falseAt_96 hl (k := 7) rfl rfl (by decide) rfl (fun ls hl => ?_)
              refine lv_iinc (v := x7 + 1) (lv' := [(7, .int (x7 + 1)), (5, .int (x5 + 1)), (6, .int ((t_N k P x y) (r_4 : Int32).toNatClampNeg)), (8, .int r_4), (0, .ref (E.2.2 999)), (1, .int x), (2, .int y), (3, .int z), (4, .int x4)]) hF.1 hF.2.1 dX9_falseAt_99 hl (k := 8) rfl rfl (by decide) rfl (fun ls hl => ?_)
              refine lv_goto (tgt := 22) hF.1 hF.2.1 dX9_falseAt_102 (by decide) ?_
              exact ih x4 (x5 + 1) ((t_N k P x y) (r_4 : Int32).toNatClampNeg) (x7 + 1) u_14 _ _ _ hfr hI hkd  (by rw [show (u_14).1 908 = (uc.1 908) from e_17]; exact (g_X9_falseAt_k_v5 u x y z k P S x4 x5 x6 x7 uc r_4 f_13 u_14 r_16 hk hQ ha hz hz8 hz9 hz10 hz12 hz908 h_k h_G h_s h_9 h_4 h_L h_O h_5 h_6 c28_1 hw_3 c42_5 hf_13 hw_15 c73_19 c90_20)) hGt (by rw [show (u_14).1 908 = (uc.1 908) from e_17]; exact (g_X9_falseAt_k_v6 u x y z k P S x4 x5 x6 x7 uc r_4 f_13 u_14 r_16 hk hQ ha hz hz8 hz9 hz10 hz12 hz908 h_k h_G h_s h_9 h_4 h_L h_O h_5 h_6 c28_1 hw_3 c42_5 hf_13 hw_15 c73_19 c90_20)) (by rw [show (u_14).1 908 = (uc.1 908) from e_17]; exact (g_X9_falseAt_k_v7 u x y z k P S x4 x5 x6 x7 uc r_4 f_13 u_14 r_16 hk hQ ha hz hz8 hz9 hz10 hz12 hz908 h_k h_G h_s h_9 h_4 h_L h_O h_5 h_6 c28_1 hw_3 c42_5 hf_13 hw_15 c73_19 c90_20)) (g_X9_falseAt_k_v8 u x y z k P S x4 x5 x6 x7 uc r_4 f_13 u_14 r_16 hk hQ ha hz hz8 hz9 hz10 hz12 hz908 h_k h_G h_s h_9 h_4 h_L h_O h_5 h_6 c28_1 hw_3 c42_5 hf_13 hw_15 c73_19 c90_20) (g_X9_falseAt_k_v9 u x y z k P S x4 x5 x6 x7 uc r_4 f_13 u_14 r_16 hk hQ ha hz hz8 hz9 hz10 hz12 hz908 h_k h_G h_s h_9 h_4 h_L h_O h_5 h_6 c28_1 hw_3 c42_5 hf_13 hw_15 c73_19 c90_20) (by rw [show (u_14).2.1 907 = f_13 from e_18]; exact (g_X9_falseAt_k_v10 u x y z k P S x4 x5 x6 x7 uc r_4 f_13 u_14 r_16 hk hQ ha hz hz8 hz9 hz10 hz12 hz908 h_k h_G h_s h_9 h_4 h_L h_O h_5 h_6 c28_1 hw_3 c42_5 hf_13 hw_15 c73_19 c90_20)) (g_X9_falseAt_k_v11 u x y z k P S x4 x5 x6 x7 uc r_4 f_13 u_14 r_16 hk hQ ha hz hz8 hz9 hz10 hz12 hz908 h_k h_G h_s h_9 h_4 h_L h_O h_5 h_6 c28_1 hw_3 c42_5 hf_13 hw_15 c73_19 c90_20) (g_X9_falseAt_k_v12 u x y z k P S x4 x5 x6 x7 uc r_4 f_13 u_14 r_16 hk hQ ha hz hz8 hz9 hz10 hz12 hz908 h_k h_G h_s h_9 h_4 h_L h_O h_5 h_6 c28_1 hw_3 c42_5 hf_13 hw_15 c73_19 c90_20) (Nat.lt_of_lt_of_le (by rw [show (u_14).1 908 = (uc.1 908) from e_17]; exact (g_X9_falseAt_k_v13 u x y z k P S x4 x5 x6 x7 uc r_4 f_13 u_14 r_16 hk hQ ha hz hz8 hz9 hz10 hz12 hz908 h_k h_G h_s h_9 h_4 h_L h_O h_5 h_6 c28_1 hw_3 c42_5 hf_13 hw_15 c73_19 c90_20)) (Nat.lt_succ_iff.mp hmu)) hU hS (lv_sub hl [4, 5, 6, 7, 8, 1, 2, 0] rfl)
            · refine lv_iload hF.1 hF.2.1 dX9_falseAt_93 (lv_at hl 0 rfl) ?_
              exact q_iret hF hr rfl hlocks hU hS dX9_falseAt_95 ⟨⟨hfr, hI, hkd⟩, (g_X9_falseAt_k_v14 u x y z k P S x4 x5 x6 x7 uc r_4 f_13 u_14 r_16 hk hQ ha hz hz8 hz9 hz10 hz12 hz908 h_k h_G h_s h_9 h_4 h_L h_O h_5 h_6 c28_1 hw_3 c42_5 hf_13 hw_15 c73_19 c90_20)⟩
          · refine lv_aload_n hF.1 hF.2.1 dX9_falseAt_76 rfl (lv_at hl 2 rfl) ?_
            refine q_get (v := .ref (E.2.2 907)) hF hU dX9_falseAt_77 4 9 7 907 999 rfl rfl rfl rfl inX9 (by decide) (by decide) w_309 rfl rfl ?_
            refine lv_iload hF.1 hF.2.1 dX9_falseAt_80 (lv_at hl 1 rfl) ?_
            refine lv_iconst (v := 0) hF.1 hF.2.1 dX9_falseAt_82 (by decide) ?_
            refine q_zast hF hU hS dX9_falseAt_83 14 907 rfl rfl (g_X9_falseAt_k_v15 u x y z k P S x4 x5 x6 x7 uc r_4 f_13 u_14 r_16 hk hQ ha hz hz8 hz9 hz10 hz12 hz908 h_k h_G h_s h_9 h_4 h_L h_O h_5 h_6 c28_1 hw_3 c42_5 hf_13 hw_15 c73_19) rfl (fun f_21 H locs hg9 hU hS => ?_)
            have hf_21 : f_21 = upd (f_13) (r_4 : Int32).toNatClampNeg (vp_nar .boolean 0) := by rw [show (u_14).2.1 907 = f_13 from e_18] at hg9; exact hg9
            have hfr : qFc [908] [905, 907] [] [904] u (qsF u_14 907 f_21) := hfr.setF (by decide)
            have hI : IC E (qsF u_14 907 f_21) := hI.sF (by decide)
            have hGt : qG k (qsF u_14 907 f_21) (t_N k P x y) := hGt
            refine lv_goto (tgt := 99) hF.1 hF.2.1 dX9_falseAt_84 (by decide) ?_
            refine lv_iinc (v := x7 + 1) (lv' := [(7, .int (x7 + 1)), (6, .int ((t_N k P x y) (r_4 : Int32).toNatClampNeg)), (8, .int r_4), (0, .ref (E.2.2 999)), (1, .int x), (2, .int y), (3, .int z), (4, .int x4), (5, .int x5)]) hF.1 hF.2.1 dX9_falseAt_99 hl (k := 8) rfl rfl (by decide) rfl (fun ls hl => ?_)
            refine lv_goto (tgt := 22) hF.1 hF.2.1 dX9_falseAt_102 (by decide) ?_
            exact ih x4 x5 ((t_N k P x y) (r_4 : Int32).toNatClampNeg) (x7 + 1) (qsF u_14 907 f_21) _ _ _ hfr hI hkd  (by rw [show (qsF u_14 907 f_21).1 908 = (uc.1 908) from e_17]; exact (g_X9_falseAt_k_v16 u x y z k P S x4 x5 x6 x7 uc r_4 f_13 u_14 r_16 f_21 hk hQ ha hz hz8 hz9 hz10 hz12 hz908 h_k h_G h_s h_9 h_4 h_L h_O h_5 h_6 c28_1 hw_3 c42_5 hf_13 hw_15 c73_19 hf_21)) hGt (by rw [show (qsF u_14 907 f_21).1 908 = (uc.1 908) from e_17]; exact (g_X9_falseAt_k_v17 u x y z k P S x4 x5 x6 x7 uc r_4 f_13 u_14 r_16 f_21 hk hQ ha hz hz8 hz9 hz10 hz12 hz908 h_k h_G h_s h_9 h_4 h_L h_O h_5 h_6 c28_1 hw_3 c42_5 hf_13 hw_15 c73_19 hf_21)) (by rw [show (qsF u_14 907 f_21).1 908 = (uc.1 908) from e_17]; exact (g_X9_falseAt_k_v18 u x y z k P S x4 x5 x6 x7 uc r_4 f_13 u_14 r_16 f_21 hk hQ ha hz hz8 hz9 hz10 hz12 hz908 h_k h_G h_s h_9 h_4 h_L h_O h_5 h_6 c28_1 hw_3 c42_5 hf_13 hw_15 c73_19 hf_21)) (g_X9_falseAt_k_v19 u x y z k P S x4 x5 x6 x7 uc r_4 f_13 u_14 r_16 f_21 hk hQ ha hz hz8 hz9 hz10 hz12 hz908 h_k h_G h_s h_9 h_4 h_L h_O h_5 h_6 c28_1 hw_3 c42_5 hf_13 hw_15 c73_19 hf_21) (g_X9_falseAt_k_v20 u x y z k P S x4 x5 x6 x7 uc r_4 f_13 u_14 r_16 f_21 hk hQ ha hz hz8 hz9 hz10 hz12 hz908 h_k h_G h_s h_9 h_4 h_L h_O h_5 h_6 c28_1 hw_3 c42_5 hf_13 hw_15 c73_19 hf_21) (g_X9_falseAt_k_v21 u x y z k P S x4 x5 x6 x7 uc r_4 f_13 u_14 r_16 f_21 hk hQ ha hz hz8 hz9 hz10 hz12 hz908 h_k h_G h_s h_9 h_4 h_L h_O h_5 h_6 c28_1 hw_3 c42_5 hf_13 hw_15 c73_19 hf_21) (g_X9_falseAt_k_v22 u x y z k P S x4 x5 x6 x7 uc r_4 f_13 u_14 r_16 f_21 hk hQ ha hz hz8 hz9 hz10 hz12 hz908 h_k h_G h_s h_9 h_4 h_L h_O h_5 h_6 c28_1 hw_3 c42_5 hf_13 hw_15 c73_19 hf_21) (g_X9_falseAt_k_v23 u x y z k P S x4 x5 x6 x7 uc r_4 f_13 u_14 r_16 f_21 hk hQ ha hz hz8 hz9 hz10 hz12 hz908 h_k h_G h_s h_9 h_4 h_L h_O h_5 h_6 c28_1 hw_3 c42_5 hf_13 hw_15 c73_19 hf_21) (Nat.lt_of_lt_of_le (by rw [show (qsF u_14 907 f_21).1 908 = (uc.1 908) from e_17]; exact (g_X9_falseAt_k_v24 u x y z k P S x4 x5 x6 x7 uc r_4 f_13 u_14 r_16 f_21 hk hQ ha hz hz8 hz9 hz10 hz12 hz908 h_k h_G h_s h_9 h_4 h_L h_O h_5 h_6 c28_1 hw_3 c42_5 hf_13 hw_15 c73_19 hf_21)) (Nat.lt_succ_iff.mp hmu)) hU hS (lv_sub hl [3, 4, 5, 6, 7, 8, 1, 0] rfl)
        · refine lv_iconst (v := (-1)) hF.1 hF.2.1 dX9_falseAt_45 (by decide) ?_
          exact q_iret hF hr rfl hlocks hU hS dX9_falseAt_46 ⟨⟨hfr, hI, hkd⟩, (g_X9_falseAt_k_v25 u x y z k P S x4 x5 x6 x7 uc r_4 hk hQ ha hz hz8 hz9 hz10 hz12 hz908 h_k h_G h_s h_9 h_4 h_L h_O h_5 h_6 c28_1 hw_3 c42_5)⟩
  refine lv_aload_n hF.1 hF.2.1 dX9_falseAt_0 rfl (lv_at hl 0 rfl) ?_
  refine lv_iconst (v := 0) hF.1 hF.2.1 dX9_falseAt_1 (by decide) ?_
  refine lv_iload_n hF.1 hF.2.1 dX9_falseAt_2 rfl (lv_at hl 1 rfl) ?_
  refine lv_iload_n hF.1 hF.2.1 dX9_falseAt_3 rfl (lv_at hl 2 rfl) ?_
  have hM9 := g_X9_gather_k l E A u 0 x y k P S hI hk hQ (g_X9_falseAt_k_v26 u z k P S hk hQ ha hz hz8 hz9 hz10 hz12 hz908) (g_X9_falseAt_k_v27 u z k P S hk hQ ha hz hz8 hz9 hz10 hz12 hz908) (g_X9_falseAt_k_v28 u x y z k P S hk hQ ha hz hz8 hz9 hz10 hz12 hz908)
  have hR9 := q_runV (l := l) (e := e0) (below := bl0) (meth := me0) (R := qR 5 0 0) (cells := 0) (slots := 0) (st0 := [.int y, .int x, .int 0, .ref (E.2.2 999)]) (rest := []) hF hU hS hA 3 4 9 999 rfl rfl rfl hM9 w_864 w_866 w_17 w_103 w_867 (by decide +kernel) ⟨Nat.le_of_ble_eq_true rfl, Nat.le_of_ble_eq_true rfl⟩ dX9_falseAt_4 rfl hl.1 rfl (Nat.le_of_ble_eq_true rfl) ⟨Nat.le_of_ble_eq_true rfl, Nat.le_of_ble_eq_true rfl⟩
  refine q_callv hR9 hU.2.2.2 hS (fun u_22 H locs hw_23 hU hS => ?_)
  obtain ⟨⟨hw_23_f, hI, hw_23_d⟩, hw_23⟩ := hw_23
  have hfo := hfr
  have hfr : qFc [908] [905, 907] [] [904] u u_22 := hfr.trans (hw_23_f.mono (by decide) (by decide) (by decide) (by decide))
  have e_25 : u_22.2.1 905 = (u.2.1 905) := (hw_23_f.2.1 905 (by decide)).trans rfl
  have hkd : u_22.2.2.2.2 = u.2.2.2.2 := hw_23_d.trans hkd
  have hw_23 : qG (k) u_22 (t_N (k) (P) x y) ∧ (u_22.1 908).toInt = (k_ct (t_mb (k) (P) x y) ((k).1 1247).toNatClampNeg : Int) ∧ (∀ j : Nat, j < (u_22.1 908).toNatClampNeg → u_22.2.1 907 j = 0) := hw_23
  refine lv_aload_n hF.1 hF.2.1 dX9_falseAt_7 rfl (lv_at hl 0 rfl) ?_
  have hM9 := g_X9_longestUp_k l E A u_22 k P (t_N k P x y) hI (hk.fr hfr (by decide) (by decide)) hw_23.1
  have hR9 := q_runV (l := l) (e := e0) (below := bl0) (meth := me0) (R := qR 5 0 0) (cells := 0) (slots := 0) (st0 := [.ref (E.2.2 999)]) (rest := []) hF hU hS hA 0 4 9 999 rfl rfl rfl hM9 w_872 w_874 w_19 w_103 w_875 (by decide +kernel) ⟨Nat.le_of_ble_eq_true rfl, Nat.le_of_ble_eq_true rfl⟩ dX9_falseAt_8 rfl hl.1 rfl (Nat.le_of_ble_eq_true rfl) ⟨Nat.le_of_ble_eq_true rfl, Nat.le_of_ble_eq_true rfl⟩
  refine q_calli hR9 hU.2.2.2 hS (fun r_28 u_26 H locs hw_27 hU hS => ?_)
  obtain ⟨⟨hw_27_f, hI, hw_27_d⟩, hw_27⟩ := hw_27
  have hfo := hfr
  have hfr : qFc [908] [905, 907] [] [904] u u_26 := hfr.trans (hw_27_f.mono (by decide) (by decide) (by decide) (by decide))
  have e_29 : u_26.1 908 = (u_22.1 908) := (hw_27_f.1 908 (by decide)).trans rfl
  have e_30 : u_26.2.1 907 = (u_22.2.1 907) := (hw_27_f.2.1 907 (by decide)).trans rfl
  have hkd : u_26.2.2.2.2 = u.2.2.2.2 := hw_27_d.trans hkd
  have hGt : qG k u_26 (t_N k P x y) := hw_23.1.fr hw_27_f (by decide) (by decide)
  have hw_27 : t_ua (fun i j => t_bo (k) (((t_N k P x y)) i) (((t_N k P x y)) j)) ((u_22.2.1 907)) (u_26.2.1 905) ((u_22.1 908 : Int32)).toNatClampNeg ∧ t_mx (u_26.2.1 905) r_28 ((u_22.1 908 : Int32)).toNatClampNeg := hw_27
  refine lv_istore (lv' := [(4, .int r_28), (0, .ref (E.2.2 999)), (1, .int x), (2, .int y), (3, .int z)]) hF.1 hF.2.1 dX9_falseAt_11 hl (by decide) rfl (fun ls hl => ?_)
  refine lv_iconst (v := 0) hF.1 hF.2.1 dX9_falseAt_13 (by decide) ?_
  refine lv_istore (lv' := [(5, .int 0), (4, .int r_28), (0, .ref (E.2.2 999)), (1, .int x), (2, .int y), (3, .int z)]) hF.1 hF.2.1 dX9_falseAt_14 hl (by decide) rfl (fun ls hl => ?_)
  refine lv_iconst (v := (-1)) hF.1 hF.2.1 dX9_falseAt_16 (by decide) ?_
  refine lv_istore (lv' := [(6, .int (-1)), (5, .int 0), (4, .int r_28), (0, .ref (E.2.2 999)), (1, .int x), (2, .int y), (3, .int z)]) hF.1 hF.2.1 dX9_falseAt_17 hl (by decide) rfl (fun ls hl => ?_)
  refine lv_iconst (v := 0) hF.1 hF.2.1 dX9_falseAt_19 (by decide) ?_
  refine lv_istore (lv' := [(7, .int 0), (6, .int (-1)), (5, .int 0), (4, .int r_28), (0, .ref (E.2.2 999)), (1, .int x), (2, .int y), (3, .int z)]) hF.1 hF.2.1 dX9_falseAt_20 hl (by decide) rfl (fun ls hl => ?_)
  exact (main _) r_28 (0 : Int32) ((-1) : Int32) (0 : Int32) u_26 _ _ _ hfr hI hkd  (by rw [show (u_26).1 908 = (u_22.1 908) from e_29]; exact (g_X9_falseAt_k_v29 u x y z k P S u_22 u_26 r_28 hk hQ ha hz hz8 hz9 hz10 hz12 hz908 hw_23 hw_27)) hGt (by rw [show (u_26).1 908 = (u_22.1 908) from e_29]; exact (g_X9_falseAt_k_v30 u x y z k P S u_22 u_26 r_28 hk hQ ha hz hz8 hz9 hz10 hz12 hz908 hw_23 hw_27)) (by rw [show (u_26).1 908 = (u_22.1 908) from e_29]; exact (g_X9_falseAt_k_v31 u x y z k P S u_22 u_26 r_28 hk hQ ha hz hz8 hz9 hz10 hz12 hz908 hw_23 hw_27)) (g_X9_falseAt_k_v32 u x y z k P S u_22 u_26 r_28 hk hQ ha hz hz8 hz9 hz10 hz12 hz908 hw_23 hw_27) (g_X9_falseAt_k_v33 u x y z k P S u_22 u_26 r_28 hk hQ ha hz hz8 hz9 hz10 hz12 hz908 hw_23 hw_27) (by rw [show (u_26).2.1 907 = (u_22.2.1 907) from e_30]; exact (g_X9_falseAt_k_v34 u x y z k P S u_22 u_26 r_28 hk hQ ha hz hz8 hz9 hz10 hz12 hz908 hw_23 hw_27)) (g_X9_falseAt_k_v35 u x y z k P S u_22 u_26 r_28 hk hQ ha hz hz8 hz9 hz10 hz12 hz908 hw_23 hw_27) (g_X9_falseAt_k_v36 u x y z k P S u_22 u_26 r_28 hk hQ ha hz hz8 hz9 hz10 hz12 hz908 hw_23 hw_27) (Nat.lt_succ_self _) hU hS (lv_sub hl [4, 5, 6, 7, 3, 2, 1, 0] rfl)
