set_option maxRecDepth 100000 in
theorem g_X12_isLetter_n_v0 (x : Int32) (c3_1 : (x : Int32) < 97) : (0 = (1 : Int32) ∧ (97 ≤ x ∧ x ≤ 122)) ∨ (0 = (0 : Int32) ∧ ¬ (97 ≤ x ∧ x ≤ 122)) := by
  first | omega | ((try simp only [g_m1, Int32.lt_iff_toInt_lt, Int32.le_iff_toInt_le, ← Int32.toInt_inj, Int32.reduceToInt] at *); omega) | ((try simp only [g_m1, Int32.lt_iff_toInt_lt, Int32.le_iff_toInt_le, ← Int32.toInt_inj, Int32.reduceToInt] at *); omega) | ((try simp only [g_m1, Int32.lt_iff_toInt_lt, Int32.le_iff_toInt_le, ← Int32.toInt_inj, Int32.toInt_add, Int32.toInt_sub, Int32.toInt_mul, Int32.toInt_neg, Int32.reduceToInt, g_bm, g_bm'] at *); omega) | (have qr1 := g_rng x; (try simp only [g_m1, Int32.lt_iff_toInt_lt, Int32.le_iff_toInt_le, ← Int32.toInt_inj, Int32.toInt_add, Int32.toInt_sub, Int32.toInt_mul, Int32.toInt_neg, Int32.reduceToInt, g_bm, g_bm'] at *); omega) | (simp only [g_m1, Int32.lt_iff_toInt_lt, Int32.le_iff_toInt_le, ← Int32.toInt_inj, Int32.toInt_add, Int32.toInt_sub, Int32.toInt_mul, Int32.toInt_neg, Int32.reduceToInt, g_bm, g_bm'] at *; simp at *; omega) | (simp_all; done)
set_option maxRecDepth 100000 in
theorem g_X12_isLetter_n_v1 (x : Int32) (c3_1 : ¬ (x : Int32) < 97) (c9_2 : 122 < (x : Int32)) : (0 = (1 : Int32) ∧ (97 ≤ x ∧ x ≤ 122)) ∨ (0 = (0 : Int32) ∧ ¬ (97 ≤ x ∧ x ≤ 122)) := by
  first | omega | ((try simp only [g_m1, Int32.lt_iff_toInt_lt, Int32.le_iff_toInt_le, ← Int32.toInt_inj, Int32.reduceToInt] at *); omega) | ((try simp only [g_m1, Int32.lt_iff_toInt_lt, Int32.le_iff_toInt_le, ← Int32.toInt_inj, Int32.reduceToInt] at *); omega) | ((try simp only [g_m1, Int32.lt_iff_toInt_lt, Int32.le_iff_toInt_le, ← Int32.toInt_inj, Int32.toInt_add, Int32.toInt_sub, Int32.toInt_mul, Int32.toInt_neg, Int32.reduceToInt, g_bm, g_bm'] at *); omega) | (have qr1 := g_rng x; (try simp only [g_m1, Int32.lt_iff_toInt_lt, Int32.le_iff_toInt_le, ← Int32.toInt_inj, Int32.toInt_add, Int32.toInt_sub, Int32.toInt_mul, Int32.toInt_neg, Int32.reduceToInt, g_bm, g_bm'] at *); omega) | (simp only [g_m1, Int32.lt_iff_toInt_lt, Int32.le_iff_toInt_le, ← Int32.toInt_inj, Int32.toInt_add, Int32.toInt_sub, Int32.toInt_mul, Int32.toInt_neg, Int32.reduceToInt, g_bm, g_bm'] at *; simp at *; omega) | (simp_all; done)
set_option maxRecDepth 100000 in
theorem g_X12_isLetter_n_v2 (x : Int32) (c3_1 : ¬ (x : Int32) < 97) (c9_2 : ¬ 122 < (x : Int32)) : (1 = (1 : Int32) ∧ (97 ≤ x ∧ x ≤ 122)) ∨ (1 = (0 : Int32) ∧ ¬ (97 ≤ x ∧ x ≤ 122)) := by
  first | omega | ((try simp only [g_m1, Int32.lt_iff_toInt_lt, Int32.le_iff_toInt_le, ← Int32.toInt_inj, Int32.reduceToInt] at *); omega) | ((try simp only [g_m1, Int32.lt_iff_toInt_lt, Int32.le_iff_toInt_le, ← Int32.toInt_inj, Int32.reduceToInt] at *); omega) | ((try simp only [g_m1, Int32.lt_iff_toInt_lt, Int32.le_iff_toInt_le, ← Int32.toInt_inj, Int32.toInt_add, Int32.toInt_sub, Int32.toInt_mul, Int32.toInt_neg, Int32.reduceToInt, g_bm, g_bm'] at *); omega) | (have qr1 := g_rng x; (try simp only [g_m1, Int32.lt_iff_toInt_lt, Int32.le_iff_toInt_le, ← Int32.toInt_inj, Int32.toInt_add, Int32.toInt_sub, Int32.toInt_mul, Int32.toInt_neg, Int32.reduceToInt, g_bm, g_bm'] at *); omega) | (simp only [g_m1, Int32.lt_iff_toInt_lt, Int32.le_iff_toInt_le, ← Int32.toInt_inj, Int32.toInt_add, Int32.toInt_sub, Int32.toInt_mul, Int32.toInt_neg, Int32.reduceToInt, g_bm, g_bm'] at *; simp at *; omega) | (simp_all; done)
set_option maxHeartbeats 1000000 in
set_option maxRecDepth 100000 in
theorem g_X12_isLetter_n (l : Launch) (E : qE) (A : Nat → Prop) (u : qS) (x : Int32) : Met l yX12_isLetter (uws yX12_isLetter cX12_isLetter 1 (some .boolean)) (qR 0 0 0) (qPc E A 1 u [.int x]) (qQi E A 1 (fun r u1 => u1 = u ∧ ((r = 1 ∧ (97 ≤ x ∧ x ≤ 122)) ∨ (r = 0 ∧ ¬ (97 ≤ x ∧ x ≤ 122))))) 0 0 A := by
  refine q_met (own := RX12) (f := 0) [.int x] (by decide) (Nat.le_of_ble_eq_true rfl) rfl ?_
  intro p0 e0 s0 m0 bl0 me0 cd0 ls hF hr hlocks hU hS hA hl
  have hl : lv_has ls 1 [(0, .int x)] := hl
  refine lv_iload_n hF.1 hF.2.1 dX12_isLetter_0 rfl (lv_at hl 0 rfl) ?_
  refine lv_bipush (v := 97) hF.1 hF.2.1 dX12_isLetter_1 (by decide) ?_
  refine lv_icmp_lt (tgt := 16) hF.1 hF.2.1 dX12_isLetter_3 (by decide) (fun c3_1 => ?_) (fun c3_1 => ?_)
  · refine lv_iconst (v := 0) hF.1 hF.2.1 dX12_isLetter_16 (by decide) ?_
    exact q_iret hF hr (by decide) hlocks hU hS dX12_isLetter_17 ⟨rfl, (g_X12_isLetter_n_v0 x c3_1)⟩
  · refine lv_iload_n hF.1 hF.2.1 dX12_isLetter_6 rfl (lv_at hl 0 rfl) ?_
    refine lv_bipush (v := 122) hF.1 hF.2.1 dX12_isLetter_7 (by decide) ?_
    refine lv_icmp_gt (tgt := 16) hF.1 hF.2.1 dX12_isLetter_9 (by decide) (fun c9_2 => ?_) (fun c9_2 => ?_)
    · refine lv_iconst (v := 0) hF.1 hF.2.1 dX12_isLetter_16 (by decide) ?_
      exact q_iret hF hr (by decide) hlocks hU hS dX12_isLetter_17 ⟨rfl, (g_X12_isLetter_n_v1 x c3_1 c9_2)⟩
    · refine lv_iconst (v := 1) hF.1 hF.2.1 dX12_isLetter_12 (by decide) ?_
      refine lv_goto (tgt := 17) hF.1 hF.2.1 dX12_isLetter_13 (by decide) ?_
      exact q_iret hF hr (by decide) hlocks hU hS dX12_isLetter_17 ⟨rfl, (g_X12_isLetter_n_v2 x c3_1 c9_2)⟩
set_option maxRecDepth 100000 in
theorem g_X12_isDigit_n_v0 (x : Int32) (c3_1 : (x : Int32) < 48) : (0 = (1 : Int32) ∧ (48 ≤ x ∧ x ≤ 57)) ∨ (0 = (0 : Int32) ∧ ¬ (48 ≤ x ∧ x ≤ 57)) := by
  first | omega | ((try simp only [g_m1, Int32.lt_iff_toInt_lt, Int32.le_iff_toInt_le, ← Int32.toInt_inj, Int32.reduceToInt] at *); omega) | ((try simp only [g_m1, Int32.lt_iff_toInt_lt, Int32.le_iff_toInt_le, ← Int32.toInt_inj, Int32.reduceToInt] at *); omega) | ((try simp only [g_m1, Int32.lt_iff_toInt_lt, Int32.le_iff_toInt_le, ← Int32.toInt_inj, Int32.toInt_add, Int32.toInt_sub, Int32.toInt_mul, Int32.toInt_neg, Int32.reduceToInt, g_bm, g_bm'] at *); omega) | (have qr1 := g_rng x; (try simp only [g_m1, Int32.lt_iff_toInt_lt, Int32.le_iff_toInt_le, ← Int32.toInt_inj, Int32.toInt_add, Int32.toInt_sub, Int32.toInt_mul, Int32.toInt_neg, Int32.reduceToInt, g_bm, g_bm'] at *); omega) | (simp only [g_m1, Int32.lt_iff_toInt_lt, Int32.le_iff_toInt_le, ← Int32.toInt_inj, Int32.toInt_add, Int32.toInt_sub, Int32.toInt_mul, Int32.toInt_neg, Int32.reduceToInt, g_bm, g_bm'] at *; simp at *; omega) | (simp_all; done)
set_option maxRecDepth 100000 in
theorem g_X12_isDigit_n_v1 (x : Int32) (c3_1 : ¬ (x : Int32) < 48) (c9_2 : 57 < (x : Int32)) : (0 = (1 : Int32) ∧ (48 ≤ x ∧ x ≤ 57)) ∨ (0 = (0 : Int32) ∧ ¬ (48 ≤ x ∧ x ≤ 57)) := by
  first | omega | ((try simp only [g_m1, Int32.lt_iff_toInt_lt, Int32.le_iff_toInt_le, ← Int32.toInt_inj, Int32.reduceToInt] at *); omega) | ((try simp only [g_m1, Int32.lt_iff_toInt_lt, Int32.le_iff_toInt_le, ← Int32.toInt_inj, Int32.reduceToInt] at *); omega) | ((try simp only [g_m1, Int32.lt_iff_toInt_lt, Int32.le_iff_toInt_le, ← Int32.toInt_inj, Int32.toInt_add, Int32.toInt_sub, Int32.toInt_mul, Int32.toInt_neg, Int32.reduceToInt, g_bm, g_bm'] at *); omega) | (have qr1 := g_rng x; (try simp only [g_m1, Int32.lt_iff_toInt_lt, Int32.le_iff_toInt_le, ← Int32.toInt_inj, Int32.toInt_add, Int32.toInt_sub, Int32.toInt_mul, Int32.toInt_neg, Int32.reduceToInt, g_bm, g_bm'] at *); omega) | (simp only [g_m1, Int32.lt_iff_toInt_lt, Int32.le_iff_toInt_le, ← Int32.toInt_inj, Int32.toInt_add, Int32.toInt_sub, Int32.toInt_mul, Int32.toInt_neg, Int32.reduceToInt, g_bm, g_bm'] at *; simp at *; omega) | (simp_all; done)
set_option maxRecDepth 100000 in
theorem g_X12_isDigit_n_v2 (x : Int32) (c3_1 : ¬ (x : Int32) < 48) (c9_2 : ¬ 57 < (x : Int32)) : (1 = (1 : Int32) ∧ (48 ≤ x ∧ x ≤ 57)) ∨ (1 = (0 : Int32) ∧ ¬ (48 ≤ x ∧ x ≤ 57)) := by
  first | omega | ((try simp only [g_m1, Int32.lt_iff_toInt_lt, Int32.le_iff_toInt_le, ← Int32.toInt_inj, Int32.reduceToInt] at *); omega) | ((try simp only [g_m1, Int32.lt_iff_toInt_lt, Int32.le_iff_toInt_le, ← Int32.toInt_inj, Int32.reduceToInt] at *); omega) | ((try simp only [g_m1, Int32.lt_iff_toInt_lt, Int32.le_iff_toInt_le, ← Int32.toInt_inj, Int32.toInt_add, Int32.toInt_sub, Int32.toInt_mul, Int32.toInt_neg, Int32.reduceToInt, g_bm, g_bm'] at *); omega) | (have qr1 := g_rng x; (try simp only [g_m1, Int32.lt_iff_toInt_lt, Int32.le_iff_toInt_le, ← Int32.toInt_inj, Int32.toInt_add, Int32.toInt_sub, Int32.toInt_mul, Int32.toInt_neg, Int32.reduceToInt, g_bm, g_bm'] at *); omega) | (simp only [g_m1, Int32.lt_iff_toInt_lt, Int32.le_iff_toInt_le, ← Int32.toInt_inj, Int32.toInt_add, Int32.toInt_sub, Int32.toInt_mul, Int32.toInt_neg, Int32.reduceToInt, g_bm, g_bm'] at *; simp at *; omega) | (simp_all; done)
set_option maxHeartbeats 1000000 in
set_option maxRecDepth 100000 in
theorem g_X12_isDigit_n (l : Launch) (E : qE) (A : Nat → Prop) (u : qS) (x : Int32) : Met l yX12_isDigit (uws yX12_isDigit cX12_isDigit 1 (some .boolean)) (qR 0 0 0) (qPc E A 1 u [.int x]) (qQi E A 1 (fun r u1 => u1 = u ∧ ((r = 1 ∧ (48 ≤ x ∧ x ≤ 57)) ∨ (r = 0 ∧ ¬ (48 ≤ x ∧ x ≤ 57))))) 0 0 A := by
  refine q_met (own := RX12) (f := 0) [.int x] (by decide) (Nat.le_of_ble_eq_true rfl) rfl ?_
  intro p0 e0 s0 m0 bl0 me0 cd0 ls hF hr hlocks hU hS hA hl
  have hl : lv_has ls 1 [(0, .int x)] := hl
  refine lv_iload_n hF.1 hF.2.1 dX12_isDigit_0 rfl (lv_at hl 0 rfl) ?_
  refine lv_bipush (v := 48) hF.1 hF.2.1 dX12_isDigit_1 (by decide) ?_
  refine lv_icmp_lt (tgt := 16) hF.1 hF.2.1 dX12_isDigit_3 (by decide) (fun c3_1 => ?_) (fun c3_1 => ?_)
  · refine lv_iconst (v := 0) hF.1 hF.2.1 dX12_isDigit_16 (by decide) ?_
    exact q_iret hF hr (by decide) hlocks hU hS dX12_isDigit_17 ⟨rfl, (g_X12_isDigit_n_v0 x c3_1)⟩
  · refine lv_iload_n hF.1 hF.2.1 dX12_isDigit_6 rfl (lv_at hl 0 rfl) ?_
    refine lv_bipush (v := 57) hF.1 hF.2.1 dX12_isDigit_7 (by decide) ?_
    refine lv_icmp_gt (tgt := 16) hF.1 hF.2.1 dX12_isDigit_9 (by decide) (fun c9_2 => ?_) (fun c9_2 => ?_)
    · refine lv_iconst (v := 0) hF.1 hF.2.1 dX12_isDigit_16 (by decide) ?_
      exact q_iret hF hr (by decide) hlocks hU hS dX12_isDigit_17 ⟨rfl, (g_X12_isDigit_n_v1 x c3_1 c9_2)⟩
    · refine lv_iconst (v := 1) hF.1 hF.2.1 dX12_isDigit_12 (by decide) ?_
      refine lv_goto (tgt := 17) hF.1 hF.2.1 dX12_isDigit_13 (by decide) ?_
      exact q_iret hF hr (by decide) hlocks hU hS dX12_isDigit_17 ⟨rfl, (g_X12_isDigit_n_v2 x c3_1 c9_2)⟩
set_option maxRecDepth 100000 in
theorem g_X12_cutAll_v0 (u : qS) (x1 : Int32) (x2 : Int32) (uc : qS) (hI : IM u) (h_n : 0 ≤ x1 ∧ x1 ≤ x2) (h_k : x2 ≤ u.1 1202) (h_z : uc.1 1203 = u.1 1202 ∧ uc.1 1202 = 0) (h_p : g_rw (uc.2.1 1205) (x1.toInt) 0 1001) (c22_1 : (uc.1 1203) ≤ (x2 : Int32)) : vp_in (x1) 1002 := by
  have hz1202 := hI.1.s1202
  have q2 := hI.1.s1202; clear h_p; refine g_in ?_ ?_ <;> ((try simp only [g_m1, Int32.lt_iff_toInt_lt, Int32.le_iff_toInt_le, ← Int32.toInt_inj, Int32.reduceToInt] at *); omega)
set_option maxRecDepth 100000 in
theorem g_X12_cutAll_v1 (u : qS) (x1 : Int32) (x2 : Int32) (uc : qS) (f_2 : Nat → Int32) (hI : IM u) (h_n : 0 ≤ x1 ∧ x1 ≤ x2) (h_k : x2 ≤ u.1 1202) (h_z : uc.1 1203 = u.1 1202 ∧ uc.1 1202 = 0) (h_p : g_rw (uc.2.1 1205) (x1.toInt) 0 1001) (c22_1 : (uc.1 1203) ≤ (x2 : Int32)) (hf_2 : f_2 = upd (uc.2.1 1204) (x1 : Int32).toNatClampNeg 0) : vp_in (x1) 1002 := by
  have hz1202 := hI.1.s1202
  have q2 := hI.1.s1202; clear h_p; refine g_in ?_ ?_ <;> ((try simp only [g_m1, Int32.lt_iff_toInt_lt, Int32.le_iff_toInt_le, ← Int32.toInt_inj, Int32.reduceToInt] at *); omega)
set_option maxRecDepth 100000 in
theorem g_X12_cutAll_v2 (u : qS) (x1 : Int32) (x2 : Int32) (uc : qS) (f_2 : Nat → Int32) (f_3 : Nat → Int32) (hI : IM u) (h_n : 0 ≤ x1 ∧ x1 ≤ x2) (h_k : x2 ≤ u.1 1202) (h_z : uc.1 1203 = u.1 1202 ∧ uc.1 1202 = 0) (h_p : g_rw (uc.2.1 1205) (x1.toInt) 0 1001) (c22_1 : (uc.1 1203) ≤ (x2 : Int32)) (hf_2 : f_2 = upd (uc.2.1 1204) (x1 : Int32).toNatClampNeg 0) (hf_3 : f_3 = upd (uc.2.1 1205) (x1 : Int32).toNatClampNeg (uc.1 1203)) : (uc.1 1202 : Int32) = 0 ∧ (0 : Int32) = 0 ∧ (0 : Int32) = 0 ∧ ∃ N : Int, g_tk (f_2) (f_3) N := by
  have hz1202 := hI.1.s1202
  have q2 := hI.1.s1202
  have c1 := g_clamp x1
  subst hf_2; subst hf_3; refine ⟨h_z.2, rfl, rfl, x1.toInt, x1.toNatClampNeg, by clear h_p; (try simp only [g_m1, Int32.lt_iff_toInt_lt, Int32.le_iff_toInt_le, ← Int32.toInt_inj, Int32.reduceToInt] at *); omega, by clear h_p; (try simp only [g_m1, Int32.lt_iff_toInt_lt, Int32.le_iff_toInt_le, ← Int32.toInt_inj, Int32.reduceToInt] at *); omega, pk_us, fun i hi => ?_⟩
  by_cases e : i = x1.toNatClampNeg
  · subst e; rw [pk_us]; clear h_p; (try simp only [g_m1, Int32.lt_iff_toInt_lt, Int32.le_iff_toInt_le, ← Int32.toInt_inj, Int32.reduceToInt] at *); omega
  · rw [pk_un e]
    have hi2 : (Int32.ofNat i).toInt = i := Int32.toInt_ofNat_of_lt (by clear h_p; (try simp only [g_m1, Int32.lt_iff_toInt_lt, Int32.le_iff_toInt_le, ← Int32.toInt_inj, Int32.reduceToInt] at *); omega)
    have q := h_p.get (Int32.ofNat i) (by rw [hi2]; omega) (by rw [hi2]; clear h_p; (try simp only [g_m1, Int32.lt_iff_toInt_lt, Int32.le_iff_toInt_le, ← Int32.toInt_inj, Int32.reduceToInt] at *); omega)
    rw [show (Int32.ofNat i).toNatClampNeg = i by rw [g_clamp, hi2]; omega] at q
    exact ⟨q.1, by omega⟩
set_option maxRecDepth 100000 in
theorem g_X12_cutAll_v3 (u : qS) (x1 : Int32) (x2 : Int32) (uc : qS) (hI : IM u) (h_n : 0 ≤ x1 ∧ x1 ≤ x2) (h_k : x2 ≤ u.1 1202) (h_z : uc.1 1203 = u.1 1202 ∧ uc.1 1202 = 0) (h_p : g_rw (uc.2.1 1205) (x1.toInt) 0 1001) (c22_1 : ¬ (uc.1 1203) ≤ (x2 : Int32)) : vp_in (x2) 1000 := by
  have hz1202 := hI.1.s1202
  have q2 := hI.1.s1202; clear h_p; refine g_in ?_ ?_ <;> ((try simp only [g_m1, Int32.lt_iff_toInt_lt, Int32.le_iff_toInt_le, ← Int32.toInt_inj, Int32.reduceToInt] at *); omega)
set_option maxRecDepth 100000 in
theorem g_X12_cutAll_v4 (u : qS) (x1 : Int32) (x2 : Int32) (uc : qS) (hI : IM u) (h_n : 0 ≤ x1 ∧ x1 ≤ x2) (h_k : x2 ≤ u.1 1202) (h_z : uc.1 1203 = u.1 1202 ∧ uc.1 1202 = 0) (h_p : g_rw (uc.2.1 1205) (x1.toInt) 0 1001) (c22_1 : ¬ (uc.1 1203) ≤ (x2 : Int32)) (c35_4 : (u.2.1 1201 (x2 : Int32).toNatClampNeg : Int32) = 10) : 0 ≤ x1 ∧ x1 ≤ (x2 + 1) := by
  have hz1202 := hI.1.s1202
  first | (have q2 := hI.1.s1202; have q3 := (g_up (i := x1) (by clear h_p; (try simp only [g_m1, Int32.lt_iff_toInt_lt, Int32.le_iff_toInt_le, ← Int32.toInt_inj, Int32.reduceToInt] at *); omega) (by clear h_p; (try simp only [g_m1, Int32.lt_iff_toInt_lt, Int32.le_iff_toInt_le, ← Int32.toInt_inj, Int32.reduceToInt] at *); omega)).1; have q4 := (g_up (i := x2) (by clear h_p; (try simp only [g_m1, Int32.lt_iff_toInt_lt, Int32.le_iff_toInt_le, ← Int32.toInt_inj, Int32.reduceToInt] at *); omega) (by clear h_p; (try simp only [g_m1, Int32.lt_iff_toInt_lt, Int32.le_iff_toInt_le, ← Int32.toInt_inj, Int32.reduceToInt] at *); omega)).1; clear h_p; (try simp only [g_m1, Int32.lt_iff_toInt_lt, Int32.le_iff_toInt_le, ← Int32.toInt_inj, Int32.reduceToInt] at *); omega) | (have q2 := hI.1.s1202; clear h_p; (try simp only [g_m1, Int32.lt_iff_toInt_lt, Int32.le_iff_toInt_le, ← Int32.toInt_inj, Int32.toInt_add, Int32.toInt_sub, Int32.toInt_mul, Int32.toInt_neg, Int32.reduceToInt, g_bm, g_bm'] at *); omega)
set_option maxRecDepth 100000 in
theorem g_X12_cutAll_v5 (u : qS) (x1 : Int32) (x2 : Int32) (uc : qS) (hI : IM u) (h_n : 0 ≤ x1 ∧ x1 ≤ x2) (h_k : x2 ≤ u.1 1202) (h_z : uc.1 1203 = u.1 1202 ∧ uc.1 1202 = 0) (h_p : g_rw (uc.2.1 1205) (x1.toInt) 0 1001) (c22_1 : ¬ (uc.1 1203) ≤ (x2 : Int32)) (c35_4 : (u.2.1 1201 (x2 : Int32).toNatClampNeg : Int32) = 10) : (x2 + 1) ≤ u.1 1202 := by
  have hz1202 := hI.1.s1202
  have q2 := hI.1.s1202; clear h_p; (try simp only [g_m1, Int32.lt_iff_toInt_lt, Int32.le_iff_toInt_le, ← Int32.toInt_inj, Int32.toInt_add, Int32.toInt_sub, Int32.toInt_mul, Int32.toInt_neg, Int32.reduceToInt, g_bm, g_bm'] at *); omega
set_option maxRecDepth 100000 in
theorem g_X12_cutAll_v6 (u : qS) (x1 : Int32) (x2 : Int32) (uc : qS) (hI : IM u) (h_n : 0 ≤ x1 ∧ x1 ≤ x2) (h_k : x2 ≤ u.1 1202) (h_z : uc.1 1203 = u.1 1202 ∧ uc.1 1202 = 0) (h_p : g_rw (uc.2.1 1205) (x1.toInt) 0 1001) (c22_1 : ¬ (uc.1 1203) ≤ (x2 : Int32)) (c35_4 : (u.2.1 1201 (x2 : Int32).toNatClampNeg : Int32) = 10) : (uc.1 1203 : Int32) = u.1 1202 ∧ (uc.1 1202 : Int32) = 0 := by
  have hz1202 := hI.1.s1202
  first | exact h_z | exact ⟨rfl, rfl⟩ | (simp_all; done)
set_option maxRecDepth 100000 in
theorem g_X12_cutAll_v7 (u : qS) (x1 : Int32) (x2 : Int32) (uc : qS) (hI : IM u) (h_n : 0 ≤ x1 ∧ x1 ≤ x2) (h_k : x2 ≤ u.1 1202) (h_z : uc.1 1203 = u.1 1202 ∧ uc.1 1202 = 0) (h_p : g_rw (uc.2.1 1205) (x1.toInt) 0 1001) (c22_1 : ¬ (uc.1 1203) ≤ (x2 : Int32)) (c35_4 : (u.2.1 1201 (x2 : Int32).toNatClampNeg : Int32) = 10) : g_rw ((uc.2.1 1205)) (x1.toInt) 0 1001 := by
  have hz1202 := hI.1.s1202
  first | exact h_p | (have q2 := hI.1.s1202; have q3 := (g_up (i := x1) (by clear h_p; (try simp only [g_m1, Int32.lt_iff_toInt_lt, Int32.le_iff_toInt_le, ← Int32.toInt_inj, Int32.reduceToInt] at *); omega) (by clear h_p; (try simp only [g_m1, Int32.lt_iff_toInt_lt, Int32.le_iff_toInt_le, ← Int32.toInt_inj, Int32.reduceToInt] at *); omega)).1; skip; rw [q3]; exact h_p.push (by clear h_p; (try simp only [g_m1, Int32.lt_iff_toInt_lt, Int32.le_iff_toInt_le, ← Int32.toInt_inj, Int32.reduceToInt] at *); omega) rfl rfl (by clear h_p; (try simp only [g_m1, Int32.lt_iff_toInt_lt, Int32.le_iff_toInt_le, ← Int32.toInt_inj, Int32.reduceToInt] at *); omega))
set_option maxRecDepth 100000 in
theorem g_X12_cutAll_v8 (u : qS) (x1 : Int32) (x2 : Int32) (uc : qS) (hI : IM u) (h_n : 0 ≤ x1 ∧ x1 ≤ x2) (h_k : x2 ≤ u.1 1202) (h_z : uc.1 1203 = u.1 1202 ∧ uc.1 1202 = 0) (h_p : g_rw (uc.2.1 1205) (x1.toInt) 0 1001) (c22_1 : ¬ (uc.1 1203) ≤ (x2 : Int32)) (c35_4 : (u.2.1 1201 (x2 : Int32).toNatClampNeg : Int32) = 10) : ((u.1 1202).toInt - (x2 + 1).toInt).toNat * 3000 < ((u.1 1202).toInt - x2.toInt).toNat * 3000 := by
  have hz1202 := hI.1.s1202
  have q2 := hI.1.s1202; clear h_p; (try simp only [g_m1, Int32.lt_iff_toInt_lt, Int32.le_iff_toInt_le, ← Int32.toInt_inj, Int32.toInt_add, Int32.toInt_sub, Int32.toInt_mul, Int32.toInt_neg, Int32.reduceToInt, g_bm, g_bm'] at *); omega
set_option maxRecDepth 100000 in
theorem g_X12_cutAll_v9 (u : qS) (x1 : Int32) (x2 : Int32) (uc : qS) (hI : IM u) (h_n : 0 ≤ x1 ∧ x1 ≤ x2) (h_k : x2 ≤ u.1 1202) (h_z : uc.1 1203 = u.1 1202 ∧ uc.1 1202 = 0) (h_p : g_rw (uc.2.1 1205) (x1.toInt) 0 1001) (c22_1 : ¬ (uc.1 1203) ≤ (x2 : Int32)) (c35_4 : ¬ (u.2.1 1201 (x2 : Int32).toNatClampNeg : Int32) = 10) (c41_5 : ¬ (u.2.1 1201 (x2 : Int32).toNatClampNeg : Int32) = 32) : vp_in (x1) 1002 := by
  have hz1202 := hI.1.s1202
  have q2 := hI.1.s1202; clear h_p; refine g_in ?_ ?_ <;> ((try simp only [g_m1, Int32.lt_iff_toInt_lt, Int32.le_iff_toInt_le, ← Int32.toInt_inj, Int32.reduceToInt] at *); omega)
set_option maxRecDepth 100000 in
theorem g_X12_cutAll_v10 (u : qS) (x1 : Int32) (x2 : Int32) (uc : qS) (f_6 : Nat → Int32) (hI : IM u) (h_n : 0 ≤ x1 ∧ x1 ≤ x2) (h_k : x2 ≤ u.1 1202) (h_z : uc.1 1203 = u.1 1202 ∧ uc.1 1202 = 0) (h_p : g_rw (uc.2.1 1205) (x1.toInt) 0 1001) (c22_1 : ¬ (uc.1 1203) ≤ (x2 : Int32)) (c35_4 : ¬ (u.2.1 1201 (x2 : Int32).toNatClampNeg : Int32) = 10) (c41_5 : ¬ (u.2.1 1201 (x2 : Int32).toNatClampNeg : Int32) = 32) (hf_6 : f_6 = upd (uc.2.1 1205) (x1 : Int32).toNatClampNeg x2) (b64_10 : 97 ≤ ((u.2.1 1201) (x2 : Int32).toNatClampNeg) ∧ ((u.2.1 1201) (x2 : Int32).toNatClampNeg) ≤ 122) : 0 ≤ x1 ∧ x1 ≤ x2 := by
  have hz1202 := hI.1.s1202
  have q2 := hI.1.s1202; clear h_p; (try simp only [g_m1, Int32.lt_iff_toInt_lt, Int32.le_iff_toInt_le, ← Int32.toInt_inj, Int32.reduceToInt] at *); omega
set_option maxRecDepth 100000 in
theorem g_X12_cutAll_v11 (u : qS) (x1 : Int32) (x2 : Int32) (uc : qS) (f_6 : Nat → Int32) (hI : IM u) (h_n : 0 ≤ x1 ∧ x1 ≤ x2) (h_k : x2 ≤ u.1 1202) (h_z : uc.1 1203 = u.1 1202 ∧ uc.1 1202 = 0) (h_p : g_rw (uc.2.1 1205) (x1.toInt) 0 1001) (c22_1 : ¬ (uc.1 1203) ≤ (x2 : Int32)) (c35_4 : ¬ (u.2.1 1201 (x2 : Int32).toNatClampNeg : Int32) = 10) (c41_5 : ¬ (u.2.1 1201 (x2 : Int32).toNatClampNeg : Int32) = 32) (hf_6 : f_6 = upd (uc.2.1 1205) (x1 : Int32).toNatClampNeg x2) (b64_10 : 97 ≤ ((u.2.1 1201) (x2 : Int32).toNatClampNeg) ∧ ((u.2.1 1201) (x2 : Int32).toNatClampNeg) ≤ 122) : x2 ≤ x2 ∧ x2 < u.1 1202 := by
  have hz1202 := hI.1.s1202
  have q2 := hI.1.s1202; clear h_p; (try simp only [g_m1, Int32.lt_iff_toInt_lt, Int32.le_iff_toInt_le, ← Int32.toInt_inj, Int32.reduceToInt] at *); omega
set_option maxRecDepth 100000 in
theorem g_X12_cutAll_v12 (u : qS) (x1 : Int32) (x2 : Int32) (uc : qS) (f_6 : Nat → Int32) (hI : IM u) (h_n : 0 ≤ x1 ∧ x1 ≤ x2) (h_k : x2 ≤ u.1 1202) (h_z : uc.1 1203 = u.1 1202 ∧ uc.1 1202 = 0) (h_p : g_rw (uc.2.1 1205) (x1.toInt) 0 1001) (c22_1 : ¬ (uc.1 1203) ≤ (x2 : Int32)) (c35_4 : ¬ (u.2.1 1201 (x2 : Int32).toNatClampNeg : Int32) = 10) (c41_5 : ¬ (u.2.1 1201 (x2 : Int32).toNatClampNeg : Int32) = 32) (hf_6 : f_6 = upd (uc.2.1 1205) (x1 : Int32).toNatClampNeg x2) (b64_10 : 97 ≤ ((u.2.1 1201) (x2 : Int32).toNatClampNeg) ∧ ((u.2.1 1201) (x2 : Int32).toNatClampNeg) ≤ 122) : x2 ≤ u.1 1202 := by
  have hz1202 := hI.1.s1202
  have q2 := hI.1.s1202; clear h_p; (try simp only [g_m1, Int32.lt_iff_toInt_lt, Int32.le_iff_toInt_le, ← Int32.toInt_inj, Int32.reduceToInt] at *); omega
set_option maxRecDepth 100000 in
theorem g_X12_cutAll_v13 (u : qS) (x1 : Int32) (x2 : Int32) (uc : qS) (f_6 : Nat → Int32) (hI : IM u) (h_n : 0 ≤ x1 ∧ x1 ≤ x2) (h_k : x2 ≤ u.1 1202) (h_z : uc.1 1203 = u.1 1202 ∧ uc.1 1202 = 0) (h_p : g_rw (uc.2.1 1205) (x1.toInt) 0 1001) (c22_1 : ¬ (uc.1 1203) ≤ (x2 : Int32)) (c35_4 : ¬ (u.2.1 1201 (x2 : Int32).toNatClampNeg : Int32) = 10) (c41_5 : ¬ (u.2.1 1201 (x2 : Int32).toNatClampNeg : Int32) = 32) (hf_6 : f_6 = upd (uc.2.1 1205) (x1 : Int32).toNatClampNeg x2) (b64_10 : 97 ≤ ((u.2.1 1201) (x2 : Int32).toNatClampNeg) ∧ ((u.2.1 1201) (x2 : Int32).toNatClampNeg) ≤ 122) : x2 < x2 ∨ (x2 = x2 ∧ 97 ≤ u.2.1 1201 x2.toNatClampNeg ∧ u.2.1 1201 x2.toNatClampNeg ≤ 122) := by
  have hz1202 := hI.1.s1202
  exact Or.inr ⟨rfl, by assumption⟩
set_option maxRecDepth 100000 in
theorem g_X12_cutAll_v14 (u : qS) (x1 : Int32) (x2 : Int32) (uc : qS) (f_6 : Nat → Int32) (hI : IM u) (h_n : 0 ≤ x1 ∧ x1 ≤ x2) (h_k : x2 ≤ u.1 1202) (h_z : uc.1 1203 = u.1 1202 ∧ uc.1 1202 = 0) (h_p : g_rw (uc.2.1 1205) (x1.toInt) 0 1001) (c22_1 : ¬ (uc.1 1203) ≤ (x2 : Int32)) (c35_4 : ¬ (u.2.1 1201 (x2 : Int32).toNatClampNeg : Int32) = 10) (c41_5 : ¬ (u.2.1 1201 (x2 : Int32).toNatClampNeg : Int32) = 32) (hf_6 : f_6 = upd (uc.2.1 1205) (x1 : Int32).toNatClampNeg x2) (b64_10 : 97 ≤ ((u.2.1 1201) (x2 : Int32).toNatClampNeg) ∧ ((u.2.1 1201) (x2 : Int32).toNatClampNeg) ≤ 122) : (uc.1 1203 : Int32) = u.1 1202 ∧ (uc.1 1202 : Int32) = 0 := by
  have hz1202 := hI.1.s1202
  first | exact h_z | exact ⟨rfl, rfl⟩ | (simp_all; done)
set_option maxRecDepth 100000 in
theorem g_X12_cutAll_v15 (u : qS) (x1 : Int32) (x2 : Int32) (uc : qS) (f_6 : Nat → Int32) (hI : IM u) (h_n : 0 ≤ x1 ∧ x1 ≤ x2) (h_k : x2 ≤ u.1 1202) (h_z : uc.1 1203 = u.1 1202 ∧ uc.1 1202 = 0) (h_p : g_rw (uc.2.1 1205) (x1.toInt) 0 1001) (c22_1 : ¬ (uc.1 1203) ≤ (x2 : Int32)) (c35_4 : ¬ (u.2.1 1201 (x2 : Int32).toNatClampNeg : Int32) = 10) (c41_5 : ¬ (u.2.1 1201 (x2 : Int32).toNatClampNeg : Int32) = 32) (hf_6 : f_6 = upd (uc.2.1 1205) (x1 : Int32).toNatClampNeg x2) (b64_10 : 97 ≤ ((u.2.1 1201) (x2 : Int32).toNatClampNeg) ∧ ((u.2.1 1201) (x2 : Int32).toNatClampNeg) ≤ 122) : g_rw (f_6) (x1.toInt + 1) 0 1001 := by
  have hz1202 := hI.1.s1202
  have q2 := hI.1.s1202; have q3 := (g_up (i := x1) (by clear h_p; (try simp only [g_m1, Int32.lt_iff_toInt_lt, Int32.le_iff_toInt_le, ← Int32.toInt_inj, Int32.reduceToInt] at *); omega) (by clear h_p; (try simp only [g_m1, Int32.lt_iff_toInt_lt, Int32.le_iff_toInt_le, ← Int32.toInt_inj, Int32.reduceToInt] at *); omega)).1; subst hf_6; exact h_p.push (by clear h_p; (try simp only [g_m1, Int32.lt_iff_toInt_lt, Int32.le_iff_toInt_le, ← Int32.toInt_inj, Int32.reduceToInt] at *); omega) rfl rfl (by clear h_p; (try simp only [g_m1, Int32.lt_iff_toInt_lt, Int32.le_iff_toInt_le, ← Int32.toInt_inj, Int32.reduceToInt] at *); omega)
set_option maxRecDepth 100000 in
theorem g_X12_cutAll_v16 (u : qS) (x1 : Int32) (x2 : Int32) (uc : qS) (f_6 : Nat → Int32) (hI : IM u) (h_n : 0 ≤ x1 ∧ x1 ≤ x2) (h_k : x2 ≤ u.1 1202) (h_z : uc.1 1203 = u.1 1202 ∧ uc.1 1202 = 0) (h_p : g_rw (uc.2.1 1205) (x1.toInt) 0 1001) (c22_1 : ¬ (uc.1 1203) ≤ (x2 : Int32)) (c35_4 : ¬ (u.2.1 1201 (x2 : Int32).toNatClampNeg : Int32) = 10) (c41_5 : ¬ (u.2.1 1201 (x2 : Int32).toNatClampNeg : Int32) = 32) (hf_6 : f_6 = upd (uc.2.1 1205) (x1 : Int32).toNatClampNeg x2) (b64_10 : 97 ≤ ((u.2.1 1201) (x2 : Int32).toNatClampNeg) ∧ ((u.2.1 1201) (x2 : Int32).toNatClampNeg) ≤ 122) : ((u.1 1202).toInt - x2.toInt - 1).toNat * 3000 + 1 + ((u.1 1202).toInt - x2.toInt).toNat < ((u.1 1202).toInt - x2.toInt).toNat * 3000 := by
  have hz1202 := hI.1.s1202
  have q2 := hI.1.s1202; clear h_p; (try simp only [g_m1, Int32.lt_iff_toInt_lt, Int32.le_iff_toInt_le, ← Int32.toInt_inj, Int32.reduceToInt] at *); omega
set_option maxRecDepth 100000 in
theorem g_X12_cutAll_v17 (u : qS) (x1 : Int32) (x2 : Int32) (uc : qS) (f_6 : Nat → Int32) (hI : IM u) (h_n : 0 ≤ x1 ∧ x1 ≤ x2) (h_k : x2 ≤ u.1 1202) (h_z : uc.1 1203 = u.1 1202 ∧ uc.1 1202 = 0) (h_p : g_rw (uc.2.1 1205) (x1.toInt) 0 1001) (c22_1 : ¬ (uc.1 1203) ≤ (x2 : Int32)) (c35_4 : ¬ (u.2.1 1201 (x2 : Int32).toNatClampNeg : Int32) = 10) (c41_5 : ¬ (u.2.1 1201 (x2 : Int32).toNatClampNeg : Int32) = 32) (hf_6 : f_6 = upd (uc.2.1 1205) (x1 : Int32).toNatClampNeg x2) (b64_10 : ¬ (97 ≤ ((u.2.1 1201) (x2 : Int32).toNatClampNeg) ∧ ((u.2.1 1201) (x2 : Int32).toNatClampNeg) ≤ 122)) (b153_14 : 48 ≤ ((u.2.1 1201) (x2 : Int32).toNatClampNeg) ∧ ((u.2.1 1201) (x2 : Int32).toNatClampNeg) ≤ 57) : 0 ≤ x1 ∧ x1 ≤ x2 := by
  have hz1202 := hI.1.s1202
  have q2 := hI.1.s1202; clear h_p; (try simp only [g_m1, Int32.lt_iff_toInt_lt, Int32.le_iff_toInt_le, ← Int32.toInt_inj, Int32.reduceToInt] at *); omega
set_option maxRecDepth 100000 in
theorem g_X12_cutAll_v18 (u : qS) (x1 : Int32) (x2 : Int32) (uc : qS) (f_6 : Nat → Int32) (hI : IM u) (h_n : 0 ≤ x1 ∧ x1 ≤ x2) (h_k : x2 ≤ u.1 1202) (h_z : uc.1 1203 = u.1 1202 ∧ uc.1 1202 = 0) (h_p : g_rw (uc.2.1 1205) (x1.toInt) 0 1001) (c22_1 : ¬ (uc.1 1203) ≤ (x2 : Int32)) (c35_4 : ¬ (u.2.1 1201 (x2 : Int32).toNatClampNeg : Int32) = 10) (c41_5 : ¬ (u.2.1 1201 (x2 : Int32).toNatClampNeg : Int32) = 32) (hf_6 : f_6 = upd (uc.2.1 1205) (x1 : Int32).toNatClampNeg x2) (b64_10 : ¬ (97 ≤ ((u.2.1 1201) (x2 : Int32).toNatClampNeg) ∧ ((u.2.1 1201) (x2 : Int32).toNatClampNeg) ≤ 122)) (b153_14 : 48 ≤ ((u.2.1 1201) (x2 : Int32).toNatClampNeg) ∧ ((u.2.1 1201) (x2 : Int32).toNatClampNeg) ≤ 57) : x2 ≤ x2 ∧ x2 < u.1 1202 := by
  have hz1202 := hI.1.s1202
  have q2 := hI.1.s1202; clear h_p; (try simp only [g_m1, Int32.lt_iff_toInt_lt, Int32.le_iff_toInt_le, ← Int32.toInt_inj, Int32.reduceToInt] at *); omega
set_option maxRecDepth 100000 in
theorem g_X12_cutAll_v19 (u : qS) (x1 : Int32) (x2 : Int32) (uc : qS) (f_6 : Nat → Int32) (hI : IM u) (h_n : 0 ≤ x1 ∧ x1 ≤ x2) (h_k : x2 ≤ u.1 1202) (h_z : uc.1 1203 = u.1 1202 ∧ uc.1 1202 = 0) (h_p : g_rw (uc.2.1 1205) (x1.toInt) 0 1001) (c22_1 : ¬ (uc.1 1203) ≤ (x2 : Int32)) (c35_4 : ¬ (u.2.1 1201 (x2 : Int32).toNatClampNeg : Int32) = 10) (c41_5 : ¬ (u.2.1 1201 (x2 : Int32).toNatClampNeg : Int32) = 32) (hf_6 : f_6 = upd (uc.2.1 1205) (x1 : Int32).toNatClampNeg x2) (b64_10 : ¬ (97 ≤ ((u.2.1 1201) (x2 : Int32).toNatClampNeg) ∧ ((u.2.1 1201) (x2 : Int32).toNatClampNeg) ≤ 122)) (b153_14 : 48 ≤ ((u.2.1 1201) (x2 : Int32).toNatClampNeg) ∧ ((u.2.1 1201) (x2 : Int32).toNatClampNeg) ≤ 57) : x2 ≤ u.1 1202 := by
  have hz1202 := hI.1.s1202
  have q2 := hI.1.s1202; clear h_p; (try simp only [g_m1, Int32.lt_iff_toInt_lt, Int32.le_iff_toInt_le, ← Int32.toInt_inj, Int32.reduceToInt] at *); omega
set_option maxRecDepth 100000 in
theorem g_X12_cutAll_v20 (u : qS) (x1 : Int32) (x2 : Int32) (uc : qS) (f_6 : Nat → Int32) (hI : IM u) (h_n : 0 ≤ x1 ∧ x1 ≤ x2) (h_k : x2 ≤ u.1 1202) (h_z : uc.1 1203 = u.1 1202 ∧ uc.1 1202 = 0) (h_p : g_rw (uc.2.1 1205) (x1.toInt) 0 1001) (c22_1 : ¬ (uc.1 1203) ≤ (x2 : Int32)) (c35_4 : ¬ (u.2.1 1201 (x2 : Int32).toNatClampNeg : Int32) = 10) (c41_5 : ¬ (u.2.1 1201 (x2 : Int32).toNatClampNeg : Int32) = 32) (hf_6 : f_6 = upd (uc.2.1 1205) (x1 : Int32).toNatClampNeg x2) (b64_10 : ¬ (97 ≤ ((u.2.1 1201) (x2 : Int32).toNatClampNeg) ∧ ((u.2.1 1201) (x2 : Int32).toNatClampNeg) ≤ 122)) (b153_14 : 48 ≤ ((u.2.1 1201) (x2 : Int32).toNatClampNeg) ∧ ((u.2.1 1201) (x2 : Int32).toNatClampNeg) ≤ 57) : x2 < x2 ∨ (x2 = x2 ∧ 48 ≤ u.2.1 1201 x2.toNatClampNeg ∧ u.2.1 1201 x2.toNatClampNeg ≤ 57) := by
  have hz1202 := hI.1.s1202
  exact Or.inr ⟨rfl, by assumption⟩
set_option maxRecDepth 100000 in
theorem g_X12_cutAll_v21 (u : qS) (x1 : Int32) (x2 : Int32) (uc : qS) (f_6 : Nat → Int32) (hI : IM u) (h_n : 0 ≤ x1 ∧ x1 ≤ x2) (h_k : x2 ≤ u.1 1202) (h_z : uc.1 1203 = u.1 1202 ∧ uc.1 1202 = 0) (h_p : g_rw (uc.2.1 1205) (x1.toInt) 0 1001) (c22_1 : ¬ (uc.1 1203) ≤ (x2 : Int32)) (c35_4 : ¬ (u.2.1 1201 (x2 : Int32).toNatClampNeg : Int32) = 10) (c41_5 : ¬ (u.2.1 1201 (x2 : Int32).toNatClampNeg : Int32) = 32) (hf_6 : f_6 = upd (uc.2.1 1205) (x1 : Int32).toNatClampNeg x2) (b64_10 : ¬ (97 ≤ ((u.2.1 1201) (x2 : Int32).toNatClampNeg) ∧ ((u.2.1 1201) (x2 : Int32).toNatClampNeg) ≤ 122)) (b153_14 : 48 ≤ ((u.2.1 1201) (x2 : Int32).toNatClampNeg) ∧ ((u.2.1 1201) (x2 : Int32).toNatClampNeg) ≤ 57) : (uc.1 1203 : Int32) = u.1 1202 ∧ (uc.1 1202 : Int32) = 0 := by
  have hz1202 := hI.1.s1202
  first | exact h_z | exact ⟨rfl, rfl⟩ | (simp_all; done)
set_option maxRecDepth 100000 in
theorem g_X12_cutAll_v22 (u : qS) (x1 : Int32) (x2 : Int32) (uc : qS) (f_6 : Nat → Int32) (hI : IM u) (h_n : 0 ≤ x1 ∧ x1 ≤ x2) (h_k : x2 ≤ u.1 1202) (h_z : uc.1 1203 = u.1 1202 ∧ uc.1 1202 = 0) (h_p : g_rw (uc.2.1 1205) (x1.toInt) 0 1001) (c22_1 : ¬ (uc.1 1203) ≤ (x2 : Int32)) (c35_4 : ¬ (u.2.1 1201 (x2 : Int32).toNatClampNeg : Int32) = 10) (c41_5 : ¬ (u.2.1 1201 (x2 : Int32).toNatClampNeg : Int32) = 32) (hf_6 : f_6 = upd (uc.2.1 1205) (x1 : Int32).toNatClampNeg x2) (b64_10 : ¬ (97 ≤ ((u.2.1 1201) (x2 : Int32).toNatClampNeg) ∧ ((u.2.1 1201) (x2 : Int32).toNatClampNeg) ≤ 122)) (b153_14 : 48 ≤ ((u.2.1 1201) (x2 : Int32).toNatClampNeg) ∧ ((u.2.1 1201) (x2 : Int32).toNatClampNeg) ≤ 57) : g_rw (f_6) (x1.toInt + 1) 0 1001 := by
  have hz1202 := hI.1.s1202
  have q2 := hI.1.s1202; have q3 := (g_up (i := x1) (by clear h_p; (try simp only [g_m1, Int32.lt_iff_toInt_lt, Int32.le_iff_toInt_le, ← Int32.toInt_inj, Int32.reduceToInt] at *); omega) (by clear h_p; (try simp only [g_m1, Int32.lt_iff_toInt_lt, Int32.le_iff_toInt_le, ← Int32.toInt_inj, Int32.reduceToInt] at *); omega)).1; subst hf_6; exact h_p.push (by clear h_p; (try simp only [g_m1, Int32.lt_iff_toInt_lt, Int32.le_iff_toInt_le, ← Int32.toInt_inj, Int32.reduceToInt] at *); omega) rfl rfl (by clear h_p; (try simp only [g_m1, Int32.lt_iff_toInt_lt, Int32.le_iff_toInt_le, ← Int32.toInt_inj, Int32.reduceToInt] at *); omega)
set_option maxRecDepth 100000 in
theorem g_X12_cutAll_v23 (u : qS) (x1 : Int32) (x2 : Int32) (uc : qS) (f_6 : Nat → Int32) (hI : IM u) (h_n : 0 ≤ x1 ∧ x1 ≤ x2) (h_k : x2 ≤ u.1 1202) (h_z : uc.1 1203 = u.1 1202 ∧ uc.1 1202 = 0) (h_p : g_rw (uc.2.1 1205) (x1.toInt) 0 1001) (c22_1 : ¬ (uc.1 1203) ≤ (x2 : Int32)) (c35_4 : ¬ (u.2.1 1201 (x2 : Int32).toNatClampNeg : Int32) = 10) (c41_5 : ¬ (u.2.1 1201 (x2 : Int32).toNatClampNeg : Int32) = 32) (hf_6 : f_6 = upd (uc.2.1 1205) (x1 : Int32).toNatClampNeg x2) (b64_10 : ¬ (97 ≤ ((u.2.1 1201) (x2 : Int32).toNatClampNeg) ∧ ((u.2.1 1201) (x2 : Int32).toNatClampNeg) ≤ 122)) (b153_14 : 48 ≤ ((u.2.1 1201) (x2 : Int32).toNatClampNeg) ∧ ((u.2.1 1201) (x2 : Int32).toNatClampNeg) ≤ 57) : ((u.1 1202).toInt - x2.toInt - 1).toNat * 3000 + 1 + ((u.1 1202).toInt - x2.toInt).toNat < ((u.1 1202).toInt - x2.toInt).toNat * 3000 := by
  have hz1202 := hI.1.s1202
  have q2 := hI.1.s1202; clear h_p; (try simp only [g_m1, Int32.lt_iff_toInt_lt, Int32.le_iff_toInt_le, ← Int32.toInt_inj, Int32.reduceToInt] at *); omega
set_option maxRecDepth 100000 in
theorem g_X12_cutAll_v24 (u : qS) (x1 : Int32) (x2 : Int32) (uc : qS) (f_6 : Nat → Int32) (hI : IM u) (h_n : 0 ≤ x1 ∧ x1 ≤ x2) (h_k : x2 ≤ u.1 1202) (h_z : uc.1 1203 = u.1 1202 ∧ uc.1 1202 = 0) (h_p : g_rw (uc.2.1 1205) (x1.toInt) 0 1001) (c22_1 : ¬ (uc.1 1203) ≤ (x2 : Int32)) (c35_4 : ¬ (u.2.1 1201 (x2 : Int32).toNatClampNeg : Int32) = 10) (c41_5 : ¬ (u.2.1 1201 (x2 : Int32).toNatClampNeg : Int32) = 32) (hf_6 : f_6 = upd (uc.2.1 1205) (x1 : Int32).toNatClampNeg x2) (b64_10 : ¬ (97 ≤ ((u.2.1 1201) (x2 : Int32).toNatClampNeg) ∧ ((u.2.1 1201) (x2 : Int32).toNatClampNeg) ≤ 122)) (b153_14 : ¬ (48 ≤ ((u.2.1 1201) (x2 : Int32).toNatClampNeg) ∧ ((u.2.1 1201) (x2 : Int32).toNatClampNeg) ≤ 57)) : vp_in (x1) 1002 := by
  have hz1202 := hI.1.s1202
  have q2 := hI.1.s1202; clear h_p; refine g_in ?_ ?_ <;> ((try simp only [g_m1, Int32.lt_iff_toInt_lt, Int32.le_iff_toInt_le, ← Int32.toInt_inj, Int32.reduceToInt] at *); omega)
set_option maxRecDepth 100000 in
theorem g_X12_cutAll_v25 (u : qS) (x1 : Int32) (x2 : Int32) (uc : qS) (f_6 : Nat → Int32) (f_18 : Nat → Int32) (hI : IM u) (h_n : 0 ≤ x1 ∧ x1 ≤ x2) (h_k : x2 ≤ u.1 1202) (h_z : uc.1 1203 = u.1 1202 ∧ uc.1 1202 = 0) (h_p : g_rw (uc.2.1 1205) (x1.toInt) 0 1001) (c22_1 : ¬ (uc.1 1203) ≤ (x2 : Int32)) (c35_4 : ¬ (u.2.1 1201 (x2 : Int32).toNatClampNeg : Int32) = 10) (c41_5 : ¬ (u.2.1 1201 (x2 : Int32).toNatClampNeg : Int32) = 32) (hf_6 : f_6 = upd (uc.2.1 1205) (x1 : Int32).toNatClampNeg x2) (b64_10 : ¬ (97 ≤ ((u.2.1 1201) (x2 : Int32).toNatClampNeg) ∧ ((u.2.1 1201) (x2 : Int32).toNatClampNeg) ≤ 122)) (b153_14 : ¬ (48 ≤ ((u.2.1 1201) (x2 : Int32).toNatClampNeg) ∧ ((u.2.1 1201) (x2 : Int32).toNatClampNeg) ≤ 57)) (hf_18 : f_18 = upd (uc.2.1 1204) (x1 : Int32).toNatClampNeg 3) : vp_in (x1) 1002 := by
  have hz1202 := hI.1.s1202
  have q2 := hI.1.s1202; clear h_p; refine g_in ?_ ?_ <;> ((try simp only [g_m1, Int32.lt_iff_toInt_lt, Int32.le_iff_toInt_le, ← Int32.toInt_inj, Int32.reduceToInt] at *); omega)
set_option maxRecDepth 100000 in
theorem g_X12_cutAll_v26 (u : qS) (x1 : Int32) (x2 : Int32) (uc : qS) (f_6 : Nat → Int32) (f_18 : Nat → Int32) (f_19 : Nat → Int64) (hI : IM u) (h_n : 0 ≤ x1 ∧ x1 ≤ x2) (h_k : x2 ≤ u.1 1202) (h_z : uc.1 1203 = u.1 1202 ∧ uc.1 1202 = 0) (h_p : g_rw (uc.2.1 1205) (x1.toInt) 0 1001) (c22_1 : ¬ (uc.1 1203) ≤ (x2 : Int32)) (c35_4 : ¬ (u.2.1 1201 (x2 : Int32).toNatClampNeg : Int32) = 10) (c41_5 : ¬ (u.2.1 1201 (x2 : Int32).toNatClampNeg : Int32) = 32) (hf_6 : f_6 = upd (uc.2.1 1205) (x1 : Int32).toNatClampNeg x2) (b64_10 : ¬ (97 ≤ ((u.2.1 1201) (x2 : Int32).toNatClampNeg) ∧ ((u.2.1 1201) (x2 : Int32).toNatClampNeg) ≤ 122)) (b153_14 : ¬ (48 ≤ ((u.2.1 1201) (x2 : Int32).toNatClampNeg) ∧ ((u.2.1 1201) (x2 : Int32).toNatClampNeg) ≤ 57)) (hf_18 : f_18 = upd (uc.2.1 1204) (x1 : Int32).toNatClampNeg 3) (hf_19 : f_19 = vp_updL (uc.2.2.1 1206) (x1 : Int32).toNatClampNeg ((u.2.1 1201 (x2 : Int32).toNatClampNeg : Int32).toInt64)) : 0 ≤ (x1 + 1) ∧ (x1 + 1) ≤ (x2 + 1) := by
  have hz1202 := hI.1.s1202
  first | (have q2 := hI.1.s1202; have q3 := (g_up (i := x1) (by clear h_p; (try simp only [g_m1, Int32.lt_iff_toInt_lt, Int32.le_iff_toInt_le, ← Int32.toInt_inj, Int32.reduceToInt] at *); omega) (by clear h_p; (try simp only [g_m1, Int32.lt_iff_toInt_lt, Int32.le_iff_toInt_le, ← Int32.toInt_inj, Int32.reduceToInt] at *); omega)).1; have q4 := (g_up (i := x2) (by clear h_p; (try simp only [g_m1, Int32.lt_iff_toInt_lt, Int32.le_iff_toInt_le, ← Int32.toInt_inj, Int32.reduceToInt] at *); omega) (by clear h_p; (try simp only [g_m1, Int32.lt_iff_toInt_lt, Int32.le_iff_toInt_le, ← Int32.toInt_inj, Int32.reduceToInt] at *); omega)).1; clear h_p; (try simp only [g_m1, Int32.lt_iff_toInt_lt, Int32.le_iff_toInt_le, ← Int32.toInt_inj, Int32.reduceToInt] at *); omega) | (have q2 := hI.1.s1202; clear h_p; (try simp only [g_m1, Int32.lt_iff_toInt_lt, Int32.le_iff_toInt_le, ← Int32.toInt_inj, Int32.toInt_add, Int32.toInt_sub, Int32.toInt_mul, Int32.toInt_neg, Int32.reduceToInt, g_bm, g_bm'] at *); omega)
set_option maxRecDepth 100000 in
theorem g_X12_cutAll_v27 (u : qS) (x1 : Int32) (x2 : Int32) (uc : qS) (f_6 : Nat → Int32) (f_18 : Nat → Int32) (f_19 : Nat → Int64) (hI : IM u) (h_n : 0 ≤ x1 ∧ x1 ≤ x2) (h_k : x2 ≤ u.1 1202) (h_z : uc.1 1203 = u.1 1202 ∧ uc.1 1202 = 0) (h_p : g_rw (uc.2.1 1205) (x1.toInt) 0 1001) (c22_1 : ¬ (uc.1 1203) ≤ (x2 : Int32)) (c35_4 : ¬ (u.2.1 1201 (x2 : Int32).toNatClampNeg : Int32) = 10) (c41_5 : ¬ (u.2.1 1201 (x2 : Int32).toNatClampNeg : Int32) = 32) (hf_6 : f_6 = upd (uc.2.1 1205) (x1 : Int32).toNatClampNeg x2) (b64_10 : ¬ (97 ≤ ((u.2.1 1201) (x2 : Int32).toNatClampNeg) ∧ ((u.2.1 1201) (x2 : Int32).toNatClampNeg) ≤ 122)) (b153_14 : ¬ (48 ≤ ((u.2.1 1201) (x2 : Int32).toNatClampNeg) ∧ ((u.2.1 1201) (x2 : Int32).toNatClampNeg) ≤ 57)) (hf_18 : f_18 = upd (uc.2.1 1204) (x1 : Int32).toNatClampNeg 3) (hf_19 : f_19 = vp_updL (uc.2.2.1 1206) (x1 : Int32).toNatClampNeg ((u.2.1 1201 (x2 : Int32).toNatClampNeg : Int32).toInt64)) : (x2 + 1) ≤ u.1 1202 := by
  have hz1202 := hI.1.s1202
  have q2 := hI.1.s1202; clear h_p; (try simp only [g_m1, Int32.lt_iff_toInt_lt, Int32.le_iff_toInt_le, ← Int32.toInt_inj, Int32.toInt_add, Int32.toInt_sub, Int32.toInt_mul, Int32.toInt_neg, Int32.reduceToInt, g_bm, g_bm'] at *); omega
set_option maxRecDepth 100000 in
theorem g_X12_cutAll_v28 (u : qS) (x1 : Int32) (x2 : Int32) (uc : qS) (f_6 : Nat → Int32) (f_18 : Nat → Int32) (f_19 : Nat → Int64) (hI : IM u) (h_n : 0 ≤ x1 ∧ x1 ≤ x2) (h_k : x2 ≤ u.1 1202) (h_z : uc.1 1203 = u.1 1202 ∧ uc.1 1202 = 0) (h_p : g_rw (uc.2.1 1205) (x1.toInt) 0 1001) (c22_1 : ¬ (uc.1 1203) ≤ (x2 : Int32)) (c35_4 : ¬ (u.2.1 1201 (x2 : Int32).toNatClampNeg : Int32) = 10) (c41_5 : ¬ (u.2.1 1201 (x2 : Int32).toNatClampNeg : Int32) = 32) (hf_6 : f_6 = upd (uc.2.1 1205) (x1 : Int32).toNatClampNeg x2) (b64_10 : ¬ (97 ≤ ((u.2.1 1201) (x2 : Int32).toNatClampNeg) ∧ ((u.2.1 1201) (x2 : Int32).toNatClampNeg) ≤ 122)) (b153_14 : ¬ (48 ≤ ((u.2.1 1201) (x2 : Int32).toNatClampNeg) ∧ ((u.2.1 1201) (x2 : Int32).toNatClampNeg) ≤ 57)) (hf_18 : f_18 = upd (uc.2.1 1204) (x1 : Int32).toNatClampNeg 3) (hf_19 : f_19 = vp_updL (uc.2.2.1 1206) (x1 : Int32).toNatClampNeg ((u.2.1 1201 (x2 : Int32).toNatClampNeg : Int32).toInt64)) : (uc.1 1203 : Int32) = u.1 1202 ∧ (uc.1 1202 : Int32) = 0 := by
  have hz1202 := hI.1.s1202
  first | exact h_z | exact ⟨rfl, rfl⟩ | (simp_all; done)
set_option maxRecDepth 100000 in
theorem g_X12_cutAll_v29 (u : qS) (x1 : Int32) (x2 : Int32) (uc : qS) (f_6 : Nat → Int32) (f_18 : Nat → Int32) (f_19 : Nat → Int64) (hI : IM u) (h_n : 0 ≤ x1 ∧ x1 ≤ x2) (h_k : x2 ≤ u.1 1202) (h_z : uc.1 1203 = u.1 1202 ∧ uc.1 1202 = 0) (h_p : g_rw (uc.2.1 1205) (x1.toInt) 0 1001) (c22_1 : ¬ (uc.1 1203) ≤ (x2 : Int32)) (c35_4 : ¬ (u.2.1 1201 (x2 : Int32).toNatClampNeg : Int32) = 10) (c41_5 : ¬ (u.2.1 1201 (x2 : Int32).toNatClampNeg : Int32) = 32) (hf_6 : f_6 = upd (uc.2.1 1205) (x1 : Int32).toNatClampNeg x2) (b64_10 : ¬ (97 ≤ ((u.2.1 1201) (x2 : Int32).toNatClampNeg) ∧ ((u.2.1 1201) (x2 : Int32).toNatClampNeg) ≤ 122)) (b153_14 : ¬ (48 ≤ ((u.2.1 1201) (x2 : Int32).toNatClampNeg) ∧ ((u.2.1 1201) (x2 : Int32).toNatClampNeg) ≤ 57)) (hf_18 : f_18 = upd (uc.2.1 1204) (x1 : Int32).toNatClampNeg 3) (hf_19 : f_19 = vp_updL (uc.2.2.1 1206) (x1 : Int32).toNatClampNeg ((u.2.1 1201 (x2 : Int32).toNatClampNeg : Int32).toInt64)) : g_rw (f_6) ((x1 + 1).toInt) 0 1001 := by
  have hz1202 := hI.1.s1202
  first | exact h_p | (have q2 := hI.1.s1202; have q3 := (g_up (i := x1) (by clear h_p; (try simp only [g_m1, Int32.lt_iff_toInt_lt, Int32.le_iff_toInt_le, ← Int32.toInt_inj, Int32.reduceToInt] at *); omega) (by clear h_p; (try simp only [g_m1, Int32.lt_iff_toInt_lt, Int32.le_iff_toInt_le, ← Int32.toInt_inj, Int32.reduceToInt] at *); omega)).1; subst hf_6; subst hf_18; subst hf_19; rw [q3]; exact h_p.push (by clear h_p; (try simp only [g_m1, Int32.lt_iff_toInt_lt, Int32.le_iff_toInt_le, ← Int32.toInt_inj, Int32.reduceToInt] at *); omega) rfl rfl (by clear h_p; (try simp only [g_m1, Int32.lt_iff_toInt_lt, Int32.le_iff_toInt_le, ← Int32.toInt_inj, Int32.reduceToInt] at *); omega))
set_option maxRecDepth 100000 in
theorem g_X12_cutAll_v30 (u : qS) (x1 : Int32) (x2 : Int32) (uc : qS) (f_6 : Nat → Int32) (f_18 : Nat → Int32) (f_19 : Nat → Int64) (hI : IM u) (h_n : 0 ≤ x1 ∧ x1 ≤ x2) (h_k : x2 ≤ u.1 1202) (h_z : uc.1 1203 = u.1 1202 ∧ uc.1 1202 = 0) (h_p : g_rw (uc.2.1 1205) (x1.toInt) 0 1001) (c22_1 : ¬ (uc.1 1203) ≤ (x2 : Int32)) (c35_4 : ¬ (u.2.1 1201 (x2 : Int32).toNatClampNeg : Int32) = 10) (c41_5 : ¬ (u.2.1 1201 (x2 : Int32).toNatClampNeg : Int32) = 32) (hf_6 : f_6 = upd (uc.2.1 1205) (x1 : Int32).toNatClampNeg x2) (b64_10 : ¬ (97 ≤ ((u.2.1 1201) (x2 : Int32).toNatClampNeg) ∧ ((u.2.1 1201) (x2 : Int32).toNatClampNeg) ≤ 122)) (b153_14 : ¬ (48 ≤ ((u.2.1 1201) (x2 : Int32).toNatClampNeg) ∧ ((u.2.1 1201) (x2 : Int32).toNatClampNeg) ≤ 57)) (hf_18 : f_18 = upd (uc.2.1 1204) (x1 : Int32).toNatClampNeg 3) (hf_19 : f_19 = vp_updL (uc.2.2.1 1206) (x1 : Int32).toNatClampNeg ((u.2.1 1201 (x2 : Int32).toNatClampNeg : Int32).toInt64)) : ((u.1 1202).toInt - (x2 + 1).toInt).toNat * 3000 < ((u.1 1202).toInt - x2.toInt).toNat * 3000 := by
  have hz1202 := hI.1.s1202
  have q2 := hI.1.s1202; clear h_p; (try simp only [g_m1, Int32.lt_iff_toInt_lt, Int32.le_iff_toInt_le, ← Int32.toInt_inj, Int32.toInt_add, Int32.toInt_sub, Int32.toInt_mul, Int32.toInt_neg, Int32.reduceToInt, g_bm, g_bm'] at *); omega
set_option maxRecDepth 100000 in
theorem g_X12_cutAll_v31 (u : qS) (x1 : Int32) (x2 : Int32) (uc : qS) (f_6 : Nat → Int32) (hI : IM u) (h_n : 0 ≤ x1 ∧ x1 ≤ x2) (h_k : x2 ≤ u.1 1202) (h_z : uc.1 1203 = u.1 1202 ∧ uc.1 1202 = 0) (h_p : g_rw (uc.2.1 1205) (x1.toInt) 0 1001) (c22_1 : ¬ (uc.1 1203) ≤ (x2 : Int32)) (c35_4 : ¬ (u.2.1 1201 (x2 : Int32).toNatClampNeg : Int32) = 10) (c41_5 : ¬ (u.2.1 1201 (x2 : Int32).toNatClampNeg : Int32) = 32) (hf_6 : f_6 = upd (uc.2.1 1205) (x1 : Int32).toNatClampNeg x2) (b64_10 : ¬ (97 ≤ ((u.2.1 1201) (x2 : Int32).toNatClampNeg) ∧ ((u.2.1 1201) (x2 : Int32).toNatClampNeg) ≤ 122)) (b153_14 : ¬ (48 ≤ ((u.2.1 1201) (x2 : Int32).toNatClampNeg) ∧ ((u.2.1 1201) (x2 : Int32).toNatClampNeg) ≤ 57)) : vp_in (x1) 1002 := by
  have hz1202 := hI.1.s1202
  have q2 := hI.1.s1202; clear h_p; refine g_in ?_ ?_ <;> ((try simp only [g_m1, Int32.lt_iff_toInt_lt, Int32.le_iff_toInt_le, ← Int32.toInt_inj, Int32.reduceToInt] at *); omega)
set_option maxRecDepth 100000 in
theorem g_X12_cutAll_v32 (u : qS) (x1 : Int32) (x2 : Int32) (uc : qS) (f_6 : Nat → Int32) (f_20 : Nat → Int32) (hI : IM u) (h_n : 0 ≤ x1 ∧ x1 ≤ x2) (h_k : x2 ≤ u.1 1202) (h_z : uc.1 1203 = u.1 1202 ∧ uc.1 1202 = 0) (h_p : g_rw (uc.2.1 1205) (x1.toInt) 0 1001) (c22_1 : ¬ (uc.1 1203) ≤ (x2 : Int32)) (c35_4 : ¬ (u.2.1 1201 (x2 : Int32).toNatClampNeg : Int32) = 10) (c41_5 : ¬ (u.2.1 1201 (x2 : Int32).toNatClampNeg : Int32) = 32) (hf_6 : f_6 = upd (uc.2.1 1205) (x1 : Int32).toNatClampNeg x2) (b64_10 : ¬ (97 ≤ ((u.2.1 1201) (x2 : Int32).toNatClampNeg) ∧ ((u.2.1 1201) (x2 : Int32).toNatClampNeg) ≤ 122)) (b153_14 : ¬ (48 ≤ ((u.2.1 1201) (x2 : Int32).toNatClampNeg) ∧ ((u.2.1 1201) (x2 : Int32).toNatClampNeg) ≤ 57)) (hf_20 : f_20 = upd (uc.2.1 1204) (x1 : Int32).toNatClampNeg 4) : vp_in (x1) 1002 := by
  have hz1202 := hI.1.s1202
  have q2 := hI.1.s1202; clear h_p; refine g_in ?_ ?_ <;> ((try simp only [g_m1, Int32.lt_iff_toInt_lt, Int32.le_iff_toInt_le, ← Int32.toInt_inj, Int32.reduceToInt] at *); omega)
set_option maxRecDepth 100000 in
theorem g_X12_cutAll_v33 (u : qS) (x1 : Int32) (x2 : Int32) (uc : qS) (f_6 : Nat → Int32) (f_20 : Nat → Int32) (f_21 : Nat → Int64) (hI : IM u) (h_n : 0 ≤ x1 ∧ x1 ≤ x2) (h_k : x2 ≤ u.1 1202) (h_z : uc.1 1203 = u.1 1202 ∧ uc.1 1202 = 0) (h_p : g_rw (uc.2.1 1205) (x1.toInt) 0 1001) (c22_1 : ¬ (uc.1 1203) ≤ (x2 : Int32)) (c35_4 : ¬ (u.2.1 1201 (x2 : Int32).toNatClampNeg : Int32) = 10) (c41_5 : ¬ (u.2.1 1201 (x2 : Int32).toNatClampNeg : Int32) = 32) (hf_6 : f_6 = upd (uc.2.1 1205) (x1 : Int32).toNatClampNeg x2) (b64_10 : ¬ (97 ≤ ((u.2.1 1201) (x2 : Int32).toNatClampNeg) ∧ ((u.2.1 1201) (x2 : Int32).toNatClampNeg) ≤ 122)) (b153_14 : ¬ (48 ≤ ((u.2.1 1201) (x2 : Int32).toNatClampNeg) ∧ ((u.2.1 1201) (x2 : Int32).toNatClampNeg) ≤ 57)) (hf_20 : f_20 = upd (uc.2.1 1204) (x1 : Int32).toNatClampNeg 4) (hf_21 : f_21 = vp_updL (uc.2.2.1 1206) (x1 : Int32).toNatClampNeg ((u.2.1 1201 (x2 : Int32).toNatClampNeg : Int32).toInt64)) : 0 ≤ (x1 + 1) ∧ (x1 + 1) ≤ (x2 + 1) := by
  have hz1202 := hI.1.s1202
  first | (have q2 := hI.1.s1202; have q3 := (g_up (i := x1) (by clear h_p; (try simp only [g_m1, Int32.lt_iff_toInt_lt, Int32.le_iff_toInt_le, ← Int32.toInt_inj, Int32.reduceToInt] at *); omega) (by clear h_p; (try simp only [g_m1, Int32.lt_iff_toInt_lt, Int32.le_iff_toInt_le, ← Int32.toInt_inj, Int32.reduceToInt] at *); omega)).1; have q4 := (g_up (i := x2) (by clear h_p; (try simp only [g_m1, Int32.lt_iff_toInt_lt, Int32.le_iff_toInt_le, ← Int32.toInt_inj, Int32.reduceToInt] at *); omega) (by clear h_p; (try simp only [g_m1, Int32.lt_iff_toInt_lt, Int32.le_iff_toInt_le, ← Int32.toInt_inj, Int32.reduceToInt] at *); omega)).1; clear h_p; (try simp only [g_m1, Int32.lt_iff_toInt_lt, Int32.le_iff_toInt_le, ← Int32.toInt_inj, Int32.reduceToInt] at *); omega) | (have q2 := hI.1.s1202; clear h_p; (try simp only [g_m1, Int32.lt_iff_toInt_lt, Int32.le_iff_toInt_le, ← Int32.toInt_inj, Int32.toInt_add, Int32.toInt_sub, Int32.toInt_mul, Int32.toInt_neg, Int32.reduceToInt, g_bm, g_bm'] at *); omega)
set_option maxRecDepth 100000 in
theorem g_X12_cutAll_v34 (u : qS) (x1 : Int32) (x2 : Int32) (uc : qS) (f_6 : Nat → Int32) (f_20 : Nat → Int32) (f_21 : Nat → Int64) (hI : IM u) (h_n : 0 ≤ x1 ∧ x1 ≤ x2) (h_k : x2 ≤ u.1 1202) (h_z : uc.1 1203 = u.1 1202 ∧ uc.1 1202 = 0) (h_p : g_rw (uc.2.1 1205) (x1.toInt) 0 1001) (c22_1 : ¬ (uc.1 1203) ≤ (x2 : Int32)) (c35_4 : ¬ (u.2.1 1201 (x2 : Int32).toNatClampNeg : Int32) = 10) (c41_5 : ¬ (u.2.1 1201 (x2 : Int32).toNatClampNeg : Int32) = 32) (hf_6 : f_6 = upd (uc.2.1 1205) (x1 : Int32).toNatClampNeg x2) (b64_10 : ¬ (97 ≤ ((u.2.1 1201) (x2 : Int32).toNatClampNeg) ∧ ((u.2.1 1201) (x2 : Int32).toNatClampNeg) ≤ 122)) (b153_14 : ¬ (48 ≤ ((u.2.1 1201) (x2 : Int32).toNatClampNeg) ∧ ((u.2.1 1201) (x2 : Int32).toNatClampNeg) ≤ 57)) (hf_20 : f_20 = upd (uc.2.1 1204) (x1 : Int32).toNatClampNeg 4) (hf_21 : f_21 = vp_updL (uc.2.2.1 1206) (x1 : Int32).toNatClampNeg ((u.2.1 1201 (x2 : Int32).toNatClampNeg : Int32).toInt64)) : (x2 + 1) ≤ u.1 1202 := by
  have hz1202 := hI.1.s1202
  have q2 := hI.1.s1202; clear h_p; (try simp only [g_m1, Int32.lt_iff_toInt_lt, Int32.le_iff_toInt_le, ← Int32.toInt_inj, Int32.toInt_add, Int32.toInt_sub, Int32.toInt_mul, Int32.toInt_neg, Int32.reduceToInt, g_bm, g_bm'] at *); omega
set_option maxRecDepth 100000 in
theorem g_X12_cutAll_v35 (u : qS) (x1 : Int32) (x2 : Int32) (uc : qS) (f_6 : Nat → Int32) (f_20 : Nat → Int32) (f_21 : Nat → Int64) (hI : IM u) (h_n : 0 ≤ x1 ∧ x1 ≤ x2) (h_k : x2 ≤ u.1 1202) (h_z : uc.1 1203 = u.1 1202 ∧ uc.1 1202 = 0) (h_p : g_rw (uc.2.1 1205) (x1.toInt) 0 1001) (c22_1 : ¬ (uc.1 1203) ≤ (x2 : Int32)) (c35_4 : ¬ (u.2.1 1201 (x2 : Int32).toNatClampNeg : Int32) = 10) (c41_5 : ¬ (u.2.1 1201 (x2 : Int32).toNatClampNeg : Int32) = 32) (hf_6 : f_6 = upd (uc.2.1 1205) (x1 : Int32).toNatClampNeg x2) (b64_10 : ¬ (97 ≤ ((u.2.1 1201) (x2 : Int32).toNatClampNeg) ∧ ((u.2.1 1201) (x2 : Int32).toNatClampNeg) ≤ 122)) (b153_14 : ¬ (48 ≤ ((u.2.1 1201) (x2 : Int32).toNatClampNeg) ∧ ((u.2.1 1201) (x2 : Int32).toNatClampNeg) ≤ 57)) (hf_20 : f_20 = upd (uc.2.1 1204) (x1 : Int32).toNatClampNeg 4) (hf_21 : f_21 = vp_updL (uc.2.2.1 1206) (x1 : Int32).toNatClampNeg ((u.2.1 1201 (x2 : Int32).toNatClampNeg : Int32).toInt64)) : (uc.1 1203 : Int32) = u.1 1202 ∧ (uc.1 1202 : Int32) = 0 := by
  have hz1202 := hI.1.s1202
  first | exact h_z | exact ⟨rfl, rfl⟩ | (simp_all; done)
set_option maxRecDepth 100000 in
theorem g_X12_cutAll_v36 (u : qS) (x1 : Int32) (x2 : Int32) (uc : qS) (f_6 : Nat → Int32) (f_20 : Nat → Int32) (f_21 : Nat → Int64) (hI : IM u) (h_n : 0 ≤ x1 ∧ x1 ≤ x2) (h_k : x2 ≤ u.1 1202) (h_z : uc.1 1203 = u.1 1202 ∧ uc.1 1202 = 0) (h_p : g_rw (uc.2.1 1205) (x1.toInt) 0 1001) (c22_1 : ¬ (uc.1 1203) ≤ (x2 : Int32)) (c35_4 : ¬ (u.2.1 1201 (x2 : Int32).toNatClampNeg : Int32) = 10) (c41_5 : ¬ (u.2.1 1201 (x2 : Int32).toNatClampNeg : Int32) = 32) (hf_6 : f_6 = upd (uc.2.1 1205) (x1 : Int32).toNatClampNeg x2) (b64_10 : ¬ (97 ≤ ((u.2.1 1201) (x2 : Int32).toNatClampNeg) ∧ ((u.2.1 1201) (x2 : Int32).toNatClampNeg) ≤ 122)) (b153_14 : ¬ (48 ≤ ((u.2.1 1201) (x2 : Int32).toNatClampNeg) ∧ ((u.2.1 1201) (x2 : Int32).toNatClampNeg) ≤ 57)) (hf_20 : f_20 = upd (uc.2.1 1204) (x1 : Int32).toNatClampNeg 4) (hf_21 : f_21 = vp_updL (uc.2.2.1 1206) (x1 : Int32).toNatClampNeg ((u.2.1 1201 (x2 : Int32).toNatClampNeg : Int32).toInt64)) : g_rw (f_6) ((x1 + 1).toInt) 0 1001 := by
  have hz1202 := hI.1.s1202
  first | exact h_p | (have q2 := hI.1.s1202; have q3 := (g_up (i := x1) (by clear h_p; (try simp only [g_m1, Int32.lt_iff_toInt_lt, Int32.le_iff_toInt_le, ← Int32.toInt_inj, Int32.reduceToInt] at *); omega) (by clear h_p; (try simp only [g_m1, Int32.lt_iff_toInt_lt, Int32.le_iff_toInt_le, ← Int32.toInt_inj, Int32.reduceToInt] at *); omega)).1; subst hf_6; subst hf_20; subst hf_21; rw [q3]; exact h_p.push (by clear h_p; (try simp only [g_m1, Int32.lt_iff_toInt_lt, Int32.le_iff_toInt_le, ← Int32.toInt_inj, Int32.reduceToInt] at *); omega) rfl rfl (by clear h_p; (try simp only [g_m1, Int32.lt_iff_toInt_lt, Int32.le_iff_toInt_le, ← Int32.toInt_inj, Int32.reduceToInt] at *); omega))
set_option maxRecDepth 100000 in
theorem g_X12_cutAll_v37 (u : qS) (x1 : Int32) (x2 : Int32) (uc : qS) (f_6 : Nat → Int32) (f_20 : Nat → Int32) (f_21 : Nat → Int64) (hI : IM u) (h_n : 0 ≤ x1 ∧ x1 ≤ x2) (h_k : x2 ≤ u.1 1202) (h_z : uc.1 1203 = u.1 1202 ∧ uc.1 1202 = 0) (h_p : g_rw (uc.2.1 1205) (x1.toInt) 0 1001) (c22_1 : ¬ (uc.1 1203) ≤ (x2 : Int32)) (c35_4 : ¬ (u.2.1 1201 (x2 : Int32).toNatClampNeg : Int32) = 10) (c41_5 : ¬ (u.2.1 1201 (x2 : Int32).toNatClampNeg : Int32) = 32) (hf_6 : f_6 = upd (uc.2.1 1205) (x1 : Int32).toNatClampNeg x2) (b64_10 : ¬ (97 ≤ ((u.2.1 1201) (x2 : Int32).toNatClampNeg) ∧ ((u.2.1 1201) (x2 : Int32).toNatClampNeg) ≤ 122)) (b153_14 : ¬ (48 ≤ ((u.2.1 1201) (x2 : Int32).toNatClampNeg) ∧ ((u.2.1 1201) (x2 : Int32).toNatClampNeg) ≤ 57)) (hf_20 : f_20 = upd (uc.2.1 1204) (x1 : Int32).toNatClampNeg 4) (hf_21 : f_21 = vp_updL (uc.2.2.1 1206) (x1 : Int32).toNatClampNeg ((u.2.1 1201 (x2 : Int32).toNatClampNeg : Int32).toInt64)) : ((u.1 1202).toInt - (x2 + 1).toInt).toNat * 3000 < ((u.1 1202).toInt - x2.toInt).toNat * 3000 := by
  have hz1202 := hI.1.s1202
  have q2 := hI.1.s1202; clear h_p; (try simp only [g_m1, Int32.lt_iff_toInt_lt, Int32.le_iff_toInt_le, ← Int32.toInt_inj, Int32.toInt_add, Int32.toInt_sub, Int32.toInt_mul, Int32.toInt_neg, Int32.reduceToInt, g_bm, g_bm'] at *); omega
set_option maxRecDepth 100000 in
theorem g_X12_cutAll_v38 (u : qS) (x1 : Int32) (x2 : Int32) (uc : qS) (hI : IM u) (h_n : 0 ≤ x1 ∧ x1 ≤ x2) (h_k : x2 ≤ u.1 1202) (h_z : uc.1 1203 = u.1 1202 ∧ uc.1 1202 = 0) (h_p : g_rw (uc.2.1 1205) (x1.toInt) 0 1001) (c22_1 : ¬ (uc.1 1203) ≤ (x2 : Int32)) (c35_4 : ¬ (u.2.1 1201 (x2 : Int32).toNatClampNeg : Int32) = 10) (c41_5 : (u.2.1 1201 (x2 : Int32).toNatClampNeg : Int32) = 32) : 0 ≤ x1 ∧ x1 ≤ (x2 + 1) := by
  have hz1202 := hI.1.s1202
  first | (have q2 := hI.1.s1202; have q3 := (g_up (i := x1) (by clear h_p; (try simp only [g_m1, Int32.lt_iff_toInt_lt, Int32.le_iff_toInt_le, ← Int32.toInt_inj, Int32.reduceToInt] at *); omega) (by clear h_p; (try simp only [g_m1, Int32.lt_iff_toInt_lt, Int32.le_iff_toInt_le, ← Int32.toInt_inj, Int32.reduceToInt] at *); omega)).1; have q4 := (g_up (i := x2) (by clear h_p; (try simp only [g_m1, Int32.lt_iff_toInt_lt, Int32.le_iff_toInt_le, ← Int32.toInt_inj, Int32.reduceToInt] at *); omega) (by clear h_p; (try simp only [g_m1, Int32.lt_iff_toInt_lt, Int32.le_iff_toInt_le, ← Int32.toInt_inj, Int32.reduceToInt] at *); omega)).1; clear h_p; (try simp only [g_m1, Int32.lt_iff_toInt_lt, Int32.le_iff_toInt_le, ← Int32.toInt_inj, Int32.reduceToInt] at *); omega) | (have q2 := hI.1.s1202; clear h_p; (try simp only [g_m1, Int32.lt_iff_toInt_lt, Int32.le_iff_toInt_le, ← Int32.toInt_inj, Int32.toInt_add, Int32.toInt_sub, Int32.toInt_mul, Int32.toInt_neg, Int32.reduceToInt, g_bm, g_bm'] at *); omega)
set_option maxRecDepth 100000 in
theorem g_X12_cutAll_v39 (u : qS) (x1 : Int32) (x2 : Int32) (uc : qS) (hI : IM u) (h_n : 0 ≤ x1 ∧ x1 ≤ x2) (h_k : x2 ≤ u.1 1202) (h_z : uc.1 1203 = u.1 1202 ∧ uc.1 1202 = 0) (h_p : g_rw (uc.2.1 1205) (x1.toInt) 0 1001) (c22_1 : ¬ (uc.1 1203) ≤ (x2 : Int32)) (c35_4 : ¬ (u.2.1 1201 (x2 : Int32).toNatClampNeg : Int32) = 10) (c41_5 : (u.2.1 1201 (x2 : Int32).toNatClampNeg : Int32) = 32) : (x2 + 1) ≤ u.1 1202 := by
  have hz1202 := hI.1.s1202
  have q2 := hI.1.s1202; clear h_p; (try simp only [g_m1, Int32.lt_iff_toInt_lt, Int32.le_iff_toInt_le, ← Int32.toInt_inj, Int32.toInt_add, Int32.toInt_sub, Int32.toInt_mul, Int32.toInt_neg, Int32.reduceToInt, g_bm, g_bm'] at *); omega
set_option maxRecDepth 100000 in
theorem g_X12_cutAll_v40 (u : qS) (x1 : Int32) (x2 : Int32) (uc : qS) (hI : IM u) (h_n : 0 ≤ x1 ∧ x1 ≤ x2) (h_k : x2 ≤ u.1 1202) (h_z : uc.1 1203 = u.1 1202 ∧ uc.1 1202 = 0) (h_p : g_rw (uc.2.1 1205) (x1.toInt) 0 1001) (c22_1 : ¬ (uc.1 1203) ≤ (x2 : Int32)) (c35_4 : ¬ (u.2.1 1201 (x2 : Int32).toNatClampNeg : Int32) = 10) (c41_5 : (u.2.1 1201 (x2 : Int32).toNatClampNeg : Int32) = 32) : (uc.1 1203 : Int32) = u.1 1202 ∧ (uc.1 1202 : Int32) = 0 := by
  have hz1202 := hI.1.s1202
  first | exact h_z | exact ⟨rfl, rfl⟩ | (simp_all; done)
set_option maxRecDepth 100000 in
theorem g_X12_cutAll_v41 (u : qS) (x1 : Int32) (x2 : Int32) (uc : qS) (hI : IM u) (h_n : 0 ≤ x1 ∧ x1 ≤ x2) (h_k : x2 ≤ u.1 1202) (h_z : uc.1 1203 = u.1 1202 ∧ uc.1 1202 = 0) (h_p : g_rw (uc.2.1 1205) (x1.toInt) 0 1001) (c22_1 : ¬ (uc.1 1203) ≤ (x2 : Int32)) (c35_4 : ¬ (u.2.1 1201 (x2 : Int32).toNatClampNeg : Int32) = 10) (c41_5 : (u.2.1 1201 (x2 : Int32).toNatClampNeg : Int32) = 32) : g_rw ((uc.2.1 1205)) (x1.toInt) 0 1001 := by
  have hz1202 := hI.1.s1202
  first | exact h_p | (have q2 := hI.1.s1202; have q3 := (g_up (i := x1) (by clear h_p; (try simp only [g_m1, Int32.lt_iff_toInt_lt, Int32.le_iff_toInt_le, ← Int32.toInt_inj, Int32.reduceToInt] at *); omega) (by clear h_p; (try simp only [g_m1, Int32.lt_iff_toInt_lt, Int32.le_iff_toInt_le, ← Int32.toInt_inj, Int32.reduceToInt] at *); omega)).1; skip; rw [q3]; exact h_p.push (by clear h_p; (try simp only [g_m1, Int32.lt_iff_toInt_lt, Int32.le_iff_toInt_le, ← Int32.toInt_inj, Int32.reduceToInt] at *); omega) rfl rfl (by clear h_p; (try simp only [g_m1, Int32.lt_iff_toInt_lt, Int32.le_iff_toInt_le, ← Int32.toInt_inj, Int32.reduceToInt] at *); omega))
set_option maxRecDepth 100000 in
theorem g_X12_cutAll_v42 (u : qS) (x1 : Int32) (x2 : Int32) (uc : qS) (hI : IM u) (h_n : 0 ≤ x1 ∧ x1 ≤ x2) (h_k : x2 ≤ u.1 1202) (h_z : uc.1 1203 = u.1 1202 ∧ uc.1 1202 = 0) (h_p : g_rw (uc.2.1 1205) (x1.toInt) 0 1001) (c22_1 : ¬ (uc.1 1203) ≤ (x2 : Int32)) (c35_4 : ¬ (u.2.1 1201 (x2 : Int32).toNatClampNeg : Int32) = 10) (c41_5 : (u.2.1 1201 (x2 : Int32).toNatClampNeg : Int32) = 32) : ((u.1 1202).toInt - (x2 + 1).toInt).toNat * 3000 < ((u.1 1202).toInt - x2.toInt).toNat * 3000 := by
  have hz1202 := hI.1.s1202
  have q2 := hI.1.s1202; clear h_p; (try simp only [g_m1, Int32.lt_iff_toInt_lt, Int32.le_iff_toInt_le, ← Int32.toInt_inj, Int32.toInt_add, Int32.toInt_sub, Int32.toInt_mul, Int32.toInt_neg, Int32.reduceToInt, g_bm, g_bm'] at *); omega
set_option maxRecDepth 100000 in
theorem g_X12_cutAll_v43 (u : qS) (x1 : Int32) (x2 : Int32) (x4 : Int32) (uc : qS) (hI : IM u) (h_n : 0 ≤ x1 ∧ x1 ≤ x4) (h_f : x4 ≤ x2 ∧ x4 < u.1 1202) (h_k : x2 ≤ u.1 1202) (h_l : x4 < x2 ∨ (x2 = x4 ∧ 97 ≤ u.2.1 1201 x2.toNatClampNeg ∧ u.2.1 1201 x2.toNatClampNeg ≤ 122)) (h_z : uc.1 1203 = u.1 1202 ∧ uc.1 1202 = 0) (h_p : g_rw (uc.2.1 1205) (x1.toInt + 1) 0 1001) (c75_22 : (uc.1 1203) ≤ (x2 : Int32)) (c140_23 : (x2 - x4 : Int32) ≤ 8) : vp_in (x1) 1002 := by
  have hz1202 := hI.1.s1202
  have q2 := hI.1.s1202; clear h_p; refine g_in ?_ ?_ <;> ((try simp only [g_m1, Int32.lt_iff_toInt_lt, Int32.le_iff_toInt_le, ← Int32.toInt_inj, Int32.reduceToInt] at *); omega)
set_option maxRecDepth 100000 in
theorem g_X12_cutAll_v44 (u : qS) (x1 : Int32) (x2 : Int32) (x4 : Int32) (uc : qS) (f_24 : Nat → Int32) (hI : IM u) (h_n : 0 ≤ x1 ∧ x1 ≤ x4) (h_f : x4 ≤ x2 ∧ x4 < u.1 1202) (h_k : x2 ≤ u.1 1202) (h_l : x4 < x2 ∨ (x2 = x4 ∧ 97 ≤ u.2.1 1201 x2.toNatClampNeg ∧ u.2.1 1201 x2.toNatClampNeg ≤ 122)) (h_z : uc.1 1203 = u.1 1202 ∧ uc.1 1202 = 0) (h_p : g_rw (uc.2.1 1205) (x1.toInt + 1) 0 1001) (c75_22 : (uc.1 1203) ≤ (x2 : Int32)) (c140_23 : (x2 - x4 : Int32) ≤ 8) (hf_24 : f_24 = upd (uc.2.1 1204) (x1 : Int32).toNatClampNeg 1) : vp_in (x1) 1002 := by
  have hz1202 := hI.1.s1202
  have q2 := hI.1.s1202; clear h_p; refine g_in ?_ ?_ <;> ((try simp only [g_m1, Int32.lt_iff_toInt_lt, Int32.le_iff_toInt_le, ← Int32.toInt_inj, Int32.reduceToInt] at *); omega)
set_option maxRecDepth 100000 in
theorem g_X12_cutAll_v45 (u : qS) (x1 : Int32) (x2 : Int32) (x4 : Int32) (x5 : Int64) (uc : qS) (f_24 : Nat → Int32) (f_25 : Nat → Int64) (hI : IM u) (h_n : 0 ≤ x1 ∧ x1 ≤ x4) (h_f : x4 ≤ x2 ∧ x4 < u.1 1202) (h_k : x2 ≤ u.1 1202) (h_l : x4 < x2 ∨ (x2 = x4 ∧ 97 ≤ u.2.1 1201 x2.toNatClampNeg ∧ u.2.1 1201 x2.toNatClampNeg ≤ 122)) (h_z : uc.1 1203 = u.1 1202 ∧ uc.1 1202 = 0) (h_p : g_rw (uc.2.1 1205) (x1.toInt + 1) 0 1001) (c75_22 : (uc.1 1203) ≤ (x2 : Int32)) (c140_23 : (x2 - x4 : Int32) ≤ 8) (hf_24 : f_24 = upd (uc.2.1 1204) (x1 : Int32).toNatClampNeg 1) (hf_25 : f_25 = vp_updL (uc.2.2.1 1206) (x1 : Int32).toNatClampNeg x5) : 0 ≤ (x1 + 1) ∧ (x1 + 1) ≤ x2 := by
  have hz1202 := hI.1.s1202
  have q2 := hI.1.s1202; have q3 := (g_up (i := x1) (by clear h_p; (try simp only [g_m1, Int32.lt_iff_toInt_lt, Int32.le_iff_toInt_le, ← Int32.toInt_inj, Int32.reduceToInt] at *); omega) (by clear h_p; (try simp only [g_m1, Int32.lt_iff_toInt_lt, Int32.le_iff_toInt_le, ← Int32.toInt_inj, Int32.reduceToInt] at *); omega)).1; clear h_p; (try simp only [g_m1, Int32.lt_iff_toInt_lt, Int32.le_iff_toInt_le, ← Int32.toInt_inj, Int32.reduceToInt] at *); omega
set_option maxRecDepth 100000 in
theorem g_X12_cutAll_v46 (u : qS) (x1 : Int32) (x2 : Int32) (x4 : Int32) (x5 : Int64) (uc : qS) (f_24 : Nat → Int32) (f_25 : Nat → Int64) (hI : IM u) (h_n : 0 ≤ x1 ∧ x1 ≤ x4) (h_f : x4 ≤ x2 ∧ x4 < u.1 1202) (h_k : x2 ≤ u.1 1202) (h_l : x4 < x2 ∨ (x2 = x4 ∧ 97 ≤ u.2.1 1201 x2.toNatClampNeg ∧ u.2.1 1201 x2.toNatClampNeg ≤ 122)) (h_z : uc.1 1203 = u.1 1202 ∧ uc.1 1202 = 0) (h_p : g_rw (uc.2.1 1205) (x1.toInt + 1) 0 1001) (c75_22 : (uc.1 1203) ≤ (x2 : Int32)) (c140_23 : (x2 - x4 : Int32) ≤ 8) (hf_24 : f_24 = upd (uc.2.1 1204) (x1 : Int32).toNatClampNeg 1) (hf_25 : f_25 = vp_updL (uc.2.2.1 1206) (x1 : Int32).toNatClampNeg x5) : x2 ≤ u.1 1202 := by
  have hz1202 := hI.1.s1202
  have q2 := hI.1.s1202; clear h_p; (try simp only [g_m1, Int32.lt_iff_toInt_lt, Int32.le_iff_toInt_le, ← Int32.toInt_inj, Int32.reduceToInt] at *); omega
set_option maxRecDepth 100000 in
theorem g_X12_cutAll_v47 (u : qS) (x1 : Int32) (x2 : Int32) (x4 : Int32) (x5 : Int64) (uc : qS) (f_24 : Nat → Int32) (f_25 : Nat → Int64) (hI : IM u) (h_n : 0 ≤ x1 ∧ x1 ≤ x4) (h_f : x4 ≤ x2 ∧ x4 < u.1 1202) (h_k : x2 ≤ u.1 1202) (h_l : x4 < x2 ∨ (x2 = x4 ∧ 97 ≤ u.2.1 1201 x2.toNatClampNeg ∧ u.2.1 1201 x2.toNatClampNeg ≤ 122)) (h_z : uc.1 1203 = u.1 1202 ∧ uc.1 1202 = 0) (h_p : g_rw (uc.2.1 1205) (x1.toInt + 1) 0 1001) (c75_22 : (uc.1 1203) ≤ (x2 : Int32)) (c140_23 : (x2 - x4 : Int32) ≤ 8) (hf_24 : f_24 = upd (uc.2.1 1204) (x1 : Int32).toNatClampNeg 1) (hf_25 : f_25 = vp_updL (uc.2.2.1 1206) (x1 : Int32).toNatClampNeg x5) : (uc.1 1203 : Int32) = u.1 1202 ∧ (uc.1 1202 : Int32) = 0 := by
  have hz1202 := hI.1.s1202
  first | exact h_z | exact ⟨rfl, rfl⟩ | (simp_all; done)
set_option maxRecDepth 100000 in
theorem g_X12_cutAll_v48 (u : qS) (x1 : Int32) (x2 : Int32) (x4 : Int32) (x5 : Int64) (uc : qS) (f_24 : Nat → Int32) (f_25 : Nat → Int64) (hI : IM u) (h_n : 0 ≤ x1 ∧ x1 ≤ x4) (h_f : x4 ≤ x2 ∧ x4 < u.1 1202) (h_k : x2 ≤ u.1 1202) (h_l : x4 < x2 ∨ (x2 = x4 ∧ 97 ≤ u.2.1 1201 x2.toNatClampNeg ∧ u.2.1 1201 x2.toNatClampNeg ≤ 122)) (h_z : uc.1 1203 = u.1 1202 ∧ uc.1 1202 = 0) (h_p : g_rw (uc.2.1 1205) (x1.toInt + 1) 0 1001) (c75_22 : (uc.1 1203) ≤ (x2 : Int32)) (c140_23 : (x2 - x4 : Int32) ≤ 8) (hf_24 : f_24 = upd (uc.2.1 1204) (x1 : Int32).toNatClampNeg 1) (hf_25 : f_25 = vp_updL (uc.2.2.1 1206) (x1 : Int32).toNatClampNeg x5) : g_rw ((uc.2.1 1205)) ((x1 + 1).toInt) 0 1001 := by
  have hz1202 := hI.1.s1202
  have q2 := hI.1.s1202; have q3 := (g_up (i := x1) (by clear h_p; (try simp only [g_m1, Int32.lt_iff_toInt_lt, Int32.le_iff_toInt_le, ← Int32.toInt_inj, Int32.reduceToInt] at *); omega) (by clear h_p; (try simp only [g_m1, Int32.lt_iff_toInt_lt, Int32.le_iff_toInt_le, ← Int32.toInt_inj, Int32.reduceToInt] at *); omega)).1; rw [q3]; exact h_p
set_option maxRecDepth 100000 in
theorem g_X12_cutAll_v49 (u : qS) (x1 : Int32) (x2 : Int32) (x4 : Int32) (x5 : Int64) (uc : qS) (f_24 : Nat → Int32) (f_25 : Nat → Int64) (hI : IM u) (h_n : 0 ≤ x1 ∧ x1 ≤ x4) (h_f : x4 ≤ x2 ∧ x4 < u.1 1202) (h_k : x2 ≤ u.1 1202) (h_l : x4 < x2 ∨ (x2 = x4 ∧ 97 ≤ u.2.1 1201 x2.toNatClampNeg ∧ u.2.1 1201 x2.toNatClampNeg ≤ 122)) (h_z : uc.1 1203 = u.1 1202 ∧ uc.1 1202 = 0) (h_p : g_rw (uc.2.1 1205) (x1.toInt + 1) 0 1001) (c75_22 : (uc.1 1203) ≤ (x2 : Int32)) (c140_23 : (x2 - x4 : Int32) ≤ 8) (hf_24 : f_24 = upd (uc.2.1 1204) (x1 : Int32).toNatClampNeg 1) (hf_25 : f_25 = vp_updL (uc.2.2.1 1206) (x1 : Int32).toNatClampNeg x5) : ((u.1 1202).toInt - x2.toInt).toNat * 3000 < ((u.1 1202).toInt - x4.toInt - 1).toNat * 3000 + 1 + ((u.1 1202).toInt - x2.toInt).toNat := by
  have hz1202 := hI.1.s1202
  have q2 := hI.1.s1202; clear h_p; (try simp only [g_m1, Int32.lt_iff_toInt_lt, Int32.le_iff_toInt_le, ← Int32.toInt_inj, Int32.reduceToInt] at *); omega
set_option maxRecDepth 100000 in
theorem g_X12_cutAll_v50 (u : qS) (x1 : Int32) (x2 : Int32) (x4 : Int32) (uc : qS) (hI : IM u) (h_n : 0 ≤ x1 ∧ x1 ≤ x4) (h_f : x4 ≤ x2 ∧ x4 < u.1 1202) (h_k : x2 ≤ u.1 1202) (h_l : x4 < x2 ∨ (x2 = x4 ∧ 97 ≤ u.2.1 1201 x2.toNatClampNeg ∧ u.2.1 1201 x2.toNatClampNeg ≤ 122)) (h_z : uc.1 1203 = u.1 1202 ∧ uc.1 1202 = 0) (h_p : g_rw (uc.2.1 1205) (x1.toInt + 1) 0 1001) (c75_22 : (uc.1 1203) ≤ (x2 : Int32)) (c140_23 : ¬ (x2 - x4 : Int32) ≤ 8) : vp_in (x1) 1002 := by
  have hz1202 := hI.1.s1202
  have q2 := hI.1.s1202; clear h_p; refine g_in ?_ ?_ <;> ((try simp only [g_m1, Int32.lt_iff_toInt_lt, Int32.le_iff_toInt_le, ← Int32.toInt_inj, Int32.reduceToInt] at *); omega)
set_option maxRecDepth 100000 in
theorem g_X12_cutAll_v51 (u : qS) (x1 : Int32) (x2 : Int32) (x4 : Int32) (uc : qS) (f_26 : Nat → Int32) (hI : IM u) (h_n : 0 ≤ x1 ∧ x1 ≤ x4) (h_f : x4 ≤ x2 ∧ x4 < u.1 1202) (h_k : x2 ≤ u.1 1202) (h_l : x4 < x2 ∨ (x2 = x4 ∧ 97 ≤ u.2.1 1201 x2.toNatClampNeg ∧ u.2.1 1201 x2.toNatClampNeg ≤ 122)) (h_z : uc.1 1203 = u.1 1202 ∧ uc.1 1202 = 0) (h_p : g_rw (uc.2.1 1205) (x1.toInt + 1) 0 1001) (c75_22 : (uc.1 1203) ≤ (x2 : Int32)) (c140_23 : ¬ (x2 - x4 : Int32) ≤ 8) (hf_26 : f_26 = upd (uc.2.1 1204) (x1 : Int32).toNatClampNeg 4) : vp_in (x1) 1002 := by
  have hz1202 := hI.1.s1202
  have q2 := hI.1.s1202; clear h_p; refine g_in ?_ ?_ <;> ((try simp only [g_m1, Int32.lt_iff_toInt_lt, Int32.le_iff_toInt_le, ← Int32.toInt_inj, Int32.reduceToInt] at *); omega)
set_option maxRecDepth 100000 in
theorem g_X12_cutAll_v52 (u : qS) (x1 : Int32) (x2 : Int32) (x4 : Int32) (x5 : Int64) (uc : qS) (f_26 : Nat → Int32) (f_27 : Nat → Int64) (hI : IM u) (h_n : 0 ≤ x1 ∧ x1 ≤ x4) (h_f : x4 ≤ x2 ∧ x4 < u.1 1202) (h_k : x2 ≤ u.1 1202) (h_l : x4 < x2 ∨ (x2 = x4 ∧ 97 ≤ u.2.1 1201 x2.toNatClampNeg ∧ u.2.1 1201 x2.toNatClampNeg ≤ 122)) (h_z : uc.1 1203 = u.1 1202 ∧ uc.1 1202 = 0) (h_p : g_rw (uc.2.1 1205) (x1.toInt + 1) 0 1001) (c75_22 : (uc.1 1203) ≤ (x2 : Int32)) (c140_23 : ¬ (x2 - x4 : Int32) ≤ 8) (hf_26 : f_26 = upd (uc.2.1 1204) (x1 : Int32).toNatClampNeg 4) (hf_27 : f_27 = vp_updL (uc.2.2.1 1206) (x1 : Int32).toNatClampNeg x5) : 0 ≤ (x1 + 1) ∧ (x1 + 1) ≤ x2 := by
  have hz1202 := hI.1.s1202
  have q2 := hI.1.s1202; have q3 := (g_up (i := x1) (by clear h_p; (try simp only [g_m1, Int32.lt_iff_toInt_lt, Int32.le_iff_toInt_le, ← Int32.toInt_inj, Int32.reduceToInt] at *); omega) (by clear h_p; (try simp only [g_m1, Int32.lt_iff_toInt_lt, Int32.le_iff_toInt_le, ← Int32.toInt_inj, Int32.reduceToInt] at *); omega)).1; clear h_p; (try simp only [g_m1, Int32.lt_iff_toInt_lt, Int32.le_iff_toInt_le, ← Int32.toInt_inj, Int32.reduceToInt] at *); omega
set_option maxRecDepth 100000 in
theorem g_X12_cutAll_v53 (u : qS) (x1 : Int32) (x2 : Int32) (x4 : Int32) (x5 : Int64) (uc : qS) (f_26 : Nat → Int32) (f_27 : Nat → Int64) (hI : IM u) (h_n : 0 ≤ x1 ∧ x1 ≤ x4) (h_f : x4 ≤ x2 ∧ x4 < u.1 1202) (h_k : x2 ≤ u.1 1202) (h_l : x4 < x2 ∨ (x2 = x4 ∧ 97 ≤ u.2.1 1201 x2.toNatClampNeg ∧ u.2.1 1201 x2.toNatClampNeg ≤ 122)) (h_z : uc.1 1203 = u.1 1202 ∧ uc.1 1202 = 0) (h_p : g_rw (uc.2.1 1205) (x1.toInt + 1) 0 1001) (c75_22 : (uc.1 1203) ≤ (x2 : Int32)) (c140_23 : ¬ (x2 - x4 : Int32) ≤ 8) (hf_26 : f_26 = upd (uc.2.1 1204) (x1 : Int32).toNatClampNeg 4) (hf_27 : f_27 = vp_updL (uc.2.2.1 1206) (x1 : Int32).toNatClampNeg x5) : x2 ≤ u.1 1202 := by
  have hz1202 := hI.1.s1202
  have q2 := hI.1.s1202; clear h_p; (try simp only [g_m1, Int32.lt_iff_toInt_lt, Int32.le_iff_toInt_le, ← Int32.toInt_inj, Int32.reduceToInt] at *); omega
set_option maxRecDepth 100000 in
theorem g_X12_cutAll_v54 (u : qS) (x1 : Int32) (x2 : Int32) (x4 : Int32) (x5 : Int64) (uc : qS) (f_26 : Nat → Int32) (f_27 : Nat → Int64) (hI : IM u) (h_n : 0 ≤ x1 ∧ x1 ≤ x4) (h_f : x4 ≤ x2 ∧ x4 < u.1 1202) (h_k : x2 ≤ u.1 1202) (h_l : x4 < x2 ∨ (x2 = x4 ∧ 97 ≤ u.2.1 1201 x2.toNatClampNeg ∧ u.2.1 1201 x2.toNatClampNeg ≤ 122)) (h_z : uc.1 1203 = u.1 1202 ∧ uc.1 1202 = 0) (h_p : g_rw (uc.2.1 1205) (x1.toInt + 1) 0 1001) (c75_22 : (uc.1 1203) ≤ (x2 : Int32)) (c140_23 : ¬ (x2 - x4 : Int32) ≤ 8) (hf_26 : f_26 = upd (uc.2.1 1204) (x1 : Int32).toNatClampNeg 4) (hf_27 : f_27 = vp_updL (uc.2.2.1 1206) (x1 : Int32).toNatClampNeg x5) : (uc.1 1203 : Int32) = u.1 1202 ∧ (uc.1 1202 : Int32) = 0 := by
  have hz1202 := hI.1.s1202
  first | exact h_z | exact ⟨rfl, rfl⟩ | (simp_all; done)
set_option maxRecDepth 100000 in
theorem g_X12_cutAll_v55 (u : qS) (x1 : Int32) (x2 : Int32) (x4 : Int32) (x5 : Int64) (uc : qS) (f_26 : Nat → Int32) (f_27 : Nat → Int64) (hI : IM u) (h_n : 0 ≤ x1 ∧ x1 ≤ x4) (h_f : x4 ≤ x2 ∧ x4 < u.1 1202) (h_k : x2 ≤ u.1 1202) (h_l : x4 < x2 ∨ (x2 = x4 ∧ 97 ≤ u.2.1 1201 x2.toNatClampNeg ∧ u.2.1 1201 x2.toNatClampNeg ≤ 122)) (h_z : uc.1 1203 = u.1 1202 ∧ uc.1 1202 = 0) (h_p : g_rw (uc.2.1 1205) (x1.toInt + 1) 0 1001) (c75_22 : (uc.1 1203) ≤ (x2 : Int32)) (c140_23 : ¬ (x2 - x4 : Int32) ≤ 8) (hf_26 : f_26 = upd (uc.2.1 1204) (x1 : Int32).toNatClampNeg 4) (hf_27 : f_27 = vp_updL (uc.2.2.1 1206) (x1 : Int32).toNatClampNeg x5) : g_rw ((uc.2.1 1205)) ((x1 + 1).toInt) 0 1001 := by
  have hz1202 := hI.1.s1202
  have q2 := hI.1.s1202; have q3 := (g_up (i := x1) (by clear h_p; (try simp only [g_m1, Int32.lt_iff_toInt_lt, Int32.le_iff_toInt_le, ← Int32.toInt_inj, Int32.reduceToInt] at *); omega) (by clear h_p; (try simp only [g_m1, Int32.lt_iff_toInt_lt, Int32.le_iff_toInt_le, ← Int32.toInt_inj, Int32.reduceToInt] at *); omega)).1; rw [q3]; exact h_p
set_option maxRecDepth 100000 in
theorem g_X12_cutAll_v56 (u : qS) (x1 : Int32) (x2 : Int32) (x4 : Int32) (x5 : Int64) (uc : qS) (f_26 : Nat → Int32) (f_27 : Nat → Int64) (hI : IM u) (h_n : 0 ≤ x1 ∧ x1 ≤ x4) (h_f : x4 ≤ x2 ∧ x4 < u.1 1202) (h_k : x2 ≤ u.1 1202) (h_l : x4 < x2 ∨ (x2 = x4 ∧ 97 ≤ u.2.1 1201 x2.toNatClampNeg ∧ u.2.1 1201 x2.toNatClampNeg ≤ 122)) (h_z : uc.1 1203 = u.1 1202 ∧ uc.1 1202 = 0) (h_p : g_rw (uc.2.1 1205) (x1.toInt + 1) 0 1001) (c75_22 : (uc.1 1203) ≤ (x2 : Int32)) (c140_23 : ¬ (x2 - x4 : Int32) ≤ 8) (hf_26 : f_26 = upd (uc.2.1 1204) (x1 : Int32).toNatClampNeg 4) (hf_27 : f_27 = vp_updL (uc.2.2.1 1206) (x1 : Int32).toNatClampNeg x5) : ((u.1 1202).toInt - x2.toInt).toNat * 3000 < ((u.1 1202).toInt - x4.toInt - 1).toNat * 3000 + 1 + ((u.1 1202).toInt - x2.toInt).toNat := by
  have hz1202 := hI.1.s1202
  have q2 := hI.1.s1202; clear h_p; (try simp only [g_m1, Int32.lt_iff_toInt_lt, Int32.le_iff_toInt_le, ← Int32.toInt_inj, Int32.reduceToInt] at *); omega
set_option maxRecDepth 100000 in
theorem g_X12_cutAll_v57 (u : qS) (x1 : Int32) (x2 : Int32) (x4 : Int32) (uc : qS) (hI : IM u) (h_n : 0 ≤ x1 ∧ x1 ≤ x4) (h_f : x4 ≤ x2 ∧ x4 < u.1 1202) (h_k : x2 ≤ u.1 1202) (h_l : x4 < x2 ∨ (x2 = x4 ∧ 97 ≤ u.2.1 1201 x2.toNatClampNeg ∧ u.2.1 1201 x2.toNatClampNeg ≤ 122)) (h_z : uc.1 1203 = u.1 1202 ∧ uc.1 1202 = 0) (h_p : g_rw (uc.2.1 1205) (x1.toInt + 1) 0 1001) (c75_22 : ¬ (uc.1 1203) ≤ (x2 : Int32)) : vp_in (x2) 1000 := by
  have hz1202 := hI.1.s1202
  have q2 := hI.1.s1202; clear h_p; refine g_in ?_ ?_ <;> ((try simp only [g_m1, Int32.lt_iff_toInt_lt, Int32.le_iff_toInt_le, ← Int32.toInt_inj, Int32.reduceToInt] at *); omega)
set_option maxRecDepth 100000 in
theorem g_X12_cutAll_v58 (u : qS) (x1 : Int32) (x2 : Int32) (x4 : Int32) (uc : qS) (hI : IM u) (h_n : 0 ≤ x1 ∧ x1 ≤ x4) (h_f : x4 ≤ x2 ∧ x4 < u.1 1202) (h_k : x2 ≤ u.1 1202) (h_l : x4 < x2 ∨ (x2 = x4 ∧ 97 ≤ u.2.1 1201 x2.toNatClampNeg ∧ u.2.1 1201 x2.toNatClampNeg ≤ 122)) (h_z : uc.1 1203 = u.1 1202 ∧ uc.1 1202 = 0) (h_p : g_rw (uc.2.1 1205) (x1.toInt + 1) 0 1001) (c75_22 : ¬ (uc.1 1203) ≤ (x2 : Int32)) (b84_31 : 97 ≤ ((u.2.1 1201) (x2 : Int32).toNatClampNeg) ∧ ((u.2.1 1201) (x2 : Int32).toNatClampNeg) ≤ 122) (c96_32 : 8 ≤ (x2 - x4 : Int32)) : 0 ≤ x1 ∧ x1 ≤ x4 := by
  have hz1202 := hI.1.s1202
  have q2 := hI.1.s1202; clear h_p; (try simp only [g_m1, Int32.lt_iff_toInt_lt, Int32.le_iff_toInt_le, ← Int32.toInt_inj, Int32.reduceToInt] at *); omega
set_option maxRecDepth 100000 in
theorem g_X12_cutAll_v59 (u : qS) (x1 : Int32) (x2 : Int32) (x4 : Int32) (uc : qS) (hI : IM u) (h_n : 0 ≤ x1 ∧ x1 ≤ x4) (h_f : x4 ≤ x2 ∧ x4 < u.1 1202) (h_k : x2 ≤ u.1 1202) (h_l : x4 < x2 ∨ (x2 = x4 ∧ 97 ≤ u.2.1 1201 x2.toNatClampNeg ∧ u.2.1 1201 x2.toNatClampNeg ≤ 122)) (h_z : uc.1 1203 = u.1 1202 ∧ uc.1 1202 = 0) (h_p : g_rw (uc.2.1 1205) (x1.toInt + 1) 0 1001) (c75_22 : ¬ (uc.1 1203) ≤ (x2 : Int32)) (b84_31 : 97 ≤ ((u.2.1 1201) (x2 : Int32).toNatClampNeg) ∧ ((u.2.1 1201) (x2 : Int32).toNatClampNeg) ≤ 122) (c96_32 : 8 ≤ (x2 - x4 : Int32)) : x4 ≤ (x2 + 1) ∧ x4 < u.1 1202 := by
  have hz1202 := hI.1.s1202
  have q2 := hI.1.s1202; clear h_p; (try simp only [g_m1, Int32.lt_iff_toInt_lt, Int32.le_iff_toInt_le, ← Int32.toInt_inj, Int32.toInt_add, Int32.toInt_sub, Int32.toInt_mul, Int32.toInt_neg, Int32.reduceToInt, g_bm, g_bm'] at *); omega
set_option maxRecDepth 100000 in
theorem g_X12_cutAll_v60 (u : qS) (x1 : Int32) (x2 : Int32) (x4 : Int32) (uc : qS) (hI : IM u) (h_n : 0 ≤ x1 ∧ x1 ≤ x4) (h_f : x4 ≤ x2 ∧ x4 < u.1 1202) (h_k : x2 ≤ u.1 1202) (h_l : x4 < x2 ∨ (x2 = x4 ∧ 97 ≤ u.2.1 1201 x2.toNatClampNeg ∧ u.2.1 1201 x2.toNatClampNeg ≤ 122)) (h_z : uc.1 1203 = u.1 1202 ∧ uc.1 1202 = 0) (h_p : g_rw (uc.2.1 1205) (x1.toInt + 1) 0 1001) (c75_22 : ¬ (uc.1 1203) ≤ (x2 : Int32)) (b84_31 : 97 ≤ ((u.2.1 1201) (x2 : Int32).toNatClampNeg) ∧ ((u.2.1 1201) (x2 : Int32).toNatClampNeg) ≤ 122) (c96_32 : 8 ≤ (x2 - x4 : Int32)) : (x2 + 1) ≤ u.1 1202 := by
  have hz1202 := hI.1.s1202
  have q2 := hI.1.s1202; clear h_p; (try simp only [g_m1, Int32.lt_iff_toInt_lt, Int32.le_iff_toInt_le, ← Int32.toInt_inj, Int32.toInt_add, Int32.toInt_sub, Int32.toInt_mul, Int32.toInt_neg, Int32.reduceToInt, g_bm, g_bm'] at *); omega
set_option maxRecDepth 100000 in
theorem g_X12_cutAll_v61 (u : qS) (x1 : Int32) (x2 : Int32) (x4 : Int32) (uc : qS) (hI : IM u) (h_n : 0 ≤ x1 ∧ x1 ≤ x4) (h_f : x4 ≤ x2 ∧ x4 < u.1 1202) (h_k : x2 ≤ u.1 1202) (h_l : x4 < x2 ∨ (x2 = x4 ∧ 97 ≤ u.2.1 1201 x2.toNatClampNeg ∧ u.2.1 1201 x2.toNatClampNeg ≤ 122)) (h_z : uc.1 1203 = u.1 1202 ∧ uc.1 1202 = 0) (h_p : g_rw (uc.2.1 1205) (x1.toInt + 1) 0 1001) (c75_22 : ¬ (uc.1 1203) ≤ (x2 : Int32)) (b84_31 : 97 ≤ ((u.2.1 1201) (x2 : Int32).toNatClampNeg) ∧ ((u.2.1 1201) (x2 : Int32).toNatClampNeg) ≤ 122) (c96_32 : 8 ≤ (x2 - x4 : Int32)) : x4 < (x2 + 1) ∨ ((x2 + 1) = x4 ∧ 97 ≤ u.2.1 1201 (x2 + 1).toNatClampNeg ∧ u.2.1 1201 (x2 + 1).toNatClampNeg ≤ 122) := by
  have hz1202 := hI.1.s1202
  refine Or.inl ?_; have q2 := hI.1.s1202; clear h_p; (try simp only [g_m1, Int32.lt_iff_toInt_lt, Int32.le_iff_toInt_le, ← Int32.toInt_inj, Int32.toInt_add, Int32.toInt_sub, Int32.toInt_mul, Int32.toInt_neg, Int32.reduceToInt, g_bm, g_bm'] at *); omega
set_option maxRecDepth 100000 in
theorem g_X12_cutAll_v62 (u : qS) (x1 : Int32) (x2 : Int32) (x4 : Int32) (uc : qS) (hI : IM u) (h_n : 0 ≤ x1 ∧ x1 ≤ x4) (h_f : x4 ≤ x2 ∧ x4 < u.1 1202) (h_k : x2 ≤ u.1 1202) (h_l : x4 < x2 ∨ (x2 = x4 ∧ 97 ≤ u.2.1 1201 x2.toNatClampNeg ∧ u.2.1 1201 x2.toNatClampNeg ≤ 122)) (h_z : uc.1 1203 = u.1 1202 ∧ uc.1 1202 = 0) (h_p : g_rw (uc.2.1 1205) (x1.toInt + 1) 0 1001) (c75_22 : ¬ (uc.1 1203) ≤ (x2 : Int32)) (b84_31 : 97 ≤ ((u.2.1 1201) (x2 : Int32).toNatClampNeg) ∧ ((u.2.1 1201) (x2 : Int32).toNatClampNeg) ≤ 122) (c96_32 : 8 ≤ (x2 - x4 : Int32)) : (uc.1 1203 : Int32) = u.1 1202 ∧ (uc.1 1202 : Int32) = 0 := by
  have hz1202 := hI.1.s1202
  first | exact h_z | exact ⟨rfl, rfl⟩ | (simp_all; done)
set_option maxRecDepth 100000 in
theorem g_X12_cutAll_v63 (u : qS) (x1 : Int32) (x2 : Int32) (x4 : Int32) (uc : qS) (hI : IM u) (h_n : 0 ≤ x1 ∧ x1 ≤ x4) (h_f : x4 ≤ x2 ∧ x4 < u.1 1202) (h_k : x2 ≤ u.1 1202) (h_l : x4 < x2 ∨ (x2 = x4 ∧ 97 ≤ u.2.1 1201 x2.toNatClampNeg ∧ u.2.1 1201 x2.toNatClampNeg ≤ 122)) (h_z : uc.1 1203 = u.1 1202 ∧ uc.1 1202 = 0) (h_p : g_rw (uc.2.1 1205) (x1.toInt + 1) 0 1001) (c75_22 : ¬ (uc.1 1203) ≤ (x2 : Int32)) (b84_31 : 97 ≤ ((u.2.1 1201) (x2 : Int32).toNatClampNeg) ∧ ((u.2.1 1201) (x2 : Int32).toNatClampNeg) ≤ 122) (c96_32 : 8 ≤ (x2 - x4 : Int32)) : g_rw ((uc.2.1 1205)) (x1.toInt + 1) 0 1001 := by
  have hz1202 := hI.1.s1202
  exact h_p
set_option maxRecDepth 100000 in
theorem g_X12_cutAll_v64 (u : qS) (x1 : Int32) (x2 : Int32) (x4 : Int32) (uc : qS) (hI : IM u) (h_n : 0 ≤ x1 ∧ x1 ≤ x4) (h_f : x4 ≤ x2 ∧ x4 < u.1 1202) (h_k : x2 ≤ u.1 1202) (h_l : x4 < x2 ∨ (x2 = x4 ∧ 97 ≤ u.2.1 1201 x2.toNatClampNeg ∧ u.2.1 1201 x2.toNatClampNeg ≤ 122)) (h_z : uc.1 1203 = u.1 1202 ∧ uc.1 1202 = 0) (h_p : g_rw (uc.2.1 1205) (x1.toInt + 1) 0 1001) (c75_22 : ¬ (uc.1 1203) ≤ (x2 : Int32)) (b84_31 : 97 ≤ ((u.2.1 1201) (x2 : Int32).toNatClampNeg) ∧ ((u.2.1 1201) (x2 : Int32).toNatClampNeg) ≤ 122) (c96_32 : 8 ≤ (x2 - x4 : Int32)) : ((u.1 1202).toInt - x4.toInt - 1).toNat * 3000 + 1 + ((u.1 1202).toInt - (x2 + 1).toInt).toNat < ((u.1 1202).toInt - x4.toInt - 1).toNat * 3000 + 1 + ((u.1 1202).toInt - x2.toInt).toNat := by
  have hz1202 := hI.1.s1202
  have q2 := hI.1.s1202; clear h_p; (try simp only [g_m1, Int32.lt_iff_toInt_lt, Int32.le_iff_toInt_le, ← Int32.toInt_inj, Int32.toInt_add, Int32.toInt_sub, Int32.toInt_mul, Int32.toInt_neg, Int32.reduceToInt, g_bm, g_bm'] at *); omega
set_option maxRecDepth 100000 in
theorem g_X12_cutAll_v65 (u : qS) (x1 : Int32) (x2 : Int32) (x4 : Int32) (uc : qS) (hI : IM u) (h_n : 0 ≤ x1 ∧ x1 ≤ x4) (h_f : x4 ≤ x2 ∧ x4 < u.1 1202) (h_k : x2 ≤ u.1 1202) (h_l : x4 < x2 ∨ (x2 = x4 ∧ 97 ≤ u.2.1 1201 x2.toNatClampNeg ∧ u.2.1 1201 x2.toNatClampNeg ≤ 122)) (h_z : uc.1 1203 = u.1 1202 ∧ uc.1 1202 = 0) (h_p : g_rw (uc.2.1 1205) (x1.toInt + 1) 0 1001) (c75_22 : ¬ (uc.1 1203) ≤ (x2 : Int32)) (b84_31 : 97 ≤ ((u.2.1 1201) (x2 : Int32).toNatClampNeg) ∧ ((u.2.1 1201) (x2 : Int32).toNatClampNeg) ≤ 122) (c96_32 : ¬ 8 ≤ (x2 - x4 : Int32)) : vp_in (x2) 1000 := by
  have hz1202 := hI.1.s1202
  have q2 := hI.1.s1202; clear h_p; refine g_in ?_ ?_ <;> ((try simp only [g_m1, Int32.lt_iff_toInt_lt, Int32.le_iff_toInt_le, ← Int32.toInt_inj, Int32.reduceToInt] at *); omega)
set_option maxRecDepth 100000 in
theorem g_X12_cutAll_v66 (u : qS) (x1 : Int32) (x2 : Int32) (x4 : Int32) (uc : qS) (hI : IM u) (h_n : 0 ≤ x1 ∧ x1 ≤ x4) (h_f : x4 ≤ x2 ∧ x4 < u.1 1202) (h_k : x2 ≤ u.1 1202) (h_l : x4 < x2 ∨ (x2 = x4 ∧ 97 ≤ u.2.1 1201 x2.toNatClampNeg ∧ u.2.1 1201 x2.toNatClampNeg ≤ 122)) (h_z : uc.1 1203 = u.1 1202 ∧ uc.1 1202 = 0) (h_p : g_rw (uc.2.1 1205) (x1.toInt + 1) 0 1001) (c75_22 : ¬ (uc.1 1203) ≤ (x2 : Int32)) (b84_31 : 97 ≤ ((u.2.1 1201) (x2 : Int32).toNatClampNeg) ∧ ((u.2.1 1201) (x2 : Int32).toNatClampNeg) ≤ 122) (c96_32 : ¬ 8 ≤ (x2 - x4 : Int32)) : 0 ≤ x1 ∧ x1 ≤ x4 := by
  have hz1202 := hI.1.s1202
  have q2 := hI.1.s1202; clear h_p; (try simp only [g_m1, Int32.lt_iff_toInt_lt, Int32.le_iff_toInt_le, ← Int32.toInt_inj, Int32.reduceToInt] at *); omega
set_option maxRecDepth 100000 in
theorem g_X12_cutAll_v67 (u : qS) (x1 : Int32) (x2 : Int32) (x4 : Int32) (uc : qS) (hI : IM u) (h_n : 0 ≤ x1 ∧ x1 ≤ x4) (h_f : x4 ≤ x2 ∧ x4 < u.1 1202) (h_k : x2 ≤ u.1 1202) (h_l : x4 < x2 ∨ (x2 = x4 ∧ 97 ≤ u.2.1 1201 x2.toNatClampNeg ∧ u.2.1 1201 x2.toNatClampNeg ≤ 122)) (h_z : uc.1 1203 = u.1 1202 ∧ uc.1 1202 = 0) (h_p : g_rw (uc.2.1 1205) (x1.toInt + 1) 0 1001) (c75_22 : ¬ (uc.1 1203) ≤ (x2 : Int32)) (b84_31 : 97 ≤ ((u.2.1 1201) (x2 : Int32).toNatClampNeg) ∧ ((u.2.1 1201) (x2 : Int32).toNatClampNeg) ≤ 122) (c96_32 : ¬ 8 ≤ (x2 - x4 : Int32)) : x4 ≤ (x2 + 1) ∧ x4 < u.1 1202 := by
  have hz1202 := hI.1.s1202
  have q2 := hI.1.s1202; clear h_p; (try simp only [g_m1, Int32.lt_iff_toInt_lt, Int32.le_iff_toInt_le, ← Int32.toInt_inj, Int32.toInt_add, Int32.toInt_sub, Int32.toInt_mul, Int32.toInt_neg, Int32.reduceToInt, g_bm, g_bm'] at *); omega
set_option maxRecDepth 100000 in
theorem g_X12_cutAll_v68 (u : qS) (x1 : Int32) (x2 : Int32) (x4 : Int32) (uc : qS) (hI : IM u) (h_n : 0 ≤ x1 ∧ x1 ≤ x4) (h_f : x4 ≤ x2 ∧ x4 < u.1 1202) (h_k : x2 ≤ u.1 1202) (h_l : x4 < x2 ∨ (x2 = x4 ∧ 97 ≤ u.2.1 1201 x2.toNatClampNeg ∧ u.2.1 1201 x2.toNatClampNeg ≤ 122)) (h_z : uc.1 1203 = u.1 1202 ∧ uc.1 1202 = 0) (h_p : g_rw (uc.2.1 1205) (x1.toInt + 1) 0 1001) (c75_22 : ¬ (uc.1 1203) ≤ (x2 : Int32)) (b84_31 : 97 ≤ ((u.2.1 1201) (x2 : Int32).toNatClampNeg) ∧ ((u.2.1 1201) (x2 : Int32).toNatClampNeg) ≤ 122) (c96_32 : ¬ 8 ≤ (x2 - x4 : Int32)) : (x2 + 1) ≤ u.1 1202 := by
  have hz1202 := hI.1.s1202
  have q2 := hI.1.s1202; clear h_p; (try simp only [g_m1, Int32.lt_iff_toInt_lt, Int32.le_iff_toInt_le, ← Int32.toInt_inj, Int32.toInt_add, Int32.toInt_sub, Int32.toInt_mul, Int32.toInt_neg, Int32.reduceToInt, g_bm, g_bm'] at *); omega
set_option maxRecDepth 100000 in
theorem g_X12_cutAll_v69 (u : qS) (x1 : Int32) (x2 : Int32) (x4 : Int32) (uc : qS) (hI : IM u) (h_n : 0 ≤ x1 ∧ x1 ≤ x4) (h_f : x4 ≤ x2 ∧ x4 < u.1 1202) (h_k : x2 ≤ u.1 1202) (h_l : x4 < x2 ∨ (x2 = x4 ∧ 97 ≤ u.2.1 1201 x2.toNatClampNeg ∧ u.2.1 1201 x2.toNatClampNeg ≤ 122)) (h_z : uc.1 1203 = u.1 1202 ∧ uc.1 1202 = 0) (h_p : g_rw (uc.2.1 1205) (x1.toInt + 1) 0 1001) (c75_22 : ¬ (uc.1 1203) ≤ (x2 : Int32)) (b84_31 : 97 ≤ ((u.2.1 1201) (x2 : Int32).toNatClampNeg) ∧ ((u.2.1 1201) (x2 : Int32).toNatClampNeg) ≤ 122) (c96_32 : ¬ 8 ≤ (x2 - x4 : Int32)) : x4 < (x2 + 1) ∨ ((x2 + 1) = x4 ∧ 97 ≤ u.2.1 1201 (x2 + 1).toNatClampNeg ∧ u.2.1 1201 (x2 + 1).toNatClampNeg ≤ 122) := by
  have hz1202 := hI.1.s1202
  refine Or.inl ?_; have q2 := hI.1.s1202; clear h_p; (try simp only [g_m1, Int32.lt_iff_toInt_lt, Int32.le_iff_toInt_le, ← Int32.toInt_inj, Int32.toInt_add, Int32.toInt_sub, Int32.toInt_mul, Int32.toInt_neg, Int32.reduceToInt, g_bm, g_bm'] at *); omega
set_option maxRecDepth 100000 in
theorem g_X12_cutAll_v70 (u : qS) (x1 : Int32) (x2 : Int32) (x4 : Int32) (uc : qS) (hI : IM u) (h_n : 0 ≤ x1 ∧ x1 ≤ x4) (h_f : x4 ≤ x2 ∧ x4 < u.1 1202) (h_k : x2 ≤ u.1 1202) (h_l : x4 < x2 ∨ (x2 = x4 ∧ 97 ≤ u.2.1 1201 x2.toNatClampNeg ∧ u.2.1 1201 x2.toNatClampNeg ≤ 122)) (h_z : uc.1 1203 = u.1 1202 ∧ uc.1 1202 = 0) (h_p : g_rw (uc.2.1 1205) (x1.toInt + 1) 0 1001) (c75_22 : ¬ (uc.1 1203) ≤ (x2 : Int32)) (b84_31 : 97 ≤ ((u.2.1 1201) (x2 : Int32).toNatClampNeg) ∧ ((u.2.1 1201) (x2 : Int32).toNatClampNeg) ≤ 122) (c96_32 : ¬ 8 ≤ (x2 - x4 : Int32)) : (uc.1 1203 : Int32) = u.1 1202 ∧ (uc.1 1202 : Int32) = 0 := by
  have hz1202 := hI.1.s1202
  first | exact h_z | exact ⟨rfl, rfl⟩ | (simp_all; done)
set_option maxRecDepth 100000 in
theorem g_X12_cutAll_v71 (u : qS) (x1 : Int32) (x2 : Int32) (x4 : Int32) (uc : qS) (hI : IM u) (h_n : 0 ≤ x1 ∧ x1 ≤ x4) (h_f : x4 ≤ x2 ∧ x4 < u.1 1202) (h_k : x2 ≤ u.1 1202) (h_l : x4 < x2 ∨ (x2 = x4 ∧ 97 ≤ u.2.1 1201 x2.toNatClampNeg ∧ u.2.1 1201 x2.toNatClampNeg ≤ 122)) (h_z : uc.1 1203 = u.1 1202 ∧ uc.1 1202 = 0) (h_p : g_rw (uc.2.1 1205) (x1.toInt + 1) 0 1001) (c75_22 : ¬ (uc.1 1203) ≤ (x2 : Int32)) (b84_31 : 97 ≤ ((u.2.1 1201) (x2 : Int32).toNatClampNeg) ∧ ((u.2.1 1201) (x2 : Int32).toNatClampNeg) ≤ 122) (c96_32 : ¬ 8 ≤ (x2 - x4 : Int32)) : g_rw ((uc.2.1 1205)) (x1.toInt + 1) 0 1001 := by
  have hz1202 := hI.1.s1202
  exact h_p
set_option maxRecDepth 100000 in
theorem g_X12_cutAll_v72 (u : qS) (x1 : Int32) (x2 : Int32) (x4 : Int32) (uc : qS) (hI : IM u) (h_n : 0 ≤ x1 ∧ x1 ≤ x4) (h_f : x4 ≤ x2 ∧ x4 < u.1 1202) (h_k : x2 ≤ u.1 1202) (h_l : x4 < x2 ∨ (x2 = x4 ∧ 97 ≤ u.2.1 1201 x2.toNatClampNeg ∧ u.2.1 1201 x2.toNatClampNeg ≤ 122)) (h_z : uc.1 1203 = u.1 1202 ∧ uc.1 1202 = 0) (h_p : g_rw (uc.2.1 1205) (x1.toInt + 1) 0 1001) (c75_22 : ¬ (uc.1 1203) ≤ (x2 : Int32)) (b84_31 : 97 ≤ ((u.2.1 1201) (x2 : Int32).toNatClampNeg) ∧ ((u.2.1 1201) (x2 : Int32).toNatClampNeg) ≤ 122) (c96_32 : ¬ 8 ≤ (x2 - x4 : Int32)) : ((u.1 1202).toInt - x4.toInt - 1).toNat * 3000 + 1 + ((u.1 1202).toInt - (x2 + 1).toInt).toNat < ((u.1 1202).toInt - x4.toInt - 1).toNat * 3000 + 1 + ((u.1 1202).toInt - x2.toInt).toNat := by
  have hz1202 := hI.1.s1202
  have q2 := hI.1.s1202; clear h_p; (try simp only [g_m1, Int32.lt_iff_toInt_lt, Int32.le_iff_toInt_le, ← Int32.toInt_inj, Int32.toInt_add, Int32.toInt_sub, Int32.toInt_mul, Int32.toInt_neg, Int32.reduceToInt, g_bm, g_bm'] at *); omega
set_option maxRecDepth 100000 in
theorem g_X12_cutAll_v73 (u : qS) (x1 : Int32) (x2 : Int32) (x4 : Int32) (uc : qS) (hI : IM u) (h_n : 0 ≤ x1 ∧ x1 ≤ x4) (h_f : x4 ≤ x2 ∧ x4 < u.1 1202) (h_k : x2 ≤ u.1 1202) (h_l : x4 < x2 ∨ (x2 = x4 ∧ 97 ≤ u.2.1 1201 x2.toNatClampNeg ∧ u.2.1 1201 x2.toNatClampNeg ≤ 122)) (h_z : uc.1 1203 = u.1 1202 ∧ uc.1 1202 = 0) (h_p : g_rw (uc.2.1 1205) (x1.toInt + 1) 0 1001) (c75_22 : ¬ (uc.1 1203) ≤ (x2 : Int32)) (b84_31 : ¬ (97 ≤ ((u.2.1 1201) (x2 : Int32).toNatClampNeg) ∧ ((u.2.1 1201) (x2 : Int32).toNatClampNeg) ≤ 122)) (c140_36 : (x2 - x4 : Int32) ≤ 8) : vp_in (x1) 1002 := by
  have hz1202 := hI.1.s1202
  have q2 := hI.1.s1202; clear h_p; refine g_in ?_ ?_ <;> ((try simp only [g_m1, Int32.lt_iff_toInt_lt, Int32.le_iff_toInt_le, ← Int32.toInt_inj, Int32.reduceToInt] at *); omega)
set_option maxRecDepth 100000 in
theorem g_X12_cutAll_v74 (u : qS) (x1 : Int32) (x2 : Int32) (x4 : Int32) (uc : qS) (f_37 : Nat → Int32) (hI : IM u) (h_n : 0 ≤ x1 ∧ x1 ≤ x4) (h_f : x4 ≤ x2 ∧ x4 < u.1 1202) (h_k : x2 ≤ u.1 1202) (h_l : x4 < x2 ∨ (x2 = x4 ∧ 97 ≤ u.2.1 1201 x2.toNatClampNeg ∧ u.2.1 1201 x2.toNatClampNeg ≤ 122)) (h_z : uc.1 1203 = u.1 1202 ∧ uc.1 1202 = 0) (h_p : g_rw (uc.2.1 1205) (x1.toInt + 1) 0 1001) (c75_22 : ¬ (uc.1 1203) ≤ (x2 : Int32)) (b84_31 : ¬ (97 ≤ ((u.2.1 1201) (x2 : Int32).toNatClampNeg) ∧ ((u.2.1 1201) (x2 : Int32).toNatClampNeg) ≤ 122)) (c140_36 : (x2 - x4 : Int32) ≤ 8) (hf_37 : f_37 = upd (uc.2.1 1204) (x1 : Int32).toNatClampNeg 1) : vp_in (x1) 1002 := by
  have hz1202 := hI.1.s1202
  have q2 := hI.1.s1202; clear h_p; refine g_in ?_ ?_ <;> ((try simp only [g_m1, Int32.lt_iff_toInt_lt, Int32.le_iff_toInt_le, ← Int32.toInt_inj, Int32.reduceToInt] at *); omega)
set_option maxRecDepth 100000 in
theorem g_X12_cutAll_v75 (u : qS) (x1 : Int32) (x2 : Int32) (x4 : Int32) (x5 : Int64) (uc : qS) (f_37 : Nat → Int32) (f_38 : Nat → Int64) (hI : IM u) (h_n : 0 ≤ x1 ∧ x1 ≤ x4) (h_f : x4 ≤ x2 ∧ x4 < u.1 1202) (h_k : x2 ≤ u.1 1202) (h_l : x4 < x2 ∨ (x2 = x4 ∧ 97 ≤ u.2.1 1201 x2.toNatClampNeg ∧ u.2.1 1201 x2.toNatClampNeg ≤ 122)) (h_z : uc.1 1203 = u.1 1202 ∧ uc.1 1202 = 0) (h_p : g_rw (uc.2.1 1205) (x1.toInt + 1) 0 1001) (c75_22 : ¬ (uc.1 1203) ≤ (x2 : Int32)) (b84_31 : ¬ (97 ≤ ((u.2.1 1201) (x2 : Int32).toNatClampNeg) ∧ ((u.2.1 1201) (x2 : Int32).toNatClampNeg) ≤ 122)) (c140_36 : (x2 - x4 : Int32) ≤ 8) (hf_37 : f_37 = upd (uc.2.1 1204) (x1 : Int32).toNatClampNeg 1) (hf_38 : f_38 = vp_updL (uc.2.2.1 1206) (x1 : Int32).toNatClampNeg x5) : 0 ≤ (x1 + 1) ∧ (x1 + 1) ≤ x2 := by
  have hz1202 := hI.1.s1202
  have q2 := hI.1.s1202; have q3 := (g_up (i := x1) (by clear h_p; (try simp only [g_m1, Int32.lt_iff_toInt_lt, Int32.le_iff_toInt_le, ← Int32.toInt_inj, Int32.reduceToInt] at *); omega) (by clear h_p; (try simp only [g_m1, Int32.lt_iff_toInt_lt, Int32.le_iff_toInt_le, ← Int32.toInt_inj, Int32.reduceToInt] at *); omega)).1; clear h_p; (try simp only [g_m1, Int32.lt_iff_toInt_lt, Int32.le_iff_toInt_le, ← Int32.toInt_inj, Int32.reduceToInt] at *); omega
set_option maxRecDepth 100000 in
theorem g_X12_cutAll_v76 (u : qS) (x1 : Int32) (x2 : Int32) (x4 : Int32) (x5 : Int64) (uc : qS) (f_37 : Nat → Int32) (f_38 : Nat → Int64) (hI : IM u) (h_n : 0 ≤ x1 ∧ x1 ≤ x4) (h_f : x4 ≤ x2 ∧ x4 < u.1 1202) (h_k : x2 ≤ u.1 1202) (h_l : x4 < x2 ∨ (x2 = x4 ∧ 97 ≤ u.2.1 1201 x2.toNatClampNeg ∧ u.2.1 1201 x2.toNatClampNeg ≤ 122)) (h_z : uc.1 1203 = u.1 1202 ∧ uc.1 1202 = 0) (h_p : g_rw (uc.2.1 1205) (x1.toInt + 1) 0 1001) (c75_22 : ¬ (uc.1 1203) ≤ (x2 : Int32)) (b84_31 : ¬ (97 ≤ ((u.2.1 1201) (x2 : Int32).toNatClampNeg) ∧ ((u.2.1 1201) (x2 : Int32).toNatClampNeg) ≤ 122)) (c140_36 : (x2 - x4 : Int32) ≤ 8) (hf_37 : f_37 = upd (uc.2.1 1204) (x1 : Int32).toNatClampNeg 1) (hf_38 : f_38 = vp_updL (uc.2.2.1 1206) (x1 : Int32).toNatClampNeg x5) : x2 ≤ u.1 1202 := by
  have hz1202 := hI.1.s1202
  have q2 := hI.1.s1202; clear h_p; (try simp only [g_m1, Int32.lt_iff_toInt_lt, Int32.le_iff_toInt_le, ← Int32.toInt_inj, Int32.reduceToInt] at *); omega
set_option maxRecDepth 100000 in
theorem g_X12_cutAll_v77 (u : qS) (x1 : Int32) (x2 : Int32) (x4 : Int32) (x5 : Int64) (uc : qS) (f_37 : Nat → Int32) (f_38 : Nat → Int64) (hI : IM u) (h_n : 0 ≤ x1 ∧ x1 ≤ x4) (h_f : x4 ≤ x2 ∧ x4 < u.1 1202) (h_k : x2 ≤ u.1 1202) (h_l : x4 < x2 ∨ (x2 = x4 ∧ 97 ≤ u.2.1 1201 x2.toNatClampNeg ∧ u.2.1 1201 x2.toNatClampNeg ≤ 122)) (h_z : uc.1 1203 = u.1 1202 ∧ uc.1 1202 = 0) (h_p : g_rw (uc.2.1 1205) (x1.toInt + 1) 0 1001) (c75_22 : ¬ (uc.1 1203) ≤ (x2 : Int32)) (b84_31 : ¬ (97 ≤ ((u.2.1 1201) (x2 : Int32).toNatClampNeg) ∧ ((u.2.1 1201) (x2 : Int32).toNatClampNeg) ≤ 122)) (c140_36 : (x2 - x4 : Int32) ≤ 8) (hf_37 : f_37 = upd (uc.2.1 1204) (x1 : Int32).toNatClampNeg 1) (hf_38 : f_38 = vp_updL (uc.2.2.1 1206) (x1 : Int32).toNatClampNeg x5) : (uc.1 1203 : Int32) = u.1 1202 ∧ (uc.1 1202 : Int32) = 0 := by
  have hz1202 := hI.1.s1202
  first | exact h_z | exact ⟨rfl, rfl⟩ | (simp_all; done)
set_option maxRecDepth 100000 in
theorem g_X12_cutAll_v78 (u : qS) (x1 : Int32) (x2 : Int32) (x4 : Int32) (x5 : Int64) (uc : qS) (f_37 : Nat → Int32) (f_38 : Nat → Int64) (hI : IM u) (h_n : 0 ≤ x1 ∧ x1 ≤ x4) (h_f : x4 ≤ x2 ∧ x4 < u.1 1202) (h_k : x2 ≤ u.1 1202) (h_l : x4 < x2 ∨ (x2 = x4 ∧ 97 ≤ u.2.1 1201 x2.toNatClampNeg ∧ u.2.1 1201 x2.toNatClampNeg ≤ 122)) (h_z : uc.1 1203 = u.1 1202 ∧ uc.1 1202 = 0) (h_p : g_rw (uc.2.1 1205) (x1.toInt + 1) 0 1001) (c75_22 : ¬ (uc.1 1203) ≤ (x2 : Int32)) (b84_31 : ¬ (97 ≤ ((u.2.1 1201) (x2 : Int32).toNatClampNeg) ∧ ((u.2.1 1201) (x2 : Int32).toNatClampNeg) ≤ 122)) (c140_36 : (x2 - x4 : Int32) ≤ 8) (hf_37 : f_37 = upd (uc.2.1 1204) (x1 : Int32).toNatClampNeg 1) (hf_38 : f_38 = vp_updL (uc.2.2.1 1206) (x1 : Int32).toNatClampNeg x5) : g_rw ((uc.2.1 1205)) ((x1 + 1).toInt) 0 1001 := by
  have hz1202 := hI.1.s1202
  have q2 := hI.1.s1202; have q3 := (g_up (i := x1) (by clear h_p; (try simp only [g_m1, Int32.lt_iff_toInt_lt, Int32.le_iff_toInt_le, ← Int32.toInt_inj, Int32.reduceToInt] at *); omega) (by clear h_p; (try simp only [g_m1, Int32.lt_iff_toInt_lt, Int32.le_iff_toInt_le, ← Int32.toInt_inj, Int32.reduceToInt] at *); omega)).1; rw [q3]; exact h_p
set_option maxRecDepth 100000 in
theorem g_X12_cutAll_v79 (u : qS) (x1 : Int32) (x2 : Int32) (x4 : Int32) (x5 : Int64) (uc : qS) (f_37 : Nat → Int32) (f_38 : Nat → Int64) (hI : IM u) (h_n : 0 ≤ x1 ∧ x1 ≤ x4) (h_f : x4 ≤ x2 ∧ x4 < u.1 1202) (h_k : x2 ≤ u.1 1202) (h_l : x4 < x2 ∨ (x2 = x4 ∧ 97 ≤ u.2.1 1201 x2.toNatClampNeg ∧ u.2.1 1201 x2.toNatClampNeg ≤ 122)) (h_z : uc.1 1203 = u.1 1202 ∧ uc.1 1202 = 0) (h_p : g_rw (uc.2.1 1205) (x1.toInt + 1) 0 1001) (c75_22 : ¬ (uc.1 1203) ≤ (x2 : Int32)) (b84_31 : ¬ (97 ≤ ((u.2.1 1201) (x2 : Int32).toNatClampNeg) ∧ ((u.2.1 1201) (x2 : Int32).toNatClampNeg) ≤ 122)) (c140_36 : (x2 - x4 : Int32) ≤ 8) (hf_37 : f_37 = upd (uc.2.1 1204) (x1 : Int32).toNatClampNeg 1) (hf_38 : f_38 = vp_updL (uc.2.2.1 1206) (x1 : Int32).toNatClampNeg x5) : ((u.1 1202).toInt - x2.toInt).toNat * 3000 < ((u.1 1202).toInt - x4.toInt - 1).toNat * 3000 + 1 + ((u.1 1202).toInt - x2.toInt).toNat := by
  have hz1202 := hI.1.s1202
  have q2 := hI.1.s1202; clear h_p; (try simp only [g_m1, Int32.lt_iff_toInt_lt, Int32.le_iff_toInt_le, ← Int32.toInt_inj, Int32.reduceToInt] at *); omega
set_option maxRecDepth 100000 in
theorem g_X12_cutAll_v80 (u : qS) (x1 : Int32) (x2 : Int32) (x4 : Int32) (uc : qS) (hI : IM u) (h_n : 0 ≤ x1 ∧ x1 ≤ x4) (h_f : x4 ≤ x2 ∧ x4 < u.1 1202) (h_k : x2 ≤ u.1 1202) (h_l : x4 < x2 ∨ (x2 = x4 ∧ 97 ≤ u.2.1 1201 x2.toNatClampNeg ∧ u.2.1 1201 x2.toNatClampNeg ≤ 122)) (h_z : uc.1 1203 = u.1 1202 ∧ uc.1 1202 = 0) (h_p : g_rw (uc.2.1 1205) (x1.toInt + 1) 0 1001) (c75_22 : ¬ (uc.1 1203) ≤ (x2 : Int32)) (b84_31 : ¬ (97 ≤ ((u.2.1 1201) (x2 : Int32).toNatClampNeg) ∧ ((u.2.1 1201) (x2 : Int32).toNatClampNeg) ≤ 122)) (c140_36 : ¬ (x2 - x4 : Int32) ≤ 8) : vp_in (x1) 1002 := by
  have hz1202 := hI.1.s1202
  have q2 := hI.1.s1202; clear h_p; refine g_in ?_ ?_ <;> ((try simp only [g_m1, Int32.lt_iff_toInt_lt, Int32.le_iff_toInt_le, ← Int32.toInt_inj, Int32.reduceToInt] at *); omega)
set_option maxRecDepth 100000 in
theorem g_X12_cutAll_v81 (u : qS) (x1 : Int32) (x2 : Int32) (x4 : Int32) (uc : qS) (f_39 : Nat → Int32) (hI : IM u) (h_n : 0 ≤ x1 ∧ x1 ≤ x4) (h_f : x4 ≤ x2 ∧ x4 < u.1 1202) (h_k : x2 ≤ u.1 1202) (h_l : x4 < x2 ∨ (x2 = x4 ∧ 97 ≤ u.2.1 1201 x2.toNatClampNeg ∧ u.2.1 1201 x2.toNatClampNeg ≤ 122)) (h_z : uc.1 1203 = u.1 1202 ∧ uc.1 1202 = 0) (h_p : g_rw (uc.2.1 1205) (x1.toInt + 1) 0 1001) (c75_22 : ¬ (uc.1 1203) ≤ (x2 : Int32)) (b84_31 : ¬ (97 ≤ ((u.2.1 1201) (x2 : Int32).toNatClampNeg) ∧ ((u.2.1 1201) (x2 : Int32).toNatClampNeg) ≤ 122)) (c140_36 : ¬ (x2 - x4 : Int32) ≤ 8) (hf_39 : f_39 = upd (uc.2.1 1204) (x1 : Int32).toNatClampNeg 4) : vp_in (x1) 1002 := by
  have hz1202 := hI.1.s1202
  have q2 := hI.1.s1202; clear h_p; refine g_in ?_ ?_ <;> ((try simp only [g_m1, Int32.lt_iff_toInt_lt, Int32.le_iff_toInt_le, ← Int32.toInt_inj, Int32.reduceToInt] at *); omega)
set_option maxRecDepth 100000 in
theorem g_X12_cutAll_v82 (u : qS) (x1 : Int32) (x2 : Int32) (x4 : Int32) (x5 : Int64) (uc : qS) (f_39 : Nat → Int32) (f_40 : Nat → Int64) (hI : IM u) (h_n : 0 ≤ x1 ∧ x1 ≤ x4) (h_f : x4 ≤ x2 ∧ x4 < u.1 1202) (h_k : x2 ≤ u.1 1202) (h_l : x4 < x2 ∨ (x2 = x4 ∧ 97 ≤ u.2.1 1201 x2.toNatClampNeg ∧ u.2.1 1201 x2.toNatClampNeg ≤ 122)) (h_z : uc.1 1203 = u.1 1202 ∧ uc.1 1202 = 0) (h_p : g_rw (uc.2.1 1205) (x1.toInt + 1) 0 1001) (c75_22 : ¬ (uc.1 1203) ≤ (x2 : Int32)) (b84_31 : ¬ (97 ≤ ((u.2.1 1201) (x2 : Int32).toNatClampNeg) ∧ ((u.2.1 1201) (x2 : Int32).toNatClampNeg) ≤ 122)) (c140_36 : ¬ (x2 - x4 : Int32) ≤ 8) (hf_39 : f_39 = upd (uc.2.1 1204) (x1 : Int32).toNatClampNeg 4) (hf_40 : f_40 = vp_updL (uc.2.2.1 1206) (x1 : Int32).toNatClampNeg x5) : 0 ≤ (x1 + 1) ∧ (x1 + 1) ≤ x2 := by
  have hz1202 := hI.1.s1202
  have q2 := hI.1.s1202; have q3 := (g_up (i := x1) (by clear h_p; (try simp only [g_m1, Int32.lt_iff_toInt_lt, Int32.le_iff_toInt_le, ← Int32.toInt_inj, Int32.reduceToInt] at *); omega) (by clear h_p; (try simp only [g_m1, Int32.lt_iff_toInt_lt, Int32.le_iff_toInt_le, ← Int32.toInt_inj, Int32.reduceToInt] at *); omega)).1; clear h_p; (try simp only [g_m1, Int32.lt_iff_toInt_lt, Int32.le_iff_toInt_le, ← Int32.toInt_inj, Int32.reduceToInt] at *); omega
set_option maxRecDepth 100000 in
theorem g_X12_cutAll_v83 (u : qS) (x1 : Int32) (x2 : Int32) (x4 : Int32) (x5 : Int64) (uc : qS) (f_39 : Nat → Int32) (f_40 : Nat → Int64) (hI : IM u) (h_n : 0 ≤ x1 ∧ x1 ≤ x4) (h_f : x4 ≤ x2 ∧ x4 < u.1 1202) (h_k : x2 ≤ u.1 1202) (h_l : x4 < x2 ∨ (x2 = x4 ∧ 97 ≤ u.2.1 1201 x2.toNatClampNeg ∧ u.2.1 1201 x2.toNatClampNeg ≤ 122)) (h_z : uc.1 1203 = u.1 1202 ∧ uc.1 1202 = 0) (h_p : g_rw (uc.2.1 1205) (x1.toInt + 1) 0 1001) (c75_22 : ¬ (uc.1 1203) ≤ (x2 : Int32)) (b84_31 : ¬ (97 ≤ ((u.2.1 1201) (x2 : Int32).toNatClampNeg) ∧ ((u.2.1 1201) (x2 : Int32).toNatClampNeg) ≤ 122)) (c140_36 : ¬ (x2 - x4 : Int32) ≤ 8) (hf_39 : f_39 = upd (uc.2.1 1204) (x1 : Int32).toNatClampNeg 4) (hf_40 : f_40 = vp_updL (uc.2.2.1 1206) (x1 : Int32).toNatClampNeg x5) : x2 ≤ u.1 1202 := by
  have hz1202 := hI.1.s1202
  have q2 := hI.1.s1202; clear h_p; (try simp only [g_m1, Int32.lt_iff_toInt_lt, Int32.le_iff_toInt_le, ← Int32.toInt_inj, Int32.reduceToInt] at *); omega
set_option maxRecDepth 100000 in
theorem g_X12_cutAll_v84 (u : qS) (x1 : Int32) (x2 : Int32) (x4 : Int32) (x5 : Int64) (uc : qS) (f_39 : Nat → Int32) (f_40 : Nat → Int64) (hI : IM u) (h_n : 0 ≤ x1 ∧ x1 ≤ x4) (h_f : x4 ≤ x2 ∧ x4 < u.1 1202) (h_k : x2 ≤ u.1 1202) (h_l : x4 < x2 ∨ (x2 = x4 ∧ 97 ≤ u.2.1 1201 x2.toNatClampNeg ∧ u.2.1 1201 x2.toNatClampNeg ≤ 122)) (h_z : uc.1 1203 = u.1 1202 ∧ uc.1 1202 = 0) (h_p : g_rw (uc.2.1 1205) (x1.toInt + 1) 0 1001) (c75_22 : ¬ (uc.1 1203) ≤ (x2 : Int32)) (b84_31 : ¬ (97 ≤ ((u.2.1 1201) (x2 : Int32).toNatClampNeg) ∧ ((u.2.1 1201) (x2 : Int32).toNatClampNeg) ≤ 122)) (c140_36 : ¬ (x2 - x4 : Int32) ≤ 8) (hf_39 : f_39 = upd (uc.2.1 1204) (x1 : Int32).toNatClampNeg 4) (hf_40 : f_40 = vp_updL (uc.2.2.1 1206) (x1 : Int32).toNatClampNeg x5) : (uc.1 1203 : Int32) = u.1 1202 ∧ (uc.1 1202 : Int32) = 0 := by
  have hz1202 := hI.1.s1202
  first | exact h_z | exact ⟨rfl, rfl⟩ | (simp_all; done)
set_option maxRecDepth 100000 in
theorem g_X12_cutAll_v85 (u : qS) (x1 : Int32) (x2 : Int32) (x4 : Int32) (x5 : Int64) (uc : qS) (f_39 : Nat → Int32) (f_40 : Nat → Int64) (hI : IM u) (h_n : 0 ≤ x1 ∧ x1 ≤ x4) (h_f : x4 ≤ x2 ∧ x4 < u.1 1202) (h_k : x2 ≤ u.1 1202) (h_l : x4 < x2 ∨ (x2 = x4 ∧ 97 ≤ u.2.1 1201 x2.toNatClampNeg ∧ u.2.1 1201 x2.toNatClampNeg ≤ 122)) (h_z : uc.1 1203 = u.1 1202 ∧ uc.1 1202 = 0) (h_p : g_rw (uc.2.1 1205) (x1.toInt + 1) 0 1001) (c75_22 : ¬ (uc.1 1203) ≤ (x2 : Int32)) (b84_31 : ¬ (97 ≤ ((u.2.1 1201) (x2 : Int32).toNatClampNeg) ∧ ((u.2.1 1201) (x2 : Int32).toNatClampNeg) ≤ 122)) (c140_36 : ¬ (x2 - x4 : Int32) ≤ 8) (hf_39 : f_39 = upd (uc.2.1 1204) (x1 : Int32).toNatClampNeg 4) (hf_40 : f_40 = vp_updL (uc.2.2.1 1206) (x1 : Int32).toNatClampNeg x5) : g_rw ((uc.2.1 1205)) ((x1 + 1).toInt) 0 1001 := by
  have hz1202 := hI.1.s1202
  have q2 := hI.1.s1202; have q3 := (g_up (i := x1) (by clear h_p; (try simp only [g_m1, Int32.lt_iff_toInt_lt, Int32.le_iff_toInt_le, ← Int32.toInt_inj, Int32.reduceToInt] at *); omega) (by clear h_p; (try simp only [g_m1, Int32.lt_iff_toInt_lt, Int32.le_iff_toInt_le, ← Int32.toInt_inj, Int32.reduceToInt] at *); omega)).1; rw [q3]; exact h_p
set_option maxRecDepth 100000 in
theorem g_X12_cutAll_v86 (u : qS) (x1 : Int32) (x2 : Int32) (x4 : Int32) (x5 : Int64) (uc : qS) (f_39 : Nat → Int32) (f_40 : Nat → Int64) (hI : IM u) (h_n : 0 ≤ x1 ∧ x1 ≤ x4) (h_f : x4 ≤ x2 ∧ x4 < u.1 1202) (h_k : x2 ≤ u.1 1202) (h_l : x4 < x2 ∨ (x2 = x4 ∧ 97 ≤ u.2.1 1201 x2.toNatClampNeg ∧ u.2.1 1201 x2.toNatClampNeg ≤ 122)) (h_z : uc.1 1203 = u.1 1202 ∧ uc.1 1202 = 0) (h_p : g_rw (uc.2.1 1205) (x1.toInt + 1) 0 1001) (c75_22 : ¬ (uc.1 1203) ≤ (x2 : Int32)) (b84_31 : ¬ (97 ≤ ((u.2.1 1201) (x2 : Int32).toNatClampNeg) ∧ ((u.2.1 1201) (x2 : Int32).toNatClampNeg) ≤ 122)) (c140_36 : ¬ (x2 - x4 : Int32) ≤ 8) (hf_39 : f_39 = upd (uc.2.1 1204) (x1 : Int32).toNatClampNeg 4) (hf_40 : f_40 = vp_updL (uc.2.2.1 1206) (x1 : Int32).toNatClampNeg x5) : ((u.1 1202).toInt - x2.toInt).toNat * 3000 < ((u.1 1202).toInt - x4.toInt - 1).toNat * 3000 + 1 + ((u.1 1202).toInt - x2.toInt).toNat := by
  have hz1202 := hI.1.s1202
  have q2 := hI.1.s1202; clear h_p; (try simp only [g_m1, Int32.lt_iff_toInt_lt, Int32.le_iff_toInt_le, ← Int32.toInt_inj, Int32.reduceToInt] at *); omega
set_option maxRecDepth 100000 in
theorem g_X12_cutAll_v87 (u : qS) (x1 : Int32) (x2 : Int32) (x4 : Int32) (uc : qS) (hI : IM u) (h_n : 0 ≤ x1 ∧ x1 ≤ x4) (h_f : x4 ≤ x2 ∧ x4 < u.1 1202) (h_k : x2 ≤ u.1 1202) (h_l : x4 < x2 ∨ (x2 = x4 ∧ 48 ≤ u.2.1 1201 x2.toNatClampNeg ∧ u.2.1 1201 x2.toNatClampNeg ≤ 57)) (h_z : uc.1 1203 = u.1 1202 ∧ uc.1 1202 = 0) (h_p : g_rw (uc.2.1 1205) (x1.toInt + 1) 0 1001) (c164_41 : (uc.1 1203) ≤ (x2 : Int32)) (c228_42 : (x2 - x4 : Int32) ≤ 4) : vp_in (x1) 1002 := by
  have hz1202 := hI.1.s1202
  have q2 := hI.1.s1202; clear h_p; refine g_in ?_ ?_ <;> ((try simp only [g_m1, Int32.lt_iff_toInt_lt, Int32.le_iff_toInt_le, ← Int32.toInt_inj, Int32.reduceToInt] at *); omega)
set_option maxRecDepth 100000 in
theorem g_X12_cutAll_v88 (u : qS) (x1 : Int32) (x2 : Int32) (x4 : Int32) (uc : qS) (f_43 : Nat → Int32) (hI : IM u) (h_n : 0 ≤ x1 ∧ x1 ≤ x4) (h_f : x4 ≤ x2 ∧ x4 < u.1 1202) (h_k : x2 ≤ u.1 1202) (h_l : x4 < x2 ∨ (x2 = x4 ∧ 48 ≤ u.2.1 1201 x2.toNatClampNeg ∧ u.2.1 1201 x2.toNatClampNeg ≤ 57)) (h_z : uc.1 1203 = u.1 1202 ∧ uc.1 1202 = 0) (h_p : g_rw (uc.2.1 1205) (x1.toInt + 1) 0 1001) (c164_41 : (uc.1 1203) ≤ (x2 : Int32)) (c228_42 : (x2 - x4 : Int32) ≤ 4) (hf_43 : f_43 = upd (uc.2.1 1204) (x1 : Int32).toNatClampNeg 2) : vp_in (x1) 1002 := by
  have hz1202 := hI.1.s1202
  have q2 := hI.1.s1202; clear h_p; refine g_in ?_ ?_ <;> ((try simp only [g_m1, Int32.lt_iff_toInt_lt, Int32.le_iff_toInt_le, ← Int32.toInt_inj, Int32.reduceToInt] at *); omega)
set_option maxRecDepth 100000 in
theorem g_X12_cutAll_v89 (u : qS) (x1 : Int32) (x2 : Int32) (x4 : Int32) (x5 : Int64) (uc : qS) (f_43 : Nat → Int32) (f_44 : Nat → Int64) (hI : IM u) (h_n : 0 ≤ x1 ∧ x1 ≤ x4) (h_f : x4 ≤ x2 ∧ x4 < u.1 1202) (h_k : x2 ≤ u.1 1202) (h_l : x4 < x2 ∨ (x2 = x4 ∧ 48 ≤ u.2.1 1201 x2.toNatClampNeg ∧ u.2.1 1201 x2.toNatClampNeg ≤ 57)) (h_z : uc.1 1203 = u.1 1202 ∧ uc.1 1202 = 0) (h_p : g_rw (uc.2.1 1205) (x1.toInt + 1) 0 1001) (c164_41 : (uc.1 1203) ≤ (x2 : Int32)) (c228_42 : (x2 - x4 : Int32) ≤ 4) (hf_43 : f_43 = upd (uc.2.1 1204) (x1 : Int32).toNatClampNeg 2) (hf_44 : f_44 = vp_updL (uc.2.2.1 1206) (x1 : Int32).toNatClampNeg x5) : 0 ≤ (x1 + 1) ∧ (x1 + 1) ≤ x2 := by
  have hz1202 := hI.1.s1202
  have q2 := hI.1.s1202; have q3 := (g_up (i := x1) (by clear h_p; (try simp only [g_m1, Int32.lt_iff_toInt_lt, Int32.le_iff_toInt_le, ← Int32.toInt_inj, Int32.reduceToInt] at *); omega) (by clear h_p; (try simp only [g_m1, Int32.lt_iff_toInt_lt, Int32.le_iff_toInt_le, ← Int32.toInt_inj, Int32.reduceToInt] at *); omega)).1; clear h_p; (try simp only [g_m1, Int32.lt_iff_toInt_lt, Int32.le_iff_toInt_le, ← Int32.toInt_inj, Int32.reduceToInt] at *); omega
set_option maxRecDepth 100000 in
theorem g_X12_cutAll_v90 (u : qS) (x1 : Int32) (x2 : Int32) (x4 : Int32) (x5 : Int64) (uc : qS) (f_43 : Nat → Int32) (f_44 : Nat → Int64) (hI : IM u) (h_n : 0 ≤ x1 ∧ x1 ≤ x4) (h_f : x4 ≤ x2 ∧ x4 < u.1 1202) (h_k : x2 ≤ u.1 1202) (h_l : x4 < x2 ∨ (x2 = x4 ∧ 48 ≤ u.2.1 1201 x2.toNatClampNeg ∧ u.2.1 1201 x2.toNatClampNeg ≤ 57)) (h_z : uc.1 1203 = u.1 1202 ∧ uc.1 1202 = 0) (h_p : g_rw (uc.2.1 1205) (x1.toInt + 1) 0 1001) (c164_41 : (uc.1 1203) ≤ (x2 : Int32)) (c228_42 : (x2 - x4 : Int32) ≤ 4) (hf_43 : f_43 = upd (uc.2.1 1204) (x1 : Int32).toNatClampNeg 2) (hf_44 : f_44 = vp_updL (uc.2.2.1 1206) (x1 : Int32).toNatClampNeg x5) : x2 ≤ u.1 1202 := by
  have hz1202 := hI.1.s1202
  have q2 := hI.1.s1202; clear h_p; (try simp only [g_m1, Int32.lt_iff_toInt_lt, Int32.le_iff_toInt_le, ← Int32.toInt_inj, Int32.reduceToInt] at *); omega
set_option maxRecDepth 100000 in
theorem g_X12_cutAll_v91 (u : qS) (x1 : Int32) (x2 : Int32) (x4 : Int32) (x5 : Int64) (uc : qS) (f_43 : Nat → Int32) (f_44 : Nat → Int64) (hI : IM u) (h_n : 0 ≤ x1 ∧ x1 ≤ x4) (h_f : x4 ≤ x2 ∧ x4 < u.1 1202) (h_k : x2 ≤ u.1 1202) (h_l : x4 < x2 ∨ (x2 = x4 ∧ 48 ≤ u.2.1 1201 x2.toNatClampNeg ∧ u.2.1 1201 x2.toNatClampNeg ≤ 57)) (h_z : uc.1 1203 = u.1 1202 ∧ uc.1 1202 = 0) (h_p : g_rw (uc.2.1 1205) (x1.toInt + 1) 0 1001) (c164_41 : (uc.1 1203) ≤ (x2 : Int32)) (c228_42 : (x2 - x4 : Int32) ≤ 4) (hf_43 : f_43 = upd (uc.2.1 1204) (x1 : Int32).toNatClampNeg 2) (hf_44 : f_44 = vp_updL (uc.2.2.1 1206) (x1 : Int32).toNatClampNeg x5) : (uc.1 1203 : Int32) = u.1 1202 ∧ (uc.1 1202 : Int32) = 0 := by
  have hz1202 := hI.1.s1202
  first | exact h_z | exact ⟨rfl, rfl⟩ | (simp_all; done)
set_option maxRecDepth 100000 in
theorem g_X12_cutAll_v92 (u : qS) (x1 : Int32) (x2 : Int32) (x4 : Int32) (x5 : Int64) (uc : qS) (f_43 : Nat → Int32) (f_44 : Nat → Int64) (hI : IM u) (h_n : 0 ≤ x1 ∧ x1 ≤ x4) (h_f : x4 ≤ x2 ∧ x4 < u.1 1202) (h_k : x2 ≤ u.1 1202) (h_l : x4 < x2 ∨ (x2 = x4 ∧ 48 ≤ u.2.1 1201 x2.toNatClampNeg ∧ u.2.1 1201 x2.toNatClampNeg ≤ 57)) (h_z : uc.1 1203 = u.1 1202 ∧ uc.1 1202 = 0) (h_p : g_rw (uc.2.1 1205) (x1.toInt + 1) 0 1001) (c164_41 : (uc.1 1203) ≤ (x2 : Int32)) (c228_42 : (x2 - x4 : Int32) ≤ 4) (hf_43 : f_43 = upd (uc.2.1 1204) (x1 : Int32).toNatClampNeg 2) (hf_44 : f_44 = vp_updL (uc.2.2.1 1206) (x1 : Int32).toNatClampNeg x5) : g_rw ((uc.2.1 1205)) ((x1 + 1).toInt) 0 1001 := by
  have hz1202 := hI.1.s1202
  have q2 := hI.1.s1202; have q3 := (g_up (i := x1) (by clear h_p; (try simp only [g_m1, Int32.lt_iff_toInt_lt, Int32.le_iff_toInt_le, ← Int32.toInt_inj, Int32.reduceToInt] at *); omega) (by clear h_p; (try simp only [g_m1, Int32.lt_iff_toInt_lt, Int32.le_iff_toInt_le, ← Int32.toInt_inj, Int32.reduceToInt] at *); omega)).1; rw [q3]; exact h_p
set_option maxRecDepth 100000 in
theorem g_X12_cutAll_v93 (u : qS) (x1 : Int32) (x2 : Int32) (x4 : Int32) (x5 : Int64) (uc : qS) (f_43 : Nat → Int32) (f_44 : Nat → Int64) (hI : IM u) (h_n : 0 ≤ x1 ∧ x1 ≤ x4) (h_f : x4 ≤ x2 ∧ x4 < u.1 1202) (h_k : x2 ≤ u.1 1202) (h_l : x4 < x2 ∨ (x2 = x4 ∧ 48 ≤ u.2.1 1201 x2.toNatClampNeg ∧ u.2.1 1201 x2.toNatClampNeg ≤ 57)) (h_z : uc.1 1203 = u.1 1202 ∧ uc.1 1202 = 0) (h_p : g_rw (uc.2.1 1205) (x1.toInt + 1) 0 1001) (c164_41 : (uc.1 1203) ≤ (x2 : Int32)) (c228_42 : (x2 - x4 : Int32) ≤ 4) (hf_43 : f_43 = upd (uc.2.1 1204) (x1 : Int32).toNatClampNeg 2) (hf_44 : f_44 = vp_updL (uc.2.2.1 1206) (x1 : Int32).toNatClampNeg x5) : ((u.1 1202).toInt - x2.toInt).toNat * 3000 < ((u.1 1202).toInt - x4.toInt - 1).toNat * 3000 + 1 + ((u.1 1202).toInt - x2.toInt).toNat := by
  have hz1202 := hI.1.s1202
  have q2 := hI.1.s1202; clear h_p; (try simp only [g_m1, Int32.lt_iff_toInt_lt, Int32.le_iff_toInt_le, ← Int32.toInt_inj, Int32.reduceToInt] at *); omega
set_option maxRecDepth 100000 in
theorem g_X12_cutAll_v94 (u : qS) (x1 : Int32) (x2 : Int32) (x4 : Int32) (uc : qS) (hI : IM u) (h_n : 0 ≤ x1 ∧ x1 ≤ x4) (h_f : x4 ≤ x2 ∧ x4 < u.1 1202) (h_k : x2 ≤ u.1 1202) (h_l : x4 < x2 ∨ (x2 = x4 ∧ 48 ≤ u.2.1 1201 x2.toNatClampNeg ∧ u.2.1 1201 x2.toNatClampNeg ≤ 57)) (h_z : uc.1 1203 = u.1 1202 ∧ uc.1 1202 = 0) (h_p : g_rw (uc.2.1 1205) (x1.toInt + 1) 0 1001) (c164_41 : (uc.1 1203) ≤ (x2 : Int32)) (c228_42 : ¬ (x2 - x4 : Int32) ≤ 4) : vp_in (x1) 1002 := by
  have hz1202 := hI.1.s1202
  have q2 := hI.1.s1202; clear h_p; refine g_in ?_ ?_ <;> ((try simp only [g_m1, Int32.lt_iff_toInt_lt, Int32.le_iff_toInt_le, ← Int32.toInt_inj, Int32.reduceToInt] at *); omega)
set_option maxRecDepth 100000 in
theorem g_X12_cutAll_v95 (u : qS) (x1 : Int32) (x2 : Int32) (x4 : Int32) (uc : qS) (f_45 : Nat → Int32) (hI : IM u) (h_n : 0 ≤ x1 ∧ x1 ≤ x4) (h_f : x4 ≤ x2 ∧ x4 < u.1 1202) (h_k : x2 ≤ u.1 1202) (h_l : x4 < x2 ∨ (x2 = x4 ∧ 48 ≤ u.2.1 1201 x2.toNatClampNeg ∧ u.2.1 1201 x2.toNatClampNeg ≤ 57)) (h_z : uc.1 1203 = u.1 1202 ∧ uc.1 1202 = 0) (h_p : g_rw (uc.2.1 1205) (x1.toInt + 1) 0 1001) (c164_41 : (uc.1 1203) ≤ (x2 : Int32)) (c228_42 : ¬ (x2 - x4 : Int32) ≤ 4) (hf_45 : f_45 = upd (uc.2.1 1204) (x1 : Int32).toNatClampNeg 4) : vp_in (x1) 1002 := by
  have hz1202 := hI.1.s1202
  have q2 := hI.1.s1202; clear h_p; refine g_in ?_ ?_ <;> ((try simp only [g_m1, Int32.lt_iff_toInt_lt, Int32.le_iff_toInt_le, ← Int32.toInt_inj, Int32.reduceToInt] at *); omega)
set_option maxRecDepth 100000 in
theorem g_X12_cutAll_v96 (u : qS) (x1 : Int32) (x2 : Int32) (x4 : Int32) (x5 : Int64) (uc : qS) (f_45 : Nat → Int32) (f_46 : Nat → Int64) (hI : IM u) (h_n : 0 ≤ x1 ∧ x1 ≤ x4) (h_f : x4 ≤ x2 ∧ x4 < u.1 1202) (h_k : x2 ≤ u.1 1202) (h_l : x4 < x2 ∨ (x2 = x4 ∧ 48 ≤ u.2.1 1201 x2.toNatClampNeg ∧ u.2.1 1201 x2.toNatClampNeg ≤ 57)) (h_z : uc.1 1203 = u.1 1202 ∧ uc.1 1202 = 0) (h_p : g_rw (uc.2.1 1205) (x1.toInt + 1) 0 1001) (c164_41 : (uc.1 1203) ≤ (x2 : Int32)) (c228_42 : ¬ (x2 - x4 : Int32) ≤ 4) (hf_45 : f_45 = upd (uc.2.1 1204) (x1 : Int32).toNatClampNeg 4) (hf_46 : f_46 = vp_updL (uc.2.2.1 1206) (x1 : Int32).toNatClampNeg x5) : 0 ≤ (x1 + 1) ∧ (x1 + 1) ≤ x2 := by
  have hz1202 := hI.1.s1202
  have q2 := hI.1.s1202; have q3 := (g_up (i := x1) (by clear h_p; (try simp only [g_m1, Int32.lt_iff_toInt_lt, Int32.le_iff_toInt_le, ← Int32.toInt_inj, Int32.reduceToInt] at *); omega) (by clear h_p; (try simp only [g_m1, Int32.lt_iff_toInt_lt, Int32.le_iff_toInt_le, ← Int32.toInt_inj, Int32.reduceToInt] at *); omega)).1; clear h_p; (try simp only [g_m1, Int32.lt_iff_toInt_lt, Int32.le_iff_toInt_le, ← Int32.toInt_inj, Int32.reduceToInt] at *); omega
set_option maxRecDepth 100000 in
theorem g_X12_cutAll_v97 (u : qS) (x1 : Int32) (x2 : Int32) (x4 : Int32) (x5 : Int64) (uc : qS) (f_45 : Nat → Int32) (f_46 : Nat → Int64) (hI : IM u) (h_n : 0 ≤ x1 ∧ x1 ≤ x4) (h_f : x4 ≤ x2 ∧ x4 < u.1 1202) (h_k : x2 ≤ u.1 1202) (h_l : x4 < x2 ∨ (x2 = x4 ∧ 48 ≤ u.2.1 1201 x2.toNatClampNeg ∧ u.2.1 1201 x2.toNatClampNeg ≤ 57)) (h_z : uc.1 1203 = u.1 1202 ∧ uc.1 1202 = 0) (h_p : g_rw (uc.2.1 1205) (x1.toInt + 1) 0 1001) (c164_41 : (uc.1 1203) ≤ (x2 : Int32)) (c228_42 : ¬ (x2 - x4 : Int32) ≤ 4) (hf_45 : f_45 = upd (uc.2.1 1204) (x1 : Int32).toNatClampNeg 4) (hf_46 : f_46 = vp_updL (uc.2.2.1 1206) (x1 : Int32).toNatClampNeg x5) : x2 ≤ u.1 1202 := by
  have hz1202 := hI.1.s1202
  have q2 := hI.1.s1202; clear h_p; (try simp only [g_m1, Int32.lt_iff_toInt_lt, Int32.le_iff_toInt_le, ← Int32.toInt_inj, Int32.reduceToInt] at *); omega
set_option maxRecDepth 100000 in
theorem g_X12_cutAll_v98 (u : qS) (x1 : Int32) (x2 : Int32) (x4 : Int32) (x5 : Int64) (uc : qS) (f_45 : Nat → Int32) (f_46 : Nat → Int64) (hI : IM u) (h_n : 0 ≤ x1 ∧ x1 ≤ x4) (h_f : x4 ≤ x2 ∧ x4 < u.1 1202) (h_k : x2 ≤ u.1 1202) (h_l : x4 < x2 ∨ (x2 = x4 ∧ 48 ≤ u.2.1 1201 x2.toNatClampNeg ∧ u.2.1 1201 x2.toNatClampNeg ≤ 57)) (h_z : uc.1 1203 = u.1 1202 ∧ uc.1 1202 = 0) (h_p : g_rw (uc.2.1 1205) (x1.toInt + 1) 0 1001) (c164_41 : (uc.1 1203) ≤ (x2 : Int32)) (c228_42 : ¬ (x2 - x4 : Int32) ≤ 4) (hf_45 : f_45 = upd (uc.2.1 1204) (x1 : Int32).toNatClampNeg 4) (hf_46 : f_46 = vp_updL (uc.2.2.1 1206) (x1 : Int32).toNatClampNeg x5) : (uc.1 1203 : Int32) = u.1 1202 ∧ (uc.1 1202 : Int32) = 0 := by
  have hz1202 := hI.1.s1202
  first | exact h_z | exact ⟨rfl, rfl⟩ | (simp_all; done)
set_option maxRecDepth 100000 in
theorem g_X12_cutAll_v99 (u : qS) (x1 : Int32) (x2 : Int32) (x4 : Int32) (x5 : Int64) (uc : qS) (f_45 : Nat → Int32) (f_46 : Nat → Int64) (hI : IM u) (h_n : 0 ≤ x1 ∧ x1 ≤ x4) (h_f : x4 ≤ x2 ∧ x4 < u.1 1202) (h_k : x2 ≤ u.1 1202) (h_l : x4 < x2 ∨ (x2 = x4 ∧ 48 ≤ u.2.1 1201 x2.toNatClampNeg ∧ u.2.1 1201 x2.toNatClampNeg ≤ 57)) (h_z : uc.1 1203 = u.1 1202 ∧ uc.1 1202 = 0) (h_p : g_rw (uc.2.1 1205) (x1.toInt + 1) 0 1001) (c164_41 : (uc.1 1203) ≤ (x2 : Int32)) (c228_42 : ¬ (x2 - x4 : Int32) ≤ 4) (hf_45 : f_45 = upd (uc.2.1 1204) (x1 : Int32).toNatClampNeg 4) (hf_46 : f_46 = vp_updL (uc.2.2.1 1206) (x1 : Int32).toNatClampNeg x5) : g_rw ((uc.2.1 1205)) ((x1 + 1).toInt) 0 1001 := by
  have hz1202 := hI.1.s1202
  have q2 := hI.1.s1202; have q3 := (g_up (i := x1) (by clear h_p; (try simp only [g_m1, Int32.lt_iff_toInt_lt, Int32.le_iff_toInt_le, ← Int32.toInt_inj, Int32.reduceToInt] at *); omega) (by clear h_p; (try simp only [g_m1, Int32.lt_iff_toInt_lt, Int32.le_iff_toInt_le, ← Int32.toInt_inj, Int32.reduceToInt] at *); omega)).1; rw [q3]; exact h_p
set_option maxRecDepth 100000 in
theorem g_X12_cutAll_v100 (u : qS) (x1 : Int32) (x2 : Int32) (x4 : Int32) (x5 : Int64) (uc : qS) (f_45 : Nat → Int32) (f_46 : Nat → Int64) (hI : IM u) (h_n : 0 ≤ x1 ∧ x1 ≤ x4) (h_f : x4 ≤ x2 ∧ x4 < u.1 1202) (h_k : x2 ≤ u.1 1202) (h_l : x4 < x2 ∨ (x2 = x4 ∧ 48 ≤ u.2.1 1201 x2.toNatClampNeg ∧ u.2.1 1201 x2.toNatClampNeg ≤ 57)) (h_z : uc.1 1203 = u.1 1202 ∧ uc.1 1202 = 0) (h_p : g_rw (uc.2.1 1205) (x1.toInt + 1) 0 1001) (c164_41 : (uc.1 1203) ≤ (x2 : Int32)) (c228_42 : ¬ (x2 - x4 : Int32) ≤ 4) (hf_45 : f_45 = upd (uc.2.1 1204) (x1 : Int32).toNatClampNeg 4) (hf_46 : f_46 = vp_updL (uc.2.2.1 1206) (x1 : Int32).toNatClampNeg x5) : ((u.1 1202).toInt - x2.toInt).toNat * 3000 < ((u.1 1202).toInt - x4.toInt - 1).toNat * 3000 + 1 + ((u.1 1202).toInt - x2.toInt).toNat := by
  have hz1202 := hI.1.s1202
  have q2 := hI.1.s1202; clear h_p; (try simp only [g_m1, Int32.lt_iff_toInt_lt, Int32.le_iff_toInt_le, ← Int32.toInt_inj, Int32.reduceToInt] at *); omega
set_option maxRecDepth 100000 in
theorem g_X12_cutAll_v101 (u : qS) (x1 : Int32) (x2 : Int32) (x4 : Int32) (uc : qS) (hI : IM u) (h_n : 0 ≤ x1 ∧ x1 ≤ x4) (h_f : x4 ≤ x2 ∧ x4 < u.1 1202) (h_k : x2 ≤ u.1 1202) (h_l : x4 < x2 ∨ (x2 = x4 ∧ 48 ≤ u.2.1 1201 x2.toNatClampNeg ∧ u.2.1 1201 x2.toNatClampNeg ≤ 57)) (h_z : uc.1 1203 = u.1 1202 ∧ uc.1 1202 = 0) (h_p : g_rw (uc.2.1 1205) (x1.toInt + 1) 0 1001) (c164_41 : ¬ (uc.1 1203) ≤ (x2 : Int32)) : vp_in (x2) 1000 := by
  have hz1202 := hI.1.s1202
  have q2 := hI.1.s1202; clear h_p; refine g_in ?_ ?_ <;> ((try simp only [g_m1, Int32.lt_iff_toInt_lt, Int32.le_iff_toInt_le, ← Int32.toInt_inj, Int32.reduceToInt] at *); omega)
set_option maxRecDepth 100000 in
theorem g_X12_cutAll_v102 (u : qS) (x1 : Int32) (x2 : Int32) (x4 : Int32) (uc : qS) (hI : IM u) (h_n : 0 ≤ x1 ∧ x1 ≤ x4) (h_f : x4 ≤ x2 ∧ x4 < u.1 1202) (h_k : x2 ≤ u.1 1202) (h_l : x4 < x2 ∨ (x2 = x4 ∧ 48 ≤ u.2.1 1201 x2.toNatClampNeg ∧ u.2.1 1201 x2.toNatClampNeg ≤ 57)) (h_z : uc.1 1203 = u.1 1202 ∧ uc.1 1202 = 0) (h_p : g_rw (uc.2.1 1205) (x1.toInt + 1) 0 1001) (c164_41 : ¬ (uc.1 1203) ≤ (x2 : Int32)) (b173_50 : 48 ≤ ((u.2.1 1201) (x2 : Int32).toNatClampNeg) ∧ ((u.2.1 1201) (x2 : Int32).toNatClampNeg) ≤ 57) (c184_51 : 4 ≤ (x2 - x4 : Int32)) : 0 ≤ x1 ∧ x1 ≤ x4 := by
  have hz1202 := hI.1.s1202
  have q2 := hI.1.s1202; clear h_p; (try simp only [g_m1, Int32.lt_iff_toInt_lt, Int32.le_iff_toInt_le, ← Int32.toInt_inj, Int32.reduceToInt] at *); omega
set_option maxRecDepth 100000 in
theorem g_X12_cutAll_v103 (u : qS) (x1 : Int32) (x2 : Int32) (x4 : Int32) (uc : qS) (hI : IM u) (h_n : 0 ≤ x1 ∧ x1 ≤ x4) (h_f : x4 ≤ x2 ∧ x4 < u.1 1202) (h_k : x2 ≤ u.1 1202) (h_l : x4 < x2 ∨ (x2 = x4 ∧ 48 ≤ u.2.1 1201 x2.toNatClampNeg ∧ u.2.1 1201 x2.toNatClampNeg ≤ 57)) (h_z : uc.1 1203 = u.1 1202 ∧ uc.1 1202 = 0) (h_p : g_rw (uc.2.1 1205) (x1.toInt + 1) 0 1001) (c164_41 : ¬ (uc.1 1203) ≤ (x2 : Int32)) (b173_50 : 48 ≤ ((u.2.1 1201) (x2 : Int32).toNatClampNeg) ∧ ((u.2.1 1201) (x2 : Int32).toNatClampNeg) ≤ 57) (c184_51 : 4 ≤ (x2 - x4 : Int32)) : x4 ≤ (x2 + 1) ∧ x4 < u.1 1202 := by
  have hz1202 := hI.1.s1202
  have q2 := hI.1.s1202; clear h_p; (try simp only [g_m1, Int32.lt_iff_toInt_lt, Int32.le_iff_toInt_le, ← Int32.toInt_inj, Int32.toInt_add, Int32.toInt_sub, Int32.toInt_mul, Int32.toInt_neg, Int32.reduceToInt, g_bm, g_bm'] at *); omega
set_option maxRecDepth 100000 in
theorem g_X12_cutAll_v104 (u : qS) (x1 : Int32) (x2 : Int32) (x4 : Int32) (uc : qS) (hI : IM u) (h_n : 0 ≤ x1 ∧ x1 ≤ x4) (h_f : x4 ≤ x2 ∧ x4 < u.1 1202) (h_k : x2 ≤ u.1 1202) (h_l : x4 < x2 ∨ (x2 = x4 ∧ 48 ≤ u.2.1 1201 x2.toNatClampNeg ∧ u.2.1 1201 x2.toNatClampNeg ≤ 57)) (h_z : uc.1 1203 = u.1 1202 ∧ uc.1 1202 = 0) (h_p : g_rw (uc.2.1 1205) (x1.toInt + 1) 0 1001) (c164_41 : ¬ (uc.1 1203) ≤ (x2 : Int32)) (b173_50 : 48 ≤ ((u.2.1 1201) (x2 : Int32).toNatClampNeg) ∧ ((u.2.1 1201) (x2 : Int32).toNatClampNeg) ≤ 57) (c184_51 : 4 ≤ (x2 - x4 : Int32)) : (x2 + 1) ≤ u.1 1202 := by
  have hz1202 := hI.1.s1202
  have q2 := hI.1.s1202; clear h_p; (try simp only [g_m1, Int32.lt_iff_toInt_lt, Int32.le_iff_toInt_le, ← Int32.toInt_inj, Int32.toInt_add, Int32.toInt_sub, Int32.toInt_mul, Int32.toInt_neg, Int32.reduceToInt, g_bm, g_bm'] at *); omega
set_option maxRecDepth 100000 in
theorem g_X12_cutAll_v105 (u : qS) (x1 : Int32) (x2 : Int32) (x4 : Int32) (uc : qS) (hI : IM u) (h_n : 0 ≤ x1 ∧ x1 ≤ x4) (h_f : x4 ≤ x2 ∧ x4 < u.1 1202) (h_k : x2 ≤ u.1 1202) (h_l : x4 < x2 ∨ (x2 = x4 ∧ 48 ≤ u.2.1 1201 x2.toNatClampNeg ∧ u.2.1 1201 x2.toNatClampNeg ≤ 57)) (h_z : uc.1 1203 = u.1 1202 ∧ uc.1 1202 = 0) (h_p : g_rw (uc.2.1 1205) (x1.toInt + 1) 0 1001) (c164_41 : ¬ (uc.1 1203) ≤ (x2 : Int32)) (b173_50 : 48 ≤ ((u.2.1 1201) (x2 : Int32).toNatClampNeg) ∧ ((u.2.1 1201) (x2 : Int32).toNatClampNeg) ≤ 57) (c184_51 : 4 ≤ (x2 - x4 : Int32)) : x4 < (x2 + 1) ∨ ((x2 + 1) = x4 ∧ 48 ≤ u.2.1 1201 (x2 + 1).toNatClampNeg ∧ u.2.1 1201 (x2 + 1).toNatClampNeg ≤ 57) := by
  have hz1202 := hI.1.s1202
  refine Or.inl ?_; have q2 := hI.1.s1202; clear h_p; (try simp only [g_m1, Int32.lt_iff_toInt_lt, Int32.le_iff_toInt_le, ← Int32.toInt_inj, Int32.toInt_add, Int32.toInt_sub, Int32.toInt_mul, Int32.toInt_neg, Int32.reduceToInt, g_bm, g_bm'] at *); omega
set_option maxRecDepth 100000 in
theorem g_X12_cutAll_v106 (u : qS) (x1 : Int32) (x2 : Int32) (x4 : Int32) (uc : qS) (hI : IM u) (h_n : 0 ≤ x1 ∧ x1 ≤ x4) (h_f : x4 ≤ x2 ∧ x4 < u.1 1202) (h_k : x2 ≤ u.1 1202) (h_l : x4 < x2 ∨ (x2 = x4 ∧ 48 ≤ u.2.1 1201 x2.toNatClampNeg ∧ u.2.1 1201 x2.toNatClampNeg ≤ 57)) (h_z : uc.1 1203 = u.1 1202 ∧ uc.1 1202 = 0) (h_p : g_rw (uc.2.1 1205) (x1.toInt + 1) 0 1001) (c164_41 : ¬ (uc.1 1203) ≤ (x2 : Int32)) (b173_50 : 48 ≤ ((u.2.1 1201) (x2 : Int32).toNatClampNeg) ∧ ((u.2.1 1201) (x2 : Int32).toNatClampNeg) ≤ 57) (c184_51 : 4 ≤ (x2 - x4 : Int32)) : (uc.1 1203 : Int32) = u.1 1202 ∧ (uc.1 1202 : Int32) = 0 := by
  have hz1202 := hI.1.s1202
  first | exact h_z | exact ⟨rfl, rfl⟩ | (simp_all; done)
set_option maxRecDepth 100000 in
theorem g_X12_cutAll_v107 (u : qS) (x1 : Int32) (x2 : Int32) (x4 : Int32) (uc : qS) (hI : IM u) (h_n : 0 ≤ x1 ∧ x1 ≤ x4) (h_f : x4 ≤ x2 ∧ x4 < u.1 1202) (h_k : x2 ≤ u.1 1202) (h_l : x4 < x2 ∨ (x2 = x4 ∧ 48 ≤ u.2.1 1201 x2.toNatClampNeg ∧ u.2.1 1201 x2.toNatClampNeg ≤ 57)) (h_z : uc.1 1203 = u.1 1202 ∧ uc.1 1202 = 0) (h_p : g_rw (uc.2.1 1205) (x1.toInt + 1) 0 1001) (c164_41 : ¬ (uc.1 1203) ≤ (x2 : Int32)) (b173_50 : 48 ≤ ((u.2.1 1201) (x2 : Int32).toNatClampNeg) ∧ ((u.2.1 1201) (x2 : Int32).toNatClampNeg) ≤ 57) (c184_51 : 4 ≤ (x2 - x4 : Int32)) : g_rw ((uc.2.1 1205)) (x1.toInt + 1) 0 1001 := by
  have hz1202 := hI.1.s1202
  exact h_p
set_option maxRecDepth 100000 in
theorem g_X12_cutAll_v108 (u : qS) (x1 : Int32) (x2 : Int32) (x4 : Int32) (uc : qS) (hI : IM u) (h_n : 0 ≤ x1 ∧ x1 ≤ x4) (h_f : x4 ≤ x2 ∧ x4 < u.1 1202) (h_k : x2 ≤ u.1 1202) (h_l : x4 < x2 ∨ (x2 = x4 ∧ 48 ≤ u.2.1 1201 x2.toNatClampNeg ∧ u.2.1 1201 x2.toNatClampNeg ≤ 57)) (h_z : uc.1 1203 = u.1 1202 ∧ uc.1 1202 = 0) (h_p : g_rw (uc.2.1 1205) (x1.toInt + 1) 0 1001) (c164_41 : ¬ (uc.1 1203) ≤ (x2 : Int32)) (b173_50 : 48 ≤ ((u.2.1 1201) (x2 : Int32).toNatClampNeg) ∧ ((u.2.1 1201) (x2 : Int32).toNatClampNeg) ≤ 57) (c184_51 : 4 ≤ (x2 - x4 : Int32)) : ((u.1 1202).toInt - x4.toInt - 1).toNat * 3000 + 1 + ((u.1 1202).toInt - (x2 + 1).toInt).toNat < ((u.1 1202).toInt - x4.toInt - 1).toNat * 3000 + 1 + ((u.1 1202).toInt - x2.toInt).toNat := by
  have hz1202 := hI.1.s1202
  have q2 := hI.1.s1202; clear h_p; (try simp only [g_m1, Int32.lt_iff_toInt_lt, Int32.le_iff_toInt_le, ← Int32.toInt_inj, Int32.toInt_add, Int32.toInt_sub, Int32.toInt_mul, Int32.toInt_neg, Int32.reduceToInt, g_bm, g_bm'] at *); omega
set_option maxRecDepth 100000 in
theorem g_X12_cutAll_v109 (u : qS) (x1 : Int32) (x2 : Int32) (x4 : Int32) (uc : qS) (hI : IM u) (h_n : 0 ≤ x1 ∧ x1 ≤ x4) (h_f : x4 ≤ x2 ∧ x4 < u.1 1202) (h_k : x2 ≤ u.1 1202) (h_l : x4 < x2 ∨ (x2 = x4 ∧ 48 ≤ u.2.1 1201 x2.toNatClampNeg ∧ u.2.1 1201 x2.toNatClampNeg ≤ 57)) (h_z : uc.1 1203 = u.1 1202 ∧ uc.1 1202 = 0) (h_p : g_rw (uc.2.1 1205) (x1.toInt + 1) 0 1001) (c164_41 : ¬ (uc.1 1203) ≤ (x2 : Int32)) (b173_50 : 48 ≤ ((u.2.1 1201) (x2 : Int32).toNatClampNeg) ∧ ((u.2.1 1201) (x2 : Int32).toNatClampNeg) ≤ 57) (c184_51 : ¬ 4 ≤ (x2 - x4 : Int32)) : vp_in (x2) 1000 := by
  have hz1202 := hI.1.s1202
  have q2 := hI.1.s1202; clear h_p; refine g_in ?_ ?_ <;> ((try simp only [g_m1, Int32.lt_iff_toInt_lt, Int32.le_iff_toInt_le, ← Int32.toInt_inj, Int32.reduceToInt] at *); omega)
set_option maxRecDepth 100000 in
theorem g_X12_cutAll_v110 (u : qS) (x1 : Int32) (x2 : Int32) (x4 : Int32) (uc : qS) (hI : IM u) (h_n : 0 ≤ x1 ∧ x1 ≤ x4) (h_f : x4 ≤ x2 ∧ x4 < u.1 1202) (h_k : x2 ≤ u.1 1202) (h_l : x4 < x2 ∨ (x2 = x4 ∧ 48 ≤ u.2.1 1201 x2.toNatClampNeg ∧ u.2.1 1201 x2.toNatClampNeg ≤ 57)) (h_z : uc.1 1203 = u.1 1202 ∧ uc.1 1202 = 0) (h_p : g_rw (uc.2.1 1205) (x1.toInt + 1) 0 1001) (c164_41 : ¬ (uc.1 1203) ≤ (x2 : Int32)) (b173_50 : 48 ≤ ((u.2.1 1201) (x2 : Int32).toNatClampNeg) ∧ ((u.2.1 1201) (x2 : Int32).toNatClampNeg) ≤ 57) (c184_51 : ¬ 4 ≤ (x2 - x4 : Int32)) : 0 ≤ x1 ∧ x1 ≤ x4 := by
  have hz1202 := hI.1.s1202
  have q2 := hI.1.s1202; clear h_p; (try simp only [g_m1, Int32.lt_iff_toInt_lt, Int32.le_iff_toInt_le, ← Int32.toInt_inj, Int32.reduceToInt] at *); omega
set_option maxRecDepth 100000 in
theorem g_X12_cutAll_v111 (u : qS) (x1 : Int32) (x2 : Int32) (x4 : Int32) (uc : qS) (hI : IM u) (h_n : 0 ≤ x1 ∧ x1 ≤ x4) (h_f : x4 ≤ x2 ∧ x4 < u.1 1202) (h_k : x2 ≤ u.1 1202) (h_l : x4 < x2 ∨ (x2 = x4 ∧ 48 ≤ u.2.1 1201 x2.toNatClampNeg ∧ u.2.1 1201 x2.toNatClampNeg ≤ 57)) (h_z : uc.1 1203 = u.1 1202 ∧ uc.1 1202 = 0) (h_p : g_rw (uc.2.1 1205) (x1.toInt + 1) 0 1001) (c164_41 : ¬ (uc.1 1203) ≤ (x2 : Int32)) (b173_50 : 48 ≤ ((u.2.1 1201) (x2 : Int32).toNatClampNeg) ∧ ((u.2.1 1201) (x2 : Int32).toNatClampNeg) ≤ 57) (c184_51 : ¬ 4 ≤ (x2 - x4 : Int32)) : x4 ≤ (x2 + 1) ∧ x4 < u.1 1202 := by
  have hz1202 := hI.1.s1202
  have q2 := hI.1.s1202; clear h_p; (try simp only [g_m1, Int32.lt_iff_toInt_lt, Int32.le_iff_toInt_le, ← Int32.toInt_inj, Int32.toInt_add, Int32.toInt_sub, Int32.toInt_mul, Int32.toInt_neg, Int32.reduceToInt, g_bm, g_bm'] at *); omega
set_option maxRecDepth 100000 in
theorem g_X12_cutAll_v112 (u : qS) (x1 : Int32) (x2 : Int32) (x4 : Int32) (uc : qS) (hI : IM u) (h_n : 0 ≤ x1 ∧ x1 ≤ x4) (h_f : x4 ≤ x2 ∧ x4 < u.1 1202) (h_k : x2 ≤ u.1 1202) (h_l : x4 < x2 ∨ (x2 = x4 ∧ 48 ≤ u.2.1 1201 x2.toNatClampNeg ∧ u.2.1 1201 x2.toNatClampNeg ≤ 57)) (h_z : uc.1 1203 = u.1 1202 ∧ uc.1 1202 = 0) (h_p : g_rw (uc.2.1 1205) (x1.toInt + 1) 0 1001) (c164_41 : ¬ (uc.1 1203) ≤ (x2 : Int32)) (b173_50 : 48 ≤ ((u.2.1 1201) (x2 : Int32).toNatClampNeg) ∧ ((u.2.1 1201) (x2 : Int32).toNatClampNeg) ≤ 57) (c184_51 : ¬ 4 ≤ (x2 - x4 : Int32)) : (x2 + 1) ≤ u.1 1202 := by
  have hz1202 := hI.1.s1202
  have q2 := hI.1.s1202; clear h_p; (try simp only [g_m1, Int32.lt_iff_toInt_lt, Int32.le_iff_toInt_le, ← Int32.toInt_inj, Int32.toInt_add, Int32.toInt_sub, Int32.toInt_mul, Int32.toInt_neg, Int32.reduceToInt, g_bm, g_bm'] at *); omega
set_option maxRecDepth 100000 in
theorem g_X12_cutAll_v113 (u : qS) (x1 : Int32) (x2 : Int32) (x4 : Int32) (uc : qS) (hI : IM u) (h_n : 0 ≤ x1 ∧ x1 ≤ x4) (h_f : x4 ≤ x2 ∧ x4 < u.1 1202) (h_k : x2 ≤ u.1 1202) (h_l : x4 < x2 ∨ (x2 = x4 ∧ 48 ≤ u.2.1 1201 x2.toNatClampNeg ∧ u.2.1 1201 x2.toNatClampNeg ≤ 57)) (h_z : uc.1 1203 = u.1 1202 ∧ uc.1 1202 = 0) (h_p : g_rw (uc.2.1 1205) (x1.toInt + 1) 0 1001) (c164_41 : ¬ (uc.1 1203) ≤ (x2 : Int32)) (b173_50 : 48 ≤ ((u.2.1 1201) (x2 : Int32).toNatClampNeg) ∧ ((u.2.1 1201) (x2 : Int32).toNatClampNeg) ≤ 57) (c184_51 : ¬ 4 ≤ (x2 - x4 : Int32)) : x4 < (x2 + 1) ∨ ((x2 + 1) = x4 ∧ 48 ≤ u.2.1 1201 (x2 + 1).toNatClampNeg ∧ u.2.1 1201 (x2 + 1).toNatClampNeg ≤ 57) := by
  have hz1202 := hI.1.s1202
  refine Or.inl ?_; have q2 := hI.1.s1202; clear h_p; (try simp only [g_m1, Int32.lt_iff_toInt_lt, Int32.le_iff_toInt_le, ← Int32.toInt_inj, Int32.toInt_add, Int32.toInt_sub, Int32.toInt_mul, Int32.toInt_neg, Int32.reduceToInt, g_bm, g_bm'] at *); omega
set_option maxRecDepth 100000 in
theorem g_X12_cutAll_v114 (u : qS) (x1 : Int32) (x2 : Int32) (x4 : Int32) (uc : qS) (hI : IM u) (h_n : 0 ≤ x1 ∧ x1 ≤ x4) (h_f : x4 ≤ x2 ∧ x4 < u.1 1202) (h_k : x2 ≤ u.1 1202) (h_l : x4 < x2 ∨ (x2 = x4 ∧ 48 ≤ u.2.1 1201 x2.toNatClampNeg ∧ u.2.1 1201 x2.toNatClampNeg ≤ 57)) (h_z : uc.1 1203 = u.1 1202 ∧ uc.1 1202 = 0) (h_p : g_rw (uc.2.1 1205) (x1.toInt + 1) 0 1001) (c164_41 : ¬ (uc.1 1203) ≤ (x2 : Int32)) (b173_50 : 48 ≤ ((u.2.1 1201) (x2 : Int32).toNatClampNeg) ∧ ((u.2.1 1201) (x2 : Int32).toNatClampNeg) ≤ 57) (c184_51 : ¬ 4 ≤ (x2 - x4 : Int32)) : (uc.1 1203 : Int32) = u.1 1202 ∧ (uc.1 1202 : Int32) = 0 := by
  have hz1202 := hI.1.s1202
  first | exact h_z | exact ⟨rfl, rfl⟩ | (simp_all; done)
set_option maxRecDepth 100000 in
theorem g_X12_cutAll_v115 (u : qS) (x1 : Int32) (x2 : Int32) (x4 : Int32) (uc : qS) (hI : IM u) (h_n : 0 ≤ x1 ∧ x1 ≤ x4) (h_f : x4 ≤ x2 ∧ x4 < u.1 1202) (h_k : x2 ≤ u.1 1202) (h_l : x4 < x2 ∨ (x2 = x4 ∧ 48 ≤ u.2.1 1201 x2.toNatClampNeg ∧ u.2.1 1201 x2.toNatClampNeg ≤ 57)) (h_z : uc.1 1203 = u.1 1202 ∧ uc.1 1202 = 0) (h_p : g_rw (uc.2.1 1205) (x1.toInt + 1) 0 1001) (c164_41 : ¬ (uc.1 1203) ≤ (x2 : Int32)) (b173_50 : 48 ≤ ((u.2.1 1201) (x2 : Int32).toNatClampNeg) ∧ ((u.2.1 1201) (x2 : Int32).toNatClampNeg) ≤ 57) (c184_51 : ¬ 4 ≤ (x2 - x4 : Int32)) : g_rw ((uc.2.1 1205)) (x1.toInt + 1) 0 1001 := by
  have hz1202 := hI.1.s1202
  exact h_p
set_option maxRecDepth 100000 in
theorem g_X12_cutAll_v116 (u : qS) (x1 : Int32) (x2 : Int32) (x4 : Int32) (uc : qS) (hI : IM u) (h_n : 0 ≤ x1 ∧ x1 ≤ x4) (h_f : x4 ≤ x2 ∧ x4 < u.1 1202) (h_k : x2 ≤ u.1 1202) (h_l : x4 < x2 ∨ (x2 = x4 ∧ 48 ≤ u.2.1 1201 x2.toNatClampNeg ∧ u.2.1 1201 x2.toNatClampNeg ≤ 57)) (h_z : uc.1 1203 = u.1 1202 ∧ uc.1 1202 = 0) (h_p : g_rw (uc.2.1 1205) (x1.toInt + 1) 0 1001) (c164_41 : ¬ (uc.1 1203) ≤ (x2 : Int32)) (b173_50 : 48 ≤ ((u.2.1 1201) (x2 : Int32).toNatClampNeg) ∧ ((u.2.1 1201) (x2 : Int32).toNatClampNeg) ≤ 57) (c184_51 : ¬ 4 ≤ (x2 - x4 : Int32)) : ((u.1 1202).toInt - x4.toInt - 1).toNat * 3000 + 1 + ((u.1 1202).toInt - (x2 + 1).toInt).toNat < ((u.1 1202).toInt - x4.toInt - 1).toNat * 3000 + 1 + ((u.1 1202).toInt - x2.toInt).toNat := by
  have hz1202 := hI.1.s1202
  have q2 := hI.1.s1202; clear h_p; (try simp only [g_m1, Int32.lt_iff_toInt_lt, Int32.le_iff_toInt_le, ← Int32.toInt_inj, Int32.toInt_add, Int32.toInt_sub, Int32.toInt_mul, Int32.toInt_neg, Int32.reduceToInt, g_bm, g_bm'] at *); omega
set_option maxRecDepth 100000 in
theorem g_X12_cutAll_v117 (u : qS) (x1 : Int32) (x2 : Int32) (x4 : Int32) (uc : qS) (hI : IM u) (h_n : 0 ≤ x1 ∧ x1 ≤ x4) (h_f : x4 ≤ x2 ∧ x4 < u.1 1202) (h_k : x2 ≤ u.1 1202) (h_l : x4 < x2 ∨ (x2 = x4 ∧ 48 ≤ u.2.1 1201 x2.toNatClampNeg ∧ u.2.1 1201 x2.toNatClampNeg ≤ 57)) (h_z : uc.1 1203 = u.1 1202 ∧ uc.1 1202 = 0) (h_p : g_rw (uc.2.1 1205) (x1.toInt + 1) 0 1001) (c164_41 : ¬ (uc.1 1203) ≤ (x2 : Int32)) (b173_50 : ¬ (48 ≤ ((u.2.1 1201) (x2 : Int32).toNatClampNeg) ∧ ((u.2.1 1201) (x2 : Int32).toNatClampNeg) ≤ 57)) (c228_52 : (x2 - x4 : Int32) ≤ 4) : vp_in (x1) 1002 := by
  have hz1202 := hI.1.s1202
  have q2 := hI.1.s1202; clear h_p; refine g_in ?_ ?_ <;> ((try simp only [g_m1, Int32.lt_iff_toInt_lt, Int32.le_iff_toInt_le, ← Int32.toInt_inj, Int32.reduceToInt] at *); omega)
set_option maxRecDepth 100000 in
theorem g_X12_cutAll_v118 (u : qS) (x1 : Int32) (x2 : Int32) (x4 : Int32) (uc : qS) (f_53 : Nat → Int32) (hI : IM u) (h_n : 0 ≤ x1 ∧ x1 ≤ x4) (h_f : x4 ≤ x2 ∧ x4 < u.1 1202) (h_k : x2 ≤ u.1 1202) (h_l : x4 < x2 ∨ (x2 = x4 ∧ 48 ≤ u.2.1 1201 x2.toNatClampNeg ∧ u.2.1 1201 x2.toNatClampNeg ≤ 57)) (h_z : uc.1 1203 = u.1 1202 ∧ uc.1 1202 = 0) (h_p : g_rw (uc.2.1 1205) (x1.toInt + 1) 0 1001) (c164_41 : ¬ (uc.1 1203) ≤ (x2 : Int32)) (b173_50 : ¬ (48 ≤ ((u.2.1 1201) (x2 : Int32).toNatClampNeg) ∧ ((u.2.1 1201) (x2 : Int32).toNatClampNeg) ≤ 57)) (c228_52 : (x2 - x4 : Int32) ≤ 4) (hf_53 : f_53 = upd (uc.2.1 1204) (x1 : Int32).toNatClampNeg 2) : vp_in (x1) 1002 := by
  have hz1202 := hI.1.s1202
  have q2 := hI.1.s1202; clear h_p; refine g_in ?_ ?_ <;> ((try simp only [g_m1, Int32.lt_iff_toInt_lt, Int32.le_iff_toInt_le, ← Int32.toInt_inj, Int32.reduceToInt] at *); omega)
set_option maxRecDepth 100000 in
theorem g_X12_cutAll_v119 (u : qS) (x1 : Int32) (x2 : Int32) (x4 : Int32) (x5 : Int64) (uc : qS) (f_53 : Nat → Int32) (f_54 : Nat → Int64) (hI : IM u) (h_n : 0 ≤ x1 ∧ x1 ≤ x4) (h_f : x4 ≤ x2 ∧ x4 < u.1 1202) (h_k : x2 ≤ u.1 1202) (h_l : x4 < x2 ∨ (x2 = x4 ∧ 48 ≤ u.2.1 1201 x2.toNatClampNeg ∧ u.2.1 1201 x2.toNatClampNeg ≤ 57)) (h_z : uc.1 1203 = u.1 1202 ∧ uc.1 1202 = 0) (h_p : g_rw (uc.2.1 1205) (x1.toInt + 1) 0 1001) (c164_41 : ¬ (uc.1 1203) ≤ (x2 : Int32)) (b173_50 : ¬ (48 ≤ ((u.2.1 1201) (x2 : Int32).toNatClampNeg) ∧ ((u.2.1 1201) (x2 : Int32).toNatClampNeg) ≤ 57)) (c228_52 : (x2 - x4 : Int32) ≤ 4) (hf_53 : f_53 = upd (uc.2.1 1204) (x1 : Int32).toNatClampNeg 2) (hf_54 : f_54 = vp_updL (uc.2.2.1 1206) (x1 : Int32).toNatClampNeg x5) : 0 ≤ (x1 + 1) ∧ (x1 + 1) ≤ x2 := by
  have hz1202 := hI.1.s1202
  have q2 := hI.1.s1202; have q3 := (g_up (i := x1) (by clear h_p; (try simp only [g_m1, Int32.lt_iff_toInt_lt, Int32.le_iff_toInt_le, ← Int32.toInt_inj, Int32.reduceToInt] at *); omega) (by clear h_p; (try simp only [g_m1, Int32.lt_iff_toInt_lt, Int32.le_iff_toInt_le, ← Int32.toInt_inj, Int32.reduceToInt] at *); omega)).1; clear h_p; (try simp only [g_m1, Int32.lt_iff_toInt_lt, Int32.le_iff_toInt_le, ← Int32.toInt_inj, Int32.reduceToInt] at *); omega
set_option maxRecDepth 100000 in
theorem g_X12_cutAll_v120 (u : qS) (x1 : Int32) (x2 : Int32) (x4 : Int32) (x5 : Int64) (uc : qS) (f_53 : Nat → Int32) (f_54 : Nat → Int64) (hI : IM u) (h_n : 0 ≤ x1 ∧ x1 ≤ x4) (h_f : x4 ≤ x2 ∧ x4 < u.1 1202) (h_k : x2 ≤ u.1 1202) (h_l : x4 < x2 ∨ (x2 = x4 ∧ 48 ≤ u.2.1 1201 x2.toNatClampNeg ∧ u.2.1 1201 x2.toNatClampNeg ≤ 57)) (h_z : uc.1 1203 = u.1 1202 ∧ uc.1 1202 = 0) (h_p : g_rw (uc.2.1 1205) (x1.toInt + 1) 0 1001) (c164_41 : ¬ (uc.1 1203) ≤ (x2 : Int32)) (b173_50 : ¬ (48 ≤ ((u.2.1 1201) (x2 : Int32).toNatClampNeg) ∧ ((u.2.1 1201) (x2 : Int32).toNatClampNeg) ≤ 57)) (c228_52 : (x2 - x4 : Int32) ≤ 4) (hf_53 : f_53 = upd (uc.2.1 1204) (x1 : Int32).toNatClampNeg 2) (hf_54 : f_54 = vp_updL (uc.2.2.1 1206) (x1 : Int32).toNatClampNeg x5) : x2 ≤ u.1 1202 := by
  have hz1202 := hI.1.s1202
  have q2 := hI.1.s1202; clear h_p; (try simp only [g_m1, Int32.lt_iff_toInt_lt, Int32.le_iff_toInt_le, ← Int32.toInt_inj, Int32.reduceToInt] at *); omega
set_option maxRecDepth 100000 in
theorem g_X12_cutAll_v121 (u : qS) (x1 : Int32) (x2 : Int32) (x4 : Int32) (x5 : Int64) (uc : qS) (f_53 : Nat → Int32) (f_54 : Nat → Int64) (hI : IM u) (h_n : 0 ≤ x1 ∧ x1 ≤ x4) (h_f : x4 ≤ x2 ∧ x4 < u.1 1202) (h_k : x2 ≤ u.1 1202) (h_l : x4 < x2 ∨ (x2 = x4 ∧ 48 ≤ u.2.1 1201 x2.toNatClampNeg ∧ u.2.1 1201 x2.toNatClampNeg ≤ 57)) (h_z : uc.1 1203 = u.1 1202 ∧ uc.1 1202 = 0) (h_p : g_rw (uc.2.1 1205) (x1.toInt + 1) 0 1001) (c164_41 : ¬ (uc.1 1203) ≤ (x2 : Int32)) (b173_50 : ¬ (48 ≤ ((u.2.1 1201) (x2 : Int32).toNatClampNeg) ∧ ((u.2.1 1201) (x2 : Int32).toNatClampNeg) ≤ 57)) (c228_52 : (x2 - x4 : Int32) ≤ 4) (hf_53 : f_53 = upd (uc.2.1 1204) (x1 : Int32).toNatClampNeg 2) (hf_54 : f_54 = vp_updL (uc.2.2.1 1206) (x1 : Int32).toNatClampNeg x5) : (uc.1 1203 : Int32) = u.1 1202 ∧ (uc.1 1202 : Int32) = 0 := by
  have hz1202 := hI.1.s1202
  first | exact h_z | exact ⟨rfl, rfl⟩ | (simp_all; done)
set_option maxRecDepth 100000 in
theorem g_X12_cutAll_v122 (u : qS) (x1 : Int32) (x2 : Int32) (x4 : Int32) (x5 : Int64) (uc : qS) (f_53 : Nat → Int32) (f_54 : Nat → Int64) (hI : IM u) (h_n : 0 ≤ x1 ∧ x1 ≤ x4) (h_f : x4 ≤ x2 ∧ x4 < u.1 1202) (h_k : x2 ≤ u.1 1202) (h_l : x4 < x2 ∨ (x2 = x4 ∧ 48 ≤ u.2.1 1201 x2.toNatClampNeg ∧ u.2.1 1201 x2.toNatClampNeg ≤ 57)) (h_z : uc.1 1203 = u.1 1202 ∧ uc.1 1202 = 0) (h_p : g_rw (uc.2.1 1205) (x1.toInt + 1) 0 1001) (c164_41 : ¬ (uc.1 1203) ≤ (x2 : Int32)) (b173_50 : ¬ (48 ≤ ((u.2.1 1201) (x2 : Int32).toNatClampNeg) ∧ ((u.2.1 1201) (x2 : Int32).toNatClampNeg) ≤ 57)) (c228_52 : (x2 - x4 : Int32) ≤ 4) (hf_53 : f_53 = upd (uc.2.1 1204) (x1 : Int32).toNatClampNeg 2) (hf_54 : f_54 = vp_updL (uc.2.2.1 1206) (x1 : Int32).toNatClampNeg x5) : g_rw ((uc.2.1 1205)) ((x1 + 1).toInt) 0 1001 := by
  have hz1202 := hI.1.s1202
  have q2 := hI.1.s1202; have q3 := (g_up (i := x1) (by clear h_p; (try simp only [g_m1, Int32.lt_iff_toInt_lt, Int32.le_iff_toInt_le, ← Int32.toInt_inj, Int32.reduceToInt] at *); omega) (by clear h_p; (try simp only [g_m1, Int32.lt_iff_toInt_lt, Int32.le_iff_toInt_le, ← Int32.toInt_inj, Int32.reduceToInt] at *); omega)).1; rw [q3]; exact h_p
set_option maxRecDepth 100000 in
theorem g_X12_cutAll_v123 (u : qS) (x1 : Int32) (x2 : Int32) (x4 : Int32) (x5 : Int64) (uc : qS) (f_53 : Nat → Int32) (f_54 : Nat → Int64) (hI : IM u) (h_n : 0 ≤ x1 ∧ x1 ≤ x4) (h_f : x4 ≤ x2 ∧ x4 < u.1 1202) (h_k : x2 ≤ u.1 1202) (h_l : x4 < x2 ∨ (x2 = x4 ∧ 48 ≤ u.2.1 1201 x2.toNatClampNeg ∧ u.2.1 1201 x2.toNatClampNeg ≤ 57)) (h_z : uc.1 1203 = u.1 1202 ∧ uc.1 1202 = 0) (h_p : g_rw (uc.2.1 1205) (x1.toInt + 1) 0 1001) (c164_41 : ¬ (uc.1 1203) ≤ (x2 : Int32)) (b173_50 : ¬ (48 ≤ ((u.2.1 1201) (x2 : Int32).toNatClampNeg) ∧ ((u.2.1 1201) (x2 : Int32).toNatClampNeg) ≤ 57)) (c228_52 : (x2 - x4 : Int32) ≤ 4) (hf_53 : f_53 = upd (uc.2.1 1204) (x1 : Int32).toNatClampNeg 2) (hf_54 : f_54 = vp_updL (uc.2.2.1 1206) (x1 : Int32).toNatClampNeg x5) : ((u.1 1202).toInt - x2.toInt).toNat * 3000 < ((u.1 1202).toInt - x4.toInt - 1).toNat * 3000 + 1 + ((u.1 1202).toInt - x2.toInt).toNat := by
  have hz1202 := hI.1.s1202
  have q2 := hI.1.s1202; clear h_p; (try simp only [g_m1, Int32.lt_iff_toInt_lt, Int32.le_iff_toInt_le, ← Int32.toInt_inj, Int32.reduceToInt] at *); omega
set_option maxRecDepth 100000 in
theorem g_X12_cutAll_v124 (u : qS) (x1 : Int32) (x2 : Int32) (x4 : Int32) (uc : qS) (hI : IM u) (h_n : 0 ≤ x1 ∧ x1 ≤ x4) (h_f : x4 ≤ x2 ∧ x4 < u.1 1202) (h_k : x2 ≤ u.1 1202) (h_l : x4 < x2 ∨ (x2 = x4 ∧ 48 ≤ u.2.1 1201 x2.toNatClampNeg ∧ u.2.1 1201 x2.toNatClampNeg ≤ 57)) (h_z : uc.1 1203 = u.1 1202 ∧ uc.1 1202 = 0) (h_p : g_rw (uc.2.1 1205) (x1.toInt + 1) 0 1001) (c164_41 : ¬ (uc.1 1203) ≤ (x2 : Int32)) (b173_50 : ¬ (48 ≤ ((u.2.1 1201) (x2 : Int32).toNatClampNeg) ∧ ((u.2.1 1201) (x2 : Int32).toNatClampNeg) ≤ 57)) (c228_52 : ¬ (x2 - x4 : Int32) ≤ 4) : vp_in (x1) 1002 := by
  have hz1202 := hI.1.s1202
  have q2 := hI.1.s1202; clear h_p; refine g_in ?_ ?_ <;> ((try simp only [g_m1, Int32.lt_iff_toInt_lt, Int32.le_iff_toInt_le, ← Int32.toInt_inj, Int32.reduceToInt] at *); omega)
set_option maxRecDepth 100000 in
theorem g_X12_cutAll_v125 (u : qS) (x1 : Int32) (x2 : Int32) (x4 : Int32) (uc : qS) (f_55 : Nat → Int32) (hI : IM u) (h_n : 0 ≤ x1 ∧ x1 ≤ x4) (h_f : x4 ≤ x2 ∧ x4 < u.1 1202) (h_k : x2 ≤ u.1 1202) (h_l : x4 < x2 ∨ (x2 = x4 ∧ 48 ≤ u.2.1 1201 x2.toNatClampNeg ∧ u.2.1 1201 x2.toNatClampNeg ≤ 57)) (h_z : uc.1 1203 = u.1 1202 ∧ uc.1 1202 = 0) (h_p : g_rw (uc.2.1 1205) (x1.toInt + 1) 0 1001) (c164_41 : ¬ (uc.1 1203) ≤ (x2 : Int32)) (b173_50 : ¬ (48 ≤ ((u.2.1 1201) (x2 : Int32).toNatClampNeg) ∧ ((u.2.1 1201) (x2 : Int32).toNatClampNeg) ≤ 57)) (c228_52 : ¬ (x2 - x4 : Int32) ≤ 4) (hf_55 : f_55 = upd (uc.2.1 1204) (x1 : Int32).toNatClampNeg 4) : vp_in (x1) 1002 := by
  have hz1202 := hI.1.s1202
  have q2 := hI.1.s1202; clear h_p; refine g_in ?_ ?_ <;> ((try simp only [g_m1, Int32.lt_iff_toInt_lt, Int32.le_iff_toInt_le, ← Int32.toInt_inj, Int32.reduceToInt] at *); omega)
set_option maxRecDepth 100000 in
theorem g_X12_cutAll_v126 (u : qS) (x1 : Int32) (x2 : Int32) (x4 : Int32) (x5 : Int64) (uc : qS) (f_55 : Nat → Int32) (f_56 : Nat → Int64) (hI : IM u) (h_n : 0 ≤ x1 ∧ x1 ≤ x4) (h_f : x4 ≤ x2 ∧ x4 < u.1 1202) (h_k : x2 ≤ u.1 1202) (h_l : x4 < x2 ∨ (x2 = x4 ∧ 48 ≤ u.2.1 1201 x2.toNatClampNeg ∧ u.2.1 1201 x2.toNatClampNeg ≤ 57)) (h_z : uc.1 1203 = u.1 1202 ∧ uc.1 1202 = 0) (h_p : g_rw (uc.2.1 1205) (x1.toInt + 1) 0 1001) (c164_41 : ¬ (uc.1 1203) ≤ (x2 : Int32)) (b173_50 : ¬ (48 ≤ ((u.2.1 1201) (x2 : Int32).toNatClampNeg) ∧ ((u.2.1 1201) (x2 : Int32).toNatClampNeg) ≤ 57)) (c228_52 : ¬ (x2 - x4 : Int32) ≤ 4) (hf_55 : f_55 = upd (uc.2.1 1204) (x1 : Int32).toNatClampNeg 4) (hf_56 : f_56 = vp_updL (uc.2.2.1 1206) (x1 : Int32).toNatClampNeg x5) : 0 ≤ (x1 + 1) ∧ (x1 + 1) ≤ x2 := by
  have hz1202 := hI.1.s1202
  have q2 := hI.1.s1202; have q3 := (g_up (i := x1) (by clear h_p; (try simp only [g_m1, Int32.lt_iff_toInt_lt, Int32.le_iff_toInt_le, ← Int32.toInt_inj, Int32.reduceToInt] at *); omega) (by clear h_p; (try simp only [g_m1, Int32.lt_iff_toInt_lt, Int32.le_iff_toInt_le, ← Int32.toInt_inj, Int32.reduceToInt] at *); omega)).1; clear h_p; (try simp only [g_m1, Int32.lt_iff_toInt_lt, Int32.le_iff_toInt_le, ← Int32.toInt_inj, Int32.reduceToInt] at *); omega
set_option maxRecDepth 100000 in
theorem g_X12_cutAll_v127 (u : qS) (x1 : Int32) (x2 : Int32) (x4 : Int32) (x5 : Int64) (uc : qS) (f_55 : Nat → Int32) (f_56 : Nat → Int64) (hI : IM u) (h_n : 0 ≤ x1 ∧ x1 ≤ x4) (h_f : x4 ≤ x2 ∧ x4 < u.1 1202) (h_k : x2 ≤ u.1 1202) (h_l : x4 < x2 ∨ (x2 = x4 ∧ 48 ≤ u.2.1 1201 x2.toNatClampNeg ∧ u.2.1 1201 x2.toNatClampNeg ≤ 57)) (h_z : uc.1 1203 = u.1 1202 ∧ uc.1 1202 = 0) (h_p : g_rw (uc.2.1 1205) (x1.toInt + 1) 0 1001) (c164_41 : ¬ (uc.1 1203) ≤ (x2 : Int32)) (b173_50 : ¬ (48 ≤ ((u.2.1 1201) (x2 : Int32).toNatClampNeg) ∧ ((u.2.1 1201) (x2 : Int32).toNatClampNeg) ≤ 57)) (c228_52 : ¬ (x2 - x4 : Int32) ≤ 4) (hf_55 : f_55 = upd (uc.2.1 1204) (x1 : Int32).toNatClampNeg 4) (hf_56 : f_56 = vp_updL (uc.2.2.1 1206) (x1 : Int32).toNatClampNeg x5) : x2 ≤ u.1 1202 := by
  have hz1202 := hI.1.s1202
  have q2 := hI.1.s1202; clear h_p; (try simp only [g_m1, Int32.lt_iff_toInt_lt, Int32.le_iff_toInt_le, ← Int32.toInt_inj, Int32.reduceToInt] at *); omega
set_option maxRecDepth 100000 in
theorem g_X12_cutAll_v128 (u : qS) (x1 : Int32) (x2 : Int32) (x4 : Int32) (x5 : Int64) (uc : qS) (f_55 : Nat → Int32) (f_56 : Nat → Int64) (hI : IM u) (h_n : 0 ≤ x1 ∧ x1 ≤ x4) (h_f : x4 ≤ x2 ∧ x4 < u.1 1202) (h_k : x2 ≤ u.1 1202) (h_l : x4 < x2 ∨ (x2 = x4 ∧ 48 ≤ u.2.1 1201 x2.toNatClampNeg ∧ u.2.1 1201 x2.toNatClampNeg ≤ 57)) (h_z : uc.1 1203 = u.1 1202 ∧ uc.1 1202 = 0) (h_p : g_rw (uc.2.1 1205) (x1.toInt + 1) 0 1001) (c164_41 : ¬ (uc.1 1203) ≤ (x2 : Int32)) (b173_50 : ¬ (48 ≤ ((u.2.1 1201) (x2 : Int32).toNatClampNeg) ∧ ((u.2.1 1201) (x2 : Int32).toNatClampNeg) ≤ 57)) (c228_52 : ¬ (x2 - x4 : Int32) ≤ 4) (hf_55 : f_55 = upd (uc.2.1 1204) (x1 : Int32).toNatClampNeg 4) (hf_56 : f_56 = vp_updL (uc.2.2.1 1206) (x1 : Int32).toNatClampNeg x5) : (uc.1 1203 : Int32) = u.1 1202 ∧ (uc.1 1202 : Int32) = 0 := by
  have hz1202 := hI.1.s1202
  first | exact h_z | exact ⟨rfl, rfl⟩ | (simp_all; done)
set_option maxRecDepth 100000 in
theorem g_X12_cutAll_v129 (u : qS) (x1 : Int32) (x2 : Int32) (x4 : Int32) (x5 : Int64) (uc : qS) (f_55 : Nat → Int32) (f_56 : Nat → Int64) (hI : IM u) (h_n : 0 ≤ x1 ∧ x1 ≤ x4) (h_f : x4 ≤ x2 ∧ x4 < u.1 1202) (h_k : x2 ≤ u.1 1202) (h_l : x4 < x2 ∨ (x2 = x4 ∧ 48 ≤ u.2.1 1201 x2.toNatClampNeg ∧ u.2.1 1201 x2.toNatClampNeg ≤ 57)) (h_z : uc.1 1203 = u.1 1202 ∧ uc.1 1202 = 0) (h_p : g_rw (uc.2.1 1205) (x1.toInt + 1) 0 1001) (c164_41 : ¬ (uc.1 1203) ≤ (x2 : Int32)) (b173_50 : ¬ (48 ≤ ((u.2.1 1201) (x2 : Int32).toNatClampNeg) ∧ ((u.2.1 1201) (x2 : Int32).toNatClampNeg) ≤ 57)) (c228_52 : ¬ (x2 - x4 : Int32) ≤ 4) (hf_55 : f_55 = upd (uc.2.1 1204) (x1 : Int32).toNatClampNeg 4) (hf_56 : f_56 = vp_updL (uc.2.2.1 1206) (x1 : Int32).toNatClampNeg x5) : g_rw ((uc.2.1 1205)) ((x1 + 1).toInt) 0 1001 := by
  have hz1202 := hI.1.s1202
  have q2 := hI.1.s1202; have q3 := (g_up (i := x1) (by clear h_p; (try simp only [g_m1, Int32.lt_iff_toInt_lt, Int32.le_iff_toInt_le, ← Int32.toInt_inj, Int32.reduceToInt] at *); omega) (by clear h_p; (try simp only [g_m1, Int32.lt_iff_toInt_lt, Int32.le_iff_toInt_le, ← Int32.toInt_inj, Int32.reduceToInt] at *); omega)).1; rw [q3]; exact h_p
set_option maxRecDepth 100000 in
theorem g_X12_cutAll_v130 (u : qS) (x1 : Int32) (x2 : Int32) (x4 : Int32) (x5 : Int64) (uc : qS) (f_55 : Nat → Int32) (f_56 : Nat → Int64) (hI : IM u) (h_n : 0 ≤ x1 ∧ x1 ≤ x4) (h_f : x4 ≤ x2 ∧ x4 < u.1 1202) (h_k : x2 ≤ u.1 1202) (h_l : x4 < x2 ∨ (x2 = x4 ∧ 48 ≤ u.2.1 1201 x2.toNatClampNeg ∧ u.2.1 1201 x2.toNatClampNeg ≤ 57)) (h_z : uc.1 1203 = u.1 1202 ∧ uc.1 1202 = 0) (h_p : g_rw (uc.2.1 1205) (x1.toInt + 1) 0 1001) (c164_41 : ¬ (uc.1 1203) ≤ (x2 : Int32)) (b173_50 : ¬ (48 ≤ ((u.2.1 1201) (x2 : Int32).toNatClampNeg) ∧ ((u.2.1 1201) (x2 : Int32).toNatClampNeg) ≤ 57)) (c228_52 : ¬ (x2 - x4 : Int32) ≤ 4) (hf_55 : f_55 = upd (uc.2.1 1204) (x1 : Int32).toNatClampNeg 4) (hf_56 : f_56 = vp_updL (uc.2.2.1 1206) (x1 : Int32).toNatClampNeg x5) : ((u.1 1202).toInt - x2.toInt).toNat * 3000 < ((u.1 1202).toInt - x4.toInt - 1).toNat * 3000 + 1 + ((u.1 1202).toInt - x2.toInt).toNat := by
  have hz1202 := hI.1.s1202
  have q2 := hI.1.s1202; clear h_p; (try simp only [g_m1, Int32.lt_iff_toInt_lt, Int32.le_iff_toInt_le, ← Int32.toInt_inj, Int32.reduceToInt] at *); omega
set_option maxRecDepth 100000 in
theorem g_X12_cutAll_v131 (u : qS) (hI : IM u) (hs_57 : 0 ≤ u.1 1202 ∧ u.1 1202 ≤ 1000) : 0 ≤ (0 : Int32) ∧ (0 : Int32) ≤ (0 : Int32) := by
  decide
set_option maxRecDepth 100000 in
theorem g_X12_cutAll_v132 (u : qS) (hI : IM u) (hs_57 : 0 ≤ u.1 1202 ∧ u.1 1202 ≤ 1000) : (0 : Int32) ≤ u.1 1202 := by
  have q2 := hI.1.s1202; (try simp only [g_m1, Int32.lt_iff_toInt_lt, Int32.le_iff_toInt_le, ← Int32.toInt_inj, Int32.reduceToInt] at *); omega
set_option maxRecDepth 100000 in
theorem g_X12_cutAll_v133 (u : qS) (hI : IM u) (hs_57 : 0 ≤ u.1 1202 ∧ u.1 1202 ≤ 1000) : (u.1 1202 : Int32) = u.1 1202 ∧ (0 : Int32) = 0 := by
  first | exact h_z | exact ⟨rfl, rfl⟩ | (simp_all; done)
set_option maxRecDepth 100000 in
theorem g_X12_cutAll_v134 (u : qS) (hI : IM u) (hs_57 : 0 ≤ u.1 1202 ∧ u.1 1202 ≤ 1000) : g_rw ((u.2.1 1205)) ((0 : Int32).toInt) 0 1001 := by
  exact g_rw.none (by decide)
set_option maxHeartbeats 1000000 in
set_option maxRecDepth 100000 in
theorem g_X12_cutAll (l : Launch) (E : qE) (A : Nat → Prop) (u : qS) (hI : IM u) : Met l yX12_cutAll (uws yX12_cutAll cX12_cutAll 7 none) (qR 2 0 0) (qPc E A 1 u [.ref (E.2.2 1299)]) (qQv E A 1 (fun u1 => qFr [1202, 1203, 1207, 1208] [1204, 1205] [1206] u u1 ∧ (u1.1 1202 = 0 ∧ u1.1 1207 = 0 ∧ u1.1 1208 = 0 ∧ ∃ N : Int, g_tk (u1.2.1 1204) (u1.2.1 1205) N))) 0 0 A := by
  refine q_met (own := RX12) (f := 2) [.ref (E.2.2 1299)] (by decide) (Nat.le_of_ble_eq_true rfl) rfl ?_
  intro p0 e0 s0 m0 bl0 me0 cd0 ls hF hr hlocks hU hS hA hl
  have hl : lv_has ls 7 [(0, .ref (E.2.2 1299))] := hl
  have hfr : qFr [1202, 1203, 1207, 1208] [1204, 1205] [1206] u u := qFr.rf
  have main : ∀ n : Nat, (∀ (x1 : Int32) (x2 : Int32) (uc : qS) (H : Heap) (locs : List Loc) (ls : Array Slot) (hfr : qFr [1202, 1203, 1207, 1208] [1204, 1205] [1206] u uc) (h_n : 0 ≤ x1 ∧ x1 ≤ x2) (h_k : x2 ≤ u.1 1202) (h_z : uc.1 1203 = u.1 1202 ∧ uc.1 1202 = 0) (h_p : g_rw (uc.2.1 1205) (x1.toInt) 0 1001), ((u.1 1202).toInt - x2.toInt).toNat * 3000 < n → qH E A 1 uc s0 H → va_S A s0.heap H locs → lv_has ls 7 [(0, .ref (E.2.2 1299)), (1, .int x1), (2, .int x2)] → W p0 l e0 (qR 2 0 0) s0 m0 ([.ref (E.2.2 1299)] : List Value).toArray bl0 me0 cd0 H locs 0 0 (MQ bl0 (qQv E A 1 (fun u1 => qFr [1202, 1203, 1207, 1208] [1204, 1205] [1206] u u1 ∧ (u1.1 1202 = 0 ∧ u1.1 1207 = 0 ∧ u1.1 1208 = 0 ∧ ∃ N : Int, g_tk (u1.2.1 1204) (u1.2.1 1205) N))) ([.ref (E.2.2 1299)] : List Value).toArray s0 0 0 A) (F0 m0 17 ls [])) ∧ (∀ (x1 : Int32) (x2 : Int32) (x3 : Int32) (x4 : Int32) (x5 : Int64) (uc : qS) (H : Heap) (locs : List Loc) (ls : Array Slot) (hfr : qFr [1202, 1203, 1207, 1208] [1204, 1205] [1206] u uc) (h_n : 0 ≤ x1 ∧ x1 ≤ x4) (h_f : x4 ≤ x2 ∧ x4 < u.1 1202) (h_k : x2 ≤ u.1 1202) (h_l : x4 < x2 ∨ (x2 = x4 ∧ 97 ≤ u.2.1 1201 x2.toNatClampNeg ∧ u.2.1 1201 x2.toNatClampNeg ≤ 122)) (h_z : uc.1 1203 = u.1 1202 ∧ uc.1 1202 = 0) (h_p : g_rw (uc.2.1 1205) (x1.toInt + 1) 0 1001), ((u.1 1202).toInt - x4.toInt - 1).toNat * 3000 + 1 + ((u.1 1202).toInt - x2.toInt).toNat < n → qH E A 1 uc s0 H → va_S A s0.heap H locs → lv_has ls 7 [(0, .ref (E.2.2 1299)), (1, .int x1), (2, .int x2), (3, .int x3), (4, .int x4), (5, .long x5)] → W p0 l e0 (qR 2 0 0) s0 m0 ([.ref (E.2.2 1299)] : List Value).toArray bl0 me0 cd0 H locs 0 0 (MQ bl0 (qQv E A 1 (fun u1 => qFr [1202, 1203, 1207, 1208] [1204, 1205] [1206] u u1 ∧ (u1.1 1202 = 0 ∧ u1.1 1207 = 0 ∧ u1.1 1208 = 0 ∧ ∃ N : Int, g_tk (u1.2.1 1204) (u1.2.1 1205) N))) ([.ref (E.2.2 1299)] : List Value).toArray s0 0 0 A) (F0 m0 70 ls [])) ∧ (∀ (x1 : Int32) (x2 : Int32) (x3 : Int32) (x4 : Int32) (x5 : Int64) (uc : qS) (H : Heap) (locs : List Loc) (ls : Array Slot) (hfr : qFr [1202, 1203, 1207, 1208] [1204, 1205] [1206] u uc) (h_n : 0 ≤ x1 ∧ x1 ≤ x4) (h_f : x4 ≤ x2 ∧ x4 < u.1 1202) (h_k : x2 ≤ u.1 1202) (h_l : x4 < x2 ∨ (x2 = x4 ∧ 48 ≤ u.2.1 1201 x2.toNatClampNeg ∧ u.2.1 1201 x2.toNatClampNeg ≤ 57)) (h_z : uc.1 1203 = u.1 1202 ∧ uc.1 1202 = 0) (h_p : g_rw (uc.2.1 1205) (x1.toInt + 1) 0 1001), ((u.1 1202).toInt - x4.toInt - 1).toNat * 3000 + 1 + ((u.1 1202).toInt - x2.toInt).toNat < n → qH E A 1 uc s0 H → va_S A s0.heap H locs → lv_has ls 7 [(0, .ref (E.2.2 1299)), (1, .int x1), (2, .int x2), (3, .int x3), (4, .int x4), (5, .long x5)] → W p0 l e0 (qR 2 0 0) s0 m0 ([.ref (E.2.2 1299)] : List Value).toArray bl0 me0 cd0 H locs 0 0 (MQ bl0 (qQv E A 1 (fun u1 => qFr [1202, 1203, 1207, 1208] [1204, 1205] [1206] u u1 ∧ (u1.1 1202 = 0 ∧ u1.1 1207 = 0 ∧ u1.1 1208 = 0 ∧ ∃ N : Int, g_tk (u1.2.1 1204) (u1.2.1 1205) N))) ([.ref (E.2.2 1299)] : List Value).toArray s0 0 0 A) (F0 m0 159 ls [])) := by
    intro n
    induction n with
    | zero => exact ⟨fun _ _ _ _ _ _ _ _ _ _ _ hmu => absurd hmu (Nat.not_lt_zero _), fun _ _ _ _ _ _ _ _ _ _ _ _ _ _ _ _ hmu => absurd hmu (Nat.not_lt_zero _), fun _ _ _ _ _ _ _ _ _ _ _ _ _ _ _ _ hmu => absurd hmu (Nat.not_lt_zero _)⟩
    | succ n ih =>
      refine ⟨?_, ?_, ?_⟩
      · intro x1 x2 uc H locs ls hfr h_n h_k h_z h_p hmu hU hS hl
        refine lv_iload_n hF.1 hF.2.1 dX12_cutAll_17 rfl (lv_at hl 2 rfl) ?_
        refine lv_aload_n hF.1 hF.2.1 dX12_cutAll_18 rfl (lv_at hl 0 rfl) ?_
        refine q_get (v := .int (uc.1 1203)) hF hU dX12_cutAll_19 0 12 3 1203 1299 rfl rfl rfl rfl inX12 (by decide) (by decide) w_1332 rfl rfl ?_
        refine lv_icmp_ge (tgt := 279) hF.1 hF.2.1 dX12_cutAll_22 (by decide) (fun c22_1 => ?_) (fun c22_1 => ?_)
        · refine lv_aload_n hF.1 hF.2.1 dX12_cutAll_279 rfl (lv_at hl 0 rfl) ?_
          refine q_get (v := .ref (E.2.2 1204)) hF hU dX12_cutAll_280 0 12 4 1204 1299 rfl rfl rfl rfl inX12 (by decide) (by decide) w_1333 rfl rfl ?_
          refine lv_iload_n hF.1 hF.2.1 dX12_cutAll_283 rfl (lv_at hl 1 rfl) ?_
          refine lv_iconst (v := 0) hF.1 hF.2.1 dX12_cutAll_284 (by decide) ?_
          refine q_iast hF hU hS dX12_cutAll_285 1 1204 rfl rfl (g_X12_cutAll_v0 u x1 x2 uc hI h_n h_k h_z h_p c22_1) (fun f_2 H locs hg9 hU hS => ?_)
          have hf_2 : f_2 = upd (uc.2.1 1204) (x1 : Int32).toNatClampNeg 0 := hg9
          have hfr : qFr [1202, 1203, 1207, 1208] [1204, 1205] [1206] u (qsF uc 1204 f_2) := hfr.setF (by decide)
          refine lv_aload_n hF.1 hF.2.1 dX12_cutAll_286 rfl (lv_at hl 0 rfl) ?_
          refine q_get (v := .ref (E.2.2 1205)) hF hU dX12_cutAll_287 0 12 5 1205 1299 rfl rfl rfl rfl inX12 (by decide) (by decide) w_1334 rfl rfl ?_
          refine lv_iload_n hF.1 hF.2.1 dX12_cutAll_290 rfl (lv_at hl 1 rfl) ?_
          refine lv_aload_n hF.1 hF.2.1 dX12_cutAll_291 rfl (lv_at hl 0 rfl) ?_
          refine q_get (v := .int (uc.1 1203)) hF hU dX12_cutAll_292 0 12 3 1203 1299 rfl rfl rfl rfl inX12 (by decide) (by decide) w_1332 rfl rfl ?_
          refine q_iast hF hU hS dX12_cutAll_295 2 1205 rfl rfl (g_X12_cutAll_v1 u x1 x2 uc f_2 hI h_n h_k h_z h_p c22_1 hf_2) (fun f_3 H locs hg9 hU hS => ?_)
          have hf_3 : f_3 = upd (uc.2.1 1205) (x1 : Int32).toNatClampNeg (uc.1 1203) := hg9
          have hfr : qFr [1202, 1203, 1207, 1208] [1204, 1205] [1206] u (qsF (qsF uc 1204 f_2) 1205 f_3) := hfr.setF (by decide)
          refine lv_aload_n hF.1 hF.2.1 dX12_cutAll_296 rfl (lv_at hl 0 rfl) ?_
          refine lv_iconst (v := 0) hF.1 hF.2.1 dX12_cutAll_297 (by decide) ?_
          refine q_put hF hU hS dX12_cutAll_298 0 12 7 1207 1299 rfl rfl rfl rfl inX12 tyX12 tyX12_ok nmX12 (by decide) (by decide) rfl w_1336 rfl rfl rfl rfl (fun H locs hU hS => ?_)
          have hfr : qFr [1202, 1203, 1207, 1208] [1204, 1205] [1206] u (qsI (qsF (qsF uc 1204 f_2) 1205 f_3) 1207 0) := hfr.setI (by decide)
          refine lv_aload_n hF.1 hF.2.1 dX12_cutAll_301 rfl (lv_at hl 0 rfl) ?_
          refine lv_iconst (v := 0) hF.1 hF.2.1 dX12_cutAll_302 (by decide) ?_
          refine q_put hF hU hS dX12_cutAll_303 0 12 8 1208 1299 rfl rfl rfl rfl inX12 tyX12 tyX12_ok nmX12 (by decide) (by decide) rfl w_1337 rfl rfl rfl rfl (fun H locs hU hS => ?_)
          have hfr : qFr [1202, 1203, 1207, 1208] [1204, 1205] [1206] u (qsI (qsI (qsF (qsF uc 1204 f_2) 1205 f_3) 1207 0) 1208 0) := hfr.setI (by decide)
          exact q_vret hF hr hlocks hU hS dX12_cutAll_306 ⟨hfr, (g_X12_cutAll_v2 u x1 x2 uc f_2 f_3 hI h_n h_k h_z h_p c22_1 hf_2 hf_3)⟩
        · refine lv_aload_n hF.1 hF.2.1 dX12_cutAll_25 rfl (lv_at hl 0 rfl) ?_
          refine q_get (v := .ref (E.2.2 1201)) hF hU dX12_cutAll_26 0 12 1 1201 1299 rfl rfl rfl rfl inX12 (by decide) (by decide) w_1330 rfl rfl ?_
          refine lv_iload_n hF.1 hF.2.1 dX12_cutAll_29 rfl (lv_at hl 2 rfl) ?_
          refine q_iald (v := u.2.1 1201 (x2 : Int32).toNatClampNeg) hF hU dX12_cutAll_30 0 1201 rfl rfl (g_X12_cutAll_v3 u x1 x2 uc hI h_n h_k h_z h_p c22_1) (congrFun (hfr.2.1 1201 (by decide)) _) ?_
          refine lv_istore_n (lv' := [(3, .int (u.2.1 1201 (x2 : Int32).toNatClampNeg)), (0, .ref (E.2.2 1299)), (1, .int x1), (2, .int x2)]) hF.1 hF.2.1 dX12_cutAll_31 rfl hl (by decide) rfl (fun ls hl => ?_)
          refine lv_iload_n hF.1 hF.2.1 dX12_cutAll_32 rfl (lv_at hl 0 rfl) ?_
          refine lv_bipush (v := 10) hF.1 hF.2.1 dX12_cutAll_33 (by decide) ?_
          refine lv_icmp_eq (tgt := 44) hF.1 hF.2.1 dX12_cutAll_35 (by decide) (fun c35_4 => ?_) (fun c35_4 => ?_)
          · refine lv_iinc (v := x2 + 1) (lv' := [(2, .int (x2 + 1)), (3, .int (u.2.1 1201 (x2 : Int32).toNatClampNeg)), (0, .ref (E.2.2 1299)), (1, .int x1)]) hF.1 hF.2.1 dX12_cutAll_44 hl (k := 3) rfl rfl (by decide) rfl (fun ls hl => ?_)
            refine lv_goto (tgt := 17) hF.1 hF.2.1 dX12_cutAll_47 (by decide) ?_
            exact ih.1 x1 (x2 + 1) uc _ _ _ hfr (g_X12_cutAll_v4 u x1 x2 uc hI h_n h_k h_z h_p c22_1 c35_4) (g_X12_cutAll_v5 u x1 x2 uc hI h_n h_k h_z h_p c22_1 c35_4) (g_X12_cutAll_v6 u x1 x2 uc hI h_n h_k h_z h_p c22_1 c35_4) (g_X12_cutAll_v7 u x1 x2 uc hI h_n h_k h_z h_p c22_1 c35_4) (Nat.lt_of_lt_of_le (g_X12_cutAll_v8 u x1 x2 uc hI h_n h_k h_z h_p c22_1 c35_4) (Nat.lt_succ_iff.mp hmu)) hU hS (lv_sub hl [2, 3, 0] rfl)
          · refine lv_iload_n hF.1 hF.2.1 dX12_cutAll_38 rfl (lv_at hl 0 rfl) ?_
            refine lv_bipush (v := 32) hF.1 hF.2.1 dX12_cutAll_39 (by decide) ?_
            refine lv_icmp_ne (tgt := 50) hF.1 hF.2.1 dX12_cutAll_41 (by decide) (fun c41_5 => ?_) (fun c41_5 => ?_)
            · refine lv_iload_n hF.1 hF.2.1 dX12_cutAll_50 rfl (lv_at hl 3 rfl) ?_
              refine lv_istore (lv' := [(4, .int x2), (3, .int (u.2.1 1201 (x2 : Int32).toNatClampNeg)), (0, .ref (E.2.2 1299)), (1, .int x1), (2, .int x2)]) hF.1 hF.2.1 dX12_cutAll_51 hl (by decide) rfl (fun ls hl => ?_)
              refine lv_lconst (v := 0) hF.1 hF.2.1 dX12_cutAll_53 (by decide) ?_
              refine lv_lstore (lv' := [(5, .long 0), (4, .int x2), (3, .int (u.2.1 1201 (x2 : Int32).toNatClampNeg)), (0, .ref (E.2.2 1299)), (1, .int x1), (2, .int x2)]) hF.1 hF.2.1 dX12_cutAll_54 hl (by decide) rfl (fun ls hl => ?_)
              refine lv_aload_n hF.1 hF.2.1 dX12_cutAll_56 rfl (lv_at hl 3 rfl) ?_
              refine q_get (v := .ref (E.2.2 1205)) hF hU dX12_cutAll_57 0 12 5 1205 1299 rfl rfl rfl rfl inX12 (by decide) (by decide) w_1334 rfl rfl ?_
              refine lv_iload_n hF.1 hF.2.1 dX12_cutAll_60 rfl (lv_at hl 4 rfl) ?_
              refine lv_iload_n hF.1 hF.2.1 dX12_cutAll_61 rfl (lv_at hl 5 rfl) ?_
              refine q_iast hF hU hS dX12_cutAll_62 2 1205 rfl rfl (g_X12_cutAll_v9 u x1 x2 uc hI h_n h_k h_z h_p c22_1 c35_4 c41_5) (fun f_6 H locs hg9 hU hS => ?_)
              have hf_6 : f_6 = upd (uc.2.1 1205) (x1 : Int32).toNatClampNeg x2 := hg9
              have hfr : qFr [1202, 1203, 1207, 1208] [1204, 1205] [1206] u (qsF uc 1205 f_6) := hfr.setF (by decide)
              refine lv_iload_n hF.1 hF.2.1 dX12_cutAll_63 rfl (lv_at hl 2 rfl) ?_
              have hM9 := g_X12_isLetter_n l E A (qsF uc 1205 f_6) (u.2.1 1201 (x2 : Int32).toNatClampNeg)
              have hR9 := q_runS (l := l) (e := e0) (below := bl0) (meth := me0) (R := qR 2 0 0) (cells := 0) (slots := 0) (st0 := [.int (u.2.1 1201 (x2 : Int32).toNatClampNeg)]) (rest := []) hF hU hS hA 1 hM9 w_1581 w_1582 w_107 w_1583 (by decide +kernel) ⟨Nat.le_of_ble_eq_true rfl, Nat.le_of_ble_eq_true rfl⟩ dX12_cutAll_64 rfl hl.1 rfl (Nat.le_of_ble_eq_true rfl) ⟨Nat.le_of_ble_eq_true rfl, Nat.le_of_ble_eq_true rfl⟩
              refine q_calli hR9 hU.2.2.2 hS (fun r_9 u_7 H locs hw_8 hU hS => ?_)
              obtain ⟨hw_8_e, hw_8⟩ := hw_8
              rw [hw_8_e] at hU
              have hw_8 : (r_9 = 1 ∧ (97 ≤ ((u.2.1 1201) (x2 : Int32).toNatClampNeg) ∧ ((u.2.1 1201) (x2 : Int32).toNatClampNeg) ≤ 122)) ∨ (r_9 = 0 ∧ ¬ (97 ≤ ((u.2.1 1201) (x2 : Int32).toNatClampNeg) ∧ ((u.2.1 1201) (x2 : Int32).toNatClampNeg) ≤ 122)) := hw_8
              rcases hw_8 with ⟨rfl, b64_10⟩ | ⟨rfl, b64_10⟩
              · refine lv_if_eq (tgt := 152) hF.1 hF.2.1 dX12_cutAll_67 (by decide) (fun h9 => absurd h9 (by decide)) (fun _ => ?_)
                exact ih.2.1 x1 x2 (u.2.1 1201 (x2 : Int32).toNatClampNeg) x2 (0 : Int64) (qsF uc 1205 f_6) _ _ _ hfr (g_X12_cutAll_v10 u x1 x2 uc f_6 hI h_n h_k h_z h_p c22_1 c35_4 c41_5 hf_6 b64_10) (g_X12_cutAll_v11 u x1 x2 uc f_6 hI h_n h_k h_z h_p c22_1 c35_4 c41_5 hf_6 b64_10) (g_X12_cutAll_v12 u x1 x2 uc f_6 hI h_n h_k h_z h_p c22_1 c35_4 c41_5 hf_6 b64_10) (g_X12_cutAll_v13 u x1 x2 uc f_6 hI h_n h_k h_z h_p c22_1 c35_4 c41_5 hf_6 b64_10) (g_X12_cutAll_v14 u x1 x2 uc f_6 hI h_n h_k h_z h_p c22_1 c35_4 c41_5 hf_6 b64_10) (g_X12_cutAll_v15 u x1 x2 uc f_6 hI h_n h_k h_z h_p c22_1 c35_4 c41_5 hf_6 b64_10) (Nat.lt_of_lt_of_le (g_X12_cutAll_v16 u x1 x2 uc f_6 hI h_n h_k h_z h_p c22_1 c35_4 c41_5 hf_6 b64_10) (Nat.lt_succ_iff.mp hmu)) hU hS (lv_sub hl [3, 4, 5, 2, 1, 0] rfl)
              · refine lv_if_eq (tgt := 152) hF.1 hF.2.1 dX12_cutAll_67 (by decide) (fun _ => ?_) (fun h9 => absurd (by decide) h9)
                refine lv_iload_n hF.1 hF.2.1 dX12_cutAll_152 rfl (lv_at hl 2 rfl) ?_
                have hM9 := g_X12_isDigit_n l E A (qsF uc 1205 f_6) (u.2.1 1201 (x2 : Int32).toNatClampNeg)
                have hR9 := q_runS (l := l) (e := e0) (below := bl0) (meth := me0) (R := qR 2 0 0) (cells := 0) (slots := 0) (st0 := [.int (u.2.1 1201 (x2 : Int32).toNatClampNeg)]) (rest := []) hF hU hS hA 1 hM9 w_1588 w_1589 w_107 w_1590 (by decide +kernel) ⟨Nat.le_of_ble_eq_true rfl, Nat.le_of_ble_eq_true rfl⟩ dX12_cutAll_153 rfl hl.1 rfl (Nat.le_of_ble_eq_true rfl) ⟨Nat.le_of_ble_eq_true rfl, Nat.le_of_ble_eq_true rfl⟩
                refine q_calli hR9 hU.2.2.2 hS (fun r_13 u_11 H locs hw_12 hU hS => ?_)
                obtain ⟨hw_12_e, hw_12⟩ := hw_12
                rw [hw_12_e] at hU
                have hw_12 : (r_13 = 1 ∧ (48 ≤ ((u.2.1 1201) (x2 : Int32).toNatClampNeg) ∧ ((u.2.1 1201) (x2 : Int32).toNatClampNeg) ≤ 57)) ∨ (r_13 = 0 ∧ ¬ (48 ≤ ((u.2.1 1201) (x2 : Int32).toNatClampNeg) ∧ ((u.2.1 1201) (x2 : Int32).toNatClampNeg) ≤ 57)) := hw_12
                rcases hw_12 with ⟨rfl, b153_14⟩ | ⟨rfl, b153_14⟩
                · refine lv_if_eq (tgt := 240) hF.1 hF.2.1 dX12_cutAll_156 (by decide) (fun h9 => absurd h9 (by decide)) (fun _ => ?_)
                  exact ih.2.2 x1 x2 (u.2.1 1201 (x2 : Int32).toNatClampNeg) x2 (0 : Int64) (qsF uc 1205 f_6) _ _ _ hfr (g_X12_cutAll_v17 u x1 x2 uc f_6 hI h_n h_k h_z h_p c22_1 c35_4 c41_5 hf_6 b64_10 b153_14) (g_X12_cutAll_v18 u x1 x2 uc f_6 hI h_n h_k h_z h_p c22_1 c35_4 c41_5 hf_6 b64_10 b153_14) (g_X12_cutAll_v19 u x1 x2 uc f_6 hI h_n h_k h_z h_p c22_1 c35_4 c41_5 hf_6 b64_10 b153_14) (g_X12_cutAll_v20 u x1 x2 uc f_6 hI h_n h_k h_z h_p c22_1 c35_4 c41_5 hf_6 b64_10 b153_14) (g_X12_cutAll_v21 u x1 x2 uc f_6 hI h_n h_k h_z h_p c22_1 c35_4 c41_5 hf_6 b64_10 b153_14) (g_X12_cutAll_v22 u x1 x2 uc f_6 hI h_n h_k h_z h_p c22_1 c35_4 c41_5 hf_6 b64_10 b153_14) (Nat.lt_of_lt_of_le (g_X12_cutAll_v23 u x1 x2 uc f_6 hI h_n h_k h_z h_p c22_1 c35_4 c41_5 hf_6 b64_10 b153_14) (Nat.lt_succ_iff.mp hmu)) hU hS (lv_sub hl [3, 4, 5, 2, 1, 0] rfl)
                · refine lv_if_eq (tgt := 240) hF.1 hF.2.1 dX12_cutAll_156 (by decide) (fun _ => ?_) (fun h9 => absurd (by decide) h9)
                  refine lv_iload_n hF.1 hF.2.1 dX12_cutAll_240 rfl (lv_at hl 2 rfl) ?_
                  refine lv_i2l (v := (u.2.1 1201 (x2 : Int32).toNatClampNeg : Int32).toInt64) hF.1 hF.2.1 dX12_cutAll_241 rfl ?_
                  refine lv_lstore (lv' := [(5, .long ((u.2.1 1201 (x2 : Int32).toNatClampNeg : Int32).toInt64)), (4, .int x2), (3, .int (u.2.1 1201 (x2 : Int32).toNatClampNeg)), (0, .ref (E.2.2 1299)), (1, .int x1), (2, .int x2)]) hF.1 hF.2.1 dX12_cutAll_242 hl (by decide) rfl (fun ls hl => ?_)
                  refine lv_aload_n hF.1 hF.2.1 dX12_cutAll_244 rfl (lv_at hl 3 rfl) ?_
                  refine q_get (v := .ref (E.2.2 1204)) hF hU dX12_cutAll_245 0 12 4 1204 1299 rfl rfl rfl rfl inX12 (by decide) (by decide) w_1333 rfl rfl ?_
                  refine lv_iload_n hF.1 hF.2.1 dX12_cutAll_248 rfl (lv_at hl 4 rfl) ?_
                  refine lv_iload_n hF.1 hF.2.1 dX12_cutAll_249 rfl (lv_at hl 2 rfl) ?_
                  have hM9 := g_X12_isSignOf l E A (qsF uc 1205 f_6) (u.2.1 1201 (x2 : Int32).toNatClampNeg)
                  have hR9 := q_runS (l := l) (e := e0) (below := bl0) (meth := me0) (R := qR 2 0 0) (cells := 0) (slots := 0) (st0 := [.int (u.2.1 1201 (x2 : Int32).toNatClampNeg), .int x1, .ref (E.2.2 1204)]) (rest := [.int x1, .ref (E.2.2 1204)]) hF hU hS hA 1 hM9 w_1593 w_1594 w_107 w_1595 (by decide +kernel) ⟨Nat.le_of_ble_eq_true rfl, Nat.le_of_ble_eq_true rfl⟩ dX12_cutAll_250 rfl hl.1 rfl (Nat.le_of_ble_eq_true rfl) ⟨Nat.le_of_ble_eq_true rfl, Nat.le_of_ble_eq_true rfl⟩
                  refine q_calli hR9 hU.2.2.2 hS (fun r_17 u_15 H locs hw_16 hU hS => ?_)
                  obtain ⟨hw_16_e, hw_16⟩ := hw_16
                  rw [hw_16_e] at hU
                  rcases hw_16 with rfl | rfl
                  · refine lv_if_eq (tgt := 260) hF.1 hF.2.1 dX12_cutAll_253 (by decide) (fun h9 => absurd h9 (by decide)) (fun _ => ?_)
                    refine lv_iconst (v := 3) hF.1 hF.2.1 dX12_cutAll_256 (by decide) ?_
                    refine lv_goto (tgt := 261) hF.1 hF.2.1 dX12_cutAll_257 (by decide) ?_
                    refine q_iast hF hU hS dX12_cutAll_261 1 1204 rfl rfl (g_X12_cutAll_v24 u x1 x2 uc f_6 hI h_n h_k h_z h_p c22_1 c35_4 c41_5 hf_6 b64_10 b153_14) (fun f_18 H locs hg9 hU hS => ?_)
                    have hf_18 : f_18 = upd (uc.2.1 1204) (x1 : Int32).toNatClampNeg 3 := hg9
                    have hfr : qFr [1202, 1203, 1207, 1208] [1204, 1205] [1206] u (qsF (qsF uc 1205 f_6) 1204 f_18) := hfr.setF (by decide)
                    refine lv_iinc (v := x2 + 1) (lv' := [(2, .int (x2 + 1)), (5, .long ((u.2.1 1201 (x2 : Int32).toNatClampNeg : Int32).toInt64)), (4, .int x2), (3, .int (u.2.1 1201 (x2 : Int32).toNatClampNeg)), (0, .ref (E.2.2 1299)), (1, .int x1)]) hF.1 hF.2.1 dX12_cutAll_262 hl (k := 5) rfl rfl (by decide) rfl (fun ls hl => ?_)
                    refine lv_aload_n hF.1 hF.2.1 dX12_cutAll_265 rfl (lv_at hl 4 rfl) ?_
                    refine q_get (v := .ref (E.2.2 1206)) hF hU dX12_cutAll_266 0 12 6 1206 1299 rfl rfl rfl rfl inX12 (by decide) (by decide) w_1335 rfl rfl ?_
                    refine lv_iload_n hF.1 hF.2.1 dX12_cutAll_269 rfl (lv_at hl 5 rfl) ?_
                    refine lv_lload hF.1 hF.2.1 dX12_cutAll_270 (lv_at hl 1 rfl) ?_
                    refine q_last hF hU hS dX12_cutAll_272 3 1206 rfl rfl (g_X12_cutAll_v25 u x1 x2 uc f_6 f_18 hI h_n h_k h_z h_p c22_1 c35_4 c41_5 hf_6 b64_10 b153_14 hf_18) (fun f_19 H locs hg9 hU hS => ?_)
                    have hf_19 : f_19 = vp_updL (uc.2.2.1 1206) (x1 : Int32).toNatClampNeg ((u.2.1 1201 (x2 : Int32).toNatClampNeg : Int32).toInt64) := hg9
                    have hfr : qFr [1202, 1203, 1207, 1208] [1204, 1205] [1206] u (qsG (qsF (qsF uc 1205 f_6) 1204 f_18) 1206 f_19) := hfr.setG (by decide)
                    refine lv_iinc (v := x1 + 1) (lv' := [(1, .int (x1 + 1)), (2, .int (x2 + 1)), (5, .long ((u.2.1 1201 (x2 : Int32).toNatClampNeg : Int32).toInt64)), (4, .int x2), (3, .int (u.2.1 1201 (x2 : Int32).toNatClampNeg)), (0, .ref (E.2.2 1299))]) hF.1 hF.2.1 dX12_cutAll_273 hl (k := 5) rfl rfl (by decide) rfl (fun ls hl => ?_)
                    refine lv_goto (tgt := 17) hF.1 hF.2.1 dX12_cutAll_276 (by decide) ?_
                    exact ih.1 (x1 + 1) (x2 + 1) (qsG (qsF (qsF uc 1205 f_6) 1204 f_18) 1206 f_19) _ _ _ hfr (g_X12_cutAll_v26 u x1 x2 uc f_6 f_18 f_19 hI h_n h_k h_z h_p c22_1 c35_4 c41_5 hf_6 b64_10 b153_14 hf_18 hf_19) (g_X12_cutAll_v27 u x1 x2 uc f_6 f_18 f_19 hI h_n h_k h_z h_p c22_1 c35_4 c41_5 hf_6 b64_10 b153_14 hf_18 hf_19) (g_X12_cutAll_v28 u x1 x2 uc f_6 f_18 f_19 hI h_n h_k h_z h_p c22_1 c35_4 c41_5 hf_6 b64_10 b153_14 hf_18 hf_19) (g_X12_cutAll_v29 u x1 x2 uc f_6 f_18 f_19 hI h_n h_k h_z h_p c22_1 c35_4 c41_5 hf_6 b64_10 b153_14 hf_18 hf_19) (Nat.lt_of_lt_of_le (g_X12_cutAll_v30 u x1 x2 uc f_6 f_18 f_19 hI h_n h_k h_z h_p c22_1 c35_4 c41_5 hf_6 b64_10 b153_14 hf_18 hf_19) (Nat.lt_succ_iff.mp hmu)) hU hS (lv_sub hl [5, 0, 1] rfl)
                  · refine lv_if_eq (tgt := 260) hF.1 hF.2.1 dX12_cutAll_253 (by decide) (fun _ => ?_) (fun h9 => absurd (by decide) h9)
                    refine lv_iconst (v := 4) hF.1 hF.2.1 dX12_cutAll_260 (by decide) ?_
                    refine q_iast hF hU hS dX12_cutAll_261 1 1204 rfl rfl (g_X12_cutAll_v31 u x1 x2 uc f_6 hI h_n h_k h_z h_p c22_1 c35_4 c41_5 hf_6 b64_10 b153_14) (fun f_20 H locs hg9 hU hS => ?_)
                    have hf_20 : f_20 = upd (uc.2.1 1204) (x1 : Int32).toNatClampNeg 4 := hg9
                    have hfr : qFr [1202, 1203, 1207, 1208] [1204, 1205] [1206] u (qsF (qsF uc 1205 f_6) 1204 f_20) := hfr.setF (by decide)
                    refine lv_iinc (v := x2 + 1) (lv' := [(2, .int (x2 + 1)), (5, .long ((u.2.1 1201 (x2 : Int32).toNatClampNeg : Int32).toInt64)), (4, .int x2), (3, .int (u.2.1 1201 (x2 : Int32).toNatClampNeg)), (0, .ref (E.2.2 1299)), (1, .int x1)]) hF.1 hF.2.1 dX12_cutAll_262 hl (k := 5) rfl rfl (by decide) rfl (fun ls hl => ?_)
                    refine lv_aload_n hF.1 hF.2.1 dX12_cutAll_265 rfl (lv_at hl 4 rfl) ?_
                    refine q_get (v := .ref (E.2.2 1206)) hF hU dX12_cutAll_266 0 12 6 1206 1299 rfl rfl rfl rfl inX12 (by decide) (by decide) w_1335 rfl rfl ?_
                    refine lv_iload_n hF.1 hF.2.1 dX12_cutAll_269 rfl (lv_at hl 5 rfl) ?_
                    refine lv_lload hF.1 hF.2.1 dX12_cutAll_270 (lv_at hl 1 rfl) ?_
                    refine q_last hF hU hS dX12_cutAll_272 3 1206 rfl rfl (g_X12_cutAll_v32 u x1 x2 uc f_6 f_20 hI h_n h_k h_z h_p c22_1 c35_4 c41_5 hf_6 b64_10 b153_14 hf_20) (fun f_21 H locs hg9 hU hS => ?_)
                    have hf_21 : f_21 = vp_updL (uc.2.2.1 1206) (x1 : Int32).toNatClampNeg ((u.2.1 1201 (x2 : Int32).toNatClampNeg : Int32).toInt64) := hg9
                    have hfr : qFr [1202, 1203, 1207, 1208] [1204, 1205] [1206] u (qsG (qsF (qsF uc 1205 f_6) 1204 f_20) 1206 f_21) := hfr.setG (by decide)
                    refine lv_iinc (v := x1 + 1) (lv' := [(1, .int (x1 + 1)), (2, .int (x2 + 1)), (5, .long ((u.2.1 1201 (x2 : Int32).toNatClampNeg : Int32).toInt64)), (4, .int x2), (3, .int (u.2.1 1201 (x2 : Int32).toNatClampNeg)), (0, .ref (E.2.2 1299))]) hF.1 hF.2.1 dX12_cutAll_273 hl (k := 5) rfl rfl (by decide) rfl (fun ls hl => ?_)
                    refine lv_goto (tgt := 17) hF.1 hF.2.1 dX12_cutAll_276 (by decide) ?_
                    exact ih.1 (x1 + 1) (x2 + 1) (qsG (qsF (qsF uc 1205 f_6) 1204 f_20) 1206 f_21) _ _ _ hfr (g_X12_cutAll_v33 u x1 x2 uc f_6 f_20 f_21 hI h_n h_k h_z h_p c22_1 c35_4 c41_5 hf_6 b64_10 b153_14 hf_20 hf_21) (g_X12_cutAll_v34 u x1 x2 uc f_6 f_20 f_21 hI h_n h_k h_z h_p c22_1 c35_4 c41_5 hf_6 b64_10 b153_14 hf_20 hf_21) (g_X12_cutAll_v35 u x1 x2 uc f_6 f_20 f_21 hI h_n h_k h_z h_p c22_1 c35_4 c41_5 hf_6 b64_10 b153_14 hf_20 hf_21) (g_X12_cutAll_v36 u x1 x2 uc f_6 f_20 f_21 hI h_n h_k h_z h_p c22_1 c35_4 c41_5 hf_6 b64_10 b153_14 hf_20 hf_21) (Nat.lt_of_lt_of_le (g_X12_cutAll_v37 u x1 x2 uc f_6 f_20 f_21 hI h_n h_k h_z h_p c22_1 c35_4 c41_5 hf_6 b64_10 b153_14 hf_20 hf_21) (Nat.lt_succ_iff.mp hmu)) hU hS (lv_sub hl [5, 0, 1] rfl)
            · refine lv_iinc (v := x2 + 1) (lv' := [(2, .int (x2 + 1)), (3, .int (u.2.1 1201 (x2 : Int32).toNatClampNeg)), (0, .ref (E.2.2 1299)), (1, .int x1)]) hF.1 hF.2.1 dX12_cutAll_44 hl (k := 3) rfl rfl (by decide) rfl (fun ls hl => ?_)
              refine lv_goto (tgt := 17) hF.1 hF.2.1 dX12_cutAll_47 (by decide) ?_
              exact ih.1 x1 (x2 + 1) uc _ _ _ hfr (g_X12_cutAll_v38 u x1 x2 uc hI h_n h_k h_z h_p c22_1 c35_4 c41_5) (g_X12_cutAll_v39 u x1 x2 uc hI h_n h_k h_z h_p c22_1 c35_4 c41_5) (g_X12_cutAll_v40 u x1 x2 uc hI h_n h_k h_z h_p c22_1 c35_4 c41_5) (g_X12_cutAll_v41 u x1 x2 uc hI h_n h_k h_z h_p c22_1 c35_4 c41_5) (Nat.lt_of_lt_of_le (g_X12_cutAll_v42 u x1 x2 uc hI h_n h_k h_z h_p c22_1 c35_4 c41_5) (Nat.lt_succ_iff.mp hmu)) hU hS (lv_sub hl [2, 3, 0] rfl)
      · intro x1 x2 x3 x4 x5 uc H locs ls hfr h_n h_f h_k h_l h_z h_p hmu hU hS hl
        refine lv_iload_n hF.1 hF.2.1 dX12_cutAll_70 rfl (lv_at hl 2 rfl) ?_
        refine lv_aload_n hF.1 hF.2.1 dX12_cutAll_71 rfl (lv_at hl 0 rfl) ?_
        refine q_get (v := .int (uc.1 1203)) hF hU dX12_cutAll_72 0 12 3 1203 1299 rfl rfl rfl rfl inX12 (by decide) (by decide) w_1332 rfl rfl ?_
        refine lv_icmp_ge (tgt := 129) hF.1 hF.2.1 dX12_cutAll_75 (by decide) (fun c75_22 => ?_) (fun c75_22 => ?_)
        · refine lv_aload_n hF.1 hF.2.1 dX12_cutAll_129 rfl (lv_at hl 0 rfl) ?_
          refine q_get (v := .ref (E.2.2 1204)) hF hU dX12_cutAll_130 0 12 4 1204 1299 rfl rfl rfl rfl inX12 (by decide) (by decide) w_1333 rfl rfl ?_
          refine lv_iload_n hF.1 hF.2.1 dX12_cutAll_133 rfl (lv_at hl 1 rfl) ?_
          refine lv_iload_n hF.1 hF.2.1 dX12_cutAll_134 rfl (lv_at hl 2 rfl) ?_
          refine lv_iload hF.1 hF.2.1 dX12_cutAll_135 (lv_at hl 4 rfl) ?_
          refine lv_isub hF.1 hF.2.1 dX12_cutAll_137 ?_
          refine lv_bipush (v := 8) hF.1 hF.2.1 dX12_cutAll_138 (by decide) ?_
          refine lv_icmp_le (tgt := 147) hF.1 hF.2.1 dX12_cutAll_140 (by decide) (fun c140_23 => ?_) (fun c140_23 => ?_)
          · refine lv_iconst (v := 1) hF.1 hF.2.1 dX12_cutAll_147 (by decide) ?_
            refine q_iast hF hU hS dX12_cutAll_148 1 1204 rfl rfl (g_X12_cutAll_v43 u x1 x2 x4 uc hI h_n h_f h_k h_l h_z h_p c75_22 c140_23) (fun f_24 H locs hg9 hU hS => ?_)
            have hf_24 : f_24 = upd (uc.2.1 1204) (x1 : Int32).toNatClampNeg 1 := hg9
            have hfr : qFr [1202, 1203, 1207, 1208] [1204, 1205] [1206] u (qsF uc 1204 f_24) := hfr.setF (by decide)
            refine lv_goto (tgt := 265) hF.1 hF.2.1 dX12_cutAll_149 (by decide) ?_
            refine lv_aload_n hF.1 hF.2.1 dX12_cutAll_265 rfl (lv_at hl 0 rfl) ?_
            refine q_get (v := .ref (E.2.2 1206)) hF hU dX12_cutAll_266 0 12 6 1206 1299 rfl rfl rfl rfl inX12 (by decide) (by decide) w_1335 rfl rfl ?_
            refine lv_iload_n hF.1 hF.2.1 dX12_cutAll_269 rfl (lv_at hl 1 rfl) ?_
            refine lv_lload hF.1 hF.2.1 dX12_cutAll_270 (lv_at hl 5 rfl) ?_
            refine q_last hF hU hS dX12_cutAll_272 3 1206 rfl rfl (g_X12_cutAll_v44 u x1 x2 x4 uc f_24 hI h_n h_f h_k h_l h_z h_p c75_22 c140_23 hf_24) (fun f_25 H locs hg9 hU hS => ?_)
            have hf_25 : f_25 = vp_updL (uc.2.2.1 1206) (x1 : Int32).toNatClampNeg x5 := hg9
            have hfr : qFr [1202, 1203, 1207, 1208] [1204, 1205] [1206] u (qsG (qsF uc 1204 f_24) 1206 f_25) := hfr.setG (by decide)
            refine lv_iinc (v := x1 + 1) (lv' := [(1, .int (x1 + 1)), (0, .ref (E.2.2 1299)), (2, .int x2), (3, .int x3), (4, .int x4), (5, .long x5)]) hF.1 hF.2.1 dX12_cutAll_273 hl (k := 1) rfl rfl (by decide) rfl (fun ls hl => ?_)
            refine lv_goto (tgt := 17) hF.1 hF.2.1 dX12_cutAll_276 (by decide) ?_
            exact ih.1 (x1 + 1) x2 (qsG (qsF uc 1204 f_24) 1206 f_25) _ _ _ hfr (g_X12_cutAll_v45 u x1 x2 x4 x5 uc f_24 f_25 hI h_n h_f h_k h_l h_z h_p c75_22 c140_23 hf_24 hf_25) (g_X12_cutAll_v46 u x1 x2 x4 x5 uc f_24 f_25 hI h_n h_f h_k h_l h_z h_p c75_22 c140_23 hf_24 hf_25) (g_X12_cutAll_v47 u x1 x2 x4 x5 uc f_24 f_25 hI h_n h_f h_k h_l h_z h_p c75_22 c140_23 hf_24 hf_25) (g_X12_cutAll_v48 u x1 x2 x4 x5 uc f_24 f_25 hI h_n h_f h_k h_l h_z h_p c75_22 c140_23 hf_24 hf_25) (Nat.lt_of_lt_of_le (g_X12_cutAll_v49 u x1 x2 x4 x5 uc f_24 f_25 hI h_n h_f h_k h_l h_z h_p c75_22 c140_23 hf_24 hf_25) (Nat.lt_succ_iff.mp hmu)) hU hS (lv_sub hl [1, 0, 2] rfl)
          · refine lv_iconst (v := 4) hF.1 hF.2.1 dX12_cutAll_143 (by decide) ?_
            refine lv_goto (tgt := 148) hF.1 hF.2.1 dX12_cutAll_144 (by decide) ?_
            refine q_iast hF hU hS dX12_cutAll_148 1 1204 rfl rfl (g_X12_cutAll_v50 u x1 x2 x4 uc hI h_n h_f h_k h_l h_z h_p c75_22 c140_23) (fun f_26 H locs hg9 hU hS => ?_)
            have hf_26 : f_26 = upd (uc.2.1 1204) (x1 : Int32).toNatClampNeg 4 := hg9
            have hfr : qFr [1202, 1203, 1207, 1208] [1204, 1205] [1206] u (qsF uc 1204 f_26) := hfr.setF (by decide)
            refine lv_goto (tgt := 265) hF.1 hF.2.1 dX12_cutAll_149 (by decide) ?_
            refine lv_aload_n hF.1 hF.2.1 dX12_cutAll_265 rfl (lv_at hl 0 rfl) ?_
            refine q_get (v := .ref (E.2.2 1206)) hF hU dX12_cutAll_266 0 12 6 1206 1299 rfl rfl rfl rfl inX12 (by decide) (by decide) w_1335 rfl rfl ?_
            refine lv_iload_n hF.1 hF.2.1 dX12_cutAll_269 rfl (lv_at hl 1 rfl) ?_
            refine lv_lload hF.1 hF.2.1 dX12_cutAll_270 (lv_at hl 5 rfl) ?_
            refine q_last hF hU hS dX12_cutAll_272 3 1206 rfl rfl (g_X12_cutAll_v51 u x1 x2 x4 uc f_26 hI h_n h_f h_k h_l h_z h_p c75_22 c140_23 hf_26) (fun f_27 H locs hg9 hU hS => ?_)
            have hf_27 : f_27 = vp_updL (uc.2.2.1 1206) (x1 : Int32).toNatClampNeg x5 := hg9
            have hfr : qFr [1202, 1203, 1207, 1208] [1204, 1205] [1206] u (qsG (qsF uc 1204 f_26) 1206 f_27) := hfr.setG (by decide)
            refine lv_iinc (v := x1 + 1) (lv' := [(1, .int (x1 + 1)), (0, .ref (E.2.2 1299)), (2, .int x2), (3, .int x3), (4, .int x4), (5, .long x5)]) hF.1 hF.2.1 dX12_cutAll_273 hl (k := 1) rfl rfl (by decide) rfl (fun ls hl => ?_)
            refine lv_goto (tgt := 17) hF.1 hF.2.1 dX12_cutAll_276 (by decide) ?_
            exact ih.1 (x1 + 1) x2 (qsG (qsF uc 1204 f_26) 1206 f_27) _ _ _ hfr (g_X12_cutAll_v52 u x1 x2 x4 x5 uc f_26 f_27 hI h_n h_f h_k h_l h_z h_p c75_22 c140_23 hf_26 hf_27) (g_X12_cutAll_v53 u x1 x2 x4 x5 uc f_26 f_27 hI h_n h_f h_k h_l h_z h_p c75_22 c140_23 hf_26 hf_27) (g_X12_cutAll_v54 u x1 x2 x4 x5 uc f_26 f_27 hI h_n h_f h_k h_l h_z h_p c75_22 c140_23 hf_26 hf_27) (g_X12_cutAll_v55 u x1 x2 x4 x5 uc f_26 f_27 hI h_n h_f h_k h_l h_z h_p c75_22 c140_23 hf_26 hf_27) (Nat.lt_of_lt_of_le (g_X12_cutAll_v56 u x1 x2 x4 x5 uc f_26 f_27 hI h_n h_f h_k h_l h_z h_p c75_22 c140_23 hf_26 hf_27) (Nat.lt_succ_iff.mp hmu)) hU hS (lv_sub hl [1, 0, 2] rfl)
        · refine lv_aload_n hF.1 hF.2.1 dX12_cutAll_78 rfl (lv_at hl 0 rfl) ?_
          refine q_get (v := .ref (E.2.2 1201)) hF hU dX12_cutAll_79 0 12 1 1201 1299 rfl rfl rfl rfl inX12 (by decide) (by decide) w_1330 rfl rfl ?_
          refine lv_iload_n hF.1 hF.2.1 dX12_cutAll_82 rfl (lv_at hl 2 rfl) ?_
          refine q_iald (v := u.2.1 1201 (x2 : Int32).toNatClampNeg) hF hU dX12_cutAll_83 0 1201 rfl rfl (g_X12_cutAll_v57 u x1 x2 x4 uc hI h_n h_f h_k h_l h_z h_p c75_22) (congrFun (hfr.2.1 1201 (by decide)) _) ?_
          have hM9 := g_X12_isLetter_n l E A uc (u.2.1 1201 (x2 : Int32).toNatClampNeg)
          have hR9 := q_runS (l := l) (e := e0) (below := bl0) (meth := me0) (R := qR 2 0 0) (cells := 0) (slots := 0) (st0 := [.int (u.2.1 1201 (x2 : Int32).toNatClampNeg)]) (rest := []) hF hU hS hA 1 hM9 w_1581 w_1582 w_107 w_1583 (by decide +kernel) ⟨Nat.le_of_ble_eq_true rfl, Nat.le_of_ble_eq_true rfl⟩ dX12_cutAll_84 rfl hl.1 rfl (Nat.le_of_ble_eq_true rfl) ⟨Nat.le_of_ble_eq_true rfl, Nat.le_of_ble_eq_true rfl⟩
          refine q_calli hR9 hU.2.2.2 hS (fun r_30 u_28 H locs hw_29 hU hS => ?_)
          obtain ⟨hw_29_e, hw_29⟩ := hw_29
          rw [hw_29_e] at hU
          have hw_29 : (r_30 = 1 ∧ (97 ≤ ((u.2.1 1201) (x2 : Int32).toNatClampNeg) ∧ ((u.2.1 1201) (x2 : Int32).toNatClampNeg) ≤ 122)) ∨ (r_30 = 0 ∧ ¬ (97 ≤ ((u.2.1 1201) (x2 : Int32).toNatClampNeg) ∧ ((u.2.1 1201) (x2 : Int32).toNatClampNeg) ≤ 122)) := hw_29
          rcases hw_29 with ⟨rfl, b84_31⟩ | ⟨rfl, b84_31⟩
          · refine lv_if_eq (tgt := 129) hF.1 hF.2.1 dX12_cutAll_87 (by decide) (fun h9 => absurd h9 (by decide)) (fun _ => ?_)
            refine lv_iload_n hF.1 hF.2.1 dX12_cutAll_90 rfl (lv_at hl 2 rfl) ?_
            refine lv_iload hF.1 hF.2.1 dX12_cutAll_91 (lv_at hl 4 rfl) ?_
            refine lv_isub hF.1 hF.2.1 dX12_cutAll_93 ?_
            refine lv_bipush (v := 8) hF.1 hF.2.1 dX12_cutAll_94 (by decide) ?_
            refine lv_icmp_ge (tgt := 119) hF.1 hF.2.1 dX12_cutAll_96 (by decide) (fun c96_32 => ?_) (fun c96_32 => ?_)
            · refine lv_lload hF.1 hF.2.1 dX12_cutAll_119 (lv_at hl 5 rfl) ?_
              refine lv_lstore (lv' := [(5, .long x5), (0, .ref (E.2.2 1299)), (1, .int x1), (2, .int x2), (3, .int x3), (4, .int x4)]) hF.1 hF.2.1 dX12_cutAll_121 hl (by decide) rfl (fun ls hl => ?_)
              refine lv_iinc (v := x2 + 1) (lv' := [(2, .int (x2 + 1)), (5, .long x5), (0, .ref (E.2.2 1299)), (1, .int x1), (3, .int x3), (4, .int x4)]) hF.1 hF.2.1 dX12_cutAll_123 hl (k := 3) rfl rfl (by decide) rfl (fun ls hl => ?_)
              refine lv_goto (tgt := 70) hF.1 hF.2.1 dX12_cutAll_126 (by decide) ?_
              exact ih.2.1 x1 (x2 + 1) x3 x4 x5 uc _ _ _ hfr (g_X12_cutAll_v58 u x1 x2 x4 uc hI h_n h_f h_k h_l h_z h_p c75_22 b84_31 c96_32) (g_X12_cutAll_v59 u x1 x2 x4 uc hI h_n h_f h_k h_l h_z h_p c75_22 b84_31 c96_32) (g_X12_cutAll_v60 u x1 x2 x4 uc hI h_n h_f h_k h_l h_z h_p c75_22 b84_31 c96_32) (g_X12_cutAll_v61 u x1 x2 x4 uc hI h_n h_f h_k h_l h_z h_p c75_22 b84_31 c96_32) (g_X12_cutAll_v62 u x1 x2 x4 uc hI h_n h_f h_k h_l h_z h_p c75_22 b84_31 c96_32) (g_X12_cutAll_v63 u x1 x2 x4 uc hI h_n h_f h_k h_l h_z h_p c75_22 b84_31 c96_32) (Nat.lt_of_lt_of_le (g_X12_cutAll_v64 u x1 x2 x4 uc hI h_n h_f h_k h_l h_z h_p c75_22 b84_31 c96_32) (Nat.lt_succ_iff.mp hmu)) hU hS (lv_sub hl [2, 3, 0, 4, 5, 1] rfl)
            · refine lv_ldc2 (v := 37) hF.1 hF.2.1 hF.2.2.2.1 (hF.2.2.2.2 _ w_1584) dX12_cutAll_99 ?_
              refine lv_lload hF.1 hF.2.1 dX12_cutAll_102 (lv_at hl 5 rfl) ?_
              refine lv_lmul hF.1 hF.2.1 dX12_cutAll_104 ?_
              refine lv_aload_n hF.1 hF.2.1 dX12_cutAll_105 rfl (lv_at hl 0 rfl) ?_
              refine q_get (v := .ref (E.2.2 1201)) hF hU dX12_cutAll_106 0 12 1 1201 1299 rfl rfl rfl rfl inX12 (by decide) (by decide) w_1330 rfl rfl ?_
              refine lv_iload_n hF.1 hF.2.1 dX12_cutAll_109 rfl (lv_at hl 2 rfl) ?_
              refine q_iald (v := u.2.1 1201 (x2 : Int32).toNatClampNeg) hF hU dX12_cutAll_110 0 1201 rfl rfl (g_X12_cutAll_v65 u x1 x2 x4 uc hI h_n h_f h_k h_l h_z h_p c75_22 b84_31 c96_32) (congrFun (hfr.2.1 1201 (by decide)) _) ?_
              have hM9 := g_X12_rank l E A uc (u.2.1 1201 (x2 : Int32).toNatClampNeg)
              have hR9 := q_runS (l := l) (e := e0) (below := bl0) (meth := me0) (R := qR 2 0 0) (cells := 0) (slots := 0) (st0 := [.int (u.2.1 1201 (x2 : Int32).toNatClampNeg), .long (37 * x5)]) (rest := [.long (37 * x5)]) hF hU hS hA 1 hM9 w_1585 w_1586 w_107 w_1587 (by decide +kernel) ⟨Nat.le_of_ble_eq_true rfl, Nat.le_of_ble_eq_true rfl⟩ dX12_cutAll_111 rfl hl.1 rfl (Nat.le_of_ble_eq_true rfl) ⟨Nat.le_of_ble_eq_true rfl, Nat.le_of_ble_eq_true rfl⟩
              refine q_calli hR9 hU.2.2.2 hS (fun r_35 u_33 H locs hw_34 hU hS => ?_)
              obtain ⟨hw_34_e, hw_34⟩ := hw_34
              rw [hw_34_e] at hU
              refine lv_i2l (v := (r_35 : Int32).toInt64) hF.1 hF.2.1 dX12_cutAll_114 rfl ?_
              refine lv_ladd hF.1 hF.2.1 dX12_cutAll_115 ?_
              refine lv_goto (tgt := 121) hF.1 hF.2.1 dX12_cutAll_116 (by decide) ?_
              refine lv_lstore (lv' := [(5, .long ((37 * x5) + ((r_35 : Int32).toInt64))), (0, .ref (E.2.2 1299)), (1, .int x1), (2, .int x2), (3, .int x3), (4, .int x4)]) hF.1 hF.2.1 dX12_cutAll_121 hl (by decide) rfl (fun ls hl => ?_)
              refine lv_iinc (v := x2 + 1) (lv' := [(2, .int (x2 + 1)), (5, .long ((37 * x5) + ((r_35 : Int32).toInt64))), (0, .ref (E.2.2 1299)), (1, .int x1), (3, .int x3), (4, .int x4)]) hF.1 hF.2.1 dX12_cutAll_123 hl (k := 3) rfl rfl (by decide) rfl (fun ls hl => ?_)
              refine lv_goto (tgt := 70) hF.1 hF.2.1 dX12_cutAll_126 (by decide) ?_
              exact ih.2.1 x1 (x2 + 1) x3 x4 ((37 * x5) + ((r_35 : Int32).toInt64)) uc _ _ _ hfr (g_X12_cutAll_v66 u x1 x2 x4 uc hI h_n h_f h_k h_l h_z h_p c75_22 b84_31 c96_32) (g_X12_cutAll_v67 u x1 x2 x4 uc hI h_n h_f h_k h_l h_z h_p c75_22 b84_31 c96_32) (g_X12_cutAll_v68 u x1 x2 x4 uc hI h_n h_f h_k h_l h_z h_p c75_22 b84_31 c96_32) (g_X12_cutAll_v69 u x1 x2 x4 uc hI h_n h_f h_k h_l h_z h_p c75_22 b84_31 c96_32) (g_X12_cutAll_v70 u x1 x2 x4 uc hI h_n h_f h_k h_l h_z h_p c75_22 b84_31 c96_32) (g_X12_cutAll_v71 u x1 x2 x4 uc hI h_n h_f h_k h_l h_z h_p c75_22 b84_31 c96_32) (Nat.lt_of_lt_of_le (g_X12_cutAll_v72 u x1 x2 x4 uc hI h_n h_f h_k h_l h_z h_p c75_22 b84_31 c96_32) (Nat.lt_succ_iff.mp hmu)) hU hS (lv_sub hl [2, 3, 0, 4, 5, 1] rfl)
          · refine lv_if_eq (tgt := 129) hF.1 hF.2.1 dX12_cutAll_87 (by decide) (fun _ => ?_) (fun h9 => absurd (by decide) h9)
            refine lv_aload_n hF.1 hF.2.1 dX12_cutAll_129 rfl (lv_at hl 0 rfl) ?_
            refine q_get (v := .ref (E.2.2 1204)) hF hU dX12_cutAll_130 0 12 4 1204 1299 rfl rfl rfl rfl inX12 (by decide) (by decide) w_1333 rfl rfl ?_
            refine lv_iload_n hF.1 hF.2.1 dX12_cutAll_133 rfl (lv_at hl 1 rfl) ?_
            refine lv_iload_n hF.1 hF.2.1 dX12_cutAll_134 rfl (lv_at hl 2 rfl) ?_
            refine lv_iload hF.1 hF.2.1 dX12_cutAll_135 (lv_at hl 4 rfl) ?_
            refine lv_isub hF.1 hF.2.1 dX12_cutAll_137 ?_
            refine lv_bipush (v := 8) hF.1 hF.2.1 dX12_cutAll_138 (by decide) ?_
            refine lv_icmp_le (tgt := 147) hF.1 hF.2.1 dX12_cutAll_140 (by decide) (fun c140_36 => ?_) (fun c140_36 => ?_)
            · refine lv_iconst (v := 1) hF.1 hF.2.1 dX12_cutAll_147 (by decide) ?_
              refine q_iast hF hU hS dX12_cutAll_148 1 1204 rfl rfl (g_X12_cutAll_v73 u x1 x2 x4 uc hI h_n h_f h_k h_l h_z h_p c75_22 b84_31 c140_36) (fun f_37 H locs hg9 hU hS => ?_)
              have hf_37 : f_37 = upd (uc.2.1 1204) (x1 : Int32).toNatClampNeg 1 := hg9
              have hfr : qFr [1202, 1203, 1207, 1208] [1204, 1205] [1206] u (qsF uc 1204 f_37) := hfr.setF (by decide)
              refine lv_goto (tgt := 265) hF.1 hF.2.1 dX12_cutAll_149 (by decide) ?_
              refine lv_aload_n hF.1 hF.2.1 dX12_cutAll_265 rfl (lv_at hl 0 rfl) ?_
              refine q_get (v := .ref (E.2.2 1206)) hF hU dX12_cutAll_266 0 12 6 1206 1299 rfl rfl rfl rfl inX12 (by decide) (by decide) w_1335 rfl rfl ?_
              refine lv_iload_n hF.1 hF.2.1 dX12_cutAll_269 rfl (lv_at hl 1 rfl) ?_
              refine lv_lload hF.1 hF.2.1 dX12_cutAll_270 (lv_at hl 5 rfl) ?_
              refine q_last hF hU hS dX12_cutAll_272 3 1206 rfl rfl (g_X12_cutAll_v74 u x1 x2 x4 uc f_37 hI h_n h_f h_k h_l h_z h_p c75_22 b84_31 c140_36 hf_37) (fun f_38 H locs hg9 hU hS => ?_)
              have hf_38 : f_38 = vp_updL (uc.2.2.1 1206) (x1 : Int32).toNatClampNeg x5 := hg9
              have hfr : qFr [1202, 1203, 1207, 1208] [1204, 1205] [1206] u (qsG (qsF uc 1204 f_37) 1206 f_38) := hfr.setG (by decide)
              refine lv_iinc (v := x1 + 1) (lv' := [(1, .int (x1 + 1)), (0, .ref (E.2.2 1299)), (2, .int x2), (3, .int x3), (4, .int x4), (5, .long x5)]) hF.1 hF.2.1 dX12_cutAll_273 hl (k := 1) rfl rfl (by decide) rfl (fun ls hl => ?_)
              refine lv_goto (tgt := 17) hF.1 hF.2.1 dX12_cutAll_276 (by decide) ?_
              exact ih.1 (x1 + 1) x2 (qsG (qsF uc 1204 f_37) 1206 f_38) _ _ _ hfr (g_X12_cutAll_v75 u x1 x2 x4 x5 uc f_37 f_38 hI h_n h_f h_k h_l h_z h_p c75_22 b84_31 c140_36 hf_37 hf_38) (g_X12_cutAll_v76 u x1 x2 x4 x5 uc f_37 f_38 hI h_n h_f h_k h_l h_z h_p c75_22 b84_31 c140_36 hf_37 hf_38) (g_X12_cutAll_v77 u x1 x2 x4 x5 uc f_37 f_38 hI h_n h_f h_k h_l h_z h_p c75_22 b84_31 c140_36 hf_37 hf_38) (g_X12_cutAll_v78 u x1 x2 x4 x5 uc f_37 f_38 hI h_n h_f h_k h_l h_z h_p c75_22 b84_31 c140_36 hf_37 hf_38) (Nat.lt_of_lt_of_le (g_X12_cutAll_v79 u x1 x2 x4 x5 uc f_37 f_38 hI h_n h_f h_k h_l h_z h_p c75_22 b84_31 c140_36 hf_37 hf_38) (Nat.lt_succ_iff.mp hmu)) hU hS (lv_sub hl [1, 0, 2] rfl)
            · refine lv_iconst (v := 4) hF.1 hF.2.1 dX12_cutAll_143 (by decide) ?_
              refine lv_goto (tgt := 148) hF.1 hF.2.1 dX12_cutAll_144 (by decide) ?_
              refine q_iast hF hU hS dX12_cutAll_148 1 1204 rfl rfl (g_X12_cutAll_v80 u x1 x2 x4 uc hI h_n h_f h_k h_l h_z h_p c75_22 b84_31 c140_36) (fun f_39 H locs hg9 hU hS => ?_)
              have hf_39 : f_39 = upd (uc.2.1 1204) (x1 : Int32).toNatClampNeg 4 := hg9
              have hfr : qFr [1202, 1203, 1207, 1208] [1204, 1205] [1206] u (qsF uc 1204 f_39) := hfr.setF (by decide)
              refine lv_goto (tgt := 265) hF.1 hF.2.1 dX12_cutAll_149 (by decide) ?_
              refine lv_aload_n hF.1 hF.2.1 dX12_cutAll_265 rfl (lv_at hl 0 rfl) ?_
              refine q_get (v := .ref (E.2.2 1206)) hF hU dX12_cutAll_266 0 12 6 1206 1299 rfl rfl rfl rfl inX12 (by decide) (by decide) w_1335 rfl rfl ?_
              refine lv_iload_n hF.1 hF.2.1 dX12_cutAll_269 rfl (lv_at hl 1 rfl) ?_
              refine lv_lload hF.1 hF.2.1 dX12_cutAll_270 (lv_at hl 5 rfl) ?_
              refine q_last hF hU hS dX12_cutAll_272 3 1206 rfl rfl (g_X12_cutAll_v81 u x1 x2 x4 uc f_39 hI h_n h_f h_k h_l h_z h_p c75_22 b84_31 c140_36 hf_39) (fun f_40 H locs hg9 hU hS => ?_)
              have hf_40 : f_40 = vp_updL (uc.2.2.1 1206) (x1 : Int32).toNatClampNeg x5 := hg9
              have hfr : qFr [1202, 1203, 1207, 1208] [1204, 1205] [1206] u (qsG (qsF uc 1204 f_39) 1206 f_40) := hfr.setG (by decide)
              refine lv_iinc (v := x1 + 1) (lv' := [(1, .int (x1 + 1)), (0, .ref (E.2.2 1299)), (2, .int x2), (3, .int x3), (4, .int x4), (5, .long x5)]) hF.1 hF.2.1 dX12_cutAll_273 hl (k := 1) rfl rfl (by decide) rfl (fun ls hl => ?_)
              refine lv_goto (tgt := 17) hF.1 hF.2.1 dX12_cutAll_276 (by decide) ?_
              exact ih.1 (x1 + 1) x2 (qsG (qsF uc 1204 f_39) 1206 f_40) _ _ _ hfr (g_X12_cutAll_v82 u x1 x2 x4 x5 uc f_39 f_40 hI h_n h_f h_k h_l h_z h_p c75_22 b84_31 c140_36 hf_39 hf_40) (g_X12_cutAll_v83 u x1 x2 x4 x5 uc f_39 f_40 hI h_n h_f h_k h_l h_z h_p c75_22 b84_31 c140_36 hf_39 hf_40) (g_X12_cutAll_v84 u x1 x2 x4 x5 uc f_39 f_40 hI h_n h_f h_k h_l h_z h_p c75_22 b84_31 c140_36 hf_39 hf_40) (g_X12_cutAll_v85 u x1 x2 x4 x5 uc f_39 f_40 hI h_n h_f h_k h_l h_z h_p c75_22 b84_31 c140_36 hf_39 hf_40) (Nat.lt_of_lt_of_le (g_X12_cutAll_v86 u x1 x2 x4 x5 uc f_39 f_40 hI h_n h_f h_k h_l h_z h_p c75_22 b84_31 c140_36 hf_39 hf_40) (Nat.lt_succ_iff.mp hmu)) hU hS (lv_sub hl [1, 0, 2] rfl)
      · intro x1 x2 x3 x4 x5 uc H locs ls hfr h_n h_f h_k h_l h_z h_p hmu hU hS hl
        refine lv_iload_n hF.1 hF.2.1 dX12_cutAll_159 rfl (lv_at hl 2 rfl) ?_
        refine lv_aload_n hF.1 hF.2.1 dX12_cutAll_160 rfl (lv_at hl 0 rfl) ?_
        refine q_get (v := .int (uc.1 1203)) hF hU dX12_cutAll_161 0 12 3 1203 1299 rfl rfl rfl rfl inX12 (by decide) (by decide) w_1332 rfl rfl ?_
        refine lv_icmp_ge (tgt := 218) hF.1 hF.2.1 dX12_cutAll_164 (by decide) (fun c164_41 => ?_) (fun c164_41 => ?_)
        · refine lv_aload_n hF.1 hF.2.1 dX12_cutAll_218 rfl (lv_at hl 0 rfl) ?_
          refine q_get (v := .ref (E.2.2 1204)) hF hU dX12_cutAll_219 0 12 4 1204 1299 rfl rfl rfl rfl inX12 (by decide) (by decide) w_1333 rfl rfl ?_
          refine lv_iload_n hF.1 hF.2.1 dX12_cutAll_222 rfl (lv_at hl 1 rfl) ?_
          refine lv_iload_n hF.1 hF.2.1 dX12_cutAll_223 rfl (lv_at hl 2 rfl) ?_
          refine lv_iload hF.1 hF.2.1 dX12_cutAll_224 (lv_at hl 4 rfl) ?_
          refine lv_isub hF.1 hF.2.1 dX12_cutAll_226 ?_
          refine lv_iconst (v := 4) hF.1 hF.2.1 dX12_cutAll_227 (by decide) ?_
          refine lv_icmp_le (tgt := 235) hF.1 hF.2.1 dX12_cutAll_228 (by decide) (fun c228_42 => ?_) (fun c228_42 => ?_)
          · refine lv_iconst (v := 2) hF.1 hF.2.1 dX12_cutAll_235 (by decide) ?_
            refine q_iast hF hU hS dX12_cutAll_236 1 1204 rfl rfl (g_X12_cutAll_v87 u x1 x2 x4 uc hI h_n h_f h_k h_l h_z h_p c164_41 c228_42) (fun f_43 H locs hg9 hU hS => ?_)
            have hf_43 : f_43 = upd (uc.2.1 1204) (x1 : Int32).toNatClampNeg 2 := hg9
            have hfr : qFr [1202, 1203, 1207, 1208] [1204, 1205] [1206] u (qsF uc 1204 f_43) := hfr.setF (by decide)
            refine lv_goto (tgt := 265) hF.1 hF.2.1 dX12_cutAll_237 (by decide) ?_
            refine lv_aload_n hF.1 hF.2.1 dX12_cutAll_265 rfl (lv_at hl 0 rfl) ?_
            refine q_get (v := .ref (E.2.2 1206)) hF hU dX12_cutAll_266 0 12 6 1206 1299 rfl rfl rfl rfl inX12 (by decide) (by decide) w_1335 rfl rfl ?_
            refine lv_iload_n hF.1 hF.2.1 dX12_cutAll_269 rfl (lv_at hl 1 rfl) ?_
            refine lv_lload hF.1 hF.2.1 dX12_cutAll_270 (lv_at hl 5 rfl) ?_
            refine q_last hF hU hS dX12_cutAll_272 3 1206 rfl rfl (g_X12_cutAll_v88 u x1 x2 x4 uc f_43 hI h_n h_f h_k h_l h_z h_p c164_41 c228_42 hf_43) (fun f_44 H locs hg9 hU hS => ?_)
            have hf_44 : f_44 = vp_updL (uc.2.2.1 1206) (x1 : Int32).toNatClampNeg x5 := hg9
            have hfr : qFr [1202, 1203, 1207, 1208] [1204, 1205] [1206] u (qsG (qsF uc 1204 f_43) 1206 f_44) := hfr.setG (by decide)
            refine lv_iinc (v := x1 + 1) (lv' := [(1, .int (x1 + 1)), (0, .ref (E.2.2 1299)), (2, .int x2), (3, .int x3), (4, .int x4), (5, .long x5)]) hF.1 hF.2.1 dX12_cutAll_273 hl (k := 1) rfl rfl (by decide) rfl (fun ls hl => ?_)
            refine lv_goto (tgt := 17) hF.1 hF.2.1 dX12_cutAll_276 (by decide) ?_
            exact ih.1 (x1 + 1) x2 (qsG (qsF uc 1204 f_43) 1206 f_44) _ _ _ hfr (g_X12_cutAll_v89 u x1 x2 x4 x5 uc f_43 f_44 hI h_n h_f h_k h_l h_z h_p c164_41 c228_42 hf_43 hf_44) (g_X12_cutAll_v90 u x1 x2 x4 x5 uc f_43 f_44 hI h_n h_f h_k h_l h_z h_p c164_41 c228_42 hf_43 hf_44) (g_X12_cutAll_v91 u x1 x2 x4 x5 uc f_43 f_44 hI h_n h_f h_k h_l h_z h_p c164_41 c228_42 hf_43 hf_44) (g_X12_cutAll_v92 u x1 x2 x4 x5 uc f_43 f_44 hI h_n h_f h_k h_l h_z h_p c164_41 c228_42 hf_43 hf_44) (Nat.lt_of_lt_of_le (g_X12_cutAll_v93 u x1 x2 x4 x5 uc f_43 f_44 hI h_n h_f h_k h_l h_z h_p c164_41 c228_42 hf_43 hf_44) (Nat.lt_succ_iff.mp hmu)) hU hS (lv_sub hl [1, 0, 2] rfl)
          · refine lv_iconst (v := 4) hF.1 hF.2.1 dX12_cutAll_231 (by decide) ?_
            refine lv_goto (tgt := 236) hF.1 hF.2.1 dX12_cutAll_232 (by decide) ?_
            refine q_iast hF hU hS dX12_cutAll_236 1 1204 rfl rfl (g_X12_cutAll_v94 u x1 x2 x4 uc hI h_n h_f h_k h_l h_z h_p c164_41 c228_42) (fun f_45 H locs hg9 hU hS => ?_)
            have hf_45 : f_45 = upd (uc.2.1 1204) (x1 : Int32).toNatClampNeg 4 := hg9
            have hfr : qFr [1202, 1203, 1207, 1208] [1204, 1205] [1206] u (qsF uc 1204 f_45) := hfr.setF (by decide)
            refine lv_goto (tgt := 265) hF.1 hF.2.1 dX12_cutAll_237 (by decide) ?_
            refine lv_aload_n hF.1 hF.2.1 dX12_cutAll_265 rfl (lv_at hl 0 rfl) ?_
            refine q_get (v := .ref (E.2.2 1206)) hF hU dX12_cutAll_266 0 12 6 1206 1299 rfl rfl rfl rfl inX12 (by decide) (by decide) w_1335 rfl rfl ?_
            refine lv_iload_n hF.1 hF.2.1 dX12_cutAll_269 rfl (lv_at hl 1 rfl) ?_
            refine lv_lload hF.1 hF.2.1 dX12_cutAll_270 (lv_at hl 5 rfl) ?_
            refine q_last hF hU hS dX12_cutAll_272 3 1206 rfl rfl (g_X12_cutAll_v95 u x1 x2 x4 uc f_45 hI h_n h_f h_k h_l h_z h_p c164_41 c228_42 hf_45) (fun f_46 H locs hg9 hU hS => ?_)
            have hf_46 : f_46 = vp_updL (uc.2.2.1 1206) (x1 : Int32).toNatClampNeg x5 := hg9
            have hfr : qFr [1202, 1203, 1207, 1208] [1204, 1205] [1206] u (qsG (qsF uc 1204 f_45) 1206 f_46) := hfr.setG (by decide)
            refine lv_iinc (v := x1 + 1) (lv' := [(1, .int (x1 + 1)), (0, .ref (E.2.2 1299)), (2, .int x2), (3, .int x3), (4, .int x4), (5, .long x5)]) hF.1 hF.2.1 dX12_cutAll_273 hl (k := 1) rfl rfl (by decide) rfl (fun ls hl => ?_)
            refine lv_goto (tgt := 17) hF.1 hF.2.1 dX12_cutAll_276 (by decide) ?_
            exact ih.1 (x1 + 1) x2 (qsG (qsF uc 1204 f_45) 1206 f_46) _ _ _ hfr (g_X12_cutAll_v96 u x1 x2 x4 x5 uc f_45 f_46 hI h_n h_f h_k h_l h_z h_p c164_41 c228_42 hf_45 hf_46) (g_X12_cutAll_v97 u x1 x2 x4 x5 uc f_45 f_46 hI h_n h_f h_k h_l h_z h_p c164_41 c228_42 hf_45 hf_46) (g_X12_cutAll_v98 u x1 x2 x4 x5 uc f_45 f_46 hI h_n h_f h_k h_l h_z h_p c164_41 c228_42 hf_45 hf_46) (g_X12_cutAll_v99 u x1 x2 x4 x5 uc f_45 f_46 hI h_n h_f h_k h_l h_z h_p c164_41 c228_42 hf_45 hf_46) (Nat.lt_of_lt_of_le (g_X12_cutAll_v100 u x1 x2 x4 x5 uc f_45 f_46 hI h_n h_f h_k h_l h_z h_p c164_41 c228_42 hf_45 hf_46) (Nat.lt_succ_iff.mp hmu)) hU hS (lv_sub hl [1, 0, 2] rfl)
        · refine lv_aload_n hF.1 hF.2.1 dX12_cutAll_167 rfl (lv_at hl 0 rfl) ?_
          refine q_get (v := .ref (E.2.2 1201)) hF hU dX12_cutAll_168 0 12 1 1201 1299 rfl rfl rfl rfl inX12 (by decide) (by decide) w_1330 rfl rfl ?_
          refine lv_iload_n hF.1 hF.2.1 dX12_cutAll_171 rfl (lv_at hl 2 rfl) ?_
          refine q_iald (v := u.2.1 1201 (x2 : Int32).toNatClampNeg) hF hU dX12_cutAll_172 0 1201 rfl rfl (g_X12_cutAll_v101 u x1 x2 x4 uc hI h_n h_f h_k h_l h_z h_p c164_41) (congrFun (hfr.2.1 1201 (by decide)) _) ?_
          have hM9 := g_X12_isDigit_n l E A uc (u.2.1 1201 (x2 : Int32).toNatClampNeg)
          have hR9 := q_runS (l := l) (e := e0) (below := bl0) (meth := me0) (R := qR 2 0 0) (cells := 0) (slots := 0) (st0 := [.int (u.2.1 1201 (x2 : Int32).toNatClampNeg)]) (rest := []) hF hU hS hA 1 hM9 w_1588 w_1589 w_107 w_1590 (by decide +kernel) ⟨Nat.le_of_ble_eq_true rfl, Nat.le_of_ble_eq_true rfl⟩ dX12_cutAll_173 rfl hl.1 rfl (Nat.le_of_ble_eq_true rfl) ⟨Nat.le_of_ble_eq_true rfl, Nat.le_of_ble_eq_true rfl⟩
          refine q_calli hR9 hU.2.2.2 hS (fun r_49 u_47 H locs hw_48 hU hS => ?_)
          obtain ⟨hw_48_e, hw_48⟩ := hw_48
          rw [hw_48_e] at hU
          have hw_48 : (r_49 = 1 ∧ (48 ≤ ((u.2.1 1201) (x2 : Int32).toNatClampNeg) ∧ ((u.2.1 1201) (x2 : Int32).toNatClampNeg) ≤ 57)) ∨ (r_49 = 0 ∧ ¬ (48 ≤ ((u.2.1 1201) (x2 : Int32).toNatClampNeg) ∧ ((u.2.1 1201) (x2 : Int32).toNatClampNeg) ≤ 57)) := hw_48
          rcases hw_48 with ⟨rfl, b173_50⟩ | ⟨rfl, b173_50⟩
          · refine lv_if_eq (tgt := 218) hF.1 hF.2.1 dX12_cutAll_176 (by decide) (fun h9 => absurd h9 (by decide)) (fun _ => ?_)
            refine lv_iload_n hF.1 hF.2.1 dX12_cutAll_179 rfl (lv_at hl 2 rfl) ?_
            refine lv_iload hF.1 hF.2.1 dX12_cutAll_180 (lv_at hl 4 rfl) ?_
            refine lv_isub hF.1 hF.2.1 dX12_cutAll_182 ?_
            refine lv_iconst (v := 4) hF.1 hF.2.1 dX12_cutAll_183 (by decide) ?_
            refine lv_icmp_ge (tgt := 208) hF.1 hF.2.1 dX12_cutAll_184 (by decide) (fun c184_51 => ?_) (fun c184_51 => ?_)
            · refine lv_lload hF.1 hF.2.1 dX12_cutAll_208 (lv_at hl 5 rfl) ?_
              refine lv_lstore (lv' := [(5, .long x5), (0, .ref (E.2.2 1299)), (1, .int x1), (2, .int x2), (3, .int x3), (4, .int x4)]) hF.1 hF.2.1 dX12_cutAll_210 hl (by decide) rfl (fun ls hl => ?_)
              refine lv_iinc (v := x2 + 1) (lv' := [(2, .int (x2 + 1)), (5, .long x5), (0, .ref (E.2.2 1299)), (1, .int x1), (3, .int x3), (4, .int x4)]) hF.1 hF.2.1 dX12_cutAll_212 hl (k := 3) rfl rfl (by decide) rfl (fun ls hl => ?_)
              refine lv_goto (tgt := 159) hF.1 hF.2.1 dX12_cutAll_215 (by decide) ?_
              exact ih.2.2 x1 (x2 + 1) x3 x4 x5 uc _ _ _ hfr (g_X12_cutAll_v102 u x1 x2 x4 uc hI h_n h_f h_k h_l h_z h_p c164_41 b173_50 c184_51) (g_X12_cutAll_v103 u x1 x2 x4 uc hI h_n h_f h_k h_l h_z h_p c164_41 b173_50 c184_51) (g_X12_cutAll_v104 u x1 x2 x4 uc hI h_n h_f h_k h_l h_z h_p c164_41 b173_50 c184_51) (g_X12_cutAll_v105 u x1 x2 x4 uc hI h_n h_f h_k h_l h_z h_p c164_41 b173_50 c184_51) (g_X12_cutAll_v106 u x1 x2 x4 uc hI h_n h_f h_k h_l h_z h_p c164_41 b173_50 c184_51) (g_X12_cutAll_v107 u x1 x2 x4 uc hI h_n h_f h_k h_l h_z h_p c164_41 b173_50 c184_51) (Nat.lt_of_lt_of_le (g_X12_cutAll_v108 u x1 x2 x4 uc hI h_n h_f h_k h_l h_z h_p c164_41 b173_50 c184_51) (Nat.lt_succ_iff.mp hmu)) hU hS (lv_sub hl [2, 3, 0, 4, 5, 1] rfl)
            · refine lv_ldc2 (v := 10) hF.1 hF.2.1 hF.2.2.2.1 (hF.2.2.2.2 _ w_1591) dX12_cutAll_187 ?_
              refine lv_lload hF.1 hF.2.1 dX12_cutAll_190 (lv_at hl 5 rfl) ?_
              refine lv_lmul hF.1 hF.2.1 dX12_cutAll_192 ?_
              refine lv_aload_n hF.1 hF.2.1 dX12_cutAll_193 rfl (lv_at hl 0 rfl) ?_
              refine q_get (v := .ref (E.2.2 1201)) hF hU dX12_cutAll_194 0 12 1 1201 1299 rfl rfl rfl rfl inX12 (by decide) (by decide) w_1330 rfl rfl ?_
              refine lv_iload_n hF.1 hF.2.1 dX12_cutAll_197 rfl (lv_at hl 2 rfl) ?_
              refine q_iald (v := u.2.1 1201 (x2 : Int32).toNatClampNeg) hF hU dX12_cutAll_198 0 1201 rfl rfl (g_X12_cutAll_v109 u x1 x2 x4 uc hI h_n h_f h_k h_l h_z h_p c164_41 b173_50 c184_51) (congrFun (hfr.2.1 1201 (by decide)) _) ?_
              refine lv_i2l (v := (u.2.1 1201 (x2 : Int32).toNatClampNeg : Int32).toInt64) hF.1 hF.2.1 dX12_cutAll_199 rfl ?_
              refine lv_ladd hF.1 hF.2.1 dX12_cutAll_200 ?_
              refine lv_ldc2 (v := 48) hF.1 hF.2.1 hF.2.2.2.1 (hF.2.2.2.2 _ w_1592) dX12_cutAll_201 ?_
              refine lv_lsub hF.1 hF.2.1 dX12_cutAll_204 ?_
              refine lv_goto (tgt := 210) hF.1 hF.2.1 dX12_cutAll_205 (by decide) ?_
              refine lv_lstore (lv' := [(5, .long (((10 * x5) + ((u.2.1 1201 (x2 : Int32).toNatClampNeg : Int32).toInt64)) - 48)), (0, .ref (E.2.2 1299)), (1, .int x1), (2, .int x2), (3, .int x3), (4, .int x4)]) hF.1 hF.2.1 dX12_cutAll_210 hl (by decide) rfl (fun ls hl => ?_)
              refine lv_iinc (v := x2 + 1) (lv' := [(2, .int (x2 + 1)), (5, .long (((10 * x5) + ((u.2.1 1201 (x2 : Int32).toNatClampNeg : Int32).toInt64)) - 48)), (0, .ref (E.2.2 1299)), (1, .int x1), (3, .int x3), (4, .int x4)]) hF.1 hF.2.1 dX12_cutAll_212 hl (k := 3) rfl rfl (by decide) rfl (fun ls hl => ?_)
              refine lv_goto (tgt := 159) hF.1 hF.2.1 dX12_cutAll_215 (by decide) ?_
              exact ih.2.2 x1 (x2 + 1) x3 x4 (((10 * x5) + ((u.2.1 1201 (x2 : Int32).toNatClampNeg : Int32).toInt64)) - 48) uc _ _ _ hfr (g_X12_cutAll_v110 u x1 x2 x4 uc hI h_n h_f h_k h_l h_z h_p c164_41 b173_50 c184_51) (g_X12_cutAll_v111 u x1 x2 x4 uc hI h_n h_f h_k h_l h_z h_p c164_41 b173_50 c184_51) (g_X12_cutAll_v112 u x1 x2 x4 uc hI h_n h_f h_k h_l h_z h_p c164_41 b173_50 c184_51) (g_X12_cutAll_v113 u x1 x2 x4 uc hI h_n h_f h_k h_l h_z h_p c164_41 b173_50 c184_51) (g_X12_cutAll_v114 u x1 x2 x4 uc hI h_n h_f h_k h_l h_z h_p c164_41 b173_50 c184_51) (g_X12_cutAll_v115 u x1 x2 x4 uc hI h_n h_f h_k h_l h_z h_p c164_41 b173_50 c184_51) (Nat.lt_of_lt_of_le (g_X12_cutAll_v116 u x1 x2 x4 uc hI h_n h_f h_k h_l h_z h_p c164_41 b173_50 c184_51) (Nat.lt_succ_iff.mp hmu)) hU hS (lv_sub hl [2, 3, 0, 4, 5, 1] rfl)
          · refine lv_if_eq (tgt := 218) hF.1 hF.2.1 dX12_cutAll_176 (by decide) (fun _ => ?_) (fun h9 => absurd (by decide) h9)
            refine lv_aload_n hF.1 hF.2.1 dX12_cutAll_218 rfl (lv_at hl 0 rfl) ?_
            refine q_get (v := .ref (E.2.2 1204)) hF hU dX12_cutAll_219 0 12 4 1204 1299 rfl rfl rfl rfl inX12 (by decide) (by decide) w_1333 rfl rfl ?_
            refine lv_iload_n hF.1 hF.2.1 dX12_cutAll_222 rfl (lv_at hl 1 rfl) ?_
            refine lv_iload_n hF.1 hF.2.1 dX12_cutAll_223 rfl (lv_at hl 2 rfl) ?_
            refine lv_iload hF.1 hF.2.1 dX12_cutAll_224 (lv_at hl 4 rfl) ?_
            refine lv_isub hF.1 hF.2.1 dX12_cutAll_226 ?_
            refine lv_iconst (v := 4) hF.1 hF.2.1 dX12_cutAll_227 (by decide) ?_
            refine lv_icmp_le (tgt := 235) hF.1 hF.2.1 dX12_cutAll_228 (by decide) (fun c228_52 => ?_) (fun c228_52 => ?_)
            · refine lv_iconst (v := 2) hF.1 hF.2.1 dX12_cutAll_235 (by decide) ?_
              refine q_iast hF hU hS dX12_cutAll_236 1 1204 rfl rfl (g_X12_cutAll_v117 u x1 x2 x4 uc hI h_n h_f h_k h_l h_z h_p c164_41 b173_50 c228_52) (fun f_53 H locs hg9 hU hS => ?_)
              have hf_53 : f_53 = upd (uc.2.1 1204) (x1 : Int32).toNatClampNeg 2 := hg9
              have hfr : qFr [1202, 1203, 1207, 1208] [1204, 1205] [1206] u (qsF uc 1204 f_53) := hfr.setF (by decide)
              refine lv_goto (tgt := 265) hF.1 hF.2.1 dX12_cutAll_237 (by decide) ?_
              refine lv_aload_n hF.1 hF.2.1 dX12_cutAll_265 rfl (lv_at hl 0 rfl) ?_
              refine q_get (v := .ref (E.2.2 1206)) hF hU dX12_cutAll_266 0 12 6 1206 1299 rfl rfl rfl rfl inX12 (by decide) (by decide) w_1335 rfl rfl ?_
              refine lv_iload_n hF.1 hF.2.1 dX12_cutAll_269 rfl (lv_at hl 1 rfl) ?_
              refine lv_lload hF.1 hF.2.1 dX12_cutAll_270 (lv_at hl 5 rfl) ?_
              refine q_last hF hU hS dX12_cutAll_272 3 1206 rfl rfl (g_X12_cutAll_v118 u x1 x2 x4 uc f_53 hI h_n h_f h_k h_l h_z h_p c164_41 b173_50 c228_52 hf_53) (fun f_54 H locs hg9 hU hS => ?_)
              have hf_54 : f_54 = vp_updL (uc.2.2.1 1206) (x1 : Int32).toNatClampNeg x5 := hg9
              have hfr : qFr [1202, 1203, 1207, 1208] [1204, 1205] [1206] u (qsG (qsF uc 1204 f_53) 1206 f_54) := hfr.setG (by decide)
              refine lv_iinc (v := x1 + 1) (lv' := [(1, .int (x1 + 1)), (0, .ref (E.2.2 1299)), (2, .int x2), (3, .int x3), (4, .int x4), (5, .long x5)]) hF.1 hF.2.1 dX12_cutAll_273 hl (k := 1) rfl rfl (by decide) rfl (fun ls hl => ?_)
              refine lv_goto (tgt := 17) hF.1 hF.2.1 dX12_cutAll_276 (by decide) ?_
              exact ih.1 (x1 + 1) x2 (qsG (qsF uc 1204 f_53) 1206 f_54) _ _ _ hfr (g_X12_cutAll_v119 u x1 x2 x4 x5 uc f_53 f_54 hI h_n h_f h_k h_l h_z h_p c164_41 b173_50 c228_52 hf_53 hf_54) (g_X12_cutAll_v120 u x1 x2 x4 x5 uc f_53 f_54 hI h_n h_f h_k h_l h_z h_p c164_41 b173_50 c228_52 hf_53 hf_54) (g_X12_cutAll_v121 u x1 x2 x4 x5 uc f_53 f_54 hI h_n h_f h_k h_l h_z h_p c164_41 b173_50 c228_52 hf_53 hf_54) (g_X12_cutAll_v122 u x1 x2 x4 x5 uc f_53 f_54 hI h_n h_f h_k h_l h_z h_p c164_41 b173_50 c228_52 hf_53 hf_54) (Nat.lt_of_lt_of_le (g_X12_cutAll_v123 u x1 x2 x4 x5 uc f_53 f_54 hI h_n h_f h_k h_l h_z h_p c164_41 b173_50 c228_52 hf_53 hf_54) (Nat.lt_succ_iff.mp hmu)) hU hS (lv_sub hl [1, 0, 2] rfl)
            · refine lv_iconst (v := 4) hF.1 hF.2.1 dX12_cutAll_231 (by decide) ?_
              refine lv_goto (tgt := 236) hF.1 hF.2.1 dX12_cutAll_232 (by decide) ?_
              refine q_iast hF hU hS dX12_cutAll_236 1 1204 rfl rfl (g_X12_cutAll_v124 u x1 x2 x4 uc hI h_n h_f h_k h_l h_z h_p c164_41 b173_50 c228_52) (fun f_55 H locs hg9 hU hS => ?_)
              have hf_55 : f_55 = upd (uc.2.1 1204) (x1 : Int32).toNatClampNeg 4 := hg9
              have hfr : qFr [1202, 1203, 1207, 1208] [1204, 1205] [1206] u (qsF uc 1204 f_55) := hfr.setF (by decide)
              refine lv_goto (tgt := 265) hF.1 hF.2.1 dX12_cutAll_237 (by decide) ?_
              refine lv_aload_n hF.1 hF.2.1 dX12_cutAll_265 rfl (lv_at hl 0 rfl) ?_
              refine q_get (v := .ref (E.2.2 1206)) hF hU dX12_cutAll_266 0 12 6 1206 1299 rfl rfl rfl rfl inX12 (by decide) (by decide) w_1335 rfl rfl ?_
              refine lv_iload_n hF.1 hF.2.1 dX12_cutAll_269 rfl (lv_at hl 1 rfl) ?_
              refine lv_lload hF.1 hF.2.1 dX12_cutAll_270 (lv_at hl 5 rfl) ?_
              refine q_last hF hU hS dX12_cutAll_272 3 1206 rfl rfl (g_X12_cutAll_v125 u x1 x2 x4 uc f_55 hI h_n h_f h_k h_l h_z h_p c164_41 b173_50 c228_52 hf_55) (fun f_56 H locs hg9 hU hS => ?_)
              have hf_56 : f_56 = vp_updL (uc.2.2.1 1206) (x1 : Int32).toNatClampNeg x5 := hg9
              have hfr : qFr [1202, 1203, 1207, 1208] [1204, 1205] [1206] u (qsG (qsF uc 1204 f_55) 1206 f_56) := hfr.setG (by decide)
              refine lv_iinc (v := x1 + 1) (lv' := [(1, .int (x1 + 1)), (0, .ref (E.2.2 1299)), (2, .int x2), (3, .int x3), (4, .int x4), (5, .long x5)]) hF.1 hF.2.1 dX12_cutAll_273 hl (k := 1) rfl rfl (by decide) rfl (fun ls hl => ?_)
              refine lv_goto (tgt := 17) hF.1 hF.2.1 dX12_cutAll_276 (by decide) ?_
              exact ih.1 (x1 + 1) x2 (qsG (qsF uc 1204 f_55) 1206 f_56) _ _ _ hfr (g_X12_cutAll_v126 u x1 x2 x4 x5 uc f_55 f_56 hI h_n h_f h_k h_l h_z h_p c164_41 b173_50 c228_52 hf_55 hf_56) (g_X12_cutAll_v127 u x1 x2 x4 x5 uc f_55 f_56 hI h_n h_f h_k h_l h_z h_p c164_41 b173_50 c228_52 hf_55 hf_56) (g_X12_cutAll_v128 u x1 x2 x4 x5 uc f_55 f_56 hI h_n h_f h_k h_l h_z h_p c164_41 b173_50 c228_52 hf_55 hf_56) (g_X12_cutAll_v129 u x1 x2 x4 x5 uc f_55 f_56 hI h_n h_f h_k h_l h_z h_p c164_41 b173_50 c228_52 hf_55 hf_56) (Nat.lt_of_lt_of_le (g_X12_cutAll_v130 u x1 x2 x4 x5 uc f_55 f_56 hI h_n h_f h_k h_l h_z h_p c164_41 b173_50 c228_52 hf_55 hf_56) (Nat.lt_succ_iff.mp hmu)) hU hS (lv_sub hl [1, 0, 2] rfl)
  refine lv_aload_n hF.1 hF.2.1 dX12_cutAll_0 rfl (lv_at hl 0 rfl) ?_
  refine lv_aload_n hF.1 hF.2.1 dX12_cutAll_1 rfl (lv_at hl 0 rfl) ?_
  refine q_get (v := .int (u.1 1202)) hF hU dX12_cutAll_2 0 12 2 1202 1299 rfl rfl rfl rfl inX12 (by decide) (by decide) w_1331 rfl rfl ?_
  have hs_57 : 0 ≤ u.1 1202 ∧ u.1 1202 ≤ 1000 := hI.1.s1202
  refine q_put hF hU hS dX12_cutAll_5 0 12 3 1203 1299 rfl rfl rfl rfl inX12 tyX12 tyX12_ok nmX12 (by decide) (by decide) rfl w_1332 rfl rfl rfl rfl (fun H locs hU hS => ?_)
  have hfr : qFr [1202, 1203, 1207, 1208] [1204, 1205] [1206] u (qsI u 1203 (u.1 1202)) := hfr.setI (by decide)
  refine lv_aload_n hF.1 hF.2.1 dX12_cutAll_8 rfl (lv_at hl 0 rfl) ?_
  refine lv_iconst (v := 0) hF.1 hF.2.1 dX12_cutAll_9 (by decide) ?_
  refine q_put hF hU hS dX12_cutAll_10 0 12 2 1202 1299 rfl rfl rfl rfl inX12 tyX12 tyX12_ok nmX12 (by decide) (by decide) rfl w_1331 rfl rfl rfl rfl (fun H locs hU hS => ?_)
  have hfr : qFr [1202, 1203, 1207, 1208] [1204, 1205] [1206] u (qsI (qsI u 1203 (u.1 1202)) 1202 0) := hfr.setI (by decide)
  refine lv_iconst (v := 0) hF.1 hF.2.1 dX12_cutAll_13 (by decide) ?_
  refine lv_istore_n (lv' := [(1, .int 0), (0, .ref (E.2.2 1299))]) hF.1 hF.2.1 dX12_cutAll_14 rfl hl (by decide) rfl (fun ls hl => ?_)
  refine lv_iconst (v := 0) hF.1 hF.2.1 dX12_cutAll_15 (by decide) ?_
  refine lv_istore_n (lv' := [(2, .int 0), (1, .int 0), (0, .ref (E.2.2 1299))]) hF.1 hF.2.1 dX12_cutAll_16 rfl hl (by decide) rfl (fun ls hl => ?_)
  exact (main _).1 (0 : Int32) (0 : Int32) (qsI (qsI u 1203 (u.1 1202)) 1202 0) _ _ _ hfr (g_X12_cutAll_v131 u hI hs_57) (g_X12_cutAll_v132 u hI hs_57) (g_X12_cutAll_v133 u hI hs_57) (g_X12_cutAll_v134 u hI hs_57) (Nat.lt_succ_self _) hU hS (lv_sub hl [2, 1, 0] rfl)
set_option maxRecDepth 100000 in
theorem g_X12_wrong_v0 (u : qS) (x : Int32) (N : Int) (hT : g_tk (u.2.1 1204) (u.2.1 1205) N) (ha : 0 ≤ (u.1 1207).toInt ∧ (u.1 1207).toInt ≤ N) (hf : 0 ≤ (u.1 1208).toInt) (hx : 1 ≤ (x : Int32) ∧ (x : Int32) ≤ 5) (c4_1 : ¬ (u.1 1208 : Int32) = 0) : 1 ≤ ((u.1 1208 : Int32)).toInt := by
  have q := hT.pl ha.1 ha.2
  first | ((try simp only [g_m1, Int32.lt_iff_toInt_lt, Int32.le_iff_toInt_le, ← Int32.toInt_inj, Int32.reduceToInt] at *); omega; done) | ((try simp only [g_m1, Int32.lt_iff_toInt_lt, Int32.le_iff_toInt_le, ← Int32.toInt_inj, Int32.toInt_add, Int32.toInt_sub, Int32.toInt_mul, Int32.toInt_neg, Int32.reduceToInt, g_bm, g_bm'] at *); omega)
set_option maxRecDepth 100000 in
theorem g_X12_wrong_v1 (u : qS) (x : Int32) (N : Int) (hT : g_tk (u.2.1 1204) (u.2.1 1205) N) (ha : 0 ≤ (u.1 1207).toInt ∧ (u.1 1207).toInt ≤ N) (hf : 0 ≤ (u.1 1208).toInt) (hx : 1 ≤ (x : Int32) ∧ (x : Int32) ≤ 5) (c4_1 : (u.1 1208 : Int32) = 0) : vp_in (u.1 1207) 1002 := by
  have q := hT.N
  refine g_in ?_ ?_ <;> ((try simp only [g_m1, Int32.lt_iff_toInt_lt, Int32.le_iff_toInt_le, ← Int32.toInt_inj, Int32.reduceToInt] at *); omega)
set_option maxRecDepth 100000 in
theorem g_X12_wrong_v2 (u : qS) (x : Int32) (N : Int) (hT : g_tk (u.2.1 1204) (u.2.1 1205) N) (ha : 0 ≤ (u.1 1207).toInt ∧ (u.1 1207).toInt ≤ N) (hf : 0 ≤ (u.1 1208).toInt) (hx : 1 ≤ (x : Int32) ∧ (x : Int32) ≤ 5) (c4_1 : (u.1 1208 : Int32) = 0) : 1 ≤ ((x + (16 * (u.2.1 1205 (u.1 1207 : Int32).toNatClampNeg)) : Int32)).toInt := by
  have q := hT.pl ha.1 ha.2
  first | ((try simp only [g_m1, Int32.lt_iff_toInt_lt, Int32.le_iff_toInt_le, ← Int32.toInt_inj, Int32.reduceToInt] at *); omega; done) | ((try simp only [g_m1, Int32.lt_iff_toInt_lt, Int32.le_iff_toInt_le, ← Int32.toInt_inj, Int32.toInt_add, Int32.toInt_sub, Int32.toInt_mul, Int32.toInt_neg, Int32.reduceToInt, g_bm, g_bm'] at *); omega)
set_option maxHeartbeats 1000000 in
set_option maxRecDepth 100000 in
theorem g_X12_wrong (l : Launch) (E : qE) (A : Nat → Prop) (u : qS) (x : Int32) (N : Int) (hT : g_tk (u.2.1 1204) (u.2.1 1205) N) (ha : 0 ≤ (u.1 1207).toInt ∧ (u.1 1207).toInt ≤ N) (hf : 0 ≤ (u.1 1208).toInt) (hx : 1 ≤ (x : Int32) ∧ (x : Int32) ≤ 5) : Met l yX12_wrong (uws yX12_wrong cX12_wrong 2 none) (qR 0 0 0) (qPc E A 1 u [.ref (E.2.2 1299), .int x]) (qQv E A 1 (fun u1 => qFr [1208] [] [] u u1 ∧ (1 ≤ (u1.1 1208).toInt))) 0 0 A := by
  refine q_met (own := RX12) (f := 0) [.ref (E.2.2 1299), .int x] (by decide) (Nat.le_of_ble_eq_true rfl) rfl ?_
  intro p0 e0 s0 m0 bl0 me0 cd0 ls hF hr hlocks hU hS hA hl
  have hl : lv_has ls 2 [(0, .ref (E.2.2 1299)), (1, .int x)] := hl
  have hfr : qFr [1208] [] [] u u := qFr.rf
  refine lv_aload_n hF.1 hF.2.1 dX12_wrong_0 rfl (lv_at hl 0 rfl) ?_
  refine q_get (v := .int (u.1 1208)) hF hU dX12_wrong_1 0 12 8 1208 1299 rfl rfl rfl rfl inX12 (by decide) (by decide) w_1337 rfl rfl ?_
  refine lv_if_ne (tgt := 25) hF.1 hF.2.1 dX12_wrong_4 (by decide) (fun c4_1 => ?_) (fun c4_1 => ?_)
  · exact q_vret hF hr hlocks hU hS dX12_wrong_25 ⟨hfr, (g_X12_wrong_v0 u x N hT ha hf hx c4_1)⟩
  · refine lv_aload_n hF.1 hF.2.1 dX12_wrong_7 rfl (lv_at hl 0 rfl) ?_
    refine lv_iload_n hF.1 hF.2.1 dX12_wrong_8 rfl (lv_at hl 1 rfl) ?_
    refine lv_bipush (v := 16) hF.1 hF.2.1 dX12_wrong_9 (by decide) ?_
    refine lv_aload_n hF.1 hF.2.1 dX12_wrong_11 rfl (lv_at hl 0 rfl) ?_
    refine q_get (v := .ref (E.2.2 1205)) hF hU dX12_wrong_12 0 12 5 1205 1299 rfl rfl rfl rfl inX12 (by decide) (by decide) w_1334 rfl rfl ?_
    refine lv_aload_n hF.1 hF.2.1 dX12_wrong_15 rfl (lv_at hl 0 rfl) ?_
    refine q_get (v := .int (u.1 1207)) hF hU dX12_wrong_16 0 12 7 1207 1299 rfl rfl rfl rfl inX12 (by decide) (by decide) w_1336 rfl rfl ?_
    refine q_iald (v := u.2.1 1205 (u.1 1207 : Int32).toNatClampNeg) hF hU dX12_wrong_19 2 1205 rfl rfl (g_X12_wrong_v1 u x N hT ha hf hx c4_1) rfl ?_
    refine lv_imul hF.1 hF.2.1 dX12_wrong_20 ?_
    refine lv_iadd hF.1 hF.2.1 dX12_wrong_21 ?_
    refine q_put hF hU hS dX12_wrong_22 0 12 8 1208 1299 rfl rfl rfl rfl inX12 tyX12 tyX12_ok nmX12 (by decide) (by decide) rfl w_1337 rfl rfl rfl rfl (fun H locs hU hS => ?_)
    have hfr : qFr [1208] [] [] u (qsI u 1208 (x + (16 * (u.2.1 1205 (u.1 1207 : Int32).toNatClampNeg)))) := hfr.setI (by decide)
    exact q_vret hF hr hlocks hU hS dX12_wrong_25 ⟨hfr, (g_X12_wrong_v2 u x N hT ha hf hx c4_1)⟩
set_option maxRecDepth 100000 in
theorem g_X12_isSign_v0 (u : qS) (x : Int32) (N : Int) (hT : g_tk (u.2.1 1204) (u.2.1 1205) N) (ha : 0 ≤ (u.1 1207).toInt ∧ (u.1 1207).toInt ≤ N) (c4_1 : ¬ (u.1 1208 : Int32) = 0) : (0 = (1 : Int32) ∧ (g_isS (u.1 1208) (u.2.1 1204) (u.2.2.1 1206) (u.1 1207) x ∧ (u.1 1207).toInt < N ∧ u.1 1208 = 0)) ∨ (0 = (0 : Int32) ∧ (¬ g_isS (u.1 1208) (u.2.1 1204) (u.2.2.1 1206) (u.1 1207) x)) := by
  first | exact Or.inl ⟨rfl, ⟨by assumption, by assumption, g_lc.mp (by assumption)⟩, hT.lt ha.1 ha.2 (by rw [(by assumption : u.2.1 1204 (u.1 1207).toNatClampNeg = 3)]; decide), by assumption⟩ | exact Or.inr ⟨rfl, fun q => absurd q.1 (by assumption)⟩ | exact Or.inr ⟨rfl, fun q => absurd q.2.1 (by assumption)⟩ | exact Or.inr ⟨rfl, fun q => absurd (g_lc.mpr q.2.2) (by assumption)⟩
set_option maxRecDepth 100000 in
theorem g_X12_isSign_v1 (u : qS) (N : Int) (hT : g_tk (u.2.1 1204) (u.2.1 1205) N) (ha : 0 ≤ (u.1 1207).toInt ∧ (u.1 1207).toInt ≤ N) (c4_1 : (u.1 1208 : Int32) = 0) : vp_in (u.1 1207) 1002 := by
  have q := hT.N
  refine g_in ?_ ?_ <;> ((try simp only [g_m1, Int32.lt_iff_toInt_lt, Int32.le_iff_toInt_le, ← Int32.toInt_inj, Int32.reduceToInt] at *); omega)
set_option maxRecDepth 100000 in
theorem g_X12_isSign_v2 (u : qS) (x : Int32) (N : Int) (hT : g_tk (u.2.1 1204) (u.2.1 1205) N) (ha : 0 ≤ (u.1 1207).toInt ∧ (u.1 1207).toInt ≤ N) (c4_1 : (u.1 1208 : Int32) = 0) (c17_2 : ¬ (u.2.1 1204 (u.1 1207 : Int32).toNatClampNeg : Int32) = 3) : (0 = (1 : Int32) ∧ (g_isS (u.1 1208) (u.2.1 1204) (u.2.2.1 1206) (u.1 1207) x ∧ (u.1 1207).toInt < N ∧ u.1 1208 = 0)) ∨ (0 = (0 : Int32) ∧ (¬ g_isS (u.1 1208) (u.2.1 1204) (u.2.2.1 1206) (u.1 1207) x)) := by
  first | exact Or.inl ⟨rfl, ⟨by assumption, by assumption, g_lc.mp (by assumption)⟩, hT.lt ha.1 ha.2 (by rw [(by assumption : u.2.1 1204 (u.1 1207).toNatClampNeg = 3)]; decide), by assumption⟩ | exact Or.inr ⟨rfl, fun q => absurd q.1 (by assumption)⟩ | exact Or.inr ⟨rfl, fun q => absurd q.2.1 (by assumption)⟩ | exact Or.inr ⟨rfl, fun q => absurd (g_lc.mpr q.2.2) (by assumption)⟩
set_option maxRecDepth 100000 in
theorem g_X12_isSign_v3 (u : qS) (N : Int) (hT : g_tk (u.2.1 1204) (u.2.1 1205) N) (ha : 0 ≤ (u.1 1207).toInt ∧ (u.1 1207).toInt ≤ N) (c4_1 : (u.1 1208 : Int32) = 0) (c17_2 : (u.2.1 1204 (u.1 1207 : Int32).toNatClampNeg : Int32) = 3) : vp_in (u.1 1207) 1002 := by
  have q := hT.N
  refine g_in ?_ ?_ <;> ((try simp only [g_m1, Int32.lt_iff_toInt_lt, Int32.le_iff_toInt_le, ← Int32.toInt_inj, Int32.reduceToInt] at *); omega)
set_option maxRecDepth 100000 in
theorem g_X12_isSign_v4 (u : qS) (x : Int32) (N : Int) (hT : g_tk (u.2.1 1204) (u.2.1 1205) N) (ha : 0 ≤ (u.1 1207).toInt ∧ (u.1 1207).toInt ≤ N) (c4_1 : (u.1 1208 : Int32) = 0) (c17_2 : (u.2.1 1204 (u.1 1207 : Int32).toNatClampNeg : Int32) = 3) (c32_3 : ¬ (lg_cmp (u.2.2.1 1206 (u.1 1207 : Int32).toNatClampNeg) ((x : Int32).toInt64) : Int32) = 0) : (0 = (1 : Int32) ∧ (g_isS (u.1 1208) (u.2.1 1204) (u.2.2.1 1206) (u.1 1207) x ∧ (u.1 1207).toInt < N ∧ u.1 1208 = 0)) ∨ (0 = (0 : Int32) ∧ (¬ g_isS (u.1 1208) (u.2.1 1204) (u.2.2.1 1206) (u.1 1207) x)) := by
  first | exact Or.inl ⟨rfl, ⟨by assumption, by assumption, g_lc.mp (by assumption)⟩, hT.lt ha.1 ha.2 (by rw [(by assumption : u.2.1 1204 (u.1 1207).toNatClampNeg = 3)]; decide), by assumption⟩ | exact Or.inr ⟨rfl, fun q => absurd q.1 (by assumption)⟩ | exact Or.inr ⟨rfl, fun q => absurd q.2.1 (by assumption)⟩ | exact Or.inr ⟨rfl, fun q => absurd (g_lc.mpr q.2.2) (by assumption)⟩
set_option maxRecDepth 100000 in
theorem g_X12_isSign_v5 (u : qS) (x : Int32) (N : Int) (hT : g_tk (u.2.1 1204) (u.2.1 1205) N) (ha : 0 ≤ (u.1 1207).toInt ∧ (u.1 1207).toInt ≤ N) (c4_1 : (u.1 1208 : Int32) = 0) (c17_2 : (u.2.1 1204 (u.1 1207 : Int32).toNatClampNeg : Int32) = 3) (c32_3 : (lg_cmp (u.2.2.1 1206 (u.1 1207 : Int32).toNatClampNeg) ((x : Int32).toInt64) : Int32) = 0) : (1 = (1 : Int32) ∧ (g_isS (u.1 1208) (u.2.1 1204) (u.2.2.1 1206) (u.1 1207) x ∧ (u.1 1207).toInt < N ∧ u.1 1208 = 0)) ∨ (1 = (0 : Int32) ∧ (¬ g_isS (u.1 1208) (u.2.1 1204) (u.2.2.1 1206) (u.1 1207) x)) := by
  first | exact Or.inl ⟨rfl, ⟨by assumption, by assumption, g_lc.mp (by assumption)⟩, hT.lt ha.1 ha.2 (by rw [(by assumption : u.2.1 1204 (u.1 1207).toNatClampNeg = 3)]; decide), by assumption⟩ | exact Or.inr ⟨rfl, fun q => absurd q.1 (by assumption)⟩ | exact Or.inr ⟨rfl, fun q => absurd q.2.1 (by assumption)⟩ | exact Or.inr ⟨rfl, fun q => absurd (g_lc.mpr q.2.2) (by assumption)⟩
set_option maxHeartbeats 1000000 in
set_option maxRecDepth 100000 in
theorem g_X12_isSign (l : Launch) (E : qE) (A : Nat → Prop) (u : qS) (x : Int32) (N : Int) (hT : g_tk (u.2.1 1204) (u.2.1 1205) N) (ha : 0 ≤ (u.1 1207).toInt ∧ (u.1 1207).toInt ≤ N) : Met l yX12_isSign (uws yX12_isSign cX12_isSign 2 (some .boolean)) (qR 0 0 0) (qPc E A 1 u [.ref (E.2.2 1299), .int x]) (qQi E A 1 (fun r u1 => u1 = u ∧ ((r = 1 ∧ (g_isS (u.1 1208) (u.2.1 1204) (u.2.2.1 1206) (u.1 1207) x ∧ (u.1 1207).toInt < N ∧ u.1 1208 = 0)) ∨ (r = 0 ∧ (¬ g_isS (u.1 1208) (u.2.1 1204) (u.2.2.1 1206) (u.1 1207) x))))) 0 0 A := by
  refine q_met (own := RX12) (f := 0) [.ref (E.2.2 1299), .int x] (by decide) (Nat.le_of_ble_eq_true rfl) rfl ?_
  intro p0 e0 s0 m0 bl0 me0 cd0 ls hF hr hlocks hU hS hA hl
  have hl : lv_has ls 2 [(0, .ref (E.2.2 1299)), (1, .int x)] := hl
  refine lv_aload_n hF.1 hF.2.1 dX12_isSign_0 rfl (lv_at hl 0 rfl) ?_
  refine q_get (v := .int (u.1 1208)) hF hU dX12_isSign_1 0 12 8 1208 1299 rfl rfl rfl rfl inX12 (by decide) (by decide) w_1337 rfl rfl ?_
  refine lv_if_ne (tgt := 39) hF.1 hF.2.1 dX12_isSign_4 (by decide) (fun c4_1 => ?_) (fun c4_1 => ?_)
  · refine lv_iconst (v := 0) hF.1 hF.2.1 dX12_isSign_39 (by decide) ?_
    exact q_iret hF hr (by decide) hlocks hU hS dX12_isSign_40 ⟨rfl, (g_X12_isSign_v0 u x N hT ha c4_1)⟩
  · refine lv_aload_n hF.1 hF.2.1 dX12_isSign_7 rfl (lv_at hl 0 rfl) ?_
    refine q_get (v := .ref (E.2.2 1204)) hF hU dX12_isSign_8 0 12 4 1204 1299 rfl rfl rfl rfl inX12 (by decide) (by decide) w_1333 rfl rfl ?_
    refine lv_aload_n hF.1 hF.2.1 dX12_isSign_11 rfl (lv_at hl 0 rfl) ?_
    refine q_get (v := .int (u.1 1207)) hF hU dX12_isSign_12 0 12 7 1207 1299 rfl rfl rfl rfl inX12 (by decide) (by decide) w_1336 rfl rfl ?_
    refine q_iald (v := u.2.1 1204 (u.1 1207 : Int32).toNatClampNeg) hF hU dX12_isSign_15 1 1204 rfl rfl (g_X12_isSign_v1 u N hT ha c4_1) rfl ?_
    refine lv_iconst (v := 3) hF.1 hF.2.1 dX12_isSign_16 (by decide) ?_
    refine lv_icmp_ne (tgt := 39) hF.1 hF.2.1 dX12_isSign_17 (by decide) (fun c17_2 => ?_) (fun c17_2 => ?_)
    · refine lv_iconst (v := 0) hF.1 hF.2.1 dX12_isSign_39 (by decide) ?_
      exact q_iret hF hr (by decide) hlocks hU hS dX12_isSign_40 ⟨rfl, (g_X12_isSign_v2 u x N hT ha c4_1 c17_2)⟩
    · refine lv_aload_n hF.1 hF.2.1 dX12_isSign_20 rfl (lv_at hl 0 rfl) ?_
      refine q_get (v := .ref (E.2.2 1206)) hF hU dX12_isSign_21 0 12 6 1206 1299 rfl rfl rfl rfl inX12 (by decide) (by decide) w_1335 rfl rfl ?_
      refine lv_aload_n hF.1 hF.2.1 dX12_isSign_24 rfl (lv_at hl 0 rfl) ?_
      refine q_get (v := .int (u.1 1207)) hF hU dX12_isSign_25 0 12 7 1207 1299 rfl rfl rfl rfl inX12 (by decide) (by decide) w_1336 rfl rfl ?_
      refine q_lald (v := u.2.2.1 1206 (u.1 1207 : Int32).toNatClampNeg) hF hU dX12_isSign_28 3 1206 rfl rfl (g_X12_isSign_v3 u N hT ha c4_1 c17_2) rfl ?_
      refine lv_iload_n hF.1 hF.2.1 dX12_isSign_29 rfl (lv_at hl 1 rfl) ?_
      refine lv_i2l (v := (x : Int32).toInt64) hF.1 hF.2.1 dX12_isSign_30 rfl ?_
      refine W.lcmp hF.1 hF.2.1 dX12_isSign_31 ?_
      refine lv_if_ne (tgt := 39) hF.1 hF.2.1 dX12_isSign_32 (by decide) (fun c32_3 => ?_) (fun c32_3 => ?_)
      · refine lv_iconst (v := 0) hF.1 hF.2.1 dX12_isSign_39 (by decide) ?_
        exact q_iret hF hr (by decide) hlocks hU hS dX12_isSign_40 ⟨rfl, (g_X12_isSign_v4 u x N hT ha c4_1 c17_2 c32_3)⟩
      · refine lv_iconst (v := 1) hF.1 hF.2.1 dX12_isSign_35 (by decide) ?_
        refine lv_goto (tgt := 40) hF.1 hF.2.1 dX12_isSign_36 (by decide) ?_
        exact q_iret hF hr (by decide) hlocks hU hS dX12_isSign_40 ⟨rfl, (g_X12_isSign_v5 u x N hT ha c4_1 c17_2 c32_3)⟩
set_option maxRecDepth 100000 in
theorem g_X12_isWord_v0 (u : qS) (x : Int32) (N : Int) (hT : g_tk (u.2.1 1204) (u.2.1 1205) N) (ha : 0 ≤ (u.1 1207).toInt ∧ (u.1 1207).toInt ≤ N) (hx : 0 ≤ (x : Int32) ∧ (x : Int32) < 15) (c4_1 : ¬ (u.1 1208 : Int32) = 0) : (0 = (1 : Int32) ∧ (g_isW (u.1 1208) (u.2.1 1204) (u.2.2.1 1206) (u.1 1207) (u.2.2.1 1209) x ∧ (u.1 1207).toInt < N ∧ u.1 1208 = 0)) ∨ (0 = (0 : Int32) ∧ (¬ g_isW (u.1 1208) (u.2.1 1204) (u.2.2.1 1206) (u.1 1207) (u.2.2.1 1209) x)) := by
  first | exact Or.inl ⟨rfl, ⟨by assumption, by assumption, g_lc.mp (by assumption)⟩, hT.lt ha.1 ha.2 (by rw [(by assumption : u.2.1 1204 (u.1 1207).toNatClampNeg = 1)]; decide), by assumption⟩ | exact Or.inr ⟨rfl, fun q => absurd q.1 (by assumption)⟩ | exact Or.inr ⟨rfl, fun q => absurd q.2.1 (by assumption)⟩ | exact Or.inr ⟨rfl, fun q => absurd (g_lc.mpr q.2.2) (by assumption)⟩
set_option maxRecDepth 100000 in
theorem g_X12_isWord_v1 (u : qS) (x : Int32) (N : Int) (hT : g_tk (u.2.1 1204) (u.2.1 1205) N) (ha : 0 ≤ (u.1 1207).toInt ∧ (u.1 1207).toInt ≤ N) (hx : 0 ≤ (x : Int32) ∧ (x : Int32) < 15) (c4_1 : (u.1 1208 : Int32) = 0) : vp_in (u.1 1207) 1002 := by
  have q := hT.N
  refine g_in ?_ ?_ <;> ((try simp only [g_m1, Int32.lt_iff_toInt_lt, Int32.le_iff_toInt_le, ← Int32.toInt_inj, Int32.reduceToInt] at *); omega)
set_option maxRecDepth 100000 in
theorem g_X12_isWord_v2 (u : qS) (x : Int32) (N : Int) (hT : g_tk (u.2.1 1204) (u.2.1 1205) N) (ha : 0 ≤ (u.1 1207).toInt ∧ (u.1 1207).toInt ≤ N) (hx : 0 ≤ (x : Int32) ∧ (x : Int32) < 15) (c4_1 : (u.1 1208 : Int32) = 0) (c17_2 : ¬ (u.2.1 1204 (u.1 1207 : Int32).toNatClampNeg : Int32) = 1) : (0 = (1 : Int32) ∧ (g_isW (u.1 1208) (u.2.1 1204) (u.2.2.1 1206) (u.1 1207) (u.2.2.1 1209) x ∧ (u.1 1207).toInt < N ∧ u.1 1208 = 0)) ∨ (0 = (0 : Int32) ∧ (¬ g_isW (u.1 1208) (u.2.1 1204) (u.2.2.1 1206) (u.1 1207) (u.2.2.1 1209) x)) := by
  first | exact Or.inl ⟨rfl, ⟨by assumption, by assumption, g_lc.mp (by assumption)⟩, hT.lt ha.1 ha.2 (by rw [(by assumption : u.2.1 1204 (u.1 1207).toNatClampNeg = 1)]; decide), by assumption⟩ | exact Or.inr ⟨rfl, fun q => absurd q.1 (by assumption)⟩ | exact Or.inr ⟨rfl, fun q => absurd q.2.1 (by assumption)⟩ | exact Or.inr ⟨rfl, fun q => absurd (g_lc.mpr q.2.2) (by assumption)⟩
set_option maxRecDepth 100000 in
theorem g_X12_isWord_v3 (u : qS) (x : Int32) (N : Int) (hT : g_tk (u.2.1 1204) (u.2.1 1205) N) (ha : 0 ≤ (u.1 1207).toInt ∧ (u.1 1207).toInt ≤ N) (hx : 0 ≤ (x : Int32) ∧ (x : Int32) < 15) (c4_1 : (u.1 1208 : Int32) = 0) (c17_2 : (u.2.1 1204 (u.1 1207 : Int32).toNatClampNeg : Int32) = 1) : vp_in (u.1 1207) 1002 := by
  have q := hT.N
  refine g_in ?_ ?_ <;> ((try simp only [g_m1, Int32.lt_iff_toInt_lt, Int32.le_iff_toInt_le, ← Int32.toInt_inj, Int32.reduceToInt] at *); omega)
set_option maxRecDepth 100000 in
theorem g_X12_isWord_v4 (u : qS) (x : Int32) (N : Int) (hT : g_tk (u.2.1 1204) (u.2.1 1205) N) (ha : 0 ≤ (u.1 1207).toInt ∧ (u.1 1207).toInt ≤ N) (hx : 0 ≤ (x : Int32) ∧ (x : Int32) < 15) (c4_1 : (u.1 1208 : Int32) = 0) (c17_2 : (u.2.1 1204 (u.1 1207 : Int32).toNatClampNeg : Int32) = 1) : vp_in (x) 15 := by
  refine g_in ?_ ?_ <;> ((try simp only [g_m1, Int32.lt_iff_toInt_lt, Int32.le_iff_toInt_le, ← Int32.toInt_inj, Int32.toInt_add, Int32.toInt_sub, Int32.toInt_mul, Int32.toInt_neg, Int32.reduceToInt, g_bm, g_bm'] at *); omega)
set_option maxRecDepth 100000 in
theorem g_X12_isWord_v5 (u : qS) (x : Int32) (N : Int) (hT : g_tk (u.2.1 1204) (u.2.1 1205) N) (ha : 0 ≤ (u.1 1207).toInt ∧ (u.1 1207).toInt ≤ N) (hx : 0 ≤ (x : Int32) ∧ (x : Int32) < 15) (c4_1 : (u.1 1208 : Int32) = 0) (c17_2 : (u.2.1 1204 (u.1 1207 : Int32).toNatClampNeg : Int32) = 1) (c36_3 : ¬ (lg_cmp (u.2.2.1 1206 (u.1 1207 : Int32).toNatClampNeg) (u.2.2.1 1209 (x : Int32).toNatClampNeg) : Int32) = 0) : (0 = (1 : Int32) ∧ (g_isW (u.1 1208) (u.2.1 1204) (u.2.2.1 1206) (u.1 1207) (u.2.2.1 1209) x ∧ (u.1 1207).toInt < N ∧ u.1 1208 = 0)) ∨ (0 = (0 : Int32) ∧ (¬ g_isW (u.1 1208) (u.2.1 1204) (u.2.2.1 1206) (u.1 1207) (u.2.2.1 1209) x)) := by
  first | exact Or.inl ⟨rfl, ⟨by assumption, by assumption, g_lc.mp (by assumption)⟩, hT.lt ha.1 ha.2 (by rw [(by assumption : u.2.1 1204 (u.1 1207).toNatClampNeg = 1)]; decide), by assumption⟩ | exact Or.inr ⟨rfl, fun q => absurd q.1 (by assumption)⟩ | exact Or.inr ⟨rfl, fun q => absurd q.2.1 (by assumption)⟩ | exact Or.inr ⟨rfl, fun q => absurd (g_lc.mpr q.2.2) (by assumption)⟩
set_option maxRecDepth 100000 in
theorem g_X12_isWord_v6 (u : qS) (x : Int32) (N : Int) (hT : g_tk (u.2.1 1204) (u.2.1 1205) N) (ha : 0 ≤ (u.1 1207).toInt ∧ (u.1 1207).toInt ≤ N) (hx : 0 ≤ (x : Int32) ∧ (x : Int32) < 15) (c4_1 : (u.1 1208 : Int32) = 0) (c17_2 : (u.2.1 1204 (u.1 1207 : Int32).toNatClampNeg : Int32) = 1) (c36_3 : (lg_cmp (u.2.2.1 1206 (u.1 1207 : Int32).toNatClampNeg) (u.2.2.1 1209 (x : Int32).toNatClampNeg) : Int32) = 0) : (1 = (1 : Int32) ∧ (g_isW (u.1 1208) (u.2.1 1204) (u.2.2.1 1206) (u.1 1207) (u.2.2.1 1209) x ∧ (u.1 1207).toInt < N ∧ u.1 1208 = 0)) ∨ (1 = (0 : Int32) ∧ (¬ g_isW (u.1 1208) (u.2.1 1204) (u.2.2.1 1206) (u.1 1207) (u.2.2.1 1209) x)) := by
  first | exact Or.inl ⟨rfl, ⟨by assumption, by assumption, g_lc.mp (by assumption)⟩, hT.lt ha.1 ha.2 (by rw [(by assumption : u.2.1 1204 (u.1 1207).toNatClampNeg = 1)]; decide), by assumption⟩ | exact Or.inr ⟨rfl, fun q => absurd q.1 (by assumption)⟩ | exact Or.inr ⟨rfl, fun q => absurd q.2.1 (by assumption)⟩ | exact Or.inr ⟨rfl, fun q => absurd (g_lc.mpr q.2.2) (by assumption)⟩
set_option maxHeartbeats 1000000 in
set_option maxRecDepth 100000 in
theorem g_X12_isWord (l : Launch) (E : qE) (A : Nat → Prop) (u : qS) (x : Int32) (N : Int) (hT : g_tk (u.2.1 1204) (u.2.1 1205) N) (ha : 0 ≤ (u.1 1207).toInt ∧ (u.1 1207).toInt ≤ N) (hx : 0 ≤ (x : Int32) ∧ (x : Int32) < 15) : Met l yX12_isWord (uws yX12_isWord cX12_isWord 2 (some .boolean)) (qR 0 0 0) (qPc E A 1 u [.ref (E.2.2 1299), .int x]) (qQi E A 1 (fun r u1 => u1 = u ∧ ((r = 1 ∧ (g_isW (u.1 1208) (u.2.1 1204) (u.2.2.1 1206) (u.1 1207) (u.2.2.1 1209) x ∧ (u.1 1207).toInt < N ∧ u.1 1208 = 0)) ∨ (r = 0 ∧ (¬ g_isW (u.1 1208) (u.2.1 1204) (u.2.2.1 1206) (u.1 1207) (u.2.2.1 1209) x))))) 0 0 A := by
  refine q_met (own := RX12) (f := 0) [.ref (E.2.2 1299), .int x] (by decide) (Nat.le_of_ble_eq_true rfl) rfl ?_
  intro p0 e0 s0 m0 bl0 me0 cd0 ls hF hr hlocks hU hS hA hl
  have hl : lv_has ls 2 [(0, .ref (E.2.2 1299)), (1, .int x)] := hl
  refine lv_aload_n hF.1 hF.2.1 dX12_isWord_0 rfl (lv_at hl 0 rfl) ?_
  refine q_get (v := .int (u.1 1208)) hF hU dX12_isWord_1 0 12 8 1208 1299 rfl rfl rfl rfl inX12 (by decide) (by decide) w_1337 rfl rfl ?_
  refine lv_if_ne (tgt := 43) hF.1 hF.2.1 dX12_isWord_4 (by decide) (fun c4_1 => ?_) (fun c4_1 => ?_)
  · refine lv_iconst (v := 0) hF.1 hF.2.1 dX12_isWord_43 (by decide) ?_
    exact q_iret hF hr (by decide) hlocks hU hS dX12_isWord_44 ⟨rfl, (g_X12_isWord_v0 u x N hT ha hx c4_1)⟩
  · refine lv_aload_n hF.1 hF.2.1 dX12_isWord_7 rfl (lv_at hl 0 rfl) ?_
    refine q_get (v := .ref (E.2.2 1204)) hF hU dX12_isWord_8 0 12 4 1204 1299 rfl rfl rfl rfl inX12 (by decide) (by decide) w_1333 rfl rfl ?_
    refine lv_aload_n hF.1 hF.2.1 dX12_isWord_11 rfl (lv_at hl 0 rfl) ?_
    refine q_get (v := .int (u.1 1207)) hF hU dX12_isWord_12 0 12 7 1207 1299 rfl rfl rfl rfl inX12 (by decide) (by decide) w_1336 rfl rfl ?_
    refine q_iald (v := u.2.1 1204 (u.1 1207 : Int32).toNatClampNeg) hF hU dX12_isWord_15 1 1204 rfl rfl (g_X12_isWord_v1 u x N hT ha hx c4_1) rfl ?_
    refine lv_iconst (v := 1) hF.1 hF.2.1 dX12_isWord_16 (by decide) ?_
    refine lv_icmp_ne (tgt := 43) hF.1 hF.2.1 dX12_isWord_17 (by decide) (fun c17_2 => ?_) (fun c17_2 => ?_)
    · refine lv_iconst (v := 0) hF.1 hF.2.1 dX12_isWord_43 (by decide) ?_
      exact q_iret hF hr (by decide) hlocks hU hS dX12_isWord_44 ⟨rfl, (g_X12_isWord_v2 u x N hT ha hx c4_1 c17_2)⟩
    · refine lv_aload_n hF.1 hF.2.1 dX12_isWord_20 rfl (lv_at hl 0 rfl) ?_
      refine q_get (v := .ref (E.2.2 1206)) hF hU dX12_isWord_21 0 12 6 1206 1299 rfl rfl rfl rfl inX12 (by decide) (by decide) w_1335 rfl rfl ?_
      refine lv_aload_n hF.1 hF.2.1 dX12_isWord_24 rfl (lv_at hl 0 rfl) ?_
      refine q_get (v := .int (u.1 1207)) hF hU dX12_isWord_25 0 12 7 1207 1299 rfl rfl rfl rfl inX12 (by decide) (by decide) w_1336 rfl rfl ?_
      refine q_lald (v := u.2.2.1 1206 (u.1 1207 : Int32).toNatClampNeg) hF hU dX12_isWord_28 3 1206 rfl rfl (g_X12_isWord_v3 u x N hT ha hx c4_1 c17_2) rfl ?_
      refine lv_aload_n hF.1 hF.2.1 dX12_isWord_29 rfl (lv_at hl 0 rfl) ?_
      refine q_get (v := .ref (E.2.2 1209)) hF hU dX12_isWord_30 0 12 9 1209 1299 rfl rfl rfl rfl inX12 (by decide) (by decide) w_1338 rfl rfl ?_
      refine lv_iload_n hF.1 hF.2.1 dX12_isWord_33 rfl (lv_at hl 1 rfl) ?_
      refine q_lald (v := u.2.2.1 1209 (x : Int32).toNatClampNeg) hF hU dX12_isWord_34 4 1209 rfl rfl (g_X12_isWord_v4 u x N hT ha hx c4_1 c17_2) rfl ?_
      refine W.lcmp hF.1 hF.2.1 dX12_isWord_35 ?_
      refine lv_if_ne (tgt := 43) hF.1 hF.2.1 dX12_isWord_36 (by decide) (fun c36_3 => ?_) (fun c36_3 => ?_)
      · refine lv_iconst (v := 0) hF.1 hF.2.1 dX12_isWord_43 (by decide) ?_
        exact q_iret hF hr (by decide) hlocks hU hS dX12_isWord_44 ⟨rfl, (g_X12_isWord_v5 u x N hT ha hx c4_1 c17_2 c36_3)⟩
      · refine lv_iconst (v := 1) hF.1 hF.2.1 dX12_isWord_39 (by decide) ?_
        refine lv_goto (tgt := 44) hF.1 hF.2.1 dX12_isWord_40 (by decide) ?_
        exact q_iret hF hr (by decide) hlocks hU hS dX12_isWord_44 ⟨rfl, (g_X12_isWord_v6 u x N hT ha hx c4_1 c17_2 c36_3)⟩
set_option maxRecDepth 100000 in
theorem g_X12_isName_v0 (u : qS) (N : Int) (x1 : Int32) (x2 : Int32) (hT : g_tk (u.2.1 1204) (u.2.1 1205) N) (ha : 0 ≤ (u.1 1207).toInt ∧ (u.1 1207).toInt ≤ N) (h_k : 0 ≤ x2 ∧ x2 ≤ 15) (h_n : (x1 = 1 ∧ g_isN (u.1 1208) (u.2.1 1204) (u.2.2.1 1206) (u.1 1207) (u.2.2.1 1209) x2.toNatClampNeg) ∨ (x1 = 0 ∧ ¬ g_isN (u.1 1208) (u.2.1 1204) (u.2.2.1 1206) (u.1 1207) (u.2.2.1 1209) x2.toNatClampNeg)) (c31_1 : 15 ≤ (x2 : Int32)) : (x1 = (1 : Int32) ∧ (g_isN (u.1 1208) (u.2.1 1204) (u.2.2.1 1206) (u.1 1207) (u.2.2.1 1209) 15 ∧ (u.1 1207).toInt < N ∧ u.1 1208 = 0)) ∨ (x1 = (0 : Int32) ∧ (¬ g_isN (u.1 1208) (u.2.1 1204) (u.2.2.1 1206) (u.1 1207) (u.2.2.1 1209) 15)) := by
  have e : x2 = 15 := Int32.toInt_inj.mp (by clear h_n; (try simp only [g_m1, Int32.lt_iff_toInt_lt, Int32.le_iff_toInt_le, ← Int32.toInt_inj, Int32.reduceToInt] at *); omega)
  rw [e] at h_n
  rcases h_n with ⟨z1, z2⟩ | ⟨z1, z2⟩
  · exact Or.inl ⟨z1, z2, hT.lt ha.1 ha.2 (by rw [z2.2.1]; decide), z2.1⟩
  · exact Or.inr ⟨z1, z2⟩
set_option maxRecDepth 100000 in
theorem g_X12_isName_v1 (u : qS) (N : Int) (x1 : Int32) (x2 : Int32) (hT : g_tk (u.2.1 1204) (u.2.1 1205) N) (ha : 0 ≤ (u.1 1207).toInt ∧ (u.1 1207).toInt ≤ N) (h_k : 0 ≤ x2 ∧ x2 ≤ 15) (h_n : (x1 = 1 ∧ g_isN (u.1 1208) (u.2.1 1204) (u.2.2.1 1206) (u.1 1207) (u.2.2.1 1209) x2.toNatClampNeg) ∨ (x1 = 0 ∧ ¬ g_isN (u.1 1208) (u.2.1 1204) (u.2.2.1 1206) (u.1 1207) (u.2.2.1 1209) x2.toNatClampNeg)) (c31_1 : 15 ≤ (x2 : Int32)) : narrow .boolean (.int (x1)) = .int (x1) := by
  exact g_nar (h_n.elim (fun q => Or.inl q.1) (fun q => Or.inr q.1))
set_option maxRecDepth 100000 in
theorem g_X12_isName_v2 (u : qS) (N : Int) (x1 : Int32) (x2 : Int32) (hT : g_tk (u.2.1 1204) (u.2.1 1205) N) (ha : 0 ≤ (u.1 1207).toInt ∧ (u.1 1207).toInt ≤ N) (h_k : 0 ≤ x2 ∧ x2 ≤ 15) (h_n : (x1 = 1 ∧ g_isN (u.1 1208) (u.2.1 1204) (u.2.2.1 1206) (u.1 1207) (u.2.2.1 1209) x2.toNatClampNeg) ∨ (x1 = 0 ∧ ¬ g_isN (u.1 1208) (u.2.1 1204) (u.2.2.1 1206) (u.1 1207) (u.2.2.1 1209) x2.toNatClampNeg)) (c31_1 : ¬ 15 ≤ (x2 : Int32)) (c35_2 : (x1 : Int32) = 0) : 0 ≤ (x2 + 1) ∧ (x2 + 1) ≤ 15 := by
  clear h_n; (try simp only [g_m1, Int32.lt_iff_toInt_lt, Int32.le_iff_toInt_le, ← Int32.toInt_inj, Int32.toInt_add, Int32.toInt_sub, Int32.toInt_mul, Int32.toInt_neg, Int32.reduceToInt, g_bm, g_bm'] at *); omega
set_option maxRecDepth 100000 in
theorem g_X12_isName_v3 (u : qS) (N : Int) (x1 : Int32) (x2 : Int32) (hT : g_tk (u.2.1 1204) (u.2.1 1205) N) (ha : 0 ≤ (u.1 1207).toInt ∧ (u.1 1207).toInt ≤ N) (h_k : 0 ≤ x2 ∧ x2 ≤ 15) (h_n : (x1 = 1 ∧ g_isN (u.1 1208) (u.2.1 1204) (u.2.2.1 1206) (u.1 1207) (u.2.2.1 1209) x2.toNatClampNeg) ∨ (x1 = 0 ∧ ¬ g_isN (u.1 1208) (u.2.1 1204) (u.2.2.1 1206) (u.1 1207) (u.2.2.1 1209) x2.toNatClampNeg)) (c31_1 : ¬ 15 ≤ (x2 : Int32)) (c35_2 : (x1 : Int32) = 0) : ((0 : Int32) = 1 ∧ g_isN (u.1 1208) (u.2.1 1204) (u.2.2.1 1206) (u.1 1207) (u.2.2.1 1209) (x2 + 1).toNatClampNeg) ∨ ((0 : Int32) = 0 ∧ ¬ g_isN (u.1 1208) (u.2.1 1204) (u.2.2.1 1206) (u.1 1207) (u.2.2.1 1209) (x2 + 1).toNatClampNeg) := by
  have e := (g_up (i := x2) (by clear h_n; (try simp only [g_m1, Int32.lt_iff_toInt_lt, Int32.le_iff_toInt_le, ← Int32.toInt_inj, Int32.reduceToInt] at *); omega) (by clear h_n; (try simp only [g_m1, Int32.lt_iff_toInt_lt, Int32.le_iff_toInt_le, ← Int32.toInt_inj, Int32.reduceToInt] at *); omega)).2
  rw [e]
  rcases h_n with ⟨z1, z2⟩ | ⟨z1, z2⟩
  · first | exact absurd (by assumption : x1 = 0) (by rw [z1]; decide) | exact Or.inl ⟨rfl, z2.s (fun q => (by assumption : ¬ lg_cmp _ _ = 0) (g_lc.mpr q))⟩ | exact Or.inr ⟨rfl, fun q => q.2.2 _ (Nat.lt_succ_self _) (g_lc.mp (by assumption))⟩
  · first | exact Or.inr ⟨rfl, fun q => z2 q.w⟩ | exact absurd z1 (by assumption)
set_option maxRecDepth 100000 in
theorem g_X12_isName_v4 (u : qS) (N : Int) (x1 : Int32) (x2 : Int32) (hT : g_tk (u.2.1 1204) (u.2.1 1205) N) (ha : 0 ≤ (u.1 1207).toInt ∧ (u.1 1207).toInt ≤ N) (h_k : 0 ≤ x2 ∧ x2 ≤ 15) (h_n : (x1 = 1 ∧ g_isN (u.1 1208) (u.2.1 1204) (u.2.2.1 1206) (u.1 1207) (u.2.2.1 1209) x2.toNatClampNeg) ∨ (x1 = 0 ∧ ¬ g_isN (u.1 1208) (u.2.1 1204) (u.2.2.1 1206) (u.1 1207) (u.2.2.1 1209) x2.toNatClampNeg)) (c31_1 : ¬ 15 ≤ (x2 : Int32)) (c35_2 : (x1 : Int32) = 0) : (15 - (x2 + 1).toInt).toNat < (15 - x2.toInt).toNat := by
  clear h_n; (try simp only [g_m1, Int32.lt_iff_toInt_lt, Int32.le_iff_toInt_le, ← Int32.toInt_inj, Int32.toInt_add, Int32.toInt_sub, Int32.toInt_mul, Int32.toInt_neg, Int32.reduceToInt, g_bm, g_bm'] at *); omega
set_option maxRecDepth 100000 in
theorem g_X12_isName_v5 (u : qS) (N : Int) (x1 : Int32) (x2 : Int32) (hT : g_tk (u.2.1 1204) (u.2.1 1205) N) (ha : 0 ≤ (u.1 1207).toInt ∧ (u.1 1207).toInt ≤ N) (h_k : 0 ≤ x2 ∧ x2 ≤ 15) (h_n : (x1 = 1 ∧ g_isN (u.1 1208) (u.2.1 1204) (u.2.2.1 1206) (u.1 1207) (u.2.2.1 1209) x2.toNatClampNeg) ∨ (x1 = 0 ∧ ¬ g_isN (u.1 1208) (u.2.1 1204) (u.2.2.1 1206) (u.1 1207) (u.2.2.1 1209) x2.toNatClampNeg)) (c31_1 : ¬ 15 ≤ (x2 : Int32)) (c35_2 : ¬ (x1 : Int32) = 0) : vp_in (u.1 1207) 1002 := by
  clear h_n; have q := hT.N
  refine g_in ?_ ?_ <;> ((try simp only [g_m1, Int32.lt_iff_toInt_lt, Int32.le_iff_toInt_le, ← Int32.toInt_inj, Int32.reduceToInt] at *); omega)
set_option maxRecDepth 100000 in
theorem g_X12_isName_v6 (u : qS) (N : Int) (x1 : Int32) (x2 : Int32) (hT : g_tk (u.2.1 1204) (u.2.1 1205) N) (ha : 0 ≤ (u.1 1207).toInt ∧ (u.1 1207).toInt ≤ N) (h_k : 0 ≤ x2 ∧ x2 ≤ 15) (h_n : (x1 = 1 ∧ g_isN (u.1 1208) (u.2.1 1204) (u.2.2.1 1206) (u.1 1207) (u.2.2.1 1209) x2.toNatClampNeg) ∨ (x1 = 0 ∧ ¬ g_isN (u.1 1208) (u.2.1 1204) (u.2.2.1 1206) (u.1 1207) (u.2.2.1 1209) x2.toNatClampNeg)) (c31_1 : ¬ 15 ≤ (x2 : Int32)) (c35_2 : ¬ (x1 : Int32) = 0) : vp_in (x2) 15 := by
  clear h_n; refine g_in ?_ ?_ <;> ((try simp only [g_m1, Int32.lt_iff_toInt_lt, Int32.le_iff_toInt_le, ← Int32.toInt_inj, Int32.reduceToInt] at *); omega)
set_option maxRecDepth 100000 in
theorem g_X12_isName_v7 (u : qS) (N : Int) (x1 : Int32) (x2 : Int32) (hT : g_tk (u.2.1 1204) (u.2.1 1205) N) (ha : 0 ≤ (u.1 1207).toInt ∧ (u.1 1207).toInt ≤ N) (h_k : 0 ≤ x2 ∧ x2 ≤ 15) (h_n : (x1 = 1 ∧ g_isN (u.1 1208) (u.2.1 1204) (u.2.2.1 1206) (u.1 1207) (u.2.2.1 1209) x2.toNatClampNeg) ∨ (x1 = 0 ∧ ¬ g_isN (u.1 1208) (u.2.1 1204) (u.2.2.1 1206) (u.1 1207) (u.2.2.1 1209) x2.toNatClampNeg)) (c31_1 : ¬ 15 ≤ (x2 : Int32)) (c35_2 : ¬ (x1 : Int32) = 0) (c54_3 : (lg_cmp (u.2.2.1 1206 (u.1 1207 : Int32).toNatClampNeg) (u.2.2.1 1209 (x2 : Int32).toNatClampNeg) : Int32) = 0) : 0 ≤ (x2 + 1) ∧ (x2 + 1) ≤ 15 := by
  clear h_n; (try simp only [g_m1, Int32.lt_iff_toInt_lt, Int32.le_iff_toInt_le, ← Int32.toInt_inj, Int32.toInt_add, Int32.toInt_sub, Int32.toInt_mul, Int32.toInt_neg, Int32.reduceToInt, g_bm, g_bm'] at *); omega
set_option maxRecDepth 100000 in
theorem g_X12_isName_v8 (u : qS) (N : Int) (x1 : Int32) (x2 : Int32) (hT : g_tk (u.2.1 1204) (u.2.1 1205) N) (ha : 0 ≤ (u.1 1207).toInt ∧ (u.1 1207).toInt ≤ N) (h_k : 0 ≤ x2 ∧ x2 ≤ 15) (h_n : (x1 = 1 ∧ g_isN (u.1 1208) (u.2.1 1204) (u.2.2.1 1206) (u.1 1207) (u.2.2.1 1209) x2.toNatClampNeg) ∨ (x1 = 0 ∧ ¬ g_isN (u.1 1208) (u.2.1 1204) (u.2.2.1 1206) (u.1 1207) (u.2.2.1 1209) x2.toNatClampNeg)) (c31_1 : ¬ 15 ≤ (x2 : Int32)) (c35_2 : ¬ (x1 : Int32) = 0) (c54_3 : (lg_cmp (u.2.2.1 1206 (u.1 1207 : Int32).toNatClampNeg) (u.2.2.1 1209 (x2 : Int32).toNatClampNeg) : Int32) = 0) : ((0 : Int32) = 1 ∧ g_isN (u.1 1208) (u.2.1 1204) (u.2.2.1 1206) (u.1 1207) (u.2.2.1 1209) (x2 + 1).toNatClampNeg) ∨ ((0 : Int32) = 0 ∧ ¬ g_isN (u.1 1208) (u.2.1 1204) (u.2.2.1 1206) (u.1 1207) (u.2.2.1 1209) (x2 + 1).toNatClampNeg) := by
  have e := (g_up (i := x2) (by clear h_n; (try simp only [g_m1, Int32.lt_iff_toInt_lt, Int32.le_iff_toInt_le, ← Int32.toInt_inj, Int32.reduceToInt] at *); omega) (by clear h_n; (try simp only [g_m1, Int32.lt_iff_toInt_lt, Int32.le_iff_toInt_le, ← Int32.toInt_inj, Int32.reduceToInt] at *); omega)).2
  rw [e]
  rcases h_n with ⟨z1, z2⟩ | ⟨z1, z2⟩
  · first | exact absurd (by assumption : x1 = 0) (by rw [z1]; decide) | exact Or.inl ⟨rfl, z2.s (fun q => (by assumption : ¬ lg_cmp _ _ = 0) (g_lc.mpr q))⟩ | exact Or.inr ⟨rfl, fun q => q.2.2 _ (Nat.lt_succ_self _) (g_lc.mp (by assumption))⟩
  · first | exact Or.inr ⟨rfl, fun q => z2 q.w⟩ | exact absurd z1 (by assumption)
set_option maxRecDepth 100000 in
theorem g_X12_isName_v9 (u : qS) (N : Int) (x1 : Int32) (x2 : Int32) (hT : g_tk (u.2.1 1204) (u.2.1 1205) N) (ha : 0 ≤ (u.1 1207).toInt ∧ (u.1 1207).toInt ≤ N) (h_k : 0 ≤ x2 ∧ x2 ≤ 15) (h_n : (x1 = 1 ∧ g_isN (u.1 1208) (u.2.1 1204) (u.2.2.1 1206) (u.1 1207) (u.2.2.1 1209) x2.toNatClampNeg) ∨ (x1 = 0 ∧ ¬ g_isN (u.1 1208) (u.2.1 1204) (u.2.2.1 1206) (u.1 1207) (u.2.2.1 1209) x2.toNatClampNeg)) (c31_1 : ¬ 15 ≤ (x2 : Int32)) (c35_2 : ¬ (x1 : Int32) = 0) (c54_3 : (lg_cmp (u.2.2.1 1206 (u.1 1207 : Int32).toNatClampNeg) (u.2.2.1 1209 (x2 : Int32).toNatClampNeg) : Int32) = 0) : (15 - (x2 + 1).toInt).toNat < (15 - x2.toInt).toNat := by
  clear h_n; (try simp only [g_m1, Int32.lt_iff_toInt_lt, Int32.le_iff_toInt_le, ← Int32.toInt_inj, Int32.toInt_add, Int32.toInt_sub, Int32.toInt_mul, Int32.toInt_neg, Int32.reduceToInt, g_bm, g_bm'] at *); omega
set_option maxRecDepth 100000 in
theorem g_X12_isName_v10 (u : qS) (N : Int) (x1 : Int32) (x2 : Int32) (hT : g_tk (u.2.1 1204) (u.2.1 1205) N) (ha : 0 ≤ (u.1 1207).toInt ∧ (u.1 1207).toInt ≤ N) (h_k : 0 ≤ x2 ∧ x2 ≤ 15) (h_n : (x1 = 1 ∧ g_isN (u.1 1208) (u.2.1 1204) (u.2.2.1 1206) (u.1 1207) (u.2.2.1 1209) x2.toNatClampNeg) ∨ (x1 = 0 ∧ ¬ g_isN (u.1 1208) (u.2.1 1204) (u.2.2.1 1206) (u.1 1207) (u.2.2.1 1209) x2.toNatClampNeg)) (c31_1 : ¬ 15 ≤ (x2 : Int32)) (c35_2 : ¬ (x1 : Int32) = 0) (c54_3 : ¬ (lg_cmp (u.2.2.1 1206 (u.1 1207 : Int32).toNatClampNeg) (u.2.2.1 1209 (x2 : Int32).toNatClampNeg) : Int32) = 0) : 0 ≤ (x2 + 1) ∧ (x2 + 1) ≤ 15 := by
  clear h_n; (try simp only [g_m1, Int32.lt_iff_toInt_lt, Int32.le_iff_toInt_le, ← Int32.toInt_inj, Int32.toInt_add, Int32.toInt_sub, Int32.toInt_mul, Int32.toInt_neg, Int32.reduceToInt, g_bm, g_bm'] at *); omega
set_option maxRecDepth 100000 in
theorem g_X12_isName_v11 (u : qS) (N : Int) (x1 : Int32) (x2 : Int32) (hT : g_tk (u.2.1 1204) (u.2.1 1205) N) (ha : 0 ≤ (u.1 1207).toInt ∧ (u.1 1207).toInt ≤ N) (h_k : 0 ≤ x2 ∧ x2 ≤ 15) (h_n : (x1 = 1 ∧ g_isN (u.1 1208) (u.2.1 1204) (u.2.2.1 1206) (u.1 1207) (u.2.2.1 1209) x2.toNatClampNeg) ∨ (x1 = 0 ∧ ¬ g_isN (u.1 1208) (u.2.1 1204) (u.2.2.1 1206) (u.1 1207) (u.2.2.1 1209) x2.toNatClampNeg)) (c31_1 : ¬ 15 ≤ (x2 : Int32)) (c35_2 : ¬ (x1 : Int32) = 0) (c54_3 : ¬ (lg_cmp (u.2.2.1 1206 (u.1 1207 : Int32).toNatClampNeg) (u.2.2.1 1209 (x2 : Int32).toNatClampNeg) : Int32) = 0) : ((1 : Int32) = 1 ∧ g_isN (u.1 1208) (u.2.1 1204) (u.2.2.1 1206) (u.1 1207) (u.2.2.1 1209) (x2 + 1).toNatClampNeg) ∨ ((1 : Int32) = 0 ∧ ¬ g_isN (u.1 1208) (u.2.1 1204) (u.2.2.1 1206) (u.1 1207) (u.2.2.1 1209) (x2 + 1).toNatClampNeg) := by
  have e := (g_up (i := x2) (by clear h_n; (try simp only [g_m1, Int32.lt_iff_toInt_lt, Int32.le_iff_toInt_le, ← Int32.toInt_inj, Int32.reduceToInt] at *); omega) (by clear h_n; (try simp only [g_m1, Int32.lt_iff_toInt_lt, Int32.le_iff_toInt_le, ← Int32.toInt_inj, Int32.reduceToInt] at *); omega)).2
  rw [e]
  rcases h_n with ⟨z1, z2⟩ | ⟨z1, z2⟩
  · first | exact absurd (by assumption : x1 = 0) (by rw [z1]; decide) | exact Or.inl ⟨rfl, z2.s (fun q => (by assumption : ¬ lg_cmp _ _ = 0) (g_lc.mpr q))⟩ | exact Or.inr ⟨rfl, fun q => q.2.2 _ (Nat.lt_succ_self _) (g_lc.mp (by assumption))⟩
  · first | exact Or.inr ⟨rfl, fun q => z2 q.w⟩ | exact absurd z1 (by assumption)
set_option maxRecDepth 100000 in
theorem g_X12_isName_v12 (u : qS) (N : Int) (x1 : Int32) (x2 : Int32) (hT : g_tk (u.2.1 1204) (u.2.1 1205) N) (ha : 0 ≤ (u.1 1207).toInt ∧ (u.1 1207).toInt ≤ N) (h_k : 0 ≤ x2 ∧ x2 ≤ 15) (h_n : (x1 = 1 ∧ g_isN (u.1 1208) (u.2.1 1204) (u.2.2.1 1206) (u.1 1207) (u.2.2.1 1209) x2.toNatClampNeg) ∨ (x1 = 0 ∧ ¬ g_isN (u.1 1208) (u.2.1 1204) (u.2.2.1 1206) (u.1 1207) (u.2.2.1 1209) x2.toNatClampNeg)) (c31_1 : ¬ 15 ≤ (x2 : Int32)) (c35_2 : ¬ (x1 : Int32) = 0) (c54_3 : ¬ (lg_cmp (u.2.2.1 1206 (u.1 1207 : Int32).toNatClampNeg) (u.2.2.1 1209 (x2 : Int32).toNatClampNeg) : Int32) = 0) : (15 - (x2 + 1).toInt).toNat < (15 - x2.toInt).toNat := by
  clear h_n; (try simp only [g_m1, Int32.lt_iff_toInt_lt, Int32.le_iff_toInt_le, ← Int32.toInt_inj, Int32.toInt_add, Int32.toInt_sub, Int32.toInt_mul, Int32.toInt_neg, Int32.reduceToInt, g_bm, g_bm'] at *); omega
set_option maxRecDepth 100000 in
theorem g_X12_isName_v13 (u : qS) (N : Int) (hT : g_tk (u.2.1 1204) (u.2.1 1205) N) (ha : 0 ≤ (u.1 1207).toInt ∧ (u.1 1207).toInt ≤ N) (c4_4 : ¬ (u.1 1208 : Int32) = 0) : 0 ≤ (0 : Int32) ∧ (0 : Int32) ≤ 15 := by
  first | omega | ((try simp only [g_m1, Int32.lt_iff_toInt_lt, Int32.le_iff_toInt_le, ← Int32.toInt_inj, Int32.reduceToInt] at *); omega) | ((try simp only [g_m1, Int32.lt_iff_toInt_lt, Int32.le_iff_toInt_le, ← Int32.toInt_inj, Int32.reduceToInt] at *); omega) | ((try simp only [g_m1, Int32.lt_iff_toInt_lt, Int32.le_iff_toInt_le, ← Int32.toInt_inj, Int32.toInt_add, Int32.toInt_sub, Int32.toInt_mul, Int32.toInt_neg, Int32.reduceToInt, g_bm, g_bm'] at *); omega) | ((try simp only [g_m1, Int32.lt_iff_toInt_lt, Int32.le_iff_toInt_le, ← Int32.toInt_inj, Int32.toInt_add, Int32.toInt_sub, Int32.toInt_mul, Int32.toInt_neg, Int32.reduceToInt, g_bm, g_bm'] at *); omega) | (simp only [g_m1, Int32.lt_iff_toInt_lt, Int32.le_iff_toInt_le, ← Int32.toInt_inj, Int32.toInt_add, Int32.toInt_sub, Int32.toInt_mul, Int32.toInt_neg, Int32.reduceToInt, g_bm, g_bm'] at *; simp at *; omega) | (simp_all; done)
set_option maxRecDepth 100000 in
theorem g_X12_isName_v14 (u : qS) (N : Int) (hT : g_tk (u.2.1 1204) (u.2.1 1205) N) (ha : 0 ≤ (u.1 1207).toInt ∧ (u.1 1207).toInt ≤ N) (c4_4 : ¬ (u.1 1208 : Int32) = 0) : ((0 : Int32) = 1 ∧ g_isN (u.1 1208) (u.2.1 1204) (u.2.2.1 1206) (u.1 1207) (u.2.2.1 1209) (0 : Int32).toNatClampNeg) ∨ ((0 : Int32) = 0 ∧ ¬ g_isN (u.1 1208) (u.2.1 1204) (u.2.2.1 1206) (u.1 1207) (u.2.2.1 1209) (0 : Int32).toNatClampNeg) := by
  first | exact Or.inl ⟨rfl, by assumption, by assumption, fun j hj => absurd hj (Nat.not_lt_zero _)⟩ | exact Or.inr ⟨rfl, fun q => absurd q.1 (by assumption)⟩ | exact Or.inr ⟨rfl, fun q => absurd q.2.1 (by assumption)⟩
set_option maxRecDepth 100000 in
theorem g_X12_isName_v15 (u : qS) (N : Int) (hT : g_tk (u.2.1 1204) (u.2.1 1205) N) (ha : 0 ≤ (u.1 1207).toInt ∧ (u.1 1207).toInt ≤ N) (c4_4 : (u.1 1208 : Int32) = 0) : vp_in (u.1 1207) 1002 := by
  have q := hT.N
  refine g_in ?_ ?_ <;> ((try simp only [g_m1, Int32.lt_iff_toInt_lt, Int32.le_iff_toInt_le, ← Int32.toInt_inj, Int32.reduceToInt] at *); omega)
set_option maxRecDepth 100000 in
theorem g_X12_isName_v16 (u : qS) (N : Int) (hT : g_tk (u.2.1 1204) (u.2.1 1205) N) (ha : 0 ≤ (u.1 1207).toInt ∧ (u.1 1207).toInt ≤ N) (c4_4 : (u.1 1208 : Int32) = 0) (c17_5 : ¬ (u.2.1 1204 (u.1 1207 : Int32).toNatClampNeg : Int32) = 1) : 0 ≤ (0 : Int32) ∧ (0 : Int32) ≤ 15 := by
  first | omega | ((try simp only [g_m1, Int32.lt_iff_toInt_lt, Int32.le_iff_toInt_le, ← Int32.toInt_inj, Int32.reduceToInt] at *); omega) | ((try simp only [g_m1, Int32.lt_iff_toInt_lt, Int32.le_iff_toInt_le, ← Int32.toInt_inj, Int32.reduceToInt] at *); omega) | ((try simp only [g_m1, Int32.lt_iff_toInt_lt, Int32.le_iff_toInt_le, ← Int32.toInt_inj, Int32.toInt_add, Int32.toInt_sub, Int32.toInt_mul, Int32.toInt_neg, Int32.reduceToInt, g_bm, g_bm'] at *); omega) | ((try simp only [g_m1, Int32.lt_iff_toInt_lt, Int32.le_iff_toInt_le, ← Int32.toInt_inj, Int32.toInt_add, Int32.toInt_sub, Int32.toInt_mul, Int32.toInt_neg, Int32.reduceToInt, g_bm, g_bm'] at *); omega) | (simp only [g_m1, Int32.lt_iff_toInt_lt, Int32.le_iff_toInt_le, ← Int32.toInt_inj, Int32.toInt_add, Int32.toInt_sub, Int32.toInt_mul, Int32.toInt_neg, Int32.reduceToInt, g_bm, g_bm'] at *; simp at *; omega) | (simp_all; done)
set_option maxRecDepth 100000 in
theorem g_X12_isName_v17 (u : qS) (N : Int) (hT : g_tk (u.2.1 1204) (u.2.1 1205) N) (ha : 0 ≤ (u.1 1207).toInt ∧ (u.1 1207).toInt ≤ N) (c4_4 : (u.1 1208 : Int32) = 0) (c17_5 : ¬ (u.2.1 1204 (u.1 1207 : Int32).toNatClampNeg : Int32) = 1) : ((0 : Int32) = 1 ∧ g_isN (u.1 1208) (u.2.1 1204) (u.2.2.1 1206) (u.1 1207) (u.2.2.1 1209) (0 : Int32).toNatClampNeg) ∨ ((0 : Int32) = 0 ∧ ¬ g_isN (u.1 1208) (u.2.1 1204) (u.2.2.1 1206) (u.1 1207) (u.2.2.1 1209) (0 : Int32).toNatClampNeg) := by
  first | exact Or.inl ⟨rfl, by assumption, by assumption, fun j hj => absurd hj (Nat.not_lt_zero _)⟩ | exact Or.inr ⟨rfl, fun q => absurd q.1 (by assumption)⟩ | exact Or.inr ⟨rfl, fun q => absurd q.2.1 (by assumption)⟩
set_option maxRecDepth 100000 in
theorem g_X12_isName_v18 (u : qS) (N : Int) (hT : g_tk (u.2.1 1204) (u.2.1 1205) N) (ha : 0 ≤ (u.1 1207).toInt ∧ (u.1 1207).toInt ≤ N) (c4_4 : (u.1 1208 : Int32) = 0) (c17_5 : (u.2.1 1204 (u.1 1207 : Int32).toNatClampNeg : Int32) = 1) : 0 ≤ (0 : Int32) ∧ (0 : Int32) ≤ 15 := by
  first | omega | ((try simp only [g_m1, Int32.lt_iff_toInt_lt, Int32.le_iff_toInt_le, ← Int32.toInt_inj, Int32.reduceToInt] at *); omega) | ((try simp only [g_m1, Int32.lt_iff_toInt_lt, Int32.le_iff_toInt_le, ← Int32.toInt_inj, Int32.reduceToInt] at *); omega) | ((try simp only [g_m1, Int32.lt_iff_toInt_lt, Int32.le_iff_toInt_le, ← Int32.toInt_inj, Int32.toInt_add, Int32.toInt_sub, Int32.toInt_mul, Int32.toInt_neg, Int32.reduceToInt, g_bm, g_bm'] at *); omega) | ((try simp only [g_m1, Int32.lt_iff_toInt_lt, Int32.le_iff_toInt_le, ← Int32.toInt_inj, Int32.toInt_add, Int32.toInt_sub, Int32.toInt_mul, Int32.toInt_neg, Int32.reduceToInt, g_bm, g_bm'] at *); omega) | (simp only [g_m1, Int32.lt_iff_toInt_lt, Int32.le_iff_toInt_le, ← Int32.toInt_inj, Int32.toInt_add, Int32.toInt_sub, Int32.toInt_mul, Int32.toInt_neg, Int32.reduceToInt, g_bm, g_bm'] at *; simp at *; omega) | (simp_all; done)
set_option maxRecDepth 100000 in
theorem g_X12_isName_v19 (u : qS) (N : Int) (hT : g_tk (u.2.1 1204) (u.2.1 1205) N) (ha : 0 ≤ (u.1 1207).toInt ∧ (u.1 1207).toInt ≤ N) (c4_4 : (u.1 1208 : Int32) = 0) (c17_5 : (u.2.1 1204 (u.1 1207 : Int32).toNatClampNeg : Int32) = 1) : ((1 : Int32) = 1 ∧ g_isN (u.1 1208) (u.2.1 1204) (u.2.2.1 1206) (u.1 1207) (u.2.2.1 1209) (0 : Int32).toNatClampNeg) ∨ ((1 : Int32) = 0 ∧ ¬ g_isN (u.1 1208) (u.2.1 1204) (u.2.2.1 1206) (u.1 1207) (u.2.2.1 1209) (0 : Int32).toNatClampNeg) := by
  first | exact Or.inl ⟨rfl, by assumption, by assumption, fun j hj => absurd hj (Nat.not_lt_zero _)⟩ | exact Or.inr ⟨rfl, fun q => absurd q.1 (by assumption)⟩ | exact Or.inr ⟨rfl, fun q => absurd q.2.1 (by assumption)⟩
set_option maxHeartbeats 1000000 in
set_option maxRecDepth 100000 in
theorem g_X12_isName (l : Launch) (E : qE) (A : Nat → Prop) (u : qS) (N : Int) (hT : g_tk (u.2.1 1204) (u.2.1 1205) N) (ha : 0 ≤ (u.1 1207).toInt ∧ (u.1 1207).toInt ≤ N) : Met l yX12_isName (uws yX12_isName cX12_isName 3 (some .boolean)) (qR 0 0 0) (qPc E A 1 u [.ref (E.2.2 1299)]) (qQi E A 1 (fun r u1 => u1 = u ∧ ((r = 1 ∧ (g_isN (u.1 1208) (u.2.1 1204) (u.2.2.1 1206) (u.1 1207) (u.2.2.1 1209) 15 ∧ (u.1 1207).toInt < N ∧ u.1 1208 = 0)) ∨ (r = 0 ∧ (¬ g_isN (u.1 1208) (u.2.1 1204) (u.2.2.1 1206) (u.1 1207) (u.2.2.1 1209) 15))))) 0 0 A := by
  refine q_met (own := RX12) (f := 0) [.ref (E.2.2 1299)] (by decide) (Nat.le_of_ble_eq_true rfl) rfl ?_
  intro p0 e0 s0 m0 bl0 me0 cd0 ls hF hr hlocks hU hS hA hl
  have hl : lv_has ls 3 [(0, .ref (E.2.2 1299))] := hl
  have main : ∀ n : Nat, (∀ (x1 : Int32) (x2 : Int32) (uc : qS) (H : Heap) (locs : List Loc) (ls : Array Slot) (huc : u = uc) (h_k : 0 ≤ x2 ∧ x2 ≤ 15) (h_n : (x1 = 1 ∧ g_isN (u.1 1208) (u.2.1 1204) (u.2.2.1 1206) (u.1 1207) (u.2.2.1 1209) x2.toNatClampNeg) ∨ (x1 = 0 ∧ ¬ g_isN (u.1 1208) (u.2.1 1204) (u.2.2.1 1206) (u.1 1207) (u.2.2.1 1209) x2.toNatClampNeg)), (15 - x2.toInt).toNat < n → qH E A 1 uc s0 H → va_S A s0.heap H locs → lv_has ls 3 [(0, .ref (E.2.2 1299)), (1, .int x1), (2, .int x2)] → W p0 l e0 (qR 0 0 0) s0 m0 ([.ref (E.2.2 1299)] : List Value).toArray bl0 me0 cd0 H locs 0 0 (MQ bl0 (qQi E A 1 (fun r u1 => u1 = u ∧ ((r = 1 ∧ (g_isN (u.1 1208) (u.2.1 1204) (u.2.2.1 1206) (u.1 1207) (u.2.2.1 1209) 15 ∧ (u.1 1207).toInt < N ∧ u.1 1208 = 0)) ∨ (r = 0 ∧ (¬ g_isN (u.1 1208) (u.2.1 1204) (u.2.2.1 1206) (u.1 1207) (u.2.2.1 1209) 15))))) ([.ref (E.2.2 1299)] : List Value).toArray s0 0 0 A) (F0 m0 28 ls [])) := by
    intro n
    induction n with
    | zero => exact fun _ _ _ _ _ _ _ _ _ hmu => absurd hmu (Nat.not_lt_zero _)
    | succ n ih =>
      intro x1 x2 uc H locs ls huc h_k h_n hmu hU hS hl
      subst huc
      refine lv_iload_n hF.1 hF.2.1 dX12_isName_28 rfl (lv_at hl 2 rfl) ?_
      refine lv_bipush (v := 15) hF.1 hF.2.1 dX12_isName_29 (by decide) ?_
      refine lv_icmp_ge (tgt := 69) hF.1 hF.2.1 dX12_isName_31 (by decide) (fun c31_1 => ?_) (fun c31_1 => ?_)
      · refine lv_iload_n hF.1 hF.2.1 dX12_isName_69 rfl (lv_at hl 1 rfl) ?_
        exact q_iret hF hr (g_X12_isName_v1 u N x1 x2 hT ha h_k h_n c31_1) hlocks hU hS dX12_isName_70 ⟨rfl, (g_X12_isName_v0 u N x1 x2 hT ha h_k h_n c31_1)⟩
      · refine lv_iload_n hF.1 hF.2.1 dX12_isName_34 rfl (lv_at hl 1 rfl) ?_
        refine lv_if_eq (tgt := 61) hF.1 hF.2.1 dX12_isName_35 (by decide) (fun c35_2 => ?_) (fun c35_2 => ?_)
        · refine lv_iconst (v := 0) hF.1 hF.2.1 dX12_isName_61 (by decide) ?_
          refine lv_istore_n (lv' := [(1, .int 0), (0, .ref (E.2.2 1299)), (2, .int x2)]) hF.1 hF.2.1 dX12_isName_62 rfl hl (by decide) rfl (fun ls hl => ?_)
          refine lv_iinc (v := x2 + 1) (lv' := [(2, .int (x2 + 1)), (1, .int 0), (0, .ref (E.2.2 1299))]) hF.1 hF.2.1 dX12_isName_63 hl (k := 2) rfl rfl (by decide) rfl (fun ls hl => ?_)
          refine lv_goto (tgt := 28) hF.1 hF.2.1 dX12_isName_66 (by decide) ?_
          exact ih (0 : Int32) (x2 + 1) u _ _ _ rfl (g_X12_isName_v2 u N x1 x2 hT ha h_k h_n c31_1 c35_2) (g_X12_isName_v3 u N x1 x2 hT ha h_k h_n c31_1 c35_2) (Nat.lt_of_lt_of_le (g_X12_isName_v4 u N x1 x2 hT ha h_k h_n c31_1 c35_2) (Nat.lt_succ_iff.mp hmu)) hU hS (lv_sub hl [2, 1, 0] rfl)
        · refine lv_aload_n hF.1 hF.2.1 dX12_isName_38 rfl (lv_at hl 0 rfl) ?_
          refine q_get (v := .ref (E.2.2 1206)) hF hU dX12_isName_39 0 12 6 1206 1299 rfl rfl rfl rfl inX12 (by decide) (by decide) w_1335 rfl rfl ?_
          refine lv_aload_n hF.1 hF.2.1 dX12_isName_42 rfl (lv_at hl 0 rfl) ?_
          refine q_get (v := .int (u.1 1207)) hF hU dX12_isName_43 0 12 7 1207 1299 rfl rfl rfl rfl inX12 (by decide) (by decide) w_1336 rfl rfl ?_
          refine q_lald (v := u.2.2.1 1206 (u.1 1207 : Int32).toNatClampNeg) hF hU dX12_isName_46 3 1206 rfl rfl (g_X12_isName_v5 u N x1 x2 hT ha h_k h_n c31_1 c35_2) rfl ?_
          refine lv_aload_n hF.1 hF.2.1 dX12_isName_47 rfl (lv_at hl 0 rfl) ?_
          refine q_get (v := .ref (E.2.2 1209)) hF hU dX12_isName_48 0 12 9 1209 1299 rfl rfl rfl rfl inX12 (by decide) (by decide) w_1338 rfl rfl ?_
          refine lv_iload_n hF.1 hF.2.1 dX12_isName_51 rfl (lv_at hl 2 rfl) ?_
          refine q_lald (v := u.2.2.1 1209 (x2 : Int32).toNatClampNeg) hF hU dX12_isName_52 4 1209 rfl rfl (g_X12_isName_v6 u N x1 x2 hT ha h_k h_n c31_1 c35_2) rfl ?_
          refine W.lcmp hF.1 hF.2.1 dX12_isName_53 ?_
          refine lv_if_eq (tgt := 61) hF.1 hF.2.1 dX12_isName_54 (by decide) (fun c54_3 => ?_) (fun c54_3 => ?_)
          · refine lv_iconst (v := 0) hF.1 hF.2.1 dX12_isName_61 (by decide) ?_
            refine lv_istore_n (lv' := [(1, .int 0), (0, .ref (E.2.2 1299)), (2, .int x2)]) hF.1 hF.2.1 dX12_isName_62 rfl hl (by decide) rfl (fun ls hl => ?_)
            refine lv_iinc (v := x2 + 1) (lv' := [(2, .int (x2 + 1)), (1, .int 0), (0, .ref (E.2.2 1299))]) hF.1 hF.2.1 dX12_isName_63 hl (k := 2) rfl rfl (by decide) rfl (fun ls hl => ?_)
            refine lv_goto (tgt := 28) hF.1 hF.2.1 dX12_isName_66 (by decide) ?_
            exact ih (0 : Int32) (x2 + 1) u _ _ _ rfl (g_X12_isName_v7 u N x1 x2 hT ha h_k h_n c31_1 c35_2 c54_3) (g_X12_isName_v8 u N x1 x2 hT ha h_k h_n c31_1 c35_2 c54_3) (Nat.lt_of_lt_of_le (g_X12_isName_v9 u N x1 x2 hT ha h_k h_n c31_1 c35_2 c54_3) (Nat.lt_succ_iff.mp hmu)) hU hS (lv_sub hl [2, 1, 0] rfl)
          · refine lv_iconst (v := 1) hF.1 hF.2.1 dX12_isName_57 (by decide) ?_
            refine lv_goto (tgt := 62) hF.1 hF.2.1 dX12_isName_58 (by decide) ?_
            refine lv_istore_n (lv' := [(1, .int 1), (0, .ref (E.2.2 1299)), (2, .int x2)]) hF.1 hF.2.1 dX12_isName_62 rfl hl (by decide) rfl (fun ls hl => ?_)
            refine lv_iinc (v := x2 + 1) (lv' := [(2, .int (x2 + 1)), (1, .int 1), (0, .ref (E.2.2 1299))]) hF.1 hF.2.1 dX12_isName_63 hl (k := 2) rfl rfl (by decide) rfl (fun ls hl => ?_)
            refine lv_goto (tgt := 28) hF.1 hF.2.1 dX12_isName_66 (by decide) ?_
            exact ih (1 : Int32) (x2 + 1) u _ _ _ rfl (g_X12_isName_v10 u N x1 x2 hT ha h_k h_n c31_1 c35_2 c54_3) (g_X12_isName_v11 u N x1 x2 hT ha h_k h_n c31_1 c35_2 c54_3) (Nat.lt_of_lt_of_le (g_X12_isName_v12 u N x1 x2 hT ha h_k h_n c31_1 c35_2 c54_3) (Nat.lt_succ_iff.mp hmu)) hU hS (lv_sub hl [2, 1, 0] rfl)
  refine lv_aload_n hF.1 hF.2.1 dX12_isName_0 rfl (lv_at hl 0 rfl) ?_
  refine q_get (v := .int (u.1 1208)) hF hU dX12_isName_1 0 12 8 1208 1299 rfl rfl rfl rfl inX12 (by decide) (by decide) w_1337 rfl rfl ?_
  refine lv_if_ne (tgt := 24) hF.1 hF.2.1 dX12_isName_4 (by decide) (fun c4_4 => ?_) (fun c4_4 => ?_)
  · refine lv_iconst (v := 0) hF.1 hF.2.1 dX12_isName_24 (by decide) ?_
    refine lv_istore_n (lv' := [(1, .int 0), (0, .ref (E.2.2 1299))]) hF.1 hF.2.1 dX12_isName_25 rfl hl (by decide) rfl (fun ls hl => ?_)
    refine lv_iconst (v := 0) hF.1 hF.2.1 dX12_isName_26 (by decide) ?_
    refine lv_istore_n (lv' := [(2, .int 0), (1, .int 0), (0, .ref (E.2.2 1299))]) hF.1 hF.2.1 dX12_isName_27 rfl hl (by decide) rfl (fun ls hl => ?_)
    exact (main _) (0 : Int32) (0 : Int32) u _ _ _ rfl (g_X12_isName_v13 u N hT ha c4_4) (g_X12_isName_v14 u N hT ha c4_4) (Nat.lt_succ_self _) hU hS (lv_sub hl [2, 1, 0] rfl)
  · refine lv_aload_n hF.1 hF.2.1 dX12_isName_7 rfl (lv_at hl 0 rfl) ?_
    refine q_get (v := .ref (E.2.2 1204)) hF hU dX12_isName_8 0 12 4 1204 1299 rfl rfl rfl rfl inX12 (by decide) (by decide) w_1333 rfl rfl ?_
    refine lv_aload_n hF.1 hF.2.1 dX12_isName_11 rfl (lv_at hl 0 rfl) ?_
    refine q_get (v := .int (u.1 1207)) hF hU dX12_isName_12 0 12 7 1207 1299 rfl rfl rfl rfl inX12 (by decide) (by decide) w_1336 rfl rfl ?_
    refine q_iald (v := u.2.1 1204 (u.1 1207 : Int32).toNatClampNeg) hF hU dX12_isName_15 1 1204 rfl rfl (g_X12_isName_v15 u N hT ha c4_4) rfl ?_
    refine lv_iconst (v := 1) hF.1 hF.2.1 dX12_isName_16 (by decide) ?_
    refine lv_icmp_ne (tgt := 24) hF.1 hF.2.1 dX12_isName_17 (by decide) (fun c17_5 => ?_) (fun c17_5 => ?_)
    · refine lv_iconst (v := 0) hF.1 hF.2.1 dX12_isName_24 (by decide) ?_
      refine lv_istore_n (lv' := [(1, .int 0), (0, .ref (E.2.2 1299))]) hF.1 hF.2.1 dX12_isName_25 rfl hl (by decide) rfl (fun ls hl => ?_)
      refine lv_iconst (v := 0) hF.1 hF.2.1 dX12_isName_26 (by decide) ?_
      refine lv_istore_n (lv' := [(2, .int 0), (1, .int 0), (0, .ref (E.2.2 1299))]) hF.1 hF.2.1 dX12_isName_27 rfl hl (by decide) rfl (fun ls hl => ?_)
      exact (main _) (0 : Int32) (0 : Int32) u _ _ _ rfl (g_X12_isName_v16 u N hT ha c4_4 c17_5) (g_X12_isName_v17 u N hT ha c4_4 c17_5) (Nat.lt_succ_self _) hU hS (lv_sub hl [2, 1, 0] rfl)
    · refine lv_iconst (v := 1) hF.1 hF.2.1 dX12_isName_20 (by decide) ?_
      refine lv_goto (tgt := 25) hF.1 hF.2.1 dX12_isName_21 (by decide) ?_
      refine lv_istore_n (lv' := [(1, .int 1), (0, .ref (E.2.2 1299))]) hF.1 hF.2.1 dX12_isName_25 rfl hl (by decide) rfl (fun ls hl => ?_)
      refine lv_iconst (v := 0) hF.1 hF.2.1 dX12_isName_26 (by decide) ?_
      refine lv_istore_n (lv' := [(2, .int 0), (1, .int 1), (0, .ref (E.2.2 1299))]) hF.1 hF.2.1 dX12_isName_27 rfl hl (by decide) rfl (fun ls hl => ?_)
      exact (main _) (1 : Int32) (0 : Int32) u _ _ _ rfl (g_X12_isName_v18 u N hT ha c4_4 c17_5) (g_X12_isName_v19 u N hT ha c4_4 c17_5) (Nat.lt_succ_self _) hU hS (lv_sub hl [2, 1, 0] rfl)
set_option maxRecDepth 100000 in
theorem g_X12_findName_v0 (u : qS) (N : Int) (x1 : Int32) (x2 : Int32) (hT : g_tk (u.2.1 1204) (u.2.1 1205) N) (ha : 0 ≤ (u.1 1207).toInt ∧ (u.1 1207).toInt ≤ N) (hn : 0 ≤ (u.1 1219).toInt ∧ (u.1 1219).toInt ≤ 8) (h_k : 0 ≤ x2) (h_f : -1 ≤ x1.toInt ∧ x1.toInt < (u.1 1219).toInt) (c9_1 : (u.1 1219) ≤ (x2 : Int32)) : -1 ≤ (x1 : Int32).toInt ∧ (x1 : Int32).toInt < (u.1 1219).toInt := by
  first | omega | ((try simp only [g_m1, Int32.lt_iff_toInt_lt, Int32.le_iff_toInt_le, ← Int32.toInt_inj, Int32.reduceToInt] at *); omega) | ((try simp only [g_m1, Int32.lt_iff_toInt_lt, Int32.le_iff_toInt_le, ← Int32.toInt_inj, Int32.reduceToInt] at *); omega) | ((try simp only [g_m1, Int32.lt_iff_toInt_lt, Int32.le_iff_toInt_le, ← Int32.toInt_inj, Int32.toInt_add, Int32.toInt_sub, Int32.toInt_mul, Int32.toInt_neg, Int32.reduceToInt, g_bm, g_bm'] at *); omega) | (have qr2 := g_rng x1; have qr3 := g_rng x2; (try simp only [g_m1, Int32.lt_iff_toInt_lt, Int32.le_iff_toInt_le, ← Int32.toInt_inj, Int32.toInt_add, Int32.toInt_sub, Int32.toInt_mul, Int32.toInt_neg, Int32.reduceToInt, g_bm, g_bm'] at *); omega) | (simp only [g_m1, Int32.lt_iff_toInt_lt, Int32.le_iff_toInt_le, ← Int32.toInt_inj, Int32.toInt_add, Int32.toInt_sub, Int32.toInt_mul, Int32.toInt_neg, Int32.reduceToInt, g_bm, g_bm'] at *; simp at *; omega) | (simp_all; done)
set_option maxRecDepth 100000 in
theorem g_X12_findName_v1 (u : qS) (N : Int) (x1 : Int32) (x2 : Int32) (hT : g_tk (u.2.1 1204) (u.2.1 1205) N) (ha : 0 ≤ (u.1 1207).toInt ∧ (u.1 1207).toInt ≤ N) (hn : 0 ≤ (u.1 1219).toInt ∧ (u.1 1219).toInt ≤ 8) (h_k : 0 ≤ x2) (h_f : -1 ≤ x1.toInt ∧ x1.toInt < (u.1 1219).toInt) (c9_1 : ¬ (u.1 1219) ≤ (x2 : Int32)) : vp_in (x2) 8 := by
  refine g_in ?_ ?_ <;> ((try simp only [g_m1, Int32.lt_iff_toInt_lt, Int32.le_iff_toInt_le, ← Int32.toInt_inj, Int32.toInt_add, Int32.toInt_sub, Int32.toInt_mul, Int32.toInt_neg, Int32.reduceToInt, g_bm, g_bm'] at *); omega)
set_option maxRecDepth 100000 in
theorem g_X12_findName_v2 (u : qS) (N : Int) (x1 : Int32) (x2 : Int32) (hT : g_tk (u.2.1 1204) (u.2.1 1205) N) (ha : 0 ≤ (u.1 1207).toInt ∧ (u.1 1207).toInt ≤ N) (hn : 0 ≤ (u.1 1219).toInt ∧ (u.1 1219).toInt ≤ 8) (h_k : 0 ≤ x2) (h_f : -1 ≤ x1.toInt ∧ x1.toInt < (u.1 1219).toInt) (c9_1 : ¬ (u.1 1219) ≤ (x2 : Int32)) : vp_in (u.1 1207) 1002 := by
  have q := hT.N
  refine g_in ?_ ?_ <;> ((try simp only [g_m1, Int32.lt_iff_toInt_lt, Int32.le_iff_toInt_le, ← Int32.toInt_inj, Int32.reduceToInt] at *); omega)
set_option maxRecDepth 100000 in
theorem g_X12_findName_v3 (u : qS) (N : Int) (x1 : Int32) (x2 : Int32) (hT : g_tk (u.2.1 1204) (u.2.1 1205) N) (ha : 0 ≤ (u.1 1207).toInt ∧ (u.1 1207).toInt ≤ N) (hn : 0 ≤ (u.1 1219).toInt ∧ (u.1 1219).toInt ≤ 8) (h_k : 0 ≤ x2) (h_f : -1 ≤ x1.toInt ∧ x1.toInt < (u.1 1219).toInt) (c9_1 : ¬ (u.1 1219) ≤ (x2 : Int32)) (c28_2 : ¬ (lg_cmp (u.2.2.1 1220 (x2 : Int32).toNatClampNeg) (u.2.2.1 1206 (u.1 1207 : Int32).toNatClampNeg) : Int32) = 0) : 0 ≤ (x2 + 1) := by
  first | omega | ((try simp only [g_m1, Int32.lt_iff_toInt_lt, Int32.le_iff_toInt_le, ← Int32.toInt_inj, Int32.reduceToInt] at *); omega) | ((try have ez0 : (x2 + 1 : Int32).toInt = (x2 : Int32).toInt + (1 : Int32).toInt := g_add (by (try simp only [g_m1, Int32.lt_iff_toInt_lt, Int32.le_iff_toInt_le, ← Int32.toInt_inj, Int32.reduceToInt] at *); omega) (by (try simp only [g_m1, Int32.lt_iff_toInt_lt, Int32.le_iff_toInt_le, ← Int32.toInt_inj, Int32.reduceToInt] at *); omega)); (try simp only [g_m1, Int32.lt_iff_toInt_lt, Int32.le_iff_toInt_le, ← Int32.toInt_inj, Int32.reduceToInt] at *); omega) | ((try simp only [g_m1, Int32.lt_iff_toInt_lt, Int32.le_iff_toInt_le, ← Int32.toInt_inj, Int32.toInt_add, Int32.toInt_sub, Int32.toInt_mul, Int32.toInt_neg, Int32.reduceToInt, g_bm, g_bm'] at *); omega) | (have qr2 := g_rng x1; have qr3 := g_rng x2; (try simp only [g_m1, Int32.lt_iff_toInt_lt, Int32.le_iff_toInt_le, ← Int32.toInt_inj, Int32.toInt_add, Int32.toInt_sub, Int32.toInt_mul, Int32.toInt_neg, Int32.reduceToInt, g_bm, g_bm'] at *); omega) | (simp only [g_m1, Int32.lt_iff_toInt_lt, Int32.le_iff_toInt_le, ← Int32.toInt_inj, Int32.toInt_add, Int32.toInt_sub, Int32.toInt_mul, Int32.toInt_neg, Int32.reduceToInt, g_bm, g_bm'] at *; simp at *; omega) | (simp_all; done)
set_option maxRecDepth 100000 in
theorem g_X12_findName_v4 (u : qS) (N : Int) (x1 : Int32) (x2 : Int32) (hT : g_tk (u.2.1 1204) (u.2.1 1205) N) (ha : 0 ≤ (u.1 1207).toInt ∧ (u.1 1207).toInt ≤ N) (hn : 0 ≤ (u.1 1219).toInt ∧ (u.1 1219).toInt ≤ 8) (h_k : 0 ≤ x2) (h_f : -1 ≤ x1.toInt ∧ x1.toInt < (u.1 1219).toInt) (c9_1 : ¬ (u.1 1219) ≤ (x2 : Int32)) (c28_2 : ¬ (lg_cmp (u.2.2.1 1220 (x2 : Int32).toNatClampNeg) (u.2.2.1 1206 (u.1 1207 : Int32).toNatClampNeg) : Int32) = 0) : -1 ≤ x1.toInt ∧ x1.toInt < (u.1 1219).toInt := by
  first | omega | ((try simp only [g_m1, Int32.lt_iff_toInt_lt, Int32.le_iff_toInt_le, ← Int32.toInt_inj, Int32.reduceToInt] at *); omega) | ((try simp only [g_m1, Int32.lt_iff_toInt_lt, Int32.le_iff_toInt_le, ← Int32.toInt_inj, Int32.reduceToInt] at *); omega) | ((try simp only [g_m1, Int32.lt_iff_toInt_lt, Int32.le_iff_toInt_le, ← Int32.toInt_inj, Int32.toInt_add, Int32.toInt_sub, Int32.toInt_mul, Int32.toInt_neg, Int32.reduceToInt, g_bm, g_bm'] at *); omega) | (have qr2 := g_rng x1; have qr3 := g_rng x2; (try simp only [g_m1, Int32.lt_iff_toInt_lt, Int32.le_iff_toInt_le, ← Int32.toInt_inj, Int32.toInt_add, Int32.toInt_sub, Int32.toInt_mul, Int32.toInt_neg, Int32.reduceToInt, g_bm, g_bm'] at *); omega) | (simp only [g_m1, Int32.lt_iff_toInt_lt, Int32.le_iff_toInt_le, ← Int32.toInt_inj, Int32.toInt_add, Int32.toInt_sub, Int32.toInt_mul, Int32.toInt_neg, Int32.reduceToInt, g_bm, g_bm'] at *; simp at *; omega) | (simp_all; done)
set_option maxRecDepth 100000 in
theorem g_X12_findName_v5 (u : qS) (N : Int) (x1 : Int32) (x2 : Int32) (hT : g_tk (u.2.1 1204) (u.2.1 1205) N) (ha : 0 ≤ (u.1 1207).toInt ∧ (u.1 1207).toInt ≤ N) (hn : 0 ≤ (u.1 1219).toInt ∧ (u.1 1219).toInt ≤ 8) (h_k : 0 ≤ x2) (h_f : -1 ≤ x1.toInt ∧ x1.toInt < (u.1 1219).toInt) (c9_1 : ¬ (u.1 1219) ≤ (x2 : Int32)) (c28_2 : ¬ (lg_cmp (u.2.2.1 1220 (x2 : Int32).toNatClampNeg) (u.2.2.1 1206 (u.1 1207 : Int32).toNatClampNeg) : Int32) = 0) : ((u.1 1219).toInt - (x2 + 1).toInt).toNat < ((u.1 1219).toInt - x2.toInt).toNat := by
  first | omega | ((try simp only [g_m1, Int32.lt_iff_toInt_lt, Int32.le_iff_toInt_le, ← Int32.toInt_inj, Int32.reduceToInt] at *); omega) | ((try have ez0 : (x2 + 1 : Int32).toInt = (x2 : Int32).toInt + (1 : Int32).toInt := g_add (by (try simp only [g_m1, Int32.lt_iff_toInt_lt, Int32.le_iff_toInt_le, ← Int32.toInt_inj, Int32.reduceToInt] at *); omega) (by (try simp only [g_m1, Int32.lt_iff_toInt_lt, Int32.le_iff_toInt_le, ← Int32.toInt_inj, Int32.reduceToInt] at *); omega)); (try simp only [g_m1, Int32.lt_iff_toInt_lt, Int32.le_iff_toInt_le, ← Int32.toInt_inj, Int32.reduceToInt] at *); omega) | ((try simp only [g_m1, Int32.lt_iff_toInt_lt, Int32.le_iff_toInt_le, ← Int32.toInt_inj, Int32.toInt_add, Int32.toInt_sub, Int32.toInt_mul, Int32.toInt_neg, Int32.reduceToInt, g_bm, g_bm'] at *); omega) | (have qr2 := g_rng x1; have qr3 := g_rng x2; (try simp only [g_m1, Int32.lt_iff_toInt_lt, Int32.le_iff_toInt_le, ← Int32.toInt_inj, Int32.toInt_add, Int32.toInt_sub, Int32.toInt_mul, Int32.toInt_neg, Int32.reduceToInt, g_bm, g_bm'] at *); omega) | (simp only [g_m1, Int32.lt_iff_toInt_lt, Int32.le_iff_toInt_le, ← Int32.toInt_inj, Int32.toInt_add, Int32.toInt_sub, Int32.toInt_mul, Int32.toInt_neg, Int32.reduceToInt, g_bm, g_bm'] at *; simp at *; omega) | (simp_all; done)
set_option maxRecDepth 100000 in
theorem g_X12_findName_v6 (u : qS) (N : Int) (x1 : Int32) (x2 : Int32) (hT : g_tk (u.2.1 1204) (u.2.1 1205) N) (ha : 0 ≤ (u.1 1207).toInt ∧ (u.1 1207).toInt ≤ N) (hn : 0 ≤ (u.1 1219).toInt ∧ (u.1 1219).toInt ≤ 8) (h_k : 0 ≤ x2) (h_f : -1 ≤ x1.toInt ∧ x1.toInt < (u.1 1219).toInt) (c9_1 : ¬ (u.1 1219) ≤ (x2 : Int32)) (c28_2 : (lg_cmp (u.2.2.1 1220 (x2 : Int32).toNatClampNeg) (u.2.2.1 1206 (u.1 1207 : Int32).toNatClampNeg) : Int32) = 0) : 0 ≤ (x2 + 1) := by
  first | omega | ((try simp only [g_m1, Int32.lt_iff_toInt_lt, Int32.le_iff_toInt_le, ← Int32.toInt_inj, Int32.reduceToInt] at *); omega) | ((try have ez0 : (x2 + 1 : Int32).toInt = (x2 : Int32).toInt + (1 : Int32).toInt := g_add (by (try simp only [g_m1, Int32.lt_iff_toInt_lt, Int32.le_iff_toInt_le, ← Int32.toInt_inj, Int32.reduceToInt] at *); omega) (by (try simp only [g_m1, Int32.lt_iff_toInt_lt, Int32.le_iff_toInt_le, ← Int32.toInt_inj, Int32.reduceToInt] at *); omega)); (try simp only [g_m1, Int32.lt_iff_toInt_lt, Int32.le_iff_toInt_le, ← Int32.toInt_inj, Int32.reduceToInt] at *); omega) | ((try simp only [g_m1, Int32.lt_iff_toInt_lt, Int32.le_iff_toInt_le, ← Int32.toInt_inj, Int32.toInt_add, Int32.toInt_sub, Int32.toInt_mul, Int32.toInt_neg, Int32.reduceToInt, g_bm, g_bm'] at *); omega) | (have qr2 := g_rng x1; have qr3 := g_rng x2; (try simp only [g_m1, Int32.lt_iff_toInt_lt, Int32.le_iff_toInt_le, ← Int32.toInt_inj, Int32.toInt_add, Int32.toInt_sub, Int32.toInt_mul, Int32.toInt_neg, Int32.reduceToInt, g_bm, g_bm'] at *); omega) | (simp only [g_m1, Int32.lt_iff_toInt_lt, Int32.le_iff_toInt_le, ← Int32.toInt_inj, Int32.toInt_add, Int32.toInt_sub, Int32.toInt_mul, Int32.toInt_neg, Int32.reduceToInt, g_bm, g_bm'] at *; simp at *; omega) | (simp_all; done)
set_option maxRecDepth 100000 in
theorem g_X12_findName_v7 (u : qS) (N : Int) (x1 : Int32) (x2 : Int32) (hT : g_tk (u.2.1 1204) (u.2.1 1205) N) (ha : 0 ≤ (u.1 1207).toInt ∧ (u.1 1207).toInt ≤ N) (hn : 0 ≤ (u.1 1219).toInt ∧ (u.1 1219).toInt ≤ 8) (h_k : 0 ≤ x2) (h_f : -1 ≤ x1.toInt ∧ x1.toInt < (u.1 1219).toInt) (c9_1 : ¬ (u.1 1219) ≤ (x2 : Int32)) (c28_2 : (lg_cmp (u.2.2.1 1220 (x2 : Int32).toNatClampNeg) (u.2.2.1 1206 (u.1 1207 : Int32).toNatClampNeg) : Int32) = 0) : -1 ≤ x2.toInt ∧ x2.toInt < (u.1 1219).toInt := by
  first | omega | ((try simp only [g_m1, Int32.lt_iff_toInt_lt, Int32.le_iff_toInt_le, ← Int32.toInt_inj, Int32.reduceToInt] at *); omega) | ((try simp only [g_m1, Int32.lt_iff_toInt_lt, Int32.le_iff_toInt_le, ← Int32.toInt_inj, Int32.reduceToInt] at *); omega) | ((try simp only [g_m1, Int32.lt_iff_toInt_lt, Int32.le_iff_toInt_le, ← Int32.toInt_inj, Int32.toInt_add, Int32.toInt_sub, Int32.toInt_mul, Int32.toInt_neg, Int32.reduceToInt, g_bm, g_bm'] at *); omega) | (have qr2 := g_rng x1; have qr3 := g_rng x2; (try simp only [g_m1, Int32.lt_iff_toInt_lt, Int32.le_iff_toInt_le, ← Int32.toInt_inj, Int32.toInt_add, Int32.toInt_sub, Int32.toInt_mul, Int32.toInt_neg, Int32.reduceToInt, g_bm, g_bm'] at *); omega) | (simp only [g_m1, Int32.lt_iff_toInt_lt, Int32.le_iff_toInt_le, ← Int32.toInt_inj, Int32.toInt_add, Int32.toInt_sub, Int32.toInt_mul, Int32.toInt_neg, Int32.reduceToInt, g_bm, g_bm'] at *; simp at *; omega) | (simp_all; done)
set_option maxRecDepth 100000 in
theorem g_X12_findName_v8 (u : qS) (N : Int) (x1 : Int32) (x2 : Int32) (hT : g_tk (u.2.1 1204) (u.2.1 1205) N) (ha : 0 ≤ (u.1 1207).toInt ∧ (u.1 1207).toInt ≤ N) (hn : 0 ≤ (u.1 1219).toInt ∧ (u.1 1219).toInt ≤ 8) (h_k : 0 ≤ x2) (h_f : -1 ≤ x1.toInt ∧ x1.toInt < (u.1 1219).toInt) (c9_1 : ¬ (u.1 1219) ≤ (x2 : Int32)) (c28_2 : (lg_cmp (u.2.2.1 1220 (x2 : Int32).toNatClampNeg) (u.2.2.1 1206 (u.1 1207 : Int32).toNatClampNeg) : Int32) = 0) : ((u.1 1219).toInt - (x2 + 1).toInt).toNat < ((u.1 1219).toInt - x2.toInt).toNat := by
  first | omega | ((try simp only [g_m1, Int32.lt_iff_toInt_lt, Int32.le_iff_toInt_le, ← Int32.toInt_inj, Int32.reduceToInt] at *); omega) | ((try have ez0 : (x2 + 1 : Int32).toInt = (x2 : Int32).toInt + (1 : Int32).toInt := g_add (by (try simp only [g_m1, Int32.lt_iff_toInt_lt, Int32.le_iff_toInt_le, ← Int32.toInt_inj, Int32.reduceToInt] at *); omega) (by (try simp only [g_m1, Int32.lt_iff_toInt_lt, Int32.le_iff_toInt_le, ← Int32.toInt_inj, Int32.reduceToInt] at *); omega)); (try simp only [g_m1, Int32.lt_iff_toInt_lt, Int32.le_iff_toInt_le, ← Int32.toInt_inj, Int32.reduceToInt] at *); omega) | ((try simp only [g_m1, Int32.lt_iff_toInt_lt, Int32.le_iff_toInt_le, ← Int32.toInt_inj, Int32.toInt_add, Int32.toInt_sub, Int32.toInt_mul, Int32.toInt_neg, Int32.reduceToInt, g_bm, g_bm'] at *); omega) | (have qr2 := g_rng x1; have qr3 := g_rng x2; (try simp only [g_m1, Int32.lt_iff_toInt_lt, Int32.le_iff_toInt_le, ← Int32.toInt_inj, Int32.toInt_add, Int32.toInt_sub, Int32.toInt_mul, Int32.toInt_neg, Int32.reduceToInt, g_bm, g_bm'] at *); omega) | (simp only [g_m1, Int32.lt_iff_toInt_lt, Int32.le_iff_toInt_le, ← Int32.toInt_inj, Int32.toInt_add, Int32.toInt_sub, Int32.toInt_mul, Int32.toInt_neg, Int32.reduceToInt, g_bm, g_bm'] at *; simp at *; omega) | (simp_all; done)
set_option maxRecDepth 100000 in
theorem g_X12_findName_v9 (u : qS) (N : Int) (hT : g_tk (u.2.1 1204) (u.2.1 1205) N) (ha : 0 ≤ (u.1 1207).toInt ∧ (u.1 1207).toInt ≤ N) (hn : 0 ≤ (u.1 1219).toInt ∧ (u.1 1219).toInt ≤ 8) : 0 ≤ (0 : Int32) := by
  first | omega | ((try simp only [g_m1, Int32.lt_iff_toInt_lt, Int32.le_iff_toInt_le, ← Int32.toInt_inj, Int32.reduceToInt] at *); omega) | ((try simp only [g_m1, Int32.lt_iff_toInt_lt, Int32.le_iff_toInt_le, ← Int32.toInt_inj, Int32.reduceToInt] at *); omega) | ((try simp only [g_m1, Int32.lt_iff_toInt_lt, Int32.le_iff_toInt_le, ← Int32.toInt_inj, Int32.toInt_add, Int32.toInt_sub, Int32.toInt_mul, Int32.toInt_neg, Int32.reduceToInt, g_bm, g_bm'] at *); omega) | ((try simp only [g_m1, Int32.lt_iff_toInt_lt, Int32.le_iff_toInt_le, ← Int32.toInt_inj, Int32.toInt_add, Int32.toInt_sub, Int32.toInt_mul, Int32.toInt_neg, Int32.reduceToInt, g_bm, g_bm'] at *); omega) | (simp only [g_m1, Int32.lt_iff_toInt_lt, Int32.le_iff_toInt_le, ← Int32.toInt_inj, Int32.toInt_add, Int32.toInt_sub, Int32.toInt_mul, Int32.toInt_neg, Int32.reduceToInt, g_bm, g_bm'] at *; simp at *; omega) | (simp_all; done)
set_option maxRecDepth 100000 in
theorem g_X12_findName_v10 (u : qS) (N : Int) (hT : g_tk (u.2.1 1204) (u.2.1 1205) N) (ha : 0 ≤ (u.1 1207).toInt ∧ (u.1 1207).toInt ≤ N) (hn : 0 ≤ (u.1 1219).toInt ∧ (u.1 1219).toInt ≤ 8) : -1 ≤ ((-1) : Int32).toInt ∧ ((-1) : Int32).toInt < (u.1 1219).toInt := by
  first | omega | ((try simp only [g_m1, Int32.lt_iff_toInt_lt, Int32.le_iff_toInt_le, ← Int32.toInt_inj, Int32.reduceToInt] at *); omega) | ((try simp only [g_m1, Int32.lt_iff_toInt_lt, Int32.le_iff_toInt_le, ← Int32.toInt_inj, Int32.reduceToInt] at *); omega) | ((try simp only [g_m1, Int32.lt_iff_toInt_lt, Int32.le_iff_toInt_le, ← Int32.toInt_inj, Int32.toInt_add, Int32.toInt_sub, Int32.toInt_mul, Int32.toInt_neg, Int32.reduceToInt, g_bm, g_bm'] at *); omega) | ((try simp only [g_m1, Int32.lt_iff_toInt_lt, Int32.le_iff_toInt_le, ← Int32.toInt_inj, Int32.toInt_add, Int32.toInt_sub, Int32.toInt_mul, Int32.toInt_neg, Int32.reduceToInt, g_bm, g_bm'] at *); omega) | (simp only [g_m1, Int32.lt_iff_toInt_lt, Int32.le_iff_toInt_le, ← Int32.toInt_inj, Int32.toInt_add, Int32.toInt_sub, Int32.toInt_mul, Int32.toInt_neg, Int32.reduceToInt, g_bm, g_bm'] at *; simp at *; omega) | (simp_all; done)
set_option maxHeartbeats 1000000 in
set_option maxRecDepth 100000 in
theorem g_X12_findName (l : Launch) (E : qE) (A : Nat → Prop) (u : qS) (N : Int) (hT : g_tk (u.2.1 1204) (u.2.1 1205) N) (ha : 0 ≤ (u.1 1207).toInt ∧ (u.1 1207).toInt ≤ N) (hn : 0 ≤ (u.1 1219).toInt ∧ (u.1 1219).toInt ≤ 8) : Met l yX12_findName (uws yX12_findName cX12_findName 3 (some .int)) (qR 0 0 0) (qPc E A 1 u [.ref (E.2.2 1299)]) (qQi E A 1 (fun r u1 => u1 = u ∧ (-1 ≤ r.toInt ∧ r.toInt < (u.1 1219).toInt))) 0 0 A := by
  refine q_met (own := RX12) (f := 0) [.ref (E.2.2 1299)] (by decide) (Nat.le_of_ble_eq_true rfl) rfl ?_
  intro p0 e0 s0 m0 bl0 me0 cd0 ls hF hr hlocks hU hS hA hl
  have hl : lv_has ls 3 [(0, .ref (E.2.2 1299))] := hl
  have main : ∀ n : Nat, (∀ (x1 : Int32) (x2 : Int32) (uc : qS) (H : Heap) (locs : List Loc) (ls : Array Slot) (huc : u = uc) (h_k : 0 ≤ x2) (h_f : -1 ≤ x1.toInt ∧ x1.toInt < (u.1 1219).toInt), ((u.1 1219).toInt - x2.toInt).toNat < n → qH E A 1 uc s0 H → va_S A s0.heap H locs → lv_has ls 3 [(0, .ref (E.2.2 1299)), (1, .int x1), (2, .int x2)] → W p0 l e0 (qR 0 0 0) s0 m0 ([.ref (E.2.2 1299)] : List Value).toArray bl0 me0 cd0 H locs 0 0 (MQ bl0 (qQi E A 1 (fun r u1 => u1 = u ∧ (-1 ≤ r.toInt ∧ r.toInt < (u.1 1219).toInt))) ([.ref (E.2.2 1299)] : List Value).toArray s0 0 0 A) (F0 m0 4 ls [])) := by
    intro n
    induction n with
    | zero => exact fun _ _ _ _ _ _ _ _ _ hmu => absurd hmu (Nat.not_lt_zero _)
    | succ n ih =>
      intro x1 x2 uc H locs ls huc h_k h_f hmu hU hS hl
      subst huc
      refine lv_iload_n hF.1 hF.2.1 dX12_findName_4 rfl (lv_at hl 2 rfl) ?_
      refine lv_aload_n hF.1 hF.2.1 dX12_findName_5 rfl (lv_at hl 0 rfl) ?_
      refine q_get (v := .int (u.1 1219)) hF hU dX12_findName_6 0 12 19 1219 1299 rfl rfl rfl rfl inX12 (by decide) (by decide) w_1348 rfl rfl ?_
      refine lv_icmp_ge (tgt := 43) hF.1 hF.2.1 dX12_findName_9 (by decide) (fun c9_1 => ?_) (fun c9_1 => ?_)
      · refine lv_iload_n hF.1 hF.2.1 dX12_findName_43 rfl (lv_at hl 1 rfl) ?_
        exact q_iret hF hr rfl hlocks hU hS dX12_findName_44 ⟨rfl, (g_X12_findName_v0 u N x1 x2 hT ha hn h_k h_f c9_1)⟩
      · refine lv_aload_n hF.1 hF.2.1 dX12_findName_12 rfl (lv_at hl 0 rfl) ?_
        refine q_get (v := .ref (E.2.2 1220)) hF hU dX12_findName_13 0 12 20 1220 1299 rfl rfl rfl rfl inX12 (by decide) (by decide) w_1349 rfl rfl ?_
        refine lv_iload_n hF.1 hF.2.1 dX12_findName_16 rfl (lv_at hl 2 rfl) ?_
        refine q_lald (v := u.2.2.1 1220 (x2 : Int32).toNatClampNeg) hF hU dX12_findName_17 13 1220 rfl rfl (g_X12_findName_v1 u N x1 x2 hT ha hn h_k h_f c9_1) rfl ?_
        refine lv_aload_n hF.1 hF.2.1 dX12_findName_18 rfl (lv_at hl 0 rfl) ?_
        refine q_get (v := .ref (E.2.2 1206)) hF hU dX12_findName_19 0 12 6 1206 1299 rfl rfl rfl rfl inX12 (by decide) (by decide) w_1335 rfl rfl ?_
        refine lv_aload_n hF.1 hF.2.1 dX12_findName_22 rfl (lv_at hl 0 rfl) ?_
        refine q_get (v := .int (u.1 1207)) hF hU dX12_findName_23 0 12 7 1207 1299 rfl rfl rfl rfl inX12 (by decide) (by decide) w_1336 rfl rfl ?_
        refine q_lald (v := u.2.2.1 1206 (u.1 1207 : Int32).toNatClampNeg) hF hU dX12_findName_26 3 1206 rfl rfl (g_X12_findName_v2 u N x1 x2 hT ha hn h_k h_f c9_1) rfl ?_
        refine W.lcmp hF.1 hF.2.1 dX12_findName_27 ?_
        refine lv_if_ne (tgt := 35) hF.1 hF.2.1 dX12_findName_28 (by decide) (fun c28_2 => ?_) (fun c28_2 => ?_)
        · refine lv_iload_n hF.1 hF.2.1 dX12_findName_35 rfl (lv_at hl 1 rfl) ?_
          refine lv_istore_n (lv' := [(1, .int x1), (0, .ref (E.2.2 1299)), (2, .int x2)]) hF.1 hF.2.1 dX12_findName_36 rfl hl (by decide) rfl (fun ls hl => ?_)
          refine lv_iinc (v := x2 + 1) (lv' := [(2, .int (x2 + 1)), (1, .int x1), (0, .ref (E.2.2 1299))]) hF.1 hF.2.1 dX12_findName_37 hl (k := 2) rfl rfl (by decide) rfl (fun ls hl => ?_)
          refine lv_goto (tgt := 4) hF.1 hF.2.1 dX12_findName_40 (by decide) ?_
          exact ih x1 (x2 + 1) u _ _ _ rfl (g_X12_findName_v3 u N x1 x2 hT ha hn h_k h_f c9_1 c28_2) (g_X12_findName_v4 u N x1 x2 hT ha hn h_k h_f c9_1 c28_2) (Nat.lt_of_lt_of_le (g_X12_findName_v5 u N x1 x2 hT ha hn h_k h_f c9_1 c28_2) (Nat.lt_succ_iff.mp hmu)) hU hS (lv_sub hl [2, 1, 0] rfl)
        · refine lv_iload_n hF.1 hF.2.1 dX12_findName_31 rfl (lv_at hl 2 rfl) ?_
          refine lv_goto (tgt := 36) hF.1 hF.2.1 dX12_findName_32 (by decide) ?_
          refine lv_istore_n (lv' := [(1, .int x2), (0, .ref (E.2.2 1299)), (2, .int x2)]) hF.1 hF.2.1 dX12_findName_36 rfl hl (by decide) rfl (fun ls hl => ?_)
          refine lv_iinc (v := x2 + 1) (lv' := [(2, .int (x2 + 1)), (1, .int x2), (0, .ref (E.2.2 1299))]) hF.1 hF.2.1 dX12_findName_37 hl (k := 2) rfl rfl (by decide) rfl (fun ls hl => ?_)
          refine lv_goto (tgt := 4) hF.1 hF.2.1 dX12_findName_40 (by decide) ?_
          exact ih x2 (x2 + 1) u _ _ _ rfl (g_X12_findName_v6 u N x1 x2 hT ha hn h_k h_f c9_1 c28_2) (g_X12_findName_v7 u N x1 x2 hT ha hn h_k h_f c9_1 c28_2) (Nat.lt_of_lt_of_le (g_X12_findName_v8 u N x1 x2 hT ha hn h_k h_f c9_1 c28_2) (Nat.lt_succ_iff.mp hmu)) hU hS (lv_sub hl [2, 1, 0] rfl)
  refine lv_iconst (v := (-1)) hF.1 hF.2.1 dX12_findName_0 (by decide) ?_
  refine lv_istore_n (lv' := [(1, .int (-1)), (0, .ref (E.2.2 1299))]) hF.1 hF.2.1 dX12_findName_1 rfl hl (by decide) rfl (fun ls hl => ?_)
  refine lv_iconst (v := 0) hF.1 hF.2.1 dX12_findName_2 (by decide) ?_
  refine lv_istore_n (lv' := [(2, .int 0), (1, .int (-1)), (0, .ref (E.2.2 1299))]) hF.1 hF.2.1 dX12_findName_3 rfl hl (by decide) rfl (fun ls hl => ?_)
  exact (main _) ((-1) : Int32) (0 : Int32) u _ _ _ rfl (g_X12_findName_v9 u N hT ha hn) (g_X12_findName_v10 u N hT ha hn) (Nat.lt_succ_self _) hU hS (lv_sub hl [2, 1, 0] rfl)
set_option maxRecDepth 100000 in
theorem g_X12_hasSign_v0 (u : qS) (N : Int) (hT : g_tk (u.2.1 1204) (u.2.1 1205) N) (ha : 0 ≤ (u.1 1207).toInt ∧ (u.1 1207).toInt ≤ N) : g_tk ((u.2.1 1204)) ((u.2.1 1205)) N := by
  assumption
set_option maxRecDepth 100000 in
theorem g_X12_hasSign_v1 (u : qS) (x : Int32) (N : Int) (hT : g_tk (u.2.1 1204) (u.2.1 1205) N) (ha : 0 ≤ (u.1 1207).toInt ∧ (u.1 1207).toInt ≤ N) : 0 ≤ ((u.1 1207 : Int32)).toInt ∧ ((u.1 1207 : Int32)).toInt ≤ N := by
  first | omega | ((try simp only [g_m1, Int32.lt_iff_toInt_lt, Int32.le_iff_toInt_le, ← Int32.toInt_inj, Int32.reduceToInt] at *); omega) | ((try simp only [g_m1, Int32.lt_iff_toInt_lt, Int32.le_iff_toInt_le, ← Int32.toInt_inj, Int32.reduceToInt] at *); omega) | ((try simp only [g_m1, Int32.lt_iff_toInt_lt, Int32.le_iff_toInt_le, ← Int32.toInt_inj, Int32.toInt_add, Int32.toInt_sub, Int32.toInt_mul, Int32.toInt_neg, Int32.reduceToInt, g_bm, g_bm'] at *); omega) | (have qr1 := g_rng x; (try simp only [g_m1, Int32.lt_iff_toInt_lt, Int32.le_iff_toInt_le, ← Int32.toInt_inj, Int32.toInt_add, Int32.toInt_sub, Int32.toInt_mul, Int32.toInt_neg, Int32.reduceToInt, g_bm, g_bm'] at *); omega) | (simp only [g_m1, Int32.lt_iff_toInt_lt, Int32.le_iff_toInt_le, ← Int32.toInt_inj, Int32.toInt_add, Int32.toInt_sub, Int32.toInt_mul, Int32.toInt_neg, Int32.reduceToInt, g_bm, g_bm'] at *; simp at *; omega) | (simp_all; done)
set_option maxRecDepth 100000 in
theorem g_X12_hasSign_v2 (u : qS) (x : Int32) (N : Int) (hT : g_tk (u.2.1 1204) (u.2.1 1205) N) (ha : 0 ≤ (u.1 1207).toInt ∧ (u.1 1207).toInt ≤ N) (b2_4 : g_isS (u.1 1208) (u.2.1 1204) (u.2.2.1 1206) (u.1 1207) x ∧ (u.1 1207).toInt < N ∧ u.1 1208 = 0) : (1 = (1 : Int32) ∧ (g_isS (u.1 1208) (u.2.1 1204) (u.2.2.1 1206) (u.1 1207) x ∧ ((u.1 1207).toInt < N ∧ u.1 1208 = 0) ∧ ((u.1 1207) + 1 : Int32) = u.1 1207 + 1)) ∨ (1 = (0 : Int32) ∧ ((¬ g_isS (u.1 1208) (u.2.1 1204) (u.2.2.1 1206) (u.1 1207) x) ∧ ((u.1 1207) + 1 : Int32) = u.1 1207)) := by
  first | exact Or.inl ⟨rfl, (by assumption : _ ∧ _ ∧ _).1, (by assumption : _ ∧ _ ∧ _).2, rfl⟩ | exact Or.inr ⟨rfl, by assumption, Int32.add_zero _⟩
set_option maxRecDepth 100000 in
theorem g_X12_hasSign_v3 (u : qS) (x : Int32) (N : Int) (hT : g_tk (u.2.1 1204) (u.2.1 1205) N) (ha : 0 ≤ (u.1 1207).toInt ∧ (u.1 1207).toInt ≤ N) (b2_4 : ¬ g_isS (u.1 1208) (u.2.1 1204) (u.2.2.1 1206) (u.1 1207) x) : (0 = (1 : Int32) ∧ (g_isS (u.1 1208) (u.2.1 1204) (u.2.2.1 1206) (u.1 1207) x ∧ ((u.1 1207).toInt < N ∧ u.1 1208 = 0) ∧ ((u.1 1207) + 0 : Int32) = u.1 1207 + 1)) ∨ (0 = (0 : Int32) ∧ ((¬ g_isS (u.1 1208) (u.2.1 1204) (u.2.2.1 1206) (u.1 1207) x) ∧ ((u.1 1207) + 0 : Int32) = u.1 1207)) := by
  first | exact Or.inl ⟨rfl, (by assumption : _ ∧ _ ∧ _).1, (by assumption : _ ∧ _ ∧ _).2, rfl⟩ | exact Or.inr ⟨rfl, by assumption, Int32.add_zero _⟩
set_option maxHeartbeats 1000000 in
set_option maxRecDepth 100000 in
theorem g_X12_hasSign (l : Launch) (E : qE) (A : Nat → Prop) (u : qS) (x : Int32) (N : Int) (hT : g_tk (u.2.1 1204) (u.2.1 1205) N) (ha : 0 ≤ (u.1 1207).toInt ∧ (u.1 1207).toInt ≤ N) : Met l yX12_hasSign (uws yX12_hasSign cX12_hasSign 3 (some .boolean)) (qR 1 0 0) (qPc E A 1 u [.ref (E.2.2 1299), .int x]) (qQi E A 1 (fun r u1 => qFr [1207] [] [] u u1 ∧ ((r = 1 ∧ (g_isS (u.1 1208) (u.2.1 1204) (u.2.2.1 1206) (u.1 1207) x ∧ ((u.1 1207).toInt < N ∧ u.1 1208 = 0) ∧ u1.1 1207 = u.1 1207 + 1)) ∨ (r = 0 ∧ ((¬ g_isS (u.1 1208) (u.2.1 1204) (u.2.2.1 1206) (u.1 1207) x) ∧ u1.1 1207 = u.1 1207))))) 0 0 A := by
  refine q_met (own := RX12) (f := 1) [.ref (E.2.2 1299), .int x] (by decide) (Nat.le_of_ble_eq_true rfl) rfl ?_
  intro p0 e0 s0 m0 bl0 me0 cd0 ls hF hr hlocks hU hS hA hl
  have hl : lv_has ls 3 [(0, .ref (E.2.2 1299)), (1, .int x)] := hl
  have hfr : qFr [1207] [] [] u u := qFr.rf
  refine lv_aload_n hF.1 hF.2.1 dX12_hasSign_0 rfl (lv_at hl 0 rfl) ?_
  refine lv_iload_n hF.1 hF.2.1 dX12_hasSign_1 rfl (lv_at hl 1 rfl) ?_
  have hM9 := g_X12_isSign l E A u x N (g_X12_hasSign_v0 u N hT ha) (g_X12_hasSign_v1 u x N hT ha)
  have hR9 := q_runV (l := l) (e := e0) (below := bl0) (meth := me0) (R := qR 1 0 0) (cells := 0) (slots := 0) (st0 := [.int x, .ref (E.2.2 1299)]) (rest := []) hF hU hS hA 1 0 12 1299 rfl rfl rfl hM9 w_1624 w_1626 w_55 w_107 w_1627 (by decide +kernel) ⟨Nat.le_of_ble_eq_true rfl, Nat.le_of_ble_eq_true rfl⟩ dX12_hasSign_2 rfl hl.1 rfl (Nat.le_of_ble_eq_true rfl) ⟨Nat.le_of_ble_eq_true rfl, Nat.le_of_ble_eq_true rfl⟩
  refine q_calli hR9 hU.2.2.2 hS (fun r_3 u_1 H locs hw_2 hU hS => ?_)
  obtain ⟨hw_2_e, hw_2⟩ := hw_2
  rw [hw_2_e] at hU
  have hw_2 : (r_3 = 1 ∧ (g_isS (u.1 1208) (u.2.1 1204) (u.2.2.1 1206) (u.1 1207) x ∧ (u.1 1207).toInt < N ∧ u.1 1208 = 0)) ∨ (r_3 = 0 ∧ (¬ g_isS (u.1 1208) (u.2.1 1204) (u.2.2.1 1206) (u.1 1207) x)) := hw_2
  rcases hw_2 with ⟨rfl, b2_4⟩ | ⟨rfl, b2_4⟩
  · refine lv_istore_n (lv' := [(2, .int 1), (0, .ref (E.2.2 1299)), (1, .int x)]) hF.1 hF.2.1 dX12_hasSign_5 rfl hl (by decide) rfl (fun ls hl => ?_)
    refine lv_aload_n hF.1 hF.2.1 dX12_hasSign_6 rfl (lv_at hl 1 rfl) ?_
    refine lv_dup hF.1 hF.2.1 dX12_hasSign_7 rfl ?_
    refine q_get (v := .int (u.1 1207)) hF hU dX12_hasSign_8 0 12 7 1207 1299 rfl rfl rfl rfl inX12 (by decide) (by decide) w_1336 rfl rfl ?_
    refine lv_iload_n hF.1 hF.2.1 dX12_hasSign_11 rfl (lv_at hl 0 rfl) ?_
    refine lv_if_eq (tgt := 19) hF.1 hF.2.1 dX12_hasSign_12 (by decide) (fun h9 => absurd h9 (by decide)) (fun _ => ?_)
    refine lv_iconst (v := 1) hF.1 hF.2.1 dX12_hasSign_15 (by decide) ?_
    refine lv_goto (tgt := 20) hF.1 hF.2.1 dX12_hasSign_16 (by decide) ?_
    refine lv_iadd hF.1 hF.2.1 dX12_hasSign_20 ?_
    refine q_put hF hU hS dX12_hasSign_21 0 12 7 1207 1299 rfl rfl rfl rfl inX12 tyX12 tyX12_ok nmX12 (by decide) (by decide) rfl w_1336 rfl rfl rfl rfl (fun H locs hU hS => ?_)
    have hfr : qFr [1207] [] [] u (qsI u 1207 ((u.1 1207) + 1)) := hfr.setI (by decide)
    refine lv_iload_n hF.1 hF.2.1 dX12_hasSign_24 rfl (lv_at hl 0 rfl) ?_
    exact q_iret hF hr (by decide) hlocks hU hS dX12_hasSign_25 ⟨hfr, (g_X12_hasSign_v2 u x N hT ha b2_4)⟩
  · refine lv_istore_n (lv' := [(2, .int 0), (0, .ref (E.2.2 1299)), (1, .int x)]) hF.1 hF.2.1 dX12_hasSign_5 rfl hl (by decide) rfl (fun ls hl => ?_)
    refine lv_aload_n hF.1 hF.2.1 dX12_hasSign_6 rfl (lv_at hl 1 rfl) ?_
    refine lv_dup hF.1 hF.2.1 dX12_hasSign_7 rfl ?_
    refine q_get (v := .int (u.1 1207)) hF hU dX12_hasSign_8 0 12 7 1207 1299 rfl rfl rfl rfl inX12 (by decide) (by decide) w_1336 rfl rfl ?_
    refine lv_iload_n hF.1 hF.2.1 dX12_hasSign_11 rfl (lv_at hl 0 rfl) ?_
    refine lv_if_eq (tgt := 19) hF.1 hF.2.1 dX12_hasSign_12 (by decide) (fun _ => ?_) (fun h9 => absurd (by decide) h9)
    refine lv_iconst (v := 0) hF.1 hF.2.1 dX12_hasSign_19 (by decide) ?_
    refine lv_iadd hF.1 hF.2.1 dX12_hasSign_20 ?_
    refine q_put hF hU hS dX12_hasSign_21 0 12 7 1207 1299 rfl rfl rfl rfl inX12 tyX12 tyX12_ok nmX12 (by decide) (by decide) rfl w_1336 rfl rfl rfl rfl (fun H locs hU hS => ?_)
    have hfr : qFr [1207] [] [] u (qsI u 1207 ((u.1 1207) + 0)) := hfr.setI (by decide)
    refine lv_iload_n hF.1 hF.2.1 dX12_hasSign_24 rfl (lv_at hl 0 rfl) ?_
    exact q_iret hF hr (by decide) hlocks hU hS dX12_hasSign_25 ⟨hfr, (g_X12_hasSign_v3 u x N hT ha b2_4)⟩
set_option maxRecDepth 100000 in
theorem g_X12_hasWord_v0 (u : qS) (x : Int32) (N : Int) (hT : g_tk (u.2.1 1204) (u.2.1 1205) N) (ha : 0 ≤ (u.1 1207).toInt ∧ (u.1 1207).toInt ≤ N) (hx : 0 ≤ (x : Int32) ∧ (x : Int32) < 15) : g_tk ((u.2.1 1204)) ((u.2.1 1205)) N := by
  assumption
set_option maxRecDepth 100000 in
theorem g_X12_hasWord_v1 (u : qS) (x : Int32) (N : Int) (hT : g_tk (u.2.1 1204) (u.2.1 1205) N) (ha : 0 ≤ (u.1 1207).toInt ∧ (u.1 1207).toInt ≤ N) (hx : 0 ≤ (x : Int32) ∧ (x : Int32) < 15) : 0 ≤ ((u.1 1207 : Int32)).toInt ∧ ((u.1 1207 : Int32)).toInt ≤ N := by
  first | omega | ((try simp only [g_m1, Int32.lt_iff_toInt_lt, Int32.le_iff_toInt_le, ← Int32.toInt_inj, Int32.reduceToInt] at *); omega) | ((try simp only [g_m1, Int32.lt_iff_toInt_lt, Int32.le_iff_toInt_le, ← Int32.toInt_inj, Int32.reduceToInt] at *); omega) | ((try simp only [g_m1, Int32.lt_iff_toInt_lt, Int32.le_iff_toInt_le, ← Int32.toInt_inj, Int32.toInt_add, Int32.toInt_sub, Int32.toInt_mul, Int32.toInt_neg, Int32.reduceToInt, g_bm, g_bm'] at *); omega) | (have qr1 := g_rng x; (try simp only [g_m1, Int32.lt_iff_toInt_lt, Int32.le_iff_toInt_le, ← Int32.toInt_inj, Int32.toInt_add, Int32.toInt_sub, Int32.toInt_mul, Int32.toInt_neg, Int32.reduceToInt, g_bm, g_bm'] at *); omega) | (simp only [g_m1, Int32.lt_iff_toInt_lt, Int32.le_iff_toInt_le, ← Int32.toInt_inj, Int32.toInt_add, Int32.toInt_sub, Int32.toInt_mul, Int32.toInt_neg, Int32.reduceToInt, g_bm, g_bm'] at *; simp at *; omega) | (simp_all; done)
set_option maxRecDepth 100000 in
theorem g_X12_hasWord_v2 (u : qS) (x : Int32) (N : Int) (hT : g_tk (u.2.1 1204) (u.2.1 1205) N) (ha : 0 ≤ (u.1 1207).toInt ∧ (u.1 1207).toInt ≤ N) (hx : 0 ≤ (x : Int32) ∧ (x : Int32) < 15) : 0 ≤ (x : Int32) ∧ (x : Int32) < 15 := by
  first | omega | ((try simp only [g_m1, Int32.lt_iff_toInt_lt, Int32.le_iff_toInt_le, ← Int32.toInt_inj, Int32.reduceToInt] at *); omega) | ((try simp only [g_m1, Int32.lt_iff_toInt_lt, Int32.le_iff_toInt_le, ← Int32.toInt_inj, Int32.reduceToInt] at *); omega) | ((try simp only [g_m1, Int32.lt_iff_toInt_lt, Int32.le_iff_toInt_le, ← Int32.toInt_inj, Int32.toInt_add, Int32.toInt_sub, Int32.toInt_mul, Int32.toInt_neg, Int32.reduceToInt, g_bm, g_bm'] at *); omega) | (have qr1 := g_rng x; (try simp only [g_m1, Int32.lt_iff_toInt_lt, Int32.le_iff_toInt_le, ← Int32.toInt_inj, Int32.toInt_add, Int32.toInt_sub, Int32.toInt_mul, Int32.toInt_neg, Int32.reduceToInt, g_bm, g_bm'] at *); omega) | (simp only [g_m1, Int32.lt_iff_toInt_lt, Int32.le_iff_toInt_le, ← Int32.toInt_inj, Int32.toInt_add, Int32.toInt_sub, Int32.toInt_mul, Int32.toInt_neg, Int32.reduceToInt, g_bm, g_bm'] at *; simp at *; omega) | (simp_all; done)
set_option maxRecDepth 100000 in
theorem g_X12_hasWord_v3 (u : qS) (x : Int32) (N : Int) (hT : g_tk (u.2.1 1204) (u.2.1 1205) N) (ha : 0 ≤ (u.1 1207).toInt ∧ (u.1 1207).toInt ≤ N) (hx : 0 ≤ (x : Int32) ∧ (x : Int32) < 15) (b2_4 : g_isW (u.1 1208) (u.2.1 1204) (u.2.2.1 1206) (u.1 1207) (u.2.2.1 1209) x ∧ (u.1 1207).toInt < N ∧ u.1 1208 = 0) : (1 = (1 : Int32) ∧ (g_isW (u.1 1208) (u.2.1 1204) (u.2.2.1 1206) (u.1 1207) (u.2.2.1 1209) x ∧ ((u.1 1207).toInt < N ∧ u.1 1208 = 0) ∧ ((u.1 1207) + 1 : Int32) = u.1 1207 + 1)) ∨ (1 = (0 : Int32) ∧ ((¬ g_isW (u.1 1208) (u.2.1 1204) (u.2.2.1 1206) (u.1 1207) (u.2.2.1 1209) x) ∧ ((u.1 1207) + 1 : Int32) = u.1 1207)) := by
  first | exact Or.inl ⟨rfl, (by assumption : _ ∧ _ ∧ _).1, (by assumption : _ ∧ _ ∧ _).2, rfl⟩ | exact Or.inr ⟨rfl, by assumption, Int32.add_zero _⟩
set_option maxRecDepth 100000 in
theorem g_X12_hasWord_v4 (u : qS) (x : Int32) (N : Int) (hT : g_tk (u.2.1 1204) (u.2.1 1205) N) (ha : 0 ≤ (u.1 1207).toInt ∧ (u.1 1207).toInt ≤ N) (hx : 0 ≤ (x : Int32) ∧ (x : Int32) < 15) (b2_4 : ¬ g_isW (u.1 1208) (u.2.1 1204) (u.2.2.1 1206) (u.1 1207) (u.2.2.1 1209) x) : (0 = (1 : Int32) ∧ (g_isW (u.1 1208) (u.2.1 1204) (u.2.2.1 1206) (u.1 1207) (u.2.2.1 1209) x ∧ ((u.1 1207).toInt < N ∧ u.1 1208 = 0) ∧ ((u.1 1207) + 0 : Int32) = u.1 1207 + 1)) ∨ (0 = (0 : Int32) ∧ ((¬ g_isW (u.1 1208) (u.2.1 1204) (u.2.2.1 1206) (u.1 1207) (u.2.2.1 1209) x) ∧ ((u.1 1207) + 0 : Int32) = u.1 1207)) := by
  first | exact Or.inl ⟨rfl, (by assumption : _ ∧ _ ∧ _).1, (by assumption : _ ∧ _ ∧ _).2, rfl⟩ | exact Or.inr ⟨rfl, by assumption, Int32.add_zero _⟩
set_option maxHeartbeats 1000000 in
set_option maxRecDepth 100000 in
theorem g_X12_hasWord (l : Launch) (E : qE) (A : Nat → Prop) (u : qS) (x : Int32) (N : Int) (hT : g_tk (u.2.1 1204) (u.2.1 1205) N) (ha : 0 ≤ (u.1 1207).toInt ∧ (u.1 1207).toInt ≤ N) (hx : 0 ≤ (x : Int32) ∧ (x : Int32) < 15) : Met l yX12_hasWord (uws yX12_hasWord cX12_hasWord 3 (some .boolean)) (qR 1 0 0) (qPc E A 1 u [.ref (E.2.2 1299), .int x]) (qQi E A 1 (fun r u1 => qFr [1207] [] [] u u1 ∧ ((r = 1 ∧ (g_isW (u.1 1208) (u.2.1 1204) (u.2.2.1 1206) (u.1 1207) (u.2.2.1 1209) x ∧ ((u.1 1207).toInt < N ∧ u.1 1208 = 0) ∧ u1.1 1207 = u.1 1207 + 1)) ∨ (r = 0 ∧ ((¬ g_isW (u.1 1208) (u.2.1 1204) (u.2.2.1 1206) (u.1 1207) (u.2.2.1 1209) x) ∧ u1.1 1207 = u.1 1207))))) 0 0 A := by
  refine q_met (own := RX12) (f := 1) [.ref (E.2.2 1299), .int x] (by decide) (Nat.le_of_ble_eq_true rfl) rfl ?_
  intro p0 e0 s0 m0 bl0 me0 cd0 ls hF hr hlocks hU hS hA hl
  have hl : lv_has ls 3 [(0, .ref (E.2.2 1299)), (1, .int x)] := hl
  have hfr : qFr [1207] [] [] u u := qFr.rf
  refine lv_aload_n hF.1 hF.2.1 dX12_hasWord_0 rfl (lv_at hl 0 rfl) ?_
  refine lv_iload_n hF.1 hF.2.1 dX12_hasWord_1 rfl (lv_at hl 1 rfl) ?_
  have hM9 := g_X12_isWord l E A u x N (g_X12_hasWord_v0 u x N hT ha hx) (g_X12_hasWord_v1 u x N hT ha hx) (g_X12_hasWord_v2 u x N hT ha hx)
  have hR9 := q_runV (l := l) (e := e0) (below := bl0) (meth := me0) (R := qR 1 0 0) (cells := 0) (slots := 0) (st0 := [.int x, .ref (E.2.2 1299)]) (rest := []) hF hU hS hA 1 0 12 1299 rfl rfl rfl hM9 w_1600 w_1602 w_49 w_107 w_1603 (by decide +kernel) ⟨Nat.le_of_ble_eq_true rfl, Nat.le_of_ble_eq_true rfl⟩ dX12_hasWord_2 rfl hl.1 rfl (Nat.le_of_ble_eq_true rfl) ⟨Nat.le_of_ble_eq_true rfl, Nat.le_of_ble_eq_true rfl⟩
  refine q_calli hR9 hU.2.2.2 hS (fun r_3 u_1 H locs hw_2 hU hS => ?_)
  obtain ⟨hw_2_e, hw_2⟩ := hw_2
  rw [hw_2_e] at hU
  have hw_2 : (r_3 = 1 ∧ (g_isW (u.1 1208) (u.2.1 1204) (u.2.2.1 1206) (u.1 1207) (u.2.2.1 1209) x ∧ (u.1 1207).toInt < N ∧ u.1 1208 = 0)) ∨ (r_3 = 0 ∧ (¬ g_isW (u.1 1208) (u.2.1 1204) (u.2.2.1 1206) (u.1 1207) (u.2.2.1 1209) x)) := hw_2
  rcases hw_2 with ⟨rfl, b2_4⟩ | ⟨rfl, b2_4⟩
  · refine lv_istore_n (lv' := [(2, .int 1), (0, .ref (E.2.2 1299)), (1, .int x)]) hF.1 hF.2.1 dX12_hasWord_5 rfl hl (by decide) rfl (fun ls hl => ?_)
    refine lv_aload_n hF.1 hF.2.1 dX12_hasWord_6 rfl (lv_at hl 1 rfl) ?_
    refine lv_dup hF.1 hF.2.1 dX12_hasWord_7 rfl ?_
    refine q_get (v := .int (u.1 1207)) hF hU dX12_hasWord_8 0 12 7 1207 1299 rfl rfl rfl rfl inX12 (by decide) (by decide) w_1336 rfl rfl ?_
    refine lv_iload_n hF.1 hF.2.1 dX12_hasWord_11 rfl (lv_at hl 0 rfl) ?_
    refine lv_if_eq (tgt := 19) hF.1 hF.2.1 dX12_hasWord_12 (by decide) (fun h9 => absurd h9 (by decide)) (fun _ => ?_)
    refine lv_iconst (v := 1) hF.1 hF.2.1 dX12_hasWord_15 (by decide) ?_
    refine lv_goto (tgt := 20) hF.1 hF.2.1 dX12_hasWord_16 (by decide) ?_
    refine lv_iadd hF.1 hF.2.1 dX12_hasWord_20 ?_
    refine q_put hF hU hS dX12_hasWord_21 0 12 7 1207 1299 rfl rfl rfl rfl inX12 tyX12 tyX12_ok nmX12 (by decide) (by decide) rfl w_1336 rfl rfl rfl rfl (fun H locs hU hS => ?_)
    have hfr : qFr [1207] [] [] u (qsI u 1207 ((u.1 1207) + 1)) := hfr.setI (by decide)
    refine lv_iload_n hF.1 hF.2.1 dX12_hasWord_24 rfl (lv_at hl 0 rfl) ?_
    exact q_iret hF hr (by decide) hlocks hU hS dX12_hasWord_25 ⟨hfr, (g_X12_hasWord_v3 u x N hT ha hx b2_4)⟩
  · refine lv_istore_n (lv' := [(2, .int 0), (0, .ref (E.2.2 1299)), (1, .int x)]) hF.1 hF.2.1 dX12_hasWord_5 rfl hl (by decide) rfl (fun ls hl => ?_)
    refine lv_aload_n hF.1 hF.2.1 dX12_hasWord_6 rfl (lv_at hl 1 rfl) ?_
    refine lv_dup hF.1 hF.2.1 dX12_hasWord_7 rfl ?_
    refine q_get (v := .int (u.1 1207)) hF hU dX12_hasWord_8 0 12 7 1207 1299 rfl rfl rfl rfl inX12 (by decide) (by decide) w_1336 rfl rfl ?_
    refine lv_iload_n hF.1 hF.2.1 dX12_hasWord_11 rfl (lv_at hl 0 rfl) ?_
    refine lv_if_eq (tgt := 19) hF.1 hF.2.1 dX12_hasWord_12 (by decide) (fun _ => ?_) (fun h9 => absurd (by decide) h9)
    refine lv_iconst (v := 0) hF.1 hF.2.1 dX12_hasWord_19 (by decide) ?_
    refine lv_iadd hF.1 hF.2.1 dX12_hasWord_20 ?_
    refine q_put hF hU hS dX12_hasWord_21 0 12 7 1207 1299 rfl rfl rfl rfl inX12 tyX12 tyX12_ok nmX12 (by decide) (by decide) rfl w_1336 rfl rfl rfl rfl (fun H locs hU hS => ?_)
    have hfr : qFr [1207] [] [] u (qsI u 1207 ((u.1 1207) + 0)) := hfr.setI (by decide)
    refine lv_iload_n hF.1 hF.2.1 dX12_hasWord_24 rfl (lv_at hl 0 rfl) ?_
    exact q_iret hF hr (by decide) hlocks hU hS dX12_hasWord_25 ⟨hfr, (g_X12_hasWord_v4 u x N hT ha hx b2_4)⟩
set_option maxRecDepth 100000 in
theorem g_X12_takeSign_v0 (u : qS) (N : Int) (hT : g_tk (u.2.1 1204) (u.2.1 1205) N) (ha : 0 ≤ (u.1 1207).toInt ∧ (u.1 1207).toInt ≤ N) (hf : 0 ≤ (u.1 1208).toInt) : g_tk ((u.2.1 1204)) ((u.2.1 1205)) N := by
  assumption
set_option maxRecDepth 100000 in
theorem g_X12_takeSign_v1 (u : qS) (x : Int32) (N : Int) (hT : g_tk (u.2.1 1204) (u.2.1 1205) N) (ha : 0 ≤ (u.1 1207).toInt ∧ (u.1 1207).toInt ≤ N) (hf : 0 ≤ (u.1 1208).toInt) : 0 ≤ ((u.1 1207 : Int32)).toInt ∧ ((u.1 1207 : Int32)).toInt ≤ N := by
  first | omega | ((try simp only [g_m1, Int32.lt_iff_toInt_lt, Int32.le_iff_toInt_le, ← Int32.toInt_inj, Int32.reduceToInt] at *); omega) | ((try simp only [g_m1, Int32.lt_iff_toInt_lt, Int32.le_iff_toInt_le, ← Int32.toInt_inj, Int32.reduceToInt] at *); omega) | ((try simp only [g_m1, Int32.lt_iff_toInt_lt, Int32.le_iff_toInt_le, ← Int32.toInt_inj, Int32.toInt_add, Int32.toInt_sub, Int32.toInt_mul, Int32.toInt_neg, Int32.reduceToInt, g_bm, g_bm'] at *); omega) | (have qr1 := g_rng x; (try simp only [g_m1, Int32.lt_iff_toInt_lt, Int32.le_iff_toInt_le, ← Int32.toInt_inj, Int32.toInt_add, Int32.toInt_sub, Int32.toInt_mul, Int32.toInt_neg, Int32.reduceToInt, g_bm, g_bm'] at *); omega) | (simp only [g_m1, Int32.lt_iff_toInt_lt, Int32.le_iff_toInt_le, ← Int32.toInt_inj, Int32.toInt_add, Int32.toInt_sub, Int32.toInt_mul, Int32.toInt_neg, Int32.reduceToInt, g_bm, g_bm'] at *; simp at *; omega) | (simp_all; done)
set_option maxRecDepth 100000 in
theorem g_X12_takeSign_v2 (u : qS) (x : Int32) (N : Int) (hT : g_tk (u.2.1 1204) (u.2.1 1205) N) (ha : 0 ≤ (u.1 1207).toInt ∧ (u.1 1207).toInt ≤ N) (hf : 0 ≤ (u.1 1208).toInt) (b2_4 : g_isS (u.1 1208) (u.2.1 1204) (u.2.2.1 1206) (u.1 1207) x ∧ (u.1 1207).toInt < N ∧ u.1 1208 = 0) : g_mv N (u.1 1207) (u.1 1208) (((u.1 1207) + 1 : Int32)) ((u.1 1208 : Int32)) := by
  first | exact ⟨by omega, by omega, by omega, fun q => q⟩ | (refine ⟨?_, ?_, ?_, ?_⟩ <;> first | (intro q; first | assumption | (exfalso; (try simp only [g_m1, Int32.lt_iff_toInt_lt, Int32.le_iff_toInt_le, ← Int32.toInt_inj, Int32.reduceToInt] at *); omega)) | (have q9 := hT.N; (try simp only [g_m1, Int32.lt_iff_toInt_lt, Int32.le_iff_toInt_le, ← Int32.toInt_inj, Int32.reduceToInt] at *); omega) | (have q9 := hT.N; (try simp only [g_m1, Int32.lt_iff_toInt_lt, Int32.le_iff_toInt_le, ← Int32.toInt_inj, Int32.toInt_add, Int32.toInt_sub, Int32.toInt_mul, Int32.toInt_neg, Int32.reduceToInt, g_bm, g_bm'] at *); omega))
set_option maxRecDepth 100000 in
theorem g_X12_takeSign_v3 (u : qS) (x : Int32) (N : Int) (hT : g_tk (u.2.1 1204) (u.2.1 1205) N) (ha : 0 ≤ (u.1 1207).toInt ∧ (u.1 1207).toInt ≤ N) (hf : 0 ≤ (u.1 1208).toInt) (b2_4 : ¬ g_isS (u.1 1208) (u.2.1 1204) (u.2.2.1 1206) (u.1 1207) x) : g_tk ((u.2.1 1204)) ((u.2.1 1205)) N := by
  assumption
set_option maxRecDepth 100000 in
theorem g_X12_takeSign_v4 (u : qS) (x : Int32) (N : Int) (hT : g_tk (u.2.1 1204) (u.2.1 1205) N) (ha : 0 ≤ (u.1 1207).toInt ∧ (u.1 1207).toInt ≤ N) (hf : 0 ≤ (u.1 1208).toInt) (b2_4 : ¬ g_isS (u.1 1208) (u.2.1 1204) (u.2.2.1 1206) (u.1 1207) x) : 0 ≤ ((u.1 1207 : Int32)).toInt ∧ ((u.1 1207 : Int32)).toInt ≤ N := by
  first | omega | ((try simp only [g_m1, Int32.lt_iff_toInt_lt, Int32.le_iff_toInt_le, ← Int32.toInt_inj, Int32.reduceToInt] at *); omega) | ((try simp only [g_m1, Int32.lt_iff_toInt_lt, Int32.le_iff_toInt_le, ← Int32.toInt_inj, Int32.reduceToInt] at *); omega) | ((try simp only [g_m1, Int32.lt_iff_toInt_lt, Int32.le_iff_toInt_le, ← Int32.toInt_inj, Int32.toInt_add, Int32.toInt_sub, Int32.toInt_mul, Int32.toInt_neg, Int32.reduceToInt, g_bm, g_bm'] at *); omega) | (have qr1 := g_rng x; (try simp only [g_m1, Int32.lt_iff_toInt_lt, Int32.le_iff_toInt_le, ← Int32.toInt_inj, Int32.toInt_add, Int32.toInt_sub, Int32.toInt_mul, Int32.toInt_neg, Int32.reduceToInt, g_bm, g_bm'] at *); omega) | (simp only [g_m1, Int32.lt_iff_toInt_lt, Int32.le_iff_toInt_le, ← Int32.toInt_inj, Int32.toInt_add, Int32.toInt_sub, Int32.toInt_mul, Int32.toInt_neg, Int32.reduceToInt, g_bm, g_bm'] at *; simp at *; omega) | (simp_all; done)
set_option maxRecDepth 100000 in
theorem g_X12_takeSign_v5 (u : qS) (x : Int32) (N : Int) (hT : g_tk (u.2.1 1204) (u.2.1 1205) N) (ha : 0 ≤ (u.1 1207).toInt ∧ (u.1 1207).toInt ≤ N) (hf : 0 ≤ (u.1 1208).toInt) (b2_4 : ¬ g_isS (u.1 1208) (u.2.1 1204) (u.2.2.1 1206) (u.1 1207) x) : 0 ≤ ((u.1 1208 : Int32)).toInt := by
  first | omega | ((try simp only [g_m1, Int32.lt_iff_toInt_lt, Int32.le_iff_toInt_le, ← Int32.toInt_inj, Int32.reduceToInt] at *); omega) | ((try simp only [g_m1, Int32.lt_iff_toInt_lt, Int32.le_iff_toInt_le, ← Int32.toInt_inj, Int32.reduceToInt] at *); omega) | ((try simp only [g_m1, Int32.lt_iff_toInt_lt, Int32.le_iff_toInt_le, ← Int32.toInt_inj, Int32.toInt_add, Int32.toInt_sub, Int32.toInt_mul, Int32.toInt_neg, Int32.reduceToInt, g_bm, g_bm'] at *); omega) | (have qr1 := g_rng x; (try simp only [g_m1, Int32.lt_iff_toInt_lt, Int32.le_iff_toInt_le, ← Int32.toInt_inj, Int32.toInt_add, Int32.toInt_sub, Int32.toInt_mul, Int32.toInt_neg, Int32.reduceToInt, g_bm, g_bm'] at *); omega) | (simp only [g_m1, Int32.lt_iff_toInt_lt, Int32.le_iff_toInt_le, ← Int32.toInt_inj, Int32.toInt_add, Int32.toInt_sub, Int32.toInt_mul, Int32.toInt_neg, Int32.reduceToInt, g_bm, g_bm'] at *; simp at *; omega) | (simp_all; done)
set_option maxRecDepth 100000 in
theorem g_X12_takeSign_v6 (u : qS) (x : Int32) (N : Int) (hT : g_tk (u.2.1 1204) (u.2.1 1205) N) (ha : 0 ≤ (u.1 1207).toInt ∧ (u.1 1207).toInt ≤ N) (hf : 0 ≤ (u.1 1208).toInt) (b2_4 : ¬ g_isS (u.1 1208) (u.2.1 1204) (u.2.2.1 1206) (u.1 1207) x) : 1 ≤ (1 : Int32) ∧ (1 : Int32) ≤ 5 := by
  first | omega | ((try simp only [g_m1, Int32.lt_iff_toInt_lt, Int32.le_iff_toInt_le, ← Int32.toInt_inj, Int32.reduceToInt] at *); omega) | ((try simp only [g_m1, Int32.lt_iff_toInt_lt, Int32.le_iff_toInt_le, ← Int32.toInt_inj, Int32.reduceToInt] at *); omega) | ((try simp only [g_m1, Int32.lt_iff_toInt_lt, Int32.le_iff_toInt_le, ← Int32.toInt_inj, Int32.toInt_add, Int32.toInt_sub, Int32.toInt_mul, Int32.toInt_neg, Int32.reduceToInt, g_bm, g_bm'] at *); omega) | (have qr1 := g_rng x; (try simp only [g_m1, Int32.lt_iff_toInt_lt, Int32.le_iff_toInt_le, ← Int32.toInt_inj, Int32.toInt_add, Int32.toInt_sub, Int32.toInt_mul, Int32.toInt_neg, Int32.reduceToInt, g_bm, g_bm'] at *); omega) | (simp only [g_m1, Int32.lt_iff_toInt_lt, Int32.le_iff_toInt_le, ← Int32.toInt_inj, Int32.toInt_add, Int32.toInt_sub, Int32.toInt_mul, Int32.toInt_neg, Int32.reduceToInt, g_bm, g_bm'] at *; simp at *; omega) | (simp_all; done)
set_option maxRecDepth 100000 in
theorem g_X12_takeSign_v7 (u : qS) (x : Int32) (N : Int) (u_5 : qS) (hT : g_tk (u.2.1 1204) (u.2.1 1205) N) (ha : 0 ≤ (u.1 1207).toInt ∧ (u.1 1207).toInt ≤ N) (hf : 0 ≤ (u.1 1208).toInt) (b2_4 : ¬ g_isS (u.1 1208) (u.2.1 1204) (u.2.2.1 1206) (u.1 1207) x) (hw_6 : 1 ≤ (u_5.1 1208).toInt) : g_mv N (u.1 1207) (u.1 1208) ((u.1 1207 : Int32)) ((u_5.1 1208 : Int32)) := by
  first | exact ⟨by omega, by omega, by omega, fun q => q⟩ | (refine ⟨?_, ?_, ?_, ?_⟩ <;> first | (intro q; first | assumption | (exfalso; (try simp only [g_m1, Int32.lt_iff_toInt_lt, Int32.le_iff_toInt_le, ← Int32.toInt_inj, Int32.reduceToInt] at *); omega)) | (have q9 := hT.N; (try simp only [g_m1, Int32.lt_iff_toInt_lt, Int32.le_iff_toInt_le, ← Int32.toInt_inj, Int32.reduceToInt] at *); omega) | (have q9 := hT.N; (try simp only [g_m1, Int32.lt_iff_toInt_lt, Int32.le_iff_toInt_le, ← Int32.toInt_inj, Int32.toInt_add, Int32.toInt_sub, Int32.toInt_mul, Int32.toInt_neg, Int32.reduceToInt, g_bm, g_bm'] at *); omega))
set_option maxHeartbeats 1000000 in
set_option maxRecDepth 100000 in
theorem g_X12_takeSign (l : Launch) (E : qE) (A : Nat → Prop) (u : qS) (x : Int32) (N : Int) (hT : g_tk (u.2.1 1204) (u.2.1 1205) N) (ha : 0 ≤ (u.1 1207).toInt ∧ (u.1 1207).toInt ≤ N) (hf : 0 ≤ (u.1 1208).toInt) : Met l yX12_takeSign (uws yX12_takeSign cX12_takeSign 2 none) (qR 1 0 0) (qPc E A 1 u [.ref (E.2.2 1299), .int x]) (qQv E A 1 (fun u1 => qFr [1207, 1208] [] [] u u1 ∧ (g_mv N (u.1 1207) (u.1 1208) (u1.1 1207) (u1.1 1208)))) 0 0 A := by
  refine q_met (own := RX12) (f := 1) [.ref (E.2.2 1299), .int x] (by decide) (Nat.le_of_ble_eq_true rfl) rfl ?_
  intro p0 e0 s0 m0 bl0 me0 cd0 ls hF hr hlocks hU hS hA hl
  have hl : lv_has ls 2 [(0, .ref (E.2.2 1299)), (1, .int x)] := hl
  have hfr : qFr [1207, 1208] [] [] u u := qFr.rf
  refine lv_aload_n hF.1 hF.2.1 dX12_takeSign_0 rfl (lv_at hl 0 rfl) ?_
  refine lv_iload_n hF.1 hF.2.1 dX12_takeSign_1 rfl (lv_at hl 1 rfl) ?_
  have hM9 := g_X12_isSign l E A u x N (g_X12_takeSign_v0 u N hT ha hf) (g_X12_takeSign_v1 u x N hT ha hf)
  have hR9 := q_runV (l := l) (e := e0) (below := bl0) (meth := me0) (R := qR 1 0 0) (cells := 0) (slots := 0) (st0 := [.int x, .ref (E.2.2 1299)]) (rest := []) hF hU hS hA 1 0 12 1299 rfl rfl rfl hM9 w_1624 w_1626 w_55 w_107 w_1627 (by decide +kernel) ⟨Nat.le_of_ble_eq_true rfl, Nat.le_of_ble_eq_true rfl⟩ dX12_takeSign_2 rfl hl.1 rfl (Nat.le_of_ble_eq_true rfl) ⟨Nat.le_of_ble_eq_true rfl, Nat.le_of_ble_eq_true rfl⟩
  refine q_calli hR9 hU.2.2.2 hS (fun r_3 u_1 H locs hw_2 hU hS => ?_)
  obtain ⟨hw_2_e, hw_2⟩ := hw_2
  rw [hw_2_e] at hU
  have hw_2 : (r_3 = 1 ∧ (g_isS (u.1 1208) (u.2.1 1204) (u.2.2.1 1206) (u.1 1207) x ∧ (u.1 1207).toInt < N ∧ u.1 1208 = 0)) ∨ (r_3 = 0 ∧ (¬ g_isS (u.1 1208) (u.2.1 1204) (u.2.2.1 1206) (u.1 1207) x)) := hw_2
  rcases hw_2 with ⟨rfl, b2_4⟩ | ⟨rfl, b2_4⟩
  · refine lv_if_eq (tgt := 21) hF.1 hF.2.1 dX12_takeSign_5 (by decide) (fun h9 => absurd h9 (by decide)) (fun _ => ?_)
    refine lv_aload_n hF.1 hF.2.1 dX12_takeSign_8 rfl (lv_at hl 0 rfl) ?_
    refine lv_dup hF.1 hF.2.1 dX12_takeSign_9 rfl ?_
    refine q_get (v := .int (u.1 1207)) hF hU dX12_takeSign_10 0 12 7 1207 1299 rfl rfl rfl rfl inX12 (by decide) (by decide) w_1336 rfl rfl ?_
    refine lv_iconst (v := 1) hF.1 hF.2.1 dX12_takeSign_13 (by decide) ?_
    refine lv_iadd hF.1 hF.2.1 dX12_takeSign_14 ?_
    refine q_put hF hU hS dX12_takeSign_15 0 12 7 1207 1299 rfl rfl rfl rfl inX12 tyX12 tyX12_ok nmX12 (by decide) (by decide) rfl w_1336 rfl rfl rfl rfl (fun H locs hU hS => ?_)
    have hfr : qFr [1207, 1208] [] [] u (qsI u 1207 ((u.1 1207) + 1)) := hfr.setI (by decide)
    refine lv_goto (tgt := 26) hF.1 hF.2.1 dX12_takeSign_18 (by decide) ?_
    exact q_vret hF hr hlocks hU hS dX12_takeSign_26 ⟨hfr, (g_X12_takeSign_v2 u x N hT ha hf b2_4)⟩
  · refine lv_if_eq (tgt := 21) hF.1 hF.2.1 dX12_takeSign_5 (by decide) (fun _ => ?_) (fun h9 => absurd (by decide) h9)
    refine lv_aload_n hF.1 hF.2.1 dX12_takeSign_21 rfl (lv_at hl 0 rfl) ?_
    refine lv_iconst (v := 1) hF.1 hF.2.1 dX12_takeSign_22 (by decide) ?_
    have hM9 := g_X12_wrong l E A u 1 N (g_X12_takeSign_v3 u x N hT ha hf b2_4) (g_X12_takeSign_v4 u x N hT ha hf b2_4) (g_X12_takeSign_v5 u x N hT ha hf b2_4) (g_X12_takeSign_v6 u x N hT ha hf b2_4)
    have hR9 := q_runV (l := l) (e := e0) (below := bl0) (meth := me0) (R := qR 1 0 0) (cells := 0) (slots := 0) (st0 := [.int 1, .ref (E.2.2 1299)]) (rest := []) hF hU hS hA 1 0 12 1299 rfl rfl rfl hM9 w_1604 w_1606 w_50 w_107 w_1607 (by decide +kernel) ⟨Nat.le_of_ble_eq_true rfl, Nat.le_of_ble_eq_true rfl⟩ dX12_takeSign_23 rfl hl.1 rfl (Nat.le_of_ble_eq_true rfl) ⟨Nat.le_of_ble_eq_true rfl, Nat.le_of_ble_eq_true rfl⟩
    refine q_callv hR9 hU.2.2.2 hS (fun u_5 H locs hw_6 hU hS => ?_)
    have hw_6_f := hw_6.1
    have hfo := hfr
    have hfr : qFr [1207, 1208] [] [] u u_5 := hfr.trans (hw_6_f.mono (by decide) (by decide) (by decide))
    have hw_6 := hw_6.2
    have e_8 : u_5.1 1207 = (u.1 1207) := (hw_6_f.1 1207 (by decide)).trans rfl
    have hw_6 : 1 ≤ (u_5.1 1208).toInt := hw_6
    exact q_vret hF hr hlocks hU hS dX12_takeSign_26 ⟨hfr, by first | (rw [show (u_5).1 1207 = (u.1 1207) from e_8]; exact (g_X12_takeSign_v7 u x N u_5 hT ha hf b2_4 hw_6)) | rw [show (u_5).1 1207 = (u.1 1207) from e_8]⟩
set_option maxRecDepth 100000 in
theorem g_X12_takeWord_v0 (u : qS) (x : Int32) (N : Int) (hT : g_tk (u.2.1 1204) (u.2.1 1205) N) (ha : 0 ≤ (u.1 1207).toInt ∧ (u.1 1207).toInt ≤ N) (hf : 0 ≤ (u.1 1208).toInt) (hx : 0 ≤ (x : Int32) ∧ (x : Int32) < 15) : g_tk ((u.2.1 1204)) ((u.2.1 1205)) N := by
  assumption
set_option maxRecDepth 100000 in
theorem g_X12_takeWord_v1 (u : qS) (x : Int32) (N : Int) (hT : g_tk (u.2.1 1204) (u.2.1 1205) N) (ha : 0 ≤ (u.1 1207).toInt ∧ (u.1 1207).toInt ≤ N) (hf : 0 ≤ (u.1 1208).toInt) (hx : 0 ≤ (x : Int32) ∧ (x : Int32) < 15) : 0 ≤ ((u.1 1207 : Int32)).toInt ∧ ((u.1 1207 : Int32)).toInt ≤ N := by
  first | omega | ((try simp only [g_m1, Int32.lt_iff_toInt_lt, Int32.le_iff_toInt_le, ← Int32.toInt_inj, Int32.reduceToInt] at *); omega) | ((try simp only [g_m1, Int32.lt_iff_toInt_lt, Int32.le_iff_toInt_le, ← Int32.toInt_inj, Int32.reduceToInt] at *); omega) | ((try simp only [g_m1, Int32.lt_iff_toInt_lt, Int32.le_iff_toInt_le, ← Int32.toInt_inj, Int32.toInt_add, Int32.toInt_sub, Int32.toInt_mul, Int32.toInt_neg, Int32.reduceToInt, g_bm, g_bm'] at *); omega) | (have qr1 := g_rng x; (try simp only [g_m1, Int32.lt_iff_toInt_lt, Int32.le_iff_toInt_le, ← Int32.toInt_inj, Int32.toInt_add, Int32.toInt_sub, Int32.toInt_mul, Int32.toInt_neg, Int32.reduceToInt, g_bm, g_bm'] at *); omega) | (simp only [g_m1, Int32.lt_iff_toInt_lt, Int32.le_iff_toInt_le, ← Int32.toInt_inj, Int32.toInt_add, Int32.toInt_sub, Int32.toInt_mul, Int32.toInt_neg, Int32.reduceToInt, g_bm, g_bm'] at *; simp at *; omega) | (simp_all; done)
set_option maxRecDepth 100000 in
theorem g_X12_takeWord_v2 (u : qS) (x : Int32) (N : Int) (hT : g_tk (u.2.1 1204) (u.2.1 1205) N) (ha : 0 ≤ (u.1 1207).toInt ∧ (u.1 1207).toInt ≤ N) (hf : 0 ≤ (u.1 1208).toInt) (hx : 0 ≤ (x : Int32) ∧ (x : Int32) < 15) : 0 ≤ (x : Int32) ∧ (x : Int32) < 15 := by
  first | omega | ((try simp only [g_m1, Int32.lt_iff_toInt_lt, Int32.le_iff_toInt_le, ← Int32.toInt_inj, Int32.reduceToInt] at *); omega) | ((try simp only [g_m1, Int32.lt_iff_toInt_lt, Int32.le_iff_toInt_le, ← Int32.toInt_inj, Int32.reduceToInt] at *); omega) | ((try simp only [g_m1, Int32.lt_iff_toInt_lt, Int32.le_iff_toInt_le, ← Int32.toInt_inj, Int32.toInt_add, Int32.toInt_sub, Int32.toInt_mul, Int32.toInt_neg, Int32.reduceToInt, g_bm, g_bm'] at *); omega) | (have qr1 := g_rng x; (try simp only [g_m1, Int32.lt_iff_toInt_lt, Int32.le_iff_toInt_le, ← Int32.toInt_inj, Int32.toInt_add, Int32.toInt_sub, Int32.toInt_mul, Int32.toInt_neg, Int32.reduceToInt, g_bm, g_bm'] at *); omega) | (simp only [g_m1, Int32.lt_iff_toInt_lt, Int32.le_iff_toInt_le, ← Int32.toInt_inj, Int32.toInt_add, Int32.toInt_sub, Int32.toInt_mul, Int32.toInt_neg, Int32.reduceToInt, g_bm, g_bm'] at *; simp at *; omega) | (simp_all; done)
set_option maxRecDepth 100000 in
theorem g_X12_takeWord_v3 (u : qS) (x : Int32) (N : Int) (u_1 : qS) (hT : g_tk (u.2.1 1204) (u.2.1 1205) N) (ha : 0 ≤ (u.1 1207).toInt ∧ (u.1 1207).toInt ≤ N) (hf : 0 ≤ (u.1 1208).toInt) (hx : 0 ≤ (x : Int32) ∧ (x : Int32) < 15) (b2_5 : g_isW (u.1 1208) (u.2.1 1204) (u.2.2.1 1206) (u.1 1207) (u.2.2.1 1209) x ∧ ((u.1 1207).toInt < N ∧ u.1 1208 = 0) ∧ u_1.1 1207 = u.1 1207 + 1) : g_mv N (u.1 1207) (u.1 1208) (((u.1 1207) + 1 : Int32)) ((u.1 1208 : Int32)) := by
  first | exact ⟨by omega, by omega, by omega, fun q => q⟩ | (refine ⟨?_, ?_, ?_, ?_⟩ <;> first | (intro q; first | assumption | (exfalso; (try simp only [g_m1, Int32.lt_iff_toInt_lt, Int32.le_iff_toInt_le, ← Int32.toInt_inj, Int32.reduceToInt] at *); omega)) | (have q9 := hT.N; (try simp only [g_m1, Int32.lt_iff_toInt_lt, Int32.le_iff_toInt_le, ← Int32.toInt_inj, Int32.reduceToInt] at *); omega) | (have q9 := hT.N; (try simp only [g_m1, Int32.lt_iff_toInt_lt, Int32.le_iff_toInt_le, ← Int32.toInt_inj, Int32.toInt_add, Int32.toInt_sub, Int32.toInt_mul, Int32.toInt_neg, Int32.reduceToInt, g_bm, g_bm'] at *); omega))
set_option maxRecDepth 100000 in
theorem g_X12_takeWord_v4 (u : qS) (x : Int32) (N : Int) (u_1 : qS) (hT : g_tk (u.2.1 1204) (u.2.1 1205) N) (ha : 0 ≤ (u.1 1207).toInt ∧ (u.1 1207).toInt ≤ N) (hf : 0 ≤ (u.1 1208).toInt) (hx : 0 ≤ (x : Int32) ∧ (x : Int32) < 15) (b2_5 : (¬ g_isW (u.1 1208) (u.2.1 1204) (u.2.2.1 1206) (u.1 1207) (u.2.2.1 1209) x) ∧ u_1.1 1207 = u.1 1207) : g_tk ((u.2.1 1204)) ((u.2.1 1205)) N := by
  assumption
set_option maxRecDepth 100000 in
theorem g_X12_takeWord_v5 (u : qS) (x : Int32) (N : Int) (u_1 : qS) (hT : g_tk (u.2.1 1204) (u.2.1 1205) N) (ha : 0 ≤ (u.1 1207).toInt ∧ (u.1 1207).toInt ≤ N) (hf : 0 ≤ (u.1 1208).toInt) (hx : 0 ≤ (x : Int32) ∧ (x : Int32) < 15) (b2_5 : (¬ g_isW (u.1 1208) (u.2.1 1204) (u.2.2.1 1206) (u.1 1207) (u.2.2.1 1209) x) ∧ u_1.1 1207 = u.1 1207) : 0 ≤ ((u.1 1207 : Int32)).toInt ∧ ((u.1 1207 : Int32)).toInt ≤ N := by
  first | omega | ((try simp only [g_m1, Int32.lt_iff_toInt_lt, Int32.le_iff_toInt_le, ← Int32.toInt_inj, Int32.reduceToInt] at *); omega) | ((try simp only [g_m1, Int32.lt_iff_toInt_lt, Int32.le_iff_toInt_le, ← Int32.toInt_inj, Int32.reduceToInt] at *); omega) | ((try simp only [g_m1, Int32.lt_iff_toInt_lt, Int32.le_iff_toInt_le, ← Int32.toInt_inj, Int32.toInt_add, Int32.toInt_sub, Int32.toInt_mul, Int32.toInt_neg, Int32.reduceToInt, g_bm, g_bm'] at *); omega) | (have qr1 := g_rng x; (try simp only [g_m1, Int32.lt_iff_toInt_lt, Int32.le_iff_toInt_le, ← Int32.toInt_inj, Int32.toInt_add, Int32.toInt_sub, Int32.toInt_mul, Int32.toInt_neg, Int32.reduceToInt, g_bm, g_bm'] at *); omega) | (simp only [g_m1, Int32.lt_iff_toInt_lt, Int32.le_iff_toInt_le, ← Int32.toInt_inj, Int32.toInt_add, Int32.toInt_sub, Int32.toInt_mul, Int32.toInt_neg, Int32.reduceToInt, g_bm, g_bm'] at *; simp at *; omega) | (simp_all; done)
set_option maxRecDepth 100000 in
theorem g_X12_takeWord_v6 (u : qS) (x : Int32) (N : Int) (u_1 : qS) (hT : g_tk (u.2.1 1204) (u.2.1 1205) N) (ha : 0 ≤ (u.1 1207).toInt ∧ (u.1 1207).toInt ≤ N) (hf : 0 ≤ (u.1 1208).toInt) (hx : 0 ≤ (x : Int32) ∧ (x : Int32) < 15) (b2_5 : (¬ g_isW (u.1 1208) (u.2.1 1204) (u.2.2.1 1206) (u.1 1207) (u.2.2.1 1209) x) ∧ u_1.1 1207 = u.1 1207) : 0 ≤ ((u.1 1208 : Int32)).toInt := by
  first | omega | ((try simp only [g_m1, Int32.lt_iff_toInt_lt, Int32.le_iff_toInt_le, ← Int32.toInt_inj, Int32.reduceToInt] at *); omega) | ((try simp only [g_m1, Int32.lt_iff_toInt_lt, Int32.le_iff_toInt_le, ← Int32.toInt_inj, Int32.reduceToInt] at *); omega) | ((try simp only [g_m1, Int32.lt_iff_toInt_lt, Int32.le_iff_toInt_le, ← Int32.toInt_inj, Int32.toInt_add, Int32.toInt_sub, Int32.toInt_mul, Int32.toInt_neg, Int32.reduceToInt, g_bm, g_bm'] at *); omega) | (have qr1 := g_rng x; (try simp only [g_m1, Int32.lt_iff_toInt_lt, Int32.le_iff_toInt_le, ← Int32.toInt_inj, Int32.toInt_add, Int32.toInt_sub, Int32.toInt_mul, Int32.toInt_neg, Int32.reduceToInt, g_bm, g_bm'] at *); omega) | (simp only [g_m1, Int32.lt_iff_toInt_lt, Int32.le_iff_toInt_le, ← Int32.toInt_inj, Int32.toInt_add, Int32.toInt_sub, Int32.toInt_mul, Int32.toInt_neg, Int32.reduceToInt, g_bm, g_bm'] at *; simp at *; omega) | (simp_all; done)
set_option maxRecDepth 100000 in
theorem g_X12_takeWord_v7 (u : qS) (x : Int32) (N : Int) (u_1 : qS) (hT : g_tk (u.2.1 1204) (u.2.1 1205) N) (ha : 0 ≤ (u.1 1207).toInt ∧ (u.1 1207).toInt ≤ N) (hf : 0 ≤ (u.1 1208).toInt) (hx : 0 ≤ (x : Int32) ∧ (x : Int32) < 15) (b2_5 : (¬ g_isW (u.1 1208) (u.2.1 1204) (u.2.2.1 1206) (u.1 1207) (u.2.2.1 1209) x) ∧ u_1.1 1207 = u.1 1207) : 1 ≤ (1 : Int32) ∧ (1 : Int32) ≤ 5 := by
  first | omega | ((try simp only [g_m1, Int32.lt_iff_toInt_lt, Int32.le_iff_toInt_le, ← Int32.toInt_inj, Int32.reduceToInt] at *); omega) | ((try simp only [g_m1, Int32.lt_iff_toInt_lt, Int32.le_iff_toInt_le, ← Int32.toInt_inj, Int32.reduceToInt] at *); omega) | ((try simp only [g_m1, Int32.lt_iff_toInt_lt, Int32.le_iff_toInt_le, ← Int32.toInt_inj, Int32.toInt_add, Int32.toInt_sub, Int32.toInt_mul, Int32.toInt_neg, Int32.reduceToInt, g_bm, g_bm'] at *); omega) | (have qr1 := g_rng x; (try simp only [g_m1, Int32.lt_iff_toInt_lt, Int32.le_iff_toInt_le, ← Int32.toInt_inj, Int32.toInt_add, Int32.toInt_sub, Int32.toInt_mul, Int32.toInt_neg, Int32.reduceToInt, g_bm, g_bm'] at *); omega) | (simp only [g_m1, Int32.lt_iff_toInt_lt, Int32.le_iff_toInt_le, ← Int32.toInt_inj, Int32.toInt_add, Int32.toInt_sub, Int32.toInt_mul, Int32.toInt_neg, Int32.reduceToInt, g_bm, g_bm'] at *; simp at *; omega) | (simp_all; done)
set_option maxRecDepth 100000 in
theorem g_X12_takeWord_v8 (u : qS) (x : Int32) (N : Int) (u_1 : qS) (u_6 : qS) (hT : g_tk (u.2.1 1204) (u.2.1 1205) N) (ha : 0 ≤ (u.1 1207).toInt ∧ (u.1 1207).toInt ≤ N) (hf : 0 ≤ (u.1 1208).toInt) (hx : 0 ≤ (x : Int32) ∧ (x : Int32) < 15) (b2_5 : (¬ g_isW (u.1 1208) (u.2.1 1204) (u.2.2.1 1206) (u.1 1207) (u.2.2.1 1209) x) ∧ u_1.1 1207 = u.1 1207) (hw_7 : 1 ≤ (u_6.1 1208).toInt) : g_mv N (u.1 1207) (u.1 1208) ((u.1 1207 : Int32)) ((u_6.1 1208 : Int32)) := by
  first | exact ⟨by omega, by omega, by omega, fun q => q⟩ | (refine ⟨?_, ?_, ?_, ?_⟩ <;> first | (intro q; first | assumption | (exfalso; (try simp only [g_m1, Int32.lt_iff_toInt_lt, Int32.le_iff_toInt_le, ← Int32.toInt_inj, Int32.reduceToInt] at *); omega)) | (have q9 := hT.N; (try simp only [g_m1, Int32.lt_iff_toInt_lt, Int32.le_iff_toInt_le, ← Int32.toInt_inj, Int32.reduceToInt] at *); omega) | (have q9 := hT.N; (try simp only [g_m1, Int32.lt_iff_toInt_lt, Int32.le_iff_toInt_le, ← Int32.toInt_inj, Int32.toInt_add, Int32.toInt_sub, Int32.toInt_mul, Int32.toInt_neg, Int32.reduceToInt, g_bm, g_bm'] at *); omega))
set_option maxHeartbeats 1000000 in
set_option maxRecDepth 100000 in
theorem g_X12_takeWord (l : Launch) (E : qE) (A : Nat → Prop) (u : qS) (x : Int32) (N : Int) (hT : g_tk (u.2.1 1204) (u.2.1 1205) N) (ha : 0 ≤ (u.1 1207).toInt ∧ (u.1 1207).toInt ≤ N) (hf : 0 ≤ (u.1 1208).toInt) (hx : 0 ≤ (x : Int32) ∧ (x : Int32) < 15) : Met l yX12_takeWord (uws yX12_takeWord cX12_takeWord 2 none) (qR 2 0 0) (qPc E A 1 u [.ref (E.2.2 1299), .int x]) (qQv E A 1 (fun u1 => qFr [1207, 1208] [] [] u u1 ∧ (g_mv N (u.1 1207) (u.1 1208) (u1.1 1207) (u1.1 1208)))) 0 0 A := by
  refine q_met (own := RX12) (f := 2) [.ref (E.2.2 1299), .int x] (by decide) (Nat.le_of_ble_eq_true rfl) rfl ?_
  intro p0 e0 s0 m0 bl0 me0 cd0 ls hF hr hlocks hU hS hA hl
  have hl : lv_has ls 2 [(0, .ref (E.2.2 1299)), (1, .int x)] := hl
  have hfr : qFr [1207, 1208] [] [] u u := qFr.rf
  refine lv_aload_n hF.1 hF.2.1 dX12_takeWord_0 rfl (lv_at hl 0 rfl) ?_
  refine lv_iload_n hF.1 hF.2.1 dX12_takeWord_1 rfl (lv_at hl 1 rfl) ?_
  have hM9 := g_X12_hasWord l E A u x N (g_X12_takeWord_v0 u x N hT ha hf hx) (g_X12_takeWord_v1 u x N hT ha hf hx) (g_X12_takeWord_v2 u x N hT ha hf hx)
  have hR9 := q_runV (l := l) (e := e0) (below := bl0) (meth := me0) (R := qR 2 0 0) (cells := 0) (slots := 0) (st0 := [.int x, .ref (E.2.2 1299)]) (rest := []) hF hU hS hA 1 0 12 1299 rfl rfl rfl hM9 w_1652 w_1654 w_62 w_107 w_1655 (by decide +kernel) ⟨Nat.le_of_ble_eq_true rfl, Nat.le_of_ble_eq_true rfl⟩ dX12_takeWord_2 rfl hl.1 rfl (Nat.le_of_ble_eq_true rfl) ⟨Nat.le_of_ble_eq_true rfl, Nat.le_of_ble_eq_true rfl⟩
  refine q_calli hR9 hU.2.2.2 hS (fun r_3 u_1 H locs hw_2 hU hS => ?_)
  have hw_2_f := hw_2.1
  have hfo := hfr
  have hfr : qFr [1207, 1208] [] [] u u_1 := hfr.trans (hw_2_f.mono (by decide) (by decide) (by decide))
  have hw_2 := hw_2.2
  have e_4 : u_1.1 1208 = (u.1 1208) := (hw_2_f.1 1208 (by decide)).trans rfl
  have hw_2 : (r_3 = 1 ∧ (g_isW (u.1 1208) (u.2.1 1204) (u.2.2.1 1206) (u.1 1207) (u.2.2.1 1209) x ∧ ((u.1 1207).toInt < N ∧ u.1 1208 = 0) ∧ u_1.1 1207 = u.1 1207 + 1)) ∨ (r_3 = 0 ∧ ((¬ g_isW (u.1 1208) (u.2.1 1204) (u.2.2.1 1206) (u.1 1207) (u.2.2.1 1209) x) ∧ u_1.1 1207 = u.1 1207)) := hw_2
  rcases hw_2 with ⟨rfl, b2_5⟩ | ⟨rfl, b2_5⟩
  · refine lv_if_ne (tgt := 13) hF.1 hF.2.1 dX12_takeWord_5 (by decide) (fun _ => ?_) (fun h9 => absurd h9 (by decide))
    exact q_vret hF hr hlocks hU hS dX12_takeWord_13 ⟨hfr, by first | (rw [show (u_1).1 1207 = ((u.1 1207) + 1) from b2_5.2.2, show (u_1).1 1208 = (u.1 1208) from e_4]; exact (g_X12_takeWord_v3 u x N u_1 hT ha hf hx b2_5)) | rw [show (u_1).1 1207 = ((u.1 1207) + 1) from b2_5.2.2, show (u_1).1 1208 = (u.1 1208) from e_4]⟩
  · refine lv_if_ne (tgt := 13) hF.1 hF.2.1 dX12_takeWord_5 (by decide) (fun h9 => absurd (by decide) h9) (fun _ => ?_)
    refine lv_aload_n hF.1 hF.2.1 dX12_takeWord_8 rfl (lv_at hl 0 rfl) ?_
    refine lv_iconst (v := 1) hF.1 hF.2.1 dX12_takeWord_9 (by decide) ?_
    have hM9 := g_X12_wrong l E A u_1 1 N (by rw [(hfr.2.1 1204 (by decide)), (hfr.2.1 1205 (by decide))]; exact (g_X12_takeWord_v4 u x N u_1 hT ha hf hx b2_5)) (by rw [show (u_1).1 1207 = (u.1 1207) from b2_5.2]; exact (g_X12_takeWord_v5 u x N u_1 hT ha hf hx b2_5)) (by rw [show (u_1).1 1208 = (u.1 1208) from e_4]; exact (g_X12_takeWord_v6 u x N u_1 hT ha hf hx b2_5)) (g_X12_takeWord_v7 u x N u_1 hT ha hf hx b2_5)
    have hR9 := q_runV (l := l) (e := e0) (below := bl0) (meth := me0) (R := qR 2 0 0) (cells := 0) (slots := 0) (st0 := [.int 1, .ref (E.2.2 1299)]) (rest := []) hF hU hS hA 1 0 12 1299 rfl rfl rfl hM9 w_1604 w_1606 w_50 w_107 w_1607 (by decide +kernel) ⟨Nat.le_of_ble_eq_true rfl, Nat.le_of_ble_eq_true rfl⟩ dX12_takeWord_10 rfl hl.1 rfl (Nat.le_of_ble_eq_true rfl) ⟨Nat.le_of_ble_eq_true rfl, Nat.le_of_ble_eq_true rfl⟩
    refine q_callv hR9 hU.2.2.2 hS (fun u_6 H locs hw_7 hU hS => ?_)
    have hw_7_f := hw_7.1
    have hfo := hfr
    have hfr : qFr [1207, 1208] [] [] u u_6 := hfr.trans (hw_7_f.mono (by decide) (by decide) (by decide))
    have hw_7 := hw_7.2
    have e_9 : u_6.1 1207 = (u.1 1207) := (hw_7_f.1 1207 (by decide)).trans b2_5.2
    have hw_7 : 1 ≤ (u_6.1 1208).toInt := hw_7
    exact q_vret hF hr hlocks hU hS dX12_takeWord_13 ⟨hfr, by first | (rw [show (u_6).1 1207 = (u.1 1207) from e_9]; exact (g_X12_takeWord_v8 u x N u_1 u_6 hT ha hf hx b2_5 hw_7)) | rw [show (u_6).1 1207 = (u.1 1207) from e_9]⟩
set_option maxRecDepth 100000 in
theorem g_X12_takeNumber_v0 (u : qS) (N : Int) (hT : g_tk (u.2.1 1204) (u.2.1 1205) N) (ha : 0 ≤ (u.1 1207).toInt ∧ (u.1 1207).toInt ≤ N) (hf : 0 ≤ (u.1 1208).toInt) (c4_1 : ¬ (u.1 1208 : Int32) = 0) (c59_2 : (u.1 1208 : Int32) ≤ 0) : vp_in (((u.1 1207) + 1) - 1) 1002 := by
  have q := hT.N
  refine g_in ?_ ?_ <;> ((try simp only [g_m1, Int32.lt_iff_toInt_lt, Int32.le_iff_toInt_le, ← Int32.toInt_inj, Int32.toInt_add, Int32.toInt_sub, Int32.toInt_mul, Int32.toInt_neg, Int32.reduceToInt, g_bm, g_bm'] at *); omega)
set_option maxRecDepth 100000 in
theorem g_X12_takeNumber_v1 (u : qS) (N : Int) (hT : g_tk (u.2.1 1204) (u.2.1 1205) N) (ha : 0 ≤ (u.1 1207).toInt ∧ (u.1 1207).toInt ≤ N) (hf : 0 ≤ (u.1 1208).toInt) (c4_1 : ¬ (u.1 1208 : Int32) = 0) (c59_2 : (u.1 1208 : Int32) ≤ 0) : g_mv N (u.1 1207) (u.1 1208) (((u.1 1207) + 1 : Int32)) ((u.1 1208 : Int32)) := by
  first | (have q8 := hT.lt ha.1 ha.2 (by rw [(by assumption : u.2.1 1204 (u.1 1207).toNatClampNeg = 2)]; decide); first | exact ⟨by omega, by omega, by omega, fun q => q⟩ | (refine ⟨?_, ?_, ?_, ?_⟩ <;> first | (intro q; first | assumption | (exfalso; (try simp only [g_m1, Int32.lt_iff_toInt_lt, Int32.le_iff_toInt_le, ← Int32.toInt_inj, Int32.reduceToInt] at *); omega)) | (have q9 := hT.N; (try simp only [g_m1, Int32.lt_iff_toInt_lt, Int32.le_iff_toInt_le, ← Int32.toInt_inj, Int32.reduceToInt] at *); omega) | (have q9 := hT.N; (try simp only [g_m1, Int32.lt_iff_toInt_lt, Int32.le_iff_toInt_le, ← Int32.toInt_inj, Int32.toInt_add, Int32.toInt_sub, Int32.toInt_mul, Int32.toInt_neg, Int32.reduceToInt, g_bm, g_bm'] at *); omega))) | (first | exact ⟨by omega, by omega, by omega, fun q => q⟩ | (refine ⟨?_, ?_, ?_, ?_⟩ <;> first | (intro q; first | assumption | (exfalso; (try simp only [g_m1, Int32.lt_iff_toInt_lt, Int32.le_iff_toInt_le, ← Int32.toInt_inj, Int32.reduceToInt] at *); omega)) | (have q9 := hT.N; (try simp only [g_m1, Int32.lt_iff_toInt_lt, Int32.le_iff_toInt_le, ← Int32.toInt_inj, Int32.reduceToInt] at *); omega) | (have q9 := hT.N; (try simp only [g_m1, Int32.lt_iff_toInt_lt, Int32.le_iff_toInt_le, ← Int32.toInt_inj, Int32.toInt_add, Int32.toInt_sub, Int32.toInt_mul, Int32.toInt_neg, Int32.reduceToInt, g_bm, g_bm'] at *); omega)))
set_option maxRecDepth 100000 in
theorem g_X12_takeNumber_v2 (u : qS) (N : Int) (hT : g_tk (u.2.1 1204) (u.2.1 1205) N) (ha : 0 ≤ (u.1 1207).toInt ∧ (u.1 1207).toInt ≤ N) (hf : 0 ≤ (u.1 1208).toInt) (c4_1 : ¬ (u.1 1208 : Int32) = 0) (c59_2 : ¬ (u.1 1208 : Int32) ≤ 0) : g_mv N (u.1 1207) (u.1 1208) ((u.1 1207 : Int32)) ((u.1 1208 : Int32)) := by
  first | (have q8 := hT.lt ha.1 ha.2 (by rw [(by assumption : u.2.1 1204 (u.1 1207).toNatClampNeg = 2)]; decide); first | exact ⟨by omega, by omega, by omega, fun q => q⟩ | (refine ⟨?_, ?_, ?_, ?_⟩ <;> first | (intro q; first | assumption | (exfalso; (try simp only [g_m1, Int32.lt_iff_toInt_lt, Int32.le_iff_toInt_le, ← Int32.toInt_inj, Int32.reduceToInt] at *); omega)) | (have q9 := hT.N; (try simp only [g_m1, Int32.lt_iff_toInt_lt, Int32.le_iff_toInt_le, ← Int32.toInt_inj, Int32.reduceToInt] at *); omega) | (have q9 := hT.N; (try simp only [g_m1, Int32.lt_iff_toInt_lt, Int32.le_iff_toInt_le, ← Int32.toInt_inj, Int32.toInt_add, Int32.toInt_sub, Int32.toInt_mul, Int32.toInt_neg, Int32.reduceToInt, g_bm, g_bm'] at *); omega))) | (first | exact ⟨by omega, by omega, by omega, fun q => q⟩ | (refine ⟨?_, ?_, ?_, ?_⟩ <;> first | (intro q; first | assumption | (exfalso; (try simp only [g_m1, Int32.lt_iff_toInt_lt, Int32.le_iff_toInt_le, ← Int32.toInt_inj, Int32.reduceToInt] at *); omega)) | (have q9 := hT.N; (try simp only [g_m1, Int32.lt_iff_toInt_lt, Int32.le_iff_toInt_le, ← Int32.toInt_inj, Int32.reduceToInt] at *); omega) | (have q9 := hT.N; (try simp only [g_m1, Int32.lt_iff_toInt_lt, Int32.le_iff_toInt_le, ← Int32.toInt_inj, Int32.toInt_add, Int32.toInt_sub, Int32.toInt_mul, Int32.toInt_neg, Int32.reduceToInt, g_bm, g_bm'] at *); omega)))
set_option maxRecDepth 100000 in
theorem g_X12_takeNumber_v3 (u : qS) (N : Int) (hT : g_tk (u.2.1 1204) (u.2.1 1205) N) (ha : 0 ≤ (u.1 1207).toInt ∧ (u.1 1207).toInt ≤ N) (hf : 0 ≤ (u.1 1208).toInt) (c4_1 : (u.1 1208 : Int32) = 0) : vp_in (u.1 1207) 1002 := by
  have q := hT.N
  refine g_in ?_ ?_ <;> ((try simp only [g_m1, Int32.lt_iff_toInt_lt, Int32.le_iff_toInt_le, ← Int32.toInt_inj, Int32.reduceToInt] at *); omega)
set_option maxRecDepth 100000 in
theorem g_X12_takeNumber_v4 (u : qS) (N : Int) (hT : g_tk (u.2.1 1204) (u.2.1 1205) N) (ha : 0 ≤ (u.1 1207).toInt ∧ (u.1 1207).toInt ≤ N) (hf : 0 ≤ (u.1 1208).toInt) (c4_1 : (u.1 1208 : Int32) = 0) (c17_3 : (u.2.1 1204 (u.1 1207 : Int32).toNatClampNeg : Int32) = 2) : (u.1 1208 : Int32) = 0 := by
  assumption
set_option maxRecDepth 100000 in
theorem g_X12_takeNumber_v5 (u : qS) (N : Int) (hT : g_tk (u.2.1 1204) (u.2.1 1205) N) (ha : 0 ≤ (u.1 1207).toInt ∧ (u.1 1207).toInt ≤ N) (hf : 0 ≤ (u.1 1208).toInt) (c4_1 : (u.1 1208 : Int32) = 0) (c17_3 : (u.2.1 1204 (u.1 1207 : Int32).toNatClampNeg : Int32) = 2) : vp_in (u.1 1207) 1002 := by
  have q := hT.N
  refine g_in ?_ ?_ <;> ((try simp only [g_m1, Int32.lt_iff_toInt_lt, Int32.le_iff_toInt_le, ← Int32.toInt_inj, Int32.reduceToInt] at *); omega)
set_option maxRecDepth 100000 in
theorem g_X12_takeNumber_v6 (u : qS) (x : Int32) (N : Int) (hT : g_tk (u.2.1 1204) (u.2.1 1205) N) (ha : 0 ≤ (u.1 1207).toInt ∧ (u.1 1207).toInt ≤ N) (hf : 0 ≤ (u.1 1208).toInt) (c4_1 : (u.1 1208 : Int32) = 0) (c17_3 : (u.2.1 1204 (u.1 1207 : Int32).toNatClampNeg : Int32) = 2) (c47_4 : (lg_cmp (u.2.2.1 1206 (u.1 1207 : Int32).toNatClampNeg) ((x : Int32).toInt64) : Int32) ≤ 0) : (u.1 1208 : Int32) ≤ 0 := by
  first | omega | ((try simp only [g_m1, Int32.lt_iff_toInt_lt, Int32.le_iff_toInt_le, ← Int32.toInt_inj, Int32.reduceToInt] at *); omega) | ((try simp only [g_m1, Int32.lt_iff_toInt_lt, Int32.le_iff_toInt_le, ← Int32.toInt_inj, Int32.reduceToInt] at *); omega) | ((try simp only [g_m1, Int32.lt_iff_toInt_lt, Int32.le_iff_toInt_le, ← Int32.toInt_inj, Int32.toInt_add, Int32.toInt_sub, Int32.toInt_mul, Int32.toInt_neg, Int32.reduceToInt, g_bm, g_bm'] at *); omega) | (have qr1 := g_rng x; (try simp only [g_m1, Int32.lt_iff_toInt_lt, Int32.le_iff_toInt_le, ← Int32.toInt_inj, Int32.toInt_add, Int32.toInt_sub, Int32.toInt_mul, Int32.toInt_neg, Int32.reduceToInt, g_bm, g_bm'] at *); omega) | (simp only [g_m1, Int32.lt_iff_toInt_lt, Int32.le_iff_toInt_le, ← Int32.toInt_inj, Int32.toInt_add, Int32.toInt_sub, Int32.toInt_mul, Int32.toInt_neg, Int32.reduceToInt, g_bm, g_bm'] at *; simp at *; omega) | (simp_all; done)
set_option maxRecDepth 100000 in
theorem g_X12_takeNumber_v7 (u : qS) (x : Int32) (N : Int) (hT : g_tk (u.2.1 1204) (u.2.1 1205) N) (ha : 0 ≤ (u.1 1207).toInt ∧ (u.1 1207).toInt ≤ N) (hf : 0 ≤ (u.1 1208).toInt) (c4_1 : (u.1 1208 : Int32) = 0) (c17_3 : (u.2.1 1204 (u.1 1207 : Int32).toNatClampNeg : Int32) = 2) (c47_4 : (lg_cmp (u.2.2.1 1206 (u.1 1207 : Int32).toNatClampNeg) ((x : Int32).toInt64) : Int32) ≤ 0) : vp_in (((u.1 1207) + 1) - 1) 1002 := by
  have q := hT.N
  refine g_in ?_ ?_ <;> ((try simp only [g_m1, Int32.lt_iff_toInt_lt, Int32.le_iff_toInt_le, ← Int32.toInt_inj, Int32.toInt_add, Int32.toInt_sub, Int32.toInt_mul, Int32.toInt_neg, Int32.reduceToInt, g_bm, g_bm'] at *); omega)
set_option maxRecDepth 100000 in
theorem g_X12_takeNumber_v8 (u : qS) (x : Int32) (N : Int) (hT : g_tk (u.2.1 1204) (u.2.1 1205) N) (ha : 0 ≤ (u.1 1207).toInt ∧ (u.1 1207).toInt ≤ N) (hf : 0 ≤ (u.1 1208).toInt) (c4_1 : (u.1 1208 : Int32) = 0) (c17_3 : (u.2.1 1204 (u.1 1207 : Int32).toNatClampNeg : Int32) = 2) (c47_4 : (lg_cmp (u.2.2.1 1206 (u.1 1207 : Int32).toNatClampNeg) ((x : Int32).toInt64) : Int32) ≤ 0) : g_mv N (u.1 1207) (u.1 1208) (((u.1 1207) + 1 : Int32)) ((u.1 1208 : Int32)) := by
  first | (have q8 := hT.lt ha.1 ha.2 (by rw [(by assumption : u.2.1 1204 (u.1 1207).toNatClampNeg = 2)]; decide); first | exact ⟨by omega, by omega, by omega, fun q => q⟩ | (refine ⟨?_, ?_, ?_, ?_⟩ <;> first | (intro q; first | assumption | (exfalso; (try simp only [g_m1, Int32.lt_iff_toInt_lt, Int32.le_iff_toInt_le, ← Int32.toInt_inj, Int32.reduceToInt] at *); omega)) | (have q9 := hT.N; (try simp only [g_m1, Int32.lt_iff_toInt_lt, Int32.le_iff_toInt_le, ← Int32.toInt_inj, Int32.reduceToInt] at *); omega) | (have q9 := hT.N; (try simp only [g_m1, Int32.lt_iff_toInt_lt, Int32.le_iff_toInt_le, ← Int32.toInt_inj, Int32.toInt_add, Int32.toInt_sub, Int32.toInt_mul, Int32.toInt_neg, Int32.reduceToInt, g_bm, g_bm'] at *); omega))) | (first | exact ⟨by omega, by omega, by omega, fun q => q⟩ | (refine ⟨?_, ?_, ?_, ?_⟩ <;> first | (intro q; first | assumption | (exfalso; (try simp only [g_m1, Int32.lt_iff_toInt_lt, Int32.le_iff_toInt_le, ← Int32.toInt_inj, Int32.reduceToInt] at *); omega)) | (have q9 := hT.N; (try simp only [g_m1, Int32.lt_iff_toInt_lt, Int32.le_iff_toInt_le, ← Int32.toInt_inj, Int32.reduceToInt] at *); omega) | (have q9 := hT.N; (try simp only [g_m1, Int32.lt_iff_toInt_lt, Int32.le_iff_toInt_le, ← Int32.toInt_inj, Int32.toInt_add, Int32.toInt_sub, Int32.toInt_mul, Int32.toInt_neg, Int32.reduceToInt, g_bm, g_bm'] at *); omega)))
set_option maxRecDepth 100000 in
theorem g_X12_takeNumber_v9 (u : qS) (x : Int32) (N : Int) (hT : g_tk (u.2.1 1204) (u.2.1 1205) N) (ha : 0 ≤ (u.1 1207).toInt ∧ (u.1 1207).toInt ≤ N) (hf : 0 ≤ (u.1 1208).toInt) (c4_1 : (u.1 1208 : Int32) = 0) (c17_3 : (u.2.1 1204 (u.1 1207 : Int32).toNatClampNeg : Int32) = 2) (c47_4 : ¬ (lg_cmp (u.2.2.1 1206 (u.1 1207 : Int32).toNatClampNeg) ((x : Int32).toInt64) : Int32) ≤ 0) : g_tk ((u.2.1 1204)) ((u.2.1 1205)) N := by
  assumption
set_option maxRecDepth 100000 in
theorem g_X12_takeNumber_v10 (u : qS) (x : Int32) (N : Int) (hT : g_tk (u.2.1 1204) (u.2.1 1205) N) (ha : 0 ≤ (u.1 1207).toInt ∧ (u.1 1207).toInt ≤ N) (hf : 0 ≤ (u.1 1208).toInt) (c4_1 : (u.1 1208 : Int32) = 0) (c17_3 : (u.2.1 1204 (u.1 1207 : Int32).toNatClampNeg : Int32) = 2) (c47_4 : ¬ (lg_cmp (u.2.2.1 1206 (u.1 1207 : Int32).toNatClampNeg) ((x : Int32).toInt64) : Int32) ≤ 0) : 0 ≤ ((u.1 1207 : Int32)).toInt ∧ ((u.1 1207 : Int32)).toInt ≤ N := by
  first | omega | ((try simp only [g_m1, Int32.lt_iff_toInt_lt, Int32.le_iff_toInt_le, ← Int32.toInt_inj, Int32.reduceToInt] at *); omega) | ((try simp only [g_m1, Int32.lt_iff_toInt_lt, Int32.le_iff_toInt_le, ← Int32.toInt_inj, Int32.reduceToInt] at *); omega) | ((try simp only [g_m1, Int32.lt_iff_toInt_lt, Int32.le_iff_toInt_le, ← Int32.toInt_inj, Int32.toInt_add, Int32.toInt_sub, Int32.toInt_mul, Int32.toInt_neg, Int32.reduceToInt, g_bm, g_bm'] at *); omega) | (have qr1 := g_rng x; (try simp only [g_m1, Int32.lt_iff_toInt_lt, Int32.le_iff_toInt_le, ← Int32.toInt_inj, Int32.toInt_add, Int32.toInt_sub, Int32.toInt_mul, Int32.toInt_neg, Int32.reduceToInt, g_bm, g_bm'] at *); omega) | (simp only [g_m1, Int32.lt_iff_toInt_lt, Int32.le_iff_toInt_le, ← Int32.toInt_inj, Int32.toInt_add, Int32.toInt_sub, Int32.toInt_mul, Int32.toInt_neg, Int32.reduceToInt, g_bm, g_bm'] at *; simp at *; omega) | (simp_all; done)
set_option maxRecDepth 100000 in
theorem g_X12_takeNumber_v11 (u : qS) (x : Int32) (N : Int) (hT : g_tk (u.2.1 1204) (u.2.1 1205) N) (ha : 0 ≤ (u.1 1207).toInt ∧ (u.1 1207).toInt ≤ N) (hf : 0 ≤ (u.1 1208).toInt) (c4_1 : (u.1 1208 : Int32) = 0) (c17_3 : (u.2.1 1204 (u.1 1207 : Int32).toNatClampNeg : Int32) = 2) (c47_4 : ¬ (lg_cmp (u.2.2.1 1206 (u.1 1207 : Int32).toNatClampNeg) ((x : Int32).toInt64) : Int32) ≤ 0) : 0 ≤ ((u.1 1208 : Int32)).toInt := by
  first | omega | ((try simp only [g_m1, Int32.lt_iff_toInt_lt, Int32.le_iff_toInt_le, ← Int32.toInt_inj, Int32.reduceToInt] at *); omega) | ((try simp only [g_m1, Int32.lt_iff_toInt_lt, Int32.le_iff_toInt_le, ← Int32.toInt_inj, Int32.reduceToInt] at *); omega) | ((try simp only [g_m1, Int32.lt_iff_toInt_lt, Int32.le_iff_toInt_le, ← Int32.toInt_inj, Int32.toInt_add, Int32.toInt_sub, Int32.toInt_mul, Int32.toInt_neg, Int32.reduceToInt, g_bm, g_bm'] at *); omega) | (have qr1 := g_rng x; (try simp only [g_m1, Int32.lt_iff_toInt_lt, Int32.le_iff_toInt_le, ← Int32.toInt_inj, Int32.toInt_add, Int32.toInt_sub, Int32.toInt_mul, Int32.toInt_neg, Int32.reduceToInt, g_bm, g_bm'] at *); omega) | (simp only [g_m1, Int32.lt_iff_toInt_lt, Int32.le_iff_toInt_le, ← Int32.toInt_inj, Int32.toInt_add, Int32.toInt_sub, Int32.toInt_mul, Int32.toInt_neg, Int32.reduceToInt, g_bm, g_bm'] at *; simp at *; omega) | (simp_all; done)
set_option maxRecDepth 100000 in
theorem g_X12_takeNumber_v12 (u : qS) (x : Int32) (N : Int) (hT : g_tk (u.2.1 1204) (u.2.1 1205) N) (ha : 0 ≤ (u.1 1207).toInt ∧ (u.1 1207).toInt ≤ N) (hf : 0 ≤ (u.1 1208).toInt) (c4_1 : (u.1 1208 : Int32) = 0) (c17_3 : (u.2.1 1204 (u.1 1207 : Int32).toNatClampNeg : Int32) = 2) (c47_4 : ¬ (lg_cmp (u.2.2.1 1206 (u.1 1207 : Int32).toNatClampNeg) ((x : Int32).toInt64) : Int32) ≤ 0) : 1 ≤ (4 : Int32) ∧ (4 : Int32) ≤ 5 := by
  first | omega | ((try simp only [g_m1, Int32.lt_iff_toInt_lt, Int32.le_iff_toInt_le, ← Int32.toInt_inj, Int32.reduceToInt] at *); omega) | ((try simp only [g_m1, Int32.lt_iff_toInt_lt, Int32.le_iff_toInt_le, ← Int32.toInt_inj, Int32.reduceToInt] at *); omega) | ((try simp only [g_m1, Int32.lt_iff_toInt_lt, Int32.le_iff_toInt_le, ← Int32.toInt_inj, Int32.toInt_add, Int32.toInt_sub, Int32.toInt_mul, Int32.toInt_neg, Int32.reduceToInt, g_bm, g_bm'] at *); omega) | (have qr1 := g_rng x; (try simp only [g_m1, Int32.lt_iff_toInt_lt, Int32.le_iff_toInt_le, ← Int32.toInt_inj, Int32.toInt_add, Int32.toInt_sub, Int32.toInt_mul, Int32.toInt_neg, Int32.reduceToInt, g_bm, g_bm'] at *); omega) | (simp only [g_m1, Int32.lt_iff_toInt_lt, Int32.le_iff_toInt_le, ← Int32.toInt_inj, Int32.toInt_add, Int32.toInt_sub, Int32.toInt_mul, Int32.toInt_neg, Int32.reduceToInt, g_bm, g_bm'] at *; simp at *; omega) | (simp_all; done)
set_option maxRecDepth 100000 in
theorem g_X12_takeNumber_v13 (u : qS) (x : Int32) (N : Int) (u_5 : qS) (hT : g_tk (u.2.1 1204) (u.2.1 1205) N) (ha : 0 ≤ (u.1 1207).toInt ∧ (u.1 1207).toInt ≤ N) (hf : 0 ≤ (u.1 1208).toInt) (c4_1 : (u.1 1208 : Int32) = 0) (c17_3 : (u.2.1 1204 (u.1 1207 : Int32).toNatClampNeg : Int32) = 2) (c47_4 : ¬ (lg_cmp (u.2.2.1 1206 (u.1 1207 : Int32).toNatClampNeg) ((x : Int32).toInt64) : Int32) ≤ 0) (hw_6 : 1 ≤ (u_5.1 1208).toInt) : ¬ (u_5.1 1208 : Int32) ≤ 0 := by
  first | omega | ((try simp only [g_m1, Int32.lt_iff_toInt_lt, Int32.le_iff_toInt_le, ← Int32.toInt_inj, Int32.reduceToInt] at *); omega) | ((try simp only [g_m1, Int32.lt_iff_toInt_lt, Int32.le_iff_toInt_le, ← Int32.toInt_inj, Int32.reduceToInt] at *); omega) | ((try simp only [g_m1, Int32.lt_iff_toInt_lt, Int32.le_iff_toInt_le, ← Int32.toInt_inj, Int32.toInt_add, Int32.toInt_sub, Int32.toInt_mul, Int32.toInt_neg, Int32.reduceToInt, g_bm, g_bm'] at *); omega) | (have qr1 := g_rng x; (try simp only [g_m1, Int32.lt_iff_toInt_lt, Int32.le_iff_toInt_le, ← Int32.toInt_inj, Int32.toInt_add, Int32.toInt_sub, Int32.toInt_mul, Int32.toInt_neg, Int32.reduceToInt, g_bm, g_bm'] at *); omega) | (simp only [g_m1, Int32.lt_iff_toInt_lt, Int32.le_iff_toInt_le, ← Int32.toInt_inj, Int32.toInt_add, Int32.toInt_sub, Int32.toInt_mul, Int32.toInt_neg, Int32.reduceToInt, g_bm, g_bm'] at *; simp at *; omega) | (simp_all; done)
set_option maxRecDepth 100000 in
theorem g_X12_takeNumber_v14 (u : qS) (x : Int32) (N : Int) (u_5 : qS) (hT : g_tk (u.2.1 1204) (u.2.1 1205) N) (ha : 0 ≤ (u.1 1207).toInt ∧ (u.1 1207).toInt ≤ N) (hf : 0 ≤ (u.1 1208).toInt) (c4_1 : (u.1 1208 : Int32) = 0) (c17_3 : (u.2.1 1204 (u.1 1207 : Int32).toNatClampNeg : Int32) = 2) (c47_4 : ¬ (lg_cmp (u.2.2.1 1206 (u.1 1207 : Int32).toNatClampNeg) ((x : Int32).toInt64) : Int32) ≤ 0) (hw_6 : 1 ≤ (u_5.1 1208).toInt) : g_mv N (u.1 1207) (u.1 1208) ((u.1 1207 : Int32)) ((u_5.1 1208 : Int32)) := by
  first | (have q8 := hT.lt ha.1 ha.2 (by rw [(by assumption : u.2.1 1204 (u.1 1207).toNatClampNeg = 2)]; decide); first | exact ⟨by omega, by omega, by omega, fun q => q⟩ | (refine ⟨?_, ?_, ?_, ?_⟩ <;> first | (intro q; first | assumption | (exfalso; (try simp only [g_m1, Int32.lt_iff_toInt_lt, Int32.le_iff_toInt_le, ← Int32.toInt_inj, Int32.reduceToInt] at *); omega)) | (have q9 := hT.N; (try simp only [g_m1, Int32.lt_iff_toInt_lt, Int32.le_iff_toInt_le, ← Int32.toInt_inj, Int32.reduceToInt] at *); omega) | (have q9 := hT.N; (try simp only [g_m1, Int32.lt_iff_toInt_lt, Int32.le_iff_toInt_le, ← Int32.toInt_inj, Int32.toInt_add, Int32.toInt_sub, Int32.toInt_mul, Int32.toInt_neg, Int32.reduceToInt, g_bm, g_bm'] at *); omega))) | (first | exact ⟨by omega, by omega, by omega, fun q => q⟩ | (refine ⟨?_, ?_, ?_, ?_⟩ <;> first | (intro q; first | assumption | (exfalso; (try simp only [g_m1, Int32.lt_iff_toInt_lt, Int32.le_iff_toInt_le, ← Int32.toInt_inj, Int32.reduceToInt] at *); omega)) | (have q9 := hT.N; (try simp only [g_m1, Int32.lt_iff_toInt_lt, Int32.le_iff_toInt_le, ← Int32.toInt_inj, Int32.reduceToInt] at *); omega) | (have q9 := hT.N; (try simp only [g_m1, Int32.lt_iff_toInt_lt, Int32.le_iff_toInt_le, ← Int32.toInt_inj, Int32.toInt_add, Int32.toInt_sub, Int32.toInt_mul, Int32.toInt_neg, Int32.reduceToInt, g_bm, g_bm'] at *); omega)))
set_option maxRecDepth 100000 in
theorem g_X12_takeNumber_v15 (u : qS) (N : Int) (hT : g_tk (u.2.1 1204) (u.2.1 1205) N) (ha : 0 ≤ (u.1 1207).toInt ∧ (u.1 1207).toInt ≤ N) (hf : 0 ≤ (u.1 1208).toInt) (c4_1 : (u.1 1208 : Int32) = 0) (c17_3 : ¬ (u.2.1 1204 (u.1 1207 : Int32).toNatClampNeg : Int32) = 2) : g_tk ((u.2.1 1204)) ((u.2.1 1205)) N := by
  assumption
set_option maxRecDepth 100000 in
theorem g_X12_takeNumber_v16 (u : qS) (x : Int32) (N : Int) (hT : g_tk (u.2.1 1204) (u.2.1 1205) N) (ha : 0 ≤ (u.1 1207).toInt ∧ (u.1 1207).toInt ≤ N) (hf : 0 ≤ (u.1 1208).toInt) (c4_1 : (u.1 1208 : Int32) = 0) (c17_3 : ¬ (u.2.1 1204 (u.1 1207 : Int32).toNatClampNeg : Int32) = 2) : 0 ≤ ((u.1 1207 : Int32)).toInt ∧ ((u.1 1207 : Int32)).toInt ≤ N := by
  first | omega | ((try simp only [g_m1, Int32.lt_iff_toInt_lt, Int32.le_iff_toInt_le, ← Int32.toInt_inj, Int32.reduceToInt] at *); omega) | ((try simp only [g_m1, Int32.lt_iff_toInt_lt, Int32.le_iff_toInt_le, ← Int32.toInt_inj, Int32.reduceToInt] at *); omega) | ((try simp only [g_m1, Int32.lt_iff_toInt_lt, Int32.le_iff_toInt_le, ← Int32.toInt_inj, Int32.toInt_add, Int32.toInt_sub, Int32.toInt_mul, Int32.toInt_neg, Int32.reduceToInt, g_bm, g_bm'] at *); omega) | (have qr1 := g_rng x; (try simp only [g_m1, Int32.lt_iff_toInt_lt, Int32.le_iff_toInt_le, ← Int32.toInt_inj, Int32.toInt_add, Int32.toInt_sub, Int32.toInt_mul, Int32.toInt_neg, Int32.reduceToInt, g_bm, g_bm'] at *); omega) | (simp only [g_m1, Int32.lt_iff_toInt_lt, Int32.le_iff_toInt_le, ← Int32.toInt_inj, Int32.toInt_add, Int32.toInt_sub, Int32.toInt_mul, Int32.toInt_neg, Int32.reduceToInt, g_bm, g_bm'] at *; simp at *; omega) | (simp_all; done)
set_option maxRecDepth 100000 in
theorem g_X12_takeNumber_v17 (u : qS) (x : Int32) (N : Int) (hT : g_tk (u.2.1 1204) (u.2.1 1205) N) (ha : 0 ≤ (u.1 1207).toInt ∧ (u.1 1207).toInt ≤ N) (hf : 0 ≤ (u.1 1208).toInt) (c4_1 : (u.1 1208 : Int32) = 0) (c17_3 : ¬ (u.2.1 1204 (u.1 1207 : Int32).toNatClampNeg : Int32) = 2) : 0 ≤ ((u.1 1208 : Int32)).toInt := by
  first | omega | ((try simp only [g_m1, Int32.lt_iff_toInt_lt, Int32.le_iff_toInt_le, ← Int32.toInt_inj, Int32.reduceToInt] at *); omega) | ((try simp only [g_m1, Int32.lt_iff_toInt_lt, Int32.le_iff_toInt_le, ← Int32.toInt_inj, Int32.reduceToInt] at *); omega) | ((try simp only [g_m1, Int32.lt_iff_toInt_lt, Int32.le_iff_toInt_le, ← Int32.toInt_inj, Int32.toInt_add, Int32.toInt_sub, Int32.toInt_mul, Int32.toInt_neg, Int32.reduceToInt, g_bm, g_bm'] at *); omega) | (have qr1 := g_rng x; (try simp only [g_m1, Int32.lt_iff_toInt_lt, Int32.le_iff_toInt_le, ← Int32.toInt_inj, Int32.toInt_add, Int32.toInt_sub, Int32.toInt_mul, Int32.toInt_neg, Int32.reduceToInt, g_bm, g_bm'] at *); omega) | (simp only [g_m1, Int32.lt_iff_toInt_lt, Int32.le_iff_toInt_le, ← Int32.toInt_inj, Int32.toInt_add, Int32.toInt_sub, Int32.toInt_mul, Int32.toInt_neg, Int32.reduceToInt, g_bm, g_bm'] at *; simp at *; omega) | (simp_all; done)
set_option maxRecDepth 100000 in
theorem g_X12_takeNumber_v18 (u : qS) (x : Int32) (N : Int) (hT : g_tk (u.2.1 1204) (u.2.1 1205) N) (ha : 0 ≤ (u.1 1207).toInt ∧ (u.1 1207).toInt ≤ N) (hf : 0 ≤ (u.1 1208).toInt) (c4_1 : (u.1 1208 : Int32) = 0) (c17_3 : ¬ (u.2.1 1204 (u.1 1207 : Int32).toNatClampNeg : Int32) = 2) : 1 ≤ (1 : Int32) ∧ (1 : Int32) ≤ 5 := by
  first | omega | ((try simp only [g_m1, Int32.lt_iff_toInt_lt, Int32.le_iff_toInt_le, ← Int32.toInt_inj, Int32.reduceToInt] at *); omega) | ((try simp only [g_m1, Int32.lt_iff_toInt_lt, Int32.le_iff_toInt_le, ← Int32.toInt_inj, Int32.reduceToInt] at *); omega) | ((try simp only [g_m1, Int32.lt_iff_toInt_lt, Int32.le_iff_toInt_le, ← Int32.toInt_inj, Int32.toInt_add, Int32.toInt_sub, Int32.toInt_mul, Int32.toInt_neg, Int32.reduceToInt, g_bm, g_bm'] at *); omega) | (have qr1 := g_rng x; (try simp only [g_m1, Int32.lt_iff_toInt_lt, Int32.le_iff_toInt_le, ← Int32.toInt_inj, Int32.toInt_add, Int32.toInt_sub, Int32.toInt_mul, Int32.toInt_neg, Int32.reduceToInt, g_bm, g_bm'] at *); omega) | (simp only [g_m1, Int32.lt_iff_toInt_lt, Int32.le_iff_toInt_le, ← Int32.toInt_inj, Int32.toInt_add, Int32.toInt_sub, Int32.toInt_mul, Int32.toInt_neg, Int32.reduceToInt, g_bm, g_bm'] at *; simp at *; omega) | (simp_all; done)
set_option maxRecDepth 100000 in
theorem g_X12_takeNumber_v19 (u : qS) (x : Int32) (N : Int) (u_9 : qS) (hT : g_tk (u.2.1 1204) (u.2.1 1205) N) (ha : 0 ≤ (u.1 1207).toInt ∧ (u.1 1207).toInt ≤ N) (hf : 0 ≤ (u.1 1208).toInt) (c4_1 : (u.1 1208 : Int32) = 0) (c17_3 : ¬ (u.2.1 1204 (u.1 1207 : Int32).toNatClampNeg : Int32) = 2) (hw_10 : 1 ≤ (u_9.1 1208).toInt) : ¬ (u_9.1 1208 : Int32) ≤ 0 := by
  first | omega | ((try simp only [g_m1, Int32.lt_iff_toInt_lt, Int32.le_iff_toInt_le, ← Int32.toInt_inj, Int32.reduceToInt] at *); omega) | ((try simp only [g_m1, Int32.lt_iff_toInt_lt, Int32.le_iff_toInt_le, ← Int32.toInt_inj, Int32.reduceToInt] at *); omega) | ((try simp only [g_m1, Int32.lt_iff_toInt_lt, Int32.le_iff_toInt_le, ← Int32.toInt_inj, Int32.toInt_add, Int32.toInt_sub, Int32.toInt_mul, Int32.toInt_neg, Int32.reduceToInt, g_bm, g_bm'] at *); omega) | (have qr1 := g_rng x; (try simp only [g_m1, Int32.lt_iff_toInt_lt, Int32.le_iff_toInt_le, ← Int32.toInt_inj, Int32.toInt_add, Int32.toInt_sub, Int32.toInt_mul, Int32.toInt_neg, Int32.reduceToInt, g_bm, g_bm'] at *); omega) | (simp only [g_m1, Int32.lt_iff_toInt_lt, Int32.le_iff_toInt_le, ← Int32.toInt_inj, Int32.toInt_add, Int32.toInt_sub, Int32.toInt_mul, Int32.toInt_neg, Int32.reduceToInt, g_bm, g_bm'] at *; simp at *; omega) | (simp_all; done)
set_option maxRecDepth 100000 in
theorem g_X12_takeNumber_v20 (u : qS) (N : Int) (u_9 : qS) (hT : g_tk (u.2.1 1204) (u.2.1 1205) N) (ha : 0 ≤ (u.1 1207).toInt ∧ (u.1 1207).toInt ≤ N) (hf : 0 ≤ (u.1 1208).toInt) (c4_1 : (u.1 1208 : Int32) = 0) (c17_3 : ¬ (u.2.1 1204 (u.1 1207 : Int32).toNatClampNeg : Int32) = 2) (hw_10 : 1 ≤ (u_9.1 1208).toInt) : g_mv N (u.1 1207) (u.1 1208) ((u.1 1207 : Int32)) ((u_9.1 1208 : Int32)) := by
  first | (have q8 := hT.lt ha.1 ha.2 (by rw [(by assumption : u.2.1 1204 (u.1 1207).toNatClampNeg = 2)]; decide); first | exact ⟨by omega, by omega, by omega, fun q => q⟩ | (refine ⟨?_, ?_, ?_, ?_⟩ <;> first | (intro q; first | assumption | (exfalso; (try simp only [g_m1, Int32.lt_iff_toInt_lt, Int32.le_iff_toInt_le, ← Int32.toInt_inj, Int32.reduceToInt] at *); omega)) | (have q9 := hT.N; (try simp only [g_m1, Int32.lt_iff_toInt_lt, Int32.le_iff_toInt_le, ← Int32.toInt_inj, Int32.reduceToInt] at *); omega) | (have q9 := hT.N; (try simp only [g_m1, Int32.lt_iff_toInt_lt, Int32.le_iff_toInt_le, ← Int32.toInt_inj, Int32.toInt_add, Int32.toInt_sub, Int32.toInt_mul, Int32.toInt_neg, Int32.reduceToInt, g_bm, g_bm'] at *); omega))) | (first | exact ⟨by omega, by omega, by omega, fun q => q⟩ | (refine ⟨?_, ?_, ?_, ?_⟩ <;> first | (intro q; first | assumption | (exfalso; (try simp only [g_m1, Int32.lt_iff_toInt_lt, Int32.le_iff_toInt_le, ← Int32.toInt_inj, Int32.reduceToInt] at *); omega)) | (have q9 := hT.N; (try simp only [g_m1, Int32.lt_iff_toInt_lt, Int32.le_iff_toInt_le, ← Int32.toInt_inj, Int32.reduceToInt] at *); omega) | (have q9 := hT.N; (try simp only [g_m1, Int32.lt_iff_toInt_lt, Int32.le_iff_toInt_le, ← Int32.toInt_inj, Int32.toInt_add, Int32.toInt_sub, Int32.toInt_mul, Int32.toInt_neg, Int32.reduceToInt, g_bm, g_bm'] at *); omega)))
set_option maxHeartbeats 1000000 in
set_option maxRecDepth 100000 in
theorem g_X12_takeNumber (l : Launch) (E : qE) (A : Nat → Prop) (u : qS) (x : Int32) (N : Int) (hT : g_tk (u.2.1 1204) (u.2.1 1205) N) (ha : 0 ≤ (u.1 1207).toInt ∧ (u.1 1207).toInt ≤ N) (hf : 0 ≤ (u.1 1208).toInt) : Met l yX12_takeNumber (uws yX12_takeNumber cX12_takeNumber 2 (some .int)) (qR 1 0 0) (qPc E A 1 u [.ref (E.2.2 1299), .int x]) (qQi E A 1 (fun r u1 => qFr [1207, 1208] [] [] u u1 ∧ (g_mv N (u.1 1207) (u.1 1208) (u1.1 1207) (u1.1 1208)))) 0 0 A := by
  refine q_met (own := RX12) (f := 1) [.ref (E.2.2 1299), .int x] (by decide) (Nat.le_of_ble_eq_true rfl) rfl ?_
  intro p0 e0 s0 m0 bl0 me0 cd0 ls hF hr hlocks hU hS hA hl
  have hl : lv_has ls 2 [(0, .ref (E.2.2 1299)), (1, .int x)] := hl
  have hfr : qFr [1207, 1208] [] [] u u := qFr.rf
  refine lv_aload_n hF.1 hF.2.1 dX12_takeNumber_0 rfl (lv_at hl 0 rfl) ?_
  refine q_get (v := .int (u.1 1208)) hF hU dX12_takeNumber_1 0 12 8 1208 1299 rfl rfl rfl rfl inX12 (by decide) (by decide) w_1337 rfl rfl ?_
  refine lv_if_ne (tgt := 28) hF.1 hF.2.1 dX12_takeNumber_4 (by decide) (fun c4_1 => ?_) (fun c4_1 => ?_)
  · refine lv_aload_n hF.1 hF.2.1 dX12_takeNumber_28 rfl (lv_at hl 0 rfl) ?_
    refine q_get (v := .int (u.1 1208)) hF hU dX12_takeNumber_29 0 12 8 1208 1299 rfl rfl rfl rfl inX12 (by decide) (by decide) w_1337 rfl rfl ?_
    refine lv_if_ne (tgt := 55) hF.1 hF.2.1 dX12_takeNumber_32 (by decide) (fun _ => ?_) (fun h9 => absurd h9 (by first | exact c4_1 | exact Int32.not_lt.mp c4_1 | exact Int32.not_le.mp c4_1 | exact Int32.not_lt.mpr c4_1 | exact Int32.not_le.mpr c4_1))
    refine lv_aload_n hF.1 hF.2.1 dX12_takeNumber_55 rfl (lv_at hl 0 rfl) ?_
    refine q_get (v := .int (u.1 1208)) hF hU dX12_takeNumber_56 0 12 8 1208 1299 rfl rfl rfl rfl inX12 (by decide) (by decide) w_1337 rfl rfl ?_
    refine lv_if_le (tgt := 64) hF.1 hF.2.1 dX12_takeNumber_59 (by decide) (fun c59_2 => ?_) (fun c59_2 => ?_)
    · refine lv_aload_n hF.1 hF.2.1 dX12_takeNumber_64 rfl (lv_at hl 0 rfl) ?_
      refine lv_dup hF.1 hF.2.1 dX12_takeNumber_65 rfl ?_
      refine q_get (v := .int (u.1 1207)) hF hU dX12_takeNumber_66 0 12 7 1207 1299 rfl rfl rfl rfl inX12 (by decide) (by decide) w_1336 rfl rfl ?_
      refine lv_iconst (v := 1) hF.1 hF.2.1 dX12_takeNumber_69 (by decide) ?_
      refine lv_iadd hF.1 hF.2.1 dX12_takeNumber_70 ?_
      refine q_put hF hU hS dX12_takeNumber_71 0 12 7 1207 1299 rfl rfl rfl rfl inX12 tyX12 tyX12_ok nmX12 (by decide) (by decide) rfl w_1336 rfl rfl rfl rfl (fun H locs hU hS => ?_)
      have hfr : qFr [1207, 1208] [] [] u (qsI u 1207 ((u.1 1207) + 1)) := hfr.setI (by decide)
      refine lv_aload_n hF.1 hF.2.1 dX12_takeNumber_74 rfl (lv_at hl 0 rfl) ?_
      refine q_get (v := .ref (E.2.2 1206)) hF hU dX12_takeNumber_75 0 12 6 1206 1299 rfl rfl rfl rfl inX12 (by decide) (by decide) w_1335 rfl rfl ?_
      refine lv_aload_n hF.1 hF.2.1 dX12_takeNumber_78 rfl (lv_at hl 0 rfl) ?_
      refine q_get (v := .int ((u.1 1207) + 1)) hF hU dX12_takeNumber_79 0 12 7 1207 1299 rfl rfl rfl rfl inX12 (by decide) (by decide) w_1336 rfl rfl ?_
      refine lv_iconst (v := 1) hF.1 hF.2.1 dX12_takeNumber_82 (by decide) ?_
      refine lv_isub hF.1 hF.2.1 dX12_takeNumber_83 ?_
      refine q_lald (v := u.2.2.1 1206 (((u.1 1207) + 1) - 1 : Int32).toNatClampNeg) hF hU dX12_takeNumber_84 3 1206 rfl rfl (g_X12_takeNumber_v0 u N hT ha hf c4_1 c59_2) (congrFun (hfr.2.2.1 1206 (by decide)) _) ?_
      refine lv_l2i (v := (u.2.2.1 1206 (((u.1 1207) + 1) - 1 : Int32).toNatClampNeg).toInt32) hF.1 hF.2.1 dX12_takeNumber_85 rfl ?_
      exact q_iret hF hr rfl hlocks hU hS dX12_takeNumber_86 ⟨hfr, (g_X12_takeNumber_v1 u N hT ha hf c4_1 c59_2)⟩
    · refine lv_iconst (v := 0) hF.1 hF.2.1 dX12_takeNumber_62 (by decide) ?_
      exact q_iret hF hr rfl hlocks hU hS dX12_takeNumber_63 ⟨hfr, (g_X12_takeNumber_v2 u N hT ha hf c4_1 c59_2)⟩
  · refine lv_aload_n hF.1 hF.2.1 dX12_takeNumber_7 rfl (lv_at hl 0 rfl) ?_
    refine q_get (v := .ref (E.2.2 1204)) hF hU dX12_takeNumber_8 0 12 4 1204 1299 rfl rfl rfl rfl inX12 (by decide) (by decide) w_1333 rfl rfl ?_
    refine lv_aload_n hF.1 hF.2.1 dX12_takeNumber_11 rfl (lv_at hl 0 rfl) ?_
    refine q_get (v := .int (u.1 1207)) hF hU dX12_takeNumber_12 0 12 7 1207 1299 rfl rfl rfl rfl inX12 (by decide) (by decide) w_1336 rfl rfl ?_
    refine q_iald (v := u.2.1 1204 (u.1 1207 : Int32).toNatClampNeg) hF hU dX12_takeNumber_15 1 1204 rfl rfl (g_X12_takeNumber_v3 u N hT ha hf c4_1) rfl ?_
    refine lv_iconst (v := 2) hF.1 hF.2.1 dX12_takeNumber_16 (by decide) ?_
    refine lv_icmp_eq (tgt := 28) hF.1 hF.2.1 dX12_takeNumber_17 (by decide) (fun c17_3 => ?_) (fun c17_3 => ?_)
    · refine lv_aload_n hF.1 hF.2.1 dX12_takeNumber_28 rfl (lv_at hl 0 rfl) ?_
      refine q_get (v := .int (u.1 1208)) hF hU dX12_takeNumber_29 0 12 8 1208 1299 rfl rfl rfl rfl inX12 (by decide) (by decide) w_1337 rfl rfl ?_
      refine lv_if_ne (tgt := 55) hF.1 hF.2.1 dX12_takeNumber_32 (by decide) (fun h9 => absurd (g_X12_takeNumber_v4 u N hT ha hf c4_1 c17_3) h9) (fun _ => ?_)
      refine lv_aload_n hF.1 hF.2.1 dX12_takeNumber_35 rfl (lv_at hl 0 rfl) ?_
      refine q_get (v := .ref (E.2.2 1206)) hF hU dX12_takeNumber_36 0 12 6 1206 1299 rfl rfl rfl rfl inX12 (by decide) (by decide) w_1335 rfl rfl ?_
      refine lv_aload_n hF.1 hF.2.1 dX12_takeNumber_39 rfl (lv_at hl 0 rfl) ?_
      refine q_get (v := .int (u.1 1207)) hF hU dX12_takeNumber_40 0 12 7 1207 1299 rfl rfl rfl rfl inX12 (by decide) (by decide) w_1336 rfl rfl ?_
      refine q_lald (v := u.2.2.1 1206 (u.1 1207 : Int32).toNatClampNeg) hF hU dX12_takeNumber_43 3 1206 rfl rfl (g_X12_takeNumber_v5 u N hT ha hf c4_1 c17_3) rfl ?_
      refine lv_iload_n hF.1 hF.2.1 dX12_takeNumber_44 rfl (lv_at hl 1 rfl) ?_
      refine lv_i2l (v := (x : Int32).toInt64) hF.1 hF.2.1 dX12_takeNumber_45 rfl ?_
      refine W.lcmp hF.1 hF.2.1 dX12_takeNumber_46 ?_
      refine lv_if_le (tgt := 55) hF.1 hF.2.1 dX12_takeNumber_47 (by decide) (fun c47_4 => ?_) (fun c47_4 => ?_)
      · refine lv_aload_n hF.1 hF.2.1 dX12_takeNumber_55 rfl (lv_at hl 0 rfl) ?_
        refine q_get (v := .int (u.1 1208)) hF hU dX12_takeNumber_56 0 12 8 1208 1299 rfl rfl rfl rfl inX12 (by decide) (by decide) w_1337 rfl rfl ?_
        refine lv_if_le (tgt := 64) hF.1 hF.2.1 dX12_takeNumber_59 (by decide) (fun _ => ?_) (fun h9 => absurd (g_X12_takeNumber_v6 u x N hT ha hf c4_1 c17_3 c47_4) h9)
        refine lv_aload_n hF.1 hF.2.1 dX12_takeNumber_64 rfl (lv_at hl 0 rfl) ?_
        refine lv_dup hF.1 hF.2.1 dX12_takeNumber_65 rfl ?_
        refine q_get (v := .int (u.1 1207)) hF hU dX12_takeNumber_66 0 12 7 1207 1299 rfl rfl rfl rfl inX12 (by decide) (by decide) w_1336 rfl rfl ?_
        refine lv_iconst (v := 1) hF.1 hF.2.1 dX12_takeNumber_69 (by decide) ?_
        refine lv_iadd hF.1 hF.2.1 dX12_takeNumber_70 ?_
        refine q_put hF hU hS dX12_takeNumber_71 0 12 7 1207 1299 rfl rfl rfl rfl inX12 tyX12 tyX12_ok nmX12 (by decide) (by decide) rfl w_1336 rfl rfl rfl rfl (fun H locs hU hS => ?_)
        have hfr : qFr [1207, 1208] [] [] u (qsI u 1207 ((u.1 1207) + 1)) := hfr.setI (by decide)
        refine lv_aload_n hF.1 hF.2.1 dX12_takeNumber_74 rfl (lv_at hl 0 rfl) ?_
        refine q_get (v := .ref (E.2.2 1206)) hF hU dX12_takeNumber_75 0 12 6 1206 1299 rfl rfl rfl rfl inX12 (by decide) (by decide) w_1335 rfl rfl ?_
        refine lv_aload_n hF.1 hF.2.1 dX12_takeNumber_78 rfl (lv_at hl 0 rfl) ?_
        refine q_get (v := .int ((u.1 1207) + 1)) hF hU dX12_takeNumber_79 0 12 7 1207 1299 rfl rfl rfl rfl inX12 (by decide) (by decide) w_1336 rfl rfl ?_
        refine lv_iconst (v := 1) hF.1 hF.2.1 dX12_takeNumber_82 (by decide) ?_
        refine lv_isub hF.1 hF.2.1 dX12_takeNumber_83 ?_
        refine q_lald (v := u.2.2.1 1206 (((u.1 1207) + 1) - 1 : Int32).toNatClampNeg) hF hU dX12_takeNumber_84 3 1206 rfl rfl (g_X12_takeNumber_v7 u x N hT ha hf c4_1 c17_3 c47_4) (congrFun (hfr.2.2.1 1206 (by decide)) _) ?_
        refine lv_l2i (v := (u.2.2.1 1206 (((u.1 1207) + 1) - 1 : Int32).toNatClampNeg).toInt32) hF.1 hF.2.1 dX12_takeNumber_85 rfl ?_
        exact q_iret hF hr rfl hlocks hU hS dX12_takeNumber_86 ⟨hfr, (g_X12_takeNumber_v8 u x N hT ha hf c4_1 c17_3 c47_4)⟩
      · refine lv_aload_n hF.1 hF.2.1 dX12_takeNumber_50 rfl (lv_at hl 0 rfl) ?_
        refine lv_iconst (v := 4) hF.1 hF.2.1 dX12_takeNumber_51 (by decide) ?_
        have hM9 := g_X12_wrong l E A u 4 N (g_X12_takeNumber_v9 u x N hT ha hf c4_1 c17_3 c47_4) (g_X12_takeNumber_v10 u x N hT ha hf c4_1 c17_3 c47_4) (g_X12_takeNumber_v11 u x N hT ha hf c4_1 c17_3 c47_4) (g_X12_takeNumber_v12 u x N hT ha hf c4_1 c17_3 c47_4)
        have hR9 := q_runV (l := l) (e := e0) (below := bl0) (meth := me0) (R := qR 1 0 0) (cells := 0) (slots := 0) (st0 := [.int 4, .ref (E.2.2 1299)]) (rest := []) hF hU hS hA 1 0 12 1299 rfl rfl rfl hM9 w_1604 w_1606 w_50 w_107 w_1607 (by decide +kernel) ⟨Nat.le_of_ble_eq_true rfl, Nat.le_of_ble_eq_true rfl⟩ dX12_takeNumber_52 rfl hl.1 rfl (Nat.le_of_ble_eq_true rfl) ⟨Nat.le_of_ble_eq_true rfl, Nat.le_of_ble_eq_true rfl⟩
        refine q_callv hR9 hU.2.2.2 hS (fun u_5 H locs hw_6 hU hS => ?_)
        have hw_6_f := hw_6.1
        have hfo := hfr
        have hfr : qFr [1207, 1208] [] [] u u_5 := hfr.trans (hw_6_f.mono (by decide) (by decide) (by decide))
        have hw_6 := hw_6.2
        have e_8 : u_5.1 1207 = (u.1 1207) := (hw_6_f.1 1207 (by decide)).trans rfl
        have hw_6 : 1 ≤ (u_5.1 1208).toInt := hw_6
        refine lv_aload_n hF.1 hF.2.1 dX12_takeNumber_55 rfl (lv_at hl 0 rfl) ?_
        refine q_get (v := .int (u_5.1 1208)) hF hU dX12_takeNumber_56 0 12 8 1208 1299 rfl rfl rfl rfl inX12 (by decide) (by decide) w_1337 rfl rfl ?_
        refine lv_if_le (tgt := 64) hF.1 hF.2.1 dX12_takeNumber_59 (by decide) (fun h9 => absurd h9 (g_X12_takeNumber_v13 u x N u_5 hT ha hf c4_1 c17_3 c47_4 hw_6)) (fun _ => ?_)
        refine lv_iconst (v := 0) hF.1 hF.2.1 dX12_takeNumber_62 (by decide) ?_
        exact q_iret hF hr rfl hlocks hU hS dX12_takeNumber_63 ⟨hfr, by first | (rw [show (u_5).1 1207 = (u.1 1207) from e_8]; exact (g_X12_takeNumber_v14 u x N u_5 hT ha hf c4_1 c17_3 c47_4 hw_6)) | rw [show (u_5).1 1207 = (u.1 1207) from e_8]⟩
    · refine lv_aload_n hF.1 hF.2.1 dX12_takeNumber_20 rfl (lv_at hl 0 rfl) ?_
      refine lv_iconst (v := 1) hF.1 hF.2.1 dX12_takeNumber_21 (by decide) ?_
      have hM9 := g_X12_wrong l E A u 1 N (g_X12_takeNumber_v15 u N hT ha hf c4_1 c17_3) (g_X12_takeNumber_v16 u x N hT ha hf c4_1 c17_3) (g_X12_takeNumber_v17 u x N hT ha hf c4_1 c17_3) (g_X12_takeNumber_v18 u x N hT ha hf c4_1 c17_3)
      have hR9 := q_runV (l := l) (e := e0) (below := bl0) (meth := me0) (R := qR 1 0 0) (cells := 0) (slots := 0) (st0 := [.int 1, .ref (E.2.2 1299)]) (rest := []) hF hU hS hA 1 0 12 1299 rfl rfl rfl hM9 w_1604 w_1606 w_50 w_107 w_1607 (by decide +kernel) ⟨Nat.le_of_ble_eq_true rfl, Nat.le_of_ble_eq_true rfl⟩ dX12_takeNumber_22 rfl hl.1 rfl (Nat.le_of_ble_eq_true rfl) ⟨Nat.le_of_ble_eq_true rfl, Nat.le_of_ble_eq_true rfl⟩
      refine q_callv hR9 hU.2.2.2 hS (fun u_9 H locs hw_10 hU hS => ?_)
      have hw_10_f := hw_10.1
      have hfo := hfr
      have hfr : qFr [1207, 1208] [] [] u u_9 := hfr.trans (hw_10_f.mono (by decide) (by decide) (by decide))
      have hw_10 := hw_10.2
      have e_12 : u_9.1 1207 = (u.1 1207) := (hw_10_f.1 1207 (by decide)).trans rfl
      have hw_10 : 1 ≤ (u_9.1 1208).toInt := hw_10
      refine lv_goto (tgt := 55) hF.1 hF.2.1 dX12_takeNumber_25 (by decide) ?_
      refine lv_aload_n hF.1 hF.2.1 dX12_takeNumber_55 rfl (lv_at hl 0 rfl) ?_
      refine q_get (v := .int (u_9.1 1208)) hF hU dX12_takeNumber_56 0 12 8 1208 1299 rfl rfl rfl rfl inX12 (by decide) (by decide) w_1337 rfl rfl ?_
      refine lv_if_le (tgt := 64) hF.1 hF.2.1 dX12_takeNumber_59 (by decide) (fun h9 => absurd h9 (g_X12_takeNumber_v19 u x N u_9 hT ha hf c4_1 c17_3 hw_10)) (fun _ => ?_)
      refine lv_iconst (v := 0) hF.1 hF.2.1 dX12_takeNumber_62 (by decide) ?_
      exact q_iret hF hr rfl hlocks hU hS dX12_takeNumber_63 ⟨hfr, by first | (rw [show (u_9).1 1207 = (u.1 1207) from e_12]; exact (g_X12_takeNumber_v20 u N u_9 hT ha hf c4_1 c17_3 hw_10)) | rw [show (u_9).1 1207 = (u.1 1207) from e_12]⟩
set_option maxRecDepth 100000 in
theorem g_X12_emit_v0 (u : qS) (hc : 0 ≤ (u.1 1221).toInt ∧ (u.1 1221).toInt < 1200) : vp_in (19200 + (u.1 1221)) 20400 := by
  have ez0 : (19200 + (u.1 1221) : Int32).toInt = (19200 : Int32).toInt + (u.1 1221 : Int32).toInt := g_add (by (try simp only [g_m1, Int32.lt_iff_toInt_lt, Int32.le_iff_toInt_le, ← Int32.toInt_inj, Int32.reduceToInt] at *); omega) (by (try simp only [g_m1, Int32.lt_iff_toInt_lt, Int32.le_iff_toInt_le, ← Int32.toInt_inj, Int32.reduceToInt] at *); omega)
  refine g_in ?_ ?_ <;> ((try simp only [g_m1, Int32.lt_iff_toInt_lt, Int32.le_iff_toInt_le, ← Int32.toInt_inj, Int32.reduceToInt] at *); omega)
set_option maxRecDepth 100000 in
theorem g_X12_emit_v1 (u : qS) (x : Int32) (f_1 : Nat → Int32) (hc : 0 ≤ (u.1 1221).toInt ∧ (u.1 1221).toInt < 1200) (hf_1 : f_1 = upd (u.2.1 1222) (19200 + (u.1 1221) : Int32).toNatClampNeg x) : vp_in (19200 + (u.1 1221)) 20400 := by
  have ez0 : (19200 + (u.1 1221) : Int32).toInt = (19200 : Int32).toInt + (u.1 1221 : Int32).toInt := g_add (by (try simp only [g_m1, Int32.lt_iff_toInt_lt, Int32.le_iff_toInt_le, ← Int32.toInt_inj, Int32.reduceToInt] at *); omega) (by (try simp only [g_m1, Int32.lt_iff_toInt_lt, Int32.le_iff_toInt_le, ← Int32.toInt_inj, Int32.reduceToInt] at *); omega)
  refine g_in ?_ ?_ <;> ((try simp only [g_m1, Int32.lt_iff_toInt_lt, Int32.le_iff_toInt_le, ← Int32.toInt_inj, Int32.reduceToInt] at *); omega)
set_option maxRecDepth 100000 in
theorem g_X12_emit_v2 (u : qS) (x : Int32) (y : Int32) (f_1 : Nat → Int32) (f_2 : Nat → Int32) (hc : 0 ≤ (u.1 1221).toInt ∧ (u.1 1221).toInt < 1200) (hf_1 : f_1 = upd (u.2.1 1222) (19200 + (u.1 1221) : Int32).toNatClampNeg x) (hf_2 : f_2 = upd (u.2.1 1223) (19200 + (u.1 1221) : Int32).toNatClampNeg y) : ((u.1 1221) + 1 : Int32) = u.1 1221 + 1 ∧ f_1 = upd (u.2.1 1222) (19200 + (u.1 1221).toNatClampNeg) x ∧ f_2 = upd (u.2.1 1223) (19200 + (u.1 1221).toNatClampNeg) y := by
  have e : ((19200 : Int32) + u.1 1221).toNatClampNeg = 19200 + (u.1 1221).toNatClampNeg := by rw [g_clamp, g_clamp, g_add (x := 19200) (y := u.1 1221) (by show _ ≤ 19200 + (u.1 1221).toInt; omega) (by show 19200 + (u.1 1221).toInt < _; omega)]; show (19200 + (u.1 1221).toInt).toNat = _; omega
  subst hf_1; subst hf_2; rw [e]; exact ⟨rfl, rfl, rfl⟩
set_option maxHeartbeats 1000000 in
set_option maxRecDepth 100000 in
theorem g_X12_emit (l : Launch) (E : qE) (A : Nat → Prop) (u : qS) (x : Int32) (y : Int32) (hc : 0 ≤ (u.1 1221).toInt ∧ (u.1 1221).toInt < 1200) : Met l yX12_emit (uws yX12_emit cX12_emit 3 none) (qR 0 0 0) (qPc E A 1 u [.ref (E.2.2 1299), .int x, .int y]) (qQv E A 1 (fun u1 => qFr [1221] [1222, 1223] [] u u1 ∧ (u1.1 1221 = u.1 1221 + 1 ∧ u1.2.1 1222 = upd (u.2.1 1222) (19200 + (u.1 1221).toNatClampNeg) x ∧ u1.2.1 1223 = upd (u.2.1 1223) (19200 + (u.1 1221).toNatClampNeg) y))) 0 0 A := by
  refine q_met (own := RX12) (f := 0) [.ref (E.2.2 1299), .int x, .int y] (by decide) (Nat.le_of_ble_eq_true rfl) rfl ?_
  intro p0 e0 s0 m0 bl0 me0 cd0 ls hF hr hlocks hU hS hA hl
  have hl : lv_has ls 3 [(0, .ref (E.2.2 1299)), (1, .int x), (2, .int y)] := hl
  have hfr : qFr [1221] [1222, 1223] [] u u := qFr.rf
  refine lv_aload_n hF.1 hF.2.1 dX12_emit_0 rfl (lv_at hl 0 rfl) ?_
  refine q_get (v := .ref (E.2.2 1222)) hF hU dX12_emit_1 0 12 22 1222 1299 rfl rfl rfl rfl inX12 (by decide) (by decide) w_1351 rfl rfl ?_
  refine lv_sipush (v := 19200) hF.1 hF.2.1 dX12_emit_4 (by decide) ?_
  refine lv_aload_n hF.1 hF.2.1 dX12_emit_7 rfl (lv_at hl 0 rfl) ?_
  refine q_get (v := .int (u.1 1221)) hF hU dX12_emit_8 0 12 21 1221 1299 rfl rfl rfl rfl inX12 (by decide) (by decide) w_1350 rfl rfl ?_
  refine lv_iadd hF.1 hF.2.1 dX12_emit_11 ?_
  refine lv_iload_n hF.1 hF.2.1 dX12_emit_12 rfl (lv_at hl 1 rfl) ?_
  refine q_iast hF hU hS dX12_emit_13 14 1222 rfl rfl (g_X12_emit_v0 u hc) (fun f_1 H locs hg9 hU hS => ?_)
  have hf_1 : f_1 = upd (u.2.1 1222) (19200 + (u.1 1221) : Int32).toNatClampNeg x := hg9
  have hfr : qFr [1221] [1222, 1223] [] u (qsF u 1222 f_1) := hfr.setF (by decide)
  refine lv_aload_n hF.1 hF.2.1 dX12_emit_14 rfl (lv_at hl 0 rfl) ?_
  refine q_get (v := .ref (E.2.2 1223)) hF hU dX12_emit_15 0 12 23 1223 1299 rfl rfl rfl rfl inX12 (by decide) (by decide) w_1352 rfl rfl ?_
  refine lv_sipush (v := 19200) hF.1 hF.2.1 dX12_emit_18 (by decide) ?_
  refine lv_aload_n hF.1 hF.2.1 dX12_emit_21 rfl (lv_at hl 0 rfl) ?_
  refine q_get (v := .int (u.1 1221)) hF hU dX12_emit_22 0 12 21 1221 1299 rfl rfl rfl rfl inX12 (by decide) (by decide) w_1350 rfl rfl ?_
  refine lv_iadd hF.1 hF.2.1 dX12_emit_25 ?_
  refine lv_iload_n hF.1 hF.2.1 dX12_emit_26 rfl (lv_at hl 2 rfl) ?_
  refine q_iast hF hU hS dX12_emit_27 15 1223 rfl rfl (g_X12_emit_v1 u x f_1 hc hf_1) (fun f_2 H locs hg9 hU hS => ?_)
  have hf_2 : f_2 = upd (u.2.1 1223) (19200 + (u.1 1221) : Int32).toNatClampNeg y := hg9
  have hfr : qFr [1221] [1222, 1223] [] u (qsF (qsF u 1222 f_1) 1223 f_2) := hfr.setF (by decide)
  refine lv_aload_n hF.1 hF.2.1 dX12_emit_28 rfl (lv_at hl 0 rfl) ?_
  refine lv_dup hF.1 hF.2.1 dX12_emit_29 rfl ?_
  refine q_get (v := .int (u.1 1221)) hF hU dX12_emit_30 0 12 21 1221 1299 rfl rfl rfl rfl inX12 (by decide) (by decide) w_1350 rfl rfl ?_
  refine lv_iconst (v := 1) hF.1 hF.2.1 dX12_emit_33 (by decide) ?_
  refine lv_iadd hF.1 hF.2.1 dX12_emit_34 ?_
  refine q_put hF hU hS dX12_emit_35 0 12 21 1221 1299 rfl rfl rfl rfl inX12 tyX12 tyX12_ok nmX12 (by decide) (by decide) rfl w_1350 rfl rfl rfl rfl (fun H locs hU hS => ?_)
  have hfr : qFr [1221] [1222, 1223] [] u (qsI (qsF (qsF u 1222 f_1) 1223 f_2) 1221 ((u.1 1221) + 1)) := hfr.setI (by decide)
  exact q_vret hF hr hlocks hU hS dX12_emit_38 ⟨hfr, (g_X12_emit_v2 u x y f_1 f_2 hc hf_1 hf_2)⟩
