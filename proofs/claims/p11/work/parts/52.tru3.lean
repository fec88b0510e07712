set_option maxRecDepth 100000 in
theorem g_X9_judgeAlone_k_v0 (u : qS) (k : qS) (P : Nat → Int32) (S : Nat → Int32) (Sc : Nat → Int32) (x1 : Int32) (uc : qS) (hk : CT k P u) (hQ : qFD 10 S u) (hz8 : 0 ≤ u.1 8 ∧ u.1 8 ≤ 20) (hz9 : 0 ≤ u.1 9 ∧ u.1 9 ≤ 8) (hz10 : 0 ≤ u.1 10 ∧ u.1 10 ≤ 120) (hz12 : 0 ≤ u.1 12 ∧ u.1 12 ≤ 16) (h_k : 0 ≤ x1 ∧ x1 ≤ u.1 10) (h_S : qFD 10 Sc uc) (h_w : t_ja k x1.toInt Sc) (c10_1 : (u.1 10) ≤ (x1 : Int32)) : t_ja k (u.1 10).toInt Sc := by
  have e : x1 = u.1 10 := Int32.toInt_inj.mp (by clear h_w h_S; (try simp only [g_m1, Int32.lt_iff_toInt_lt, Int32.le_iff_toInt_le, ← Int32.toInt_inj, Int32.reduceToInt] at *); omega)
  rw [e] at h_w; exact h_w
set_option maxRecDepth 100000 in
theorem g_X9_judgeAlone_k_v1 (u : qS) (k : qS) (P : Nat → Int32) (S : Nat → Int32) (Sc : Nat → Int32) (x1 : Int32) (uc : qS) (hk : CT k P u) (hQ : qFD 10 S u) (hz8 : 0 ≤ u.1 8 ∧ u.1 8 ≤ 20) (hz9 : 0 ≤ u.1 9 ∧ u.1 9 ≤ 8) (hz10 : 0 ≤ u.1 10 ∧ u.1 10 ≤ 120) (hz12 : 0 ≤ u.1 12 ∧ u.1 12 ≤ 16) (h_k : 0 ≤ x1 ∧ x1 ≤ u.1 10) (h_S : qFD 10 Sc uc) (h_w : t_ja k x1.toInt Sc) (c10_1 : ¬ (u.1 10) ≤ (x1 : Int32)) : 0 ≤ x1 ∧ x1 < (u.1 10) := by
  clear h_w h_S; (try simp only [g_m1, Int32.lt_iff_toInt_lt, Int32.le_iff_toInt_le, ← Int32.toInt_inj, Int32.reduceToInt] at *); omega
set_option maxRecDepth 100000 in
theorem g_X9_judgeAlone_k_v2 (u : qS) (k : qS) (P : Nat → Int32) (S : Nat → Int32) (Sc : Nat → Int32) (x1 : Int32) (uc : qS) (hk : CT k P u) (hQ : qFD 10 S u) (hz8 : 0 ≤ u.1 8 ∧ u.1 8 ≤ 20) (hz9 : 0 ≤ u.1 9 ∧ u.1 9 ≤ 8) (hz10 : 0 ≤ u.1 10 ∧ u.1 10 ≤ 120) (hz12 : 0 ≤ u.1 12 ∧ u.1 12 ≤ 16) (h_k : 0 ≤ x1 ∧ x1 ≤ u.1 10) (h_S : qFD 10 Sc uc) (h_w : t_ja k x1.toInt Sc) (c10_1 : ¬ (u.1 10) ≤ (x1 : Int32)) : vp_in (x1) 120 := by
  clear h_w h_S; refine g_in ?_ ?_ <;> ((try simp only [g_m1, Int32.lt_iff_toInt_lt, Int32.le_iff_toInt_le, ← Int32.toInt_inj, Int32.reduceToInt] at *); omega)
set_option maxRecDepth 100000 in
theorem g_X9_judgeAlone_k_v3 (u : qS) (k : qS) (P : Nat → Int32) (S : Nat → Int32) (Sc : Nat → Int32) (x1 : Int32) (uc : qS) (hk : CT k P u) (hQ : qFD 10 S u) (hz8 : 0 ≤ u.1 8 ∧ u.1 8 ≤ 20) (hz9 : 0 ≤ u.1 9 ∧ u.1 9 ≤ 8) (hz10 : 0 ≤ u.1 10 ∧ u.1 10 ≤ 120) (hz12 : 0 ≤ u.1 12 ∧ u.1 12 ≤ 16) (h_k : 0 ≤ x1 ∧ x1 ≤ u.1 10) (h_S : qFD 10 Sc uc) (h_w : t_ja k x1.toInt Sc) (c10_1 : ¬ (u.1 10) ≤ (x1 : Int32)) : 0 ≤ x1 ∧ x1 < (u.1 10) := by
  clear h_w h_S; (try simp only [g_m1, Int32.lt_iff_toInt_lt, Int32.le_iff_toInt_le, ← Int32.toInt_inj, Int32.reduceToInt] at *); omega
set_option maxRecDepth 100000 in
theorem g_X9_judgeAlone_k_v4 (u : qS) (k : qS) (P : Nat → Int32) (S : Nat → Int32) (Sc : Nat → Int32) (x1 : Int32) (uc : qS) (S_19 : Nat → Int32) (hk : CT k P u) (hQ : qFD 10 S u) (hz8 : 0 ≤ u.1 8 ∧ u.1 8 ≤ 20) (hz9 : 0 ≤ u.1 9 ∧ u.1 9 ≤ 8) (hz10 : 0 ≤ u.1 10 ∧ u.1 10 ≤ 120) (hz12 : 0 ≤ u.1 12 ∧ u.1 12 ≤ 16) (h_k : 0 ≤ x1 ∧ x1 ≤ u.1 10) (h_S : qFD 10 Sc uc) (h_w : t_ja k x1.toInt Sc) (c10_1 : ¬ (u.1 10) ≤ (x1 : Int32)) (b26_8 : f_al (k) (x1)) (hS_19 : S_19 = upd Sc (x1 : Int32).toNatClampNeg (4 : Int32)) : 0 ≤ (x1 + 1) ∧ (x1 + 1) ≤ u.1 10 := by
  clear h_w h_S; (try simp only [g_m1, Int32.lt_iff_toInt_lt, Int32.le_iff_toInt_le, ← Int32.toInt_inj, Int32.toInt_add, Int32.toInt_sub, Int32.toInt_mul, Int32.toInt_neg, Int32.reduceToInt, g_bm, g_bm'] at *); omega
set_option maxRecDepth 100000 in
theorem g_X9_judgeAlone_k_v5 (u : qS) (k : qS) (P : Nat → Int32) (S : Nat → Int32) (Sc : Nat → Int32) (x1 : Int32) (uc : qS) (S_19 : Nat → Int32) (hk : CT k P u) (hQ : qFD 10 S u) (hz8 : 0 ≤ u.1 8 ∧ u.1 8 ≤ 20) (hz9 : 0 ≤ u.1 9 ∧ u.1 9 ≤ 8) (hz10 : 0 ≤ u.1 10 ∧ u.1 10 ≤ 120) (hz12 : 0 ≤ u.1 12 ∧ u.1 12 ≤ 16) (h_k : 0 ≤ x1 ∧ x1 ≤ u.1 10) (h_S : qFD 10 Sc uc) (h_w : t_ja k x1.toInt Sc) (c10_1 : ¬ (u.1 10) ≤ (x1 : Int32)) (b26_8 : f_al (k) (x1)) (hS_19 : S_19 = upd Sc (x1 : Int32).toNatClampNeg (4 : Int32)) : t_ja k (x1 + 1).toInt S_19 := by
  have q1 : 0 ≤ x1.toInt ∧ x1.toInt < 1000 := (by clear h_w h_S; (try simp only [g_m1, Int32.lt_iff_toInt_lt, Int32.le_iff_toInt_le, ← Int32.toInt_inj, Int32.reduceToInt] at *); omega)
  have e1 := (g_up (i := x1) q1.1 (by omega)).1
  subst_vars
  first | exact h_w.up q1.1 e1 (Or.inl ⟨by assumption, rfl⟩) | exact h_w.up q1.1 e1 (Or.inr ⟨by assumption, rfl⟩)
set_option maxRecDepth 100000 in
theorem g_X9_judgeAlone_k_v6 (u : qS) (k : qS) (P : Nat → Int32) (S : Nat → Int32) (Sc : Nat → Int32) (x1 : Int32) (uc : qS) (S_19 : Nat → Int32) (hk : CT k P u) (hQ : qFD 10 S u) (hz8 : 0 ≤ u.1 8 ∧ u.1 8 ≤ 20) (hz9 : 0 ≤ u.1 9 ∧ u.1 9 ≤ 8) (hz10 : 0 ≤ u.1 10 ∧ u.1 10 ≤ 120) (hz12 : 0 ≤ u.1 12 ∧ u.1 12 ≤ 16) (h_k : 0 ≤ x1 ∧ x1 ≤ u.1 10) (h_S : qFD 10 Sc uc) (h_w : t_ja k x1.toInt Sc) (c10_1 : ¬ (u.1 10) ≤ (x1 : Int32)) (b26_8 : f_al (k) (x1)) (hS_19 : S_19 = upd Sc (x1 : Int32).toNatClampNeg (4 : Int32)) : ((u.1 10).toInt - (x1 + 1).toInt).toNat < ((u.1 10).toInt - x1.toInt).toNat := by
  clear h_w h_S; (try simp only [g_m1, Int32.lt_iff_toInt_lt, Int32.le_iff_toInt_le, ← Int32.toInt_inj, Int32.toInt_add, Int32.toInt_sub, Int32.toInt_mul, Int32.toInt_neg, Int32.reduceToInt, g_bm, g_bm'] at *); omega
set_option maxRecDepth 100000 in
theorem g_X9_judgeAlone_k_v7 (u : qS) (k : qS) (P : Nat → Int32) (S : Nat → Int32) (Sc : Nat → Int32) (x1 : Int32) (uc : qS) (S_30 : Nat → Int32) (hk : CT k P u) (hQ : qFD 10 S u) (hz8 : 0 ≤ u.1 8 ∧ u.1 8 ≤ 20) (hz9 : 0 ≤ u.1 9 ∧ u.1 9 ≤ 8) (hz10 : 0 ≤ u.1 10 ∧ u.1 10 ≤ 120) (hz12 : 0 ≤ u.1 12 ∧ u.1 12 ≤ 16) (h_k : 0 ≤ x1 ∧ x1 ≤ u.1 10) (h_S : qFD 10 Sc uc) (h_w : t_ja k x1.toInt Sc) (c10_1 : ¬ (u.1 10) ≤ (x1 : Int32)) (b26_8 : ¬ (f_al (k) (x1))) (hS_30 : S_30 = upd Sc (x1 : Int32).toNatClampNeg (1 : Int32)) : 0 ≤ (x1 + 1) ∧ (x1 + 1) ≤ u.1 10 := by
  clear h_w h_S; (try simp only [g_m1, Int32.lt_iff_toInt_lt, Int32.le_iff_toInt_le, ← Int32.toInt_inj, Int32.toInt_add, Int32.toInt_sub, Int32.toInt_mul, Int32.toInt_neg, Int32.reduceToInt, g_bm, g_bm'] at *); omega
set_option maxRecDepth 100000 in
theorem g_X9_judgeAlone_k_v8 (u : qS) (k : qS) (P : Nat → Int32) (S : Nat → Int32) (Sc : Nat → Int32) (x1 : Int32) (uc : qS) (S_30 : Nat → Int32) (hk : CT k P u) (hQ : qFD 10 S u) (hz8 : 0 ≤ u.1 8 ∧ u.1 8 ≤ 20) (hz9 : 0 ≤ u.1 9 ∧ u.1 9 ≤ 8) (hz10 : 0 ≤ u.1 10 ∧ u.1 10 ≤ 120) (hz12 : 0 ≤ u.1 12 ∧ u.1 12 ≤ 16) (h_k : 0 ≤ x1 ∧ x1 ≤ u.1 10) (h_S : qFD 10 Sc uc) (h_w : t_ja k x1.toInt Sc) (c10_1 : ¬ (u.1 10) ≤ (x1 : Int32)) (b26_8 : ¬ (f_al (k) (x1))) (hS_30 : S_30 = upd Sc (x1 : Int32).toNatClampNeg (1 : Int32)) : t_ja k (x1 + 1).toInt S_30 := by
  have q1 : 0 ≤ x1.toInt ∧ x1.toInt < 1000 := (by clear h_w h_S; (try simp only [g_m1, Int32.lt_iff_toInt_lt, Int32.le_iff_toInt_le, ← Int32.toInt_inj, Int32.reduceToInt] at *); omega)
  have e1 := (g_up (i := x1) q1.1 (by omega)).1
  subst_vars
  first | exact h_w.up q1.1 e1 (Or.inl ⟨by assumption, rfl⟩) | exact h_w.up q1.1 e1 (Or.inr ⟨by assumption, rfl⟩)
set_option maxRecDepth 100000 in
theorem g_X9_judgeAlone_k_v9 (u : qS) (k : qS) (P : Nat → Int32) (S : Nat → Int32) (Sc : Nat → Int32) (x1 : Int32) (uc : qS) (S_30 : Nat → Int32) (hk : CT k P u) (hQ : qFD 10 S u) (hz8 : 0 ≤ u.1 8 ∧ u.1 8 ≤ 20) (hz9 : 0 ≤ u.1 9 ∧ u.1 9 ≤ 8) (hz10 : 0 ≤ u.1 10 ∧ u.1 10 ≤ 120) (hz12 : 0 ≤ u.1 12 ∧ u.1 12 ≤ 16) (h_k : 0 ≤ x1 ∧ x1 ≤ u.1 10) (h_S : qFD 10 Sc uc) (h_w : t_ja k x1.toInt Sc) (c10_1 : ¬ (u.1 10) ≤ (x1 : Int32)) (b26_8 : ¬ (f_al (k) (x1))) (hS_30 : S_30 = upd Sc (x1 : Int32).toNatClampNeg (1 : Int32)) : ((u.1 10).toInt - (x1 + 1).toInt).toNat < ((u.1 10).toInt - x1.toInt).toNat := by
  clear h_w h_S; (try simp only [g_m1, Int32.lt_iff_toInt_lt, Int32.le_iff_toInt_le, ← Int32.toInt_inj, Int32.toInt_add, Int32.toInt_sub, Int32.toInt_mul, Int32.toInt_neg, Int32.reduceToInt, g_bm, g_bm'] at *); omega
set_option maxRecDepth 100000 in
theorem g_X9_judgeAlone_k_v10 (u : qS) (k : qS) (P : Nat → Int32) (S : Nat → Int32) (hk : CT k P u) (hQ : qFD 10 S u) (hz8 : 0 ≤ u.1 8 ∧ u.1 8 ≤ 20) (hz9 : 0 ≤ u.1 9 ∧ u.1 9 ≤ 8) (hz10 : 0 ≤ u.1 10 ∧ u.1 10 ≤ 120) (hz12 : 0 ≤ u.1 12 ∧ u.1 12 ≤ 16) : 0 ≤ (0 : Int32) ∧ (0 : Int32) ≤ u.1 10 := by
  (try simp only [g_m1, Int32.lt_iff_toInt_lt, Int32.le_iff_toInt_le, ← Int32.toInt_inj, Int32.reduceToInt] at *); omega
set_option maxRecDepth 100000 in
theorem g_X9_judgeAlone_k_v11 (u : qS) (k : qS) (P : Nat → Int32) (S : Nat → Int32) (hk : CT k P u) (hQ : qFD 10 S u) (hz8 : 0 ≤ u.1 8 ∧ u.1 8 ≤ 20) (hz9 : 0 ≤ u.1 9 ∧ u.1 9 ≤ 8) (hz10 : 0 ≤ u.1 10 ∧ u.1 10 ≤ 120) (hz12 : 0 ≤ u.1 12 ∧ u.1 12 ≤ 16) : t_ja k (0 : Int32).toInt S := by
  exact t_ja.nil
set_option maxHeartbeats 1000000 in
set_option maxRecDepth 100000 in
theorem g_X9_judgeAlone_k (l : Launch) (E : qE) (A : Nat → Prop) (u : qS) (k : qS) (P : Nat → Int32) (S : Nat → Int32) (hI : IC E u) (hk : CT k P u) (hQ : qFD 10 S u) : Met l yX9_judgeAlone (uws yX9_judgeAlone cX9_judgeAlone 3 none) (qR 2 0 0) (qPc E A 0 u [.ref (E.2.2 999)]) (qQv E A 0 (fun u1 => (qFc [] [] [] [5010] u u1 ∧ IC E u1) ∧ (∃ S1 : Nat → Int32, qFD 10 S1 u1 ∧ (t_ja k (u.1 10).toInt S1)))) 0 0 A := by
  refine q_met (own := RX9) (f := 2) [.ref (E.2.2 999)] (by decide) (Nat.le_of_ble_eq_true rfl) rfl ?_
  intro p0 e0 s0 m0 bl0 me0 cd0 ls hF hr hlocks hU hS hA hl
  have hl : lv_has ls 3 [(0, .ref (E.2.2 999))] := hl
  have hz8 : 0 ≤ u.1 8 ∧ u.1 8 ≤ 20 := hI.1.s8
  have hz9 : 0 ≤ u.1 9 ∧ u.1 9 ≤ 8 := hI.1.s9
  have hz10 : 0 ≤ u.1 10 ∧ u.1 10 ≤ 120 := hI.1.s10
  have hz12 : 0 ≤ u.1 12 ∧ u.1 12 ≤ 16 := hI.1.s12
  have hfr : qFc [] [] [] [5010] u u := qFc.rf
  have hST := hQ
  have main : ∀ n : Nat, (∀ (Sc : Nat → Int32) (x1 : Int32) (uc : qS) (H : Heap) (locs : List Loc) (ls : Array Slot) (hfr : qFc [] [] [] [5010] u uc) (hI : IC E uc) (h_k : 0 ≤ x1 ∧ x1 ≤ u.1 10) (h_S : qFD 10 Sc uc) (h_w : t_ja k x1.toInt Sc), ((u.1 10).toInt - x1.toInt).toNat < n → qH E A 0 uc s0 H → va_S A s0.heap H locs → lv_has ls 3 [(0, .ref (E.2.2 999)), (1, .int x1)] → W p0 l e0 (qR 2 0 0) s0 m0 ([.ref (E.2.2 999)] : List Value).toArray bl0 me0 cd0 H locs 0 0 (MQ bl0 (qQv E A 0 (fun u1 => (qFc [] [] [] [5010] u u1 ∧ IC E u1) ∧ (∃ S1 : Nat → Int32, qFD 10 S1 u1 ∧ (t_ja k (u.1 10).toInt S1)))) ([.ref (E.2.2 999)] : List Value).toArray s0 0 0 A) (F0 m0 2 ls [])) := by
    clear hI hfr
    intro n
    induction n with
    | zero => exact fun _ _ _ _ _ _ _ _ _ _ _ hmu => absurd hmu (Nat.not_lt_zero _)
    | succ n ih =>
      intro Sc x1 uc H locs ls hfr hI h_k h_S h_w hmu hU hS hl
      have hST := h_S
      refine lv_iload_n hF.1 hF.2.1 dX9_judgeAlone_2 rfl (lv_at hl 1 rfl) ?_
      refine lv_aload_n hF.1 hF.2.1 dX9_judgeAlone_3 rfl (lv_at hl 0 rfl) ?_
      refine q_get (v := .ref (E.2.2 99)) hF hU dX9_judgeAlone_4 4 9 3 903 999 rfl rfl rfl rfl inX9 (by decide) (by decide) w_305 rfl rfl ?_
      refine q_get (v := .int (u.1 10)) hF hU dX9_judgeAlone_7 1 0 10 10 99 rfl rfl rfl rfl inX0 (by decide) (by decide) w_169 rfl (congrArg Value.int (hfr.1 10 (by decide))) ?_
      refine lv_icmp_ge (tgt := 46) hF.1 hF.2.1 dX9_judgeAlone_10 (by decide) (fun c10_1 => ?_) (fun c10_1 => ?_)
      · exact q_vret hF hr hlocks hU hS dX9_judgeAlone_46 ⟨⟨hfr, hI⟩, ⟨Sc, hST, (g_X9_judgeAlone_k_v0 u k P S Sc x1 uc hk hQ hz8 hz9 hz10 hz12 h_k h_S h_w c10_1)⟩⟩
      · refine lv_aload_n hF.1 hF.2.1 dX9_judgeAlone_13 rfl (lv_at hl 0 rfl) ?_
        refine q_get (v := .ref (E.2.2 99)) hF hU dX9_judgeAlone_14 4 9 3 903 999 rfl rfl rfl rfl inX9 (by decide) (by decide) w_305 rfl rfl ?_
        refine q_get (v := .ref (E.2.2 2)) hF hU dX9_judgeAlone_17 1 0 2 2 99 rfl rfl rfl rfl inX0 (by decide) (by decide) w_149 rfl rfl ?_
        refine lv_iload_n hF.1 hF.2.1 dX9_judgeAlone_20 rfl (lv_at hl 1 rfl) ?_
        obtain ⟨a_2, ha_2_3_e, ha_2_3⟩ := hI.r2 x1 (by rw [(hfr.1 10 (by decide))]; exact (g_X9_judgeAlone_k_v1 u k P S Sc x1 uc hk hQ hz8 hz9 hz10 hz12 h_k h_S h_w c10_1))
        refine q_aald (v := .ref a_2) hF hU dX9_judgeAlone_21 2 2 6 rfl rfl (by decide) rfl (g_X9_judgeAlone_k_v2 u k P S Sc x1 uc hk hQ hz8 hz9 hz10 hz12 h_k h_S h_w c10_1) (by rw [ha_2_3_e]; rfl) ?_
        have hK_4 : qKn k uc a_2 x1 := (hk.fr hfr (by decide) (by decide)).va (by rw [(hfr.1 10 (by decide))]; exact (g_X9_judgeAlone_k_v3 u k P S Sc x1 uc hk hQ hz8 hz9 hz10 hz12 h_k h_S h_w c10_1)) ha_2_3_e
        refine lv_astore_n (lv' := [(2, .ref a_2), (0, .ref (E.2.2 999)), (1, .int x1)]) hF.1 hF.2.1 dX9_judgeAlone_22 rfl hl (by decide) rfl (fun ls hl => ?_)
        refine lv_aload_n hF.1 hF.2.1 dX9_judgeAlone_23 rfl (lv_at hl 0 rfl) ?_
        refine lv_aload_n hF.1 hF.2.1 dX9_judgeAlone_24 rfl (lv_at hl 1 rfl) ?_
        refine lv_aload_n hF.1 hF.2.1 dX9_judgeAlone_25 rfl (lv_at hl 0 rfl) ?_
        have hM9 := g_X9_canBeAlone_k l E A uc a_2 k P x1 hI ((ha_2_3).rf) (hk.fr hfr (by decide) (by decide)) hK_4
        have hR9 := q_runV (l := l) (e := e0) (below := bl0) (meth := me0) (R := qR 2 0 0) (cells := 0) (slots := 0) (st0 := [.ref a_2, .ref (E.2.2 999), .ref a_2]) (rest := [.ref a_2]) hF hU hS hA 1 4 9 999 rfl rfl rfl hM9 w_851 w_853 w_16 w_103 w_854 (by decide +kernel) ⟨Nat.le_of_ble_eq_true rfl, Nat.le_of_ble_eq_true rfl⟩ dX9_judgeAlone_26 rfl hl.1 rfl (Nat.le_of_ble_eq_true rfl) ⟨Nat.le_of_ble_eq_true rfl, Nat.le_of_ble_eq_true rfl⟩
        refine q_calli hR9 hU.2.2.2 hS (fun r_7 u_5 H locs hw_6 hU hS => ?_)
        obtain ⟨hw_6_e, hw_6⟩ := hw_6
        rw [hw_6_e] at hU
        have hw_6 : (r_7 = 1 ∧ (f_al (k) (x1))) ∨ (r_7 = 0 ∧ (¬ (f_al (k) (x1)))) := hw_6
        rcases hw_6 with ⟨rfl, b26_8⟩ | ⟨rfl, b26_8⟩
        · refine lv_if_eq (tgt := 36) hF.1 hF.2.1 dX9_judgeAlone_29 (by decide) (fun h9 => absurd h9 (by decide)) (fun _ => ?_)
          refine lv_iconst (v := 4) hF.1 hF.2.1 dX9_judgeAlone_32 (by decide) ?_
          refine lv_goto (tgt := 37) hF.1 hF.2.1 dX9_judgeAlone_33 (by decide) ?_
          have hDi := q_di hU
          obtain ⟨k_9, fs_10, x_11, hd_12, hv_13, -, -, hv_13_l⟩ := hI.v ((ha_2_3).rf) 10 (by decide)
          have hp_16 := hI.vput (j := 10) (x := 4) hd_12 (by decide) (fun q => absurd q (by decide)) (fun q => absurd q (by decide))
          refine q_putd hF hU hS dX9_judgeAlone_37 k_9 10 10 hd_12 rfl inX10 tyX10 tyX10_ok nmX10 (by decide) w_621 rfl (Or.inl rfl) rfl rfl (by rw [hv_13_l]; decide) (fun u_14 H locs hu_15 _ hU hS => ?_)
          rw [← hu_15] at hp_16
          have hI := hp_16.1
          have hp_16_f := hp_16.2 [] [] [] [5010] (by decide)
          have hfo := hfr
          have hfr : qFc [] [] [] [5010] u u_14 := hfr.trans (hp_16_f.mono (by decide) (by decide) (by decide) (by decide))
          have hr_17 : qRv u_14 a_2 := hp_16_f.v _ ha_2_3
          have hK_18 : qKn k u_14 a_2 x1 := hK_4.fr hp_16_f (by decide) (by decide) (by decide) (by decide)
          obtain ⟨S_19, hS_19⟩ : ∃ zz9 : Nat → Int32, zz9 = upd Sc (x1 : Int32).toNatClampNeg (4 : Int32) := ⟨_, rfl⟩
          have hST : qFD 10 S_19 u_14 := by rw [hS_19, hu_15]; exact hST.put hDi hK_4.nm hd_12 (by decide)
          refine lv_iinc (v := x1 + 1) (lv' := [(1, .int (x1 + 1)), (2, .ref a_2), (0, .ref (E.2.2 999))]) hF.1 hF.2.1 dX9_judgeAlone_40 hl (k := 2) rfl rfl (by decide) rfl (fun ls hl => ?_)
          refine lv_goto (tgt := 2) hF.1 hF.2.1 dX9_judgeAlone_43 (by decide) ?_
          exact ih S_19 (x1 + 1) u_14 _ _ _ hfr hI  (g_X9_judgeAlone_k_v4 u k P S Sc x1 uc S_19 hk hQ hz8 hz9 hz10 hz12 h_k h_S h_w c10_1 b26_8 hS_19) hST (g_X9_judgeAlone_k_v5 u k P S Sc x1 uc S_19 hk hQ hz8 hz9 hz10 hz12 h_k h_S h_w c10_1 b26_8 hS_19) (Nat.lt_of_lt_of_le (g_X9_judgeAlone_k_v6 u k P S Sc x1 uc S_19 hk hQ hz8 hz9 hz10 hz12 h_k h_S h_w c10_1 b26_8 hS_19) (Nat.lt_succ_iff.mp hmu)) hU hS (lv_sub hl [2, 0] rfl)
        · refine lv_if_eq (tgt := 36) hF.1 hF.2.1 dX9_judgeAlone_29 (by decide) (fun _ => ?_) (fun h9 => absurd (by decide) h9)
          refine lv_iconst (v := 1) hF.1 hF.2.1 dX9_judgeAlone_36 (by decide) ?_
          have hDi := q_di hU
          obtain ⟨k_20, fs_21, x_22, hd_23, hv_24, -, -, hv_24_l⟩ := hI.v ((ha_2_3).rf) 10 (by decide)
          have hp_27 := hI.vput (j := 10) (x := 1) hd_23 (by decide) (fun q => absurd q (by decide)) (fun q => absurd q (by decide))
          refine q_putd hF hU hS dX9_judgeAlone_37 k_20 10 10 hd_23 rfl inX10 tyX10 tyX10_ok nmX10 (by decide) w_621 rfl (Or.inl rfl) rfl rfl (by rw [hv_24_l]; decide) (fun u_25 H locs hu_26 _ hU hS => ?_)
          rw [← hu_26] at hp_27
          have hI := hp_27.1
          have hp_27_f := hp_27.2 [] [] [] [5010] (by decide)
          have hfo := hfr
          have hfr : qFc [] [] [] [5010] u u_25 := hfr.trans (hp_27_f.mono (by decide) (by decide) (by decide) (by decide))
          have hr_28 : qRv u_25 a_2 := hp_27_f.v _ ha_2_3
          have hK_29 : qKn k u_25 a_2 x1 := hK_4.fr hp_27_f (by decide) (by decide) (by decide) (by decide)
          obtain ⟨S_30, hS_30⟩ : ∃ zz9 : Nat → Int32, zz9 = upd Sc (x1 : Int32).toNatClampNeg (1 : Int32) := ⟨_, rfl⟩
          have hST : qFD 10 S_30 u_25 := by rw [hS_30, hu_26]; exact hST.put hDi hK_4.nm hd_23 (by decide)
          refine lv_iinc (v := x1 + 1) (lv' := [(1, .int (x1 + 1)), (2, .ref a_2), (0, .ref (E.2.2 999))]) hF.1 hF.2.1 dX9_judgeAlone_40 hl (k := 2) rfl rfl (by decide) rfl (fun ls hl => ?_)
          refine lv_goto (tgt := 2) hF.1 hF.2.1 dX9_judgeAlone_43 (by decide) ?_
          exact ih S_30 (x1 + 1) u_25 _ _ _ hfr hI  (g_X9_judgeAlone_k_v7 u k P S Sc x1 uc S_30 hk hQ hz8 hz9 hz10 hz12 h_k h_S h_w c10_1 b26_8 hS_30) hST (g_X9_judgeAlone_k_v8 u k P S Sc x1 uc S_30 hk hQ hz8 hz9 hz10 hz12 h_k h_S h_w c10_1 b26_8 hS_30) (Nat.lt_of_lt_of_le (g_X9_judgeAlone_k_v9 u k P S Sc x1 uc S_30 hk hQ hz8 hz9 hz10 hz12 h_k h_S h_w c10_1 b26_8 hS_30) (Nat.lt_succ_iff.mp hmu)) hU hS (lv_sub hl [2, 0] rfl)
  refine lv_iconst (v := 0) hF.1 hF.2.1 dX9_judgeAlone_0 (by decide) ?_
  refine lv_istore_n (lv' := [(1, .int 0), (0, .ref (E.2.2 999))]) hF.1 hF.2.1 dX9_judgeAlone_1 rfl hl (by decide) rfl (fun ls hl => ?_)
  exact (main _) S (0 : Int32) u _ _ _ hfr hI  (g_X9_judgeAlone_k_v10 u k P S hk hQ hz8 hz9 hz10 hz12) hST (g_X9_judgeAlone_k_v11 u k P S hk hQ hz8 hz9 hz10 hz12) (Nat.lt_succ_self _) hU hS (lv_sub hl [1, 0] rfl)
set_option maxRecDepth 100000 in
theorem g_X9_judgeGroup_k_v0 (u : qS) (k : qS) (P : Nat → Int32) (S : Nat → Int32) (N : Nat → Int32) (gb : Int32) (gd : Int32) (Sc : Nat → Int32) (x1 : Int32) (x2 : Int32) (uc : qS) (hk : CT k P u) (hQ : qFD 10 S u) (hG : qG k u N) (hg : t_g k gb gd (u.1 908).toNatClampNeg N) (ho : ∀ j : Nat, j < (u.1 908).toNatClampNeg → u.2.1 907 j = 0) (hz8 : 0 ≤ u.1 8 ∧ u.1 8 ≤ 20) (hz9 : 0 ≤ u.1 9 ∧ u.1 9 ≤ 8) (hz10 : 0 ≤ u.1 10 ∧ u.1 10 ≤ 120) (hz12 : 0 ≤ u.1 12 ∧ u.1 12 ≤ 16) (hz908 : 0 ≤ u.1 908 ∧ u.1 908 ≤ 12) (h_k : 0 ≤ x2 ∧ x2 ≤ u.1 908) (h_S : qFD 10 Sc uc) (h_9 : uc.1 902 = u.1 902) (h_u : t_ua (fun i j => t_bo k (N i) (N j)) (u.2.1 907) (uc.2.1 905) (u.1 908).toNatClampNeg) (h_m : t_mx (uc.2.1 905) x1 (u.1 908).toNatClampNeg) (h_d : t_da (fun i j => t_bo k (N i) (N j)) (uc.2.1 906) (u.1 908).toNatClampNeg 0) (h_w : t_jw k N gb gd x2.toNatClampNeg S Sc) (c16_1 : (u.1 908) ≤ (x2 : Int32)) : f_sw k gb gd (f_n (f_gp k gb gd) (k.1 1247).toNatClampNeg) S Sc ∧ ((uc.1 902) + ((u.1 908) - x1) : Int32) = u.1 902 + (f_all k gb gd).1 := by
  have c9 := g_clamp (u.1 908)
  have e : x2 = u.1 908 := Int32.toInt_inj.mp (by clear h_w h_S h_u h_m h_d hg ho; (try simp only [g_m1, Int32.lt_iff_toInt_lt, Int32.le_iff_toInt_le, ← Int32.toInt_inj, Int32.reduceToInt] at *); omega)
  rw [e] at h_w
  refine ⟨h_w.all hg, ?_⟩
  rw [h_9, t_few hk.2.2.2.2.2 hg ho h_u h_m (by clear h_w h_S h_u h_m h_d hg ho; (try simp only [g_m1, Int32.lt_iff_toInt_lt, Int32.le_iff_toInt_le, ← Int32.toInt_inj, Int32.reduceToInt] at *); omega)]
set_option maxRecDepth 100000 in
theorem g_X9_judgeGroup_k_v1 (u : qS) (k : qS) (P : Nat → Int32) (S : Nat → Int32) (N : Nat → Int32) (gb : Int32) (gd : Int32) (Sc : Nat → Int32) (x1 : Int32) (x2 : Int32) (uc : qS) (hk : CT k P u) (hQ : qFD 10 S u) (hG : qG k u N) (hg : t_g k gb gd (u.1 908).toNatClampNeg N) (ho : ∀ j : Nat, j < (u.1 908).toNatClampNeg → u.2.1 907 j = 0) (hz8 : 0 ≤ u.1 8 ∧ u.1 8 ≤ 20) (hz9 : 0 ≤ u.1 9 ∧ u.1 9 ≤ 8) (hz10 : 0 ≤ u.1 10 ∧ u.1 10 ≤ 120) (hz12 : 0 ≤ u.1 12 ∧ u.1 12 ≤ 16) (hz908 : 0 ≤ u.1 908 ∧ u.1 908 ≤ 12) (h_k : 0 ≤ x2 ∧ x2 ≤ u.1 908) (h_S : qFD 10 Sc uc) (h_9 : uc.1 902 = u.1 902) (h_u : t_ua (fun i j => t_bo k (N i) (N j)) (u.2.1 907) (uc.2.1 905) (u.1 908).toNatClampNeg) (h_m : t_mx (uc.2.1 905) x1 (u.1 908).toNatClampNeg) (h_d : t_da (fun i j => t_bo k (N i) (N j)) (uc.2.1 906) (u.1 908).toNatClampNeg 0) (h_w : t_jw k N gb gd x2.toNatClampNeg S Sc) (c16_1 : ¬ (u.1 908) ≤ (x2 : Int32)) : vp_in (x2) 12 := by
  clear h_w h_S h_u h_m h_d hg ho; refine g_in ?_ ?_ <;> ((try simp only [g_m1, Int32.lt_iff_toInt_lt, Int32.le_iff_toInt_le, ← Int32.toInt_inj, Int32.reduceToInt] at *); omega)
set_option maxRecDepth 100000 in
theorem g_X9_judgeGroup_k_v2 (u : qS) (k : qS) (P : Nat → Int32) (S : Nat → Int32) (N : Nat → Int32) (gb : Int32) (gd : Int32) (Sc : Nat → Int32) (x1 : Int32) (x2 : Int32) (uc : qS) (hk : CT k P u) (hQ : qFD 10 S u) (hG : qG k u N) (hg : t_g k gb gd (u.1 908).toNatClampNeg N) (ho : ∀ j : Nat, j < (u.1 908).toNatClampNeg → u.2.1 907 j = 0) (hz8 : 0 ≤ u.1 8 ∧ u.1 8 ≤ 20) (hz9 : 0 ≤ u.1 9 ∧ u.1 9 ≤ 8) (hz10 : 0 ≤ u.1 10 ∧ u.1 10 ≤ 120) (hz12 : 0 ≤ u.1 12 ∧ u.1 12 ≤ 16) (hz908 : 0 ≤ u.1 908 ∧ u.1 908 ≤ 12) (h_k : 0 ≤ x2 ∧ x2 ≤ u.1 908) (h_S : qFD 10 Sc uc) (h_9 : uc.1 902 = u.1 902) (h_u : t_ua (fun i j => t_bo k (N i) (N j)) (u.2.1 907) (uc.2.1 905) (u.1 908).toNatClampNeg) (h_m : t_mx (uc.2.1 905) x1 (u.1 908).toNatClampNeg) (h_d : t_da (fun i j => t_bo k (N i) (N j)) (uc.2.1 906) (u.1 908).toNatClampNeg 0) (h_w : t_jw k N gb gd x2.toNatClampNeg S Sc) (c16_1 : ¬ (u.1 908) ≤ (x2 : Int32)) : vp_in (x2) 12 := by
  clear h_w h_S h_u h_m h_d hg ho; refine g_in ?_ ?_ <;> ((try simp only [g_m1, Int32.lt_iff_toInt_lt, Int32.le_iff_toInt_le, ← Int32.toInt_inj, Int32.reduceToInt] at *); omega)
set_option maxRecDepth 100000 in
theorem g_X9_judgeGroup_k_v3 (u : qS) (k : qS) (P : Nat → Int32) (S : Nat → Int32) (N : Nat → Int32) (gb : Int32) (gd : Int32) (Sc : Nat → Int32) (x1 : Int32) (x2 : Int32) (uc : qS) (hk : CT k P u) (hQ : qFD 10 S u) (hG : qG k u N) (hg : t_g k gb gd (u.1 908).toNatClampNeg N) (ho : ∀ j : Nat, j < (u.1 908).toNatClampNeg → u.2.1 907 j = 0) (hz8 : 0 ≤ u.1 8 ∧ u.1 8 ≤ 20) (hz9 : 0 ≤ u.1 9 ∧ u.1 9 ≤ 8) (hz10 : 0 ≤ u.1 10 ∧ u.1 10 ≤ 120) (hz12 : 0 ≤ u.1 12 ∧ u.1 12 ≤ 16) (hz908 : 0 ≤ u.1 908 ∧ u.1 908 ≤ 12) (h_k : 0 ≤ x2 ∧ x2 ≤ u.1 908) (h_S : qFD 10 Sc uc) (h_9 : uc.1 902 = u.1 902) (h_u : t_ua (fun i j => t_bo k (N i) (N j)) (u.2.1 907) (uc.2.1 905) (u.1 908).toNatClampNeg) (h_m : t_mx (uc.2.1 905) x1 (u.1 908).toNatClampNeg) (h_d : t_da (fun i j => t_bo k (N i) (N j)) (uc.2.1 906) (u.1 908).toNatClampNeg 0) (h_w : t_jw k N gb gd x2.toNatClampNeg S Sc) (c16_1 : ¬ (u.1 908) ≤ (x2 : Int32)) (c35_2 : x1 ≤ (((uc.2.1 905 (x2 : Int32).toNatClampNeg) + (uc.2.1 906 (x2 : Int32).toNatClampNeg)) - 1 : Int32)) : 0 ≤ x2 ∧ x2 < (u.1 908) := by
  clear h_w h_S h_u h_m h_d hg ho; (try simp only [g_m1, Int32.lt_iff_toInt_lt, Int32.le_iff_toInt_le, ← Int32.toInt_inj, Int32.reduceToInt] at *); omega
set_option maxRecDepth 100000 in
theorem g_X9_judgeGroup_k_v4 (u : qS) (k : qS) (P : Nat → Int32) (S : Nat → Int32) (N : Nat → Int32) (gb : Int32) (gd : Int32) (Sc : Nat → Int32) (x1 : Int32) (x2 : Int32) (uc : qS) (hk : CT k P u) (hQ : qFD 10 S u) (hG : qG k u N) (hg : t_g k gb gd (u.1 908).toNatClampNeg N) (ho : ∀ j : Nat, j < (u.1 908).toNatClampNeg → u.2.1 907 j = 0) (hz8 : 0 ≤ u.1 8 ∧ u.1 8 ≤ 20) (hz9 : 0 ≤ u.1 9 ∧ u.1 9 ≤ 8) (hz10 : 0 ≤ u.1 10 ∧ u.1 10 ≤ 120) (hz12 : 0 ≤ u.1 12 ∧ u.1 12 ≤ 16) (hz908 : 0 ≤ u.1 908 ∧ u.1 908 ≤ 12) (h_k : 0 ≤ x2 ∧ x2 ≤ u.1 908) (h_S : qFD 10 Sc uc) (h_9 : uc.1 902 = u.1 902) (h_u : t_ua (fun i j => t_bo k (N i) (N j)) (u.2.1 907) (uc.2.1 905) (u.1 908).toNatClampNeg) (h_m : t_mx (uc.2.1 905) x1 (u.1 908).toNatClampNeg) (h_d : t_da (fun i j => t_bo k (N i) (N j)) (uc.2.1 906) (u.1 908).toNatClampNeg 0) (h_w : t_jw k N gb gd x2.toNatClampNeg S Sc) (c16_1 : ¬ (u.1 908) ≤ (x2 : Int32)) (c35_2 : x1 ≤ (((uc.2.1 905 (x2 : Int32).toNatClampNeg) + (uc.2.1 906 (x2 : Int32).toNatClampNeg)) - 1 : Int32)) : vp_in (x2) 12 := by
  clear h_w h_S h_u h_m h_d hg ho; refine g_in ?_ ?_ <;> ((try simp only [g_m1, Int32.lt_iff_toInt_lt, Int32.le_iff_toInt_le, ← Int32.toInt_inj, Int32.reduceToInt] at *); omega)
set_option maxRecDepth 100000 in
theorem g_X9_judgeGroup_k_v5 (u : qS) (k : qS) (P : Nat → Int32) (S : Nat → Int32) (N : Nat → Int32) (gb : Int32) (gd : Int32) (Sc : Nat → Int32) (x1 : Int32) (x2 : Int32) (uc : qS) (hk : CT k P u) (hQ : qFD 10 S u) (hG : qG k u N) (hg : t_g k gb gd (u.1 908).toNatClampNeg N) (ho : ∀ j : Nat, j < (u.1 908).toNatClampNeg → u.2.1 907 j = 0) (hz8 : 0 ≤ u.1 8 ∧ u.1 8 ≤ 20) (hz9 : 0 ≤ u.1 9 ∧ u.1 9 ≤ 8) (hz10 : 0 ≤ u.1 10 ∧ u.1 10 ≤ 120) (hz12 : 0 ≤ u.1 12 ∧ u.1 12 ≤ 16) (hz908 : 0 ≤ u.1 908 ∧ u.1 908 ≤ 12) (h_k : 0 ≤ x2 ∧ x2 ≤ u.1 908) (h_S : qFD 10 Sc uc) (h_9 : uc.1 902 = u.1 902) (h_u : t_ua (fun i j => t_bo k (N i) (N j)) (u.2.1 907) (uc.2.1 905) (u.1 908).toNatClampNeg) (h_m : t_mx (uc.2.1 905) x1 (u.1 908).toNatClampNeg) (h_d : t_da (fun i j => t_bo k (N i) (N j)) (uc.2.1 906) (u.1 908).toNatClampNeg 0) (h_w : t_jw k N gb gd x2.toNatClampNeg S Sc) (c16_1 : ¬ (u.1 908) ≤ (x2 : Int32)) (c35_2 : x1 ≤ (((uc.2.1 905 (x2 : Int32).toNatClampNeg) + (uc.2.1 906 (x2 : Int32).toNatClampNeg)) - 1 : Int32)) : 0 ≤ x2 ∧ x2 < (u.1 908) := by
  clear h_w h_S h_u h_m h_d hg ho; (try simp only [g_m1, Int32.lt_iff_toInt_lt, Int32.le_iff_toInt_le, ← Int32.toInt_inj, Int32.reduceToInt] at *); omega
set_option maxRecDepth 100000 in
theorem g_X9_judgeGroup_k_v6 (u : qS) (k : qS) (P : Nat → Int32) (S : Nat → Int32) (N : Nat → Int32) (gb : Int32) (gd : Int32) (Sc : Nat → Int32) (x1 : Int32) (x2 : Int32) (uc : qS) (hk : CT k P u) (hQ : qFD 10 S u) (hG : qG k u N) (hg : t_g k gb gd (u.1 908).toNatClampNeg N) (ho : ∀ j : Nat, j < (u.1 908).toNatClampNeg → u.2.1 907 j = 0) (hz8 : 0 ≤ u.1 8 ∧ u.1 8 ≤ 20) (hz9 : 0 ≤ u.1 9 ∧ u.1 9 ≤ 8) (hz10 : 0 ≤ u.1 10 ∧ u.1 10 ≤ 120) (hz12 : 0 ≤ u.1 12 ∧ u.1 12 ≤ 16) (hz908 : 0 ≤ u.1 908 ∧ u.1 908 ≤ 12) (h_k : 0 ≤ x2 ∧ x2 ≤ u.1 908) (h_S : qFD 10 Sc uc) (h_9 : uc.1 902 = u.1 902) (h_u : t_ua (fun i j => t_bo k (N i) (N j)) (u.2.1 907) (uc.2.1 905) (u.1 908).toNatClampNeg) (h_m : t_mx (uc.2.1 905) x1 (u.1 908).toNatClampNeg) (h_d : t_da (fun i j => t_bo k (N i) (N j)) (uc.2.1 906) (u.1 908).toNatClampNeg 0) (h_w : t_jw k N gb gd x2.toNatClampNeg S Sc) (c16_1 : ¬ (u.1 908) ≤ (x2 : Int32)) (c35_2 : x1 ≤ (((uc.2.1 905 (x2 : Int32).toNatClampNeg) + (uc.2.1 906 (x2 : Int32).toNatClampNeg)) - 1 : Int32)) : 0 ≤ x2 ∧ x2 < (u.1 908 : Int32) := by
  clear h_w h_S h_u h_m h_d hg ho; (try simp only [g_m1, Int32.lt_iff_toInt_lt, Int32.le_iff_toInt_le, ← Int32.toInt_inj, Int32.reduceToInt] at *); omega
set_option maxRecDepth 100000 in
theorem g_X9_judgeGroup_k_v7 (u : qS) (k : qS) (P : Nat → Int32) (S : Nat → Int32) (N : Nat → Int32) (gb : Int32) (gd : Int32) (Sc : Nat → Int32) (x1 : Int32) (x2 : Int32) (uc : qS) (S_21 : Nat → Int32) (hk : CT k P u) (hQ : qFD 10 S u) (hG : qG k u N) (hg : t_g k gb gd (u.1 908).toNatClampNeg N) (ho : ∀ j : Nat, j < (u.1 908).toNatClampNeg → u.2.1 907 j = 0) (hz8 : 0 ≤ u.1 8 ∧ u.1 8 ≤ 20) (hz9 : 0 ≤ u.1 9 ∧ u.1 9 ≤ 8) (hz10 : 0 ≤ u.1 10 ∧ u.1 10 ≤ 120) (hz12 : 0 ≤ u.1 12 ∧ u.1 12 ≤ 16) (hz908 : 0 ≤ u.1 908 ∧ u.1 908 ≤ 12) (h_k : 0 ≤ x2 ∧ x2 ≤ u.1 908) (h_S : qFD 10 Sc uc) (h_9 : uc.1 902 = u.1 902) (h_u : t_ua (fun i j => t_bo k (N i) (N j)) (u.2.1 907) (uc.2.1 905) (u.1 908).toNatClampNeg) (h_m : t_mx (uc.2.1 905) x1 (u.1 908).toNatClampNeg) (h_d : t_da (fun i j => t_bo k (N i) (N j)) (uc.2.1 906) (u.1 908).toNatClampNeg 0) (h_w : t_jw k N gb gd x2.toNatClampNeg S Sc) (c16_1 : ¬ (u.1 908) ≤ (x2 : Int32)) (c35_2 : x1 ≤ (((uc.2.1 905 (x2 : Int32).toNatClampNeg) + (uc.2.1 906 (x2 : Int32).toNatClampNeg)) - 1 : Int32)) (b60_9 : t_nd ((uc.2.1 905)) ((uc.2.1 906)) ((u.1 908 : Int32)).toNatClampNeg x2.toNatClampNeg x1) (hS_21 : S_21 = upd Sc (N (x2 : Int32).toNatClampNeg : Int32).toNatClampNeg (0 : Int32)) : 0 ≤ (x2 + 1) ∧ (x2 + 1) ≤ u.1 908 := by
  clear h_w h_S h_u h_m h_d hg ho; (try simp only [g_m1, Int32.lt_iff_toInt_lt, Int32.le_iff_toInt_le, ← Int32.toInt_inj, Int32.toInt_add, Int32.toInt_sub, Int32.toInt_mul, Int32.toInt_neg, Int32.reduceToInt, g_bm, g_bm'] at *); omega
set_option maxRecDepth 100000 in
theorem g_X9_judgeGroup_k_v8 (u : qS) (k : qS) (P : Nat → Int32) (S : Nat → Int32) (N : Nat → Int32) (gb : Int32) (gd : Int32) (Sc : Nat → Int32) (x1 : Int32) (x2 : Int32) (uc : qS) (S_21 : Nat → Int32) (hk : CT k P u) (hQ : qFD 10 S u) (hG : qG k u N) (hg : t_g k gb gd (u.1 908).toNatClampNeg N) (ho : ∀ j : Nat, j < (u.1 908).toNatClampNeg → u.2.1 907 j = 0) (hz8 : 0 ≤ u.1 8 ∧ u.1 8 ≤ 20) (hz9 : 0 ≤ u.1 9 ∧ u.1 9 ≤ 8) (hz10 : 0 ≤ u.1 10 ∧ u.1 10 ≤ 120) (hz12 : 0 ≤ u.1 12 ∧ u.1 12 ≤ 16) (hz908 : 0 ≤ u.1 908 ∧ u.1 908 ≤ 12) (h_k : 0 ≤ x2 ∧ x2 ≤ u.1 908) (h_S : qFD 10 Sc uc) (h_9 : uc.1 902 = u.1 902) (h_u : t_ua (fun i j => t_bo k (N i) (N j)) (u.2.1 907) (uc.2.1 905) (u.1 908).toNatClampNeg) (h_m : t_mx (uc.2.1 905) x1 (u.1 908).toNatClampNeg) (h_d : t_da (fun i j => t_bo k (N i) (N j)) (uc.2.1 906) (u.1 908).toNatClampNeg 0) (h_w : t_jw k N gb gd x2.toNatClampNeg S Sc) (c16_1 : ¬ (u.1 908) ≤ (x2 : Int32)) (c35_2 : x1 ≤ (((uc.2.1 905 (x2 : Int32).toNatClampNeg) + (uc.2.1 906 (x2 : Int32).toNatClampNeg)) - 1 : Int32)) (b60_9 : t_nd ((uc.2.1 905)) ((uc.2.1 906)) ((u.1 908 : Int32)).toNatClampNeg x2.toNatClampNeg x1) (hS_21 : S_21 = upd Sc (N (x2 : Int32).toNatClampNeg : Int32).toNatClampNeg (0 : Int32)) : (uc.1 902 : Int32) = u.1 902 := by
  exact h_9
set_option maxRecDepth 100000 in
theorem g_X9_judgeGroup_k_v9 (u : qS) (k : qS) (P : Nat → Int32) (S : Nat → Int32) (N : Nat → Int32) (gb : Int32) (gd : Int32) (Sc : Nat → Int32) (x1 : Int32) (x2 : Int32) (uc : qS) (S_21 : Nat → Int32) (hk : CT k P u) (hQ : qFD 10 S u) (hG : qG k u N) (hg : t_g k gb gd (u.1 908).toNatClampNeg N) (ho : ∀ j : Nat, j < (u.1 908).toNatClampNeg → u.2.1 907 j = 0) (hz8 : 0 ≤ u.1 8 ∧ u.1 8 ≤ 20) (hz9 : 0 ≤ u.1 9 ∧ u.1 9 ≤ 8) (hz10 : 0 ≤ u.1 10 ∧ u.1 10 ≤ 120) (hz12 : 0 ≤ u.1 12 ∧ u.1 12 ≤ 16) (hz908 : 0 ≤ u.1 908 ∧ u.1 908 ≤ 12) (h_k : 0 ≤ x2 ∧ x2 ≤ u.1 908) (h_S : qFD 10 Sc uc) (h_9 : uc.1 902 = u.1 902) (h_u : t_ua (fun i j => t_bo k (N i) (N j)) (u.2.1 907) (uc.2.1 905) (u.1 908).toNatClampNeg) (h_m : t_mx (uc.2.1 905) x1 (u.1 908).toNatClampNeg) (h_d : t_da (fun i j => t_bo k (N i) (N j)) (uc.2.1 906) (u.1 908).toNatClampNeg 0) (h_w : t_jw k N gb gd x2.toNatClampNeg S Sc) (c16_1 : ¬ (u.1 908) ≤ (x2 : Int32)) (c35_2 : x1 ≤ (((uc.2.1 905 (x2 : Int32).toNatClampNeg) + (uc.2.1 906 (x2 : Int32).toNatClampNeg)) - 1 : Int32)) (b60_9 : t_nd ((uc.2.1 905)) ((uc.2.1 906)) ((u.1 908 : Int32)).toNatClampNeg x2.toNatClampNeg x1) (hS_21 : S_21 = upd Sc (N (x2 : Int32).toNatClampNeg : Int32).toNatClampNeg (0 : Int32)) : t_ua (fun i j => t_bo k (N i) (N j)) (u.2.1 907) ((uc.2.1 905)) (u.1 908).toNatClampNeg := by
  exact h_u
set_option maxRecDepth 100000 in
theorem g_X9_judgeGroup_k_v10 (u : qS) (k : qS) (P : Nat → Int32) (S : Nat → Int32) (N : Nat → Int32) (gb : Int32) (gd : Int32) (Sc : Nat → Int32) (x1 : Int32) (x2 : Int32) (uc : qS) (S_21 : Nat → Int32) (hk : CT k P u) (hQ : qFD 10 S u) (hG : qG k u N) (hg : t_g k gb gd (u.1 908).toNatClampNeg N) (ho : ∀ j : Nat, j < (u.1 908).toNatClampNeg → u.2.1 907 j = 0) (hz8 : 0 ≤ u.1 8 ∧ u.1 8 ≤ 20) (hz9 : 0 ≤ u.1 9 ∧ u.1 9 ≤ 8) (hz10 : 0 ≤ u.1 10 ∧ u.1 10 ≤ 120) (hz12 : 0 ≤ u.1 12 ∧ u.1 12 ≤ 16) (hz908 : 0 ≤ u.1 908 ∧ u.1 908 ≤ 12) (h_k : 0 ≤ x2 ∧ x2 ≤ u.1 908) (h_S : qFD 10 Sc uc) (h_9 : uc.1 902 = u.1 902) (h_u : t_ua (fun i j => t_bo k (N i) (N j)) (u.2.1 907) (uc.2.1 905) (u.1 908).toNatClampNeg) (h_m : t_mx (uc.2.1 905) x1 (u.1 908).toNatClampNeg) (h_d : t_da (fun i j => t_bo k (N i) (N j)) (uc.2.1 906) (u.1 908).toNatClampNeg 0) (h_w : t_jw k N gb gd x2.toNatClampNeg S Sc) (c16_1 : ¬ (u.1 908) ≤ (x2 : Int32)) (c35_2 : x1 ≤ (((uc.2.1 905 (x2 : Int32).toNatClampNeg) + (uc.2.1 906 (x2 : Int32).toNatClampNeg)) - 1 : Int32)) (b60_9 : t_nd ((uc.2.1 905)) ((uc.2.1 906)) ((u.1 908 : Int32)).toNatClampNeg x2.toNatClampNeg x1) (hS_21 : S_21 = upd Sc (N (x2 : Int32).toNatClampNeg : Int32).toNatClampNeg (0 : Int32)) : t_mx ((uc.2.1 905)) x1 (u.1 908).toNatClampNeg := by
  exact h_m
set_option maxRecDepth 100000 in
theorem g_X9_judgeGroup_k_v11 (u : qS) (k : qS) (P : Nat → Int32) (S : Nat → Int32) (N : Nat → Int32) (gb : Int32) (gd : Int32) (Sc : Nat → Int32) (x1 : Int32) (x2 : Int32) (uc : qS) (S_21 : Nat → Int32) (hk : CT k P u) (hQ : qFD 10 S u) (hG : qG k u N) (hg : t_g k gb gd (u.1 908).toNatClampNeg N) (ho : ∀ j : Nat, j < (u.1 908).toNatClampNeg → u.2.1 907 j = 0) (hz8 : 0 ≤ u.1 8 ∧ u.1 8 ≤ 20) (hz9 : 0 ≤ u.1 9 ∧ u.1 9 ≤ 8) (hz10 : 0 ≤ u.1 10 ∧ u.1 10 ≤ 120) (hz12 : 0 ≤ u.1 12 ∧ u.1 12 ≤ 16) (hz908 : 0 ≤ u.1 908 ∧ u.1 908 ≤ 12) (h_k : 0 ≤ x2 ∧ x2 ≤ u.1 908) (h_S : qFD 10 Sc uc) (h_9 : uc.1 902 = u.1 902) (h_u : t_ua (fun i j => t_bo k (N i) (N j)) (u.2.1 907) (uc.2.1 905) (u.1 908).toNatClampNeg) (h_m : t_mx (uc.2.1 905) x1 (u.1 908).toNatClampNeg) (h_d : t_da (fun i j => t_bo k (N i) (N j)) (uc.2.1 906) (u.1 908).toNatClampNeg 0) (h_w : t_jw k N gb gd x2.toNatClampNeg S Sc) (c16_1 : ¬ (u.1 908) ≤ (x2 : Int32)) (c35_2 : x1 ≤ (((uc.2.1 905 (x2 : Int32).toNatClampNeg) + (uc.2.1 906 (x2 : Int32).toNatClampNeg)) - 1 : Int32)) (b60_9 : t_nd ((uc.2.1 905)) ((uc.2.1 906)) ((u.1 908 : Int32)).toNatClampNeg x2.toNatClampNeg x1) (hS_21 : S_21 = upd Sc (N (x2 : Int32).toNatClampNeg : Int32).toNatClampNeg (0 : Int32)) : t_da (fun i j => t_bo k (N i) (N j)) ((uc.2.1 906)) (u.1 908).toNatClampNeg 0 := by
  exact h_d
set_option maxRecDepth 100000 in
theorem g_X9_judgeGroup_k_v12 (u : qS) (k : qS) (P : Nat → Int32) (S : Nat → Int32) (N : Nat → Int32) (gb : Int32) (gd : Int32) (Sc : Nat → Int32) (x1 : Int32) (x2 : Int32) (uc : qS) (S_21 : Nat → Int32) (hk : CT k P u) (hQ : qFD 10 S u) (hG : qG k u N) (hg : t_g k gb gd (u.1 908).toNatClampNeg N) (ho : ∀ j : Nat, j < (u.1 908).toNatClampNeg → u.2.1 907 j = 0) (hz8 : 0 ≤ u.1 8 ∧ u.1 8 ≤ 20) (hz9 : 0 ≤ u.1 9 ∧ u.1 9 ≤ 8) (hz10 : 0 ≤ u.1 10 ∧ u.1 10 ≤ 120) (hz12 : 0 ≤ u.1 12 ∧ u.1 12 ≤ 16) (hz908 : 0 ≤ u.1 908 ∧ u.1 908 ≤ 12) (h_k : 0 ≤ x2 ∧ x2 ≤ u.1 908) (h_S : qFD 10 Sc uc) (h_9 : uc.1 902 = u.1 902) (h_u : t_ua (fun i j => t_bo k (N i) (N j)) (u.2.1 907) (uc.2.1 905) (u.1 908).toNatClampNeg) (h_m : t_mx (uc.2.1 905) x1 (u.1 908).toNatClampNeg) (h_d : t_da (fun i j => t_bo k (N i) (N j)) (uc.2.1 906) (u.1 908).toNatClampNeg 0) (h_w : t_jw k N gb gd x2.toNatClampNeg S Sc) (c16_1 : ¬ (u.1 908) ≤ (x2 : Int32)) (c35_2 : x1 ≤ (((uc.2.1 905 (x2 : Int32).toNatClampNeg) + (uc.2.1 906 (x2 : Int32).toNatClampNeg)) - 1 : Int32)) (b60_9 : t_nd ((uc.2.1 905)) ((uc.2.1 906)) ((u.1 908 : Int32)).toNatClampNeg x2.toNatClampNeg x1) (hS_21 : S_21 = upd Sc (N (x2 : Int32).toNatClampNeg : Int32).toNatClampNeg (0 : Int32)) : t_jw k N gb gd (x2 + 1).toNatClampNeg S S_21 := by
  have q2 : 0 ≤ x2.toInt ∧ x2.toInt < (u.1 908).toInt ∧ (u.1 908).toInt ≤ 12 := (by clear h_w h_S h_u h_m h_d hg ho; (try simp only [g_m1, Int32.lt_iff_toInt_lt, Int32.le_iff_toInt_le, ← Int32.toInt_inj, Int32.reduceToInt] at *); omega)
  have c2 := g_clamp x2
  have c9 := g_clamp (u.1 908)
  have e2 := (g_up (i := x2) q2.1 (by omega)).2
  have jz := t_jz hk.2.2.2.2.2 hg ho h_u h_d h_m (i := x2.toNatClampNeg) (by omega)
  rw [e2]
  subst_vars
  first | exact h_w.up hg (by omega) (jz.1 (Int32.not_le.mp (by assumption))) | exact h_w.up hg (by omega) (jz.2.1 (Int32.not_lt.mpr (by assumption)) (by assumption)) | exact h_w.up hg (by omega) (jz.2.2 (Int32.not_lt.mpr (by assumption)) (by assumption))
set_option maxRecDepth 100000 in
theorem g_X9_judgeGroup_k_v13 (u : qS) (k : qS) (P : Nat → Int32) (S : Nat → Int32) (N : Nat → Int32) (gb : Int32) (gd : Int32) (Sc : Nat → Int32) (x1 : Int32) (x2 : Int32) (uc : qS) (S_21 : Nat → Int32) (hk : CT k P u) (hQ : qFD 10 S u) (hG : qG k u N) (hg : t_g k gb gd (u.1 908).toNatClampNeg N) (ho : ∀ j : Nat, j < (u.1 908).toNatClampNeg → u.2.1 907 j = 0) (hz8 : 0 ≤ u.1 8 ∧ u.1 8 ≤ 20) (hz9 : 0 ≤ u.1 9 ∧ u.1 9 ≤ 8) (hz10 : 0 ≤ u.1 10 ∧ u.1 10 ≤ 120) (hz12 : 0 ≤ u.1 12 ∧ u.1 12 ≤ 16) (hz908 : 0 ≤ u.1 908 ∧ u.1 908 ≤ 12) (h_k : 0 ≤ x2 ∧ x2 ≤ u.1 908) (h_S : qFD 10 Sc uc) (h_9 : uc.1 902 = u.1 902) (h_u : t_ua (fun i j => t_bo k (N i) (N j)) (u.2.1 907) (uc.2.1 905) (u.1 908).toNatClampNeg) (h_m : t_mx (uc.2.1 905) x1 (u.1 908).toNatClampNeg) (h_d : t_da (fun i j => t_bo k (N i) (N j)) (uc.2.1 906) (u.1 908).toNatClampNeg 0) (h_w : t_jw k N gb gd x2.toNatClampNeg S Sc) (c16_1 : ¬ (u.1 908) ≤ (x2 : Int32)) (c35_2 : x1 ≤ (((uc.2.1 905 (x2 : Int32).toNatClampNeg) + (uc.2.1 906 (x2 : Int32).toNatClampNeg)) - 1 : Int32)) (b60_9 : t_nd ((uc.2.1 905)) ((uc.2.1 906)) ((u.1 908 : Int32)).toNatClampNeg x2.toNatClampNeg x1) (hS_21 : S_21 = upd Sc (N (x2 : Int32).toNatClampNeg : Int32).toNatClampNeg (0 : Int32)) : ((u.1 908).toInt - (x2 + 1).toInt).toNat < ((u.1 908).toInt - x2.toInt).toNat := by
  clear h_w h_S h_u h_m h_d hg ho; (try simp only [g_m1, Int32.lt_iff_toInt_lt, Int32.le_iff_toInt_le, ← Int32.toInt_inj, Int32.toInt_add, Int32.toInt_sub, Int32.toInt_mul, Int32.toInt_neg, Int32.reduceToInt, g_bm, g_bm'] at *); omega
set_option maxRecDepth 100000 in
theorem g_X9_judgeGroup_k_v14 (u : qS) (k : qS) (P : Nat → Int32) (S : Nat → Int32) (N : Nat → Int32) (gb : Int32) (gd : Int32) (Sc : Nat → Int32) (x1 : Int32) (x2 : Int32) (uc : qS) (S_33 : Nat → Int32) (hk : CT k P u) (hQ : qFD 10 S u) (hG : qG k u N) (hg : t_g k gb gd (u.1 908).toNatClampNeg N) (ho : ∀ j : Nat, j < (u.1 908).toNatClampNeg → u.2.1 907 j = 0) (hz8 : 0 ≤ u.1 8 ∧ u.1 8 ≤ 20) (hz9 : 0 ≤ u.1 9 ∧ u.1 9 ≤ 8) (hz10 : 0 ≤ u.1 10 ∧ u.1 10 ≤ 120) (hz12 : 0 ≤ u.1 12 ∧ u.1 12 ≤ 16) (hz908 : 0 ≤ u.1 908 ∧ u.1 908 ≤ 12) (h_k : 0 ≤ x2 ∧ x2 ≤ u.1 908) (h_S : qFD 10 Sc uc) (h_9 : uc.1 902 = u.1 902) (h_u : t_ua (fun i j => t_bo k (N i) (N j)) (u.2.1 907) (uc.2.1 905) (u.1 908).toNatClampNeg) (h_m : t_mx (uc.2.1 905) x1 (u.1 908).toNatClampNeg) (h_d : t_da (fun i j => t_bo k (N i) (N j)) (uc.2.1 906) (u.1 908).toNatClampNeg 0) (h_w : t_jw k N gb gd x2.toNatClampNeg S Sc) (c16_1 : ¬ (u.1 908) ≤ (x2 : Int32)) (c35_2 : x1 ≤ (((uc.2.1 905 (x2 : Int32).toNatClampNeg) + (uc.2.1 906 (x2 : Int32).toNatClampNeg)) - 1 : Int32)) (b60_9 : ¬ (t_nd ((uc.2.1 905)) ((uc.2.1 906)) ((u.1 908 : Int32)).toNatClampNeg x2.toNatClampNeg x1)) (hS_33 : S_33 = upd Sc (N (x2 : Int32).toNatClampNeg : Int32).toNatClampNeg (3 : Int32)) : 0 ≤ (x2 + 1) ∧ (x2 + 1) ≤ u.1 908 := by
  clear h_w h_S h_u h_m h_d hg ho; (try simp only [g_m1, Int32.lt_iff_toInt_lt, Int32.le_iff_toInt_le, ← Int32.toInt_inj, Int32.toInt_add, Int32.toInt_sub, Int32.toInt_mul, Int32.toInt_neg, Int32.reduceToInt, g_bm, g_bm'] at *); omega
set_option maxRecDepth 100000 in
theorem g_X9_judgeGroup_k_v15 (u : qS) (k : qS) (P : Nat → Int32) (S : Nat → Int32) (N : Nat → Int32) (gb : Int32) (gd : Int32) (Sc : Nat → Int32) (x1 : Int32) (x2 : Int32) (uc : qS) (S_33 : Nat → Int32) (hk : CT k P u) (hQ : qFD 10 S u) (hG : qG k u N) (hg : t_g k gb gd (u.1 908).toNatClampNeg N) (ho : ∀ j : Nat, j < (u.1 908).toNatClampNeg → u.2.1 907 j = 0) (hz8 : 0 ≤ u.1 8 ∧ u.1 8 ≤ 20) (hz9 : 0 ≤ u.1 9 ∧ u.1 9 ≤ 8) (hz10 : 0 ≤ u.1 10 ∧ u.1 10 ≤ 120) (hz12 : 0 ≤ u.1 12 ∧ u.1 12 ≤ 16) (hz908 : 0 ≤ u.1 908 ∧ u.1 908 ≤ 12) (h_k : 0 ≤ x2 ∧ x2 ≤ u.1 908) (h_S : qFD 10 Sc uc) (h_9 : uc.1 902 = u.1 902) (h_u : t_ua (fun i j => t_bo k (N i) (N j)) (u.2.1 907) (uc.2.1 905) (u.1 908).toNatClampNeg) (h_m : t_mx (uc.2.1 905) x1 (u.1 908).toNatClampNeg) (h_d : t_da (fun i j => t_bo k (N i) (N j)) (uc.2.1 906) (u.1 908).toNatClampNeg 0) (h_w : t_jw k N gb gd x2.toNatClampNeg S Sc) (c16_1 : ¬ (u.1 908) ≤ (x2 : Int32)) (c35_2 : x1 ≤ (((uc.2.1 905 (x2 : Int32).toNatClampNeg) + (uc.2.1 906 (x2 : Int32).toNatClampNeg)) - 1 : Int32)) (b60_9 : ¬ (t_nd ((uc.2.1 905)) ((uc.2.1 906)) ((u.1 908 : Int32)).toNatClampNeg x2.toNatClampNeg x1)) (hS_33 : S_33 = upd Sc (N (x2 : Int32).toNatClampNeg : Int32).toNatClampNeg (3 : Int32)) : (uc.1 902 : Int32) = u.1 902 := by
  exact h_9
set_option maxRecDepth 100000 in
theorem g_X9_judgeGroup_k_v16 (u : qS) (k : qS) (P : Nat → Int32) (S : Nat → Int32) (N : Nat → Int32) (gb : Int32) (gd : Int32) (Sc : Nat → Int32) (x1 : Int32) (x2 : Int32) (uc : qS) (S_33 : Nat → Int32) (hk : CT k P u) (hQ : qFD 10 S u) (hG : qG k u N) (hg : t_g k gb gd (u.1 908).toNatClampNeg N) (ho : ∀ j : Nat, j < (u.1 908).toNatClampNeg → u.2.1 907 j = 0) (hz8 : 0 ≤ u.1 8 ∧ u.1 8 ≤ 20) (hz9 : 0 ≤ u.1 9 ∧ u.1 9 ≤ 8) (hz10 : 0 ≤ u.1 10 ∧ u.1 10 ≤ 120) (hz12 : 0 ≤ u.1 12 ∧ u.1 12 ≤ 16) (hz908 : 0 ≤ u.1 908 ∧ u.1 908 ≤ 12) (h_k : 0 ≤ x2 ∧ x2 ≤ u.1 908) (h_S : qFD 10 Sc uc) (h_9 : uc.1 902 = u.1 902) (h_u : t_ua (fun i j => t_bo k (N i) (N j)) (u.2.1 907) (uc.2.1 905) (u.1 908).toNatClampNeg) (h_m : t_mx (uc.2.1 905) x1 (u.1 908).toNatClampNeg) (h_d : t_da (fun i j => t_bo k (N i) (N j)) (uc.2.1 906) (u.1 908).toNatClampNeg 0) (h_w : t_jw k N gb gd x2.toNatClampNeg S Sc) (c16_1 : ¬ (u.1 908) ≤ (x2 : Int32)) (c35_2 : x1 ≤ (((uc.2.1 905 (x2 : Int32).toNatClampNeg) + (uc.2.1 906 (x2 : Int32).toNatClampNeg)) - 1 : Int32)) (b60_9 : ¬ (t_nd ((uc.2.1 905)) ((uc.2.1 906)) ((u.1 908 : Int32)).toNatClampNeg x2.toNatClampNeg x1)) (hS_33 : S_33 = upd Sc (N (x2 : Int32).toNatClampNeg : Int32).toNatClampNeg (3 : Int32)) : t_ua (fun i j => t_bo k (N i) (N j)) (u.2.1 907) ((uc.2.1 905)) (u.1 908).toNatClampNeg := by
  exact h_u
set_option maxRecDepth 100000 in
theorem g_X9_judgeGroup_k_v17 (u : qS) (k : qS) (P : Nat → Int32) (S : Nat → Int32) (N : Nat → Int32) (gb : Int32) (gd : Int32) (Sc : Nat → Int32) (x1 : Int32) (x2 : Int32) (uc : qS) (S_33 : Nat → Int32) (hk : CT k P u) (hQ : qFD 10 S u) (hG : qG k u N) (hg : t_g k gb gd (u.1 908).toNatClampNeg N) (ho : ∀ j : Nat, j < (u.1 908).toNatClampNeg → u.2.1 907 j = 0) (hz8 : 0 ≤ u.1 8 ∧ u.1 8 ≤ 20) (hz9 : 0 ≤ u.1 9 ∧ u.1 9 ≤ 8) (hz10 : 0 ≤ u.1 10 ∧ u.1 10 ≤ 120) (hz12 : 0 ≤ u.1 12 ∧ u.1 12 ≤ 16) (hz908 : 0 ≤ u.1 908 ∧ u.1 908 ≤ 12) (h_k : 0 ≤ x2 ∧ x2 ≤ u.1 908) (h_S : qFD 10 Sc uc) (h_9 : uc.1 902 = u.1 902) (h_u : t_ua (fun i j => t_bo k (N i) (N j)) (u.2.1 907) (uc.2.1 905) (u.1 908).toNatClampNeg) (h_m : t_mx (uc.2.1 905) x1 (u.1 908).toNatClampNeg) (h_d : t_da (fun i j => t_bo k (N i) (N j)) (uc.2.1 906) (u.1 908).toNatClampNeg 0) (h_w : t_jw k N gb gd x2.toNatClampNeg S Sc) (c16_1 : ¬ (u.1 908) ≤ (x2 : Int32)) (c35_2 : x1 ≤ (((uc.2.1 905 (x2 : Int32).toNatClampNeg) + (uc.2.1 906 (x2 : Int32).toNatClampNeg)) - 1 : Int32)) (b60_9 : ¬ (t_nd ((uc.2.1 905)) ((uc.2.1 906)) ((u.1 908 : Int32)).toNatClampNeg x2.toNatClampNeg x1)) (hS_33 : S_33 = upd Sc (N (x2 : Int32).toNatClampNeg : Int32).toNatClampNeg (3 : Int32)) : t_mx ((uc.2.1 905)) x1 (u.1 908).toNatClampNeg := by
  exact h_m
set_option maxRecDepth 100000 in
theorem g_X9_judgeGroup_k_v18 (u : qS) (k : qS) (P : Nat → Int32) (S : Nat → Int32) (N : Nat → Int32) (gb : Int32) (gd : Int32) (Sc : Nat → Int32) (x1 : Int32) (x2 : Int32) (uc : qS) (S_33 : Nat → Int32) (hk : CT k P u) (hQ : qFD 10 S u) (hG : qG k u N) (hg : t_g k gb gd (u.1 908).toNatClampNeg N) (ho : ∀ j : Nat, j < (u.1 908).toNatClampNeg → u.2.1 907 j = 0) (hz8 : 0 ≤ u.1 8 ∧ u.1 8 ≤ 20) (hz9 : 0 ≤ u.1 9 ∧ u.1 9 ≤ 8) (hz10 : 0 ≤ u.1 10 ∧ u.1 10 ≤ 120) (hz12 : 0 ≤ u.1 12 ∧ u.1 12 ≤ 16) (hz908 : 0 ≤ u.1 908 ∧ u.1 908 ≤ 12) (h_k : 0 ≤ x2 ∧ x2 ≤ u.1 908) (h_S : qFD 10 Sc uc) (h_9 : uc.1 902 = u.1 902) (h_u : t_ua (fun i j => t_bo k (N i) (N j)) (u.2.1 907) (uc.2.1 905) (u.1 908).toNatClampNeg) (h_m : t_mx (uc.2.1 905) x1 (u.1 908).toNatClampNeg) (h_d : t_da (fun i j => t_bo k (N i) (N j)) (uc.2.1 906) (u.1 908).toNatClampNeg 0) (h_w : t_jw k N gb gd x2.toNatClampNeg S Sc) (c16_1 : ¬ (u.1 908) ≤ (x2 : Int32)) (c35_2 : x1 ≤ (((uc.2.1 905 (x2 : Int32).toNatClampNeg) + (uc.2.1 906 (x2 : Int32).toNatClampNeg)) - 1 : Int32)) (b60_9 : ¬ (t_nd ((uc.2.1 905)) ((uc.2.1 906)) ((u.1 908 : Int32)).toNatClampNeg x2.toNatClampNeg x1)) (hS_33 : S_33 = upd Sc (N (x2 : Int32).toNatClampNeg : Int32).toNatClampNeg (3 : Int32)) : t_da (fun i j => t_bo k (N i) (N j)) ((uc.2.1 906)) (u.1 908).toNatClampNeg 0 := by
  exact h_d
set_option maxRecDepth 100000 in
theorem g_X9_judgeGroup_k_v19 (u : qS) (k : qS) (P : Nat → Int32) (S : Nat → Int32) (N : Nat → Int32) (gb : Int32) (gd : Int32) (Sc : Nat → Int32) (x1 : Int32) (x2 : Int32) (uc : qS) (S_33 : Nat → Int32) (hk : CT k P u) (hQ : qFD 10 S u) (hG : qG k u N) (hg : t_g k gb gd (u.1 908).toNatClampNeg N) (ho : ∀ j : Nat, j < (u.1 908).toNatClampNeg → u.2.1 907 j = 0) (hz8 : 0 ≤ u.1 8 ∧ u.1 8 ≤ 20) (hz9 : 0 ≤ u.1 9 ∧ u.1 9 ≤ 8) (hz10 : 0 ≤ u.1 10 ∧ u.1 10 ≤ 120) (hz12 : 0 ≤ u.1 12 ∧ u.1 12 ≤ 16) (hz908 : 0 ≤ u.1 908 ∧ u.1 908 ≤ 12) (h_k : 0 ≤ x2 ∧ x2 ≤ u.1 908) (h_S : qFD 10 Sc uc) (h_9 : uc.1 902 = u.1 902) (h_u : t_ua (fun i j => t_bo k (N i) (N j)) (u.2.1 907) (uc.2.1 905) (u.1 908).toNatClampNeg) (h_m : t_mx (uc.2.1 905) x1 (u.1 908).toNatClampNeg) (h_d : t_da (fun i j => t_bo k (N i) (N j)) (uc.2.1 906) (u.1 908).toNatClampNeg 0) (h_w : t_jw k N gb gd x2.toNatClampNeg S Sc) (c16_1 : ¬ (u.1 908) ≤ (x2 : Int32)) (c35_2 : x1 ≤ (((uc.2.1 905 (x2 : Int32).toNatClampNeg) + (uc.2.1 906 (x2 : Int32).toNatClampNeg)) - 1 : Int32)) (b60_9 : ¬ (t_nd ((uc.2.1 905)) ((uc.2.1 906)) ((u.1 908 : Int32)).toNatClampNeg x2.toNatClampNeg x1)) (hS_33 : S_33 = upd Sc (N (x2 : Int32).toNatClampNeg : Int32).toNatClampNeg (3 : Int32)) : t_jw k N gb gd (x2 + 1).toNatClampNeg S S_33 := by
  have q2 : 0 ≤ x2.toInt ∧ x2.toInt < (u.1 908).toInt ∧ (u.1 908).toInt ≤ 12 := (by clear h_w h_S h_u h_m h_d hg ho; (try simp only [g_m1, Int32.lt_iff_toInt_lt, Int32.le_iff_toInt_le, ← Int32.toInt_inj, Int32.reduceToInt] at *); omega)
  have c2 := g_clamp x2
  have c9 := g_clamp (u.1 908)
  have e2 := (g_up (i := x2) q2.1 (by omega)).2
  have jz := t_jz hk.2.2.2.2.2 hg ho h_u h_d h_m (i := x2.toNatClampNeg) (by omega)
  rw [e2]
  subst_vars
  first | exact h_w.up hg (by omega) (jz.1 (Int32.not_le.mp (by assumption))) | exact h_w.up hg (by omega) (jz.2.1 (Int32.not_lt.mpr (by assumption)) (by assumption)) | exact h_w.up hg (by omega) (jz.2.2 (Int32.not_lt.mpr (by assumption)) (by assumption))
set_option maxRecDepth 100000 in
theorem g_X9_judgeGroup_k_v20 (u : qS) (k : qS) (P : Nat → Int32) (S : Nat → Int32) (N : Nat → Int32) (gb : Int32) (gd : Int32) (Sc : Nat → Int32) (x1 : Int32) (x2 : Int32) (uc : qS) (S_33 : Nat → Int32) (hk : CT k P u) (hQ : qFD 10 S u) (hG : qG k u N) (hg : t_g k gb gd (u.1 908).toNatClampNeg N) (ho : ∀ j : Nat, j < (u.1 908).toNatClampNeg → u.2.1 907 j = 0) (hz8 : 0 ≤ u.1 8 ∧ u.1 8 ≤ 20) (hz9 : 0 ≤ u.1 9 ∧ u.1 9 ≤ 8) (hz10 : 0 ≤ u.1 10 ∧ u.1 10 ≤ 120) (hz12 : 0 ≤ u.1 12 ∧ u.1 12 ≤ 16) (hz908 : 0 ≤ u.1 908 ∧ u.1 908 ≤ 12) (h_k : 0 ≤ x2 ∧ x2 ≤ u.1 908) (h_S : qFD 10 Sc uc) (h_9 : uc.1 902 = u.1 902) (h_u : t_ua (fun i j => t_bo k (N i) (N j)) (u.2.1 907) (uc.2.1 905) (u.1 908).toNatClampNeg) (h_m : t_mx (uc.2.1 905) x1 (u.1 908).toNatClampNeg) (h_d : t_da (fun i j => t_bo k (N i) (N j)) (uc.2.1 906) (u.1 908).toNatClampNeg 0) (h_w : t_jw k N gb gd x2.toNatClampNeg S Sc) (c16_1 : ¬ (u.1 908) ≤ (x2 : Int32)) (c35_2 : x1 ≤ (((uc.2.1 905 (x2 : Int32).toNatClampNeg) + (uc.2.1 906 (x2 : Int32).toNatClampNeg)) - 1 : Int32)) (b60_9 : ¬ (t_nd ((uc.2.1 905)) ((uc.2.1 906)) ((u.1 908 : Int32)).toNatClampNeg x2.toNatClampNeg x1)) (hS_33 : S_33 = upd Sc (N (x2 : Int32).toNatClampNeg : Int32).toNatClampNeg (3 : Int32)) : ((u.1 908).toInt - (x2 + 1).toInt).toNat < ((u.1 908).toInt - x2.toInt).toNat := by
  clear h_w h_S h_u h_m h_d hg ho; (try simp only [g_m1, Int32.lt_iff_toInt_lt, Int32.le_iff_toInt_le, ← Int32.toInt_inj, Int32.toInt_add, Int32.toInt_sub, Int32.toInt_mul, Int32.toInt_neg, Int32.reduceToInt, g_bm, g_bm'] at *); omega
set_option maxRecDepth 100000 in
theorem g_X9_judgeGroup_k_v21 (u : qS) (k : qS) (P : Nat → Int32) (S : Nat → Int32) (N : Nat → Int32) (gb : Int32) (gd : Int32) (Sc : Nat → Int32) (x1 : Int32) (x2 : Int32) (uc : qS) (hk : CT k P u) (hQ : qFD 10 S u) (hG : qG k u N) (hg : t_g k gb gd (u.1 908).toNatClampNeg N) (ho : ∀ j : Nat, j < (u.1 908).toNatClampNeg → u.2.1 907 j = 0) (hz8 : 0 ≤ u.1 8 ∧ u.1 8 ≤ 20) (hz9 : 0 ≤ u.1 9 ∧ u.1 9 ≤ 8) (hz10 : 0 ≤ u.1 10 ∧ u.1 10 ≤ 120) (hz12 : 0 ≤ u.1 12 ∧ u.1 12 ≤ 16) (hz908 : 0 ≤ u.1 908 ∧ u.1 908 ≤ 12) (h_k : 0 ≤ x2 ∧ x2 ≤ u.1 908) (h_S : qFD 10 Sc uc) (h_9 : uc.1 902 = u.1 902) (h_u : t_ua (fun i j => t_bo k (N i) (N j)) (u.2.1 907) (uc.2.1 905) (u.1 908).toNatClampNeg) (h_m : t_mx (uc.2.1 905) x1 (u.1 908).toNatClampNeg) (h_d : t_da (fun i j => t_bo k (N i) (N j)) (uc.2.1 906) (u.1 908).toNatClampNeg 0) (h_w : t_jw k N gb gd x2.toNatClampNeg S Sc) (c16_1 : ¬ (u.1 908) ≤ (x2 : Int32)) (c35_2 : ¬ x1 ≤ (((uc.2.1 905 (x2 : Int32).toNatClampNeg) + (uc.2.1 906 (x2 : Int32).toNatClampNeg)) - 1 : Int32)) : 0 ≤ x2 ∧ x2 < (u.1 908) := by
  clear h_w h_S h_u h_m h_d hg ho; (try simp only [g_m1, Int32.lt_iff_toInt_lt, Int32.le_iff_toInt_le, ← Int32.toInt_inj, Int32.reduceToInt] at *); omega
set_option maxRecDepth 100000 in
theorem g_X9_judgeGroup_k_v22 (u : qS) (k : qS) (P : Nat → Int32) (S : Nat → Int32) (N : Nat → Int32) (gb : Int32) (gd : Int32) (Sc : Nat → Int32) (x1 : Int32) (x2 : Int32) (uc : qS) (hk : CT k P u) (hQ : qFD 10 S u) (hG : qG k u N) (hg : t_g k gb gd (u.1 908).toNatClampNeg N) (ho : ∀ j : Nat, j < (u.1 908).toNatClampNeg → u.2.1 907 j = 0) (hz8 : 0 ≤ u.1 8 ∧ u.1 8 ≤ 20) (hz9 : 0 ≤ u.1 9 ∧ u.1 9 ≤ 8) (hz10 : 0 ≤ u.1 10 ∧ u.1 10 ≤ 120) (hz12 : 0 ≤ u.1 12 ∧ u.1 12 ≤ 16) (hz908 : 0 ≤ u.1 908 ∧ u.1 908 ≤ 12) (h_k : 0 ≤ x2 ∧ x2 ≤ u.1 908) (h_S : qFD 10 Sc uc) (h_9 : uc.1 902 = u.1 902) (h_u : t_ua (fun i j => t_bo k (N i) (N j)) (u.2.1 907) (uc.2.1 905) (u.1 908).toNatClampNeg) (h_m : t_mx (uc.2.1 905) x1 (u.1 908).toNatClampNeg) (h_d : t_da (fun i j => t_bo k (N i) (N j)) (uc.2.1 906) (u.1 908).toNatClampNeg 0) (h_w : t_jw k N gb gd x2.toNatClampNeg S Sc) (c16_1 : ¬ (u.1 908) ≤ (x2 : Int32)) (c35_2 : ¬ x1 ≤ (((uc.2.1 905 (x2 : Int32).toNatClampNeg) + (uc.2.1 906 (x2 : Int32).toNatClampNeg)) - 1 : Int32)) : vp_in (x2) 12 := by
  clear h_w h_S h_u h_m h_d hg ho; refine g_in ?_ ?_ <;> ((try simp only [g_m1, Int32.lt_iff_toInt_lt, Int32.le_iff_toInt_le, ← Int32.toInt_inj, Int32.reduceToInt] at *); omega)
set_option maxRecDepth 100000 in
theorem g_X9_judgeGroup_k_v23 (u : qS) (k : qS) (P : Nat → Int32) (S : Nat → Int32) (N : Nat → Int32) (gb : Int32) (gd : Int32) (Sc : Nat → Int32) (x1 : Int32) (x2 : Int32) (uc : qS) (hk : CT k P u) (hQ : qFD 10 S u) (hG : qG k u N) (hg : t_g k gb gd (u.1 908).toNatClampNeg N) (ho : ∀ j : Nat, j < (u.1 908).toNatClampNeg → u.2.1 907 j = 0) (hz8 : 0 ≤ u.1 8 ∧ u.1 8 ≤ 20) (hz9 : 0 ≤ u.1 9 ∧ u.1 9 ≤ 8) (hz10 : 0 ≤ u.1 10 ∧ u.1 10 ≤ 120) (hz12 : 0 ≤ u.1 12 ∧ u.1 12 ≤ 16) (hz908 : 0 ≤ u.1 908 ∧ u.1 908 ≤ 12) (h_k : 0 ≤ x2 ∧ x2 ≤ u.1 908) (h_S : qFD 10 Sc uc) (h_9 : uc.1 902 = u.1 902) (h_u : t_ua (fun i j => t_bo k (N i) (N j)) (u.2.1 907) (uc.2.1 905) (u.1 908).toNatClampNeg) (h_m : t_mx (uc.2.1 905) x1 (u.1 908).toNatClampNeg) (h_d : t_da (fun i j => t_bo k (N i) (N j)) (uc.2.1 906) (u.1 908).toNatClampNeg 0) (h_w : t_jw k N gb gd x2.toNatClampNeg S Sc) (c16_1 : ¬ (u.1 908) ≤ (x2 : Int32)) (c35_2 : ¬ x1 ≤ (((uc.2.1 905 (x2 : Int32).toNatClampNeg) + (uc.2.1 906 (x2 : Int32).toNatClampNeg)) - 1 : Int32)) : 0 ≤ x2 ∧ x2 < (u.1 908) := by
  clear h_w h_S h_u h_m h_d hg ho; (try simp only [g_m1, Int32.lt_iff_toInt_lt, Int32.le_iff_toInt_le, ← Int32.toInt_inj, Int32.reduceToInt] at *); omega
set_option maxRecDepth 100000 in
theorem g_X9_judgeGroup_k_v24 (u : qS) (k : qS) (P : Nat → Int32) (S : Nat → Int32) (N : Nat → Int32) (gb : Int32) (gd : Int32) (Sc : Nat → Int32) (x1 : Int32) (x2 : Int32) (uc : qS) (S_48 : Nat → Int32) (hk : CT k P u) (hQ : qFD 10 S u) (hG : qG k u N) (hg : t_g k gb gd (u.1 908).toNatClampNeg N) (ho : ∀ j : Nat, j < (u.1 908).toNatClampNeg → u.2.1 907 j = 0) (hz8 : 0 ≤ u.1 8 ∧ u.1 8 ≤ 20) (hz9 : 0 ≤ u.1 9 ∧ u.1 9 ≤ 8) (hz10 : 0 ≤ u.1 10 ∧ u.1 10 ≤ 120) (hz12 : 0 ≤ u.1 12 ∧ u.1 12 ≤ 16) (hz908 : 0 ≤ u.1 908 ∧ u.1 908 ≤ 12) (h_k : 0 ≤ x2 ∧ x2 ≤ u.1 908) (h_S : qFD 10 Sc uc) (h_9 : uc.1 902 = u.1 902) (h_u : t_ua (fun i j => t_bo k (N i) (N j)) (u.2.1 907) (uc.2.1 905) (u.1 908).toNatClampNeg) (h_m : t_mx (uc.2.1 905) x1 (u.1 908).toNatClampNeg) (h_d : t_da (fun i j => t_bo k (N i) (N j)) (uc.2.1 906) (u.1 908).toNatClampNeg 0) (h_w : t_jw k N gb gd x2.toNatClampNeg S Sc) (c16_1 : ¬ (u.1 908) ≤ (x2 : Int32)) (c35_2 : ¬ x1 ≤ (((uc.2.1 905 (x2 : Int32).toNatClampNeg) + (uc.2.1 906 (x2 : Int32).toNatClampNeg)) - 1 : Int32)) (hS_48 : S_48 = upd Sc (N (x2 : Int32).toNatClampNeg : Int32).toNatClampNeg (2 : Int32)) : 0 ≤ (x2 + 1) ∧ (x2 + 1) ≤ u.1 908 := by
  clear h_w h_S h_u h_m h_d hg ho; (try simp only [g_m1, Int32.lt_iff_toInt_lt, Int32.le_iff_toInt_le, ← Int32.toInt_inj, Int32.toInt_add, Int32.toInt_sub, Int32.toInt_mul, Int32.toInt_neg, Int32.reduceToInt, g_bm, g_bm'] at *); omega
set_option maxRecDepth 100000 in
theorem g_X9_judgeGroup_k_v25 (u : qS) (k : qS) (P : Nat → Int32) (S : Nat → Int32) (N : Nat → Int32) (gb : Int32) (gd : Int32) (Sc : Nat → Int32) (x1 : Int32) (x2 : Int32) (uc : qS) (S_48 : Nat → Int32) (hk : CT k P u) (hQ : qFD 10 S u) (hG : qG k u N) (hg : t_g k gb gd (u.1 908).toNatClampNeg N) (ho : ∀ j : Nat, j < (u.1 908).toNatClampNeg → u.2.1 907 j = 0) (hz8 : 0 ≤ u.1 8 ∧ u.1 8 ≤ 20) (hz9 : 0 ≤ u.1 9 ∧ u.1 9 ≤ 8) (hz10 : 0 ≤ u.1 10 ∧ u.1 10 ≤ 120) (hz12 : 0 ≤ u.1 12 ∧ u.1 12 ≤ 16) (hz908 : 0 ≤ u.1 908 ∧ u.1 908 ≤ 12) (h_k : 0 ≤ x2 ∧ x2 ≤ u.1 908) (h_S : qFD 10 Sc uc) (h_9 : uc.1 902 = u.1 902) (h_u : t_ua (fun i j => t_bo k (N i) (N j)) (u.2.1 907) (uc.2.1 905) (u.1 908).toNatClampNeg) (h_m : t_mx (uc.2.1 905) x1 (u.1 908).toNatClampNeg) (h_d : t_da (fun i j => t_bo k (N i) (N j)) (uc.2.1 906) (u.1 908).toNatClampNeg 0) (h_w : t_jw k N gb gd x2.toNatClampNeg S Sc) (c16_1 : ¬ (u.1 908) ≤ (x2 : Int32)) (c35_2 : ¬ x1 ≤ (((uc.2.1 905 (x2 : Int32).toNatClampNeg) + (uc.2.1 906 (x2 : Int32).toNatClampNeg)) - 1 : Int32)) (hS_48 : S_48 = upd Sc (N (x2 : Int32).toNatClampNeg : Int32).toNatClampNeg (2 : Int32)) : (uc.1 902 : Int32) = u.1 902 := by
  exact h_9
set_option maxRecDepth 100000 in
theorem g_X9_judgeGroup_k_v26 (u : qS) (k : qS) (P : Nat → Int32) (S : Nat → Int32) (N : Nat → Int32) (gb : Int32) (gd : Int32) (Sc : Nat → Int32) (x1 : Int32) (x2 : Int32) (uc : qS) (S_48 : Nat → Int32) (hk : CT k P u) (hQ : qFD 10 S u) (hG : qG k u N) (hg : t_g k gb gd (u.1 908).toNatClampNeg N) (ho : ∀ j : Nat, j < (u.1 908).toNatClampNeg → u.2.1 907 j = 0) (hz8 : 0 ≤ u.1 8 ∧ u.1 8 ≤ 20) (hz9 : 0 ≤ u.1 9 ∧ u.1 9 ≤ 8) (hz10 : 0 ≤ u.1 10 ∧ u.1 10 ≤ 120) (hz12 : 0 ≤ u.1 12 ∧ u.1 12 ≤ 16) (hz908 : 0 ≤ u.1 908 ∧ u.1 908 ≤ 12) (h_k : 0 ≤ x2 ∧ x2 ≤ u.1 908) (h_S : qFD 10 Sc uc) (h_9 : uc.1 902 = u.1 902) (h_u : t_ua (fun i j => t_bo k (N i) (N j)) (u.2.1 907) (uc.2.1 905) (u.1 908).toNatClampNeg) (h_m : t_mx (uc.2.1 905) x1 (u.1 908).toNatClampNeg) (h_d : t_da (fun i j => t_bo k (N i) (N j)) (uc.2.1 906) (u.1 908).toNatClampNeg 0) (h_w : t_jw k N gb gd x2.toNatClampNeg S Sc) (c16_1 : ¬ (u.1 908) ≤ (x2 : Int32)) (c35_2 : ¬ x1 ≤ (((uc.2.1 905 (x2 : Int32).toNatClampNeg) + (uc.2.1 906 (x2 : Int32).toNatClampNeg)) - 1 : Int32)) (hS_48 : S_48 = upd Sc (N (x2 : Int32).toNatClampNeg : Int32).toNatClampNeg (2 : Int32)) : t_ua (fun i j => t_bo k (N i) (N j)) (u.2.1 907) ((uc.2.1 905)) (u.1 908).toNatClampNeg := by
  exact h_u
set_option maxRecDepth 100000 in
theorem g_X9_judgeGroup_k_v27 (u : qS) (k : qS) (P : Nat → Int32) (S : Nat → Int32) (N : Nat → Int32) (gb : Int32) (gd : Int32) (Sc : Nat → Int32) (x1 : Int32) (x2 : Int32) (uc : qS) (S_48 : Nat → Int32) (hk : CT k P u) (hQ : qFD 10 S u) (hG : qG k u N) (hg : t_g k gb gd (u.1 908).toNatClampNeg N) (ho : ∀ j : Nat, j < (u.1 908).toNatClampNeg → u.2.1 907 j = 0) (hz8 : 0 ≤ u.1 8 ∧ u.1 8 ≤ 20) (hz9 : 0 ≤ u.1 9 ∧ u.1 9 ≤ 8) (hz10 : 0 ≤ u.1 10 ∧ u.1 10 ≤ 120) (hz12 : 0 ≤ u.1 12 ∧ u.1 12 ≤ 16) (hz908 : 0 ≤ u.1 908 ∧ u.1 908 ≤ 12) (h_k : 0 ≤ x2 ∧ x2 ≤ u.1 908) (h_S : qFD 10 Sc uc) (h_9 : uc.1 902 = u.1 902) (h_u : t_ua (fun i j => t_bo k (N i) (N j)) (u.2.1 907) (uc.2.1 905) (u.1 908).toNatClampNeg) (h_m : t_mx (uc.2.1 905) x1 (u.1 908).toNatClampNeg) (h_d : t_da (fun i j => t_bo k (N i) (N j)) (uc.2.1 906) (u.1 908).toNatClampNeg 0) (h_w : t_jw k N gb gd x2.toNatClampNeg S Sc) (c16_1 : ¬ (u.1 908) ≤ (x2 : Int32)) (c35_2 : ¬ x1 ≤ (((uc.2.1 905 (x2 : Int32).toNatClampNeg) + (uc.2.1 906 (x2 : Int32).toNatClampNeg)) - 1 : Int32)) (hS_48 : S_48 = upd Sc (N (x2 : Int32).toNatClampNeg : Int32).toNatClampNeg (2 : Int32)) : t_mx ((uc.2.1 905)) x1 (u.1 908).toNatClampNeg := by
  exact h_m
set_option maxRecDepth 100000 in
theorem g_X9_judgeGroup_k_v28 (u : qS) (k : qS) (P : Nat → Int32) (S : Nat → Int32) (N : Nat → Int32) (gb : Int32) (gd : Int32) (Sc : Nat → Int32) (x1 : Int32) (x2 : Int32) (uc : qS) (S_48 : Nat → Int32) (hk : CT k P u) (hQ : qFD 10 S u) (hG : qG k u N) (hg : t_g k gb gd (u.1 908).toNatClampNeg N) (ho : ∀ j : Nat, j < (u.1 908).toNatClampNeg → u.2.1 907 j = 0) (hz8 : 0 ≤ u.1 8 ∧ u.1 8 ≤ 20) (hz9 : 0 ≤ u.1 9 ∧ u.1 9 ≤ 8) (hz10 : 0 ≤ u.1 10 ∧ u.1 10 ≤ 120) (hz12 : 0 ≤ u.1 12 ∧ u.1 12 ≤ 16) (hz908 : 0 ≤ u.1 908 ∧ u.1 908 ≤ 12) (h_k : 0 ≤ x2 ∧ x2 ≤ u.1 908) (h_S : qFD 10 Sc uc) (h_9 : uc.1 902 = u.1 902) (h_u : t_ua (fun i j => t_bo k (N i) (N j)) (u.2.1 907) (uc.2.1 905) (u.1 908).toNatClampNeg) (h_m : t_mx (uc.2.1 905) x1 (u.1 908).toNatClampNeg) (h_d : t_da (fun i j => t_bo k (N i) (N j)) (uc.2.1 906) (u.1 908).toNatClampNeg 0) (h_w : t_jw k N gb gd x2.toNatClampNeg S Sc) (c16_1 : ¬ (u.1 908) ≤ (x2 : Int32)) (c35_2 : ¬ x1 ≤ (((uc.2.1 905 (x2 : Int32).toNatClampNeg) + (uc.2.1 906 (x2 : Int32).toNatClampNeg)) - 1 : Int32)) (hS_48 : S_48 = upd Sc (N (x2 : Int32).toNatClampNeg : Int32).toNatClampNeg (2 : Int32)) : t_da (fun i j => t_bo k (N i) (N j)) ((uc.2.1 906)) (u.1 908).toNatClampNeg 0 := by
  exact h_d
set_option maxRecDepth 100000 in
theorem g_X9_judgeGroup_k_v29 (u : qS) (k : qS) (P : Nat → Int32) (S : Nat → Int32) (N : Nat → Int32) (gb : Int32) (gd : Int32) (Sc : Nat → Int32) (x1 : Int32) (x2 : Int32) (uc : qS) (S_48 : Nat → Int32) (hk : CT k P u) (hQ : qFD 10 S u) (hG : qG k u N) (hg : t_g k gb gd (u.1 908).toNatClampNeg N) (ho : ∀ j : Nat, j < (u.1 908).toNatClampNeg → u.2.1 907 j = 0) (hz8 : 0 ≤ u.1 8 ∧ u.1 8 ≤ 20) (hz9 : 0 ≤ u.1 9 ∧ u.1 9 ≤ 8) (hz10 : 0 ≤ u.1 10 ∧ u.1 10 ≤ 120) (hz12 : 0 ≤ u.1 12 ∧ u.1 12 ≤ 16) (hz908 : 0 ≤ u.1 908 ∧ u.1 908 ≤ 12) (h_k : 0 ≤ x2 ∧ x2 ≤ u.1 908) (h_S : qFD 10 Sc uc) (h_9 : uc.1 902 = u.1 902) (h_u : t_ua (fun i j => t_bo k (N i) (N j)) (u.2.1 907) (uc.2.1 905) (u.1 908).toNatClampNeg) (h_m : t_mx (uc.2.1 905) x1 (u.1 908).toNatClampNeg) (h_d : t_da (fun i j => t_bo k (N i) (N j)) (uc.2.1 906) (u.1 908).toNatClampNeg 0) (h_w : t_jw k N gb gd x2.toNatClampNeg S Sc) (c16_1 : ¬ (u.1 908) ≤ (x2 : Int32)) (c35_2 : ¬ x1 ≤ (((uc.2.1 905 (x2 : Int32).toNatClampNeg) + (uc.2.1 906 (x2 : Int32).toNatClampNeg)) - 1 : Int32)) (hS_48 : S_48 = upd Sc (N (x2 : Int32).toNatClampNeg : Int32).toNatClampNeg (2 : Int32)) : t_jw k N gb gd (x2 + 1).toNatClampNeg S S_48 := by
  have q2 : 0 ≤ x2.toInt ∧ x2.toInt < (u.1 908).toInt ∧ (u.1 908).toInt ≤ 12 := (by clear h_w h_S h_u h_m h_d hg ho; (try simp only [g_m1, Int32.lt_iff_toInt_lt, Int32.le_iff_toInt_le, ← Int32.toInt_inj, Int32.reduceToInt] at *); omega)
  have c2 := g_clamp x2
  have c9 := g_clamp (u.1 908)
  have e2 := (g_up (i := x2) q2.1 (by omega)).2
  have jz := t_jz hk.2.2.2.2.2 hg ho h_u h_d h_m (i := x2.toNatClampNeg) (by omega)
  rw [e2]
  subst_vars
  first | exact h_w.up hg (by omega) (jz.1 (Int32.not_le.mp (by assumption))) | exact h_w.up hg (by omega) (jz.2.1 (Int32.not_lt.mpr (by assumption)) (by assumption)) | exact h_w.up hg (by omega) (jz.2.2 (Int32.not_lt.mpr (by assumption)) (by assumption))
set_option maxRecDepth 100000 in
theorem g_X9_judgeGroup_k_v30 (u : qS) (k : qS) (P : Nat → Int32) (S : Nat → Int32) (N : Nat → Int32) (gb : Int32) (gd : Int32) (Sc : Nat → Int32) (x1 : Int32) (x2 : Int32) (uc : qS) (S_48 : Nat → Int32) (hk : CT k P u) (hQ : qFD 10 S u) (hG : qG k u N) (hg : t_g k gb gd (u.1 908).toNatClampNeg N) (ho : ∀ j : Nat, j < (u.1 908).toNatClampNeg → u.2.1 907 j = 0) (hz8 : 0 ≤ u.1 8 ∧ u.1 8 ≤ 20) (hz9 : 0 ≤ u.1 9 ∧ u.1 9 ≤ 8) (hz10 : 0 ≤ u.1 10 ∧ u.1 10 ≤ 120) (hz12 : 0 ≤ u.1 12 ∧ u.1 12 ≤ 16) (hz908 : 0 ≤ u.1 908 ∧ u.1 908 ≤ 12) (h_k : 0 ≤ x2 ∧ x2 ≤ u.1 908) (h_S : qFD 10 Sc uc) (h_9 : uc.1 902 = u.1 902) (h_u : t_ua (fun i j => t_bo k (N i) (N j)) (u.2.1 907) (uc.2.1 905) (u.1 908).toNatClampNeg) (h_m : t_mx (uc.2.1 905) x1 (u.1 908).toNatClampNeg) (h_d : t_da (fun i j => t_bo k (N i) (N j)) (uc.2.1 906) (u.1 908).toNatClampNeg 0) (h_w : t_jw k N gb gd x2.toNatClampNeg S Sc) (c16_1 : ¬ (u.1 908) ≤ (x2 : Int32)) (c35_2 : ¬ x1 ≤ (((uc.2.1 905 (x2 : Int32).toNatClampNeg) + (uc.2.1 906 (x2 : Int32).toNatClampNeg)) - 1 : Int32)) (hS_48 : S_48 = upd Sc (N (x2 : Int32).toNatClampNeg : Int32).toNatClampNeg (2 : Int32)) : ((u.1 908).toInt - (x2 + 1).toInt).toNat < ((u.1 908).toInt - x2.toInt).toNat := by
  clear h_w h_S h_u h_m h_d hg ho; (try simp only [g_m1, Int32.lt_iff_toInt_lt, Int32.le_iff_toInt_le, ← Int32.toInt_inj, Int32.toInt_add, Int32.toInt_sub, Int32.toInt_mul, Int32.toInt_neg, Int32.reduceToInt, g_bm, g_bm'] at *); omega
set_option maxRecDepth 100000 in
theorem g_X9_judgeGroup_k_v31 (u : qS) (k : qS) (P : Nat → Int32) (S : Nat → Int32) (N : Nat → Int32) (gb : Int32) (gd : Int32) (u_49 : qS) (r_51 : Int32) (u_56 : qS) (hk : CT k P u) (hQ : qFD 10 S u) (hG : qG k u N) (hg : t_g k gb gd (u.1 908).toNatClampNeg N) (ho : ∀ j : Nat, j < (u.1 908).toNatClampNeg → u.2.1 907 j = 0) (hz8 : 0 ≤ u.1 8 ∧ u.1 8 ≤ 20) (hz9 : 0 ≤ u.1 9 ∧ u.1 9 ≤ 8) (hz10 : 0 ≤ u.1 10 ∧ u.1 10 ≤ 120) (hz12 : 0 ≤ u.1 12 ∧ u.1 12 ≤ 16) (hz908 : 0 ≤ u.1 908 ∧ u.1 908 ≤ 12) (hp_54 : t_ua (fun i j => t_bo (k) ((N) i) ((N) j)) (u.2.1 907) (u_49.2.1 905) (u.1 908).toNatClampNeg) (hp_55 : t_mx (u_49.2.1 905) r_51 (u.1 908).toNatClampNeg) (hw_57 : t_da (fun i j => t_bo (k) ((N) i) ((N) j)) (u_56.2.1 906) ((u.1 908 : Int32)).toNatClampNeg 0) : 0 ≤ (0 : Int32) ∧ (0 : Int32) ≤ u.1 908 := by
  clear hg ho; (try simp only [g_m1, Int32.lt_iff_toInt_lt, Int32.le_iff_toInt_le, ← Int32.toInt_inj, Int32.reduceToInt] at *); omega
set_option maxRecDepth 100000 in
theorem g_X9_judgeGroup_k_v32 (u : qS) (k : qS) (P : Nat → Int32) (S : Nat → Int32) (N : Nat → Int32) (gb : Int32) (gd : Int32) (u_49 : qS) (r_51 : Int32) (u_56 : qS) (hk : CT k P u) (hQ : qFD 10 S u) (hG : qG k u N) (hg : t_g k gb gd (u.1 908).toNatClampNeg N) (ho : ∀ j : Nat, j < (u.1 908).toNatClampNeg → u.2.1 907 j = 0) (hz8 : 0 ≤ u.1 8 ∧ u.1 8 ≤ 20) (hz9 : 0 ≤ u.1 9 ∧ u.1 9 ≤ 8) (hz10 : 0 ≤ u.1 10 ∧ u.1 10 ≤ 120) (hz12 : 0 ≤ u.1 12 ∧ u.1 12 ≤ 16) (hz908 : 0 ≤ u.1 908 ∧ u.1 908 ≤ 12) (hp_54 : t_ua (fun i j => t_bo (k) ((N) i) ((N) j)) (u.2.1 907) (u_49.2.1 905) (u.1 908).toNatClampNeg) (hp_55 : t_mx (u_49.2.1 905) r_51 (u.1 908).toNatClampNeg) (hw_57 : t_da (fun i j => t_bo (k) ((N) i) ((N) j)) (u_56.2.1 906) ((u.1 908 : Int32)).toNatClampNeg 0) : (u.1 902 : Int32) = u.1 902 := by
  rfl
set_option maxRecDepth 100000 in
theorem g_X9_judgeGroup_k_v33 (u : qS) (k : qS) (P : Nat → Int32) (S : Nat → Int32) (N : Nat → Int32) (gb : Int32) (gd : Int32) (u_49 : qS) (r_51 : Int32) (u_56 : qS) (hk : CT k P u) (hQ : qFD 10 S u) (hG : qG k u N) (hg : t_g k gb gd (u.1 908).toNatClampNeg N) (ho : ∀ j : Nat, j < (u.1 908).toNatClampNeg → u.2.1 907 j = 0) (hz8 : 0 ≤ u.1 8 ∧ u.1 8 ≤ 20) (hz9 : 0 ≤ u.1 9 ∧ u.1 9 ≤ 8) (hz10 : 0 ≤ u.1 10 ∧ u.1 10 ≤ 120) (hz12 : 0 ≤ u.1 12 ∧ u.1 12 ≤ 16) (hz908 : 0 ≤ u.1 908 ∧ u.1 908 ≤ 12) (hp_54 : t_ua (fun i j => t_bo (k) ((N) i) ((N) j)) (u.2.1 907) (u_49.2.1 905) (u.1 908).toNatClampNeg) (hp_55 : t_mx (u_49.2.1 905) r_51 (u.1 908).toNatClampNeg) (hw_57 : t_da (fun i j => t_bo (k) ((N) i) ((N) j)) (u_56.2.1 906) ((u.1 908 : Int32)).toNatClampNeg 0) : t_ua (fun i j => t_bo k (N i) (N j)) (u.2.1 907) ((u_49.2.1 905)) (u.1 908).toNatClampNeg := by
  assumption
set_option maxRecDepth 100000 in
theorem g_X9_judgeGroup_k_v34 (u : qS) (k : qS) (P : Nat → Int32) (S : Nat → Int32) (N : Nat → Int32) (gb : Int32) (gd : Int32) (u_49 : qS) (r_51 : Int32) (u_56 : qS) (hk : CT k P u) (hQ : qFD 10 S u) (hG : qG k u N) (hg : t_g k gb gd (u.1 908).toNatClampNeg N) (ho : ∀ j : Nat, j < (u.1 908).toNatClampNeg → u.2.1 907 j = 0) (hz8 : 0 ≤ u.1 8 ∧ u.1 8 ≤ 20) (hz9 : 0 ≤ u.1 9 ∧ u.1 9 ≤ 8) (hz10 : 0 ≤ u.1 10 ∧ u.1 10 ≤ 120) (hz12 : 0 ≤ u.1 12 ∧ u.1 12 ≤ 16) (hz908 : 0 ≤ u.1 908 ∧ u.1 908 ≤ 12) (hp_54 : t_ua (fun i j => t_bo (k) ((N) i) ((N) j)) (u.2.1 907) (u_49.2.1 905) (u.1 908).toNatClampNeg) (hp_55 : t_mx (u_49.2.1 905) r_51 (u.1 908).toNatClampNeg) (hw_57 : t_da (fun i j => t_bo (k) ((N) i) ((N) j)) (u_56.2.1 906) ((u.1 908 : Int32)).toNatClampNeg 0) : t_mx ((u_49.2.1 905)) r_51 (u.1 908).toNatClampNeg := by
  assumption
set_option maxRecDepth 100000 in
theorem g_X9_judgeGroup_k_v35 (u : qS) (k : qS) (P : Nat → Int32) (S : Nat → Int32) (N : Nat → Int32) (gb : Int32) (gd : Int32) (u_49 : qS) (r_51 : Int32) (u_56 : qS) (hk : CT k P u) (hQ : qFD 10 S u) (hG : qG k u N) (hg : t_g k gb gd (u.1 908).toNatClampNeg N) (ho : ∀ j : Nat, j < (u.1 908).toNatClampNeg → u.2.1 907 j = 0) (hz8 : 0 ≤ u.1 8 ∧ u.1 8 ≤ 20) (hz9 : 0 ≤ u.1 9 ∧ u.1 9 ≤ 8) (hz10 : 0 ≤ u.1 10 ∧ u.1 10 ≤ 120) (hz12 : 0 ≤ u.1 12 ∧ u.1 12 ≤ 16) (hz908 : 0 ≤ u.1 908 ∧ u.1 908 ≤ 12) (hp_54 : t_ua (fun i j => t_bo (k) ((N) i) ((N) j)) (u.2.1 907) (u_49.2.1 905) (u.1 908).toNatClampNeg) (hp_55 : t_mx (u_49.2.1 905) r_51 (u.1 908).toNatClampNeg) (hw_57 : t_da (fun i j => t_bo (k) ((N) i) ((N) j)) (u_56.2.1 906) ((u.1 908 : Int32)).toNatClampNeg 0) : t_da (fun i j => t_bo k (N i) (N j)) ((u_56.2.1 906)) (u.1 908).toNatClampNeg 0 := by
  assumption
set_option maxRecDepth 100000 in
theorem g_X9_judgeGroup_k_v36 (u : qS) (k : qS) (P : Nat → Int32) (S : Nat → Int32) (N : Nat → Int32) (gb : Int32) (gd : Int32) (u_49 : qS) (r_51 : Int32) (u_56 : qS) (hk : CT k P u) (hQ : qFD 10 S u) (hG : qG k u N) (hg : t_g k gb gd (u.1 908).toNatClampNeg N) (ho : ∀ j : Nat, j < (u.1 908).toNatClampNeg → u.2.1 907 j = 0) (hz8 : 0 ≤ u.1 8 ∧ u.1 8 ≤ 20) (hz9 : 0 ≤ u.1 9 ∧ u.1 9 ≤ 8) (hz10 : 0 ≤ u.1 10 ∧ u.1 10 ≤ 120) (hz12 : 0 ≤ u.1 12 ∧ u.1 12 ≤ 16) (hz908 : 0 ≤ u.1 908 ∧ u.1 908 ≤ 12) (hp_54 : t_ua (fun i j => t_bo (k) ((N) i) ((N) j)) (u.2.1 907) (u_49.2.1 905) (u.1 908).toNatClampNeg) (hp_55 : t_mx (u_49.2.1 905) r_51 (u.1 908).toNatClampNeg) (hw_57 : t_da (fun i j => t_bo (k) ((N) i) ((N) j)) (u_56.2.1 906) ((u.1 908 : Int32)).toNatClampNeg 0) : t_jw k N gb gd (0 : Int32).toNatClampNeg S S := by
  exact t_jw.nil
set_option maxHeartbeats 1000000 in
set_option maxRecDepth 100000 in
theorem g_X9_judgeGroup_k (l : Launch) (E : qE) (A : Nat → Prop) (u : qS) (k : qS) (P : Nat → Int32) (S : Nat → Int32) (N : Nat → Int32) (gb : Int32) (gd : Int32) (hI : IC E u) (hk : CT k P u) (hQ : qFD 10 S u) (hG : qG k u N) (hg : t_g k gb gd (u.1 908).toNatClampNeg N) (ho : ∀ j : Nat, j < (u.1 908).toNatClampNeg → u.2.1 907 j = 0) : Met l yX9_judgeGroup (uws yX9_judgeGroup cX9_judgeGroup 3 none) (qR 5 0 0) (qPc E A 0 u [.ref (E.2.2 999)]) (qQv E A 0 (fun u1 => (qFc [902] [905, 906] [] [5010] u u1 ∧ IC E u1) ∧ (∃ S1 : Nat → Int32, qFD 10 S1 u1 ∧ (f_sw k gb gd (f_n (f_gp k gb gd) (k.1 1247).toNatClampNeg) S S1 ∧ u1.1 902 = u.1 902 + (f_all k gb gd).1)))) 0 0 A := by
  refine q_met (own := RX9) (f := 5) [.ref (E.2.2 999)] (by decide) (Nat.le_of_ble_eq_true rfl) rfl ?_
  intro p0 e0 s0 m0 bl0 me0 cd0 ls hF hr hlocks hU hS hA hl
  have hl : lv_has ls 3 [(0, .ref (E.2.2 999))] := hl
  have hz8 : 0 ≤ u.1 8 ∧ u.1 8 ≤ 20 := hI.1.s8
  have hz9 : 0 ≤ u.1 9 ∧ u.1 9 ≤ 8 := hI.1.s9
  have hz10 : 0 ≤ u.1 10 ∧ u.1 10 ≤ 120 := hI.1.s10
  have hz12 : 0 ≤ u.1 12 ∧ u.1 12 ≤ 16 := hI.1.s12
  have hz908 : 0 ≤ u.1 908 ∧ u.1 908 ≤ 12 := hI.1.s908
  have hfr : qFc [902] [905, 906] [] [5010] u u := qFc.rf
  have hST := hQ
  have main : ∀ n : Nat, (∀ (Sc : Nat → Int32) (x1 : Int32) (x2 : Int32) (uc : qS) (H : Heap) (locs : List Loc) (ls : Array Slot) (hfr : qFc [902] [905, 906] [] [5010] u uc) (hI : IC E uc) (h_k : 0 ≤ x2 ∧ x2 ≤ u.1 908) (h_S : qFD 10 Sc uc) (h_9 : uc.1 902 = u.1 902) (h_u : t_ua (fun i j => t_bo k (N i) (N j)) (u.2.1 907) (uc.2.1 905) (u.1 908).toNatClampNeg) (h_m : t_mx (uc.2.1 905) x1 (u.1 908).toNatClampNeg) (h_d : t_da (fun i j => t_bo k (N i) (N j)) (uc.2.1 906) (u.1 908).toNatClampNeg 0) (h_w : t_jw k N gb gd x2.toNatClampNeg S Sc), ((u.1 908).toInt - x2.toInt).toNat < n → qH E A 0 uc s0 H → va_S A s0.heap H locs → lv_has ls 3 [(0, .ref (E.2.2 999)), (1, .int x1), (2, .int x2)] → W p0 l e0 (qR 5 0 0) s0 m0 ([.ref (E.2.2 999)] : List Value).toArray bl0 me0 cd0 H locs 0 0 (MQ bl0 (qQv E A 0 (fun u1 => (qFc [902] [905, 906] [] [5010] u u1 ∧ IC E u1) ∧ (∃ S1 : Nat → Int32, qFD 10 S1 u1 ∧ (f_sw k gb gd (f_n (f_gp k gb gd) (k.1 1247).toNatClampNeg) S S1 ∧ u1.1 902 = u.1 902 + (f_all k gb gd).1)))) ([.ref (E.2.2 999)] : List Value).toArray s0 0 0 A) (F0 m0 11 ls [])) := by
    clear hI hfr
    intro n
    induction n with
    | zero => exact fun _ _ _ _ _ _ _ _ _ _ _ _ _ _ _ _ hmu => absurd hmu (Nat.not_lt_zero _)
    | succ n ih =>
      intro Sc x1 x2 uc H locs ls hfr hI h_k h_S h_9 h_u h_m h_d h_w hmu hU hS hl
      have hST := h_S
      refine lv_iload_n hF.1 hF.2.1 dX9_judgeGroup_11 rfl (lv_at hl 2 rfl) ?_
      refine lv_aload_n hF.1 hF.2.1 dX9_judgeGroup_12 rfl (lv_at hl 0 rfl) ?_
      refine q_get (v := .int (u.1 908)) hF hU dX9_judgeGroup_13 4 9 8 908 999 rfl rfl rfl rfl inX9 (by decide) (by decide) w_310 rfl (congrArg Value.int (hfr.1 908 (by decide))) ?_
      refine lv_icmp_ge (tgt := 80) hF.1 hF.2.1 dX9_judgeGroup_16 (by decide) (fun c16_1 => ?_) (fun c16_1 => ?_)
      · refine lv_aload_n hF.1 hF.2.1 dX9_judgeGroup_80 rfl (lv_at hl 0 rfl) ?_
        refine lv_dup hF.1 hF.2.1 dX9_judgeGroup_81 rfl ?_
        refine q_get (v := .int (uc.1 902)) hF hU dX9_judgeGroup_82 4 9 2 902 999 rfl rfl rfl rfl inX9 (by decide) (by decide) w_303 rfl rfl ?_
        refine lv_aload_n hF.1 hF.2.1 dX9_judgeGroup_85 rfl (lv_at hl 0 rfl) ?_
        refine q_get (v := .int (u.1 908)) hF hU dX9_judgeGroup_86 4 9 8 908 999 rfl rfl rfl rfl inX9 (by decide) (by decide) w_310 rfl (congrArg Value.int (hfr.1 908 (by decide))) ?_
        refine lv_iload_n hF.1 hF.2.1 dX9_judgeGroup_89 rfl (lv_at hl 1 rfl) ?_
        refine lv_isub hF.1 hF.2.1 dX9_judgeGroup_90 ?_
        refine lv_iadd hF.1 hF.2.1 dX9_judgeGroup_91 ?_
        refine q_put hF hU hS dX9_judgeGroup_92 4 9 2 902 999 rfl rfl rfl rfl inX9 tyX9 tyX9_ok nmX9 (by decide) (by decide) rfl w_303 rfl rfl rfl rfl (fun H locs hU hS => ?_)
        have hfr : qFc [902] [905, 906] [] [5010] u (qsI uc 902 ((uc.1 902) + ((u.1 908) - x1))) := hfr.setI (by decide) (fun q => absurd q (by decide))
        have hI : IC E (qsI uc 902 ((uc.1 902) + ((u.1 908) - x1))) := hI.sI (by decide)
        have hST : qFD 10 Sc (qsI uc 902 ((uc.1 902) + ((u.1 908) - x1))) := hST.sI (by decide)
        exact q_vret hF hr hlocks hU hS dX9_judgeGroup_95 ⟨⟨hfr, hI⟩, ⟨Sc, hST, (g_X9_judgeGroup_k_v0 u k P S N gb gd Sc x1 x2 uc hk hQ hG hg ho hz8 hz9 hz10 hz12 hz908 h_k h_S h_9 h_u h_m h_d h_w c16_1)⟩⟩
      · refine lv_aload_n hF.1 hF.2.1 dX9_judgeGroup_19 rfl (lv_at hl 0 rfl) ?_
        refine q_get (v := .ref (E.2.2 905)) hF hU dX9_judgeGroup_20 4 9 5 905 999 rfl rfl rfl rfl inX9 (by decide) (by decide) w_307 rfl rfl ?_
        refine lv_iload_n hF.1 hF.2.1 dX9_judgeGroup_23 rfl (lv_at hl 2 rfl) ?_
        refine q_iald (v := uc.2.1 905 (x2 : Int32).toNatClampNeg) hF hU dX9_judgeGroup_24 12 905 rfl rfl (g_X9_judgeGroup_k_v1 u k P S N gb gd Sc x1 x2 uc hk hQ hG hg ho hz8 hz9 hz10 hz12 hz908 h_k h_S h_9 h_u h_m h_d h_w c16_1) rfl ?_
        refine lv_aload_n hF.1 hF.2.1 dX9_judgeGroup_25 rfl (lv_at hl 0 rfl) ?_
        refine q_get (v := .ref (E.2.2 906)) hF hU dX9_judgeGroup_26 4 9 6 906 999 rfl rfl rfl rfl inX9 (by decide) (by decide) w_308 rfl rfl ?_
        refine lv_iload_n hF.1 hF.2.1 dX9_judgeGroup_29 rfl (lv_at hl 2 rfl) ?_
        refine q_iald (v := uc.2.1 906 (x2 : Int32).toNatClampNeg) hF hU dX9_judgeGroup_30 13 906 rfl rfl (g_X9_judgeGroup_k_v2 u k P S N gb gd Sc x1 x2 uc hk hQ hG hg ho hz8 hz9 hz10 hz12 hz908 h_k h_S h_9 h_u h_m h_d h_w c16_1) rfl ?_
        refine lv_iadd hF.1 hF.2.1 dX9_judgeGroup_31 ?_
        refine lv_iconst (v := 1) hF.1 hF.2.1 dX9_judgeGroup_32 (by decide) ?_
        refine lv_isub hF.1 hF.2.1 dX9_judgeGroup_33 ?_
        refine lv_iload_n hF.1 hF.2.1 dX9_judgeGroup_34 rfl (lv_at hl 1 rfl) ?_
        refine lv_icmp_ge (tgt := 51) hF.1 hF.2.1 dX9_judgeGroup_35 (by decide) (fun c35_2 => ?_) (fun c35_2 => ?_)
        · refine lv_aload_n hF.1 hF.2.1 dX9_judgeGroup_51 rfl (lv_at hl 0 rfl) ?_
          refine q_get (v := .ref (E.2.2 904)) hF hU dX9_judgeGroup_52 4 9 4 904 999 rfl rfl rfl rfl inX9 (by decide) (by decide) w_306 rfl rfl ?_
          refine lv_iload_n hF.1 hF.2.1 dX9_judgeGroup_55 rfl (lv_at hl 2 rfl) ?_
          obtain ⟨a_3, ha_3_4_e, ha_3_4⟩ := hI.r904 x2 (by rw [(hfr.1 908 (by decide))]; exact (g_X9_judgeGroup_k_v3 u k P S N gb gd Sc x1 x2 uc hk hQ hG hg ho hz8 hz9 hz10 hz12 hz908 h_k h_S h_9 h_u h_m h_d h_w c16_1 c35_2))
          refine q_aald (v := .ref a_3) hF hU dX9_judgeGroup_56 11 904 6 rfl rfl (by decide) rfl (g_X9_judgeGroup_k_v4 u k P S N gb gd Sc x1 x2 uc hk hQ hG hg ho hz8 hz9 hz10 hz12 hz908 h_k h_S h_9 h_u h_m h_d h_w c16_1 c35_2) (by rw [ha_3_4_e]; rfl) ?_
          have hK_5 : qKn k uc a_3 (N (x2 : Int32).toNatClampNeg) := (hG.fr hfr (by decide) (by decide)) x2 ((by rw [(hfr.1 908 (by decide))]; exact (g_X9_judgeGroup_k_v5 u k P S N gb gd Sc x1 x2 uc hk hQ hG hg ho hz8 hz9 hz10 hz12 hz908 h_k h_S h_9 h_u h_m h_d h_w c16_1 c35_2)) : 0 ≤ x2 ∧ x2 < uc.1 908).1 ((by rw [(hfr.1 908 (by decide))]; exact (g_X9_judgeGroup_k_v5 u k P S N gb gd Sc x1 x2 uc hk hQ hG hg ho hz8 hz9 hz10 hz12 hz908 h_k h_S h_9 h_u h_m h_d h_w c16_1 c35_2)) : 0 ≤ x2 ∧ x2 < uc.1 908).2 _ ha_3_4_e
          refine lv_aload_n hF.1 hF.2.1 dX9_judgeGroup_57 rfl (lv_at hl 0 rfl) ?_
          refine lv_iload_n hF.1 hF.2.1 dX9_judgeGroup_58 rfl (lv_at hl 2 rfl) ?_
          refine lv_iload_n hF.1 hF.2.1 dX9_judgeGroup_59 rfl (lv_at hl 1 rfl) ?_
          have hM9 := g_X9_isNeeded_k l E A uc x2 x1 hI (by rw [(hfr.1 908 (by decide))]; exact (g_X9_judgeGroup_k_v6 u k P S N gb gd Sc x1 x2 uc hk hQ hG hg ho hz8 hz9 hz10 hz12 hz908 h_k h_S h_9 h_u h_m h_d h_w c16_1 c35_2))
          have hR9 := q_runV (l := l) (e := e0) (below := bl0) (meth := me0) (R := qR 5 0 0) (cells := 0) (slots := 0) (st0 := [.int x1, .int x2, .ref (E.2.2 999), .ref a_3]) (rest := [.ref a_3]) hF hU hS hA 2 4 9 999 rfl rfl rfl hM9 w_894 w_896 w_22 w_103 w_897 (by decide +kernel) ⟨Nat.le_of_ble_eq_true rfl, Nat.le_of_ble_eq_true rfl⟩ dX9_judgeGroup_60 rfl hl.1 rfl (Nat.le_of_ble_eq_true rfl) ⟨Nat.le_of_ble_eq_true rfl, Nat.le_of_ble_eq_true rfl⟩
          refine q_calli hR9 hU.2.2.2 hS (fun r_8 u_6 H locs hw_7 hU hS => ?_)
          obtain ⟨hw_7_e, hw_7⟩ := hw_7
          rw [hw_7_e] at hU
          have hw_7 : (r_8 = 1 ∧ (t_nd ((uc.2.1 905)) ((uc.2.1 906)) ((u.1 908 : Int32)).toNatClampNeg x2.toNatClampNeg x1)) ∨ (r_8 = 0 ∧ (¬ (t_nd ((uc.2.1 905)) ((uc.2.1 906)) ((u.1 908 : Int32)).toNatClampNeg x2.toNatClampNeg x1))) := by rw [(hfr.1 908 (by decide))] at hw_7; exact hw_7
          rcases hw_7 with ⟨rfl, b60_9⟩ | ⟨rfl, b60_9⟩
          · refine lv_if_eq (tgt := 70) hF.1 hF.2.1 dX9_judgeGroup_63 (by decide) (fun h9 => absurd h9 (by decide)) (fun _ => ?_)
            refine lv_iconst (v := 0) hF.1 hF.2.1 dX9_judgeGroup_66 (by decide) ?_
            refine lv_goto (tgt := 71) hF.1 hF.2.1 dX9_judgeGroup_67 (by decide) ?_
            have hDi := q_di hU
            obtain ⟨k_10, fs_11, x_12, hd_13, hv_14, -, -, hv_14_l⟩ := hI.v ((ha_3_4).rf) 10 (by decide)
            have hp_17 := hI.vput (j := 10) (x := 0) hd_13 (by decide) (fun q => absurd q (by decide)) (fun q => absurd q (by decide))
            refine q_putd hF hU hS dX9_judgeGroup_71 k_10 10 10 hd_13 rfl inX10 tyX10 tyX10_ok nmX10 (by decide) w_621 rfl (Or.inl rfl) rfl rfl (by rw [hv_14_l]; decide) (fun u_15 H locs hu_16 _ hU hS => ?_)
            rw [← hu_16] at hp_17
            have hI := hp_17.1
            have hp_17_f := hp_17.2 [] [] [] [5010] (by decide)
            have hfo := hfr
            have hfr : qFc [902] [905, 906] [] [5010] u u_15 := hfr.trans (hp_17_f.mono (by decide) (by decide) (by decide) (by decide))
            have e_18 : u_15.1 902 = (uc.1 902) := (hp_17_f.1 902 (by decide)).trans rfl
            have e_19 : u_15.2.1 905 = (uc.2.1 905) := (hp_17_f.2.1 905 (by decide)).trans rfl
            have e_20 : u_15.2.1 906 = (uc.2.1 906) := (hp_17_f.2.1 906 (by decide)).trans rfl
            obtain ⟨S_21, hS_21⟩ : ∃ zz9 : Nat → Int32, zz9 = upd Sc (N (x2 : Int32).toNatClampNeg : Int32).toNatClampNeg (0 : Int32) := ⟨_, rfl⟩
            have hST : qFD 10 S_21 u_15 := by rw [hS_21, hu_16]; exact hST.put hDi hK_5.nm hd_13 (by decide)
            refine lv_iinc (v := x2 + 1) (lv' := [(2, .int (x2 + 1)), (0, .ref (E.2.2 999)), (1, .int x1)]) hF.1 hF.2.1 dX9_judgeGroup_74 hl (k := 2) rfl rfl (by decide) rfl (fun ls hl => ?_)
            refine lv_goto (tgt := 11) hF.1 hF.2.1 dX9_judgeGroup_77 (by decide) ?_
            exact ih S_21 x1 (x2 + 1) u_15 _ _ _ hfr hI  (g_X9_judgeGroup_k_v7 u k P S N gb gd Sc x1 x2 uc S_21 hk hQ hG hg ho hz8 hz9 hz10 hz12 hz908 h_k h_S h_9 h_u h_m h_d h_w c16_1 c35_2 b60_9 hS_21) hST (by rw [show (u_15).1 902 = (uc.1 902) from e_18]; exact (g_X9_judgeGroup_k_v8 u k P S N gb gd Sc x1 x2 uc S_21 hk hQ hG hg ho hz8 hz9 hz10 hz12 hz908 h_k h_S h_9 h_u h_m h_d h_w c16_1 c35_2 b60_9 hS_21)) (by rw [show (u_15).2.1 905 = (uc.2.1 905) from e_19]; exact (g_X9_judgeGroup_k_v9 u k P S N gb gd Sc x1 x2 uc S_21 hk hQ hG hg ho hz8 hz9 hz10 hz12 hz908 h_k h_S h_9 h_u h_m h_d h_w c16_1 c35_2 b60_9 hS_21)) (by rw [show (u_15).2.1 905 = (uc.2.1 905) from e_19]; exact (g_X9_judgeGroup_k_v10 u k P S N gb gd Sc x1 x2 uc S_21 hk hQ hG hg ho hz8 hz9 hz10 hz12 hz908 h_k h_S h_9 h_u h_m h_d h_w c16_1 c35_2 b60_9 hS_21)) (by rw [show (u_15).2.1 906 = (uc.2.1 906) from e_20]; exact (g_X9_judgeGroup_k_v11 u k P S N gb gd Sc x1 x2 uc S_21 hk hQ hG hg ho hz8 hz9 hz10 hz12 hz908 h_k h_S h_9 h_u h_m h_d h_w c16_1 c35_2 b60_9 hS_21)) (g_X9_judgeGroup_k_v12 u k P S N gb gd Sc x1 x2 uc S_21 hk hQ hG hg ho hz8 hz9 hz10 hz12 hz908 h_k h_S h_9 h_u h_m h_d h_w c16_1 c35_2 b60_9 hS_21) (Nat.lt_of_lt_of_le (g_X9_judgeGroup_k_v13 u k P S N gb gd Sc x1 x2 uc S_21 hk hQ hG hg ho hz8 hz9 hz10 hz12 hz908 h_k h_S h_9 h_u h_m h_d h_w c16_1 c35_2 b60_9 hS_21) (Nat.lt_succ_iff.mp hmu)) hU hS (lv_sub hl [1, 2, 0] rfl)
          · refine lv_if_eq (tgt := 70) hF.1 hF.2.1 dX9_judgeGroup_63 (by decide) (fun _ => ?_) (fun h9 => absurd (by decide) h9)
            refine lv_iconst (v := 3) hF.1 hF.2.1 dX9_judgeGroup_70 (by decide) ?_
            have hDi := q_di hU
            obtain ⟨k_22, fs_23, x_24, hd_25, hv_26, -, -, hv_26_l⟩ := hI.v ((ha_3_4).rf) 10 (by decide)
            have hp_29 := hI.vput (j := 10) (x := 3) hd_25 (by decide) (fun q => absurd q (by decide)) (fun q => absurd q (by decide))
            refine q_putd hF hU hS dX9_judgeGroup_71 k_22 10 10 hd_25 rfl inX10 tyX10 tyX10_ok nmX10 (by decide) w_621 rfl (Or.inl rfl) rfl rfl (by rw [hv_26_l]; decide) (fun u_27 H locs hu_28 _ hU hS => ?_)
            rw [← hu_28] at hp_29
            have hI := hp_29.1
            have hp_29_f := hp_29.2 [] [] [] [5010] (by decide)
            have hfo := hfr
            have hfr : qFc [902] [905, 906] [] [5010] u u_27 := hfr.trans (hp_29_f.mono (by decide) (by decide) (by decide) (by decide))
            have e_30 : u_27.1 902 = (uc.1 902) := (hp_29_f.1 902 (by decide)).trans rfl
            have e_31 : u_27.2.1 905 = (uc.2.1 905) := (hp_29_f.2.1 905 (by decide)).trans rfl
            have e_32 : u_27.2.1 906 = (uc.2.1 906) := (hp_29_f.2.1 906 (by decide)).trans rfl
            obtain ⟨S_33, hS_33⟩ : ∃ zz9 : Nat → Int32, zz9 = upd Sc (N (x2 : Int32).toNatClampNeg : Int32).toNatClampNeg (3 : Int32) := ⟨_, rfl⟩
            have hST : qFD 10 S_33 u_27 := by rw [hS_33, hu_28]; exact hST.put hDi hK_5.nm hd_25 (by decide)
            refine lv_iinc (v := x2 + 1) (lv' := [(2, .int (x2 + 1)), (0, .ref (E.2.2 999)), (1, .int x1)]) hF.1 hF.2.1 dX9_judgeGroup_74 hl (k := 2) rfl rfl (by decide) rfl (fun ls hl => ?_)
            refine lv_goto (tgt := 11) hF.1 hF.2.1 dX9_judgeGroup_77 (by decide) ?_
            exact ih S_33 x1 (x2 + 1) u_27 _ _ _ hfr hI  (g_X9_judgeGroup_k_v14 u k P S N gb gd Sc x1 x2 uc S_33 hk hQ hG hg ho hz8 hz9 hz10 hz12 hz908 h_k h_S h_9 h_u h_m h_d h_w c16_1 c35_2 b60_9 hS_33) hST (by rw [show (u_27).1 902 = (uc.1 902) from e_30]; exact (g_X9_judgeGroup_k_v15 u k P S N gb gd Sc x1 x2 uc S_33 hk hQ hG hg ho hz8 hz9 hz10 hz12 hz908 h_k h_S h_9 h_u h_m h_d h_w c16_1 c35_2 b60_9 hS_33)) (by rw [show (u_27).2.1 905 = (uc.2.1 905) from e_31]; exact (g_X9_judgeGroup_k_v16 u k P S N gb gd Sc x1 x2 uc S_33 hk hQ hG hg ho hz8 hz9 hz10 hz12 hz908 h_k h_S h_9 h_u h_m h_d h_w c16_1 c35_2 b60_9 hS_33)) (by rw [show (u_27).2.1 905 = (uc.2.1 905) from e_31]; exact (g_X9_judgeGroup_k_v17 u k P S N gb gd Sc x1 x2 uc S_33 hk hQ hG hg ho hz8 hz9 hz10 hz12 hz908 h_k h_S h_9 h_u h_m h_d h_w c16_1 c35_2 b60_9 hS_33)) (by rw [show (u_27).2.1 906 = (uc.2.1 906) from e_32]; exact (g_X9_judgeGroup_k_v18 u k P S N gb gd Sc x1 x2 uc S_33 hk hQ hG hg ho hz8 hz9 hz10 hz12 hz908 h_k h_S h_9 h_u h_m h_d h_w c16_1 c35_2 b60_9 hS_33)) (g_X9_judgeGroup_k_v19 u k P S N gb gd Sc x1 x2 uc S_33 hk hQ hG hg ho hz8 hz9 hz10 hz12 hz908 h_k h_S h_9 h_u h_m h_d h_w c16_1 c35_2 b60_9 hS_33) (Nat.lt_of_lt_of_le (g_X9_judgeGroup_k_v20 u k P S N gb gd Sc x1 x2 uc S_33 hk hQ hG hg ho hz8 hz9 hz10 hz12 hz908 h_k h_S h_9 h_u h_m h_d h_w c16_1 c35_2 b60_9 hS_33) (Nat.lt_succ_iff.mp hmu)) hU hS (lv_sub hl [1, 2, 0] rfl)
        · refine lv_aload_n hF.1 hF.2.1 dX9_judgeGroup_38 rfl (lv_at hl 0 rfl) ?_
          refine q_get (v := .ref (E.2.2 904)) hF hU dX9_judgeGroup_39 4 9 4 904 999 rfl rfl rfl rfl inX9 (by decide) (by decide) w_306 rfl rfl ?_
          refine lv_iload_n hF.1 hF.2.1 dX9_judgeGroup_42 rfl (lv_at hl 2 rfl) ?_
          obtain ⟨a_34, ha_34_35_e, ha_34_35⟩ := hI.r904 x2 (by rw [(hfr.1 908 (by decide))]; exact (g_X9_judgeGroup_k_v21 u k P S N gb gd Sc x1 x2 uc hk hQ hG hg ho hz8 hz9 hz10 hz12 hz908 h_k h_S h_9 h_u h_m h_d h_w c16_1 c35_2))
          refine q_aald (v := .ref a_34) hF hU dX9_judgeGroup_43 11 904 6 rfl rfl (by decide) rfl (g_X9_judgeGroup_k_v22 u k P S N gb gd Sc x1 x2 uc hk hQ hG hg ho hz8 hz9 hz10 hz12 hz908 h_k h_S h_9 h_u h_m h_d h_w c16_1 c35_2) (by rw [ha_34_35_e]; rfl) ?_
          have hK_36 : qKn k uc a_34 (N (x2 : Int32).toNatClampNeg) := (hG.fr hfr (by decide) (by decide)) x2 ((by rw [(hfr.1 908 (by decide))]; exact (g_X9_judgeGroup_k_v23 u k P S N gb gd Sc x1 x2 uc hk hQ hG hg ho hz8 hz9 hz10 hz12 hz908 h_k h_S h_9 h_u h_m h_d h_w c16_1 c35_2)) : 0 ≤ x2 ∧ x2 < uc.1 908).1 ((by rw [(hfr.1 908 (by decide))]; exact (g_X9_judgeGroup_k_v23 u k P S N gb gd Sc x1 x2 uc hk hQ hG hg ho hz8 hz9 hz10 hz12 hz908 h_k h_S h_9 h_u h_m h_d h_w c16_1 c35_2)) : 0 ≤ x2 ∧ x2 < uc.1 908).2 _ ha_34_35_e
          refine lv_iconst (v := 2) hF.1 hF.2.1 dX9_judgeGroup_44 (by decide) ?_
          have hDi := q_di hU
          obtain ⟨k_37, fs_38, x_39, hd_40, hv_41, -, -, hv_41_l⟩ := hI.v ((ha_34_35).rf) 10 (by decide)
          have hp_44 := hI.vput (j := 10) (x := 2) hd_40 (by decide) (fun q => absurd q (by decide)) (fun q => absurd q (by decide))
          refine q_putd hF hU hS dX9_judgeGroup_45 k_37 10 10 hd_40 rfl inX10 tyX10 tyX10_ok nmX10 (by decide) w_621 rfl (Or.inl rfl) rfl rfl (by rw [hv_41_l]; decide) (fun u_42 H locs hu_43 _ hU hS => ?_)
          rw [← hu_43] at hp_44
          have hI := hp_44.1
          have hp_44_f := hp_44.2 [] [] [] [5010] (by decide)
          have hfo := hfr
          have hfr : qFc [902] [905, 906] [] [5010] u u_42 := hfr.trans (hp_44_f.mono (by decide) (by decide) (by decide) (by decide))
          have e_45 : u_42.1 902 = (uc.1 902) := (hp_44_f.1 902 (by decide)).trans rfl
          have e_46 : u_42.2.1 905 = (uc.2.1 905) := (hp_44_f.2.1 905 (by decide)).trans rfl
          have e_47 : u_42.2.1 906 = (uc.2.1 906) := (hp_44_f.2.1 906 (by decide)).trans rfl
          obtain ⟨S_48, hS_48⟩ : ∃ zz9 : Nat → Int32, zz9 = upd Sc (N (x2 : Int32).toNatClampNeg : Int32).toNatClampNeg (2 : Int32) := ⟨_, rfl⟩
          have hST : qFD 10 S_48 u_42 := by rw [hS_48, hu_43]; exact hST.put hDi hK_36.nm hd_40 (by decide)
          refine lv_goto (tgt := 74) hF.1 hF.2.1 dX9_judgeGroup_48 (by decide) ?_
          refine lv_iinc (v := x2 + 1) (lv' := [(2, .int (x2 + 1)), (0, .ref (E.2.2 999)), (1, .int x1)]) hF.1 hF.2.1 dX9_judgeGroup_74 hl (k := 2) rfl rfl (by decide) rfl (fun ls hl => ?_)
          refine lv_goto (tgt := 11) hF.1 hF.2.1 dX9_judgeGroup_77 (by decide) ?_
          exact ih S_48 x1 (x2 + 1) u_42 _ _ _ hfr hI  (g_X9_judgeGroup_k_v24 u k P S N gb gd Sc x1 x2 uc S_48 hk hQ hG hg ho hz8 hz9 hz10 hz12 hz908 h_k h_S h_9 h_u h_m h_d h_w c16_1 c35_2 hS_48) hST (by rw [show (u_42).1 902 = (uc.1 902) from e_45]; exact (g_X9_judgeGroup_k_v25 u k P S N gb gd Sc x1 x2 uc S_48 hk hQ hG hg ho hz8 hz9 hz10 hz12 hz908 h_k h_S h_9 h_u h_m h_d h_w c16_1 c35_2 hS_48)) (by rw [show (u_42).2.1 905 = (uc.2.1 905) from e_46]; exact (g_X9_judgeGroup_k_v26 u k P S N gb gd Sc x1 x2 uc S_48 hk hQ hG hg ho hz8 hz9 hz10 hz12 hz908 h_k h_S h_9 h_u h_m h_d h_w c16_1 c35_2 hS_48)) (by rw [show (u_42).2.1 905 = (uc.2.1 905) from e_46]; exact (g_X9_judgeGroup_k_v27 u k P S N gb gd Sc x1 x2 uc S_48 hk hQ hG hg ho hz8 hz9 hz10 hz12 hz908 h_k h_S h_9 h_u h_m h_d h_w c16_1 c35_2 hS_48)) (by rw [show (u_42).2.1 906 = (uc.2.1 906) from e_47]; exact (g_X9_judgeGroup_k_v28 u k P S N gb gd Sc x1 x2 uc S_48 hk hQ hG hg ho hz8 hz9 hz10 hz12 hz908 h_k h_S h_9 h_u h_m h_d h_w c16_1 c35_2 hS_48)) (g_X9_judgeGroup_k_v29 u k P S N gb gd Sc x1 x2 uc S_48 hk hQ hG hg ho hz8 hz9 hz10 hz12 hz908 h_k h_S h_9 h_u h_m h_d h_w c16_1 c35_2 hS_48) (Nat.lt_of_lt_of_le (g_X9_judgeGroup_k_v30 u k P S N gb gd Sc x1 x2 uc S_48 hk hQ hG hg ho hz8 hz9 hz10 hz12 hz908 h_k h_S h_9 h_u h_m h_d h_w c16_1 c35_2 hS_48) (Nat.lt_succ_iff.mp hmu)) hU hS (lv_sub hl [1, 2, 0] rfl)
  refine lv_aload_n hF.1 hF.2.1 dX9_judgeGroup_0 rfl (lv_at hl 0 rfl) ?_
  have hM9 := g_X9_longestUp_k l E A u k P N hI hk hG
  have hR9 := q_runV (l := l) (e := e0) (below := bl0) (meth := me0) (R := qR 5 0 0) (cells := 0) (slots := 0) (st0 := [.ref (E.2.2 999)]) (rest := []) hF hU hS hA 0 4 9 999 rfl rfl rfl hM9 w_872 w_874 w_19 w_103 w_875 (by decide +kernel) ⟨Nat.le_of_ble_eq_true rfl, Nat.le_of_ble_eq_true rfl⟩ dX9_judgeGroup_1 rfl hl.1 rfl (Nat.le_of_ble_eq_true rfl) ⟨Nat.le_of_ble_eq_true rfl, Nat.le_of_ble_eq_true rfl⟩
  refine q_calli hR9 hU.2.2.2 hS (fun r_51 u_49 H locs hw_50 hU hS => ?_)
  obtain ⟨⟨hw_50_f, hI, hw_50_d⟩, hw_50⟩ := hw_50
  have hfo := hfr
  have hfr : qFc [902] [905, 906] [] [5010] u u_49 := hfr.trans (hw_50_f.mono (by decide) (by decide) (by decide) (by decide))
  have e_52 : u_49.1 902 = (u.1 902) := (hw_50_f.1 902 (by decide)).trans rfl
  have e_53 : u_49.2.1 906 = (u.2.1 906) := (hw_50_f.2.1 906 (by decide)).trans rfl
  have hST : qFD 10 S u_49 := hST.fr hw_50_f (by decide) (by decide) (by decide) (by decide) (by decide)
  have hw_50 : t_ua (fun i j => t_bo (k) ((N) i) ((N) j)) (u.2.1 907) (u_49.2.1 905) (u.1 908).toNatClampNeg ∧ t_mx (u_49.2.1 905) r_51 (u.1 908).toNatClampNeg := hw_50
  have hp_54 : t_ua (fun i j => t_bo (k) ((N) i) ((N) j)) (u.2.1 907) (u_49.2.1 905) (u.1 908).toNatClampNeg := hw_50.1
  have hp_55 : t_mx (u_49.2.1 905) r_51 (u.1 908).toNatClampNeg := hw_50.2
  refine lv_istore_n (lv' := [(1, .int r_51), (0, .ref (E.2.2 999))]) hF.1 hF.2.1 dX9_judgeGroup_4 rfl hl (by decide) rfl (fun ls hl => ?_)
  refine lv_aload_n hF.1 hF.2.1 dX9_judgeGroup_5 rfl (lv_at hl 1 rfl) ?_
  have hM9 := g_X9_workDown_k l E A u_49 k P N hI (hk.fr hfr (by decide) (by decide)) (hG.fr hfr (by decide) (by decide))
  have hR9 := q_runV (l := l) (e := e0) (below := bl0) (meth := me0) (R := qR 5 0 0) (cells := 0) (slots := 0) (st0 := [.ref (E.2.2 999)]) (rest := []) hF hU hS hA 0 4 9 999 rfl rfl rfl hM9 w_890 w_892 w_21 w_103 w_893 (by decide +kernel) ⟨Nat.le_of_ble_eq_true rfl, Nat.le_of_ble_eq_true rfl⟩ dX9_judgeGroup_6 rfl hl.1 rfl (Nat.le_of_ble_eq_true rfl) ⟨Nat.le_of_ble_eq_true rfl, Nat.le_of_ble_eq_true rfl⟩
  refine q_callv hR9 hU.2.2.2 hS (fun u_56 H locs hw_57 hU hS => ?_)
  obtain ⟨⟨hw_57_f, hI, hw_57_d⟩, hw_57⟩ := hw_57
  have hfo := hfr
  have hfr : qFc [902] [905, 906] [] [5010] u u_56 := hfr.trans (hw_57_f.mono (by decide) (by decide) (by decide) (by decide))
  have e_59 : u_56.1 902 = (u.1 902) := (hw_57_f.1 902 (by decide)).trans e_52
  have e_60 : u_56.2.1 905 = (u_49.2.1 905) := (hw_57_f.2.1 905 (by decide)).trans rfl
  have hST : qFD 10 S u_56 := hST.fr hw_57_f (by decide) (by decide) (by decide) (by decide) (by decide)
  have hw_57 : t_da (fun i j => t_bo (k) ((N) i) ((N) j)) (u_56.2.1 906) ((u.1 908 : Int32)).toNatClampNeg 0 := by rw [(hfo.1 908 (by decide))] at hw_57; exact hw_57
  refine lv_iconst (v := 0) hF.1 hF.2.1 dX9_judgeGroup_9 (by decide) ?_
  refine lv_istore_n (lv' := [(2, .int 0), (1, .int r_51), (0, .ref (E.2.2 999))]) hF.1 hF.2.1 dX9_judgeGroup_10 rfl hl (by decide) rfl (fun ls hl => ?_)
  exact (main _) S r_51 (0 : Int32) u_56 _ _ _ hfr hI  (g_X9_judgeGroup_k_v31 u k P S N gb gd u_49 r_51 u_56 hk hQ hG hg ho hz8 hz9 hz10 hz12 hz908 hp_54 hp_55 hw_57) hST (by rw [show (u_56).1 902 = (u.1 902) from e_59]; first | done | exact (g_X9_judgeGroup_k_v32 u k P S N gb gd u_49 r_51 u_56 hk hQ hG hg ho hz8 hz9 hz10 hz12 hz908 hp_54 hp_55 hw_57)) (by rw [show (u_56).2.1 905 = (u_49.2.1 905) from e_60]; exact (g_X9_judgeGroup_k_v33 u k P S N gb gd u_49 r_51 u_56 hk hQ hG hg ho hz8 hz9 hz10 hz12 hz908 hp_54 hp_55 hw_57)) (by rw [show (u_56).2.1 905 = (u_49.2.1 905) from e_60]; exact (g_X9_judgeGroup_k_v34 u k P S N gb gd u_49 r_51 u_56 hk hQ hG hg ho hz8 hz9 hz10 hz12 hz908 hp_54 hp_55 hw_57)) (g_X9_judgeGroup_k_v35 u k P S N gb gd u_49 r_51 u_56 hk hQ hG hg ho hz8 hz9 hz10 hz12 hz908 hp_54 hp_55 hw_57) (g_X9_judgeGroup_k_v36 u k P S N gb gd u_49 r_51 u_56 hk hQ hG hg ho hz8 hz9 hz10 hz12 hz908 hp_54 hp_55 hw_57) (Nat.lt_succ_self _) hU hS (lv_sub hl [2, 1, 0] rfl)
set_option maxRecDepth 100000 in
theorem g_X9_refresh_k_v0 (u : qS) (k : qS) (P : Nat → Int32) (Sc : Nat → Int32) (x1 : Int32) (uc : qS) (hk : CT k P u) (hc1 : t_c1 k u) (hz8 : 0 ≤ u.1 8 ∧ u.1 8 ≤ 20) (hz9 : 0 ≤ u.1 9 ∧ u.1 9 ≤ 8) (hz10 : 0 ≤ u.1 10 ∧ u.1 10 ≤ 120) (hz12 : 0 ≤ u.1 12 ∧ u.1 12 ≤ 16) (h_k : 0 ≤ x1 ∧ x1 ≤ u.1 10) (h_S : qFD 10 Sc uc) (h_e : uc.1 909 = u.1 18) (h_w : t_rf k P Sc x1.toNatClampNeg) (c45_1 : (u.1 10) ≤ (x1 : Int32)) : f_fi k Sc ∧ (uc.1 909 : Int32) = u.1 18 := by
  first
  | exact ⟨hfi9, by assumption⟩
  | (have e : x1 = u.1 10 := Int32.toInt_inj.mp (by clear h_w h_S; (try simp only [g_m1, Int32.lt_iff_toInt_lt, Int32.le_iff_toInt_le, ← Int32.toInt_inj, Int32.reduceToInt] at *); omega)
     rw [e, hk.1.1] at h_w; exact ⟨h_w.all hk.2.2.2.2.1, h_e⟩)
set_option maxRecDepth 100000 in
theorem g_X9_refresh_k_v1 (u : qS) (k : qS) (P : Nat → Int32) (Sc : Nat → Int32) (x1 : Int32) (uc : qS) (hk : CT k P u) (hc1 : t_c1 k u) (hz8 : 0 ≤ u.1 8 ∧ u.1 8 ≤ 20) (hz9 : 0 ≤ u.1 9 ∧ u.1 9 ≤ 8) (hz10 : 0 ≤ u.1 10 ∧ u.1 10 ≤ 120) (hz12 : 0 ≤ u.1 12 ∧ u.1 12 ≤ 16) (h_k : 0 ≤ x1 ∧ x1 ≤ u.1 10) (h_S : qFD 10 Sc uc) (h_e : uc.1 909 = u.1 18) (h_w : t_rf k P Sc x1.toNatClampNeg) (c45_1 : ¬ (u.1 10) ≤ (x1 : Int32)) : 0 ≤ x1 ∧ x1 < (u.1 10) := by
  clear h_w h_S; (try simp only [g_m1, Int32.lt_iff_toInt_lt, Int32.le_iff_toInt_le, ← Int32.toInt_inj, Int32.reduceToInt] at *); omega
set_option maxRecDepth 100000 in
theorem g_X9_refresh_k_v2 (u : qS) (k : qS) (P : Nat → Int32) (Sc : Nat → Int32) (x1 : Int32) (uc : qS) (hk : CT k P u) (hc1 : t_c1 k u) (hz8 : 0 ≤ u.1 8 ∧ u.1 8 ≤ 20) (hz9 : 0 ≤ u.1 9 ∧ u.1 9 ≤ 8) (hz10 : 0 ≤ u.1 10 ∧ u.1 10 ≤ 120) (hz12 : 0 ≤ u.1 12 ∧ u.1 12 ≤ 16) (h_k : 0 ≤ x1 ∧ x1 ≤ u.1 10) (h_S : qFD 10 Sc uc) (h_e : uc.1 909 = u.1 18) (h_w : t_rf k P Sc x1.toNatClampNeg) (c45_1 : ¬ (u.1 10) ≤ (x1 : Int32)) : vp_in (x1) 120 := by
  clear h_w h_S; refine g_in ?_ ?_ <;> ((try simp only [g_m1, Int32.lt_iff_toInt_lt, Int32.le_iff_toInt_le, ← Int32.toInt_inj, Int32.reduceToInt] at *); omega)
set_option maxRecDepth 100000 in
theorem g_X9_refresh_k_v3 (u : qS) (k : qS) (P : Nat → Int32) (Sc : Nat → Int32) (x1 : Int32) (uc : qS) (hk : CT k P u) (hc1 : t_c1 k u) (hz8 : 0 ≤ u.1 8 ∧ u.1 8 ≤ 20) (hz9 : 0 ≤ u.1 9 ∧ u.1 9 ≤ 8) (hz10 : 0 ≤ u.1 10 ∧ u.1 10 ≤ 120) (hz12 : 0 ≤ u.1 12 ∧ u.1 12 ≤ 16) (h_k : 0 ≤ x1 ∧ x1 ≤ u.1 10) (h_S : qFD 10 Sc uc) (h_e : uc.1 909 = u.1 18) (h_w : t_rf k P Sc x1.toNatClampNeg) (c45_1 : ¬ (u.1 10) ≤ (x1 : Int32)) : 0 ≤ x1 ∧ x1 < (u.1 10) := by
  clear h_w h_S; (try simp only [g_m1, Int32.lt_iff_toInt_lt, Int32.le_iff_toInt_le, ← Int32.toInt_inj, Int32.reduceToInt] at *); omega
set_option maxRecDepth 100000 in
theorem g_X9_refresh_k_v4 (u : qS) (k : qS) (P : Nat → Int32) (Sc : Nat → Int32) (x1 : Int32) (uc : qS) (hk : CT k P u) (hc1 : t_c1 k u) (hz8 : 0 ≤ u.1 8 ∧ u.1 8 ≤ 20) (hz9 : 0 ≤ u.1 9 ∧ u.1 9 ≤ 8) (hz10 : 0 ≤ u.1 10 ∧ u.1 10 ≤ 120) (hz12 : 0 ≤ u.1 12 ∧ u.1 12 ≤ 16) (h_k : 0 ≤ x1 ∧ x1 ≤ u.1 10) (h_S : qFD 10 Sc uc) (h_e : uc.1 909 = u.1 18) (h_w : t_rf k P Sc x1.toNatClampNeg) (c45_1 : ¬ (u.1 10) ≤ (x1 : Int32)) (b63_17 : (k).2.1 1255 ((P (x1 : Int32).toNatClampNeg)).toNatClampNeg ≤ f_vd (k)) (c74_22 : ¬ (Sc (P (x1 : Int32).toNatClampNeg : Int32).toNatClampNeg : Int32) = 4) : 0 ≤ (x1 + 1) ∧ (x1 + 1) ≤ u.1 10 := by
  clear h_w h_S; (try simp only [g_m1, Int32.lt_iff_toInt_lt, Int32.le_iff_toInt_le, ← Int32.toInt_inj, Int32.toInt_add, Int32.toInt_sub, Int32.toInt_mul, Int32.toInt_neg, Int32.reduceToInt, g_bm, g_bm'] at *); omega
set_option maxRecDepth 100000 in
theorem g_X9_refresh_k_v5 (u : qS) (k : qS) (P : Nat → Int32) (Sc : Nat → Int32) (x1 : Int32) (uc : qS) (hk : CT k P u) (hc1 : t_c1 k u) (hz8 : 0 ≤ u.1 8 ∧ u.1 8 ≤ 20) (hz9 : 0 ≤ u.1 9 ∧ u.1 9 ≤ 8) (hz10 : 0 ≤ u.1 10 ∧ u.1 10 ≤ 120) (hz12 : 0 ≤ u.1 12 ∧ u.1 12 ≤ 16) (h_k : 0 ≤ x1 ∧ x1 ≤ u.1 10) (h_S : qFD 10 Sc uc) (h_e : uc.1 909 = u.1 18) (h_w : t_rf k P Sc x1.toNatClampNeg) (c45_1 : ¬ (u.1 10) ≤ (x1 : Int32)) (b63_17 : (k).2.1 1255 ((P (x1 : Int32).toNatClampNeg)).toNatClampNeg ≤ f_vd (k)) (c74_22 : ¬ (Sc (P (x1 : Int32).toNatClampNeg : Int32).toNatClampNeg : Int32) = 4) : (uc.1 909 : Int32) = u.1 18 := by
  exact h_e
set_option maxRecDepth 100000 in
theorem g_X9_refresh_k_v6 (u : qS) (k : qS) (P : Nat → Int32) (Sc : Nat → Int32) (x1 : Int32) (uc : qS) (hk : CT k P u) (hc1 : t_c1 k u) (hz8 : 0 ≤ u.1 8 ∧ u.1 8 ≤ 20) (hz9 : 0 ≤ u.1 9 ∧ u.1 9 ≤ 8) (hz10 : 0 ≤ u.1 10 ∧ u.1 10 ≤ 120) (hz12 : 0 ≤ u.1 12 ∧ u.1 12 ≤ 16) (h_k : 0 ≤ x1 ∧ x1 ≤ u.1 10) (h_S : qFD 10 Sc uc) (h_e : uc.1 909 = u.1 18) (h_w : t_rf k P Sc x1.toNatClampNeg) (c45_1 : ¬ (u.1 10) ≤ (x1 : Int32)) (b63_17 : (k).2.1 1255 ((P (x1 : Int32).toNatClampNeg)).toNatClampNeg ≤ f_vd (k)) (c74_22 : ¬ (Sc (P (x1 : Int32).toNatClampNeg : Int32).toNatClampNeg : Int32) = 4) : t_rf k P Sc (x1 + 1).toNatClampNeg := by
  have hi : 0 ≤ x1 ∧ x1 < u.1 10 := ⟨h_k.1, by clear h_w h_S; (try simp only [g_m1, Int32.lt_iff_toInt_lt, Int32.le_iff_toInt_le, ← Int32.toInt_inj, Int32.reduceToInt] at *); omega⟩
  have q1 : 0 ≤ x1.toInt ∧ x1.toInt < 1000 := (by clear h_w h_S; (try simp only [g_m1, Int32.lt_iff_toInt_lt, Int32.le_iff_toInt_le, ← Int32.toInt_inj, Int32.reduceToInt] at *); omega)
  have e1 := (g_up (i := x1) q1.1 (by omega)).2
  rw [e1]
  first
  | exact h_w.skip (fun q => absurd q.2 (by assumption))
  | exact h_w.skip (fun _ => by assumption)
  | exact h_w.run ⟨hk.ps hi, by assumption⟩ (by assumption) (by assumption : f_sw _ _ _ _ _ _ ∧ _).1
set_option maxRecDepth 100000 in
theorem g_X9_refresh_k_v7 (u : qS) (k : qS) (P : Nat → Int32) (Sc : Nat → Int32) (x1 : Int32) (uc : qS) (hk : CT k P u) (hc1 : t_c1 k u) (hz8 : 0 ≤ u.1 8 ∧ u.1 8 ≤ 20) (hz9 : 0 ≤ u.1 9 ∧ u.1 9 ≤ 8) (hz10 : 0 ≤ u.1 10 ∧ u.1 10 ≤ 120) (hz12 : 0 ≤ u.1 12 ∧ u.1 12 ≤ 16) (h_k : 0 ≤ x1 ∧ x1 ≤ u.1 10) (h_S : qFD 10 Sc uc) (h_e : uc.1 909 = u.1 18) (h_w : t_rf k P Sc x1.toNatClampNeg) (c45_1 : ¬ (u.1 10) ≤ (x1 : Int32)) (b63_17 : (k).2.1 1255 ((P (x1 : Int32).toNatClampNeg)).toNatClampNeg ≤ f_vd (k)) (c74_22 : ¬ (Sc (P (x1 : Int32).toNatClampNeg : Int32).toNatClampNeg : Int32) = 4) : ((u.1 10).toInt - (x1 + 1).toInt).toNat < ((u.1 10).toInt - x1.toInt).toNat := by
  clear h_w h_S; (try simp only [g_m1, Int32.lt_iff_toInt_lt, Int32.le_iff_toInt_le, ← Int32.toInt_inj, Int32.toInt_add, Int32.toInt_sub, Int32.toInt_mul, Int32.toInt_neg, Int32.reduceToInt, g_bm, g_bm'] at *); omega
set_option maxRecDepth 100000 in
theorem g_X9_refresh_k_v8 (u : qS) (k : qS) (P : Nat → Int32) (Sc : Nat → Int32) (x1 : Int32) (uc : qS) (hk : CT k P u) (hc1 : t_c1 k u) (hz8 : 0 ≤ u.1 8 ∧ u.1 8 ≤ 20) (hz9 : 0 ≤ u.1 9 ∧ u.1 9 ≤ 8) (hz10 : 0 ≤ u.1 10 ∧ u.1 10 ≤ 120) (hz12 : 0 ≤ u.1 12 ∧ u.1 12 ≤ 16) (h_k : 0 ≤ x1 ∧ x1 ≤ u.1 10) (h_S : qFD 10 Sc uc) (h_e : uc.1 909 = u.1 18) (h_w : t_rf k P Sc x1.toNatClampNeg) (c45_1 : ¬ (u.1 10) ≤ (x1 : Int32)) (b63_17 : (k).2.1 1255 ((P (x1 : Int32).toNatClampNeg)).toNatClampNeg ≤ f_vd (k)) (c74_22 : (Sc (P (x1 : Int32).toNatClampNeg : Int32).toNatClampNeg : Int32) = 4) (hb_27 : 0 ≤ k.2.1 1249 (P (x1 : Int32).toNatClampNeg : Int32).toNatClampNeg ∧ k.2.1 1249 (P (x1 : Int32).toNatClampNeg : Int32).toNatClampNeg < (u.1 9)) : 0 ≤ x1 ∧ x1 ≤ (u.1 10 : Int32) := by
  exact ⟨h_k.1, h_k.2⟩
set_option maxRecDepth 100000 in
theorem g_X9_refresh_k_v9 (u : qS) (k : qS) (P : Nat → Int32) (Sc : Nat → Int32) (x1 : Int32) (uc : qS) (hk : CT k P u) (hc1 : t_c1 k u) (hz8 : 0 ≤ u.1 8 ∧ u.1 8 ≤ 20) (hz9 : 0 ≤ u.1 9 ∧ u.1 9 ≤ 8) (hz10 : 0 ≤ u.1 10 ∧ u.1 10 ≤ 120) (hz12 : 0 ≤ u.1 12 ∧ u.1 12 ≤ 16) (h_k : 0 ≤ x1 ∧ x1 ≤ u.1 10) (h_S : qFD 10 Sc uc) (h_e : uc.1 909 = u.1 18) (h_w : t_rf k P Sc x1.toNatClampNeg) (c45_1 : ¬ (u.1 10) ≤ (x1 : Int32)) (b63_17 : (k).2.1 1255 ((P (x1 : Int32).toNatClampNeg)).toNatClampNeg ≤ f_vd (k)) (c74_22 : (Sc (P (x1 : Int32).toNatClampNeg : Int32).toNatClampNeg : Int32) = 4) (hb_27 : 0 ≤ k.2.1 1249 (P (x1 : Int32).toNatClampNeg : Int32).toNatClampNeg ∧ k.2.1 1249 (P (x1 : Int32).toNatClampNeg : Int32).toNatClampNeg < (u.1 9)) : f_a1 k Sc := by
  exact h_w.1
set_option maxRecDepth 100000 in
theorem g_X9_refresh_k_v10 (u : qS) (k : qS) (P : Nat → Int32) (Sc : Nat → Int32) (x1 : Int32) (uc : qS) (hk : CT k P u) (hc1 : t_c1 k u) (hz8 : 0 ≤ u.1 8 ∧ u.1 8 ≤ 20) (hz9 : 0 ≤ u.1 9 ∧ u.1 9 ≤ 8) (hz10 : 0 ≤ u.1 10 ∧ u.1 10 ≤ 120) (hz12 : 0 ≤ u.1 12 ∧ u.1 12 ≤ 16) (h_k : 0 ≤ x1 ∧ x1 ≤ u.1 10) (h_S : qFD 10 Sc uc) (h_e : uc.1 909 = u.1 18) (h_w : t_rf k P Sc x1.toNatClampNeg) (c45_1 : ¬ (u.1 10) ≤ (x1 : Int32)) (b63_17 : (k).2.1 1255 ((P (x1 : Int32).toNatClampNeg)).toNatClampNeg ≤ f_vd (k)) (c74_22 : (Sc (P (x1 : Int32).toNatClampNeg : Int32).toNatClampNeg : Int32) = 4) (hb_27 : 0 ≤ k.2.1 1249 (P (x1 : Int32).toNatClampNeg : Int32).toNatClampNeg ∧ k.2.1 1249 (P (x1 : Int32).toNatClampNeg : Int32).toNatClampNeg < (u.1 9)) : ∀ i : Nat, i < x1.toNatClampNeg → ¬ f_gp k (k.2.1 1249 (P (x1 : Int32).toNatClampNeg : Int32).toNatClampNeg) (k.2.1 1250 (P (x1 : Int32).toNatClampNeg : Int32).toNatClampNeg) (P i) := by
  have hi : 0 ≤ x1 ∧ x1 < u.1 10 := ⟨h_k.1, by clear h_w h_S; (try simp only [g_m1, Int32.lt_iff_toInt_lt, Int32.le_iff_toInt_le, ← Int32.toInt_inj, Int32.reduceToInt] at *); omega⟩
  have q1 : 0 ≤ x1.toInt ∧ x1.toInt < 1000 := (by clear h_w h_S; (try simp only [g_m1, Int32.lt_iff_toInt_lt, Int32.le_iff_toInt_le, ← Int32.toInt_inj, Int32.reduceToInt] at *); omega)
  have e1 := (g_up (i := x1) q1.1 (by omega)).2
  exact h_w.b4 ⟨hk.ps hi, by assumption⟩ (by assumption)
set_option maxRecDepth 100000 in
theorem g_X9_refresh_k_v11 (u : qS) (k : qS) (P : Nat → Int32) (Sc : Nat → Int32) (x1 : Int32) (uc : qS) (u_32 : qS) (hk : CT k P u) (hc1 : t_c1 k u) (hz8 : 0 ≤ u.1 8 ∧ u.1 8 ≤ 20) (hz9 : 0 ≤ u.1 9 ∧ u.1 9 ≤ 8) (hz10 : 0 ≤ u.1 10 ∧ u.1 10 ≤ 120) (hz12 : 0 ≤ u.1 12 ∧ u.1 12 ≤ 16) (h_k : 0 ≤ x1 ∧ x1 ≤ u.1 10) (h_S : qFD 10 Sc uc) (h_e : uc.1 909 = u.1 18) (h_w : t_rf k P Sc x1.toNatClampNeg) (c45_1 : ¬ (u.1 10) ≤ (x1 : Int32)) (b63_17 : (k).2.1 1255 ((P (x1 : Int32).toNatClampNeg)).toNatClampNeg ≤ f_vd (k)) (c74_22 : (Sc (P (x1 : Int32).toNatClampNeg : Int32).toNatClampNeg : Int32) = 4) (hb_27 : 0 ≤ k.2.1 1249 (P (x1 : Int32).toNatClampNeg : Int32).toNatClampNeg ∧ k.2.1 1249 (P (x1 : Int32).toNatClampNeg : Int32).toNatClampNeg < (u.1 9)) (hw_33 : qG (k) u_32 (t_N (k) (P) (k.2.1 1249 (P (x1 : Int32).toNatClampNeg : Int32).toNatClampNeg) (k.2.1 1250 (P (x1 : Int32).toNatClampNeg : Int32).toNatClampNeg)) ∧ (u_32.1 908).toInt = (k_ct (t_mb (k) (P) (k.2.1 1249 (P (x1 : Int32).toNatClampNeg : Int32).toNatClampNeg) (k.2.1 1250 (P (x1 : Int32).toNatClampNeg : Int32).toNatClampNeg)) ((k).1 1247).toNatClampNeg : Int) ∧ (∀ j : Nat, j < (u_32.1 908).toNatClampNeg → u_32.2.1 907 j = 0)) : t_g k (k.2.1 1249 (P (x1 : Int32).toNatClampNeg : Int32).toNatClampNeg) (k.2.1 1250 (P (x1 : Int32).toNatClampNeg : Int32).toNatClampNeg) ((u_32.1 908 : Int32)).toNatClampNeg (t_N k P (k.2.1 1249 (P (x1 : Int32).toNatClampNeg : Int32).toNatClampNeg) (k.2.1 1250 (P (x1 : Int32).toNatClampNeg : Int32).toNatClampNeg)) := by
  have w := (by assumption : qG _ _ _ ∧ _ ∧ _)
  rw [t_nn w.2.1]; exact t_N.g hk.2.2.2.2.1 _ _
set_option maxRecDepth 100000 in
theorem g_X9_refresh_k_v12 (u : qS) (k : qS) (P : Nat → Int32) (Sc : Nat → Int32) (x1 : Int32) (uc : qS) (u_32 : qS) (hk : CT k P u) (hc1 : t_c1 k u) (hz8 : 0 ≤ u.1 8 ∧ u.1 8 ≤ 20) (hz9 : 0 ≤ u.1 9 ∧ u.1 9 ≤ 8) (hz10 : 0 ≤ u.1 10 ∧ u.1 10 ≤ 120) (hz12 : 0 ≤ u.1 12 ∧ u.1 12 ≤ 16) (h_k : 0 ≤ x1 ∧ x1 ≤ u.1 10) (h_S : qFD 10 Sc uc) (h_e : uc.1 909 = u.1 18) (h_w : t_rf k P Sc x1.toNatClampNeg) (c45_1 : ¬ (u.1 10) ≤ (x1 : Int32)) (b63_17 : (k).2.1 1255 ((P (x1 : Int32).toNatClampNeg)).toNatClampNeg ≤ f_vd (k)) (c74_22 : (Sc (P (x1 : Int32).toNatClampNeg : Int32).toNatClampNeg : Int32) = 4) (hb_27 : 0 ≤ k.2.1 1249 (P (x1 : Int32).toNatClampNeg : Int32).toNatClampNeg ∧ k.2.1 1249 (P (x1 : Int32).toNatClampNeg : Int32).toNatClampNeg < (u.1 9)) (hw_33 : qG (k) u_32 (t_N (k) (P) (k.2.1 1249 (P (x1 : Int32).toNatClampNeg : Int32).toNatClampNeg) (k.2.1 1250 (P (x1 : Int32).toNatClampNeg : Int32).toNatClampNeg)) ∧ (u_32.1 908).toInt = (k_ct (t_mb (k) (P) (k.2.1 1249 (P (x1 : Int32).toNatClampNeg : Int32).toNatClampNeg) (k.2.1 1250 (P (x1 : Int32).toNatClampNeg : Int32).toNatClampNeg)) ((k).1 1247).toNatClampNeg : Int) ∧ (∀ j : Nat, j < (u_32.1 908).toNatClampNeg → u_32.2.1 907 j = 0)) : ∀ j : Nat, j < ((u_32.1 908 : Int32)).toNatClampNeg → (u_32.2.1 907) j = 0 := by
  exact (by assumption : qG _ _ _ ∧ _ ∧ _).2.2
set_option maxRecDepth 100000 in
theorem g_X9_refresh_k_v13 (u : qS) (k : qS) (P : Nat → Int32) (Sc : Nat → Int32) (x1 : Int32) (uc : qS) (u_32 : qS) (u_43 : qS) (S_53 : Nat → Int32) (hk : CT k P u) (hc1 : t_c1 k u) (hz8 : 0 ≤ u.1 8 ∧ u.1 8 ≤ 20) (hz9 : 0 ≤ u.1 9 ∧ u.1 9 ≤ 8) (hz10 : 0 ≤ u.1 10 ∧ u.1 10 ≤ 120) (hz12 : 0 ≤ u.1 12 ∧ u.1 12 ≤ 16) (h_k : 0 ≤ x1 ∧ x1 ≤ u.1 10) (h_S : qFD 10 Sc uc) (h_e : uc.1 909 = u.1 18) (h_w : t_rf k P Sc x1.toNatClampNeg) (c45_1 : ¬ (u.1 10) ≤ (x1 : Int32)) (b63_17 : (k).2.1 1255 ((P (x1 : Int32).toNatClampNeg)).toNatClampNeg ≤ f_vd (k)) (c74_22 : (Sc (P (x1 : Int32).toNatClampNeg : Int32).toNatClampNeg : Int32) = 4) (hb_27 : 0 ≤ k.2.1 1249 (P (x1 : Int32).toNatClampNeg : Int32).toNatClampNeg ∧ k.2.1 1249 (P (x1 : Int32).toNatClampNeg : Int32).toNatClampNeg < (u.1 9)) (hw_33 : qG (k) u_32 (t_N (k) (P) (k.2.1 1249 (P (x1 : Int32).toNatClampNeg : Int32).toNatClampNeg) (k.2.1 1250 (P (x1 : Int32).toNatClampNeg : Int32).toNatClampNeg)) ∧ (u_32.1 908).toInt = (k_ct (t_mb (k) (P) (k.2.1 1249 (P (x1 : Int32).toNatClampNeg : Int32).toNatClampNeg) (k.2.1 1250 (P (x1 : Int32).toNatClampNeg : Int32).toNatClampNeg)) ((k).1 1247).toNatClampNeg : Int) ∧ (∀ j : Nat, j < (u_32.1 908).toNatClampNeg → u_32.2.1 907 j = 0)) (hq_54 : f_sw (k) ((k.2.1 1249 (P (x1 : Int32).toNatClampNeg : Int32).toNatClampNeg)) ((k.2.1 1250 (P (x1 : Int32).toNatClampNeg : Int32).toNatClampNeg)) (f_n (f_gp (k) ((k.2.1 1249 (P (x1 : Int32).toNatClampNeg : Int32).toNatClampNeg)) ((k.2.1 1250 (P (x1 : Int32).toNatClampNeg : Int32).toNatClampNeg))) ((k).1 1247).toNatClampNeg) (Sc) S_53 ∧ u_43.1 902 = (uc.1 902 : Int32) + (f_all (k) ((k.2.1 1249 (P (x1 : Int32).toNatClampNeg : Int32).toNatClampNeg)) ((k.2.1 1250 (P (x1 : Int32).toNatClampNeg : Int32).toNatClampNeg))).1) : 0 ≤ (x1 + 1) ∧ (x1 + 1) ≤ u.1 10 := by
  clear h_w h_S; (try simp only [g_m1, Int32.lt_iff_toInt_lt, Int32.le_iff_toInt_le, ← Int32.toInt_inj, Int32.toInt_add, Int32.toInt_sub, Int32.toInt_mul, Int32.toInt_neg, Int32.reduceToInt, g_bm, g_bm'] at *); omega
set_option maxRecDepth 100000 in
theorem g_X9_refresh_k_v14 (u : qS) (k : qS) (P : Nat → Int32) (Sc : Nat → Int32) (x1 : Int32) (uc : qS) (u_32 : qS) (u_43 : qS) (S_53 : Nat → Int32) (hk : CT k P u) (hc1 : t_c1 k u) (hz8 : 0 ≤ u.1 8 ∧ u.1 8 ≤ 20) (hz9 : 0 ≤ u.1 9 ∧ u.1 9 ≤ 8) (hz10 : 0 ≤ u.1 10 ∧ u.1 10 ≤ 120) (hz12 : 0 ≤ u.1 12 ∧ u.1 12 ≤ 16) (h_k : 0 ≤ x1 ∧ x1 ≤ u.1 10) (h_S : qFD 10 Sc uc) (h_e : uc.1 909 = u.1 18) (h_w : t_rf k P Sc x1.toNatClampNeg) (c45_1 : ¬ (u.1 10) ≤ (x1 : Int32)) (b63_17 : (k).2.1 1255 ((P (x1 : Int32).toNatClampNeg)).toNatClampNeg ≤ f_vd (k)) (c74_22 : (Sc (P (x1 : Int32).toNatClampNeg : Int32).toNatClampNeg : Int32) = 4) (hb_27 : 0 ≤ k.2.1 1249 (P (x1 : Int32).toNatClampNeg : Int32).toNatClampNeg ∧ k.2.1 1249 (P (x1 : Int32).toNatClampNeg : Int32).toNatClampNeg < (u.1 9)) (hw_33 : qG (k) u_32 (t_N (k) (P) (k.2.1 1249 (P (x1 : Int32).toNatClampNeg : Int32).toNatClampNeg) (k.2.1 1250 (P (x1 : Int32).toNatClampNeg : Int32).toNatClampNeg)) ∧ (u_32.1 908).toInt = (k_ct (t_mb (k) (P) (k.2.1 1249 (P (x1 : Int32).toNatClampNeg : Int32).toNatClampNeg) (k.2.1 1250 (P (x1 : Int32).toNatClampNeg : Int32).toNatClampNeg)) ((k).1 1247).toNatClampNeg : Int) ∧ (∀ j : Nat, j < (u_32.1 908).toNatClampNeg → u_32.2.1 907 j = 0)) (hq_54 : f_sw (k) ((k.2.1 1249 (P (x1 : Int32).toNatClampNeg : Int32).toNatClampNeg)) ((k.2.1 1250 (P (x1 : Int32).toNatClampNeg : Int32).toNatClampNeg)) (f_n (f_gp (k) ((k.2.1 1249 (P (x1 : Int32).toNatClampNeg : Int32).toNatClampNeg)) ((k.2.1 1250 (P (x1 : Int32).toNatClampNeg : Int32).toNatClampNeg))) ((k).1 1247).toNatClampNeg) (Sc) S_53 ∧ u_43.1 902 = (uc.1 902 : Int32) + (f_all (k) ((k.2.1 1249 (P (x1 : Int32).toNatClampNeg : Int32).toNatClampNeg)) ((k.2.1 1250 (P (x1 : Int32).toNatClampNeg : Int32).toNatClampNeg))).1) : (uc.1 909 : Int32) = u.1 18 := by
  exact h_e
set_option maxRecDepth 100000 in
theorem g_X9_refresh_k_v15 (u : qS) (k : qS) (P : Nat → Int32) (Sc : Nat → Int32) (x1 : Int32) (uc : qS) (u_32 : qS) (u_43 : qS) (S_53 : Nat → Int32) (hk : CT k P u) (hc1 : t_c1 k u) (hz8 : 0 ≤ u.1 8 ∧ u.1 8 ≤ 20) (hz9 : 0 ≤ u.1 9 ∧ u.1 9 ≤ 8) (hz10 : 0 ≤ u.1 10 ∧ u.1 10 ≤ 120) (hz12 : 0 ≤ u.1 12 ∧ u.1 12 ≤ 16) (h_k : 0 ≤ x1 ∧ x1 ≤ u.1 10) (h_S : qFD 10 Sc uc) (h_e : uc.1 909 = u.1 18) (h_w : t_rf k P Sc x1.toNatClampNeg) (c45_1 : ¬ (u.1 10) ≤ (x1 : Int32)) (b63_17 : (k).2.1 1255 ((P (x1 : Int32).toNatClampNeg)).toNatClampNeg ≤ f_vd (k)) (c74_22 : (Sc (P (x1 : Int32).toNatClampNeg : Int32).toNatClampNeg : Int32) = 4) (hb_27 : 0 ≤ k.2.1 1249 (P (x1 : Int32).toNatClampNeg : Int32).toNatClampNeg ∧ k.2.1 1249 (P (x1 : Int32).toNatClampNeg : Int32).toNatClampNeg < (u.1 9)) (hw_33 : qG (k) u_32 (t_N (k) (P) (k.2.1 1249 (P (x1 : Int32).toNatClampNeg : Int32).toNatClampNeg) (k.2.1 1250 (P (x1 : Int32).toNatClampNeg : Int32).toNatClampNeg)) ∧ (u_32.1 908).toInt = (k_ct (t_mb (k) (P) (k.2.1 1249 (P (x1 : Int32).toNatClampNeg : Int32).toNatClampNeg) (k.2.1 1250 (P (x1 : Int32).toNatClampNeg : Int32).toNatClampNeg)) ((k).1 1247).toNatClampNeg : Int) ∧ (∀ j : Nat, j < (u_32.1 908).toNatClampNeg → u_32.2.1 907 j = 0)) (hq_54 : f_sw (k) ((k.2.1 1249 (P (x1 : Int32).toNatClampNeg : Int32).toNatClampNeg)) ((k.2.1 1250 (P (x1 : Int32).toNatClampNeg : Int32).toNatClampNeg)) (f_n (f_gp (k) ((k.2.1 1249 (P (x1 : Int32).toNatClampNeg : Int32).toNatClampNeg)) ((k.2.1 1250 (P (x1 : Int32).toNatClampNeg : Int32).toNatClampNeg))) ((k).1 1247).toNatClampNeg) (Sc) S_53 ∧ u_43.1 902 = (uc.1 902 : Int32) + (f_all (k) ((k.2.1 1249 (P (x1 : Int32).toNatClampNeg : Int32).toNatClampNeg)) ((k.2.1 1250 (P (x1 : Int32).toNatClampNeg : Int32).toNatClampNeg))).1) : t_rf k P S_53 (x1 + 1).toNatClampNeg := by
  have hi : 0 ≤ x1 ∧ x1 < u.1 10 := ⟨h_k.1, by clear h_w h_S; (try simp only [g_m1, Int32.lt_iff_toInt_lt, Int32.le_iff_toInt_le, ← Int32.toInt_inj, Int32.reduceToInt] at *); omega⟩
  have q1 : 0 ≤ x1.toInt ∧ x1.toInt < 1000 := (by clear h_w h_S; (try simp only [g_m1, Int32.lt_iff_toInt_lt, Int32.le_iff_toInt_le, ← Int32.toInt_inj, Int32.reduceToInt] at *); omega)
  have e1 := (g_up (i := x1) q1.1 (by omega)).2
  rw [e1]
  first
  | exact h_w.skip (fun q => absurd q.2 (by assumption))
  | exact h_w.skip (fun _ => by assumption)
  | exact h_w.run ⟨hk.ps hi, by assumption⟩ (by assumption) (by assumption : f_sw _ _ _ _ _ _ ∧ _).1
set_option maxRecDepth 100000 in
theorem g_X9_refresh_k_v16 (u : qS) (k : qS) (P : Nat → Int32) (Sc : Nat → Int32) (x1 : Int32) (uc : qS) (u_32 : qS) (u_43 : qS) (S_53 : Nat → Int32) (hk : CT k P u) (hc1 : t_c1 k u) (hz8 : 0 ≤ u.1 8 ∧ u.1 8 ≤ 20) (hz9 : 0 ≤ u.1 9 ∧ u.1 9 ≤ 8) (hz10 : 0 ≤ u.1 10 ∧ u.1 10 ≤ 120) (hz12 : 0 ≤ u.1 12 ∧ u.1 12 ≤ 16) (h_k : 0 ≤ x1 ∧ x1 ≤ u.1 10) (h_S : qFD 10 Sc uc) (h_e : uc.1 909 = u.1 18) (h_w : t_rf k P Sc x1.toNatClampNeg) (c45_1 : ¬ (u.1 10) ≤ (x1 : Int32)) (b63_17 : (k).2.1 1255 ((P (x1 : Int32).toNatClampNeg)).toNatClampNeg ≤ f_vd (k)) (c74_22 : (Sc (P (x1 : Int32).toNatClampNeg : Int32).toNatClampNeg : Int32) = 4) (hb_27 : 0 ≤ k.2.1 1249 (P (x1 : Int32).toNatClampNeg : Int32).toNatClampNeg ∧ k.2.1 1249 (P (x1 : Int32).toNatClampNeg : Int32).toNatClampNeg < (u.1 9)) (hw_33 : qG (k) u_32 (t_N (k) (P) (k.2.1 1249 (P (x1 : Int32).toNatClampNeg : Int32).toNatClampNeg) (k.2.1 1250 (P (x1 : Int32).toNatClampNeg : Int32).toNatClampNeg)) ∧ (u_32.1 908).toInt = (k_ct (t_mb (k) (P) (k.2.1 1249 (P (x1 : Int32).toNatClampNeg : Int32).toNatClampNeg) (k.2.1 1250 (P (x1 : Int32).toNatClampNeg : Int32).toNatClampNeg)) ((k).1 1247).toNatClampNeg : Int) ∧ (∀ j : Nat, j < (u_32.1 908).toNatClampNeg → u_32.2.1 907 j = 0)) (hq_54 : f_sw (k) ((k.2.1 1249 (P (x1 : Int32).toNatClampNeg : Int32).toNatClampNeg)) ((k.2.1 1250 (P (x1 : Int32).toNatClampNeg : Int32).toNatClampNeg)) (f_n (f_gp (k) ((k.2.1 1249 (P (x1 : Int32).toNatClampNeg : Int32).toNatClampNeg)) ((k.2.1 1250 (P (x1 : Int32).toNatClampNeg : Int32).toNatClampNeg))) ((k).1 1247).toNatClampNeg) (Sc) S_53 ∧ u_43.1 902 = (uc.1 902 : Int32) + (f_all (k) ((k.2.1 1249 (P (x1 : Int32).toNatClampNeg : Int32).toNatClampNeg)) ((k.2.1 1250 (P (x1 : Int32).toNatClampNeg : Int32).toNatClampNeg))).1) : ((u.1 10).toInt - (x1 + 1).toInt).toNat < ((u.1 10).toInt - x1.toInt).toNat := by
  clear h_w h_S; (try simp only [g_m1, Int32.lt_iff_toInt_lt, Int32.le_iff_toInt_le, ← Int32.toInt_inj, Int32.toInt_add, Int32.toInt_sub, Int32.toInt_mul, Int32.toInt_neg, Int32.reduceToInt, g_bm, g_bm'] at *); omega
set_option maxRecDepth 100000 in
theorem g_X9_refresh_k_v17 (u : qS) (k : qS) (P : Nat → Int32) (Sc : Nat → Int32) (x1 : Int32) (uc : qS) (hk : CT k P u) (hc1 : t_c1 k u) (hz8 : 0 ≤ u.1 8 ∧ u.1 8 ≤ 20) (hz9 : 0 ≤ u.1 9 ∧ u.1 9 ≤ 8) (hz10 : 0 ≤ u.1 10 ∧ u.1 10 ≤ 120) (hz12 : 0 ≤ u.1 12 ∧ u.1 12 ≤ 16) (h_k : 0 ≤ x1 ∧ x1 ≤ u.1 10) (h_S : qFD 10 Sc uc) (h_e : uc.1 909 = u.1 18) (h_w : t_rf k P Sc x1.toNatClampNeg) (c45_1 : ¬ (u.1 10) ≤ (x1 : Int32)) (b63_17 : ¬ ((k).2.1 1255 ((P (x1 : Int32).toNatClampNeg)).toNatClampNeg ≤ f_vd (k))) : 0 ≤ (x1 + 1) ∧ (x1 + 1) ≤ u.1 10 := by
  clear h_w h_S; (try simp only [g_m1, Int32.lt_iff_toInt_lt, Int32.le_iff_toInt_le, ← Int32.toInt_inj, Int32.toInt_add, Int32.toInt_sub, Int32.toInt_mul, Int32.toInt_neg, Int32.reduceToInt, g_bm, g_bm'] at *); omega
set_option maxRecDepth 100000 in
theorem g_X9_refresh_k_v18 (u : qS) (k : qS) (P : Nat → Int32) (Sc : Nat → Int32) (x1 : Int32) (uc : qS) (hk : CT k P u) (hc1 : t_c1 k u) (hz8 : 0 ≤ u.1 8 ∧ u.1 8 ≤ 20) (hz9 : 0 ≤ u.1 9 ∧ u.1 9 ≤ 8) (hz10 : 0 ≤ u.1 10 ∧ u.1 10 ≤ 120) (hz12 : 0 ≤ u.1 12 ∧ u.1 12 ≤ 16) (h_k : 0 ≤ x1 ∧ x1 ≤ u.1 10) (h_S : qFD 10 Sc uc) (h_e : uc.1 909 = u.1 18) (h_w : t_rf k P Sc x1.toNatClampNeg) (c45_1 : ¬ (u.1 10) ≤ (x1 : Int32)) (b63_17 : ¬ ((k).2.1 1255 ((P (x1 : Int32).toNatClampNeg)).toNatClampNeg ≤ f_vd (k))) : (uc.1 909 : Int32) = u.1 18 := by
  exact h_e
set_option maxRecDepth 100000 in
theorem g_X9_refresh_k_v19 (u : qS) (k : qS) (P : Nat → Int32) (Sc : Nat → Int32) (x1 : Int32) (uc : qS) (hk : CT k P u) (hc1 : t_c1 k u) (hz8 : 0 ≤ u.1 8 ∧ u.1 8 ≤ 20) (hz9 : 0 ≤ u.1 9 ∧ u.1 9 ≤ 8) (hz10 : 0 ≤ u.1 10 ∧ u.1 10 ≤ 120) (hz12 : 0 ≤ u.1 12 ∧ u.1 12 ≤ 16) (h_k : 0 ≤ x1 ∧ x1 ≤ u.1 10) (h_S : qFD 10 Sc uc) (h_e : uc.1 909 = u.1 18) (h_w : t_rf k P Sc x1.toNatClampNeg) (c45_1 : ¬ (u.1 10) ≤ (x1 : Int32)) (b63_17 : ¬ ((k).2.1 1255 ((P (x1 : Int32).toNatClampNeg)).toNatClampNeg ≤ f_vd (k))) : t_rf k P Sc (x1 + 1).toNatClampNeg := by
  have hi : 0 ≤ x1 ∧ x1 < u.1 10 := ⟨h_k.1, by clear h_w h_S; (try simp only [g_m1, Int32.lt_iff_toInt_lt, Int32.le_iff_toInt_le, ← Int32.toInt_inj, Int32.reduceToInt] at *); omega⟩
  have q1 : 0 ≤ x1.toInt ∧ x1.toInt < 1000 := (by clear h_w h_S; (try simp only [g_m1, Int32.lt_iff_toInt_lt, Int32.le_iff_toInt_le, ← Int32.toInt_inj, Int32.reduceToInt] at *); omega)
  have e1 := (g_up (i := x1) q1.1 (by omega)).2
  rw [e1]
  first
  | exact h_w.skip (fun q => absurd q.2 (by assumption))
  | exact h_w.skip (fun _ => by assumption)
  | exact h_w.run ⟨hk.ps hi, by assumption⟩ (by assumption) (by assumption : f_sw _ _ _ _ _ _ ∧ _).1
set_option maxRecDepth 100000 in
theorem g_X9_refresh_k_v20 (u : qS) (k : qS) (P : Nat → Int32) (Sc : Nat → Int32) (x1 : Int32) (uc : qS) (hk : CT k P u) (hc1 : t_c1 k u) (hz8 : 0 ≤ u.1 8 ∧ u.1 8 ≤ 20) (hz9 : 0 ≤ u.1 9 ∧ u.1 9 ≤ 8) (hz10 : 0 ≤ u.1 10 ∧ u.1 10 ≤ 120) (hz12 : 0 ≤ u.1 12 ∧ u.1 12 ≤ 16) (h_k : 0 ≤ x1 ∧ x1 ≤ u.1 10) (h_S : qFD 10 Sc uc) (h_e : uc.1 909 = u.1 18) (h_w : t_rf k P Sc x1.toNatClampNeg) (c45_1 : ¬ (u.1 10) ≤ (x1 : Int32)) (b63_17 : ¬ ((k).2.1 1255 ((P (x1 : Int32).toNatClampNeg)).toNatClampNeg ≤ f_vd (k))) : ((u.1 10).toInt - (x1 + 1).toInt).toNat < ((u.1 10).toInt - x1.toInt).toNat := by
  clear h_w h_S; (try simp only [g_m1, Int32.lt_iff_toInt_lt, Int32.le_iff_toInt_le, ← Int32.toInt_inj, Int32.toInt_add, Int32.toInt_sub, Int32.toInt_mul, Int32.toInt_neg, Int32.reduceToInt, g_bm, g_bm'] at *); omega
set_option maxRecDepth 100000 in
theorem g_X9_refresh_k_v21 (u : qS) (k : qS) (P : Nat → Int32) (S_67 : Nat → Int32) (hk : CT k P u) (hc1 : t_c1 k u) (hz8 : 0 ≤ u.1 8 ∧ u.1 8 ≤ 20) (hz9 : 0 ≤ u.1 9 ∧ u.1 9 ≤ 8) (hz10 : 0 ≤ u.1 10 ∧ u.1 10 ≤ 120) (hz12 : 0 ≤ u.1 12 ∧ u.1 12 ≤ 16) (c11_55 : ¬ (u.1 909 : Int32) = (u.1 18)) (hq_68 : t_ja (k) ((u.1 10 : Int32)).toInt S_67) : 0 ≤ (0 : Int32) ∧ (0 : Int32) ≤ u.1 10 := by
  (try simp only [g_m1, Int32.lt_iff_toInt_lt, Int32.le_iff_toInt_le, ← Int32.toInt_inj, Int32.reduceToInt] at *); omega
set_option maxRecDepth 100000 in
theorem g_X9_refresh_k_v22 (u : qS) (k : qS) (P : Nat → Int32) (S_67 : Nat → Int32) (hk : CT k P u) (hc1 : t_c1 k u) (hz8 : 0 ≤ u.1 8 ∧ u.1 8 ≤ 20) (hz9 : 0 ≤ u.1 9 ∧ u.1 9 ≤ 8) (hz10 : 0 ≤ u.1 10 ∧ u.1 10 ≤ 120) (hz12 : 0 ≤ u.1 12 ∧ u.1 12 ≤ 16) (c11_55 : ¬ (u.1 909 : Int32) = (u.1 18)) (hq_68 : t_ja (k) ((u.1 10 : Int32)).toInt S_67) : (u.1 18 : Int32) = u.1 18 := by
  first | rfl | assumption
set_option maxRecDepth 100000 in
theorem g_X9_refresh_k_v23 (u : qS) (k : qS) (P : Nat → Int32) (S_67 : Nat → Int32) (hk : CT k P u) (hc1 : t_c1 k u) (hz8 : 0 ≤ u.1 8 ∧ u.1 8 ≤ 20) (hz9 : 0 ≤ u.1 9 ∧ u.1 9 ≤ 8) (hz10 : 0 ≤ u.1 10 ∧ u.1 10 ≤ 120) (hz12 : 0 ≤ u.1 12 ∧ u.1 12 ≤ 16) (c11_55 : ¬ (u.1 909 : Int32) = (u.1 18)) (hq_68 : t_ja (k) ((u.1 10 : Int32)).toInt S_67) : t_rf k P S_67 (0 : Int32).toNatClampNeg := by
  have w := (by assumption : t_ja k _ _)
  rw [hk.1.1] at w; exact t_rf.nil w
set_option maxRecDepth 100000 in
theorem g_X9_refresh_k_v24 (u : qS) (k : qS) (P : Nat → Int32) (S_9 : Nat → Int32) (hk : CT k P u) (hc1 : t_c1 k u) (hz8 : 0 ≤ u.1 8 ∧ u.1 8 ≤ 20) (hz9 : 0 ≤ u.1 9 ∧ u.1 9 ≤ 8) (hz10 : 0 ≤ u.1 10 ∧ u.1 10 ≤ 120) (hz12 : 0 ≤ u.1 12 ∧ u.1 12 ≤ 16) (c11_55 : (u.1 909 : Int32) = (u.1 18)) (hfi9 : f_fi k S_9) : f_fi k S_9 ∧ (u.1 909 : Int32) = u.1 18 := by
  first
  | exact ⟨hfi9, by assumption⟩
  | (have e : x1 = u.1 10 := Int32.toInt_inj.mp (by clear h_w h_S; (try simp only [g_m1, Int32.lt_iff_toInt_lt, Int32.le_iff_toInt_le, ← Int32.toInt_inj, Int32.reduceToInt] at *); omega)
     rw [e, hk.1.1] at h_w; exact ⟨h_w.all hk.2.2.2.2.1, h_e⟩)
set_option maxHeartbeats 1000000 in
set_option maxRecDepth 100000 in
theorem g_X9_refresh_k (l : Launch) (E : qE) (A : Nat → Prop) (u : qS) (k : qS) (P : Nat → Int32) (hI : IC E u) (hk : CT k P u) (hc1 : t_c1 k u) : Met l yX9_refresh (uws yX9_refresh cX9_refresh 3 none) (qR 6 0 0) (qPc E A 0 u [.ref (E.2.2 999)]) (qQv E A 0 (fun u1 => (qFc [900, 901, 902, 908, 909] [905, 906, 907] [] [904, 5010] u u1 ∧ IC E u1) ∧ (∃ S1 : Nat → Int32, qFD 10 S1 u1 ∧ (f_fi k S1 ∧ u1.1 909 = u.1 18)))) 0 0 A := by
  refine q_met (own := RX9) (f := 6) [.ref (E.2.2 999)] (by decide) (Nat.le_of_ble_eq_true rfl) rfl ?_
  intro p0 e0 s0 m0 bl0 me0 cd0 ls hF hr hlocks hU hS hA hl
  have hl : lv_has ls 3 [(0, .ref (E.2.2 999))] := hl
  have hz8 : 0 ≤ u.1 8 ∧ u.1 8 ≤ 20 := hI.1.s8
  have hz9 : 0 ≤ u.1 9 ∧ u.1 9 ≤ 8 := hI.1.s9
  have hz10 : 0 ≤ u.1 10 ∧ u.1 10 ≤ 120 := hI.1.s10
  have hz12 : 0 ≤ u.1 12 ∧ u.1 12 ≤ 16 := hI.1.s12
  have hfr : qFc [900, 901, 902, 908, 909] [905, 906, 907] [] [904, 5010] u u := qFc.rf
  obtain ⟨S_0, hST⟩ := hk.fd hI 10 (by decide)
  have main : ∀ n : Nat, (∀ (Sc : Nat → Int32) (x1 : Int32) (uc : qS) (H : Heap) (locs : List Loc) (ls : Array Slot) (hfr : qFc [900, 901, 902, 908, 909] [905, 906, 907] [] [904, 5010] u uc) (hI : IC E uc) (h_k : 0 ≤ x1 ∧ x1 ≤ u.1 10) (h_S : qFD 10 Sc uc) (h_e : uc.1 909 = u.1 18) (h_w : t_rf k P Sc x1.toNatClampNeg), ((u.1 10).toInt - x1.toInt).toNat < n → qH E A 0 uc s0 H → va_S A s0.heap H locs → lv_has ls 3 [(0, .ref (E.2.2 999)), (1, .int x1)] → W p0 l e0 (qR 6 0 0) s0 m0 ([.ref (E.2.2 999)] : List Value).toArray bl0 me0 cd0 H locs 0 0 (MQ bl0 (qQv E A 0 (fun u1 => (qFc [900, 901, 902, 908, 909] [905, 906, 907] [] [904, 5010] u u1 ∧ IC E u1) ∧ (∃ S1 : Nat → Int32, qFD 10 S1 u1 ∧ (f_fi k S1 ∧ u1.1 909 = u.1 18)))) ([.ref (E.2.2 999)] : List Value).toArray s0 0 0 A) (F0 m0 37 ls [])) := by
    clear hI hfr
    intro n
    induction n with
    | zero => exact fun _ _ _ _ _ _ _ _ _ _ _ _ hmu => absurd hmu (Nat.not_lt_zero _)
    | succ n ih =>
      intro Sc x1 uc H locs ls hfr hI h_k h_S h_e h_w hmu hU hS hl
      have hST := h_S
      refine lv_iload_n hF.1 hF.2.1 dX9_refresh_37 rfl (lv_at hl 1 rfl) ?_
      refine lv_aload_n hF.1 hF.2.1 dX9_refresh_38 rfl (lv_at hl 0 rfl) ?_
      refine q_get (v := .ref (E.2.2 99)) hF hU dX9_refresh_39 4 9 3 903 999 rfl rfl rfl rfl inX9 (by decide) (by decide) w_305 rfl rfl ?_
      refine q_get (v := .int (u.1 10)) hF hU dX9_refresh_42 1 0 10 10 99 rfl rfl rfl rfl inX0 (by decide) (by decide) w_169 rfl (congrArg Value.int (hfr.1 10 (by decide))) ?_
      refine lv_icmp_ge (tgt := 100) hF.1 hF.2.1 dX9_refresh_45 (by decide) (fun c45_1 => ?_) (fun c45_1 => ?_)
      · refine lv_aload_n hF.1 hF.2.1 dX9_refresh_100 rfl (lv_at hl 0 rfl) ?_
        have hM9 := g_X9_countThem l E A uc  hI
        have hR9 := q_runV (l := l) (e := e0) (below := bl0) (meth := me0) (R := qR 6 0 0) (cells := 0) (slots := 0) (st0 := [.ref (E.2.2 999)]) (rest := []) hF hU hS hA 0 4 9 999 rfl rfl rfl hM9 w_898 w_900 w_23 w_103 w_901 (by decide +kernel) ⟨Nat.le_of_ble_eq_true rfl, Nat.le_of_ble_eq_true rfl⟩ dX9_refresh_101 rfl hl.1 rfl (Nat.le_of_ble_eq_true rfl) ⟨Nat.le_of_ble_eq_true rfl, Nat.le_of_ble_eq_true rfl⟩
        refine q_callv hR9 hU.2.2.2 hS (fun u_2 H locs hw_3 hU hS => ?_)
        obtain ⟨⟨hw_3_f, hI, hw_3_d⟩, hw_3⟩ := hw_3
        have hfo := hfr
        have hfr : qFc [900, 901, 902, 908, 909] [905, 906, 907] [] [904, 5010] u u_2 := hfr.trans (hw_3_f.mono (by decide) (by decide) (by decide) (by decide))
        have e_5 : u_2.1 902 = (uc.1 902) := (hw_3_f.1 902 (by decide)).trans rfl
        have e_6 : u_2.1 908 = (uc.1 908) := (hw_3_f.1 908 (by decide)).trans rfl
        have e_7 : u_2.1 909 = (uc.1 909) := (hw_3_f.1 909 (by decide)).trans rfl
        have e_8 : u_2.2.1 905 = (uc.2.1 905) := (hw_3_f.2.1 905 (by decide)).trans rfl
        have e_9 : u_2.2.1 906 = (uc.2.1 906) := (hw_3_f.2.1 906 (by decide)).trans rfl
        have e_10 : u_2.2.1 907 = (uc.2.1 907) := (hw_3_f.2.1 907 (by decide)).trans rfl
        have hST : qFD 10 Sc u_2 := hST.fr hw_3_f (by decide) (by decide) (by decide) (by decide) (by decide)
        exact q_vret hF hr hlocks hU hS dX9_refresh_104 ⟨⟨hfr, hI⟩, by first | (rw [show (u_2).1 909 = (uc.1 909) from e_7]; exact ⟨Sc, hST, (g_X9_refresh_k_v0 u k P Sc x1 uc hk hc1 hz8 hz9 hz10 hz12 h_k h_S h_e h_w c45_1)⟩) | rw [show (u_2).1 909 = (uc.1 909) from e_7]⟩
      · refine lv_aload_n hF.1 hF.2.1 dX9_refresh_48 rfl (lv_at hl 0 rfl) ?_
        refine q_get (v := .ref (E.2.2 99)) hF hU dX9_refresh_49 4 9 3 903 999 rfl rfl rfl rfl inX9 (by decide) (by decide) w_305 rfl rfl ?_
        refine q_get (v := .ref (E.2.2 3)) hF hU dX9_refresh_52 1 0 3 3 99 rfl rfl rfl rfl inX0 (by decide) (by decide) w_153 rfl rfl ?_
        refine lv_iload_n hF.1 hF.2.1 dX9_refresh_55 rfl (lv_at hl 1 rfl) ?_
        obtain ⟨a_11, ha_11_12_e, ha_11_12⟩ := hI.r3 x1 (by rw [(hfr.1 10 (by decide))]; exact (g_X9_refresh_k_v1 u k P Sc x1 uc hk hc1 hz8 hz9 hz10 hz12 h_k h_S h_e h_w c45_1))
        refine q_aald (v := .ref a_11) hF hU dX9_refresh_56 3 3 6 rfl rfl (by decide) rfl (g_X9_refresh_k_v2 u k P Sc x1 uc hk hc1 hz8 hz9 hz10 hz12 h_k h_S h_e h_w c45_1) (by rw [ha_11_12_e]; rfl) ?_
        have hK_13 : qKn k uc a_11 (P (x1 : Int32).toNatClampNeg) := (hk.fr hfr (by decide) (by decide)).pa (by rw [(hfr.1 10 (by decide))]; exact (g_X9_refresh_k_v3 u k P Sc x1 uc hk hc1 hz8 hz9 hz10 hz12 h_k h_S h_e h_w c45_1)) ha_11_12_e
        refine lv_astore_n (lv' := [(2, .ref a_11), (0, .ref (E.2.2 999)), (1, .int x1)]) hF.1 hF.2.1 dX9_refresh_57 rfl hl (by decide) rfl (fun ls hl => ?_)
        refine lv_aload_n hF.1 hF.2.1 dX9_refresh_58 rfl (lv_at hl 1 rfl) ?_
        refine q_get (v := .ref (E.2.2 99)) hF hU dX9_refresh_59 4 9 3 903 999 rfl rfl rfl rfl inX9 (by decide) (by decide) w_305 rfl rfl ?_
        refine lv_aload_n hF.1 hF.2.1 dX9_refresh_62 rfl (lv_at hl 0 rfl) ?_
        have hM9 := g_X0_isSeen_k l E A uc a_11 k P (P (x1 : Int32).toNatClampNeg) hI ((ha_11_12).rf) (hk.fr hfr (by decide) (by decide)) hK_13
        have hR9 := q_runV (l := l) (e := e0) (below := bl0) (meth := me0) (R := qR 6 0 0) (cells := 0) (slots := 0) (st0 := [.ref a_11, .ref (E.2.2 99)]) (rest := []) hF hU hS hA 1 1 0 99 rfl rfl rfl hM9 w_860 w_861 w_862 w_100 w_863 (by decide +kernel) ⟨Nat.le_of_ble_eq_true rfl, Nat.le_of_ble_eq_true rfl⟩ dX9_refresh_63 rfl hl.1 rfl (Nat.le_of_ble_eq_true rfl) ⟨Nat.le_of_ble_eq_true rfl, Nat.le_of_ble_eq_true rfl⟩
        refine q_calli hR9 hU.2.2.2 hS (fun r_16 u_14 H locs hw_15 hU hS => ?_)
        obtain ⟨hw_15_e, hw_15⟩ := hw_15
        rw [hw_15_e] at hU
        have hw_15 : (r_16 = 1 ∧ ((k).2.1 1255 ((P (x1 : Int32).toNatClampNeg)).toNatClampNeg ≤ f_vd (k))) ∨ (r_16 = 0 ∧ (¬ ((k).2.1 1255 ((P (x1 : Int32).toNatClampNeg)).toNatClampNeg ≤ f_vd (k)))) := hw_15
        rcases hw_15 with ⟨rfl, b63_17⟩ | ⟨rfl, b63_17⟩
        · refine lv_if_eq (tgt := 94) hF.1 hF.2.1 dX9_refresh_66 (by decide) (fun h9 => absurd h9 (by decide)) (fun _ => ?_)
          refine lv_aload_n hF.1 hF.2.1 dX9_refresh_69 rfl (lv_at hl 0 rfl) ?_
          obtain ⟨k_18, fs_19, hd_20, hv_21⟩ := hST.at hK_13.nm
          refine q_getd (v := .int (Sc (P (x1 : Int32).toNatClampNeg : Int32).toNatClampNeg)) hF hU dX9_refresh_70 k_18 10 10 hd_20 rfl inX10 (by decide) w_621 rfl hv_21 ?_
          refine lv_iconst (v := 4) hF.1 hF.2.1 dX9_refresh_73 (by decide) ?_
          refine lv_icmp_ne (tgt := 94) hF.1 hF.2.1 dX9_refresh_74 (by decide) (fun c74_22 => ?_) (fun c74_22 => ?_)
          · refine lv_iinc (v := x1 + 1) (lv' := [(1, .int (x1 + 1)), (2, .ref a_11), (0, .ref (E.2.2 999))]) hF.1 hF.2.1 dX9_refresh_94 hl (k := 2) rfl rfl (by decide) rfl (fun ls hl => ?_)
            refine lv_goto (tgt := 37) hF.1 hF.2.1 dX9_refresh_97 (by decide) ?_
            exact ih Sc (x1 + 1) uc _ _ _ hfr hI  (g_X9_refresh_k_v4 u k P Sc x1 uc hk hc1 hz8 hz9 hz10 hz12 h_k h_S h_e h_w c45_1 b63_17 c74_22) hST (g_X9_refresh_k_v5 u k P Sc x1 uc hk hc1 hz8 hz9 hz10 hz12 h_k h_S h_e h_w c45_1 b63_17 c74_22) (g_X9_refresh_k_v6 u k P Sc x1 uc hk hc1 hz8 hz9 hz10 hz12 h_k h_S h_e h_w c45_1 b63_17 c74_22) (Nat.lt_of_lt_of_le (g_X9_refresh_k_v7 u k P Sc x1 uc hk hc1 hz8 hz9 hz10 hz12 h_k h_S h_e h_w c45_1 b63_17 c74_22) (Nat.lt_succ_iff.mp hmu)) hU hS (lv_sub hl [2, 0] rfl)
          · refine lv_aload_n hF.1 hF.2.1 dX9_refresh_77 rfl (lv_at hl 1 rfl) ?_
            refine lv_iload_n hF.1 hF.2.1 dX9_refresh_78 rfl (lv_at hl 2 rfl) ?_
            refine lv_aload_n hF.1 hF.2.1 dX9_refresh_79 rfl (lv_at hl 0 rfl) ?_
            obtain ⟨k_23, fs_24, hd_25, hv_26⟩ := hK_13.at 3 (by decide) (by decide)
            refine q_getd (v := .int (k.2.1 1249 (P (x1 : Int32).toNatClampNeg : Int32).toNatClampNeg)) hF hU dX9_refresh_80 k_23 10 3 hd_25 rfl inX10 (by decide) w_596 rfl hv_26 ?_
            have hb_27 : 0 ≤ k.2.1 1249 (P (x1 : Int32).toNatClampNeg : Int32).toNatClampNeg ∧ k.2.1 1249 (P (x1 : Int32).toNatClampNeg : Int32).toNatClampNeg < (u.1 9) := (by have h9 := ((hk.fr hfr (by decide) (by decide)).b2 hK_13).2; rw [(hfr.1 9 (by decide))] at h9; exact h9)
            refine lv_aload_n hF.1 hF.2.1 dX9_refresh_83 rfl (lv_at hl 0 rfl) ?_
            obtain ⟨k_28, fs_29, hd_30, hv_31⟩ := hK_13.at 4 (by decide) (by decide)
            refine q_getd (v := .int (k.2.1 1250 (P (x1 : Int32).toNatClampNeg : Int32).toNatClampNeg)) hF hU dX9_refresh_84 k_28 10 4 hd_30 rfl inX10 (by decide) w_601 rfl hv_31 ?_
            have hM9 := g_X9_gather_k l E A uc x1 (k.2.1 1249 (P (x1 : Int32).toNatClampNeg : Int32).toNatClampNeg) (k.2.1 1250 (P (x1 : Int32).toNatClampNeg : Int32).toNatClampNeg) k P Sc hI (hk.fr hfr (by decide) (by decide)) hST (by rw [(hfr.1 10 (by decide))]; exact (g_X9_refresh_k_v8 u k P Sc x1 uc hk hc1 hz8 hz9 hz10 hz12 h_k h_S h_e h_w c45_1 b63_17 c74_22 hb_27)) (g_X9_refresh_k_v9 u k P Sc x1 uc hk hc1 hz8 hz9 hz10 hz12 h_k h_S h_e h_w c45_1 b63_17 c74_22 hb_27) (g_X9_refresh_k_v10 u k P Sc x1 uc hk hc1 hz8 hz9 hz10 hz12 h_k h_S h_e h_w c45_1 b63_17 c74_22 hb_27)
            have hR9 := q_runV (l := l) (e := e0) (below := bl0) (meth := me0) (R := qR 6 0 0) (cells := 0) (slots := 0) (st0 := [.int (k.2.1 1250 (P (x1 : Int32).toNatClampNeg : Int32).toNatClampNeg), .int (k.2.1 1249 (P (x1 : Int32).toNatClampNeg : Int32).toNatClampNeg), .int x1, .ref (E.2.2 999)]) (rest := []) hF hU hS hA 3 4 9 999 rfl rfl rfl hM9 w_864 w_866 w_17 w_103 w_867 (by decide +kernel) ⟨Nat.le_of_ble_eq_true rfl, Nat.le_of_ble_eq_true rfl⟩ dX9_refresh_87 rfl hl.1 rfl (Nat.le_of_ble_eq_true rfl) ⟨Nat.le_of_ble_eq_true rfl, Nat.le_of_ble_eq_true rfl⟩
            refine q_callv hR9 hU.2.2.2 hS (fun u_32 H locs hw_33 hU hS => ?_)
            obtain ⟨⟨hw_33_f, hI, hw_33_d⟩, hw_33⟩ := hw_33
            have hfo := hfr
            have hfr : qFc [900, 901, 902, 908, 909] [905, 906, 907] [] [904, 5010] u u_32 := hfr.trans (hw_33_f.mono (by decide) (by decide) (by decide) (by decide))
            have e_35 : u_32.1 900 = (uc.1 900) := (hw_33_f.1 900 (by decide)).trans rfl
            have e_36 : u_32.1 901 = (uc.1 901) := (hw_33_f.1 901 (by decide)).trans rfl
            have e_37 : u_32.1 902 = (uc.1 902) := (hw_33_f.1 902 (by decide)).trans rfl
            have e_38 : u_32.1 909 = (uc.1 909) := (hw_33_f.1 909 (by decide)).trans rfl
            have e_39 : u_32.2.1 905 = (uc.2.1 905) := (hw_33_f.2.1 905 (by decide)).trans rfl
            have e_40 : u_32.2.1 906 = (uc.2.1 906) := (hw_33_f.2.1 906 (by decide)).trans rfl
            have hr_41 : qRv u_32 a_11 := hw_33_f.v _ ha_11_12
            have hK_42 : qKn k u_32 a_11 (P (x1 : Int32).toNatClampNeg) := hK_13.fr hw_33_f (by decide) (by decide) (by decide) (by decide)
            have hST : qFD 10 Sc u_32 := hST.fr hw_33_f (by decide) (by decide) (by decide) (by decide) (by decide)
            have hw_33 : qG (k) u_32 (t_N (k) (P) (k.2.1 1249 (P (x1 : Int32).toNatClampNeg : Int32).toNatClampNeg) (k.2.1 1250 (P (x1 : Int32).toNatClampNeg : Int32).toNatClampNeg)) ∧ (u_32.1 908).toInt = (k_ct (t_mb (k) (P) (k.2.1 1249 (P (x1 : Int32).toNatClampNeg : Int32).toNatClampNeg) (k.2.1 1250 (P (x1 : Int32).toNatClampNeg : Int32).toNatClampNeg)) ((k).1 1247).toNatClampNeg : Int) ∧ (∀ j : Nat, j < (u_32.1 908).toNatClampNeg → u_32.2.1 907 j = 0) := hw_33
            refine lv_aload_n hF.1 hF.2.1 dX9_refresh_90 rfl (lv_at hl 1 rfl) ?_
            have hM9 := g_X9_judgeGroup_k l E A u_32 k P Sc (t_N k P (k.2.1 1249 (P (x1 : Int32).toNatClampNeg : Int32).toNatClampNeg) (k.2.1 1250 (P (x1 : Int32).toNatClampNeg : Int32).toNatClampNeg)) (k.2.1 1249 (P (x1 : Int32).toNatClampNeg : Int32).toNatClampNeg) (k.2.1 1250 (P (x1 : Int32).toNatClampNeg : Int32).toNatClampNeg) hI (hk.fr hfr (by decide) (by decide)) hST hw_33.1 (g_X9_refresh_k_v11 u k P Sc x1 uc u_32 hk hc1 hz8 hz9 hz10 hz12 h_k h_S h_e h_w c45_1 b63_17 c74_22 hb_27 hw_33) (g_X9_refresh_k_v12 u k P Sc x1 uc u_32 hk hc1 hz8 hz9 hz10 hz12 h_k h_S h_e h_w c45_1 b63_17 c74_22 hb_27 hw_33)
            have hR9 := q_runV (l := l) (e := e0) (below := bl0) (meth := me0) (R := qR 6 0 0) (cells := 0) (slots := 0) (st0 := [.ref (E.2.2 999)]) (rest := []) hF hU hS hA 0 4 9 999 rfl rfl rfl hM9 w_868 w_870 w_18 w_103 w_871 (by decide +kernel) ⟨Nat.le_of_ble_eq_true rfl, Nat.le_of_ble_eq_true rfl⟩ dX9_refresh_91 rfl hl.1 rfl (Nat.le_of_ble_eq_true rfl) ⟨Nat.le_of_ble_eq_true rfl, Nat.le_of_ble_eq_true rfl⟩
            refine q_callv hR9 hU.2.2.2 hS (fun u_43 H locs hw_44 hU hS => ?_)
            obtain ⟨⟨hw_44_f, hI⟩, hw_44⟩ := hw_44
            have hfo := hfr
            have hfr : qFc [900, 901, 902, 908, 909] [905, 906, 907] [] [904, 5010] u u_43 := hfr.trans (hw_44_f.mono (by decide) (by decide) (by decide) (by decide))
            have e_46 : u_43.1 900 = (uc.1 900) := (hw_44_f.1 900 (by decide)).trans e_35
            have e_47 : u_43.1 901 = (uc.1 901) := (hw_44_f.1 901 (by decide)).trans e_36
            have e_48 : u_43.1 908 = (u_32.1 908) := (hw_44_f.1 908 (by decide)).trans rfl
            have e_49 : u_43.1 909 = (uc.1 909) := (hw_44_f.1 909 (by decide)).trans e_38
            have e_50 : u_43.2.1 907 = (u_32.2.1 907) := (hw_44_f.2.1 907 (by decide)).trans rfl
            have hr_51 : qRv u_43 a_11 := hw_44_f.v _ hr_41
            have hK_52 : qKn k u_43 a_11 (P (x1 : Int32).toNatClampNeg) := hK_42.fr hw_44_f (by decide) (by decide) (by decide) (by decide)
            obtain ⟨S_53, hST, hq_54⟩ := hw_44
            have hq_54 : f_sw (k) ((k.2.1 1249 (P (x1 : Int32).toNatClampNeg : Int32).toNatClampNeg)) ((k.2.1 1250 (P (x1 : Int32).toNatClampNeg : Int32).toNatClampNeg)) (f_n (f_gp (k) ((k.2.1 1249 (P (x1 : Int32).toNatClampNeg : Int32).toNatClampNeg)) ((k.2.1 1250 (P (x1 : Int32).toNatClampNeg : Int32).toNatClampNeg))) ((k).1 1247).toNatClampNeg) (Sc) S_53 ∧ u_43.1 902 = (uc.1 902 : Int32) + (f_all (k) ((k.2.1 1249 (P (x1 : Int32).toNatClampNeg : Int32).toNatClampNeg)) ((k.2.1 1250 (P (x1 : Int32).toNatClampNeg : Int32).toNatClampNeg))).1 := by rw [show (u_32).1 902 = (uc.1 902) from e_37] at hq_54; exact hq_54
            refine lv_iinc (v := x1 + 1) (lv' := [(1, .int (x1 + 1)), (2, .ref a_11), (0, .ref (E.2.2 999))]) hF.1 hF.2.1 dX9_refresh_94 hl (k := 2) rfl rfl (by decide) rfl (fun ls hl => ?_)
            refine lv_goto (tgt := 37) hF.1 hF.2.1 dX9_refresh_97 (by decide) ?_
            exact ih S_53 (x1 + 1) u_43 _ _ _ hfr hI  (g_X9_refresh_k_v13 u k P Sc x1 uc u_32 u_43 S_53 hk hc1 hz8 hz9 hz10 hz12 h_k h_S h_e h_w c45_1 b63_17 c74_22 hb_27 hw_33 hq_54) hST (by rw [show (u_43).1 909 = (uc.1 909) from e_49]; exact (g_X9_refresh_k_v14 u k P Sc x1 uc u_32 u_43 S_53 hk hc1 hz8 hz9 hz10 hz12 h_k h_S h_e h_w c45_1 b63_17 c74_22 hb_27 hw_33 hq_54)) (g_X9_refresh_k_v15 u k P Sc x1 uc u_32 u_43 S_53 hk hc1 hz8 hz9 hz10 hz12 h_k h_S h_e h_w c45_1 b63_17 c74_22 hb_27 hw_33 hq_54) (Nat.lt_of_lt_of_le (g_X9_refresh_k_v16 u k P Sc x1 uc u_32 u_43 S_53 hk hc1 hz8 hz9 hz10 hz12 h_k h_S h_e h_w c45_1 b63_17 c74_22 hb_27 hw_33 hq_54) (Nat.lt_succ_iff.mp hmu)) hU hS (lv_sub hl [2, 0] rfl)
        · refine lv_if_eq (tgt := 94) hF.1 hF.2.1 dX9_refresh_66 (by decide) (fun _ => ?_) (fun h9 => absurd (by decide) h9)
          refine lv_iinc (v := x1 + 1) (lv' := [(1, .int (x1 + 1)), (2, .ref a_11), (0, .ref (E.2.2 999))]) hF.1 hF.2.1 dX9_refresh_94 hl (k := 2) rfl rfl (by decide) rfl (fun ls hl => ?_)
          refine lv_goto (tgt := 37) hF.1 hF.2.1 dX9_refresh_97 (by decide) ?_
          exact ih Sc (x1 + 1) uc _ _ _ hfr hI  (g_X9_refresh_k_v17 u k P Sc x1 uc hk hc1 hz8 hz9 hz10 hz12 h_k h_S h_e h_w c45_1 b63_17) hST (g_X9_refresh_k_v18 u k P Sc x1 uc hk hc1 hz8 hz9 hz10 hz12 h_k h_S h_e h_w c45_1 b63_17) (g_X9_refresh_k_v19 u k P Sc x1 uc hk hc1 hz8 hz9 hz10 hz12 h_k h_S h_e h_w c45_1 b63_17) (Nat.lt_of_lt_of_le (g_X9_refresh_k_v20 u k P Sc x1 uc hk hc1 hz8 hz9 hz10 hz12 h_k h_S h_e h_w c45_1 b63_17) (Nat.lt_succ_iff.mp hmu)) hU hS (lv_sub hl [2, 0] rfl)
  refine lv_aload_n hF.1 hF.2.1 dX9_refresh_0 rfl (lv_at hl 0 rfl) ?_
  refine q_get (v := .int (u.1 909)) hF hU dX9_refresh_1 4 9 9 909 999 rfl rfl rfl rfl inX9 (by decide) (by decide) w_311 rfl rfl ?_
  refine lv_aload_n hF.1 hF.2.1 dX9_refresh_4 rfl (lv_at hl 0 rfl) ?_
  refine q_get (v := .ref (E.2.2 99)) hF hU dX9_refresh_5 4 9 3 903 999 rfl rfl rfl rfl inX9 (by decide) (by decide) w_305 rfl rfl ?_
  refine q_get (v := .int (u.1 18)) hF hU dX9_refresh_8 1 0 18 18 99 rfl rfl rfl rfl inX0 (by decide) (by decide) w_188 rfl rfl ?_
  refine lv_icmp_ne (tgt := 15) hF.1 hF.2.1 dX9_refresh_11 (by decide) (fun c11_55 => ?_) (fun c11_55 => ?_)
  · refine lv_aload_n hF.1 hF.2.1 dX9_refresh_15 rfl (lv_at hl 0 rfl) ?_
    refine lv_aload_n hF.1 hF.2.1 dX9_refresh_16 rfl (lv_at hl 0 rfl) ?_
    refine q_get (v := .ref (E.2.2 99)) hF hU dX9_refresh_17 4 9 3 903 999 rfl rfl rfl rfl inX9 (by decide) (by decide) w_305 rfl rfl ?_
    refine q_get (v := .int (u.1 18)) hF hU dX9_refresh_20 1 0 18 18 99 rfl rfl rfl rfl inX0 (by decide) (by decide) w_188 rfl rfl ?_
    refine q_put hF hU hS dX9_refresh_23 4 9 9 909 999 rfl rfl rfl rfl inX9 tyX9 tyX9_ok nmX9 (by decide) (by decide) rfl w_311 rfl rfl rfl rfl (fun H locs hU hS => ?_)
    have hfr : qFc [900, 901, 902, 908, 909] [905, 906, 907] [] [904, 5010] u (qsI u 909 (u.1 18)) := hfr.setI (by decide) (fun q => absurd q (by decide))
    have hI : IC E (qsI u 909 (u.1 18)) := hI.sI (by decide)
    have hST : qFD 10 S_0 (qsI u 909 (u.1 18)) := hST.sI (by decide)
    refine lv_aload_n hF.1 hF.2.1 dX9_refresh_26 rfl (lv_at hl 0 rfl) ?_
    have hM9 := g_X9_judgeAlone_k l E A (qsI u 909 (u.1 18)) k P S_0 hI (hk.fr hfr (by decide) (by decide)) hST
    have hR9 := q_runV (l := l) (e := e0) (below := bl0) (meth := me0) (R := qR 6 0 0) (cells := 0) (slots := 0) (st0 := [.ref (E.2.2 999)]) (rest := []) hF hU hS hA 0 4 9 999 rfl rfl rfl hM9 w_847 w_849 w_15 w_103 w_850 (by decide +kernel) ⟨Nat.le_of_ble_eq_true rfl, Nat.le_of_ble_eq_true rfl⟩ dX9_refresh_27 rfl hl.1 rfl (Nat.le_of_ble_eq_true rfl) ⟨Nat.le_of_ble_eq_true rfl, Nat.le_of_ble_eq_true rfl⟩
    refine q_callv hR9 hU.2.2.2 hS (fun u_56 H locs hw_57 hU hS => ?_)
    obtain ⟨⟨hw_57_f, hI⟩, hw_57⟩ := hw_57
    have hfo := hfr
    have hfr : qFc [900, 901, 902, 908, 909] [905, 906, 907] [] [904, 5010] u u_56 := hfr.trans (hw_57_f.mono (by decide) (by decide) (by decide) (by decide))
    have e_59 : u_56.1 900 = (u.1 900) := (hw_57_f.1 900 (by decide)).trans rfl
    have e_60 : u_56.1 901 = (u.1 901) := (hw_57_f.1 901 (by decide)).trans rfl
    have e_61 : u_56.1 902 = (u.1 902) := (hw_57_f.1 902 (by decide)).trans rfl
    have e_62 : u_56.1 908 = (u.1 908) := (hw_57_f.1 908 (by decide)).trans rfl
    have e_63 : u_56.1 909 = (u.1 18) := (hw_57_f.1 909 (by decide)).trans rfl
    have e_64 : u_56.2.1 905 = (u.2.1 905) := (hw_57_f.2.1 905 (by decide)).trans rfl
    have e_65 : u_56.2.1 906 = (u.2.1 906) := (hw_57_f.2.1 906 (by decide)).trans rfl
    have e_66 : u_56.2.1 907 = (u.2.1 907) := (hw_57_f.2.1 907 (by decide)).trans rfl
    obtain ⟨S_67, hST, hq_68⟩ := hw_57
    have hq_68 : t_ja (k) ((u.1 10 : Int32)).toInt S_67 := by rw [(hfo.1 10 (by decide))] at hq_68; exact hq_68
    refine lv_aload_n hF.1 hF.2.1 dX9_refresh_30 rfl (lv_at hl 0 rfl) ?_
    refine lv_iconst (v := 0) hF.1 hF.2.1 dX9_refresh_31 (by decide) ?_
    refine q_put hF hU hS dX9_refresh_32 4 9 2 902 999 rfl rfl rfl rfl inX9 tyX9 tyX9_ok nmX9 (by decide) (by decide) rfl w_303 rfl rfl rfl rfl (fun H locs hU hS => ?_)
    have hfr : qFc [900, 901, 902, 908, 909] [905, 906, 907] [] [904, 5010] u (qsI u_56 902 0) := hfr.setI (by decide) (fun q => absurd q (by decide))
    have hI : IC E (qsI u_56 902 0) := hI.sI (by decide)
    have hST : qFD 10 S_67 (qsI u_56 902 0) := hST.sI (by decide)
    refine lv_iconst (v := 0) hF.1 hF.2.1 dX9_refresh_35 (by decide) ?_
    refine lv_istore_n (lv' := [(1, .int 0), (0, .ref (E.2.2 999))]) hF.1 hF.2.1 dX9_refresh_36 rfl hl (by decide) rfl (fun ls hl => ?_)
    exact (main _) S_67 (0 : Int32) (qsI u_56 902 0) _ _ _ hfr hI  (g_X9_refresh_k_v21 u k P S_67 hk hc1 hz8 hz9 hz10 hz12 c11_55 hq_68) hST (by rw [show (qsI u_56 902 0).1 909 = (u.1 18) from e_63]; first | done | exact (g_X9_refresh_k_v22 u k P S_67 hk hc1 hz8 hz9 hz10 hz12 c11_55 hq_68)) (g_X9_refresh_k_v23 u k P S_67 hk hc1 hz8 hz9 hz10 hz12 c11_55 hq_68) (Nat.lt_succ_self _) hU hS (lv_sub hl [1, 0] rfl)
  · obtain ⟨S_9, hST, hfi9⟩ := hc1.use c11_55
    exact q_vret hF hr hlocks hU hS dX9_refresh_14 ⟨⟨hfr, hI⟩, ⟨S_9, hST, (g_X9_refresh_k_v24 u k P S_9 hk hc1 hz8 hz9 hz10 hz12 c11_55 hfi9)⟩⟩
set_option maxRecDepth 100000 in
theorem g_X9_fewestOf_k_v0 (u : qS) (k : qS) (P : Nat → Int32) (S : Nat → Int32) (hk : CT k P u) (hQ : qFD 10 S u) (ha : f_a1 k S) (hz8 : 0 ≤ u.1 8 ∧ u.1 8 ≤ 20) (hz9 : 0 ≤ u.1 9 ∧ u.1 9 ≤ 8) (hz10 : 0 ≤ u.1 10 ∧ u.1 10 ≤ 120) (hz12 : 0 ≤ u.1 12 ∧ u.1 12 ≤ 16) : 0 ≤ (0 : Int32) ∧ (0 : Int32) ≤ (u.1 10 : Int32) := by
  exact ⟨by decide, by (try simp only [g_m1, Int32.lt_iff_toInt_lt, Int32.le_iff_toInt_le, ← Int32.toInt_inj, Int32.reduceToInt] at *); omega⟩
set_option maxRecDepth 100000 in
theorem g_X9_fewestOf_k_v1 (u : qS) (k : qS) (P : Nat → Int32) (S : Nat → Int32) (hk : CT k P u) (hQ : qFD 10 S u) (ha : f_a1 k S) (hz8 : 0 ≤ u.1 8 ∧ u.1 8 ≤ 20) (hz9 : 0 ≤ u.1 9 ∧ u.1 9 ≤ 8) (hz10 : 0 ≤ u.1 10 ∧ u.1 10 ≤ 120) (hz12 : 0 ≤ u.1 12 ∧ u.1 12 ≤ 16) : f_a1 k S := by
  exact ha
set_option maxRecDepth 100000 in
theorem g_X9_fewestOf_k_v2 (u : qS) (x : Int32) (y : Int32) (k : qS) (P : Nat → Int32) (S : Nat → Int32) (hk : CT k P u) (hQ : qFD 10 S u) (ha : f_a1 k S) (hz8 : 0 ≤ u.1 8 ∧ u.1 8 ≤ 20) (hz9 : 0 ≤ u.1 9 ∧ u.1 9 ≤ 8) (hz10 : 0 ≤ u.1 10 ∧ u.1 10 ≤ 120) (hz12 : 0 ≤ u.1 12 ∧ u.1 12 ≤ 16) : ∀ i : Nat, i < (0 : Int32).toNatClampNeg → ¬ f_gp k x y (P i) := by
  intro i hi; exact absurd hi (Nat.not_lt_zero _)
set_option maxRecDepth 100000 in
theorem g_X9_fewestOf_k_v3 (u : qS) (x : Int32) (y : Int32) (k : qS) (P : Nat → Int32) (S : Nat → Int32) (u_1 : qS) (u_6 : qS) (r_8 : Int32) (hk : CT k P u) (hQ : qFD 10 S u) (ha : f_a1 k S) (hz8 : 0 ≤ u.1 8 ∧ u.1 8 ≤ 20) (hz9 : 0 ≤ u.1 9 ∧ u.1 9 ≤ 8) (hz10 : 0 ≤ u.1 10 ∧ u.1 10 ≤ 120) (hz12 : 0 ≤ u.1 12 ∧ u.1 12 ≤ 16) (hw_2 : qG (k) u_1 (t_N (k) (P) x y) ∧ (u_1.1 908).toInt = (k_ct (t_mb (k) (P) x y) ((k).1 1247).toNatClampNeg : Int) ∧ (∀ j : Nat, j < (u_1.1 908).toNatClampNeg → u_1.2.1 907 j = 0)) (hs_5 : 0 ≤ u_1.1 908 ∧ u_1.1 908 ≤ 12) (hw_7 : t_ua (fun i j => t_bo (k) (((t_N k P x y)) i) (((t_N k P x y)) j)) ((u_1.2.1 907)) (u_6.2.1 905) ((u_1.1 908 : Int32)).toNatClampNeg ∧ t_mx (u_6.2.1 905) r_8 ((u_1.1 908 : Int32)).toNatClampNeg) : ((u_1.1 908) - r_8 : Int32) = (f_all k x y).1 := by
  have w := (by assumption : qG _ _ _ ∧ _ ∧ _)
  have w2 := (by assumption : t_ua _ _ _ _ ∧ _)
  have e := t_nn w.2.1
  have g := t_N.g hk.2.2.2.2.1 x y
  rw [← e] at g
  exact t_few hk.2.2.2.2.2 g w.2.2 w2.1 w2.2 (by rw [e]; exact w.2.1)
set_option maxHeartbeats 1000000 in
set_option maxRecDepth 100000 in
theorem g_X9_fewestOf_k (l : Launch) (E : qE) (A : Nat → Prop) (u : qS) (x : Int32) (y : Int32) (k : qS) (P : Nat → Int32) (S : Nat → Int32) (hI : IC E u) (hk : CT k P u) (hQ : qFD 10 S u) (ha : f_a1 k S) : Met l yX9_fewestOf (uws yX9_fewestOf cX9_fewestOf 3 (some .int)) (qR 5 0 0) (qPc E A 0 u [.ref (E.2.2 999), .int x, .int y]) (qQi E A 0 (fun r u1 => (qFc [908] [905, 907] [] [904] u u1 ∧ IC E u1 ∧ u1.2.2.2.2 = u.2.2.2.2) ∧ (r = (f_all k x y).1))) 0 0 A := by
  refine q_met (own := RX9) (f := 5) [.ref (E.2.2 999), .int x, .int y] (by decide) (Nat.le_of_ble_eq_true rfl) rfl ?_
  intro p0 e0 s0 m0 bl0 me0 cd0 ls hF hr hlocks hU hS hA hl
  have hl : lv_has ls 3 [(0, .ref (E.2.2 999)), (1, .int x), (2, .int y)] := hl
  have hkd : u.2.2.2.2 = u.2.2.2.2 := rfl
  have hz8 : 0 ≤ u.1 8 ∧ u.1 8 ≤ 20 := hI.1.s8
  have hz9 : 0 ≤ u.1 9 ∧ u.1 9 ≤ 8 := hI.1.s9
  have hz10 : 0 ≤ u.1 10 ∧ u.1 10 ≤ 120 := hI.1.s10
  have hz12 : 0 ≤ u.1 12 ∧ u.1 12 ≤ 16 := hI.1.s12
  have hfr : qFc [908] [905, 907] [] [904] u u := qFc.rf
  refine lv_aload_n hF.1 hF.2.1 dX9_fewestOf_0 rfl (lv_at hl 0 rfl) ?_
  refine lv_iconst (v := 0) hF.1 hF.2.1 dX9_fewestOf_1 (by decide) ?_
  refine lv_iload_n hF.1 hF.2.1 dX9_fewestOf_2 rfl (lv_at hl 1 rfl) ?_
  refine lv_iload_n hF.1 hF.2.1 dX9_fewestOf_3 rfl (lv_at hl 2 rfl) ?_
  have hM9 := g_X9_gather_k l E A u 0 x y k P S hI hk hQ (g_X9_fewestOf_k_v0 u k P S hk hQ ha hz8 hz9 hz10 hz12) (g_X9_fewestOf_k_v1 u k P S hk hQ ha hz8 hz9 hz10 hz12) (g_X9_fewestOf_k_v2 u x y k P S hk hQ ha hz8 hz9 hz10 hz12)
  have hR9 := q_runV (l := l) (e := e0) (below := bl0) (meth := me0) (R := qR 5 0 0) (cells := 0) (slots := 0) (st0 := [.int y, .int x, .int 0, .ref (E.2.2 999)]) (rest := []) hF hU hS hA 3 4 9 999 rfl rfl rfl hM9 w_864 w_866 w_17 w_103 w_867 (by decide +kernel) ⟨Nat.le_of_ble_eq_true rfl, Nat.le_of_ble_eq_true rfl⟩ dX9_fewestOf_4 rfl hl.1 rfl (Nat.le_of_ble_eq_true rfl) ⟨Nat.le_of_ble_eq_true rfl, Nat.le_of_ble_eq_true rfl⟩
  refine q_callv hR9 hU.2.2.2 hS (fun u_1 H locs hw_2 hU hS => ?_)
  obtain ⟨⟨hw_2_f, hI, hw_2_d⟩, hw_2⟩ := hw_2
  have hfo := hfr
  have hfr : qFc [908] [905, 907] [] [904] u u_1 := hfr.trans (hw_2_f.mono (by decide) (by decide) (by decide) (by decide))
  have e_4 : u_1.2.1 905 = (u.2.1 905) := (hw_2_f.2.1 905 (by decide)).trans rfl
  have hkd : u_1.2.2.2.2 = u.2.2.2.2 := hw_2_d.trans hkd
  have hw_2 : qG (k) u_1 (t_N (k) (P) x y) ∧ (u_1.1 908).toInt = (k_ct (t_mb (k) (P) x y) ((k).1 1247).toNatClampNeg : Int) ∧ (∀ j : Nat, j < (u_1.1 908).toNatClampNeg → u_1.2.1 907 j = 0) := hw_2
  refine lv_aload_n hF.1 hF.2.1 dX9_fewestOf_7 rfl (lv_at hl 0 rfl) ?_
  refine q_get (v := .int (u_1.1 908)) hF hU dX9_fewestOf_8 4 9 8 908 999 rfl rfl rfl rfl inX9 (by decide) (by decide) w_310 rfl rfl ?_
  have hs_5 : 0 ≤ u_1.1 908 ∧ u_1.1 908 ≤ 12 := hI.1.s908
  refine lv_aload_n hF.1 hF.2.1 dX9_fewestOf_11 rfl (lv_at hl 0 rfl) ?_
  have hM9 := g_X9_longestUp_k l E A u_1 k P (t_N k P x y) hI (hk.fr hfr (by decide) (by decide)) hw_2.1
  have hR9 := q_runV (l := l) (e := e0) (below := bl0) (meth := me0) (R := qR 5 0 0) (cells := 0) (slots := 0) (st0 := [.ref (E.2.2 999), .int (u_1.1 908)]) (rest := [.int (u_1.1 908)]) hF hU hS hA 0 4 9 999 rfl rfl rfl hM9 w_872 w_874 w_19 w_103 w_875 (by decide +kernel) ⟨Nat.le_of_ble_eq_true rfl, Nat.le_of_ble_eq_true rfl⟩ dX9_fewestOf_12 rfl hl.1 rfl (Nat.le_of_ble_eq_true rfl) ⟨Nat.le_of_ble_eq_true rfl, Nat.le_of_ble_eq_true rfl⟩
  refine q_calli hR9 hU.2.2.2 hS (fun r_8 u_6 H locs hw_7 hU hS => ?_)
  obtain ⟨⟨hw_7_f, hI, hw_7_d⟩, hw_7⟩ := hw_7
  have hfo := hfr
  have hfr : qFc [908] [905, 907] [] [904] u u_6 := hfr.trans (hw_7_f.mono (by decide) (by decide) (by decide) (by decide))
  have e_9 : u_6.1 908 = (u_1.1 908) := (hw_7_f.1 908 (by decide)).trans rfl
  have e_10 : u_6.2.1 907 = (u_1.2.1 907) := (hw_7_f.2.1 907 (by decide)).trans rfl
  have hkd : u_6.2.2.2.2 = u.2.2.2.2 := hw_7_d.trans hkd
  have hw_7 : t_ua (fun i j => t_bo (k) (((t_N k P x y)) i) (((t_N k P x y)) j)) ((u_1.2.1 907)) (u_6.2.1 905) ((u_1.1 908 : Int32)).toNatClampNeg ∧ t_mx (u_6.2.1 905) r_8 ((u_1.1 908 : Int32)).toNatClampNeg := hw_7
  refine lv_isub hF.1 hF.2.1 dX9_fewestOf_15 ?_
  exact q_iret hF hr rfl hlocks hU hS dX9_fewestOf_16 ⟨⟨hfr, hI, hkd⟩, (g_X9_fewestOf_k_v3 u x y k P S u_1 u_6 r_8 hk hQ ha hz8 hz9 hz10 hz12 hw_2 hs_5 hw_7)⟩
