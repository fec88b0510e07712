/-! drawn: who is ahead, the latest visit, the number that is turned -/
def d_ah (v : qS) (a b : Int32) : Prop := v.2.1 1250 a.toNatClampNeg - v.2.1 1250 b.toNatClampNeg < 0 ∨ (v.2.1 1250 a.toNatClampNeg - v.2.1 1250 b.toNatClampNeg = 0 ∧ (v.2.1 1251 a.toNatClampNeg - v.2.1 1251 b.toNatClampNeg < 0 ∨ (v.2.1 1251 a.toNatClampNeg - v.2.1 1251 b.toNatClampNeg = 0 ∧ a < b)))
def d_lm (v : qS) (s y : Int32) (k : Nat) : Prop := (f_sn v (Int32.ofNat k) ∧ v.2.1 1248 k = s) ∧ (y < 0 ∨ d_ah v (Int32.ofNat k) y)
/-- what the search for the latest has found behind k visits -/
def d_lx (v : qS) (s y : Int32) : Nat → Int32 → Prop
  | 0, r => r = -1
  | k + 1, r => ∃ r0, d_lx v s y k r0 ∧ ((d_lm v s y k ∧ (r0 < 0 ∨ d_ah v r0 (Int32.ofNat k)) ∧ r = Int32.ofNat k) ∨ (¬ (d_lm v s y k ∧ (r0 < 0 ∨ d_ah v r0 (Int32.ofNat k))) ∧ r = r0))
def d_lz (v : qS) (s y r : Int32) : Prop := d_lx v s y (v.1 1247).toNatClampNeg r
theorem d_on {x : Int32} (h : 0 ≤ x.toInt) : Int32.ofNat x.toNatClampNeg = x := by
  have r := g_rng x
  have c := g_clamp x
  refine Int32.toInt_inj.mp ?_
  rw [Int32.toInt_ofNat_of_lt (by omega)]; omega
def d_nt (v : qS) (l : Int32) : Int := if l < 0 then -1 else (v.2.1 1250 l.toNatClampNeg - v.2.1 1250 l.toNatClampNeg / 7 * 7).toInt
def d_md (t b : Int) : Int := if b < 0 then t % 7 else if t % 6 < b then t % 6 else t % 6 + 1
def d_lo (t b j left : Int) : Prop := (0 ≤ left ∧ 0 ≤ j ∧ j ≤ 7 ∧ b < 7) ∧ (b < 0 → left = t % 7 - j) ∧ (0 ≤ b → j ≤ b → left = t % 6 - j) ∧ (0 ≤ b → b < j → left = t % 6 - j + 1)
theorem d_b64 {z : Int} (h1 : -9223372036854775808 ≤ z) (h2 : z < 9223372036854775808) : z.bmod (2 ^ 64) = z := Int.bmod_eq_of_le (by omega) (by omega)
/-- division and rest of a long that isn't below 0 -/
theorem d_div {t k : Int64} (h0 : 0 ≤ t.toInt) (hk : 0 < k.toInt) : (t / k).toInt = t.toInt / k.toInt := by
  have l := Int64.toInt_lt t
  rw [Int64.toInt_div, Int.tdiv_eq_ediv_of_nonneg h0]
  have a : t.toInt / k.toInt ≤ t.toInt := Int.ediv_le_self _ h0
  have b : 0 ≤ t.toInt / k.toInt := Int.ediv_nonneg h0 (by omega)
  exact d_b64 (by omega) (by omega)
theorem d_rem {t k : Int64} (h0 : 0 ≤ t.toInt) (hk : 0 < k.toInt) : (t - t / k * k).toInt = t.toInt % k.toInt := by
  have l := Int64.toInt_lt t
  have e := d_div h0 hk
  have m0 := Int.emod_nonneg t.toInt (show k.toInt ≠ 0 by omega)
  have m1 := Int.emod_add_mul_ediv t.toInt k.toInt
  have m3 : 0 ≤ t.toInt / k.toInt * k.toInt := Int.mul_nonneg (Int.ediv_nonneg h0 (by omega)) (by omega)
  have m2 : t.toInt / k.toInt * k.toInt = t.toInt - t.toInt % k.toInt := by rw [Int.mul_comm]; omega
  have em : (t / k * k).toInt = t.toInt / k.toInt * k.toInt := by
    rw [Int64.toInt_mul, e]; exact d_b64 (by omega) (by omega)
  rw [Int64.toInt_sub, em, m2]
  rw [d_b64 (by omega) (by omega)]; omega
theorem d_dr_r {x : Int64} (h0 : 0 ≤ x.toInt) (h1 : x.toInt < 2147483648) : 0 ≤ (d_dr x).toInt ∧ (d_dr x).toInt < 2147483648 := by
  have ea : (x * 1103515245).toInt = x.toInt * 1103515245 := by
    rw [Int64.toInt_mul]; exact d_b64 (by show _ ≤ x.toInt * 1103515245; omega) (by show x.toInt * 1103515245 < _; omega)
  have eb : (x * 1103515245 + 12345).toInt = x.toInt * 1103515245 + 12345 := by
    rw [Int64.toInt_add, ea]; exact d_b64 (by show _ ≤ x.toInt * 1103515245 + 12345; omega) (by show x.toInt * 1103515245 + 12345 < _; omega)
  have er : (d_dr x).toInt = (x.toInt * 1103515245 + 12345) % 2147483648 := by
    unfold d_dr
    rw [d_rem (t := x * 1103515245 + 12345) (k := 2147483648) (by rw [eb]; omega) (by decide), eb]; rfl
  rw [er]; omega
theorem d_dn_r {z : Int64} (h0 : 0 ≤ z.toInt) (h1 : z.toInt < 2147483648) : ∀ n, 0 ≤ (d_dn z n).toInt ∧ (d_dn z n).toInt < 2147483648
  | 0 => ⟨h0, h1⟩
  | n + 1 => d_dr_r (d_dn_r h0 h1 n).1 (d_dn_r h0 h1 n).2
theorem d_dt_r {x z : Int32} (h : 0 ≤ z) : 0 ≤ (d_dt x z).toInt ∧ (d_dt x z).toInt < 32768 := by
  have z0 : 0 ≤ z.toInt := Int32.le_iff_toInt_le.mp h
  have r := g_rng z
  have e := Int32.toInt_toInt64 z
  have q := d_dn_r (z := z.toInt64) (by omega) (by omega) (x.toNatClampNeg + 1)
  have w : (d_dt x z).toInt = (d_dn z.toInt64 (x.toNatClampNeg + 1)).toInt / 65536 := by
    unfold d_dt; exact d_div q.1 (by decide)
  rw [w]; omega
theorem d_r6 {t : Int64} (h : 0 ≤ t.toInt ∧ t.toInt < 32768) : (t - t / (6 : Int32).toInt64 * (6 : Int32).toInt64).toInt32.toInt = t.toInt % 6 := by
  rw [Int64.toInt_toInt32, d_rem (k := (6 : Int32).toInt64) h.1 (by decide)]
  show (t.toInt % 6).bmod _ = _
  exact g_bmod (by omega) (by omega)
theorem d_r7 {t : Int64} (h : 0 ≤ t.toInt ∧ t.toInt < 32768) : (t - t / (7 : Int32).toInt64 * (7 : Int32).toInt64).toInt32.toInt = t.toInt % 7 := by
  rw [Int64.toInt_toInt32, d_rem (k := (7 : Int32).toInt64) h.1 (by decide)]
  show (t.toInt % 7).bmod _ = _
  exact g_bmod (by omega) (by omega)
/-- the rest of an int by 7 and by 6 -/
theorem d_m7 (x : Int32) : (x - x / 7 * 7).toInt = x.toInt.tmod 7 := by
  have r := g_rng x
  have t1 := Int.tmod_add_mul_tdiv x.toInt 7
  have b : (0 ≤ x.toInt ∧ x.toInt.tdiv 7 = x.toInt / 7) ∨ (x.toInt < 0 ∧ x.toInt.tdiv 7 = -((-x.toInt) / 7)) := by
    rcases (by omega : x.toInt < 0 ∨ 0 ≤ x.toInt) with q | q
    · refine Or.inr ⟨q, ?_⟩
      have e : x.toInt.tdiv 7 = -((-x.toInt).tdiv 7) := by rw [Int.neg_tdiv, Int.neg_neg]
      rw [e, Int.tdiv_eq_ediv_of_nonneg (by omega)]
    · exact Or.inl ⟨q, Int.tdiv_eq_ediv_of_nonneg q⟩
  have b2 : -306783379 ≤ x.toInt.tdiv 7 ∧ x.toInt.tdiv 7 ≤ 306783378 := by
    rcases b with b | b <;> omega
  have b3 : -2147483648 ≤ x.toInt.tdiv 7 * 7 ∧ x.toInt.tdiv 7 * 7 ≤ 2147483647 ∧ -7 < x.toInt - x.toInt.tdiv 7 * 7 ∧ x.toInt - x.toInt.tdiv 7 * 7 < 7 := by
    rcases b with b | b <;> omega
  have e : (x / 7).toInt = x.toInt.tdiv 7 := by
    rw [Int32.toInt_div]; show (x.toInt.tdiv 7).bmod _ = _; exact g_bmod (by omega) (by omega)
  have em : (x / 7 * 7).toInt = x.toInt.tdiv 7 * 7 := by
    rw [Int32.toInt_mul, e]; show (x.toInt.tdiv 7 * 7).bmod _ = _; exact g_bmod (by omega) (by omega)
  rw [g_sub (by rw [em]; omega) (by rw [em]; omega), em]; omega
theorem d_m6 {x : Int32} (h : 0 ≤ x.toInt) : (x - x / 6 * 6).toInt = x.toInt % 6 := by
  have r := g_rng x
  have e : (x / 6).toInt = x.toInt / 6 := by
    rw [Int32.toInt_div]; show (x.toInt.tdiv 6).bmod _ = _; rw [Int.tdiv_eq_ediv_of_nonneg h]; exact g_bmod (by omega) (by omega)
  have em : (x / 6 * 6).toInt = x.toInt / 6 * 6 := by
    rw [Int32.toInt_mul, e]; show (x.toInt / 6 * 6).bmod _ = _; exact g_bmod (by omega) (by omega)
  rw [g_sub (by rw [em]; omega) (by rw [em]; omega), em]; omega
theorem d_lo.go {t b j left : Int} (h : d_lo t b j left) (hj : j < 7) (hb : j ≠ b) (hl : left ≠ 0) : d_lo t b (j + 1) (left - 1) := by
  unfold d_lo at h ⊢; omega
theorem d_lo.pass {t b j left : Int} (h : d_lo t b j left) (hj : j < 7) (hb : j = b) : d_lo t b (j + 1) left := by
  unfold d_lo at h ⊢; omega
theorem d_lo.ret {t b j : Int} (h : d_lo t b j 0) (hb : j ≠ b) : j = d_md t b := by
  unfold d_lo at h; unfold d_md; split
  · omega
  · split <;> omega
theorem d_lo.out {t b left : Int} (h : d_lo t b 7 left) : False := by
  unfold d_lo at h; omega
theorem d_lo.in7 {t b : Int} (h : b < 0) : d_lo t b 0 (t % 7) := by unfold d_lo; omega
theorem d_lo.in6 {t b : Int} (h : 0 ≤ b) (h7 : b < 7) : d_lo t b 0 (t % 6) := by unfold d_lo; omega
