/-! bits, how many; the shops of a set as a row -/
theorem j_us {f : Nat → Int64} {k : Nat} {x : Int64} : vp_updL f k x k = x := if_pos rfl
theorem j_ul {f : Nat → Int64} {k j : Nat} {x : Int64} (h : j ≠ k) : vp_updL f k x j = f j := if_neg h
def j_c (S : Nat → Bool) : Nat → Nat
  | 0 => 0
  | n + 1 => j_c S n + (if S n = true then 1 else 0)
theorem j_c.cg {S T : Nat → Bool} : ∀ n : Nat, (∀ i, i < n → S i = T i) → j_c S n = j_c T n
  | 0, _ => rfl
  | n + 1, h => by
    show j_c S n + _ = j_c T n + _
    rw [j_c.cg n (fun i hi => h i (by omega)), h n (by omega)]
theorem j_c.cut {S : Nat → Bool} (m : Nat) : ∀ n : Nat, j_c S (m + n) = j_c S m + j_c (fun i => S (m + i)) n
  | 0 => rfl
  | n + 1 => by
    show j_c S (m + n) + _ = j_c S m + (j_c (fun i => S (m + i)) n + _)
    rw [j_c.cut m n]; exact Nat.add_assoc _ _ _
def j_b (x : Int32) (i : Nat) : Bool := x.toBitVec.getLsbD i
theorem j_sh : ∀ i : Nat, i < 20 → ((Int32.ofNat i &&& 31).toBitVec.smod 32).toNat = i := by decide
theorem j_bit {x : Int32} {i : Nat} (hi : i < 20) : ((x >>> (Int32.ofNat i &&& 31)) &&& 1) = if j_b x i = true then 1 else 0 := by
  have e : ((x >>> (Int32.ofNat i &&& 31)) &&& 1).toBitVec = BitVec.setWidth 32 (BitVec.ofBool ((x >>> (Int32.ofNat i &&& 31)).toBitVec.getLsbD 0)) := BitVec.and_one_eq_setWidth_ofBool_getLsbD
  have e2 : (x >>> (Int32.ofNat i &&& 31)).toBitVec.getLsbD 0 = j_b x i := by
    rw [Int32.toBitVec_shiftRight, BitVec.getLsbD_sshiftRight', j_sh i hi]
    show (!decide (32 ≤ 0) && if i + 0 < 32 then x.toBitVec.getLsbD (i + 0) else x.toBitVec.msb) = _
    rw [if_pos (by omega)]; rfl
  rw [e2] at e
  cases h : j_b x i with
  | false => rw [h] at e; rw [if_neg (by decide)]; exact Int32.toBitVec_inj.mp e
  | true => rw [h] at e; rw [if_pos rfl]; exact Int32.toBitVec_inj.mp e
theorem j_bit1 {x : Int32} {i : Nat} (hi : i < 20) : (x >>> (Int32.ofNat i &&& 31)) &&& 1 = 1 ↔ j_b x i = true := by
  rw [j_bit hi]
  cases j_b x i with
  | false => rw [if_neg (by decide)]; exact ⟨fun h => absurd h (by decide), fun h => by cases h⟩
  | true => rw [if_pos rfl]; exact ⟨fun _ => rfl, fun _ => rfl⟩
theorem j_bit0 {x : Int32} {i : Nat} (hi : i < 20) : (x >>> (Int32.ofNat i &&& 31)) &&& 1 = 0 ↔ ¬ j_b x i = true := by
  rw [j_bit hi]
  cases j_b x i with
  | false => rw [if_neg (by decide)]; exact ⟨fun _ => by decide, fun _ => rfl⟩
  | true => rw [if_pos rfl]; exact ⟨fun h => absurd h (by decide), fun h => absurd rfl h⟩
/-- by a number of the machine's -/
theorem j_bi1 {x i : Int32} (h0 : 0 ≤ i.toInt) (h1 : i.toInt < 20) : (x >>> (i &&& 31)) &&& 1 = 1 ↔ j_b x i.toNatClampNeg = true := by
  have c := g_clamp i
  have w := j_bit1 (x := x) (i := i.toNatClampNeg) (by omega)
  rw [g_ofc h0] at w; exact w
theorem j_bi0 {x i : Int32} (h0 : 0 ≤ i.toInt) (h1 : i.toInt < 20) : (x >>> (i &&& 31)) &&& 1 = 0 ↔ ¬ j_b x i.toNatClampNeg = true := by
  have c := g_clamp i
  have w := j_bit0 (x := x) (i := i.toNatClampNeg) (by omega)
  rw [g_ofc h0] at w; exact w
theorem j_nat {x : Int32} (h0 : 0 ≤ x.toInt) : x.toBitVec.toNat = x.toNatClampNeg := by
  have e : x.toInt = x.toBitVec.toInt := rfl
  have c := g_clamp x
  have l := x.toBitVec.isLt
  rw [BitVec.toInt_eq_toNat_cond] at e
  split at e <;> omega
theorem j_tb {x : Int32} (h0 : 0 ≤ x.toInt) (i : Nat) : j_b x i = x.toNatClampNeg.testBit i := by
  rw [← j_nat h0]; rfl
theorem j_bc (x : Int32) : ∀ n : Nat, n ≤ 20 → g_bc x n = j_c (j_b x) n
  | 0, _ => rfl
  | n + 1, h => by
    show g_bc x n + ((x >>> (Int32.ofNat n &&& 31)) &&& 1).toInt.toNat = j_c (j_b x) n + _
    rw [j_bc x n (by omega), j_bit (by omega)]
    cases j_b x n with
    | false => rw [if_neg (by decide), if_neg (by decide)]; rfl
    | true => rw [if_pos rfl, if_pos rfl]; rfl
theorem j_bs {x : Int32} {n : Nat} (h : n < 20) : g_bc x (n + 1) = g_bc x n + (if j_b x n = true then 1 else 0) := by
  rw [j_bc x (n + 1) (by omega), j_bc x n (by omega)]; rfl
/-- the shops of a set, in a row -/
def j_ls (S : Nat → Int32) (x : Int32) (m : Nat) : Prop := ∀ s : Nat, s < m → j_b x s = true → S (g_bc x s) = Int32.ofNat s
section JLS
variable {S T : Nat → Int32} {x i k : Int32} {m n : Nat}
theorem j_ls.nil : j_ls S x 0 := fun _ h => absurd h (Nat.not_lt_zero _)
theorem j_ls.zero : j_ls S x (0 : Int32).toNatClampNeg := fun _ h => absurd h (Nat.not_lt_zero _)
theorem j_ls.no (h : j_ls S x i.toNatClampNeg) (h0 : 0 ≤ i.toInt) (h1 : i.toInt < 20) (hb : ¬ (x >>> (i &&& 31)) &&& 1 = 1) : j_ls S x (i + 1).toNatClampNeg := by
  rw [(g_up h0 (by omega)).2]
  intro s hs q
  rcases Nat.lt_or_ge s i.toNatClampNeg with z | z
  · exact h s z q
  · have e : s = i.toNatClampNeg := by omega
    rw [e] at q; exact absurd ((j_bi1 h0 h1).mpr q) hb
theorem j_ls.put (h : j_ls S x i.toNatClampNeg) (h0 : 0 ≤ i.toInt) (h1 : i.toInt < 20) (hk : k.toInt = (g_bc x i.toNatClampNeg : Int)) : j_ls (upd S k.toNatClampNeg i) x (i + 1).toNatClampNeg := by
  have c := g_clamp i
  have ek : k.toNatClampNeg = g_bc x i.toNatClampNeg := by have := g_clamp k; omega
  rw [(g_up h0 (by omega)).2, ek]
  intro s hs q
  rcases Nat.lt_or_ge s i.toNatClampNeg with z | z
  · have a := j_bs (x := x) (n := s) (by omega)
    rw [if_pos q] at a
    have b := g_bc_m x (i := s + 1) (j := i.toNatClampNeg) z
    rw [pk_un (by omega)]
    exact h s z q
  · have e : s = i.toNatClampNeg := by omega
    rw [e, pk_us, g_ofc h0]
theorem j_q0 (hk : k.toInt = (g_bc x i.toNatClampNeg : Int)) (h0 : 0 ≤ i.toInt) (h1 : i.toInt < 20) (hb : ¬ (x >>> (i &&& 31)) &&& 1 = 1) : k.toInt = (g_bc x (i + 1).toNatClampNeg : Int) := by
  have c := g_clamp i
  have a := j_bs (x := x) (n := i.toNatClampNeg) (by omega)
  rw [if_neg (fun q => hb ((j_bi1 h0 h1).mpr q))] at a
  rw [(g_up h0 (by omega)).2, a]; omega
theorem j_q1 (hk : k.toInt = (g_bc x i.toNatClampNeg : Int)) (h0 : 0 ≤ i.toInt) (h1 : i.toInt < 20) (hb : (x >>> (i &&& 31)) &&& 1 = 1) : (k + 1).toInt = (g_bc x (i + 1).toNatClampNeg : Int) := by
  have c := g_clamp i
  have a := j_bs (x := x) (n := i.toNatClampNeg) (by omega)
  have l := g_bc_le x i.toNatClampNeg
  rw [if_pos ((j_bi1 h0 h1).mp hb)] at a
  rw [(g_up h0 (by omega)).2, a, (g_up (i := k) (by omega) (by omega)).1]; omega
theorem j_q8 (hk : k.toInt = (g_bc x i.toNatClampNeg : Int)) (h0 : 0 ≤ i.toInt) (h1 : i.toInt < 20) (hb : (x >>> (i &&& 31)) &&& 1 = 1) (hx : (g_bc x 20 : Int) ≤ 8) : k.toInt < 8 := by
  have c := g_clamp i
  have a := j_bs (x := x) (n := i.toNatClampNeg) (by omega)
  rw [if_pos ((j_bi1 h0 h1).mp hb)] at a
  have b := g_bc_m x (i := i.toNatClampNeg + 1) (j := 20) (by omega)
  omega
/-- every place of the row is a shop's -/
theorem j_ls.at (h : j_ls S x m) (hm : m ≤ 20) : ∀ {k : Nat}, k < g_bc x m → ∃ s, s < m ∧ j_b x s = true ∧ g_bc x s = k ∧ S k = Int32.ofNat s := by
  induction m with
  | zero => intro k hk; exact absurd hk (Nat.not_lt_zero _)
  | succ m ih =>
    intro k hk
    have a := j_bs (x := x) (n := m) (by omega)
    by_cases q : k < g_bc x m
    · obtain ⟨s, s1, s2, s3⟩ := ih (fun s hs => h s (by omega)) (by omega) q
      exact ⟨s, by omega, s2, s3⟩
    · by_cases e : j_b x m = true
      · rw [if_pos e] at a
        have ek : g_bc x m = k := by omega
        exact ⟨m, by omega, e, ek, by rw [← ek]; exact h m (by omega) e⟩
      · rw [if_neg e] at a; omega
theorem j_ls.eq (h : j_ls S x m) (h' : j_ls T x m) (hm : m ≤ 20) {k : Nat} (hk : k < g_bc x m) : S k = T k := by
  obtain ⟨s, s1, s2, s3, s4⟩ := h.at hm hk
  have w := h' s s1 s2
  rw [s3] at w
  exact s4.trans w.symm
/-- the place of a shop of the set -/
theorem j_ls.has (h : j_ls S x m) (hm : m ≤ 20) {s : Nat} (hs : s < m) (hb : j_b x s = true) : g_bc x s < g_bc x m ∧ S (g_bc x s) = Int32.ofNat s := by
  have a := j_bs (x := x) (n := s) (by omega)
  rw [if_pos hb] at a
  have b := g_bc_m x (i := s + 1) (j := m) hs
  exact ⟨by omega, h s hs hb⟩
theorem j_ls.one (h : j_ls S x m) (hm : m ≤ 20) {a b : Nat} (ha : a < g_bc x m) (hb : b < g_bc x m) (e : S a = S b) : a = b := by
  obtain ⟨s, s1, s2, s3, s4⟩ := h.at hm ha
  obtain ⟨t, t1, t2, t3, t4⟩ := h.at hm hb
  have w : Int32.ofNat s = Int32.ofNat t := by rw [← s4, ← t4, e]
  have e1 : (Int32.ofNat s).toInt = s := Int32.toInt_ofNat_of_lt (by omega)
  have e2 : (Int32.ofNat t).toInt = t := Int32.toInt_ofNat_of_lt (by omega)
  rw [w] at e1
  have : s = t := by omega
  rw [← s3, ← t3, this]
end JLS
/-! how many bits: the machine's way, by bytes -/
theorem j_and (y M : Nat) : y &&& M = ((y % 256) &&& (M % 256)) + 256 * ((y / 256 % 256) &&& (M / 256 % 256)) + 65536 * ((y / 65536) &&& (M / 65536)) := by
  have a1 : (y &&& M) % 2 ^ 8 = (y % 2 ^ 8) &&& (M % 2 ^ 8) := Nat.and_mod_two_pow
  have a2 : (y &&& M) / 2 ^ 8 = y / 2 ^ 8 &&& M / 2 ^ 8 := Nat.and_div_two_pow
  have a3 : (y / 2 ^ 8 &&& M / 2 ^ 8) % 2 ^ 8 = (y / 2 ^ 8 % 2 ^ 8) &&& (M / 2 ^ 8 % 2 ^ 8) := Nat.and_mod_two_pow
  have a4 : (y &&& M) / 2 ^ 16 = y / 2 ^ 16 &&& M / 2 ^ 16 := Nat.and_div_two_pow
  simp only [Nat.reducePow] at a1 a2 a3 a4
  rw [← a1, ← a3, ← a2, ← a4]
  omega
def j_f1 (x : Nat) : Nat := x - (x / 2 &&& 85)
def j_f2 (x : Nat) : Nat := (x &&& 51) + (x / 4 &&& 51)
def j_f3 (x : Nat) : Nat := (x + x / 16) &&& 15
theorem j_f1.t : ∀ a : Nat, a < 256 → ∀ t : Nat, t < 2 → ((a / 2 + 128 * t) &&& 85) = (a / 2 &&& 85) := by decide +kernel
theorem j_f2.t : ∀ a : Nat, a < 256 → ∀ t : Nat, t < 4 → ((a / 4 + 64 * t) &&& 51) = (a / 4 &&& 51) := by decide +kernel
theorem j_f3.t : ∀ a : Nat, a < 100 → ∀ t : Nat, t < 5 → (a + a / 16 + 16 * t < 256 ∧ ((a + a / 16 + 16 * t) &&& 15) = ((a + a / 16) &&& 15)) := by decide +kernel
theorem j_f.n : ∀ a : Nat, a < 256 → (a / 2 &&& 85) ≤ a ∧ j_f2 (j_f1 a) < 100 ∧ j_f2 (j_f1 a) % 16 < 5 ∧ j_f2 (j_f1 a) / 16 < 5 ∧ j_f3 (j_f2 (j_f1 a)) = j_c a.testBit 8 ∧ j_c a.testBit 8 ≤ 8 ∧ (j_f1 a &&& 51) + (j_f1 a / 4 &&& 51) < 100 := by decide +kernel
theorem j_f.m : ∀ c : Nat, c < 16 → (c / 2 &&& 21845) = (c / 2 &&& 85) ∧ (j_f1 c &&& 13107) = (j_f1 c &&& 51) ∧ (j_f1 c / 4 &&& 13107) = (j_f1 c / 4 &&& 51) ∧ ((j_f2 (j_f1 c) + j_f2 (j_f1 c) / 16) &&& 3855) = j_f3 (j_f2 (j_f1 c)) := by decide +kernel
theorem j_n1 {a b c : Nat} (ha : a < 256) (hb : b < 256) (hc : c < 16) : (a + 256 * b + 65536 * c) / 2 &&& 1431655765 ≤ a + 256 * b + 65536 * c ∧ (a + 256 * b + 65536 * c) - ((a + 256 * b + 65536 * c) / 2 &&& 1431655765) = j_f1 a + 256 * j_f1 b + 65536 * j_f1 c := by
  rw [j_and]
  have e1 : (a + 256 * b + 65536 * c) / 2 % 256 = a / 2 + 128 * (b % 2) := by omega
  have e2 : (a + 256 * b + 65536 * c) / 2 / 256 % 256 = b / 2 + 128 * (c % 2) := by omega
  have e3 : (a + 256 * b + 65536 * c) / 2 / 65536 = c / 2 := by omega
  rw [e1, e2, e3]
  simp only [Nat.reduceMod, Nat.reduceDiv]
  rw [j_f1.t a ha _ (by omega), j_f1.t b hb _ (by omega), (j_f.m c hc).1]
  have n1 := (j_f.n a ha).1
  have n2 := (j_f.n b hb).1
  have n3 := (j_f.n c (by omega)).1
  unfold j_f1
  omega
theorem j_n2 {a b c : Nat} (ha : a < 256) (hb : b < 256) (hc : c < 16) : ((j_f1 a + 256 * j_f1 b + 65536 * j_f1 c) &&& 858993459) + ((j_f1 a + 256 * j_f1 b + 65536 * j_f1 c) / 4 &&& 858993459) = j_f2 (j_f1 a) + 256 * j_f2 (j_f1 b) + 65536 * j_f2 (j_f1 c) := by
  have l1 : j_f1 a < 256 := by unfold j_f1; omega
  have l2 : j_f1 b < 256 := by unfold j_f1; omega
  have l3 : j_f1 c < 16 := by unfold j_f1; omega
  have m := j_f.m c hc
  rw [j_and, j_and ((j_f1 a + 256 * j_f1 b + 65536 * j_f1 c) / 4)]
  have e1 : (j_f1 a + 256 * j_f1 b + 65536 * j_f1 c) / 4 % 256 = j_f1 a / 4 + 64 * (j_f1 b % 4) := by omega
  have e2 : (j_f1 a + 256 * j_f1 b + 65536 * j_f1 c) / 4 / 256 % 256 = j_f1 b / 4 + 64 * (j_f1 c % 4) := by omega
  have e3 : (j_f1 a + 256 * j_f1 b + 65536 * j_f1 c) / 4 / 65536 = j_f1 c / 4 := by omega
  have d1 : (j_f1 a + 256 * j_f1 b + 65536 * j_f1 c) % 256 = j_f1 a := by omega
  have d2 : (j_f1 a + 256 * j_f1 b + 65536 * j_f1 c) / 256 % 256 = j_f1 b := by omega
  have d3 : (j_f1 a + 256 * j_f1 b + 65536 * j_f1 c) / 65536 = j_f1 c := by omega
  rw [e1, e2, e3, d1, d2, d3]
  simp only [Nat.reduceMod, Nat.reduceDiv]
  rw [j_f2.t _ l1 _ (by omega), j_f2.t _ l2 _ (by omega), m.2.1, m.2.2.1]
  unfold j_f2
  omega
theorem j_n3 {a b c : Nat} (ha : a < 256) (hb : b < 256) (hc : c < 16) : ((j_f2 (j_f1 a) + 256 * j_f2 (j_f1 b) + 65536 * j_f2 (j_f1 c)) + (j_f2 (j_f1 a) + 256 * j_f2 (j_f1 b) + 65536 * j_f2 (j_f1 c)) / 16) &&& 252645135 = j_c a.testBit 8 + 256 * j_c b.testBit 8 + 65536 * j_c c.testBit 8 := by
  have na := (j_f.n a ha).2
  have nb := (j_f.n b hb).2
  have nc := (j_f.n c (by omega)).2
  have m := (j_f.m c hc).2.2.2
  rw [← na.2.2.2.1, ← nb.2.2.2.1, ← nc.2.2.2.1]
  generalize j_f2 (j_f1 a) = A at *
  generalize j_f2 (j_f1 b) = B at *
  generalize j_f2 (j_f1 c) = C at *
  have t1 := j_f3.t A na.1 (B % 16) nb.2.1
  have t2 := j_f3.t B nb.1 (C % 16) nc.2.1
  have e1 : (A + 256 * B + 65536 * C + (A + 256 * B + 65536 * C) / 16) % 256 = A + A / 16 + 16 * (B % 16) := by omega
  have e2 : (A + 256 * B + 65536 * C + (A + 256 * B + 65536 * C) / 16) / 256 % 256 = B + B / 16 + 16 * (C % 16) := by omega
  have e3 : (A + 256 * B + 65536 * C + (A + 256 * B + 65536 * C) / 16) / 65536 = C + C / 16 := by omega
  rw [j_and, e1, e2, e3]
  simp only [Nat.reduceMod, Nat.reduceDiv]
  rw [t1.2, t2.2, m]
  rfl
/-- the machine's steps -/
def j_s1 (x : Int32) : Int32 := x - ((x.toUInt32 >>> ((1 : Int32).toUInt32 &&& Int32.toUInt32 31)).toInt32 &&& 1431655765)
def j_s2 (x : Int32) : Int32 := (x &&& 858993459) + ((x.toUInt32 >>> ((2 : Int32).toUInt32 &&& Int32.toUInt32 31)).toInt32 &&& 858993459)
def j_s3 (x : Int32) : Int32 := (x + (x.toUInt32 >>> ((4 : Int32).toUInt32 &&& Int32.toUInt32 31)).toInt32) &&& 252645135
def j_s4 (x : Int32) : Int32 := x + (x.toUInt32 >>> ((8 : Int32).toUInt32 &&& Int32.toUInt32 31)).toInt32
def j_s5 (x : Int32) : Int32 := x + (x.toUInt32 >>> ((16 : Int32).toUInt32 &&& Int32.toUInt32 31)).toInt32
theorem j_un (x k : Int32) {n : Nat} (h : (k.toUInt32 &&& Int32.toUInt32 31).toNat % 32 = n) : (x.toUInt32 >>> (k.toUInt32 &&& Int32.toUInt32 31)).toInt32.toBitVec.toNat = x.toBitVec.toNat / 2 ^ n := by
  have e : (x.toUInt32 >>> (k.toUInt32 &&& Int32.toUInt32 31)).toNat = x.toUInt32.toNat >>> ((k.toUInt32 &&& Int32.toUInt32 31).toNat % 32) := UInt32.toNat_shiftRight _ _
  rw [h, Nat.shiftRight_eq_div_pow] at e
  exact e
theorem j_an (x y : Int32) : (x &&& y).toBitVec.toNat = x.toBitVec.toNat &&& y.toBitVec.toNat := by
  rw [Int32.toBitVec_and]; exact BitVec.toNat_and _ _
theorem j_ad {x y : Int32} (h : x.toBitVec.toNat + y.toBitVec.toNat < 4294967296) : (x + y).toBitVec.toNat = x.toBitVec.toNat + y.toBitVec.toNat := by
  rw [Int32.toBitVec_add, BitVec.toNat_add]; exact Nat.mod_eq_of_lt h
theorem j_sb {x y : Int32} (h : y.toBitVec.toNat ≤ x.toBitVec.toNat) : (x - y).toBitVec.toNat = x.toBitVec.toNat - y.toBitVec.toNat := by
  have l := x.toBitVec.isLt
  rw [Int32.toBitVec_sub, BitVec.toNat_sub]
  omega
theorem j_pop {n : Nat} (h : n < 1048576) : j_c n.testBit 20 = j_c (n % 256).testBit 8 + j_c (n / 256 % 256).testBit 8 + j_c (n / 65536).testBit 8 := by
  have b1 : ∀ i, i < 8 → n.testBit i = (n % 256).testBit i := fun i hi => by
    have e : (n % 2 ^ 8).testBit i = (decide (i < 8) && n.testBit i) := Nat.testBit_mod_two_pow _ _ _
    rw [decide_eq_true hi, Bool.true_and] at e
    exact e.symm
  have b2 : ∀ i, i < 8 → n.testBit (8 + i) = (n / 256 % 256).testBit i := fun i hi => by
    have e : (n / 2 ^ 8 % 2 ^ 8).testBit i = (decide (i < 8) && (n / 2 ^ 8).testBit i) := Nat.testBit_mod_two_pow _ _ _
    rw [decide_eq_true hi, Bool.true_and, Nat.testBit_div_two_pow] at e
    rw [Nat.add_comm]; exact e.symm
  have b3 : ∀ i, n.testBit (16 + i) = (n / 65536).testBit i := fun i => by
    have e : (n / 2 ^ 16).testBit i = n.testBit (i + 16) := Nat.testBit_div_two_pow _ _
    rw [Nat.add_comm]; exact e.symm
  have c1 : j_c n.testBit (8 + 12) = j_c n.testBit 8 + j_c (fun i => n.testBit (8 + i)) (8 + 4) := j_c.cut 8 12
  have c2 : j_c (fun i => n.testBit (8 + i)) (8 + 4) = j_c (fun i => n.testBit (8 + i)) 8 + j_c (fun i => n.testBit (8 + (8 + i))) 4 := j_c.cut 8 4
  have c3 : j_c (n / 65536).testBit (4 + 4) = j_c (n / 65536).testBit 4 + j_c (fun i => (n / 65536).testBit (4 + i)) 4 := j_c.cut 4 4
  have z : ∀ i, i < 4 → (fun i => (n / 65536).testBit (4 + i)) i = (fun _ => false) i := fun i _ => by
    refine Nat.testBit_lt_two_pow (Nat.lt_of_lt_of_le (by omega : n / 65536 < 16) ?_)
    show 2 ^ 4 ≤ 2 ^ (4 + i)
    exact Nat.pow_le_pow_right (by decide) (by omega)
  rw [j_c.cg 4 z] at c3
  have f : j_c (fun _ => false) 4 = 0 := by decide
  have d2 : j_c (fun i => n.testBit (8 + (8 + i))) 4 = j_c (n / 65536).testBit 4 := j_c.cg 4 (fun i _ => by
    show n.testBit (8 + (8 + i)) = _
    rw [show 8 + (8 + i) = 16 + i by omega]; exact b3 i)
  rw [j_c.cg 8 b1] at c1
  rw [j_c.cg 8 b2, d2] at c2
  have c0 : j_c n.testBit (8 + 12) = j_c n.testBit 20 := rfl
  have c9 : j_c (n / 65536).testBit (4 + 4) = j_c (n / 65536).testBit 8 := rfl
  rw [c0] at c1
  rw [c9] at c3
  omega
theorem j_bitcount {x : Int32} (h0 : 0 ≤ x.toInt) (h1 : x.toInt < 1048576) : (j_s5 (j_s4 (j_s3 (j_s2 (j_s1 x)))) &&& 63).toInt = (g_bc x 20 : Int) := by
  have cx := g_clamp x
  have nx := j_nat h0
  have hn : x.toNatClampNeg < 1048576 := by omega
  have ha : x.toNatClampNeg % 256 < 256 := by omega
  have hb : x.toNatClampNeg / 256 % 256 < 256 := by omega
  have hc : x.toNatClampNeg / 65536 < 16 := by omega
  have en : x.toNatClampNeg = x.toNatClampNeg % 256 + 256 * (x.toNatClampNeg / 256 % 256) + 65536 * (x.toNatClampNeg / 65536) := by omega
  have pop := j_pop hn
  have bc : g_bc x 20 = j_c x.toNatClampNeg.testBit 20 := by
    rw [j_bc x 20 (Nat.le_refl _)]; exact j_c.cg 20 (fun i _ => j_tb h0 i)
  rw [bc, pop]
  have s1 : (j_s1 x).toBitVec.toNat = j_f1 (x.toNatClampNeg % 256) + 256 * j_f1 (x.toNatClampNeg / 256 % 256) + 65536 * j_f1 (x.toNatClampNeg / 65536) := by
    have k := j_n1 ha hb hc
    rw [← en] at k
    have e : ((x.toUInt32 >>> ((1 : Int32).toUInt32 &&& Int32.toUInt32 31)).toInt32 &&& 1431655765).toBitVec.toNat = x.toNatClampNeg / 2 &&& 1431655765 := by
      rw [j_an, j_un x 1 (n := 1) (by decide), nx]; rfl
    unfold j_s1
    rw [j_sb (by rw [e, nx]; exact k.1), e, nx]
    exact k.2
  generalize x.toNatClampNeg % 256 = a at *
  generalize x.toNatClampNeg / 256 % 256 = b at *
  generalize x.toNatClampNeg / 65536 = c at *
  have s2 : (j_s2 (j_s1 x)).toBitVec.toNat = j_f2 (j_f1 a) + 256 * j_f2 (j_f1 b) + 65536 * j_f2 (j_f1 c) := by
    have k := j_n2 ha hb hc
    have e : (((j_s1 x).toUInt32 >>> ((2 : Int32).toUInt32 &&& Int32.toUInt32 31)).toInt32 &&& 858993459).toBitVec.toNat = (j_f1 a + 256 * j_f1 b + 65536 * j_f1 c) / 4 &&& 858993459 := by
      rw [j_an, j_un (j_s1 x) 2 (n := 2) (by decide), s1]; rfl
    have e2 : (j_s1 x &&& 858993459).toBitVec.toNat = (j_f1 a + 256 * j_f1 b + 65536 * j_f1 c) &&& 858993459 := by
      rw [j_an, s1]; rfl
    have na := (j_f.n a ha).2.1
    have nb := (j_f.n b hb).2.1
    have nc := (j_f.n c (by omega)).2.1
    show (_ + _ : Int32).toBitVec.toNat = _
    rw [j_ad (by rw [e, e2, k]; omega), e, e2]
    exact k
  have pa := (j_f.n a ha).2.2.2.2.2.1
  have pb := (j_f.n b hb).2.2.2.2.2.1
  have pc := (j_f.n c (by omega)).2.2.2.2.2.1
  have s3 : (j_s3 (j_s2 (j_s1 x))).toBitVec.toNat = j_c a.testBit 8 + 256 * j_c b.testBit 8 + 65536 * j_c c.testBit 8 := by
    have k := j_n3 ha hb hc
    have na := (j_f.n a ha).2.1
    have nb := (j_f.n b hb).2.1
    have nc := (j_f.n c (by omega)).2.1
    have e : ((j_s2 (j_s1 x)).toUInt32 >>> ((4 : Int32).toUInt32 &&& Int32.toUInt32 31)).toInt32.toBitVec.toNat = (j_f2 (j_f1 a) + 256 * j_f2 (j_f1 b) + 65536 * j_f2 (j_f1 c)) / 16 := by
      have t := j_un (j_s2 (j_s1 x)) 4 (n := 4) (by decide)
      rw [s2] at t; exact t
    show ((j_s2 (j_s1 x) + _) &&& 252645135 : Int32).toBitVec.toNat = _
    rw [j_an, j_ad (by rw [e, s2]; omega), e, s2]
    exact k
  generalize j_s3 (j_s2 (j_s1 x)) = y at *
  have s4 : (j_s4 y).toBitVec.toNat = (j_c a.testBit 8 + 256 * j_c b.testBit 8 + 65536 * j_c c.testBit 8) + (j_c b.testBit 8 + 256 * j_c c.testBit 8) := by
    have e : (y.toUInt32 >>> ((8 : Int32).toUInt32 &&& Int32.toUInt32 31)).toInt32.toBitVec.toNat = j_c b.testBit 8 + 256 * j_c c.testBit 8 := by
      rw [j_un y 8 (n := 8) (by decide), s3]; simp only [Nat.reducePow]; omega
    show (y + _ : Int32).toBitVec.toNat = _
    rw [j_ad (by rw [e, s3]; omega), e, s3]
  have s5 : (j_s5 (j_s4 y)).toBitVec.toNat = (j_c a.testBit 8 + 256 * j_c b.testBit 8 + 65536 * j_c c.testBit 8) + (j_c b.testBit 8 + 256 * j_c c.testBit 8) + j_c c.testBit 8 := by
    have e : ((j_s4 y).toUInt32 >>> ((16 : Int32).toUInt32 &&& Int32.toUInt32 31)).toInt32.toBitVec.toNat = j_c c.testBit 8 := by
      rw [j_un (j_s4 y) 16 (n := 16) (by decide), s4]; simp only [Nat.reducePow]; omega
    show (j_s4 y + _ : Int32).toBitVec.toNat = _
    rw [j_ad (by rw [e, s4]; omega), e, s4]
  have r : (j_s5 (j_s4 y) &&& 63).toBitVec.toNat = j_c a.testBit 8 + j_c b.testBit 8 + j_c c.testBit 8 := by
    have w : (j_s5 (j_s4 y)).toBitVec.toNat &&& 2 ^ 6 - 1 = (j_s5 (j_s4 y)).toBitVec.toNat % 2 ^ 6 := Nat.and_two_pow_sub_one_eq_mod _ _
    rw [j_an]
    show (j_s5 (j_s4 y)).toBitVec.toNat &&& 2 ^ 6 - 1 = _
    rw [w, s5]; simp only [Nat.reducePow]; omega
  have f : (j_s5 (j_s4 y) &&& 63).toInt = (j_s5 (j_s4 y) &&& 63).toBitVec.toInt := rfl
  rw [f, BitVec.toInt_eq_toNat_cond, r, if_pos (by simp only [Nat.reducePow]; omega)]
