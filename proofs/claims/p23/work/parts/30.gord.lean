/-! rows of order, and what is given -/
theorem g_cl {i n : Int32} (h0 : 0 ≤ i.toInt) (h1 : i.toInt < n.toInt) : i.toNatClampNeg < n.toNatClampNeg := by
  rw [g_clamp, g_clamp]; omega
/-- how many of the first n are less than y -/
def g_ls (f : Nat → Int32) (y : Int) : Nat → Nat
  | 0 => 0
  | n + 1 => g_ls f y n + (if (f n).toInt < y then 1 else 0)
theorem g_ls_le (f : Nat → Int32) (y : Int) : ∀ n, g_ls f y n ≤ n
  | 0 => Nat.le_refl _
  | n + 1 => by
    have := g_ls_le f y n
    show g_ls f y n + (if (f n).toInt < y then 1 else 0) ≤ n + 1
    split <;> omega
theorem g_ls_m (f : Nat → Int32) {x y : Int} (h : x ≤ y) : ∀ n, g_ls f x n ≤ g_ls f y n
  | 0 => Nat.le_refl _
  | n + 1 => by
    have := g_ls_m f h n
    show g_ls f x n + (if (f n).toInt < x then 1 else 0) ≤ g_ls f y n + (if (f n).toInt < y then 1 else 0)
    split <;> split <;> omega
theorem g_ls_lt (f : Nat → Int32) {y : Int} {a : Nat} (h : (f a).toInt < y) : ∀ n, a < n → g_ls f (f a).toInt n + 1 ≤ g_ls f y n
  | 0, ha => absurd ha (Nat.not_lt_zero _)
  | n + 1, ha => by
    show g_ls f (f a).toInt n + (if (f n).toInt < (f a).toInt then 1 else 0) + 1 ≤ g_ls f y n + (if (f n).toInt < y then 1 else 0)
    by_cases e : a = n
    · subst e
      have := g_ls_m f (Int.le_of_lt h) a
      rw [if_neg (Int.lt_irrefl _), if_pos h]; omega
    · have := g_ls_lt f h n (by omega)
      split <;> split <;> omega
/-- the sum of the first n -/
def g_tt (r : Nat → Int32) : Nat → Nat
  | 0 => 0
  | n + 1 => g_tt r n + (r n).toInt.toNat
theorem g_tt_o (r : Nat → Int32) (b : Nat) (x : Int32) : ∀ n, n ≤ b → g_tt (upd r b x) n = g_tt r n
  | 0, _ => rfl
  | n + 1, h => by
    show g_tt (upd r b x) n + (upd r b x n).toInt.toNat = _
    rw [g_tt_o r b x n (by omega), pk_un (by omega)]; rfl
theorem g_tt_u (r : Nat → Int32) (b : Nat) (x : Int32) : ∀ n, b < n → g_tt (upd r b x) n + (r b).toInt.toNat = g_tt r n + x.toInt.toNat
  | 0, h => absurd h (Nat.not_lt_zero _)
  | n + 1, h => by
    show g_tt (upd r b x) n + (upd r b x n).toInt.toNat + (r b).toInt.toNat = g_tt r n + (r n).toInt.toNat + x.toInt.toNat
    by_cases e : b = n
    · subst e
      rw [g_tt_o r b x b (Nat.le_refl _), pk_us]; omega
    · have := g_tt_u r b x n (by omega)
      rw [pk_un (fun q => e q.symm)]; omega
/-- the rows of order, of the first k of N shops -/
def g_ro (m c r : Nat → Int32) (k N : Nat) : Prop := ∀ j, j < k → 0 ≤ (r j).toInt ∧ (0 < (r j).toInt → 1 ≤ (c j).toInt) ∧ (r j).toInt ≤ 1 + (g_ls m (m j).toInt N : Int)
theorem g_ro.none {m c r : Nat → Int32} {N : Nat} : g_ro m c r 0 N := fun j h => absurd h (Nat.not_lt_zero _)
theorem g_ro.push {m c r : Nat → Int32} {k N : Nat} (h : g_ro m c r k N) {x : Int32} (h0 : 0 ≤ x.toInt) (h1 : 0 < x.toInt → 1 ≤ (c k).toInt) (h2 : x.toInt ≤ 1) : g_ro m c (upd r k x) (k + 1) N := fun j hj => by
  by_cases e : j = k
  · subst e; rw [pk_us]; exact ⟨h0, h1, by omega⟩
  · rw [pk_un e]; exact h j (by omega)
theorem g_ro.bd {m c r : Nat → Int32} {k N : Nat} (h : g_ro m c r k N) (hN : N ≤ 20) {j : Nat} (hj : j < k) : 0 ≤ (r j).toInt ∧ (0 < (r j).toInt → 1 ≤ (c j).toInt) ∧ (r j).toInt ≤ 21 := by
  have := h j hj
  have := g_ls_le m (m j).toInt N
  exact ⟨by omega, (h j hj).2.1, by omega⟩
theorem g_ro.tt {m c r : Nat → Int32} {k N : Nat} (h : g_ro m c r k N) (hN : N ≤ 20) : ∀ n, n ≤ k → g_tt r n ≤ 21 * n
  | 0, _ => Nat.le_refl _
  | n + 1, hn => by
    have := h.tt hN n (by omega)
    have := h.bd hN (j := n) (by omega)
    show g_tt r n + (r n).toInt.toNat ≤ 21 * (n + 1)
    omega
theorem g_ro.up {m c r : Nat → Int32} {N : Nat} (h : g_ro m c r N N) (hN : N ≤ 20) {a b : Nat} (ha : a < N) (hb : b < N) (hl : (m a).toInt < (m b).toInt) (hra : 0 < (r a).toInt) (hrb : 0 < (r b).toInt) (hle : (r b).toInt ≤ (r a).toInt) : g_ro m c (upd r b (r a + 1)) N N ∧ g_tt r N + 1 ≤ g_tt (upd r b (r a + 1)) N := by
  have ba := h.bd hN ha
  have bb := h.bd hN hb
  have e : (r a + 1).toInt = (r a).toInt + 1 := (g_up (by omega) (by omega)).1
  have l := g_ls_lt m hl N ha
  have ga := h a ha
  constructor
  · intro j hj
    by_cases q : j = b
    · subst q; rw [pk_us]
      exact ⟨by omega, fun _ => bb.2.1 hrb, by omega⟩
    · rw [pk_un q]; exact h j hj
  · have := g_tt_u r b (r a + 1) N hb
    omega
/-- what the last bit is -/
theorem g_a1 (y : Int32) : (y &&& 1) = 0 ∨ (y &&& 1) = 1 := by
  have e : (y &&& 1).toBitVec = BitVec.setWidth 32 (BitVec.ofBool (y.toBitVec.getLsbD 0)) := BitVec.and_one_eq_setWidth_ofBool_getLsbD
  cases hb : y.toBitVec.getLsbD 0 with
  | false => rw [hb] at e; exact Or.inl (Int32.toBitVec_inj.mp e)
  | true => rw [hb] at e; exact Or.inr (Int32.toBitVec_inj.mp e)
/-- how many of the first n bits are set -/
def g_bc (x : Int32) : Nat → Nat
  | 0 => 0
  | n + 1 => g_bc x n + ((x >>> (Int32.ofNat n &&& 31)) &&& 1).toInt.toNat
theorem g_bc_m (x : Int32) {i j : Nat} (h : i ≤ j) : g_bc x i ≤ g_bc x j := by
  induction h with
  | refl => exact Nat.le_refl _
  | step h ih => exact Nat.le_trans ih (Nat.le_add_right _ _)
theorem g_bc_le (x : Int32) : ∀ n, g_bc x n ≤ n
  | 0 => Nat.le_refl _
  | n + 1 => by
    have := g_bc_le x n
    show g_bc x n + ((x >>> (Int32.ofNat n &&& 31)) &&& 1).toInt.toNat ≤ n + 1
    rcases g_a1 (x >>> (Int32.ofNat n &&& 31)) with h | h <;> rw [h]
    · show g_bc x n + 0 ≤ _; omega
    · show g_bc x n + 1 ≤ _; omega
theorem g_ofc {k : Int32} (h : 0 ≤ k.toInt) : Int32.ofNat k.toNatClampNeg = k := by
  apply Int32.toInt_inj.mp
  have r := g_rng k
  rw [Int32.toInt_ofNat_of_lt (by rw [g_clamp]; omega), g_clamp]; omega
theorem g_bc_s (x : Int32) {k : Int32} (h0 : 0 ≤ k.toInt) (h1 : k.toInt < 1000) : g_bc x (k + 1).toNatClampNeg = g_bc x k.toNatClampNeg + ((x >>> (k &&& 31)) &&& 1).toInt.toNat := by
  rw [(g_up h0 (by omega)).2]
  show g_bc x k.toNatClampNeg + ((x >>> (Int32.ofNat k.toNatClampNeg &&& 31)) &&& 1).toInt.toNat = _
  rw [g_ofc h0]
theorem g_a1i (y : Int32) : 0 ≤ (y &&& 1).toInt ∧ (y &&& 1).toInt ≤ 1 := by
  rcases g_a1 y with h | h <;> rw [h] <;> exact ⟨by decide, by decide⟩
/-! what is given -/
def g_sN (go le : Nat → Int32) (k c b : Nat) : Int32 := if (go (8 * k + b)).toInt < 0 ∨ c / 3 ^ b % 3 = 2 then 1000000 else if le (6561 * (k + 1) + c + 3 ^ b) = 1000000 then 1000000 else le (6561 * (k + 1) + c + 3 ^ b) + go (8 * k + b)
theorem g_p3 {b : Nat} (h : b < 8) : 1 ≤ 3 ^ b ∧ 3 ^ b ≤ 2187 := by
  rcases (by omega : b = 0 ∨ b = 1 ∨ b = 2 ∨ b = 3 ∨ b = 4 ∨ b = 5 ∨ b = 6 ∨ b = 7) with rfl | rfl | rfl | rfl | rfl | rfl | rfl | rfl <;> decide
theorem g_dig {c b : Nat} (hc : c < 6561) (hb : b < 8) (h : ¬ c / 3 ^ b % 3 = 2) : c + 3 ^ b < 6561 := by
  rcases (by omega : b = 0 ∨ b = 1 ∨ b = 2 ∨ b = 3 ∨ b = 4 ∨ b = 5 ∨ b = 6 ∨ b = 7) with rfl | rfl | rfl | rfl | rfl | rfl | rfl | rfl <;> simp only [Nat.reducePow] at * <;> omega
/-- a sum that stands at k, c can be had -/
def g_lv (go le : Nat → Int32) (B n k c : Nat) : Prop := (le (6561 * k + c)).toInt ≤ 1000000 ∧ (k < n → (le (6561 * k + c)).toInt < 1000000 → ∃ b, b < B ∧ g_sN go le k c b = le (6561 * k + c))
/-- all of the rows from K on, and the first C of row K - 1 -/
def g_la (go le : Nat → Int32) (B n K C : Nat) : Prop := (∀ k c, K ≤ k → k ≤ n → c < 6561 → g_lv go le B n k c) ∧ (∀ k c, k + 1 = K → c < C → g_lv go le B n k c)
theorem g_sN_u {go le : Nat → Int32} {k c b i : Nat} {x : Int32} (hc : c < 6561) (hb : b < 8) (h : i < 6561 * (k + 1)) : g_sN go (upd le i x) k c b = g_sN go le k c b := by
  have p := (g_p3 hb).1
  unfold g_sN
  rw [pk_un (show 6561 * (k + 1) + c + 3 ^ b ≠ i by omega)]
theorem g_lv_u {go le : Nat → Int32} {B n k c i : Nat} {x : Int32} (hB : B ≤ 8) (hc : c < 6561) (h : i < 6561 * (k + 1)) (hne : 6561 * k + c ≠ i) (w : g_lv go le B n k c) : g_lv go (upd le i x) B n k c := by
  unfold g_lv
  rw [pk_un hne]
  refine ⟨w.1, fun a b => ?_⟩
  obtain ⟨z, z1, z2⟩ := w.2 a b
  exact ⟨z, z1, by rw [g_sN_u hc (by omega) h]; exact z2⟩
theorem g_la_z {go le : Nat → Int32} {B n : Nat} (h : ∀ c, c < 6561 → (le (6561 * n + c)).toInt ≤ 1000000) : g_la go le B n n 0 :=
  ⟨fun k c h1 h2 h3 => by
    have e : k = n := by omega
    subst e
    exact ⟨h c h3, fun q => absurd q (Nat.lt_irrefl _)⟩, fun k c _ h => absurd h (Nat.not_lt_zero _)⟩
theorem g_la_s {go le : Nat → Int32} {B n k C : Nat} (hB : B ≤ 8) (hC : C < 6561) (h : g_la go le B n (k + 1) C) {x : Int32} (h1 : x.toInt ≤ 1000000) (h2 : x.toInt < 1000000 → ∃ b, b < B ∧ g_sN go le k C b = x) : g_la go (upd le (6561 * k + C) x) B n (k + 1) (C + 1) :=
  ⟨fun k' c a1 a2 a3 => g_lv_u hB a3 (by omega) (by omega) (h.1 k' c a1 a2 a3), fun k' c e hc => by
    have e : k' = k := by omega
    subst e
    by_cases q : c = C
    · subst q
      unfold g_lv
      rw [pk_us]
      refine ⟨h1, fun _ a => ?_⟩
      obtain ⟨b, b1, b2⟩ := h2 a
      exact ⟨b, b1, by rw [g_sN_u hC (by omega) (by omega)]; exact b2⟩
    · exact g_lv_u hB (by omega) (by omega) (by omega) (h.2 k' c rfl (by omega))⟩
theorem g_la_r {go le : Nat → Int32} {B n k : Nat} (h : g_la go le B n (k + 1) 6561) : g_la go le B n k 0 :=
  ⟨fun k' c a1 a2 a3 => by
    by_cases q : k' = k
    · subst q; exact h.2 _ c rfl a3
    · exact h.1 k' c (by omega) a2 a3, fun k c _ h => absurd h (Nat.not_lt_zero _)⟩
/-- one is given: the next stands too -/
theorem g_la_n {go le : Nat → Int32} {B n k c b : Nat} (h : g_la go le B n 0 0) (hk : k < n) (hc : c < 6561) (hb : b < 8) (h1 : g_sN go le k c b = le (6561 * k + c)) (h2 : (le (6561 * k + c)).toInt < 1000000) : c + 3 ^ b < 6561 ∧ (le (6561 * (k + 1) + (c + 3 ^ b))).toInt < 1000000 := by
  rw [← h1] at h2
  unfold g_sN at h2
  by_cases q : (go (8 * k + b)).toInt < 0 ∨ c / 3 ^ b % 3 = 2
  · rw [if_pos q] at h2; exact absurd h2 (by decide)
  · rw [if_neg q] at h2
    have d := g_dig hc hb (fun z => q (Or.inr z))
    refine ⟨d, ?_⟩
    have l := (h.1 (k + 1) (c + 3 ^ b) (Nat.zero_le _) hk d).1
    rw [← Nat.add_assoc] at l ⊢
    by_cases z : le (6561 * (k + 1) + c + 3 ^ b) = 1000000
    · rw [if_pos z] at h2; exact absurd h2 (by decide)
    · have : (le (6561 * (k + 1) + c + 3 ^ b)).toInt ≠ (1000000 : Int32).toInt := fun y => z (Int32.toInt_inj.mp y)
      have e : (1000000 : Int32).toInt = 1000000 := rfl
      omega
theorem g_pw {u : qS} (h : IW u) {b : Int32} (h0 : 0 ≤ b.toInt) (h1 : b.toInt < 8) : (u.2.1 1276 b.toNatClampNeg).toInt = (3 ^ b.toNatClampNeg : Nat) ∧ b.toNatClampNeg < 8 := by
  have c := g_clamp b
  have hb : b.toNatClampNeg < 8 := by omega
  have e := h b (Int32.le_iff_toInt_le.mpr h0) (Int32.lt_iff_toInt_lt.mpr h1)
  have p := g_p3 hb
  rw [e]
  exact ⟨Int32.toInt_ofNat_of_lt (by omega), hb⟩
theorem g_cdiv {c p : Int32} (h0 : 0 ≤ c.toInt) (hp : 1 ≤ p.toInt) : (c / p).toInt = c.toInt / p.toInt := by
  have hr := g_rng c
  have p1 : c.toInt.tdiv p.toInt = c.toInt / p.toInt := Int.tdiv_eq_ediv_of_nonneg h0
  have a : c.toInt / p.toInt ≤ c.toInt := Int.ediv_le_self _ h0
  have b : 0 ≤ c.toInt / p.toInt := Int.ediv_nonneg h0 (by omega)
  rw [Int32.toInt_div, g_bmod (by omega) (by omega), p1]
/-- what is left of a number, by 3 -/
theorem g_r3 {x : Int32} (h0 : 0 ≤ x.toInt) : (x - x / 3 * 3).toInt = x.toInt % 3 := by
  have hr := g_rng x
  have e : (x / 3).toInt = x.toInt / 3 := g_cdiv (p := 3) h0 (by decide)
  have m : (x / 3 * 3).toInt = (x / 3).toInt * 3 := g_mul (x := x / 3) (y := 3) (by show _ ≤ (x / 3).toInt * 3; omega) (by show (x / 3).toInt * 3 < _; omega)
  have s : (x - x / 3 * 3).toInt = x.toInt - (x / 3 * 3).toInt := g_sub (by omega) (by omega)
  omega
theorem g_d3 {u : qS} (h : IW u) {c b : Int32} (hc : 0 ≤ c.toInt) (h0 : 0 ≤ b.toInt) (h1 : b.toInt < 8) : (c / u.2.1 1276 b.toNatClampNeg - c / u.2.1 1276 b.toNatClampNeg / 3 * 3).toInt = ((c.toNatClampNeg / 3 ^ b.toNatClampNeg % 3 : Nat) : Int) := by
  obtain ⟨e, hb⟩ := g_pw h h0 h1
  have p := g_p3 hb
  have d := g_cdiv (c := c) (p := u.2.1 1276 b.toNatClampNeg) hc (by omega)
  have dn : 0 ≤ (c / u.2.1 1276 b.toNatClampNeg).toInt := by rw [d]; exact Int.ediv_nonneg hc (by omega)
  rw [g_r3 dn, d, e]
  have cc : c.toInt = (c.toNatClampNeg : Int) := by rw [g_clamp]; omega
  rw [cc]; rfl
theorem g_i8 {k b : Int32} (hk : 0 ≤ k ∧ k < 8) (hb : 0 ≤ b ∧ b < 8) : ((8 : Int32) * k + b).toNatClampNeg = 8 * k.toNatClampNeg + b.toNatClampNeg ∧ ((8 : Int32) * k + b).toInt = 8 * k.toInt + b.toInt := by
  simp only [Int32.lt_iff_toInt_lt, Int32.le_iff_toInt_le, Int32.reduceToInt] at hk hb
  have m : ((8 : Int32) * k).toInt = 8 * k.toInt := g_mul (x := 8) (y := k) (by show _ ≤ 8 * k.toInt; omega) (by show 8 * k.toInt < _; omega)
  have a : ((8 : Int32) * k + b).toInt = ((8 : Int32) * k).toInt + b.toInt := g_add (by omega) (by omega)
  have c1 := g_clamp k
  have c2 := g_clamp b
  have c3 := g_clamp ((8 : Int32) * k + b)
  exact ⟨by omega, by omega⟩
theorem g_i6 {k c p : Int32} {q : Nat} (hk : 0 ≤ k ∧ k < 8) (hc : 0 ≤ c.toInt) (hp : p.toInt = (q : Int)) (hq : 1 ≤ q) (hs : c.toNatClampNeg + q < 6561) : ((6561 : Int32) * (k + 1) + c + p).toNatClampNeg = 6561 * (k.toNatClampNeg + 1) + c.toNatClampNeg + q ∧ vp_in ((6561 : Int32) * (k + 1) + c + p) 59049 := by
  simp only [Int32.lt_iff_toInt_lt, Int32.le_iff_toInt_le, Int32.reduceToInt] at hk
  have c1 := g_clamp k
  have c2 := g_clamp c
  have u1 := (g_up (i := k) (by omega) (by omega)).1
  have m : ((6561 : Int32) * (k + 1)).toInt = 6561 * (k + 1).toInt := g_mul (x := 6561) (y := k + 1) (by show _ ≤ 6561 * (k + 1).toInt; omega) (by show 6561 * (k + 1).toInt < _; omega)
  have a : ((6561 : Int32) * (k + 1) + c).toInt = ((6561 : Int32) * (k + 1)).toInt + c.toInt := g_add (by omega) (by omega)
  have b : ((6561 : Int32) * (k + 1) + c + p).toInt = ((6561 : Int32) * (k + 1) + c).toInt + p.toInt := g_add (by omega) (by omega)
  have c3 := g_clamp ((6561 : Int32) * (k + 1) + c + p)
  exact ⟨by omega, g_in (by omega) (by omega)⟩
theorem g_i7 {k c : Int32} (hk : 0 ≤ k.toInt ∧ k.toInt ≤ 8) (hc : 0 ≤ c.toInt ∧ c.toInt < 6561) : ((6561 : Int32) * k + c).toNatClampNeg = 6561 * k.toNatClampNeg + c.toNatClampNeg ∧ vp_in ((6561 : Int32) * k + c) 59049 := by
  have c1 := g_clamp k
  have c2 := g_clamp c
  have m : ((6561 : Int32) * k).toInt = 6561 * k.toInt := g_mul (x := 6561) (y := k) (by show _ ≤ 6561 * k.toInt; omega) (by show 6561 * k.toInt < _; omega)
  have a : ((6561 : Int32) * k + c).toInt = ((6561 : Int32) * k).toInt + c.toInt := g_add (by omega) (by omega)
  have c3 := g_clamp ((6561 : Int32) * k + c)
  exact ⟨by omega, g_in (by omega) (by omega)⟩
section SUMBY
variable {u : qS} {k c b : Int32}
theorem g_n2 (h : IW u) (hc : 0 ≤ c ∧ c < 6561) (hb : 0 ≤ b ∧ b < 8) (h2 : ¬ c / u.2.1 1276 b.toNatClampNeg - c / u.2.1 1276 b.toNatClampNeg / 3 * 3 = 2) : c.toNatClampNeg + 3 ^ b.toNatClampNeg < 6561 ∧ ¬ c.toNatClampNeg / 3 ^ b.toNatClampNeg % 3 = 2 := by
  simp only [Int32.lt_iff_toInt_lt, Int32.le_iff_toInt_le, Int32.reduceToInt] at hb hc
  have d := g_d3 h (c := c) hc.1 hb.1 hb.2
  have c2 := g_clamp c
  have c3 := g_clamp b
  have n : ¬ c.toNatClampNeg / 3 ^ b.toNatClampNeg % 3 = 2 := fun z => h2 (Int32.toInt_inj.mp (by rw [d, z]; rfl))
  exact ⟨g_dig (by omega) (by omega) n, n⟩
theorem g_sB_in (h : IW u) (hk : 0 ≤ k ∧ k < 8) (hc : 0 ≤ c ∧ c < 6561) (hb : 0 ≤ b ∧ b < 8) (h2 : ¬ c / u.2.1 1276 b.toNatClampNeg - c / u.2.1 1276 b.toNatClampNeg / 3 * 3 = 2) : ((6561 : Int32) * (k + 1) + c + u.2.1 1276 b.toNatClampNeg).toNatClampNeg = 6561 * (k.toNatClampNeg + 1) + c.toNatClampNeg + 3 ^ b.toNatClampNeg ∧ vp_in ((6561 : Int32) * (k + 1) + c + u.2.1 1276 b.toNatClampNeg) 59049 := by
  have n := g_n2 h hc hb h2
  simp only [Int32.lt_iff_toInt_lt, Int32.le_iff_toInt_le, Int32.reduceToInt] at hb hc
  obtain ⟨e, h8⟩ := g_pw h hb.1 hb.2
  exact g_i6 hk hc.1 e (g_p3 h8).1 n.1
theorem g_sB_nz (h : IW u) (hb : 0 ≤ b ∧ b < 8) : ¬ u.2.1 1276 b.toNatClampNeg = 0 := by
  simp only [Int32.lt_iff_toInt_lt, Int32.le_iff_toInt_le, Int32.reduceToInt] at hb
  obtain ⟨e, h8⟩ := g_pw h hb.1 hb.2
  intro z
  rw [z] at e
  have := (g_p3 h8).1
  have e0 : (0 : Int32).toInt = 0 := rfl
  omega
theorem g_sB_1 (hk : 0 ≤ k ∧ k < 8) (hb : 0 ≤ b ∧ b < 8) (h1 : u.2.1 1280 ((8 : Int32) * k + b).toNatClampNeg < 0) : (1000000 : Int32) = g_sN (u.2.1 1280) (u.2.1 1277) k.toNatClampNeg c.toNatClampNeg b.toNatClampNeg := by
  rw [(g_i8 hk hb).1] at h1
  have z : (u.2.1 1280 (8 * k.toNatClampNeg + b.toNatClampNeg)).toInt < 0 := Int32.lt_iff_toInt_lt.mp h1
  unfold g_sN
  rw [if_pos (Or.inl z)]
theorem g_sB_2 (h : IW u) (hc : 0 ≤ c ∧ c < 6561) (hb : 0 ≤ b ∧ b < 8) (h2 : c / u.2.1 1276 b.toNatClampNeg - c / u.2.1 1276 b.toNatClampNeg / 3 * 3 = 2) : (1000000 : Int32) = g_sN (u.2.1 1280) (u.2.1 1277) k.toNatClampNeg c.toNatClampNeg b.toNatClampNeg := by
  simp only [Int32.lt_iff_toInt_lt, Int32.le_iff_toInt_le, Int32.reduceToInt] at hb hc
  have d := g_d3 h (c := c) hc.1 hb.1 hb.2
  rw [h2] at d
  unfold g_sN
  rw [if_pos (Or.inr (by have e : (2 : Int32).toInt = 2 := rfl; omega))]
theorem g_sB_3 (h : IW u) (hk : 0 ≤ k ∧ k < 8) (hc : 0 ≤ c ∧ c < 6561) (hb : 0 ≤ b ∧ b < 8) (h1 : ¬ u.2.1 1280 ((8 : Int32) * k + b).toNatClampNeg < 0) (h2 : ¬ c / u.2.1 1276 b.toNatClampNeg - c / u.2.1 1276 b.toNatClampNeg / 3 * 3 = 2) : g_sN (u.2.1 1280) (u.2.1 1277) k.toNatClampNeg c.toNatClampNeg b.toNatClampNeg = if u.2.1 1277 ((6561 : Int32) * (k + 1) + c + u.2.1 1276 b.toNatClampNeg).toNatClampNeg = 1000000 then 1000000 else u.2.1 1277 ((6561 : Int32) * (k + 1) + c + u.2.1 1276 b.toNatClampNeg).toNatClampNeg + u.2.1 1280 ((8 : Int32) * k + b).toNatClampNeg := by
  have n := g_n2 h hc hb h2
  rw [(g_sB_in h hk hc hb h2).1]
  rw [(g_i8 hk hb).1] at h1 ⊢
  unfold g_sN
  rw [if_neg (fun z => z.elim (fun z => h1 (Int32.lt_iff_toInt_lt.mpr (show _ < (0 : Int32).toInt from z))) n.2)]
end SUMBY
