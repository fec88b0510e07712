/-! the class's table of the least prices -/
theorem j_cmp {p q : Int64} : 0 ≤ lg_cmp p q ↔ q.toInt ≤ p.toInt := by
  unfold lg_cmp
  constructor
  · intro h
    split at h
    · rename_i g; have := Int64.lt_iff_toInt_lt.mp g; omega
    · split at h
      · rename_i g; rw [g]; exact Int.le_refl _
      · exact absurd h (by decide)
  · intro h
    by_cases g : q < p
    · rw [if_pos g]; decide
    · rw [if_neg g]
      have n : ¬ q.toInt < p.toInt := fun z => g (Int64.lt_iff_toInt_lt.mpr z)
      rw [if_pos (Int64.toInt_inj.mp (by omega))]; decide
def j_W (F Q : Nat → Int64) (d m : Nat) (w : Int64) : Prop := w.toInt ≤ (F d).toInt ∧ (∀ k, k < m → d.testBit k = true → w.toInt ≤ (F (d ^^^ 2 ^ k)).toInt + (Q k).toInt) ∧ (w.toInt = (F d).toInt ∨ ∃ k, k < m ∧ d.testBit k = true ∧ w.toInt = (F (d ^^^ 2 ^ k)).toInt + (Q k).toInt)
def j_bd (n : Nat) (F : Nat → Int64) : Prop := ∀ d, d < n → 0 ≤ (F d).toInt ∧ (F d).toInt ≤ 1152921504606846976
def j_I (n : Nat) (F Q R : Nat → Int64) (a m : Nat) : Prop := (∀ d, d < 2 ^ n → (a < d → j_W F Q d n (R d)) ∧ (d < a → R d = F d)) ∧ j_W F Q a m (R a)
def j_H (n : Nat) (F Q R : Nat → Int64) (a : Nat) : Prop := ∀ d, d < 2 ^ n → (a < d → j_W F Q d n (R d)) ∧ (d ≤ a → R d = F d)
def j_sd (n : Nat) (F Q R : Nat → Int64) : Prop := j_bd (2 ^ n) F → j_bd n Q → ∀ d, d < 2 ^ n → j_W F Q d n (R d)
theorem j_xl : ∀ d : Nat, d < 256 → ∀ k : Nat, k < 8 → d.testBit k = true → d ^^^ 2 ^ k < d := by decide +kernel
theorem j_p8 {n : Nat} (h : n ≤ 8) : 2 ^ n ≤ 256 := Nat.pow_le_pow_right (n := 2) (by decide) h
theorem j_sh8 {k : Int32} (h0 : 0 ≤ k.toInt) (h1 : k.toInt ≤ 8) : ((1 : Int32) <<< (k &&& 31)).toInt = ((2 ^ k.toNatClampNeg : Nat) : Int) := by
  rcases (by omega : k.toInt = 0 ∨ k.toInt = 1 ∨ k.toInt = 2 ∨ k.toInt = 3 ∨ k.toInt = 4 ∨ k.toInt = 5 ∨ k.toInt = 6 ∨ k.toInt = 7 ∨ k.toInt = 8) with h | h | h | h | h | h | h | h | h
  · rw [show k = 0 from Int32.toInt_inj.mp h]; decide
  · rw [show k = 1 from Int32.toInt_inj.mp h]; decide
  · rw [show k = 2 from Int32.toInt_inj.mp h]; decide
  · rw [show k = 3 from Int32.toInt_inj.mp h]; decide
  · rw [show k = 4 from Int32.toInt_inj.mp h]; decide
  · rw [show k = 5 from Int32.toInt_inj.mp h]; decide
  · rw [show k = 6 from Int32.toInt_inj.mp h]; decide
  · rw [show k = 7 from Int32.toInt_inj.mp h]; decide
  · rw [show k = 8 from Int32.toInt_inj.mp h]; decide
/-- the place of the whole set -/
theorem j_ix {k : Int32} (h0 : 0 ≤ k.toInt) (h1 : k.toInt ≤ 8) : (((1 : Int32) <<< (k &&& 31)) - 1).toNatClampNeg = 2 ^ k.toNatClampNeg - 1 := by
  have e := j_sh8 h0 h1
  have l := j_p8 (n := k.toNatClampNeg) (by have := g_clamp k; omega)
  have p := Nat.two_pow_pos k.toNatClampNeg
  have e1 : (1 : Int32).toInt = 1 := rfl
  have s := g_sub (x := (1 : Int32) <<< (k &&& 31)) (y := 1) (by omega) (by omega)
  have c := g_clamp (((1 : Int32) <<< (k &&& 31)) - 1)
  omega
theorem j_xr {x y : Int32} (hx : 0 ≤ x.toInt ∧ x.toInt < 256) (hy : 0 ≤ y.toInt ∧ y.toInt < 256) : (x ^^^ y).toNatClampNeg = x.toNatClampNeg ^^^ y.toNatClampNeg := by
  have b := (g_xor8 hx hy).1
  rw [← j_nat b, ← j_nat hx.1, ← j_nat hy.1]
  exact BitVec.toNat_xor _ _
section JT
variable {n m a d : Nat} {F Q R : Nat → Int64} {w v s : Int64}
theorem j_W.nil : j_W F Q d 0 (F d) := ⟨Int.le_refl _, fun k h => absurd h (Nat.not_lt_zero _), Or.inl rfl⟩
theorem j_W.no (h : j_W F Q d m w) (hb : ¬ d.testBit m = true) : j_W F Q d (m + 1) w := by
  refine ⟨h.1, fun k hk b => ?_, ?_⟩
  · by_cases e : k = m
    · rw [e] at b; exact absurd b hb
    · exact h.2.1 k (by omega) b
  · rcases h.2.2 with e | ⟨k, k1, k2⟩
    · exact Or.inl e
    · exact Or.inr ⟨k, by omega, k2⟩
theorem j_W.put (h : j_W F Q d m w) (hb : d.testBit m = true) (hs : s.toInt = (F (d ^^^ 2 ^ m)).toInt + (Q m).toInt) (hv : v = if s < w then s else w) : j_W F Q d (m + 1) v := by
  by_cases q : s < w
  · rw [if_pos q] at hv
    have l := Int64.lt_iff_toInt_lt.mp q
    have h1 := h.1
    subst hv
    refine ⟨by omega, fun k hk b => ?_, Or.inr ⟨m, Nat.lt_succ_self _, hb, hs⟩⟩
    by_cases e : k = m
    · rw [e]; omega
    · have z := h.2.1 k (by omega) b
      omega
  · rw [if_neg q] at hv
    have l : w.toInt ≤ s.toInt := Int.not_lt.mp (fun z => q (Int64.lt_iff_toInt_lt.mpr z))
    subst hv
    refine ⟨h.1, fun k hk b => ?_, ?_⟩
    · by_cases e : k = m
      · rw [e]; omega
      · exact h.2.1 k (by omega) b
    · rcases h.2.2 with e | ⟨k, k1, k2⟩
      · exact Or.inl e
      · exact Or.inr ⟨k, by omega, k2⟩
theorem j_H.top (h : 2 ^ n ≤ a + 1) : j_H n F Q F a := fun d hd => ⟨fun q => absurd hd (by omega), fun _ => rfl⟩
theorem j_H.in (h : j_H n F Q R a) (ha : a < 2 ^ n) : j_I n F Q R a 0 := ⟨fun d hd => ⟨(h d hd).1, fun q => (h d hd).2 (by omega)⟩, by
  rw [(h a ha).2 (Nat.le_refl _)]; exact j_W.nil⟩
theorem j_I.out (h : j_I n F Q R a n) (h0 : 0 < a) : j_H n F Q R (a - 1) := fun d hd => ⟨fun q => by
    by_cases e : d = a
    · rw [e]; exact h.2
    · exact (h.1 d hd).1 (by omega), fun q => (h.1 d hd).2 (by omega)⟩
theorem j_I.no (h : j_I n F Q R a m) (hb : ¬ a.testBit m = true) : j_I n F Q R a (m + 1) := ⟨h.1, h.2.no hb⟩
theorem j_I.put (h : j_I n F Q R a m) (ha : a < 2 ^ n) (hn : n ≤ 8) (hm : m < n) (hb : a.testBit m = true) (hs : s.toInt = (R (a ^^^ 2 ^ m)).toInt + (Q m).toInt) (hv : v = if s < R a then s else R a) : j_I n F Q (vp_updL R a v) a (m + 1) := by
  have p8 := j_p8 hn
  have xl := j_xl a (by omega) m (by omega) hb
  have er := (h.1 (a ^^^ 2 ^ m) (by omega)).2 xl
  rw [er] at hs
  refine ⟨fun d hd => ⟨fun q => ?_, fun q => ?_⟩, ?_⟩
  · rw [j_ul (by omega)]; exact (h.1 d hd).1 q
  · rw [j_ul (by omega)]; exact (h.1 d hd).2 q
  · rw [j_us]; exact h.2.put hb hs hv
theorem j_H.end (h : j_H n F Q R 0) : ∀ d, d < 2 ^ n → j_W F Q d n (R d) := fun d hd => by
  by_cases e : d = 0
  · rw [(h d hd).2 (by omega), e]
    exact ⟨Int.le_refl _, fun k _ b => absurd b (by rw [Nat.zero_testBit]; decide), Or.inl rfl⟩
  · exact (h d hd).1 (by omega)
theorem j_bit8 {x i : Int32} (hx : 0 ≤ x.toInt) (h0 : 0 ≤ i.toInt) (h1 : i.toInt < 20) : (x >>> (i &&& 31)) &&& 1 = 1 ↔ x.toNatClampNeg.testBit i.toNatClampNeg = true := by
  rw [j_bi1 h0 h1, j_tb hx]
theorem j_I.put8 {x i : Int32} (h : j_I n F Q R x.toNatClampNeg i.toNatClampNeg) (hF : j_bd (2 ^ n) F) (hQ : j_bd n Q) (hx : 0 ≤ x.toInt ∧ x.toInt < 256) (ha : x.toNatClampNeg < 2 ^ n) (h0 : 0 ≤ i.toInt) (hm : i.toNatClampNeg < n) (hn : n ≤ 8) (hb : (x >>> (i &&& 31)) &&& 1 = 1)
    (hv : v = if R ((x ^^^ ((1 : Int32) <<< (i &&& 31)) : Int32)).toNatClampNeg + Q i.toNatClampNeg < R x.toNatClampNeg then R ((x ^^^ ((1 : Int32) <<< (i &&& 31)) : Int32)).toNatClampNeg + Q i.toNatClampNeg else R x.toNatClampNeg) : j_I n F Q (vp_updL R x.toNatClampNeg v) x.toNatClampNeg (i + 1).toNatClampNeg := by
  have ci := g_clamp i
  have sh := j_sh8 (k := i) h0 (by omega)
  have sl := (g_sh1 (k := i) h0 (by omega)).2.2 (by omega)
  have s0 := (g_sh1 (k := i) h0 (by omega)).1
  have ex : ((x ^^^ ((1 : Int32) <<< (i &&& 31)) : Int32)).toNatClampNeg = x.toNatClampNeg ^^^ 2 ^ i.toNatClampNeg := by
    rw [j_xr hx ⟨by omega, sl⟩]
    have c := g_clamp ((1 : Int32) <<< (i &&& 31))
    rw [show ((1 : Int32) <<< (i &&& 31)).toNatClampNeg = 2 ^ i.toNatClampNeg by omega]
  have b := (j_bit8 hx.1 h0 (by omega)).mp hb
  have p8 := j_p8 hn
  have xl := j_xl x.toNatClampNeg (by omega) i.toNatClampNeg (by omega) b
  have er := (h.1 (x.toNatClampNeg ^^^ 2 ^ i.toNatClampNeg) (by omega)).2 xl
  rw [ex] at hv
  rw [(g_up h0 (by omega)).2]
  refine h.put ha hn hm b ?_ hv
  have f1 := hF (x.toNatClampNeg ^^^ 2 ^ i.toNatClampNeg) (by omega)
  have q1 := hQ _ hm
  rw [Int64.toInt_add, er]
  exact Int.bmod_eq_of_le (by omega) (by omega)
theorem j_I.no8 {x i : Int32} (h : j_I n F Q R x.toNatClampNeg i.toNatClampNeg) (hx : 0 ≤ x.toInt) (h0 : 0 ≤ i.toInt) (h1 : i.toInt < 20) (hb : ¬ (x >>> (i &&& 31)) &&& 1 = 1) : j_I n F Q R x.toNatClampNeg (i + 1).toNatClampNeg := by
  rw [(g_up h0 (by omega)).2]
  exact h.no (fun z => hb ((j_bit8 hx h0 h1).mpr z))
theorem j_I.out8 {x : Int32} (h : j_I n F Q R x.toNatClampNeg n) (hx : 1 ≤ x.toInt) : j_H n F Q R (x + -1).toNatClampNeg := by
  have r := g_rng x
  have e1 : (-1 : Int32).toInt = -1 := rfl
  have e := g_add (x := x) (y := -1) (by omega) (by omega)
  have c := g_clamp x
  have c2 := g_clamp (x + -1)
  have z := h.out (by omega)
  rw [show x.toNatClampNeg - 1 = (x + -1).toNatClampNeg by omega] at z
  exact z
end JT
/-! all sets at once: one buyer more, sent once, sent twice -/
theorem j_n.z {S : Nat → Bool} {a : Nat → Nat} {x : Nat} : ∀ n : Nat, (∀ j, j < n → S j = true → a j ≠ x) → j_n S a x n = 0
  | 0, _ => rfl
  | n + 1, h => by
    show j_n S a x n + _ = 0
    rw [j_n.z n (fun j hj => h j (by omega)), if_neg (fun q => h n (by omega) q.1 q.2)]
theorem j_s.z {S : Nat → Bool} {p : Nat → Int} : ∀ n : Nat, (∀ j, j < n → ¬ S j = true) → j_s S p n = 0
  | 0, _ => rfl
  | n + 1, h => by
    show j_s S p n + _ = 0
    rw [j_s.z n (fun j hj => h j (by omega)), if_neg (h n (by omega))]; rfl
section JS
variable {n b B : Nat} {ok : Nat → Nat → Prop} {P : Nat → Nat → Int} {NO : Int} {cap cap' : Nat → Nat} {F Q R : Nat → Int64} {S : Nat → Bool} {v : Int}
theorem j_xb {d k j : Nat} (h : d.testBit k = true) : (d ^^^ 2 ^ k).testBit j = j_o d.testBit k j := by
  rw [Nat.testBit_xor, Nat.testBit_two_pow]
  unfold j_o
  by_cases e : k = j
  · subst e; rw [h, decide_eq_true rfl, beq_self_eq_true]; rfl
  · rw [decide_eq_false e, beq_eq_false_iff_ne.mpr (fun z => e z.symm)]
    cases d.testBit j <;> rfl
theorem j_snd (hn : n ≤ 8) (T : ∀ d, d < 2 ^ n → j_O n ok P NO d.testBit cap (F d).toInt)
    (hq : ∀ k, k < n → 0 ≤ (Q k).toInt ∧ (ok b k → (Q k).toInt = P b k) ∧ (¬ ok b k → NO ≤ (Q k).toInt)) (hR : ∀ d, d < 2 ^ n → j_W F Q d n (R d)) (hc : ∀ x, cap' x = cap x + if b = x then 1 else 0) : ∀ d, d < 2 ^ n → j_O n ok P NO d.testBit cap' (R d).toInt := fun d hd => by
  have W := hR d hd
  have p8 := j_p8 hn
  exact j_O.send (b := b) (v0 := (F d).toInt) (u := fun k => (F (d ^^^ 2 ^ k)).toInt) (q := fun k => (Q k).toInt) (T d hd)
    (fun k hk s => (T (d ^^^ 2 ^ k) (by have := j_xl d (by omega) k (by omega) s; omega)).cg (fun j _ => j_xb s)) hq hc W.1 W.2.1 W.2.2
theorem j_init (h0 : (F 0).toInt = 0) (hNO : 0 ≤ NO) (h1 : ∀ d, d < 2 ^ n → d ≠ 0 → (F d).toInt = NO) : ∀ d, d < 2 ^ n → j_O n ok P NO d.testBit (fun x => if x < 0 then 2 else 0) (F d).toInt := fun d hd => by
  by_cases e : d = 0
  · subst e
    have z : ∀ j, j < n → ¬ (0 : Nat).testBit j = true := fun j _ q => absurd q (by rw [Nat.zero_testBit]; decide)
    rw [h0]
    refine ⟨⟨Int.le_refl _, hNO⟩, fun _ => ⟨fun _ => 0, ⟨fun j hj q => absurd q (z j hj), fun x => ?_⟩, (j_s.z n z).symm⟩, fun a _ => ?_⟩
    · rw [j_n.z n (fun j hj q => absurd q (z j hj))]; exact Nat.zero_le _
    · rw [j_s.z n z]; exact Int.le_refl _
  · rw [h1 d hd e]
    refine ⟨⟨hNO, Int.le_refl _⟩, fun q => absurd q (Int.lt_irrefl _), fun a ha => ?_⟩
    exfalso
    obtain ⟨k, hk⟩ := Nat.exists_testBit_of_ne_zero e
    have kn : k < n := by
      rcases Nat.lt_or_ge k n with q | q
      · exact q
      · have w := Nat.testBit_lt_two_pow (Nat.lt_of_lt_of_le hd (Nat.pow_le_pow_right (n := 2) (by decide) q))
        rw [w] at hk; cases hk
    have o := j_n.o (a := a) (x := a k) hk n kn
    rw [if_pos rfl] at o
    have c := ha.2 (a k)
    have c0 : (fun x : Nat => if x < 0 then 2 else 0) (a k) = 0 := if_neg (Nat.not_lt_zero _)
    rw [c0] at c
    omega
theorem j_O.lim (h : j_O n ok P NO S (fun x => if x < B then 2 else 0) v) (hB : ∀ c j, ok c j → c < B) : j_O n ok P NO S (fun _ => 2) v := by
  refine ⟨h.1, fun q => ?_, fun a ha => h.2.2 a ⟨ha.1, fun x => ?_⟩⟩
  · obtain ⟨a, a1, a2⟩ := h.2.1 q
    refine ⟨a, ⟨a1.1, fun x => Nat.le_trans (a1.2 x) ?_⟩, a2⟩
    show (if x < B then 2 else 0) ≤ 2
    split <;> omega
  · show _ ≤ if x < B then 2 else 0
    by_cases q : x < B
    · rw [if_pos q]; exact ha.2 x
    · rw [if_neg q, j_n.z n (fun j hj s e => q (by rw [← e]; exact hB _ _ (ha.1 j hj s)))]
      exact Nat.le_refl _
end JS
/-! who may be sent, at what price -/
def j_kc (u : qS) (S : Nat → Int32) (y : Int32) (b j : Nat) : Prop := b < (u.1 9).toNatClampNeg ∧ c_mg u (Int32.ofNat b) (S j) y
noncomputable def j_pc (u : qS) (S : Nat → Int32) (b j : Nat) : Int := (c_wh u (Int32.ofNat b) (S j)).toInt * 16777216 + (b : Int) * 8 ^ (7 - j)
def j_wb (u : qS) : Prop := ∀ b s : Int32, 0 ≤ b → b < u.1 9 → 0 ≤ s → s < u.1 8 → 0 ≤ (c_wh u b s).toInt ∧ (c_wh u b s).toInt ≤ 198
def j_pq (u : qS) (S : Nat → Int32) (x y : Int32) (n : Nat) (Q : Nat → Int64) : Prop := ∀ k, k < n → (c_mg u x (S k) y → 0 ≤ (c_wh u x (S k)).toInt → (c_wh u x (S k)).toInt ≤ 198 → (Q k).toInt = (c_wh u x (S k)).toInt * 16777216 + x.toInt * 8 ^ (7 - k)) ∧ (¬ c_mg u x (S k) y → (Q k).toInt = 1152921504606846976)
def j_tt (u : qS) (S : Nat → Int32) (y : Int32) (n B : Nat) (F : Nat → Int64) : Prop := ∀ d, d < 2 ^ n → j_O n (j_kc u S y) (j_pc u S) 1152921504606846976 d.testBit (fun x => if x < B then 2 else 0) (F d).toInt
def j_gv (u : qS) (z : Int32) (S : Nat → Int32) (F : Nat → Int64) (x y : Int32) : Prop := ((0 ≤ z.toInt ∧ z.toInt ≤ 8) ∧ z.toInt = (g_bc x (u.1 8).toNatClampNeg : Int)) ∧ j_ls S x (u.1 8).toNatClampNeg ∧ (j_wb u → j_O z.toNatClampNeg (j_kc u S y) (j_pc u S) 1152921504606846976 (fun _ => true) (fun _ => 2) (F (2 ^ z.toNatClampNeg - 1)).toInt)
def j_hi (z : Int32) (F : Nat → Int64) : Int32 := (F (2 ^ z.toNatClampNeg - 1) >>> ((24 : Int32).toInt64 &&& 63)).toInt32
def j_lo (z : Int32) (F : Nat → Int64) (k : Int32) : Int32 := (F (2 ^ z.toNatClampNeg - 1) >>> ((3 * (7 - k) : Int32).toInt64 &&& 63)).toInt32 &&& 7
def j_by (z : Int32) (S : Nat → Int32) (F : Nat → Int64) (x r : Int32) : Prop := (∃ k : Int32, 0 ≤ k ∧ k < z ∧ S k.toNatClampNeg = x ∧ r = j_lo z F k) ∨ ((∀ k : Nat, k < z.toNatClampNeg → ¬ S k = x) ∧ r = -1)
def j_ga (z : Int32) (S : Nat → Int32) (F : Nat → Int64) (x r : Int32) : Prop := ((1152921504606846976 : Int) ≤ (F (2 ^ z.toNatClampNeg - 1)).toInt ∧ r = -1) ∨ ((F (2 ^ z.toNatClampNeg - 1)).toInt < 1152921504606846976 ∧ ((x = 20 ∧ r = j_hi z F) ∨ (¬ x = 20 ∧ j_by z S F x r)))
theorem j_l20 : ∀ n : Nat, n < 21 → ((1 : Int32) <<< (Int32.ofNat n &&& 31)).toInt ≤ 1048576 := by decide
theorem j_lim {x k : Int32} (h0 : 0 ≤ k.toInt) (h1 : k.toInt ≤ 20) (h : x < (1 : Int32) <<< (k &&& 31)) : x.toInt < 1048576 := by
  have c := g_clamp k
  have w := j_l20 k.toNatClampNeg (by omega)
  rw [g_ofc h0] at w
  have := Int32.lt_iff_toInt_lt.mp h
  omega
/-- the book is as it was: so is who may go -/
theorem j_bk {M R G X : List Nat} {u w : qS} (h : qFc M R G X u w) (hd : w.2.2.2.2 = u.2.2.2.2) (hM : ∀ n ∈ [8, 9, 10, 13, 14, 16, 17], n ∉ M) (hX : ∀ n ∈ [0, 1, 2], n ∉ X) : (∀ b s d, c_mg w b s d = c_mg u b s d) ∧ ∀ b s, c_wh w b s = c_wh u b s := by
  have x0 : qxr w 0 = qxr u 0 := h.2.2.2.1 0 (hX _ (by decide))
  have x1 : qxr w 1 = qxr u 1 := h.2.2.2.1 1 (hX _ (by decide))
  have x2 : qxr w 2 = qxr u 2 := h.2.2.2.1 2 (hX _ (by decide))
  have e1 : ∀ j, chm w j = chm u j := fun j => by unfold chm; rw [x1, hd]
  have e2 : ∀ j, cpl w j = cpl u j := fun j => by unfold cpl; rw [x0, hd]
  have e3 : ∀ j, cvr w j = cvr u j := fun j => by unfold cvr; rw [x2, hd]
  have e4 : ∀ j, csr w j = csr u j := fun j => by unfold csr; rw [x0, hd]
  have wh : ∀ b s, c_wh w b s = c_wh u b s := fun b s => by unfold c_wh; rw [e1, e1, e2, e2]
  refine ⟨fun b s d => ?_, wh⟩
  unfold c_mg c_al c_bd c_tv c_sd
  rw [wh, e3, e3, e3, e3, e4, h.1 17 (hM _ (by decide)), h.1 10 (hM _ (by decide)), h.1 16 (hM _ (by decide)), h.1 13 (hM _ (by decide)), h.1 14 (hM _ (by decide))]
section JP
variable {u w : qS} {S : Nat → Int32} {x y k r z : Int32} {n B : Nat} {F Q R R1 : Nat → Int64} {v a : Int64}
theorem j_pq.zero : j_pq u S x y (0 : Int32).toNatClampNeg Q := fun _ h => absurd h (Nat.not_lt_zero _)
theorem j_pq.up (h : j_pq u S x y k.toNatClampNeg Q) (h0 : 0 ≤ k.toInt) (h1 : k.toInt < 8) (hv : (c_mg u x (S k.toNatClampNeg) y → 0 ≤ (c_wh u x (S k.toNatClampNeg)).toInt → (c_wh u x (S k.toNatClampNeg)).toInt ≤ 198 → v.toInt = (c_wh u x (S k.toNatClampNeg)).toInt * 16777216 + x.toInt * 8 ^ (7 - k.toNatClampNeg)) ∧ (¬ c_mg u x (S k.toNatClampNeg) y → v.toInt = 1152921504606846976)) : j_pq u S x y (k + 1).toNatClampNeg (vp_updL Q k.toNatClampNeg v) := by
  rw [(g_up h0 (by omega)).2]
  intro i hi
  by_cases e : i = k.toNatClampNeg
  · rw [e, j_us]; exact hv
  · rw [j_ul e]; exact h i (by omega)
theorem j_pq.un (h : j_pq u S x y k.toNatClampNeg Q) : j_pq u S x y k.toNatClampNeg (vp_updL Q k.toNatClampNeg a) := fun i hi => by
  rw [j_ul (by omega)]; exact h i hi
/-- shifts of small numbers -/
theorem j_n64 {A : Int64} (h0 : 0 ≤ A.toInt) : (A.toBitVec.toNat : Int) = A.toInt := by
  have e : A.toInt = A.toBitVec.toInt := rfl
  have l := A.toBitVec.isLt
  rw [BitVec.toInt_eq_toNat_cond] at e
  split at e <;> omega
theorem j_shl {A C : Int64} {m : Nat} (h0 : 0 ≤ A.toInt) (hC : (C.toBitVec.smod 64).toNat = m) (h1 : A.toInt * 2 ^ m < 1152921504606846976) : (A <<< C).toInt = A.toInt * 2 ^ m := by
  have e := j_n64 h0
  have t : (A <<< C).toBitVec.toNat = A.toBitVec.toNat * 2 ^ m % 2 ^ 64 := by
    rw [Int64.toBitVec_shiftLeft, BitVec.shiftLeft_eq', hC, BitVec.toNat_shiftLeft, Nat.shiftLeft_eq]
  have p : ((A.toBitVec.toNat * 2 ^ m : Nat) : Int) = A.toInt * 2 ^ m := by
    rw [Int.natCast_mul, e]; exact congrArg (A.toInt * ·) (Int.natCast_pow 2 m)
  have q : A.toBitVec.toNat * 2 ^ m < 1152921504606846976 := by
    have : ((A.toBitVec.toNat * 2 ^ m : Nat) : Int) < 1152921504606846976 := by rw [p]; exact h1
    omega
  rw [Nat.mod_eq_of_lt (Nat.lt_trans q (by decide))] at t
  have f : (A <<< C).toInt = (A <<< C).toBitVec.toInt := rfl
  rw [f, BitVec.toInt_eq_toNat_cond, t, if_pos (by simp only [Nat.reducePow] at q ⊢; omega)]
  exact p
theorem j_m8 : ∀ k : Nat, k < 8 → (((3 * (7 - Int32.ofNat k) : Int32)).toInt64 &&& 63).toBitVec.smod 64 = BitVec.ofNat 64 (3 * (7 - k)) := by decide +kernel
theorem j_m24 : (((24 : Int32)).toInt64 &&& 63).toBitVec.smod 64 = BitVec.ofNat 64 24 := by decide +kernel
theorem j_m8n {k : Nat} (h : k < 8) : ((((3 * (7 - Int32.ofNat k) : Int32)).toInt64 &&& 63).toBitVec.smod 64).toNat = 3 * (7 - k) := by
  rw [j_m8 k h, BitVec.toNat_ofNat]; exact Nat.mod_eq_of_lt (by simp only [Nat.reducePow]; omega)
theorem j_m24n : ((((24 : Int32)).toInt64 &&& 63).toBitVec.smod 64).toNat = 24 := by
  rw [j_m24, BitVec.toNat_ofNat]
theorem j_e8 : ∀ k : Nat, k < 8 → (2 : Int) ^ (3 * (7 - k)) = 8 ^ (7 - k) ∧ (8 : Int) ^ (7 - k) ≤ 2097152 ∧ 1 ≤ (8 : Int) ^ (7 - k) := by decide +kernel
theorem j_pr {x q : Int32} {W : Int32} (h0 : 0 ≤ W.toInt) (h1 : W.toInt ≤ 198) (hx : 0 ≤ x.toInt ∧ x.toInt < 8) (hk : 0 ≤ k.toInt ∧ k.toInt < 8) (hq : q = 3 * (7 - k)) : ((W.toInt64 <<< ((24 : Int32).toInt64 &&& 63)) + (x.toInt64 <<< (q.toInt64 &&& 63))).toInt = W.toInt * 16777216 + x.toInt * 8 ^ (7 - k.toNatClampNeg) := by
  subst hq
  have ck := g_clamp k
  have k8 : k.toNatClampNeg < 8 := by omega
  have e8 := j_e8 _ k8
  have eW : W.toInt64.toInt = W.toInt := Int32.toInt_toInt64 _
  have ex : x.toInt64.toInt = x.toInt := Int32.toInt_toInt64 _
  have s1 := j_shl (A := W.toInt64) (C := (24 : Int32).toInt64 &&& 63) (by omega) j_m24n (by rw [eW]; simp only [Int.reducePow]; omega)
  have m8 := j_m8n k8
  rw [g_ofc hk.1] at m8
  have b : x.toInt * 8 ^ (7 - k.toNatClampNeg) ≤ 7 * 2097152 := Int.le_trans (Int.mul_le_mul_of_nonneg_left e8.2.1 hx.1) (Int.mul_le_mul_of_nonneg_right (by omega) (by decide))
  have b0 : 0 ≤ x.toInt * 8 ^ (7 - k.toNatClampNeg) := Int.mul_nonneg hx.1 (by omega)
  have s2 := j_shl (A := x.toInt64) (C := (3 * (7 - k) : Int32).toInt64 &&& 63) (by omega) m8 (by rw [ex, e8.1]; omega)
  rw [eW] at s1
  rw [ex, e8.1] at s2
  simp only [Int.reducePow] at s1
  rw [Int64.toInt_add, s1, s2]
  generalize x.toInt * 8 ^ (7 - k.toNatClampNeg) = t at *
  exact Int.bmod_eq_of_le (by omega) (by omega)
theorem j_tt.bd (h : j_tt u S y n B F) : j_bd (2 ^ n) F := fun d hd => (h d hd).1
theorem j_tt.init (h1 : ∀ d, d < 256 → (R d).toInt = 1152921504606846976) (hn : n ≤ 8) : j_tt u S y n (0 : Int32).toNatClampNeg (vp_updL R (0 : Int32).toNatClampNeg 0) := by
  have p8 := j_p8 hn
  show j_tt u S y n 0 (vp_updL R 0 0)
  exact j_init (by show (vp_updL R 0 0 0).toInt = 0; rw [j_us]; rfl) (by decide) (fun d hd e => by show (vp_updL R 0 0 d).toInt = _; rw [j_ul e]; exact h1 d (by omega))
/-- one buyer more: the prices, twice the round -/
theorem j_tt.go (hw : j_wb u) (hq : (∀ b s d, c_mg w b s d = c_mg u b s d) ∧ ∀ b s, c_wh w b s = c_wh u b s) (hT : j_tt u S y z.toNatClampNeg x.toNatClampNeg F) (hP : j_pq w S x y z.toNatClampNeg Q) (s1 : j_sd z.toNatClampNeg F Q R1) (s2 : j_sd z.toNatClampNeg R1 Q R)
    (hz : 0 ≤ z.toInt ∧ z.toInt ≤ 8) (hx : 0 ≤ x) (hx1 : x < u.1 9) (h9 : u.1 9 ≤ 8) (hS : g_rw S z.toInt 0 (u.1 8).toInt) : j_tt u S y z.toNatClampNeg (x + 1).toNatClampNeg R := by
  have x0 : 0 ≤ x.toInt := Int32.le_iff_toInt_le.mp hx
  have xl := Int32.lt_iff_toInt_lt.mp hx1
  have x8 : (u.1 9).toInt ≤ 8 := Int32.le_iff_toInt_le.mp h9
  have cx := g_clamp x
  have cz := g_clamp z
  have c9 := g_clamp (u.1 9)
  have n8 : z.toNatClampNeg ≤ 8 := by omega
  have shop : ∀ k : Nat, k < z.toNatClampNeg → 0 ≤ S k ∧ S k < u.1 8 := fun k hk => by
    have eo := Int32.toInt_ofNat_of_lt (n := k) (by omega)
    have co := g_clamp (Int32.ofNat k)
    have g := hS.get (Int32.ofNat k) (by omega) (by omega)
    rw [show (Int32.ofNat k).toNatClampNeg = k by omega] at g
    exact ⟨Int32.le_iff_toInt_le.mpr g.1, Int32.lt_iff_toInt_lt.mpr g.2⟩
  have kc : ∀ k, (j_kc u S y x.toNatClampNeg k ↔ c_mg u x (S k) y) := fun k => by
    unfold j_kc; rw [g_ofc x0]
    exact ⟨fun q => q.2, fun q => ⟨by omega, q⟩⟩
  have pc : ∀ k, j_pc u S x.toNatClampNeg k = (c_wh u x (S k)).toInt * 16777216 + x.toInt * 8 ^ (7 - k) := fun k => by
    unfold j_pc; rw [g_ofc x0, show ((x.toNatClampNeg : Nat) : Int) = x.toInt by omega]
  have pr : ∀ k, k < z.toNatClampNeg → ((0 ≤ (Q k).toInt ∧ (Q k).toInt ≤ 1152921504606846976) ∧ (j_kc u S y x.toNatClampNeg k → (Q k).toInt = j_pc u S x.toNatClampNeg k) ∧ (¬ j_kc u S y x.toNatClampNeg k → (1152921504606846976 : Int) ≤ (Q k).toInt)) := fun k hk => by
    have P := hP k hk
    rw [hq.1, hq.2] at P
    have sk := shop k hk
    have wk := hw x (S k) hx hx1 sk.1 sk.2
    have e8 := j_e8 k (by omega)
    have b : x.toInt * 8 ^ (7 - k) ≤ 7 * 2097152 := Int.le_trans (Int.mul_le_mul_of_nonneg_left e8.2.1 x0) (Int.mul_le_mul_of_nonneg_right (by omega) (by decide))
    have b0 : 0 ≤ x.toInt * 8 ^ (7 - k) := Int.mul_nonneg x0 (by omega)
    rw [kc, pc]
    by_cases q : c_mg u x (S k) y
    · have e := P.1 q wk.1 wk.2
      rw [e]
      generalize x.toInt * 8 ^ (7 - k) = t at *
      exact ⟨⟨by omega, by omega⟩, fun _ => rfl, fun z => absurd q z⟩
    · have e := P.2 q
      rw [e]
      exact ⟨⟨by decide, Int.le_refl _⟩, fun z => absurd z q, fun _ => Int.le_refl _⟩
  have hQ : j_bd z.toNatClampNeg Q := fun k hk => (pr k hk).1
  have q3 : ∀ k, k < z.toNatClampNeg → 0 ≤ (Q k).toInt ∧ (j_kc u S y x.toNatClampNeg k → (Q k).toInt = j_pc u S x.toNatClampNeg k) ∧ (¬ j_kc u S y x.toNatClampNeg k → (1152921504606846976 : Int) ≤ (Q k).toInt) := fun k hk => ⟨(pr k hk).1.1, (pr k hk).2⟩
  have T1 := j_snd (cap' := fun c => (if c < x.toNatClampNeg then 2 else 0) + if x.toNatClampNeg = c then 1 else 0) n8 hT q3 (s1 hT.bd hQ) (fun _ => rfl)
  have T2 := j_snd (cap' := fun c => ((if c < x.toNatClampNeg then 2 else 0) + if x.toNatClampNeg = c then 1 else 0) + if x.toNatClampNeg = c then 1 else 0) n8 T1 q3 (s2 (fun d hd => (T1 d hd).1) hQ) (fun _ => rfl)
  have ec : (fun c => ((if c < x.toNatClampNeg then 2 else 0) + if x.toNatClampNeg = c then 1 else 0) + if x.toNatClampNeg = c then 1 else 0) = (fun c => if c < (x + 1).toNatClampNeg then 2 else 0) := by
    funext c
    rw [(g_up x0 (by omega)).2]
    by_cases e : x.toNatClampNeg = c
    · rw [if_pos e, if_neg (by omega), if_pos (by omega)]
    · rw [if_neg e]
      by_cases q : c < x.toNatClampNeg
      · rw [if_pos q, if_pos (by omega)]
      · rw [if_neg q, if_neg (by omega)]
  rw [ec] at T2
  exact T2
theorem j_gv.of (hw : j_wb u → j_tt u S y z.toNatClampNeg k.toNatClampNeg F) (hk : k = u.1 9) (hz : 0 ≤ z.toInt ∧ z.toInt ≤ 8) (hq : z.toInt = (g_bc x (u.1 8).toNatClampNeg : Int)) (hs : j_ls S x (u.1 8).toNatClampNeg) : j_gv u z S F x y := by
  refine ⟨⟨hz, hq⟩, hs, fun q => ?_⟩
  have T := hw q (2 ^ z.toNatClampNeg - 1) (by have := Nat.two_pow_pos z.toNatClampNeg; omega)
  have T2 := T.cg (S' := fun _ => true) (fun j hj => by rw [Nat.testBit_two_pow_sub_one]; exact decide_eq_true hj)
  subst hk
  exact T2.lim (fun c j h => h.1)
end JP
