/-! what is given: the reference's table -/
def f_wy (u : qS) (b s : Int32) : Int32 := f_wb (u.2.1 1240 b.toNatClampNeg) (u.2.1 1241 b.toNatClampNeg) (u.2.1 1233 s.toNatClampNeg) (u.2.1 1234 s.toNatClampNeg)
def j_kr (u : qS) (S : Nat → Int32) (y : Int32) (n : Nat) (b j : Nat) : Prop := j < n ∧ b < (u.1 1239).toNatClampNeg ∧ f_mgo u (Int32.ofNat b) (S j) y
def j_pR (u : qS) (S : Nat → Int32) (b j : Nat) : Int := (f_wy u (Int32.ofNat b) (S j)).toInt
def j_wr (u : qS) : Prop := ∀ b s : Int32, 0 ≤ b → b < u.1 1239 → 0 ≤ s → s < u.1 1232 → 0 ≤ (f_wy u b s).toInt ∧ (f_wy u b s).toInt ≤ 198
theorem j_rk {u w : qS} (h : qFr [] [1277, 1278, 1279, 1280] [] u w) : (∀ b s d, f_mgo w b s d = f_mgo u b s d) ∧ ∀ b s, f_wy w b s = f_wy u b s := by
  have wy : ∀ b s, f_wy w b s = f_wy u b s := fun b s => by
    unfold f_wy
    rw [h.2.1 1240 (by decide), h.2.1 1241 (by decide), h.2.1 1233 (by decide), h.2.1 1234 (by decide)]
  refine ⟨fun b s d => ?_, wy⟩
  unfold f_mgo f_na f_bd f_tn f_vd
  rw [h.2.1 1240 (by decide), h.2.1 1241 (by decide), h.2.1 1233 (by decide), h.2.1 1234 (by decide), h.2.1 1235 (by decide), h.2.1 1248 (by decide), h.2.1 1249 (by decide), h.2.1 1250 (by decide), h.2.1 1255 (by decide), h.1 1230 (by decide), h.1 1231 (by decide), h.1 1245 (by decide), h.1 1246 (by decide), h.1 1247 (by decide)]
/-- one cell of who goes how far -/
def j_cl (u : qS) (S : Nat → Int32) (y : Int32) (g : Nat → Int32) (k b : Nat) : Prop := (f_mgo u (Int32.ofNat b) (S k) y → g (8 * k + b) = f_wy u (Int32.ofNat b) (S k)) ∧ (¬ f_mgo u (Int32.ofNat b) (S k) y → g (8 * k + b) = -1)
def j_go (u : qS) (S : Nat → Int32) (y : Int32) (B K C : Nat) (g : Nat → Int32) : Prop := (∀ k b, k < K → b < B → j_cl u S y g k b) ∧ ∀ b, b < C → j_cl u S y g K b
def j_cp (c : Nat) : Nat → Nat := fun x => 2 - c / 3 ^ x % 3
def j_ex (n B : Nat) (ok : Nat → Nat → Prop) (P : Nat → Nat → Int) (g L : Nat → Int32) (k c : Nat) : Prop := j_O n ok P 1000000 (fun j => decide (k ≤ j)) (j_cp c) (L (6561 * k + c)).toInt ∧ (k < n → ∀ b, b < B → (L (6561 * k + c)).toInt ≤ (g_sN g L k c b).toInt)
def j_la (n B : Nat) (ok : Nat → Nat → Prop) (P : Nat → Nat → Int) (g L : Nat → Int32) (K C : Nat) : Prop := (∀ k c, K ≤ k → k ≤ n → c < 6561 → j_ex n B ok P g L k c) ∧ ∀ k c, k + 1 = K → c < C → j_ex n B ok P g L k c
section JR
variable {u : qS} {S g L G : Nat → Int32} {x y z v w i r : Int32} {n B K C k c b : Nat} {ok : Nat → Nat → Prop} {P : Nat → Nat → Int} {a : Nat → Nat} {tot : Int}
theorem j_go.zero : j_go u S y B (0 : Int32).toNatClampNeg 0 g := ⟨fun _ _ h => absurd h (Nat.not_lt_zero _), fun _ h => absurd h (Nat.not_lt_zero _)⟩
theorem j_go.next (h : j_go u S y B i.toNatClampNeg C g) (h0 : 0 ≤ i.toInt) (h1 : i.toInt < 100) (hB : B ≤ C) : j_go u S y B (i + 1).toNatClampNeg 0 g := by
  rw [(g_up h0 (by omega)).2]
  refine ⟨fun k b hk hb => ?_, fun _ h => absurd h (Nat.not_lt_zero _)⟩
  by_cases e : k = i.toNatClampNeg
  · rw [e]; exact h.2 b (by omega)
  · exact h.1 k b (by omega) hb
theorem j_go.first (h : j_go u S y B K 0 g) : j_go u S y B K (0 : Int32).toNatClampNeg g := h
theorem j_cl.un (h : j_cl u S y g k b) (he : 8 * k + b ≠ c) : j_cl u S y (upd g c v) k b := by
  unfold j_cl; rw [pk_un he]; exact h
theorem j_go.put {ix : Int32} (h : j_go u S y B x.toNatClampNeg z.toNatClampNeg g) (hx : 0 ≤ x ∧ x < 8) (hz : 0 ≤ z ∧ z < 8) (hB : B ≤ 8) (hi : ix = 8 * x + z)
    (hv : (f_mgo u z (S x.toNatClampNeg) y → v = f_wy u z (S x.toNatClampNeg)) ∧ (¬ f_mgo u z (S x.toNatClampNeg) y → v = -1)) : j_go u S y B x.toNatClampNeg (z + 1).toNatClampNeg (upd g ix.toNatClampNeg v) := by
  have cz := g_clamp z
  have z0 : 0 ≤ z.toInt := Int32.le_iff_toInt_le.mp hz.1
  have z1 : z.toInt < 8 := Int32.lt_iff_toInt_lt.mp hz.2
  have e := (g_i8 (k := x) (b := z) hx hz).1
  subst hi
  rw [e, (g_up z0 (by omega)).2]
  refine ⟨fun k b hk hb => (h.1 k b hk hb).un (by omega), fun b hb => ?_⟩
  by_cases q : b = z.toNatClampNeg
  · unfold j_cl
    rw [q, pk_us, g_ofc z0]; exact hv
  · exact (h.2 b (by omega)).un (by omega)
/-! digits -/
theorem j_dg {b : Nat} (h : ¬ c / 3 ^ b % 3 = 2) (e : Nat) : (c + 3 ^ b) / 3 ^ e % 3 = c / 3 ^ e % 3 + if b = e then 1 else 0 := by
  have p : ∀ m : Nat, 0 < 3 ^ m := fun m => Nat.pow_pos (by decide)
  rcases Nat.lt_trichotomy e b with q | q | q
  · obtain ⟨m, rfl⟩ : ∃ m, b = e + (m + 1) := ⟨b - e - 1, by omega⟩
    rw [if_neg (by omega), Nat.pow_add, Nat.add_mul_div_left _ _ (p e), Nat.pow_succ]
    omega
  · subst q
    rw [if_pos rfl]
    have z := Nat.add_mul_div_left c 1 (p e)
    rw [Nat.mul_one] at z
    rw [z]; omega
  · obtain ⟨m, rfl⟩ : ∃ m, e = b + 1 + m := ⟨e - b - 1, by omega⟩
    rw [if_neg (by omega), Nat.pow_add, ← Nat.div_div_eq_div_mul, ← Nat.div_div_eq_div_mul, Nat.pow_succ, ← Nat.div_div_eq_div_mul, ← Nat.div_div_eq_div_mul]
    have z := Nat.add_mul_div_left c 1 (p b)
    rw [Nat.mul_one] at z
    rw [z]
    have y : (c / 3 ^ b + 1) / 3 = c / 3 ^ b / 3 := by omega
    rw [y, Nat.add_zero]
theorem j_cp.put (h : ¬ c / 3 ^ b % 3 = 2) : j_cp (c + 3 ^ b) = fun x => j_cp c x - if b = x then 1 else 0 := by
  funext x
  show 2 - (c + 3 ^ b) / 3 ^ x % 3 = (2 - c / 3 ^ x % 3) - if b = x then 1 else 0
  rw [j_dg h x]
  by_cases q : b = x
  · rw [if_pos q]; omega
  · rw [if_neg q]; omega
theorem j_cp.pos : 0 < j_cp c b ↔ ¬ c / 3 ^ b % 3 = 2 := by
  show 0 < 2 - c / 3 ^ b % 3 ↔ _
  have := Nat.mod_lt (c / 3 ^ b) (by decide : 3 > 0)
  omega
theorem j_cp.zero : j_cp 0 = fun _ => 2 := by
  funext x
  show 2 - 0 / 3 ^ x % 3 = 2
  rw [Nat.zero_div]
/-! the table -/
theorem j_ex.un {p : Nat} (h : j_ex n B ok P g L k c) (hB : B ≤ 8) (hc : c < 6561) (h1 : p < 6561 * (k + 1)) (hne : 6561 * k + c ≠ p) : j_ex n B ok P g (upd L p v) k c := by
  unfold j_ex
  rw [pk_un hne]
  exact ⟨h.1, fun q b hb => by rw [g_sN_u hc (by omega) h1]; exact h.2 q b hb⟩
theorem j_la.last (h : ∀ c, c < 6561 → L (6561 * n + c) = 0) : j_la n B ok P g L n 0 := ⟨fun k c h1 h2 h3 => by
    have e : k = n := by omega
    subst e
    refine ⟨?_, fun q => absurd q (Nat.lt_irrefl _)⟩
    have z0 : (0 : Int32).toInt = 0 := rfl
    rw [h c h3, z0]
    have z : ∀ j, j < k → ¬ (fun j => decide (k ≤ j)) j = true := fun j hj q => absurd (of_decide_eq_true q) (by omega)
    refine ⟨⟨by decide, by decide⟩, fun _ => ⟨fun _ => 0, ⟨fun j hj q => absurd q (z j hj), fun x => ?_⟩, (j_s.z k z).symm⟩, fun a _ => ?_⟩
    · rw [j_n.z k (fun j hj q => absurd q (z j hj))]; exact Nat.zero_le _
    · rw [j_s.z k z]; exact Int.le_refl _, fun k c _ h => absurd h (Nat.not_lt_zero _)⟩
theorem j_la.row (h : j_la n B ok P g L (k + 1) 6561) : j_la n B ok P g L k 0 := ⟨fun q c a1 a2 a3 => by
    by_cases e : q = k
    · subst e; exact h.2 _ c rfl a3
    · exact h.1 q c (by omega) a2 a3, fun k c _ h => absurd h (Nat.not_lt_zero _)⟩
/-- what may be had by one buyer for the next shop -/
theorem j_sN.of (hok : ∀ b j, ok b j ↔ j < n ∧ b < B ∧ 0 ≤ (g (8 * j + b)).toInt) (hP : ∀ b j, ok b j → P b j = (g (8 * j + b)).toInt ∧ P b j ≤ 198) (h : j_la n B ok P g L (k + 1) C) (hk : k < n) (hc : c < 6561) (hB : B ≤ 8) (hb : b < B) :
    (ok b k → 0 < j_cp c b → j_O n ok P 1000000 (fun j => decide (k + 1 ≤ j)) (fun x => j_cp c x - if b = x then 1 else 0) (L (6561 * (k + 1) + c + 3 ^ b)).toInt ∧ (g_sN g L k c b).toInt = if (L (6561 * (k + 1) + c + 3 ^ b)).toInt = 1000000 then 1000000 else (L (6561 * (k + 1) + c + 3 ^ b)).toInt + P b k) ∧
    (¬ (ok b k ∧ 0 < j_cp c b) → (g_sN g L k c b).toInt = 1000000) := by
  have m6 : (1000000 : Int32).toInt = 1000000 := rfl
  refine ⟨fun o p => ?_, fun q => ?_⟩
  · have d := j_cp.pos.mp p
    have l := g_dig hc (by omega : b < 8) d
    have T := (h.1 (k + 1) (c + 3 ^ b) (Nat.le_refl _) (by omega) l).1
    rw [j_cp.put d, ← Nat.add_assoc] at T
    refine ⟨T, ?_⟩
    have g0 := ((hok b k).mp o).2.2
    have pb := hP b k o
    have tb := T.1
    unfold g_sN
    rw [if_neg (fun q => q.elim (fun z => by omega) d)]
    by_cases e : L (6561 * (k + 1) + c + 3 ^ b) = 1000000
    · have e6 : (L (6561 * (k + 1) + c + 3 ^ b)).toInt = 1000000 := (congrArg Int32.toInt e).trans m6
      rw [if_pos e, if_pos e6, m6]
    · rw [if_neg e, if_neg (fun z => e (Int32.toInt_inj.mp (by rw [z, m6]))), g_add (by omega) (by omega), pb.1]
  · unfold g_sN
    rw [if_pos]
    · rfl
    · by_cases z : (g (8 * k + b)).toInt < 0
      · exact Or.inl z
      · refine Or.inr (Classical.byContradiction fun d => q ⟨(hok b k).mpr ⟨hk, hb, by omega⟩, j_cp.pos.mpr d⟩)
theorem j_la.step (hok : ∀ b j, ok b j ↔ j < n ∧ b < B ∧ 0 ≤ (g (8 * j + b)).toInt) (hP : ∀ b j, ok b j → P b j = (g (8 * j + b)).toInt ∧ P b j ≤ 198) (hn : n ≤ 8) (hB : B ≤ 8) (h : j_la n B ok P g L (k + 1) C) (hk : k < n) (hC : C < 6561)
    (h1 : v.toInt ≤ 1000000) (h2 : ∀ b, b < B → v.toInt ≤ (g_sN g L k C b).toInt) (h3 : v.toInt = 1000000 ∨ ∃ b, b < B ∧ v.toInt = (g_sN g L k C b).toInt) : j_la n B ok P g (upd L (6561 * k + C) v) (k + 1) (C + 1) :=
  ⟨fun q c a1 a2 a3 => (h.1 q c a1 a2 a3).un hB a3 (by omega) (by omega), fun q c e hc => by
    have e : q = k := by omega
    subst e
    by_cases z : c = C
    · subst z
      unfold j_ex
      rw [pk_us]
      refine ⟨?_, fun _ b hb => by rw [g_sN_u hC (by omega) (by omega)]; exact h2 b hb⟩
      refine j_O.pick (k := q) (B := B) (t := fun b => (L (6561 * (q + 1) + c + 3 ^ b)).toInt) (sb := fun b => (g_sN g L q c b).toInt) hk (decide_eq_true (Nat.le_refl _)) (fun b j o => ⟨((hok b j).mp o).2.1, by rw [(hP b j o).1]; exact ((hok b j).mp o).2.2, (hP b j o).2⟩) (by omega) (fun b hb o p => ?_) (fun b hb z => (j_sN.of hok hP h hk hC hB hb).2 z) h1 h2 h3
      have w := (j_sN.of hok hP h hk hC hB hb).1 o p
      exact ⟨w.1.cg (fun j _ => j_o.suf.symm), w.2⟩
    · exact (h.2 q c rfl (by omega)).un hB (by omega) (by omega) (by omega)⟩
/-! the walk down -/
/-- the first buyer of the least sum was taken, shop by shop -/
def j_wk (n : Nat) (ok : Nat → Nat → Prop) (P : Nat → Nat → Int) (L G : Nat → Int32) (k c : Nat) : Prop := ∃ a : Nat → Nat, (∀ j, j < k → G j = Int32.ofNat (a j)) ∧ j_G n ok P a k (L 0).toInt (L (6561 * k + c)).toInt ∧ ∀ x, j_cp c x = 2 - j_pre n a k x ∧ j_pre n a k x ≤ 2
theorem j_wk.init : j_wk n ok P L G 0 0 := ⟨fun _ => 0, fun _ h => absurd h (Nat.not_lt_zero _), j_G.none, fun x => by
  rw [j_cp.zero]
  have e : j_pre n (fun _ => 0) 0 x = 0 := j_n.z n (fun j _ s => absurd (of_decide_eq_true s) (by omega))
  rw [e]; exact ⟨rfl, by omega⟩⟩
theorem j_wk.go (hok : ∀ b j, ok b j ↔ j < n ∧ b < B ∧ 0 ≤ (g (8 * j + b)).toInt) (hP : ∀ b j, ok b j → P b j = (g (8 * j + b)).toInt ∧ P b j ≤ 198) (hn : n ≤ 8) (hB : B ≤ 8) (h : j_la n B ok P g L 0 0) (hw : j_wk n ok P L G k c) (hk : k < n) (hc : c < 6561) (hb : b < B)
    (hl : (L (6561 * k + c)).toInt < 1000000) (he : g_sN g L k c b = L (6561 * k + c)) (first : ∀ e, e < b → g_sN g L k c e ≠ L (6561 * k + c)) : j_wk n ok P L (upd G k (Int32.ofNat b)) (k + 1) (c + 3 ^ b) := by
  obtain ⟨a, w1, w2, w3⟩ := hw
  have h1 : j_la n B ok P g L (k + 1) 0 := ⟨fun q c a1 a2 a3 => h.1 q c (Nat.zero_le _) a2 a3, fun _ _ _ h => absurd h (Nat.not_lt_zero _)⟩
  have ec : j_cp c = fun x => 2 - j_pre n a k x := funext (fun x => (w3 x).1)
  have X := (h.1 k c (Nat.zero_le _) (by omega) hc).2 hk
  have bd : ∀ b j, ok b j → b < B ∧ 0 ≤ P b j ∧ P b j ≤ 198 := fun b j o => ⟨((hok b j).mp o).2.1, by rw [(hP b j o).1]; exact ((hok b j).mp o).2.2, (hP b j o).2⟩
  have R := j_G.go (B := B) (NO := 1000000) (g' := fun j => if j = k then b else a j) (t := fun b => (L (6561 * (k + 1) + c + 3 ^ b)).toInt) (sb := fun b => (g_sN g L k c b).toInt) w2 hk bd (by omega)
    (fun e he o p => by
      have w := (j_sN.of hok hP h1 hk hc hB he).1 o (by rw [ec]; exact p)
      rw [ec] at w; exact w)
    (fun e he z => (j_sN.of hok hP h1 hk hc hB he).2 (by rw [ec]; exact z)) hl X hb (congrArg Int32.toInt he) (fun e h2 z => first e h2 (Int32.toInt_inj.mp z)) (fun j hj => if_neg (by omega)) (if_pos rfl)
  have d : ¬ c / 3 ^ b % 3 = 2 := j_cp.pos.mp (by rw [ec]; have := R.2.2.1; show 0 < 2 - j_pre n a k b; omega)
  refine ⟨fun j => if j = k then b else a j, fun j hj => ?_, ?_, fun x => ?_⟩
  · show upd G k (Int32.ofNat b) j = Int32.ofNat (if j = k then b else a j)
    by_cases e : j = k
    · rw [e, pk_us, if_pos rfl]
    · rw [pk_un e, if_neg e]; exact w1 j (by omega)
  · rw [← Nat.add_assoc]; exact R.1
  · rw [j_cp.put d, j_pre.up (g := a) (g' := fun j => if j = k then b else a j) (b := b) hk (fun j hj => if_neg (by omega)) (if_pos rfl)]
    have q := w3 x
    have l := R.2.2.1
    show j_cp c x - (if b = x then 1 else 0) = 2 - (j_pre n a k x + if b = x then 1 else 0) ∧ (j_pre n a k x + if b = x then 1 else 0) ≤ 2
    rw [q.1]
    by_cases e : b = x
    · rw [if_pos e]; rw [e] at l; exact ⟨by omega, by omega⟩
    · rw [if_neg e]; exact ⟨by omega, q.2⟩
/-! of the machine's numbers -/
theorem j_k.of (hw : j_wr u) (hg : j_go u S y (u.1 1239).toNatClampNeg z.toNatClampNeg C g) (hz : 0 ≤ z.toInt ∧ z.toInt ≤ 8) (h9 : 0 ≤ (u.1 1239).toInt ∧ (u.1 1239).toInt ≤ 8) (hS : g_rw S z.toInt 0 (u.1 1232).toInt) :
    (∀ b j, j_kr u S y z.toNatClampNeg b j ↔ j < z.toNatClampNeg ∧ b < (u.1 1239).toNatClampNeg ∧ 0 ≤ (g (8 * j + b)).toInt) ∧ ∀ b j, j_kr u S y z.toNatClampNeg b j → j_pR u S b j = (g (8 * j + b)).toInt ∧ j_pR u S b j ≤ 198 := by
  have cz := g_clamp z
  have c9 := g_clamp (u.1 1239)
  have m1 : (-1 : Int32).toInt = -1 := rfl
  have w : ∀ b j, j < z.toNatClampNeg → b < (u.1 1239).toNatClampNeg → 0 ≤ (f_wy u (Int32.ofNat b) (S j)).toInt ∧ (f_wy u (Int32.ofNat b) (S j)).toInt ≤ 198 := fun b j hj hb => by
    have eb := Int32.toInt_ofNat_of_lt (n := b) (by omega)
    have ej := Int32.toInt_ofNat_of_lt (n := j) (by omega)
    have cj := g_clamp (Int32.ofNat j)
    have s := hS.get (Int32.ofNat j) (by omega) (by omega)
    rw [show (Int32.ofNat j).toNatClampNeg = j by omega] at s
    have e0 : (0 : Int32).toInt = 0 := rfl
    exact hw _ _ (Int32.le_iff_toInt_le.mpr (by omega)) (Int32.lt_iff_toInt_lt.mpr (by omega)) (Int32.le_iff_toInt_le.mpr (by omega)) (Int32.lt_iff_toInt_lt.mpr (by omega))
  refine ⟨fun b j => ⟨fun q => ⟨q.1, q.2.1, ?_⟩, fun q => ⟨q.1, q.2.1, Classical.byContradiction fun z => ?_⟩⟩, fun b j q => ?_⟩
  · rw [(hg.1 j b q.1 q.2.1).1 q.2.2]; exact (w b j q.1 q.2.1).1
  · have e := (hg.1 j b q.1 q.2.1).2 z
    rw [e] at q; omega
  · have e := (hg.1 j b q.1 q.2.1).1 q.2.2
    rw [e]; exact ⟨rfl, (w b j q.1 q.2.1).2⟩
def j_T (u : qS) (S : Nat → Int32) (y z : Int32) (g L : Nat → Int32) (K C : Nat) : Prop := j_wr u → j_la z.toNatClampNeg (u.1 1239).toNatClampNeg (j_kr u S y z.toNatClampNeg) (j_pR u S) g L K C
def j_V (u : qS) (S : Nat → Int32) (y z : Int32) (L G : Nat → Int32) (k c : Nat) : Prop := j_wr u → (L 0).toInt < 1000000 → j_wk z.toNatClampNeg (j_kr u S y z.toNatClampNeg) (j_pR u S) L G k c
/-- the least so far of one entry's sums -/
def j_bl (g L : Nat → Int32) (k c m : Nat) (w : Int32) : Prop := (∀ b, b < m → w.toInt ≤ (g_sN g L k c b).toInt) ∧ (w.toInt = 1000000 ∨ ∃ b, b < m ∧ w.toInt = (g_sN g L k c b).toInt)
theorem j_bl.zero : j_bl g L k c (0 : Int32).toNatClampNeg 1000000 := ⟨fun _ h => absurd h (Nat.not_lt_zero _), Or.inl rfl⟩
theorem j_bl.lt (h : j_bl g L k c i.toNatClampNeg w) (h0 : 0 ≤ i.toInt) (h1 : i.toInt < 100) (hv : v = g_sN g L k c i.toNatClampNeg) (q : v.toInt < w.toInt) : j_bl g L k c (i + 1).toNatClampNeg v := by
  rw [(g_up h0 (by omega)).2]
  refine ⟨fun b hb => ?_, Or.inr ⟨_, Nat.lt_succ_self _, by rw [hv]⟩⟩
  by_cases e : b = i.toNatClampNeg
  · rw [e, hv]; exact Int.le_refl _
  · have := h.1 b (by omega); omega
theorem j_bl.ge (h : j_bl g L k c i.toNatClampNeg w) (h0 : 0 ≤ i.toInt) (h1 : i.toInt < 100) (hv : v = g_sN g L k c i.toNatClampNeg) (q : w.toInt ≤ v.toInt) : j_bl g L k c (i + 1).toNatClampNeg w := by
  rw [(g_up h0 (by omega)).2]
  refine ⟨fun b hb => ?_, ?_⟩
  · by_cases e : b = i.toNatClampNeg
    · rw [e, ← hv]; exact q
    · exact h.1 b (by omega)
  · rcases h.2 with e | ⟨b, b1, b2⟩
    · exact Or.inl e
    · exact Or.inr ⟨b, by omega, b2⟩
theorem j_T.step (h : j_T u S y z g L (k + 1) C) (hg : j_go u S y (u.1 1239).toNatClampNeg z.toNatClampNeg 0 g) (hz : 0 ≤ z.toInt ∧ z.toInt ≤ 8) (h9 : 0 ≤ (u.1 1239).toInt ∧ (u.1 1239).toInt ≤ 8) (hS : g_rw S z.toInt 0 (u.1 1232).toInt) (hk : k < z.toNatClampNeg) (hC : C < 6561) (h1 : v.toInt ≤ 1000000) (hb : j_bl g L k C (u.1 1239).toNatClampNeg v) : j_T u S y z g (upd L (6561 * k + C) v) (k + 1) (C + 1) := fun hw => by
  have o := j_k.of hw hg hz h9 hS
  have cz := g_clamp z
  have c9 := g_clamp (u.1 1239)
  exact j_la.step o.1 o.2 (by omega) (by omega) (h hw) hk hC h1 hb.1 hb.2
theorem j_V.go {j e : Int32} (hT : j_T u S y z g L 0 0) (h : j_V u S y z L G i.toNatClampNeg x.toNatClampNeg) (hg : j_go u S y (u.1 1239).toNatClampNeg z.toNatClampNeg 0 g) (hz : 0 ≤ z.toInt ∧ z.toInt ≤ 8) (h9 : 0 ≤ (u.1 1239).toInt ∧ (u.1 1239).toInt ≤ 8) (hS : g_rw S z.toInt 0 (u.1 1232).toInt)
    (hi : 0 ≤ i.toInt) (hk : i.toInt < z.toInt) (hx : 0 ≤ x.toInt ∧ x.toInt < 6561) (hj : 0 ≤ j.toInt) (hb : j.toNatClampNeg < (u.1 1239).toNatClampNeg) (hl : (L (6561 * i.toNatClampNeg + x.toNatClampNeg)).toInt < 1000000) (he : g_sN g L i.toNatClampNeg x.toNatClampNeg j.toNatClampNeg = L (6561 * i.toNatClampNeg + x.toNatClampNeg)) (first : ∀ c, c < j.toNatClampNeg → g_sN g L i.toNatClampNeg x.toNatClampNeg c ≠ L (6561 * i.toNatClampNeg + x.toNatClampNeg))
    (hn : e.toNatClampNeg = x.toNatClampNeg + 3 ^ j.toNatClampNeg) : j_V u S y z L (upd G i.toNatClampNeg j) (i + 1).toNatClampNeg e.toNatClampNeg := fun hw h0 => by
  have o := j_k.of hw hg hz h9 hS
  have cz := g_clamp z
  have ci := g_clamp i
  have cx := g_clamp x
  have c9 := g_clamp (u.1 1239)
  have W := j_wk.go o.1 o.2 (by omega) (by omega) (hT hw) (h hw h0) (by omega) (by omega) hb hl he first
  rw [g_ofc hj] at W
  rw [hn, (g_up hi (by omega)).2]
  exact W
/-- what is known of all that was worked out -/
def j_rv (u : qS) (z : Int32) (S L G : Nat → Int32) (x y : Int32) : Prop := ((0 ≤ z.toInt ∧ z.toInt ≤ 8) ∧ z.toInt = (g_bc x (u.1 1232).toNatClampNeg : Int)) ∧ j_ls S x (u.1 1232).toNatClampNeg ∧ (j_wr u → j_O z.toNatClampNeg (j_kr u S y z.toNatClampNeg) (j_pR u S) 1000000 (fun _ => true) (fun _ => 2) (L 0).toInt ∧ ((L 0).toInt < 1000000 → ∃ a : Nat → Nat, (∀ j, j < z.toNatClampNeg → G j = Int32.ofNat (a j)) ∧ j_A z.toNatClampNeg (j_kr u S y z.toNatClampNeg) a ∧ (L 0).toInt = j_s (fun _ => true) (fun j => j_pR u S (a j) j) z.toNatClampNeg ∧
  ∀ b, j_A z.toNatClampNeg (j_kr u S y z.toNatClampNeg) b → j_s (fun _ => true) (fun j => j_pR u S (b j) j) z.toNatClampNeg = (L 0).toInt → (∀ j, j < z.toNatClampNeg → b j = a j) ∨ ∃ j, j < z.toNatClampNeg ∧ (∀ i, i < j → b i = a i) ∧ a j < b j))
theorem j_O.nil {cap : Nat → Nat} {NO t : Int} (h : j_O n ok P NO (fun j => decide (n ≤ j)) cap t) : t = 0 := by
  have z : ∀ j, j < n → ¬ (fun j => decide (n ≤ j)) j = true := fun j hj q => absurd (of_decide_eq_true q) (by omega)
  have w := h.2.2 (fun _ => 0) ⟨fun j hj q => absurd q (z j hj), fun x => by rw [j_n.z n (fun j hj q => absurd q (z j hj))]; exact Nat.zero_le _⟩
  rw [j_s.z n z] at w
  have := h.1.1
  omega
theorem j_wk.fin (h : j_wk n ok P L G n c) (hL : (L (6561 * n + c)).toInt = 0) : ∃ a : Nat → Nat, (∀ j, j < n → G j = Int32.ofNat (a j)) ∧ j_A n ok a ∧ (L 0).toInt = j_s (fun _ => true) (fun j => P (a j) j) n ∧ ∀ b, j_A n ok b → j_s (fun _ => true) (fun j => P (b j) j) n = (L 0).toInt → (∀ j, j < n → b j = a j) ∨ ∃ j, j < n ∧ (∀ i, i < j → b i = a i) ∧ a j < b j := by
  obtain ⟨a, w1, w2, w3⟩ := h
  obtain ⟨g1, g2, g3⟩ := w2
  have e : j_s (fun j => decide (j < n)) (fun j => P (a j) j) n = j_s (fun _ => true) (fun j => P (a j) j) n := j_s.cg n (fun j hj => ⟨decide_eq_true hj, fun _ => rfl⟩)
  refine ⟨a, w1, ⟨fun j hj _ => g1 j hj, fun x => ?_⟩, by rw [g2, hL, e]; omega, g3⟩
  have q : j_pre n a n x = j_n (fun _ => true) a x n := j_n.cg n (fun j hj => ⟨decide_eq_true hj, fun _ => rfl⟩)
  rw [← q]; exact (w3 x).2
theorem j_rv.of (hT : j_T u S y z g L 0 0) (hV : j_V u S y z L G i.toNatClampNeg v.toNatClampNeg) (hz : 0 ≤ z.toInt ∧ z.toInt ≤ 8) (hq : z.toInt = (g_bc x (u.1 1232).toNatClampNeg : Int)) (hs : j_ls S x (u.1 1232).toNatClampNeg) (he : (L 0).toInt < 1000000 → i = z ∧ 0 ≤ v.toInt ∧ v.toInt < 6561) : j_rv u z S L G x y := by
  refine ⟨⟨hz, hq⟩, hs, fun hw => ?_⟩
  have T := (hT hw).1
  refine ⟨?_, fun h0 => ?_⟩
  · have A := (T 0 0 (Nat.le_refl _) (Nat.zero_le _) (by decide)).1
    rw [j_cp.zero] at A
    exact A.cg (fun j _ => decide_eq_true (Nat.zero_le j))
  · obtain ⟨e, c0, c1⟩ := he h0
    have cv := g_clamp v
    have W := hV hw h0
    rw [e] at W
    exact W.fin (T z.toNatClampNeg v.toNatClampNeg (Nat.zero_le _) (Nat.le_refl _) (by omega)).1.nil
def j_ra (z : Int32) (S L G : Nat → Int32) (x r : Int32) : Prop := (L (0 : Int32).toNatClampNeg = 1000000 ∧ r = -1) ∨ (¬ L (0 : Int32).toNatClampNeg = 1000000 ∧ ((∃ k : Int32, 0 ≤ k ∧ k < z ∧ S k.toNatClampNeg = x ∧ r = G k.toNatClampNeg) ∨ ((∀ k : Nat, k < z.toNatClampNeg → ¬ S k = x) ∧ r = L (0 : Int32).toNatClampNeg)))
theorem j_rv.cg {u' : qS} (hm : ∀ b s d, f_mgo u' b s d = f_mgo u b s d) (hy : ∀ b s, f_wy u' b s = f_wy u b s) (h1 : u'.1 1232 = u.1 1232) (h2 : u'.1 1239 = u.1 1239) : j_rv u' z S L G x y = j_rv u z S L G x y := by
  have e1 : j_kr u' S y z.toNatClampNeg = j_kr u S y z.toNatClampNeg := by
    funext b j
    unfold j_kr
    rw [hm, h2]
  have e2 : j_pR u' S = j_pR u S := by
    funext b j
    unfold j_pR
    rw [hy]
  have e3 : j_wr u' = j_wr u := by
    unfold j_wr
    rw [h1, h2]
    exact propext ⟨fun h b s a1 a2 a3 a4 => by rw [← hy]; exact h b s a1 a2 a3 a4, fun h b s a1 a2 a3 a4 => by rw [hy]; exact h b s a1 a2 a3 a4⟩
  unfold j_rv
  rw [e1, e2, e3, h1]
theorem j_rv.thr : j_rv (qsI u 1200 v) z S L G x y = j_rv u z S L G x y := j_rv.cg (fun _ _ _ => rfl) (fun _ _ => rfl) rfl rfl
end JR
