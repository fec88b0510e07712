/-! the day of a buyer: those that stand alone, their quarrels, the fewest that answer for all -/
noncomputable def f_n (P : Int32 → Prop) : Nat → Nat
  | 0 => 0
  | n + 1 => f_n P n + @ite Nat (P (Int32.ofNat n)) (Classical.propDecidable _) 1 0
theorem f_n.t {P : Int32 → Prop} {n : Nat} (h : P (Int32.ofNat n)) : f_n P (n + 1) = f_n P n + 1 := by
  show f_n P n + @ite Nat _ (Classical.propDecidable _) 1 0 = _; rw [if_pos h]
theorem f_n.f {P : Int32 → Prop} {n : Nat} (h : ¬ P (Int32.ofNat n)) : f_n P (n + 1) = f_n P n := by
  show f_n P n + @ite Nat _ (Classical.propDecidable _) 1 0 = _; rw [if_neg h]; rfl
theorem f_of {v : Int32} (h : 0 ≤ v.toInt) : Int32.ofNat v.toNatClampNeg = v := by
  have := g_clamp v
  have r := g_rng v
  refine Int32.toInt_inj.mp ?_
  rw [Int32.toInt_ofNat_of_lt (by omega)]; omega
/-- the row of the first of them -/
def f_T (P : Int32 → Prop) (n th : Nat) (T : Nat → Int32) : Prop := (∀ v : Int32, 0 ≤ v.toInt → v.toInt < n → P v → f_n P v.toNatClampNeg < th ∧ T (f_n P v.toNatClampNeg) = v) ∧ (∀ j : Nat, j < th → (0 ≤ (T j).toInt ∧ (T j).toInt < n) ∧ P (T j) ∧ f_n P (T j).toNatClampNeg = j)
theorem f_T.nil {P : Int32 → Prop} {T : Nat → Int32} : f_T P 0 0 T := ⟨fun _ a b => absurd b (by omega), fun _ a => absurd a (Nat.not_lt_zero _)⟩
theorem f_T.f {P : Int32 → Prop} {v : Int32} {T : Nat → Int32} (h : f_T P v.toNatClampNeg (f_n P v.toNatClampNeg) T) (h0 : 0 ≤ v.toInt) (hP : ¬ P v) : f_T P (v.toNatClampNeg + 1) (f_n P (v.toNatClampNeg + 1)) T := by
  have e := f_of h0
  rw [f_n.f (by rw [e]; exact hP)]
  have c := g_clamp v
  refine ⟨fun w a b q => ?_, fun j a => ?_⟩
  · refine h.1 w a ?_ q
    rcases Int.lt_or_le w.toInt v.toInt with z | z
    · omega
    · exact absurd ((Int32.toInt_inj.mp (by omega : w.toInt = v.toInt)) ▸ q) hP
  · obtain ⟨b, c, d⟩ := h.2 j a
    exact ⟨⟨b.1, by omega⟩, c, d⟩
theorem f_T.t {P : Int32 → Prop} {v : Int32} {T : Nat → Int32} (h : f_T P v.toNatClampNeg (f_n P v.toNatClampNeg) T) (h0 : 0 ≤ v.toInt) (hP : P v) : f_T P (v.toNatClampNeg + 1) (f_n P (v.toNatClampNeg + 1)) (upd T (f_n P v.toNatClampNeg) v) := by
  have e := f_of h0
  rw [f_n.t (by rw [e]; exact hP)]
  have c := g_clamp v
  refine ⟨fun w a b q => ?_, fun j a => ?_⟩
  · rcases Int.lt_or_le w.toInt v.toInt with z | z
    · obtain ⟨p1, p2⟩ := h.1 w a (by omega) q
      exact ⟨by omega, by rw [pk_un (by omega)]; exact p2⟩
    · have : w = v := Int32.toInt_inj.mp (by omega)
      subst this
      exact ⟨by omega, pk_us⟩
  · by_cases z : j = f_n P v.toNatClampNeg
    · subst z; rw [pk_us]; exact ⟨⟨h0, by omega⟩, hP, rfl⟩
    · rw [pk_un z]
      obtain ⟨b, c, d⟩ := h.2 j (by omega)
      exact ⟨⟨b.1, by omega⟩, c, d⟩
def f_gp (k : qS) (b d v : Int32) : Prop := f_sn k v ∧ k.2.1 1249 v.toNatClampNeg = b ∧ k.2.1 1250 v.toNatClampNeg = d ∧ f_al k v
/-- the quarrels -/
def f_q (k : qS) (th : Int32) (T Q : Nat → Int32) (i : Int32) : Prop := ∀ j : Int32, 0 ≤ j → j < th → (Q (12 * i + j).toNatClampNeg = 0 ↔ (i = j ∨ f_bo k (T i.toNatClampNeg) (T j.toNatClampNeg)))
def f_Q (k : qS) (n th : Int32) (T Q : Nat → Int32) : Prop := ∀ i : Int32, 0 ≤ i → i < n → f_q k th T Q i
/-- a set answers for all -/
def f_D (k : qS) (b d x : Int32) : Prop := ∀ v w : Int32, f_gp k b d v → f_gp k b d w → f_n (f_gp k b d) w.toNatClampNeg < f_n (f_gp k b d) v.toNatClampNeg → f_bo k v w ∨ ¬ (x >>> (Int32.ofNat (f_n (f_gp k b d) v.toNatClampNeg) &&& 31)) &&& 1 = 0 ∨ ¬ (x >>> (Int32.ofNat (f_n (f_gp k b d) w.toNatClampNeg) &&& 31)) &&& 1 = 0
noncomputable def f_sl (th : Int32) (D : Int32 → Prop) : Nat → Int32 × Int32 × Int32
  | 0 => (th + 1, 0, 0)
  | n + 1 => @ite _ (Int32.ofInt (g_bc (Int32.ofNat n) 20) ≤ (f_sl th D n).1 ∧ D (Int32.ofNat n)) (Classical.propDecidable _) (Int32.ofInt (g_bc (Int32.ofNat n) 20), if Int32.ofInt (g_bc (Int32.ofNat n) 20) < (f_sl th D n).1 then Int32.ofNat n else (f_sl th D n).2.1 &&& Int32.ofNat n, if Int32.ofInt (g_bc (Int32.ofNat n) 20) < (f_sl th D n).1 then Int32.ofNat n else (f_sl th D n).2.2 ||| Int32.ofNat n) (f_sl th D n)
theorem f_12 {i j : Int32} (hi : 0 ≤ i ∧ i < 12) (hj : 0 ≤ j ∧ j < 12) : (12 * i + j).toInt = 12 * i.toInt + j.toInt := by
  have a1 := Int32.le_iff_toInt_le.mp hi.1; have a2 := Int32.lt_iff_toInt_lt.mp hi.2
  have b1 := Int32.le_iff_toInt_le.mp hj.1; have b2 := Int32.lt_iff_toInt_lt.mp hj.2
  have z : (0 : Int32).toInt = 0 := by decide
  have t : (12 : Int32).toInt = 12 := by decide
  rw [z] at a1 b1; rw [t] at a2 b2
  have m : (12 * i).toInt = (12 : Int32).toInt * i.toInt := g_mul (by rw [t]; omega) (by rw [t]; omega)
  have s : (12 * i + j).toInt = (12 * i).toInt + j.toInt := g_add (by rw [m, t]; omega) (by rw [m, t]; omega)
  rw [s, m, t]
theorem f_ix {i j a b : Int32} (hi : 0 ≤ i ∧ i < 12) (hj : 0 ≤ j ∧ j < 12) (ha : 0 ≤ a ∧ a < 12) (hb : 0 ≤ b ∧ b < 12) (h : (12 * i + j).toNatClampNeg = (12 * a + b).toNatClampNeg) : i = a ∧ j = b := by
  have c1 := g_clamp (12 * i + j); have c2 := g_clamp (12 * a + b)
  rw [f_12 hi hj] at c1; rw [f_12 ha hb] at c2
  have a1 := Int32.le_iff_toInt_le.mp hi.1; have a2 := Int32.lt_iff_toInt_lt.mp hi.2
  have b1 := Int32.le_iff_toInt_le.mp hj.1; have b2 := Int32.lt_iff_toInt_lt.mp hj.2
  have d1 := Int32.le_iff_toInt_le.mp ha.1; have d2 := Int32.lt_iff_toInt_lt.mp ha.2
  have e1 := Int32.le_iff_toInt_le.mp hb.1; have e2 := Int32.lt_iff_toInt_lt.mp hb.2
  have z : (0 : Int32).toInt = 0 := by decide
  have t : (12 : Int32).toInt = 12 := by decide
  rw [z] at a1 b1 d1 e1; rw [t] at a2 b2 d2 e2
  exact ⟨Int32.toInt_inj.mp (by omega), Int32.toInt_inj.mp (by omega)⟩
theorem f_q.nil {k : qS} {T Q : Nat → Int32} {i : Int32} : f_q k 0 T Q i := fun _ a b => (f_no a b).elim
theorem f_Q.nil {k : qS} {th : Int32} {T Q : Nat → Int32} : f_Q k 0 th T Q := fun _ a b => (f_no a b).elim
theorem f_q.up {k : qS} {T Q : Nat → Int32} {a b z : Int32} (h : f_q k b T Q a) (ha : 0 ≤ a ∧ a < 12) (hb : 0 ≤ b ∧ b < 12) (hz : z = 0 ↔ (a = b ∨ f_bo k (T a.toNatClampNeg) (T b.toNatClampNeg))) : f_q k (b + 1) T (upd Q (12 * a + b).toNatClampNeg z) a := fun j h0 h1 => by
  rcases f_lt1 hb.1 (Int32.lt_of_lt_of_le hb.2 (by decide)) h1 with q | q
  · rw [pk_un (fun e => absurd (f_ix ha ⟨h0, Int32.lt_trans q hb.2⟩ ha hb e).2 (fun e => absurd (e ▸ q) Int32.lt_irrefl))]; exact h j h0 q
  · subst q; rw [pk_us]; exact hz
theorem f_Q.put {k : qS} {n th : Int32} {T Q : Nat → Int32} {a b z : Int32} (h : f_Q k n th T Q) (hn : n ≤ a) (ht : th ≤ 12) (ha : 0 ≤ a ∧ a < 12) (hb : 0 ≤ b ∧ b < 12) : f_Q k n th T (upd Q (12 * a + b).toNatClampNeg z) := fun i h0 h1 j h2 h3 => by
  have hi := Int32.lt_of_lt_of_le h1 hn
  rw [pk_un (fun e => absurd (f_ix ⟨h0, Int32.lt_trans hi ha.2⟩ ⟨h2, Int32.lt_of_lt_of_le h3 ht⟩ ha hb e).1 (fun e => absurd (e ▸ hi) Int32.lt_irrefl))]
  exact h i h0 h1 j h2 h3
theorem f_Q.up {k : qS} {n m th : Int32} {T Q : Nat → Int32} (h : f_Q k n th T Q) (h0 : 0 ≤ n) (h1 : n < 100000) (hq : f_q k m T Q n) (hm : th ≤ m) : f_Q k (n + 1) th T Q := fun i a b => (f_lt1 h0 h1 b).elim (h i a) (fun e => by subst e; exact fun j c d => hq j c (Int32.lt_of_lt_of_le d hm))
theorem f_Q.to {k : qS} {n m th : Int32} {T Q : Nat → Int32} (h : f_Q k n th T Q) (hm : m ≤ n) : f_Q k m th T Q := fun i a b => h i a (Int32.lt_of_lt_of_le b hm)
theorem f_gp.in {k : qS} {b d v : Int32} (h : f_gp k b d v) : 0 ≤ v.toInt ∧ v.toInt < (k.1 1247).toNatClampNeg := by
  have a1 := Int32.le_iff_toInt_le.mp h.1.1.1; have a2 := Int32.lt_iff_toInt_lt.mp h.1.1.2
  have z : (0 : Int32).toInt = 0 := by decide
  have c := g_clamp (k.1 1247)
  rw [z] at a1
  exact ⟨a1, by omega⟩
theorem f_ofn {n : Nat} (h : n < 100000) : (Int32.ofNat n).toInt = n ∧ (Int32.ofNat n).toNatClampNeg = n := by
  have e : (Int32.ofNat n).toInt = n := Int32.toInt_ofNat_of_lt (by omega)
  have c := g_clamp (Int32.ofNat n)
  exact ⟨e, by omega⟩
/-- what the rows say of a set is what the kept says -/
theorem f_ddD {k : qS} {b d x th : Int32} {T Q : Nat → Int32} (hth : th.toInt = (f_n (f_gp k b d) (k.1 1247).toNatClampNeg : Int)) (h12 : th ≤ 12) (hT : f_T (f_gp k b d) (k.1 1247).toNatClampNeg (f_n (f_gp k b d) (k.1 1247).toNatClampNeg) T) (hQ : f_Q k th th T Q) : f_dd th Q x ↔ f_D k b d x := by
  have t12 := Int32.le_iff_toInt_le.mp h12
  have e12 : (12 : Int32).toInt = 12 := by decide
  have z : (0 : Int32).toInt = 0 := by decide
  rw [e12] at t12
  constructor
  · intro h v w hv hw hlt
    obtain ⟨v1, v2⟩ := hT.1 v hv.in.1 hv.in.2 hv
    obtain ⟨w1, w2⟩ := hT.1 w hw.in.1 hw.in.2 hw
    have ev := f_ofn (n := f_n (f_gp k b d) v.toNatClampNeg) (by omega)
    have ew := f_ofn (n := f_n (f_gp k b d) w.toNatClampNeg) (by omega)
    have i0 : 0 ≤ Int32.ofNat (f_n (f_gp k b d) v.toNatClampNeg) := Int32.le_iff_toInt_le.mpr (by rw [ev.1, z]; omega)
    have j0 : 0 ≤ Int32.ofNat (f_n (f_gp k b d) w.toNatClampNeg) := Int32.le_iff_toInt_le.mpr (by rw [ew.1, z]; omega)
    have it : Int32.ofNat (f_n (f_gp k b d) v.toNatClampNeg) < th := Int32.lt_iff_toInt_lt.mpr (by rw [ev.1]; omega)
    have jt : Int32.ofNat (f_n (f_gp k b d) w.toNatClampNeg) < th := Int32.lt_iff_toInt_lt.mpr (by rw [ew.1]; omega)
    have ji : Int32.ofNat (f_n (f_gp k b d) w.toNatClampNeg) < Int32.ofNat (f_n (f_gp k b d) v.toNatClampNeg) := Int32.lt_iff_toInt_lt.mpr (by rw [ev.1, ew.1]; omega)
    rcases h _ _ j0 ji it with q | q
    · have q2 := (hQ _ i0 it _ j0 jt).mp q
      rw [ev.2, ew.2, v2, w2] at q2
      rcases q2 with q2 | q2
      · rw [q2] at ji; exact absurd ji Int32.lt_irrefl
      · exact Or.inl q2
    · exact Or.inr q
  · intro h i j j0 ji it
    have a1 := Int32.le_iff_toInt_le.mp j0; have a2 := Int32.lt_iff_toInt_lt.mp ji; have a3 := Int32.lt_iff_toInt_lt.mp it
    rw [z] at a1
    have ci := g_clamp i; have cj := g_clamp j
    obtain ⟨-, vi, ei⟩ := hT.2 i.toNatClampNeg (by omega)
    obtain ⟨-, vj, ej⟩ := hT.2 j.toNatClampNeg (by omega)
    have i0 : 0 ≤ i := Int32.le_iff_toInt_le.mpr (by rw [z]; omega)
    have jt : j < th := Int32.lt_iff_toInt_lt.mpr (by omega)
    rcases h _ _ vi vj (by rw [ei, ej]; omega) with q | q
    · exact Or.inl ((hQ i i0 it j j0 jt).mpr (Or.inr q))
    · rw [ei, ej, f_of (by omega : 0 ≤ i.toInt), f_of a1] at q
      exact Or.inr q
theorem f_sl.s {th : Int32} {D : Int32 → Prop} {x r : Int32} (h0 : 0 ≤ x.toInt) (hr : r.toInt = (g_bc x 20 : Int)) : f_sl th D (x.toNatClampNeg + 1) = @ite _ (r ≤ (f_sl th D x.toNatClampNeg).1 ∧ D x) (Classical.propDecidable _) (r, if r < (f_sl th D x.toNatClampNeg).1 then x else (f_sl th D x.toNatClampNeg).2.1 &&& x, if r < (f_sl th D x.toNatClampNeg).1 then x else (f_sl th D x.toNatClampNeg).2.2 ||| x) (f_sl th D x.toNatClampNeg) := by
  have e := f_of h0
  have er : Int32.ofInt (g_bc x 20) = r := by rw [← hr]; exact Int32.ofInt_toInt r
  show @ite _ _ (Classical.propDecidable _) _ _ = _
  rw [e, er]
theorem f_sl.no {th : Int32} {D : Int32 → Prop} {x r : Int32} (h0 : 0 ≤ x.toInt) (hr : r.toInt = (g_bc x 20 : Int)) (h : ¬ (r ≤ (f_sl th D x.toNatClampNeg).1 ∧ D x)) : f_sl th D (x.toNatClampNeg + 1) = f_sl th D x.toNatClampNeg := by
  rw [f_sl.s h0 hr, if_neg h]
theorem f_sl.lt {th : Int32} {D : Int32 → Prop} {x r : Int32} (h0 : 0 ≤ x.toInt) (hr : r.toInt = (g_bc x 20 : Int)) (h : r < (f_sl th D x.toNatClampNeg).1) (hD : D x) : f_sl th D (x.toNatClampNeg + 1) = (r, x, x) := by
  rw [f_sl.s h0 hr, if_pos ⟨Int32.le_of_lt h, hD⟩, if_pos h, if_pos h]
theorem f_sl.eq {th : Int32} {D : Int32 → Prop} {x r : Int32} (h0 : 0 ≤ x.toInt) (hr : r.toInt = (g_bc x 20 : Int)) (h : ¬ r < (f_sl th D x.toNatClampNeg).1) (hl : r ≤ (f_sl th D x.toNatClampNeg).1) (hD : D x) : f_sl th D (x.toNatClampNeg + 1) = (r, (f_sl th D x.toNatClampNeg).2.1 &&& x, (f_sl th D x.toNatClampNeg).2.2 ||| x) := by
  rw [f_sl.s h0 hr, if_pos ⟨hl, hD⟩, if_neg h, if_neg h]
/-- the state by the sets' bits -/
def f_by (s m i : Int32) : Int32 := if (s >>> (i &&& 31)) &&& 1 = 1 then 2 else if (m >>> (i &&& 31)) &&& 1 = 1 then 3 else 0
noncomputable def f_th (k : qS) (b d : Int32) : Int32 := Int32.ofNat (f_n (f_gp k b d) (k.1 1247).toNatClampNeg)
noncomputable def f_all (k : qS) (b d : Int32) : Int32 × Int32 × Int32 := f_sl (f_th k b d) (f_D k b d) ((1 : Int32) <<< (f_th k b d &&& 31)).toNatClampNeg
noncomputable def f_st (k : qS) (b d v : Int32) : Int32 := f_by (f_all k b d).2.1 (f_all k b d).2.2 (Int32.ofNat (f_n (f_gp k b d) v.toNatClampNeg))
/-- the states while they are written: those of the group with an index below n, by the sets; the rest as before -/
def f_sw (k : qS) (b d : Int32) (n : Nat) (s0 s1 : Nat → Int32) : Prop := ∀ v : Int32, f_sn k v → (f_gp k b d v → f_n (f_gp k b d) v.toNatClampNeg < n → s1 v.toNatClampNeg = f_st k b d v) ∧ (¬ (f_gp k b d v ∧ f_n (f_gp k b d) v.toNatClampNeg < n) → s1 v.toNatClampNeg = s0 v.toNatClampNeg)
theorem f_sw.nil {k : qS} {b d : Int32} {s0 : Nat → Int32} : f_sw k b d 0 s0 s0 := fun v _ => ⟨fun _ h => absurd h (Nat.not_lt_zero _), fun _ => rfl⟩
theorem f_sw.up {k : qS} {b d x : Int32} {s0 s1 T : Nat → Int32} (h : f_sw k b d x.toNatClampNeg s0 s1) (h0 : 0 ≤ x.toInt) (hx : x.toNatClampNeg < f_n (f_gp k b d) (k.1 1247).toNatClampNeg) (hT : f_T (f_gp k b d) (k.1 1247).toNatClampNeg (f_n (f_gp k b d) (k.1 1247).toNatClampNeg) T) : f_sw k b d (x.toNatClampNeg + 1) s0 (upd s1 (T x.toNatClampNeg).toNatClampNeg (f_by (f_all k b d).2.1 (f_all k b d).2.2 x)) := fun v hv => by
  obtain ⟨p0, p1, p2⟩ := hT.2 x.toNatClampNeg hx
  have a1 := Int32.le_iff_toInt_le.mp hv.1.1
  have z : (0 : Int32).toInt = 0 := by decide
  rw [z] at a1
  by_cases e : v.toNatClampNeg = (T x.toNatClampNeg).toNatClampNeg
  · have c1 := g_clamp v; have c2 := g_clamp (T x.toNatClampNeg)
    have ev : v = T x.toNatClampNeg := Int32.toInt_inj.mp (by omega)
    rw [← e, pk_us]
    rw [← ev] at p1 p2
    refine ⟨fun _ _ => ?_, fun q => absurd ⟨p1, by omega⟩ q⟩
    unfold f_st; rw [p2, f_of h0]
  · rw [pk_un e]
    refine ⟨fun hg hl => ?_, fun q => ?_⟩
    · refine (h v hv).1 hg ?_
      rcases Nat.lt_or_ge (f_n (f_gp k b d) v.toNatClampNeg) x.toNatClampNeg with w | w
      · exact w
      · have e2 : f_n (f_gp k b d) v.toNatClampNeg = x.toNatClampNeg := by omega
        have := (hT.1 v hg.in.1 hg.in.2 hg).2
        rw [e2] at this
        exact absurd (by rw [this]) e
    · exact (h v hv).2 (fun w => q ⟨w.1, by omega⟩)
/-- a state of 1: not alone -/
def f_a1 (k : qS) (st : Nat → Int32) : Prop := ∀ v : Int32, f_sn k v → (st v.toNatClampNeg = 1 ↔ ¬ f_al k v)
theorem f_gp.mk {k u : qS} {st : Nat → Int32} {b d v : Int32} (hk : IK k u) (h0 : f_a1 k st) (h1 : f_sn k v) (h2 : u.2.1 1249 v.toNatClampNeg = b) (h3 : u.2.1 1250 v.toNatClampNeg = d) (h4 : ¬ st v.toNatClampNeg = 1) : f_gp k b d v := ⟨h1, by rw [← hk.r 1249 (by decide)]; exact h2, by rw [← hk.r 1250 (by decide)]; exact h3, Classical.byContradiction (fun q => h4 ((h0 v h1).mpr q))⟩
theorem f_gp.n1 {k : qS} {b d v : Int32} (h1 : ¬ f_sn k v) : ¬ f_gp k b d v := fun h => h1 h.1
theorem f_gp.n2 {k u : qS} {b d v : Int32} (hk : IK k u) (h2 : ¬ u.2.1 1249 v.toNatClampNeg = b) : ¬ f_gp k b d v := fun h => h2 (by rw [hk.r 1249 (by decide)]; exact h.2.1)
theorem f_gp.n3 {k u : qS} {b d v : Int32} (hk : IK k u) (h2 : ¬ u.2.1 1250 v.toNatClampNeg = d) : ¬ f_gp k b d v := fun h => h2 (by rw [hk.r 1250 (by decide)]; exact h.2.2.1)
theorem f_gp.n4 {k : qS} {st : Nat → Int32} {b d v : Int32} (h0 : f_a1 k st) (h1 : f_sn k v) (h4 : st v.toNatClampNeg = 1) : ¬ f_gp k b d v := fun h => (h0 v h1).mp h4 h.2.2.2
theorem f_shl {t : Int32} (h : 0 ≤ t ∧ t ≤ 12) : 1 ≤ ((1 : Int32) <<< (t &&& 31)).toInt ∧ ((1 : Int32) <<< (t &&& 31)).toInt ≤ 4096 := by
  have a1 := Int32.le_iff_toInt_le.mp h.1; have a2 := Int32.le_iff_toInt_le.mp h.2
  have z : (0 : Int32).toInt = 0 := by decide
  have w : (12 : Int32).toInt = 12 := by decide
  rw [z] at a1; rw [w] at a2
  have c : ∀ n : Nat, n ≤ 12 → 1 ≤ ((1 : Int32) <<< (Int32.ofNat n &&& 31)).toInt ∧ ((1 : Int32) <<< (Int32.ofNat n &&& 31)).toInt ≤ 4096 := by decide
  have q := c t.toNatClampNeg (by have := g_clamp t; omega)
  rw [f_of a1] at q
  exact q
