/-! the line of the seen, the states in the end, the counts -/
theorem f_n.le {P : Int32 → Prop} {a b : Nat} (h : a ≤ b) : f_n P a ≤ f_n P b := by
  induction b with
  | zero =>
    have e : a = 0 := by omega
    subst e; exact Nat.le_refl _
  | succ n ih =>
    rcases Nat.lt_or_ge a (n + 1) with q | q
    · have w := ih (by omega)
      by_cases hp : P (Int32.ofNat n)
      · rw [f_n.t hp]; omega
      · rw [f_n.f hp]; omega
    · have e : a = n + 1 := by omega
      subst e; exact Nat.le_refl _
theorem f_n.lt {P : Int32 → Prop} {v : Int32} {n : Nat} (h0 : 0 ≤ v.toInt) (h : v.toInt < n) (hp : P v) : f_n P v.toNatClampNeg < f_n P n := by
  have c := g_clamp v
  have q := f_n.le (P := P) (a := v.toNatClampNeg + 1) (b := n) (by omega)
  rw [f_n.t (by rw [f_of h0]; exact hp)] at q
  omega
theorem f_s0 {k : qS} {v : Int32} (h : f_sn k v) : 0 ≤ v.toInt := Int32.le_iff_toInt_le.mp h.1.1
def f_li (k : qS) (L : Nat → Int32) (n m : Int) : Prop := ∀ v : Int32, f_sn k v → v.toInt < m → ∃ j : Nat, (j : Int) < n ∧ L j = v
def f_lh (k : qS) (L : Nat → Int32) (n : Int) (x : Nat) (m : Int) : Prop := ∀ v : Int32, f_sn k v → v.toInt < m → ∃ j : Nat, (j : Int) < n + 1 ∧ ¬ j = x ∧ L j = v
theorem f_li.nil {k : qS} {L : Nat → Int32} {n : Int} : f_li k L n 0 := fun v a b => absurd b (by have := f_s0 a; omega)
theorem f_li.no {k : qS} {L : Nat → Int32} {n m : Int} {x : Int32} (h : f_li k L n x.toInt) (hx : ¬ f_sn k x) (em : m = x.toInt + 1) : f_li k L n m := fun v a b => by
  rcases Int.lt_or_le v.toInt x.toInt with q | q
  · exact h v a q
  · exact absurd ((Int32.toInt_inj.mp (by omega : v.toInt = x.toInt)) ▸ a) hx
theorem f_li.go {k : qS} {L : Nat → Int32} {n m : Int} {x : Int32} (h : f_li k L n m) (e : x.toInt = n) (h0 : 0 ≤ x.toInt) : f_lh k L n x.toNatClampNeg m := fun v a b => by
  obtain ⟨j, p, q⟩ := h v a b
  exact ⟨j, by omega, by have := g_clamp x; omega, q⟩
theorem f_lh.mv {k : qS} {L : Nat → Int32} {n m : Int} {x y z : Int32} (h : f_lh k L n x.toNatClampNeg m) (h0 : 0 ≤ x.toInt) (hn : x.toInt ≤ n) (ey : y.toInt + 1 = x.toInt) (ez : z.toInt + 1 = x.toInt) (hy : 0 ≤ y.toInt) : f_lh k (upd L x.toNatClampNeg (L y.toNatClampNeg)) n z.toNatClampNeg m := fun v a b => by
  obtain ⟨j, p, q, r⟩ := h v a b
  have c1 := g_clamp x; have c2 := g_clamp y; have c3 := g_clamp z
  by_cases w : j = z.toNatClampNeg
  · have e : y.toNatClampNeg = j := by omega
    exact ⟨x.toNatClampNeg, by omega, by omega, by rw [pk_us, e]; exact r⟩
  · exact ⟨j, p, w, by rw [pk_un q]; exact r⟩
theorem f_lh.end {k : qS} {L : Nat → Int32} {n m n' : Int} {x v : Int32} (h : f_lh k L n x.toNatClampNeg v.toInt) (h0 : 0 ≤ x.toInt) (hn : x.toInt ≤ n) (en : n' = n + 1) (em : m = v.toInt + 1) : f_li k (upd L x.toNatClampNeg v) n' m := fun w a b => by
  rcases Int.lt_or_le w.toInt v.toInt with q | q
  · obtain ⟨j, p, q, r⟩ := h w a q
    exact ⟨j, by omega, by rw [pk_un q]; exact r⟩
  · have e : w = v := Int32.toInt_inj.mp (by omega)
    subst e
    exact ⟨x.toNatClampNeg, by have := g_clamp x; omega, pk_us⟩
def f_aj (k : qS) (L st : Nat → Int32) (n : Nat) : Prop := ∀ j : Nat, j < n → f_sn k (L j) → (st (L j).toNatClampNeg = 1 ↔ ¬ f_al k (L j))
theorem f_aj.nil {k : qS} {L st : Nat → Int32} : f_aj k L st 0 := fun _ a => absurd a (Nat.not_lt_zero _)
theorem f_aj.up {k : qS} {L st : Nat → Int32} {x : Nat} {z : Int32} (h : f_aj k L st x) (h0 : 0 ≤ (L x).toInt) (hz : z = 1 ↔ ¬ f_al k (L x)) : f_aj k L (upd st (L x).toNatClampNeg z) (x + 1) := fun j a b => by
  by_cases e : (L j).toNatClampNeg = (L x).toNatClampNeg
  · have c1 := g_clamp (L j); have c2 := g_clamp (L x); have c3 := f_s0 b
    have e2 : L j = L x := Int32.toInt_inj.mp (by omega)
    rw [e2, pk_us]; exact hz
  · rw [pk_un e]
    refine h j ?_ b
    rcases Nat.lt_or_ge j x with q | q
    · exact q
    · have e3 : j = x := by omega
      exact absurd (by rw [e3]) e
theorem f_aj.all {k : qS} {L st : Nat → Int32} {n : Nat} {m : Int} (h : f_aj k L st n) (hl : f_li k L m (k.1 1247).toInt) (hm : m ≤ n) : f_a1 k st := fun v a => by
  obtain ⟨j, p, q⟩ := hl v a (Int32.lt_iff_toInt_lt.mp a.1.2)
  have w := h j (by omega) (by rw [q]; exact a)
  rw [q] at w; exact w
def f_sg (k : qS) (a b : Int32) : Prop := k.2.1 1249 a.toNatClampNeg = k.2.1 1249 b.toNatClampNeg ∧ k.2.1 1250 a.toNatClampNeg = k.2.1 1250 b.toNatClampNeg
def f_bf (k : qS) (L : Nat → Int32) (z : Int32) (n : Nat) : Prop := z = 0 → ∃ j : Nat, j < n ∧ f_sg k (L j) (L n)
theorem f_sg.mk {k u : qS} {a b : Int32} (hk : IK k u) (h1 : u.2.1 1249 a.toNatClampNeg = u.2.1 1249 b.toNatClampNeg) (h2 : u.2.1 1250 a.toNatClampNeg = u.2.1 1250 b.toNatClampNeg) : f_sg k a b := by
  unfold f_sg; rw [← hk.r 1249 (by decide), ← hk.r 1250 (by decide)]; exact ⟨h1, h2⟩
def f_dn (k : qS) (L st : Nat → Int32) (n : Nat) : Prop := ∀ v : Int32, f_sn k v → f_al k v → (∃ j : Nat, j < n ∧ f_sg k (L j) v) → st v.toNatClampNeg = f_st k (k.2.1 1249 v.toNatClampNeg) (k.2.1 1250 v.toNatClampNeg) v
theorem f_st.n1 {k : qS} {b d v : Int32} : ¬ f_st k b d v = 1 := by
  unfold f_st f_by
  split
  · decide
  · split <;> decide
theorem f_dn.nil {k : qS} {L st : Nat → Int32} : f_dn k L st 0 := fun _ _ _ a => by
  obtain ⟨j, p, _⟩ := a
  exact absurd p (Nat.not_lt_zero _)
theorem f_sw.a1 {k : qS} {b d : Int32} {n : Nat} {s0 s1 : Nat → Int32} (h : f_sw k b d n s0 s1) (h0 : f_a1 k s0) : f_a1 k s1 := fun v a => by
  by_cases q : f_gp k b d v ∧ f_n (f_gp k b d) v.toNatClampNeg < n
  · rw [(h v a).1 q.1 q.2]
    exact ⟨fun e => absurd e f_st.n1, fun e => absurd q.1.2.2.2 e⟩
  · rw [(h v a).2 q]; exact h0 v a
theorem f_dn.run {k u : qS} {L s0 s1 : Nat → Int32} {b d : Int32} {x : Nat} (h : f_dn k L s0 x) (hw : f_sw k b d (f_n (f_gp k b d) (k.1 1247).toNatClampNeg) s0 s1) (hk : IK k u) (hb : u.2.1 1249 (L x).toNatClampNeg = b) (hd : u.2.1 1250 (L x).toNatClampNeg = d) : f_dn k L s1 (x + 1) := fun v a c e => by
  rw [hk.r 1249 (by decide)] at hb
  rw [hk.r 1250 (by decide)] at hd
  by_cases q : f_gp k b d v
  · have w := (hw v a).1 q (f_n.lt (f_s0 a) q.in.2 q)
    rw [w, q.2.1, q.2.2.1]
  · rw [(hw v a).2 (fun z => q z.1)]
    obtain ⟨j, p, z⟩ := e
    refine h v a c ⟨j, ?_, z⟩
    rcases Nat.lt_or_ge j x with w | w
    · exact w
    · have ej : j = x := by omega
      subst ej
      exact absurd ⟨a, by rw [← z.1]; exact hb, by rw [← z.2]; exact hd, c⟩ q
theorem f_dn.skip {k : qS} {L st : Nat → Int32} {x : Nat} (h : f_dn k L st x) (hf : ∃ j : Nat, j < x ∧ f_sg k (L j) (L x)) : f_dn k L st (x + 1) := fun v a c e => by
  obtain ⟨j, p, z⟩ := e
  rcases Nat.lt_or_ge j x with w | w
  · exact h v a c ⟨j, w, z⟩
  · have ej : j = x := by omega
    subst ej
    obtain ⟨i, p2, z2⟩ := hf
    exact h v a c ⟨i, p2, z2.1.trans z.1, z2.2.trans z.2⟩
noncomputable def f_fin (k : qS) (v : Int32) : Int32 := @ite _ (f_al k v) (Classical.propDecidable _) (f_st k (k.2.1 1249 v.toNatClampNeg) (k.2.1 1250 v.toNatClampNeg) v) 1
def f_fi (k : qS) (st : Nat → Int32) : Prop := ∀ v : Int32, f_sn k v → st v.toNatClampNeg = f_fin k v
theorem f_dn.all {k : qS} {L st : Nat → Int32} {n : Nat} {m : Int} (h : f_dn k L st n) (ha : f_a1 k st) (hl : f_li k L m (k.1 1247).toInt) (hm : m ≤ n) : f_fi k st := fun v a => by
  unfold f_fin
  by_cases q : f_al k v
  · rw [if_pos q]
    obtain ⟨j, p, e⟩ := hl v a (Int32.lt_iff_toInt_lt.mp a.1.2)
    exact h v a q ⟨j, by omega, by rw [e]; exact ⟨rfl, rfl⟩⟩
  · rw [if_neg q]; exact (ha v a).mpr q
def f_co (k : qS) (v : Int32) : Prop := f_sn k v ∧ (f_fin k v = 0 ∨ f_fin k v = 3)
def f_cs (k : qS) (x y s v : Int32) : Prop := f_co k v ∧ k.2.1 1248 v.toNatClampNeg = s ∧ (x ≤ k.2.1 1250 v.toNatClampNeg ∧ k.2.1 1250 v.toNatClampNeg ≤ y)
theorem f_cs.mk {k u : qS} {x y s v : Int32} (hk : IK k u) (h1 : f_co k v) (h2 : u.2.1 1248 v.toNatClampNeg = s) (h3 : x ≤ u.2.1 1250 v.toNatClampNeg ∧ u.2.1 1250 v.toNatClampNeg ≤ y) : f_cs k x y s v := ⟨h1, by rw [← hk.r 1248 (by decide)]; exact h2, by rw [← hk.r 1250 (by decide)]; exact h3⟩
theorem f_cs.n1 {k : qS} {x y s v : Int32} (h1 : ¬ f_co k v) : ¬ f_cs k x y s v := fun h => h1 h.1
theorem f_cs.n2 {k u : qS} {x y s v : Int32} (hk : IK k u) (h1 : ¬ u.2.1 1248 v.toNatClampNeg = s) : ¬ f_cs k x y s v := fun h => h1 (by rw [hk.r 1248 (by decide)]; exact h.2.1)
theorem f_cs.n3 {k u : qS} {x y s v : Int32} (hk : IK k u) (h1 : ¬ (x ≤ u.2.1 1250 v.toNatClampNeg ∧ u.2.1 1250 v.toNatClampNeg ≤ y)) : ¬ f_cs k x y s v := fun h => h1 (by rw [hk.r 1250 (by decide)]; exact h.2.2)
def f_cm (k : qS) (x y : Int32) (C : Nat → Int32) (n : Int) : Prop := ∀ s : Int32, 0 ≤ s.toInt → s.toInt < n → (C s.toNatClampNeg).toInt = (f_n (f_cs k x y s) (k.1 1247).toNatClampNeg : Int)
theorem f_cm.nil {k : qS} {x y : Int32} {C : Nat → Int32} : f_cm k x y C 0 := fun _ a b => absurd b (by omega)
theorem f_cm.put {k : qS} {x y s z : Int32} {C : Nat → Int32} (h : f_cm k x y C s.toInt) (h0 : 0 ≤ s.toInt) : f_cm k x y (upd C s.toNatClampNeg z) s.toInt := fun v a b => by
  rw [pk_un (by have c1 := g_clamp v; have c2 := g_clamp s; omega)]; exact h v a b
theorem f_cm.up {k : qS} {x y s : Int32} {C : Nat → Int32} {n : Int} (h : f_cm k x y C s.toInt) (hs : (C s.toNatClampNeg).toInt = (f_n (f_cs k x y s) (k.1 1247).toNatClampNeg : Int)) (e : n = s.toInt + 1) : f_cm k x y C n := fun v a b => by
  rcases Int.lt_or_le v.toInt s.toInt with q | q
  · exact h v a q
  · have ev : v = s := Int32.toInt_inj.mp (by omega)
    subst ev; exact hs
theorem f_cm.one {k : qS} {x y s : Int32} {C D : Nat → Int32} {n : Int} (c : 1 ≤ (C s.toNatClampNeg).toInt) (h : f_cm k x y C n) (g : f_cm k x y D n) (h0 : 0 ≤ s.toInt) (h1 : s.toInt < n) : 1 ≤ (D s.toNatClampNeg).toInt := by
  rw [g s h0 h1, ← h s h0 h1]; exact c
