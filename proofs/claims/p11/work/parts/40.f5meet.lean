/-! who meets whom, how strict each buyer is: the reference's sums and the class's -/
def f_mt (k : qS) (p q : Int32) : Prop := f_co k p ∧ f_co k q ∧ k.2.1 1248 p.toNatClampNeg = k.2.1 1248 q.toNatClampNeg ∧ k.2.1 1250 p.toNatClampNeg / 7 = k.2.1 1250 q.toNatClampNeg / 7 ∧ ¬ k.2.1 1249 p.toNatClampNeg = k.2.1 1249 q.toNatClampNeg
theorem f_mt.sym {k : qS} {p q : Int32} (h : f_mt k p q) : f_mt k q p := ⟨h.2.1, h.1, h.2.2.1.symm, h.2.2.2.1.symm, fun e => h.2.2.2.2 e.symm⟩
theorem f_mt.ir {k : qS} {p : Int32} : ¬ f_mt k p p := fun h => h.2.2.2.2 rfl
abbrev mW := Int32 → Int32 → Int32
abbrev mT := mW → Int32
/-- what a meeting adds: to a buyer's sum, its count, a pair's count -/
def w_S (k : qS) (B : Nat → Int32) (a : Int32) : mW := fun p q => if k.2.1 1249 p.toNatClampNeg = a then B p.toNatClampNeg - B q.toNatClampNeg else 0
def w_C (k : qS) (a : Int32) : mW := fun p _ => if k.2.1 1249 p.toNatClampNeg = a then 1 else 0
def w_P (k : qS) (a b : Int32) : mW := fun p q => if k.2.1 1249 p.toNatClampNeg = a ∧ k.2.1 1249 q.toNatClampNeg = b then 1 else 0
noncomputable def f_mg (k : qS) (W : mW) (i j : Nat) : Int32 := @ite _ (f_mt k (Int32.ofNat i) (Int32.ofNat j)) (Classical.propDecidable _) (W (Int32.ofNat i) (Int32.ofNat j)) 0
/-- over all meetings -/
noncomputable def f_M (k : qS) (W : mW) : Int32 := m_s2 (f_mg k W) (k.1 1247).toNatClampNeg (k.1 1247).toNatClampNeg
noncomputable def m_h (k : qS) (P : Nat → Int32) (W : mW) (i j : Nat) : Int32 := @ite _ (f_mt k (P i) (P j)) (Classical.propDecidable _) (W (P i) (P j) + W (P j) (P i)) 0
theorem m_h.t {k : qS} {P : Nat → Int32} {W : mW} {i j : Nat} (h : f_mt k (P i) (P j)) : m_h k P W i j = W (P i) (P j) + W (P j) (P i) := if_pos h
theorem m_h.f {k : qS} {P : Nat → Int32} {W : mW} {i j : Nat} (h : ¬ f_mt k (P i) (P j)) : m_h k P W i j = 0 := if_neg h
theorem m_all {k : qS} {P : Nat → Int32} (ho : t_ord k P) (W : mW) : m_tr (m_h k P W) (k.1 1247).toNatClampNeg (k.1 1247).toNatClampNeg = f_M k W := by
  have g0 : ∀ i, @ite _ (f_mt k (P i) (P i)) (Classical.propDecidable _) (W (P i) (P i)) 0 = (0 : Int32) := fun i => if_neg f_mt.ir
  have s := m_sym (g := fun i j => @ite _ (f_mt k (P i) (P j)) (Classical.propDecidable _) (W (P i) (P j)) 0) g0 (k.1 1247).toNatClampNeg
  have eh : (fun i j => (fun i j => @ite _ (f_mt k (P i) (P j)) (Classical.propDecidable _) (W (P i) (P j)) 0) i j + (fun i j => @ite _ (f_mt k (P i) (P j)) (Classical.propDecidable _) (W (P i) (P j)) 0) j i) = m_h k P W := by
    funext i j
    unfold m_h
    by_cases q : f_mt k (P i) (P j)
    · show @ite _ (f_mt k (P i) (P j)) (Classical.propDecidable _) (W (P i) (P j)) 0 + @ite _ (f_mt k (P j) (P i)) (Classical.propDecidable _) (W (P j) (P i)) 0 = _
      rw [if_pos q, if_pos q.sym, if_pos q]
    · show @ite _ (f_mt k (P i) (P j)) (Classical.propDecidable _) (W (P i) (P j)) 0 + @ite _ (f_mt k (P j) (P i)) (Classical.propDecidable _) (W (P j) (P i)) 0 = _
      rw [if_neg q, if_neg (fun z => q z.sym), if_neg q]; rfl
  rw [eh] at s
  rw [← s]
  unfold f_M
  rw [← ho.pm.s2 (f_mg k W)]
  refine m_s2_cg (fun i j hi hj => ?_)
  have bi := ho.1 i hi
  have bj := ho.1 j hj
  unfold f_mg
  rw [f_of bi.1, f_of bj.1]
/-- the rows hold T of what is added -/
def m_R (k : qS) (B : Nat → Int32) (T : mT) (L C Q : Nat → Int32) : Prop := (∀ a : Int32, 0 ≤ a → a < 8 → L a.toNatClampNeg = T (w_S k B a) ∧ C a.toNatClampNeg = T (w_C k a)) ∧ ∀ a b : Int32, 0 ≤ a → a < 8 → 0 ≤ b → b < 8 → Q (a * 8 + b).toNatClampNeg = T (w_P k a b)
theorem m_R.cg {k : qS} {B : Nat → Int32} {T T' : mT} {L C Q : Nat → Int32} (h : m_R k B T L C Q) (e : ∀ W, T' W = T W) : m_R k B T' L C Q := ⟨fun a a0 a1 => by rw [e, e]; exact h.1 a a0 a1, fun a b a0 a1 b0 b1 => by rw [e]; exact h.2 a b a0 a1 b0 b1⟩
theorem m_R.nil {k : qS} {B : Nat → Int32} {L C Q : Nat → Int32} (h1 : ∀ i : Nat, i < 8 → L i = 0) (h2 : ∀ i : Nat, i < 8 → C i = 0) (h3 : ∀ i : Nat, i < 64 → Q i = 0) : m_R k B (fun _ => 0) L C Q := by
  have cl : ∀ a : Int32, 0 ≤ a → a < 8 → 0 ≤ a.toInt ∧ a.toInt < 8 := fun a a0 a1 => ⟨Int32.le_iff_toInt_le.mp a0, Int32.lt_iff_toInt_lt.mp a1⟩
  refine ⟨fun a a0 a1 => ?_, fun a b a0 a1 b0 b1 => ?_⟩
  · have q := cl a a0 a1
    have c := g_clamp a
    exact ⟨h1 _ (by omega), h2 _ (by omega)⟩
  · have q := cl a a0 a1
    have q2 := cl b b0 b1
    have m : (a * 8).toInt = a.toInt * (8 : Int32).toInt := g_mul (by show _ ≤ a.toInt * 8; omega) (by show a.toInt * 8 < _; omega)
    have e8 : (8 : Int32).toInt = 8 := rfl
    have s : (a * 8 + b).toInt = (a * 8).toInt + b.toInt := g_add (by rw [m, e8]; omega) (by rw [m, e8]; omega)
    have c := g_clamp (a * 8 + b)
    exact h3 _ (by rw [c, s, m, e8]; omega)
theorem m_ix {a b c d : Int32} (ha : 0 ≤ a ∧ a < 8) (hb : 0 ≤ b ∧ b < 8) (hc : 0 ≤ c ∧ c < 8) (hd : 0 ≤ d ∧ d < 8) (e : (a * 8 + b).toNatClampNeg = (c * 8 + d).toNatClampNeg) : a = c ∧ b = d := by
  have a0 : 0 ≤ a.toInt := Int32.le_iff_toInt_le.mp ha.1
  have a1 : a.toInt < 8 := Int32.lt_iff_toInt_lt.mp ha.2
  have b0 : 0 ≤ b.toInt := Int32.le_iff_toInt_le.mp hb.1
  have b1 : b.toInt < 8 := Int32.lt_iff_toInt_lt.mp hb.2
  have c0 : 0 ≤ c.toInt := Int32.le_iff_toInt_le.mp hc.1
  have c1 : c.toInt < 8 := Int32.lt_iff_toInt_lt.mp hc.2
  have d0 : 0 ≤ d.toInt := Int32.le_iff_toInt_le.mp hd.1
  have d1 : d.toInt < 8 := Int32.lt_iff_toInt_lt.mp hd.2
  have e8 : (8 : Int32).toInt = 8 := rfl
  have m1 : (a * 8).toInt = a.toInt * (8 : Int32).toInt := g_mul (by rw [e8]; omega) (by rw [e8]; omega)
  have s1 : (a * 8 + b).toInt = (a * 8).toInt + b.toInt := g_add (by rw [m1, e8]; omega) (by rw [m1, e8]; omega)
  have m2 : (c * 8).toInt = c.toInt * (8 : Int32).toInt := g_mul (by rw [e8]; omega) (by rw [e8]; omega)
  have s2 : (c * 8 + d).toInt = (c * 8).toInt + d.toInt := g_add (by rw [m2, e8]; omega) (by rw [m2, e8]; omega)
  rw [m1, e8] at s1
  rw [m2, e8] at s2
  have k1 := g_clamp (a * 8 + b)
  have k2 := g_clamp (c * 8 + d)
  exact ⟨Int32.toInt_inj.mp (by omega), Int32.toInt_inj.mp (by omega)⟩
/-- one of the two is told of the other -/
def m_one (k : qS) (B : Nat → Int32) (p q : Int32) (L C Q L' C' Q' : Nat → Int32) : Prop := L' = upd L (k.2.1 1249 p.toNatClampNeg).toNatClampNeg (L (k.2.1 1249 p.toNatClampNeg).toNatClampNeg + (B p.toNatClampNeg - B q.toNatClampNeg)) ∧ C' = upd C (k.2.1 1249 p.toNatClampNeg).toNatClampNeg (C (k.2.1 1249 p.toNatClampNeg).toNatClampNeg + 1) ∧ Q' = upd Q (k.2.1 1249 p.toNatClampNeg * 8 + k.2.1 1249 q.toNatClampNeg).toNatClampNeg (Q (k.2.1 1249 p.toNatClampNeg * 8 + k.2.1 1249 q.toNatClampNeg).toNatClampNeg + 1)
theorem m_R.one {k : qS} {B : Nat → Int32} {T : mT} {p q : Int32} {L C Q L' C' Q' : Nat → Int32} (h : m_R k B T L C Q) (ho : m_one k B p q L C Q L' C' Q') (hp : 0 ≤ k.2.1 1249 p.toNatClampNeg ∧ k.2.1 1249 p.toNatClampNeg < 8) (hq : 0 ≤ k.2.1 1249 q.toNatClampNeg ∧ k.2.1 1249 q.toNatClampNeg < 8) : m_R k B (fun W => T W + W p q) L' C' Q' := by
  obtain ⟨e1, e2, e3⟩ := ho
  subst e1 e2 e3
  refine ⟨fun a a0 a1 => ?_, fun a b a0 a1 b0 b1 => ?_⟩
  · obtain ⟨h1, h2⟩ := h.1 a a0 a1
    show _ = T _ + w_S k B a p q ∧ _ = T _ + w_C k a p q
    unfold w_S w_C
    by_cases e : k.2.1 1249 p.toNatClampNeg = a
    · rw [if_pos e, if_pos e, e, pk_us, pk_us, h1, h2]; exact ⟨rfl, rfl⟩
    · have ne : a.toNatClampNeg ≠ (k.2.1 1249 p.toNatClampNeg).toNatClampNeg := fun z => e (g_inj (Int32.le_iff_toInt_le.mp hp.1) (Int32.le_iff_toInt_le.mp a0) z.symm)
      rw [if_neg e, if_neg e, pk_un ne, pk_un ne, h1, h2, Int32.add_zero, Int32.add_zero]; exact ⟨rfl, rfl⟩
  · have h1 := h.2 a b a0 a1 b0 b1
    show _ = T _ + w_P k a b p q
    unfold w_P
    by_cases e : k.2.1 1249 p.toNatClampNeg = a ∧ k.2.1 1249 q.toNatClampNeg = b
    · rw [if_pos e, e.1, e.2, pk_us, h1]; rfl
    · rw [if_neg e, pk_un (fun z => e (by have w := m_ix ⟨a0, a1⟩ ⟨b0, b1⟩ hp hq z; exact ⟨w.1.symm, w.2.symm⟩)), h1, Int32.add_zero]; rfl
theorem m_R.both {k : qS} {B : Nat → Int32} {T : mT} {p q : Int32} {L C Q L' C' Q' L2 C2 Q2 : Nat → Int32} (h : m_R k B T L C Q) (h1 : m_one k B p q L C Q L' C' Q') (h2 : m_one k B q p L' C' Q' L2 C2 Q2) (hp : 0 ≤ k.2.1 1249 p.toNatClampNeg ∧ k.2.1 1249 p.toNatClampNeg < 8) (hq : 0 ≤ k.2.1 1249 q.toNatClampNeg ∧ k.2.1 1249 q.toNatClampNeg < 8) : m_R k B (fun W => T W + (W p q + W q p)) L2 C2 Q2 :=
  ((h.one h1 hp hq).one h2 hq hp).cg (fun W => (Int32.add_assoc _ _ _).symm)
/-- a buyer's lean, by the sums -/
def m_ln (S C : Int32) : Int32 := if 2 ≤ C then S / C else 0
noncomputable def f_ln (k : qS) (B : Nat → Int32) (a : Int32) : Int32 := m_ln (f_M k (w_S k B a)) (f_M k (w_C k a))
/-- what the means keep is right for this edition -/
def t_cm (k u : qS) : Prop := (0 ≤ (u.1 311).toInt ∧ (u.1 311).toInt ≤ (u.1 18).toInt) ∧ (u.1 311 = u.1 18 → u.1 909 = u.1 18 ∧ u.1 609 = u.1 18 ∧ ∃ B : Nat → Int32, qFD 11 B u ∧ m_R k B (f_M k) (u.2.1 303) (u.2.1 304) (u.2.1 305))
theorem t_cm.fr {M R G X : List Nat} {k u w : qS} (h : t_cm k u) (hf : qFc M R G X u w) (hM : ∀ n ∈ [10, 18, 311, 609, 909], n ∉ M) (hR : ∀ n ∈ [303, 304, 305], n ∉ R) (hX : ∀ n ∈ [2, 5000, 5011], n ∉ X) : t_cm k w := by
  unfold t_cm
  rw [hf.1 311 (hM _ (by decide)), hf.1 18 (hM _ (by decide)), hf.1 609 (hM _ (by decide)), hf.1 909 (hM _ (by decide)), hf.2.1 303 (hR _ (by decide)), hf.2.1 304 (hR _ (by decide)), hf.2.1 305 (hR _ (by decide))]
  refine ⟨h.1, fun e => ?_⟩
  obtain ⟨e1, e2, B, a, b⟩ := h.2 e
  exact ⟨e1, e2, B, a.fr hf (hM _ (by decide)) (hX _ (by decide)) (hX _ (by decide)) (hX _ (by decide)) (by decide), b⟩
theorem t_cm.new {k k' u w : qS} (h : t_cm k u) (e3 : w.1 311 = u.1 311) (e18 : w.1 18 = u.1 18 + 1) (hb : (u.1 18).toInt < 100000) : t_cm k' w := by
  have h0 := h.1
  have up := (g_up (i := u.1 18) (by omega) (by omega)).1
  refine ⟨by rw [e3, e18, up]; omega, fun q => ?_⟩
  rw [e3, e18] at q
  have z : (u.1 311).toInt = (u.1 18 + 1).toInt := by rw [q]
  omega
/-- the scores stand while the edition does -/
def t_cs (u : qS) : Prop := 0 ≤ (u.1 609).toInt ∧ (u.1 609).toInt ≤ (u.1 18).toInt
