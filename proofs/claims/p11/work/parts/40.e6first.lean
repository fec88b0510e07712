/-! the first of the sets -/
theorem s_xor {x y : Int32} {i : Nat} : s_b (x ^^^ y) i = (s_b x i ^^ s_b y i) := by
  show (x ^^^ y).toBitVec.getLsbD i = _
  rw [Int32.toBitVec_xor]; exact BitVec.getLsbD_xor
theorem s_neg {x : Int32} {i : Nat} (hi : i < 32) (hx : s_b x i = true) : s_b (-x) i = true ↔ ∀ j, j < i → s_b x j = false := by
  have hx2 : x.toBitVec.getLsbD i = true := hx
  show (-x).toBitVec.getLsbD i = true ↔ _
  rw [Int32.toBitVec_neg, BitVec.getLsbD_neg, hx2, decide_eq_true hi, Bool.true_and, Bool.true_xor, Bool.not_eq_true', decide_eq_false_iff_not]
  constructor
  · intro h j hj
    cases e : s_b x j with
    | false => rfl
    | true => exact absurd ⟨j, hj, e⟩ h
  · rintro h ⟨j, hj, e⟩
    have w := h j hj
    have e : s_b x j = true := e
    rw [w] at e; cases e
theorem s_z {x : Int32} (h : ∀ i, i < 32 → s_b x i = false) : x = 0 := by
  refine Int32.toBitVec_inj.mp (BitVec.eq_of_getLsbD_eq (fun i hi => ?_))
  have e : x.toBitVec.getLsbD i = false := h i hi
  have z : (0 : Int32).toBitVec = 0#32 := rfl
  rw [e, z, BitVec.getLsbD_zero]
def s_lt (a b : Int32) : Prop := ∃ j, j < 32 ∧ s_b a j = true ∧ s_b b j = false ∧ ∀ i, i < j → s_b a i = s_b b i
theorem s_fst {a b : Int32} : (¬ a &&& (a ^^^ b) &&& -(a ^^^ b) = 0) ↔ s_lt a b := by
  have bits : ∀ i, i < 32 → (s_b (a &&& (a ^^^ b) &&& -(a ^^^ b)) i = true ↔ s_b a i = true ∧ s_b b i = false ∧ ∀ j, j < i → s_b a j = s_b b j) := fun i hi => by
    rw [s_and, s_and, s_xor]
    constructor
    · intro h
      rw [Bool.and_eq_true, Bool.and_eq_true] at h
      obtain ⟨⟨h1, h2⟩, h3⟩ := h
      have hd : s_b (a ^^^ b) i = true := by rw [s_xor]; exact h2
      rw [h1] at h2
      have h4 : s_b b i = false := by
        cases e : s_b b i with
        | false => rfl
        | true => rw [e] at h2; cases h2
      refine ⟨h1, h4, fun j hj => ?_⟩
      have w := (s_neg hi hd).mp h3 j hj
      rw [s_xor] at w
      cases e1 : s_b a j with
      | false => cases e2 : s_b b j with
        | false => rfl
        | true => rw [e1, e2] at w; cases w
      | true => cases e2 : s_b b j with
        | true => rfl
        | false => rw [e1, e2] at w; cases w
    · rintro ⟨h1, h2, h3⟩
      have hd : s_b (a ^^^ b) i = true := by rw [s_xor, h1, h2]; rfl
      rw [(s_neg hi hd).mpr (fun j hj => by rw [s_xor, h3 j hj, Bool.xor_self]), h1, h2]; rfl
  constructor
  · intro h
    refine Classical.byContradiction (fun q => h (s_z (fun i hi => ?_)))
    cases e : s_b (a &&& (a ^^^ b) &&& -(a ^^^ b)) i with
    | false => rfl
    | true => exact absurd ⟨i, hi, (bits i hi).mp e⟩ q
  · rintro ⟨j, hj, h1⟩ h
    have w := (bits j hj).mpr h1
    rw [h] at w
    have z : s_b 0 j = false := by
      show (0#32).getLsbD j = false
      exact BitVec.getLsbD_zero
    rw [z] at w; cases w
/-- by numbers -/
def s_ln (x y : Nat) : Prop := ∃ j, x.testBit j = true ∧ y.testBit j = false ∧ ∀ i, i < j → x.testBit i = y.testBit i
theorem s_ln.i {x y : Nat} (hx : x < 4096) : s_lt (Int32.ofNat x) (Int32.ofNat y) ↔ s_ln x y := by
  constructor
  · rintro ⟨j, hj, h1, h2, h3⟩
    rw [s_of hj] at h1 h2
    exact ⟨j, h1, h2, fun i hi => by have w := h3 i hi; rw [s_of (by omega), s_of (by omega)] at w; exact w⟩
  · rintro ⟨j, h1, h2, h3⟩
    have hj : j < 12 := by
      rcases Nat.lt_or_ge j 12 with q | q
      · exact q
      · have : x.testBit j = false := Nat.testBit_lt_two_pow (Nat.lt_of_lt_of_le hx (by show 2 ^ 12 ≤ 2 ^ j; exact Nat.pow_le_pow_right (by decide) q))
        rw [this] at h1; cases h1
    exact ⟨j, by omega, by rw [s_of (by omega)]; exact h1, by rw [s_of (by omega)]; exact h2, fun i hi => by rw [s_of (by omega), s_of (by omega)]; exact h3 i hi⟩
theorem s_ln.tr {x y z : Nat} (h : s_ln x y) (g : s_ln y z) : s_ln x z := by
  obtain ⟨j, h1, h2, h3⟩ := h
  obtain ⟨l, g1, g2, g3⟩ := g
  rcases Nat.lt_trichotomy j l with q | q | q
  · exact ⟨j, h1, by rw [← g3 j q]; exact h2, fun i hi => (h3 i hi).trans (g3 i (by omega))⟩
  · subst q; rw [h2] at g1; cases g1
  · exact ⟨l, by rw [h3 l q]; exact g1, g2, fun i hi => (h3 i (by omega)).trans (g3 i hi)⟩
theorem s_ln.to {x y : Nat} (h : x ≠ y) : s_ln x y ∨ s_ln y x := by
  have ex : ∃ j, x.testBit j ≠ y.testBit j := Classical.byContradiction (fun q => h (Nat.eq_of_testBit_eq (fun i => Classical.byContradiction (fun w => q ⟨i, w⟩))))
  have least : ∀ j, x.testBit j ≠ y.testBit j → ∃ l, x.testBit l ≠ y.testBit l ∧ ∀ i, i < l → x.testBit i = y.testBit i := fun j => by
    induction j using Nat.strongRecOn with
    | _ j ih =>
      intro hj
      by_cases q : ∃ i, i < j ∧ x.testBit i ≠ y.testBit i
      · obtain ⟨i, i1, i2⟩ := q
        exact ih i i1 i2
      · exact ⟨j, hj, fun i hi => Classical.byContradiction (fun w => q ⟨i, hi, w⟩)⟩
  obtain ⟨j, hj⟩ := ex
  obtain ⟨l, l1, l2⟩ := least j hj
  cases e1 : x.testBit l with
  | false => cases e2 : y.testBit l with
    | false => exact absurd (e1.trans e2.symm) l1
    | true => exact Or.inr ⟨l, e2, e1, fun i hi => (l2 i hi).symm⟩
  | true => cases e2 : y.testBit l with
    | true => exact absurd (e1.trans e2.symm) l1
    | false => exact Or.inl ⟨l, e1, e2, l2⟩
/-- the fewest, and the first set of them -/
noncomputable def f_sq (th : Int32) (D : Int32 → Prop) : Nat → Int32 × Int32
  | 0 => (th + 1, 0)
  | n + 1 => @ite _ (Int32.ofInt (g_bc (Int32.ofNat n) 20) ≤ (f_sq th D n).1 ∧ D (Int32.ofNat n)) (Classical.propDecidable _) (Int32.ofInt (g_bc (Int32.ofNat n) 20), @ite _ (Int32.ofInt (g_bc (Int32.ofNat n) 20) < (f_sq th D n).1 ∨ s_lt (Int32.ofNat n) (f_sq th D n).2) (Classical.propDecidable _) (Int32.ofNat n) (f_sq th D n).2) (f_sq th D n)
section SQ
variable {th : Int32} {D : Int32 → Prop} {x r : Int32}
theorem f_sq.s (h0 : 0 ≤ x.toInt) (hr : r.toInt = (g_bc x 20 : Int)) : f_sq th D (x.toNatClampNeg + 1) = @ite _ (r ≤ (f_sq th D x.toNatClampNeg).1 ∧ D x) (Classical.propDecidable _) (r, @ite _ (r < (f_sq th D x.toNatClampNeg).1 ∨ s_lt x (f_sq th D x.toNatClampNeg).2) (Classical.propDecidable _) x (f_sq th D x.toNatClampNeg).2) (f_sq th D x.toNatClampNeg) := by
  have e := f_of h0
  have er : Int32.ofInt (g_bc x 20) = r := by rw [← hr]; exact Int32.ofInt_toInt r
  show @ite _ _ (Classical.propDecidable _) _ _ = _
  rw [e, er]
theorem f_sq.no (h0 : 0 ≤ x.toInt) (hr : r.toInt = (g_bc x 20 : Int)) (h : ¬ (r ≤ (f_sq th D x.toNatClampNeg).1 ∧ D x)) : f_sq th D (x.toNatClampNeg + 1) = f_sq th D x.toNatClampNeg := by
  rw [f_sq.s h0 hr, if_neg h]
theorem f_sq.lt (h0 : 0 ≤ x.toInt) (hr : r.toInt = (g_bc x 20 : Int)) (h : r < (f_sq th D x.toNatClampNeg).1) (hD : D x) : f_sq th D (x.toNatClampNeg + 1) = (r, x) := by
  rw [f_sq.s h0 hr, if_pos ⟨Int32.le_of_lt h, hD⟩, if_pos (Or.inl h)]
theorem f_sq.f1 (h0 : 0 ≤ x.toInt) (hr : r.toInt = (g_bc x 20 : Int)) (hl : r ≤ (f_sq th D x.toNatClampNeg).1) (h : s_lt x (f_sq th D x.toNatClampNeg).2) (hD : D x) : f_sq th D (x.toNatClampNeg + 1) = (r, x) := by
  rw [f_sq.s h0 hr, if_pos ⟨hl, hD⟩, if_pos (Or.inr h)]
theorem f_sq.f0 (h0 : 0 ≤ x.toInt) (hr : r.toInt = (g_bc x 20 : Int)) (hn : ¬ r < (f_sq th D x.toNatClampNeg).1) (hl : r ≤ (f_sq th D x.toNatClampNeg).1) (h : ¬ s_lt x (f_sq th D x.toNatClampNeg).2) (hD : D x) : f_sq th D (x.toNatClampNeg + 1) = (r, (f_sq th D x.toNatClampNeg).2) := by
  rw [f_sq.s h0 hr, if_pos ⟨hl, hD⟩, if_neg (fun q => q.elim hn h)]
theorem f_sq.one (th : Int32) (D : Int32 → Prop) : ∀ n : Nat, (f_sq th D n).1 = (f_sl th D n).1
  | 0 => rfl
  | n + 1 => by
    have ih := f_sq.one th D n
    show (@ite _ (Int32.ofInt (g_bc (Int32.ofNat n) 20) ≤ (f_sq th D n).1 ∧ D (Int32.ofNat n)) (Classical.propDecidable _) _ (f_sq th D n)).1 = (@ite _ (Int32.ofInt (g_bc (Int32.ofNat n) 20) ≤ (f_sl th D n).1 ∧ D (Int32.ofNat n)) (Classical.propDecidable _) _ (f_sl th D n)).1
    rw [ih]
    by_cases q : Int32.ofInt (g_bc (Int32.ofNat n) 20) ≤ (f_sl th D n).1 ∧ D (Int32.ofNat n)
    · rw [if_pos q, if_pos q]
    · rw [if_neg q, if_neg q]; exact ih
end SQ
def s_qi (th : Int32) (D : Int32 → Prop) (N : Nat) (r : Int32 × Int32) : Prop :=
  (r.1.toInt = th.toInt + 1 ∧ ∀ x, x < N → ¬ D (Int32.ofNat x)) ∨
  ∃ F, F < N ∧ r.2 = Int32.ofNat F ∧ D (Int32.ofNat F) ∧ (g_bc (Int32.ofNat F) 20 : Int) = r.1.toInt ∧ ∀ x, x < N → D (Int32.ofNat x) → r.1.toInt ≤ (g_bc (Int32.ofNat x) 20 : Int) ∧ ((g_bc (Int32.ofNat x) 20 : Int) = r.1.toInt → x = F ∨ s_ln F x)
theorem s_qf {th : Int32} {D : Int32 → Prop} (h0 : 0 ≤ th.toInt) (h12 : th.toInt ≤ 12) : ∀ N : Nat, N ≤ 4096 → (∀ x, x < N → (g_bc (Int32.ofNat x) 20 : Int) ≤ th.toInt) → s_qi th D N (f_sq th D N)
  | 0, _, _ => Or.inl ⟨by show (th + 1).toInt = _; exact (g_up h0 (by omega)).1, fun x hx => absurd hx (Nat.not_lt_zero _)⟩
  | N + 1, hN, hb => by
    have ih := s_qf (D := D) h0 h12 N (by omega) (fun x hx => hb x (by omega))
    have eN := f_ofn (n := N) (by omega)
    have c20 := g_bc_le (Int32.ofNat N) 20
    have er : (Int32.ofNat (g_bc (Int32.ofNat N) 20)).toInt = (g_bc (Int32.ofNat N) 20 : Int) := (f_ofn (by omega)).1
    have bN := hb N (by omega)
    have x0 : 0 ≤ (Int32.ofNat N).toInt := by omega
    have lt1 : ∀ {x}, x < N + 1 → x < N ∨ x = N := fun h => by omega
    by_cases hD : D (Int32.ofNat N)
    · rcases ih with ⟨i1, i2⟩ | ⟨F, i1, i2, i3, i4, i5⟩
      · have st := f_sq.lt (th := th) (D := D) x0 er (Int32.lt_iff_toInt_lt.mpr (by rw [er, eN.2, i1]; omega)) hD
        rw [eN.2] at st
        rw [st]
        refine Or.inr ⟨N, by omega, rfl, hD, er.symm, fun x hx hd => ?_⟩
        rcases lt1 hx with q | q
        · exact absurd hd (i2 x q)
        · subst q; exact ⟨by show (Int32.ofNat _).toInt ≤ _; rw [er]; exact Int.le_refl _, fun _ => Or.inl rfl⟩
      · rcases Int.lt_trichotomy (g_bc (Int32.ofNat N) 20 : Int) (f_sq th D N).1.toInt with lt | eq | gt
        · have st := f_sq.lt (th := th) (D := D) x0 er (Int32.lt_iff_toInt_lt.mpr (by rw [er, eN.2]; exact lt)) hD
          rw [eN.2] at st
          rw [st]
          refine Or.inr ⟨N, by omega, rfl, hD, er.symm, fun x hx hd => ?_⟩
          show (Int32.ofNat _).toInt ≤ _ ∧ (_ = (Int32.ofNat _).toInt → _)
          rw [er]
          rcases lt1 hx with q | q
          · have w := (i5 x q hd).1
            exact ⟨by omega, fun e => by omega⟩
          · subst q; exact ⟨Int.le_refl _, fun _ => Or.inl rfl⟩
        · have le : Int32.ofNat (g_bc (Int32.ofNat N) 20) ≤ (f_sq th D (Int32.ofNat N).toNatClampNeg).1 := Int32.le_iff_toInt_le.mpr (by rw [er, eN.2]; omega)
          have nl : ¬ Int32.ofNat (g_bc (Int32.ofNat N) 20) < (f_sq th D (Int32.ofNat N).toNatClampNeg).1 := fun z => by
            have w := Int32.lt_iff_toInt_lt.mp z
            rw [er, eN.2] at w; omega
          by_cases hf : s_ln N F
          · have st := f_sq.f1 (th := th) (D := D) x0 er le (by rw [eN.2, i2]; exact (s_ln.i (by omega)).mpr hf) hD
            rw [eN.2] at st
            rw [st]
            refine Or.inr ⟨N, by omega, rfl, hD, er.symm, fun x hx hd => ?_⟩
            show (Int32.ofNat _).toInt ≤ _ ∧ (_ = (Int32.ofNat _).toInt → _)
            rw [er]
            rcases lt1 hx with q | q
            · have w := i5 x q hd
              refine ⟨by omega, fun e => Or.inr ?_⟩
              rcases w.2 (by omega) with z | z
              · rw [z]; exact hf
              · exact hf.tr z
            · subst q; exact ⟨Int.le_refl _, fun _ => Or.inl rfl⟩
          · have st := f_sq.f0 (th := th) (D := D) x0 er nl le (by rw [eN.2, i2]; exact fun z => hf ((s_ln.i (by omega)).mp z)) hD
            rw [eN.2] at st
            rw [st]
            refine Or.inr ⟨F, by omega, i2, i3, by show _ = (Int32.ofNat _).toInt; rw [er]; omega, fun x hx hd => ?_⟩
            show (Int32.ofNat _).toInt ≤ _ ∧ (_ = (Int32.ofNat _).toInt → _)
            rw [er]
            rcases lt1 hx with q | q
            · have w := i5 x q hd
              exact ⟨by omega, fun e => w.2 (by omega)⟩
            · subst q
              refine ⟨Int.le_refl _, fun _ => ?_⟩
              rcases s_ln.to (x := F) (y := x) (by omega) with z | z
              · exact Or.inr z
              · exact absurd z hf
        · have st := f_sq.no (th := th) (D := D) x0 er (fun z => by have w := Int32.le_iff_toInt_le.mp z.1; rw [er, eN.2] at w; omega)
          rw [eN.2] at st
          rw [st]
          refine Or.inr ⟨F, by omega, i2, i3, i4, fun x hx hd => ?_⟩
          rcases lt1 hx with q | q
          · exact i5 x q hd
          · subst q; exact ⟨by omega, fun e => by omega⟩
    · have st := f_sq.no (th := th) (D := D) (r := Int32.ofNat (g_bc (Int32.ofNat N) 20)) x0 er (fun z => hD z.2)
      rw [eN.2] at st
      rw [st]
      rcases ih with ⟨i1, i2⟩ | ⟨F, i1, i2, i3, i4, i5⟩
      · refine Or.inl ⟨i1, fun x hx => ?_⟩
        rcases lt1 hx with q | q
        · exact i2 x q
        · subst q; exact hD
      · refine Or.inr ⟨F, by omega, i2, i3, i4, fun x hx hd => ?_⟩
        rcases lt1 hx with q | q
        · exact i5 x q hd
        · subst q; exact absurd hd hD
/-! letting go one after another finds the first set -/
def k_ex (R : Nat → Nat → Prop) (m L : Nat) (p : Nat → Nat) (T : Nat → Bool) : Prop := ∃ S, k_mx R m L S ∧ ∀ i, i < m → T (p i) = true → S i = false
noncomputable def k_gr (R : Nat → Nat → Prop) (m L : Nat) (p : Nat → Nat) : Nat → Nat → Bool
  | 0 => fun _ => false
  | n + 1 => @ite _ (k_ex R m L p (fun r => k_gr R m L p n r || decide (r = n))) (Classical.propDecidable _) (fun r => k_gr R m L p n r || decide (r = n)) (k_gr R m L p n)
theorem k_ofS {m : Nat} {p : Nat → Nat} (hp : k_pm p m) (S : Nat → Bool) : ∃ x, x < 2 ^ m ∧ ∀ i, i < m → x.testBit (p i) = !S i := by
  have inv : ∃ q : Nat → Nat, ∀ i, i < m → q (p i) = i := by
    refine ⟨fun j => Classical.epsilon (fun i => i < m ∧ p i = j), fun i hi => ?_⟩
    have e := Classical.epsilon_spec (p := fun i' => i' < m ∧ p i' = p i) ⟨i, hi, rfl⟩
    exact hp.2.2 _ _ e.1 hi e.2
  obtain ⟨q, hq⟩ := inv
  exact ⟨_, s_mk_lt (fun j => !S (q j)) m, fun i hi => by rw [s_mk_b _ m (p i) (hp.1 i hi)]; show (!S (q (p i))) = _; rw [hq i hi]⟩
theorem t_gr1 {m L n : Nat} {R : Nat → Nat → Prop} {p : Nat → Nat} (h : k_ex R m L p (fun r => k_gr R m L p n r || decide (r = n))) : k_gr R m L p (n + 1) = (fun r => k_gr R m L p n r || decide (r = n)) := by
  show @ite _ _ (Classical.propDecidable _) _ _ = _
  rw [if_pos h]
theorem t_gr0 {m L n : Nat} {R : Nat → Nat → Prop} {p : Nat → Nat} (h : ¬ k_ex R m L p (fun r => k_gr R m L p n r || decide (r = n))) : k_gr R m L p (n + 1) = k_gr R m L p n := by
  show @ite _ _ (Classical.propDecidable _) _ _ = _
  rw [if_neg h]
theorem k_first {R : Nat → Nat → Prop} {m L : Nat} {p : Nat → Nat} {F : Nat} (hp : k_pm p m) (hF : k_mx R m L (fun i => !F.testBit (p i))) (hmin : ∀ x, x < 2 ^ m → k_mx R m L (fun i => !x.testBit (p i)) → x = F ∨ s_ln F x) : ∀ n, n ≤ m → ∀ r, k_gr R m L p n r = (decide (r < n) && F.testBit r)
  | 0, _, r => by
    show false = _
    rw [decide_eq_false (Nat.not_lt_zero r)]; rfl
  | n + 1, hn, r => by
    have ih := k_first hp hF hmin n (by omega)
    have le : ∀ r, r ≠ n → decide (r < n + 1) = decide (r < n) := fun r h => by
      by_cases q : r < n
      · rw [decide_eq_true q, decide_eq_true (by omega : r < n + 1)]
      · rw [decide_eq_false q, decide_eq_false (by omega : ¬ r < n + 1)]
    have key : k_ex R m L p (fun r => k_gr R m L p n r || decide (r = n)) ↔ F.testBit n = true := by
      constructor
      · rintro ⟨S, hS, hav⟩
        obtain ⟨x, x1, x2⟩ := k_ofS hp S
        have cg : ∀ i, i < m → (fun i => !x.testBit (p i)) i = S i := fun i hi => by
          show (!x.testBit (p i)) = S i
          rw [x2 i hi, Bool.not_not]
        have mx : k_mx R m L (fun i => !x.testBit (p i)) := ⟨fun i j a b c d => hS.1 i j a b ((cg i (by omega)).symm.trans c) ((cg j b).symm.trans d), by rw [k_ct_cg m cg]; exact hS.2⟩
        have out : ∀ r, r < m → (k_gr R m L p n r || decide (r = n)) = true → x.testBit r = true := fun r hr h => by
          obtain ⟨i, i1, i2⟩ := hp.2.1 r hr
          subst i2
          rw [x2 i i1, hav i i1 h]; rfl
        have xn : x.testBit n = true := out n (by omega) (by rw [decide_eq_true rfl, Bool.or_true])
        have lo : ∀ r, r < n → F.testBit r = true → x.testBit r = true := fun r hr h => out r (by omega) (by rw [ih r, decide_eq_true hr, h]; rfl)
        rcases hmin x x1 mx with e | ⟨j, j1, j2, j3⟩
        · rw [← e]; exact xn
        · rcases Nat.lt_trichotomy j n with q | q | q
          · rw [lo j q j1] at j2; cases j2
          · subst q; rw [xn] at j2; cases j2
          · rw [j3 n q]; exact xn
      · intro h
        refine ⟨_, hF, fun i hi w => ?_⟩
        show (!F.testBit (p i)) = false
        have t : F.testBit (p i) = true := by
          have w : (k_gr R m L p n (p i) || decide (p i = n)) = true := w
          by_cases q : p i = n
          · rw [q]; exact h
          · rw [decide_eq_false q, Bool.or_false, ih (p i)] at w
            rw [Bool.and_eq_true] at w; exact w.2
        rw [t]; rfl
    by_cases q : k_ex R m L p (fun r => k_gr R m L p n r || decide (r = n))
    · have t := key.mp q
      rw [t_gr1 q]
      show (k_gr R m L p n r || decide (r = n)) = _
      by_cases e : r = n
      · subst e; rw [decide_eq_true rfl, Bool.or_true, decide_eq_true (by omega : r < r + 1), t]; rfl
      · rw [decide_eq_false e, Bool.or_false, ih r, le r e]
    · have t : F.testBit n = false := by
        cases z : F.testBit n with
        | false => rfl
        | true => exact absurd (key.mpr z) q
      rw [t_gr0 q, ih r]
      by_cases e : r = n
      · subst e; rw [t, Bool.and_false, Bool.and_false]
      · rw [le r e]
/-- the i-th that is let go: its number -/
def k_nth (T : Nat → Bool) (m i : Nat) (V : Nat → Int32) (r : Int32) : Prop := (∃ q, q < m ∧ T q = true ∧ k_ct T q = i ∧ r = V q) ∨ (k_ct T m ≤ i ∧ r = -1)
theorem k_nth.eq {T U : Nat → Bool} {m i : Nat} {V : Nat → Int32} {r s : Int32} (h : k_nth T m i V r) (g : k_nth U m i V s) (e : ∀ q, q < m → T q = U q) : r = s := by
  have ce : ∀ q, q ≤ m → k_ct T q = k_ct U q := fun q hq => k_ct_cg q (fun i hi => e i (by omega))
  have lt : ∀ (S : Nat → Bool) (a b : Nat), a < m → S a = true → k_ct S a = i → S b = true → k_ct S b = i → ¬ a < b := fun S a b _ h1 h2 h3 h4 q => by
    have w := k_ct_le (S := S) (a := a + 1) (b := b) (by omega)
    rw [k_ct_t h1] at w; omega
  have top : ∀ (S : Nat → Bool) (a : Nat), a < m → S a = true → k_ct S a < k_ct S m := fun S a h0 h1 => by
    have w := k_ct_le (S := S) (a := a + 1) (b := m) (by omega)
    rw [k_ct_t h1] at w; omega
  rcases h with ⟨q, q1, q2, q3, q4⟩ | ⟨q1, q2⟩ <;> rcases g with ⟨w, w1, w2, w3, w4⟩ | ⟨w1, w2⟩
  · rw [← e w w1] at w2
    rw [← ce w (by omega)] at w3
    have a := lt T q w q1 q2 q3 w2 w3
    have b := lt T w q w1 w2 w3 q2 q3
    have z : q = w := by omega
    subst z; exact q4.trans w4.symm
  · have t := top T q q1 q2
    rw [ce m (Nat.le_refl _)] at t; omega
  · have t := top U w w1 w2
    rw [← ce m (Nat.le_refl _)] at t; omega
  · exact q2.trans w2.symm
theorem t_gset {k : qS} {b d : Int32} {m : Nat} {N : Nat → Int32} (hb : t_bd k) (hg : t_g k b d m N) :
    m ≤ 12 ∧ k_pm (fun i => f_n (f_gp k b d) (N i).toNatClampNeg) m ∧ k_tr (fun i j => t_bo k (N i) (N j)) m ∧ f_th k b d = Int32.ofNat m ∧ (f_th k b d).toInt = m ∧
    (∀ x, x < 2 ^ m → (f_D k b d (Int32.ofNat x) ↔ ∀ i j, i < j → j < m → t_bo k (N i) (N j) ∨ x.testBit (f_n (f_gp k b d) (N i).toNatClampNeg) = true ∨ x.testBit (f_n (f_gp k b d) (N j).toNatClampNeg) = true)) := by
  obtain ⟨g1, g2, g3, g4⟩ := hg
  have m12 : m ≤ 12 := by rw [g4]; exact t_12 hb b d
  have cn := g_clamp (k.1 1247)
  have bn := hb.2.2.2.1
  have inj : ∀ i j, i < m → j < m → N i = N j → i = j := fun i j hi hj e => by
    rcases Nat.lt_trichotomy i j with q | q | q
    · exact absurd e (g2 i j q hj).ne
    · exact q
    · exact absurd e.symm (g2 j i q hi).ne
  have pinj : ∀ i j, i < m → j < m → f_n (f_gp k b d) (N i).toNatClampNeg = f_n (f_gp k b d) (N j).toNatClampNeg → i = j := fun i j hi hj e =>
    inj i j hi hj (f_n.inj (g1 i hi).t.1 (g1 j hj).t.1 (g1 i hi) (g1 j hj) e)
  have plt : ∀ i, i < m → f_n (f_gp k b d) (N i).toNatClampNeg < m := fun i hi => by
    rw [g4]; exact f_n.lt (g1 i hi).t.1 (by have := (g1 i hi).t.2; omega) (g1 i hi)
  have hp : k_pm (fun i => f_n (f_gp k b d) (N i).toNatClampNeg) m := by
    refine ⟨plt, fun r hr => ?_, fun i j hi hj e => pinj i j hi hj e⟩
    obtain ⟨v, -, -, v3, v4⟩ := f_n.ex (P := f_gp k b d) (n := (k.1 1247).toNatClampNeg) (by omega) (by rw [← g4]; exact hr)
    obtain ⟨j, j1, j2⟩ := g3 v v3
    exact ⟨j, j1, by show f_n (f_gp k b d) (N j).toNatClampNeg = r; rw [j2]; exact v4⟩
  have ht : k_tr (fun i j => t_bo k (N i) (N j)) m := fun i j l a b c h1 h2 => t_bo.tr hb (g1 i (by omega)).t (g1 j (by omega)).t (g1 l c).t h1 h2
  have eth : f_th k b d = Int32.ofNat m := by unfold f_th; rw [← g4]
  have th : (f_th k b d).toInt = m := by rw [eth]; exact (f_ofn (by omega)).1
  have hD : ∀ x, x < 2 ^ m → (f_D k b d (Int32.ofNat x) ↔ ∀ i j, i < j → j < m → t_bo k (N i) (N j) ∨ x.testBit (f_n (f_gp k b d) (N i).toNatClampNeg) = true ∨ x.testBit (f_n (f_gp k b d) (N j).toNatClampNeg) = true) := fun x hx => by
    have bit : ∀ i, i < m → ((¬ (Int32.ofNat x >>> (Int32.ofNat (f_n (f_gp k b d) (N i).toNatClampNeg) &&& 31)) &&& 1 = 0) ↔ x.testBit (f_n (f_gp k b d) (N i).toNatClampNeg) = true) := fun i hi => by
      have l := plt i hi
      rw [s_bit0 (by omega), s_of (by omega)]
    constructor
    · intro h i j a c
      rcases Nat.lt_or_ge (f_n (f_gp k b d) (N i).toNatClampNeg) (f_n (f_gp k b d) (N j).toNatClampNeg) with q | q
      · rcases h (N j) (N i) (g1 j c) (g1 i (by omega)) q with r | r | r
        · exact Or.inl ((t_bo_2 (g2 i j a c)).mp r)
        · exact Or.inr (Or.inr ((bit j c).mp r))
        · exact Or.inr (Or.inl ((bit i (by omega)).mp r))
      · have ne : f_n (f_gp k b d) (N i).toNatClampNeg ≠ f_n (f_gp k b d) (N j).toNatClampNeg := fun e => by have := pinj i j (by omega) c e; omega
        rcases h (N i) (N j) (g1 i (by omega)) (g1 j c) (by omega) with r | r | r
        · exact Or.inl ((t_bo_1 (g2 i j a c)).mp r)
        · exact Or.inr (Or.inl ((bit i (by omega)).mp r))
        · exact Or.inr (Or.inr ((bit j c).mp r))
    · intro h v w hv hw hlt
      obtain ⟨i, i1, i2⟩ := g3 v hv
      obtain ⟨j, j1, j2⟩ := g3 w hw
      subst i2 j2
      rcases Nat.lt_trichotomy i j with q | q | q
      · rcases h i j q j1 with r | r | r
        · exact Or.inl ((t_bo_1 (g2 i j q j1)).mpr r)
        · exact Or.inr (Or.inl ((bit i i1).mpr r))
        · exact Or.inr (Or.inr ((bit j j1).mpr r))
      · subst q; omega
      · rcases h j i q i1 with r | r | r
        · exact Or.inl ((t_bo_2 (g2 j i q i1)).mpr r)
        · exact Or.inr (Or.inr ((bit j j1).mpr r))
        · exact Or.inr (Or.inl ((bit i i1).mpr r))
  exact ⟨m12, hp, ht, eth, th, hD⟩
noncomputable def f_fz (k : qS) (b d : Int32) : Int32 := (f_sq (f_th k b d) (f_D k b d) ((1 : Int32) <<< (f_th k b d &&& 31)).toNatClampNeg).2
theorem t_first {k : qS} {b d : Int32} {m L : Nat} {N : Nat → Int32} {U : Nat → Nat} (hb : t_bd k) (hg : t_g k b d m N) (hu : k_up (fun i j => t_bo k (N i) (N j)) k_z m U) (hL : L = 0 ∨ ∃ i, i < m ∧ U i = L) (hL2 : ∀ i, i < m → U i ≤ L) :
    ∃ F, f_fz k b d = Int32.ofNat F ∧ F < 2 ^ m ∧ ∀ r, k_gr (fun i j => t_bo k (N i) (N j)) m L (fun i => f_n (f_gp k b d) (N i).toNatClampNeg) m r = (decide (r < m) && F.testBit r) := by
  obtain ⟨m12, hp, ht, eth, th, hD⟩ := t_gset hb hg
  obtain ⟨W, hw⟩ := k_dw.exi (fun i j => t_bo k (N i) (N j)) m
  have e1 := (t_words hb hg hu hw hL hL2).1
  have p2 : 2 ^ m ≤ 4096 := Nat.pow_le_pow_right (n := 2) (by decide) m12
  have bc : ∀ x, x < 2 ^ m → g_bc (Int32.ofNat x) 20 = k_ct x.testBit m := fun x hx => s_cn hx (by omega)
  have ea : f_all k b d = f_sl (f_th k b d) (f_D k b d) (2 ^ m) := by unfold f_all; rw [eth, t_pow m m12]
  have ez : f_fz k b d = (f_sq (f_th k b d) (f_D k b d) (2 ^ m)).2 := by unfold f_fz; rw [eth, t_pow m m12]
  have fo := s_qf (th := f_th k b d) (D := f_D k b d) (by omega) (by omega) (2 ^ m) p2 (fun x hx => by rw [bc x hx, th]; have := k_ct_m (S := x.testBit) m; omega)
  have one := f_sq.one (f_th k b d) (f_D k b d) (2 ^ m)
  rw [ea] at e1
  have ctS : ∀ x, x < 2 ^ m → k_ct (fun i => !x.testBit (f_n (f_gp k b d) (N i).toNatClampNeg)) m + k_ct x.testBit m = m := fun x hx => by
    have a := k_ct_neg (S := fun i => x.testBit (f_n (f_gp k b d) (N i).toNatClampNeg)) m
    have b := hp.ct x.testBit
    rw [b] at a; exact a
  have toS : ∀ x, x < 2 ^ m → (f_D k b d (Int32.ofNat x) ↔ k_ch (fun i j => t_bo k (N i) (N j)) m (fun i => !x.testBit (f_n (f_gp k b d) (N i).toNatClampNeg))) := fun x hx => by
    rw [hD x hx]
    constructor
    · intro h i j a b c d
      rcases h i j a b with q | q | q
      · exact q
      · have c : (!x.testBit _) = true := c
        rw [q] at c; cases c
      · have d : (!x.testBit _) = true := d
        rw [q] at d; cases d
    · intro h i j a b
      cases c : x.testBit (f_n (f_gp k _ _) (N i).toNatClampNeg) with
      | true => exact Or.inr (Or.inl rfl)
      | false => cases d : x.testBit (f_n (f_gp k _ _) (N j).toNatClampNeg) with
        | true => exact Or.inr (Or.inr rfl)
        | false => exact Or.inl (h i j a b (by show (!x.testBit _) = true; rw [c]; rfl) (by show (!x.testBit _) = true; rw [d]; rfl))
  obtain ⟨S0, m0⟩ := k_mx.ex hu ht hL hL2
  obtain ⟨x0, x1, x2⟩ := k_ofS hp S0
  have cg0 : ∀ i, i < m → (fun i => !x0.testBit (f_n (f_gp k b d) (N i).toNatClampNeg)) i = S0 i := fun i hi => by
    show (!x0.testBit _) = S0 i
    rw [x2 i hi, Bool.not_not]
  have d0 : f_D k b d (Int32.ofNat x0) := (toS x0 x1).mpr (fun i j a b c d => m0.1 i j a b ((cg0 i (by omega)).symm.trans c) ((cg0 j b).symm.trans d))
  rcases fo with ⟨-, f2⟩ | ⟨F, F1, F2, F3, F4, F5⟩
  · exact absurd d0 (f2 x0 x1)
  · have mx : ∀ x, x < 2 ^ m → f_D k b d (Int32.ofNat x) → (g_bc (Int32.ofNat x) 20 : Int) = (f_sq (f_th k b d) (f_D k b d) (2 ^ m)).1.toInt → k_mx (fun i j => t_bo k (N i) (N j)) m L (fun i => !x.testBit (f_n (f_gp k b d) (N i).toNatClampNeg)) := fun x hx hd e => by
      refine ⟨(toS x hx).mp hd, ?_⟩
      have c := ctS x hx
      have top := hu.top ((toS x hx).mp hd) k_av.z hL2
      rw [bc x hx, one, e1] at e
      omega
    refine ⟨F, by rw [ez]; exact F2, F1, fun r => k_first hp (mx F F1 F3 F4) (fun x hx hm => ?_) m (Nat.le_refl m) r⟩
    have hd := (toS x hx).mpr hm.1
    refine (F5 x hx hd).2 ?_
    have c := ctS x hx
    have c2 := hm.2
    rw [bc x hx, one, e1]; omega
/-- the one of a rank -/
noncomputable def f_V (k : qS) (b d : Int32) (q : Nat) : Int32 := Classical.epsilon (fun v : Int32 => f_gp k b d v ∧ f_n (f_gp k b d) v.toNatClampNeg = q)
theorem f_V.at {k : qS} {b d v : Int32} (h : f_gp k b d v) : f_V k b d (f_n (f_gp k b d) v.toNatClampNeg) = v := by
  have e := Classical.epsilon_spec (p := fun w : Int32 => f_gp k b d w ∧ f_n (f_gp k b d) w.toNatClampNeg = f_n (f_gp k b d) v.toNatClampNeg) ⟨v, h, rfl⟩
  exact f_n.inj e.1.t.1 h.t.1 e.1 h e.2
theorem f_n.lt2 {P : Int32 → Prop} {v w : Int32} (v0 : 0 ≤ v.toInt) (h : v.toInt < w.toInt) (hp : P v) : f_n P v.toNatClampNeg < f_n P w.toNatClampNeg := by
  have c := g_clamp w
  exact f_n.lt v0 (by omega) hp
/-- what is behind the last by number -/
def t_nb (N : Nat → Int32) (m : Nat) (x r : Int32) : Prop := (r = -1 ∧ ∀ j, j < m → (N j).toInt ≤ x.toInt) ∨ ((0 ≤ r.toInt ∧ r.toInt < m) ∧ x.toInt < (N r.toNatClampNeg).toInt ∧ ∀ j, j < m → x.toInt < (N j).toInt → (N r.toNatClampNeg).toInt ≤ (N j).toInt)
def t_la (k : qS) (b d : Int32) (n : Nat) (x : Int32) : Prop := (n = 0 → x = -1) ∧ ∀ q, n = q + 1 → x = f_V k b d q
theorem t_next {k : qS} {b d x r : Int32} {m n : Nat} {N : Nat → Int32} (hb : t_bd k) (hg : t_g k b d m N) (hn : n < m) (hl : t_la k b d n x) (h : t_nb N m x r) : (0 ≤ r.toInt ∧ r.toInt < m) ∧ f_n (f_gp k b d) (N r.toNatClampNeg).toNatClampNeg = n := by
  obtain ⟨m12, hp, -⟩ := t_gset hb hg
  obtain ⟨i, i1, i2⟩ := hp.2.1 n hn
  have i2 : f_n (f_gp k b d) (N i).toNatClampNeg = n := i2
  have gi := hg.1 i i1
  -- what is told of the last
  have lst : ∀ v : Int32, f_gp k b d v → (x.toInt < v.toInt ↔ n ≤ f_n (f_gp k b d) v.toNatClampNeg) := fun v hv => by
    rcases n with _ | q
    · have e := hl.1 rfl
      have e1 : (-1 : Int32).toInt = -1 := rfl
      have v0 := hv.t.1
      rw [e, e1]; omega
    · have e := hl.2 q rfl
      obtain ⟨j, j1, j2⟩ := hp.2.1 q (by omega)
      have j2 : f_n (f_gp k b d) (N j).toNatClampNeg = q := j2
      have gj := hg.1 j j1
      have ev := f_V.at gj
      rw [j2] at ev
      rw [ev] at e
      rw [e]
      constructor
      · intro w
        have := f_n.lt2 gj.t.1 w gj
        omega
      · intro w
        rcases Int.lt_trichotomy (N j).toInt v.toInt with z | z | z
        · exact z
        · have z2 : N j = v := Int32.toInt_inj.mp z
          rw [z2] at j2; omega
        · have := f_n.lt2 hv.t.1 z hv
          omega
  rcases h with ⟨-, h2⟩ | ⟨h1, h2, h3⟩
  · have w := (lst _ gi).mpr (by omega)
    have := h2 i i1
    omega
  · refine ⟨h1, ?_⟩
    have c := g_clamp r
    have gr := hg.1 r.toNatClampNeg (by omega)
    have a := (lst _ gr).mp h2
    have le := h3 i i1 ((lst _ gi).mpr (by omega))
    rcases Int.lt_or_le (N r.toNatClampNeg).toInt (N i).toInt with z | z
    · have := f_n.lt2 gr.t.1 z gr
      omega
    · have e : N r.toNatClampNeg = N i := Int32.toInt_inj.mp (by omega)
      rw [e]; exact i2
/-- the longest, of those that are not let go -/
theorem t_ua.ko {R : Nat → Nat → Prop} {O f : Nat → Int32} {m : Nat} (h : t_ua R O f m) : k_up R (fun i => decide (¬ O i = 0)) m (t_U f) := fun x hx => by
  obtain ⟨h1, h2⟩ := h x hx
  refine ⟨fun q => ?_, fun q => ?_⟩
  · have q : decide (¬ O x = 0) = true := q
    have e := h1 (of_decide_eq_true q)
    show (f x).toInt.toNat = 0
    rw [e]; rfl
  · have q : decide (¬ O x = 0) = false := q
    have q2 : O x = 0 := Classical.byContradiction (fun z => of_decide_eq_false q z)
    obtain ⟨a, b, c⟩ := h2 q2
    refine ⟨by show 1 ≤ (f x).toInt.toNat; omega, fun j hj oj rj => ?_, ?_⟩
    · have oj : decide (¬ O j = 0) = false := oj
      have oj2 : O j = 0 := Classical.byContradiction (fun z => of_decide_eq_false oj z)
      have w := b j hj oj2 rj
      have l := h.le (x := j) (by omega)
      show (f j).toInt.toNat + 1 ≤ (f x).toInt.toNat
      omega
    · rcases c with c | ⟨j, j1, j2, j3, j4⟩
      · exact Or.inl (by show (f x).toInt.toNat = 1; omega)
      · have l := h.le (x := j) (by omega)
        exact Or.inr ⟨j, j1, by show decide (¬ O j = 0) = false; rw [j2]; rfl, j3, by show (f x).toInt.toNat = (f j).toInt.toNat + 1; omega⟩
theorem t_keep {R : Nat → Nat → Prop} {O f : Nat → Int32} {m L : Nat} {p : Nat → Nat} {T : Nat → Bool} {r : Int32} (h : t_ua R O f m) (hx : t_mx f r m) (ht : k_tr R m) (hO : ∀ j, j < m → (¬ O j = 0 ↔ T (p j) = true)) (hL : ∀ S, k_ch R m S → k_ct S m ≤ L) : (L : Int) ≤ r.toInt ↔ k_ex R m L p T := by
  have ku := h.ko
  have kx := hx.k
  have oj : ∀ j, j < m → T (p j) = false → decide (¬ O j = 0) = false := fun j hj q => by
    refine decide_eq_false (fun z => ?_)
    rw [(hO j hj).mp z] at q; cases q
  constructor
  · intro hl
    rcases kx.1 with e | ⟨i, i1, i2⟩
    · have L0 : L = 0 := by have := hx.1; omega
      subst L0
      exact ⟨k_z, ⟨fun i j _ _ q _ => absurd (show false = true from q) (by decide), k_ct_no (a := 0) (Nat.zero_le m) (fun _ _ _ => rfl)⟩, fun _ _ _ => rfl⟩
    · by_cases q : O i = 0
      · obtain ⟨S, s1, s2, s3, s4, s5⟩ := ku.ex ht i i1 (by rw [q]; rfl)
        have cs : k_ct S m = t_U f i := by rw [k_ct_no (a := i + 1) (by omega) (fun j a b => s4 j (by omega)), s5]
        have top := hL S s1
        refine ⟨S, ⟨s1, by have := hx.1; omega⟩, fun j hj w => ?_⟩
        cases e : S j with
        | false => rfl
        | true =>
          have z := s2 j hj e
          have z : decide (¬ O j = 0) = false := z
          exact absurd ((hO j hj).mpr w) (of_decide_eq_false z)
      · have e := (h i i1).1 q
        have e2 : t_U f i = 0 := by show (f i).toInt.toNat = 0; rw [e]; rfl
        have L0 : L = 0 := by have := hx.1; omega
        subst L0
        exact ⟨k_z, ⟨fun i j _ _ q _ => absurd (show false = true from q) (by decide), k_ct_no (a := 0) (Nat.zero_le m) (fun _ _ _ => rfl)⟩, fun _ _ _ => rfl⟩
  · rintro ⟨S, s1, s2⟩
    have w := ku.top s1.1 (fun j hj q => by
      cases e : T (p j) with
      | false => exact oj j hj e
      | true => rw [s2 j hj e] at q; cases q) kx.2
    have := s1.2
    have := hx.1
    omega
/-- the longest of all -/
def t_lo (k : qS) (N : Nat → Int32) (m L : Nat) : Prop := ∃ U, k_up (fun i j => t_bo k (N i) (N j)) k_z m U ∧ (L = 0 ∨ ∃ i, i < m ∧ U i = L) ∧ ∀ i, i < m → U i ≤ L
theorem t_lo.of {k : qS} {N : Nat → Int32} {m : Nat} {O f : Nat → Int32} {x : Int32} (h : t_ua (fun i j => t_bo k (N i) (N j)) O f m) (hO : ∀ j, j < m → O j = 0) (hx : t_mx f x m) : t_lo k N m x.toInt.toNat := ⟨t_U f, h.k hO, hx.k.1, hx.k.2⟩
theorem t_lo.top {k : qS} {N : Nat → Int32} {m L : Nat} (h : t_lo k N m L) (S : Nat → Bool) (hS : k_ch (fun i j => t_bo k (N i) (N j)) m S) : k_ct S m ≤ L := by
  obtain ⟨U, u1, -, u3⟩ := h
  exact u1.top hS k_av.z u3
/-- who has been let go -/
def t_Os (k : qS) (b d : Int32) (N : Nat → Int32) (m L n : Nat) (O : Nat → Int32) : Prop := ∀ j, j < m → (¬ O j = 0 ↔ k_gr (fun i j => t_bo k (N i) (N j)) m L (fun i => f_n (f_gp k b d) (N i).toNatClampNeg) n (f_n (f_gp k b d) (N j).toNatClampNeg) = true)
section TS
variable {k : qS} {b d x r s z : Int32} {m L n : Nat} {N O O' f : Nat → Int32}
theorem t_Os.nil (h : ∀ j, j < m → O j = 0) : t_Os k b d N m L 0 O := fun j hj => ⟨fun q => absurd (h j hj) q, fun q => absurd (show false = true from q) (by decide)⟩
/-- one is let go, to see -/
theorem t_Os.try (h : t_Os k b d N m L n O) (hb : t_bd k) (hg : t_g k b d m N) (hr : r.toInt < m ∧ 0 ≤ r.toInt) (hp : f_n (f_gp k b d) (N r.toNatClampNeg).toNatClampNeg = n) {w : Int32} (hO : O' = upd O r.toNatClampNeg w) (hw : ¬ w = 0) : ∀ j, j < m → (¬ O' j = 0 ↔ (k_gr (fun i j => t_bo k (N i) (N j)) m L (fun i => f_n (f_gp k b d) (N i).toNatClampNeg) n (f_n (f_gp k b d) (N j).toNatClampNeg) || decide (f_n (f_gp k b d) (N j).toNatClampNeg = n)) = true) := fun j hj => by
  subst hO
  obtain ⟨-, pm, -⟩ := t_gset hb hg
  have c := g_clamp r
  by_cases e : j = r.toNatClampNeg
  · subst e
    rw [pk_us, hp, decide_eq_true rfl, Bool.or_true]
    exact ⟨fun _ => rfl, fun _ => hw⟩
  · have ne : ¬ f_n (f_gp k b d) (N j).toNatClampNeg = n := fun q => e (pm.2.2 j r.toNatClampNeg hj (by omega) (q.trans hp.symm))
    rw [pk_un e, decide_eq_false ne, Bool.or_false]
    exact h j hj
/-- it stays out -/
theorem t_Os.out (h : t_Os k b d N m L n O) (hb : t_bd k) (hg : t_g k b d m N) (hr : r.toInt < m ∧ 0 ≤ r.toInt) (hp : f_n (f_gp k b d) (N r.toNatClampNeg).toNatClampNeg = n) {w : Int32} (hO : O' = upd O r.toNatClampNeg w) (hw : ¬ w = 0) (hx : k_ex (fun i j => t_bo k (N i) (N j)) m L (fun i => f_n (f_gp k b d) (N i).toNatClampNeg) (fun r => k_gr (fun i j => t_bo k (N i) (N j)) m L (fun i => f_n (f_gp k b d) (N i).toNatClampNeg) n r || decide (r = n))) : t_Os k b d N m L (n + 1) O' := fun j hj => by
  rw [t_gr1 hx]
  exact h.try hb hg hr hp hO hw j hj
/-- it is taken back -/
theorem t_Os.in (h : t_Os k b d N m L n O) (hb : t_bd k) (hg : t_g k b d m N) (hl : t_lo k N m L) (hr : r.toInt < m ∧ 0 ≤ r.toInt) (hp : f_n (f_gp k b d) (N r.toNatClampNeg).toNatClampNeg = n) {w w' : Int32} {O1 : Nat → Int32} (hO1 : O1 = upd O r.toNatClampNeg w) (hO : O' = upd O1 r.toNatClampNeg w') (hw : w' = 0) (hx : ¬ k_ex (fun i j => t_bo k (N i) (N j)) m L (fun i => f_n (f_gp k b d) (N i).toNatClampNeg) (fun r => k_gr (fun i j => t_bo k (N i) (N j)) m L (fun i => f_n (f_gp k b d) (N i).toNatClampNeg) n r || decide (r = n))) : t_Os k b d N m L (n + 1) O' := fun j hj => by
  subst hO hO1 hw
  rw [t_gr0 hx]
  have c := g_clamp r
  by_cases e : j = r.toNatClampNeg
  · subst e
    rw [pk_us, hp]
    refine ⟨fun q => absurd rfl q, fun q => ?_⟩
    have low : ∀ n a, n ≤ a → k_gr (fun i j => t_bo k (N i) (N j)) m L (fun i => f_n (f_gp k b d) (N i).toNatClampNeg) n a = false := fun n => by
      induction n with
      | zero => intro a _; rfl
      | succ n ih =>
        intro a ha
        by_cases w : k_ex (fun i j => t_bo k (N i) (N j)) m L (fun i => f_n (f_gp k b d) (N i).toNatClampNeg) (fun r => k_gr (fun i j => t_bo k (N i) (N j)) m L (fun i => f_n (f_gp k b d) (N i).toNatClampNeg) n r || decide (r = n))
        · rw [t_gr1 w]
          show (_ || _) = false
          rw [ih a (by omega), decide_eq_false (by omega : ¬ a = n)]; rfl
        · rw [t_gr0 w]; exact ih a (by omega)
    rw [low n n (Nat.le_refl n)] at q; cases q
  · rw [pk_un e, pk_un e]; exact h j hj
/-- what is known of the first set, behind n of them -/
theorem t_gF (hb : t_bd k) (hg : t_g k b d m N) (hl : t_lo k N m L) : ∀ n, n ≤ m → ∀ a, k_gr (fun i j => t_bo k (N i) (N j)) m L (fun i => f_n (f_gp k b d) (N i).toNatClampNeg) n a = (decide (a < n) && s_b (f_fz k b d) a) := by
  obtain ⟨U, u1, u2, u3⟩ := hl
  obtain ⟨F, f1, f2, f3⟩ := t_first hb hg u1 u2 u3
  obtain ⟨m12, hp, ht, -⟩ := t_gset hb hg
  have bit : ∀ a, a < 32 → s_b (f_fz k b d) a = F.testBit a := fun a ha => by rw [f1]; exact s_of ha
  -- down from m
  have down : ∀ e n, n + e = m → ∀ a, k_gr (fun i j => t_bo k (N i) (N j)) m L (fun i => f_n (f_gp k b d) (N i).toNatClampNeg) n a = (decide (a < n) && F.testBit a) := fun e => by
    induction e with
    | zero =>
      intro n hn a
      have : n = m := by omega
      subst this; exact f3 a
    | succ e ih =>
      intro n hn a
      have w := ih (n + 1) (by omega) a
      have low : ∀ n a, n ≤ a → k_gr (fun i j => t_bo k (N i) (N j)) m L (fun i => f_n (f_gp k b d) (N i).toNatClampNeg) n a = false := fun n => by
        induction n with
        | zero => intro a _; rfl
        | succ n ih =>
          intro a ha
          by_cases w : k_ex (fun i j => t_bo k (N i) (N j)) m L (fun i => f_n (f_gp k b d) (N i).toNatClampNeg) (fun r => k_gr (fun i j => t_bo k (N i) (N j)) m L (fun i => f_n (f_gp k b d) (N i).toNatClampNeg) n r || decide (r = n))
          · rw [t_gr1 w]
            show (_ || _) = false
            rw [ih a (by omega), decide_eq_false (by omega : ¬ a = n)]; rfl
          · rw [t_gr0 w]; exact ih a (by omega)
      rcases Nat.lt_or_ge a n with q | q
      · by_cases x : k_ex (fun i j => t_bo k (N i) (N j)) m L (fun i => f_n (f_gp k b d) (N i).toNatClampNeg) (fun r => k_gr (fun i j => t_bo k (N i) (N j)) m L (fun i => f_n (f_gp k b d) (N i).toNatClampNeg) n r || decide (r = n))
        · rw [t_gr1 x] at w
          have w : (k_gr (fun i j => t_bo k (N i) (N j)) m L (fun i => f_n (f_gp k b d) (N i).toNatClampNeg) n a || decide (a = n)) = _ := w
          rw [decide_eq_false (by omega : ¬ a = n), Bool.or_false] at w
          rw [w, decide_eq_true (by omega : a < n + 1), decide_eq_true q]
        · rw [t_gr0 x] at w
          rw [w, decide_eq_true (by omega : a < n + 1), decide_eq_true q]
      · rw [low n a q, decide_eq_false (by omega : ¬ a < n)]; rfl
  intro n hn a
  rw [down (m - n) n (by omega) a]
  rcases Nat.lt_or_ge a n with q | q
  · rw [bit a (by omega)]
  · rw [decide_eq_false (by omega : ¬ a < n)]; rfl
end TS
theorem t_la.s {k : qS} {b d r : Int32} {m n : Nat} {N : Nat → Int32} (hg : t_g k b d m N) (h : (0 ≤ r.toInt ∧ r.toInt < m) ∧ f_n (f_gp k b d) (N r.toNatClampNeg).toNatClampNeg = n) : t_la k b d (n + 1) (N r.toNatClampNeg) := by
  have c := g_clamp r
  refine ⟨fun q => absurd q (Nat.succ_ne_zero _), fun q e => ?_⟩
  have e2 : n = q := by omega
  have v := f_V.at (hg.1 r.toNatClampNeg (by omega))
  rw [h.2, e2] at v
  exact v.symm
theorem t_fin1 {k : qS} {b d r z : Int32} {m n L : Nat} {N : Nat → Int32} (hb : t_bd k) (hg : t_g k b d m N) (hl : t_lo k N m L) (hx : k_ex (fun i j => t_bo k (N i) (N j)) m L (fun i => f_n (f_gp k b d) (N i).toNatClampNeg) (fun r => k_gr (fun i j => t_bo k (N i) (N j)) m L (fun i => f_n (f_gp k b d) (N i).toNatClampNeg) n r || decide (r = n))) (hn : n < m) (nx : (0 ≤ r.toInt ∧ r.toInt < m) ∧ f_n (f_gp k b d) (N r.toNatClampNeg).toNatClampNeg = n) (hc : z.toNatClampNeg = k_ct (k_gr (fun i j => t_bo k (N i) (N j)) m L (fun i => f_n (f_gp k b d) (N i).toNatClampNeg) n) n) : k_nth (s_b (f_fz k b d)) m z.toNatClampNeg (f_V k b d) (N r.toNatClampNeg) := by
  have c := g_clamp r
  have gF := t_gF hb hg hl
  have t1 : k_gr (fun i j => t_bo k (N i) (N j)) m L (fun i => f_n (f_gp k b d) (N i).toNatClampNeg) (n + 1) n = true := by
    rw [t_gr1 hx]
    show (_ || decide (n = n)) = true
    rw [decide_eq_true rfl, Bool.or_true]
  rw [gF _ (by omega), decide_eq_true (by omega : n < n + 1), Bool.true_and] at t1
  refine Or.inl ⟨n, hn, t1, ?_, ?_⟩
  · rw [hc]
    exact k_ct_cg n (fun i hi => by rw [gF _ (by omega), decide_eq_true hi]; rfl)
  · have v := f_V.at (hg.1 r.toNatClampNeg (by omega))
    rw [nx.2] at v
    exact v.symm
theorem s_bitI {x i : Int32} (h0 : 0 ≤ i.toInt) (h1 : i.toInt < 20) : (x >>> (i &&& 31)) &&& 1 = 1 ↔ s_b x i.toNatClampNeg = true := by
  have c := g_clamp i
  have e := s_bit1 (x := x) (i := i.toNatClampNeg) (by omega)
  rw [f_of h0] at e
  exact e
