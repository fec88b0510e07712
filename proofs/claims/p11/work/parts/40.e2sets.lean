/-! sets as bits: how many, the fewest, what is in all and what is in some -/
def s_b (x : Int32) (i : Nat) : Bool := x.toBitVec.getLsbD i
theorem s_sh : ∀ i : Nat, i < 20 → ((Int32.ofNat i &&& 31).toBitVec.smod 32).toNat = i := by decide
theorem s_bit {x : Int32} {i : Nat} (hi : i < 20) : ((x >>> (Int32.ofNat i &&& 31)) &&& 1) = if s_b x i = true then 1 else 0 := by
  have e : ((x >>> (Int32.ofNat i &&& 31)) &&& 1).toBitVec = BitVec.setWidth 32 (BitVec.ofBool ((x >>> (Int32.ofNat i &&& 31)).toBitVec.getLsbD 0)) := BitVec.and_one_eq_setWidth_ofBool_getLsbD
  have e2 : (x >>> (Int32.ofNat i &&& 31)).toBitVec.getLsbD 0 = s_b x i := by
    rw [Int32.toBitVec_shiftRight, BitVec.getLsbD_sshiftRight', s_sh i hi]
    show (!decide (32 ≤ 0) && if i + 0 < 32 then x.toBitVec.getLsbD (i + 0) else x.toBitVec.msb) = _
    rw [if_pos (by omega)]; rfl
  rw [e2] at e
  cases h : s_b x i with
  | false => rw [h] at e; rw [if_neg (by decide)]; exact Int32.toBitVec_inj.mp e
  | true => rw [h] at e; rw [if_pos rfl]; exact Int32.toBitVec_inj.mp e
theorem s_bit0 {x : Int32} {i : Nat} (hi : i < 20) : (¬ (x >>> (Int32.ofNat i &&& 31)) &&& 1 = 0) ↔ s_b x i = true := by
  rw [s_bit hi]
  cases s_b x i with
  | false => rw [if_neg (by decide)]; exact ⟨fun h => absurd rfl h, fun h => by cases h⟩
  | true => rw [if_pos rfl]; exact ⟨fun _ => rfl, fun _ => by decide⟩
theorem s_bit1 {x : Int32} {i : Nat} (hi : i < 20) : (x >>> (Int32.ofNat i &&& 31)) &&& 1 = 1 ↔ s_b x i = true := by
  rw [s_bit hi]
  cases s_b x i with
  | false => rw [if_neg (by decide)]; exact ⟨fun h => absurd h (by decide), fun h => by cases h⟩
  | true => rw [if_pos rfl]; exact ⟨fun _ => rfl, fun _ => rfl⟩
theorem s_bc (x : Int32) : ∀ n : Nat, n ≤ 20 → g_bc x n = k_ct (s_b x) n
  | 0, _ => rfl
  | n + 1, h => by
    show g_bc x n + ((x >>> (Int32.ofNat n &&& 31)) &&& 1).toInt.toNat = k_ct (s_b x) n + _
    rw [s_bc x n (by omega), s_bit (by omega)]
    cases s_b x n with
    | false => rw [if_neg (by decide), if_neg (by decide)]; rfl
    | true => rw [if_pos rfl, if_pos rfl]; rfl
theorem s_of {n i : Nat} (hi : i < 32) : s_b (Int32.ofNat n) i = n.testBit i := by
  show (BitVec.ofNat 32 n).getLsbD i = _
  rw [BitVec.getLsbD_ofNat]
  rw [decide_eq_true hi]; rfl
theorem s_and {x y : Int32} {i : Nat} : s_b (x &&& y) i = (s_b x i && s_b y i) := by
  show (x &&& y).toBitVec.getLsbD i = _
  rw [Int32.toBitVec_and]; exact BitVec.getLsbD_and
theorem s_or {x y : Int32} {i : Nat} : s_b (x ||| y) i = (s_b x i || s_b y i) := by
  show (x ||| y).toBitVec.getLsbD i = _
  rw [Int32.toBitVec_or]; exact BitVec.getLsbD_or
theorem s_cn {n m : Nat} (hn : n < 2 ^ m) (hm : m ≤ 20) : g_bc (Int32.ofNat n) 20 = k_ct n.testBit m := by
  rw [s_bc _ 20 (Nat.le_refl _), k_ct_cg (T := n.testBit) 20 (fun i hi => s_of (by omega)), k_ct_no (a := m) hm (fun i a b => Nat.testBit_lt_two_pow (Nat.lt_of_lt_of_le hn (Nat.pow_le_pow_right (by decide) a)))]
theorem k_ct_m {S : Nat → Bool} : ∀ n : Nat, k_ct S n ≤ n
  | 0 => Nat.le_refl _
  | n + 1 => by
    have := k_ct_m (S := S) n
    show k_ct S n + (if S n = true then 1 else 0) ≤ n + 1
    split <;> omega
theorem k_ct_neg {S : Nat → Bool} : ∀ n : Nat, k_ct (fun i => !S i) n + k_ct S n = n
  | 0 => rfl
  | n + 1 => by
    have := k_ct_neg (S := S) n
    show k_ct (fun i => !S i) n + (if (!S n) = true then 1 else 0) + (k_ct S n + (if S n = true then 1 else 0)) = n + 1
    cases S n with
    | false => show k_ct (fun i => !S i) n + 1 + (k_ct S n + 0) = n + 1; omega
    | true => show k_ct (fun i => !S i) n + 0 + (k_ct S n + 1) = n + 1; omega
theorem k_ct_l {S : Nat → Bool} : ∀ n : Nat, k_ct S n = (List.range n).countP S
  | 0 => rfl
  | n + 1 => by
    rw [List.range_succ, List.countP_append, ← k_ct_l n]
    show k_ct S n + (if S n = true then 1 else 0) = k_ct S n + List.countP S [n]
    rw [List.countP_cons, List.countP_nil, Nat.zero_add]
/-- an order of the numbers below m -/
def k_pm (p : Nat → Nat) (m : Nat) : Prop := (∀ i, i < m → p i < m) ∧ (∀ k, k < m → ∃ i, i < m ∧ p i = k) ∧ ∀ i j, i < m → j < m → p i = p j → i = j
theorem k_pm.ct {p : Nat → Nat} {m : Nat} (h : k_pm p m) (T : Nat → Bool) : k_ct (fun i => T (p i)) m = k_ct T m := by
  have pe : ((List.range m).map p).Perm (List.range m) := by
    refine (List.perm_ext_iff_of_nodup ?_ List.nodup_range).mpr (fun a => ?_)
    · refine List.pairwise_map.mpr (List.Pairwise.imp_of_mem (R := fun a b => a ≠ b) ?_ List.nodup_range)
      intro a b ha hb ne e
      exact ne (h.2.2 a b (List.mem_range.mp ha) (List.mem_range.mp hb) e)
    · rw [List.mem_map, List.mem_range]
      constructor
      · rintro ⟨i, hi, e⟩
        rw [← e]; exact h.1 i (List.mem_range.mp hi)
      · intro ha
        obtain ⟨i, hi, e⟩ := h.2.1 a ha
        exact ⟨i, List.mem_range.mpr hi, e⟩
  rw [k_ct_l, k_ct_l, ← pe.countP_eq T, List.countP_map]; rfl
/-- a set out of its bits -/
def s_mk (S : Nat → Bool) : Nat → Nat
  | 0 => 0
  | n + 1 => if S n = true then 2 ^ n + s_mk S n else s_mk S n
theorem s_mk_lt (S : Nat → Bool) : ∀ n : Nat, s_mk S n < 2 ^ n
  | 0 => by show 0 < 2 ^ 0; decide
  | n + 1 => by
    have h := s_mk_lt S n
    show (if S n = true then 2 ^ n + s_mk S n else s_mk S n) < 2 ^ (n + 1)
    rw [Nat.pow_succ]
    split <;> omega
theorem s_mk_b (S : Nat → Bool) : ∀ n i : Nat, i < n → (s_mk S n).testBit i = S i
  | 0, i, h => absurd h (Nat.not_lt_zero _)
  | n + 1, i, h => by
    show (if S n = true then 2 ^ n + s_mk S n else s_mk S n).testBit i = S i
    rcases Nat.lt_or_ge i n with q | q
    · split
      · rw [Nat.testBit_two_pow_add_gt q]; exact s_mk_b S n i q
      · exact s_mk_b S n i q
    · have e : i = n := by omega
      subst e
      have z : (s_mk S i).testBit i = false := Nat.testBit_lt_two_pow (s_mk_lt S i)
      split
      · rename_i w; rw [Nat.testBit_two_pow_add_eq, z, w]; rfl
      · rename_i w; rw [z]; cases e : S i with
        | true => exact absurd e w
        | false => rfl
/-- what the search through the sets has found behind N sets -/
def s_inv (th : Int32) (D : Int32 → Prop) (N : Nat) (r : Int32 × Int32 × Int32) : Prop :=
  (r.1.toInt = th.toInt + 1 ∧ ∀ x, x < N → ¬ D (Int32.ofNat x)) ∨
  ((0 ≤ r.1.toInt ∧ r.1.toInt ≤ th.toInt ∧ ∀ x, x < N → D (Int32.ofNat x) → r.1.toInt ≤ (g_bc (Int32.ofNat x) 20 : Int)) ∧ (∃ x, x < N ∧ D (Int32.ofNat x) ∧ (g_bc (Int32.ofNat x) 20 : Int) = r.1.toInt) ∧
   ∀ i, i < 20 → (s_b r.2.1 i = true ↔ ∀ x, x < N → D (Int32.ofNat x) → (g_bc (Int32.ofNat x) 20 : Int) = r.1.toInt → s_b (Int32.ofNat x) i = true) ∧ (s_b r.2.2 i = true ↔ ∃ x, x < N ∧ D (Int32.ofNat x) ∧ (g_bc (Int32.ofNat x) 20 : Int) = r.1.toInt ∧ s_b (Int32.ofNat x) i = true))
theorem s_fold {th : Int32} {D : Int32 → Prop} (h0 : 0 ≤ th.toInt) (h12 : th.toInt ≤ 12) : ∀ N : Nat, N ≤ 4096 → (∀ x, x < N → (g_bc (Int32.ofNat x) 20 : Int) ≤ th.toInt) → s_inv th D N (f_sl th D N)
  | 0, _, _ => Or.inl ⟨by show (th + 1).toInt = _; exact (g_up h0 (by omega)).1, fun x hx => absurd hx (Nat.not_lt_zero _)⟩
  | N + 1, hN, hb => by
    have ih := s_fold (D := D) h0 h12 N (by omega) (fun x hx => hb x (by omega))
    have eN := f_ofn (n := N) (by omega)
    have c20 := g_bc_le (Int32.ofNat N) 20
    have er : (Int32.ofNat (g_bc (Int32.ofNat N) 20)).toInt = (g_bc (Int32.ofNat N) 20 : Int) := (f_ofn (by omega)).1
    have bN := hb N (by omega)
    have lt1 : ∀ {x}, x < N + 1 → x < N ∨ x = N := fun h => by omega
    by_cases hD : D (Int32.ofNat N)
    · rcases ih with ⟨i1, i2⟩ | ⟨⟨i0, i1, i2⟩, ⟨x0, i3, i4, i5⟩, i6⟩
      · -- the first that does
        have st := f_sl.lt (th := th) (D := D) (x := Int32.ofNat N) (by omega) er (Int32.lt_iff_toInt_lt.mpr (by rw [er, eN.2, i1]; omega)) hD
        rw [eN.2] at st
        rw [st]
        refine Or.inr ⟨⟨by show (0 : Int) ≤ (Int32.ofNat _).toInt; rw [er]; omega, by show (Int32.ofNat _).toInt ≤ _; rw [er]; exact bN, fun x hx hd => ?_⟩, ⟨N, by omega, hD, er.symm⟩, fun i hi => ⟨⟨fun h x hx hd _ => ?_, fun h => h N (by omega) hD er.symm⟩, ⟨fun h => ⟨N, by omega, hD, er.symm, h⟩, ?_⟩⟩⟩
        · rcases lt1 hx with q | q
          · exact absurd hd (i2 x q)
          · subst q; show (Int32.ofNat _).toInt ≤ _; rw [er]; exact Int.le_refl _
        · rcases lt1 hx with q | q
          · exact absurd hd (i2 x q)
          · subst q; exact h
        · rintro ⟨x, hx, hd, _, hs⟩
          rcases lt1 hx with q | q
          · exact absurd hd (i2 x q)
          · subst q; exact hs
      · rcases Int.lt_or_le (g_bc (Int32.ofNat N) 20 : Int) (f_sl th D N).1.toInt with lt | ge
        · have st := f_sl.lt (th := th) (D := D) (x := Int32.ofNat N) (by omega) er (Int32.lt_iff_toInt_lt.mpr (by rw [er, eN.2]; exact lt)) hD
          rw [eN.2] at st
          rw [st]
          have gt : ∀ x, x < N → D (Int32.ofNat x) → ¬ (g_bc (Int32.ofNat x) 20 : Int) = (Int32.ofNat (g_bc (Int32.ofNat N) 20)).toInt := fun x hx hd e => by
            have := i2 x hx hd
            rw [er] at e; omega
          refine Or.inr ⟨⟨by show (0 : Int) ≤ (Int32.ofNat _).toInt; rw [er]; omega, by show (Int32.ofNat _).toInt ≤ _; rw [er]; exact bN, fun x hx hd => ?_⟩, ⟨N, by omega, hD, er.symm⟩, fun i hi => ⟨⟨fun h x hx hd e => ?_, fun h => h N (by omega) hD er.symm⟩, ⟨fun h => ⟨N, by omega, hD, er.symm, h⟩, ?_⟩⟩⟩
          · rcases lt1 hx with q | q
            · have := i2 x q hd
              show (Int32.ofNat _).toInt ≤ _; rw [er]; omega
            · subst q; show (Int32.ofNat _).toInt ≤ _; rw [er]; exact Int.le_refl _
          · rcases lt1 hx with q | q
            · exact absurd e (gt x q hd)
            · subst q; exact h
          · rintro ⟨x, hx, hd, e, hs⟩
            rcases lt1 hx with q | q
            · exact absurd e (gt x q hd)
            · subst q; exact hs
        · rcases Int.lt_or_le (f_sl th D N).1.toInt (g_bc (Int32.ofNat N) 20 : Int) with gt | le
          · have st := f_sl.no (th := th) (D := D) (x := Int32.ofNat N) (by omega) er (fun q => by have := Int32.le_iff_toInt_le.mp q.1; rw [er, eN.2] at this; omega)
            rw [eN.2] at st
            rw [st]
            have ne : ¬ (g_bc (Int32.ofNat N) 20 : Int) = (f_sl th D N).1.toInt := by omega
            refine Or.inr ⟨⟨i0, i1, fun x hx hd => ?_⟩, ⟨x0, by omega, i4, i5⟩, fun i hi => ⟨⟨fun h x hx hd e => ?_, fun h => (i6 i hi).1.mpr (fun x hx hd e => h x (by omega) hd e)⟩, ⟨fun h => ?_, ?_⟩⟩⟩
            · rcases lt1 hx with q | q
              · exact i2 x q hd
              · subst q; omega
            · rcases lt1 hx with q | q
              · exact (i6 i hi).1.mp h x q hd e
              · subst q; exact absurd e ne
            · obtain ⟨x, a, b, c, d⟩ := (i6 i hi).2.mp h
              exact ⟨x, by omega, b, c, d⟩
            · rintro ⟨x, hx, hd, e, hs⟩
              rcases lt1 hx with q | q
              · exact (i6 i hi).2.mpr ⟨x, q, hd, e, hs⟩
              · subst q; exact absurd e ne
          · have eq : (g_bc (Int32.ofNat N) 20 : Int) = (f_sl th D N).1.toInt := by omega
            have st := f_sl.eq (th := th) (D := D) (x := Int32.ofNat N) (by omega) er (fun q => by have := Int32.lt_iff_toInt_lt.mp q; rw [er, eN.2] at this; omega) (Int32.le_iff_toInt_le.mpr (by rw [er, eN.2]; omega)) hD
            rw [eN.2] at st
            have e1 : Int32.ofNat (g_bc (Int32.ofNat N) 20) = (f_sl th D N).1 := Int32.toInt_inj.mp (by rw [er]; exact eq)
            rw [st, e1]
            refine Or.inr ⟨⟨i0, i1, fun x hx hd => ?_⟩, ⟨x0, by omega, i4, i5⟩, fun i hi => ⟨?_, ?_⟩⟩
            · rcases lt1 hx with q | q
              · exact i2 x q hd
              · subst q; exact ge
            · show s_b ((f_sl th D N).2.1 &&& Int32.ofNat N) i = true ↔ _
              rw [s_and, Bool.and_eq_true, (i6 i hi).1]
              constructor
              · rintro ⟨a, b⟩ x hx hd e
                rcases lt1 hx with q | q
                · exact a x q hd e
                · subst q; exact b
              · intro h
                exact ⟨fun x hx hd e => h x (by omega) hd e, h N (by omega) hD eq⟩
            · show s_b ((f_sl th D N).2.2 ||| Int32.ofNat N) i = true ↔ _
              rw [s_or, Bool.or_eq_true, (i6 i hi).2]
              constructor
              · rintro (⟨x, a, b, c, d⟩ | b)
                · exact ⟨x, by omega, b, c, d⟩
                · exact ⟨N, by omega, hD, eq, b⟩
              · rintro ⟨x, hx, hd, e, hs⟩
                rcases lt1 hx with q | q
                · exact Or.inl ⟨x, q, hd, e, hs⟩
                · subst q; exact Or.inr hs
    · have st := f_sl.no (th := th) (D := D) (x := Int32.ofNat N) (by omega) er (fun q => hD q.2)
      rw [eN.2] at st
      rw [st]
      have old : ∀ {x}, x < N + 1 → D (Int32.ofNat x) → x < N := fun {x} hx hd => by
        rcases lt1 hx with q | q
        · exact q
        · subst q; exact absurd hd hD
      rcases ih with ⟨i1, i2⟩ | ⟨⟨i0, i1, i2⟩, ⟨x0, i3, i4, i5⟩, i6⟩
      · exact Or.inl ⟨i1, fun x hx hd => i2 x (old hx hd) hd⟩
      · refine Or.inr ⟨⟨i0, i1, fun x hx hd => i2 x (old hx hd) hd⟩, ⟨x0, by omega, i4, i5⟩, fun i hi => ⟨⟨fun h x hx hd e => (i6 i hi).1.mp h x (old hx hd) hd e, fun h => (i6 i hi).1.mpr (fun x hx hd e => h x (by omega) hd e)⟩, ⟨fun h => ?_, ?_⟩⟩⟩
        · obtain ⟨x, a, b, c, d⟩ := (i6 i hi).2.mp h
          exact ⟨x, by omega, b, c, d⟩
        · rintro ⟨x, hx, hd, e, hs⟩
          exact (i6 i hi).2.mpr ⟨x, old hx hd, hd, e, hs⟩
/-- rows of the day in time's order and sets by the numbers' order: the class's word and the reference's are one -/
theorem k_word {R : Nat → Nat → Prop} {m L : Nat} {U W p : Nat → Nat} {th : Int32} {D : Int32 → Prop} (hm : m ≤ 12) (hth : th.toInt = m) (hp : k_pm p m) (ht : k_tr R m) (hu : k_up R k_z m U) (hw : k_dw R m W) (hL : L = 0 ∨ ∃ k, k < m ∧ U k = L) (hL2 : ∀ k, k < m → U k ≤ L)
    (hD : ∀ x, x < 2 ^ m → (D (Int32.ofNat x) ↔ ∀ i j, i < j → j < m → R i j ∨ x.testBit (p i) = true ∨ x.testBit (p j) = true)) :
    (f_sl th D (2 ^ m)).1.toInt = m - L ∧ ∀ k, k < m → f_by (f_sl th D (2 ^ m)).2.1 (f_sl th D (2 ^ m)).2.2 (Int32.ofNat (p k)) = @ite _ (k_sure U W L k) (Classical.propDecidable _) 2 (@ite _ (k_need U W m L k) (Classical.propDecidable _) 0 3) := by
  have p2 : 2 ^ m ≤ 4096 := Nat.pow_le_pow_right (n := 2) (by decide) hm
  have bc : ∀ x, x < 2 ^ m → g_bc (Int32.ofNat x) 20 = k_ct x.testBit m := fun x hx => s_cn hx (by omega)
  have fo := s_fold (th := th) (D := D) (by omega) (by omega) (2 ^ m) p2 (fun x hx => by rw [bc x hx, hth]; have := k_ct_m (S := x.testBit) m; omega)
  -- a set and the row that it leaves
  have toS : ∀ x, x < 2 ^ m → (D (Int32.ofNat x) ↔ k_ch R m (fun i => !x.testBit (p i))) := fun x hx => by
    rw [hD x hx]
    constructor
    · intro h i j a b c d
      rcases h i j a b with q | q | q
      · exact q
      · have c : (!x.testBit (p i)) = true := c
        rw [q] at c; cases c
      · have d : (!x.testBit (p j)) = true := d
        rw [q] at d; cases d
    · intro h i j a b
      cases c : x.testBit (p i) with
      | true => exact Or.inr (Or.inl rfl)
      | false => cases d : x.testBit (p j) with
        | true => exact Or.inr (Or.inr rfl)
        | false => exact Or.inl (h i j a b (by show (!x.testBit (p i)) = true; rw [c]; rfl) (by show (!x.testBit (p j)) = true; rw [d]; rfl))
  have ctS : ∀ x, x < 2 ^ m → k_ct (fun i => !x.testBit (p i)) m + k_ct x.testBit m = m := fun x hx => by
    have a := k_ct_neg (S := fun i => x.testBit (p i)) m
    have b := hp.ct x.testBit
    rw [b] at a; exact a
  have ofS : ∀ S : Nat → Bool, k_ch R m S → ∃ x, x < 2 ^ m ∧ D (Int32.ofNat x) ∧ (∀ i, i < m → x.testBit (p i) = !S i) ∧ k_ct S m + k_ct x.testBit m = m := fun S hS => by
    -- the number's place in the row
    have inv : ∃ q : Nat → Nat, ∀ i, i < m → q (p i) = i := by
      refine ⟨fun j => Classical.epsilon (fun i => i < m ∧ p i = j), fun i hi => ?_⟩
      have e := Classical.epsilon_spec (p := fun i' => i' < m ∧ p i' = p i) ⟨i, hi, rfl⟩
      exact hp.2.2 _ _ e.1 hi e.2
    obtain ⟨q, hq⟩ := inv
    have bit : ∀ i, i < m → (s_mk (fun j => !S (q j)) m).testBit (p i) = !S i := fun i hi => by
      rw [s_mk_b _ m (p i) (hp.1 i hi)]; show (!S (q (p i))) = _; rw [hq i hi]
    have lt := s_mk_lt (fun j => !S (q j)) m
    have cg : ∀ i, i < m → (fun i => !(s_mk (fun j => !S (q j)) m).testBit (p i)) i = S i := fun i hi => by
      show (!(s_mk (fun j => !S (q j)) m).testBit (p i)) = S i
      rw [bit i hi, Bool.not_not]
    refine ⟨_, lt, (toS _ lt).mpr (fun i j a b c d => hS i j a b ((cg i (by omega)).symm.trans c) ((cg j b).symm.trans d)), bit, ?_⟩
    rw [← k_ct_cg m cg]; exact ctS _ lt
  obtain ⟨S0, m0⟩ := k_mx.ex hu ht hL hL2
  obtain ⟨x0, x1, x2, x3, x4⟩ := ofS S0 m0.1
  have c0 := m0.2
  rcases fo with ⟨-, f2⟩ | ⟨⟨g0, g1, g2⟩, ⟨y0, y1, y2, y3⟩, g4⟩
  · exact absurd x2 (f2 x0 x1)
  · have h1 := g2 x0 x1 x2
    rw [bc x0 x1] at h1
    have h2 := hu.top ((toS y0 y1).mp y2) k_av.z hL2
    have h3 := ctS y0 y1
    rw [bc y0 y1] at y3
    have eF : (f_sl th D (2 ^ m)).1.toInt = m - L := by omega
    refine ⟨eF, fun k hk => ?_⟩
    have pk := hp.1 k hk
    have mxof : ∀ x, x < 2 ^ m → D (Int32.ofNat x) → (g_bc (Int32.ofNat x) 20 : Int) = (f_sl th D (2 ^ m)).1.toInt → k_mx R m L (fun i => !x.testBit (p i)) := fun x hx hd e => by
      refine ⟨(toS x hx).mp hd, ?_⟩
      have c := ctS x hx
      rw [bc x hx, eF] at e
      omega
    have ofmx : ∀ S, k_mx R m L S → ∃ x, x < 2 ^ m ∧ D (Int32.ofNat x) ∧ (g_bc (Int32.ofNat x) 20 : Int) = (f_sl th D (2 ^ m)).1.toInt ∧ ∀ i, i < m → x.testBit (p i) = !S i := fun S hS => by
      obtain ⟨x, a, b, c, d⟩ := ofS S hS.1
      refine ⟨x, a, b, ?_, c⟩
      have l := hS.2
      rw [bc x a, eF]; omega
    have sure : s_b (f_sl th D (2 ^ m)).2.1 (p k) = true ↔ k_sure U W L k := by
      rw [(g4 (p k) (by omega)).1, k_sure_iff hu hw ht hL2 hk]
      constructor
      · intro h S hS
        obtain ⟨x, a, b, c, d⟩ := ofmx S hS
        have e := h x a b c
        rw [s_of (by omega), d k hk] at e
        cases es : S k with
        | false => rfl
        | true => rw [es] at e; cases e
      · intro h x hx hd e
        have w := h _ (mxof x hx hd e)
        rw [s_of (by omega)]
        cases es : x.testBit (p k) with
        | true => rfl
        | false => have w : (!x.testBit (p k)) = false := w
                   rw [es] at w; cases w
    have maybe : s_b (f_sl th D (2 ^ m)).2.2 (p k) = true ↔ ¬ ∀ S, k_mx R m L S → S k = true := by
      rw [(g4 (p k) (by omega)).2]
      constructor
      · rintro ⟨x, hx, hd, e, hs⟩ h
        have w : (!x.testBit (p k)) = true := h _ (mxof x hx hd e)
        rw [s_of (by omega)] at hs
        rw [hs] at w; cases w
      · intro h
        refine Classical.byContradiction (fun no => h (fun S hS => ?_))
        obtain ⟨x, a, b, c, d⟩ := ofmx S hS
        cases es : S k with
        | true => rfl
        | false => exact absurd ⟨x, a, b, c, by rw [s_of (by omega), d k hk, es]; rfl⟩ no
    unfold f_by
    by_cases q : k_sure U W L k
    · rw [if_pos ((s_bit1 (by omega)).mpr (sure.mpr q)), if_pos q]
    · rw [if_neg (fun z => q (sure.mp ((s_bit1 (by omega)).mp z))), if_neg q]
      by_cases w : k_need U W m L k
      · have all := (k_need_iff hu hw ht hL2 hk q).mp w
        rw [if_neg (fun z => maybe.mp ((s_bit1 (by omega)).mp z) all), if_pos w]
      · have all : ¬ ∀ S, k_mx R m L S → S k = true := fun z => w ((k_need_iff hu hw ht hL2 hk q).mpr z)
        rw [if_pos ((s_bit1 (by omega)).mpr (maybe.mpr all)), if_neg w]
