/-! a tape cut into tokens -/
def x_bl (c : Int32) : Prop := c = 10 ∨ c = 32
def x_le (c : Int32) : Prop := 97 ≤ c ∧ c ≤ 122
def x_di (c : Int32) : Prop := 48 ≤ c ∧ c ≤ 57
/-- a run of signs from i to j -/
def x_run (P : Int32 → Prop) (f : Nat → Int32) (n i j : Nat) : Prop := (i ≤ j ∧ (j ≤ i ∨ j ≤ n)) ∧ (∀ l, i ≤ l → l < j → P (f l)) ∧ (n ≤ j ∨ ¬ P (f j))
theorem x_run.eq {P : Int32 → Prop} {f : Nat → Int32} {n i j j' : Nat} (h : x_run P f n i j) (g : x_run P f n i j') : j = j' := by
  rcases Nat.lt_trichotomy j j' with q | q | q
  · have a := g.2.1 j h.1.1 q
    rcases h.2.2 with w | w
    · have := h.1; have := g.1; omega
    · exact absurd a w
  · exact q
  · have a := h.2.1 j' g.1.1 q
    rcases g.2.2 with w | w
    · have := h.1; have := g.1; omega
    · exact absurd a w
theorem x_run.ex (P : Int32 → Prop) (f : Nat → Int32) (n : Nat) : ∀ d i : Nat, n ≤ i + d → ∃ j, x_run P f n i j
  | 0, i, h => ⟨i, ⟨Nat.le_refl _, Or.inl (Nat.le_refl _)⟩, fun l a b => absurd b (by omega), Or.inl (by omega)⟩
  | d + 1, i, h => by
    by_cases q : n ≤ i
    · exact ⟨i, ⟨Nat.le_refl _, Or.inl (Nat.le_refl _)⟩, fun l a b => absurd b (by omega), Or.inl q⟩
    · by_cases w : P (f i)
      · obtain ⟨j, j1, j2, j3⟩ := x_run.ex P f n d (i + 1) (by omega)
        refine ⟨j, ⟨by omega, Or.inr (by omega)⟩, fun l a b => ?_, j3⟩
        by_cases e : l = i
        · rw [e]; exact w
        · exact j2 l (by omega) b
      · exact ⟨i, ⟨Nat.le_refl _, Or.inl (Nat.le_refl _)⟩, fun l a b => absurd b (by omega), Or.inr w⟩
noncomputable def x_to (P : Int32 → Prop) (f : Nat → Int32) (n i : Nat) : Nat := Classical.epsilon (x_run P f n i)
theorem x_to.run (P : Int32 → Prop) (f : Nat → Int32) (n i : Nat) : x_run P f n i (x_to P f n i) := by
  obtain ⟨j, hj⟩ := x_run.ex P f n n i (by omega)
  exact Classical.epsilon_spec ⟨j, hj⟩
theorem x_to.eq {P : Int32 → Prop} {f : Nat → Int32} {n i j : Nat} (h : x_run P f n i j) : x_to P f n i = j := (x_to.run P f n i).eq h
/-- a token's end -/
noncomputable def x_E (f : Nat → Int32) (n p : Nat) : Nat := @ite _ (n ≤ p) (Classical.propDecidable _) p (@ite _ (x_le (f p)) (Classical.propDecidable _) (x_to x_le f n p) (@ite _ (x_di (f p)) (Classical.propDecidable _) (x_to x_di f n p) (p + 1)))
/-- where the i-th begins -/
noncomputable def x_T (f : Nat → Int32) (n : Nat) : Nat → Nat
  | 0 => x_to x_bl f n 0
  | i + 1 => x_to x_bl f n (x_E f n (x_T f n i))
section XT
variable {f : Nat → Int32} {n p i : Nat}
theorem x_E.end (h : n ≤ p) : x_E f n p = p := by unfold x_E; rw [if_pos h]
theorem x_E.le (h : p < n) (q : x_le (f p)) : x_E f n p = x_to x_le f n p := by unfold x_E; rw [if_neg (by omega), if_pos q]
theorem x_E.di (h : p < n) (q : ¬ x_le (f p)) (r : x_di (f p)) : x_E f n p = x_to x_di f n p := by unfold x_E; rw [if_neg (by omega), if_neg q, if_pos r]
theorem x_E.one (h : p < n) (q : ¬ x_le (f p)) (r : ¬ x_di (f p)) : x_E f n p = p + 1 := by unfold x_E; rw [if_neg (by omega), if_neg q, if_neg r]
theorem x_E.bd (h : p ≤ n) : p ≤ x_E f n p ∧ x_E f n p ≤ n ∧ (p < n → p < x_E f n p) := by
  by_cases e : n ≤ p
  · rw [x_E.end e]; omega
  · by_cases q : x_le (f p)
    · rw [x_E.le (by omega) q]
      obtain ⟨a, b, c⟩ := x_to.run x_le f n p
      refine ⟨a.1, by omega, fun _ => ?_⟩
      rcases Nat.lt_or_ge p (x_to x_le f n p) with z | z
      · exact z
      · have e : x_to x_le f n p = p := by omega
        rw [e] at c
        exact absurd q (c.resolve_left (by omega))
    · by_cases r : x_di (f p)
      · rw [x_E.di (by omega) q r]
        obtain ⟨a, b, c⟩ := x_to.run x_di f n p
        refine ⟨a.1, by omega, fun _ => ?_⟩
        rcases Nat.lt_or_ge p (x_to x_di f n p) with z | z
        · exact z
        · have e : x_to x_di f n p = p := by omega
          rw [e] at c
          exact absurd r (c.resolve_left (by omega))
      · rw [x_E.one (by omega) q r]; omega
theorem x_T.bd : ∀ i : Nat, x_T f n i ≤ n
  | 0 => by
    have a := (x_to.run x_bl f n 0).1
    show x_to x_bl f n 0 ≤ n
    omega
  | i + 1 => by
    have ih := x_T.bd i
    have e := (x_E.bd (f := f) ih).2.1
    have a := (x_to.run x_bl f n (x_E f n (x_T f n i))).1
    show x_to x_bl f n (x_E f n (x_T f n i)) ≤ n
    omega
end XT
/-! words: letters, the last one first -/
def x_ls (f : Nat → Int32) (p : Nat) : Nat → List Int32
  | 0 => []
  | d + 1 => f (p + d) :: x_ls f p d
def x_all (l : List Int32) : Prop := ∀ c ∈ l, x_le c
theorem x_ls.len {f : Nat → Int32} {p : Nat} : ∀ d : Nat, (x_ls f p d).length = d
  | 0 => rfl
  | d + 1 => by show (x_ls f p d).length + 1 = _; rw [x_ls.len d]
theorem x_ls.all {f : Nat → Int32} {p : Nat} : ∀ d : Nat, (∀ l, p ≤ l → l < p + d → x_le (f l)) → x_all (x_ls f p d)
  | 0, _ => fun c h => by cases h
  | d + 1, h => fun c hc => by
    rcases List.mem_cons.mp hc with e | e
    · rw [e]; exact h _ (by omega) (by omega)
    · exact x_ls.all d (fun l a b => h l a (by omega)) c e
/-- as a number, by a base -/
def x_nb (b s : Nat) : List Int32 → Nat
  | [] => 0
  | c :: l => b * x_nb b s l + (c.toInt.toNat - s)
theorem x_nb.inj {b s : Nat} (hs : s < 97) (hb : 122 < b + s) : ∀ l l' : List Int32, x_all l → x_all l' → x_nb b s l = x_nb b s l' → l = l'
  | [], [], _, _, _ => rfl
  | [], c :: l, _, h, e => by
    have q := h c List.mem_cons_self
    have a : 97 ≤ c.toInt := Int32.le_iff_toInt_le.mp q.1
    have e : 0 = b * x_nb b s l + (c.toInt.toNat - s) := e
    omega
  | c :: l, [], h, _, e => by
    have q := h c List.mem_cons_self
    have a : 97 ≤ c.toInt := Int32.le_iff_toInt_le.mp q.1
    have e : b * x_nb b s l + (c.toInt.toNat - s) = 0 := e
    omega
  | c :: l, c' :: l', h, h', e => by
    have q := h c List.mem_cons_self
    have q' := h' c' List.mem_cons_self
    have a1 : 97 ≤ c.toInt := Int32.le_iff_toInt_le.mp q.1
    have a2 : c.toInt ≤ 122 := Int32.le_iff_toInt_le.mp q.2
    have b1 : 97 ≤ c'.toInt := Int32.le_iff_toInt_le.mp q'.1
    have b2 : c'.toInt ≤ 122 := Int32.le_iff_toInt_le.mp q'.2
    have e : b * x_nb b s l + (c.toInt.toNat - s) = b * x_nb b s l' + (c'.toInt.toNat - s) := e
    have m1 : (b * x_nb b s l + (c.toInt.toNat - s)) % b = c.toInt.toNat - s := by
      rw [Nat.add_comm, Nat.add_mul_mod_self_left, Nat.mod_eq_of_lt (by omega)]
    have m2 : (b * x_nb b s l' + (c'.toInt.toNat - s)) % b = c'.toInt.toNat - s := by
      rw [Nat.add_comm, Nat.add_mul_mod_self_left, Nat.mod_eq_of_lt (by omega)]
    rw [e, m2] at m1
    have ec : c = c' := Int32.toInt_inj.mp (by omega)
    subst ec
    have e2 : b * x_nb b s l = b * x_nb b s l' := by omega
    have e3 := Nat.eq_of_mul_eq_mul_left (by omega) e2
    rw [x_nb.inj hs hb l l' (fun z hz => h z (List.mem_cons_of_mem _ hz)) (fun z hz => h' z (List.mem_cons_of_mem _ hz)) e3]
theorem x_nb.lt {b s : Nat} (hs : s < 97) (hb : 122 < b + s) : ∀ l : List Int32, x_all l → x_nb b s l < b ^ l.length
  | [], _ => by show 0 < b ^ 0; rw [Nat.pow_zero]; omega
  | c :: l, h => by
    have ih := x_nb.lt hs hb l (fun z hz => h z (List.mem_cons_of_mem _ hz))
    have q := h c List.mem_cons_self
    have a2 : c.toInt ≤ 122 := Int32.le_iff_toInt_le.mp q.2
    show b * x_nb b s l + (c.toInt.toNat - s) < b ^ (l.length + 1)
    rw [Nat.pow_succ]
    have m : b * (x_nb b s l + 1) ≤ b * b ^ l.length := Nat.mul_le_mul_left b ih
    rw [Nat.mul_add] at m
    rw [Nat.mul_comm (b ^ l.length) b]
    omega
theorem x_ls.s {f : Nat → Int32} {p q : Nat} (h : p ≤ q) : x_ls f p (q + 1 - p) = f q :: x_ls f p (q - p) := by
  rw [show q + 1 - p = (q - p) + 1 by omega]
  show f (p + (q - p)) :: _ = _
  rw [show p + (q - p) = q by omega]
theorem zL_us {f : Nat → Int64} {k : Nat} {x : Int64} : vp_updL f k x k = x := if_pos rfl
theorem zL_un {f : Nat → Int64} {k j : Nat} {x : Int64} (h : j ≠ k) : vp_updL f k x j = f j := if_neg h
