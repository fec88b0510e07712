/-! shops given to buyers: sets of places, counts, sums -/
def j_n (S : Nat → Bool) (a : Nat → Nat) (x : Nat) : Nat → Nat
  | 0 => 0
  | n + 1 => j_n S a x n + if S n = true ∧ a n = x then 1 else 0
def j_s (S : Nat → Bool) (p : Nat → Int) : Nat → Int
  | 0 => 0
  | n + 1 => j_s S p n + if S n = true then p n else 0
def j_o (S : Nat → Bool) (k : Nat) : Nat → Bool := fun j => S j && !(j == k)
theorem j_o.t {S : Nat → Bool} {k j : Nat} : j_o S k j = true ↔ S j = true ∧ j ≠ k := by
  unfold j_o
  by_cases e : j = k
  · subst e
    have q : (j == j) = true := beq_self_eq_true j
    rw [q]
    exact ⟨fun z => by cases h : S j <;> rw [h] at z <;> exact absurd z (by decide), fun z => absurd rfl z.2⟩
  · have q : (j == k) = false := beq_eq_false_iff_ne.mpr e
    rw [q]
    exact ⟨fun z => ⟨by cases h : S j <;> rw [h] at z <;> first | rfl | exact absurd z (by decide), e⟩, fun z => by rw [z.1]; first | done | rfl⟩
theorem j_n.cg {S S' : Nat → Bool} {a a' : Nat → Nat} {x : Nat} : ∀ n : Nat, (∀ j, j < n → (S j = S' j ∧ (S j = true → a j = a' j))) → j_n S a x n = j_n S' a' x n
  | 0, _ => rfl
  | n + 1, h => by
    have ih := j_n.cg (x := x) n (fun j hj => h j (by omega))
    obtain ⟨h1, h2⟩ := h n (by omega)
    show j_n S a x n + (if S n = true ∧ a n = x then 1 else 0) = j_n S' a' x n + (if S' n = true ∧ a' n = x then 1 else 0)
    rw [ih, ← h1]
    by_cases q : S n = true
    · rw [← h2 q]
    · rw [if_neg (fun z => q z.1), if_neg (fun z => q z.1)]
theorem j_s.cg {S S' : Nat → Bool} {p p' : Nat → Int} : ∀ n : Nat, (∀ j, j < n → (S j = S' j ∧ (S j = true → p j = p' j))) → j_s S p n = j_s S' p' n
  | 0, _ => rfl
  | n + 1, h => by
    have ih := j_s.cg n (fun j hj => h j (by omega))
    obtain ⟨h1, h2⟩ := h n (by omega)
    show j_s S p n + (if S n = true then p n else 0) = j_s S' p' n + (if S' n = true then p' n else 0)
    rw [ih, ← h1]
    by_cases q : S n = true
    · rw [if_pos q, if_pos q, h2 q]
    · rw [if_neg q, if_neg q]
theorem j_o.far {S : Nat → Bool} {k n : Nat} (hn : n ≤ k) : ∀ j, j < n → j_o S k j = S j := fun j hj => by
  cases h : S j with
  | true => exact j_o.t.mpr ⟨h, by omega⟩
  | false =>
    cases g : j_o S k j with
    | true => exact absurd (h.symm.trans (j_o.t.mp g).1) (by decide)
    | false => rfl
theorem j_n.o {S : Nat → Bool} {a : Nat → Nat} {x k : Nat} (hS : S k = true) : ∀ n : Nat, k < n → j_n S a x n = j_n (j_o S k) a x n + (if a k = x then 1 else 0)
  | 0, h => absurd h (by omega)
  | n + 1, h => by
    show j_n S a x n + (if S n = true ∧ a n = x then 1 else 0) = (j_n (j_o S k) a x n + (if j_o S k n = true ∧ a n = x then 1 else 0)) + (if a k = x then 1 else 0)
    by_cases e : n = k
    · subst e
      rw [j_n.cg (S := j_o S n) (S' := S) (a' := a) n (fun j hj => ⟨j_o.far (Nat.le_refl n) j hj, fun _ => rfl⟩)]
      have f : ¬ (j_o S n n = true ∧ a n = x) := fun z => (j_o.t.mp z.1).2 rfl
      rw [if_neg f]
      by_cases q : a n = x
      · rw [if_pos ⟨hS, q⟩, if_pos q]
      · rw [if_neg (fun z => q z.2), if_neg q]
    · have ih := j_n.o (a := a) (x := x) hS n (by omega)
      rw [ih]
      by_cases q : S n = true ∧ a n = x
      · rw [if_pos q, if_pos (⟨j_o.t.mpr ⟨q.1, e⟩, q.2⟩ : j_o S k n = true ∧ a n = x)]; omega
      · rw [if_neg q, if_neg (fun z => q ⟨(j_o.t.mp z.1).1, z.2⟩ : ¬ (j_o S k n = true ∧ a n = x))]; omega
theorem j_s.o {S : Nat → Bool} {p : Nat → Int} {k : Nat} (hS : S k = true) : ∀ n : Nat, k < n → j_s S p n = j_s (j_o S k) p n + p k
  | 0, h => absurd h (by omega)
  | n + 1, h => by
    show j_s S p n + (if S n = true then p n else 0) = (j_s (j_o S k) p n + (if j_o S k n = true then p n else 0)) + p k
    by_cases e : n = k
    · subst e
      rw [j_s.cg (S := j_o S n) (S' := S) (p' := p) n (fun j hj => ⟨j_o.far (Nat.le_refl n) j hj, fun _ => rfl⟩)]
      have f : ¬ j_o S n n = true := fun z => (j_o.t.mp z).2 rfl
      rw [if_neg f, if_pos hS]; omega
    · have ih := j_s.o (p := p) hS n (by omega)
      rw [ih]
      by_cases q : S n = true
      · rw [if_pos q, if_pos (j_o.t.mpr ⟨q, e⟩)]; omega
      · rw [if_neg q, if_neg (fun z => q (j_o.t.mp z).1)]; omega
theorem j_n.ex {S : Nat → Bool} {a : Nat → Nat} {x : Nat} : ∀ n : Nat, 0 < j_n S a x n → ∃ k, k < n ∧ S k = true ∧ a k = x
  | 0, h => absurd h (Nat.lt_irrefl 0)
  | n + 1, h => by
    by_cases q : S n = true ∧ a n = x
    · exact ⟨n, by omega, q.1, q.2⟩
    · have h : 0 < j_n S a x n + (if S n = true ∧ a n = x then 1 else 0) := h
      rw [if_neg q] at h
      obtain ⟨k, k1, k2⟩ := j_n.ex n h
      exact ⟨k, by omega, k2⟩
theorem j_s.le {S : Nat → Bool} {p : Nat → Int} : ∀ n : Nat, (∀ j, j < n → S j = true → 0 ≤ p j ∧ p j ≤ 198) → 0 ≤ j_s S p n ∧ j_s S p n ≤ 198 * n
  | 0, _ => ⟨Int.le_refl _, by show (0 : Int) ≤ 198 * ((0 : Nat) : Int); omega⟩
  | n + 1, h => by
    have ih := j_s.le n (fun j hj => h j (by omega))
    show 0 ≤ j_s S p n + (if S n = true then p n else 0) ∧ j_s S p n + (if S n = true then p n else 0) ≤ 198 * ((n + 1 : Nat) : Int)
    by_cases q : S n = true
    · rw [if_pos q]
      have w := h n (by omega) q
      omega
    · rw [if_neg q]; omega
/-- what is left and what is right of a place -/
theorem j_s.cut {p : Nat → Int} {k : Nat} : ∀ n : Nat, j_s (fun _ => true) p n = j_s (fun j => decide (j < k)) p n + j_s (fun j => decide (k ≤ j)) p n
  | 0 => rfl
  | n + 1 => by
    have ih := j_s.cut (p := p) (k := k) n
    show j_s (fun _ => true) p n + p n = (j_s (fun j => decide (j < k)) p n + (if decide (n < k) = true then p n else 0)) + (j_s (fun j => decide (k ≤ j)) p n + (if decide (k ≤ n) = true then p n else 0))
    by_cases q : n < k
    · rw [if_pos (decide_eq_true q), if_neg (fun z => absurd (of_decide_eq_true z) (by omega))]; omega
    · rw [if_neg (fun z => q (of_decide_eq_true z)), if_pos (decide_eq_true (by omega : k ≤ n))]; omega
theorem j_n.cut {a : Nat → Nat} {x k : Nat} : ∀ n : Nat, j_n (fun _ => true) a x n = j_n (fun j => decide (j < k)) a x n + j_n (fun j => decide (k ≤ j)) a x n
  | 0 => rfl
  | n + 1 => by
    have ih := j_n.cut (a := a) (x := x) (k := k) n
    show j_n (fun _ => true) a x n + (if true = true ∧ a n = x then 1 else 0) = (j_n (fun j => decide (j < k)) a x n + (if decide (n < k) = true ∧ a n = x then 1 else 0)) + (j_n (fun j => decide (k ≤ j)) a x n + (if decide (k ≤ n) = true ∧ a n = x then 1 else 0))
    by_cases e : a n = x
    · by_cases q : n < k
      · rw [if_pos ⟨rfl, e⟩, if_pos ⟨decide_eq_true q, e⟩, if_neg (fun z => absurd (of_decide_eq_true z.1) (by omega))]; omega
      · rw [if_pos ⟨rfl, e⟩, if_neg (fun z => q (of_decide_eq_true z.1)), if_pos ⟨decide_eq_true (by omega : k ≤ n), e⟩]; omega
    · rw [if_neg (fun z => e z.2), if_neg (fun z => e z.2), if_neg (fun z => e z.2)]; omega
/-! ways to give, the least sum of them -/
def j_F (n : Nat) (ok : Nat → Nat → Prop) (S : Nat → Bool) (cap : Nat → Nat) (a : Nat → Nat) : Prop := (∀ j, j < n → S j = true → ok (a j) j) ∧ ∀ x, j_n S a x n ≤ cap x
def j_O (n : Nat) (ok : Nat → Nat → Prop) (P : Nat → Nat → Int) (NO : Int) (S : Nat → Bool) (cap : Nat → Nat) (v : Int) : Prop :=
  (0 ≤ v ∧ v ≤ NO) ∧ (v < NO → ∃ a, j_F n ok S cap a ∧ v = j_s S (fun j => P (a j) j) n) ∧ ∀ a, j_F n ok S cap a → v ≤ j_s S (fun j => P (a j) j) n
section JO
variable {n : Nat} {ok : Nat → Nat → Prop} {P : Nat → Nat → Int} {NO v w v0 : Int} {S S' : Nat → Bool} {cap cap' : Nat → Nat} {a : Nat → Nat} {b k B : Nat} {u q t sb : Nat → Int}
theorem j_F.cg (hS : ∀ j, j < n → S j = S' j) (h : j_F n ok S cap a) : j_F n ok S' cap a :=
  ⟨fun j hj s => h.1 j hj ((hS j hj).trans s), fun x => by rw [← j_n.cg (S := S) (a := a) n (fun j hj => ⟨hS j hj, fun _ => rfl⟩)]; exact h.2 x⟩
theorem j_O.cg (hS : ∀ j, j < n → S j = S' j) (h : j_O n ok P NO S cap v) : j_O n ok P NO S' cap v := by
  have e : ∀ p : Nat → Int, j_s S p n = j_s S' p n := fun p => j_s.cg n (fun j hj => ⟨hS j hj, fun _ => rfl⟩)
  refine ⟨h.1, fun z => ?_, fun a ha => ?_⟩
  · obtain ⟨a, a1, a2⟩ := h.2.1 z
    exact ⟨a, a1.cg hS, by rw [← e]; exact a2⟩
  · rw [← e]; exact h.2.2 a (ha.cg (fun j hj => (hS j hj).symm))
theorem j_F.put (h : j_F n ok (j_o S k) cap a) (hk : k < n) (hS : S k = true) (hb : ok b k) (hc : ∀ x, cap x + (if b = x then 1 else 0) ≤ cap' x) : j_F n ok S cap' (fun j => if j = k then b else a j) := by
  refine ⟨fun j hj s => ?_, fun x => ?_⟩
  · show ok (if j = k then b else a j) j
    by_cases e : j = k
    · rw [if_pos e, e]; exact hb
    · rw [if_neg e]; exact h.1 j hj (j_o.t.mpr ⟨s, e⟩)
  · have e1 : j_n (j_o S k) (fun j => if j = k then b else a j) x n = j_n (j_o S k) a x n := j_n.cg n (fun j _ => ⟨rfl, fun z => if_neg (j_o.t.mp z).2⟩)
    rw [j_n.o hS n hk, e1]
    show j_n (j_o S k) a x n + (if (if k = k then b else a k) = x then 1 else 0) ≤ cap' x
    rw [if_pos (rfl : k = k)]
    have := h.2 x
    have := hc x
    omega
theorem j_s.put (hk : k < n) (hS : S k = true) : j_s S (fun j => P (if j = k then b else a j) j) n = j_s (j_o S k) (fun j => P (a j) j) n + P b k := by
  rw [j_s.o hS n hk]
  have e1 : j_s (j_o S k) (fun j => P (if j = k then b else a j) j) n = j_s (j_o S k) (fun j => P (a j) j) n := j_s.cg n (fun j _ => ⟨rfl, fun z => by show P (if j = k then b else a j) j = P (a j) j; rw [if_neg (j_o.t.mp z).2]⟩)
  rw [e1]
  show _ + P (if k = k then b else a k) k = _
  rw [if_pos (rfl : k = k)]
theorem j_F.del (h : j_F n ok S cap' a) (hk : k < n) (hS : S k = true) (hc : ∀ x, cap' x ≤ cap x + (if a k = x then 1 else 0)) : j_F n ok (j_o S k) cap a := by
  refine ⟨fun j hj s => h.1 j hj (j_o.t.mp s).1, fun x => ?_⟩
  have e := j_n.o (a := a) (x := x) hS n hk
  have := h.2 x
  have := hc x
  omega
/-- one buyer more, once -/
theorem j_O.send (h0 : j_O n ok P NO S cap v0) (h1 : ∀ k, k < n → S k = true → j_O n ok P NO (j_o S k) cap (u k))
    (hq : ∀ k, k < n → 0 ≤ q k ∧ (ok b k → q k = P b k) ∧ (¬ ok b k → NO ≤ q k)) (hc : ∀ x, cap' x = cap x + if b = x then 1 else 0)
    (hA : w ≤ v0) (hB : ∀ k, k < n → S k = true → w ≤ u k + q k) (hC : w = v0 ∨ ∃ k, k < n ∧ S k = true ∧ w = u k + q k) : j_O n ok P NO S cap' w := by
  refine ⟨⟨?_, Int.le_trans hA h0.1.2⟩, fun z => ?_, fun a ha => ?_⟩
  · rcases hC with e | ⟨k, k1, k2, e⟩
    · rw [e]; exact h0.1.1
    · have a1 := (h1 k k1 k2).1.1
      have a2 := (hq k k1).1
      omega
  · rcases hC with e | ⟨k, k1, k2, e⟩
    · obtain ⟨a, a1, a2⟩ := h0.2.1 (by omega)
      exact ⟨a, ⟨a1.1, fun x => Nat.le_trans (a1.2 x) (by rw [hc]; omega)⟩, by rw [e]; exact a2⟩
    · have b1 := (h1 k k1 k2).1.1
      obtain ⟨b2, b3, b4⟩ := hq k k1
      have okb : ok b k := Classical.byContradiction fun y => by have := b4 y; omega
      obtain ⟨a, a1, a2⟩ := (h1 k k1 k2).2.1 (by omega)
      exact ⟨fun j => if j = k then b else a j, a1.put k1 k2 okb (fun x => by rw [hc]; exact Nat.le_refl _), by rw [j_s.put k1 k2, e, a2, b3 okb]⟩
  · by_cases c : j_n S a b n ≤ cap b
    · refine Int.le_trans hA (h0.2.2 a ⟨ha.1, fun x => ?_⟩)
      by_cases e : b = x
      · rw [← e]; exact c
      · have := ha.2 x
        rw [hc, if_neg e] at this
        exact this
    · obtain ⟨k, k1, k2, k3⟩ := j_n.ex (S := S) (a := a) (x := b) n (by omega)
      have okb : ok b k := by rw [← k3]; exact ha.1 k k1 k2
      have d := (h1 k k1 k2).2.2 a (ha.del k1 k2 (fun x => by rw [hc, k3]; exact Nat.le_refl _))
      have e := j_s.o (S := S) (p := fun j => P (a j) j) k2 n k1
      have e2 : P (a k) k = q k := by rw [k3, (hq k k1).2.1 okb]
      have e3 : (fun j => P (a j) j) k = P (a k) k := rfl
      rw [e, e2]
      have := hB k k1 k2
      omega
/-- the best for one shop, then for those behind -/
theorem j_O.pick (hk : k < n) (hS : S k = true) (hok : ∀ b j, ok b j → b < B ∧ 0 ≤ P b j ∧ P b j ≤ 198) (hN : 198 * (n + 1 : Int) < NO)
    (h : ∀ b, b < B → ok b k → 0 < cap b → j_O n ok P NO (j_o S k) (fun x => cap x - if b = x then 1 else 0) (t b) ∧ sb b = if t b = NO then NO else t b + P b k)
    (h2 : ∀ b, b < B → ¬ (ok b k ∧ 0 < cap b) → sb b = NO)
    (hA : w ≤ NO) (hB : ∀ b, b < B → w ≤ sb b) (hC : w = NO ∨ ∃ b, b < B ∧ w = sb b) : j_O n ok P NO S cap w := by
  have lim : ∀ (S : Nat → Bool) (a : Nat → Nat) (cap : Nat → Nat), j_F n ok S cap a → 0 ≤ j_s S (fun j => P (a j) j) n ∧ j_s S (fun j => P (a j) j) n ≤ 198 * n :=
    fun S a cap ha => j_s.le n (fun j hj s => (hok _ _ (ha.1 j hj s)).2)
  have good : ∀ b, b < B → sb b < NO → ok b k ∧ 0 < cap b ∧ t b < NO ∧ sb b = t b + P b k := fun b hb z => by
    have c : ok b k ∧ 0 < cap b := Classical.byContradiction fun y => by have := h2 b hb y; omega
    obtain ⟨g1, g2⟩ := h b hb c.1 c.2
    by_cases e : t b = NO
    · rw [if_pos e] at g2; omega
    · rw [if_neg e] at g2
      have := g1.1.2
      exact ⟨c.1, c.2, by omega, g2⟩
  have w0 : 0 ≤ w := by
    rcases hC with e | ⟨b, b1, e⟩
    · omega
    · by_cases z : sb b < NO
      · obtain ⟨g1, g2, g3, g4⟩ := good b b1 z
        have a1 := (h b b1 g1 g2).1.1.1
        have a2 := (hok b k g1).2.1
        omega
      · omega
  refine ⟨⟨w0, hA⟩, fun z => ?_, fun a ha => ?_⟩
  · rcases hC with e | ⟨b, b1, e⟩
    · omega
    · obtain ⟨g1, g2, g3, g4⟩ := good b b1 (by omega)
      obtain ⟨a, a1, a2⟩ := (h b b1 g1 g2).1.2.1 g3
      refine ⟨fun j => if j = k then b else a j, a1.put hk hS g1 (fun x => ?_), by rw [j_s.put hk hS, e, g4, a2]⟩
      show (cap x - if b = x then 1 else 0) + (if b = x then 1 else 0) ≤ cap x
      by_cases y : b = x
      · rw [if_pos y]; rw [← y]; omega
      · rw [if_neg y]; omega
  · have okb := ha.1 k hk hS
    have bd := hok _ _ okb
    have cp : 0 < cap (a k) := by
      have e := j_n.o (a := a) (x := a k) hS n hk
      have g := ha.2 (a k)
      rw [if_pos rfl] at e
      omega
    obtain ⟨g1, g2⟩ := h (a k) bd.1 okb cp
    have fd : j_F n ok (j_o S k) (fun x => cap x - if a k = x then 1 else 0) a := ha.del hk hS (fun x => by
      show cap x ≤ (cap x - if a k = x then 1 else 0) + (if a k = x then 1 else 0)
      by_cases y : a k = x
      · rw [if_pos y]; omega
      · rw [if_neg y]; omega)
    have d := g1.2.2 a fd
    have e := j_s.o (S := S) (p := fun j => P (a j) j) hS n hk
    have e3 : (fun j => P (a j) j) k = P (a k) k := rfl
    rw [e]
    have q := hB (a k) bd.1
    rw [g2] at q
    by_cases y : t (a k) = NO
    · rw [if_pos y] at q; omega
    · rw [if_neg y] at q; omega
end JO
/-! the first of the least -/
/-- the ways to give all of them -/
def j_A (n : Nat) (ok : Nat → Nat → Prop) (a : Nat → Nat) : Prop := j_F n ok (fun _ => true) (fun _ => 2) a
def j_pre (n : Nat) (g : Nat → Nat) (k x : Nat) : Nat := j_n (fun j => decide (j < k)) g x n
def j_G (n : Nat) (ok : Nat → Nat → Prop) (P : Nat → Nat → Int) (g : Nat → Nat) (k : Nat) (tot v : Int) : Prop :=
  (∀ j, j < k → ok (g j) j) ∧ tot = j_s (fun j => decide (j < k)) (fun j => P (g j) j) n + v ∧
  ∀ a, j_A n ok a → j_s (fun _ => true) (fun j => P (a j) j) n = tot → (∀ j, j < k → a j = g j) ∨ ∃ j, j < k ∧ (∀ i, i < j → a i = g i) ∧ g j < a j
section JG
variable {n : Nat} {ok : Nat → Nat → Prop} {P : Nat → Nat → Int} {NO v tot : Int} {g g' : Nat → Nat} {b k B : Nat} {t sb : Nat → Int}
theorem j_G.none : j_G n ok P g 0 v v := by
  refine ⟨fun j hj => absurd hj (by omega), ?_, fun a _ _ => Or.inl (fun j hj => absurd hj (by omega))⟩
  have e : ∀ (p : Nat → Int) (m : Nat), j_s (fun j => decide (j < 0)) p m = 0 := fun p m => by
    induction m with
    | zero => rfl
    | succ m ih =>
      show j_s (fun j => decide (j < 0)) p m + (if decide (m < 0) = true then p m else 0) = 0
      rw [if_neg (fun z => absurd (of_decide_eq_true z) (by omega)), ih]; rfl
  rw [e]; omega
theorem j_pre.up (hk : k < n) (hg : ∀ j, j < k → g' j = g j) (hb : g' k = b) (x : Nat) : j_pre n g' (k + 1) x = j_pre n g k x + if b = x then 1 else 0 := by
  unfold j_pre
  have s : (fun j => decide (j < k + 1)) k = true := decide_eq_true (by omega : k < k + 1)
  rw [j_n.o (S := fun j => decide (j < k + 1)) (k := k) s n hk, hb]
  have e : j_n (j_o (fun j => decide (j < k + 1)) k) g' x n = j_n (fun j => decide (j < k)) g x n := j_n.cg n (fun j _ => by
    refine ⟨?_, fun z => hg j ?_⟩
    · by_cases q : j < k
      · rw [decide_eq_true q]; exact j_o.t.mpr ⟨decide_eq_true (by omega : j < k + 1), by omega⟩
      · rw [decide_eq_false q]
        cases h : j_o (fun j => decide (j < k + 1)) k j with
        | false => rfl
        | true =>
          have w := j_o.t.mp h
          have w1 : j < k + 1 := of_decide_eq_true w.1
          exact absurd w1 (by have := w.2; omega)
    · have w := j_o.t.mp z
      have w1 : j < k + 1 := of_decide_eq_true w.1
      have := w.2
      omega)
  rw [e]
theorem j_s.up {p p' : Nat → Int} (hk : k < n) (hg : ∀ j, j < k → p' j = p j) : j_s (fun j => decide (j < k + 1)) p' n = j_s (fun j => decide (j < k)) p n + p' k := by
  have s : (fun j => decide (j < k + 1)) k = true := decide_eq_true (by omega : k < k + 1)
  rw [j_s.o (S := fun j => decide (j < k + 1)) (k := k) s n hk]
  have e : j_s (j_o (fun j => decide (j < k + 1)) k) p' n = j_s (fun j => decide (j < k)) p n := j_s.cg n (fun j _ => by
    refine ⟨?_, fun z => hg j ?_⟩
    · by_cases q : j < k
      · rw [decide_eq_true q]; exact j_o.t.mpr ⟨decide_eq_true (by omega : j < k + 1), by omega⟩
      · rw [decide_eq_false q]
        cases h : j_o (fun j => decide (j < k + 1)) k j with
        | false => rfl
        | true =>
          have w := j_o.t.mp h
          have w1 : j < k + 1 := of_decide_eq_true w.1
          exact absurd w1 (by have := w.2; omega)
    · have w := j_o.t.mp z
      have w1 : j < k + 1 := of_decide_eq_true w.1
      have := w.2
      omega)
  rw [e]
theorem j_o.suf {j : Nat} : j_o (fun j => decide (k ≤ j)) k j = decide (k + 1 ≤ j) := by
  by_cases q : k + 1 ≤ j
  · rw [decide_eq_true q]; exact j_o.t.mpr ⟨decide_eq_true (by omega : k ≤ j), by omega⟩
  · rw [decide_eq_false q]
    cases h : j_o (fun j => decide (k ≤ j)) k j with
    | false => rfl
    | true =>
      have w := j_o.t.mp h
      have w1 : k ≤ j := of_decide_eq_true w.1
      exact absurd w1 (by have := w.2; omega)
/-- the first buyer with the least sum is taken -/
theorem j_G.go (h : j_G n ok P g k tot v) (hk : k < n) (hok : ∀ b j, ok b j → b < B ∧ 0 ≤ P b j ∧ P b j ≤ 198) (hN : 198 * (n + 1 : Int) < NO)
    (ht : ∀ b, b < B → ok b k → 0 < 2 - j_pre n g k b → j_O n ok P NO (fun j => decide (k + 1 ≤ j)) (fun x => (2 - j_pre n g k x) - if b = x then 1 else 0) (t b) ∧ sb b = if t b = NO then NO else t b + P b k)
    (h2 : ∀ b, b < B → ¬ (ok b k ∧ 0 < 2 - j_pre n g k b) → sb b = NO) (hv : v < NO) (hw : ∀ b, b < B → v ≤ sb b)
    (hb : b < B) (e : sb b = v) (first : ∀ c, c < b → sb c ≠ v) (hg : ∀ j, j < k → g' j = g j) (hg2 : g' k = b) :
    j_G n ok P g' (k + 1) tot (t b) ∧ ok b k ∧ j_pre n g k b < 2 ∧ t b < NO := by
  obtain ⟨h1, h2', h3⟩ := h
  have c : ok b k ∧ 0 < 2 - j_pre n g k b := Classical.byContradiction fun y => by have := h2 b hb y; omega
  obtain ⟨g1, g2⟩ := ht b hb c.1 c.2
  have tn : t b ≠ NO := fun y => by rw [if_pos y] at g2; omega
  rw [if_neg tn] at g2
  have tl := g1.1.2
  refine ⟨⟨fun j hj => ?_, ?_, fun a ha sa => ?_⟩, c.1, by omega, by omega⟩
  · by_cases q : j = k
    · rw [q, hg2]; exact c.1
    · rw [hg j (by omega)]; exact h1 j (by omega)
  · rw [j_s.up (p := fun j => P (g j) j) (p' := fun j => P (g' j) j) hk (fun j hj => by show P (g' j) j = P (g j) j; rw [hg j hj])]
    show tot = _ + P (g' k) k + t b
    rw [hg2]; omega
  · rcases h3 a ha sa with q | ⟨j, j1, j2, j3⟩
    · -- the same so far
      have okc := ha.1 k hk rfl
      have bd := hok _ _ okc
      have pre : ∀ x, j_n (fun j => decide (j < k)) a x n = j_pre n g k x := fun x => j_n.cg n (fun j _ => ⟨rfl, fun z => q j (of_decide_eq_true z)⟩)
      have suf := fun x => j_n.cut (a := a) (x := x) (k := k) n
      have s : (fun j => decide (k ≤ j)) k = true := decide_eq_true (Nat.le_refl k)
      have so := fun x => j_n.o (S := fun j => decide (k ≤ j)) (a := a) (x := x) s n hk
      have eqn : ∀ x, j_n (fun j => decide (k + 1 ≤ j)) a x n = j_n (j_o (fun j => decide (k ≤ j)) k) a x n := fun x => j_n.cg n (fun j _ => ⟨j_o.suf.symm, fun _ => rfl⟩)
      have cp : 0 < 2 - j_pre n g k (a k) := by
        have w1 : j_n (fun _ => true) a (a k) n ≤ 2 := ha.2 (a k)
        have w2 := suf (a k)
        have w3 := so (a k)
        have w4 := pre (a k)
        rw [if_pos rfl] at w3
        omega
      obtain ⟨f1, f2⟩ := ht (a k) bd.1 okc cp
      have fa : j_F n ok (fun j => decide (k + 1 ≤ j)) (fun x => (2 - j_pre n g k x) - if a k = x then 1 else 0) a := by
        refine ⟨fun j hj _ => ha.1 j hj rfl, fun x => ?_⟩
        have w1 : j_n (fun _ => true) a x n ≤ 2 := ha.2 x
        have w2 := suf x
        have w3 := so x
        have w4 := pre x
        rw [eqn x]
        show _ ≤ (2 - j_pre n g k x) - if a k = x then 1 else 0
        by_cases y : a k = x
        · rw [if_pos y] at w3 ⊢; omega
        · rw [if_neg y] at w3 ⊢; omega
      have d := f1.2.2 a fa
      have lim := j_s.le (S := fun j => decide (k + 1 ≤ j)) (p := fun j => P (a j) j) n (fun j hj s => (hok _ _ (fa.1 j hj s)).2)
      have tn2 : t (a k) ≠ NO := fun y => by omega
      rw [if_neg tn2] at f2
      have ps := j_s.cut (p := fun j => P (a j) j) (k := k) n
      have pe : j_s (fun j => decide (j < k)) (fun j => P (a j) j) n = j_s (fun j => decide (j < k)) (fun j => P (g j) j) n := j_s.cg n (fun j _ => ⟨rfl, fun z => by show P (a j) j = P (g j) j; rw [q j (of_decide_eq_true z)]⟩)
      have po := j_s.o (S := fun j => decide (k ≤ j)) (p := fun j => P (a j) j) s n hk
      have pf : j_s (j_o (fun j => decide (k ≤ j)) k) (fun j => P (a j) j) n = j_s (fun j => decide (k + 1 ≤ j)) (fun j => P (a j) j) n := j_s.cg n (fun j _ => ⟨j_o.suf, fun _ => rfl⟩)
      have pk : (fun j => P (a j) j) k = P (a k) k := rfl
      have w := hw (a k) bd.1
      have ev : sb (a k) = v := by omega
      have le : b ≤ a k := by
        rcases Nat.lt_or_ge (a k) b with z | z
        · exact absurd ev (first _ z)
        · exact z
      by_cases y : a k = b
      · refine Or.inl (fun j hj => ?_)
        by_cases z : j = k
        · rw [z, hg2]; exact y
        · rw [hg j (by omega)]; exact q j (by omega)
      · exact Or.inr ⟨k, by omega, fun i hi => by rw [hg i hi]; exact q i hi, by rw [hg2]; omega⟩
    · exact Or.inr ⟨j, by omega, fun i hi => by rw [hg i (by omega)]; exact j2 i hi, by rw [hg j j1]; exact j3⟩
end JG
