/-! the class's rows of lengths, as they are worked out -/
def t_pu (R : Nat → Nat → Prop) (O f : Nat → Int32) (x n : Nat) : Prop := (¬ O x = 0 → f x = 0) ∧ (O x = 0 → (1 ≤ (f x).toInt ∧ (f x).toInt ≤ n + 1) ∧ (∀ j, j < n → O j = 0 → R j x → (f j).toInt + 1 ≤ (f x).toInt) ∧ ((f x).toInt = 1 ∨ ∃ j, j < n ∧ O j = 0 ∧ R j x ∧ (f x).toInt = (f j).toInt + 1))
def t_ua (R : Nat → Nat → Prop) (O f : Nat → Int32) (m : Nat) : Prop := ∀ x, x < m → t_pu R O f x x
theorem t_pu.cg {R : Nat → Nat → Prop} {O f g : Nat → Int32} {x n : Nat} (h : t_pu R O f x n) (hx : g x = f x) (hj : ∀ j, j < n → g j = f j) : t_pu R O g x n := by
  refine ⟨fun q => by rw [hx]; exact h.1 q, fun q => ?_⟩
  obtain ⟨h1, h2, h3⟩ := h.2 q
  rw [hx]
  refine ⟨h1, fun j a b c => by rw [hj j a]; exact h2 j a b c, h3.elim Or.inl (fun ⟨j, a, b, c, d⟩ => Or.inr ⟨j, a, b, c, by rw [hj j a]; exact d⟩)⟩
theorem t_ua.nil {R : Nat → Nat → Prop} {O f : Nat → Int32} : t_ua R O f 0 := fun _ h => absurd h (Nat.not_lt_zero _)
theorem t_ua.put {R : Nat → Nat → Prop} {O f : Nat → Int32} {x : Nat} {z : Int32} (h : t_ua R O f x) : t_ua R O (upd f x z) x := fun i hi => (h i hi).cg (pk_un (by omega)) (fun j hj => pk_un (by omega))
theorem t_ua.up {R : Nat → Nat → Prop} {O f : Nat → Int32} {x : Nat} (h : t_ua R O f x) (hx : t_pu R O f x x) : t_ua R O f (x + 1) := fun i hi => by
  rcases Nat.lt_or_ge i x with q | q
  · exact h i q
  · have e : i = x := by omega
    subst e; exact hx
theorem t_ua.le {R : Nat → Nat → Prop} {O f : Nat → Int32} {m x : Nat} (h : t_ua R O f m) (hx : x < m) : 0 ≤ (f x).toInt ∧ (f x).toInt ≤ x + 1 := by
  by_cases q : O x = 0
  · have w := ((h x hx).2 q).1; omega
  · rw [(h x hx).1 q]; exact ⟨by decide, by have : (0 : Int32).toInt = 0 := rfl; omega⟩
theorem t_pu.in1 {R : Nat → Nat → Prop} {O f : Nat → Int32} {x : Nat} (q : O x = 0) : t_pu R O (upd f x 1) x 0 := by
  refine ⟨fun z => absurd q z, fun _ => ?_⟩
  rw [pk_us]
  exact ⟨by decide, fun j a => absurd a (Nat.not_lt_zero _), Or.inl rfl⟩
theorem t_pu.in0 {R : Nat → Nat → Prop} {O f : Nat → Int32} {x n : Nat} (q : ¬ O x = 0) : t_pu R O (upd f x 0) x n := ⟨fun _ => pk_us, fun z => absurd z q⟩
theorem t_pu.out {R : Nat → Nat → Prop} {O f : Nat → Int32} {x n m : Nat} (h : t_pu R O f x n) (q : ¬ O x = 0) : t_pu R O f x m := ⟨h.1, fun z => absurd z q⟩
theorem t_pu.no {R : Nat → Nat → Prop} {O f : Nat → Int32} {x n : Nat} (h : t_pu R O f x n) (q : O n = 0 → R n x → (f n).toInt + 1 ≤ (f x).toInt) : t_pu R O f x (n + 1) := by
  refine ⟨h.1, fun z => ?_⟩
  obtain ⟨h1, h2, h3⟩ := h.2 z
  refine ⟨by omega, fun j a b c => ?_, h3.elim Or.inl (fun ⟨j, a, b, c, d⟩ => Or.inr ⟨j, by omega, b, c, d⟩)⟩
  rcases Nat.lt_or_ge j n with w | w
  · exact h2 j w b c
  · have e : j = n := by omega
    subst e; exact q b c
theorem t_pu.yes {R : Nat → Nat → Prop} {O f : Nat → Int32} {x n : Nat} {z : Int32} (h : t_pu R O f x n) (hx : O x = 0) (hn : n < x) (hb : 0 ≤ (f n).toInt ∧ (f n).toInt ≤ n + 1) (ho : O n = 0) (hr : R n x) (hl : (f x).toInt ≤ (f n).toInt) (hz : z.toInt = (f n).toInt + 1) : t_pu R O (upd f x z) x (n + 1) := by
  refine ⟨fun q => absurd hx q, fun q => ?_⟩
  obtain ⟨h1, h2, h3⟩ := h.2 q
  rw [pk_us]
  refine ⟨by omega, fun j a b c => ?_, Or.inr ⟨n, by omega, ho, hr, by rw [pk_un (by omega)]; exact hz⟩⟩
  rw [pk_un (by omega)]
  rcases Nat.lt_or_ge j n with w | w
  · have := h2 j w b c; omega
  · have e : j = n := by omega
    subst e; omega
/-- the greatest of the first -/
def t_mx (f : Nat → Int32) (z : Int32) (n : Nat) : Prop := 0 ≤ z.toInt ∧ (∀ i, i < n → (f i).toInt ≤ z.toInt) ∧ (z.toInt = 0 ∨ ∃ i, i < n ∧ (f i).toInt = z.toInt)
theorem t_mx.nil {f : Nat → Int32} : t_mx f 0 0 := ⟨by decide, fun _ h => absurd h (Nat.not_lt_zero _), Or.inl rfl⟩
theorem t_mx.put {f : Nat → Int32} {z y : Int32} {n : Nat} (h : t_mx f z n) : t_mx (upd f n y) z n := ⟨h.1, fun i hi => by rw [pk_un (by omega)]; exact h.2.1 i hi, h.2.2.elim Or.inl (fun ⟨i, a, b⟩ => Or.inr ⟨i, a, by rw [pk_un (by omega)]; exact b⟩)⟩
theorem t_mx.up {f : Nat → Int32} {z r : Int32} {n : Nat} (h : t_mx f z n) (hr : r = if z < f n then f n else z) : t_mx f r (n + 1) := by
  by_cases q : z < f n
  · rw [if_pos q] at hr; subst hr
    have w := Int32.lt_iff_toInt_lt.mp q
    have h0 := h.1
    refine ⟨by omega, fun i hi => ?_, Or.inr ⟨n, by omega, rfl⟩⟩
    rcases Nat.lt_or_ge i n with z | z
    · have := h.2.1 i z; omega
    · have e : i = n := by omega
      subst e; exact Int.le_refl _
  · rw [if_neg q] at hr; subst hr
    have w : ¬ r.toInt < (f n).toInt := fun z => q (Int32.lt_iff_toInt_lt.mpr z)
    refine ⟨h.1, fun i hi => ?_, h.2.2.elim Or.inl (fun ⟨i, a, b⟩ => Or.inr ⟨i, by omega, b⟩)⟩
    rcases Nat.lt_or_ge i n with z | z
    · exact h.2.1 i z
    · have e : i = n := by omega
      subst e; omega
/-- from behind -/
def t_pd (R : Nat → Nat → Prop) (f : Nat → Int32) (m x n : Nat) : Prop := (1 ≤ (f x).toInt ∧ (f x).toInt ≤ (m : Int) - x) ∧ (∀ j, x < j → j < n → R x j → (f j).toInt + 1 ≤ (f x).toInt) ∧ ((f x).toInt = 1 ∨ ∃ j, x < j ∧ j < n ∧ R x j ∧ (f x).toInt = (f j).toInt + 1)
def t_da (R : Nat → Nat → Prop) (f : Nat → Int32) (m x : Nat) : Prop := ∀ i, x ≤ i → i < m → t_pd R f m i m
theorem t_pd.cg {R : Nat → Nat → Prop} {f g : Nat → Int32} {m x n : Nat} (h : t_pd R f m x n) (hx : g x = f x) (hj : ∀ j, x < j → j < n → g j = f j) : t_pd R g m x n := by
  obtain ⟨h1, h2, h3⟩ := h
  unfold t_pd; rw [hx]
  exact ⟨h1, fun j a b c => by rw [hj j a b]; exact h2 j a b c, h3.elim Or.inl (fun ⟨j, a, b, c, d⟩ => Or.inr ⟨j, a, b, c, by rw [hj j a b]; exact d⟩)⟩
theorem t_da.nil {R : Nat → Nat → Prop} {f : Nat → Int32} {m : Nat} : t_da R f m m := fun i a b => absurd b (by omega)
theorem t_da.put {R : Nat → Nat → Prop} {f : Nat → Int32} {m x : Nat} {z : Int32} (h : t_da R f m (x + 1)) : t_da R (upd f x z) m (x + 1) := fun i a b => (h i a b).cg (pk_un (by omega)) (fun j c d => pk_un (by omega))
theorem t_da.dn {R : Nat → Nat → Prop} {f : Nat → Int32} {m x : Nat} (h : t_da R f m (x + 1)) (hx : t_pd R f m x m) : t_da R f m x := fun i a b => by
  rcases Nat.lt_or_ge x i with q | q
  · exact h i q b
  · have e : i = x := by omega
    subst e; exact hx
theorem t_pd.in1 {R : Nat → Nat → Prop} {f : Nat → Int32} {m x : Nat} (hx : x < m) : t_pd R (upd f x 1) m x (x + 1) := by
  unfold t_pd; rw [pk_us]
  have e : (1 : Int32).toInt = 1 := rfl
  exact ⟨by omega, fun j a b => absurd b (by omega), Or.inl rfl⟩
theorem t_pd.no {R : Nat → Nat → Prop} {f : Nat → Int32} {m x n : Nat} (h : t_pd R f m x n) (q : R x n → (f n).toInt + 1 ≤ (f x).toInt) : t_pd R f m x (n + 1) := by
  obtain ⟨h1, h2, h3⟩ := h
  refine ⟨h1, fun j a b c => ?_, h3.elim Or.inl (fun ⟨j, a, b, c, d⟩ => Or.inr ⟨j, a, by omega, c, d⟩)⟩
  rcases Nat.lt_or_ge j n with w | w
  · exact h2 j a w c
  · have e : j = n := by omega
    subst e; exact q c
theorem t_pd.yes {R : Nat → Nat → Prop} {f : Nat → Int32} {m x n : Nat} {z : Int32} (h : t_pd R f m x n) (hn : x < n) (hb : 1 ≤ (f n).toInt ∧ (f n).toInt ≤ (m : Int) - n) (hr : R x n) (hl : (f x).toInt ≤ (f n).toInt) (hz : z.toInt = (f n).toInt + 1) : t_pd R (upd f x z) m x (n + 1) := by
  obtain ⟨h1, h2, h3⟩ := h
  unfold t_pd; rw [pk_us]
  refine ⟨by omega, fun j a b c => ?_, Or.inr ⟨n, hn, by omega, hr, by rw [pk_un (by omega)]; exact hz⟩⟩
  rw [pk_un (by omega)]
  rcases Nat.lt_or_ge j n with w | w
  · have := h2 j a w c; omega
  · have e : j = n := by omega
    subst e; omega
/-- as the chains want them -/
def t_U (f : Nat → Int32) (i : Nat) : Nat := (f i).toInt.toNat
theorem t_ua.k {R : Nat → Nat → Prop} {O f : Nat → Int32} {m : Nat} (h : t_ua R O f m) (hO : ∀ i, i < m → O i = 0) : k_up R k_z m (t_U f) := fun x hx => by
  refine ⟨fun z => absurd (show false = true from z) (by decide), fun _ => ?_⟩
  obtain ⟨h1, h2, h3⟩ := (h x hx).2 (hO x hx)
  unfold t_U
  refine ⟨by omega, fun j a _ c => ?_, ?_⟩
  · have := h2 j a (hO j (by omega)) c; have := h.le (x := j) (by omega); omega
  · rcases h3 with q | ⟨j, a, b, c, d⟩
    · exact Or.inl (by omega)
    · have := h.le (x := j) (by omega)
      exact Or.inr ⟨j, a, rfl, c, by omega⟩
theorem t_da.k {R : Nat → Nat → Prop} {f : Nat → Int32} {m : Nat} (h : t_da R f m 0) : k_dw R m (t_U f) := fun x hx => by
  obtain ⟨h1, h2, h3⟩ := h x (Nat.zero_le _) hx
  unfold t_U
  refine ⟨by omega, fun j a b c => ?_, ?_⟩
  · have := h2 j a b c; have := (h j (Nat.zero_le _) b).1; omega
  · rcases h3 with q | ⟨j, a, b, c, d⟩
    · exact Or.inl (by omega)
    · have := (h j (Nat.zero_le _) b).1
      exact Or.inr ⟨j, a, b, c, by omega⟩
theorem t_mx.k {f : Nat → Int32} {z : Int32} {m : Nat} (h : t_mx f z m) : (z.toInt.toNat = 0 ∨ ∃ i, i < m ∧ t_U f i = z.toInt.toNat) ∧ ∀ i, i < m → t_U f i ≤ z.toInt.toNat := by
  obtain ⟨h0, h1, h2⟩ := h
  unfold t_U
  exact ⟨h2.elim (fun q => Or.inl (by omega)) (fun ⟨i, a, b⟩ => Or.inr ⟨i, a, by rw [b]⟩), fun i hi => by have := h1 i hi; omega⟩
/-- no other one of that length stands in a longest row -/
def t_nd (f g : Nat → Int32) (m x : Nat) (y : Int32) : Prop := ∀ j, j < m → j ≠ x → f j = f x → ¬ f j + g j - 1 = y
theorem t_nd.nil {f g : Nat → Int32} {x : Nat} {y : Int32} : t_nd f g 0 x y := fun _ h => absurd h (Nat.not_lt_zero _)
theorem t_nd.up {f g : Nat → Int32} {m x : Nat} {y : Int32} (h : t_nd f g m x y) (q : m ≠ x → f m = f x → ¬ f m + g m - 1 = y) : t_nd f g (m + 1) x y := fun j a b c => by
  rcases Nat.lt_or_ge j m with w | w
  · exact h j w b c
  · have e : j = m := by omega
    subst e; exact q b c
