/-! the reading of briefs by the reference -/
def g_tk (so pl : Nat → Int32) (N : Int) : Prop := ∃ n : Nat, N = n ∧ n ≤ 1000 ∧ so n = 0 ∧ ∀ i : Nat, i ≤ n → 0 ≤ (pl i).toInt ∧ (pl i).toInt ≤ 1000
theorem g_tk.N {so pl : Nat → Int32} {N : Int} (h : g_tk so pl N) : 0 ≤ N ∧ N ≤ 1000 := by
  obtain ⟨n, e, h1, -⟩ := h
  omega
theorem g_tk.lt {so pl : Nat → Int32} {N : Int} (h : g_tk so pl N) {a : Int32} (h0 : 0 ≤ a.toInt) (h1 : a.toInt ≤ N) (h2 : so a.toNatClampNeg ≠ 0) : a.toInt < N := by
  obtain ⟨n, e, h3, h4, -⟩ := h
  have c := g_clamp a
  by_cases q : a.toInt = N
  · exact absurd h4 (by rw [show n = a.toNatClampNeg by omega]; exact h2)
  · omega
theorem g_tk.pl {so pl : Nat → Int32} {N : Int} (h : g_tk so pl N) {a : Int32} (h0 : 0 ≤ a.toInt) (h1 : a.toInt ≤ N) : 0 ≤ (pl a.toNatClampNeg).toInt ∧ (pl a.toNatClampNeg).toInt ≤ 1000 := by
  obtain ⟨n, e, h3, h4, h5⟩ := h
  have c := g_clamp a
  exact h5 _ (by omega)
theorem g_lc {x y : Int64} : lg_cmp x y = 0 ↔ x = y := by
  unfold lg_cmp
  constructor
  · intro h
    split at h
    · exact absurd h (by decide)
    · split at h
      · assumption
      · exact absurd h (by decide)
  · intro h
    subst h
    rw [if_neg (Int64.lt_irrefl), if_pos rfl]
def g_isS (f : Int32) (so : Nat → Int32) (va : Nat → Int64) (a x : Int32) : Prop := f = 0 ∧ so a.toNatClampNeg = 3 ∧ va a.toNatClampNeg = x.toInt64
def g_isW (f : Int32) (so : Nat → Int32) (va : Nat → Int64) (a : Int32) (w : Nat → Int64) (x : Int32) : Prop := f = 0 ∧ so a.toNatClampNeg = 1 ∧ va a.toNatClampNeg = w x.toNatClampNeg
def g_isN (f : Int32) (so : Nat → Int32) (va : Nat → Int64) (a : Int32) (w : Nat → Int64) (k : Nat) : Prop := f = 0 ∧ so a.toNatClampNeg = 1 ∧ ∀ j, j < k → va a.toNatClampNeg ≠ w j
theorem g_isN.w {f : Int32} {so : Nat → Int32} {va : Nat → Int64} {a : Int32} {w : Nat → Int64} {k : Nat} (h : g_isN f so va a w (k + 1)) : g_isN f so va a w k := ⟨h.1, h.2.1, fun j hj => h.2.2 j (by omega)⟩
theorem g_isN.s {f : Int32} {so : Nat → Int32} {va : Nat → Int64} {a : Int32} {w : Nat → Int64} {k : Nat} (h : g_isN f so va a w k) (hk : va a.toNatClampNeg ≠ w k) : g_isN f so va a w (k + 1) := ⟨h.1, h.2.1, fun j hj => by
  by_cases e : j = k
  · subst e; exact hk
  · exact h.2.2 j (by omega)⟩
/-- n steps of code from p, the pile going from h to h' -/
def g_st (o e : Nat → Int32) : Nat → Nat → Nat → Nat → Prop
  | 0, _, h, h' => h = h'
  | n + 1, p, h, h' => ((1 ≤ o p ∧ o p ≤ 4) ∧ (o p = 2 → 0 ≤ e p ∧ e p < 6) ∧ (o p = 3 → 0 ≤ e p ∧ e p < 8) ∧ g_st o e n (p + 1) (h + 1) h')
      ∨ (o p = 5 ∧ 1 ≤ h ∧ g_st o e n (p + 1) h h')
      ∨ (6 ≤ o p ∧ 2 ≤ h ∧ g_st o e n (p + 1) (h - 1) h')
theorem g_st_app {o e : Nat → Int32} {m h1 h2 : Nat} : ∀ {n p h : Nat}, g_st o e n p h h1 → g_st o e m (p + n) h1 h2 → g_st o e (n + m) p h h2
  | 0, p, h, a, b => by
    have a : h = h1 := a
    subst a
    rw [Nat.zero_add]; exact b
  | n + 1, p, h, a, b => by
    rw [show n + 1 + m = (n + m) + 1 by omega]
    rw [show p + (n + 1) = p + 1 + n by omega] at b
    rcases a with ⟨a1, a2, a3, a4⟩ | ⟨a1, a2, a4⟩ | ⟨a1, a2, a4⟩
    · exact Or.inl ⟨a1, a2, a3, g_st_app a4 b⟩
    · exact Or.inr (Or.inl ⟨a1, a2, g_st_app a4 b⟩)
    · exact Or.inr (Or.inr ⟨a1, a2, g_st_app a4 b⟩)
theorem g_st_up {o e : Nat → Int32} (d : Nat) : ∀ {n p h h' : Nat}, g_st o e n p h h' → g_st o e n p (h + d) (h' + d)
  | 0, p, h, h', a => by
    have a : h = h' := a
    subst a; rfl
  | n + 1, p, h, h', a => by
    rcases a with ⟨a1, a2, a3, a4⟩ | ⟨a1, a2, a4⟩ | ⟨a1, a2, a4⟩
    · refine Or.inl ⟨a1, a2, a3, ?_⟩
      have := g_st_up d a4
      rw [show h + d + 1 = h + 1 + d by omega]; exact this
    · exact Or.inr (Or.inl ⟨a1, by omega, g_st_up d a4⟩)
    · refine Or.inr (Or.inr ⟨a1, by omega, ?_⟩)
      have := g_st_up d a4
      rw [show h + d - 1 = h - 1 + d by omega]; exact this
theorem g_st_cg {o e o' e' : Nat → Int32} : ∀ {n p h h' : Nat}, (∀ i, p ≤ i → i < p + n → o' i = o i ∧ e' i = e i) → g_st o e n p h h' → g_st o' e' n p h h'
  | 0, p, h, h', _, a => a
  | n + 1, p, h, h', q, a => by
    have q0 := q p (Nat.le_refl _) (by omega)
    have q1 : ∀ i, p + 1 ≤ i → i < p + 1 + n → o' i = o i ∧ e' i = e i := fun i i1 i2 => q i (by omega) (by omega)
    unfold g_st
    rw [q0.1, q0.2]
    rcases a with ⟨a1, a2, a3, a4⟩ | ⟨a1, a2, a4⟩ | ⟨a1, a2, a4⟩
    · exact Or.inl ⟨a1, a2, a3, g_st_cg q1 a4⟩
    · exact Or.inr (Or.inl ⟨a1, a2, g_st_cg q1 a4⟩)
    · exact Or.inr (Or.inr ⟨a1, a2, g_st_cg q1 a4⟩)
theorem g_gc_of {o e : Nat → Int32} {h' : Nat} (h1 : 1 ≤ h') : ∀ {n p h : Nat}, g_st o e n p h h' → o (p + n) = 0 → g_gc o e n p h
  | 0, p, h, a, b => by
    have a : h = h' := a
    subst a
    exact ⟨b, h1⟩
  | n + 1, p, h, a, b => by
    rw [show p + (n + 1) = p + 1 + n by omega] at b
    rcases a with ⟨a1, a2, a3, a4⟩ | ⟨a1, a2, a4⟩ | ⟨a1, a2, a4⟩
    · exact Or.inl ⟨a1, a2, a3, g_gc_of h1 a4 b⟩
    · exact Or.inr (Or.inl ⟨a1, a2, g_gc_of h1 a4 b⟩)
    · exact Or.inr (Or.inr ⟨a1, a2, g_gc_of h1 a4 b⟩)
/-- the same code at another place -/
theorem g_gc_sh {o e o' e' : Nat → Int32} : ∀ {n p p' h : Nat}, (∀ i, i ≤ n → o' (p' + i) = o (p + i) ∧ e' (p' + i) = e (p + i)) → g_gc o e n p h → g_gc o' e' n p' h
  | 0, p, p', h, q, a => by
    have q0 := q 0 (Nat.le_refl _)
    exact ⟨q0.1.trans a.1, a.2⟩
  | n + 1, p, p', h, q, a => by
    have q0 : o' p' = o p ∧ e' p' = e p := q 0 (Nat.zero_le _)
    have q1 : ∀ i, i ≤ n → o' (p' + 1 + i) = o (p + 1 + i) ∧ e' (p' + 1 + i) = e (p + 1 + i) := fun i i1 => by
      have := q (i + 1) (by omega)
      rw [show p' + 1 + i = p' + (i + 1) by omega, show p + 1 + i = p + (i + 1) by omega]; exact this
    unfold g_gc
    rw [q0.1, q0.2]
    rcases a with ⟨a1, a2, a3, a4⟩ | ⟨a1, a2, a4⟩ | ⟨a1, a2, a4⟩
    · exact Or.inl ⟨a1, a2, a3, g_gc_sh q1 a4⟩
    · exact Or.inr (Or.inl ⟨a1, a2, g_gc_sh q1 a4⟩)
    · exact Or.inr (Or.inr ⟨a1, a2, g_gc_sh q1 a4⟩)
/-- what reading does: place of the token, fault, how much code, the code; k more codes than tokens, the pile going from h to h' if there is no fault -/
def g_E (k : Int) (h h' : Nat) (a f c : Int32) (o e : Nat → Int32) (a' f' c' : Int32) (o' e' : Nat → Int32) : Prop :=
  (a.toInt ≤ a'.toInt ∧ 0 ≤ f'.toInt ∧ c.toInt ≤ c'.toInt ∧ c'.toInt - a'.toInt ≤ c.toInt - a.toInt + k) ∧ (f' = 0 → f = 0) ∧
  (∀ i, i < 19200 + c.toNatClampNeg → o' i = o i ∧ e' i = e i) ∧ (f' = 0 → ∃ n, c'.toNatClampNeg = c.toNatClampNeg + n ∧ g_st o' e' n (19200 + c.toNatClampNeg) h h')
section GE
variable {k k1 k2 N : Int} {h h1 h2 h' : Nat} {a f c a' f' c' a2 f2 c2 : Int32} {o e o' e' o2 e2 : Nat → Int32}
theorem g_E.rf (hf : 0 ≤ f.toInt) : g_E 0 h h a f c o e a f c o e := ⟨⟨by omega, hf, by omega, by omega⟩, fun q => q, fun _ _ => ⟨rfl, rfl⟩, fun _ => ⟨0, rfl, rfl⟩⟩
theorem g_E.trans (x : g_E k1 h h1 a f c o e a' f' c' o' e') (y : g_E k2 h1 h2 a' f' c' o' e' a2 f2 c2 o2 e2) : g_E (k1 + k2) h h2 a f c o e a2 f2 c2 o2 e2 := by
  obtain ⟨⟨x1, x2, x3, x4⟩, x5, x6, x7⟩ := x
  obtain ⟨⟨y1, y2, y3, y4⟩, y5, y6, y7⟩ := y
  have ec := g_clamp c
  have ec' := g_clamp c'
  refine ⟨⟨by omega, y2, by omega, by omega⟩, fun q => x5 (y5 q), fun i hi => ?_, fun q => ?_⟩
  · have p := y6 i (by omega)
    have r := x6 i hi
    exact ⟨p.1.trans r.1, p.2.trans r.2⟩
  · obtain ⟨n, n1, n2⟩ := x7 (y5 q)
    obtain ⟨m, m1, m2⟩ := y7 q
    refine ⟨n + m, by omega, g_st_app (g_st_cg (fun i i1 i2 => y6 i (by omega)) n2) ?_⟩
    rw [show 19200 + c.toNatClampNeg + n = 19200 + c'.toNatClampNeg by omega]; exact m2
theorem g_E.up (d : Nat) (x : g_E k h h' a f c o e a' f' c' o' e') : g_E k (h + d) (h' + d) a f c o e a' f' c' o' e' := ⟨x.1, x.2.1, x.2.2.1, fun q => by
  obtain ⟨n, n1, n2⟩ := x.2.2.2 q
  exact ⟨n, n1, g_st_up d n2⟩⟩
theorem g_E.wk (x : g_E k1 h h' a f c o e a' f' c' o' e') (hk : k1 ≤ k2) : g_E k2 h h' a f c o e a' f' c' o' e' := ⟨⟨x.1.1, x.1.2.1, x.1.2.2.1, by have := x.1.2.2.2; omega⟩, x.2⟩
theorem g_E.bad (x : g_E k h h1 a f c o e a' f' c' o' e') (hf : f' ≠ 0) : g_E k h h2 a f c o e a' f' c' o' e' := ⟨x.1, x.2.1, x.2.2.1, fun q => absurd q hf⟩
theorem g_E.wr (x : g_E k h h1 a f c o e a' f' c' o' e') (hf : 1 ≤ f2.toInt) : g_E k h h2 a f c o e a' f2 c' o' e' := by
  have ne : f2 ≠ 0 := fun q => by rw [q] at hf; exact absurd hf (by decide)
  exact ⟨⟨x.1.1, by omega, x.1.2.2⟩, fun q => absurd q ne, x.2.2.1, fun q => absurd q ne⟩
theorem g_E.tok (hf : 0 ≤ f.toInt) (h0 : 0 ≤ a.toInt ∧ a.toInt < 1000) (ha : a' = a + 1) : g_E (-1) h h a f c o e a' f c o e := by
  have u := (g_up h0.1 (by omega)).1
  subst ha
  exact ⟨⟨by omega, hf, by omega, by omega⟩, fun q => q, fun _ _ => ⟨rfl, rfl⟩, fun _ => ⟨0, rfl, rfl⟩⟩
def g_mv (N : Int) (a f a' f' : Int32) : Prop := a.toInt ≤ a'.toInt ∧ a'.toInt ≤ N ∧ 0 ≤ f'.toInt ∧ (f' = 0 → f = 0)
theorem g_E.mv (x : g_mv N a f a' f') : g_E 0 h h a f c o e a' f' c o e := ⟨⟨x.1, x.2.2.1, by omega, by have := x.1; omega⟩, x.2.2.2, fun _ _ => ⟨rfl, rfl⟩, fun _ => ⟨0, rfl, rfl⟩⟩
theorem g_E.emit {x y : Int32} (hf : 0 ≤ f.toInt) (hc : 0 ≤ c.toInt ∧ c.toInt < 1200) (e1 : c' = c + 1) (e2 : o' = upd o (19200 + c.toNatClampNeg) x) (e3 : e' = upd e (19200 + c.toNatClampNeg) y) (hs : g_st o' e' 1 (19200 + c.toNatClampNeg) h h') : g_E 1 h h' a f c o e a f c' o' e' := by
  have u := g_up hc.1 (by omega)
  subst e1
  refine ⟨⟨by omega, hf, by omega, by omega⟩, fun q => q, fun i hi => ?_, fun _ => ⟨1, by rw [u.2], hs⟩⟩
  subst e2 e3
  exact ⟨pk_un (by omega), pk_un (by omega)⟩
theorem g_E.push {x y : Int32} (hf : 0 ≤ f.toInt) (hc : 0 ≤ c.toInt ∧ c.toInt < 1200) (e1 : c' = c + 1) (e2 : o' = upd o (19200 + c.toNatClampNeg) x) (e3 : e' = upd e (19200 + c.toNatClampNeg) y) (hx : 1 ≤ x ∧ x ≤ 4) (h2 : x = 2 → 0 ≤ y ∧ y < 6) (h3 : x = 3 → 0 ≤ y ∧ y < 8) : g_E 1 h (h + 1) a f c o e a f c' o' e' := by
  refine g_E.emit hf hc e1 e2 e3 ?_
  have a1 : o' (19200 + c.toNatClampNeg) = x := by rw [e2, pk_us]
  have a2 : e' (19200 + c.toNatClampNeg) = y := by rw [e3, pk_us]
  unfold g_st
  rw [a1, a2]
  exact Or.inl ⟨hx, h2, h3, rfl⟩
theorem g_E.nt {x y : Int32} (hf : 0 ≤ f.toInt) (hc : 0 ≤ c.toInt ∧ c.toInt < 1200) (e1 : c' = c + 1) (e2 : o' = upd o (19200 + c.toNatClampNeg) x) (e3 : e' = upd e (19200 + c.toNatClampNeg) y) (hx : x = 5) (hh : 1 ≤ h) : g_E 1 h h a f c o e a f c' o' e' := by
  refine g_E.emit hf hc e1 e2 e3 ?_
  have a1 : o' (19200 + c.toNatClampNeg) = x := by rw [e2, pk_us]
  unfold g_st
  rw [a1]
  exact Or.inr (Or.inl ⟨hx, hh, rfl⟩)
theorem g_E.bin {x y : Int32} (hf : 0 ≤ f.toInt) (hc : 0 ≤ c.toInt ∧ c.toInt < 1200) (e1 : c' = c + 1) (e2 : o' = upd o (19200 + c.toNatClampNeg) x) (e3 : e' = upd e (19200 + c.toNatClampNeg) y) (hx : 6 ≤ x) (hh : 2 ≤ h) : g_E 1 h (h - 1) a f c o e a f c' o' e' := by
  refine g_E.emit hf hc e1 e2 e3 ?_
  have a1 : o' (19200 + c.toNatClampNeg) = x := by rw [e2, pk_us]
  unfold g_st
  rw [a1]
  exact Or.inr (Or.inr ⟨hx, hh, rfl⟩)
/-- a whole E, with its end -/
def g_R (r a f c : Int32) (o e : Nat → Int32) (a' f' c' : Int32) (o' e' : Nat → Int32) : Prop :=
  (a.toInt ≤ a'.toInt ∧ 0 ≤ f'.toInt ∧ c.toInt < c'.toInt ∧ c'.toInt - a'.toInt ≤ c.toInt - a.toInt + 1) ∧ (f' = 0 → f = 0) ∧
  (∀ i, i < 19200 + c.toNatClampNeg → o' i = o i ∧ e' i = e i) ∧ r.toInt = 19200 + c.toInt ∧ (f' = 0 → ∃ n, c'.toNatClampNeg = c.toNatClampNeg + n + 1 ∧ g_gc o' e' n (19200 + c.toNatClampNeg) 0)
theorem g_R.of {r y : Int32} (x : g_E 0 0 1 a f c o e a' f' c' o' e') (h0 : 0 ≤ c.toInt ∧ c'.toInt < 1200) (hr : r = 19200 + c) (e1 : c2 = c' + 1) (w2 : o2 = upd o' (19200 + c'.toNatClampNeg) 0) (w3 : e2 = upd e' (19200 + c'.toNatClampNeg) y) : g_R r a f c o e a' f' c2 o2 e2 := by
  obtain ⟨⟨x1, x2, x3, x4⟩, x5, x6, x7⟩ := x
  have ec := g_clamp c
  have ec' := g_clamp c'
  have u := g_up (i := c') (by omega) (by omega)
  have er : ((19200 : Int32) + c).toInt = 19200 + c.toInt := g_add (x := 19200) (y := c) (by show _ ≤ 19200 + c.toInt; omega) (by show 19200 + c.toInt < _; omega)
  subst e1 hr
  have kp : ∀ i, i < 19200 + c'.toNatClampNeg → o2 i = o' i ∧ e2 i = e' i := fun i hi => by
    subst w2 w3
    exact ⟨pk_un (by omega), pk_un (by omega)⟩
  refine ⟨⟨x1, x2, by omega, by omega⟩, x5, fun i hi => ?_, er, fun q => ?_⟩
  · have p := kp i (by omega)
    have r := x6 i hi
    exact ⟨p.1.trans r.1, p.2.trans r.2⟩
  · obtain ⟨n, n1, n2⟩ := x7 q
    refine ⟨n, by omega, g_gc_of (Nat.le_refl 1) (g_st_cg (fun i i1 i2 => kp i (by omega)) n2) ?_⟩
    rw [show 19200 + c.toNatClampNeg + n = 19200 + c'.toNatClampNeg by omega, w2, pk_us]
end GE
