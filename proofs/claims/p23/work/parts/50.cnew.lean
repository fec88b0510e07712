/-! objects that are made -/
theorem IC.newP {E : qE} {u : qS} (h : IC E u) {q : Nat} {x y : Int32} : (IC E (qsX u (u.2.2.2.2 ++ [(q, .inr (4, [.int x, .int y]))])) ∧ qFc [] [] [] [] u (qsX u (u.2.2.2.2 ++ [(q, .inr (4, [.int x, .int y]))]))) ∧ qRf (qsX u (u.2.2.2.2 ++ [(q, .inr (4, [.int x, .int y]))])) q 4 := by
  have hap := h.app (L := [(q, .inr (4, [.int x, .int y]))]) (fun k a c fs hk => by
    match k, hk with
    | 0, hk =>
      injection hk with hk; injection hk with h1 h2; injection h2 with h2; injection h2 with h3 h4
      subst h3 h4
      exact ⟨fun q => absurd q (by decide), fun q => absurd q (by decide), fun _ => ⟨x, y, rfl⟩, fun q => absurd q (by decide)⟩)
  exact ⟨⟨hap.1, hap.2 _ _ _ _⟩, u.2.2.2.2.length, [.int x, .int y], by show (u.2.2.2.2 ++ _)[_]? = _; rw [List.getElem?_append_right (Nat.le_refl _), Nat.sub_self]; rfl⟩
theorem IC.newS {E : qE} {u : qS} (h : IC E u) {q p : Nat} {x y c o d r : Int32} : (IC E (qsX u (u.2.2.2.2 ++ [(q, .inr (7, [.ref p, .int c, .int o, .int d, .int r])), (p, .inr (4, [.int x, .int y]))])) ∧ qFc [] [] [] [] u (qsX u (u.2.2.2.2 ++ [(q, .inr (7, [.ref p, .int c, .int o, .int d, .int r])), (p, .inr (4, [.int x, .int y]))]))) ∧ qRf (qsX u (u.2.2.2.2 ++ [(q, .inr (7, [.ref p, .int c, .int o, .int d, .int r])), (p, .inr (4, [.int x, .int y]))])) q 7 := by
  have hp : qRf (qsX u (u.2.2.2.2 ++ [(q, .inr (7, [.ref p, .int c, .int o, .int d, .int r])), (p, .inr (4, [.int x, .int y]))])) p 4 := ⟨u.2.2.2.2.length + 1, [.int x, .int y], by show (u.2.2.2.2 ++ _)[_]? = _; rw [List.getElem?_append_right (by omega), Nat.add_sub_cancel_left]; rfl⟩
  have hap := h.app (L := [(q, .inr (7, [.ref p, .int c, .int o, .int d, .int r])), (p, .inr (4, [.int x, .int y]))]) (fun k a c' fs hk => by
    match k, hk with
    | 0, hk =>
      injection hk with hk; injection hk with h1 h2; injection h2 with h2; injection h2 with h3 h4
      subst h3 h4
      exact ⟨fun q => absurd q (by decide), fun _ => ⟨p, c, o, d, r, rfl, hp⟩, fun q => absurd q (by decide), fun q => absurd q (by decide)⟩
    | 1, hk =>
      injection hk with hk; injection hk with h1 h2; injection h2 with h2; injection h2 with h3 h4
      subst h3 h4
      exact ⟨fun q => absurd q (by decide), fun q => absurd q (by decide), fun _ => ⟨x, y, rfl⟩, fun q => absurd q (by decide)⟩)
  exact ⟨⟨hap.1, hap.2 _ _ _ _⟩, u.2.2.2.2.length, _, by show (u.2.2.2.2 ++ _)[_]? = _; rw [List.getElem?_append_right (Nat.le_refl _), Nat.sub_self]; rfl⟩
theorem IC.newV {E : qE} {u : qS} (h : IC E u) (h8 : 0 < u.1 8) (h9 : 0 < u.1 9) {q : Nat} {n t : Int32} : (IC E (qsX u (u.2.2.2.2 ++ [(q, .inr (10, [.int n, .int t, .int 0, .int 0, .int 0, .int 0, .int 0, .int 0, .int 0, .int 0, .int 0, .int 0, .int 0, .int 0, .int 0]))])) ∧ qFc [] [] [] [] u (qsX u (u.2.2.2.2 ++ [(q, .inr (10, [.int n, .int t, .int 0, .int 0, .int 0, .int 0, .int 0, .int 0, .int 0, .int 0, .int 0, .int 0, .int 0, .int 0, .int 0]))]))) ∧ qRn (qsX u (u.2.2.2.2 ++ [(q, .inr (10, [.int n, .int t, .int 0, .int 0, .int 0, .int 0, .int 0, .int 0, .int 0, .int 0, .int 0, .int 0, .int 0, .int 0, .int 0]))])) q n := by
  have hap := h.app (L := [(q, .inr (10, [.int n, .int t, .int 0, .int 0, .int 0, .int 0, .int 0, .int 0, .int 0, .int 0, .int 0, .int 0, .int 0, .int 0, .int 0]))]) (fun k a c fs hk => by
    match k, hk with
    | 0, hk =>
      injection hk with hk; injection hk with h1 h2; injection h2 with h2; injection h2 with h3 h4
      subst h3 h4
      refine ⟨fun _ => ⟨rfl, fun j hj => ?_⟩, fun q => absurd q (by decide), fun q => absurd q (by decide), fun q => absurd q (by decide)⟩
      match j, hj with
      | 0, _ => exact ⟨n, rfl, fun q => absurd q (by decide), fun q => absurd q (by decide)⟩
      | 1, _ => exact ⟨t, rfl, fun q => absurd q (by decide), fun q => absurd q (by decide)⟩
      | 2, _ => exact ⟨0, rfl, fun _ => ⟨by decide, h8⟩, fun q => absurd q (by decide)⟩
      | 3, _ => exact ⟨0, rfl, fun q => absurd q (by decide), fun _ => ⟨by decide, h9⟩⟩
      | 4, _ => exact ⟨0, rfl, fun q => absurd q (by decide), fun q => absurd q (by decide)⟩
      | 5, _ => exact ⟨0, rfl, fun q => absurd q (by decide), fun q => absurd q (by decide)⟩
      | 6, _ => exact ⟨0, rfl, fun q => absurd q (by decide), fun q => absurd q (by decide)⟩
      | 7, _ => exact ⟨0, rfl, fun q => absurd q (by decide), fun q => absurd q (by decide)⟩
      | 8, _ => exact ⟨0, rfl, fun q => absurd q (by decide), fun q => absurd q (by decide)⟩
      | 9, _ => exact ⟨0, rfl, fun q => absurd q (by decide), fun q => absurd q (by decide)⟩
      | 10, _ => exact ⟨0, rfl, fun q => absurd q (by decide), fun q => absurd q (by decide)⟩
      | 11, _ => exact ⟨0, rfl, fun q => absurd q (by decide), fun q => absurd q (by decide)⟩
      | 12, _ => exact ⟨0, rfl, fun q => absurd q (by decide), fun q => absurd q (by decide)⟩
      | 13, _ => exact ⟨0, rfl, fun q => absurd q (by decide), fun q => absurd q (by decide)⟩
      | 14, _ => exact ⟨0, rfl, fun q => absurd q (by decide), fun q => absurd q (by decide)⟩)
  exact ⟨⟨hap.1, hap.2 _ _ _ _⟩, u.2.2.2.2.length, _, by show (u.2.2.2.2 ++ _)[_]? = _; rw [List.getElem?_append_right (Nat.le_refl _), Nat.sub_self]; rfl⟩
theorem qRn.rf {u : qS} {a : Nat} {n : Int32} (h : qRn u a n) : qRf u a 10 := by
  obtain ⟨k, fs, hk⟩ := h
  exact ⟨k, _, hk⟩
theorem IC.newB {E : qE} {u : qS} (h : IC E u) {q p n : Nat} (hn : n ≤ 1000) {g : Nat → Int32} {x y z : Int32} : (IC E (qsX u (u.2.2.2.2 ++ [(q, .inr (1, [.int x, .int y, .int z, .ref p])), (p, .inl (E.2.1 0, n, .inl g))])) ∧ qFc [] [] [] [] u (qsX u (u.2.2.2.2 ++ [(q, .inr (1, [.int x, .int y, .int z, .ref p])), (p, .inl (E.2.1 0, n, .inl g))]))) ∧ qRf (qsX u (u.2.2.2.2 ++ [(q, .inr (1, [.int x, .int y, .int z, .ref p])), (p, .inl (E.2.1 0, n, .inl g))])) q 1 := by
  have hap := h.app (L := [(q, .inr (1, [.int x, .int y, .int z, .ref p])), (p, .inl (E.2.1 0, n, .inl g))]) (fun k a c' fs hk => by
    match k, hk with
    | 0, hk =>
      injection hk with hk; injection hk with h1 h2; injection h2 with h2; injection h2 with h3 h4
      subst h3 h4
      exact ⟨fun q => absurd q (by decide), fun q => absurd q (by decide), fun q => absurd q (by decide), fun _ => ⟨x, y, z, p, u.2.2.2.2.length + 1, n, g, rfl, by show (u.2.2.2.2 ++ _)[_]? = _; rw [List.getElem?_append_right (by omega), Nat.add_sub_cancel_left]; rfl, hn⟩⟩
    | 1, hk => injection hk with hk; injection hk with h1 h2; cases h2)
  exact ⟨⟨hap.1, hap.2 _ _ _ _⟩, u.2.2.2.2.length, _, by show (u.2.2.2.2 ++ _)[_]? = _; rw [List.getElem?_append_right (Nat.le_refl _), Nat.sub_self]; rfl⟩
/-- a visit is told: it stands behind what was made, and in the row -/
def qVn (u w : qS) (x y z a b c e : Int32) : Prop := ∃ q : Nat, qxr w 2 = va_up (qxr u 2) (u.1 10).toNatClampNeg (some q) ∧ w.2.2.2.2[u.2.2.2.2.length]? = some (q, .inr (10, [.int (u.1 10), .int (u.1 13), .int x, .int y, .int z, .int a, .int b, .int c, .int e, .int c, .int 0, .int 0, .int 0, .int 0, .int 0])) ∧ ∀ k : Nat, k < u.2.2.2.2.length → w.2.2.2.2[k]? = u.2.2.2.2[k]?
def qV0 (u w : qS) : Prop := qxr w 2 = qxr u 2 ∧ w.2.2.2.2 = u.2.2.2.2
/-- a shop is told -/
def qSn (u w : qS) (x y c f t z : Int32) : Prop := ∃ q p : Nat, qxr w 0 = va_up (qxr u 0) (u.1 8).toNatClampNeg (some q) ∧ w.2.2.2.2[u.2.2.2.2.length]? = some (q, .inr (7, [.ref p, .int c, .int f, .int t, .int z])) ∧ w.2.2.2.2[u.2.2.2.2.length + 1]? = some (p, .inr (4, [.int x, .int y])) ∧ ∀ k : Nat, k < u.2.2.2.2.length → w.2.2.2.2[k]? = u.2.2.2.2[k]?
def qS0 (u w : qS) : Prop := qxr w 0 = qxr u 0 ∧ w.2.2.2.2 = u.2.2.2.2
/-- a buyer is told -/
def qHn (u w : qS) (x y : Int32) : Prop := ∃ q : Nat, qxr w 1 = va_up (qxr u 1) (u.1 9).toNatClampNeg (some q) ∧ w.2.2.2.2[u.2.2.2.2.length]? = some (q, .inr (4, [.int x, .int y])) ∧ ∀ k : Nat, k < u.2.2.2.2.length → w.2.2.2.2[k]? = u.2.2.2.2[k]?
def qH0 (u w : qS) : Prop := qxr w 1 = qxr u 1 ∧ w.2.2.2.2 = u.2.2.2.2
