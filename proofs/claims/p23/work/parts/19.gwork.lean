/-! counts of visits, and the working of a brief's code -/
theorem g_ct_s (f g : Nat → Int32) (b d : Int32) {v : Int32} (h0 : 0 ≤ v.toInt) (h1 : v.toInt < 1000) : g_ct f g b d (v + 1).toNatClampNeg = g_ct f g b d v.toNatClampNeg + (if f v.toNatClampNeg = b ∧ g v.toNatClampNeg = d then 1 else 0) := by
  have e : (v + 1).toInt = v.toInt + 1 := g_add (x := v) (y := 1) (by show _ ≤ v.toInt + 1; omega) (by show v.toInt + 1 < _; omega)
  have e2 : (v + 1).toNatClampNeg = v.toNatClampNeg + 1 := by rw [g_clamp, g_clamp, e]; omega
  rw [e2]; rfl
/-- the working of code at i with a pile of h -/
def g_wk (op one : Nat → Int32) (i h : Int32) : Prop := 0 ≤ i.toInt ∧ 0 ≤ h.toInt ∧ ∃ n : Nat, i.toNatClampNeg + n < 20400 ∧ n + h.toNatClampNeg < 1200 ∧ g_gc op one n i.toNatClampNeg h.toNatClampNeg
theorem g_wk_of {op one : Nat → Int32} {x : Int32} (h : g_gf op one x) : g_wk op one x 0 := by
  obtain ⟨h0, n, h1, h2, h3⟩ := h
  exact ⟨Int32.le_iff_toInt_le.mp h0, by decide, n, h1, h2, h3⟩
theorem g_wk_r {op one : Nat → Int32} {i h : Int32} (w : g_wk op one i h) : (0 ≤ i.toInt ∧ i.toInt < 20400) ∧ (0 ≤ h.toInt ∧ h.toInt < 1200) := by
  obtain ⟨h0, h1, n, h2, h3, -⟩ := w
  rw [g_clamp] at h2 h3
  omega
theorem g_up {i : Int32} (h0 : 0 ≤ i.toInt) (h1 : i.toInt < 100000) : (i + 1).toInt = i.toInt + 1 ∧ (i + 1).toNatClampNeg = i.toNatClampNeg + 1 := by
  have e : (i + 1).toInt = i.toInt + 1 := g_add (x := i) (y := 1) (by show _ ≤ i.toInt + 1; omega) (by show i.toInt + 1 < _; omega)
  exact ⟨e, by rw [g_clamp, g_clamp, e]; omega⟩
theorem g_dn {i : Int32} (h0 : 1 ≤ i.toInt) : (i + -1).toInt = i.toInt - 1 ∧ (i + -1).toNatClampNeg = i.toNatClampNeg - 1 := by
  have hr := g_rng i
  have e : (i + -1).toInt = i.toInt + -1 := g_add (x := i) (y := -1) (by show _ ≤ i.toInt + -1; omega) (by show i.toInt + -1 < _; omega)
  exact ⟨by omega, by rw [g_clamp, g_clamp, e]; omega⟩
theorem g_wk_s {op one : Nat → Int32} {i h : Int32} (w : g_wk op one i h) (hne : ¬ op i.toNatClampNeg = 0) :
    ((1 ≤ op i.toNatClampNeg ∧ op i.toNatClampNeg ≤ 4) ∧ (op i.toNatClampNeg = 2 → 0 ≤ one i.toNatClampNeg ∧ one i.toNatClampNeg < 6) ∧ (op i.toNatClampNeg = 3 → 0 ≤ one i.toNatClampNeg ∧ one i.toNatClampNeg < 8) ∧ g_wk op one (i + 1) (h + 1))
    ∨ (op i.toNatClampNeg = 5 ∧ 1 ≤ h.toInt ∧ g_wk op one (i + 1) h) ∨ (6 ≤ op i.toNatClampNeg ∧ 2 ≤ h.toInt ∧ g_wk op one (i + 1) (h + -1)) := by
  have hr := g_wk_r w
  obtain ⟨h0, h1, n, h2, h3, h4⟩ := w
  obtain ⟨ei, en⟩ := g_up h0 (by omega)
  obtain ⟨ej, em⟩ := g_up h1 (by omega)
  have c0 := g_clamp h
  cases n with
  | zero => exact absurd h4.1 hne
  | succ n =>
    rcases h4 with ⟨a1, a2, a3, a4⟩ | ⟨a1, a2, a4⟩ | ⟨a1, a2, a4⟩
    · exact Or.inl ⟨a1, a2, a3, by omega, by omega, n, by omega, by omega, by rw [en, em]; exact a4⟩
    · exact Or.inr (Or.inl ⟨a1, by omega, by omega, by omega, n, by omega, by omega, by rw [en]; exact a4⟩)
    · have b1 : 2 ≤ h.toInt := by omega
      have b2 : 0 ≤ h.toInt - 1 := by omega
      have b3 : n + (h.toNatClampNeg - 1) < 1200 := by omega
      have b4 : 0 ≤ (i + 1).toInt := by omega
      have b5 : (i + 1).toNatClampNeg + n < 20400 := by omega
      obtain ⟨ed, eq⟩ := g_dn (i := h) (Int.le_trans (by decide) b1)
      exact Or.inr (Or.inr ⟨a1, b1, b4, by rw [ed]; exact b2, n, b5, by rw [eq]; exact b3, by rw [en, eq]; exact a4⟩)
theorem g_wk_a {op one : Nat → Int32} {i h : Int32} (w : g_wk op one i h) (hne : ¬ op i.toNatClampNeg = 0) (h4 : ¬ 4 < op i.toNatClampNeg) : (op i.toNatClampNeg = 2 → 0 ≤ one i.toNatClampNeg ∧ one i.toNatClampNeg < 6) ∧ (op i.toNatClampNeg = 3 → 0 ≤ one i.toNatClampNeg ∧ one i.toNatClampNeg < 8) ∧ g_wk op one (i + 1) (h + 1) := by
  rcases g_wk_s w hne with a | a | a
  · exact ⟨a.2.1, a.2.2.1, a.2.2.2⟩
  · exact absurd (by rw [a.1]; decide) h4
  · exact absurd (by have := a.1; simp only [Int32.lt_iff_toInt_lt, Int32.le_iff_toInt_le, Int32.reduceToInt] at *; omega) h4
theorem g_wk_b {op one : Nat → Int32} {i h : Int32} (w : g_wk op one i h) (h5 : op i.toNatClampNeg = 5) : 1 ≤ h.toInt ∧ g_wk op one (i + 1) h := by
  rcases g_wk_s w (by rw [h5]; decide) with a | a | a
  · exact absurd a.1.2 (by rw [h5]; decide)
  · exact a.2
  · exact absurd a.1 (by rw [h5]; decide)
theorem g_wk_c {op one : Nat → Int32} {i h : Int32} (w : g_wk op one i h) (hne : ¬ op i.toNatClampNeg = 0) (h4 : 4 < op i.toNatClampNeg) (h5 : ¬ op i.toNatClampNeg = 5) : 2 ≤ h.toInt ∧ g_wk op one (i + 1) (h + -1) := by
  rcases g_wk_s w hne with a | a | a
  · exact absurd a.1.2 (by simp only [Int32.lt_iff_toInt_lt, Int32.le_iff_toInt_le, Int32.reduceToInt] at *; omega)
  · exact absurd a.1 h5
  · exact a.2
theorem g_lets_m (k : Nat → Int32) (p : Nat) {i j : Nat} (h : i ≤ j) : g_lets k p i ≤ g_lets k p j := by
  induction h with
  | refl => exact Nat.le_refl _
  | step h ih => exact Nat.le_trans ih (Nat.le_add_right _ _)
theorem g_jd {u : qS} (h : g_BW u) {b k : Int32} (h0 : 0 ≤ b.toInt) (h1 : b < u.1 1210) (h2 : u.1 1210 ≤ 16) (h3 : 16 * b.toInt ≤ k.toInt) (h4 : k.toInt < 16 * b.toInt + (u.2.1 1214 b.toNatClampNeg).toInt) :
    (0 ≤ k.toInt ∧ k.toInt < 272) ∧ (u.2.1 1215 k.toNatClampNeg ≠ 3 → g_gf (u.2.1 1222) (u.2.1 1223) (u.2.1 1217 k.toNatClampNeg)) ∧ (u.2.1 1215 k.toNatClampNeg ≠ 0 → u.2.1 1215 k.toNatClampNeg ≠ 2 → g_gf (u.2.1 1222) (u.2.1 1223) (u.2.1 1218 k.toNatClampNeg)) ∧
    g_lets (u.2.1 1215) (16 * b.toNatClampNeg) (k.toNatClampNeg - 16 * b.toNatClampNeg) + (if u.2.1 1215 k.toNatClampNeg = 0 then 1 else 0) ≤ 8 := by
  obtain ⟨⟨a1, a2⟩, a3, a4⟩ := h b (Int32.le_iff_toInt_le.mpr h0) h1
  have b1 := Int32.le_iff_toInt_le.mp a1
  have b2 := Int32.le_iff_toInt_le.mp a2
  have b3 := Int32.lt_iff_toInt_lt.mp h1
  have b4 := Int32.le_iff_toInt_le.mp h2
  have e16 : (16 : Int32).toInt = 16 := rfl
  have e0 : (0 : Int32).toInt = 0 := rfl
  have cb := g_clamp b
  have ck := g_clamp k
  have cl := g_clamp (u.2.1 1214 b.toNatClampNeg)
  have e : 16 * b.toNatClampNeg + (k.toNatClampNeg - 16 * b.toNatClampNeg) = k.toNatClampNeg := by omega
  have q := a4 (k.toNatClampNeg - 16 * b.toNatClampNeg) (by omega)
  rw [e] at q
  refine ⟨by omega, q.1, q.2, ?_⟩
  have m := g_lets_m (u.2.1 1215) (16 * b.toNatClampNeg) (i := k.toNatClampNeg - 16 * b.toNatClampNeg + 1) (j := (u.2.1 1214 b.toNatClampNeg).toNatClampNeg) (by omega)
  have s : g_lets (u.2.1 1215) (16 * b.toNatClampNeg) (k.toNatClampNeg - 16 * b.toNatClampNeg + 1) = g_lets (u.2.1 1215) (16 * b.toNatClampNeg) (k.toNatClampNeg - 16 * b.toNatClampNeg) + (if u.2.1 1215 (16 * b.toNatClampNeg + (k.toNatClampNeg - 16 * b.toNatClampNeg)) = 0 then 1 else 0) := rfl
  rw [e] at s
  omega
theorem g_n3 {a : Int32} (h : a = 0 ∨ a = 1 ∨ a = 2) : a ≠ 3 := by
  rcases h with rfl | rfl | rfl <;> decide
theorem q_sw6_11 (x : Int32) : x = 6 ∨ x = 7 ∨ x = 8 ∨ x = 9 ∨ x = 10 ∨ x = 11 ∨ (x.toInt < 6 ∨ 11 < x.toInt) := by
  rcases (by omega : x.toInt = 6 ∨ x.toInt = 7 ∨ x.toInt = 8 ∨ x.toInt = 9 ∨ x.toInt = 10 ∨ x.toInt = 11 ∨ (x.toInt < 6 ∨ 11 < x.toInt)) with h | h | h | h | h | h | h
  · exact Or.inl (Int32.toInt_inj.mp h)
  · exact Or.inr (Or.inl (Int32.toInt_inj.mp h))
  · exact Or.inr (Or.inr (Or.inl (Int32.toInt_inj.mp h)))
  · exact Or.inr (Or.inr (Or.inr (Or.inl (Int32.toInt_inj.mp h))))
  · exact Or.inr (Or.inr (Or.inr (Or.inr (Or.inl (Int32.toInt_inj.mp h)))))
  · exact Or.inr (Or.inr (Or.inr (Or.inr (Or.inr (Or.inl (Int32.toInt_inj.mp h))))))
  · exact Or.inr (Or.inr (Or.inr (Or.inr (Or.inr (Or.inr (h))))))
theorem q_sw0_4 (x : Int32) : x = 0 ∨ x = 1 ∨ x = 2 ∨ x = 3 ∨ x = 4 ∨ (x.toInt < 0 ∨ 4 < x.toInt) := by
  rcases (by omega : x.toInt = 0 ∨ x.toInt = 1 ∨ x.toInt = 2 ∨ x.toInt = 3 ∨ x.toInt = 4 ∨ (x.toInt < 0 ∨ 4 < x.toInt)) with h | h | h | h | h | h
  · exact Or.inl (Int32.toInt_inj.mp h)
  · exact Or.inr (Or.inl (Int32.toInt_inj.mp h))
  · exact Or.inr (Or.inr (Or.inl (Int32.toInt_inj.mp h)))
  · exact Or.inr (Or.inr (Or.inr (Or.inl (Int32.toInt_inj.mp h))))
  · exact Or.inr (Or.inr (Or.inr (Or.inr (Or.inl (Int32.toInt_inj.mp h)))))
  · exact Or.inr (Or.inr (Or.inr (Or.inr (Or.inr (h)))))
