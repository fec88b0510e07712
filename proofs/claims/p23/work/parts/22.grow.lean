/-! rows whose first places hold numbers of a span -/
def g_rw (f : Nat → Int32) (n lo hi : Int) : Prop := ∀ i : Int32, 0 ≤ i.toInt → i.toInt < n → lo ≤ (f i.toNatClampNeg).toInt ∧ (f i.toNatClampNeg).toInt < hi
theorem g_rw.get {f : Nat → Int32} {n lo hi : Int} (h : g_rw f n lo hi) (i : Int32) (h0 : 0 ≤ i.toInt) (h1 : i.toInt < n) : lo ≤ (f i.toNatClampNeg).toInt ∧ (f i.toNatClampNeg).toInt < hi := h i h0 h1
theorem g_rw.none {f : Nat → Int32} {n lo hi : Int} (h : n ≤ 0) : g_rw f n lo hi := fun i h0 h1 => absurd h1 (by omega)
theorem g_rw.put {f : Nat → Int32} {n n' lo hi : Int} {j x : Int32} (h : g_rw f n lo hi) (hj : 0 ≤ j.toInt) (hn : n' ≤ n) (hx : lo ≤ x.toInt ∧ x.toInt < hi) : g_rw (upd f j.toNatClampNeg x) n' lo hi := fun i h0 h1 => by
  by_cases e : i = j
  · subst e; rw [pk_us]; exact hx
  · rw [pk_un (fun q => e (g_inj h0 hj q))]
    exact h i h0 (by omega)
theorem g_rw.push {f : Nat → Int32} {n n' lo hi : Int} {j x : Int32} (h : g_rw f n lo hi) (hj : 0 ≤ j.toInt) (hn : n = j.toInt) (hn' : n' = n + 1) (hx : lo ≤ x.toInt ∧ x.toInt < hi) : g_rw (upd f j.toNatClampNeg x) n' lo hi := fun i h0 h1 => by
  by_cases e : i = j
  · subst e; rw [pk_us]; exact hx
  · rw [pk_un (fun q => e (g_inj h0 hj q))]
    have e2 : i.toInt ≠ j.toInt := fun q => e (Int32.toInt_inj.mp q)
    exact h i h0 (by omega)
theorem g_rw.wide {f : Nat → Int32} {n n' lo hi lo' hi' : Int} (h : g_rw f n lo hi) (hn : n' ≤ n) (hl : lo' ≤ lo) (hh : hi ≤ hi') : g_rw f n' lo' hi' := fun i h0 h1 => by
  have := h i h0 (by omega)
  omega
theorem g_ct_m (f g : Nat → Int32) (b d : Int32) {i j : Nat} (h : i ≤ j) : g_ct f g b d i ≤ g_ct f g b d j := by
  induction h with
  | refl => exact Nat.le_refl _
  | step h ih => exact Nat.le_trans ih (Nat.le_add_right _ _)
/-- one more of this buyer and day: so there were less than 12 before -/
theorem g_ct12 {u : qS} (h : IV u) {b d v : Int32} (h0 : 0 ≤ v.toInt) (h1 : v < u.1 1247) (h2 : u.1 1247 ≤ 120) (hb : u.2.1 1249 v.toNatClampNeg = b) (hd : u.2.1 1250 v.toNatClampNeg = d) :
    g_ct (u.2.1 1249) (u.2.1 1250) b d (v + 1).toNatClampNeg = g_ct (u.2.1 1249) (u.2.1 1250) b d v.toNatClampNeg + 1 ∧ g_ct (u.2.1 1249) (u.2.1 1250) b d v.toNatClampNeg < 12 := by
  have a1 := Int32.lt_iff_toInt_lt.mp h1
  have a2 := Int32.le_iff_toInt_le.mp h2
  have e : (120 : Int32).toInt = 120 := rfl
  have s := g_ct_s (u.2.1 1249) (u.2.1 1250) b d h0 (by omega)
  rw [if_pos ⟨hb, hd⟩] at s
  have up := g_up h0 (by omega)
  have c1 := g_clamp v
  have c2 := g_clamp (u.1 1247)
  have m := g_ct_m (u.2.1 1249) (u.2.1 1250) b d (i := (v + 1).toNatClampNeg) (j := (u.1 1247).toNatClampNeg) (by omega)
  have t := h.2.2 b d
  exact ⟨s, by omega⟩
theorem g_ct0 {u : qS} {b d v : Int32} (h0 : 0 ≤ v.toInt) (h1 : v.toInt < 120) : g_ct (u.2.1 1249) (u.2.1 1250) b d v.toNatClampNeg ≤ g_ct (u.2.1 1249) (u.2.1 1250) b d (v + 1).toNatClampNeg := by
  have up := g_up h0 (by omega)
  exact g_ct_m _ _ _ _ (by omega)
/-- the scores that were found are of 0 to 1000 -/
def IS (u : qS) : Prop := g_rw (u.2.1 1262) 120 0 1001
theorem IS.fr {M R G : List Nat} {u v : qS} (h : IS u) (hf : qFr M R G u v) (hM : ∀ n ∈ ([] : List Nat), n ∉ M) (hR : ∀ n ∈ [1262], n ∉ R) : IS v := by
  unfold IS at *
  rw [hf.2.1 1262 (hR _ (by decide))]
  exact h
