/-! the reference's lines -/
def z_lt (T : zT) (G : Nat → List Int32) (m : Nat) (Z : zS) : zS :=
  if T.1 Z.1 ≠ 3 then z_fail T 1 Z else if z_ix G (T.2.2.1 Z.1) m ≠ -1 then z_fail T 3 Z else if 8 ≤ m then z_fail T 5 Z else z_E T G m (z_pass T 7 (z_next Z))
noncomputable def z_nG (f : Nat → Int32) (n : Nat) (G : Nat → List Int32) (m : Nat) (Z : zS) : Nat → List Int32 := fun j => if j = m then z_W f n Z.1 else G j
def z_Hn (f : Nat → Int32) (n : Nat) (G : Nat → List Int32) (m : Nat) (Z : zS) (nm : Nat → Int64) (c e : Int32) : Prop :=
  e = 0 → (z_K f n Z.1 = 3 ∧ z_ix G (z_W f n Z.1) m = -1 ∧ m < 8) ∧ c = Int32.ofNat (m + 1) ∧ (∀ j, j < m + 1 → nm j = z_rw (z_nG f n G m Z j) ∧ z_ok (z_nG f n G m Z j)) ∧ ∀ i j, i < j → j < m + 1 → z_nG f n G m Z i ≠ z_nG f n G m Z j
section ZLN
variable {f : Nat → Int32} {n m d c : Nat} {Z Y : zS} {G : Nat → List Int32} {a e a1 e1 x y r k lv : Int32} {so pl : Nat → Int32} {va wd nm nm' : Nat → Int64} {N : Int} {cn cn' : Int32}
theorem z_R.lt1 (hQ : z_Q f n so pl va wd N) (hz : z_R a1 e1 Z) (ha : a1.toInt ≤ N) (h0 : Z.2.1 = 0) (h : ¬ g_isN e1 so va a1 wd 15) (g : z_R a e (z_fail (z_T f n) 1 Z)) : z_R a e (z_lt (z_T f n) G m Z) := by
  have k : (z_T f n).1 Z.1 ≠ 3 := fun z => h ((hQ.nm hz ha).mpr ⟨h0, z⟩)
  unfold z_lt; rw [if_pos k]; exact g
theorem z_R.lt3 (hQ : z_Q f n so pl va wd N) (hz : z_R a1 e1 Z) (ha : a1.toInt ≤ N) (h : g_isN e1 so va a1 wd 15) (hr : r = z_ix G (z_W f n Z.1) m) (h1 : ¬ r < 0) (g : z_R a e (z_fail (z_T f n) 3 Z)) : z_R a e (z_lt (z_T f n) G m Z) := by
  have k : (z_T f n).1 Z.1 = 3 := ((hQ.nm hz ha).mp h).2
  have i : z_ix G ((z_T f n).2.2.1 Z.1) m ≠ -1 := fun z => h1 (by rw [hr]; show z_ix G ((z_T f n).2.2.1 Z.1) m < 0; rw [z]; decide)
  unfold z_lt; rw [if_neg (fun z => z k), if_pos i]; exact g
theorem z_ixn (hr : r = z_ix G (z_W f n Z.1) m) (hm : m ≤ 8) (h1 : r < 0) : z_ix G (z_W f n Z.1) m = -1 := by
  rcases z_ix.rg (G := G) (w := z_W f n Z.1) m with z | ⟨j, j1, j2, -⟩
  · exact z
  · rw [hr, j2] at h1
    have q := Int32.lt_iff_toInt_lt.mp h1
    rw [Int32.toInt_ofNat_of_lt (by omega)] at q
    exact absurd q (by show ¬ ((j : Int) < 0); omega)
end ZLN
theorem z_H.c {m : Nat} {Z : zS} {G : Nat → List Int32} {nm : Nat → Int64} {cn : Int32} (hg : z_H G m nm cn Z) (h0 : Z.2.1 = 0) : cn.toInt = m ∧ m ≤ 8 := by
  obtain ⟨g1, g2, -⟩ := hg h0
  exact ⟨by rw [g1, Int32.toInt_ofNat_of_lt (by omega)], g2⟩
section ZLN
variable {f : Nat → Int32} {n m d c : Nat} {Z Y : zS} {G : Nat → List Int32} {a e a1 e1 x y r k lv : Int32} {so pl : Nat → Int32} {va wd nm nm' : Nat → Int64} {N : Int} {cn cn' : Int32}
theorem z_R.lt5 (hQ : z_Q f n so pl va wd N) (hz : z_R a1 e1 Z) (ha : a1.toInt ≤ N) (hg : z_H G m nm cn Z) (h : g_isN e1 so va a1 wd 15) (hr : r = z_ix G (z_W f n Z.1) m) (h1 : r < 0) (h8 : cn = 8) (g : z_R a e (z_fail (z_T f n) 5 Z)) : z_R a e (z_lt (z_T f n) G m Z) := by
  have c := (hQ.nm hz ha).mp h
  have k : (z_T f n).1 Z.1 = 3 := c.2
  have q := hg.c c.1
  have e8 : (8 : Int32).toInt = 8 := rfl
  rw [h8, e8] at q
  have i : ¬ z_ix G ((z_T f n).2.2.1 Z.1) m ≠ -1 := fun z => z (z_ixn hr q.2 h1)
  have m8 : 8 ≤ m := by omega
  unfold z_lt; rw [if_neg (fun z => z k), if_neg i, if_pos m8]; exact g
theorem z_R.ltY (hQ : z_Q f n so pl va wd N) (hz : z_R a1 e1 Z) (ha : a1.toInt ≤ N) (hg : z_H G m nm cn Z) (h : g_isN e1 so va a1 wd 15) (hr : r = z_ix G (z_W f n Z.1) m) (h1 : r < 0) (h8 : ¬ cn = 8) (g : z_R a e (z_E (z_T f n) G m (z_pass (z_T f n) (z_sg 61) (z_next Z)))) : z_R a e (z_lt (z_T f n) G m Z) := by
  have e7 : z_sg 61 = 7 := by decide
  rw [e7] at g
  have c := (hQ.nm hz ha).mp h
  have k : (z_T f n).1 Z.1 = 3 := c.2
  have q := hg.c c.1
  have i : ¬ z_ix G ((z_T f n).2.2.1 Z.1) m ≠ -1 := fun z => z (z_ixn hr q.2 h1)
  have m8 : ¬ 8 ≤ m := fun z => h8 (Int32.toInt_inj.mp (by show cn.toInt = 8; omega))
  unfold z_lt; rw [if_neg (fun z => z k), if_neg i, if_neg m8]; exact g
theorem z_Hn.mk (hQ : z_Q f n so pl va wd N) (hz : z_R a1 e1 Z) (ha : a1.toInt ≤ N) (hg : z_H G m nm cn Z) (h : g_isN e1 so va a1 wd 15) (hr : r = z_ix G (z_W f n Z.1) m) (h1 : r < 0) (h8 : ¬ cn = 8) (hc : cn' = cn + 1) (hn : nm' = vp_updL nm cn.toNatClampNeg (va a1.toNatClampNeg)) : z_Hn f n G m Z nm' cn' e := by
  intro _
  have c := (hQ.nm hz ha).mp h
  obtain ⟨g1, g2, g3, g4⟩ := hg c.1
  have q := hg.c c.1
  have i := z_ixn hr q.2 h1
  have lt : m < 8 := by
    rcases Nat.lt_or_ge m 8 with z | z
    · exact z
    · exact absurd (Int32.toInt_inj.mp (by show cn.toInt = 8; omega)) h8
  obtain ⟨M, t, l, -, -⟩ := hQ.at hz ha
  obtain ⟨a2, a3, a4, -⟩ := z_K.three c.2
  have vv : va a1.toNatClampNeg = z_rw (z_W f n Z.1) := by rw [hz.i]; exact t.va l a2 a3 a4
  have ec : cn.toNatClampNeg = m := by rw [g_clamp]; omega
  have new : ∀ j, j < m → G j ≠ z_W f n Z.1 := by
    intro j hj e
    have key : ∀ mm : Nat, j < mm → mm < 1000 → z_ix G (z_W f n Z.1) mm = -1 → False := by
      intro mm
      induction mm with
      | zero => intro q; exact absurd q (by omega)
      | succ mm ih =>
        intro q q2 z
        rw [z_ix] at z
        by_cases y : z_ix G (z_W f n Z.1) mm = -1
        · by_cases w : j = mm
          · subst w
            rw [y, if_neg (fun q => q rfl), if_pos e] at z
            have b := congrArg Int32.toInt z
            rw [Int32.toInt_ofNat_of_lt (by omega)] at b
            have b2 : (-1 : Int32).toInt = -1 := rfl
            omega
          · exact ih (by omega) (by omega) y
        · rw [if_pos y] at z
          exact y z
    exact key m hj (by omega) i
  refine ⟨⟨c.2, i, lt⟩, ?_, fun j hj => ?_, fun i2 j2 h1 h2 => ?_⟩
  · rw [hc, g1, Int32.ofNat_add]; try rfl
  · rw [hn, ec]
    show (if j = m then va a1.toNatClampNeg else nm j) = z_rw (if j = m then z_W f n Z.1 else G j) ∧ z_ok (if j = m then z_W f n Z.1 else G j)
    by_cases z : j = m
    · rw [if_pos z, if_pos z]; exact ⟨vv, z_K.ok c.2⟩
    · rw [if_neg z, if_neg z]; exact g3 j (by omega)
  · show (if i2 = m then z_W f n Z.1 else G i2) ≠ (if j2 = m then z_W f n Z.1 else G j2)
    have ne : i2 ≠ m := by omega
    rw [if_neg ne]
    by_cases z : j2 = m
    · rw [z, if_pos rfl]; exact new i2 (by omega)
    · rw [if_neg z]; exact g4 i2 j2 h1 (by omega)
theorem z_Hn.no (h : ¬ e = 0) : z_Hn f n G m Z nm cn e := fun q => absurd q h
theorem z_Hn.no1 (h : 1 ≤ e.toInt) : z_Hn f n G m Z nm cn e := fun q => by rw [q] at h; exact absurd h (by decide)
end ZLN
theorem z_k0 : z_kk (0 : Int32).toNatClampNeg = 12 := by decide
theorem z_k1 : z_kk (1 : Int32).toNatClampNeg = 13 := by decide
theorem z_k2 : z_kk (2 : Int32).toNatClampNeg = 15 := by decide
theorem z_k3 : z_kk (3 : Int32).toNatClampNeg = 16 := by decide
section ZLN2
variable {f : Nat → Int32} {n m d c : Nat} {Z Y : zS} {G : Nat → List Int32} {a e a1 e1 a2 e2 x y r k lv lc : Int32} {so pl : Nat → Int32} {va wd nm nm' : Nat → Int64} {N : Int} {cn cn' : Int32}
/-- the words a line may begin with -/
theorem z_wK (hQ : z_Q f n so pl va wd N) (hz : z_R a1 e1 Z) (ha : a1.toInt ≤ N) (hk : 0 ≤ k ∧ k < 15) (h : g_isW e1 so va a1 wd k) : z_K f n Z.1 = z_kk k.toNatClampNeg := by
  have l1 : k.toInt < 15 := Int32.lt_iff_toInt_lt.mp hk.2
  exact ((hQ.w hz ha (by rw [g_clamp]; omega)).mp h).2
theorem z_wN (hQ : z_Q f n so pl va wd N) (hz : z_R a1 e1 Z) (ha : a1.toInt ≤ N) (h0 : Z.2.1 = 0) (hk : 0 ≤ k ∧ k < 15) (h : ¬ g_isW e1 so va a1 wd k) : z_K f n Z.1 ≠ z_kk k.toNatClampNeg := fun q => by
  have l1 : k.toInt < 15 := Int32.lt_iff_toInt_lt.mp hk.2
  exact h ((hQ.w hz ha (by rw [g_clamp]; omega)).mpr ⟨h0, q⟩)
theorem z_let1 (h0 : Y.2.1 = 0) (g : z_R a e (z_pass (z_T f n) (z_sg 59) (z_lt (z_T f n) G m Y))) : z_R a e (z_let (z_T f n) (Y, G, m)).1 := by
  have e11 : z_sg 59 = 11 := by decide
  rw [e11] at g
  unfold z_lt at g
  rw [z_let.eq]
  by_cases k : (z_T f n).1 Y.1 ≠ 3
  · rw [if_pos k] at g
    rw [if_pos k]
    rw [z_pass.f (by rw [z_fail.o h0]; exact z_ne1 _)] at g
    exact g
  · rw [if_neg k] at g
    rw [if_neg k]
    by_cases i : z_ix G ((z_T f n).2.2.1 Y.1) m ≠ -1
    · rw [if_pos i] at g
      rw [if_pos i]
      rw [z_pass.f (by rw [z_fail.o h0]; exact z_ne3 _)] at g
      exact g
    · rw [if_neg i] at g
      rw [if_neg i]
      by_cases m8 : 8 ≤ m
      · rw [if_pos m8] at g
        rw [if_pos m8]
        rw [z_pass.f (by rw [z_fail.o h0]; exact z_ne5 _)] at g
        exact g
      · rw [if_neg m8] at g
        rw [if_neg m8]
        have w := z_R.emit (c := 12) (y := Int32.ofNat m) g
        split
        · dsimp only; unfold z_end; exact w
        · dsimp only; unfold z_end; exact w
theorem z_let2 (h0 : Y.2.1 = 0) (hm : z_R a1 e1 (z_lt (z_T f n) G m Y)) (hn : z_Hn f n G m Y nm cn e1) : z_H (z_let (z_T f n) (Y, G, m)).2.1 (z_let (z_T f n) (Y, G, m)).2.2 nm cn (z_let (z_T f n) (Y, G, m)).1 := by
  rw [z_let.eq]
  intro q
  by_cases z : e1 = 0
  · obtain ⟨⟨k3, i, lt⟩, w⟩ := hn z
    have k : ¬ (z_T f n).1 Y.1 ≠ 3 := fun y => y k3
    have i2 : ¬ z_ix G ((z_T f n).2.2.1 Y.1) m ≠ -1 := fun y => y i
    have m8 : ¬ 8 ≤ m := by omega
    rw [if_neg k, if_neg i2, if_neg m8] at q ⊢
    split at q
    · rename_i y
      rw [if_pos y]
      dsimp only
      exact ⟨w.1, by omega, w.2.1, w.2.2⟩
    · rename_i y
      dsimp only at q
      exact absurd q y
  · exfalso
    have f1 : (z_lt (z_T f n) G m Y).2.1 ≠ 0 := fun y => z (hm.2.trans y)
    unfold z_lt at f1
    by_cases k : (z_T f n).1 Y.1 ≠ 3
    · rw [if_pos k] at q f1; exact f1 q
    · rw [if_neg k] at q f1
      by_cases i : z_ix G ((z_T f n).2.2.1 Y.1) m ≠ -1
      · rw [if_pos i] at q f1; exact f1 q
      · rw [if_neg i] at q f1
        by_cases m8 : 8 ≤ m
        · rw [if_pos m8] at q f1; exact f1 q
        · rw [if_neg m8] at q f1
          split at q
          · rename_i y
            exact f1 (z_end.b y)
          · rename_i y
            dsimp only at q
            exact y q
theorem z_lnK (k : z_K f n Z.1 = x) (h : x = 12 ∨ x = 13 ∨ x = 15 ∨ x = 16) : ¬ ((z_T f n).1 Z.1 ≠ 12 ∧ (z_T f n).1 Z.1 ≠ 13 ∧ (z_T f n).1 Z.1 ≠ 15 ∧ (z_T f n).1 Z.1 ≠ 16) := fun z => by
  have e : (z_T f n).1 Z.1 = x := k
  rw [e] at z
  rcases h with h | h | h | h
  · exact z.1 h
  · exact z.2.1 h
  · exact z.2.2.1 h
  · exact z.2.2.2 h
/-- what a line gives, by its first word -/
theorem z_lnA (hQ : z_Q f n so pl va wd N) (hz : z_R a1 e1 Z) (ha : a1.toInt ≤ N) (h0 : Z.2.1 = 0) (h1 : ¬ g_isW e1 so va a1 wd 0) (h2 : ¬ g_isW e1 so va a1 wd 1) (h3 : ¬ g_isW e1 so va a1 wd 2) (h4 : ¬ g_isW e1 so va a1 wd 3) : z_ln (z_T f n) c (Z, G, m) = (z_fail (z_T f n) 1 Z, G, m) := by
  have k1 : (z_T f n).1 Z.1 ≠ 12 := fun z => z_wN hQ hz ha h0 (by decide) h1 (Eq.trans z z_k0.symm)
  have k2 : (z_T f n).1 Z.1 ≠ 13 := fun z => z_wN hQ hz ha h0 (by decide) h2 (Eq.trans z z_k1.symm)
  have k3 : (z_T f n).1 Z.1 ≠ 15 := fun z => z_wN hQ hz ha h0 (by decide) h3 (Eq.trans z z_k2.symm)
  have k4 : (z_T f n).1 Z.1 ≠ 16 := fun z => z_wN hQ hz ha h0 (by decide) h4 (Eq.trans z z_k3.symm)
  unfold z_ln; rw [if_pos ⟨k1, k2, k3, k4⟩]; try rfl
theorem z_lnW (hQ : z_Q f n so pl va wd N) (hz : z_R a1 e1 Z) (ha : a1.toInt ≤ N) (h : g_isW e1 so va a1 wd 0 ∨ g_isW e1 so va a1 wd 1 ∨ g_isW e1 so va a1 wd 2 ∨ g_isW e1 so va a1 wd 3) : z_K f n Z.1 = 12 ∨ z_K f n Z.1 = 13 ∨ z_K f n Z.1 = 15 ∨ z_K f n Z.1 = 16 := by
  rcases h with h | h | h | h
  · exact Or.inl ((z_wK hQ hz ha (by decide) h).trans z_k0)
  · exact Or.inr (Or.inl ((z_wK hQ hz ha (by decide) h).trans z_k1))
  · exact Or.inr (Or.inr (Or.inl ((z_wK hQ hz ha (by decide) h).trans z_k2)))
  · exact Or.inr (Or.inr (Or.inr ((z_wK hQ hz ha (by decide) h).trans z_k3)))
theorem z_lnB (w : z_K f n Z.1 = 12 ∨ z_K f n Z.1 = 13 ∨ z_K f n Z.1 = 15 ∨ z_K f n Z.1 = 16) (hc : lc = Int32.ofNat c) (hl : lc = 16) (h16 : c ≤ 16) : z_ln (z_T f n) c (Z, G, m) = (z_fail (z_T f n) 5 Z, G, m) := by
  have e : c = 16 := by
    have q := congrArg Int32.toInt (hc.symm.trans hl)
    rw [Int32.toInt_ofNat_of_lt (by omega)] at q
    have q : (c : Int) = 16 := q
    omega
  have nk := z_lnK (Z := Z) (f := f) (n := n) rfl w
  unfold z_ln; rw [if_neg nk, if_pos (by omega)]; try rfl
theorem z_lnc (hc : lc = Int32.ofNat c) (hl : ¬ lc = 16) (h16 : c ≤ 16) : c < 16 := by
  rcases Nat.lt_or_ge c 16 with z | z
  · exact z
  · exact absurd (by rw [hc, show c = 16 by omega]; try rfl) hl
theorem z_lnL (h : z_K f n Z.1 = 12) (l : c < 16) : z_ln (z_T f n) c (Z, G, m) = z_let (z_T f n) (z_next Z, G, m) := by
  have k : (z_T f n).1 Z.1 = 12 := h
  unfold z_ln; rw [if_neg (z_lnK h (Or.inl rfl)), if_neg (by omega), if_pos k]; try rfl
theorem z_lnU (h : z_K f n Z.1 = 16) (l : c < 16) : z_ln (z_T f n) c (Z, G, m) = (z_bon (z_T f n) G m (z_next Z), G, m) := by
  have k : (z_T f n).1 Z.1 = 16 := h
  unfold z_ln; rw [if_neg (z_lnK h (Or.inr (Or.inr (Or.inr rfl)))), if_neg (by omega), if_neg (by rw [k]; decide), if_pos k]; try rfl
theorem z_lnD (h : z_K f n Z.1 = 13) (l : c < 16) : z_ln (z_T f n) c (Z, G, m) = (z_aom (z_T f n) G m 13 (z_next Z), G, m) := by
  have k : (z_T f n).1 Z.1 = 13 := h
  unfold z_ln; rw [if_neg (z_lnK h (Or.inr (Or.inl rfl))), if_neg (by omega), if_neg (by rw [k]; decide), if_neg (by rw [k]; decide), k]; try rfl
theorem z_lnM (h : z_K f n Z.1 = 15) (l : c < 16) : z_ln (z_T f n) c (Z, G, m) = (z_aom (z_T f n) G m 15 (z_next Z), G, m) := by
  have k : (z_T f n).1 Z.1 = 15 := h
  unfold z_ln; rw [if_neg (z_lnK h (Or.inr (Or.inr (Or.inl rfl)))), if_neg (by omega), if_neg (by rw [k]; decide), if_neg (by rw [k]; decide), k]; try rfl
/-- a bonus' number is never too great -/
theorem z_bon1 (h0 : Y.2.1 = 0) (g : z_R a e (z_pass (z_T f n) (z_sg 59) (z_E (z_T f n) G m (z_pass (z_T f n) (z_kk (4 : Int32).toNatClampNeg) (z_num (z_T f n) 9999 Y))))) : z_R a e (z_bon (z_T f n) G m Y) := by
  have e11 : z_sg 59 = 11 := by decide
  have e14 : z_kk (4 : Int32).toNatClampNeg = 14 := by decide
  rw [e11, e14] at g
  unfold z_num at g
  rw [if_neg (fun z => z h0)] at g
  unfold z_bon
  by_cases k : (z_T f n).1 Y.1 ≠ 2
  · rw [if_pos k] at g ⊢
    have ff : (z_fail (z_T f n) 1 Y).2.1 ≠ 0 := by rw [z_fail.o h0]; exact z_ne1 _
    rw [z_pass.f (k := 14) ff, z_E.f ff, z_pass.f ff] at g
    exact g
  · rw [if_neg k] at g ⊢
    have k2 : z_K f n Y.1 = 2 := Classical.byContradiction k
    have w := (z_N.rg k2).2.1
    have nl : ¬ (9999 : Int32) < (z_T f n).2.1 Y.1 := Int32.not_lt.mpr w
    rw [if_neg nl] at g
    exact z_R.emit g
theorem z_aom1 (g : z_R a e (z_pass (z_T f n) (z_sg 59) (z_E (z_T f n) G m (z_pass (z_T f n) (z_kk (4 : Int32).toNatClampNeg) (z_E (z_T f n) G m Y))))) : z_R a e (z_aom (z_T f n) G m 13 Y) := by
  have e11 : z_sg 59 = 11 := by decide
  have e14 : z_kk (4 : Int32).toNatClampNeg = 14 := by decide
  rw [e11, e14] at g
  unfold z_aom
  rw [if_pos rfl]
  exact z_R.emit g
theorem z_aom2 (g : z_R a e (z_pass (z_T f n) (z_sg 59) (z_E (z_T f n) G m Y))) : z_R a e (z_aom (z_T f n) G m 15 Y) := by
  have e11 : z_sg 59 = 11 := by decide
  rw [e11] at g
  unfold z_aom
  rw [if_neg (by decide)]
  exact z_R.emit g
end ZLN2
theorem z_lns.go {T : zT} {Q c : Nat} {b0 b : zB} (hL : z_lns T Q 0 b0 = z_lns T (Q - c) c b) (hc : c < Q) (q : b.1.2.1 = 0) (k : ¬ T.1 b.1.1 = 1) : z_lns T Q 0 b0 = z_lns T (Q - (c + 1)) (c + 1) (z_ln T c b) := by
  rw [hL, show Q - c = (Q - (c + 1)) + 1 by omega, z_lns, if_pos ⟨q, k⟩]
theorem z_lc16 {j : Nat} (h : j ≤ 16) (l : (Int32.ofNat j + 1).toInt ≤ 16) : Int32.ofNat j + 1 = Int32.ofNat (j + 1) ∧ j + 1 ≤ 16 := by
  have e : Int32.ofNat j + 1 = Int32.ofNat (j + 1) := by rw [Int32.ofNat_add]; try rfl
  rw [e, Int32.toInt_ofNat_of_lt (by omega)] at l
  exact ⟨e, by omega⟩
theorem z_lns.fin {f : Nat → Int32} {n c : Nat} {a e : Int32} {b0 b : zB} (hL : z_lns (z_T f n) 17 0 b0 = z_lns (z_T f n) (17 - c) c b) (hZ : z_R a e b.1) (h : ¬ e = 0 ∨ z_K f n b.1.1 = 1) : e = (z_lns (z_T f n) 17 0 b0).1.2.1 := by
  rw [hL, hZ.2]
  cases w : 17 - c with
  | zero => rfl
  | succ d =>
    rcases h with h | h
    · rw [z_lns, if_neg (fun z => h (hZ.2.trans z.1))]
    · rw [z_lns, if_neg (fun z => z.2 h)]
