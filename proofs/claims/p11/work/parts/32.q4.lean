/-! the class's levels, by number -/
def z_lvf (T : zT) (P : zS → zS) : Nat → zS → zS
  | 0 => P
  | 1 => z_tm T P
  | 2 => z_sm T P
  | 3 => z_te T P
  | _ + 4 => z_ts T P
section ZP
variable {f : Nat → Int32} {n m d : Nat} {Z : zS} {G : Nat → List Int32} {k : Int32} {P : zS → zS} {X : zS → zS}
theorem z_p.can (h : Z.2.1 = 0) (q : ¬ z_can k) (e : k = z_K f n Z.1) : z_p (z_T f n) G m X Z = z_fail (z_T f n) 1 Z := by
  have e : k = (z_T f n).1 Z.1 := e
  subst e
  unfold z_p; rw [if_neg (fun z => z h), if_pos q]
theorem z_p.told (h : Z.2.1 = 0) (q : z_can k) (e : k = z_K f n Z.1) (e3 : k = 3) (r : z_ix G (z_W f n Z.1) m = -1) : z_p (z_T f n) G m X Z = z_fail (z_T f n) 2 Z := by
  have e : k = (z_T f n).1 Z.1 := e
  subst e
  have r : z_ix G ((z_T f n).2.2.1 Z.1) m = -1 := r
  unfold z_p; rw [if_neg (fun z => z h), if_neg (fun z => z q), if_pos ⟨e3, r⟩]
theorem z_p.on (h : Z.2.1 = 0) (q : z_can k) (e : k = z_K f n Z.1) (r : ¬ (k = 3 ∧ z_ix G (z_W f n Z.1) m = -1)) : z_p (z_T f n) G m X Z = X Z := by
  have e : k = (z_T f n).1 Z.1 := e
  subst e
  have r : ¬ ((z_T f n).1 Z.1 = 3 ∧ z_ix G ((z_T f n).2.2.1 Z.1) m = -1) := r
  unfold z_p; rw [if_neg (fun z => z h), if_neg (fun z => z q), if_neg r]
theorem z_in.not (e : k = z_K f n Z.1) (q : k = 26) : z_in (z_T f n) G m P Z = z_emit 26 0 (P (z_next Z)) := by
  have e : k = (z_T f n).1 Z.1 := e
  subst e
  unfold z_in; rw [if_pos q]
theorem z_in.opn (e : k = z_K f n Z.1) (q : k = 4) : z_in (z_T f n) G m P Z = z_pass (z_T f n) 5 (z_ts (z_T f n) P (z_next Z)) := by
  have e : k = (z_T f n).1 Z.1 := e
  subst e
  unfold z_in; rw [if_neg (fun z => absurd (z.symm.trans q) (by decide)), if_pos q]
theorem z_in.item (e : k = z_K f n Z.1) (q : k = 19) : z_in (z_T f n) G m P Z = z_item (z_T f n) (z_next Z) := by
  have e : k = (z_T f n).1 Z.1 := e
  subst e
  unfold z_in; rw [if_neg (fun z => absurd (z.symm.trans q) (by decide)), if_neg (fun z => absurd (z.symm.trans q) (by decide)), if_pos q]
theorem z_in.oth (e : k = z_K f n Z.1) (q1 : ¬ k = 26) (q2 : ¬ k = 4) (q3 : ¬ k = 19) : z_in (z_T f n) G m P Z = z_next (z_emit k (if k = 2 then z_N f n Z.1 else if k = 3 then z_ix G (z_W f n Z.1) m else 0) Z) := by
  have e : k = (z_T f n).1 Z.1 := e
  subst e
  unfold z_in; rw [if_neg q1, if_neg q2, if_neg q3]; try rfl
end ZP
/-! the reference's reading: where it stands and its fault -/
def z_R (a e : Int32) (Z : zS) : Prop := a.toInt = Z.1 ∧ e = Z.2.1
/-- its rows: tokens, and the table of words -/
def z_Q (f : Nat → Int32) (n : Nat) (so pl : Nat → Int32) (va wd : Nat → Int64) (N : Int) : Prop :=
  (∃ M : Nat, N = M ∧ M ≤ 1000 ∧ z_tok f n so pl va M) ∧ ∀ k, k < 15 → wd k = z_rw (z_wd (z_od k))
section ZR
variable {f : Nat → Int32} {n m d : Nat} {Z Y : zS} {G : Nat → List Int32} {a e a1 e1 x lv : Int32} {so pl : Nat → Int32} {va wd : Nat → Int64} {N : Int} {P X : zS → zS} {b : zB}
end ZR
theorem z_R.f {Z : zS} {a : Int32} {e : Int32} (h : z_R a e Z) : e = Z.2.1 := h.2
section ZR
variable {f : Nat → Int32} {n m d : Nat} {Z Y : zS} {G : Nat → List Int32} {a e a1 e1 x lv : Int32} {so pl : Nat → Int32} {va wd : Nat → Int64} {N : Int} {P X : zS → zS} {b : zB}
theorem z_R.o (h : z_R a e Z) : a.toInt = Z.1 := h.1
theorem z_R.i (h : z_R a e Z) : a.toNatClampNeg = Z.1 := by have := h.1; rw [g_clamp]; omega
theorem z_Q.at (h : z_Q f n so pl va wd N) (hz : z_R a e Z) (ha : a.toInt ≤ N) : ∃ M : Nat, z_tok f n so pl va M ∧ Z.1 ≤ M ∧ M ≤ 1000 ∧ N = M := by
  obtain ⟨⟨M, e1, e2, e3⟩, -⟩ := h
  exact ⟨M, e3, by have := hz.1; omega, e2, e1⟩
theorem z_Q.k2 (h : z_Q f n so pl va wd N) (hz : z_R a e Z) (ha : a.toInt ≤ N) : so a.toNatClampNeg = 2 ↔ z_K f n Z.1 = 2 := by
  obtain ⟨M, t, l, -, -⟩ := h.at hz ha
  rw [hz.i]; exact t.k2 l
theorem z_Q.k1 (h : z_Q f n so pl va wd N) (hz : z_R a e Z) (ha : a.toInt ≤ N) : so a.toNatClampNeg = 0 ↔ z_K f n Z.1 = 1 := by
  obtain ⟨M, t, l, -, -⟩ := h.at hz ha
  rw [hz.i]; exact t.e l
theorem z_Q.nu (h : z_Q f n so pl va wd N) (hz : z_R a e Z) (ha : a.toInt ≤ N) (k : z_K f n Z.1 = 2) : va a.toNatClampNeg = (z_N f n Z.1).toInt64 := by
  obtain ⟨M, t, l, -, -⟩ := h.at hz ha
  rw [hz.i]; exact t.n l k
end ZR
theorem z_Q.pl {f : Nat → Int32} {n : Nat} {Z : zS} {a : Int32} {e : Int32} {so : Nat → Int32} {pl : Nat → Int32} {va : Nat → Int64} {wd : Nat → Int64} {N : Int} (h : z_Q f n so pl va wd N) (hz : z_R a e Z) (ha : a.toInt ≤ N) : pl a.toNatClampNeg = z_PL f n Z.1 := by
  obtain ⟨M, t, l, -, -⟩ := h.at hz ha
  rw [hz.i]; exact t.pl l
section ZR
variable {f : Nat → Int32} {n m d : Nat} {Z Y : zS} {G : Nat → List Int32} {a e a1 e1 x lv : Int32} {so pl : Nat → Int32} {va wd : Nat → Int64} {N : Int} {P X : zS → zS} {b : zB}
theorem z_Q.s (h : z_Q f n so pl va wd N) (hz : z_R a e Z) (ha : a.toInt ≤ N) (hx : z_sg x ≠ 0) (hl : ¬ x_le x) (hd : ¬ x_di x) : g_isS e so va a x ↔ (Z.2.1 = 0 ∧ z_K f n Z.1 = z_sg x) := by
  obtain ⟨M, t, l, -, -⟩ := h.at hz ha
  unfold g_isS
  rw [hz.i, hz.2]
  constructor
  · exact fun ⟨p, q⟩ => ⟨p, (t.s l hx hl hd).mp q⟩
  · exact fun ⟨p, q⟩ => ⟨p, (t.s l hx hl hd).mpr q⟩
theorem z_Q.w (h : z_Q f n so pl va wd N) (hz : z_R a e Z) (ha : a.toInt ≤ N) (hx : x.toNatClampNeg < 15) : g_isW e so va a wd x ↔ (Z.2.1 = 0 ∧ z_K f n Z.1 = z_kk x.toNatClampNeg) := by
  obtain ⟨M, t, l, -, -⟩ := h.at hz ha
  unfold g_isW
  rw [hz.i, hz.2]
  constructor
  · exact fun ⟨p, q⟩ => ⟨p, (t.w l h.2 hx).mp q⟩
  · exact fun ⟨p, q⟩ => ⟨p, (t.w l h.2 hx).mpr q⟩
theorem z_Q.nm (h : z_Q f n so pl va wd N) (hz : z_R a e Z) (ha : a.toInt ≤ N) : g_isN e so va a wd 15 ↔ (Z.2.1 = 0 ∧ z_K f n Z.1 = 3) := by
  obtain ⟨M, t, l, -, -⟩ := h.at hz ha
  unfold g_isN
  rw [hz.i, hz.2]
  constructor
  · exact fun ⟨p, q⟩ => ⟨p, (t.nm l h.2).mp q⟩
  · exact fun ⟨p, q⟩ => ⟨p, (t.nm l h.2).mpr q⟩
theorem z_Q.lt (h : z_Q f n so pl va wd N) (hz : z_R a e Z) (ha : a.toInt ≤ N) (k : z_K f n Z.1 ≠ 1) : a.toInt < N ∧ Z.1 < 1000 := by
  obtain ⟨M, t, l, l2, l3⟩ := h.at hz ha
  have := hz.1
  by_cases q : Z.1 = M
  · refine absurd ((t.e l).mp ?_) k
    rw [q]; exact t.2.1
  · exact ⟨by omega, by omega⟩
theorem z_R.next (h : z_R a e Z) (hb : 0 ≤ a.toInt ∧ a.toInt < 1000) : z_R (a + 1) e (z_next Z) := by
  have u := (g_up (i := a) hb.1 (by omega)).1
  refine ⟨?_, h.2⟩
  show _ = ((Z.1 + 1 : Nat) : Int)
  have := h.1
  omega
theorem z_R.emit {c y : Int32} (h : z_R a e Z) : z_R a e (z_emit c y Z) := by
  unfold z_R at *
  rw [z_emit.i, z_emit.e]; exact h
theorem z_R.fail1 (hQ : z_Q f n so pl va wd N) (h : z_R a e Z) (ha : a.toInt ≤ N) (q : e = 0) (w : e1 = x + 16 * pl a.toNatClampNeg) : z_R a e1 (z_fail (z_T f n) x Z) := by
  rw [z_fail.o (h.2.symm.trans q)]
  refine ⟨h.1, ?_⟩
  show e1 = x + 16 * z_PL f n Z.1
  rw [w, hQ.pl h ha]
theorem z_R.fail0 (h : z_R a e Z) (q : ¬ e = 0) : z_R a e (z_fail (z_T f n) x Z) := by
  rw [z_fail.f (fun z => q (h.2.trans z))]; exact h
end ZR
