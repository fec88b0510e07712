/-! reading, as functions of the tokens: kinds, numbers, words, places -/
abbrev zT := (Nat → Int32) × (Nat → Int32) × (Nat → List Int32) × (Nat → Int32)
/-- how many are read, the fault, the code (the last first) -/
abbrev zS := Nat × Int32 × List (Int32 × Int32)
def z_ix (G : Nat → List Int32) (w : List Int32) : Nat → Int32
  | 0 => -1
  | m + 1 => if z_ix G w m ≠ -1 then z_ix G w m else if G m = w then Int32.ofNat m else -1
theorem z_ix.no {G : Nat → List Int32} {w : List Int32} : ∀ m : Nat, (∀ j, j < m → G j ≠ w) → z_ix G w m = -1
  | 0, _ => rfl
  | m + 1, h => by
    have e := z_ix.no m (fun j hj => h j (by omega))
    unfold z_ix
    rw [e, if_neg (fun q => q rfl), if_neg (h m (by omega))]
theorem z_ix.at {G : Nat → List Int32} {w : List Int32} {j : Nat} (hg : G j = w) (h : ∀ i, i < j → G i ≠ w) (hj : j < 1000) : ∀ m : Nat, j < m → z_ix G w m = Int32.ofNat j
  | 0, q => absurd q (by omega)
  | m + 1, q => by
    have ne : Int32.ofNat j ≠ -1 := fun z => by
      have a := congrArg Int32.toInt z
      rw [Int32.toInt_ofNat_of_lt (by omega)] at a
      have b : (-1 : Int32).toInt = -1 := rfl
      omega
    unfold z_ix
    by_cases e : j = m
    · subst e
      rw [z_ix.no j h, if_neg (fun q => q rfl), if_pos hg]
    · have ih := z_ix.at hg h hj m (by omega)
      rw [ih, if_pos ne]
theorem z_ix.last {G : Nat → List Int32} {w : List Int32} {m : Nat} (hd : ∀ i j, i < j → j < m + 1 → G i ≠ G j) (hg : G m = w) : z_ix G w (m + 1) = Int32.ofNat m := by
  have e := z_ix.no (G := G) (w := w) m (fun j hj q => hd j m hj (by omega) (q.trans hg.symm))
  rw [z_ix, e, if_neg (fun q => q rfl), if_pos hg]
theorem z_ix.skip {G : Nat → List Int32} {w : List Int32} {m : Nat} (hg : G m ≠ w) : z_ix G w (m + 1) = z_ix G w m := by
  rw [z_ix]
  split
  · rfl
  · rename_i z
    have e : z_ix G w m = -1 := Classical.byContradiction (fun q => z q)
    first | exact e.symm | (rw [if_neg hg]; exact e.symm)
def z_fail (T : zT) (k : Int32) (s : zS) : zS := if s.2.1 = 0 then (s.1, k + 16 * T.2.2.2 s.1, s.2.2) else s
def z_next (s : zS) : zS := (s.1 + 1, s.2)
def z_emit (c x : Int32) (s : zS) : zS := if s.2.1 = 0 then (s.1, s.2.1, (c, x) :: s.2.2) else s
def z_pass (T : zT) (k : Int32) (s : zS) : zS := if s.2.1 ≠ 0 then s else if T.1 s.1 = k then z_next s else z_fail T 1 s
def z_lvl (k : Int32) : Int32 := if k = 17 ∨ k = 18 then 0 else if k = 6 ∨ k = 7 then 1 else if k = 8 ∨ k = 9 then 2 else if k = 10 then 3 else 4
def z_lp (T : zT) (lv : Int32) (X : zS → zS) : Nat → zS → zS
  | 0, s => s
  | n + 1, s => if s.2.1 = 0 ∧ z_lvl (T.1 s.1) = lv then z_lp T lv X n (z_emit (T.1 s.1) 0 (X (z_next s))) else s
def z_tm (T : zT) (P : zS → zS) (s : zS) : zS := z_lp T 3 P 1000 (P s)
def z_sm (T : zT) (P : zS → zS) (s : zS) : zS := z_lp T 2 (z_tm T P) 1000 (z_tm T P s)
def z_te (T : zT) (P : zS → zS) (s : zS) : zS := z_lp T 1 (z_sm T P) 1 (z_sm T P s)
def z_ts (T : zT) (P : zS → zS) (s : zS) : zS := z_lp T 0 (z_te T P) 1000 (z_te T P s)
def z_item (T : zT) (s : zS) : zS := if T.1 s.1 ≠ 2 then z_fail T 1 s else if 12 ≤ T.2.1 s.1 then z_fail T 4 s else z_next (z_emit 19 (T.2.1 s.1) s)
abbrev z_can (k : Int32) : Prop := k = 2 ∨ k = 3 ∨ k = 4 ∨ (19 ≤ k ∧ k ≤ 26)

def z_p (T : zT) (G : Nat → List Int32) (m : Nat) (X : zS → zS) (s : zS) : zS :=
  if s.2.1 ≠ 0 then s else if ¬ z_can (T.1 s.1) then z_fail T 1 s else if T.1 s.1 = 3 ∧ z_ix G (T.2.2.1 s.1) m = -1 then z_fail T 2 s else X s
def z_in (T : zT) (G : Nat → List Int32) (m : Nat) (P : zS → zS) (s : zS) : zS :=
  if T.1 s.1 = 26 then z_emit 26 0 (P (z_next s)) else if T.1 s.1 = 4 then z_pass T 5 (z_ts T P (z_next s)) else if T.1 s.1 = 19 then z_item T (z_next s)
  else z_next (z_emit (T.1 s.1) (if T.1 s.1 = 2 then T.2.1 s.1 else if T.1 s.1 = 3 then z_ix G (T.2.2.1 s.1) m else 0) s)
def z_part (T : zT) (G : Nat → List Int32) (m : Nat) : Nat → zS → zS
  | 0 => z_p T G m (z_fail T 5)
  | d + 1 => z_p T G m (z_in T G m (z_part T G m d))
/-- a whole one -/
def z_E (T : zT) (G : Nat → List Int32) (m : Nat) : zS → zS := z_ts T (z_part T G m 4)
def z_end (T : zT) (k x : Int32) (s : zS) : zS := z_emit k x (z_pass T 11 s)
def z_aom (T : zT) (G : Nat → List Int32) (m : Nat) (k : Int32) (s : zS) : zS :=
  z_end T k 0 (if k = 13 then z_E T G m (z_pass T 14 (z_E T G m s)) else z_E T G m s)
def z_bon (T : zT) (G : Nat → List Int32) (m : Nat) (s : zS) : zS :=
  if T.1 s.1 ≠ 2 then z_fail T 1 s else z_end T 16 (T.2.1 s.1) (z_E T G m (z_pass T 14 (z_next s)))
/-- with the names -/
abbrev zB := zS × (Nat → List Int32) × Nat
def z_let (T : zT) (b : zB) : zB :=
  if T.1 b.1.1 ≠ 3 then (z_fail T 1 b.1, b.2) else if z_ix b.2.1 (T.2.2.1 b.1.1) b.2.2 ≠ -1 then (z_fail T 3 b.1, b.2) else if 8 ≤ b.2.2 then (z_fail T 5 b.1, b.2)
  else if (z_end T 12 (Int32.ofNat b.2.2) (z_E T b.2.1 b.2.2 (z_pass T 7 (z_next b.1)))).2.1 = 0 then
    (z_end T 12 (Int32.ofNat b.2.2) (z_E T b.2.1 b.2.2 (z_pass T 7 (z_next b.1))), fun j => if j = b.2.2 then T.2.2.1 b.1.1 else b.2.1 j, b.2.2 + 1)
  else (z_end T 12 (Int32.ofNat b.2.2) (z_E T b.2.1 b.2.2 (z_pass T 7 (z_next b.1))), b.2)
theorem z_let.eq {T : zT} {G : Nat → List Int32} {m : Nat} {Y : zS} : z_let T (Y, G, m) = if T.1 Y.1 ≠ 3 then (z_fail T 1 Y, G, m) else if z_ix G (T.2.2.1 Y.1) m ≠ -1 then (z_fail T 3 Y, G, m) else if 8 ≤ m then (z_fail T 5 Y, G, m)
  else if (z_end T 12 (Int32.ofNat m) (z_E T G m (z_pass T 7 (z_next Y)))).2.1 = 0 then
    (z_end T 12 (Int32.ofNat m) (z_E T G m (z_pass T 7 (z_next Y))), fun j => if j = m then T.2.2.1 Y.1 else G j, m + 1)
  else (z_end T 12 (Int32.ofNat m) (z_E T G m (z_pass T 7 (z_next Y))), G, m) := by
  unfold z_let
  with_reducible first | done | rfl | dsimp only
def z_ln (T : zT) (n : Nat) (b : zB) : zB :=
  if T.1 b.1.1 ≠ 12 ∧ T.1 b.1.1 ≠ 13 ∧ T.1 b.1.1 ≠ 15 ∧ T.1 b.1.1 ≠ 16 then (z_fail T 1 b.1, b.2) else if 16 ≤ n then (z_fail T 5 b.1, b.2)
  else if T.1 b.1.1 = 12 then z_let T (z_next b.1, b.2) else if T.1 b.1.1 = 16 then (z_bon T b.2.1 b.2.2 (z_next b.1), b.2)
  else (z_aom T b.2.1 b.2.2 (T.1 b.1.1) (z_next b.1), b.2)
def z_lns (T : zT) : Nat → Nat → zB → zB
  | 0, _, b => b
  | q + 1, n, b => if b.1.2.1 = 0 ∧ T.1 b.1.1 ≠ 1 then z_lns T q (n + 1) (z_ln T n b) else b
/-- the whole of a tape: the fault -/
def z_brief (T : zT) : zB := z_lns T 17 0 ((0, 0, []), fun _ => [], 0)
/-! a fault stands -/
section ZF
variable {T : zT} {G : Nat → List Int32} {m : Nat} {s : zS} {k x lv : Int32} {P X : zS → zS}
theorem z_fail.f (h : s.2.1 ≠ 0) : z_fail T k s = s := by unfold z_fail; rw [if_neg h]
theorem z_fail.o (h : s.2.1 = 0) : z_fail T k s = (s.1, k + 16 * T.2.2.2 s.1, s.2.2) := by unfold z_fail; rw [if_pos h]
theorem z_emit.f (h : s.2.1 ≠ 0) : z_emit k x s = s := by unfold z_emit; rw [if_neg h]
theorem z_emit.i : (z_emit k x s).1 = s.1 := by unfold z_emit; split <;> rfl
theorem z_emit.e : (z_emit k x s).2.1 = s.2.1 := by unfold z_emit; split <;> rfl
theorem z_pass.f (h : s.2.1 ≠ 0) : z_pass T k s = s := by unfold z_pass; rw [if_pos h]
theorem z_pass.y (h : s.2.1 = 0) (q : T.1 s.1 = k) : z_pass T k s = z_next s := by unfold z_pass; rw [if_neg (fun z => z h), if_pos q]
theorem z_pass.n (h : s.2.1 = 0) (q : T.1 s.1 ≠ k) : z_pass T k s = z_fail T 1 s := by unfold z_pass; rw [if_neg (fun z => z h), if_neg q]
theorem z_lp.f (n : Nat) (h : s.2.1 ≠ 0) : z_lp T lv X n s = s := by
  cases n with
  | zero => rfl
  | succ n => unfold z_lp; rw [if_neg (fun z => h z.1)]
theorem z_lp.n (n : Nat) (h : z_lvl (T.1 s.1) ≠ lv) : z_lp T lv X n s = s := by
  cases n with
  | zero => rfl
  | succ n => unfold z_lp; rw [if_neg (fun z => h z.2)]
theorem z_lp.y {n : Nat} (h : s.2.1 = 0) (q : z_lvl (T.1 s.1) = lv) : z_lp T lv X (n + 1) s = z_lp T lv X n (z_emit (T.1 s.1) 0 (X (z_next s))) := by
  rw [z_lp, if_pos ⟨h, q⟩]
theorem z_p.f (h : s.2.1 ≠ 0) : z_p T G m X s = s := by unfold z_p; rw [if_pos h]
theorem z_part.f (h : s.2.1 ≠ 0) : ∀ d : Nat, z_part T G m d s = s
  | 0 => z_p.f h
  | _ + 1 => z_p.f h
theorem z_tm.f (hP : P s = s) (h : s.2.1 ≠ 0) : z_tm T P s = s := by unfold z_tm; rw [hP, z_lp.f _ h]
theorem z_sm.f (hP : P s = s) (h : s.2.1 ≠ 0) : z_sm T P s = s := by unfold z_sm; rw [z_tm.f hP h, z_lp.f _ h]
theorem z_te.f (hP : P s = s) (h : s.2.1 ≠ 0) : z_te T P s = s := by unfold z_te; rw [z_sm.f hP h, z_lp.f _ h]
theorem z_ts.f (hP : P s = s) (h : s.2.1 ≠ 0) : z_ts T P s = s := by unfold z_ts; rw [z_te.f hP h, z_lp.f _ h]
theorem z_E.f (h : s.2.1 ≠ 0) : z_E T G m s = s := z_ts.f (z_part.f h 4) h
theorem z_end.f (h : s.2.1 ≠ 0) : z_end T k x s = s := by unfold z_end; rw [z_pass.f h, z_emit.f h]
end ZF
section ZB
variable {Z : zS} {x y : Int32} {G : Nat → List Int32} {m : Nat}
theorem z_fail.ne {T : zT} (hx : Z.2.1 ≠ 0) : (z_fail T x Z).2.1 ≠ 0 := by rw [z_fail.f hx]; exact hx
/-- no way back from a fault -/
theorem z_fail.b {T : zT} (h : (z_fail T x Z).2.1 = 0) : Z.2.1 = 0 := Classical.byContradiction fun q => q (by rw [z_fail.f q] at h; exact h)
theorem z_pass.b {T : zT} (h : (z_pass T x Z).2.1 = 0) : Z.2.1 = 0 := Classical.byContradiction fun q => q (by rw [z_pass.f q] at h; exact h)
theorem z_emit.b (h : (z_emit x y Z).2.1 = 0) : Z.2.1 = 0 := by rw [z_emit.e] at h; exact h
theorem z_part.b {T : zT} {d : Nat} (h : (z_part T G m d Z).2.1 = 0) : Z.2.1 = 0 := Classical.byContradiction fun q => q (by rw [z_part.f q] at h; exact h)
theorem z_E.b {T : zT} (h : (z_E T G m Z).2.1 = 0) : Z.2.1 = 0 := Classical.byContradiction fun q => q (by rw [z_E.f q] at h; exact h)
theorem z_end.b {T : zT} (h : (z_end T x y Z).2.1 = 0) : Z.2.1 = 0 := Classical.byContradiction fun q => q (by rw [z_end.f q] at h; exact h)
theorem z_tm.b {T : zT} {d : Nat} (h : (z_tm T (z_part T G m d) Z).2.1 = 0) : Z.2.1 = 0 := Classical.byContradiction fun q => q (by rw [z_tm.f (z_part.f q d) q] at h; exact h)
theorem z_sm.b {T : zT} {d : Nat} (h : (z_sm T (z_part T G m d) Z).2.1 = 0) : Z.2.1 = 0 := Classical.byContradiction fun q => q (by rw [z_sm.f (z_part.f q d) q] at h; exact h)
theorem z_te.b {T : zT} {d : Nat} (h : (z_te T (z_part T G m d) Z).2.1 = 0) : Z.2.1 = 0 := Classical.byContradiction fun q => q (by rw [z_te.f (z_part.f q d) q] at h; exact h)
theorem z_ts.b {T : zT} {d : Nat} (h : (z_ts T (z_part T G m d) Z).2.1 = 0) : Z.2.1 = 0 := Classical.byContradiction fun q => q (by rw [z_ts.f (z_part.f q d) q] at h; exact h)
theorem z_next.b {Z : zS} (h : (z_next Z).2.1 = 0) : Z.2.1 = 0 := h
end ZB
theorem z_item.b {T : zT} {Z : zS} (h : (z_item T Z).2.1 = 0) : Z.2.1 = 0 := by
  unfold z_item at h
  split at h
  · exact z_fail.b h
  · split at h
    · exact z_fail.b h
    · exact z_emit.b (z_next.b h)
