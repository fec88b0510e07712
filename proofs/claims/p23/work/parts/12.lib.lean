/-! constructors: the world is a list X ++ C: what stood there with the object under way in it (X), and what has been made since (C) -/
theorem qRA_u {s : State} {ty : FieldType} (h : va_RA s = va_RA s) : True := trivial
theorem q_csub {X C C' C2 : va_W} {n m : Nat} {y : Nat × va_E} (hn : n = X.length + m) (hm : C.set m y = C') : (X ++ C).set n y ++ C2 = X ++ (C' ++ C2) := by
  subst hn
  rw [List.set_append_right _ _ (by omega), Nat.add_sub_cancel_left, hm, List.append_assoc]
theorem q_cat {X C : va_W} {n m : Nat} {x : Nat × va_E} (hn : n = X.length + m) (hm : C[m]? = some x) : (X ++ C)[n]? = some x := by
  subst hn
  rw [List.getElem?_append_right (by omega), Nat.add_sub_cancel_left]; exact hm
theorem q_cthis {D C : va_W} {dd : Nat} {x : Nat × va_E} (h : dd < D.length) : (D.set dd x ++ C)[dd]? = some x := by
  rw [List.getElem?_append_left (by rw [List.length_set]; exact h), List.getElem?_set_self h]
theorem q_cset {D C : va_W} {dd : Nat} {x y : Nat × va_E} (h : dd < D.length) : (D.set dd x ++ C).set dd y = D.set dd y ++ C := by
  rw [List.set_append_left _ _ (by rw [List.length_set]; exact h), List.set_set]
theorem q_c0 {D : va_W} {dd : Nat} {x : Nat × va_E} (h : D[dd]? = some x) : D.set dd x ++ [] = D := by
  rw [List.append_nil]
  obtain ⟨h1, h2⟩ := List.getElem?_eq_some_iff.mp h
  rw [← h2]; exact List.set_getElem_self h1
theorem qsX_self (u : qS) : qsX u u.2.2.2.2 = u := rfl
section QCTOR
variable {p : Program} {l : Launch} {e : Env} {R : Room} {s : State} {m : MethodId} {args : Array Value} {below : List Frame} {meth : Method} {c : Code} {H H0 : Heap} {locs : List Loc} {cells slots : Nat} {Q : State → Prop}
variable {cc : ByteArray} {nL pc : Nat} {ls : Array Slot} {rest st0 As : List Value} {own : String} {E : qE} {A : Nat → Prop} {u : qS} {y : MethodName} {bytes : ByteArray} {maxL index mc ms f : Nat} {D C : va_W} {dd T : Nat}
theorem c_put (hF : qX p m c cc nL s args own) {a ci : Nat} {fs : List Value} (hU : qH E A T (qsX u (D.set dd (a, .inr (ci, fs)) ++ C)) s H) (hS : va_S A H0 H locs) (hdd : dd < D.length) (hdg : decode cc pc = .ok (.putfield index, 3)) (k : Nat) {Cn : String} {TT : u_T} {N : Nat} (hc : vwCl[ci]? = some (Cn, TT, N)) (hin : ∀ w ∈ u_ws Cn TT N, w ∈ qw_tbl) (ty0 : Nat → FieldType) (hty : ∀ k, k < N → parseFieldDescriptor (TT k).2.2.1 = some (ty0 k)) (hnm : ∀ a, a < N → ∀ b, b < N → a ≠ b → (TT a).2.1 ≠ (TT b).2.1) (hk : k < N) (hl : Cond.fieldLink own index Cn (TT k).2.1 (TT k).2.2.1 ∈ qw_tbl) (hsm : (TT k).1 = Cn) (hfin : (TT k).2.2.2 = false ∨ ((TT k).2.2.2 = true ∧ meth.name = "<init>" ∧ (TT k).1 = own)) {v : Value} (hnar : narrow (ty0 k) v = v) (hfit : fits (ty0 k) v = true) (hlen : k < fs.length) {fs' : List Value} (hfs : fs.set k v = fs')
    (kk : ∀ (H1 : Heap) (locs1 : List Loc), qH E A T (qsX u (D.set dd (a, .inr (ci, fs')) ++ C)) s H1 → va_S A H0 H1 locs1 → W p l e R s m args below meth c H1 locs1 cells slots Q (F0 m (pc + 3) ls rest)) : W p l e R s m args below meth c H locs cells slots Q (F0 m pc ls (v :: .ref a :: rest)) := by
  refine q_putd hF hU hS hdg dd ci k (a := a) (fs := fs) (q_cthis hdd) hc hin ty0 hty hnm hk hl hsm hfin hnar hfit hlen (fun u' H1 locs1 hu' _ h1 h2 => kk H1 locs1 ?_ h2)
  rw [hu', hfs] at h1
  have e1 : qsX (qsX u (D.set dd (a, .inr (ci, fs)) ++ C)) ((D.set dd (a, .inr (ci, fs)) ++ C).set dd (a, .inr (ci, fs'))) = qsX u (D.set dd (a, .inr (ci, fs')) ++ C) := by rw [q_cset hdd]; rfl
  rw [← e1]; exact h1
theorem c_get (hF : qX p m c cc nL s args own) {a ci : Nat} {fs : List Value} (hU : qH E A T (qsX u (D.set dd (a, .inr (ci, fs)) ++ C)) s H) (hdd : dd < D.length) (hdg : decode cc pc = .ok (.getfield index, 3)) (k : Nat) {Cn : String} {TT : u_T} {N : Nat} (hc : vwCl[ci]? = some (Cn, TT, N)) (hin : ∀ w ∈ u_ws Cn TT N, w ∈ qw_tbl) (hk : k < N) (hl : Cond.fieldLink own index Cn (TT k).2.1 (TT k).2.2.1 ∈ qw_tbl) (hsm : (TT k).1 = Cn) {v : Value} (hv : fs[k]? = some v)
    (kk : W p l e R s m args below meth c H locs cells slots Q (F0 m (pc + 3) ls (v :: rest))) : W p l e R s m args below meth c H locs cells slots Q (F0 m pc ls (.ref a :: rest)) :=
  q_getd hF hU hdg dd ci k (a := a) (fs := fs) (q_cthis hdd) hc hin hk hl hsm hv kk
theorem c_new (hF : qX p m c cc nL s args own) {X : va_W} (hU : qH E A T (qsX u (X ++ C)) s H) (hS : va_S A H0 H locs) (hA : ∀ q : Nat, H0.size ≤ q → A q) (hdg : decode cc pc = .ok (.new index, 3)) (ci : Nat) {Cn : String} {TT : u_T} {N : Nat} (hc : vwCl[ci]? = some (Cn, TT, N)) (hin : ∀ w ∈ u_ws Cn TT N, w ∈ qw_tbl) (ty : Nat → FieldType) (hty : ∀ k, k < N → parseFieldDescriptor (TT k).2.2.1 = some (ty k))
    (w1 : Cond.classLink own index Cn ∈ qw_tbl) (w2 : Cond.instantiable Cn N ∈ qw_tbl) (w3 : Cond.initialized Cn ∈ qw_tbl) (fs : List Value) (hfs : ∀ j, j < N → defaultValue (ty j) = vp_V fs j) (hcells : cells + 1 ≤ R.cells) (hslots : slots + N ≤ R.slots) {k' n' : Nat} (hk' : cells + 1 = k') (hn' : slots + N = n')
    (kk : ∀ (q : Nat) (H1 : Heap), qH E A T (qsX u (X ++ (C ++ [(q, .inr (ci, fs))]))) s H1 → va_S A H0 H1 locs → W p l e R s m args below meth c H1 locs k' n' Q (F0 m (pc + 3) ls (.ref q :: rest))) : W p l e R s m args below meth c H locs cells slots Q (F0 m pc ls rest) := by
  subst hk' hn'
  refine q_new hF hU hS hA hdg ci hc hin ty hty w1 w2 w3 fs hfs hcells hslots (fun q H1 h1 h2 => kk q H1 ?_ h2)
  rw [← List.append_assoc]; exact h1
/-- arrays of numbers: of the class that the tables name -/
theorem c_newa (hF : qX p m c cc nL s args own) {X : va_W} (hU : qH E A T (qsX u (X ++ C)) s H) (hS : va_S A H0 H locs) (hA : ∀ q : Nat, H0.size ≤ q → A q) {atype : ArrayType} (hdg : decode cc pc = .ok (.newarray atype, 2)) (t : Nat) {ty : FieldType} (hty : newarray.typeOf atype = ty) (hq : (qT E)[t]? = some (E.2.1 t, ty)) (hw : Cond.arrayClass ty ∈ qw_tbl) (huq : ∀ c c' : ClassId, va_RA s c ty → va_RA s c' ty → c = c')
    {n : Int32} {N' : Nat} (a0 : vp_A) (ha : ∀ cA : ClassId, vp_cell cA a0 = arrV cA N' (fun _ => defaultValue ty)) (hn : ¬ n < 0) (hN : n.toNatClampNeg = N') (hbytes : N' * componentBytes ty ≤ 536870912) (hcells : cells + 1 ≤ R.cells) (hslots : slots + N' ≤ R.slots) {k' n' : Nat} (hk' : cells + 1 = k') (hn' : slots + N' = n')
    (kk : ∀ (q : Nat) (H1 : Heap), qH E A T (qsX u (X ++ (C ++ [(q, .inl (E.2.1 t, a0))]))) s H1 → va_S A H0 H1 locs → W p l e R s m args below meth c H1 locs k' n' Q (F0 m (pc + 2) ls (.ref q :: rest))) : W p l e R s m args below meth c H locs cells slots Q (F0 m pc ls (.int n :: rest)) := by
  subst hk' hn'
  refine va_newa (D := E.1) (a0 := a0) hF.1 hF.2.1 (by rw [hty]; exact hF.2.2.2.2 _ hw) hty hU.1 hU.2.1 hU.2.2.1 hS hA ha hn hN hbytes hcells hslots hdg (fun q cA H1 hK h1 h2 h3 => ?_)
  have hlen : (qT E)[(qT E).length]? = none := by simp
  have hcA : cA = E.2.1 t := huq _ _ (hK.2 (qT E).length (cA, ty) (by rw [List.getElem?_append_right (Nat.le_refl _), Nat.sub_self]; rfl)).2 (hU.1.2 t _ hq).2
  subst hcA
  rw [qW_app] at h1 h2
  refine kk q H1 ⟨hU.1, ?_, ?_, hU.2.2.2⟩ h3
  · rw [← List.append_assoc]; exact h1
  · rw [← List.append_assoc]; exact h2
theorem c_newq (hF : qX p m c cc nL s args own) {X : va_W} (hU : qH E A T (qsX u (X ++ C)) s H) (hS : va_S A H0 H locs) (hA : ∀ q : Nat, H0.size ≤ q → A q) (hdg : decode cc pc = .ok (.anewarray index, 3)) (t : Nat) {Cn : String} (hq : (qT E)[t]? = some (E.2.1 t, .object Cn)) (w1 : Cond.classLink own index Cn ∈ qw_tbl) (hover : va_AO Cn s) (huq : ∀ c c' : ClassId, va_RA s c (.object Cn) → va_RA s c' (.object Cn) → c = c')
    {n : Int32} {N' : Nat} (hn : ¬ n < 0) (hN : n.toNatClampNeg = N') (hbytes : N' * 4 ≤ 536870912) (hcells : cells + 1 ≤ R.cells) (hslots : slots + N' ≤ R.slots) {k' n' : Nat} (hk' : cells + 1 = k') (hn' : slots + N' = n')
    (kk : ∀ (q : Nat) (H1 : Heap), qH E A T (qsX u (X ++ (C ++ [(q, .inl (E.2.1 t, N', .inr (.inr (.inr (.inr (fun _ => none))))))]))) s H1 → va_S A H0 H1 locs → W p l e R s m args below meth c H1 locs k' n' Q (F0 m (pc + 3) ls (.ref q :: rest))) : W p l e R s m args below meth c H locs cells slots Q (F0 m pc ls (.int n :: rest)) := by
  subst hk' hn'
  refine va_newq (D := E.1) hF.1 hF.2.1 hF.2.2.2.1 (hF.2.2.2.2 _ w1) hover hU.1 hU.2.1 hU.2.2.1 hS hA hn hN hbytes hcells hslots hdg (fun q cA H1 hK h1 h2 h3 => ?_)
  have hcA : cA = E.2.1 t := huq _ _ (hK.2 (qT E).length (cA, .object Cn) (by rw [List.getElem?_append_right (Nat.le_refl _), Nat.sub_self]; rfl)).2 (hU.1.2 t _ hq).2
  subst hcA
  rw [qW_app] at h1 h2
  refine kk q H1 ⟨hU.1, ?_, ?_, hU.2.2.2⟩ h3
  · rw [← List.append_assoc]; exact h1
  · rw [← List.append_assoc]; exact h2
theorem c_lst (hF : qX p m c cc nL s args own) {X C' : va_W} (hU : qH E A T (qsX u (X ++ C)) s H) (hS : va_S A H0 H locs) (hdg : decode cc pc = .ok (.lastore, 1)) (mm : Nat) {a n : Nat} {g : Nat → Int64} (hm : C[mm]? = some (a, .inl (E.2.1 3, n, .inr (.inl g)))) {i : Int32} {x : Int64} (hin : vp_in i n) (hC : C.set mm (a, .inl (E.2.1 3, n, .inr (.inl (vp_updL g i.toNatClampNeg x)))) = C')
    (kk : ∀ (H1 : Heap) (locs1 : List Loc), qH E A T (qsX u (X ++ C')) s H1 → va_S A H0 H1 locs1 → W p l e R s m args below meth c H1 locs1 cells slots Q (F0 m (pc + 1) ls rest)) : W p l e R s m args below meth c H locs cells slots Q (F0 m pc ls (.long x :: .int i :: .ref a :: rest)) := by
  have hd : (qsX u (X ++ C)).2.2.2.2[X.length + mm]? = some (a, .inl (E.2.1 3, n, .inr (.inl g))) := q_cat rfl hm
  refine va_last (D := E.1) hF.1 hF.2.1 hU.1 hU.2.1 hU.2.2.1 hS _ 3 (cA := E.2.1 3) (n := n) (f := g) (qW_dyn hd) rfl hin hdg (fun H1 locs1 h1 h2 h3 => ?_)
  rw [qW_setX] at h1 h2
  have e1 : (X ++ C).set (X.length + mm) (a, .inl (E.2.1 3, n, .inr (.inl (vp_updL g i.toNatClampNeg x)))) = X ++ C' := by
    have := q_csub (X := X) (C2 := []) rfl hC
    rw [List.append_nil, List.append_nil] at this; exact this
  refine kk H1 locs1 ⟨hU.1, ?_, ?_, hU.2.2.2⟩ h3
  · rw [← e1]; exact h1
  · rw [← e1]; exact h2
theorem c_ist (hF : qX p m c cc nL s args own) {X C' : va_W} (hU : qH E A T (qsX u (X ++ C)) s H) (hS : va_S A H0 H locs) (hdg : decode cc pc = .ok (.iastore, 1)) (mm : Nat) {a n : Nat} {g : Nat → Int32} (hm : C[mm]? = some (a, .inl (E.2.1 0, n, .inl g))) {i : Int32} {x : Int32} (hin : vp_in i n) (hC : C.set mm (a, .inl (E.2.1 0, n, .inl (upd g i.toNatClampNeg x))) = C')
    (kk : ∀ (H1 : Heap) (locs1 : List Loc), qH E A T (qsX u (X ++ C')) s H1 → va_S A H0 H1 locs1 → W p l e R s m args below meth c H1 locs1 cells slots Q (F0 m (pc + 1) ls rest)) : W p l e R s m args below meth c H locs cells slots Q (F0 m pc ls (.int x :: .int i :: .ref a :: rest)) := by
  have hd : (qsX u (X ++ C)).2.2.2.2[X.length + mm]? = some (a, .inl (E.2.1 0, n, .inl g)) := q_cat rfl hm
  refine va_iast (D := E.1) hF.1 hF.2.1 hU.1 hU.2.1 hU.2.2.1 hS _ 0 (cA := E.2.1 0) (n := n) (f := g) (qW_dyn hd) rfl hin hdg (fun H1 locs1 h1 h2 h3 => ?_)
  rw [qW_setX] at h1 h2
  have e1 : (X ++ C).set (X.length + mm) (a, .inl (E.2.1 0, n, .inl (upd g i.toNatClampNeg x))) = X ++ C' := by
    have := q_csub (X := X) (C2 := []) rfl hC
    rw [List.append_nil, List.append_nil] at this; exact this
  refine kk H1 locs1 ⟨hU.1, ?_, ?_, hU.2.2.2⟩ h3
  · rw [← e1]; exact h1
  · rw [← e1]; exact h2
end QCTOR
theorem uqI {s : State} {c c' : ClassId} (h : va_RA s c .int) (h' : va_RA s c' .int) : c = c' := Option.some.inj (Eq.trans (Eq.symm h) h')
theorem uqZ {s : State} {c c' : ClassId} (h : va_RA s c .boolean) (h' : va_RA s c' .boolean) : c = c' := Option.some.inj (Eq.trans (Eq.symm h) h')
theorem uqB {s : State} {c c' : ClassId} (h : va_RA s c .byte) (h' : va_RA s c' .byte) : c = c' := Option.some.inj (Eq.trans (Eq.symm h) h')
theorem uqJ {s : State} {c c' : ClassId} (h : va_RA s c .long) (h' : va_RA s c' .long) : c = c' := Option.some.inj (Eq.trans (Eq.symm h) h')
theorem uqO {s : State} {Cn : String} {c c' : ClassId} (h : va_RA s c (.object Cn)) (h' : va_RA s c' (.object Cn)) : c = c' := by
  obtain ⟨_, _, _, _, _, h4⟩ := h
  obtain ⟨_, _, _, _, _, h5⟩ := h'
  exact Option.some.inj (h4.symm.trans h5)
