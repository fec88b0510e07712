/-! further cells: objects that are made while the system runs -/
theorem qW_dyn {E : qE} {T : Nat} {u : qS} {dd : Nat} {x : Nat × va_E} (hd : u.2.2.2.2[dd]? = some x) : (qW E T u)[(qob T).length + ((qar T).length + dd)]? = some x := by
  unfold qW
  rw [List.getElem?_append_right (by rw [List.length_map]; omega), List.length_map, Nat.add_sub_cancel_left, List.getElem?_append_right (by rw [List.length_map]; omega), List.length_map, Nat.add_sub_cancel_left]
  exact hd
theorem qW_setX {E : qE} {T : Nat} {u : qS} {dd : Nat} {y : Nat × va_E} : (qW E T u).set ((qob T).length + ((qar T).length + dd)) y = qW E T (qsX u (u.2.2.2.2.set dd y)) := by
  unfold qW
  rw [List.set_append_right _ _ (by rw [List.length_map]; omega), List.length_map, Nat.add_sub_cancel_left, List.set_append_right _ _ (by rw [List.length_map]; omega), List.length_map, Nat.add_sub_cancel_left]
  rfl
theorem qW_app {E : qE} {T : Nat} {u : qS} {x : Nat × va_E} : qW E T u ++ [x] = qW E T (qsX u (u.2.2.2.2 ++ [x])) := by
  unfold qW
  rw [List.append_assoc, List.append_assoc]
  rfl
section QDYN
variable {p : Program} {l : Launch} {e : Env} {R : Room} {s : State} {m : MethodId} {args : Array Value} {below : List Frame} {meth : Method} {c : Code} {H H0 : Heap} {locs : List Loc} {cells slots : Nat} {Q : State → Prop}
variable {cc : ByteArray} {nL pc : Nat} {ls : Array Slot} {rest st0 As : List Value} {own : String} {E : qE} {A : Nat → Prop} {T : Nat} {u : qS} {y : MethodName} {bytes : ByteArray} {maxL index mc ms f : Nat}
theorem q_new (hF : qX p m c cc nL s args own) (hU : qH E A T u s H) (hS : va_S A H0 H locs) (hA : ∀ q : Nat, H0.size ≤ q → A q) (hdg : decode cc pc = .ok (.new index, 3)) (ci : Nat) {C : String} {TT : u_T} {N : Nat} (hc : vwCl[ci]? = some (C, TT, N)) (hin : ∀ w ∈ u_ws C TT N, w ∈ qw_tbl) (ty : Nat → FieldType) (hty : ∀ k, k < N → parseFieldDescriptor (TT k).2.2.1 = some (ty k))
    (w1 : Cond.classLink own index C ∈ qw_tbl) (w2 : Cond.instantiable C N ∈ qw_tbl) (w3 : Cond.initialized C ∈ qw_tbl) (fs : List Value) (hfs : ∀ j, j < N → defaultValue (ty j) = vp_V fs j) (hcells : cells + 1 ≤ R.cells) (hslots : slots + N ≤ R.slots)
    (kk : ∀ (q : Nat) (H1 : Heap), qH E A T (qsX u (u.2.2.2.2 ++ [(q, .inr (ci, fs))])) s H1 → va_S A H0 H1 locs → W p l e R s m args below meth c H1 locs (cells + 1) (slots + N) Q (F0 m (pc + 3) ls (.ref q :: rest))) : W p l e R s m args below meth c H locs cells slots Q (F0 m pc ls rest) := by
  refine va_new (D := E.1) (ci := ci) (fs := fs) (C := C) (T := TT) (N := N) hF.1 hF.2.1 hF.2.2.2.2 hin ty hty hF.2.2.2.1 (hF.2.2.2.2 _ w1) (hF.2.2.2.2 _ w2) (hF.2.2.2.2 _ w3) hU.1 hU.2.1 hU.2.2.1 hS hA hc hfs hcells hslots hdg (fun q H1 h1 h2 h3 => ?_)
  rw [qW_app] at h1 h2
  exact kk q H1 ⟨hU.1, h1, h2, hU.2.2.2⟩ h3
theorem q_getd (hF : qX p m c cc nL s args own) (hU : qH E A T u s H) (hdg : decode cc pc = .ok (.getfield index, 3)) (dd ci k : Nat) {a : Nat} {fs : List Value} (hd : u.2.2.2.2[dd]? = some (a, .inr (ci, fs))) {C : String} {TT : u_T} {N : Nat} (hc : vwCl[ci]? = some (C, TT, N)) (hin : ∀ w ∈ u_ws C TT N, w ∈ qw_tbl) (hk : k < N) (hl : Cond.fieldLink own index C (TT k).2.1 (TT k).2.2.1 ∈ qw_tbl) (hsm : (TT k).1 = C) {v : Value} (hv : fs[k]? = some v)
    (kk : W p l e R s m args below meth c H locs cells slots Q (F0 m (pc + 3) ls (v :: rest))) : W p l e R s m args below meth c H locs cells slots Q (F0 m pc ls (.ref a :: rest)) :=
  va_get (D := E.1) (ci := ci) (v := v) (C := C) (T := TT) (N := N) hF.1 hF.2.1 hF.2.2.2.2 hin hF.2.2.2.1 hU.1 hU.2.1 _ (fs := fs) (qW_dyn hd) hc k hk (hF.2.2.2.2 _ hl) (fun _ h9 => by rw [hsm] at h9; exact h9) hv hdg kk
theorem q_putd (hF : qX p m c cc nL s args own) (hU : qH E A T u s H) (hS : va_S A H0 H locs) (hdg : decode cc pc = .ok (.putfield index, 3)) (dd ci k : Nat) {a : Nat} {fs : List Value} (hd : u.2.2.2.2[dd]? = some (a, .inr (ci, fs))) {C : String} {TT : u_T} {N : Nat} (hc : vwCl[ci]? = some (C, TT, N)) (hin : ∀ w ∈ u_ws C TT N, w ∈ qw_tbl) (ty0 : Nat → FieldType) (hty : ∀ k, k < N → parseFieldDescriptor (TT k).2.2.1 = some (ty0 k)) (hnm : ∀ a, a < N → ∀ b, b < N → a ≠ b → (TT a).2.1 ≠ (TT b).2.1) (hk : k < N) (hl : Cond.fieldLink own index C (TT k).2.1 (TT k).2.2.1 ∈ qw_tbl) (hsm : (TT k).1 = C) (hfin : (TT k).2.2.2 = false ∨ ((TT k).2.2.2 = true ∧ meth.name = "<init>" ∧ (TT k).1 = own)) {v : Value} (hnar : narrow (ty0 k) v = v) (hfit : fits (ty0 k) v = true) (hlen : k < fs.length)
    (kk : ∀ (u' : qS) (H1 : Heap) (locs1 : List Loc), u' = qsX u (u.2.2.2.2.set dd (a, .inr (ci, fs.set k v))) → u'.2.2.2.2[dd]? = some (a, .inr (ci, fs.set k v)) → qH E A T u' s H1 → va_S A H0 H1 locs1 → W p l e R s m args below meth c H1 locs1 cells slots Q (F0 m (pc + 3) ls rest)) : W p l e R s m args below meth c H locs cells slots Q (F0 m pc ls (v :: .ref a :: rest)) := by
  have hlt := (List.getElem?_eq_some_iff.mp hd).1
  have kk2 : ∀ (H1 : Heap) (locs1 : List Loc), va_P E.1 vwCl ((qW E T u).set ((qob T).length + ((qar T).length + dd)) (a, .inr (ci, fs.set k v))) H1 → va_D A ((qW E T u).set ((qob T).length + ((qar T).length + dd)) (a, .inr (ci, fs.set k v))) → va_S A H0 H1 locs1 → W p l e R s m args below meth c H1 locs1 cells slots Q (F0 m (pc + 3) ls rest) := fun H1 locs1 h1 h2 h3 => by
    rw [qW_setX] at h1 h2
    exact kk _ H1 locs1 rfl (List.getElem?_set_self hlt) ⟨hU.1, h1, h2, hU.2.2.2⟩ h3
  rcases hfin with hfin | ⟨hfin, hin2, hdecl⟩
  · exact va_put (D := E.1) (ci := ci) (v := v) (ty := ty0 k) (C := C) (T := TT) (N := N) hF.1 hF.2.1 hF.2.2.2.2 hin ty0 hty hnm hF.2.2.2.1 hU.1 hU.2.1 hU.2.2.1 hS _ (fs := fs) (qW_dyn hd) hc k hk (hF.2.2.2.2 _ hl) (fun _ h9 => by rw [hsm] at h9; exact h9) hfin (hty k hk) hnar hfit hlen hdg kk2
  · exact va_putF (D := E.1) (ci := ci) (v := v) (ty := ty0 k) (C := C) (T := TT) (N := N) hF.1 hF.2.1 hF.2.2.2.2 hin ty0 hty hnm hF.2.2.2.1 hU.1 hU.2.1 hU.2.2.1 hS _ (fs := fs) (qW_dyn hd) hc k hk (hF.2.2.2.2 _ hl) (fun _ h9 => by rw [hsm] at h9; exact h9) hfin hin2 hdecl (hty k hk) hnar hfit hlen hdg kk2
theorem q_aast (hF : qX p m c cc nL s args own) (hU : qH E A T u s H) (hS : va_S A H0 H locs) (hdg : decode cc pc = .ok (.aastore, 1)) (j n t : Nat) (hj : (qar T)[j]? = some n) (hy : qy n = t) (ht : 3 < t) (dd ci : Nat) {v : Nat} {vs : List Value} (hd : u.2.2.2.2[dd]? = some (v, .inr (ci, vs))) {r : vw_C} (hc : vwCl[ci]? = some r) (hty : (qT E)[t]? = some (E.2.1 t, .object r.1)) {i : Int32} (hin : vp_in i (ql n))
    (kk : ∀ (f' : Nat → Option Nat) (H1 : Heap) (locs1 : List Loc), f' = va_up (u.2.2.2.1 n) i.toNatClampNeg (some v) → qH E A T (qsR u n f') s H1 → va_S A H0 H1 locs1 → W p l e R s m args below meth c H1 locs1 cells slots Q (F0 m (pc + 1) ls rest)) : W p l e R s m args below meth c H locs cells slots Q (F0 m pc ls (.ref v :: .int i :: .ref (E.2.2 n) :: rest)) := by
  refine va_astq (D := E.1) hF.1 hF.2.1 hU.1 hU.2.1 hU.2.2.1 hS ((qob T).length + j) t ((qob T).length + ((qar T).length + dd)) ci (cA := E.2.1 t) (r := r) (n := ql n) (v := v) (vs := vs) (f := u.2.2.2.1 n) (by rw [qW_ar hj, qac, qe_4 hy ht]) hty (qW_dyn hd) hc hin hdg (fun H1 locs1 h1 h2 h3 => ?_)
  rw [qW_setR _ hj hy ht] at h1 h2
  exact kk _ H1 locs1 rfl ⟨hU.1, h1, h2, hU.2.2.2⟩ h3
theorem q_runI {Qc : Array Value → State → Outcome → State → Prop} {b : Nat} (hF : qX p m c cc nL s args own) (hU : qH E A T u s H) (hS : va_S A H0 H locs) (hA : ∀ q : Nat, H0.size ≤ q → A q) (n : Nat)
    (hM : Met l y (uws y bytes maxL none) (qR f mc ms) (qPc E A T u (.ref b :: As)) Qc mc ms A)
    (w1 : Cond.methodLink own index y ∈ qw_tbl) (w2 : Cond.instanceMethod y ∈ qw_tbl) (w4 : Cond.initialized y.cls ∈ qw_tbl) (w5 : Cond.code y bytes maxL none ∈ qw_tbl) (hy1 : y.name = "<init>")
    (hd : y.cls ≠ "java/lang/invoke/MethodHandle" ∧ y.cls ≠ "java/lang/invoke/VarHandle" ∧ (parseMethodDescriptor y.desc).map (fun d => d.parameters.length) = some n) (hR : f + 1 ≤ R.frames ∧ 8 + (maxL + 11) + 60 * f ≤ R.locals)
    (hdg : decode cc pc = .ok (.invokespecial index, 3)) (hn : As.length = n) (hsize : ls.size = nL) (hstack : st0 = As.reverse ++ .ref b :: rest) (hW : (rest.map fun v => v.category).sum ≤ 8) (hf : cells + mc ≤ R.cells ∧ slots + ms ≤ R.slots) :
    va_Run p l e R s m args below meth c H locs cells slots mc ms (F0 m pc ls st0) rest (Qc (Value.ref b :: As).toArray) A :=
  va_runI (As := As) (rest := rest) hF.fix hM (cwI n hF.2.2.2.2 (uw_in (fun _ h => h) w5) rfl rfl rfl (hF.2.2.2.2 _ w4) (hF.2.2.2.2 _ w1) (hF.2.2.2.2 _ w2) hy1 hd hR) ⟨qPc_blind, q_pre hF hU hS hA _⟩ rfl hn hsize hstack (lv_room hW) hdg hf
theorem q_runIN {Qc : Array Value → State → Outcome → State → Prop} {b : Nat} {host : String} (hF : qX p m c cc nL s args own) (hU : qH E A T u s H) (hS : va_S A H0 H locs) (hA : ∀ q : Nat, H0.size ≤ q → A q) (n : Nat)
    (hM : Met l y (uws y bytes maxL none) (qR f mc ms) (qPc E A T u (.ref b :: As)) Qc mc ms A)
    (w1 : va_Nw (.methodLinkNest own index y host) s) (w2 : Cond.instanceMethod y ∈ qw_tbl) (w4 : Cond.initialized y.cls ∈ qw_tbl) (w5 : Cond.code y bytes maxL none ∈ qw_tbl) (hy1 : y.name = "<init>")
    (hd : y.cls ≠ "java/lang/invoke/MethodHandle" ∧ y.cls ≠ "java/lang/invoke/VarHandle" ∧ (parseMethodDescriptor y.desc).map (fun d => d.parameters.length) = some n) (hR : f + 1 ≤ R.frames ∧ 8 + (maxL + 11) + 60 * f ≤ R.locals)
    (hdg : decode cc pc = .ok (.invokespecial index, 3)) (hn : As.length = n) (hsize : ls.size = nL) (hstack : st0 = As.reverse ++ .ref b :: rest) (hW : (rest.map fun v => v.category).sum ≤ 8) (hf : cells + mc ≤ R.cells ∧ slots + ms ≤ R.slots) :
    va_Run p l e R s m args below meth c H locs cells slots mc ms (F0 m pc ls st0) rest (Qc (Value.ref b :: As).toArray) A :=
  va_runIN (As := As) (rest := rest) hF.fix hM ⟨va_cnB n hF.2.2.2.2 (uw_in (fun _ h => h) w5) rfl rfl rfl w1 (hF.2.2.2.2 _ w4) hd hR, hy1, hF.2.2.2.2 _ w2⟩ ⟨qPc_blind, q_pre hF hU hS hA _⟩ rfl hn hsize hstack (lv_room hW) hdg hf
/-- as q_met, with the method's name at hand (constructors) -/
theorem q_metI {Qc : Array Value → State → Outcome → State → Prop} {mcR msR : Nat} {ret : Option FieldType} (av : List Value) (hy : plainName y.cls = true) (hlen : (lg_sl av).length ≤ maxL) (hcls : y.cls = own) (hnm : y.name = "<init>")
    (body : ∀ (p : Program) (e : Env) (s : State) (m : MethodId) (below : List Frame) (meth : Method) (c : Code) (ls : Array Slot), qX p m c bytes maxL s av.toArray own → meth.sig.returnType = ret → meth.locks = false → meth.name = "<init>" → qH E A T u s s.heap → va_S A s.heap s.heap [] → (∀ q : Nat, s.heap.size ≤ q → A q) → lv_has ls maxL (lv_args 0 av) →
      W p l e (qR f mcR msR) s m av.toArray below meth c s.heap [] 0 0 (MQ below Qc av.toArray s mc ms A) (F0 m 0 ls [])) : Met l y (uws y bytes maxL ret) (qR f mcR msR) (qPc E A T u av) Qc mc ms A := by
  refine Met.ofW (cc := bytes) (maxL := maxL) (ret := ret) hy rfl ?_
  intro p e s m args below meth c s₁ B hml hv
  obtain ⟨rfl, hU, hA⟩ := hv
  have hts := atoms_spec (ws := uws y bytes maxL ret) B.pre
  have hown : s.vm.findClass own = some m.cls := by rw [← hcls]; exact findClass_of_methodNamed B.named
  have hin : meth.name = y.name := (name_of_methodNamed B.named B.method).1
  have hl := lv_entry av (n := maxL) hlen
  rw [lg_entry_eq]
  exact body p e s m below meth c _ ⟨B.exec, B.bytes, hml, hown, fun w h => hts w (List.mem_cons_of_mem _ h)⟩ B.returns B.notSynchronized (hin.trans hnm) hU va_S.rf hA hl
end QDYN
