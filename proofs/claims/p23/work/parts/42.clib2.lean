/-! fields of longs, the table of words, and what the class keeps -/
theorem qfs_setL {E : qE} {u : qS} {c k : Nat} (x : Int64) (hk : k < qN c) (h0 : qk (100 * c + k) = 1) : (qfs E u c).set k (.long x) = qfs E (qsG u (100 * c + k) (fun _ => x)) c := by
  have hv : qv E (qsG u (100 * c + k) (fun _ => x)) (100 * c + k) = .long x := by
    unfold qv; rw [h0]; show Value.long (va_up u.2.2.1 (100 * c + k) (fun _ => x) (100 * c + k) 0) = _; unfold va_up; rw [if_pos rfl]
  unfold qfs
  rw [← hv]
  refine ql_map_set (fun k => qv E u (100 * c + k)) (fun j => qv E (qsG u (100 * c + k) (fun _ => x)) (100 * c + j)) (List.range (qN c)) k k (List.getElem?_range hk) List.nodup_range (fun b hb hne => ?_)
  show qv E (qsG u (100 * c + k) (fun _ => x)) (100 * c + b) = qv E u (100 * c + b)
  unfold qv
  show (match qk (100 * c + b) with | 0 => Value.int (u.1 (100 * c + b)) | 1 => Value.long (va_up u.2.2.1 (100 * c + k) (fun _ => x) (100 * c + b) 0) | 2 => Value.ref (E.2.2 (100 * c + b)) | j + 3 => Value.ref (E.2.2 (100 * j + 99))) = _
  unfold va_up; rw [if_neg (by omega)]; rfl
theorem qW_setL {E : qE} {T : Nat} {u : qS} {i c k : Nat} (x : Int64) (hi : (qob T)[i]? = some c) (hk : k < qN c) (h0 : qk (100 * c + k) = 1) : (qW E T u).set i (E.2.2 (100 * c + 99), .inr (c, (qfs E u c).set k (.long x))) = qW E T (qsG u (100 * c + k) (fun _ => x)) := by
  have hl : i < ((qob T).map (qoc E u)).length := by rw [List.length_map]; exact (List.getElem?_eq_some_iff.mp hi).1
  have hN := qob_ok T c (List.mem_of_getElem? hi)
  unfold qW
  rw [List.set_append_left _ _ hl, qfs_setL x hk h0]
  have h := ql_map_set (qoc E u) (qoc E (qsG u (100 * c + k) (fun _ => x))) (qob T) i c hi (qob_nd T) (fun b hb hne => by
    have hb90 := qob_ok T b hb
    show (_, _) = (_, _)
    have : qfs E (qsG u (100 * c + k) (fun _ => x)) b = qfs E u b := by
      unfold qfs
      refine List.map_congr_left (fun j hj => ?_)
      have hj := List.mem_range.mp hj
      unfold qv
      show (match qk (100 * b + j) with | 0 => Value.int (u.1 (100 * b + j)) | 1 => Value.long (va_up u.2.2.1 (100 * c + k) (fun _ => x) (100 * b + j) 0) | 2 => Value.ref (E.2.2 (100 * b + j)) | i + 3 => Value.ref (E.2.2 (100 * i + 99))) = _
      unfold va_up; rw [if_neg (by omega)]; rfl
    rw [this])
  have h2 : (qar T).map (qac E (qsG u (100 * c + k) (fun _ => x))) = (qar T).map (qac E u) := List.map_congr_left (fun n hn => by
    show (_, _) = (_, _)
    rw [qe_Go (fun e => by have := qar_ok T n hn; rw [e, h0] at this; exact absurd this (by decide))])
  rw [← h, h2]; rfl
section QLONG
variable {p : Program} {l : Launch} {e : Env} {R : Room} {s : State} {m : MethodId} {args : Array Value} {below : List Frame} {meth : Method} {c : Code} {H H0 : Heap} {locs : List Loc} {cells slots : Nat} {Q : State → Prop}
variable {cc : ByteArray} {nL pc : Nat} {ls : Array Slot} {rest st0 As : List Value} {own : String} {E : qE} {A : Nat → Prop} {T : Nat} {u : qS} {y : MethodName} {bytes : ByteArray} {maxL index mc ms f : Nat} {ret : Option FieldType}
theorem q_putl (hF : qX p m c cc nL s args own) (hU : qH E A T u s H) (hS : va_S A H0 H locs) (hdg : decode cc pc = .ok (.putfield index, 3)) (i ci k n o : Nat) (hn : 100 * ci + k = n) (ho : 100 * ci + 99 = o) (hi : (qob T)[i]? = some ci) {C : String} {TT : u_T} {N : Nat} (hc : vwCl[ci]? = some (C, TT, N)) (hin : ∀ w ∈ u_ws C TT N, w ∈ qw_tbl) (ty0 : Nat → FieldType) (hty : ∀ k, k < N → parseFieldDescriptor (TT k).2.2.1 = some (ty0 k)) (hnm : ∀ a, a < N → ∀ b, b < N → a ≠ b → (TT a).2.1 ≠ (TT b).2.1) (hk : k < N) (hkq : k < qN ci) (h0 : qk n = 1) (hl : Cond.fieldLink own index C (TT k).2.1 (TT k).2.2.1 ∈ qw_tbl) (hsm : (TT k).1 = C) (hfin : (TT k).2.2.2 = false) {x : Int64} (hnar : narrow (ty0 k) (.long x) = .long x) (hfit : fits (ty0 k) (.long x) = true)
    (kk : ∀ (g' : Nat → Int64) (H1 : Heap) (locs1 : List Loc), g' = (fun _ => x) → qH E A T (qsG u n g') s H1 → va_S A H0 H1 locs1 → W p l e R s m args below meth c H1 locs1 cells slots Q (F0 m (pc + 3) ls rest)) : W p l e R s m args below meth c H locs cells slots Q (F0 m pc ls (.long x :: .ref (E.2.2 o) :: rest)) := by
  subst hn ho
  refine va_put (D := E.1) (ci := ci) (v := .long x) (ty := ty0 k) (C := C) (T := TT) (N := N) hF.1 hF.2.1 hF.2.2.2.2 hin ty0 hty hnm hF.2.2.2.1 hU.1 hU.2.1 hU.2.2.1 hS i (fs := qfs E u ci) (qW_ob hi) hc k hk (hF.2.2.2.2 _ hl) (fun _ h9 => by rw [hsm] at h9; exact h9) hfin (hty k hk) hnar hfit (by unfold qfs; rw [List.length_map, List.length_range]; exact hkq) hdg (fun H1 locs1 h1 h2 h3 => ?_)
  rw [qW_setL x hi hkq h0] at h1 h2
  exact kk _ H1 locs1 rfl ⟨hU.1, h1, h2, hU.2.2.2⟩ h3
theorem q_topl {x y : Int64} (h : x = y) (k : W p l e R s m args below meth c H locs cells slots Q (F0 m pc ls (.long y :: rest))) : W p l e R s m args below meth c H locs cells slots Q (F0 m pc ls (.long x :: rest)) := by
  rw [h]; exact k
/-- the table of words stands outside of what is ours -/
def qZw (A : Nat → Prop) (U : State) (H : Heap) : Prop := ∃ (t : Nat) (f : Nat → Int64), va_Z "SecretBuyers" "WORDS" "[J" (.ref t) A U H ∧ va_T .long t 15 (fun j => .long (f j)) A U H
theorem qZw.moved {s U : State} (hvm : s.vm.Alike U.vm) (h : qZw A s H) : qZw A U H := by
  obtain ⟨t, f, h1, h2⟩ := h
  exact ⟨t, f, va_Z.moved hvm h1, va_T.moved hvm h2⟩
theorem qZw.kept {U : State} (h : qZw A U H0) (hS : va_S A H0 H locs) : qZw A U H := by
  obtain ⟨t, f, h1, h2⟩ := h
  exact ⟨t, f, h1.kept hS.2.1, h2.kept hS.2.1⟩
def qPw (E : qE) (A : Nat → Prop) (T : Nat) (u : qS) (av : List Value) : Array Value → State → Prop := va_Pc av (fun U => qH E A T u U U.heap ∧ (∀ q : Nat, U.heap.size ≤ q → A q) ∧ qZw A U U.heap)
theorem qPw_blind {av : List Value} : FrameBlind (qPw E A T u av) := fun a U g mk h => ⟨h.1, ⟨va_K.moved (u := U) (U := U.calling g mk a) (Vm.Alike.refl U.vm) h.2.1.1, h.2.1.2.1, h.2.1.2.2.1, h.2.1.2.2.2.same rfl⟩, h.2.2.1, h.2.2.2.moved (U := U.calling g mk a) (Vm.Alike.refl U.vm)⟩
theorem q_prew (hF : qX p m c cc nL s args own) (hU : qH E A T u s H) (hS : va_S A H0 H locs) (hA : ∀ q : Nat, H0.size ≤ q → A q) (hZ : qZw A s H) (av : List Value) : ∀ U : State, U.heap = H → s.WarmedH U.vm → qPw E A T u av av.toArray U := fun U hU' hW => ⟨rfl, ⟨va_K.moved hW.alike hU.1, by rw [hU']; exact hU.2.1, hU.2.2.1, hU.2.2.2.moved hW⟩, by rw [hU']; exact fun q h => hA q (Nat.le_trans hS.1 h), by rw [hU']; exact hZ.moved hW.alike⟩
theorem q_metW {Qc : Array Value → State → Outcome → State → Prop} {mcR msR : Nat} (av : List Value) (hy : plainName y.cls = true) (hlen : (lg_sl av).length ≤ maxL) (hcls : y.cls = own)
    (body : ∀ (p : Program) (e : Env) (s : State) (m : MethodId) (below : List Frame) (meth : Method) (c : Code) (ls : Array Slot), qX p m c bytes maxL s av.toArray own → meth.sig.returnType = ret → meth.locks = false → qZw A s s.heap → qH E A T u s s.heap → va_S A s.heap s.heap [] → (∀ q : Nat, s.heap.size ≤ q → A q) → lv_has ls maxL (lv_args 0 av) →
      W p l e (qR f mcR msR) s m av.toArray below meth c s.heap [] 0 0 (MQ below Qc av.toArray s mc ms A) (F0 m 0 ls [])) : Met l y (uws y bytes maxL ret) (qR f mcR msR) (qPw E A T u av) Qc mc ms A := by
  refine Met.ofW (cc := bytes) (maxL := maxL) (ret := ret) hy rfl ?_
  intro p e s m args below meth c s₁ B hml hv
  obtain ⟨rfl, hU, hA, hZ⟩ := hv
  have hts := atoms_spec (ws := uws y bytes maxL ret) B.pre
  have hown : s.vm.findClass own = some m.cls := by rw [← hcls]; exact findClass_of_methodNamed B.named
  have hl := lv_entry av (n := maxL) hlen
  rw [lg_entry_eq]
  exact body p e s m below meth c _ ⟨B.exec, B.bytes, hml, hown, fun w h => hts w (List.mem_cons_of_mem _ h)⟩ B.returns B.notSynchronized hZ hU va_S.rf hA hl
theorem q_runVW {Qc : Array Value → State → Outcome → State → Prop} (hF : qX p m c cc nL s args own) (hU : qH E A T u s H) (hS : va_S A H0 H locs) (hA : ∀ q : Nat, H0.size ≤ q → A q) (hZ : qZw A s H0) (n i ci o : Nat) (ho : 100 * ci + 99 = o) (hi : (qob T)[i]? = some ci) {C : String} {TT : u_T} {N : Nat} (hc : vwCl[ci]? = some (C, TT, N))
    (hM : Met l y (uws y bytes maxL ret) (qR f mc ms) (qPw E A T u (.ref (E.2.2 o) :: As)) Qc mc ms A)
    (w1 : Cond.methodLink own index y ∈ qw_tbl) (w2 : Cond.instanceMethod y ∈ qw_tbl) (w3 : Cond.selects C y y ∈ qw_tbl) (w4 : Cond.initialized C ∈ qw_tbl) (w5 : Cond.code y bytes maxL ret ∈ qw_tbl)
    (hd : y.cls = C ∧ y.cls ≠ "java/lang/invoke/MethodHandle" ∧ y.cls ≠ "java/lang/invoke/VarHandle" ∧ (parseMethodDescriptor y.desc).map (fun d => d.parameters.length) = some n) (hR : f + 1 ≤ R.frames ∧ 8 + (maxL + 11) + 60 * f ≤ R.locals)
    (hdg : decode cc pc = .ok (.invokevirtual index, 3)) (hn : As.length = n) (hsize : ls.size = nL) (hstack : st0 = As.reverse ++ .ref (E.2.2 o) :: rest) (hW : (rest.map fun v => v.category).sum ≤ 8) (hf : cells + mc ≤ R.cells ∧ slots + ms ≤ R.slots) :
    va_Run p l e R s m args below meth c H locs cells slots mc ms (F0 m pc ls st0) rest (Qc (Value.ref (E.2.2 o) :: As).toArray) A := by
  have hG : GoodIn qw_tbl (wsV own index C y (uws y bytes maxL ret)) := fun w hw => by
    rcases List.mem_append.mp hw with h | h
    · rcases List.mem_cons.mp h with e | h
      · rw [e]; exact ⟨w1, good_of_word (uw_g w1)⟩
      · rcases List.mem_cons.mp h with e | h
        · rw [e]; exact ⟨w2, good_of_word (uw_g w2)⟩
        · rcases List.mem_cons.mp h with e | h
          · rw [e]; exact ⟨w3, good_of_word (uw_g w3)⟩
          · rcases List.mem_cons.mp h with e | h
            · rw [e]; exact ⟨w4, good_of_word (uw_g w4)⟩
            · cases h
    · exact uw_in (fun _ h => h) w5 w h
  subst ho
  exact va_runV (As := As) (rest := rest) hF.fix hM (cwV n hF.2.2.2.2 hG rfl rfl rfl hd hR) ⟨qPw_blind, va_recv hU.1 hU.2.1 hc (qW_ob hi), q_prew hF hU hS hA (hZ.kept hS) _⟩ rfl hn hsize hstack (lv_room hW) hdg hf
end QLONG
/-! what holds of the class, number by number -/
theorem IC.s13 {E : qE} {u : qS} (h : IC E u) {x : Int32} (hx : 0 ≤ x ∧ x ≤ 9999) : IC E (qsI u 13 x) := ⟨⟨h.1.1, h.1.2.1, h.1.2.2.1, h.1.2.2.2.1, h.1.2.2.2.2.1, hx, h.1.2.2.2.2.2.2⟩, h.2.1, h.2.2⟩
theorem IC.s801 {E : qE} {u : qS} (h : IC E u) {x : Int32} (hx : 0 ≤ x ∧ x ≤ 1000) : IC E (qsI u 801 x) := ⟨⟨h.1.1, h.1.2.1, h.1.2.2.1, h.1.2.2.2.1, h.1.2.2.2.2.1, h.1.2.2.2.2.2.1, hx, h.1.2.2.2.2.2.2.2⟩, h.2.1, h.2.2⟩
theorem IC.s908 {E : qE} {u : qS} (h : IC E u) {x : Int32} (hx : 0 ≤ x ∧ x ≤ 12) (hr : ∀ i : Int32, 0 ≤ i → i < x → ∃ a, u.2.2.2.1 904 i.toNatClampNeg = some a ∧ qRv u a) : IC E (qsI u 908 x) := ⟨⟨h.1.1, h.1.2.1, h.1.2.2.1, h.1.2.2.2.1, h.1.2.2.2.2.1, h.1.2.2.2.2.2.1, h.1.2.2.2.2.2.2.1, hx⟩, h.2.1, h.2.2.1, h.2.2.2.1, h.2.2.2.2.1, h.2.2.2.2.2.1, h.2.2.2.2.2.2.1, hr, h.2.2.2.2.2.2.2.2⟩
theorem IC.s11 {E : qE} {u : qS} (h : IC E u) {x : Int32} (hx : 0 ≤ x ∧ x ≤ 60) (hr : ∀ i : Int32, 0 ≤ i → i < x → 0 ≤ u.2.1 5 i.toNatClampNeg ∧ u.2.1 5 i.toNatClampNeg < u.1 10) : IC E (qsI u 11 x) := ⟨⟨h.1.1, h.1.2.1, h.1.2.2.1, hx, h.1.2.2.2.2⟩, h.2.1, h.2.2.1, h.2.2.2.1, h.2.2.2.2.1, h.2.2.2.2.2.1, h.2.2.2.2.2.2.1, h.2.2.2.2.2.2.2.1, hr⟩
theorem IC.s12 {E : qE} {u : qS} (h : IC E u) {x : Int32} (hx : 0 ≤ x ∧ x ≤ 16) (hr : ∀ i : Int32, 0 ≤ i → i < x → ∃ a, u.2.2.2.1 4 i.toNatClampNeg = some a ∧ qRf u a 1) : IC E (qsI u 12 x) := ⟨⟨h.1.1, h.1.2.1, h.1.2.2.1, h.1.2.2.2.1, hx, h.1.2.2.2.2.2⟩, h.2.1, h.2.2.1, h.2.2.2.1, h.2.2.2.2.1, h.2.2.2.2.2.1, hr, h.2.2.2.2.2.2.2⟩
theorem CD.up {E : qE} {u v : qS} (h : CD E u) (e : v.2.2.2.2 = u.2.2.2.2) (h8 : u.1 8 ≤ v.1 8) (h9 : u.1 9 ≤ v.1 9) : CD E v := by
  intro k a c fs hk
  rw [e] at hk
  obtain ⟨h1, h2, h3, h4⟩ := h k a c fs hk
  refine ⟨fun q => ?_, fun q => ?_, h3, fun q => ?_⟩
  · obtain ⟨g1, g2⟩ := h1 q
    refine ⟨g1, fun j hj => ?_⟩
    obtain ⟨x', a1, a2, a3⟩ := g2 j hj
    exact ⟨x', a1, fun z => ⟨(a2 z).1, Int32.lt_of_lt_of_le (a2 z).2 h8⟩, fun z => ⟨(a3 z).1, Int32.lt_of_lt_of_le (a3 z).2 h9⟩⟩
  · obtain ⟨q1, c1, o1, d1, r1, e1, e2⟩ := h2 q
    refine ⟨q1, c1, o1, d1, r1, e1, ?_⟩
    obtain ⟨z1, z2, z3⟩ := e2
    exact ⟨z1, z2, by rw [e]; exact z3⟩
  · obtain ⟨c1, f1, t1, q1, k1, n1, g1, e1, e2, e3⟩ := h4 q
    exact ⟨c1, f1, t1, q1, k1, n1, g1, e1, by rw [e]; exact e2, e3⟩
theorem IC.s8 {E : qE} {u : qS} (h : IC E u) {x : Int32} (hx : 0 ≤ x ∧ x ≤ 20) (hu : u.1 8 ≤ x) (hr : ∀ i : Int32, 0 ≤ i → i < x → ∃ a, u.2.2.2.1 0 i.toNatClampNeg = some a ∧ qRf u a 7) : IC E (qsI u 8 x) := ⟨⟨hx, h.1.2⟩, h.2.1.up rfl hu (Int32.le_refl _), hr, h.2.2.2⟩
theorem IC.s9 {E : qE} {u : qS} (h : IC E u) {x : Int32} (hx : 0 ≤ x ∧ x ≤ 8) (hu : u.1 9 ≤ x) (hr : ∀ i : Int32, 0 ≤ i → i < x → ∃ a, u.2.2.2.1 1 i.toNatClampNeg = some a ∧ qRf u a 4) : IC E (qsI u 9 x) := ⟨⟨h.1.1, hx, h.1.2.2⟩, h.2.1.up rfl (Int32.le_refl _) hu, h.2.2.1, hr, h.2.2.2.2⟩
/-- a row of references is written behind what counts -/
theorem g_vu {f : Nat → Option Nat} {k i : Nat} {x : Option Nat} (h : i ≠ k) : va_up f k x i = f i := by unfold va_up; rw [if_neg h]
theorem g_vs {f : Nat → Option Nat} {k : Nat} {x : Option Nat} : va_up f k x k = x := by unfold va_up; rw [if_pos rfl]
theorem g_ne {i k : Int32} (h0 : 0 ≤ i) (hk : i < k) : i.toNatClampNeg ≠ k.toNatClampNeg := fun q => by
  have a := Int32.le_iff_toInt_le.mp h0
  have b := Int32.lt_iff_toInt_lt.mp hk
  have e0 : (0 : Int32).toInt = 0 := rfl
  rw [g_clamp, g_clamp] at q; omega
theorem IC.w0 {E : qE} {u : qS} (h : IC E u) {v : Option Nat} : IC E (qsR u 0 (va_up (u.2.2.2.1 0) (u.1 8).toNatClampNeg v)) := ⟨h.1, h.2.1, fun i a b => by
  obtain ⟨w, q1, q2⟩ := h.2.2.1 i a b
  exact ⟨w, (g_vu (g_ne a b)).trans q1, q2⟩, h.2.2.2⟩
theorem IC.w1 {E : qE} {u : qS} (h : IC E u) {v : Option Nat} : IC E (qsR u 1 (va_up (u.2.2.2.1 1) (u.1 9).toNatClampNeg v)) := ⟨h.1, h.2.1, h.2.2.1, fun i a b => by
  obtain ⟨w, q1, q2⟩ := h.2.2.2.1 i a b
  exact ⟨w, (g_vu (g_ne a b)).trans q1, q2⟩, h.2.2.2.2⟩
theorem IC.w4 {E : qE} {u : qS} (h : IC E u) {v : Option Nat} : IC E (qsR u 4 (va_up (u.2.2.2.1 4) (u.1 12).toNatClampNeg v)) := ⟨h.1, h.2.1, h.2.2.1, h.2.2.2.1, h.2.2.2.2.1, h.2.2.2.2.2.1, fun i a b => by
  obtain ⟨w, q1, q2⟩ := h.2.2.2.2.2.2.1 i a b
  exact ⟨w, (g_vu (g_ne a b)).trans q1, q2⟩, h.2.2.2.2.2.2.2⟩
theorem IC.w904 {E : qE} {u : qS} (h : IC E u) {v : Option Nat} : IC E (qsR u 904 (va_up (u.2.2.2.1 904) (u.1 908).toNatClampNeg v)) := ⟨h.1, h.2.1, h.2.2.1, h.2.2.2.1, h.2.2.2.2.1, h.2.2.2.2.2.1, h.2.2.2.2.2.2.1, fun i a b => by
  obtain ⟨w, q1, q2⟩ := h.2.2.2.2.2.2.2.1 i a b
  exact ⟨w, (g_vu (g_ne a b)).trans q1, q2⟩, h.2.2.2.2.2.2.2.2⟩
/-- a visit that is kept comes to a place of the row by time -/
theorem IC.w3 {E : qE} {u : qS} (h : IC E u) {k v : Nat} (hv : qRv u v) : IC E (qsR u 3 (va_up (u.2.2.2.1 3) k (some v))) := ⟨h.1, h.2.1, h.2.2.1, h.2.2.2.1, h.2.2.2.2.1, fun i a b => by
  by_cases e : i.toNatClampNeg = k
  · exact ⟨v, by show va_up _ k _ i.toNatClampNeg = _; rw [e, g_vs], hv⟩
  · obtain ⟨w, q1, q2⟩ := h.2.2.2.2.2.1 i a b
    exact ⟨w, (g_vu e).trans q1, q2⟩, h.2.2.2.2.2.2⟩
/-- a visit's number is written behind what counts -/
theorem IC.w5 {E : qE} {u : qS} (h : IC E u) {x : Int32} : IC E (qsF u 5 (upd (u.2.1 5) (u.1 11).toNatClampNeg x)) := ⟨h.1, h.2.1, h.2.2.1, h.2.2.2.1, h.2.2.2.2.1, h.2.2.2.2.2.1, h.2.2.2.2.2.2.1, h.2.2.2.2.2.2.2.1, fun i a b => by
  have b : i < u.1 11 := b
  have := h.2.2.2.2.2.2.2.2 i a b
  show 0 ≤ upd (u.2.1 5) (u.1 11).toNatClampNeg x i.toNatClampNeg ∧ upd (u.2.1 5) (u.1 11).toNatClampNeg x i.toNatClampNeg < u.1 10
  rw [pk_un (g_ne a b)]; exact this⟩
/-- objects more -/
theorem g_apf {u : qS} {L : va_W} (a c : Nat) (h : qRf u a c) : qRf (qsX u (u.2.2.2.2 ++ L)) a c := by
  obtain ⟨k, fs, hk⟩ := h
  exact ⟨k, fs, (List.getElem?_append_left (List.getElem?_eq_some_iff.mp hk).1).trans hk⟩
theorem IC.app {E : qE} {u : qS} {L : va_W} (h : IC E u) (hL : ∀ (k a c : Nat) (fs : List Value), L[k]? = some (a, .inr (c, fs)) → (c = 10 → CV u fs) ∧ (c = 7 → CS (qsX u (u.2.2.2.2 ++ L)) fs) ∧ (c = 4 → ∃ x y : Int32, fs = [.int x, .int y]) ∧ (c = 1 → CB E (qsX u (u.2.2.2.2 ++ L)) fs)) : IC E (qsX u (u.2.2.2.2 ++ L)) ∧ ∀ M R G X : List Nat, qFc M R G X u (qsX u (u.2.2.2.2 ++ L)) := by
  have rf := g_apf (u := u) (L := L)
  have rv : ∀ a, qRv u a → qRv (qsX u (u.2.2.2.2 ++ L)) a := fun a ⟨k, n, fs, hk, h0, h1⟩ => ⟨k, n, fs, (List.getElem?_append_left (List.getElem?_eq_some_iff.mp hk).1).trans hk, h0, h1⟩
  have rn : ∀ a n, qRn u a n → qRn (qsX u (u.2.2.2.2 ++ L)) a n := fun a n ⟨k, fs, hk⟩ => ⟨k, fs, (List.getElem?_append_left (List.getElem?_eq_some_iff.mp hk).1).trans hk⟩
  refine ⟨⟨h.1, ?_, ?_⟩, fun M R G X => ⟨fun _ _ => rfl, fun _ _ => rfl, fun _ _ => rfl, fun _ _ => rfl, rf, rv, rn, fun k b y hk => (List.getElem?_append_left (List.getElem?_eq_some_iff.mp hk).1).trans hk, fun k b c fs hk => ⟨fs, (List.getElem?_append_left (List.getElem?_eq_some_iff.mp hk).1).trans hk, fun _ => rfl, fun _ _ _ => rfl⟩⟩⟩
  · intro k a c fs hk
    have hk : (u.2.2.2.2 ++ L)[k]? = some (a, .inr (c, fs)) := hk
    rcases Nat.lt_or_ge k u.2.2.2.2.length with hlt | hge
    · rw [List.getElem?_append_left hlt] at hk
      obtain ⟨h1, h2, h3, h4⟩ := h.2.1 k a c fs hk
      refine ⟨h1, fun q => ?_, h3, fun q => ?_⟩
      · obtain ⟨q1, c1, o1, d1, r1, e1, e2⟩ := h2 q
        exact ⟨q1, c1, o1, d1, r1, e1, rf _ _ e2⟩
      · obtain ⟨c1, f1, t1, q1, k1, n1, g1, e1, e2, e3⟩ := h4 q
        exact ⟨c1, f1, t1, q1, k1, n1, g1, e1, (List.getElem?_append_left (List.getElem?_eq_some_iff.mp e2).1).trans e2, e3⟩
    · rw [List.getElem?_append_right hge] at hk
      exact hL _ a c fs hk
  · exact ⟨fun i a b => (h.2.2.1 i a b).elim (fun w q => ⟨w, q.1, rf _ _ q.2⟩), fun i a b => (h.2.2.2.1 i a b).elim (fun w q => ⟨w, q.1, rf _ _ q.2⟩), fun i a b => (h.2.2.2.2.1 i a b).elim (fun w q => ⟨w, q.1, rv _ q.2⟩), fun i a b => (h.2.2.2.2.2.1 i a b).elim (fun w q => ⟨w, q.1, rv _ q.2⟩), fun i a b => (h.2.2.2.2.2.2.1 i a b).elim (fun w q => ⟨w, q.1, rf _ _ q.2⟩), fun i a b => (h.2.2.2.2.2.2.2.1 i a b).elim (fun w q => ⟨w, q.1, rv _ q.2⟩), h.2.2.2.2.2.2.2.2⟩
/-- one visit more is kept -/
theorem IC.keep {E : qE} {u : qS} {a : Nat} {k : Int32} {f3 f2 : Nat → Option Nat} (h : IC E u) (ha : qRn u a (u.1 10)) (hc : (u.1 10).toInt < 120) (hk : 0 ≤ k ∧ k ≤ u.1 10) (hr : ∀ i : Int32, 0 ≤ i → i ≤ u.1 10 → i ≠ k → ∃ b, u.2.2.2.1 3 i.toNatClampNeg = some b ∧ qRv u b)
    (e3 : f3 = va_up (u.2.2.2.1 3) k.toNatClampNeg (some a)) (e2 : f2 = va_up (u.2.2.2.1 2) (u.1 10).toNatClampNeg (some a)) : IC E (qsI (qsR (qsR u 3 f3) 2 f2) 10 (u.1 10 + 1)) ∧ qFc [10] [] [] [2, 3] u (qsI (qsR (qsR u 3 f3) 2 f2) 10 (u.1 10 + 1)) := by
  have n0 := Int32.le_iff_toInt_le.mp h.1.s10.1
  have e0 : (0 : Int32).toInt = 0 := rfl
  have up := (g_up (i := u.1 10) (by omega) (by omega)).1
  have lt : ∀ i : Int32, i < u.1 10 → i < u.1 10 + 1 := fun i q => Int32.lt_iff_toInt_lt.mpr (by have := Int32.lt_iff_toInt_lt.mp q; omega)
  have rv : ∀ b, qRv u b → qRv (qsI (qsR (qsR u 3 f3) 2 f2) 10 (u.1 10 + 1)) b := fun b ⟨z, n, fs, hz, h0, h1⟩ => ⟨z, n, fs, hz, h0, lt n h1⟩
  have ra : qRv (qsI (qsR (qsR u 3 f3) 2 f2) 10 (u.1 10 + 1)) a := by
    obtain ⟨z, fs, hz⟩ := ha
    exact ⟨z, _, fs, hz, h.1.s10.1, Int32.lt_iff_toInt_lt.mpr (by show _ < (u.1 10 + 1).toInt; omega)⟩
  refine ⟨⟨⟨h.1.1, h.1.2.1, ⟨Int32.le_iff_toInt_le.mpr (by show _ ≤ (u.1 10 + 1).toInt; omega), Int32.le_iff_toInt_le.mpr (by show (u.1 10 + 1).toInt ≤ 120; omega)⟩, h.1.2.2.2⟩, h.2.1, h.2.2.1, h.2.2.2.1, fun i q0 q1 => ?_, fun i q0 q1 => ?_, h.2.2.2.2.2.2.1, fun i q0 q1 => (h.2.2.2.2.2.2.2.1 i q0 q1).elim (fun w q => ⟨w, q.1, rv _ q.2⟩), fun i q0 q1 => ⟨(h.2.2.2.2.2.2.2.2 i q0 q1).1, lt _ (h.2.2.2.2.2.2.2.2 i q0 q1).2⟩⟩, fun n hn => ?_, fun _ _ => rfl, fun _ _ => rfl, fun n hn => ?_, fun _ _ q => q, rv, fun _ _ q => q, fun _ _ _ q => q, fun _ _ _ fs q => ⟨fs, q, fun _ => rfl, fun _ _ _ => rfl⟩⟩
  · rcases g_lt1 up q1 with q | q
    · obtain ⟨b, b1, b2⟩ := h.2.2.2.2.1 i q0 q
      exact ⟨b, by show f2 i.toNatClampNeg = _; rw [e2, g_vu (g_ne q0 q)]; exact b1, rv b b2⟩
    · exact ⟨a, by show f2 i.toNatClampNeg = _; rw [e2, q, g_vs], ra⟩
  · by_cases z : i = k
    · exact ⟨a, by show f3 i.toNatClampNeg = _; rw [e3, z, g_vs], ra⟩
    · obtain ⟨b, b1, b2⟩ := hr i q0 (by rcases g_lt1 up q1 with q | q; exact Int32.le_iff_toInt_le.mpr (by have := Int32.lt_iff_toInt_lt.mp q; omega); rw [q]; exact Int32.le_refl _) z
      have ne : i.toNatClampNeg ≠ k.toNatClampNeg := fun q => z (g_inj (Int32.le_iff_toInt_le.mp q0) (Int32.le_iff_toInt_le.mp hk.1) q)
      exact ⟨b, by show f3 i.toNatClampNeg = _; rw [e3, g_vu ne]; exact b1, rv b b2⟩
  · exact pk_un (fun q => hn (by rw [q]; exact List.mem_singleton.mpr rfl))
  · show va_up (va_up u.2.2.2.1 3 f3) 2 f2 n = _
    unfold va_up
    rw [if_neg (fun q => hn (by rw [q]; decide)), if_neg (fun q => hn (by rw [q]; decide))]
/-! answers that may be null, arrays that were made -/
def qQq (E : qE) (A : Nat → Prop) (T : Nat) (post : Option Nat → qS → Prop) : Array Value → State → Outcome → State → Prop := va_Qq post (qB E A T) A
/-- a made row of numbers -/
def qRa (E : qE) (u : qS) (a n : Nat) : Prop := ∃ (k : Nat) (g : Nat → Int32), u.2.2.2.2[k]? = some (a, .inl (E.2.1 0, n, .inl g))
theorem IC.bc {E : qE} {u : qS} {a : Nat} (h : IC E u) (ha : qRf u a 1) : ∃ (dd : Nat) (fs : List Value) (q n : Nat), u.2.2.2.2[dd]? = some (a, .inr (1, fs)) ∧ fs[3]? = some (.ref q) ∧ qRa E u q n ∧ n ≤ 1000 := by
  obtain ⟨dd, fs, hd⟩ := ha
  obtain ⟨c, f, t, q, k, n, g, hfs, hk, hn⟩ := (h.2.1 dd a 1 fs hd).2.2.2 rfl
  exact ⟨dd, fs, q, n, hd, by rw [hfs]; rfl, ⟨k, g, hk⟩, hn⟩
section QREF2
variable {p : Program} {l : Launch} {e : Env} {R : Room} {s : State} {m : MethodId} {args : Array Value} {below : List Frame} {meth : Method} {c : Code} {H H0 : Heap} {locs : List Loc} {cells slots : Nat} {Q : State → Prop}
variable {cc : ByteArray} {nL pc mc ms : Nat} {ls : Array Slot} {rest st0 : List Value} {own : String} {E : qE} {A : Nat → Prop} {T : Nat} {u : qS}
theorem q_nret {post : Option Nat → qS → Prop} {rt : FieldType} {r : Option Nat} {v : Value} (hv : va_rf r = v) (hF : qX p m c cc nL s args own) (hr : meth.sig.returnType = some rt) (hrt : (∃ n, rt = .object n) ∨ ∃ t, rt = .array t) (hlocks : meth.locks = false) (hU : qH E A T u s H) (hS : va_S A s.heap H locs) (hdg : decode cc pc = .ok (.areturn, 1)) (hp : post r u) : W p l e R s m args below meth c H locs cells slots (MQ below (qQq E A T post) args s cells slots A) (F0 m pc ls [v]) := by
  subst hv
  refine W.aret (v := va_rf r) hF.1 hF.2.1 hr hrt ?_ (fun t ht hW => ⟨⟨r, u, rfl, hp, va_K.moved hW.alike hU.1, by rw [ht]; exact hU.2.1, hU.2.2.1, hU.2.2.2.moved hW⟩, hS.F ht⟩) hS.2.2 hdg hlocks
  cases r with
  | none => exact Or.inl rfl
  | some a => exact Or.inr ⟨a, rfl⟩
theorem q_callq {post : Option Nat → qS → Prop} {a : Array Value} (hr : va_Run p l e R s m args below meth c H locs cells slots mc ms (F0 m pc ls st0) rest (qQq E A T post a) A) (hN : qNs s) (hS : va_S A H0 H locs)
    (kn : ∀ (u' : qS) (H1 : Heap) (locs1 : List Loc), post none u' → qH E A T u' s H1 → va_S A H0 H1 locs1 → W p l e R s m args below meth c H1 locs1 (cells + mc) (slots + ms) Q (F0 m (pc + 3) ls (.null :: rest)))
    (kk : ∀ (ra : Nat) (u' : qS) (H1 : Heap) (locs1 : List Loc), post (some ra) u' → qH E A T u' s H1 → va_S A H0 H1 locs1 → W p l e R s m args below meth c H1 locs1 (cells + mc) (slots + ms) Q (F0 m (pc + 3) ls (.ref ra :: rest))) : W p l e R s m args below meth c H locs cells slots Q (F0 m pc ls st0) := by
  refine va_callq hr hS (fun _ _ h => h) (fun _ h => h) (fun r u' t H1 locs1 ht hvm hw hB _ _ hS1 => ?_)
  have hU1 : qH E A T u' s H1 := ⟨va_K.moved hvm.symm hB.1, by rw [← ht]; exact hB.2.1, hB.2.2.1, hN⟩
  cases r with
  | none => exact kn u' H1 locs1 hw hU1 hS1
  | some ra => exact kk ra u' H1 locs1 hw hU1 hS1
theorem q_alend (hF : qX p m c cc nL s args own) (hU : qH E A T u s H) (hdg : decode cc pc = .ok (.arraylength, 1)) {a n : Nat} (ha : qRa E u a n)
    (kk : W p l e R s m args below meth c H locs cells slots Q (F0 m (pc + 1) ls (.int (Int32.ofNat n) :: rest))) : W p l e R s m args below meth c H locs cells slots Q (F0 m pc ls (.ref a :: rest)) := by
  obtain ⟨k, g, hk⟩ := ha
  exact va_alen (D := E.1) hF.1 hF.2.1 hU.1 hU.2.1 _ 0 (cA := E.2.1 0) (x := (n, .inl g)) (qW_dyn hk) (ty := .int) rfl rfl hdg kk
theorem q_ialdd (hF : qX p m c cc nL s args own) (hU : qH E A T u s H) (hdg : decode cc pc = .ok (.iaload, 1)) {a n : Nat} (ha : qRa E u a n) {i : Int32} (hin : vp_in i n)
    (kk : ∀ v : Int32, W p l e R s m args below meth c H locs cells slots Q (F0 m (pc + 1) ls (.int v :: rest))) : W p l e R s m args below meth c H locs cells slots Q (F0 m pc ls (.int i :: .ref a :: rest)) := by
  obtain ⟨k, g, hk⟩ := ha
  exact va_iald (D := E.1) hF.1 hF.2.1 hU.1 hU.2.1 _ 0 (cA := E.2.1 0) (n := n) (f := g) (qW_dyn hk) rfl hin hdg (kk _)
end QREF2
theorem q_sw2_26 (x : Int32) : x = 2 ∨ x = 3 ∨ x = 4 ∨ x = 5 ∨ x = 6 ∨ x = 7 ∨ x = 8 ∨ x = 9 ∨ x = 10 ∨ x = 11 ∨ x = 12 ∨ x = 13 ∨ x = 14 ∨ x = 15 ∨ x = 16 ∨ x = 17 ∨ x = 18 ∨ x = 19 ∨ x = 20 ∨ x = 21 ∨ x = 22 ∨ x = 23 ∨ x = 24 ∨ x = 25 ∨ x = 26 ∨ (x.toInt < 2 ∨ 26 < x.toInt) := by
  rcases (by omega : x.toInt = 2 ∨ x.toInt = 3 ∨ x.toInt = 4 ∨ x.toInt = 5 ∨ x.toInt = 6 ∨ x.toInt = 7 ∨ x.toInt = 8 ∨ x.toInt = 9 ∨ x.toInt = 10 ∨ x.toInt = 11 ∨ x.toInt = 12 ∨ x.toInt = 13 ∨ x.toInt = 14 ∨ x.toInt = 15 ∨ x.toInt = 16 ∨ x.toInt = 17 ∨ x.toInt = 18 ∨ x.toInt = 19 ∨ x.toInt = 20 ∨ x.toInt = 21 ∨ x.toInt = 22 ∨ x.toInt = 23 ∨ x.toInt = 24 ∨ x.toInt = 25 ∨ x.toInt = 26 ∨ (x.toInt < 2 ∨ 26 < x.toInt)) with h | h | h | h | h | h | h | h | h | h | h | h | h | h | h | h | h | h | h | h | h | h | h | h | h | h
  · exact Or.inl (Int32.toInt_inj.mp h)
  · exact Or.inr (Or.inl (Int32.toInt_inj.mp h))
  · exact Or.inr (Or.inr (Or.inl (Int32.toInt_inj.mp h)))
  · exact Or.inr (Or.inr (Or.inr (Or.inl (Int32.toInt_inj.mp h))))
  · exact Or.inr (Or.inr (Or.inr (Or.inr (Or.inl (Int32.toInt_inj.mp h)))))
  · exact Or.inr (Or.inr (Or.inr (Or.inr (Or.inr (Or.inl (Int32.toInt_inj.mp h))))))
  · exact Or.inr (Or.inr (Or.inr (Or.inr (Or.inr (Or.inr (Or.inl (Int32.toInt_inj.mp h)))))))
  · exact Or.inr (Or.inr (Or.inr (Or.inr (Or.inr (Or.inr (Or.inr (Or.inl (Int32.toInt_inj.mp h))))))))
  · exact Or.inr (Or.inr (Or.inr (Or.inr (Or.inr (Or.inr (Or.inr (Or.inr (Or.inl (Int32.toInt_inj.mp h)))))))))
  · exact Or.inr (Or.inr (Or.inr (Or.inr (Or.inr (Or.inr (Or.inr (Or.inr (Or.inr (Or.inl (Int32.toInt_inj.mp h))))))))))
  · exact Or.inr (Or.inr (Or.inr (Or.inr (Or.inr (Or.inr (Or.inr (Or.inr (Or.inr (Or.inr (Or.inl (Int32.toInt_inj.mp h)))))))))))
  · exact Or.inr (Or.inr (Or.inr (Or.inr (Or.inr (Or.inr (Or.inr (Or.inr (Or.inr (Or.inr (Or.inr (Or.inl (Int32.toInt_inj.mp h))))))))))))
  · exact Or.inr (Or.inr (Or.inr (Or.inr (Or.inr (Or.inr (Or.inr (Or.inr (Or.inr (Or.inr (Or.inr (Or.inr (Or.inl (Int32.toInt_inj.mp h)))))))))))))
  · exact Or.inr (Or.inr (Or.inr (Or.inr (Or.inr (Or.inr (Or.inr (Or.inr (Or.inr (Or.inr (Or.inr (Or.inr (Or.inr (Or.inl (Int32.toInt_inj.mp h))))))))))))))
  · exact Or.inr (Or.inr (Or.inr (Or.inr (Or.inr (Or.inr (Or.inr (Or.inr (Or.inr (Or.inr (Or.inr (Or.inr (Or.inr (Or.inr (Or.inl (Int32.toInt_inj.mp h)))))))))))))))
  · exact Or.inr (Or.inr (Or.inr (Or.inr (Or.inr (Or.inr (Or.inr (Or.inr (Or.inr (Or.inr (Or.inr (Or.inr (Or.inr (Or.inr (Or.inr (Or.inl (Int32.toInt_inj.mp h))))))))))))))))
  · exact Or.inr (Or.inr (Or.inr (Or.inr (Or.inr (Or.inr (Or.inr (Or.inr (Or.inr (Or.inr (Or.inr (Or.inr (Or.inr (Or.inr (Or.inr (Or.inr (Or.inl (Int32.toInt_inj.mp h)))))))))))))))))
  · exact Or.inr (Or.inr (Or.inr (Or.inr (Or.inr (Or.inr (Or.inr (Or.inr (Or.inr (Or.inr (Or.inr (Or.inr (Or.inr (Or.inr (Or.inr (Or.inr (Or.inr (Or.inl (Int32.toInt_inj.mp h))))))))))))))))))
  · exact Or.inr (Or.inr (Or.inr (Or.inr (Or.inr (Or.inr (Or.inr (Or.inr (Or.inr (Or.inr (Or.inr (Or.inr (Or.inr (Or.inr (Or.inr (Or.inr (Or.inr (Or.inr (Or.inl (Int32.toInt_inj.mp h)))))))))))))))))))
  · exact Or.inr (Or.inr (Or.inr (Or.inr (Or.inr (Or.inr (Or.inr (Or.inr (Or.inr (Or.inr (Or.inr (Or.inr (Or.inr (Or.inr (Or.inr (Or.inr (Or.inr (Or.inr (Or.inr (Or.inl (Int32.toInt_inj.mp h))))))))))))))))))))
  · exact Or.inr (Or.inr (Or.inr (Or.inr (Or.inr (Or.inr (Or.inr (Or.inr (Or.inr (Or.inr (Or.inr (Or.inr (Or.inr (Or.inr (Or.inr (Or.inr (Or.inr (Or.inr (Or.inr (Or.inr (Or.inl (Int32.toInt_inj.mp h)))))))))))))))))))))
  · exact Or.inr (Or.inr (Or.inr (Or.inr (Or.inr (Or.inr (Or.inr (Or.inr (Or.inr (Or.inr (Or.inr (Or.inr (Or.inr (Or.inr (Or.inr (Or.inr (Or.inr (Or.inr (Or.inr (Or.inr (Or.inr (Or.inl (Int32.toInt_inj.mp h))))))))))))))))))))))
  · exact Or.inr (Or.inr (Or.inr (Or.inr (Or.inr (Or.inr (Or.inr (Or.inr (Or.inr (Or.inr (Or.inr (Or.inr (Or.inr (Or.inr (Or.inr (Or.inr (Or.inr (Or.inr (Or.inr (Or.inr (Or.inr (Or.inr (Or.inl (Int32.toInt_inj.mp h)))))))))))))))))))))))
  · exact Or.inr (Or.inr (Or.inr (Or.inr (Or.inr (Or.inr (Or.inr (Or.inr (Or.inr (Or.inr (Or.inr (Or.inr (Or.inr (Or.inr (Or.inr (Or.inr (Or.inr (Or.inr (Or.inr (Or.inr (Or.inr (Or.inr (Or.inr (Or.inl (Int32.toInt_inj.mp h))))))))))))))))))))))))
  · exact Or.inr (Or.inr (Or.inr (Or.inr (Or.inr (Or.inr (Or.inr (Or.inr (Or.inr (Or.inr (Or.inr (Or.inr (Or.inr (Or.inr (Or.inr (Or.inr (Or.inr (Or.inr (Or.inr (Or.inr (Or.inr (Or.inr (Or.inr (Or.inr (Or.inl (Int32.toInt_inj.mp h)))))))))))))))))))))))))
  · exact Or.inr (Or.inr (Or.inr (Or.inr (Or.inr (Or.inr (Or.inr (Or.inr (Or.inr (Or.inr (Or.inr (Or.inr (Or.inr (Or.inr (Or.inr (Or.inr (Or.inr (Or.inr (Or.inr (Or.inr (Or.inr (Or.inr (Or.inr (Or.inr (Or.inr (h)))))))))))))))))))))))))
theorem q_sw6_17 (x : Int32) : x = 6 ∨ x = 7 ∨ x = 8 ∨ x = 9 ∨ x = 10 ∨ x = 11 ∨ x = 12 ∨ x = 13 ∨ x = 14 ∨ x = 15 ∨ x = 16 ∨ x = 17 ∨ (x.toInt < 6 ∨ 17 < x.toInt) := by
  rcases (by omega : x.toInt = 6 ∨ x.toInt = 7 ∨ x.toInt = 8 ∨ x.toInt = 9 ∨ x.toInt = 10 ∨ x.toInt = 11 ∨ x.toInt = 12 ∨ x.toInt = 13 ∨ x.toInt = 14 ∨ x.toInt = 15 ∨ x.toInt = 16 ∨ x.toInt = 17 ∨ (x.toInt < 6 ∨ 17 < x.toInt)) with h | h | h | h | h | h | h | h | h | h | h | h | h
  · exact Or.inl (Int32.toInt_inj.mp h)
  · exact Or.inr (Or.inl (Int32.toInt_inj.mp h))
  · exact Or.inr (Or.inr (Or.inl (Int32.toInt_inj.mp h)))
  · exact Or.inr (Or.inr (Or.inr (Or.inl (Int32.toInt_inj.mp h))))
  · exact Or.inr (Or.inr (Or.inr (Or.inr (Or.inl (Int32.toInt_inj.mp h)))))
  · exact Or.inr (Or.inr (Or.inr (Or.inr (Or.inr (Or.inl (Int32.toInt_inj.mp h))))))
  · exact Or.inr (Or.inr (Or.inr (Or.inr (Or.inr (Or.inr (Or.inl (Int32.toInt_inj.mp h)))))))
  · exact Or.inr (Or.inr (Or.inr (Or.inr (Or.inr (Or.inr (Or.inr (Or.inl (Int32.toInt_inj.mp h))))))))
  · exact Or.inr (Or.inr (Or.inr (Or.inr (Or.inr (Or.inr (Or.inr (Or.inr (Or.inl (Int32.toInt_inj.mp h)))))))))
  · exact Or.inr (Or.inr (Or.inr (Or.inr (Or.inr (Or.inr (Or.inr (Or.inr (Or.inr (Or.inl (Int32.toInt_inj.mp h))))))))))
  · exact Or.inr (Or.inr (Or.inr (Or.inr (Or.inr (Or.inr (Or.inr (Or.inr (Or.inr (Or.inr (Or.inl (Int32.toInt_inj.mp h)))))))))))
  · exact Or.inr (Or.inr (Or.inr (Or.inr (Or.inr (Or.inr (Or.inr (Or.inr (Or.inr (Or.inr (Or.inr (Or.inl (Int32.toInt_inj.mp h))))))))))))
  · exact Or.inr (Or.inr (Or.inr (Or.inr (Or.inr (Or.inr (Or.inr (Or.inr (Or.inr (Or.inr (Or.inr (Or.inr (h))))))))))))
theorem q_sw6_18 (x : Int32) : x = 6 ∨ x = 7 ∨ x = 8 ∨ x = 9 ∨ x = 10 ∨ x = 11 ∨ x = 12 ∨ x = 13 ∨ x = 14 ∨ x = 15 ∨ x = 16 ∨ x = 17 ∨ x = 18 ∨ (x.toInt < 6 ∨ 18 < x.toInt) := by
  rcases (by omega : x.toInt = 6 ∨ x.toInt = 7 ∨ x.toInt = 8 ∨ x.toInt = 9 ∨ x.toInt = 10 ∨ x.toInt = 11 ∨ x.toInt = 12 ∨ x.toInt = 13 ∨ x.toInt = 14 ∨ x.toInt = 15 ∨ x.toInt = 16 ∨ x.toInt = 17 ∨ x.toInt = 18 ∨ (x.toInt < 6 ∨ 18 < x.toInt)) with h | h | h | h | h | h | h | h | h | h | h | h | h | h
  · exact Or.inl (Int32.toInt_inj.mp h)
  · exact Or.inr (Or.inl (Int32.toInt_inj.mp h))
  · exact Or.inr (Or.inr (Or.inl (Int32.toInt_inj.mp h)))
  · exact Or.inr (Or.inr (Or.inr (Or.inl (Int32.toInt_inj.mp h))))
  · exact Or.inr (Or.inr (Or.inr (Or.inr (Or.inl (Int32.toInt_inj.mp h)))))
  · exact Or.inr (Or.inr (Or.inr (Or.inr (Or.inr (Or.inl (Int32.toInt_inj.mp h))))))
  · exact Or.inr (Or.inr (Or.inr (Or.inr (Or.inr (Or.inr (Or.inl (Int32.toInt_inj.mp h)))))))
  · exact Or.inr (Or.inr (Or.inr (Or.inr (Or.inr (Or.inr (Or.inr (Or.inl (Int32.toInt_inj.mp h))))))))
  · exact Or.inr (Or.inr (Or.inr (Or.inr (Or.inr (Or.inr (Or.inr (Or.inr (Or.inl (Int32.toInt_inj.mp h)))))))))
  · exact Or.inr (Or.inr (Or.inr (Or.inr (Or.inr (Or.inr (Or.inr (Or.inr (Or.inr (Or.inl (Int32.toInt_inj.mp h))))))))))
  · exact Or.inr (Or.inr (Or.inr (Or.inr (Or.inr (Or.inr (Or.inr (Or.inr (Or.inr (Or.inr (Or.inl (Int32.toInt_inj.mp h)))))))))))
  · exact Or.inr (Or.inr (Or.inr (Or.inr (Or.inr (Or.inr (Or.inr (Or.inr (Or.inr (Or.inr (Or.inr (Or.inl (Int32.toInt_inj.mp h))))))))))))
  · exact Or.inr (Or.inr (Or.inr (Or.inr (Or.inr (Or.inr (Or.inr (Or.inr (Or.inr (Or.inr (Or.inr (Or.inr (Or.inl (Int32.toInt_inj.mp h)))))))))))))
  · exact Or.inr (Or.inr (Or.inr (Or.inr (Or.inr (Or.inr (Or.inr (Or.inr (Or.inr (Or.inr (Or.inr (Or.inr (Or.inr (h)))))))))))))
theorem q_sw40_61 (x : Int32) : x = 40 ∨ x = 41 ∨ x = 42 ∨ x = 43 ∨ x = 44 ∨ x = 45 ∨ x = 46 ∨ x = 47 ∨ x = 48 ∨ x = 49 ∨ x = 50 ∨ x = 51 ∨ x = 52 ∨ x = 53 ∨ x = 54 ∨ x = 55 ∨ x = 56 ∨ x = 57 ∨ x = 58 ∨ x = 59 ∨ x = 60 ∨ x = 61 ∨ (x.toInt < 40 ∨ 61 < x.toInt) := by
  rcases (by omega : x.toInt = 40 ∨ x.toInt = 41 ∨ x.toInt = 42 ∨ x.toInt = 43 ∨ x.toInt = 44 ∨ x.toInt = 45 ∨ x.toInt = 46 ∨ x.toInt = 47 ∨ x.toInt = 48 ∨ x.toInt = 49 ∨ x.toInt = 50 ∨ x.toInt = 51 ∨ x.toInt = 52 ∨ x.toInt = 53 ∨ x.toInt = 54 ∨ x.toInt = 55 ∨ x.toInt = 56 ∨ x.toInt = 57 ∨ x.toInt = 58 ∨ x.toInt = 59 ∨ x.toInt = 60 ∨ x.toInt = 61 ∨ (x.toInt < 40 ∨ 61 < x.toInt)) with h | h | h | h | h | h | h | h | h | h | h | h | h | h | h | h | h | h | h | h | h | h | h
  · exact Or.inl (Int32.toInt_inj.mp h)
  · exact Or.inr (Or.inl (Int32.toInt_inj.mp h))
  · exact Or.inr (Or.inr (Or.inl (Int32.toInt_inj.mp h)))
  · exact Or.inr (Or.inr (Or.inr (Or.inl (Int32.toInt_inj.mp h))))
  · exact Or.inr (Or.inr (Or.inr (Or.inr (Or.inl (Int32.toInt_inj.mp h)))))
  · exact Or.inr (Or.inr (Or.inr (Or.inr (Or.inr (Or.inl (Int32.toInt_inj.mp h))))))
  · exact Or.inr (Or.inr (Or.inr (Or.inr (Or.inr (Or.inr (Or.inl (Int32.toInt_inj.mp h)))))))
  · exact Or.inr (Or.inr (Or.inr (Or.inr (Or.inr (Or.inr (Or.inr (Or.inl (Int32.toInt_inj.mp h))))))))
  · exact Or.inr (Or.inr (Or.inr (Or.inr (Or.inr (Or.inr (Or.inr (Or.inr (Or.inl (Int32.toInt_inj.mp h)))))))))
  · exact Or.inr (Or.inr (Or.inr (Or.inr (Or.inr (Or.inr (Or.inr (Or.inr (Or.inr (Or.inl (Int32.toInt_inj.mp h))))))))))
  · exact Or.inr (Or.inr (Or.inr (Or.inr (Or.inr (Or.inr (Or.inr (Or.inr (Or.inr (Or.inr (Or.inl (Int32.toInt_inj.mp h)))))))))))
  · exact Or.inr (Or.inr (Or.inr (Or.inr (Or.inr (Or.inr (Or.inr (Or.inr (Or.inr (Or.inr (Or.inr (Or.inl (Int32.toInt_inj.mp h))))))))))))
  · exact Or.inr (Or.inr (Or.inr (Or.inr (Or.inr (Or.inr (Or.inr (Or.inr (Or.inr (Or.inr (Or.inr (Or.inr (Or.inl (Int32.toInt_inj.mp h)))))))))))))
  · exact Or.inr (Or.inr (Or.inr (Or.inr (Or.inr (Or.inr (Or.inr (Or.inr (Or.inr (Or.inr (Or.inr (Or.inr (Or.inr (Or.inl (Int32.toInt_inj.mp h))))))))))))))
  · exact Or.inr (Or.inr (Or.inr (Or.inr (Or.inr (Or.inr (Or.inr (Or.inr (Or.inr (Or.inr (Or.inr (Or.inr (Or.inr (Or.inr (Or.inl (Int32.toInt_inj.mp h)))))))))))))))
  · exact Or.inr (Or.inr (Or.inr (Or.inr (Or.inr (Or.inr (Or.inr (Or.inr (Or.inr (Or.inr (Or.inr (Or.inr (Or.inr (Or.inr (Or.inr (Or.inl (Int32.toInt_inj.mp h))))))))))))))))
  · exact Or.inr (Or.inr (Or.inr (Or.inr (Or.inr (Or.inr (Or.inr (Or.inr (Or.inr (Or.inr (Or.inr (Or.inr (Or.inr (Or.inr (Or.inr (Or.inr (Or.inl (Int32.toInt_inj.mp h)))))))))))))))))
  · exact Or.inr (Or.inr (Or.inr (Or.inr (Or.inr (Or.inr (Or.inr (Or.inr (Or.inr (Or.inr (Or.inr (Or.inr (Or.inr (Or.inr (Or.inr (Or.inr (Or.inr (Or.inl (Int32.toInt_inj.mp h))))))))))))))))))
  · exact Or.inr (Or.inr (Or.inr (Or.inr (Or.inr (Or.inr (Or.inr (Or.inr (Or.inr (Or.inr (Or.inr (Or.inr (Or.inr (Or.inr (Or.inr (Or.inr (Or.inr (Or.inr (Or.inl (Int32.toInt_inj.mp h)))))))))))))))))))
  · exact Or.inr (Or.inr (Or.inr (Or.inr (Or.inr (Or.inr (Or.inr (Or.inr (Or.inr (Or.inr (Or.inr (Or.inr (Or.inr (Or.inr (Or.inr (Or.inr (Or.inr (Or.inr (Or.inr (Or.inl (Int32.toInt_inj.mp h))))))))))))))))))))
  · exact Or.inr (Or.inr (Or.inr (Or.inr (Or.inr (Or.inr (Or.inr (Or.inr (Or.inr (Or.inr (Or.inr (Or.inr (Or.inr (Or.inr (Or.inr (Or.inr (Or.inr (Or.inr (Or.inr (Or.inr (Or.inl (Int32.toInt_inj.mp h)))))))))))))))))))))
  · exact Or.inr (Or.inr (Or.inr (Or.inr (Or.inr (Or.inr (Or.inr (Or.inr (Or.inr (Or.inr (Or.inr (Or.inr (Or.inr (Or.inr (Or.inr (Or.inr (Or.inr (Or.inr (Or.inr (Or.inr (Or.inr (Or.inl (Int32.toInt_inj.mp h))))))))))))))))))))))
  · exact Or.inr (Or.inr (Or.inr (Or.inr (Or.inr (Or.inr (Or.inr (Or.inr (Or.inr (Or.inr (Or.inr (Or.inr (Or.inr (Or.inr (Or.inr (Or.inr (Or.inr (Or.inr (Or.inr (Or.inr (Or.inr (Or.inr (h))))))))))))))))))))))
