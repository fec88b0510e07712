/-! the class on any state: objects that were made, by what they are -/
section QCL
variable {p : Program} {l : Launch} {e : Env} {R : Room} {s : State} {m : MethodId} {args : Array Value} {below : List Frame} {meth : Method} {c : Code} {H H0 : Heap} {locs : List Loc} {cells slots : Nat} {Q : State → Prop}
variable {cc : ByteArray} {nL pc : Nat} {ls : Array Slot} {rest st0 As : List Value} {own : String} {E : qE} {A : Nat → Prop} {T : Nat} {u : qS} {y : MethodName} {bytes : ByteArray} {maxL index mc ms f : Nat} {ret : Option FieldType}
theorem q_aald (hF : qX p m c cc nL s args own) (hU : qH E A T u s H) (hdg : decode cc pc = .ok (.aaload, 1)) (j n t : Nat) (hj : (qar T)[j]? = some n) (hy : qy n = t) (ht : 3 < t) {C : String} (hty : (qT E)[t]? = some (E.2.1 t, .object C)) {i : Int32} (hin : vp_in i (ql n)) {v : Value} (hv : va_rf (u.2.2.2.1 n i.toNatClampNeg) = v)
    (kk : W p l e R s m args below meth c H locs cells slots Q (F0 m (pc + 1) ls (v :: rest))) : W p l e R s m args below meth c H locs cells slots Q (F0 m pc ls (.int i :: .ref (E.2.2 n) :: rest)) := by
  refine va_aldq (D := E.1) hF.1 hF.2.1 hU.1 hU.2.1 ((qob T).length + j) t (cA := E.2.1 t) (C := C) (n := ql n) (f := u.2.2.2.1 n) (by rw [qW_ar hj, qac, qe_4 hy ht]) hty hin hdg ?_
  rw [hv]; exact kk
theorem q_runVd {Qc : Array Value → State → Outcome → State → Prop} (hF : qX p m c cc nL s args own) (hU : qH E A T u s H) (hS : va_S A H0 H locs) (hA : ∀ q : Nat, H0.size ≤ q → A q) (n dd ci : Nat) {b : Nat} {fs : List Value} (hd0 : u.2.2.2.2[dd]? = some (b, .inr (ci, fs))) {C : String} {TT : u_T} {N : Nat} (hc : vwCl[ci]? = some (C, TT, N))
    (hM : Met l y (uws y bytes maxL ret) (qR f mc ms) (qPc E A T u (.ref b :: As)) Qc mc ms A)
    (w1 : Cond.methodLink own index y ∈ qw_tbl) (w2 : Cond.instanceMethod y ∈ qw_tbl) (w3 : Cond.selects C y y ∈ qw_tbl) (w4 : Cond.initialized C ∈ qw_tbl) (w5 : Cond.code y bytes maxL ret ∈ qw_tbl)
    (hd : y.cls = C ∧ y.cls ≠ "java/lang/invoke/MethodHandle" ∧ y.cls ≠ "java/lang/invoke/VarHandle" ∧ (parseMethodDescriptor y.desc).map (fun d => d.parameters.length) = some n) (hR : f + 1 ≤ R.frames ∧ 8 + (maxL + 11) + 60 * f ≤ R.locals)
    (hdg : decode cc pc = .ok (.invokevirtual index, 3)) (hn : As.length = n) (hsize : ls.size = nL) (hstack : st0 = As.reverse ++ .ref b :: rest) (hW : (rest.map fun v => v.category).sum ≤ 8) (hf : cells + mc ≤ R.cells ∧ slots + ms ≤ R.slots) :
    va_Run p l e R s m args below meth c H locs cells slots mc ms (F0 m pc ls st0) rest (Qc (Value.ref b :: As).toArray) A := by
  have hG : GoodIn qw_tbl (wsV own index C y (uws y bytes maxL ret)) := fun w hw => by
    rcases List.mem_append.mp hw with h | h
    · rcases List.mem_cons.mp h with e | h
      · rw [e]; exact ⟨w1, good_of_word (uw_g w1)⟩
      · rcases List.mem_cons.mp h with e | h
        · rw [e]; exact ⟨w2, good_of_word (uw_g w2)⟩
        · rcases List.mem_cons.mp h with e | h
          · rw [e]; exact ⟨w3, good_of_word (uw_g w3)⟩
          · rcases List.mem_cons.mp h with e | h
            · rw [e]; exact ⟨w4, good_of_word (uw_g w4)⟩
            · cases h
    · exact uw_in (fun _ h => h) w5 w h
  exact va_runV (As := As) (rest := rest) hF.fix hM (cwV n hF.2.2.2.2 hG rfl rfl rfl hd hR) ⟨qPc_blind, va_recv hU.1 hU.2.1 hc (qW_dyn hd0), q_pre hF hU hS hA _⟩ rfl hn hsize hstack (lv_room hW) hdg hf
end QCL
/-- a made object of this class -/
def qRf (u : qS) (a c : Nat) : Prop := ∃ (k : Nat) (fs : List Value), u.2.2.2.2[k]? = some (a, .inr (c, fs))
/-- a visit that is kept: its number is below how many there are -/
def qRv (u : qS) (a : Nat) : Prop := ∃ (k : Nat) (n : Int32) (fs : List Value), u.2.2.2.2[k]? = some (a, .inr (10, .int n :: fs)) ∧ 0 ≤ n ∧ n < u.1 10
theorem qRv.rf {u : qS} {a : Nat} (h : qRv u a) : qRf u a 10 := by
  obtain ⟨k, n, fs, hk, -⟩ := h
  exact ⟨k, _, hk⟩
/-- a visit of this number -/
def qRn (u : qS) (a : Nat) (n : Int32) : Prop := ∃ (k : Nat) (fs : List Value), u.2.2.2.2[k]? = some (a, .inr (10, .int n :: fs))
/-- all but the named numbers and rows is as it was; what was made stays what it is -/
def qFc (M R G X : List Nat) (u v : qS) : Prop := (∀ n, n ∉ M → v.1 n = u.1 n) ∧ (∀ n, n ∉ R → v.2.1 n = u.2.1 n) ∧ (∀ n, n ∉ G → v.2.2.1 n = u.2.2.1 n) ∧ (∀ n, n ∉ X → v.2.2.2.1 n = u.2.2.2.1 n) ∧ (∀ a c, qRf u a c → qRf v a c) ∧ (∀ a, qRv u a → qRv v a) ∧ (∀ a n, qRn u a n → qRn v a n) ∧ (∀ (k a : Nat) (x : ClassId × vp_A), u.2.2.2.2[k]? = some (a, .inl x) → v.2.2.2.2[k]? = some (a, .inl x)) ∧ (∀ (k a c : Nat) (fs : List Value), u.2.2.2.2[k]? = some (a, .inr (c, fs)) → ∃ fs' : List Value, v.2.2.2.2[k]? = some (a, .inr (c, fs')) ∧ (c ≠ 10 → fs' = fs) ∧ (5000 ∉ X → ∀ j : Nat, j < 9 → fs'[j]? = fs[j]?))
theorem qFc.r {M R G X : List Nat} {u v : qS} (h : qFc M R G X u v) : ∀ a c, qRf u a c → qRf v a c := h.2.2.2.2.1
theorem qFc.v {M R G X : List Nat} {u v : qS} (h : qFc M R G X u v) : ∀ a, qRv u a → qRv v a := h.2.2.2.2.2.1
theorem qFc.n {M R G X : List Nat} {u v : qS} (h : qFc M R G X u v) : ∀ a n, qRn u a n → qRn v a n := h.2.2.2.2.2.2.1
theorem qFc.a {M R G X : List Nat} {u v : qS} (h : qFc M R G X u v) : ∀ (k a : Nat) (x : ClassId × vp_A), u.2.2.2.2[k]? = some (a, .inl x) → v.2.2.2.2[k]? = some (a, .inl x) := h.2.2.2.2.2.2.2.1
theorem qFc.k {M R G X : List Nat} {u v : qS} (h : qFc M R G X u v) : (∀ (k a c : Nat) (fs : List Value), u.2.2.2.2[k]? = some (a, .inr (c, fs)) → ∃ fs' : List Value, v.2.2.2.2[k]? = some (a, .inr (c, fs')) ∧ (c ≠ 10 → fs' = fs) ∧ (5000 ∉ X → ∀ j : Nat, j < 9 → fs'[j]? = fs[j]?)) := h.2.2.2.2.2.2.2.2
theorem qFc.rf {M R G X : List Nat} {u : qS} : qFc M R G X u u := ⟨fun _ _ => rfl, fun _ _ => rfl, fun _ _ => rfl, fun _ _ => rfl, fun _ _ h => h, fun _ h => h, fun _ _ h => h, fun _ _ _ h => h, fun _ _ _ fs h => ⟨fs, h, fun _ => rfl, fun _ _ _ => rfl⟩⟩
theorem qFc.trans {M R G X : List Nat} {u v w : qS} (h : qFc M R G X u v) (k : qFc M R G X v w) : qFc M R G X u w := ⟨fun n hn => (k.1 n hn).trans (h.1 n hn), fun n hn => (k.2.1 n hn).trans (h.2.1 n hn), fun n hn => (k.2.2.1 n hn).trans (h.2.2.1 n hn), fun n hn => (k.2.2.2.1 n hn).trans (h.2.2.2.1 n hn), fun a c q => k.r a c (h.r a c q), fun a q => k.v a (h.v a q), fun a n q => k.n a n (h.n a n q), fun i a x q => k.a i a x (h.a i a x q), fun i a c fs q => by
  obtain ⟨f1, h1, h2, h3⟩ := h.k i a c fs q
  obtain ⟨f2, k1, k2, k3⟩ := k.k i a c f1 h1
  exact ⟨f2, k1, fun z => (k2 z).trans (h2 z), fun z j hj => (k3 z j hj).trans (h3 z j hj)⟩⟩
theorem qFc.mono {M R G X M' R' G' X' : List Nat} {u v : qS} (h : qFc M R G X u v) (h1 : ∀ n ∈ M, n ∈ M') (h2 : ∀ n ∈ R, n ∈ R') (h3 : ∀ n ∈ G, n ∈ G') (h4 : ∀ n ∈ X, n ∈ X') : qFc M' R' G' X' u v := ⟨fun n hn => h.1 n (fun q => hn (h1 n q)), fun n hn => h.2.1 n (fun q => hn (h2 n q)), fun n hn => h.2.2.1 n (fun q => hn (h3 n q)), fun n hn => h.2.2.2.1 n (fun q => hn (h4 n q)), h.r, h.v, h.n, h.a, fun i a c fs q => (h.k i a c fs q).elim (fun f1 z => ⟨f1, z.1, z.2.1, fun w => z.2.2 (fun y => w (h4 _ y))⟩)⟩
theorem qFc.setI {M R G X : List Nat} {u v : qS} (h : qFc M R G X u v) {n : Nat} {x : Int32} (hn : n ∈ M) (h10 : n = 10 → v.1 10 ≤ x) : qFc M R G X u (qsI v n x) := ⟨fun k hk => (show upd v.1 n x k = u.1 k by rw [pk_un (fun e => hk (by rw [e]; exact hn))]; exact h.1 k hk), h.2.1, h.2.2.1, h.2.2.2.1, h.r, fun a q => by
  obtain ⟨k, i, fs, hk, h0, h1⟩ := h.v a q
  refine ⟨k, i, fs, hk, h0, ?_⟩
  show i < upd v.1 n x 10
  by_cases e : n = 10
  · subst e; rw [pk_us]; exact Int32.lt_of_lt_of_le h1 (h10 rfl)
  · rw [pk_un (fun q => e q.symm)]; exact h1, h.n, h.a, h.k⟩
theorem qFc.setF {M R G X : List Nat} {u v : qS} (h : qFc M R G X u v) {n : Nat} {f : Nat → Int32} (hn : n ∈ R) : qFc M R G X u (qsF v n f) := ⟨h.1, fun k hk => (show (if k = n then f else v.2.1 k) = u.2.1 k by rw [if_neg (fun e : k = n => hk (by rw [e]; exact hn))]; exact h.2.1 k hk), h.2.2.1, h.2.2.2.1, h.2.2.2.2.1, h.2.2.2.2.2⟩
theorem qFc.setG {M R G X : List Nat} {u v : qS} (h : qFc M R G X u v) {n : Nat} {f : Nat → Int64} (hn : n ∈ G) : qFc M R G X u (qsG v n f) := ⟨h.1, h.2.1, fun k hk => (show (if k = n then f else v.2.2.1 k) = u.2.2.1 k by rw [if_neg (fun e : k = n => hk (by rw [e]; exact hn))]; exact h.2.2.1 k hk), h.2.2.2.1, h.2.2.2.2.1, h.2.2.2.2.2⟩
theorem qFc.setR {M R G X : List Nat} {u v : qS} (h : qFc M R G X u v) {n : Nat} {f : Nat → Option Nat} (hn : n ∈ X) : qFc M R G X u (qsR v n f) := ⟨h.1, h.2.1, h.2.2.1, fun k hk => (show (if k = n then f else v.2.2.2.1 k) = u.2.2.2.1 k by rw [if_neg (fun e : k = n => hk (by rw [e]; exact hn))]; exact h.2.2.2.1 k hk), h.2.2.2.2.1, h.2.2.2.2.2⟩
/-- the numbers of the class -/
def CN (u : qS) : Prop := (0 ≤ u.1 8 ∧ u.1 8 ≤ 20) ∧ (0 ≤ u.1 9 ∧ u.1 9 ≤ 8) ∧ (0 ≤ u.1 10 ∧ u.1 10 ≤ 120) ∧ (0 ≤ u.1 11 ∧ u.1 11 ≤ 60) ∧ (0 ≤ u.1 12 ∧ u.1 12 ≤ 16) ∧ (0 ≤ u.1 13 ∧ u.1 13 ≤ 9999) ∧ (0 ≤ u.1 801 ∧ u.1 801 ≤ 1000) ∧ (0 ≤ u.1 908 ∧ u.1 908 ≤ 12)
theorem CN.s8 {u : qS} (h : CN u) : 0 ≤ u.1 8 ∧ u.1 8 ≤ 20 := h.1
theorem CN.s9 {u : qS} (h : CN u) : 0 ≤ u.1 9 ∧ u.1 9 ≤ 8 := h.2.1
theorem CN.s10 {u : qS} (h : CN u) : 0 ≤ u.1 10 ∧ u.1 10 ≤ 120 := h.2.2.1
theorem CN.s11 {u : qS} (h : CN u) : 0 ≤ u.1 11 ∧ u.1 11 ≤ 60 := h.2.2.2.1
theorem CN.s12 {u : qS} (h : CN u) : 0 ≤ u.1 12 ∧ u.1 12 ≤ 16 := h.2.2.2.2.1
theorem CN.s13 {u : qS} (h : CN u) : 0 ≤ u.1 13 ∧ u.1 13 ≤ 9999 := h.2.2.2.2.2.1
theorem CN.s801 {u : qS} (h : CN u) : 0 ≤ u.1 801 ∧ u.1 801 ≤ 1000 := h.2.2.2.2.2.2.1
theorem CN.s908 {u : qS} (h : CN u) : 0 ≤ u.1 908 ∧ u.1 908 ≤ 12 := h.2.2.2.2.2.2.2
/-- what the made objects hold -/
def CV (u : qS) (fs : List Value) : Prop := fs.length = 15 ∧ (∀ k : Nat, k < 15 → ∃ x : Int32, fs[k]? = some (.int x) ∧ (k = 2 → 0 ≤ x ∧ x < u.1 8) ∧ (k = 3 → 0 ≤ x ∧ x < u.1 9))
def CS (u : qS) (fs : List Value) : Prop := ∃ (q : Nat) (c o d r : Int32), fs = [.ref q, .int c, .int o, .int d, .int r] ∧ qRf u q 4
def CB (E : qE) (u : qS) (fs : List Value) : Prop := ∃ (c f t : Int32) (q k n : Nat) (g : Nat → Int32), fs = [.int c, .int f, .int t, .ref q] ∧ u.2.2.2.2[k]? = some (q, .inl (E.2.1 0, n, .inl g)) ∧ n ≤ 1000
def CD (E : qE) (u : qS) : Prop := ∀ (k a c : Nat) (fs : List Value), u.2.2.2.2[k]? = some (a, .inr (c, fs)) → (c = 10 → CV u fs) ∧ (c = 7 → CS u fs) ∧ (c = 4 → ∃ x y : Int32, fs = [.int x, .int y]) ∧ (c = 1 → CB E u fs)
/-- what the rows hold -/
def CR (u : qS) : Prop := (∀ i : Int32, 0 ≤ i → i < u.1 8 → ∃ a, u.2.2.2.1 0 i.toNatClampNeg = some a ∧ qRf u a 7) ∧ (∀ i : Int32, 0 ≤ i → i < u.1 9 → ∃ a, u.2.2.2.1 1 i.toNatClampNeg = some a ∧ qRf u a 4) ∧ (∀ i : Int32, 0 ≤ i → i < u.1 10 → ∃ a, u.2.2.2.1 2 i.toNatClampNeg = some a ∧ qRv u a) ∧ (∀ i : Int32, 0 ≤ i → i < u.1 10 → ∃ a, u.2.2.2.1 3 i.toNatClampNeg = some a ∧ qRv u a) ∧ (∀ i : Int32, 0 ≤ i → i < u.1 12 → ∃ a, u.2.2.2.1 4 i.toNatClampNeg = some a ∧ qRf u a 1) ∧ (∀ i : Int32, 0 ≤ i → i < u.1 908 → ∃ a, u.2.2.2.1 904 i.toNatClampNeg = some a ∧ qRv u a) ∧ (∀ i : Int32, 0 ≤ i → i < u.1 11 → 0 ≤ u.2.1 5 i.toNatClampNeg ∧ u.2.1 5 i.toNatClampNeg < u.1 10)
def IC (E : qE) (u : qS) : Prop := CN u ∧ CD E u ∧ CR u
theorem IC.r0 {E : qE} {u : qS} (h : IC E u) (i : Int32) (hi : 0 ≤ i ∧ i < u.1 8) : ∃ a, u.2.2.2.1 0 i.toNatClampNeg = some a ∧ qRf u a 7 := h.2.2.1 i hi.1 hi.2
theorem IC.r1 {E : qE} {u : qS} (h : IC E u) (i : Int32) (hi : 0 ≤ i ∧ i < u.1 9) : ∃ a, u.2.2.2.1 1 i.toNatClampNeg = some a ∧ qRf u a 4 := h.2.2.2.1 i hi.1 hi.2
theorem IC.r2 {E : qE} {u : qS} (h : IC E u) (i : Int32) (hi : 0 ≤ i ∧ i < u.1 10) : ∃ a, u.2.2.2.1 2 i.toNatClampNeg = some a ∧ qRv u a := h.2.2.2.2.1 i hi.1 hi.2
theorem IC.r3 {E : qE} {u : qS} (h : IC E u) (i : Int32) (hi : 0 ≤ i ∧ i < u.1 10) : ∃ a, u.2.2.2.1 3 i.toNatClampNeg = some a ∧ qRv u a := h.2.2.2.2.2.1 i hi.1 hi.2
theorem IC.r4 {E : qE} {u : qS} (h : IC E u) (i : Int32) (hi : 0 ≤ i ∧ i < u.1 12) : ∃ a, u.2.2.2.1 4 i.toNatClampNeg = some a ∧ qRf u a 1 := h.2.2.2.2.2.2.1 i hi.1 hi.2
theorem IC.r904 {E : qE} {u : qS} (h : IC E u) (i : Int32) (hi : 0 ≤ i ∧ i < u.1 908) : ∃ a, u.2.2.2.1 904 i.toNatClampNeg = some a ∧ qRv u a := h.2.2.2.2.2.2.2.1 i hi.1 hi.2
theorem IC.r5 {E : qE} {u : qS} (h : IC E u) (i : Int32) (hi : 0 ≤ i ∧ i < u.1 11) : 0 ≤ u.2.1 5 i.toNatClampNeg ∧ u.2.1 5 i.toNatClampNeg < u.1 10 := h.2.2.2.2.2.2.2.2 i hi.1 hi.2
/-- a visit's field -/
theorem IC.v {E : qE} {u : qS} {a : Nat} (h : IC E u) (ha : qRf u a 10) (k : Nat) (hk : k < 15) : ∃ (dd : Nat) (fs : List Value) (x : Int32), u.2.2.2.2[dd]? = some (a, .inr (10, fs)) ∧ fs[k]? = some (.int x) ∧ (k = 2 → 0 ≤ x ∧ x < u.1 8) ∧ (k = 3 → 0 ≤ x ∧ x < u.1 9) ∧ fs.length = 15 := by
  obtain ⟨dd, fs, hd⟩ := ha
  obtain ⟨hl, hx⟩ := (h.2.1 dd a 10 fs hd).1 rfl
  obtain ⟨x, h1, h2, h3⟩ := hx k hk
  exact ⟨dd, fs, x, hd, h1, h2, h3, hl⟩
/-- a number of a visit, by its place -/
noncomputable def qfd (D : va_W) (a k : Nat) : Int32 := Classical.epsilon (fun x : Int32 => ∃ (dd : Nat) (fs : List Value), D[dd]? = some (a, .inr (10, fs)) ∧ fs[k]? = some (.int x))
theorem IC.vf {E : qE} {u : qS} {a : Nat} (h : IC E u) (ha : qRf u a 10) (k : Nat) (hk : k < 15) : ∃ (dd : Nat) (fs : List Value), u.2.2.2.2[dd]? = some (a, .inr (10, fs)) ∧ fs[k]? = some (.int (qfd u.2.2.2.2 a k)) ∧ (k = 2 → 0 ≤ qfd u.2.2.2.2 a k ∧ qfd u.2.2.2.2 a k < u.1 8) ∧ (k = 3 → 0 ≤ qfd u.2.2.2.2 a k ∧ qfd u.2.2.2.2 a k < u.1 9) ∧ fs.length = 15 := by
  obtain ⟨dd, fs, x, hd, h1, -⟩ := h.v ha k hk
  have e := Classical.epsilon_spec (p := fun x : Int32 => ∃ (dd : Nat) (fs : List Value), u.2.2.2.2[dd]? = some (a, .inr (10, fs)) ∧ fs[k]? = some (.int x)) ⟨x, dd, fs, hd, h1⟩
  obtain ⟨d2, f2, hd2, hv2⟩ := e
  obtain ⟨hl, hx⟩ := (h.2.1 d2 a 10 f2 hd2).1 rfl
  obtain ⟨y, y1, y2, y3⟩ := hx k hk
  have ey : qfd u.2.2.2.2 a k = y := by
    have z := hv2.symm.trans y1
    injection z with z; injection z
  refine ⟨d2, f2, hd2, hv2, ?_, ?_, hl⟩
  · rw [ey]; exact y2
  · rw [ey]; exact y3
/-- a shop's place, and its numbers -/
theorem IC.sp {E : qE} {u : qS} {a : Nat} (h : IC E u) (ha : qRf u a 7) : ∃ (dd : Nat) (fs : List Value) (q : Nat), u.2.2.2.2[dd]? = some (a, .inr (7, fs)) ∧ fs[0]? = some (.ref q) ∧ qRf u q 4 := by
  obtain ⟨dd, fs, hd⟩ := ha
  obtain ⟨q, c, o, d, r, hfs, hq⟩ := (h.2.1 dd a 7 fs hd).2.1 rfl
  exact ⟨dd, fs, q, hd, by rw [hfs]; rfl, hq⟩
theorem IC.sn {E : qE} {u : qS} {a : Nat} (h : IC E u) (ha : qRf u a 7) (k : Nat) (hk : 0 < k ∧ k < 5) : ∃ (dd : Nat) (fs : List Value) (x : Int32), u.2.2.2.2[dd]? = some (a, .inr (7, fs)) ∧ fs[k]? = some (.int x) := by
  obtain ⟨dd, fs, hd⟩ := ha
  obtain ⟨q, c, o, d, r, hfs, hq⟩ := (h.2.1 dd a 7 fs hd).2.1 rfl
  subst hfs
  match k, hk with
  | 1, _ => exact ⟨dd, _, c, hd, rfl⟩
  | 2, _ => exact ⟨dd, _, o, hd, rfl⟩
  | 3, _ => exact ⟨dd, _, d, hd, rfl⟩
  | 4, _ => exact ⟨dd, _, r, hd, rfl⟩
theorem IC.p {E : qE} {u : qS} {a : Nat} (h : IC E u) (ha : qRf u a 4) (k : Nat) (hk : k < 2) : ∃ (dd : Nat) (fs : List Value) (x : Int32), u.2.2.2.2[dd]? = some (a, .inr (4, fs)) ∧ fs[k]? = some (.int x) := by
  obtain ⟨dd, fs, hd⟩ := ha
  obtain ⟨x, y, hfs⟩ := (h.2.1 dd a 4 fs hd).2.2.1 rfl
  subst hfs
  match k, hk with
  | 0, _ => exact ⟨dd, _, x, hd, rfl⟩
  | 1, _ => exact ⟨dd, _, y, hd, rfl⟩
theorem IC.bn {E : qE} {u : qS} {a : Nat} (h : IC E u) (ha : qRf u a 1) (k : Nat) (hk : k < 3) : ∃ (dd : Nat) (fs : List Value) (x : Int32), u.2.2.2.2[dd]? = some (a, .inr (1, fs)) ∧ fs[k]? = some (.int x) := by
  obtain ⟨dd, fs, hd⟩ := ha
  obtain ⟨c, f, t, q, k', n, g, hfs, hq⟩ := (h.2.1 dd a 1 fs hd).2.2.2 rfl
  subst hfs
  match k, hk with
  | 0, _ => exact ⟨dd, _, c, hd, rfl⟩
  | 1, _ => exact ⟨dd, _, f, hd, rfl⟩
  | 2, _ => exact ⟨dd, _, t, hd, rfl⟩
/-- numbers and rows that the invariant does not speak of -/
theorem IC.sI {E : qE} {u : qS} (h : IC E u) {n : Nat} {x : Int32} (hn : ∀ k ∈ [8, 9, 10, 11, 12, 13, 801, 908], k ≠ n) : IC E (qsI u n x) := by
  have e : ∀ k ∈ [8, 9, 10, 11, 12, 13, 801, 908], (qsI u n x).1 k = u.1 k := fun k hk => pk_un (hn k hk)
  have rv : ∀ a, qRv u a → qRv (qsI u n x) a := fun a ⟨k, i, fs, hk, h0, h1⟩ => ⟨k, i, fs, hk, h0, by rw [e 10 (by decide)]; exact h1⟩
  refine ⟨?_, ?_, ?_⟩
  · unfold CN; rw [e 8 (by decide), e 9 (by decide), e 10 (by decide), e 11 (by decide), e 12 (by decide), e 13 (by decide), e 801 (by decide), e 908 (by decide)]; exact h.1
  · intro k a c fs hk
    obtain ⟨h1, h2, h3, h4⟩ := h.2.1 k a c fs hk
    exact ⟨fun q => by
      obtain ⟨g1, g2⟩ := h1 q
      refine ⟨g1, fun j hj => ?_⟩
      obtain ⟨x', a1, a2, a3⟩ := g2 j hj
      exact ⟨x', a1, fun z => by rw [e 8 (by decide)]; exact a2 z, fun z => by rw [e 9 (by decide)]; exact a3 z⟩, h2, h3, h4⟩
  · unfold CR
    rw [e 8 (by decide), e 9 (by decide), e 10 (by decide), e 11 (by decide), e 12 (by decide), e 908 (by decide)]
    exact ⟨h.2.2.1, h.2.2.2.1, fun i a b => (h.2.2.2.2.1 i a b).elim (fun w q => ⟨w, q.1, rv w q.2⟩), fun i a b => (h.2.2.2.2.2.1 i a b).elim (fun w q => ⟨w, q.1, rv w q.2⟩), h.2.2.2.2.2.2.1, fun i a b => (h.2.2.2.2.2.2.2.1 i a b).elim (fun w q => ⟨w, q.1, rv w q.2⟩), h.2.2.2.2.2.2.2.2⟩
theorem IC.sF {E : qE} {u : qS} (h : IC E u) {n : Nat} {f : Nat → Int32} (hn : 5 ≠ n) : IC E (qsF u n f) := by
  refine ⟨h.1, h.2.1, h.2.2.1, h.2.2.2.1, h.2.2.2.2.1, h.2.2.2.2.2.1, h.2.2.2.2.2.2.1, h.2.2.2.2.2.2.2.1, ?_⟩
  intro i a b
  show 0 ≤ (if 5 = n then f else u.2.1 5) i.toNatClampNeg ∧ (if 5 = n then f else u.2.1 5) i.toNatClampNeg < u.1 10
  rw [if_neg hn]; exact h.2.2.2.2.2.2.2.2 i a b
theorem IC.sG {E : qE} {u : qS} (h : IC E u) {n : Nat} {f : Nat → Int64} : IC E (qsG u n f) := h
/-- a number of a visit is written -/
theorem g_dset {D : va_W} {dd a c : Nat} {fs fs' : List Value} (hd : D[dd]? = some (a, .inr (c, fs))) (k b c' : Nat) (gs : List Value) (h : (D.set dd (a, .inr (c, fs')))[k]? = some (b, .inr (c', gs))) : (k = dd ∧ b = a ∧ c' = c ∧ gs = fs') ∨ (k ≠ dd ∧ D[k]? = some (b, .inr (c', gs))) := by
  by_cases e : dd = k
  · subst e
    rw [List.getElem?_set_self (List.getElem?_eq_some_iff.mp hd).1] at h
    have := Option.some.inj h
    injection this with h1 h2
    injection h2 with h3
    injection h3 with h4 h5
    exact Or.inl ⟨rfl, h1.symm, h4.symm, h5.symm⟩
  · rw [List.getElem?_set_ne e] at h
    exact Or.inr ⟨fun q => e q.symm, h⟩
theorem g_drf {u : qS} {dd a c : Nat} {fs fs' : List Value} (hd : u.2.2.2.2[dd]? = some (a, .inr (c, fs))) (b c' : Nat) (h : qRf u b c') : qRf (qsX u (u.2.2.2.2.set dd (a, .inr (c, fs')))) b c' := by
  obtain ⟨k, gs, hk⟩ := h
  by_cases e : dd = k
  · subst e
    rw [hd] at hk
    injection hk with hk; injection hk with h1 h2; injection h2 with h3; injection h3 with h4 h5
    subst h1 h4
    exact ⟨dd, fs', List.getElem?_set_self (List.getElem?_eq_some_iff.mp hd).1⟩
  · exact ⟨k, gs, (List.getElem?_set_ne e).trans hk⟩
theorem g_drv {u : qS} {dd a : Nat} {fs : List Value} {j : Nat} {v : Value} (hd : u.2.2.2.2[dd]? = some (a, .inr (10, fs))) (hj : 0 < j) (b : Nat) (h : qRv u b) : qRv (qsX u (u.2.2.2.2.set dd (a, .inr (10, fs.set j v)))) b := by
  obtain ⟨k, n, gs, hk, h0, h1⟩ := h
  by_cases e : dd = k
  · subst e
    rw [hd] at hk
    injection hk with hk; injection hk with h3 h4; injection h4 with h5; injection h5 with h6 h7
    subst h3 h7
    match j, hj with
    | j + 1, _ => exact ⟨dd, n, gs.set j v, List.getElem?_set_self (List.getElem?_eq_some_iff.mp hd).1, h0, h1⟩
  · exact ⟨k, n, gs, (List.getElem?_set_ne e).trans hk, h0, h1⟩
theorem g_drn {u : qS} {dd a : Nat} {fs : List Value} {j : Nat} {v : Value} (hd : u.2.2.2.2[dd]? = some (a, .inr (10, fs))) (hj : 0 < j) (b : Nat) (n : Int32) (h : qRn u b n) : qRn (qsX u (u.2.2.2.2.set dd (a, .inr (10, fs.set j v)))) b n := by
  obtain ⟨k, gs, hk⟩ := h
  by_cases e : dd = k
  · subst e
    rw [hd] at hk
    injection hk with hk; injection hk with h3 h4; injection h4 with h5; injection h5 with h6 h7
    subst h3 h7
    match j, hj with
    | j + 1, _ => exact ⟨dd, gs.set j v, List.getElem?_set_self (List.getElem?_eq_some_iff.mp hd).1⟩
  · exact ⟨k, gs, (List.getElem?_set_ne e).trans hk⟩
theorem IC.vput {E : qE} {u : qS} {dd a j : Nat} {fs : List Value} {x : Int32} (h : IC E u) (hd : u.2.2.2.2[dd]? = some (a, .inr (10, fs))) (hj : 0 < j ∧ j < 15) (h2 : j = 2 → 0 ≤ x ∧ x < u.1 8) (h3 : j = 3 → 0 ≤ x ∧ x < u.1 9) : IC E (qsX u (u.2.2.2.2.set dd (a, .inr (10, fs.set j (.int x))))) ∧ ∀ M R G X : List Nat, (9 ≤ j ∨ 5000 ∈ X) → qFc M R G X u (qsX u (u.2.2.2.2.set dd (a, .inr (10, fs.set j (.int x))))) := by
  have rf := g_drf (fs' := fs.set j (.int x)) hd
  have rv := g_drv (v := .int x) hd hj.1
  have rn := g_drn (v := .int x) hd hj.1
  refine ⟨⟨h.1, ?_, ?_⟩, fun M R G X hX => ⟨fun _ _ => rfl, fun _ _ => rfl, fun _ _ => rfl, fun _ _ => rfl, rf, rv, rn, fun k b y hk => by
    by_cases e : dd = k
    · subst e; rw [hd] at hk; injection hk with hk; injection hk with _ hk; cases hk
    · exact (List.getElem?_set_ne e).trans hk, fun k b c gs hk => by
    by_cases e : dd = k
    · subst e
      rw [hd] at hk; injection hk with hk; injection hk with w1 w2; injection w2 with w3; injection w3 with w4 w5
      subst w1 w4 w5
      refine ⟨fs.set j (.int x), List.getElem?_set_self (List.getElem?_eq_some_iff.mp hd).1, fun q => absurd rfl q, fun q i hi => ?_⟩
      rcases hX with hX | hX
      · exact List.getElem?_set_ne (by omega)
      · exact absurd hX q
    · exact ⟨gs, (List.getElem?_set_ne e).trans hk, fun _ => rfl, fun _ _ _ => rfl⟩⟩⟩
  · intro k b c gs hk
    rcases g_dset hd k b c gs hk with ⟨-, -, hc, hg⟩ | ⟨hne, hk⟩
    · subst hc hg
      refine ⟨fun _ => ?_, fun q => absurd q (by decide), fun q => absurd q (by decide), fun q => absurd q (by decide)⟩
      obtain ⟨g1, g2⟩ := (h.2.1 dd a 10 fs hd).1 rfl
      refine ⟨by rw [List.length_set]; exact g1, fun i hi => ?_⟩
      by_cases e : j = i
      · subst e
        exact ⟨x, List.getElem?_set_self (by omega), h2, h3⟩
      · obtain ⟨z, a1, a2, a3⟩ := g2 i hi
        exact ⟨z, (List.getElem?_set_ne e).trans a1, a2, a3⟩
    · obtain ⟨h1, h2', h3', h4⟩ := h.2.1 k b c gs hk
      refine ⟨h1, fun q => ?_, h3', fun q => ?_⟩
      · obtain ⟨q1, c1, o1, d1, r1, e1, e2⟩ := h2' q
        exact ⟨q1, c1, o1, d1, r1, e1, rf _ _ e2⟩
      · obtain ⟨c1, f1, t1, q1, k1, n1, g1, e1, e2, e3⟩ := h4 q
        refine ⟨c1, f1, t1, q1, k1, n1, g1, e1, ?_, e3⟩
        by_cases e : dd = k1
        · subst e; rw [hd] at e2; injection e2 with e2; injection e2 with _ e2; cases e2
        · exact (List.getElem?_set_ne e).trans e2
  · exact ⟨fun i a b => (h.2.2.1 i a b).elim (fun w q => ⟨w, q.1, rf _ _ q.2⟩), fun i a b => (h.2.2.2.1 i a b).elim (fun w q => ⟨w, q.1, rf _ _ q.2⟩), fun i a b => (h.2.2.2.2.1 i a b).elim (fun w q => ⟨w, q.1, rv _ q.2⟩), fun i a b => (h.2.2.2.2.2.1 i a b).elim (fun w q => ⟨w, q.1, rv _ q.2⟩), fun i a b => (h.2.2.2.2.2.2.1 i a b).elim (fun w q => ⟨w, q.1, rf _ _ q.2⟩), fun i a b => (h.2.2.2.2.2.2.2.1 i a b).elim (fun w q => ⟨w, q.1, rv _ q.2⟩), h.2.2.2.2.2.2.2.2⟩
/-! addresses are apart; a visit's number by its place -/
def qDi (D : va_W) : Prop := ∀ (i j : Nat) (p q : Nat × va_E), D[i]? = some p → D[j]? = some q → p.1 = q.1 → i = j
theorem q_di {E : qE} {A : Nat → Prop} {T : Nat} {u : qS} {s : State} {H : Heap} (hU : qH E A T u s H) : qDi u.2.2.2.2 := fun i j p q h1 h2 h3 => by
  have z := hU.2.2.1.1 _ _ p q (qW_dyn h1) (qW_dyn h2) h3
  omega
theorem qfd_at {D : va_W} {dd a j : Nat} {fs : List Value} {x : Int32} (hD : qDi D) (hd : D[dd]? = some (a, .inr (10, fs))) (hx : fs[j]? = some (.int x)) : qfd D a j = x := by
  have e := Classical.epsilon_spec (p := fun x : Int32 => ∃ (dd : Nat) (fs : List Value), D[dd]? = some (a, .inr (10, fs)) ∧ fs[j]? = some (.int x)) ⟨x, dd, fs, hd, hx⟩
  obtain ⟨d2, f2, h1, h2⟩ := e
  have ed := hD d2 dd _ _ h1 hd rfl
  subst ed
  rw [hd] at h1; injection h1 with h1; injection h1 with _ h1; injection h1 with h1; injection h1 with _ h1
  subst h1
  have h2 := hx.symm.trans h2; injection h2 with h2; injection h2 with h2
  exact h2.symm
def qxr (u : qS) (n : Nat) : Nat → Option Nat := u.2.2.2.1 n
theorem qxr_s {u : qS} {f : Nat → Option Nat} : qxr (qsR u 3 f) 3 = f := rfl
/-- a number of the i-th visit -/
noncomputable def cvr (u : qS) (j : Nat) : Nat → Int32 := fun i => qfd u.2.2.2.2 ((qxr u 2 i).getD 0) j
theorem cvr_at {u : qS} {i a j : Nat} (h : u.2.2.2.1 2 i = some a) : cvr u j i = qfd u.2.2.2.2 a j := by
  show qfd u.2.2.2.2 ((u.2.2.2.1 2 i).getD 0) j = _; rw [h]; rfl
/-- a number of a shop, by its place -/
noncomputable def qsd (D : va_W) (a k : Nat) : Int32 := Classical.epsilon (fun x : Int32 => ∃ (dd : Nat) (fs : List Value), D[dd]? = some (a, .inr (7, fs)) ∧ fs[k]? = some (.int x))
theorem IC.snf {E : qE} {u : qS} {a : Nat} (h : IC E u) (ha : qRf u a 7) (k : Nat) (hk : 0 < k ∧ k < 5) : ∃ (dd : Nat) (fs : List Value), u.2.2.2.2[dd]? = some (a, .inr (7, fs)) ∧ fs[k]? = some (.int (qsd u.2.2.2.2 a k)) := by
  obtain ⟨dd, fs, x, hd, hx⟩ := h.sn ha k hk
  exact Classical.epsilon_spec (p := fun x : Int32 => ∃ (dd : Nat) (fs : List Value), u.2.2.2.2[dd]? = some (a, .inr (7, fs)) ∧ fs[k]? = some (.int x)) ⟨x, dd, fs, hd, hx⟩
theorem qsd_at {D : va_W} {dd a j : Nat} {fs : List Value} {x : Int32} (hD : qDi D) (hd : D[dd]? = some (a, .inr (7, fs))) (hx : fs[j]? = some (.int x)) : qsd D a j = x := by
  have e := Classical.epsilon_spec (p := fun x : Int32 => ∃ (dd : Nat) (fs : List Value), D[dd]? = some (a, .inr (7, fs)) ∧ fs[j]? = some (.int x)) ⟨x, dd, fs, hd, hx⟩
  obtain ⟨d2, f2, h1, h2⟩ := e
  have ed := hD d2 dd _ _ h1 hd rfl
  subst ed
  rw [hd] at h1; injection h1 with h1; injection h1 with _ h1; injection h1 with h1; injection h1 with _ h1
  subst h1
  have h2 := hx.symm.trans h2; injection h2 with h2; injection h2 with h2
  exact h2.symm
/-- a number of the i-th shop -/
noncomputable def csr (u : qS) (j : Nat) : Nat → Int32 := fun i => qsd u.2.2.2.2 ((qxr u 0 i).getD 0) j
theorem csr_at {u : qS} {i a j : Nat} (h : u.2.2.2.1 0 i = some a) : csr u j i = qsd u.2.2.2.2 a j := by
  show qsd u.2.2.2.2 ((u.2.2.2.1 0 i).getD 0) j = _; rw [h]; rfl
/-- a shop's place, a place's numbers -/
noncomputable def qsp (D : va_W) (a : Nat) : Nat := Classical.epsilon (fun q : Nat => ∃ (dd : Nat) (fs : List Value), D[dd]? = some (a, .inr (7, fs)) ∧ fs[0]? = some (.ref q))
noncomputable def qpd (D : va_W) (a k : Nat) : Int32 := Classical.epsilon (fun x : Int32 => ∃ (dd : Nat) (fs : List Value), D[dd]? = some (a, .inr (4, fs)) ∧ fs[k]? = some (.int x))
theorem IC.spf {E : qE} {u : qS} {a : Nat} (h : IC E u) (ha : qRf u a 7) : ∃ (dd : Nat) (fs : List Value), u.2.2.2.2[dd]? = some (a, .inr (7, fs)) ∧ fs[0]? = some (.ref (qsp u.2.2.2.2 a)) ∧ qRf u (qsp u.2.2.2.2 a) 4 := by
  obtain ⟨dd, fs, q, hd, hq, -⟩ := h.sp ha
  obtain ⟨d2, f2, h1, h2⟩ := Classical.epsilon_spec (p := fun q : Nat => ∃ (dd : Nat) (fs : List Value), u.2.2.2.2[dd]? = some (a, .inr (7, fs)) ∧ fs[0]? = some (.ref q)) ⟨q, dd, fs, hd, hq⟩
  refine ⟨d2, f2, h1, h2, ?_⟩
  obtain ⟨q1, c1, o1, d1, r1, e1, e2⟩ := (h.2.1 d2 a 7 f2 h1).2.1 rfl
  rw [e1] at h2
  have h3 : some (Value.ref q1) = some (.ref (qsp u.2.2.2.2 a)) := h2
  injection h3 with h3
  injection h3 with h3
  rw [← h3]; exact e2
theorem IC.pf {E : qE} {u : qS} {a : Nat} (h : IC E u) (ha : qRf u a 4) (k : Nat) (hk : k < 2) : ∃ (dd : Nat) (fs : List Value), u.2.2.2.2[dd]? = some (a, .inr (4, fs)) ∧ fs[k]? = some (.int (qpd u.2.2.2.2 a k)) := by
  obtain ⟨dd, fs, x, hd, hx⟩ := h.p ha k hk
  exact Classical.epsilon_spec (p := fun x : Int32 => ∃ (dd : Nat) (fs : List Value), u.2.2.2.2[dd]? = some (a, .inr (4, fs)) ∧ fs[k]? = some (.int x)) ⟨x, dd, fs, hd, hx⟩
theorem qsp_at {D : va_W} {dd a q : Nat} {fs : List Value} (hD : qDi D) (hd : D[dd]? = some (a, .inr (7, fs))) (hx : fs[0]? = some (.ref q)) : qsp D a = q := by
  have e := Classical.epsilon_spec (p := fun q : Nat => ∃ (dd : Nat) (fs : List Value), D[dd]? = some (a, .inr (7, fs)) ∧ fs[0]? = some (.ref q)) ⟨q, dd, fs, hd, hx⟩
  obtain ⟨d2, f2, h1, h2⟩ := e
  have ed := hD d2 dd _ _ h1 hd rfl
  subst ed
  rw [hd] at h1; injection h1 with h1; injection h1 with _ h1; injection h1 with h1; injection h1 with _ h1
  subst h1
  have h2 := hx.symm.trans h2; injection h2 with h2; injection h2 with h2
  exact h2.symm
theorem qpd_at {D : va_W} {dd a j : Nat} {fs : List Value} {x : Int32} (hD : qDi D) (hd : D[dd]? = some (a, .inr (4, fs))) (hx : fs[j]? = some (.int x)) : qpd D a j = x := by
  have e := Classical.epsilon_spec (p := fun x : Int32 => ∃ (dd : Nat) (fs : List Value), D[dd]? = some (a, .inr (4, fs)) ∧ fs[j]? = some (.int x)) ⟨x, dd, fs, hd, hx⟩
  obtain ⟨d2, f2, h1, h2⟩ := e
  have ed := hD d2 dd _ _ h1 hd rfl
  subst ed
  rw [hd] at h1; injection h1 with h1; injection h1 with _ h1; injection h1 with h1; injection h1 with _ h1
  subst h1
  have h2 := hx.symm.trans h2; injection h2 with h2; injection h2 with h2
  exact h2.symm
def c_ab (e : Int32) : Int32 := if 0 ≤ e then e else 0 - e
def c_lf (x n : Int32) : Int32 := if x = n then -1 else x
def c_sd (u : qS) : Int32 := if u.1 14 = -1 then u.1 13 else u.1 14
/-- the numbers of the i-th home, and of the i-th shop's place -/
noncomputable def chm (u : qS) (j : Nat) : Nat → Int32 := fun i => qpd u.2.2.2.2 ((qxr u 1 i).getD 0) j
noncomputable def cpl (u : qS) (j : Nat) : Nat → Int32 := fun i => qpd u.2.2.2.2 (qsp u.2.2.2.2 ((qxr u 0 i).getD 0)) j
theorem chm_at {u : qS} {i a j : Nat} (h : u.2.2.2.1 1 i = some a) : chm u j i = qpd u.2.2.2.2 a j := by
  show qpd u.2.2.2.2 ((u.2.2.2.1 1 i).getD 0) j = _; rw [h]; rfl
theorem cpl_at {u : qS} {i a j : Nat} (h : u.2.2.2.1 0 i = some a) : cpl u j i = qpd u.2.2.2.2 (qsp u.2.2.2.2 a) j := by
  show qpd u.2.2.2.2 (qsp u.2.2.2.2 ((u.2.2.2.1 0 i).getD 0)) j = _; rw [h]; rfl
noncomputable def c_wh (u : qS) (x y : Int32) : Int32 := c_ab (chm u 0 x.toNatClampNeg - cpl u 0 y.toNatClampNeg) + c_ab (chm u 1 x.toNatClampNeg - cpl u 1 y.toNatClampNeg)
def c_tn (u : qS) (v : Nat) (x y : Int32) : Prop := (qfd u.2.2.2.2 v 2 = x ∧ ¬ u.1 16 ≤ c_ab (qfd u.2.2.2.2 v 4 - y)) ∨ (csr u 1 (qfd u.2.2.2.2 v 2).toNatClampNeg = csr u 1 x.toNatClampNeg ∧ ¬ u.1 16 / 4 ≤ c_ab (qfd u.2.2.2.2 v 4 - y))
def c_tv (u : qS) (i : Nat) (x y : Int32) : Prop := (cvr u 2 i = x ∧ ¬ u.1 16 ≤ c_ab (cvr u 4 i - y)) ∨ (csr u 1 (cvr u 2 i).toNatClampNeg = csr u 1 x.toNatClampNeg ∧ ¬ u.1 16 / 4 ≤ c_ab (cvr u 4 i - y))
def c_bd (u : qS) (i : Nat) (b x y : Int32) : Prop := cvr u 3 i = b ∧ cvr u 1 i ≤ c_sd u ∧ c_tv u i x y
theorem c_bd_at {u : qS} {i a : Nat} {b x y : Int32} (h : u.2.2.2.1 2 i = some a) : c_bd u i b x y ↔ (qfd u.2.2.2.2 a 3 = b ∧ qfd u.2.2.2.2 a 1 ≤ c_sd u ∧ c_tn u a x y) := by
  unfold c_bd c_tv c_tn; rw [cvr_at (j := 3) h, cvr_at (j := 1) h, cvr_at (j := 2) h, cvr_at (j := 4) h]
def c_al (u : qS) (n : Nat) (b x y : Int32) : Prop := ∀ i : Nat, i < n → ¬ c_bd u i b x y
theorem c_al.nil {u : qS} {b x y : Int32} : c_al u 0 b x y := fun _ h => absurd h (Nat.not_lt_zero _)
theorem c_al.up {u : qS} {n : Nat} {b x y : Int32} (h : c_al u n b x y) (hn : ¬ c_bd u n b x y) : c_al u (n + 1) b x y := fun i hi => by
  rcases Nat.lt_or_ge i n with q | q
  · exact h i q
  · have e : i = n := by omega
    subst e; exact hn
def c_mg (u : qS) (b x y : Int32) : Prop := c_wh u b x ≤ u.1 17 ∧ c_al u (u.1 10).toNatClampNeg b x y
