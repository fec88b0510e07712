/-! both worlds, and the law's calls -/
/-- the law's row of one long -/
def qRo (E : qE) (u : qS) (o : Nat) : Prop := ∃ (k : Nat) (g : Nat → Int64), u.2.2.2.2[k]? = some (o, .inl (E.2.1 3, 1, .inr (.inl g)))
theorem qRo.fr {E : qE} {M R G X : List Nat} {u v : qS} {o : Nat} (h : qRo E u o) (hf : qFc M R G X u v) : qRo E v o := by
  obtain ⟨k, g, hk⟩ := h
  exact ⟨k, g, hf.a k o _ hk⟩
theorem IC.arr {E : qE} {u : qS} {k o : Nat} {g g' : Nat → Int64} (h : IC E u) (hk : u.2.2.2.2[k]? = some (o, .inl (E.2.1 3, 1, .inr (.inl g)))) : IC E (qsX u (u.2.2.2.2.set k (o, .inl (E.2.1 3, 1, .inr (.inl g'))))) := by
  have hlt := (List.getElem?_eq_some_iff.mp hk).1
  have kp : ∀ (j a c : Nat) (fs : List Value), (u.2.2.2.2.set k (o, .inl (E.2.1 3, 1, .inr (.inl g'))))[j]? = some (a, .inr (c, fs)) → u.2.2.2.2[j]? = some (a, .inr (c, fs)) := fun j a c fs hj => by
    by_cases e : k = j
    · subst e; rw [List.getElem?_set_self hlt] at hj; injection hj with hj; injection hj with _ hj; cases hj
    · rw [List.getElem?_set_ne e] at hj; exact hj
  have kb : ∀ (j a c : Nat) (fs : List Value), u.2.2.2.2[j]? = some (a, .inr (c, fs)) → (u.2.2.2.2.set k (o, .inl (E.2.1 3, 1, .inr (.inl g'))))[j]? = some (a, .inr (c, fs)) := fun j a c fs hj => by
    by_cases e : k = j
    · subst e; rw [hk] at hj; injection hj with hj; injection hj with _ hj; cases hj
    · rw [List.getElem?_set_ne e]; exact hj
  have rf : ∀ a c, qRf u a c → qRf (qsX u (u.2.2.2.2.set k (o, .inl (E.2.1 3, 1, .inr (.inl g'))))) a c := fun a c ⟨j, fs, hj⟩ => ⟨j, fs, kb j a c fs hj⟩
  have rv : ∀ a, qRv u a → qRv (qsX u (u.2.2.2.2.set k (o, .inl (E.2.1 3, 1, .inr (.inl g'))))) a := fun a ⟨j, n, fs, hj, h0, h1⟩ => ⟨j, n, fs, kb j a 10 _ hj, h0, h1⟩
  refine ⟨h.1, fun j a c fs hj => ?_, ?_⟩
  · obtain ⟨h1, h2, h3, h4⟩ := h.2.1 j a c fs (kp j a c fs hj)
    refine ⟨h1, fun q => ?_, h3, fun q => ?_⟩
    · obtain ⟨q1, c1, o1, d1, r1, e1, e2⟩ := h2 q
      exact ⟨q1, c1, o1, d1, r1, e1, rf _ _ e2⟩
    · obtain ⟨c1, f1, t1, q1, k1, n1, g1, e1, e2, e3⟩ := h4 q
      refine ⟨c1, f1, t1, q1, k1, n1, g1, e1, ?_, e3⟩
      by_cases e : k = k1
      · subst e; rw [hk] at e2; injection e2 with e2; injection e2 with _ e2; injection e2 with e2; injection e2 with _ e2; injection e2 with _ e2; cases e2
      · show (u.2.2.2.2.set k _)[k1]? = _; rw [List.getElem?_set_ne e]; exact e2
  · exact ⟨fun i a b => (h.2.2.1 i a b).elim (fun w q => ⟨w, q.1, rf _ _ q.2⟩), fun i a b => (h.2.2.2.1 i a b).elim (fun w q => ⟨w, q.1, rf _ _ q.2⟩), fun i a b => (h.2.2.2.2.1 i a b).elim (fun w q => ⟨w, q.1, rv _ q.2⟩), fun i a b => (h.2.2.2.2.2.1 i a b).elim (fun w q => ⟨w, q.1, rv _ q.2⟩), fun i a b => (h.2.2.2.2.2.2.1 i a b).elim (fun w q => ⟨w, q.1, rf _ _ q.2⟩), fun i a b => (h.2.2.2.2.2.2.2.1 i a b).elim (fun w q => ⟨w, q.1, rv _ q.2⟩), h.2.2.2.2.2.2.2.2⟩
section L2
variable {p : Program} {l : Launch} {e : Env} {R : Room} {s : State} {m : MethodId} {args : Array Value} {below : List Frame} {meth : Method} {c : Code} {H H0 : Heap} {locs : List Loc} {cells slots : Nat} {Q : State → Prop}
variable {cc : ByteArray} {nL pc : Nat} {ls : Array Slot} {rest st0 As : List Value} {own : String} {E : qE} {A : Nat → Prop} {u v : qS} {y : MethodName} {bytes : ByteArray} {maxL index mc ms f : Nat} {ret : Option FieldType}
theorem q_lastd {T : Nat} {o : Nat} (hF : qX p m c cc nL s args own) (hU : qH E A T u s H) (hS : va_S A H0 H locs) (hdg : decode cc pc = .ok (.lastore, 1)) (hI : IC E u) (ho : qRo E u o) {x : Int64}
    (kk : ∀ (u' : qS) (H1 : Heap) (locs1 : List Loc), u'.1 = u.1 → IC E u' → qRo E u' o → qH E A T u' s H1 → va_S A H0 H1 locs1 → W p l e R s m args below meth c H1 locs1 cells slots Q (F0 m (pc + 1) ls rest)) : W p l e R s m args below meth c H locs cells slots Q (F0 m pc ls (.long x :: .int 0 :: .ref o :: rest)) := by
  obtain ⟨k, g, hk⟩ := ho
  refine va_last (D := E.1) hF.1 hF.2.1 hU.1 hU.2.1 hU.2.2.1 hS _ 3 (cA := E.2.1 3) (n := 1) (f := g) (qW_dyn hk) rfl (q_in (by decide)) hdg (fun H1 locs1 h1 h2 h3 => ?_)
  rw [qW_setX] at h1 h2
  exact kk (qsX u (u.2.2.2.2.set k (o, .inl (E.2.1 3, 1, .inr (.inl (vp_updL g (Int32.toNatClampNeg 0) x)))))) H1 locs1 rfl (hI.arr hk) ⟨k, _, List.getElem?_set_self (List.getElem?_eq_some_iff.mp hk).1⟩ ⟨hU.1, h1, h2, hU.2.2.2⟩ h3
def l_2 (E : qE) (A : Nat → Prop) (u v : qS) (s : State) (H : Heap) : Prop := qH E A 0 u s H ∧ qH E A 1 v s H ∧ ∀ (i j : Nat) (a b : Nat × va_E), (qW E 0 u)[i]? = some a → (qW E 1 v)[j]? = some b → a.1 ≠ b.1
theorem l_new0 (hV : l_2 E A u v s H) (hS : va_S A H0 H locs) (hA : ∀ q : Nat, H0.size ≤ q → A q) {u' : qS} {t : State} {H1 : Heap} (ht : t.heap = H1) (hvm : s.vm.Alike t.vm) (hB : qB E (va_A (qW E 0 u) H.size) 0 u' t) (hk : ∀ q : Nat, q < H.size → ¬ va_A (qW E 0 u) H.size q → H1[q]? = H[q]?) : l_2 E A u' v s H1 := by
  have hsub : ∀ q, va_A (qW E 0 u) H.size q → A q := fun q h => by
    rcases h with ⟨i, e, hi⟩ | h2
    · exact hV.1.2.2.1.2 i _ hi
    · exact hA q (Nat.le_trans hS.1 h2)
  have hn : ∀ (k : Nat) (q : Nat × va_E), (qW E 1 v)[k]? = some q → ¬ va_A (qW E 0 u) H.size q.1 := fun k q hq h => by
    have hlt := (hV.2.1.2.1 k q hq).lt
    rcases h with ⟨i, e, hi⟩ | h2
    · exact hV.2.2 i k (q.1, e) q hi hq rfl
    · omega
  have h0 : qH E A 0 u' s H1 := ⟨va_K.moved hvm.symm hB.1, by rw [← ht]; exact hB.2.1, ⟨hB.2.2.1.1, fun k q hq => hsub _ (hB.2.2.1.2 k q hq)⟩, hV.1.2.2.2⟩
  have h1 : qH E A 1 v s H1 := ⟨hV.2.1.1, hV.2.1.2.1.kept (fun k q hq => hk q.1 ((hV.2.1.2.1 k q hq).lt) (hn k q hq)), hV.2.1.2.2.1, hV.2.1.2.2.2⟩
  exact ⟨h0, h1, fun i j a b ha hb he => hn j b hb (by rw [← he]; exact hB.2.2.1.2 i a ha)⟩
theorem l_new1 (hV : l_2 E A u v s H) (hS : va_S A H0 H locs) (hA : ∀ q : Nat, H0.size ≤ q → A q) {v' : qS} {t : State} {H1 : Heap} (ht : t.heap = H1) (hvm : s.vm.Alike t.vm) (hB : qB E (va_A (qW E 1 v) H.size) 1 v' t) (hk : ∀ q : Nat, q < H.size → ¬ va_A (qW E 1 v) H.size q → H1[q]? = H[q]?) : l_2 E A u v' s H1 := by
  have hsub : ∀ q, va_A (qW E 1 v) H.size q → A q := fun q h => by
    rcases h with ⟨i, e, hi⟩ | h2
    · exact hV.2.1.2.2.1.2 i _ hi
    · exact hA q (Nat.le_trans hS.1 h2)
  have hn : ∀ (k : Nat) (q : Nat × va_E), (qW E 0 u)[k]? = some q → ¬ va_A (qW E 1 v) H.size q.1 := fun k q hq h => by
    have hlt := (hV.1.2.1 k q hq).lt
    rcases h with ⟨i, e, hi⟩ | h2
    · exact hV.2.2 k i q (q.1, e) hq hi rfl
    · omega
  have h0 : qH E A 1 v' s H1 := ⟨va_K.moved hvm.symm hB.1, by rw [← ht]; exact hB.2.1, ⟨hB.2.2.1.1, fun k q hq => hsub _ (hB.2.2.1.2 k q hq)⟩, hV.2.1.2.2.2⟩
  have h1 : qH E A 0 u s H1 := ⟨hV.1.1, hV.1.2.1.kept (fun k q hq => hk q.1 ((hV.1.2.1 k q hq).lt) (hn k q hq)), hV.1.2.2.1, hV.1.2.2.2⟩
  exact ⟨h1, h0, fun i j a b ha hb he => hn i a ha (by rw [he]; exact hB.2.2.1.2 j b hb)⟩
theorem qZw.narrow {B : Nat → Prop} {U : State} (h : qZw A U H) (hAB : ∀ q, B q → A q) : qZw B U H := by
  obtain ⟨t, f, h1, h2⟩ := h
  exact ⟨t, f, h1.narrow hAB, h2.narrow hAB⟩
theorem l_callC2 {post : Int32 → qS → Prop} (hF : qX p m c cc nL s args own) (hV : l_2 E A u v s H) (hS : va_S A H0 H locs) (hA : ∀ q : Nat, H0.size ≤ q → A q) (n : Nat)
    (hM : ∀ A' : Nat → Prop, Met l y (uws y bytes maxL ret) (qR f mc ms) (qPc E A' 0 u (.ref (E.2.2 1199) :: As)) (qQi E A' 0 post) mc ms A')
    (w1 : Cond.methodLink own index y ∈ qw_tbl) (w2 : Cond.instanceMethod y ∈ qw_tbl) (w3 : Cond.selects "SecretBuyers" y y ∈ qw_tbl) (w4 : Cond.initialized "SecretBuyers" ∈ qw_tbl) (w5 : Cond.code y bytes maxL ret ∈ qw_tbl)
    (hd : y.cls = "SecretBuyers" ∧ y.cls ≠ "java/lang/invoke/MethodHandle" ∧ y.cls ≠ "java/lang/invoke/VarHandle" ∧ (parseMethodDescriptor y.desc).map (fun d => d.parameters.length) = some n) (hR : f + 1 ≤ R.frames ∧ 8 + (maxL + 11) + 60 * f ≤ R.locals)
    (hdg : decode cc pc = .ok (.invokevirtual index, 3)) (hn : As.length = n) (hsize : ls.size = nL) (hstack : st0 = As.reverse ++ .ref (E.2.2 1199) :: rest) (hW : (rest.map fun v => v.category).sum ≤ 8) (hf : cells + mc ≤ R.cells ∧ slots + ms ≤ R.slots)
    (kk : ∀ (r : Int32) (u' : qS) (H1 : Heap) (locs1 : List Loc), post r u' → l_2 E A u' v s H1 → va_S A H0 H1 locs1 → W p l e R s m args below meth c H1 locs1 (cells + mc) (slots + ms) Q (F0 m (pc + 3) ls (.int r :: rest))) : W p l e R s m args below meth c H locs cells slots Q (F0 m pc ls st0) := by
  have hU : qH E (va_A (qW E 0 u) H.size) 0 u s H := ⟨hV.1.1, hV.1.2.1, hV.1.2.2.1.self, hV.1.2.2.2⟩
  have hsub : ∀ q, va_A (qW E 0 u) H.size q → A q := fun q h => by
    rcases h with ⟨i, e, hi⟩ | h2
    · exact hV.1.2.2.1.2 i _ hi
    · exact hA q (Nat.le_trans hS.1 h2)
  have hG : GoodIn qw_tbl (wsV own index "SecretBuyers" y (uws y bytes maxL ret)) := fun w hw => by
    rcases List.mem_append.mp hw with h | h
    · rcases List.mem_cons.mp h with e | h
      · rw [e]; exact ⟨w1, good_of_word (uw_g w1)⟩
      · rcases List.mem_cons.mp h with e | h
        · rw [e]; exact ⟨w2, good_of_word (uw_g w2)⟩
        · rcases List.mem_cons.mp h with e | h
          · rw [e]; exact ⟨w3, good_of_word (uw_g w3)⟩
          · rcases List.mem_cons.mp h with e | h
            · rw [e]; exact ⟨w4, good_of_word (uw_g w4)⟩
            · cases h
    · exact uw_in (fun _ h => h) w5 w h
  refine va_calli (va_runV (As := As) (rest := rest) hF.fix (hM (va_A (qW E 0 u) H.size)) (cwV n hF.2.2.2.2 hG rfl rfl rfl hd hR) ⟨qPc_blind, va_recv (q0 := 0) (ci := 11) hU.1 hU.2.1 rfl (qW_ob rfl), q_pre (H0 := H) hF hU va_S.rf (fun q h => Or.inr h) _⟩ rfl hn hsize hstack (lv_room hW) hdg hf) hS (fun q _ h => hsub q h) hsub (fun r u' t H1 locs1 ht hvm hw hB hz hk hS1 => kk r u' H1 locs1 hw (l_new0 hV hS hA ht hvm hB hk) hS1)
theorem l_callM2 {post : Int32 → qS → Prop} (hF : qX p m c cc nL s args own) (hV : l_2 E A u v s H) (hS : va_S A H0 H locs) (hA : ∀ q : Nat, H0.size ≤ q → A q) (n : Nat)
    (hM : ∀ A' : Nat → Prop, Met l y (uws y bytes maxL ret) (qR f mc ms) (qPc E A' 1 v (.ref (E.2.2 1299) :: As)) (qQi E A' 1 post) mc ms A')
    (w1 : Cond.methodLink own index y ∈ qw_tbl) (w2 : Cond.instanceMethod y ∈ qw_tbl) (w3 : Cond.selects "SecretBuyersModel" y y ∈ qw_tbl) (w4 : Cond.initialized "SecretBuyersModel" ∈ qw_tbl) (w5 : Cond.code y bytes maxL ret ∈ qw_tbl)
    (hd : y.cls = "SecretBuyersModel" ∧ y.cls ≠ "java/lang/invoke/MethodHandle" ∧ y.cls ≠ "java/lang/invoke/VarHandle" ∧ (parseMethodDescriptor y.desc).map (fun d => d.parameters.length) = some n) (hR : f + 1 ≤ R.frames ∧ 8 + (maxL + 11) + 60 * f ≤ R.locals)
    (hdg : decode cc pc = .ok (.invokevirtual index, 3)) (hn : As.length = n) (hsize : ls.size = nL) (hstack : st0 = As.reverse ++ .ref (E.2.2 1299) :: rest) (hW : (rest.map fun v => v.category).sum ≤ 8) (hf : cells + mc ≤ R.cells ∧ slots + ms ≤ R.slots)
    (kk : ∀ (r : Int32) (v' : qS) (H1 : Heap) (locs1 : List Loc), post r v' → l_2 E A u v' s H1 → va_S A H0 H1 locs1 → W p l e R s m args below meth c H1 locs1 (cells + mc) (slots + ms) Q (F0 m (pc + 3) ls (.int r :: rest))) : W p l e R s m args below meth c H locs cells slots Q (F0 m pc ls st0) := by
  have hU : qH E (va_A (qW E 1 v) H.size) 1 v s H := ⟨hV.2.1.1, hV.2.1.2.1, hV.2.1.2.2.1.self, hV.2.1.2.2.2⟩
  have hsub : ∀ q, va_A (qW E 1 v) H.size q → A q := fun q h => by
    rcases h with ⟨i, e, hi⟩ | h2
    · exact hV.2.1.2.2.1.2 i _ hi
    · exact hA q (Nat.le_trans hS.1 h2)
  have hG : GoodIn qw_tbl (wsV own index "SecretBuyersModel" y (uws y bytes maxL ret)) := fun w hw => by
    rcases List.mem_append.mp hw with h | h
    · rcases List.mem_cons.mp h with e | h
      · rw [e]; exact ⟨w1, good_of_word (uw_g w1)⟩
      · rcases List.mem_cons.mp h with e | h
        · rw [e]; exact ⟨w2, good_of_word (uw_g w2)⟩
        · rcases List.mem_cons.mp h with e | h
          · rw [e]; exact ⟨w3, good_of_word (uw_g w3)⟩
          · rcases List.mem_cons.mp h with e | h
            · rw [e]; exact ⟨w4, good_of_word (uw_g w4)⟩
            · cases h
    · exact uw_in (fun _ h => h) w5 w h
  refine va_calli (va_runV (As := As) (rest := rest) hF.fix (hM (va_A (qW E 1 v) H.size)) (cwV n hF.2.2.2.2 hG rfl rfl rfl hd hR) ⟨qPc_blind, va_recv (q0 := 0) (ci := 12) hU.1 hU.2.1 rfl (qW_ob rfl), q_pre (H0 := H) hF hU va_S.rf (fun q h => Or.inr h) _⟩ rfl hn hsize hstack (lv_room hW) hdg hf) hS (fun q _ h => hsub q h) hsub (fun r u' t H1 locs1 ht hvm hw hB hz hk hS1 => kk r u' H1 locs1 hw (l_new1 hV hS hA ht hvm hB hk) hS1)
theorem l_callW2 {post : Int32 → qS → Prop} (hF : qX p m c cc nL s args own) (hV : l_2 E A u v s H) (hS : va_S A H0 H locs) (hA : ∀ q : Nat, H0.size ≤ q → A q) (hZ : qZw A s H) (n : Nat)
    (hM : ∀ A' : Nat → Prop, Met l y (uws y bytes maxL ret) (qR f mc ms) (qPw E A' 0 u (.ref (E.2.2 1199) :: As)) (qQi E A' 0 post) mc ms A')
    (w1 : Cond.methodLink own index y ∈ qw_tbl) (w2 : Cond.instanceMethod y ∈ qw_tbl) (w3 : Cond.selects "SecretBuyers" y y ∈ qw_tbl) (w4 : Cond.initialized "SecretBuyers" ∈ qw_tbl) (w5 : Cond.code y bytes maxL ret ∈ qw_tbl)
    (hd : y.cls = "SecretBuyers" ∧ y.cls ≠ "java/lang/invoke/MethodHandle" ∧ y.cls ≠ "java/lang/invoke/VarHandle" ∧ (parseMethodDescriptor y.desc).map (fun d => d.parameters.length) = some n) (hR : f + 1 ≤ R.frames ∧ 8 + (maxL + 11) + 60 * f ≤ R.locals)
    (hdg : decode cc pc = .ok (.invokevirtual index, 3)) (hn : As.length = n) (hsize : ls.size = nL) (hstack : st0 = As.reverse ++ .ref (E.2.2 1199) :: rest) (hW : (rest.map fun v => v.category).sum ≤ 8) (hf : cells + mc ≤ R.cells ∧ slots + ms ≤ R.slots)
    (kk : ∀ (r : Int32) (u' : qS) (H1 : Heap) (locs1 : List Loc), post r u' → l_2 E A u' v s H1 → va_S A H0 H1 locs1 → W p l e R s m args below meth c H1 locs1 (cells + mc) (slots + ms) Q (F0 m (pc + 3) ls (.int r :: rest))) : W p l e R s m args below meth c H locs cells slots Q (F0 m pc ls st0) := by
  have hU : qH E (va_A (qW E 0 u) H.size) 0 u s H := ⟨hV.1.1, hV.1.2.1, hV.1.2.2.1.self, hV.1.2.2.2⟩
  have hsub : ∀ q, va_A (qW E 0 u) H.size q → A q := fun q h => by
    rcases h with ⟨i, e, hi⟩ | h2
    · exact hV.1.2.2.1.2 i _ hi
    · exact hA q (Nat.le_trans hS.1 h2)
  have hG : GoodIn qw_tbl (wsV own index "SecretBuyers" y (uws y bytes maxL ret)) := fun w hw => by
    rcases List.mem_append.mp hw with h | h
    · rcases List.mem_cons.mp h with e | h
      · rw [e]; exact ⟨w1, good_of_word (uw_g w1)⟩
      · rcases List.mem_cons.mp h with e | h
        · rw [e]; exact ⟨w2, good_of_word (uw_g w2)⟩
        · rcases List.mem_cons.mp h with e | h
          · rw [e]; exact ⟨w3, good_of_word (uw_g w3)⟩
          · rcases List.mem_cons.mp h with e | h
            · rw [e]; exact ⟨w4, good_of_word (uw_g w4)⟩
            · cases h
    · exact uw_in (fun _ h => h) w5 w h
  refine va_calli (va_runV (As := As) (rest := rest) hF.fix (hM (va_A (qW E 0 u) H.size)) (cwV n hF.2.2.2.2 hG rfl rfl rfl hd hR) ⟨qPw_blind, va_recv (q0 := 0) (ci := 11) hU.1 hU.2.1 rfl (qW_ob rfl), q_prew (H0 := H) hF hU va_S.rf (fun q h => Or.inr h) (hZ.narrow hsub) _⟩ rfl hn hsize hstack (lv_room hW) hdg hf) hS (fun q _ h => hsub q h) hsub (fun r u' t H1 locs1 ht hvm hw hB hz hk hS1 => kk r u' H1 locs1 hw (l_new0 hV hS hA ht hvm hB hk) hS1)
theorem l_callL2 {post : Int32 → qS → Prop} {hh : List (Nat × Nat × Nat × Nat)} (hF : qX p m c cc nL s args own) (hV : l_2 E A u v s H) (hS : va_S A H0 H locs) (hA : ∀ q : Nat, H0.size ≤ q → A q) (hXs : qXs A s H) (n : Nat)
    (hM : ∀ A' : Nat → Prop, Met l y (uwsH y bytes maxL ret hh) (qR f mc ms) (qPx E A' 0 u As) (qQi E A' 0 post) mc ms A')
    (w1 : Cond.methodLink own index y ∈ qw_tbl) (w2 : Cond.static y ∈ qw_tbl) (w4 : Cond.initialized y.cls ∈ qw_tbl) (w5 : Cond.codeWith y bytes maxL ret hh ∈ qw_tbl)
    (hd : y.cls ≠ "java/lang/invoke/MethodHandle" ∧ y.cls ≠ "java/lang/invoke/VarHandle" ∧ (parseMethodDescriptor y.desc).map (fun d => d.parameters.length) = some n) (hR : f + 1 ≤ R.frames ∧ 8 + (maxL + 11) + 60 * f ≤ R.locals)
    (hdg : decode cc pc = .ok (.invokestatic index, 3)) (hn : As.length = n) (hsize : ls.size = nL) (hstack : st0 = As.reverse ++ rest) (hW : (rest.map fun v => v.category).sum ≤ 8) (hf : cells + mc ≤ R.cells ∧ slots + ms ≤ R.slots)
    (kk : ∀ (r : Int32) (u' : qS) (H1 : Heap) (locs1 : List Loc), post r u' → l_2 E A u' v s H1 → va_S A H0 H1 locs1 → W p l e R s m args below meth c H1 locs1 (cells + mc) (slots + ms) Q (F0 m (pc + 3) ls (.int r :: rest))) : W p l e R s m args below meth c H locs cells slots Q (F0 m pc ls st0) := by
  have hU : qH E (va_A (qW E 0 u) H.size) 0 u s H := ⟨hV.1.1, hV.1.2.1, hV.1.2.2.1.self, hV.1.2.2.2⟩
  have hsub : ∀ q, va_A (qW E 0 u) H.size q → A q := fun q h => by
    rcases h with ⟨i, e, hi⟩ | h2
    · exact hV.1.2.2.1.2 i _ hi
    · exact hA q (Nat.le_trans hS.1 h2)
  have hG : GoodIn qw_tbl (uwsH y bytes maxL ret hh) := fun w hw => by
    rcases List.mem_cons.mp hw with e | h
    · rw [e]; exact ⟨w5, good_of_word (uw_g w5)⟩
    · exact ⟨h, good_of_word (uw_g h)⟩
  have cw : vx_CSW R s args own index y bytes maxL ret hh (uwsH y bytes maxL ret hh) (qR f mc ms) mc ms n := by
    refine ⟨⟨rfl, rfl, hR.1, hR.2, pay_in hF.2.2.2.2 hG, List.mem_cons_self⟩, hF.2.2.2.2 _ w5, hF.2.2.2.2 _ w4, ⟨hd.1, hd.2.1⟩, fun sig h => ?_, hF.2.2.2.2 _ w1, hF.2.2.2.2 _ w2⟩
    have h2 := hd.2.2
    rw [h] at h2
    exact (Option.some.inj h2).symm
  exact va_calli (vx_runSW (As := As) (rest := rest) hF.fix (hM (va_A (qW E 0 u) H.size)) cw ⟨qPx_blind, q_prex (H0 := H) hF hU va_S.rf (fun q h => Or.inr h) (hXs.narrow hsub) _⟩ rfl hn hsize hstack (lv_room hW) hdg hf) hS (fun q _ h => hsub q h) hsub (fun r u' t H1 locs1 ht hvm hw hB hz hk hS1 => kk r u' H1 locs1 hw (l_new0 hV hS hA ht hvm hB hk) hS1)
end L2
/-! what holds of both between the calls -/
def RM (v : qS) : Prop := IM v ∧ g_rw (v.2.1 1262) 120 0 1001 ∧ g_IB v
def RC (E : qE) (o : Nat) (u : qS) : Prop := IC E u ∧ qRo E u o
def RD (u v : qS) : Prop := u.1 13 = v.1 1230 ∧ u.1 8 = v.1 1232 ∧ u.1 9 = v.1 1239
theorem RM.q {M R G : List Nat} {v w : qS} (h : RM v) (hf : qFr M R G v w) (hM : ∀ n ∈ [1202, 1210, 1230, 1232, 1239, 1244, 1247, 1256], n ∉ M) (hR : ∀ n ∈ [1214, 1215, 1217, 1218, 1222, 1223, 1248, 1249, 1250, 1257, 1276], n ∉ R) (hs : g_rw (w.2.1 1262) 120 0 1001) : RM w := ⟨h.1.fr hf hM hR, hs, h.2.2.fr hf (hM _ (by decide)) (fun n hn => hR n (by revert n; decide))⟩
theorem RM.n {M R G : List Nat} {v w : qS} (h : RM v) (hf : qFr M R G v w) (hM : ∀ n ∈ [1202, 1210, 1230, 1232, 1239, 1244, 1247, 1256], n ∉ M) (hR : ∀ n ∈ [1214, 1215, 1217, 1218, 1222, 1223, 1248, 1249, 1250, 1257, 1276, 1262], n ∉ R) : RM w := h.q hf hM (fun n hn => hR n (by revert n; decide)) (by rw [hf.2.1 1262 (hR _ (by decide))]; exact h.2.1)
theorem RM.i {M R G : List Nat} {v w : qS} (h : RM v) (hf : qFr M R G v w) (hi : IM w) (hM : 1210 ∉ M) (hR : ∀ n ∈ [1214, 1215, 1217, 1218, 1222, 1223, 1262], n ∉ R) : RM w := ⟨hi, by rw [hf.2.1 1262 (hR _ (by decide))]; exact h.2.1, h.2.2.fr hf hM (fun n hn => hR n (by revert n; decide))⟩
theorem RM.b {M R G : List Nat} {v w : qS} (h : RM v) (hf : qFr M R G v w) (hi : IM w) (hb : g_IB w) (hR : 1262 ∉ R) : RM w := ⟨hi, by rw [hf.2.1 1262 hR]; exact h.2.1, hb⟩
theorem RC.f {E : qE} {o : Nat} {M R G X : List Nat} {u w : qS} (h : RC E o u) (hf : qFc M R G X u w) (hi : IC E w) : RC E o w := ⟨hi, h.2.fr hf⟩
theorem RD.k {u v u' v' : qS} (h : RD u v) (e1 : u'.1 13 = u.1 13) (e2 : u'.1 8 = u.1 8) (e3 : u'.1 9 = u.1 9) (f1 : v'.1 1230 = v.1 1230) (f2 : v'.1 1232 = v.1 1232) (f3 : v'.1 1239 = v.1 1239) : RD u' v' := ⟨e1.trans (h.1.trans f1.symm), e2.trans (h.2.1.trans f2.symm), e3.trans (h.2.2.trans f3.symm)⟩
/-- answers of two that say the same -/
theorem l_same {P : Prop} {r r' x y a a' : Int32} (h : (P ∧ r = x ∧ a = x) ∨ (¬ P ∧ r = y ∧ a = a')) {Q : Prop} {b b' : Int32} (k : (Q ∧ r' = x ∧ b = x) ∨ (¬ Q ∧ r' = y ∧ b = b')) (hPQ : P ↔ Q) (he : a' = b') : r = r' ∧ a = b := by
  rcases h with ⟨p, h1, h2⟩ | ⟨p, h1, h2⟩ <;> rcases k with ⟨q, k1, k2⟩ | ⟨q, k1, k2⟩
  · exact ⟨h1.trans k1.symm, h2.trans k2.symm⟩
  · exact absurd (hPQ.mp p) q
  · exact absurd (hPQ.mpr q) p
  · exact ⟨h1.trans k1.symm, h2.trans (he.trans k2.symm)⟩
theorem l_in {i : Int32} {L k : Nat} (h0 : 0 ≤ i.toInt) (h8 : i.toInt + 8 ≤ L) (hL : L ≤ 4096) (hk : k < 8) : vp_in (i + Int32.ofNat k) L := by
  have e : (Int32.ofNat k).toInt = k := Int32.toInt_ofNat_of_lt (by omega)
  have z : (i + Int32.ofNat k).toInt = i.toInt + (Int32.ofNat k).toInt := g_add (by omega) (by omega)
  exact g_in (by omega) (by omega)
