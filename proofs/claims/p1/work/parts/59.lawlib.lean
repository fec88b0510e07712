section QLAW2
variable {p : Program} {l : Launch} {e : Env} {R : Room} {s : State} {m : MethodId} {args : Array Value} {below : List Frame} {meth : Method} {c : Code} {H H0 : Heap} {locs : List Loc} {cells slots : Nat} {Q : State → Prop}
variable {cc : ByteArray} {nL pc : Nat} {ls : Array Slot} {rest st0 As : List Value} {own : String} {E : qE} {A : Nat → Prop} {u v : qS} {y : MethodName} {bytes : ByteArray} {maxL index mc ms f : Nat} {ret : Option FieldType}
theorem l_callL {post : Int32 → qS → Prop} {hh : List (Nat × Nat × Nat × Nat)} (hF : qX p m c cc nL s args own) (hK : va_K E.1 vwCl (qT E) s) (hN : qNs s) (hP : va_P E.1 vwCl (qW E 0 u ++ qW E 1 v) H) (hD : va_D A (qW E 0 u ++ qW E 1 v)) (hS : va_S A H0 H locs) (hA : ∀ q : Nat, H0.size ≤ q → A q) (hXs : qXs A s H) (n : Nat)
    (hM : ∀ A' : Nat → Prop, Met l y (uwsH y bytes maxL ret hh) (qR f mc ms) (qPx E A' 0 u As) (qQi E A' 0 post) mc ms A')
    (w1 : Cond.methodLink own index y ∈ qw_tbl) (w2 : Cond.static y ∈ qw_tbl) (w4 : Cond.initialized y.cls ∈ qw_tbl) (w5 : Cond.codeWith y bytes maxL ret hh ∈ qw_tbl)
    (hd : y.cls ≠ "java/lang/invoke/MethodHandle" ∧ y.cls ≠ "java/lang/invoke/VarHandle" ∧ (parseMethodDescriptor y.desc).map (fun d => d.parameters.length) = some n) (hR : f + 1 ≤ R.frames ∧ 8 + (maxL + 11) + 60 * f ≤ R.locals)
    (hdg : decode cc pc = .ok (.invokestatic index, 3)) (hn : As.length = n) (hsize : ls.size = nL) (hstack : st0 = As.reverse ++ rest) (hW : (rest.map fun v => v.category).sum ≤ 8) (hf : cells + mc ≤ R.cells ∧ slots + ms ≤ R.slots)
    (kk : ∀ (r : Int32) (u' : qS) (H1 : Heap) (locs1 : List Loc), post r u' → qH E A 1 v s H1 → va_S A H0 H1 locs1 → W p l e R s m args below meth c H1 locs1 (cells + mc) (slots + ms) Q (F0 m (pc + 3) ls (.int r :: rest))) : W p l e R s m args below meth c H locs cells slots Q (F0 m pc ls st0) := by
  have hU : qH E (va_A (qW E 0 u) H.size) 0 u s H := ⟨hK, l_left hP, (l_dl hD).self, hN⟩
  have hsub := l_sub hD hS hA
  have hG : GoodIn qw_tbl (uwsH y bytes maxL ret hh) := fun w hw => by
    rcases List.mem_cons.mp hw with e | h
    · rw [e]; exact ⟨w5, good_of_word (uw_g w5)⟩
    · exact ⟨h, good_of_word (uw_g h)⟩
  have cw : vx_CSW R s args own index y bytes maxL ret hh (uwsH y bytes maxL ret hh) (qR f mc ms) mc ms n := by
    refine ⟨⟨rfl, rfl, hR.1, hR.2, pay_in hF.2.2.2.2 hG, List.mem_cons_self⟩, hF.2.2.2.2 _ w5, hF.2.2.2.2 _ w4, ⟨hd.1, hd.2.1⟩, fun sig h => ?_, hF.2.2.2.2 _ w1, hF.2.2.2.2 _ w2⟩
    have h2 := hd.2.2
    rw [h] at h2
    exact (Option.some.inj h2).symm
  refine va_calli (vx_runSW (As := As) (rest := rest) hF.fix (hM (va_A (qW E 0 u) H.size)) cw ⟨qPx_blind, q_prex (H0 := H) hF hU va_S.rf (fun q h => Or.inr h) (hXs.narrow hsub) _⟩ rfl hn hsize hstack (lv_room hW) hdg hf) hS (fun q _ h => hsub q h) hsub (fun r u' t H1 locs1 ht hvm hw hB hz hk hS1 => kk r u' H1 locs1 hw ⟨hK, l_kept hD hP hk, l_dr hD, hN⟩ hS1)
end QLAW2
