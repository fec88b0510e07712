/-! the law's own calls: the class's world stands beside the reference's -/
theorem q_same {P : Prop} {r1 r2 x y : Int32} (h1 : (P ∧ r1 = x) ∨ (¬ P ∧ r1 = y)) (h2 : (P ∧ r2 = x) ∨ (¬ P ∧ r2 = y)) : r1 = r2 := by
  rcases h1 with ⟨a, e1⟩ | ⟨a, e1⟩ <;> rcases h2 with ⟨b, e2⟩ | ⟨b, e2⟩
  · rw [e1, e2]
  · exact absurd a b
  · exact absurd b a
  · rw [e1, e2]
section QLAW
variable {p : Program} {l : Launch} {e : Env} {R : Room} {s : State} {m : MethodId} {args : Array Value} {below : List Frame} {meth : Method} {c : Code} {H H0 : Heap} {locs : List Loc} {cells slots : Nat} {Q : State → Prop}
variable {cc : ByteArray} {nL pc : Nat} {ls : Array Slot} {rest st0 As : List Value} {own : String} {E : qE} {A : Nat → Prop} {u v : qS} {y : MethodName} {bytes : ByteArray} {maxL index mc ms f : Nat} {ret : Option FieldType}
theorem l_left {D : va_G} {cl : List vw_C} {w1 w2 : va_W} (h : va_P D cl (w1 ++ w2) H) : va_P D cl w1 H := fun k q hq => h k q (by rw [List.getElem?_append_left (List.getElem?_eq_some_iff.mp hq).1]; exact hq)
theorem l_right {D : va_G} {cl : List vw_C} {w1 w2 : va_W} (h : va_P D cl (w1 ++ w2) H) : va_P D cl w2 H := fun k q hq => h (w1.length + k) q (by rw [List.getElem?_append_right (by omega), Nat.add_sub_cancel_left]; exact hq)
theorem l_dl {w1 w2 : va_W} (h : va_D A (w1 ++ w2)) : va_D A w1 := ⟨fun i j a b ha hb => h.1 i j a b (by rw [List.getElem?_append_left (List.getElem?_eq_some_iff.mp ha).1]; exact ha) (by rw [List.getElem?_append_left (List.getElem?_eq_some_iff.mp hb).1]; exact hb), fun k q hq => h.2 k q (by rw [List.getElem?_append_left (List.getElem?_eq_some_iff.mp hq).1]; exact hq)⟩
theorem l_dr {w1 w2 : va_W} (h : va_D A (w1 ++ w2)) : va_D A w2 := ⟨fun i j a b ha hb e => by
    have := h.1 (w1.length + i) (w1.length + j) a b (by rw [List.getElem?_append_right (by omega), Nat.add_sub_cancel_left]; exact ha) (by rw [List.getElem?_append_right (by omega), Nat.add_sub_cancel_left]; exact hb) e
    omega, fun k q hq => h.2 (w1.length + k) q (by rw [List.getElem?_append_right (by omega), Nat.add_sub_cancel_left]; exact hq)⟩
theorem l_apart {w1 w2 : va_W} (h : va_D A (w1 ++ w2)) {n k : Nat} {q : Nat × va_E} (hq : w2[k]? = some q) (hl : q.1 < n) : ¬ va_A w1 n q.1 := by
  rintro (⟨i, e, hi⟩ | h2)
  · have := h.1 i (w1.length + k) (q.1, e) q (by rw [List.getElem?_append_left (List.getElem?_eq_some_iff.mp hi).1]; exact hi) (by rw [List.getElem?_append_right (by omega), Nat.add_sub_cancel_left]; exact hq) rfl
    have := (List.getElem?_eq_some_iff.mp hi).1
    omega
  · omega
theorem l_sub {w1 w2 : va_W} (h : va_D A (w1 ++ w2)) (hS : va_S A H0 H locs) (hA : ∀ q : Nat, H0.size ≤ q → A q) : ∀ q, va_A w1 H.size q → A q := fun q h1 => by
  rcases h1 with ⟨i, e, hi⟩ | h2
  · exact (l_dl h).2 i _ hi
  · exact hA q (Nat.le_trans hS.1 h2)
theorem l_kept {w1 w2 : va_W} {H1 : Heap} (hD : va_D A (w1 ++ w2)) (hP : va_P E.1 vwCl (w1 ++ w2) H) (hk : ∀ q : Nat, q < H.size → ¬ va_A w1 H.size q → H1[q]? = H[q]?) : va_P E.1 vwCl w2 H1 := (l_right hP).kept (fun k q hq => hk q.1 ((l_right hP k q hq).lt) (l_apart hD hq ((l_right hP k q hq).lt)))
theorem l_callC {post : Int32 → qS → Prop} (hF : qX p m c cc nL s args own) (hK : va_K E.1 vwCl (qT E) s) (hN : qNs s) (hP : va_P E.1 vwCl (qW E 0 u ++ qW E 1 v) H) (hD : va_D A (qW E 0 u ++ qW E 1 v)) (hS : va_S A H0 H locs) (hA : ∀ q : Nat, H0.size ≤ q → A q) (n : Nat)
    (hM : ∀ A' : Nat → Prop, Met l y (uws y bytes maxL ret) (qR f mc ms) (qPc E A' 0 u (.ref (E.2.2 1199) :: As)) (qQi E A' 0 post) mc ms A')
    (w1 : Cond.methodLink own index y ∈ qw_tbl) (w2 : Cond.instanceMethod y ∈ qw_tbl) (w3 : Cond.selects "SecretBuyers" y y ∈ qw_tbl) (w4 : Cond.initialized "SecretBuyers" ∈ qw_tbl) (w5 : Cond.code y bytes maxL ret ∈ qw_tbl)
    (hd : y.cls = "SecretBuyers" ∧ y.cls ≠ "java/lang/invoke/MethodHandle" ∧ y.cls ≠ "java/lang/invoke/VarHandle" ∧ (parseMethodDescriptor y.desc).map (fun d => d.parameters.length) = some n) (hR : f + 1 ≤ R.frames ∧ 8 + (maxL + 11) + 60 * f ≤ R.locals)
    (hdg : decode cc pc = .ok (.invokevirtual index, 3)) (hn : As.length = n) (hsize : ls.size = nL) (hstack : st0 = As.reverse ++ .ref (E.2.2 1199) :: rest) (hW : (rest.map fun v => v.category).sum ≤ 8) (hf : cells + mc ≤ R.cells ∧ slots + ms ≤ R.slots)
    (kk : ∀ (r : Int32) (u' : qS) (H1 : Heap) (locs1 : List Loc), post r u' → qH E A 1 v s H1 → va_S A H0 H1 locs1 → W p l e R s m args below meth c H1 locs1 (cells + mc) (slots + ms) Q (F0 m (pc + 3) ls (.int r :: rest))) : W p l e R s m args below meth c H locs cells slots Q (F0 m pc ls st0) := by
  have hU : qH E (va_A (qW E 0 u) H.size) 0 u s H := ⟨hK, l_left hP, (l_dl hD).self, hN⟩
  have hsub := l_sub hD hS hA
  have hG : GoodIn qw_tbl (wsV own index "SecretBuyers" y (uws y bytes maxL ret)) := fun w hw => by
    rcases List.mem_append.mp hw with h | h
    · rcases List.mem_cons.mp h with e | h
      · rw [e]; exact ⟨w1, good_of_word (uw_g w1)⟩
      · rcases List.mem_cons.mp h with e | h
        · rw [e]; exact ⟨w2, good_of_word (uw_g w2)⟩
        · rcases List.mem_cons.mp h with e | h
          · rw [e]; exact ⟨w3, good_of_word (uw_g w3)⟩
          · rcases List.mem_cons.mp h with e | h
            · rw [e]; exact ⟨w4, good_of_word (uw_g w4)⟩
            · cases h
    · exact uw_in (fun _ h => h) w5 w h
  refine va_calli (va_runV (As := As) (rest := rest) hF.fix (hM (va_A (qW E 0 u) H.size)) (cwV n hF.2.2.2.2 hG rfl rfl rfl hd hR) ⟨qPc_blind, va_recv (q0 := 0) (ci := 11) hU.1 hU.2.1 rfl (qW_ob rfl), q_pre (H0 := H) hF hU va_S.rf (fun q h => Or.inr h) _⟩ rfl hn hsize hstack (lv_room hW) hdg hf) hS (fun q _ h => hsub q h) hsub (fun r u' t H1 locs1 ht hvm hw hB hz hk hS1 => kk r u' H1 locs1 hw ⟨hK, l_kept hD hP hk, l_dr hD, hN⟩ hS1)
end QLAW
