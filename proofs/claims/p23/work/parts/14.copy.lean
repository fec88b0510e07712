/-! answers that are cells -/
def qQr (E : qE) (A : Nat → Prop) (T : Nat) (P : qS → Nat → Prop) : Array Value → State → Outcome → State → Prop := va_Qr (fun _ : qS => True) (fun u a t => P u a ∧ qB E A T u t) A
section QREF
variable {p : Program} {l : Launch} {e : Env} {R : Room} {s : State} {m : MethodId} {args : Array Value} {below : List Frame} {meth : Method} {c : Code} {H H0 : Heap} {locs : List Loc} {cells slots : Nat} {Q : State → Prop}
variable {cc : ByteArray} {nL pc mc ms : Nat} {ls : Array Slot} {rest st0 : List Value} {own : String} {E : qE} {A : Nat → Prop} {T : Nat} {u : qS}
theorem q_aret {P : qS → Nat → Prop} {rt : FieldType} {a : Nat} (hF : qX p m c cc nL s args own) (hr : meth.sig.returnType = some rt) (hrt : (∃ n, rt = .object n) ∨ ∃ t, rt = .array t) (hlocks : meth.locks = false) (hU : qH E A T u s H) (hS : va_S A s.heap H locs) (hdg : decode cc pc = .ok (.areturn, 1)) (hp : P u a) : W p l e R s m args below meth c H locs cells slots (MQ below (qQr E A T P) args s cells slots A) (F0 m pc ls [.ref a]) :=
  W.aret (v := .ref a) hF.1 hF.2.1 hr hrt (Or.inr ⟨a, rfl⟩) (fun t ht hW => ⟨⟨u, a, rfl, trivial, hp, va_K.moved hW.alike hU.1, by rw [ht]; exact hU.2.1, hU.2.2.1, hU.2.2.2.moved hW⟩, hS.F ht⟩) hS.2.2 hdg hlocks
theorem q_callr {P : qS → Nat → Prop} {a : Array Value} (hr : va_Run p l e R s m args below meth c H locs cells slots mc ms (F0 m pc ls st0) rest (qQr E A T P a) A) (hN : qNs s) (hS : va_S A H0 H locs)
    (kk : ∀ (u' : qS) (ra : Nat) (H1 : Heap) (locs1 : List Loc), P u' ra → qH E A T u' s H1 → va_S A H0 H1 locs1 → W p l e R s m args below meth c H1 locs1 (cells + mc) (slots + ms) Q (F0 m (pc + 3) ls (.ref ra :: rest))) : W p l e R s m args below meth c H locs cells slots Q (F0 m pc ls st0) :=
  va_callr hr hS (fun _ _ h => h) (fun _ h => h) (fun u' ra t H1 locs1 ht hvm _ hB _ _ hS1 => kk u' ra H1 locs1 hB.1 ⟨va_K.moved hvm.symm hB.2.1, by rw [← ht]; exact hB.2.2.1, hB.2.2.2.1, hN⟩ hS1)
end QREF
set_option maxHeartbeats 800000 in
set_option maxRecDepth 100000 in
/-- copyOf of the reader's code, nothing of it -/
theorem k_copyOf0 (l : Launch) (E : qE) (A : Nat → Prop) (u : qS) : Met l yJ7_copyOf_59c91 (uws yJ7_copyOf_59c91 cJ7_copyOf_59c91 3 (some (.array .int))) (qR 2 1 0) (qPc E A 0 u [.ref (E.2.2 502), .int 0]) (qQr E A 0 (fun u1 a => ∃ g, u1 = qsX u (u.2.2.2.2 ++ [(a, .inl (E.2.1 0, 0, .inl g))]))) 1 0 A := by
  refine q_met (own := RJ7) (f := 2) [.ref (E.2.2 502), .int 0] (by decide) (Nat.le_of_ble_eq_true rfl) rfl ?_
  intro p0 e0 s0 m0 bl0 me0 cd0 ls hF hr hlocks hU hS hA hl
  have hl : lv_has ls 3 [(0, .ref (E.2.2 502)), (1, .int 0)] := hl
  refine lv_iload_n hF.1 hF.2.1 dJ7_copyOf_59c91_0 rfl (lv_at hl 1 rfl) ?_
  refine lv_aload_n hF.1 hF.2.1 dJ7_copyOf_59c91_1 rfl (lv_at hl 0 rfl) ?_
  refine q_alen (v := 1000) hF hU dJ7_copyOf_59c91_2 10 502 rfl 0 (by decide) rfl ?_
  refine lv_icmp_ne (tgt := 14) hF.1 hF.2.1 dJ7_copyOf_59c91_3 (by decide) (fun _ => ?_) (fun h9 => absurd h9 (by decide))
  refine lv_iload_n hF.1 hF.2.1 dJ7_copyOf_59c91_14 rfl (lv_at hl 1 rfl) ?_
  have hU : qH E A 0 (qsX u (u.2.2.2.2 ++ [])) s0 s0.heap := by rw [List.append_nil]; exact hU
  refine c_newa (N' := 0) hF hU hS hA dJ7_copyOf_59c91_15 0 rfl rfl w_231 (fun _ _ => uqI) (0, .inl (fun _ => 0)) (fun _ => rfl) (by decide) (by decide) (by decide) (Nat.le_of_ble_eq_true rfl) (Nat.le_of_ble_eq_true rfl) (k' := 1) (n' := 0) rfl rfl (fun q H hU hS => ?_)
  have hU : qH E A 0 (qsX u (u.2.2.2.2 ++ [(q, .inl (E.2.1 0, 0, .inl (fun _ => 0)))])) s0 H := hU
  refine lv_astore_n (lv' := [(2, .ref q), (0, .ref (E.2.2 502)), (1, .int 0)]) hF.1 hF.2.1 dJ7_copyOf_59c91_17 rfl hl (by decide) rfl (fun ls hl => ?_)
  refine lv_aload_n hF.1 hF.2.1 dJ7_copyOf_59c91_18 rfl (lv_at hl 1 rfl) ?_
  refine lv_iconst (v := 0) hF.1 hF.2.1 dJ7_copyOf_59c91_19 (by decide) ?_
  refine lv_aload_n hF.1 hF.2.1 dJ7_copyOf_59c91_20 rfl (lv_at hl 0 rfl) ?_
  refine lv_iconst (v := 0) hF.1 hF.2.1 dJ7_copyOf_59c91_21 (by decide) ?_
  refine lv_aload_n hF.1 hF.2.1 dJ7_copyOf_59c91_22 rfl (lv_at hl 1 rfl) ?_
  refine q_alen (v := 1000) hF hU dJ7_copyOf_59c91_23 10 502 rfl 0 (by decide) rfl ?_
  refine lv_iload_n hF.1 hF.2.1 dJ7_copyOf_59c91_24 rfl (lv_at hl 2 rfl) ?_
  refine va_mmin hF.1 hF.2.1 (hF.2.2.1.trans hl.1.symm) hF.2.2.2.1 (hF.2.2.2.2 _ w_808) (hF.2.2.2.2 _ w_809) (hF.2.2.2.2 _ w_113) (hF.2.2.2.2 _ w_810) (by decide) (Nat.le_of_ble_eq_true rfl) (by decide) (by decide) dJ7_copyOf_59c91_25 ?_
  refine q_topi (y := 0) (by decide) ?_
  have hd : (qsX u (u.2.2.2.2 ++ [(q, .inl (E.2.1 0, 0, .inl (fun _ => 0)))])).2.2.2.2[u.2.2.2.2.length + 0]? = some (q, .inl (E.2.1 0, 0, .inl (fun _ => 0))) := q_cat rfl rfl
  refine va_copyi (D := E.1) hF.1 hF.2.1 (hF.2.2.1.trans hl.1.symm) hF.2.2.2.1 (hF.2.2.2.2 _ w_811) (hF.2.2.2.2 _ w_813) (hF.2.2.2.2 _ w_812) (hF.2.2.2.2 _ w_114) hU.1 hU.2.1 hU.2.2.1 hS ((qob 0).length + 10) ((qob 0).length + ((qar 0).length + (u.2.2.2.2.length + 0))) 0 0 (ty := .int) (c0 := E.2.1 0) (c1 := E.2.1 0) (n0 := 1000) (n1 := 0) (by rw [qW_ar (n := 502) rfl, qac, qe_0 (by decide)]; rfl) (qW_dyn hd) rfl rfl rfl (by decide) (by decide) (by decide) (by decide) (by decide) (fun i h => absurd h (Nat.not_lt_zero _)) (by decide) (Nat.le_of_ble_eq_true rfl) dJ7_copyOf_59c91_28 (fun H1 locs1 h1 h2 h3 => ?_)
  rw [qW_setX] at h1 h2
  obtain ⟨g9, hg9⟩ : ∃ z, z = va_cpy (u.2.1 502) (fun _ => 0) (0 : Int32).toNatClampNeg (0 : Int32).toNatClampNeg (0 : Int32).toNatClampNeg := ⟨_, rfl⟩
  have e9 : (u.2.2.2.2 ++ ([(q, .inl (E.2.1 0, 0, .inl (fun _ => 0)))] : va_W)).set (u.2.2.2.2.length + 0) (q, .inl (E.2.1 0, 0, .inl g9)) ++ [] = u.2.2.2.2 ++ (([(q, .inl (E.2.1 0, 0, .inl g9))] : va_W) ++ []) := q_csub rfl rfl
  rw [List.append_nil] at e9
  have e8 : qsX u (u.2.2.2.2 ++ [(q, .inl (E.2.1 0, 0, .inl g9))]) = qsX (qsX u (u.2.2.2.2 ++ [(q, .inl (E.2.1 0, 0, .inl (fun _ => 0)))])) ((u.2.2.2.2 ++ ([(q, .inl (E.2.1 0, 0, .inl (fun _ => 0)))] : va_W)).set (u.2.2.2.2.length + 0) (q, .inl (E.2.1 0, 0, .inl g9))) := congrArg (qsX u) e9.symm
  have h1 : va_P E.1 vwCl (qW E 0 (qsX u (u.2.2.2.2 ++ [(q, .inl (E.2.1 0, 0, .inl g9))]))) H1 := by rw [e8, hg9]; exact h1
  have h2 : va_D A (qW E 0 (qsX u (u.2.2.2.2 ++ [(q, .inl (E.2.1 0, 0, .inl g9))]))) := by rw [e8, hg9]; exact h2
  refine lv_aload_n hF.1 hF.2.1 dJ7_copyOf_59c91_31 rfl (lv_at hl 0 rfl) ?_
  have hU9 : qH E A 0 (qsX u (u.2.2.2.2 ++ [(q, .inl (E.2.1 0, 0, .inl g9))])) s0 H1 := ⟨hU.1, h1, h2, hU.2.2.2⟩
  have hp9 : ∃ g, qsX u (u.2.2.2.2 ++ [(q, .inl (E.2.1 0, 0, .inl g9))]) = qsX u (u.2.2.2.2 ++ [(q, .inl (E.2.1 0, 0, .inl g))]) := ⟨g9, rfl⟩
  exact q_aret hF hr (Or.inr ⟨_, rfl⟩) hlocks hU9 h3 dJ7_copyOf_59c91_32 hp9
