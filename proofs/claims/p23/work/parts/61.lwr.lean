/-! THE CLAIM OUT OF ONE WALK OF THE LAW'S BODY. Your part is whole_start (and what it stands on); all else here is the same for every law, but numbers. -/
def R_law : String := "SecretBuyersLaw"
def lw_P (b : Addr) (xs : List Int32) (args : Array Value) (s : State) : Prop := args = #[.ref b] ∧ s.IntsAt b xs ∧ xs.length ≤ 4096 ∧ (Jvm.Cond.and given_1 narrow_1).before args s = true
def lw_Q (_ : Array Value) (s : State) (o : Outcome) (t : State) : Prop := o = .returned (some (.int 1)) ∧ Framed s o t [] 601024 7293034
def lw_Z (below : List Frame) (a : Array Value) (s : State) : State → Prop := fun t => ∃ o, t.status = .running ∧ Ended t below o ∧ lw_Q a s o t
/-- the law's own end, with 1 on the stack, nothing written that was there before, its room as the claim has it -/
theorem lw_ret {p : Program} {l : Launch} {e : Env} {s : State} {m : MethodId} {below : List Frame} {meth : Method} {c : Code} {b : Nat} (hx : p.tables.exec = Jvm.exec) (hb : c.code = code) (hr : meth.sig.returnType = ret) (hlocks : meth.locks = false) {pc : Nat} {H : Heap} {ls : Array Slot} (hdg : decode code pc = .ok (.ireturn, 1)) : W p l e room_1 s m #[Value.ref b] below meth c H [] 601024 7293034 (lw_Z below #[Value.ref b] s) (F0 m pc ls [.int 1]) := by
  intro T hT X
  obtain ⟨fs, hret, hrun, hended, hW, hframe⟩ := X.leave (v := some (.int 1)) (hlocks := hlocks) (fun h => by rw [hr] at h; cases h)
  have hmeth' : T.vm.method? m = some meth := X.method'
  refine ⟨T.setFrames fs, ?_, .returned (some (.int 1)), hrun, hended, rfl, ⟨_, rfl⟩, hW, hframe⟩
  jvm_step X.here [X.here.top, hx, hb, hdg, hmeth', hr, ret, narrow_b1]
  (try refine ⟨rfl, ?_⟩); (try refine ⟨rfl, ?_⟩)
  first | (intro acts; rw [hret _ acts rfl rfl rfl]) | rw [hret _ _ rfl rfl rfl]
  exact Steps.refl _
/-- what holds at the law's entry: the machine, the code, the tables' words (any of lw_tbl by 'hts w (by decide +kernel)'), the script of L ints xs at the cell b, what the Statement gives of the start (any of its parts by flat_of_before) -/
def lw_At (p : Program) (s : State) (m : MethodId) (meth : Method) (c : Code) (b L : Nat) (xs : Nat → Int32) : Prop :=
  p.tables.exec = Jvm.exec ∧ c.code = code ∧ meth.sig.returnType = ret ∧ c.maxLocals = 7 ∧ s.vm.findClass R_law = some m.cls ∧ (∀ w ∈ lw_tbl, w.before #[Value.ref b] s = true) ∧ va_X b L xs s s.heap ∧ b < s.heap.size ∧ meth.locks = false ∧ (Jvm.Cond.and given_1 narrow_1).before #[Value.ref b] s = true
set_option maxHeartbeats 400000 in
set_option maxRecDepth 100000 in
theorem g_L_look (l : Launch) (hst : l.stackTraces = false) (E : qE) (A : Nat → Prop) (u : qS) (o : Nat) (x : Int32) (y : Int32) (hC : RC E o u) : Met l yL_look (uwsH yL_look cL_look 5 (some .int) [(0, 10, 13, 13)]) (qR 13 1 6) (qPx E A 0 u [.ref (E.2.2 1199), .int x, .int y, .ref o]) (qQi E A 0 (fun _ u1 => (∀ n ∈ [8, 9, 13, 801, 10, 11, 14, 16, 17], u1.1 n = u.1 n) ∧ (∀ v : qS, RV u v → RV u1 v) ∧ RC E o u1)) 1 6 A := by
  refine q_metH (own := RL) (f := 13) (hh := [(0, 10, 13, 13)]) [.ref (E.2.2 1199), .int x, .int y, .ref o] (by decide) (Nat.le_of_ble_eq_true rfl) rfl ?_
  intro p0 e0 s0 m0 bl0 me0 cd0 ls hF hr hlocks htb hXs hU hS hA hl
  have hl : lv_has ls 5 [(0, .ref (E.2.2 1199)), (1, .int x), (2, .int y), (3, .ref o)] := hl
  refine lv_aload_n hF.1 hF.2.1 dL_look_0 rfl (lv_at hl 3 rfl) ?_
  refine lv_iconst (v := 0) hF.1 hF.2.1 dL_look_1 (by decide) ?_
  refine lv_aload_n hF.1 hF.2.1 dL_look_2 rfl (lv_at hl 0 rfl) ?_
  refine lv_iload_n hF.1 hF.2.1 dL_look_3 rfl (lv_at hl 1 rfl) ?_
  refine lv_iload_n hF.1 hF.2.1 dL_look_4 rfl (lv_at hl 2 rfl) ?_
  have hM9 := g_X11_look l hst E A u x y hC.1
  have hR9 := q_runVX (l := l) (e := e0) (below := bl0) (meth := me0) (R := qR 13 1 6) (cells := 0) (slots := 0) (st0 := [.int y, .int x, .ref (E.2.2 1199), .int 0, .ref o]) (rest := [.int 0, .ref o]) hF hU hS hA hXs 2 0 11 1199 rfl rfl rfl hM9 w_1195 w_1196 w_1197 w_99 w_1198 (by decide +kernel) ⟨Nat.le_of_ble_eq_true rfl, Nat.le_of_ble_eq_true rfl⟩ dL_look_5 rfl hl.1 rfl (Nat.le_of_ble_eq_true rfl) ⟨Nat.le_of_ble_eq_true rfl, Nat.le_of_ble_eq_true rfl⟩
  refine q_calliX hR9 hU.2.2.2 hS (fun ce q9 u1 H locs hw hU hS h1 h2 h3 => ?_) (fun r u1 H locs hw hU hS => ?_)
  · refine vx_catch hF.2.2.2.1 [] ⟨0, 10, 13, 13⟩ [] (htb.trans rfl) (fun z hz => by cases hz) (by decide) (by decide) (hF.2.2.2.2 _ w_1194) (va_Nw.use rfl hU.2.2.2.n1205) h1 h2 h3 ?_
    refine lv_astore (lv' := [(4, .ref q9), (0, .ref (E.2.2 1199)), (1, .int x), (2, .int y), (3, .ref o)]) hF.1 hF.2.1 dL_look_13 hl (by decide) rfl (fun ls hl => ?_)
    refine lv_iconst (v := 1) hF.1 hF.2.1 dL_look_15 (by decide) ?_
    exact q_iret hF hr rfl hlocks hU hS dL_look_16 ⟨fun n hn => hw.1.1 n (by revert n; decide), fun v h9 => h9.fr hw.1 (by decide) (by decide) (by decide) (fun _ _ => rfl), hC.f hw.1 hw.2⟩
  · refine lv_i2l (v := r.toInt64) hF.1 hF.2.1 dL_look_8 rfl ?_
    refine q_lastd hF hU hS dL_look_9 hw.1.2 (hC.2.fr hw.1.1) (fun u2 H locs e9 g9 hi9 ho9 hU hS => ?_)
    refine lv_goto (tgt := 17) hF.1 hF.2.1 dL_look_10 (by decide) ?_
    refine lv_iconst (v := 0) hF.1 hF.2.1 dL_look_17 (by decide) ?_
    exact q_iret hF hr rfl hlocks hU hS dL_look_18 ⟨fun n hn => (congrFun e9 n).trans (hw.1.1.1 n (by revert n; decide)), fun v h9 => g9 v (h9.fr hw.1.1 (by decide) (by decide) (by decide) (fun _ _ => rfl)), hi9, ho9⟩
set_option maxHeartbeats 400000 in
set_option maxRecDepth 100000 in
theorem g_L_fair (l : Launch) (hst : l.stackTraces = false) (E : qE) (A : Nat → Prop) (u : qS) (o : Nat) (x : Int32) (hC : RC E o u) : Met l yL_fair (uwsH yL_fair cL_fair 4 (some .int) [(0, 9, 12, 13)]) (qR 13 1 6) (qPx E A 0 u [.ref (E.2.2 1199), .int x, .ref o]) (qQi E A 0 (fun _ u1 => (∀ n ∈ [8, 9, 13, 801, 10, 11, 14, 16, 17], u1.1 n = u.1 n) ∧ (∀ v : qS, RV u v → RV u1 v) ∧ RC E o u1)) 1 6 A := by
  refine q_metH (own := RL) (f := 13) (hh := [(0, 9, 12, 13)]) [.ref (E.2.2 1199), .int x, .ref o] (by decide) (Nat.le_of_ble_eq_true rfl) rfl ?_
  intro p0 e0 s0 m0 bl0 me0 cd0 ls hF hr hlocks htb hXs hU hS hA hl
  have hl : lv_has ls 4 [(0, .ref (E.2.2 1199)), (1, .int x), (2, .ref o)] := hl
  refine lv_aload_n hF.1 hF.2.1 dL_fair_0 rfl (lv_at hl 2 rfl) ?_
  refine lv_iconst (v := 0) hF.1 hF.2.1 dL_fair_1 (by decide) ?_
  refine lv_aload_n hF.1 hF.2.1 dL_fair_2 rfl (lv_at hl 0 rfl) ?_
  refine lv_iload_n hF.1 hF.2.1 dL_fair_3 rfl (lv_at hl 1 rfl) ?_
  have hM9 := g_X11_fair l hst E A u x hC.1
  have hR9 := q_runVX (l := l) (e := e0) (below := bl0) (meth := me0) (R := qR 13 1 6) (cells := 0) (slots := 0) (st0 := [.int x, .ref (E.2.2 1199), .int 0, .ref o]) (rest := [.int 0, .ref o]) hF hU hS hA hXs 1 0 11 1199 rfl rfl rfl hM9 w_1271 w_1272 w_1273 w_99 w_1274 (by decide +kernel) ⟨Nat.le_of_ble_eq_true rfl, Nat.le_of_ble_eq_true rfl⟩ dL_fair_4 rfl hl.1 rfl (Nat.le_of_ble_eq_true rfl) ⟨Nat.le_of_ble_eq_true rfl, Nat.le_of_ble_eq_true rfl⟩
  refine q_calliX hR9 hU.2.2.2 hS (fun ce q9 u1 H locs hw hU hS h1 h2 h3 => ?_) (fun r u1 H locs hw hU hS => ?_)
  · refine vx_catch hF.2.2.2.1 [] ⟨0, 9, 12, 13⟩ [] (htb.trans rfl) (fun z hz => by cases hz) (by decide) (by decide) (hF.2.2.2.2 _ w_1194) (va_Nw.use rfl hU.2.2.2.n1205) h1 h2 h3 ?_
    refine lv_astore_n (lv' := [(3, .ref q9), (0, .ref (E.2.2 1199)), (1, .int x), (2, .ref o)]) hF.1 hF.2.1 dL_fair_12 rfl hl (by decide) rfl (fun ls hl => ?_)
    refine lv_iconst (v := 1) hF.1 hF.2.1 dL_fair_13 (by decide) ?_
    exact q_iret hF hr rfl hlocks hU hS dL_fair_14 ⟨fun n hn => hw.1.1 n (by revert n; decide), fun v h9 => h9.fr hw.1 (by decide) (by decide) (by decide) (fun _ _ => rfl), hC.f hw.1 hw.2⟩
  · refine lv_i2l (v := r.toInt64) hF.1 hF.2.1 dL_fair_7 rfl ?_
    refine q_lastd hF hU hS dL_fair_8 hw.1.2 (hC.2.fr hw.1.1) (fun u2 H locs e9 g9 hi9 ho9 hU hS => ?_)
    refine lv_goto (tgt := 15) hF.1 hF.2.1 dL_fair_9 (by decide) ?_
    refine lv_iconst (v := 0) hF.1 hF.2.1 dL_fair_15 (by decide) ?_
    exact q_iret hF hr rfl hlocks hU hS dL_fair_16 ⟨fun n hn => (congrFun e9 n).trans (hw.1.1.1 n (by revert n; decide)), fun v h9 => g9 v (h9.fr hw.1.1 (by decide) (by decide) (by decide) (fun _ _ => rfl)), hi9, ho9⟩
set_option maxHeartbeats 400000 in
set_option maxRecDepth 100000 in
theorem g_L_lean (l : Launch) (hst : l.stackTraces = false) (E : qE) (A : Nat → Prop) (u : qS) (o : Nat) (x : Int32) (hC : RC E o u) : Met l yL_lean (uwsH yL_lean cL_lean 4 (some .int) [(0, 9, 12, 13)]) (qR 13 1 6) (qPx E A 0 u [.ref (E.2.2 1199), .int x, .ref o]) (qQi E A 0 (fun _ u1 => (∀ n ∈ [8, 9, 13, 801, 10, 11, 14, 16, 17], u1.1 n = u.1 n) ∧ (∀ v : qS, RV u v → RV u1 v) ∧ RC E o u1)) 1 6 A := by
  refine q_metH (own := RL) (f := 13) (hh := [(0, 9, 12, 13)]) [.ref (E.2.2 1199), .int x, .ref o] (by decide) (Nat.le_of_ble_eq_true rfl) rfl ?_
  intro p0 e0 s0 m0 bl0 me0 cd0 ls hF hr hlocks htb hXs hU hS hA hl
  have hl : lv_has ls 4 [(0, .ref (E.2.2 1199)), (1, .int x), (2, .ref o)] := hl
  refine lv_aload_n hF.1 hF.2.1 dL_lean_0 rfl (lv_at hl 2 rfl) ?_
  refine lv_iconst (v := 0) hF.1 hF.2.1 dL_lean_1 (by decide) ?_
  refine lv_aload_n hF.1 hF.2.1 dL_lean_2 rfl (lv_at hl 0 rfl) ?_
  refine lv_iload_n hF.1 hF.2.1 dL_lean_3 rfl (lv_at hl 1 rfl) ?_
  have hM9 := g_X11_lean l hst E A u x hC.1
  have hR9 := q_runVX (l := l) (e := e0) (below := bl0) (meth := me0) (R := qR 13 1 6) (cells := 0) (slots := 0) (st0 := [.int x, .ref (E.2.2 1199), .int 0, .ref o]) (rest := [.int 0, .ref o]) hF hU hS hA hXs 1 0 11 1199 rfl rfl rfl hM9 w_1280 w_1281 w_1282 w_99 w_1283 (by decide +kernel) ⟨Nat.le_of_ble_eq_true rfl, Nat.le_of_ble_eq_true rfl⟩ dL_lean_4 rfl hl.1 rfl (Nat.le_of_ble_eq_true rfl) ⟨Nat.le_of_ble_eq_true rfl, Nat.le_of_ble_eq_true rfl⟩
  refine q_calliX hR9 hU.2.2.2 hS (fun ce q9 u1 H locs hw hU hS h1 h2 h3 => ?_) (fun r u1 H locs hw hU hS => ?_)
  · refine vx_catch hF.2.2.2.1 [] ⟨0, 9, 12, 13⟩ [] (htb.trans rfl) (fun z hz => by cases hz) (by decide) (by decide) (hF.2.2.2.2 _ w_1194) (va_Nw.use rfl hU.2.2.2.n1205) h1 h2 h3 ?_
    refine lv_astore_n (lv' := [(3, .ref q9), (0, .ref (E.2.2 1199)), (1, .int x), (2, .ref o)]) hF.1 hF.2.1 dL_lean_12 rfl hl (by decide) rfl (fun ls hl => ?_)
    refine lv_iconst (v := 1) hF.1 hF.2.1 dL_lean_13 (by decide) ?_
    exact q_iret hF hr rfl hlocks hU hS dL_lean_14 ⟨fun n hn => hw.1.1 n (by revert n; decide), fun v h9 => h9.fr hw.1 (by decide) (by decide) (by decide) (fun _ _ => rfl), hC.f hw.1 hw.2⟩
  · refine lv_i2l (v := r.toInt64) hF.1 hF.2.1 dL_lean_7 rfl ?_
    refine q_lastd hF hU hS dL_lean_8 hw.1.2 (hC.2.fr hw.1.1) (fun u2 H locs e9 g9 hi9 ho9 hU hS => ?_)
    refine lv_goto (tgt := 15) hF.1 hF.2.1 dL_lean_9 (by decide) ?_
    refine lv_iconst (v := 0) hF.1 hF.2.1 dL_lean_15 (by decide) ?_
    exact q_iret hF hr rfl hlocks hU hS dL_lean_16 ⟨fun n hn => (congrFun e9 n).trans (hw.1.1.1 n (by revert n; decide)), fun v h9 => g9 v (h9.fr hw.1.1 (by decide) (by decide) (by decide) (fun _ _ => rfl)), hi9, ho9⟩
set_option maxHeartbeats 400000 in
set_option maxRecDepth 100000 in
theorem g_L_mean (l : Launch) (hst : l.stackTraces = false) (E : qE) (A : Nat → Prop) (u : qS) (o : Nat) (x : Int32) (y : Int32) (z : Int32) (hC : RC E o u) : Met l yL_mean (uwsH yL_mean cL_mean 6 (some .int) [(0, 12, 15, 13)]) (qR 13 1 6) (qPx E A 0 u [.ref (E.2.2 1199), .int x, .int y, .int z, .ref o]) (qQi E A 0 (fun _ u1 => (∀ n ∈ [8, 9, 13, 801, 10, 11, 14, 16, 17], u1.1 n = u.1 n) ∧ (∀ v : qS, RV u v → RV u1 v) ∧ RC E o u1)) 1 6 A := by
  refine q_metH (own := RL) (f := 13) (hh := [(0, 12, 15, 13)]) [.ref (E.2.2 1199), .int x, .int y, .int z, .ref o] (by decide) (Nat.le_of_ble_eq_true rfl) rfl ?_
  intro p0 e0 s0 m0 bl0 me0 cd0 ls hF hr hlocks htb hXs hU hS hA hl
  have hl : lv_has ls 6 [(0, .ref (E.2.2 1199)), (1, .int x), (2, .int y), (3, .int z), (4, .ref o)] := hl
  refine lv_aload hF.1 hF.2.1 dL_mean_0 (lv_at hl 4 rfl) ?_
  refine lv_iconst (v := 0) hF.1 hF.2.1 dL_mean_2 (by decide) ?_
  refine lv_aload_n hF.1 hF.2.1 dL_mean_3 rfl (lv_at hl 0 rfl) ?_
  refine lv_iload_n hF.1 hF.2.1 dL_mean_4 rfl (lv_at hl 1 rfl) ?_
  refine lv_iload_n hF.1 hF.2.1 dL_mean_5 rfl (lv_at hl 2 rfl) ?_
  refine lv_iload_n hF.1 hF.2.1 dL_mean_6 rfl (lv_at hl 3 rfl) ?_
  have hM9 := g_X11_mean l hst E A u x y z hC.1
  have hR9 := q_runVX (l := l) (e := e0) (below := bl0) (meth := me0) (R := qR 13 1 6) (cells := 0) (slots := 0) (st0 := [.int z, .int y, .int x, .ref (E.2.2 1199), .int 0, .ref o]) (rest := [.int 0, .ref o]) hF hU hS hA hXs 3 0 11 1199 rfl rfl rfl hM9 w_1294 w_1295 w_1296 w_99 w_1297 (by decide +kernel) ⟨Nat.le_of_ble_eq_true rfl, Nat.le_of_ble_eq_true rfl⟩ dL_mean_7 rfl hl.1 rfl (Nat.le_of_ble_eq_true rfl) ⟨Nat.le_of_ble_eq_true rfl, Nat.le_of_ble_eq_true rfl⟩
  refine q_calliX hR9 hU.2.2.2 hS (fun ce q9 u1 H locs hw hU hS h1 h2 h3 => ?_) (fun r u1 H locs hw hU hS => ?_)
  · refine vx_catch hF.2.2.2.1 [] ⟨0, 12, 15, 13⟩ [] (htb.trans rfl) (fun z hz => by cases hz) (by decide) (by decide) (hF.2.2.2.2 _ w_1194) (va_Nw.use rfl hU.2.2.2.n1205) h1 h2 h3 ?_
    refine lv_astore (lv' := [(5, .ref q9), (0, .ref (E.2.2 1199)), (1, .int x), (2, .int y), (3, .int z), (4, .ref o)]) hF.1 hF.2.1 dL_mean_15 hl (by decide) rfl (fun ls hl => ?_)
    refine lv_iconst (v := 1) hF.1 hF.2.1 dL_mean_17 (by decide) ?_
    exact q_iret hF hr rfl hlocks hU hS dL_mean_18 ⟨fun n hn => hw.1.1 n (by revert n; decide), fun v h9 => h9.fr hw.1 (by decide) (by decide) (by decide) (fun _ _ => rfl), hC.f hw.1 hw.2⟩
  · refine lv_i2l (v := r.toInt64) hF.1 hF.2.1 dL_mean_10 rfl ?_
    refine q_lastd hF hU hS dL_mean_11 hw.1.2 (hC.2.fr hw.1.1) (fun u2 H locs e9 g9 hi9 ho9 hU hS => ?_)
    refine lv_goto (tgt := 19) hF.1 hF.2.1 dL_mean_12 (by decide) ?_
    refine lv_iconst (v := 0) hF.1 hF.2.1 dL_mean_19 (by decide) ?_
    exact q_iret hF hr rfl hlocks hU hS dL_mean_20 ⟨fun n hn => (congrFun e9 n).trans (hw.1.1.1 n (by revert n; decide)), fun v h9 => g9 v (h9.fr hw.1.1 (by decide) (by decide) (by decide) (fun _ _ => rfl)), hi9, ho9⟩
