/-! what holds of the reference after its calls that change it -/
theorem IM.thr {u : qS} (h : IM u) (x : Int32) : IM (qsI u 1200 x) := h.fr (M := [1200]) (R := []) (G := []) (qFr.rf.setI (by decide)) (by decide) (by decide)
theorem IN.of {u : qS} (h2 : 0 ≤ u.1 1202 ∧ u.1 1202 ≤ 1000) (h10 : 0 ≤ u.1 1210 ∧ u.1 1210 ≤ 16) (h30 : 0 ≤ u.1 1230 ∧ u.1 1230 ≤ 9999) (h32 : 0 ≤ u.1 1232 ∧ u.1 1232 ≤ 20) (h39 : 0 ≤ u.1 1239 ∧ u.1 1239 ≤ 8) (h44 : 0 ≤ u.1 1244 ∧ u.1 1244 ≤ 1000) (h47 : 0 ≤ u.1 1247 ∧ u.1 1247 ≤ 120) (h56 : 0 ≤ u.1 1256 ∧ u.1 1256 ≤ 60) : IN u := ⟨h2, h10, h30, h32, h39, h44, h47, h56⟩
theorem g_kp {M R G : List Nat} {u v : qS} (hf : qFr M R G u v) {n : Nat} (hn : n ∉ M) {P : Int32 → Prop} (h : P (u.1 n)) : P (v.1 n) := by rw [hf.1 n hn]; exact h
theorem IM.now {u v : qS} (h : IM u) (hf : qFr [1200, 1230] [] [] u v) (hc : 0 ≤ v.1 1230 ∧ v.1 1230 ≤ 9999) : IM v :=
  ⟨IN.of (g_kp hf (by decide) (P := fun x => 0 ≤ x ∧ x ≤ 1000) h.1.s1202) (g_kp hf (by decide) (P := fun x => 0 ≤ x ∧ x ≤ 16) h.1.s1210) (hc) (g_kp hf (by decide) (P := fun x => 0 ≤ x ∧ x ≤ 20) h.1.s1232) (g_kp hf (by decide) (P := fun x => 0 ≤ x ∧ x ≤ 8) h.1.s1239) (g_kp hf (by decide) (P := fun x => 0 ≤ x ∧ x ≤ 1000) h.1.s1244) (g_kp hf (by decide) (P := fun x => 0 ≤ x ∧ x ≤ 120) h.1.s1247) (g_kp hf (by decide) (P := fun x => 0 ≤ x ∧ x ≤ 60) h.1.s1256), h.2.1.fr hf (by decide) (by decide), h.2.2.1.fr hf (by decide) (by decide), h.2.2.2.fr hf (by decide)⟩
theorem IM.tape {u v : qS} (h : IM u) (hf : qFr [1200, 1202] [1201] [] u v) (hc : 0 ≤ v.1 1202 ∧ v.1 1202 ≤ 1000) : IM v :=
  ⟨IN.of (hc) (g_kp hf (by decide) (P := fun x => 0 ≤ x ∧ x ≤ 16) h.1.s1210) (g_kp hf (by decide) (P := fun x => 0 ≤ x ∧ x ≤ 9999) h.1.s1230) (g_kp hf (by decide) (P := fun x => 0 ≤ x ∧ x ≤ 20) h.1.s1232) (g_kp hf (by decide) (P := fun x => 0 ≤ x ∧ x ≤ 8) h.1.s1239) (g_kp hf (by decide) (P := fun x => 0 ≤ x ∧ x ≤ 1000) h.1.s1244) (g_kp hf (by decide) (P := fun x => 0 ≤ x ∧ x ≤ 120) h.1.s1247) (g_kp hf (by decide) (P := fun x => 0 ≤ x ∧ x ≤ 60) h.1.s1256), h.2.1.fr hf (by decide) (by decide), h.2.2.1.fr hf (by decide) (by decide), h.2.2.2.fr hf (by decide)⟩
theorem IM.terms {u v : qS} (h : IM u) (hf : qFr [1200, 1242, 1243, 1244] [] [] u v) (hc : 0 ≤ v.1 1244 ∧ v.1 1244 ≤ 1000) : IM v :=
  ⟨IN.of (g_kp hf (by decide) (P := fun x => 0 ≤ x ∧ x ≤ 1000) h.1.s1202) (g_kp hf (by decide) (P := fun x => 0 ≤ x ∧ x ≤ 16) h.1.s1210) (g_kp hf (by decide) (P := fun x => 0 ≤ x ∧ x ≤ 9999) h.1.s1230) (g_kp hf (by decide) (P := fun x => 0 ≤ x ∧ x ≤ 20) h.1.s1232) (g_kp hf (by decide) (P := fun x => 0 ≤ x ∧ x ≤ 8) h.1.s1239) (hc) (g_kp hf (by decide) (P := fun x => 0 ≤ x ∧ x ≤ 120) h.1.s1247) (g_kp hf (by decide) (P := fun x => 0 ≤ x ∧ x ≤ 60) h.1.s1256), h.2.1.fr hf (by decide) (by decide), h.2.2.1.fr hf (by decide) (by decide), h.2.2.2.fr hf (by decide)⟩
theorem IV.more {u v : qS} (h : IV u) (e1 : u.1 1232 ≤ v.1 1232) (e2 : u.1 1239 ≤ v.1 1239) (e3 : v.1 1247 = u.1 1247) (e4 : v.1 1256 = u.1 1256) (r1 : v.2.1 1248 = u.2.1 1248) (r2 : v.2.1 1249 = u.2.1 1249) (r3 : v.2.1 1250 = u.2.1 1250) (r4 : v.2.1 1257 = u.2.1 1257) : IV v := by
  unfold IV
  rw [e3, e4, r1, r2, r3, r4]
  exact ⟨fun i a b => ⟨⟨(h.1 i a b).1.1, Int32.lt_of_lt_of_le (h.1 i a b).1.2 e1⟩, ⟨(h.1 i a b).2.1, Int32.lt_of_lt_of_le (h.1 i a b).2.2 e2⟩⟩, h.2.1, h.2.2⟩
theorem IM.shop {u v : qS} (h : IM u) (hf : qFr [1200, 1232] [1233, 1234, 1235, 1236, 1237, 1238] [] u v) (hc : 0 ≤ v.1 1232 ∧ v.1 1232 ≤ 20) (e : u.1 1232 ≤ v.1 1232) : IM v :=
  ⟨IN.of (g_kp hf (by decide) (P := fun x => 0 ≤ x ∧ x ≤ 1000) h.1.s1202) (g_kp hf (by decide) (P := fun x => 0 ≤ x ∧ x ≤ 16) h.1.s1210) (g_kp hf (by decide) (P := fun x => 0 ≤ x ∧ x ≤ 9999) h.1.s1230) (hc) (g_kp hf (by decide) (P := fun x => 0 ≤ x ∧ x ≤ 8) h.1.s1239) (g_kp hf (by decide) (P := fun x => 0 ≤ x ∧ x ≤ 1000) h.1.s1244) (g_kp hf (by decide) (P := fun x => 0 ≤ x ∧ x ≤ 120) h.1.s1247) (g_kp hf (by decide) (P := fun x => 0 ≤ x ∧ x ≤ 60) h.1.s1256), h.2.1.more e (by rw [hf.1 1239 (by decide)]; exact Int32.le_refl _) (hf.1 1247 (by decide)) (hf.1 1256 (by decide)) (hf.2.1 1248 (by decide)) (hf.2.1 1249 (by decide)) (hf.2.1 1250 (by decide)) (hf.2.1 1257 (by decide)), h.2.2.1.fr hf (by decide) (by decide), h.2.2.2.fr hf (by decide)⟩
theorem IM.buyer {u v : qS} (h : IM u) (hf : qFr [1200, 1239] [1240, 1241] [] u v) (hc : 0 ≤ v.1 1239 ∧ v.1 1239 ≤ 8) (e : u.1 1239 ≤ v.1 1239) : IM v :=
  ⟨IN.of (g_kp hf (by decide) (P := fun x => 0 ≤ x ∧ x ≤ 1000) h.1.s1202) (g_kp hf (by decide) (P := fun x => 0 ≤ x ∧ x ≤ 16) h.1.s1210) (g_kp hf (by decide) (P := fun x => 0 ≤ x ∧ x ≤ 9999) h.1.s1230) (g_kp hf (by decide) (P := fun x => 0 ≤ x ∧ x ≤ 20) h.1.s1232) (hc) (g_kp hf (by decide) (P := fun x => 0 ≤ x ∧ x ≤ 1000) h.1.s1244) (g_kp hf (by decide) (P := fun x => 0 ≤ x ∧ x ≤ 120) h.1.s1247) (g_kp hf (by decide) (P := fun x => 0 ≤ x ∧ x ≤ 60) h.1.s1256), h.2.1.more (by rw [hf.1 1232 (by decide)]; exact Int32.le_refl _) e (hf.1 1247 (by decide)) (hf.1 1256 (by decide)) (hf.2.1 1248 (by decide)) (hf.2.1 1249 (by decide)) (hf.2.1 1250 (by decide)) (hf.2.1 1257 (by decide)), h.2.2.1.fr hf (by decide) (by decide), h.2.2.2.fr hf (by decide)⟩
theorem g_ct_cong {f g f' g' : Nat → Int32} {b d : Int32} : ∀ {n : Nat}, (∀ i, i < n → f' i = f i ∧ g' i = g i) → g_ct f' g' b d n = g_ct f g b d n
  | 0, _ => rfl
  | n + 1, h => by
    have ih := g_ct_cong (b := b) (d := d) (n := n) (fun i hi => h i (Nat.lt_succ_of_lt hi))
    show g_ct f' g' b d n + _ = g_ct f g b d n + _
    rw [ih, (h n (Nat.lt_succ_self n)).1, (h n (Nat.lt_succ_self n)).2]
theorem g_lt1 {i j k : Int32} (e : k.toInt = j.toInt + 1) (h : i < k) : i < j ∨ i = j := by
  have a := Int32.lt_iff_toInt_lt.mp h
  by_cases q : i = j
  · exact Or.inr q
  · have q2 : i.toInt ≠ j.toInt := fun z => q (Int32.toInt_inj.mp z)
    exact Or.inl (Int32.lt_iff_toInt_lt.mpr (by omega))
theorem IV.visit {u v : qS} (h : IV u) (h0 : 0 ≤ (u.1 1247).toInt) (h1 : (u.1 1247).toInt < 120) (e : v.1 1247 = u.1 1247 + 1) (e1 : v.1 1232 = u.1 1232) (e2 : v.1 1239 = u.1 1239) (e4 : v.1 1256 = u.1 1256) {s b d : Int32} (r1 : v.2.1 1248 = upd (u.2.1 1248) (u.1 1247).toNatClampNeg s) (r2 : v.2.1 1249 = upd (u.2.1 1249) (u.1 1247).toNatClampNeg b) (r3 : v.2.1 1250 = upd (u.2.1 1250) (u.1 1247).toNatClampNeg d) (r4 : v.2.1 1257 = u.2.1 1257) (hs : 0 ≤ s ∧ s < u.1 1232) (hb : 0 ≤ b ∧ b < u.1 1239) (hn : g_ct (u.2.1 1249) (u.2.1 1250) b d (u.1 1247).toNatClampNeg < 12) : IV v := by
  obtain ⟨a1, a2⟩ := g_up h0 (by omega)
  unfold IV
  rw [e, e1, e2, e4, r1, r2, r3, r4]
  refine ⟨fun i q0 q1 => ?_, fun i q0 q1 => ?_, fun b' d' => ?_⟩
  · rcases g_lt1 a1 q1 with q | q
    · have ne : i.toNatClampNeg ≠ (u.1 1247).toNatClampNeg := fun z => by
        have := g_inj (Int32.le_iff_toInt_le.mp q0) h0 z
        rw [this] at q; exact Int32.lt_irrefl q
      rw [pk_un ne, pk_un ne]; exact h.1 i q0 q
    · rw [q, pk_us, pk_us]; exact ⟨hs, hb⟩
  · have := h.2.1 i q0 q1
    exact ⟨this.1, Int32.lt_iff_toInt_lt.mpr (by have := Int32.lt_iff_toInt_lt.mp this.2; omega)⟩
  · rw [a2]
    show g_ct _ _ b' d' (u.1 1247).toNatClampNeg + _ ≤ 12
    rw [g_ct_cong (f := u.2.1 1249) (g := u.2.1 1250) (fun i hi => ⟨pk_un (by omega), pk_un (by omega)⟩), pk_us, pk_us]
    have t := h.2.2 b' d'
    split
    · rename_i q
      rw [q.1, q.2] at hn; omega
    · omega
theorem IV.appeal {u v : qS} (h : IV u) (h0 : 0 ≤ (u.1 1256).toInt) (h1 : (u.1 1256).toInt < 60) (e : v.1 1256 = u.1 1256 + 1) (e1 : v.1 1232 = u.1 1232) (e2 : v.1 1239 = u.1 1239) (e3 : v.1 1247 = u.1 1247) {x : Int32} (r4 : v.2.1 1257 = upd (u.2.1 1257) (u.1 1256).toNatClampNeg x) (r1 : v.2.1 1248 = u.2.1 1248) (r2 : v.2.1 1249 = u.2.1 1249) (r3 : v.2.1 1250 = u.2.1 1250) (hx : 0 ≤ x ∧ x < u.1 1247) : IV v := by
  obtain ⟨a1, a2⟩ := g_up h0 (by omega)
  unfold IV
  rw [e, e1, e2, e3, r1, r2, r3, r4]
  refine ⟨h.1, fun i q0 q1 => ?_, h.2.2⟩
  rcases g_lt1 a1 q1 with q | q
  · have ne : i.toNatClampNeg ≠ (u.1 1256).toNatClampNeg := fun z => by
      have := g_inj (Int32.le_iff_toInt_le.mp q0) h0 z
      rw [this] at q; exact Int32.lt_irrefl q
    rw [pk_un ne]; exact h.2.1 i q0 q
  · rw [q, pk_us]; exact hx
theorem IM.visit {u v : qS} (h : IM u) (hf : qFr [1200, 1247] [1248, 1249, 1250, 1251, 1252, 1253, 1254, 1255] [] u v) (hc : 0 ≤ v.1 1247 ∧ v.1 1247 ≤ 120) (hv : IV v) : IM v :=
  ⟨IN.of (g_kp hf (by decide) (P := fun x => 0 ≤ x ∧ x ≤ 1000) h.1.s1202) (g_kp hf (by decide) (P := fun x => 0 ≤ x ∧ x ≤ 16) h.1.s1210) (g_kp hf (by decide) (P := fun x => 0 ≤ x ∧ x ≤ 9999) h.1.s1230) (g_kp hf (by decide) (P := fun x => 0 ≤ x ∧ x ≤ 20) h.1.s1232) (g_kp hf (by decide) (P := fun x => 0 ≤ x ∧ x ≤ 8) h.1.s1239) (g_kp hf (by decide) (P := fun x => 0 ≤ x ∧ x ≤ 1000) h.1.s1244) (hc) (g_kp hf (by decide) (P := fun x => 0 ≤ x ∧ x ≤ 60) h.1.s1256), hv, h.2.2.1.fr hf (by decide) (by decide), h.2.2.2.fr hf (by decide)⟩
theorem IM.appeal {u v : qS} (h : IM u) (hf : qFr [1200, 1256] [1257, 1258, 1259] [] u v) (hc : 0 ≤ v.1 1256 ∧ v.1 1256 ≤ 60) (hv : IV v) : IM v :=
  ⟨IN.of (g_kp hf (by decide) (P := fun x => 0 ≤ x ∧ x ≤ 1000) h.1.s1202) (g_kp hf (by decide) (P := fun x => 0 ≤ x ∧ x ≤ 16) h.1.s1210) (g_kp hf (by decide) (P := fun x => 0 ≤ x ∧ x ≤ 9999) h.1.s1230) (g_kp hf (by decide) (P := fun x => 0 ≤ x ∧ x ≤ 20) h.1.s1232) (g_kp hf (by decide) (P := fun x => 0 ≤ x ∧ x ≤ 8) h.1.s1239) (g_kp hf (by decide) (P := fun x => 0 ≤ x ∧ x ≤ 1000) h.1.s1244) (g_kp hf (by decide) (P := fun x => 0 ≤ x ∧ x ≤ 120) h.1.s1247) (hc), hv, h.2.2.1.fr hf (by decide) (by decide), h.2.2.2.fr hf (by decide)⟩
