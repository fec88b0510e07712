/-! lines of briefs, and the keeping of them -/
/-- what reading leaves: d more codes than tokens; the code below is kept -/
def g_K (d : Int) (a f c : Int32) (o e : Nat → Int32) (a' f' c' : Int32) (o' e' : Nat → Int32) : Prop :=
  (a.toInt ≤ a'.toInt ∧ 0 ≤ f'.toInt ∧ c.toInt ≤ c'.toInt ∧ c'.toInt - a'.toInt ≤ c.toInt - a.toInt + d) ∧ (f' = 0 → f = 0) ∧ (∀ i, i < 19200 + c.toNatClampNeg → o' i = o i ∧ e' i = e i)
/-- a code that begins at x, of the first C codes of the draft -/
def g_cd (o e : Nat → Int32) (C : Nat) (x : Int32) : Prop := ∃ p n : Nat, x.toInt = 19200 + p ∧ p + n < C ∧ g_gc o e n (19200 + p) 0
section GK
variable {d d1 d2 N : Int} {r a f c a' f' c' a2 f2 c2 x : Int32} {o e o' e' o2 e2 : Nat → Int32}
theorem g_K.rf (hf : 0 ≤ f.toInt) : g_K 0 a f c o e a f c o e := ⟨⟨by omega, hf, by omega, by omega⟩, fun q => q, fun _ _ => ⟨rfl, rfl⟩⟩
theorem g_K.trans (x : g_K d1 a f c o e a' f' c' o' e') (y : g_K d2 a' f' c' o' e' a2 f2 c2 o2 e2) : g_K (d1 + d2) a f c o e a2 f2 c2 o2 e2 := by
  obtain ⟨⟨x1, x2, x3, x4⟩, x5, x6⟩ := x
  obtain ⟨⟨y1, y2, y3, y4⟩, y5, y6⟩ := y
  have ec := g_clamp c
  have ec' := g_clamp c'
  refine ⟨⟨by omega, y2, by omega, by omega⟩, fun q => x5 (y5 q), fun i hi => ?_⟩
  have p := y6 i (by omega)
  have r := x6 i hi
  exact ⟨p.1.trans r.1, p.2.trans r.2⟩
theorem g_K.wk (x : g_K d1 a f c o e a' f' c' o' e') (h : d1 ≤ d2) : g_K d2 a f c o e a' f' c' o' e' := ⟨⟨x.1.1, x.1.2.1, x.1.2.2.1, by have := x.1.2.2.2; omega⟩, x.2⟩
theorem g_K.tok (hf : 0 ≤ f.toInt) (h0 : 0 ≤ a.toInt ∧ a.toInt < 1000) : g_K (-1) a f c o e (a + 1) f c o e := by
  have u := (g_up h0.1 (by omega)).1
  exact ⟨⟨by omega, hf, by omega, by omega⟩, fun q => q, fun _ _ => ⟨rfl, rfl⟩⟩
theorem g_K.mv (x : g_mv N a f a' f') : g_K 0 a f c o e a' f' c o e := ⟨⟨x.1, x.2.2.1, by omega, by have := x.1; omega⟩, x.2.2.2, fun _ _ => ⟨rfl, rfl⟩⟩
theorem g_K.wr (hf : 1 ≤ f'.toInt) : g_K 0 a f c o e a f' c o e := ⟨⟨by omega, by omega, by omega, by omega⟩, fun q => by rw [q] at hf; exact absurd hf (by decide), fun _ _ => ⟨rfl, rfl⟩⟩
theorem g_R.K (x : g_R r a f c o e a' f' c' o' e') : g_K 1 a f c o e a' f' c' o' e' := ⟨⟨x.1.1, x.1.2.1, by have := x.1.2.2.1; omega, x.1.2.2.2⟩, x.2.1, x.2.2.1⟩
theorem g_R.cd (x : g_R r a f c o e a' f' c' o' e') (h0 : 0 ≤ c.toInt) (hf : f' = 0) : g_cd o' e' c'.toNatClampNeg r := by
  obtain ⟨n, n1, n2⟩ := x.2.2.2.2 hf
  refine ⟨c.toNatClampNeg, n, ?_, by omega, n2⟩
  rw [x.2.2.2.1, g_clamp]; omega
theorem g_cd.keep (w : g_cd o e c.toNatClampNeg x) (k : g_K d a f c o e a' f' c' o' e') : g_cd o' e' c'.toNatClampNeg x := by
  obtain ⟨p, n, p1, p2, p3⟩ := w
  have ec := g_clamp c
  have ec' := g_clamp c'
  have k1 := k.1.2.2.1
  refine ⟨p, n, p1, by omega, g_gc_sh (fun i hi => ?_) p3⟩
  exact k.2.2 _ (by omega)
end GK
/-- a line of the draft -/
def g_dl (o e kd la lw : Nat → Int32) (C k : Nat) : Prop := (kd (256 + k) ≠ 3 → g_cd o e C (la (256 + k))) ∧ (kd (256 + k) ≠ 0 → kd (256 + k) ≠ 2 → g_cd o e C (lw (256 + k)))
/-- the draft -/
def g_D (o e kd la lw : Nat → Int32) (ls nm c : Int32) : Prop := (0 ≤ ls.toInt ∧ ls.toInt ≤ 16) ∧ (0 ≤ nm.toInt ∧ nm.toInt ≤ 8) ∧ g_lets kd 256 ls.toNatClampNeg ≤ nm.toNatClampNeg ∧ ∀ k, k < ls.toNatClampNeg → g_dl o e kd la lw c.toNatClampNeg k
theorem g_lets_cg {k k' : Nat → Int32} {p p' : Nat} : ∀ {n : Nat}, (∀ j, j < n → k' (p' + j) = k (p + j)) → g_lets k' p' n = g_lets k p n
  | 0, _ => rfl
  | n + 1, h => by
    show g_lets k' p' n + _ = g_lets k p n + _
    rw [g_lets_cg (fun j hj => h j (Nat.lt_succ_of_lt hj)), h n (Nat.lt_succ_self n)]
theorem g_D.line {o e kd la lw o' e' kd' la' lw' : Nat → Int32} {ls nm c ls' nm' c' a f a' f' K : Int32} {d : Int} (h : g_D o e kd la lw ls nm c) (k : g_K d a f c o e a' f' c' o' e') (h16 : ls.toInt < 16) (hl : ls' = ls + 1) (hn : 0 ≤ nm'.toInt ∧ nm'.toInt ≤ 8) (hm : nm.toInt ≤ nm'.toInt) (hz : K = 0 → nm.toInt + 1 ≤ nm'.toInt)
    (r1 : ∀ j, j ≠ 256 + ls.toNatClampNeg → kd' j = kd j) (rk : kd' (256 + ls.toNatClampNeg) = K) (r2 : ∀ j, j ≠ 256 + ls.toNatClampNeg → la' j = la j) (r3 : ∀ j, j ≠ 256 + ls.toNatClampNeg → lw' j = lw j)
    (ha : K ≠ 3 → g_cd o' e' c'.toNatClampNeg (la' (256 + ls.toNatClampNeg))) (hw : K ≠ 0 → K ≠ 2 → g_cd o' e' c'.toNatClampNeg (lw' (256 + ls.toNatClampNeg))) : g_D o' e' kd' la' lw' ls' nm' c' := by
  obtain ⟨⟨a1, a2⟩, a3, a4, a5⟩ := h
  obtain ⟨u1, u2⟩ := g_up a1 (by omega)
  subst hl
  have cn := g_clamp nm
  have cn' := g_clamp nm'
  refine ⟨⟨by omega, by omega⟩, hn, ?_, fun j hj => ?_⟩
  · rw [u2]
    show g_lets kd' 256 ls.toNatClampNeg + (if kd' (256 + ls.toNatClampNeg) = 0 then 1 else 0) ≤ nm'.toNatClampNeg
    rw [g_lets_cg (k := kd) (p := 256) (fun j hj => r1 _ (by omega)), rk]
    split
    · rename_i q; have := hz q; omega
    · omega
  · rw [u2] at hj
    by_cases q : j = ls.toNatClampNeg
    · subst q
      unfold g_dl
      rw [rk]; exact ⟨ha, hw⟩
    · unfold g_dl
      rw [r1 _ (by omega), r2 _ (by omega), r3 _ (by omega)]
      obtain ⟨z1, z2⟩ := a5 j (by omega)
      exact ⟨fun y => (z1 y).keep k, fun y y2 => (z2 y y2).keep k⟩
/-- a kept code of brief b -/
def g_gl (b : Nat) (o e : Nat → Int32) (x : Int32) : Prop := ∃ n : Nat, 0 ≤ x.toInt ∧ 1200 * b ≤ x.toNatClampNeg ∧ x.toNatClampNeg + n < 1200 * (b + 1) ∧ g_gc o e n x.toNatClampNeg 0
def g_bl (b : Nat) (ls kd la lw o e : Nat → Int32) : Prop := (0 ≤ (ls b).toInt ∧ (ls b).toInt ≤ 16) ∧ g_lets kd (16 * b) (ls b).toNatClampNeg ≤ 8 ∧ ∀ k : Nat, k < (ls b).toNatClampNeg → (kd (16 * b + k) ≠ 3 → g_gl b o e (la (16 * b + k))) ∧ (kd (16 * b + k) ≠ 0 → kd (16 * b + k) ≠ 2 → g_gl b o e (lw (16 * b + k)))
def g_IBr (n : Nat) (ls kd la lw o e : Nat → Int32) : Prop := ∀ b : Nat, b < n → g_bl b ls kd la lw o e
/-- the kept briefs -/
def g_IB (u : qS) : Prop := g_IBr (u.1 1210).toNatClampNeg (u.2.1 1214) (u.2.1 1215) (u.2.1 1217) (u.2.1 1218) (u.2.1 1222) (u.2.1 1223)
theorem g_IB.fr {M R G : List Nat} {u v : qS} (h : g_IB u) (hf : qFr M R G u v) (hM : 1210 ∉ M) (hR : ∀ n ∈ [1214, 1215, 1217, 1218, 1222, 1223], n ∉ R) : g_IB v := by
  unfold g_IB at *
  rw [hf.1 1210 hM, hf.2.1 1214 (hR _ (by decide)), hf.2.1 1215 (hR _ (by decide)), hf.2.1 1217 (hR _ (by decide)), hf.2.1 1218 (hR _ (by decide)), hf.2.1 1222 (hR _ (by decide)), hf.2.1 1223 (hR _ (by decide))]
  exact h
theorem g_gl.gf {b : Nat} {o e : Nat → Int32} {x : Int32} (h : g_gl b o e x) (hb : b < 16) : g_gf o e x := by
  obtain ⟨n, h0, h1, h2, h3⟩ := h
  exact ⟨Int32.le_iff_toInt_le.mpr h0, n, by omega, by omega, h3⟩
theorem g_BW.of {u : qS} (h : g_IB u) (hb : u.1 1210 ≤ 16) : g_BW u := fun b b0 b1 => by
  have a0 := Int32.le_iff_toInt_le.mp b0
  have a1 := Int32.lt_iff_toInt_lt.mp b1
  have a2 := Int32.le_iff_toInt_le.mp hb
  have e0 : (0 : Int32).toInt = 0 := rfl
  have e16 : (16 : Int32).toInt = 16 := rfl
  have c1 := g_clamp b
  have c2 := g_clamp (u.1 1210)
  obtain ⟨⟨z1, z2⟩, z3, z4⟩ := h b.toNatClampNeg (by omega)
  refine ⟨⟨Int32.le_iff_toInt_le.mpr z1, Int32.le_iff_toInt_le.mpr z2⟩, z3, fun k hk => ?_⟩
  obtain ⟨y1, y2⟩ := z4 k hk
  exact ⟨fun q => (y1 q).gf (by omega), fun q q2 => (y2 q q2).gf (by omega)⟩
/-- what the draft's rows leave of the kept ones -/
def g_P (ls kd la lw o e ls' kd' la' lw' o' e' : Nat → Int32) : Prop := (∀ j, j < 16 → ls' j = ls j) ∧ (∀ j, j < 256 → kd' j = kd j ∧ la' j = la j ∧ lw' j = lw j) ∧ (∀ j, j < 19200 → o' j = o j ∧ e' j = e j)
theorem g_P.rf {ls kd la lw o e : Nat → Int32} : g_P ls kd la lw o e ls kd la lw o e := ⟨fun _ _ => rfl, fun _ _ => ⟨rfl, rfl, rfl⟩, fun _ _ => ⟨rfl, rfl⟩⟩
theorem g_P.trans {ls kd la lw o e ls' kd' la' lw' o' e' ls2 kd2 la2 lw2 o2 e2 : Nat → Int32} (x : g_P ls kd la lw o e ls' kd' la' lw' o' e') (y : g_P ls' kd' la' lw' o' e' ls2 kd2 la2 lw2 o2 e2) : g_P ls kd la lw o e ls2 kd2 la2 lw2 o2 e2 :=
  ⟨fun j h => (y.1 j h).trans (x.1 j h), fun j h => ⟨(y.2.1 j h).1.trans (x.2.1 j h).1, (y.2.1 j h).2.1.trans (x.2.1 j h).2.1, (y.2.1 j h).2.2.trans (x.2.1 j h).2.2⟩, fun j h => ⟨(y.2.2 j h).1.trans (x.2.2 j h).1, (y.2.2 j h).2.trans (x.2.2 j h).2⟩⟩
theorem g_gl.cg {b : Nat} {o e o' e' : Nat → Int32} {x : Int32} (h : g_gl b o e x) (q : ∀ j, j < 1200 * (b + 1) → o' j = o j ∧ e' j = e j) : g_gl b o' e' x := by
  obtain ⟨n, h0, h1, h2, h3⟩ := h
  exact ⟨n, h0, h1, h2, g_gc_sh (fun i hi => q _ (by omega)) h3⟩
theorem g_bl.cg {b : Nat} {ls kd la lw o e ls' kd' la' lw' o' e' : Nat → Int32} (h : g_bl b ls kd la lw o e) (q1 : ls' b = ls b) (q2 : ∀ j, 16 * b ≤ j → j < 16 * b + 16 → kd' j = kd j ∧ la' j = la j ∧ lw' j = lw j) (q3 : ∀ j, j < 1200 * (b + 1) → o' j = o j ∧ e' j = e j) : g_bl b ls' kd' la' lw' o' e' := by
  obtain ⟨h1, h2, h3⟩ := h
  have c := g_clamp (ls b)
  unfold g_bl
  rw [q1]
  refine ⟨h1, ?_, fun k hk => ?_⟩
  · rw [g_lets_cg (k := kd) (p := 16 * b) (fun j hj => (q2 _ (by omega) (by omega)).1)]; exact h2
  · obtain ⟨z1, z2, z3⟩ := q2 (16 * b + k) (by omega) (by omega)
    rw [z1, z2, z3]
    obtain ⟨y1, y2⟩ := h3 k hk
    exact ⟨fun w => (y1 w).cg q3, fun w w2 => (y2 w w2).cg q3⟩
theorem g_IBr.cg {n : Nat} {ls kd la lw o e ls' kd' la' lw' o' e' : Nat → Int32} (h : g_IBr n ls kd la lw o e) (hn : n ≤ 16) (q : g_P ls kd la lw o e ls' kd' la' lw' o' e') : g_IBr n ls' kd' la' lw' o' e' := fun b hb =>
  (h b hb).cg (q.1 b (by omega)) (fun j _ h2 => q.2.1 j (by omega)) (fun j hj => q.2.2 j (by omega))
/-- a row's n places from P on hold what stands from Q on, by g -/
def g_cp (r r' : Nat → Int32) (P Q n : Nat) (g : Int32 → Int32) : Prop := (∀ j, j < n → r' (P + j) = g (r (Q + j))) ∧ (∀ j, (j < P ∨ P + n ≤ j) → r' j = r j)
theorem g_cp.rf {r : Nat → Int32} {P Q : Nat} {g : Int32 → Int32} : g_cp r r P Q 0 g := ⟨fun j h => absurd h (Nat.not_lt_zero _), fun _ _ => rfl⟩
theorem g_cp.s {r r' : Nat → Int32} {P Q n : Nat} {g : Int32 → Int32} (h : g_cp r r' P Q n g) (hq : P + n ≤ Q + n) {x : Int32} (hx : x = g (r' (Q + n))) : g_cp r (upd r' (P + n) x) P Q (n + 1) g := by
  refine ⟨fun j hj => ?_, fun j hj => ?_⟩
  · by_cases e : j = n
    · subst e; rw [pk_us, hx, h.2 _ (Or.inr hq)]
    · rw [pk_un (by omega)]; exact h.1 j (by omega)
  · rw [pk_un (by omega)]; exact h.2 j (by omega)
/-- one brief more -/
theorem g_IBr.add {B : Nat} {ls kd la lw o e ls' kd' la' lw' o' e' : Nat → Int32} {L nm c : Int32} (hB : B < 16) (h : g_IBr B ls kd la lw o e) (hD : g_D o e kd la lw L nm c) (hc : c.toInt < 1200)
    (q1 : ls' = upd ls B L) (q2 : g_cp kd kd' (16 * B) 256 L.toNatClampNeg id) (q3 : g_cp la la' (16 * B) 256 L.toNatClampNeg (fun x => x - 19200 + Int32.ofNat (1200 * B))) (q4 : g_cp lw lw' (16 * B) 256 L.toNatClampNeg (fun x => x - 19200 + Int32.ofNat (1200 * B)))
    (q5 : g_cp o o' (1200 * B) 19200 c.toNatClampNeg id) (q6 : g_cp e e' (1200 * B) 19200 c.toNatClampNeg id) : g_IBr (B + 1) ls' kd' la' lw' o' e' := fun b hb => by
  by_cases z : b = B
  · subst z
    obtain ⟨⟨d1, d2⟩, ⟨d3, d4⟩, d5, d6⟩ := hD
    have eL : ls' b = L := by rw [q1, pk_us]
    have cn := g_clamp nm
    have cc := g_clamp c
    have cl := g_clamp L
    have gl : ∀ x : Int32, g_cd o e c.toNatClampNeg x → g_gl b o' e' (x - 19200 + Int32.ofNat (1200 * b)) := fun x hx => by
      obtain ⟨p, n, p1, p2, p3⟩ := hx
      have f1 : (x - 19200).toInt = p := by
        have : (x - 19200).toInt = x.toInt - 19200 := g_sub (x := x) (y := 19200) (by show _ ≤ x.toInt - 19200; omega) (by show x.toInt - 19200 < _; omega)
        omega
      have f2 : (Int32.ofNat (1200 * b)).toInt = ((1200 * b : Nat) : Int) := Int32.toInt_ofNat_of_lt (by omega)
      have f3 : (x - 19200 + Int32.ofNat (1200 * b)).toInt = p + 1200 * b := by
        have : (x - 19200 + Int32.ofNat (1200 * b)).toInt = (x - 19200).toInt + (Int32.ofNat (1200 * b)).toInt := g_add (by omega) (by omega)
        omega
      have f4 : (x - 19200 + Int32.ofNat (1200 * b)).toNatClampNeg = 1200 * b + p := by rw [g_clamp, f3]; omega
      refine ⟨n, by omega, by omega, by omega, ?_⟩
      rw [f4]
      refine g_gc_sh (fun i hi => ?_) p3
      have g1 := q5.1 (p + i) (by omega)
      have g2 := q6.1 (p + i) (by omega)
      rw [show 1200 * b + p + i = 1200 * b + (p + i) by omega, show 19200 + p + i = 19200 + (p + i) by omega]
      exact ⟨g1, g2⟩
    unfold g_bl
    rw [eL]
    refine ⟨⟨d1, d2⟩, ?_, fun k hk => ?_⟩
    · rw [g_lets_cg (k := kd) (p := 256) (fun j hj => q2.1 j hj)]; omega
    · rw [q2.1 k hk, q3.1 k hk, q4.1 k hk]
      obtain ⟨y1, y2⟩ := d6 k hk
      exact ⟨fun w => gl _ (y1 w), fun w w2 => gl _ (y2 w w2)⟩
  · obtain ⟨⟨d1, d2⟩, -, -, -⟩ := hD
    have cl := g_clamp L
    refine (h b (by omega)).cg (by rw [q1, pk_un z]) (fun j h1 h2 => ⟨q2.2 j (Or.inl (by omega)), q3.2 j (Or.inl (by omega)), q4.2 j (Or.inl (by omega))⟩) (fun j hj => ⟨q5.2 j (Or.inl (by omega)), q6.2 j (Or.inl (by omega))⟩)
theorem g_D.zero {o e kd la lw : Nat → Int32} : g_D o e kd la lw 0 0 0 := ⟨⟨by decide, by decide⟩, ⟨by decide, by decide⟩, Nat.le_refl _, fun k h => absurd h (Nat.not_lt_zero _)⟩
theorem IM.brief {u v : qS} (h : IM u) (hf : qFr [1200, 1202, 1203, 1207, 1208, 1210, 1219, 1221] [1204, 1205, 1211, 1212, 1213, 1214, 1215, 1216, 1217, 1218, 1222, 1223] [1206, 1220] u v) (h2 : 0 ≤ v.1 1202 ∧ v.1 1202 ≤ 1000) (h10 : 0 ≤ v.1 1210 ∧ v.1 1210 ≤ 16) (hb : g_IB v) : IM v :=
  ⟨IN.of h2 h10 (g_kp hf (by decide) (P := fun x => 0 ≤ x ∧ x ≤ 9999) h.1.s1230) (g_kp hf (by decide) (P := fun x => 0 ≤ x ∧ x ≤ 20) h.1.s1232) (g_kp hf (by decide) (P := fun x => 0 ≤ x ∧ x ≤ 8) h.1.s1239) (g_kp hf (by decide) (P := fun x => 0 ≤ x ∧ x ≤ 1000) h.1.s1244) (g_kp hf (by decide) (P := fun x => 0 ≤ x ∧ x ≤ 120) h.1.s1247) (g_kp hf (by decide) (P := fun x => 0 ≤ x ∧ x ≤ 60) h.1.s1256), h.2.1.fr hf (by decide) (by decide), g_BW.of hb h10.2, h.2.2.2.fr hf (by decide)⟩
