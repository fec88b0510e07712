/-! what is worked out ahead, and for which edition: the states, the means, the scores -/
def t_ca (k u : qS) : Prop := t_c1 k u ∧ t_cm k u ∧ t_cs u
theorem t_cs.fr {M R G X : List Nat} {u w : qS} (h : t_cs u) (hf : qFc M R G X u w) (hM : ∀ n ∈ [18, 609], n ∉ M) : t_cs w := by
  unfold t_cs
  rw [hf.1 609 (hM _ (by decide)), hf.1 18 (hM _ (by decide))]; exact h
theorem t_ca.fr {M R G X : List Nat} {k u w : qS} (h : t_ca k u) (hf : qFc M R G X u w) (hM : ∀ n ∈ [10, 18, 311, 609, 909], n ∉ M) (hR : ∀ n ∈ [303, 304, 305], n ∉ R) (hX : ∀ n ∈ [2, 5000, 5010, 5011], n ∉ X) : t_ca k w :=
  ⟨h.1.fr hf (fun n hn => hM n (by revert n; decide)) (fun n hn => hX n (by revert n; decide)), h.2.1.fr hf hM hR (fun n hn => hX n (by revert n; decide)), h.2.2.fr hf (fun n hn => hM n (by revert n; decide))⟩
theorem t_cm.sI {k u : qS} {n : Nat} {x : Int32} (h : t_cm k u) (hn : ∀ m ∈ [10, 18, 311, 609, 909], m ≠ n) : t_cm k (qsI u n x) := by
  have e : ∀ m ∈ [10, 18, 311, 609, 909], (qsI u n x).1 m = u.1 m := fun m hm => pk_un (hn m hm)
  unfold t_cm
  rw [e 909 (by decide), e 18 (by decide), e 311 (by decide), e 609 (by decide)]
  refine ⟨h.1, fun q => ?_⟩
  obtain ⟨e1, e2, B, a, b⟩ := h.2 q
  exact ⟨e1, e2, B, a.sI (hn _ (by decide)), b⟩
theorem t_ca.sI {k u : qS} {n : Nat} {x : Int32} (h : t_ca k u) (hn : ∀ m ∈ [10, 18, 311, 609, 909], m ≠ n) : t_ca k (qsI u n x) := by
  have e : ∀ m ∈ [10, 18, 311, 609, 909], (qsI u n x).1 m = u.1 m := fun m hm => pk_un (hn m hm)
  refine ⟨h.1.sI (fun m hm => hn m (by revert m; decide)), h.2.1.sI hn, ?_⟩
  unfold t_cs
  rw [e 609 (by decide), e 18 (by decide)]; exact h.2.2
/-- the states are worked out -/
theorem t_ca.tr {M R G X : List Nat} {k u w : qS} {S : Nat → Int32} (h : t_ca k u) (hf : qFc M R G X u w) (hs : qFD 10 S w) (hfi : f_fi k S) (e9 : w.1 909 = u.1 18) (hM : ∀ n ∈ [10, 18, 311, 609], n ∉ M) (hR : ∀ n ∈ [303, 304, 305], n ∉ R) (hX : ∀ n ∈ [2, 5000, 5011], n ∉ X) : t_ca k w := by
  have e18 := hf.1 18 (hM _ (by decide))
  have e3 := hf.1 311 (hM _ (by decide))
  have e6 := hf.1 609 (hM _ (by decide))
  refine ⟨h.1.of hs hfi e9 e18, ?_, ?_⟩
  · unfold t_cm
    rw [e3, e18, e6, hf.2.1 303 (hR _ (by decide)), hf.2.1 304 (hR _ (by decide)), hf.2.1 305 (hR _ (by decide))]
    refine ⟨h.2.1.1, fun q => ?_⟩
    obtain ⟨-, q2, B, a, b⟩ := h.2.1.2 q
    exact ⟨e9, q2, B, a.fr hf (hM _ (by decide)) (hX _ (by decide)) (hX _ (by decide)) (hX _ (by decide)) (by decide), b⟩
  · unfold t_cs
    rw [e6, e18]; exact h.2.2
/-- the scores are worked out -/
theorem t_ca.sc {M R G X : List Nat} {k u w : qS} (h : t_ca k u) (hf : qFc M R G X u w) (e6 : w.1 609 = u.1 18) (hB : u.1 609 = u.1 18 → ∀ B : Nat → Int32, qFD 11 B u → qFD 11 B w) (hM : ∀ n ∈ [10, 18, 311, 909], n ∉ M) (hR : ∀ n ∈ [303, 304, 305], n ∉ R) (hX : ∀ n ∈ [2, 5000, 5010], n ∉ X) : t_ca k w := by
  have e18 := hf.1 18 (hM _ (by decide))
  have e3 := hf.1 311 (hM _ (by decide))
  have e9 := hf.1 909 (hM _ (by decide))
  have c := h.2.2
  refine ⟨h.1.fr hf (fun n hn => hM n (by revert n; decide)) hX, ?_, ?_⟩
  · unfold t_cm
    rw [e3, e18, e9, hf.2.1 303 (hR _ (by decide)), hf.2.1 304 (hR _ (by decide)), hf.2.1 305 (hR _ (by decide))]
    refine ⟨h.2.1.1, fun q => ?_⟩
    obtain ⟨q1, q2, B, a, b⟩ := h.2.1.2 q
    exact ⟨q1, e6, B, hB q2 B a, b⟩
  · unfold t_cs at *
    rw [e6, e18]; omega
/-- the means are worked out -/
theorem t_ca.me {k u w : qS} {S B : Nat → Int32} (h : t_ca k u) (hs : qFD 10 S w) (hfi : f_fi k S) (hb : qFD 11 B w) (hm : m_R k B (f_M k) (w.2.1 303) (w.2.1 304) (w.2.1 305)) (e3 : w.1 311 = u.1 18) (e9 : w.1 909 = u.1 18) (e6 : w.1 609 = u.1 18) (e18 : w.1 18 = u.1 18) : t_ca k w := by
  have c := h.2.2
  refine ⟨h.1.of hs hfi e9 e18, ⟨?_, fun _ => ⟨by rw [e9, e18], by rw [e6, e18], B, hb, hm⟩⟩, ?_⟩
  · unfold t_cs at c; rw [e3, e18]; omega
  · unfold t_cs at *; rw [e6, e18]; omega
/-- a new edition -/
theorem t_ca.new {k k' u w : qS} (h : t_ca k u) (e9 : w.1 909 = u.1 909) (e3 : w.1 311 = u.1 311) (e6 : w.1 609 = u.1 609) (e18 : w.1 18 = u.1 18 + 1) (hb : (u.1 18).toInt < 100000) : t_ca k' w := by
  have c := h.2.2
  have h0 := h.1.1
  have up := (g_up (i := u.1 18) (by omega) (by omega)).1
  refine ⟨h.1.new e9 e18 hb, h.2.1.new e3 e18 hb, ?_⟩
  unfold t_cs at *; rw [e6, e18, up]; omega
/-- the same edition, on both sides the same -/
theorem t_ca.cg {k u w : qS} (h : t_ca k u) (e9 : w.1 909 = u.1 909) (e3 : w.1 311 = u.1 311) (e6 : w.1 609 = u.1 609) (e18 : w.1 18 = u.1 18) (hr : w.2.1 303 = u.2.1 303 ∧ w.2.1 304 = u.2.1 304 ∧ w.2.1 305 = u.2.1 305) (hq : ∀ j, (j = 10 ∨ j = 11) → ∀ S : Nat → Int32, qFD j S u → qFD j S w) : t_ca k w := by
  refine ⟨?_, ?_, ?_⟩
  · unfold t_c1; rw [e9, e18]
    refine ⟨h.1.1, fun q => ?_⟩
    obtain ⟨S, a, b⟩ := h.1.2 q
    exact ⟨S, hq 10 (Or.inl rfl) S a, b⟩
  · unfold t_cm; rw [e9, e3, e6, e18, hr.1, hr.2.1, hr.2.2]
    refine ⟨h.2.1.1, fun q => ?_⟩
    obtain ⟨q1, q2, B, a, b⟩ := h.2.1.2 q
    exact ⟨q1, q2, B, hq 11 (Or.inr rfl) B a, b⟩
  · unfold t_cs; rw [e6, e18]; exact h.2.2
theorem t_ca.newF {M R G X : List Nat} {k k' u w : qS} (h : t_ca k u) (hf : qFc M R G X u w) (e18 : w.1 18 = u.1 18 + 1) (hb : (u.1 18).toInt < 100000) (hM : ∀ n ∈ [909, 311, 609], n ∉ M) : t_ca k' w := h.new (hf.1 909 (hM _ (by decide))) (hf.1 311 (hM _ (by decide))) (hf.1 609 (hM _ (by decide))) e18 hb
theorem t_ca.cgF {M R G X : List Nat} {k u w : qS} (h : t_ca k u) (hf : qFc M R G X u w) (e18 : w.1 18 = u.1 18) (hq : ∀ j, (j = 10 ∨ j = 11) → ∀ S : Nat → Int32, qFD j S u → qFD j S w) (hM : ∀ n ∈ [909, 311, 609], n ∉ M) (hR : ∀ n ∈ [303, 304, 305], n ∉ R) : t_ca k w := h.cg (hf.1 909 (hM _ (by decide))) (hf.1 311 (hM _ (by decide))) (hf.1 609 (hM _ (by decide))) e18 ⟨hf.2.1 303 (hR _ (by decide)), hf.2.1 304 (hR _ (by decide)), hf.2.1 305 (hR _ (by decide))⟩ hq
/-! both states say the same of who meets whom -/
theorem VE.co {v w : qS} (h : VE v w) {x : Int32} : f_co w x ↔ f_co v x := by
  unfold f_co
  constructor
  · rintro ⟨s, q⟩
    have s2 := h.sn.mp s
    rw [h.fin (t_in.of s2.1)] at q
    exact ⟨s2, q⟩
  · rintro ⟨s, q⟩
    refine ⟨h.sn.mpr s, ?_⟩
    rw [h.fin (t_in.of s.1)]; exact q
theorem VE.mt {v w : qS} (h : VE v w) {p q : Int32} (hp : t_in v p) (hq : t_in v q) : f_mt w p q ↔ f_mt v p q := by
  obtain ⟨⟨a1, a2, a3, -⟩, -⟩ := h.2.1 _ hp.n
  obtain ⟨⟨b1, b2, b3, -⟩, -⟩ := h.2.1 _ hq.n
  unfold f_mt; rw [h.co, h.co, a1, a2, a3, b1, b2, b3]
theorem f_ofg {n : Nat} (h : n < 2147483648) : (Int32.ofNat n).toInt = n ∧ (Int32.ofNat n).toNatClampNeg = n := by
  have e : (Int32.ofNat n).toInt = n := Int32.toInt_ofNat_of_lt (by omega)
  have c := g_clamp (Int32.ofNat n)
  exact ⟨e, by omega⟩
theorem VE.M {v w : qS} (h : VE v w) {W W' : mW} (hW : ∀ p q : Int32, t_in v p → t_in v q → W' p q = W p q) : f_M w W' = f_M v W := by
  have c := g_clamp (v.1 1247)
  have rg := g_rng (v.1 1247)
  unfold f_M
  rw [h.1.1]
  refine m_s2_cg (fun i j hi hj => ?_)
  have ei := f_ofg (n := i) (by omega)
  have ej := f_ofg (n := j) (by omega)
  have ti : t_in v (Int32.ofNat i) := ⟨by rw [ei.1]; omega, by rw [ei.1]; omega⟩
  have tj : t_in v (Int32.ofNat j) := ⟨by rw [ej.1]; omega, by rw [ej.1]; omega⟩
  unfold f_mg
  rw [hW _ _ ti tj]
  by_cases q : f_mt v (Int32.ofNat i) (Int32.ofNat j)
  · rw [if_pos q, if_pos ((h.mt ti tj).mpr q)]
  · rw [if_neg q, if_neg (fun z => q ((h.mt ti tj).mp z))]
theorem VE.R {v w : qS} (h : VE v w) {B L C Q : Nat → Int32} (hr : m_R v B (f_M v) L C Q) : m_R w B (f_M w) L C Q := by
  have b : ∀ p : Int32, t_in v p → w.2.1 1249 p.toNatClampNeg = v.2.1 1249 p.toNatClampNeg := fun p hp => (h.2.1 _ hp.n).1.2.1
  refine ⟨fun a a0 a1 => ?_, fun a c a0 a1 c0 c1 => ?_⟩
  · rw [h.M (W := w_S v B a) (W' := w_S w B a) (fun p q hp _ => by unfold w_S; rw [b p hp]), h.M (W := w_C v a) (W' := w_C w a) (fun p q hp _ => by unfold w_C; rw [b p hp])]
    exact hr.1 a a0 a1
  · rw [h.M (W := w_P v a c) (W' := w_P w a c) (fun p q hp hq => by unfold w_P; rw [b p hp, b q hq])]
    exact hr.2 a c a0 a1 c0 c1
theorem VE.ca {v w u : qS} (h : VE v w) (hc : t_ca v u) : t_ca w u := by
  refine ⟨h.c1 hc.1, ⟨hc.2.1.1, fun q => ?_⟩, hc.2.2⟩
  obtain ⟨q1, q2, B, a, b⟩ := hc.2.1.2 q
  exact ⟨q1, q2, B, a, h.R b⟩
