/-! what holds of the reference between its calls -/
/-- how many of the first n are of this buyer and this day -/
def g_ct (f g : Nat → Int32) (b d : Int32) : Nat → Nat
  | 0 => 0
  | n + 1 => g_ct f g b d n + (if f n = b ∧ g n = d then 1 else 0)
theorem g_ct_le (f g : Nat → Int32) (b d : Int32) : ∀ n, g_ct f g b d n ≤ n
  | 0 => Nat.le_refl _
  | n + 1 => by
    have := g_ct_le f g b d n
    show g_ct f g b d n + (if f n = b ∧ g n = d then 1 else 0) ≤ n + 1
    split <;> omega
/-- n steps of a brief's code, from the place p and a pile of h: then its end -/
def g_gc (op one : Nat → Int32) : Nat → Nat → Nat → Prop
  | 0, p, h => op p = 0 ∧ 1 ≤ h
  | n + 1, p, h => ((1 ≤ op p ∧ op p ≤ 4) ∧ (op p = 2 → 0 ≤ one p ∧ one p < 6) ∧ (op p = 3 → 0 ≤ one p ∧ one p < 8) ∧ g_gc op one n (p + 1) (h + 1))
      ∨ (op p = 5 ∧ 1 ≤ h ∧ g_gc op one n (p + 1) h)
      ∨ (6 ≤ op p ∧ 2 ≤ h ∧ g_gc op one n (p + 1) (h - 1))
def g_gf (op one : Nat → Int32) (x : Int32) : Prop := 0 ≤ x ∧ ∃ n : Nat, x.toNatClampNeg + n < 20400 ∧ n < 1200 ∧ g_gc op one n x.toNatClampNeg 0
/-- how many of the n lines from p on are of kind 0 -/
def g_lets (k : Nat → Int32) (p : Nat) : Nat → Nat
  | 0 => 0
  | n + 1 => g_lets k p n + (if k (p + n) = 0 then 1 else 0)
/-- the kept briefs can be worked -/
def g_BW (u : qS) : Prop := ∀ b : Int32, 0 ≤ b → b < u.1 1210 → (0 ≤ u.2.1 1214 b.toNatClampNeg ∧ u.2.1 1214 b.toNatClampNeg ≤ 16) ∧ g_lets (u.2.1 1215) (16 * b.toNatClampNeg) (u.2.1 1214 b.toNatClampNeg).toNatClampNeg ≤ 8 ∧
  ∀ k : Nat, k < (u.2.1 1214 b.toNatClampNeg).toNatClampNeg →
    (u.2.1 1215 (16 * b.toNatClampNeg + k) ≠ 3 → g_gf (u.2.1 1222) (u.2.1 1223) (u.2.1 1217 (16 * b.toNatClampNeg + k))) ∧
    (u.2.1 1215 (16 * b.toNatClampNeg + k) ≠ 0 → u.2.1 1215 (16 * b.toNatClampNeg + k) ≠ 2 → g_gf (u.2.1 1222) (u.2.1 1223) (u.2.1 1218 (16 * b.toNatClampNeg + k)))
/-- the numbers -/
def IN (u : qS) : Prop := (0 ≤ u.1 1202 ∧ u.1 1202 ≤ 1000) ∧ (0 ≤ u.1 1210 ∧ u.1 1210 ≤ 16) ∧ (0 ≤ u.1 1230 ∧ u.1 1230 ≤ 9999) ∧ (0 ≤ u.1 1232 ∧ u.1 1232 ≤ 20) ∧ (0 ≤ u.1 1239 ∧ u.1 1239 ≤ 8) ∧ (0 ≤ u.1 1244 ∧ u.1 1244 ≤ 1000) ∧ (0 ≤ u.1 1247 ∧ u.1 1247 ≤ 120) ∧ (0 ≤ u.1 1256 ∧ u.1 1256 ≤ 60)
theorem IN.s1202 {u : qS} (h : IN u) : 0 ≤ u.1 1202 ∧ u.1 1202 ≤ 1000 := h.1
theorem IN.s1210 {u : qS} (h : IN u) : 0 ≤ u.1 1210 ∧ u.1 1210 ≤ 16 := h.2.1
theorem IN.s1230 {u : qS} (h : IN u) : 0 ≤ u.1 1230 ∧ u.1 1230 ≤ 9999 := h.2.2.1
theorem IN.s1232 {u : qS} (h : IN u) : 0 ≤ u.1 1232 ∧ u.1 1232 ≤ 20 := h.2.2.2.1
theorem IN.s1239 {u : qS} (h : IN u) : 0 ≤ u.1 1239 ∧ u.1 1239 ≤ 8 := h.2.2.2.2.1
theorem IN.s1244 {u : qS} (h : IN u) : 0 ≤ u.1 1244 ∧ u.1 1244 ≤ 1000 := h.2.2.2.2.2.1
theorem IN.s1247 {u : qS} (h : IN u) : 0 ≤ u.1 1247 ∧ u.1 1247 ≤ 120 := h.2.2.2.2.2.2.1
theorem IN.s1256 {u : qS} (h : IN u) : 0 ≤ u.1 1256 ∧ u.1 1256 ≤ 60 := h.2.2.2.2.2.2.2
/-- the rows of visits and appeals -/
def IV (u : qS) : Prop := (∀ i : Int32, 0 ≤ i → i < u.1 1247 → (0 ≤ u.2.1 1248 i.toNatClampNeg ∧ u.2.1 1248 i.toNatClampNeg < u.1 1232) ∧ (0 ≤ u.2.1 1249 i.toNatClampNeg ∧ u.2.1 1249 i.toNatClampNeg < u.1 1239)) ∧
  (∀ i : Int32, 0 ≤ i → i < u.1 1256 → 0 ≤ u.2.1 1257 i.toNatClampNeg ∧ u.2.1 1257 i.toNatClampNeg < u.1 1247) ∧
  (∀ b d : Int32, g_ct (u.2.1 1249) (u.2.1 1250) b d (u.1 1247).toNatClampNeg ≤ 12)
theorem IV.r1248 {u : qS} (h : IV u) (i : Int32) (hi : 0 ≤ i ∧ i < u.1 1247) : 0 ≤ u.2.1 1248 i.toNatClampNeg ∧ u.2.1 1248 i.toNatClampNeg < u.1 1232 := (h.1 i hi.1 hi.2).1
theorem IV.r1249 {u : qS} (h : IV u) (i : Int32) (hi : 0 ≤ i ∧ i < u.1 1247) : 0 ≤ u.2.1 1249 i.toNatClampNeg ∧ u.2.1 1249 i.toNatClampNeg < u.1 1239 := (h.1 i hi.1 hi.2).2
theorem IV.r1257 {u : qS} (h : IV u) (i : Int32) (hi : 0 ≤ i ∧ i < u.1 1256) : 0 ≤ u.2.1 1257 i.toNatClampNeg ∧ u.2.1 1257 i.toNatClampNeg < u.1 1247 := h.2.1 i hi.1 hi.2
def IW (u : qS) : Prop := (∀ k : Int32, 0 ≤ k → k < 8 → u.2.1 1276 k.toNatClampNeg = Int32.ofNat (3 ^ k.toNatClampNeg))
def IM (u : qS) : Prop := IN u ∧ IV u ∧ g_BW u ∧ IW u
theorem IN.fr {M R G : List Nat} {u v : qS} (h : IN u) (hf : qFr M R G u v) (hM : ∀ n ∈ [1202, 1210, 1230, 1232, 1239, 1244, 1247, 1256], n ∉ M) : IN v := by
  unfold IN at *
  rw [hf.1 1202 (hM _ (by decide)), hf.1 1210 (hM _ (by decide)), hf.1 1230 (hM _ (by decide)), hf.1 1232 (hM _ (by decide)), hf.1 1239 (hM _ (by decide)), hf.1 1244 (hM _ (by decide)), hf.1 1247 (hM _ (by decide)), hf.1 1256 (hM _ (by decide))]
  exact h
theorem IV.fr {M R G : List Nat} {u v : qS} (h : IV u) (hf : qFr M R G u v) (hM : ∀ n ∈ [1232, 1239, 1247, 1256], n ∉ M) (hR : ∀ n ∈ [1248, 1249, 1250, 1257], n ∉ R) : IV v := by
  unfold IV at *
  rw [hf.1 1232 (hM _ (by decide)), hf.1 1239 (hM _ (by decide)), hf.1 1247 (hM _ (by decide)), hf.1 1256 (hM _ (by decide)), hf.2.1 1248 (hR _ (by decide)), hf.2.1 1249 (hR _ (by decide)), hf.2.1 1250 (hR _ (by decide)), hf.2.1 1257 (hR _ (by decide))]
  exact h
theorem g_BW.fr {M R G : List Nat} {u v : qS} (h : g_BW u) (hf : qFr M R G u v) (hM : 1210 ∉ M) (hR : ∀ n ∈ [1214, 1215, 1217, 1218, 1222, 1223], n ∉ R) : g_BW v := by
  unfold g_BW at *
  rw [hf.1 1210 hM, hf.2.1 1214 (hR _ (by decide)), hf.2.1 1215 (hR _ (by decide)), hf.2.1 1217 (hR _ (by decide)), hf.2.1 1218 (hR _ (by decide)), hf.2.1 1222 (hR _ (by decide)), hf.2.1 1223 (hR _ (by decide))]
  exact h
theorem IW.fr {M R G : List Nat} {u v : qS} (h : IW u) (hf : qFr M R G u v) (hR : 1276 ∉ R) : IW v := by
  unfold IW at *
  rw [hf.2.1 1276 hR]
  exact h
theorem IM.fr {M R G : List Nat} {u v : qS} (h : IM u) (hf : qFr M R G u v) (hM : ∀ n ∈ [1202, 1210, 1230, 1232, 1239, 1244, 1247, 1256], n ∉ M) (hR : ∀ n ∈ [1214, 1215, 1217, 1218, 1222, 1223, 1248, 1249, 1250, 1257, 1276], n ∉ R) : IM v :=
  ⟨h.1.fr hf hM, h.2.1.fr hf (fun n hn => hM n (by revert n; decide)) (fun n hn => hR n (by revert n; decide)), h.2.2.1.fr hf (hM _ (by decide)) (fun n hn => hR n (by revert n; decide)), h.2.2.2.fr hf (hR _ (by decide))⟩
