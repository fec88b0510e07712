/-! two states of the reference that say the same of the visits -/
def VE (v w : qS) : Prop := (w.1 1247 = v.1 1247 ∧ w.1 1256 = v.1 1256 ∧ w.1 1242 = v.1 1242) ∧
  (∀ i : Nat, i < (v.1 1247).toNatClampNeg → (w.2.1 1248 i = v.2.1 1248 i ∧ w.2.1 1249 i = v.2.1 1249 i ∧ w.2.1 1250 i = v.2.1 1250 i ∧ w.2.1 1251 i = v.2.1 1251 i ∧ w.2.1 1252 i = v.2.1 1252 i ∧ w.2.1 1253 i = v.2.1 1253 i ∧ w.2.1 1254 i = v.2.1 1254 i) ∧ (w.2.1 1255 i ≤ f_vd w ↔ v.2.1 1255 i ≤ f_vd v) ∧ (w.2.1 1233 (v.2.1 1248 i).toNatClampNeg = v.2.1 1233 (v.2.1 1248 i).toNatClampNeg ∧ w.2.1 1234 (v.2.1 1248 i).toNatClampNeg = v.2.1 1234 (v.2.1 1248 i).toNatClampNeg ∧ w.2.1 1236 (v.2.1 1248 i).toNatClampNeg = v.2.1 1236 (v.2.1 1248 i).toNatClampNeg ∧ w.2.1 1237 (v.2.1 1248 i).toNatClampNeg = v.2.1 1237 (v.2.1 1248 i).toNatClampNeg)) ∧
  (∀ j : Nat, j < (v.1 1256).toNatClampNeg → w.2.1 1257 j = v.2.1 1257 j ∧ w.2.1 1258 j = v.2.1 1258 j ∧ (w.2.1 1259 j ≤ f_vd w ↔ v.2.1 1259 j ≤ f_vd v))
theorem VE.fn {v w : qS} (h : VE v w) {x : Int32} (hx : t_in v x) : ∀ n : Nat, n ≤ (v.1 1256).toNatClampNeg → f_fn w x n = f_fn v x n
  | 0, _ => (h.2.1 _ hx.n).1.2.2.2.2.2.1
  | n + 1, hn => by
    obtain ⟨a, b, c⟩ := h.2.2 n hn
    have ih := VE.fn h hx n (by omega)
    show (if w.2.1 1257 n = x ∧ w.2.1 1259 n ≤ f_vd w then f_fn w x n ^^^ (1 <<< (w.2.1 1258 n &&& 31)) else f_fn w x n) = (if v.2.1 1257 n = x ∧ v.2.1 1259 n ≤ f_vd v then f_fn v x n ^^^ (1 <<< (v.2.1 1258 n &&& 31)) else f_fn v x n)
    rw [ih, a, b]
    by_cases q : v.2.1 1257 n = x ∧ v.2.1 1259 n ≤ f_vd v
    · rw [if_pos q, if_pos ⟨q.1, c.mpr q.2⟩]
    · rw [if_neg q, if_neg (fun z => q ⟨z.1, c.mp z.2⟩)]
theorem VE.fm {v w : qS} (h : VE v w) {x : Int32} (hx : t_in v x) : f_fm w x = f_fm v x := by
  unfold f_fm; rw [h.1.2.1]; exact h.fn hx _ (Nat.le_refl _)
theorem t_in.of {v : qS} {x : Int32} (h : 0 ≤ x ∧ x < v.1 1247) : t_in v x := ⟨Int32.le_iff_toInt_le.mp h.1, Int32.lt_iff_toInt_lt.mp h.2⟩
theorem VE.sn {v w : qS} (h : VE v w) {x : Int32} : f_sn w x ↔ f_sn v x := by
  unfold f_sn; rw [h.1.1]
  constructor
  · intro q; exact ⟨q.1, (h.2.1 _ (t_in.of q.1).n).2.1.mp q.2⟩
  · intro q; exact ⟨q.1, (h.2.1 _ (t_in.of q.1).n).2.1.mpr q.2⟩
theorem VE.al {v w : qS} (h : VE v w) {x : Int32} (hx : t_in v x) : f_al w x ↔ f_al v x := by
  obtain ⟨⟨a1, a2, a3, a4, a5, a6, a7⟩, -, b1, b2, b3, b4⟩ := h.2.1 _ hx.n
  unfold f_al; rw [a1, a4, a5, a7, b3, b4, h.fm hx]
theorem VE.bo {v w : qS} (h : VE v w) {x y : Int32} (hx : t_in v x) (hy : t_in v y) : f_bo w x y ↔ f_bo v x y := by
  obtain ⟨⟨a1, a2, a3, a4, a5, a6, a7⟩, -, b1, b2, b3, b4⟩ := h.2.1 _ hx.n
  obtain ⟨⟨c1, c2, c3, c4, c5, c6, c7⟩, -, d1, d2, d3, d4⟩ := h.2.1 _ hy.n
  have ef : f_fs w x y = f_fs v x y := by unfold f_fs; rw [a4, c4]
  have es : f_sc w x y = f_sc v x y := by unfold f_sc; rw [ef]
  have e1 : f_fs v x y = x ∨ f_fs v x y = y := by unfold f_fs; split; exact Or.inl rfl; exact Or.inr rfl
  have e2 : f_sc v x y = x ∨ f_sc v x y = y := by unfold f_sc; split; exact Or.inr rfl; exact Or.inl rfl
  unfold f_bo; rw [ef, es, h.1.2.2, a1, c1, b1, b2, d1, d2]
  rcases e1 with e | e <;> rcases e2 with f | f <;> rw [e, f]
  · rw [a4, a5]
  · rw [a4, a5, c4]
  · rw [c4, c5, a4]
  · rw [c4, c5]
theorem VE.gp {v w : qS} (h : VE v w) (b d : Int32) : f_gp w b d = f_gp v b d := funext (fun x => propext (by
  unfold f_gp; rw [h.sn]
  constructor
  · rintro ⟨s, q1, q2, q3⟩
    have hx := t_in.of s.1
    obtain ⟨⟨a1, a2, a3, -⟩, -⟩ := h.2.1 _ hx.n
    exact ⟨s, by rw [← a2]; exact q1, by rw [← a3]; exact q2, (h.al hx).mp q3⟩
  · rintro ⟨s, q1, q2, q3⟩
    have hx := t_in.of s.1
    obtain ⟨⟨a1, a2, a3, -⟩, -⟩ := h.2.1 _ hx.n
    exact ⟨s, by rw [a2]; exact q1, by rw [a3]; exact q2, (h.al hx).mpr q3⟩))
theorem VE.D {v w : qS} (h : VE v w) (b d : Int32) : f_D w b d = f_D v b d := funext (fun x => propext (by
  unfold f_D; rw [h.gp b d]
  constructor
  · intro q a c ha hc hl
    rcases q a c ha hc hl with z | z
    · exact Or.inl ((h.bo ha.t hc.t).mp z)
    · exact Or.inr z
  · intro q a c ha hc hl
    rcases q a c ha hc hl with z | z
    · exact Or.inl ((h.bo ha.t hc.t).mpr z)
    · exact Or.inr z))
theorem VE.all {v w : qS} (h : VE v w) (b d : Int32) : f_all w b d = f_all v b d := by
  have et : f_th w b d = f_th v b d := by unfold f_th; rw [h.gp b d, h.1.1]
  unfold f_all; rw [et, h.D b d]
theorem VE.st {v w : qS} (h : VE v w) (b d x : Int32) : f_st w b d x = f_st v b d x := by
  unfold f_st; rw [h.all b d, h.gp b d]
theorem VE.fin {v w : qS} (h : VE v w) {x : Int32} (hx : t_in v x) : f_fin w x = f_fin v x := by
  obtain ⟨⟨a1, a2, a3, -⟩, -⟩ := h.2.1 _ hx.n
  unfold f_fin
  by_cases q : f_al v x
  · rw [if_pos q, if_pos ((h.al hx).mpr q), h.st, a2, a3]
  · rw [if_neg q, if_neg (fun z => q ((h.al hx).mp z))]
theorem VE.fi {v w : qS} (h : VE v w) {S : Nat → Int32} (hs : f_fi v S) : f_fi w S := fun x hx => by
  have hv := h.sn.mp hx
  rw [h.fin (t_in.of hv.1)]; exact hs x hv
theorem VE.c1 {v w u : qS} (h : VE v w) (hc : t_c1 v u) : t_c1 w u := ⟨hc.1, fun e => by
  obtain ⟨S, a, b⟩ := hc.2 e
  exact ⟨S, a, h.fi b⟩⟩
/-- all that is kept is the same -/
theorem VE.ik {v w : qS} (h : IK v w) : VE v w := by
  have e : f_vd w = f_vd v := by unfold f_vd; rw [h.i 1230 (by decide), h.i 1231 (by decide)]
  refine ⟨⟨h.i 1247 (by decide), h.i 1256 (by decide), h.i 1242 (by decide)⟩, fun i _ => ?_, fun j _ => ?_⟩
  · rw [e, h.r 1248 (by decide), h.r 1249 (by decide), h.r 1250 (by decide), h.r 1251 (by decide), h.r 1252 (by decide), h.r 1253 (by decide), h.r 1254 (by decide), h.r 1255 (by decide), h.r 1233 (by decide), h.r 1234 (by decide), h.r 1236 (by decide), h.r 1237 (by decide)]
    exact ⟨⟨rfl, rfl, rfl, rfl, rfl, rfl, rfl⟩, Iff.rfl, rfl, rfl, rfl, rfl⟩
  · rw [e, h.r 1257 (by decide), h.r 1258 (by decide), h.r 1259 (by decide)]
    exact ⟨rfl, rfl, Iff.rfl⟩
