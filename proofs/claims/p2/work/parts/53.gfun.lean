/-! what the reference finds, as functions of what it keeps -/
def IK (k u : qS) : Prop := (∀ n ∈ [1230, 1231, 1232, 1239, 1242, 1247, 1256], u.1 n = k.1 n) ∧ (∀ n ∈ [1233, 1234, 1236, 1237, 1248, 1249, 1250, 1251, 1252, 1253, 1254, 1255, 1257, 1258, 1259], u.2.1 n = k.2.1 n)
theorem IK.rf {k : qS} : IK k k := ⟨fun _ _ => rfl, fun _ _ => rfl⟩
theorem IK.i {k u : qS} (h : IK k u) (n : Nat) (hn : n ∈ [1230, 1231, 1232, 1239, 1242, 1247, 1256]) : u.1 n = k.1 n := h.1 n hn
theorem IK.r {k u : qS} (h : IK k u) (n : Nat) (hn : n ∈ [1233, 1234, 1236, 1237, 1248, 1249, 1250, 1251, 1252, 1253, 1254, 1255, 1257, 1258, 1259]) : u.2.1 n = k.2.1 n := h.2 n hn
theorem IK.fr {M R G : List Nat} {k u v : qS} (h : IK k u) (hf : qFr M R G u v) (hM : ∀ n ∈ [1230, 1231, 1232, 1239, 1242, 1247, 1256], n ∉ M) (hR : ∀ n ∈ [1233, 1234, 1236, 1237, 1248, 1249, 1250, 1251, 1252, 1253, 1254, 1255, 1257, 1258, 1259], n ∉ R) : IK k v := ⟨fun n hn => (hf.1 n (hM n hn)).trans (h.1 n hn), fun n hn => (hf.2.1 n (hR n hn)).trans (h.2 n hn)⟩
def f_vd (k : qS) : Int32 := if 0 ≤ k.1 1231 then k.1 1231 else k.1 1230
def f_sn (k : qS) (v : Int32) : Prop := (0 ≤ v ∧ v < k.1 1247) ∧ k.2.1 1255 v.toNatClampNeg ≤ f_vd k
def f_fn (k : qS) (v : Int32) : Nat → Int32
  | 0 => k.2.1 1253 v.toNatClampNeg
  | n + 1 => if k.2.1 1257 n = v ∧ k.2.1 1259 n ≤ f_vd k then f_fn k v n ^^^ (1 <<< (k.2.1 1258 n &&& 31)) else f_fn k v n
def f_fm (k : qS) (v : Int32) : Int32 := f_fn k v (k.1 1256).toNatClampNeg
def f_al (k : qS) (v : Int32) : Prop := (k.2.1 1236 (k.2.1 1248 v.toNatClampNeg).toNatClampNeg ≤ k.2.1 1251 v.toNatClampNeg ∧ k.2.1 1251 v.toNatClampNeg + k.2.1 1252 v.toNatClampNeg - 1 ≤ k.2.1 1237 (k.2.1 1248 v.toNatClampNeg).toNatClampNeg) ∧ (k.2.1 1254 v.toNatClampNeg < 0 ∨ (k.2.1 1251 v.toNatClampNeg ≤ k.2.1 1254 v.toNatClampNeg ∧ k.2.1 1254 v.toNatClampNeg ≤ k.2.1 1251 v.toNatClampNeg + k.2.1 1252 v.toNatClampNeg - 1)) ∧ (f_fm k v &&& 1 = 1 ∨ f_fm k v = 0)
def f_wb (x y v w : Int32) : Int32 := (if v ≤ x then x - v else v - x) + (if w ≤ y then y - w else w - y)
def f_fs (k : qS) (a b : Int32) : Int32 := if k.2.1 1251 a.toNatClampNeg < k.2.1 1251 b.toNatClampNeg ∨ (k.2.1 1251 a.toNatClampNeg = k.2.1 1251 b.toNatClampNeg ∧ a < b) then a else b
def f_sc (k : qS) (a b : Int32) : Int32 := if f_fs k a b = a then b else a
def f_bo (k : qS) (a b : Int32) : Prop := k.2.1 1251 (f_fs k a b).toNatClampNeg + k.2.1 1252 (f_fs k a b).toNatClampNeg + k.1 1242 * f_wb (k.2.1 1233 (k.2.1 1248 a.toNatClampNeg).toNatClampNeg) (k.2.1 1234 (k.2.1 1248 a.toNatClampNeg).toNatClampNeg) (k.2.1 1233 (k.2.1 1248 b.toNatClampNeg).toNatClampNeg) (k.2.1 1234 (k.2.1 1248 b.toNatClampNeg).toNatClampNeg) ≤ k.2.1 1251 (f_sc k a b).toNatClampNeg
