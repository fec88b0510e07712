/-! what the reference finds, as functions of what it keeps -/
def IK (k u : qS) : Prop := (∀ n ∈ [1230, 1231, 1232, 1239, 1242, 1247, 1256], u.1 n = k.1 n) ∧ (∀ n ∈ [1233, 1234, 1236, 1237, 1248, 1249, 1250, 1251, 1252, 1253, 1254, 1255, 1257, 1258, 1259], u.2.1 n = k.2.1 n)
theorem IK.rf {k : qS} : IK k k := ⟨fun _ _ => rfl, fun _ _ => rfl⟩
theorem IK.i {k u : qS} (h : IK k u) (n : Nat) (hn : n ∈ [1230, 1231, 1232, 1239, 1242, 1247, 1256]) : u.1 n = k.1 n := h.1 n hn
theorem IK.r {k u : qS} (h : IK k u) (n : Nat) (hn : n ∈ [1233, 1234, 1236, 1237, 1248, 1249, 1250, 1251, 1252, 1253, 1254, 1255, 1257, 1258, 1259]) : u.2.1 n = k.2.1 n := h.2 n hn
theorem IK.fr {M R G : List Nat} {k u v : qS} (h : IK k u) (hf : qFr M R G u v) (hM : ∀ n ∈ [1230, 1231, 1232, 1239, 1242, 1247, 1256], n ∉ M) (hR : ∀ n ∈ [1233, 1234, 1236, 1237, 1248, 1249, 1250, 1251, 1252, 1253, 1254, 1255, 1257, 1258, 1259], n ∉ R) : IK k v := ⟨fun n hn => (hf.1 n (hM n hn)).trans (h.1 n hn), fun n hn => (hf.2.1 n (hR n hn)).trans (h.2 n hn)⟩
def f_vd (k : qS) : Int32 := if 0 ≤ k.1 1231 then k.1 1231 else k.1 1230
def f_sn (k : qS) (v : Int32) : Prop := (0 ≤ v ∧ v < k.1 1247) ∧ k.2.1 1255 v.toNatClampNeg ≤ f_vd k
def f_fn (k : qS) (v : Int32) : Nat → Int32
  | 0 => k.2.1 1253 v.toNatClampNeg
  | n + 1 => if k.2.1 1257 n = v ∧ k.2.1 1259 n ≤ f_vd k then f_fn k v n ^^^ (1 <<< (k.2.1 1258 n &&& 31)) else f_fn k v n
def f_fm (k : qS) (v : Int32) : Int32 := f_fn k v (k.1 1256).toNatClampNeg
def f_al (k : qS) (v : Int32) : Prop := (k.2.1 1236 (k.2.1 1248 v.toNatClampNeg).toNatClampNeg ≤ k.2.1 1251 v.toNatClampNeg ∧ k.2.1 1251 v.toNatClampNeg + k.2.1 1252 v.toNatClampNeg - 1 ≤ k.2.1 1237 (k.2.1 1248 v.toNatClampNeg).toNatClampNeg) ∧ (k.2.1 1254 v.toNatClampNeg < 0 ∨ (k.2.1 1251 v.toNatClampNeg ≤ k.2.1 1254 v.toNatClampNeg ∧ k.2.1 1254 v.toNatClampNeg ≤ k.2.1 1251 v.toNatClampNeg + k.2.1 1252 v.toNatClampNeg - 1)) ∧ (f_fm k v &&& 1 = 1 ∨ f_fm k v = 0)
def f_wb (x y v w : Int32) : Int32 := (if v ≤ x then x - v else v - x) + (if w ≤ y then y - w else w - y)
def f_fs (k : qS) (a b : Int32) : Int32 := if k.2.1 1251 a.toNatClampNeg < k.2.1 1251 b.toNatClampNeg ∨ (k.2.1 1251 a.toNatClampNeg = k.2.1 1251 b.toNatClampNeg ∧ a < b) then a else b
def f_sc (k : qS) (a b : Int32) : Int32 := if f_fs k a b = a then b else a
def f_bo (k : qS) (a b : Int32) : Prop := k.2.1 1251 (f_fs k a b).toNatClampNeg + k.2.1 1252 (f_fs k a b).toNatClampNeg + k.1 1242 * f_wb (k.2.1 1233 (k.2.1 1248 a.toNatClampNeg).toNatClampNeg) (k.2.1 1234 (k.2.1 1248 a.toNatClampNeg).toNatClampNeg) (k.2.1 1233 (k.2.1 1248 b.toNatClampNeg).toNatClampNeg) (k.2.1 1234 (k.2.1 1248 b.toNatClampNeg).toNatClampNeg) ≤ k.2.1 1251 (f_sc k a b).toNatClampNeg
def f_dq (q : Nat → Int32) (x i j : Int32) : Prop := q (12 * i + j).toNatClampNeg = 0 ∨ ¬ (x >>> (i &&& 31)) &&& 1 = 0 ∨ ¬ (x >>> (j &&& 31)) &&& 1 = 0
def f_dd (th : Int32) (q : Nat → Int32) (x : Int32) : Prop := ∀ i j : Int32, 0 ≤ j → j < i → i < th → f_dq q x i j
def f_dj (th : Int32) (q : Nat → Int32) (x i : Int32) : Prop := ∀ j : Int32, 0 ≤ j → j < th → f_dq q x i j
theorem f_lt1 {j x : Int32} (hx : 0 ≤ x) (h1 : x < 100000) (h : j < x + 1) : j < x ∨ j = x := by
  have e : (x + 1).toInt = x.toInt + 1 := (g_up (Int32.le_iff_toInt_le.mp hx) (Int32.lt_iff_toInt_lt.mp h1)).1
  have q := Int32.lt_iff_toInt_lt.mp h
  rw [e] at q
  rcases Int.lt_or_le j.toInt x.toInt with a | a
  · exact Or.inl (Int32.lt_iff_toInt_lt.mpr a)
  · exact Or.inr (Int32.toInt_inj.mp (by omega))
theorem f_no {j : Int32} (h0 : 0 ≤ j) (h : j < 0) : False := absurd (Int32.lt_of_le_of_lt h0 h) Int32.lt_irrefl
theorem f_dj.nil {q : Nat → Int32} {x i : Int32} : f_dj 0 q x i := fun _ a b => (f_no a b).elim
theorem f_dd.nil {q : Nat → Int32} {x : Int32} : f_dd 0 q x := fun _ _ a b c => (f_no (Int32.le_of_lt (Int32.lt_of_le_of_lt a b)) c).elim
theorem f_dj.up {th : Int32} {q : Nat → Int32} {x i : Int32} (h : f_dj th q x i) (h0 : 0 ≤ th) (h1 : th < 100000) (hq : f_dq q x i th) : f_dj (th + 1) q x i := fun j a b => (f_lt1 h0 h1 b).elim (h j a) (fun e => e ▸ hq)
theorem f_dd.up {th m : Int32} {q : Nat → Int32} {x : Int32} (h : f_dd th q x) (h0 : 0 ≤ th) (h1 : th < 100000) (hq : f_dj m q x th) (hm : th ≤ m) : f_dd (th + 1) q x := fun i j a b c => (f_lt1 h0 h1 c).elim (h i j a b) (fun e => by subst e; exact hq j a (Int32.lt_of_lt_of_le b hm))
theorem f_dd.no {th i j : Int32} {q : Nat → Int32} {x : Int32} (a : 0 ≤ j) (b : j < i) (c : i < th) (h1 : ¬ q (12 * i + j).toNatClampNeg = 0) (h2 : (x >>> (i &&& 31)) &&& 1 = 0) (h3 : (x >>> (j &&& 31)) &&& 1 = 0) : ¬ f_dd th q x := fun h => by
  rcases h i j a b c with e | e | e
  · exact h1 e
  · exact e h2
  · exact e h3
theorem f_dd.to {th n : Int32} {q : Nat → Int32} {x : Int32} (h : f_dd n q x) (hn : th ≤ n) : f_dd th q x := fun i j a b c => h i j a b (Int32.lt_of_lt_of_le c hn)
