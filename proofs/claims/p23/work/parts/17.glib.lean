/-! general contracts: what a method leaves as it was; numbers of 32 bits by their integers -/
theorem g_rng (x : Int32) : -2147483648 ≤ x.toInt ∧ x.toInt < 2147483648 := ⟨Int32.le_toInt x, Int32.toInt_lt x⟩
theorem g_bmod {z : Int} (h1 : -2147483648 ≤ z) (h2 : z < 2147483648) : z.bmod (2 ^ 32) = z := Int.bmod_eq_of_le (by omega) (by omega)
theorem g_bm (z : Int) : z.bmod (2 ^ 32) = (z + 2147483648) % 4294967296 - 2147483648 := by
  rw [Int.bmod_def]; split <;> omega
theorem g_bm' (z : Int) : z.bmod 4294967296 = (z + 2147483648) % 4294967296 - 2147483648 := g_bm z
theorem g_add {x y : Int32} (h1 : -2147483648 ≤ x.toInt + y.toInt) (h2 : x.toInt + y.toInt < 2147483648) : (x + y).toInt = x.toInt + y.toInt := by
  rw [Int32.toInt_add]; exact g_bmod h1 h2
theorem g_sub {x y : Int32} (h1 : -2147483648 ≤ x.toInt - y.toInt) (h2 : x.toInt - y.toInt < 2147483648) : (x - y).toInt = x.toInt - y.toInt := by
  rw [Int32.toInt_sub]; exact g_bmod h1 h2
theorem g_mul {x y : Int32} (h1 : -2147483648 ≤ x.toInt * y.toInt) (h2 : x.toInt * y.toInt < 2147483648) : (x * y).toInt = x.toInt * y.toInt := by
  rw [Int32.toInt_mul]; exact g_bmod h1 h2
theorem g_m1 : (-1 : Int32).toInt = -1 := rfl
theorem g_clamp (x : Int32) : x.toNatClampNeg = x.toInt.toNat := rfl
theorem g_in {i : Int32} {n : Nat} (h0 : 0 ≤ i.toInt) (h1 : i.toInt < n) : vp_in i n := fun h => by
  rcases h with h | h
  · have := Int32.lt_iff_toInt_lt.mp h
    have e : (0 : Int32).toInt = 0 := rfl
    omega
  · rw [g_clamp] at h; omega
theorem g_inj {i j : Int32} (hi : 0 ≤ i.toInt) (hj : 0 ≤ j.toInt) (h : i.toNatClampNeg = j.toNatClampNeg) : i = j := by
  rw [g_clamp, g_clamp] at h
  exact Int32.toInt_inj.mp (by omega)
/-- all but the named numbers, rows and rows of longs is as it was -/
def qFr (M R G : List Nat) (u v : qS) : Prop := (∀ n, n ∉ M → v.1 n = u.1 n) ∧ (∀ n, n ∉ R → v.2.1 n = u.2.1 n) ∧ (∀ n, n ∉ G → v.2.2.1 n = u.2.2.1 n) ∧ v.2.2.2 = u.2.2.2
theorem qFr.rf {M R G : List Nat} {u : qS} : qFr M R G u u := ⟨fun _ _ => rfl, fun _ _ => rfl, fun _ _ => rfl, rfl⟩
theorem qFr.trans {M R G : List Nat} {u v w : qS} (h : qFr M R G u v) (k : qFr M R G v w) : qFr M R G u w := ⟨fun n hn => (k.1 n hn).trans (h.1 n hn), fun n hn => (k.2.1 n hn).trans (h.2.1 n hn), fun n hn => (k.2.2.1 n hn).trans (h.2.2.1 n hn), k.2.2.2.trans h.2.2.2⟩
theorem qFr.mono {M R G M' R' G' : List Nat} {u v : qS} (h : qFr M R G u v) (h1 : ∀ n ∈ M, n ∈ M') (h2 : ∀ n ∈ R, n ∈ R') (h3 : ∀ n ∈ G, n ∈ G') : qFr M' R' G' u v := ⟨fun n hn => h.1 n (fun q => hn (h1 n q)), fun n hn => h.2.1 n (fun q => hn (h2 n q)), fun n hn => h.2.2.1 n (fun q => hn (h3 n q)), h.2.2.2⟩
theorem qFr.setI {M R G : List Nat} {u v : qS} (h : qFr M R G u v) {n : Nat} {x : Int32} (hn : n ∈ M) : qFr M R G u (qsI v n x) := ⟨fun k hk => (show upd v.1 n x k = u.1 k by rw [pk_un (fun e => hk (by rw [e]; exact hn))]; exact h.1 k hk), h.2.1, h.2.2.1, h.2.2.2⟩
theorem qFr.setF {M R G : List Nat} {u v : qS} (h : qFr M R G u v) {n : Nat} {f : Nat → Int32} (hn : n ∈ R) : qFr M R G u (qsF v n f) := ⟨h.1, fun k hk => (show (if k = n then f else v.2.1 k) = u.2.1 k by rw [if_neg (fun e : k = n => hk (by rw [e]; exact hn))]; exact h.2.1 k hk), h.2.2.1, h.2.2.2⟩
theorem qFr.setG {M R G : List Nat} {u v : qS} (h : qFr M R G u v) {n : Nat} {f : Nat → Int64} (hn : n ∈ G) : qFr M R G u (qsG v n f) := ⟨h.1, h.2.1, fun k hk => (show (if k = n then f else v.2.2.1 k) = u.2.2.1 k by rw [if_neg (fun e : k = n => hk (by rw [e]; exact hn))]; exact h.2.2.1 k hk), h.2.2.2⟩
theorem g_nar {x : Int32} (h : x = 1 ∨ x = 0) : narrow .boolean (.int x) = .int x := by
  rcases h with rfl | rfl <;> decide
