/-! who may go: the reference's answer as a function of what it keeps -/
def f_fa (d e : Int32) : Int32 := if e ≤ d then d - e else e - d
def f_tn (k : qS) (i : Nat) (s d : Int32) : Prop := (k.2.1 1248 i = s ∧ f_fa (k.2.1 1250 i) d < k.1 1245) ∨ (k.2.1 1235 (k.2.1 1248 i).toNatClampNeg = k.2.1 1235 s.toNatClampNeg ∧ ¬ k.1 1245 / 4 ≤ f_fa (k.2.1 1250 i) d)
def f_bd (k : qS) (i : Nat) (b s d : Int32) : Prop := k.2.1 1249 i = b ∧ k.2.1 1255 i ≤ f_vd k ∧ f_tn k i s d
def f_na (k : qS) (n : Nat) (b s d : Int32) : Prop := ∀ i : Nat, i < n → ¬ f_bd k i b s d
theorem f_na.nil {k : qS} {b s d : Int32} : f_na k 0 b s d := fun _ h => absurd h (Nat.not_lt_zero _)
theorem f_na.up {k : qS} {n : Nat} {b s d : Int32} (h : f_na k n b s d) (hn : ¬ f_bd k n b s d) : f_na k (n + 1) b s d := fun i hi => by
  rcases Nat.lt_or_ge i n with q | q
  · exact h i q
  · have e : i = n := by omega
    subst e; exact hn
def f_mgo (k : qS) (b s d : Int32) : Prop := f_wb (k.2.1 1240 b.toNatClampNeg) (k.2.1 1241 b.toNatClampNeg) (k.2.1 1233 s.toNatClampNeg) (k.2.1 1234 s.toNatClampNeg) ≤ k.1 1246 ∧ f_na k (k.1 1247).toNatClampNeg b s d
/-- what the loop knows -/
def f_lp (k : qS) (z : Int32) (n : Nat) (b s d : Int32) : Prop := (z = 1 ∧ f_wb (k.2.1 1240 b.toNatClampNeg) (k.2.1 1241 b.toNatClampNeg) (k.2.1 1233 s.toNatClampNeg) (k.2.1 1234 s.toNatClampNeg) ≤ k.1 1246 ∧ f_na k n b s d) ∨ (z = 0 ∧ ¬ f_mgo k b s d)
theorem f_lp.go {k : qS} {z : Int32} {n : Nat} {b s d : Int32} (h : f_lp k z n b s d) (hz : ¬ z = 0) (hn : ¬ f_bd k n b s d) : f_lp k 1 (n + 1) b s d := by
  rcases h with h | h
  · exact Or.inl ⟨rfl, h.2.1, h.2.2.up hn⟩
  · exact absurd h.1 hz
theorem f_lp.no {k : qS} {n m : Nat} {b s d : Int32} (hn : f_bd k n b s d) (h : n < (k.1 1247).toNatClampNeg) : f_lp k 0 m b s d := Or.inr ⟨rfl, fun q => q.2 n h hn⟩
