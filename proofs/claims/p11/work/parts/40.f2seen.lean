/-! what a visit's form is seen as -/
def c_se (a b : Int32) : Int32 := if a = -1 then b else a
def c_tw (a it tl : Nat → Int32) (vd : Int32) (S : Nat → Int32) (n : Nat) : Nat → Int32 := if tl n ≤ vd then upd S (a n).toNatClampNeg (S (a n).toNatClampNeg ^^^ ((1 : Int32) <<< (it n &&& 31))) else S
def c_fn (a it tl : Nat → Int32) (vd : Int32) (F : Nat → Int32) (i : Nat) : Nat → Int32
  | 0 => F i
  | n + 1 => if (a n).toNatClampNeg = i ∧ tl n ≤ vd then c_fn a it tl vd F i n ^^^ ((1 : Int32) <<< (it n &&& 31)) else c_fn a it tl vd F i n
def c_fa (a it tl : Nat → Int32) (vd : Int32) (F S : Nat → Int32) (n m : Nat) : Prop := ∀ i : Nat, i < n → S i = c_fn a it tl vd F i m
theorem c_fa.up {a it tl : Nat → Int32} {vd : Int32} {F S T : Nat → Int32} {n m : Nat} (h : c_fa a it tl vd F S n m) (e : T = c_tw a it tl vd S m) : c_fa a it tl vd F T n (m + 1) := fun i hi => by
  subst e
  show c_tw a it tl vd S m i = if (a m).toNatClampNeg = i ∧ tl m ≤ vd then _ else _
  unfold c_tw
  by_cases q : tl m ≤ vd
  · rw [if_pos q]
    by_cases w : (a m).toNatClampNeg = i
    · subst w; rw [pk_us, if_pos ⟨rfl, q⟩, h _ hi]
    · rw [pk_un (fun z => w z.symm), if_neg (fun z => w z.1)]; exact h i hi
  · rw [if_neg q, if_neg (fun z => q z.2)]; exact h i hi
