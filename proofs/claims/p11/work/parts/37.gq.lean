/-! lines: what is wanted besides -/
theorem z_Hn.no2 {f : Nat → Int32} {n m : Nat} {G : Nat → List Int32} {Z : zS} {nm : Nat → Int64} {cn e : Int32} (h : ¬ e ≤ 0) : z_Hn f n G m Z nm cn e := fun q => absurd (by rw [q]; decide) h
theorem z_next.f0 {Z : zS} (h : Z.2.1 = 0) : (z_next Z).2.1 = 0 := h
