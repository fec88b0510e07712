/-! tapes that are the same up to their ends -/
section ZCG
variable {f g : Nat → Int32} {n : Nat}
theorem x_run.cg {P : Int32 → Prop} {i j : Nat} (h : ∀ l, l < n → f l = g l) (r : x_run P f n i j) : x_run P g n i j := by
  obtain ⟨a, b, c⟩ := r
  refine ⟨a, fun l l1 l2 => ?_, ?_⟩
  · have q := b l l1 l2
    rw [h l (by omega)] at q; exact q
  · rcases Nat.lt_or_ge j n with z | z
    · rcases c with c | c
      · exact Or.inl c
      · rw [h j z] at c; exact Or.inr c
    · exact Or.inl z
theorem x_to.cg {P : Int32 → Prop} {i : Nat} (h : ∀ l, l < n → f l = g l) : x_to P f n i = x_to P g n i := x_to.eq ((x_to.run P g n i).cg (fun l hl => (h l hl).symm))
theorem x_E.cg {p : Nat} (h : ∀ l, l < n → f l = g l) : x_E f n p = x_E g n p := by
  by_cases e : n ≤ p
  · rw [x_E.end e, x_E.end e]
  · have q := h p (by omega)
    by_cases l : x_le (f p)
    · rw [x_E.le (by omega) l, x_E.le (by omega) (by rw [← q]; exact l), x_to.cg h]
    · by_cases d : x_di (f p)
      · rw [x_E.di (by omega) l d, x_E.di (by omega) (by rw [← q]; exact l) (by rw [← q]; exact d), x_to.cg h]
      · rw [x_E.one (by omega) l d, x_E.one (by omega) (by rw [← q]; exact l) (by rw [← q]; exact d)]
theorem x_T.cg (h : ∀ l, l < n → f l = g l) : ∀ i : Nat, x_T f n i = x_T g n i
  | 0 => x_to.cg h
  | i + 1 => by
    show x_to x_bl f n (x_E f n (x_T f n i)) = x_to x_bl g n (x_E g n (x_T g n i))
    rw [x_T.cg h i, x_E.cg h, x_to.cg h]
theorem x_ls.cg {p : Nat} (h : ∀ l, l < n → f l = g l) : ∀ d : Nat, p + d ≤ n → x_ls f p d = x_ls g p d
  | 0, _ => rfl
  | d + 1, q => by
    show f (p + d) :: x_ls f p d = g (p + d) :: x_ls g p d
    rw [h (p + d) (by omega), x_ls.cg h d (by omega)]
theorem z_d.cg (h : ∀ l, l < n → f l = g l) (i : Nat) : z_d f n i = z_d g n i := by unfold z_d; rw [x_T.cg h, x_E.cg h]
theorem z_W.cg (h : ∀ l, l < n → f l = g l) (i : Nat) : z_W f n i = z_W g n i := by
  unfold z_W
  rw [← z_d.cg h, ← x_T.cg h i]
  refine x_ls.cg h _ ?_
  have b := x_E.bd (f := f) (n := n) (p := x_T f n i) (x_T.bd i)
  unfold z_d
  omega
theorem z_K.cg (h : ∀ l, l < n → f l = g l) (i : Nat) : z_K f n i = z_K g n i := by
  have t := x_T.cg h i
  by_cases e : n ≤ x_T f n i
  · rw [z_K.end e, z_K.end (by rw [← t]; exact e)]
  · have q : f (x_T f n i) = g (x_T g n i) := by rw [← t]; exact h _ (by omega)
    by_cases l : x_le (f (x_T f n i))
    · rw [z_K.le (by omega) l, z_K.le (by omega) (by rw [← q]; exact l), z_d.cg h, z_W.cg h]
    · by_cases d : x_di (f (x_T f n i))
      · rw [z_K.di (by omega) l d, z_K.di (by omega) (by rw [← q]; exact l) (by rw [← q]; exact d), z_d.cg h]
      · rw [z_K.one (by omega) l d, z_K.one (by omega) (by rw [← q]; exact l) (by rw [← q]; exact d), q]
theorem z_T.cg (h : ∀ l, l < n → f l = g l) : z_T f n = z_T g n := by
  have a : z_K f n = z_K g n := funext (z_K.cg h)
  have c : z_W f n = z_W g n := funext (z_W.cg h)
  have b : z_N f n = z_N g n := funext fun i => by unfold z_N; rw [z_W.cg h]
  have d : z_PL f n = z_PL g n := funext fun i => by unfold z_PL; rw [x_T.cg h]
  unfold z_T
  rw [a, b, c, d]
end ZCG
