/-! a word, a number of the class's tape, sign by sign -/
def z_sw (f : Nat → Int32) (p q : Nat) (w : Int64) : Prop := p ≤ q ∧ (∀ l, p ≤ l → l < q → x_le (f l)) ∧ w = z_cw (x_ls f p (q - p))
def z_sn (f : Nat → Int32) (p q : Nat) (w : Int32) : Prop := p ≤ q ∧ (∀ l, p ≤ l → l < q → x_di (f l)) ∧ w = Int32.ofNat (x_nb 10 48 (x_ls f p (q - p)))
section ZSW
variable {f g : Nat → Int32} {p n i : Nat} {a a0 b s1 r : Int32} {w w' : Int64} {v : Int32}
theorem z_sw.none (h : a.toInt = (p : Nat)) (hw : w = 0) : z_sw f p a.toNatClampNeg w := by
  have e : a.toNatClampNeg = p := by rw [g_clamp]; omega
  refine ⟨by omega, fun l l1 l2 => absurd l2 (by omega), ?_⟩
  rw [e, Nat.sub_self, hw]
  try rfl
theorem z_sw.go (h : z_sw f p a.toNatClampNeg w) (ht : g = f ∧ s1.toInt = n) (hl : 97 ≤ g a.toNatClampNeg ∧ g a.toNatClampNeg ≤ 122) (hw : w' = (w <<< ((8 : Int32).toInt64 &&& 63)) ||| (g a.toNatClampNeg).toInt64) (hs : 0 ≤ s1 ∧ s1 ≤ 1000) (hx : 0 ≤ a.toInt ∧ a.toInt ≤ s1.toInt) (hlt : a < s1) : z_sw f p (a + 1).toNatClampNeg w' := by
  have l1 := Int32.lt_iff_toInt_lt.mp hlt
  have l2 : s1.toInt ≤ 1000 := Int32.le_iff_toInt_le.mp hs.2
  have e := (g_up (i := a) hx.1 (by omega)).2
  rw [ht.1] at hl hw
  have c1 : 97 ≤ (f a.toNatClampNeg).toInt := Int32.le_iff_toInt_le.mp hl.1
  have c2 : (f a.toNatClampNeg).toInt ≤ 122 := Int32.le_iff_toInt_le.mp hl.2
  rw [e]
  refine ⟨by have := h.1; omega, fun l h1 h2 => ?_, ?_⟩
  · by_cases q : l = a.toNatClampNeg
    · rw [q]; exact hl
    · exact h.2.1 l h1 (by omega)
  · rw [x_ls.s h.1, hw, h.2.2]
    exact z_cw.push ⟨by omega, by omega⟩
theorem z_PL.t (hi : x_T f n i < n) (hn : n ≤ 1000) : (z_PL f n i).toInt = x_T f n i := Int32.toInt_ofNat_of_lt (by omega)
theorem z_len (hb : b = z_PL f n i) (hi : x_T f n i < n) (ht : s1.toInt = n) (hs : 0 ≤ s1 ∧ s1 ≤ 1000) (hx : 0 ≤ a.toInt ∧ a.toInt ≤ s1.toInt) : (a - b).toInt = a.toInt - x_T f n i := by
  have l2 : s1.toInt ≤ 1000 := Int32.le_iff_toInt_le.mp hs.2
  have t := z_PL.t hi (by omega)
  subst hb
  rw [g_sub (by rw [t]; omega) (by rw [t]; omega), t]
theorem z_sw.len (h : z_sw f (x_T f n i) a.toNatClampNeg w) (hb : b = z_PL f n i) (hi : x_T f n i < n) (ht : g = f ∧ s1.toInt = n) (hx : 0 ≤ a.toInt ∧ a.toInt ≤ s1.toInt) (hs : 0 ≤ s1 ∧ s1 ≤ 1000) (hd : a - b ≤ 8) : w = z_cw (x_ls f (x_T f n i) (a.toNatClampNeg - x_T f n i)) ∧ z_ok (x_ls f (x_T f n i) (a.toNatClampNeg - x_T f n i)) := by
  have e := z_len hb hi ht.2 hs hx
  have d : (a - b).toInt ≤ 8 := Int32.le_iff_toInt_le.mp hd
  have c := g_clamp a
  have q := h.1
  refine ⟨h.2.2, x_ls.all _ (fun l h1 h2 => h.2.1 l h1 (by omega)), ?_⟩
  rw [x_ls.len]
  omega
theorem z_sw.end (h : z_sw f (x_T f n i) a.toNatClampNeg w) (ht : g = f ∧ s1.toInt = n) (hi : x_T f n i < n) (hl : x_le (f (x_T f n i))) (hx : 0 ≤ a.toInt ∧ a.toInt ≤ s1.toInt) (he : s1 ≤ a ∨ ¬ (97 ≤ g a.toNatClampNeg ∧ g a.toNatClampNeg ≤ 122)) :
    x_b f n (i + 1) = a.toNatClampNeg ∧ z_d f n i = a.toNatClampNeg - x_T f n i ∧ w = z_cw (z_W f n i) := by
  have c := g_clamp a
  have run : x_run x_le f n (x_T f n i) a.toNatClampNeg := by
    refine ⟨⟨h.1, Or.inr (by have := ht.2; omega)⟩, h.2.1, ?_⟩
    rcases he with e | e
    · have := Int32.le_iff_toInt_le.mp e
      have := ht.2
      exact Or.inl (by omega)
    · rw [ht.1] at e
      exact Or.inr e
  have e : x_b f n (i + 1) = a.toNatClampNeg := by
    show x_E f n (x_T f n i) = _
    rw [x_E.le hi hl]; exact x_to.eq run
  have d : z_d f n i = a.toNatClampNeg - x_T f n i := by unfold z_d; rw [show x_E f n (x_T f n i) = a.toNatClampNeg from e]
  refine ⟨e, d, ?_⟩
  unfold z_W
  rw [d]; exact h.2.2
theorem z_sw.fin8 (h : z_sw f (x_T f n i) a.toNatClampNeg w) (hz : (g = f ∧ s1.toInt = n) ∧ b = z_PL f n i ∧ a0.toInt = x_T f n i ∧ x_T f n i < n ∧ x_le (f (x_T f n i))) (hs : 0 ≤ s1 ∧ s1 ≤ 1000) (hx : 0 ≤ a.toInt ∧ a.toInt ≤ s1.toInt) (he : s1 ≤ a ∨ ¬ (97 ≤ g a.toNatClampNeg ∧ g a.toNatClampNeg ≤ 122))
    (hr : r = z_kw (x_ls f (x_T f n i) (a.toNatClampNeg - x_T f n i))) (hd : a - b ≤ 8) : a.toInt = x_b f n (i + 1) ∧ r = z_K f n i ∧ (z_K f n i = 3 → w = z_cw (z_W f n i)) := by
  obtain ⟨e1, e2, e3⟩ := h.end hz.1 hz.2.2.2.1 hz.2.2.2.2 hx he
  have e := z_len hz.2.1 hz.2.2.2.1 hz.1.2 hs hx
  have d : (a - b).toInt ≤ 8 := Int32.le_iff_toInt_le.mp hd
  have c := g_clamp a
  have q := h.1
  refine ⟨by rw [e1]; omega, ?_, fun _ => e3⟩
  rw [z_K.le hz.2.2.2.1 hz.2.2.2.2, if_neg (by omega), hr]
  unfold z_W
  rw [e2]
theorem z_sw.fin0 (h : z_sw f (x_T f n i) a.toNatClampNeg w) (hz : (g = f ∧ s1.toInt = n) ∧ b = z_PL f n i ∧ a0.toInt = x_T f n i ∧ x_T f n i < n ∧ x_le (f (x_T f n i))) (hs : 0 ≤ s1 ∧ s1 ≤ 1000) (hx : 0 ≤ a.toInt ∧ a.toInt ≤ s1.toInt) (he : s1 ≤ a ∨ ¬ (97 ≤ g a.toNatClampNeg ∧ g a.toNatClampNeg ≤ 122))
    (hd : ¬ a - b ≤ 8) : a.toInt = x_b f n (i + 1) ∧ (0 : Int32) = z_K f n i ∧ (z_K f n i = 3 → w = z_cw (z_W f n i)) := by
  obtain ⟨e1, e2, e3⟩ := h.end hz.1 hz.2.2.2.1 hz.2.2.2.2 hx he
  have e := z_len hz.2.1 hz.2.2.2.1 hz.1.2 hs hx
  have d : 8 < (a - b).toInt := Int32.lt_iff_toInt_lt.mp (Int32.not_le.mp hd)
  have c := g_clamp a
  have q := h.1
  refine ⟨by rw [e1]; omega, ?_, fun _ => e3⟩
  rw [z_K.le hz.2.2.2.1 hz.2.2.2.2, if_pos (by omega)]
theorem z_sn.none (h : a.toInt = (p : Nat)) : z_sn f p a.toNatClampNeg 0 := by
  have e : a.toNatClampNeg = p := by rw [g_clamp]; omega
  refine ⟨by omega, fun l l1 l2 => absurd l2 (by omega), ?_⟩
  rw [e, Nat.sub_self]
  try rfl
theorem z_sn.go (h : z_sn f p a.toNatClampNeg v) (ht : g = f ∧ s1.toInt = n) (hl : 48 ≤ g a.toNatClampNeg ∧ g a.toNatClampNeg ≤ 57) (hs : 0 ≤ s1 ∧ s1 ≤ 1000) (hx : 0 ≤ a.toInt ∧ a.toInt ≤ s1.toInt) (hlt : a < s1) : z_sn f p (a + 1).toNatClampNeg (v * 10 + (g a.toNatClampNeg - 48)) := by
  have l1 := Int32.lt_iff_toInt_lt.mp hlt
  have l2 : s1.toInt ≤ 1000 := Int32.le_iff_toInt_le.mp hs.2
  have e := (g_up (i := a) hx.1 (by omega)).2
  rw [ht.1] at hl ⊢
  have c1 : 48 ≤ (f a.toNatClampNeg).toInt := Int32.le_iff_toInt_le.mp hl.1
  have c2 : (f a.toNatClampNeg).toInt ≤ 57 := Int32.le_iff_toInt_le.mp hl.2
  rw [e]
  refine ⟨by have := h.1; omega, fun l h1 h2 => ?_, ?_⟩
  · by_cases q : l = a.toNatClampNeg
    · rw [q]; exact hl
    · exact h.2.1 l h1 (by omega)
  · rw [x_ls.s h.1, h.2.2]
    show _ = Int32.ofNat (10 * x_nb 10 48 (x_ls f p (a.toNatClampNeg - p)) + ((f a.toNatClampNeg).toInt.toNat - 48))
    have ec : f a.toNatClampNeg - 48 = Int32.ofNat ((f a.toNatClampNeg).toInt.toNat - 48) := by
      refine Int32.toInt_inj.mp ?_
      rw [g_sub (x := f a.toNatClampNeg) (y := 48) (by show _ ≤ _ - 48; omega) (by show _ - 48 < _; omega), Int32.toInt_ofNat_of_lt (by omega)]
      show _ - 48 = _
      omega
    rw [ec, Int32.ofNat_add, Int32.ofNat_mul, Int32.mul_comm]
    try rfl
theorem z_sn.end (h : z_sn f (x_T f n i) a.toNatClampNeg v) (ht : g = f ∧ s1.toInt = n) (hi : x_T f n i < n) (hl : x_di (f (x_T f n i))) (hl2 : ¬ x_le (f (x_T f n i))) (hx : 0 ≤ a.toInt ∧ a.toInt ≤ s1.toInt) (he : s1 ≤ a ∨ ¬ (48 ≤ g a.toNatClampNeg ∧ g a.toNatClampNeg ≤ 57)) :
    x_b f n (i + 1) = a.toNatClampNeg ∧ z_d f n i = a.toNatClampNeg - x_T f n i ∧ v = z_N f n i := by
  have c := g_clamp a
  have run : x_run x_di f n (x_T f n i) a.toNatClampNeg := by
    refine ⟨⟨h.1, Or.inr (by have := ht.2; omega)⟩, h.2.1, ?_⟩
    rcases he with e | e
    · have := Int32.le_iff_toInt_le.mp e
      have := ht.2
      exact Or.inl (by omega)
    · rw [ht.1] at e
      exact Or.inr e
  have e : x_b f n (i + 1) = a.toNatClampNeg := by
    show x_E f n (x_T f n i) = _
    rw [x_E.di hi hl2 hl]; exact x_to.eq run
  have d : z_d f n i = a.toNatClampNeg - x_T f n i := by unfold z_d; rw [show x_E f n (x_T f n i) = a.toNatClampNeg from e]
  refine ⟨e, d, ?_⟩
  unfold z_N z_W
  rw [d]; exact h.2.2
theorem z_sn.fin4 (h : z_sn f (x_T f n i) a.toNatClampNeg v) (hz : (g = f ∧ s1.toInt = n) ∧ b = z_PL f n i ∧ a0.toInt = x_T f n i ∧ x_T f n i < n ∧ x_di (f (x_T f n i)) ∧ ¬ x_le (f (x_T f n i))) (hs : 0 ≤ s1 ∧ s1 ≤ 1000) (hx : 0 ≤ a.toInt ∧ a.toInt ≤ s1.toInt) (he : s1 ≤ a ∨ ¬ (48 ≤ g a.toNatClampNeg ∧ g a.toNatClampNeg ≤ 57))
    (hd : a - b ≤ 4) : a.toInt = x_b f n (i + 1) ∧ (2 : Int32) = z_K f n i ∧ (z_K f n i = 2 → v = z_N f n i) := by
  obtain ⟨e1, e2, e3⟩ := h.end hz.1 hz.2.2.2.1 hz.2.2.2.2.1 hz.2.2.2.2.2 hx he
  have e := z_len hz.2.1 hz.2.2.2.1 hz.1.2 hs hx
  have d : (a - b).toInt ≤ 4 := Int32.le_iff_toInt_le.mp hd
  have c := g_clamp a
  have q := h.1
  refine ⟨by rw [e1]; omega, ?_, fun _ => e3⟩
  rw [z_K.di hz.2.2.2.1 hz.2.2.2.2.2 hz.2.2.2.2.1, if_neg (by omega)]
theorem z_sn.fin0 (h : z_sn f (x_T f n i) a.toNatClampNeg v) (hz : (g = f ∧ s1.toInt = n) ∧ b = z_PL f n i ∧ a0.toInt = x_T f n i ∧ x_T f n i < n ∧ x_di (f (x_T f n i)) ∧ ¬ x_le (f (x_T f n i))) (hs : 0 ≤ s1 ∧ s1 ≤ 1000) (hx : 0 ≤ a.toInt ∧ a.toInt ≤ s1.toInt) (he : s1 ≤ a ∨ ¬ (48 ≤ g a.toNatClampNeg ∧ g a.toNatClampNeg ≤ 57))
    (hd : ¬ a - b ≤ 4) : a.toInt = x_b f n (i + 1) ∧ (0 : Int32) = z_K f n i ∧ (z_K f n i = 2 → v = z_N f n i) := by
  obtain ⟨e1, e2, e3⟩ := h.end hz.1 hz.2.2.2.1 hz.2.2.2.2.1 hz.2.2.2.2.2 hx he
  have e := z_len hz.2.1 hz.2.2.2.1 hz.1.2 hs hx
  have d : 4 < (a - b).toInt := Int32.lt_iff_toInt_lt.mp (Int32.not_le.mp hd)
  have c := g_clamp a
  have q := h.1
  refine ⟨by rw [e1]; omega, ?_, fun _ => e3⟩
  rw [z_K.di hz.2.2.2.1 hz.2.2.2.2.2 hz.2.2.2.2.1, if_pos (by omega)]
end ZSW
/-! a step of the class's tape -/
def z_bk (f : Nat → Int32) (p q : Nat) : Prop := p ≤ q ∧ ∀ l, p ≤ l → l < q → x_bl (f l)
section ZST
variable {f g : Nat → Int32} {n i : Nat} {a a0 b s1 r e5 v4 : Int32} {w : Int64} {Z : zS}
theorem z_bk.none {p : Nat} (h : a.toInt = (p : Nat)) : z_bk f p a.toNatClampNeg := by
  have c := g_clamp a
  exact ⟨by omega, fun l l1 l2 => absurd l2 (by omega)⟩
theorem z_bk.go {p : Nat} (h : z_bk f p a.toNatClampNeg) (ht : g = f ∧ s1.toInt = n) (hl : g a.toNatClampNeg = 10 ∨ g a.toNatClampNeg = 32) (hs : 0 ≤ s1 ∧ s1 ≤ 1000) (hx : 0 ≤ a.toInt ∧ a.toInt ≤ s1.toInt) (hlt : a < s1) : z_bk f p (a + 1).toNatClampNeg := by
  have l1 := Int32.lt_iff_toInt_lt.mp hlt
  have l2 : s1.toInt ≤ 1000 := Int32.le_iff_toInt_le.mp hs.2
  have e := (g_up (i := a) hx.1 (by omega)).2
  rw [ht.1] at hl
  rw [e]
  refine ⟨by have := h.1; omega, fun l h1 h2 => ?_⟩
  by_cases q : l = a.toNatClampNeg
  · rw [q]; exact hl
  · exact h.2 l h1 (by omega)
theorem z_st (h : z_bk f (x_b f n i) a.toNatClampNeg) (ht : g = f ∧ s1.toInt = n) (hx : 0 ≤ a.toInt ∧ a.toInt ≤ s1.toInt) (he : s1 ≤ a ∨ ¬ (g a.toNatClampNeg = 10 ∨ g a.toNatClampNeg = 32)) : x_T f n i = a.toNatClampNeg ∧ a.toInt = x_T f n i ∧ a = z_PL f n i := by
  have c := g_clamp a
  have run : x_run x_bl f n (x_b f n i) a.toNatClampNeg := by
    refine ⟨⟨h.1, Or.inr (by have := ht.2; omega)⟩, h.2, ?_⟩
    rcases he with e | e
    · have := Int32.le_iff_toInt_le.mp e
      have := ht.2
      exact Or.inl (by omega)
    · rw [ht.1] at e
      exact Or.inr e
  have e : x_T f n i = a.toNatClampNeg := by rw [x_T.b i]; exact x_to.eq run
  refine ⟨e, by omega, ?_⟩
  unfold z_PL
  rw [e]
  exact (Int32.ofNat_toNatClampNeg a (Int32.le_iff_toInt_le.mpr hx.1)).symm
theorem z_st.le (h : z_bk f (x_b f n i) a.toNatClampNeg) (ht : g = f ∧ s1.toInt = n) (hx : 0 ≤ a.toInt ∧ a.toInt ≤ s1.toInt) (he : s1 ≤ a ∨ ¬ (g a.toNatClampNeg = 10 ∨ g a.toNatClampNeg = 32)) (hlt : a < s1) (hl : 97 ≤ g a.toNatClampNeg ∧ g a.toNatClampNeg ≤ 122) :
    (g = f ∧ s1.toInt = n) ∧ a = z_PL f n i ∧ a.toInt = x_T f n i ∧ x_T f n i < n ∧ x_le (f (x_T f n i)) := by
  obtain ⟨e1, e2, e3⟩ := z_st h ht hx he
  have l1 := Int32.lt_iff_toInt_lt.mp hlt
  have t := ht.2
  rw [ht.1, ← e1] at hl
  exact ⟨ht, e3, e2, by omega, hl⟩
theorem z_st.di (h : z_bk f (x_b f n i) a.toNatClampNeg) (ht : g = f ∧ s1.toInt = n) (hx : 0 ≤ a.toInt ∧ a.toInt ≤ s1.toInt) (he : s1 ≤ a ∨ ¬ (g a.toNatClampNeg = 10 ∨ g a.toNatClampNeg = 32)) (hlt : a < s1) (hn : ¬ (97 ≤ g a.toNatClampNeg ∧ g a.toNatClampNeg ≤ 122)) (hl : 48 ≤ g a.toNatClampNeg ∧ g a.toNatClampNeg ≤ 57) :
    (g = f ∧ s1.toInt = n) ∧ a = z_PL f n i ∧ a.toInt = x_T f n i ∧ x_T f n i < n ∧ x_di (f (x_T f n i)) ∧ ¬ x_le (f (x_T f n i)) := by
  obtain ⟨e1, e2, e3⟩ := z_st h ht hx he
  have l1 := Int32.lt_iff_toInt_lt.mp hlt
  have t := ht.2
  rw [ht.1, ← e1] at hl hn
  exact ⟨ht, e3, e2, by omega, hl, hn⟩
theorem z_st.end (h : z_bk f (x_b f n Z.1) a.toNatClampNeg) (hz : (g = f ∧ s1.toInt = n) ∧ a0.toInt = x_b f n Z.1 ∧ e5 = Z.2.1) (hx : 0 ≤ a.toInt ∧ a.toInt ≤ s1.toInt) (he : s1 ≤ a) :
    (g = f ∧ s1.toInt = n) ∧ (1 : Int32) = z_K f n Z.1 ∧ a = z_PL f n Z.1 ∧ a.toInt = x_b f n (Z.1 + 1) ∧ (z_K f n Z.1 = 2 → v4 = z_N f n Z.1) ∧ (z_K f n Z.1 = 3 → w = z_cw (z_W f n Z.1)) ∧ e5 = Z.2.1 := by
  obtain ⟨e1, e2, e3⟩ := z_st h hz.1 hx (Or.inl he)
  have l1 := Int32.le_iff_toInt_le.mp he
  have t := hz.1.2
  have ge : n ≤ x_T f n Z.1 := by omega
  have k := z_K.end ge
  refine ⟨hz.1, k.symm, e3, ?_, fun q => absurd (k.symm.trans q) (by decide), fun q => absurd (k.symm.trans q) (by decide), hz.2.2⟩
  show _ = ((x_E f n (x_T f n Z.1) : Nat) : Int)
  rw [x_E.end ge]; exact e2
theorem z_st.word (h : z_bk f (x_b f n Z.1) a.toNatClampNeg) (hz : (g = f ∧ s1.toInt = n) ∧ a0.toInt = x_b f n Z.1 ∧ e5 = Z.2.1) (hx : 0 ≤ a.toInt ∧ a.toInt ≤ s1.toInt) (he : s1 ≤ a ∨ ¬ (g a.toNatClampNeg = 10 ∨ g a.toNatClampNeg = 32)) (hlt : a < s1) (hl : 97 ≤ g a.toNatClampNeg ∧ g a.toNatClampNeg ≤ 122) {a2 k : Int32}
    (hw : a2.toInt = x_b f n (Z.1 + 1) ∧ k = z_K f n Z.1 ∧ (z_K f n Z.1 = 3 → w = z_cw (z_W f n Z.1))) :
    (g = f ∧ s1.toInt = n) ∧ k = z_K f n Z.1 ∧ a = z_PL f n Z.1 ∧ a2.toInt = x_b f n (Z.1 + 1) ∧ (z_K f n Z.1 = 2 → v4 = z_N f n Z.1) ∧ (z_K f n Z.1 = 3 → w = z_cw (z_W f n Z.1)) ∧ e5 = Z.2.1 := by
  obtain ⟨-, b, -, c, d⟩ := z_st.le h hz.1 hx he hlt hl
  refine ⟨hz.1, hw.2.1, b, hw.1, fun q => ?_, hw.2.2, hz.2.2⟩
  rw [z_K.le c d] at q
  split at q
  · exact absurd q (by decide)
  · have g3 := (z_kw.ge (z_W f n Z.1)).1
    rw [q] at g3; exact absurd g3 (by decide)
theorem z_st.numb (h : z_bk f (x_b f n Z.1) a.toNatClampNeg) (hz : (g = f ∧ s1.toInt = n) ∧ a0.toInt = x_b f n Z.1 ∧ e5 = Z.2.1) (hx : 0 ≤ a.toInt ∧ a.toInt ≤ s1.toInt) (he : s1 ≤ a ∨ ¬ (g a.toNatClampNeg = 10 ∨ g a.toNatClampNeg = 32)) (hlt : a < s1) (hn : ¬ (97 ≤ g a.toNatClampNeg ∧ g a.toNatClampNeg ≤ 122)) (hl : 48 ≤ g a.toNatClampNeg ∧ g a.toNatClampNeg ≤ 57) {a2 k : Int32}
    (hw : a2.toInt = x_b f n (Z.1 + 1) ∧ k = z_K f n Z.1 ∧ (z_K f n Z.1 = 2 → v4 = z_N f n Z.1)) :
    (g = f ∧ s1.toInt = n) ∧ k = z_K f n Z.1 ∧ a = z_PL f n Z.1 ∧ a2.toInt = x_b f n (Z.1 + 1) ∧ (z_K f n Z.1 = 2 → v4 = z_N f n Z.1) ∧ (z_K f n Z.1 = 3 → w = z_cw (z_W f n Z.1)) ∧ e5 = Z.2.1 := by
  obtain ⟨-, b, -, c, d, e⟩ := z_st.di h hz.1 hx he hlt hn hl
  refine ⟨hz.1, hw.2.1, b, hw.1, hw.2.2, fun q => ?_, hz.2.2⟩
  rw [z_K.di c e d] at q
  split at q <;> exact absurd q (by decide)
theorem z_st.sign (h : z_bk f (x_b f n Z.1) a.toNatClampNeg) (hz : (g = f ∧ s1.toInt = n) ∧ a0.toInt = x_b f n Z.1 ∧ e5 = Z.2.1) (hx : 0 ≤ a.toInt ∧ a.toInt ≤ s1.toInt) (hs : 0 ≤ s1 ∧ s1 ≤ 1000) (he : s1 ≤ a ∨ ¬ (g a.toNatClampNeg = 10 ∨ g a.toNatClampNeg = 32)) (hlt : a < s1) (hn : ¬ (97 ≤ g a.toNatClampNeg ∧ g a.toNatClampNeg ≤ 122)) (hl : ¬ (48 ≤ g a.toNatClampNeg ∧ g a.toNatClampNeg ≤ 57))
    (hr : r = z_sg (g a.toNatClampNeg)) : ((g = f ∧ s1.toInt = n) ∧ r = z_K f n Z.1 ∧ a = z_PL f n Z.1 ∧ (a + 1).toInt = x_b f n (Z.1 + 1) ∧ (z_K f n Z.1 = 2 → v4 = z_N f n Z.1) ∧ (z_K f n Z.1 = 3 → w = z_cw (z_W f n Z.1)) ∧ e5 = Z.2.1) ∧ (0 ≤ (a + 1).toInt ∧ (a + 1).toInt ≤ s1.toInt) := by
  obtain ⟨e1, e2, e3⟩ := z_st h hz.1 hx he
  have l1 := Int32.lt_iff_toInt_lt.mp hlt
  have l2 : s1.toInt ≤ 1000 := Int32.le_iff_toInt_le.mp hs.2
  have t := hz.1.2
  rw [hz.1.1, ← e1] at hl hn hr
  have lt : x_T f n Z.1 < n := by omega
  have k : z_K f n Z.1 = z_sg (f (x_T f n Z.1)) := z_K.one lt hn hl
  have u := (g_up (i := a) hx.1 (by omega)).1
  have rg := z_sg.rg (f (x_T f n Z.1))
  refine ⟨⟨hz.1, hr.trans k.symm, e3, ?_, fun q => ?_, fun q => ?_, hz.2.2⟩, by omega, by omega⟩
  · show _ = ((x_E f n (x_T f n Z.1) : Nat) : Int)
    rw [x_E.one lt hn hl]; omega
  · rw [← k, q] at rg; exact absurd rg (by decide)
  · rw [← k, q] at rg; exact absurd rg (by decide)
end ZST
/-! names, by their place -/
section ZNM
variable {f : Nat → Int32} {n m : Nat} {u : qS} {Z : zS} {G : Nat → List Int32} {x r : Int32}
theorem z_G.eq (hz : z_C f n u Z) (hg : z_G G m u Z) (h3 : z_K f n Z.1 = 3) (h0 : Z.2.1 = 0) (hk : 0 ≤ x) (hr : r = lg_cmp (u.2.2.1 501 x.toNatClampNeg) (u.2.2.1 805 0)) (hlt : x < u.1 503) (hm : (u.1 503).toInt ≤ 8) : x.toNatClampNeg < m ∧ x.toNatClampNeg < 8 ∧ (r = 0 ↔ G x.toNatClampNeg = z_W f n Z.1) := by
  obtain ⟨g1, g2, g3⟩ := hg h0
  have c := g_clamp x
  have l1 := Int32.lt_iff_toInt_lt.mp hlt
  have l0 : 0 ≤ x.toInt := Int32.le_iff_toInt_le.mp hk
  rw [g1, Int32.toInt_ofNat_of_lt (by omega)] at l1
  have lt : x.toNatClampNeg < m := by omega
  have g := g3 _ lt
  refine ⟨lt, by omega, ?_⟩
  rw [hr, g_lc, g.1, hz.w h3, z_cw.inj g.2 (z_K.ok h3)]
theorem z_G.go (hz : z_C f n u Z) (hg : z_G G m u Z) (h3 : z_K f n Z.1 = 3) (h0 : Z.2.1 = 0) (hw : ∀ j : Nat, j < x.toNatClampNeg → G j ≠ z_W f n Z.1) (hk : 0 ≤ x) (hr : r = lg_cmp (u.2.2.1 501 x.toNatClampNeg) (u.2.2.1 805 0)) (hne : ¬ r = 0) (hlt : x < u.1 503) (hm : (u.1 503).toInt ≤ 8) : ∀ j : Nat, j < (x + 1).toNatClampNeg → G j ≠ z_W f n Z.1 := by
  obtain ⟨a, b, c⟩ := z_G.eq hz hg h3 h0 hk hr hlt hm
  have e := (g_up (i := x) (Int32.le_iff_toInt_le.mp hk) (by have := g_clamp x; omega)).2
  intro j hj
  rw [e] at hj
  by_cases q : j = x.toNatClampNeg
  · rw [q]; exact fun z => hne (c.mpr z)
  · exact hw j (by omega)
theorem z_G.at (hz : z_C f n u Z) (hg : z_G G m u Z) (h3 : z_K f n Z.1 = 3) (h0 : Z.2.1 = 0) (hw : ∀ j : Nat, j < x.toNatClampNeg → G j ≠ z_W f n Z.1) (hk : 0 ≤ x) (hr : r = lg_cmp (u.2.2.1 501 x.toNatClampNeg) (u.2.2.1 805 0)) (hne : r = 0) (hlt : x < u.1 503) (hm : (u.1 503).toInt ≤ 8) : (-1 ≤ x ∧ x < u.1 503) ∧ x = z_ix G (z_W f n Z.1) m := by
  obtain ⟨a, b, c⟩ := z_G.eq hz hg h3 h0 hk hr hlt hm
  refine ⟨⟨Int32.le_trans (by decide) hk, hlt⟩, ?_⟩
  rw [z_ix.at (c.mp hne) hw (by omega) m a, Int32.ofNat_toNatClampNeg x hk]
theorem z_G.no (hg : z_G G m u Z) (h0 : Z.2.1 = 0) (hw : ∀ j : Nat, j < x.toNatClampNeg → G j ≠ z_W f n Z.1) (hk : 0 ≤ x) (hge : u.1 503 ≤ x) (hn : 0 ≤ (u.1 503).toInt ∧ (u.1 503).toInt ≤ 8) : (-1 ≤ (-1 : Int32) ∧ (-1 : Int32) < u.1 503) ∧ (-1 : Int32) = z_ix G (z_W f n Z.1) m := by
  obtain ⟨g1, g2, -⟩ := hg h0
  have c := g_clamp x
  have l1 := Int32.le_iff_toInt_le.mp hge
  rw [g1, Int32.toInt_ofNat_of_lt (by omega)] at l1
  refine ⟨⟨by decide, Int32.lt_iff_toInt_lt.mpr ?_⟩, (z_ix.no m (fun j hj => hw j (by omega))).symm⟩
  show (-1 : Int) < _
  omega
end ZNM
/-! a let, and the lines -/
section ZLET
variable {f : Nat → Int32} {n m : Nat} {u v : qS} {Z : zS} {G : Nat → List Int32} {x r : Int32} {b b' : zB}
def z_LG (f : Nat → Int32) (n : Nat) (v : qS) (b : zB) : Prop := z_C f n v b.1 ∧ z_G b.2.1 b.2.2 v b.1
theorem z_let.a (hz : z_C f n u Z) (q : ¬ u.1 803 = 3) (g : z_C f n v (z_fail (z_T f n) 1 Z)) (w : z_G G m v (z_fail (z_T f n) 1 Z)) : z_LG f n v (z_let (z_T f n) (Z, G, m)) := by
  have e : (z_T f n).1 Z.1 ≠ 3 := fun z => q (hz.k.trans z)
  have e2 : z_let (z_T f n) (Z, G, m) = (z_fail (z_T f n) 1 Z, G, m) := by unfold z_let; rw [if_pos e]; try rfl
  rw [e2]; exact ⟨g, w⟩
end ZLET
theorem z_let.b {f : Nat → Int32} {n : Nat} {m : Nat} {u : qS} {v : qS} {Z : zS} {G : Nat → List Int32} {r : Int32} (hz : z_C f n u Z) (q : u.1 803 = 3) (hr : r = z_ix G (z_W f n Z.1) m) (h : ¬ r = -1) (g : z_C f n v (z_fail (z_T f n) 3 Z)) (w : z_G G m v (z_fail (z_T f n) 3 Z)) : z_LG f n v (z_let (z_T f n) (Z, G, m)) := by
  have e : (z_T f n).1 Z.1 = 3 := hz.k.symm.trans q
  have e3 : z_ix G ((z_T f n).2.2.1 Z.1) m ≠ -1 := fun z => h (hr.trans z)
  have e2 : z_let (z_T f n) (Z, G, m) = (z_fail (z_T f n) 3 Z, G, m) := by unfold z_let; rw [if_neg (fun z => z e), if_pos e3]; try rfl
  rw [e2]; exact ⟨g, w⟩
section ZLET
variable {f : Nat → Int32} {n m : Nat} {u v : qS} {Z : zS} {G : Nat → List Int32} {x r : Int32} {b b' : zB}
theorem z_nc (hg : z_G G m u Z) (h0 : Z.2.1 = 0) : (u.1 503).toInt = m := by
  obtain ⟨a, b, -⟩ := hg h0
  rw [a, Int32.toInt_ofNat_of_lt (by omega)]
theorem z_let.c (hz : z_C f n u Z) (hg : z_G G m u Z) (h0 : Z.2.1 = 0) (q : u.1 803 = 3) (hr : r = z_ix G (z_W f n Z.1) m) (h : r = -1) (h8 : ¬ u.1 503 < 8) (g : z_C f n v (z_fail (z_T f n) 5 Z)) (w : z_G G m v (z_fail (z_T f n) 5 Z)) : z_LG f n v (z_let (z_T f n) (Z, G, m)) := by
  have e : (z_T f n).1 Z.1 = 3 := hz.k.symm.trans q
  have e3 : ¬ z_ix G ((z_T f n).2.2.1 Z.1) m ≠ -1 := fun z => z (hr.symm.trans h)
  have c := z_nc hg h0
  have c2 := Int32.le_iff_toInt_le.mp (Int32.not_lt.mp h8)
  have e4 : 8 ≤ m := by
    have c2 : (8 : Int) ≤ (u.1 503).toInt := c2
    omega
  have e2 : z_let (z_T f n) (Z, G, m) = (z_fail (z_T f n) 5 Z, G, m) := by unfold z_let; rw [if_neg (fun z => z e), if_neg e3, if_pos e4]; try rfl
  rw [e2]; exact ⟨g, w⟩
theorem z_let.fin (hz : z_C f n u Z) (hg : z_G G m u Z) (h0 : Z.2.1 = 0) (q : u.1 803 = 3) (hr : r = z_ix G (z_W f n Z.1) m) (h : r = -1) (h8 : u.1 503 < 8) (g : z_C f n v (z_end (z_T f n) 12 (u.1 503) (z_E (z_T f n) G m (z_pass (z_T f n) 7 (z_next Z)))))
    (hv1 : v.1 503 = u.1 503 + 1) (hv2 : v.2.2.1 501 = vp_updL (u.2.2.1 501) (u.1 503).toNatClampNeg (u.2.2.1 805 0)) : z_LG f n v (z_let (z_T f n) (Z, G, m)) := by
  have e : (z_T f n).1 Z.1 = 3 := hz.k.symm.trans q
  have e3 : ¬ z_ix G ((z_T f n).2.2.1 Z.1) m ≠ -1 := fun z => z (hr.symm.trans h)
  have c := z_nc hg h0
  have c2 : (u.1 503).toInt < 8 := Int32.lt_iff_toInt_lt.mp h8
  obtain ⟨g1, g2, g3⟩ := hg h0
  have lt : m < 8 := by omega
  have e4 : ¬ 8 ≤ m := by omega
  rw [g1] at g
  have k3 : z_K f n Z.1 = 3 := e
  generalize hY : z_end (z_T f n) 12 (Int32.ofNat m) (z_E (z_T f n) G m (z_pass (z_T f n) 7 (z_next Z))) = Y at g
  by_cases y : Y.2.1 = 0
  · have e2 : z_let (z_T f n) (Z, G, m) = (Y, (fun j => if j = m then (z_T f n).2.2.1 Z.1 else G j), m + 1) := by
      rw [z_let.eq, if_neg (fun z => z e), if_neg e3, if_neg e4, hY]
      exact if_pos y
    rw [e2]
    refine ⟨g, fun _ => ⟨?_, (by omega : m + 1 ≤ 8), fun j hj => ?_⟩⟩
    · show v.1 503 = Int32.ofNat (m + 1)
      rw [hv1, g1, Int32.ofNat_add]
      try rfl
    · have hj : j < m + 1 := hj
      have ec : (u.1 503).toNatClampNeg = m := by rw [g_clamp]; omega
      show v.2.2.1 501 j = z_cw (if j = m then z_W f n Z.1 else G j) ∧ z_ok (if j = m then z_W f n Z.1 else G j)
      rw [hv2, ec]
      by_cases z : j = m
      · rw [z, zL_us, if_pos rfl]
        exact ⟨hz.w k3, z_K.ok k3⟩
      · rw [zL_un z, if_neg z]
        exact g3 j (by omega)
  · have e2 : z_let (z_T f n) (Z, G, m) = (Y, G, m) := by
      rw [z_let.eq, if_neg (fun z => z e), if_neg e3, if_neg e4, hY]
      exact if_neg y
    rw [e2]
    exact ⟨g, fun z => absurd z y⟩
theorem z_lns.S {Q c d : Nat} {b0 : zB} (hL : z_lns (z_T f n) Q 0 b0 = z_lns (z_T f n) (Q - c) c b) (hZ : z_C f n u b.1) (hc : c < Q) (hd : d = c + 1) (q : u.1 505 = 0) (k : ¬ u.1 803 = 1) (e : z_ln (z_T f n) c b = b') : z_lns (z_T f n) Q 0 b0 = z_lns (z_T f n) (Q - d) d b' := by
  have e1 : (z_T f n).1 b.1.1 ≠ 1 := fun z => k (hZ.k.trans z)
  rw [hL, show Q - c = (Q - d) + 1 by omega, z_lns, if_pos ⟨hZ.f.symm.trans q, e1⟩, e, hd]
theorem z_ln.a {c : Nat} (hZ : z_C f n u b.1) (k1 : ¬ u.1 803 = 12) (k2 : ¬ u.1 803 = 13) (k3 : ¬ u.1 803 = 15) (k4 : ¬ u.1 803 = 16) : z_ln (z_T f n) c b = (z_fail (z_T f n) 1 b.1, b.2) := by
  have e : (z_T f n).1 b.1.1 = u.1 803 := hZ.k.symm
  unfold z_ln; rw [e, if_pos ⟨k1, k2, k3, k4⟩]
end ZLET
theorem z_ln.b {f : Nat → Int32} {n : Nat} {u : qS} {b : zB} {c : Nat} (hZ : z_C f n u b.1) (k : u.1 803 = 12 ∨ u.1 803 = 13 ∨ u.1 803 = 15 ∨ u.1 803 = 16) (h : 16 ≤ c) : z_ln (z_T f n) c b = (z_fail (z_T f n) 5 b.1, b.2) := by
  have e : (z_T f n).1 b.1.1 = u.1 803 := hZ.k.symm
  unfold z_ln; rw [e, if_neg (fun z => by rcases k with k | k | k | k <;> first | exact z.1 k | exact z.2.1 k | exact z.2.2.1 k | exact z.2.2.2 k), if_pos h]
section ZLET
variable {f : Nat → Int32} {n m : Nat} {u v : qS} {Z : zS} {G : Nat → List Int32} {x r : Int32} {b b' : zB}
theorem z_ln.c {c : Nat} (hZ : z_C f n u b.1) (k : u.1 803 = 12) (h : c < 16) : z_ln (z_T f n) c b = z_let (z_T f n) (z_next b.1, b.2) := by
  have e : (z_T f n).1 b.1.1 = u.1 803 := hZ.k.symm
  unfold z_ln; rw [e, if_neg (fun z => z.1 k), if_neg (by omega), if_pos k]
theorem z_ln.d {c : Nat} (hZ : z_C f n u b.1) (k : u.1 803 = 16) (h : c < 16) : z_ln (z_T f n) c b = (z_bon (z_T f n) b.2.1 b.2.2 (z_next b.1), b.2) := by
  have e : (z_T f n).1 b.1.1 = u.1 803 := hZ.k.symm
  unfold z_ln; rw [e, if_neg (fun z => z.2.2.2 k), if_neg (by omega), if_neg (by rw [k]; decide), if_pos k]
theorem z_ln.e {c : Nat} (hZ : z_C f n u b.1) (k : u.1 803 = 13 ∨ u.1 803 = 15) (h : c < 16) : z_ln (z_T f n) c b = (z_aom (z_T f n) b.2.1 b.2.2 (u.1 803) (z_next b.1), b.2) := by
  have e : (z_T f n).1 b.1.1 = u.1 803 := hZ.k.symm
  have n1 : ¬ u.1 803 = 12 := fun z => by rcases k with k | k <;> exact absurd (z.symm.trans k) (by decide)
  have n2 : ¬ u.1 803 = 16 := fun z => by rcases k with k | k <;> exact absurd (z.symm.trans k) (by decide)
  unfold z_ln; rw [e, if_neg (fun z => by rcases k with k | k <;> first | exact z.2.1 k | exact z.2.2.1 k), if_neg (by omega), if_neg n1, if_neg n2]
theorem z_lns.end {Q c : Nat} {b0 : zB} (hL : z_lns (z_T f n) Q 0 b0 = z_lns (z_T f n) (Q - c) c b) (hZ : z_C f n u b.1) (h : Q ≤ c ∨ ¬ u.1 505 = 0 ∨ u.1 803 = 1) : u.1 505 = (z_lns (z_T f n) Q 0 b0).1.2.1 := by
  rw [hL, hZ.f]
  rcases h with h | h | h
  · rw [show Q - c = 0 by omega]; try rfl
  · cases e : Q - c with
    | zero => rfl
    | succ a => rw [z_lns, if_neg (fun z => h (hZ.f.trans z.1))]
  · cases e : Q - c with
    | zero => rfl
    | succ a => rw [z_lns, if_neg (fun z => z.2 (hZ.k.symm.trans h))]
theorem z_G.nil (e : u.1 503 = 0) : z_G (fun _ => []) 0 u Z := fun _ => ⟨e, by omega, fun j hj => absurd hj (Nat.not_lt_zero _)⟩
end ZLET
theorem z_on.c {f : Nat → Int32} {n m : Nat} {G : Nat → List Int32} {u : qS} {Z : zS} {r : Int32} (q : u.1 505 = 0) (c : z_can (u.1 803)) (e : ¬ r = -1) (w : r = z_ix G (z_W f n Z.1) m) : z_on f n m G u Z := z_on.b q c w e
theorem z_put {u : qS} {a : Nat} {x : Int32} : (qsI u a x).1 a = x := by show upd u.1 a x a = x; exact pk_us
theorem z_putG {u : qS} {a b : Nat} {x : Int32} {g : Nat → Int64} : (qsI (qsG u a g) b x).2.2.1 a = g := by show va_up u.2.2.1 a g a = g; unfold va_up; rw [if_pos rfl]
theorem z_aom.b {T : zT} {G : Nat → List Int32} {m : Nat} {k : Int32} {s : zS} (h : (z_aom T G m k s).2.1 = 0) : s.2.1 = 0 := by
  unfold z_aom at h
  have h := z_end.b h
  split at h
  · exact z_E.b (z_pass.b (z_E.b h))
  · exact z_E.b h
theorem z_bon.b {T : zT} {G : Nat → List Int32} {m : Nat} {s : zS} (h : (z_bon T G m s).2.1 = 0) : s.2.1 = 0 := by
  unfold z_bon at h
  split at h
  · exact z_fail.b h
  · have w := z_pass.b (z_E.b (z_end.b h))
    exact w
