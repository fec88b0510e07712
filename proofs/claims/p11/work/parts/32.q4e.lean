/-! the reference's cutting of a tape -/
def z_cu (f : Nat → Int32) (n : Nat) (so pl : Nat → Int32) (va : Nat → Int64) (N k : Nat) : Prop := (∀ i, i < N → z_RT f n so pl va i) ∧ (x_b f n N ≤ k ∧ k ≤ n) ∧ ∀ l, x_b f n N ≤ l → l < k → x_bl (f l)
def z_cx (P : Int32 → Prop) (f : Nat → Int32) (n : Nat) (so pl : Nat → Int32) (va : Nat → Int64) (N p k : Nat) : Prop := (∀ i, i < N → z_RT f n so pl va i) ∧ (x_T f n N = p ∧ p < n ∧ pl N = Int32.ofNat p) ∧ (p ≤ k ∧ k ≤ n) ∧ P (f p) ∧ ∀ l, p ≤ l → l < k → P (f l)
def z_vw (f : Nat → Int32) (p k : Nat) (v : Int64) : Prop := k - p ≤ 8 → v = z_rw (x_ls f p (k - p))
def z_vn (f : Nat → Int32) (p k : Nat) (v : Int64) : Prop := k - p ≤ 4 → v = Int64.ofNat (x_nb 10 48 (x_ls f p (k - p)))
section ZCU
variable {f : Nat → Int32} {n N p k : Nat} {so so' pl pl' : Nat → Int32} {va va' : Nat → Int64} {P : Int32 → Prop} {v v' : Int64} {s r : Int32}
theorem z_cu.none : z_cu f n so pl va 0 0 := ⟨fun i h => absurd h (by omega), ⟨Nat.le_refl _, Nat.zero_le _⟩, fun l a b => absurd b (by omega)⟩
theorem z_cu.blank (h : z_cu f n so pl va N k) (l : k < n) (b : f k = 10 ∨ f k = 32) : z_cu f n so pl va N (k + 1) := by
  obtain ⟨h1, h2, h3⟩ := h
  refine ⟨h1, by omega, fun l a c => ?_⟩
  by_cases q : l = k
  · rw [q]; exact b
  · exact h3 l a (by omega)
theorem z_cu.T (h : z_cu f n so pl va N k) (he : n ≤ k ∨ ¬ (f k = 10 ∨ f k = 32)) : x_T f n N = k := by
  obtain ⟨h1, h2, h3⟩ := h
  rw [x_T.b N]
  exact x_to.eq ⟨⟨h2.1, Or.inr h2.2⟩, h3, he⟩
theorem z_RT.cg {i : Nat} (h : z_RT f n so pl va i) (h1 : so' i = so i) (h2 : pl' i = pl i) (h3 : va' i = va i) : z_RT f n so' pl' va' i := by
  unfold z_RT at *
  rw [h1, h2, h3]; exact h
theorem z_cu.start (h : z_cu f n so pl va N k) (l : k < n) (b : ¬ (f k = 10 ∨ f k = 32)) (hp : pl' = upd pl N (Int32.ofNat k)) (hP : P (f k)) : z_cx P f n so pl' va N k k := by
  have t := h.T (Or.inr b)
  refine ⟨fun i hi => (h.1 i hi).cg rfl (by rw [hp]; exact pk_un (by omega)) rfl, ⟨t, l, by rw [hp, pk_us]⟩, ⟨Nat.le_refl _, by omega⟩, hP, fun l a c => absurd c (by omega)⟩
theorem z_cx.go (h : z_cx P f n so pl va N p k) (l : k < n) (b : P (f k)) : z_cx P f n so pl va N p (k + 1) := by
  obtain ⟨h1, h2, h3, h4, h5⟩ := h
  refine ⟨h1, h2, by omega, h4, fun l a c => ?_⟩
  by_cases q : l = k
  · rw [q]; exact b
  · exact h5 l a (by omega)
theorem z_cx.run (h : z_cx P f n so pl va N p k) (he : n ≤ k ∨ ¬ P (f k)) : x_to P f n (x_T f n N) = k := by
  obtain ⟨h1, h2, h3, h4, h5⟩ := h
  rw [h2.1]
  exact x_to.eq ⟨⟨h3.1, Or.inr h3.2⟩, h5, he⟩
theorem z_vw.none : z_vw f k k 0 := fun _ => by rw [Nat.sub_self]; try rfl
theorem z_vn.none : z_vn f k k 0 := fun _ => by rw [Nat.sub_self]; try rfl
theorem z_vw.go (h : z_vw f p k v) (hp : p ≤ k) (b : x_le (f k)) (hr : r = f k - 96) (hv : v' = 37 * v + r.toInt64) (l : k - p < 8) : z_vw f p (k + 1) v' := fun _ => by
  rw [x_ls.s hp, hv, hr, h (by omega)]; exact z_rw.push b
theorem z_vw.far (l : ¬ k - p < 8) : z_vw f p (k + 1) v := fun q => absurd q (by omega)
theorem z_vn.go (h : z_vn f p k v) (hp : p ≤ k) (b : x_di (f k)) (hv : v' = 10 * v + (f k).toInt64 - 48) (l : k - p < 4) : z_vn f p (k + 1) v' := fun _ => by
  have c1 : 48 ≤ (f k).toInt := Int32.le_iff_toInt_le.mp b.1
  have c2 : (f k).toInt ≤ 57 := Int32.le_iff_toInt_le.mp b.2
  rw [x_ls.s hp, hv, h (by omega), z_i64 (by omega)]
  show (10 : Int64) * Int64.ofNat (x_nb 10 48 (x_ls f p (k - p))) + Int64.ofNat (f k).toInt.toNat - Int64.ofNat 48 = Int64.ofNat (10 * x_nb 10 48 (x_ls f p (k - p)) + ((f k).toInt.toNat - 48))
  rw [Int64.ofNat_add, Int64.ofNat_mul, Int64.ofNat_sub _ _ (by omega)]
  show _ = Int64.ofNat 10 * _ + (_ - _)
  rw [Int64.sub_eq_add_neg, Int64.sub_eq_add_neg, Int64.add_assoc]
  try rfl
theorem z_vn.far (l : ¬ k - p < 4) : z_vn f p (k + 1) v := fun q => absurd q (by omega)
/-- a token's end -/
theorem z_cx.word (h : z_cx x_le f n so pl va N p k) (he : n ≤ k ∨ ¬ x_le (f k)) (hv : z_vw f p k v) (hs : s = if 8 < k - p then 4 else 1) (h1 : so' = upd so N s) (h2 : va' = vp_updL va N v) : z_cu f n so' pl va' (N + 1) k := by
  have run := h.run he
  obtain ⟨g1, ⟨g2, g3, g4⟩, g5, g6, g7⟩ := h
  have lt : x_T f n N < n := by omega
  have le : x_le (f (x_T f n N)) := by rw [g2]; exact g6
  have e : x_E f n (x_T f n N) = k := by rw [x_E.le lt le]; exact run
  have d : z_d f n N = k - p := by unfold z_d; rw [e, g2]
  refine ⟨fun i hi => ?_, ⟨by show x_E f n (x_T f n N) ≤ k; omega, g5.2⟩, fun l a c => absurd a (by show ¬ x_E f n (x_T f n N) ≤ l; omega)⟩
  by_cases q : i = N
  · rw [q]
    refine ⟨⟨by rw [g4]; unfold z_PL; rw [g2], lt⟩, Or.inl ⟨le, ?_, fun l8 => ?_⟩⟩
    · rw [h1, pk_us, d]; exact hs
    · rw [h2, zL_us]; unfold z_W; rw [d, g2]; exact hv (by omega)
  · exact (g1 i (by omega)).cg (by rw [h1]; exact pk_un q) rfl (by rw [h2]; exact zL_un q)
theorem z_dn {c : Int32} (h : x_di c) : ¬ x_le c := fun q => by
  have c2 : c.toInt ≤ 57 := Int32.le_iff_toInt_le.mp h.2
  have c1 : 97 ≤ c.toInt := Int32.le_iff_toInt_le.mp q.1
  omega
theorem z_cx.numb (h : z_cx x_di f n so pl va N p k) (he : n ≤ k ∨ ¬ x_di (f k)) (hv : z_vn f p k v) (hs : s = if 4 < k - p then 4 else 2) (h1 : so' = upd so N s) (h2 : va' = vp_updL va N v) : z_cu f n so' pl va' (N + 1) k := by
  have run := h.run he
  obtain ⟨g1, ⟨g2, g3, g4⟩, g5, g6, g7⟩ := h
  have lt : x_T f n N < n := by omega
  have di : x_di (f (x_T f n N)) := by rw [g2]; exact g6
  have e : x_E f n (x_T f n N) = k := by rw [x_E.di lt (z_dn di) di]; exact run
  have d : z_d f n N = k - p := by unfold z_d; rw [e, g2]
  refine ⟨fun i hi => ?_, ⟨by show x_E f n (x_T f n N) ≤ k; omega, g5.2⟩, fun l a c => absurd a (by show ¬ x_E f n (x_T f n N) ≤ l; omega)⟩
  by_cases q : i = N
  · rw [q]
    refine ⟨⟨by rw [g4]; unfold z_PL; rw [g2], lt⟩, Or.inr (Or.inl ⟨z_dn di, di, ?_, fun l8 => ?_⟩)⟩
    · rw [h1, pk_us, d]; exact hs
    · rw [h2, zL_us]; unfold z_W; rw [d, g2]; exact hv (by omega)
  · exact (g1 i (by omega)).cg (by rw [h1]; exact pk_un q) rfl (by rw [h2]; exact zL_un q)
theorem z_cu.sign (h : z_cu f n so pl va N k) (l : k < n) (b : ¬ (f k = 10 ∨ f k = 32)) (nl : ¬ x_le (f k)) (nd : ¬ x_di (f k)) (hp : pl' = upd pl N (Int32.ofNat k)) (hs : s = if z_sg (f k) = 0 then 4 else 3) (h1 : so' = upd so N s) (h2 : va' = vp_updL va N (f k).toInt64) : z_cu f n so' pl' va' (N + 1) (k + 1) := by
  have t := h.T (Or.inr b)
  have lt : x_T f n N < n := by omega
  have e : x_E f n (x_T f n N) = k + 1 := by rw [x_E.one lt (by rw [t]; exact nl) (by rw [t]; exact nd), t]
  refine ⟨fun i hi => ?_, ⟨by show x_E f n (x_T f n N) ≤ k + 1; omega, l⟩, fun l a c => absurd a (by show ¬ x_E f n (x_T f n N) ≤ l; omega)⟩
  by_cases q : i = N
  · rw [q]
    refine ⟨⟨by rw [hp, pk_us]; unfold z_PL; rw [t], lt⟩, Or.inr (Or.inr ⟨by rw [t]; exact nl, by rw [t]; exact nd, ?_, ?_⟩)⟩
    · rw [h1, pk_us, t]; exact hs
    · rw [h2, zL_us, t]
  · exact (h.1 i (by omega)).cg (by rw [h1]; exact pk_un q) (by rw [hp]; exact pk_un q) (by rw [h2]; exact zL_un q)
theorem z_cu.fin (h : z_cu f n so pl va N k) (l : n ≤ k) (h1 : so' = upd so N 0) (h2 : pl' = upd pl N (Int32.ofNat n)) : z_tok f n so' pl' va N := by
  have t := h.T (Or.inl l)
  have e : k = n := by have := h.2.1.2; omega
  refine ⟨fun i hi => (h.1 i hi).cg (by rw [h1]; exact pk_un (by omega)) (by rw [h2]; exact pk_un (by omega)) rfl, by rw [h1, pk_us], by omega, ?_⟩
  rw [h2, pk_us]; unfold z_PL; rw [t, e]
end ZCU
