/-! who counts, and the means' loops -/
theorem t_co {k u : qS} {P S : Nat → Int32} {a : Nat} {x : Int32} (hk : CT k P u) (ha : qKn k u a x) (hfi : f_fi k S) (h1 : k.2.1 1255 x.toNatClampNeg ≤ f_vd k) (h2 : S x.toNatClampNeg = 0 ∨ S x.toNatClampNeg = 3) : f_co k x := by
  have sn : f_sn k x := ⟨⟨ha.1.1, by rw [← hk.1.1]; exact ha.1.2⟩, h1⟩
  exact ⟨sn, by rw [← hfi x sn]; exact h2⟩
theorem t_con {k : qS} {S : Nat → Int32} {x : Int32} (hfi : f_fi k S) (h2 : ¬ (S x.toNatClampNeg = 0 ∨ S x.toNatClampNeg = 3)) : ¬ f_co k x := fun q => h2 (by rw [hfi x q.1]; exact q.2)
theorem m_div7 {x : Int32} (h : 0 ≤ x.toInt) : (x / 7).toInt = x.toInt / 7 := by
  have r := g_rng x
  have e : (7 : Int32).toInt = 7 := rfl
  have p : x.toInt.tdiv 7 = x.toInt / 7 := Int.tdiv_eq_ediv_of_nonneg h
  rw [Int32.toInt_div, e, p, g_bmod (by omega) (by omega)]
section MR
variable {k : qS} {P B : Nat → Int32} {Tm : mT} {X d J : Nat} {L C Q : Nat → Int32}
theorem m_R.st (h : m_R k B Tm L C Q) : m_R k B (fun W => Tm W + m_sg (m_h k P W X) (X + 1) 0) L C Q := h.cg (fun W => by show Tm W + 0 = _; exact Int32.add_zero _)
theorem m_R.no (h : m_R k B (fun W => Tm W + m_sg (m_h k P W X) (X + 1) d) L C Q) (hd : X + 1 + d = J) (hn : ¬ f_mt k (P X) (P J)) : m_R k B (fun W => Tm W + m_sg (m_h k P W X) (X + 1) (d + 1)) L C Q := h.cg (fun W => by
  show Tm W + (m_sg (m_h k P W X) (X + 1) d + m_h k P W X (X + 1 + d)) = _
  rw [hd, m_h.f hn, Int32.add_zero])
theorem m_R.yes {L' C' Q' L2 C2 Q2 : Nat → Int32} (h : m_R k B (fun W => Tm W + m_sg (m_h k P W X) (X + 1) d) L C Q) (hd : X + 1 + d = J) (hm : f_mt k (P X) (P J)) (h1 : m_one k B (P X) (P J) L C Q L' C' Q') (h2 : m_one k B (P J) (P X) L' C' Q' L2 C2 Q2) (hp : 0 ≤ k.2.1 1249 (P X).toNatClampNeg ∧ k.2.1 1249 (P X).toNatClampNeg < 8) (hq : 0 ≤ k.2.1 1249 (P J).toNatClampNeg ∧ k.2.1 1249 (P J).toNatClampNeg < 8) : m_R k B (fun W => Tm W + m_sg (m_h k P W X) (X + 1) (d + 1)) L2 C2 Q2 :=
  (h.both h1 h2 hp hq).cg (fun W => by
    show Tm W + (m_sg (m_h k P W X) (X + 1) d + m_h k P W X (X + 1 + d)) = _
    rw [hd, m_h.t hm]; ac_rfl)
theorem m_R.end {e D : Nat} (h : m_R k B (fun W => Tm W + m_sg (m_h k P W X) (X + 1) d) L C Q) (hD : D = d + e) (hn : ∀ i, X + 1 + d ≤ i → i < X + 1 + d + e → ¬ f_mt k (P X) (P i)) : m_R k B (fun W => Tm W + m_sg (m_h k P W X) (X + 1) D) L C Q := h.cg (fun W => by
  subst hD
  show Tm W + m_sg (m_h k P W X) (X + 1) (d + e) = _
  rw [m_sg_cut e (fun i h1 h2 => m_h.f (hn i h1 h2))])
/-- one that doesn't count meets nobody -/
theorem m_R.skip {n : Nat} (h : m_R k B (fun W => m_tr (m_h k P W) n X) L C Q) (hn : ¬ f_co k (P X)) : m_R k B (fun W => m_tr (m_h k P W) n (X + 1)) L C Q := h.cg (fun W => by
  show m_tr (m_h k P W) n X + m_sg (m_h k P W X) (X + 1) (n - (X + 1)) = _
  rw [m_sg_0 _ (fun i _ _ => m_h.f (fun q => hn q.1)), Int32.add_zero])
end MR
theorem m_R.fin {k : qS} {P B : Nat → Int32} {X : Nat} {L C Q : Nat → Int32} (h : m_R k B (fun W => m_tr (m_h k P W) (k.1 1247).toNatClampNeg X) L C Q) (e : X = (k.1 1247).toNatClampNeg) (ho : t_ord k P) : m_R k B (f_M k) L C Q := h.cg (fun W => by
  subst e; exact (m_all ho W).symm)
theorem m_bu {k u : qS} {P : Nat → Int32} {i : Int32} (hk : CT k P u) (hi : 0 ≤ i ∧ i < u.1 10) (h9 : 0 ≤ u.1 9 ∧ u.1 9 ≤ 8) : 0 ≤ k.2.1 1249 (P i.toNatClampNeg).toNatClampNeg ∧ k.2.1 1249 (P i.toNatClampNeg).toNatClampNeg < 8 := by
  have p := hk.ps hi
  have p0 : 0 ≤ (P i.toNatClampNeg).toInt := Int32.le_iff_toInt_le.mp p.1
  have p1 := Int32.lt_iff_toInt_lt.mp p.2
  have c1 := g_clamp (P i.toNatClampNeg)
  have c2 := g_clamp (k.1 1247)
  have b := (hk.2.2.2.2.2.1 (P i.toNatClampNeg).toNatClampNeg (by omega)).2.1
  rw [hk.1.2.2.1] at h9
  have e8 : (k.1 1239).toInt ≤ 8 := Int32.le_iff_toInt_le.mp h9.2
  exact ⟨Int32.le_iff_toInt_le.mpr b.1, Int32.lt_iff_toInt_lt.mpr (by show _ < (8 : Int); omega)⟩
theorem m_sh {k u : qS} {P : Nat → Int32} {i : Int32} (hk : CT k P u) (hi : 0 ≤ i ∧ i < u.1 10) (h8 : 0 ≤ u.1 8 ∧ u.1 8 ≤ 20) : 0 ≤ k.2.1 1248 i.toNatClampNeg ∧ k.2.1 1248 i.toNatClampNeg < 20 := by
  have p0 : 0 ≤ i.toInt := Int32.le_iff_toInt_le.mp hi.1
  have p1 := Int32.lt_iff_toInt_lt.mp hi.2
  rw [hk.1.1] at p1
  have c1 := g_clamp i
  have c2 := g_clamp (k.1 1247)
  have b := (hk.2.2.2.2.2.1 i.toNatClampNeg (by omega)).1
  rw [hk.1.2.1] at h8
  have e8 : (k.1 1232).toInt ≤ 20 := Int32.le_iff_toInt_le.mp h8.2
  exact ⟨Int32.le_iff_toInt_le.mpr b.1, Int32.lt_iff_toInt_lt.mpr (by show _ < (20 : Int); omega)⟩
/-- in a later week nobody is met -/
theorem m_late {k : qS} {P : Nat → Int32} {X J i : Nat} (ho : t_ord k P) (hb : t_bd k) (hX : X < J) (hJ : J ≤ i) (hi : i < (k.1 1247).toNatClampNeg) (hw : ¬ k.2.1 1250 (P J).toNatClampNeg / 7 = k.2.1 1250 (P X).toNatClampNeg / 7) : ¬ f_mt k (P X) (P i) := fun q => by
  have day : ∀ j, j < (k.1 1247).toNatClampNeg → 0 ≤ (k.2.1 1250 (P j).toNatClampNeg).toInt := fun j hj => by
    have p := ho.1 j hj
    have c1 := g_clamp (P j)
    have c2 := g_clamp (k.1 1247)
    exact (hb.1 (P j).toNatClampNeg (by omega)).2.2.1.1
  have le : ∀ a b, a < b → b < (k.1 1247).toNatClampNeg → (k.2.1 1250 (P a).toNatClampNeg).toInt ≤ (k.2.1 1250 (P b).toNatClampNeg).toInt := fun a b h1 h2 => by
    have o := ho.2.2 a b h1 h2
    omega
  have d1 := le X J hX (by omega)
  have d2 : (k.2.1 1250 (P J).toNatClampNeg).toInt ≤ (k.2.1 1250 (P i).toNatClampNeg).toInt := by
    rcases Nat.lt_or_ge J i with z | z
    · exact le J i z hi
    · have e : J = i := by omega
      rw [e]; exact Int.le_refl _
  have e := q.2.2.2.1
  have e2 : (k.2.1 1250 (P X).toNatClampNeg / 7).toInt = (k.2.1 1250 (P i).toNatClampNeg / 7).toInt := by rw [e]
  rw [m_div7 (day X (by omega)), m_div7 (day i hi)] at e2
  refine hw (Int32.toInt_inj.mp ?_)
  rw [m_div7 (day J (by omega)), m_div7 (day X (by omega))]
  omega
/-! what is added up over days -/
noncomputable def f_ad (k : qS) (W : Int32 → Int32) (x y s : Int32) (n : Nat) : Int32 := m_sm (fun i => @ite _ (f_cs k x y s (Int32.ofNat i)) (Classical.propDecidable _) (W (Int32.ofNat i)) 0) n
def m_A (k : qS) (W : Int32 → Int32) (x y : Int32) (F : Nat → Int32) (n : Nat) : Prop := ∀ s : Int32, 0 ≤ s → s < 20 → F s.toNatClampNeg = f_ad k W x y s n
theorem m_A.nil {k : qS} {W : Int32 → Int32} {x y : Int32} {F : Nat → Int32} (h : ∀ i : Nat, i < 20 → F i = 0) : m_A k W x y F 0 := fun s s0 s1 => by
  have a : 0 ≤ s.toInt := Int32.le_iff_toInt_le.mp s0
  have b : s.toInt < 20 := Int32.lt_iff_toInt_lt.mp s1
  have c := g_clamp s
  exact h _ (by omega)
theorem m_A.no {k : qS} {W : Int32 → Int32} {x y v : Int32} {F : Nat → Int32} (h : m_A k W x y F v.toNatClampNeg) (h0 : 0 ≤ v.toInt) (hn : ¬ (f_co k v ∧ x ≤ k.2.1 1250 v.toNatClampNeg ∧ k.2.1 1250 v.toNatClampNeg ≤ y)) : m_A k W x y F (v.toNatClampNeg + 1) := fun s s0 s1 => by
  rw [h s s0 s1]
  unfold f_ad
  rw [m_sm_s, f_of h0, if_neg (fun q => hn ⟨q.1, q.2.2⟩), Int32.add_zero]
theorem m_A.yes {k : qS} {W : Int32 → Int32} {x y v : Int32} {F F' : Nat → Int32} (h : m_A k W x y F v.toNatClampNeg) (h0 : 0 ≤ v.toInt) (hc : f_co k v) (hd : x ≤ k.2.1 1250 v.toNatClampNeg ∧ k.2.1 1250 v.toNatClampNeg ≤ y) (hs : 0 ≤ k.2.1 1248 v.toNatClampNeg ∧ k.2.1 1248 v.toNatClampNeg < 20) (hF : F' = upd F (k.2.1 1248 v.toNatClampNeg).toNatClampNeg (F (k.2.1 1248 v.toNatClampNeg).toNatClampNeg + W v)) : m_A k W x y F' (v.toNatClampNeg + 1) := fun s s0 s1 => by
  subst hF
  have e := h s s0 s1
  unfold f_ad at e ⊢
  rw [m_sm_s, f_of h0]
  by_cases q : k.2.1 1248 v.toNatClampNeg = s
  · rw [if_pos ⟨hc, q, hd⟩, q, pk_us, e]
  · have ne : s.toNatClampNeg ≠ (k.2.1 1248 v.toNatClampNeg).toNatClampNeg := fun z => q (g_inj (Int32.le_iff_toInt_le.mp hs.1) (Int32.le_iff_toInt_le.mp s0) z.symm)
    rw [if_neg (fun z => q z.2.1), Int32.add_zero, pk_un ne, e]
/-- how many count -/
theorem m_cnt {k : qS} {x y s : Int32} : ∀ n : Nat, n ≤ 1000 → (f_ad k (fun _ => 1) x y s n).toInt = (f_n (f_cs k x y s) n : Int)
  | 0, _ => rfl
  | n + 1, h => by
    have ih := m_cnt (k := k) (x := x) (y := y) (s := s) n (by omega)
    have le : f_n (f_cs k x y s) n ≤ n := by rw [f_n_ct]; exact k_ct_m n
    unfold f_ad at ih ⊢
    rw [m_sm_s]
    by_cases q : f_cs k x y s (Int32.ofNat n)
    · rw [if_pos q, f_n.t q, (g_up (by rw [ih]; omega) (by rw [ih]; omega)).1, ih]; rfl
    · rw [if_neg q, f_n.f q, Int32.add_zero, ih]
/-- a shop has a mean -/
def f_HM (k : qS) (x y z : Int32) : Prop := (0 ≤ x ∧ x < k.1 1232) ∧ ((0 ≤ y ∧ y ≤ 9999) ∧ (0 ≤ z ∧ z ≤ 9999) ∧ y ≤ z) ∧ 0 < f_ad k (fun _ => 1) y z x (k.1 1247).toNatClampNeg
theorem m_pt {k : qS} {p q a b : Int32} (h : f_mt k p q) (p0 : 0 ≤ p.toInt) (q0 : 0 ≤ q.toInt) (ha : k.2.1 1249 p.toNatClampNeg = a) (hb : k.2.1 1249 q.toNatClampNeg = b) : f_mg k (w_P k a b) p.toNatClampNeg q.toNatClampNeg = 1 := by
  unfold f_mg w_P
  rw [f_of p0, f_of q0, if_pos h, if_pos ⟨ha, hb⟩]
theorem m_p0 {k : qS} {p q a b : Int32} (p0 : 0 ≤ p.toInt) (q0 : 0 ≤ q.toInt) (h : f_mt k p q → k.2.1 1249 p.toNatClampNeg = a → k.2.1 1249 q.toNatClampNeg = b → False) : f_mg k (w_P k a b) p.toNatClampNeg q.toNatClampNeg = 0 := by
  unfold f_mg w_P
  rw [f_of p0, f_of q0]
  by_cases z : f_mt k p q
  · rw [if_pos z, if_neg (fun y => h z y.1 y.2)]
  · rw [if_neg z]
