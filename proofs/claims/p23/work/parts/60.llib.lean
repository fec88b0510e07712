/-! both worlds, and the law's calls -/
/-- the law's row of one long -/
def qRo (E : qE) (u : qS) (o : Nat) : Prop := ∃ (k : Nat) (g : Nat → Int64), u.2.2.2.2[k]? = some (o, .inl (E.2.1 3, 1, .inr (.inl g)))
theorem qRo.fr {E : qE} {M R G X : List Nat} {u v : qS} {o : Nat} (h : qRo E u o) (hf : qFc M R G X u v) : qRo E v o := by
  obtain ⟨k, g, hk⟩ := h
  exact ⟨k, g, hf.a k o _ hk⟩
/-- where the other keeps what a visit tells -/
def qrw : Nat → Nat
  | 1 => 1255
  | 2 => 1248
  | 3 => 1249
  | 4 => 1250
  | 5 => 1251
  | 6 => 1252
  | 7 => 1253
  | _ => 1254
/-- the visits are the same -/
def RV0 (u v : qS) : Prop := ∀ i : Nat, i < (u.1 10).toNatClampNeg → ∃ (a dd : Nat) (fs : List Value), qxr u 2 i = some a ∧ u.2.2.2.2[dd]? = some (a, .inr (10, fs)) ∧ ∀ j : Nat, 0 < j → j < 9 → fs[j]? = some (.int (v.2.1 (qrw j) i))
theorem RV0.fr {M R G X : List Nat} {u v w v' : qS} (h : RV0 u v) (hf : qFc M R G X u w) (h10 : 10 ∉ M) (h2 : 2 ∉ X) (h5 : 5000 ∉ X) (hv : ∀ n ∈ [1248, 1249, 1250, 1251, 1252, 1253, 1254, 1255], v'.2.1 n = v.2.1 n) : RV0 w v' := fun i hi => by
  rw [hf.1 10 h10] at hi
  obtain ⟨a, dd, fs, e1, e2, e3⟩ := h i hi
  obtain ⟨f1, k1, -, k3⟩ := hf.k dd a 10 fs e2
  refine ⟨a, dd, f1, ?_, k1, fun j h0 h9 => ?_⟩
  · show w.2.2.2.1 2 i = _; rw [hf.2.2.2.1 2 h2]; exact e1
  · rw [k3 h5 j h9, e3 j h0 h9]
    have q : v'.2.1 (qrw j) = v.2.1 (qrw j) := hv _ (by
      rcases (by omega : j = 1 ∨ j = 2 ∨ j = 3 ∨ j = 4 ∨ j = 5 ∨ j = 6 ∨ j = 7 ∨ j = 8) with e | e | e | e | e | e | e | e <;> (subst e; decide))
    rw [q]
theorem RV0.v {u v v' : qS} (h : RV0 u v) (hv : ∀ n ∈ [1248, 1249, 1250, 1251, 1252, 1253, 1254, 1255], v'.2.1 n = v.2.1 n) : RV0 u v' := h.fr (qFc.rf (M := []) (R := []) (G := []) (X := [])) (by decide) (by decide) (by decide) hv
theorem RV0.set {u v : qS} {k o : Nat} {x y : ClassId × vp_A} (h : RV0 u v) (hk : u.2.2.2.2[k]? = some (o, .inl x)) : RV0 (qsX u (u.2.2.2.2.set k (o, .inl y))) v := fun i hi => by
  obtain ⟨a, dd, fs, e1, e2, e3⟩ := h i hi
  refine ⟨a, dd, fs, e1, ?_, e3⟩
  have ne : k ≠ dd := fun q => by subst q; rw [hk] at e2; injection e2 with e2; injection e2 with _ e2; cases e2
  exact (List.getElem?_set_ne ne).trans e2
theorem RV0.at {u v : qS} (h : RV0 u v) (hD : qDi u.2.2.2.2) {i j : Nat} (hi : i < (u.1 10).toNatClampNeg) (h0 : 0 < j) (h9 : j < 9) : cvr u j i = v.2.1 (qrw j) i := by
  obtain ⟨a, dd, fs, e1, e2, e3⟩ := h i hi
  rw [cvr_at (a := a) e1]
  exact qfd_at hD e2 (e3 j h0 h9)
theorem g_ct_cg {f g f' g' : Nat → Int32} {b d : Int32} : ∀ n : Nat, (∀ i, i < n → f i = f' i ∧ g i = g' i) → g_ct f g b d n = g_ct f' g' b d n
  | 0, _ => rfl
  | n + 1, h => by
    show g_ct f g b d n + _ = g_ct f' g' b d n + _
    rw [g_ct_cg n (fun i hi => h i (by omega)), (h n (by omega)).1, (h n (by omega)).2]
theorem RV0.ct {u v : qS} (h : RV0 u v) (hD : qDi u.2.2.2.2) (y z : Int32) : g_ct (cvr u 3) (cvr u 4) y z (u.1 10).toNatClampNeg = g_ct (v.2.1 1249) (v.2.1 1250) y z (u.1 10).toNatClampNeg := g_ct_cg _ (fun i hi => ⟨h.at hD hi (by decide) (by decide), h.at hD hi (by decide) (by decide)⟩)
theorem RV0.new {u v w v' : qS} {x y z a b c e n : Int32} (h : RV0 u v) (hw : qVn u w x y z a b c e) (h0 : 0 ≤ (u.1 10).toInt ∧ (u.1 10).toInt < 120) (h1 : w.1 10 = u.1 10 + 1) (hn : n = u.1 10) (hd : v.1 1230 = u.1 13)
    (e1 : v'.2.1 1248 = upd (v.2.1 1248) n.toNatClampNeg x) (e2 : v'.2.1 1249 = upd (v.2.1 1249) n.toNatClampNeg y) (e3 : v'.2.1 1250 = upd (v.2.1 1250) n.toNatClampNeg z) (e4 : v'.2.1 1251 = upd (v.2.1 1251) n.toNatClampNeg a) (e5 : v'.2.1 1252 = upd (v.2.1 1252) n.toNatClampNeg b) (e6 : v'.2.1 1253 = upd (v.2.1 1253) n.toNatClampNeg c) (e7 : v'.2.1 1254 = upd (v.2.1 1254) n.toNatClampNeg e) (e8 : v'.2.1 1255 = upd (v.2.1 1255) n.toNatClampNeg (v.1 1230)) : RV0 w v' := fun i hi => by
  subst hn
  obtain ⟨q, w1, w2, w3⟩ := hw
  have up := g_up (i := u.1 10) h0.1 (by omega)
  rw [h1, up.2] at hi
  by_cases ei : i = (u.1 10).toNatClampNeg
  · subst ei
    refine ⟨q, u.2.2.2.2.length, _, by rw [w1]; exact g_vs, w2, fun j h0 h9 => ?_⟩
    rcases (by omega : j = 1 ∨ j = 2 ∨ j = 3 ∨ j = 4 ∨ j = 5 ∨ j = 6 ∨ j = 7 ∨ j = 8) with r | r | r | r | r | r | r | r <;> subst r
    · show some (Value.int (u.1 13)) = some (.int (v'.2.1 1255 _)); rw [e8, pk_us, hd]
    · show some (Value.int x) = some (.int (v'.2.1 1248 _)); rw [e1, pk_us]
    · show some (Value.int y) = some (.int (v'.2.1 1249 _)); rw [e2, pk_us]
    · show some (Value.int z) = some (.int (v'.2.1 1250 _)); rw [e3, pk_us]
    · show some (Value.int a) = some (.int (v'.2.1 1251 _)); rw [e4, pk_us]
    · show some (Value.int b) = some (.int (v'.2.1 1252 _)); rw [e5, pk_us]
    · show some (Value.int c) = some (.int (v'.2.1 1253 _)); rw [e6, pk_us]
    · show some (Value.int e) = some (.int (v'.2.1 1254 _)); rw [e7, pk_us]
  · obtain ⟨a', dd, fs, k1, k2, k3⟩ := h i (by omega)
    refine ⟨a', dd, fs, by rw [w1, g_vu ei]; exact k1, (w3 dd (List.getElem?_eq_some_iff.mp k2).1).trans k2, fun j h0 h9 => ?_⟩
    rw [k3 j h0 h9]
    rcases (by omega : j = 1 ∨ j = 2 ∨ j = 3 ∨ j = 4 ∨ j = 5 ∨ j = 6 ∨ j = 7 ∨ j = 8) with r | r | r | r | r | r | r | r <;> subst r
    · show some (Value.int (v.2.1 1255 i)) = some (.int (v'.2.1 1255 i)); rw [e8, pk_un ei]
    · show some (Value.int (v.2.1 1248 i)) = some (.int (v'.2.1 1248 i)); rw [e1, pk_un ei]
    · show some (Value.int (v.2.1 1249 i)) = some (.int (v'.2.1 1249 i)); rw [e2, pk_un ei]
    · show some (Value.int (v.2.1 1250 i)) = some (.int (v'.2.1 1250 i)); rw [e3, pk_un ei]
    · show some (Value.int (v.2.1 1251 i)) = some (.int (v'.2.1 1251 i)); rw [e4, pk_un ei]
    · show some (Value.int (v.2.1 1252 i)) = some (.int (v'.2.1 1252 i)); rw [e5, pk_un ei]
    · show some (Value.int (v.2.1 1253 i)) = some (.int (v'.2.1 1253 i)); rw [e6, pk_un ei]
    · show some (Value.int (v.2.1 1254 i)) = some (.int (v'.2.1 1254 i)); rw [e7, pk_un ei]
/-- the shops are the same -/
def RS (u v : qS) : Prop := ∀ i : Nat, i < (u.1 8).toNatClampNeg → ∃ (a dd p dp : Nat), qxr u 0 i = some a ∧ u.2.2.2.2[dd]? = some (a, .inr (7, [.ref p, .int (v.2.1 1235 i), .int (v.2.1 1236 i), .int (v.2.1 1237 i), .int (v.2.1 1238 i)])) ∧ u.2.2.2.2[dp]? = some (p, .inr (4, [.int (v.2.1 1233 i), .int (v.2.1 1234 i)]))
theorem RS.fr {M R G X : List Nat} {u v w v' : qS} (h : RS u v) (hf : qFc M R G X u w) (h8 : 8 ∉ M) (h0 : 0 ∉ X) (hv : ∀ n ∈ [1233, 1234, 1235, 1236, 1237, 1238], v'.2.1 n = v.2.1 n) : RS w v' := fun i hi => by
  rw [hf.1 8 h8] at hi
  obtain ⟨a, dd, p, dp, e1, e2, e3⟩ := h i hi
  obtain ⟨f1, k1, k2, -⟩ := hf.k dd a 7 _ e2
  obtain ⟨f2, j1, j2, -⟩ := hf.k dp p 4 _ e3
  rw [k2 (by decide)] at k1
  rw [j2 (by decide)] at j1
  refine ⟨a, dd, p, dp, ?_, ?_, ?_⟩
  · show w.2.2.2.1 0 i = _; rw [hf.2.2.2.1 0 h0]; exact e1
  · rw [hv 1235 (by decide), hv 1236 (by decide), hv 1237 (by decide), hv 1238 (by decide)]; exact k1
  · rw [hv 1233 (by decide), hv 1234 (by decide)]; exact j1
theorem RS.set {u v : qS} {k o : Nat} {x y : ClassId × vp_A} (h : RS u v) (hk : u.2.2.2.2[k]? = some (o, .inl x)) : RS (qsX u (u.2.2.2.2.set k (o, .inl y))) v := fun i hi => by
  obtain ⟨a, dd, p, dp, e1, e2, e3⟩ := h i hi
  have n1 : k ≠ dd := fun q => by subst q; rw [hk] at e2; injection e2 with e2; injection e2 with _ e2; cases e2
  have n2 : k ≠ dp := fun q => by subst q; rw [hk] at e3; injection e3 with e3; injection e3 with _ e3; cases e3
  exact ⟨a, dd, p, dp, e1, (List.getElem?_set_ne n1).trans e2, (List.getElem?_set_ne n2).trans e3⟩
theorem RS.at {u v : qS} (h : RS u v) (hD : qDi u.2.2.2.2) {i : Nat} (hi : i < (u.1 8).toNatClampNeg) : csr u 4 i = v.2.1 1238 i := by
  obtain ⟨a, dd, p, dp, e1, e2, e3⟩ := h i hi
  rw [csr_at (a := a) e1]
  exact qsd_at hD e2 rfl
theorem RS.new {u v w v' : qS} {x y c f t z n : Int32} (h : RS u v) (hw : qSn u w x y c f t z) (h0 : 0 ≤ (u.1 8).toInt ∧ (u.1 8).toInt < 20) (h1 : w.1 8 = u.1 8 + 1) (hn : n = u.1 8)
    (e1 : v'.2.1 1233 = upd (v.2.1 1233) n.toNatClampNeg x) (e2 : v'.2.1 1234 = upd (v.2.1 1234) n.toNatClampNeg y) (e3 : v'.2.1 1235 = upd (v.2.1 1235) n.toNatClampNeg c) (e4 : v'.2.1 1236 = upd (v.2.1 1236) n.toNatClampNeg f) (e5 : v'.2.1 1237 = upd (v.2.1 1237) n.toNatClampNeg t) (e6 : v'.2.1 1238 = upd (v.2.1 1238) n.toNatClampNeg z) : RS w v' := fun i hi => by
  subst hn
  obtain ⟨q, p, w1, w2, w3, w4⟩ := hw
  have up := g_up (i := u.1 8) h0.1 (by omega)
  rw [h1, up.2] at hi
  by_cases ei : i = (u.1 8).toNatClampNeg
  · subst ei
    refine ⟨q, u.2.2.2.2.length, p, u.2.2.2.2.length + 1, by rw [w1]; exact g_vs, ?_, ?_⟩
    · rw [e3, e4, e5, e6, pk_us, pk_us, pk_us, pk_us]; exact w2
    · rw [e1, e2, pk_us, pk_us]; exact w3
  · obtain ⟨a, dd, p', dp, k1, k2, k3⟩ := h i (by omega)
    refine ⟨a, dd, p', dp, by rw [w1, g_vu ei]; exact k1, ?_, ?_⟩
    · rw [e3, e4, e5, e6, pk_un ei, pk_un ei, pk_un ei, pk_un ei]; exact (w4 dd (List.getElem?_eq_some_iff.mp k2).1).trans k2
    · rw [e1, e2, pk_un ei, pk_un ei]; exact (w4 dp (List.getElem?_eq_some_iff.mp k3).1).trans k3
/-- when the visits were told -/
def RT (u v : qS) : Prop := ∀ i : Nat, i < (u.1 10).toNatClampNeg → 0 ≤ (v.2.1 1255 i).toInt ∧ (v.2.1 1255 i).toInt ≤ 9999
/-- the homes are the same -/
def RH (u v : qS) : Prop := ∀ i : Nat, i < (u.1 9).toNatClampNeg → ∃ (a dd : Nat), qxr u 1 i = some a ∧ u.2.2.2.2[dd]? = some (a, .inr (4, [.int (v.2.1 1240 i), .int (v.2.1 1241 i)]))
theorem RH.fr {M R G X : List Nat} {u v w v' : qS} (h : RH u v) (hf : qFc M R G X u w) (h9 : 9 ∉ M) (h1 : 1 ∉ X) (hv : ∀ n ∈ [1240, 1241], v'.2.1 n = v.2.1 n) : RH w v' := fun i hi => by
  rw [hf.1 9 h9] at hi
  obtain ⟨a, dd, e1, e2⟩ := h i hi
  obtain ⟨f1, k1, k2, -⟩ := hf.k dd a 4 _ e2
  rw [k2 (by decide)] at k1
  refine ⟨a, dd, ?_, ?_⟩
  · show w.2.2.2.1 1 i = _; rw [hf.2.2.2.1 1 h1]; exact e1
  · rw [hv 1240 (by decide), hv 1241 (by decide)]; exact k1
theorem RH.set {u v : qS} {k o : Nat} {x y : ClassId × vp_A} (h : RH u v) (hk : u.2.2.2.2[k]? = some (o, .inl x)) : RH (qsX u (u.2.2.2.2.set k (o, .inl y))) v := fun i hi => by
  obtain ⟨a, dd, e1, e2⟩ := h i hi
  have n1 : k ≠ dd := fun q => by subst q; rw [hk] at e2; injection e2 with e2; injection e2 with _ e2; cases e2
  exact ⟨a, dd, e1, (List.getElem?_set_ne n1).trans e2⟩
theorem RH.at {u v : qS} (h : RH u v) (hD : qDi u.2.2.2.2) {i : Nat} (hi : i < (u.1 9).toNatClampNeg) : chm u 0 i = v.2.1 1240 i ∧ chm u 1 i = v.2.1 1241 i := by
  obtain ⟨a, dd, e1, e2⟩ := h i hi
  exact ⟨(chm_at (a := a) e1).trans (qpd_at hD e2 rfl), (chm_at (a := a) e1).trans (qpd_at hD e2 rfl)⟩
theorem RS.pl {u v : qS} (h : RS u v) (hD : qDi u.2.2.2.2) {i : Nat} (hi : i < (u.1 8).toNatClampNeg) : (cpl u 0 i = v.2.1 1233 i ∧ cpl u 1 i = v.2.1 1234 i) ∧ csr u 1 i = v.2.1 1235 i := by
  obtain ⟨a, dd, p, dp, e1, e2, e3⟩ := h i hi
  have ep : qsp u.2.2.2.2 a = p := qsp_at hD e2 rfl
  exact ⟨⟨(cpl_at (a := a) e1).trans (by rw [ep]; exact qpd_at hD e3 rfl), (cpl_at (a := a) e1).trans (by rw [ep]; exact qpd_at hD e3 rfl)⟩, (csr_at (a := a) e1).trans (qsd_at hD e2 rfl)⟩
theorem RH.new {u v w v' : qS} {x y n : Int32} (h : RH u v) (hw : qHn u w x y) (h0 : 0 ≤ (u.1 9).toInt ∧ (u.1 9).toInt < 8) (h1 : w.1 9 = u.1 9 + 1) (hn : n = u.1 9)
    (e1 : v'.2.1 1240 = upd (v.2.1 1240) n.toNatClampNeg x) (e2 : v'.2.1 1241 = upd (v.2.1 1241) n.toNatClampNeg y) : RH w v' := fun i hi => by
  subst hn
  obtain ⟨q, w1, w2, w3⟩ := hw
  have up := g_up (i := u.1 9) h0.1 (by omega)
  rw [h1, up.2] at hi
  by_cases ei : i = (u.1 9).toNatClampNeg
  · subst ei
    exact ⟨q, u.2.2.2.2.length, by rw [w1]; exact g_vs, by rw [e1, e2, pk_us, pk_us]; exact w2⟩
  · obtain ⟨a, dd, k1, k2⟩ := h i (by omega)
    exact ⟨a, dd, by rw [w1, g_vu ei]; exact k1, by rw [e1, e2, pk_un ei, pk_un ei]; exact (w3 dd (List.getElem?_eq_some_iff.mp k2).1).trans k2⟩
/-- how far the numbers go -/
def Bd (n : Int32) (f : Nat → Int32) (hi : Int) : Prop := ∀ i : Nat, i < n.toNatClampNeg → 0 ≤ (f i).toInt ∧ (f i).toInt ≤ hi
theorem Bd.put {n x : Int32} {f : Nat → Int32} {hi : Int} (h : Bd n f hi) (hx : 0 ≤ x.toInt ∧ x.toInt ≤ hi) (hn : 0 ≤ n.toInt ∧ n.toInt < 1000) : Bd (n + 1) (upd f n.toNatClampNeg x) hi := fun i hi2 => by
  rw [(g_up (i := n) hn.1 (by omega)).2] at hi2
  by_cases ei : i = n.toNatClampNeg
  · subst ei; rw [pk_us]; exact hx
  · rw [pk_un ei]; exact h i (by omega)
def RB (u v : qS) : Prop := (Bd (u.1 8) (v.2.1 1233) 99 ∧ Bd (u.1 8) (v.2.1 1234) 99) ∧ (Bd (u.1 9) (v.2.1 1240) 99 ∧ Bd (u.1 9) (v.2.1 1241) 99) ∧ Bd (u.1 10) (v.2.1 1250) 9999 ∧ -1 ≤ (u.1 14).toInt
def RV (u v : qS) : Prop := RV0 u v ∧ RS u v ∧ RT u v ∧ RH u v ∧ RB u v
theorem RV.fr {M R G X : List Nat} {u v w v' : qS} (h : RV u v) (hf : qFc M R G X u w) (hM : ∀ n ∈ [10, 8, 9, 14], n ∉ M) (hX : ∀ n ∈ [2, 0, 1], n ∉ X) (h5 : 5000 ∉ X) (hv : ∀ n ∈ [1233, 1234, 1235, 1236, 1237, 1238, 1240, 1241, 1248, 1249, 1250, 1251, 1252, 1253, 1254, 1255], v'.2.1 n = v.2.1 n) : RV w v' :=
  ⟨h.1.fr hf (hM _ (by decide)) (hX _ (by decide)) h5 (fun n hn => hv n (by revert n; decide)), h.2.1.fr hf (hM _ (by decide)) (hX _ (by decide)) (fun n hn => hv n (by revert n; decide)), fun i hi => by
    rw [hf.1 10 (hM _ (by decide))] at hi
    rw [hv 1255 (by decide)]; exact h.2.2.1 i hi, h.2.2.2.1.fr hf (hM _ (by decide)) (hX _ (by decide)) (fun n hn => hv n (by revert n; decide)), by
    unfold RB
    rw [hf.1 8 (hM _ (by decide)), hf.1 9 (hM _ (by decide)), hf.1 10 (hM _ (by decide)), hf.1 14 (hM _ (by decide)), hv 1233 (by decide), hv 1234 (by decide), hv 1240 (by decide), hv 1241 (by decide), hv 1250 (by decide)]
    exact h.2.2.2.2⟩
theorem RV.v {u v v' : qS} (h : RV u v) (hv : ∀ n ∈ [1233, 1234, 1235, 1236, 1237, 1238, 1240, 1241, 1248, 1249, 1250, 1251, 1252, 1253, 1254, 1255], v'.2.1 n = v.2.1 n) : RV u v' := h.fr (qFc.rf (M := []) (R := []) (G := []) (X := [])) (by decide) (by decide) (by decide) hv
theorem RV.set {u v : qS} {k o : Nat} {x y : ClassId × vp_A} (h : RV u v) (hk : u.2.2.2.2[k]? = some (o, .inl x)) : RV (qsX u (u.2.2.2.2.set k (o, .inl y))) v := ⟨h.1.set hk, h.2.1.set hk, h.2.2.1, h.2.2.2.1.set hk, h.2.2.2.2⟩
theorem IC.arr {E : qE} {u : qS} {k o : Nat} {g g' : Nat → Int64} (h : IC E u) (hk : u.2.2.2.2[k]? = some (o, .inl (E.2.1 3, 1, .inr (.inl g)))) : IC E (qsX u (u.2.2.2.2.set k (o, .inl (E.2.1 3, 1, .inr (.inl g'))))) := by
  have hlt := (List.getElem?_eq_some_iff.mp hk).1
  have kp : ∀ (j a c : Nat) (fs : List Value), (u.2.2.2.2.set k (o, .inl (E.2.1 3, 1, .inr (.inl g'))))[j]? = some (a, .inr (c, fs)) → u.2.2.2.2[j]? = some (a, .inr (c, fs)) := fun j a c fs hj => by
    by_cases e : k = j
    · subst e; rw [List.getElem?_set_self hlt] at hj; injection hj with hj; injection hj with _ hj; cases hj
    · rw [List.getElem?_set_ne e] at hj; exact hj
  have kb : ∀ (j a c : Nat) (fs : List Value), u.2.2.2.2[j]? = some (a, .inr (c, fs)) → (u.2.2.2.2.set k (o, .inl (E.2.1 3, 1, .inr (.inl g'))))[j]? = some (a, .inr (c, fs)) := fun j a c fs hj => by
    by_cases e : k = j
    · subst e; rw [hk] at hj; injection hj with hj; injection hj with _ hj; cases hj
    · rw [List.getElem?_set_ne e]; exact hj
  have rf : ∀ a c, qRf u a c → qRf (qsX u (u.2.2.2.2.set k (o, .inl (E.2.1 3, 1, .inr (.inl g'))))) a c := fun a c ⟨j, fs, hj⟩ => ⟨j, fs, kb j a c fs hj⟩
  have rv : ∀ a, qRv u a → qRv (qsX u (u.2.2.2.2.set k (o, .inl (E.2.1 3, 1, .inr (.inl g'))))) a := fun a ⟨j, n, fs, hj, h0, h1⟩ => ⟨j, n, fs, kb j a 10 _ hj, h0, h1⟩
  refine ⟨h.1, fun j a c fs hj => ?_, ?_⟩
  · obtain ⟨h1, h2, h3, h4⟩ := h.2.1 j a c fs (kp j a c fs hj)
    refine ⟨h1, fun q => ?_, h3, fun q => ?_⟩
    · obtain ⟨q1, c1, o1, d1, r1, e1, e2⟩ := h2 q
      exact ⟨q1, c1, o1, d1, r1, e1, rf _ _ e2⟩
    · obtain ⟨c1, f1, t1, q1, k1, n1, g1, e1, e2, e3⟩ := h4 q
      refine ⟨c1, f1, t1, q1, k1, n1, g1, e1, ?_, e3⟩
      by_cases e : k = k1
      · subst e; rw [hk] at e2; injection e2 with e2; injection e2 with _ e2; injection e2 with e2; injection e2 with _ e2; injection e2 with _ e2; cases e2
      · show (u.2.2.2.2.set k _)[k1]? = _; rw [List.getElem?_set_ne e]; exact e2
  · exact ⟨fun i a b => (h.2.2.1 i a b).elim (fun w q => ⟨w, q.1, rf _ _ q.2⟩), fun i a b => (h.2.2.2.1 i a b).elim (fun w q => ⟨w, q.1, rf _ _ q.2⟩), fun i a b => (h.2.2.2.2.1 i a b).elim (fun w q => ⟨w, q.1, rv _ q.2⟩), fun i a b => (h.2.2.2.2.2.1 i a b).elim (fun w q => ⟨w, q.1, rv _ q.2⟩), fun i a b => (h.2.2.2.2.2.2.1 i a b).elim (fun w q => ⟨w, q.1, rf _ _ q.2⟩), fun i a b => (h.2.2.2.2.2.2.2.1 i a b).elim (fun w q => ⟨w, q.1, rv _ q.2⟩), h.2.2.2.2.2.2.2.2⟩
section L2
variable {p : Program} {l : Launch} {e : Env} {R : Room} {s : State} {m : MethodId} {args : Array Value} {below : List Frame} {meth : Method} {c : Code} {H H0 : Heap} {locs : List Loc} {cells slots : Nat} {Q : State → Prop}
variable {cc : ByteArray} {nL pc : Nat} {ls : Array Slot} {rest st0 As : List Value} {own : String} {E : qE} {A : Nat → Prop} {u v : qS} {y : MethodName} {bytes : ByteArray} {maxL index mc ms f : Nat} {ret : Option FieldType}
theorem q_lastd {T : Nat} {o : Nat} (hF : qX p m c cc nL s args own) (hU : qH E A T u s H) (hS : va_S A H0 H locs) (hdg : decode cc pc = .ok (.lastore, 1)) (hI : IC E u) (ho : qRo E u o) {x : Int64}
    (kk : ∀ (u' : qS) (H1 : Heap) (locs1 : List Loc), u'.1 = u.1 → (∀ v : qS, RV u v → RV u' v) → IC E u' → qRo E u' o → qH E A T u' s H1 → va_S A H0 H1 locs1 → W p l e R s m args below meth c H1 locs1 cells slots Q (F0 m (pc + 1) ls rest)) : W p l e R s m args below meth c H locs cells slots Q (F0 m pc ls (.long x :: .int 0 :: .ref o :: rest)) := by
  obtain ⟨k, g, hk⟩ := ho
  refine va_last (D := E.1) hF.1 hF.2.1 hU.1 hU.2.1 hU.2.2.1 hS _ 3 (cA := E.2.1 3) (n := 1) (f := g) (qW_dyn hk) rfl (q_in (by decide)) hdg (fun H1 locs1 h1 h2 h3 => ?_)
  rw [qW_setX] at h1 h2
  exact kk (qsX u (u.2.2.2.2.set k (o, .inl (E.2.1 3, 1, .inr (.inl (vp_updL g (Int32.toNatClampNeg 0) x)))))) H1 locs1 rfl (fun _ h => h.set hk) (hI.arr hk) ⟨k, _, List.getElem?_set_self (List.getElem?_eq_some_iff.mp hk).1⟩ ⟨hU.1, h1, h2, hU.2.2.2⟩ h3
def l_2 (E : qE) (A : Nat → Prop) (u v : qS) (s : State) (H : Heap) : Prop := qH E A 0 u s H ∧ qH E A 1 v s H ∧ ∀ (i j : Nat) (a b : Nat × va_E), (qW E 0 u)[i]? = some a → (qW E 1 v)[j]? = some b → a.1 ≠ b.1
theorem l_new0 (hV : l_2 E A u v s H) (hS : va_S A H0 H locs) (hA : ∀ q : Nat, H0.size ≤ q → A q) {u' : qS} {t : State} {H1 : Heap} (ht : t.heap = H1) (hvm : s.vm.Alike t.vm) (hB : qB E (va_A (qW E 0 u) H.size) 0 u' t) (hk : ∀ q : Nat, q < H.size → ¬ va_A (qW E 0 u) H.size q → H1[q]? = H[q]?) : l_2 E A u' v s H1 := by
  have hsub : ∀ q, va_A (qW E 0 u) H.size q → A q := fun q h => by
    rcases h with ⟨i, e, hi⟩ | h2
    · exact hV.1.2.2.1.2 i _ hi
    · exact hA q (Nat.le_trans hS.1 h2)
  have hn : ∀ (k : Nat) (q : Nat × va_E), (qW E 1 v)[k]? = some q → ¬ va_A (qW E 0 u) H.size q.1 := fun k q hq h => by
    have hlt := (hV.2.1.2.1 k q hq).lt
    rcases h with ⟨i, e, hi⟩ | h2
    · exact hV.2.2 i k (q.1, e) q hi hq rfl
    · omega
  have h0 : qH E A 0 u' s H1 := ⟨va_K.moved hvm.symm hB.1, by rw [← ht]; exact hB.2.1, ⟨hB.2.2.1.1, fun k q hq => hsub _ (hB.2.2.1.2 k q hq)⟩, hV.1.2.2.2⟩
  have h1 : qH E A 1 v s H1 := ⟨hV.2.1.1, hV.2.1.2.1.kept (fun k q hq => hk q.1 ((hV.2.1.2.1 k q hq).lt) (hn k q hq)), hV.2.1.2.2.1, hV.2.1.2.2.2⟩
  exact ⟨h0, h1, fun i j a b ha hb he => hn j b hb (by rw [← he]; exact hB.2.2.1.2 i a ha)⟩
theorem l_new1 (hV : l_2 E A u v s H) (hS : va_S A H0 H locs) (hA : ∀ q : Nat, H0.size ≤ q → A q) {v' : qS} {t : State} {H1 : Heap} (ht : t.heap = H1) (hvm : s.vm.Alike t.vm) (hB : qB E (va_A (qW E 1 v) H.size) 1 v' t) (hk : ∀ q : Nat, q < H.size → ¬ va_A (qW E 1 v) H.size q → H1[q]? = H[q]?) : l_2 E A u v' s H1 := by
  have hsub : ∀ q, va_A (qW E 1 v) H.size q → A q := fun q h => by
    rcases h with ⟨i, e, hi⟩ | h2
    · exact hV.2.1.2.2.1.2 i _ hi
    · exact hA q (Nat.le_trans hS.1 h2)
  have hn : ∀ (k : Nat) (q : Nat × va_E), (qW E 0 u)[k]? = some q → ¬ va_A (qW E 1 v) H.size q.1 := fun k q hq h => by
    have hlt := (hV.1.2.1 k q hq).lt
    rcases h with ⟨i, e, hi⟩ | h2
    · exact hV.2.2 k i q (q.1, e) hq hi rfl
    · omega
  have h0 : qH E A 1 v' s H1 := ⟨va_K.moved hvm.symm hB.1, by rw [← ht]; exact hB.2.1, ⟨hB.2.2.1.1, fun k q hq => hsub _ (hB.2.2.1.2 k q hq)⟩, hV.2.1.2.2.2⟩
  have h1 : qH E A 0 u s H1 := ⟨hV.1.1, hV.1.2.1.kept (fun k q hq => hk q.1 ((hV.1.2.1 k q hq).lt) (hn k q hq)), hV.1.2.2.1, hV.1.2.2.2⟩
  exact ⟨h1, h0, fun i j a b ha hb he => hn i a ha (by rw [he]; exact hB.2.2.1.2 j b hb)⟩
theorem qZw.narrow {B : Nat → Prop} {U : State} (h : qZw A U H) (hAB : ∀ q, B q → A q) : qZw B U H := by
  obtain ⟨t, f, h1, h2⟩ := h
  exact ⟨t, f, h1.narrow hAB, h2.narrow hAB⟩
theorem l_callC2 {post : Int32 → qS → Prop} (hF : qX p m c cc nL s args own) (hV : l_2 E A u v s H) (hS : va_S A H0 H locs) (hA : ∀ q : Nat, H0.size ≤ q → A q) (n : Nat)
    (hM : ∀ A' : Nat → Prop, Met l y (uws y bytes maxL ret) (qR f mc ms) (qPc E A' 0 u (.ref (E.2.2 1199) :: As)) (qQi E A' 0 post) mc ms A')
    (w1 : Cond.methodLink own index y ∈ qw_tbl) (w2 : Cond.instanceMethod y ∈ qw_tbl) (w3 : Cond.selects "SecretBuyers" y y ∈ qw_tbl) (w4 : Cond.initialized "SecretBuyers" ∈ qw_tbl) (w5 : Cond.code y bytes maxL ret ∈ qw_tbl)
    (hd : y.cls = "SecretBuyers" ∧ y.cls ≠ "java/lang/invoke/MethodHandle" ∧ y.cls ≠ "java/lang/invoke/VarHandle" ∧ (parseMethodDescriptor y.desc).map (fun d => d.parameters.length) = some n) (hR : f + 1 ≤ R.frames ∧ 8 + (maxL + 11) + 60 * f ≤ R.locals)
    (hdg : decode cc pc = .ok (.invokevirtual index, 3)) (hn : As.length = n) (hsize : ls.size = nL) (hstack : st0 = As.reverse ++ .ref (E.2.2 1199) :: rest) (hW : (rest.map fun v => v.category).sum ≤ 8) (hf : cells + mc ≤ R.cells ∧ slots + ms ≤ R.slots)
    (kk : ∀ (r : Int32) (u' : qS) (H1 : Heap) (locs1 : List Loc), post r u' → l_2 E A u' v s H1 → va_S A H0 H1 locs1 → W p l e R s m args below meth c H1 locs1 (cells + mc) (slots + ms) Q (F0 m (pc + 3) ls (.int r :: rest))) : W p l e R s m args below meth c H locs cells slots Q (F0 m pc ls st0) := by
  have hU : qH E (va_A (qW E 0 u) H.size) 0 u s H := ⟨hV.1.1, hV.1.2.1, hV.1.2.2.1.self, hV.1.2.2.2⟩
  have hsub : ∀ q, va_A (qW E 0 u) H.size q → A q := fun q h => by
    rcases h with ⟨i, e, hi⟩ | h2
    · exact hV.1.2.2.1.2 i _ hi
    · exact hA q (Nat.le_trans hS.1 h2)
  have hG : GoodIn qw_tbl (wsV own index "SecretBuyers" y (uws y bytes maxL ret)) := fun w hw => by
    rcases List.mem_append.mp hw with h | h
    · rcases List.mem_cons.mp h with e | h
      · rw [e]; exact ⟨w1, good_of_word (uw_g w1)⟩
      · rcases List.mem_cons.mp h with e | h
        · rw [e]; exact ⟨w2, good_of_word (uw_g w2)⟩
        · rcases List.mem_cons.mp h with e | h
          · rw [e]; exact ⟨w3, good_of_word (uw_g w3)⟩
          · rcases List.mem_cons.mp h with e | h
            · rw [e]; exact ⟨w4, good_of_word (uw_g w4)⟩
            · cases h
    · exact uw_in (fun _ h => h) w5 w h
  refine va_calli (va_runV (As := As) (rest := rest) hF.fix (hM (va_A (qW E 0 u) H.size)) (cwV n hF.2.2.2.2 hG rfl rfl rfl hd hR) ⟨qPc_blind, va_recv (q0 := 0) (ci := 11) hU.1 hU.2.1 rfl (qW_ob rfl), q_pre (H0 := H) hF hU va_S.rf (fun q h => Or.inr h) _⟩ rfl hn hsize hstack (lv_room hW) hdg hf) hS (fun q _ h => hsub q h) hsub (fun r u' t H1 locs1 ht hvm hw hB hz hk hS1 => kk r u' H1 locs1 hw (l_new0 hV hS hA ht hvm hB hk) hS1)
theorem l_callM2 {post : Int32 → qS → Prop} (hF : qX p m c cc nL s args own) (hV : l_2 E A u v s H) (hS : va_S A H0 H locs) (hA : ∀ q : Nat, H0.size ≤ q → A q) (n : Nat)
    (hM : ∀ A' : Nat → Prop, Met l y (uws y bytes maxL ret) (qR f mc ms) (qPc E A' 1 v (.ref (E.2.2 1299) :: As)) (qQi E A' 1 post) mc ms A')
    (w1 : Cond.methodLink own index y ∈ qw_tbl) (w2 : Cond.instanceMethod y ∈ qw_tbl) (w3 : Cond.selects "SecretBuyersModel" y y ∈ qw_tbl) (w4 : Cond.initialized "SecretBuyersModel" ∈ qw_tbl) (w5 : Cond.code y bytes maxL ret ∈ qw_tbl)
    (hd : y.cls = "SecretBuyersModel" ∧ y.cls ≠ "java/lang/invoke/MethodHandle" ∧ y.cls ≠ "java/lang/invoke/VarHandle" ∧ (parseMethodDescriptor y.desc).map (fun d => d.parameters.length) = some n) (hR : f + 1 ≤ R.frames ∧ 8 + (maxL + 11) + 60 * f ≤ R.locals)
    (hdg : decode cc pc = .ok (.invokevirtual index, 3)) (hn : As.length = n) (hsize : ls.size = nL) (hstack : st0 = As.reverse ++ .ref (E.2.2 1299) :: rest) (hW : (rest.map fun v => v.category).sum ≤ 8) (hf : cells + mc ≤ R.cells ∧ slots + ms ≤ R.slots)
    (kk : ∀ (r : Int32) (v' : qS) (H1 : Heap) (locs1 : List Loc), post r v' → l_2 E A u v' s H1 → va_S A H0 H1 locs1 → W p l e R s m args below meth c H1 locs1 (cells + mc) (slots + ms) Q (F0 m (pc + 3) ls (.int r :: rest))) : W p l e R s m args below meth c H locs cells slots Q (F0 m pc ls st0) := by
  have hU : qH E (va_A (qW E 1 v) H.size) 1 v s H := ⟨hV.2.1.1, hV.2.1.2.1, hV.2.1.2.2.1.self, hV.2.1.2.2.2⟩
  have hsub : ∀ q, va_A (qW E 1 v) H.size q → A q := fun q h => by
    rcases h with ⟨i, e, hi⟩ | h2
    · exact hV.2.1.2.2.1.2 i _ hi
    · exact hA q (Nat.le_trans hS.1 h2)
  have hG : GoodIn qw_tbl (wsV own index "SecretBuyersModel" y (uws y bytes maxL ret)) := fun w hw => by
    rcases List.mem_append.mp hw with h | h
    · rcases List.mem_cons.mp h with e | h
      · rw [e]; exact ⟨w1, good_of_word (uw_g w1)⟩
      · rcases List.mem_cons.mp h with e | h
        · rw [e]; exact ⟨w2, good_of_word (uw_g w2)⟩
        · rcases List.mem_cons.mp h with e | h
          · rw [e]; exact ⟨w3, good_of_word (uw_g w3)⟩
          · rcases List.mem_cons.mp h with e | h
            · rw [e]; exact ⟨w4, good_of_word (uw_g w4)⟩
            · cases h
    · exact uw_in (fun _ h => h) w5 w h
  refine va_calli (va_runV (As := As) (rest := rest) hF.fix (hM (va_A (qW E 1 v) H.size)) (cwV n hF.2.2.2.2 hG rfl rfl rfl hd hR) ⟨qPc_blind, va_recv (q0 := 0) (ci := 12) hU.1 hU.2.1 rfl (qW_ob rfl), q_pre (H0 := H) hF hU va_S.rf (fun q h => Or.inr h) _⟩ rfl hn hsize hstack (lv_room hW) hdg hf) hS (fun q _ h => hsub q h) hsub (fun r u' t H1 locs1 ht hvm hw hB hz hk hS1 => kk r u' H1 locs1 hw (l_new1 hV hS hA ht hvm hB hk) hS1)
theorem l_callW2 {post : Int32 → qS → Prop} (hF : qX p m c cc nL s args own) (hV : l_2 E A u v s H) (hS : va_S A H0 H locs) (hA : ∀ q : Nat, H0.size ≤ q → A q) (hZ : qZw A s H) (n : Nat)
    (hM : ∀ A' : Nat → Prop, Met l y (uws y bytes maxL ret) (qR f mc ms) (qPw E A' 0 u (.ref (E.2.2 1199) :: As)) (qQi E A' 0 post) mc ms A')
    (w1 : Cond.methodLink own index y ∈ qw_tbl) (w2 : Cond.instanceMethod y ∈ qw_tbl) (w3 : Cond.selects "SecretBuyers" y y ∈ qw_tbl) (w4 : Cond.initialized "SecretBuyers" ∈ qw_tbl) (w5 : Cond.code y bytes maxL ret ∈ qw_tbl)
    (hd : y.cls = "SecretBuyers" ∧ y.cls ≠ "java/lang/invoke/MethodHandle" ∧ y.cls ≠ "java/lang/invoke/VarHandle" ∧ (parseMethodDescriptor y.desc).map (fun d => d.parameters.length) = some n) (hR : f + 1 ≤ R.frames ∧ 8 + (maxL + 11) + 60 * f ≤ R.locals)
    (hdg : decode cc pc = .ok (.invokevirtual index, 3)) (hn : As.length = n) (hsize : ls.size = nL) (hstack : st0 = As.reverse ++ .ref (E.2.2 1199) :: rest) (hW : (rest.map fun v => v.category).sum ≤ 8) (hf : cells + mc ≤ R.cells ∧ slots + ms ≤ R.slots)
    (kk : ∀ (r : Int32) (u' : qS) (H1 : Heap) (locs1 : List Loc), post r u' → l_2 E A u' v s H1 → va_S A H0 H1 locs1 → W p l e R s m args below meth c H1 locs1 (cells + mc) (slots + ms) Q (F0 m (pc + 3) ls (.int r :: rest))) : W p l e R s m args below meth c H locs cells slots Q (F0 m pc ls st0) := by
  have hU : qH E (va_A (qW E 0 u) H.size) 0 u s H := ⟨hV.1.1, hV.1.2.1, hV.1.2.2.1.self, hV.1.2.2.2⟩
  have hsub : ∀ q, va_A (qW E 0 u) H.size q → A q := fun q h => by
    rcases h with ⟨i, e, hi⟩ | h2
    · exact hV.1.2.2.1.2 i _ hi
    · exact hA q (Nat.le_trans hS.1 h2)
  have hG : GoodIn qw_tbl (wsV own index "SecretBuyers" y (uws y bytes maxL ret)) := fun w hw => by
    rcases List.mem_append.mp hw with h | h
    · rcases List.mem_cons.mp h with e | h
      · rw [e]; exact ⟨w1, good_of_word (uw_g w1)⟩
      · rcases List.mem_cons.mp h with e | h
        · rw [e]; exact ⟨w2, good_of_word (uw_g w2)⟩
        · rcases List.mem_cons.mp h with e | h
          · rw [e]; exact ⟨w3, good_of_word (uw_g w3)⟩
          · rcases List.mem_cons.mp h with e | h
            · rw [e]; exact ⟨w4, good_of_word (uw_g w4)⟩
            · cases h
    · exact uw_in (fun _ h => h) w5 w h
  refine va_calli (va_runV (As := As) (rest := rest) hF.fix (hM (va_A (qW E 0 u) H.size)) (cwV n hF.2.2.2.2 hG rfl rfl rfl hd hR) ⟨qPw_blind, va_recv (q0 := 0) (ci := 11) hU.1 hU.2.1 rfl (qW_ob rfl), q_prew (H0 := H) hF hU va_S.rf (fun q h => Or.inr h) (hZ.narrow hsub) _⟩ rfl hn hsize hstack (lv_room hW) hdg hf) hS (fun q _ h => hsub q h) hsub (fun r u' t H1 locs1 ht hvm hw hB hz hk hS1 => kk r u' H1 locs1 hw (l_new0 hV hS hA ht hvm hB hk) hS1)
theorem l_callL2 {post : Int32 → qS → Prop} {hh : List (Nat × Nat × Nat × Nat)} (hF : qX p m c cc nL s args own) (hV : l_2 E A u v s H) (hS : va_S A H0 H locs) (hA : ∀ q : Nat, H0.size ≤ q → A q) (hXs : qXs A s H) (n : Nat)
    (hM : ∀ A' : Nat → Prop, Met l y (uwsH y bytes maxL ret hh) (qR f mc ms) (qPx E A' 0 u As) (qQi E A' 0 post) mc ms A')
    (w1 : Cond.methodLink own index y ∈ qw_tbl) (w2 : Cond.static y ∈ qw_tbl) (w4 : Cond.initialized y.cls ∈ qw_tbl) (w5 : Cond.codeWith y bytes maxL ret hh ∈ qw_tbl)
    (hd : y.cls ≠ "java/lang/invoke/MethodHandle" ∧ y.cls ≠ "java/lang/invoke/VarHandle" ∧ (parseMethodDescriptor y.desc).map (fun d => d.parameters.length) = some n) (hR : f + 1 ≤ R.frames ∧ 8 + (maxL + 11) + 60 * f ≤ R.locals)
    (hdg : decode cc pc = .ok (.invokestatic index, 3)) (hn : As.length = n) (hsize : ls.size = nL) (hstack : st0 = As.reverse ++ rest) (hW : (rest.map fun v => v.category).sum ≤ 8) (hf : cells + mc ≤ R.cells ∧ slots + ms ≤ R.slots)
    (kk : ∀ (r : Int32) (u' : qS) (H1 : Heap) (locs1 : List Loc), post r u' → l_2 E A u' v s H1 → va_S A H0 H1 locs1 → W p l e R s m args below meth c H1 locs1 (cells + mc) (slots + ms) Q (F0 m (pc + 3) ls (.int r :: rest))) : W p l e R s m args below meth c H locs cells slots Q (F0 m pc ls st0) := by
  have hU : qH E (va_A (qW E 0 u) H.size) 0 u s H := ⟨hV.1.1, hV.1.2.1, hV.1.2.2.1.self, hV.1.2.2.2⟩
  have hsub : ∀ q, va_A (qW E 0 u) H.size q → A q := fun q h => by
    rcases h with ⟨i, e, hi⟩ | h2
    · exact hV.1.2.2.1.2 i _ hi
    · exact hA q (Nat.le_trans hS.1 h2)
  have hG : GoodIn qw_tbl (uwsH y bytes maxL ret hh) := fun w hw => by
    rcases List.mem_cons.mp hw with e | h
    · rw [e]; exact ⟨w5, good_of_word (uw_g w5)⟩
    · exact ⟨h, good_of_word (uw_g h)⟩
  have cw : vx_CSW R s args own index y bytes maxL ret hh (uwsH y bytes maxL ret hh) (qR f mc ms) mc ms n := by
    refine ⟨⟨rfl, rfl, hR.1, hR.2, pay_in hF.2.2.2.2 hG, List.mem_cons_self⟩, hF.2.2.2.2 _ w5, hF.2.2.2.2 _ w4, ⟨hd.1, hd.2.1⟩, fun sig h => ?_, hF.2.2.2.2 _ w1, hF.2.2.2.2 _ w2⟩
    have h2 := hd.2.2
    rw [h] at h2
    exact (Option.some.inj h2).symm
  exact va_calli (vx_runSW (As := As) (rest := rest) hF.fix (hM (va_A (qW E 0 u) H.size)) cw ⟨qPx_blind, q_prex (H0 := H) hF hU va_S.rf (fun q h => Or.inr h) (hXs.narrow hsub) _⟩ rfl hn hsize hstack (lv_room hW) hdg hf) hS (fun q _ h => hsub q h) hsub (fun r u' t H1 locs1 ht hvm hw hB hz hk hS1 => kk r u' H1 locs1 hw (l_new0 hV hS hA ht hvm hB hk) hS1)
end L2
/-! what holds of both between the calls -/
def RM (v : qS) : Prop := IM v ∧ g_rw (v.2.1 1262) 120 0 1001 ∧ g_IB v
def RC (E : qE) (o : Nat) (u : qS) : Prop := IC E u ∧ qRo E u o
def RD (u v : qS) : Prop := u.1 13 = v.1 1230 ∧ u.1 8 = v.1 1232 ∧ u.1 9 = v.1 1239 ∧ u.1 801 = v.1 1202 ∧ u.1 10 = v.1 1247 ∧ u.1 11 = v.1 1256 ∧ u.1 14 = v.1 1231 ∧ u.1 16 = v.1 1245 ∧ u.1 17 = v.1 1246 ∧ RV u v
theorem RM.q {M R G : List Nat} {v w : qS} (h : RM v) (hf : qFr M R G v w) (hM : ∀ n ∈ [1202, 1210, 1230, 1232, 1239, 1244, 1247, 1256], n ∉ M) (hR : ∀ n ∈ [1214, 1215, 1217, 1218, 1222, 1223, 1248, 1249, 1250, 1257, 1276], n ∉ R) (hs : g_rw (w.2.1 1262) 120 0 1001) : RM w := ⟨h.1.fr hf hM hR, hs, h.2.2.fr hf (hM _ (by decide)) (fun n hn => hR n (by revert n; decide))⟩
theorem RM.n {M R G : List Nat} {v w : qS} (h : RM v) (hf : qFr M R G v w) (hM : ∀ n ∈ [1202, 1210, 1230, 1232, 1239, 1244, 1247, 1256], n ∉ M) (hR : ∀ n ∈ [1214, 1215, 1217, 1218, 1222, 1223, 1248, 1249, 1250, 1257, 1276, 1262], n ∉ R) : RM w := h.q hf hM (fun n hn => hR n (by revert n; decide)) (by rw [hf.2.1 1262 (hR _ (by decide))]; exact h.2.1)
theorem RM.i {M R G : List Nat} {v w : qS} (h : RM v) (hf : qFr M R G v w) (hi : IM w) (hM : 1210 ∉ M) (hR : ∀ n ∈ [1214, 1215, 1217, 1218, 1222, 1223, 1262], n ∉ R) : RM w := ⟨hi, by rw [hf.2.1 1262 (hR _ (by decide))]; exact h.2.1, h.2.2.fr hf hM (fun n hn => hR n (by revert n; decide))⟩
theorem RM.b {M R G : List Nat} {v w : qS} (h : RM v) (hf : qFr M R G v w) (hi : IM w) (hb : g_IB w) (hR : 1262 ∉ R) : RM w := ⟨hi, by rw [hf.2.1 1262 hR]; exact h.2.1, hb⟩
theorem RC.f {E : qE} {o : Nat} {M R G X : List Nat} {u w : qS} (h : RC E o u) (hf : qFc M R G X u w) (hi : IC E w) : RC E o w := ⟨hi, h.2.fr hf⟩
theorem RD.k {u v u' v' : qS} (h : RD u v) (e1 : u'.1 13 = u.1 13) (e2 : u'.1 8 = u.1 8) (e3 : u'.1 9 = u.1 9) (f1 : v'.1 1230 = v.1 1230) (f2 : v'.1 1232 = v.1 1232) (f3 : v'.1 1239 = v.1 1239) (e4 : u'.1 801 = u.1 801) (f4 : v'.1 1202 = v.1 1202) (e5 : u'.1 10 = u.1 10) (f5 : v'.1 1247 = v.1 1247) (e6 : u'.1 11 = u.1 11) (f6 : v'.1 1256 = v.1 1256) (e7 : u'.1 14 = u.1 14) (f7 : v'.1 1231 = v.1 1231) (e8 : u'.1 16 = u.1 16) (f8 : v'.1 1245 = v.1 1245) (e9 : u'.1 17 = u.1 17) (f9 : v'.1 1246 = v.1 1246) (g : RV u' v') : RD u' v' := ⟨e1.trans (h.1.trans f1.symm), e2.trans (h.2.1.trans f2.symm), e3.trans (h.2.2.1.trans f3.symm), e4.trans (h.2.2.2.1.trans f4.symm), e5.trans (h.2.2.2.2.1.trans f5.symm), e6.trans (h.2.2.2.2.2.1.trans f6.symm), e7.trans (h.2.2.2.2.2.2.1.trans f7.symm), e8.trans (h.2.2.2.2.2.2.2.1.trans f8.symm), e9.trans (h.2.2.2.2.2.2.2.2.1.trans f9.symm), g⟩
/-- answers of two that say the same -/
theorem l_same {P : Prop} {r r' x y a a' : Int32} (h : (P ∧ r = x ∧ a = x) ∨ (¬ P ∧ r = y ∧ a = a')) {Q : Prop} {b b' : Int32} (k : (Q ∧ r' = x ∧ b = x) ∨ (¬ Q ∧ r' = y ∧ b = b')) (hPQ : P ↔ Q) (he : a' = b') : r = r' ∧ a = b := by
  rcases h with ⟨p, h1, h2⟩ | ⟨p, h1, h2⟩ <;> rcases k with ⟨q, k1, k2⟩ | ⟨q, k1, k2⟩
  · exact ⟨h1.trans k1.symm, h2.trans k2.symm⟩
  · exact absurd (hPQ.mp p) q
  · exact absurd (hPQ.mpr q) p
  · exact ⟨h1.trans k1.symm, h2.trans (he.trans k2.symm)⟩
theorem l_in {i : Int32} {L k : Nat} (h0 : 0 ≤ i.toInt) (h8 : i.toInt + 8 ≤ L) (hL : L ≤ 4096) (hk : k < 8) : vp_in (i + Int32.ofNat k) L := by
  have e : (Int32.ofNat k).toInt = k := Int32.toInt_ofNat_of_lt (by omega)
  have z : (i + Int32.ofNat k).toInt = i.toInt + (Int32.ofNat k).toInt := g_add (by omega) (by omega)
  exact g_in (by omega) (by omega)
theorem byt_mask (x : BitVec 64) (s : Nat) (h : s ≤ 56) : (x.sshiftRight s).signExtend 32 &&& 255#32 = (x >>> s).signExtend 32 &&& 255#32 := by
  apply BitVec.eq_of_getLsbD_eq
  intro i hi
  rw [BitVec.getLsbD_and, BitVec.getLsbD_and]
  by_cases h8 : i < 8
  · have e1 : ((x.sshiftRight s).signExtend 32).getLsbD i = x.getLsbD (s + i) := by
      rw [BitVec.getLsbD_signExtend, if_pos (show i < 64 by omega), BitVec.getLsbD_sshiftRight, if_pos (show s + i < 64 by omega), decide_eq_true hi, decide_eq_false (show ¬ 64 ≤ i by omega)]
      rfl
    have e2 : ((x >>> s).signExtend 32).getLsbD i = x.getLsbD (s + i) := by
      rw [BitVec.getLsbD_signExtend]
      simp [hi, show i < 64 by omega]
    rw [e1, e2]
  · have e3 : (255#32).getLsbD i = false := by
      rw [show (255#32) = BitVec.ofNat 32 (2 ^ 8 - 1) from rfl, BitVec.getLsbD_ofNat, Nat.testBit_two_pow_sub_one]
      simp [h8]
    rw [e3, Bool.and_false, Bool.and_false]
theorem byt_eq (v : Int64) : ∀ i, i < 8 → bytC v (nI (8 * i)) = bytM v (nI (8 * i)) := by
  intro i hi
  have key : ∀ s : Nat, s ≤ 56 → ∀ k : Int32, ((k.toInt64 &&& 63).toBitVec.smod 64).toNat = s → (((k.toInt64.toUInt64 &&& Int64.toUInt64 63).toBitVec % 64).toNat = s) → bytC v k = bytM v k := by
    intro s hs k h1 h2
    unfold bytC bytM
    apply Int32.toBitVec_inj.mp
    rw [Int32.toBitVec_and, Int32.toBitVec_and]
    have a1 : ((v >>> (k.toInt64 &&& 63)).toInt32).toBitVec = (v.toBitVec.sshiftRight s).signExtend 32 := by
      rw [← h1]; rfl
    have a2 : (((v.toUInt64 >>> (k.toInt64.toUInt64 &&& Int64.toUInt64 63)).toInt64).toInt32).toBitVec = (v.toBitVec >>> s).signExtend 32 := by
      rw [← h2]; rfl
    rw [a1, a2]
    exact (byt_mask v.toBitVec s hs).symm
  rcases (by omega : i = 0 ∨ i = 1 ∨ i = 2 ∨ i = 3 ∨ i = 4 ∨ i = 5 ∨ i = 6 ∨ i = 7) with rfl | rfl | rfl | rfl | rfl | rfl | rfl | rfl
  · exact key 0 (by decide) _ (by decide) (by decide)
  · exact key 8 (by decide) _ (by decide) (by decide)
  · exact key 16 (by decide) _ (by decide) (by decide)
  · exact key 24 (by decide) _ (by decide) (by decide)
  · exact key 32 (by decide) _ (by decide) (by decide)
  · exact key 40 (by decide) _ (by decide) (by decide)
  · exact key 48 (by decide) _ (by decide) (by decide)
  · exact key 56 (by decide) _ (by decide) (by decide)
theorem cnt_eq (v : Int64) : ∀ i, i ≤ 8 → cntC v i = cntM v i
  | 0, _ => rfl
  | i + 1, h => by
    show cntC v i + okn (bytC v (nI (8 * i))) = cntM v i + okn (bytM v (nI (8 * i)))
    rw [cnt_eq v i (by omega), byt_eq v i (by omega)]
theorem l_feed {u v u1 v1 : qS} {a b c : Int64} {r r' : Int32} (h : RD u v) (k : r.toInt = min 1000 ((u.1 801).toInt + (cntC a 8 : Int) + (cntC b 8 : Int) + (cntC c 8 : Int)) ∧ u1.1 801 = r) (k' : r'.toInt = min 1000 ((v.1 1202).toInt + (cntM a 8 : Int) + (cntM b 8 : Int) + (cntM c 8 : Int)) ∧ v1.1 1202 = r') : r = r' ∧ u1.1 801 = v1.1 1202 := by
  have e : r = r' := Int32.toInt_inj.mp (by rw [k.1, k'.1, h.2.2.2.1, cnt_eq a 8 (Nat.le_refl 8), cnt_eq b 8 (Nat.le_refl 8), cnt_eq c 8 (Nat.le_refl 8)])
  exact ⟨e, by rw [k.2, k'.2, e]⟩
theorem l_visit {u v w v' : qS} {x y z a b c e r r' : Int32} (h : RD u v) (hi : IM v) (hc : 0 ≤ u.1 10 ∧ u.1 10 ≤ 120) (hD : qDi u.2.2.2.2)
    (k : (((0 ≤ x ∧ x < u.1 8) ∧ (0 ≤ y ∧ y < u.1 9) ∧ (0 ≤ z ∧ z ≤ u.1 13) ∧ (0 ≤ a ∧ a ≤ 1439) ∧ (1 ≤ b ∧ b ≤ 300) ∧ (0 ≤ c ∧ c ≤ 4095) ∧ (-1 ≤ e ∧ e ≤ 1439) ∧ u.1 10 < 120 ∧ g_ct (cvr u 3) (cvr u 4) y z (u.1 10).toNatClampNeg < 12) ∧ r = u.1 10 ∧ w.1 10 = u.1 10 + 1 ∧ qVn u w x y z a b c e) ∨ (¬ ((0 ≤ x ∧ x < u.1 8) ∧ (0 ≤ y ∧ y < u.1 9) ∧ (0 ≤ z ∧ z ≤ u.1 13) ∧ (0 ≤ a ∧ a ≤ 1439) ∧ (1 ≤ b ∧ b ≤ 300) ∧ (0 ≤ c ∧ c ≤ 4095) ∧ (-1 ≤ e ∧ e ≤ 1439) ∧ u.1 10 < 120 ∧ g_ct (cvr u 3) (cvr u 4) y z (u.1 10).toNatClampNeg < 12) ∧ r = -1 ∧ w.1 10 = u.1 10 ∧ qV0 u w))
    (k' : (((0 ≤ x ∧ x < v.1 1232) ∧ (0 ≤ y ∧ y < v.1 1239) ∧ (0 ≤ z ∧ z ≤ v.1 1230) ∧ (0 ≤ a ∧ a ≤ 1439) ∧ (1 ≤ b ∧ b ≤ 300) ∧ (0 ≤ c ∧ c ≤ 4095) ∧ (-1 ≤ e ∧ e ≤ 1439) ∧ ¬ v.1 1247 = 120 ∧ ¬ g_ct (v.2.1 1249) (v.2.1 1250) y z (v.1 1247).toNatClampNeg = 12) ∧ r' = v.1 1247 ∧ v'.1 1247 = v.1 1247 + 1 ∧ v'.2.1 1248 = upd (v.2.1 1248) (v.1 1247).toNatClampNeg x ∧ v'.2.1 1249 = upd (v.2.1 1249) (v.1 1247).toNatClampNeg y ∧ v'.2.1 1250 = upd (v.2.1 1250) (v.1 1247).toNatClampNeg z ∧ v'.2.1 1251 = upd (v.2.1 1251) (v.1 1247).toNatClampNeg a ∧ v'.2.1 1252 = upd (v.2.1 1252) (v.1 1247).toNatClampNeg b ∧ v'.2.1 1253 = upd (v.2.1 1253) (v.1 1247).toNatClampNeg c ∧ v'.2.1 1254 = upd (v.2.1 1254) (v.1 1247).toNatClampNeg e ∧ v'.2.1 1255 = upd (v.2.1 1255) (v.1 1247).toNatClampNeg (v.1 1230)) ∨ (¬ ((0 ≤ x ∧ x < v.1 1232) ∧ (0 ≤ y ∧ y < v.1 1239) ∧ (0 ≤ z ∧ z ≤ v.1 1230) ∧ (0 ≤ a ∧ a ≤ 1439) ∧ (1 ≤ b ∧ b ≤ 300) ∧ (0 ≤ c ∧ c ≤ 4095) ∧ (-1 ≤ e ∧ e ≤ 1439) ∧ ¬ v.1 1247 = 120 ∧ ¬ g_ct (v.2.1 1249) (v.2.1 1250) y z (v.1 1247).toNatClampNeg = 12) ∧ r' = -1 ∧ v'.1 1247 = v.1 1247 ∧ v'.2.1 1248 = v.2.1 1248 ∧ v'.2.1 1249 = v.2.1 1249 ∧ v'.2.1 1250 = v.2.1 1250 ∧ v'.2.1 1251 = v.2.1 1251 ∧ v'.2.1 1252 = v.2.1 1252 ∧ v'.2.1 1253 = v.2.1 1253 ∧ v'.2.1 1254 = v.2.1 1254 ∧ v'.2.1 1255 = v.2.1 1255)) : r = r' ∧ w.1 10 = v'.1 1247 ∧ RV0 w v' := by
  have hct := h.2.2.2.2.2.2.2.2.2.1.ct hD y z
  have z0 := Int32.le_iff_toInt_le.mp hc.1
  have z1 := Int32.le_iff_toInt_le.mp hc.2
  have e120 : (120 : Int32).toInt = 120 := rfl
  have e0 : (0 : Int32).toInt = 0 := rfl
  rw [e0] at z0; rw [e120] at z1
  have hn : (u.1 10 < 120) = (¬ u.1 10 = 120) := by
    apply propext; constructor
    · intro q q2; rw [q2] at q; revert q; decide
    · intro q; refine Int32.lt_iff_toInt_lt.mpr ?_; have : (u.1 10).toInt ≠ (120 : Int32).toInt := fun z => q (Int32.toInt_inj.mp z); omega
  rw [h.2.2.2.2.1] at hct
  have h12' : g_ct (v.2.1 1249) (v.2.1 1250) y z (v.1 1247).toNatClampNeg ≤ 12 := hi.2.1.2.2 y z
  have hg : (g_ct (cvr u 3) (cvr u 4) y z (v.1 1247).toNatClampNeg < 12) = (¬ g_ct (v.2.1 1249) (v.2.1 1250) y z (v.1 1247).toNatClampNeg = 12) := by
    rw [hct]; apply propext; constructor <;> intro q <;> omega
  have hv := h.2.2.2.2.2.2.2.2.2.1
  have h47 := h.2.2.2.2.1
  have h30 := h.1
  rw [hn, h.1, h.2.1, h.2.2.1, h.2.2.2.2.1, hg] at k
  rcases k with ⟨p, k1, k2, k3⟩ | ⟨p, k1, k2, k3⟩ <;> rcases k' with ⟨p', j1, j2, j3⟩ | ⟨p', j1, j2, j3⟩
  · refine ⟨k1.trans j1.symm, k2.trans j2.symm, ?_⟩
    have lt : (u.1 10).toInt < 120 := by
      have q := p.2.2.2.2.2.2.2.1
      have : (u.1 10).toInt ≠ (120 : Int32).toInt := fun z => q (by rw [← h47]; exact Int32.toInt_inj.mp z)
      omega
    exact hv.new k3 ⟨z0, lt⟩ (by rw [k2, h47]) h47.symm h30.symm j3.1 j3.2.1 j3.2.2.1 j3.2.2.2.1 j3.2.2.2.2.1 j3.2.2.2.2.2.1 j3.2.2.2.2.2.2.1 j3.2.2.2.2.2.2.2
  · exact absurd p p'
  · exact absurd p' p
  · refine ⟨k1.trans j1.symm, k2.trans j2.symm, fun i hi => ?_⟩
    rw [k2, ← h47] at hi
    obtain ⟨a', dd, fs, q1, q2, q3⟩ := hv i hi
    refine ⟨a', dd, fs, by rw [k3.1]; exact q1, by rw [k3.2]; exact q2, fun j h0 h9 => ?_⟩
    rw [q3 j h0 h9]
    rcases (by omega : j = 1 ∨ j = 2 ∨ j = 3 ∨ j = 4 ∨ j = 5 ∨ j = 6 ∨ j = 7 ∨ j = 8) with r | r | r | r | r | r | r | r <;> subst r
    · show some (Value.int (v.2.1 1255 i)) = some (.int (v'.2.1 1255 i)); rw [j3.2.2.2.2.2.2.2]
    · show some (Value.int (v.2.1 1248 i)) = some (.int (v'.2.1 1248 i)); rw [j3.1]
    · show some (Value.int (v.2.1 1249 i)) = some (.int (v'.2.1 1249 i)); rw [j3.2.1]
    · show some (Value.int (v.2.1 1250 i)) = some (.int (v'.2.1 1250 i)); rw [j3.2.2.1]
    · show some (Value.int (v.2.1 1251 i)) = some (.int (v'.2.1 1251 i)); rw [j3.2.2.2.1]
    · show some (Value.int (v.2.1 1252 i)) = some (.int (v'.2.1 1252 i)); rw [j3.2.2.2.2.1]
    · show some (Value.int (v.2.1 1253 i)) = some (.int (v'.2.1 1253 i)); rw [j3.2.2.2.2.2.1]
    · show some (Value.int (v.2.1 1254 i)) = some (.int (v'.2.1 1254 i)); rw [j3.2.2.2.2.2.2.1]
theorem l_shop9 {u v w v' : qS} {x y c f t z r r' : Int32} {P1 P2 P3 P4 : Prop} (h : RD u v) (hz : vp_nar .boolean z = z) (hc : 0 ≤ u.1 8 ∧ u.1 8 ≤ 20)
    (k : ((P1 ∧ P2 ∧ P3 ∧ P4 ∧ u.1 8 < 20) ∧ r = u.1 8 ∧ w.1 8 = u.1 8 + 1 ∧ qSn u w x y c f t z) ∨ (¬ (P1 ∧ P2 ∧ P3 ∧ P4 ∧ u.1 8 < 20) ∧ r = -1 ∧ w.1 8 = u.1 8 ∧ qS0 u w))
    (k' : ((P1 ∧ P2 ∧ P3 ∧ P4 ∧ ¬ v.1 1232 = 20) ∧ r' = v.1 1232 ∧ v'.1 1232 = v.1 1232 + 1 ∧ v'.2.1 1233 = upd (v.2.1 1233) (v.1 1232).toNatClampNeg x ∧ v'.2.1 1234 = upd (v.2.1 1234) (v.1 1232).toNatClampNeg y ∧ v'.2.1 1235 = upd (v.2.1 1235) (v.1 1232).toNatClampNeg c ∧ v'.2.1 1236 = upd (v.2.1 1236) (v.1 1232).toNatClampNeg f ∧ v'.2.1 1237 = upd (v.2.1 1237) (v.1 1232).toNatClampNeg t ∧ v'.2.1 1238 = upd (v.2.1 1238) (v.1 1232).toNatClampNeg (vp_nar .boolean z)) ∨ (¬ (P1 ∧ P2 ∧ P3 ∧ P4 ∧ ¬ v.1 1232 = 20) ∧ r' = -1 ∧ v'.1 1232 = v.1 1232 ∧ v'.2.1 1233 = v.2.1 1233 ∧ v'.2.1 1234 = v.2.1 1234 ∧ v'.2.1 1235 = v.2.1 1235 ∧ v'.2.1 1236 = v.2.1 1236 ∧ v'.2.1 1237 = v.2.1 1237 ∧ v'.2.1 1238 = v.2.1 1238)) : r = r' ∧ w.1 8 = v'.1 1232 ∧ RS w v' := by
  have z0 : 0 ≤ (u.1 8).toInt := Int32.le_iff_toInt_le.mp hc.1
  have z1 : (u.1 8).toInt ≤ 20 := Int32.le_iff_toInt_le.mp hc.2
  have e20 : (20 : Int32).toInt = 20 := rfl
  have hn : (u.1 8 < 20) = (¬ u.1 8 = 20) := by
    apply propext; constructor
    · intro q q2; rw [q2] at q; revert q; decide
    · intro q; refine Int32.lt_iff_toInt_lt.mpr ?_; have : (u.1 8).toInt ≠ (20 : Int32).toInt := fun z => q (Int32.toInt_inj.mp z); omega
  have h32 := h.2.1
  have hv := h.2.2.2.2.2.2.2.2.2.2.1
  rw [hz] at k'
  rw [hn, h32] at k
  rcases k with ⟨p, k1, k2, k3⟩ | ⟨p, k1, k2, k3⟩ <;> rcases k' with ⟨p', j1, j2, j3⟩ | ⟨p', j1, j2, j3⟩
  · refine ⟨k1.trans j1.symm, k2.trans j2.symm, ?_⟩
    have lt : (u.1 8).toInt < 20 := by
      have q := p.2.2.2.2
      have : (u.1 8).toInt ≠ (20 : Int32).toInt := fun z => q (by rw [← h32]; exact Int32.toInt_inj.mp z)
      omega
    exact hv.new k3 ⟨z0, lt⟩ (by rw [k2, h32]) h32.symm j3.1 j3.2.1 j3.2.2.1 j3.2.2.2.1 j3.2.2.2.2.1 j3.2.2.2.2.2
  · exact absurd p p'
  · exact absurd p' p
  · refine ⟨k1.trans j1.symm, k2.trans j2.symm, fun i hi => ?_⟩
    rw [k2, ← h32] at hi
    obtain ⟨a, dd, q, dp, q1, q2, q3⟩ := hv i hi
    refine ⟨a, dd, q, dp, by rw [k3.1]; exact q1, ?_, ?_⟩
    · rw [k3.2, j3.2.2.1, j3.2.2.2.1, j3.2.2.2.2.1, j3.2.2.2.2.2]; exact q2
    · rw [k3.2, j3.1, j3.2.1]; exact q3
theorem RT.new {u v w v' : qS} {r : Int32} {P : Prop} {x y z a b c e : Int32} (h : RT u v) (h47 : u.1 10 = v.1 1247) (hw : w.1 10 = v'.1 1247) (hi : IM v)
    (k' : (P ∧ r = v.1 1247 ∧ v'.1 1247 = v.1 1247 + 1 ∧ v'.2.1 1248 = upd (v.2.1 1248) (v.1 1247).toNatClampNeg x ∧ v'.2.1 1249 = upd (v.2.1 1249) (v.1 1247).toNatClampNeg y ∧ v'.2.1 1250 = upd (v.2.1 1250) (v.1 1247).toNatClampNeg z ∧ v'.2.1 1251 = upd (v.2.1 1251) (v.1 1247).toNatClampNeg a ∧ v'.2.1 1252 = upd (v.2.1 1252) (v.1 1247).toNatClampNeg b ∧ v'.2.1 1253 = upd (v.2.1 1253) (v.1 1247).toNatClampNeg c ∧ v'.2.1 1254 = upd (v.2.1 1254) (v.1 1247).toNatClampNeg e ∧ v'.2.1 1255 = upd (v.2.1 1255) (v.1 1247).toNatClampNeg (v.1 1230)) ∨ (¬ P ∧ r = -1 ∧ v'.1 1247 = v.1 1247 ∧ v'.2.1 1248 = v.2.1 1248 ∧ v'.2.1 1249 = v.2.1 1249 ∧ v'.2.1 1250 = v.2.1 1250 ∧ v'.2.1 1251 = v.2.1 1251 ∧ v'.2.1 1252 = v.2.1 1252 ∧ v'.2.1 1253 = v.2.1 1253 ∧ v'.2.1 1254 = v.2.1 1254 ∧ v'.2.1 1255 = v.2.1 1255)) : RT w v' := fun i hi2 => by
  have b := hi.1.s1247
  have b0 : 0 ≤ (v.1 1247).toInt := Int32.le_iff_toInt_le.mp b.1
  have b1 : (v.1 1247).toInt ≤ 120 := Int32.le_iff_toInt_le.mp b.2
  have n := hi.1.s1230
  have n0 : 0 ≤ (v.1 1230).toInt := Int32.le_iff_toInt_le.mp n.1
  have n1 : (v.1 1230).toInt ≤ 9999 := Int32.le_iff_toInt_le.mp n.2
  rw [hw] at hi2
  rcases k' with ⟨-, -, j2, j3⟩ | ⟨-, -, j2, j3⟩
  · rw [j2, (g_up (i := v.1 1247) b0 (by omega)).2] at hi2
    rw [j3.2.2.2.2.2.2.2]
    by_cases ei : i = (v.1 1247).toNatClampNeg
    · subst ei; rw [pk_us]; exact ⟨n0, n1⟩
    · rw [pk_un ei]; exact h i (by rw [h47]; omega)
  · rw [j2] at hi2
    rw [j3.2.2.2.2.2.2.2]; exact h i (by rw [h47]; exact hi2)
theorem l_appeal {u v w v' : qS} {x y r r' : Int32} (h : RD u v) (hi : IM v) (hc : 0 ≤ u.1 11 ∧ u.1 11 ≤ 60) (hD : qDi u.2.2.2.2)
    (k : (((0 ≤ x ∧ x < u.1 10) ∧ (0 ≤ y ∧ y ≤ 11) ∧ ¬ csr u 4 (cvr u 2 x.toNatClampNeg).toNatClampNeg = 0 ∧ u.1 13 - cvr u 1 x.toNatClampNeg ≤ 14 ∧ u.1 11 < 60) ∧ r = 1 ∧ w.1 11 = u.1 11 + 1) ∨ (¬ ((0 ≤ x ∧ x < u.1 10) ∧ (0 ≤ y ∧ y ≤ 11) ∧ ¬ csr u 4 (cvr u 2 x.toNatClampNeg).toNatClampNeg = 0 ∧ u.1 13 - cvr u 1 x.toNatClampNeg ≤ 14 ∧ u.1 11 < 60) ∧ r = 0 ∧ w.1 11 = u.1 11))
    (k' : (((0 ≤ x ∧ x < v.1 1247) ∧ (0 ≤ y ∧ y ≤ 11) ∧ ¬ v.2.1 1238 (v.2.1 1248 x.toNatClampNeg).toNatClampNeg = 0 ∧ ¬ v.2.1 1255 x.toNatClampNeg + 14 < v.1 1230 ∧ ¬ v.1 1256 = 60) ∧ r' = 1 ∧ v'.1 1256 = v.1 1256 + 1) ∨ (¬ ((0 ≤ x ∧ x < v.1 1247) ∧ (0 ≤ y ∧ y ≤ 11) ∧ ¬ v.2.1 1238 (v.2.1 1248 x.toNatClampNeg).toNatClampNeg = 0 ∧ ¬ v.2.1 1255 x.toNatClampNeg + 14 < v.1 1230 ∧ ¬ v.1 1256 = 60) ∧ r' = 0 ∧ v'.1 1256 = v.1 1256)) : r = r' ∧ w.1 11 = v'.1 1256 := by
  have h30 := h.1
  have h47 := h.2.2.2.2.1
  have h56 := h.2.2.2.2.2.1
  have hv := h.2.2.2.2.2.2.2.2.2
  have z0 : 0 ≤ (u.1 11).toInt := Int32.le_iff_toInt_le.mp hc.1
  have z1 : (u.1 11).toInt ≤ 60 := Int32.le_iff_toInt_le.mp hc.2
  have n := hi.1.s1230
  have n0 : 0 ≤ (v.1 1230).toInt := Int32.le_iff_toInt_le.mp n.1
  have n1 : (v.1 1230).toInt ≤ 9999 := Int32.le_iff_toInt_le.mp n.2
  have hs : ((0 ≤ x ∧ x < u.1 10) ∧ (0 ≤ y ∧ y ≤ 11) ∧ ¬ csr u 4 (cvr u 2 x.toNatClampNeg).toNatClampNeg = 0 ∧ u.1 13 - cvr u 1 x.toNatClampNeg ≤ 14 ∧ u.1 11 < 60) ↔ ((0 ≤ x ∧ x < v.1 1247) ∧ (0 ≤ y ∧ y ≤ 11) ∧ ¬ v.2.1 1238 (v.2.1 1248 x.toNatClampNeg).toNatClampNeg = 0 ∧ ¬ v.2.1 1255 x.toNatClampNeg + 14 < v.1 1230 ∧ ¬ v.1 1256 = 60) := by
    rw [h30, h47, h56]
    rw [h56] at z0 z1
    have e60 : (60 : Int32).toInt = 60 := rfl
    have e14 : (14 : Int32).toInt = 14 := rfl
    have hn : (v.1 1256 < 60) ↔ ¬ v.1 1256 = 60 := by
      constructor
      · intro q q2; rw [q2] at q; revert q; decide
      · intro q; refine Int32.lt_iff_toInt_lt.mpr ?_; have : (v.1 1256).toInt ≠ (60 : Int32).toInt := fun z => q (Int32.toInt_inj.mp z); omega
    have main : (0 ≤ x ∧ x < v.1 1247) → (csr u 4 (cvr u 2 x.toNatClampNeg).toNatClampNeg = v.2.1 1238 (v.2.1 1248 x.toNatClampNeg).toNatClampNeg ∧ (v.1 1230 - cvr u 1 x.toNatClampNeg ≤ 14 ↔ ¬ v.2.1 1255 x.toNatClampNeg + 14 < v.1 1230)) := fun hx => by
      have x0 : 0 ≤ x.toInt := Int32.le_iff_toInt_le.mp hx.1
      have x1 := Int32.lt_iff_toInt_lt.mp hx.2
      have cx := g_clamp x
      have c47 := g_clamp (u.1 10)
      have lt : x.toNatClampNeg < (u.1 10).toNatClampNeg := by rw [h47] at c47 ⊢; omega
      have e2 : cvr u 2 x.toNatClampNeg = v.2.1 1248 x.toNatClampNeg := hv.1.at hD lt (by decide) (by decide)
      have e1 : cvr u 1 x.toNatClampNeg = v.2.1 1255 x.toNatClampNeg := hv.1.at hD lt (by decide) (by decide)
      have rs := (hi.2.1.1 x hx.1 hx.2).1
      have s0 : 0 ≤ (v.2.1 1248 x.toNatClampNeg).toInt := Int32.le_iff_toInt_le.mp rs.1
      have s1 := Int32.lt_iff_toInt_lt.mp rs.2
      have cs := g_clamp (v.2.1 1248 x.toNatClampNeg)
      have c8 := g_clamp (u.1 8)
      have lt8 : (v.2.1 1248 x.toNatClampNeg).toNatClampNeg < (u.1 8).toNatClampNeg := by rw [h.2.1] at c8 ⊢; omega
      have t := hv.2.2.1 x.toNatClampNeg lt
      have ea := g_add (x := v.2.1 1255 x.toNatClampNeg) (y := 14) (by rw [e14]; omega) (by rw [e14]; omega)
      have es := g_sub (x := v.1 1230) (y := v.2.1 1255 x.toNatClampNeg) (by omega) (by omega)
      refine ⟨by rw [e2]; exact hv.2.1.at hD lt8, ?_⟩
      rw [e1]
      constructor
      · intro q q2
        have q' := Int32.le_iff_toInt_le.mp q
        have q2' := Int32.lt_iff_toInt_lt.mp q2
        rw [es, e14] at q'; rw [ea, e14] at q2'; omega
      · intro q
        refine Int32.le_iff_toInt_le.mpr ?_
        have q' : ¬ (v.2.1 1255 x.toNatClampNeg + 14).toInt < (v.1 1230).toInt := fun w => q (Int32.lt_iff_toInt_lt.mpr w)
        rw [ea, e14] at q'; rw [es, e14]; omega
    constructor
    · rintro ⟨a, b, c, d, e⟩
      have m := main a
      exact ⟨a, b, fun z => c (m.1.trans z), m.2.mp d, hn.mp e⟩
    · rintro ⟨a, b, c, d, e⟩
      have m := main a
      exact ⟨a, b, fun z => c (m.1.symm.trans z), m.2.mpr d, hn.mpr e⟩
  rcases k with ⟨p, k1, k2⟩ | ⟨p, k1, k2⟩ <;> rcases k' with ⟨p', j1, j2⟩ | ⟨p', j1, j2⟩
  · exact ⟨k1.trans j1.symm, by rw [k2, j2, h56]⟩
  · exact absurd (hs.mp p) p'
  · exact absurd (hs.mpr p') p
  · exact ⟨k1.trans j1.symm, by rw [k2, j2, h56]⟩
theorem l_i32 {x : Int32} {n : Int} (h : 0 ≤ x ∧ x ≤ 99) (hn : n = 99) : 0 ≤ x.toInt ∧ x.toInt ≤ n := by
  subst hn; exact ⟨Int32.le_iff_toInt_le.mp h.1, Int32.le_iff_toInt_le.mp h.2⟩
/-- what is known behind a shop's, a buyer's and a visit's telling -/
theorem b_shop {u v w v' : qS} {r' x y c f t z : Int32} {P2 P3 P4 : Prop} (h : RB u v) (h8 : u.1 8 = v.1 1232) (hw : w.1 8 = v'.1 1232) (h9 : w.1 9 = u.1 9) (h10 : w.1 10 = u.1 10) (h14 : w.1 14 = u.1 14) (hi : IM v) (hv : ∀ n ∈ [1240, 1241, 1250], v'.2.1 n = v.2.1 n)
    (k' : ((((0 ≤ x ∧ x ≤ 99) ∧ (0 ≤ y ∧ y ≤ 99)) ∧ P2 ∧ P3 ∧ P4 ∧ ¬ v.1 1232 = 20) ∧ r' = v.1 1232 ∧ v'.1 1232 = v.1 1232 + 1 ∧ v'.2.1 1233 = upd (v.2.1 1233) (v.1 1232).toNatClampNeg x ∧ v'.2.1 1234 = upd (v.2.1 1234) (v.1 1232).toNatClampNeg y ∧ v'.2.1 1235 = upd (v.2.1 1235) (v.1 1232).toNatClampNeg c ∧ v'.2.1 1236 = upd (v.2.1 1236) (v.1 1232).toNatClampNeg f ∧ v'.2.1 1237 = upd (v.2.1 1237) (v.1 1232).toNatClampNeg t ∧ v'.2.1 1238 = upd (v.2.1 1238) (v.1 1232).toNatClampNeg (vp_nar .boolean z)) ∨ (¬ (((0 ≤ x ∧ x ≤ 99) ∧ (0 ≤ y ∧ y ≤ 99)) ∧ P2 ∧ P3 ∧ P4 ∧ ¬ v.1 1232 = 20) ∧ r' = -1 ∧ v'.1 1232 = v.1 1232 ∧ v'.2.1 1233 = v.2.1 1233 ∧ v'.2.1 1234 = v.2.1 1234 ∧ v'.2.1 1235 = v.2.1 1235 ∧ v'.2.1 1236 = v.2.1 1236 ∧ v'.2.1 1237 = v.2.1 1237 ∧ v'.2.1 1238 = v.2.1 1238)) : RB w v' := by
  have b := hi.1.s1232
  have b0 : 0 ≤ (v.1 1232).toInt := Int32.le_iff_toInt_le.mp b.1
  have b1 : (v.1 1232).toInt ≤ 20 := Int32.le_iff_toInt_le.mp b.2
  unfold RB at h ⊢
  rw [hw, h9, h10, h14, hv 1240 (by decide), hv 1241 (by decide), hv 1250 (by decide)]
  rw [h8] at h
  refine ⟨?_, h.2⟩
  rcases k' with ⟨p, -, j2, j3⟩ | ⟨-, -, j2, j3⟩
  · rw [j2, j3.1, j3.2.1]
    exact ⟨h.1.1.put (l_i32 p.1.1 rfl) ⟨b0, by omega⟩, h.1.2.put (l_i32 p.1.2 rfl) ⟨b0, by omega⟩⟩
  · rw [j2, j3.1, j3.2.1]; exact h.1
theorem l_buyer23 {u v w v' : qS} {x y r r' : Int32} (h9 : u.1 9 = v.1 1239) (hv : RH u v) (hc : 0 ≤ u.1 9 ∧ u.1 9 ≤ 8)
    (k : ((((0 ≤ x ∧ x ≤ 99) ∧ (0 ≤ y ∧ y ≤ 99)) ∧ u.1 9 < 8) ∧ r = u.1 9 ∧ w.1 9 = u.1 9 + 1 ∧ qHn u w x y) ∨ (¬ (((0 ≤ x ∧ x ≤ 99) ∧ (0 ≤ y ∧ y ≤ 99)) ∧ u.1 9 < 8) ∧ r = -1 ∧ w.1 9 = u.1 9 ∧ qH0 u w))
    (k' : ((((0 ≤ x ∧ x ≤ 99) ∧ (0 ≤ y ∧ y ≤ 99)) ∧ ¬ v.1 1239 = 8) ∧ r' = v.1 1239 ∧ v'.1 1239 = v.1 1239 + 1 ∧ v'.2.1 1240 = upd (v.2.1 1240) (v.1 1239).toNatClampNeg x ∧ v'.2.1 1241 = upd (v.2.1 1241) (v.1 1239).toNatClampNeg y) ∨ (¬ (((0 ≤ x ∧ x ≤ 99) ∧ (0 ≤ y ∧ y ≤ 99)) ∧ ¬ v.1 1239 = 8) ∧ r' = -1 ∧ v'.1 1239 = v.1 1239 ∧ v'.2.1 1240 = v.2.1 1240 ∧ v'.2.1 1241 = v.2.1 1241)) (hb : Bd (u.1 9) (v.2.1 1240) 99 ∧ Bd (u.1 9) (v.2.1 1241) 99) : r = r' ∧ w.1 9 = v'.1 1239 ∧ RH w v' ∧ (Bd (w.1 9) (v'.2.1 1240) 99 ∧ Bd (w.1 9) (v'.2.1 1241) 99) := by
  have z0 : 0 ≤ (u.1 9).toInt := Int32.le_iff_toInt_le.mp hc.1
  have z1 : (u.1 9).toInt ≤ 8 := Int32.le_iff_toInt_le.mp hc.2
  have e8 : (8 : Int32).toInt = 8 := rfl
  have hn : (u.1 9 < 8) = (¬ u.1 9 = 8) := by
    apply propext; constructor
    · intro q q2; rw [q2] at q; revert q; decide
    · intro q; refine Int32.lt_iff_toInt_lt.mpr ?_; have : (u.1 9).toInt ≠ (8 : Int32).toInt := fun z => q (Int32.toInt_inj.mp z); omega
  rw [hn, h9] at k
  rcases k with ⟨p, k1, k2, k3⟩ | ⟨p, k1, k2, k3⟩ <;> rcases k' with ⟨p', j1, j2, j3⟩ | ⟨p', j1, j2, j3⟩
  · have lt : (u.1 9).toInt < 8 := by
      have q := p.2
      have : (u.1 9).toInt ≠ (8 : Int32).toInt := fun z => q (by rw [← h9]; exact Int32.toInt_inj.mp z)
      omega
    refine ⟨k1.trans j1.symm, k2.trans j2.symm, hv.new k3 ⟨z0, lt⟩ (by rw [k2, h9]) h9.symm j3.1 j3.2, ?_⟩
    rw [k2, j3.1, j3.2]
    rw [h9] at hb z0 lt
    exact ⟨hb.1.put (l_i32 p.1.1 rfl) ⟨z0, by omega⟩, hb.2.put (l_i32 p.1.2 rfl) ⟨z0, by omega⟩⟩
  · exact absurd p p'
  · exact absurd p' p
  · refine ⟨k1.trans j1.symm, k2.trans j2.symm, fun i hi => ?_, ?_⟩
    · rw [k2, ← h9] at hi
      obtain ⟨a, dd, q1, q2⟩ := hv i hi
      exact ⟨a, dd, by rw [k3.1]; exact q1, by rw [k3.2, j3.1, j3.2]; exact q2⟩
    · rw [k2, j3.1, j3.2, ← h9]; exact hb
theorem b_visit {u v w v' : qS} {r : Int32} {P1 P2 P4 P5 P6 P7 P8 P9 : Prop} {x y z a b c e : Int32} (h : Bd (u.1 10) (v.2.1 1250) 9999) (h47 : u.1 10 = v.1 1247) (hw : w.1 10 = v'.1 1247) (hi : IM v)
    (k' : ((P1 ∧ P2 ∧ (0 ≤ z ∧ z ≤ v.1 1230) ∧ P4 ∧ P5 ∧ P6 ∧ P7 ∧ P8 ∧ P9) ∧ r = v.1 1247 ∧ v'.1 1247 = v.1 1247 + 1 ∧ v'.2.1 1248 = upd (v.2.1 1248) (v.1 1247).toNatClampNeg x ∧ v'.2.1 1249 = upd (v.2.1 1249) (v.1 1247).toNatClampNeg y ∧ v'.2.1 1250 = upd (v.2.1 1250) (v.1 1247).toNatClampNeg z ∧ v'.2.1 1251 = upd (v.2.1 1251) (v.1 1247).toNatClampNeg a ∧ v'.2.1 1252 = upd (v.2.1 1252) (v.1 1247).toNatClampNeg b ∧ v'.2.1 1253 = upd (v.2.1 1253) (v.1 1247).toNatClampNeg c ∧ v'.2.1 1254 = upd (v.2.1 1254) (v.1 1247).toNatClampNeg e ∧ v'.2.1 1255 = upd (v.2.1 1255) (v.1 1247).toNatClampNeg (v.1 1230)) ∨ (¬ (P1 ∧ P2 ∧ (0 ≤ z ∧ z ≤ v.1 1230) ∧ P4 ∧ P5 ∧ P6 ∧ P7 ∧ P8 ∧ P9) ∧ r = -1 ∧ v'.1 1247 = v.1 1247 ∧ v'.2.1 1248 = v.2.1 1248 ∧ v'.2.1 1249 = v.2.1 1249 ∧ v'.2.1 1250 = v.2.1 1250 ∧ v'.2.1 1251 = v.2.1 1251 ∧ v'.2.1 1252 = v.2.1 1252 ∧ v'.2.1 1253 = v.2.1 1253 ∧ v'.2.1 1254 = v.2.1 1254 ∧ v'.2.1 1255 = v.2.1 1255)) : Bd (w.1 10) (v'.2.1 1250) 9999 := by
  have b := hi.1.s1247
  have b0 : 0 ≤ (v.1 1247).toInt := Int32.le_iff_toInt_le.mp b.1
  have b1 : (v.1 1247).toInt ≤ 120 := Int32.le_iff_toInt_le.mp b.2
  have n := hi.1.s1230
  have n1 : (v.1 1230).toInt ≤ 9999 := Int32.le_iff_toInt_le.mp n.2
  rw [hw]; rw [h47] at h
  rcases k' with ⟨p, -, j2, j3⟩ | ⟨-, -, j2, j3⟩
  · rw [j2, j3.2.2.1]
    have z0 : 0 ≤ z.toInt := Int32.le_iff_toInt_le.mp p.2.2.1.1
    have z1 := Int32.le_iff_toInt_le.mp p.2.2.1.2
    exact h.put ⟨z0, by omega⟩ ⟨b0, by omega⟩
  · rw [j2, j3.2.2.1]; exact h
theorem l_abs {x v : Int32} (hx : 0 ≤ x.toInt ∧ x.toInt ≤ 9999) (hv : 0 ≤ v.toInt ∧ v.toInt ≤ 9999) : c_ab (x - v) = if v ≤ x then x - v else v - x := by
  have e := g_sub (x := x) (y := v) (by omega) (by omega)
  have e2 := g_sub (x := v) (y := x) (by omega) (by omega)
  have e0 : (0 : Int32).toInt = 0 := rfl
  unfold c_ab
  by_cases q : v ≤ x
  · rw [if_pos q, if_pos]
    have := Int32.le_iff_toInt_le.mp q
    exact Int32.le_iff_toInt_le.mpr (by rw [e, e0]; omega)
  · have q2 := Int32.lt_iff_toInt_lt.mp (Int32.not_le.mp q)
    rw [if_neg q, if_neg (fun z => by have z2 := Int32.le_iff_toInt_le.mp z; rw [e, e0] at z2; omega)]
    refine Int32.toInt_inj.mp ?_
    rw [g_sub (by rw [e0, e]; omega) (by rw [e0, e]; omega), e, e2, e0]; omega
theorem l_sd {u v : qS} (h13 : u.1 13 = v.1 1230) (h14 : u.1 14 = v.1 1231) (hb : -1 ≤ (u.1 14).toInt) : c_sd u = f_vd v := by
  unfold c_sd f_vd
  rw [h13, h14]
  rw [h14] at hb
  have e0 : (0 : Int32).toInt = 0 := rfl
  have e1 : (-1 : Int32).toInt = -1 := rfl
  by_cases q : v.1 1231 = -1
  · rw [if_pos q, if_neg (fun z => by rw [q] at z; revert z; decide)]
  · rw [if_neg q, if_pos]
    have : (v.1 1231).toInt ≠ (-1 : Int32).toInt := fun z => q (Int32.toInt_inj.mp z)
    exact Int32.le_iff_toInt_le.mpr (by rw [e0]; omega)
theorem l_bd {u v : qS} {x y z : Int32} {i : Nat} (hv : RV u v) (hD : qDi u.2.2.2.2) (hm : IM v) (h8 : u.1 8 = v.1 1232) (h10 : u.1 10 = v.1 1247) (h16 : u.1 16 = v.1 1245) (hsd : c_sd u = f_vd v) (hi : i < (u.1 10).toNatClampNeg) (ly : y.toNatClampNeg < (u.1 8).toNatClampNeg) (hz : 0 ≤ z.toInt ∧ z.toInt ≤ 9999) : c_bd u i x y z ↔ f_bd v i x y z := by
  have e1 : cvr u 1 i = v.2.1 1255 i := hv.1.at hD hi (by decide) (by decide)
  have e2 : cvr u 2 i = v.2.1 1248 i := hv.1.at hD hi (by decide) (by decide)
  have e3 : cvr u 3 i = v.2.1 1249 i := hv.1.at hD hi (by decide) (by decide)
  have e4 : cvr u 4 i = v.2.1 1250 i := hv.1.at hD hi (by decide) (by decide)
  have b4 := hv.2.2.2.2.2.2.1 i hi
  have ea : c_ab (v.2.1 1250 i - z) = f_fa (v.2.1 1250 i) z := l_abs b4 hz
  have b := hm.1.s1247
  have b0 : 0 ≤ (v.1 1247).toInt := Int32.le_iff_toInt_le.mp b.1
  have b1 : (v.1 1247).toInt ≤ 120 := Int32.le_iff_toInt_le.mp b.2
  have c10 := g_clamp (u.1 10)
  rw [h10] at c10
  have hi2 := hi
  rw [h10] at hi2
  have eo := f_ofn (n := i) (by omega)
  have z0 : (0 : Int32).toInt = 0 := rfl
  have rs := (hm.2.1.1 (Int32.ofNat i) (Int32.le_iff_toInt_le.mpr (by rw [eo.1, z0]; omega)) (Int32.lt_iff_toInt_lt.mpr (by rw [eo.1]; omega))).1
  rw [eo.2] at rs
  have s0 : 0 ≤ (v.2.1 1248 i).toInt := Int32.le_iff_toInt_le.mp rs.1
  have s1 := Int32.lt_iff_toInt_lt.mp rs.2
  have cs := g_clamp (v.2.1 1248 i)
  have c8 := g_clamp (u.1 8)
  have ls : (v.2.1 1248 i).toNatClampNeg < (u.1 8).toNatClampNeg := by rw [h8] at c8 ⊢; omega
  have es := (hv.2.1.pl hD ls).2
  have ey := (hv.2.1.pl hD ly).2
  have q : (¬ v.1 1245 ≤ f_fa (v.2.1 1250 i) z) = (f_fa (v.2.1 1250 i) z < v.1 1245) := propext Int32.not_le
  unfold c_bd f_bd c_tv f_tn
  rw [e1, e2, e3, e4, ea, es, ey, hsd, h16, q]
theorem l_may {u v : qS} {x y z r r' : Int32} (hv : RV u v) (hD : qDi u.2.2.2.2) (hm : IM v) (h13 : u.1 13 = v.1 1230) (h8 : u.1 8 = v.1 1232) (h9 : u.1 9 = v.1 1239) (h10 : u.1 10 = v.1 1247) (h14 : u.1 14 = v.1 1231) (h16 : u.1 16 = v.1 1245) (h17 : u.1 17 = v.1 1246)
    (k : (((0 ≤ x ∧ x < u.1 9) ∧ (0 ≤ y ∧ y < u.1 8) ∧ (0 ≤ z ∧ z ≤ 9999)) ∧ c_mg u x y z ∧ r = 1) ∨ (((0 ≤ x ∧ x < u.1 9) ∧ (0 ≤ y ∧ y < u.1 8) ∧ (0 ≤ z ∧ z ≤ 9999)) ∧ ¬ c_mg u x y z ∧ r = 0) ∨ (¬ ((0 ≤ x ∧ x < u.1 9) ∧ (0 ≤ y ∧ y < u.1 8) ∧ (0 ≤ z ∧ z ≤ 9999)) ∧ r = -1))
    (k' : (((0 ≤ x ∧ x < v.1 1239) ∧ (0 ≤ y ∧ y < v.1 1232) ∧ (0 ≤ z ∧ z ≤ 9999)) ∧ f_mgo v x y z ∧ r' = 1) ∨ (((0 ≤ x ∧ x < v.1 1239) ∧ (0 ≤ y ∧ y < v.1 1232) ∧ (0 ≤ z ∧ z ≤ 9999)) ∧ ¬ f_mgo v x y z ∧ r' = 0) ∨ (¬ ((0 ≤ x ∧ x < v.1 1239) ∧ (0 ≤ y ∧ y < v.1 1232) ∧ (0 ≤ z ∧ z ≤ 9999)) ∧ r' = -1)) : r = r' := by
  have main : ((0 ≤ x ∧ x < v.1 1239) ∧ (0 ≤ y ∧ y < v.1 1232) ∧ (0 ≤ z ∧ z ≤ 9999)) → (c_mg u x y z ↔ f_mgo v x y z) := fun d => by
    have x0 : 0 ≤ x.toInt := Int32.le_iff_toInt_le.mp d.1.1
    have x1 := Int32.lt_iff_toInt_lt.mp d.1.2
    have y0 : 0 ≤ y.toInt := Int32.le_iff_toInt_le.mp d.2.1.1
    have y1 := Int32.lt_iff_toInt_lt.mp d.2.1.2
    have z0 : 0 ≤ z.toInt := Int32.le_iff_toInt_le.mp d.2.2.1
    have z1 : z.toInt ≤ 9999 := Int32.le_iff_toInt_le.mp d.2.2.2
    have cx := g_clamp x
    have cy := g_clamp y
    have c9 := g_clamp (u.1 9)
    have c8 := g_clamp (u.1 8)
    have lx : x.toNatClampNeg < (u.1 9).toNatClampNeg := by rw [h9] at c9 ⊢; omega
    have ly : y.toNatClampNeg < (u.1 8).toNatClampNeg := by rw [h8] at c8 ⊢; omega
    have hh := hv.2.2.2.1.at hD lx
    have pl := (hv.2.1.pl hD ly).1
    have b1 := hv.2.2.2.2.2.1.1 _ lx
    have b2 := hv.2.2.2.2.2.1.2 _ lx
    have b3 := hv.2.2.2.2.1.1 _ ly
    have b4 := hv.2.2.2.2.1.2 _ ly
    have w : c_wh u x y = f_wb (v.2.1 1240 x.toNatClampNeg) (v.2.1 1241 x.toNatClampNeg) (v.2.1 1233 y.toNatClampNeg) (v.2.1 1234 y.toNatClampNeg) := by
      unfold c_wh f_wb
      rw [hh.1, hh.2, pl.1, pl.2, l_abs ⟨b1.1, by omega⟩ ⟨b3.1, by omega⟩, l_abs ⟨b2.1, by omega⟩ ⟨b4.1, by omega⟩]
    have sd := l_sd h13 h14 hv.2.2.2.2.2.2.2
    have en : (u.1 10).toNatClampNeg = (v.1 1247).toNatClampNeg := by rw [h10]
    unfold c_mg f_mgo
    rw [w, h17]
    constructor
    · intro q
      exact ⟨q.1, fun i hi t => q.2 i (by rw [en]; exact hi) ((l_bd hv hD hm h8 h10 h16 sd (by rw [en]; exact hi) ly ⟨z0, z1⟩).mpr t)⟩
    · intro q
      exact ⟨q.1, fun i hi t => q.2 i (by rw [← en]; exact hi) ((l_bd hv hD hm h8 h10 h16 sd hi ly ⟨z0, z1⟩).mp t)⟩
  rw [h9, h8] at k
  rcases k with ⟨d, k1, k2⟩ | ⟨d, k1, k2⟩ | ⟨d, k2⟩ <;> rcases k' with ⟨d', j1, j2⟩ | ⟨d', j1, j2⟩ | ⟨d', j2⟩
  · exact k2.trans j2.symm
  · exact absurd ((main d).mp k1) j1
  · exact absurd d d'
  · exact absurd ((main d).mpr j1) k1
  · exact k2.trans j2.symm
  · exact absurd d d'
  · exact absurd d' d
  · exact absurd d' d
  · exact k2.trans j2.symm
theorem l_view23 {u v w v' : qS} {x r r' : Int32} (h13 : u.1 13 = v.1 1230) (h14 : u.1 14 = v.1 1231) (hb : -1 ≤ (u.1 14).toInt)
    (k : ((0 ≤ x ∧ x ≤ u.1 13) ∧ r = 1 ∧ w.1 14 = c_lf x (u.1 13)) ∨ (¬ (0 ≤ x ∧ x ≤ u.1 13) ∧ r = 0 ∧ w.1 14 = u.1 14))
    (k' : ((0 ≤ x ∧ x ≤ v.1 1230) ∧ r' = 1 ∧ v'.1 1231 = (if x = v.1 1230 then -1 else x)) ∨ (¬ (0 ≤ x ∧ x ≤ v.1 1230) ∧ r' = 0 ∧ v'.1 1231 = v.1 1231)) : r = r' ∧ w.1 14 = v'.1 1231 ∧ -1 ≤ (w.1 14).toInt := by
  rw [h13] at k
  rcases k with ⟨p, k1, k2⟩ | ⟨p, k1, k2⟩ <;> rcases k' with ⟨p', j1, j2⟩ | ⟨p', j1, j2⟩
  · refine ⟨k1.trans j1.symm, k2.trans j2.symm, ?_⟩
    rw [k2]; unfold c_lf
    have x0 : 0 ≤ x.toInt := Int32.le_iff_toInt_le.mp p.1
    by_cases q : x = v.1 1230
    · rw [if_pos q]; decide
    · rw [if_neg q]; omega
  · exact absurd p p'
  · exact absurd p' p
  · exact ⟨k1.trans j1.symm, by rw [k2, j2, h14], by rw [k2]; exact hb⟩
theorem l_rest23 {u v w v' : qS} {x y r r' : Int32} {P : Prop} (h16 : u.1 16 = v.1 1245) (h17 : u.1 17 = v.1 1246)
    (k : (P ∧ r = 1 ∧ w.1 16 = x ∧ w.1 17 = y) ∨ (¬ P ∧ r = 0 ∧ w.1 16 = u.1 16 ∧ w.1 17 = u.1 17)) (k' : (P ∧ r' = 1 ∧ v'.1 1245 = x ∧ v'.1 1246 = y) ∨ (¬ P ∧ r' = 0 ∧ v'.1 1245 = v.1 1245 ∧ v'.1 1246 = v.1 1246)) : r = r' ∧ w.1 16 = v'.1 1245 ∧ w.1 17 = v'.1 1246 := by
  rcases k with ⟨p, k1, k2, k3⟩ | ⟨p, k1, k2, k3⟩ <;> rcases k' with ⟨p', j1, j2, j3⟩ | ⟨p', j1, j2, j3⟩
  · exact ⟨k1.trans j1.symm, k2.trans j2.symm, k3.trans j3.symm⟩
  · exact absurd p p'
  · exact absurd p' p
  · exact ⟨k1.trans j1.symm, by rw [k2, j2, h16], by rw [k3, j3, h17]⟩
theorem l_vb {u v w v' : qS} (h : RB u v) (h8 : w.1 8 = u.1 8) (h9 : w.1 9 = u.1 9) (h14 : w.1 14 = u.1 14) (hb : Bd (w.1 10) (v'.2.1 1250) 9999) (hv : ∀ n ∈ [1233, 1234, 1240, 1241], v'.2.1 n = v.2.1 n) : RB w v' := by
  unfold RB at h ⊢
  rw [h8, h9, h14, hv 1233 (by decide), hv 1234 (by decide), hv 1240 (by decide), hv 1241 (by decide)]
  exact ⟨h.1, h.2.1, hb, h.2.2.2⟩
theorem l_bb {u v w v' : qS} (h : RB u v) (h8 : w.1 8 = u.1 8) (h10 : w.1 10 = u.1 10) (h14 : w.1 14 = u.1 14) (hb : Bd (w.1 9) (v'.2.1 1240) 99 ∧ Bd (w.1 9) (v'.2.1 1241) 99) (hv : ∀ n ∈ [1233, 1234, 1250], v'.2.1 n = v.2.1 n) : RB w v' := by
  unfold RB at h ⊢
  rw [h8, h10, h14, hv 1233 (by decide), hv 1234 (by decide), hv 1250 (by decide)]
  exact ⟨h.1, hb, h.2.2.1, h.2.2.2⟩
theorem l_wb {u v w v' : qS} (h : RB u v) (h8 : w.1 8 = u.1 8) (h9 : w.1 9 = u.1 9) (h10 : w.1 10 = u.1 10) (hb : -1 ≤ (w.1 14).toInt) (hv : ∀ n ∈ [1233, 1234, 1240, 1241, 1250], v'.2.1 n = v.2.1 n) : RB w v' := by
  unfold RB at h ⊢
  rw [h8, h9, h10, hv 1233 (by decide), hv 1234 (by decide), hv 1240 (by decide), hv 1241 (by decide), hv 1250 (by decide)]
  exact ⟨h.1, h.2.1, h.2.2.1, hb⟩
