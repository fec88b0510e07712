/-! the states of a day, and of all -/
theorem k_dw.exi (R : Nat → Nat → Prop) (m : Nat) : ∃ W, k_dw R m W := by
  have ex : ∀ n, n ≤ m → ∃ W : Nat → Nat, ∀ x, m - n ≤ x → x < m → 1 ≤ W x ∧ (∀ j, x < j → j < m → R x j → W j + 1 ≤ W x) ∧ (W x = 1 ∨ ∃ j, x < j ∧ j < m ∧ R x j ∧ W x = W j + 1) := by
    intro n
    induction n with
    | zero => exact fun _ => ⟨fun _ => 1, fun x a b => absurd b (by omega)⟩
    | succ n ih =>
      intro hn
      obtain ⟨W, hW⟩ := ih (by omega)
      -- the greatest of those behind
      have mx : ∀ q, ∃ z, 1 ≤ z ∧ (∀ j, m - (n + 1) < j → j < q → j < m → R (m - (n + 1)) j → W j + 1 ≤ z) ∧ (z = 1 ∨ ∃ j, m - (n + 1) < j ∧ j < m ∧ R (m - (n + 1)) j ∧ z = W j + 1) := by
        intro q
        induction q with
        | zero => exact ⟨1, Nat.le_refl _, fun j _ a => absurd a (Nat.not_lt_zero _), Or.inl rfl⟩
        | succ q ih2 =>
          obtain ⟨z, z1, z2, z3⟩ := ih2
          by_cases c : m - (n + 1) < q ∧ q < m ∧ R (m - (n + 1)) q ∧ z < W q + 1
          · refine ⟨W q + 1, by omega, fun j a b e f => ?_, Or.inr ⟨q, c.1, c.2.1, c.2.2.1, rfl⟩⟩
            rcases Nat.lt_or_ge j q with w | w
            · have := z2 j a w e f; omega
            · have ej : j = q := by omega
              subst ej; exact Nat.le_refl _
          · refine ⟨z, z1, fun j a b e f => ?_, z3⟩
            rcases Nat.lt_or_ge j q with w | w
            · exact z2 j a w e f
            · have ej : j = q := by omega
              subst ej
              rcases Nat.lt_or_ge z (W j + 1) with y | y
              · exact absurd ⟨a, e, f, y⟩ c
              · exact y
      obtain ⟨z, z1, z2, z3⟩ := mx m
      refine ⟨fun i => if i = m - (n + 1) then z else W i, fun x a b => ?_⟩
      have old : ∀ j, m - (n + 1) < j → (if j = m - (n + 1) then z else W j) = W j := fun j h => if_neg (by omega)
      by_cases e : x = m - (n + 1)
      · subst e
        show 1 ≤ (if m - (n + 1) = m - (n + 1) then z else W (m - (n + 1))) ∧ _ ∧ _
        rw [if_pos rfl]
        refine ⟨z1, fun j p q r => ?_, ?_⟩
        · show (if j = m - (n + 1) then z else W j) + 1 ≤ (if m - (n + 1) = m - (n + 1) then z else W (m - (n + 1)))
          rw [old j p, if_pos rfl]; exact z2 j p q q r
        · show (if m - (n + 1) = m - (n + 1) then z else W (m - (n + 1))) = 1 ∨ _
          rw [if_pos rfl]
          rcases z3 with w | ⟨j, p, q, r, t⟩
          · exact Or.inl w
          · refine Or.inr ⟨j, p, q, r, ?_⟩
            show (if m - (n + 1) = m - (n + 1) then z else W (m - (n + 1))) = (if j = m - (n + 1) then z else W j) + 1
            rw [if_pos rfl, old j p]; exact t
      · obtain ⟨w1, w2, w3⟩ := hW x (by omega) b
        have ex := old x (by omega)
        refine ⟨by show 1 ≤ (if x = m - (n + 1) then z else W x); rw [ex]; exact w1, fun j p q r => ?_, ?_⟩
        · show (if j = m - (n + 1) then z else W j) + 1 ≤ (if x = m - (n + 1) then z else W x)
          rw [ex, old j (by omega)]; exact w2 j p q r
        · show (if x = m - (n + 1) then z else W x) = 1 ∨ _
          rw [ex]
          rcases w3 with w | ⟨j, p, q, r, t⟩
          · exact Or.inl w
          · refine Or.inr ⟨j, p, q, r, ?_⟩
            show (if x = m - (n + 1) then z else W x) = (if j = m - (n + 1) then z else W j) + 1
            rw [ex, old j (by omega)]; exact t
  obtain ⟨W, hW⟩ := ex m (Nat.le_refl _)
  exact ⟨W, fun x hx => hW x (by omega) hx⟩
/-- what the class writes of the i-th of a day -/
theorem t_jz {k : qS} {b d x : Int32} {m : Nat} {N O f g : Nat → Int32} (hb : t_bd k) (hg : t_g k b d m N) (hO : ∀ j, j < m → O j = 0) (hu : t_ua (fun i j => t_bo k (N i) (N j)) O f m) (hd : t_da (fun i j => t_bo k (N i) (N j)) g m 0) (hx : t_mx f x m) {i : Nat} (hi : i < m) :
    (f i + g i - 1 < x → f_st k b d (N i) = 2) ∧ (¬ f i + g i - 1 < x → t_nd f g m i x → f_st k b d (N i) = 0) ∧ (¬ f i + g i - 1 < x → ¬ t_nd f g m i x → f_st k b d (N i) = 3) := by
  have w := t_words hb hg (hu.k hO) hd.k hx.k.1 hx.k.2
  have st := w.2 i hi
  have m12 : m ≤ 12 := by rw [hg.2.2.2]; exact t_12 hb b d
  have bd : ∀ j, j < m → (0 ≤ (f j).toInt ∧ (f j).toInt ≤ 12) ∧ (1 ≤ (g j).toInt ∧ (g j).toInt ≤ 12) ∧ (f j + g j - 1).toInt = (f j).toInt + (g j).toInt - 1 := fun j hj => by
    have a := hu.le hj
    have c := (hd j (Nat.zero_le _) hj).1
    have e1 : (1 : Int32).toInt = 1 := rfl
    have ea := g_add (x := f j) (y := g j) (by omega) (by omega)
    have es := g_sub (x := f j + g j) (y := 1) (by rw [ea, e1]; omega) (by rw [ea, e1]; omega)
    exact ⟨⟨a.1, by omega⟩, ⟨c.1, by omega⟩, by rw [es, ea, e1]⟩
  have h0 := hx.1
  have bi := bd i hi
  have sure : f i + g i - 1 < x ↔ k_sure (t_U f) (t_U g) x.toInt.toNat i := by
    rw [Int32.lt_iff_toInt_lt, bi.2.2]; unfold k_sure t_U; constructor <;> intro q <;> omega
  have need : t_nd f g m i x ↔ k_need (t_U f) (t_U g) m x.toInt.toNat i := by
    unfold t_nd k_need t_U
    constructor
    · intro h j hj hne e q
      have bj := bd j hj
      refine h j hj hne (Int32.toInt_inj.mp (by omega)) (Int32.toInt_inj.mp (by rw [bj.2.2]; omega))
    · intro h j hj hne e q
      have bj := bd j hj
      have q2 : (f j + g j - 1).toInt = x.toInt := by rw [q]
      exact h j hj hne (by rw [e]) (by omega)
  refine ⟨fun q => ?_, fun q n => ?_, fun q n => ?_⟩
  · rw [st, if_pos (sure.mp q)]
  · rw [st, if_neg (fun z => q (sure.mpr z)), if_pos (need.mp n)]
  · rw [st, if_neg (fun z => q (sure.mpr z)), if_neg (fun z => n (need.mpr z))]
theorem t_few {k : qS} {b d x z : Int32} {m : Nat} {N O f : Nat → Int32} (hb : t_bd k) (hg : t_g k b d m N) (hO : ∀ j, j < m → O j = 0) (hu : t_ua (fun i j => t_bo k (N i) (N j)) O f m) (hx : t_mx f x m) (hz : z.toInt = m) : z - x = (f_all k b d).1 := by
  obtain ⟨W, hW⟩ := k_dw.exi (fun i j => t_bo k (N i) (N j)) m
  have w := (t_words hb hg (hu.k hO) hW hx.k.1 hx.k.2).1
  have m12 : m ≤ 12 := by rw [hg.2.2.2]; exact t_12 hb b d
  have h0 := hx.1
  have h1 : x.toInt ≤ 12 := by
    rcases hx.2.2 with q | ⟨i, a, e⟩
    · omega
    · have := hu.le a; omega
  refine Int32.toInt_inj.mp ?_
  rw [w, g_sub (by omega) (by omega)]; omega
/-- the states while a day is written -/
def t_jw (k : qS) (N : Nat → Int32) (b d : Int32) (n : Nat) (s0 s1 : Nat → Int32) : Prop := ∀ v : Int32, f_sn k v → ((∃ j, j < n ∧ N j = v) → s1 v.toNatClampNeg = f_st k b d v) ∧ ((¬ ∃ j, j < n ∧ N j = v) → s1 v.toNatClampNeg = s0 v.toNatClampNeg)
theorem t_jw.nil {k : qS} {N : Nat → Int32} {b d : Int32} {s : Nat → Int32} : t_jw k N b d 0 s s := fun v _ => ⟨fun ⟨j, a, _⟩ => absurd a (Nat.not_lt_zero _), fun _ => rfl⟩
theorem t_jw.up {k : qS} {N : Nat → Int32} {b d z : Int32} {x m : Nat} {s0 s1 : Nat → Int32} (h : t_jw k N b d x s0 s1) (hg : t_g k b d m N) (hx : x < m) (hz : f_st k b d (N x) = z) : t_jw k N b d (x + 1) s0 (upd s1 (N x).toNatClampNeg z) := fun v hv => by
  have nx := (hg.1 x hx).t.1
  have v0 := f_s0 hv
  by_cases e : v = N x
  · subst e
    refine ⟨fun _ => by rw [pk_us, hz], fun q => absurd ⟨x, by omega, rfl⟩ q⟩
  · have ne : v.toNatClampNeg ≠ (N x).toNatClampNeg := fun q => e (g_inj v0 nx q)
    rw [pk_un ne]
    refine ⟨fun ⟨j, a, c⟩ => (h v hv).1 ⟨j, ?_, c⟩, fun q => (h v hv).2 (fun ⟨j, a, c⟩ => q ⟨j, by omega, c⟩)⟩
    rcases Nat.lt_or_ge j x with w | w
    · exact w
    · have ej : j = x := by omega
      subst ej; exact absurd c.symm e
theorem t_jw.all {k : qS} {N : Nat → Int32} {b d : Int32} {m : Nat} {s0 s1 : Nat → Int32} (h : t_jw k N b d m s0 s1) (hg : t_g k b d m N) : f_sw k b d (f_n (f_gp k b d) (k.1 1247).toNatClampNeg) s0 s1 := fun v hv => by
  refine ⟨fun hp _ => (h v hv).1 (hg.2.2.1 v hp), fun q => (h v hv).2 (fun ⟨j, a, c⟩ => ?_)⟩
  have hp : f_gp k b d v := by rw [← c]; exact hg.1 j a
  exact q ⟨hp, f_n.lt hp.in.1 hp.in.2 hp⟩
/-- behind the first look -/
def t_ja (k : qS) (n : Int) (s : Nat → Int32) : Prop := ∀ v : Int32, 0 ≤ v.toInt → v.toInt < n → (f_al k v → s v.toNatClampNeg = 4) ∧ (¬ f_al k v → s v.toNatClampNeg = 1)
theorem t_ja.nil {k : qS} {s : Nat → Int32} : t_ja k 0 s := fun v a b => absurd b (by omega)
theorem t_ja.up {k : qS} {x z : Int32} {n : Int} {s : Nat → Int32} (h : t_ja k x.toInt s) (h0 : 0 ≤ x.toInt) (hn : n = x.toInt + 1) (hz : (f_al k x ∧ z = 4) ∨ (¬ f_al k x ∧ z = 1)) : t_ja k n (upd s x.toNatClampNeg z) := fun v a b => by
  by_cases e : v = x
  · subst e
    rw [pk_us]
    rcases hz with ⟨p, q⟩ | ⟨p, q⟩
    · exact ⟨fun _ => q, fun w => absurd p w⟩
    · exact ⟨fun w => absurd w p, fun _ => q⟩
  · have ne : v.toInt ≠ x.toInt := fun q => e (Int32.toInt_inj.mp q)
    rw [pk_un (fun q => e (g_inj a h0 q))]
    exact h v a (by omega)
/-- the states while all days are gone through in time's order -/
def t_rf (k : qS) (P s : Nat → Int32) (n : Nat) : Prop := f_a1 k s ∧ (∀ j, j < n → f_sn k (P j) → f_al k (P j) → s (P j).toNatClampNeg = f_fin k (P j)) ∧ ∀ v : Int32, f_sn k v → f_al k v → s v.toNatClampNeg = f_fin k v ∨ ∀ w : Int32, f_gp k (k.2.1 1249 v.toNatClampNeg) (k.2.1 1250 v.toNatClampNeg) w → s w.toNatClampNeg = 4
theorem f_fin.al {k : qS} {v : Int32} (h : f_al k v) : f_fin k v = f_st k (k.2.1 1249 v.toNatClampNeg) (k.2.1 1250 v.toNatClampNeg) v := by unfold f_fin; rw [if_pos h]
theorem f_st.n4 {k : qS} {b d v : Int32} : ¬ f_st k b d v = 4 := by
  unfold f_st f_by
  split
  · decide
  · split <;> decide
theorem t_rf.nil {k : qS} {P s : Nat → Int32} (h : t_ja k (k.1 1247).toInt s) : t_rf k P s 0 := by
  have one : ∀ v : Int32, f_sn k v → (f_al k v → s v.toNatClampNeg = 4) ∧ (¬ f_al k v → s v.toNatClampNeg = 1) := fun v hv => h v (f_s0 hv) (Int32.lt_iff_toInt_lt.mp hv.1.2)
  refine ⟨fun v hv => ⟨fun e q => ?_, fun q => (one v hv).2 q⟩, fun j a => absurd a (Nat.not_lt_zero _), fun v hv ha => Or.inr (fun w hw => (one w hw.1).1 hw.2.2.2)⟩
  rw [(one v hv).1 q] at e; exact absurd e (by decide)
theorem t_rf.skip {k : qS} {P s : Nat → Int32} {n : Nat} (h : t_rf k P s n) (q : f_sn k (P n) → ¬ s (P n).toNatClampNeg = 4) : t_rf k P s (n + 1) := by
  refine ⟨h.1, fun j a hs ha => ?_, h.2.2⟩
  rcases Nat.lt_or_ge j n with w | w
  · exact h.2.1 j w hs ha
  · have e : j = n := by omega
    subst e
    rcases h.2.2 _ hs ha with z | z
    · exact z
    · exact absurd (z _ ⟨hs, rfl, rfl, ha⟩) (q hs)
theorem t_rf.al {k : qS} {P s : Nat → Int32} {n : Nat} (h : t_rf k P s n) (hs : f_sn k (P n)) (h4 : s (P n).toNatClampNeg = 4) : f_al k (P n) := Classical.byContradiction (fun q => by
  have e := (h.1 _ hs).mpr q
  rw [h4] at e; exact absurd e (by decide))
theorem t_rf.b4 {k : qS} {P s : Nat → Int32} {n : Nat} (h : t_rf k P s n) (hs : f_sn k (P n)) (h4 : s (P n).toNatClampNeg = 4) : ∀ i, i < n → ¬ f_gp k (k.2.1 1249 (P n).toNatClampNeg) (k.2.1 1250 (P n).toNatClampNeg) (P i) := fun i hi hp => by
  have ha := h.al hs h4
  rcases h.2.2 _ hs ha with z | z
  · rw [h4, f_fin.al ha] at z; exact absurd z.symm f_st.n4
  · have e := h.2.1 i hi hp.1 hp.2.2.2
    rw [z _ hp, f_fin.al hp.2.2.2] at e; exact absurd e.symm f_st.n4
theorem t_rf.run {k : qS} {P s t : Nat → Int32} {n : Nat} (h : t_rf k P s n) (hs : f_sn k (P n)) (h4 : s (P n).toNatClampNeg = 4) (hw : f_sw k (k.2.1 1249 (P n).toNatClampNeg) (k.2.1 1250 (P n).toNatClampNeg) (f_n (f_gp k (k.2.1 1249 (P n).toNatClampNeg) (k.2.1 1250 (P n).toNatClampNeg)) (k.1 1247).toNatClampNeg) s t) : t_rf k P t (n + 1) := by
  have ha := h.al hs h4
  have mem : ∀ v, f_gp k (k.2.1 1249 (P n).toNatClampNeg) (k.2.1 1250 (P n).toNatClampNeg) v → t v.toNatClampNeg = f_fin k v := fun v hv => by
    rw [(hw v hv.1).1 hv (f_n.lt hv.in.1 hv.in.2 hv), f_fin.al hv.2.2.2, hv.2.1, hv.2.2.1]
  have oth : ∀ v, f_sn k v → ¬ f_gp k (k.2.1 1249 (P n).toNatClampNeg) (k.2.1 1250 (P n).toNatClampNeg) v → t v.toNatClampNeg = s v.toNatClampNeg := fun v hv q => (hw v hv).2 (fun z => q z.1)
  refine ⟨hw.a1 h.1, fun j a js ja => ?_, fun v vs va => ?_⟩
  · by_cases q : f_gp k (k.2.1 1249 (P n).toNatClampNeg) (k.2.1 1250 (P n).toNatClampNeg) (P j)
    · exact mem _ q
    · rw [oth _ js q]
      rcases Nat.lt_or_ge j n with w | w
      · exact h.2.1 j w js ja
      · have e : j = n := by omega
        subst e; exact absurd ⟨hs, rfl, rfl, ha⟩ q
  · by_cases q : f_gp k (k.2.1 1249 (P n).toNatClampNeg) (k.2.1 1250 (P n).toNatClampNeg) v
    · exact Or.inl (mem _ q)
    · rcases h.2.2 v vs va with z | z
      · exact Or.inl (by rw [oth v vs q]; exact z)
      · refine Or.inr (fun w hv => ?_)
        rw [oth w hv.1 (fun y => q ⟨vs, by rw [← hv.2.1]; exact y.2.1, by rw [← hv.2.2.1]; exact y.2.2.1, va⟩)]
        exact z w hv
theorem t_rf.all {k : qS} {P s : Nat → Int32} (h : t_rf k P s (k.1 1247).toNatClampNeg) (ho : t_ord k P) : f_fi k s := fun v hv => by
  by_cases q : f_al k v
  · obtain ⟨i, i1, i2⟩ := ho.2.1 v (f_s0 hv) (Int32.lt_iff_toInt_lt.mp hv.1.2)
    have e := h.2.1 i i1 (by rw [i2]; exact hv) (by rw [i2]; exact q)
    rw [i2] at e; exact e
  · unfold f_fin; rw [if_neg q]; exact (h.1 v hv).mpr q
theorem f_fi.a1 {k : qS} {s : Nat → Int32} (h : f_fi k s) : f_a1 k s := fun v hv => by
  rw [h v hv]
  by_cases q : f_al k v
  · rw [f_fin.al q]; exact ⟨fun e => absurd e f_st.n1, fun e => absurd q e⟩
  · unfold f_fin; rw [if_neg q]; exact ⟨fun _ => q, fun _ => rfl⟩
