/-! rows in which any two can both be: the longest, through one, and all of them -/
def k_ct (S : Nat → Bool) : Nat → Nat
  | 0 => 0
  | n + 1 => k_ct S n + (if S n = true then 1 else 0)
theorem k_ct_t {S : Nat → Bool} {n : Nat} (h : S n = true) : k_ct S (n + 1) = k_ct S n + 1 := by
  show k_ct S n + _ = _; rw [if_pos h]
theorem k_ct_f {S : Nat → Bool} {n : Nat} (h : S n = false) : k_ct S (n + 1) = k_ct S n := by
  show k_ct S n + _ = _; rw [if_neg (by rw [h]; decide)]; rfl
theorem k_ct_le {S : Nat → Bool} {a b : Nat} (h : a ≤ b) : k_ct S a ≤ k_ct S b := by
  induction b with
  | zero => have e : a = 0 := by omega
            subst e; exact Nat.le_refl _
  | succ b ih =>
    rcases Nat.lt_or_ge b a with q | q
    · have e : a = b + 1 := by omega
      subst e; exact Nat.le_refl _
    · exact Nat.le_trans (ih q) (Nat.le_add_right _ _)
theorem k_ct_lt {S : Nat → Bool} {a b : Nat} (h : a < b) (hb : S b = true) : k_ct S (a + 1) < k_ct S (b + 1) := by
  rw [k_ct_t hb]; exact Nat.lt_succ_of_le (k_ct_le h)
theorem k_ct_cg {S T : Nat → Bool} : ∀ n : Nat, (∀ i, i < n → S i = T i) → k_ct S n = k_ct T n
  | 0, _ => rfl
  | n + 1, h => by
    show k_ct S n + _ = k_ct T n + _
    rw [k_ct_cg n (fun i hi => h i (by omega)), h n (by omega)]
theorem k_ct_no {S : Nat → Bool} {a b : Nat} (h : a ≤ b) (hS : ∀ i, a ≤ i → i < b → S i = false) : k_ct S b = k_ct S a := by
  induction b with
  | zero => have e : a = 0 := by omega
            subst e; rfl
  | succ b ih =>
    rcases Nat.lt_or_ge b a with q | q
    · have e : a = b + 1 := by omega
      subst e; rfl
    · rw [k_ct_f (hS b q (by omega))]; exact ih q (fun i x y => hS i x (by omega))
/-- the last one of a set -/
theorem k_ct_last {S : Nat → Bool} : ∀ k : Nat, 0 < k_ct S k → ∃ j, j < k ∧ S j = true ∧ k_ct S k = k_ct S (j + 1)
  | 0, h => absurd h (Nat.lt_irrefl _)
  | k + 1, h => by
    by_cases q : S k = true
    · exact ⟨k, by omega, q, rfl⟩
    · have q : S k = false := by cases e : S k with
        | true => exact absurd e q
        | false => rfl
      rw [k_ct_f q] at h ⊢
      obtain ⟨j, a, b, c⟩ := k_ct_last k h
      exact ⟨j, by omega, b, c⟩
/-- the t-th one of a set -/
theorem k_ct_at {S : Nat → Bool} {t : Nat} (h1 : 1 ≤ t) : ∀ m : Nat, t ≤ k_ct S m → ∃ j, j < m ∧ S j = true ∧ k_ct S (j + 1) = t
  | 0, h => absurd h (by show ¬ t ≤ 0; omega)
  | m + 1, h => by
    rcases Nat.lt_or_ge (k_ct S m) t with q | q
    · by_cases s : S m = true
      · exact ⟨m, by omega, s, by rw [k_ct_t s] at h ⊢; omega⟩
      · have s : S m = false := by cases e : S m with
          | true => exact absurd e s
          | false => rfl
        rw [k_ct_f s] at h; omega
    · obtain ⟨j, a, b, c⟩ := k_ct_at h1 m q
      exact ⟨j, by omega, b, c⟩
def k_ch (R : Nat → Nat → Prop) (m : Nat) (S : Nat → Bool) : Prop := ∀ i j, i < j → j < m → S i = true → S j = true → R i j
def k_tr (R : Nat → Nat → Prop) (m : Nat) : Prop := ∀ i j k, i < j → j < k → k < m → R i j → R j k → R i k
def k_av (O S : Nat → Bool) (m : Nat) : Prop := ∀ i, i < m → S i = true → O i = false
def k_up (R : Nat → Nat → Prop) (O : Nat → Bool) (m : Nat) (U : Nat → Nat) : Prop := ∀ k, k < m → (O k = true → U k = 0) ∧ (O k = false → 1 ≤ U k ∧ (∀ j, j < k → O j = false → R j k → U j + 1 ≤ U k) ∧ (U k = 1 ∨ ∃ j, j < k ∧ O j = false ∧ R j k ∧ U k = U j + 1))
def k_dw (R : Nat → Nat → Prop) (m : Nat) (W : Nat → Nat) : Prop := ∀ k, k < m → 1 ≤ W k ∧ (∀ j, k < j → j < m → R k j → W j + 1 ≤ W k) ∧ (W k = 1 ∨ ∃ j, k < j ∧ j < m ∧ R k j ∧ W k = W j + 1)
theorem k_up.le {R : Nat → Nat → Prop} {O S : Nat → Bool} {m : Nat} {U : Nat → Nat} (h : k_up R O m U) (hc : k_ch R m S) (ha : k_av O S m) : ∀ k, k < m → S k = true → k_ct S (k + 1) ≤ U k := by
  intro k
  induction k using Nat.strongRecOn with
  | _ k ih =>
    intro hk hS
    have w := (h k hk).2 (ha k hk hS)
    rw [k_ct_t hS]
    rcases Nat.eq_zero_or_pos (k_ct S k) with q | q
    · omega
    · obtain ⟨j, a, b, c⟩ := k_ct_last k q
      have i := ih j a (by omega) b
      have r := w.2.1 j a (ha j (by omega) b) (hc j k a hk b hS)
      omega
theorem k_up.top {R : Nat → Nat → Prop} {O S : Nat → Bool} {m L : Nat} {U : Nat → Nat} (h : k_up R O m U) (hc : k_ch R m S) (ha : k_av O S m) (hL : ∀ k, k < m → U k ≤ L) : k_ct S m ≤ L := by
  rcases Nat.eq_zero_or_pos (k_ct S m) with q | q
  · omega
  · obtain ⟨j, a, b, c⟩ := k_ct_last m q
    have i := h.le hc ha j a b
    have l := hL j a
    omega
theorem k_up.ex {R : Nat → Nat → Prop} {O : Nat → Bool} {m : Nat} {U : Nat → Nat} (h : k_up R O m U) (ht : k_tr R m) : ∀ k, k < m → O k = false → ∃ S : Nat → Bool, k_ch R m S ∧ k_av O S m ∧ S k = true ∧ (∀ j, k < j → S j = false) ∧ k_ct S (k + 1) = U k := by
  intro k
  induction k using Nat.strongRecOn with
  | _ k ih =>
    intro hk hO
    have w := (h k hk).2 hO
    rcases w.2.2 with e | ⟨j, a, b, c, d⟩
    · refine ⟨fun i => decide (i = k), fun i j a b p q => ?_, fun i a p => ?_, decide_eq_true rfl, fun j a => decide_eq_false (by omega), ?_⟩
      · have p := of_decide_eq_true p
        have q := of_decide_eq_true q
        omega
      · have p := of_decide_eq_true p
        rw [p]; exact hO
      · rw [k_ct_t (decide_eq_true rfl), k_ct_no (Nat.zero_le k) (fun i _ y => decide_eq_false (by omega)), e]; rfl
    · obtain ⟨S, s1, s2, s3, s4, s5⟩ := ih j a (by omega) b
      have nk : S k = false := s4 k a
      have inb : ∀ i, i < k → S i = true → R i k := fun i hi p => by
        rcases Nat.lt_or_ge j i with q | q
        · rw [s4 i q] at p; cases p
        · rcases Nat.lt_or_ge i j with z | z
          · exact ht i j k z a hk (s1 i j z (by omega) p s3) c
          · have e : i = j := by omega
            rw [e]; exact c
      refine ⟨fun i => if i = k then true else S i, fun x y p q r t => ?_, fun i p q => ?_, if_pos rfl, fun i p => ?_, ?_⟩
      · have t1 : (if y = k then true else S y) = true := t
        have r1 : (if x = k then true else S x) = true := r
        by_cases ey : y = k
        · subst ey
          rw [if_neg (by omega)] at r1
          exact inb x p r1
        · rw [if_neg ey] at t1
          by_cases ex : x = k
          · subst ex; rw [s4 y (by omega)] at t1; cases t1
          · rw [if_neg ex] at r1
            exact s1 x y p q r1 t1
      · have q : (if i = k then true else S i) = true := q
        by_cases e : i = k
        · subst e; exact hO
        · rw [if_neg e] at q; exact s2 i p q
      · show (if i = k then true else S i) = false
        rw [if_neg (by omega)]; exact s4 i (by omega)
      · have e1 : k_ct (fun i => if i = k then true else S i) (k + 1) = k_ct (fun i => if i = k then true else S i) k + 1 := k_ct_t (if_pos rfl)
        have e2 : k_ct (fun i => if i = k then true else S i) k = k_ct S k := k_ct_cg k (fun i hi => if_neg (by omega))
        have e3 : k_ct S k = k_ct S (j + 1) := k_ct_no a (fun i p q => s4 i (by omega))
        rw [e1, e2, e3, s5, d]
/-- how many from k on -/
theorem k_dw.le {R : Nat → Nat → Prop} {S : Nat → Bool} {m : Nat} {W : Nat → Nat} (h : k_dw R m W) (hc : k_ch R m S) : ∀ d k, k + d = m → S k = true → k_ct S m ≤ k_ct S k + W k := by
  intro d
  induction d using Nat.strongRecOn with
  | _ d ih =>
    intro k e hS
    rcases Nat.lt_or_ge k m with hk | hk
    · -- the next one of the set
      have nx : (∀ i, k + 1 ≤ i → i < m → S i = false) ∨ ∃ j, k < j ∧ j < m ∧ S j = true ∧ ∀ i, k + 1 ≤ i → i < j → S i = false := by
        have gen : ∀ n, k + 1 + n ≤ m → (∀ i, k + 1 ≤ i → i < k + 1 + n → S i = false) ∨ ∃ j, k < j ∧ j < m ∧ S j = true ∧ ∀ i, k + 1 ≤ i → i < j → S i = false := by
          intro n
          induction n with
          | zero => intro _; exact Or.inl (fun i a b => absurd b (by omega))
          | succ n ih2 =>
            intro hn
            rcases ih2 (by omega) with q | q
            · cases es : S (k + 1 + n) with
              | true => exact Or.inr ⟨k + 1 + n, by omega, by omega, es, q⟩
              | false => exact Or.inl (fun i a b => by
                  rcases Nat.lt_or_ge i (k + 1 + n) with z | z
                  · exact q i a z
                  · have e2 : i = k + 1 + n := by omega
                    rw [e2]; exact es)
            · exact Or.inr q
        rcases gen (m - (k + 1)) (by omega) with q | q
        · exact Or.inl (fun i a b => q i a (by omega))
        · exact Or.inr q
      rcases nx with q | ⟨j, a, b, c, q⟩
      · rw [k_ct_no (a := k + 1) (by omega) q, k_ct_t hS]
        have w := (h k hk).1
        omega
      · have i := ih (m - j) (by omega) j (by omega) c
        have w := (h k hk).2.1 j a b (hc k j a b hS c)
        rw [k_ct_no (a := k + 1) (b := j) (by omega) (fun i x y => q i x y), k_ct_t hS] at i
        omega
    · have e2 : m = k := by omega
      subst e2; omega
theorem k_dw.ex {R : Nat → Nat → Prop} {m : Nat} {W : Nat → Nat} (h : k_dw R m W) (ht : k_tr R m) : ∀ d k, k + d = m → k < m → ∃ S : Nat → Bool, k_ch R m S ∧ S k = true ∧ (∀ j, j < k → S j = false) ∧ k_ct S m = W k := by
  intro d
  induction d using Nat.strongRecOn with
  | _ d ih =>
    intro k e hk
    have w := h k hk
    rcases w.2.2 with q | ⟨j, a, b, c, f⟩
    · refine ⟨fun i => decide (i = k), fun i j a b p q => ?_, decide_eq_true rfl, fun j a => decide_eq_false (by omega), ?_⟩
      · have p := of_decide_eq_true p
        have q := of_decide_eq_true q
        omega
      · rw [k_ct_no (a := k + 1) (by omega) (fun i x y => decide_eq_false (by omega)), k_ct_t (decide_eq_true rfl), k_ct_no (Nat.zero_le k) (fun i _ y => decide_eq_false (by omega)), q]; rfl
    · obtain ⟨S, s1, s3, s4, s5⟩ := ih (m - j) (by omega) j (by omega) b
      have inb : ∀ i, k < i → i < m → S i = true → R k i := fun i hi hm p => by
        rcases Nat.lt_or_ge i j with q | q
        · rw [s4 i q] at p; cases p
        · rcases Nat.lt_or_ge j i with z | z
          · exact ht k j i a z hm c (s1 j i z hm s3 p)
          · have e : i = j := by omega
            rw [e]; exact c
      refine ⟨fun i => if i = k then true else S i, fun x y p q r t => ?_, if_pos rfl, fun i p => ?_, ?_⟩
      · have t1 : (if y = k then true else S y) = true := t
        have r1 : (if x = k then true else S x) = true := r
        by_cases ex : x = k
        · subst ex
          rw [if_neg (by omega)] at t1
          exact inb y p q t1
        · rw [if_neg ex] at r1
          by_cases ey : y = k
          · subst ey; rw [s4 x (by omega)] at r1; cases r1
          · rw [if_neg ey] at t1
            exact s1 x y p q r1 t1
      · show (if i = k then true else S i) = false
        rw [if_neg (by omega)]; exact s4 i (by omega)
      · have cz : k_ct (fun i => if i = k then true else S i) k = 0 := k_ct_no (a := 0) (Nat.zero_le k) (fun i _ y => by show (if i = k then true else S i) = false; rw [if_neg (by omega)]; exact s4 i (by omega))
        have c1 : k_ct (fun i => if i = k then true else S i) (k + 1) = 1 := by rw [k_ct_t (if_pos rfl), cz]
        have sz : k_ct S (k + 1) = 0 := k_ct_no (a := 0) (Nat.zero_le _) (fun i _ y => s4 i (by omega))
        have gen : ∀ n, k_ct (fun i => if i = k then true else S i) (k + 1 + n) = k_ct S (k + 1 + n) + 1 := by
          intro n
          induction n with
          | zero => show k_ct _ (k + 1) = k_ct S (k + 1) + 1; rw [c1, sz]
          | succ n ih2 =>
            show k_ct _ (k + 1 + n) + (if (if k + 1 + n = k then true else S (k + 1 + n)) = true then 1 else 0) = k_ct S (k + 1 + n) + (if S (k + 1 + n) = true then 1 else 0) + 1
            rw [ih2, if_neg (show ¬ k + 1 + n = k by omega)]; omega
        have g := gen (m - (k + 1))
        rw [show k + 1 + (m - (k + 1)) = m by omega] at g
        rw [g, s5, f]
def k_z : Nat → Bool := fun _ => false
theorem k_av.z {S : Nat → Bool} {m : Nat} : k_av k_z S m := fun _ _ _ => rfl
/-- a row through k -/
theorem k_thru {R : Nat → Nat → Prop} {S : Nat → Bool} {m : Nat} {U W : Nat → Nat} (hu : k_up R k_z m U) (hw : k_dw R m W) (hc : k_ch R m S) {k : Nat} (hk : k < m) (hS : S k = true) : k_ct S (k + 1) ≤ U k ∧ k_ct S m ≤ k_ct S k + W k ∧ k_ct S (k + 1) = k_ct S k + 1 :=
  ⟨hu.le hc k_av.z k hk hS, hw.le hc (m - k) k (by omega) hS, k_ct_t hS⟩
theorem k_thru.ex {R : Nat → Nat → Prop} {m : Nat} {U W : Nat → Nat} (hu : k_up R k_z m U) (hw : k_dw R m W) (ht : k_tr R m) {k : Nat} (hk : k < m) : ∃ S : Nat → Bool, k_ch R m S ∧ S k = true ∧ k_ct S m + 1 = U k + W k := by
  obtain ⟨A, a1, -, a3, a4, a5⟩ := hu.ex ht k hk rfl
  obtain ⟨B, b1, b3, b4, b5⟩ := hw.ex ht (m - k) k (by omega) hk
  refine ⟨fun i => if i ≤ k then A i else B i, fun x y p q r t => ?_, by show (if k ≤ k then A k else B k) = true; rw [if_pos (Nat.le_refl _)]; exact a3, ?_⟩
  · have t : (if y ≤ k then A y else B y) = true := t
    have r : (if x ≤ k then A x else B x) = true := r
    by_cases ey : y ≤ k
    · rw [if_pos ey] at t
      rw [if_pos (by omega)] at r
      exact a1 x y p q r t
    · rw [if_neg ey] at t
      have rk : R k y := b1 k y (by omega) q b3 t
      by_cases ex : x ≤ k
      · rw [if_pos ex] at r
        rcases Nat.lt_or_ge x k with z | z
        · exact ht x k y z (by omega) q (a1 x k z hk r a3) rk
        · have e : x = k := by omega
          rw [e]; exact rk
      · rw [if_neg ex] at r
        exact b1 x y p q r t
  · have c1 : k_ct (fun i => if i ≤ k then A i else B i) (k + 1) = U k := by
      rw [← a5]; exact k_ct_cg _ (fun i hi => if_pos (by omega))
    have bk : k_ct B (k + 1) = 1 := by rw [k_ct_t b3, k_ct_no (a := 0) (Nat.zero_le k) (fun i _ y => b4 i y)]; rfl
    have gen : ∀ n, k_ct (fun i => if i ≤ k then A i else B i) (k + 1 + n) + 1 = U k + k_ct B (k + 1 + n) := by
      intro n
      induction n with
      | zero => show k_ct _ (k + 1) + 1 = U k + k_ct B (k + 1); rw [c1, bk]
      | succ n ih2 =>
        show k_ct _ (k + 1 + n) + (if (if k + 1 + n ≤ k then A (k + 1 + n) else B (k + 1 + n)) = true then 1 else 0) + 1 = U k + (k_ct B (k + 1 + n) + (if B (k + 1 + n) = true then 1 else 0))
        rw [if_neg (show ¬ k + 1 + n ≤ k by omega)]; omega
    have g := gen (m - (k + 1))
    rw [show k + 1 + (m - (k + 1)) = m by omega, b5] at g
    exact g
/-- what the class says of the k-th -/
def k_sure (U W : Nat → Nat) (L k : Nat) : Prop := U k + W k < L + 1
def k_need (U W : Nat → Nat) (m L k : Nat) : Prop := ∀ j, j < m → j ≠ k → U j = U k → U j + W j ≠ L + 1
def k_mx (R : Nat → Nat → Prop) (m L : Nat) (S : Nat → Bool) : Prop := k_ch R m S ∧ k_ct S m = L
theorem k_bd {R : Nat → Nat → Prop} {m L : Nat} {U W : Nat → Nat} (hu : k_up R k_z m U) (hw : k_dw R m W) (ht : k_tr R m) (hL : ∀ k, k < m → U k ≤ L) {k : Nat} (hk : k < m) : U k + W k ≤ L + 1 := by
  obtain ⟨S, s1, -, s3⟩ := k_thru.ex hu hw ht hk
  have t := hu.top s1 k_av.z hL
  omega
theorem k_sure_iff {R : Nat → Nat → Prop} {m L : Nat} {U W : Nat → Nat} (hu : k_up R k_z m U) (hw : k_dw R m W) (ht : k_tr R m) (hL : ∀ k, k < m → U k ≤ L) {k : Nat} (hk : k < m) : k_sure U W L k ↔ ∀ S, k_mx R m L S → S k = false := by
  constructor
  · intro q S hS
    cases e : S k with
    | false => rfl
    | true =>
      have t := k_thru hu hw hS.1 hk e
      have c := hS.2
      unfold k_sure at q; omega
  · intro q
    unfold k_sure
    rcases Nat.lt_or_ge (U k + W k) (L + 1) with z | z
    · exact z
    · obtain ⟨S, s1, s2, s3⟩ := k_thru.ex hu hw ht hk
      have b := k_bd hu hw ht hL hk
      have w := q S ⟨s1, by omega⟩
      rw [s2] at w; cases w
theorem k_need_iff {R : Nat → Nat → Prop} {m L : Nat} {U W : Nat → Nat} (hu : k_up R k_z m U) (hw : k_dw R m W) (ht : k_tr R m) (hL : ∀ k, k < m → U k ≤ L) {k : Nat} (hk : k < m) (hs : ¬ k_sure U W L k) : k_need U W m L k ↔ ∀ S, k_mx R m L S → S k = true := by
  have b := k_bd hu hw ht hL hk
  unfold k_sure at hs
  have lev : ∀ S, k_mx R m L S → ∀ j, j < m → S j = true → U j = k_ct S (j + 1) ∧ U j + W j = L + 1 := fun S hS j hj e => by
    have t := k_thru hu hw hS.1 hj e
    have c := hS.2
    have b := k_bd hu hw ht hL hj
    omega
  constructor
  · intro q S hS
    have u1 := ((hu k hk).2 rfl).1
    have uL := hL k hk
    have w := (hw k hk).1
    obtain ⟨j, j1, j2, j3⟩ := k_ct_at (S := S) u1 m (by rw [hS.2]; exact uL)
    have l := lev S hS j j1 j2
    rcases Nat.decEq j k with e | e
    · exact absurd l.2 (q j j1 e (by omega))
    · rw [← e]; exact j2
  · intro q j hj hne hu2 hw2
    obtain ⟨S, s1, s2, s3⟩ := k_thru.ex hu hw ht hj
    have mx : k_mx R m L S := ⟨s1, by omega⟩
    have sk := q S mx
    have l1 := (lev S mx j hj s2).1
    have l2 := (lev S mx k hk sk).1
    rcases Nat.lt_or_ge j k with z | z
    · have c := k_ct_lt z sk; omega
    · have c := k_ct_lt (show k < j by omega) s2; omega
/-- there is one of the greatest number -/
theorem k_mx.ex {R : Nat → Nat → Prop} {m L : Nat} {U : Nat → Nat} (hu : k_up R k_z m U) (ht : k_tr R m) (hL : L = 0 ∨ ∃ k, k < m ∧ U k = L) (hL2 : ∀ k, k < m → U k ≤ L) : ∃ S, k_mx R m L S := by
  rcases hL with e | ⟨k, hk, e⟩
  · refine ⟨k_z, ⟨fun i j a b p q => ?_, ?_⟩⟩
    · exact absurd (show false = true from p) (by decide)
    · rw [e]; exact k_ct_no (a := 0) (Nat.zero_le m) (fun _ _ _ => rfl)
  · obtain ⟨S, s1, -, s3, s4, s5⟩ := hu.ex ht k hk rfl
    exact ⟨S, s1, by rw [k_ct_no (a := k + 1) (by omega) (fun i x y => s4 i (by omega)), s5, e]⟩
