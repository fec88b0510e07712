/-! sums of 32 bits: over pairs, by places in time -/
def m_sm (f : Nat → Int32) : Nat → Int32
  | 0 => 0
  | n + 1 => m_sm f n + f n
theorem m_sm_s {f : Nat → Int32} {n : Nat} : m_sm f (n + 1) = m_sm f n + f n := rfl
theorem m_sm_cg {f g : Nat → Int32} : ∀ n : Nat, (∀ i, i < n → f i = g i) → m_sm f n = m_sm g n
  | 0, _ => rfl
  | n + 1, h => by rw [m_sm_s, m_sm_s, m_sm_cg n (fun i hi => h i (by omega)), h n (by omega)]
theorem m_sm_0 {f : Nat → Int32} : ∀ n : Nat, (∀ i, i < n → f i = 0) → m_sm f n = 0
  | 0, _ => rfl
  | n + 1, h => by rw [m_sm_s, m_sm_0 n (fun i hi => h i (by omega)), h n (by omega)]; rfl
theorem m_sm_add {f g : Nat → Int32} : ∀ n : Nat, m_sm (fun i => f i + g i) n = m_sm f n + m_sm g n
  | 0 => rfl
  | n + 1 => by rw [m_sm_s, m_sm_s, m_sm_s, m_sm_add n]; ac_rfl
theorem m_fold (f : Nat → Int32) (n : Nat) : ∀ (k : Nat) (z : Int32), k ≤ n → (List.range k).foldr (fun i a => f i + a) z = m_sm f k + z
  | 0, z, _ => (Int32.zero_add z).symm
  | k + 1, z, h => by
    rw [List.range_succ, List.foldr_append, m_sm_s]
    show (List.range k).foldr (fun i a => f i + a) (f k + z) = _
    rw [m_fold f n k _ (by omega)]; ac_rfl
theorem k_pm.sm {p : Nat → Nat} {m : Nat} (h : k_pm p m) (f : Nat → Int32) : m_sm (fun i => f (p i)) m = m_sm f m := by
  have pe : ((List.range m).map p).Perm (List.range m) := by
    refine (List.perm_ext_iff_of_nodup ?_ List.nodup_range).mpr (fun a => ?_)
    · refine List.pairwise_map.mpr (List.Pairwise.imp_of_mem (R := fun a b => a ≠ b) ?_ List.nodup_range)
      intro a b ha hb ne e
      exact ne (h.2.2 a b (List.mem_range.mp ha) (List.mem_range.mp hb) e)
    · rw [List.mem_map, List.mem_range]
      constructor
      · rintro ⟨i, hi, e⟩
        rw [← e]; exact h.1 i (List.mem_range.mp hi)
      · intro ha
        obtain ⟨i, hi, e⟩ := h.2.1 a ha
        exact ⟨i, List.mem_range.mpr hi, e⟩
  have a := m_fold (fun i => f (p i)) m m 0 (Nat.le_refl _)
  have b := m_fold f m m 0 (Nat.le_refl _)
  rw [Int32.add_zero] at a b
  rw [← a, ← b]
  have q := List.Perm.foldr_eq' (f := fun i (a : Int32) => f i + a) pe (fun x _ y _ z => by show f y + (f x + z) = f x + (f y + z); ac_rfl) 0
  rw [← q, List.foldr_map]
/-- over all ordered pairs -/
def m_s2 (g : Nat → Nat → Int32) (n m : Nat) : Int32 := m_sm (fun i => m_sm (g i) m) n
theorem m_s2_cg {g h : Nat → Nat → Int32} {n m : Nat} (e : ∀ i j, i < n → j < m → g i j = h i j) : m_s2 g n m = m_s2 h n m := m_sm_cg n (fun i hi => m_sm_cg m (fun j hj => e i j hi hj))
theorem k_pm.s2 {p : Nat → Nat} {m : Nat} (h : k_pm p m) (g : Nat → Nat → Int32) : m_s2 (fun i j => g (p i) (p j)) m m = m_s2 g m m := by
  show m_sm (fun i => m_sm (fun j => g (p i) (p j)) m) m = m_sm (fun i => m_sm (g i) m) m
  rw [← k_pm.sm h (fun i => m_sm (g i) m)]
  exact m_sm_cg m (fun i _ => h.sm (g (p i)))
/-- d terms from a on -/
def m_sg (f : Nat → Int32) (a : Nat) : Nat → Int32
  | 0 => 0
  | d + 1 => m_sg f a d + f (a + d)
theorem m_sg_0 {f : Nat → Int32} {a : Nat} : ∀ d : Nat, (∀ i, a ≤ i → i < a + d → f i = 0) → m_sg f a d = 0
  | 0, _ => rfl
  | d + 1, h => by
    show m_sg f a d + f (a + d) = 0
    rw [m_sg_0 d (fun i h1 h2 => h i h1 (by omega)), h _ (by omega) (by omega)]; rfl
/-- the rest is nothing -/
theorem m_sg_cut {f : Nat → Int32} {a d : Nat} : ∀ e : Nat, (∀ i, a + d ≤ i → i < a + d + e → f i = 0) → m_sg f a (d + e) = m_sg f a d
  | 0, _ => rfl
  | e + 1, h => by
    show m_sg f a (d + e) + f (a + (d + e)) = _
    rw [m_sg_cut e (fun i h1 h2 => h i h1 (by omega)), h _ (by omega) (by omega), Int32.add_zero]
/-- each pair once, the later one behind -/
def m_tr (h : Nat → Nat → Int32) (n : Nat) : Nat → Int32
  | 0 => 0
  | k + 1 => m_tr h n k + m_sg (h k) (k + 1) (n - (k + 1))
theorem m_tr_n {h : Nat → Nat → Int32} {n : Nat} : ∀ k : Nat, k ≤ n → m_tr h (n + 1) k = m_tr h n k + m_sm (fun i => h i n) k
  | 0, _ => rfl
  | k + 1, hk => by
    show m_tr h (n + 1) k + m_sg (h k) (k + 1) (n + 1 - (k + 1)) = m_tr h n k + m_sg (h k) (k + 1) (n - (k + 1)) + (m_sm (fun i => h i n) k + h k n)
    rw [m_tr_n k (by omega), show n + 1 - (k + 1) = (n - (k + 1)) + 1 by omega]
    show _ + (m_sg (h k) (k + 1) (n - (k + 1)) + h k (k + 1 + (n - (k + 1)))) = _
    rw [show k + 1 + (n - (k + 1)) = n by omega]; ac_rfl
theorem m_sym {g : Nat → Nat → Int32} (h0 : ∀ i, g i i = 0) : ∀ n : Nat, m_s2 g n n = m_tr (fun i j => g i j + g j i) n n
  | 0 => rfl
  | n + 1 => by
    show m_sm (fun i => m_sm (g i) (n + 1)) n + m_sm (g n) (n + 1) = m_tr (fun i j => g i j + g j i) (n + 1) n + m_sg (fun j => g n j + g j n) (n + 1) (n + 1 - (n + 1))
    rw [m_tr_n n (Nat.le_refl _), ← m_sym h0 n, Nat.sub_self]
    show m_sm (fun i => m_sm (g i) n + g i n) n + (m_sm (g n) n + g n n) = m_s2 g n n + m_sm (fun i => g i n + g n i) n + 0
    rw [m_sm_add, h0, m_sm_add, Int32.add_zero, Int32.add_zero]
    show m_s2 g n n + _ + _ = _
    ac_rfl
