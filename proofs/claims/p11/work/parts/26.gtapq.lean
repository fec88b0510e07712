/-! signs fed: eight bytes of a long, the first one last -/
def z_ap (B : Nat → Int32) : Nat → (Nat → Int32) → Nat → (Nat → Int32) × Nat
  | 0, f, n => (f, n)
  | k + 1, f, n => if okn (B k) = 1 ∧ n < 1000 then z_ap B k (upd f n (B k)) (n + 1) else z_ap B k f n
theorem z_ap.same {B : Nat → Int32} : ∀ (k : Nat) {f g : Nat → Int32} {n : Nat}, (∀ l, l < n → f l = g l) → (z_ap B k f n).2 = (z_ap B k g n).2 ∧ ∀ l, l < (z_ap B k f n).2 → (z_ap B k f n).1 l = (z_ap B k g n).1 l
  | 0, f, g, n, h => ⟨rfl, h⟩
  | k + 1, f, g, n, h => by
    unfold z_ap
    by_cases q : okn (B k) = 1 ∧ n < 1000
    · rw [if_pos q, if_pos q]
      refine z_ap.same k (fun l hl => ?_)
      by_cases e : l = n
      · rw [e, pk_us, pk_us]
      · rw [pk_un e, pk_un e]; exact h l (by omega)
    · rw [if_neg q, if_neg q]
      exact z_ap.same k h
theorem z_ap.cgB {B C : Nat → Int32} : ∀ (k : Nat) {f : Nat → Int32} {n : Nat}, (∀ j, j < k → B j = C j) → z_ap B k f n = z_ap C k f n
  | 0, _, _, _ => rfl
  | k + 1, f, n, h => by
    unfold z_ap
    rw [h k (by omega), z_ap.cgB k (fun j hj => h j (by omega)), z_ap.cgB k (fun j hj => h j (by omega))]
def z_byM (v : Int64) (j : Nat) : Int32 := bytM v (nI (8 * j))
def z_byC (v : Int64) (j : Nat) : Int32 := bytC v (nI (8 * j))
section ZBY
variable {v : Int64} {x b : Int32} {f : Nat → Int32} {n : Nat} {R : (Nat → Int32) × Nat}
theorem z_byx (h0 : 0 ≤ x.toInt) (h1 : x.toInt ≤ 56) (hm : x.toInt % 8 = 0) : ((x.toInt + 8) / 8).toNat = (x.toInt / 8).toNat + 1 ∧ (((x + -8).toInt + 8) / 8).toNat = (x.toInt / 8).toNat ∧ nI (8 * (x.toInt / 8).toNat) = x := by
  have e8 : (x + -8).toInt = x.toInt + -8 := g_add (x := x) (y := -8) (by show _ ≤ x.toInt + -8; omega) (by show x.toInt + -8 < _; omega)
  exact ⟨by omega, by rw [e8]; omega, Int32.toInt_inj.mp (by rw [nI_toInt (by omega)]; omega)⟩
theorem z_apM.y (h0 : 0 ≤ x.toInt) (h1 : x.toInt ≤ 56) (hm : x.toInt % 8 = 0) (ok : okn (bytM v x) = 1) (hn : n < 1000) (ha : z_ap (z_byM v) ((x.toInt + 8) / 8).toNat f n = R) : z_ap (z_byM v) (((x + -8).toInt + 8) / 8).toNat (upd f n (bytM v x)) (n + 1) = R := by
  obtain ⟨e1, e2, e3⟩ := z_byx h0 h1 hm
  have eb : z_byM v (x.toInt / 8).toNat = bytM v x := by unfold z_byM; rw [e3]
  rw [e1, z_ap, eb, if_pos ⟨ok, hn⟩] at ha
  rw [e2]; exact ha
end ZBY
theorem z_apM.n {v : Int64} {x : Int32} {f : Nat → Int32} {n : Nat} {R : (Nat → Int32) × Nat} (h0 : 0 ≤ x.toInt) (h1 : x.toInt ≤ 56) (hm : x.toInt % 8 = 0) (no : okn (bytM v x) = 0 ∨ 1000 ≤ n) (ha : z_ap (z_byM v) ((x.toInt + 8) / 8).toNat f n = R) : z_ap (z_byM v) (((x + -8).toInt + 8) / 8).toNat f n = R := by
  obtain ⟨e1, e2, e3⟩ := z_byx h0 h1 hm
  have eb : z_byM v (x.toInt / 8).toNat = bytM v x := by unfold z_byM; rw [e3]
  rw [e1, z_ap, eb, if_neg (fun q => by rcases no with w | w <;> omega)] at ha
  rw [e2]; exact ha
section ZBY
variable {v : Int64} {x b : Int32} {f : Nat → Int32} {n : Nat} {R : (Nat → Int32) × Nat}
theorem z_apC.y (h0 : 0 ≤ x.toInt) (h1 : x.toInt ≤ 56) (hm : x.toInt % 8 = 0) (ok : okn (bytC v x) = 1) (hn : n < 1000) (ha : z_ap (z_byC v) ((x.toInt + 8) / 8).toNat f n = R) : z_ap (z_byC v) (((x + -8).toInt + 8) / 8).toNat (upd f n (bytC v x)) (n + 1) = R := by
  obtain ⟨e1, e2, e3⟩ := z_byx h0 h1 hm
  have eb : z_byC v (x.toInt / 8).toNat = bytC v x := by unfold z_byC; rw [e3]
  rw [e1, z_ap, eb, if_pos ⟨ok, hn⟩] at ha
  rw [e2]; exact ha
end ZBY
theorem z_apC.n {v : Int64} {x : Int32} {f : Nat → Int32} {n : Nat} {R : (Nat → Int32) × Nat} (h0 : 0 ≤ x.toInt) (h1 : x.toInt ≤ 56) (hm : x.toInt % 8 = 0) (no : okn (bytC v x) = 0 ∨ 1000 ≤ n) (ha : z_ap (z_byC v) ((x.toInt + 8) / 8).toNat f n = R) : z_ap (z_byC v) (((x + -8).toInt + 8) / 8).toNat f n = R := by
  obtain ⟨e1, e2, e3⟩ := z_byx h0 h1 hm
  have eb : z_byC v (x.toInt / 8).toNat = bytC v x := by unfold z_byC; rw [e3]
  rw [e1, z_ap, eb, if_neg (fun q => by rcases no with w | w <;> omega)] at ha
  rw [e2]; exact ha
section ZBY
variable {v : Int64} {x b : Int32} {f : Nat → Int32} {n : Nat} {R : (Nat → Int32) × Nat}
theorem z_nb (h : 0 ≤ b.toInt ∧ b.toInt < 128) : vp_nar .byte (b.toInt8.toInt32) = b := by
  have e : b.toInt8.toInt32 = b := Int32.toInt_inj.mp (by rw [Int8.toInt_toInt32, Int32.toInt_toInt8]; exact Int.bmod_eq_of_le (by omega) (by omega))
  rw [e]
  show b.toInt8.toInt32 = b
  exact e
end ZBY
def z_fe (B1 B2 B3 : Nat → Int32) (f : Nat → Int32) (n : Nat) : (Nat → Int32) × Nat := z_ap B3 8 (z_ap B2 8 (z_ap B1 8 f n).1 (z_ap B1 8 f n).2).1 (z_ap B2 8 (z_ap B1 8 f n).1 (z_ap B1 8 f n).2).2
theorem z_fe.of {B1 B2 B3 : Nat → Int32} {f f1 f2 f3 : Nat → Int32} {n n1 n2 n3 : Nat} (h1 : (f1, n1) = z_ap B1 8 f n) (h2 : (f2, n2) = z_ap B2 8 f1 n1) (h3 : (f3, n3) = z_ap B3 8 f2 n2) : (f3, n3) = z_fe B1 B2 B3 f n := by
  unfold z_fe
  rw [← h1]
  show _ = z_ap B3 8 (z_ap B2 8 f1 n1).1 (z_ap B2 8 f1 n1).2
  rw [← h2]
  exact h3
theorem z_okb {b : Int32} (h : okn b = 1) : 0 ≤ b.toInt ∧ b.toInt < 128 := by
  unfold okn at h
  by_cases q : b = 10 ∨ (32 ≤ b ∧ b ≤ 126)
  · rcases q with q | q
    · rw [q]; decide
    · have a := Int32.le_iff_toInt_le.mp q.1
      have c := Int32.le_iff_toInt_le.mp q.2
      have a : (32 : Int) ≤ b.toInt := a
      have c : b.toInt ≤ (126 : Int) := c
      omega
  · rw [if_neg q] at h; exact absurd h (by decide)
