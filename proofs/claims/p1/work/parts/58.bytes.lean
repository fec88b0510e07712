theorem byt_mask (x : BitVec 64) (s : Nat) (h : s ≤ 56) : (x.sshiftRight s).signExtend 32 &&& 255#32 = (x >>> s).signExtend 32 &&& 255#32 := by
  apply BitVec.eq_of_getLsbD_eq
  intro i hi
  rw [BitVec.getLsbD_and, BitVec.getLsbD_and]
  by_cases h8 : i < 8
  · have e1 : ((x.sshiftRight s).signExtend 32).getLsbD i = x.getLsbD (s + i) := by
      rw [BitVec.getLsbD_signExtend, if_pos (show i < 64 by omega), BitVec.getLsbD_sshiftRight, if_pos (show s + i < 64 by omega), decide_eq_true hi, decide_eq_false (show ¬ 64 ≤ i by omega)]
      rfl
    have e2 : ((x >>> s).signExtend 32).getLsbD i = x.getLsbD (s + i) := by
      rw [BitVec.getLsbD_signExtend]
      simp [hi, show i < 64 by omega]
    rw [e1, e2]
  · have e3 : (255#32).getLsbD i = false := by
      rw [show (255#32) = BitVec.ofNat 32 (2 ^ 8 - 1) from rfl, BitVec.getLsbD_ofNat, Nat.testBit_two_pow_sub_one]
      simp [h8]
    rw [e3, Bool.and_false, Bool.and_false]
theorem byt_eq (v : Int64) : ∀ i, i < 8 → bytC v (nI (8 * i)) = bytM v (nI (8 * i)) := by
  intro i hi
  have key : ∀ s : Nat, s ≤ 56 → ∀ k : Int32, ((k.toInt64 &&& 63).toBitVec.smod 64).toNat = s → (((k.toInt64.toUInt64 &&& Int64.toUInt64 63).toBitVec % 64).toNat = s) → bytC v k = bytM v k := by
    intro s hs k h1 h2
    unfold bytC bytM
    apply Int32.toBitVec_inj.mp
    rw [Int32.toBitVec_and, Int32.toBitVec_and]
    have a1 : ((v >>> (k.toInt64 &&& 63)).toInt32).toBitVec = (v.toBitVec.sshiftRight s).signExtend 32 := by
      rw [← h1]; rfl
    have a2 : (((v.toUInt64 >>> (k.toInt64.toUInt64 &&& Int64.toUInt64 63)).toInt64).toInt32).toBitVec = (v.toBitVec >>> s).signExtend 32 := by
      rw [← h2]; rfl
    rw [a1, a2]
    exact (byt_mask v.toBitVec s hs).symm
  rcases (by omega : i = 0 ∨ i = 1 ∨ i = 2 ∨ i = 3 ∨ i = 4 ∨ i = 5 ∨ i = 6 ∨ i = 7) with rfl | rfl | rfl | rfl | rfl | rfl | rfl | rfl
  · exact key 0 (by decide) _ (by decide) (by decide)
  · exact key 8 (by decide) _ (by decide) (by decide)
  · exact key 16 (by decide) _ (by decide) (by decide)
  · exact key 24 (by decide) _ (by decide) (by decide)
  · exact key 32 (by decide) _ (by decide) (by decide)
  · exact key 40 (by decide) _ (by decide) (by decide)
  · exact key 48 (by decide) _ (by decide) (by decide)
  · exact key 56 (by decide) _ (by decide) (by decide)
theorem cnt_eq (v : Int64) : ∀ i, i ≤ 8 → cntC v i = cntM v i
  | 0, _ => rfl
  | i + 1, h => by
    show cntC v i + okn (bytC v (nI (8 * i))) = cntM v i + okn (bytM v (nI (8 * i)))
    rw [cnt_eq v i (by omega), byt_eq v i (by omega)]
theorem l_feed {a b c : Int64} {r1 r2 : Int32} (h1 : r1 = nI (0 + cntC a 8 + cntC b 8 + cntC c 8)) (h2 : r2 = nI (0 + cntM a 8 + cntM b 8 + cntM c 8)) : r1 = r2 := by
  rw [h1, h2, cnt_eq a 8 (Nat.le_refl 8), cnt_eq b 8 (Nat.le_refl 8), cnt_eq c 8 (Nat.le_refl 8)]
