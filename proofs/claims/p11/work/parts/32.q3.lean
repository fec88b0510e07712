/-! the tokens of a tape, as the class and the reference keep them -/
def z_sg (c : Int32) : Int32 := if c = 40 then 4 else if c = 41 then 5 else if c = 60 then 6 else if c = 61 then 7 else if c = 43 then 8 else if c = 45 then 9 else if c = 42 then 10 else if c = 59 then 11 else 0
/-- the words that stand for themselves, in the order of their kinds -/
def z_wd (j : Nat) : List Int32 := ([[116, 101, 108], [100, 100, 97], [110, 101, 104, 119], [116, 115, 117, 109], [115, 117, 110, 111, 98], [100, 110, 97], [114, 111], [109, 101, 116, 105], [108, 108, 97], [115, 101, 116, 117, 110, 105, 109], [114, 117, 111, 104], [116, 112, 105, 101, 99, 101, 114], [107, 101, 101, 119], [101, 114, 111, 102, 101, 98], [116, 111, 110]] : List (List Int32)).getD j []
/-- the reference's order -/
def z_od (k : Nat) : Nat := ([0, 1, 3, 4, 2, 5, 6, 14, 7, 8, 9, 10, 11, 12, 13] : List Nat).getD k 0
def z_kw (w : List Int32) : Int32 := if z_ix z_wd w 15 = -1 then 3 else 12 + z_ix z_wd w 15
def z_cw (w : List Int32) : Int64 := Int64.ofNat (x_nb 256 0 w)
def z_rw (w : List Int32) : Int64 := Int64.ofNat (x_nb 37 96 w)
/-- numbers, by their digits -/
theorem x_nb.lt' {b s : Nat} (hb : 0 < b) : ∀ l : List Int32, (∀ c ∈ l, 0 ≤ c.toInt ∧ c.toInt < b + s) → x_nb b s l < b ^ l.length
  | [], _ => by show 0 < b ^ 0; rw [Nat.pow_zero]; omega
  | c :: l, h => by
    have ih := x_nb.lt' hb l (fun z hz => h z (List.mem_cons_of_mem _ hz))
    have q := h c List.mem_cons_self
    show b * x_nb b s l + (c.toInt.toNat - s) < b ^ (l.length + 1)
    rw [Nat.pow_succ]
    have m : b * (x_nb b s l + 1) ≤ b * b ^ l.length := Nat.mul_le_mul_left b ih
    rw [Nat.mul_add] at m
    rw [Nat.mul_comm (b ^ l.length) b]
    omega
theorem z_of64 {a b : Nat} (ha : a < 2 ^ 64) (hb : b < 2 ^ 64) (h : Int64.ofNat a = Int64.ofNat b) : a = b := by
  have e := congrArg (fun z : Int64 => z.toBitVec.toNat) h
  have e : a % 2 ^ 64 = b % 2 ^ 64 := e
  rw [Nat.mod_eq_of_lt ha, Nat.mod_eq_of_lt hb] at e
  exact e
def z_ok (w : List Int32) : Prop := x_all w ∧ w.length ≤ 8
theorem z_cw.inj {w w' : List Int32} (h : z_ok w) (h' : z_ok w') : z_cw w = z_cw w' ↔ w = w' := by
  refine ⟨fun e => ?_, fun e => by rw [e]⟩
  have p : ∀ v : List Int32, z_ok v → x_nb 256 0 v < 2 ^ 64 := fun v hv => Nat.lt_of_lt_of_le (x_nb.lt (by omega) (by omega) v hv.1) (Nat.le_trans (Nat.pow_le_pow_right (by omega) hv.2) (by decide))
  exact x_nb.inj (by omega) (by omega) w w' h.1 h'.1 (z_of64 (p w h) (p w' h') e)
theorem z_rw.lt {w : List Int32} (h : z_ok w) : x_nb 37 96 w < 3512479453921 := Nat.lt_of_lt_of_le (x_nb.lt (by omega) (by omega) w h.1) (Nat.le_trans (Nat.pow_le_pow_right (by omega) h.2) (by decide))
theorem z_rw.inj {w w' : List Int32} (h : z_ok w) (h' : z_ok w') : z_rw w = z_rw w' ↔ w = w' := by
  refine ⟨fun e => ?_, fun e => by rw [e]⟩
  have a := z_rw.lt h
  have b := z_rw.lt h'
  exact x_nb.inj (by omega) (by omega) w w' h.1 h'.1 (z_of64 (by omega) (by omega) e)
theorem z_wd.ok : ∀ j : Nat, j < 15 → z_ok (z_wd j) := by
  intro j hj
  have key : ∀ i : Fin 15, (∀ c ∈ z_wd i.val, (97 : Int32) ≤ c ∧ c ≤ 122) ∧ (z_wd i.val).length ≤ 8 := by decide +kernel
  exact key ⟨j, hj⟩
/-- a letter behind a word -/
theorem z_i64 {c : Int32} (h : 0 ≤ c.toInt) : c.toInt64 = Int64.ofNat c.toInt.toNat := by
  refine Int64.toInt.inj ?_
  have q := g_rng c
  rw [Int32.toInt_toInt64, Int64.toInt_ofNat_of_lt (by omega)]
  omega
theorem z_cw.push {w : List Int32} {c : Int32} (h : 0 ≤ c.toInt ∧ c.toInt < 256) : (z_cw w <<< ((8 : Int32).toInt64 &&& 63)) ||| c.toInt64 = z_cw (c :: w) := by
  have e8 : ((8 : Int32).toInt64 &&& 63) = (8 : Int64) := by decide
  rw [e8, z_i64 h.1]
  unfold z_cw
  show _ = Int64.ofNat (256 * x_nb 256 0 w + (c.toInt.toNat - 0))
  generalize x_nb 256 0 w = n
  have hc : c.toInt.toNat < 256 := by omega
  generalize c.toInt.toNat = m at hc
  refine Int64.toBitVec_inj.1 (BitVec.eq_of_toNat_eq ?_)
  have l1 : (Int64.ofNat n <<< (8 : Int64) ||| Int64.ofNat m).toBitVec = (BitVec.ofNat 64 n <<< (8 : Nat)) ||| BitVec.ofNat 64 m := rfl
  rw [l1, BitVec.toNat_or, BitVec.toNat_shiftLeft]
  show ((n % 2 ^ 64) <<< 8) % 2 ^ 64 ||| (m % 2 ^ 64) = (256 * n + (m - 0)) % 2 ^ 64
  rw [Nat.shiftLeft_eq, Nat.mod_eq_of_lt (show m < 2 ^ 64 by omega)]
  have e1 : n % 2 ^ 64 * 2 ^ 8 % 2 ^ 64 = (n % 2 ^ 56) <<< 8 := by rw [Nat.shiftLeft_eq]; omega
  rw [e1, ← Nat.shiftLeft_add_eq_or_of_lt (show m < 2 ^ 8 by omega), Nat.shiftLeft_eq]
  omega
theorem z_rw.push {w : List Int32} {c : Int32} (h : x_le c) : 37 * z_rw w + (c - 96).toInt64 = z_rw (c :: w) := by
  have a : 97 ≤ c.toInt := Int32.le_iff_toInt_le.mp h.1
  have b : c.toInt ≤ 122 := Int32.le_iff_toInt_le.mp h.2
  have e : (c - 96).toInt = c.toInt - 96 := g_sub (x := c) (y := 96) (by show _ ≤ c.toInt - 96; omega) (by show c.toInt - 96 < _; omega)
  rw [z_i64 (c := c - 96) (by omega), e]
  show (37 : Int64) * Int64.ofNat (x_nb 37 96 w) + _ = Int64.ofNat (37 * x_nb 37 96 w + (c.toInt.toNat - 96))
  rw [Int64.ofNat_add, Int64.ofNat_mul]
  exact congrArg (fun n : Nat => Int64.ofNat 37 * Int64.ofNat (x_nb 37 96 w) + Int64.ofNat n) (by omega)

/-- where the i-th part of a tape is looked for -/
noncomputable def x_b (f : Nat → Int32) (n : Nat) : Nat → Nat
  | 0 => 0
  | i + 1 => x_E f n (x_T f n i)
theorem x_T.b {f : Nat → Int32} {n : Nat} : ∀ i : Nat, x_T f n i = x_to x_bl f n (x_b f n i)
  | 0 => rfl
  | _ + 1 => rfl
noncomputable def z_d (f : Nat → Int32) (n i : Nat) : Nat := x_E f n (x_T f n i) - x_T f n i
noncomputable def z_W (f : Nat → Int32) (n i : Nat) : List Int32 := x_ls f (x_T f n i) (z_d f n i)
noncomputable def z_K (f : Nat → Int32) (n i : Nat) : Int32 :=
  @ite _ (n ≤ x_T f n i) (Classical.propDecidable _) 1 (@ite _ (x_le (f (x_T f n i))) (Classical.propDecidable _) (if 8 < z_d f n i then 0 else z_kw (z_W f n i)) (@ite _ (x_di (f (x_T f n i))) (Classical.propDecidable _) (if 4 < z_d f n i then 0 else 2) (z_sg (f (x_T f n i)))))
noncomputable def z_N (f : Nat → Int32) (n i : Nat) : Int32 := Int32.ofNat (x_nb 10 48 (z_W f n i))
noncomputable def z_PL (f : Nat → Int32) (n i : Nat) : Int32 := Int32.ofNat (x_T f n i)
noncomputable def z_T (f : Nat → Int32) (n : Nat) : zT := (z_K f n, z_N f n, z_W f n, z_PL f n)
section ZK
variable {f : Nat → Int32} {n i : Nat}
theorem z_K.end (h : n ≤ x_T f n i) : z_K f n i = 1 := by unfold z_K; rw [if_pos h]
theorem z_K.le (h : x_T f n i < n) (q : x_le (f (x_T f n i))) : z_K f n i = if 8 < z_d f n i then 0 else z_kw (z_W f n i) := by unfold z_K; rw [if_neg (by omega), if_pos q]
theorem z_K.di (h : x_T f n i < n) (q : ¬ x_le (f (x_T f n i))) (r : x_di (f (x_T f n i))) : z_K f n i = if 4 < z_d f n i then 0 else 2 := by unfold z_K; rw [if_neg (by omega), if_neg q, if_pos r]
theorem z_K.one (h : x_T f n i < n) (q : ¬ x_le (f (x_T f n i))) (r : ¬ x_di (f (x_T f n i))) : z_K f n i = z_sg (f (x_T f n i)) := by unfold z_K; rw [if_neg (by omega), if_neg q, if_neg r]
theorem z_ix.rg {G : Nat → List Int32} {w : List Int32} : ∀ m : Nat, z_ix G w m = -1 ∨ ∃ j, j < m ∧ z_ix G w m = Int32.ofNat j ∧ G j = w
  | 0 => Or.inl rfl
  | m + 1 => by
    rcases z_ix.rg (G := G) (w := w) m with e | ⟨j, j1, j2, j3⟩
    · by_cases g : G m = w
      · refine Or.inr ⟨m, by omega, ?_, g⟩
        rw [z_ix, e, if_neg (fun q => q rfl), if_pos g]
      · refine Or.inl ?_
        rw [z_ix.skip g, e]
    · by_cases g : z_ix G w m = -1
      · by_cases g2 : G m = w
        · refine Or.inr ⟨m, by omega, ?_, g2⟩
          rw [z_ix, g, if_neg (fun q => q rfl), if_pos g2]
        · refine Or.inl ?_
          rw [z_ix.skip g2, g]
      · refine Or.inr ⟨j, by omega, ?_, j3⟩
        rw [z_ix, if_pos g, j2]
theorem z_kw.rg (w : List Int32) : (z_kw w = 3 ∧ ∀ j, j < 15 → z_wd j ≠ w) ∨ ∃ j, j < 15 ∧ z_kw w = 12 + Int32.ofNat j ∧ z_wd j = w := by
  by_cases e : z_ix z_wd w 15 = -1
  · refine Or.inl ⟨by unfold z_kw; rw [if_pos e], fun j hj g => ?_⟩
    have key : ∀ m : Nat, j < m → z_ix z_wd w m = -1 → False := by
      intro m
      induction m with
      | zero => intro q; exact absurd q (by omega)
      | succ m ih =>
        intro q z
        rw [z_ix] at z
        by_cases y : z_ix z_wd w m = -1
        · by_cases e : j = m
          · subst e
            rw [y, if_neg (fun q => q rfl), if_pos g] at z
            have a := congrArg Int32.toInt z
            by_cases l : j < 1000
            · rw [Int32.toInt_ofNat_of_lt (by omega)] at a
              have b : (-1 : Int32).toInt = -1 := rfl
              omega
            · omega
          · exact ih (by omega) y
        · rw [if_pos y] at z
          exact y z
    exact key 15 hj e
  · rcases z_ix.rg (G := z_wd) (w := w) 15 with q | ⟨j, j1, j2, j3⟩
    · exact absurd q e
    · exact Or.inr ⟨j, j1, by unfold z_kw; rw [if_neg e, j2], j3⟩
theorem z_wd.inj {i j : Nat} (hi : i < 15) (hj : j < 15) (h : z_wd i = z_wd j) : i = j := by
  have key : ∀ a b : Fin 15, z_wd a.val = z_wd b.val → a.val = b.val := by decide +kernel
  exact key ⟨i, hi⟩ ⟨j, hj⟩ h
theorem z_kw.wd {w : List Int32} {j : Nat} (hj : j < 15) : z_kw w = 12 + Int32.ofNat j ↔ z_wd j = w := by
  have v : ∀ a : Fin 15, (12 : Int32) + Int32.ofNat a.val ≠ 3 := by decide +kernel
  have v2 : ∀ a b : Fin 15, (12 : Int32) + Int32.ofNat a.val = 12 + Int32.ofNat b.val → a.val = b.val := by decide +kernel
  rcases z_kw.rg w with ⟨a, b⟩ | ⟨i, i1, i2, i3⟩
  · exact ⟨fun e => absurd (e.symm.trans a) (v ⟨j, hj⟩), fun e => absurd e (b j hj)⟩
  · refine ⟨fun e => ?_, fun e => ?_⟩
    · have := v2 ⟨i, i1⟩ ⟨j, hj⟩ (i2.symm.trans e)
      have e2 : i = j := this
      rw [← e2]; exact i3
    · rw [i2, z_wd.inj i1 hj (i3.trans e.symm)]
theorem z_kw.three {w : List Int32} : z_kw w = 3 ↔ ∀ j, j < 15 → z_wd j ≠ w := by
  have v : ∀ a : Fin 15, (12 : Int32) + Int32.ofNat a.val ≠ 3 := by decide +kernel
  rcases z_kw.rg w with ⟨a, b⟩ | ⟨i, i1, i2, i3⟩
  · exact ⟨fun _ => b, fun _ => a⟩
  · exact ⟨fun e => absurd (i2.symm.trans e) (v ⟨i, i1⟩), fun e => absurd i3 (e i i1)⟩
theorem z_kw.ge (w : List Int32) : 3 ≤ z_kw w ∧ z_kw w ≠ 4 ∧ z_kw w ≠ 5 ∧ z_kw w ≠ 6 ∧ z_kw w ≠ 7 ∧ z_kw w ≠ 8 ∧ z_kw w ≠ 9 ∧ z_kw w ≠ 10 ∧ z_kw w ≠ 11 := by
  have v : ∀ a : Fin 15, 3 ≤ (12 : Int32) + Int32.ofNat a.val ∧ (12 : Int32) + Int32.ofNat a.val ≠ 4 ∧ (12 : Int32) + Int32.ofNat a.val ≠ 5 ∧ (12 : Int32) + Int32.ofNat a.val ≠ 6 ∧ (12 : Int32) + Int32.ofNat a.val ≠ 7 ∧ (12 : Int32) + Int32.ofNat a.val ≠ 8 ∧ (12 : Int32) + Int32.ofNat a.val ≠ 9 ∧ (12 : Int32) + Int32.ofNat a.val ≠ 10 ∧ (12 : Int32) + Int32.ofNat a.val ≠ 11 := by decide +kernel
  rcases z_kw.rg w with ⟨a, b⟩ | ⟨i, i1, i2, i3⟩
  · rw [a]; decide
  · rw [i2]; exact v ⟨i, i1⟩
theorem z_sg.rg (c : Int32) : z_sg c = 0 ∨ (4 ≤ z_sg c ∧ z_sg c ≤ 11) := by
  unfold z_sg
  repeat' split
  all_goals first | exact Or.inl rfl | exact Or.inr (by decide)
theorem z_W.all (h : x_T f n i < n) (q : x_le (f (x_T f n i))) : x_all (z_W f n i) := by
  refine x_ls.all _ (fun l a b => ?_)
  have e := x_E.le h q
  have r := x_to.run x_le f n (x_T f n i)
  have bd := (x_E.bd (f := f) (n := n) (p := x_T f n i) (x_T.bd i)).1
  unfold z_d at b
  rw [e] at b bd
  exact r.2.1 l a (by omega)
theorem z_W.ok (h : x_T f n i < n) (q : x_le (f (x_T f n i))) (d : z_d f n i ≤ 8) : z_ok (z_W f n i) := ⟨z_W.all h q, by unfold z_W; rw [x_ls.len]; exact d⟩
theorem z_K.three : z_K f n i = 3 → x_T f n i < n ∧ x_le (f (x_T f n i)) ∧ z_d f n i ≤ 8 ∧ z_kw (z_W f n i) = 3 := by
  intro e
  by_cases h : n ≤ x_T f n i
  · rw [z_K.end h] at e; exact absurd e (by decide)
  · by_cases q : x_le (f (x_T f n i))
    · rw [z_K.le (by omega) q] at e
      split at e
      · exact absurd e (by decide)
      · exact ⟨by omega, q, by omega, e⟩
    · by_cases r : x_di (f (x_T f n i))
      · rw [z_K.di (by omega) q r] at e
        split at e <;> exact absurd e (by decide)
      · rw [z_K.one (by omega) q r] at e
        rcases z_sg.rg (f (x_T f n i)) with z | z
        · rw [z] at e; exact absurd e (by decide)
        · rw [e] at z; exact absurd z (by decide)
theorem z_K.ok (e : z_K f n i = 3) : z_ok (z_W f n i) := by
  obtain ⟨a, b, c, -⟩ := z_K.three e
  exact z_W.ok a b c
end ZK
/-! the reference's rows: sorts, places, values -/
def z_RT (f : Nat → Int32) (n : Nat) (so pl : Nat → Int32) (va : Nat → Int64) (i : Nat) : Prop :=
  (pl i = z_PL f n i ∧ x_T f n i < n) ∧
  ((x_le (f (x_T f n i)) ∧ so i = (if 8 < z_d f n i then 4 else 1) ∧ (z_d f n i ≤ 8 → va i = z_rw (z_W f n i))) ∨
   (¬ x_le (f (x_T f n i)) ∧ x_di (f (x_T f n i)) ∧ so i = (if 4 < z_d f n i then 4 else 2) ∧ (z_d f n i ≤ 4 → va i = Int64.ofNat (x_nb 10 48 (z_W f n i)))) ∨
   (¬ x_le (f (x_T f n i)) ∧ ¬ x_di (f (x_T f n i)) ∧ so i = (if z_sg (f (x_T f n i)) = 0 then 4 else 3) ∧ va i = (f (x_T f n i)).toInt64))
def z_tok (f : Nat → Int32) (n : Nat) (so pl : Nat → Int32) (va : Nat → Int64) (N : Nat) : Prop :=
  (∀ i, i < N → z_RT f n so pl va i) ∧ so N = 0 ∧ n ≤ x_T f n N ∧ pl N = z_PL f n N
def z_kk (k : Nat) : Int32 := 12 + Int32.ofNat (z_od k)
section ZTOK
variable {f : Nat → Int32} {n N i : Nat} {so pl : Nat → Int32} {va wd : Nat → Int64}
end ZTOK
theorem z_tok.pl {f : Nat → Int32} {n : Nat} {N : Nat} {i : Nat} {so : Nat → Int32} {pl : Nat → Int32} {va : Nat → Int64} (h : z_tok f n so pl va N) (hi : i ≤ N) : pl i = z_PL f n i := by
  rcases Nat.lt_or_ge i N with q | q
  · exact (h.1 i q).1.1
  · rw [show i = N by omega]; exact h.2.2.2
section ZTOK
variable {f : Nat → Int32} {n N i : Nat} {so pl : Nat → Int32} {va wd : Nat → Int64}
theorem z_tok.e (h : z_tok f n so pl va N) (hi : i ≤ N) : so i = 0 ↔ z_K f n i = 1 := by
  rcases Nat.lt_or_ge i N with q | q
  · obtain ⟨⟨-, a⟩, b⟩ := h.1 i q
    rcases b with ⟨b1, b2, -⟩ | ⟨b1, b2, b3, -⟩ | ⟨b1, b2, b3, -⟩
    · rw [z_K.le a b1, b2]
      split
      · exact ⟨fun z => absurd z (by decide), fun z => absurd z (by decide)⟩
      · have g := (z_kw.ge (z_W f n i)).1
        exact ⟨fun z => absurd z (by decide), fun z => by rw [z] at g; exact absurd g (by decide)⟩
    · rw [z_K.di a b1 b2, b3]
      split <;> exact ⟨fun z => absurd z (by decide), fun z => absurd z (by decide)⟩
    · rw [z_K.one a b1 b2, b3]
      have g := z_sg.rg (f (x_T f n i))
      refine ⟨fun z => ?_, fun z => ?_⟩
      · split at z <;> exact absurd z (by decide)
      · rw [z] at g; exact absurd g (by decide)
  · rw [show i = N by omega]
    exact ⟨fun _ => z_K.end h.2.2.1, fun _ => h.2.1⟩
theorem z_tok.k2 (h : z_tok f n so pl va N) (hi : i ≤ N) : so i = 2 ↔ z_K f n i = 2 := by
  rcases Nat.lt_or_ge i N with q | q
  · obtain ⟨⟨-, a⟩, b⟩ := h.1 i q
    rcases b with ⟨b1, b2, -⟩ | ⟨b1, b2, b3, -⟩ | ⟨b1, b2, b3, -⟩
    · rw [z_K.le a b1, b2]
      split
      · exact ⟨fun z => absurd z (by decide), fun z => absurd z (by decide)⟩
      · have g := (z_kw.ge (z_W f n i)).1
        exact ⟨fun z => absurd z (by decide), fun z => by rw [z] at g; exact absurd g (by decide)⟩
    · rw [z_K.di a b1 b2, b3]
      split
      · exact ⟨fun z => absurd z (by decide), fun z => absurd z (by decide)⟩
      · exact ⟨fun _ => rfl, fun _ => rfl⟩
    · rw [z_K.one a b1 b2, b3]
      have g := z_sg.rg (f (x_T f n i))
      refine ⟨fun z => ?_, fun z => ?_⟩
      · split at z <;> exact absurd z (by decide)
      · rw [z] at g; exact absurd g (by decide)
  · rw [show i = N by omega, h.2.1, z_K.end h.2.2.1]
    exact ⟨fun z => absurd z (by decide), fun z => absurd z (by decide)⟩
theorem z_W.dig (h : x_T f n i < n) (q : ¬ x_le (f (x_T f n i))) (r : x_di (f (x_T f n i))) : ∀ c ∈ z_W f n i, x_di c := by
  have key : ∀ (p d : Nat), (∀ l, p ≤ l → l < p + d → x_di (f l)) → ∀ c ∈ x_ls f p d, x_di c := by
    intro p d
    induction d with
    | zero => intro _ c hc; cases hc
    | succ d ih =>
      intro w c hc
      rcases List.mem_cons.mp hc with e | e
      · rw [e]; exact w _ (by omega) (by omega)
      · exact ih (fun l a b => w l a (by omega)) c e
  refine key _ _ (fun l a b => ?_)
  have e := x_E.di h q r
  have g := x_to.run x_di f n (x_T f n i)
  have bd := (x_E.bd (f := f) (n := n) (p := x_T f n i) (x_T.bd i)).1
  unfold z_d at b
  rw [e] at b bd
  exact g.2.1 l a (by omega)
theorem z_K.two (e : z_K f n i = 2) : x_T f n i < n ∧ ¬ x_le (f (x_T f n i)) ∧ x_di (f (x_T f n i)) ∧ z_d f n i ≤ 4 := by
  by_cases h : n ≤ x_T f n i
  · rw [z_K.end h] at e; exact absurd e (by decide)
  · by_cases q : x_le (f (x_T f n i))
    · rw [z_K.le (by omega) q] at e
      have g := (z_kw.ge (z_W f n i)).1
      split at e
      · exact absurd e (by decide)
      · rw [e] at g; exact absurd g (by decide)
    · by_cases r : x_di (f (x_T f n i))
      · rw [z_K.di (by omega) q r] at e
        split at e
        · exact absurd e (by decide)
        · exact ⟨by omega, q, r, by omega⟩
      · rw [z_K.one (by omega) q r] at e
        have g := z_sg.rg (f (x_T f n i))
        rw [e] at g
        exact absurd g (by decide)
theorem z_nb4 (e : z_K f n i = 2) : x_nb 10 48 (z_W f n i) < 10000 := by
  obtain ⟨a, b, c, d⟩ := z_K.two e
  have w := z_W.dig a b c
  refine Nat.lt_of_lt_of_le (x_nb.lt' (by omega) _ (fun z hz => ?_)) (Nat.le_trans (Nat.pow_le_pow_right (by omega) (by unfold z_W; rw [x_ls.len]; exact d)) (by decide : 10 ^ 4 ≤ 10000))
  have q := w z hz
  have q1 : 48 ≤ z.toInt := Int32.le_iff_toInt_le.mp q.1
  have q2 : z.toInt ≤ 57 := Int32.le_iff_toInt_le.mp q.2
  exact ⟨by omega, by omega⟩
theorem z_N.rg (e : z_K f n i = 2) : 0 ≤ z_N f n i ∧ z_N f n i ≤ 9999 ∧ (z_N f n i).toInt = x_nb 10 48 (z_W f n i) := by
  have b := z_nb4 e
  have t : (z_N f n i).toInt = x_nb 10 48 (z_W f n i) := Int32.toInt_ofNat_of_lt (by omega)
  refine ⟨Int32.le_iff_toInt_le.mpr ?_, Int32.le_iff_toInt_le.mpr ?_, t⟩
  · rw [t]; exact Int.natCast_nonneg _
  · rw [t]; show _ ≤ (9999 : Int); omega
end ZTOK
theorem z_tok.n {f : Nat → Int32} {n : Nat} {N : Nat} {i : Nat} {so : Nat → Int32} {pl : Nat → Int32} {va : Nat → Int64} (h : z_tok f n so pl va N) (hi : i ≤ N) (e : z_K f n i = 2) : va i = (z_N f n i).toInt64 := by
  obtain ⟨a, b, c, d⟩ := z_K.two e
  rcases Nat.lt_or_ge i N with q | q
  · obtain ⟨-, w⟩ := h.1 i q
    rcases w with ⟨b1, -⟩ | ⟨b1, b2, b3, b4⟩ | ⟨b1, b2, -⟩
    · exact absurd b1 b
    · have r := z_N.rg e
      rw [b4 d, z_i64 (by rw [r.2.2]; exact Int.natCast_nonneg _), r.2.2]
      try rfl
    · exact absurd c b2
  · have := h.2.2.1
    rw [show i = N by omega] at a
    omega
section ZTOK
variable {f : Nat → Int32} {n N i : Nat} {so pl : Nat → Int32} {va wd : Nat → Int64}
theorem z_tok.so1 (h : z_tok f n so pl va N) (hi : i ≤ N) : so i = 1 ↔ (x_T f n i < n ∧ x_le (f (x_T f n i)) ∧ z_d f n i ≤ 8) := by
  rcases Nat.lt_or_ge i N with q | q
  · obtain ⟨⟨-, a⟩, b⟩ := h.1 i q
    rcases b with ⟨b1, b2, -⟩ | ⟨b1, b2, b3, -⟩ | ⟨b1, b2, b3, -⟩
    · rw [b2]
      split
      · exact ⟨fun z => absurd z (by decide), fun z => by omega⟩
      · exact ⟨fun _ => ⟨a, b1, by omega⟩, fun _ => rfl⟩
    · rw [b3]
      refine ⟨fun z => ?_, fun z => absurd z.2.1 b1⟩
      split at z <;> exact absurd z (by decide)
    · rw [b3]
      refine ⟨fun z => ?_, fun z => absurd z.2.1 b1⟩
      split at z <;> exact absurd z (by decide)
  · rw [show i = N by omega, h.2.1]
    exact ⟨fun z => absurd z (by decide), fun z => by have := h.2.2.1; omega⟩
end ZTOK
theorem z_tok.va {f : Nat → Int32} {n : Nat} {N : Nat} {i : Nat} {so : Nat → Int32} {pl : Nat → Int32} {va : Nat → Int64} (h : z_tok f n so pl va N) (hi : i ≤ N) (a : x_T f n i < n) (b : x_le (f (x_T f n i))) (d : z_d f n i ≤ 8) : va i = z_rw (z_W f n i) := by
  rcases Nat.lt_or_ge i N with q | q
  · obtain ⟨-, w⟩ := h.1 i q
    rcases w with ⟨b1, b2, b3⟩ | ⟨b1, -⟩ | ⟨b1, -⟩
    · exact b3 d
    · exact absurd b b1
    · exact absurd b b1
  · have := h.2.2.1
    rw [show i = N by omega] at a
    omega
section ZTOK
variable {f : Nat → Int32} {n N i : Nat} {so pl : Nat → Int32} {va wd : Nat → Int64}
theorem z_od.lt : ∀ k : Nat, k < 15 → z_od k < 15 := by
  intro k hk
  have key : ∀ a : Fin 15, z_od a.val < 15 := by decide +kernel
  exact key ⟨k, hk⟩
theorem z_od.on : ∀ j : Nat, j < 15 → ∃ k, k < 15 ∧ z_od k = j := by
  intro j hj
  have key : ∀ a : Fin 15, ∃ b : Fin 15, z_od b.val = a.val := by decide +kernel
  obtain ⟨b, hb⟩ := key ⟨j, hj⟩
  exact ⟨b.val, b.isLt, hb⟩
theorem z_tok.w (h : z_tok f n so pl va N) (hi : i ≤ N) (hw : ∀ k, k < 15 → wd k = z_rw (z_wd (z_od k))) {k : Nat} (hk : k < 15) : (so i = 1 ∧ va i = wd k) ↔ z_K f n i = z_kk k := by
  have o := z_od.lt k hk
  have v : ∀ a : Fin 15, (12 : Int32) + Int32.ofNat a.val ≠ 0 ∧ (12 : Int32) + Int32.ofNat a.val ≠ 1 ∧ (12 : Int32) + Int32.ofNat a.val ≠ 2 ∧ ¬ ((12 : Int32) + Int32.ofNat a.val ≤ 11) := by decide +kernel
  have v := v ⟨z_od k, o⟩
  refine ⟨fun ⟨a, b⟩ => ?_, fun e => ?_⟩
  · obtain ⟨a1, a2, a3⟩ := (h.so1 hi).mp a
    rw [h.va hi a1 a2 a3, hw k hk, z_rw.inj (z_W.ok a1 a2 a3) (z_wd.ok _ o)] at b
    rw [z_K.le a1 a2, if_neg (by omega)]
    exact (z_kw.wd o).mpr b.symm
  · unfold z_kk at e
    by_cases p : n ≤ x_T f n i
    · rw [z_K.end p] at e; exact absurd e.symm v.2.1
    · by_cases q : x_le (f (x_T f n i))
      · rw [z_K.le (by omega) q] at e
        split at e
        · exact absurd e.symm v.1
        · have d : z_d f n i ≤ 8 := by omega
          refine ⟨(h.so1 hi).mpr ⟨by omega, q, d⟩, ?_⟩
          rw [h.va hi (by omega) q d, hw k hk, (z_kw.wd o).mp e]
      · by_cases r : x_di (f (x_T f n i))
        · rw [z_K.di (by omega) q r] at e
          split at e
          · exact absurd e.symm v.1
          · exact absurd e.symm v.2.2.1
        · rw [z_K.one (by omega) q r] at e
          rcases z_sg.rg (f (x_T f n i)) with z | z
          · exact absurd (e.symm.trans z) v.1
          · exact absurd (by have := z.2; rw [e] at this; exact this) v.2.2.2
theorem z_tok.nm (h : z_tok f n so pl va N) (hi : i ≤ N) (hw : ∀ k, k < 15 → wd k = z_rw (z_wd (z_od k))) : (so i = 1 ∧ ∀ k, k < 15 → va i ≠ wd k) ↔ z_K f n i = 3 := by
  refine ⟨fun ⟨a, b⟩ => ?_, fun e => ?_⟩
  · obtain ⟨a1, a2, a3⟩ := (h.so1 hi).mp a
    rw [z_K.le a1 a2, if_neg (by omega)]
    refine z_kw.three.mpr (fun j hj g => ?_)
    obtain ⟨k, k1, k2⟩ := z_od.on j hj
    refine b k k1 ?_
    rw [h.va hi a1 a2 a3, hw k k1, k2, g]
  · obtain ⟨a1, a2, a3, a4⟩ := z_K.three e
    refine ⟨(h.so1 hi).mpr ⟨a1, a2, a3⟩, fun k hk g => ?_⟩
    have o := z_od.lt k hk
    rw [h.va hi a1 a2 a3, hw k hk, z_rw.inj (z_W.ok a1 a2 a3) (z_wd.ok _ o)] at g
    exact z_kw.three.mp a4 _ o g.symm
theorem z_sg.inj {c c' : Int32} (hc : z_sg c ≠ 0) (h : z_sg c = z_sg c') : c = c' := by
  have key : ∀ d : Int32, (z_sg d = 4 ∧ d = 40) ∨ (z_sg d = 5 ∧ d = 41) ∨ (z_sg d = 6 ∧ d = 60) ∨ (z_sg d = 7 ∧ d = 61) ∨ (z_sg d = 8 ∧ d = 43) ∨ (z_sg d = 9 ∧ d = 45) ∨ (z_sg d = 10 ∧ d = 42) ∨ (z_sg d = 11 ∧ d = 59) ∨ z_sg d = 0 := by
    intro d
    unfold z_sg
    by_cases a : d = 40
    · subst a; decide
    rw [if_neg a]
    by_cases b : d = 41
    · subst b; decide
    rw [if_neg b]
    by_cases a : d = 60
    · subst a; decide
    rw [if_neg a]
    by_cases b : d = 61
    · subst b; decide
    rw [if_neg b]
    by_cases a : d = 43
    · subst a; decide
    rw [if_neg a]
    by_cases b : d = 45
    · subst b; decide
    rw [if_neg b]
    by_cases a : d = 42
    · subst a; decide
    rw [if_neg a]
    by_cases b : d = 59
    · subst b; decide
    rw [if_neg b]
    exact Or.inr (Or.inr (Or.inr (Or.inr (Or.inr (Or.inr (Or.inr (Or.inr rfl)))))))
  rcases key c with ⟨a, b⟩ | ⟨a, b⟩ | ⟨a, b⟩ | ⟨a, b⟩ | ⟨a, b⟩ | ⟨a, b⟩ | ⟨a, b⟩ | ⟨a, b⟩ | a
  all_goals first | exact absurd a hc | skip
  all_goals
    rcases key c' with ⟨a', b'⟩ | ⟨a', b'⟩ | ⟨a', b'⟩ | ⟨a', b'⟩ | ⟨a', b'⟩ | ⟨a', b'⟩ | ⟨a', b'⟩ | ⟨a', b'⟩ | a'
    all_goals first | exact b.trans b'.symm | (rw [a, a'] at h; exact absurd h (by decide))
theorem z_tok.s (h : z_tok f n so pl va N) (hi : i ≤ N) {c : Int32} (hc : z_sg c ≠ 0) (hl : ¬ x_le c) (hd : ¬ x_di c) : (so i = 3 ∧ va i = c.toInt64) ↔ z_K f n i = z_sg c := by
  have k := z_sg.rg c
  have nw := z_kw.ge (z_W f n i)
  have k3 : z_sg c ≠ 1 ∧ z_sg c ≠ 2 ∧ z_kw (z_W f n i) ≠ z_sg c := by
    have kk := k.resolve_left hc
    refine ⟨fun e => by rw [e] at kk; exact absurd kk (by decide), fun e => by rw [e] at kk; exact absurd kk (by decide), fun e => ?_⟩
    rw [e] at nw
    obtain ⟨n0, n1, n2, n3, n4, n5, n6, n7, n8⟩ := nw
    have e1 := Int32.le_iff_toInt_le.mp kk.1
    have e2 := Int32.le_iff_toInt_le.mp kk.2
    have w : ∀ y : Int32, z_sg c ≠ y → (z_sg c).toInt ≠ y.toInt := fun y hy q => hy (Int32.toInt_inj.mp q)
    have w1 := w 4 n1
    have w2 := w 5 n2
    have w3 := w 6 n3
    have w4 := w 7 n4
    have w5 := w 8 n5
    have w6 := w 9 n6
    have w7 := w 10 n7
    have w8 := w 11 n8
    simp only [Int32.reduceToInt] at e1 e2 w1 w2 w3 w4 w5 w6 w7 w8
    omega
  rcases Nat.lt_or_ge i N with q | q
  · obtain ⟨⟨-, a⟩, b⟩ := h.1 i q
    rcases b with ⟨b1, b2, -⟩ | ⟨b1, b2, b3, -⟩ | ⟨b1, b2, b3, b4⟩
    · rw [z_K.le a b1, b2]
      refine ⟨fun z => ?_, fun z => ?_⟩
      · have z := z.1
        split at z <;> exact absurd z (by decide)
      · split at z
        · exact absurd z.symm hc
        · exact absurd z k3.2.2
    · rw [z_K.di a b1 b2, b3]
      refine ⟨fun z => ?_, fun z => ?_⟩
      · have z := z.1
        split at z <;> exact absurd z (by decide)
      · split at z
        · exact absurd z.symm hc
        · exact absurd z.symm k3.2.1
    · rw [z_K.one a b1 b2, b3, b4]
      refine ⟨fun z => ?_, fun z => ?_⟩
      · have e : f (x_T f n i) = c := Int32.toInt_inj.mp (by rw [← Int32.toInt_toInt64, ← Int32.toInt_toInt64, z.2])
        rw [e]
      · have e : f (x_T f n i) = c := (z_sg.inj (c := c) hc z.symm).symm
        rw [e, if_neg hc]
        exact ⟨rfl, rfl⟩
  · rw [show i = N by omega, h.2.1, z_K.end h.2.2.1]
    exact ⟨fun z => absurd z.1 (by decide), fun z => absurd z.symm k3.1⟩
end ZTOK
