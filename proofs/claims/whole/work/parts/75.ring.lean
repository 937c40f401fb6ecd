/-! ===== the rings round the corners of CELLS; CORNERS in the class ===== -/
def inS (S : Nat → Bool) (x y : Int) (d : Nat) : Bool := decide (0 ≤ x ∧ x < 8 ∧ 0 ≤ y ∧ y < 8) && S (4 * (8 * y.toNat + x.toNat) + d)
def cI (S : Nat → Bool) (x y : Int) : Nat := if 0 ≤ x ∧ x < 8 ∧ 0 ≤ y ∧ y < 8 then ceV S x.toNat y.toNat else 0
theorem cI_lt (S : Nat → Bool) (x y : Int) : cI S x y < 16 := by
  unfold cI
  split
  · exact ceV_lt _ _ _
  · omega
theorem cI_b (S : Nat → Bool) (x y : Int) {d : Nat} (hd : d < 4) : (cI S x y).testBit d = inS S x y d := by
  unfold cI inS
  by_cases c : 0 ≤ x ∧ x < 8 ∧ 0 ≤ y ∧ y < 8
  · rw [if_pos c, decide_eq_true c, ceV_bit _ _ _ d hd]; simp
  · rw [if_neg c, decide_eq_false c, Nat.zero_testBit]; rfl
def rd (S : Nat → Bool) (x y : Int) (k : Nat) : Bool := if k = 0 then inS S x (y - 1) 3 else if k = 1 then inS S x (y - 1) 2 else if k = 2 then inS S x y 0 else if k = 3 then inS S x y 3 else if k = 4 then inS S (x - 1) y 1 else if k = 5 then inS S (x - 1) y 0 else if k = 6 then inS S (x - 1) (y - 1) 2 else inS S (x - 1) (y - 1) 1
def nb8 (b0 b1 b2 b3 b4 b5 b6 b7 : Bool) : Nat := b0.toNat + 2 * b1.toNat + 4 * b2.toNat + 8 * b3.toNat + 16 * b4.toNat + 32 * b5.toNat + 64 * b6.toNat + 128 * b7.toNat
theorem nb8_s : ∀ b0 b1 b2 b3 b4 b5 b6 b7 : Bool, (((((((b2i b0 ||| ishl (b2i b1) 1) ||| ishl (b2i b2) 2) ||| ishl (b2i b3) 3) ||| ishl (b2i b4) 4) ||| ishl (b2i b5) 5) ||| ishl (b2i b6) 6) ||| ishl (b2i b7) 7) = nI (nb8 b0 b1 b2 b3 b4 b5 b6 b7) := by decide +kernel
theorem nb8_lt : ∀ b0 b1 b2 b3 b4 b5 b6 b7 : Bool, nb8 b0 b1 b2 b3 b4 b5 b6 b7 < 2 ^ 8 := by decide +kernel
theorem nb8_b : ∀ b0 b1 b2 b3 b4 b5 b6 b7 : Bool, ∀ k, k < 8 → (nb8 b0 b1 b2 b3 b4 b5 b6 b7).testBit k = if k = 0 then b0 else if k = 1 then b1 else if k = 2 then b2 else if k = 3 then b3 else if k = 4 then b4 else if k = 5 then b5 else if k = 6 then b6 else b7 := by decide +kernel
theorem nib : ∀ c, c < 16 → (ushr (nI c) 3) &&& 1 = b2i (c.testBit 3) ∧ (ushr (nI c) 2) &&& 1 = b2i (c.testBit 2) ∧ (ushr (nI c) 1) &&& 1 = b2i (c.testBit 1) ∧ nI c &&& 1 = b2i (c.testBit 0) := by decide +kernel
theorem dn_2 (i : Nat) : nI i - 1 = iZ ((i : Int) - 1) := by rw [dn_1, Int32.sub_eq_add_neg]
/-- CORNERS of the first t points of the GRID -/
def cr (S : Nat → Bool) (inw : Bool) : Nat → Nat
  | 0 => 0
  | t + 1 => cr S inw t + coN (rd S ((t % 9 : Nat) : Int) ((t / 9 : Nat) : Int)) 8 inw + coN (inS S ((t % 9 : Nat) : Int) ((t / 9 : Nat) : Int)) 4 inw
theorem cr_at (S : Nat → Bool) (inw : Bool) {x y : Nat} (hx : x < 9) : cr S inw (9 * y + x + 1) = cr S inw (9 * y + x) + coN (rd S (x : Int) (y : Int)) 8 inw + coN (inS S (x : Int) (y : Int)) 4 inw := by
  show cr S inw (9 * y + x) + coN (rd S (((9 * y + x) % 9 : Nat) : Int) (((9 * y + x) / 9 : Nat) : Int)) 8 inw + coN (inS S (((9 * y + x) % 9 : Nat) : Int) (((9 * y + x) / 9 : Nat) : Int)) 4 inw = _
  rw [show (9 * y + x) % 9 = x by omega, show (9 * y + x) / 9 = y by omega]
section RNG
variable {n a : Nat} {mi : IM} {ml : JM} {inw : Bool}
theorem cell_z {x y : Int} (h : isSh a) (hx : -100 ≤ x ∧ x ≤ 100) (hy : -100 ≤ y ∧ y ≤ 100) : f_Shape_cell n a (iZ x) (iZ y) (K mi ml) = some (nI (cI (svS mi a) x y), K mi ml) := by
  unfold cI
  by_cases c : 0 ≤ x ∧ x < 8 ∧ 0 ≤ y ∧ y < 8
  · rw [if_pos c, iZ_to c.1, iZ_to c.2.2.1, cell_s h (by omega) (by omega)]
  · rw [if_neg c, cell_out h]; rfl
    rw [iZ_l0 (by omega) (by omega), iZ_l0 (by omega) (by omega), show ((8 : Int32) ≤ iZ x) = (8 ≤ x) from propext (iZ_le (a := 8) (by omega) (by omega) (by omega) (by omega)), show ((8 : Int32) ≤ iZ y) = (8 ≤ y) from propext (iZ_le (a := 8) (by omega) (by omega) (by omega) (by omega))]
    omega
theorem ringAt_s {x y : Nat} (h : isSh a) (hx : x < 9) (hy : y < 9) : ∃ R, f_Measure_ringAt n a (nI x) (nI y) (K mi ml) = some (nI R, K mi ml) ∧ R < 2 ^ 8 ∧ ∀ k, k < 8 → R.testBit k = rd (svS mi a) (x : Int) (y : Int) k := by
  unfold f_Measure_ringAt
  rw [dn_2, dn_2, iZ_nat x, iZ_nat y, cell_z h (by omega) (by omega), bnd_s, cell_z h (by omega) (by omega), bnd_s, cell_z h (by omega) (by omega), bnd_s, cell_z h (by omega) (by omega), bnd_s]
  obtain ⟨p1, p2, p3, p4⟩ := nib _ (cI_lt (svS mi a) (x : Int) ((y : Int) - 1))
  obtain ⟨q1, q2, q3, q4⟩ := nib _ (cI_lt (svS mi a) (x : Int) (y : Int))
  obtain ⟨r1, r2, r3, r4⟩ := nib _ (cI_lt (svS mi a) ((x : Int) - 1) (y : Int))
  obtain ⟨s1, s2, s3, s4⟩ := nib _ (cI_lt (svS mi a) ((x : Int) - 1) ((y : Int) - 1))
  simp only [p1, p2, q1, q4, r3, r4, s2, s3]
  rw [nb8_s]
  refine ⟨_, rfl, nb8_lt _ _ _ _ _ _ _ _, fun k hk => ?_⟩
  rw [nb8_b _ _ _ _ _ _ _ _ k hk]
  unfold rd
  rw [cI_b _ _ _ (by omega), cI_b _ _ _ (by omega), cI_b _ _ _ (by omega), cI_b _ _ _ (by omega), cI_b _ _ _ (by omega), cI_b _ _ _ (by omega), cI_b _ _ _ (by omega), cI_b _ _ _ (by omega)]
theorem corners_in {y : Nat} {k9 : Nat → Int32 → Int32 → Int32 → MM → Option (Int32 × MM)} (h : isSh a) (hy : y < 9) (hn : 8 < n) : ∀ m x, x ≤ 9 → 9 - x < m → f_Measure_countCorners_15 n k9 m a (b2i inw) (nI (cr (svS mi a) inw (9 * y + x))) (nI y) (nI x) (K mi ml) = k9 a (b2i inw) (nI (cr (svS mi a) inw (9 * (y + 1)))) (nI y) (K mi ml) := by
  intro m
  induction m with
  | zero => intro x h1 h2; omega
  | succ m ih =>
    intro x h1 h2
    rw [f_Measure_countCorners_15]
    by_cases c : x = 9
    · subst c
      rw [if_pos (show (8 : Int32) < nI 9 by decide), show 9 * y + 9 = 9 * (y + 1) by omega]
    · obtain ⟨R, e1, e2, e3⟩ := ringAt_s (n := n) (mi := mi) (ml := ml) h (show x < 9 by omega) hy
      rw [if_neg (by rw [it1 (n := 8) (by omega) (by omega)]; omega), e1, bnd_s, show (8 : Int32) = nI 8 from rfl, countAngles_s e2 (Or.inl rfl) hn, bnd_s, nm_t]
      rw [show f_Shape_cell n a (nI x) (nI y) (K mi ml) = some (nI (cI (svS mi a) (x : Int) (y : Int)), K mi ml) by rw [iZ_nat x, iZ_nat y, cell_z h (by omega) (by omega)], bnd_s, show (4 : Int32) = nI 4 from rfl, countAngles_s (cI_lt _ _ _) (Or.inr rfl) hn, bnd_s, nm_t, ia3, ia3, nI_1]
      rw [coN_ext (t := rd (svS mi a) (x : Int) (y : Int)) (by omega) e3, coN_ext (t := inS (svS mi a) (x : Int) (y : Int)) (by omega) (fun k hk => cI_b _ _ _ hk), ← cr_at (svS mi a) inw (show x < 9 by omega)]
      exact ih (x + 1) (by omega) (by omega)
theorem countCorners_s (h : isSh a) (hn : 9 < n) : f_Measure_countCorners n 77 a (b2i inw) (K mi ml) = some (nI (cr (svS mi a) inw 81), K mi ml) := by
  unfold f_Measure_countCorners
  have L : ∀ m y, y ≤ 9 → 9 - y < m → f_Measure_countCorners_5 n m a (b2i inw) (nI (cr (svS mi a) inw (9 * y))) (nI y) (K mi ml) = some (nI (cr (svS mi a) inw 81), K mi ml) := by
    intro m
    induction m with
    | zero => intro y h1 h2; omega
    | succ m ih =>
      intro y h1 h2
      rw [f_Measure_countCorners_5]
      by_cases c : y = 9
      · subst c
        rw [if_pos (show (8 : Int32) < nI 9 by decide)]
      · rw [if_neg (by rw [it1 (n := 8) (by omega) (by omega)]; omega), show (0 : Int32) = nI 0 from rfl, show 9 * y = 9 * y + 0 from rfl, corners_in h (by omega) (by omega) n 0 (by omega) (by omega)]
        unfold f_Measure_countCorners_61
        rw [nI_1]
        exact ih (y + 1) (by omega) (by omega)
  rw [o_77]
  exact L n 0 (by omega) (by omega)
end RNG
