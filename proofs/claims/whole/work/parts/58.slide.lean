/-! ===== the class: rows slid, BASE, SHIFT ===== -/
def slR (r : Int32) (z : Int) : Int32 := if z ≤ -8 ∨ 8 ≤ z then 0 else if z < 0 then ushr r (nI (4 * (-z).toNat)) else ishl r (nI (4 * z.toNat))
theorem slide_s {n : Nat} {r : Int32} {z : Int} {M : MM} (hz : -1000 ≤ z ∧ z ≤ 1000) : f_Shape_slide n r (iZ z) M = some (slR r z, M) := by
  unfold f_Shape_slide slR
  have q1 : (iZ z ≤ (-8 : Int32)) = (z ≤ -8) := by rw [show (-8 : Int32) = iZ (-8) from rfl]; exact propext (iZ_le (a := z) (b := -8) (by omega) (by omega) (by omega) (by omega))
  have q2 : (iZ z < (8 : Int32)) = (z < 8) := propext (iZ_lt (a := z) (b := 8) (by omega) (by omega) (by omega) (by omega))
  have q3 : (iZ z < (0 : Int32)) = (z < 0) := propext (iZ_lt (a := z) (b := 0) (by omega) (by omega) (by omega) (by omega))
  simp only [q1, q2, q3]
  by_cases c1 : z ≤ -8
  · rw [if_pos c1, if_pos (Or.inl c1)]
  rw [if_neg c1]
  by_cases c2 : z < 8
  · rw [if_pos c2, if_neg (show ¬ (z ≤ -8 ∨ 8 ≤ z) by omega)]
    by_cases c3 : z < 0
    · rw [if_pos c3, if_pos c3]
      have e : (-4 : Int32) * iZ z = nI (4 * (-z).toNat) := by
        rw [show (-4 : Int32) = iZ (-4) from rfl]
        show iZ (-4) * iZ z = _
        unfold iZ
        rw [← Int32.ofInt_mul]
        show iZ (-4 * z) = _
        rw [iZ_to (by omega)]
        congr 1
        omega
      rw [e]
    · rw [if_neg c3, if_neg c3]
      have e : (4 : Int32) * iZ z = nI (4 * z.toNat) := by rw [iZ_to (by omega), im2 (n := 4)]
      rw [e]
  · rw [if_neg c2, if_pos (show z ≤ -8 ∨ 8 ≤ z by omega)]
theorem b_slR {r : Int32} {z : Int} {i : Nat} (hi : i < 32) : bt (slR r z) i = (decide (0 ≤ (i : Int) - 4 * z ∧ (i : Int) - 4 * z < 32) && bt r ((i : Int) - 4 * z).toNat) := by
  unfold slR
  split
  · next h => rw [b_0, decide_eq_false (by omega)]; rfl
  · next h =>
    split
    · next h2 =>
      rw [b_iushr (by omega)]
      by_cases h3 : (i : Int) - 4 * z < 32
      · rw [decide_eq_true (by omega), Bool.true_and]
        congr 1
        omega
      · rw [decide_eq_false (by omega), b_big (by omega)]; rfl
    · next h2 =>
      rw [b_ishl (by omega) _ hi]
      by_cases h3 : 4 * z.toNat ≤ i
      · rw [decide_eq_true h3, decide_eq_true (by omega)]
        congr 1
        congr 1
        omega
      · rw [decide_eq_false h3, decide_eq_false (by omega)]; rfl
/-- the rows of a SHAPE that is shifted; what would be beyond the GRID is dropped -/
def shR (R : Nat → Int32) (z w : Int) : Nat → Int32 := fun y => if 0 ≤ (y : Int) - w ∧ (y : Int) - w < 8 then slR (R ((y : Int) - w).toNat) z else 0
theorem shR_S (R : Nat → Int32) (z w : Int) : rS (shR R z w) = shC z w (rS R) := by
  unfold shC
  refine cu_ext (S := fun i => bt (shR R z w (i / 32)) (i % 32)) fun i hi => ?_
  unfold shR shS
  by_cases h : 0 ≤ ((i / 32 : Nat) : Int) - w ∧ ((i / 32 : Nat) : Int) - w < 8
  · rw [if_pos h, b_slR (by omega)]
    by_cases h2 : 0 ≤ ((i % 32 : Nat) : Int) - 4 * z ∧ ((i % 32 : Nat) : Int) - 4 * z < 32
    · have hin : sIn (-z) (-w) i = true := by unfold sIn; apply decide_eq_true; omega
      have hlt := (sTo_ok hi hin).1
      rw [decide_eq_true h2, hin, Bool.true_and, Bool.true_and, rS_in hlt]
      have e1 : sTo (-z) (-w) i / 32 = (((i / 32 : Nat) : Int) - w).toNat := by unfold sTo; omega
      have e2 : sTo (-z) (-w) i % 32 = (((i % 32 : Nat) : Int) - 4 * z).toNat := by unfold sTo; omega
      rw [e1, e2]
    · rw [decide_eq_false h2]
      have hin : sIn (-z) (-w) i = false := by unfold sIn; apply decide_eq_false; omega
      rw [hin]; rfl
  · rw [if_neg h, b_0]
    have hin : sIn (-z) (-w) i = false := by unfold sIn; apply decide_eq_false; omega
    rw [hin]; rfl
