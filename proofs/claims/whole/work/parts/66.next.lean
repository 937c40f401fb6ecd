/-! ===== a turn of a SHIFT; the IMAGES one after another ===== -/
theorem y_7 {y : Nat} (h : y < 8) : y = 7 - (7 - y) := by omega
theorem tu_sh {z w : Int} {S : Nat → Bool} (ho : sOff z w S = false) : tuS false (shC z w S) = shC (-w) z (tuS false S) ∧ sOff (-w) z (tuS false S) = false := by
  constructor
  · refine B_ext fun j => ?_
    rw [tuS_t, shC_t]
    constructor
    · rintro ⟨k, k1, k2, k3, k4, k5, k6⟩
      obtain ⟨l, l1, l2, l3, l4, l5, l6⟩ := shC_t.mp k2
      obtain ⟨c1, c2, c3, c4⟩ := qT_c l1
      obtain ⟨t1, t2⟩ := tu_a (x_lt j) (y_lt l1) k4 k5 l4 l5
      refine ⟨qT l, c4, tuS_t.mpr ⟨l, l1, l2, c4, ?_, c1.symm, d_3 (m4 l) c3⟩, k3, by rw [c1]; exact t1, by rw [c2]; exact t2, ?_⟩
      · rw [c2]; exact y_7 (y_lt l1)
      · rw [c3]; exact d_1 (m4 j) (l6.symm.trans k6)
    · rintro ⟨k, k1, k2, k3, k4, k5, k6⟩
      obtain ⟨l, l1, l2, l3, l4, l5, l6⟩ := tuS_t.mp k2
      have hin := sOff_f.mp ho l l1 l2
      obtain ⟨c1, c2, c3, c4⟩ := sTo_c l1 hin
      obtain ⟨t1, t2⟩ := tu_b (x_lt j) (x_lt k) l4 l5 k4 k5 c1 c2
      exact ⟨sTo z w l, c4, shC_t.mpr ⟨l, l1, l2, c4, c1, c2, c3⟩, k3, t1, t2, by rw [c3, l6, k6]⟩
  · rw [sOff_f]
    intro k hk hs
    obtain ⟨l, l1, l2, l3, l4, l5, l6⟩ := tuS_t.mp hs
    exact sIn_t.mpr (tu_i (x_lt k) l4 l5 (sIn_t.mp (sOff_f.mp ho l l1 l2)))
theorem baC_tu (S : Nat → Bool) : baC (tuS false (baC S)) = baC (tuS false S) := by
  have e : baC S = shC (bsX S) (bsY S) S := by
    unfold baC shC
    refine cu_ext fun i hi => ?_
    unfold baS
    simp only [base_in S, Bool.not_false, Bool.true_and]
  obtain ⟨h1, h2⟩ := tu_sh (base_in S)
  rw [e, h1, baC_sh h2]
theorem tuN_out : ∀ (k : Nat) (S : Nat → Bool), tuN (k + 1) S = tuS false (tuN k S)
  | 0, _ => rfl
  | k + 1, S => tuN_out k (tuS false S)
theorem im_next {g : Nat} {S : Nat → Bool} (h : (g + 1) % 4 ≠ 0) : imS (g + 1) S = baC (tuS false (imS g S)) := by
  unfold imS
  have e : (4 ≤ g + 1) = (4 ≤ g) := propext (by omega)
  rw [baC_tu, show (g + 1) % 4 = g % 4 + 1 by omega, tuN_out]
  simp only [e]
