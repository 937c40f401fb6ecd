/-! ===== a turn of a SHIFT; the IMAGES one after another ===== -/
theorem at_c {a b d : Nat} (ha : a < 8) (hb : b < 8) (hd : d < 4) : (4 * (8 * b + a) + d) / 32 = b ∧ (4 * (8 * b + a) + d) / 4 % 8 = a ∧ (4 * (8 * b + a) + d) % 4 = d ∧ 4 * (8 * b + a) + d < 256 := by omega
theorem x_lt (j : Nat) : j / 4 % 8 < 8 := Nat.mod_lt _ (by decide)
theorem y_lt {j : Nat} (h : j < 256) : j / 32 < 8 := by omega
theorem qTi_c {j : Nat} (hj : j < 256) : qTi j / 32 = 7 - j / 4 % 8 ∧ qTi j / 4 % 8 = j / 32 ∧ qTi j % 4 = (j % 4 + 3) % 4 ∧ qTi j < 256 := by
  unfold qTi
  exact at_c (a := j / 32) (b := 7 - j / 4 % 8) (d := (j % 4 + 3) % 4) (y_lt hj) (Nat.lt_of_le_of_lt (Nat.sub_le 7 _) (by decide)) (Nat.mod_lt _ (by decide))
theorem qT_c {j : Nat} (hj : j < 256) : qT j / 32 = j / 4 % 8 ∧ qT j / 4 % 8 = 7 - j / 32 ∧ qT j % 4 = (j % 4 + 1) % 4 ∧ qT j < 256 := by
  unfold qT
  exact at_c (a := 7 - j / 32) (b := j / 4 % 8) (d := (j % 4 + 1) % 4) (Nat.lt_of_le_of_lt (Nat.sub_le 7 _) (by decide)) (x_lt j) (Nat.mod_lt _ (by decide))
