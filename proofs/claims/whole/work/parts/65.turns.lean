/-! ===== a turn of a SHIFT ===== -/
theorem d_1 {d e : Nat} (hd : d < 4) (h : e = (d + 3) % 4) : d = (e + 1) % 4 := by omega
theorem d_3 {d e : Nat} (hd : d < 4) (h : e = (d + 1) % 4) : d = (e + 3) % 4 := by omega
theorem m4 (j : Nat) : j % 4 < 4 := Nat.mod_lt _ (by decide)
theorem tuS_t {S : Nat → Bool} {j : Nat} : tuS false S j = true ↔ ∃ k, k < 256 ∧ S k = true ∧ j < 256 ∧ k / 32 = 7 - j / 4 % 8 ∧ k / 4 % 8 = j / 32 ∧ k % 4 = (j % 4 + 3) % 4 := by
  unfold tuS
  by_cases hj : j < 256
  · rw [cu_in hj]
    obtain ⟨c1, c2, c3, c4⟩ := qTi_c hj
    constructor
    · intro h
      exact ⟨_, c4, h, hj, c1, c2, c3⟩
    · rintro ⟨k, k1, k2, _, k4, k5, k6⟩
      show S (qTi j) = true
      rw [show qTi j = k from q_eq (c1.trans k4.symm) (c2.trans k5.symm) (c3.trans k6.symm)]
      exact k2
  · rw [cu_out (by omega)]
    constructor
    · intro h; cases h
    · rintro ⟨k, _, _, h, _⟩; exact absurd h hj
theorem tu_a {kx ky jx jy lx ly : Nat} {z w : Int} (hx : jx < 8) (hl : ly < 8) (h1 : ky = 7 - jx) (h2 : kx = jy) (h3 : (ky : Int) = ly + w) (h4 : (kx : Int) = lx + z) : (jy : Int) = lx + z ∧ (jx : Int) = ((7 - ly : Nat) : Int) + -w := by omega
theorem tu_b {kx ky jx jy lx ly sx sy : Nat} {z w : Int} (hx : jx < 8) (hk : kx < 8) (h1 : ly = 7 - kx) (h2 : lx = ky) (h3 : (jy : Int) = ky + z) (h4 : (jx : Int) = kx + -w) (h5 : (sy : Int) = ly + w) (h6 : (sx : Int) = lx + z) : sy = 7 - jx ∧ sx = jy := by omega
theorem tu_i {kx ky lx ly : Nat} {z w : Int} (hk : kx < 8) (h1 : ly = 7 - kx) (h2 : lx = ky) (h : 0 ≤ (lx : Int) + z ∧ (lx : Int) + z ≤ 7 ∧ 0 ≤ (ly : Int) + w ∧ (ly : Int) + w ≤ 7) : 0 ≤ (kx : Int) + -w ∧ (kx : Int) + -w ≤ 7 ∧ 0 ≤ (ky : Int) + z ∧ (ky : Int) + z ≤ 7 := by omega
