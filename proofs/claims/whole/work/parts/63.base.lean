/-! ===== BASE of a SHIFT ===== -/
theorem to_n {a : Nat} {b : Int} (h : (a : Int) = b) : a = b.toNat := by omega
theorem to_le {a : Nat} {b : Int} (h : b ≤ (a : Int)) : b.toNat ≤ a := by omega
theorem mn_sh {z w : Int} {S : Nat → Bool} (ho : sOff z w S = false) {k : Nat} (hk : k < 256) (hs : S k = true) : (mnX (shC z w S) 256 : Int) = mnX S 256 + z ∧ (mnY (shC z w S) 256 : Int) = mnY S 256 + w := by
  obtain ⟨u1, u2⟩ := mnX_sp S 256 (Nat.le_refl _)
  obtain ⟨v1, v2⟩ := mnY_sp S 256 (Nat.le_refl _)
  have k3 : mnX S 256 ≠ 8 := by have := u1 k hk hs; omega
  have k4 : mnY S 256 ≠ 8 := by have := v1 k hk hs; omega
  obtain ⟨j1, a1, a2, a3⟩ : ∃ i, i < 256 ∧ S i = true ∧ i / 4 % 8 = mnX S 256 := u2.resolve_left k3
  obtain ⟨j2, b1, b2, b3⟩ : ∃ i, i < 256 ∧ S i = true ∧ i / 32 = mnY S 256 := v2.resolve_left k4
  have i1 := sOff_f.mp ho j1 a1 a2
  have i2 := sOff_f.mp ho j2 b1 b2
  obtain ⟨c1, c2, c3, c4⟩ := sTo_c a1 i1
  obtain ⟨d1, d2, d3, d4⟩ := sTo_c b1 i2
  have e1 : mnX (shC z w S) 256 = ((mnX S 256 : Int) + z).toNat := by
    refine mnX_un (fun i hi h => ?_) (Or.inr ⟨sTo z w j1, c4, shC_t.mpr ⟨j1, a1, a2, c4, c1, c2, c3⟩, to_n (by rw [c2, a3])⟩)
    obtain ⟨l, l1, l2, l3, l4, l5, l6⟩ := shC_t.mp h
    refine to_le ?_
    rw [l5]
    exact Int.add_le_add_right (Int.ofNat_le.mpr (u1 l l1 l2)) z
  have e2 : mnY (shC z w S) 256 = ((mnY S 256 : Int) + w).toNat := by
    refine mnY_un (fun i hi h => ?_) (Or.inr ⟨sTo z w j2, d4, shC_t.mpr ⟨j2, b1, b2, d4, d1, d2, d3⟩, to_n (by rw [d1, b3])⟩)
    obtain ⟨l, l1, l2, l3, l4, l5, l6⟩ := shC_t.mp h
    refine to_le ?_
    rw [l4]
    exact Int.add_le_add_right (Int.ofNat_le.mpr (v1 l l1 l2)) w
  have p1 := (sIn_t.mp i1).1
  have p2 := (sIn_t.mp i2).2.2.1
  rw [a3] at p1
  rw [b3] at p2
  rw [e1, e2, Int.toNat_of_nonneg p1, Int.toNat_of_nonneg p2]
  exact ⟨rfl, rfl⟩
/-- BASE doesn't see a SHIFT that stays on the GRID -/
theorem baC_sh {z w : Int} {S : Nat → Bool} (ho : sOff z w S = false) : baC (shC z w S) = baC S := by
  rw [baC_eq, baC_eq]
  by_cases hne : ∃ k, k < 256 ∧ S k = true
  · obtain ⟨k, hk, hs⟩ := hne
    obtain ⟨e1, e2⟩ := mn_sh ho hk hs
    rw [e1, e2, shC_sh ho]
    congr 1 <;> omega
  · refine B_ext fun j => ?_
    rw [shC_t, shC_t]
    constructor
    · rintro ⟨k, k1, k2, k3, k4, k5, k6⟩
      obtain ⟨l, l1, l2, l3, l4, l5, l6⟩ := shC_t.mp k2
      exact absurd ⟨l, l1, l2⟩ hne
    · rintro ⟨k, k1, k2, _⟩
      exact absurd ⟨k, k1, k2⟩ hne
