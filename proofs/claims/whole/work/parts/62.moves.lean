/-! ===== moves of SHAPES: a SHIFT of a SHIFT, a turn of a SHIFT, BASE of these ===== -/
theorem sTo_c {z w : Int} {i : Nat} (hi : i < 256) (h : sIn z w i = true) : ((sTo z w i / 32 : Nat) : Int) = ((i / 32 : Nat) : Int) + w ∧ ((sTo z w i / 4 % 8 : Nat) : Int) = ((i / 4 % 8 : Nat) : Int) + z ∧ sTo z w i % 4 = i % 4 ∧ sTo z w i < 256 := by
  have h := of_decide_eq_true h
  obtain ⟨a, ha⟩ : ∃ a : Nat, ((i / 4 % 8 : Nat) : Int) + z = a := ⟨(((i / 4 % 8 : Nat) : Int) + z).toNat, by omega⟩
  obtain ⟨b, hb⟩ : ∃ b : Nat, ((i / 32 : Nat) : Int) + w = b := ⟨(((i / 32 : Nat) : Int) + w).toNat, by omega⟩
  have e : sTo z w i = 4 * (8 * b + a) + i % 4 := by unfold sTo; rw [ha, hb]; rfl
  rw [e, ha, hb]
  have h1 : (4 * (8 * b + a) + i % 4) / 4 % 8 = a := by omega
  have h2 : (4 * (8 * b + a) + i % 4) / 32 = b := by omega
  have h3 : (4 * (8 * b + a) + i % 4) % 4 = i % 4 := by omega
  rw [h1, h2, h3]
  exact ⟨rfl, rfl, rfl, by omega⟩
theorem q_eq {i j : Nat} (h1 : i / 32 = j / 32) (h2 : i / 4 % 8 = j / 4 % 8) (h3 : i % 4 = j % 4) : i = j := by omega
theorem sIn_t {z w : Int} {i : Nat} : sIn z w i = true ↔ (0 ≤ ((i / 4 % 8 : Nat) : Int) + z ∧ ((i / 4 % 8 : Nat) : Int) + z ≤ 7 ∧ 0 ≤ ((i / 32 : Nat) : Int) + w ∧ ((i / 32 : Nat) : Int) + w ≤ 7) := decide_eq_true_iff
/-- a QUARTER lies on a shifted SHAPE if one of the SHAPE goes there -/
theorem shC_t {z w : Int} {S : Nat → Bool} {j : Nat} : shC z w S j = true ↔ ∃ k, k < 256 ∧ S k = true ∧ j < 256 ∧ ((j / 32 : Nat) : Int) = ((k / 32 : Nat) : Int) + w ∧ ((j / 4 % 8 : Nat) : Int) = ((k / 4 % 8 : Nat) : Int) + z ∧ j % 4 = k % 4 := by
  unfold shC
  by_cases hj : j < 256
  · rw [cu_in hj]
    unfold shS
    constructor
    · intro h
      rw [Bool.and_eq_true] at h
      obtain ⟨c1, c2, c3, c4⟩ := sTo_c hj h.1
      exact ⟨_, c4, h.2, hj, by omega, by omega, c3.symm⟩
    · rintro ⟨k, k1, k2, _, k4, k5, k6⟩
      have hin : sIn (-z) (-w) j = true := sIn_t.mpr (by omega)
      obtain ⟨c1, c2, c3, c4⟩ := sTo_c hj hin
      rw [hin, Bool.true_and, show sTo (-z) (-w) j = k from q_eq (by omega) (by omega) (by omega)]
      exact k2
  · rw [cu_out (by omega)]
    constructor
    · intro h; cases h
    · rintro ⟨k, _, _, h, _⟩; omega
theorem B_ext {S T : Nat → Bool} (h : ∀ j, S j = true ↔ T j = true) : S = T := by
  funext j
  have := h j
  cases hs : S j <;> cases ht : T j <;> simp_all
theorem shC_sh {z w z' w' : Int} {S : Nat → Bool} (ho : sOff z w S = false) : shC z' w' (shC z w S) = shC (z + z') (w + w') S := by
  refine B_ext fun j => ?_
  rw [shC_t, shC_t]
  constructor
  · rintro ⟨k, k1, k2, k3, k4, k5, k6⟩
    obtain ⟨l, l1, l2, l3, l4, l5, l6⟩ := shC_t.mp k2
    exact ⟨l, l1, l2, k3, by omega, by omega, by omega⟩
  · rintro ⟨k, k1, k2, k3, k4, k5, k6⟩
    have hin := sOff_f.mp ho k k1 k2
    obtain ⟨c1, c2, c3, c4⟩ := sTo_c k1 hin
    exact ⟨sTo z w k, c4, shC_t.mpr ⟨k, k1, k2, c4, c1, c2, c3⟩, k3, by omega, by omega, by omega⟩
