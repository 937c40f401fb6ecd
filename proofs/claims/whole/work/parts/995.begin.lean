/-! ===== the invariant holds at the beginning ===== -/
theorem c_131 : ∀ b, b < 8 → M2i.2.1 131 b = -1 ∧ M2i.2.1 602 b = -1 := by decide +kernel
theorem c_139 : ∀ b, b < 8 → ∀ y, y < 8 → M2i.2.1 (138 + 2 * b + 1) y = 0 := by decide +kernel
theorem c_603 : ∀ j, j < 2048 → M2i.2.1 603 j = 0 := by decide +kernel
theorem c_0 : M2i.2.1 559 19 = 0 ∧ M2i.2.1 0 5 = 0 ∧ M2i.2.1 568 0 = 0 ∧ M2i.2.1 0 6 = 0 ∧ M2i.2.1 569 0 = 0 ∧ M2i.2.1 0 1 = 0 ∧ M2i.2.1 559 2 = 0 ∧ M2i.2.1 0 2 = -1 ∧ M2i.2.1 559 17 = -1 ∧ M2i.2.1 154 0 = 0 ∧ M2i.2.1 559 73 = 0 ∧ M2i.2.1 81 0 = 0 ∧ M2i.2.1 559 50 = 0 ∧ M2i.2.1 81 9 = 0 ∧ M2i.2.1 559 58 = 0 ∧ M2i.2.1 559 48 = 0 ∧ M2i.2.1 94 0 = 0 ∧ M2i.2.1 559 67 = 0 := by decide +kernel
theorem m3 (M : MM) : M = (M.1, M.2.1, M.2.2) := by cases M with | mk a b => cases b; rfl
theorem Inv_0 : Inv M2i := by
  obtain ⟨a1, a2, a3, a4, a5, a6, a7, a8, a9, a10, a11, a12, a13, a14, a15, a16, a17, a18⟩ := c_0
  refine ⟨M2i.2.1, M2i.2.2, ?_, 0, 0, 0, fun _ _ => false, fun _ _ => false, ?_⟩
  · unfold K
    rw [La_eq]
    unfold L0
    exact m3 M2i
  · refine ⟨fun j => bA_2 567 j ?_, fun w _ => ⟨rfl, rfl⟩, ⟨⟨by omega, by omega, by omega⟩, ⟨a1, a2, a3, a4, a5⟩, fun k hk => by omega, fun k hk => by omega⟩, ⟨⟨0, by omega, a6, a7, fun j hj => by omega⟩, by rw [a8, a9]⟩, fun b hb => ?_, ⟨0, by omega, a10, a11, fun i hi => by omega⟩, ⟨by rw [a12, a13], Or.inl ⟨a14, a15⟩⟩, fun k hk => by omega, Or.inl a16, Or.inl ⟨a17, a18⟩⟩
    · have h := L0_ds 567 (by omega)
      unfold L0 at h
      rw [h]
      decide +kernel
    · have hs : svS M2i.2.1 (138 + 2 * b) = fun _ => false := by
        show rS (M2i.2.1 (138 + 2 * b + 1)) = _
        rw [rS_ext (T := fun _ => 0) fun y hy => c_139 b hb y hy]
        funext i
        show (decide (i < 256) && bt 0 (i % 32)) = false
        rw [b_0, Bool.and_false]
      rw [hs]
      refine ⟨Or.inl ⟨(c_131 b hb).1, rfl⟩, fun i hi => ?_, ?_⟩
      · rw [c_603 _ (by omega)]; rfl
      · rw [(c_131 b hb).1, (c_131 b hb).2]
