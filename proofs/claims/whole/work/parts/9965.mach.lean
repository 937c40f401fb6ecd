/-! ===== THE MACHINE that goes once over the tokens ===== -/
abbrev SyS : Type := Nat × Nat × Nat × Nat × Nat
/-- (state, numbers left, brackets, boards, outlines) behind a token of kind k -/
def nx (s : SyS) (k : Nat) : Option SyS :=
  if s.1 = 0 then (if k = 10 then some (1, s.2.1, s.2.2.1, s.2.2.2.1 + 1, s.2.2.2.2) else if k = 11 then some (1, s.2.1, s.2.2.1, s.2.2.2.1, s.2.2.2.2 + 1) else none)
  else if s.1 = 1 then (if k = 2 then some (2, s.2) else none)
  else if s.1 = 2 then (if k = 61 then some (3, s.2) else none)
  else if s.1 = 3 then (if k = 12 ∨ k = 13 ∨ k = 14 then some (3, s.2) else if k = 15 then some (4, 2, s.2.2) else if k = 2 then some (7, s.2) else if k = 40 then some (3, s.2.1, s.2.2.1 + 1, s.2.2.2) else if k = 16 then some (6, 2, s.2.2) else if k = 17 then some (6, 4, s.2.2) else if k = 18 ∨ k = 19 then some (6, 3, s.2.2) else none)
  else if s.1 = 4 then (if k = 45 then some (5, s.2) else if k = 3 then some (if 1 < s.2.1 then 4 else 3, s.2.1 - 1, s.2.2) else none)
  else if s.1 = 5 then (if k = 3 then some (if 1 < s.2.1 then 4 else 3, s.2.1 - 1, s.2.2) else none)
  else if s.1 = 6 then (if k = 3 then some (if 1 < s.2.1 then 6 else 7, s.2.1 - 1, s.2.2) else none)
  else if s.1 = 7 then (if k = 43 ∨ k = 45 ∨ k = 38 then some (3, s.2) else if k = 41 ∧ 0 < s.2.2.1 then some (7, s.2.1, s.2.2.1 - 1, s.2.2.2) else if k = 59 ∧ s.2.2.1 = 0 then some (0, s.2) else none)
  else none
def rmO (t : Nat) (s : SyS) : Bool := decide (t < 400 ∧ s.2.2.1 ≤ 6 ∧ s.2.2.2.1 ≤ 8 ∧ s.2.2.2.2 ≤ 6)
theorem rmO_i {t : Nat} {s : SyS} : rmO t s = true ↔ t < 400 ∧ s.2.2.1 ≤ 6 ∧ s.2.2.2.1 ≤ 8 ∧ s.2.2.2.2 ≤ 6 := by unfold rmO; rw [decide_eq_true_iff]
def Au (k : Nat → Nat) : Nat → Option SyS
  | 0 => some (0, 0, 0, 0, 0)
  | t + 1 => (Au k t).bind fun s => (nx s (k t)).bind fun s' => if rmO t s' = true then some s' else none
def fN (k : Nat → Nat) (s : SyS) (t : Nat) : Nat := if s.1 = 0 ∧ k t = 0 then 0 else if nx s (k t) = none then 1 else 2
def LastA (k : Nat → Nat) (t : Nat) (s : SyS) : Prop := Au k t = some s ∧ Au k (t + 1) = none
section AUT
variable {k : Nat → Nat} {t : Nat} {s s' : SyS}
theorem Au_s (h : Au k t = some s) (h2 : nx s (k t) = some s') (h3 : rmO t s' = true) : Au k (t + 1) = some s' := by
  rw [Au, h, bnd_s, h2, bnd_s, if_pos h3]
theorem Au_n (h : Au k t = some s) (h2 : nx s (k t) = none) : Au k (t + 1) = none := by
  rw [Au, h, bnd_s, h2]; rfl
theorem Au_r (h : Au k t = some s) (h2 : nx s (k t) = some s') (h3 : ¬ rmO t s' = true) : Au k (t + 1) = none := by
  rw [Au, h, bnd_s, h2, bnd_s, if_neg h3]
theorem Au_b (h : Au k (t + 1) = some s') : ∃ s, Au k t = some s ∧ nx s (k t) = some s' ∧ rmO t s' = true := by
  rw [Au] at h
  cases e : Au k t with
  | none => rw [e] at h; cases h
  | some s =>
    rw [e, bnd_s] at h
    cases e2 : nx s (k t) with
    | none => rw [e2] at h; cases h
    | some s2 =>
      rw [e2, bnd_s] at h
      by_cases c : rmO t s2 = true
      · rw [if_pos c] at h; cases h; exact ⟨s, rfl, e2, c⟩
      · rw [if_neg c] at h; cases h
theorem Au_d : ∀ {t j : Nat}, Au k t ≠ none → j ≤ t → Au k j ≠ none := by
  intro t
  induction t with
  | zero => intro j h hj; rw [show j = 0 by omega]; exact h
  | succ t ih =>
    intro j h hj
    by_cases c : j = t + 1
    · rw [c]; exact h
    · refine ih ?_ (by omega)
      intro e
      apply h
      rw [Au, e]; rfl
theorem nx_c {s s' : SyS} {k : Nat} (e : nx s k = some s') :
  (s.1 = 0 ∧ (k = 10) ∧ s' = (1, s.2.1, s.2.2.1, s.2.2.2.1 + 1, s.2.2.2.2)) ∨
  (s.1 = 0 ∧ (k = 11) ∧ s' = (1, s.2.1, s.2.2.1, s.2.2.2.1, s.2.2.2.2 + 1)) ∨
  (s.1 = 1 ∧ (k = 2) ∧ s' = (2, s.2)) ∨
  (s.1 = 2 ∧ (k = 61) ∧ s' = (3, s.2)) ∨
  (s.1 = 3 ∧ (k = 12 ∨ k = 13 ∨ k = 14) ∧ s' = (3, s.2)) ∨
  (s.1 = 3 ∧ (k = 15) ∧ s' = (4, 2, s.2.2)) ∨
  (s.1 = 3 ∧ (k = 2) ∧ s' = (7, s.2)) ∨
  (s.1 = 3 ∧ (k = 40) ∧ s' = (3, s.2.1, s.2.2.1 + 1, s.2.2.2)) ∨
  (s.1 = 3 ∧ (k = 16) ∧ s' = (6, 2, s.2.2)) ∨
  (s.1 = 3 ∧ (k = 17) ∧ s' = (6, 4, s.2.2)) ∨
  (s.1 = 3 ∧ (k = 18 ∨ k = 19) ∧ s' = (6, 3, s.2.2)) ∨
  (s.1 = 4 ∧ (k = 45) ∧ s' = (5, s.2)) ∨
  (s.1 = 4 ∧ (k = 3) ∧ s' = (if 1 < s.2.1 then 4 else 3, s.2.1 - 1, s.2.2)) ∨
  (s.1 = 5 ∧ (k = 3) ∧ s' = (if 1 < s.2.1 then 4 else 3, s.2.1 - 1, s.2.2)) ∨
  (s.1 = 6 ∧ (k = 3) ∧ s' = (if 1 < s.2.1 then 6 else 7, s.2.1 - 1, s.2.2)) ∨
  (s.1 = 7 ∧ (k = 43 ∨ k = 45 ∨ k = 38) ∧ s' = (3, s.2)) ∨
  (s.1 = 7 ∧ (k = 41 ∧ 0 < s.2.2.1) ∧ s' = (7, s.2.1, s.2.2.1 - 1, s.2.2.2)) ∨
  (s.1 = 7 ∧ (k = 59 ∧ s.2.2.1 = 0) ∧ s' = (0, s.2)) := by
  unfold nx at e
  by_cases c0 : s.1 = 0
  · rw [if_pos c0] at e
    by_cases d0 : k = 10
    · rw [if_pos d0] at e; cases e; exact Or.inl ⟨c0, d0, rfl⟩
    rw [if_neg d0] at e
    by_cases d1 : k = 11
    · rw [if_pos d1] at e; cases e; exact Or.inr (Or.inl ⟨c0, d1, rfl⟩)
    rw [if_neg d1] at e
    cases e
  rw [if_neg c0] at e
  by_cases c1 : s.1 = 1
  · rw [if_pos c1] at e
    by_cases d2 : k = 2
    · rw [if_pos d2] at e; cases e; exact Or.inr (Or.inr (Or.inl ⟨c1, d2, rfl⟩))
    rw [if_neg d2] at e
    cases e
  rw [if_neg c1] at e
  by_cases c2 : s.1 = 2
  · rw [if_pos c2] at e
    by_cases d3 : k = 61
    · rw [if_pos d3] at e; cases e; exact Or.inr (Or.inr (Or.inr (Or.inl ⟨c2, d3, rfl⟩)))
    rw [if_neg d3] at e
    cases e
  rw [if_neg c2] at e
  by_cases c3 : s.1 = 3
  · rw [if_pos c3] at e
    by_cases d4 : k = 12 ∨ k = 13 ∨ k = 14
    · rw [if_pos d4] at e; cases e; exact Or.inr (Or.inr (Or.inr (Or.inr (Or.inl ⟨c3, d4, rfl⟩))))
    rw [if_neg d4] at e
    by_cases d5 : k = 15
    · rw [if_pos d5] at e; cases e; exact Or.inr (Or.inr (Or.inr (Or.inr (Or.inr (Or.inl ⟨c3, d5, rfl⟩)))))
    rw [if_neg d5] at e
    by_cases d6 : k = 2
    · rw [if_pos d6] at e; cases e; exact Or.inr (Or.inr (Or.inr (Or.inr (Or.inr (Or.inr (Or.inl ⟨c3, d6, rfl⟩))))))
    rw [if_neg d6] at e
    by_cases d7 : k = 40
    · rw [if_pos d7] at e; cases e; exact Or.inr (Or.inr (Or.inr (Or.inr (Or.inr (Or.inr (Or.inr (Or.inl ⟨c3, d7, rfl⟩)))))))
    rw [if_neg d7] at e
    by_cases d8 : k = 16
    · rw [if_pos d8] at e; cases e; exact Or.inr (Or.inr (Or.inr (Or.inr (Or.inr (Or.inr (Or.inr (Or.inr (Or.inl ⟨c3, d8, rfl⟩))))))))
    rw [if_neg d8] at e
    by_cases d9 : k = 17
    · rw [if_pos d9] at e; cases e; exact Or.inr (Or.inr (Or.inr (Or.inr (Or.inr (Or.inr (Or.inr (Or.inr (Or.inr (Or.inl ⟨c3, d9, rfl⟩)))))))))
    rw [if_neg d9] at e
    by_cases d10 : k = 18 ∨ k = 19
    · rw [if_pos d10] at e; cases e; exact Or.inr (Or.inr (Or.inr (Or.inr (Or.inr (Or.inr (Or.inr (Or.inr (Or.inr (Or.inr (Or.inl ⟨c3, d10, rfl⟩))))))))))
    rw [if_neg d10] at e
    cases e
  rw [if_neg c3] at e
  by_cases c4 : s.1 = 4
  · rw [if_pos c4] at e
    by_cases d11 : k = 45
    · rw [if_pos d11] at e; cases e; exact Or.inr (Or.inr (Or.inr (Or.inr (Or.inr (Or.inr (Or.inr (Or.inr (Or.inr (Or.inr (Or.inr (Or.inl ⟨c4, d11, rfl⟩)))))))))))
    rw [if_neg d11] at e
    by_cases d12 : k = 3
    · rw [if_pos d12] at e; cases e; exact Or.inr (Or.inr (Or.inr (Or.inr (Or.inr (Or.inr (Or.inr (Or.inr (Or.inr (Or.inr (Or.inr (Or.inr (Or.inl ⟨c4, d12, rfl⟩))))))))))))
    rw [if_neg d12] at e
    cases e
  rw [if_neg c4] at e
  by_cases c5 : s.1 = 5
  · rw [if_pos c5] at e
    by_cases d13 : k = 3
    · rw [if_pos d13] at e; cases e; exact Or.inr (Or.inr (Or.inr (Or.inr (Or.inr (Or.inr (Or.inr (Or.inr (Or.inr (Or.inr (Or.inr (Or.inr (Or.inr (Or.inl ⟨c5, d13, rfl⟩)))))))))))))
    rw [if_neg d13] at e
    cases e
  rw [if_neg c5] at e
  by_cases c6 : s.1 = 6
  · rw [if_pos c6] at e
    by_cases d14 : k = 3
    · rw [if_pos d14] at e; cases e; exact Or.inr (Or.inr (Or.inr (Or.inr (Or.inr (Or.inr (Or.inr (Or.inr (Or.inr (Or.inr (Or.inr (Or.inr (Or.inr (Or.inr (Or.inl ⟨c6, d14, rfl⟩))))))))))))))
    rw [if_neg d14] at e
    cases e
  rw [if_neg c6] at e
  by_cases c7 : s.1 = 7
  · rw [if_pos c7] at e
    by_cases d15 : k = 43 ∨ k = 45 ∨ k = 38
    · rw [if_pos d15] at e; cases e; exact Or.inr (Or.inr (Or.inr (Or.inr (Or.inr (Or.inr (Or.inr (Or.inr (Or.inr (Or.inr (Or.inr (Or.inr (Or.inr (Or.inr (Or.inr (Or.inl ⟨c7, d15, rfl⟩)))))))))))))))
    rw [if_neg d15] at e
    by_cases d16 : k = 41 ∧ 0 < s.2.2.1
    · rw [if_pos d16] at e; cases e; exact Or.inr (Or.inr (Or.inr (Or.inr (Or.inr (Or.inr (Or.inr (Or.inr (Or.inr (Or.inr (Or.inr (Or.inr (Or.inr (Or.inr (Or.inr (Or.inr (Or.inl ⟨c7, d16, rfl⟩))))))))))))))))
    rw [if_neg d16] at e
    by_cases d17 : k = 59 ∧ s.2.2.1 = 0
    · rw [if_pos d17] at e; cases e; exact Or.inr (Or.inr (Or.inr (Or.inr (Or.inr (Or.inr (Or.inr (Or.inr (Or.inr (Or.inr (Or.inr (Or.inr (Or.inr (Or.inr (Or.inr (Or.inr (Or.inr (⟨c7, d17, rfl⟩)))))))))))))))))
    rw [if_neg d17] at e
    cases e
  rw [if_neg c7] at e
  cases e
theorem nx_0 : nx s 0 = none ∧ nx s 1 = none := by
  constructor
  · cases e : nx s 0 with
    | none => rfl
    | some x => have := nx_c e; omega
  · cases e : nx s 1 with
    | none => rfl
    | some x => have := nx_c e; omega
theorem Au_k (h : Au k (t + 1) ≠ none) : k t ≠ 0 ∧ k t ≠ 1 := by
  obtain ⟨s', e⟩ := Option.ne_none_iff_exists'.mp h
  obtain ⟨s, _, e2, _⟩ := Au_b e
  constructor
  · intro q; rw [q, nx_0.1] at e2; cases e2
  · intro q; rw [q, nx_0.2] at e2; cases e2
theorem Au_4 (h : Au k t ≠ none) : t ≤ 400 := by
  cases t with
  | zero => omega
  | succ t =>
    obtain ⟨s', e⟩ := Option.ne_none_iff_exists'.mp h
    obtain ⟨s, _, _, h3⟩ := Au_b e
    have := (rmO_i.mp h3).1
    omega
theorem Last_u {t' : Nat} (h : LastA k t s) (h' : LastA k t' s') : t = t' ∧ s = s' := by
  have e : t = t' := by
    by_cases c : t < t'
    · exact absurd h.2 (Au_d (by rw [h'.1]; intro q; cases q) (by omega))
    · by_cases d : t' < t
      · exact absurd h'.2 (Au_d (by rw [h.1]; intro q; cases q) (by omega))
      · omega
  subst e
  have := h.1.symm.trans h'.1
  cases this
  exact ⟨rfl, rfl⟩
/-- what holds of every state -/
theorem Au_i : ∀ {t : Nat} {s : SyS}, Au k t = some s → s.1 ≤ 7 ∧ (s.1 = 4 ∨ s.1 = 5 ∨ s.1 = 6 → 1 ≤ s.2.1) ∧ s.2.1 ≤ 4 ∧ s.2.2.1 ≤ 6 ∧ s.2.2.2.1 ≤ 8 ∧ s.2.2.2.2 ≤ 6 ∧ (s.1 ≤ 2 → s.2.2.1 = 0) := by
  intro t
  induction t with
  | zero => intro s h; cases h; decide
  | succ t ih =>
    intro s' h
    obtain ⟨s, e1, e2, e3⟩ := Au_b h
    have := ih e1
    obtain ⟨_, r1, r2, r3⟩ := rmO_i.mp e3
    rcases nx_c e2 with ⟨c, d, rfl⟩ | ⟨c, d, rfl⟩ | ⟨c, d, rfl⟩ | ⟨c, d, rfl⟩ | ⟨c, d, rfl⟩ | ⟨c, d, rfl⟩ | ⟨c, d, rfl⟩ | ⟨c, d, rfl⟩ | ⟨c, d, rfl⟩ | ⟨c, d, rfl⟩ | ⟨c, d, rfl⟩ | ⟨c, d, rfl⟩ | ⟨c, d, rfl⟩ | ⟨c, d, rfl⟩ | ⟨c, d, rfl⟩ | ⟨c, d, rfl⟩ | ⟨c, d, rfl⟩ | ⟨c, d, rfl⟩ <;> refine ⟨?_, ?_, ?_, r1, r2, r3, ?_⟩ <;> simp only [] at * <;> (try split) <;> (try omega) <;> (intro q; split at q <;> omega)
end AUT
/-! numbers, names -/
def tell (k : Nat → Nat) (t : Nat) : Bool := decide (0 < t ∧ (k (t - 1) = 10 ∨ k (t - 1) = 11))
/-- (word, numbers seen, x, y) -/
def mW (k v : Nat → Nat) : Nat → Nat × Nat × Nat × Nat
  | 0 => (0, 0, 0, 0)
  | t + 1 => if 10 ≤ k t ∧ k t ≤ 19 then (k t, 0, (mW k v t).2.2) else if k t = 3 then ((mW k v t).1, (mW k v t).2.1 + 1, if (mW k v t).2.1 = 0 then v t else (mW k v t).2.2.1, if (mW k v t).2.1 = 1 then v t else (mW k v t).2.2.2) else mW k v t
def nF (w : Nat × Nat × Nat × Nat) (x : Nat) : Bool := decide ((2 ≤ w.2.1 ∧ w.1 = 17 ∧ x < 1) ∨ (if w.2.1 < 2 then (7 : Int) else if w.1 = 17 then (8 : Int) - ((if w.2.1 = 2 then w.2.2.1 else w.2.2.2 : Nat) : Int) else 3) < (x : Int))
def oN (k : Nat → Nat) : Nat → Nat
  | 0 => 0
  | t + 1 => if k t = 2 ∧ tell k t = true then t else oN k t
def cN (k : Nat → Nat) : Nat → List Nat
  | 0 => []
  | t + 1 => if k t = 59 then cN k t ++ [oN k t] else cN k t
def fdN (k u : Nat → Nat) (t : Nat) : Option Nat := fnd (fun j => u ((cN k t).getD j 0) == u t) (cN k t).length 0
def told (k u : Nat → Nat) (t : Nat) : Bool := (fdN k u t).isSome
def mf (k v u : Nat → Nat) (t : Nat) : Nat := if k t = 2 then (if tell k t = true then (if told k u t = true then 3 else 0) else (if told k u t = true then 0 else 4)) else if k t = 3 then (if nF (mW k v t) (v t) = true then 5 else 0) else 0
section AUN
variable {k : Nat → Nat} {t : Nat} {s : SyS}
theorem Au_t (h : Au k t = some s) : (tell k t = true ↔ s.1 = 1) ∧ (t = 0 → s.1 = 0) := by
  cases t with
  | zero => cases h; exact ⟨⟨(fun q => by cases q), (fun q => by cases q)⟩, fun _ => rfl⟩
  | succ t =>
    refine ⟨?_, fun q => by omega⟩
    obtain ⟨s0, _, e2, _⟩ := Au_b h
    unfold tell
    rw [decide_eq_true_iff, show t + 1 - 1 = t by omega]
    rcases nx_c e2 with ⟨c, d, rfl⟩ | ⟨c, d, rfl⟩ | ⟨c, d, rfl⟩ | ⟨c, d, rfl⟩ | ⟨c, d, rfl⟩ | ⟨c, d, rfl⟩ | ⟨c, d, rfl⟩ | ⟨c, d, rfl⟩ | ⟨c, d, rfl⟩ | ⟨c, d, rfl⟩ | ⟨c, d, rfl⟩ | ⟨c, d, rfl⟩ | ⟨c, d, rfl⟩ | ⟨c, d, rfl⟩ | ⟨c, d, rfl⟩ | ⟨c, d, rfl⟩ | ⟨c, d, rfl⟩ | ⟨c, d, rfl⟩ <;> constructor <;> intro q <;> simp only [] at q ⊢ <;> first | omega | (split at q <;> omega)
theorem Au_N : ∀ {t : Nat} {s : SyS}, Au k t = some s → (2 ≤ s.1 → k (oN k t) = 2 ∧ oN k t < t ∧ 0 < oN k t) ∧ (∀ j, j < (cN k t).length → k ((cN k t).getD j 0) = 2 ∧ (cN k t).getD j 0 < t ∧ 0 < (cN k t).getD j 0) ∧ (cN k t).length + (if s.1 = 0 then 0 else 1) = s.2.2.2.1 + s.2.2.2.2 := by
  intro t
  induction t with
  | zero => intro s h; cases h; exact ⟨fun q => by simp only [] at q; omega, fun j hj => by exact absurd hj (Nat.not_lt_zero j), rfl⟩
  | succ t ih =>
    intro s' h
    obtain ⟨s, e1, e2, _⟩ := Au_b h
    obtain ⟨i1, i2, i3⟩ := ih e1
    have ht := (Au_t e1).1
    have ht0 := (Au_t e1).2
    by_cases c59 : k t = 59
    · have h7 : s.1 = 7 ∧ s' = (0, s.2) := by
        rcases nx_c e2 with ⟨c, d, rfl⟩ | ⟨c, d, rfl⟩ | ⟨c, d, rfl⟩ | ⟨c, d, rfl⟩ | ⟨c, d, rfl⟩ | ⟨c, d, rfl⟩ | ⟨c, d, rfl⟩ | ⟨c, d, rfl⟩ | ⟨c, d, rfl⟩ | ⟨c, d, rfl⟩ | ⟨c, d, rfl⟩ | ⟨c, d, rfl⟩ | ⟨c, d, rfl⟩ | ⟨c, d, rfl⟩ | ⟨c, d, rfl⟩ | ⟨c, d, rfl⟩ | ⟨c, d, rfl⟩ | ⟨c, d, rfl⟩ <;> first | exact ⟨c, rfl⟩ | (exfalso; omega)
      obtain ⟨h7, rfl⟩ := h7
      have ho : oN k (t + 1) = oN k t := by rw [oN, if_neg (fun q => by omega)]
      have hc : cN k (t + 1) = cN k t ++ [oN k t] := by rw [cN, if_pos c59]
      rw [ho, hc]
      refine ⟨fun q => by simp only [] at q; omega, fun j hj => ?_, ?_⟩
      · rw [List.length_append, List.length_singleton] at hj
        by_cases d : j = (cN k t).length
        · have : (cN k t ++ [oN k t]).getD j 0 = oN k t := by rw [d]; simp
          rw [this]
          have := i1 (by omega)
          exact ⟨this.1, by omega, this.2.2⟩
        · have e : (cN k t ++ [oN k t]).getD j 0 = (cN k t).getD j 0 := by simp [List.getD, List.getElem?_append_left (show j < (cN k t).length by omega)]
          rw [e]
          have := i2 j (by omega)
          exact ⟨this.1, by omega, this.2.2⟩
      · rw [List.length_append, List.length_singleton]
        rw [if_neg (by omega)] at i3
        simp only [if_pos]
        omega
    · have hc : cN k (t + 1) = cN k t := by rw [cN, if_neg c59]
      rw [hc]
      refine ⟨fun q => ?_, fun j hj => ⟨(i2 j hj).1, by have := (i2 j hj).2.1; omega, (i2 j hj).2.2⟩, ?_⟩
      · by_cases c : k t = 2 ∧ tell k t = true
        · rw [oN, if_pos c]
          refine ⟨c.1, by omega, ?_⟩
          have := ht.mp c.2
          have h0 : t ≠ 0 := fun w => by have := ht0 w; omega
          omega
        · rw [oN, if_neg c]
          have hs : 2 ≤ s.1 := by
            rcases nx_c e2 with ⟨c', d, rfl⟩ | ⟨c', d, rfl⟩ | ⟨c', d, rfl⟩ | ⟨c', d, rfl⟩ | ⟨c', d, rfl⟩ | ⟨c', d, rfl⟩ | ⟨c', d, rfl⟩ | ⟨c', d, rfl⟩ | ⟨c', d, rfl⟩ | ⟨c', d, rfl⟩ | ⟨c', d, rfl⟩ | ⟨c', d, rfl⟩ | ⟨c', d, rfl⟩ | ⟨c', d, rfl⟩ | ⟨c', d, rfl⟩ | ⟨c', d, rfl⟩ | ⟨c', d, rfl⟩ | ⟨c', d, rfl⟩ <;> simp only [] at q <;> first | omega | exact absurd ⟨d, ht.mpr c'⟩ c
          have := i1 hs
          exact ⟨this.1, by omega, this.2.2⟩
      · rcases nx_c e2 with ⟨c, d, rfl⟩ | ⟨c, d, rfl⟩ | ⟨c, d, rfl⟩ | ⟨c, d, rfl⟩ | ⟨c, d, rfl⟩ | ⟨c, d, rfl⟩ | ⟨c, d, rfl⟩ | ⟨c, d, rfl⟩ | ⟨c, d, rfl⟩ | ⟨c, d, rfl⟩ | ⟨c, d, rfl⟩ | ⟨c, d, rfl⟩ | ⟨c, d, rfl⟩ | ⟨c, d, rfl⟩ | ⟨c, d, rfl⟩ | ⟨c, d, rfl⟩ | ⟨c, d, rfl⟩ | ⟨c, d, rfl⟩ <;> rw [c] at i3 <;> simp only [] at * <;> (try split) <;> first | omega | (simp at i3; omega) | (simp at *; omega)
theorem mW_b {v : Nat → Nat} (hv : ∀ j, k j = 3 → v j < 100) : ∀ t, (mW k v t).1 < 20 ∧ (mW k v t).2.1 ≤ t ∧ (mW k v t).2.2.1 < 100 ∧ (mW k v t).2.2.2 < 100
  | 0 => by show 0 < 20 ∧ 0 ≤ 0 ∧ 0 < 100 ∧ 0 < 100; omega
  | t + 1 => by
    have ih := mW_b hv t
    rw [mW]
    by_cases c : 10 ≤ k t ∧ k t ≤ 19
    · rw [if_pos c]; exact ⟨by simp only []; omega, by simp only []; omega, ih.2.2⟩
    · rw [if_neg c]
      by_cases d : k t = 3
      · rw [if_pos d]
        have := hv t d
        refine ⟨ih.1, by simp only []; omega, ?_, ?_⟩ <;> simp only [] <;> split <;> omega
      · rw [if_neg d]; exact ⟨ih.1, by omega, ih.2.2⟩
end AUN
