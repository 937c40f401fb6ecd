/-! ===== the class's Syntax ===== -/
def SyM (mi : IM) (s : SyS) : Prop := mi 9 0 = nI s.1 ∧ mi 9 1 = nI s.2.1 ∧ mi 9 2 = nI s.2.2.1 ∧ mi 9 3 = nI s.2.2.2.1 ∧ mi 9 4 = nI s.2.2.2.2
theorem uE {α : Type} {f : Nat → Nat → α} {a k : Nat} {v : α} : upd2 f a k v a k = v := by rw [u2, if_pos ⟨rfl, rfl⟩]
section SYN
variable {n k : Nat} {mi : IM} {ml : JM}
theorem inPartC {lf br nb no : Nat} (hk : k < 256) (h : SyM mi (3, lf, br, nb, no)) : ∃ r mi', f_Syntax_inPart n 9 (nI k) (K mi ml) = some (nI r, K mi' ml) ∧ (∀ a, a ≠ 9 → mi' a = mi a) ∧ ((nx (3, lf, br, nb, no) k = none ∧ r = 8) ∨ ∃ s', nx (3, lf, br, nb, no) k = some s' ∧ r = s'.1 ∧ SyM (upd2 mi' 9 0 (nI r)) s') := by
  unfold f_Syntax_inPart
  rw [o_9]
  have same : ∀ r s', nx (3, lf, br, nb, no) k = some s' → r = s'.1 → s'.2 = (lf, br, nb, no) → SyM (upd2 mi 9 0 (nI r)) s' := fun r s' _ e2 e3 => by
    unfold SyM
    rw [e3]
    exact ⟨by rw [u2, if_pos ⟨rfl, rfl⟩, e2], by rw [u2, if_neg (by omega)]; exact h.2.1, by rw [u2, if_neg (by omega)]; exact h.2.2.1, by rw [u2, if_neg (by omega)]; exact h.2.2.2.1, by rw [u2, if_neg (by omega)]; exact h.2.2.2.2⟩
  have left : ∀ r v, SyM (upd2 (upd2 mi 9 1 (nI v)) 9 0 (nI r)) (r, v, br, nb, no) := fun r v => by
    unfold SyM
    exact ⟨by rw [u2, if_pos ⟨rfl, rfl⟩], by rw [u2, if_neg (by omega), u2, if_pos ⟨rfl, rfl⟩], by rw [u2, if_neg (by omega), u2, if_neg (by omega)]; exact h.2.2.1, by rw [u2, if_neg (by omega), u2, if_neg (by omega)]; exact h.2.2.2.1, by rw [u2, if_neg (by omega), u2, if_neg (by omega)]; exact h.2.2.2.2⟩
  have fr : ∀ j v (a : Nat), a ≠ 9 → upd2 mi 9 j v a = mi a := fun j v a ha => by rw [upd2_ne ha]
  by_cases c2 : k = 2
  · subst c2
    rw [if_pos (by decide)]
    exact ⟨7, mi, rfl, fun _ _ => rfl, Or.inr ⟨(7, lf, br, nb, no), rfl, rfl, same 7 _ rfl rfl rfl⟩⟩
  by_cases c12 : k = 12
  · subst c12
    iterate 10 rw [if_neg (by decide)]
    rw [if_pos (by decide)]
    exact ⟨3, mi, rfl, fun _ _ => rfl, Or.inr ⟨(3, lf, br, nb, no), rfl, rfl, same 3 _ rfl rfl rfl⟩⟩
  by_cases c13 : k = 13
  · subst c13
    iterate 11 rw [if_neg (by decide)]
    rw [if_pos (by decide)]
    exact ⟨3, mi, rfl, fun _ _ => rfl, Or.inr ⟨(3, lf, br, nb, no), rfl, rfl, same 3 _ rfl rfl rfl⟩⟩
  by_cases c14 : k = 14
  · subst c14
    iterate 12 rw [if_neg (by decide)]
    rw [if_pos (by decide)]
    exact ⟨3, mi, rfl, fun _ _ => rfl, Or.inr ⟨(3, lf, br, nb, no), rfl, rfl, same 3 _ rfl rfl rfl⟩⟩
  by_cases c15 : k = 15
  · subst c15
    iterate 13 rw [if_neg (by decide)]
    rw [if_pos (by decide), p_9, bnd_s]
    exact ⟨4, _, rfl, fr _ _, Or.inr ⟨(4, 2, br, nb, no), rfl, rfl, left 4 2⟩⟩
  by_cases c16 : k = 16
  · subst c16
    iterate 14 rw [if_neg (by decide)]
    rw [if_pos (by decide), p_9, bnd_s]
    exact ⟨6, _, rfl, fr _ _, Or.inr ⟨(6, 2, br, nb, no), rfl, rfl, left 6 2⟩⟩
  by_cases c17 : k = 17
  · subst c17
    iterate 15 rw [if_neg (by decide)]
    rw [if_pos (by decide), p_9, bnd_s]
    exact ⟨6, _, rfl, fr _ _, Or.inr ⟨(6, 4, br, nb, no), rfl, rfl, left 6 4⟩⟩
  by_cases c18 : k = 18
  · subst c18
    iterate 16 rw [if_neg (by decide)]
    rw [if_pos (by decide), p_9, bnd_s]
    exact ⟨6, _, rfl, fr _ _, Or.inr ⟨(6, 3, br, nb, no), rfl, rfl, left 6 3⟩⟩
  by_cases c19 : k = 19
  · subst c19
    iterate 17 rw [if_neg (by decide)]
    rw [if_pos (by decide), p_9, bnd_s]
    exact ⟨6, _, rfl, fr _ _, Or.inr ⟨(6, 3, br, nb, no), rfl, rfl, left 6 3⟩⟩
  by_cases c40 : k = 40
  · subst c40
    iterate 38 rw [if_neg (by decide)]
    rw [if_pos (by decide), g_9, bnd_s, p_9, bnd_s, h.2.2.1, nI_1]
    refine ⟨3, _, rfl, fr _ _, Or.inr ⟨(3, lf, br + 1, nb, no), rfl, rfl, ?_⟩⟩
    unfold SyM
    exact ⟨by rw [u2, if_pos ⟨rfl, rfl⟩], by rw [u2, if_neg (by omega), u2, if_neg (by omega)]; exact h.2.1, by rw [u2, if_neg (by omega), u2, if_pos ⟨rfl, rfl⟩], by rw [u2, if_neg (by omega), u2, if_neg (by omega)]; exact h.2.2.2.1, by rw [u2, if_neg (by omega), u2, if_neg (by omega)]; exact h.2.2.2.2⟩
  · have g : ∀ j : Nat, j < 256 → k ≠ j → ¬ nI k = nI j := fun j hj hne => by rw [nI_eq (by omega) (by omega)]; exact hne
    rw [if_neg (show ¬ nI k = 2 from g 2 (by omega) c2)]
    simp only [if_neg (show ¬ nI k = 12 from g 12 (by omega) c12), if_neg (show ¬ nI k = 13 from g 13 (by omega) c13), if_neg (show ¬ nI k = 14 from g 14 (by omega) c14), if_neg (show ¬ nI k = 15 from g 15 (by omega) c15), if_neg (show ¬ nI k = 16 from g 16 (by omega) c16), if_neg (show ¬ nI k = 17 from g 17 (by omega) c17), if_neg (show ¬ nI k = 18 from g 18 (by omega) c18), if_neg (show ¬ nI k = 19 from g 19 (by omega) c19), if_neg (show ¬ nI k = 40 from g 40 (by omega) c40), ite_self]
    refine ⟨8, mi, rfl, fun _ _ => rfl, Or.inl ⟨?_, rfl⟩⟩
    cases e : nx (3, lf, br, nb, no) k with
    | none => rfl
    | some x => have := nx_c e; simp only [] at this; omega
theorem nextC {s : SyS} (hk : k < 256) (h : SyM mi s) (hs : s.1 ≤ 7 ∧ (s.1 = 4 ∨ s.1 = 5 ∨ s.1 = 6 → 1 ≤ s.2.1) ∧ s.2.1 ≤ 4 ∧ s.2.2.1 ≤ 6 ∧ s.2.2.2.1 ≤ 8 ∧ s.2.2.2.2 ≤ 6 ∧ (s.1 ≤ 2 → s.2.2.1 = 0)) : ∃ r mi', f_Syntax_next n 9 (nI k) (K mi ml) = some (nI r, K mi' ml) ∧ (∀ a, a ≠ 9 → mi' a = mi a) ∧ ((nx s k = none ∧ r = 8) ∨ ∃ s', nx s k = some s' ∧ r = s'.1 ∧ SyM (upd2 mi' 9 0 (nI r)) s') := by
  obtain ⟨st, lf, br, nb, no⟩ := s
  simp only [] at hs
  have g : ∀ j : Nat, j < 256 → k ≠ j → ¬ nI k = nI j := fun j hj hne => by rw [nI_eq (by omega) (by omega)]; exact hne
  have bad : nx (st, lf, br, nb, no) k = none → ∃ r mi', some ((8 : Int32), K mi ml) = some (nI r, K mi' ml) ∧ (∀ a, a ≠ 9 → mi' a = mi a) ∧ ((nx (st, lf, br, nb, no) k = none ∧ r = 8) ∨ ∃ s', nx (st, lf, br, nb, no) k = some s' ∧ r = s'.1 ∧ SyM (upd2 mi' 9 0 (nI r)) s') := fun e => ⟨8, mi, rfl, fun _ _ => rfl, Or.inl ⟨e, rfl⟩⟩
  have none_of : (∀ x, nx (st, lf, br, nb, no) k = some x → False) → nx (st, lf, br, nb, no) k = none := fun q => by
    cases e : nx (st, lf, br, nb, no) k with
    | none => rfl
    | some x => exact absurd e (fun e => q x e)
  have fr : ∀ j v (a : Nat), a ≠ 9 → upd2 mi 9 j v a = mi a := fun j v a ha => by rw [upd2_ne ha]
  have same : ∀ r, SyM (upd2 mi 9 0 (nI r)) (r, lf, br, nb, no) := fun r => by
    unfold SyM
    exact ⟨by rw [u2, if_pos ⟨rfl, rfl⟩], by rw [u2, if_neg (by omega)]; exact h.2.1, by rw [u2, if_neg (by omega)]; exact h.2.2.1, by rw [u2, if_neg (by omega)]; exact h.2.2.2.1, by rw [u2, if_neg (by omega)]; exact h.2.2.2.2⟩
  have left : ∀ r v, SyM (upd2 (upd2 mi 9 1 (nI v)) 9 0 (nI r)) (r, v, br, nb, no) := fun r v => by
    unfold SyM
    exact ⟨by rw [u2, if_pos ⟨rfl, rfl⟩], by rw [u2, if_neg (by omega), u2, if_pos ⟨rfl, rfl⟩], by rw [u2, if_neg (by omega), u2, if_neg (by omega)]; exact h.2.2.1, by rw [u2, if_neg (by omega), u2, if_neg (by omega)]; exact h.2.2.2.1, by rw [u2, if_neg (by omega), u2, if_neg (by omega)]; exact h.2.2.2.2⟩
  have h0 : mi 9 0 = nI st := h.1
  have h1 : mi 9 1 = nI lf := h.2.1
  have h2 : mi 9 2 = nI br := h.2.2.1
  have h3 : mi 9 3 = nI nb := h.2.2.2.1
  have h4 : mi 9 4 = nI no := h.2.2.2.2
  unfold f_Syntax_next
  rw [o_9, g_9, bnd_s, h0]
  have hst : st = 0 ∨ st = 1 ∨ st = 2 ∨ st = 3 ∨ st = 4 ∨ st = 5 ∨ st = 6 ∨ st = 7 := by omega
  have shiftN : (st = 4 ∨ st = 5) → (k ≠ 45 ∨ st = 5) → ∃ r mi', ((f_Syntax_behindShiftNumber n 9 (nI k) (K mi ml)).bind fun p12 => some (p12.1, p12.2)) = some (nI r, K mi' ml) ∧ (∀ a, a ≠ 9 → mi' a = mi a) ∧ ((nx (st, lf, br, nb, no) k = none ∧ r = 8) ∨ ∃ s', nx (st, lf, br, nb, no) k = some s' ∧ r = s'.1 ∧ SyM (upd2 mi' 9 0 (nI r)) s') := fun q1 q2 => by
    unfold f_Syntax_behindShiftNumber
    rw [o_9]
    by_cases c : k = 3
    · have e : nx (st, lf, br, nb, no) k = some (if 1 < lf then 4 else 3, lf - 1, br, nb, no) := by
        rw [c]; rcases q1 with rfl | rfl <;> rfl
      have hl := hs.2.1 (by omega)
      rw [if_pos (show nI k = 3 by rw [c]; rfl), g_9, bnd_s, p_9, bnd_s, h1, is1 (n := 1) (by omega), g_9, bnd_s, uE]
      by_cases d : 1 < lf
      · rw [if_neg (show ¬ nI (lf - 1) ≤ 0 by rw [show (0 : Int32) = nI 0 from rfl, nI_leI (by omega) (by omega)]; omega), bnd_s]
        rw [if_pos d] at e
        exact ⟨4, _, rfl, fr _ _, Or.inr ⟨_, e, rfl, left 4 (lf - 1)⟩⟩
      · rw [if_pos (show nI (lf - 1) ≤ 0 by rw [show lf - 1 = 0 by omega]; decide), bnd_s]
        rw [if_neg d] at e
        exact ⟨3, _, rfl, fr _ _, Or.inr ⟨_, e, rfl, left 3 (lf - 1)⟩⟩
    · rw [if_neg (show ¬ nI k = 3 from g 3 (by omega) c), bnd_s]
      exact bad (none_of fun x e => by have := nx_c e; simp only [] at this; omega)
  rcases hst with rfl | rfl | rfl | rfl | rfl | rfl | rfl | rfl
  · rw [if_pos (by decide)]
    unfold f_Syntax_behindTelling
    rw [o_9]
    by_cases c : k = 10
    · subst c
      rw [if_pos (by decide), g_9, bnd_s, p_9, bnd_s, h3, nI_1]
      refine ⟨1, _, rfl, fr _ _, Or.inr ⟨(1, lf, br, nb + 1, no), rfl, rfl, ?_⟩⟩
      unfold SyM
      exact ⟨by rw [u2, if_pos ⟨rfl, rfl⟩], by rw [u2, if_neg (by omega), u2, if_neg (by omega)]; exact h1, by rw [u2, if_neg (by omega), u2, if_neg (by omega)]; exact h2, by rw [u2, if_neg (by omega), u2, if_pos ⟨rfl, rfl⟩], by rw [u2, if_neg (by omega), u2, if_neg (by omega)]; exact h4⟩
    · rw [if_neg (show ¬ nI k = 10 from g 10 (by omega) c)]
      by_cases d : k = 11
      · subst d
        rw [if_pos (by decide), g_9, bnd_s, p_9, bnd_s, h4, nI_1]
        refine ⟨1, _, rfl, fr _ _, Or.inr ⟨(1, lf, br, nb, no + 1), rfl, rfl, ?_⟩⟩
        unfold SyM
        exact ⟨by rw [u2, if_pos ⟨rfl, rfl⟩], by rw [u2, if_neg (by omega), u2, if_neg (by omega)]; exact h1, by rw [u2, if_neg (by omega), u2, if_neg (by omega)]; exact h2, by rw [u2, if_neg (by omega), u2, if_neg (by omega)]; exact h3, by rw [u2, if_neg (by omega), u2, if_pos ⟨rfl, rfl⟩]⟩
      · rw [if_neg (show ¬ nI k = 11 from g 11 (by omega) d), bnd_s]
        exact bad (none_of fun x e => by have := nx_c e; simp only [] at this; omega)
  · rw [if_neg (by decide), if_pos (by decide)]
    by_cases c : k = 2
    · subst c
      rw [if_pos (by decide)]
      exact ⟨2, mi, rfl, fun _ _ => rfl, Or.inr ⟨(2, lf, br, nb, no), rfl, rfl, same 2⟩⟩
    · rw [if_neg (show ¬ nI k = 2 from g 2 (by omega) c)]
      exact bad (none_of fun x e => by have := nx_c e; simp only [] at this; omega)
  · rw [if_neg (by decide), if_neg (by decide), if_pos (by decide)]
    by_cases c : k = 61
    · subst c
      rw [if_pos (by decide)]
      exact ⟨3, mi, rfl, fun _ _ => rfl, Or.inr ⟨(3, lf, br, nb, no), rfl, rfl, same 3⟩⟩
    · rw [if_neg (show ¬ nI k = 61 from g 61 (by omega) c)]
      exact bad (none_of fun x e => by have := nx_c e; simp only [] at this; omega)
  · rw [if_neg (by decide), if_neg (by decide), if_neg (by decide), if_pos (by decide)]
    obtain ⟨r, mi', e1, e2, e3⟩ := inPartC (n := n) (ml := ml) hk h
    rw [e1, bnd_s]
    exact ⟨r, mi', rfl, e2, e3⟩
  · rw [if_neg (by decide), if_neg (by decide), if_neg (by decide), if_neg (by decide), if_pos (by decide)]
    by_cases c : k = 45
    · subst c
      rw [if_pos (by decide)]
      exact ⟨5, mi, rfl, fun _ _ => rfl, Or.inr ⟨(5, lf, br, nb, no), rfl, rfl, same 5⟩⟩
    · rw [if_neg (show ¬ nI k = 45 from g 45 (by omega) c)]
      exact shiftN (Or.inl rfl) (Or.inl c)
  · rw [if_neg (by decide), if_neg (by decide), if_neg (by decide), if_neg (by decide), if_neg (by decide), if_pos (by decide)]
    exact shiftN (Or.inr rfl) (Or.inr rfl)
  · rw [if_neg (by decide), if_neg (by decide), if_neg (by decide), if_neg (by decide), if_neg (by decide), if_neg (by decide), if_pos (by decide)]
    unfold f_Syntax_behindUnitNumber
    rw [o_9]
    by_cases c : k = 3
    · have e : nx (6, lf, br, nb, no) k = some (if 1 < lf then 6 else 7, lf - 1, br, nb, no) := by rw [c]; rfl
      have hl := hs.2.1 (by omega)
      rw [if_pos (show nI k = 3 by rw [c]; rfl), g_9, bnd_s, p_9, bnd_s, h1, is1 (n := 1) (by omega), g_9, bnd_s, uE]
      by_cases d : 1 < lf
      · rw [if_neg (show ¬ nI (lf - 1) ≤ 0 by rw [show (0 : Int32) = nI 0 from rfl, nI_leI (by omega) (by omega)]; omega), bnd_s]
        rw [if_pos d] at e
        exact ⟨6, _, rfl, fr _ _, Or.inr ⟨_, e, rfl, left 6 (lf - 1)⟩⟩
      · rw [if_pos (show nI (lf - 1) ≤ 0 by rw [show lf - 1 = 0 by omega]; decide), bnd_s]
        rw [if_neg d] at e
        exact ⟨7, _, rfl, fr _ _, Or.inr ⟨_, e, rfl, left 7 (lf - 1)⟩⟩
    · rw [if_neg (show ¬ nI k = 3 from g 3 (by omega) c), bnd_s]
      exact bad (none_of fun x e => by have := nx_c e; simp only [] at this; omega)
  · rw [if_neg (by decide), if_neg (by decide), if_neg (by decide), if_neg (by decide), if_neg (by decide), if_neg (by decide), if_neg (by decide), if_pos (by decide)]
    unfold f_Syntax_behindUnit
    rw [o_9]
    by_cases c1 : k = 43
    · subst c1
      rw [if_pos (by decide)]
      exact ⟨3, mi, rfl, fun _ _ => rfl, Or.inr ⟨(3, lf, br, nb, no), rfl, rfl, same 3⟩⟩
    rw [if_neg (show ¬ nI k = 43 from g 43 (by omega) c1)]
    by_cases c2 : k = 45
    · subst c2
      rw [if_pos (by decide)]
      exact ⟨3, mi, rfl, fun _ _ => rfl, Or.inr ⟨(3, lf, br, nb, no), rfl, rfl, same 3⟩⟩
    rw [if_neg (show ¬ nI k = 45 from g 45 (by omega) c2)]
    by_cases c3 : k = 38
    · subst c3
      rw [if_pos (by decide)]
      exact ⟨3, mi, rfl, fun _ _ => rfl, Or.inr ⟨(3, lf, br, nb, no), rfl, rfl, same 3⟩⟩
    rw [if_neg (show ¬ nI k = 38 from g 38 (by omega) c3)]
    have hno : (k = 41 → br = 0) → (k = 59 → br ≠ 0) → nx (7, lf, br, nb, no) k = none := fun q1 q2 => none_of fun x e => by have := nx_c e; simp only [] at this; omega
    unfold f_Syntax_behindUnit_46
    by_cases c4 : k = 41
    · subst c4
      rw [if_pos (show nI 41 = 41 by decide), g_9, bnd_s, h2]
      by_cases d : br = 0
      · subst d
        rw [if_pos (show nI 0 ≤ 0 by decide), if_neg (show ¬ nI 41 = 59 by decide), bnd_s]
        exact bad (hno (fun _ => rfl) (fun q => by omega))
      · rw [if_neg (show ¬ nI br ≤ 0 by rw [show (0 : Int32) = nI 0 from rfl, nI_leI (by omega) (by omega)]; omega), bnd_s, is1 (n := 1) (by omega), p_9, bnd_s]
        have e : nx (7, lf, br, nb, no) 41 = some (7, lf, br - 1, nb, no) := by
          simp [nx, show 0 < br by omega]
        refine ⟨7, _, rfl, fr _ _, Or.inr ⟨_, e, rfl, ?_⟩⟩
        unfold SyM
        exact ⟨by rw [u2, if_pos ⟨rfl, rfl⟩], by rw [u2, if_neg (by omega), u2, if_neg (by omega)]; exact h1, by rw [u2, if_neg (by omega), u2, if_pos ⟨rfl, rfl⟩], by rw [u2, if_neg (by omega), u2, if_neg (by omega)]; exact h3, by rw [u2, if_neg (by omega), u2, if_neg (by omega)]; exact h4⟩
    · rw [if_neg (show ¬ nI k = 41 from g 41 (by omega) c4)]
      by_cases c5 : k = 59
      · subst c5
        rw [if_pos (show nI 59 = 59 by decide), g_9, bnd_s, h2]
        by_cases d : br = 0
        · subst d
          rw [if_pos (show nI 0 = 0 by decide), bnd_s]
          exact ⟨0, mi, rfl, fun _ _ => rfl, Or.inr ⟨(0, lf, 0, nb, no), rfl, rfl, same 0⟩⟩
        · rw [if_neg (show ¬ nI br = 0 by rw [show (0 : Int32) = nI 0 from rfl, nI_eq (by omega) (by omega)]; exact d), bnd_s]
          exact bad (hno (fun q => by omega) (fun _ => d))
      · rw [if_neg (show ¬ nI k = 59 from g 59 (by omega) c5), bnd_s]
        exact bad (hno (fun q => absurd q c4) (fun q => absurd q c5))
theorem kindA {T : Nat → Nat} {z c i : Nat} (hc : c ≤ 401) (hi : i < 2 ^ 31) (h : LexC T z c mi ml) : f_Tokens_kindAt n 4 (nI i) (K mi ml) = some (nI (if i < c then kd T z i else 0), K mi ml) := by
  unfold f_Tokens_kindAt
  rw [o_4, if_neg (inN hi), g_4, bnd_s, h.1]
  by_cases d : i < c
  · rw [if_neg (by rw [nI_leI (by omega) hi]; omega), rf_4_0, bnd_s, a_5 (by omega), bnd_s, (h.2 i d).2.1, if_pos d]
    unfold kd
    rw [if_pos (h.2 i d).1]
  · rw [if_pos (by rw [nI_leI (by omega) hi]; omega), if_neg d]; rfl
theorem placeA {T : Nat → Nat} {z c i : Nat} (hc : c ≤ 401) (hi : i < 2 ^ 31) (h : LexC T z c mi ml) (h4 : mi 4 4 = nI z) : f_Tokens_placeAt n 4 (nI i) (K mi ml) = some (nI (if i < c then tP T z i else z), K mi ml) := by
  unfold f_Tokens_placeAt
  rw [o_4, if_neg (inN hi), g_4, bnd_s, h.1]
  by_cases d : i < c
  · rw [if_neg (by rw [nI_leI (by omega) hi]; omega), rf_4_1, bnd_s, a_6 (by omega), bnd_s, (h.2 i d).2.2.1, if_pos d]
  · rw [if_pos (by rw [nI_leI (by omega) hi]; omega), g_4, bnd_s, if_neg d, h4]
def blM (mi : IM) (f p : Nat) : IM := upd2 (upd2 mi 4 5 (nI f)) 4 6 (nI p)
theorem blameA {T : Nat → Nat} {z c i f : Nat} (hc : c ≤ 401) (hi : i < 2 ^ 31) (h : LexC T z c mi ml) (h4 : mi 4 4 = nI z) : f_Tokens_blame n 4 (nI f) (nI i) (K mi ml) = some (K (blM mi f (if i < c then tP T z i else z)) ml) := by
  unfold f_Tokens_blame
  have h' : LexC T z c (upd2 mi 4 5 (nI f)) ml := ⟨by rw [u2, if_neg (by omega)]; exact h.1, fun i hi => by rw [upd2_ne (by omega), upd2_ne (by omega)]; exact h.2 i hi⟩
  rw [o_4, p_4, bnd_s, placeA hc hi h' (by rw [u2, if_neg (by omega)]; exact h4), bnd_s]
  show (pI 10 6 4 _ (K (upd2 mi 4 5 (nI f)) ml)).bind _ = _
  rw [p_4, bnd_s]; rfl
/-- the class's Syntax.check -/
theorem checkS {T : Nat → Nat} {z c : Nat} (hT : ∀ j, T j < 256) (hc : c ≤ 401) (hcz : c = 401 ∨ tP T z c = z ∨ (0 < c ∧ ty T z (tP T z (c - 1)) = 1)) (hn : 401 < n) (h : LexC T z c mi ml) (h4 : mi 4 4 = nI z) (h5 : mi 4 5 = 0) (h6 : mi 4 6 = -1) : ∃ t s mi', f_Syntax_check n 9 4 (K mi ml) = some (K mi' ml) ∧ LastA (kd T z) t s ∧ t ≤ c ∧ (∀ a j, a ≠ 9 → ¬ (a = 4 ∧ (j = 5 ∨ j = 6)) → mi' a j = mi a j) ∧ mi' 4 5 = nI (fN (kd T z) s t) ∧ (fN (kd T z) s t = 0 → mi' 4 6 = -1 ∧ t = c ∧ c ≤ 400) ∧ (fN (kd T z) s t ≠ 0 → mi' 4 6 = nI (tP T z t)) := by
  have hk : ∀ i, kd T z i < 256 := fun i => by
    unfold kd
    by_cases d : tP T z i < z
    · rw [if_pos d]; exact ty_lt (hT _)
    · rw [if_neg d]; omega
  have hpl : ∀ i, i ≤ c → (i < c ∨ tP T z c = z) → (if i < c then tP T z i else z) = tP T z i := fun i q1 q2 => by
    by_cases d : i < c
    · rw [if_pos d]
    · rw [if_neg d, show i = c by omega]; omega
  unfold f_Syntax_check
  rw [o_9, p_9, bnd_s, p_9, bnd_s, p_9, bnd_s, p_9, bnd_s, p_9, bnd_s]
  have L : ∀ m i (s : SyS) (m2 : IM), i ≤ c → c - i < m → Au (kd T z) i = some s → SyM m2 s → (∀ a, a ≠ 9 → m2 a = mi a) → ∃ t s mi', f_Syntax_check_27 n (f_Syntax_check_57 n) (f_Syntax_check_78 n) (f_Syntax_check_91 n) m 9 4 (nI i) (K m2 ml) = some (K mi' ml) ∧ LastA (kd T z) t s ∧ t ≤ c ∧ (∀ a j, a ≠ 9 → ¬ (a = 4 ∧ (j = 5 ∨ j = 6)) → mi' a j = mi a j) ∧ mi' 4 5 = nI (fN (kd T z) s t) ∧ (fN (kd T z) s t = 0 → mi' 4 6 = -1 ∧ t = c ∧ c ≤ 400) ∧ (fN (kd T z) s t ≠ 0 → mi' 4 6 = nI (tP T z t)) := by
    intro m
    induction m with
    | zero => intro i s m2 q1 q2; omega
    | succ m ih =>
      intro i s m2 q1 q2 hA hM hF
      have hL : LexC T z c m2 ml := ⟨by rw [hF 4 (by omega)]; exact h.1, fun j hj => by rw [hF 5 (by omega), hF 6 (by omega)]; exact h.2 j hj⟩
      have hbl : ∀ (m3 : IM) (f i : Nat), (∀ a, a ≠ 9 → m3 a = mi a) → i ≤ c → (i < c ∨ tP T z c = z) → i < 2 ^ 31 → f_Tokens_blame n 4 (nI f) (nI i) (K m3 ml) = some (K (blM m3 f (tP T z i)) ml) := fun m3 f i g1 g2 g3 g4 => by
        rw [blameA hc g4 (⟨by rw [g1 4 (by omega)]; exact h.1, fun j hj => by rw [g1 5 (by omega), g1 6 (by omega)]; exact h.2 j hj⟩ : LexC T z c m3 ml) (by rw [g1 4 (by omega)]; exact h4), hpl i g2 g3]
      have hfin : ∀ (m3 : IM) (f : Nat) (t : Nat), (∀ a, a ≠ 9 → m3 a = mi a) → (∀ a j, a ≠ 9 → ¬ (a = 4 ∧ (j = 5 ∨ j = 6)) → blM m3 f (tP T z t) a j = mi a j) ∧ blM m3 f (tP T z t) 4 5 = nI f ∧ blM m3 f (tP T z t) 4 6 = nI (tP T z t) := fun m3 f t g => by
        unfold blM
        exact ⟨fun a j g1 g2 => by rw [u2, if_neg (by omega), u2, if_neg (by omega), g a g1], by rw [u2, if_neg (by omega), uE], by rw [uE]⟩
      have hb := Au_i hA
      have hi4 := Au_4 (k := kd T z) (t := i) (by rw [hA]; intro q; cases q)
      rw [f_Syntax_check_27, g_4, bnd_s, hF 4 (by omega), h.1]
      by_cases d : i = c
      · subst d
        rw [if_pos (nI_le (Nat.le_refl _) (by omega))]
        unfold f_Syntax_check_91
        rw [g_9, bnd_s, hM.1]
        have hz : tP T z i = z := by
          rcases hcz with e | e | ⟨e1, e2⟩
          · omega
          · exact e
          · exfalso
            obtain ⟨s0, _, e3, _⟩ := Au_b (show Au (kd T z) (i - 1 + 1) = some s by rw [show i - 1 + 1 = i by omega]; exact hA)
            have : kd T z (i - 1) = 1 := by unfold kd; rw [if_pos (h.2 (i - 1) (by omega)).1]; exact e2
            rw [this, nx_0.2] at e3; cases e3
        have hk0 : kd T z i = 0 := by unfold kd; rw [if_neg (by omega)]
        have hl : LastA (kd T z) i s := ⟨hA, Au_n hA (by rw [hk0]; exact nx_0.1)⟩
        by_cases e : s.1 = 0
        · rw [if_pos (show nI s.1 = 0 by rw [e]; rfl)]
          have hf : fN (kd T z) s i = 0 := by unfold fN; rw [if_pos ⟨e, hk0⟩]
          exact ⟨i, s, m2, rfl, hl, Nat.le_refl _, fun a j g1 _ => by rw [hF a g1], by rw [hf, hF 4 (by omega)]; exact h5, fun _ => ⟨by rw [hF 4 (by omega)]; exact h6, rfl, hi4⟩, fun q => absurd hf q⟩
        · rw [if_neg (show ¬ nI s.1 = 0 by rw [show (0 : Int32) = nI 0 from rfl, nI_eq (by omega) (by omega)]; exact e), g_4, bnd_s, hF 4 (by omega), h.1, show f_Tokens_blame n 4 1 (nI i) (K m2 ml) = _ from hbl m2 1 i hF (Nat.le_refl _) (Or.inr hz) (by omega), bnd_s]
          have hf : fN (kd T z) s i = 1 := by unfold fN; rw [if_neg (fun q => e q.1), if_pos (by rw [hk0]; exact nx_0.1)]
          have g := hfin m2 1 i hF
          exact ⟨i, s, _, rfl, hl, Nat.le_refl _, g.1, by rw [hf]; exact g.2.1, fun q => by omega, fun _ => g.2.2⟩
      · rw [if_neg (by rw [nI_leI (by omega) (by omega)]; omega), kindA hc (by omega) hL, bnd_s, if_pos (show i < c by omega)]
        have hk0 : kd T z i ≠ 0 := by
          unfold kd
          rw [if_pos (h.2 i (by omega)).1]
          unfold ty kwd
          by_cases x1 : isL (T (tP T z i)) = true
          · rw [if_pos x1]
            by_cases x2 : 8 < rE T isL z (tP T z i) - tP T z i
            · rw [if_pos x2]; omega
            · rw [if_neg x2]
              cases x3 : fnd (fun w => decide (cB 32 (Wd w) 0 (wn w) = cB 32 T (tP T z i) (rE T isL z (tP T z i) - tP T z i))) 10 0 with
              | none => show 2 ≠ 0; omega
              | some w => show 10 + w ≠ 0; omega
          · rw [if_neg x1]
            by_cases x2 : isD (T (tP T z i)) = true
            · rw [if_pos x2]
              by_cases x3 : rE T isD z (tP T z i) - tP T z i ≤ 2
              · rw [if_pos x3]; omega
              · rw [if_neg x3]; omega
            · rw [if_neg x2]
              by_cases x3 : isG (T (tP T z i)) = true
              · rw [if_pos x3]
                unfold isG at x3
                rw [decide_eq_true_iff] at x3
                omega
              · rw [if_neg x3]; omega
        obtain ⟨r, m3, e1, e2, e3⟩ := nextC (n := n) (ml := ml) (hk i) hM hb
        rw [show f_Syntax_next n 9 (nI (kd T z i)) (K m2 ml) = _ from e1, bnd_s, p_9, bnd_s, g_9, bnd_s, uE]
        have hF3 : ∀ a, a ≠ 9 → upd2 m3 9 0 (nI r) a = mi a := fun a g => by rw [upd2_ne g, e2 a g, hF a g]
        rcases e3 with ⟨x1, x2⟩ | ⟨s', x1, x2, x3⟩
        · subst x2
          rw [if_pos (show nI 8 = 8 by decide)]
          unfold f_Syntax_check_57
          rw [show f_Tokens_blame n 4 1 (nI i) (K (upd2 m3 9 0 (nI 8)) ml) = _ from hbl _ 1 i hF3 q1 (Or.inl (by omega)) (by omega), bnd_s]
          have hf : fN (kd T z) s i = 1 := by unfold fN; rw [if_neg (fun q => hk0 q.2), if_pos x1]
          have g := hfin _ 1 i hF3
          exact ⟨i, s, _, rfl, ⟨hA, Au_n hA x1⟩, q1, g.1, by rw [hf]; exact g.2.1, fun q => by omega, fun _ => g.2.2⟩
        · have hs7 : s'.1 ≤ 7 := by
            have := nx_c x1
            rcases this with ⟨_, _, rfl⟩ | ⟨_, _, rfl⟩ | ⟨_, _, rfl⟩ | ⟨_, _, rfl⟩ | ⟨_, _, rfl⟩ | ⟨_, _, rfl⟩ | ⟨_, _, rfl⟩ | ⟨_, _, rfl⟩ | ⟨_, _, rfl⟩ | ⟨_, _, rfl⟩ | ⟨_, _, rfl⟩ | ⟨_, _, rfl⟩ | ⟨_, _, rfl⟩ | ⟨_, _, rfl⟩ | ⟨_, _, rfl⟩ | ⟨_, _, rfl⟩ | ⟨_, _, rfl⟩ | ⟨_, _, rfl⟩ <;> simp only [] <;> (try split) <;> omega
          have hs9 : s'.2.2.1 ≤ 7 ∧ s'.2.2.2.1 ≤ 9 ∧ s'.2.2.2.2 ≤ 7 := by
            have := nx_c x1
            rcases this with ⟨_, _, rfl⟩ | ⟨_, _, rfl⟩ | ⟨_, _, rfl⟩ | ⟨_, _, rfl⟩ | ⟨_, _, rfl⟩ | ⟨_, _, rfl⟩ | ⟨_, _, rfl⟩ | ⟨_, _, rfl⟩ | ⟨_, _, rfl⟩ | ⟨_, _, rfl⟩ | ⟨_, _, rfl⟩ | ⟨_, _, rfl⟩ | ⟨_, _, rfl⟩ | ⟨_, _, rfl⟩ | ⟨_, _, rfl⟩ | ⟨_, _, rfl⟩ | ⟨_, _, rfl⟩ | ⟨_, _, rfl⟩ <;> simp only [] <;> omega
          have hf2 : fN (kd T z) s i = 2 := by unfold fN; rw [if_neg (fun q => hk0 q.2), if_neg (by rw [x1]; intro q; cases q)]
          have g := hfin _ 2 i hF3
          have room : ¬ rmO i s' = true → ∃ t s mi', f_Syntax_check_78 n 4 (nI i) (K (upd2 m3 9 0 (nI r)) ml) = some (K mi' ml) ∧ LastA (kd T z) t s ∧ t ≤ c ∧ (∀ a j, a ≠ 9 → ¬ (a = 4 ∧ (j = 5 ∨ j = 6)) → mi' a j = mi a j) ∧ mi' 4 5 = nI (fN (kd T z) s t) ∧ (fN (kd T z) s t = 0 → mi' 4 6 = -1 ∧ t = c ∧ c ≤ 400) ∧ (fN (kd T z) s t ≠ 0 → mi' 4 6 = nI (tP T z t)) := fun w => by
            unfold f_Syntax_check_78
            rw [show f_Tokens_blame n 4 2 (nI i) (K (upd2 m3 9 0 (nI r)) ml) = _ from hbl _ 2 i hF3 q1 (Or.inl (by omega)) (by omega), bnd_s]
            exact ⟨i, s, _, rfl, ⟨hA, Au_r hA x1 w⟩, q1, g.1, by rw [hf2]; exact g.2.1, fun q => by omega, fun _ => g.2.2⟩
          rw [if_neg (show ¬ nI r = 8 by rw [ie1 (n := 8) (by omega) (by omega)]; omega)]
          by_cases y : 400 ≤ i
          · rw [if_pos (by rw [il1 (n := 400) (by omega) (by omega)]; exact y)]
            exact room (by rw [rmO_i]; omega)
          · rw [if_neg (by rw [il1 (n := 400) (by omega) (by omega)]; exact y)]
            unfold f_Syntax_lacksRoom f_Syntax_lacksRoom_27
            rw [o_9, g_9, bnd_s, x3.2.2.2.1, g_9, bnd_s, x3.2.2.2.2, g_9, bnd_s, x3.2.2.1]
            by_cases y1 : 8 < s'.2.2.2.1
            · rw [if_pos (by rw [it1 (n := 8) (by omega) (by omega)]; exact y1), bnd_s, if_neg n10]
              exact room (by rw [rmO_i]; omega)
            rw [if_neg (by rw [it1 (n := 8) (by omega) (by omega)]; exact y1)]
            by_cases y2 : 6 < s'.2.2.2.2
            · rw [if_pos (by rw [it1 (n := 6) (by omega) (by omega)]; exact y2), bnd_s, if_neg n10]
              exact room (by rw [rmO_i]; omega)
            rw [if_neg (by rw [it1 (n := 6) (by omega) (by omega)]; exact y2)]
            by_cases y3 : s'.2.2.1 ≤ 6
            · rw [if_pos (by rw [il2 (n := 6) (by omega) (by omega)]; exact y3), bnd_s, if_pos (show (0 : Int32) = 0 from rfl), nI_1]
              exact ih (i + 1) s' _ (by omega) (by omega) (Au_s hA x1 (rmO_i.mpr ⟨by omega, y3, by omega, by omega⟩)) x3 hF3
            · rw [if_neg (by rw [il2 (n := 6) (by omega) (by omega)]; exact y3), bnd_s, if_neg n10]
              exact room (by rw [rmO_i]; omega)
  refine L n 0 (0, 0, 0, 0, 0) _ (by omega) (by omega) rfl ?_ (fun a g => by rw [upd2_ne g, upd2_ne g, upd2_ne g, upd2_ne g, upd2_ne g])
  unfold SyM
  refine ⟨?_, ?_, ?_, ?_, ?_⟩
  · rw [u2, if_neg (by omega), u2, if_neg (by omega), u2, if_neg (by omega), u2, if_neg (by omega), uE]; rfl
  · rw [u2, if_neg (by omega), u2, if_neg (by omega), u2, if_neg (by omega), uE]; rfl
  · rw [u2, if_neg (by omega), u2, if_neg (by omega), uE]; rfl
  · rw [u2, if_neg (by omega), uE]; rfl
  · rw [uE]; rfl
end SYN
