/-! ===== the class: IMAGES counted, sought; a LAY that stays on ===== -/
section CNT
variable {n a b g : Nat} {mi : IM} {ml : JM} {S : Nat → Bool}
theorem lsG_lt {g : Nat} (hg : g < 8) : lsG S g < 2 ^ 31 := by
  unfold lsG
  cases e : fnd (fun k => smS (imS g S) (imS k S)) g 0 with
  | none => show g < _; omega
  | some k => have := (fnd_some e).2.1; show k < _; omega
theorem countDifferent_s (hf : isFo a) (hI : FoI mi a 8 S) (hn : 8 < n) : f_Form_countDifferent n a (K mi ml) = some (nI (ct (fun g => lsG S g == g) 8), K mi ml) := by
  unfold f_Form_countDifferent
  rw [og_K hf.1]
  have L : ∀ m i, i ≤ 8 → 8 - i < m → f_Form_countDifferent_4 n m a (nI (ct (fun g => lsG S g == g) i)) (nI i) (K mi ml) = some (nI (ct (fun g => lsG S g == g) 8), K mi ml) := by
    intro m
    induction m with
    | zero => intro i h1 h2; omega
    | succ m ih =>
      intro i h1 h2
      rw [f_Form_countDifferent_4]
      by_cases q : i = 8
      · subst q; rw [if_pos (by decide)]
      · rw [if_neg (by rw [il1 (n := 8) (by omega) (by omega)]; omega), fo_5 hf, bnd_s, ld_7 hf (by omega), bnd_s, (hI.2 i (by omega)).2.2.2.2, ← ih (i + 1) (by omega) (by omega)]
        unfold f_Form_countDifferent_26
        by_cases c : lsG S i = i
        · rw [if_pos (by rw [c]), nm_t, nI_1, nI_1]
          simp only [ct, c, beq_self_eq_true, if_true]
        · rw [if_neg (by rw [nI_eq (lsG_lt (by omega)) (by omega)]; exact c), nm_t, nI_1]
          have : (lsG S i == i) = false := by simpa using c
          simp only [ct, this, Bool.false_eq_true, if_false, Nat.add_zero, Int32.add_zero]
  exact L n 0 (by omega) (by omega)
theorem imageThatIs_s (hf : isFo a) (hI : FoI mi a 8 S) (hb : isSh b) (hn : 8 < n) : f_Form_imageThatIs n a b (K mi ml) = some (oI (fnd (fun g => smS (imS g S) (svS mi b)) 8 0) (-2), K mi ml) := by
  unfold f_Form_imageThatIs
  rw [og_K hf.1]
  have L : ∀ m i, i ≤ 8 → 8 - i < m → f_Form_imageThatIs_2 n m a b (nI i) (K mi ml) = some (oI (fnd (fun g => smS (imS g S) (svS mi b)) (8 - i) i) (-2), K mi ml) := by
    intro m
    induction m with
    | zero => intro i h1 h2; omega
    | succ m ih =>
      intro i h1 h2
      rw [f_Form_imageThatIs_2]
      by_cases q : i = 8
      · subst q; rw [if_pos (by decide)]; rfl
      · rw [if_neg (by rw [il1 (n := 8) (by omega) (by omega)]; omega), fo_1 hf, bnd_s, im_ref hf (by omega), bnd_s, isSame_s (im_sh hf (by omega)) hb hn, bnd_s, (hI.2 i (by omega)).1, show 8 - i = (8 - (i + 1)) + 1 by omega]
        unfold fnd
        cases c : smS (imS i S) (svS mi b) with
        | true =>
          rw [if_neg (show ¬ b2i true = 0 by decide), if_pos rfl]
          rfl
        | false =>
          rw [if_pos (show b2i false = 0 by decide), if_neg (by decide), nI_1]
          exact ih (i + 1) (by omega) (by omega)
  exact L n 0 (by omega) (by omega)
end CNT
