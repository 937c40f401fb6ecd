/-! ===== the class: a Form is told, its IMAGES counted and sought ===== -/
section TLD
variable {n a b g : Nat} {mi : IM} {ml : JM} {S : Nat → Bool}
theorem makeImage_s (hf : isFo a) (hg : g < 8) (hn : 8 < n) (hI : FoI mi a g S) : ∃ mi', f_Form_makeImage n a (nI g) (K mi ml) = some (K mi' ml) ∧ FoI mi' a (g + 1) S ∧ ∀ c, ¬ (a < c ∧ c < a + 24) → mi' c = mi c := by
  unfold f_Form_makeImage
  rw [og_K hf.1, fo_1 hf, bnd_s, im_ref hf hg, bnd_s]
  have hs := im_sh hf hg
  have ht := told_sh hf
  by_cases g0 : g = 0
  · subst g0
    rw [if_pos (show nI 0 = 0 from rfl), fo_0 hf, bnd_s, copy_s hs ht (by omega) hn, bnd_s]
    refine made_s hf hg hn hI (fun c hc => setRw_ne hc) ?_
    rw [sv_set, show rS (mi (a + 1 + 1)) = S from hI.1]
    rfl
  · rw [if_neg (by rw [ie1 (n := 0) (by omega) (by omega)]; exact g0)]
    by_cases g4 : g = 4
    · subst g4
      obtain ⟨m1, e1, f1, h1⟩ := flipped_s (mi := mi) (ml := ml) hs ht (by omega) hn
      rw [if_pos (show nI 4 = 4 from rfl), fo_0 hf, bnd_s, e1, bnd_s]
      refine made_s hf hg hn hI h1 ?_
      rw [f1, hI.1]
      rfl
    · obtain ⟨k, hk⟩ : ∃ k, g = k + 1 := ⟨g - 1, by omega⟩
      subst hk
      obtain ⟨m1, e1, f1, h1⟩ := turned_s (mi := mi) (ml := ml) hs (im_sh hf (show k < 8 by omega)) (by omega) hn
      rw [if_neg (by rw [ie1 (n := 4) (by omega) (by omega)]; exact g4), bnd_s, show nI (k + 1) - 1 = nI k by rw [is1 (n := 1) (by omega)]; rfl, im_ref hf (by omega), bnd_s, e1, bnd_s]
      refine made_s hf hg hn hI h1 ?_
      rw [f1, (hI.2 k (by omega)).1, im_next (by omega)]
theorem tell_loop (hf : isFo a) (hn : 8 < n) : ∀ m g (mi : IM), g ≤ 8 → 8 - g < m → FoI mi a g S → ∃ mi', f_Form_tell_18 n m a (nI g) (K mi ml) = some (K mi' ml) ∧ FoI mi' a 8 S ∧ ∀ c, ¬ (a < c ∧ c < a + 24) → mi' c = mi c := by
  intro m
  induction m with
  | zero => intro g mi h1 h2; omega
  | succ m ih =>
    intro g mi h1 h2 hI
    rw [f_Form_tell_18]
    by_cases q : g = 8
    · subst q
      rw [if_pos (by decide)]
      exact ⟨mi, rfl, hI, fun c _ => rfl⟩
    · rw [if_neg (by rw [il1 (n := 8) (by omega) (by omega)]; omega)]
      obtain ⟨m1, e1, f1, h1'⟩ := makeImage_s (ml := ml) hf (show g < 8 by omega) hn hI
      rw [e1, bnd_s, nI_1]
      obtain ⟨m2, e2, f2, h2'⟩ := ih (g + 1) m1 (by omega) (by omega) f1
      exact ⟨m2, e2, f2, fun c hc => by rw [h2' c hc, h1' c hc]⟩
theorem tell_s (hf : isFo a) (hb : isSh b) (hab : b < a ∨ a + 24 ≤ b) (hn : 8 < n) : ∃ mi', f_Form_tell n a b (K mi ml) = some (K mi' ml) ∧ FoI mi' a 8 (svS mi b) ∧ mi' a 6 = nI (ct (svS mi b) 256) ∧ (∀ j, j ≠ 6 → mi' a j = mi a j) ∧ ∀ c, ¬ (a ≤ c ∧ c < a + 24) → mi' c = mi c := by
  unfold f_Form_tell
  rw [og_K hf.1, fo_0 hf, bnd_s, copy_s (told_sh hf) hb (by omega) hn, bnd_s, countQuarters_s hb hn, bnd_s, pI_K hf.1, bnd_s]
  have e0 : svS (setRw mi (a + 1) (mi (b + 1))) b = svS mi b := sv_of (setRw_ne (by omega))
  rw [e0]
  obtain ⟨m1, e1, f1, h1⟩ := tell_loop (a := a) (n := n) (ml := ml) (S := svS mi b) hf hn n 0 (upd2 (setRw mi (a + 1) (mi (b + 1))) a 6 (nI (ct (svS mi b) 256))) (by omega) (by omega) ⟨by rw [sv_of (mi := setRw mi (a + 1) (mi (b + 1))) (upd2_ne (by omega)), sv_set]; rfl, fun k hk => by omega⟩
  refine ⟨m1, e1, f1, ?_, fun j hj => ?_, fun c hc => ?_⟩
  · rw [h1 a (by omega), u2, if_pos ⟨rfl, rfl⟩]
  · rw [h1 a (by omega), u2, if_neg (fun q => hj q.2), setRw_ne (by omega)]
  · rw [h1 c (by omega), upd2_ne (by omega), setRw_ne (by omega)]
end TLD
