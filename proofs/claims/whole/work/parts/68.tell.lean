/-! ===== the class: a Form is told ===== -/
section TEL
variable {n a g : Nat} {mi : IM} {ml : JM} {S : Nat → Bool}
theorem made_s (hf : isFo a) (hg : g < 8) (hn : 8 < n) (hI : FoI mi a g S) {mi1 : IM} (h1 : ∀ c, c ≠ a + 8 + 2 * g + 1 → mi1 c = mi c) (h2 : baC (svS mi1 (a + 8 + 2 * g)) = imS g S) :
    ∃ mi', f_Form_makeImage_50 n a (nI g) (a + 8 + 2 * g) (K mi1 ml) = some (K mi' ml) ∧ FoI mi' a (g + 1) S ∧ ∀ c, ¬ (a < c ∧ c < a + 24) → mi' c = mi c := by
  unfold f_Form_makeImage_50
  have hs := im_sh hf hg
  obtain ⟨m2, e2, f2, g2⟩ := base_s (mi := mi1) (ml := ml) hs hn
  rw [h2] at f2
  rw [e2, bnd_s, fo_2 hf, bnd_s]
  obtain ⟨v, e3, f3⟩ := lowestQuarter_s (mi := m2) (ml := ml) hs hn
  rw [e3, bnd_s, st_4 hf hg, bnd_s, fo_3 hf, bnd_s]
  rw [f2] at f3
  obtain ⟨rx, e4, f4⟩ := right_s (mi := upd2 m2 (a + 4) g v) (ml := ml) hs hn
  have q4 : svS (upd2 m2 (a + 4) g v) (a + 8 + 2 * g) = imS g S := by rw [← f2]; exact sv_of (upd2_ne (by omega))
  rw [q4] at f4
  rw [e4, bnd_s, st_5 hf hg, bnd_s, fo_4 hf, bnd_s]
  simp only [up_1]
  obtain ⟨ry, e5, f5⟩ := bottom_s (mi := upd2 (upd2 m2 (a + 4) g v) (a + 5) g (nI rx)) (ml := ml) hs hn
  have q5 : svS (upd2 (upd2 m2 (a + 4) g v) (a + 5) g (nI rx)) (a + 8 + 2 * g) = imS g S := by rw [← q4]; exact sv_of (upd2_ne (by omega))
  rw [q5] at f5
  rw [e5, bnd_s, st_6 hf hg, bnd_s, fo_5 hf, bnd_s, st_7 hf hg, bnd_s, nm_t]
  simp only [up_1]
  generalize hm : upd2 (upd2 (upd2 (upd2 m2 (a + 4) g v) (a + 5) g (nI rx)) (a + 6) g (nI ry)) (a + 7) g (nI g) = m9
  have n9 : ∀ c, c ≠ a + 4 → c ≠ a + 5 → c ≠ a + 6 → c ≠ a + 7 → m9 c = m2 c := fun c c1 c2 c3 c4 => by rw [← hm, upd2_ne c4, upd2_ne c3, upd2_ne c2, upd2_ne c1]
  have im9 : ∀ k, k < g + 1 → svS m9 (a + 8 + 2 * k) = imS k S := fun k hk => by
    rw [sv_of (mi := m2) (n9 _ (by omega) (by omega) (by omega) (by omega))]
    by_cases e : k = g
    · rw [e]; exact f2
    · rw [sv_of (mi := mi1) (g2 _ (by omega)), sv_of (mi := mi) (h1 _ (by omega))]
      exact (hI.2 k (by omega)).1
  obtain ⟨s', e6, p1, p2, p3⟩ := same_loop (ml := ml) (mi := m9) hf hg hn im9 n g g m9 (Nat.le_refl _) (by omega) (fun c _ => rfl) (by rw [← hm, u2, if_pos ⟨rfl, rfl⟩])
  have e7 : nI g - 1 = iZ ((g : Int) - 1) := by rw [iZ_nat, show (1 : Int32) = iZ 1 from rfl]; unfold iZ; rw [Int32.ofInt_sub]
  rw [e7, e6]
  have o4 : ∀ k, s' (a + 4) k = if k = g then v else mi (a + 4) k := fun k => by
    rw [p1 _ (by omega), ← hm, upd2_ne (by omega), upd2_ne (by omega), upd2_ne (by omega), u2, g2 _ (by omega), h1 _ (by omega)]
    simp
  have o5 : ∀ k, s' (a + 5) k = if k = g then nI rx else mi (a + 5) k := fun k => by
    rw [p1 _ (by omega), ← hm, upd2_ne (by omega), upd2_ne (by omega), u2, upd2_ne (by omega), g2 _ (by omega), h1 _ (by omega)]
    simp
  have o6 : ∀ k, s' (a + 6) k = if k = g then nI ry else mi (a + 6) k := fun k => by
    rw [p1 _ (by omega), ← hm, upd2_ne (by omega), u2, upd2_ne (by omega), upd2_ne (by omega), g2 _ (by omega), h1 _ (by omega)]
    simp
  have o7 : ∀ k, k ≠ g → s' (a + 7) k = mi (a + 7) k := fun k hk => by
    rw [p2 k hk, ← hm, u2, if_neg (fun e => hk e.2), upd2_ne (by omega), upd2_ne (by omega), upd2_ne (by omega), g2 _ (by omega), h1 _ (by omega)]
  refine ⟨s', rfl, ⟨?_, fun k hk => ?_⟩, fun c hc => ?_⟩
  · rw [sv_of (mi := m9) (p1 _ (by omega)), sv_of (mi := m2) (n9 _ (by omega) (by omega) (by omega) (by omega)), sv_of (mi := mi1) (g2 _ (by omega)), sv_of (mi := mi) (h1 _ (by omega))]
    exact hI.1
  · refine ⟨by rw [sv_of (mi := m9) (p1 _ (by omega))]; exact im9 k hk, ?_⟩
    rw [o4, o5, o6]
    by_cases e : k = g
    · subst e
      simp only [if_true]
      exact ⟨f3, ⟨rx, rfl, f4⟩, ⟨ry, rfl, f5⟩, p3⟩
    · simp only [e, if_false]
      rw [o7 k e]
      exact (hI.2 k (by omega)).2
  · rw [p1 _ (by omega), n9 _ (by omega) (by omega) (by omega) (by omega), g2 _ (by omega), h1 _ (by omega)]
end TEL
