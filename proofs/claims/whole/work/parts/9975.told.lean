/-! ===== the reference's parser: all things ===== -/
section ALL
variable {n z c t w br sd : Nat} {mi : IM} {ml : JM} {T : Nat → Nat} {N : List Nat} {s s' : SyS}
theorem tell_G (hz : z ≤ 2000) (hn : 500 < n) (hs : SL T z c mi ml) (hS : TS T z t sd s mi ml) (hk0 : kd T z t ≠ 0) : (∃ mi', f_Mo_tellThing n 559 (K mi ml) = some (K mi' ml) ∧ Dn T z mi' ∧ FT sd mi mi' ∧ mi' 559 23 = mi 559 23) ∨ ∃ t' s' mi' ml', t < t' ∧ f_Mo_tellThing n 559 (K mi ml) = some (K mi' ml') ∧ TS T z t' sd s' mi' ml' ∧ FT sd mi mi' ∧ (∀ a, a ≠ 570 → ml' a = ml a) := by
  have hA := hS.1.1
  have h0 := hS.1.2
  have h11 := hS.2.1.1.1
  have h13 := hS.2.1.1.2.1
  obtain ⟨⟨hsd, h20⟩, h68, h69⟩ := hS.2.2.2.1
  have hAn : Au (kd T z) t ≠ none := by rw [hA]; intro q; cases q
  have hb := Au_i hA
  unfold f_Mo_tellThing
  rw [o_559, show f_Mo_is n 559 21 (K mi ml) = _ from is_G (x := 11) hs hAn h11 h13 (by decide), bnd_s]
  by_cases d1 : kd T z t = 11
  · rw [decide_eq_true d1, if_neg (show ¬ b2i true = 0 by decide)]
    unfold f_Mo_tellThing_28
    rw [if_neg (show ¬ b2i true = 0 by decide), rf_559_22, bnd_s, g_559, bnd_s, h20, a_569 hsd, bnd_s, h69]
    by_cases d6 : s.2.2.2.2 = 6
    · left
      have hnx : nx s (kd T z t) = some (1, s.2.1, s.2.2.1, s.2.2.2.1, s.2.2.2.2 + 1) := by rw [d1]; simp [nx, h0]
      have hD := Dn_2 (mi := mi) hA hnx (by rw [rmO_i]; simp only []; omega) h11
      unfold f_Mo_tellThing_63
      rw [if_pos (show nI s.2.2.2.2 = 6 by rw [d6]; rfl), show f_Mo_fail n 559 2 (K mi ml) = _ from fail_G hs hAn h11 h13, bnd_s, tell68_D hD]
      exact ⟨_, rfl, hD, fl_FE.fe.ft, fl_FE _ _ (by omega)⟩
    · rw [if_neg (show ¬ nI s.2.2.2.2 = 6 by rw [ie1 (n := 6) (by omega) (by omega)]; exact d6)]
      exact tellG68 (o := true) hz hn hs hS d1 (by show s.2.2.2.2 < 6; omega)
  · rw [decide_eq_false d1, if_pos (show b2i false = 0 from rfl), show f_Mo_is n 559 20 (K mi ml) = _ from is_G (x := 10) hs hAn h11 h13 (by decide), bnd_s]
    by_cases d0 : kd T z t = 10
    · rw [decide_eq_true d0, if_neg (show ¬ b2i true = 0 by decide)]
      unfold f_Mo_tellThing_28
      rw [if_pos (show b2i false = 0 from rfl), rf_559_21, bnd_s, g_559, bnd_s, h20, a_568 hsd, bnd_s, h68]
      by_cases d8 : s.2.2.2.1 = 8
      · left
        have hnx : nx s (kd T z t) = some (1, s.2.1, s.2.2.1, s.2.2.2.1 + 1, s.2.2.2.2) := by rw [d0]; simp [nx, h0]
        have hD := Dn_2 (mi := mi) hA hnx (by rw [rmO_i]; simp only []; omega) h11
        unfold f_Mo_tellThing_63
        rw [if_pos (show nI s.2.2.2.1 = 8 by rw [d8]; rfl), show f_Mo_fail n 559 2 (K mi ml) = _ from fail_G hs hAn h11 h13, bnd_s, tell68_D hD]
        exact ⟨_, rfl, hD, fl_FE.fe.ft, fl_FE _ _ (by omega)⟩
      · rw [if_neg (show ¬ nI s.2.2.2.1 = 8 by rw [ie1 (n := 8) (by omega) (by omega)]; exact d8)]
        exact tellG68 (o := false) hz hn hs hS d0 (by show s.2.2.2.1 < 8; omega)
    · left
      have hno : nx s (kd T z t) = none := by
        cases e : nx s (kd T z t) with
        | none => rfl
        | some x => have := nx_c e; omega
      have hD := Dn_1 (mi := mi) hA (Or.inr hk0) hno h11
      rw [decide_eq_false d0, if_pos (show b2i false = 0 from rfl), show f_Mo_fail n 559 1 (K mi ml) = _ from fail_G hs hAn h11 h13, bnd_s, tell68_D hD]
      exact ⟨_, rfl, hD, fl_FE.fe.ft, fl_FE _ _ (by omega)⟩
theorem read105 {k9 : Nat → MM → Option (Int32 × MM)} (hz : z ≤ 2000) (hn : 500 < n) : ∀ m t s mi ml, SL T z c mi ml → TS T z t sd s mi ml → 402 - t < m → (∃ mi' ml', f_Mo_read_105 n k9 m 559 (K mi ml) = k9 559 (K mi' ml') ∧ Dn T z mi' ∧ FT sd mi mi' ∧ (∃ l, l ≤ 14 ∧ mi' 559 23 = nI l) ∧ (∀ a, a ≠ 570 → ml' a = ml a)) ∨ ∃ t' s' mi' ml', f_Mo_read_105 n k9 m 559 (K mi ml) = k9 559 (K mi' ml') ∧ TS T z t' sd s' mi' ml' ∧ kd T z t' = 0 ∧ SL T z c mi' ml' ∧ FT sd mi mi' ∧ (∀ a, a ≠ 570 → ml' a = ml a) := by
  intro m
  induction m with
  | zero => intro t s mi ml _ _ h; omega
  | succ m ih =>
    intro t s mi ml hs hS hm
    have hA := hS.1.1
    have h11 := hS.2.1.1.1
    have h13 := hS.2.1.1.2.1
    have hAn : Au (kd T z) t ≠ none := by rw [hA]; intro q; cases q
    have h4 := Au_4 hAn
    have hb := Au_i hA
    have hN := (Au_N hA).2.2
    rw [if_pos hS.1.2] at hN
    rw [f_Mo_read_105, g_559, bnd_s, h13, if_pos (show (0 : Int32) = 0 from rfl), show f_Mo_is n 559 0 (K mi ml) = _ from is_G (x := 0) hs hAn h11 h13 (by decide), bnd_s]
    by_cases d : kd T z t = 0
    · rw [decide_eq_true d, if_neg (show ¬ b2i true = 0 by decide)]
      exact Or.inr ⟨t, s, mi, ml, rfl, hS, d, hs, FT.rf, fun _ _ => rfl⟩
    · rw [decide_eq_false d, if_pos (show b2i false = 0 from rfl)]
      rcases tell_G hz hn hs hS d with ⟨m1, e1, e2, e3, e4⟩ | ⟨t1, s1, m1, l1, e1, e2, e3, e4, e5⟩
      · left
        obtain ⟨m', rfl⟩ : ∃ m', m = m' + 1 := ⟨m - 1, by omega⟩
        rw [e1, bnd_s, f_Mo_read_105, g_559, bnd_s, if_neg (Dn_ne e2).1]
        exact ⟨m1, ml, rfl, e2, e3, ⟨(cN (kd T z) t).length, by omega, by rw [e4]; exact hS.2.2.1.1⟩, fun _ _ => rfl⟩
      · rw [e2, bnd_s]
        have hs1 := SL_m e4 (e5 565 (by omega)) hs
        rcases ih t1 s1 m1 l1 hs1 e3 (by omega) with ⟨m2, l2, g1, g2, g3, g4, g5⟩ | ⟨t2, s2, m2, l2, g1, g2, g3, g4, g5, g6⟩
        · exact Or.inl ⟨m2, l2, g1, g2, e4.tr g3, g4, fun a q => by rw [g5 a q, e5 a q]⟩
        · exact Or.inr ⟨t2, s2, m2, l2, g1, g2, g3, g4, e4.tr g5, fun a q => by rw [g6 a q, e5 a q]⟩
end ALL
