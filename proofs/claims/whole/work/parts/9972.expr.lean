/-! ===== the reference's parser: an expression ===== -/
def PQ (T : Nat → Nat) (z t : Nat) (s : SyS) (mi : IM) : Prop := Au (kd T z) t = some s ∧ PX T z t t s.2.2.1 (XT T z t).1 (alC (XT T z t)) mi
theorem mK_26 : ∀ a, a < 62 → okK a = true → (a < 16 ∨ 19 < a) → mK a < 26 := by decide +kernel
theorem mK_22 : ∀ a, a < 62 → okK a = true → (a < 12 ∨ 15 < a) → mK a < 22 ∨ 25 < mK a := by decide +kernel
section EXP
variable {n z c t w br : Nat} {mi : IM} {ml : JM} {T : Nat → Nat} {W : List Wt} {C : List Cd} {N : List Nat} {s s' : SyS}
theorem PQ_l (h : PQ T z t s mi) : (XT T z t).1.length + (alC (XT T z t)).length ≤ t ∧ t ≤ 400 ∧ okW (XT T z t).1 ∧ c40 (XT T z t).1 = s.2.2.1 ∧ (s.1 = 7 → hdW (XT T z t).1) := by
  obtain ⟨h1, h2, h3, h4, _⟩ := Xm_i (v := vT T z) (u := uT T z) (p := tP T z) h.1
  exact ⟨h2, Au_4 (by rw [h.1]; intro q; cases q), h3, h1, h4⟩
theorem alC_o {x : XS} {cd : Cd} : cO x.1 (alC x ++ [cd]) = ((cO x.1 (x.2.1 ++ [cd])).1, x.2.2.flatten ++ (cO x.1 (x.2.1 ++ [cd])).2) := by
  unfold alC
  rw [List.append_assoc, cO_app]
/-- a unit, and what comes out behind it -/
theorem unit_A (hz : z ≤ 2000) (hn : 500 < n) (hs : SL T z c mi ml) (hP : PQ T z t s mi) (h3 : s.1 = 3) (hk : ¬ (12 ≤ kd T z t ∧ kd T z t ≤ 15) ∧ kd T z t ≠ 40) (hTN : TN T z (cN (kd T z) t) mi ml) : (∃ mi', f_Mo_unit n 559 (K mi ml) = some (K mi' ml) ∧ Dn T z mi' ∧ FE mi mi') ∨ ∃ t' s' m1 mi', t < t' ∧ s'.1 = 7 ∧ s'.2.2 = s.2.2 ∧ f_Mo_unit n 559 (K mi ml) = some (K m1 ml) ∧ m1 559 13 = 0 ∧ f_Mo_comesOut n 559 (K m1 ml) = some (K mi' ml) ∧ PQ T z t' s' mi' ∧ FE mi mi' := by
  have hA := hP.1
  have hl := PQ_l hP
  have hAn : Au (kd T z) t ≠ none := by rw [hA]; intro q; cases q
  have hc := tok_lt hs hAn
  have hc4 := hs.2.1
  have h11 := hP.2.1.1
  have h13 := hP.2.1.2.1
  have fin : ∀ t' s' m1 (cd : Cd), t < t' → Au (kd T z) t' = some s' → s'.1 = 7 → s'.2.2 = s.2.2 → XT T z t' = ((cO (XT T z t).1 ((XT T z t).2.1 ++ [cd])).1, (cO (XT T z t).1 ((XT T z t).2.1 ++ [cd])).2, (XT T z t).2.2) → f_Mo_unit n 559 (K mi ml) = some (K m1 ml) → PX T z t' t' s.2.2.1 (XT T z t).1 (alC (XT T z t) ++ [cd]) m1 → FE mi m1 → ∃ t' s' m1 mi', t < t' ∧ s'.1 = 7 ∧ s'.2.2 = s.2.2 ∧ f_Mo_unit n 559 (K mi ml) = some (K m1 ml) ∧ m1 559 13 = 0 ∧ f_Mo_comesOut n 559 (K m1 ml) = some (K mi' ml) ∧ PQ T z t' s' mi' ∧ FE mi mi' := fun t' s' m1 cd q1 q2 q3 q4 q5 q6 q7 q8 => by
    obtain ⟨m2, e1, e2, e3⟩ := comes_G (n := n) (ml := ml) (XT T z t).1 (alC (XT T z t) ++ [cd]) n m1 q7 hl.2.2.1 (by rw [List.length_append, List.length_singleton]; omega) (by omega)
    refine ⟨t', s', m1, m2, q1, q3, q4, q6, q7.1.2.1, ?_, ⟨q2, ?_⟩, q8.tr e3⟩
    · unfold f_Mo_comesOut
      rw [o_559]; exact e1
    · rw [alC_o] at e2
      rw [q4, q5]
      exact e2
  by_cases d2 : kd T z t = 2
  · rcases unitN_G (n := n) hz hn hs hP.2 hA h3 d2 hTN (by omega) with h | ⟨e1, m1, e2, e3, e4⟩
    · exact Or.inl h
    · refine Or.inr (fin (t + 1) (7, s.2) m1 _ (by omega) e1 rfl rfl ?_ e2 e3 e4)
      show Xm _ _ _ _ (t + 1) = _
      rw [Xm_s hA]
      simp [xs, h3, d2]
  by_cases d16 : 16 ≤ kd T z t ∧ kd T z t ≤ 19
  · rcases unitC_G (n := n) hz hs hP.2 hA h3 d16 (by omega) with h | ⟨t', lf, e0, e1, ex, m1, e2, e3, e4⟩
    · exact Or.inl h
    · exact Or.inr (fin t' (7, lf, s.2.2) m1 _ e0 e1 rfl rfl ex e2 e3 e4)
  left
  have hno : nx s (kd T z t) = none := by
    cases e : nx s (kd T z t) with
    | none => rfl
    | some x => have := nx_c e; omega
  have hD := Dn_1 (mi := mi) hA (Or.inl (by omega)) hno h11
  obtain ⟨m2, f1, f2, f3⟩ := unit114_D (n := n) (ml := ml) (x1 := nI (mK (kd T z t))) hD
  have hm := mK_26 _ (okK_lt (kd_ok (T := T) (z := z) (i := t))) kd_ok (by omega)
  refine ⟨m2, ?_, f2, fl_FE.fe.tr f3.fe⟩
  unfold f_Mo_unit f_Mo_unit_109
  rw [o_559, rf_559_5, bnd_s, g_559, bnd_s, h11, a_562 (by omega), bnd_s, bnd_s, show f_Mo_is n 559 1 (K mi ml) = _ from is_G (x := 2) hs hAn h11 h13 (by decide), bnd_s, decide_eq_false d2, if_pos (show b2i false = 0 from rfl), g_559, bnd_s, h13, if_pos (show (0 : Int32) = 0 from rfl), (hs.1.2 t hc.1).1, if_pos (by rw [it2 (n := 26) (by omega) (by omega)]; exact hm), show f_Mo_fail n 559 1 (K mi ml) = _ from fail_G hs hAn h11 h13, bnd_s]
  exact f1
theorem exp20_D {m : Nat} {x2 : Int32} {k7 : Nat → Int32 → MM → Option MM} {k283 : Nat → MM → Option MM} (h : Dn T z mi) : ∃ mi', f_Mo_expression_20 n (f_Mo_expression_183 n k7 k283) (m + 1) 559 x2 (K mi ml) = some (K mi' ml) ∧ Dn T z mi' ∧ FE mi mi' := by
  obtain ⟨m2, f1, f2, f3⟩ := unit_D (n := n) (ml := ml) h
  have e : f_Mo_expression_183 n k7 k283 559 (K mi ml) = some (K m2 ml) := by
    unfold f_Mo_expression_183
    rw [f1, bnd_s, g_559, bnd_s, if_neg (Dn_ne f2).2.1]
  refine ⟨m2, ?_, f2, f3.fe⟩
  rw [f_Mo_expression_20]
  by_cases c : x2 = 0
  · rw [if_pos c, e]
  · rw [if_neg c, g_559, bnd_s, if_neg (Dn_ne h).1, e]
theorem exp167_D {m l : Nat} {x2 x3 x4 x5 s0 : Int32} {k7 : Nat → Int32 → MM → Option MM} {k283 : Nat → MM → Option MM} (h : Dn T z mi) (h4 : mi 559 40 = nI l) (hl : l < 420) : ∃ mi', f_Mo_expression_167 n (f_Mo_expression_20 n (f_Mo_expression_183 n k7 k283) (m + 1)) 559 x2 x3 x4 x5 s0 (K mi ml) = some (K mi' ml) ∧ Dn T z mi' ∧ FE mi mi' := by
  obtain ⟨m1, e1, e2, e3⟩ := waits_D (n := n) (ml := ml) (x := x3) (a := x5) (b := s0) (pl := x4) h h4 hl
  obtain ⟨m2, f1, f2, f3⟩ := exp20_D (n := n) (ml := ml) (m := m) (x2 := x2) (k7 := k7) (k283 := k283) e2
  refine ⟨m2, ?_, f2, e3.tr f3⟩
  unfold f_Mo_expression_167 f_Mo_expression_180
  rw [e1, bnd_s, f1]
theorem exp151_D {m l : Nat} {x2 x3 x4 s0 : Int32} {k7 : Nat → Int32 → MM → Option MM} {k283 : Nat → MM → Option MM} (h : Dn T z mi) (h4 : mi 559 40 = nI l) (hl : l < 420) : ∃ mi', f_Mo_expression_151 n (f_Mo_expression_20 n (f_Mo_expression_183 n k7 k283) (m + 1)) 559 x2 x3 x4 s0 (K mi ml) = some (K mi' ml) ∧ Dn T z mi' ∧ FE mi mi' := by
  unfold f_Mo_expression_151
  by_cases c : x3 = 25
  · rw [if_pos c, signed_D h, bnd_s]; exact exp167_D h h4 hl
  · rw [if_neg c]; exact exp167_D h h4 hl
theorem exp102_D {m l : Nat} {x2 x4 : Int32} {k7 : Nat → Int32 → MM → Option MM} {k283 : Nat → MM → Option MM} (h : Dn T z mi) (h4 : mi 559 40 = nI l) (hl : l < 420) : ∃ mi', f_Mo_expression_102 n (f_Mo_expression_20 n (f_Mo_expression_183 n k7 k283) (m + 1)) 559 x2 x4 (K mi ml) = some (K mi' ml) ∧ Dn T z mi' ∧ FE mi mi' := by
  obtain ⟨t', x1, x3⟩ := (Dn_b h).2
  have hD : Dn T z (upd2 mi 559 12 (mi 559 12 + 1)) := Dn_c h (by rw [u2, if_neg (by omega)]) (by rw [u2, if_neg (by omega)]) ⟨t', x1, by rw [u2, if_neg (by omega)]; exact x3⟩
  obtain ⟨m1, e1, e2, e3⟩ := next_D (n := n) (ml := ml) hD
  obtain ⟨m2, f1, f2, f3⟩ := waits_D (n := n) (ml := ml) (x := 6) (a := 0) (b := 0) (pl := x4) e2 (show m1 559 40 = nI l by rw [e3 _ _ (by omega), u2, if_neg (by omega)]; exact h4) hl
  obtain ⟨m3, g1, g2, g3⟩ := exp20_D (n := n) (ml := ml) (m := m) (x2 := x2) (k7 := k7) (k283 := k283) f2
  refine ⟨m3, ?_, g2, (((FE.u (by omega)).tr e3.fe).tr f3).tr g3⟩
  unfold f_Mo_expression_102 f_Mo_expression_180
  rw [g_559, bnd_s, p_559, bnd_s, e1, bnd_s, f1, bnd_s, g1]
theorem PX_b {b : Nat} (h : PX T z t w br W C mi) : PX T z t w b W C (upd2 mi 559 12 (nI b)) := by
  obtain ⟨⟨h1, h2, h3⟩, ⟨h4, h5⟩, ⟨h6, h7⟩, h8⟩ := h
  exact ⟨⟨by rw [u2, if_neg (by omega)]; exact h1, by rw [u2, if_neg (by omega)]; exact h2, by rw [uE]⟩, ⟨by rw [u2, if_neg (by omega)]; exact h4, WM_c (fun a j q1 q2 _ => by rw [upd2_ne (by omega)]) h5⟩, ⟨by rw [u2, if_neg (by omega)]; exact h6, CM_c (fun a j q1 q2 _ => by rw [upd2_ne (by omega)]) h7⟩, WsM_c (by rw [u2, if_neg (by omega)]) (by rw [u2, if_neg (by omega)]) h8⟩
theorem XT_sg {t' : Nat} (h4 : s.1 = 4) (h : ∀ j, t ≤ j → j < t' → kd T z j = 45 ∧ Au (kd T z) j = some s) : ∀ d, t + d ≤ t' → XT T z (t + d) = XT T z t
  | 0, _ => rfl
  | d + 1, hd => by
    obtain ⟨e1, e2⟩ := h (t + d) (by omega) (by omega)
    show Xm _ _ _ _ (t + d + 1) = _
    rw [Xm_s e2, show xs (kd T z) (vT T z) (uT T z) (tP T z) (t + d) s.1 s.2.1 (Xm (kd T z) (vT T z) (uT T z) (tP T z) (t + d)) = Xm (kd T z) (vT T z) (uT T z) (tP T z) (t + d) by simp [xs, h4, e1]]
    exact XT_sg h4 h d (by omega)
theorem mf_0 (h2 : kd T z t ≠ 2) (h3 : kd T z t ≠ 3) : mf (kd T z) (vT T z) (uT T z) t = 0 := by unfold mf; rw [if_neg h2, if_neg h3]
/-- a step over a token that is neither a name nor a number -/
theorem PX_n (h2 : kd T z t ≠ 2) (h3 : kd T z t ≠ 3) (h : PX T z t t br W C mi) : PX T z (t + 1) (t + 1) br W C (upd2 mi 559 11 (nI (t + 1))) := PX_w (PX_t h) (fun _ _ _ => rfl) (WsM_0 (mf_0 h2 h3) (WsM_c (by rw [u2, if_neg (by omega)]) (by rw [u2, if_neg (by omega)]) h.2.2.2))
/-- words, brackets and the unit -/
theorem exp20 {k7 : Nat → Int32 → MM → Option MM} {k283 : Nat → MM → Option MM} (hz : z ≤ 2000) (hn : 500 < n) : ∀ m t s mi, SL T z c mi ml → PQ T z t s mi → s.1 = 3 → TN T z N mi ml → (∀ t' s', t ≤ t' → Au (kd T z) t' = some s' → s'.1 ≠ 0 → s'.2.2.2 = s.2.2.2 → cN (kd T z) t' = N) → 402 - t < m → (∃ mi', f_Mo_expression_20 n (f_Mo_expression_183 n k7 k283) m 559 1 (K mi ml) = some (K mi' ml) ∧ Dn T z mi' ∧ FE mi mi') ∨ ∃ t' s' mi', t < t' ∧ PQ T z t' s' mi' ∧ s'.1 = 7 ∧ s'.2.2.2 = s.2.2.2 ∧ FE mi mi' ∧ f_Mo_expression_20 n (f_Mo_expression_183 n k7 k283) m 559 1 (K mi ml) = f_Mo_expression_199 n (f_Mo_expression_246 n k7 k283) n 559 (K mi' ml) := by
  intro m
  induction m with
  | zero => intro t s mi _ _ _ _ _ h; omega
  | succ m ih =>
    intro t s mi hs hP h3 hTN hcN hm
    have hA := hP.1
    have hl := PQ_l hP
    have hAn : Au (kd T z) t ≠ none := by rw [hA]; intro q; cases q
    have hc := tok_lt hs hAn
    have hc4 := hs.2.1
    have hb := Au_i hA
    have h11 := hP.2.1.1
    have h13 := hP.2.1.2.1
    have hkl := okK_lt (kd_ok (T := T) (z := z) (i := t))
    have hmk := mK_lt _ hkl
    obtain ⟨m', rfl⟩ : ∃ m', m = m' + 1 := ⟨m - 1, by omega⟩
    -- go on behind a step
    have on : ∀ t1 s1 m1 (F : Option MM), t < t1 → PQ T z t1 s1 m1 → s1.1 = 3 → s1.2.2.2 = s.2.2.2 → FE mi m1 → F = f_Mo_expression_20 n (f_Mo_expression_183 n k7 k283) (m' + 1) 559 1 (K m1 ml) → (∃ mi', F = some (K mi' ml) ∧ Dn T z mi' ∧ FE mi mi') ∨ ∃ t' s' mi', t < t' ∧ PQ T z t' s' mi' ∧ s'.1 = 7 ∧ s'.2.2.2 = s.2.2.2 ∧ FE mi mi' ∧ F = f_Mo_expression_199 n (f_Mo_expression_246 n k7 k283) n 559 (K mi' ml) := fun t1 s1 m1 F q1 q2 q3 q4 q5 q6 => by
      subst q6
      rcases ih t1 s1 m1 (SL_c q5 hs) q2 q3 (TN_c hTN q5) (fun t' s' g1 g2 g3 g4 => hcN t' s' (by omega) g2 g3 (by rw [g4, q4])) (by omega) with ⟨m2, g1, g2, g3⟩ | ⟨t', s', m2, g1, g2, g3, g4, g5, g6⟩
      · exact Or.inl ⟨m2, g1, g2, q5.tr g3⟩
      · exact Or.inr ⟨t', s', m2, by omega, g2, g3, by rw [g4, q4], q5.tr g5, g6⟩
    rw [f_Mo_expression_20, if_neg (show ¬ (1 : Int32) = 0 by decide), g_559, bnd_s, h13, if_pos (show (0 : Int32) = 0 from rfl), rf_559_5, bnd_s, g_559, bnd_s, h11, a_562 (by omega), bnd_s, rf_559_6, bnd_s, bnd_s, a_563 (by omega), bnd_s, show f_Mo_is n 559 6 (K mi ml) = _ from is_G (x := 40) hs hAn h11 h13 (by decide), bnd_s, (hs.1.2 t hc.1).1, (hs.1.2 t hc.1).2.1]
    by_cases d40 : kd T z t = 40
    · rw [decide_eq_true d40, if_neg (show ¬ b2i true = 0 by decide)]
      unfold f_Mo_expression_73 f_Mo_expression_78
      rw [show f_Mo_is n 559 6 (K mi ml) = _ from is_G (x := 40) hs hAn h11 h13 (by decide), bnd_s, decide_eq_true d40, if_neg (show ¬ b2i true = 0 by decide), g_559, bnd_s, hP.2.1.2.2]
      have hnx : nx s (kd T z t) = some (3, s.2.1, s.2.2.1 + 1, s.2.2.2) := by rw [d40]; simp [nx, h3]
      by_cases d6 : s.2.2.1 = 6
      · left
        rw [if_pos (show nI s.2.2.1 = 6 by rw [d6]; rfl), show f_Mo_fail n 559 2 (K mi ml) = _ from fail_G hs hAn h11 h13, bnd_s]
        have hD := Dn_2 (mi := mi) hA hnx (by rw [rmO_i]; simp only []; omega) h11
        obtain ⟨m2, f1, f2, f3⟩ := exp102_D (n := n) (ml := ml) (m := m') (x2 := 1) (x4 := nI (tP T z t)) (k7 := k7) (k283 := k283) hD (show flM mi 2 (tP T z t) 559 40 = nI (XT T z t).1.length by rw [fl_FE _ _ (by omega)]; exact hP.2.2.1.1) (by omega)
        exact ⟨m2, f1, f2, fl_FE.fe.tr f3⟩
      · rw [if_neg (show ¬ nI s.2.2.1 = 6 by rw [ie1 (n := 6) (by omega) (by omega)]; exact d6)]
        unfold f_Mo_expression_102 f_Mo_expression_180
        rw [g_559, bnd_s, hP.2.1.2.2, nI_1, p_559, bnd_s]
        have hPb := PX_b (b := s.2.2.1 + 1) hP.2
        have hFb : FE mi (upd2 mi 559 12 (nI (s.2.2.1 + 1))) := FE.u (by omega)
        rcases next_G (n := n) (SL_c hFb hs) hA hPb.1.1 hPb.1.2.1 hnx ⟨by simp only []; omega, hb.2.2.2.2.1, hb.2.2.2.2.2.1⟩ with ⟨m1, e1, e2, e3⟩ | ⟨e0, e1, e2⟩
        · left
          obtain ⟨m2, f1, f2, f3⟩ := waits_D (n := n) (ml := ml) (x := 6) (a := 0) (b := 0) (pl := nI (tP T z t)) e2 (show m1 559 40 = nI (XT T z t).1.length by rw [e3 _ _ (by omega)]; exact hPb.2.1.1) (by omega)
          obtain ⟨m3, g1, g2, g3⟩ := exp20_D (n := n) (ml := ml) (m := m') (x2 := 1) (k7 := k7) (k283 := k283) f2
          rw [e1, bnd_s, f1, bnd_s, g1]
          exact ⟨m3, rfl, g2, ((hFb.tr e3.fe).tr f3).tr g3⟩
        · rw [e2, bnd_s]
          obtain ⟨m2, f1, f2, f3⟩ := waits_G (n := n) (ml := ml) (x := 40) (a := 0) (b := 0) (pl := tP T z t) (PX_n (by omega) (by omega) hPb) (by omega)
          rw [show f_Mo_waitsFor n 559 6 0 0 (nI (tP T z t)) (K (upd2 (upd2 mi 559 12 (nI (s.2.2.1 + 1))) 559 11 (nI (t + 1))) ml) = _ from f1, bnd_s]
          have hX : XT T z (t + 1) = ((40, 0, 0, tP T z t) :: (XT T z t).1, (XT T z t).2) := by
            show Xm _ _ _ _ (t + 1) = _
            rw [Xm_s hA]
            simp [xs, h3, d40]
          refine on (t + 1) (3, s.2.1, s.2.2.1 + 1, s.2.2.2) m2 _ (by omega) ⟨e1, ?_⟩ rfl rfl ((hFb.tr (FE.u (by omega))).tr f3) rfl
          rw [hX]
          exact f2
    · rw [decide_eq_false d40, if_pos (show b2i false = 0 from rfl)]
      by_cases dw : 12 ≤ kd T z t ∧ kd T z t ≤ 15
      · have hmw : mK (kd T z t) = kd T z t + 10 := by unfold mK; rw [if_neg (by omega), if_neg (by omega), if_neg (by omega), if_neg (by omega), if_pos (by omega)]
        rw [if_neg (by rw [it2 (n := 22) (by omega) (by omega)]; omega), if_neg (by rw [it1 (n := 25) (by omega) (by omega)]; omega)]
        unfold f_Mo_expression_73 f_Mo_expression_78
        rw [show f_Mo_is n 559 6 (K mi ml) = _ from is_G (x := 40) hs hAn h11 h13 (by decide), bnd_s, decide_eq_false d40, if_pos (show b2i false = 0 from rfl), if_neg (show ¬ (1 : Int32) = 0 by decide)]
        by_cases d15 : kd T z t = 15
        · have hnx : nx s (kd T z t) = some (4, 2, s.2.2) := by rw [d15]; simp [nx, h3]
          have h25 : nI (mK (kd T z t)) = 25 := by rw [d15]; rfl
          rw [h25]
          rcases next_G (n := n) hs hA h11 h13 hnx ⟨hb.2.2.2.1, hb.2.2.2.2.1, hb.2.2.2.2.2.1⟩ with ⟨m1, e1, e2, e3⟩ | ⟨e0, e1, e2⟩
          · left
            obtain ⟨m2, f1, f2, f3⟩ := exp151_D (n := n) (ml := ml) (m := m') (x2 := 1) (x3 := 25) (x4 := nI (tP T z t)) (s0 := 1 * 0) (k7 := k7) (k283 := k283) e2 (show m1 559 40 = nI (XT T z t).1.length by rw [e3 _ _ (by omega)]; exact hP.2.2.1.1) (by omega)
            rw [e1, bnd_s, if_pos (show (25 : Int32) = 25 from rfl), signed_D e2, bnd_s, f1]
            exact ⟨m2, rfl, f2, e3.fe.tr f3⟩
          rw [e2, bnd_s, if_pos (show (25 : Int32) = 25 from rfl)]
          have hP1 := PX_n (by omega) (by omega) hP.2
          have hF1 : FE mi (upd2 mi 559 11 (nI (t + 1))) := FE.u (by omega)
          have h401 : upd2 mi 559 11 (nI (t + 1)) 559 40 = nI (XT T z t).1.length := hP1.2.1.1
          generalize upd2 mi 559 11 (nI (t + 1)) = m1 at hP1 hF1 h401
          have w1 : (mW (kd T z) (vT T z) (t + 1)).2.1 = 0 := by rw [mW, if_pos (by omega)]
          have X1 : XT T z (t + 1) = XT T z t := by
            show Xm _ _ _ _ (t + 1) = _
            rw [Xm_s hA]
            simp [xs, h3, d15]
          rcases signed_G (n := n) hz (SL_c hF1 hs) hP1 e1 rfl (by rw [show t + 1 - 1 = t by omega]; omega) (by omega) (by omega) with ⟨m2, x, f1, f2, f3⟩ | ⟨t1, a1, a2, a3, a4, a5, a6, a7, m2, f1, hP2, f3⟩
          · left
            obtain ⟨m3, g1, g2, g3⟩ := exp151_D (n := n) (ml := ml) (m := m') (x2 := 1) (x3 := 25) (x4 := nI (tP T z t)) (s0 := x) (k7 := k7) (k283 := k283) f2 (show m2 559 40 = nI (XT T z t).1.length by rw [f3 _ _ (by omega)]; exact h401) (by omega)
            rw [f1, bnd_s, g1]
            exact ⟨m3, rfl, g2, (hF1.tr f3.fe).tr g3⟩
          rw [f1, bnd_s]
          have hF2 := hF1.tr f3.fe
          have a3 : Au (kd T z) t1 = some (4, 1, s.2.2) := by simpa using a3
          have X2 : XT T z t1 = XT T z t := by
            have := XT_sg (T := T) (z := z) (s := (4, 2, s.2.2)) (t := t + 1) (t' := t1 - 1) rfl a7 (t1 - 1 - (t + 1)) (by omega)
            rw [show t + 1 + (t1 - 1 - (t + 1)) = t1 - 1 by omega, X1] at this
            rw [show t1 = t1 - 1 + 1 by omega]
            show Xm _ _ _ _ (t1 - 1 + 1) = _
            rcases a6 with a6 | a6
            · rw [Xm_s a6, ← this]; simp [xs]
            · rw [Xm_s a6, ← this]; simp [xs]
          unfold f_Mo_expression_151
          rw [if_pos (show (25 : Int32) = 25 from rfl)]
          rcases signed_G (n := n) hz (SL_c hF2 hs) hP2 a3 rfl (by omega) (by omega) (by omega) with ⟨m3, x, f1, f2, f3⟩ | ⟨t2, b1, b2, b3, b4, b5, b6, b7, m3, f1, hP3, f3'⟩
          · left
            obtain ⟨m4, g1, g2, g3⟩ := exp167_D (n := n) (ml := ml) (m := m') (x2 := 1) (x3 := 25) (x4 := nI (tP T z t)) (x5 := iZ (sgV (kd T z) (vT T z) (t1 - 1))) (s0 := x) (k7 := k7) (k283 := k283) f2 (show m3 559 40 = nI (XT T z t).1.length by rw [f3 _ _ (by omega)]; exact hP2.2.1.1) (by omega)
            rw [f1, bnd_s, g1]
            exact ⟨m4, rfl, g2, (hF2.tr f3.fe).tr g3⟩
          rw [f1, bnd_s]
          unfold f_Mo_expression_167 f_Mo_expression_180
          have b3 : Au (kd T z) t2 = some (3, 0, s.2.2) := by simpa using b3
          obtain ⟨m4, g1, g2, g3⟩ := waits_G (n := n) (ml := ml) (x := 15) (a := sgV (kd T z) (vT T z) (t1 - 1)) (b := sgV (kd T z) (vT T z) (t2 - 1)) (pl := tP T z t) hP3 (by omega)
          rw [show f_Mo_waitsFor n 559 25 (iZ (sgV (kd T z) (vT T z) (t1 - 1))) (iZ (sgV (kd T z) (vT T z) (t2 - 1))) (nI (tP T z t)) (K m3 ml) = _ from g1, bnd_s]
          have hX : XT T z t2 = ((15, sgV (kd T z) (vT T z) (t1 - 1), sgV (kd T z) (vT T z) (t2 - 1), tP T z t) :: (XT T z t).1, (XT T z t).2) := by
            have := XT_sg (T := T) (z := z) (s := (4, 1, s.2.2)) (t := t1) (t' := t2 - 1) rfl b7 (t2 - 1 - t1) (by omega)
            rw [show t1 + (t2 - 1 - t1) = t2 - 1 by omega, X2] at this
            have e : t2 = t2 - 1 + 1 := by omega
            have r : XT T z (t2 - 1 + 1) = ((15, sgV (kd T z) (vT T z) (t1 - 1), sgV (kd T z) (vT T z) (t2 - 1), tP T z t) :: (XT T z t).1, (XT T z t).2) := by
              show Xm _ _ _ _ (t2 - 1 + 1) = _
              have a4 : pbk (kd T z) (t1 - 1) = t := by rw [a4]; omega
              rcases b6 with b6 | b6
              · rw [Xm_s b6, ← this]; simp [xs, b2, b4, a4]
              · rw [Xm_s b6, ← this]; simp [xs, b2, b4, a4]
            rw [← e] at r
            exact r
          refine on t2 (3, 0, s.2.2) m4 _ (by omega) ⟨b3, ?_⟩ rfl rfl ((hF2.tr f3'.fe).tr g3) rfl
          rw [hX]
          exact g2
        · have hnx : nx s (kd T z t) = some (3, s.2) := by
            obtain d | d | d : kd T z t = 12 ∨ kd T z t = 13 ∨ kd T z t = 14 := by omega
            · simp [nx, h3, d]
            · simp [nx, h3, d]
            · simp [nx, h3, d]
          have h25 : ¬ nI (mK (kd T z t)) = 25 := by rw [ie1 (n := 25) (by omega) (by omega)]; omega
          unfold f_Mo_expression_151
          simp only [if_neg h25]
          rcases next_G (n := n) hs hA h11 h13 hnx ⟨hb.2.2.2.1, hb.2.2.2.2.1, hb.2.2.2.2.2.1⟩ with ⟨m1, e1, e2, e3⟩ | ⟨e0, e1, e2⟩
          · left
            obtain ⟨m2, f1, f2, f3⟩ := exp167_D (n := n) (ml := ml) (m := m') (x2 := 1) (x3 := nI (mK (kd T z t))) (x4 := nI (tP T z t)) (x5 := 0) (s0 := 0) (k7 := k7) (k283 := k283) e2 (show m1 559 40 = nI (XT T z t).1.length by rw [e3 _ _ (by omega)]; exact hP.2.2.1.1) (by omega)
            rw [e1, bnd_s, f1]
            exact ⟨m2, rfl, f2, e3.fe.tr f3⟩
          rw [e2, bnd_s]
          unfold f_Mo_expression_167 f_Mo_expression_180
          obtain ⟨m2, f1, f2, f3⟩ := waits_G (n := n) (ml := ml) (x := kd T z t) (a := 0) (b := 0) (pl := tP T z t) (PX_n (by omega) (by omega) hP.2) (by omega)
          rw [show f_Mo_waitsFor n 559 (nI (mK (kd T z t))) 0 0 (nI (tP T z t)) (K (upd2 mi 559 11 (nI (t + 1))) ml) = _ from f1, bnd_s]
          have hX : XT T z (t + 1) = ((kd T z t, 0, 0, tP T z t) :: (XT T z t).1, (XT T z t).2) := by
            show Xm _ _ _ _ (t + 1) = _
            rw [Xm_s hA]
            unfold xs
            rw [if_pos h3, if_pos (by omega)]
          refine on (t + 1) (3, s.2) m2 _ (by omega) ⟨e1, ?_⟩ rfl rfl ((FE.u (by omega)).tr f3) rfl
          rw [hX]
          exact f2
      · have hw := mK_22 _ hkl kd_ok (by omega)
        have h77 : ∀ F : Option MM, (if nI (mK (kd T z t)) < 22 then F else if 25 < nI (mK (kd T z t)) then F else f_Mo_expression_73 n (f_Mo_expression_20 n (f_Mo_expression_183 n k7 k283) (m' + 1)) 559 (nI (mK (kd T z t))) (nI (tP T z t)) (K mi ml)) = F := fun F => by
          by_cases q : mK (kd T z t) < 22
          · rw [if_pos (by rw [it2 (n := 22) (by omega) (by omega)]; exact q)]
          · rw [if_neg (by rw [it2 (n := 22) (by omega) (by omega)]; exact q), if_pos (by rw [it1 (n := 25) (by omega) (by omega)]; omega)]
        rw [h77]
        unfold f_Mo_expression_77 f_Mo_expression_78 f_Mo_expression_180
        rw [show f_Mo_is n 559 6 (K mi ml) = _ from is_G (x := 40) hs hAn h11 h13 (by decide), bnd_s, decide_eq_false d40, if_pos (show b2i false = 0 from rfl), if_pos (show (0 : Int32) = 0 from rfl), f_Mo_expression_20, if_pos (show (0 : Int32) = 0 from rfl)]
        unfold f_Mo_expression_183
        have hN := hcN t s (Nat.le_refl _) hA (by omega) rfl
        rcases unit_A hz hn hs hP h3 ⟨dw, d40⟩ (by rw [hN]; exact hTN) with ⟨m1, e1, e2, e3⟩ | ⟨t', s', m1, m2, e1, e2, e3, e4, e5, e6, e7, e8⟩
        · left
          rw [e1, bnd_s, g_559, bnd_s, if_neg (Dn_ne e2).2.1]
          exact ⟨m1, rfl, e2, e3⟩
        · right
          refine ⟨t', s', m2, e1, e7, e2, by rw [e3], e8, ?_⟩
          rw [e4, bnd_s, g_559, bnd_s, e5, if_pos (show (0 : Int32) ≤ 0 by decide), e6, bnd_s]
end EXP
