/-! ===== the reference's parser: the whole of an expression ===== -/
section EXQ
variable {n z c t w br : Nat} {mi : IM} {ml : JM} {T : Nat → Nat} {W : List Wt} {C : List Cd} {N : List Nat} {s s' : SyS}
theorem comes_D : ∀ (l q m : Nat) (mi : IM), Dn T z mi → mi 559 40 = nI l → mi 559 29 = nI q → l + q ≤ 419 → l < m → ∃ mi', f_Mo_comesOut_0 n m 559 (K mi ml) = some (K mi' ml) ∧ Dn T z mi' ∧ FE mi mi' := by
  intro l
  induction l with
  | zero =>
    intro q m mi hD h4 h6 hl hm
    obtain ⟨m', rfl⟩ : ∃ m', m = m' + 1 := ⟨m - 1, by omega⟩
    rw [f_Mo_comesOut_0, g_559, bnd_s, h4, if_pos (show nI 0 ≤ 0 by decide)]
    exact ⟨mi, rfl, hD, FE.rf⟩
  | succ l ih =>
    intro q m mi hD h4 h6 hl hm
    obtain ⟨m', rfl⟩ : ∃ m', m = m' + 1 := ⟨m - 1, by omega⟩
    rw [f_Mo_comesOut_0, g_559, bnd_s, h4, if_neg (show ¬ nI (l + 1) ≤ 0 by rw [show (0 : Int32) = nI 0 from rfl, nI_leI (by omega) (by omega)]; omega), rf_559_36, bnd_s, bnd_s, is1 (n := 1) (by omega), show l + 1 - 1 = l by omega, a_581 (by omega), bnd_s]
    by_cases d : mi 581 l = 6
    · rw [if_pos d]; exact ⟨mi, rfl, hD, FE.rf⟩
    · obtain ⟨t', x1, x2⟩ := (Dn_b hD).2
      have f : ∀ a j, ¬ (a = 559 ∧ j = 40) → upd2 mi 559 40 (nI l) a j = mi a j := fun a j q => by rw [u2, if_neg q]
      have hD2 : Dn T z (upd2 mi 559 40 (nI l)) := Dn_c hD (f _ _ (by omega)) (f _ _ (by omega)) ⟨t', x1, by rw [f _ _ (by omega)]; exact x2⟩
      have h40 : upd2 mi 559 40 (nI l) 559 40 = nI l := uE
      have h29 : upd2 mi 559 40 (nI l) 559 29 = nI q := by rw [f _ _ (by omega)]; exact h6
      have hF : FE mi (upd2 mi 559 40 (nI l)) := FE.u (by omega)
      rw [if_neg d, bnd_s, is1 (n := 1) (by omega), show l + 1 - 1 = l by omega, p_559, bnd_s, rf_559_36, bnd_s, g_559, bnd_s, h40, a_581 (by omega), bnd_s]
      generalize upd2 mi 559 40 (nI l) = m1 at hD2 h40 h29 hF
      have fin : ∀ x a b d e pl : Int32, ∃ mi', ((f_Mo_emit n 559 x a b d e pl (K m1 ml)).bind fun M1 => f_Mo_comesOut_0 n m' 559 M1) = some (K mi' ml) ∧ Dn T z mi' ∧ FE mi mi' := fun x a b d e pl => by
        obtain ⟨m2, e1, e2, e3, e4, e5⟩ := emit_D (n := n) (ml := ml) (x := x) (a := a) (b := b) (d := d) (e := e) (pl := pl) hD2 h29 (by omega)
        obtain ⟨m3, g1, g2, g3⟩ := ih (q + 1) m' m2 e2 (by rw [e4]; exact h40) e5 (by omega) (by omega)
        rw [e1, bnd_s]
        exact ⟨m3, g1, g2, (hF.tr e3).tr g3⟩
      unfold f_Mo_comesOut_116 f_Mo_comesOut_124
      by_cases d1 : m1 581 l < 22
      · rw [if_pos d1]
        by_cases d2 : m1 581 l = 8
        · rw [if_pos d2]; exact fin _ _ _ _ _ _
        · rw [if_neg d2]
          by_cases d3 : m1 581 l = 9
          · rw [if_pos d3]; exact fin _ _ _ _ _ _
          · rw [if_neg d3]; exact fin _ _ _ _ _ _
      · rw [if_neg d1, rf_559_37, bnd_s, bnd_s, a_582 (by omega), bnd_s, rf_559_38, bnd_s, bnd_s, a_583 (by omega), bnd_s, rf_559_39, bnd_s, bnd_s, a_584 (by omega), bnd_s]
        exact fin _ _ _ _ _ _
theorem exp246_D {k7 : Nat → Int32 → MM → Option MM} (h : Dn T z mi) : f_Mo_expression_246 n k7 (f_Mo_expression_283 n) 559 (K mi ml) = some (K mi ml) := by
  unfold f_Mo_expression_246 f_Mo_expression_278 f_Mo_expression_283
  rw [is_D h, bnd_s, if_pos (show (0 : Int32) = 0 from rfl), is_D h, bnd_s, if_pos (show (0 : Int32) = 0 from rfl), is_D h, bnd_s, if_pos (show (0 : Int32) = 0 from rfl), if_pos (show (0 : Int32) = 0 from rfl), g_559, bnd_s, fail_D h, bnd_s]
  by_cases c : mi 559 40 ≤ 0
  · rw [if_pos c]
  · rw [if_neg c]
theorem PX_p {x : Wt} (h : PX T z t w br (x :: W) C mi) : PX T z t w br W C (upd2 mi 559 40 (nI W.length)) := by
  obtain ⟨⟨h1, h2, h3⟩, ⟨h4, h5, h5'⟩, ⟨h6, h7⟩, h8⟩ := h
  have f : ∀ a j, ¬ (a = 559 ∧ j = 40) → upd2 mi 559 40 (nI W.length) a j = mi a j := fun a j q => by rw [u2, if_neg q]
  exact ⟨⟨by rw [f _ _ (by omega)]; exact h1, by rw [f _ _ (by omega)]; exact h2, by rw [f _ _ (by omega)]; exact h3⟩, ⟨by rw [uE], WM_c (fun a j q1 q2 _ => f _ _ (by omega)) h5'⟩, ⟨by rw [f _ _ (by omega)]; exact h6, CM_c (fun a j q1 q2 _ => f _ _ (by omega)) h7⟩, WsM_c (f _ _ (by omega)) (f _ _ (by omega)) h8⟩
theorem exp199 {k7 : Nat → Int32 → MM → Option MM} (hz : z ≤ 2000) (hn : 500 < n) : ∀ m t s mi, SL T z c mi ml → PQ T z t s mi → s.1 = 7 → 402 - t < m → (∃ mi', f_Mo_expression_199 n (f_Mo_expression_246 n k7 (f_Mo_expression_283 n)) m 559 (K mi ml) = some (K mi' ml) ∧ Dn T z mi' ∧ FE mi mi') ∨ ∃ t' s' mi', t ≤ t' ∧ PQ T z t' s' mi' ∧ s'.1 = 7 ∧ s'.2.2.2 = s.2.2.2 ∧ ¬ (kd T z t' = 41 ∧ 0 < s'.2.2.1) ∧ FE mi mi' ∧ f_Mo_expression_199 n (f_Mo_expression_246 n k7 (f_Mo_expression_283 n)) m 559 (K mi ml) = f_Mo_expression_246 n k7 (f_Mo_expression_283 n) 559 (K mi' ml) := by
  intro m
  induction m with
  | zero => intro t s mi _ _ _ h; omega
  | succ m ih =>
    intro t s mi hs hP h7 hm
    have hA := hP.1
    have hl := PQ_l hP
    have hAn : Au (kd T z) t ≠ none := by rw [hA]; intro q; cases q
    have hc := tok_lt hs hAn
    have hb := Au_i hA
    have h11 := hP.2.1.1
    have h13 := hP.2.1.2.1
    rw [f_Mo_expression_199, show f_Mo_is n 559 7 (K mi ml) = _ from is_G (x := 41) hs hAn h11 h13 (by decide), bnd_s]
    by_cases d : kd T z t = 41
    · rw [decide_eq_true d, if_neg (show ¬ b2i true = 0 by decide), g_559, bnd_s, hP.2.2.1.1]
      rcases hl.2.2.2.2 h7 with hW | ⟨x, W', hW, h40⟩
      · rw [if_pos (show nI (XT T z t).1.length ≤ 0 by rw [hW]; decide)]
        refine Or.inr ⟨t, s, mi, Nat.le_refl _, hP, h7, rfl, ?_, FE.rf, rfl⟩
        have := hl.2.2.2.1
        rw [hW] at this
        have : 0 = s.2.2.1 := this
        omega
      · have hbr : s.2.2.1 = c40 W' + 1 := by
          have := hl.2.2.2.1
          rw [hW, c40, if_pos h40] at this
          omega
        have hPX := hP.2
        rw [hW] at hPX
        have hlen : (XT T z t).1.length = W'.length + 1 := by rw [hW]; rfl
        rw [hlen] at hl
        have hok : okW W' := fun y hy => hl.2.2.1 y (by rw [hW]; exact List.mem_cons_of_mem _ hy)
        have hnx : nx s (kd T z t) = some (7, s.2.1, s.2.2.1 - 1, s.2.2.2) := by rw [d]; simp [nx, h7]; omega
        rw [hlen, if_neg (show ¬ nI (W'.length + 1) ≤ 0 by rw [show (0 : Int32) = nI 0 from rfl, nI_leI (by omega) (by omega)]; omega), bnd_s, is1 (n := 1) (by omega), show W'.length + 1 - 1 = W'.length by omega, p_559, bnd_s]
        have hPp := PX_p hPX
        have hF1 : FE mi (upd2 mi 559 40 (nI W'.length)) := FE.u (by omega)
        generalize upd2 mi 559 40 (nI W'.length) = m1 at hPp hF1
        rw [g_559, bnd_s, hPp.1.2.2, is1 (n := 1) (by omega), p_559, bnd_s]
        have hPb := PX_b (b := s.2.2.1 - 1) hPp
        have hF2 : FE mi (upd2 m1 559 12 (nI (s.2.2.1 - 1))) := hF1.tr (FE.u (by omega))
        generalize upd2 m1 559 12 (nI (s.2.2.1 - 1)) = m2 at hPb hF2
        rcases next_G (n := n) (SL_c hF2 hs) hA hPb.1.1 hPb.1.2.1 hnx ⟨by simp only []; omega, hb.2.2.2.2.1, hb.2.2.2.2.2.1⟩ with ⟨m3, e1, e2, e3⟩ | ⟨e0, e1, e2⟩
        · left
          obtain ⟨m4, f1, f2, f3⟩ := comes_D (n := n) (ml := ml) W'.length (alC (XT T z t)).length n m3 e2 (by rw [e3 _ _ (by omega)]; exact hPb.2.1.1) (by rw [e3 _ _ (by omega)]; exact hPb.2.2.1.1) (by omega) (by omega)
          obtain ⟨m', rfl⟩ : ∃ m', m = m' + 1 := ⟨m - 1, by omega⟩
          refine ⟨m4, ?_, f2, (hF2.tr e3.fe).tr f3⟩
          unfold f_Mo_comesOut
          rw [e1, bnd_s, o_559, f1, bnd_s, f_Mo_expression_199, is_D f2, bnd_s, if_pos (show (0 : Int32) = 0 from rfl), exp246_D f2]
        · have hPn := PX_n (by omega) (by omega) hPb
          obtain ⟨m4, f1, f2, f3⟩ := comes_G (n := n) (ml := ml) W' (alC (XT T z t)) n _ hPn hok (by omega) (by omega)
          have hF3 := (hF2.tr (FE.u (by omega))).tr f3
          have hX : XT T z (t + 1) = ((cO W' (XT T z t).2.1).1, (cO W' (XT T z t).2.1).2, (XT T z t).2.2) := by
            show Xm _ _ _ _ (t + 1) = _
            rw [Xm_s hA]
            have hW' : (Xm (kd T z) (vT T z) (uT T z) (tP T z) t).1.tail = W' := by
              show (XT T z t).1.tail = W'
              rw [hW]; rfl
            simp [xs, h7, d, hW']
          have hP' : PQ T z (t + 1) (7, s.2.1, s.2.2.1 - 1, s.2.2.2) m4 := by
            refine ⟨e1, ?_⟩
            rw [hX]
            unfold alC at f2
            rw [cO_app] at f2
            exact f2
          unfold f_Mo_comesOut
          rw [e2, bnd_s, o_559, f1, bnd_s]
          rcases ih (t + 1) _ m4 (SL_c hF3 hs) hP' rfl (by omega) with ⟨m5, g1, g2, g3⟩ | ⟨t', s', m5, g1, g2, g3, g4, g5, g6, g7⟩
          · exact Or.inl ⟨m5, g1, g2, hF3.tr g3⟩
          · exact Or.inr ⟨t', s', m5, by omega, g2, g3, g4, g5, hF3.tr g6, g7⟩
    · rw [decide_eq_false d, if_pos (show b2i false = 0 from rfl)]
      exact Or.inr ⟨t, s, mi, Nat.le_refl _, hP, h7, rfl, fun q => d q.1, FE.rf, rfl⟩
theorem exp7_D {m : Nat} {x1 : Int32} {k283 : Nat → MM → Option MM} (h : Dn T z mi) : f_Mo_expression_7 n k283 (m + 1) 559 x1 (K mi ml) = some (K mi ml) := by
  rw [f_Mo_expression_7]
  by_cases c : x1 = 0
  · rw [if_pos c]
  · rw [if_neg c, g_559, bnd_s, if_neg (Dn_ne h).1]
theorem exp7 (hz : z ≤ 2000) (hn : 500 < n) : ∀ m t s mi, SL T z c mi ml → PQ T z t s mi → s.1 = 3 → TN T z N mi ml → (∀ t' s', t ≤ t' → Au (kd T z) t' = some s' → s'.1 ≠ 0 → s'.2.2.2 = s.2.2.2 → cN (kd T z) t' = N) → 402 - t < m → (∃ mi', f_Mo_expression_7 n (f_Mo_expression_283 n) m 559 1 (K mi ml) = some (K mi' ml) ∧ Dn T z mi' ∧ FE mi mi') ∨ ∃ t' s' mi', t < t' ∧ PQ T z t' s' mi' ∧ s'.1 = 7 ∧ s'.2.2.2 = s.2.2.2 ∧ s'.2.2.1 = 0 ∧ (kd T z t' ≠ 43 ∧ kd T z t' ≠ 45 ∧ kd T z t' ≠ 38) ∧ FE mi mi' ∧ f_Mo_expression_7 n (f_Mo_expression_283 n) m 559 1 (K mi ml) = some (K mi' ml) := by
  intro m
  induction m with
  | zero => intro t s mi _ _ _ _ _ h; omega
  | succ m ih =>
    intro t s mi hs hP h3 hTN hcN hm
    rw [f_Mo_expression_7, if_neg (show ¬ (1 : Int32) = 0 by decide), g_559, bnd_s, hP.2.1.2.1, if_pos (show (0 : Int32) = 0 from rfl)]
    rcases exp20 (n := n) (k7 := f_Mo_expression_7 n (f_Mo_expression_283 n) m) (k283 := f_Mo_expression_283 n) hz hn n t s mi hs hP h3 hTN hcN (by omega) with h | ⟨t1, s1, m1, a1, a2, a3, a4, a5, a6⟩
    · exact Or.inl h
    rw [a6]
    rcases exp199 (k7 := f_Mo_expression_7 n (f_Mo_expression_283 n) m) hz hn n t1 s1 m1 (SL_c a5 hs) a2 a3 (by omega) with ⟨m2, g1, g2, g3⟩ | ⟨t2, s2, m2, b1, b2, b3, b4, b5, b6, b7⟩
    · exact Or.inl ⟨m2, g1, g2, a5.tr g3⟩
    rw [b7]
    have hF := a5.tr b6
    have hs2 := SL_c hF hs
    have hA := b2.1
    have hl := PQ_l b2
    have hAn : Au (kd T z) t2 ≠ none := by rw [hA]; intro q; cases q
    have hc := tok_lt hs2 hAn
    have hc4 := hs2.2.1
    have hb := Au_i hA
    have h11 := b2.2.1.1
    have h13 := b2.2.1.2.1
    have op : (kd T z t2 = 43 ∨ kd T z t2 = 45 ∨ kd T z t2 = 38) → (∃ mi', f_Mo_expression_273 n (f_Mo_expression_7 n (f_Mo_expression_283 n) m) (f_Mo_expression_283 n) 559 (K m2 ml) = some (K mi' ml) ∧ Dn T z mi' ∧ FE mi mi') ∨ ∃ t' s' mi', t < t' ∧ PQ T z t' s' mi' ∧ s'.1 = 7 ∧ s'.2.2.2 = s.2.2.2 ∧ s'.2.2.1 = 0 ∧ (kd T z t' ≠ 43 ∧ kd T z t' ≠ 45 ∧ kd T z t' ≠ 38) ∧ FE mi mi' ∧ f_Mo_expression_273 n (f_Mo_expression_7 n (f_Mo_expression_283 n) m) (f_Mo_expression_283 n) 559 (K m2 ml) = some (K mi' ml) := fun hk => by
      have hnx : nx s2 (kd T z t2) = some (3, s2.2) := by rcases hk with d | d | d <;> simp [nx, b3, d]
      unfold f_Mo_expression_273 f_Mo_expression_278
      rw [if_neg (show ¬ (1 : Int32) = 0 by decide), rf_559_5, bnd_s, g_559, bnd_s, h11, a_562 (by omega), bnd_s, (hs2.1.2 t2 hc.1).1]
      obtain ⟨m3, f1, f2, f3⟩ := waits_G (n := n) (ml := ml) (x := kd T z t2) (a := 0) (b := 0) (pl := 0) b2.2 (by omega)
      rw [show f_Mo_waitsFor n 559 (nI (mK (kd T z t2))) 0 0 0 (K m2 ml) = _ from f1, bnd_s]
      have hF3 := hF.tr f3
      rcases next_G (n := n) (SL_c f3 hs2) hA f2.1.1 f2.1.2.1 hnx ⟨hb.2.2.2.1, hb.2.2.2.2.1, hb.2.2.2.2.2.1⟩ with ⟨m4, e1, e2, e3⟩ | ⟨e0, e1, e2⟩
      · left
        obtain ⟨m', rfl⟩ : ∃ m', m = m' + 1 := ⟨m - 1, by omega⟩
        rw [e1, bnd_s, exp7_D e2]
        exact ⟨m4, rfl, e2, hF3.tr e3.fe⟩
      · rw [e2, bnd_s]
        have hPn := PX_n (by omega) (by omega) f2
        have hF4 := hF3.tr (FE.u (mi := m3) (j := 11) (v := nI (t2 + 1)) (by omega))
        have hX : XT T z (t2 + 1) = ((kd T z t2, 0, 0, 0) :: (XT T z t2).1, (XT T z t2).2) := by
          show Xm _ _ _ _ (t2 + 1) = _
          rw [Xm_s hA]
          unfold xs
          rw [if_neg (by omega), if_neg (by omega), if_neg (by omega), if_pos b3, if_pos hk]
        rcases ih (t2 + 1) (3, s2.2) _ (SL_c hF4 hs) ⟨e1, by rw [hX]; exact hPn⟩ rfl (TN_c hTN hF4) (fun t' s' g1 g2 g3 g4 => hcN t' s' (by omega) g2 g3 (by rw [g4, ← a4, ← b4])) (by omega) with ⟨m5, g1, g2, g3⟩ | ⟨t', s', m5, g1, g2, g3, g4, g5, g6, g7, g8⟩
        · exact Or.inl ⟨m5, g1, g2, hF4.tr g3⟩
        · exact Or.inr ⟨t', s', m5, by omega, g2, g3, by rw [g4, ← a4, ← b4], g5, g6, hF4.tr g7, g8⟩
    unfold f_Mo_expression_246
    rw [show f_Mo_is n 559 8 (K m2 ml) = _ from is_G (x := 43) hs2 hAn h11 h13 (by decide), bnd_s]
    by_cases d1 : kd T z t2 = 43
    · rw [decide_eq_true d1, if_neg (show ¬ b2i true = 0 by decide)]; exact op (Or.inl d1)
    rw [decide_eq_false d1, if_pos (show b2i false = 0 from rfl), show f_Mo_is n 559 9 (K m2 ml) = _ from is_G (x := 45) hs2 hAn h11 h13 (by decide), bnd_s]
    by_cases d2 : kd T z t2 = 45
    · rw [decide_eq_true d2, if_neg (show ¬ b2i true = 0 by decide)]; exact op (Or.inr (Or.inl d2))
    rw [decide_eq_false d2, if_pos (show b2i false = 0 from rfl), show f_Mo_is n 559 10 (K m2 ml) = _ from is_G (x := 38) hs2 hAn h11 h13 (by decide), bnd_s]
    by_cases d3 : kd T z t2 = 38
    · rw [decide_eq_true d3, if_neg (show ¬ b2i true = 0 by decide)]; exact op (Or.inr (Or.inr d3))
    rw [decide_eq_false d3, if_pos (show b2i false = 0 from rfl)]
    unfold f_Mo_expression_278 f_Mo_expression_283
    rw [if_pos (show (0 : Int32) = 0 from rfl), g_559, bnd_s, b2.2.2.1.1]
    rcases hl.2.2.2.2 b3 with hW | ⟨x, W', hW, h40⟩
    · have hbr : s2.2.2.1 = 0 := by
        have := hl.2.2.2.1
        rw [hW] at this
        exact this.symm
      rw [if_pos (show nI (XT T z t2).1.length ≤ 0 by rw [hW]; decide)]
      exact Or.inr ⟨t2, s2, m2, by omega, b2, b3, by rw [b4, a4], hbr, ⟨d1, d2, d3⟩, hF, rfl⟩
    · left
      have hbr : s2.2.2.1 = c40 W' + 1 := by
        have := hl.2.2.2.1
        rw [hW, c40, if_pos h40] at this
        omega
      have hlen : (XT T z t2).1.length = W'.length + 1 := by rw [hW]; rfl
      have hno : nx s2 (kd T z t2) = none := by
        cases e : nx s2 (kd T z t2) with
        | none => rfl
        | some x => have := nx_c e; omega
      rw [if_neg (show ¬ nI (XT T z t2).1.length ≤ 0 by rw [hlen, show (0 : Int32) = nI 0 from rfl, nI_leI (by omega) (by omega)]; omega), show f_Mo_fail n 559 1 (K m2 ml) = _ from fail_G hs2 hAn h11 h13, bnd_s]
      exact ⟨_, rfl, Dn_1 hA (Or.inl (by omega)) hno h11, hF.tr fl_FE.fe⟩
end EXQ
