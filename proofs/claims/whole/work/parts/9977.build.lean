/-! ===== the class's Builder: its small steps ===== -/
theorem wC_w {k v p : Nat → Nat} {q : Nat} (h : 12 ≤ k q ∧ k q ≤ 14) : wC (wt k v p q) = (k q - 7, 0, 0, 0, 0, p q) := by
  have e : wt k v p q = (k q, 0, 0, p q) := by unfold wt; rw [if_neg (by omega)]
  rw [e]
  unfold wC
  rw [if_pos (show 12 ≤ k q ∧ k q ≤ 15 by omega)]
theorem wC_15 {k v p : Nat → Nat} {q : Nat} (h : k q = 15) : wC (wt k v p q) = (8, nv k v (q + 1), nv k v (bh k (q + 1)), 0, 0, p q) := by
  have e : wt k v p q = (15, nv k v (q + 1), nv k v (bh k (q + 1)), p q) := by unfold wt; rw [if_pos h]
  rw [e]; rfl
theorem sh_m : ∀ j, j < 14 → (21 + 2 * j) ∈ shL := by decide +kernel
theorem sh_s : ∀ j, j < 7 → (49 + 4 * j) ∈ shL ∧ (51 + 4 * j) ∈ shL := by decide +kernel
theorem sh_18 : isSh 18 := sh_ok (by decide)
theorem svS_cu (mi : IM) (a : Nat) : cu (svS mi a) = svS mi a := rS_cu _
theorem bt15 : ∀ d, d < 4 → bt 15 d = true := by decide +kernel
theorem bt_1 : ∀ a, a < 4 → ∀ d, d < 4 → bt (ishl 1 (nI a)) d = decide (d = a) ∧ bt ((ishl 1 (nI a)) ||| (ishl 1 ((nI a + 1) &&& 3))) d = decide (d = a ∨ d = (a + 1) % 4) := by decide +kernel
section BLD
variable {n z c i t q wo L a b : Nat} {mi : IM} {ml : JM} {T : Nat → Nat} {N : List Nat}
theorem aR_13 (h : i < 14) : aR 104 13 (nI i) (K mi ml) = some (21 + 2 * i) := aR_K ds_13 (by decide) h (ra_13 i h)
theorem aR_16 (h : i < 7) : aR 104 16 (nI i) (K mi ml) = some (49 + 4 * i) := aR_K ds_16 (by decide) h (ra_16 i h)
theorem aR_17 (h : i < 7) : aR 104 17 (nI i) (K mi ml) = some (51 + 4 * i) := aR_K ds_17 (by decide) h (ra_17 i h)
theorem LexC_c {mi' : IM} (h : LexC T z c mi ml) (h4 : mi' 4 3 = mi 4 3) (h5 : mi' 5 = mi 5) (h6 : mi' 6 = mi 6) : LexC T z c mi' ml := by
  unfold LexC at h ⊢
  rw [h4, h5, h6]; exact h
theorem kd_ty (h : LexC T z c mi ml) (hi : i < c) : kd T z i = ty T z (tP T z i) := by unfold kd; rw [if_pos (h.2 i hi).1]
theorem val3 (h : LexC T z c mi ml) (hi : i < c) (hk : kd T z i = 3) : ml 7 i = l64 (vT T z i) := (h.2 i hi).2.2.2.1 (by rw [← kd_ty h hi]; exact hk)
theorem val2 (h : LexC T z c mi ml) (hi : i < c) (hk : kd T z i = 2) : ml 7 i = l64 (uT T z i) := (h.2 i hi).2.2.2.2 (by rw [← kd_ty h hi]; exact hk)
theorem valueT (hc : c ≤ 401) (h : LexC T z c mi ml) (hi : i < 2 ^ 31) : ∃ x, f_Tokens_valueAt n 4 (nI i) (K mi ml) = some (x, K mi ml) := by
  by_cases d : i < c
  · exact ⟨_, valueA hc h d⟩
  · refine ⟨0, ?_⟩
    unfold f_Tokens_valueAt
    rw [o_4, if_neg (inN hi), g_4, bnd_s, h.1, if_pos (nI_le (by omega) hi)]
theorem kd62 : kd T z i < 62 := okK_lt kd_ok
theorem bnum (hc : c ≤ 401) (h : LexC T z c mi ml) (hi : i < c) (h45 : kd T z i = 45 → kd T z (i + 1) = 3) (hi2 : kd T z i = 45 → i + 1 < c) (h3 : kd T z i = 45 ∨ kd T z i = 3) : f_Builder_numberAt n 12 (nI i) (K mi ml) = some (iZ (nv (kd T z) (vT T z) i), K mi ml) := by
  have hb := kd62 (T := T) (z := z) (i := i)
  unfold f_Builder_numberAt nv
  rw [o_12, rf_12_9, bnd_s, kindA hc (by omega) h, bnd_s, if_pos hi]
  by_cases d : kd T z i = 45
  · rw [if_pos (show nI (kd T z i) = 45 by rw [d]; rfl), rf_12_9, bnd_s, nI_1, valueA hc h (hi2 d), bnd_s, val3 h (hi2 d) (h45 d), if_pos d]
    show some (-(l64 (vT T z (i + 1))).toInt32, K mi ml) = _
    rw [n32 _ (kd_3 (h45 d)).2, iZ_nat, iZ_neg]
  · have k3 : kd T z i = 3 := by omega
    rw [if_neg (show ¬ nI (kd T z i) = 45 by rw [k3]; decide), rf_12_9, bnd_s, valueA hc h hi, bnd_s, val3 h hi k3, if_neg d]
    show some ((l64 (vT T z i)).toInt32, K mi ml) = _
    rw [n32 _ (kd_3 k3).2, iZ_nat]
theorem bnum_3 (hc : c ≤ 401) (h : LexC T z c mi ml) (hi : i < c) (k3 : kd T z i = 3) : f_Builder_numberAt n 12 (nI i) (K mi ml) = some (nI (vT T z i), K mi ml) := by
  rw [bnum hc h hi (fun q => by omega) (fun q => by omega) (Or.inr k3)]
  unfold nv
  rw [if_neg (by omega), iZ_nat]
theorem bnum_t (hc : c ≤ 401) (h : LexC T z c mi ml) (hi : i + 1 < 2 ^ 31) : ∃ x, f_Builder_numberAt n 12 (nI i) (K mi ml) = some (x, K mi ml) := by
  obtain ⟨x, hx⟩ := valueT (n := n) (i := i) hc h (by omega)
  obtain ⟨y, hy⟩ := valueT (n := n) (i := i + 1) hc h (by omega)
  unfold f_Builder_numberAt
  rw [o_12, rf_12_9, bnd_s, kindA hc (by omega) h, bnd_s]
  by_cases d : nI (if i < c then kd T z i else 0) = 45
  · rw [if_pos d, rf_12_9, bnd_s, nI_1, hy, bnd_s]; exact ⟨_, rfl⟩
  · rw [if_neg d, rf_12_9, bnd_s, hx, bnd_s]; exact ⟨_, rfl⟩
theorem bbeh (hc : c ≤ 401) (h : LexC T z c mi ml) (hi : i < c) : f_Builder_behindNumber n 12 (nI i) (K mi ml) = some (nI (bh (kd T z) i), K mi ml) := by
  have hb := kd62 (T := T) (z := z) (i := i)
  unfold f_Builder_behindNumber bh
  rw [o_12, rf_12_9, bnd_s, kindA hc (by omega) h, bnd_s, if_pos hi]
  by_cases d : kd T z i = 45
  · rw [if_pos (show nI (kd T z i) = 45 by rw [d]; rfl), if_pos d, ia1 (n := 2)]
  · rw [if_neg (show ¬ nI (kd T z i) = 45 by rw [ie1 (n := 45) (by omega) (by omega)]; exact d), if_neg d, nI_1]
theorem openW (hc : c ≤ 401) (h : LexC T z c mi ml) (ht : t < c) (hk : 12 ≤ kd T z t ∧ kd T z t ≤ 15) (h10 : mi 12 10 = nI t) (h8 : mi 12 8 = nI wo) (hwo : wo < 400) (hs : kd T z t = 15 → bh (kd T z) (t + 1) < c ∧ t + 1 < c) : f_Builder_openWord n 12 (K mi ml) = some (K (upd2 (upd2 (upd2 mi 20 wo (nI t)) 12 8 (nI (wo + 1))) 12 10 (nI (nxw (kd T z) t))) ml) := by
  have hb := kd62 (T := T) (z := z) (i := t)
  unfold f_Builder_openWord f_Builder_openWord_35
  rw [o_12, g_12, bnd_s, h8, rf_12_7, bnd_s, aN_K ds_20 (by decide), bnd_s, if_neg (show ¬ nI 400 ≤ nI wo by rw [nI_leI (by omega) (by omega)]; omega), bnd_s, bnd_s, g_12, bnd_s, h10, s_20 hwo, bnd_s, nrw100, g_12, bnd_s, upd2_ne (by omega), h8, nI_1, p_12, bnd_s]
  have hL : LexC T z c (upd2 (upd2 mi 20 wo (nI t)) 12 8 (nI (wo + 1))) ml := LexC_c h (by rw [u2, if_neg (by omega), u2, if_neg (by omega)]) (by funext j; rw [u2, if_neg (by omega), u2, if_neg (by omega)]) (by funext j; rw [u2, if_neg (by omega), u2, if_neg (by omega)])
  have h1 : upd2 (upd2 mi 20 wo (nI t)) 12 8 (nI (wo + 1)) 12 10 = nI t := by rw [u2, if_neg (by omega), u2, if_neg (by omega)]; exact h10
  generalize upd2 (upd2 mi 20 wo (nI t)) 12 8 (nI (wo + 1)) = m1 at hL h1
  rw [rf_12_9, bnd_s, g_12, bnd_s, h1, kindA hc (by omega) hL, bnd_s, if_pos ht]
  unfold nxw
  by_cases d : kd T z t = 15
  · rw [if_pos (show nI (kd T z t) = 15 by rw [d]; rfl), g_12, bnd_s, h1, nI_1, bbeh hc hL (hs d).2, bnd_s, bbeh hc hL (hs d).1, bnd_s, p_12, bnd_s, if_pos d]
  · rw [if_neg (show ¬ nI (kd T z t) = 15 by rw [ie1 (n := 15) (by omega) (by omega)]; exact d), g_12, bnd_s, h1, nI_1, p_12, bnd_s, if_neg d]
theorem doW (hc : c ≤ 401) (hn : 8 < n) (h : LexC T z c mi ml) (h4 : mi 4 4 = nI z) (hq : q < c) (hk : 12 ≤ kd T z q ∧ kd T z q ≤ 15) (ha : isSh a) (h18 : 20 < a) (hs : kd T z q = 15 → (-7 ≤ nv (kd T z) (vT T z) (q + 1) ∧ nv (kd T z) (vT T z) (q + 1) ≤ 7) ∧ (-7 ≤ nv (kd T z) (vT T z) (bh (kd T z) (q + 1)) ∧ nv (kd T z) (vT T z) (bh (kd T z) (q + 1)) ≤ 7) ∧ q + 1 < bh (kd T z) (q + 1) ∧ bh (kd T z) (q + 1) < c ∧ (kd T z (q + 1) = 45 → kd T z (q + 1 + 1) = 3) ∧ (kd T z (q + 1) = 45 ∨ kd T z (q + 1) = 3) ∧ (kd T z (bh (kd T z) (q + 1)) = 45 → kd T z (bh (kd T z) (q + 1) + 1) = 3) ∧ (kd T z (bh (kd T z) (q + 1)) = 45 ∨ kd T z (bh (kd T z) (q + 1)) = 3)) (hs2 : kd T z q = 15 → kd T z (bh (kd T z) (q + 1)) = 45 → bh (kd T z) (q + 1) + 1 < c) : ∃ mi', f_Builder_doWord n 12 (nI q) a (K mi ml) = some (K mi' ml) ∧ (∀ b j, b ≠ 19 → b ≠ a + 1 → ¬ (b = 4 ∧ (j = 5 ∨ j = 6)) → mi' b j = mi b j) ∧ ((∃ S, wdS (wC (wt (kd T z) (vT T z) (tP T z) q)) (svS mi a) = .inr S ∧ mi' 4 = mi 4 ∧ svS mi' a = S) ∨ ∃ pl, wdS (wC (wt (kd T z) (vT T z) (tP T z) q)) (svS mi a) = .inl pl ∧ mi' 4 5 = nI 6 ∧ mi' 4 6 = nI pl) := by
  have hb := kd62 (T := T) (z := z) (i := q)
  unfold f_Builder_doWord
  rw [o_12, rf_12_9, bnd_s, kindA hc (by omega) h, bnd_s, if_pos hq, rf_12_6, bnd_s, copy_s sh_18 ha (by omega) hn, bnd_s]
  have e18 : svS (setRw mi 18 (mi (a + 1))) 18 = svS mi a := sv_set
  have ea : svS (setRw mi 18 (mi (a + 1))) a = svS mi a := sv_ne (by omega)
  have f : ∀ b, b ≠ 19 → setRw mi 18 (mi (a + 1)) b = mi b := fun b q => setRw_ne q
  have hL : LexC T z c (setRw mi 18 (mi (a + 1))) ml := LexC_c h (by rw [f 4 (by omega)]) (f 5 (by omega)) (f 6 (by omega))
  generalize setRw mi 18 (mi (a + 1)) = m1 at e18 ea f hL
  by_cases d12 : kd T z q = 12
  · obtain ⟨m2, e1, e2, e3⟩ := turned_s (mi := m1) (ml := ml) ha sh_18 (by omega) hn
    rw [if_pos (show nI (kd T z q) = 12 by rw [d12]; rfl), rf_12_6, bnd_s, e1, bnd_s]
    refine ⟨m2, rfl, fun b j q1 q2 _ => by rw [e3 b q2, f b q1], Or.inl ⟨_, ?_, by rw [e3 4 (by omega), f 4 (by omega)], e2⟩⟩
    rw [e18]; rw [wC_w (by omega), d12]; rfl
  by_cases d13 : kd T z q = 13
  · obtain ⟨m2, e1, e2, e3⟩ := flipped_s (mi := m1) (ml := ml) ha sh_18 (by omega) hn
    rw [if_neg (show ¬ nI (kd T z q) = 12 by rw [d13]; decide), if_pos (show nI (kd T z q) = 13 by rw [d13]; rfl), rf_12_6, bnd_s, e1, bnd_s]
    refine ⟨m2, rfl, fun b j q1 q2 _ => by rw [e3 b q2, f b q1], Or.inl ⟨_, ?_, by rw [e3 4 (by omega), f 4 (by omega)], e2⟩⟩
    rw [e18]; rw [wC_w (by omega), d13]; rfl
  by_cases d14 : kd T z q = 14
  · obtain ⟨m2, e1, e2, e3⟩ := base_s (n := n) (mi := m1) (ml := ml) ha hn
    rw [if_neg (show ¬ nI (kd T z q) = 12 by rw [d14]; decide), if_neg (show ¬ nI (kd T z q) = 13 by rw [d14]; decide), if_pos (show nI (kd T z q) = 14 by rw [d14]; rfl), e1, bnd_s]
    refine ⟨m2, rfl, fun b j q1 q2 _ => by rw [e3 b q2, f b q1], Or.inl ⟨_, ?_, by rw [e3 4 (by omega), f 4 (by omega)], e2⟩⟩
    rw [ea]; rw [wC_w (by omega), d14]; rfl
  have d15 : kd T z q = 15 := by omega
  obtain ⟨s1, s2, s3, s4, s5, s6, s7, s8⟩ := hs d15
  have hb1 : kd T z (q + 1) = 45 → q + 1 + 1 < c := fun g => by
    have e : bh (kd T z) (q + 1) = q + 1 + 2 := if_pos g
    omega
  have hw : wC (wt (kd T z) (vT T z) (tP T z) q) = (8, nv (kd T z) (vT T z) (q + 1), nv (kd T z) (vT T z) (bh (kd T z) (q + 1)), 0, 0, tP T z q) := wC_15 d15
  rw [if_neg (show ¬ nI (kd T z q) = 12 by rw [d15]; decide), if_neg (show ¬ nI (kd T z q) = 13 by rw [d15]; decide), if_neg (show ¬ nI (kd T z q) = 14 by rw [d15]; decide), nI_1, bnum hc hL (by omega) s5 hb1 s6, bnd_s, bbeh hc hL (by omega), bnd_s, bnum hc hL s4 s7 (hs2 d15) s8, bnd_s, rf_12_6, bnd_s, goesOff_s sh_18 (by omega) (by omega) hn, bnd_s, e18]
  cases e : sOff (nv (kd T z) (vT T z) (q + 1)) (nv (kd T z) (vT T z) (bh (kd T z) (q + 1))) (svS mi a) with
  | true =>
    rw [if_neg (show ¬ b2i true = 0 by decide), rf_12_9, bnd_s, show f_Tokens_blame n 4 6 (nI q) (K m1 ml) = _ from blameA (f := 6) hc (by omega) hL (by rw [f 4 (by omega)]; exact h4), bnd_s, if_pos hq]
    refine ⟨_, rfl, fun b j q1 q2 q3 => ?_, Or.inr ⟨tP T z q, ?_, ?_, ?_⟩⟩
    · unfold blM; rw [u2, if_neg (by omega), u2, if_neg (by omega), f b q1]
    · rw [hw]; unfold wdS; simp [e]
    · unfold blM; rw [u2, if_neg (by omega), uE]
    · unfold blM; rw [uE]
  | false =>
    rw [if_pos (show b2i false = 0 from rfl), rf_12_6, bnd_s, becomeShifted_s ha sh_18 (by omega) (by omega) (by omega) hn, bnd_s]
    refine ⟨_, rfl, fun b j q1 q2 q3 => by rw [setRw_ne q2, f b q1], Or.inl ⟨_, ?_, by rw [setRw_ne (by omega), f 4 (by omega)], by rw [sv_set, shR_S]⟩⟩
    rw [hw]; unfold wdS
    show _ = Sum.inr (shC _ _ (svS m1 18))
    rw [e18]; simp [e]
theorem addBox15 {x y w h row : Nat} {k9 : Nat → Int32 → Int32 → Int32 → Int32 → Int32 → MM → Option MM} (ha : isSh a) (hx : x + w ≤ 8) (hrow : row < 8) : ∀ m col s, col ≤ x + w → x + w - col < m → ∃ s', f_Builder_addBox_15 n k9 m a (nI x) (nI y) (nI w) (nI h) (nI row) (nI col) (K s ml) = k9 a (nI x) (nI y) (nI w) (nI h) (nI row) (K s' ml) ∧ (∀ i, i < 256 → svS s' a i = (svS s a i || decide (i / 32 = row ∧ col ≤ i / 4 % 8 ∧ i / 4 % 8 < x + w))) ∧ ∀ b, b ≠ a + 1 → s' b = s b := by
  intro m
  induction m with
  | zero => intro col s h1 h2; omega
  | succ m ih =>
    intro col s h1 h2
    rw [f_Builder_addBox_15, ia3]
    by_cases d : col = x + w
    · rw [if_pos (nI_le (by omega) (by omega))]
      refine ⟨s, rfl, fun i hi => ?_, fun _ _ => rfl⟩
      rw [decide_eq_false (by omega), Bool.or_false]
    · rw [if_neg (by rw [nI_leI (by omega) (by omega)]; omega), addCell_s ha (by omega) hrow, bnd_s, nI_1]
      obtain ⟨s', e1, e2, e3⟩ := ih (col + 1) (upd2 s (a + 1) row (s (a + 1) row ||| ishl (15 &&& 15) (nI (4 * col)))) (by omega) (by omega)
      refine ⟨s', e1, fun i hi => ?_, fun b hb => by rw [e3 b hb, upd2_ne (by omega)]⟩
      rw [e2 i hi, addCell_b (by omega) hrow hi, bt15 _ (by omega), Bool.and_true, Bool.or_assoc]
      congr 1
      rw [← Bool.decide_or]
      apply decide_eq_decide.mpr
      omega
theorem addBox3 {x y w h : Nat} (ha : isSh a) (hx : x + w ≤ 8) (hy : y + h ≤ 8) (hn : 8 < n) : ∀ m row s, row ≤ y + h → y + h - row < m → ∃ s', f_Builder_addBox_3 n m a (nI x) (nI y) (nI w) (nI h) (nI row) (K s ml) = some (K s' ml) ∧ (∀ i, i < 256 → svS s' a i = (svS s a i || decide ((row ≤ i / 32 ∧ i / 32 < y + h) ∧ x ≤ i / 4 % 8 ∧ i / 4 % 8 < x + w))) ∧ ∀ b, b ≠ a + 1 → s' b = s b := by
  intro m
  induction m with
  | zero => intro row s h1 h2; omega
  | succ m ih =>
    intro row s h1 h2
    rw [f_Builder_addBox_3, ia3]
    by_cases d : row = y + h
    · rw [if_pos (nI_le (by omega) (by omega))]
      refine ⟨s, rfl, fun i hi => ?_, fun _ _ => rfl⟩
      rw [decide_eq_false (by omega), Bool.or_false]
    · rw [if_neg (by rw [nI_leI (by omega) (by omega)]; omega)]
      obtain ⟨s1, e1, e2, e3⟩ := addBox15 (n := n) (ml := ml) (y := y) (h := h) (k9 := f_Builder_addBox_39 n (f_Builder_addBox_3 n m)) ha hx (show row < 8 by omega) n x s (by omega) (by omega)
      rw [e1]
      unfold f_Builder_addBox_39
      rw [nI_1]
      obtain ⟨s', g1, g2, g3⟩ := ih (row + 1) s1 (by omega) (by omega)
      refine ⟨s', g1, fun i hi => ?_, fun b hb => by rw [g3 b hb, e3 b hb]⟩
      rw [g2 i hi, e2 i hi, Bool.or_assoc]
      congr 1
      rw [← Bool.decide_or]
      apply decide_eq_decide.mpr
      omega
theorem un_1 {x y i : Nat} (hx : x < 8) (hi : i < 256) : i / 4 = 8 * y + x ↔ (x ≤ i / 4 % 8 ∧ i / 4 % 8 < x + 1) ∧ y ≤ i / 32 ∧ i / 32 < y + 1 := by omega
theorem mkC (hc : c ≤ 400) (hn : 8 < n) (h : LexC T z c mi ml) (h10 : mi 12 10 = nI t) (ha : isSh a) (h18 : 20 < a) (htc : t + (if kd T z t = 16 then 3 else if kd T z t = 17 then 5 else 4) ≤ c) (hk : 16 ≤ kd T z t ∧ kd T z t ≤ 19) (hk3 : kd T z (t + 1) = 3 ∧ kd T z (t + 2) = 3 ∧ (kd T z t ≠ 16 → kd T z (t + 3) = 3) ∧ (kd T z t = 17 → kd T z (t + 4) = 3)) (hv1 : vT T z (t + 1) ≤ 7) (hv2 : vT T z (t + 2) ≤ 7) (hv17 : kd T z t = 17 → (1 ≤ vT T z (t + 3) ∧ vT T z (t + 1) + vT T z (t + 3) ≤ 8) ∧ 1 ≤ vT T z (t + 4) ∧ vT T z (t + 2) + vT T z (t + 4) ≤ 8) (hv18 : 18 ≤ kd T z t → vT T z (t + 3) ≤ 3) (E : List Sh) : ∃ mi', f_Builder_makeCells n 12 a (nI (kd T z t)) (K mi ml) = some (K mi' ml) ∧ svS mi' a = layV E (uCd (kd T z) (vT T z) t) ∧ mi' 12 10 = nI (t + (if kd T z t = 16 then 3 else if kd T z t = 17 then 5 else 4)) ∧ ∀ b j, b ≠ a + 1 → ¬ (b = 12 ∧ j = 10) → mi' b j = mi b j := by
  have hb := kd62 (T := T) (z := z) (i := t)
  have htc3 : t + 3 ≤ c := by split at htc <;> (try split at htc) <;> omega
  have la : layV E (uCd (kd T z) (vT T z) t) = unC (kd T z t - 15) (vT T z (t + 1)) (vT T z (t + 2)) (if kd T z t = 16 then 0 else vT T z (t + 3)) (if kd T z t = 17 then vT T z (t + 4) else 0) := by
    unfold layV uCd
    rw [if_neg (by simp only []; omega)]
    simp only []
    congr 1
    · split <;> rfl
    · split <;> rfl
  obtain ⟨x3, hx3⟩ := bnum_t (n := n) (i := t + 3) (show c ≤ 401 by omega) h (by omega)
  have hC : ∀ i, i < 256 → svS (setRw mi a (fun _ => 0)) a i = false := fun i hi => by rw [sv_set, rS_in hi]; exact b_0 _
  have hF : ∀ b, b ≠ a + 1 → setRw mi a (fun _ => 0) b = mi b := fun b q => setRw_ne q
  have hL : LexC T z c (setRw mi a (fun _ => 0)) ml := LexC_c h (by rw [hF 4 (by omega)]) (hF 5 (by omega)) (hF 6 (by omega))
  unfold f_Builder_makeCells
  rw [o_12, g_12, bnd_s, h10, nI_1, bnum_3 (by omega) h (by omega) hk3.1, bnd_s, g_12, bnd_s, h10, ia1 (n := 2), bnum_3 (by omega) h (by omega) hk3.2.1, bnd_s, g_12, bnd_s, h10, ia1 (n := 3), hx3, bnd_s, clear_s ha hn, bnd_s]
  generalize setRw mi a (fun _ => 0) = m1 at hC hF hL
  have g10 : m1 12 10 = nI t := by rw [hF 12 (by omega)]; exact h10
  by_cases d16 : kd T z t = 16
  · rw [if_pos (show nI (kd T z t) = 16 by rw [d16]; rfl), addCell_s ha (by omega) (by omega), bnd_s, g_12, bnd_s, upd2_ne (by omega), g10, ia1 (n := 3), p_12, bnd_s]
    refine ⟨_, rfl, ?_, by rw [uE, if_pos d16], fun b j q1 q2 => by rw [u2, if_neg q2, upd2_ne q1, hF b q1]⟩
    rw [la, show svS (upd2 (upd2 m1 (a + 1) (vT T z (t + 2)) (m1 (a + 1) (vT T z (t + 2)) ||| ishl (15 &&& 15) (nI (4 * vT T z (t + 1))))) 12 10 (nI (t + 3))) a = svS (upd2 m1 (a + 1) (vT T z (t + 2)) (m1 (a + 1) (vT T z (t + 2)) ||| ishl (15 &&& 15) (nI (4 * vT T z (t + 1))))) a by unfold svS; rw [upd2_ne (by omega)]]
    rw [← svS_cu]
    unfold unC
    apply cu_ext
    intro i hi
    rw [addCell_b (by omega) (by omega) hi, hC i hi, bt15 _ (by omega), Bool.and_true, Bool.false_or]
    apply decide_eq_decide.mpr
    rw [un_1 (by omega) hi, d16]
    simp
  · by_cases d17 : kd T z t = 17
    · obtain ⟨q1, q2⟩ := hv17 d17
      rw [if_neg d16, if_pos d17] at htc
      have e3 : x3 = nI (vT T z (t + 3)) := by
        have := bnum_3 (n := n) (i := t + 3) (show c ≤ 401 by omega) h (by omega) (hk3.2.2.1 d16)
        rw [hx3] at this
        cases this; rfl
      obtain ⟨s', e1, e2, e4⟩ := addBox3 (n := n) (ml := ml) (x := vT T z (t + 1)) (y := vT T z (t + 2)) (w := vT T z (t + 3)) (h := vT T z (t + 4)) ha (by omega) (by omega) hn n (vT T z (t + 2)) m1 (by omega) (by omega)
      rw [if_neg (show ¬ nI (kd T z t) = 16 by rw [d17]; decide), if_pos (show nI (kd T z t) = 17 by rw [d17]; rfl), g_12, bnd_s, g10, ia1 (n := 4), bnum_3 (by omega) hL (by omega) (hk3.2.2.2 d17), bnd_s, e3]
      unfold f_Builder_addBox
      rw [e1, bnd_s, g_12, bnd_s, e4 12 (by omega), g10, ia1 (n := 5), p_12, bnd_s]
      refine ⟨_, rfl, ?_, by rw [uE, if_neg d16, if_pos d17], fun b j q1 q2 => by rw [u2, if_neg q2, e4 b q1, hF b q1]⟩
      rw [la, show svS (upd2 s' 12 10 (nI (t + 5))) a = svS s' a by unfold svS; rw [upd2_ne (by omega)], ← svS_cu]
      unfold unC
      apply cu_ext
      intro i hi
      rw [e2 i hi, hC i hi, Bool.false_or]
      apply decide_eq_decide.mpr
      rw [d17]
      simp
      omega
    · have e3 : x3 = nI (vT T z (t + 3)) := by
        rw [if_neg d16, if_neg d17] at htc
        have := bnum_3 (n := n) (i := t + 3) (show c ≤ 401 by omega) h (by omega) (hk3.2.2.1 d16)
        rw [hx3] at this
        cases this; rfl
      have hv3 := hv18 (by omega)
      unfold f_Builder_makeCells_139
      rw [if_neg (show ¬ nI (kd T z t) = 16 by rw [ie1 (n := 16) (by omega) (by omega)]; exact d16), if_neg (show ¬ nI (kd T z t) = 17 by rw [ie1 (n := 17) (by omega) (by omega)]; exact d17), nm_t, e3]
      have fin : ∀ Q : Int32, (∀ i, i < 256 → bt Q (i % 4) = decide (i % 4 = vT T z (t + 3) ∨ (kd T z t = 18 ∧ i % 4 = (vT T z (t + 3) + 1) % 4))) → ∃ mi', ((f_Shape_addCell n a (nI (vT T z (t + 1))) (nI (vT T z (t + 2))) Q (K m1 ml)).bind fun M1 => (gI 1 10 12 M1).bind fun v2 => (pI 1 10 12 (v2 + 4) M1).bind fun M3 => some M3) = some (K mi' ml) ∧ svS mi' a = layV E (uCd (kd T z) (vT T z) t) ∧ mi' 12 10 = nI (t + (if kd T z t = 16 then 3 else if kd T z t = 17 then 5 else 4)) ∧ ∀ b j, b ≠ a + 1 → ¬ (b = 12 ∧ j = 10) → mi' b j = mi b j := fun Q hQ => by
        rw [addCell_s ha (by omega) (by omega), bnd_s, g_12, bnd_s, upd2_ne (by omega), g10, ia1 (n := 4), p_12, bnd_s]
        refine ⟨_, rfl, ?_, by rw [uE, if_neg d16, if_neg d17], fun b j q1 q2 => by rw [u2, if_neg q2, upd2_ne q1, hF b q1]⟩
        rw [la, show svS (upd2 (upd2 m1 (a + 1) (vT T z (t + 2)) (m1 (a + 1) (vT T z (t + 2)) ||| ishl (Q &&& 15) (nI (4 * vT T z (t + 1))))) 12 10 (nI (t + 4))) a = svS (upd2 m1 (a + 1) (vT T z (t + 2)) (m1 (a + 1) (vT T z (t + 2)) ||| ishl (Q &&& 15) (nI (4 * vT T z (t + 1))))) a by unfold svS; rw [upd2_ne (by omega)]]
        rw [← svS_cu]
        unfold unC
        apply cu_ext
        intro i hi
        rw [addCell_b (by omega) (by omega) hi, hC i hi, hQ i hi, Bool.false_or, ← Bool.decide_and]
        apply decide_eq_decide.mpr
        rw [un_1 (by omega) hi, if_neg d16, if_neg (by omega), if_neg (by omega)]
        omega
      by_cases d18 : kd T z t = 18
      · rw [if_pos (show nI (kd T z t) = 18 by rw [d18]; rfl)]
        exact fin _ (fun i hi => by rw [(bt_1 _ (by omega) _ (by omega)).2]; apply decide_eq_decide.mpr; simp [d18])
      · rw [if_neg (show ¬ nI (kd T z t) = 18 by rw [ie1 (n := 18) (by omega) (by omega)]; exact d18)]
        exact fin _ (fun i hi => by rw [(bt_1 _ (by omega) _ (by omega)).1]; apply decide_eq_decide.mpr; simp [d18])
theorem copyN {j0 : Nat} (E : Nat → Sh) (hn : 20 < n) (ha : isSh a) (h18 : 48 < a) (hL : N.length ≤ 14) (hN : ∀ j, j < N.length → kd T z (N.getD j 0) = 2) (hk : kd T z t = 2) (hml : ∀ j, j < N.length → ml 15 j = l64 (uT T z (N.getD j 0))) (hj0 : j0 < N.length) (hu : ∀ j, j < N.length → (uT T z (N.getD j 0) = uT T z t ↔ j = j0)) : ∀ m j mi, j ≤ N.length → N.length - j < m → mi 12 2 = nI N.length → (∀ j, j < N.length → svS mi (21 + 2 * j) = E j) → (j0 < j → svS mi a = E j0) → ∃ mi', f_Builder_copyNamed_7 n m 12 a (l64 (uT T z t)) (nI j) (K mi ml) = some (K mi' ml) ∧ svS mi' a = E j0 ∧ ∀ b, b ≠ a + 1 → mi' b = mi b := by
  intro m
  induction m with
  | zero => intro j mi h1 h2; omega
  | succ m ih =>
    intro j mi h1 h2 h3 hE hI
    rw [f_Builder_copyNamed_7, g_12, bnd_s, h3]
    by_cases d : j = N.length
    · rw [if_pos (nI_le (by omega) (by omega))]
      exact ⟨mi, rfl, hI (by omega), fun _ _ => rfl⟩
    · have heq : lcp (l64 (uT T z (N.getD j 0))) (l64 (uT T z t)) = 0 ↔ j = j0 := by
        rw [lcp_0, l64_eq (uT_b (hN j (by omega))) (uT_b hk), hu j (by omega)]
      rw [if_neg (by rw [nI_leI (by omega) (by omega)]; omega), rf_12_3, bnd_s, a_15 (by omega), bnd_s, hml j (by omega)]
      unfold f_Builder_copyNamed_39
      by_cases e : j = j0
      · have hsj := sh_ok (sh_m j (by omega))
        rw [if_pos (heq.mpr e), rf_12_0, bnd_s, aR_13 (by omega), bnd_s, copy_s ha hsj (by omega) (by omega), bnd_s, nI_1]
        obtain ⟨m2, e1, e2, e3⟩ := ih (j + 1) (setRw mi a (mi (21 + 2 * j + 1))) (by omega) (by omega) (by rw [setRw_ne (by omega)]; exact h3) (fun i hi => by rw [sv_ne (by omega)]; exact hE i hi) (fun _ => by rw [sv_set, ← e]; exact hE j (by omega))
        exact ⟨m2, e1, e2, fun b hb => by rw [e3 b hb, setRw_ne hb]⟩
      · rw [if_neg (fun q => e (heq.mp q)), nI_1]
        exact ih (j + 1) mi (by omega) (by omega) h3 hE (fun q => hI (by omega))
theorem combS (hn : 8 < n) (ha : isSh a) (hb : isSh b) (hab : a ≠ b) (hk : kd T z t = 43 ∨ kd T z t = 45 ∨ kd T z t = 38) : ∃ mi', f_Builder_combine n a (nI (kd T z t)) b (K mi ml) = some (K mi' ml) ∧ svS mi' a = opS (wC (kd T z t, 0, 0, 0)).1 (svS mi a) (svS mi b) ∧ ∀ c, c ≠ a + 1 → mi' c = mi c := by
  unfold f_Builder_combine
  rcases hk with d | d | d
  · rw [if_pos (show nI (kd T z t) = 43 by rw [d]; rfl), join_s ha hb hab hn, bnd_s]
    exact ⟨_, rfl, by rw [sv_set, orR_S, d]; rfl, fun c q => setRw_ne q⟩
  · rw [if_neg (show ¬ nI (kd T z t) = 43 by rw [d]; decide), if_pos (show nI (kd T z t) = 45 by rw [d]; rfl), takeAway_s ha hb hab hn, bnd_s]
    exact ⟨_, rfl, by rw [sv_set, adR_S, d]; rfl, fun c q => setRw_ne q⟩
  · rw [if_neg (show ¬ nI (kd T z t) = 43 by rw [d]; decide), if_neg (show ¬ nI (kd T z t) = 45 by rw [d]; decide), keepCommon_s ha hb hab hn, bnd_s]
    exact ⟨_, rfl, by rw [sv_set, anR_S, d]; rfl, fun c q => setRw_ne q⟩
end BLD
