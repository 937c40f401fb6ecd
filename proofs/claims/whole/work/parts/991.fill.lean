/-! ===== fill ===== -/
theorem IV_mk {l nb no : Nat} {Bd Ou : Nat → Nat → Bool} {mi mi' : IM} {ml : JM} (h : IV l nb no Bd Ou mi ml) (hb : B01 mi') (hF : IvF nb mi') (hS : IvS nb no Bd Ou mi') (hR : IvR nb Bd mi') (hk : ∀ c j, St c j → ¬ DF c j → ¬ DS c j → ¬ DR c j → mi' c j = mi c j) : IV l nb no Bd Ou mi' ml := by
  obtain ⟨h1, h2, h3, h4, h5, h6, h7, h8, h9, h10⟩ := h
  refine ⟨hb, h2, IvB_c (fun c j q => hk c j (Or.inl q) ?_ ?_ ?_) h3, IvT_c (fun c j q => hk c j (Or.inr (Or.inl q)) ?_ ?_ ?_) h4, IvL_c (fun c j q => hk c j (Or.inr (Or.inr (Or.inl q))) ?_ ?_ ?_) h5, IvK_c (fun c j q => hk c j (Or.inr (Or.inr (Or.inr (Or.inl q)))) ?_ ?_ ?_) h6, hF, hS, hR, IvC_c (fun c j q => hk c j (Or.inr (Or.inr (Or.inr (Or.inr (Or.inr (Or.inr (Or.inr q))))))) ?_ ?_ ?_) h10⟩
  · unfold DB at q; unfold DF; omega
  · unfold DB at q; unfold DS; omega
  · unfold DB at q; unfold DR; omega
  · unfold DT at q; unfold DF; omega
  · unfold DT at q; unfold DS; omega
  · unfold DT at q; unfold DR; omega
  · unfold DL at q; unfold DF; omega
  · unfold DL at q; unfold DS; omega
  · unfold DL at q; unfold DR; omega
  · unfold DK at q; unfold DF; omega
  · unfold DK at q; unfold DS; omega
  · unfold DK at q; unfold DR; omega
  · unfold DC2 at q; unfold DF; omega
  · unfold DC2 at q; unfold DS; omega
  · unfold DC2 at q; unfold DR; omega
theorem BdI_of {l nb no : Nat} {Bd Ou : Nat → Nat → Bool} {mi : IM} (h : IvB l nb no Bd Ou mi) : BdI nb Bd mi := fun b hb => ⟨(h.2.2.1 b hb).1, (h.2.2.1 b hb).2.2.2.1⟩
theorem sz_of {l nb no : Nat} {Bd Ou : Nat → Nat → Bool} {mi : IM} (h : IvB l nb no Bd Ou mi) : ∀ b, b < nb → mi (223 + 24 * b) 6 = nI (ct (Bd b) 256) := fun b hb => (h.2.2.1 b hb).2.2.2.2
theorem fill_loop {n : Nat} {mi : IM} {ml : JM} (h58 : mi 559 58 = 1) (hn : 8 < n) : ∀ m b s, b ≤ 8 → 8 - b < m → (∀ c, c ≠ 596 → c ≠ 597 → c ≠ 598 → s c = mi c) → (∀ j, j < b → s 596 j = mi 599 j ∧ s 597 j = mi 600 j ∧ s 598 j = mi 601 j) → ∃ mi', f_Mo_fill_66 n m 559 (nI b) (K s ml) = some (mi 559 52, K mi' ml) ∧ (∀ c, c ≠ 596 → c ≠ 597 → c ≠ 598 → mi' c = mi c) ∧ ∀ j, j < 8 → mi' 596 j = mi 599 j ∧ mi' 597 j = mi 600 j ∧ mi' 598 j = mi 601 j := by
  intro m
  induction m with
  | zero => intro b s h1 h2; omega
  | succ m ih =>
    intro b s h1 h2 h3 h4
    rw [f_Mo_fill_66]
    by_cases c : b = 8
    · subst c
      rw [if_pos (by decide), g_559, bnd_s, h3 559 (by omega) (by omega) (by omega)]
      exact ⟨s, rfl, h3, h4⟩
    · rw [if_neg (by rw [il1 (n := 8) (by omega) (by omega)]; omega), g_559, bnd_s, h3 559 (by omega) (by omega) (by omega), h58, if_neg n10, rf_559_59, bnd_s, rf_559_62, bnd_s, a_599 (by omega), bnd_s, s_596 (by omega), bnd_s, nrw100]
      generalize e1 : upd2 s 596 b (s 599 b) = t1
      have g1 : ∀ c, c ≠ 596 → t1 c = s c := fun c hc => by rw [← e1, upd2_ne hc]
      rw [rf_559_60, bnd_s, rf_559_63, bnd_s, a_600 (by omega), bnd_s, s_597 (by omega), bnd_s, nrw100]
      generalize e2 : upd2 t1 597 b (t1 600 b) = t2
      have g2 : ∀ c, c ≠ 597 → t2 c = t1 c := fun c hc => by rw [← e2, upd2_ne hc]
      rw [rf_559_61, bnd_s, rf_559_64, bnd_s, a_601 (by omega), bnd_s, s_598 (by omega), bnd_s, nrw100, nI_1]
      refine ih (b + 1) _ (by omega) (by omega) (fun c q1 q2 q3 => by rw [upd2_ne q3, g2 c q2, g1 c q1]; exact h3 c q1 q2 q3) (fun j hj => ?_)
      have k1 : s 599 b = mi 599 b := by rw [h3 599 (by omega) (by omega) (by omega)]
      have k2 : t1 600 b = mi 600 b := by rw [g1 600 (by omega), h3 600 (by omega) (by omega) (by omega)]
      have k3 : t2 601 b = mi 601 b := by rw [g2 601 (by omega), g1 601 (by omega), h3 601 (by omega) (by omega) (by omega)]
      rw [upd2_ne (by omega), upd2_ne (by omega), u2, g2 596 (by omega), ← e1, u2, k3]
      have k4 : t2 597 j = if j = b then mi 600 b else s 597 j := by
        rw [← e2, u2]
        by_cases d : j = b
        · rw [if_pos ⟨rfl, d⟩, if_pos d, k2]
        · rw [if_neg (fun q => d q.2), if_neg d, g1 597 (by omega)]
      rw [k4]
      by_cases d : j = b
      · rw [if_pos ⟨rfl, d⟩, if_pos d, if_pos ⟨rfl, d⟩, d, k1]; exact ⟨rfl, rfl, rfl⟩
      · rw [if_neg (fun q => d q.2), if_neg d, if_neg (fun q => d q.2), g2 598 (by omega), g1 598 (by omega)]
        exact h4 j (by omega)
theorem sq_fill {x1 x2 : Int32} : SQ Inv (f_Q_fill NF 0 x1 x2) (f_Mo_fill NF 559 x1 x2) := by
  rintro M ⟨mi, ml, rfl, l, nb, no, Bd, Ou, hI⟩
  have hB := hI.2.2.1
  have hnb : nb ≤ 8 := hB.1.2.1
  have hno6 : no ≤ 6 := hB.1.2.2
  obtain ⟨F1, F2⟩ := hI.2.2.2.2.2.2.1
  unfold f_Q_fill f_Filler_forget
  rw [o_0, rf_0_12, bnd_s, o_81, p_81, bnd_s, bnd_s]
  generalize e0 : upd2 mi 81 9 0 = m0
  have v0 : ∀ c j, ¬ (c = 81 ∧ j = 9) → m0 c j = mi c j := fun c j q => by rw [← e0, u2, if_neg q]
  have hB0 : IvB l nb no Bd Ou m0 := IvB_c (fun c j q => v0 c j (by unfold DB at q; omega)) hB
  have n9 : m0 81 9 = 0 := by rw [← e0, u2, if_pos ⟨rfl, rfl⟩]
  have Mm : ∀ m1, f_Mo_fill NF 559 x1 x2 (K m1 ml) = ((f_Mo_isOutlineThere NF 559 x1 (K (upd2 m1 559 58 0) ml)).bind fun p20 => if p20.1 = 0 then some ((-1), p20.2) else (f_Mo_isSet NF 559 x2 p20.2).bind fun p22 => if p22.1 = 0 then some ((-1), p22.2) else (f_Mo_looks NF 559 x1 x2 1 p22.2).bind fun M24 => (gI 12 51 559 M24).bind fun v25 => (pI 12 50 559 v25 M24).bind fun M26 => (gI 12 53 559 M26).bind fun v27 => if v27 = 0 then (gI 12 52 559 M26).bind fun v29 => if v29 ≤ 0 then f_Mo_fill_61 NF 559 559 0 M26 else f_Mo_fill_61 NF 559 559 1 M26 else some ((-2), M26)) := fun m1 => by
    unfold f_Mo_fill
    rw [o_559, z_559 (by decide), bnd_s]
  -- nothing is remembered, and nothing was looked for
  have none2 : ∀ (f : Option (Int32 × MM)), f = some (-1, K m0 ml) → f_Mo_fill NF 559 x1 x2 (K m0 ml) = some (-1, K (upd2 m0 559 58 0) ml) → ∃ (r : Int32) (M1 M2 : MM), f = some (r, M1) ∧ f_Mo_fill NF 559 x1 x2 M1 = some (r, M2) ∧ Inv M2 := by
    intro f hf hm
    refine ⟨-1, K m0 ml, _, hf, hm, _, ml, rfl, l, nb, no, Bd, Ou, ?_⟩
    have v1 : ∀ c j, ¬ DF c j → upd2 m0 559 58 0 c j = mi c j := fun c j q => by
      unfold DF at q
      rw [u2, if_neg (by omega), v0 c j (by omega)]
    refine IV_mk hI (fun j => by rw [v1 567 j (by unfold DF; omega)]; exact hI.1 j) ⟨?_, Or.inl ⟨?_, ?_⟩⟩ (IvS_c hno6 (fun c j q => v1 c j (by unfold DS at q; unfold DF; omega)) hI.2.2.2.2.2.2.2.1) (IvR_c (fun c j q => v1 c j (by unfold DR at q; unfold DF; omega)) hI.2.2.2.2.2.2.2.2.1) (fun c j _ q _ _ => v1 c j q)
    · rw [upd2_ne (by omega), v0 81 0 (by omega), u2, if_neg (by omega), v0 559 50 (by omega)]; exact F1
    · rw [upd2_ne (by omega)]; exact n9
    · rw [u2, if_pos ⟨rfl, rfl⟩]
  have hB1 : IvB l nb no Bd Ou (upd2 m0 559 58 0) := IvB_c (fun c j q => by rw [u2, if_neg (by unfold DB at q; omega)]) hB0
  rcases form_of (n := NF) (ml := ml) (x1 := 1) (x2 := x1) (Or.inr rfl) hB0 with ⟨e1, e2, e3⟩ | ⟨a, p, k, S, e00, e1, e2, e3, e4, e5, e7, e6⟩
  · refine none2 _ (by rw [e1, bnd_s]; rfl) ?_
    rw [Mm m0, there_n hB1 e3, bnd_s, if_pos (show (0 : Int32) = 0 from rfl)]
  · rcases e7 with ⟨q, _⟩ | ⟨_, hk, ea, ep, eS⟩
    · exact absurd q (by decide)
    · subst e00
      rw [e4, bnd_s]
      rcases set_c (l := l) (no := no) (n := NF) (Bd := Bd) (Ou := Ou) (ml := ml) x2 hnb with g | ⟨s, s1, s2, s3, s4⟩
      · refine none2 _ ?_ ?_
        · show ((f_Q_isSet NF 0 x2 (K m0 ml)).bind fun p5 => if p5.1 = 0 then some ((-1), p5.2) else (gR 11 12 0 p5.2).bind fun v7 => (f_Filler_countAll NF v7 a x2 p5.2).bind fun p8 => some (p8.1, p8.2)) = _
          rw [(g m0 hB0).1, bnd_s, if_pos (show (0 : Int32) = 0 from rfl)]
        · rw [Mm m0, there_y hB1 hk, bnd_s, if_neg n10, (g _ hB1).2, bnd_s, if_pos (show (0 : Int32) = 0 from rfl)]
      · subst s3
        have hS0 : svS m0 (a + 1) = Ou k := by rw [e5.2.2.2.1.1, eS]
        obtain ⟨m1, c1, ⟨c2, c3, c4⟩, ⟨c5, c6⟩, c7, c8⟩ := lookS (n := NF) (al := true) (mi := m0) (ml := ml) (Bd := Bd) (set := s) (a := a) (O := Ou k) hnb s2 (by omega) (sz_of hB0) (BdI_of hB0) e1 (by omega) hS0 (by rw [e5.2.2.2.2, eS]) (by decide)
        generalize hs : lok Bd true (Ou k) s = sf at *
        -- the class
        have Q : ∃ m2 r, (f_Filler_countAll NF 81 a (nI s) (K m0 ml)) = some (r, K m2 ml) ∧ r = (if sf.2.2.1 = true then -2 else nI sf.2.1) ∧ m2 81 0 = nI sf.1 ∧ (sf.2.2.1 = true → m2 81 9 = 0) ∧ (sf.2.2.1 = false → 0 < sf.2.1 → m2 81 9 = nI s) ∧ (sf.2.2.1 = false → sf.2.1 = 0 → m2 81 9 = 0) ∧ (∀ c j, ¬ (c = 81 ∧ (j = 0 ∨ j = 9)) → m2 c j = m1 c j) := by
          unfold f_Filler_countAll
          rw [o_81, show f_Filler_look NF 81 a (nI s) 0 (K m0 ml) = some (K m1 ml) from c1, bnd_s, g_81, bnd_s, c3, p_81, bnd_s, g_81, bnd_s, u2, if_neg (show ¬ ((81 : Nat) = 81 ∧ (4 : Nat) = 0) by omega), c2]
          have k9 : m1 81 9 = 0 := by rw [c8 81 9 (by omega) (by omega) (by omega) (by omega)]; exact n9
          cases hf : sf.2.2.1 with
          | true =>
            rw [if_neg (show ¬ b2i true = 0 by decide)]
            exact ⟨_, _, rfl, by rw [if_pos rfl], by rw [u2, if_pos ⟨rfl, rfl⟩], (fun _ => by rw [u2, if_neg (by omega)]; exact k9), (fun q => by cases q), (fun q => by cases q), fun c j q => by rw [u2, if_neg (by omega)]⟩
          | false =>
            rw [if_pos (show b2i false = 0 from rfl), g_81, bnd_s, u2, if_neg (show ¬ ((81 : Nat) = 81 ∧ (6 : Nat) = 0) by omega), c4]
            by_cases hw : 0 < sf.2.1
            · rw [if_neg (by rw [il2 (n := 0) (by omega) (by omega)]; omega), p_81, bnd_s, g_81, bnd_s, u2, if_neg (show ¬ ((81 : Nat) = 81 ∧ (6 : Nat) = 9) by omega), u2, if_neg (show ¬ ((81 : Nat) = 81 ∧ (6 : Nat) = 0) by omega), c4]
              exact ⟨_, _, rfl, by rw [if_neg (by decide)], by rw [u2, if_neg (by omega), u2, if_pos ⟨rfl, rfl⟩], (fun q => by cases q), (fun _ _ => by rw [u2, if_pos ⟨rfl, rfl⟩]), (fun _ q => by omega), fun c j q => by rw [u2, if_neg (by omega), u2, if_neg (by omega)]⟩
            · rw [if_pos (by rw [il2 (n := 0) (by omega) (by omega)]; omega), p_81, bnd_s, g_81, bnd_s, u2, if_neg (show ¬ ((81 : Nat) = 81 ∧ (6 : Nat) = 9) by omega), u2, if_neg (show ¬ ((81 : Nat) = 81 ∧ (6 : Nat) = 0) by omega), c4]
              exact ⟨_, _, rfl, by rw [if_neg (by decide)], by rw [u2, if_neg (by omega), u2, if_pos ⟨rfl, rfl⟩], (fun q => by cases q), (fun _ q => by omega), (fun _ _ => by rw [u2, if_pos ⟨rfl, rfl⟩]), fun c j q => by rw [u2, if_neg (by omega), u2, if_neg (by omega)]⟩
        obtain ⟨m2, r, q1, q2, q3, q4, q5, q6, q7⟩ := Q
        have w2 : ∀ c j, ¬ (c = 81 ∧ (j = 0 ∨ j = 9 ∨ (3 ≤ j ∧ j ≤ 6))) → c ≠ 83 → c ≠ 84 → c ≠ 85 → m2 c j = mi c j := fun c j h1 h2 h3 h4 => by rw [q7 c j (by omega), c8 c j (by omega) h2 h3 (by omega), v0 c j (by omega)]
        have hB2 : IvB l nb no Bd Ou m2 := IvB_c (fun c j q => w2 c j (by unfold DB at q; omega) (by unfold DB at q; omega) (by unfold DB at q; omega) (by unfold DB at q; omega)) hB
        have hB3 : IvB l nb no Bd Ou (upd2 m2 559 58 0) := IvB_c (fun c j q => by rw [u2, if_neg (by unfold DB at q; omega)]) hB2
        have hR3 : IvR nb Bd (upd2 m2 559 58 0) := IvR_c (fun c j q => by rw [u2, if_neg (by unfold DR at q; omega)]; exact w2 c j (by unfold DR at q; omega) (by unfold DR at q; omega) (by unfold DR at q; omega) (by unfold DR at q; omega)) hI.2.2.2.2.2.2.2.2.1
        have b3 : B01 (upd2 m2 559 58 0) := fun j => by rw [upd2_ne (by omega), w2 567 j (by omega) (by omega) (by omega) (by omega)]; exact hI.1 j
        obtain ⟨m4, d1, d2, d3, d4, d5⟩ := lookM (n := NF) (al := true) (ml := ml) (set := s) (k := k) b3 hB3 hR3 s2 (by omega) hk (by decide)
        rw [hs] at d2
        have v4 : ∀ c j, ¬ (588 ≤ c ∧ c ≤ 595) → ¬ (599 ≤ c ∧ c ≤ 601) → ¬ (c = 559 ∧ (j = 48 ∨ (51 ≤ j ∧ j ≤ 53))) → ¬ (c = 567 ∧ 11264 ≤ j ∧ j < 12800) → ¬ (c = 559 ∧ j = 58) → m4 c j = m2 c j := fun c j h1 h2 h3 h4 h5 => by rw [d5 c j h1 h2 h3 h4, u2, if_neg h5]
        have M4 : f_Mo_fill NF 559 (nI k) (nI s) (K m2 ml) = (if sf.2.2.1 = true then some (-2, K (upd2 m4 559 50 (nI sf.1)) ml) else if 0 < sf.2.1 then f_Mo_fill_61 NF 559 559 1 (K (upd2 m4 559 50 (nI sf.1)) ml) else f_Mo_fill_61 NF 559 559 0 (K (upd2 m4 559 50 (nI sf.1)) ml)) := by
          rw [Mm m2, there_y hB3 hk, bnd_s, if_neg n10, (s4 _ hB3).2, bnd_s, if_neg n10, show f_Mo_looks NF 559 (nI k) (nI s) 1 (K (upd2 m2 559 58 0) ml) = some (K m4 ml) from d1, bnd_s, g_559, bnd_s, d2.1.1, p_559, bnd_s, g_559, bnd_s, show upd2 m4 559 50 (nI sf.1) 559 53 = b2i sf.2.2.1 from by rw [u2, if_neg (by omega)]; exact d2.1.2.2]
          cases hf : sf.2.2.1 with
          | true => rw [if_neg (show ¬ b2i true = 0 by decide), if_pos rfl]
          | false =>
            rw [if_pos (show b2i false = 0 from rfl), if_neg (show ¬ false = true by decide), g_559, bnd_s, show upd2 m4 559 50 (nI sf.1) 559 52 = nI sf.2.1 from by rw [u2, if_neg (by omega)]; exact d2.1.2.1]
            by_cases hw : 0 < sf.2.1
            · rw [if_neg (show ¬ nI sf.2.1 ≤ 0 by rw [il2 (n := 0) (by omega) (by omega)]; omega), if_pos hw]
            · rw [if_pos (show nI sf.2.1 ≤ 0 by rw [il2 (n := 0) (by omega) (by omega)]; omega), if_neg hw]
        -- what comes of it
        have fin : ∀ m6, B01 m6 → (∀ c j, ¬ (c = 559 ∧ (j = 50 ∨ j = 58)) → c ≠ 596 → c ≠ 597 → c ≠ 598 → m6 c j = m4 c j) → IvF nb m6 → IV l nb no Bd Ou m6 ml := by
          intro m6 h1 h2 h3
          refine IV_mk hI h1 h3 (IvS_c hno6 (fun c j q => ?_) hI.2.2.2.2.2.2.2.1) (IvR_c (fun c j q => ?_) d3) (fun c j hs h4 h5 h6 => ?_)
          · unfold DS at q
            rw [h2 c j (by omega) (by omega) (by omega) (by omega), v4 c j (by omega) (by omega) (by omega) (by omega) (by omega), w2 c j (by omega) (by omega) (by omega) (by omega)]
          · unfold DR at q
            exact h2 c j (by omega) (by omega) (by omega) (by omega)
          · have : ¬ (c = 559 ∧ (j = 50 ∨ j = 58)) ∧ c ≠ 596 ∧ c ≠ 597 ∧ c ≠ 598 ∧ ¬ (588 ≤ c ∧ c ≤ 595) ∧ ¬ (599 ≤ c ∧ c ≤ 601) ∧ ¬ (c = 559 ∧ (j = 48 ∨ (51 ≤ j ∧ j ≤ 53))) ∧ ¬ (c = 567 ∧ 11264 ≤ j ∧ j < 12800) ∧ ¬ (c = 81 ∧ (j = 0 ∨ j = 9 ∨ (3 ≤ j ∧ j ≤ 6))) ∧ c ≠ 83 ∧ c ≠ 84 ∧ c ≠ 85 := by
              unfold DF at h4
              unfold DR at h6
              unfold St DB DT DL DK DF DS DR DC2 at hs
              omega
            obtain ⟨t1, t2, t3, t4, t5, t6, t7, t8, t9, t10, t11, t12⟩ := this
            rw [h2 c j t1 t2 t3 t4, v4 c j t5 t6 t7 t8 (by omega), w2 c j t9 t10 t11 t12]
        have Qt : (f_Q_isSet NF 0 (nI s) (K m0 ml)).bind (fun p5 => if p5.1 = 0 then some ((-1), p5.2) else (gR 11 12 0 p5.2).bind fun v7 => (f_Filler_countAll NF v7 a (nI s) p5.2).bind fun p8 => some (p8.1, p8.2)) = some (r, K m2 ml) := by
          rw [(s4 m0 hB0).1, bnd_s, if_neg n10, rf_0_12, bnd_s, q1, bnd_s]
        have st0 : ∀ m6 : IM, (∀ c j, ¬ (c = 559 ∧ (j = 50 ∨ j = 58)) → c ≠ 596 → c ≠ 597 → c ≠ 598 → m6 c j = m4 c j) → m6 81 0 = nI sf.1 ∧ m6 81 9 = m2 81 9 := fun m6 h => by
          rw [h 81 0 (by omega) (by omega) (by omega) (by omega), h 81 9 (by omega) (by omega) (by omega) (by omega), v4 81 0 (by omega) (by omega) (by omega) (by omega) (by omega), v4 81 9 (by omega) (by omega) (by omega) (by omega) (by omega)]
          exact ⟨q3, rfl⟩
        refine ⟨r, K m2 ml, ?_⟩
        cases hf : sf.2.2.1 with
        | true =>
          rw [hf, if_pos rfl] at q2 M4
          refine ⟨K (upd2 m4 559 50 (nI sf.1)) ml, Qt, by rw [M4, q2], _, ml, rfl, l, nb, no, Bd, Ou, fin _ (fun j => by rw [upd2_ne (by omega)]; exact d4 j) (fun c j q _ _ _ => by rw [u2, if_neg (by omega)]) ?_⟩
          have hst := st0 (upd2 m4 559 50 (nI sf.1)) (fun c j q _ _ _ => by rw [u2, if_neg (by omega)])
          refine ⟨by rw [hst.1, u2, if_pos ⟨rfl, rfl⟩], Or.inl ⟨by rw [hst.2]; exact q4 hf, ?_⟩⟩
          rw [u2, if_neg (by omega), d5 559 58 (by omega) (by omega) (by omega) (by omega), u2, if_pos ⟨rfl, rfl⟩]
        | false =>
          rw [hf, if_neg (show ¬ false = true by decide)] at q2 M4
          by_cases hw : 0 < sf.2.1
          · rw [if_pos hw] at M4
            generalize e5 : upd2 (upd2 m4 559 50 (nI sf.1)) 559 58 1 = m5
            have v5 : ∀ c j, ¬ (c = 559 ∧ (j = 50 ∨ j = 58)) → m5 c j = m4 c j := fun c j q => by rw [← e5, u2, if_neg (by omega), u2, if_neg (by omega)]
            obtain ⟨m6, t1, t2, t3⟩ := fill_loop (n := NF) (mi := m5) (ml := ml) (by rw [← e5, u2, if_pos ⟨rfl, rfl⟩]) (by decide) NF 0 m5 (by omega) (by decide) (fun _ _ _ _ => rfl) (fun j hj => by omega)
            have v6 : ∀ c j, ¬ (c = 559 ∧ (j = 50 ∨ j = 58)) → c ≠ 596 → c ≠ 597 → c ≠ 598 → m6 c j = m4 c j := fun c j h1 h2 h3 h4 => by rw [t2 c h2 h3 h4, v5 c j h1]
            refine ⟨K m6 ml, Qt, ?_, m6, ml, rfl, l, nb, no, Bd, Ou, fin m6 (fun j => by rw [v6 567 j (by omega) (by omega) (by omega) (by omega)]; exact d4 j) v6 ?_⟩
            · refine M4.trans ?_
              unfold f_Mo_fill_61
              rw [z_559 (by decide), bnd_s, e5, show (0 : Int32) = nI 0 from rfl, t1, v5 559 52 (by omega), d2.1.2.1, q2]
            · have hst := st0 m6 v6
              refine ⟨by rw [hst.1, t2 559 (by omega) (by omega) (by omega), ← e5, u2, if_neg (by omega), u2, if_pos ⟨rfl, rfl⟩], Or.inr ⟨by rw [t2 559 (by omega) (by omega) (by omega), ← e5, u2, if_pos ⟨rfl, rfl⟩], s, s2, by rw [hst.2]; exact q5 hf hw, fun b hb => ⟨fun hsb => ?_, fun hsb => ?_⟩⟩⟩
              · obtain ⟨g, x, y, g1, g2, g3, g4, g5, g6, g7⟩ := (d2.2.2 rfl hw b hb).1 hsb
                refine ⟨g, x, y, g1, g2, g3, ?_, ?_, ?_, ?_⟩
                · rw [v6 85 b (by omega) (by omega) (by omega) (by omega), v4 85 b (by omega) (by omega) (by omega) (by omega) (by omega), q7 85 b (by omega), c7 rfl hw b hb hsb, g4]
                · rw [(t3 b hb).1, v5 599 b (by omega)]; exact g5
                · rw [(t3 b hb).2.1, v5 600 b (by omega)]; exact g6
                · rw [(t3 b hb).2.2, v5 601 b (by omega)]; exact g7
              · rw [(t3 b hb).1, v5 599 b (by omega)]; exact (d2.2.2 rfl hw b hb).2 hsb
          · rw [if_neg hw] at M4
            generalize e5 : upd2 (upd2 m4 559 50 (nI sf.1)) 559 58 0 = m5
            have v5 : ∀ c j, ¬ (c = 559 ∧ (j = 50 ∨ j = 58)) → m5 c j = m4 c j := fun c j q => by rw [← e5, u2, if_neg (by omega), u2, if_neg (by omega)]
            refine ⟨K m5 ml, Qt, ?_, m5, ml, rfl, l, nb, no, Bd, Ou, fin m5 (fun j => by rw [v5 567 j (by omega)]; exact d4 j) (fun c j q _ _ _ => v5 c j q) ?_⟩
            · refine M4.trans ?_
              unfold f_Mo_fill_61
              obtain ⟨N, hN⟩ : ∃ N, NF = N + 1 := ⟨NF - 1, by decide⟩
              rw [z_559 (by decide), bnd_s, e5, hN, f_Mo_fill_66, if_neg (by decide), g_559, bnd_s, show m5 559 58 = 0 from by rw [← e5, u2, if_pos ⟨rfl, rfl⟩], if_pos (show (0 : Int32) = 0 from rfl), g_559, bnd_s, v5 559 52 (by omega), d2.1.2.1, q2]
            · have hst := st0 m5 (fun c j q _ _ _ => v5 c j q)
              exact ⟨by rw [hst.1, ← e5, u2, if_neg (by omega), u2, if_pos ⟨rfl, rfl⟩], Or.inl ⟨by rw [hst.2]; exact q6 hf (by omega), by rw [← e5, u2, if_pos ⟨rfl, rfl⟩]⟩⟩
