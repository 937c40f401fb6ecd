/-! ===== FILLINGS in the reference: a level ===== -/
def stP (P : Nat → Nat) (t k : Nat) : Nat → Nat := fun i => if i = t then k else P i
def LMs (n nb l set : Nat) (al : Bool) (Bd : Nat → Nat → Bool) (ml : JM) (d : Nat) : Prop :=
  ∀ r k, k + r = 8 * nb → ∀ (P Q : Nat → Nat) (L : Nat → Bool) (U : Nat) (W : Nat → Nat) (s : SS) (V : Nat) (mi : IM) (m : Nat), U ≠ 0 → LV nb set Bd (d + 1) L U → PS nb set Bd (7 - d) P Q U W V → CST nb l Bd mi → MLf L mi → SKm Bd (7 - d) P Q mi → RS set al s mi → mi 592 (7 - d) = nI (lo L) → CP mi (7 - d) k → ovr al s = false → 66 * (60000 - s.1) + (65 - k) < m →
  ∃ m' mi', FMk mi mi' ∧ RS set al (fl (bod Bd al (lvl Bd al d) L U W) (64 - k) k s) mi' ∧ ((ovr al (fl (bod Bd al (lvl Bd al d) L U W) (64 - k) k s) = true ∧ f_Mo_looks_164 n m 559 (nI set) (b2i al) (nI V) (nI (7 - d)) (K mi ml) = some (K mi' ml)) ∨ (ovr al (fl (bod Bd al (lvl Bd al d) L U W) (64 - k) k s) = false ∧ f_Mo_looks_164 n m 559 (nI set) (b2i al) (nI V) (nI (7 - d)) (K mi ml) = exM n m' (nI set) (b2i al) (nI V) (nI (7 - d)) (K mi' ml) ∧ MLf L mi' ∧ SKm Bd (7 - d) P Q mi' ∧ m ≤ m' + (65 - k) + 66 * ((fl (bod Bd al (lvl Bd al d) L U W) (64 - k) k s).1 - s.1)))
theorem fl_le {Bd : Nat → Nat → Bool} {al : Bool} {d : Nat} {L : Nat → Bool} {U : Nat} {W : Nat → Nat} : ∀ m k (s : SS), s.1 ≤ (fl (bod Bd al (lvl Bd al d) L U W) m k s).1 := by
  intro m
  induction m with
  | zero => intro k s; exact Nat.le_refl _
  | succ m ih =>
    intro k s
    have h1 := ih (k + 1) (bod Bd al (lvl Bd al d) L U W k s)
    have h2 : s.1 ≤ (bod Bd al (lvl Bd al d) L U W k s).1 := by
      unfold bod
      by_cases c1 : ovr al s = true
      · rw [if_pos c1]; exact Nat.le_refl _
      · rw [if_neg c1]
        by_cases c2 : cdK Bd U k (lo L) = true
        · rw [if_pos c2]
          by_cases c3 : s.1 = 60000
          · rw [if_pos c3]; exact Nat.le_refl _
          · rw [if_neg c3]
            by_cases c4 : fitS (laK Bd k (lo L)) L = true
            · rw [if_pos c4]
              by_cases c5 : U - 2 ^ (k / 8) = 0
              · rw [if_pos c5]; exact Nat.le_succ _
              · rw [if_neg c5]
                exact Nat.le_trans (Nat.le_succ _) (lvl_le d (lvB L (laK Bd k (lo L))) (U - 2 ^ (k / 8)) (wyK Bd W k (lo L)) (s.1 + 1, s.2)).1
            · rw [if_neg c4]; exact Nat.le_succ _
        · rw [if_neg c2]; exact Nat.le_refl _
    exact Nat.le_trans h2 h1
theorem levelM {n nb l set d : Nat} {al : Bool} {Bd : Nat → Nat → Bool} {ml : JM} (hnb : nb ≤ 8) (hset : set < 2 ^ nb) (hd : d < 8) (hn : 256 < n) (hIH : ∀ d', d = d' + 1 → LMs n nb l set al Bd ml d') : LMs n nb l set al Bd ml d := by
  have hp := p_nb hnb
  have hset8 : set < 256 := by omega
  intro r
  induction r with
  | zero =>
    intro k hk P Q L U W s V mi m hU hLV hPS hC hML hSK hRS h592 hCP hov hm
    obtain ⟨m0, rfl⟩ : ∃ m0, m = m0 + 1 := ⟨m - 1, by omega⟩
    have hsame : fl (bod Bd al (lvl Bd al d) L U W) (64 - k) k s = s := fl_id _ _ fun i h1 h2 => bod_no (by unfold cdK; rw [tb_out hLV.2.1 (show nb ≤ i / 8 by omega)]; rfl)
    rw [hsame, pos_s (by omega) (by omega) hCP]
    unfold f_Mo_looks_202
    rw [rf_559_55, bnd_s, s_593 (by omega), bnd_s, rf_559_56, bnd_s, s_594 (by omega), bnd_s, rf_559_21, bnd_s, g_559, bnd_s, nrw100, nrw100]
    generalize e6 : upd2 (upd2 mi 593 (7 - d) (nI (k / 8))) 594 (7 - d) (nI (k % 8)) = m6
    have v6 : ∀ c j, ¬ (c = 593 ∧ j = 7 - d) → ¬ (c = 594 ∧ j = 7 - d) → m6 c j = mi c j := fun c j q1 q2 => by rw [← e6, u2, if_neg q2, u2, if_neg q1]
    have f6 : FMk mi m6 := fun c j q1 _ _ => v6 c j (by omega) (by omega)
    have hC6 := CST_c hC f6
    rw [hC6.1.2.1, a_568 (by have := hC.1.1; omega), bnd_s, hC6.1.2.2, if_neg (by rw [nI_ltI (by omega) (by omega)]; omega)]
    refine ⟨m0, m6, f6, ?_, Or.inr ⟨hov, rfl, ?_, ?_, by omega⟩⟩
    · exact ⟨⟨by rw [v6 559 51 (by omega) (by omega)]; exact hRS.1.1, by rw [v6 559 52 (by omega) (by omega)]; exact hRS.1.2.1, by rw [v6 559 53 (by omega) (by omega)]; exact hRS.1.2.2⟩, hRS.2.1, fun a1 a2 b hb => by
        rw [v6 599 b (by omega) (by omega), v6 600 b (by omega) (by omega), v6 601 b (by omega) (by omega)]; exact hRS.2.2 a1 a2 b hb⟩
    · intro i hi; rw [v6 591 i (by omega) (by omega)]; exact hML i hi
    · intro i hi
      rw [v6 592 i (by omega) (by omega), v6 593 i (by omega) (by omega), v6 594 i (by omega) (by omega), v6 595 i (by omega) (by omega)]; exact hSK i hi
  | succ r ih =>
    intro k hk P Q L U W s V mi m hU hLV hPS hC hML hSK hRS h592 hCP hov hm
    obtain ⟨m0, rfl⟩ : ∃ m0, m = m0 + 1 := ⟨m - 1, by omega⟩
    have hk8 : k / 8 < nb := by omega
    have hU8 : U < 256 := Nat.lt_of_lt_of_le hLV.2.1 hp
    have hLn : noS L = false := by
      cases q : noS L with
      | false => rfl
      | true =>
        by_cases c : ∃ b, b < 8 ∧ U.testBit b = true
        · obtain ⟨b, b1, b2⟩ := c
          have hbn : b < nb := by
            by_cases c : nb ≤ b
            · rw [tb_out hLV.2.1 c] at b2; cases b2
            · omega
          have h1 := ct_noS.mp q
          have h2 := ar_pos (Bd := Bd) hU8 b1 b2 (hC.2.1 b hbn)
          have h3 := hLV.2.2.2.1
          omega
        · exact absurd ((U_0 U hU8).mpr fun k hk => by
            cases t : U.testBit k with
            | false => rfl
            | true => exact absurd ⟨k, hk, t⟩ c) hU
    have hq := (lo_s hLn).1
    have hno : noS (imK Bd k) = false := im_no _ (hC.2.1 _ hk8)
    obtain ⟨p1, p2, p3, p4, p5⟩ := hPS
    have hVU := p5 (k / 8) (by omega)
    have flk : fl (bod Bd al (lvl Bd al d) L U W) (64 - k) k s = fl (bod Bd al (lvl Bd al d) L U W) (64 - (k + 1)) (k + 1) (bod Bd al (lvl Bd al d) L U W k s) := by
      rw [show 64 - k = (64 - (k + 1)) + 1 by omega]; rfl
    -- going on with the next place
    have next : ∀ (s1 : SS) (m1 : IM) (m2 : Nat), bod Bd al (lvl Bd al d) L U W k s = s1 → ovr al s1 = false → FMk mi m1 → MLf L m1 → SKm Bd (7 - d) P Q m1 → RS set al s1 m1 → m1 592 (7 - d) = nI (lo L) → CP m1 (7 - d) (k + 1) → s.1 ≤ s1.1 → m0 + 1 ≤ m2 + 1 + 66 * (s1.1 - s.1) → ∀ X : Option MM, X = f_Mo_looks_164 n m2 559 (nI set) (b2i al) (nI V) (nI (7 - d)) (K m1 ml) → ∃ m' mi', FMk mi mi' ∧ RS set al (fl (bod Bd al (lvl Bd al d) L U W) (64 - k) k s) mi' ∧ ((ovr al (fl (bod Bd al (lvl Bd al d) L U W) (64 - k) k s) = true ∧ X = some (K mi' ml)) ∨ (ovr al (fl (bod Bd al (lvl Bd al d) L U W) (64 - k) k s) = false ∧ X = exM n m' (nI set) (b2i al) (nI V) (nI (7 - d)) (K mi' ml) ∧ MLf L mi' ∧ SKm Bd (7 - d) P Q mi' ∧ m0 + 1 ≤ m' + (65 - k) + 66 * ((fl (bod Bd al (lvl Bd al d) L U W) (64 - k) k s).1 - s.1))) := by
      intro s1 m1 m2 g1 g2 g3 g4 g5 g6 g7 g8 g9 g10 X hX
      have hs1 := g6.2.1.1
      obtain ⟨m', mi', t1, t2, t3⟩ := ih (k + 1) (by omega) P Q L U W s1 V m1 m2 hU hLV ⟨p1, p2, p3, p4, p5⟩ (CST_c hC g3) g4 g5 g6 g7 g8 g2 (by omega)
      have hle := fl_le (Bd := Bd) (al := al) (d := d) (L := L) (U := U) (W := W) (64 - (k + 1)) (k + 1) s1
      rw [flk, g1, hX]
      refine ⟨m', mi', g3.tr t1, t2, ?_⟩
      rcases t3 with ⟨w1, w2⟩ | ⟨w1, w2, w3, w4, w5⟩
      · exact Or.inl ⟨w1, w2⟩
      · exact Or.inr ⟨w1, w2, w3, w4, by omega⟩
    rw [pos_s (by omega) (by omega) hCP]
    unfold f_Mo_looks_202
    rw [rf_559_55, bnd_s, s_593 (by omega), bnd_s, rf_559_56, bnd_s, s_594 (by omega), bnd_s, rf_559_21, bnd_s, g_559, bnd_s, nrw100, nrw100]
    generalize e6 : upd2 (upd2 mi 593 (7 - d) (nI (k / 8))) 594 (7 - d) (nI (k % 8)) = m6
    have v6 : ∀ c j, ¬ (c = 593 ∧ j = 7 - d) → ¬ (c = 594 ∧ j = 7 - d) → m6 c j = mi c j := fun c j q1 q2 => by rw [← e6, u2, if_neg q2, u2, if_neg q1]
    have f6 : FMk mi m6 := fun c j q1 _ _ => v6 c j (by omega) (by omega)
    have hC6 := CST_c hC f6
    have n93 : m6 593 (7 - d) = nI (k / 8) := by rw [← e6, upd2_ne (by omega), u2, if_pos ⟨rfl, rfl⟩]
    have n94 : m6 594 (7 - d) = nI (k % 8) := by rw [← e6, u2, if_pos ⟨rfl, rfl⟩]
    have hCP6 : ∀ m1 : IM, m1 593 (7 - d) = nI (k / 8) → m1 594 (7 - d) = nI (k % 8) → CP m1 (7 - d) (k + 1) := fun m1 q1 q2 => Or.inr ⟨by omega, by rw [q1, Nat.add_sub_cancel], by rw [q2, Nat.add_sub_cancel]⟩
    have hML6 : MLf L m6 := fun i hi => by rw [v6 591 i (by omega) (by omega)]; exact hML i hi
    have hSK6 : SKm Bd (7 - d) P Q m6 := fun i hi => by
      rw [v6 592 i (by omega) (by omega), v6 593 i (by omega) (by omega), v6 594 i (by omega) (by omega), v6 595 i (by omega) (by omega)]; exact hSK i hi
    have hRS6 : RS set al s m6 := ⟨⟨by rw [v6 559 51 (by omega) (by omega)]; exact hRS.1.1, by rw [v6 559 52 (by omega) (by omega)]; exact hRS.1.2.1, by rw [v6 559 53 (by omega) (by omega)]; exact hRS.1.2.2⟩, hRS.2.1, fun a1 a2 b hb => by
        rw [v6 599 b (by omega) (by omega), v6 600 b (by omega) (by omega), v6 601 b (by omega) (by omega)]; exact hRS.2.2 a1 a2 b hb⟩
    have h592' : m6 592 (7 - d) = nI (lo L) := by rw [v6 592 _ (by omega) (by omega)]; exact h592
    have hr := hC6.2.2 k (by omega)
    have skip : cdK Bd U k (lo L) = false → _ := fun q => next s m6 m0 (bod_no q) hov f6 hML6 hSK6 hRS6 h592' (hCP6 m6 n93 n94) (Nat.le_refl _) (by omega) (f_Mo_looks_164 n m0 559 (nI set) (b2i al) (nI V) (nI (7 - d)) (K m6 ml)) rfl
    have hsb := bit_s set hset8 (k / 8) (by omega)
    have hvb := bit_s V p4 (k / 8) (by omega)
    rw [hC6.1.2.1, a_568 (by have := hC.1.1; omega), bnd_s, hC6.1.2.2, if_pos (show nI (k / 8) < nI nb by rw [nI_ltI (by omega) (by omega)]; exact hk8), im2 (n := 8), ia3, show 8 * (k / 8) + k % 8 = k by omega, nm_t, hsb, hvb]
    cases c1 : set.testBit (k / 8) with
    | false =>
      rw [if_pos (show b2i false = 0 from rfl)]
      exact skip (by
        unfold cdK
        cases t : U.testBit (k / 8) with
        | false => rfl
        | true => rw [hLV.2.2.1 _ t] at c1; cases c1)
    | true =>
      rw [if_neg (show ¬ b2i true = 0 by decide)]
      rw [c1, Bool.true_and] at hVU
      cases c2 : V.testBit (k / 8) with
      | true =>
        rw [if_pos (show b2i true = 1 from rfl)]
        exact skip (by
          unfold cdK
          rw [c2] at hVU
          rw [show U.testBit (k / 8) = false by simpa using hVU.symm]; rfl)
      | false =>
        have hUb : U.testBit (k / 8) = true := by rw [c2] at hVU; simpa using hVU.symm
        rw [if_neg (show ¬ b2i false = 1 by decide), rf_559_47, bnd_s, a_590 (by omega), bnd_s, hr.2.1]
        cases c3 : (lsG (Bd (k / 8)) (k % 8) == k % 8) with
        | false =>
          rw [if_pos (show b2i false = 0 from rfl)]
          exact skip (by unfold cdK; rw [c3]; simp)
        | true =>
          rw [if_neg (show ¬ b2i true = 0 by decide), rf_559_54, bnd_s, a_592 (by omega), bnd_s, h592', liesOnM (by omega) hr hno hq hn, bnd_s]
          cases c4 : lie (imK Bd k) (lo L) with
          | false =>
            rw [if_pos (show b2i false = 0 from rfl)]
            exact skip (by unfold cdK; rw [c4]; simp)
          | true =>
            have cdt : cdK Bd U k (lo L) = true := by unfold cdK; rw [hUb, c3, c4]; rfl
            have hso : sOff (zX (imK Bd k) (lo L)) (zY (imK Bd k) (lo L)) (imK Bd k) = false := by
              have := c4
              unfold lie at this
              rw [Bool.and_eq_true] at this
              simpa using this.2
            have hmn := im_mn (k % 8) (hC.2.1 _ hk8)
            have hlz := lie_z hno hmn hq c4
            have r0 := row_el hr (ct_pos hno)
            rw [Nat.add_zero, el_0 hno] at r0
            rw [if_neg (show ¬ b2i true = 0 by decide), g_559, bnd_s, hRS6.1.1]
            have hs60 := hRS.2.1.1
            by_cases c5 : s.1 = 60000
            · have bk : bod Bd al (lvl Bd al d) L U W k s = (s.1, s.2.1, true, s.2.2.2) := by
                unfold bod
                rw [if_neg (by rw [hov]; decide), if_pos cdt, if_pos c5]
              rw [if_pos (by rw [c5]; rfl), z_559 (by decide), bnd_s, flk, bk, fl_ov (s := (s.1, s.2.1, true, s.2.2.2)) rfl]
              refine ⟨0, _, f6.tr fun c j _ _ q => by rw [u2, if_neg (by omega)], ?_, Or.inl ⟨rfl, rfl⟩⟩
              refine ⟨⟨?_, ?_, ?_⟩, hRS.2.1, fun a1 a2 b hb => ?_⟩
              · rw [u2, if_neg (by omega)]; exact hRS6.1.1
              · rw [u2, if_neg (by omega)]; exact hRS6.1.2.1
              · rw [u2, if_pos ⟨rfl, rfl⟩]; rfl
              · rw [upd2_ne (by omega), upd2_ne (by omega), upd2_ne (by omega)]; exact hRS6.2.2 a1 a2 b hb
            · rw [if_neg (by rw [ie1 (n := 60000) (by omega) (by omega)]; exact c5), bnd_s, nI_1, p_559, bnd_s]
              generalize e7 : upd2 m6 559 51 (nI (s.1 + 1)) = m7
              have v7 : ∀ c j, ¬ (c = 559 ∧ j = 51) → m7 c j = m6 c j := fun c j q => by rw [← e7, u2, if_neg q]
              have f7 : FMk mi m7 := f6.tr fun c j _ _ q => v7 c j (by omega)
              have hML7 : MLf L m7 := fun i hi => by rw [v7 591 i (by omega)]; exact hML6 i hi
              have hSK7 : SKm Bd (7 - d) P Q m7 := fun i hi => by
                rw [v7 592 i (by omega), v7 593 i (by omega), v7 594 i (by omega), v7 595 i (by omega)]; exact hSK6 i hi
              have hRS7 : RS set al (s.1 + 1, s.2) m7 := ⟨⟨by rw [← e7, u2, if_pos ⟨rfl, rfl⟩], by rw [v7 559 52 (by omega)]; exact hRS6.1.2.1, by rw [v7 559 53 (by omega)]; exact hRS6.1.2.2⟩, ⟨by show s.1 + 1 ≤ 60000; omega, by have := hRS.2.1.2; show s.2.1 ≤ s.1 + 1; omega⟩, fun a1 a2 b hb => by
                rw [v7 599 b (by omega), v7 600 b (by omega), v7 601 b (by omega)]; exact hRS6.2.2 a1 a2 b hb⟩
              have h5927 : m7 592 (7 - d) = nI (lo L) := by rw [v7 592 _ (by omega)]; exact h592'
              have hC7 := CST_c hC f7
              have hr7 := hC7.2.2 k (by omega)
              have ov7 : ovr al (s.1 + 1, s.2) = false := hov
              have offE : nI (lo L) - nI (lo (imK Bd k)) = iZ ((lo L : Int) - (lo (imK Bd k) : Int)) := by rw [iZ_nat, iZ_nat, iZ_sub]
              rw [rf_559_54, bnd_s, a_592 (by omega), bnd_s, h5927, rf_559_46, bnd_s, im2 (n := 256), a_589 (by omega), bnd_s, show m7 589 (256 * k) = nI (lo (imK Bd k)) by rw [v7 589 _ (by omega)]; exact r0, offE, nm_t, isFreeM (by omega) hr7 c4 hML7 hn, bnd_s]
              cases c6 : fitS (laK Bd k (lo L)) L with
              | false =>
                rw [if_pos (show b2i false = 0 from rfl)]
                exact next (s.1 + 1, s.2) m7 m0 (by
                  unfold bod
                  rw [if_neg (by rw [hov]; decide), if_pos cdt, if_neg c5, if_neg (by rw [c6]; decide)]) ov7 f7 hML7 hSK7 hRS7 h5927 (hCP6 m7 (by rw [v7 593 _ (by omega)]; exact n93) (by rw [v7 594 _ (by omega)]; exact n94)) (Nat.le_succ _) (by omega) _ rfl
              | true =>
                rw [if_neg (show ¬ b2i true = 0 by decide), rf_559_57, bnd_s, s_595 (by omega), bnd_s, nrw100]
                generalize e8 : upd2 m7 595 (7 - d) (iZ ((lo L : Int) - (lo (imK Bd k) : Int))) = m8
                have v8 : ∀ c j, ¬ (c = 595 ∧ j = 7 - d) → m8 c j = m7 c j := fun c j q => by rw [← e8, u2, if_neg q]
                have f8 : FMk mi m8 := f7.tr fun c j q _ _ => v8 c j (by omega)
                have hC8 := CST_c hC f8
                obtain ⟨m9, a1, a2, a3⟩ := marksM (n := n) (mi := m8) (ml := ml) (is := true) (show k < 64 by omega) (hC8.2.2 k (by omega)) c4 hn
                have f9 : FMk mi m9 := f8.tr fun c j q _ _ => by rw [a3 c (by omega)]
                have hfit := fitS_t.mp c6
                have hML9 : MLf (lvB L (laK Bd k (lo L))) m9 := fun i hi => by
                  rw [a2 i hi]
                  unfold lvB
                  rw [cu_in hi, v8 591 i (by omega), hML7 i hi]
                  cases t : laK Bd k (lo L) i with
                  | true => rw [if_pos rfl]; simp [b2i]
                  | false => rw [if_neg (by decide)]; simp
                have hLV' := LV_step hnb hLV hUb (by omega) hso c6
                have w9 : ∀ c j, c ≠ 591 → ¬ (c = 595 ∧ j = 7 - d) → m9 c j = m7 c j := fun c j q1 q2 => by rw [a3 c q1, v8 c j q2]
                rw [show f_Mo_marks n 559 (nI k) (iZ ((lo L : Int) - (lo (imK Bd k) : Int))) 1 (K m8 ml) = some (K m9 ml) from a1, bnd_s, leastLeftM hML9 hn, bnd_s]
                have hne : noS (lvB L (laK Bd k (lo L))) = true ↔ U - 2 ^ (k / 8) = 0 := by
                  rw [ct_noS, hLV'.2.2.2.1]
                  have hU'8 : U - 2 ^ (k / 8) < 256 := Nat.lt_of_le_of_lt (Nat.sub_le _ _) hU8
                  constructor
                  · intro q
                    refine (U_0 _ hU'8).mpr fun b hb => ?_
                    cases t : (U - 2 ^ (k / 8)).testBit b with
                    | false => rfl
                    | true =>
                      have hbn : b < nb := by
                        by_cases c : nb ≤ b
                        · rw [tb_out hLV'.2.1 c] at t; cases t
                        · omega
                      have := ar_pos (Bd := Bd) hU'8 hb t (hC.2.1 b hbn)
                      omega
                  · intro q
                    rw [q]
                    have : ∀ b, arB Bd 0 b = 0 := fun b => by
                      induction b with
                      | zero => rfl
                      | succ b ihb => show arB Bd 0 b + (if Nat.testBit 0 b = true then _ else 0) = 0; rw [ihb, Nat.zero_testBit]; rfl
                    exact this 8
                have hfb : ∀ m1 : IM, MLf (lvB L (laK Bd k (lo L))) m1 → ∀ m2 : IM, (∀ i, i < 256 → m2 591 i = if laK Bd k (lo L) i = true then 1 else m1 591 i) → MLf L m2 := fun m1 q1 m2 q2 i hi => by
                  rw [q2 i hi, q1 i hi]
                  unfold lvB
                  rw [cu_in hi]
                  cases t : laK Bd k (lo L) i with
                  | true => rw [if_pos rfl, hfit i hi t]; rfl
                  | false => rw [if_neg (by decide)]; simp
                -- placed boards are other ones
                have hoth : ∀ i, i < 7 - d → P i / 8 ≠ k / 8 := fun i hi q => by
                  have := (p3 (k / 8) (by omega) c1).mpr ⟨i, hi, q⟩
                  rw [hUb] at this; cases this
                have wyk : ∀ b, wyK Bd W k (lo L) b = if b = k / 8 then lcd (k % 8) (zX (imK Bd k) (lo L)) (zY (imK Bd k) (lo L)) else W b := fun b => rfl
                have pP : ∀ i, i < 7 - d + 1 → stP P (7 - d) k i < 8 * nb ∧ stP Q (7 - d) (lo L) i < 256 ∧ lie (imK Bd (stP P (7 - d) k i)) (stP Q (7 - d) (lo L) i) = true ∧ wyK Bd W k (lo L) (stP P (7 - d) k i / 8) = lcd (stP P (7 - d) k i % 8) (zX (imK Bd (stP P (7 - d) k i)) (stP Q (7 - d) (lo L) i)) (zY (imK Bd (stP P (7 - d) k i)) (stP Q (7 - d) (lo L) i)) ∧ set.testBit (stP P (7 - d) k i / 8) = true := fun i hi => by
                  unfold stP
                  by_cases q : i = 7 - d
                  · rw [if_pos q, if_pos q]
                    exact ⟨by omega, hq, c4, by rw [wyk, if_pos rfl], c1⟩
                  · rw [if_neg q, if_neg q]
                    have := p1 i (by omega)
                    exact ⟨this.1, this.2.1, this.2.2.1, by rw [wyk, if_neg (hoth i (by omega))]; exact this.2.2.2.1, this.2.2.2.2⟩
                have pI : ∀ i j, i < 7 - d + 1 → j < 7 - d + 1 → stP P (7 - d) k i / 8 = stP P (7 - d) k j / 8 → i = j := fun i j hi hj => by
                  unfold stP
                  by_cases q1 : i = 7 - d
                  · by_cases q2 : j = 7 - d
                    · intro _; omega
                    · rw [if_pos q1, if_neg q2]; intro q; exact absurd q.symm (hoth j (by omega))
                  · by_cases q2 : j = 7 - d
                    · rw [if_neg q1, if_pos q2]; intro q; exact absurd q (hoth i (by omega))
                    · rw [if_neg q1, if_neg q2]; exact p2 i j (by omega) (by omega)
                have pU : ∀ b, b < 8 → set.testBit b = true → ((U - 2 ^ (k / 8)).testBit b = false ↔ ∃ i, i < 7 - d + 1 ∧ stP P (7 - d) k i / 8 = b) := fun b hb hs => by
                  rw [(U_t U hU8 (k / 8) (by omega) hUb).2 b hb]
                  constructor
                  · intro q
                    by_cases q1 : b = k / 8
                    · exact ⟨7 - d, by omega, by unfold stP; rw [if_pos rfl, q1]⟩
                    · rw [decide_eq_false q1] at q
                      obtain ⟨i, i1, i2⟩ := (p3 b hb hs).mp (by simpa using q)
                      exact ⟨i, by omega, by unfold stP; rw [if_neg (by omega)]; exact i2⟩
                  · rintro ⟨i, i1, i2⟩
                    unfold stP at i2
                    by_cases q1 : i = 7 - d
                    · rw [if_pos q1] at i2
                      rw [decide_eq_true i2.symm]; simp
                    · rw [if_neg q1] at i2
                      rw [(p3 b hb hs).mpr ⟨i, by omega, i2⟩]; rfl
                have n93' : ∀ c j, (c = 592 ∨ c = 593 ∨ c = 594) → m9 c j = m6 c j := fun c j q => by rw [w9 c j (by omega) (by omega), v7 c j (by omega)]
                by_cases c7 : U - 2 ^ (k / 8) = 0
                · -- a way is found
                  have bk : bod Bd al (lvl Bd al d) L U W k s = cnt al (wyK Bd W k (lo L)) (s.1 + 1, s.2) := by
                    unfold bod
                    rw [if_neg (by rw [hov]; decide), if_pos cdt, if_neg c5, if_pos c6, if_pos c7]
                  rw [if_pos (show noS (lvB L (laK Bd k (lo L))) = true from hne.mpr c7), if_pos (show (-1 : Int32) = -1 from rfl), g_559, bnd_s, w9 559 52 (by omega) (by omega), hRS7.1.2.1, nI_1, p_559, bnd_s, g_559, bnd_s, show upd2 m9 559 52 (nI (s.2.1 + 1)) 559 52 = nI (s.2.1 + 1) from by rw [u2, if_pos ⟨rfl, rfl⟩]]
                  generalize e10 : upd2 m9 559 52 (nI (s.2.1 + 1)) = m10
                  have v10 : ∀ c j, ¬ (c = 559 ∧ j = 52) → m10 c j = m9 c j := fun c j q => by rw [← e10, u2, if_neg q]
                  have f10 : FMk mi m10 := f9.tr fun c j _ _ q => v10 c j (by omega)
                  have hway := hRS.2.1.2
                  -- the first way
                  have fin : ∃ m11, (if nI (s.2.1 + 1) = 1 then (f_Mo_remembers n 559 (nI (7 - d)) (K m10 ml)).bind fun M42 => f_Mo_looks_465 n (f_Mo_looks_164 n m0) 559 (nI set) (b2i al) (nI V) (nI (7 - d)) (nI k) (iZ ((lo L : Int) - (lo (imK Bd k) : Int))) M42 else f_Mo_looks_465 n (f_Mo_looks_164 n m0) 559 (nI set) (b2i al) (nI V) (nI (7 - d)) (nI k) (iZ ((lo L : Int) - (lo (imK Bd k) : Int))) (K m10 ml)) = f_Mo_looks_465 n (f_Mo_looks_164 n m0) 559 (nI set) (b2i al) (nI V) (nI (7 - d)) (nI k) (iZ ((lo L : Int) - (lo (imK Bd k) : Int))) (K m11 ml) ∧ (∀ c, c ≠ 599 → c ≠ 600 → c ≠ 601 → m11 c = m10 c) ∧ RS set al (cnt al (wyK Bd W k (lo L)) (s.1 + 1, s.2)) m11 := by
                    have cntr : ∀ m11 : IM, (∀ c, c ≠ 599 → c ≠ 600 → c ≠ 601 → m11 c = m10 c) → (al = true → FRm set (cnt al (wyK Bd W k (lo L)) (s.1 + 1, s.2)).2.2.2 m11) → RS set al (cnt al (wyK Bd W k (lo L)) (s.1 + 1, s.2)) m11 := by
                      intro m11 q1 q2
                      refine ⟨⟨?_, ?_, ?_⟩, ⟨hRS7.2.1.1, by show s.2.1 + 1 ≤ s.1 + 1; omega⟩, fun a1 _ => q2 a1⟩
                      · rw [q1 559 (by omega) (by omega) (by omega), v10 559 51 (by omega), w9 559 51 (by omega) (by omega)]; exact hRS7.1.1
                      · rw [q1 559 (by omega) (by omega) (by omega), ← e10, u2, if_pos ⟨rfl, rfl⟩]; rfl
                      · rw [q1 559 (by omega) (by omega) (by omega), v10 559 53 (by omega), w9 559 53 (by omega) (by omega)]; exact hRS7.1.2.2
                    by_cases c8 : s.2.1 = 0
                    · obtain ⟨m11, b1, b2, b3, b4⟩ := remM (n := n) (mi := m10) (ml := ml) (P := stP P (7 - d) k) (Q := stP Q (7 - d) (lo L)) (t := 7 - d) (CST_c hC f10) hnb (fun i hi => ⟨(pP i (by omega)).1, (pP i (by omega)).2.1⟩) (fun i j hi hj => pI i j (by omega) (by omega)) (fun i hi => by
                        rw [v10 592 i (by omega), v10 593 i (by omega), v10 594 i (by omega), n93' 592 i (by omega), n93' 593 i (by omega), n93' 594 i (by omega)]
                        unfold stP
                        by_cases q : i = 7 - d
                        · rw [if_pos q, if_pos q, q]; exact ⟨h592', n93, n94⟩
                        · rw [if_neg q, if_neg q]
                          have := hSK6 i (by omega)
                          exact ⟨this.1, this.2.1, this.2.2.1⟩) (by omega) (by omega)
                      rw [if_pos (show nI (s.2.1 + 1) = 1 by rw [c8]; rfl), b1, bnd_s]
                      refine ⟨m11, rfl, b4, cntr m11 b4 fun a1 b hb => ⟨fun hs => ?_, fun hs => ?_⟩⟩
                      · obtain ⟨i, i1, i2⟩ := (pU b hb hs).mp (by rw [c7]; exact Nat.zero_testBit b)
                        obtain ⟨t1, t2, t3, t4, t5⟩ := pP i i1
                        have hno' : noS (imK Bd (stP P (7 - d) k i)) = false := im_no _ (hC.2.1 _ (by omega))
                        have hz := lie_z hno' (im_mn _ (hC.2.1 _ (by omega))) t2 t3
                        obtain ⟨b21, b22, b23⟩ := b2 i (by omega)
                        rw [i2] at b21 b22 b23 t4
                        refine ⟨stP P (7 - d) k i % 8, (zX (imK Bd (stP P (7 - d) k i)) (stP Q (7 - d) (lo L) i)).toNat, (zY (imK Bd (stP P (7 - d) k i)) (stP Q (7 - d) (lo L) i)).toNat, by omega, by omega, by omega, ?_, b21, ?_, ?_⟩
                        · show (if (s.1 + 1, s.2).2.1 = 0 ∧ al = true then wyK Bd W k (lo L) else _) b = _
                          rw [if_pos ⟨c8, a1⟩, t4]; rfl
                        · rw [b22, iZ_to (by omega)]
                        · rw [b23, iZ_to (by omega)]
                      · refine b3 b hb fun i hi q => ?_
                        have := (pP i (by omega)).2.2.2.2
                        rw [q, hs] at this; cases this
                    · rw [if_neg (show ¬ nI (s.2.1 + 1) = 1 by rw [ie1 (n := 1) (by omega) (by omega)]; omega)]
                      refine ⟨m10, rfl, fun _ _ _ _ => rfl, cntr m10 (fun _ _ _ _ => rfl) fun a1 b hb => ?_⟩
                      show (_ → ∃ g x y : Nat, _ ∧ _ ∧ _ ∧ (if (s.1 + 1, s.2).2.1 = 0 ∧ al = true then wyK Bd W k (lo L) else s.2.2.2) b = _ ∧ _) ∧ _
                      rw [if_neg (fun q => c8 q.1), v10 599 b (by omega), v10 600 b (by omega), v10 601 b (by omega), w9 599 b (by omega) (by omega), w9 600 b (by omega) (by omega), w9 601 b (by omega) (by omega)]
                      exact hRS7.2.2 a1 (by show 0 < s.2.1; omega) b hb
                  obtain ⟨m11, g1, g2, g3⟩ := fin
                  have f11 : FMk mi m11 := f10.tr fun c j _ q _ => by rw [g2 c (by omega) (by omega) (by omega)]
                  rw [g1]
                  unfold f_Mo_looks_465
                  cases hal : al with
                  | false =>
                    rw [hal] at flk bk g3 hov
                    rw [if_pos (show b2i false = 0 from rfl), flk, bk, fl_ov (s := cnt false (wyK Bd W k (lo L)) (s.1 + 1, s.2)) (by unfold ovr cnt; simp)]
                    exact ⟨0, m11, f11, g3, Or.inl ⟨by unfold ovr cnt; simp, rfl⟩⟩
                  | true =>
                    obtain ⟨m12, h1, h2, h3⟩ := marksM (n := n) (mi := m11) (ml := ml) (is := false) (show k < 64 by omega) ((CST_c hC f11).2.2 k (by omega)) c4 hn
                    rw [if_neg (show ¬ b2i true = 0 by decide), show f_Mo_marks n 559 (nI k) (iZ ((lo L : Int) - (lo (imK Bd k) : Int))) 0 (K m11 ml) = some (K m12 ml) from h1, bnd_s]
                    rw [hal] at bk g3 next hov
                    have w12 : ∀ c j, c ≠ 591 → c ≠ 599 → c ≠ 600 → c ≠ 601 → ¬ (c = 559 ∧ j = 52) → m12 c j = m9 c j := fun c j q1 q2 q3 q4 q5 => by rw [h3 c q1, g2 c q2 q3 q4, v10 c j q5]
                    refine next _ m12 m0 bk ?_ (f11.tr fun c j q _ _ => by rw [h3 c (by omega)]) ?_ ?_ ?_ ?_ ?_ (Nat.le_succ _) (by show m0 + 1 ≤ m0 + 1 + 66 * (s.1 + 1 - s.1); omega) _ rfl
                    · have h9 : s.2.2.1 = false := by
                        unfold ovr at hov
                        rw [Bool.or_eq_false_iff] at hov
                        exact hov.1
                      unfold ovr cnt
                      show (s.2.2.1 || (!true && _)) = false
                      rw [h9]; rfl
                    · refine hfb m11 (fun i hi => ?_) m12 h2
                      rw [g2 591 (by omega) (by omega) (by omega), v10 591 i (by omega)]; exact hML9 i hi
                    · intro i hi
                      rw [w12 592 i (by omega) (by omega) (by omega) (by omega) (by omega), w12 593 i (by omega) (by omega) (by omega) (by omega) (by omega), w12 594 i (by omega) (by omega) (by omega) (by omega) (by omega), w12 595 i (by omega) (by omega) (by omega) (by omega) (by omega), w9 592 i (by omega) (by omega), w9 593 i (by omega) (by omega), w9 594 i (by omega) (by omega), w9 595 i (by omega) (by omega)]
                      exact hSK7 i hi
                    · refine ⟨⟨by rw [h3 559 (by omega)]; exact g3.1.1, by rw [h3 559 (by omega)]; exact g3.1.2.1, by rw [h3 559 (by omega)]; exact g3.1.2.2⟩, g3.2.1, fun a1 a2 b hb => ?_⟩
                      rw [h3 599 (by omega), h3 600 (by omega), h3 601 (by omega)]; exact g3.2.2 a1 a2 b hb
                    · rw [w12 592 _ (by omega) (by omega) (by omega) (by omega) (by omega), n93' 592 _ (by omega)]; exact h592'
                    · exact hCP6 m12 (by rw [w12 593 _ (by omega) (by omega) (by omega) (by omega) (by omega), n93' 593 _ (by omega)]; exact n93) (by rw [w12 594 _ (by omega) (by omega) (by omega) (by omega) (by omega), n93' 594 _ (by omega)]; exact n94)
                · -- one level deeper
                  have hd0 : d ≠ 0 := fun q => by
                    have h1 := hLV'.2.2.2.2
                    rw [q] at h1
                    exact c7 ((U_0 _ (Nat.lt_of_le_of_lt (Nat.sub_le _ _) hU8)).mpr fun b hb => (ct_0 8).mp (by omega) b hb)
                  obtain ⟨d', rfl⟩ : ∃ d', d = d' + 1 := ⟨d - 1, by omega⟩
                  have bk : bod Bd al (lvl Bd al (d' + 1)) L U W k s = lvl Bd al (d' + 1) (lvB L (laK Bd k (lo L))) (U - 2 ^ (k / 8)) (wyK Bd W k (lo L)) (s.1 + 1, s.2) := by
                    unfold bod
                    rw [if_neg (by rw [hov]; decide), if_pos cdt, if_neg c5, if_pos c6, if_neg c7]
                  have hL'n : noS (lvB L (laK Bd k (lo L))) = false := by
                    cases q : noS (lvB L (laK Bd k (lo L))) with
                    | false => rfl
                    | true => exact absurd (hne.mp q) c7
                  have hq' := (lo_s hL'n).1
                  obtain ⟨o1, o2, o3⟩ := V_o V p4 (k / 8) (by omega) c2
                  rw [if_neg (show ¬ noS (lvB L (laK Bd k (lo L))) = true by rw [hL'n]; decide), if_neg (show ¬ nI (lo (lvB L (laK Bd k (lo L)))) = -1 from nI_m1 (by omega)), o1, nm_t, nI_1, rf_559_54, bnd_s, s_592 (by omega), bnd_s, rf_559_55, bnd_s, s_593 (by omega), bnd_s, rf_559_56, bnd_s, s_594 (by omega), bnd_s, nrw100, nrw100, nrw100]
                  generalize e10 : upd2 (upd2 (upd2 m9 592 (7 - (d' + 1) + 1) (nI (lo (lvB L (laK Bd k (lo L)))))) 593 (7 - (d' + 1) + 1) 0) 594 (7 - (d' + 1) + 1) (-1) = m10
                  have v10 : ∀ c j, ¬ (592 ≤ c ∧ c ≤ 594 ∧ j = 7 - (d' + 1) + 1) → m10 c j = m9 c j := fun c j q => by rw [← e10, u2, if_neg (by omega), u2, if_neg (by omega), u2, if_neg (by omega)]
                  have f10 : FMk mi m10 := f9.tr fun c j q _ _ => v10 c j (by omega)
                  have ht1 : 7 - (d' + 1) + 1 = 7 - d' := by omega
                  have hPS' : PS nb set Bd (7 - d') (stP P (7 - (d' + 1)) k) (stP Q (7 - (d' + 1)) (lo L)) (U - 2 ^ (k / 8)) (wyK Bd W k (lo L)) (V + 2 ^ (k / 8)) := by
                    rw [← ht1]
                    refine ⟨pP, pI, pU, o2, fun b hb => ?_⟩
                    rw [o3 b hb, p5 b hb, (U_t U hU8 (k / 8) (by omega) hUb).2 b hb]
                    by_cases q : b = k / 8
                    · rw [decide_eq_true q, q, c1]; simp
                    · rw [decide_eq_false q]; simp
                  obtain ⟨m', mi', t1, t2, t3⟩ := hIH d' rfl (8 * nb) 0 (by omega) (stP P (7 - (d' + 1)) k) (stP Q (7 - (d' + 1)) (lo L)) (lvB L (laK Bd k (lo L))) (U - 2 ^ (k / 8)) (wyK Bd W k (lo L)) (s.1 + 1, s.2) (V + 2 ^ (k / 8)) m10 m0 c7 hLV' hPS' (CST_c hC f10) (fun i hi => by rw [v10 591 i (by omega)]; exact hML9 i hi) (fun i hi => by
                      rw [v10 592 i (by omega), v10 593 i (by omega), v10 594 i (by omega), v10 595 i (by omega), n93' 592 i (by omega), n93' 593 i (by omega), n93' 594 i (by omega)]
                      unfold stP
                      by_cases q : i = 7 - (d' + 1)
                      · rw [if_pos q, if_pos q, q, a3 595 (by omega)]
                        exact ⟨h592', n93, n94, by rw [← e8, u2, if_pos ⟨rfl, rfl⟩]⟩
                      · rw [if_neg q, if_neg q, w9 595 i (by omega) (by omega)]
                        have := hSK7 i (by omega)
                        exact ⟨(hSK6 i (by omega)).1, (hSK6 i (by omega)).2.1, (hSK6 i (by omega)).2.2.1, this.2.2.2⟩) (by
                      refine ⟨⟨?_, ?_, ?_⟩, hRS7.2.1, fun a1 a2 b hb => ?_⟩
                      · rw [v10 559 51 (by omega), w9 559 51 (by omega) (by omega)]; exact hRS7.1.1
                      · rw [v10 559 52 (by omega), w9 559 52 (by omega) (by omega)]; exact hRS7.1.2.1
                      · rw [v10 559 53 (by omega), w9 559 53 (by omega) (by omega)]; exact hRS7.1.2.2
                      · rw [v10 599 b (by omega), v10 600 b (by omega), v10 601 b (by omega), w9 599 b (by omega) (by omega), w9 600 b (by omega) (by omega), w9 601 b (by omega) (by omega)]
                        exact hRS7.2.2 a1 a2 b hb) (by rw [← ht1, ← e10, upd2_ne (by omega), upd2_ne (by omega), u2, if_pos ⟨rfl, rfl⟩]) (Or.inl ⟨rfl, by rw [← ht1, ← e10, upd2_ne (by omega), u2, if_pos ⟨rfl, rfl⟩], by rw [← ht1, ← e10, u2, if_pos ⟨rfl, rfl⟩]⟩) ov7 (by show 66 * (60000 - (s.1 + 1)) + (65 - 0) < m0; omega)
                  rw [show 64 - 0 = 64 from rfl, ← lvl_s, ← bk] at t2 t3
                  rw [ht1]
                  have hs1 := t2.2.1.1
                  have hle : s.1 + 1 ≤ (bod Bd al (lvl Bd al (d' + 1)) L U W k s).1 := by
                    rw [bk]
                    exact (lvl_le (d' + 1) (lvB L (laK Bd k (lo L))) (U - 2 ^ (k / 8)) (wyK Bd W k (lo L)) (s.1 + 1, s.2)).1
                  rcases t3 with ⟨w1, w2⟩ | ⟨w1, w2, w3, w4, w5⟩
                  · rw [w2, flk, fl_ov w1]
                    exact ⟨0, mi', f10.tr t1, t2, Or.inl ⟨w1, rfl⟩⟩
                  · have hSKt := w4 (7 - (d' + 1)) (by omega)
                    unfold stP at hSKt
                    rw [if_pos rfl, if_pos rfl] at hSKt
                    have fm := f10.tr t1
                    obtain ⟨m13, x1, x2, x3⟩ := ex_s (n := n) (m := m') (mi := mi') (ml := ml) (k := k) (t := 7 - (d' + 1)) (Q := fun _ => lo L) (x2 := nI set) (x3 := b2i al) (CST_c hC fm) hnb (by omega) (by omega) c4 hSKt.2.1 hSKt.2.2.1 hSKt.2.2.2 p4 c2 hn
                    rw [ht1] at x1
                    refine next _ m13 m' rfl w1 (fm.tr fun c j q _ _ => by rw [x3 c (by omega)]) (hfb mi' w3 m13 x2) (fun i hi => ?_) ?_ ?_ ?_ (by omega) (by have w5 : m0 ≤ m' + (65 - 0) + 66 * ((bod Bd al (lvl Bd al (d' + 1)) L U W k s).1 - (s.1 + 1)) := w5; omega) _ (w2.trans x1)
                    · have := w4 i (by omega)
                      unfold stP at this
                      rw [if_neg (by omega), if_neg (by omega)] at this
                      rw [x3 592 (by omega), x3 593 (by omega), x3 594 (by omega), x3 595 (by omega)]; exact this
                    · refine ⟨⟨by rw [x3 559 (by omega)]; exact t2.1.1, by rw [x3 559 (by omega)]; exact t2.1.2.1, by rw [x3 559 (by omega)]; exact t2.1.2.2⟩, t2.2.1, fun a1 a2 b hb => ?_⟩
                      rw [x3 599 (by omega), x3 600 (by omega), x3 601 (by omega)]; exact t2.2.2 a1 a2 b hb
                    · rw [x3 592 (by omega)]; exact hSKt.1
                    · exact hCP6 m13 (by rw [x3 593 (by omega)]; exact hSKt.2.1) (by rw [x3 594 (by omega)]; exact hSKt.2.2.1)
