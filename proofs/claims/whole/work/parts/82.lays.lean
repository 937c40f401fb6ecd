/-! ===== LAYS: lift, lay, shows ===== -/
theorem IV_table {l nb no : Nat} {Bd Ou : Nat → Nat → Bool} {mi mi' : IM} {ml : JM} (h : IV l nb no Bd Ou mi ml) (hb : B01 mi') (hL : IvL nb Bd mi') (hk : ∀ c j, St c j → ¬ DL c j → mi' c j = mi c j) : IV l nb no Bd Ou mi' ml := by
  obtain ⟨h1, h2, h3, h4, h5, h6, h7, h8, h9, h10⟩ := h
  refine ⟨hb, h2, IvB_c (fun c j q => hk c j (Or.inl q) ?_) h3, IvT_c (fun c j q => hk c j (Or.inr (Or.inl q)) ?_) h4, hL, IvK_c (fun c j q => hk c j (Or.inr (Or.inr (Or.inr (Or.inl q)))) ?_) h6, IvF_c (fun c j q => hk c j (Or.inr (Or.inr (Or.inr (Or.inr (Or.inl q))))) ?_) h7, IvS_c h3.1.2.2 (fun c j q => hk c j (Or.inr (Or.inr (Or.inr (Or.inr (Or.inr (Or.inl q)))))) ?_) h8, IvR_c (fun c j q => hk c j (Or.inr (Or.inr (Or.inr (Or.inr (Or.inr (Or.inr (Or.inl q))))))) ?_) h9, IvC_c (fun c j q => hk c j (Or.inr (Or.inr (Or.inr (Or.inr (Or.inr (Or.inr (Or.inr q))))))) ?_) h10⟩
  · unfold DB at q; unfold DL; omega
  · unfold DT at q; unfold DL; omega
  · unfold DK at q; unfold DL; omega
  · unfold DF at q; unfold DL; omega
  · unfold DS at q; unfold DL; omega
  · unfold DR at q; unfold DL; omega
  · unfold DC2 at q; unfold DL; omega
theorem IvL_upd {nb b : Nat} {Bd : Nat → Nat → Bool} {mi mi' : IM} (h : IvL nb Bd mi) (ho : ∀ b', b' < 8 → b' ≠ b → mi' 131 b' = mi 131 b' ∧ mi' 602 b' = mi 602 b' ∧ mi' (138 + 2 * b' + 1) = mi (138 + 2 * b' + 1) ∧ ∀ i, i < 256 → mi' 603 (256 * b' + i) = mi 603 (256 * b' + i)) (hb : LC nb Bd b (mi' 131 b) (svS mi' (138 + 2 * b)) ∧ (∀ i, i < 256 → mi' 603 (256 * b + i) = b2i (svS mi' (138 + 2 * b) i)) ∧ (mi' 602 b = -1 ↔ mi' 131 b = -1)) : IvL nb Bd mi' := by
  intro b' hb'
  by_cases c : b' = b
  · subst c; exact hb
  · obtain ⟨h1, h2, h3, h4⟩ := ho b' hb' c
    obtain ⟨g1, g2, g3⟩ := h b' hb'
    rw [h1, h2, sv_of h3]
    exact ⟨g1, fun i hi => by rw [h4 i hi]; exact g2 i hi, g3⟩
section LYS
variable {n b q nb : Nat} {mi : IM} {ml : JM} {Bd : Nat → Nat → Bool}
theorem take_s (hb : b < 8) (hn : 8 < n) : f_Table_take n 129 (nI b) (K mi ml) = some (K (upd2 (setRw mi (138 + 2 * b) (fun _ => 0)) 131 b (-1)) ml) := by
  unfold f_Table_take
  rw [o_129, rf_129_0, bnd_s, lay_r hb, bnd_s, clear_s (la_sh hb) hn, bnd_s, rf_129_1, bnd_s, s_131 hb, bnd_s]; rfl
theorem lift_loop (hb : b < 8) : ∀ m i mi, i ≤ 256 → 256 - i < m → (∀ j, j < i → mi 603 (256 * b + j) = 0) → ∃ mi', f_Mo_lift_31 n m 559 (nI b) (nI i) (K mi ml) = some (1, K mi' ml) ∧ (∀ j, j < 256 → mi' 603 (256 * b + j) = 0) ∧ ∀ c j, ¬ (c = 603 ∧ 256 * b ≤ j ∧ j < 256 * b + 256) → mi' c j = mi c j := by
  intro m
  induction m with
  | zero => intro i mi h1 h2; omega
  | succ m ih =>
    intro i mi h1 h2 h3
    rw [f_Mo_lift_31]
    by_cases c : i = 256
    · subst c; rw [if_pos (by decide)]; exact ⟨mi, rfl, h3, fun _ _ _ => rfl⟩
    · rw [if_neg (by rw [il1 (n := 256) (by omega) (by omega)]; omega), rf_559_72, bnd_s, im2 (n := 256), ia3, s_603 (by omega), bnd_s, nI_1]
      obtain ⟨m1, a1, a2, a3⟩ := ih (i + 1) (upd2 mi 603 (256 * b + i) (nrw 102 0)) (by omega) (by omega) (fun j hj => by
        rw [u2]
        by_cases d : j = i
        · rw [if_pos ⟨rfl, by rw [d]⟩]; rfl
        · rw [if_neg (by omega)]; exact h3 j (by omega))
      exact ⟨m1, a1, a2, fun c j hc => by rw [a3 c j hc, u2, if_neg (by omega)]⟩
end LYS
theorem sv_0 {mi : IM} {a : Nat} : svS (setRw mi a (fun _ => 0)) a = fun _ => false := by
  rw [sv_set]
  funext i
  show (decide (i < 256) && bt 0 (i % 32)) = false
  rw [b_0, Bool.and_false]
theorem sq_lift {x1 : Int32} : SQ Inv (f_Q_lift NF 0 x1) (f_Mo_lift NF 559 x1) := by
  rintro M ⟨mi, ml, rfl, l, nb, no, Bd, Ou, hI⟩
  have hL := hI.2.2.2.2.1
  have stay : ∀ r, f_Q_lift NF 0 x1 (K mi ml) = some (r, K mi ml) → f_Mo_lift NF 559 x1 (K mi ml) = some (r, K mi ml) → ∃ (r : Int32) (M1 M2 : MM), f_Q_lift NF 0 x1 (K mi ml) = some (r, M1) ∧ f_Mo_lift NF 559 x1 M1 = some (r, M2) ∧ Inv M2 := fun r e1 e2 => ⟨r, K mi ml, K mi ml, e1, e2, mi, ml, rfl, l, nb, no, Bd, Ou, hI⟩
  rcases i_cases x1 with c | ⟨b, hk, c⟩
  · refine stay 0 ?_ ?_
    · unfold f_Q_lift; rw [o_0, if_pos c]
    · unfold f_Mo_lift; rw [o_559, if_pos c]
  · subst c
    by_cases d : 8 ≤ b
    · refine stay 0 ?_ ?_
      · unfold f_Q_lift; rw [o_0, if_neg (inN hk), if_pos (by rw [il1 (n := 8) (by omega) hk]; exact d)]
      · unfold f_Mo_lift; rw [o_559, if_neg (inN hk), if_pos (by rw [it1 (n := 7) (by omega) hk]; omega)]
    · have hb : b < 8 := by omega
      by_cases e : mi 131 b = -1
      · refine stay 0 ?_ ?_
        · unfold f_Q_lift; rw [o_0, if_neg (inN hk), if_neg (by rw [il1 (n := 8) (by omega) hk]; exact d), rf_0_14, bnd_s, holdsBoard_s hb, bnd_s, show lds mi b = false by unfold lds; simp [e], if_pos (show b2i false = 0 by decide)]
        · unfold f_Mo_lift; rw [o_559, if_neg (inN hk), if_neg (by rw [it1 (n := 7) (by omega) hk]; omega), rf_559_71, bnd_s, a_602 hb, bnd_s, if_pos ((hL b hb).2.2.mpr e)]
      · have e2 : ¬ mi 602 b = -1 := fun q => e ((hL b hb).2.2.mp q)
        generalize h1 : upd2 (setRw mi (138 + 2 * b) (fun _ => 0)) 131 b (-1) = m1
        have f1 : ∀ c j, ¬ (c = 131 ∧ j = b) → c ≠ 138 + 2 * b + 1 → m1 c j = mi c j := fun c j q1 q2 => by rw [← h1, u2, if_neg q1, setRw_ne q2]
        obtain ⟨m2, a1, a2, a3⟩ := lift_loop (n := NF) (ml := ml) hb NF 0 (upd2 m1 602 b (nrw 100 (-1))) (by omega) (by decide) (fun j hj => by omega)
        refine ⟨1, K m1 ml, K m2 ml, ?_, ?_, m2, ml, rfl, l, nb, no, Bd, Ou, ?_⟩
        · unfold f_Q_lift; rw [o_0, if_neg (inN hk), if_neg (by rw [il1 (n := 8) (by omega) hk]; exact d), rf_0_14, bnd_s, holdsBoard_s hb, bnd_s, show lds mi b = true by unfold lds; simp [e], if_neg (show ¬ b2i true = 0 by decide), rf_0_14, bnd_s, take_s hb (by decide), bnd_s, h1]
        · unfold f_Mo_lift; rw [o_559, if_neg (inN hk), if_neg (by rw [it1 (n := 7) (by omega) hk]; omega), rf_559_71, bnd_s, a_602 hb, bnd_s, f1 602 b (by omega) (by omega), if_neg e2, bnd_s, s_602 hb, bnd_s]
          exact a1
        · have f2 : ∀ c j, ¬ (c = 131 ∧ j = b) → c ≠ 138 + 2 * b + 1 → ¬ (c = 602 ∧ j = b) → ¬ (c = 603 ∧ 256 * b ≤ j ∧ j < 256 * b + 256) → m2 c j = mi c j := fun c j q1 q2 q3 q4 => by rw [a3 c j q4, u2, if_neg q3, f1 c j q1 q2]
          have g1 : m2 131 b = -1 := by rw [a3 131 b (by omega), upd2_ne (by omega), ← h1, u2, if_pos ⟨rfl, rfl⟩]
          have g2 : svS m2 (138 + 2 * b) = fun _ => false := by
            rw [sv_of (mi := setRw mi (138 + 2 * b) (fun _ => 0)) (by funext j; rw [a3 _ j (by omega), upd2_ne (by omega), ← h1, upd2_ne (by omega)]), sv_0]
          refine IV_table hI (fun j => by rw [f2 567 j (by omega) (by omega) (by omega) (by omega)]; exact hI.1 j) (IvL_upd hL (b := b) (fun b' hb' hne => ⟨f2 _ _ (by omega) (by omega) (by omega) (by omega), f2 _ _ (by omega) (by omega) (by omega) (by omega), by funext j; exact f2 _ _ (by omega) (by omega) (by omega) (by omega), fun i hi => f2 _ _ (by omega) (by omega) (by omega) (by omega)⟩) ⟨Or.inl ⟨g1, g2⟩, fun i hi => by rw [a2 i hi, g2]; rfl, ?_⟩) (fun c j _ hd => ?_)
          · rw [g1, a3 602 b (by omega), u2, if_pos ⟨rfl, rfl⟩]
            exact ⟨fun _ => rfl, fun _ => rfl⟩
          · unfold DL at hd
            exact f2 c j (by omega) (by omega) (by omega) (by omega)
/-! lay -/
theorem lsG_le {S : Nat → Bool} {g : Nat} : lsG S g ≤ g := by
  unfold lsG
  cases e : fnd (fun k => smS (imS g S) (imS k S)) g 0 with
  | none => exact Nat.le_refl _
  | some k => have := (fnd_some e).2.1; show k ≤ g; omega
theorem im_cu (g : Nat) (S : Nat → Bool) : cu (imS g S) = imS g S := cu_cu _
theorem lsG_im {S : Nat → Bool} {g : Nat} : imS (lsG S g) S = imS g S := by
  unfold lsG
  cases e : fnd (fun k => smS (imS g S) (imS k S)) g 0 with
  | none => rfl
  | some k => exact ((smS_cu (im_cu g S) (im_cu k S)).mp (fnd_some e).2.2.1).symm
theorem lsG_id {S : Nat → Bool} {g : Nat} : lsG S (lsG S g) = lsG S g := by
  cases e : fnd (fun k => smS (imS g S) (imS k S)) g 0 with
  | none => rw [show lsG S g = g by unfold lsG; rw [e]; rfl, show lsG S g = g by unfold lsG; rw [e]; rfl]
  | some k =>
    have h := fnd_some e
    have hk : lsG S g = k := by unfold lsG; rw [e]; rfl
    have him : imS k S = imS g S := by rw [← hk]; exact lsG_im
    rw [hk]
    unfold lsG
    rw [fnd_none.mpr fun j _ hj => by rw [him]; exact h.2.2.2 j (by omega) (by omega)]; rfl
theorem lay_c : ∀ g, g < 8 → ∀ x, x < 8 → ∀ y, y < 8 → ((ishl (nI g) 6) ||| (ishl (nI x) 3)) ||| nI y = nI (64 * g + 8 * x + y) := by decide +kernel
section LAY
variable {n b q nb : Nat} {mi : IM} {ml : JM} {Bd : Nat → Nat → Bool}
theorem put_t {a g x y : Nat} {S : Nat → Bool} (hb : b < 8) (hf : isFo a) (ha : 223 ≤ a) (hI : FoI mi a 8 S) (hg : g < 8) (hx : x < 8) (hy : y < 8) (hn : 8 < n) : f_Table_put n 129 (nI b) a (nI g) (nI x) (nI y) (K mi ml) = some (K (upd2 (setRw mi (138 + 2 * b) (shR (mi (a + 8 + 2 * g + 1)) (x : Int) (y : Int))) 131 b (nI (64 * lsG S g + 8 * x + y))) ml) := by
  unfold f_Table_put f_Filler_layCode
  have hl : lsG S g < 8 := by have := lsG_le (S := S) (g := g); omega
  rw [o_129, rf_129_0, bnd_s, lay_r hb, bnd_s, fo_1 hf, bnd_s, im_ref hf hg, bnd_s, iZ_nat x, iZ_nat y, becomeShifted_s (la_sh hb) (im_sh hf hg) (by omega) (by omega) (by omega) hn, bnd_s, rf_129_1, bnd_s, fo_5 hf, bnd_s, ld_7 hf hg, bnd_s, setRw_ne (by omega), (hI.2 g hg).2.2.2.2, bnd_s, ← iZ_nat x, ← iZ_nat y, lay_c _ hl _ hx _ hy, s_131 hb, bnd_s]; rfl
theorem layc_loop (hb : b < 8) (h1 : B01 mi) {k9 : Nat → MM → Option (Int32 × MM)} : ∀ m i s, i ≤ 256 → 256 - i < m → (∀ j, j < i → s 603 (256 * b + j) = b2i (pS mi 49 j)) → (∀ c j, ¬ (c = 603 ∧ 256 * b ≤ j ∧ j < 256 * b + 256) → s c j = mi c j) → ∃ mi', f_Mo_lay_107 n k9 m 559 (nI b) (nI i) (K s ml) = k9 559 (K mi' ml) ∧ (∀ j, j < 256 → mi' 603 (256 * b + j) = b2i (pS mi 49 j)) ∧ ∀ c j, ¬ (c = 603 ∧ 256 * b ≤ j ∧ j < 256 * b + 256) → mi' c j = mi c j := by
  intro m
  induction m with
  | zero => intro i s h1 h2; omega
  | succ m ih =>
    intro i s h2 h3 h4 h5
    rw [f_Mo_lay_107]
    by_cases c : i = 256
    · subst c; rw [if_pos (by decide)]; exact ⟨s, rfl, h4, h5⟩
    · have e : s 567 (12544 + i) = b2i (pS mi 49 i) := by
        rw [h5 567 _ (by omega), pS_in (by omega), ← pg01 h1]
      rw [if_neg (by rw [il1 (n := 256) (by omega) (by omega)]; omega), rf_559_72, bnd_s, rf_559_18, bnd_s, ia2 (n := 12544), a_567 (by omega), bnd_s, e, im2 (n := 256), ia3, s_603 (by omega), bnd_s, nI_1, nrw102, b2i_1]
      refine ih (i + 1) _ (by omega) (by omega) (fun j hj => ?_) (fun c j hc => by rw [u2, if_neg (by omega)]; exact h5 c j hc)
      rw [u2]
      by_cases d : j = i
      · rw [if_pos ⟨rfl, by rw [d]⟩, d]
      · rw [if_neg (by omega)]; exact h4 j (by omega)
end LAY
theorem iZ_c (x : Int32) : x < 0 ∨ ∃ k : Nat, k < 2 ^ 31 ∧ x = nI k := i_cases x
theorem sq_lay {x1 x2 x3 x4 : Int32} : SQ Inv (f_Q_lay NF 0 x1 x2 x3 x4) (f_Mo_lay NF 559 x1 x2 x3 x4) := by
  rintro M ⟨mi, ml, rfl, l, nb, no, Bd, Ou, hI⟩
  have hL := hI.2.2.2.2.1
  obtain ⟨⟨b1, b2, b3⟩, ⟨b4, b5, b6, b7, b8⟩, _, _⟩ := hI.2.2.1
  have stay : ∀ r, f_Q_lay NF 0 x1 x2 x3 x4 (K mi ml) = some (r, K mi ml) → (∃ m2, f_Mo_lay NF 559 x1 x2 x3 x4 (K mi ml) = some (r, K m2 ml) ∧ Kp mi m2) → ∃ (r : Int32) (M1 M2 : MM), f_Q_lay NF 0 x1 x2 x3 x4 (K mi ml) = some (r, M1) ∧ f_Mo_lay NF 559 x1 x2 x3 x4 M1 = some (r, M2) ∧ Inv M2 := fun r e1 ⟨m2, e2, e3⟩ => ⟨r, K mi ml, K m2 ml, e1, e2, m2, ml, rfl, l, nb, no, Bd, Ou, IV_keep hI e3⟩
  rcases form_of (n := NF) (ml := ml) (x1 := 0) (x2 := x1) (Or.inl rfl) hI.2.2.1 with ⟨e1, e2, e3⟩ | ⟨a, p, b, S, e0, e1, e2, e3, e4, e5, e7, e6⟩
  · refine stay (-1) ?_ ⟨mi, ?_, Kp.rf hI.1⟩
    · unfold f_Q_lay; rw [o_0, e1, bnd_s]; rfl
    · unfold f_Mo_lay
      rw [o_559]
      rcases e3 with c | ⟨k, k1, k2, k3, _⟩
      · rw [if_pos c]
      · subst k2
        rw [if_neg (inN k1), rf_559_21, bnd_s, g_559, bnd_s, b4, a_568 (by omega), bnd_s, b6, if_pos (by rw [nI_leI (by omega) k1]; exact k3 rfl)]
  · rcases e7 with ⟨_, hb, rfl, rfl, rfl⟩ | ⟨q, _⟩
    · subst e0
      have hb8 : b < 8 := by omega
      have Qs : f_Q_lay NF 0 (nI b) x2 x3 x4 (K mi ml) = ((f_Q_isImage NF x2 (K mi ml)).bind fun p3 => if p3.1 = 0 then some ((-1), p3.2) else (gR 11 14 0 p3.2).bind fun v5 => (f_Table_holdsBoard NF v5 (nI b) p3.2).bind fun p6 => if p6.1 = 0 then (f_Form_staysOn NF (223 + 24 * b) x2 x3 x4 p6.2).bind fun p8 => if p8.1 = 0 then some ((-1), p8.2) else (gR 11 14 0 p8.2).bind fun v10 => (f_Table_put NF v10 (nI b) (223 + 24 * b) x2 x3 x4 p8.2).bind fun M11 => (gR 11 14 0 M11).bind fun v12 => (f_Table_countLays NF v12 M11).bind fun p13 => some (p13.1, p13.2) else some ((-1), p6.2)) := by
        unfold f_Q_lay; rw [o_0, e4, bnd_s]; rfl
      have Ms : ∀ m1, m1 559 19 = nI l → m1 568 l = nI nb → f_Mo_lay NF 559 (nI b) x2 x3 x4 (K m1 ml) = (if x2 < 0 then some ((-1), K m1 ml) else if 7 < x2 then some ((-1), K m1 ml) else if m1 602 b = (-1) then if x3 < (-7) then some ((-1), K m1 ml) else if 7 < x3 then some ((-1), K m1 ml) else if x4 < (-7) then some ((-1), K m1 ml) else if x4 ≤ 7 then (f_Mo_imaged NF 559 (nI (8 * l + b)) x2 48 (K m1 ml)).bind fun M22 => (f_Mo_shifts NF 559 48 49 x3 x4 M22).bind fun p23 => if p23.1 = 0 then some ((-1), p23.2) else (gR 12 71 559 p23.2).bind fun v25 => (sI 100 v25 (nI b) x2 p23.2).bind fun M26 => f_Mo_lay_107 NF (f_Mo_lay_145 NF) NF 559 (nI b) 0 M26 else some ((-1), K m1 ml) else some ((-1), K m1 ml)) := by
        intro m1 q1 q2
        unfold f_Mo_lay
        rw [o_559, if_neg (inN (by omega)), rf_559_21, bnd_s, g_559, bnd_s, q1, a_568 (by omega), bnd_s, q2, if_neg (by rw [nI_leI (by omega) (by omega)]; omega), rf_559_71, bnd_s, a_602 hb8, bnd_s, bnd_s, im2 (n := 8), ia3]
      rcases image_c x2 NF with ⟨q, q2⟩ | ⟨g, g1, g2, g3⟩
      · refine stay (-1) (by rw [Qs, q, bnd_s, if_pos rfl]) ⟨mi, ?_, Kp.rf hI.1⟩
        rw [Ms mi b4 b6]
        rcases q2 with c | ⟨c1, c2, c3⟩
        · rw [if_pos c]
        · rw [if_neg c1, if_pos c3]
      · subst g2
        have Ms2 : ∀ m1, m1 559 19 = nI l → m1 568 l = nI nb → f_Mo_lay NF 559 (nI b) (nI g) x3 x4 (K m1 ml) = _ := fun m1 q1 q2 => by
          rw [Ms m1 q1 q2, if_neg (inN (by omega)), if_neg (by rw [it1 (n := 7) (by omega) (by omega)]; omega)]
        by_cases d : mi 131 b = -1
        · have d2 : mi 602 b = -1 := (hL b hb8).2.2.mpr d
          have Qs2 : f_Q_lay NF 0 (nI b) (nI g) x3 x4 (K mi ml) = ((f_Form_staysOn NF (223 + 24 * b) (nI g) x3 x4 (K mi ml)).bind fun p8 => if p8.1 = 0 then some ((-1), p8.2) else (gR 11 14 0 p8.2).bind fun v10 => (f_Table_put NF v10 (nI b) (223 + 24 * b) (nI g) x3 x4 p8.2).bind fun M11 => (gR 11 14 0 M11).bind fun v12 => (f_Table_countLays NF v12 M11).bind fun p13 => some (p13.1, p13.2)) := by
            rw [Qs, g3, bnd_s, if_neg n10, rf_0_14, bnd_s, holdsBoard_s hb8, bnd_s, show lds mi b = false by unfold lds; simp [d], if_pos (show b2i false = 0 by decide)]
          have him := no_ex.mp (im_no g e5.1)
          have hmn := im_mn g e5.1
          obtain ⟨m2, c1, c2, c3, c4⟩ := imaged_S (n := NF) (p := 8 * l + b) (mi := mi) (ml := ml) (g := g) (to := 48) hI.1 (by omega) (by omega) g1 (by decide) (by omega) (by omega) (by omega)
          rw [e5.2.2.1] at c2
          have kp48 := c3.kp c4 (by simp)
          obtain ⟨z, z1, z2, z3⟩ := iZ_of x3
          obtain ⟨w, w1, w2, w3⟩ := iZ_of x4
          have hz7 : (x3 < (-7)) = (z < -7) := by rw [z3, show (-7 : Int32) = iZ (-7) from rfl]; exact propext (iZ_lt (b := -7) z1 z2 (by omega) (by omega))
          have hz8 : ((7 : Int32) < x3) = (7 < z) := by rw [z3]; exact propext (iZ_g7 z1 z2)
          have hw7 : (x4 < (-7)) = (w < -7) := by rw [w3, show (-7 : Int32) = iZ (-7) from rfl]; exact propext (iZ_lt (b := -7) w1 w2 (by omega) (by omega))
          have hw8 : (x4 ≤ (7 : Int32)) = (w ≤ 7) := by rw [w3]; exact propext (iZ_l7 w1 w2)
          have offc : sOff z w (imS g (Bd b)) = true → ∃ m2, f_Mo_lay NF 559 (nI b) (nI g) x3 x4 (K mi ml) = some (-1, K m2 ml) ∧ Kp mi m2 := by
            intro ho
            rw [Ms2 mi b4 b6, if_pos d2]
            simp only [hz7, hz8, hw7, hw8]
            by_cases q1 : z < -7
            · exact ⟨mi, by rw [if_pos q1], Kp.rf hI.1⟩
            · rw [if_neg q1]
              by_cases q2 : 7 < z
              · exact ⟨mi, by rw [if_pos q2], Kp.rf hI.1⟩
              · rw [if_neg q2]
                by_cases q3 : w < -7
                · exact ⟨mi, by rw [if_pos q3], Kp.rf hI.1⟩
                · rw [if_neg q3]
                  by_cases q4 : w ≤ 7
                  · rw [if_pos q4, show (48 : Int32) = nI 48 from rfl, show (49 : Int32) = nI 49 from rfl, c1, bnd_s, z3, w3, shifts_S (by omega) (by omega) (by omega) (by omega) (by omega) (by decide), bnd_s, c2, ho, if_pos (show b2i (!true) = 0 by decide)]
                    exact ⟨_, rfl, kp48.tr (Fr.kp (ps := [49]) (Fr.rf.set (by simp)) (B01_set c4) (by simp))⟩
                  · exact ⟨mi, by rw [if_neg q4], Kp.rf hI.1⟩
          by_cases hneg : z < 0 ∨ w < 0
          · refine stay (-1) ?_ (offc (stay_neg him hmn hneg))
            rw [Qs2, staysOn_n e1 (by rw [z3, w3, iZ_l0 z1 z2, iZ_l0 w1 w2]; exact hneg), bnd_s, if_pos rfl]
          · obtain ⟨x, rfl⟩ : ∃ x : Nat, z = (x : Int) := ⟨z.toNat, by omega⟩
            obtain ⟨y, rfl⟩ : ∃ y : Nat, w = (y : Int) := ⟨w.toNat, by omega⟩
            rw [← iZ_nat] at z3 w3
            subst z3 w3
            have hso := staysOn_p (n := NF) (ml := ml) (x := x) (y := y) e1 e5.2.2.2.1 g1 him (by omega) (by omega)
            cases ho : sOff (x : Int) (y : Int) (imS g (Bd b)) with
            | true =>
              refine stay (-1) ?_ (offc ho)
              rw [Qs2, hso, bnd_s, ho, if_pos (show b2i (!true) = 0 by decide)]
            | false =>
              have hx8 : x < 8 ∧ y < 8 := by
                obtain ⟨i, i1, i2⟩ := him
                have := sIn_t.mp (sOff_f.mp ho i i1 i2)
                omega
              have hls : lsG (Bd b) g < 8 := by have := lsG_le (S := Bd b) (g := g); omega
              generalize h1 : upd2 (setRw mi (138 + 2 * b) (shR (mi (223 + 24 * b + 8 + 2 * g + 1)) (x : Int) (y : Int))) 131 b (nI (64 * lsG (Bd b) g + 8 * x + y)) = m1
              have f1 : ∀ c j, ¬ (c = 131 ∧ j = b) → c ≠ 138 + 2 * b + 1 → m1 c j = mi c j := fun c j q1 q2 => by rw [← h1, u2, if_neg q1, setRw_ne q2]
              have hsv : svS m1 (138 + 2 * b) = shC (x : Int) (y : Int) (imS g (Bd b)) := by
                rw [sv_of (mi := setRw mi (138 + 2 * b) (shR (mi (223 + 24 * b + 8 + 2 * g + 1)) (x : Int) (y : Int))) (by rw [← h1, upd2_ne (by omega)]), sv_set, shR_S]
                rw [← (e5.2.2.2.1.2 g g1).1]; rfl
              have h131 : m1 131 b = nI (64 * lsG (Bd b) g + 8 * x + y) := by rw [← h1, u2, if_pos ⟨rfl, rfl⟩]
              have hb1 : B01 m1 := fun j => by rw [f1 567 j (by omega) (by omega)]; exact hI.1 j
              have hp1 : pS m1 (8 * l + b) = Bd b := by
                rw [← e5.2.2.1]
                exact cu_ext fun i _ => by unfold pg; rw [f1 567 _ (by omega) (by omega)]
              obtain ⟨m2, c1, c2, c3, c4⟩ := imaged_S (n := NF) (p := 8 * l + b) (mi := m1) (ml := ml) (g := g) (to := 48) hb1 (by omega) (by omega) g1 (by decide) (by omega) (by omega) (by omega)
              rw [hp1] at c2
              generalize h3 : setPg m2 49 (shC (x : Int) (y : Int) (imS g (Bd b))) = m3
              have hb3 : B01 m3 := by rw [← h3]; exact B01_set c4
              have hp3 : pS m3 49 = shC (x : Int) (y : Int) (imS g (Bd b)) := by rw [← h3, pS_set]; exact cu_cu _
              have f3 : Fr [44, 45, 48, 49] m1 m3 := by
                rw [← h3]
                exact (Fr.mono c3 (by simp)).set (by simp)
              have hb4 : B01 (upd2 m3 602 b (nI g)) := fun j => by rw [upd2_ne (by omega)]; exact hb3 j
              have hp4 : pS (upd2 m3 602 b (nI g)) 49 = shC (x : Int) (y : Int) (imS g (Bd b)) := by
                rw [← hp3]
                exact cu_ext fun i _ => by unfold pg; rw [upd2_ne (by omega)]
              obtain ⟨m5, d1, d2', d3⟩ := layc_loop (n := NF) (mi := upd2 m3 602 b (nI g)) (ml := ml) hb8 hb4 (k9 := f_Mo_lay_145 NF) NF 0 _ (by omega) (by decide) (fun j hj => by omega) (fun _ _ _ => rfl)
              rw [hp4] at d2'
              have f5 : ∀ c j, ¬ (c = 131 ∧ j = b) → c ≠ 138 + 2 * b + 1 → ¬ (c = 602 ∧ j = b) → ¬ (c = 603 ∧ 256 * b ≤ j ∧ j < 256 * b + 256) → (c = 567 → j < 11264 ∨ 12800 ≤ j) → m5 c j = mi c j := fun c j q1 q2 q3 q4 q5 => by
                rw [d3 c j q4, u2, if_neg q3, f3 c j (by simp; omega), f1 c j q1 q2]
              have g602 : ∀ b', m5 602 b' = if b' = b then nI g else mi 602 b' := fun b' => by
                rw [d3 602 b' (by omega), u2]
                by_cases q : b' = b
                · rw [if_pos ⟨rfl, q⟩, if_pos q]
                · rw [if_neg (fun e => q e.2), if_neg q, f3 602 b' (by simp), f1 602 b' (by omega) (by omega)]
              have g131 : ∀ b', m5 131 b' = m1 131 b' := fun b' => by
                rw [d3 131 b' (by omega), upd2_ne (by omega), f3 131 b' (by simp)]
              have gsv : ∀ b', b' < 8 → m5 (138 + 2 * b' + 1) = m1 (138 + 2 * b' + 1) := fun b' hb' => by
                funext j
                rw [d3 _ j (by omega), upd2_ne (by omega), f3 _ j (by simp; omega)]
              have hIV : IV l nb no Bd Ou m5 ml := by
                refine IV_table hI (fun j => by rw [d3 567 j (by omega), upd2_ne (by omega)]; exact hb3 j) (IvL_upd hL (b := b) (fun b' hb' hne => ⟨f5 _ _ (by omega) (by omega) (by omega) (by omega) (by omega), f5 _ _ (by omega) (by omega) (by omega) (by omega) (by omega), by funext j; exact f5 _ _ (by omega) (by omega) (by omega) (by omega) (by omega), fun i hi => f5 _ _ (by omega) (by omega) (by omega) (by omega) (by omega)⟩) ⟨?_, fun i hi => ?_, ?_⟩) (fun c j hs hd => ?_)
                · rw [g131, h131, sv_of (gsv b hb8), hsv]
                  exact Or.inr ⟨hb, lsG (Bd b) g, x, y, hls, hx8.1, hx8.2, lsG_id, rfl, by rw [lsG_im]; exact ho, by rw [lsG_im]⟩
                · rw [d2' i hi, sv_of (gsv b hb8), hsv]
                · rw [g602, if_pos rfl, g131, h131]
                  exact ⟨fun e => absurd e (nI_m1 (by omega)), fun e => absurd e (nI_m1 (by omega))⟩
                · have hs2 := fun q hq => St_pg hs (q := q) hq
                  unfold DL at hd
                  exact f5 c j (by omega) (by omega) (by omega) (by omega) (by have := hs2 44 (by omega); have := hs2 45 (by omega); have := hs2 46 (by omega); have := hs2 47 (by omega); have := hs2 48 (by omega); have := hs2 49 (by omega); omega)
              refine ⟨nI (ct (lds m1) 8), K m1 ml, K m5 ml, ?_, ?_, m5, ml, rfl, l, nb, no, Bd, Ou, hIV⟩
              · rw [Qs2, hso, bnd_s, ho, if_neg (show ¬ b2i (!false) = 0 by decide), rf_0_14, bnd_s, put_t hb8 e1 (by omega) e5.2.2.2.1 g1 hx8.1 hx8.2 (by decide), bnd_s, h1, rf_0_14, bnd_s, countLays_s (by decide), bnd_s]
              · rw [Ms2 m1 (by rw [f1 559 19 (by omega) (by omega)]; exact b4) (by rw [f1 568 l (by omega) (by omega)]; exact b6), if_pos (by rw [f1 602 b (by omega) (by omega)]; exact d2)]
                simp only [hz7, hz8, hw7, hw8]
                rw [if_neg (by omega), if_neg (by omega), if_neg (by omega), if_pos (by omega), show (48 : Int32) = nI 48 from rfl, show (49 : Int32) = nI 49 from rfl, c1, bnd_s, iZ_nat x, iZ_nat y, shifts_S (by omega) (by omega) (by omega) (by omega) (by omega) (by decide), bnd_s, c2, ho, if_neg (show ¬ b2i (!false) = 0 by decide), h3, rf_559_71, bnd_s, s_602 hb8, bnd_s, nrw100, show (0 : Int32) = nI 0 from rfl, d1]
                unfold f_Mo_lay_145
                rw [laysThere_s (by decide), bnd_s, ← lds_ct hIV.2.2.2.2.1]
                rw [show ct (lds m5) 8 = ct (lds m1) 8 from ct_ext fun k hk => by unfold lds; rw [g131]]
        · have d2 : ¬ mi 602 b = -1 := fun q => d ((hL b hb8).2.2.mp q)
          refine stay (-1) ?_ ⟨mi, ?_, Kp.rf hI.1⟩
          · rw [Qs, g3, bnd_s, if_neg n10, rf_0_14, bnd_s, holdsBoard_s hb8, bnd_s, show lds mi b = true by unfold lds; simp [d], if_neg (show ¬ b2i true = 0 by decide)]
          · rw [Ms2 mi b4 b6, if_neg d2]
    · exact absurd q (by decide)
