/-! ===== the reference's parser: numbers, what waits, what comes out ===== -/
theorem cO_app : ∀ (W : List Wt) (P C : List Cd), cO W (P ++ C) = ((cO W C).1, P ++ (cO W C).2)
  | [], _, _ => rfl
  | w :: W, P, C => by
    rw [cO, cO]
    by_cases c : w.1 = 40
    · rw [if_pos c, if_pos c]
    · rw [if_neg c, if_neg c, List.append_assoc, cO_app W P (C ++ [wC w])]
theorem iZ_m1 (v : Nat) : (-1 : Int32) * nI v = iZ (-(v : Int)) := by
  rw [iZ_nat, show (-1 : Int32) = iZ (-1) from rfl]
  unfold iZ
  rw [← Int32.ofInt_mul]
  congr 1
  omega
section ITM
variable {n z c t w br : Nat} {mi : IM} {ml : JM} {T : Nat → Nat} {W : List Wt} {C : List Cd} {s s' : SyS}
theorem WsM_0 (hm : mf (kd T z) (vT T z) (uT T z) w = 0) (h : WsM T z w mi) : WsM T z (w + 1) mi := by
  rcases h with ⟨h1, h2⟩ | ⟨j, h1, h2⟩
  · exact Or.inl ⟨fun j hj => by
      by_cases d : j = w
      · rw [d]; exact hm
      · exact h1 j (by omega), h2⟩
  · exact Or.inr ⟨j, by omega, h2⟩
theorem mf_5 {j : Nat} : mf (kd T z) (vT T z) (uT T z) j ≤ 5 := by
  unfold mf
  repeat' split
  all_goals omega
theorem wrong_G {F : Nat} (hz : z ≤ 2000) (hs : SL T z c mi ml) (hw : w < c) (h13 : mi 559 13 = 0) (h : WsM T z w mi) (hm : mf (kd T z) (vT T z) (uT T z) w = F) (hF : F ≠ 0) (hlt : tP T z w < z) : ∃ mi', f_Mo_wrong n 559 (nI F) (nI w) (K mi ml) = some (K mi' ml) ∧ WsM T z (w + 1) mi' ∧ (∀ a j, ¬ (a = 559 ∧ (j = 15 ∨ j = 16)) → mi' a j = mi a j) := by
  have hc4 := hs.2.1
  unfold f_Mo_wrong f_Mo_wrong_46
  rw [o_559, rf_559_6, bnd_s, a_563 (by omega), bnd_s, (hs.1.2 w hw).2.1, g_559, bnd_s, h13, if_neg (by decide), g_559, bnd_s]
  rcases h with ⟨h1, h2⟩ | ⟨j, h1, h2, h3, h4, h5⟩
  · rw [h2, if_pos (show (0 : Int32) = 0 from rfl), p_559, bnd_s, p_559, bnd_s]
    refine ⟨_, rfl, Or.inr ⟨w, by omega, by rw [hm]; exact hF, h1, ?_, ?_⟩, fun a j q => by rw [u2, if_neg (by omega), u2, if_neg (by omega)]⟩
    · rw [u2, if_neg (by omega), uE, hm]
    · rw [uE]
  · have h6 := mf_5 (T := T) (z := z) (j := j)
    have h7 := tP_up h1 hlt
    rw [h4, if_neg (show ¬ nI (mf (kd T z) (vT T z) (uT T z) j) = 0 by rw [show (0 : Int32) = nI 0 from rfl, nI_eq (by omega) (by omega)]; exact h2), g_559, bnd_s, h5, if_pos (by rw [nI_ltI (by omega) (by omega)]; exact h7)]
    exact ⟨mi, rfl, Or.inr ⟨j, by omega, h2, h3, h4, h5⟩, fun _ _ _ => rfl⟩
theorem wrong_2 {F : Nat} (hz : z ≤ 2000) (hs : SL T z c mi ml) (hw : w < c) (h13 : mi 559 13 = 0) (h : WsM T z (w + 1) mi) (hm : mf (kd T z) (vT T z) (uT T z) w = F) (hF : F ≠ 0) (hlt : tP T z w < z) : f_Mo_wrong n 559 (nI F) (nI w) (K mi ml) = some (K mi ml) := by
  have hc4 := hs.2.1
  unfold f_Mo_wrong f_Mo_wrong_46
  rw [o_559, rf_559_6, bnd_s, a_563 (by omega), bnd_s, (hs.1.2 w hw).2.1, g_559, bnd_s, h13, if_neg (by decide), g_559, bnd_s]
  rcases h with ⟨h1, h2⟩ | ⟨j, h1, h2, h3, h4, h5⟩
  · exact absurd (h1 w (by omega)) (by rw [hm]; exact hF)
  · have h6 := mf_5 (T := T) (z := z) (j := j)
    rw [h4, if_neg (show ¬ nI (mf (kd T z) (vT T z) (uT T z) j) = 0 by rw [show (0 : Int32) = nI 0 from rfl, nI_eq (by omega) (by omega)]; exact h2), g_559, bnd_s, h5]
    by_cases d : j = w
    · subst d
      rw [if_neg (by rw [nI_ltI (by omega) (by omega)]; omega), bnd_s, if_pos rfl, bnd_s, hm, if_neg (by rw [nI_ltI (by omega) (by omega)]; omega)]
    · have h7 := tP_up (show j < w by omega) hlt
      rw [if_pos (by rw [nI_ltI (by omega) (by omega)]; exact h7)]
theorem PX_w {w' : Nat} {mi' : IM} (h : PX T z t w br W C mi) (hf : ∀ a j, ¬ (a = 559 ∧ (j = 15 ∨ j = 16)) → mi' a j = mi a j) (hw : WsM T z w' mi') : PX T z t w' br W C mi' := by
  obtain ⟨⟨h1, h2, h3⟩, ⟨h4, h5⟩, ⟨h6, h7⟩, h8⟩ := h
  exact ⟨⟨by rw [hf _ _ (by omega)]; exact h1, by rw [hf _ _ (by omega)]; exact h2, by rw [hf _ _ (by omega)]; exact h3⟩, ⟨by rw [hf _ _ (by omega)]; exact h4, WM_c (fun a j q1 q2 _ => hf _ _ (by omega)) h5⟩, ⟨by rw [hf _ _ (by omega)]; exact h6, CM_c (fun a j q1 q2 _ => hf _ _ (by omega)) h7⟩, hw⟩
theorem nx_3 (h : s.1 = 4 ∨ s.1 = 5 ∨ s.1 = 6) : nx s 3 = some (if 1 < s.2.1 then (if s.1 = 6 then 6 else 4) else (if s.1 = 6 then 7 else 3), s.2.1 - 1, s.2.2) := by
  rcases h with h | h | h <;> simp [nx, h]
/-- a number, as `number` reads it -/
theorem number_G {lo : Nat} {hi : Int} (hz : z ≤ 2000) (hs : SL T z c mi ml) (hP : PX T z t t br W C mi) (hA : Au (kd T z) t = some s) (h4 : s.1 = 4 ∨ s.1 = 5 ∨ s.1 = 6) (h45 : s.1 = 4 → kd T z t ≠ 45) (hm : ∀ x, x < 100 → (nF (mW (kd T z) (vT T z) t) x = true ↔ x < lo ∨ hi < (x : Int))) (hlo : lo ≤ 1) (hh : -200 ≤ hi ∧ hi ≤ 200) : (∃ mi' x, f_Mo_number n 559 (nI lo) (iZ hi) (K mi ml) = some (x, K mi' ml) ∧ Dn T z mi' ∧ FN mi mi') ∨ (kd T z t = 3 ∧ Au (kd T z) (t + 1) = some (if 1 < s.2.1 then (if s.1 = 6 then 6 else 4) else (if s.1 = 6 then 7 else 3), s.2.1 - 1, s.2.2) ∧ ∃ mi', f_Mo_number n 559 (nI lo) (iZ hi) (K mi ml) = some (nI (vT T z t), K mi' ml) ∧ PX T z (t + 1) (t + 1) br W C mi' ∧ FN mi mi') := by
  have hAn : Au (kd T z) t ≠ none := by rw [hA]; intro q; cases q
  have hc := tok_lt hs hAn
  have hc4 := hs.2.1
  have hb := Au_i hA
  have h11 := hP.1.1
  have h13 := hP.1.2.1
  unfold f_Mo_number f_Mo_number_26 f_Mo_number_52 f_Mo_must
  rw [o_559, g_559, bnd_s, h11, show f_Mo_is n 559 2 (K mi ml) = _ from is_G (x := 3) hs hAn h11 h13 (by decide), bnd_s]
  by_cases d : kd T z t = 3
  · rw [decide_eq_true d, if_neg (show ¬ b2i true = 0 by decide), rf_559_7, bnd_s, g_559, bnd_s]
    show (∃ mi' x, (aI 100 564 (mi 559 11) (K mi ml)).bind _ = _ ∧ _) ∨ (_ ∧ _ ∧ ∃ mi', (aI 100 564 (mi 559 11) (K mi ml)).bind _ = _ ∧ _)
    rw [h11, a_564 (by omega), bnd_s, o_559, show f_Mo_is n 559 2 (K mi ml) = _ from is_G (x := 3) hs hAn h11 h13 (by decide), bnd_s, decide_eq_true d, if_neg (show ¬ b2i true = 0 by decide), (hs.1.2 t hc.1).2.2.1 d]
    rcases next_G (n := n) (s' := (if 1 < s.2.1 then (if s.1 = 6 then 6 else 4) else (if s.1 = 6 then 7 else 3), s.2.1 - 1, s.2.2)) hs hA h11 h13 (by rw [d]; exact nx_3 h4) ⟨hb.2.2.2.1, hb.2.2.2.2.1, hb.2.2.2.2.2.1⟩ with ⟨mi', e1, e2, e3⟩ | ⟨e0, e1, e2⟩
    · left
      refine ⟨mi', nI (vT T z t), ?_, e2, e3⟩
      show ((f_Mo_next n 559 (K mi ml)).bind _).bind _ = _
      rw [e1, bnd_s, bnd_s, g_559, bnd_s, if_neg (Dn_ne e2).1]; rfl
    · right
      refine ⟨d, e1, ?_⟩
      have hlt := kd_3 d
      have hPt : PX T z (t + 1) t br W C (upd2 mi 559 11 (nI (t + 1))) := PX_t hP
      have hs2 : SL T z c (upd2 mi 559 11 (nI (t + 1))) ml := SL_c (FE.u (by omega)) hs
      have hmf : mf (kd T z) (vT T z) (uT T z) t = if nF (mW (kd T z) (vT T z) t) (vT T z t) = true then 5 else 0 := by unfold mf; rw [if_neg (by omega), if_pos d]
      show ∃ mi', ((f_Mo_next n 559 (K mi ml)).bind _).bind _ = _ ∧ _
      rw [e2, bnd_s, bnd_s, g_559, bnd_s, hPt.1.2.1, if_pos (show (0 : Int32) = 0 from rfl)]
      have bad : nF (mW (kd T z) (vT T z) t) (vT T z t) = true → ∃ mi', ((f_Mo_wrong n 559 5 (nI t) (K (upd2 mi 559 11 (nI (t + 1))) ml)).bind fun M1 => some (nI (vT T z t), M1)) = some (nI (vT T z t), K mi' ml) ∧ PX T z (t + 1) (t + 1) br W C mi' ∧ FN mi mi' := fun q => by
        obtain ⟨mi', x1, x2, x3⟩ := wrong_G (n := n) (F := 5) hz hs2 hc.1 hPt.1.2.1 hPt.2.2.2 (by rw [hmf, if_pos q]) (by omega) hlt.1
        rw [show f_Mo_wrong n 559 5 (nI t) (K (upd2 mi 559 11 (nI (t + 1))) ml) = _ from x1, bnd_s]
        exact ⟨mi', rfl, PX_w hPt x3 x2, fun a j g => by rw [x3 a j (by omega), u2, if_neg (by omega)]⟩
      have hv : nI (vT T z t) = iZ (vT T z t : Int) := iZ_nat _
      by_cases f : vT T z t < lo
      · rw [if_pos (show nI (dV T (tP T z t) (te T z (tP T z t) - tP T z t)) < nI lo by rw [nI_ltI (show dV T (tP T z t) (te T z (tP T z t) - tP T z t) < 2 ^ 31 by have := hlt.2; unfold vT at this; omega) (by omega)]; exact f)]
        exact bad ((hm _ hlt.2).mpr (Or.inl f))
      · rw [if_neg (show ¬ nI (dV T (tP T z t) (te T z (tP T z t) - tP T z t)) < nI lo by rw [nI_ltI (show dV T (tP T z t) (te T z (tP T z t) - tP T z t) < 2 ^ 31 by have := hlt.2; unfold vT at this; omega) (by omega)]; exact f)]
        by_cases g : hi < (vT T z t : Int)
        · rw [if_neg (show ¬ nI (dV T (tP T z t) (te T z (tP T z t) - tP T z t)) ≤ iZ hi by
            have := hlt.2
            show ¬ nI (vT T z t) ≤ iZ hi
            rw [hv, iZ_le (by omega) (by omega) (by omega) (by omega)]; omega)]
          exact bad ((hm _ hlt.2).mpr (Or.inr g))
        · rw [if_pos (show nI (dV T (tP T z t) (te T z (tP T z t) - tP T z t)) ≤ iZ hi by
            have := hlt.2
            show nI (vT T z t) ≤ iZ hi
            rw [hv, iZ_le (by omega) (by omega) (by omega) (by omega)]; omega)]
          have hno : ¬ nF (mW (kd T z) (vT T z) t) (vT T z t) = true := fun q => by
            rcases (hm _ hlt.2).mp q with q | q
            · exact f q
            · exact g q
          exact ⟨_, rfl, PX_w hPt (fun _ _ _ => rfl) (WsM_0 (by rw [hmf, if_neg hno]) hPt.2.2.2), FN.u (by omega)⟩
  · left
    have hno : nx s (kd T z t) = none := by
      cases e : nx s (kd T z t) with
      | none => rfl
      | some x => have := nx_c e; have := h45; omega
    rw [decide_eq_false d, if_pos (show b2i false = 0 from rfl)]
    have hD := Dn_1 (mi := mi) hA (Or.inl (by omega)) hno h11
    refine ⟨flM mi 1 (tP T z t), 0, ?_, hD, fl_FE⟩
    rw [o_559, show f_Mo_is n 559 2 (K mi ml) = _ from is_G (x := 3) hs hAn h11 h13 (by decide), bnd_s, decide_eq_false d, if_pos (show b2i false = 0 from rfl), show f_Mo_fail n 559 1 (K mi ml) = _ from fail_G hs hAn h11 h13, bnd_s, bnd_s, g_559, bnd_s, if_neg (Dn_ne hD).1]
/-- a number with its sign, as `signed` reads it -/
theorem signed_G (hz : z ≤ 2000) (hs : SL T z c mi ml) (hP : PX T z t t br W C mi) (hA : Au (kd T z) t = some s) (h4 : s.1 = 4) (hpre : kd T z (t - 1) ≠ 45) (ht : 0 < t) (hW : (mW (kd T z) (vT T z) t).2.1 < 2) : (∃ mi' x, f_Mo_signed n 559 (K mi ml) = some (x, K mi' ml) ∧ Dn T z mi' ∧ FN mi mi') ∨ ∃ t', t < t' ∧ kd T z (t' - 1) = 3 ∧ Au (kd T z) t' = some (if 1 < s.2.1 then 4 else 3, s.2.1 - 1, s.2.2) ∧ pbk (kd T z) (t' - 1) = t - 1 ∧ (mW (kd T z) (vT T z) t').2.1 = (mW (kd T z) (vT T z) t).2.1 + 1 ∧ (Au (kd T z) (t' - 1) = some s ∨ Au (kd T z) (t' - 1) = some (5, s.2)) ∧ (∀ j, t ≤ j → j < t' - 1 → kd T z j = 45 ∧ Au (kd T z) j = some s) ∧ ∃ mi', f_Mo_signed n 559 (K mi ml) = some (iZ (sgV (kd T z) (vT T z) (t' - 1)), K mi' ml) ∧ PX T z t' t' br W C mi' ∧ FN mi mi' := by
  have hAn : Au (kd T z) t ≠ none := by rw [hA]; intro q; cases q
  have hb := Au_i hA
  have h11 := hP.1.1
  have h13 := hP.1.2.1
  have nFw : ∀ {w : Nat × Nat × Nat × Nat} {x : Nat}, w.2.1 < 2 → (nF w x = true ↔ x < 0 ∨ (7 : Int) < (x : Int)) := fun {w x} q => by
    unfold nF
    rw [decide_eq_true_iff, if_pos q]; omega
  have mw3 : ∀ j, kd T z j = 3 → (mW (kd T z) (vT T z) (j + 1)).2.1 = (mW (kd T z) (vT T z) j).2.1 + 1 := fun j q => by rw [mW, if_neg (by omega), if_pos q]
  unfold f_Mo_signed f_Mo_signed_14 f_Mo_signed_28
  rw [o_559, show f_Mo_is n 559 9 (K mi ml) = _ from is_G (x := 45) hs hAn h11 h13 (by decide), bnd_s]
  by_cases d : kd T z t = 45
  · rw [decide_eq_true d, if_neg (show ¬ b2i true = 0 by decide), show f_Mo_is n 559 9 (K mi ml) = _ from is_G (x := 45) hs hAn h11 h13 (by decide), bnd_s, decide_eq_true d, if_neg (show ¬ b2i true = 0 by decide)]
    rcases next_G (n := n) (s' := (5, s.2)) hs hA h11 h13 (by rw [d]; simp [nx, h4]) ⟨hb.2.2.2.1, hb.2.2.2.2.1, hb.2.2.2.2.2.1⟩ with ⟨mi', e1, e2, e3⟩ | ⟨e0, e1, e2⟩
    · left
      refine ⟨mi', (-1) * 0, ?_, e2, e3⟩
      show (f_Mo_next n 559 (K mi ml)).bind _ = _
      rw [e1, bnd_s, number_D e2, bnd_s]
    · have hmf : mf (kd T z) (vT T z) (uT T z) t = 0 := by unfold mf; rw [if_neg (by omega), if_neg (by omega)]
      have hPt : PX T z (t + 1) (t + 1) br W C (upd2 mi 559 11 (nI (t + 1))) := PX_w (PX_t hP) (fun _ _ _ => rfl) (WsM_0 hmf (WsM_c (by rw [u2, if_neg (by omega)]) (by rw [u2, if_neg (by omega)]) hP.2.2.2))
      have hs2 : SL T z c (upd2 mi 559 11 (nI (t + 1))) ml := SL_c (FE.u (by omega)) hs
      have mwe : mW (kd T z) (vT T z) (t + 1) = mW (kd T z) (vT T z) t := by rw [mW, if_neg (by omega), if_neg (by omega)]
      rcases number_G (n := n) (lo := 0) (hi := 7) hz hs2 hPt e1 (Or.inr (Or.inl rfl)) (fun q => by simp only [] at q; omega) (fun x hx => nFw (by rw [mwe]; exact hW)) (by omega) (by omega) with ⟨mi', x, f1, f2, f3⟩ | ⟨f0, f1, mi', f2, f3, f4⟩
      · left
        refine ⟨mi', (-1) * x, ?_, f2, (FN.u (by omega)).tr f3⟩
        show (f_Mo_next n 559 (K mi ml)).bind _ = _
        rw [e2, bnd_s, show f_Mo_number n 559 0 7 (K (upd2 mi 559 11 (nI (t + 1))) ml) = _ from f1, bnd_s]
      · right
        refine ⟨t + 1 + 1, by omega, f0, by simpa using f1, ?_, ?_, Or.inr e1, fun j q1 q2 => by rw [show j = t by omega]; exact ⟨d, hA⟩, mi', ?_, f3, (FN.u (by omega)).tr f4⟩
        · show pbk (kd T z) (t + 1) = t - 1
          unfold pbk
          rw [show t + 1 - 1 = t by omega, if_pos d]; omega
        · rw [mw3 _ f0, mwe]
        · show (f_Mo_next n 559 (K mi ml)).bind _ = _
          rw [e2, bnd_s, show f_Mo_number n 559 0 7 (K (upd2 mi 559 11 (nI (t + 1))) ml) = _ from f2, bnd_s]
          have : sgV (kd T z) (vT T z) (t + 1 + 1 - 1) = -(vT T z (t + 1) : Int) := by
            show sgV (kd T z) (vT T z) (t + 1) = _
            unfold sgV
            rw [show t + 1 - 1 = t by omega, if_pos d]
          rw [this]
          congr 2
          show (-1 : Int32) * nI (vT T z (t + 1)) = _
          exact iZ_m1 _
  · rw [decide_eq_false d, if_pos (show b2i false = 0 from rfl), show f_Mo_is n 559 9 (K mi ml) = _ from is_G (x := 45) hs hAn h11 h13 (by decide), bnd_s, decide_eq_false d, if_pos (show b2i false = 0 from rfl)]
    rcases number_G (n := n) (lo := 0) (hi := 7) hz hs hP hA (Or.inl h4) (fun _ => d) (fun x hx => nFw hW) (by omega) (by omega) with ⟨mi', x, f1, f2, f3⟩ | ⟨f0, f1, mi', f2, f3, f4⟩
    · left
      refine ⟨mi', 1 * x, ?_, f2, f3⟩
      show (f_Mo_number n 559 0 7 (K mi ml)).bind _ = _
      rw [show f_Mo_number n 559 0 7 (K mi ml) = _ from f1, bnd_s]
    · right
      refine ⟨t + 1, by omega, f0, by rw [f1]; simp [h4], ?_, mw3 _ f0, Or.inl hA, fun j q1 q2 => by omega, mi', ?_, f3, f4⟩
      · show pbk (kd T z) t = t - 1
        unfold pbk
        rw [if_neg hpre]
      · show (f_Mo_number n 559 0 7 (K mi ml)).bind _ = _
        rw [show f_Mo_number n 559 0 7 (K mi ml) = _ from f2, bnd_s]
        have : sgV (kd T z) (vT T z) (t + 1 - 1) = (vT T z t : Int) := by
          show sgV (kd T z) (vT T z) t = _
          unfold sgV
          rw [if_neg hpre]
        rw [this]
        congr 2
        show (1 : Int32) * nI (vT T z t) = _
        rw [Int32.one_mul, iZ_nat]
theorem waits_G {x : Nat} {a b : Int} {pl : Nat} (hP : PX T z t w br W C mi) (hl : W.length < 420) : ∃ mi', f_Mo_waitsFor n 559 (nI (mK x)) (iZ a) (iZ b) (nI pl) (K mi ml) = some (K mi' ml) ∧ PX T z t w br ((x, a, b, pl) :: W) C mi' ∧ FE mi mi' := by
  obtain ⟨⟨h1, h2, h3⟩, ⟨h4, h5⟩, ⟨h6, h7⟩, h8⟩ := hP
  unfold f_Mo_waitsFor
  rw [o_559, rf_559_36, bnd_s, g_559, bnd_s, h4, s_581 hl, bnd_s, nrw100, rf_559_37, bnd_s, g_559, bnd_s, upd2_ne (by omega), h4, s_582 hl, bnd_s, nrw100, rf_559_38, bnd_s, g_559, bnd_s, upd2_ne (by omega), upd2_ne (by omega), h4, s_583 hl, bnd_s, nrw100, rf_559_39, bnd_s, g_559, bnd_s, upd2_ne (by omega), upd2_ne (by omega), upd2_ne (by omega), h4, s_584 hl, bnd_s, nrw100, g_559, bnd_s, upd2_ne (by omega), upd2_ne (by omega), upd2_ne (by omega), upd2_ne (by omega), h4, nI_1, p_559, bnd_s]
  generalize hG : upd2 (upd2 (upd2 (upd2 (upd2 mi 581 W.length (nI (mK x))) 582 W.length (iZ a)) 583 W.length (iZ b)) 584 W.length (nI pl)) 559 40 (nI (W.length + 1)) = mg
  have f : ∀ a j, ¬ (a = 559 ∧ j = 40) → ¬ (581 ≤ a ∧ a ≤ 584 ∧ j = W.length) → mg a j = mi a j := fun a j q1 q2 => by
    rw [← hG, u2, if_neg (by omega), u2, if_neg (by omega), u2, if_neg (by omega), u2, if_neg (by omega), u2, if_neg (by omega)]
  refine ⟨mg, rfl, ⟨⟨by rw [f _ _ (by omega) (by omega)]; exact h1, by rw [f _ _ (by omega) (by omega)]; exact h2, by rw [f _ _ (by omega) (by omega)]; exact h3⟩, ⟨by rw [← hG, uE, List.length_cons], ⟨?_, ?_, ?_, ?_⟩, WM_c (fun a j q1 q2 q3 => f a j (by omega) (by omega)) h5⟩, ⟨by rw [f _ _ (by omega) (by omega)]; exact h6, CM_c (fun a j q1 q2 q3 => f a j (by omega) (by omega)) h7⟩, WsM_c (f _ _ (by omega) (by omega)) (f _ _ (by omega) (by omega)) h8⟩, fun a j q1 q2 => f a j (by omega) (by omega)⟩
  · rw [← hG, upd2_ne (by omega), upd2_ne (by omega), upd2_ne (by omega), upd2_ne (by omega), uE]
  · rw [← hG, upd2_ne (by omega), upd2_ne (by omega), upd2_ne (by omega), uE]
  · rw [← hG, upd2_ne (by omega), upd2_ne (by omega), uE]
  · rw [← hG, upd2_ne (by omega), uE]
theorem waits_D {x a b pl : Int32} {l : Nat} (hD : Dn T z mi) (h4 : mi 559 40 = nI l) (hl : l < 420) : ∃ mi', f_Mo_waitsFor n 559 x a b pl (K mi ml) = some (K mi' ml) ∧ Dn T z mi' ∧ FE mi mi' := by
  unfold f_Mo_waitsFor
  rw [o_559, rf_559_36, bnd_s, g_559, bnd_s, h4, s_581 hl, bnd_s, nrw100, rf_559_37, bnd_s, g_559, bnd_s, upd2_ne (by omega), h4, s_582 hl, bnd_s, nrw100, rf_559_38, bnd_s, g_559, bnd_s, upd2_ne (by omega), upd2_ne (by omega), h4, s_583 hl, bnd_s, nrw100, rf_559_39, bnd_s, g_559, bnd_s, upd2_ne (by omega), upd2_ne (by omega), upd2_ne (by omega), h4, s_584 hl, bnd_s, nrw100, g_559, bnd_s, upd2_ne (by omega), upd2_ne (by omega), upd2_ne (by omega), upd2_ne (by omega), h4, nI_1, p_559, bnd_s]
  obtain ⟨t', x1, x2⟩ := (Dn_b hD).2
  have f : ∀ a' j, ¬ (a' = 559 ∧ j = 40) → ¬ (581 ≤ a' ∧ a' ≤ 584) → upd2 (upd2 (upd2 (upd2 (upd2 mi 581 l x) 582 l a) 583 l b) 584 l pl) 559 40 (nI (l + 1)) a' j = mi a' j := fun a' j q1 q2 => by
    rw [u2, if_neg (by omega), u2, if_neg (by omega), u2, if_neg (by omega), u2, if_neg (by omega), u2, if_neg (by omega)]
  exact ⟨_, rfl, Dn_c hD (f _ _ (by omega) (by omega)) (f _ _ (by omega) (by omega)) ⟨t', x1, by rw [f _ _ (by omega) (by omega)]; exact x2⟩, fun a' j q1 q2 => f a' j (by omega) (by omega)⟩
theorem emit_G {op pl : Nat} {a b d e : Int} (hP : PX T z t w br W C mi) (hl : C.length < 500) : ∃ mi', f_Mo_emit n 559 (nI op) (iZ a) (iZ b) (iZ d) (iZ e) (nI pl) (K mi ml) = some (K mi' ml) ∧ PX T z t w br W (C ++ [(op, a, b, d, e, pl)]) mi' ∧ FE mi mi' := by
  obtain ⟨⟨h1, h2, h3⟩, ⟨h4, h5⟩, ⟨h6, h7⟩, h8⟩ := hP
  unfold f_Mo_emit
  rw [o_559, rf_559_30, bnd_s, g_559, bnd_s, h6, s_575 hl, bnd_s, nrw100, rf_559_31, bnd_s, g_559, bnd_s, upd2_ne (by omega), h6, s_576 hl, bnd_s, nrw100, rf_559_32, bnd_s, g_559, bnd_s, upd2_ne (by omega), upd2_ne (by omega), h6, s_577 hl, bnd_s, nrw100, rf_559_33, bnd_s, g_559, bnd_s, upd2_ne (by omega), upd2_ne (by omega), upd2_ne (by omega), h6, s_578 hl, bnd_s, nrw100, rf_559_34, bnd_s, g_559, bnd_s, upd2_ne (by omega), upd2_ne (by omega), upd2_ne (by omega), upd2_ne (by omega), h6, s_579 hl, bnd_s, nrw100, rf_559_35, bnd_s, g_559, bnd_s, upd2_ne (by omega), upd2_ne (by omega), upd2_ne (by omega), upd2_ne (by omega), upd2_ne (by omega), h6, s_580 hl, bnd_s, nrw100, g_559, bnd_s, upd2_ne (by omega), upd2_ne (by omega), upd2_ne (by omega), upd2_ne (by omega), upd2_ne (by omega), upd2_ne (by omega), h6, nI_1, p_559, bnd_s]
  generalize hG : upd2 (upd2 (upd2 (upd2 (upd2 (upd2 (upd2 mi 575 C.length (nI op)) 576 C.length (iZ a)) 577 C.length (iZ b)) 578 C.length (iZ d)) 579 C.length (iZ e)) 580 C.length (nI pl)) 559 29 (nI (C.length + 1)) = mg
  have f : ∀ a j, ¬ (a = 559 ∧ j = 29) → ¬ (575 ≤ a ∧ a ≤ 580 ∧ j = C.length) → mg a j = mi a j := fun a j q1 q2 => by
    rw [← hG, u2, if_neg (by omega), u2, if_neg (by omega), u2, if_neg (by omega), u2, if_neg (by omega), u2, if_neg (by omega), u2, if_neg (by omega), u2, if_neg (by omega)]
  refine ⟨mg, rfl, ⟨⟨by rw [f _ _ (by omega) (by omega)]; exact h1, by rw [f _ _ (by omega) (by omega)]; exact h2, by rw [f _ _ (by omega) (by omega)]; exact h3⟩, ⟨by rw [f _ _ (by omega) (by omega)]; exact h4, WM_c (fun a j q1 q2 q3 => f a j (by omega) (by omega)) h5⟩, ⟨by rw [← hG, uE, List.length_append]; rfl, fun j x hx => ?_⟩, WsM_c (f _ _ (by omega) (by omega)) (f _ _ (by omega) (by omega)) h8⟩, fun a j q1 q2 => f a j (by omega) (by omega)⟩
  rcases app_get hx with hx | ⟨hj, he⟩
  · exact CM_c (fun a j q1 q2 q3 => f a j (by omega) (by omega)) h7 j x hx
  · subst hj; subst he
    refine ⟨?_, ?_, ?_, ?_, ?_, ?_⟩
    · rw [← hG, upd2_ne (by omega), upd2_ne (by omega), upd2_ne (by omega), upd2_ne (by omega), upd2_ne (by omega), upd2_ne (by omega), uE]
    · rw [← hG, upd2_ne (by omega), upd2_ne (by omega), upd2_ne (by omega), upd2_ne (by omega), upd2_ne (by omega), uE]
    · rw [← hG, upd2_ne (by omega), upd2_ne (by omega), upd2_ne (by omega), upd2_ne (by omega), uE]
    · rw [← hG, upd2_ne (by omega), upd2_ne (by omega), upd2_ne (by omega), uE]
    · rw [← hG, upd2_ne (by omega), upd2_ne (by omega), uE]
    · rw [← hG, upd2_ne (by omega), uE]
theorem comes_G : ∀ (W : List Wt) (C : List Cd) (m : Nat) (mi : IM), PX T z t w br W C mi → okW W → W.length + C.length ≤ 419 → W.length < m → ∃ mi', f_Mo_comesOut_0 n m 559 (K mi ml) = some (K mi' ml) ∧ PX T z t w br (cO W C).1 (cO W C).2 mi' ∧ FE mi mi'
  | [], C, 0, _, _, _, _, hm => by exact absurd hm (Nat.not_lt_zero _)
  | [], C, m + 1, mi, hP, _, _, _ => by
    rw [f_Mo_comesOut_0, g_559, bnd_s, hP.2.1.1, if_pos (show nI ([] : List Wt).length ≤ 0 by decide)]
    exact ⟨mi, rfl, hP, FE.rf⟩
  | _ :: _, _, 0, _, _, _, _, hm => by exact absurd hm (Nat.not_lt_zero _)
  | x :: W, C, m + 1, mi, hP, hok, hl, hm => by
    rw [List.length_cons] at hl hm
    have hx := hok x (List.mem_cons_self)
    have hokW : okW W := fun y hy => hok y (List.mem_cons_of_mem _ hy)
    obtain ⟨⟨h1, h2, h3⟩, ⟨h4, h5, h5'⟩, ⟨h6, h7⟩, h8⟩ := hP
    have hk : mK x.1 < 62 := mK_lt _ (by omega)
    rw [List.length_cons] at h4
    rw [f_Mo_comesOut_0, g_559, bnd_s, h4, if_neg (show ¬ nI (W.length + 1) ≤ 0 by rw [show (0 : Int32) = nI 0 from rfl, nI_leI (by omega) (by omega)]; omega), rf_559_36, bnd_s, bnd_s, is1 (n := 1) (by omega), show W.length + 1 - 1 = W.length by omega, a_581 (by omega), bnd_s, h5.1, cO]
    by_cases d : x.1 = 40
    · rw [if_pos (show nI (mK x.1) = 6 by rw [d]; rfl), if_pos d]
      exact ⟨mi, rfl, ⟨⟨h1, h2, h3⟩, ⟨h4, h5, h5'⟩, ⟨h6, h7⟩, h8⟩, FE.rf⟩
    · have h40 : ¬ nI (mK x.1) = 6 := fun q => d (mK_i x.1 (by omega) 40 (by omega) (by unfold okK; rw [decide_eq_true_iff]; omega) (by decide) ((nI_eq (b := 6) (by omega) (by omega)).mp q))
      have f : ∀ a j, ¬ (a = 559 ∧ j = 40) → upd2 mi 559 40 (nI W.length) a j = mi a j := fun a j q => by rw [u2, if_neg q]
      have hP2 : PX T z t w br W C (upd2 mi 559 40 (nI W.length)) := ⟨⟨by rw [f _ _ (by omega)]; exact h1, by rw [f _ _ (by omega)]; exact h2, by rw [f _ _ (by omega)]; exact h3⟩, ⟨by rw [uE], WM_c (fun a j q1 q2 _ => f _ _ (by omega)) h5'⟩, ⟨by rw [f _ _ (by omega)]; exact h6, CM_c (fun a j q1 q2 _ => f _ _ (by omega)) h7⟩, WsM_c (f _ _ (by omega)) (f _ _ (by omega)) h8⟩
      rw [if_neg h40, if_neg d, bnd_s, p_559, bnd_s, rf_559_36, bnd_s, g_559, bnd_s, is1 (n := 1) (by omega), show W.length + 1 - 1 = W.length by omega, uE, a_581 (by omega), bnd_s, f 581 _ (by omega), h5.1]
      unfold f_Mo_comesOut_116 f_Mo_comesOut_124
      have fin : ∀ (op : Nat) (a b : Int) (pl : Nat), (op, a, b, (0 : Int), (0 : Int), pl) = wC x → ∃ mi', ((f_Mo_emit n 559 (nI op) (iZ a) (iZ b) 0 0 (nI pl) (K (upd2 mi 559 40 (nI W.length)) ml)).bind fun M1 => f_Mo_comesOut_0 n m 559 M1) = some (K mi' ml) ∧ PX T z t w br (cO W (C ++ [wC x])).1 (cO W (C ++ [wC x])).2 mi' ∧ FE mi mi' := fun op a b pl e => by
        obtain ⟨m2, e1, e2, e3⟩ := emit_G (n := n) (ml := ml) (op := op) (pl := pl) (a := a) (b := b) (d := 0) (e := 0) hP2 (by omega)
        rw [e] at e2
        rw [show f_Mo_emit n 559 (nI op) (iZ a) (iZ b) 0 0 (nI pl) (K (upd2 mi 559 40 (nI W.length)) ml) = _ from e1, bnd_s]
        obtain ⟨m3, g1, g2, g3⟩ := comes_G W (C ++ [wC x]) m m2 e2 hokW (by rw [List.length_append, List.length_singleton]; omega) (by omega)
        exact ⟨m3, g1, g2, ((FE.u (by omega)).tr e3).tr g3⟩
      by_cases dw : 12 ≤ x.1 ∧ x.1 ≤ 15
      · have hmk : mK x.1 = x.1 + 10 := by unfold mK; rw [if_neg (by omega), if_neg (by omega), if_neg (by omega), if_neg (by omega), if_pos (by omega)]
        rw [hmk, if_neg (show ¬ nI (x.1 + 10) < 22 by rw [it2 (n := 22) (by omega) (by omega)]; omega), rf_559_37, bnd_s, bnd_s, a_582 (by omega), bnd_s, rf_559_38, bnd_s, bnd_s, a_583 (by omega), bnd_s, rf_559_39, bnd_s, bnd_s, a_584 (by omega), bnd_s, f 582 _ (by omega), f 583 _ (by omega), f 584 _ (by omega), h5.2.1, h5.2.2.1, h5.2.2.2, is1 (n := 22) (by omega), ia1 (n := 5)]
        exact fin (x.1 + 10 - 22 + 5) x.2.1 x.2.2.1 x.2.2.2 (by unfold wC; rw [if_pos dw, show x.1 + 10 - 22 + 5 = x.1 - 7 by omega])
      · by_cases d43 : x.1 = 43
        · rw [show mK x.1 = 8 by rw [d43]; rfl, if_pos (show nI 8 < 22 by decide), if_pos (show nI 8 = 8 by decide)]
          exact fin 9 0 0 0 (by unfold wC; rw [if_neg dw, if_pos d43])
        · by_cases d45 : x.1 = 45
          · rw [show mK x.1 = 9 by rw [d45]; rfl, if_pos (show nI 9 < 22 by decide), if_neg (show ¬ nI 9 = 8 by decide), if_pos (show nI 9 = 9 by decide)]
            exact fin 10 0 0 0 (by unfold wC; rw [if_neg dw, if_neg d43, if_pos d45])
          · have d38 : x.1 = 38 := by omega
            rw [show mK x.1 = 10 by rw [d38]; rfl, if_pos (show nI 10 < 22 by decide), if_neg (show ¬ nI 10 = 8 by decide), if_neg (show ¬ nI 10 = 9 by decide)]
            exact fin 11 0 0 0 (by unfold wC; rw [if_neg dw, if_neg d43, if_neg d45])
end ITM
