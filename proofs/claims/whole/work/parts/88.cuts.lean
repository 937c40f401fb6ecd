/-! ===== THE CUT in the class ===== -/
theorem iZ_sub (a b : Int) : iZ a - iZ b = iZ (a - b) := by unfold iZ; rw [Int32.ofInt_sub]
theorem sh99 : isSh 99 := sh_ok (by decide +kernel)
theorem sh101 : isSh 101 := sh_ok (by decide +kernel)
theorem sh103 : isSh 103 := sh_ok (by decide +kernel)
theorem fo105 : isFo 105 := fo_ok (by decide +kernel)
def FC (mi mi' : IM) : Prop := ∀ c, c ≠ 77 → c ≠ 79 → c ≠ 80 → c ≠ 98 → ¬ (99 ≤ c ∧ c < 129) → mi' c = mi c
theorem FC.rf {a : IM} : FC a a := fun _ _ _ _ _ _ => rfl
theorem FC.tr {a b c : IM} (h : FC a b) (h2 : FC b c) : FC a c := fun x h3 h4 h5 h6 h7 => by rw [h2 x h3 h4 h5 h6 h7, h x h3 h4 h5 h6 h7]
theorem F77.fc {a b : IM} (h : F77 a b) : FC a b := fun c h1 h2 h3 _ _ => h c h1 h2 h3
section CTS
variable {n a : Nat} {mi : IM} {ml : JM} {z w : Int}
theorem sidesOf (h : isSh a) (hn : 8 < n) : ∃ p q : Int, (-1 ≤ p ∧ p ≤ 100 ∨ True) ∧ ∃ l t r b : Nat, f_Shape_right n a (K mi ml) = some (iZ ((r : Int) - 1), K mi ml) ∧ f_Shape_left n a (K mi ml) = some (nI l, K mi ml) ∧ f_Shape_bottom n a (K mi ml) = some (iZ ((b : Int) - 1), K mi ml) ∧ f_Shape_top n a (K mi ml) = some (nI t, K mi ml) ∧ l ≤ 8 ∧ t ≤ 8 ∧ r ≤ 8 ∧ b ≤ 8 ∧ (r : Int) - l = p ∧ (b : Int) - t = q ∧ sd (svS mi a) p q := by
  obtain ⟨b, b1, b2⟩ := bottom_s (n := n) (mi := mi) (ml := ml) h hn
  obtain ⟨r, r1, r2⟩ := right_s (n := n) (mi := mi) (ml := ml) h hn
  exact ⟨_, _, Or.inr trivial, mnX (svS mi a) 256, mnY (svS mi a) 256, r, b, r1, left_s h hn, b1, top_s h hn, mnX_le _ _, mnY_le _ _, r2.1, b2.1, rfl, rfl, mnX (svS mi a) 256, r, mnY (svS mi a) 256, b, rfl, r2, rfl, b2, rfl, rfl⟩
theorem likeSides (hn : 8 < n) : ∃ o : Bool, f_Cutter_haveLikeSides n 94 (K mi ml) = some (b2i o, K mi ml) ∧ (noS (svS mi 99) = false → anyG (svS mi 99) (baC (svS mi 103)) = true → o = true) := by
  obtain ⟨p, q, _, l, t, r, b, a1, a2, a3, a4, a5, a6, a7, a8, a9, a10, a11⟩ := sidesOf (n := n) (mi := mi) (ml := ml) sh99 hn
  obtain ⟨p', q', _, l', t', r', b', c1, c2, c3, c4, c5, c6, c7, c8, c9, c10, c11⟩ := sidesOf (n := n) (mi := mi) (ml := ml) sh103 hn
  have e : ∀ r l : Nat, iZ ((r : Int) - 1) - nI l = iZ ((r : Int) - 1 - l) := fun r l => by rw [iZ_nat, iZ_sub]
  have q1 : ∀ (r l r' l' : Nat), r ≤ 8 → l ≤ 8 → r' ≤ 8 → l' ≤ 8 → (iZ ((r : Int) - 1 - l) = iZ ((r' : Int) - 1 - l') ↔ (r : Int) - l = (r' : Int) - l') := fun r l r' l' _ _ _ _ => by
    rw [iZ_eq (by omega) (by omega) (by omega) (by omega)]; omega
  refine ⟨decide ((p = p' ∧ q = q') ∨ (p = q' ∧ q = p')), ?_, fun h0 h => decide_eq_true (like_sd h h0 a11 c11)⟩
  unfold f_Cutter_haveLikeSides f_Cutter_haveLikeSides_76 f_Cutter_haveLikeSides_87
  rw [o_94, rf_94_6, bnd_s, a1, bnd_s, rf_94_6, bnd_s, a2, bnd_s, nm_t, rf_94_6, bnd_s, a3, bnd_s, rf_94_6, bnd_s, a4, bnd_s, nm_t, rf_94_8, bnd_s, c1, bnd_s, rf_94_8, bnd_s, c2, bnd_s, nm_t, rf_94_8, bnd_s, c3, bnd_s, rf_94_8, bnd_s, c4, bnd_s, nm_t]
  simp only [e, q1 r l r' l' a7 a5 c7 c5, q1 b t b' t' a8 a6 c8 c6, q1 r l b' t' a7 a5 c8 c6, q1 b t r' l' a8 a6 c7 c5, a9, a10, c9, c10]
  by_cases d1 : p = p'
  · by_cases d2 : q = q'
    · rw [if_pos d1, if_pos d2, decide_eq_true (Or.inl ⟨d1, d2⟩)]; rfl
    · by_cases d3 : p = q'
      · by_cases d4 : q = p'
        · rw [if_pos d1, if_neg d2, if_pos d3, if_pos d4, decide_eq_true (Or.inr ⟨d3, d4⟩)]; rfl
        · rw [if_pos d1, if_neg d2, if_pos d3, if_neg d4, decide_eq_false (by omega)]; rfl
      · rw [if_pos d1, if_neg d2, if_neg d3, decide_eq_false (by omega)]; rfl
  · by_cases d3 : p = q'
    · by_cases d4 : q = p'
      · rw [if_neg d1, if_pos d3, if_pos d4, decide_eq_true (Or.inr ⟨d3, d4⟩)]; rfl
      · rw [if_neg d1, if_pos d3, if_neg d4, decide_eq_false (by omega)]; rfl
    · rw [if_neg d1, if_neg d3, decide_eq_false (by omega)]; rfl
theorem pcs_no {S : Nat → Bool} (h : pcs 256 0 S = 1) : noS S = false := by
  cases e : noS S with
  | false => rfl
  | true => rw [(pcs_zero 256 0 S).mpr fun j _ hj => noS_t.mp e j (by omega)] at h; omega
theorem cutsC {W I : Nat → Bool} (ha : isSh a) (ha2 : 129 ≤ a) (hz : -7 ≤ z ∧ z ≤ 7) (hw : -7 ≤ w ∧ w ≤ 7) (hW : svS mi 95 = W) (hIa : svS mi a = I) (hn : 256 < n) : ∃ mi', f_Cutter_cuts n 94 a (iZ z) (iZ w) 77 (K mi ml) = some (b2i (prt W I z w), K mi' ml) ∧ svS mi' 97 = cuF W I z w ∧ FC mi mi' := by
  unfold f_Cutter_cuts
  rw [o_94, rf_94_5, bnd_s, becomeShifted_s sh97 ha (by omega) (by omega) (by omega) (by omega), bnd_s]
  generalize e1 : setRw mi 97 (shR (mi (a + 1)) z w) = m1
  have s1 : svS m1 97 = shC z w I := by rw [← e1, sv_set, shR_S, ← hIa]; rfl
  have f1 : FC mi m1 := fun c _ _ _ h _ => by rw [← e1, setRw_ne h]
  have s1W : svS m1 95 = W := by rw [← e1, sv_ne (by omega)]; exact hW
  rw [rf_94_5, bnd_s, rf_94_4, bnd_s, keepCommon_s sh97 sh95 (by omega) (by omega), bnd_s]
  generalize e2 : setRw m1 97 (fun y => m1 (97 + 1) y &&& m1 (95 + 1) y) = m2
  have s2 : svS m2 97 = cuF W I z w := by
    rw [← e2, sv_set, anR_S]
    refine cu_ext fun j hj => ?_
    show (svS m1 97 j && svS m1 95 j) = _
    rw [s1, s1W]
  have s2W : svS m2 95 = W := by rw [← e2, sv_ne (by omega)]; exact s1W
  have s2I : svS m2 a = I := by rw [← e2, sv_ne (by omega), ← e1, sv_ne (by omega)]; exact hIa
  have f2 : FC mi m2 := f1.tr fun c _ _ _ h _ => by rw [← e2, setRw_ne h]
  rw [rf_94_5, bnd_s, isNothing_s sh97 (by omega), bnd_s, s2]
  cases d : noS (cuF W I z w) with
  | true =>
    rw [if_neg (show ¬ b2i true = 0 by decide)]
    refine ⟨m2, ?_, s2, f2⟩
    unfold prt
    rw [d]; rfl
  | false =>
    rw [if_pos (show b2i false = 0 by decide), rf_94_6, bnd_s, rf_94_4, bnd_s, copy_s sh99 sh95 (by omega) (by omega), bnd_s]
    generalize e3 : setRw m2 99 (m2 (95 + 1)) = m3
    have s3 : svS m3 99 = W := by rw [← e3, sv_set]; exact s2W
    have s3F : svS m3 97 = cuF W I z w := by rw [← e3, sv_ne (by omega)]; exact s2
    have s3I : svS m3 a = I := by rw [← e3, sv_ne (by omega)]; exact s2I
    have f3 : FC m2 m3 := fun c _ _ _ _ h => by rw [← e3, setRw_ne (by omega)]
    rw [rf_94_6, bnd_s, rf_94_5, bnd_s, takeAway_s sh99 sh97 (by omega) (by omega), bnd_s]
    generalize e4 : setRw m3 99 (fun y => m3 (99 + 1) y &&& (m3 (97 + 1) y ^^^ (-1))) = m4
    have s4 : svS m4 99 = cuS W I z w := by
      rw [← e4, sv_set, adR_S]
      refine cu_ext fun j hj => ?_
      show (svS m3 99 j && !svS m3 97 j) = _
      rw [s3, s3F]
    have s4F : svS m4 97 = cuF W I z w := by rw [← e4, sv_ne (by omega)]; exact s3F
    have s4I : svS m4 a = I := by rw [← e4, sv_ne (by omega)]; exact s3I
    have f4 : FC m3 m4 := fun c _ _ _ _ h => by rw [← e4, setRw_ne (by omega)]
    rw [rf_94_7, bnd_s, rf_94_5, bnd_s, iZ_neg, iZ_neg, becomeShifted_s sh101 sh97 (by omega) (by omega) (by omega) (by omega), bnd_s]
    generalize e5 : setRw m4 101 (shR (m4 (97 + 1)) (-z) (-w)) = m5
    have s5 : svS m5 101 = shC (-z) (-w) (cuF W I z w) := by rw [← e5, sv_set, shR_S, ← s4F]; rfl
    have s5F : svS m5 97 = cuF W I z w := by rw [← e5, sv_ne (by omega)]; exact s4F
    have s5S : svS m5 99 = cuS W I z w := by rw [← e5, sv_ne (by omega)]; exact s4
    have s5I : svS m5 a = I := by rw [← e5, sv_ne (by omega)]; exact s4I
    have f5 : FC m4 m5 := fun c _ _ _ _ h => by rw [← e5, setRw_ne (by omega)]
    rw [rf_94_8, bnd_s, copy_s sh103 ha (by omega) (by omega), bnd_s]
    generalize e6 : setRw m5 103 (m5 (a + 1)) = m6
    have s6 : svS m6 103 = I := by rw [← e6, sv_set]; exact s5I
    have f6 : FC m5 m6 := fun c _ _ _ _ h => by rw [← e6, setRw_ne (by omega)]
    rw [rf_94_8, bnd_s, rf_94_7, bnd_s, takeAway_s sh103 sh101 (by omega) (by omega), bnd_s]
    generalize e7 : setRw m6 103 (fun y => m6 (103 + 1) y &&& (m6 (101 + 1) y ^^^ (-1))) = m7
    have s7 : svS m7 103 = cuL W I z w := by
      rw [← e7, sv_set, adR_S]
      refine cu_ext fun j hj => ?_
      show (svS m6 103 j && !svS m6 101 j) = _
      rw [s6, show svS m6 101 = svS m5 101 by rw [← e6, sv_ne (by omega)], s5]
    have s7F : svS m7 97 = cuF W I z w := by rw [← e7, sv_ne (by omega), ← e6, sv_ne (by omega)]; exact s5F
    have s7S : svS m7 99 = cuS W I z w := by rw [← e7, sv_ne (by omega), ← e6, sv_ne (by omega)]; exact s5S
    have f7 : FC mi m7 := f2.tr (f3.tr (f4.tr (f5.tr (f6.tr fun c _ _ _ _ h => by rw [← e7, setRw_ne (by omega)]))))
    obtain ⟨o, o1, o2⟩ := likeSides (n := n) (mi := m7) (ml := ml) (by omega)
    rw [s7, s7S] at o2
    have pe : prt W I z w = (decide (pcs 256 0 (cuF W I z w) = 1) && decide (pcs 256 0 (cuS W I z w) = 1) && anyG (cuS W I z w) (baC (cuL W I z w))) := by
      unfold prt; rw [d]; rfl
    rw [o1, bnd_s]
    cases o with
    | false =>
      rw [if_pos (show b2i false = 0 by decide)]
      refine ⟨m7, ?_, s7F, f7⟩
      have : prt W I z w = false := by
        cases r : prt W I z w with
        | false => rfl
        | true =>
          rw [pe, Bool.and_eq_true, Bool.and_eq_true, decide_eq_true_iff, decide_eq_true_iff] at r
          have := o2 (pcs_no r.1.2) r.2
          cases this
      rw [this]; rfl
    | true =>
      obtain ⟨m8, g1, g2⟩ := isOnePiece_s (n := n) (mi := m7) (ml := ml) sh97 (by omega) hn
      rw [s7F] at g1
      have s8F : svS m8 97 = cuF W I z w := by rw [sv_of (g2 98 (by omega) (by omega) (by omega))]; exact s7F
      have s8S : svS m8 99 = cuS W I z w := by rw [sv_of (g2 100 (by omega) (by omega) (by omega))]; exact s7S
      have s8L : svS m8 103 = cuL W I z w := by rw [sv_of (g2 104 (by omega) (by omega) (by omega))]; exact s7
      rw [if_neg (show ¬ b2i true = 0 by decide), rf_94_5, bnd_s, g1, bnd_s, pe]
      by_cases p1 : pcs 256 0 (cuF W I z w) = 1
      · obtain ⟨m9, h1, h2⟩ := isOnePiece_s (n := n) (mi := m8) (ml := ml) sh99 (by omega) hn
        rw [s8S] at h1
        have s9F : svS m9 97 = cuF W I z w := by rw [sv_of (h2 98 (by omega) (by omega) (by omega))]; exact s8F
        have s9S : svS m9 99 = cuS W I z w := by rw [sv_of (h2 100 (by omega) (by omega) (by omega))]; exact s8S
        have s9L : svS m9 103 = cuL W I z w := by rw [sv_of (h2 104 (by omega) (by omega) (by omega))]; exact s8L
        rw [decide_eq_true p1, if_neg (show ¬ b2i true = 0 by decide), rf_94_6, bnd_s, h1, bnd_s]
        by_cases p2 : pcs 256 0 (cuS W I z w) = 1
        · obtain ⟨m10, i1, i2, i3⟩ := base_s (n := n) (mi := m9) (ml := ml) sh103 (by omega)
          rw [s9L] at i2
          have s10S : svS m10 99 = cuS W I z w := by rw [sv_of (i3 100 (by omega))]; exact s9S
          have s10F : svS m10 97 = cuF W I z w := by rw [sv_of (i3 98 (by omega))]; exact s9F
          obtain ⟨m11, j1, j2, j3, j4, j5⟩ := tell_s (n := n) (mi := m10) (ml := ml) (a := 105) (b := 99) fo105 sh99 (by omega) (by omega)
          rw [s10S] at j2
          have s11L : svS m11 103 = baC (cuL W I z w) := by rw [sv_of (j5 104 (by omega))]; exact i2
          have s11F : svS m11 97 = cuF W I z w := by rw [sv_of (j5 98 (by omega))]; exact s10F
          rw [decide_eq_true p2, if_neg (show ¬ b2i true = 0 by decide), rf_94_8, bnd_s, i1, bnd_s, rf_94_9, bnd_s, rf_94_6, bnd_s, j1, bnd_s, rf_94_9, bnd_s, rf_94_8, bnd_s, imageThatIs_s fo105 j2 sh103 (by omega), bnd_s, s11L]
          have ff : FC mi m11 := f7.tr (g2.fc.tr (h2.fc.tr (FC.tr (b := m10) (fun c _ _ _ _ h => by rw [i3 c (by omega)]) fun c _ _ _ _ h => by rw [j5 c (by omega)])))
          cases q : anyG (cuS W I z w) (baC (cuL W I z w)) with
          | false =>
            rw [if_pos (oI_neg.1.mpr q)]
            exact ⟨m11, rfl, s11F, ff⟩
          | true =>
            rw [if_neg (fun r => by have := oI_neg.1.mp r; unfold anyG at q; rw [this] at q; cases q)]
            exact ⟨m11, rfl, s11F, ff⟩
        · rw [decide_eq_false p2, if_pos (show b2i false = 0 by decide)]
          exact ⟨m9, rfl, s9F, f7.tr (g2.fc.tr h2.fc)⟩
      · rw [decide_eq_false p1, if_pos (show b2i false = 0 by decide)]
        exact ⟨m8, rfl, s8F, f7.tr g2.fc⟩
end CTS
