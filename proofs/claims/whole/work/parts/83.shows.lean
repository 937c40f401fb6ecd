/-! ===== shows, part, laid, filled ===== -/
theorem un_cu {L L' : Nat → Nat → Bool} (h : ∀ b, b < 8 → L b = L' b) : unS L 8 = unS L' 8 ∧ agS L 8 = agS L' 8 := by
  constructor
  · funext i
    rw [(un_ct _ i 8).1, (un_ct _ i 8).1, ct_ext fun k hk => by rw [h k hk]]
  · funext i
    rw [(un_ct _ i 8).2, (un_ct _ i 8).2, ct_ext fun k hk => by rw [h k hk]]
theorem nf_lt {k : Nat} (h : k ≤ 5000) : k < NF := Nat.lt_of_le_of_lt h (by decide)
theorem fnd_s {P : Nat → Bool} {c i : Nat} : fnd P (c + 1) i = if P i = true then some i else fnd P c (i + 1) := rfl
section SHW
variable {n l nb no : Nat} {mi : IM} {ml : JM} {Bd Ou : Nat → Nat → Bool}
def anyG (S T : Nat → Bool) : Bool := (fnd (fun g => smS (imS g S) T) 8 0).isSome
theorem oI_neg {P : Nat → Bool} : (oI (fnd P 8 0) (-2) < 0 ↔ (fnd P 8 0).isSome = false) ∧ (oI (fnd P 8 0) (-1) = -1 ↔ (fnd P 8 0).isSome = false) := by
  cases e : fnd P 8 0 with
  | none => exact ⟨⟨fun _ => rfl, fun _ => by decide⟩, ⟨fun _ => rfl, fun _ => rfl⟩⟩
  | some k =>
    have := (fnd_some e).2.1
    exact ⟨⟨fun h => absurd h (inN (by omega)), fun h => by cases h⟩, ⟨fun h => absurd h (nI_m1 (by omega)), fun h => by cases h⟩⟩
theorem showsC (hB : IvB l nb no Bd Ou mi) (hn : 8 < n) : ∀ m k, k ≤ no → no - k < m → f_Q_shows_33 n m 0 (nI k) (K mi ml) = some (oI (fnd (fun k => anyG (Ou k) (svS mi 221)) (no - k) k) (-2), K mi ml) := by
  obtain ⟨⟨b1, b2, b3⟩, ⟨b4, b5, b6, b7, b8⟩, _, hO⟩ := hB
  intro m
  induction m with
  | zero => intro k h1 h2; omega
  | succ m ih =>
    intro k h1 h2
    rw [f_Q_shows_33, g_0, bnd_s, b7]
    by_cases c : k = no
    · subst c
      rw [if_pos (nI_le (Nat.le_refl _) (by omega)), Nat.sub_self]; rfl
    · rw [if_neg (by rw [nI_leI (by omega) (by omega)]; omega), rf_0_4, bnd_s, aR_K ds_3 (by omega) (by omega) (ra_3 k (by omega)), bnd_s, rf_0_16, bnd_s, imageThatIs_s (fo_o (by omega)) (hO k (by omega)).2.2.2.1 sh221 hn, bnd_s, show no - k = (no - (k + 1)) + 1 by omega, fnd_s (P := fun k => anyG (Ou k) (svS mi 221)) (c := no - (k + 1)) (i := k)]
      cases d : anyG (Ou k) (svS mi 221) with
      | false => rw [if_pos (oI_neg.1.mpr d), if_neg (by decide), nI_1]; exact ih (k + 1) (by omega) (by omega)
      | true => rw [if_neg (fun q => by have := oI_neg.1.mp q; unfold anyG at d; rw [this] at d; cases d), if_pos rfl]; rfl
theorem showsM {U : Nat → Bool} (hn : 256 < n) : ∀ m k mi, IvB l nb no Bd Ou mi → B01 mi → pS mi 49 = U → k ≤ no → no - k < m → ∃ mi', f_Mo_shows_52 n m 559 (nI k) (K mi ml) = some (oI (fnd (fun k => anyG (Ou k) (baC U)) (no - k) k) (-2), K mi' ml) ∧ Fr [44, 45, 46, 47] mi mi' ∧ B01 mi' := by
  intro m
  induction m with
  | zero => intro k mi _ _ _ h1 h2; omega
  | succ m ih =>
    intro k mi hB hb hU h1 h2
    have hB' := hB
    obtain ⟨⟨b1, b2, b3⟩, ⟨b4, b5, b6, b7, b8⟩, _, hO⟩ := hB
    rw [f_Mo_shows_52, rf_559_22, bnd_s, g_559, bnd_s, b4, a_569 (by omega), bnd_s, b8]
    by_cases c : k = no
    · subst c
      rw [if_pos (nI_le (Nat.le_refl _) (by omega)), Nat.sub_self]
      exact ⟨mi, rfl, Fr.rf, hb⟩
    · obtain ⟨m1, a1, a2, a3⟩ := alikeBy_S (n := n) (p := 16 + 6 * l + k) (q := 49) (mi := mi) (ml := ml) hb (by omega) (by omega) (by simp; omega) (by omega) hn
      rw [hU, (hO k (by omega)).2.2.1] at a1
      rw [if_neg (by rw [nI_leI (by omega) (by omega)]; omega), bnd_s, im2 (n := 6), ia2 (n := 16), ia3, show (49 : Int32) = nI 49 from rfl, a1, bnd_s, show no - k = (no - (k + 1)) + 1 by omega, fnd_s (P := fun k => anyG (Ou k) (baC U)) (c := no - (k + 1)) (i := k)]
      cases d : anyG (Ou k) (baC U) with
      | false =>
        rw [if_pos (show oI (alG (Ou k) U) (-1) = -1 from oI_neg.2.mpr d), if_neg (by decide), nI_1]
        have hB1 : IvB l nb no Bd Ou m1 := IvB_c (fun c j q => a2 c j (by unfold DB at q; simp; omega)) hB'
        obtain ⟨m2, c1, c2, c3⟩ := ih (k + 1) m1 hB1 a3 (by rw [a2.pS (by simp)]; exact hU) (by omega) (by omega)
        exact ⟨m2, c1, a2.trans c2, c3⟩
      | true =>
        rw [if_neg (show ¬ oI (alG (Ou k) U) (-1) = -1 from fun q => by have := oI_neg.2.mp q; unfold anyG at d; rw [this] at d; cases d), if_pos rfl]
        exact ⟨m1, rfl, a2, a3⟩
theorem showsU {k9 : Nat → MM → Option (Int32 × MM)} (hL : IvL nb Bd mi) (hb : B01 mi) (hn : 8 < n) : ∀ m i s, i ≤ 256 → 256 - i < m → Fr [49] mi s → (∀ j, j < i → s 567 (12544 + j) = b2i (unS (laS mi) 8 j)) → B01 s → ∃ mi', f_Mo_shows_2 n k9 m 559 (nI i) (K s ml) = k9 559 (K mi' ml) ∧ Fr [49] mi mi' ∧ pS mi' 49 = cu (unS (laS mi) 8) ∧ B01 mi' := by
  intro m
  induction m with
  | zero => intro i s h1 h2; omega
  | succ m ih =>
    intro i s h1 h2 h3 h4 h5
    rw [f_Mo_shows_2]
    by_cases c : i = 256
    · subst c
      rw [if_pos (by decide)]
      refine ⟨s, rfl, h3, cu_ext fun j hj => ?_, h5⟩
      unfold pg
      rw [show 256 * 49 + j = 12544 + j by omega, h4 j hj, b2i_d]
    · have hLs : IvL nb Bd s := IvL_c (fun c j q => h3 c j (by unfold DL at q; simp; omega)) hL
      have hla : ∀ b, b < 8 → laS s b = laS mi b := fun b hb => sv_of (by funext j; exact h3 _ j (by simp; omega))
      have hc := ct_le (fun b => laS s b i) 8
      have e0 : unS (laS mi) 8 i = decide (0 < ct (fun b => laS s b i) 8) := by
        rw [← (un_cu hla).1, (un_ct _ i 8).1]
      have fin : ∀ v, v = b2i (unS (laS mi) 8 i) → ∃ mi', f_Mo_shows_31 n (f_Mo_shows_2 n k9 m) 559 (nI i) 567 (12544 + nI i) v (K s ml) = k9 559 (K mi' ml) ∧ Fr [49] mi mi' ∧ pS mi' 49 = cu (unS (laS mi) 8) ∧ B01 mi' := by
        intro v hv
        unfold f_Mo_shows_31
        rw [ia2 (n := 12544), s_567 (by omega), bnd_s, nI_1, nrw102, hv, b2i_1]
        refine ih (i + 1) _ (by omega) (by omega) (fun c j q => ?_) (fun j hj => ?_) (fun j => ?_)
        · have := q 49 (by simp)
          rw [u2, if_neg (by omega)]; exact h3 c j q
        · rw [u2]
          by_cases d : j = i
          · rw [if_pos ⟨rfl, by rw [d]⟩, d]
          · rw [if_neg (by omega)]; exact h4 j (by omega)
        · rw [u2]
          by_cases d : (567 : Nat) = 567 ∧ j = 12544 + i
          · rw [if_pos d]; cases unS (laS mi) 8 i
            · exact Or.inl rfl
            · exact Or.inr rfl
          · rw [if_neg d]; exact h5 j
      rw [if_neg (by rw [il1 (n := 256) (by omega) (by omega)]; omega), rf_559_18, bnd_s, layersAt_s hLs (by omega) hn, bnd_s]
      by_cases d : 0 < ct (fun b => laS s b i) 8
      · rw [if_neg (by rw [il2 (n := 0) (by omega) (by omega)]; omega)]
        exact fin 1 (by rw [e0, decide_eq_true d]; rfl)
      · rw [if_pos (by rw [il2 (n := 0) (by omega) (by omega)]; omega)]
        exact fin 0 (by rw [e0, decide_eq_false d]; rfl)
end SHW
theorem sq_shows : SQ Inv (f_Q_shows NF 0) (f_Mo_shows NF 559) := by
  refine sq_keep fun l nb no Bd Ou mi ml hI => ?_
  obtain ⟨m1, a1, a2, a3⟩ := unite_s (n := NF) (mi := mi) (ml := ml) (by decide)
  have k1 := a3.kp hI.1
  generalize hU : cu (unS (laS mi) 8) = U at a2
  have hUc : cu U = U := by rw [← hU]; exact cu_cu _
  have mo : ∀ m0, Kp mi m0 → (∀ b, b < 8 → laS m0 b = laS mi b) → ∃ m2, Kp mi m2 ∧ f_Mo_shows NF 559 (K m0 ml) = some (if noS U = true then -2 else oI (fnd (fun k => anyG (Ou k) (baC U)) no 0) (-2), K m2 ml) := by
    intro m0 q1 q2
    have hI0 := IV_keep hI q1
    obtain ⟨m2, c1, c2, c3, c4⟩ := showsU (n := NF) (ml := ml) (k9 := f_Mo_shows_38 NF) hI0.2.2.2.2.1 hI0.1 (by decide) NF 0 m0 (by omega) (by decide) Fr.rf (fun j hj => by omega) hI0.1
    rw [(un_cu q2).1, hU] at c3
    have k2 := q1.tr (c2.kp c4 (by simp))
    unfold f_Mo_shows
    rw [o_559, show (0 : Int32) = nI 0 from rfl, c1]
    unfold f_Mo_shows_38
    rw [show (49 : Int32) = nI 49 from rfl, areaOf_S (by omega) (by decide), bnd_s, c3]
    by_cases d : noS U = true
    · rw [if_pos (by rw [ct_noS.mp d]; rfl), if_pos d]
      exact ⟨m2, k2, rfl⟩
    · rw [if_neg (by rw [ie1 (n := 0) (by omega) (ct_lt31 (by omega))]; exact fun q => d (ct_noS.mpr q)), if_neg d]
      obtain ⟨m3, d1, d2, d3⟩ := showsM (n := NF) (ml := ml) (U := U) (by decide) NF 0 m2 (IV_keep hI k2).2.2.1 c4 c3 (by omega) (nf_lt (by have := hI.2.2.1.1.2.2; omega))
      exact ⟨m3, k2.tr (d2.kp d3 (by simp)), d1⟩
  unfold f_Q_shows
  rw [o_0, rf_0_14, bnd_s, rf_0_16, bnd_s, a1, bnd_s, rf_0_16, bnd_s, isNothing_s sh221 (by decide), bnd_s, a2]
  cases d : noS U with
  | true =>
    rw [if_neg (show ¬ b2i true = 0 by decide)]
    obtain ⟨m2, b1, b2⟩ := mo m1 k1 (fun b hb => a3.la b hb)
    rw [if_pos d] at b2
    exact ⟨-2, m1, m2, rfl, b2, b1⟩
  | false =>
    obtain ⟨m2, c1, c2, c3⟩ := base_s (n := NF) (mi := m1) (ml := ml) sh221 (by decide)
    have f2 : F132 m1 m2 := fun c _ _ _ h => c3 c (by omega)
    have k2 := (a3.tr f2).kp hI.1
    obtain ⟨m3, b1, b2⟩ := mo m2 k2 (fun b hb => (a3.tr f2).la b hb)
    rw [if_neg (by rw [d]; decide)] at b2
    rw [if_pos (show b2i false = 0 by decide), rf_0_16, bnd_s, c1, bnd_s]
    refine ⟨_, m2, m3, ?_, b2, b1⟩
    have := showsC (n := NF) (ml := ml) (IV_keep hI k2).2.2.1 (by decide) NF 0 (by omega) (nf_lt (by have := hI.2.2.1.1.2.2; omega))
    rw [c2, a2] at this
    exact this
theorem sh95 : isSh 95 := sh_ok (by decide +kernel)
theorem sh97 : isSh 97 := sh_ok (by decide +kernel)
theorem sq_part {x1 : Int32} : SQ Inv (f_Q_part NF 0 x1) (f_Mo_part NF 559 x1) := by
  refine sq_keep fun l nb no Bd Ou mi ml hI => ?_
  have hC := hI.2.2.2.2.2.2.2.2.2
  unfold f_Q_part f_Mo_part
  rw [o_0]
  rcases quarter_c x1 NF with q | ⟨q, q1, q2, q3⟩
  · rw [(q _).1, bnd_s, if_pos rfl]
    refine ⟨-1, mi, mi, rfl, ?_, Kp.rf hI.1⟩
    rw [o_559, g_559, bnd_s]
    by_cases c : mi 559 67 = 0
    · rw [if_pos c]
    · rw [if_neg c, (q _).2, bnd_s, if_pos rfl]
  · rw [(q3 _).1, bnd_s, if_neg n10, rf_0_13, bnd_s]
    unfold f_Cutter_partOf
    rw [o_94, g_94, bnd_s]
    rcases hC with ⟨c1, c2⟩ | ⟨c1, c2, c3, c4, c5, c6, c7⟩
    · rw [if_pos c1, bnd_s]
      exact ⟨-1, mi, mi, rfl, by rw [o_559, g_559, bnd_s, if_pos c2], Kp.rf hI.1⟩
    · have e0 : mi 567 (12800 + q) = b2i (svS mi 95 q) := by rw [c6, pS_in q1, ← pg01 hI.1]
      have e1 : mi 567 (13056 + q) = b2i (svS mi 97 q) := by rw [c7, pS_in q1, ← pg01 hI.1]
      rw [if_neg c1, rf_94_4, bnd_s, q2, holds_s sh95 q1, bnd_s, rf_94_5, bnd_s, holds_s sh97 q1, bnd_s]
      have M : f_Mo_part NF 559 (nI q) (K mi ml) = some (if svS mi 95 q = true then (if svS mi 97 q = true then 0 else 1) else -1, K mi ml) := by
        unfold f_Mo_part
        rw [o_559, g_559, bnd_s, if_neg (by rw [c2]; exact c1), ← q2, (q3 _).2, bnd_s, if_neg n10, rf_559_18, bnd_s, q2, ia2 (n := 12800), a_567 (by omega), bnd_s, bnd_s, ia2 (n := 13056), a_567 (by omega), bnd_s, e0, e1]
        cases svS mi 95 q <;> cases svS mi 97 q <;> rfl
      refine ⟨if svS mi 95 q = true then (if svS mi 97 q = true then 0 else 1) else -1, mi, mi, ?_, M, Kp.rf hI.1⟩
      cases svS mi 95 q <;> cases svS mi 97 q <;> rfl
theorem sq_laid {x1 : Int32} : SQ Inv (f_Q_laid NF 0 x1) (f_Mo_laid NF 559 x1) := by
  refine sq_keep fun l nb no Bd Ou mi ml hI => ?_
  have hC := hI.2.2.2.2.2.2.2.2.2
  unfold f_Q_laid f_Mo_laid f_Cutter_tellLaid
  rw [o_0, rf_0_13, bnd_s, o_94, g_94, bnd_s]
  rcases hC with ⟨c1, c2⟩ | ⟨c1, c2, c3, c4, c5, c6, c7⟩
  · rw [if_pos c1, bnd_s]
    exact ⟨-100, mi, mi, rfl, by rw [o_559, g_559, bnd_s, if_pos c2], Kp.rf hI.1⟩
  · rw [if_neg c1]
    have hm : ¬ mi 559 67 = 0 := by rw [c2]; exact c1
    by_cases d0 : x1 = 0
    · rw [if_pos d0, g_94, bnd_s, bnd_s]
      exact ⟨mi 94 1, mi, mi, rfl, by rw [o_559, g_559, bnd_s, if_neg hm, if_pos d0, g_559, bnd_s, c3], Kp.rf hI.1⟩
    · rw [if_neg d0]
      by_cases d1 : x1 = 1
      · rw [if_pos d1, g_94, bnd_s, bnd_s]
        exact ⟨mi 94 2, mi, mi, rfl, by rw [o_559, g_559, bnd_s, if_neg hm, if_neg d0, if_pos d1, g_559, bnd_s, c4], Kp.rf hI.1⟩
      · rw [if_neg d1]
        by_cases d2 : x1 = 2
        · rw [if_pos d2, g_94, bnd_s, bnd_s]
          exact ⟨mi 94 3, mi, mi, rfl, by rw [o_559, g_559, bnd_s, if_neg hm, if_neg d0, if_neg d1, if_pos d2, g_559, bnd_s, c5], Kp.rf hI.1⟩
        · rw [if_neg d2, bnd_s]
          exact ⟨-100, mi, mi, rfl, by rw [o_559, g_559, bnd_s, if_neg hm, if_neg d0, if_neg d1, if_neg d2], Kp.rf hI.1⟩
theorem tel_c : ∀ g, g < 8 → ∀ x, x < 8 → ∀ y, y < 8 → ishr (nI (64 * g + 8 * x + y)) 6 = nI g ∧ ishr (nI (64 * g + 8 * x + y)) 3 &&& 7 = nI x ∧ nI (64 * g + 8 * x + y) &&& 7 = nI y := by decide +kernel
theorem tb_out {r b nb : Nat} (h : r < 2 ^ nb) (hb : nb ≤ b) : r.testBit b = false := Nat.testBit_lt_two_pow (Nat.lt_of_lt_of_le h (Nat.pow_le_pow_right (by omega) hb))
theorem sq_filled {x1 x2 : Int32} : SQ Inv (f_Q_filled NF 0 x1 x2) (f_Mo_filled NF 559 x1 x2) := by
  refine sq_keep fun l nb no Bd Ou mi ml hI => ?_
  have hF := hI.2.2.2.2.2.2.1.2
  obtain ⟨⟨b1, b2, b3⟩, ⟨b4, b5, b6, b7, b8⟩, _, _⟩ := hI.2.2.1
  have stay : ∀ r, f_Q_filled NF 0 x1 x2 (K mi ml) = some (r, K mi ml) → f_Mo_filled NF 559 x1 x2 (K mi ml) = some (r, K mi ml) → ∃ r m1 m2, f_Q_filled NF 0 x1 x2 (K mi ml) = some (r, K m1 ml) ∧ f_Mo_filled NF 559 x1 x2 (K m1 ml) = some (r, K m2 ml) ∧ Kp mi m2 := fun r e1 e2 => ⟨r, mi, mi, e1, e2, Kp.rf hI.1⟩
  rcases i_cases x1 with c | ⟨b, hk, c⟩
  · refine stay (-100) ?_ ?_
    · unfold f_Q_filled f_Filler_tellRemembered; rw [o_0, rf_0_12, bnd_s, o_81, if_pos c, bnd_s]
    · unfold f_Mo_filled
      rw [o_559, g_559, bnd_s]
      by_cases d : mi 559 58 = 0
      · rw [if_pos d]
      · rw [if_neg d, if_pos c]
  · subst c
    rcases hF with ⟨c1, c2⟩ | ⟨c1, r, c2, c3, c4⟩
    · refine stay (-100) ?_ ?_
      · unfold f_Q_filled f_Filler_tellRemembered
        rw [o_0, rf_0_12, bnd_s, o_81, if_neg (inN hk)]
        by_cases d : 8 ≤ b
        · rw [if_pos (by rw [il1 (n := 8) (by omega) hk]; exact d), bnd_s]
        · rw [if_neg (by rw [il1 (n := 8) (by omega) hk]; exact d), g_81, bnd_s, c1, if_pos ((bit0 (by omega)).mpr (b_0 _)), bnd_s]
      · unfold f_Mo_filled
        rw [o_559, g_559, bnd_s, if_pos c2]
    · have m58 : ¬ mi 559 58 = 0 := by rw [c1]; decide
      by_cases d : 8 ≤ b
      · refine stay (-100) ?_ ?_
        · unfold f_Q_filled f_Filler_tellRemembered
          rw [o_0, rf_0_12, bnd_s, o_81, if_neg (inN hk), if_pos (by rw [il1 (n := 8) (by omega) hk]; exact d), bnd_s]
        · unfold f_Mo_filled
          rw [o_559, g_559, bnd_s, if_neg m58, if_neg (inN hk), rf_559_21, bnd_s, g_559, bnd_s, b4, a_568 (by omega), bnd_s, b6, if_pos (by rw [nI_leI (by omega) hk]; omega)]
      · have r8 : r < 2 ^ 31 := Nat.lt_of_lt_of_le c2 (Nat.pow_le_pow_right (by omega) (by omega))
        have Q : f_Q_filled NF 0 (nI b) x2 (K mi ml) = ((if ((ushr (nI r) (nI b)) &&& 1) = 0 then some ((-100), K mi ml) else (f_Filler_tellOf NF (mi 85 b) x2 (K mi ml)).bind fun p7 => some (p7.1, p7.2)) : Option (Int32 × MM)).bind fun p2 => some (p2.1, p2.2) := by
          unfold f_Q_filled f_Filler_tellRemembered
          rw [o_0, rf_0_12, bnd_s, o_81, if_neg (inN hk), if_neg (by rw [il1 (n := 8) (by omega) hk]; exact d), g_81, bnd_s, c3, rf_81_8, bnd_s, a_85 (by omega), bnd_s]
        cases f : r.testBit b with
        | false =>
          refine stay (-100) ?_ ?_
          · rw [Q, if_pos ((bit0 (by omega)).mpr (by rw [b_nI (by omega), f])), bnd_s]
          · unfold f_Mo_filled
            rw [o_559, g_559, bnd_s, if_neg m58, if_neg (inN hk), rf_559_21, bnd_s, g_559, bnd_s, b4, a_568 (by omega), bnd_s, b6]
            by_cases e : nb ≤ b
            · rw [if_pos (by rw [nI_leI (by omega) hk]; exact e)]
            · rw [if_neg (by rw [nI_leI (by omega) hk]; exact e), rf_559_59, bnd_s, a_596 (by omega), bnd_s, if_pos ((c4 b (by omega)).2 f)]
        | true =>
          have hbn : b < nb := by
            by_cases e : nb ≤ b
            · rw [tb_out c2 e] at f; cases f
            · omega
          obtain ⟨g, x, y, g1, g2, g3, g4, g5, g6, g7⟩ := (c4 b (by omega)).1 f
          obtain ⟨t1, t2, t3⟩ := tel_c g g1 x g2 y g3
          have M : f_Mo_filled NF 559 (nI b) x2 (K mi ml) = (if x2 = 0 then some (nI g, K mi ml) else if x2 = 1 then some (nI x, K mi ml) else if x2 = 2 then some (nI y, K mi ml) else some (-100, K mi ml)) := by
            unfold f_Mo_filled
            rw [o_559, g_559, bnd_s, if_neg m58, if_neg (inN hk), rf_559_21, bnd_s, g_559, bnd_s, b4, a_568 (by omega), bnd_s, b6, if_neg (by rw [nI_leI (by omega) hk]; omega), rf_559_59, bnd_s, a_596 (by omega), bnd_s, g5, if_neg (nI_m1 (by omega)), bnd_s, a_596 (by omega), bnd_s, g5, rf_559_60, bnd_s, a_597 (by omega), bnd_s, rf_559_61, bnd_s, a_598 (by omega), bnd_s, g6, g7]
          have Q2 : f_Q_filled NF 0 (nI b) x2 (K mi ml) = (if x2 = 0 then some (nI g, K mi ml) else if x2 = 1 then some (nI x, K mi ml) else if x2 = 2 then some (nI y, K mi ml) else some (-100, K mi ml)) := by
            rw [Q, if_neg (by rw [bit0 (by omega), b_nI (by omega), f]; decide), g4]
            unfold f_Filler_tellOf
            rw [t1, t2, t3]
            by_cases h0 : x2 = 0
            · rw [if_pos h0]; rfl
            · rw [if_neg h0]
              by_cases h1 : x2 = 1
              · rw [if_pos h1]; rfl
              · rw [if_neg h1]
                by_cases h2 : x2 = 2
                · rw [if_pos h2]; rfl
                · rw [if_neg h2]; rfl
          by_cases h0 : x2 = 0
          · exact stay (nI g) (by rw [Q2, if_pos h0]) (by rw [M, if_pos h0])
          · by_cases h1 : x2 = 1
            · exact stay (nI x) (by rw [Q2, if_neg h0, if_pos h1]) (by rw [M, if_neg h0, if_pos h1])
            · by_cases h2 : x2 = 2
              · exact stay (nI y) (by rw [Q2, if_neg h0, if_neg h1, if_pos h2]) (by rw [M, if_neg h0, if_neg h1, if_pos h2])
              · exact stay (-100) (by rw [Q2, if_neg h0, if_neg h1, if_neg h2]) (by rw [M, if_neg h0, if_neg h1, if_neg h2])
