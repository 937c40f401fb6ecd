/-! ===== sets, set, needed ===== -/
theorem nI_m2 {k : Nat} (h : k < 2 ^ 31) : ¬ nI k = -2 := fun e => absurd (e ▸ (show (-2 : Int32) < 0 by decide)) (inN h)
section SE2
variable {n nb no l k : Nat} {Bd Ou : Nat → Nat → Bool} {mi : IM} {ml : JM} {O : Nat → Bool}
theorem doesFillC {U : Nat} (hk : k < 6) (hU : U < 256) (hr : rwS Bd O nb (mi (88 + k))) : f_Filler_doesFill n 81 (nI k) (nI U) (K mi ml) = some (b2i (finS Bd O nb U), K mi ml) := by
  unfold f_Filler_doesFill
  rw [o_81, if_neg (inN (by omega)), if_neg (by rw [il1 (n := 6) (by omega) (by omega)]; omega), if_neg (inN (by omega)), if_neg (by rw [il1 (n := 256) (by omega) (by omega)]; omega), rf_81_11, bnd_s, fs_r hk, bnd_s, q_5 U hU, aI_K (ds_fs hk) (by decide) (show U / 32 < 8 by omega), bnd_s, q_31 U hU]
  have := hr U hU
  cases e : finS Bd O nb U with
  | true => rw [if_neg (by rw [bit0 (by omega), this, e]; decide)]; rfl
  | false => rw [if_pos ((bit0 (by omega)).mpr (by rw [this, e]))]; rfl
theorem setAtC {i : Nat} (hk : k < 6) (hi : i < ct (finS Bd O nb) 256) (hr : rwS Bd O nb (mi (88 + k))) (hn : 256 < n) : f_Filler_setAt n 81 (nI k) (nI i) (K mi ml) = some (nI (el (finS Bd O nb) i), K mi ml) := by
  unfold f_Filler_setAt
  have hc := ct_le (finS Bd O nb) 256
  have L : ∀ m U, 1 ≤ U → U ≤ 256 → 256 - U < m → ct (finS Bd O nb) U ≤ i → f_Filler_setAt_5 n m 81 (nI k) (nI i) (nI (ct (finS Bd O nb) U)) (nI U) (K mi ml) = some (nI (el (finS Bd O nb) i), K mi ml) := by
    intro m
    induction m with
    | zero => intro U h1 h2 h3; omega
    | succ m ih =>
      intro U h1 h2 h3 h4
      by_cases c : U = 256
      · subst c; omega
      · rw [f_Filler_setAt_5, if_neg (by rw [il1 (n := 256) (by omega) (by omega)]; omega), doesFillC hk (by omega) hr, bnd_s]
        unfold f_Filler_setAt_34
        cases e : finS Bd O nb U with
        | false =>
          have hct : ct (finS Bd O nb) (U + 1) = ct (finS Bd O nb) U := by show ct _ U + (if finS Bd O nb U = true then 1 else 0) = _; rw [e]; rfl
          rw [if_pos (show b2i false = 0 from rfl), nI_1, ← hct]
          exact ih (U + 1) (by omega) (by omega) (by omega) (by omega)
        | true =>
          have hct : ct (finS Bd O nb) (U + 1) = ct (finS Bd O nb) U + 1 := by show ct _ U + (if finS Bd O nb U = true then 1 else 0) = _; rw [if_pos e]
          rw [if_neg (show ¬ b2i true = 0 by decide)]
          by_cases d : ct (finS Bd O nb) U = i
          · rw [if_pos (by rw [d]), ← d, el_i (by omega) e]
          · rw [if_neg (by rw [nI_eq (by omega) (by omega)]; exact d), nI_1, nI_1, ← hct]
            exact ih (U + 1) (by omega) (by omega) (by omega) (by omega)
  rw [o_81]
  have h1c : ct (finS Bd O nb) 1 = 0 := (ct_0 1).mpr fun i hi => fin_out (Or.inr (by omega))
  have := L n 1 (by omega) (by omega) (by omega) (by omega)
  rw [h1c] at this
  exact this
theorem allC (hk : k < 6) (hr : rwS Bd O nb (mi (88 + k))) (hn : 256 < n) : f_Filler_inAllSets n 81 (nI k) (K mi ml) = some (acF 255 (finS Bd O nb) 256, K mi ml) := by
  unfold f_Filler_inAllSets
  have L : ∀ m U, 1 ≤ U → U ≤ 256 → 256 - U < m → f_Filler_inAllSets_6 n m 81 (nI k) (acF 255 (finS Bd O nb) U) (nI U) (K mi ml) = some (acF 255 (finS Bd O nb) 256, K mi ml) := by
    intro m
    induction m with
    | zero => intro U h1 h2 h3; omega
    | succ m ih =>
      intro U h1 h2 h3
      rw [f_Filler_inAllSets_6]
      by_cases c : U = 256
      · subst c; rw [if_pos (by decide)]
      · rw [if_neg (by rw [il1 (n := 256) (by omega) (by omega)]; omega), doesFillC hk (by omega) hr, bnd_s, ← ih (U + 1) (by omega) (by omega) (by omega)]
        unfold f_Filler_inAllSets_28
        cases e : finS Bd O nb U with
        | false =>
          have hac : acF 255 (finS Bd O nb) (U + 1) = acF 255 (finS Bd O nb) U := by show (if finS Bd O nb U = true then _ else _) = _; rw [e]; rfl
          rw [if_pos (show b2i false = 0 from rfl), nm_t, nI_1, hac, Int32.and_self]
        | true =>
          have hac : acF 255 (finS Bd O nb) (U + 1) = acF 255 (finS Bd O nb) U &&& nI U := by show (if finS Bd O nb U = true then _ else _) = _; rw [if_pos e]
          rw [if_neg (show ¬ b2i true = 0 by decide), nm_t, nI_1, hac]
  rw [o_81]
  have hac1 : acF 255 (finS Bd O nb) 1 = 255 := by
    show (if finS Bd O nb 0 = true then _ else (255 : Int32)) = 255
    rw [fin_out (Or.inr rfl)]; rfl
  have := L n 1 (by omega) (by omega) (by omega)
  rw [hac1] at this
  exact this
/-- both sides look for the SETS of outline k -/
theorem both_sets {oi : Option Nat} (hoi : ∀ i, oi = some i → i < 2 ^ 31) (hI : IV l nb no Bd Ou mi ml) (hk : k < no) : ∃ m1 r m2 r2, f_Filler_countSets NF 81 (nI k) (415 + 24 * k) (nI nb) (K mi ml) = some (r, K m1 ml) ∧ IvB l nb no Bd Ou m1 ∧ f_Mo_setsOf NF 559 (nI k) (oX oi) (K m1 ml) = some (r2, K m2 ml) ∧ IV l nb no Bd Ou m2 ml ∧ ((r = -2 ∧ r2 = -2) ∨ (r = nI (ct (finS Bd (Ou k) nb) 256) ∧ rwS Bd (Ou k) nb (m1 (88 + k)) ∧ r2 = wh (finS Bd (Ou k) nb) oi 256 ∧ m2 559 66 = nI (ct (finS Bd (Ou k) nb) 256) ∧ m2 559 65 = acF (-1) (finS Bd (Ou k) nb) 256)) := by
  have hB := hI.2.2.1
  have hno6 : no ≤ 6 := hB.1.2.2
  obtain ⟨m1, r, a1, a2, a3, a4⟩ := countSetsC (n := NF) (ml := ml) hB hI.2.2.2.2.2.2.2.1 hk (by decide)
  have hB1 : IvB l nb no Bd Ou m1 := IvB_c (fun c j q => a4 c j (by unfold DB at q; omega) (by unfold DB at q; omega) (by unfold DB at q; omega) (by unfold DB at q; omega) (by unfold DB at q; omega)) hB
  have hR1 : IvR nb Bd m1 := IvR_c (fun c j q => a4 c j (by unfold DR at q; omega) (by unfold DR at q; omega) (by unfold DR at q; omega) (by unfold DR at q; omega) (by unfold DR at q; omega)) hI.2.2.2.2.2.2.2.2.1
  have b1 : B01 m1 := fun j => by rw [a4 567 j (by omega) (by omega) (by omega) (by omega) (by omega)]; exact hI.1 j
  obtain ⟨m2, r2, c1, c2, c3, c4, c5⟩ := setsOfM (n := NF) (ml := ml) hoi b1 hB1 hR1 hk (by decide)
  refine ⟨m1, r, m2, r2, a1, hB1, c1, ?_, ?_⟩
  · refine IV_mk hI c4 (IvF_c (fun c j q => ?_) hI.2.2.2.2.2.2.1) (IvS_c hno6 (fun c j q => ?_) a3) c3 (fun c j hs h4 h5 h6 => ?_)
    · unfold DF at q
      rw [c5 c j (by omega) (by omega) (by omega) (by omega), a4 c j (by omega) (by omega) (by omega) (by omega) (by omega)]
    · unfold DS at q
      exact c5 c j (by omega) (by omega) (by omega) (by omega)
    · have : ¬ (588 ≤ c ∧ c ≤ 595) ∧ ¬ (599 ≤ c ∧ c ≤ 601) ∧ ¬ (c = 559 ∧ (j = 48 ∨ (51 ≤ j ∧ j ≤ 53) ∨ j = 65 ∨ j = 66)) ∧ ¬ (c = 567 ∧ 11264 ≤ j ∧ j < 12800) ∧ ¬ (c = 81 ∧ 3 ≤ j ∧ j ≤ 6) ∧ c ≠ 83 ∧ c ≠ 84 ∧ c ≠ 88 + k ∧ c ≠ 86 := by
        unfold DS at h5
        unfold DR at h6
        unfold St DB DT DL DK DF DS DR DC2 at hs
        omega
      obtain ⟨t1, t2, t3, t4, t5, t6, t7, t8, t9⟩ := this
      rw [c5 c j t1 t2 t3 t4, a4 c j t5 t6 t7 t8 t9]
  · rcases a2 with ⟨d1, U, d2, d3, d4⟩ | ⟨d1, d2, d3⟩
    · rcases c2 with ⟨e1, _⟩ | ⟨e1, _⟩
      · exact Or.inl ⟨d1, e1⟩
      · rw [e1 U d2 d3] at d4; cases d4
    · rcases c2 with ⟨_, U, e2, e3, e4⟩ | ⟨_, e2, e3, e4⟩
      · rw [d1 U e2 e3] at e4; cases e4
      · exact Or.inr ⟨d2, d3, e2, e3, e4⟩
end SE2
theorem sq_sets {x1 : Int32} : SQ Inv (f_Q_sets NF 0 x1) (f_Mo_sets NF 559 x1) := by
  rintro M ⟨mi, ml, rfl, l, nb, no, Bd, Ou, hI⟩
  have hB := hI.2.2.1
  unfold f_Q_sets
  rw [o_0]
  rcases form_of (n := NF) (ml := ml) (x1 := 1) (x2 := x1) (Or.inr rfl) hB with ⟨e1, e2, e3⟩ | ⟨a, p, k, S, e00, e1, e2, e3, e4, e5, e7, e6⟩
  · refine ⟨-1, K mi ml, K mi ml, by rw [e1, bnd_s]; rfl, ?_, mi, ml, rfl, l, nb, no, Bd, Ou, hI⟩
    unfold f_Mo_sets
    rw [o_559, there_n hB e3, bnd_s, if_pos (show (0 : Int32) = 0 from rfl)]
  · rcases e7 with ⟨q, _⟩ | ⟨_, hk, ea, ep, eS⟩
    · exact absurd q (by decide)
    · subst e00 ea
      obtain ⟨m1, r, m2, r2, a1, hB1, a2, a3, a4⟩ := both_sets (oi := none) (fun i q => by cases q) hI hk
      have Q : (f_Q_formOf NF 0 1 (nI k) (K mi ml)).bind (fun p1 => ob p1.1 (some ((-1), p1.2)) fun r2 => (gR 11 12 0 p1.2).bind fun v3 => (gI 11 5 0 p1.2).bind fun v4 => (f_Filler_countSets NF v3 (nI k) r2 v4 p1.2).bind fun p5 => some (p5.1, p5.2)) = some (r, K m1 ml) := by
        rw [e4, bnd_s]
        show ((gR 11 12 0 (K mi ml)).bind fun v3 => (gI 11 5 0 (K mi ml)).bind fun v4 => (f_Filler_countSets NF v3 (nI k) (415 + 24 * k) v4 (K mi ml)).bind fun p5 => some (p5.1, p5.2)) = _
        rw [rf_0_12, bnd_s, g_0, bnd_s, hB.2.1.2.1, a1, bnd_s]
      refine ⟨r, K m1 ml, K m2 ml, Q, ?_, m2, ml, rfl, l, nb, no, Bd, Ou, a3⟩
      unfold f_Mo_sets
      rw [o_559, there_y hB1 hk, bnd_s, if_neg n10, show f_Mo_setsOf NF 559 (nI k) (-1) (K m1 ml) = some (r2, K m2 ml) from a2, bnd_s]
      rcases a4 with ⟨c1, c2⟩ | ⟨c1, c2, c3, c4, c5⟩
      · rw [c2, if_pos (show (-2 : Int32) = -2 from rfl), c1]
      · have c3 : r2 = -1 := c3
        rw [c3, if_neg (show ¬ (-1 : Int32) = -2 by decide), g_559, bnd_s, c4, c1]
theorem sq_set {x1 x2 : Int32} : SQ Inv (f_Q_set NF 0 x1 x2) (f_Mo_set NF 559 x1 x2) := by
  rintro M ⟨mi, ml, rfl, l, nb, no, Bd, Ou, hI⟩
  have hB := hI.2.2.1
  have hno6 : no ≤ 6 := hB.1.2.2
  unfold f_Q_set
  rw [o_0]
  rcases form_of (n := NF) (ml := ml) (x1 := 1) (x2 := x1) (Or.inr rfl) hB with ⟨e1, e2, e3⟩ | ⟨a, p, k, S, e00, e1, e2, e3, e4, e5, e7, e6⟩
  · refine ⟨-1, K mi ml, K mi ml, by rw [e1, bnd_s]; rfl, ?_, mi, ml, rfl, l, nb, no, Bd, Ou, hI⟩
    unfold f_Mo_set
    rw [o_559, there_n hB e3, bnd_s, if_pos (show (0 : Int32) = 0 from rfl)]
  · rcases e7 with ⟨q, _⟩ | ⟨_, hk, ea, ep, eS⟩
    · exact absurd q (by decide)
    · subst e00 ea
      rw [e4, bnd_s]
      have Qs : ∀ r M1, ((if 0 ≤ x2 then (gR 11 12 0 (K mi ml)).bind fun v4 => (gI 11 5 0 (K mi ml)).bind fun v5 => (f_Filler_countSets NF v4 (nI k) (415 + 24 * k) v5 (K mi ml)).bind fun p6 => if 0 ≤ p6.1 then if p6.1 ≤ x2 then some ((-1), p6.2) else (gR 11 12 0 p6.2).bind fun v9 => (f_Filler_setAt NF v9 (nI k) x2 p6.2).bind fun p10 => some (p10.1, p10.2) else some ((-2), p6.2) else some ((-1), K mi ml)) : Option (Int32 × MM)) = some (r, M1) → (∃ M2, f_Mo_set NF 559 (nI k) x2 M1 = some (r, M2) ∧ Inv M2) → ∃ (r : Int32) (M1 M2 : MM), (ob (some (415 + 24 * k)) (some ((-1), K mi ml)) fun r2 => if 0 ≤ x2 then (gR 11 12 0 (K mi ml)).bind fun v4 => (gI 11 5 0 (K mi ml)).bind fun v5 => (f_Filler_countSets NF v4 (nI k) r2 v5 (K mi ml)).bind fun p6 => if 0 ≤ p6.1 then if p6.1 ≤ x2 then some ((-1), p6.2) else (gR 11 12 0 p6.2).bind fun v9 => (f_Filler_setAt NF v9 (nI k) x2 p6.2).bind fun p10 => some (p10.1, p10.2) else some ((-2), p6.2) else some ((-1), K mi ml)) = some (r, M1) ∧ f_Mo_set NF 559 (nI k) x2 M1 = some (r, M2) ∧ Inv M2 := fun r M1 h1 ⟨M2, h2, h3⟩ => ⟨r, M1, M2, h1, h2, h3⟩
      rcases i_cases x2 with c | ⟨i, hi, c⟩
      · have hx : ¬ (0 : Int32) ≤ x2 := by rw [iin0]; exact fun q => q c
        refine Qs (-1) (K mi ml) (by rw [if_neg hx]) ⟨K mi ml, ?_, mi, ml, rfl, l, nb, no, Bd, Ou, hI⟩
        unfold f_Mo_set
        rw [o_559, there_y hB hk, bnd_s, if_neg n10, if_neg hx]
      · subst c
        have hx : (0 : Int32) ≤ nI i := by rw [iin0]; exact inN hi
        obtain ⟨m1, r, m2, r2, a1, hB1, a2, a3, a4⟩ := both_sets (oi := some i) (fun j q => by cases q; exact hi) hI hk
        have hcc := ct_le (finS Bd (Ou k) nb) 256
        have Mm : f_Mo_set NF 559 (nI k) (nI i) (K m1 ml) = some (r2, K m2 ml) := by
          unfold f_Mo_set
          rw [o_559, there_y hB1 hk, bnd_s, if_neg n10, if_pos hx, show f_Mo_setsOf NF 559 (nI k) (nI i) (K m1 ml) = some (r2, K m2 ml) from a2, bnd_s]
        refine Qs r2 (K m1 ml) ?_ ⟨K m2 ml, Mm, m2, ml, rfl, l, nb, no, Bd, Ou, a3⟩
        rw [if_pos hx, rf_0_12, bnd_s, g_0, bnd_s, hB.2.1.2.1, a1, bnd_s]
        rcases a4 with ⟨c1, c2⟩ | ⟨c1, c2, c3, c4, c5⟩
        · rw [c1, c2, if_neg (show ¬ (0 : Int32) ≤ -2 by decide)]
        · have c3 : r2 = if i < ct (finS Bd (Ou k) nb) 256 then nI (el (finS Bd (Ou k) nb) i) else -1 := c3
          rw [c1, if_pos (show (0 : Int32) ≤ nI (ct (finS Bd (Ou k) nb) 256) by rw [iin0]; exact inN (by omega))]
          by_cases d : i < ct (finS Bd (Ou k) nb) 256
          · rw [if_neg (show ¬ nI (ct (finS Bd (Ou k) nb) 256) ≤ nI i by rw [nI_leI (by omega) hi]; omega), rf_0_12, bnd_s, setAtC (by omega) d c2 (by decide), bnd_s, c3, if_pos d]
          · rw [if_pos (show nI (ct (finS Bd (Ou k) nb) 256) ≤ nI i by rw [nI_leI (by omega) hi]; omega), c3, if_neg d]
theorem sq_needed {x1 : Int32} : SQ Inv (f_Q_needed NF 0 x1) (f_Mo_needed NF 559 x1) := by
  rintro M ⟨mi, ml, rfl, l, nb, no, Bd, Ou, hI⟩
  have hB := hI.2.2.1
  have hno6 : no ≤ 6 := hB.1.2.2
  unfold f_Q_needed
  rw [o_0]
  rcases form_of (n := NF) (ml := ml) (x1 := 1) (x2 := x1) (Or.inr rfl) hB with ⟨e1, e2, e3⟩ | ⟨a, p, k, S, e00, e1, e2, e3, e4, e5, e7, e6⟩
  · refine ⟨-1, K mi ml, K mi ml, by rw [e1, bnd_s]; rfl, ?_, mi, ml, rfl, l, nb, no, Bd, Ou, hI⟩
    unfold f_Mo_needed
    rw [o_559, there_n hB e3, bnd_s, if_pos (show (0 : Int32) = 0 from rfl)]
  · rcases e7 with ⟨q, _⟩ | ⟨_, hk, ea, ep, eS⟩
    · exact absurd q (by decide)
    · subst e00 ea
      rw [e4, bnd_s]
      obtain ⟨m1, r, m2, r2, a1, hB1, a2, a3, a4⟩ := both_sets (oi := none) (fun i q => by cases q) hI hk
      have hcc := ct_le (finS Bd (Ou k) nb) 256
      have Mm : ∀ v, (if r2 = (-2) then some ((-2), K m2 ml) else (gI 12 66 559 (K m2 ml)).bind fun v5 => if v5 = 0 then some ((-1), K m2 ml) else (gI 12 65 559 (K m2 ml)).bind fun v7 => some (v7, K m2 ml)) = some (v, K m2 ml) → f_Mo_needed NF 559 (nI k) (K m1 ml) = some (v, K m2 ml) := fun v hv => by
        unfold f_Mo_needed
        rw [o_559, there_y hB1 hk, bnd_s, if_neg n10, show f_Mo_setsOf NF 559 (nI k) (-1) (K m1 ml) = some (r2, K m2 ml) from a2, bnd_s]
        exact hv
      have Qs : ∀ v, ((if 0 ≤ r then if r = 0 then some ((-1), K m1 ml) else (gR 11 12 0 (K m1 ml)).bind fun v8 => (f_Filler_inAllSets NF v8 (nI k) (K m1 ml)).bind fun p9 => some (p9.1, p9.2) else some ((-2), K m1 ml)) : Option (Int32 × MM)) = some (v, K m1 ml) → f_Mo_needed NF 559 (nI k) (K m1 ml) = some (v, K m2 ml) → ∃ (r : Int32) (M1 M2 : MM), (ob (some (415 + 24 * k)) (some ((-1), K mi ml)) fun r2 => (gR 11 12 0 (K mi ml)).bind fun v3 => (gI 11 5 0 (K mi ml)).bind fun v4 => (f_Filler_countSets NF v3 (nI k) r2 v4 (K mi ml)).bind fun p5 => if 0 ≤ p5.1 then if p5.1 = 0 then some ((-1), p5.2) else (gR 11 12 0 p5.2).bind fun v8 => (f_Filler_inAllSets NF v8 (nI k) p5.2).bind fun p9 => some (p9.1, p9.2) else some ((-2), p5.2)) = some (r, M1) ∧ f_Mo_needed NF 559 (nI k) M1 = some (r, M2) ∧ Inv M2 := fun v h1 h2 => by
        refine ⟨v, K m1 ml, K m2 ml, ?_, h2, m2, ml, rfl, l, nb, no, Bd, Ou, a3⟩
        show ((gR 11 12 0 (K mi ml)).bind fun v3 => (gI 11 5 0 (K mi ml)).bind fun v4 => (f_Filler_countSets NF v3 (nI k) (415 + 24 * k) v4 (K mi ml)).bind fun p5 => if 0 ≤ p5.1 then if p5.1 = 0 then some ((-1), p5.2) else (gR 11 12 0 p5.2).bind fun v8 => (f_Filler_inAllSets NF v8 (nI k) p5.2).bind fun p9 => some (p9.1, p9.2) else some ((-2), p5.2)) = _
        rw [rf_0_12, bnd_s, g_0, bnd_s, hB.2.1.2.1, a1, bnd_s]
        exact h1
      rcases a4 with ⟨c1, c2⟩ | ⟨c1, c2, c3, c4, c5⟩
      · exact Qs (-2) (by rw [c1, if_neg (show ¬ (0 : Int32) ≤ -2 by decide)]) (Mm _ (by rw [c2, if_pos (show (-2 : Int32) = -2 from rfl)]))
      · have h0 : (0 : Int32) ≤ nI (ct (finS Bd (Ou k) nb) 256) := by rw [iin0]; exact inN (by omega)
        have c3 : r2 = -1 := c3
        by_cases d : ct (finS Bd (Ou k) nb) 256 = 0
        · refine Qs (-1) (by rw [c1, if_pos h0, if_pos (by rw [d]; rfl)]) (Mm _ ?_)
          rw [c3, if_neg (show ¬ (-1 : Int32) = -2 by decide), g_559, bnd_s, c4, if_pos (by rw [d]; rfl)]
        · have hd : ¬ nI (ct (finS Bd (Ou k) nb) 256) = 0 := by rw [ie1 (n := 0) (by omega) (by omega)]; exact d
          obtain ⟨U, u1, u2', _⟩ := el_ex (S := finS Bd (Ou k) nb) 256 0 (by omega)
          refine Qs (acF 255 (finS Bd (Ou k) nb) 256) ?_ (Mm _ ?_)
          · rw [c1, if_pos h0, if_neg hd, rf_0_12, bnd_s, allC (by omega) c2 (by decide), bnd_s]
          · rw [c3, if_neg (show ¬ (-1 : Int32) = -2 by decide), g_559, bnd_s, c4, if_neg hd, g_559, bnd_s, c5, ac_same u1 u2']
