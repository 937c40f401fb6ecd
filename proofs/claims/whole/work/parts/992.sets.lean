/-! ===== the SETS that fill ===== -/
theorem ds_fs {k : Nat} (h : k < 6) : La.2.1 (88 + k) = (100, 8) := by
  rw [La_ds _ (by omega)]
  exact (by decide +kernel : ∀ k, k < 6 → DSl.getD (88 + k) (999, 0) = (100, 8)) k h
theorem fs_r {k : Nat} {mi : IM} {ml : JM} (h : k < 6) : aR 106 87 (nI k) (K mi ml) = some (88 + k) := by
  rw [aR_K ds_87 (by decide) h (ra_87 k h), Nat.one_mul]
def acF (v : Int32) (f : Nat → Bool) : Nat → Int32
  | 0 => v
  | U + 1 => if f U = true then acF v f U &&& nI U else acF v f U
theorem ac_b (v : Int32) (f : Nat → Bool) {j : Nat} (hj : j < 32) : ∀ n, bt (acF v f n) j = true ↔ (bt v j = true ∧ ∀ U, U < n → f U = true → U.testBit j = true)
  | 0 => ⟨fun h => ⟨h, fun U hU => by omega⟩, fun h => h.1⟩
  | n + 1 => by
    have ih := ac_b v f hj n
    unfold acF
    by_cases c : f n = true
    · rw [if_pos c, b_and, Bool.and_eq_true, ih, b_nI hj]
      constructor
      · rintro ⟨⟨h1, h2⟩, h3⟩
        exact ⟨h1, fun U hU hf => by
          by_cases d : U = n
          · rw [d]; exact h3
          · exact h2 U (by omega) hf⟩
      · rintro ⟨h1, h2⟩
        exact ⟨⟨h1, fun U hU hf => h2 U (by omega) hf⟩, h2 n (by omega) c⟩
    · rw [if_neg c, ih]
      constructor
      · rintro ⟨h1, h2⟩
        exact ⟨h1, fun U hU hf => by
          by_cases d : U = n
          · rw [d] at hf; exact absurd hf c
          · exact h2 U (by omega) hf⟩
      · rintro ⟨h1, h2⟩
        exact ⟨h1, fun U hU hf => h2 U (by omega) hf⟩
theorem ac_same {f : Nat → Bool} {U : Nat} (hU : U < 256) (hf : f U = true) : acF 255 f 256 = acF (-1) f 256 := by
  refine b_ext fun j hj => ?_
  rw [Bool.eq_iff_iff, ac_b _ _ hj, ac_b _ _ hj]
  constructor
  · rintro ⟨_, h2⟩; exact ⟨b_m1 j hj, h2⟩
  · rintro ⟨_, h2⟩
    refine ⟨?_, h2⟩
    rw [b_255]
    by_cases c : j < 8
    · exact decide_eq_true c
    · have := h2 U hU hf
      rw [tb_out (nb := 8) hU (by omega)] at this; cases this
theorem fin_out {Bd : Nat → Nat → Bool} {O : Nat → Bool} {nb U : Nat} (h : 2 ^ nb ≤ U ∨ U = 0) : finS Bd O nb U = false := by
  unfold finS
  rw [decide_eq_false (by omega)]; rfl
theorem fin_ct {Bd : Nat → Nat → Bool} {O : Nat → Bool} {nb : Nat} (hnb : nb ≤ 8) : ct (finS Bd O nb) (2 ^ nb) = ct (finS Bd O nb) 256 := by
  have hp := p_nb hnb
  have h := ct_add (finS Bd O nb) (2 ^ nb) (256 - 2 ^ nb)
  have h2 : ct (fun i => finS Bd O nb (2 ^ nb + i)) (256 - 2 ^ nb) = 0 := (ct_0 _).mpr fun i _ => fin_out (Or.inl (Nat.le_add_right _ _))
  rw [show 2 ^ nb + (256 - 2 ^ nb) = 256 by omega, h2] at h
  omega
theorem fin_ac {Bd : Nat → Nat → Bool} {O : Nat → Bool} {nb : Nat} {v : Int32} (hnb : nb ≤ 8) : acF v (finS Bd O nb) (2 ^ nb) = acF v (finS Bd O nb) 256 := by
  have hp := p_nb hnb
  have L : ∀ d, acF v (finS Bd O nb) (2 ^ nb + d) = acF v (finS Bd O nb) (2 ^ nb) := by
    intro d
    induction d with
    | zero => rfl
    | succ d ih =>
      show (if finS Bd O nb (2 ^ nb + d) = true then _ else acF v (finS Bd O nb) (2 ^ nb + d)) = _
      rw [fin_out (Or.inl (by omega)), if_neg (by decide), ih]
  have := L (256 - 2 ^ nb)
  rw [show 2 ^ nb + (256 - 2 ^ nb) = 256 by omega] at this
  exact this.symm
/-- what a look for SETS gives: too many steps, or the SETS -/
def rwS (Bd : Nat → Nat → Bool) (O : Nat → Bool) (nb : Nat) (R : Nat → Int32) : Prop := ∀ U, U < 256 → bt (R (U / 32)) (U % 32) = finS Bd O nb U
def SRr (Bd : Nat → Nat → Bool) (O : Nat → Bool) (nb : Nat) (r : Int32) (R : Nat → Int32) : Prop := (r = -2 ∧ ∃ U, 1 ≤ U ∧ U < 2 ^ nb ∧ fulS Bd O U = true) ∨ ((∀ U, 1 ≤ U → U < 2 ^ nb → fulS Bd O U = false) ∧ r = nI (ct (finS Bd O nb) 256) ∧ rwS Bd O nb R)
section STS
variable {n nb no l k a : Nat} {Bd Ou : Nat → Nat → Bool} {ml : JM}
/-- what a look for SETS may change in the class -/
def FSk (k : Nat) (mi mi' : IM) : Prop := ∀ c j, ¬ (c = 81 ∧ 3 ≤ j ∧ j ≤ 6) → c ≠ 83 → c ≠ 84 → c ≠ 88 + k → mi' c j = mi c j
theorem FSk.tr {a b c : IM} (h : FSk k a b) (h2 : FSk k b c) : FSk k a c := fun x j h3 h4 h5 h6 => by rw [h2 x j h3 h4 h5 h6, h x j h3 h4 h5 h6]
theorem FSk.B {mi mi' : IM} (h : FSk k mi mi') (hk : k < 6) (hB : IvB l nb no Bd Ou mi) : IvB l nb no Bd Ou mi' := IvB_c (fun c j q => h c j (by unfold DB at q; omega) (by unfold DB at q; omega) (by unfold DB at q; omega) (by unfold DB at q; omega)) hB
theorem setsC {mi : IM} (hB : IvB l nb no Bd Ou mi) (hk : k < no) (hn : 256 < n) : ∃ mi' r, f_Filler_lookForSets n 81 (88 + k) (415 + 24 * k) (nI nb) (K mi ml) = some (r, K mi' ml) ∧ SRr Bd (Ou k) nb r (mi' (88 + k)) ∧ FSk k mi mi' := by
  have hnb : nb ≤ 8 := hB.1.2.1
  have hno6 : no ≤ 6 := hB.1.2.2
  have hp := p_nb hnb
  have hk6 : k < 6 := by omega
  have hpos : 0 < 2 ^ nb := Nat.pow_pos (by omega)
  unfold f_Filler_lookForSets
  rw [o_81]
  have L1 : ∀ m i s, i ≤ 8 → 8 - i < m → FSk k mi s → (∀ j, j < i → s (88 + k) j = 0) → ∃ s', f_Filler_lookForSets_6 n (f_Filler_lookForSets_24 n) m 81 (88 + k) (415 + 24 * k) (nI nb) (nI 0) (nI i) (K s ml) = f_Filler_lookForSets_24 n 81 (88 + k) (415 + 24 * k) (nI nb) (nI 0) (K s' ml) ∧ FSk k mi s' ∧ ∀ j, j < 8 → s' (88 + k) j = 0 := by
    intro m
    induction m with
    | zero => intro i s h1 h2; omega
    | succ m ih =>
      intro i s h1 h2 h3 h4
      rw [f_Filler_lookForSets_6, aN_K (ds_fs hk6) (by decide), bnd_s]
      by_cases c : i = 8
      · subst c; rw [if_pos (show nI 8 ≤ nI 8 by decide)]; exact ⟨s, rfl, h3, h4⟩
      · rw [if_neg (show ¬ nI 8 ≤ nI i by rw [nI_leI (by omega) (by omega)]; omega), sI_K (ds_fs hk6) (by decide) (show i < 8 by omega), bnd_s, nI_1, nrw100]
        refine ih (i + 1) _ (by omega) (by omega) (h3.tr fun c j _ _ _ q => by rw [upd2_ne q]) (fun j hj => ?_)
        rw [u2]
        by_cases d : j = i
        · rw [if_pos ⟨rfl, d⟩]
        · rw [if_neg (fun q => d q.2)]; exact h4 j (by omega)
  obtain ⟨m1, a1, a2, a3⟩ := L1 n 0 mi (by omega) (by omega) (fun _ _ _ _ _ _ => rfl) (fun j hj => by omega)
  rw [show f_Filler_lookForSets_6 n (f_Filler_lookForSets_24 n) n 81 (88 + k) (415 + 24 * k) (nI nb) 0 0 (K mi ml) = _ from a1]
  unfold f_Filler_lookForSets_24
  have L2 : ∀ m U s, 1 ≤ U → U ≤ 2 ^ nb → 2 ^ nb - U < m → FSk k mi s → (∀ V, 1 ≤ V → V < U → fulS Bd (Ou k) V = false) → (∀ V, V < 256 → bt (s (88 + k) (V / 32)) (V % 32) = (finS Bd (Ou k) nb V && decide (V < U))) → ∃ mi' r, f_Filler_lookForSets_27 n m 81 (88 + k) (415 + 24 * k) (nI nb) (nI (ct (finS Bd (Ou k) nb) U)) (nI U) (K s ml) = some (r, K mi' ml) ∧ SRr Bd (Ou k) nb r (mi' (88 + k)) ∧ FSk k mi mi' := by
    intro m
    induction m with
    | zero => intro U s h1 h2; omega
    | succ m ih =>
      intro U s h1 h2 h3 h4 h5 h6
      rw [f_Filler_lookForSets_27, sh_nb nb (by omega)]
      by_cases c : U = 2 ^ nb
      · rw [if_pos (by rw [nI_leI (by omega) (by omega)]; omega)]
        refine ⟨s, _, rfl, Or.inr ⟨fun V q1 q2 => h5 V q1 (by omega), by rw [c, fin_ct hnb], fun V hV => ?_⟩, h4⟩
        rw [h6 V hV]
        by_cases d : V < U
        · rw [decide_eq_true d, Bool.and_true]
        · rw [fin_out (Or.inl (by omega))]; rfl
      · have hU : U < 256 := by omega
        have hBs := h4.B hk6 hB
        have hO := hBs.2.2.2 k hk
        obtain ⟨m3, b1, ⟨b2, b3, b4⟩, ⟨b5, b6⟩, _, b8⟩ := lookS (n := n) (al := false) (mi := s) (ml := ml) (Bd := Bd) (set := U) (a := 415 + 24 * k) (O := Ou k) hnb (by omega) (by omega) (sz_of hBs) (BdI_of hBs) (fo_o hk6) (by omega) hO.2.2.2.1.1 hO.2.2.2.2 (by omega)
        have f3 : FSk k s m3 := fun c j q1 q2 q3 _ => b8 c j q1 q2 q3 (by simp)
        have r3 : m3 (88 + k) = s (88 + k) := by funext j; exact b8 _ j (by omega) (by omega) (by omega) (by simp)
        rw [if_neg (by rw [nI_leI (by omega) (by omega)]; omega), aN_K (ds_fs hk6) (by decide), bnd_s, q_5 U hU, if_neg (show ¬ nI 8 ≤ nI (U / 32) by rw [nI_leI (by omega) (by omega)]; omega), show f_Filler_look n 81 (415 + 24 * k) (nI U) 1 (K s ml) = some (K m3 ml) from b1, bnd_s, g_81, bnd_s, b2]
        cases hf : (lok Bd false (Ou k) U).2.2.1 with
        | true =>
          rw [if_neg (show ¬ b2i true = 0 by decide)]
          exact ⟨m3, _, rfl, Or.inl ⟨rfl, U, h1, by omega, hf⟩, h4.tr f3⟩
        | false =>
          have h5' : ∀ V, 1 ≤ V → V < U + 1 → fulS Bd (Ou k) V = false := fun V q1 q2 => by
            by_cases d : V = U
            · rw [d]; exact hf
            · exact h5 V q1 (by omega)
          rw [if_pos (show b2i false = 0 from rfl), g_81, bnd_s, b4]
          unfold f_Filler_lookForSets_88
          by_cases hw : 0 < (lok Bd false (Ou k) U).2.1
          · have hfin : finS Bd (Ou k) nb U = true := by unfold finS; rw [decide_eq_true (show 1 ≤ U ∧ U < 2 ^ nb by omega), decide_eq_true hw]; rfl
            have hct : ct (finS Bd (Ou k) nb) (U + 1) = ct (finS Bd (Ou k) nb) U + 1 := by show ct _ U + (if finS Bd (Ou k) nb U = true then 1 else 0) = _; rw [if_pos hfin]
            rw [if_neg (by rw [il2 (n := 0) (by omega) (by omega)]; omega), aI_K (ds_fs hk6) (by decide) (show U / 32 < 8 by omega), bnd_s, sI_K (ds_fs hk6) (by decide) (show U / 32 < 8 by omega), bnd_s, nrw100, nI_1, nI_1, q_31 U hU, r3, ← hct]
            refine ih (U + 1) _ (by omega) (by omega) (by omega) (h4.tr (f3.tr fun c j _ _ _ q => by rw [upd2_ne q])) h5' (fun V hV => ?_)
            rw [u2]
            by_cases d : V / 32 = U / 32
            · rw [if_pos ⟨rfl, d⟩, b_or, b_ishl (by omega) _ (by omega), ← d, h6 V hV]
              by_cases e : V = U
              · subst e
                rw [hfin, decide_eq_false (show ¬ V < V by omega), decide_eq_true (show V < V + 1 by omega), decide_eq_true (Nat.le_refl _), b_1 _ (by omega), Nat.sub_self]; simp
              · rw [show decide (V < U + 1) = decide (V < U) from decide_eq_decide.mpr (by omega)]
                by_cases g : U % 32 ≤ V % 32
                · rw [b_1 _ (by omega), decide_eq_false (show ¬ V % 32 - U % 32 = 0 by omega)]; simp
                · rw [decide_eq_false g]; simp
            · rw [if_neg (fun q => d q.2), r3, h6 V hV, show decide (V < U + 1) = decide (V < U) from decide_eq_decide.mpr (by
                have : V ≠ U := fun e => d (by rw [e])
                omega)]
          · have hfin : finS Bd (Ou k) nb U = false := by unfold finS; rw [decide_eq_false hw]; simp
            have hct : ct (finS Bd (Ou k) nb) (U + 1) = ct (finS Bd (Ou k) nb) U := by show ct _ U + (if finS Bd (Ou k) nb U = true then 1 else 0) = _; rw [hfin]; rfl
            rw [if_pos (by rw [il2 (n := 0) (by omega) (by omega)]; omega), nI_1, ← hct]
            refine ih (U + 1) m3 (by omega) (by omega) (by omega) (h4.tr f3) h5' (fun V hV => ?_)
            rw [r3, h6 V hV]
            by_cases e : V = U
            · subst e; rw [hfin]; rfl
            · rw [show decide (V < U + 1) = decide (V < U) from decide_eq_decide.mpr (by omega)]
  have h1c : ct (finS Bd (Ou k) nb) 1 = 0 := (ct_0 1).mpr fun i hi => fin_out (Or.inr (by omega))
  have := L2 n 1 m1 (by omega) (by omega) (by omega) a2 (fun V q1 q2 => by omega) (fun V hV => by
    rw [a3 _ (by omega), b_0]
    by_cases d : V < 1
    · rw [fin_out (Or.inr (by omega))]; rfl
    · rw [decide_eq_false d, Bool.and_false])
  rw [h1c] at this
  exact this
/-- countSets: kept, or looked for -/
theorem countSetsC {mi : IM} (hB : IvB l nb no Bd Ou mi) (hS : IvS nb no Bd Ou mi) (hk : k < no) (hn : 256 < n) : ∃ mi' r, f_Filler_countSets n 81 (nI k) (415 + 24 * k) (nI nb) (K mi ml) = some (r, K mi' ml) ∧ SRr Bd (Ou k) nb r (mi' (88 + k)) ∧ IvS nb no Bd Ou mi' ∧ ∀ c j, ¬ (c = 81 ∧ 3 ≤ j ∧ j ≤ 6) → c ≠ 83 → c ≠ 84 → c ≠ 88 + k → c ≠ 86 → mi' c j = mi c j := by
  have hno6 : no ≤ 6 := hB.1.2.2
  have hk6 : k < 6 := by omega
  unfold f_Filler_countSets
  rw [o_81, if_neg (inN (by omega)), if_pos (by rw [it2 (n := 6) (by omega) (by omega)]; exact hk6), rf_81_10, bnd_s, a_86 hk6, bnd_s]
  by_cases c : mi 86 k = -3
  · obtain ⟨m1, r, a1, a2, a3⟩ := setsC (n := n) (ml := ml) hB hk hn
    rw [if_pos c, bnd_s, rf_81_11, bnd_s, fs_r hk6, bnd_s, a1, bnd_s, s_86 hk6, bnd_s, nrw100, rf_81_10, bnd_s, a_86 hk6, bnd_s, show upd2 m1 86 k r 86 k = r from by rw [u2, if_pos ⟨rfl, rfl⟩]]
    refine ⟨_, r, rfl, by rw [upd2_ne (by omega)]; exact a2, fun k' hk' => ?_, fun c j q1 q2 q3 q4 q5 => by rw [upd2_ne q5]; exact a3 c j q1 q2 q3 q4⟩
    rw [u2, upd2_ne (by omega)]
    by_cases d : k' = k
    · rw [if_pos ⟨rfl, d⟩, d]
      rcases a2 with ⟨b1, b2⟩ | ⟨b1, b2, b3⟩
      · exact Or.inr (Or.inl ⟨b1, b2⟩)
      · exact Or.inr (Or.inr ⟨b1, b2, b3⟩)
    · rw [if_neg (fun q => d q.2), a3 86 k' (by omega) (by omega) (by omega) (by omega), show m1 (88 + k') = mi (88 + k') by funext j; exact a3 _ j (by omega) (by omega) (by omega) (by omega)]
      exact hS k' hk'
  · rw [if_neg c, bnd_s, a_86 hk6, bnd_s]
    refine ⟨mi, _, rfl, ?_, hS, fun _ _ _ _ _ _ _ => rfl⟩
    rcases hS k hk with q | q | q
    · exact absurd q c
    · exact Or.inl q
    · exact Or.inr q
/-- the reference: which, how many, what all need -/
def oX (oi : Option Nat) : Int32 := match oi with
  | none => -1
  | some i => nI i
def wh (f : Nat → Bool) (oi : Option Nat) (U : Nat) : Int32 := match oi with
  | none => -1
  | some i => if i < ct f U then nI (el f i) else -1
theorem setsOfM {mi : IM} {oi : Option Nat} (hoi : ∀ i, oi = some i → i < 2 ^ 31) (hb : B01 mi) (hB : IvB l nb no Bd Ou mi) (hR : IvR nb Bd mi) (hk : k < no) (hn : 4000000 < n) : ∃ mi' r, f_Mo_setsOf n 559 (nI k) (oX oi) (K mi ml) = some (r, K mi' ml) ∧ ((r = -2 ∧ ∃ U, 1 ≤ U ∧ U < 2 ^ nb ∧ fulS Bd (Ou k) U = true) ∨ ((∀ U, 1 ≤ U → U < 2 ^ nb → fulS Bd (Ou k) U = false) ∧ r = wh (finS Bd (Ou k) nb) oi 256 ∧ mi' 559 66 = nI (ct (finS Bd (Ou k) nb) 256) ∧ mi' 559 65 = acF (-1) (finS Bd (Ou k) nb) 256)) ∧ IvR nb Bd mi' ∧ B01 mi' ∧ ∀ c j, ¬ (588 ≤ c ∧ c ≤ 595) → ¬ (599 ≤ c ∧ c ≤ 601) → ¬ (c = 559 ∧ (j = 48 ∨ (51 ≤ j ∧ j ≤ 53) ∨ j = 65 ∨ j = 66)) → ¬ (c = 567 ∧ 11264 ≤ j ∧ j < 12800) → mi' c j = mi c j := by
  have hnb : nb ≤ 8 := hB.1.2.1
  have hno6 : no ≤ 6 := hB.1.2.2
  have hl2 : l < 2 := hB.1.1
  have hp := p_nb hnb
  have hpos : 0 < 2 ^ nb := Nat.pow_pos (by omega)
  unfold f_Mo_setsOf
  rw [o_559]
  have L : ∀ m U s, 1 ≤ U → U ≤ 2 ^ nb → 2 ^ nb - U < m → FLk mi s → B01 s → IvR nb Bd s → (∀ V, 1 ≤ V → V < U → fulS Bd (Ou k) V = false) → ∃ mi' r, f_Mo_setsOf_11 n (f_Mo_setsOf_80 n) m 559 (nI k) (oX oi) (wh (finS Bd (Ou k) nb) oi U) (nI (ct (finS Bd (Ou k) nb) U)) (acF (-1) (finS Bd (Ou k) nb) U) (nI U) (K s ml) = some (r, K mi' ml) ∧ ((r = -2 ∧ ∃ U, 1 ≤ U ∧ U < 2 ^ nb ∧ fulS Bd (Ou k) U = true) ∨ ((∀ U, 1 ≤ U → U < 2 ^ nb → fulS Bd (Ou k) U = false) ∧ r = wh (finS Bd (Ou k) nb) oi 256 ∧ mi' 559 66 = nI (ct (finS Bd (Ou k) nb) 256) ∧ mi' 559 65 = acF (-1) (finS Bd (Ou k) nb) 256)) ∧ IvR nb Bd mi' ∧ B01 mi' ∧ ∀ c j, ¬ (588 ≤ c ∧ c ≤ 595) → ¬ (599 ≤ c ∧ c ≤ 601) → ¬ (c = 559 ∧ (j = 48 ∨ (51 ≤ j ∧ j ≤ 53) ∨ j = 65 ∨ j = 66)) → ¬ (c = 567 ∧ 11264 ≤ j ∧ j < 12800) → mi' c j = mi c j := by
    intro m
    induction m with
    | zero => intro U s h1 h2; omega
    | succ m ih =>
      intro U s h1 h2 h3 h4 h5 h6 h7
      have hBs : IvB l nb no Bd Ou s := IvB_c (fun c j q => h4 c j (by unfold DB at q; omega) (by unfold DB at q; omega) (by unfold DB at q; omega) (by unfold DB at q; omega)) hB
      have hcl := ct_le (finS Bd (Ou k) nb) U
      rw [f_Mo_setsOf_11, rf_559_21, bnd_s, g_559, bnd_s, hBs.2.1.1, a_568 (by omega), bnd_s, hBs.2.1.2.2.1, sh_nb nb (by omega)]
      by_cases c : U = 2 ^ nb
      · rw [if_pos (by rw [nI_leI (by omega) (by omega)]; omega)]
        unfold f_Mo_setsOf_80
        rw [p_559, bnd_s, p_559, bnd_s]
        have hwh : wh (finS Bd (Ou k) nb) oi U = wh (finS Bd (Ou k) nb) oi 256 := by
          unfold wh
          cases oi with
          | none => rfl
          | some i => show (if i < ct _ U then _ else _) = (if i < ct _ 256 then _ else _); rw [c, fin_ct hnb]
        refine ⟨_, _, rfl, Or.inr ⟨fun V q1 q2 => h7 V q1 (by omega), hwh, ?_, ?_⟩, ?_, fun j => by rw [upd2_ne (by omega), upd2_ne (by omega)]; exact h5 j, fun c j q1 q2 q3 q4 => ?_⟩
        · rw [u2, if_neg (by omega), u2, if_pos ⟨rfl, rfl⟩, c, fin_ct hnb]
        · rw [u2, if_pos ⟨rfl, rfl⟩, c, fin_ac hnb]
        · exact IvR_c (fun c j q => by unfold DR at q; rw [u2, if_neg (by omega), u2, if_neg (by omega)]) h6
        · rw [u2, if_neg (by omega), u2, if_neg (by omega)]; exact h4 c j q1 q2 (by omega) q4
      · obtain ⟨m3, b1, b2, b3, b4, b5⟩ := lookM (n := n) (al := false) (ml := ml) (set := U) (k := k) h5 hBs h6 (by omega) (by omega) hk hn
        rw [if_neg (by rw [nI_leI (by omega) (by omega)]; omega), show f_Mo_looks n 559 (nI k) (nI U) 0 (K s ml) = some (K m3 ml) from b1, bnd_s, g_559, bnd_s, b2.1.2.2]
        cases hf : (lok Bd false (Ou k) U).2.2.1 with
        | true =>
          rw [if_neg (show ¬ b2i true = 0 by decide)]
          exact ⟨m3, _, rfl, Or.inl ⟨rfl, U, h1, by omega, hf⟩, b3, b4, fun c j q1 q2 q3 q4 => by rw [b5 c j q1 q2 (by omega) q4]; exact h4 c j q1 q2 (by omega) q4⟩
        | false =>
          have h7' : ∀ V, 1 ≤ V → V < U + 1 → fulS Bd (Ou k) V = false := fun V q1 q2 => by
            by_cases d : V = U
            · rw [d]; exact hf
            · exact h7 V q1 (by omega)
          have hw6 := b2.2.1
          rw [if_pos (show b2i false = 0 from rfl), g_559, bnd_s, b2.1.2.1]
          unfold f_Mo_setsOf_64 f_Mo_setsOf_74
          by_cases hw : 0 < (lok Bd false (Ou k) U).2.1
          · have hfin : finS Bd (Ou k) nb U = true := by unfold finS; rw [decide_eq_true (show 1 ≤ U ∧ U < 2 ^ nb by omega), decide_eq_true hw]; rfl
            have hct : ct (finS Bd (Ou k) nb) (U + 1) = ct (finS Bd (Ou k) nb) U + 1 := by show ct _ U + (if finS Bd (Ou k) nb U = true then 1 else 0) = _; rw [if_pos hfin]
            have hac : acF (-1) (finS Bd (Ou k) nb) (U + 1) = acF (-1) (finS Bd (Ou k) nb) U &&& nI U := by show (if finS Bd (Ou k) nb U = true then _ else _) = _; rw [if_pos hfin]
            rw [if_neg (by rw [ie1 (n := 0) (by omega) (by omega)]; omega)]
            have hgo := ih (U + 1) m3 (by omega) (by omega) (by omega) (h4.tr b5) b4 b3 h7'
            rw [hct, hac] at hgo
            by_cases e : nI (ct (finS Bd (Ou k) nb) U) = oX oi
            · rw [if_pos e, nm_t, nI_1, nI_1]
              have hwh : wh (finS Bd (Ou k) nb) oi (U + 1) = nI U := by
                cases ho : oi with
                | none => rw [ho] at e; exact absurd e (nI_m1 (by omega))
                | some i =>
                  rw [ho] at e
                  have e : ct (finS Bd (Ou k) nb) U = i := (nI_eq (by omega) (hoi i ho)).mp e
                  show (if i < ct _ (U + 1) then nI (el (finS Bd (Ou k) nb) i) else -1) = _
                  rw [if_pos (by omega), ← e, el_i (by omega) hfin]
              rw [hwh] at hgo
              exact hgo
            · rw [if_neg e, nm_t, nI_1, nI_1]
              have hwh : wh (finS Bd (Ou k) nb) oi (U + 1) = wh (finS Bd (Ou k) nb) oi U := by
                cases ho : oi with
                | none => rfl
                | some i =>
                  rw [ho] at e
                  have e : ¬ ct (finS Bd (Ou k) nb) U = i := fun q => e (by rw [q]; rfl)
                  show (if i < ct _ (U + 1) then nI (el (finS Bd (Ou k) nb) i) else -1) = (if i < ct _ U then _ else -1)
                  by_cases d : i < ct (finS Bd (Ou k) nb) U
                  · rw [if_pos d, if_pos (by omega)]
                  · rw [if_neg d, if_neg (by omega)]
              rw [hwh] at hgo
              exact hgo
          · have hfin : finS Bd (Ou k) nb U = false := by unfold finS; rw [decide_eq_false hw]; simp
            have hct : ct (finS Bd (Ou k) nb) (U + 1) = ct (finS Bd (Ou k) nb) U := by show ct _ U + (if finS Bd (Ou k) nb U = true then 1 else 0) = _; rw [hfin]; rfl
            have hac : acF (-1) (finS Bd (Ou k) nb) (U + 1) = acF (-1) (finS Bd (Ou k) nb) U := by show (if finS Bd (Ou k) nb U = true then _ else _) = _; rw [hfin]; rfl
            have hwh : wh (finS Bd (Ou k) nb) oi (U + 1) = wh (finS Bd (Ou k) nb) oi U := by
              cases oi with
              | none => rfl
              | some i => show (if i < ct _ (U + 1) then _ else _) = (if i < ct _ U then _ else _); rw [hct]
            rw [if_pos (by rw [show (lok Bd false (Ou k) U).2.1 = 0 by omega]; rfl), nI_1]
            have hgo := ih (U + 1) m3 (by omega) (by omega) (by omega) (h4.tr b5) b4 b3 h7'
            rw [hct, hac, hwh] at hgo
            exact hgo
  have h1c : ct (finS Bd (Ou k) nb) 1 = 0 := (ct_0 1).mpr fun i hi => fin_out (Or.inr (by omega))
  have := L n 1 mi (by omega) (by omega) (by omega) (fun _ _ _ _ _ _ => rfl) hb hR (fun V q1 q2 => by omega)
  have hw1 : wh (finS Bd (Ou k) nb) oi 1 = -1 := by
    cases oi with
    | none => rfl
    | some i => show (if i < ct (finS Bd (Ou k) nb) 1 then nI (el (finS Bd (Ou k) nb) i) else -1) = -1; rw [if_neg (by omega)]
  have hac1 : acF (-1) (finS Bd (Ou k) nb) 1 = -1 := by
    show (if finS Bd (Ou k) nb 0 = true then _ else (-1 : Int32)) = -1
    rw [fin_out (Or.inr rfl)]; rfl
  rw [h1c, hw1, hac1] at this
  exact this
end STS
