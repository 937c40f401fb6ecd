/-! ===== questions about boards and outlines ===== -/
theorem fo_b {k : Nat} (h : k < 8) : isFo (223 + 24 * k) := fo_ok ((by decide +kernel : ∀ k, k < 8 → 223 + 24 * k ∈ foL) k h)
theorem fo_o {k : Nat} (h : k < 6) : isFo (415 + 24 * k) := fo_ok ((by decide +kernel : ∀ k, k < 6 → 415 + 24 * k ∈ foL) k h)
theorem n10 : ¬ (1 : Int32) = 0 := by decide
theorem nI_m1 {k : Nat} (h : k < 2 ^ 31) : ¬ nI k = -1 := fun e => absurd (e ▸ (show (-1 : Int32) < 0 by decide)) (inN h)
section ASK
variable {l nb no n : Nat} {Bd Ou : Nat → Nat → Bool} {mi : IM} {ml : JM} {x1 x2 x3 : Int32}
theorem form_of (h01 : x1 = 0 ∨ x1 = 1) (hB : IvB l nb no Bd Ou mi) :
    (f_Q_formOf n 0 x1 x2 (K mi ml) = some (none, K mi ml) ∧ (∀ m', IvB l nb no Bd Ou m' → f_Mo_shape n 559 x1 x2 (K m' ml) = some (-1, K m' ml)) ∧ (x2 < 0 ∨ ∃ k, k < 2 ^ 31 ∧ x2 = nI k ∧ (x1 = 0 → nb ≤ k) ∧ (x1 = 1 → no ≤ k))) ∨
    (∃ a p k S, x2 = nI k ∧ isFo a ∧ 223 ≤ a ∧ p < 28 ∧ f_Q_formOf n 0 x1 x2 (K mi ml) = some (some a, K mi ml) ∧ FoA mi a p S ∧ (x1 = 0 ∧ k < nb ∧ a = 223 + 24 * k ∧ p = 8 * l + k ∧ S = Bd k ∨ x1 = 1 ∧ k < no ∧ a = 415 + 24 * k ∧ p = 16 + 6 * l + k ∧ S = Ou k) ∧ ∀ m', IvB l nb no Bd Ou m' → f_Mo_shape n 559 x1 x2 (K m' ml) = some (nI p, K m' ml) ∧ FoA m' a p S) := by
  obtain ⟨⟨h1, h2, h3⟩, ⟨h4, h5, h6, h7, h8⟩, h9, h10⟩ := hB
  unfold f_Q_formOf f_Mo_shape
  rcases i_cases x2 with c | ⟨k, hk, c⟩
  · left
    rw [o_0, if_pos c]
    exact ⟨rfl, fun m' _ => by rw [o_559, if_pos c], Or.inl c⟩
  · subst c
    rw [o_0, if_neg (inN hk)]
    rcases h01 with e | e
    · subst e
      rw [if_pos rfl, g_0, bnd_s, h5]
      unfold f_Q_formOf_20
      by_cases d : k < nb
      · right
        refine ⟨223 + 24 * k, 8 * l + k, k, Bd k, rfl, fo_b (by omega), by omega, by omega, ?_, h9 k d, Or.inl ⟨rfl, d, rfl, rfl, rfl⟩, fun m' hm => ⟨?_, hm.2.2.1 k d⟩⟩
        · rw [if_pos (by rw [nI_ltI hk (by omega)]; exact d), if_pos rfl, rf_0_3, bnd_s, aR_K ds_2 (by omega) (by omega) (ra_2 k (by omega)), bnd_s]
        · obtain ⟨_, ⟨q4, q5, q6, q7, q8⟩, _, _⟩ := hm
          rw [o_559, if_neg (inN hk), if_pos rfl, rf_559_21, bnd_s, g_559, bnd_s, q4, a_568 (by omega), bnd_s, q6]
          unfold f_Mo_shape_30
          rw [if_pos (by rw [nI_ltI hk (by omega)]; exact d), if_pos rfl, g_559, bnd_s, q4, im2 (n := 8), ia3]
      · left
        refine ⟨by rw [if_neg (by rw [nI_ltI hk (by omega)]; exact d)], fun m' hm => ?_, Or.inr ⟨k, hk, rfl, fun _ => by omega, fun q => absurd q (by decide)⟩⟩
        obtain ⟨_, ⟨q4, q5, q6, q7, q8⟩, _, _⟩ := hm
        rw [o_559, if_neg (inN hk), if_pos rfl, rf_559_21, bnd_s, g_559, bnd_s, q4, a_568 (by omega), bnd_s, q6]
        unfold f_Mo_shape_30
        rw [if_neg (by rw [nI_ltI hk (by omega)]; exact d)]
    · subst e
      rw [if_neg (by decide), g_0, bnd_s, h7]
      unfold f_Q_formOf_20
      by_cases d : k < no
      · right
        refine ⟨415 + 24 * k, 16 + 6 * l + k, k, Ou k, rfl, fo_o (by omega), by omega, by omega, ?_, h10 k d, Or.inr ⟨rfl, d, rfl, rfl, rfl⟩, fun m' hm => ⟨?_, hm.2.2.2 k d⟩⟩
        · rw [if_pos (by rw [nI_ltI hk (by omega)]; exact d), if_neg (by decide), rf_0_4, bnd_s, aR_K ds_3 (by omega) (by omega) (ra_3 k (by omega)), bnd_s]
        · obtain ⟨_, ⟨q4, q5, q6, q7, q8⟩, _, _⟩ := hm
          rw [o_559, if_neg (inN hk), if_neg (by decide), rf_559_22, bnd_s, g_559, bnd_s, q4, a_569 (by omega), bnd_s, q8]
          unfold f_Mo_shape_30
          rw [if_pos (by rw [nI_ltI hk (by omega)]; exact d), if_neg (by decide), g_559, bnd_s, q4, im2 (n := 6), ia2 (n := 16), ia3]
      · left
        refine ⟨by rw [if_neg (by rw [nI_ltI hk (by omega)]; exact d)], fun m' hm => ?_, Or.inr ⟨k, hk, rfl, fun q => absurd q (by decide), fun _ => by omega⟩⟩
        obtain ⟨_, ⟨q4, q5, q6, q7, q8⟩, _, _⟩ := hm
        rw [o_559, if_neg (inN hk), if_neg (by decide), rf_559_22, bnd_s, g_559, bnd_s, q4, a_569 (by omega), bnd_s, q8]
        unfold f_Mo_shape_30
        rw [if_neg (by rw [nI_ltI hk (by omega)]; exact d)]
theorem quarter_c (x : Int32) (n : Nat) : (∀ M, f_Q_isQuarter n x M = some (0, M) ∧ f_Mo_isQuarter n x M = some (0, M)) ∨ ∃ q, q < 256 ∧ x = nI q ∧ ∀ M, f_Q_isQuarter n x M = some (1, M) ∧ f_Mo_isQuarter n x M = some (1, M) := by
  unfold f_Q_isQuarter f_Mo_isQuarter
  rcases i_cases x with c | ⟨k, hk, c⟩
  · left; intro M; rw [if_pos c]; exact ⟨rfl, rfl⟩
  · subst c
    by_cases d : 256 ≤ k
    · left; intro M
      rw [if_neg (inN hk), if_pos (by rw [il1 (n := 256) (by omega) hk]; exact d)]; exact ⟨rfl, rfl⟩
    · right
      refine ⟨k, by omega, rfl, fun M => ?_⟩
      rw [if_neg (inN hk), if_neg (by rw [il1 (n := 256) (by omega) hk]; exact d)]; exact ⟨rfl, rfl⟩
theorem image_c (x : Int32) (n : Nat) : ((∀ M, f_Q_isImage n x M = some (0, M)) ∧ (x < 0 ∨ (¬ x < 0 ∧ ¬ x ≤ 7 ∧ 7 < x))) ∨ ∃ g, g < 8 ∧ x = nI g ∧ ∀ M, f_Q_isImage n x M = some (1, M) := by
  unfold f_Q_isImage
  rcases i_cases x with c | ⟨k, hk, c⟩
  · left; exact ⟨fun M => by rw [if_pos c], Or.inl c⟩
  · subst c
    by_cases d : 8 ≤ k
    · left
      refine ⟨fun M => ?_, Or.inr ⟨inN hk, ?_, ?_⟩⟩
      · rw [if_neg (inN hk), if_pos (by rw [il1 (n := 8) (by omega) hk]; exact d)]
      · rw [il2 (n := 7) (by omega) hk]; omega
      · rw [it1 (n := 7) (by omega) hk]; omega
    · right
      refine ⟨k, by omega, rfl, fun M => ?_⟩
      rw [if_neg (inN hk), if_neg (by rw [il1 (n := 8) (by omega) hk]; exact d)]
theorem sq_area (h01 : x1 = 0 ∨ x1 = 1) : SQ Inv (f_Q_area NF 0 x1 x2) (f_Mo_area NF 559 x1 x2) := by
  refine sq_keep fun l nb no Bd Ou mi ml hI => ?_
  unfold f_Q_area f_Mo_area
  rw [o_0]
  rcases form_of (n := NF) (ml := ml) (x2 := x2) h01 hI.2.2.1 with ⟨e1, e2, _⟩ | ⟨a, p, k, S, e0, e1, e2, e3, e4, e5, _, e6⟩
  · rw [e1, bnd_s]
    exact ⟨-1, mi, mi, rfl, by rw [o_559, e2 mi hI.2.2.1, bnd_s, if_pos rfl], Kp.rf hI.1⟩
  · rw [e4, bnd_s]
    refine ⟨nI (ct S 256), mi, mi, ?_, ?_, Kp.rf hI.1⟩
    · show ((gI 4 6 a (K mi ml)).bind fun v3 => some (v3, K mi ml)) = _
      rw [gI_K e1.1, bnd_s, e5.2.2.2.2]
    · rw [o_559, (e6 mi hI.2.2.1).1, bnd_s, if_neg (nI_m1 (by omega)), areaOf_S (by omega) (by decide), bnd_s, e5.2.2.1]
theorem sq_has (h01 : x1 = 0 ∨ x1 = 1) : SQ Inv (f_Q_has NF 0 x1 x2 x3) (f_Mo_has NF 559 x1 x2 x3) := by
  refine sq_keep fun l nb no Bd Ou mi ml hI => ?_
  unfold f_Q_has f_Mo_has
  rw [o_0]
  rcases form_of (n := NF) (ml := ml) (x2 := x2) h01 hI.2.2.1 with ⟨e1, e2, _⟩ | ⟨a, p, k, S, e0, e1, e2, e3, e4, e5, _, e6⟩
  · rw [e1, bnd_s]
    exact ⟨-1, mi, mi, rfl, by rw [o_559, e2 mi hI.2.2.1, bnd_s, if_pos rfl]; rfl, Kp.rf hI.1⟩
  · rw [e4, bnd_s]
    show ∃ r m1 m2, ((f_Q_isQuarter NF x3 (K mi ml)).bind fun p3 => if p3.1 = 0 then some ((-1), p3.2) else (gR 4 0 a p3.2).bind fun v5 => (f_Shape_holds NF v5 x3 p3.2).bind fun p6 => if p6.1 = 0 then some (0, p6.2) else some (1, p6.2)) = some (r, K m1 ml) ∧ _
    rcases quarter_c x3 NF with q | ⟨q, q1, q2, q3⟩
    · rw [(q _).1, bnd_s, if_pos rfl]
      refine ⟨-1, mi, mi, rfl, ?_, Kp.rf hI.1⟩
      rw [o_559, (e6 mi hI.2.2.1).1, bnd_s, if_neg (nI_m1 (by omega)), (q _).2, bnd_s, if_pos rfl]; rfl
    · rw [(q3 _).1, bnd_s, if_neg n10, fo_0 e1, bnd_s, q2, holds_s (told_sh e1) q1, bnd_s]
      refine ⟨b2i (S q), mi, mi, ?_, ?_, Kp.rf hI.1⟩
      · rw [e5.2.2.2.1.1]
        cases S q <;> rfl
      · rw [o_559, (e6 mi hI.2.2.1).1, bnd_s, if_neg (nI_m1 (by omega)), ← q2, (q3 _).2, bnd_s, if_neg n10, rf_559_18, bnd_s, q2, im2 (n := 256), ia3, a_567 (by omega), bnd_s, pg01 hI.1, ← pS_in q1, e5.2.2.1]
        cases S q <;> rfl
theorem sq_pieces (h01 : x1 = 0 ∨ x1 = 1) : SQ Inv (f_Q_pieces NF 0 x1 x2) (f_Mo_pieces NF 559 x1 x2) := by
  refine sq_keep fun l nb no Bd Ou mi ml hI => ?_
  unfold f_Q_pieces f_Mo_pieces
  rw [o_0]
  rcases form_of (n := NF) (ml := ml) (x2 := x2) h01 hI.2.2.1 with ⟨e1, e2, _⟩ | ⟨a, p, k, S, e0, e1, e2, e3, e4, e5, _, e6⟩
  · rw [e1, bnd_s]
    exact ⟨-1, mi, mi, rfl, by rw [o_559, e2 mi hI.2.2.1, bnd_s, if_pos rfl], Kp.rf hI.1⟩
  · rw [e4, bnd_s]
    obtain ⟨m1, a1, a2⟩ := countPieces_s (n := NF) (mi := mi) (ml := ml) (told_sh e1) (by omega) (by decide)
    have k1 := a2.kp hI.1
    have hB := (IV_keep hI k1).2.2.1
    obtain ⟨m2, b1, b2⟩ := piecesOf_S (n := NF) (p := p) (mi := m1) (ml := ml) (by omega) (by decide)
    refine ⟨nI (pcs 256 0 S), m1, m2, ?_, ?_, k1.tr (b2.kp k1.1)⟩
    · show ((gR 11 11 0 (K mi ml)).bind fun v3 => (gR 4 0 a (K mi ml)).bind fun v4 => (f_Measure_countPieces NF v3 v4 (K mi ml)).bind fun p5 => some (p5.1, p5.2)) = _
      rw [rf_0_11, bnd_s, fo_0 e1, bnd_s, a1, bnd_s, e5.2.2.2.1.1]
    · rw [o_559, (e6 m1 hB).1, bnd_s, if_neg (nI_m1 (by omega)), b1, bnd_s, (e6 m1 hB).2.2.2.1]
theorem bool_of {x : Int32} (h : x = 0 ∨ x = 1) : ∃ b, x = b2i b := by
  rcases h with rfl | rfl
  · exact ⟨false, rfl⟩
  · exact ⟨true, rfl⟩
theorem sq_corners (h01 : x1 = 0 ∨ x1 = 1) (h3 : x3 = 0 ∨ x3 = 1) : SQ Inv (f_Q_corners NF 0 x1 x2 x3) (f_Mo_corners NF 559 x1 x2 x3) := by
  refine sq_keep fun l nb no Bd Ou mi ml hI => ?_
  obtain ⟨inw, rfl⟩ := bool_of h3
  unfold f_Q_corners f_Mo_corners
  rw [o_0]
  rcases form_of (n := NF) (ml := ml) (x2 := x2) h01 hI.2.2.1 with ⟨e1, e2, _⟩ | ⟨a, p, k, S, e0, e1, e2, e3, e4, e5, _, e6⟩
  · rw [e1, bnd_s]
    exact ⟨-1, mi, mi, rfl, by rw [o_559, e2 mi hI.2.2.1, bnd_s, if_pos rfl], Kp.rf hI.1⟩
  · rw [e4, bnd_s]
    obtain ⟨m2, b1, b2⟩ := cornersOf_S (n := NF) (p := p) (mi := mi) (ml := ml) (inw := inw) (by omega) (by decide)
    refine ⟨nI (cr S inw 81), mi, m2, ?_, ?_, b2.kp hI.1⟩
    · show ((gR 11 11 0 (K mi ml)).bind fun v3 => (gR 4 0 a (K mi ml)).bind fun v4 => (f_Measure_countCorners NF v3 v4 (b2i inw) (K mi ml)).bind fun p5 => some (p5.1, p5.2)) = _
      rw [rf_0_11, bnd_s, fo_0 e1, bnd_s, countCorners_s (told_sh e1) (by decide), bnd_s, e5.2.2.2.1.1]
    · rw [o_559, (e6 mi hI.2.2.1).1, bnd_s, if_neg (nI_m1 (by omega)), b1, bnd_s, e5.2.2.1]
theorem ct_lt31 {S : Nat → Bool} {k : Nat} (h : k ≤ 256) : ct S k < 2 ^ 31 := by have := ct_le S k; omega
theorem pcs_le : ∀ m i (O : Nat → Bool), pcs m i O ≤ m
  | 0, _, _ => Nat.le_refl _
  | m + 1, i, O => by
    unfold pcs
    by_cases c : O i = true
    · rw [if_pos c]; have := pcs_le m (i + 1) (pic O i).1; omega
    · rw [if_neg c]; have := pcs_le m (i + 1) O; omega
theorem coN_le (r : Nat → Bool) (ar : Nat) (inw : Bool) : coN r ar inw ≤ ar := ct_le _ _
theorem cr_le (S : Nat → Bool) (inw : Bool) : ∀ t, cr S inw t ≤ 12 * t
  | 0 => Nat.le_refl _
  | t + 1 => by
    have := cr_le S inw t
    have h1 := coN_le (rd S ((t % 9 : Nat) : Int) ((t / 9 : Nat) : Int)) 8 inw
    have h2 := coN_le (inS S ((t % 9 : Nat) : Int) ((t / 9 : Nat) : Int)) 4 inw
    show cr S inw t + _ + _ ≤ _
    omega
theorem sq_bulges (h01 : x1 = 0 ∨ x1 = 1) : SQ Inv (f_Q_bulges NF 0 x1 x2) (f_Mo_bulges NF 559 x1 x2) := by
  refine sq_keep fun l nb no Bd Ou mi ml hI => ?_
  unfold f_Q_bulges f_Mo_bulges
  rw [o_0]
  rcases form_of (n := NF) (ml := ml) (x2 := x2) h01 hI.2.2.1 with ⟨e1, e2, _⟩ | ⟨a, p, k, S, e0, e1, e2, e3, e4, e5, _, e6⟩
  · rw [e1, bnd_s]
    exact ⟨-1, mi, mi, rfl, by rw [o_559, e2 mi hI.2.2.1, bnd_s, if_pos rfl], Kp.rf hI.1⟩
  · rw [e4, bnd_s]
    obtain ⟨m1, a1, a2⟩ := isOnePiece_s (n := NF) (mi := mi) (ml := ml) (told_sh e1) (by omega) (by decide)
    have k1 := a2.kp hI.1
    have hB := (IV_keep hI k1).2.2.1
    obtain ⟨m2, b1, b2⟩ := piecesOf_S (n := NF) (p := p) (mi := m1) (ml := ml) (by omega) (by decide)
    have k2 := b2.kp k1.1
    obtain ⟨m3, c1, c2⟩ := cornersOf_S (n := NF) (p := p) (mi := m2) (ml := ml) (inw := true) (by omega) (by decide)
    have k3 := c2.kp k2.1
    rw [e5.2.2.2.1.1] at a1
    have f1 := (e6 m1 hB).2
    have hpc := pcs_le 256 0 S
    have hcr := cr_le S true 81
    show ∃ r n1 n2, ((gR 11 11 0 (K mi ml)).bind fun v3 => (gR 4 0 a (K mi ml)).bind fun v4 => (f_Measure_isOnePiece NF v3 v4 (K mi ml)).bind fun p5 => if p5.1 = 0 then some (0, p5.2) else (gR 11 11 0 p5.2).bind fun v7 => (gR 4 0 a p5.2).bind fun v8 => (f_Measure_countCorners NF v7 v8 1 p5.2).bind fun p9 => if p9.1 = 0 then some (1, p9.2) else some (0, p9.2)) = some (r, K n1 ml) ∧ _
    rw [rf_0_11, bnd_s, fo_0 e1, bnd_s, a1, bnd_s]
    by_cases d : pcs 256 0 S = 1
    · rw [decide_eq_true d, if_neg (show ¬ b2i true = 0 by decide), rf_0_11, bnd_s, fo_0 e1, bnd_s, show (1 : Int32) = b2i true from rfl, countCorners_s (told_sh e1) (by decide), bnd_s, f1.2.2.2.1.1]
      have g : ∀ x y : Int32, f_Mo_bulges NF 559 x1 x2 (K m1 ml) = (if nI (cr S true 81) = 0 then some (1, K m3 ml) else some (0, K m3 ml)) := fun _ _ => by
        unfold f_Mo_bulges
        rw [o_559, (e6 m1 hB).1, bnd_s, if_neg (nI_m1 (by omega)), b1, bnd_s, f1.2.2.1, if_pos (by rw [d]; rfl), show (1 : Int32) = b2i true from rfl, c1, bnd_s, b2.pS, f1.2.2.1]
      by_cases f : nI (cr S true 81) = 0
      · exact ⟨1, m1, m3, by rw [if_pos f]; rfl, (g 0 0).trans (by rw [if_pos f]), k1.tr (k2.tr k3)⟩
      · exact ⟨0, m1, m3, by rw [if_neg f], (g 0 0).trans (by rw [if_neg f]), k1.tr (k2.tr k3)⟩
    · rw [decide_eq_false d, if_pos (show b2i false = 0 by decide)]
      refine ⟨0, m1, m2, rfl, ?_, k1.tr k2⟩
      rw [o_559, (e6 m1 hB).1, bnd_s, if_neg (nI_m1 (by omega)), b1, bnd_s, f1.2.2.1, if_neg (by rw [ie1 (n := 1) (by omega) (by omega)]; exact d)]
theorem sq_images (h01 : x1 = 0 ∨ x1 = 1) : SQ Inv (f_Q_images NF 0 x1 x2) (f_Mo_images NF 559 x1 x2) := by
  refine sq_keep fun l nb no Bd Ou mi ml hI => ?_
  unfold f_Q_images f_Mo_images
  rw [o_0]
  rcases form_of (n := NF) (ml := ml) (x2 := x2) h01 hI.2.2.1 with ⟨e1, e2, _⟩ | ⟨a, p, k, S, e0, e1, e2, e3, e4, e5, _, e6⟩
  · rw [e1, bnd_s]
    exact ⟨-1, mi, mi, rfl, by rw [o_559, e2 mi hI.2.2.1, bnd_s, if_pos rfl], Kp.rf hI.1⟩
  · rw [e4, bnd_s]
    obtain ⟨m2, b1, b2, b3⟩ := images_loop (n := NF) (ml := ml) (S := S) (p := p) (by omega) (by simp; omega) (by decide) NF 0 mi (by omega) (by decide) hI.1 e5.2.2.1
    refine ⟨nI (ct (fun g => lsG S g == g) 8), mi, m2, ?_, ?_, b2.kp b3 (by simp)⟩
    · show ((f_Form_countDifferent NF a (K mi ml)).bind fun p3 => some (p3.1, p3.2)) = _
      rw [countDifferent_s e1 e5.2.2.2.1 (by decide), bnd_s]
    · rw [o_559, (e6 mi hI.2.2.1).1, bnd_s, if_neg (nI_m1 (by omega))]
      exact b1
theorem loS_fnd {S : Nat → Bool} {v : Int32} (h : loS S v) : v = oI (fnd S 256 0) (-1) := by
  rcases h with ⟨h1, h2⟩ | ⟨t, h1, h2, h3, h4⟩
  · rw [fnd_none.mpr fun j _ hj => noS_t.mp h1 j (by omega), h2]; rfl
  · rw [fnd_eq (Nat.zero_le t) (by omega) h2 (fun j _ hj => h3 j hj), h4]; rfl
theorem sq_least (h01 : x1 = 0 ∨ x1 = 1) : SQ Inv (f_Q_least NF 0 x1 x2 x3) (f_Mo_least NF 559 x1 x2 x3) := by
  refine sq_keep fun l nb no Bd Ou mi ml hI => ?_
  unfold f_Q_least f_Mo_least
  rw [o_0]
  rcases form_of (n := NF) (ml := ml) (x2 := x2) h01 hI.2.2.1 with ⟨e1, e2, _⟩ | ⟨a, p, k, S, e0, e1, e2, e3, e4, e5, _, e6⟩
  · rw [e1, bnd_s]
    exact ⟨-1, mi, mi, rfl, by rw [o_559, e2 mi hI.2.2.1, bnd_s, if_pos rfl], Kp.rf hI.1⟩
  · rw [e4, bnd_s]
    show ∃ r m1 m2, ((f_Q_isImage NF x3 (K mi ml)).bind fun p3 => if p3.1 = 0 then some ((-1), p3.2) else (gR 4 2 a p3.2).bind fun v5 => (aI 100 v5 x3 p3.2).bind fun v6 => some (v6, p3.2)) = some (r, K m1 ml) ∧ _
    rcases image_c x3 NF with ⟨q, q2⟩ | ⟨g, q1, q2, q3⟩
    · rw [q, bnd_s, if_pos rfl]
      refine ⟨-1, mi, mi, rfl, ?_, Kp.rf hI.1⟩
      rw [o_559, (e6 mi hI.2.2.1).1, bnd_s, if_neg (nI_m1 (by omega))]
      rcases q2 with c | ⟨c1, c2, c3⟩
      · rw [if_pos c]
      · rw [if_neg c1, if_neg c2]
    · obtain ⟨m2, b1, b2, b3, b4⟩ := imaged_S (n := NF) (p := p) (mi := mi) (ml := ml) (g := g) (to := 48) hI.1 (by omega) (by omega) q1 (by decide) (by omega) (by omega) (by omega)
      have hv := loS_fnd (e5.2.2.2.1.2 g q1).2.1
      rw [q3, bnd_s, if_neg n10, fo_2 e1, bnd_s, q2, aI_K e1.2.2.2.2.2.2.2.2.1 (by decide) q1, bnd_s]
      refine ⟨_, mi, m2, rfl, ?_, b3.kp b4 (by simp)⟩
      rw [o_559, (e6 mi hI.2.2.1).1, bnd_s, if_neg (nI_m1 (by omega)), if_neg (inN (by omega)), if_pos (by rw [il2 (n := 7) (by omega) (by omega)]; omega), show (48 : Int32) = nI 48 from rfl, b1, bnd_s, hv]
      have := least38_S (n := NF) (mi := m2) (ml := ml) b4 NF 0 (by omega) (by decide)
      rw [b2, e5.2.2.1] at this
      exact this
theorem oI_m1 {P : Nat → Bool} {c : Nat} (hc : c < 2 ^ 31) : (oI (fnd P c 0) (-1) = -1 ↔ fnd P c 0 = none) := by
  cases e : fnd P c 0 with
  | none => exact ⟨fun _ => rfl, fun _ => rfl⟩
  | some k =>
    have := (fnd_some e).2.1
    exact ⟨fun h => absurd h (nI_m1 (by omega)), fun h => by cases h⟩
theorem alG_oI {S T : Nat → Bool} : (if oI (alG S T) (-1) = -1 then (-2 : Int32) else oI (alG S T) (-1)) = oI (alG S T) (-2) := by
  unfold alG
  cases e : fnd (fun g => smS (imS g S) (baC T)) 8 0 with
  | none => rfl
  | some k =>
    have := (fnd_some e).2.1
    rw [if_neg (show ¬ oI (some k) (-1) = -1 from nI_m1 (by omega))]; rfl
theorem im_0 (S : Nat → Bool) : imS 0 S = baC S := rfl
theorem sq_alike : SQ Inv (f_Q_alike NF 0 x1 x2) (f_Mo_alike NF 559 x1 x2) := by
  refine sq_keep fun l nb no Bd Ou mi ml hI => ?_
  unfold f_Q_alike f_Mo_alike
  rw [o_0]
  rcases form_of (n := NF) (ml := ml) (x1 := 1) (x2 := x1) (Or.inr rfl) hI.2.2.1 with ⟨e1, e2, _⟩ | ⟨a, p, k, S, e0, e1, e2, e3, e4, e5, _, e6⟩
  · rw [e1, bnd_s]
    rcases form_of (n := NF) (ml := ml) (x1 := 1) (x2 := x2) (Or.inr rfl) hI.2.2.1 with ⟨d1, d2, _⟩ | ⟨a', p', k', S', d0, d1, d2, d3, d4, d5, _, d6⟩
    · rw [d1, bnd_s]
      exact ⟨-1, mi, mi, rfl, by rw [o_559, e2 mi hI.2.2.1, bnd_s, d2 mi hI.2.2.1, bnd_s, if_pos rfl], Kp.rf hI.1⟩
    · rw [d4, bnd_s]
      exact ⟨-1, mi, mi, rfl, by rw [o_559, e2 mi hI.2.2.1, bnd_s, (d6 mi hI.2.2.1).1, bnd_s, if_pos rfl], Kp.rf hI.1⟩
  · rw [e4, bnd_s]
    rcases form_of (n := NF) (ml := ml) (x1 := 1) (x2 := x2) (Or.inr rfl) hI.2.2.1 with ⟨d1, d2, _⟩ | ⟨a', p', k', S', d0, d1, d2, d3, d4, d5, _, d6⟩
    · rw [d1, bnd_s]
      exact ⟨-1, mi, mi, rfl, by rw [o_559, (e6 mi hI.2.2.1).1, bnd_s, d2 mi hI.2.2.1, bnd_s, if_neg (nI_m1 (by omega)), if_pos rfl], Kp.rf hI.1⟩
    · rw [d4, bnd_s]
      obtain ⟨m2, b1, b2, b3⟩ := alikeBy_S (n := NF) (p := p) (q := p') (mi := mi) (ml := ml) hI.1 (by omega) (by omega) (by simp; omega) (by omega) (by decide)
      refine ⟨oI (alG S S') (-2), mi, m2, ?_, ?_, b2.kp b3 (by simp)⟩
      · show ((f_Form_base NF a' (K mi ml)).bind fun p5 => (p5.1).bind fun r6 => (f_Form_imageThatIs NF a r6 p5.2).bind fun p7 => some (p7.1, p7.2)) = _
        unfold f_Form_base
        rw [og_K d1.1, fo_1 d1, bnd_s, show (0 : Int32) = nI 0 from rfl, im_ref d1 (by omega), bnd_s, bnd_s, bnd_s, imageThatIs_s e1 e5.2.2.2.1 (im_sh d1 (by omega)) (by decide), bnd_s, (d5.2.2.2.1.2 0 (by omega)).1, im_0]
        rfl
      · rw [o_559, (e6 mi hI.2.2.1).1, bnd_s, (d6 mi hI.2.2.1).1, bnd_s, if_neg (nI_m1 (by omega)), if_neg (nI_m1 (by omega)), b1, bnd_s, e5.2.2.1, d5.2.2.1, ← alG_oI]
        by_cases c : oI (alG S S') (-1) = -1
        · rw [if_pos c, if_pos c]
        · rw [if_neg c, if_neg c]
theorem sq_place : SQ Inv (f_Q_place NF 0) (f_Mo_place NF 559) := by
  refine sq_keep fun l nb no Bd Ou mi ml hI => ⟨mi 0 2, mi, mi, ?_, ?_, Kp.rf hI.1⟩
  · unfold f_Q_place; rw [o_0, g_0, bnd_s]
  · unfold f_Mo_place; rw [o_559, g_559, bnd_s, hI.2.2.2.1.2]
theorem sq_steps : SQ Inv (f_Q_steps NF 0) (f_Mo_steps NF 559) := by
  refine sq_keep fun l nb no Bd Ou mi ml hI => ⟨mi 81 0, mi, mi, ?_, ?_, Kp.rf hI.1⟩
  · unfold f_Q_steps; rw [o_0, rf_0_12, bnd_s, g_81, bnd_s]
  · unfold f_Mo_steps; rw [o_559, g_559, bnd_s, hI.2.2.2.2.2.2.1.1]
end ASK
