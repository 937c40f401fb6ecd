/-! ===== FILLINGS in the class: the whole look ===== -/
section LKC
variable {n nb set U d b : Nat} {al : Bool} {L : Nat → Bool} {W : Nat → Nat} {ml : JM} {Bd : Nat → Nat → Bool}
theorem boardsC {r : Nat → Int32 → Int32 → MM → Option MM} (hnb : nb ≤ 8) (hd : d < 8) (hr : RcS n nb set d al Bd ml r) (hLV : LV nb set Bd (d + 1) L U) (hn : 8 < n) : ∀ m b s mi, b ≤ 8 → 8 - b < m → CR set al L U W s mi → BdI nb Bd mi → ∃ mi', f_Filler_search_32 n r m 81 (nI (7 - d)) (nI U) (nI (lo L)) (nI b) (K mi ml) = some (K mi' ml) ∧ CR set al L U W (fl (bod Bd al (lvl Bd al d) L U W) (64 - 8 * b) (8 * b) s) mi' ∧ FS al mi mi' := by
  have hp := p_nb hnb
  have hU8 : U < 256 := Nat.lt_of_lt_of_le hLV.2.1 hp
  intro m
  induction m with
  | zero => intro b s mi h1 h2; omega
  | succ m ih =>
    intro b s mi h1 h2 hCR hBd
    rw [f_Filler_search_32]
    by_cases c : b = 8
    · subst c; rw [if_pos (by decide)]; exact ⟨mi, rfl, hCR, FS.rf⟩
    · rw [if_neg (by rw [il1 (n := 8) (by omega) (by omega)]; omega), isOverC hCR, bnd_s]
      cases e : ovr al s with
      | true =>
        rw [if_neg (show ¬ b2i true = 0 by decide), fl_ov e]
        exact ⟨mi, rfl, hCR, FS.rf⟩
      | false =>
        rw [if_pos (show b2i false = 0 by decide), show 64 - 8 * b = 8 + (64 - 8 * (b + 1)) by omega, fl_add]
        unfold f_Filler_search_64
        cases ht : U.testBit b with
        | false =>
          rw [if_pos ((bit0 (by omega)).mpr (by rw [b_nI (by omega), ht])), nI_1, fl_id 8 (8 * b) fun i q1 q2 => bod_no (by unfold cdK; rw [show i / 8 = b by omega, ht]; rfl)]
          exact ih (b + 1) s mi (by omega) (by omega) hCR hBd
        | true =>
          obtain ⟨m1, a1, a2, a3⟩ := tryC (n := n) (W := W) (ml := ml) hnb hd hr hLV (show b < 8 by omega) ht hn n 0 s mi (by omega) (by omega) hCR hBd
          rw [if_neg (by rw [bit0 (by omega), b_nI (by omega), ht]; decide)]
          unfold f_Filler_tryBoard
          rw [o_81, rf_81_1, bnd_s, aR_K ds_2 (by omega) (by omega) (ra_2 b (by omega)), bnd_s, show (0 : Int32) = nI 0 from rfl, a1, bnd_s, nI_1]
          obtain ⟨m2, b1, b2, b3⟩ := ih (b + 1) _ m1 (by omega) (by omega) a2 (BdI_c hBd a3)
          exact ⟨m2, b1, b2, a3.tr b3⟩
theorem searchC (hnb : nb ≤ 8) (e : Nat) (hn : 8 < n) : ∀ d, d ≤ 8 → RcS n nb set d al Bd ml (F_Filler_search n (d + 1 + e)) := by
  have zero : ∀ j, ∀ (L : Nat → Bool) (W : Nat → Nat) (s : SS) (m : IM) (x : Int32), CR set al L 0 W s m → s.2.1 < s.1 → ∃ m', F_Filler_search n (j + 1) 81 x (nI 0) (K m ml) = some (K m' ml) ∧ CR set al L 0 W (cnt al W s) m' ∧ FS al m m' := by
    intro j L W s m x hCR hs
    obtain ⟨v, v1, _⟩ := lowestQuarter_s (n := n) (mi := m) (ml := ml) sh82 hn
    obtain ⟨m1, a1, a2, a3⟩ := countWayC (n := n) (ml := ml) hCR hs
    rw [F_Filler_search]
    unfold f_Filler_search
    rw [o_81, rf_81_2, bnd_s, v1, bnd_s, if_pos (show nI 0 = 0 by decide), a1, bnd_s]
    exact ⟨m1, rfl, a2, a3⟩
  intro d
  induction d with
  | zero =>
    intro _
    refine ⟨fun L U W s m hU hLV _ _ => ?_, fun L W s m x h1 h2 => by rw [show 0 + 1 + e = e + 1 by omega]; exact zero e L W s m x h1 h2⟩
    have hU8 : U < 256 := Nat.lt_of_lt_of_le hLV.2.1 (p_nb hnb)
    exact absurd ((U_0 U hU8).mpr fun k hk => (ct_0 8).mp (by have := hLV.2.2.2.2; omega) k hk) hU
  | succ d ih =>
    intro hd
    have hr := ih (by omega)
    refine ⟨fun L U W s m hU hLV hCR hBd => ?_, fun L W s m x h1 h2 => by rw [show d + 1 + 1 + e = (d + 1 + e) + 1 by omega]; exact zero _ L W s m x h1 h2⟩
    have hU8 : U < 256 := Nat.lt_of_lt_of_le hLV.2.1 (p_nb hnb)
    have hLn : noS L = false := by
      cases q : noS L with
      | false => rfl
      | true =>
        by_cases c : ∃ b, b < 8 ∧ U.testBit b = true
        · obtain ⟨b, b1, b2⟩ := c
          have hbn : b < nb := by
            by_cases c : nb ≤ b
            · rw [tb_out hLV.2.1 c] at b2; cases b2
            · omega
          have h1 := ct_noS.mp q
          have h2 := ar_pos (Bd := Bd) hU8 b1 b2 (hBd b hbn).1
          have h3 := hLV.2.2.2.1
          omega
        · exact absurd ((U_0 U hU8).mpr fun k hk => by
            cases t : U.testBit k with
            | false => rfl
            | true => exact absurd ⟨k, hk, t⟩ c) hU
    obtain ⟨v, v1, v2⟩ := lowestQuarter_s (n := n) (mi := m) (ml := ml) sh82 hn
    rw [hCR.1.1] at v2
    have hv := lo_v hLn v2
    have hq := (lo_s hLn).1
    obtain ⟨m1, a1, a2, a3⟩ := boardsC (n := n) (W := W) (ml := ml) hnb (show d < 8 by omega) hr hLV hn n 0 s m (by omega) (by omega) hCR hBd
    rw [show d + 1 + 1 + e = (d + 1 + e) + 1 by omega, F_Filler_search]
    unfold f_Filler_search
    refine ⟨m1, ?_, by rw [lvl_s]; exact a2, a3⟩
    rw [o_81, rf_81_2, bnd_s, v1, bnd_s, if_neg (show ¬ nI U = 0 by rw [ie1 (n := 0) (by omega) (by omega)]; exact hU), if_neg (show ¬ (8 : Int32) ≤ nI (8 - (d + 1)) by rw [il1 (n := 8) (by omega) (by omega)]; omega), hv, if_neg (show ¬ nI (lo L) < 0 from inN (by omega)), show 8 - (d + 1) = 7 - d by omega]
    exact a1
theorem areaC {mi : IM} (hnb : nb ≤ 8) (hset : set < 2 ^ nb) (hsz : ∀ b, b < nb → mi (223 + 24 * b) 6 = nI (ct (Bd b) 256)) (hn : 8 < n) : f_Filler_areaOf n 81 (nI set) (K mi ml) = some (nI (arB Bd set 8), K mi ml) := by
  unfold f_Filler_areaOf
  have L : ∀ m b, b ≤ 8 → 8 - b < m → f_Filler_areaOf_4 n m 81 (nI set) (nI (arB Bd set b)) (nI b) (K mi ml) = some (nI (arB Bd set 8), K mi ml) := by
    intro m
    induction m with
    | zero => intro b h1 h2; omega
    | succ m ih =>
      intro b h1 h2
      rw [f_Filler_areaOf_4]
      by_cases c : b = 8
      · subst c; rw [if_pos (by decide)]
      · rw [if_neg (by rw [il1 (n := 8) (by omega) (by omega)]; omega), ← ih (b + 1) (by omega) (by omega)]
        unfold f_Filler_areaOf_32
        cases ht : set.testBit b with
        | false =>
          rw [if_pos ((bit0 (by omega)).mpr (by rw [b_nI (by omega), ht])), nm_t, nI_1, Int32.add_zero]
          simp only [arB, ht, Bool.false_eq_true, if_false, Nat.add_zero]
        | true =>
          have hbn : b < nb := by
            by_cases c : nb ≤ b
            · rw [tb_out hset c] at ht; cases ht
            · omega
          rw [if_neg (by rw [bit0 (by omega), b_nI (by omega), ht]; decide), rf_81_1, bnd_s, aR_K ds_2 (by omega) (by omega) (ra_2 b (by omega)), bnd_s, gI_K (fo_b (show b < 8 by omega)).1, bnd_s, hsz b hbn, nm_t, nI_1, ia3]
          simp only [arB, ht, if_true]
  rw [o_81]
  exact L n 0 (by omega) (by omega)
theorem ar_le (Bd : Nat → Nat → Bool) (U : Nat) : ∀ b, arB Bd U b ≤ 256 * b
  | 0 => Nat.le_refl _
  | b + 1 => by
    have := ar_le Bd U b
    have h2 := ct_le (Bd b) 256
    show arB Bd U b + (if U.testBit b = true then ct (Bd b) 256 else 0) ≤ _
    by_cases c : U.testBit b = true
    · rw [if_pos c]; omega
    · rw [if_neg c]; omega
/-- the class's look -/
theorem lookS {mi : IM} {a : Nat} {O : Nat → Bool} (hnb : nb ≤ 8) (hset : set < 2 ^ nb) (h0 : set ≠ 0) (hsz : ∀ b, b < nb → mi (223 + 24 * b) 6 = nI (ct (Bd b) 256)) (hBd : BdI nb Bd mi) (hf : isFo a) (ha : 223 ≤ a) (hO : svS mi (a + 1) = O) (hOs : mi a 6 = nI (ct O 256)) (hn : 8 < n) : ∃ mi', f_Filler_look n 81 a (nI set) (b2i (!al)) (K mi ml) = some (K mi' ml) ∧ (mi' 81 4 = b2i (lok Bd al O set).2.2.1 ∧ mi' 81 5 = nI (lok Bd al O set).1 ∧ mi' 81 6 = nI (lok Bd al O set).2.1) ∧ ((lok Bd al O set).1 ≤ 60000 ∧ (lok Bd al O set).2.1 ≤ (lok Bd al O set).1) ∧ (al = true → 0 < (lok Bd al O set).2.1 → ∀ b, b < 8 → set.testBit b = true → mi' 85 b = nI ((lok Bd al O set).2.2.2 b)) ∧ FS al mi mi' := by
  unfold f_Filler_look
  rw [o_81, z_81 (b2i_1 _), bnd_s, z_81 (by decide), bnd_s, p_81, bnd_s, p_81, bnd_s]
  generalize e1 : upd2 (upd2 (upd2 (upd2 mi 81 3 (b2i (!al))) 81 4 0) 81 5 0) 81 6 0 = m1
  have f1 : FS al mi m1 := fun c j q _ _ _ => by rw [← e1, u2, if_neg (by omega), u2, if_neg (by omega), u2, if_neg (by omega), u2, if_neg (by omega)]
  have v3 : m1 81 3 = b2i (!al) := by rw [← e1, u2, if_neg (by omega), u2, if_neg (by omega), u2, if_neg (by omega), u2, if_pos ⟨rfl, rfl⟩]
  have v4 : m1 81 4 = 0 := by rw [← e1, u2, if_neg (by omega), u2, if_neg (by omega), u2, if_pos ⟨rfl, rfl⟩]
  have v5 : m1 81 5 = 0 := by rw [← e1, u2, if_neg (by omega), u2, if_pos ⟨rfl, rfl⟩]
  have v6 : m1 81 6 = 0 := by rw [← e1, u2, if_pos ⟨rfl, rfl⟩]
  have fc : ∀ c, c ≠ 81 → m1 c = mi c := fun c hc => by rw [← e1, upd2_ne hc, upd2_ne hc, upd2_ne hc, upd2_ne hc]
  have har := ar_le Bd set 8
  rw [areaC hnb hset (fun b hb => by rw [fc _ (by omega)]; exact hsz b hb) hn, bnd_s, gI_K hf.1, bnd_s, fc a (by omega), hOs]
  unfold lok
  by_cases c : arB Bd set 8 = ct O 256
  · rw [if_pos (by rw [c]), if_pos c, rf_81_2, bnd_s, fo_0 hf, bnd_s, copy_s sh82 (told_sh hf) (by omega) hn, bnd_s]
    generalize e2 : setRw m1 82 (m1 (a + 1 + 1)) = m2
    have sO : svS m2 82 = O := by
      rw [← e2, sv_set, fc (a + 1 + 1) (by omega)]; exact hO
    have f2 : FS al mi m2 := f1.tr fun c j _ q _ _ => by rw [← e2, setRw_ne q]
    have hOc : cu O = O := by rw [← hO]; exact rS_cu _
    have hLV : LV nb set Bd 8 O set := ⟨hOc, hset, fun _ h => h, c.symm, ct_le _ _⟩
    have hCR : CR set al O set (fun _ => 0) s0 m2 := by
      refine ⟨⟨sO, ?_, ?_, ?_, ?_⟩, ⟨Nat.zero_le _, Nat.le_refl _⟩, fun b _ h1 h2 => (by rw [h1] at h2; cases h2), fun _ q => absurd q (by decide)⟩
      · rw [← e2, setRw_ne (by omega)]; exact v3
      · rw [← e2, setRw_ne (by omega)]; exact v4
      · rw [← e2, setRw_ne (by omega)]; exact v5
      · rw [← e2, setRw_ne (by omega)]; exact v6
    obtain ⟨m3, a1, a2, a3⟩ := (searchC (n := n) (nb := nb) (set := set) (al := al) (Bd := Bd) (ml := ml) hnb 1 hn 8 (Nat.le_refl _)).1 O set (fun _ => 0) s0 m2 h0 hLV hCR (BdI_c hBd f2)
    rw [show (10 : Nat) = 8 + 1 + 1 from rfl, show (0 : Int32) = nI (8 - 8) from rfl, a1, bnd_s]
    exact ⟨m3, rfl, ⟨a2.1.2.2.1, a2.1.2.2.2.1, a2.1.2.2.2.2⟩, a2.2.1, a2.2.2.2, f2.tr a3⟩
  · rw [if_neg (by rw [nI_eq (by omega) (ct_lt31 (by omega))]; exact c), if_neg c]
    exact ⟨m1, rfl, ⟨v4, v5, v6⟩, ⟨Nat.zero_le _, Nat.le_refl _⟩, fun _ q => absurd q (by decide), f1⟩
end LKC
