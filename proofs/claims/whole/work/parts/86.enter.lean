/-! ===== claim ===== -/
section ENT
variable {n e : Nat} {mi : IM} {ml : JM} {x1 x2 x3 x4 : Int32}
theorem acp_K {sa da a1 a2 : Nat} (h1 : La.2.1 sa = (100, a1)) (h2 : La.2.1 da = (100, a2)) (h3 : 8 ≤ a1) (h4 : 8 ≤ a2) : acp sa 0 da 0 8 (K mi ml) = some (K (fun b j => if b = da ∧ j < 8 then mi sa j else mi b j) ml) := by
  unfold acp
  have z0 : (0 : Int32).toNatClampNeg = 0 := rfl
  have z8 : (8 : Int32).toNatClampNeg = 8 := rfl
  rw [if_pos]
  · rw [z0, z8]
    show some (La, _, ml) = some (La, _, ml)
    congr 3
    funext b j
    show (if b = da then va_cpy (mi sa) (mi da) 0 0 8 j else mi b j) = _
    unfold va_cpy
    by_cases c : b = da
    · subst c
      rw [if_pos rfl]
      by_cases d : j < 8
      · rw [if_pos ⟨by omega, by omega⟩, if_pos ⟨rfl, d⟩]; congr 1; omega
      · rw [if_neg (by omega), if_neg (by omega)]
    · rw [if_neg c, if_neg (fun q => c q.1)]
  · rw [z0, z8]
    show (((La.2.1 sa).1 = 100 ∧ (La.2.1 da).1 = 100) ∧ _) ∧ 0 + 8 ≤ (La.2.1 sa).2 ∧ 0 + 8 ≤ (La.2.1 da).2
    rw [h1, h2]
    exact ⟨⟨⟨rfl, rfl⟩, by decide, by decide, by decide⟩, by show 0 + 8 ≤ a1; omega, by show 0 + 8 ≤ a2; omega⟩
theorem enterC (he : e < 60) (h0 : mi 154 0 = nI e) : ∃ mi', f_Book_enterClaim n 154 x1 x2 x3 x4 129 (K mi ml) = some (nI e, K mi' ml) ∧ (mi' 156 e = x1 ∧ mi' 157 e = x2 ∧ mi' 158 e = x3 ∧ mi' 155 e = x4 ∧ mi' 220 e = -1 ∧ mi' 154 0 = nI (e + 1)) ∧ (∀ b, b < 8 → mi' (160 + e) b = mi 131 b) ∧ ∀ c j, ¬ (((155 ≤ c ∧ c ≤ 158) ∨ c = 220) ∧ j = e) → c ≠ 160 + e → ¬ (c = 154 ∧ j = 0) → mi' c j = mi c j := by
  unfold f_Book_enterClaim f_Table_copyCodes
  rw [o_154, rf_154_2, bnd_s, g_154, bnd_s, h0, s_156 he, bnd_s, nrw100]
  generalize e1 : upd2 mi 156 e x1 = m1
  have q1 : m1 154 0 = nI e := by rw [← e1, upd2_ne (by omega)]; exact h0
  rw [rf_154_3, bnd_s, g_154, bnd_s, q1, s_157 he, bnd_s, nrw100]
  generalize e2 : upd2 m1 157 e x2 = m2
  have q2 : m2 154 0 = nI e := by rw [← e2, upd2_ne (by omega)]; exact q1
  rw [rf_154_4, bnd_s, g_154, bnd_s, q2, s_158 he, bnd_s, nrw100]
  generalize e3 : upd2 m2 158 e x3 = m3
  have q3 : m3 154 0 = nI e := by rw [← e3, upd2_ne (by omega)]; exact q2
  rw [rf_154_1, bnd_s, g_154, bnd_s, q3, s_155 he, bnd_s, nrw100]
  generalize e4 : upd2 m3 155 e x4 = m4
  have q4 : m4 154 0 = nI e := by rw [← e4, upd2_ne (by omega)]; exact q3
  rw [rf_154_6, bnd_s, g_154, bnd_s, q4, s_220 he, bnd_s, nrw100]
  generalize e5 : upd2 m4 220 e (-1) = m5
  have q5 : m5 154 0 = nI e := by rw [← e5, upd2_ne (by omega)]; exact q4
  rw [rf_154_5, bnd_s, g_154, bnd_s, q5, lc_r he, bnd_s, o_129, rf_129_1, bnd_s, aN_K (ds_lc he) (by decide), bnd_s, show imin (nI 8) 8 = 8 from rfl, acp_K ds_131 (ds_lc he) (by omega) (by omega), bnd_s, bnd_s, g_154, bnd_s, if_neg (by omega), q5, nI_1, p_154, bnd_s, g_154, bnd_s, u2, if_pos ⟨rfl, rfl⟩, is1 (n := 1) (by omega), Nat.add_sub_cancel]
  have v : ∀ c j, m5 c j = if c = 220 ∧ j = e then -1 else if c = 155 ∧ j = e then x4 else if c = 158 ∧ j = e then x3 else if c = 157 ∧ j = e then x2 else if c = 156 ∧ j = e then x1 else mi c j := fun c j => by
    rw [← e5, u2, ← e4, u2, ← e3, u2, ← e2, u2, ← e1, u2]
  refine ⟨_, rfl, ⟨?_, ?_, ?_, ?_, ?_, ?_⟩, fun b hb => ?_, fun c j g1 g2 g3 => ?_⟩
  · rw [upd2_ne (by omega), if_neg (by omega), v, if_neg (by omega), if_neg (by omega), if_neg (by omega), if_neg (by omega), if_pos ⟨rfl, rfl⟩]
  · rw [upd2_ne (by omega), if_neg (by omega), v, if_neg (by omega), if_neg (by omega), if_neg (by omega), if_pos ⟨rfl, rfl⟩]
  · rw [upd2_ne (by omega), if_neg (by omega), v, if_neg (by omega), if_neg (by omega), if_pos ⟨rfl, rfl⟩]
  · rw [upd2_ne (by omega), if_neg (by omega), v, if_neg (by omega), if_pos ⟨rfl, rfl⟩]
  · rw [upd2_ne (by omega), if_neg (by omega), v, if_pos ⟨rfl, rfl⟩]
  · rw [u2, if_pos ⟨rfl, rfl⟩]
  · rw [upd2_ne (by omega), if_pos ⟨rfl, hb⟩, v, if_neg (by omega), if_neg (by omega), if_neg (by omega), if_neg (by omega), if_neg (by omega)]
  · rw [u2, if_neg g3, if_neg (fun q => g2 q.1), v, if_neg (by omega), if_neg (by omega), if_neg (by omega), if_neg (by omega), if_neg (by omega)]
theorem shown_loop {k9 : Nat → MM → Option (Int32 × MM)} (he : e < 60) (h0 : mi 559 73 = nI e) (h01 : ∀ t, t < 2048 → mi 603 t &&& 1 = mi 603 t) : ∀ m t s, t ≤ 2048 → 2048 - t < m → (∀ j, j < t → s 609 (2048 * e + j) = mi 603 j) → (∀ c j, ¬ (c = 609 ∧ 2048 * e ≤ j ∧ j < 2048 * e + 2048) → s c j = mi c j) → ∃ mi', f_Mo_claim_84 n k9 m 559 (nI t) (K s ml) = k9 559 (K mi' ml) ∧ (∀ j, j < 2048 → mi' 609 (2048 * e + j) = mi 603 j) ∧ ∀ c j, ¬ (c = 609 ∧ 2048 * e ≤ j ∧ j < 2048 * e + 2048) → mi' c j = mi c j := by
  intro m
  induction m with
  | zero => intro t s h1 h2; omega
  | succ m ih =>
    intro t s h1 h2 h3 h4
    rw [f_Mo_claim_84]
    by_cases c : t = 2048
    · subst c; rw [if_pos (by decide)]; exact ⟨s, rfl, h3, h4⟩
    · rw [if_neg (by rw [il1 (n := 2048) (by omega) (by omega)]; omega), rf_559_79, bnd_s, g_559, bnd_s, h4 559 73 (by omega), h0, rf_559_72, bnd_s, a_603 (by omega), bnd_s, h4 603 t (by omega), im2 (n := 2048), ia3, s_609 (by omega), bnd_s, nI_1, nrw102, h01 t (by omega)]
      refine ih (t + 1) _ (by omega) (by omega) (fun j hj => ?_) (fun c j hc => by rw [u2, if_neg (by omega)]; exact h4 c j hc)
      rw [u2]
      by_cases d : j = t
      · rw [if_pos ⟨rfl, by rw [d]⟩, d]
      · rw [if_neg (by omega)]; exact h3 j (by omega)
end ENT
theorem jdV_c {mi m1 : IM} {s : Nat} {O : Nat → Bool} (h1 : ∀ b, b < 8 → lds m1 b = lds mi b) (h2 : ∀ b, b < 8 → laS m1 b = laS mi b) : jdV m1 s O = jdV mi s O := by
  unfold jdV
  rw [fnd_ext (Q := fun b => lds mi b && !s.testBit b) fun j _ hj => by rw [h1 j (by omega)], fnd_ext (P := fun b => !lds m1 b && s.testBit b) (Q := fun b => !lds mi b && s.testBit b) fun j _ hj => by rw [h1 j (by omega)], (un_cu h2).1, (un_cu h2).2]
theorem sq_claim {x1 x2 x3 : Int32} : SQ Inv (f_Q_claim NF 0 x1 x2 x3) (f_Mo_claim NF 559 x1 x2 x3) := by
  rintro M ⟨mi, ml, rfl, l, nb, no, Bd, Ou, hI⟩
  obtain ⟨e, k1, k2, k3, k4⟩ := hI.2.2.2.2.2.1
  have hB := hI.2.2.1
  have hnb : nb ≤ 8 := hB.1.2.1
  have hL := hI.2.2.2.2.1
  have stay : ∀ r, f_Q_claim NF 0 x1 x2 x3 (K mi ml) = some (r, K mi ml) → f_Mo_claim NF 559 x1 x2 x3 (K mi ml) = some (r, K mi ml) → ∃ (r : Int32) (M1 M2 : MM), f_Q_claim NF 0 x1 x2 x3 (K mi ml) = some (r, M1) ∧ f_Mo_claim NF 559 x1 x2 x3 M1 = some (r, M2) ∧ Inv M2 := fun r e1 e2 => ⟨r, K mi ml, K mi ml, e1, e2, mi, ml, rfl, l, nb, no, Bd, Ou, hI⟩
  have Q : ∀ o, f_Q_formOf NF 0 1 x2 (K mi ml) = some (o, K mi ml) → f_Q_claim NF 0 x1 x2 x3 (K mi ml) = (if e < 60 then (f_Q_isPlayer NF x1 (K mi ml)).bind fun p5 => if p5.1 = 0 then some ((-1), p5.2) else ob o (some ((-1), p5.2)) fun r7 => (f_Q_isSet NF 0 x3 p5.2).bind fun p8 => if p8.1 = 0 then some ((-1), p8.2) else (gR 11 14 0 p8.2).bind fun v10 => (gR 4 0 r7 p8.2).bind fun v11 => (f_Table_judge NF v10 v11 x3 p8.2).bind fun p12 => (gR 11 15 0 p12.2).bind fun v13 => (gR 11 14 0 p12.2).bind fun v14 => (f_Book_enterClaim NF v13 x1 x2 x3 p12.1 v14 p12.2).bind fun p15 => some (p15.1, p15.2) else some (-1, K mi ml)) := by
    intro o ho
    unfold f_Q_claim f_Book_isFull
    rw [o_0, ho, bnd_s, rf_0_15, bnd_s, o_154, g_154, bnd_s, k2]
    by_cases c : e < 60
    · rw [if_pos (show nI e < 60 by rw [it2 (n := 60) (by omega) (by omega)]; exact c), if_pos c, bnd_s, if_pos rfl]
    · rw [if_neg (show ¬ nI e < 60 by rw [it2 (n := 60) (by omega) (by omega)]; exact c), if_neg c, bnd_s, if_neg n10]
  have Mm : ∀ m1, m1 559 73 = nI e → f_Mo_claim NF 559 x1 x2 x3 (K m1 ml) = (if e = 60 then some (-1, K m1 ml) else if x1 < 0 then some ((-1), K m1 ml) else if 5 < x1 then some ((-1), K m1 ml) else (f_Mo_isOutlineThere NF 559 x2 (K m1 ml)).bind fun p14 => if p14.1 = 0 then some ((-1), p14.2) else (f_Mo_isSet NF 559 x3 p14.2).bind fun p16 => if p16.1 = 0 then some ((-1), p16.2) else (gR 12 74 559 p16.2).bind fun v18 => (gI 12 73 559 p16.2).bind fun v19 => (sI 100 v18 v19 x1 p16.2).bind fun M20 => (gR 12 75 559 M20).bind fun v21 => (gI 12 73 559 M20).bind fun v22 => (sI 100 v21 v22 x2 M20).bind fun M23 => (gR 12 76 559 M23).bind fun v24 => (gI 12 73 559 M23).bind fun v25 => (sI 100 v24 v25 x3 M23).bind fun M26 => (gR 12 77 559 M26).bind fun v27 => (gI 12 73 559 M26).bind fun v28 => (f_Mo_judge NF 559 x2 x3 M26).bind fun p29 => (sI 100 v27 v28 p29.1 p29.2).bind fun M30 => f_Mo_claim_84 NF (f_Mo_claim_121 NF) NF 559 0 M30) := by
    intro m1 q
    unfold f_Mo_claim
    rw [o_559, g_559, bnd_s, q]
    by_cases c : e = 60
    · rw [if_pos (show nI e = 60 by rw [c]; rfl), if_pos c]
    · rw [if_neg (show ¬ nI e = 60 by rw [ie1 (n := 60) (by omega) (by omega)]; exact c), if_neg c]
  have hfo : ∃ o, f_Q_formOf NF 0 1 x2 (K mi ml) = some (o, K mi ml) := by
    rcases form_of (n := NF) (ml := ml) (x1 := 1) (x2 := x2) (Or.inr rfl) hB with ⟨e1, _⟩ | ⟨a, _, _, _, _, _, _, _, e4, _⟩
    · exact ⟨_, e1⟩
    · exact ⟨_, e4⟩
  by_cases c : e = 60
  · obtain ⟨o, ho⟩ := hfo
    exact stay (-1) (by rw [Q o ho, if_neg (by omega)]) (by rw [Mm mi k3, if_pos c])
  · rcases player_c x1 NF with ⟨q, q2⟩ | ⟨w, w1, w2, w3, w4, w5⟩
    · obtain ⟨o, ho⟩ := hfo
      refine stay (-1) (by rw [Q o ho, if_pos (by omega), q, bnd_s, if_pos rfl]) ?_
      rw [Mm mi k3, if_neg c]
      rcases q2 with d | ⟨d1, d2⟩
      · rw [if_pos d]
      · rw [if_neg d1, if_pos d2]
    · rcases form_of (n := NF) (ml := ml) (x1 := 1) (x2 := x2) (Or.inr rfl) hB with ⟨e1, e2, e3⟩ | ⟨a, p, k, S, e0, e1, e2, e3, e4, e5, e7, e6⟩
      · refine stay (-1) (by rw [Q none e1, if_pos (by omega), w3, bnd_s, if_neg n10]; rfl) ?_
        rw [Mm mi k3, if_neg c, if_neg w4, if_neg w5, there_n hB e3, bnd_s, if_pos rfl]
      · rcases e7 with ⟨q, _⟩ | ⟨_, hk, ea, ep, eS⟩
        · exact absurd q (by decide)
        · subst e0
          have Q2 : f_Q_claim NF 0 x1 (nI k) x3 (K mi ml) = ((f_Q_isSet NF 0 x3 (K mi ml)).bind fun p8 => if p8.1 = 0 then some ((-1), p8.2) else (gR 11 14 0 p8.2).bind fun v10 => (gR 4 0 a p8.2).bind fun v11 => (f_Table_judge NF v10 v11 x3 p8.2).bind fun p12 => (gR 11 15 0 p12.2).bind fun v13 => (gR 11 14 0 p12.2).bind fun v14 => (f_Book_enterClaim NF v13 x1 (nI k) x3 p12.1 v14 p12.2).bind fun p15 => some (p15.1, p15.2)) := by
            rw [Q (some a) e4, if_pos (by omega), w3, bnd_s, if_neg n10]; rfl
          rcases set_c (l := l) (no := no) (n := NF) (Bd := Bd) (Ou := Ou) (ml := ml) x3 hnb with g | ⟨s, s1, s2, s3, s4⟩
          · refine stay (-1) (by rw [Q2, (g mi hB).1, bnd_s, if_pos rfl]) ?_
            rw [Mm mi k3, if_neg c, if_neg w4, if_neg w5, there_y hB hk, bnd_s, if_neg n10, (g mi hB).2, bnd_s, if_pos rfl]
          · have hs : s < 256 := by have := p_nb hnb; omega
            obtain ⟨m1, a1, a2⟩ := judgeC (n := NF) (mi := mi) (ml := ml) (told_sh e1) (by omega) hs (by decide)
            have kp1 := a2.kp hI.1
            have hI1 := IV_keep hI kp1
            obtain ⟨m2, b1, ⟨b2, b3, b4, b5, b6, b7⟩, b8, b9⟩ := enterC (n := NF) (e := e) (mi := m1) (ml := ml) (x1 := x1) (x2 := nI k) (x3 := x3) (x4 := jdV mi s (svS mi (a + 1))) (by omega) (by rw [kp1.2 154 0 (by unfold St DK; omega)]; exact k2)
            have f2 : ∀ c j, ¬ DK c j → m2 c j = m1 c j := fun c j hd => b9 c j (by unfold DK at hd; omega) (by unfold DK at hd; omega) (by unfold DK at hd; omega)
            have g73 : m2 559 73 = nI e := by rw [b9 559 73 (by omega) (by omega) (by omega), kp1.2 559 73 (by unfold St DK; omega)]; exact k3
            have hB2 : IvB l nb no Bd Ou m2 := IvB_c (fun c j q => f2 c j (by unfold DB at q; unfold DK; omega)) hI1.2.2.1
            have hL2 : IvL nb Bd m2 := IvL_c (fun c j q => f2 c j (by unfold DL at q; unfold DK; omega)) hI1.2.2.2.2.1
            have hla : ∀ b, b < 8 → laS m2 b = laS mi b := fun b hb => by
              rw [← a2.la b hb]
              exact sv_of (by funext j; exact f2 _ j (by unfold DK; omega))
            have hld : ∀ b, b < 8 → lds m2 b = lds mi b := fun b hb => by
              unfold lds
              rw [f2 131 b (by unfold DK; omega), a2 131 (by omega) (by omega) (by omega) (by omega)]
            have hOk : svS mi (a + 1) = S := e5.2.2.2.1.1
            -- the reference's writes
            generalize r1 : upd2 (upd2 (upd2 m2 604 e x1) 605 e (nI k)) 606 e x3 = m3
            have f3 : ∀ c j, ¬ (604 ≤ c ∧ c ≤ 606) → m3 c j = m2 c j := fun c j q => by rw [← r1, upd2_ne (by omega), upd2_ne (by omega), upd2_ne (by omega)]
            have hB3 : IvB l nb no Bd Ou m3 := IvB_c (fun c j q => f3 c j (by unfold DB at q; omega)) hB2
            have hL3 : IvL nb Bd m3 := IvL_c (fun c j q => f3 c j (by unfold DL at q; omega)) hL2
            have hj3 : jdV m3 s (pS m3 p) = jdV mi s (svS mi (a + 1)) := by
              rw [(e6 m3 hB3).2.2.2.1, hOk]
              refine jdV_c (fun b hb => ?_) (fun b hb => ?_)
              · rw [← hld b hb]; unfold lds; rw [f3 131 b (by omega)]
              · rw [← hla b hb]; exact sv_of (by funext j; exact f3 _ j (by omega))
            generalize hv : jdV mi s (svS mi (a + 1)) = v at *
            generalize r4 : upd2 m3 607 e v = m4
            have f4 : ∀ c j, ¬ (604 ≤ c ∧ c ≤ 607) → m4 c j = m2 c j := fun c j q => by rw [← r4, upd2_ne (by omega)]; exact f3 c j (by omega)
            have h603 : ∀ t, t < 2048 → m4 603 t &&& 1 = m4 603 t := fun t ht => by
              rw [f4 603 t (by omega)]
              have := (hL2 (t / 256) (by omega)).2.1 (t % 256) (by omega)
              rw [show 256 * (t / 256) + t % 256 = t by omega] at this
              rw [this, b2i_1]
            obtain ⟨m5, c1, c2, c3⟩ := shown_loop (n := NF) (mi := m4) (ml := ml) (e := e) (k9 := f_Mo_claim_121 NF) (by omega) (by rw [f4 559 73 (by omega)]; exact g73) h603 NF 0 m4 (by omega) (by decide) (fun j hj => by omega) (fun _ _ _ => rfl)
            refine ⟨nI e, K m2 ml, K (upd2 m5 559 73 (nI (e + 1))) ml, ?_, ?_, _, ml, rfl, l, nb, no, Bd, Ou, ?_⟩
            · rw [Q2, (s4 mi hB).1, bnd_s, if_neg n10, rf_0_14, bnd_s, fo_0 e1, bnd_s, s3, a1, bnd_s, rf_0_15, bnd_s, rf_0_14, bnd_s, ← s3, b1, bnd_s]
            · rw [Mm m2 g73, if_neg c, if_neg w4, if_neg w5, there_y hB2 hk, bnd_s, if_neg n10, (s4 m2 hB2).2, bnd_s, if_neg n10, rf_559_74, bnd_s, g_559, bnd_s, g73, s_604 (by omega), bnd_s, rf_559_75, bnd_s, g_559, bnd_s, upd2_ne (by omega), g73, s_605 (by omega), bnd_s, rf_559_76, bnd_s, g_559, bnd_s, upd2_ne (by omega), upd2_ne (by omega), g73, s_606 (by omega), bnd_s, nrw100, nrw100, nrw100, r1, rf_559_77, bnd_s, g_559, bnd_s, f3 559 73 (by omega), g73]
              unfold f_Mo_judge
              rw [o_559, g_559, bnd_s, hB3.2.1.1, im2 (n := 6), ia2 (n := 16), ia3, nm_t, ← ep, s3, judgeM hL3 hs (by omega) (by decide), bnd_s, hj3, s_607 (by omega), bnd_s, nrw100, r4, show (0 : Int32) = nI 0 from rfl, c1]
              unfold f_Mo_claim_121
              rw [g_559, bnd_s, c3 559 73 (by omega), f4 559 73 (by omega), g73, nI_1, p_559, bnd_s, g_559, bnd_s, u2, if_pos ⟨rfl, rfl⟩, is1 (n := 1) (by omega), Nat.add_sub_cancel]
            · generalize r6 : upd2 m5 559 73 (nI (e + 1)) = m6
              have f6 : ∀ c j, ¬ (604 ≤ c ∧ c ≤ 607 ∧ j = e) → ¬ (c = 609 ∧ 2048 * e ≤ j ∧ j < 2048 * e + 2048) → ¬ (c = 559 ∧ j = 73) → m6 c j = m2 c j := fun c j q1 q2 q3 => by
                rw [← r6, u2, if_neg q3, c3 c j q2, ← r4, u2, if_neg (by omega), ← r1, u2, if_neg (by omega), u2, if_neg (by omega), u2, if_neg (by omega)]
              have v6 : ∀ c j, ¬ c = 609 → ¬ (c = 559 ∧ j = 73) → m6 c j = m4 c j := fun c j q1 q2 => by rw [← r6, u2, if_neg q2, c3 c j (by omega)]
              refine IV_book hI1 (fun j => by rw [f6 567 j (by omega) (by omega) (by omega), f2 567 j (by unfold DK; omega)]; exact hI1.1 j) ⟨e + 1, by omega, ?_, ?_, fun j hj => ?_⟩ (fun c j _ hd => ?_)
              · rw [f6 154 0 (by omega) (by omega) (by omega)]; exact b7
              · rw [← r6, u2, if_pos ⟨rfl, rfl⟩]
              · by_cases g : j = e
                · subst g
                  refine Or.inl ⟨?_, ⟨w, w1, ?_, ?_⟩, ?_, ?_, ?_, fun b hb => ⟨svS m2 (138 + 2 * b), ?_, fun t ht => ?_⟩⟩
                  · rw [f6 220 j (by omega) (by omega) (by omega)]; exact b6
                  · rw [f6 156 j (by omega) (by omega) (by omega), b2, w2]
                  · rw [v6 604 j (by omega) (by omega), ← r4, upd2_ne (by omega), ← r1, upd2_ne (by omega), upd2_ne (by omega), u2, if_pos ⟨rfl, rfl⟩, w2]
                  · rw [f6 157 j (by omega) (by omega) (by omega), b3, v6 605 j (by omega) (by omega), ← r4, upd2_ne (by omega), ← r1, upd2_ne (by omega), u2, if_pos ⟨rfl, rfl⟩]
                  · rw [f6 158 j (by omega) (by omega) (by omega), b4, v6 606 j (by omega) (by omega), ← r4, upd2_ne (by omega), ← r1, u2, if_pos ⟨rfl, rfl⟩]
                  · rw [f6 155 j (by omega) (by omega) (by omega), b5, v6 607 j (by omega) (by omega), ← r4, u2, if_pos ⟨rfl, rfl⟩]
                  · rw [f6 (160 + j) b (by omega) (by omega) (by omega), b8 b hb, ← f2 131 b (by unfold DK; omega)]
                    exact (hL2 b hb).1
                  · have := c2 (256 * b + t) (by omega)
                    rw [← r6, upd2_ne (by omega), Nat.add_assoc, this, f4 603 _ (by omega)]
                    exact (hL2 b hb).2.1 t ht
                · refine BkE_c (by omega) (fun c t q1 q2 => ?_) (k4 j (by omega))
                  rw [f6 c t (by omega) (by omega) (by omega), b9 c t (by omega) (by omega) (by omega), kp1.2 c t (by unfold St DK; omega)]
              · unfold DK at hd
                rw [f6 c j (by omega) (by omega) (by omega), f2 c j (by unfold DK; omega)]
