/-! ===== the class's Builder: parts and sums ===== -/
def BSt (T : Nat → Nat) (z c : Nat) (N : List Nat) (E : List Sh) (wo t : Nat) (mi : IM) (ml : JM) : Prop := (LexC T z c mi ml ∧ mi 4 4 = nI z ∧ mi 4 5 = 0) ∧ (mi 12 10 = nI t ∧ mi 12 8 = nI wo ∧ mi 12 2 = nI N.length ∧ N.length ≤ 14 ∧ E.length = N.length) ∧ ∀ j, j < N.length → svS mi (21 + 2 * j) = E.getD j E0
def BF (b wo : Nat) (mi mi' : IM) : Prop := ∀ a j, ¬ (a = 4 ∧ (j = 5 ∨ j = 6)) → ¬ (a = 12 ∧ (j = 8 ∨ j = 10)) → a ≠ 19 → ¬ (a = 20 ∧ wo ≤ j) → ¬ (b ≤ a ∧ a ≤ 76) → mi' a j = mi a j
theorem BF.rf {b wo : Nat} {x : IM} : BF b wo x x := fun _ _ _ _ _ _ _ => rfl
theorem BF.tr {b wo : Nat} {x y w : IM} (h : BF b wo x y) (h2 : BF b wo y w) : BF b wo x w := fun a j q1 q2 q3 q4 q5 => by rw [h2 a j q1 q2 q3 q4 q5, h a j q1 q2 q3 q4 q5]
theorem BF.mo {b b' wo wo' : Nat} {x y : IM} (h : BF b' wo' x y) (hb : b ≤ b') (hw : wo ≤ wo') : BF b wo x y := fun a j q1 q2 q3 q4 q5 => h a j q1 q2 q3 (by omega) (by omega)
def FltO (T : Nat → Nat) (z c : Nat) (E : List Sh) (L t : Nat) (s : SyS) (mi' : IM) : Prop := ∃ t' s' P pl, (t < t' ∧ t' ≤ c ∧ Au (kd T z) t' = some s' ∧ s'.1 ≠ 0 ∧ s'.2.2.2 = s.2.2.2) ∧ (XT T z t').2.1 = (XT T z t).2.1 ++ P ∧ (∀ p, p.length ≤ L → rn E P p = some (.inl pl)) ∧ mi' 4 5 = nI 6 ∧ mi' 4 6 = nI pl
def SumO (T : Nat → Nat) (z c : Nat) (E : List Sh) (L t : Nat) (s : SyS) (wo : Nat) (mi mi' : IM) : Prop := ∃ t' s' P S, (t < t' ∧ t' ≤ c ∧ Au (kd T z) t' = some s' ∧ s'.1 = 7 ∧ s'.2.2 = s.2.2 ∧ kd T z t' ≠ 43 ∧ kd T z t' ≠ 45 ∧ kd T z t' ≠ 38) ∧ XT T z t' = ((XT T z t).1, (XT T z t).2.1 ++ P, (XT T z t).2.2) ∧ Pt E L P (.inr S) ∧ mi' 4 = mi 4 ∧ mi' 12 10 = nI t' ∧ mi' 12 8 = nI wo ∧ svS mi' (49 + 4 * L) = S
def PartO (T : Nat → Nat) (z c : Nat) (E : List Sh) (L t : Nat) (s : SyS) (wo : Nat) (mi mi' : IM) : Prop := ∃ t' s' P S, (t < t' ∧ t' ≤ c ∧ Au (kd T z) t' = some s' ∧ s'.1 = 7 ∧ s'.2.2 = s.2.2) ∧ XT T z t' = ((cO (XT T z t).1 ((XT T z t).2.1 ++ P)).1, (cO (XT T z t).1 ((XT T z t).2.1 ++ P)).2, (XT T z t).2.2) ∧ Pt E (L + 1) P (.inr S) ∧ mi' 4 = mi 4 ∧ mi' 12 10 = nI t' ∧ mi' 12 8 = nI wo ∧ svS mi' (51 + 4 * L) = S
def WP (wo : Nat) : List Nat → IM → Prop
  | [], _ => True
  | q :: ps, mi => mi 20 (wo + ps.length) = nI q ∧ WP wo ps mi
theorem WP_c {wo : Nat} : ∀ {ps : List Nat} {mi mi' : IM}, (∀ j, j < wo + ps.length → mi' 20 j = mi 20 j) → WP wo ps mi → WP wo ps mi'
  | [], _, _, _, _ => trivial
  | q :: ps, mi, mi', h, hw => ⟨by rw [h _ (by rw [List.length_cons]; omega)]; exact hw.1, WP_c (fun j hj => h j (by rw [List.length_cons]; omega)) hw.2⟩
def gdW (T : Nat → Nat) (z c q : Nat) : Prop := q < c ∧ (12 ≤ kd T z q ∧ kd T z q ≤ 15) ∧ (kd T z q = 15 → ((-7 ≤ nv (kd T z) (vT T z) (q + 1) ∧ nv (kd T z) (vT T z) (q + 1) ≤ 7) ∧ (-7 ≤ nv (kd T z) (vT T z) (bh (kd T z) (q + 1)) ∧ nv (kd T z) (vT T z) (bh (kd T z) (q + 1)) ≤ 7) ∧ q + 1 < bh (kd T z) (q + 1) ∧ bh (kd T z) (q + 1) < c ∧ (kd T z (q + 1) = 45 → kd T z (q + 1 + 1) = 3) ∧ (kd T z (q + 1) = 45 ∨ kd T z (q + 1) = 3) ∧ (kd T z (bh (kd T z) (q + 1)) = 45 → kd T z (bh (kd T z) (q + 1) + 1) = 3) ∧ (kd T z (bh (kd T z) (q + 1)) = 45 ∨ kd T z (bh (kd T z) (q + 1)) = 3)) ∧ (kd T z (bh (kd T z) (q + 1)) = 45 → bh (kd T z) (q + 1) + 1 < c))
section PRT
variable {n z c t wo L : Nat} {mi : IM} {ml : JM} {T : Nat → Nat} {N : List Nat} {E : List Sh} {s : SyS} {r : Nat → Int32 → MM → Option MM}
theorem BSt_c {mi' : IM} {b wo' t' wf : Nat} (h : BSt T z c N E wo t mi ml) (hf : BF b wf mi mi') (hb : 49 ≤ b) (h5 : mi' 4 5 = mi 4 5) (h10 : mi' 12 10 = nI t') (h8 : mi' 12 8 = nI wo') : BSt T z c N E wo' t' mi' ml := by
  obtain ⟨⟨h1, h2, h3⟩, ⟨h4, h4', h6, h6'⟩, h7⟩ := h
  refine ⟨⟨LexC_c h1 (hf _ _ (by omega) (by omega) (by omega) (by omega) (by omega)) (by funext j; exact hf _ _ (by omega) (by omega) (by omega) (by omega) (by omega)) (by funext j; exact hf _ _ (by omega) (by omega) (by omega) (by omega) (by omega)), by rw [hf _ _ (by omega) (by omega) (by omega) (by omega) (by omega)]; exact h2, by rw [h5]; exact h3⟩, ⟨h10, h8, by rw [hf _ _ (by omega) (by omega) (by omega) (by omega) (by omega)]; exact h6, h6'⟩, fun j hj => ?_⟩
  rw [← h7 j hj]
  have h6l := h6'.1
  unfold svS
  rw [show mi' (21 + 2 * j + 1) = mi (21 + 2 * j + 1) by funext i; exact hf _ _ (by omega) (by omega) (by omega) (by omega) (by omega)]
/-- the words before a unit -/
theorem wordsIn {x2 : Int32} {k9 : Nat → Int32 → Int32 → MM → Option MM} (hc : c ≤ 400) (hAL : AL (kd T z) c) (hm : ∀ j, j < c → mf (kd T z) (vT T z) (uT T z) j = 0) : ∀ m t s ps mi, BSt T z c N E (wo + ps.length) t mi ml → Au (kd T z) t = some s → s.1 = 3 → t ≤ c → wo + ps.length ≤ t → WP wo ps mi → (∀ q, q ∈ ps → gdW T z c q) → c - t < m → ∃ mi' t' s' qs, f_Builder_makePart_7 n r k9 m 12 (nI L) x2 (nI ps.length) (K mi ml) = k9 12 (nI L) x2 (K mi' ml) ∧ (t ≤ t' ∧ t' < c ∧ Au (kd T z) t' = some s' ∧ s'.1 = 3 ∧ s'.2.2 = s.2.2) ∧ ¬ (12 ≤ kd T z t' ∧ kd T z t' ≤ 15) ∧ BSt T z c N E (wo + (qs ++ ps).length) t' mi' ml ∧ wo + (qs ++ ps).length ≤ t' ∧ XT T z t' = (qs.map (wt (kd T z) (vT T z) (tP T z)) ++ (XT T z t).1, (XT T z t).2) ∧ WP wo (qs ++ ps) mi' ∧ (∀ q, q ∈ qs ++ ps → gdW T z c q) ∧ BF 77 wo mi mi' ∧ mi' 4 = mi 4 := by
  intro m
  induction m with
  | zero => intro t s ps mi _ _ _ _ _ _ _ h; omega
  | succ m ih =>
    intro t s ps mi hB hA h3 ht hwo hW hg hm'
    obtain ⟨htc, _⟩ := AL_n hAL hA (by omega) ht
    have hb := kd62 (T := T) (z := z) (i := t)
    obtain ⟨⟨b1, b2, b3⟩, ⟨b4, b5, b6, b7⟩, b8⟩ := hB
    rw [f_Builder_makePart_7, if_neg (show ¬ (400 : Int32) ≤ nI ps.length by rw [il1 (n := 400) (by omega) (by omega)]; omega), rf_12_9, bnd_s, g_12, bnd_s, b4, kindA (by omega) (by omega) b1, bnd_s, if_pos (show t < c by omega)]
    unfold f_Builder_isWord
    by_cases d : 12 ≤ kd T z t ∧ kd T z t ≤ 15
    · obtain ⟨w1, w2, ⟨lf, w3⟩, w4, w5⟩ := word_S (v := vT T z) (u := uT T z) (p := tP T z) hAL hm hA h3 ht d
      rw [if_neg (show ¬ nI (kd T z t) < 12 by rw [it2 (n := 12) (by omega) (by omega)]; omega), if_neg (show ¬ 15 < nI (kd T z t) by rw [it1 (n := 15) (by omega) (by omega)]; omega), bnd_s, if_neg (show ¬ (1 : Int32) = 0 by decide), openW (by omega) b1 (by omega) d b4 b5 (by omega) (fun q => ⟨(w5 q).2.2.2.1, by have := (w5 q).2.2.1; have := (w5 q).2.2.2.1; omega⟩), bnd_s, nI_1]
      have f : ∀ a j, ¬ (a = 12 ∧ (j = 8 ∨ j = 10)) → ¬ (a = 20 ∧ j = wo + ps.length) → upd2 (upd2 (upd2 mi 20 (wo + ps.length) (nI t)) 12 8 (nI (wo + ps.length + 1))) 12 10 (nI (nxw (kd T z) t)) a j = mi a j := fun a j q1 q2 => by rw [u2, if_neg (by omega), u2, if_neg (by omega), u2, if_neg (by omega)]
      have f8 : upd2 (upd2 (upd2 mi 20 (wo + ps.length) (nI t)) 12 8 (nI (wo + ps.length + 1))) 12 10 (nI (nxw (kd T z) t)) 12 8 = nI (wo + ps.length + 1) := by rw [u2, if_neg (by omega), uE]
      have f10 : upd2 (upd2 (upd2 mi 20 (wo + ps.length) (nI t)) 12 8 (nI (wo + ps.length + 1))) 12 10 (nI (nxw (kd T z) t)) 12 10 = nI (nxw (kd T z) t) := uE
      have f20 : upd2 (upd2 (upd2 mi 20 (wo + ps.length) (nI t)) 12 8 (nI (wo + ps.length + 1))) 12 10 (nI (nxw (kd T z) t)) 20 (wo + ps.length) = nI t := by rw [u2, if_neg (by omega), u2, if_neg (by omega), uE]
      generalize upd2 (upd2 (upd2 mi 20 (wo + ps.length) (nI t)) 12 8 (nI (wo + ps.length + 1))) 12 10 (nI (nxw (kd T z) t)) = m1 at f f8 f10 f20
      have hF : BF 77 wo mi m1 := fun a j q1 q2 q3 q4 q5 => f a j (by omega) (by omega)
      have hB1 : BSt T z c N E (wo + (t :: ps).length) (nxw (kd T z) t) m1 ml := BSt_c ⟨⟨b1, b2, b3⟩, ⟨b4, b5, b6, b7⟩, b8⟩ hF (by omega) (f _ _ (by omega) (by omega)) f10 f8
      obtain ⟨mi', t', s', qs, e1, ⟨e2, e3, e4, e5, e6⟩, e7, e8, e9, e10, e11, e12, e13, e14⟩ := ih (nxw (kd T z) t) (3, lf, s.2.2) (t :: ps) m1 hB1 w3 rfl w2 (by rw [List.length_cons]; omega) ⟨f20, WP_c (fun j hj => f 20 j (by omega) (by omega)) hW⟩ (fun q hq => by
        rcases List.mem_cons.mp hq with rfl | hq
        · exact ⟨by omega, d, fun g => ⟨w5 g, fun g2 => by
            have := (w5 g).2.2.2.1
            have hnx : nxw (kd T z) q = bh (kd T z) (q + 1) + 2 := by unfold nxw; rw [if_pos g]; show bh (kd T z) (bh (kd T z) (q + 1)) = _; rw [show bh (kd T z) (bh (kd T z) (q + 1)) = bh (kd T z) (q + 1) + 2 from if_pos g2]
            omega⟩⟩
        · exact hg q hq) (by omega)
      refine ⟨mi', t', s', qs ++ [t], ?_, ⟨by omega, e3, e4, e5, e6⟩, e7, by rw [List.append_assoc]; exact e8, by rw [List.append_assoc]; exact e9, ?_, by rw [List.append_assoc]; exact e11, fun q hq => e12 q (by rw [List.append_assoc] at hq; exact hq), hF.tr e13, by rw [e14]; funext j; exact f _ _ (by omega) (by omega)⟩
      · exact e1
      · rw [e10, show XT T z (nxw (kd T z) t) = _ from w4, List.map_append, List.append_assoc]; rfl
    · have h0 : ∀ F G : Option MM, ((if nI (kd T z t) < 12 then some ((0 : Int32), K mi ml) else if 15 < nI (kd T z t) then some (0, K mi ml) else some (1, K mi ml)).bind fun p19 => if p19.1 = 0 then k9 12 (nI L) x2 p19.2 else (f_Builder_openWord n 12 p19.2).bind fun M21 => f_Builder_makePart_7 n r k9 m 12 (nI L) x2 (nI ps.length + 1) M21) = k9 12 (nI L) x2 (K mi ml) := fun _ _ => by
        by_cases g : kd T z t < 12
        · rw [if_pos (show nI (kd T z t) < 12 by rw [it2 (n := 12) (by omega) (by omega)]; exact g), bnd_s, if_pos (show (0 : Int32) = 0 from rfl)]
        · rw [if_neg (show ¬ nI (kd T z t) < 12 by rw [it2 (n := 12) (by omega) (by omega)]; exact g), if_pos (show 15 < nI (kd T z t) by rw [it1 (n := 15) (by omega) (by omega)]; omega), bnd_s, if_pos (show (0 : Int32) = 0 from rfl)]
      refine ⟨mi, t, s, [], h0 none none, ⟨Nat.le_refl _, by omega, hA, h3, rfl⟩, d, ⟨⟨b1, b2, b3⟩, ⟨b4, b5, b6, b7⟩, b8⟩, hwo, rfl, hW, hg, BF.rf, rfl⟩
theorem part53_F {m x : Nat} {x3 : Int32} (h5 : mi 4 5 = nI 6) : f_Builder_makePart_53 n r (m + 1) 12 (nI L) (nI x) x3 (K mi ml) = some (K (upd2 mi 12 8 (nI x)) ml) := by
  rw [f_Builder_makePart_53]
  by_cases d : x3 < nI x
  · rw [if_pos d, p_12, bnd_s]
  · rw [if_neg d, rf_12_9, bnd_s, g_4, bnd_s, h5, if_neg (show ¬ nI 6 = 0 by decide), p_12, bnd_s]
/-- the words behind a unit -/
theorem wordsOut (hn : 8 < n) (hc : c ≤ 400) (hL : L ≤ 6) : ∀ ps m mi, (LexC T z c mi ml ∧ mi 4 4 = nI z ∧ mi 4 5 = 0) → wo + ps.length ≤ 400 → WP wo ps mi → (∀ q, q ∈ ps → gdW T z c q) → ps.length + 1 < m → ∃ mi', f_Builder_makePart_53 n r m 12 (nI L) (nI wo) (iZ ((wo : Int) + ps.length - 1)) (K mi ml) = some (K mi' ml) ∧ (∀ a j, ¬ (a = 4 ∧ (j = 5 ∨ j = 6)) → ¬ (a = 12 ∧ j = 8) → a ≠ 19 → a ≠ 52 + 4 * L → mi' a j = mi a j) ∧ ((∃ S, wds (ps.map (fun q => wC (wt (kd T z) (vT T z) (tP T z) q))) (svS mi (51 + 4 * L)) = .inr S ∧ mi' 4 = mi 4 ∧ mi' 12 8 = nI wo ∧ svS mi' (51 + 4 * L) = S) ∨ ∃ pl, wds (ps.map (fun q => wC (wt (kd T z) (vT T z) (tP T z) q))) (svS mi (51 + 4 * L)) = .inl pl ∧ mi' 4 5 = nI 6 ∧ mi' 4 6 = nI pl) := by
  intro ps
  induction ps with
  | nil =>
    intro m mi hB hw _ _ hm
    obtain ⟨m', rfl⟩ : ∃ m', m = m' + 1 := ⟨m - 1, by omega⟩
    have hw : wo + 0 ≤ 400 := hw
    rw [f_Builder_makePart_53, if_pos (by rw [iZ_nat wo]; show iZ ((wo : Int) + (0 : Nat) - 1) < iZ wo; rw [iZ_lt (by omega) (by omega) (by omega) (by omega)]; omega), p_12, bnd_s]
    refine ⟨_, rfl, fun a j q1 q2 q3 q4 => by rw [u2, if_neg (by omega)], Or.inl ⟨_, rfl, by funext j; rw [u2, if_neg (by omega)], by rw [uE], ?_⟩⟩
    unfold svS; rw [upd2_ne (by omega)]
  | cons q ps ih =>
    intro m mi hB hw hW hg hm
    obtain ⟨m', rfl⟩ : ∃ m', m = m' + 1 := ⟨m - 1, by omega⟩
    rw [List.length_cons] at hw hm
    obtain ⟨g1, g2, g3⟩ := hg q List.mem_cons_self
    have hsh := sh_ok (sh_s L (by omega)).2
    rw [f_Builder_makePart_53, show iZ ((wo : Int) + ((q :: ps).length : Nat) - 1) = nI (wo + ps.length) by rw [iZ_nat, List.length_cons]; congr 1; omega, if_neg (show ¬ nI (wo + ps.length) < nI wo by rw [nI_ltI (by omega) (by omega)]; omega), rf_12_9, bnd_s, g_4, bnd_s, hB.2.2, if_pos (show (0 : Int32) = 0 from rfl), rf_12_7, bnd_s, a_20 (by omega), bnd_s, hW.1, rf_12_5, bnd_s, aR_17 (by omega), bnd_s]
    obtain ⟨m1, e1, e2, e3⟩ := doW (n := n) (by omega) hn hB.1 hB.2.1 g1 g2 hsh (by omega) (fun d => (g3 d).1) (fun d => (g3 d).2)
    rw [e1, bnd_s]
    have e20 : ∀ j, m1 20 j = mi 20 j := fun j => e2 _ _ (by omega) (by omega) (by omega)
    have ex : nI (wo + ps.length) + (-1) = iZ ((wo : Int) + ps.length - 1) := by rw [show (-1 : Int32) = iZ (-1) from rfl, iZ_na]; congr 1
    rw [List.map_cons, wds]
    rcases e3 with ⟨S, x1, x2, x3⟩ | ⟨pl, x1, x2, x3⟩
    · have hB1 : LexC T z c m1 ml ∧ m1 4 4 = nI z ∧ m1 4 5 = 0 := ⟨LexC_c hB.1 (by rw [x2]) (by funext j; exact e2 _ _ (by omega) (by omega) (by omega)) (by funext j; exact e2 _ _ (by omega) (by omega) (by omega)), by rw [x2]; exact hB.2.1, by rw [x2]; exact hB.2.2⟩
      obtain ⟨m2, f1, f2, f3⟩ := ih m' m1 hB1 (by omega) (WP_c (fun j _ => e20 j) hW.2) (fun x hx => hg x (List.mem_cons_of_mem _ hx)) (by omega)
      rw [ex, f1, x1]
      refine ⟨m2, rfl, fun a j q1 q2 q3 q4 => by rw [f2 a j q1 q2 q3 q4, e2 a j q3 (by omega) q1], ?_⟩
      rw [x3] at f3
      rcases f3 with ⟨S2, y1, y2, y3, y4⟩ | ⟨pl, y1, y2, y3⟩
      · exact Or.inl ⟨S2, y1, by rw [y2, x2], y3, y4⟩
      · exact Or.inr ⟨pl, y1, y2, y3⟩
    · obtain ⟨m'', rfl⟩ : ∃ m'', m' = m'' + 1 := ⟨m' - 1, by omega⟩
      rw [part53_F x2, x1]
      refine ⟨_, rfl, fun a j q1 q2 q3 q4 => by rw [u2, if_neg (by omega), e2 a j q3 (by omega) q1], Or.inr ⟨pl, rfl, by rw [u2, if_neg (by omega)]; exact x2, by rw [u2, if_neg (by omega)]; exact x3⟩⟩
/-- what holds all the way: the tokens, their meaning, the names -/
def CTX (T : Nat → Nat) (z c : Nat) (N : List Nat) (ml : JM) : Prop := c ≤ 400 ∧ AL (kd T z) c ∧ (∀ j, j < c → mf (kd T z) (vT T z) (uT T z) j = 0) ∧ (∀ j, j < N.length → kd T z (N.getD j 0) = 2 ∧ ml 15 j = l64 (uT T z (N.getD j 0))) ∧ ∀ i j, i < N.length → j < N.length → uT T z (N.getD i 0) = uT T z (N.getD j 0) → i = j
/-- what a sum at level L is held to -/
def SumH (n : Nat) (T : Nat → Nat) (z c : Nat) (N : List Nat) (E : List Sh) (ml : JM) (r : Nat → Int32 → MM → Option MM) (L : Nat) : Prop := ∀ t s wo mi, BSt T z c N E wo t mi ml → Au (kd T z) t = some s → s.1 = 3 → s.2.2.1 = L → t ≤ c → wo ≤ t → hdW (XT T z t).1 → cN (kd T z) t = N → ∃ mi', r 12 (nI L) (K mi ml) = some (K mi' ml) ∧ BF (49 + 4 * L) wo mi mi' ∧ (SumO T z c E L t s wo mi mi' ∨ FltO T z c E L t s mi')
theorem unitOK (hn : 100 < n) (hX : CTX T z c N ml) (hr : L + 1 ≤ 6 → SumH n T z c N E ml r (L + 1)) (hB : BSt T z c N E wo t mi ml) (hA : Au (kd T z) t = some s) (h3 : s.1 = 3) (hl : s.2.2.1 = L) (ht : t ≤ c) (hwo : wo ≤ t) (hcN : cN (kd T z) t = N) (hk : ¬ (12 ≤ kd T z t ∧ kd T z t ≤ 15)) : ∃ mi', f_Builder_makeUnit n r 12 (nI L) (K mi ml) = some (K mi' ml) ∧ BF (51 + 4 * L) wo mi mi' ∧ (PartO T z c E L t s wo mi mi' ∨ FltO T z c E (L + 1) t s mi') := by
  obtain ⟨hc, hAL, hm, hNm, hinj⟩ := hX
  obtain ⟨htc, s', e1, e2⟩ := AL_n hAL hA (by omega) ht
  have hb := kd62 (T := T) (z := z) (i := t)
  have hbi := Au_i hA
  have hsh := sh_ok (sh_s L (by omega)).2
  have hB0 := hB
  obtain ⟨⟨b1, b2, b3⟩, ⟨b4, b5, b6, b7⟩, b8⟩ := hB
  unfold f_Builder_makeUnit
  rw [o_12, rf_12_5, bnd_s, aR_17 (by omega), bnd_s, rf_12_9, bnd_s, g_12, bnd_s, b4, kindA (by omega) (by omega) b1, bnd_s, if_pos (show t < c by omega)]
  by_cases d40 : kd T z t = 40
  · rw [if_pos (show nI (kd T z t) = 40 by rw [d40]; rfl), g_12, bnd_s, b4, nI_1, p_12, bnd_s, nI_1]
    have hs' : s' = (3, s.2.1, s.2.2.1 + 1, s.2.2.2) := by rw [d40] at e2; simp [nx, h3] at e2; exact e2.symm
    subst hs'
    have hL1 := (Au_i e1).2.2.2.1
    have hL1 : L + 1 ≤ 6 := by simp only [] at hL1; omega
    have hsh1 := sh_ok (sh_s (L + 1) (by omega)).1
    have hX1 : XT T z (t + 1) = ((40, 0, 0, tP T z t) :: (XT T z t).1, (XT T z t).2) := by
      show Xm _ _ _ _ (t + 1) = _
      rw [Xm_s hA]; simp [xs, h3, d40]
    have hF0 : BF (51 + 4 * L) wo mi (upd2 mi 12 10 (nI (t + 1))) := fun a j q1 q2 _ _ _ => by rw [u2, if_neg (by omega)]
    have hB1 : BSt T z c N E wo (t + 1) (upd2 mi 12 10 (nI (t + 1))) ml := BSt_c hB0 hF0 (by omega) (by rw [u2, if_neg (by omega)]) uE (by rw [u2, if_neg (by omega)]; exact b5)
    have h4e : upd2 mi 12 10 (nI (t + 1)) 4 = mi 4 := by funext j; rw [u2, if_neg (by omega)]
    generalize upd2 mi 12 10 (nI (t + 1)) = m1 at hF0 hB1 h4e
    obtain ⟨m2, f1, f2, f3⟩ := hr hL1 (t + 1) _ wo m1 hB1 e1 rfl (by simp only []; omega) htc (by omega) (by rw [hX1]; exact Or.inr ⟨_, _, rfl, rfl⟩) (by rw [cN, if_neg (by omega)]; exact hcN)
    rw [f1, bnd_s, if_neg (show ¬ (7 : Int32) ≤ nI (L + 1) by rw [il1 (n := 7) (by omega) (by omega)]; omega), rf_12_4, bnd_s, aR_16 (by omega), bnd_s, copy_s hsh hsh1 (by omega) (by omega), bnd_s]
    unfold f_Builder_makeUnit_62
    rw [g_12, bnd_s, setRw_ne (by omega), p_12, bnd_s]
    refine ⟨_, rfl, ?_, ?_⟩
    · intro a j q1 q2 q3 q4 q5
      rw [u2, if_neg (by omega), setRw_ne (by omega), f2 a j q1 q2 q3 q4 (by omega), hF0 a j q1 q2 q3 q4 q5]
    · rcases f3 with ⟨t', s', P, S, ⟨g1, g2, g3, g4, g5, g6⟩, g7, g8, g9, g10, g11, g12⟩ | ⟨t', s', P, pl, ⟨g1, g2, g3, g4, g5⟩, g6, g7, g8, g9⟩
      · left
        obtain ⟨h1, s2, k1, k2⟩ := AL_n hAL g3 (by omega) g2
        have hbr : s'.2.2.1 = s.2.2.1 + 1 := by rw [g5]
        have k41 : kd T z t' = 41 := by
          have := nx_c k2
          omega
        have hs2 : s2 = (7, s'.2.1, s.2.2) := by
          rw [k41] at k2
          simp [nx, g4, hbr] at k2
          rw [← k2, show s'.2.2.2 = s.2.2.2 by rw [g5]]
        subst hs2
        refine ⟨t' + 1, _, P, S, ⟨by omega, h1, k1, rfl, rfl⟩, ?_, g8, ?_, ?_, ?_, ?_⟩
        · show Xm _ _ _ _ (t' + 1) = _
          have e7 : Xm (kd T z) (vT T z) (uT T z) (tP T z) t' = ((40, 0, 0, tP T z t) :: (XT T z t).1, (XT T z t).2.1 ++ P, (XT T z t).2.2) := by rw [show Xm (kd T z) (vT T z) (uT T z) (tP T z) t' = XT T z t' from rfl, g7, hX1]
          rw [Xm_s g3, e7]
          simp [xs, g4, k41]
        · funext j; rw [u2, if_neg (by omega), setRw_ne (by omega), g9, h4e]
        · rw [uE, g10, nI_1]
        · rw [u2, if_neg (by omega), setRw_ne (by omega)]; exact g11
        · unfold svS
          rw [upd2_ne (by omega)]
          rw [show rS (setRw m2 (51 + 4 * L) (m2 (49 + 4 * (L + 1) + 1)) (51 + 4 * L + 1)) = svS m2 (49 + 4 * (L + 1)) from sv_set]
          exact g12
      · right
        refine ⟨t', s', P, pl, ⟨by omega, g2, g3, g4, g5⟩, by rw [g6, hX1], g7, ?_, ?_⟩
        · rw [u2, if_neg (by omega), setRw_ne (by omega)]; exact g8
        · rw [u2, if_neg (by omega), setRw_ne (by omega)]; exact g9
  rw [if_neg (show ¬ nI (kd T z t) = 40 by rw [ie1 (n := 40) (by omega) (by omega)]; exact d40)]
  have one : ∀ (cd : Cd) (p : List Sh), cd.1 < 5 → okc E.length cd = true → p.length ≤ L + 1 → rn E [cd] p = some (mp (.inr (layV E cd)) p) := fun cd p q1 q0 q2 => by
    have e : stp E cd p = some (.inr (layV E cd :: p)) := by unfold stp; rw [if_neg (by rw [q0]; decide), if_pos q1, if_pos (by omega)]
    rw [rn, e]; rfl
  by_cases d2 : kd T z t = 2
  · obtain ⟨n1, n2, ⟨j0, n3, n4⟩, n5⟩ := name_S (v := vT T z) (u := uT T z) (p := tP T z) hAL hm hA h3 ht d2
    rw [if_pos (show nI (kd T z t) = 2 by rw [d2]; rfl), rf_12_9, bnd_s, g_12, bnd_s, b4, valueA (by omega) b1 (by omega), bnd_s, val2 b1 (by omega) d2]
    have hfd := fnd_some n3
    rw [hcN] at hfd
    have hj0 : j0 < N.length := by omega
    have hu0 : uT T z (N.getD j0 0) = uT T z t := by simpa using hfd.2.2.1
    have hC := fun b (q : b ≠ 51 + 4 * L + 1) => setRw_ne (mi := mi) (R := fun _ => 0) q
    obtain ⟨m2, f1, f2, f3⟩ := copyN (n := n) (ml := ml) (t := t) (j0 := j0) (fun j => E.getD j E0) (by omega) hsh (by omega) b7.1 (fun j hj => (hNm j hj).1) d2 (fun j hj => (hNm j hj).2) hj0 (fun j hj => ⟨fun q => hinj j j0 hj hj0 (by rw [q, hu0]), fun q => by rw [q]; exact hu0⟩) n 0 (setRw mi (51 + 4 * L) (fun _ => 0)) (by omega) (by omega) (by rw [hC 12 (by omega)]; exact b6) (fun j hj => by rw [sv_ne (by omega)]; exact b8 j hj) (fun q => by omega)
    unfold f_Builder_copyNamed
    rw [o_12, clear_s hsh (by omega), bnd_s, show f_Builder_copyNamed_7 n n 12 (51 + 4 * L) (l64 (uT T z t)) 0 (K (setRw mi (51 + 4 * L) (fun _ => 0)) ml) = _ from f1, bnd_s, g_12, bnd_s, f3 12 (by omega), hC 12 (by omega), b4, nI_1, p_12, bnd_s]
    refine ⟨_, rfl, fun a j q1 q2 q3 q4 q5 => by rw [u2, if_neg (by omega), f3 a (by omega), hC a (by omega)], Or.inl ⟨t + 1, _, [(0, fdI (kd T z) (uT T z) t, 0, 0, 0, 0)], E.getD j0 E0, ⟨by omega, n1, n2, rfl, rfl⟩, n5, fun p hp => ?_, ?_, uE, ?_, ?_⟩⟩
    · rw [one _ p (by show 0 < 5; omega) (by unfold okc; rw [decide_eq_true_iff, n4]; simp only []; have := b7.2; omega) hp]
      unfold layV
      rw [if_pos rfl, n4]; rfl
    · funext j; rw [u2, if_neg (by omega), f3 4 (by omega), hC 4 (by omega)]
    · rw [u2, if_neg (by omega), f3 12 (by omega), hC 12 (by omega)]; exact b5
    · unfold svS; rw [upd2_ne (by omega)]; exact f2
  · have d16 : 16 ≤ kd T z t ∧ kd T z t ≤ 19 := by
      have := nx_c e2
      omega
    obtain ⟨t', c1, c2, c3, c4, c5, c6, c7, c8, c9⟩ := cells_S (v := vT T z) (u := uT T z) (p := tP T z) hAL hm hA h3 ht d16
    obtain ⟨m2, f1, f2, f3, f4⟩ := mkC (n := n) (a := 51 + 4 * L) hc (by omega) b1 b4 hsh (by omega) (by omega) d16 c5 c6 c7 c8 c9 E
    rw [if_neg (show ¬ nI (kd T z t) = 2 by rw [ie1 (n := 2) (by omega) (by omega)]; exact d2), f1, bnd_s]
    have hoc : okc E.length (uCd (kd T z) (vT T z) t) = true := by
      unfold okc uCd
      rw [decide_eq_true_iff]
      simp only []
      refine ⟨fun q => by omega, fun _ => ⟨by omega, by omega, by split <;> omega, by split <;> omega, fun q => ?_, fun q => ?_⟩, fun q => by omega, by omega⟩
      · have q17 : kd T z t = 17 := by omega
        have := c8 q17
        rw [if_neg (by omega), if_pos q17]; omega
      · have := c9 (by omega)
        rw [if_neg (by omega)]; omega
    refine ⟨m2, rfl, fun a j q1 q2 q3 q4 q5 => f4 a j (by omega) (by omega), Or.inl ⟨t', _, [uCd (kd T z) (vT T z) t], layV E (uCd (kd T z) (vT T z) t), ⟨by rw [c1]; split <;> (try split) <;> omega, c2, c3, rfl, rfl⟩, c4, fun p hp => one _ p (by show kd T z t - 15 < 5; omega) hoc hp, ?_, by rw [f3, c1], ?_, f2⟩⟩
    · funext j; exact f4 _ _ (by omega) (by omega)
    · rw [f4 _ _ (by omega) (by omega)]; exact b5
theorem partOK (hn : 500 < n) (hX : CTX T z c N ml) (hr : L + 1 ≤ 6 → SumH n T z c N E ml r (L + 1)) (hB : BSt T z c N E wo t mi ml) (hA : Au (kd T z) t = some s) (h3 : s.1 = 3) (hl : s.2.2.1 = L) (ht : t ≤ c) (hwo : wo ≤ t) (hcN : cN (kd T z) t = N) : ∃ mi', f_Builder_makePart n r 12 (nI L) (K mi ml) = some (K mi' ml) ∧ BF (51 + 4 * L) wo mi mi' ∧ (PartO T z c E L t s wo mi mi' ∨ FltO T z c E (L + 1) t s mi') := by
  have hX0 := hX
  obtain ⟨hc, hAL, hm, hNm, hinj⟩ := hX
  have hbi := Au_i hA
  unfold f_Builder_makePart
  rw [o_12, g_12, bnd_s, hB.2.1.2.1]
  obtain ⟨m1, t1, s1, qs, e1, ⟨e2, e3, e4, e5, e6⟩, e7, e8, e9, e10, e11, e12, e13, e14⟩ := wordsIn (n := n) (ml := ml) (N := N) (E := E) (L := L) (wo := wo) (r := r) (x2 := nI wo) (k9 := f_Builder_makePart_41 n r) hc hAL hm n t s [] mi hB hA h3 ht hwo trivial (fun q hq => by cases hq) (by omega)
  rw [List.append_nil] at e8 e9 e11 e12
  rw [show f_Builder_makePart_7 n r (f_Builder_makePart_41 n r) n 12 (nI L) (nI wo) 0 (K mi ml) = _ from e1]
  unfold f_Builder_makePart_41
  have hc1 : cN (kd T z) t1 = N := by rw [(Au_sm (v := vT T z) (u := uT T z) (p := tP T z) hA (by omega) e2 e4 (by omega) (by rw [e6])).2.1]; exact hcN
  obtain ⟨m2, f1, f2, f3⟩ := unitOK (n := n) (by omega) hX0 hr e8 e4 e5 (by rw [e6]; exact hl) (by omega) e9 hc1 e7
  rw [f1, bnd_s, g_12, bnd_s, nm_t]
  have hF2 : BF (51 + 4 * L) wo mi m2 := (e13.mo (by omega) (Nat.le_refl _)).tr (f2.mo (Nat.le_refl _) (by omega))
  rcases f3 with ⟨t', s', P, S, ⟨g1, g2, g3, g4, g5⟩, g6, g7, g8, g9, g10, g11⟩ | ⟨t', s', P, pl, ⟨g1, g2, g3, g4, g5⟩, g6, g7, g8, g9⟩
  · have hB2 := BSt_c (wo' := wo + qs.length) (t' := t') e8 f2 (by omega) (by rw [g8]) g9 g10
    have hW2 : WP wo qs m2 := WP_c (fun j hj => f2 _ _ (by omega) (by omega) (by omega) (by omega) (by omega)) e11
    obtain ⟨m3, h1, h2, h3'⟩ := wordsOut (n := n) (r := r) (L := L) (by omega) hc (by omega) qs n m2 hB2.1 (by omega) hW2 e12 (by omega)
    rw [g10, show nI (wo + qs.length) - 1 = iZ ((wo : Int) + qs.length - 1) by rw [iZ_nat]; exact iZ_sub _ 1, h1]
    have hws : ∀ w ∈ qs.map (wt (kd T z) (vT T z) (tP T z)), w.1 ≠ 40 := fun w hw => by
      obtain ⟨q, hq, rfl⟩ := List.mem_map.mp hw
      have := (e12 q hq).2.1
      unfold wt
      split <;> simp only [] <;> omega
    have hcs : ∀ x ∈ (qs.map (wt (kd T z) (vT T z) (tP T z))).map wC, (5 ≤ x.1 ∧ x.1 < 9) ∧ okc E.length x = true := fun x hx => by
      rw [List.map_map] at hx
      obtain ⟨q, hq, rfl⟩ := List.mem_map.mp hx
      have := (e12 q hq).2.1
      show (5 ≤ (wC (wt (kd T z) (vT T z) (tP T z) q)).1 ∧ (wC (wt (kd T z) (vT T z) (tP T z) q)).1 < 9) ∧ okc E.length (wC (wt (kd T z) (vT T z) (tP T z) q)) = true
      by_cases d : kd T z q = 15
      · have hg := ((e12 q hq).2.2 d).1
        rw [wC_15 d]; exact ⟨⟨by show 5 ≤ 8; omega, by show 8 < 9; omega⟩, by unfold okc; rw [decide_eq_true_iff]; simp only []; omega⟩
      · rw [wC_w (by omega)]
        refine ⟨by simp only []; omega, ?_⟩
        unfold okc; rw [decide_eq_true_iff]; simp only []; omega
    have hX1 : XT T z t' = ((cO (XT T z t).1 ((XT T z t).2.1 ++ (P ++ (qs.map (wt (kd T z) (vT T z) (tP T z))).map wC))).1, (cO (XT T z t).1 ((XT T z t).2.1 ++ (P ++ (qs.map (wt (kd T z) (vT T z) (tP T z))).map wC))).2, (XT T z t).2.2) := by
      rw [g6, e10]
      simp only []
      rw [cO_ws _ _ _ hws, List.append_assoc]
    have hPt := Pt_w g7 hcs
    rw [g11] at h3'
    rw [show (qs.map (wt (kd T z) (vT T z) (tP T z))).map wC = qs.map (fun q => wC (wt (kd T z) (vT T z) (tP T z) q)) by rw [List.map_map]; rfl] at hPt hX1
    have hF3 : BF (51 + 4 * L) wo mi m3 := hF2.tr (fun a j q1 q2 q3 q4 q5 => h2 a j q1 (by omega) q3 (by omega))
    refine ⟨m3, rfl, hF3, ?_⟩
    rcases h3' with ⟨S2, y1, y2, y3, y4⟩ | ⟨pl, y1, y2, y3⟩
    · left
      rw [y1] at hPt
      exact ⟨t', s', _, S2, ⟨by omega, g2, g3, g4, by rw [g5, e6]⟩, hX1, hPt, by rw [y2, g8, e14], by rw [h2 _ _ (by omega) (by omega) (by omega) (by omega)]; exact g9, y3, y4⟩
    · right
      rw [y1] at hPt
      obtain ⟨D, hD⟩ := cO_2 (XT T z t).1 ((XT T z t).2.1 ++ (P ++ qs.map (fun q => wC (wt (kd T z) (vT T z) (tP T z) q))))
      refine ⟨t', s', (P ++ qs.map (fun q => wC (wt (kd T z) (vT T z) (tP T z) q))) ++ D, pl, ⟨by omega, g2, g3, by omega, by rw [g5, e6]⟩, ?_, fun p hp => rn_2 (hPt p hp), y2, y3⟩
      rw [hX1]
      simp only []
      rw [hD, List.append_assoc]
  · obtain ⟨n', hn'⟩ : ∃ n', n = n' + 1 := ⟨n - 1, by omega⟩
    have := part53_F (n := n) (m := n') (L := L) (x := wo) (x3 := m2 12 8 - 1) (r := r) (ml := ml) g8
    rw [← hn'] at this
    rw [this]
    refine ⟨_, rfl, hF2.tr (fun a j q1 q2 q3 q4 q5 => by rw [u2, if_neg (by omega)]), Or.inr ⟨t', s', P, pl, ⟨by omega, g2, g3, g4, by rw [g5, e6]⟩, by rw [g6, e10], g7, by rw [u2, if_neg (by omega)]; exact g8, by rw [u2, if_neg (by omega)]; exact g9⟩⟩
theorem sum29_F {m i : Nat} (h5 : mi 4 5 = nI 6) : f_Builder_sumUp_29 n r (m + 1) 12 (nI L) (nI i) (K mi ml) = some (K mi ml) := by
  rw [f_Builder_sumUp_29, rf_12_9, bnd_s, g_4, bnd_s, h5, if_neg (show ¬ nI 6 = 0 by decide)]
  split <;> rfl
/-- the parts behind the first one -/
theorem sum29 (hn : 500 < n) (hX : CTX T z c N ml) (hL : L ≤ 6) (hr : L + 1 ≤ 6 → SumH n T z c N E ml r (L + 1)) (hA0 : Au (kd T z) t = some s) (h30 : s.1 = 3) (hcN : cN (kd T z) t = N) (hd : hdW (XT T z t).1) : ∀ m i t1 s1 P S m1, BSt T z c N E wo t1 m1 ml → t < t1 → i < t1 → Au (kd T z) t1 = some s1 → s1.1 = 7 → s1.2.2 = s.2.2 → s.2.2.1 = L → t1 ≤ c → wo ≤ t1 → XT T z t1 = ((XT T z t).1, (XT T z t).2.1 ++ P, (XT T z t).2.2) → Pt E L P (.inr S) → svS m1 (49 + 4 * L) = S → c - t1 < m → ∃ mi', f_Builder_sumUp_29 n r m 12 (nI L) (nI i) (K m1 ml) = some (K mi' ml) ∧ BF (49 + 4 * L) wo m1 mi' ∧ (SumO T z c E L t s wo m1 mi' ∨ FltO T z c E L t s mi') := by
  have hX0 := hX
  obtain ⟨hc, hAL, hm, hNm, hinj⟩ := hX
  intro m
  induction m with
  | zero => intro i t1 s1 P S m1 _ _ _ _ _ _ _ _ _ _ _ _ h; omega
  | succ m ih =>
    intro i t1 s1 P S m1 hB h1 hi hA h7 h22 hl ht hwo hXt hP hS hm'
    obtain ⟨htc, s2, e1, e2⟩ := AL_n hAL hA (by omega) ht
    have hb := kd62 (T := T) (z := z) (i := t1)
    have hsS := sh_ok (sh_s L (by omega)).1
    have hsP := sh_ok (sh_s L (by omega)).2
    rw [f_Builder_sumUp_29, if_neg (show ¬ (400 : Int32) ≤ nI i by rw [il1 (n := 400) (by omega) (by omega)]; omega), rf_12_9, bnd_s, g_4, bnd_s, hB.1.2.2, if_pos (show (0 : Int32) = 0 from rfl), bnd_s, g_12, bnd_s, hB.2.1.1, kindA (by omega) (by omega) hB.1.1, bnd_s, if_pos (show t1 < c by omega)]
    have op : (kd T z t1 = 43 ∨ kd T z t1 = 45 ∨ kd T z t1 = 38) → ∃ mi', f_Builder_sumUp_77 n r (f_Builder_sumUp_29 n r m) 12 (nI L) (nI i) (nI (kd T z t1)) (K m1 ml) = some (K mi' ml) ∧ BF (49 + 4 * L) wo m1 mi' ∧ (SumO T z c E L t s wo m1 mi' ∨ FltO T z c E L t s mi') := fun hk => by
      have hs2 : s2 = (3, s1.2) := by
        rcases hk with d | d | d <;> (rw [d] at e2; simp [nx, h7] at e2; exact e2.symm)
      subst hs2
      unfold f_Builder_sumUp_77
      rw [g_12, bnd_s, hB.2.1.1, nI_1, p_12, bnd_s]
      have hF0 : BF (51 + 4 * L) wo m1 (upd2 m1 12 10 (nI (t1 + 1))) := fun a j q1 q2 _ _ _ => by rw [u2, if_neg (by omega)]
      have hB1 : BSt T z c N E wo (t1 + 1) (upd2 m1 12 10 (nI (t1 + 1))) ml := BSt_c hB hF0 (by omega) (by rw [u2, if_neg (by omega)]) uE (by rw [u2, if_neg (by omega)]; exact hB.2.1.2.1)
      have h4e : upd2 m1 12 10 (nI (t1 + 1)) 4 = m1 4 := by funext j; rw [u2, if_neg (by omega)]
      have hSe : svS (upd2 m1 12 10 (nI (t1 + 1))) (49 + 4 * L) = S := by unfold svS; rw [upd2_ne (by omega)]; exact hS
      generalize upd2 m1 12 10 (nI (t1 + 1)) = m2 at hF0 hB1 h4e hSe
      have hX1 : XT T z (t1 + 1) = ((kd T z t1, 0, 0, 0) :: (XT T z t).1, (XT T z t).2.1 ++ P, (XT T z t).2.2) := by
        show Xm _ _ _ _ (t1 + 1) = _
        rw [Xm_s hA]
        unfold xs
        rw [if_neg (by omega), if_neg (by omega), if_neg (by omega), if_pos h7, if_pos hk, show Xm (kd T z) (vT T z) (uT T z) (tP T z) t1 = XT T z t1 from rfl, hXt]
      have hc1 : cN (kd T z) (t1 + 1) = N := by rw [(Au_sm (v := vT T z) (u := uT T z) (p := tP T z) hA0 (by omega) (by omega) e1 (by simp) (by show s1.2.2.2 = s.2.2.2; rw [h22])).2.1]; exact hcN
      obtain ⟨m3, f1, f2, f3⟩ := partOK (n := n) hn hX0 hr hB1 e1 rfl (by show s1.2.2.1 = L; rw [h22]; exact hl) htc (by omega) hc1
      obtain ⟨m4, g1, g2, g3⟩ := combS (n := n) (mi := m3) (ml := ml) (T := T) (z := z) (t := t1) (by omega) hsS hsP (by omega) hk
      rw [f1, bnd_s, rf_12_4, bnd_s, aR_16 (by omega), bnd_s, rf_12_5, bnd_s, aR_17 (by omega), bnd_s, g1, bnd_s, nI_1]
      have hF4 : BF (49 + 4 * L) wo m1 m4 := ((hF0.tr f2).mo (by omega) (Nat.le_refl _)).tr (fun a j q1 q2 q3 q4 q5 => by rw [g3 a (by omega)])
      have wcf : wC (kd T z t1, 0, 0, 0) = ((wC (kd T z t1, 0, 0, 0)).1, 0, 0, 0, 0, 0) := by rcases hk with d | d | d <;> rw [d] <;> rfl
      have wc9 : 9 ≤ (wC (kd T z t1, 0, 0, 0)).1 ∧ (wC (kd T z t1, 0, 0, 0)).1 ≤ 11 := by rcases hk with d | d | d <;> rw [d] <;> decide
      rcases f3 with ⟨t', s', Q, B, ⟨a1, a2, a3, a4, a5⟩, a6, a7, a8, a9, a10, a11⟩ | ⟨t', s', Q, pl, ⟨a1, a2, a3, a4, a5⟩, a6, a7, a8, a9⟩
      · have hX2 : XT T z t' = ((XT T z t).1, (XT T z t).2.1 ++ (P ++ Q ++ [wC (kd T z t1, 0, 0, 0)]), (XT T z t).2.2) := by
          rw [a6, hX1]
          simp only []
          rw [cO, if_neg (by simp only []; omega), cO_hd hd]
          simp only [List.append_assoc]
        have hP2 := Pt_o hP a7 wc9
        have hS3 : svS m3 (49 + 4 * L) = S := by
          rw [← hSe]
          unfold svS
          rw [show m3 (49 + 4 * L + 1) = m2 (49 + 4 * L + 1) by funext j; exact f2 _ _ (by omega) (by omega) (by omega) (by omega) (by omega)]
        have hB4 := BSt_c (wo' := wo) (t' := t') hB hF4 (by omega) (by rw [g3 4 (by omega), a8, h4e]) (by rw [g3 12 (by omega)]; exact a9) (by rw [g3 12 (by omega)]; exact a10)
        obtain ⟨m5, x1, x2, x3⟩ := ih (i + 1) t' s' (P ++ Q ++ [wC (kd T z t1, 0, 0, 0)]) (opS (wC (kd T z t1, 0, 0, 0)).1 S B) m4 hB4 (by omega) (by omega) a3 a4 (by rw [a5]; exact h22) hl a2 (by omega) hX2 hP2 (by rw [g2, hS3, a11]) (by omega)
        refine ⟨m5, x1, hF4.tr x2, ?_⟩
        rcases x3 with ⟨t'', s'', P', S', y1, y2, y3, y4, y5⟩ | x3
        · exact Or.inl ⟨t'', s'', P', S', y1, y2, y3, by rw [y4, g3 4 (by omega), a8, h4e], y5⟩
        · exact Or.inr x3
      · obtain ⟨m', rfl⟩ : ∃ m', m = m' + 1 := ⟨m - 1, by omega⟩
        rw [sum29_F (by rw [g3 4 (by omega)]; exact a8)]
        refine ⟨m4, rfl, hF4, Or.inr ⟨t', s', P ++ Q, pl, ⟨by omega, a2, a3, a4, by rw [a5]; show s1.2.2.2 = s.2.2.2; rw [h22]⟩, by rw [a6, hX1, List.append_assoc], fun p hp => ?_, by rw [g3 4 (by omega)]; exact a8, by rw [g3 4 (by omega)]; exact a9⟩⟩
        rw [rn_1 (hP p hp)]
        exact a7 _ (by rw [List.length_cons]; omega)
    by_cases d1 : kd T z t1 = 43
    · rw [if_pos (show nI (kd T z t1) = 43 by rw [d1]; rfl)]; exact op (Or.inl d1)
    rw [if_neg (show ¬ nI (kd T z t1) = 43 by rw [ie1 (n := 43) (by omega) (by omega)]; exact d1)]
    by_cases d2 : kd T z t1 = 45
    · rw [if_pos (show nI (kd T z t1) = 45 by rw [d2]; rfl)]; exact op (Or.inr (Or.inl d2))
    rw [if_neg (show ¬ nI (kd T z t1) = 45 by rw [ie1 (n := 45) (by omega) (by omega)]; exact d2)]
    by_cases d3 : kd T z t1 = 38
    · rw [if_pos (show nI (kd T z t1) = 38 by rw [d3]; rfl)]; exact op (Or.inr (Or.inr d3))
    rw [if_neg (show ¬ nI (kd T z t1) = 38 by rw [ie1 (n := 38) (by omega) (by omega)]; exact d3)]
    exact ⟨m1, rfl, BF.rf, Or.inl ⟨t1, s1, P, S, ⟨h1, ht, hA, h7, h22, d1, d2, d3⟩, hXt, hP, rfl, hB.2.1.1, hB.2.1.2.1, hS⟩⟩
theorem sumOK (hn : 500 < n) (hX : CTX T z c N ml) : ∀ d L, 7 ≤ d + L → L ≤ 6 → SumH n T z c N E ml (F_Builder_sumUp n d) L := by
  intro d
  induction d with
  | zero => intro L h1 h2; omega
  | succ d ih =>
    intro L h1 hL t s wo mi hB hA h3 hl ht hwo hd hcN
    have hr : L + 1 ≤ 6 → SumH n T z c N E ml (F_Builder_sumUp n d) (L + 1) := fun q => ih (L + 1) (by omega) q
    have hsS := sh_ok (sh_s L (by omega)).1
    have hsP := sh_ok (sh_s L (by omega)).2
    obtain ⟨m1, f1, f2, f3⟩ := partOK (n := n) hn hX hr hB hA h3 hl ht hwo hcN
    rw [F_Builder_sumUp]
    unfold f_Builder_sumUp
    rw [o_12, if_pos (show nI L < 7 by rw [it2 (n := 7) (by omega) (by omega)]; omega), f1, bnd_s, rf_12_4, bnd_s, aR_16 (by omega), bnd_s, rf_12_5, bnd_s, aR_17 (by omega), bnd_s, copy_s hsS hsP (by omega) (by omega), bnd_s]
    have hF2 : BF (49 + 4 * L) wo mi (setRw m1 (49 + 4 * L) (m1 (51 + 4 * L + 1))) := (f2.mo (by omega) (Nat.le_refl _)).tr (fun a j q1 q2 q3 q4 q5 => by rw [setRw_ne (by omega)])
    have e : ∀ b, b ≠ 49 + 4 * L + 1 → setRw m1 (49 + 4 * L) (m1 (51 + 4 * L + 1)) b = m1 b := fun b q => setRw_ne q
    have eS : svS (setRw m1 (49 + 4 * L) (m1 (51 + 4 * L + 1))) (49 + 4 * L) = svS m1 (51 + 4 * L) := sv_set
    generalize setRw m1 (49 + 4 * L) (m1 (51 + 4 * L + 1)) = m2 at hF2 e eS
    rcases f3 with ⟨t', s', P, S, ⟨a1, a2, a3, a4, a5⟩, a6, a7, a8, a9, a10, a11⟩ | ⟨t', s', P, pl, ⟨a1, a2, a3, a4, a5⟩, a6, a7, a8, a9⟩
    · have hX1 : XT T z t' = ((XT T z t).1, (XT T z t).2.1 ++ P, (XT T z t).2.2) := by rw [a6, cO_hd hd]
      have hB2 := BSt_c (wo' := wo) (t' := t') hB hF2 (by omega) (by rw [e 4 (by omega), a8]) (by rw [e 12 (by omega)]; exact a9) (by rw [e 12 (by omega)]; exact a10)
      obtain ⟨m3, g1, g2, g3⟩ := sum29 (n := n) hn hX hL hr hA h3 hcN hd n 0 t' s' P S m2 hB2 a1 (by omega) a3 a4 a5 hl a2 (by omega) hX1 (Pt_m a7 (by omega)) (by rw [eS]; exact a11) (by have := hX.1; omega)
      refine ⟨m3, g1, hF2.tr g2, ?_⟩
      rcases g3 with ⟨t'', s'', P', S', y1, y2, y3, y4, y5⟩ | x3
      · exact Or.inl ⟨t'', s'', P', S', y1, y2, y3, by rw [y4, e 4 (by omega), a8], y5⟩
      · exact Or.inr x3
    · obtain ⟨n', hn'⟩ : ∃ n', n = n' + 1 := ⟨n - 1, by omega⟩
      have := sum29_F (n := n) (m := n') (L := L) (i := 0) (r := F_Builder_sumUp n d) (mi := m2) (ml := ml) (by rw [e 4 (by omega)]; exact a8)
      rw [← hn'] at this
      rw [show f_Builder_sumUp_29 n (F_Builder_sumUp n d) n 12 (nI L) 0 (K m2 ml) = _ from this]
      exact ⟨m2, rfl, hF2, Or.inr ⟨t', s', P, pl, ⟨a1, a2, a3, a4, a5⟩, a6, fun p hp => a7 p (by omega), by rw [e 4 (by omega)]; exact a8, by rw [e 4 (by omega)]; exact a9⟩⟩
end PRT
