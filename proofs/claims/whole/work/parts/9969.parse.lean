/-! ===== the reference's parser: its small steps ===== -/
def okK (a : Nat) : Bool := decide (a ≤ 3 ∨ (10 ≤ a ∧ a ≤ 19) ∨ a = 38 ∨ a = 40 ∨ a = 41 ∨ a = 43 ∨ a = 45 ∨ a = 59 ∨ a = 61)
theorem mK_i : ∀ a, a < 62 → ∀ b, b < 62 → okK a = true → okK b = true → mK a = mK b → a = b := by decide +kernel
theorem mK_lt : ∀ a, a < 62 → mK a < 62 := by decide +kernel
theorem okK_lt {a : Nat} (h : okK a = true) : a < 62 := by unfold okK at h; rw [decide_eq_true_iff] at h; omega
theorem kd_ok {T : Nat → Nat} {z i : Nat} : okK (kd T z i) = true := by
  unfold okK
  rw [decide_eq_true_iff]
  unfold kd
  by_cases c : tP T z i < z
  · rw [if_pos c]
    unfold ty
    by_cases c1 : isL (T (tP T z i)) = true
    · rw [if_pos c1]
      unfold kwd
      by_cases d : 8 < rE T isL z (tP T z i) - tP T z i
      · rw [if_pos d]; omega
      · rw [if_neg d]
        cases e2 : fnd (fun w => decide (cB 32 (Wd w) 0 (wn w) = cB 32 T (tP T z i) (rE T isL z (tP T z i) - tP T z i))) 10 0 with
        | none => exact Or.inl (by show 2 ≤ 3; omega)
        | some w =>
          have := (fnd_some e2).2.1
          exact Or.inr (Or.inl (by show 10 ≤ 10 + w ∧ 10 + w ≤ 19; omega))
    · rw [if_neg c1]
      by_cases c2 : isD (T (tP T z i)) = true
      · rw [if_pos c2]
        by_cases c3 : rE T isD z (tP T z i) - tP T z i ≤ 2
        · rw [if_pos c3]; omega
        · rw [if_neg c3]; omega
      · rw [if_neg c2]
        by_cases c3 : isG (T (tP T z i)) = true
        · rw [if_pos c3]
          unfold isG at c3
          rw [decide_eq_true_iff] at c3
          omega
        · rw [if_neg c3]; omega
  · rw [if_neg c]; omega
theorem tP_le {T : Nat → Nat} {z : Nat} : ∀ i, tP T z i ≤ z
  | 0 => (rE_s (T := T) (P := isB) (z := z) (p := 0) (Nat.zero_le z)).2.1
  | i + 1 => by
    rw [tP]
    by_cases c : tP T z i < z
    · rw [if_pos c]; exact (rE_s (T := T) (P := isB) (z := z) (te_b c).2).2.1
    · rw [if_neg c]; exact Nat.le_refl z
theorem tP_up {T : Nat → Nat} {z : Nat} : ∀ {j w : Nat}, j < w → tP T z w < z → tP T z j < tP T z w := by
  intro j w
  induction w with
  | zero => intro h; omega
  | succ w ih =>
    intro h hz
    by_cases c : tP T z w < z
    · have e : tP T z (w + 1) = rE T isB z (te T z (tP T z w)) := by rw [tP, if_pos c]
      have h1 := (rE_s (T := T) (P := isB) (z := z) (te_b (T := T) c).2).1
      have h2 := (te_b (T := T) c).1
      by_cases d : j = w
      · rw [d]; omega
      · have := ih (by omega) c; omega
    · have e : tP T z (w + 1) = z := by rw [tP, if_neg c]
      omega
def FE (mi mi' : IM) : Prop := ∀ a j, ¬ (a = 559 ∧ (11 ≤ j ∧ j ≤ 16 ∨ j = 29 ∨ j = 40)) → ¬ (575 ≤ a ∧ a ≤ 584) → mi' a j = mi a j
theorem FE.rf {a : IM} : FE a a := fun _ _ _ _ => rfl
theorem FE.tr {a b c : IM} (h : FE a b) (h2 : FE b c) : FE a c := fun x j h3 h4 => by rw [h2 x j h3 h4, h x j h3 h4]
theorem FE.u {mi : IM} {j : Nat} {v : Int32} (h : 11 ≤ j ∧ j ≤ 16 ∨ j = 29 ∨ j = 40) : FE mi (upd2 mi 559 j v) := fun a i q1 q2 => by rw [u2, if_neg (fun q => q1 ⟨q.1, by rw [q.2]; exact h⟩)]
def FN (mi mi' : IM) : Prop := ∀ a j, ¬ (a = 559 ∧ 11 ≤ j ∧ j ≤ 16) → mi' a j = mi a j
theorem FN.rf {a : IM} : FN a a := fun _ _ _ => rfl
theorem FN.tr {a b c : IM} (h : FN a b) (h2 : FN b c) : FN a c := fun x j h3 => by rw [h2 x j h3, h x j h3]
theorem FN.fe {a b : IM} (h : FN a b) : FE a b := fun x j h3 _ => h x j (fun q => h3 ⟨q.1, Or.inl q.2⟩)
theorem FN.u {mi : IM} {j : Nat} {v : Int32} (h : 11 ≤ j ∧ j ≤ 16) : FN mi (upd2 mi 559 j v) := fun a i q1 => by rw [u2, if_neg (fun q => q1 ⟨q.1, by rw [q.2]; exact h⟩)]
def WsM (T : Nat → Nat) (z w : Nat) (mi : IM) : Prop := ((∀ j, j < w → mf (kd T z) (vT T z) (uT T z) j = 0) ∧ mi 559 15 = 0) ∨ ∃ j, j < w ∧ mf (kd T z) (vT T z) (uT T z) j ≠ 0 ∧ (∀ i, i < j → mf (kd T z) (vT T z) (uT T z) i = 0) ∧ mi 559 15 = nI (mf (kd T z) (vT T z) (uT T z) j) ∧ mi 559 16 = nI (tP T z j)
def WM : List Wt → IM → Prop
  | [], _ => True
  | w :: W, mi => (mi 581 W.length = nI (mK w.1) ∧ mi 582 W.length = iZ w.2.1 ∧ mi 583 W.length = iZ w.2.2.1 ∧ mi 584 W.length = nI w.2.2.2) ∧ WM W mi
def cm (mi : IM) (j : Nat) (c : Cd) : Prop := mi 575 j = nI c.1 ∧ mi 576 j = iZ c.2.1 ∧ mi 577 j = iZ c.2.2.1 ∧ mi 578 j = iZ c.2.2.2.1 ∧ mi 579 j = iZ c.2.2.2.2.1 ∧ mi 580 j = nI c.2.2.2.2.2
def CM (C : List Cd) (mi : IM) : Prop := ∀ j c, C[j]? = some c → cm mi j c
def PX (T : Nat → Nat) (z t w br : Nat) (W : List Wt) (C : List Cd) (mi : IM) : Prop := (mi 559 11 = nI t ∧ mi 559 13 = 0 ∧ mi 559 12 = nI br) ∧ (mi 559 40 = nI W.length ∧ WM W mi) ∧ (mi 559 29 = nI C.length ∧ CM C mi) ∧ WsM T z w mi
def SL (T : Nat → Nat) (z c : Nat) (mi : IM) (ml : JM) : Prop := LexM T z c mi ml ∧ LexF T z c
def Dn (T : Nat → Nat) (z : Nat) (mi : IM) : Prop := ∃ t s, LastA (kd T z) t s ∧ (fN (kd T z) s t = 1 ∨ fN (kd T z) s t = 2) ∧ mi 559 13 = nI (fN (kd T z) s t) ∧ mi 559 14 = nI (tP T z t) ∧ ∃ t', t' ≤ 400 ∧ mi 559 11 = nI t'
def flM (mi : IM) (F P : Nat) : IM := upd2 (upd2 mi 559 13 (nI F)) 559 14 (nI P)
theorem WM_c : ∀ {W : List Wt} {mi mi' : IM}, (∀ a j, 581 ≤ a → a ≤ 584 → j < W.length → mi' a j = mi a j) → WM W mi → WM W mi'
  | [], _, _, _, _ => trivial
  | w :: W, mi, mi', h, hw => by
    refine ⟨?_, WM_c (fun a j q1 q2 q3 => h a j q1 q2 (by rw [List.length_cons]; omega)) hw.2⟩
    have hl : W.length < (w :: W).length := by rw [List.length_cons]; omega
    rw [h 581 _ (by omega) (by omega) hl, h 582 _ (by omega) (by omega) hl, h 583 _ (by omega) (by omega) hl, h 584 _ (by omega) (by omega) hl]
    exact hw.1
theorem CM_c {C : List Cd} {mi mi' : IM} (h : ∀ a j, 575 ≤ a → a ≤ 580 → j < C.length → mi' a j = mi a j) (hc : CM C mi) : CM C mi' := by
  intro j c e
  have hj : j < C.length := by
    rcases Nat.lt_or_ge j C.length with q | q
    · exact q
    · rw [List.getElem?_eq_none q] at e; cases e
  have := hc j c e
  unfold cm at this ⊢
  rw [h 575 j (by omega) (by omega) hj, h 576 j (by omega) (by omega) hj, h 577 j (by omega) (by omega) hj, h 578 j (by omega) (by omega) hj, h 579 j (by omega) (by omega) hj, h 580 j (by omega) (by omega) hj]
  exact this
theorem app_get {α : Type} {C : List α} {c x : α} {j : Nat} (h : (C ++ [c])[j]? = some x) : C[j]? = some x ∨ (j = C.length ∧ x = c) := by
  rcases Nat.lt_or_ge j C.length with q | q
  · rw [List.getElem?_append_left q] at h; exact Or.inl h
  · rw [List.getElem?_append_right q] at h
    cases e : j - C.length with
    | zero => rw [e] at h; cases h; exact Or.inr ⟨by omega, rfl⟩
    | succ i => rw [e] at h; cases h
theorem WsM_c {T : Nat → Nat} {z w : Nat} {mi mi' : IM} (h1 : mi' 559 15 = mi 559 15) (h2 : mi' 559 16 = mi 559 16) (h : WsM T z w mi) : WsM T z w mi' := by
  unfold WsM at h ⊢
  rw [h1, h2]; exact h
section PAR
variable {n z c t w br : Nat} {mi : IM} {ml : JM} {T : Nat → Nat} {W : List Wt} {C : List Cd} {s s' : SyS}
theorem SL_c {mi' : IM} (h : FE mi mi') (hs : SL T z c mi ml) : SL T z c mi' ml := by
  refine ⟨⟨by rw [h 559 10 (by omega) (by omega)]; exact hs.1.1, fun i hi => ?_⟩, hs.2⟩
  rw [h 562 i (by omega) (by omega), h 563 i (by omega) (by omega), h 564 i (by omega) (by omega)]
  exact hs.1.2 i hi
theorem tok_lt (hs : SL T z c mi ml) (hA : Au (kd T z) t ≠ none) : t < c ∧ t ≤ 400 := by
  have h4 := Au_4 hA
  refine ⟨?_, h4⟩
  rcases hs.2.2 with e | ⟨e1, e2⟩
  · omega
  · by_cases d : c ≤ t
    · exfalso
      have := Au_k (t := c - 1) (Au_d hA (show c - 1 + 1 ≤ t by omega))
      apply this.1
      unfold kd
      rw [if_neg (by omega)]
    · omega
theorem is_G {x : Nat} (hs : SL T z c mi ml) (hA : Au (kd T z) t ≠ none) (h11 : mi 559 11 = nI t) (h13 : mi 559 13 = 0) (hx : okK x = true) : f_Mo_is n 559 (nI (mK x)) (K mi ml) = some (b2i (decide (kd T z t = x)), K mi ml) := by
  have hc := tok_lt hs hA
  have hc4 := hs.2.1
  unfold f_Mo_is
  rw [o_559, g_559, bnd_s, h13, if_pos rfl, rf_559_5, bnd_s, g_559, bnd_s, h11, a_562 (by omega), bnd_s, (hs.1.2 t hc.1).1]
  have h1 := mK_lt x (okK_lt hx)
  have h2 := mK_lt _ (okK_lt (kd_ok (T := T) (z := z) (i := t)))
  by_cases d : kd T z t = x
  · rw [if_pos (by rw [d]), decide_eq_true d]; rfl
  · rw [if_neg (fun q => d (mK_i _ (okK_lt kd_ok) _ (okK_lt hx) kd_ok hx ((nI_eq (by omega) (by omega)).mp q))), decide_eq_false d]; rfl
theorem kind_G (hs : SL T z c mi ml) (hA : Au (kd T z) t ≠ none) : aI 100 562 (nI t) (K mi ml) = some (nI (mK (kd T z t)), K mi ml).1 ∧ aI 100 563 (nI t) (K mi ml) = some (nI (tP T z t)) := by
  have hc := tok_lt hs hA
  have hc4 := hs.2.1
  rw [a_562 (by omega), a_563 (by omega), (hs.1.2 t hc.1).1, (hs.1.2 t hc.1).2.1]
  exact ⟨rfl, rfl⟩
theorem fail_G {F : Nat} (hs : SL T z c mi ml) (hA : Au (kd T z) t ≠ none) (h11 : mi 559 11 = nI t) (h13 : mi 559 13 = 0) : f_Mo_fail n 559 (nI F) (K mi ml) = some (K (flM mi F (tP T z t)) ml) := by
  have hc := tok_lt hs hA
  have hc4 := hs.2.1
  unfold f_Mo_fail
  rw [o_559, g_559, bnd_s, h13, if_pos (by decide), p_559, bnd_s, rf_559_6, bnd_s, g_559, bnd_s, u2, if_neg (by omega), h11, a_563 (by omega), bnd_s, upd2_ne (by omega), (hs.1.2 t hc.1).2.1, p_559, bnd_s]; rfl
theorem fl_FE {F P : Nat} : FN mi (flM mi F P) := (FN.u (by omega)).tr (FN.u (by omega))
theorem Dn_1 (hA : Au (kd T z) t = some s) (h0 : s.1 ≠ 0 ∨ kd T z t ≠ 0) (hx : nx s (kd T z t) = none) (h11 : mi 559 11 = nI t) : Dn T z (flM mi 1 (tP T z t)) := by
  have hf : fN (kd T z) s t = 1 := by unfold fN; rw [if_neg (by omega), if_pos hx]
  refine ⟨t, s, ⟨hA, Au_n hA hx⟩, Or.inl hf, ?_, ?_, t, Au_4 (by rw [hA]; intro q; cases q), ?_⟩
  · unfold flM; rw [u2, if_neg (by omega), uE, hf]
  · unfold flM; rw [uE]
  · unfold flM; rw [u2, if_neg (by omega), u2, if_neg (by omega)]; exact h11
theorem Dn_2 (hA : Au (kd T z) t = some s) (hx : nx s (kd T z t) = some s') (hr : ¬ rmO t s' = true) (h11 : mi 559 11 = nI t) : Dn T z (flM mi 2 (tP T z t)) := by
  have hk : kd T z t ≠ 0 := fun q => by rw [q, nx_0.1] at hx; cases hx
  have hf : fN (kd T z) s t = 2 := by unfold fN; rw [if_neg (by omega), if_neg (by rw [hx]; intro q; cases q)]
  refine ⟨t, s, ⟨hA, Au_r hA hx hr⟩, Or.inr hf, ?_, ?_, t, Au_4 (by rw [hA]; intro q; cases q), ?_⟩
  · unfold flM; rw [u2, if_neg (by omega), uE, hf]
  · unfold flM; rw [uE]
  · unfold flM; rw [u2, if_neg (by omega), u2, if_neg (by omega)]; exact h11
/-- one token on -/
theorem next_G (hs : SL T z c mi ml) (hA : Au (kd T z) t = some s) (h11 : mi 559 11 = nI t) (h13 : mi 559 13 = 0) (hx : nx s (kd T z t) = some s') (hr : s'.2.2.1 ≤ 6 ∧ s'.2.2.2.1 ≤ 8 ∧ s'.2.2.2.2 ≤ 6) : (∃ mi', f_Mo_next n 559 (K mi ml) = some (K mi' ml) ∧ Dn T z mi' ∧ FN mi mi') ∨ (t < 400 ∧ Au (kd T z) (t + 1) = some s' ∧ f_Mo_next n 559 (K mi ml) = some (K (upd2 mi 559 11 (nI (t + 1))) ml)) := by
  have hAn : Au (kd T z) t ≠ none := by rw [hA]; intro q; cases q
  have h4 := Au_4 hAn
  unfold f_Mo_next
  rw [o_559, g_559, bnd_s, h11]
  by_cases d : t = 400
  · left
    rw [if_pos (show nI t = 400 by rw [d]; rfl), show f_Mo_fail n 559 2 (K mi ml) = _ from fail_G hs hAn h11 h13, bnd_s]
    exact ⟨_, rfl, Dn_2 hA hx (by rw [rmO_i]; omega) h11, fl_FE⟩
  · right
    rw [if_neg (show ¬ nI t = 400 by rw [ie1 (n := 400) (by omega) (by omega)]; exact d), bnd_s, nI_1, p_559, bnd_s]
    exact ⟨by omega, Au_s hA hx (rmO_i.mpr ⟨by omega, hr⟩), rfl⟩
theorem PX_t {t' : Nat} (h : PX T z t w br W C mi) : PX T z t' w br W C (upd2 mi 559 11 (nI t')) := by
  obtain ⟨⟨h1, h2, h3⟩, ⟨h4, h5⟩, ⟨h6, h7⟩, h8⟩ := h
  refine ⟨⟨by rw [uE], by rw [u2, if_neg (by omega)]; exact h2, by rw [u2, if_neg (by omega)]; exact h3⟩, ⟨by rw [u2, if_neg (by omega)]; exact h4, WM_c (fun a j q1 q2 _ => by rw [upd2_ne (by omega)]) h5⟩, ⟨by rw [u2, if_neg (by omega)]; exact h6, CM_c (fun a j q1 q2 _ => by rw [upd2_ne (by omega)]) h7⟩, WsM_c (by rw [u2, if_neg (by omega)]) (by rw [u2, if_neg (by omega)]) h8⟩
/-! behind a fault -/
theorem Dn_b (h : Dn T z mi) : (mi 559 13 = nI 1 ∨ mi 559 13 = nI 2) ∧ ∃ t', t' ≤ 400 ∧ mi 559 11 = nI t' := by
  obtain ⟨t, s, _, h2, h3, _, h5⟩ := h
  refine ⟨?_, h5⟩
  rcases h2 with e | e
  · rw [e] at h3; exact Or.inl h3
  · rw [e] at h3; exact Or.inr h3
theorem Dn_ne (h : Dn T z mi) : ¬ mi 559 13 = 0 ∧ ¬ mi 559 13 ≤ 0 ∧ 0 < mi 559 13 := by
  rcases (Dn_b h).1 with e | e <;> rw [e] <;> decide
theorem Dn_c {mi' : IM} (h : Dn T z mi) (h3 : mi' 559 13 = mi 559 13) (h4 : mi' 559 14 = mi 559 14) (h1 : ∃ t', t' ≤ 400 ∧ mi' 559 11 = nI t') : Dn T z mi' := by
  obtain ⟨t, s, e1, e2, e3, e4, _⟩ := h
  exact ⟨t, s, e1, e2, by rw [h3]; exact e3, by rw [h4]; exact e4, h1⟩
theorem is_D {x : Int32} (h : Dn T z mi) : f_Mo_is n 559 x (K mi ml) = some (0, K mi ml) := by
  unfold f_Mo_is
  rw [o_559, g_559, bnd_s, if_neg (Dn_ne h).1]
theorem fail_D {x : Int32} (h : Dn T z mi) : f_Mo_fail n 559 x (K mi ml) = some (K mi ml) := by
  unfold f_Mo_fail
  rw [o_559, g_559, bnd_s, if_neg (Dn_ne h).2.1]
theorem next_D (h : Dn T z mi) : ∃ mi', f_Mo_next n 559 (K mi ml) = some (K mi' ml) ∧ Dn T z mi' ∧ FN mi mi' := by
  obtain ⟨t', h1, h2⟩ := (Dn_b h).2
  unfold f_Mo_next
  rw [o_559, g_559, bnd_s, h2]
  by_cases d : t' = 400
  · rw [if_pos (show nI t' = 400 by rw [d]; rfl), fail_D h, bnd_s]
    exact ⟨mi, rfl, h, FN.rf⟩
  · rw [if_neg (show ¬ nI t' = 400 by rw [ie1 (n := 400) (by omega) (by omega)]; exact d), bnd_s, nI_1, p_559, bnd_s]
    exact ⟨_, rfl, Dn_c h (by rw [u2, if_neg (by omega)]) (by rw [u2, if_neg (by omega)]) ⟨t' + 1, by omega, by rw [uE]⟩, FN.u (by omega)⟩
theorem must_D {x : Int32} (h : Dn T z mi) : f_Mo_must n 559 x (K mi ml) = some (K mi ml) := by
  unfold f_Mo_must
  rw [o_559, is_D h, bnd_s, if_pos (show (0 : Int32) = 0 from rfl), fail_D h, bnd_s]
theorem number_D {x y : Int32} (h : Dn T z mi) : f_Mo_number n 559 x y (K mi ml) = some (0, K mi ml) := by
  unfold f_Mo_number f_Mo_number_26
  rw [o_559, g_559, bnd_s, is_D h, bnd_s, if_pos (show (0 : Int32) = 0 from rfl), must_D h, bnd_s, g_559, bnd_s, if_neg (Dn_ne h).1]
theorem signed_D (h : Dn T z mi) : f_Mo_signed n 559 (K mi ml) = some (1 * 0, K mi ml) := by
  unfold f_Mo_signed f_Mo_signed_14 f_Mo_signed_28
  rw [o_559, is_D h, bnd_s, if_pos (show (0 : Int32) = 0 from rfl), is_D h, bnd_s, if_pos (show (0 : Int32) = 0 from rfl), number_D h, bnd_s]
theorem unit114_D {x1 : Int32} (h : Dn T z mi) : ∃ mi', f_Mo_unit_114 n 559 x1 (K mi ml) = some (K mi' ml) ∧ Dn T z mi' ∧ FN mi mi' := by
  obtain ⟨mi', e1, e2, e3⟩ := next_D (n := n) (ml := ml) h
  unfold f_Mo_unit_114 f_Mo_unit_187
  refine ⟨mi', ?_, e2, e3⟩
  rw [e1, bnd_s, number_D e2, bnd_s, number_D e2, bnd_s]
  by_cases c : x1 = 27
  · rw [if_pos c, number_D e2, bnd_s, number_D e2, bnd_s, g_559, bnd_s, if_neg (Dn_ne e2).1]
  · rw [if_neg c]
    by_cases d : x1 ≤ 26
    · rw [if_pos d, g_559, bnd_s, if_neg (Dn_ne e2).1]
    · rw [if_neg d, number_D e2, bnd_s, g_559, bnd_s, if_neg (Dn_ne e2).1]
theorem unit_D (h : Dn T z mi) : ∃ mi', f_Mo_unit n 559 (K mi ml) = some (K mi' ml) ∧ Dn T z mi' ∧ FN mi mi' := by
  obtain ⟨t', h1, h2⟩ := (Dn_b h).2
  unfold f_Mo_unit
  rw [o_559, rf_559_5, bnd_s, g_559, bnd_s, h2, a_562 (by omega), bnd_s, bnd_s, is_D h, bnd_s, if_pos (show (0 : Int32) = 0 from rfl), g_559, bnd_s, if_neg (Dn_ne h).1]
  exact unit114_D h
end PAR
