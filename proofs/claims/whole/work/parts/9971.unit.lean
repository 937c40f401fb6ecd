/-! ===== the reference's parser: a unit ===== -/
abbrev XT (T : Nat → Nat) (z t : Nat) : XS := Xm (kd T z) (vT T z) (uT T z) (tP T z) t
def nmT (T : Nat → Nat) (z i : Nat) : Nat := cB 27 T (tP T z i) (te T z (tP T z i) - tP T z i)
theorem nmT_b {T : Nat → Nat} {z i : Nat} (h : kd T z i = 2) : nmT T z i < 2 ^ 63 := by
  obtain ⟨_, h1, h2⟩ := kd_2 h
  have h3 := cB_lt (B := 27) (T := T) (p := tP T z i) (by omega) _ h2
  have h4 : 27 ^ (te T z (tP T z i) - tP T z i) ≤ 27 ^ 8 := Nat.pow_le_pow_right (by omega) h1
  exact Nat.lt_trans (Nat.lt_of_lt_of_le h3 h4) (by decide)
theorem nmT_e {T : Nat → Nat} {z i j : Nat} (h : kd T z i = 2) (h' : kd T z j = 2) : nmT T z i = nmT T z j ↔ uT T z i = uT T z j := (cB_two (kd_2 h).2.2 (kd_2 h').2.2).symm
def fo : Option Nat → Int
  | none => -1
  | some j => (j : Int)
theorem fdI_fo {k u : Nat → Nat} {t : Nat} : fdI k u t = fo (fdN k u t) := by
  unfold fdI
  cases fdN k u t <;> rfl
def TN (T : Nat → Nat) (z : Nat) (N : List Nat) (mi : IM) (ml : JM) : Prop := mi 559 23 = nI N.length ∧ ∀ j, j < N.length → ml 570 j = l64 (nmT T z (N.getD j 0))
theorem TN_c {T : Nat → Nat} {z : Nat} {N : List Nat} {mi mi' : IM} {ml : JM} (h : TN T z N mi ml) (hf : FE mi mi') : TN T z N mi' ml := ⟨by rw [hf _ _ (by omega) (by omega)]; exact h.1, h.2⟩
def un6 (n : Nat) (x1 a b : Int32) (M : MM) : Option MM :=
  if x1 = 27 then
    (f_Mo_number n 559 1 (8 - a) M).bind fun p8 =>
    (f_Mo_number n 559 1 (8 - b) p8.2).bind fun p9 =>
    f_Mo_unit_187 n 559 x1 a b p8.1 p9.1 p9.2
  else
    if x1 ≤ 26 then
      f_Mo_unit_187 n 559 x1 a b 0 0 M
    else
      (f_Mo_number n 559 0 3 M).bind fun p11 =>
      f_Mo_unit_187 n 559 x1 a b p11.1 0 p11.2
def un5 (n : Nat) (x1 a : Int32) (M : MM) : Option MM := (f_Mo_number n 559 0 7 M).bind fun p6 => un6 n x1 a p6.1 p6.2
theorem xs_6 {k v u p : Nat → Nat} {t lf : Nat} {x : XS} (h : lf ≠ 1) : xs k v u p t 6 lf x = x := by simp [xs, h]
theorem xs_61 {k v u p : Nat → Nat} {t : Nat} {x : XS} (h : k t = 3) : xs k v u p t 6 1 x = ((cO x.1 (x.2.1 ++ [uCd k v (uIx k t)])).1, (cO x.1 (x.2.1 ++ [uCd k v (uIx k t)])).2, x.2.2) := by simp [xs, h]
section UNI
variable {n z c t w br : Nat} {mi : IM} {ml : JM} {T : Nat → Nat} {W : List Wt} {C : List Cd} {N : List Nat} {s s' : SyS}
theorem u187_D {x a b d e : Int32} (h : Dn T z mi) : f_Mo_unit_187 n 559 x a b d e (K mi ml) = some (K mi ml) := by
  unfold f_Mo_unit_187
  rw [g_559, bnd_s, if_neg (Dn_ne h).1]
theorem un6_D {x a b : Int32} (h : Dn T z mi) : un6 n x a b (K mi ml) = some (K mi ml) := by
  unfold un6
  by_cases c : x = 27
  · rw [if_pos c, number_D h, bnd_s, number_D h, bnd_s, u187_D h]
  · rw [if_neg c]
    by_cases d : x ≤ 26
    · rw [if_pos d, u187_D h]
    · rw [if_neg d, number_D h, bnd_s, u187_D h]
theorem un5_D {x a : Int32} (h : Dn T z mi) : un5 n x a (K mi ml) = some (K mi ml) := by
  unfold un5
  rw [number_D h, bnd_s, un6_D h]
theorem unit33 {k9 : Nat → Int32 → Int32 → MM → Option MM} (hL : N.length ≤ 14) (hN : ∀ j, j < N.length → kd T z (N.getD j 0) = 2) (hk : kd T z t = 2) (h5 : ml 565 t = l64 (nmT T z t)) (ht : t < 403) (h70 : ∀ j, j < N.length → ml 570 j = l64 (nmT T z (N.getD j 0))) : ∀ i m, i ≤ N.length → i < m → f_Mo_unit_33 n k9 m 559 (nI t) (iZ (fo (fnd (fun j => uT T z (N.getD j 0) == uT T z t) (N.length - i) i))) (iZ ((i : Int) - 1)) (K mi ml) = k9 559 (nI t) (iZ (fo (fnd (fun j => uT T z (N.getD j 0) == uT T z t) N.length 0))) (K mi ml) := by
  intro i
  induction i with
  | zero =>
    intro m h1 h2
    cases m with
    | zero => omega
    | succ m => rw [f_Mo_unit_33, if_pos (by decide), Nat.sub_zero]
  | succ i ih =>
    intro m h1 h2
    cases m with
    | zero => omega
    | succ m =>
      have e1 : iZ (((i + 1 : Nat) : Int) - 1) = nI i := by rw [iZ_nat]; congr 1; omega
      have e2 : nI i + (-1) = iZ ((i : Int) - 1) := by rw [show (-1 : Int32) = iZ (-1) from rfl, iZ_na]; congr 1
      have ih := ih m (by omega) (by omega)
      rw [show N.length - i = (N.length - (i + 1)) + 1 by omega, fnd_s] at ih
      rw [f_Mo_unit_33, e1, if_neg (inN (by omega)), rf_559_24, bnd_s, a_570 (by omega), bnd_s, rf_559_8, bnd_s, a_565 ht, bnd_s, h70 i (by omega), h5]
      have heq : lcp (l64 (nmT T z (N.getD i 0))) (l64 (nmT T z t)) = 0 ↔ uT T z (N.getD i 0) = uT T z t := by
        rw [lcp_0, l64_eq (nmT_b (hN i (by omega))) (nmT_b hk), nmT_e (hN i (by omega)) hk]
      unfold f_Mo_unit_58
      by_cases e : uT T z (N.getD i 0) = uT T z t
      · rw [if_pos (heq.mpr e), e2]
        rw [if_pos (by simpa using e)] at ih
        rw [show nI i = iZ (fo (some i)) from iZ_nat i]
        exact ih
      · rw [if_neg (fun q => e (heq.mp q)), e2]
        rw [if_neg (by simpa using e)] at ih
        exact ih
theorem emit_D {x a b d e pl : Int32} {l : Nat} (hD : Dn T z mi) (h6 : mi 559 29 = nI l) (hl : l < 500) : ∃ mi', f_Mo_emit n 559 x a b d e pl (K mi ml) = some (K mi' ml) ∧ Dn T z mi' ∧ FE mi mi' ∧ mi' 559 40 = mi 559 40 ∧ mi' 559 29 = nI (l + 1) := by
  unfold f_Mo_emit
  rw [o_559, rf_559_30, bnd_s, g_559, bnd_s, h6, s_575 hl, bnd_s, nrw100, rf_559_31, bnd_s, g_559, bnd_s, upd2_ne (by omega), h6, s_576 hl, bnd_s, nrw100, rf_559_32, bnd_s, g_559, bnd_s, upd2_ne (by omega), upd2_ne (by omega), h6, s_577 hl, bnd_s, nrw100, rf_559_33, bnd_s, g_559, bnd_s, upd2_ne (by omega), upd2_ne (by omega), upd2_ne (by omega), h6, s_578 hl, bnd_s, nrw100, rf_559_34, bnd_s, g_559, bnd_s, upd2_ne (by omega), upd2_ne (by omega), upd2_ne (by omega), upd2_ne (by omega), h6, s_579 hl, bnd_s, nrw100, rf_559_35, bnd_s, g_559, bnd_s, upd2_ne (by omega), upd2_ne (by omega), upd2_ne (by omega), upd2_ne (by omega), upd2_ne (by omega), h6, s_580 hl, bnd_s, nrw100, g_559, bnd_s, upd2_ne (by omega), upd2_ne (by omega), upd2_ne (by omega), upd2_ne (by omega), upd2_ne (by omega), upd2_ne (by omega), h6, nI_1, p_559, bnd_s]
  obtain ⟨t', x1, x2⟩ := (Dn_b hD).2
  have f : ∀ a' j, ¬ (a' = 559 ∧ j = 29) → ¬ (575 ≤ a' ∧ a' ≤ 580) → upd2 (upd2 (upd2 (upd2 (upd2 (upd2 (upd2 mi 575 l x) 576 l a) 577 l b) 578 l d) 579 l e) 580 l pl) 559 29 (nI (l + 1)) a' j = mi a' j := fun a' j q1 q2 => by
    rw [u2, if_neg (by omega), u2, if_neg (by omega), u2, if_neg (by omega), u2, if_neg (by omega), u2, if_neg (by omega), u2, if_neg (by omega), u2, if_neg (by omega)]
  exact ⟨_, rfl, Dn_c hD (f _ _ (by omega) (by omega)) (f _ _ (by omega) (by omega)) ⟨t', x1, by rw [f _ _ (by omega) (by omega)]; exact x2⟩, fun a' j q1 q2 => f a' j (by omega) (by omega), f _ _ (by omega) (by omega), by rw [uE]⟩
theorem unitN_G (hz : z ≤ 2000) (hn : 500 < n) (hs : SL T z c mi ml) (hP : PX T z t t br W C mi) (hA : Au (kd T z) t = some s) (h3 : s.1 = 3) (hk : kd T z t = 2) (hTN : TN T z (cN (kd T z) t) mi ml) (hC : C.length < 500) : (∃ mi', f_Mo_unit n 559 (K mi ml) = some (K mi' ml) ∧ Dn T z mi' ∧ FE mi mi') ∨ (Au (kd T z) (t + 1) = some (7, s.2) ∧ ∃ mi', f_Mo_unit n 559 (K mi ml) = some (K mi' ml) ∧ PX T z (t + 1) (t + 1) br W (C ++ [(0, fdI (kd T z) (uT T z) t, 0, 0, 0, 0)]) mi' ∧ FE mi mi') := by
  have hAn : Au (kd T z) t ≠ none := by rw [hA]; intro q; cases q
  have hc := tok_lt hs hAn
  have hc4 := hs.2.1
  have hb := Au_i hA
  obtain ⟨_, i2, i3⟩ := Au_N hA
  have h11 := hP.1.1
  have h13 := hP.1.2.1
  have hlen : (cN (kd T z) t).length ≤ 14 := by omega
  have hno : ¬ tell (kd T z) t = true := fun q => by have := (Au_t hA).1.mp q; omega
  have hU : f_Mo_unit_33 n (f_Mo_unit_64 n) n 559 (nI t) (-1) (nI (cN (kd T z) t).length - 1) (K mi ml) = f_Mo_unit_64 n 559 (nI t) (iZ (fdI (kd T z) (uT T z) t)) (K mi ml) := by
    have h := unit33 (n := n) (mi := mi) (k9 := f_Mo_unit_64 n) hlen (fun j hj => (i2 j hj).1) hk ((hs.1.2 t hc.1).2.2.2 hk) (by omega) hTN.2 (cN (kd T z) t).length n (Nat.le_refl _) (by omega)
    rw [Nat.sub_self] at h
    rw [show nI (cN (kd T z) t).length - 1 = iZ (((cN (kd T z) t).length : Int) - 1) by rw [iZ_nat]; exact iZ_sub _ 1, fdI_fo]
    exact h
  unfold f_Mo_unit
  rw [o_559, rf_559_5, bnd_s, g_559, bnd_s, h11, a_562 (by omega), bnd_s, bnd_s, show f_Mo_is n 559 1 (K mi ml) = _ from is_G (x := 2) hs hAn h11 h13 (by decide), bnd_s, decide_eq_true hk, if_neg (show ¬ b2i true = 0 by decide), g_559, bnd_s, hTN.1, nm_t, hU]
  have fin : ∀ m1, PX T z t (t + 1) br W C m1 → FE mi m1 → (∃ mi', f_Mo_unit_75 n 559 (iZ (fdI (kd T z) (uT T z) t)) (K m1 ml) = some (K mi' ml) ∧ Dn T z mi' ∧ FE mi mi') ∨ (Au (kd T z) (t + 1) = some (7, s.2) ∧ ∃ mi', f_Mo_unit_75 n 559 (iZ (fdI (kd T z) (uT T z) t)) (K m1 ml) = some (K mi' ml) ∧ PX T z (t + 1) (t + 1) br W (C ++ [(0, fdI (kd T z) (uT T z) t, 0, 0, 0, 0)]) mi' ∧ FE mi mi') := fun m1 hP1 hF => by
    unfold f_Mo_unit_75
    rcases next_G (n := n) (s' := (7, s.2)) (SL_c hF hs) hA hP1.1.1 hP1.1.2.1 (by rw [hk]; simp [nx, h3]) ⟨hb.2.2.2.1, hb.2.2.2.2.1, hb.2.2.2.2.2.1⟩ with ⟨m2, e1, e2, e3⟩ | ⟨e0, e1, e2⟩
    · left
      obtain ⟨m3, f1, f2, f3, _⟩ := emit_D (n := n) (ml := ml) (x := 0) (a := iZ (fdI (kd T z) (uT T z) t)) (b := 0) (d := 0) (e := 0) (pl := 0) e2 (show m2 559 29 = nI C.length by rw [e3 _ _ (by omega)]; exact hP1.2.2.1.1) hC
      rw [e1, bnd_s, f1, bnd_s]
      exact ⟨m3, rfl, f2, (hF.tr e3.fe).tr f3⟩
    · right
      refine ⟨e1, ?_⟩
      obtain ⟨m3, f1, f2, f3⟩ := emit_G (n := n) (ml := ml) (op := 0) (pl := 0) (a := fdI (kd T z) (uT T z) t) (b := 0) (d := 0) (e := 0) (PX_t (t' := t + 1) hP1) hC
      rw [e2, bnd_s, show f_Mo_emit n 559 0 (iZ (fdI (kd T z) (uT T z) t)) 0 0 0 0 (K (upd2 m1 559 11 (nI (t + 1))) ml) = _ from f1, bnd_s]
      exact ⟨m3, rfl, f2, (hF.tr (FE.u (by omega))).tr f3⟩
  unfold f_Mo_unit_64
  cases e : fdN (kd T z) (uT T z) t with
  | none =>
    have hI : fdI (kd T z) (uT T z) t = -1 := by rw [fdI_fo, e]; rfl
    have hm : mf (kd T z) (vT T z) (uT T z) t = 4 := by
      unfold mf told
      rw [if_pos hk, if_neg hno, e, if_neg (by decide)]
    obtain ⟨m1, x1, x2, x3⟩ := wrong_G (n := n) (F := 4) hz hs hc.1 h13 hP.2.2.2 hm (by omega) (kd_2 hk).1
    rw [if_pos (show iZ (fdI (kd T z) (uT T z) t) = -1 by rw [hI]; rfl), show f_Mo_wrong n 559 4 (nI t) (K mi ml) = _ from x1, bnd_s]
    exact fin m1 (PX_w hP x3 x2) (fun a j q1 q2 => x3 a j (by omega))
  | some j =>
    have hI : fdI (kd T z) (uT T z) t = (j : Int) := by rw [fdI_fo, e]; rfl
    have hj := (fnd_some e).2.1
    have hm : mf (kd T z) (vT T z) (uT T z) t = 0 := by
      unfold mf told
      rw [if_pos hk, if_neg hno, e, if_pos (show (some j).isSome = true from rfl)]
    rw [if_neg (show ¬ iZ (fdI (kd T z) (uT T z) t) = -1 by rw [hI]; show ¬ iZ (j : Int) = iZ (-1); rw [iZ_eq (by omega) (by omega) (by omega) (by omega)]; omega)]
    exact fin mi (PX_w hP (fun _ _ _ => rfl) (WsM_0 hm hP.2.2.2)) FE.rf
theorem num6 {q : Nat} {r : Nat × Nat × Nat} {lo : Nat} {hi : Int} (hz : z ≤ 2000) (hs : SL T z c mi ml) (hP : PX T z t t br W C mi) (hA : Au (kd T z) t = some (6, q, r)) (hm : ∀ x, x < 100 → (nF (mW (kd T z) (vT T z) t) x = true ↔ x < lo ∨ hi < (x : Int))) (hlo : lo ≤ 1) (hh : -200 ≤ hi ∧ hi ≤ 200) : (∃ mi' x, f_Mo_number n 559 (nI lo) (iZ hi) (K mi ml) = some (x, K mi' ml) ∧ Dn T z mi' ∧ FN mi mi') ∨ (kd T z t = 3 ∧ Au (kd T z) (t + 1) = some (if 1 < q then 6 else 7, q - 1, r) ∧ ∃ mi', f_Mo_number n 559 (nI lo) (iZ hi) (K mi ml) = some (nI (vT T z t), K mi' ml) ∧ PX T z (t + 1) (t + 1) br W C mi' ∧ FN mi mi') := by
  rcases number_G (n := n) hz hs hP hA (Or.inr (Or.inr rfl)) (fun q => by simp only [] at q; omega) hm hlo hh with h | ⟨h1, h2, h3⟩
  · exact Or.inl h
  · exact Or.inr ⟨h1, by simpa using h2, h3⟩
theorem mW_3 {j : Nat} {k v : Nat → Nat} (q : k j = 3) : mW k v (j + 1) = ((mW k v j).1, (mW k v j).2.1 + 1, if (mW k v j).2.1 = 0 then v j else (mW k v j).2.2.1, if (mW k v j).2.1 = 1 then v j else (mW k v j).2.2.2) := by rw [mW, if_neg (by omega), if_pos q]
theorem unitC_G (hz : z ≤ 2000) (hs : SL T z c mi ml) (hP : PX T z t t br W C mi) (hA : Au (kd T z) t = some s) (h3 : s.1 = 3) (hk : 16 ≤ kd T z t ∧ kd T z t ≤ 19) (hC : C.length < 500) : (∃ mi', f_Mo_unit n 559 (K mi ml) = some (K mi' ml) ∧ Dn T z mi' ∧ FE mi mi') ∨ (∃ t' lf, t < t' ∧ Au (kd T z) t' = some (7, lf, s.2.2) ∧ XT T z t' = ((cO (XT T z t).1 ((XT T z t).2.1 ++ [uCd (kd T z) (vT T z) t])).1, (cO (XT T z t).1 ((XT T z t).2.1 ++ [uCd (kd T z) (vT T z) t])).2, (XT T z t).2.2) ∧ ∃ mi', f_Mo_unit n 559 (K mi ml) = some (K mi' ml) ∧ PX T z t' t' br W (C ++ [uCd (kd T z) (vT T z) t]) mi' ∧ FE mi mi') := by
  have hAn : Au (kd T z) t ≠ none := by rw [hA]; intro q; cases q
  have hc := tok_lt hs hAn
  have hc4 := hs.2.1
  have hb := Au_i hA
  have h11 := hP.1.1
  have h13 := hP.1.2.1
  have hmk : mK (kd T z t) = kd T z t + 10 := by unfold mK; rw [if_neg (by omega), if_neg (by omega), if_neg (by omega), if_neg (by omega), if_pos (by omega)]
  have hmf : mf (kd T z) (vT T z) (uT T z) t = 0 := by unfold mf; rw [if_neg (by omega), if_neg (by omega)]
  have w1 : mW (kd T z) (vT T z) (t + 1) = (kd T z t, 0, (mW (kd T z) (vT T z) t).2.2) := by rw [mW, if_pos (by omega)]
  have X1 : XT T z (t + 1) = XT T z t := by
    show Xm _ _ _ _ (t + 1) = _
    rw [Xm_s hA]; unfold xs; rw [if_pos h3, if_neg (by omega), if_neg (by omega), if_neg (by omega)]
  unfold f_Mo_unit
  rw [o_559, rf_559_5, bnd_s, g_559, bnd_s, h11, a_562 (by omega), bnd_s, bnd_s, show f_Mo_is n 559 1 (K mi ml) = _ from is_G (x := 2) hs hAn h11 h13 (by decide), bnd_s, decide_eq_false (show ¬ kd T z t = 2 by omega), if_pos (show b2i false = 0 from rfl), g_559, bnd_s, h13, if_pos (show (0 : Int32) = 0 from rfl), (hs.1.2 t hc.1).1, hmk, if_neg (by rw [it2 (n := 26) (by omega) (by omega)]; omega), if_pos (by rw [il2 (n := 29) (by omega) (by omega)]; omega), show f_Mo_unit_114 n 559 (nI (kd T z t + 10)) (K mi ml) = (f_Mo_next n 559 (K mi ml)).bind fun M4 => (f_Mo_number n 559 0 7 M4).bind fun p5 => un5 n (nI (kd T z t + 10)) p5.1 p5.2 from rfl]
  obtain ⟨q, hq, hnx⟩ : ∃ q, (q = if kd T z t = 16 then 2 else if kd T z t = 17 then 4 else 3) ∧ nx s (kd T z t) = some (6, q, s.2.2) := by
    refine ⟨_, rfl, ?_⟩
    obtain d | d | d | d : kd T z t = 16 ∨ kd T z t = 17 ∨ kd T z t = 18 ∨ kd T z t = 19 := by omega
    · simp [nx, h3, d]
    · simp [nx, h3, d]
    · simp [nx, h3, d]
    · simp [nx, h3, d]
  have hq2 : 2 ≤ q := by rw [hq]; split <;> (try split) <;> omega
  have fin : ∀ t' m (a b : Int), FE mi m → PX T z t' t' br W C m → ((kd T z t - 15, (vT T z (t + 1) : Int), (vT T z (t + 2) : Int), a, b, 0) : Cd) = uCd (kd T z) (vT T z) t → ∃ mi', f_Mo_unit_187 n 559 (nI (kd T z t + 10)) (nI (vT T z (t + 1))) (nI (vT T z (t + 2))) (iZ a) (iZ b) (K m ml) = some (K mi' ml) ∧ PX T z t' t' br W (C ++ [uCd (kd T z) (vT T z) t]) mi' ∧ FE mi mi' := fun t' m a b hF hPm e => by
    obtain ⟨m3, f1, f2, f3⟩ := emit_G (n := n) (ml := ml) (op := kd T z t - 15) (pl := 0) (a := (vT T z (t + 1) : Int)) (b := (vT T z (t + 2) : Int)) (d := a) (e := b) hPm hC
    rw [e] at f2
    unfold f_Mo_unit_187
    rw [g_559, bnd_s, hPm.1.2.1, if_pos (show (0 : Int32) = 0 from rfl), is1 (n := 26) (by omega), nI_1, show kd T z t + 10 - 26 + 1 = kd T z t - 15 by omega, iZ_nat (vT T z (t + 1)), iZ_nat (vT T z (t + 2)), show f_Mo_emit n 559 (nI (kd T z t - 15)) (iZ (vT T z (t + 1) : Int)) (iZ (vT T z (t + 2) : Int)) (iZ a) (iZ b) 0 (K m ml) = _ from f1, bnd_s]
    exact ⟨m3, rfl, f2, hF.tr f3⟩
  rcases next_G (n := n) hs hA h11 h13 hnx ⟨hb.2.2.2.1, hb.2.2.2.2.1, hb.2.2.2.2.2.1⟩ with ⟨m1, e1, e2, e3⟩ | ⟨e0, e1, e2⟩
  · left
    rw [e1, bnd_s, number_D e2, bnd_s, un5_D e2]
    exact ⟨m1, rfl, e2, e3.fe⟩
  rw [e2, bnd_s]
  have hP1 : PX T z (t + 1) (t + 1) br W C (upd2 mi 559 11 (nI (t + 1))) := PX_w (PX_t hP) (fun _ _ _ => rfl) (WsM_0 hmf (WsM_c (by rw [u2, if_neg (by omega)]) (by rw [u2, if_neg (by omega)]) hP.2.2.2))
  have hF1 : FE mi (upd2 mi 559 11 (nI (t + 1))) := FE.u (by omega)
  generalize upd2 mi 559 11 (nI (t + 1)) = m1 at hP1 hF1
  have l7 : ∀ {w : Nat × Nat × Nat × Nat} {x : Nat}, w.2.1 < 2 → (nF w x = true ↔ x < 0 ∨ (7 : Int) < (x : Int)) := fun {w x} q => by
    unfold nF
    rw [decide_eq_true_iff, if_pos q]; omega
  rcases num6 (n := n) (lo := 0) (hi := 7) hz (SL_c hF1 hs) hP1 e1 (fun x _ => l7 (by rw [w1]; show 0 < 2; omega)) (by omega) (by omega) with ⟨m2, x, f1, f2, f3⟩ | ⟨k1, A2, m2, f1, hP2, f3⟩
  · left
    rw [show f_Mo_number n 559 0 7 (K m1 ml) = _ from f1, bnd_s, un5_D f2]
    exact ⟨m2, rfl, f2, hF1.tr f3.fe⟩
  rw [show f_Mo_number n 559 0 7 (K m1 ml) = _ from f1, bnd_s]
  have hF2 := hF1.tr f3.fe
  rw [if_pos (by omega)] at A2
  have w2 : mW (kd T z) (vT T z) (t + 1 + 1) = (kd T z t, 1, vT T z (t + 1), (mW (kd T z) (vT T z) t).2.2.2) := by rw [mW_3 k1, w1]; rfl
  have X2 : XT T z (t + 1 + 1) = XT T z t := ((Xm_s e1).trans (xs_6 (show q ≠ 1 by omega))).trans X1
  unfold un5
  rcases num6 (n := n) (lo := 0) (hi := 7) hz (SL_c hF2 hs) hP2 A2 (fun x _ => l7 (by rw [w2]; show 1 < 2; omega)) (by omega) (by omega) with ⟨m3, x, f1, f2, f3⟩ | ⟨k2, A3, m3, f1, hP3, f3⟩
  · left
    rw [show f_Mo_number n 559 0 7 (K m2 ml) = _ from f1, bnd_s, un6_D f2]
    exact ⟨m3, rfl, f2, hF2.tr f3.fe⟩
  rw [show f_Mo_number n 559 0 7 (K m2 ml) = _ from f1, bnd_s]
  have hF3 := hF2.tr f3.fe
  have w3 : mW (kd T z) (vT T z) (t + 1 + 1 + 1) = (kd T z t, 2, vT T z (t + 1), vT T z (t + 2)) := by rw [mW_3 k2, w2]; rfl
  unfold un6
  by_cases d16 : kd T z t = 16
  · right
    have hq2 : q = 2 := by rw [hq, if_pos d16]
    rw [hq2] at A2 A3
    have X3 := (Xm_s (v := vT T z) (u := uT T z) (p := tP T z) A2).trans (xs_61 k2)
    rw [show uIx (kd T z) (t + 1 + 1) = t by unfold uIx; rw [if_pos (by rw [show t + 1 + 1 - 2 = t by omega]; exact d16)]; omega] at X3
    rw [show Xm (kd T z) (vT T z) (uT T z) (tP T z) (t + 1 + 1) = XT T z t from X2] at X3
    refine ⟨t + 1 + 1 + 1, 0, by omega, by simpa using A3, X3, ?_⟩
    rw [if_neg (show ¬ nI (kd T z t + 10) = 27 by rw [d16]; decide), if_pos (show nI (kd T z t + 10) ≤ 26 by rw [d16]; decide)]
    exact fin _ m3 0 0 hF3 hP3 (by unfold uCd; rw [if_pos d16, if_neg (by omega)])
  have hq3 : q = 3 ∨ q = 4 := by rw [hq, if_neg d16]; split <;> omega
  rw [if_pos (by omega)] at A3
  have X3 : XT T z (t + 1 + 1 + 1) = XT T z t := ((Xm_s A2).trans (xs_6 (show q - 1 ≠ 1 by omega))).trans X2
  by_cases d17 : kd T z t = 17
  · have hq4 : q = 4 := by rw [hq, if_neg d16, if_pos d17]
    subst hq4
    rw [if_pos (show nI (kd T z t + 10) = 27 by rw [d17]; decide)]
    have hv1 := (kd_3 k1).2
    have hv2 := (kd_3 k2).2
    have e8 : ∀ v : Nat, (8 : Int32) - nI v = iZ (8 - (v : Int)) := fun v => by rw [iZ_nat]; exact iZ_sub 8 _
    rcases num6 (n := n) (lo := 1) (hi := 8 - (vT T z (t + 1) : Int)) hz (SL_c hF3 hs) hP3 A3 (fun x _ => by
      rw [w3]; unfold nF; rw [decide_eq_true_iff]; simp only []; rw [if_neg (by omega), if_pos d17, if_pos trivial]; omega) (by omega) (by omega) with ⟨m4, x, f1, f2, f3⟩ | ⟨k3, A4, m4, f1, hP4, f3⟩
    · left
      rw [e8, show f_Mo_number n 559 1 (iZ (8 - (vT T z (t + 1) : Int))) (K m3 ml) = _ from f1, bnd_s, number_D f2, bnd_s, u187_D f2]
      exact ⟨m4, rfl, f2, hF3.tr f3.fe⟩
    rw [e8, show f_Mo_number n 559 1 (iZ (8 - (vT T z (t + 1) : Int))) (K m3 ml) = _ from f1, bnd_s]
    have hF4 := hF3.tr f3.fe
    have w4 : mW (kd T z) (vT T z) (t + 1 + 1 + 1 + 1) = (kd T z t, 3, vT T z (t + 1), vT T z (t + 2)) := by rw [mW_3 k3, w3]; rfl
    have X4 : XT T z (t + 1 + 1 + 1 + 1) = XT T z t := ((Xm_s A3).trans (xs_6 (show 4 - 1 - 1 ≠ 1 by omega))).trans X3
    rcases num6 (n := n) (lo := 1) (hi := 8 - (vT T z (t + 2) : Int)) hz (SL_c hF4 hs) hP4 A4 (fun x _ => by
      rw [w4]; unfold nF; rw [decide_eq_true_iff]; simp only []; rw [if_neg (by omega), if_pos d17, if_neg (by omega)]; omega) (by omega) (by have : vT T z (t + 1 + 1) = vT T z (t + 2) := rfl; omega) with ⟨m5, x, f1, f2, f3⟩ | ⟨k4, A5, m5, f1, hP5, f3⟩
    · left
      rw [e8, show f_Mo_number n 559 1 (iZ (8 - (vT T z (t + 1 + 1) : Int))) (K m4 ml) = _ from f1, bnd_s, u187_D f2]
      exact ⟨m5, rfl, f2, hF4.tr f3.fe⟩
    rw [e8, show f_Mo_number n 559 1 (iZ (8 - (vT T z (t + 1 + 1) : Int))) (K m4 ml) = _ from f1, bnd_s]
    right
    have X5 := (Xm_s (v := vT T z) (u := uT T z) (p := tP T z) A4).trans (xs_61 k4)
    rw [show uIx (kd T z) (t + 1 + 1 + 1 + 1) = t by unfold uIx; rw [if_neg (by rw [show t + 1 + 1 + 1 + 1 - 2 = t + 1 + 1 by omega]; omega), if_neg (by rw [show t + 1 + 1 + 1 + 1 - 3 = t + 1 by omega]; omega)]; omega] at X5
    rw [show Xm (kd T z) (vT T z) (uT T z) (tP T z) (t + 1 + 1 + 1 + 1) = XT T z t from X4] at X5
    refine ⟨t + 1 + 1 + 1 + 1 + 1, 0, by omega, by simpa using A5, X5, ?_⟩
    rw [iZ_nat (vT T z (t + 1 + 1 + 1)), iZ_nat (vT T z (t + 1 + 1 + 1 + 1))]
    exact fin _ m5 _ _ (hF4.tr f3.fe) hP5 (by unfold uCd; rw [if_neg d16, if_pos d17])
  · have hq4 : q = 3 := by rw [hq, if_neg d16, if_neg d17]
    subst hq4
    rw [if_neg (show ¬ nI (kd T z t + 10) = 27 by rw [ie1 (n := 27) (by omega) (by omega)]; omega), if_neg (show ¬ nI (kd T z t + 10) ≤ 26 by rw [il2 (n := 26) (by omega) (by omega)]; omega)]
    rcases num6 (n := n) (lo := 0) (hi := 3) hz (SL_c hF3 hs) hP3 A3 (fun x _ => by
      rw [w3]; unfold nF; rw [decide_eq_true_iff]; simp only []; rw [if_neg (by omega), if_neg d17]; omega) (by omega) (by omega) with ⟨m4, x, f1, f2, f3⟩ | ⟨k3, A4, m4, f1, hP4, f3⟩
    · left
      rw [show f_Mo_number n 559 0 3 (K m3 ml) = _ from f1, bnd_s, u187_D f2]
      exact ⟨m4, rfl, f2, hF3.tr f3.fe⟩
    rw [show f_Mo_number n 559 0 3 (K m3 ml) = _ from f1, bnd_s]
    right
    have X4 := (Xm_s (v := vT T z) (u := uT T z) (p := tP T z) A3).trans (xs_61 k3)
    rw [show uIx (kd T z) (t + 1 + 1 + 1) = t by unfold uIx; rw [if_neg (by rw [show t + 1 + 1 + 1 - 2 = t + 1 by omega]; omega), if_pos (by rw [show t + 1 + 1 + 1 - 3 = t by omega]; omega)]; omega] at X4
    rw [show Xm (kd T z) (vT T z) (uT T z) (tP T z) (t + 1 + 1 + 1) = XT T z t from X3] at X4
    refine ⟨t + 1 + 1 + 1 + 1, 0, by omega, by simpa using A4, X4, ?_⟩
    rw [iZ_nat (vT T z (t + 1 + 1 + 1))]
    exact fin _ m4 _ 0 (hF3.tr f3.fe) hP4 (by unfold uCd; rw [if_neg d16, if_neg d17])
end UNI
