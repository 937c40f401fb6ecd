/-! ===== the reference's parser: a thing told ===== -/
section THG
variable {k v u p : Nat → Nat} {t : Nat} {s s' : SyS}
theorem xs_G {st lf : Nat} {x : XS} (h : ¬ (st = 7 ∧ k t = 59)) : (xs k v u p t st lf x).2.2 = x.2.2 := by
  unfold xs
  repeat' split
  all_goals first | rfl | (exfalso; omega)
theorem cO_2 : ∀ (W : List Wt) (C : List Cd), ∃ D, (cO W C).2 = C ++ D
  | [], C => ⟨[], by rw [List.append_nil]; rfl⟩
  | w :: W, C => by
    rw [cO]
    by_cases c : w.1 = 40
    · rw [if_pos c]; exact ⟨[], by rw [List.append_nil]⟩
    · rw [if_neg c]
      obtain ⟨D, hD⟩ := cO_2 W (C ++ [wC w])
      exact ⟨[wC w] ++ D, by rw [hD, List.append_assoc]⟩
theorem xs_C {st lf : Nat} {x : XS} (h : ¬ (st = 7 ∧ k t = 59)) : ∃ D, (xs k v u p t st lf x).2.1 = x.2.1 ++ D := by
  have o : ∀ c : Cd, ∃ D, (cO x.1 (x.2.1 ++ [c])).2 = x.2.1 ++ D := fun c => by
    obtain ⟨D, hD⟩ := cO_2 x.1 (x.2.1 ++ [c])
    exact ⟨[c] ++ D, by rw [hD, List.append_assoc]⟩
  have z : ∃ D, x.2.1 = x.2.1 ++ D := ⟨[], by rw [List.append_nil]⟩
  unfold xs
  repeat' split
  all_goals first
    | exact z
    | exact o _
    | exact cO_2 _ _
    | (exfalso; omega)
theorem Au_run (hA : Au k t = some s) (h2 : 2 ≤ s.1) : ∀ d s', Au k (t + d) = some s' → (s'.2.2.2.1 + s'.2.2.2.2 = s.2.2.2.1 + s.2.2.2.2 ∧ ((2 ≤ s'.1 ∧ oN k (t + d) = oN k t ∧ cN k (t + d) = cN k t ∧ (Xm k v u p (t + d)).2.2 = (Xm k v u p t).2.2 ∧ ∃ D, (Xm k v u p (t + d)).2.1 = (Xm k v u p t).2.1 ++ D) ∨ s'.1 = 0)) ∨ s.2.2.2.1 + s.2.2.2.2 < s'.2.2.2.1 + s'.2.2.2.2 := by
  intro d
  induction d with
  | zero =>
    intro s' h
    have := hA.symm.trans h
    cases this
    exact Or.inl ⟨rfl, Or.inl ⟨h2, rfl, rfl, rfl, [], by rw [List.append_nil]; rfl⟩⟩
  | succ d ih =>
    intro s' h
    obtain ⟨s1, e1, e2, _⟩ := Au_b (show Au k (t + d + 1) = some s' from h)
    have ht := (Au_t e1).1
    have keep : s1.1 ≠ 1 → k (t + d) ≠ 59 → oN k (t + d + 1) = oN k (t + d) ∧ cN k (t + d + 1) = cN k (t + d) ∧ (Xm k v u p (t + d + 1)).2.2 = (Xm k v u p (t + d)).2.2 ∧ ∃ D, (Xm k v u p (t + d + 1)).2.1 = (Xm k v u p (t + d)).2.1 ++ D := fun q1 q2 => ⟨by rw [oN, if_neg (fun q => q1 (ht.mp q.2))], by rw [cN, if_neg q2], by rw [Xm_s e1]; exact xs_G (fun q => q2 q.2), by rw [Xm_s e1]; exact xs_C (fun q => q2 q.2)⟩
    show (_ ∧ ((_ ∧ oN k (t + d + 1) = _ ∧ cN k (t + d + 1) = _ ∧ (Xm k v u p (t + d + 1)).2.2 = _ ∧ ∃ D, (Xm k v u p (t + d + 1)).2.1 = _) ∨ _)) ∨ _
    rcases ih s1 e1 with ⟨i1, ⟨i2, i3, i4, i5, D1, i6⟩ | i2⟩ | i1
    · rcases nx_c e2 with ⟨c, g, rfl⟩ | ⟨c, g, rfl⟩ | ⟨c, g, rfl⟩ | ⟨c, g, rfl⟩ | ⟨c, g, rfl⟩ | ⟨c, g, rfl⟩ | ⟨c, g, rfl⟩ | ⟨c, g, rfl⟩ | ⟨c, g, rfl⟩ | ⟨c, g, rfl⟩ | ⟨c, g, rfl⟩ | ⟨c, g, rfl⟩ | ⟨c, g, rfl⟩ | ⟨c, g, rfl⟩ | ⟨c, g, rfl⟩ | ⟨c, g, rfl⟩ | ⟨c, g, rfl⟩ | ⟨c, g, rfl⟩
      · omega
      · omega
      · omega
      all_goals first
        | (exact Or.inl ⟨i1, Or.inr rfl⟩)
        | (obtain ⟨j1, j2, j3, D2, j4⟩ := keep (by omega) (by omega); exact Or.inl ⟨i1, Or.inl ⟨by (simp only []; (try split) <;> omega), by rw [j1, i3], by rw [j2, i4], by rw [j3, i5], D1 ++ D2, by rw [j4, i6, List.append_assoc]⟩⟩)
    · rcases nx_c e2 with ⟨c, g, rfl⟩ | ⟨c, g, rfl⟩ | ⟨c, g, rfl⟩ | ⟨c, g, rfl⟩ | ⟨c, g, rfl⟩ | ⟨c, g, rfl⟩ | ⟨c, g, rfl⟩ | ⟨c, g, rfl⟩ | ⟨c, g, rfl⟩ | ⟨c, g, rfl⟩ | ⟨c, g, rfl⟩ | ⟨c, g, rfl⟩ | ⟨c, g, rfl⟩ | ⟨c, g, rfl⟩ | ⟨c, g, rfl⟩ | ⟨c, g, rfl⟩ | ⟨c, g, rfl⟩ | ⟨c, g, rfl⟩ <;> first | omega | (right; simp only []; omega)
    · right
      rcases nx_c e2 with ⟨c, g, rfl⟩ | ⟨c, g, rfl⟩ | ⟨c, g, rfl⟩ | ⟨c, g, rfl⟩ | ⟨c, g, rfl⟩ | ⟨c, g, rfl⟩ | ⟨c, g, rfl⟩ | ⟨c, g, rfl⟩ | ⟨c, g, rfl⟩ | ⟨c, g, rfl⟩ | ⟨c, g, rfl⟩ | ⟨c, g, rfl⟩ | ⟨c, g, rfl⟩ | ⟨c, g, rfl⟩ | ⟨c, g, rfl⟩ | ⟨c, g, rfl⟩ | ⟨c, g, rfl⟩ | ⟨c, g, rfl⟩ <;> simp only [] <;> omega
theorem Au_sm {t' : Nat} (hA : Au k t = some s) (h2 : 2 ≤ s.1) (ht : t ≤ t') (hA' : Au k t' = some s') (h0 : s'.1 ≠ 0) (h : s'.2.2.2 = s.2.2.2) : oN k t' = oN k t ∧ cN k t' = cN k t ∧ (Xm k v u p t').2.2 = (Xm k v u p t).2.2 ∧ ∃ D, (Xm k v u p t').2.1 = (Xm k v u p t).2.1 ++ D := by
  have e : t' = t + (t' - t) := by omega
  rw [e] at hA'
  rcases Au_run (v := v) (u := u) (p := p) hA h2 (t' - t) s' hA' with ⟨_, ⟨_, h3, h4, h5⟩ | h3⟩ | h3
  · rw [← e] at h3 h4 h5; exact ⟨h3, h4, h5⟩
  · exact absurd h3 h0
  · rw [h] at h3; omega
end THG
def isO (k : Nat → Nat) (i : Nat) : Bool := k (i - 1) == 11
def cnO (k : Nat → Nat) (o : Bool) (N : List Nat) : Nat := N.countP (fun i => isO k i == o)
theorem cnO_app {k : Nat → Nat} {o : Bool} {N : List Nat} {w : Nat} : cnO k o (N ++ [w]) = cnO k o N + if isO k w = o then 1 else 0 := by
  unfold cnO
  rw [List.countP_append, List.countP_singleton]
  by_cases c : isO k w = o
  · simp [c]
  · simp [c]
def ThM (T : Nat → Nat) (z : Nat) (N : List Nat) (G : List (List Cd)) (mi : IM) : Prop := ∀ j, j < N.length → mi 571 j = nI (N.getD j 0) ∧ mi 572 j = b2i (isO (kd T z) (N.getD j 0)) ∧ mi 573 j = nI (cnO (kd T z) (isO (kd T z) (N.getD j 0)) (N.take j)) ∧ mi 574 j = nI (G.take j).flatten.length
def TS (T : Nat → Nat) (z t sd : Nat) (s : SyS) (mi : IM) (ml : JM) : Prop :=
  (Au (kd T z) t = some s ∧ s.1 = 0) ∧ ((mi 559 11 = nI t ∧ mi 559 13 = 0 ∧ mi 559 12 = nI 0) ∧ (mi 559 29 = nI (alC (XT T z t)).length ∧ CM (alC (XT T z t)) mi) ∧ WsM T z t mi) ∧ TN T z (cN (kd T z) t) mi ml ∧ ((sd < 2 ∧ mi 559 20 = nI sd) ∧ mi 568 sd = nI s.2.2.2.1 ∧ mi 569 sd = nI s.2.2.2.2) ∧ ThM T z (cN (kd T z) t) (XT T z t).2.2 mi ∧ s.2.2.2.1 = cnO (kd T z) false (cN (kd T z) t) ∧ s.2.2.2.2 = cnO (kd T z) true (cN (kd T z) t)
def FT (sd : Nat) (mi mi' : IM) : Prop := ∀ a j, ¬ (a = 559 ∧ (11 ≤ j ∧ j ≤ 16 ∨ j = 29 ∨ j = 40 ∨ j = 23)) → ¬ ((568 ≤ a ∧ a ≤ 569) ∧ j = sd) → ¬ (571 ≤ a ∧ a ≤ 584) → mi' a j = mi a j
theorem FT.rf {sd : Nat} {a : IM} : FT sd a a := fun _ _ _ _ _ => rfl
theorem FT.tr {sd : Nat} {a b c : IM} (h : FT sd a b) (h2 : FT sd b c) : FT sd a c := fun x j h3 h4 h5 => by rw [h2 x j h3 h4 h5, h x j h3 h4 h5]
theorem FE.ft {sd : Nat} {a b : IM} (h : FE a b) : FT sd a b := fun x j h3 _ h5 => h x j (by omega) (by omega)
section TEL
variable {n z c t w br sd : Nat} {mi : IM} {ml : JM} {T : Nat → Nat} {W : List Wt} {C : List Cd} {N : List Nat} {s s' : SyS}
theorem must_G {x : Nat} (hs : SL T z c mi ml) (hA : Au (kd T z) t = some s) (h11 : mi 559 11 = nI t) (h13 : mi 559 13 = 0) (hx : okK x = true) (h0 : s.1 ≠ 0) (hnx : kd T z t = x → nx s (kd T z t) = some s') (hno : kd T z t ≠ x → nx s (kd T z t) = none) (hr : s'.2.2.1 ≤ 6 ∧ s'.2.2.2.1 ≤ 8 ∧ s'.2.2.2.2 ≤ 6) : (∃ mi', f_Mo_must n 559 (nI (mK x)) (K mi ml) = some (K mi' ml) ∧ Dn T z mi' ∧ FN mi mi') ∨ (kd T z t = x ∧ t < 400 ∧ Au (kd T z) (t + 1) = some s' ∧ f_Mo_must n 559 (nI (mK x)) (K mi ml) = some (K (upd2 mi 559 11 (nI (t + 1))) ml)) := by
  have hAn : Au (kd T z) t ≠ none := by rw [hA]; intro q; cases q
  unfold f_Mo_must
  rw [o_559, is_G hs hAn h11 h13 hx, bnd_s]
  by_cases d : kd T z t = x
  · rw [decide_eq_true d, if_neg (show ¬ b2i true = 0 by decide)]
    rcases next_G (n := n) hs hA h11 h13 (hnx d) hr with ⟨m1, e1, e2, e3⟩ | ⟨e0, e1, e2⟩
    · rw [e1, bnd_s]; exact Or.inl ⟨m1, rfl, e2, e3⟩
    · rw [e2, bnd_s]; exact Or.inr ⟨d, e0, e1, rfl⟩
  · rw [decide_eq_false d, if_pos (show b2i false = 0 from rfl), show f_Mo_fail n 559 1 (K mi ml) = _ from fail_G hs hAn h11 h13, bnd_s]
    exact Or.inl ⟨_, rfl, Dn_1 hA (Or.inl h0) (hno d) h11, fl_FE⟩
theorem tell100 {x1 : Int32} {k9 : Nat → Int32 → Int32 → MM → Option MM} (hz : z ≤ 2000) (hL : N.length ≤ 14) (hN : ∀ j, j < N.length → kd T z (N.getD j 0) = 2) (hk : kd T z w = 2) (hw : w < c) (hm : (∃ j, j < N.length ∧ uT T z (N.getD j 0) = uT T z w) → mf (kd T z) (vT T z) (uT T z) w = 3) (hm0 : (¬ ∃ j, j < N.length ∧ uT T z (N.getD j 0) = uT T z w) → mf (kd T z) (vT T z) (uT T z) w = 0) : ∀ m i mi, i ≤ N.length → N.length - i < m → SL T z c mi ml → mi 559 13 = 0 → TN T z N mi ml → ((¬ ∃ j, j < i ∧ uT T z (N.getD j 0) = uT T z w) → WsM T z w mi) → ((∃ j, j < i ∧ uT T z (N.getD j 0) = uT T z w) → WsM T z (w + 1) mi) → ∃ mi', f_Mo_tellThing_100 n k9 m 559 x1 (nI w) (nI i) (K mi ml) = k9 559 x1 (nI w) (K mi' ml) ∧ WsM T z (w + 1) mi' ∧ (∀ a j, ¬ (a = 559 ∧ (j = 15 ∨ j = 16)) → mi' a j = mi a j) := by
  intro m
  induction m with
  | zero => intro i mi h1 h2; omega
  | succ m ih =>
    intro i mi h1 h2 hs h13 hTN q1 q2
    have hc4 := hs.2.1
    have l1 : i ≠ N.length → N.length - (i + 1) < m ∧ i + 1 ≤ N.length := by clear q1 q2 ih; omega
    rw [f_Mo_tellThing_100, g_559, bnd_s, hTN.1]
    by_cases d : i = N.length
    · rw [if_pos (nI_le (by omega) (by omega))]
      refine ⟨mi, rfl, ?_, fun _ _ _ => rfl⟩
      by_cases e : ∃ j, j < N.length ∧ uT T z (N.getD j 0) = uT T z w
      · rw [d] at q2; exact q2 e
      · rw [d] at q1; exact WsM_0 (hm0 e) (q1 e)
    · have heq : lcp (l64 (nmT T z (N.getD i 0))) (l64 (nmT T z w)) = 0 ↔ uT T z (N.getD i 0) = uT T z w := by
        rw [lcp_0, l64_eq (nmT_b (hN i (by omega))) (nmT_b hk), nmT_e (hN i (by omega)) hk]
      rw [if_neg (by rw [nI_leI (by omega) (by omega)]; omega), rf_559_24, bnd_s, a_570 (by omega), bnd_s, rf_559_8, bnd_s, a_565 (by omega), bnd_s, hTN.2 i (by omega), show ml 565 w = l64 (nmT T z w) from (hs.1.2 w hw).2.2.2 hk]
      unfold f_Mo_tellThing_130
      by_cases e : uT T z (N.getD i 0) = uT T z w
      · rw [if_pos (heq.mpr e)]
        have hm3 : mf (kd T z) (vT T z) (uT T z) w = 3 := hm ⟨i, by omega, e⟩
        have step : ∃ m1, f_Mo_wrong n 559 3 (nI w) (K mi ml) = some (K m1 ml) ∧ WsM T z (w + 1) m1 ∧ (∀ a j, ¬ (a = 559 ∧ (j = 15 ∨ j = 16)) → m1 a j = mi a j) := by
          by_cases g : ∃ j, j < i ∧ uT T z (N.getD j 0) = uT T z w
          · exact ⟨mi, wrong_2 (F := 3) hz hs hw h13 (q2 g) hm3 (by omega) (kd_2 hk).1, q2 g, fun _ _ _ => rfl⟩
          · exact wrong_G (F := 3) hz hs hw h13 (q1 g) hm3 (by omega) (kd_2 hk).1
        obtain ⟨m1, e1, e2, e3⟩ := step
        have hF : FE mi m1 := fun a j g1 g2 => e3 a j (by omega)
        rw [e1, bnd_s, nI_1]
        obtain ⟨m2, f1, f2, f3⟩ := ih (i + 1) m1 (l1 d).2 (l1 d).1 (SL_c hF hs) (by rw [e3 _ _ (by omega)]; exact h13) (TN_c hTN hF) (fun q => absurd ⟨i, by omega, e⟩ q) (fun _ => e2)
        exact ⟨m2, f1, f2, fun a j g => by rw [f3 a j g, e3 a j g]⟩
      · rw [if_neg (fun q => e (heq.mp q)), nI_1]
        exact ih (i + 1) mi (l1 d).2 (l1 d).1 hs h13 hTN (fun q => q1 (fun ⟨j, g1, g2⟩ => q ⟨j, Nat.lt_succ_of_lt g1, g2⟩)) (fun ⟨j, g1, g2⟩ => q2 ⟨j, by
          by_cases g : j = i
          · rw [g] at g2; exact absurd g2 e
          · omega, g2⟩)
theorem told_i {t : Nat} : told (kd T z) (uT T z) t = true ↔ ∃ j, j < (cN (kd T z) t).length ∧ uT T z ((cN (kd T z) t).getD j 0) = uT T z t := by
  unfold told fdN
  cases e : fnd (fun j => uT T z ((cN (kd T z) t).getD j 0) == uT T z t) (cN (kd T z) t).length 0 with
  | none =>
    have := fnd_none.mp e
    refine ⟨(fun q => by cases q), fun ⟨j, g1, g2⟩ => ?_⟩
    have h := this j (by omega) (by omega)
    rw [g2] at h
    simp at h
  | some j =>
    have := fnd_some e
    exact ⟨fun _ => ⟨j, by omega, by simpa using this.2.2.1⟩, fun _ => rfl⟩
theorem SL_m {mi' : IM} {ml' : JM} (h : FT sd mi mi') (hl : ml' 565 = ml 565) (hs : SL T z c mi ml) : SL T z c mi' ml' := by
  refine ⟨⟨by rw [h 559 10 (by omega) (by omega) (by omega)]; exact hs.1.1, fun i hi => ?_⟩, hs.2⟩
  rw [h 562 i (by omega) (by omega) (by omega), h 563 i (by omega) (by omega) (by omega), h 564 i (by omega) (by omega) (by omega), hl]
  exact hs.1.2 i hi
theorem tell68_D {x1 : Int32} (h : Dn T z mi) : f_Mo_tellThing_68 n 559 x1 (K mi ml) = some (K mi ml) := by
  unfold f_Mo_tellThing_68
  rw [g_559, bnd_s, if_neg (Dn_ne h).2.1]
theorem expr_D (hn : 500 < n) (h : Dn T z mi) : f_Mo_expression n 559 (K mi ml) = some (K (upd2 mi 559 40 0) ml) ∧ Dn T z (upd2 mi 559 40 0) := by
  obtain ⟨t', x1, x2⟩ := (Dn_b h).2
  have hD : Dn T z (upd2 mi 559 40 0) := Dn_c h (by rw [u2, if_neg (by omega)]) (by rw [u2, if_neg (by omega)]) ⟨t', x1, by rw [u2, if_neg (by omega)]; exact x2⟩
  refine ⟨?_, hD⟩
  obtain ⟨n', hn'⟩ : ∃ n', n = n' + 1 := ⟨n - 1, by omega⟩
  unfold f_Mo_expression
  rw [o_559, p_559, bnd_s]
  have := exp7_D (n := n) (ml := ml) (m := n') (x1 := 1) (k283 := f_Mo_expression_283 n) hD
  rw [← hn'] at this
  exact this
theorem tellG68 {o : Bool} (hz : z ≤ 2000) (hn : 500 < n) (hs : SL T z c mi ml) (hS : TS T z t sd s mi ml) (hk : kd T z t = if o then 11 else 10) (hlim : if o then s.2.2.2.2 < 6 else s.2.2.2.1 < 8) : (∃ mi', f_Mo_tellThing_68 n 559 (b2i o) (K mi ml) = some (K mi' ml) ∧ Dn T z mi' ∧ FT sd mi mi' ∧ mi' 559 23 = mi 559 23) ∨ ∃ t' s' mi' ml', t < t' ∧ f_Mo_tellThing_68 n 559 (b2i o) (K mi ml) = some (K mi' ml') ∧ TS T z t' sd s' mi' ml' ∧ FT sd mi mi' ∧ (∀ a, a ≠ 570 → ml' a = ml a) := by
  obtain ⟨⟨hA, h0⟩, ⟨⟨h11, h13, h12⟩, ⟨h29, hCM⟩, hWs⟩, hTN, ⟨⟨hsd, h20⟩, h68, h69⟩, hTh, hcb, hco⟩ := hS
  have hAn : Au (kd T z) t ≠ none := by rw [hA]; intro q; cases q
  have hb := Au_i hA
  obtain ⟨_, iN2, iN3⟩ := Au_N hA
  rw [if_pos h0] at iN3
  have hXi := Xm_i (v := vT T z) (u := uT T z) (p := tP T z) hA
  have hXl : (alC (XT T z t)).length ≤ t := by have := hXi.2.1; show (alC (Xm _ _ _ _ t)).length ≤ t; omega
  have hlen : (cN (kd T z) t).length < 14 := by cases o <;> simp at hlim <;> omega
  have hk10 : kd T z t = 10 ∨ kd T z t = 11 := by cases o <;> simp at hk <;> omega
  obtain ⟨s1, hs1, hs11, hs12, hs13, hs1b⟩ : ∃ s1 : SyS, nx s (kd T z t) = some s1 ∧ s1.1 = 1 ∧ s1.2.2.1 = 0 ∧ s1.2.2.2 = (if o then (s.2.2.2.1, s.2.2.2.2 + 1) else (s.2.2.2.1 + 1, s.2.2.2.2)) ∧ s1.2.2.2.1 ≤ 8 ∧ s1.2.2.2.2 ≤ 6 := by
    have hb0 := hb.2.2.2.2.2.2 (by omega)
    cases o
    · simp at hlim
      exact ⟨(1, s.2.1, s.2.2.1, s.2.2.2.1 + 1, s.2.2.2.2), by rw [hk]; simp [nx, h0], rfl, hb0, rfl, by simp only []; omega, hb.2.2.2.2.2.1⟩
    · simp at hlim
      exact ⟨(1, s.2.1, s.2.2.1, s.2.2.2.1, s.2.2.2.2 + 1), by rw [hk]; simp [nx, h0], rfl, hb0, rfl, hb.2.2.2.2.1, by simp only []; omega⟩
  unfold f_Mo_tellThing_68
  rw [g_559, bnd_s, h13, if_pos (show (0 : Int32) ≤ 0 by decide)]
  rcases next_G (n := n) hs hA h11 h13 hs1 ⟨by omega, hs1b.1, hs1b.2⟩ with ⟨m1, e1, e2, e3⟩ | ⟨e0, A1, e2⟩
  · left
    rw [e1, bnd_s, g_559, bnd_s, must_D e2, bnd_s, g_559, bnd_s, if_neg (Dn_ne e2).2.1]
    exact ⟨m1, rfl, e2, e3.fe.ft, e3 _ _ (by omega)⟩
  have f1 : FE mi (upd2 mi 559 11 (nI (t + 1))) := FE.u (by omega)
  have g1 : upd2 mi 559 11 (nI (t + 1)) 559 11 = nI (t + 1) := uE
  have g3 : upd2 mi 559 11 (nI (t + 1)) 559 13 = 0 := by rw [u2, if_neg (by omega)]; exact h13
  have W1 : WsM T z (t + 1) (upd2 mi 559 11 (nI (t + 1))) := WsM_0 (mf_0 (by omega) (by omega)) (WsM_c (by rw [u2, if_neg (by omega)]) (by rw [u2, if_neg (by omega)]) hWs)
  have k12 : upd2 mi 559 11 (nI (t + 1)) 559 12 = nI 0 := by rw [u2, if_neg (by omega)]; exact h12
  have k29 : upd2 mi 559 11 (nI (t + 1)) 559 29 = nI (alC (XT T z t)).length ∧ CM (alC (XT T z t)) (upd2 mi 559 11 (nI (t + 1))) := ⟨by rw [u2, if_neg (by omega)]; exact h29, CM_c (fun a j q1 q2 _ => by rw [upd2_ne (by omega)]) hCM⟩
  rw [e2, bnd_s, g_559, bnd_s, g1]
  generalize upd2 mi 559 11 (nI (t + 1)) = m1 at f1 g1 g3 W1 k12 k29
  have X1 : XT T z (t + 1) = XT T z t := by
    show Xm _ _ _ _ (t + 1) = _
    rw [Xm_s hA]; simp [xs, h0]
  have c1 : cN (kd T z) (t + 1) = cN (kd T z) t := by rw [cN, if_neg (by omega)]
  rcases must_G (n := n) (x := 2) (s' := (2, s1.2)) (SL_c f1 hs) A1 g1 g3 (by decide) (by omega) (fun q => by rw [q]; simp [nx, hs11]) (fun q => by
      cases e : nx s1 (kd T z (t + 1)) with
      | none => rfl
      | some x => have := nx_c e; omega) ⟨by simp only []; omega, hs1b.1, hs1b.2⟩ with ⟨m2, e1, e2, e3⟩ | ⟨kn, tn, A2, e2⟩
  · left
    rw [show f_Mo_must n 559 1 (K m1 ml) = _ from e1, bnd_s, g_559, bnd_s, if_neg (Dn_ne e2).2.1]
    exact ⟨m2, rfl, e2, (f1.tr e3.fe).ft, by rw [e3 _ _ (by omega), f1 _ _ (by omega) (by omega)]⟩
  rw [show f_Mo_must n 559 1 (K m1 ml) = _ from e2, bnd_s]
  have f2 : FE mi (upd2 m1 559 11 (nI (t + 1 + 1))) := f1.tr (FE.u (by omega))
  have g1 : upd2 m1 559 11 (nI (t + 1 + 1)) 559 11 = nI (t + 1 + 1) := uE
  have g3 : upd2 m1 559 11 (nI (t + 1 + 1)) 559 13 = 0 := by rw [u2, if_neg (by omega)]; exact g3
  have W1 : WsM T z (t + 1) (upd2 m1 559 11 (nI (t + 1 + 1))) := WsM_c (by rw [u2, if_neg (by omega)]) (by rw [u2, if_neg (by omega)]) W1
  have k12 : upd2 m1 559 11 (nI (t + 1 + 1)) 559 12 = nI 0 := by rw [u2, if_neg (by omega)]; exact k12
  have k29 : upd2 m1 559 11 (nI (t + 1 + 1)) 559 29 = nI (alC (XT T z t)).length ∧ CM (alC (XT T z t)) (upd2 m1 559 11 (nI (t + 1 + 1))) := ⟨by rw [u2, if_neg (by omega)]; exact k29.1, CM_c (fun a j q1 q2 _ => by rw [upd2_ne (by omega)]) k29.2⟩
  rw [g_559, bnd_s, g3, if_pos (show (0 : Int32) ≤ 0 by decide)]
  generalize upd2 m1 559 11 (nI (t + 1 + 1)) = m2 at f2 g1 g3 W1 k12 k29
  have htl : tell (kd T z) (t + 1) = true := (Au_t A1).1.mpr hs11
  have X2 : XT T z (t + 1 + 1) = XT T z t := by
    show Xm _ _ _ _ (t + 1 + 1) = _
    rw [Xm_s A1, show xs (kd T z) (vT T z) (uT T z) (tP T z) (t + 1) s1.1 s1.2.1 (Xm (kd T z) (vT T z) (uT T z) (tP T z) (t + 1)) = Xm (kd T z) (vT T z) (uT T z) (tP T z) (t + 1) by simp [xs, hs11]]
    exact X1
  have c2 : cN (kd T z) (t + 1 + 1) = cN (kd T z) t := by rw [cN, if_neg (by omega)]; exact c1
  have o2 : oN (kd T z) (t + 1 + 1) = t + 1 := by rw [oN, if_pos ⟨kn, htl⟩]
  have htok := tok_lt (SL_c f1 hs) (show Au (kd T z) (t + 1) ≠ none by rw [A1]; intro q; cases q)
  have htold := told_i (T := T) (z := z) (t := t + 1)
  rw [c1] at htold
  obtain ⟨m3, e3, W3, f3⟩ := tell100 (n := n) (ml := ml) (x1 := b2i o) (k9 := f_Mo_tellThing_136 n) (N := cN (kd T z) t) (w := t + 1) (c := c) hz (by omega) (fun j hj => (iN2 j hj).1) kn htok.1 (fun q => by unfold mf; rw [if_pos kn, if_pos htl, if_pos (htold.mpr q)]) (fun q => by unfold mf; rw [if_pos kn, if_pos htl, if_neg (fun q2 => q (htold.mp q2))]) n 0 m2 (by omega) (by omega) (SL_c f2 hs) g3 (TN_c hTN f2) (fun _ => W1) (fun ⟨j, q, _⟩ => by omega)
  rw [show f_Mo_tellThing_100 n (f_Mo_tellThing_136 n) n 559 (b2i o) (nI (t + 1)) 0 (K m2 ml) = _ from e3]
  have f3e : FE mi m3 := f2.tr (fun a j q1 q2 => f3 a j (by omega))
  have hTN3 := TN_c hTN f3e
  have g1 : m3 559 11 = nI (t + 1 + 1) := by rw [f3 _ _ (by omega)]; exact g1
  have g3 : m3 559 13 = 0 := by rw [f3 _ _ (by omega)]; exact g3
  have k12 : m3 559 12 = nI 0 := by rw [f3 _ _ (by omega)]; exact k12
  have k29 : m3 559 29 = nI (alC (XT T z t)).length ∧ CM (alC (XT T z t)) m3 := ⟨by rw [f3 _ _ (by omega)]; exact k29.1, CM_c (fun a j q1 q2 _ => f3 _ _ (by omega)) k29.2⟩
  unfold f_Mo_tellThing_136
  rw [rf_559_28, bnd_s, g_559, bnd_s, hTN3.1, g_559, bnd_s, k29.1, s_574 (by omega), bnd_s, nrw100]
  have v : ∀ a j, ¬ (a = 574 ∧ j = (cN (kd T z) t).length) → upd2 m3 574 (cN (kd T z) t).length (nI (alC (XT T z t)).length) a j = m3 a j := fun a j q => by rw [u2, if_neg q]
  have v74 : upd2 m3 574 (cN (kd T z) t).length (nI (alC (XT T z t)).length) 574 (cN (kd T z) t).length = nI (alC (XT T z t)).length := uE
  generalize upd2 m3 574 (cN (kd T z) t).length (nI (alC (XT T z t)).length) = m4 at v v74
  have f4 : FT sd mi m4 := f3e.ft.tr (fun a j q1 q2 q3 => v a j (by omega))
  have hs4 : SL T z c m4 ml := SL_m f4 rfl hs
  have g1 : m4 559 11 = nI (t + 1 + 1) := by rw [v _ _ (by omega)]; exact g1
  have g3 : m4 559 13 = 0 := by rw [v _ _ (by omega)]; exact g3
  have k12 : m4 559 12 = nI 0 := by rw [v _ _ (by omega)]; exact k12
  have k23 : m4 559 23 = mi 559 23 := by rw [v _ _ (by omega), f3e _ _ (by omega) (by omega)]
  have k29 : m4 559 29 = nI (alC (XT T z t)).length ∧ CM (alC (XT T z t)) m4 := ⟨by rw [v _ _ (by omega)]; exact k29.1, CM_c (fun a j q1 q2 _ => v _ _ (by omega)) k29.2⟩
  have W4 : WsM T z (t + 1 + 1) m4 := WsM_c (v _ _ (by omega)) (v _ _ (by omega)) W3
  rcases must_G (n := n) (x := 61) (s' := (3, s1.2)) hs4 A2 g1 g3 (by decide) (by simp) (fun q => by rw [q]; simp [nx]) (fun q => by
      cases e : nx (2, s1.2) (kd T z (t + 1 + 1)) with
      | none => rfl
      | some x => have := nx_c e; simp only [] at this; omega) ⟨by simp only []; omega, hs1b.1, hs1b.2⟩ with ⟨m5, e1, e2, e3⟩ | ⟨k61, t61, A3, e2⟩
  · left
    obtain ⟨q1, q2⟩ := expr_D (n := n) (ml := ml) hn e2
    rw [show f_Mo_must n 559 5 (K m4 ml) = _ from e1, bnd_s, q1, bnd_s, must_D q2, bnd_s, g_559, bnd_s, if_neg (Dn_ne q2).2.1]
    exact ⟨_, rfl, q2, (f4.tr e3.fe.ft).tr (FE.u (by omega)).ft, by rw [u2, if_neg (by omega), e3 _ _ (by omega)]; exact k23⟩
  rw [show f_Mo_must n 559 5 (K m4 ml) = _ from e2, bnd_s]
  have r : ∀ a j, ¬ (a = 559 ∧ (j = 11 ∨ j = 40)) → upd2 (upd2 m4 559 11 (nI (t + 1 + 1 + 1))) 559 40 0 a j = m4 a j := fun a j q => by rw [u2, if_neg (by omega), u2, if_neg (by omega)]
  have r11 : upd2 (upd2 m4 559 11 (nI (t + 1 + 1 + 1))) 559 40 0 559 11 = nI (t + 1 + 1 + 1) := by rw [u2, if_neg (by omega), uE]
  have r40 : upd2 (upd2 m4 559 11 (nI (t + 1 + 1 + 1))) 559 40 0 559 40 = 0 := uE
  have hE : f_Mo_expression n 559 (K (upd2 m4 559 11 (nI (t + 1 + 1 + 1))) ml) = f_Mo_expression_7 n (f_Mo_expression_283 n) n 559 1 (K (upd2 (upd2 m4 559 11 (nI (t + 1 + 1 + 1))) 559 40 0) ml) := by
    unfold f_Mo_expression
    rw [o_559, p_559, bnd_s]
  rw [hE]
  generalize upd2 (upd2 m4 559 11 (nI (t + 1 + 1 + 1))) 559 40 0 = m5 at r r11 r40
  have f5 : FT sd mi m5 := f4.tr (fun a j q1 q2 q3 => r a j (by omega))
  have hs5 : SL T z c m5 ml := SL_m f5 rfl hs
  have X3 : XT T z (t + 1 + 1 + 1) = XT T z t := by
    show Xm _ _ _ _ (t + 1 + 1 + 1) = _
    rw [Xm_s A2, show xs (kd T z) (vT T z) (uT T z) (tP T z) (t + 1 + 1) (2, s1.2).1 (2, s1.2).2.1 (Xm (kd T z) (vT T z) (uT T z) (tP T z) (t + 1 + 1)) = Xm (kd T z) (vT T z) (uT T z) (tP T z) (t + 1 + 1) by simp [xs]]
    exact X2
  have h61 : ¬ kd T z (t + 1 + 1) = 59 ∧ kd T z (t + 1 + 1) ≠ 2 ∧ kd T z (t + 1 + 1) ≠ 3 := by rw [k61]; decide
  have c3 : cN (kd T z) (t + 1 + 1 + 1) = cN (kd T z) t := by rw [cN, if_neg h61.1]; exact c2
  have o3 : oN (kd T z) (t + 1 + 1 + 1) = t + 1 := by rw [oN, if_neg (fun q => h61.2.1 q.1)]; exact o2
  have hX0 : (XT T z t).1 = [] := (hXi.2.2.2.2.1 (by omega)).1
  have hP5 : PQ T z (t + 1 + 1 + 1) (3, s1.2) m5 := by
    refine ⟨A3, ?_⟩
    rw [X3, hX0]
    exact ⟨⟨r11, by rw [r _ _ (by omega)]; exact g3, by rw [r _ _ (by omega), k12]; exact congrArg nI hs12.symm⟩, ⟨r40, trivial⟩, ⟨by rw [r _ _ (by omega)]; exact k29.1, CM_c (fun a j q1 q2 _ => r _ _ (by omega)) k29.2⟩, WsM_0 (mf_0 h61.2.1 h61.2.2) (WsM_c (r _ _ (by omega)) (r _ _ (by omega)) W4)⟩
  have hTN5 : TN T z (cN (kd T z) t) m5 ml := ⟨by rw [r _ _ (by omega), k23]; exact hTN.1, hTN.2⟩
  rcases exp7 (N := cN (kd T z) t) hz hn n (t + 1 + 1 + 1) (3, s1.2) m5 hs5 hP5 rfl hTN5 (fun t' s' q1 q2 q3 q4 => by rw [(Au_sm (v := vT T z) (u := uT T z) (p := tP T z) A3 (by simp) q1 q2 q3 q4).2.1, c3]) (by omega) with ⟨m6, e1, e2, e3⟩ | ⟨t4, s4, m6, b1, b2, b3, b4, b5, b6, b7, b8⟩
  · left
    rw [e1, bnd_s, must_D e2, bnd_s, g_559, bnd_s, if_neg (Dn_ne e2).2.1]
    exact ⟨m6, rfl, e2, f5.tr e3.ft, by rw [e3 _ _ (by omega) (by omega), r _ _ (by omega)]; exact k23⟩
  rw [b8, bnd_s]
  have f6 := f5.tr b7.ft
  have hs6 : SL T z c m6 ml := SL_m f6 rfl hs
  have hs4b : s4.2.2.2.1 ≤ 8 ∧ s4.2.2.2.2 ≤ 6 := by rw [b4]; exact hs1b
  have k23 : m6 559 23 = nI (cN (kd T z) t).length := (TN_c hTN5 b7).1
  rcases must_G (n := n) (x := 59) (s' := (0, s4.2)) hs6 b2.1 b2.2.1.1 b2.2.1.2.1 (by decide) (by omega) (fun q => by rw [q]; simp [nx, b3, b5]) (fun q => by
      cases e : nx s4 (kd T z t4) with
      | none => rfl
      | some x => have := nx_c e; omega) ⟨by simp only []; omega, hs4b.1, hs4b.2⟩ with ⟨m7, e1, e2, e3⟩ | ⟨k59, t59, A5, e2⟩
  · left
    rw [show f_Mo_must n 559 4 (K m6 ml) = _ from e1, bnd_s, g_559, bnd_s, if_neg (Dn_ne e2).2.1]
    exact ⟨m7, rfl, e2, f6.tr e3.fe.ft, by rw [e3 _ _ (by omega), k23]; exact hTN.1.symm⟩
  right
  obtain ⟨o4, c4, G4, _⟩ := Au_sm (v := vT T z) (u := uT T z) (p := tP T z) A3 (by simp) (by omega) b2.1 (by omega) b4
  rw [o3] at o4
  rw [c3] at c4
  have c5 : cN (kd T z) (t4 + 1) = cN (kd T z) t ++ [t + 1] := by rw [cN, if_pos k59, c4, o4]
  have X5 : XT T z (t4 + 1) = ([], [], (XT T z t).2.2 ++ [(XT T z t4).2.1]) := by
    show Xm _ _ _ _ (t4 + 1) = _
    rw [Xm_s b2.1]
    have : (Xm (kd T z) (vT T z) (uT T z) (tP T z) t4).2.2 = (XT T z t).2.2 := by rw [G4]; exact congrArg (fun x => x.2.2) X3
    simp [xs, b3, k59, this]
  have al5 : alC (XT T z (t4 + 1)) = alC (XT T z t4) := by
    rw [X5]
    unfold alC
    have : (XT T z t4).2.2 = (XT T z t).2.2 := by rw [show (XT T z t4).2.2 = _ from G4]; exact congrArg (fun x => x.2.2) X3
    rw [this]
    simp
  have alt : (alC (XT T z t)) = (XT T z t).2.2.flatten := by
    unfold alC
    rw [show (XT T z t).2.1 = [] from (hXi.2.2.2.2.1 (by omega)).2, List.append_nil]
  have hPn := PX_n (by omega) (by omega) b2.2
  have q6 : FE m6 (upd2 m6 559 11 (nI (t4 + 1))) := FE.u (by omega)
  rw [show f_Mo_must n 559 4 (K m6 ml) = _ from e2, bnd_s, g_559, bnd_s, hPn.1.2.1, if_pos (show (0 : Int32) ≤ 0 by decide)]
  have k23 : upd2 m6 559 11 (nI (t4 + 1)) 559 23 = nI (cN (kd T z) t).length := by rw [u2, if_neg (by omega)]; exact k23
  generalize upd2 m6 559 11 (nI (t4 + 1)) = m7 at hPn q6 k23
  have f7 := f6.tr q6.ft
  have h57 : ∀ a j, 568 ≤ a → a ≤ 573 → m7 a j = mi a j := fun a j q1 q2 => by rw [q6 _ _ (by omega) (by omega), b7 _ _ (by omega) (by omega), r _ _ (by omega), v _ _ (by omega), f3e _ _ (by omega) (by omega)]
  have h574 : ∀ j, m7 574 j = m4 574 j := fun j => by rw [q6 _ _ (by omega) (by omega), b7 _ _ (by omega) (by omega), r _ _ (by omega)]
  have h20' : m7 559 20 = nI sd := by rw [f7 _ _ (by omega) (by omega) (by omega)]; exact h20
  rw [rf_559_24, bnd_s, g_559, bnd_s, k23, rf_559_8, bnd_s, a_565 (by omega), bnd_s, show ml 565 (t + 1) = l64 (nmT T z (t + 1)) from (hs.1.2 (t + 1) htok.1).2.2.2 kn, s_570 hlen, bnd_s, rf_559_25, bnd_s, g_559, bnd_s, k23, s_571 hlen, bnd_s, nrw100, rf_559_26, bnd_s, g_559, bnd_s, upd2_ne (by omega), k23, s_572 hlen, bnd_s, nrw102, b2i_1, rf_559_27, bnd_s, g_559, bnd_s, upd2_ne (by omega), upd2_ne (by omega), k23]
  unfold f_Mo_tellThing_239
  -- what stands at the end
  have fin : ∀ (m' : IM), (∀ a j, ¬ (a = 559 ∧ j = 23) → ¬ (571 ≤ a ∧ a ≤ 573 ∧ j = (cN (kd T z) t).length) → ¬ ((a = 568 ∨ a = 569) ∧ j = sd) → m' a j = m7 a j) → m' 559 23 = nI ((cN (kd T z) t).length + 1) → m' 571 (cN (kd T z) t).length = nI (t + 1) → m' 572 (cN (kd T z) t).length = b2i o → m' 573 (cN (kd T z) t).length = nI (cnO (kd T z) o (cN (kd T z) t)) → m' 568 sd = nI s4.2.2.2.1 → m' 569 sd = nI s4.2.2.2.2 → TS T z (t4 + 1) sd (0, s4.2) m' (upd2 ml 570 (cN (kd T z) t).length (l64 (nmT T z (t + 1)))) ∧ FT sd mi m' := fun m' q q23 q1 q2 q3 q4 q5 => by
    have hio : isO (kd T z) (t + 1) = o := by unfold isO; rw [show t + 1 - 1 = t by omega, hk]; cases o <;> rfl
    have hg : ∀ j, j < (cN (kd T z) t).length → (cN (kd T z) t ++ [t + 1]).getD j 0 = (cN (kd T z) t).getD j 0 := fun j hj => by simp [List.getD, List.getElem?_append_left hj]
    have hgl : (cN (kd T z) t ++ [t + 1]).getD (cN (kd T z) t).length 0 = t + 1 := by simp
    have hGl : (XT T z t).2.2.length = (cN (kd T z) t).length := hXi.2.2.2.2.2
    have htk : ∀ j, j ≤ (cN (kd T z) t).length → ((XT T z t).2.2 ++ [(XT T z t4).2.1]).take j = (XT T z t).2.2.take j := fun j hj => List.take_append_of_le_length (by omega)
    have hs42 : (s4.2.2.2.1, s4.2.2.2.2) = (if o then (s.2.2.2.1, s.2.2.2.2 + 1) else (s.2.2.2.1 + 1, s.2.2.2.2)) := by rw [← hs13]; exact b4
    refine ⟨⟨⟨A5, rfl⟩, ⟨⟨?_, ?_, ?_⟩, ⟨?_, ?_⟩, ?_⟩, ⟨?_, ?_⟩, ⟨⟨hsd, ?_⟩, q4, q5⟩, ?_, ?_, ?_⟩, ?_⟩
    · rw [q _ _ (by omega) (by omega) (by omega)]; exact hPn.1.1
    · rw [q _ _ (by omega) (by omega) (by omega)]; exact hPn.1.2.1
    · rw [q _ _ (by omega) (by omega) (by omega), hPn.1.2.2, b5]
    · rw [q _ _ (by omega) (by omega) (by omega), al5]; exact hPn.2.2.1.1
    · rw [al5]; exact CM_c (fun a j q1 q2 _ => q _ _ (by omega) (by omega) (by omega)) hPn.2.2.1.2
    · exact WsM_c (q _ _ (by omega) (by omega) (by omega)) (q _ _ (by omega) (by omega) (by omega)) hPn.2.2.2
    · rw [q23, c5, List.length_append]; rfl
    · intro j hj
      rw [c5] at hj ⊢
      rw [List.length_append, List.length_singleton] at hj
      by_cases d : j = (cN (kd T z) t).length
      · rw [d, hgl, uE]
      · rw [hg j (by omega), u2, if_neg (by omega)]; exact hTN.2 j (by omega)
    · rw [q _ _ (by omega) (by omega) (by omega)]; exact h20'
    · intro j hj
      rw [c5] at hj ⊢
      rw [List.length_append, List.length_singleton] at hj
      rw [X5]
      show _ ∧ _ ∧ _ ∧ m' 574 j = nI (((XT T z t).2.2 ++ [(XT T z t4).2.1]).take j).flatten.length
      by_cases d : j = (cN (kd T z) t).length
      · subst d
        rw [hgl, hio, List.take_left', q1, q2, q3, q _ _ (by omega) (by omega) (by omega), h574, v74, htk _ (Nat.le_refl _), alt, ← hGl, List.take_length]
        · exact ⟨rfl, rfl, rfl, rfl⟩
        · rfl
      · have := hTh j (by omega)
        rw [hg j (by omega), List.take_append_of_le_length (by omega), htk j (by omega), q _ _ (by omega) (by omega) (by omega), q _ _ (by omega) (by omega) (by omega), q _ _ (by omega) (by omega) (by omega), q _ _ (by omega) (by omega) (by omega), h57 _ _ (by omega) (by omega), h57 _ _ (by omega) (by omega), h57 _ _ (by omega) (by omega), h574, v _ _ (by omega), f3e _ _ (by omega) (by omega)]
        exact this
    · show s4.2.2.2.1 = _
      rw [c5, cnO_app, hio, ← hcb]
      have := congrArg Prod.fst hs42
      cases o
      · simpa using this
      · simpa using this
    · show s4.2.2.2.2 = _
      rw [c5, cnO_app, hio, ← hco]
      have := congrArg Prod.snd hs42
      cases o
      · simpa using this
      · simpa using this
    · intro a j g1 g2 g3
      rw [q a j (by omega) (by omega) (by omega)]
      exact f7 a j g1 g2 g3
  have hs42 : (s4.2.2.2.1, s4.2.2.2.2) = (if o then (s.2.2.2.1, s.2.2.2.2 + 1) else (s.2.2.2.1 + 1, s.2.2.2.2)) := by rw [← hs13]; exact b4
  have ml7 : ∀ a, a ≠ 570 → upd2 ml 570 (cN (kd T z) t).length (l64 (nmT T z (t + 1))) a = ml a := fun a q => by funext j; rw [u2, if_neg (by omega)]
  cases o
  · have e41 : s4.2.2.2.1 = s.2.2.2.1 + 1 := by have := congrArg Prod.fst hs42; simpa using this
    have e42 : s4.2.2.2.2 = s.2.2.2.2 := by have := congrArg Prod.snd hs42; simpa using this
    rw [if_pos (show b2i false = 0 from rfl), rf_559_21, bnd_s, g_559, bnd_s, upd2_ne (by omega), upd2_ne (by omega), h20', a_568 hsd, bnd_s, upd2_ne (by omega), upd2_ne (by omega), h57 _ _ (by omega) (by omega), h68, s_573 hlen, bnd_s, nrw100, g_559, bnd_s, upd2_ne (by omega), upd2_ne (by omega), upd2_ne (by omega), k23, nI_1, p_559, bnd_s, if_pos (show b2i false = 0 from rfl), rf_559_21, bnd_s, g_559, bnd_s, u2, if_neg (by omega), upd2_ne (by omega), upd2_ne (by omega), upd2_ne (by omega), h20', a_568 hsd, bnd_s, u2, if_neg (by omega), upd2_ne (by omega), upd2_ne (by omega), upd2_ne (by omega), h57 _ _ (by omega) (by omega), h68, nI_1, s_568 hsd, bnd_s, nrw100]
    obtain ⟨x1, x2⟩ := fin (upd2 (upd2 (upd2 (upd2 (upd2 m7 571 (cN (kd T z) t).length (nI (t + 1))) 572 (cN (kd T z) t).length (b2i false)) 573 (cN (kd T z) t).length (nI s.2.2.2.1)) 559 23 (nI ((cN (kd T z) t).length + 1))) 568 sd (nI (s.2.2.2.1 + 1))) (fun a j g1 g2 g3 => by rw [u2, if_neg (by omega), u2, if_neg (by omega), u2, if_neg (by omega), u2, if_neg (by omega), u2, if_neg (by omega)]) (by rw [u2, if_neg (by omega), uE]) (by rw [u2, if_neg (by omega), u2, if_neg (by omega), u2, if_neg (by omega), u2, if_neg (by omega), uE]) (by rw [u2, if_neg (by omega), u2, if_neg (by omega), u2, if_neg (by omega), uE]) (by rw [u2, if_neg (by omega), u2, if_neg (by omega), uE, hcb]) (by rw [uE, e41]) (by rw [u2, if_neg (by omega), u2, if_neg (by omega), u2, if_neg (by omega), u2, if_neg (by omega), u2, if_neg (by omega), h57 _ _ (by omega) (by omega), h69, e42])
    exact ⟨t4 + 1, _, _, _, by omega, rfl, x1, x2, ml7⟩
  · have e41 : s4.2.2.2.1 = s.2.2.2.1 := by have := congrArg Prod.fst hs42; simpa using this
    have e42 : s4.2.2.2.2 = s.2.2.2.2 + 1 := by have := congrArg Prod.snd hs42; simpa using this
    rw [if_neg (show ¬ b2i true = 0 by decide), rf_559_22, bnd_s, g_559, bnd_s, upd2_ne (by omega), upd2_ne (by omega), h20', a_569 hsd, bnd_s, upd2_ne (by omega), upd2_ne (by omega), h57 _ _ (by omega) (by omega), h69, s_573 hlen, bnd_s, nrw100, g_559, bnd_s, upd2_ne (by omega), upd2_ne (by omega), upd2_ne (by omega), k23, nI_1, p_559, bnd_s, if_neg (show ¬ b2i true = 0 by decide), rf_559_22, bnd_s, g_559, bnd_s, u2, if_neg (by omega), upd2_ne (by omega), upd2_ne (by omega), upd2_ne (by omega), h20', a_569 hsd, bnd_s, u2, if_neg (by omega), upd2_ne (by omega), upd2_ne (by omega), upd2_ne (by omega), h57 _ _ (by omega) (by omega), h69, nI_1, s_569 hsd, bnd_s, nrw100]
    obtain ⟨x1, x2⟩ := fin (upd2 (upd2 (upd2 (upd2 (upd2 m7 571 (cN (kd T z) t).length (nI (t + 1))) 572 (cN (kd T z) t).length (b2i true)) 573 (cN (kd T z) t).length (nI s.2.2.2.2)) 559 23 (nI ((cN (kd T z) t).length + 1))) 569 sd (nI (s.2.2.2.2 + 1))) (fun a j g1 g2 g3 => by rw [u2, if_neg (by omega), u2, if_neg (by omega), u2, if_neg (by omega), u2, if_neg (by omega), u2, if_neg (by omega)]) (by rw [u2, if_neg (by omega), uE]) (by rw [u2, if_neg (by omega), u2, if_neg (by omega), u2, if_neg (by omega), u2, if_neg (by omega), uE]) (by rw [u2, if_neg (by omega), u2, if_neg (by omega), u2, if_neg (by omega), uE]) (by rw [u2, if_neg (by omega), u2, if_neg (by omega), uE, hco]) (by rw [u2, if_neg (by omega), u2, if_neg (by omega), u2, if_neg (by omega), u2, if_neg (by omega), u2, if_neg (by omega), h57 _ _ (by omega) (by omega), h68, e41]) (by rw [uE, e42])
    exact ⟨t4 + 1, _, _, _, by omega, rfl, x1, x2, ml7⟩
end TEL
