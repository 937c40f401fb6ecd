/-! ===== the class's Builder: all things ===== -/
def VOK (G : List (List Cd)) (V : List Sh) : Prop := ∀ k, k < V.length → rn (V.take k) (G.getD k []) [] = some (.inr [V.getD k E0]) ∧ noS (V.getD k E0) = false
theorem VOK_app {G : List (List Cd)} {V : List Sh} {P : List Cd} {S : Sh} (h : VOK G V) (hl : G.length = V.length) (h1 : rn V P [] = some (.inr [S])) (h2 : noS S = false) : VOK (G ++ [P]) (V ++ [S]) := fun k hk => by
  rw [List.length_append, List.length_singleton] at hk
  by_cases d : k = V.length
  · subst d
    have e1 : (V ++ [S]).take V.length = V := List.take_left' rfl
    have e2 : (G ++ [P]).getD V.length [] = P := by rw [← hl]; simp
    have e3 : (V ++ [S]).getD V.length E0 = S := by simp
    rw [e1, e2, e3]; exact ⟨h1, h2⟩
  · have e1 : (V ++ [S]).take k = V.take k := List.take_append_of_le_length (by omega)
    have e2 : (G ++ [P]).getD k [] = G.getD k [] := by simp [List.getD, List.getElem?_append_left (show k < G.length by omega)]
    have e3 : (V ++ [S]).getD k E0 = V.getD k E0 := by simp [List.getD, List.getElem?_append_left (show k < V.length by omega)]
    rw [e1, e2, e3]; exact h k (by omega)
theorem VOK_G {G D : List (List Cd)} {V : List Sh} (h : VOK G V) (hl : V.length ≤ G.length) : VOK (G ++ D) V := fun k hk => by
  have e2 : (G ++ D).getD k [] = G.getD k [] := by simp [List.getD, List.getElem?_append_left (show k < G.length by omega)]
  rw [e2]; exact h k hk
section GRW
variable {k v u p : Nat → Nat} {t c : Nat} {s : SyS}
theorem cN_pre : ∀ d, ∃ D, cN k (t + d) = cN k t ++ D
  | 0 => ⟨[], by rw [List.append_nil]; rfl⟩
  | d + 1 => by
    obtain ⟨D, hD⟩ := cN_pre d
    show ∃ D, cN k (t + d + 1) = _
    rw [cN]
    by_cases c : k (t + d) = 59
    · rw [if_pos c, hD, List.append_assoc]; exact ⟨_, rfl⟩
    · rw [if_neg c]; exact ⟨D, hD⟩
theorem G_pre : ∀ d, ∃ D, (Xm k v u p (t + d)).2.2 = (Xm k v u p t).2.2 ++ D
  | 0 => ⟨[], by rw [List.append_nil]; rfl⟩
  | d + 1 => by
    obtain ⟨D, hD⟩ := G_pre d
    show ∃ D, (Xm k v u p (t + d + 1)).2.2 = _
    cases e : Au k (t + d) with
    | none => rw [Xm, e]; exact ⟨D, hD⟩
    | some s =>
      rw [Xm_s e]
      by_cases c : s.1 = 7 ∧ k (t + d) = 59
      · have : xs k v u p (t + d) s.1 s.2.1 (Xm k v u p (t + d)) = ([], [], (Xm k v u p (t + d)).2.2 ++ [(Xm k v u p (t + d)).2.1]) := by simp [xs, c.1, c.2]
        rw [this]
        exact ⟨D ++ [(Xm k v u p (t + d)).2.1], by rw [hD, List.append_assoc]⟩
      · rw [xs_G c]; exact ⟨D, hD⟩
/-- where a thing ends -/
theorem th_end (h : AL k c) : ∀ d t s, c - t ≤ d → Au k t = some s → 2 ≤ s.1 → t ≤ c → ∃ te se, t ≤ te ∧ te + 1 ≤ c ∧ Au k te = some se ∧ se.1 = 7 ∧ k te = 59 ∧ se.2.2.2 = s.2.2.2 := by
  intro d
  induction d with
  | zero =>
    intro t s hd hA h2 ht
    obtain ⟨h1, _⟩ := AL_n h hA (by omega) ht
    omega
  | succ d ih =>
    intro t s hd hA h2 ht
    obtain ⟨h1, s', e1, e2⟩ := AL_n h hA (by omega) ht
    by_cases c0 : s.1 = 7 ∧ k t = 59
    · exact ⟨t, s, Nat.le_refl _, h1, hA, c0.1, c0.2, rfl⟩
    · have hs' : 2 ≤ s'.1 ∧ s'.2.2.2 = s.2.2.2 := by
        rcases nx_c e2 with ⟨c, g, rfl⟩ | ⟨c, g, rfl⟩ | ⟨c, g, rfl⟩ | ⟨c, g, rfl⟩ | ⟨c, g, rfl⟩ | ⟨c, g, rfl⟩ | ⟨c, g, rfl⟩ | ⟨c, g, rfl⟩ | ⟨c, g, rfl⟩ | ⟨c, g, rfl⟩ | ⟨c, g, rfl⟩ | ⟨c, g, rfl⟩ | ⟨c, g, rfl⟩ | ⟨c, g, rfl⟩ | ⟨c, g, rfl⟩ | ⟨c, g, rfl⟩ | ⟨c, g, rfl⟩ | ⟨c, g, rfl⟩ <;> first | omega | (refine ⟨?_, rfl⟩; simp only []; (try split) <;> omega)
      obtain ⟨te, se, f1, f2, f3, f4, f5, f6⟩ := ih (t + 1) s' (by omega) e1 hs'.1 h1
      exact ⟨te, se, by omega, f2, f3, f4, f5, by rw [f6, hs'.2]⟩
end GRW
def FA (mi mi' : IM) : Prop := ∀ a j, ¬ (a = 4 ∧ (j = 5 ∨ j = 6)) → ¬ (12 ≤ a ∧ a ≤ 76) → mi' a j = mi a j
theorem FA.rf {x : IM} : FA x x := fun _ _ _ _ => rfl
theorem FA.tr {x y w : IM} (h : FA x y) (h2 : FA y w) : FA x w := fun a j q1 q2 => by rw [h2 a j q1 q2, h a j q1 q2]
theorem BF.fa {b wo : Nat} {x y : IM} (h : BF b wo x y) (hb : 12 ≤ b) : FA x y := fun a j q1 q2 => h a j q1 (by omega) (by omega) (by omega) (by omega)
/-- how building ends -/
def BldO (T : Nat → Nat) (z c : Nat) (mi mi' : IM) : Prop :=
  (∃ V : List Sh, V.length = (cN (kd T z) c).length ∧ VOK (XT T z c).2.2 V ∧ mi' 4 = mi 4 ∧ mi' 12 2 = nI V.length ∧ ∀ j, j < V.length → mi' 14 j = b2i (isO (kd T z) ((cN (kd T z) c).getD j 0)) ∧ svS mi' (21 + 2 * j) = V.getD j E0)
  ∨ (∃ V : List Sh, V.length < (cN (kd T z) c).length ∧ VOK (XT T z c).2.2 V ∧ ((∃ pl, rn V ((XT T z c).2.2.getD V.length []) [] = some (.inl pl) ∧ mi' 4 5 = nI 6 ∧ mi' 4 6 = nI pl) ∨ ∃ S, rn V ((XT T z c).2.2.getD V.length []) [] = some (.inr [S]) ∧ noS S = true ∧ mi' 4 5 = nI 7 ∧ mi' 4 6 = nI (tP T z ((cN (kd T z) c).getD V.length 0))))
section ALB
variable {n z c : Nat} {T : Nat → Nat}
theorem build132_F {k9 : Nat → Int32 → MM → Option MM} {i : Nat} {mi : IM} {ml : JM} (h : mi 4 5 = nI 6 ∨ mi 4 5 = nI 7) : f_Builder_build_132 n k9 12 (nI i) (K mi ml) = some (K mi ml) := by
  unfold f_Builder_build_132
  rw [rf_12_9, bnd_s, g_4, bnd_s]
  rcases h with h | h
  · rw [h, if_neg (show ¬ nI 6 = 0 by decide)]
  · rw [h, if_neg (show ¬ nI 7 = 0 by decide)]
theorem build17 (hn : 500 < n) (hc : c ≤ 400) (hAL : AL (kd T z) c) (hm : ∀ j, j < c → mf (kd T z) (vT T z) (uT T z) j = 0) : ∀ m t s V mi ml, Au (kd T z) t = some s → s.1 = 0 → t ≤ c → V.length = (cN (kd T z) t).length → VOK (XT T z t).2.2 V → BSt T z c (cN (kd T z) t) V 0 t mi ml → CTX T z c (cN (kd T z) t) ml → (∀ j, j < V.length → mi 14 j = b2i (isO (kd T z) ((cN (kd T z) t).getD j 0))) → c - t < m → ∃ mi' ml', f_Builder_build_17 n m 12 (nI V.length) (K mi ml) = some (K mi' ml') ∧ FA mi mi' ∧ (∀ a, a ≠ 15 → ml' a = ml a) ∧ BldO T z c mi mi' := by
  intro m
  induction m with
  | zero => intro t s V mi ml _ _ _ _ _ _ _ _ h; omega
  | succ m ih =>
    intro t s V mi ml hA h0 ht hV hVO hB hX h14 hm'
    have hbi := Au_i hA
    obtain ⟨_, iN2, iN3⟩ := Au_N hA
    rw [if_pos h0] at iN3
    have hXi := Xm_i (v := vT T z) (u := uT T z) (p := tP T z) hA
    have hGl : (XT T z t).2.2.length = (cN (kd T z) t).length := hXi.2.2.2.2.2
    have h3c := hB.1.1.1
    rw [f_Builder_build_17]
    by_cases d14 : V.length = 14
    · have htc : t = c := by
        by_cases g : t = c
        · exact g
        · exfalso
          obtain ⟨sz, hz1, hz2⟩ := hAL
          obtain ⟨s', hs'⟩ := Option.ne_none_iff_exists'.mp (Au_d (j := t + 1) (by rw [hz1]; intro q; cases q) (by omega))
          obtain ⟨s0, e1, e2, e3⟩ := Au_b hs'
          rw [hA] at e1
          cases e1
          have hr := rmO_i.mp e3
          have := nx_c e2
          have hb2 := Au_i hs'
          rcases nx_c e2 with ⟨c, g, rfl⟩ | ⟨c, g, rfl⟩ | ⟨c, g, _⟩ | ⟨c, g, _⟩ | ⟨c, g, _⟩ | ⟨c, g, _⟩ | ⟨c, g, _⟩ | ⟨c, g, _⟩ | ⟨c, g, _⟩ | ⟨c, g, _⟩ | ⟨c, g, _⟩ | ⟨c, g, _⟩ | ⟨c, g, _⟩ | ⟨c, g, _⟩ | ⟨c, g, _⟩ | ⟨c, g, _⟩ | ⟨c, g, _⟩ | ⟨c, g, _⟩ <;> (try simp only [] at hb2) <;> omega
      rw [if_pos (show (14 : Int32) ≤ nI V.length by rw [d14]; decide)]
      subst htc
      exact ⟨mi, ml, rfl, FA.rf, fun _ _ => rfl, Or.inl ⟨V, hV, hVO, rfl, by rw [hV]; exact hB.2.1.2.2.1, fun j hj => ⟨h14 j hj, hB.2.2 j (by omega)⟩⟩⟩
    have hV14 : V.length < 14 := by have := hB.2.1.2.2.2.1; omega
    rw [if_neg (show ¬ (14 : Int32) ≤ nI V.length by rw [il1 (n := 14) (by omega) (by omega)]; omega), g_12, bnd_s, hB.2.1.1, rf_12_9, bnd_s, g_4, bnd_s, h3c]
    by_cases htc : t = c
    · rw [if_pos (nI_le (by omega) (by omega))]
      subst htc
      exact ⟨mi, ml, rfl, FA.rf, fun _ _ => rfl, Or.inl ⟨V, hV, hVO, rfl, by rw [hV]; exact hB.2.1.2.2.1, fun j hj => ⟨h14 j hj, hB.2.2 j (by omega)⟩⟩⟩
    rw [if_neg (show ¬ nI c ≤ nI t by rw [nI_leI (by omega) (by omega)]; omega), bnd_s, nI_1, nm_t, rf_12_1, bnd_s, bnd_s, bnd_s, kindA (by omega) (by omega) hB.1.1, bnd_s, if_pos (show t < c by omega)]
    -- the head of the thing
    obtain ⟨s1, A1, hs1, hr1⟩ : ∃ s1, Au (kd T z) (t + 1) = some s1 ∧ nx s (kd T z t) = some s1 ∧ s1.2.2.2.1 + s1.2.2.2.2 ≤ 14 := by
      obtain ⟨sz, hz1, hz2⟩ := hAL
      obtain ⟨s', hs'⟩ := Option.ne_none_iff_exists'.mp (Au_d (j := t + 1) (by rw [hz1]; intro q; cases q) (by omega))
      obtain ⟨s0, e1, e2, e3⟩ := Au_b hs'
      rw [hA] at e1
      cases e1
      have := Au_i hs'
      exact ⟨s', hs', e2, by omega⟩
    have hk10 : kd T z t = 10 ∨ kd T z t = 11 := by have := nx_c hs1; omega
    have hs1v : s1.1 = 1 ∧ s1.2.2.1 = 0 := by
      have hb0 := hbi.2.2.2.2.2.2 (by omega)
      rcases hk10 with d | d <;> (rw [d] at hs1; simp [nx, h0] at hs1; rw [← hs1]; exact ⟨rfl, hb0⟩)
    obtain ⟨htc1, s2, A2, hs2⟩ := AL_n hAL A1 (by omega) (by omega)
    have k2 : kd T z (t + 1) = 2 := by have := nx_c hs2; omega
    have hs2v : s2 = (2, s1.2) := by rw [k2] at hs2; simp [nx, hs1v.1] at hs2; exact hs2.symm
    subst hs2v
    obtain ⟨htc2, s3, A3, hs3⟩ := AL_n hAL A2 (by simp) htc1
    have k61 : kd T z (t + 1 + 1) = 61 := by have := nx_c hs3; simp only [] at this; omega
    have hs3v : s3 = (3, s1.2) := by rw [k61] at hs3; simp [nx] at hs3; exact hs3.symm
    subst hs3v
    have htl : tell (kd T z) (t + 1) = true := (Au_t A1).1.mpr hs1v.1
    have X1 : XT T z (t + 1) = XT T z t := by
      show Xm _ _ _ _ (t + 1) = _
      rw [Xm_s hA]; simp [xs, h0]
    have X2 : XT T z (t + 1 + 1) = XT T z t := by
      show Xm _ _ _ _ (t + 1 + 1) = _
      rw [Xm_s A1, show xs (kd T z) (vT T z) (uT T z) (tP T z) (t + 1) s1.1 s1.2.1 (Xm (kd T z) (vT T z) (uT T z) (tP T z) (t + 1)) = Xm (kd T z) (vT T z) (uT T z) (tP T z) (t + 1) by simp [xs, hs1v.1]]
      exact X1
    have X3 : XT T z (t + 1 + 1 + 1) = XT T z t := by
      show Xm _ _ _ _ (t + 1 + 1 + 1) = _
      rw [Xm_s A2, show xs (kd T z) (vT T z) (uT T z) (tP T z) (t + 1 + 1) (2, s1.2).1 (2, s1.2).2.1 (Xm (kd T z) (vT T z) (uT T z) (tP T z) (t + 1 + 1)) = Xm (kd T z) (vT T z) (uT T z) (tP T z) (t + 1 + 1) by simp [xs]]
      exact X2
    have h61 : ¬ kd T z (t + 1 + 1) = 59 ∧ kd T z (t + 1 + 1) ≠ 2 := by rw [k61]; decide
    have c1 : cN (kd T z) (t + 1) = cN (kd T z) t := by rw [cN, if_neg (by omega)]
    have c2 : cN (kd T z) (t + 1 + 1) = cN (kd T z) t := by rw [cN, if_neg (by omega)]; exact c1
    have c3 : cN (kd T z) (t + 1 + 1 + 1) = cN (kd T z) t := by rw [cN, if_neg h61.1]; exact c2
    have o3 : oN (kd T z) (t + 1 + 1 + 1) = t + 1 := by
      rw [oN, if_neg (fun q => h61.2 q.1)]
      show oN (kd T z) (t + 1 + 1) = t + 1
      rw [oN, if_pos ⟨k2, htl⟩]
    obtain ⟨hX0, hC0⟩ := hXi.2.2.2.2.1 (by omega)
    have hX0 : (XT T z t).1 = [] := hX0
    have hC0 : (XT T z t).2.1 = [] := hC0
    -- its end
    obtain ⟨te, se, te1, te2, te3, te4, te5, te6⟩ := th_end hAL c (t + 1 + 1 + 1) (3, s1.2) (by omega) A3 (by simp) htc2
    obtain ⟨oe, ce, Ge, _⟩ := Au_sm (v := vT T z) (u := uT T z) (p := tP T z) A3 (by simp) te1 te3 (by omega) te6
    rw [o3] at oe
    rw [c3] at ce
    have Ge : (XT T z te).2.2 = (XT T z t).2.2 := by rw [show (XT T z te).2.2 = _ from Ge]; exact congrArg (fun x => x.2.2) X3
    have ce1 : cN (kd T z) (te + 1) = cN (kd T z) t ++ [t + 1] := by rw [cN, if_pos te5, ce, oe]
    have Xe1 : XT T z (te + 1) = ([], [], (XT T z t).2.2 ++ [(XT T z te).2.1]) := by
      show Xm _ _ _ _ (te + 1) = _
      rw [Xm_s te3]
      have : (Xm (kd T z) (vT T z) (uT T z) (tP T z) te).2.2 = (XT T z t).2.2 := Ge
      simp [xs, te4, te5, this]
    obtain ⟨DN, hDN⟩ := cN_pre (k := kd T z) (t := te + 1) (c - (te + 1))
    obtain ⟨DG, hDG⟩ := G_pre (k := kd T z) (v := vT T z) (u := uT T z) (p := tP T z) (t := te + 1) (c - (te + 1))
    rw [show te + 1 + (c - (te + 1)) = c by omega] at hDN hDG
    rw [ce1] at hDN
    have hDG : (XT T z c).2.2 = (XT T z t).2.2 ++ [(XT T z te).2.1] ++ DG := by rw [show (XT T z c).2.2 = _ from hDG, show (Xm (kd T z) (vT T z) (uT T z) (tP T z) (te + 1)).2.2 = _ from congrArg (fun x => x.2.2) Xe1]
    have gG : (XT T z c).2.2.getD V.length [] = (XT T z te).2.1 := by
      rw [hDG, hV, ← hGl]; simp
    have gN : (cN (kd T z) c).getD V.length 0 = t + 1 := by
      rw [hDN, hV]; simp
    have gl : V.length < (cN (kd T z) c).length := by rw [hDN, List.length_append, List.length_append, List.length_singleton]; omega
    have hVc : VOK (XT T z c).2.2 V := by rw [hDG, List.append_assoc]; exact VOK_G hVO (by omega)
    -- the class
    have step : ∀ x : Int32, x &&& 1 = b2i (isO (kd T z) (t + 1)) → ∃ mi' ml', f_Builder_build_70 n (f_Builder_build_17 n m) 12 (nI V.length) (nI (t + 1)) 14 (nI V.length) x (K mi ml) = some (K mi' ml') ∧ FA mi mi' ∧ (∀ a, a ≠ 15 → ml' a = ml a) ∧ BldO T z c mi mi' := fun x hx => by
      unfold f_Builder_build_70
      rw [s_14 hV14, bnd_s, nrw102, hx, rf_12_3, bnd_s, rf_12_9, bnd_s]
      have hL1 : LexC T z c (upd2 mi 14 V.length (b2i (isO (kd T z) (t + 1)))) ml := LexC_c hB.1.1 (by rw [u2, if_neg (by omega)]) (by funext j; rw [u2, if_neg (by omega)]) (by funext j; rw [u2, if_neg (by omega)])
      rw [valueA (by omega) hL1 (by omega), bnd_s, val2 hL1 (by omega) k2, s_15 hV14, bnd_s, g_12, bnd_s, upd2_ne (by omega), hB.2.1.1, ia1 (n := 3), p_12, bnd_s]
      have f1 : ∀ a j, ¬ (a = 14 ∧ j = V.length) → ¬ (a = 12 ∧ j = 10) → upd2 (upd2 mi 14 V.length (b2i (isO (kd T z) (t + 1)))) 12 10 (nI (t + 3)) a j = mi a j := fun a j q1 q2 => by rw [u2, if_neg q2, u2, if_neg q1]
      have f10 : upd2 (upd2 mi 14 V.length (b2i (isO (kd T z) (t + 1)))) 12 10 (nI (t + 3)) 12 10 = nI (t + 1 + 1 + 1) := uE
      have f14 : upd2 (upd2 mi 14 V.length (b2i (isO (kd T z) (t + 1)))) 12 10 (nI (t + 3)) 14 V.length = b2i (isO (kd T z) (t + 1)) := by rw [u2, if_neg (by omega), uE]
      generalize upd2 (upd2 mi 14 V.length (b2i (isO (kd T z) (t + 1)))) 12 10 (nI (t + 3)) = m1 at f1 f10 f14
      have hml : ∀ a, a ≠ 15 → upd2 ml 15 V.length (l64 (uT T z (t + 1))) a = ml a := fun a q => by funext j; rw [u2, if_neg (by omega)]
      have hmlj : ∀ j, j < V.length → upd2 ml 15 V.length (l64 (uT T z (t + 1))) 15 j = ml 15 j := fun j hj => by rw [u2, if_neg (by omega)]
      have hmlV : upd2 ml 15 V.length (l64 (uT T z (t + 1))) 15 V.length = l64 (uT T z (t + 1)) := uE
      generalize upd2 ml 15 V.length (l64 (uT T z (t + 1))) = l1 at hml hmlj hmlV
      have hLx : ∀ m', (∀ j, m' 4 j = mi 4 j) → m' 5 = mi 5 → m' 6 = mi 6 → LexC T z c m' l1 := fun m' q1 q2 q3 => by
        have := LexC_c hB.1.1 (mi' := m') (q1 3) q2 q3
        unfold LexC at this ⊢
        rw [hml 7 (by omega)]; exact this
      have hB1 : BSt T z c (cN (kd T z) t) V 0 (t + 1 + 1 + 1) m1 l1 := by
        refine ⟨⟨hLx m1 (fun j => f1 _ _ (by omega) (by omega)) (by funext j; exact f1 _ _ (by omega) (by omega)) (by funext j; exact f1 _ _ (by omega) (by omega)), by rw [f1 _ _ (by omega) (by omega)]; exact hB.1.2.1, by rw [f1 _ _ (by omega) (by omega)]; exact hB.1.2.2⟩, ⟨f10, by rw [f1 _ _ (by omega) (by omega)]; exact hB.2.1.2.1, by rw [f1 _ _ (by omega) (by omega)]; exact hB.2.1.2.2.1, hB.2.1.2.2.2⟩, fun j hj => ?_⟩
        rw [← hB.2.2 j hj]
        unfold svS
        rw [show m1 (21 + 2 * j + 1) = mi (21 + 2 * j + 1) by funext i; exact f1 _ _ (by omega) (by omega)]
      have hX1 : CTX T z c (cN (kd T z) t) l1 := ⟨hc, hAL, hm, fun j hj => ⟨(hX.2.2.2.1 j hj).1, by rw [hmlj j (by omega)]; exact (hX.2.2.2.1 j hj).2⟩, hX.2.2.2.2⟩
      obtain ⟨m2, g1, g2, g3⟩ := sumOK (n := n) (ml := l1) (N := cN (kd T z) t) (E := V) hn hX1 9 0 (by omega) (by omega) (t + 1 + 1 + 1) (3, s1.2) 0 m1 hB1 A3 rfl hs1v.2 htc2 (by omega) (by rw [X3]; exact Or.inl hX0) c3
      rw [show F_Builder_sumUp n 9 12 0 (K m1 l1) = _ from g1, bnd_s, rf_12_9, bnd_s, g_4, bnd_s]
      have hFA : FA mi m2 := FA.tr (fun a j q1 q2 => f1 a j (by omega) (by omega)) (g2.fa (by omega))
      rcases g3 with ⟨t', s', P, S, ⟨a1, a2, a3, a4, a5, a6, a7, a8⟩, a9, a10, a11, a12, a13, a14⟩ | ⟨t', s', P, pl, ⟨a1, a2, a3, a4, a5⟩, a6, a7, a8, a9⟩
      · have hbr : s'.2.2.1 = 0 := by rw [a5]; exact hs1v.2
        obtain ⟨ht1, s4, A4, hs4⟩ := AL_n hAL a3 (by omega) a2
        have k59 : kd T z t' = 59 := by have := nx_c hs4; omega
        have hs4v : s4 = (0, s'.2) := by rw [k59] at hs4; simp [nx, a4, hbr] at hs4; exact hs4.symm
        subst hs4v
        have hn59 : nx s' (kd T z t') = some (0, s'.2) := hs4
        -- the end found by the class is the end of the thing
        have hte : t' = te := by
          rcases Nat.lt_trichotomy t' te with g | g | g
          · exfalso
            obtain ⟨q1, q2, _⟩ := Au_sm (v := vT T z) (u := uT T z) (p := tP T z) a3 (by omega) (show t' ≤ te by omega) te3 (by omega) (by rw [te6, a5])
            obtain ⟨DD, hDD⟩ := cN_pre (k := kd T z) (t := t' + 1) (te - (t' + 1))
            rw [show t' + 1 + (te - (t' + 1)) = te by omega, q2, show cN (kd T z) (t' + 1) = cN (kd T z) t' ++ [oN (kd T z) t'] by rw [cN, if_pos k59]] at hDD
            have := congrArg List.length hDD
            simp at this
          · exact g
          · exfalso
            obtain ⟨q1, q2, _⟩ := Au_sm (v := vT T z) (u := uT T z) (p := tP T z) te3 (by omega) (show te ≤ t' by omega) a3 (by omega) (by rw [te6, a5])
            obtain ⟨DD, hDD⟩ := cN_pre (k := kd T z) (t := te + 1) (t' - (te + 1))
            rw [show te + 1 + (t' - (te + 1)) = t' by omega, q2, show cN (kd T z) (te + 1) = cN (kd T z) te ++ [oN (kd T z) te] by rw [cN, if_pos te5]] at hDD
            have := congrArg List.length hDD
            simp at this
        subst hte
        have hP : (XT T z t').2.1 = P := by rw [a9, X3, hC0]; rfl
        have hrn : rn V P [] = some (.inr [S]) := a10 [] (by decide)
        rw [a11, f1 _ _ (by omega) (by omega), hB.1.2.2, if_pos (show (0 : Int32) = 0 from rfl), rf_12_4, bnd_s, show aR 104 16 0 (K m2 l1) = _ from aR_16 (i := 0) (by omega), bnd_s, isNothing_s (sh_ok (sh_s 0 (by omega)).1) (by omega), bnd_s, a14]
        cases hnS : noS S with
        | true =>
          rw [if_neg (show ¬ b2i true = 0 by decide), rf_12_9, bnd_s]
          have hL2 : LexC T z c m2 l1 := hLx m2 (fun j => by rw [a11, f1 _ _ (by omega) (by omega)]) (by funext j; exact hFA _ _ (by omega) (by omega)) (by funext j; exact hFA _ _ (by omega) (by omega))
          rw [show f_Tokens_blame n 4 7 (nI (t + 1)) (K m2 l1) = _ from blameA (f := 7) (by omega) (by omega) hL2 (by rw [a11, f1 _ _ (by omega) (by omega)]; exact hB.1.2.1), bnd_s, if_pos (show t + 1 < c by omega), build132_F (Or.inr (by unfold blM; rw [u2, if_neg (by omega), uE]))]
          refine ⟨_, _, rfl, hFA.tr (fun a j q1 q2 => by unfold blM; rw [u2, if_neg (by omega), u2, if_neg (by omega)]), hml, Or.inr ⟨V, gl, hVc, Or.inr ⟨S, by rw [gG, hP]; exact hrn, hnS, by unfold blM; rw [u2, if_neg (by omega), uE], by unfold blM; rw [uE, gN]⟩⟩⟩
        | false =>
          rw [if_pos (show b2i false = 0 from rfl)]
          unfold f_Builder_build_132
          rw [rf_12_9, bnd_s, g_4, bnd_s, a11, f1 _ _ (by omega) (by omega), hB.1.2.2, if_pos (show (0 : Int32) = 0 from rfl), rf_12_0, bnd_s, aR_13 hV14, bnd_s, rf_12_4, bnd_s, show aR 104 16 0 (K m2 l1) = _ from aR_16 (i := 0) (by omega), bnd_s, copy_s (sh_ok (sh_m V.length hV14)) (sh_ok (sh_s 0 (by omega)).1) (by omega) (by omega), bnd_s, nI_1, p_12, bnd_s, g_12, bnd_s, u2, if_neg (by omega), setRw_ne (by omega), a12, nI_1, p_12, bnd_s]
          have r : ∀ a j, a ≠ 21 + 2 * V.length + 1 → ¬ (a = 12 ∧ (j = 2 ∨ j = 10)) → upd2 (upd2 (setRw m2 (21 + 2 * V.length) (m2 (49 + 4 * 0 + 1))) 12 2 (nI (V.length + 1))) 12 10 (nI (t' + 1)) a j = m2 a j := fun a j q1 q2 => by rw [u2, if_neg (by omega), u2, if_neg (by omega), setRw_ne q1]
          have r2 : upd2 (upd2 (setRw m2 (21 + 2 * V.length) (m2 (49 + 4 * 0 + 1))) 12 2 (nI (V.length + 1))) 12 10 (nI (t' + 1)) 12 2 = nI (V.length + 1) := by rw [u2, if_neg (by omega), uE]
          have r10 : upd2 (upd2 (setRw m2 (21 + 2 * V.length) (m2 (49 + 4 * 0 + 1))) 12 2 (nI (V.length + 1))) 12 10 (nI (t' + 1)) 12 10 = nI (t' + 1) := uE
          have rS' : svS (upd2 (upd2 (setRw m2 (21 + 2 * V.length) (m2 (49 + 4 * 0 + 1))) 12 2 (nI (V.length + 1))) 12 10 (nI (t' + 1))) (21 + 2 * V.length) = S := by
            rw [← a14]
            unfold svS
            rw [upd2_ne (by omega), upd2_ne (by omega)]
            exact sv_set (mi := m2) (a := 21 + 2 * V.length) (R := m2 (49 + 4 * 0 + 1))
          show ∃ mi' ml', f_Builder_build_17 n m 12 (nI (V.length + 1)) (K (upd2 (upd2 (setRw m2 (21 + 2 * V.length) (m2 (49 + 4 * 0 + 1))) 12 2 (nI (V.length + 1))) 12 10 (nI (t' + 1))) l1) = _ ∧ _
          generalize upd2 (upd2 (setRw m2 (21 + 2 * V.length) (m2 (49 + 4 * 0 + 1))) 12 2 (nI (V.length + 1))) 12 10 (nI (t' + 1)) = m3 at r r2 r10 rS'
          have hg : ∀ j, j < V.length → (cN (kd T z) t ++ [t + 1]).getD j 0 = (cN (kd T z) t).getD j 0 := fun j hj => by simp [List.getD, List.getElem?_append_left (show j < (cN (kd T z) t).length by omega)]
          have hgl : (cN (kd T z) t ++ [t + 1]).getD V.length 0 = t + 1 := by rw [hV]; simp
          have hVl : (V ++ [S]).length = V.length + 1 := by simp
          have hvg : ∀ j, j < V.length → (V ++ [S]).getD j E0 = V.getD j E0 := fun j hj => by simp [List.getD, List.getElem?_append_left hj]
          have hvl : (V ++ [S]).getD V.length E0 = S := by simp
          have hnl : (cN (kd T z) t ++ [t + 1]).length = V.length + 1 := by rw [List.length_append, hV]; rfl
          have FA3 : FA mi m3 := hFA.tr (fun a j q1 q2 => r a j (by omega) (by omega))
          have m34 : ∀ j, m3 4 j = mi 4 j := fun j => by rw [r _ _ (by omega) (by omega), a11, f1 _ _ (by omega) (by omega)]
          have hmf1 := hm (t + 1) (by omega)
          have hnt : ¬ told (kd T z) (uT T z) (t + 1) = true := fun q => by
            unfold mf at hmf1
            rw [if_pos k2, if_pos htl, if_pos q] at hmf1
            omega
          rw [told_i, c1] at hnt
          have hX' : CTX T z c (cN (kd T z) (t' + 1)) l1 := by
            rw [ce1]
            refine ⟨hc, hAL, hm, fun j hj => ?_, fun i j hi hj he => ?_⟩
            · rw [hnl] at hj
              by_cases d : j = V.length
              · rw [d, hgl]; exact ⟨k2, hmlV⟩
              · rw [hg j (by omega)]; exact hX1.2.2.2.1 j (by omega)
            · rw [hnl] at hi hj
              by_cases d : i = V.length
              · by_cases d' : j = V.length
                · omega
                · rw [d, hgl, hg j (by omega)] at he
                  exact absurd ⟨j, by omega, he.symm⟩ hnt
              · by_cases d' : j = V.length
                · rw [d', hgl, hg i (by omega)] at he
                  exact absurd ⟨i, by omega, he⟩ hnt
                · rw [hg i (by omega), hg j (by omega)] at he
                  exact hX.2.2.2.2 i j (by omega) (by omega) he
          have hB' : BSt T z c (cN (kd T z) (t' + 1)) (V ++ [S]) 0 (t' + 1) m3 l1 := by
            rw [ce1]
            refine ⟨⟨hLx m3 m34 (by funext j; exact FA3 _ _ (by omega) (by omega)) (by funext j; exact FA3 _ _ (by omega) (by omega)), by rw [m34]; exact hB.1.2.1, by rw [m34]; exact hB.1.2.2⟩, ⟨r10, by rw [r _ _ (by omega) (by omega)]; exact a13, by rw [r2, hnl], by omega, by rw [hVl, hnl]⟩, fun j hj => ?_⟩
            rw [hnl] at hj
            by_cases d : j = V.length
            · rw [d, hvl]; exact rS'
            · rw [hvg j (by omega), ← hB1.2.2 j (by omega)]
              unfold svS
              rw [show m3 (21 + 2 * j + 1) = m1 (21 + 2 * j + 1) by funext i; rw [r _ _ (by omega) (by omega), g2 _ _ (by omega) (by omega) (by omega) (by omega) (by omega)]]
          obtain ⟨m4, l4, y1, y2, y3, y4⟩ := ih (t' + 1) (0, s'.2) (V ++ [S]) m3 l1 A4 rfl ht1 (by rw [hVl, ce1, hnl]) (by rw [Xe1]; exact VOK_app hVO (by omega) (by rw [hP]; exact hrn) hnS) hB' hX' (fun j hj => by
            rw [hVl] at hj
            rw [ce1]
            by_cases d : j = V.length
            · rw [d, hgl, r _ _ (by omega) (by omega), g2 _ _ (by omega) (by omega) (by omega) (by omega) (by omega)]; exact f14
            · rw [hg j (by omega), r _ _ (by omega) (by omega), g2 _ _ (by omega) (by omega) (by omega) (by omega) (by omega), f1 _ _ (by omega) (by omega)]; exact h14 j (by omega)) (by omega)
          rw [hVl] at y1
          refine ⟨m4, l4, y1, FA3.tr y2, fun a q => by rw [y3 a q, hml a q], ?_⟩
          rcases y4 with ⟨V', z1, z2, z3, z4⟩ | y4
          · exact Or.inl ⟨V', z1, z2, by rw [z3]; funext j; exact m34 j, z4⟩
          · exact Or.inr y4
      · rw [a8, if_neg (show ¬ nI 6 = 0 by decide), build132_F (Or.inl a8)]
        have hps : t' ≤ te := by
          rcases Nat.lt_or_ge te t' with g | g
          · exfalso
            obtain ⟨q1, q2, _⟩ := Au_sm (v := vT T z) (u := uT T z) (p := tP T z) te3 (by omega) (show te ≤ t' by omega) a3 a4 (by rw [te6, a5])
            obtain ⟨DD, hDD⟩ := cN_pre (k := kd T z) (t := te + 1) (t' - (te + 1))
            rw [show te + 1 + (t' - (te + 1)) = t' by omega, q2, show cN (kd T z) (te + 1) = cN (kd T z) te ++ [oN (kd T z) te] by rw [cN, if_pos te5]] at hDD
            have := congrArg List.length hDD
            simp at this
          · exact g
        have h2s : 2 ≤ s'.1 := by
          rcases Au_run (v := vT T z) (u := uT T z) (p := tP T z) A3 (by simp) (t' - (t + 1 + 1 + 1)) s' (by rw [show t + 1 + 1 + 1 + (t' - (t + 1 + 1 + 1)) = t' by omega]; exact a3) with ⟨_, ⟨q, _⟩ | q⟩ | q
          · exact q
          · exact absurd q a4
          · rw [a5] at q; omega
        obtain ⟨_, _, _, D, hD⟩ := Au_sm (v := vT T z) (u := uT T z) (p := tP T z) a3 h2s hps te3 (by omega) (by rw [te6, a5])
        have hPe : (XT T z te).2.1 = P ++ D := by rw [show (XT T z te).2.1 = _ from hD, show (Xm (kd T z) (vT T z) (uT T z) (tP T z) t').2.1 = _ from a6, X3, hC0]; rfl
        refine ⟨m2, l1, rfl, hFA, hml, Or.inr ⟨V, gl, hVc, Or.inl ⟨pl, by rw [gG, hPe]; exact rn_2 (a7 [] (by decide)), a8, a9⟩⟩⟩
    by_cases d11 : kd T z t = 11
    · rw [if_pos (show nI (kd T z t) = 11 by rw [d11]; rfl)]
      exact step 1 (by unfold isO; rw [show t + 1 - 1 = t by omega, d11]; decide)
    · rw [if_neg (show ¬ nI (kd T z t) = 11 by rw [show kd T z t = 10 by omega]; decide)]
      exact step 0 (by unfold isO; rw [show t + 1 - 1 = t by omega, show kd T z t = 10 by omega]; decide)
theorem buildC {mi : IM} {ml : JM} (hn : 500 < n) (hc : c ≤ 400) (hAL : AL (kd T z) c) (hm : ∀ j, j < c → mf (kd T z) (vT T z) (uT T z) j = 0) (hL : LexC T z c mi ml) (h4 : mi 4 4 = nI z) (h5 : mi 4 5 = 0) : ∃ mi' ml', f_Builder_build n 12 (K mi ml) = some (K mi' ml') ∧ FA mi mi' ∧ (∀ a, a ≠ 15 → ml' a = ml a) ∧ BldO T z c mi mi' := by
  unfold f_Builder_build
  rw [o_12, p_12, bnd_s, p_12, bnd_s, p_12, bnd_s]
  have f : ∀ a j, a ≠ 12 → upd2 (upd2 (upd2 mi 12 10 0) 12 2 0) 12 8 0 a j = mi a j := fun a j q => by rw [u2, if_neg (by omega), u2, if_neg (by omega), u2, if_neg (by omega)]
  have f8 : upd2 (upd2 (upd2 mi 12 10 0) 12 2 0) 12 8 0 12 8 = nI 0 := uE
  have f2 : upd2 (upd2 (upd2 mi 12 10 0) 12 2 0) 12 8 0 12 2 = nI 0 := by rw [u2, if_neg (by omega), uE]; rfl
  have f10 : upd2 (upd2 (upd2 mi 12 10 0) 12 2 0) 12 8 0 12 10 = nI 0 := by rw [u2, if_neg (by omega), u2, if_neg (by omega), uE]; rfl
  generalize upd2 (upd2 (upd2 mi 12 10 0) 12 2 0) 12 8 0 = m1 at f f8 f2 f10
  obtain ⟨m2, l2, e1, e2, e3, e4⟩ := build17 (n := n) (T := T) (z := z) hn hc hAL hm n 0 (0, 0, 0, 0, 0) [] m1 ml rfl rfl (by omega) rfl (fun k hk => by exact absurd hk (Nat.not_lt_zero _)) ⟨⟨LexC_c hL (f _ _ (by omega)) (by funext j; exact f _ _ (by omega)) (by funext j; exact f _ _ (by omega)), by rw [f _ _ (by omega)]; exact h4, by rw [f _ _ (by omega)]; exact h5⟩, ⟨f10, f8, f2, by show 0 ≤ 14; omega, rfl⟩, fun j hj => by exact absurd hj (Nat.not_lt_zero _)⟩ ⟨hc, hAL, hm, fun j hj => by exact absurd hj (Nat.not_lt_zero _), fun i j hi => by exact absurd hi (Nat.not_lt_zero _)⟩ (fun j hj => by exact absurd hj (Nat.not_lt_zero _)) (by omega)
  rw [show f_Builder_build_17 n n 12 0 (K m1 ml) = _ from e1]
  refine ⟨m2, l2, rfl, FA.tr (fun a j q1 q2 => f a j (by omega)) e2, e3, ?_⟩
  rcases e4 with ⟨V', z1, z2, z3, z4⟩ | y4
  · exact Or.inl ⟨V', z1, z2, by rw [z3]; funext j; exact f _ _ (by omega), z4⟩
  · exact Or.inr y4
end ALB
