/-! ===== the house takes over; all starts anew ===== -/
def adr (k : Nat → Nat) (N : List Nat) (j : Nat) : Nat := if isO k (N.getD j 0) = true then 415 + 24 * cnO k true (N.take j) else 223 + 24 * cnO k false (N.take j)
section OVR
variable {n z : Nat} {mi : IM} {ml : JM} {k : Nat → Nat} {N : List Nat} {V : List Sh}
theorem aR_2 {i : Nat} (h : i < 8) : aR 105 2 (nI i) (K mi ml) = some (223 + 24 * i) := aR_K ds_2 (by decide) h (ra_2 i h)
theorem aR_3 {i : Nat} (h : i < 6) : aR 105 3 (nI i) (K mi ml) = some (415 + 24 * i) := aR_K ds_3 (by decide) h (ra_3 i h)
theorem adr_b {j : Nat} (hj : j < N.length) (h8 : cnO k false N ≤ 8) (h6 : cnO k true N ≤ 6) : 223 ≤ adr k N j ∧ adr k N j + 24 ≤ 559 := by
  unfold adr
  by_cases c : isO k (N.getD j 0) = true
  · have := cnO_lt hj (Nat.le_refl _) c
    rw [List.take_length] at this
    rw [if_pos c]; omega
  · have := cnO_lt (o := false) hj (Nat.le_refl _) (by simpa using c)
    rw [List.take_length] at this
    rw [if_neg c]; omega
theorem adr_ne {i j : Nat} (hij : i < j) (hj : j < N.length) (h8 : cnO k false N ≤ 8) (h6 : cnO k true N ≤ 6) : adr k N i + 24 ≤ adr k N j ∨ adr k N j + 24 ≤ adr k N i := by
  have b1 : ∀ i, i < N.length → ¬ isO k (N.getD i 0) = true → cnO k false (N.take i) + 1 ≤ 8 := fun i hi c => by
    have := cnO_lt (o := false) hi (Nat.le_refl _) (by simpa using c)
    rw [List.take_length] at this
    omega
  unfold adr
  by_cases c : isO k (N.getD i 0) = true
  · have h1 := cnO_lt hij (by omega) c
    rw [if_pos c]
    by_cases d : isO k (N.getD j 0) = true
    · rw [if_pos d]; omega
    · rw [if_neg d]; have := b1 j hj d; omega
  · have h1 := cnO_lt (k := k) (N := N) (o := false) hij (by omega) (by simpa using c)
    rw [if_neg c]
    by_cases d : isO k (N.getD j 0) = true
    · rw [if_pos d]; have := b1 i (by omega) c; omega
    · rw [if_neg d]; omega
theorem take12 {k9 : Nat → MM → Option MM} (hn : 8 < n) (hl : N.length ≤ 14) (h8 : cnO k false N ≤ 8) (h6 : cnO k true N ≤ 6) : ∀ m i mi, i ≤ N.length → N.length - i < m → mi 12 2 = nI N.length → (∀ j, j < N.length → mi 14 j = b2i (isO k (N.getD j 0)) ∧ svS mi (21 + 2 * j) = V.getD j E0) → mi 0 5 = nI (cnO k false (N.take i)) → mi 0 6 = nI (cnO k true (N.take i)) → (∀ j, j < i → FoI mi (adr k N j) 8 (V.getD j E0) ∧ mi (adr k N j) 6 = nI (ct (V.getD j E0) 256)) → ∃ mi', f_Q_takeOver_12 n k9 m 0 (nI i) (K mi ml) = k9 0 (K mi' ml) ∧ (mi' 0 5 = nI (cnO k false N) ∧ mi' 0 6 = nI (cnO k true N)) ∧ (∀ j, j < N.length → FoI mi' (adr k N j) 8 (V.getD j E0) ∧ mi' (adr k N j) 6 = nI (ct (V.getD j E0) 256)) ∧ ∀ a j, ¬ (a = 0 ∧ (j = 5 ∨ j = 6)) → ¬ (223 ≤ a ∧ a < 559) → mi' a j = mi a j := by
  intro m
  induction m with
  | zero => intro i mi h1 h2; omega
  | succ m ih =>
    intro i mi h1 h2 h12 hV h5 h6' hF
    rw [f_Q_takeOver_12, rf_0_10, bnd_s, g_12, bnd_s, h12]
    by_cases d : i = N.length
    · subst d
      rw [if_pos (nI_le (by omega) (by omega))]
      rw [List.take_length] at h5 h6'
      exact ⟨mi, rfl, ⟨h5, h6'⟩, hF, fun _ _ _ _ => rfl⟩
    · have hi : i < N.length := by omega
      have hsh := sh_ok (sh_m i (by omega))
      have hs1 := cnO_s (k := k) (o := false) hi
      have hs2 := cnO_s (k := k) (o := true) hi
      obtain ⟨hv1, hv2⟩ := hV i hi
      rw [if_neg (show ¬ nI N.length ≤ nI i by rw [nI_leI (by omega) (by omega)]; omega), bnd_s, rf_12_1, bnd_s, a_14 (by omega), bnd_s, hv1]
      -- behind the tell
      have fin : ∀ A c : Nat, A = adr k N i → ∀ m1 : IM, FoI m1 A 8 (V.getD i E0) → m1 A 6 = nI (ct (V.getD i E0) 256) → (∀ b, ¬ (A ≤ b ∧ b < A + 24) → m1 b = mi b) → (c = 5 ∨ c = 6) → ∀ x : Nat, (if isO k (N.getD i 0) = true then c = 6 ∧ x = cnO k true (N.take i) else c = 5 ∧ x = cnO k false (N.take i)) → ∃ mi', f_Q_takeOver_12 n k9 m 0 (nI (i + 1)) (K (upd2 m1 0 c (nI (x + 1))) ml) = k9 0 (K mi' ml) ∧ (mi' 0 5 = nI (cnO k false N) ∧ mi' 0 6 = nI (cnO k true N)) ∧ (∀ j, j < N.length → FoI mi' (adr k N j) 8 (V.getD j E0) ∧ mi' (adr k N j) 6 = nI (ct (V.getD j E0) 256)) ∧ ∀ a j, ¬ (a = 0 ∧ (j = 5 ∨ j = 6)) → ¬ (223 ≤ a ∧ a < 559) → mi' a j = mi a j := fun A c hA m1 q1 q2 q3 hc x hx => by
        have hAb := adr_b hi h8 h6
        have r : ∀ a j, ¬ (a = 0 ∧ j = c) → upd2 m1 0 c (nI (x + 1)) a j = m1 a j := fun a j g => by rw [u2, if_neg g]
        have rr : ∀ a, a ≠ 0 → upd2 m1 0 c (nI (x + 1)) a = m1 a := fun a g => by funext j; exact r a j (by omega)
        obtain ⟨m2, e1, e2, e3, e4⟩ := ih (i + 1) (upd2 m1 0 c (nI (x + 1))) (by omega) (by omega) (by rw [r _ _ (by omega), q3 12 (by omega)]; exact h12) (fun j hj => ⟨by rw [r _ _ (by omega), q3 14 (by omega)]; exact (hV j hj).1, by rw [← (hV j hj).2]; unfold svS; rw [rr _ (by omega), q3 _ (by omega)]⟩) (by
            rw [hs1]
            by_cases o : isO k (N.getD i 0) = true
            · rw [if_pos o] at hx
              rw [if_neg (by rw [o]; decide), r _ _ (by omega), q3 0 (by omega)]; exact h5
            · rw [if_neg o] at hx
              rw [if_pos (by simpa using o), hx.1, uE, hx.2]) (by
            rw [hs2]
            by_cases o : isO k (N.getD i 0) = true
            · rw [if_pos o] at hx
              rw [if_pos o, hx.1, uE, hx.2]
            · rw [if_neg o] at hx
              rw [if_neg o, r _ _ (by omega), q3 0 (by omega)]; exact h6') (fun j hj => by
            by_cases g : j = i
            · subst g
              rw [← hA]
              exact ⟨FoI_c (by omega) (fun c' g1 g2 => rr c' (by omega)) q1, by rw [r _ _ (by omega)]; exact q2⟩
            · have hn' := adr_ne (show j < i by omega) hi h8 h6
              have hjb := adr_b (show j < N.length by omega) h8 h6
              have := hF j (by omega)
              exact ⟨FoI_c (by omega) (fun c' g1 g2 => by rw [rr c' (by omega), q3 c' (by omega)]) this.1, by rw [r _ _ (by omega), q3 _ (by omega)]; exact this.2⟩)
        refine ⟨m2, e1, e2, e3, fun a j g1 g2 => by rw [e4 a j g1 g2, r a j (by omega), q3 a (by omega)]⟩
      unfold f_Q_takeOver_130
      cases o : isO k (N.getD i 0) with
      | true =>
        have hlt := cnO_lt hi (Nat.le_refl _) o
        rw [List.take_length] at hlt
        have hA : 415 + 24 * cnO k true (N.take i) = adr k N i := by unfold adr; rw [if_pos o]
        obtain ⟨m1, e1, e2, e3, e4, e5⟩ := tell_s (n := n) (mi := mi) (ml := ml) (fo_o (show cnO k true (N.take i) < 6 by omega)) hsh (by omega) hn
        rw [if_neg (show ¬ b2i true = 0 by decide), g_0, bnd_s, h6', if_neg (show ¬ (6 : Int32) ≤ nI (cnO k true (N.take i)) by rw [il1 (n := 6) (by omega) (by omega)]; omega), rf_0_4, bnd_s, bnd_s, aR_3 (by omega), bnd_s, bnd_s, rf_12_0, bnd_s, aR_13 (by omega), bnd_s, e1, bnd_s, g_0, bnd_s, e5 0 (by omega), h6', nI_1, p_0, bnd_s, nI_1]
        rw [hv2] at e2 e3
        exact fin _ 6 hA m1 e2 e3 e5 (Or.inr rfl) _ (by rw [if_pos o]; exact ⟨rfl, rfl⟩)
      | false =>
        have hlt := cnO_lt hi (Nat.le_refl _) o
        rw [List.take_length] at hlt
        have hA : 223 + 24 * cnO k false (N.take i) = adr k N i := by unfold adr; rw [if_neg (by rw [o]; decide)]
        obtain ⟨m1, e1, e2, e3, e4, e5⟩ := tell_s (n := n) (mi := mi) (ml := ml) (fo_b (show cnO k false (N.take i) < 8 by omega)) hsh (by omega) hn
        rw [o] at hv1
        unfold f_Q_takeOver_78 f_Q_takeOver_130
        rw [if_pos (show b2i false = 0 from rfl), rf_0_10, bnd_s, rf_12_1, bnd_s, a_14 (by omega), bnd_s, hv1, if_pos (show b2i false = 0 from rfl), g_0, bnd_s, h5, if_neg (show ¬ (8 : Int32) ≤ nI (cnO k false (N.take i)) by rw [il1 (n := 8) (by omega) (by omega)]; omega), rf_0_3, bnd_s, bnd_s, aR_2 (by omega), bnd_s, bnd_s, rf_12_0, bnd_s, aR_13 (by omega), bnd_s, e1, bnd_s, g_0, bnd_s, e5 0 (by omega), h5, nI_1, p_0, bnd_s, nI_1]
        rw [hv2] at e2 e3
        exact fin _ 5 hA m1 e2 e3 e5 (Or.inl rfl) _ (by rw [if_neg (by rw [o]; decide)]; exact ⟨rfl, rfl⟩)
theorem sv_00 {a : Nat} : svS (setRw mi a (fun _ => 0)) a = fun _ => false := by
  rw [sv_set]
  funext i
  by_cases c : i < 256
  · rw [rS_in c]; exact b_0 _
  · unfold rS; rw [cu_out (by omega)]
theorem empty2 (hn : 8 < n) : ∀ m i s, i ≤ 8 → 8 - i < m → (∀ b, b < i → s 131 b = -1 ∧ svS s (138 + 2 * b) = fun _ => false) → ∃ s', f_Table_empty_2 n m 129 (nI i) (K s ml) = some (K s' ml) ∧ (∀ b, b < 8 → s' 131 b = -1 ∧ svS s' (138 + 2 * b) = fun _ => false) ∧ ∀ a, a ≠ 131 → ¬ (138 ≤ a ∧ a < 154) → s' a = s a := by
  intro m
  induction m with
  | zero => intro i s h1 h2; omega
  | succ m ih =>
    intro i s h1 h2 h3
    rw [f_Table_empty_2]
    by_cases d : i = 8
    · subst d
      rw [if_pos (show (8 : Int32) ≤ nI 8 by decide)]
      exact ⟨s, rfl, h3, fun _ _ _ => rfl⟩
    · rw [if_neg (show ¬ (8 : Int32) ≤ nI i by rw [il1 (n := 8) (by omega) (by omega)]; omega), take_s (by omega) hn, bnd_s, nI_1]
      obtain ⟨s', e1, e2, e3⟩ := ih (i + 1) (upd2 (setRw s (138 + 2 * i) (fun _ => 0)) 131 i (-1)) (by omega) (by omega) (fun b hb => by
        have es : svS (upd2 (setRw s (138 + 2 * i) (fun _ => 0)) 131 i (-1)) (138 + 2 * b) = svS (setRw s (138 + 2 * i) (fun _ => 0)) (138 + 2 * b) := by unfold svS; rw [upd2_ne (by omega)]
        rw [es]
        by_cases g : b = i
        · rw [g]; exact ⟨uE, sv_00⟩
        · rw [u2, if_neg (by omega), setRw_ne (by omega), sv_ne (by omega)]; exact h3 b (by omega))
      exact ⟨s', e1, e2, fun a g1 g2 => by rw [e3 a g1 g2, upd2_ne g1, setRw_ne (by omega)]⟩
theorem forget2 : ∀ m i s, i ≤ 6 → 6 - i < m → (∀ b, b < i → s 86 b = -3) → ∃ s', f_Filler_forgetSets_2 n m 81 (nI i) (K s ml) = some (K s' ml) ∧ (∀ b, b < 6 → s' 86 b = -3) ∧ ∀ a, a ≠ 86 → s' a = s a := by
  intro m
  induction m with
  | zero => intro i s h1 h2; omega
  | succ m ih =>
    intro i s h1 h2 h3
    rw [f_Filler_forgetSets_2]
    by_cases d : i = 6
    · subst d
      rw [if_pos (show (6 : Int32) ≤ nI 6 by decide)]
      exact ⟨s, rfl, h3, fun _ _ => rfl⟩
    · rw [if_neg (show ¬ (6 : Int32) ≤ nI i by rw [il1 (n := 6) (by omega) (by omega)]; omega), rf_81_10, bnd_s, s_86 (by omega), bnd_s, nrw100, nI_1]
      obtain ⟨s', e1, e2, e3⟩ := ih (i + 1) (upd2 s 86 i (-3)) (by omega) (by omega) (fun b hb => by
        by_cases g : b = i
        · rw [g, uE]
        · rw [u2, if_neg (by omega)]; exact h3 b (by omega))
      exact ⟨s', e1, e2, fun a g1 => by rw [e3 a g1, upd2_ne g1]⟩
theorem over136 (hn : 8 < n) : ∃ mi', f_Q_takeOver_136 n 0 (K mi ml) = some (K mi' ml) ∧ (∀ b, b < 8 → mi' 131 b = -1 ∧ svS mi' (138 + 2 * b) = fun _ => false) ∧ mi' 154 0 = 0 ∧ mi' 81 9 = 0 ∧ (∀ b, b < 6 → mi' 86 b = -3) ∧ mi' 94 0 = 0 ∧ ∀ a j, a ≠ 131 → ¬ (138 ≤ a ∧ a < 154) → ¬ (a = 154 ∧ j = 0) → ¬ (a = 81 ∧ j = 9) → a ≠ 86 → ¬ (a = 94 ∧ j = 0) → mi' a j = mi a j := by
  obtain ⟨s1, e1, e2, e3⟩ := empty2 (n := n) (ml := ml) hn n 0 mi (by omega) (by omega) (fun b hb => by omega)
  unfold f_Q_takeOver_136 f_Table_empty f_Book_empty f_Filler_forget f_Filler_forgetSets f_Cutter_forget
  rw [rf_0_14, bnd_s, o_129, show f_Table_empty_2 n n 129 0 (K mi ml) = _ from e1, bnd_s, rf_0_15, bnd_s, o_154, p_154, bnd_s, bnd_s, rf_0_12, bnd_s, o_81, p_81, bnd_s, bnd_s, rf_0_12, bnd_s, o_81]
  obtain ⟨s2, f1, f2, f3⟩ := forget2 (n := n) (ml := ml) n 0 (upd2 (upd2 s1 154 0 0) 81 9 0) (by omega) (by omega) (fun b hb => by omega)
  rw [show f_Filler_forgetSets_2 n n 81 0 (K (upd2 (upd2 s1 154 0 0) 81 9 0) ml) = _ from f1, bnd_s, rf_0_13, bnd_s, o_94, p_94, bnd_s, bnd_s]
  have g : ∀ a j, a ≠ 86 → ¬ (a = 94 ∧ j = 0) → ¬ (a = 154 ∧ j = 0) → ¬ (a = 81 ∧ j = 9) → upd2 s2 94 0 0 a j = s1 a j := fun a j q1 q2 q3 q4 => by rw [u2, if_neg q2, f3 a q1, u2, if_neg q4, u2, if_neg q3]
  refine ⟨_, rfl, fun b hb => ⟨by rw [g _ _ (by omega) (by omega) (by omega) (by omega)]; exact (e2 b hb).1, ?_⟩, ?_, ?_, fun b hb => by rw [u2, if_neg (by omega)]; exact f2 b hb, uE, fun a j q1 q2 q3 q4 q5 q6 => by rw [g a j q5 q6 q3 q4, e3 a q1 q2]⟩
  · rw [← (e2 b hb).2]
    unfold svS
    rw [show upd2 s2 94 0 0 (138 + 2 * b + 1) = s1 (138 + 2 * b + 1) by funext j; exact g _ _ (by omega) (by omega) (by omega) (by omega)]
  · rw [u2, if_neg (by omega), f3 154 (by omega), u2, if_neg (by omega), uE]
  · rw [u2, if_neg (by omega), f3 81 (by omega), uE]
/-! the reference starts anew -/
theorem rest2 {k9 : Nat → MM → Option MM} : ∀ m i s, i ≤ 8 → 8 - i < m → (∀ b, b < i → s 602 b = -1) → ∃ s', f_Mo_restarts_2 n k9 m 559 (nI i) (K s ml) = k9 559 (K s' ml) ∧ (∀ b, b < 8 → s' 602 b = -1) ∧ ∀ a, a ≠ 602 → s' a = s a := by
  intro m
  induction m with
  | zero => intro i s h1 h2; omega
  | succ m ih =>
    intro i s h1 h2 h3
    rw [f_Mo_restarts_2]
    by_cases d : i = 8
    · subst d
      rw [if_pos (show (8 : Int32) ≤ nI 8 by decide)]
      exact ⟨s, rfl, h3, fun _ _ => rfl⟩
    · rw [if_neg (show ¬ (8 : Int32) ≤ nI i by rw [il1 (n := 8) (by omega) (by omega)]; omega), rf_559_71, bnd_s, s_602 (by omega), bnd_s, nrw100, nI_1]
      obtain ⟨s', e1, e2, e3⟩ := ih (i + 1) (upd2 s 602 i (-1)) (by omega) (by omega) (fun b hb => by
        by_cases g : b = i
        · rw [g, uE]
        · rw [u2, if_neg (by omega)]; exact h3 b (by omega))
      exact ⟨s', e1, e2, fun a g1 => by rw [e3 a g1, upd2_ne g1]⟩
theorem rest23 {k9 : Nat → MM → Option MM} : ∀ m i s, i ≤ 2048 → 2048 - i < m → (∀ b, b < i → s 603 b = 0) → ∃ s', f_Mo_restarts_23 n k9 m 559 (nI i) (K s ml) = k9 559 (K s' ml) ∧ (∀ b, b < 2048 → s' 603 b = 0) ∧ ∀ a, a ≠ 603 → s' a = s a := by
  intro m
  induction m with
  | zero => intro i s h1 h2; omega
  | succ m ih =>
    intro i s h1 h2 h3
    rw [f_Mo_restarts_23]
    by_cases d : i = 2048
    · subst d
      rw [if_pos (show (2048 : Int32) ≤ nI 2048 by decide)]
      exact ⟨s, rfl, h3, fun _ _ => rfl⟩
    · rw [if_neg (show ¬ (2048 : Int32) ≤ nI i by rw [il1 (n := 2048) (by omega) (by omega)]; omega), rf_559_72, bnd_s, s_603 (by omega), bnd_s, nrw102, zero1, nI_1]
      obtain ⟨s', e1, e2, e3⟩ := ih (i + 1) (upd2 s 603 i 0) (by omega) (by omega) (fun b hb => by
        by_cases g : b = i
        · rw [g, uE]
        · rw [u2, if_neg (by omega)]; exact h3 b (by omega))
      exact ⟨s', e1, e2, fun a g1 => by rw [e3 a g1, upd2_ne g1]⟩
theorem restM (hn : 2048 < n) : ∃ mi', f_Mo_restarts n 559 (K mi ml) = some (K mi' ml) ∧ (∀ b, b < 8 → mi' 602 b = -1) ∧ (∀ b, b < 2048 → mi' 603 b = 0) ∧ (mi' 559 73 = 0 ∧ mi' 559 48 = 0 ∧ mi' 559 58 = 0 ∧ mi' 559 67 = 0) ∧ ∀ a j, a ≠ 602 → a ≠ 603 → ¬ (a = 559 ∧ (j = 73 ∨ j = 48 ∨ j = 58 ∨ j = 67)) → mi' a j = mi a j := by
  obtain ⟨s1, e1, e2, e3⟩ := rest2 (n := n) (ml := ml) (k9 := f_Mo_restarts_21 n) n 0 mi (by omega) (by omega) (fun b hb => by omega)
  obtain ⟨s2, f1, f2, f3⟩ := rest23 (n := n) (ml := ml) (k9 := f_Mo_restarts_43 n) n 0 s1 (by omega) (by omega) (fun b hb => by omega)
  unfold f_Mo_restarts
  rw [o_559, show f_Mo_restarts_2 n (f_Mo_restarts_21 n) n 559 0 (K mi ml) = _ from e1]
  unfold f_Mo_restarts_21
  rw [show f_Mo_restarts_23 n (f_Mo_restarts_43 n) n 559 0 (K s1 ml) = _ from f1]
  unfold f_Mo_restarts_43
  rw [p_559, bnd_s, z_559 zero1, bnd_s, z_559 zero1, bnd_s, p_559, bnd_s]
  have g : ∀ a j, ¬ (a = 559 ∧ (j = 73 ∨ j = 48 ∨ j = 58 ∨ j = 67)) → upd2 (upd2 (upd2 (upd2 s2 559 73 0) 559 48 0) 559 58 0) 559 67 0 a j = s2 a j := fun a j q => by rw [u2, if_neg (by omega), u2, if_neg (by omega), u2, if_neg (by omega), u2, if_neg (by omega)]
  refine ⟨_, rfl, fun b hb => by rw [g _ _ (by omega), f3 602 (by omega)]; exact e2 b hb, fun b hb => by rw [g _ _ (by omega)]; exact f2 b hb, ⟨?_, ?_, ?_, uE⟩, fun a j q1 q2 q3 => by rw [g a j q3, f3 a q2, e3 a q1]⟩
  · rw [u2, if_neg (by omega), u2, if_neg (by omega), u2, if_neg (by omega), uE]
  · rw [u2, if_neg (by omega), u2, if_neg (by omega), uE]
  · rw [u2, if_neg (by omega), uE]
/-- which thing is board (outline) number x -/
theorem cn_ex {o : Bool} : ∀ (l x : Nat), l ≤ N.length → x < cnO k o (N.take l) → ∃ j, j < l ∧ isO k (N.getD j 0) = o ∧ cnO k o (N.take j) = x := by
  intro l
  induction l with
  | zero => intro x _ h; exact absurd h (Nat.not_lt_zero _)
  | succ l ih =>
    intro x hl h
    rw [cnO_s (by omega)] at h
    by_cases c : isO k (N.getD l 0) = o
    · rw [if_pos c] at h
      by_cases d : x < cnO k o (N.take l)
      · obtain ⟨j, h1, h2⟩ := ih x (by omega) d
        exact ⟨j, by omega, h2⟩
      · exact ⟨l, by omega, c, by omega⟩
    · rw [if_neg c] at h
      obtain ⟨j, h1, h2⟩ := ih x (by omega) h
      exact ⟨j, by omega, h2⟩
end OVR
