/-! ===== READ: the class ===== -/
def FCr (mi mi' : IM) : Prop := ∀ a j, ¬ (a = 0 ∧ (j = 1 ∨ j = 2)) → ¬ (4 ≤ a ∧ a ≤ 76) → mi' a j = mi a j
theorem FCr.tr {x y w : IM} (h : FCr x y) (h2 : FCr y w) : FCr x w := fun a j q1 q2 => by rw [h2 a j q1 q2, h a j q1 q2]
def FCl (ml ml' : JM) : Prop := ∀ a, a ≠ 7 → a ≠ 10 → a ≠ 11 → a ≠ 15 → ml' a = ml a
section RDC
variable {n z : Nat} {mi : IM} {ml : JM}
theorem read69_F {f p : Nat} (hf : f ≠ 0 ∧ f ≤ 7) (h5 : mi 4 5 = nI f) (h6 : mi 4 6 = nI p) : f_Q_read_69 n 0 (K mi ml) = some (nI f, K (upd2 mi 0 2 (nI p)) ml) := by
  unfold f_Q_read_69
  rw [rf_0_7, bnd_s, g_4, bnd_s, h6, p_0, bnd_s, rf_0_7, bnd_s, g_4, bnd_s, upd2_ne (by omega), h5, if_neg (show ¬ nI f = 0 by rw [show (0 : Int32) = nI 0 from rfl, nI_eq (by omega) (by omega)]; exact hf.1), bnd_s, g_4, bnd_s, upd2_ne (by omega), h5]
theorem read52_F {f p : Nat} (hf : f ≠ 0 ∧ f ≤ 7) (h5 : mi 4 5 = nI f) (h6 : mi 4 6 = nI p) : f_Q_read_52 n 0 (K mi ml) = some (nI f, K (upd2 mi 0 2 (nI p)) ml) := by
  unfold f_Q_read_52
  rw [rf_0_7, bnd_s, g_4, bnd_s, h5, if_neg (show ¬ nI f = 0 by rw [show (0 : Int32) = nI 0 from rfl, nI_eq (by omega) (by omega)]; exact hf.1), read69_F hf h5 h6]
/-- how the class's READ ends -/
def RdF (T : Nat → Nat) (z : Nat) (r p : Nat) : Prop := ∃ t s, LastA (kd T z) t s ∧ ((fN (kd T z) s t ≠ 0 ∧ r = fN (kd T z) s t ∧ p = tP T z t) ∨ (fN (kd T z) s t = 0 ∧ ((∃ j, j < t ∧ mf (kd T z) (vT T z) (uT T z) j ≠ 0 ∧ (∀ i, i < j → mf (kd T z) (vT T z) (uT T z) i = 0) ∧ r = mf (kd T z) (vT T z) (uT T z) j ∧ p = tP T z j) ∨ ((∀ j, j < t → mf (kd T z) (vT T z) (uT T z) j = 0) ∧ ∃ V : List Sh, V.length < (cN (kd T z) t).length ∧ VOK (XT T z t).2.2 V ∧ ((r = 6 ∧ rn V ((XT T z t).2.2.getD V.length []) [] = some (.inl p)) ∨ (r = 7 ∧ p = tP T z ((cN (kd T z) t).getD V.length 0) ∧ ∃ S, rn V ((XT T z t).2.2.getD V.length []) [] = some (.inr [S]) ∧ noS S = true))))))
def RdS (T : Nat → Nat) (z : Nat) (V : List Sh) (N : List Nat) (G : List (List Cd)) : Prop := ∃ t s, LastA (kd T z) t s ∧ fN (kd T z) s t = 0 ∧ (∀ j, j < t → mf (kd T z) (vT T z) (uT T z) j = 0) ∧ V.length = N.length ∧ N = cN (kd T z) t ∧ G = (XT T z t).2.2 ∧ VOK G V
/-- what the class holds behind a READ that was good -/
def NewC (T : Nat → Nat) (z : Nat) (V : List Sh) (N : List Nat) (mi' : IM) : Prop := (mi' 0 5 = nI (cnO (kd T z) false N) ∧ mi' 0 6 = nI (cnO (kd T z) true N)) ∧ (∀ j, j < N.length → FoI mi' (adr (kd T z) N j) 8 (V.getD j E0) ∧ mi' (adr (kd T z) N j) 6 = nI (ct (V.getD j E0) 256) ∧ cu (V.getD j E0) = V.getD j E0) ∧ (∀ b, b < 8 → mi' 131 b = -1 ∧ svS mi' (138 + 2 * b) = fun _ => false) ∧ mi' 154 0 = 0 ∧ mi' 81 9 = 0 ∧ (∀ b, b < 6 → mi' 86 b = -3) ∧ mi' 94 0 = 0
theorem clR {T : Nat → Nat} (hn : 3000 < n) (hz : z ≤ 2000) (h1 : mi 0 1 = nI z) (hT : ∀ j, tb mi 1 j = T j) (hW : ∀ w, w < 10 → ml 8 w = l64 (cB 32 (Wd w) 0 (wn w))) (hcnt : ∀ t s, Au (kd T z) t = some s → s.1 = 0 → s.2.2.2.1 = cnO (kd T z) false (cN (kd T z) t) ∧ s.2.2.2.2 = cnO (kd T z) true (cN (kd T z) t)) : (∃ r p m1 l1, f_Q_read n 0 (K mi ml) = some (nI r, K m1 l1) ∧ RdF T z r p ∧ r ≤ 7 ∧ m1 0 1 = 0 ∧ m1 0 2 = nI p ∧ FCr mi m1 ∧ FCl ml l1) ∨ ∃ V N G m1 l1, f_Q_read n 0 (K mi ml) = some (0, K m1 l1) ∧ RdS T z V N G ∧ NewC T z V N m1 ∧ m1 0 1 = 0 ∧ m1 0 2 = -1 ∧ FCl ml l1 ∧ ∀ a j, ¬ (a = 0 ∧ (j = 1 ∨ j = 2 ∨ j = 5 ∨ j = 6)) → ¬ (4 ≤ a ∧ a ≤ 76) → ¬ (223 ≤ a ∧ a < 559) → a ≠ 131 → ¬ (138 ≤ a ∧ a < 154) → ¬ (a = 154 ∧ j = 0) → ¬ (a = 81 ∧ j = 9) → a ≠ 86 → ¬ (a = 94 ∧ j = 0) → m1 a j = mi a j := by
  have hT8 : ∀ j, T j < 256 := fun j => by rw [← hT j]; exact tb_lt _ _ _
  obtain ⟨c, m1, l1, e1, e2, e3, e4, e5, e6, e7, e8⟩ := scanC (n := n) hz (by omega) hT hW
  unfold f_Q_read
  rw [o_0, rf_0_7, bnd_s, rf_0_0, bnd_s, g_0, bnd_s, h1, e1, bnd_s, p_0, bnd_s]
  have F1 : FCr mi (upd2 m1 0 1 0) := fun a j q1 q2 => by rw [u2, if_neg (by omega), e7 a j (by omega) (by omega) (by omega)]
  have hL1 : LexC T z c (upd2 m1 0 1 0) l1 := LexC_c e2 (by rw [u2, if_neg (by omega)]) (by funext j; rw [u2, if_neg (by omega)]) (by funext j; rw [u2, if_neg (by omega)])
  have h44 : upd2 m1 0 1 0 4 4 = nI z := by rw [u2, if_neg (by omega)]; exact e4
  have h45 : upd2 m1 0 1 0 4 5 = 0 := by rw [u2, if_neg (by omega)]; exact e5
  have h46 : upd2 m1 0 1 0 4 6 = -1 := by rw [u2, if_neg (by omega)]; exact e6
  have h01 : upd2 m1 0 1 0 0 1 = 0 := uE
  generalize upd2 m1 0 1 0 = m2 at F1 hL1 h44 h45 h46 h01
  obtain ⟨t, s, m3, f1, f2, f3, f4, f5, f6, f7⟩ := checkS (n := n) hT8 e3.1 e3.2.2 (by omega) hL1 h44 h45 h46
  rw [rf_0_8, bnd_s, rf_0_7, bnd_s, f1, bnd_s, rf_0_7, bnd_s, g_4, bnd_s, f5]
  have F3 : FCr mi m3 := F1.tr (fun a j q1 q2 => f4 a j (by omega) (by omega))
  have h01 : m3 0 1 = 0 := by rw [f4 _ _ (by omega) (by omega)]; exact h01
  have hl1 : FCl ml l1 := fun a q1 _ _ _ => e8 a q1
  have fb : fN (kd T z) s t ≤ 2 := by unfold fN; split <;> (try split) <;> omega
  by_cases d : fN (kd T z) s t = 0
  · obtain ⟨g6, gt, gc⟩ := f6 d
    subst gt
    have hs0 : s.1 = 0 ∧ kd T z t = 0 := by
      unfold fN at d
      by_cases q : s.1 = 0 ∧ kd T z t = 0
      · exact q
      · rw [if_neg q] at d; split at d <;> omega
    have hL3 : LexC T z t m3 l1 := LexC_c hL1 (f4 _ _ (by omega) (by omega)) (by funext j; exact f4 _ _ (by omega) (by omega)) (by funext j; exact f4 _ _ (by omega) (by omega))
    have g44 : m3 4 4 = nI z := by rw [f4 _ _ (by omega) (by omega)]; exact h44
    have g45 : m3 4 5 = 0 := by rw [f5, d]; rfl
    obtain ⟨m4, l4, k1, k2, k3, k4⟩ := checkM (n := n) gc (by omega) hT8 hL3 g44 g45 g6 (by rw [f2.1]; intro q; cases q)
    rw [d, if_pos (show nI 0 = 0 from rfl), rf_0_9, bnd_s, bnd_s, k1, bnd_s]
    have F4 : FCr mi m4 := F3.tr (fun a j q1 q2 => k2 a j (by omega) (by omega))
    have h01 : m4 0 1 = 0 := by rw [k2 _ _ (by omega) (by omega)]; exact h01
    have hl4 : FCl ml l4 := fun a q1 g q2 q3 => by rw [k3 a g q2, hl1 a q1 g q2 q3]
    rcases k4 with ⟨x1, x2, x3⟩ | ⟨j, x1, x2, x3, x4, x5⟩
    · -- to build
      have hL4 : LexC T z t m4 l4 := by
        have := LexC_c hL3 (mi' := m4) (k2 _ _ (by omega) (by omega)) (by funext j; exact k2 _ _ (by omega) (by omega)) (by funext j; exact k2 _ _ (by omega) (by omega))
        unfold LexC at this ⊢
        rw [k3 7 (by omega) (by omega)]; exact this
      have hAL : AL (kd T z) t := ⟨s, f2.1, hs0.1⟩
      obtain ⟨m5, l5, y1, y2, y3, y4⟩ := buildC (n := n) (by omega) gc hAL x1 hL4 (by rw [k2 _ _ (by omega) (by omega)]; exact g44) x2
      have F5 : FCr mi m5 := F4.tr (fun a j q1 q2 => y2 a j (by omega) (by omega))
      have hl5 : FCl ml l5 := fun a q1 g q2 q3 => by rw [y3 a q3, hl4 a q1 g q2 q3]
      have h01 : m5 0 1 = 0 := by rw [y2 _ _ (by omega) (by omega)]; exact h01
      unfold f_Q_read_52
      rw [rf_0_7, bnd_s, g_4, bnd_s, x2, if_pos (show (0 : Int32) = 0 from rfl), rf_0_10, bnd_s, y1, bnd_s]
      rcases y4 with ⟨V, v1, v2, v3, v4, v5⟩ | ⟨V, v1, v2, ⟨pl, w1, w2, w3⟩ | ⟨S, w1, w2, w3, w4⟩⟩
      · right
        obtain ⟨q1, q2⟩ := hcnt t s f2.1 hs0.1
        have hbi := Au_i f2.1
        have iN3 := (Au_N f2.1).2.2
        rw [if_pos hs0.1] at iN3
        unfold f_Q_read_69 f_Q_takeOver
        rw [rf_0_7, bnd_s, g_4, bnd_s, v3, x3, p_0, bnd_s, rf_0_7, bnd_s, g_4, bnd_s, upd2_ne (by omega), v3, x2, if_pos (show (0 : Int32) = 0 from rfl), o_0, p_0, bnd_s, p_0, bnd_s]
        have r : ∀ a j, ¬ (a = 0 ∧ (j = 2 ∨ j = 5 ∨ j = 6)) → upd2 (upd2 (upd2 m5 0 2 (-1)) 0 5 0) 0 6 0 a j = m5 a j := fun a j q => by rw [u2, if_neg (by omega), u2, if_neg (by omega), u2, if_neg (by omega)]
        have r2 : upd2 (upd2 (upd2 m5 0 2 (-1)) 0 5 0) 0 6 0 0 2 = -1 := by rw [u2, if_neg (by omega), u2, if_neg (by omega), uE]
        have r5 : upd2 (upd2 (upd2 m5 0 2 (-1)) 0 5 0) 0 6 0 0 5 = nI 0 := by rw [u2, if_neg (by omega), uE]; rfl
        have r6 : upd2 (upd2 (upd2 m5 0 2 (-1)) 0 5 0) 0 6 0 0 6 = nI 0 := uE
        generalize upd2 (upd2 (upd2 m5 0 2 (-1)) 0 5 0) 0 6 0 = m6 at r r2 r5 r6
        obtain ⟨m7, z1, z2, z3, z4⟩ := take12 (n := n) (ml := l5) (k := kd T z) (N := cN (kd T z) t) (V := V) (k9 := f_Q_takeOver_136 n) (by omega) (by omega) (by omega) (by omega) n 0 m6 (by omega) (by omega) (by rw [r _ _ (by omega), v4, v1]) (fun j hj => ⟨by rw [r _ _ (by omega)]; exact (v5 j (by omega)).1, by rw [← (v5 j (by omega)).2]; unfold svS; rw [show m6 (21 + 2 * j + 1) = m5 (21 + 2 * j + 1) by funext i; exact r _ _ (by omega)]⟩) r5 r6 (fun j hj => by omega)
        obtain ⟨m8, u1, u2', u3, u4, u5, u6, u7⟩ := over136 (n := n) (mi := m7) (ml := l5) (by omega)
        rw [show f_Q_takeOver_12 n (f_Q_takeOver_136 n) n 0 0 (K m6 l5) = _ from z1, u1, bnd_s, rf_0_7, bnd_s, g_4, bnd_s]
        have p4 : ∀ a j, ¬ (a = 0 ∧ (j = 1 ∨ j = 2 ∨ j = 5 ∨ j = 6)) → ¬ (223 ≤ a ∧ a < 559) → a ≠ 131 → ¬ (138 ≤ a ∧ a < 154) → ¬ (a = 154 ∧ j = 0) → ¬ (a = 81 ∧ j = 9) → a ≠ 86 → ¬ (a = 94 ∧ j = 0) → m8 a j = m5 a j := fun a j g1 g2 g3 g4 g5 g6 g7 g8 => by rw [u7 a j g3 g4 g5 g6 g7 g8, z4 a j (by omega) g2, r a j (by omega)]
        refine ⟨V, cN (kd T z) t, (XT T z t).2.2, m8, l5, ?_, ⟨t, s, f2, d, x1, v1, rfl, rfl, v2⟩, ⟨⟨?_, ?_⟩, fun j hj => ?_, u2', u3, u4, u5, u6⟩, ?_, ?_, hl5, fun a j g1 g2 g3 g4 g5 g6 g7 g8 g9 => ?_⟩
        · rw [p4 _ _ (by omega) (by omega) (by omega) (by omega) (by omega) (by omega) (by omega) (by omega), v3, x2]
        · rw [u7 _ _ (by omega) (by omega) (by omega) (by omega) (by omega) (by omega)]; exact z2.1
        · rw [u7 _ _ (by omega) (by omega) (by omega) (by omega) (by omega) (by omega)]; exact z2.2
        · have hb := adr_b hj (show cnO (kd T z) false (cN (kd T z) t) ≤ 8 by omega) (show cnO (kd T z) true (cN (kd T z) t) ≤ 6 by omega)
          have := z3 j hj
          refine ⟨FoI_c (by omega) (fun c' g1 g2 => by funext i; exact u7 _ _ (by omega) (by omega) (by omega) (by omega) (by omega) (by omega)) this.1, by rw [u7 _ _ (by omega) (by omega) (by omega) (by omega) (by omega) (by omega)]; exact this.2, ?_⟩
          rw [← (v5 j (by omega)).2]; exact svS_cu _ _
        · rw [u7 _ _ (by omega) (by omega) (by omega) (by omega) (by omega) (by omega), z4 _ _ (by omega) (by omega), r _ _ (by omega)]; exact h01
        · rw [u7 _ _ (by omega) (by omega) (by omega) (by omega) (by omega) (by omega), z4 _ _ (by omega) (by omega)]; exact r2
        · rw [p4 a j g1 g3 g4 g5 g6 g7 g8 g9, F5 a j (by omega) g2]
      · left
        rw [read69_F (f := 6) (by omega) w2 w3]
        refine ⟨6, pl, _, l5, rfl, ⟨t, s, f2, Or.inr ⟨d, Or.inr ⟨x1, V, v1, v2, Or.inl ⟨rfl, w1⟩⟩⟩⟩, by omega, by rw [u2, if_neg (by omega)]; exact h01, uE, F5.tr (fun a j g1 g2 => by rw [u2, if_neg (by omega)]), hl5⟩
      · left
        rw [read69_F (f := 7) (by omega) w3 w4]
        refine ⟨7, _, _, l5, rfl, ⟨t, s, f2, Or.inr ⟨d, Or.inr ⟨x1, V, v1, v2, Or.inr ⟨rfl, rfl, S, w1, w2⟩⟩⟩⟩, by omega, by rw [u2, if_neg (by omega)]; exact h01, uE, F5.tr (fun a j g1 g2 => by rw [u2, if_neg (by omega)]), hl5⟩
    · left
      have hb5 := mf_5 (T := T) (z := z) (j := j)
      rw [read52_F ⟨x2, by omega⟩ x4 x5]
      refine ⟨_, _, _, l4, rfl, ⟨t, s, f2, Or.inr ⟨d, Or.inl ⟨j, x1, x2, x3, rfl, rfl⟩⟩⟩, by omega, by rw [u2, if_neg (by omega)]; exact h01, uE, F4.tr (fun a j g1 g2 => by rw [u2, if_neg (by omega)]), hl4⟩
  · left
    rw [if_neg (show ¬ nI (fN (kd T z) s t) = 0 by rw [show (0 : Int32) = nI 0 from rfl, nI_eq (by omega) (by omega)]; exact d), read52_F ⟨d, by omega⟩ f5 (f7 d)]
    refine ⟨_, _, _, l1, rfl, ⟨t, s, f2, Or.inl ⟨d, rfl, rfl⟩⟩, by omega, by rw [u2, if_neg (by omega)]; exact h01, uE, F3.tr (fun a j g1 g2 => by rw [u2, if_neg (by omega)]), hl1⟩
end RDC
