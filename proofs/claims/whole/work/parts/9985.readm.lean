/-! ===== READ: the reference ===== -/
theorem Au_cnt {k : Nat → Nat} : ∀ t s, Au k t = some s → (s.1 = 0 → s.2.2.2.1 = cnO k false (cN k t) ∧ s.2.2.2.2 = cnO k true (cN k t)) ∧ (s.1 = 1 → (k (t - 1) = 11 ∧ s.2.2.2.1 = cnO k false (cN k t) ∧ s.2.2.2.2 = cnO k true (cN k t) + 1) ∨ (k (t - 1) ≠ 11 ∧ s.2.2.2.1 = cnO k false (cN k t) + 1 ∧ s.2.2.2.2 = cnO k true (cN k t))) ∧ (2 ≤ s.1 → (k (oN k t - 1) = 11 ∧ s.2.2.2.1 = cnO k false (cN k t) ∧ s.2.2.2.2 = cnO k true (cN k t) + 1) ∨ (k (oN k t - 1) ≠ 11 ∧ s.2.2.2.1 = cnO k false (cN k t) + 1 ∧ s.2.2.2.2 = cnO k true (cN k t))) := by
  intro t
  induction t with
  | zero => intro s h; cases h; exact ⟨fun _ => ⟨rfl, rfl⟩, (fun q => by simp only [] at q; omega), (fun q => by simp only [] at q; omega)⟩
  | succ t ih =>
    intro s' h
    obtain ⟨s, e1, e2, _⟩ := Au_b h
    obtain ⟨i0, i1, i2⟩ := ih s e1
    have ht := (Au_t e1).1
    by_cases c59 : k t = 59
    · have h7 : s.1 = 7 ∧ s' = (0, s.2) := by
        rcases nx_c e2 with ⟨c, d, rfl⟩ | ⟨c, d, rfl⟩ | ⟨c, d, rfl⟩ | ⟨c, d, rfl⟩ | ⟨c, d, rfl⟩ | ⟨c, d, rfl⟩ | ⟨c, d, rfl⟩ | ⟨c, d, rfl⟩ | ⟨c, d, rfl⟩ | ⟨c, d, rfl⟩ | ⟨c, d, rfl⟩ | ⟨c, d, rfl⟩ | ⟨c, d, rfl⟩ | ⟨c, d, rfl⟩ | ⟨c, d, rfl⟩ | ⟨c, d, rfl⟩ | ⟨c, d, rfl⟩ | ⟨c, d, rfl⟩ <;> first | exact ⟨c, rfl⟩ | (exfalso; omega)
      obtain ⟨h7, rfl⟩ := h7
      refine ⟨fun _ => ?_, (fun q => by simp only [] at q; omega), (fun q => by simp only [] at q; omega)⟩
      rw [cN, if_pos c59, cnO_app, cnO_app]
      unfold isO
      rcases i2 (by omega) with ⟨g1, g2, g3⟩ | ⟨g1, g2, g3⟩
      · rw [g1]; simp; exact ⟨g2, g3⟩
      · have : (k (oN k t - 1) == 11) = false := by simpa using g1
        rw [this]; simp; exact ⟨g2, g3⟩
    · have hc : cN k (t + 1) = cN k t := by rw [cN, if_neg c59]
      rw [hc]
      rcases nx_c e2 with ⟨c, d, rfl⟩ | ⟨c, d, rfl⟩ | ⟨c, d, rfl⟩ | ⟨c, d, rfl⟩ | ⟨c, d, rfl⟩ | ⟨c, d, rfl⟩ | ⟨c, d, rfl⟩ | ⟨c, d, rfl⟩ | ⟨c, d, rfl⟩ | ⟨c, d, rfl⟩ | ⟨c, d, rfl⟩ | ⟨c, d, rfl⟩ | ⟨c, d, rfl⟩ | ⟨c, d, rfl⟩ | ⟨c, d, rfl⟩ | ⟨c, d, rfl⟩ | ⟨c, d, rfl⟩ | ⟨c, d, rfl⟩
      · obtain ⟨g1, g2⟩ := i0 c
        exact ⟨(fun q => by simp only [] at q; omega), fun _ => Or.inr ⟨by rw [show t + 1 - 1 = t by omega]; omega, by simp only []; omega, g2⟩, (fun q => by simp only [] at q; omega)⟩
      · obtain ⟨g1, g2⟩ := i0 c
        exact ⟨(fun q => by simp only [] at q; omega), fun _ => Or.inl ⟨by rw [show t + 1 - 1 = t by omega]; omega, g1, by simp only []; omega⟩, (fun q => by simp only [] at q; omega)⟩
      · refine ⟨(fun q => by simp only [] at q; omega), (fun q => by simp only [] at q; omega), fun _ => ?_⟩
        rw [oN, if_pos ⟨d, ht.mpr c⟩]
        exact i1 c
      all_goals first
        | (exfalso; omega)
        | (have ho : oN k (t + 1) = oN k t := by rw [oN, if_neg (fun q => by have := ht.mp q.2; omega)]
           refine ⟨(fun q => by exfalso; simp only [] at q; (try split at q) <;> omega), (fun q => by exfalso; simp only [] at q; (try split at q) <;> omega), fun _ => ?_⟩
           rw [ho]
           exact i2 (by omega))
theorem and255 (v : Int32) : v.toInt8.toInt32 &&& 255 = v &&& 255 := by
  apply b_ext
  intro i hi
  rw [b_and, b_and]
  by_cases c : i < 8
  · congr 1
    show (v.toInt8.toInt32).toBitVec.getLsbD i = v.toBitVec.getLsbD i
    rw [Int8.toBitVec_toInt32, BitVec.getLsbD_signExtend, Int32.toBitVec_toInt8, BitVec.getLsbD_signExtend]
    simp [c, hi]
  · have h0 : ∀ i, i < 32 → 8 ≤ i → bt 255 i = false := by decide +kernel
    rw [h0 i hi (by omega), Bool.and_false, Bool.and_false]
def FRd (l : Nat) (mi mi' : IM) : Prop := ∀ a j, ¬ (a = 559 ∧ (j = 2 ∨ j = 4 ∨ (10 ≤ j ∧ j ≤ 17) ∨ j = 20 ∨ j = 23 ∨ j = 29 ∨ j = 40)) → ¬ (561 ≤ a ∧ a ≤ 564) → ¬ (a = 567 ∧ (inSd (1 - l) (j / 256) ∨ (28 ≤ j / 256 ∧ j / 256 ≤ 44))) → ¬ ((568 ≤ a ∧ a ≤ 569) ∧ j = 1 - l) → ¬ (571 ≤ a ∧ a ≤ 584) → mi' a j = mi a j
theorem FRd.tr {l : Nat} {x y w : IM} (h : FRd l x y) (h2 : FRd l y w) : FRd l x w := fun a j q1 q2 q3 q4 q5 => by rw [h2 a j q1 q2 q3 q4 q5, h a j q1 q2 q3 q4 q5]
theorem FT.rd {l : Nat} {x y : IM} (h : FT (1 - l) x y) : FRd l x y := fun a j q1 q2 q3 q4 q5 => h a j (by omega) q4 q5
theorem FW.rd {l : Nat} {x y : IM} (h : FW (1 - l) x y) : FRd l x y := fun a j q1 q2 q3 q4 q5 => h a j q3 (by omega)
section RDM
variable {n z l : Nat} {mi : IM} {ml : JM} {T : Nat → Nat}
theorem read10 {k9 : Nat → MM → Option (Int32 × MM)} (hz : z ≤ 2000) : ∀ m i s, i ≤ z → z - i < m → s 559 4 = nI z → (∀ j, j < i → tb s 561 j = tb s 560 j) → ∃ s', f_Mo_read_10 n k9 m 559 (nI i) (K s ml) = k9 559 (K s' ml) ∧ (∀ j, j < z → tb s' 561 j = tb s 560 j) ∧ ∀ a, a ≠ 561 → s' a = s a := by
  intro m
  induction m with
  | zero => intro i s h1 h2; omega
  | succ m ih =>
    intro i s h1 h2 h4 hI
    rw [f_Mo_read_10, g_559, bnd_s, h4]
    by_cases d : i = z
    · subst d
      rw [if_pos (nI_le (by omega) (by omega))]
      exact ⟨s, rfl, hI, fun _ _ => rfl⟩
    · rw [if_neg (show ¬ nI z ≤ nI i by rw [nI_leI (by omega) (by omega)]; omega), rf_559_3, bnd_s, rf_559_1, bnd_s, a_560 (by omega), bnd_s, s_561 (by omega), bnd_s, nrw101, nI_1]
      obtain ⟨s', e1, e2, e3⟩ := ih (i + 1) (upd2 s 561 i (s 560 i).toInt8.toInt32) (by omega) (by omega) (by rw [u2, if_neg (by omega)]; exact h4) (fun j hj => by
        by_cases g : j = i
        · subst g
          unfold tb
          rw [uE, u2, if_neg (by omega), and255]
        · have := hI j (by omega)
          unfold tb at this ⊢
          rw [u2, if_neg (by omega), u2, if_neg (by omega)]; exact this)
      refine ⟨s', e1, fun j hj => ?_, fun a g => by rw [e3 a g, upd2_ne g]⟩
      rw [e2 j hj]
      unfold tb
      rw [u2, if_neg (by omega)]
theorem read175_D {mi : IM} (h : Dn T z mi) : ∃ t s, LastA (kd T z) t s ∧ fN (kd T z) s t ≠ 0 ∧ f_Mo_read_175 n 559 (K mi ml) = some (nI (fN (kd T z) s t), K (upd2 mi 559 17 (nI (tP T z t))) ml) := by
  obtain ⟨t, s, h1, h2, h3, h4, _⟩ := h
  refine ⟨t, s, h1, by omega, ?_⟩
  have hne : ¬ nI (fN (kd T z) s t) ≤ 0 := by rw [show (0 : Int32) = nI 0 from rfl, nI_leI (by omega) (by omega)]; omega
  unfold f_Mo_read_175 f_Mo_read_205
  rw [g_559, bnd_s, h3, if_neg hne, g_559, bnd_s, h4, p_559, bnd_s, g_559, bnd_s, show upd2 mi 559 17 (nI (tP T z t)) 559 13 = nI (fN (kd T z) s t) by rw [u2, if_neg (by omega)]; exact h3, if_neg hne, bnd_s]
theorem read175_W {mi : IM} {w p : Nat} (h13 : mi 559 13 = 0) (h15 : mi 559 15 = nI w) (h16 : mi 559 16 = nI p) (hw : w ≠ 0 ∧ w ≤ 7) : f_Mo_read_175 n 559 (K mi ml) = some (nI w, K (upd2 mi 559 17 (nI p)) ml) := by
  have hne : ¬ nI w ≤ 0 := by rw [show (0 : Int32) = nI 0 from rfl, nI_leI (by omega) (by omega)]; omega
  have r : ∀ j, j ≠ 17 → upd2 mi 559 17 (nI p) 559 j = mi 559 j := fun j q => by rw [u2, if_neg (by omega)]
  unfold f_Mo_read_175 f_Mo_read_205
  rw [g_559, bnd_s, h13, if_pos (show (0 : Int32) ≤ 0 by decide), g_559, bnd_s, h15, if_neg hne, g_559, bnd_s, h16, p_559, bnd_s, g_559, bnd_s, r 13 (by omega), h13, if_pos (show (0 : Int32) ≤ 0 by decide), g_559, bnd_s, r 15 (by omega), h15, if_neg hne, bnd_s]
/-- the reference's READ: a fault of the grammar, or all things told -/
theorem moR (hn : 3000 < n) (hz : z ≤ 2000) (hl : l < 2) (h2 : mi 559 2 = nI z) (h19 : mi 559 19 = nI l) (hT : ∀ j, j < z → tb mi 560 j = T j) (hW : ∀ w, w < 10 → ml 566 w = l64 (cB 27 (Wd w) 0 (wn w))) (hB : B01 mi) : (∃ mi' ml' t s, f_Mo_read n 559 (K mi ml) = some (nI (fN (kd T z) s t), K mi' ml') ∧ LastA (kd T z) t s ∧ fN (kd T z) s t ≠ 0 ∧ mi' 559 17 = nI (tP T z t) ∧ mi' 559 2 = 0 ∧ B01 mi' ∧ FRd l mi mi' ∧ (∀ a, a ≠ 565 → a ≠ 570 → ml' a = ml a)) ∨ ∃ m3 ml' t s, f_Mo_read n 559 (K mi ml) = f_Mo_read_142 n (f_Mo_read_175 n) n 559 (nI 0) (K m3 ml') ∧ LastA (kd T z) t s ∧ fN (kd T z) s t = 0 ∧ WsM T z t m3 ∧ (m3 559 23 = nI (cN (kd T z) t).length ∧ m3 559 13 = 0 ∧ (cN (kd T z) t).length ≤ 14) ∧ (m3 568 (1 - l) = nI s.2.2.2.1 ∧ m3 569 (1 - l) = nI s.2.2.2.2) ∧ (∀ V, (∀ k, k < V.length → cu (V.getD k E0) = V.getD k E0) → WA T z (cN (kd T z) t) (XT T z t).2.2 (1 - l) V 0 m3) ∧ m3 559 2 = 0 ∧ B01 m3 ∧ FRd l mi m3 ∧ (∀ a, a ≠ 565 → a ≠ 570 → ml' a = ml a) := by
  unfold f_Mo_read
  rw [o_559, g_559, bnd_s, h2, p_559, bnd_s]
  have a4 : upd2 mi 559 4 (nI z) 559 4 = nI z := uE
  obtain ⟨m1, e1, e2, e3⟩ := read10 (n := n) (ml := ml) (k9 := f_Mo_read_36 n) hz n 0 (upd2 mi 559 4 (nI z)) (by omega) (by omega) a4 (fun j hj => by omega)
  rw [show f_Mo_read_10 n (f_Mo_read_36 n) n 559 0 (K (upd2 mi 559 4 (nI z)) ml) = _ from e1]
  have g1 : ∀ a j, a ≠ 561 → ¬ (a = 559 ∧ j = 4) → m1 a j = mi a j := fun a j q1 q2 => by rw [e3 a q1, u2, if_neg q2]
  have g4 : m1 559 4 = nI z := by rw [e3 559 (by omega)]; exact a4
  have gT : ∀ j, j < z → tb m1 561 j = T j := fun j hj => by
    rw [e2 j hj, ← hT j hj]
    unfold tb
    rw [u2, if_neg (by omega)]
  unfold f_Mo_read_36
  rw [p_559, bnd_s]
  obtain ⟨c, m2, l2, f1, f2, f3, f4, f5⟩ := cutM (n := n) (mi := upd2 m1 559 2 0) (T := T) hz (by omega) (by rw [u2, if_neg (by omega)]; exact g4) (fun j hj => by rw [← gT j hj]; unfold tb; rw [u2, if_neg (by omega)]) hW
  rw [f1, bnd_s]
  have g2 : ∀ a j, ¬ (561 ≤ a ∧ a ≤ 564) → ¬ (a = 559 ∧ (j = 4 ∨ j = 2 ∨ j = 10)) → m2 a j = mi a j := fun a j q1 q2 => by rw [f4 a j (by omega) (by omega) (by omega) (by omega), u2, if_neg (by omega), g1 a j (by omega) (by omega)]
  have m22 : m2 559 2 = 0 := by rw [f4 _ _ (by omega) (by omega) (by omega) (by omega), uE]
  rw [p_559, bnd_s, p_559, bnd_s, p_559, bnd_s, p_559, bnd_s, g_559, bnd_s, show upd2 (upd2 (upd2 (upd2 m2 559 11 0) 559 12 0) 559 13 0) 559 15 0 559 19 = nI l by rw [u2, if_neg (by omega), u2, if_neg (by omega), u2, if_neg (by omega), u2, if_neg (by omega), g2 _ _ (by omega) (by omega)]; exact h19, is2 (n := 1) (by omega), p_559, bnd_s, rf_559_21, bnd_s, g_559, bnd_s, uE, s_568 (by omega), bnd_s, nrw100, rf_559_22, bnd_s, g_559, bnd_s, upd2_ne (by omega), uE, s_569 (by omega), bnd_s, nrw100, p_559, bnd_s, p_559, bnd_s]
  have r : ∀ a j, ¬ (a = 559 ∧ (j = 11 ∨ j = 12 ∨ j = 13 ∨ j = 15 ∨ j = 20 ∨ j = 23 ∨ j = 29)) → ¬ ((a = 568 ∨ a = 569) ∧ j = 1 - l) → upd2 (upd2 (upd2 (upd2 (upd2 (upd2 (upd2 (upd2 (upd2 m2 559 11 0) 559 12 0) 559 13 0) 559 15 0) 559 20 (nI (1 - l))) 568 (1 - l) 0) 569 (1 - l) 0) 559 23 0) 559 29 0 a j = m2 a j := fun a j q1 q2 => by
    rw [u2, if_neg (by omega), u2, if_neg (by omega), u2, if_neg (by omega), u2, if_neg (by omega), u2, if_neg (by omega), u2, if_neg (by omega), u2, if_neg (by omega), u2, if_neg (by omega), u2, if_neg (by omega)]
  have r29 : upd2 (upd2 (upd2 (upd2 (upd2 (upd2 (upd2 (upd2 (upd2 m2 559 11 0) 559 12 0) 559 13 0) 559 15 0) 559 20 (nI (1 - l))) 568 (1 - l) 0) 569 (1 - l) 0) 559 23 0) 559 29 0 559 29 = nI 0 := uE
  have r23 : upd2 (upd2 (upd2 (upd2 (upd2 (upd2 (upd2 (upd2 (upd2 m2 559 11 0) 559 12 0) 559 13 0) 559 15 0) 559 20 (nI (1 - l))) 568 (1 - l) 0) 569 (1 - l) 0) 559 23 0) 559 29 0 559 23 = nI 0 := by rw [u2, if_neg (by omega), uE]; rfl
  have r69 : upd2 (upd2 (upd2 (upd2 (upd2 (upd2 (upd2 (upd2 (upd2 m2 559 11 0) 559 12 0) 559 13 0) 559 15 0) 559 20 (nI (1 - l))) 568 (1 - l) 0) 569 (1 - l) 0) 559 23 0) 559 29 0 569 (1 - l) = nI 0 := by rw [u2, if_neg (by omega), u2, if_neg (by omega), uE]; rfl
  have r68 : upd2 (upd2 (upd2 (upd2 (upd2 (upd2 (upd2 (upd2 (upd2 m2 559 11 0) 559 12 0) 559 13 0) 559 15 0) 559 20 (nI (1 - l))) 568 (1 - l) 0) 569 (1 - l) 0) 559 23 0) 559 29 0 568 (1 - l) = nI 0 := by rw [u2, if_neg (by omega), u2, if_neg (by omega), u2, if_neg (by omega), uE]; rfl
  have r20 : upd2 (upd2 (upd2 (upd2 (upd2 (upd2 (upd2 (upd2 (upd2 m2 559 11 0) 559 12 0) 559 13 0) 559 15 0) 559 20 (nI (1 - l))) 568 (1 - l) 0) 569 (1 - l) 0) 559 23 0) 559 29 0 559 20 = nI (1 - l) := by rw [u2, if_neg (by omega), u2, if_neg (by omega), u2, if_neg (by omega), u2, if_neg (by omega), uE]
  have r15 : upd2 (upd2 (upd2 (upd2 (upd2 (upd2 (upd2 (upd2 (upd2 m2 559 11 0) 559 12 0) 559 13 0) 559 15 0) 559 20 (nI (1 - l))) 568 (1 - l) 0) 569 (1 - l) 0) 559 23 0) 559 29 0 559 15 = 0 := by rw [u2, if_neg (by omega), u2, if_neg (by omega), u2, if_neg (by omega), u2, if_neg (by omega), u2, if_neg (by omega), uE]
  have r13 : upd2 (upd2 (upd2 (upd2 (upd2 (upd2 (upd2 (upd2 (upd2 m2 559 11 0) 559 12 0) 559 13 0) 559 15 0) 559 20 (nI (1 - l))) 568 (1 - l) 0) 569 (1 - l) 0) 559 23 0) 559 29 0 559 13 = 0 := by rw [u2, if_neg (by omega), u2, if_neg (by omega), u2, if_neg (by omega), u2, if_neg (by omega), u2, if_neg (by omega), u2, if_neg (by omega), uE]
  have r12 : upd2 (upd2 (upd2 (upd2 (upd2 (upd2 (upd2 (upd2 (upd2 m2 559 11 0) 559 12 0) 559 13 0) 559 15 0) 559 20 (nI (1 - l))) 568 (1 - l) 0) 569 (1 - l) 0) 559 23 0) 559 29 0 559 12 = nI 0 := by rw [u2, if_neg (by omega), u2, if_neg (by omega), u2, if_neg (by omega), u2, if_neg (by omega), u2, if_neg (by omega), u2, if_neg (by omega), u2, if_neg (by omega), uE]; rfl
  have r11 : upd2 (upd2 (upd2 (upd2 (upd2 (upd2 (upd2 (upd2 (upd2 m2 559 11 0) 559 12 0) 559 13 0) 559 15 0) 559 20 (nI (1 - l))) 568 (1 - l) 0) 569 (1 - l) 0) 559 23 0) 559 29 0 559 11 = nI 0 := by rw [u2, if_neg (by omega), u2, if_neg (by omega), u2, if_neg (by omega), u2, if_neg (by omega), u2, if_neg (by omega), u2, if_neg (by omega), u2, if_neg (by omega), u2, if_neg (by omega), uE]; rfl
  generalize upd2 (upd2 (upd2 (upd2 (upd2 (upd2 (upd2 (upd2 (upd2 m2 559 11 0) 559 12 0) 559 13 0) 559 15 0) 559 20 (nI (1 - l))) 568 (1 - l) 0) 569 (1 - l) 0) 559 23 0) 559 29 0 = m0 at r r29 r23 r69 r68 r20 r15 r13 r12 r11
  have hs0 : SL T z c m0 l2 := by
    refine ⟨⟨by rw [r _ _ (by omega) (by omega)]; exact f2.1, fun i hi => ?_⟩, f3⟩
    rw [r _ _ (by omega) (by omega), r _ _ (by omega) (by omega), r _ _ (by omega) (by omega)]
    exact f2.2 i hi
  have hTS : TS T z 0 (1 - l) (0, 0, 0, 0, 0) m0 l2 := ⟨⟨rfl, rfl⟩, ⟨⟨r11, r13, r12⟩, ⟨r29, fun j x hx => by cases hx⟩, Or.inl ⟨fun j hj => by omega, r15⟩⟩, ⟨r23, fun j hj => by exact absurd hj (Nat.not_lt_zero _)⟩, ⟨⟨by omega, r20⟩, r68, r69⟩, fun j hj => by exact absurd hj (Nat.not_lt_zero _), rfl, rfl⟩
  have F0 : FRd l mi m0 := fun a j q1 q2 q3 q4 q5 => by rw [r a j (by omega) (by omega), g2 a j q2 (by omega)]
  have m02 : m0 559 2 = 0 := by rw [r _ _ (by omega) (by omega)]; exact m22
  have B0 : B01 m0 := fun j => by rw [r _ _ (by omega) (by omega), g2 _ _ (by omega) (by omega)]; exact hB j
  have L0' : ∀ a, a ≠ 565 → l2 a = ml a := fun a q => f5 a q
  rcases read105 (n := n) (c := c) (k9 := f_Mo_read_127 n) hz (by omega) n 0 (0, 0, 0, 0, 0) m0 l2 hs0 hTS (by omega) with ⟨m3, l3, x1, x2, x3, ⟨q, x4, x5⟩, x6⟩ | ⟨t, s, m3, l3, x1, x2, x3, x4, x5, x6⟩
  · left
    rw [x1]
    unfold f_Mo_read_127
    rw [rf_559_28, bnd_s, g_559, bnd_s, x5, g_559, bnd_s, s_574 (by omega), bnd_s, nrw100]
    have v : ∀ a j, a ≠ 574 → upd2 m3 574 q (m3 559 29) a j = m3 a j := fun a j g => by rw [u2, if_neg (by omega)]
    have hD : Dn T z (upd2 m3 574 q (m3 559 29)) := by
      obtain ⟨t', y1, y2⟩ := (Dn_b x2).2
      exact Dn_c x2 (v _ _ (by omega)) (v _ _ (by omega)) ⟨t', y1, by rw [v _ _ (by omega)]; exact y2⟩
    generalize upd2 m3 574 q (m3 559 29) = m4 at v hD
    obtain ⟨t, s, y1, y2, y3⟩ := read175_D (n := n) (ml := l3) hD
    obtain ⟨n', hn'⟩ : ∃ n', n = n' + 1 := ⟨n - 1, by omega⟩
    have hR : f_Mo_read_142 n (f_Mo_read_175 n) n 559 0 (K m4 l3) = f_Mo_read_175 n 559 (K m4 l3) := by
      conv => lhs; arg 3; rw [hn']
      rw [f_Mo_read_142, g_559, bnd_s, g_559, bnd_s, if_neg (Dn_ne hD).1]
      split <;> rfl
    rw [hR, y3]
    refine ⟨_, l3, t, s, rfl, y1, y2, uE, ?_, ?_, (F0.tr x3.rd).tr (fun a j q1 q2 q3 q4 q5 => by rw [u2, if_neg (by omega), v _ _ (by omega)]), fun a q1 q2 => by rw [x6 a q2, L0' a q1]⟩
    · rw [u2, if_neg (by omega), v _ _ (by omega), x3 _ _ (by omega) (by omega) (by omega)]; exact m02
    · intro j
      rw [u2, if_neg (by omega), v _ _ (by omega), x3 _ _ (by omega) (by omega) (by omega)]; exact B0 j
  · right
    obtain ⟨⟨hA, hA0⟩, ⟨⟨s11, s13, s12⟩, ⟨s29, sCM⟩, sW⟩, sTN, ⟨⟨ssd, s20⟩, s68, s69⟩, sTh, scb, sco⟩ := x2
    have hbi := Au_i hA
    obtain ⟨_, iN2, iN3⟩ := Au_N hA
    rw [if_pos hA0] at iN3
    have hXi := Xm_i (v := vT T z) (u := uT T z) (p := tP T z) hA
    have hGl : (XT T z t).2.2.length = (cN (kd T z) t).length := hXi.2.2.2.2.2
    have hal : alC (XT T z t) = (XT T z t).2.2.flatten := by
      unfold alC
      rw [show (XT T z t).2.1 = [] from (hXi.2.2.2.2.1 (by omega)).2, List.append_nil]
    have htl : (alC (XT T z t)).length ≤ t := by have := hXi.2.1; show (alC (Xm _ _ _ _ t)).length ≤ t; omega
    have ht4 := Au_4 (show Au (kd T z) t ≠ none by rw [hA]; intro q; cases q)
    have htc := tok_lt x4 (show Au (kd T z) t ≠ none by rw [hA]; intro q; cases q)
    rw [x1]
    unfold f_Mo_read_127
    rw [rf_559_28, bnd_s, g_559, bnd_s, sTN.1, g_559, bnd_s, s29, s_574 (by omega), bnd_s, nrw100]
    have v : ∀ a j, ¬ (a = 574 ∧ j = (cN (kd T z) t).length) → upd2 m3 574 (cN (kd T z) t).length (nI (alC (XT T z t)).length) a j = m3 a j := fun a j g => by rw [u2, if_neg g]
    have vE : upd2 m3 574 (cN (kd T z) t).length (nI (alC (XT T z t)).length) 574 (cN (kd T z) t).length = nI (alC (XT T z t)).length := uE
    generalize upd2 m3 574 (cN (kd T z) t).length (nI (alC (XT T z t)).length) = m4 at v vE
    have hla : LastA (kd T z) t s := ⟨hA, Au_n hA (by rw [x3]; exact nx_0.1)⟩
    have hfn : fN (kd T z) s t = 0 := by unfold fN; rw [if_pos ⟨hA0, x3⟩]
    have B3 : B01 m4 := fun j => by rw [v _ _ (by omega), x5 _ _ (by omega) (by omega) (by omega)]; exact B0 j
    refine ⟨m4, l3, t, s, rfl, hla, hfn, WsM_c (v _ _ (by omega)) (v _ _ (by omega)) sW, ⟨by rw [v _ _ (by omega)]; exact sTN.1, by rw [v _ _ (by omega)]; exact s13, by omega⟩, ⟨by rw [v _ _ (by omega)]; exact s68, by rw [v _ _ (by omega)]; exact s69⟩, fun V hV => ?_, by rw [v _ _ (by omega), x5 _ _ (by omega) (by omega) (by omega)]; exact m02, B3, (F0.tr x5.rd).tr (fun a j q1 q2 q3 q4 q5 => v _ _ (by omega)), fun a q1 q2 => by rw [x6 a q2, L0' a q1]⟩
    refine ⟨⟨fun j hj => ?_, ⟨by rw [v _ _ (by omega)]; exact s20, ssd⟩, by omega, by omega, by omega⟩, ⟨⟨hGl, by rw [← hal]; omega, fun k hk => ?_, by rw [← hal]; exact CM_c (fun a j q1 q2 _ => v _ _ (by omega)) sCM⟩, ⟨by rw [v _ _ (by omega)]; exact sTN.1, by rw [v _ _ (by omega)]; exact s13⟩, fun j hj => ?_⟩, B3, hV, fun j hj => by omega⟩
    · rw [v _ _ (by omega), v _ _ (by omega), v _ _ (by omega), v _ _ (by omega)]; exact sTh j hj
    · by_cases g : k = (cN (kd T z) t).length
      · rw [g, vE, hal, ← hGl, List.take_length]
      · rw [v _ _ (by omega)]; exact (sTh k (by omega)).2.2.2
    · have := iN2 j hj
      rw [v _ _ (by omega)]
      exact ⟨(x4.1.2 _ (by omega)).2.1, by omega⟩
end RDM
