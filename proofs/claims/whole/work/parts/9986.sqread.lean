/-! ===== READ ===== -/
theorem cu_E0 : cu E0 = E0 := by
  funext i
  unfold cu E0
  rw [Bool.and_false]
theorem stp_cu {V : List Sh} {c : Cd} {p p' : List Sh} (hV : ∀ j, cu (V.getD j E0) = V.getD j E0) (hp : ∀ a ∈ p, cu a = a) (h : stp V c p = some (.inr p')) : ∀ a ∈ p', cu a = a := by
  unfold stp at h
  by_cases c0 : okc V.length c = false
  · rw [if_pos c0] at h; cases h
  rw [if_neg c0] at h
  by_cases c1 : c.1 < 5
  · rw [if_pos c1] at h
    by_cases c2 : p.length < 8
    · rw [if_pos c2] at h
      cases h
      intro a ha
      rcases List.mem_cons.mp ha with rfl | ha
      · unfold layV
        by_cases g : c.1 = 0
        · rw [if_pos g]; exact hV _
        · rw [if_neg g]; exact cu_cu _
      · exact hp a ha
    · rw [if_neg c2] at h; cases h
  rw [if_neg c1] at h
  by_cases c2 : c.1 < 9
  · rw [if_pos c2] at h
    cases p with
    | nil => cases h
    | cons b p =>
      have hb := hp b List.mem_cons_self
      have hpp : ∀ a ∈ p, cu a = a := fun a ha => hp a (List.mem_cons_of_mem _ ha)
      simp only [] at h
      have fin : ∀ S, cu S = S → (some (mp (.inr S) p) : Option (Nat ⊕ List Sh)) = some (.inr p') → ∀ a ∈ p', cu a = a := fun S hS q => by
        unfold mp at q
        cases q
        intro a ha
        rcases List.mem_cons.mp ha with rfl | ha
        · exact hS
        · exact hpp a ha
      unfold wdS at h
      by_cases g5 : c.1 = 5
      · rw [if_pos g5] at h; exact fin _ (cu_cu _) h
      rw [if_neg g5] at h
      by_cases g6 : c.1 = 6
      · rw [if_pos g6] at h; exact fin _ (cu_cu _) h
      rw [if_neg g6] at h
      by_cases g7 : c.1 = 7
      · rw [if_pos g7] at h; exact fin _ (cu_cu _) h
      rw [if_neg g7] at h
      by_cases g8 : sOff c.2.1 c.2.2.1 b = true
      · rw [if_pos g8] at h; unfold mp at h; cases h
      · rw [if_neg g8] at h; exact fin _ (cu_cu _) h
  · rw [if_neg c2] at h
    cases p with
    | nil => cases h
    | cons a p =>
      cases p with
      | nil => cases h
      | cons b p =>
        simp only [] at h
        cases h
        intro x hx
        rcases List.mem_cons.mp hx with rfl | hx
        · exact cu_cu _
        · exact hp x (List.mem_cons_of_mem _ (List.mem_cons_of_mem _ hx))
theorem rn_cu {V : List Sh} (hV : ∀ j, cu (V.getD j E0) = V.getD j E0) : ∀ {C : List Cd} {p p' : List Sh}, (∀ a ∈ p, cu a = a) → rn V C p = some (.inr p') → ∀ a ∈ p', cu a = a
  | [], p, p', hp, h => by rw [rn] at h; cases h; exact hp
  | c :: C, p, p', hp, h => by
    rw [rn] at h
    cases e : stp V c p with
    | none => rw [e] at h; cases h
    | some r =>
      cases r with
      | inl q => rw [e] at h; cases h
      | inr p1 => rw [e] at h; exact rn_cu hV (stp_cu hV hp e) h
theorem VOK_cu {G : List (List Cd)} {V : List Sh} (h : VOK G V) : ∀ k, k < V.length → cu (V.getD k E0) = V.getD k E0 := by
  intro k
  induction k using Nat.strongRecOn with
  | ind k ih =>
    intro hk
    have hT : ∀ j, cu ((V.take k).getD j E0) = (V.take k).getD j E0 := fun j => by
      by_cases c : j < k
      · rw [show (V.take k).getD j E0 = V.getD j E0 by simp [List.getD, List.getElem?_take, c]]
        exact ih j c (by omega)
      · rw [show (V.take k).getD j E0 = E0 by simp [List.getD, List.getElem?_take, c]]
        exact cu_E0
    exact rn_cu hT (fun a ha => by cases ha) (h k hk).1 _ List.mem_cons_self
section SQR
variable {n z l : Nat} {mi : IM} {ml : JM} {T : Nat → Nat}
theorem read142_F {m kk : Nat} {mi : IM} (h13 : mi 559 13 = 0) (h15 : ¬ mi 559 15 = 0) : f_Mo_read_142 n (f_Mo_read_175 n) (m + 1) 559 (nI kk) (K mi ml) = f_Mo_read_175 n 559 (K mi ml) := by
  rw [f_Mo_read_142, g_559, bnd_s, g_559, bnd_s, h13, if_pos (show (0 : Int32) = 0 from rfl), g_559, bnd_s, if_neg h15]
  split <;> rfl
theorem read175_S {mi : IM} (h13 : mi 559 13 = 0) (h15 : mi 559 15 = 0) : f_Mo_read_175 n 559 (K mi ml) = (f_Mo_restarts n 559 (K (upd2 (upd2 mi 559 17 (-1)) 559 19 (mi 559 20)) ml)).bind fun M8 => some (0, M8) := by
  have r : ∀ j, j ≠ 17 → upd2 mi 559 17 (-1) 559 j = mi 559 j := fun j q => by rw [u2, if_neg (by omega)]
  unfold f_Mo_read_175 f_Mo_read_205
  rw [g_559, bnd_s, h13, if_pos (show (0 : Int32) ≤ 0 by decide), g_559, bnd_s, h15, if_pos (show (0 : Int32) ≤ 0 by decide), p_559, bnd_s, g_559, bnd_s, r 13 (by omega), h13, if_pos (show (0 : Int32) ≤ 0 by decide), g_559, bnd_s, r 15 (by omega), h15, if_pos (show (0 : Int32) ≤ 0 by decide), g_559, bnd_s, r 20 (by omega), p_559, bnd_s]
/-- the reference's READ where the class found a fault -/
theorem moF {r p : Nat} (hn : 3000 < n) (hz : z ≤ 2000) (hl : l < 2) (h2 : mi 559 2 = nI z) (h19 : mi 559 19 = nI l) (hT : ∀ j, j < z → tb mi 560 j = T j) (hW : ∀ w, w < 10 → ml 566 w = l64 (cB 27 (Wd w) 0 (wn w))) (hB : B01 mi) (hR : RdF T z r p) : ∃ m2 l2, f_Mo_read n 559 (K mi ml) = some (nI r, K m2 l2) ∧ m2 559 17 = nI p ∧ m2 559 2 = 0 ∧ B01 m2 ∧ FRd l mi m2 ∧ (∀ a, a ≠ 565 → a ≠ 570 → l2 a = ml a) := by
  obtain ⟨t, s, hL, hR⟩ := hR
  rcases moR (n := n) (T := T) hn hz hl h2 h19 hT hW hB with ⟨m2, l2, t', s', e1, e2, e3, e4, e5, e6, e7, e8⟩ | ⟨m3, l2, t', s', e1, e2, e3, e4, ⟨e5, e5', e5''⟩, e6, e7, e8, e9, e10, e11⟩
  · obtain ⟨rfl, rfl⟩ := Last_u e2 hL
    rcases hR with ⟨x1, rfl, rfl⟩ | ⟨x1, _⟩
    · exact ⟨m2, l2, e1, e4, e5, e6, e7, e8⟩
    · exact absurd x1 e3
  · obtain ⟨rfl, rfl⟩ := Last_u e2 hL
    have out : ∀ (m4 : IM) (w q : Nat), f_Mo_read n 559 (K mi ml) = f_Mo_read_175 n 559 (K m4 l2) → FRd l m3 m4 → m4 559 13 = 0 → m4 559 15 = nI w → m4 559 16 = nI q → w ≠ 0 ∧ w ≤ 7 → m4 559 2 = 0 → B01 m4 → ∃ m2 l2, f_Mo_read n 559 (K mi ml) = some (nI w, K m2 l2) ∧ m2 559 17 = nI q ∧ m2 559 2 = 0 ∧ B01 m2 ∧ FRd l mi m2 ∧ (∀ a, a ≠ 565 → a ≠ 570 → l2 a = ml a) := fun m4 w q y1 y2 y3 y4 y5 y6 y7 y8 => by
      rw [y1, read175_W y3 y4 y5 y6]
      exact ⟨_, l2, rfl, uE, by rw [u2, if_neg (by omega)]; exact y7, fun j => by rw [u2, if_neg (by omega)]; exact y8 j, (e10.tr y2).tr (fun a j q1 q2 q3 q4 q5 => by rw [u2, if_neg (by omega)]), e11⟩
    obtain ⟨n', hn'⟩ : ∃ n', n = n' + 1 := ⟨n - 1, by omega⟩
    rcases hR with ⟨x1, _⟩ | ⟨_, ⟨j, x1, x2, x3, rfl, rfl⟩ | ⟨x1, V, x2, x3, x4⟩⟩
    · exact absurd e3 x1
    · rcases e4 with ⟨y1, _⟩ | ⟨j', y1, y2, y3, y4, y5⟩
      · exact absurd (y1 j x1) x2
      · have hj : j' = j := by
          rcases Nat.lt_trichotomy j' j with g | g | g
          · exact absurd (x3 j' g) y2
          · exact g
          · exact absurd (y3 j g) x2
        subst hj
        have hb5 := mf_5 (T := T) (z := z) (j := j')
        have h15 : ¬ m3 559 15 = 0 := by rw [y4, show (0 : Int32) = nI 0 from rfl, nI_eq (by omega) (by omega)]; exact y2
        refine out m3 _ _ ?_ (fun _ _ _ _ _ _ _ => rfl) e5' y4 y5 ⟨y2, by omega⟩ e8 e9
        rw [e1]
        have := read142_F (n := n) (ml := l2) (m := n') (kk := 0) e5' h15
        rw [← hn'] at this
        exact this
    · have h15 : m3 559 15 = 0 := by
        rcases e4 with ⟨_, y⟩ | ⟨j', y1, y2, _⟩
        · exact y
        · exact absurd (x1 j' y1) y2
      have hV14 : V.length < 14 := by omega
      obtain ⟨m4, g1, g2, g3, g4⟩ := read142 (n := n) (ml := l2) (k9 := f_Mo_read_175 n) (by omega) (by omega) x3 V.length 0 (n - V.length) m3 (by omega) (e7 V (VOK_cu x3)) h15
      rw [show V.length + (n - V.length) = n by omega] at g1
      obtain ⟨q, hq⟩ : ∃ q, n - V.length = q + 1 + 1 := ⟨n - V.length - 2, by omega⟩
      have g3' := g3
      obtain ⟨⟨a1, a2, a3, a4, a5⟩, ⟨a6, ⟨a7, a7'⟩, a8⟩, a9, a10, a11⟩ := g3
      have hWK : WK T z (cN (kd T z) t') (XT T z t').2.2 (1 - l) V m4 := ⟨⟨a1, a2, a3, x2, a4, a5⟩, a9, a11⟩
      have m42 : m4 559 2 = 0 := by rw [g2 _ _ (by omega) (by omega)]; exact e8
      have go : ∀ (R : Nat ⊕ List Sh), rn V ((XT T z t').2.2.getD V.length []) [] = some R → (∀ p, R = .inr p → ∃ S, p = [S]) → ∃ m5, f_Mo_read n 559 (K mi ml) = f_Mo_read_142 n (f_Mo_read_175 n) (q + 1) 559 (nI (V.length + 1)) (K m5 l2) ∧ FW (1 - l) m3 m5 ∧ B01 m5 ∧ ((∃ pl, R = .inl pl ∧ m5 559 15 = nI 6 ∧ m5 559 16 = nI pl) ∨ (∃ S, R = .inr [S] ∧ noS S = true ∧ m5 559 15 = nI 7 ∧ m5 559 16 = nI (tP T z ((cN (kd T z) t').getD V.length 0))) ∨ ∃ S, R = .inr [S] ∧ noS S = false) := fun R hR1 hR2 => by
        obtain ⟨m5, w1, w2, w3, w4⟩ := workM (n := n) (ml := l2) (by omega) a6 hWK g4 hR1 hR2 (a8 V.length x2)
        refine ⟨m5, ?_, g2.tr w2, w3, ?_⟩
        · rw [e1, g1, hq, f_Mo_read_142, g_559, bnd_s, a7, if_neg (show ¬ nI (cN (kd T z) t').length ≤ nI V.length by rw [nI_leI (by omega) (by omega)]; omega), g_559, bnd_s, a7', if_pos (show (0 : Int32) = 0 from rfl), g_559, bnd_s, g4, if_pos (show (0 : Int32) = 0 from rfl), w1, bnd_s, nI_1]
        · rcases w4 with w4 | w4 | ⟨S, y1, y2, _⟩
          · exact Or.inl w4
          · exact Or.inr (Or.inl w4)
          · exact Or.inr (Or.inr ⟨S, y1, y2⟩)
      rcases x4 with ⟨rfl, x4⟩ | ⟨rfl, rfl, S, x4, x5⟩
      · obtain ⟨m5, w1, w2, w3, w4⟩ := go _ x4 (fun p hp => by cases hp)
        rcases w4 with ⟨pl, y1, y2, y3⟩ | ⟨S, y1, _⟩ | ⟨S, y1, _⟩
        · cases y1
          have m513 : m5 559 13 = 0 := by rw [w2 _ _ (by omega) (by omega)]; exact e5'
          refine out m5 6 p (by rw [w1, read142_F m513 (by rw [y2]; decide)]) w2.rd m513 y2 y3 (by omega) (by rw [w2 _ _ (by omega) (by omega)]; exact e8) w3
        · cases y1
        · cases y1
      · obtain ⟨m5, w1, w2, w3, w4⟩ := go _ x4 (fun p hp => ⟨S, by cases hp; rfl⟩)
        rcases w4 with ⟨pl, y1, _⟩ | ⟨S', y1, y2, y3, y4⟩ | ⟨S', y1, y2⟩
        · cases y1
        · have m513 : m5 559 13 = 0 := by rw [w2 _ _ (by omega) (by omega)]; exact e5'
          refine out m5 7 _ (by rw [w1, read142_F m513 (by rw [y3]; decide)]) w2.rd m513 y3 y4 (by omega) (by rw [w2 _ _ (by omega) (by omega)]; exact e8) w3
        · cases y1; rw [x5] at y2; cases y2
/-- the reference's READ where the class found all good -/
theorem moS {V : List Sh} {N : List Nat} {G : List (List Cd)} (hn : 3000 < n) (hz : z ≤ 2000) (hl : l < 2) (h2 : mi 559 2 = nI z) (h19 : mi 559 19 = nI l) (hT : ∀ j, j < z → tb mi 560 j = T j) (hW : ∀ w, w < 10 → ml 566 w = l64 (cB 27 (Wd w) 0 (wn w))) (hB : B01 mi) (hR : RdS T z V N G) : ∃ m2 l2, f_Mo_read n 559 (K mi ml) = some (0, K m2 l2) ∧ (m2 559 17 = -1 ∧ m2 559 19 = nI (1 - l) ∧ m2 559 2 = 0) ∧ (m2 568 (1 - l) = nI (cnO (kd T z) false N) ∧ m2 569 (1 - l) = nI (cnO (kd T z) true N) ∧ cnO (kd T z) false N ≤ 8 ∧ cnO (kd T z) true N ≤ 6) ∧ (∀ j, j < N.length → pS m2 (pgs (kd T z) N (1 - l) j) = V.getD j E0) ∧ B01 m2 ∧ ((∀ b, b < 8 → m2 602 b = -1) ∧ (∀ b, b < 2048 → m2 603 b = 0) ∧ (m2 559 73 = 0 ∧ m2 559 48 = 0 ∧ m2 559 58 = 0 ∧ m2 559 67 = 0)) ∧ (∀ a j, a < 559 ∨ (a = 559 ∧ j = 50) → m2 a j = mi a j) ∧ (∀ a, a ≠ 565 → a ≠ 570 → l2 a = ml a) := by
  obtain ⟨t, s, hL, hf, hm, hVl, rfl, rfl, hO⟩ := hR
  rcases moR (n := n) (T := T) hn hz hl h2 h19 hT hW hB with ⟨m2, l2, t', s', e1, e2, e3, e4, e5, e6, e7, e8⟩ | ⟨m3, l2, t', s', e1, e2, e3, e4, ⟨e5, e5', e5''⟩, ⟨e6, e6'⟩, e7, e8, e9, e10, e11⟩
  · obtain ⟨rfl, rfl⟩ := Last_u e2 hL
    exact absurd hf e3
  · obtain ⟨rfl, rfl⟩ := Last_u e2 hL
    have h15 : m3 559 15 = 0 := by
      rcases e4 with ⟨_, y⟩ | ⟨j', y1, y2, _⟩
      · exact y
      · exact absurd (hm j' y1) y2
    obtain ⟨m4, g1, g2, g3, g4⟩ := read142 (n := n) (ml := l2) (k9 := f_Mo_read_175 n) (by omega) (by omega) hO V.length 0 (n - V.length) m3 (by omega) (e7 V (VOK_cu hO)) h15
    rw [show V.length + (n - V.length) = n by omega] at g1
    obtain ⟨q, hq⟩ : ∃ q, n - V.length = q + 1 := ⟨n - V.length - 1, by omega⟩
    obtain ⟨⟨a1, a2, a3, a4, a5⟩, ⟨a6, ⟨a7, a7'⟩, a8⟩, a9, a10, a11⟩ := g3
    have hs0 : s'.1 = 0 := by
      unfold fN at hf
      by_cases c : s'.1 = 0 ∧ kd T z t' = 0
      · exact c.1
      · rw [if_neg c] at hf; split at hf <;> omega
    obtain ⟨c1, c2⟩ := (Au_cnt t' s' hL.1).1 hs0
    obtain ⟨m5, r1, r2, r3, r4, r5⟩ := restM (n := n) (mi := upd2 (upd2 m4 559 17 (-1)) 559 19 (m4 559 20)) (ml := l2) (by omega)
    have f5 : ∀ a j, a ≠ 602 → a ≠ 603 → ¬ (a = 559 ∧ (j = 73 ∨ j = 48 ∨ j = 58 ∨ j = 67 ∨ j = 17 ∨ j = 19)) → m5 a j = m4 a j := fun a j q1 q2 q3 => by rw [r5 a j q1 q2 (by omega), u2, if_neg (by omega), u2, if_neg (by omega)]
    have p5 : ∀ p, pS m5 p = pS m4 p := fun p => by
      apply cu_ext
      intro i hi
      unfold pg
      rw [f5 567 _ (by omega) (by omega) (by omega)]
    refine ⟨m5, l2, ?_, ⟨?_, ?_, ?_⟩, ⟨?_, ?_, a4, a5⟩, fun j hj => ?_, fun j => ?_, ⟨r2, r3, r4⟩, fun a j q => ?_, e11⟩
    · rw [e1, g1, hq, f_Mo_read_142, g_559, bnd_s, a7, if_pos (nI_le (by omega) (by omega)), read175_S a7' g4, r1, bnd_s]
    · rw [r5 _ _ (by omega) (by omega) (by omega), u2, if_neg (by omega), uE]
    · rw [r5 _ _ (by omega) (by omega) (by omega), uE]; exact a2.1
    · rw [f5 _ _ (by omega) (by omega) (by omega), g2 _ _ (by omega) (by omega)]; exact e8
    · rw [f5 _ _ (by omega) (by omega) (by omega), g2 _ _ (by omega) (by omega), e6, c1]
    · rw [f5 _ _ (by omega) (by omega) (by omega), g2 _ _ (by omega) (by omega), e6', c2]
    · rw [p5]; exact a11 j (by omega)
    · rw [f5 _ _ (by omega) (by omega) (by omega)]; exact a9 j
    · rw [f5 a j (by omega) (by omega) (by omega), g2 a j (by omega) (by omega), e10 a j (by omega) (by omega) (by omega) (by omega) (by omega)]
end SQR
theorem IV_fail {l nb no : Nat} {Bd Ou : Nat → Nat → Bool} {mi m1 m2 : IM} {ml l1 l2 : JM} (h : IV l nb no Bd Ou mi ml) (hc : FCr mi m1) (hl1 : FCl ml l1) (hm : FRd l m1 m2) (hl2 : ∀ a, a ≠ 565 → a ≠ 570 → l2 a = l1 a) (hB : B01 m2) (h01 : m2 0 1 = 0) (h52 : m2 559 2 = 0) (hp : m2 0 2 = m2 559 17) : IV l nb no Bd Ou m2 l2 := by
  obtain ⟨h1, h2, h3, h4, h5, h6, h7, h8, h9, h10⟩ := h
  have f : ∀ a j, ¬ (a = 0 ∧ (j = 1 ∨ j = 2)) → ¬ (4 ≤ a ∧ a ≤ 76) → ¬ (a = 559 ∧ (j = 2 ∨ j = 4 ∨ (10 ≤ j ∧ j ≤ 17) ∨ j = 20 ∨ j = 23 ∨ j = 29 ∨ j = 40)) → ¬ (561 ≤ a ∧ a ≤ 564) → ¬ (a = 567 ∧ (inSd (1 - l) (j / 256) ∨ (28 ≤ j / 256 ∧ j / 256 ≤ 44))) → ¬ ((568 ≤ a ∧ a ≤ 569) ∧ j = 1 - l) → ¬ (571 ≤ a ∧ a ≤ 584) → m2 a j = mi a j := fun a j q1 q2 q3 q4 q5 q6 q7 => by rw [hm a j q3 q4 q5 q6 q7, hc a j q1 q2]
  obtain ⟨⟨b1, b2, b3⟩, ⟨b4, b5, b6, b7, b8⟩, b9, b10⟩ := h3
  refine ⟨hB, fun w hw => ?_, ⟨⟨b1, b2, b3⟩, ⟨?_, ?_, ?_, ?_, ?_⟩, fun k hk => FoA_c (fun c q1 q2 => ?_) (fun j q1 q2 => ?_) (b9 k hk), fun k hk => FoA_c (fun c q1 q2 => ?_) (fun j q1 q2 => ?_) (b10 k hk)⟩, ⟨⟨0, by omega, h01, h52, fun j hj => by omega⟩, hp⟩, IvL_c (fun c j q => ?_) h5, IvK_c (fun c j q => ?_) h6, IvF_c (fun c j q => ?_) h7, IvS_c b3 (fun c j q => ?_) h8, IvR_c (fun c j q => ?_) h9, IvC_c (fun c j q => ?_) h10⟩
  · rw [hl2 8 (by omega) (by omega), hl2 566 (by omega) (by omega), hl1 8 (by omega) (by omega) (by omega) (by omega), hl1 566 (by omega) (by omega) (by omega) (by omega)]; exact h2 w hw
  · rw [f _ _ (by omega) (by omega) (by omega) (by omega) (by omega) (by omega) (by omega)]; exact b4
  · rw [f _ _ (by omega) (by omega) (by omega) (by omega) (by omega) (by omega) (by omega)]; exact b5
  · rw [f _ _ (by omega) (by omega) (by omega) (by omega) (by omega) (by omega) (by omega)]; exact b6
  · rw [f _ _ (by omega) (by omega) (by omega) (by omega) (by omega) (by omega) (by omega)]; exact b7
  · rw [f _ _ (by omega) (by omega) (by omega) (by omega) (by omega) (by omega) (by omega)]; exact b8
  · funext j; exact f _ _ (by omega) (by omega) (by omega) (by omega) (by omega) (by omega) (by omega)
  · exact f _ _ (by omega) (by omega) (by omega) (by omega) (by unfold inSd; omega) (by omega) (by omega)
  · funext j; exact f _ _ (by omega) (by omega) (by omega) (by omega) (by omega) (by omega) (by omega)
  · exact f _ _ (by omega) (by omega) (by omega) (by omega) (by unfold inSd; omega) (by omega) (by omega)
  · unfold DL at q; exact f _ _ (by omega) (by omega) (by omega) (by omega) (by omega) (by omega) (by omega)
  · unfold DK at q; exact f _ _ (by omega) (by omega) (by omega) (by omega) (by omega) (by omega) (by omega)
  · unfold DF at q; exact f _ _ (by omega) (by omega) (by omega) (by omega) (by omega) (by omega) (by omega)
  · unfold DS at q; exact f _ _ (by omega) (by omega) (by omega) (by omega) (by omega) (by omega) (by omega)
  · unfold DR at q; exact f _ _ (by omega) (by omega) (by omega) (by omega) (by omega) (by omega) (by omega)
  · unfold DC2 at q; exact f _ _ (by omega) (by omega) (by omega) (by omega) (by unfold inSd; omega) (by omega) (by omega)
theorem sq_read : SQ Inv (f_Q_read NF 0) (f_Mo_read NF 559) := by
  rintro M ⟨mi, ml, rfl, l, nb, no, Bd, Ou, hI⟩
  have hI0 := hI
  obtain ⟨h1, h2, h3, ⟨⟨z, hz, t1, t2, t3⟩, t4⟩, h5, h6, h7, h8, h9, h10⟩ := hI
  have hl := h3.1.1
  have hW8 : ∀ w, w < 10 → ml 8 w = l64 (cB 32 (Wd w) 0 (wn w)) := fun w hw => by rw [(h2 w hw).1]; exact (W_32 w hw).1
  have hW6 : ∀ w, w < 10 → ml 566 w = l64 (cB 27 (Wd w) 0 (wn w)) := fun w hw => by rw [(h2 w hw).2]; exact (W_32 w hw).2
  rcases clR (n := NF) (T := fun j => tb mi 1 j) (by decide) hz t1 (fun _ => rfl) hW8 (fun t s hA h0 => (Au_cnt t s hA).1 h0) with ⟨r, p, m1, l1, e1, e2, e3, e4, e5, e6, e7⟩ | ⟨V, N, G, m1, l1, e1, e2, e3, e4, e5, e6, e7⟩
  · obtain ⟨m2, l2, g1, g2, g3, g4, g5, g6⟩ := moF (n := NF) (l := l) (mi := m1) (ml := l1) (T := fun j => tb mi 1 j) (by decide) hz hl (by rw [e6 _ _ (by omega) (by omega)]; exact t2) (by rw [e6 _ _ (by omega) (by omega)]; exact h3.2.1.1) (fun j hj => by unfold tb; rw [e6 _ _ (by omega) (by omega), t3 j hj]) (fun w hw => by rw [e7 566 (by omega) (by omega) (by omega) (by omega)]; exact hW6 w hw) (fun j => by rw [e6 _ _ (by omega) (by omega)]; exact h1 j) e2
    exact ⟨nI r, _, _, e1, g1, m2, l2, rfl, l, nb, no, Bd, Ou, IV_fail hI0 e6 e7 g5 g6 g4 (by rw [g5 _ _ (by omega) (by omega) (by omega) (by omega) (by omega)]; exact e4) g3 (by rw [g5 _ _ (by omega) (by omega) (by omega) (by omega) (by omega), e5, g2])⟩
  · obtain ⟨m2, l2, g1, ⟨g2, g3, g4⟩, ⟨g5, g6, g7, g8⟩, g9, g10, ⟨g11, g12, g13, g14, g15, g16⟩, g17, g18⟩ := moS (n := NF) (l := l) (mi := m1) (ml := l1) (T := fun j => tb mi 1 j) (by decide) hz hl (by rw [e7 _ _ (by omega) (by omega) (by omega) (by omega) (by omega) (by omega) (by omega) (by omega) (by omega)]; exact t2) (by rw [e7 _ _ (by omega) (by omega) (by omega) (by omega) (by omega) (by omega) (by omega) (by omega) (by omega)]; exact h3.2.1.1) (fun j hj => by unfold tb; rw [e7 _ _ (by omega) (by omega) (by omega) (by omega) (by omega) (by omega) (by omega) (by omega) (by omega), t3 j hj]) (fun w hw => by rw [e6 566 (by omega) (by omega) (by omega) (by omega)]; exact hW6 w hw) (fun j => by rw [e7 _ _ (by omega) (by omega) (by omega) (by omega) (by omega) (by omega) (by omega) (by omega) (by omega)]; exact h1 j) e2
    obtain ⟨⟨n1, n2⟩, n3, n4, n5, n6, n7, n8⟩ := e3
    have hVN : V.length = N.length := by obtain ⟨_, _, _, _, _, q, _⟩ := e2; exact q
    have hVO : VOK G V := by obtain ⟨_, _, _, _, _, _, _, _, q⟩ := e2; exact q
    refine ⟨0, _, _, e1, g1, m2, l2, rfl, 1 - l, cnO (kd (fun j => tb mi 1 j) z) false N, cnO (kd (fun j => tb mi 1 j) z) true N, fun x => pS m2 (8 * (1 - l) + x), fun x => pS m2 (16 + 6 * (1 - l) + x), g10, fun w hw => ?_, ⟨⟨by omega, g7, g8⟩, ⟨g3, ?_, g5, ?_, g6⟩, fun x hx => ?_, fun x hx => ?_⟩, ⟨⟨0, by omega, ?_, g4, fun j hj => by omega⟩, ?_⟩, fun b hb => ?_, ⟨0, by omega, ?_, g13, fun i hi => by omega⟩, ⟨?_, Or.inl ⟨?_, g15⟩⟩, fun k hk => Or.inl ?_, Or.inl g14, Or.inl ⟨?_, g16⟩⟩
    · rw [g18 8 (by omega) (by omega), g18 566 (by omega) (by omega), e6 8 (by omega) (by omega) (by omega) (by omega), e6 566 (by omega) (by omega) (by omega) (by omega)]; exact h2 w hw
    · rw [g17 _ _ (by omega)]; exact n1
    · rw [g17 _ _ (by omega)]; exact n2
    · obtain ⟨j, q1, q2, q3⟩ := cn_ex (k := kd (fun j => tb mi 1 j) z) (N := N) (o := false) N.length x (Nat.le_refl _) (by rw [List.take_length]; exact hx)
      have hpg : pgs (kd (fun j => tb mi 1 j) z) N (1 - l) j = 8 * (1 - l) + x := by unfold pgs; rw [if_neg (by rw [q2]; decide), q3]
      have had : adr (kd (fun j => tb mi 1 j) z) N j = 223 + 24 * x := by unfold adr; rw [if_neg (by rw [q2]; decide), q3]
      have hpv : pS m2 (8 * (1 - l) + x) = V.getD j E0 := by rw [← hpg]; exact g9 j q1
      obtain ⟨w1, w2, w3⟩ := n3 j q1
      rw [had] at w1 w2
      show FoA m2 (223 + 24 * x) (8 * (1 - l) + x) (pS m2 (8 * (1 - l) + x))
      rw [hpv]
      exact ⟨(hVO j (by omega)).2, w3, hpv, FoI_c (by omega) (fun c q1 q2 => by funext i; exact g17 _ _ (by omega)) w1, by rw [g17 _ _ (by omega)]; exact w2⟩
    · obtain ⟨j, q1, q2, q3⟩ := cn_ex (k := kd (fun j => tb mi 1 j) z) (N := N) (o := true) N.length x (Nat.le_refl _) (by rw [List.take_length]; exact hx)
      have hpg : pgs (kd (fun j => tb mi 1 j) z) N (1 - l) j = 16 + 6 * (1 - l) + x := by unfold pgs; rw [if_pos q2, q3]
      have had : adr (kd (fun j => tb mi 1 j) z) N j = 415 + 24 * x := by unfold adr; rw [if_pos q2, q3]
      have hpv : pS m2 (16 + 6 * (1 - l) + x) = V.getD j E0 := by rw [← hpg]; exact g9 j q1
      obtain ⟨w1, w2, w3⟩ := n3 j q1
      rw [had] at w1 w2
      show FoA m2 (415 + 24 * x) (16 + 6 * (1 - l) + x) (pS m2 (16 + 6 * (1 - l) + x))
      rw [hpv]
      exact ⟨(hVO j (by omega)).2, w3, hpv, FoI_c (by omega) (fun c q1 q2 => by funext i; exact g17 _ _ (by omega)) w1, by rw [g17 _ _ (by omega)]; exact w2⟩
    · rw [g17 _ _ (by omega)]; exact e4
    · rw [g17 _ _ (by omega), e5, g2]
    · have es : svS m2 (138 + 2 * b) = fun _ => false := by
        rw [← (n4 b hb).2]
        unfold svS
        rw [show m2 (138 + 2 * b + 1) = m1 (138 + 2 * b + 1) by funext j; exact g17 _ _ (by omega)]
      have e131 : m2 131 b = -1 := by rw [g17 _ _ (by omega)]; exact (n4 b hb).1
      rw [es]
      exact ⟨Or.inl ⟨e131, rfl⟩, fun i hi => by rw [g12 _ (by omega)]; rfl, ⟨fun _ => e131, fun _ => g11 b hb⟩⟩
    · rw [g17 _ _ (by omega)]; exact n5
    · rw [g17 81 0 (by omega), g17 559 50 (by omega), e7 _ _ (by omega) (by omega) (by omega) (by omega) (by omega) (by omega) (by omega) (by omega) (by omega), e7 559 50 (by omega) (by omega) (by omega) (by omega) (by omega) (by omega) (by omega) (by omega) (by omega)]; exact h7.1
    · rw [g17 _ _ (by omega)]; exact n6
    · rw [g17 _ _ (by omega)]; exact n7 k (by omega)
    · rw [g17 _ _ (by omega)]; exact n8
