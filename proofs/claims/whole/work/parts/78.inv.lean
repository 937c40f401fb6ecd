/-! ===== THE INVARIANT ===== -/
/-- boards and outlines: the class's Forms hold them, and the reference's pages -/
def FoA (mi : IM) (a p : Nat) (S : Nat → Bool) : Prop := noS S = false ∧ cu S = S ∧ pS mi p = S ∧ FoI mi a 8 S ∧ mi a 6 = nI (ct S 256)
def IvB (l nb no : Nat) (Bd Ou : Nat → Nat → Bool) (mi : IM) : Prop :=
  (l < 2 ∧ nb ≤ 8 ∧ no ≤ 6) ∧ (mi 559 19 = nI l ∧ mi 0 5 = nI nb ∧ mi 568 l = nI nb ∧ mi 0 6 = nI no ∧ mi 569 l = nI no) ∧
  (∀ k, k < nb → FoA mi (223 + 24 * k) (8 * l + k) (Bd k)) ∧ (∀ k, k < no → FoA mi (415 + 24 * k) (16 + 6 * l + k) (Ou k))
def DB (c j : Nat) : Prop := c = 568 ∨ c = 569 ∨ (c = 0 ∧ (j = 5 ∨ j = 6)) ∨ (c = 559 ∧ j = 19) ∨ (223 ≤ c ∧ c < 559) ∨ (c = 567 ∧ j < 7168)
/-- tape and place -/
def IvT (mi : IM) : Prop := (∃ t, t ≤ 2000 ∧ mi 0 1 = nI t ∧ mi 559 2 = nI t ∧ ∀ j, j < t → mi 1 j = mi 560 j) ∧ mi 0 2 = mi 559 17
def DT (c j : Nat) : Prop := c = 1 ∨ c = 560 ∨ (c = 0 ∧ (j = 1 ∨ j = 2)) ∨ (c = 559 ∧ (j = 2 ∨ j = 17))
/-- c is the code of a LAY of board b that covers S -/
def LC (nb : Nat) (Bd : Nat → Nat → Bool) (b : Nat) (c : Int32) (S : Nat → Bool) : Prop := (c = -1 ∧ S = fun _ => false) ∨ (b < nb ∧ ∃ g x y : Nat, g < 8 ∧ x < 8 ∧ y < 8 ∧ lsG (Bd b) g = g ∧ c = nI (64 * g + 8 * x + y) ∧ sOff (x : Int) (y : Int) (imS g (Bd b)) = false ∧ S = shC (x : Int) (y : Int) (imS g (Bd b)))
/-- the table -/
def IvL (nb : Nat) (Bd : Nat → Nat → Bool) (mi : IM) : Prop := ∀ b, b < 8 → LC nb Bd b (mi 131 b) (svS mi (138 + 2 * b)) ∧ (∀ i, i < 256 → mi 603 (256 * b + i) = b2i (svS mi (138 + 2 * b) i)) ∧ (mi 602 b = -1 ↔ mi 131 b = -1)
def DL (c j : Nat) : Prop := c = 131 ∨ c = 602 ∨ c = 603 ∨ (138 ≤ c ∧ c < 154)
/-- entry i of the book -/
def BkE (nb : Nat) (Bd : Nat → Nat → Bool) (mi : IM) (i : Nat) : Prop :=
  (mi 220 i = -1 ∧ (∃ w, w < 6 ∧ mi 156 i = nI w ∧ mi 604 i = nI w) ∧ mi 157 i = mi 605 i ∧ mi 158 i = mi 606 i ∧ mi 155 i = mi 607 i ∧ ∀ b, b < 8 → ∃ S, LC nb Bd b (mi (160 + i) b) S ∧ ∀ k, k < 256 → mi 609 (2048 * i + 256 * b + k) = b2i (S k))
  ∨ (mi 604 i = -1 ∧ ∃ c, c < 60 ∧ mi 220 i = nI c ∧ mi 608 i = nI c)
def IvK (nb : Nat) (Bd : Nat → Nat → Bool) (mi : IM) : Prop := ∃ e, e ≤ 60 ∧ mi 154 0 = nI e ∧ mi 559 73 = nI e ∧ ∀ i, i < e → BkE nb Bd mi i
def DK (c j : Nat) : Prop := (c = 154 ∧ j = 0) ∨ (155 ≤ c ∧ c ≤ 220) ∨ (c = 559 ∧ j = 73) ∨ (604 ≤ c ∧ c ≤ 609)
/-- the FILLING that is remembered -/
def IvF (nb : Nat) (mi : IM) : Prop := mi 81 0 = mi 559 50 ∧ ((mi 81 9 = 0 ∧ mi 559 58 = 0) ∨ (mi 559 58 = 1 ∧ ∃ r, r < 2 ^ nb ∧ mi 81 9 = nI r ∧ ∀ b, b < 8 → (r.testBit b = true → ∃ g x y : Nat, g < 8 ∧ x < 8 ∧ y < 8 ∧ mi 85 b = nI (64 * g + 8 * x + y) ∧ mi 596 b = nI g ∧ mi 597 b = nI x ∧ mi 598 b = nI y) ∧ (r.testBit b = false → mi 596 b = -1)))
def DF (c j : Nat) : Prop := (c = 81 ∧ (j = 0 ∨ j = 9)) ∨ c = 85 ∨ (c = 559 ∧ (j = 50 ∨ j = 58)) ∨ c = 596 ∨ c = 597 ∨ c = 598
/-- the SETS that the class keeps -/
def IvS (nb no : Nat) (Bd Ou : Nat → Nat → Bool) (mi : IM) : Prop := ∀ k, k < no → mi 86 k = -3 ∨ (mi 86 k = -2 ∧ ∃ U, 1 ≤ U ∧ U < 2 ^ nb ∧ fulS Bd (Ou k) U = true) ∨ ((∀ U, 1 ≤ U → U < 2 ^ nb → fulS Bd (Ou k) U = false) ∧ mi 86 k = nI (ct (finS Bd (Ou k) nb) 256) ∧ ∀ U, U < 256 → bt (mi (88 + k) (U / 32)) (U % 32) = finS Bd (Ou k) nb U)
def DS (c j : Nat) : Prop := c = 86 ∨ (88 ≤ c ∧ c < 94)
/-- the reference's rows of IMAGES -/
def IvR (nb : Nat) (Bd : Nat → Nat → Bool) (mi : IM) : Prop := mi 559 48 = 0 ∨ (mi 559 48 = 1 ∧ ∀ k, k < 8 * nb → mi 588 k = nI (ct (imK Bd k) 256) ∧ mi 590 k = b2i (lsG (Bd (k / 8)) (k % 8) == k % 8) ∧ ∀ i, i < 256 → imK Bd k i = true → mi 589 (256 * k + ct (imK Bd k) i) = nI i)
def DR (c j : Nat) : Prop := (c = 559 ∧ j = 48) ∨ c = 588 ∨ c = 589 ∨ c = 590
/-- THE CUT that is remembered -/
def IvC (mi : IM) : Prop := (mi 94 0 = 0 ∧ mi 559 67 = 0) ∨ (¬ mi 94 0 = 0 ∧ mi 559 67 = mi 94 0 ∧ mi 94 1 = mi 559 68 ∧ mi 94 2 = mi 559 69 ∧ mi 94 3 = mi 559 70 ∧ svS mi 95 = pS mi 50 ∧ svS mi 97 = pS mi 51)
def DC2 (c j : Nat) : Prop := c = 94 ∨ c = 96 ∨ c = 98 ∨ (c = 559 ∧ (j = 67 ∨ j = 68 ∨ j = 69 ∨ j = 70)) ∨ (c = 567 ∧ 12800 ≤ j ∧ j < 13312)
/-- words -/
def IvW (ml : JM) : Prop := ∀ w, w < 10 → ml 8 w = M2i.2.2 8 w ∧ ml 566 w = M2i.2.2 566 w
def IV (l nb no : Nat) (Bd Ou : Nat → Nat → Bool) (mi : IM) (ml : JM) : Prop := B01 mi ∧ IvW ml ∧ IvB l nb no Bd Ou mi ∧ IvT mi ∧ IvL nb Bd mi ∧ IvK nb Bd mi ∧ IvF nb mi ∧ IvS nb no Bd Ou mi ∧ IvR nb Bd mi ∧ IvC mi
def Inv (M : MM) : Prop := ∃ mi ml, M = K mi ml ∧ ∃ l nb no Bd Ou, IV l nb no Bd Ou mi ml
/-! each part depends on its cells alone -/
theorem FoI_c {mi mi' : IM} {a g : Nat} {S : Nat → Bool} (hg : g ≤ 8) (h : ∀ c, a ≤ c → c < a + 24 → mi' c = mi c) (hf : FoI mi a g S) : FoI mi' a g S := by
  refine ⟨by rw [sv_of (h (a + 1 + 1) (by omega) (by omega))]; exact hf.1, fun k hk => ?_⟩
  have := hf.2 k hk
  rw [sv_of (h (a + 8 + 2 * k + 1) (by omega) (by omega)), h (a + 4) (by omega) (by omega), h (a + 5) (by omega) (by omega), h (a + 6) (by omega) (by omega), h (a + 7) (by omega) (by omega)]
  exact this
theorem FoA_c {mi mi' : IM} {a p : Nat} {S : Nat → Bool} (h : ∀ c, a ≤ c → c < a + 24 → mi' c = mi c) (hp : ∀ j, 256 * p ≤ j → j < 256 * p + 256 → mi' 567 j = mi 567 j) (hf : FoA mi a p S) : FoA mi' a p S := by
  refine ⟨hf.1, hf.2.1, ?_, FoI_c (by omega) h hf.2.2.2.1, by rw [h a (by omega) (by omega)]; exact hf.2.2.2.2⟩
  rw [← hf.2.2.1]
  refine cu_ext fun i hi => ?_
  unfold pg
  rw [hp _ (by omega) (by omega)]
theorem IvB_c {l nb no : Nat} {Bd Ou : Nat → Nat → Bool} {mi mi' : IM} (h : ∀ c j, DB c j → mi' c j = mi c j) (hb : IvB l nb no Bd Ou mi) : IvB l nb no Bd Ou mi' := by
  obtain ⟨⟨h1, h2, h3⟩, ⟨h4, h5, h6, h7, h8⟩, h9, h10⟩ := hb
  refine ⟨⟨h1, h2, h3⟩, ⟨?_, ?_, ?_, ?_, ?_⟩, fun k hk => FoA_c (fun c q1 q2 => ?_) (fun j q1 q2 => ?_) (h9 k hk), fun k hk => FoA_c (fun c q1 q2 => ?_) (fun j q1 q2 => ?_) (h10 k hk)⟩
  · rw [h _ _ (by unfold DB; omega)]; exact h4
  · rw [h _ _ (by unfold DB; omega)]; exact h5
  · rw [h _ _ (by unfold DB; omega)]; exact h6
  · rw [h _ _ (by unfold DB; omega)]; exact h7
  · rw [h _ _ (by unfold DB; omega)]; exact h8
  · funext j; exact h _ _ (by unfold DB; omega)
  · exact h _ _ (by unfold DB; omega)
  · funext j; exact h _ _ (by unfold DB; omega)
  · exact h _ _ (by unfold DB; omega)
theorem IvT_c {mi mi' : IM} (h : ∀ c j, DT c j → mi' c j = mi c j) (hb : IvT mi) : IvT mi' := by
  obtain ⟨⟨t, h1, h2, h3, h4⟩, h5⟩ := hb
  refine ⟨⟨t, h1, ?_, ?_, fun j hj => ?_⟩, ?_⟩
  · rw [h _ _ (by unfold DT; omega)]; exact h2
  · rw [h _ _ (by unfold DT; omega)]; exact h3
  · rw [h _ _ (by unfold DT; omega), h 560 _ (by unfold DT; omega)]; exact h4 j hj
  · rw [h _ _ (by unfold DT; omega), h 559 _ (by unfold DT; omega)]; exact h5
theorem IvL_c {nb : Nat} {Bd : Nat → Nat → Bool} {mi mi' : IM} (h : ∀ c j, DL c j → mi' c j = mi c j) (hb : IvL nb Bd mi) : IvL nb Bd mi' := by
  intro b hb8
  obtain ⟨h1, h2, h3⟩ := hb b hb8
  rw [sv_of (mi := mi) (mi' := mi') (b := 138 + 2 * b) (by funext j; exact h _ _ (by unfold DL; omega)), h 131 b (by unfold DL; omega), h 602 b (by unfold DL; omega)]
  exact ⟨h1, fun i hi => by rw [h _ _ (by unfold DL; omega)]; exact h2 i hi, h3⟩
theorem BkE_c {nb : Nat} {Bd : Nat → Nat → Bool} {mi mi' : IM} {i : Nat} (hi : i < 60) (h : ∀ c j, (155 ≤ c ∧ c ≤ 159) ∨ c = 160 + i ∨ c = 220 ∨ (604 ≤ c ∧ c ≤ 608) ∨ (c = 609 ∧ 2048 * i ≤ j ∧ j < 2048 * i + 2048) → (c = 160 + i ∨ c = 609 ∨ j = i) → mi' c j = mi c j) (hb : BkE nb Bd mi i) : BkE nb Bd mi' i := by
  have g : ∀ c, (155 ≤ c ∧ c ≤ 159) ∨ c = 220 ∨ (604 ≤ c ∧ c ≤ 608) → mi' c i = mi c i := fun c hc => h c i (by omega) (by omega)
  rcases hb with ⟨h1, ⟨w, h2, h3, h4⟩, h5, h6, h7, h8⟩ | ⟨h1, c, h2, h3, h4⟩
  · refine Or.inl ⟨by rw [g 220 (by omega)]; exact h1, ⟨w, h2, by rw [g 156 (by omega)]; exact h3, by rw [g 604 (by omega)]; exact h4⟩, by rw [g 157 (by omega), g 605 (by omega)]; exact h5, by rw [g 158 (by omega), g 606 (by omega)]; exact h6, by rw [g 155 (by omega), g 607 (by omega)]; exact h7, fun b hb => ?_⟩
    obtain ⟨S, s1, s2⟩ := h8 b hb
    exact ⟨S, by rw [h (160 + i) b (by omega) (by omega)]; exact s1, fun k hk => by rw [h 609 _ (by omega) (by omega)]; exact s2 k hk⟩
  · exact Or.inr ⟨by rw [g 604 (by omega)]; exact h1, c, h2, by rw [g 220 (by omega)]; exact h3, by rw [g 608 (by omega)]; exact h4⟩
theorem IvK_c {nb : Nat} {Bd : Nat → Nat → Bool} {mi mi' : IM} (h : ∀ c j, DK c j → mi' c j = mi c j) (hb : IvK nb Bd mi) : IvK nb Bd mi' := by
  obtain ⟨e, h1, h2, h3, h4⟩ := hb
  refine ⟨e, h1, ?_, ?_, fun i hi => BkE_c (by omega) (fun c j q _ => h _ _ ?_) (h4 i hi)⟩
  · rw [h _ _ (by unfold DK; omega)]; exact h2
  · rw [h _ _ (by unfold DK; omega)]; exact h3
  · unfold DK; omega
theorem IvF_c {nb : Nat} {mi mi' : IM} (h : ∀ c j, DF c j → mi' c j = mi c j) (hb : IvF nb mi) : IvF nb mi' := by
  unfold IvF at hb ⊢
  rw [h 81 0 (by unfold DF; omega), h 559 50 (by unfold DF; omega), h 81 9 (by unfold DF; omega), h 559 58 (by unfold DF; omega)]
  refine ⟨hb.1, ?_⟩
  rcases hb.2 with h1 | ⟨h1, r, h2, h3, h4⟩
  · exact Or.inl h1
  · refine Or.inr ⟨h1, r, h2, h3, fun b hb => ?_⟩
    rw [h 85 b (by unfold DF; omega), h 596 b (by unfold DF; omega), h 597 b (by unfold DF; omega), h 598 b (by unfold DF; omega)]
    exact h4 b hb
theorem IvS_c {nb no : Nat} {Bd Ou : Nat → Nat → Bool} {mi mi' : IM} (hno : no ≤ 6) (h : ∀ c j, DS c j → mi' c j = mi c j) (hb : IvS nb no Bd Ou mi) : IvS nb no Bd Ou mi' := by
  intro k hk
  rw [h 86 k (by unfold DS; omega), show mi' (88 + k) = mi (88 + k) by funext j; exact h _ _ (by unfold DS; omega)]
  exact hb k hk
theorem IvR_c {nb : Nat} {Bd : Nat → Nat → Bool} {mi mi' : IM} (h : ∀ c j, DR c j → mi' c j = mi c j) (hb : IvR nb Bd mi) : IvR nb Bd mi' := by
  unfold IvR at hb ⊢
  rw [h 559 48 (by unfold DR; omega)]
  rcases hb with h1 | ⟨h1, h2⟩
  · exact Or.inl h1
  · refine Or.inr ⟨h1, fun k hk => ?_⟩
    rw [h 588 k (by unfold DR; omega), h 590 k (by unfold DR; omega)]
    exact ⟨(h2 k hk).1, (h2 k hk).2.1, fun i hi hs => by rw [h 589 _ (by unfold DR; omega)]; exact (h2 k hk).2.2 i hi hs⟩
theorem IvC_c {mi mi' : IM} (h : ∀ c j, DC2 c j → mi' c j = mi c j) (hb : IvC mi) : IvC mi' := by
  unfold IvC at hb ⊢
  have e50 : pS mi' 50 = pS mi 50 := cu_ext fun i hi => by
    unfold pg
    rw [h 567 _ (by unfold DC2; omega)]
  have e51 : pS mi' 51 = pS mi 51 := cu_ext fun i hi => by
    unfold pg
    rw [h 567 _ (by unfold DC2; omega)]
  rw [h 94 0 (by unfold DC2; omega), h 94 1 (by unfold DC2; omega), h 94 2 (by unfold DC2; omega), h 94 3 (by unfold DC2; omega), h 559 67 (by unfold DC2; omega), h 559 68 (by unfold DC2; omega), h 559 69 (by unfold DC2; omega), h 559 70 (by unfold DC2; omega), e50, e51, sv_of (mi := mi) (mi' := mi') (b := 95) (by funext j; exact h _ _ (by unfold DC2; omega)), sv_of (mi := mi) (mi' := mi') (b := 97) (by funext j; exact h _ _ (by unfold DC2; omega))]
  exact hb
/-- what is of the state: all but what the searches use meanwhile -/
def St (c j : Nat) : Prop := DB c j ∨ DT c j ∨ DL c j ∨ DK c j ∨ DF c j ∨ DS c j ∨ DR c j ∨ DC2 c j
def Kp (mi mi' : IM) : Prop := B01 mi' ∧ ∀ c j, St c j → mi' c j = mi c j
theorem IV_keep {l nb no : Nat} {Bd Ou : Nat → Nat → Bool} {mi mi' : IM} {ml : JM} (h : IV l nb no Bd Ou mi ml) (hk : Kp mi mi') : IV l nb no Bd Ou mi' ml := by
  obtain ⟨h1, h2, h3, h4, h5, h6, h7, h8, h9, h10⟩ := h
  refine ⟨hk.1, h2, IvB_c (fun c j q => hk.2 c j ?_) h3, IvT_c (fun c j q => hk.2 c j ?_) h4, IvL_c (fun c j q => hk.2 c j ?_) h5, IvK_c (fun c j q => hk.2 c j ?_) h6, IvF_c (fun c j q => hk.2 c j ?_) h7, IvS_c h3.1.2.2 (fun c j q => hk.2 c j ?_) h8, IvR_c (fun c j q => hk.2 c j ?_) h9, IvC_c (fun c j q => hk.2 c j ?_) h10⟩
  · exact Or.inl q
  · exact Or.inr (Or.inl q)
  · exact Or.inr (Or.inr (Or.inl q))
  · exact Or.inr (Or.inr (Or.inr (Or.inl q)))
  · exact Or.inr (Or.inr (Or.inr (Or.inr (Or.inl q))))
  · exact Or.inr (Or.inr (Or.inr (Or.inr (Or.inr (Or.inl q)))))
  · exact Or.inr (Or.inr (Or.inr (Or.inr (Or.inr (Or.inr (Or.inl q))))))
  · exact Or.inr (Or.inr (Or.inr (Or.inr (Or.inr (Or.inr (Or.inr q))))))
theorem Kp.rf {mi : IM} (h : B01 mi) : Kp mi mi := ⟨h, fun _ _ _ => rfl⟩
theorem Kp.tr {a b c : IM} (h : Kp a b) (h2 : Kp b c) : Kp a c := ⟨h2.1, fun x j hs => by rw [h2.2 x j hs, h.2 x j hs]⟩
theorem St_no {c j : Nat} (h : St c j) : c ≠ 77 ∧ c ≠ 79 ∧ c ≠ 80 ∧ c ≠ 585 ∧ c ≠ 586 ∧ c ≠ 587 ∧ ¬ (c = 559 ∧ j = 43) ∧ c ≠ 222 ∧ c ≠ 133 ∧ c ≠ 135 ∧ c ≠ 137 := by
  unfold St DB DT DL DK DF DS DR DC2 at h
  omega
theorem St_pg {c j : Nat} (h : St c j) {q : Nat} (hq : 28 ≤ q ∧ q < 50 ∨ 52 ≤ q) : ¬ (c = 567 ∧ 256 * q ≤ j ∧ j < 256 * q + 256) := by
  unfold St DB DT DL DK DF DS DR DC2 at h
  omega
theorem F77.kp {a b : IM} (h : F77 a b) (hb : B01 a) : Kp a b := ⟨fun j => by rw [h 567 (by omega) (by omega) (by omega)]; exact hb j, fun c j hs => by rw [h c (St_no hs).1 (St_no hs).2.1 (St_no hs).2.2.1]⟩
theorem FP.kp {a b : IM} (h : FP a b) (hb : B01 a) : Kp a b := ⟨h.B hb, fun c j hs => h c j (St_no hs).2.2.2.1 (St_no hs).2.2.2.2.1 (St_no hs).2.2.2.2.2.2.1⟩
theorem F587.kp {a b : IM} (h : F587 a b) (hb : B01 a) : Kp a b := ⟨fun j => by rw [h 567 (by omega)]; exact hb j, fun c j hs => by rw [h c (St_no hs).2.2.2.2.2.1]⟩
theorem Fr.kp {ps : List Nat} {a b : IM} (h : Fr ps a b) (hb : B01 b) (hp : ∀ q ∈ ps, 28 ≤ q ∧ q < 50 ∨ 52 ≤ q) : Kp a b := ⟨hb, fun c j hs => h c j fun q hq => St_pg hs (hp q hq)⟩
theorem sq_keep {f g : MM → Option (Int32 × MM)} (h : ∀ l nb no Bd Ou mi ml, IV l nb no Bd Ou mi ml → ∃ r m1 m2, f (K mi ml) = some (r, K m1 ml) ∧ g (K m1 ml) = some (r, K m2 ml) ∧ Kp mi m2) : SQ Inv f g := by
  rintro M ⟨mi, ml, rfl, l, nb, no, Bd, Ou, hI⟩
  obtain ⟨r, m1, m2, h1, h2, h3⟩ := h l nb no Bd Ou mi ml hI
  exact ⟨r, K m1 ml, K m2 ml, h1, h2, m2, ml, rfl, l, nb, no, Bd, Ou, IV_keep hI h3⟩
