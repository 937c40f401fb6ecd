/-! ===== annul and claim ===== -/
theorem IV_book {l nb no : Nat} {Bd Ou : Nat → Nat → Bool} {mi mi' : IM} {ml : JM} (h : IV l nb no Bd Ou mi ml) (hb : B01 mi') (hK : IvK nb Bd mi') (hk : ∀ c j, St c j → ¬ DK c j → mi' c j = mi c j) : IV l nb no Bd Ou mi' ml := by
  obtain ⟨h1, h2, h3, h4, h5, h6, h7, h8, h9, h10⟩ := h
  refine ⟨hb, h2, IvB_c (fun c j q => hk c j (Or.inl q) ?_) h3, IvT_c (fun c j q => hk c j (Or.inr (Or.inl q)) ?_) h4, IvL_c (fun c j q => hk c j (Or.inr (Or.inr (Or.inl q))) ?_) h5, hK, IvF_c (fun c j q => hk c j (Or.inr (Or.inr (Or.inr (Or.inr (Or.inl q))))) ?_) h7, IvS_c h3.1.2.2 (fun c j q => hk c j (Or.inr (Or.inr (Or.inr (Or.inr (Or.inr (Or.inl q)))))) ?_) h8, IvR_c (fun c j q => hk c j (Or.inr (Or.inr (Or.inr (Or.inr (Or.inr (Or.inr (Or.inl q))))))) ?_) h9, IvC_c (fun c j q => hk c j (Or.inr (Or.inr (Or.inr (Or.inr (Or.inr (Or.inr (Or.inr q))))))) ?_) h10⟩
  · unfold DB at q; unfold DK; omega
  · unfold DT at q; unfold DK; omega
  · unfold DL at q; unfold DK; omega
  · unfold DF at q; unfold DK; omega
  · unfold DS at q; unfold DK; omega
  · unfold DR at q; unfold DK; omega
  · unfold DC2 at q; unfold DK; omega
theorem sq_annul {x1 : Int32} : SQ Inv (f_Q_annul NF 0 x1) (f_Mo_annul NF 559 x1) := by
  rintro M ⟨mi, ml, rfl, l, nb, no, Bd, Ou, hI⟩
  obtain ⟨e, k1, k2, k3, k4⟩ := hI.2.2.2.2.2.1
  have stay : ∀ r, f_Q_annul NF 0 x1 (K mi ml) = some (r, K mi ml) → f_Mo_annul NF 559 x1 (K mi ml) = some (r, K mi ml) → ∃ (r : Int32) (M1 M2 : MM), f_Q_annul NF 0 x1 (K mi ml) = some (r, M1) ∧ f_Mo_annul NF 559 x1 M1 = some (r, M2) ∧ Inv M2 := fun r e1 e2 => ⟨r, K mi ml, K mi ml, e1, e2, mi, ml, rfl, l, nb, no, Bd, Ou, hI⟩
  by_cases c : e = 60
  · refine stay (-1) ?_ ?_
    · unfold f_Q_annul f_Book_isFull
      rw [o_0, rf_0_15, bnd_s, o_154, g_154, bnd_s, k2, if_neg (by rw [it2 (n := 60) (by omega) (by omega)]; omega), bnd_s, if_neg n10]
    · unfold f_Mo_annul
      rw [o_559, g_559, bnd_s, k3, if_pos (by rw [c]; rfl)]
  · have Q : f_Q_annul NF 0 x1 (K mi ml) = ((f_Book_isClaim NF 154 x1 (K mi ml)).bind fun p5 => if p5.1 = 0 then some ((-1), p5.2) else (gR 11 15 0 p5.2).bind fun v7 => (f_Book_enterVoid NF v7 x1 p5.2).bind fun p8 => some (p8.1, p8.2)) := by
      unfold f_Q_annul f_Book_isFull
      rw [o_0, rf_0_15, bnd_s, o_154, g_154, bnd_s, k2, if_pos (by rw [it2 (n := 60) (by omega) (by omega)]; omega), bnd_s, if_pos rfl, rf_0_15, bnd_s]
    have Mm : ∀ m1, m1 559 73 = nI e → f_Mo_annul NF 559 x1 (K m1 ml) = _ := fun m1 q => by
      unfold f_Mo_annul
      rw [o_559, g_559, bnd_s, q, if_neg (by rw [ie1 (n := 60) (by omega) (by omega)]; exact c)]
    rcases i_cases x1 with d | ⟨i, hi, d⟩
    · refine stay (-1) ?_ ?_
      · rw [Q]; unfold f_Book_isClaim; rw [o_154, if_pos d, bnd_s, if_pos rfl]
      · rw [Mm mi k3]; unfold f_Mo_isClaim; rw [o_559, if_pos d, bnd_s, if_pos rfl]
    · subst d
      by_cases f : i < e ∧ mi 220 i = -1
      · generalize h1 : upd2 (upd2 mi 220 e (nrw 100 (nI i))) 154 0 (nI (e + 1)) = m1
        have f1 : ∀ c j, ¬ (c = 220 ∧ j = e) → ¬ (c = 154 ∧ j = 0) → m1 c j = mi c j := fun c j q1 q2 => by rw [← h1, u2, if_neg q2, u2, if_neg q1]
        have hE1 : ∀ i, i < e → BkE nb Bd m1 i := fun j hj => BkE_c (by omega) (fun c t q1 q2 => f1 c t (by omega) (by omega)) (k4 j hj)
        have e73 : m1 559 73 = nI e := by rw [f1 559 73 (by omega) (by omega)]; exact k3
        refine ⟨nI e, K m1 ml, K (upd2 (upd2 (upd2 m1 604 e (nrw 100 (-1))) 608 e (nrw 100 (nI i))) 559 73 (nI (e + 1))) ml, ?_, ?_, _, ml, rfl, l, nb, no, Bd, Ou, ?_⟩
        · rw [Q, isClaimC k1 k2 hi, bnd_s, decide_eq_true f.1, decide_eq_true f.2, if_neg (show ¬ b2i (true && true) = 0 by decide), rf_0_15, bnd_s]
          unfold f_Book_enterVoid
          rw [o_154, rf_154_6, bnd_s, g_154, bnd_s, k2, s_220 (by omega), bnd_s, g_154, bnd_s, upd2_ne (by omega), k2, nI_1, p_154, bnd_s, g_154, bnd_s, u2, if_pos ⟨rfl, rfl⟩, is1 (n := 1) (by omega), bnd_s, Nat.add_sub_cancel, h1]
        · rw [Mm m1 e73, isClaimM k1 e73 hE1 hi, bnd_s, f1 220 i (by omega) (by omega), decide_eq_true f.1, decide_eq_true f.2, if_neg (show ¬ b2i (true && true) = 0 by decide), rf_559_74, bnd_s, g_559, bnd_s, e73, s_604 (by omega), bnd_s, rf_559_78, bnd_s, g_559, bnd_s, upd2_ne (by omega), e73, s_608 (by omega), bnd_s, g_559, bnd_s, upd2_ne (by omega), upd2_ne (by omega), e73, nI_1, p_559, bnd_s, g_559, bnd_s, u2, if_pos ⟨rfl, rfl⟩, is1 (n := 1) (by omega), Nat.add_sub_cancel]
        · generalize h2 : upd2 (upd2 (upd2 m1 604 e (nrw 100 (-1))) 608 e (nrw 100 (nI i))) 559 73 (nI (e + 1)) = m2
          have f2 : ∀ c j, ¬ (c = 604 ∧ j = e) → ¬ (c = 608 ∧ j = e) → ¬ (c = 559 ∧ j = 73) → m2 c j = m1 c j := fun c j q1 q2 q3 => by rw [← h2, u2, if_neg q3, u2, if_neg q2, u2, if_neg q1]
          refine IV_book hI (fun j => by rw [f2 567 j (by omega) (by omega) (by omega), f1 567 j (by omega) (by omega)]; exact hI.1 j) ⟨e + 1, by omega, ?_, ?_, fun j hj => ?_⟩ (fun c j _ hd => ?_)
          · rw [f2 154 0 (by omega) (by omega) (by omega), ← h1, u2, if_pos ⟨rfl, rfl⟩]
          · rw [← h2, u2, if_pos ⟨rfl, rfl⟩]
          · by_cases g : j = e
            · subst g
              refine Or.inr ⟨?_, i, by omega, ?_, ?_⟩
              · rw [← h2, upd2_ne (by omega), upd2_ne (by omega), u2, if_pos ⟨rfl, rfl⟩]; rfl
              · rw [f2 220 j (by omega) (by omega) (by omega), ← h1, upd2_ne (by omega), u2, if_pos ⟨rfl, rfl⟩]; rfl
              · rw [← h2, upd2_ne (by omega), u2, if_pos ⟨rfl, rfl⟩]; rfl
            · exact BkE_c (by omega) (fun c t q1 q2 => by rw [f2 c t (by omega) (by omega) (by omega)]) (hE1 j (by omega))
          · unfold DK at hd
            rw [f2 c j (by omega) (by omega) (by omega), f1 c j (by omega) (by omega)]
      · have z : (decide (i < e) && decide (mi 220 i = -1)) = false := by
          cases q : (decide (i < e) && decide (mi 220 i = -1)) with
          | false => rfl
          | true => simp at q; exact absurd q f
        refine stay (-1) ?_ ?_
        · rw [Q, isClaimC k1 k2 hi, bnd_s, z, if_pos (show b2i false = 0 by decide)]
        · rw [Mm mi k3, isClaimM k1 k3 k4 hi, bnd_s, z, if_pos (show b2i false = 0 by decide)]
/-! sets of boards as numbers -/
theorem sh_nb : ∀ nb, nb < 9 → ishl 1 (nI nb) = nI (2 ^ nb) := by decide +kernel
theorem p_nb {nb : Nat} (h : nb ≤ 8) : 2 ^ nb ≤ 256 := Nat.pow_le_pow_right (n := 2) (by omega) h
section SET
variable {l nb no n : Nat} {Bd Ou : Nat → Nat → Bool} {ml : JM}
theorem set_c (x : Int32) (hnb : nb ≤ 8) : (∀ mi, IvB l nb no Bd Ou mi → f_Q_isSet n 0 x (K mi ml) = some (0, K mi ml) ∧ f_Mo_isSet n 559 x (K mi ml) = some (0, K mi ml)) ∨ ∃ s, 0 < s ∧ s < 2 ^ nb ∧ x = nI s ∧ ∀ mi, IvB l nb no Bd Ou mi → f_Q_isSet n 0 x (K mi ml) = some (1, K mi ml) ∧ f_Mo_isSet n 559 x (K mi ml) = some (1, K mi ml) := by
  have hp := p_nb hnb
  unfold f_Q_isSet f_Mo_isSet
  by_cases c : x ≤ 0
  · left; intro mi _; rw [o_0, o_559, if_pos c, if_pos c]; exact ⟨rfl, rfl⟩
  · rcases i_cases x with d | ⟨s, hs, d⟩
    · exact absurd (Int32.le_of_lt d) c
    · subst d
      have hs0 : 0 < s := by rw [il2 (n := 0) (by omega) hs] at c; omega
      by_cases f : 2 ^ nb ≤ s
      · left; intro mi hB
        obtain ⟨⟨b1, b2, b3⟩, ⟨b4, b5, b6, b7, b8⟩, _, _⟩ := hB
        rw [o_0, o_559, if_neg c, if_neg c, g_0, bnd_s, b5, rf_559_21, bnd_s, g_559, bnd_s, b4, a_568 (by omega), bnd_s, b6, sh_nb nb (by omega), if_pos (by rw [nI_leI (by omega) hs]; exact f)]
        exact ⟨rfl, rfl⟩
      · right
        refine ⟨s, hs0, by omega, rfl, fun mi hB => ?_⟩
        obtain ⟨⟨b1, b2, b3⟩, ⟨b4, b5, b6, b7, b8⟩, _, _⟩ := hB
        rw [o_0, o_559, if_neg c, if_neg c, g_0, bnd_s, b5, rf_559_21, bnd_s, g_559, bnd_s, b4, a_568 (by omega), bnd_s, b6, sh_nb nb (by omega), if_neg (by rw [nI_leI (by omega) hs]; exact f)]
        exact ⟨rfl, rfl⟩
theorem there_n {x : Int32} {mi : IM} (hB : IvB l nb no Bd Ou mi) (h : x < 0 ∨ ∃ k, k < 2 ^ 31 ∧ x = nI k ∧ ((1 : Int32) = 0 → nb ≤ k) ∧ ((1 : Int32) = 1 → no ≤ k)) : f_Mo_isOutlineThere n 559 x (K mi ml) = some (0, K mi ml) := by
  obtain ⟨⟨b1, b2, b3⟩, ⟨b4, b5, b6, b7, b8⟩, _, _⟩ := hB
  unfold f_Mo_isOutlineThere
  rw [o_559]
  rcases h with c | ⟨k, k1, k2, _, k3⟩
  · rw [if_pos c]
  · subst k2
    rw [if_neg (inN k1), rf_559_22, bnd_s, g_559, bnd_s, b4, a_569 (by omega), bnd_s, b8, if_pos (by rw [nI_leI (by omega) k1]; exact k3 rfl)]
theorem there_y {k : Nat} {mi : IM} (hB : IvB l nb no Bd Ou mi) (h : k < no) : f_Mo_isOutlineThere n 559 (nI k) (K mi ml) = some (1, K mi ml) := by
  obtain ⟨⟨b1, b2, b3⟩, ⟨b4, b5, b6, b7, b8⟩, _, _⟩ := hB
  unfold f_Mo_isOutlineThere
  rw [o_559, if_neg (inN (by omega)), rf_559_22, bnd_s, g_559, bnd_s, b4, a_569 (by omega), bnd_s, b8, if_neg (by rw [nI_leI (by omega) (by omega)]; omega)]
end SET
/-! judging -/
theorem bit_s : ∀ s, s < 256 → ∀ b, b < 8 → (ishr (nI s) (nI b) &&& 1) = b2i (s.testBit b) := by decide +kernel
def jdV (mi : IM) (s : Nat) (O : Nat → Bool) : Int32 :=
  if (fnd (fun b => lds mi b && !s.testBit b) 8 0).isSome = true then 1
  else if (fnd (fun b => !lds mi b && s.testBit b) 8 0).isSome = true then 2
  else if 0 < ct (agS (laS mi) 8) 256 then 3
  else if (fnd (fun q => unS (laS mi) 8 q && !O q) 256 0).isSome = true then 4
  else if (fnd (fun q => !unS (laS mi) 8 q && O q) 256 0).isSome = true then 5 else 0
theorem fnd_is {P : Nat → Bool} {c : Nat} : (fnd P c 0).isSome = true ↔ ∃ j, j < c ∧ P j = true := by
  constructor
  · intro h
    obtain ⟨k, e⟩ := Option.isSome_iff_exists.mp h
    have := fnd_some e
    exact ⟨k, by omega, this.2.2.1⟩
  · rintro ⟨j, h1, h2⟩
    cases e : fnd P c 0 with
    | some k => rfl
    | none => rw [fnd_none.mp e j (by omega) (by omega)] at h2; cases h2
section JDG
variable {n nb a s p : Nat} {mi : IM} {ml : JM} {Bd : Nat → Nat → Bool}
theorem judgeC (ha : isSh a) (ha2 : 223 ≤ a) (hs : s < 256) (hn : 8 < n) : ∃ mi', f_Table_judge n 129 a (nI s) (K mi ml) = some (jdV mi s (svS mi a), K mi' ml) ∧ F132 mi mi' := by
  unfold f_Table_judge jdV
  obtain ⟨v, v1, v2⟩ := boardsLaid_s (n := n) (mi := mi) (ml := ml) hn
  rw [o_129, v1, bnd_s]
  have ht : ∀ b, 8 ≤ b → s.testBit b = false := fun b hb => tb_out (nb := 8) hs hb
  have c1 : ((v &&& (nI s ^^^ (-1))) = 0) ↔ ¬ (fnd (fun b => lds mi b && !s.testBit b) 8 0).isSome = true := by
    rw [fnd_is]
    constructor
    · rintro h ⟨b, b1, b2⟩
      have : bt (v &&& (nI s ^^^ (-1))) b = true := by
        rw [b_and, b_xor, b_nI (by omega), b_m1 b (by omega), v2 b (by omega), decide_eq_true b1]
        simpa using b2
      rw [h, b_0] at this; cases this
    · intro h
      refine b_z fun j hj => ?_
      rw [b_and, b_xor, b_nI hj, b_m1 j hj, v2 j hj]
      by_cases q : j < 8
      · rw [decide_eq_true q]
        cases r : (lds mi j && !s.testBit j) with
        | true => exact absurd ⟨j, q, r⟩ h
        | false => simpa using r
      · rw [decide_eq_false q]; rfl
  have c2 : ((nI s &&& (v ^^^ (-1))) = 0) ↔ ¬ (fnd (fun b => !lds mi b && s.testBit b) 8 0).isSome = true := by
    rw [fnd_is]
    constructor
    · rintro h ⟨b, b1, b2⟩
      have : bt (nI s &&& (v ^^^ (-1))) b = true := by
        rw [b_and, b_xor, b_nI (by omega), b_m1 b (by omega), v2 b (by omega), decide_eq_true b1]
        simp at b2 ⊢; exact ⟨b2.2, b2.1⟩
      rw [h, b_0] at this; cases this
    · intro h
      refine b_z fun j hj => ?_
      rw [b_and, b_xor, b_nI hj, b_m1 j hj, v2 j hj]
      by_cases q : j < 8
      · rw [decide_eq_true q]
        cases r : (!lds mi j && s.testBit j) with
        | true => exact absurd ⟨j, q, r⟩ h
        | false =>
          cases x : s.testBit j with
          | false => rfl
          | true => rw [x] at r; simp at r ⊢; exact r
      · rw [ht j (by omega)]; rfl
  have id : F132 mi mi := fun _ _ _ _ _ => rfl
  by_cases d1 : (fnd (fun b => lds mi b && !s.testBit b) 8 0).isSome = true
  · rw [if_neg (fun q => c1.mp q d1), if_pos d1]
    exact ⟨mi, rfl, id⟩
  · rw [if_pos (c1.mpr d1), if_neg d1]
    by_cases d2 : (fnd (fun b => !lds mi b && s.testBit b) 8 0).isSome = true
    · rw [if_neg (fun q => c2.mp q d2), if_pos d2]
      exact ⟨mi, rfl, id⟩
    · obtain ⟨m1, a1, a2, a3⟩ := countClashes_s (n := n) (mi := mi) (ml := ml) hn
      rw [if_pos (c2.mpr d2), if_neg d2, a1, bnd_s]
      by_cases d3 : 0 < ct (agS (laS mi) 8) 256
      · rw [if_neg (by rw [il2 (n := 0) (by omega) (ct_lt31 (by omega))]; omega), if_pos d3]
        exact ⟨m1, rfl, a3⟩
      · rw [if_pos (by rw [il2 (n := 0) (by omega) (ct_lt31 (by omega))]; omega), if_neg d3, rf_129_4, bnd_s, rf_129_2, bnd_s, copy_s sh136 sh132 (by omega) hn, bnd_s, rf_129_4, bnd_s, takeAway_s sh136 ha (by omega) hn, bnd_s, rf_129_4, bnd_s, isNothing_s sh136 hn, bnd_s, rf_129_2, bnd_s, isSame_s sh132 ha hn, bnd_s]
        generalize e1 : setRw m1 136 (m1 (132 + 1)) = s1
        generalize e2 : setRw s1 136 (fun y => s1 (136 + 1) y &&& (s1 (a + 1) y ^^^ (-1))) = s2
        have g1 : svS s1 136 = cu (unS (laS mi) 8) := by rw [← e1, sv_set]; exact a2
        have g2 : svS s1 a = svS mi a := by rw [← e1, sv_ne (by omega)]; exact sv_of (a3 _ (by omega) (by omega) (by omega) (by omega))
        have g3 : svS s2 136 = cu (fun j => unS (laS mi) 8 j && !svS mi a j) := by
          rw [← e2, sv_set, adR_S]
          refine cu_ext fun j hj => ?_
          show (svS s1 136 j && !svS s1 a j) = _
          rw [g1, g2, cu_in hj]
        have g4 : svS s2 132 = cu (unS (laS mi) 8) := by rw [← e2, sv_ne (by omega), ← e1, sv_ne (by omega)]; exact a2
        have g5 : svS s2 a = svS mi a := by rw [← e2, sv_ne (by omega)]; exact g2
        have f2 : F132 mi s2 := a3.tr fun c _ _ h _ => by rw [← e2, setRw_ne h, ← e1, setRw_ne h]
        rw [g3, g4, g5]
        have n4 : noS (cu (fun j => unS (laS mi) 8 j && !svS mi a j)) = true ↔ ¬ (fnd (fun q => unS (laS mi) 8 q && !svS mi a q) 256 0).isSome = true := by
          rw [noS_t, fnd_is]
          constructor
          · rintro h ⟨j, j1, j2⟩
            have := h j j1
            rw [cu_in j1, j2] at this; cases this
          · intro h i hi
            rw [cu_in hi]
            cases r : (unS (laS mi) 8 i && !svS mi a i) with
            | false => rfl
            | true => exact absurd ⟨i, hi, r⟩ h
        by_cases d4 : (fnd (fun q => unS (laS mi) 8 q && !svS mi a q) 256 0).isSome = true
        · have : noS (cu (fun j => unS (laS mi) 8 j && !svS mi a j)) = false := by
            cases r : noS (cu (fun j => unS (laS mi) 8 j && !svS mi a j)) with
            | false => rfl
            | true => exact absurd d4 (n4.mp r)
          rw [this, if_pos (show b2i false = 0 by decide), if_pos d4]
          exact ⟨s2, rfl, f2⟩
        · rw [n4.mpr d4, if_neg (show ¬ b2i true = 0 by decide), if_neg d4]
          have hsub : ∀ j, j < 256 → unS (laS mi) 8 j = true → svS mi a j = true := by
            intro j hj hu
            cases r : svS mi a j with
            | true => rfl
            | false => exact absurd (fnd_is.mpr ⟨j, hj, by rw [hu, r]; rfl⟩) d4
          by_cases d5 : (fnd (fun q => !unS (laS mi) 8 q && svS mi a q) 256 0).isSome = true
          · have : smS (cu (unS (laS mi) 8)) (svS mi a) = false := by
              cases r : smS (cu (unS (laS mi) 8)) (svS mi a) with
              | false => rfl
              | true =>
                obtain ⟨j, j1, j2⟩ := fnd_is.mp d5
                have := smS_iff.mp r j j1
                rw [cu_in j1] at this
                rw [this] at j2; simp at j2
            rw [this, if_pos (show b2i false = 0 by decide), if_pos d5]
            exact ⟨s2, rfl, f2⟩
          · have : smS (cu (unS (laS mi) 8)) (svS mi a) = true := by
              rw [smS_iff]
              intro j hj
              rw [cu_in hj]
              cases r : unS (laS mi) 8 j with
              | true => exact (hsub j hj r).symm
              | false =>
                cases t : svS mi a j with
                | false => rfl
                | true => exact absurd (fnd_is.mpr ⟨j, hj, by rw [r, t]; rfl⟩) d5
            rw [this, if_neg (show ¬ b2i true = 0 by decide), if_neg d5]
            exact ⟨s2, rfl, f2⟩
theorem lds_602 (h : IvL nb Bd mi) {b : Nat} (hb : b < 8) : (mi 602 b = -1 ↔ lds mi b = false) := by
  rw [(h b hb).2.2]
  unfold lds
  simp
theorem judgeM (hL : IvL nb Bd mi) (hs : s < 256) (hp : p < 56) (hn : 256 < n) : f_Mo_judge_16 n (f_Mo_judge_51 n) n 559 (nI s) (nI p) 0 (K mi ml) = some (jdV mi s (pS mi p), K mi ml) := by
  have L5 : ∀ m i, i ≤ 256 → 256 - i < m → f_Mo_judge_146 n m 559 (nI p) (nI i) (K mi ml) = some (if (fnd (fun q => !unS (laS mi) 8 q && pS mi p q) (256 - i) i).isSome = true then 5 else 0, K mi ml) := by
    intro m
    induction m with
    | zero => intro i h1 h2; omega
    | succ m ih =>
      intro i h1 h2
      rw [f_Mo_judge_146]
      by_cases c : i = 256
      · subst c; rw [if_pos (by decide)]; rfl
      · have hc := ct_le (fun b => laS mi b i) 8
        have hu := (un_ct (laS mi) i 8).1
        rw [if_neg (by rw [il1 (n := 256) (by omega) (by omega)]; omega), layersAt_s hL (by omega) (by omega), bnd_s, rf_559_18, bnd_s, im2 (n := 256), ia3, a_567 (by omega), bnd_s, show 256 - i = (256 - (i + 1)) + 1 by omega, fnd_s]
        unfold f_Mo_judge_181
        by_cases d : ct (fun b => laS mi b i) 8 = 0
        · rw [if_pos (by rw [d]; rfl), hu, decide_eq_false (by omega), pS_in (by omega)]
          unfold pg
          by_cases f : mi 567 (256 * p + i) = 0
          · rw [if_pos f, if_neg (show ¬ (!false && decide (mi 567 (256 * p + i) ≠ 0)) = true by simp [f]), nI_1]; exact ih (i + 1) (by omega) (by omega)
          · rw [if_neg f, if_pos (show (!false && decide (mi 567 (256 * p + i) ≠ 0)) = true by simp [f])]; rfl
        · rw [if_neg (by rw [ie1 (n := 0) (by omega) (by omega)]; exact d), hu, decide_eq_true (by omega), if_neg (show ¬ (!true && pS mi p i) = true by simp), nI_1]; exact ih (i + 1) (by omega) (by omega)
  have L4 : ∀ m i, i ≤ 256 → 256 - i < m → f_Mo_judge_102 n (f_Mo_judge_143 n) m 559 (nI p) (nI i) (K mi ml) = some (if (fnd (fun q => unS (laS mi) 8 q && !pS mi p q) (256 - i) i).isSome = true then 4 else if (fnd (fun q => !unS (laS mi) 8 q && pS mi p q) 256 0).isSome = true then 5 else 0, K mi ml) := by
    intro m
    induction m with
    | zero => intro i h1 h2; omega
    | succ m ih =>
      intro i h1 h2
      rw [f_Mo_judge_102]
      by_cases c : i = 256
      · subst c; rw [if_pos (by decide)]; exact L5 n 0 (by omega) (by omega)
      · have hc := ct_le (fun b => laS mi b i) 8
        have hu := (un_ct (laS mi) i 8).1
        rw [if_neg (by rw [il1 (n := 256) (by omega) (by omega)]; omega), layersAt_s hL (by omega) (by omega), bnd_s, rf_559_18, bnd_s, im2 (n := 256), ia3, a_567 (by omega), bnd_s, show 256 - i = (256 - (i + 1)) + 1 by omega, fnd_s (P := fun q => unS (laS mi) 8 q && !pS mi p q)]
        unfold f_Mo_judge_137
        by_cases d : ct (fun b => laS mi b i) 8 = 0
        · rw [if_pos (show nI (ct (fun b => laS mi b i) 8) ≤ 0 by rw [d]; decide), hu, decide_eq_false (by omega), if_neg (show ¬ (false && !pS mi p i) = true by simp), nI_1]; exact ih (i + 1) (by omega) (by omega)
        · rw [if_neg (show ¬ nI (ct (fun b => laS mi b i) 8) ≤ 0 by rw [il2 (n := 0) (by omega) (by omega)]; omega), hu, decide_eq_true (by omega), pS_in (by omega)]
          unfold pg
          by_cases f : mi 567 (256 * p + i) = 0
          · rw [if_pos f, if_pos (show (true && !decide (mi 567 (256 * p + i) ≠ 0)) = true by simp [f])]; rfl
          · rw [if_neg f, if_neg (show ¬ (true && !decide (mi 567 (256 * p + i) ≠ 0)) = true by simp [f]), nI_1]; exact ih (i + 1) (by omega) (by omega)
  have L3 : f_Mo_judge_90 n 559 (nI p) (K mi ml) = some (if 0 < ct (agS (laS mi) 8) 256 then 3 else if (fnd (fun q => unS (laS mi) 8 q && !pS mi p q) 256 0).isSome = true then 4 else if (fnd (fun q => !unS (laS mi) 8 q && pS mi p q) 256 0).isSome = true then 5 else 0, K mi ml) := by
    unfold f_Mo_judge_90
    rw [clashes_s hL hn, bnd_s]
    by_cases d3 : 0 < ct (agS (laS mi) 8) 256
    · rw [if_neg (by rw [il2 (n := 0) (by omega) (ct_lt31 (by omega))]; omega), if_pos d3]
    · rw [if_pos (by rw [il2 (n := 0) (by omega) (ct_lt31 (by omega))]; omega), if_neg d3]
      exact L4 n 0 (by omega) (by omega)
  generalize hR3 : (if 0 < ct (agS (laS mi) 8) 256 then (3 : Int32) else if (fnd (fun q => unS (laS mi) 8 q && !pS mi p q) 256 0).isSome = true then 4 else if (fnd (fun q => !unS (laS mi) 8 q && pS mi p q) 256 0).isSome = true then 5 else 0) = R3 at L3
  have L2 : ∀ m b, b ≤ 8 → 8 - b < m → f_Mo_judge_54 n (f_Mo_judge_90 n) m 559 (nI s) (nI p) (nI b) (K mi ml) = some (if (fnd (fun b => !lds mi b && s.testBit b) (8 - b) b).isSome = true then 2 else R3, K mi ml) := by
    intro m
    induction m with
    | zero => intro b h1 h2; omega
    | succ m ih =>
      intro b h1 h2
      rw [f_Mo_judge_54]
      by_cases c : b = 8
      · subst c; rw [if_pos (by decide)]; exact L3
      · rw [if_neg (by rw [il1 (n := 8) (by omega) (by omega)]; omega), rf_559_71, bnd_s, a_602 (by omega), bnd_s, bit_s s hs b (by omega), show 8 - b = (8 - (b + 1)) + 1 by omega, fnd_s]
        unfold f_Mo_judge_84
        cases d : lds mi b with
        | false =>
          rw [if_pos ((lds_602 hL (by omega)).mpr d)]
          cases f : s.testBit b with
          | true => rw [if_pos (show b2i true = 1 from rfl), if_pos (show (!false && true) = true by decide)]; rfl
          | false => rw [if_neg (show ¬ b2i false = 1 by decide), if_neg (show ¬ (!false && false) = true by decide), nI_1]; exact ih (b + 1) (by omega) (by omega)
        | true =>
          rw [if_neg (fun q => by rw [(lds_602 hL (by omega)).mp q] at d; cases d), if_neg (show ¬ (!true && s.testBit b) = true by simp), nI_1]; exact ih (b + 1) (by omega) (by omega)
  have L1 : ∀ m b, b ≤ 8 → 8 - b < m → f_Mo_judge_16 n (f_Mo_judge_51 n) m 559 (nI s) (nI p) (nI b) (K mi ml) = some (if (fnd (fun b => lds mi b && !s.testBit b) (8 - b) b).isSome = true then 1 else if (fnd (fun b => !lds mi b && s.testBit b) 8 0).isSome = true then 2 else R3, K mi ml) := by
    intro m
    induction m with
    | zero => intro b h1 h2; omega
    | succ m ih =>
      intro b h1 h2
      rw [f_Mo_judge_16]
      by_cases c : b = 8
      · subst c; rw [if_pos (by decide)]; exact L2 n 0 (by omega) (by omega)
      · rw [if_neg (by rw [il1 (n := 8) (by omega) (by omega)]; omega), rf_559_71, bnd_s, a_602 (by omega), bnd_s, bit_s s hs b (by omega), show 8 - b = (8 - (b + 1)) + 1 by omega, fnd_s (P := fun b => lds mi b && !s.testBit b)]
        unfold f_Mo_judge_45
        cases d : lds mi b with
        | false =>
          rw [if_pos (show mi 602 b = -1 from (lds_602 hL (by omega)).mpr d), if_neg (show ¬ (false && !s.testBit b) = true by simp), nI_1]; exact ih (b + 1) (by omega) (by omega)
        | true =>
          rw [if_neg (show ¬ mi 602 b = -1 from fun q => by rw [(lds_602 hL (by omega)).mp q] at d; cases d)]
          cases f : s.testBit b with
          | false => rw [if_pos (show b2i false = 0 from rfl), if_pos (show (true && !false) = true by decide)]; rfl
          | true => rw [if_neg (show ¬ b2i true = 0 by decide), if_neg (show ¬ (true && !true) = true by decide), nI_1]; exact ih (b + 1) (by omega) (by omega)
  have := L1 n 0 (by omega) (by omega)
  rw [← hR3] at this
  exact this
end JDG
