/-! ===== cut, both sides ===== -/
theorem IV_cut {l nb no : Nat} {Bd Ou : Nat → Nat → Bool} {mi mi' : IM} {ml : JM} (h : IV l nb no Bd Ou mi ml) (hb : B01 mi') (hC : IvC mi') (hk : ∀ c j, St c j → ¬ DC2 c j → mi' c j = mi c j) : IV l nb no Bd Ou mi' ml := by
  obtain ⟨h1, h2, h3, h4, h5, h6, h7, h8, h9, h10⟩ := h
  refine ⟨hb, h2, IvB_c (fun c j q => hk c j (Or.inl q) ?_) h3, IvT_c (fun c j q => hk c j (Or.inr (Or.inl q)) ?_) h4, IvL_c (fun c j q => hk c j (Or.inr (Or.inr (Or.inl q))) ?_) h5, IvK_c (fun c j q => hk c j (Or.inr (Or.inr (Or.inr (Or.inl q)))) ?_) h6, IvF_c (fun c j q => hk c j (Or.inr (Or.inr (Or.inr (Or.inr (Or.inl q))))) ?_) h7, IvS_c h3.1.2.2 (fun c j q => hk c j (Or.inr (Or.inr (Or.inr (Or.inr (Or.inr (Or.inl q)))))) ?_) h8, IvR_c (fun c j q => hk c j (Or.inr (Or.inr (Or.inr (Or.inr (Or.inr (Or.inr (Or.inl q))))))) ?_) h9, hC⟩
  · unfold DB at q; unfold DC2; omega
  · unfold DT at q; unfold DC2; omega
  · unfold DL at q; unfold DC2; omega
  · unfold DK at q; unfold DC2; omega
  · unfold DF at q; unfold DC2; omega
  · unfold DS at q; unfold DC2; omega
  · unfold DR at q; unfold DC2; omega
/-- what the class's cut may change -/
def FcC (mi mi' : IM) : Prop := ∀ c, c ≠ 94 → c ≠ 96 → c ≠ 77 → c ≠ 79 → c ≠ 80 → c ≠ 98 → ¬ (99 ≤ c ∧ c < 129) → mi' c = mi c
def FcM (mi mi' : IM) : Prop := ∀ c j, c ≠ 585 → c ≠ 586 → ¬ (c = 559 ∧ (j = 43 ∨ j = 67 ∨ j = 68 ∨ j = 69 ∨ j = 70)) → ¬ (c = 567 ∧ 11264 ≤ j) → mi' c j = mi c j
theorem cut_IV {l nb no : Nat} {Bd Ou : Nat → Nat → Bool} {mi m1 m2 : IM} {ml : JM} (h : IV l nb no Bd Ou mi ml) (f1 : FcC mi m1) (f2 : FcM m1 m2) (hb : B01 m2) (hC : IvC m2) : IV l nb no Bd Ou m2 ml := by
  refine IV_cut h hb hC fun c j hs hd => ?_
  have hn : c ≠ 94 ∧ c ≠ 96 ∧ c ≠ 77 ∧ c ≠ 79 ∧ c ≠ 80 ∧ c ≠ 98 ∧ ¬ (99 ≤ c ∧ c < 129) ∧ c ≠ 585 ∧ c ≠ 586 ∧ ¬ (c = 559 ∧ (j = 43 ∨ j = 67 ∨ j = 68 ∨ j = 69 ∨ j = 70)) ∧ ¬ (c = 567 ∧ 11264 ≤ j) := by
    unfold DC2 at hd
    unfold St DB DT DL DK DF DS DR DC2 at hs
    omega
  rw [f2 c j hn.2.2.2.2.2.2.2.1 hn.2.2.2.2.2.2.2.2.1 hn.2.2.2.2.2.2.2.2.2.1 hn.2.2.2.2.2.2.2.2.2.2, f1 c hn.1 hn.2.1 hn.2.2.1 hn.2.2.2.1 hn.2.2.2.2.1 hn.2.2.2.2.2.1 hn.2.2.2.2.2.2.1]
section DCT
variable {n a a' : Nat} {mi : IM} {ml : JM} {S S' : Nat → Bool}
/-- the class: what look comes to -/
theorem lookC (hf : isFo a) (hf' : isFo a') (h1 : 223 ≤ a) (h2 : 223 ≤ a') (hI : FoI mi a 8 S) (hI' : FoI mi a' 8 S') (hs : mi a 6 = nI (ct S 256)) (hs' : mi a' 6 = nI (ct S' 256)) (hn : 256 < n) : ∃ mi', FcC mi mi' ∧ svS mi' 95 = baC S ∧ (
    (∃ g, fnd (fun g => smS (imS g S') (baC S)) 8 0 = some g ∧ f_Cutter_look n 94 a a' 77 (K mi ml) = some (1, K mi' ml) ∧ mi' 94 0 = 1 ∧ mi' 94 1 = nI g ∧ mi' 94 2 = 0 ∧ mi' 94 3 = 0 ∧ svS mi' 97 = baC S) ∨
    (fnd (fun g => smS (imS g S') (baC S)) 8 0 = none ∧ fnd (fun g => (fb (baC S) (imS g S')).isSome) 8 0 = none ∧ f_Cutter_look n 94 a a' 77 (K mi ml) = some (-2, K mi' ml) ∧ mi' 94 = mi 94) ∨
    (∃ g B A, fnd (fun g => smS (imS g S') (baC S)) 8 0 = none ∧ fnd (fun g => (fb (baC S) (imS g S')).isSome) 8 0 = some g ∧ fb (baC S) (imS g S') = some B ∧ fa (baC S) (imS g S') B = some A ∧ f_Cutter_look n 94 a a' 77 (K mi ml) = some (2, K mi' ml) ∧ RmC mi' (baC S) (imS g S') g B A)) := by
  unfold f_Cutter_look f_Form_base
  rw [o_94, rf_94_4, bnd_s, og_K hf.1, fo_1 hf, bnd_s, show aR 104 (a + 3) 0 (K mi ml) = some (a + 8 + 2 * 0) from im_ref (g := 0) hf (by omega), bnd_s, bnd_s, bnd_s, copy_s sh95 (im_sh hf (by omega)) (by omega) (by omega), bnd_s]
  generalize e1 : setRw mi 95 (mi (a + 8 + 2 * 0 + 1)) = m1
  have s1 : svS m1 95 = baC S := by
    rw [← e1, sv_set]
    exact (hI.2 0 (by omega)).1
  have f1 : FcC mi m1 := fun c _ h _ _ _ _ _ => by rw [← e1, setRw_ne h]
  have hI1 : FoI m1 a' 8 S' := FoI_c (by omega) (fun c q1 q2 => f1 c (by omega) (by omega) (by omega) (by omega) (by omega) (by omega) (by omega)) hI'
  rw [rf_94_4, bnd_s, imageThatIs_s hf' hI1 sh95 (by omega), bnd_s, s1]
  cases d : fnd (fun g => smS (imS g S') (baC S)) 8 0 with
  | some g =>
    have hg := (fnd_some d).2.1
    rw [if_neg (show ¬ oI (some g) (-2) < 0 from inN (by omega)), rf_94_5, bnd_s, rf_94_4, bnd_s, copy_s sh97 sh95 (by omega) (by omega), bnd_s]
    unfold f_Cutter_remember
    rw [o_94, p_94, bnd_s, p_94, bnd_s, p_94, bnd_s, p_94, bnd_s, bnd_s]
    refine ⟨_, fun c h1 h2 h3 h4 h5 h6 h7 => ?_, ?_, Or.inl ⟨g, rfl, rfl, ?_, ?_, ?_, ?_, ?_⟩⟩
    · rw [upd2_ne h1, upd2_ne h1, upd2_ne h1, upd2_ne h1, setRw_ne h6, f1 c h1 h2 h3 h4 h5 h6 h7]
    · rw [sv_of (mi := m1) (by rw [upd2_ne (by omega), upd2_ne (by omega), upd2_ne (by omega), upd2_ne (by omega), setRw_ne (by omega)])]; exact s1
    · rw [u2, if_neg (by omega), u2, if_neg (by omega), u2, if_neg (by omega), u2, if_pos ⟨rfl, rfl⟩]
    · rw [u2, if_neg (by omega), u2, if_neg (by omega), u2, if_pos ⟨rfl, rfl⟩]; rfl
    · rw [u2, if_neg (by omega), u2, if_pos ⟨rfl, rfl⟩]
    · rw [u2, if_pos ⟨rfl, rfl⟩]
    · rw [sv_of (mi := setRw m1 97 (m1 (95 + 1))) (by rw [upd2_ne (by omega), upd2_ne (by omega), upd2_ne (by omega), upd2_ne (by omega)]), sv_set]; exact s1
  | none =>
    rw [if_pos (show oI none (-2) < 0 by decide), gI_K hf.1, bnd_s, gI_K hf'.1, bnd_s, f1 a (by omega) (by omega) (by omega) (by omega) (by omega) (by omega) (by omega), f1 a' (by omega) (by omega) (by omega) (by omega) (by omega) (by omega) (by omega), hs, hs']
    by_cases c : ct S 256 = ct S' 256
    · rw [if_pos (by rw [c])]
      obtain ⟨m2, b1, b2⟩ := lookG (n := n) (ml := ml) hf' (by omega) hn n 0 m1 (by omega) (by omega) s1 hI1
      have f2 : FcC mi m2 := fun c h1 h2 h3 h4 h5 h6 h7 => by rw [b1 c h1 h3 h4 h5 h6 h7, f1 c h1 h2 h3 h4 h5 h6 h7]
      have s2 : svS m2 95 = baC S := by rw [sv_of (b1 96 (by omega) (by omega) (by omega) (by omega) (by omega) (by omega))]; exact s1
      rw [show 8 - 0 = 8 from rfl, fg_same] at b2
      rcases b2 with ⟨c1, c2, c3⟩ | ⟨g, B, A, c1, c2, c3, c4, c5⟩
      · exact ⟨m2, f2, s2, Or.inr (Or.inl ⟨rfl, c1, c2, by rw [c3, ← e1, setRw_ne (by omega)]⟩)⟩
      · exact ⟨m2, f2, s2, Or.inr (Or.inr ⟨g, B, A, rfl, c1, c2, c3, c4, c5⟩)⟩
    · rw [if_neg (by rw [nI_eq (ct_lt31 (by omega)) (ct_lt31 (by omega))]; exact c)]
      refine ⟨m1, f1, s1, Or.inr (Or.inl ⟨rfl, fnd_none.mpr fun g _ _ => ?_, rfl, by rw [← e1, setRw_ne (by omega)]⟩)⟩
      cases q : (fb (baC S) (imS g S')).isSome with
      | false => rfl
      | true =>
        have : ct (baC S) 256 = ct (imS g S') 256 := fb_ct (cu_cu _) q
        rw [ct_ba, ct_im] at this
        exact absurd this c
end DCT
theorem sq_cut {x1 x2 : Int32} : SQ Inv (f_Q_cut NF 0 x1 x2) (f_Mo_cut_2 NF 559 x1 x2) := by
  rintro M ⟨mi, ml, rfl, l, nb, no, Bd, Ou, hI⟩
  unfold f_Q_cut f_Mo_cut_2 f_Cutter_forget
  rw [o_0, rf_0_13, bnd_s, o_94, p_94, bnd_s, bnd_s]
  generalize e0 : upd2 mi 94 0 0 = m0
  have f0 : FcC mi m0 := fun c h _ _ _ _ _ _ => by rw [← e0, upd2_ne h]
  have hb0 : B01 m0 := fun j => by rw [f0 567 (by omega) (by omega) (by omega) (by omega) (by omega) (by omega) (by omega)]; exact hI.1 j
  have hB0 : IvB l nb no Bd Ou m0 := IvB_c (fun c j q => by rw [f0 c (by unfold DB at q; omega) (by unfold DB at q; omega) (by unfold DB at q; omega) (by unfold DB at q; omega) (by unfold DB at q; omega) (by unfold DB at q; omega) (by unfold DB at q; omega)]) hI.2.2.1
  have h940 : m0 94 0 = 0 := by rw [← e0, u2, if_pos ⟨rfl, rfl⟩]
  -- the reference at the start
  have M0 : ∀ m1, IvB l nb no Bd Ou m1 → IvB l nb no Bd Ou (upd2 m1 559 67 0) := fun m1 h => IvB_c (fun c j q => by rw [u2, if_neg (by unfold DB at q; omega)]) h
  have FM0 : ∀ m1, FcM m1 (upd2 m1 559 67 0) := fun m1 c j _ _ h _ => by rw [u2, if_neg (by omega)]
  have BM0 : ∀ m1, B01 m1 → B01 (upd2 m1 559 67 0) := fun m1 h j => by rw [upd2_ne (by omega)]; exact h j
  have none2 : ∀ (m1 m2 : IM), FcC mi m1 → FcM m1 m2 → B01 m2 → m2 94 0 = 0 → m2 559 67 = 0 → IV l nb no Bd Ou m2 ml := fun m1 m2 q1 q2 q3 q4 q5 => cut_IV hI q1 q2 q3 (Or.inl ⟨q4, q5⟩)
  have z67 : ∀ m1 : IM, upd2 m1 559 67 0 559 67 = 0 := fun m1 => by rw [u2, if_pos ⟨rfl, rfl⟩]
  rcases form_of (n := NF) (ml := ml) (x1 := 1) (x2 := x1) (Or.inr rfl) hB0 with ⟨e1, e2, _⟩ | ⟨a, p, k, S, e00, e1, e2, e3, e4, e5, _, e6⟩
  · rw [e1, bnd_s]
    have out : ∀ o, f_Q_formOf NF 0 1 x2 (K m0 ml) = some (o, K m0 ml) → (∃ v, f_Mo_shape NF 559 1 x2 (K (upd2 m0 559 67 0) ml) = some (v, K (upd2 m0 559 67 0) ml)) → _ := fun o h1 ⟨v, h2⟩ => (show ∃ (r : Int32) (M1 M2 : MM), ((f_Q_formOf NF 0 1 x2 (K m0 ml)).bind fun p4 => ob none (some ((-1), p4.2)) fun r5 => ob p4.1 (some ((-1), p4.2)) fun r6 => (gR 11 13 0 p4.2).bind fun v7 => (gR 11 11 0 p4.2).bind fun v8 => (f_Cutter_look NF v7 r5 r6 v8 p4.2).bind fun p9 => some (p9.1, p9.2)) = some (r, M1) ∧ f_Mo_cut_2 NF 559 x1 x2 M1 = some (r, M2) ∧ Inv M2 from by
      refine ⟨-1, K m0 ml, K (upd2 m0 559 67 0) ml, by rw [h1, bnd_s]; rfl, ?_, _, ml, rfl, l, nb, no, Bd, Ou, none2 m0 _ f0 (FM0 m0) (BM0 m0 hb0) (by rw [upd2_ne (by omega)]; exact h940) (z67 m0)⟩
      unfold f_Mo_cut_2
      rw [o_559, p_559, bnd_s, e2 _ (M0 m0 hB0), bnd_s, h2, bnd_s, if_pos rfl])
    rcases form_of (n := NF) (ml := ml) (x1 := 1) (x2 := x2) (Or.inr rfl) hB0 with ⟨d1, d2, _⟩ | ⟨a', p', k', S', d0, d1, d2, d3, d4, d5, _, d6⟩
    · exact out none d1 ⟨_, d2 _ (M0 m0 hB0)⟩
    · exact out _ d4 ⟨_, (d6 _ (M0 m0 hB0)).1⟩
  · rw [e4, bnd_s]
    rcases form_of (n := NF) (ml := ml) (x1 := 1) (x2 := x2) (Or.inr rfl) hB0 with ⟨d1, d2, _⟩ | ⟨a', p', k', S', d0, d1, d2, d3, d4, d5, _, d6⟩
    · rw [d1, bnd_s]
      refine ⟨-1, K m0 ml, K (upd2 m0 559 67 0) ml, rfl, ?_, _, ml, rfl, l, nb, no, Bd, Ou, none2 m0 _ f0 (FM0 m0) (BM0 m0 hb0) (by rw [upd2_ne (by omega)]; exact h940) (z67 m0)⟩
      rw [o_559, p_559, bnd_s, (e6 _ (M0 m0 hB0)).1, bnd_s, d2 _ (M0 m0 hB0), bnd_s, if_neg (nI_m1 (by omega)), if_pos rfl]
    · rw [d4, bnd_s]
      obtain ⟨m1, a1, a2, a3⟩ := lookC (n := NF) (mi := m0) (ml := ml) e1 d1 e2 d2 e5.2.2.2.1 d5.2.2.2.1 e5.2.2.2.2 d5.2.2.2.2 (by decide)
      have f1 : FcC mi m1 := fun c h1 h2 h3 h4 h5 h6 h7 => by rw [a1 c h1 h2 h3 h4 h5 h6 h7, f0 c h1 h2 h3 h4 h5 h6 h7]
      have hb1 : B01 m1 := fun j => by rw [f1 567 (by omega) (by omega) (by omega) (by omega) (by omega) (by omega) (by omega)]; exact hI.1 j
      have hB1 : IvB l nb no Bd Ou m1 := IvB_c (fun c j q => by rw [f1 c (by unfold DB at q; omega) (by unfold DB at q; omega) (by unfold DB at q; omega) (by unfold DB at q; omega) (by unfold DB at q; omega) (by unfold DB at q; omega) (by unfold DB at q; omega)]) hI.2.2.1
      -- the reference
      generalize r0 : upd2 m1 559 67 0 = n0
      have hB2 : IvB l nb no Bd Ou n0 := by rw [← r0]; exact M0 m1 hB1
      have hbn0 : B01 n0 := by rw [← r0]; exact BM0 m1 hb1
      have hpS : pS n0 p = S := (e6 n0 hB2).2.2.2.1
      have hpS' : pS n0 p' = S' := (d6 n0 hB2).2.2.2.1
      generalize r1 : setPg n0 50 (baC S) = n1
      have hbn1 : B01 n1 := by rw [← r1]; exact B01_set hbn0
      have p50 : pS n1 50 = baC S := by rw [← r1, pS_set]; exact cu_cu _
      have fn1 : FcM m1 n1 := fun c j h1 h2 h3 h4 => by rw [← r1, setPg_out (by omega), ← r0, u2, if_neg (by omega)]
      have z1 : n1 559 67 = 0 := by rw [← r1, setPg_out (by omega), ← r0]; exact z67 m1
      have q1 : pS n1 p = S := by rw [← r1, pS_ne (by omega)]; exact hpS
      have q2 : pS n1 p' = S' := by rw [← r1, pS_ne (by omega)]; exact hpS'
      obtain ⟨n2, b1, b2, b3⟩ := alikeBy_S (n := NF) (p := p') (q := p) (mi := n1) (ml := ml) hbn1 (by omega) (by omega) (by simp; omega) (by omega) (by decide)
      rw [q1, q2] at b1
      have fn2 : FcM m1 n2 := fun c j h1 h2 h3 h4 => by rw [b2 c j (by intro q hq; simp at hq; omega)]; exact fn1 c j h1 h2 h3 h4
      have z2 : n2 559 67 = 0 := by rw [b2 559 67 (by simp)]; exact z1
      have p50' : pS n2 50 = baC S := by rw [b2.pS (by simp)]; exact p50
      have q2' : pS n2 p' = S' := by rw [b2.pS (by simp; omega)]; exact q2
      have Mm : f_Mo_cut_2 NF 559 x1 x2 (K m1 ml) = (if oI (alG S' S) (-1) = (-1) then f_Mo_cut_2_95 NF (f_Mo_cut_2_148 NF) NF 559 (nI p') 0 (K n2 ml) else (f_Mo_copies NF 559 50 51 (K n2 ml)).bind fun M19 => (f_Mo_clears NF 559 52 M19).bind fun M20 => (pI 12 68 559 (oI (alG S' S) (-1)) M20).bind fun M21 => (pI 12 69 559 0 M21).bind fun M22 => (pI 12 70 559 0 M22).bind fun M23 => (pI 12 67 559 1 M23).bind fun M24 => some (1, M24)) := by
        unfold f_Mo_cut_2
        rw [o_559, p_559, bnd_s, r0, (e6 n0 hB2).1, bnd_s, (d6 n0 hB2).1, bnd_s, if_neg (show ¬ nI p = -1 from nI_m1 (by omega)), if_neg (show ¬ nI p' = -1 from nI_m1 (by omega)), show (50 : Int32) = nI 50 from rfl, bases_S (by omega) (by omega) (by omega) (by decide), bnd_s, hpS, r1, b1, bnd_s]
      have Qq : ∀ v, f_Cutter_look NF 94 a a' 77 (K m0 ml) = some (v, K m1 ml) → (ob (some a) (some ((-1), K m0 ml)) fun r5 => ob (some a') (some ((-1), K m0 ml)) fun r6 => (gR 11 13 0 (K m0 ml)).bind fun v7 => (gR 11 11 0 (K m0 ml)).bind fun v8 => (f_Cutter_look NF v7 r5 r6 v8 (K m0 ml)).bind fun p9 => some (p9.1, p9.2)) = some (v, K m1 ml) := fun v hv => by
        show ((gR 11 13 0 (K m0 ml)).bind fun v7 => (gR 11 11 0 (K m0 ml)).bind fun v8 => (f_Cutter_look NF v7 a a' v8 (K m0 ml)).bind fun p9 => some (p9.1, p9.2)) = _
        rw [rf_0_13, bnd_s, rf_0_11, bnd_s, hv, bnd_s]
      rcases a3 with ⟨g, g1, g2, g3, g4, g5, g6, g7⟩ | ⟨g0, g1, g2, g3⟩ | ⟨g, B, A, g0, g1, g2, g3, g4, g5⟩
      · have g1' : alG S' S = some g := g1
        have hg := (fnd_some g1).2.1
        refine ⟨1, K m1 ml, ?_, Qq 1 g2, ?_⟩
        · exact K (upd2 (upd2 (upd2 (upd2 (setPg (setPg n2 51 (baC S)) 52 (fun _ => false)) 559 68 (nI g)) 559 69 0) 559 70 0) 559 67 1) ml
        · constructor
          · refine Mm.trans ?_
            rw [g1', if_neg (show ¬ oI (some g) (-1) = -1 from nI_m1 (by omega)), show (50 : Int32) = nI 50 from rfl, show (51 : Int32) = nI 51 from rfl, show (52 : Int32) = nI 52 from rfl, copies_S b3 (by omega) (by omega) (by omega) (by decide), bnd_s, p50', clears_s (by omega) (by decide), bnd_s, p_559, bnd_s, p_559, bnd_s, p_559, bnd_s, p_559, bnd_s]; rfl
          · generalize r9 : upd2 (upd2 (upd2 (upd2 (setPg (setPg n2 51 (baC S)) 52 (fun _ => false)) 559 68 (nI g)) 559 69 0) 559 70 0) 559 67 1 = n9
            have f9 : ∀ c j, ¬ (c = 559 ∧ (j = 67 ∨ j = 68 ∨ j = 69 ∨ j = 70)) → ¬ (c = 567 ∧ 13056 ≤ j) → n9 c j = n2 c j := fun c j h1 h2 => by
              rw [← r9, u2, if_neg (by omega), u2, if_neg (by omega), u2, if_neg (by omega), u2, if_neg (by omega), setPg_out (by omega), setPg_out (by omega)]
            have hb9 : B01 n9 := fun j => by
              rw [← r9, upd2_ne (by omega), upd2_ne (by omega), upd2_ne (by omega), upd2_ne (by omega)]
              exact B01_set (B01_set b3) j
            have c94 : n9 94 = m1 94 := by
              funext j
              rw [f9 94 j (by omega) (by omega), fn2 94 j (by omega) (by omega) (by omega) (by omega)]
            refine ⟨n9, ml, rfl, l, nb, no, Bd, Ou, cut_IV hI f1 (fun c j h1 h2 h3 h4 => by rw [f9 c j (by omega) (by omega)]; exact fn2 c j h1 h2 h3 h4) hb9 (Or.inr ⟨?_, ?_, ?_, ?_, ?_, ?_, ?_⟩)⟩
            · rw [c94, g3]; decide
            · rw [c94, g3, ← r9, u2, if_pos ⟨rfl, rfl⟩]
            · rw [c94, g4, ← r9, u2, if_neg (by omega), u2, if_neg (by omega), u2, if_neg (by omega), u2, if_pos ⟨rfl, rfl⟩]
            · rw [c94, g5, ← r9, u2, if_neg (by omega), u2, if_neg (by omega), u2, if_pos ⟨rfl, rfl⟩]
            · rw [c94, g6, ← r9, u2, if_neg (by omega), u2, if_pos ⟨rfl, rfl⟩]
            · have : pS n9 50 = pS n2 50 := cu_ext fun i hi => by unfold pg; rw [f9 567 _ (by omega) (by omega)]
              rw [this, p50', ← a2]
              exact sv_of (by funext j; rw [f9 _ j (by omega) (by omega), fn2 _ j (by omega) (by omega) (by omega) (by omega)])
            · have : pS n9 51 = baC S := by
                rw [show baC S = cu (baC S) from (cu_cu _).symm]
                refine cu_ext fun i hi => ?_
                unfold pg
                rw [← r9, upd2_ne (by omega), upd2_ne (by omega), upd2_ne (by omega), upd2_ne (by omega), setPg_out (by omega), setPg_in hi, b2i_d]
              rw [this, ← g7]
              exact sv_of (by funext j; rw [f9 _ j (by omega) (by omega), fn2 _ j (by omega) (by omega) (by omega) (by omega)])
      · have g0' : alG S' S = none := g0
        obtain ⟨n3, c1, c2, c3⟩ := cutG (n := NF) (p := p') (ml := ml) (W := baC S) (S := S') (by omega) (by decide) NF 0 n2 (by omega) (by decide) b3 p50' q2'
        have fn3 : FcM m1 n3 := fun c j h1 h2 h3 h4 => by rw [c1 c j h1 h2 h3 (by omega) (by omega)]; exact fn2 c j h1 h2 h3 h4
        rcases c3 with ⟨t1, t2, t3⟩ | ⟨g', B', A', t1, t2, t3, t4, t5⟩
        · refine ⟨-2, K m1 ml, K n3 ml, Qq (-2) g2, Mm.trans ?_, n3, ml, rfl, l, nb, no, Bd, Ou, none2 m1 n3 f1 fn3 c2 ?_ (by rw [t3]; exact z2)⟩
          · rw [g0', if_pos (show oI none (-1) = -1 from rfl)]; exact t2
          · rw [fn3 94 0 (by omega) (by omega) (by omega) (by omega), g3]; exact h940
        · have t1 : fnd (fun g => (fb (baC S) (imS g S')).isSome) 8 0 = some g' := t1
          rw [g1] at t1; cases t1
      · have g0' : alG S' S = none := g0
        obtain ⟨n3, c1, c2, c3⟩ := cutG (n := NF) (p := p') (ml := ml) (W := baC S) (S := S') (by omega) (by decide) NF 0 n2 (by omega) (by decide) b3 p50' q2'
        have fn3 : FcM m1 n3 := fun c j h1 h2 h3 h4 => by rw [c1 c j h1 h2 h3 (by omega) (by omega)]; exact fn2 c j h1 h2 h3 h4
        rcases c3 with ⟨t1, t2, t3⟩ | ⟨g', B', A', t1, t2, t3, t4, t5⟩
        · have t1 : fnd (fun g => (fb (baC S) (imS g S')).isSome) 8 0 = none := t1
          rw [g1] at t1; cases t1
        · have t1 : fnd (fun g => (fb (baC S) (imS g S')).isSome) 8 0 = some g' := t1
          rw [g1] at t1
          cases t1
          rw [g2] at t2
          cases t2
          rw [g3] at t3
          cases t3
          have c94 : n3 94 = m1 94 := by
            funext j
            rw [fn3 94 j (by omega) (by omega) (by omega) (by omega)]
          obtain ⟨u1, u2', u3, u4, u5⟩ := g5
          obtain ⟨v1, v2, v3, v4, v5⟩ := t5
          refine ⟨2, K m1 ml, K n3 ml, Qq 2 g4, Mm.trans ?_, n3, ml, rfl, l, nb, no, Bd, Ou, cut_IV hI f1 fn3 c2 (Or.inr ⟨?_, ?_, ?_, ?_, ?_, ?_, ?_⟩)⟩
          · rw [g0', if_pos (show oI none (-1) = -1 from rfl)]; exact t4
          · rw [c94, u1]; decide
          · rw [c94, u1, v1]
          · rw [c94, u2', v2]
          · rw [c94, u3, v3]
          · rw [c94, u4, v4]
          · rw [c1.pS (by omega), p50', ← a2]
            exact sv_of (by funext j; rw [fn3 _ j (by omega) (by omega) (by omega) (by omega)])
          · rw [v5, ← u5]
            exact sv_of (by funext j; rw [fn3 _ j (by omega) (by omega) (by omega) (by omega)])
