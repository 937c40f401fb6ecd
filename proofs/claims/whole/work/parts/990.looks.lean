/-! ===== FILLINGS in the reference: the whole look ===== -/
def FLk (mi mi' : IM) : Prop := ∀ c j, ¬ (588 ≤ c ∧ c ≤ 595) → ¬ (599 ≤ c ∧ c ≤ 601) → ¬ (c = 559 ∧ (j = 48 ∨ (51 ≤ j ∧ j ≤ 53))) → ¬ (c = 567 ∧ 11264 ≤ j ∧ j < 12800) → mi' c j = mi c j
theorem FLk.tr {a b c : IM} (h : FLk a b) (h2 : FLk b c) : FLk a c := fun x j h3 h4 h5 h6 => by rw [h2 x j h3 h4 h5 h6, h x j h3 h4 h5 h6]
theorem ar_nb {Bd : Nat → Nat → Bool} {nb set : Nat} (hset : set < 2 ^ nb) : ∀ k, arB Bd set (nb + k) = arB Bd set nb
  | 0 => rfl
  | k + 1 => by
    show arB Bd set (nb + k) + (if set.testBit (nb + k) = true then _ else 0) = _
    rw [ar_nb hset k, tb_out hset (by omega)]; rfl
theorem level_all {n nb l set : Nat} {al : Bool} {Bd : Nat → Nat → Bool} {ml : JM} (hnb : nb ≤ 8) (hset : set < 2 ^ nb) (hn : 256 < n) : ∀ d, d < 8 → LMs n nb l set al Bd ml d := by
  intro d
  induction d with
  | zero => intro hd; exact levelM hnb hset hd hn (fun d' q => by omega)
  | succ d ih => intro hd; exact levelM hnb hset hd hn (fun d' q => by rw [show d' = d by omega]; exact ih (by omega))
section LKM
variable {n nb no l set k : Nat} {al : Bool} {Bd Ou : Nat → Nat → Bool} {ml : JM}
theorem lookM {mi : IM} (hb : B01 mi) (hB : IvB l nb no Bd Ou mi) (hR : IvR nb Bd mi) (hset : set < 2 ^ nb) (h0 : set ≠ 0) (hk : k < no) (hn : 4000000 < n) : ∃ mi', f_Mo_looks n 559 (nI k) (nI set) (b2i al) (K mi ml) = some (K mi' ml) ∧ RS set al (lok Bd al (Ou k) set) mi' ∧ IvR nb Bd mi' ∧ B01 mi' ∧ FLk mi mi' := by
  have hnb : nb ≤ 8 := hB.1.2.1
  have hno6 : no ≤ 6 := hB.1.2.2
  have hl2 : l < 2 := hB.1.1
  have hp := p_nb hnb
  obtain ⟨m1, a1, a48, aR, ab, af⟩ := readiesM (n := n) (ml := ml) hb hB hR (by omega)
  unfold f_Mo_looks
  rw [o_559, a1, bnd_s, p_559, bnd_s, p_559, bnd_s, z_559 (by decide), bnd_s]
  generalize e2 : upd2 (upd2 (upd2 m1 559 51 0) 559 52 0) 559 53 0 = m2
  have v2 : ∀ c j, ¬ (c = 559 ∧ 51 ≤ j ∧ j ≤ 53) → m2 c j = m1 c j := fun c j q => by rw [← e2, u2, if_neg (by omega), u2, if_neg (by omega), u2, if_neg (by omega)]
  have w51 : m2 559 51 = 0 := by rw [← e2, u2, if_neg (by omega), u2, if_neg (by omega), u2, if_pos ⟨rfl, rfl⟩]
  have w52 : m2 559 52 = 0 := by rw [← e2, u2, if_neg (by omega), u2, if_pos ⟨rfl, rfl⟩]
  have w53 : m2 559 53 = 0 := by rw [← e2, u2, if_pos ⟨rfl, rfl⟩]
  have f2 : FLk mi m2 := fun c j q1 q2 q3 q4 => by rw [v2 c j (by omega), af c j (by omega) (by omega) (by omega) (by omega) q4]
  have b2 : B01 m2 := fun j => by rw [v2 567 j (by omega)]; exact ab j
  have hB2 : IvB l nb no Bd Ou m2 := IvB_c (fun c j q => f2 c j (by unfold DB at q; omega) (by unfold DB at q; omega) (by unfold DB at q; omega) (by unfold DB at q; omega)) hB
  have hC2 : CST nb l Bd m2 := ⟨⟨hl2, hB2.2.1.1, hB2.2.1.2.2.1⟩, no_b hB2, fun k hk => RdK_c (fun c j q => v2 c j (by omega)) (aR k hk)⟩
  have hO : pS m2 (16 + 6 * l + k) = Ou k := (hB2.2.2.2 k hk).2.2.1
  have hOc : cu (Ou k) = Ou k := (hB2.2.2.2 k hk).2.1
  rw [g_559, bnd_s, hB2.2.1.1, im2 (n := 6), ia2 (n := 16), ia3, nm_t]
  -- what is left is the outline
  have L1 : ∀ m i s, i ≤ 256 → 256 - i < m → FMk m2 s → s 559 = m2 559 → (∀ j, j < i → s 591 j = b2i (Ou k j)) → ∃ s', f_Mo_looks_39 n (f_Mo_looks_74 n) m 559 (nI set) (b2i al) (nI (16 + 6 * l + k)) (nI 0) (nI i) (K s ml) = f_Mo_looks_74 n 559 (nI set) (b2i al) (nI (16 + 6 * l + k)) (nI 0) (K s' ml) ∧ FMk m2 s' ∧ s' 559 = m2 559 ∧ MLf (Ou k) s' := by
    intro m
    induction m with
    | zero => intro i s h1 h2; omega
    | succ m ih =>
      intro i s h1 h2 h3 h4 h5
      rw [f_Mo_looks_39]
      by_cases c : i = 256
      · subst c; rw [if_pos (by decide)]; exact ⟨s, rfl, h3, h4, h5⟩
      · have e : s 567 (256 * (16 + 6 * l + k) + i) = b2i (Ou k i) := by
          rw [h3 567 _ (by omega) (by omega) (by omega), ← hO, pS_in (by omega), ← pg01 b2]
        rw [if_neg (by rw [il1 (n := 256) (by omega) (by omega)]; omega), rf_559_49, bnd_s, rf_559_18, bnd_s, im2 (n := 256), ia3, a_567 (by omega), bnd_s, e, s_591 (by omega), bnd_s, nI_1, nrw102, b2i_1]
        refine ih (i + 1) _ (by omega) (by omega) (h3.tr fun c j q _ _ => by rw [upd2_ne (by omega)]) (by rw [upd2_ne (by omega)]; exact h4) (fun j hj => ?_)
        rw [u2]
        by_cases d : j = i
        · rw [if_pos ⟨rfl, d⟩, d]
        · rw [if_neg (fun q => d q.2)]; exact h5 j (by omega)
  obtain ⟨m3, c1, c2, c3, c4⟩ := L1 n 0 m2 (by omega) (by omega) FMk.rf rfl (fun j hj => by omega)
  rw [show f_Mo_looks_39 n (f_Mo_looks_74 n) n 559 (nI set) (b2i al) (nI (16 + 6 * l + k)) 0 0 (K m2 ml) = _ from c1]
  unfold f_Mo_looks_74
  have hC3 := CST_c hC2 c2
  -- the area of the set
  have L2 : ∀ m b, b ≤ nb → nb - b < m → f_Mo_looks_77 n (f_Mo_looks_122 n) m 559 (nI set) (b2i al) (nI (16 + 6 * l + k)) (nI (arB Bd set b)) (nI b) (K m3 ml) = f_Mo_looks_122 n 559 (nI set) (b2i al) (nI (16 + 6 * l + k)) (nI (arB Bd set nb)) (K m3 ml) := by
    intro m
    induction m with
    | zero => intro b h1 h2; omega
    | succ m ih =>
      intro b h1 h2
      rw [f_Mo_looks_77, rf_559_21, bnd_s, g_559, bnd_s, hC3.1.2.1, a_568 (by omega), bnd_s, hC3.1.2.2]
      by_cases c : b = nb
      · subst c; rw [if_pos (nI_le (Nat.le_refl _) (by omega))]
      · rw [if_neg (by rw [nI_leI (by omega) (by omega)]; omega), bit_s set (by omega) b (by omega), ← ih (b + 1) (by omega) (by omega)]
        unfold f_Mo_looks_116
        cases ht : set.testBit b with
        | true =>
          have hr := (hC3.2.2 (8 * b) (by omega)).1
          have hi : ct (imK Bd (8 * b)) 256 = ct (Bd b) 256 := by unfold imK; rw [ct_im, show 8 * b / 8 = b by omega]
          rw [if_pos (show b2i true = 1 from rfl), rf_559_45, bnd_s, im2 (n := 8), a_588 (by omega), bnd_s, hr, hi, nm_t, nI_1, ia3]
          simp only [arB, ht, if_true]
        | false =>
          rw [if_neg (show ¬ b2i false = 1 by decide), nI_1]
          simp only [arB, ht, Bool.false_eq_true, if_false, Nat.add_zero]
  have hL2 := L2 n 0 (by omega) (by omega)
  rw [show f_Mo_looks_77 n (f_Mo_looks_122 n) n 559 (nI set) (b2i al) (nI (16 + 6 * l + k)) (nI 0) 0 (K m3 ml) = _ from hL2]
  have har : arB Bd set 8 = arB Bd set nb := by
    have := ar_nb (Bd := Bd) hset (8 - nb)
    rw [show nb + (8 - nb) = 8 by omega] at this; exact this
  have hale := ar_le Bd set 8
  have hO3 : pS m3 (16 + 6 * l + k) = Ou k := by
    rw [← hO]
    exact cu_ext fun i _ => by unfold pg; rw [c2 567 _ (by omega) (by omega) (by omega)]
  unfold f_Mo_looks_122
  rw [areaOf_S (by omega) (by omega), bnd_s, hO3, ← har]
  have b3 : B01 m3 := fun j => by rw [c2 567 j (by omega) (by omega) (by omega)]; exact b2 j
  have toFL : ∀ m4, FMk m3 m4 → FLk mi m4 ∧ B01 m4 ∧ IvR nb Bd m4 := fun m4 q => by
    have q2 : FMk m2 m4 := c2.tr q
    refine ⟨f2.tr fun c j h1 h2 h3 h4 => q2 c j (by omega) h2 (by omega), fun j => by rw [q2 567 j (by omega) (by omega) (by omega)]; exact b2 j, Or.inr ⟨?_, fun k hk => ?_⟩⟩
    · rw [q2 559 48 (by omega) (by omega) (by omega), v2 559 48 (by omega)]; exact a48
    · have := (CST_c hC2 q2).2.2 k hk
      exact ⟨this.1, this.2.1, this.2.2⟩
  unfold lok
  by_cases c : arB Bd set 8 = ct (Ou k) 256
  · rw [if_pos (by rw [c]), if_pos c]
    have hOn : noS (Ou k) = false := (hB.2.2.2 k hk).1
    have hq := (lo_s hOn).1
    rw [rf_559_54, bnd_s, leastLeftM c4 (by omega), bnd_s, if_neg (by rw [hOn]; decide), show (0 : Int32) = nI 0 from rfl, s_592 (by omega), bnd_s, rf_559_55, bnd_s, s_593 (by omega), bnd_s, rf_559_56, bnd_s, s_594 (by omega), bnd_s, nrw100, nrw100, nrw100]
    generalize e4 : upd2 (upd2 (upd2 m3 592 0 (nI (lo (Ou k)))) 593 0 (nI 0)) 594 0 (-1) = m4
    have v4 : ∀ c j, ¬ (592 ≤ c ∧ c ≤ 594) → m4 c j = m3 c j := fun c j q => by rw [← e4, upd2_ne (by omega), upd2_ne (by omega), upd2_ne (by omega)]
    have f4 : FMk m3 m4 := fun c j q _ _ => v4 c j (by omega)
    have hLV : LV nb set Bd (7 + 1) (Ou k) set := ⟨hOc, hset, fun _ h => h, c.symm, ct_le _ _⟩
    have hPS : PS nb set Bd (7 - 7) (fun _ => 0) (fun _ => 0) set (fun _ => 0) 0 := ⟨fun i hi => by omega, fun i j hi => by omega, fun b hb hs => ⟨fun q => by (rw [hs] at q; cases q), fun ⟨i, hi, _⟩ => by omega⟩, by omega, fun b hb => by rw [Nat.zero_testBit]; simp⟩
    have hRS : RS set al s0 m4 := ⟨⟨by rw [v4 559 51 (by omega), c3]; exact w51, by rw [v4 559 52 (by omega), c3]; exact w52, by rw [v4 559 53 (by omega), c3]; exact w53⟩, ⟨Nat.zero_le _, Nat.le_refl _⟩, fun _ q => absurd q (by decide)⟩
    obtain ⟨m', m5, t1, t2, t3⟩ := level_all (n := n) (nb := nb) (l := l) (set := set) (al := al) (Bd := Bd) (ml := ml) hnb hset (by omega) 7 (by omega) (8 * nb) 0 (by omega) (fun _ => 0) (fun _ => 0) (Ou k) set (fun _ => 0) s0 0 m4 n h0 hLV hPS (CST_c hC3 f4) (fun i hi => by rw [v4 591 i (by omega)]; exact c4 i hi) (fun i hi => by omega) hRS (by rw [← e4, upd2_ne (by omega), upd2_ne (by omega), u2, if_pos ⟨rfl, rfl⟩]) (Or.inl ⟨rfl, by rw [← e4, upd2_ne (by omega), u2, if_pos ⟨rfl, rfl⟩]; rfl, by rw [← e4, u2, if_pos ⟨rfl, rfl⟩]⟩) (by unfold ovr s0; simp) (by show 66 * (60000 - 0) + (65 - 0) < n; omega)
    rw [show 64 - 0 = 64 from rfl, ← lvl_s] at t2 t3
    have hT := toFL m5 (f4.tr t1)
    rcases t3 with ⟨w1, w2⟩ | ⟨w1, w2, w3, w4, w5⟩
    · rw [show 7 - 7 = 0 from rfl] at w2
      exact ⟨m5, w2, t2, hT.2.2, hT.2.1, hT.1⟩
    · have hs := t2.2.1.1
      have w5 : n ≤ m' + (65 - 0) + 66 * ((lvl Bd al (7 + 1) (Ou k) set (fun _ => 0) s0).1 - 0) := w5
      obtain ⟨m0, rfl⟩ : ∃ m0, m' = m0 + 1 := ⟨m' - 1, by omega⟩
      refine ⟨m5, ?_, t2, hT.2.2, hT.2.1, hT.1⟩
      refine Eq.trans w2 ?_
      unfold exM
      rw [show nI (7 - 7) + (-1) = -1 from rfl, if_pos (by decide), f_Mo_looks_164, if_pos (by decide)]
  · rw [if_neg (by rw [nI_eq (by omega) (ct_lt31 (by omega))]; exact c), if_neg c]
    have hT := toFL m3 FMk.rf
    refine ⟨m3, rfl, ⟨⟨by rw [c3]; exact w51, by rw [c3]; exact w52, by rw [c3]; exact w53⟩, ⟨Nat.zero_le _, Nat.le_refl _⟩, fun _ q => absurd q (by decide)⟩, hT.2.2, hT.2.1, hT.1⟩
end LKM
