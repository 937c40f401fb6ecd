/-! ===== the book: verdict, first, points ===== -/
theorem ds_lc {i : Nat} (h : i < 60) : La.2.1 (160 + i) = (100, 8) := by
  rw [La_ds _ (by omega)]
  exact (by decide +kernel : ∀ i, i < 60 → DSl.getD (160 + i) (999, 0) = (100, 8)) i h
theorem lc_r {i : Nat} {mi : IM} {ml : JM} (h : i < 60) : aR 106 159 (nI i) (K mi ml) = some (160 + i) := by
  rw [aR_K ds_159 (by decide) h (ra_159 i h), Nat.one_mul]
theorem lc_a {i b : Nat} {mi : IM} {ml : JM} (h : i < 60) (hb : b < 8) : aI 100 (160 + i) (nI b) (K mi ml) = some (mi (160 + i) b) := aI_K (ds_lc h) (by decide) hb
/-! codes of LAYS and what they cover -/
theorem ba_ba (S : Nat → Bool) : baC (baC S) = baC S := by
  have h := base_in S
  have e : baC S = shC (bsX S) (bsY S) S := by
    unfold baC shC
    refine cu_ext fun i _ => ?_
    unfold baS
    rw [h]; rfl
  conv => lhs; rw [e]
  exact baC_sh h
theorem LC_inj {nb b : Nat} {Bd : Nat → Nat → Bool} {c c' : Int32} {S S' : Nat → Bool} (hno : b < nb → noS (Bd b) = false) (h : LC nb Bd b c S) (h' : LC nb Bd b c' S') : (c = c' ↔ S = S') := by
  have ne : ∀ g x y : Nat, b < nb → sOff (x : Int) (y : Int) (imS g (Bd b)) = false → ¬ shC (x : Int) (y : Int) (imS g (Bd b)) = fun _ => false := by
    intro g x y hb ho e
    have h1 := ct_sh ho
    rw [e, ct_im] at h1
    have h2 := ct_pos (hno hb)
    have h3 : ct (fun _ => false) 256 = 0 := (ct_0 256).mpr fun _ _ => rfl
    omega
  rcases h with ⟨h1, h2⟩ | ⟨hb, g, x, y, g1, g2, g3, g4, g5, g6, g7⟩
  · rcases h' with ⟨i1, i2⟩ | ⟨hb, k, u, v, k1, k2, k3, k4, k5, k6, k7⟩
    · rw [h1, h2, i1, i2]; exact ⟨fun _ => rfl, fun _ => rfl⟩
    · rw [h1, h2, k5, k7]
      exact ⟨fun e => absurd e.symm (nI_m1 (by omega)), fun e => absurd e.symm (ne k u v hb k6)⟩
  · rcases h' with ⟨i1, i2⟩ | ⟨_, k, u, v, k1, k2, k3, k4, k5, k6, k7⟩
    · rw [i1, i2, g5, g7]
      exact ⟨fun e => absurd e (nI_m1 (by omega)), fun e => absurd e (ne g x y hb g6)⟩
    · rw [g5, g7, k5, k7]
      constructor
      · intro e
        have e := (nI_eq (by omega) (by omega)).mp e
        have : g = k ∧ x = u ∧ y = v := by omega
        obtain ⟨rfl, rfl, rfl⟩ := this
        rfl
      · intro e
        have him : imS g (Bd b) = imS k (Bd b) := by
          have e1 := baC_sh g6
          have e2 := baC_sh k6
          rw [e, e2] at e1
          rw [show baC (imS g (Bd b)) = imS g (Bd b) from ba_ba _, show baC (imS k (Bd b)) = imS k (Bd b) from ba_ba _] at e1
          exact e1.symm
        have lt : ∀ p q : Nat, lsG (Bd b) q = q → imS p (Bd b) = imS q (Bd b) → ¬ p < q := by
          intro p q hq he hpq
          unfold lsG at hq
          cases ef : fnd (fun j => smS (imS q (Bd b)) (imS j (Bd b))) q 0 with
          | none =>
            have := fnd_none.mp ef p (by omega) (by omega)
            have h9 : smS (imS q (Bd b)) (imS p (Bd b)) = true := (smS_cu (im_cu _ _) (im_cu _ _)).mpr he.symm
            rw [h9] at this; cases this
          | some j =>
            rw [ef] at hq
            have hq : j = q := hq
            have := (fnd_some ef).2.1
            omega
        have hgk : g = k := by
          have a1 := lt g k k4 him
          have a2 := lt k g g4 him.symm
          omega
        subst hgk
        obtain ⟨t, t1, t2⟩ := no_ex.mp (im_no g (hno hb))
        have m1 := mn_sh g6 t1 t2
        have m2 := mn_sh k6 t1 t2
        rw [e] at m1
        have : x = u ∧ y = v := by omega
        rw [this.1, this.2]
section BKR
variable {n nb e k i j : Nat} {mi : IM} {ml : JM} {Bd : Nat → Nat → Bool}
/-- claim i is known to be right after n entries -/
def kr (mi : IM) (k i : Nat) : Bool := decide (i < k) && decide (mi 220 i = -1) && decide (mi 155 i = 0) && (fnd (fun j => decide (mi 220 j = nI i)) (k - (i + 1)) (i + 1)).isNone
def smE (mi : IM) (i j : Nat) : Bool := decide (mi 157 i = mi 157 j) && decide (mi 158 i = mi 158 j) && (fnd (fun b => decide (¬ mi (160 + i) b = mi (160 + j) b)) 8 0).isNone
def fsE (mi : IM) (k c : Nat) : Nat := (fnd (fun i => kr mi k i && smE mi i c) c 0).getD c
theorem isClaimC (he : e ≤ 60) (h1 : mi 154 0 = nI e) (hi : i < 2 ^ 31) : f_Book_isClaim n 154 (nI i) (K mi ml) = some (b2i (decide (i < e) && decide (mi 220 i = -1)), K mi ml) := by
  unfold f_Book_isClaim
  rw [o_154, if_neg (inN hi), g_154, bnd_s, h1]
  by_cases c : e ≤ i
  · rw [if_pos (by rw [nI_leI (by omega) hi]; exact c), decide_eq_false (by omega)]; rfl
  · rw [if_neg (by rw [nI_leI (by omega) hi]; exact c), rf_154_6, bnd_s, a_220 (by omega), bnd_s, decide_eq_true (by omega)]
    by_cases d : mi 220 i = -1
    · rw [if_pos d, decide_eq_true d]; rfl
    · rw [if_neg d, decide_eq_false d]; rfl
theorem pl_v (hE : BkE nb Bd mi i) : (mi 604 i = -1 ↔ ¬ mi 220 i = -1) := by
  rcases hE with ⟨h1, ⟨w, h2, h3, h4⟩, _⟩ | ⟨h1, c, h2, h3, h4⟩
  · exact ⟨fun q => absurd (h4.symm.trans q) (nI_m1 (by omega)), fun q => absurd h1 q⟩
  · exact ⟨fun _ q => absurd (h3.symm.trans q) (nI_m1 (by omega)), fun _ => h1⟩
theorem isClaimM (he : e ≤ 60) (h1 : mi 559 73 = nI e) (hE : ∀ i, i < e → BkE nb Bd mi i) (hi : i < 2 ^ 31) : f_Mo_isClaim n 559 (nI i) (K mi ml) = some (b2i (decide (i < e) && decide (mi 220 i = -1)), K mi ml) := by
  unfold f_Mo_isClaim
  rw [o_559, if_neg (inN hi), g_559, bnd_s, h1]
  by_cases c : e ≤ i
  · rw [if_pos (by rw [nI_leI (by omega) hi]; exact c), decide_eq_false (by omega)]; rfl
  · have hp := pl_v (hE i (by omega))
    rw [if_neg (by rw [nI_leI (by omega) hi]; exact c), rf_559_74, bnd_s, a_604 (by omega), bnd_s, decide_eq_true (by omega)]
    by_cases d : mi 604 i = -1
    · rw [if_pos d, decide_eq_false (hp.mp d)]; rfl
    · rw [if_neg d, decide_eq_true (by by_cases q : mi 220 i = -1; exact q; exact absurd (hp.mpr q) d)]; rfl
theorem knownC (he : e ≤ 60) (h1 : mi 154 0 = nI e) (hk : k ≤ e) (hi : i < 2 ^ 31) (hn : 60 < n) : f_Book_isKnownRight n 154 (nI i) (nI k) (K mi ml) = some (b2i (kr mi k i), K mi ml) := by
  unfold f_Book_isKnownRight kr
  rw [o_154]
  by_cases c : k ≤ i
  · rw [if_pos (by rw [nI_leI (by omega) hi]; exact c), decide_eq_false (by omega)]; rfl
  · rw [if_neg (by rw [nI_leI (by omega) hi]; exact c), isClaimC he h1 hi, bnd_s, decide_eq_true (show i < e by omega), decide_eq_true (show i < k by omega)]
    by_cases d : mi 220 i = -1
    · rw [decide_eq_true d, if_neg (show ¬ b2i (true && true) = 0 by decide), rf_154_1, bnd_s, a_155 (by omega), bnd_s]
      by_cases f : mi 155 i = 0
      · have L : ∀ m j, i + 1 ≤ j → j ≤ k → k - j < m → f_Book_isKnownRight_28 n m 154 (nI i) (nI k) (nI j) (K mi ml) = some (b2i (fnd (fun j => decide (mi 220 j = nI i)) (k - j) j).isNone, K mi ml) := by
          intro m
          induction m with
          | zero => intro j g1 g2 g3; omega
          | succ m ih =>
            intro j g1 g2 g3
            rw [f_Book_isKnownRight_28]
            by_cases q : j = k
            · subst q; rw [if_pos (nI_le (Nat.le_refl _) (by omega)), Nat.sub_self]; rfl
            · rw [if_neg (by rw [nI_leI (by omega) (by omega)]; omega), g_154, bnd_s, h1, if_neg (by rw [nI_leI (by omega) (by omega)]; omega), rf_154_6, bnd_s, a_220 (by omega), bnd_s, show k - j = (k - (j + 1)) + 1 by omega, fnd_s]
              by_cases r : mi 220 j = nI i
              · rw [if_pos r, if_pos (by simpa using r)]; rfl
              · rw [if_neg r, if_neg (by simpa using r), nI_1]; exact ih (j + 1) (by omega) (by omega) (by omega)
        rw [if_pos f, nm_t, nI_1, L n (i + 1) (by omega) (by omega) (by omega), decide_eq_true f]; rfl
      · rw [if_neg f, decide_eq_false f]; rfl
    · rw [decide_eq_false d, if_pos (show b2i (true && false) = 0 by decide)]; rfl
theorem rightM (he : e ≤ 60) (h1 : mi 559 73 = nI e) (hE : ∀ i, i < e → BkE nb Bd mi i) (hk : k ≤ e) (hi : i < 2 ^ 31) (hn : 60 < n) : f_Mo_isRight n 559 (nI i) (nI k) (K mi ml) = some (b2i (kr mi k i), K mi ml) := by
  unfold f_Mo_isRight kr
  rw [o_559, isClaimM he h1 hE hi, bnd_s]
  by_cases c : k ≤ i
  · rw [decide_eq_false (show ¬ i < k by omega)]
    by_cases c2 : b2i (decide (i < e) && decide (mi 220 i = -1)) = 0
    · rw [if_pos c2]; rfl
    · rw [if_neg c2, if_pos (by rw [nI_leI (by omega) hi]; exact c)]; rfl
  · rw [decide_eq_true (show i < e by omega), decide_eq_true (show i < k by omega)]
    by_cases d : mi 220 i = -1
    · rw [decide_eq_true d, if_neg (show ¬ b2i (true && true) = 0 by decide), if_neg (by rw [nI_leI (by omega) hi]; exact c), rf_559_77, bnd_s, a_607 (by omega), bnd_s]
      have e55 : mi 155 i = mi 607 i := by
        rcases hE i (by omega) with ⟨_, _, _, _, q, _⟩ | ⟨_, w, w1, w2, _⟩
        · exact q
        · exact absurd (w2.symm.trans d) (nI_m1 (by omega))
      rw [← e55]
      by_cases f : mi 155 i = 0
      · have L : ∀ m j, i + 1 ≤ j → j ≤ k → k - j < m → f_Mo_isRight_28 n m 559 (nI i) (nI k) (nI j) (K mi ml) = some (b2i (fnd (fun j => decide (mi 220 j = nI i)) (k - j) j).isNone, K mi ml) := by
          intro m
          induction m with
          | zero => intro j g1 g2 g3; omega
          | succ m ih =>
            intro j g1 g2 g3
            rw [f_Mo_isRight_28]
            by_cases q : j = k
            · subst q; rw [if_pos (nI_le (Nat.le_refl _) (by omega)), Nat.sub_self]; rfl
            · rw [if_neg (by rw [nI_leI (by omega) (by omega)]; omega), rf_559_74, bnd_s, a_604 (by omega), bnd_s, show k - j = (k - (j + 1)) + 1 by omega, fnd_s]
              unfold f_Mo_isRight_55
              rcases hE j (by omega) with ⟨q1, ⟨w, q2, q3, q4⟩, _⟩ | ⟨q1, w, q2, q3, q4⟩
              · rw [q4, if_neg (nI_m1 (by omega)), if_neg (by rw [q1]; simp; exact fun h => nI_m1 (by omega) h.symm), nI_1]
                exact ih (j + 1) (by omega) (by omega) (by omega)
              · rw [if_pos q1, rf_559_78, bnd_s, a_608 (by omega), bnd_s, q4, q3]
                by_cases r : nI w = nI i
                · rw [if_pos r, if_pos (by simpa using r)]; rfl
                · rw [if_neg r, if_neg (by simpa using r), nI_1]; exact ih (j + 1) (by omega) (by omega) (by omega)
        rw [if_pos f, nm_t, nI_1, L n (i + 1) (by omega) (by omega) (by omega), decide_eq_true f]; rfl
      · rw [if_neg f, decide_eq_false f]; rfl
    · rw [decide_eq_false d, if_pos (show b2i (true && false) = 0 by decide)]; rfl
theorem sameC (hi : i < 60) (hj : j < 60) (hn : 8 < n) : f_Book_areSame n 154 (nI i) (nI j) (K mi ml) = some (b2i (smE mi i j), K mi ml) := by
  unfold f_Book_areSame smE
  rw [o_154, rf_154_3, bnd_s, a_157 hi, bnd_s, bnd_s, a_157 hj, bnd_s]
  by_cases c : mi 157 i = mi 157 j
  · rw [if_pos c, rf_154_4, bnd_s, a_158 hi, bnd_s, bnd_s, a_158 hj, bnd_s, decide_eq_true c]
    by_cases d : mi 158 i = mi 158 j
    · have L : ∀ m b, b ≤ 8 → 8 - b < m → f_Book_areSame_34 n m 154 (nI i) (nI j) (nI b) (K mi ml) = some (b2i (fnd (fun b => decide (¬ mi (160 + i) b = mi (160 + j) b)) (8 - b) b).isNone, K mi ml) := by
        intro m
        induction m with
        | zero => intro b g1 g2; omega
        | succ m ih =>
          intro b g1 g2
          rw [f_Book_areSame_34]
          by_cases q : b = 8
          · subst q; rw [if_pos (by decide)]; rfl
          · rw [if_neg (by rw [il1 (n := 8) (by omega) (by omega)]; omega), rf_154_5, bnd_s, lc_r hi, bnd_s, lc_a hi (by omega), bnd_s, bnd_s, lc_r hj, bnd_s, lc_a hj (by omega), bnd_s, show 8 - b = (8 - (b + 1)) + 1 by omega, fnd_s]
            by_cases r : mi (160 + i) b = mi (160 + j) b
            · rw [if_pos r, if_neg (by simpa using r), nI_1]; exact ih (b + 1) (by omega) (by omega)
            · rw [if_neg r, if_pos (by simpa using r)]; rfl
      rw [if_pos d, decide_eq_true d]
      exact L n 0 (by omega) (by omega)
    · rw [if_neg d, decide_eq_false d]; rfl
  · rw [if_neg c, decide_eq_false c]; rfl
theorem likeM (hno : ∀ b, b < nb → noS (Bd b) = false) (hi : i < 60) (hj : j < 60) (hEi : BkE nb Bd mi i) (hEj : BkE nb Bd mi j) (ci : mi 220 i = -1) (cj : mi 220 j = -1) (hn : 2048 < n) : f_Mo_isLike n 559 (nI i) (nI j) (K mi ml) = some (b2i (smE mi i j), K mi ml) := by
  rcases hEi with ⟨_, _, i5, i6, _, i8⟩ | ⟨_, w, w1, w2, _⟩
  · rcases hEj with ⟨_, _, j5, j6, _, j8⟩ | ⟨_, w, w1, w2, _⟩
    · unfold f_Mo_isLike smE
      rw [o_559, rf_559_75, bnd_s, a_605 hi, bnd_s, bnd_s, a_605 hj, bnd_s, ← i5, ← j5]
      by_cases c : mi 157 i = mi 157 j
      · rw [if_pos c, rf_559_76, bnd_s, a_606 hi, bnd_s, bnd_s, a_606 hj, bnd_s, decide_eq_true c, ← i6, ← j6]
        by_cases d : mi 158 i = mi 158 j
        · have L : ∀ m t, t ≤ 2048 → 2048 - t < m → f_Mo_isLike_34 n m 559 (nI i) (nI j) (nI t) (K mi ml) = some (b2i (fnd (fun t => decide (¬ mi 609 (2048 * i + t) = mi 609 (2048 * j + t))) (2048 - t) t).isNone, K mi ml) := by
            intro m
            induction m with
            | zero => intro t g1 g2; omega
            | succ m ih =>
              intro t g1 g2
              rw [f_Mo_isLike_34]
              by_cases q : t = 2048
              · subst q; rw [if_pos (by decide)]; rfl
              · rw [if_neg (by rw [il1 (n := 2048) (by omega) (by omega)]; omega), rf_559_79, bnd_s, im2 (n := 2048), ia3, a_609 (by omega), bnd_s, bnd_s, im2 (n := 2048), ia3, a_609 (by omega), bnd_s, show 2048 - t = (2048 - (t + 1)) + 1 by omega, fnd_s]
                by_cases r : mi 609 (2048 * i + t) = mi 609 (2048 * j + t)
                · rw [if_pos r, if_neg (by simpa using r), nI_1]; exact ih (t + 1) (by omega) (by omega)
                · rw [if_neg r, if_pos (by simpa using r)]; rfl
          rw [if_pos d, decide_eq_true d, show (0 : Int32) = nI 0 from rfl, L n 0 (by omega) (by omega)]
          have key : (fnd (fun t => decide (¬ mi 609 (2048 * i + t) = mi 609 (2048 * j + t))) (2048 - 0) 0).isNone = (fnd (fun b => decide (¬ mi (160 + i) b = mi (160 + j) b)) 8 0).isNone := by
            rw [Bool.eq_iff_iff, Option.isNone_iff_eq_none, Option.isNone_iff_eq_none, fnd_none, fnd_none]
            constructor
            · intro h b _ hb
              obtain ⟨S, s1, s2⟩ := i8 b (by omega)
              obtain ⟨T, t1, t2⟩ := j8 b (by omega)
              have hcu : ∀ {c : Int32} {S : Nat → Bool}, LC nb Bd b c S → cu S = S := by
                intro c S q
                rcases q with ⟨_, q⟩ | ⟨_, g, x, y, _, _, _, _, _, _, q⟩
                · rw [q]; funext u; unfold cu; simp
                · rw [q]; exact cu_cu _
              have : S = T := by
                rw [← hcu s1, ← hcu t1]
                refine cu_ext fun k hk => ?_
                have := h (256 * b + k) (by omega) (by omega)
                have := s2 k hk
                have := t2 k hk
                simp at *
                rw [← Nat.add_assoc, ← Nat.add_assoc] at *
                cases hS : S k <;> cases hT : T k <;> simp_all [b2i]
              simpa using (LC_inj (hno b) s1 t1).mpr this
            · intro h t _ ht
              obtain ⟨S, s1, s2⟩ := i8 (t / 256) (by omega)
              obtain ⟨T, t1, t2⟩ := j8 (t / 256) (by omega)
              have hb := h (t / 256) (by omega) (by omega)
              have hb : mi (160 + i) (t / 256) = mi (160 + j) (t / 256) := by simpa using hb
              have hST := (LC_inj (hno _) s1 t1).mp hb
              have a1 := s2 (t % 256) (by omega)
              have a2 := t2 (t % 256) (by omega)
              rw [show 2048 * i + 256 * (t / 256) + t % 256 = 2048 * i + t by omega] at a1
              rw [show 2048 * j + 256 * (t / 256) + t % 256 = 2048 * j + t by omega] at a2
              rw [a1, a2, hST]; simp
          rw [key]; rfl
        · rw [if_neg d, decide_eq_false d]; rfl
      · rw [if_neg c, decide_eq_false c]; rfl
    · exact absurd (w2.symm.trans cj) (nI_m1 (by omega))
  · exact absurd (w2.symm.trans ci) (nI_m1 (by omega))
theorem kr_cl {mi : IM} {k i : Nat} (h : kr mi k i = true) : i < k ∧ mi 220 i = -1 := by
  unfold kr at h
  simp at h
  exact ⟨h.1.1.1, h.1.1.2⟩
theorem firstC (he : e ≤ 60) (h1 : mi 154 0 = nI e) (hk : k ≤ e) (hc : i < e) (hn : 60 < n) : f_Book_firstSame n 154 (nI i) (nI k) (K mi ml) = some (nI (fsE mi k i), K mi ml) := by
  unfold f_Book_firstSame fsE
  have L : ∀ m j, j ≤ i → i - j < m → f_Book_firstSame_2 n m 154 (nI i) (nI k) (nI j) (K mi ml) = some (nI ((fnd (fun j => kr mi k j && smE mi j i) (i - j) j).getD i), K mi ml) := by
    intro m
    induction m with
    | zero => intro j g1 g2; omega
    | succ m ih =>
      intro j g1 g2
      rw [f_Book_firstSame_2]
      by_cases q : j = i
      · subst q; rw [if_pos (nI_le (Nat.le_refl _) (by omega)), Nat.sub_self]; rfl
      · rw [if_neg (by rw [nI_leI (by omega) (by omega)]; omega), knownC he h1 hk (by omega) hn, bnd_s, show i - j = (i - (j + 1)) + 1 by omega, fnd_s, sameC (by omega) (by omega) (by omega), bnd_s]
        unfold f_Book_firstSame_27
        cases kr mi k j with
        | false => rw [if_pos (show b2i false = 0 by decide), if_neg (show ¬ (false && smE mi j i) = true by simp), nI_1]; exact ih (j + 1) (by omega) (by omega)
        | true =>
          rw [if_neg (show ¬ b2i true = 0 by decide)]
          cases smE mi j i with
          | false => rw [if_pos (show b2i false = 0 by decide), if_neg (show ¬ (true && false) = true by decide), nI_1]; exact ih (j + 1) (by omega) (by omega)
          | true => rw [if_neg (show ¬ b2i true = 0 by decide), if_pos (show (true && true) = true by decide)]; rfl
  rw [o_154]
  exact L n 0 (by omega) (by omega)
theorem firstM (he : e ≤ 60) (h1 : mi 559 73 = nI e) (hE : ∀ i, i < e → BkE nb Bd mi i) (hno : ∀ b, b < nb → noS (Bd b) = false) (hk : k ≤ e) (hc : i < e) (ci : mi 220 i = -1) (hn : 2048 < n) : f_Mo_firstOf n 559 (nI i) (nI k) (K mi ml) = some (nI (fsE mi k i), K mi ml) := by
  unfold f_Mo_firstOf fsE
  have L : ∀ m j, j ≤ i → i - j < m → f_Mo_firstOf_2 n m 559 (nI i) (nI k) (nI j) (K mi ml) = some (nI ((fnd (fun j => kr mi k j && smE mi j i) (i - j) j).getD i), K mi ml) := by
    intro m
    induction m with
    | zero => intro j g1 g2; omega
    | succ m ih =>
      intro j g1 g2
      rw [f_Mo_firstOf_2]
      by_cases q : j = i
      · subst q; rw [if_pos (nI_le (Nat.le_refl _) (by omega)), Nat.sub_self]; rfl
      · rw [if_neg (by rw [nI_leI (by omega) (by omega)]; omega), rightM he h1 hE hk (by omega) (by omega), bnd_s, show i - j = (i - (j + 1)) + 1 by omega, fnd_s]
        unfold f_Mo_firstOf_27
        cases d : kr mi k j with
        | false => rw [if_pos (show b2i false = 0 by decide), if_neg (show ¬ (false && smE mi j i) = true by simp), nI_1]; exact ih (j + 1) (by omega) (by omega)
        | true =>
          rw [if_neg (show ¬ b2i true = 0 by decide), likeM hno (by omega) (by omega) (hE j (by omega)) (hE i hc) (kr_cl d).2 ci hn, bnd_s]
          cases smE mi j i with
          | false => rw [if_pos (show b2i false = 0 by decide), if_neg (show ¬ (true && false) = true by decide), nI_1]; exact ih (j + 1) (by omega) (by omega)
          | true => rw [if_neg (show ¬ b2i true = 0 by decide), if_pos (show (true && true) = true by decide)]; rfl
  rw [o_559]
  exact L n 0 (by omega) (by omega)
theorem fs_lt : fsE mi k i ≤ i := by
  unfold fsE
  cases q : fnd (fun j => kr mi k j && smE mi j i) i 0 with
  | none => exact Nat.le_refl _
  | some t => have := (fnd_some q).2.1; show t ≤ i; omega
def ptE (mi : IM) (w k i : Nat) : Bool := kr mi k i && decide (mi 156 i = nI w) && decide (fsE mi k i = i)
theorem pointsC {w : Nat} (he : e ≤ 60) (h1 : mi 154 0 = nI e) (hk : k ≤ e) (hn : 60 < n) : f_Book_countPoints n 154 (nI w) (nI k) (K mi ml) = some (nI (ct (ptE mi w k) k), K mi ml) := by
  unfold f_Book_countPoints
  have L : ∀ m j, j ≤ k → k - j < m → f_Book_countPoints_5 n m 154 (nI w) (nI k) (nI (ct (ptE mi w k) j)) (nI j) (K mi ml) = some (nI (ct (ptE mi w k) k), K mi ml) := by
    intro m
    induction m with
    | zero => intro j g1 g2; omega
    | succ m ih =>
      intro j g1 g2
      rw [f_Book_countPoints_5]
      by_cases q : j = k
      · subst q; rw [if_pos (nI_le (Nat.le_refl _) (by omega))]
      · have no : ptE mi w k j = false → f_Book_countPoints_5 n m 154 (nI w) (nI k) (nI (ct (ptE mi w k) j)) (nI j + 1) (K mi ml) = some (nI (ct (ptE mi w k) k), K mi ml) := by
          intro r
          rw [nI_1, ← ih (j + 1) (by omega) (by omega)]
          simp only [ct, r, Bool.false_eq_true, if_false, Nat.add_zero]
        have ye : ptE mi w k j = true → f_Book_countPoints_5 n m 154 (nI w) (nI k) (nI (ct (ptE mi w k) j) + 1) (nI j + 1) (K mi ml) = some (nI (ct (ptE mi w k) k), K mi ml) := by
          intro r
          rw [nI_1, nI_1, ← ih (j + 1) (by omega) (by omega)]
          simp only [ct, r, if_true]
        rw [if_neg (by rw [nI_leI (by omega) (by omega)]; omega), knownC he h1 hk (by omega) hn, bnd_s]
        unfold f_Book_countPoints_47
        cases d : kr mi k j with
        | false => rw [if_pos (show b2i false = 0 by decide)]; exact no (by unfold ptE; rw [d]; rfl)
        | true =>
          rw [if_neg (show ¬ b2i true = 0 by decide), rf_154_2, bnd_s, a_156 (by omega), bnd_s]
          by_cases f : mi 156 j = nI w
          · have hl := fs_lt (mi := mi) (k := k) (i := j)
            rw [if_pos f, firstC he h1 hk (by omega) hn, bnd_s]
            by_cases g : fsE mi k j = j
            · rw [if_pos (by rw [g])]; exact ye (by unfold ptE; rw [d, decide_eq_true f, decide_eq_true g]; rfl)
            · rw [if_neg (by rw [nI_eq (by omega) (by omega)]; exact g)]; exact no (by unfold ptE; rw [decide_eq_false g]; simp)
          · rw [if_neg f]; exact no (by unfold ptE; rw [decide_eq_false f]; simp)
  rw [o_154]
  exact L n 0 (by omega) (by omega)
theorem pointsM {w : Nat} (hw : w < 6) (he : e ≤ 60) (h1 : mi 559 73 = nI e) (hE : ∀ i, i < e → BkE nb Bd mi i) (hno : ∀ b, b < nb → noS (Bd b) = false) (hk : k ≤ e) (hn : 2048 < n) : ∀ m j, j ≤ k → k - j < m → f_Mo_points_28 n m 559 (nI w) (nI k) (nI (ct (ptE mi w k) j)) (nI j) (K mi ml) = some (nI (ct (ptE mi w k) k), K mi ml) := by
  intro m
  induction m with
  | zero => intro j g1 g2; omega
  | succ m ih =>
    intro j g1 g2
    rw [f_Mo_points_28]
    by_cases q : j = k
    · subst q; rw [if_pos (nI_le (Nat.le_refl _) (by omega))]
    · have no : ptE mi w k j = false → f_Mo_points_28 n m 559 (nI w) (nI k) (nI (ct (ptE mi w k) j)) (nI j + 1) (K mi ml) = some (nI (ct (ptE mi w k) k), K mi ml) := by
        intro r
        rw [nI_1, ← ih (j + 1) (by omega) (by omega)]
        simp only [ct, r, Bool.false_eq_true, if_false, Nat.add_zero]
      have ye : ptE mi w k j = true → f_Mo_points_28 n m 559 (nI w) (nI k) (nI (ct (ptE mi w k) j) + 1) (nI j + 1) (K mi ml) = some (nI (ct (ptE mi w k) k), K mi ml) := by
        intro r
        rw [nI_1, nI_1, ← ih (j + 1) (by omega) (by omega)]
        simp only [ct, r, if_true]
      rw [if_neg (by rw [nI_leI (by omega) (by omega)]; omega), rf_559_74, bnd_s, a_604 (by omega), bnd_s]
      unfold f_Mo_points_70
      rcases hE j (by omega) with ⟨q1, ⟨v, q2, q3, q4⟩, _⟩ | ⟨q1, v, q2, q3, q4⟩
      · rw [q4, ← q3]
        by_cases f : mi 156 j = nI w
        · rw [if_pos f, rightM he h1 hE hk (by omega) (by omega), bnd_s]
          cases d : kr mi k j with
          | false => rw [if_pos (show b2i false = 0 by decide)]; exact no (by unfold ptE; rw [d]; rfl)
          | true =>
            have hl := fs_lt (mi := mi) (k := k) (i := j)
            rw [if_neg (show ¬ b2i true = 0 by decide), firstM he h1 hE hno hk (by omega) q1 hn, bnd_s]
            by_cases g : fsE mi k j = j
            · rw [if_pos (by rw [g])]; exact ye (by unfold ptE; rw [d, decide_eq_true f, decide_eq_true g]; rfl)
            · rw [if_neg (by rw [nI_eq (by omega) (by omega)]; exact g)]; exact no (by unfold ptE; rw [decide_eq_false g]; simp)
        · rw [if_neg f]; exact no (by unfold ptE; rw [decide_eq_false f]; simp)
      · rw [q1, if_neg (fun h => nI_m1 (by omega) h.symm)]
        refine no ?_
        unfold ptE
        cases d : kr mi k j with
        | false => rfl
        | true => exact absurd (q3.symm.trans (kr_cl d).2) (nI_m1 (by omega))
end BKR
theorem no_b {l nb no : Nat} {Bd Ou : Nat → Nat → Bool} {mi : IM} (h : IvB l nb no Bd Ou mi) : ∀ b, b < nb → noS (Bd b) = false := fun b hb => (h.2.2.1 b hb).1
theorem sq_verdict {x1 : Int32} : SQ Inv (f_Q_verdict NF 0 x1) (f_Mo_verdict NF 559 x1) := by
  refine sq_keep fun l nb no Bd Ou mi ml hI => ?_
  obtain ⟨e, k1, k2, k3, k4⟩ := hI.2.2.2.2.2.1
  unfold f_Q_verdict f_Mo_verdict
  rw [o_0, rf_0_15, bnd_s]
  rcases i_cases x1 with c | ⟨i, hi, c⟩
  · refine ⟨-1, mi, mi, ?_, ?_, Kp.rf hI.1⟩
    · unfold f_Book_isClaim; rw [o_154, if_pos c, bnd_s, if_pos rfl]
    · unfold f_Mo_isClaim; rw [o_559, o_559, if_pos c, bnd_s, if_pos rfl]
  · subst c
    rw [isClaimC k1 k2 hi, bnd_s, rf_0_15, bnd_s, rf_154_1, bnd_s]
    by_cases d : i < e ∧ mi 220 i = -1
    · rw [decide_eq_true d.1, decide_eq_true d.2, if_neg (show ¬ b2i (true && true) = 0 by decide), a_155 (by omega), bnd_s]
      refine ⟨_, mi, mi, rfl, ?_, Kp.rf hI.1⟩
      rw [o_559, isClaimM k1 k3 k4 hi, bnd_s, decide_eq_true d.1, decide_eq_true d.2, if_neg (show ¬ b2i (true && true) = 0 by decide), rf_559_77, bnd_s, a_607 (by omega), bnd_s]
      rcases k4 i d.1 with ⟨_, _, _, _, q, _⟩ | ⟨_, w, w1, w2, _⟩
      · rw [q]
      · exact absurd (w2.symm.trans d.2) (nI_m1 (by omega))
    · have z : (decide (i < e) && decide (mi 220 i = -1)) = false := by
        cases q : (decide (i < e) && decide (mi 220 i = -1)) with
        | false => rfl
        | true => simp at q; exact absurd q d
      rw [z, if_pos (show b2i false = 0 by decide)]
      exact ⟨-1, mi, mi, rfl, by rw [o_559, isClaimM k1 k3 k4 hi, bnd_s, z, if_pos (show b2i false = 0 by decide)], Kp.rf hI.1⟩
theorem sq_first {x1 x2 : Int32} : SQ Inv (f_Q_first NF 0 x1 x2) (f_Mo_first NF 559 x1 x2) := by
  refine sq_keep fun l nb no Bd Ou mi ml hI => ?_
  obtain ⟨e, k1, k2, k3, k4⟩ := hI.2.2.2.2.2.1
  have hno := no_b hI.2.2.1
  have stay : ∀ r, f_Q_first NF 0 x1 x2 (K mi ml) = some (r, K mi ml) → f_Mo_first NF 559 x1 x2 (K mi ml) = some (r, K mi ml) → ∃ r m1 m2, f_Q_first NF 0 x1 x2 (K mi ml) = some (r, K m1 ml) ∧ f_Mo_first NF 559 x1 x2 (K m1 ml) = some (r, K m2 ml) ∧ Kp mi m2 := fun r e1 e2 => ⟨r, mi, mi, e1, e2, Kp.rf hI.1⟩
  rcases i_cases x1 with c | ⟨i, hi, c⟩
  · refine stay (-1) ?_ ?_
    · unfold f_Q_first f_Book_isClaim; rw [o_0, rf_0_15, bnd_s, o_154, if_pos c, bnd_s, if_pos rfl]
    · unfold f_Mo_first f_Mo_first_21 f_Mo_isRight f_Mo_isClaim
      rw [o_559]
      by_cases d : x2 < 0
      · rw [if_pos d]
      · rw [if_neg d, g_559, bnd_s]
        by_cases f : mi 559 73 < x2
        · rw [if_pos f]
        · rw [if_neg f, o_559, o_559, if_pos c, bnd_s, if_pos rfl, bnd_s, if_pos rfl]
  · subst c
    rcases i_cases x2 with d | ⟨k, hk, d⟩
    · refine stay (-1) ?_ ?_
      · unfold f_Q_first
        rw [o_0, rf_0_15, bnd_s, isClaimC k1 k2 hi, bnd_s, if_pos d]
        by_cases q : b2i (decide (i < e) && decide (mi 220 i = -1)) = 0
        · rw [if_pos q]
        · rw [if_neg q]
      · unfold f_Mo_first f_Mo_first_21; rw [o_559, if_pos d]
    · subst d
      by_cases f : e < k
      · refine stay (-1) ?_ ?_
        · unfold f_Q_first
          rw [o_0, rf_0_15, bnd_s, isClaimC k1 k2 hi, bnd_s, if_neg (inN hk), rf_0_15, bnd_s, g_154, bnd_s, k2, if_pos (show nI e < nI k by rw [nI_ltI (by omega) hk]; exact f)]
          by_cases q : b2i (decide (i < e) && decide (mi 220 i = -1)) = 0
          · rw [if_pos q]
          · rw [if_neg q]
        · unfold f_Mo_first f_Mo_first_21; rw [o_559, if_neg (inN hk), g_559, bnd_s, k3, if_pos (by rw [nI_ltI (by omega) hk]; exact f)]
      · have Q : f_Q_first NF 0 (nI i) (nI k) (K mi ml) = (if b2i (decide (i < e) && decide (mi 220 i = -1)) = 0 then some (-1, K mi ml) else if b2i (kr mi k i) = 0 then some (-1, K mi ml) else (f_Book_firstSame NF 154 (nI i) (nI k) (K mi ml)).bind fun p12 => some (p12.1, p12.2)) := by
          unfold f_Q_first
          rw [o_0, rf_0_15, bnd_s, isClaimC k1 k2 hi, bnd_s, if_neg (inN hk), rf_0_15, bnd_s, g_154, bnd_s, k2, if_neg (show ¬ nI e < nI k by rw [nI_ltI (by omega) hk]; exact f), bnd_s, knownC k1 k2 (by omega) hi (by decide), bnd_s, rf_0_15, bnd_s]
        have M : f_Mo_first NF 559 (nI i) (nI k) (K mi ml) = (if b2i (kr mi k i) = 0 then some (-1, K mi ml) else (f_Mo_firstOf NF 559 (nI i) (nI k) (K mi ml)).bind fun p12 => some (p12.1, p12.2)) := by
          unfold f_Mo_first f_Mo_first_21
          rw [o_559, if_neg (inN hk), g_559, bnd_s, k3, if_neg (by rw [nI_ltI (by omega) hk]; exact f), rightM k1 k3 k4 (by omega) hi (by decide), bnd_s]
        cases g : kr mi k i with
        | false =>
          refine stay (-1) ?_ (by rw [M, g, if_pos (show b2i false = 0 by decide)])
          rw [Q, g, if_pos (show b2i false = 0 by decide)]
          by_cases q : b2i (decide (i < e) && decide (mi 220 i = -1)) = 0
          · rw [if_pos q]
          · rw [if_neg q]
        | true =>
          have h1 := kr_cl g
          refine stay (nI (fsE mi k i)) ?_ ?_
          · rw [Q, g, if_neg (show ¬ b2i true = 0 by decide), decide_eq_true (show i < e by omega), decide_eq_true h1.2, if_neg (show ¬ b2i (true && true) = 0 by decide), firstC k1 k2 (by omega) (by omega) (by decide), bnd_s]
          · rw [M, g, if_neg (show ¬ b2i true = 0 by decide), firstM k1 k3 k4 hno (by omega) (by omega) h1.2 (by decide), bnd_s]
theorem player_c (x : Int32) (n : Nat) : ((∀ M, f_Q_isPlayer n x M = some (0, M)) ∧ (x < 0 ∨ (¬ x < 0 ∧ 5 < x))) ∨ ∃ w, w < 6 ∧ x = nI w ∧ (∀ M, f_Q_isPlayer n x M = some (1, M)) ∧ ¬ x < 0 ∧ ¬ 5 < x := by
  unfold f_Q_isPlayer
  rcases i_cases x with c | ⟨k, hk, c⟩
  · left; exact ⟨fun M => by rw [if_pos c], Or.inl c⟩
  · subst c
    by_cases d : 6 ≤ k
    · left
      exact ⟨fun M => by rw [if_neg (inN hk), if_pos (by rw [il1 (n := 6) (by omega) hk]; exact d)], Or.inr ⟨inN hk, by rw [it1 (n := 5) (by omega) hk]; omega⟩⟩
    · right
      exact ⟨k, by omega, rfl, fun M => by rw [if_neg (inN hk), if_neg (by rw [il1 (n := 6) (by omega) hk]; exact d)], inN hk, by rw [it1 (n := 5) (by omega) hk]; omega⟩
theorem sq_points {x1 x2 : Int32} : SQ Inv (f_Q_points NF 0 x1 x2) (f_Mo_points NF 559 x1 x2) := by
  refine sq_keep fun l nb no Bd Ou mi ml hI => ?_
  obtain ⟨e, k1, k2, k3, k4⟩ := hI.2.2.2.2.2.1
  have hno := no_b hI.2.2.1
  unfold f_Q_points f_Mo_points
  rw [o_0]
  rcases player_c x1 NF with ⟨q, q2⟩ | ⟨w, w1, w2, w3, w4, w5⟩
  · rw [q, bnd_s, if_pos rfl]
    refine ⟨-1, mi, mi, rfl, ?_, Kp.rf hI.1⟩
    rw [o_559]
    rcases q2 with c | ⟨c1, c2⟩
    · rw [if_pos c]
    · rw [if_neg c1, if_pos c2]
  · rw [w3, bnd_s, if_neg n10]
    rcases i_cases x2 with d | ⟨k, hk, d⟩
    · rw [if_pos d]
      exact ⟨-1, mi, mi, rfl, by rw [o_559, if_neg w4, if_neg w5, if_pos d], Kp.rf hI.1⟩
    · subst d
      rw [if_neg (inN hk), rf_0_15, bnd_s, g_154, bnd_s, k2]
      by_cases f : k ≤ e
      · rw [if_pos (by rw [nI_leI hk (by omega)]; exact f), bnd_s, w2, pointsC k1 k2 f (by decide), bnd_s]
        refine ⟨_, mi, mi, rfl, ?_, Kp.rf hI.1⟩
        rw [o_559, ← w2, if_neg w4, if_neg w5, if_neg (inN hk), g_559, bnd_s, k3, if_pos (by rw [nI_leI hk (by omega)]; exact f), w2]
        exact pointsM w1 k1 k3 k4 hno f (by decide) NF 0 (by omega) (nf_lt (by omega))
      · rw [if_neg (by rw [nI_leI hk (by omega)]; exact f)]
        exact ⟨-1, mi, mi, rfl, by rw [o_559, if_neg w4, if_neg w5, if_neg (inN hk), g_559, bnd_s, k3, if_neg (by rw [nI_leI hk (by omega)]; exact f)], Kp.rf hI.1⟩
