/-! ===== the reference's work: pages and cells ===== -/
def pgs (k : Nat → Nat) (N : List Nat) (sd j : Nat) : Nat := if isO k (N.getD j 0) = true then 16 + 6 * sd + cnO k true (N.take j) else 8 * sd + cnO k false (N.take j)
section PGS
variable {k : Nat → Nat} {N : List Nat} {sd i j : Nat} {o : Bool}
theorem cnO_s (hj : j < N.length) : cnO k o (N.take (j + 1)) = cnO k o (N.take j) + if isO k (N.getD j 0) = o then 1 else 0 := by
  rw [show N.take (j + 1) = N.take j ++ [N.getD j 0] by rw [List.take_succ]; simp [List.getD, List.getElem?_eq_getElem hj], cnO_app]
theorem cnO_m : ∀ d, j + d ≤ N.length → cnO k o (N.take j) ≤ cnO k o (N.take (j + d))
  | 0, _ => Nat.le_refl _
  | d + 1, h => by
    have := cnO_m d (show j + d ≤ N.length by omega)
    rw [show j + (d + 1) = j + d + 1 by omega, cnO_s (by omega)]
    omega
theorem cnO_lt (hij : i < j) (hj : j ≤ N.length) (ho : isO k (N.getD i 0) = o) : cnO k o (N.take i) + 1 ≤ cnO k o (N.take j) := by
  have h1 := cnO_s (k := k) (o := o) (N := N) (j := i) (by omega)
  rw [if_pos ho] at h1
  have h2 := cnO_m (k := k) (o := o) (N := N) (j := i + 1) (j - (i + 1)) (by omega)
  rw [show i + 1 + (j - (i + 1)) = j by omega] at h2
  omega
def inSd (sd q : Nat) : Prop := (8 * sd ≤ q ∧ q < 8 * sd + 8) ∨ (16 + 6 * sd ≤ q ∧ q < 22 + 6 * sd)
theorem pgs_b (hj : j < N.length) (h8 : cnO k false N ≤ 8) (h6 : cnO k true N ≤ 6) : inSd sd (pgs k N sd j) := by
  unfold pgs inSd
  by_cases c : isO k (N.getD j 0) = true
  · have := cnO_lt hj (Nat.le_refl _) c
    rw [List.take_length] at this
    rw [if_pos c]; omega
  · have := cnO_lt (o := false) hj (Nat.le_refl _) (by simpa using c)
    rw [List.take_length] at this
    rw [if_neg c]; omega
theorem pgs_ne (hij : i < j) (hj : j < N.length) (h8 : cnO k false N ≤ 8) (h6 : cnO k true N ≤ 6) (hsd : sd < 2) : pgs k N sd i ≠ pgs k N sd j := by
  have b1 : ∀ i, i < N.length → ¬ isO k (N.getD i 0) = true → cnO k false (N.take i) + 1 ≤ 8 := fun i hi c => by
    have := cnO_lt (o := false) hi (Nat.le_refl _) (by simpa using c)
    rw [List.take_length] at this
    omega
  unfold pgs
  by_cases c : isO k (N.getD i 0) = true
  · have h1 := cnO_lt hij (by omega) c
    rw [if_pos c]
    by_cases d : isO k (N.getD j 0) = true
    · rw [if_pos d]; omega
    · rw [if_neg d]; have := b1 j hj d; omega
  · have h1 := cnO_lt (k := k) (N := N) (o := false) hij (by omega) (by simpa using c)
    rw [if_neg c]
    by_cases d : isO k (N.getD j 0) = true
    · rw [if_pos d]; have := b1 i (by omega) c; omega
    · rw [if_neg d]; omega
end PGS
section LAY
variable {n z p ci o a X Y W H sd : Nat} {mi : IM} {ml : JM} {T : Nat → Nat} {N : List Nat} {G : List (List Cd)}
theorem pageM {j : Nat} (hT : ThM T z N G mi) (h20 : mi 559 20 = nI sd) (hj : j < N.length) (hl : N.length ≤ 14) : f_Mo_pageOf n 559 (nI j) (K mi ml) = some (nI (pgs (kd T z) N sd j), K mi ml) := by
  obtain ⟨h1, h2, h3, _⟩ := hT j hj
  unfold f_Mo_pageOf pgs
  rw [o_559, rf_559_26, bnd_s, a_572 (by omega), bnd_s, h2]
  cases e : isO (kd T z) (N.getD j 0) with
  | true =>
    rw [e] at h3
    rw [if_neg (show ¬ b2i true = 0 by decide), g_559, bnd_s, h20, rf_559_27, bnd_s, a_573 (by omega), bnd_s, h3, im2 (n := 6), ia2 (n := 16), ia3, if_pos rfl]
  | false =>
    rw [e] at h3
    rw [if_pos (show b2i false = 0 from rfl), g_559, bnd_s, h20, rf_559_27, bnd_s, a_573 (by omega), bnd_s, h3, im2 (n := 8), ia3, if_neg (by decide)]
theorem pS_u {s : IM} {q i : Nat} {b : Bool} (hi : i < 256) (hq : q < 256) : pS (upd2 s 567 (256 * p + q) (b2i b)) p i = if i = q then b else pS s p i := by
  rw [pS_in hi, pS_in hi]
  unfold pg
  rw [u2]
  by_cases c : i = q
  · rw [if_pos ⟨rfl, by omega⟩, if_pos c]; cases b <;> decide
  · rw [if_neg (by omega), if_neg c]
theorem Fr_u {s : IM} {q : Nat} {v : Int32} (hq : q < 256) : Fr [p] s (upd2 s 567 (256 * p + q) v) := fun c j h => by
  have := h p (by simp)
  rw [u2, if_neg (by omega)]
theorem B01_u {s : IM} {q : Nat} {b : Bool} (h : B01 s) : B01 (upd2 s 567 q (b2i b)) := fun j => by
  rw [u2]
  by_cases c : (567 : Nat) = 567 ∧ j = q
  · rw [if_pos c]; cases b
    · exact Or.inl rfl
    · exact Or.inr rfl
  · rw [if_neg c]; exact h j
def dC (o a d : Nat) : Bool := decide (o < 3 ∨ d = a ∨ (o = 3 ∧ d = (a + 1) % 4))
theorem lays119 {x y : Nat} {w h : Int32} {k9 : Nat → Int32 → Int32 → Int32 → Int32 → Int32 → Int32 → MM → Option MM} (hp : p < 56) (hci : ci < 500) (hx : x < 8) (hy : y < 8) (ho : o ≤ 4) (ha : 3 ≤ o → a ≤ 8) : ∀ m d s, d ≤ 4 → 4 - d < m → s 575 ci = nI o → s 578 ci = nI a → B01 s → ∃ s', f_Mo_lays_119 n k9 m 559 (nI ci) (nI p) w h (nI y) (nI x) (nI d) (K s ml) = k9 559 (nI ci) (nI p) w h (nI y) (nI x) (K s' ml) ∧ (∀ i, i < 256 → pS s' p i = (pS s p i || decide (i / 4 = 8 * y + x ∧ d ≤ i % 4 ∧ dC o a (i % 4) = true))) ∧ Fr [p] s s' ∧ B01 s' := by
  intro m
  induction m with
  | zero => intro d s h1 h2; omega
  | succ m ih =>
    intro d s h1 h2 h5 h8 hB
    rw [f_Mo_lays_119]
    by_cases e : d = 4
    · rw [if_pos (show (4 : Int32) ≤ nI d by rw [e]; decide)]
      refine ⟨s, rfl, fun i hi => ?_, Fr.rf, hB⟩
      rw [decide_eq_false (by omega), Bool.or_false]
    · rw [if_neg (show ¬ (4 : Int32) ≤ nI d by rw [il1 (n := 4) (by omega) (by omega)]; omega), rf_559_30, bnd_s, a_575 hci, bnd_s, h5]
      have yes : dC o a d = true → ∃ s', f_Mo_lays_171 n (f_Mo_lays_119 n k9 m) 559 (nI ci) (nI p) w h (nI y) (nI x) (nI d) (K s ml) = k9 559 (nI ci) (nI p) w h (nI y) (nI x) (K s' ml) ∧ (∀ i, i < 256 → pS s' p i = (pS s p i || decide (i / 4 = 8 * y + x ∧ d ≤ i % 4 ∧ dC o a (i % 4) = true))) ∧ Fr [p] s s' ∧ B01 s' := fun hd => by
        unfold f_Mo_lays_171 f_Mo_lays_176 f_Mo_lays_208
        rw [if_neg (show ¬ (1 : Int32) = 0 by decide), rf_559_18, bnd_s, im2 (n := 256), im2 (n := 8), ia3, im2 (n := 4), ia3, ia3, show 256 * p + 4 * (8 * y + x) + d = 256 * p + (4 * (8 * y + x) + d) by omega, s_567 (by omega), bnd_s, nrw102, one1, nI_1]
        obtain ⟨s', e1, e2, e3, e4⟩ := ih (d + 1) (upd2 s 567 (256 * p + (4 * (8 * y + x) + d)) (b2i true)) (by omega) (by omega) (by rw [u2, if_neg (by omega)]; exact h5) (by rw [u2, if_neg (by omega)]; exact h8) (B01_u hB)
        refine ⟨s', e1, fun i hi => ?_, (Fr_u (by omega)).trans e3, e4⟩
        rw [e2 i hi, pS_u hi (by omega)]
        by_cases c : i = 4 * (8 * y + x) + d
        · rw [if_pos c, Bool.true_or]
          have h4 : i % 4 = d ∧ i / 4 = 8 * y + x := by omega
          rw [decide_eq_true (show i / 4 = 8 * y + x ∧ d ≤ i % 4 ∧ dC o a (i % 4) = true from ⟨h4.2, by omega, by rw [h4.1]; exact hd⟩), Bool.or_true]
        · rw [if_neg c]
          congr 1
          apply decide_eq_decide.mpr
          constructor
          · rintro ⟨q1, q2, q3⟩; exact ⟨q1, by omega, q3⟩
          · rintro ⟨q1, q2, q3⟩; exact ⟨q1, by omega, q3⟩
      have no : dC o a d = false → ∃ s', f_Mo_lays_175 n (f_Mo_lays_119 n k9 m) 559 (nI ci) (nI p) w h (nI y) (nI x) (nI d) (K s ml) = k9 559 (nI ci) (nI p) w h (nI y) (nI x) (K s' ml) ∧ (∀ i, i < 256 → pS s' p i = (pS s p i || decide (i / 4 = 8 * y + x ∧ d ≤ i % 4 ∧ dC o a (i % 4) = true))) ∧ Fr [p] s s' ∧ B01 s' := fun hd => by
        unfold f_Mo_lays_175 f_Mo_lays_176 f_Mo_lays_208
        rw [if_pos (show (0 : Int32) = 0 from rfl), nI_1]
        obtain ⟨s', e1, e2, e3, e4⟩ := ih (d + 1) s (by omega) (by omega) h5 h8 hB
        refine ⟨s', e1, fun i hi => ?_, e3, e4⟩
        rw [e2 i hi]
        congr 1
        apply decide_eq_decide.mpr
        constructor
        · rintro ⟨q1, q2, q3⟩; exact ⟨q1, by omega, q3⟩
        · rintro ⟨q1, q2, q3⟩
          refine ⟨q1, ?_, q3⟩
          by_cases g : i % 4 = d
          · rw [g, hd] at q3; cases q3
          · omega
      by_cases c3 : o < 3
      · rw [if_pos (by rw [it2 (n := 3) (by omega) (by omega)]; exact c3)]
        exact yes (by unfold dC; rw [decide_eq_true_iff]; exact Or.inl c3)
      have ha := ha (by omega)
      rw [if_neg (by rw [it2 (n := 3) (by omega) (by omega)]; exact c3), rf_559_33, bnd_s, a_578 hci, bnd_s, h8]
      by_cases ca : d = a
      · rw [if_pos (by rw [ca])]
        exact yes (by unfold dC; rw [decide_eq_true_iff]; exact Or.inr (Or.inl ca))
      rw [if_neg (by rw [nI_eq (by omega) (by omega)]; exact ca), bnd_s, a_575 hci, bnd_s, h5]
      by_cases co : o = 3
      · rw [if_pos (by rw [co]; rfl), bnd_s, a_578 hci, bnd_s, h8, nI_1, ir1 (n := 4) (by omega) (by omega) (by omega)]
        by_cases cd : d = (a + 1) % 4
        · rw [if_pos (by rw [cd])]
          exact yes (by unfold dC; rw [decide_eq_true_iff]; exact Or.inr (Or.inr ⟨co, cd⟩))
        · rw [if_neg (by rw [nI_eq (by omega) (by omega)]; exact cd)]
          exact no (by unfold dC; rw [decide_eq_false_iff_not]; omega)
      · rw [if_neg (by rw [ie1 (n := 3) (by omega) (by omega)]; exact co)]
        exact no (by unfold dC; rw [decide_eq_false_iff_not]; omega)
theorem lays103 {y : Nat} {h : Int32} {k9 : Nat → Int32 → Int32 → Int32 → Int32 → Int32 → MM → Option MM} (hn : 8 < n) (hp : p < 56) (hci : ci < 500) (hX : X + W ≤ 8) (hy : y < 8) (ho : o ≤ 4) (ha : 3 ≤ o → a ≤ 8) : ∀ m x s, x ≤ X + W → X + W - x < m → s 575 ci = nI o → s 578 ci = nI a → s 576 ci = nI X → B01 s → ∃ s', f_Mo_lays_103 n k9 m 559 (nI ci) (nI p) (nI W) h (nI y) (nI x) (K s ml) = k9 559 (nI ci) (nI p) (nI W) h (nI y) (K s' ml) ∧ (∀ i, i < 256 → pS s' p i = (pS s p i || decide ((i / 32 = y ∧ x ≤ i / 4 % 8 ∧ i / 4 % 8 < X + W) ∧ dC o a (i % 4) = true))) ∧ Fr [p] s s' ∧ B01 s' := by
  intro m
  induction m with
  | zero => intro x s h1 h2; omega
  | succ m ih =>
    intro x s h1 h2 h5 h8 h6 hB
    rw [f_Mo_lays_103, rf_559_31, bnd_s, a_576 hci, bnd_s, h6, ia3]
    by_cases e : x = X + W
    · rw [if_pos (nI_le (by omega) (by omega))]
      refine ⟨s, rfl, fun i hi => ?_, Fr.rf, hB⟩
      rw [decide_eq_false (by omega), Bool.or_false]
    · rw [if_neg (by rw [nI_leI (by omega) (by omega)]; omega)]
      obtain ⟨s1, e1, e2, e3, e4⟩ := lays119 (n := n) (ml := ml) (w := nI W) (h := h) (k9 := f_Mo_lays_214 n (f_Mo_lays_103 n k9 m)) hp hci (show x < 8 by omega) hy ho ha n 0 s (by omega) (by omega) h5 h8 hB
      rw [show f_Mo_lays_119 n (f_Mo_lays_214 n (f_Mo_lays_103 n k9 m)) n 559 (nI ci) (nI p) (nI W) h (nI y) (nI x) 0 (K s ml) = _ from e1]
      unfold f_Mo_lays_214
      rw [nI_1]
      have fr : ∀ c, c ≠ 567 → s1 c ci = s c ci := fun c q => e3 c ci (fun x _ g => q g.1)
      obtain ⟨s', g1, g2, g3, g4⟩ := ih (x + 1) s1 (by omega) (by omega) (by rw [fr _ (by omega)]; exact h5) (by rw [fr _ (by omega)]; exact h8) (by rw [fr _ (by omega)]; exact h6) e4
      refine ⟨s', g1, fun i hi => ?_, e3.trans g3, g4⟩
      rw [g2 i hi, e2 i hi, Bool.or_assoc]
      congr 1
      rw [← Bool.decide_or]
      apply decide_eq_decide.mpr
      constructor
      · rintro (⟨q1, q2, q3⟩ | ⟨q1, q3⟩)
        · exact ⟨by omega, q3⟩
        · exact ⟨by omega, q3⟩
      · rintro ⟨q1, q3⟩
        by_cases g : i / 4 % 8 = x
        · exact Or.inl ⟨by omega, by omega, q3⟩
        · exact Or.inr ⟨by omega, q3⟩
theorem lays81 (hn : 8 < n) (hp : p < 56) (hci : ci < 500) (hX : X + W ≤ 8) (hY : Y + H ≤ 8) (ho : o ≤ 4) (ha : 3 ≤ o → a ≤ 8) : ∀ m y s, y ≤ Y + H → Y + H - y < m → s 575 ci = nI o → s 578 ci = nI a → s 576 ci = nI X → s 577 ci = nI Y → B01 s → ∃ s', f_Mo_lays_81 n m 559 (nI ci) (nI p) (nI W) (nI H) (nI y) (K s ml) = some (K s' ml) ∧ (∀ i, i < 256 → pS s' p i = (pS s p i || decide (((y ≤ i / 32 ∧ i / 32 < Y + H) ∧ X ≤ i / 4 % 8 ∧ i / 4 % 8 < X + W) ∧ dC o a (i % 4) = true))) ∧ Fr [p] s s' ∧ B01 s' := by
  intro m
  induction m with
  | zero => intro y s h1 h2; omega
  | succ m ih =>
    intro y s h1 h2 h5 h8 h6 h7 hB
    rw [f_Mo_lays_81, rf_559_32, bnd_s, a_577 hci, bnd_s, h7, ia3]
    by_cases e : y = Y + H
    · rw [if_pos (nI_le (by omega) (by omega))]
      refine ⟨s, rfl, fun i hi => ?_, Fr.rf, hB⟩
      rw [decide_eq_false (by omega), Bool.or_false]
    · rw [if_neg (by rw [nI_leI (by omega) (by omega)]; omega), rf_559_31, bnd_s, a_576 hci, bnd_s, h6]
      obtain ⟨s1, e1, e2, e3, e4⟩ := lays103 (n := n) (ml := ml) (h := nI H) (k9 := f_Mo_lays_220 n (f_Mo_lays_81 n m)) hn hp hci hX (show y < 8 by omega) ho ha n X s (by omega) (by omega) h5 h8 h6 hB
      rw [e1]
      unfold f_Mo_lays_220
      rw [nI_1]
      have fr : ∀ c, c ≠ 567 → s1 c ci = s c ci := fun c q => e3 c ci (fun x _ g => q g.1)
      obtain ⟨s', g1, g2, g3, g4⟩ := ih (y + 1) s1 (by omega) (by omega) (by rw [fr _ (by omega)]; exact h5) (by rw [fr _ (by omega)]; exact h8) (by rw [fr _ (by omega)]; exact h6) (by rw [fr _ (by omega)]; exact h7) e4
      refine ⟨s', g1, fun i hi => ?_, e3.trans g3, g4⟩
      rw [g2 i hi, e2 i hi, Bool.or_assoc]
      congr 1
      rw [← Bool.decide_or]
      apply decide_eq_decide.mpr
      constructor
      · rintro (⟨q1, q3⟩ | ⟨q1, q3⟩)
        · exact ⟨by omega, q3⟩
        · exact ⟨by omega, q3⟩
      · rintro ⟨q1, q3⟩
        by_cases g : i / 32 = y
        · exact Or.inl ⟨by omega, q3⟩
        · exact Or.inr ⟨by omega, q3⟩
/-- a thing or cells laid on a page -/
theorem laysM {cd : Cd} {V : List Sh} (hn : 256 < n) (hp : p < 56) (hpp : 28 ≤ p) (hci : ci < 500) (hc : cm mi ci cd) (ho : cd.1 < 5) (hok : okc V.length cd = true) (hB : B01 mi) (hT : ThM T z N G mi) (h20 : mi 559 20 = nI sd) (hsd : sd < 2) (hl : N.length ≤ 14) (hV : V.length ≤ N.length) (h8 : cnO (kd T z) false N ≤ 8) (h6 : cnO (kd T z) true N ≤ 6) (hE : ∀ j, j < V.length → pS mi (pgs (kd T z) N sd j) = V.getD j E0) : ∃ mi', f_Mo_lays n 559 (nI ci) (nI p) (K mi ml) = some (K mi' ml) ∧ pS mi' p = layV V cd ∧ Fr [p] mi mi' ∧ B01 mi' := by
  obtain ⟨c1, c2, c3, c4, c5, _⟩ := hc
  unfold okc at hok
  rw [decide_eq_true_iff] at hok
  unfold f_Mo_lays layV
  rw [o_559, rf_559_30, bnd_s, a_575 hci, bnd_s, c1]
  by_cases d0 : cd.1 = 0
  · obtain ⟨q1, q2⟩ := hok.1 d0
    have hb := pgs_b (sd := sd) (show cd.2.1.toNat < N.length by omega) h8 h6
    unfold inSd at hb
    rw [if_pos (by rw [d0]; rfl), rf_559_31, bnd_s, a_576 hci, bnd_s, c2, iZ_to q1, pageM hT h20 (by omega) hl, bnd_s, copies_S hB (by omega) hp (by omega) hn, bnd_s, if_pos d0]
    refine ⟨_, rfl, ?_, Fr.set Fr.rf (by simp), B01_set hB⟩
    rw [pS_set, pS_cu]; exact hE _ (by omega)
  · obtain ⟨q1, q2, q3, q4, q5, q6⟩ := hok.2.1 (by omega)
    rw [if_neg (show ¬ nI cd.1 = 0 by rw [show (0 : Int32) = nI 0 from rfl, nI_eq (by omega) (by omega)]; exact d0), clears_s hp hn, bnd_s, if_neg d0]
    have hCl : ∀ i, i < 256 → pS (setPg mi p (fun _ => false)) p i = false := fun i hi => by rw [pS_set, cu_in hi]
    have hF : Fr [p] mi (setPg mi p (fun _ => false)) := Fr.set Fr.rf (by simp)
    have hB1 : B01 (setPg mi p (fun _ => false)) := B01_set hB
    have fr : ∀ c, c ≠ 567 → setPg mi p (fun _ => false) c ci = mi c ci := fun c q => hF c ci (fun x _ g => q g.1)
    generalize setPg mi p (fun _ => false) = m1 at hCl hF hB1 fr
    have f5 : m1 575 ci = nI cd.1 := by rw [fr _ (by omega)]; exact c1
    have f6 : m1 576 ci = nI cd.2.1.toNat := by rw [fr _ (by omega), c2, iZ_to q1.1]
    have f7 : m1 577 ci = nI cd.2.2.1.toNat := by rw [fr _ (by omega), c3, iZ_to q2.1]
    have f8 : m1 578 ci = nI cd.2.2.2.1.toNat := by rw [fr _ (by omega), c4, iZ_to q3]
    have f9 : m1 579 ci = nI cd.2.2.2.2.1.toNat := by rw [fr _ (by omega), c5, iZ_to q4]
    rw [rf_559_30, bnd_s, a_575 hci, bnd_s, f5]
    unfold f_Mo_lays_50 f_Mo_lays_71
    have fin : ∀ W H : Nat, cd.2.1.toNat + W ≤ 8 → cd.2.2.1.toNat + H ≤ 8 → (W = if cd.1 = 2 then cd.2.2.2.1.toNat else 1) → (H = if cd.1 = 2 then cd.2.2.2.2.1.toNat else 1) → (3 ≤ cd.1 → cd.2.2.2.1.toNat ≤ 8) → ∃ mi', f_Mo_lays_81 n n 559 (nI ci) (nI p) (nI W) (nI H) (nI cd.2.2.1.toNat) (K m1 ml) = some (K mi' ml) ∧ pS mi' p = unC cd.1 cd.2.1.toNat cd.2.2.1.toNat cd.2.2.2.1.toNat cd.2.2.2.2.1.toNat ∧ Fr [p] mi mi' ∧ B01 mi' := fun W H w1 w2 w3 w4 w5 => by
      obtain ⟨s', e1, e2, e3, e4⟩ := lays81 (n := n) (ml := ml) (by omega) hp hci w1 w2 (show cd.1 ≤ 4 by omega) w5 n cd.2.2.1.toNat m1 (by omega) (by omega) f5 f8 f6 f7 hB1
      refine ⟨s', e1, ?_, hF.trans e3, e4⟩
      rw [← pS_cu]
      unfold unC
      apply cu_ext
      intro i hi
      rw [e2 i hi, hCl i hi, Bool.false_or]
      apply decide_eq_decide.mpr
      unfold dC
      rw [decide_eq_true_iff, ← w3, ← w4]
      constructor
      · rintro ⟨⟨g1, g2⟩, g3⟩; exact ⟨g2, g1, g3⟩
      · rintro ⟨g2, g1, g3⟩; exact ⟨⟨g1, g2⟩, g3⟩
    by_cases d2 : cd.1 = 2
    · obtain ⟨x1, x2⟩ := q5 d2
      rw [if_pos (show nI cd.1 = 2 by rw [d2]; rfl), rf_559_33, bnd_s, a_578 hci, bnd_s, f8, rf_559_30, bnd_s, a_575 hci, bnd_s, f5, if_pos (show nI cd.1 = 2 by rw [d2]; rfl), rf_559_34, bnd_s, a_579 hci, bnd_s, f9, rf_559_32, bnd_s, a_577 hci, bnd_s, f7]
      exact fin _ _ (by omega) (by omega) (by rw [if_pos d2]) (by rw [if_pos d2]) (by omega)
    · rw [if_neg (show ¬ nI cd.1 = 2 by rw [ie1 (n := 2) (by omega) (by omega)]; exact d2), rf_559_30, bnd_s, a_575 hci, bnd_s, f5, if_neg (show ¬ nI cd.1 = 2 by rw [ie1 (n := 2) (by omega) (by omega)]; exact d2), rf_559_32, bnd_s, a_577 hci, bnd_s, f7]
      exact fin 1 1 (by omega) (by omega) (by rw [if_neg d2]) (by rw [if_neg d2]) (fun d3 => by have := q6 d3; omega)
end LAY
