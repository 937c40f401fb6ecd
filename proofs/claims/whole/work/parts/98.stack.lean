/-! ===== FILLINGS in the reference: the row of levels ===== -/
/-- what is placed on levels 0..t-1 -/
def PS (nb set : Nat) (Bd : Nat → Nat → Bool) (t : Nat) (P Q : Nat → Nat) (U : Nat) (W : Nat → Nat) (V : Nat) : Prop :=
  (∀ i, i < t → P i < 8 * nb ∧ Q i < 256 ∧ lie (imK Bd (P i)) (Q i) = true ∧ W (P i / 8) = lcd (P i % 8) (zX (imK Bd (P i)) (Q i)) (zY (imK Bd (P i)) (Q i)) ∧ set.testBit (P i / 8) = true) ∧
  (∀ i j, i < t → j < t → P i / 8 = P j / 8 → i = j) ∧
  (∀ b, b < 8 → set.testBit b = true → (U.testBit b = false ↔ ∃ i, i < t ∧ P i / 8 = b)) ∧
  V < 256 ∧ (∀ b, b < 8 → V.testBit b = (set.testBit b && !U.testBit b))
def SKm (Bd : Nat → Nat → Bool) (t : Nat) (P Q : Nat → Nat) (mi : IM) : Prop := ∀ i, i < t → mi 592 i = nI (Q i) ∧ mi 593 i = nI (P i / 8) ∧ mi 594 i = nI (P i % 8) ∧ mi 595 i = iZ ((Q i : Int) - (lo (imK Bd (P i)) : Int))
/-- the first way as the reference keeps it -/
def FRm (set : Nat) (f : Nat → Nat) (mi : IM) : Prop := ∀ b, b < 8 → (set.testBit b = true → ∃ g x y : Nat, g < 8 ∧ x < 8 ∧ y < 8 ∧ f b = 64 * g + 8 * x + y ∧ mi 599 b = nI g ∧ mi 600 b = nI x ∧ mi 601 b = nI y) ∧ (set.testBit b = false → mi 599 b = -1)
def RS (set : Nat) (al : Bool) (s : SS) (mi : IM) : Prop := (mi 559 51 = nI s.1 ∧ mi 559 52 = nI s.2.1 ∧ mi 559 53 = b2i s.2.2.1) ∧ (s.1 ≤ 60000 ∧ s.2.1 ≤ s.1) ∧ (al = true → 0 < s.2.1 → FRm set s.2.2.2 mi)
def FMk (mi mi' : IM) : Prop := ∀ c j, ¬ (591 ≤ c ∧ c ≤ 595) → ¬ (599 ≤ c ∧ c ≤ 601) → ¬ (c = 559 ∧ 51 ≤ j ∧ j ≤ 53) → mi' c j = mi c j
theorem FMk.rf {a : IM} : FMk a a := fun _ _ _ _ _ => rfl
theorem FMk.tr {a b c : IM} (h : FMk a b) (h2 : FMk b c) : FMk a c := fun x j h3 h4 h5 => by rw [h2 x j h3 h4 h5, h x j h3 h4 h5]
def MLf (L : Nat → Bool) (mi : IM) : Prop := ∀ i, i < 256 → mi 591 i = b2i (L i)
/-- the next place to be tried on level t -/
def CP (mi : IM) (t k : Nat) : Prop := (k = 0 ∧ mi 593 t = 0 ∧ mi 594 t = -1) ∨ (0 < k ∧ mi 593 t = nI ((k - 1) / 8) ∧ mi 594 t = nI ((k - 1) % 8))
/-- what stays as it is in a look -/
def CST (nb l : Nat) (Bd : Nat → Nat → Bool) (mi : IM) : Prop := (l < 2 ∧ mi 559 19 = nI l ∧ mi 568 l = nI nb) ∧ (∀ b, b < nb → noS (Bd b) = false) ∧ ∀ k, k < 8 * nb → RdK Bd mi k
theorem CST_c {nb l : Nat} {Bd : Nat → Nat → Bool} {mi mi' : IM} (h : CST nb l Bd mi) (hf : FMk mi mi') : CST nb l Bd mi' := by
  refine ⟨⟨h.1.1, ?_, ?_⟩, h.2.1, fun k hk => RdK_c (fun c j q => hf c j (by omega) (by omega) (by omega)) (h.2.2 k hk)⟩
  · rw [hf 559 19 (by omega) (by omega) (by omega)]; exact h.1.2.1
  · rw [hf 568 l (by omega) (by omega) (by omega)]; exact h.1.2.2
theorem V_o : ∀ V, V < 256 → ∀ b, b < 8 → V.testBit b = false → (nI V ||| ishl 1 (nI b)) = nI (V + 2 ^ b) ∧ V + 2 ^ b < 256 ∧ ∀ k, k < 8 → (V + 2 ^ b).testBit k = (V.testBit k || decide (k = b)) := by decide +kernel
section STK
variable {n nb l set t k : Nat} {P Q : Nat → Nat} {mi : IM} {ml : JM} {Bd : Nat → Nat → Bool}
theorem remM (hC : CST nb l Bd mi) (hnb : nb ≤ 8) (hPQ : ∀ i, i ≤ t → P i < 8 * nb ∧ Q i < 256) (hinj : ∀ i j, i ≤ t → j ≤ t → P i / 8 = P j / 8 → i = j) (hS : ∀ i, i ≤ t → mi 592 i = nI (Q i) ∧ mi 593 i = nI (P i / 8) ∧ mi 594 i = nI (P i % 8)) (ht : t < 8) (hn : 9 < n) : ∃ mi', f_Mo_remembers n 559 (nI t) (K mi ml) = some (K mi' ml) ∧ (∀ i, i ≤ t → mi' 599 (P i / 8) = nI (P i % 8) ∧ mi' 600 (P i / 8) = iZ (zX (imK Bd (P i)) (Q i)) ∧ mi' 601 (P i / 8) = iZ (zY (imK Bd (P i)) (Q i))) ∧ (∀ b, b < 8 → (∀ i, i ≤ t → P i / 8 ≠ b) → mi' 599 b = -1) ∧ ∀ c, c ≠ 599 → c ≠ 600 → c ≠ 601 → mi' c = mi c := by
  unfold f_Mo_remembers
  rw [o_559]
  have L1 : ∀ m b s, b ≤ 8 → 8 - b < m → (∀ c, c ≠ 599 → s c = mi c) → (∀ j, j < b → s 599 j = -1) → ∃ s', f_Mo_remembers_2 n (f_Mo_remembers_21 n) m 559 (nI t) (nI b) (K s ml) = f_Mo_remembers_21 n 559 (nI t) (K s' ml) ∧ (∀ c, c ≠ 599 → s' c = mi c) ∧ ∀ j, j < 8 → s' 599 j = -1 := by
    intro m
    induction m with
    | zero => intro b s h1 h2; omega
    | succ m ih =>
      intro b s h1 h2 h3 h4
      rw [f_Mo_remembers_2]
      by_cases c : b = 8
      · subst c; rw [if_pos (by decide)]; exact ⟨s, rfl, h3, h4⟩
      · rw [if_neg (by rw [il1 (n := 8) (by omega) (by omega)]; omega), rf_559_62, bnd_s, s_599 (by omega), bnd_s, nI_1]
        refine ih (b + 1) _ (by omega) (by omega) (fun c hc => by rw [upd2_ne hc]; exact h3 c hc) (fun j hj => ?_)
        rw [u2]
        by_cases d : j = b
        · rw [if_pos ⟨rfl, d⟩]; rfl
        · rw [if_neg (fun q => d q.2)]; exact h4 j (by omega)
  obtain ⟨m1, a1, a2, a3⟩ := L1 n 0 mi (by omega) (by omega) (fun _ _ => rfl) (fun j hj => by omega)
  rw [show (0 : Int32) = nI 0 from rfl, a1]
  unfold f_Mo_remembers_21
  have L2 : ∀ m k s, k ≤ t + 1 → t + 1 - k < m → (∀ c, c ≠ 599 → c ≠ 600 → c ≠ 601 → s c = mi c) → (∀ i, i < k → s 599 (P i / 8) = nI (P i % 8) ∧ s 600 (P i / 8) = iZ (zX (imK Bd (P i)) (Q i)) ∧ s 601 (P i / 8) = iZ (zY (imK Bd (P i)) (Q i))) → (∀ b, b < 8 → (∀ i, i < k → P i / 8 ≠ b) → s 599 b = -1) → ∃ mi', f_Mo_remembers_23 n m 559 (nI t) (nI k) (K s ml) = some (K mi' ml) ∧ (∀ i, i < t + 1 → mi' 599 (P i / 8) = nI (P i % 8) ∧ mi' 600 (P i / 8) = iZ (zX (imK Bd (P i)) (Q i)) ∧ mi' 601 (P i / 8) = iZ (zY (imK Bd (P i)) (Q i))) ∧ (∀ b, b < 8 → (∀ i, i < t + 1 → P i / 8 ≠ b) → mi' 599 b = -1) ∧ ∀ c, c ≠ 599 → c ≠ 600 → c ≠ 601 → mi' c = mi c := by
    intro m
    induction m with
    | zero => intro k s h1 h2; omega
    | succ m ih =>
      intro k s h1 h2 h3 h4 h5
      rw [f_Mo_remembers_23]
      by_cases c : k = t + 1
      · subst c; rw [if_pos (by rw [nI_ltI (by omega) (by omega)]; omega)]; exact ⟨s, rfl, h4, h5, h3⟩
      · obtain ⟨p1, p2⟩ := hPQ k (by omega)
        obtain ⟨s1, s2, s3⟩ := hS k (by omega)
        have hr := hC.2.2 (P k) p1
        have hno : noS (imK Bd (P k)) = false := im_no _ (hC.2.1 _ (by omega))
        have hl := lo_s hno
        have r0 := row_el hr (ct_pos hno)
        rw [Nat.add_zero, el_0 hno] at r0
        have c92 : s 592 = mi 592 := h3 592 (by omega) (by omega) (by omega)
        have c93 : s 593 = mi 593 := h3 593 (by omega) (by omega) (by omega)
        have c94 : s 594 = mi 594 := h3 594 (by omega) (by omega) (by omega)
        have c89 : s 589 = mi 589 := h3 589 (by omega) (by omega) (by omega)
        rw [if_neg (by rw [nI_ltI (by omega) (by omega)]; omega), rf_559_46, bnd_s, rf_559_55, bnd_s, a_593 (by omega), bnd_s, rf_559_56, bnd_s, a_594 (by omega), bnd_s, c93, c94, s2, s3, im2 (n := 8), ia3, im2 (n := 256), show 256 * (8 * (P k / 8) + P k % 8) = 256 * P k by omega, a_589 (by omega), bnd_s, c89, r0, rf_559_62, bnd_s, bnd_s, a_593 (by omega), bnd_s, bnd_s, a_594 (by omega), bnd_s, c93, c94, s2, s3, s_599 (by omega), bnd_s, nrw100]
        generalize e1 : upd2 s 599 (P k / 8) (nI (P k % 8)) = t1
        have g1 : ∀ c, c ≠ 599 → t1 c = s c := fun c hc => by rw [← e1, upd2_ne hc]
        rw [rf_559_63, bnd_s, rf_559_55, bnd_s, a_593 (by omega), bnd_s, g1 593 (by omega), c93, s2, rf_559_54, bnd_s, a_592 (by omega), bnd_s, g1 592 (by omega), c92, s1, id1 (n := 4) (by omega) (by omega) (by omega), id1 (n := 4) (by omega) (by omega) (by omega), ir1 (n := 8) (by omega) (by omega) (by omega), ir1 (n := 8) (by omega) (by omega) (by omega), s_600 (by omega), bnd_s, nrw100]
        generalize e2 : upd2 t1 600 (P k / 8) (nI (Q k / 4 % 8) - nI (lo (imK Bd (P k)) / 4 % 8)) = t2
        have g2 : ∀ c, c ≠ 600 → t2 c = t1 c := fun c hc => by rw [← e2, upd2_ne hc]
        rw [rf_559_64, bnd_s, rf_559_55, bnd_s, a_593 (by omega), bnd_s, g2 593 (by omega), g1 593 (by omega), c93, s2, rf_559_54, bnd_s, a_592 (by omega), bnd_s, g2 592 (by omega), g1 592 (by omega), c92, s1, id1 (n := 32) (by omega) (by omega) (by omega), id1 (n := 32) (by omega) (by omega) (by omega), s_601 (by omega), bnd_s, nrw100, nI_1]
        refine ih (k + 1) _ (by omega) (by omega) (fun c q1 q2 q3 => by rw [upd2_ne q3, g2 c q2, g1 c q1]; exact h3 c q1 q2 q3) (fun i hi => ?_) (fun b hb hi => ?_)
        · rw [upd2_ne (by omega), upd2_ne (by omega), g2 599 (by omega), u2, ← e2, u2, ← e1, u2]
          by_cases d : i = k
          · subst d
            rw [if_pos ⟨rfl, rfl⟩, if_pos ⟨rfl, rfl⟩, if_pos ⟨rfl, rfl⟩]
            refine ⟨rfl, ?_, ?_⟩
            · unfold zX; rw [iZ_nat, iZ_nat, iZ_sub]
            · unfold zY; rw [iZ_nat, iZ_nat, iZ_sub]
          · have hne : P i / 8 ≠ P k / 8 := fun q => d (hinj i k (by omega) (by omega) q)
            rw [if_neg (fun q => hne q.2), if_neg (fun q => hne q.2), if_neg (fun q => hne q.2), upd2_ne (by omega), upd2_ne (by omega), upd2_ne (by omega)]
            exact h4 i (by omega)
        · rw [upd2_ne (by omega), g2 599 (by omega), ← e1, u2, if_neg (fun q => hi k (by omega) q.2.symm)]
          exact h5 b hb (fun i q => hi i (by omega))
  obtain ⟨m2, b1, b2, b3, b4⟩ := L2 n 0 m1 (by omega) (by omega) (fun c q1 q2 q3 => a2 c q1) (fun i hi => by omega) (fun b hb _ => a3 b hb)
  refine ⟨m2, b1, fun i hi => b2 i (by omega), fun b hb hi => b3 b hb (fun i q => hi i (by omega)), b4⟩
/-- the next step on level t -/
theorem pos_s {m : Nat} {x2 x3 x6 : Int32} (ht : t < 9) (hk : k ≤ 64) (h : CP mi t k) : f_Mo_looks_164 n (m + 1) 559 x2 x3 x6 (nI t) (K mi ml) = f_Mo_looks_202 n (f_Mo_looks_164 n m) 559 x2 x3 x6 (nI t) (nI (k / 8)) (nI (k % 8)) (K mi ml) := by
  rw [f_Mo_looks_164, if_neg (inN (by omega)), rf_559_55, bnd_s, a_593 ht, bnd_s, rf_559_56, bnd_s, a_594 ht, bnd_s, nm_t]
  rcases h with ⟨h1, h2, h3⟩ | ⟨h1, h2, h3⟩
  · rw [h2, h3, h1, if_neg (by decide)]; rfl
  · rw [h2, h3, nI_1, nI_1]
    by_cases c : (k - 1) % 8 = 7
    · rw [if_pos (by rw [c]; rfl), show (k - 1) / 8 + 1 = k / 8 by omega, show k % 8 = 0 by omega]; rfl
    · rw [if_neg (by rw [ie1 (n := 8) (by omega) (by omega)]; omega), show (k - 1) / 8 = k / 8 by omega, show (k - 1) % 8 + 1 = k % 8 by omega]
/-- leaving level t -/
def exM (n m : Nat) (x2 x3 x6 x7 : Int32) (M : MM) : Option MM :=
    if (x7 + (-1)) < 0 then
      f_Mo_looks_164 n m 559 x2 x3 x6 (x7 + (-1)) M
    else
      (gR 12 55 559 M).bind fun v51 =>
      (aI 100 v51 (x7 + (-1)) M).bind fun v52 =>
      nm (α := Int32) (x6 &&& ((ishl 1 v52) ^^^ (-1))) fun y53 =>
      (gR 12 55 559 M).bind fun v54 =>
      (aI 100 v54 (x7 + (-1)) M).bind fun v55 =>
      (gR 12 56 559 M).bind fun v56 =>
      (aI 100 v56 (x7 + (-1)) M).bind fun v57 =>
      (gR 12 57 559 M).bind fun v58 =>
      (aI 100 v58 (x7 + (-1)) M).bind fun v59 =>
      (f_Mo_marks n 559 ((8 * v55) + v57) v59 0 M).bind fun M60 =>
      f_Mo_looks_164 n m 559 x2 x3 y53 (x7 + (-1)) M60
theorem nI_p (t : Nat) : nI (t + 1) + (-1) = nI t := by
  rw [← dn_1, show (((t + 1 : Nat) : Int) - 1) = (t : Int) by omega, ← iZ_nat]
theorem ex_s {m V : Nat} {x2 x3 : Int32} (hC : CST nb l Bd mi) (hnb : nb ≤ 8) (ht : t < 8) (hk : k < 8 * nb) (hl : lie (imK Bd k) (Q t) = true) (h93 : mi 593 t = nI (k / 8)) (h94 : mi 594 t = nI (k % 8)) (h95 : mi 595 t = iZ ((Q t : Int) - (lo (imK Bd k) : Int))) (hV : V < 256) (hVb : V.testBit (k / 8) = false) (hn : 256 < n) : ∃ mi', exM n m x2 x3 (nI (V + 2 ^ (k / 8))) (nI (t + 1)) (K mi ml) = f_Mo_looks_164 n m 559 x2 x3 (nI V) (nI t) (K mi' ml) ∧ (∀ i, i < 256 → mi' 591 i = if laK Bd k (Q t) i = true then 1 else mi 591 i) ∧ ∀ c, c ≠ 591 → mi' c = mi c := by
  obtain ⟨v1, v2, v3⟩ := V_o V hV (k / 8) (by omega) hVb
  have ht2 : (V + 2 ^ (k / 8)).testBit (k / 8) = true := by rw [v3 _ (by omega), hVb, decide_eq_true rfl]; rfl
  obtain ⟨m1, a1, a2, a3⟩ := marksM (n := n) (mi := mi) (ml := ml) (is := false) (show k < 64 by omega) (hC.2.2 k hk) hl hn
  unfold exM
  rw [nI_p, if_neg (inN (by omega)), rf_559_55, bnd_s, a_593 (by omega), bnd_s, h93, U_a _ v2 (k / 8) (by omega) ht2, Nat.add_sub_cancel, nm_t, bnd_s, a_593 (by omega), bnd_s, h93, rf_559_56, bnd_s, a_594 (by omega), bnd_s, h94, rf_559_57, bnd_s, a_595 (by omega), bnd_s, h95, im2 (n := 8), ia3, show 8 * (k / 8) + k % 8 = k by omega, show (0 : Int32) = b2i false from rfl, a1, bnd_s]
  exact ⟨m1, rfl, a2, a3⟩
end STK
