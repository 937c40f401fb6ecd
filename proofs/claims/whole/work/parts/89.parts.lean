/-! ===== THE CUT in the reference ===== -/
def FM (mi mi' : IM) : Prop := ∀ c j, c ≠ 585 → c ≠ 586 → ¬ (c = 559 ∧ j = 43) → (∀ q ∈ [44, 45, 46, 47, 51, 52, 54], ¬ (c = 567 ∧ 256 * q ≤ j ∧ j < 256 * q + 256)) → mi' c j = mi c j
theorem FM.rf {a : IM} : FM a a := fun _ _ _ _ _ _ => rfl
theorem FM.tr {a b c : IM} (h : FM a b) (h2 : FM b c) : FM a c := fun x j h3 h4 h5 h6 => by rw [h2 x j h3 h4 h5 h6, h x j h3 h4 h5 h6]
theorem FP.fm {a b : IM} (h : FP a b) : FM a b := fun c j h1 h2 h3 _ => h c j h1 h2 h3
theorem Fr.fm {ps : List Nat} {a b : IM} (h : Fr ps a b) (hp : ∀ q ∈ ps, q ∈ [44, 45, 46, 47, 51, 52, 54]) : FM a b := fun c j _ _ _ h4 => h c j fun q hq => h4 q (hp q hq)
theorem FM.pS {a b : IM} (h : FM a b) {p : Nat} (hp : p ∉ [44, 45, 46, 47, 51, 52, 54]) : pS b p = pS a p := cu_ext fun i hi => by
  unfold pg
  rw [h 567 _ (by omega) (by omega) (by omega) fun q hq => by
    have : q ≠ p := fun e => hp (e ▸ hq)
    omega]
def cuG (W I : Nat → Bool) (z w : Int) (k : Nat) : Bool := I k && (sIn z w k && W (sTo z w k))
theorem step_F {W I : Nat → Bool} {z w : Int} {i q : Nat} (hi : i < 256) (hq : q < 256) : (cuF W I z w q && decide (sTo (-z) (-w) q < i + 1)) = (if cuG W I z w i = true ∧ q = sTo z w i then true else (cuF W I z w q && decide (sTo (-z) (-w) q < i))) := by
  unfold cuG
  cases f : cuF W I z w q with
  | false =>
    rw [if_neg]
    · rfl
    · rintro ⟨h1, h2⟩
      rw [Bool.and_eq_true, Bool.and_eq_true] at h1
      rw [cuF_t.mpr ⟨i, hi, h1.1, h1.2.1, h2.symm, by rw [h2]; exact h1.2.2⟩] at f; cases f
  | true =>
    obtain ⟨k, k1, k2, k3, k4, k5⟩ := cuF_t.mp f
    have e : sTo (-z) (-w) q = k := by rw [← k4]; exact (sTo_ok k1 k3).2.2
    rw [e]
    by_cases c : k = i
    · subst c
      rw [if_pos ⟨by rw [k2, k3, k4, k5]; rfl, k4.symm⟩, decide_eq_true (by omega)]; rfl
    · rw [if_neg]
      · rw [show decide (k < i + 1) = decide (k < i) from decide_eq_decide.mpr (by omega)]
      · rintro ⟨h1, h2⟩
        rw [Bool.and_eq_true, Bool.and_eq_true] at h1
        have := (sTo_ok hi h1.2.1).2.2
        rw [← h2, e] at this
        exact c this
theorem step_L {T : Nat → Bool} {i q : Nat} : (T q && decide (q < i + 1)) = (if q = i then T i else (T q && decide (q < i))) := by
  by_cases c : q = i
  · subst c; rw [if_pos rfl, decide_eq_true (by omega), Bool.and_true]
  · rw [if_neg c, show decide (q < i + 1) = decide (q < i) from decide_eq_decide.mpr (by omega)]
/-- the pages after the first i QUARTERS of the IMAGE -/
def IP (W I : Nat → Bool) (z w : Int) (mi : IM) (i : Nat) (s : IM) : Prop :=
  (∀ q, q < 256 → s 567 (13056 + q) = b2i (cuF W I z w q && decide (sTo (-z) (-w) q < i))) ∧
  (∀ q, q < 256 → s 567 (13312 + q) = b2i (W q && !(cuF W I z w q && decide (sTo (-z) (-w) q < i)))) ∧
  (∀ q, q < 256 → s 567 (13824 + q) = b2i (cuL W I z w q && decide (q < i))) ∧
  (∀ c j, ¬ (c = 567 ∧ 13056 ≤ j ∧ j < 13568) → ¬ (c = 567 ∧ 13824 ≤ j ∧ j < 14080) → s c j = mi c j)
section PTM
variable {n : Nat} {mi : IM} {ml : JM} {z w : Int} {W I : Nat → Bool}
theorem IP_no {i : Nat} {s : IM} (hi : i < 256) (h : IP W I z w mi i s) (hI : I i = false) : IP W I z w mi (i + 1) s := by
  obtain ⟨h1, h2, h3, h4⟩ := h
  have g : cuG W I z w i = false := by unfold cuG; rw [hI]; rfl
  have e : ∀ q, q < 256 → (cuF W I z w q && decide (sTo (-z) (-w) q < i + 1)) = (cuF W I z w q && decide (sTo (-z) (-w) q < i)) := fun q hq => by
    rw [step_F hi hq, if_neg (fun c => by rw [g] at c; cases c.1)]
  refine ⟨fun q hq => by rw [e q hq]; exact h1 q hq, fun q hq => by rw [e q hq]; exact h2 q hq, fun q hq => ?_, h4⟩
  rw [step_L]
  by_cases c : q = i
  · subst c
    rw [if_pos rfl, h3 q hq, decide_eq_false (by omega), cuL_t hq, hI]; rfl
  · rw [if_neg c]; exact h3 q hq
theorem IP_off {i : Nat} {s : IM} (hi : i < 256) (h : IP W I z w mi i s) (hI : I i = true) (hg : cuG W I z w i = false) : IP W I z w mi (i + 1) (upd2 s 567 (13824 + i) 1) := by
  obtain ⟨h1, h2, h3, h4⟩ := h
  have e : ∀ q, q < 256 → (cuF W I z w q && decide (sTo (-z) (-w) q < i + 1)) = (cuF W I z w q && decide (sTo (-z) (-w) q < i)) := fun q hq => by
    rw [step_F hi hq, if_neg (fun c => by rw [hg] at c; cases c.1)]
  refine ⟨fun q hq => by rw [e q hq, u2, if_neg (by omega)]; exact h1 q hq, fun q hq => by rw [e q hq, u2, if_neg (by omega)]; exact h2 q hq, fun q hq => ?_, fun c j q1 q2 => by rw [u2, if_neg (by omega)]; exact h4 c j q1 q2⟩
  rw [step_L, u2]
  by_cases c : q = i
  · subst c
    rw [if_pos ⟨rfl, rfl⟩, if_pos rfl, cuL_t hq, hI]
    have : (sIn z w q && W (sTo z w q)) = false := by unfold cuG at hg; rw [hI, Bool.true_and] at hg; exact hg
    rw [this]; rfl
  · rw [if_neg (by omega), if_neg c]; exact h3 q hq
theorem IP_on {i : Nat} {s : IM} (hi : i < 256) (h : IP W I z w mi i s) (hg : cuG W I z w i = true) (hin : sTo z w i < 256) : IP W I z w mi (i + 1) (upd2 (upd2 s 567 (13056 + sTo z w i) 1) 567 (13312 + sTo z w i) 0) := by
  obtain ⟨h1, h2, h3, h4⟩ := h
  have hg2 := hg
  unfold cuG at hg2
  rw [Bool.and_eq_true, Bool.and_eq_true] at hg2
  refine ⟨fun q hq => ?_, fun q hq => ?_, fun q hq => ?_, fun c j q1 q2 => by rw [u2, if_neg (by omega), u2, if_neg (by omega)]; exact h4 c j q1 q2⟩
  · rw [step_F hi hq, u2, if_neg (by omega), u2]
    by_cases c : q = sTo z w i
    · rw [if_pos ⟨rfl, by rw [c]⟩, if_pos ⟨hg, c⟩]; rfl
    · rw [if_neg (by omega), if_neg (fun r => c r.2)]; exact h1 q hq
  · rw [step_F hi hq, u2]
    by_cases c : q = sTo z w i
    · rw [if_pos ⟨rfl, by rw [c]⟩, if_pos ⟨hg, c⟩, Bool.not_true, Bool.and_false]; rfl
    · rw [if_neg (by omega), u2, if_neg (by omega), if_neg (fun r => c r.2)]; exact h2 q hq
  · rw [step_L, u2, if_neg (by omega), u2, if_neg (by omega)]
    by_cases c : q = i
    · subst c
      rw [if_pos rfl, h3 q hq, decide_eq_false (by omega), Bool.and_false, cuL_t hq, hg2.2.1, hg2.2.2]; simp
    · rw [if_neg c]; exact h3 q hq
theorem parts_loop (hb : B01 mi) (hW : pS mi 50 = W) (hI : pS mi 53 = I) (hz : -7 ≤ z ∧ z ≤ 7) (hw : -7 ≤ w ∧ w ≤ 7) {k9 : Nat → Int32 → Int32 → MM → Option (Int32 × MM)} : ∀ m i s, i ≤ 256 → 256 - i < m → IP W I z w mi i s → ∃ s', f_Mo_parts_28 n k9 m 559 (iZ z) (iZ w) (nI (ct (cuG W I z w) i)) (nI (ct (cuL W I z w) i)) (nI i) (K s ml) = k9 559 (nI (ct (cuG W I z w) 256)) (nI (ct (cuL W I z w) 256)) (K s' ml) ∧ IP W I z w mi 256 s' := by
  intro m
  induction m with
  | zero => intro i s h1 h2; omega
  | succ m ih =>
    intro i s h1 h2 h
    rw [f_Mo_parts_28]
    by_cases c : i = 256
    · subst c; rw [if_pos (by decide)]; exact ⟨s, rfl, h⟩
    · have hi : i < 256 := by omega
      have eI : s 567 (13568 + i) = b2i (I i) := by
        rw [h.2.2.2 567 _ (by omega) (by omega), ← hI, pS_in hi, ← pg01 hb]
      have eW : ∀ q, q < 256 → s 567 (12800 + q) = b2i (W q) := fun q hq => by
        rw [h.2.2.2 567 _ (by omega) (by omega), ← hW, pS_in hq, ← pg01 hb]
      have hx := x_lt i
      have hy := y_lt hi
      rw [if_neg (by rw [il1 (n := 256) (by omega) (by omega)]; omega), rf_559_18, bnd_s, ia2 (n := 13568), a_567 (by omega), bnd_s, eI]
      cases d : I i with
      | false =>
        rw [if_pos (show b2i false = 0 by decide)]
        unfold f_Mo_parts_183
        rw [nI_1]
        have g : cuG W I z w i = false := by unfold cuG; rw [d]; rfl
        have l : cuL W I z w i = false := by rw [cuL_t hi, d]; rfl
        obtain ⟨s', a1, a2⟩ := ih (i + 1) s (by omega) (by omega) (IP_no hi h d)
        refine ⟨s', ?_, a2⟩
        rw [← a1]
        simp only [ct, g, l, Bool.false_eq_true, if_false, Nat.add_zero]
      | true =>
        have off : cuG W I z w i = false → ∃ s', f_Mo_parts_168 n (f_Mo_parts_28 n k9 m) 559 (iZ z) (iZ w) (nI (ct (cuG W I z w) i)) (nI (ct (cuL W I z w) i)) (nI i) (K s ml) = k9 559 (nI (ct (cuG W I z w) 256)) (nI (ct (cuL W I z w) 256)) (K s' ml) ∧ IP W I z w mi 256 s' := by
          intro g
          unfold f_Mo_parts_168 f_Mo_parts_183
          rw [rf_559_18, bnd_s, ia2 (n := 13824), s_567 (by omega), bnd_s, nI_1, nI_1, nrw102, one1]
          have l : cuL W I z w i = true := by
            rw [cuL_t hi, d]
            unfold cuG at g
            rw [d, Bool.true_and] at g
            rw [g]; rfl
          obtain ⟨s', a1, a2⟩ := ih (i + 1) _ (by omega) (by omega) (IP_off hi h d g)
          refine ⟨s', ?_, a2⟩
          rw [← a1]
          simp only [ct, g, l, Bool.false_eq_true, if_false, if_true, Nat.add_zero]
        rw [if_neg (show ¬ b2i true = 0 by decide), id1 (n := 4) (by omega) (by omega) (by omega), ir1 (n := 8) (by omega) (by omega) (by omega), id1 (n := 32) (by omega) (by omega) (by omega), iZ_na, iZ_na, nm_t, nm_t]
        simp only [show (iZ (((i / 4 % 8 : Nat) : Int) + z) < 0) = (((i / 4 % 8 : Nat) : Int) + z < 0) from propext (iZ_l0 (by omega) (by omega)), show ((7 : Int32) < iZ (((i / 4 % 8 : Nat) : Int) + z)) = (7 < ((i / 4 % 8 : Nat) : Int) + z) from propext (iZ_g7 (by omega) (by omega)), show (iZ (((i / 32 : Nat) : Int) + w) < 0) = (((i / 32 : Nat) : Int) + w < 0) from propext (iZ_l0 (by omega) (by omega)), show (iZ (((i / 32 : Nat) : Int) + w) ≤ (7 : Int32)) = (((i / 32 : Nat) : Int) + w ≤ 7) from propext (iZ_l7 (by omega) (by omega))]
        have no97 : cuG W I z w i = false → ∃ s', f_Mo_parts_97 n (f_Mo_parts_28 n k9 m) 559 (iZ z) (iZ w) (nI (ct (cuG W I z w) i)) (nI (ct (cuL W I z w) i)) (nI i) (K s ml) = k9 559 (nI (ct (cuG W I z w) 256)) (nI (ct (cuL W I z w) 256)) (K s' ml) ∧ IP W I z w mi 256 s' := by
          intro g
          unfold f_Mo_parts_97 f_Mo_parts_116
          rw [if_pos rfl]
          exact off g
        by_cases hin : sIn z w i = true
        · have hs := sIn_t.mp hin
          have hto := (sTo_ok hi hin).1
          have ep : 4 * (8 * iZ (((i / 32 : Nat) : Int) + w) + iZ (((i / 4 % 8 : Nat) : Int) + z)) + irm (nI i) 4 = nI (sTo z w i) := by
            rw [iZ_to hs.1, iZ_to hs.2.2.1, im2 (n := 8), ia3, im2 (n := 4), ir1 (n := 4) (by omega) (by omega) (by omega), ia3]; rfl
          rw [if_neg (by omega), if_neg (by omega), if_neg (by omega), if_pos (by omega), ep]
          unfold f_Mo_parts_116
          rw [if_neg (nI_m1 (by omega)), rf_559_18, bnd_s, ia2 (n := 12800), a_567 (by omega), bnd_s, eW _ hto]
          cases q : W (sTo z w i) with
          | false =>
            rw [if_pos (show b2i false = 0 by decide)]
            exact off (by unfold cuG; rw [q]; simp)
          | true =>
            have g : cuG W I z w i = true := by unfold cuG; rw [d, hin, q]; rfl
            have l : cuL W I z w i = false := by rw [cuL_t hi, hin, q]; simp
            rw [if_neg (show ¬ b2i true = 0 by decide), bnd_s, ia2 (n := 13056), s_567 (by omega), bnd_s, rf_559_18, bnd_s, ia2 (n := 13312), s_567 (by omega), bnd_s, nrw102, nrw102, one1, zero1]
            unfold f_Mo_parts_183
            rw [nI_1, nI_1]
            obtain ⟨s', a1, a2⟩ := ih (i + 1) _ (by omega) (by omega) (IP_on hi h g hto)
            refine ⟨s', ?_, a2⟩
            rw [← a1]
            simp only [ct, g, l, Bool.false_eq_true, if_false, if_true, Nat.add_zero]
        · have g : cuG W I z w i = false := by unfold cuG; rw [show sIn z w i = false by simpa using hin]; simp
          have hs : ¬ (0 ≤ ((i / 4 % 8 : Nat) : Int) + z ∧ ((i / 4 % 8 : Nat) : Int) + z ≤ 7 ∧ 0 ≤ ((i / 32 : Nat) : Int) + w ∧ ((i / 32 : Nat) : Int) + w ≤ 7) := fun q => hin (sIn_t.mpr q)
          by_cases q1 : ((i / 4 % 8 : Nat) : Int) + z < 0
          · rw [if_pos q1]; exact no97 g
          · rw [if_neg q1]
            by_cases q2 : 7 < ((i / 4 % 8 : Nat) : Int) + z
            · rw [if_pos q2]; exact no97 g
            · rw [if_neg q2]
              by_cases q3 : ((i / 32 : Nat) : Int) + w < 0
              · rw [if_pos q3]; exact no97 g
              · rw [if_neg q3, if_neg (by omega)]; exact no97 g
theorem partsM (hb : B01 mi) (hW : pS mi 50 = W) (hI : pS mi 53 = I) (hz : -7 ≤ z ∧ z ≤ 7) (hw : -7 ≤ w ∧ w ≤ 7) (hn : 256 < n) : ∃ mi', f_Mo_parts n 559 (iZ z) (iZ w) (K mi ml) = some (b2i (prt W I z w), K mi' ml) ∧ pS mi' 51 = cuF W I z w ∧ FM mi mi' ∧ B01 mi' := by
  unfold f_Mo_parts
  rw [o_559, show (51 : Int32) = nI 51 from rfl, show (54 : Int32) = nI 54 from rfl, show (50 : Int32) = nI 50 from rfl, show (52 : Int32) = nI 52 from rfl, clears_s (by omega) (by omega), bnd_s, clears_s (by omega) (by omega), bnd_s, copies_S (B01_set (B01_set hb)) (by omega) (by omega) (by omega) hn, bnd_s]
  generalize e0 : setPg (setPg (setPg mi 51 (fun _ => false)) 54 (fun _ => false)) 52 (pS (setPg (setPg mi 51 (fun _ => false)) 54 (fun _ => false)) 50) = m0
  have hW0 : pS (setPg (setPg mi 51 (fun _ => false)) 54 (fun _ => false)) 50 = W := by rw [pS_ne (by omega), pS_ne (by omega)]; exact hW
  rw [hW0] at e0
  have hb0 : B01 m0 := by rw [← e0]; exact B01_set (B01_set (B01_set hb))
  have F0 : Fr [51, 52, 54] mi m0 := by rw [← e0]; exact ((Fr.rf.set (by simp)).set (by simp)).set (by simp)
  have hp0 : IP W I z w m0 0 m0 := by
    refine ⟨fun q hq => ?_, fun q hq => ?_, fun q hq => ?_, fun _ _ _ _ => rfl⟩
    · rw [show 13056 + q = 256 * 51 + q by omega, ← e0, setPg_out (by omega), setPg_out (by omega), setPg_in hq]; simp
    · rw [show 13312 + q = 256 * 52 + q by omega, ← e0, setPg_in hq]; simp
    · rw [show 13824 + q = 256 * 54 + q by omega, ← e0, setPg_out (by omega), setPg_in hq]; simp
  obtain ⟨m1, a1, p1, p2, p3, p4⟩ := parts_loop (n := n) (mi := m0) (ml := ml) hb0 (by rw [F0.pS (by simp)]; exact hW) (by rw [F0.pS (by simp)]; exact hI) hz hw (k9 := f_Mo_parts_189 n) n 0 m0 (by omega) (by omega) hp0
  rw [show (0 : Int32) = nI 0 from rfl]
  rw [show f_Mo_parts_28 n (f_Mo_parts_189 n) n 559 (iZ z) (iZ w) (nI 0) (nI 0) (nI 0) (K m0 ml) = _ from a1]
  have ht : ∀ q, q < 256 → decide (sTo (-z) (-w) q < 256) = true ∨ cuF W I z w q = false := fun q hq => by
    cases f : cuF W I z w q with
    | false => exact Or.inr rfl
    | true =>
      obtain ⟨k, k1, k2, k3, k4, k5⟩ := cuF_t.mp f
      left
      rw [← k4, (sTo_ok k1 k3).2.2]; simpa using k1
  have P51 : pS m1 51 = cuF W I z w := by
    rw [← show cu (cuF W I z w) = cuF W I z w from cu_cu _]
    refine cu_ext fun q hq => ?_
    unfold pg
    rw [show 256 * 51 + q = 13056 + q by omega, p1 q hq, b2i_d]
    rcases ht q hq with h | h
    · rw [h, Bool.and_true]
    · rw [h]; rfl
  have P52 : pS m1 52 = cuS W I z w := by
    refine cu_ext fun q hq => ?_
    unfold pg
    rw [show 256 * 52 + q = 13312 + q by omega, p2 q hq, b2i_d]
    rcases ht q hq with h | h
    · rw [h, Bool.and_true]
    · rw [h]; rfl
  have P54 : pS m1 54 = cuL W I z w := by
    rw [← show cu (cuL W I z w) = cuL W I z w from cu_cu _]
    refine cu_ext fun q hq => ?_
    unfold pg
    rw [show 256 * 54 + q = 13824 + q by omega, p3 q hq, b2i_d, decide_eq_true hq, Bool.and_true]
  have F1 : FM mi m1 := (F0.fm (by simp)).tr fun c j _ _ _ h4 => p4 c j (by have := h4 51 (by simp); have := h4 52 (by simp); omega) (by have := h4 54 (by simp); omega)
  have hb1 : B01 m1 := fun j => by
    by_cases c1 : 13056 ≤ j ∧ j < 13312
    · rw [show j = 13056 + (j - 13056) by omega, p1 _ (by omega)]
      cases (cuF W I z w (j - 13056) && decide (sTo (-z) (-w) (j - 13056) < 256))
      · exact Or.inl rfl
      · exact Or.inr rfl
    · by_cases c2 : 13312 ≤ j ∧ j < 13568
      · rw [show j = 13312 + (j - 13312) by omega, p2 _ (by omega)]
        cases (W (j - 13312) && !(cuF W I z w (j - 13312) && decide (sTo (-z) (-w) (j - 13312) < 256)))
        · exact Or.inl rfl
        · exact Or.inr rfl
      · by_cases c3 : 13824 ≤ j ∧ j < 14080
        · rw [show j = 13824 + (j - 13824) by omega, p3 _ (by omega)]
          cases (cuL W I z w (j - 13824) && decide (j - 13824 < 256))
          · exact Or.inl rfl
          · exact Or.inr rfl
        · rw [p4 567 j (by omega) (by omega)]; exact hb0 j
  have hG : ct (cuG W I z w) 256 = 0 ↔ noS (cuF W I z w) = true := by
    rw [ct_0, noS_t]
    constructor
    · intro h q hq
      cases f : cuF W I z w q with
      | false => rfl
      | true =>
        obtain ⟨k, k1, k2, k3, k4, k5⟩ := cuF_t.mp f
        have := h k k1
        unfold cuG at this
        rw [k2, k3, k4, k5] at this; cases this
    · intro h k hk
      cases g : cuG W I z w k with
      | false => rfl
      | true =>
        unfold cuG at g
        rw [Bool.and_eq_true, Bool.and_eq_true] at g
        have := h (sTo z w k) (sTo_ok hk g.2.1).1
        rw [cuF_t.mpr ⟨k, hk, g.1, g.2.1, rfl, g.2.2⟩] at this; cases this
  have hcl := ct_lt31 (S := cuL W I z w) (Nat.le_refl 256)
  have hcg := ct_lt31 (S := cuG W I z w) (Nat.le_refl 256)
  have hcs := ct_lt31 (S := cuS W I z w) (Nat.le_refl 256)
  unfold f_Mo_parts_189
  by_cases d0 : noS (cuF W I z w) = true
  · rw [if_pos (by rw [hG.mpr d0]; rfl)]
    refine ⟨m1, ?_, P51, F1, hb1⟩
    unfold prt
    rw [d0]; rfl
  · have d0' : noS (cuF W I z w) = false := by simpa using d0
    rw [if_neg (by rw [ie1 (n := 0) (by omega) hcg, hG]; exact d0)]
    have bad : (ct (cuL W I z w) 256 = 0 ∨ ¬ ct (cuS W I z w) 256 = ct (cuL W I z w) 256) → prt W I z w = false := by
      intro h
      cases r : prt W I z w with
      | false => rfl
      | true =>
        unfold prt at r
        rw [Bool.and_eq_true, Bool.and_eq_true, Bool.and_eq_true, decide_eq_true_iff, decide_eq_true_iff] at r
        have h1 := like_ct r.2
        have h2 := ct_pos (pcs_no r.1.2)
        omega
    by_cases d1 : ct (cuL W I z w) 256 = 0
    · rw [if_pos (by rw [d1]; rfl), bad (Or.inl d1)]
      exact ⟨m1, rfl, P51, F1, hb1⟩
    · rw [if_neg (by rw [ie1 (n := 0) (by omega) hcl]; exact d1), show (52 : Int32) = nI 52 from rfl, areaOf_S (by omega) hn, bnd_s, P52]
      by_cases d2 : ct (cuS W I z w) 256 = ct (cuL W I z w) 256
      · obtain ⟨m2, b1, b2⟩ := piecesOf_S (n := n) (p := 51) (mi := m1) (ml := ml) (by omega) hn
        rw [P51] at b1
        have hpc := pcs_le 256 0 (cuF W I z w)
        have hps := pcs_le 256 0 (cuS W I z w)
        have pe : prt W I z w = (decide (pcs 256 0 (cuF W I z w) = 1) && decide (pcs 256 0 (cuS W I z w) = 1) && anyG (cuS W I z w) (baC (cuL W I z w))) := by
          unfold prt; rw [d0']; rfl
        rw [if_pos (by rw [d2]), show (51 : Int32) = nI 51 from rfl, b1, bnd_s, pe]
        by_cases d3 : pcs 256 0 (cuF W I z w) = 1
        · obtain ⟨m3, c1, c2⟩ := piecesOf_S (n := n) (p := 52) (mi := m2) (ml := ml) (by omega) hn
          rw [b2.pS, P52] at c1
          rw [if_pos (by rw [d3]; rfl), c1, bnd_s, decide_eq_true d3]
          have P51' : pS m3 51 = cuF W I z w := by rw [c2.pS, b2.pS]; exact P51
          by_cases d4 : pcs 256 0 (cuS W I z w) = 1
          · obtain ⟨m4, g1, g2, g3⟩ := alikeBy_S (n := n) (p := 52) (q := 54) (mi := m3) (ml := ml) (c2.B (b2.B hb1)) (by omega) (by omega) (by simp) (by omega) hn
            rw [c2.pS, b2.pS, P52, c2.pS, b2.pS, P54] at g1
            rw [if_pos (by rw [d4]; rfl), show (54 : Int32) = nI 54 from rfl, g1, bnd_s, decide_eq_true d4]
            have ff : FM mi m4 := F1.tr (b2.fm.tr (c2.fm.tr (g2.fm (by simp))))
            cases q : anyG (cuS W I z w) (baC (cuL W I z w)) with
            | false =>
              rw [if_pos (show oI (alG (cuS W I z w) (cuL W I z w)) (-1) = -1 from oI_neg.2.mpr q)]
              exact ⟨m4, rfl, by rw [g2.pS (by simp)]; exact P51', ff, g3⟩
            | true =>
              rw [if_neg (show ¬ oI (alG (cuS W I z w) (cuL W I z w)) (-1) = -1 from fun r => by have := oI_neg.2.mp r; unfold anyG at q; rw [this] at q; cases q)]
              exact ⟨m4, rfl, by rw [g2.pS (by simp)]; exact P51', ff, g3⟩
          · rw [if_neg (by rw [ie1 (n := 1) (by omega) (by omega)]; exact d4), decide_eq_false d4]
            exact ⟨m3, rfl, P51', F1.tr (b2.fm.tr c2.fm), c2.B (b2.B hb1)⟩
        · rw [if_neg (by rw [ie1 (n := 1) (by omega) (by omega)]; exact d3), decide_eq_false d3]
          exact ⟨m2, rfl, by rw [b2.pS]; exact P51, F1.tr b2.fm, b2.B hb1⟩
      · rw [if_neg (by rw [nI_eq hcs hcl]; exact d2), bad (Or.inr d2)]
        exact ⟨m1, rfl, P51, F1, hb1⟩
end PTM
