/-! ===== the class's Meaning ===== -/
/-- the numbers and names of tokens -/
def vT (T : Nat → Nat) (z i : Nat) : Nat := dV T (tP T z i) (te T z (tP T z i) - tP T z i)
def uT (T : Nat → Nat) (z i : Nat) : Nat := cB 32 T (tP T z i) (te T z (tP T z i) - tP T z i)
theorem kd_2 {T : Nat → Nat} {z i : Nat} (h : kd T z i = 2) : tP T z i < z ∧ te T z (tP T z i) - tP T z i ≤ 8 ∧ (∀ j, j < te T z (tP T z i) - tP T z i → isL (T (tP T z i + j)) = true) := by
  unfold kd at h
  by_cases c : tP T z i < z
  · rw [if_pos c] at h
    unfold ty at h
    by_cases c1 : isL (T (tP T z i)) = true
    · rw [if_pos c1] at h
      have hte : te T z (tP T z i) = rE T isL z (tP T z i) := by unfold te; rw [if_pos c1]
      rw [hte]
      refine ⟨c, ?_, fun j hj => (rE_s (T := T) (P := isL) (z := z) (p := tP T z i) (by omega)).2.2.1 _ (by omega) (by omega)⟩
      by_cases d : 8 < rE T isL z (tP T z i) - tP T z i
      · unfold kwd at h
        rw [if_pos d] at h; omega
      · omega
    · rw [if_neg c1] at h
      by_cases c2 : isD (T (tP T z i)) = true
      · rw [if_pos c2] at h
        by_cases c3 : rE T isD z (tP T z i) - tP T z i ≤ 2
        · rw [if_pos c3] at h; omega
        · rw [if_neg c3] at h; omega
      · rw [if_neg c2] at h
        by_cases c3 : isG (T (tP T z i)) = true
        · rw [if_pos c3] at h
          unfold isG at c3
          rw [decide_eq_true_iff] at c3
          omega
        · rw [if_neg c3] at h; omega
  · rw [if_neg c] at h; omega
theorem kd_3 {T : Nat → Nat} {z i : Nat} (h : kd T z i = 3) : tP T z i < z ∧ vT T z i < 100 := by
  unfold kd at h
  by_cases c : tP T z i < z
  · rw [if_pos c] at h
    unfold ty at h
    by_cases c1 : isL (T (tP T z i)) = true
    · rw [if_pos c1] at h
      exfalso
      unfold kwd at h
      by_cases d : 8 < rE T isL z (tP T z i) - tP T z i
      · rw [if_pos d] at h; omega
      · rw [if_neg d] at h
        cases e2 : fnd (fun w => decide (cB 32 (Wd w) 0 (wn w) = cB 32 T (tP T z i) (rE T isL z (tP T z i) - tP T z i))) 10 0 with
        | none => rw [e2] at h; cases h
        | some w => rw [e2] at h; have h : 10 + w = 3 := h; omega
    · rw [if_neg c1] at h
      by_cases c2 : isD (T (tP T z i)) = true
      · rw [if_pos c2] at h
        have hte : te T z (tP T z i) = rE T isD z (tP T z i) := by unfold te; rw [if_neg c1, if_pos c2]
        by_cases c3 : rE T isD z (tP T z i) - tP T z i ≤ 2
        · refine ⟨c, ?_⟩
          unfold vT
          rw [hte]
          have h1 := dV_lt (T := T) (p := tP T z i) (rE T isD z (tP T z i) - tP T z i) (fun j hj => (rE_s (T := T) (P := isD) (z := z) (p := tP T z i) (by omega)).2.2.1 _ (by omega) (by omega))
          have h2 : 10 ^ (rE T isD z (tP T z i) - tP T z i) ≤ 10 ^ 2 := Nat.pow_le_pow_right (by omega) c3
          omega
        · rw [if_neg c3] at h; omega
      · rw [if_neg c2] at h
        by_cases c3 : isG (T (tP T z i)) = true
        · rw [if_pos c3] at h
          unfold isG at c3
          rw [decide_eq_true_iff] at c3
          omega
        · rw [if_neg c3] at h; omega
  · rw [if_neg c] at h; omega
theorem uT_b {T : Nat → Nat} {z i : Nat} (h : kd T z i = 2) : uT T z i < 2 ^ 63 := by
  have h2 := kd_2 h
  unfold uT
  have h1 := cB_lt (B := 32) (T := T) (p := tP T z i) (by omega) _ h2.2.2
  have h3 : 32 ^ (te T z (tP T z i) - tP T z i) ≤ 32 ^ 8 := Nat.pow_le_pow_right (by omega) h2.2.1
  have h4 : (32 : Nat) ^ 8 < 2 ^ 63 := by decide
  omega
theorem n32 : ∀ v, v < 100 → (l64 v).toInt32 = nI v := by decide +kernel
/-- what Meaning holds ahead of token i -/
def MnM (T : Nat → Nat) (z i : Nat) (mi : IM) (ml : JM) : Prop :=
  (mi 10 1 = nI (cN (kd T z) i).length ∧ ∀ j, j < (cN (kd T z) i).length → ml 11 j = l64 (uT T z ((cN (kd T z) i).getD j 0))) ∧
  (∀ s, Au (kd T z) i = some s → 2 ≤ s.1 → ml 10 2 = l64 (uT T z (oN (kd T z) i))) ∧
  (0 < i → mi 10 3 = nI (mW (kd T z) (vT T z) i).1 ∧ mi 10 4 = nI (mW (kd T z) (vT T z) i).2.1 ∧ (1 ≤ (mW (kd T z) (vT T z) i).2.1 → mi 10 5 = nI (mW (kd T z) (vT T z) i).2.2.1) ∧ (2 ≤ (mW (kd T z) (vT T z) i).2.1 → mi 10 6 = nI (mW (kd T z) (vT T z) i).2.2.2))
section MEA
variable {n z c i : Nat} {mi : IM} {ml : JM} {T : Nat → Nat}
theorem valueA (hc : c ≤ 401) (h : LexC T z c mi ml) (hi : i < c) : f_Tokens_valueAt n 4 (nI i) (K mi ml) = some (ml 7 i, K mi ml) := by
  unfold f_Tokens_valueAt
  rw [o_4, if_neg (inN (by omega)), g_4, bnd_s, h.1, if_neg (by rw [nI_leI (by omega) (by omega)]; omega), rf_4_2, bnd_s, a_7 (by omega), bnd_s]
theorem toldA (hA : Au (kd T z) i ≠ none) (hk : kd T z i = 2) (hn : 20 < n) (h : mi 10 1 = nI (cN (kd T z) i).length) (hN : ∀ j, j < (cN (kd T z) i).length → ml 11 j = l64 (uT T z ((cN (kd T z) i).getD j 0))) : f_Meaning_isTold n 10 (l64 (uT T z i)) (K mi ml) = some (b2i (told (kd T z) (uT T z) i), K mi ml) := by
  obtain ⟨s, hs⟩ := Option.ne_none_iff_exists'.mp hA
  obtain ⟨i1, i2, i3⟩ := Au_N hs
  have hb := Au_i hs
  have hlen : (cN (kd T z) i).length ≤ 14 := by omega
  have L : ∀ m j, j ≤ (cN (kd T z) i).length → (cN (kd T z) i).length - j < m → f_Meaning_isTold_2 n m 10 (l64 (uT T z i)) (nI j) (K mi ml) = some (b2i (fnd (fun j => uT T z ((cN (kd T z) i).getD j 0) == uT T z i) ((cN (kd T z) i).length - j) j).isSome, K mi ml) := by
    intro m
    induction m with
    | zero => intro j h1 h2; omega
    | succ m ih =>
      intro j h1 h2
      rw [f_Meaning_isTold_2, g_10, bnd_s, h]
      by_cases d : j = (cN (kd T z) i).length
      · rw [if_pos (nI_le (by omega) (by omega)), d, Nat.sub_self]; rfl
      · rw [if_neg (by rw [nI_leI (by omega) (by omega)]; omega), rf_10_0, bnd_s, a_11 (by omega), bnd_s, show (cN (kd T z) i).length - j = ((cN (kd T z) i).length - (j + 1)) + 1 by omega, fnd_s, hN j (by omega)]
        have heq : lcp (l64 (uT T z ((cN (kd T z) i).getD j 0))) (l64 (uT T z i)) = 0 ↔ uT T z ((cN (kd T z) i).getD j 0) = uT T z i := by
          rw [lcp_0, l64_eq (uT_b (i2 j (by omega)).1) (uT_b hk)]
        by_cases e : uT T z ((cN (kd T z) i).getD j 0) = uT T z i
        · rw [if_pos (heq.mpr e), if_pos (by simpa using e)]; rfl
        · rw [if_neg (fun q => e (heq.mp q)), if_neg (by simpa using e), nI_1]; exact ih (j + 1) (by omega) (by omega)
  unfold f_Meaning_isTold
  rw [o_10]
  exact L n 0 (by omega) (by omega)
theorem nF_c {w : Nat × Nat × Nat × Nat} {x : Nat} (hx : x < 100) (hw : w.1 < 20 ∧ w.2.1 ≤ 401 ∧ w.2.2.1 < 100 ∧ w.2.2.2 < 100) (h3 : mi 10 3 = nI w.1) (h5 : 3 ≤ w.2.1 + 1 → mi 10 5 = nI w.2.2.1) (h6 : 3 ≤ w.2.1 + 1 → mi 10 6 = nI w.2.2.2) : f_Meaning_numberFault_37 n 10 (nI x) (nI w.2.1) (K mi ml) = some (nI (if nF w x = true then 5 else 0), K mi ml) := by
  unfold f_Meaning_numberFault_37 f_Meaning_numberFault_55 f_Meaning_leastNumber f_Meaning_mostNumber nF
  rw [o_10]
  by_cases c : w.2.1 < 2
  · rw [if_pos (show nI w.2.1 < 2 by rw [it2 (n := 2) (by omega) (by omega)]; exact c), bnd_s, if_neg (inN (show x < 2 ^ 31 by omega)), o_10, if_neg (show ¬ (2 : Int32) ≤ nI w.2.1 by rw [il1 (n := 2) (by omega) (by omega)]; omega), bnd_s, if_pos c]
    by_cases d : 7 < x
    · rw [if_neg (show ¬ nI x ≤ 7 by rw [il2 (n := 7) (by omega) (by omega)]; omega), if_pos (by rw [decide_eq_true_iff]; omega)]; rfl
    · rw [if_pos (show nI x ≤ 7 by rw [il2 (n := 7) (by omega) (by omega)]; omega), if_neg (by rw [decide_eq_true_iff]; omega)]; rfl
  · rw [if_neg (show ¬ nI w.2.1 < 2 by rw [it2 (n := 2) (by omega) (by omega)]; exact c), g_10, bnd_s, h3, if_neg c]
    by_cases e : w.1 = 17
    · rw [if_pos (show nI w.1 = 17 by rw [e]; rfl), if_pos e, bnd_s]
      by_cases f : x < 1
      · rw [if_pos (show nI x < 1 by rw [it2 (n := 1) (by omega) (by omega)]; exact f), if_pos (by rw [decide_eq_true_iff]; omega)]; rfl
      · rw [if_neg (show ¬ nI x < 1 by rw [it2 (n := 1) (by omega) (by omega)]; exact f), o_10, if_pos (show (2 : Int32) ≤ nI w.2.1 by rw [il1 (n := 2) (by omega) (by omega)]; omega), g_10, bnd_s, h3, if_pos (show nI w.1 = 17 by rw [e]; rfl)]
        have fin : ∀ y : Nat, y < 100 → (if nI x ≤ (8 - nI y) then some ((0 : Int32), K mi ml) else some (5, K mi ml)) = some (nI (if decide ((2 ≤ w.2.1 ∧ w.1 = 17 ∧ x < 1) ∨ ((8 : Int) - (y : Int)) < (x : Int)) = true then 5 else 0), K mi ml) := fun y hy => by
          rw [show (8 : Int32) = iZ 8 from rfl, iZ_nat y, iZ_sub, iZ_nat x]
          by_cases g : (8 : Int) - (y : Int) < (x : Int)
          · rw [if_neg (show ¬ iZ (x : Int) ≤ iZ (8 - (y : Int)) by rw [iZ_le (by omega) (by omega) (by omega) (by omega)]; omega), if_pos (by rw [decide_eq_true_iff]; omega)]; rfl
          · rw [if_pos (show iZ (x : Int) ≤ iZ (8 - (y : Int)) by rw [iZ_le (by omega) (by omega) (by omega) (by omega)]; omega), if_neg (by rw [decide_eq_true_iff]; omega)]; rfl
        by_cases g : w.2.1 = 2
        · rw [if_pos (show nI w.2.1 = 2 by rw [g]; rfl), g_10, bnd_s, h5 (by omega), bnd_s, if_pos g]
          exact fin _ (by omega)
        · rw [if_neg (show ¬ nI w.2.1 = 2 by rw [ie1 (n := 2) (by omega) (by omega)]; exact g), g_10, bnd_s, h6 (by omega), bnd_s, if_neg g]
          exact fin _ (by omega)
    · rw [if_neg (show ¬ nI w.1 = 17 by rw [ie1 (n := 17) (by omega) (by omega)]; exact e), if_neg e, bnd_s, if_neg (inN (show x < 2 ^ 31 by omega)), o_10, if_pos (show (2 : Int32) ≤ nI w.2.1 by rw [il1 (n := 2) (by omega) (by omega)]; omega), g_10, bnd_s, h3, if_neg (show ¬ nI w.1 = 17 by rw [ie1 (n := 17) (by omega) (by omega)]; exact e), bnd_s]
      by_cases d : 3 < x
      · rw [if_neg (show ¬ nI x ≤ 3 by rw [il2 (n := 3) (by omega) (by omega)]; omega), if_pos (by rw [decide_eq_true_iff]; omega)]; rfl
      · rw [if_pos (show nI x ≤ 3 by rw [il2 (n := 3) (by omega) (by omega)]; omega), if_neg (by rw [decide_eq_true_iff]; omega)]; rfl
theorem faultA {s s' : SyS} (hc : c ≤ 401) (hn : 20 < n) (h : LexC T z c mi ml) (hi : i < c) (hT : ∀ j, T j < 256) (hA : Au (kd T z) i = some s) (hA' : Au (kd T z) (i + 1) = some s') (hM : MnM T z i mi ml) : ∃ mi' ml', f_Meaning_faultAt n 10 4 (nI i) (K mi ml) = some (nI (mf (kd T z) (vT T z) (uT T z) i), K mi' ml') ∧ MnM T z (i + 1) mi' ml' ∧ (∀ a, a ≠ 10 → mi' a = mi a) ∧ (∀ a, a ≠ 10 → a ≠ 11 → ml' a = ml a) := by
  have hkb : ∀ j, kd T z j < 256 := fun j => by
    unfold kd
    by_cases d : tP T z j < z
    · rw [if_pos d]; exact ty_lt (hT _)
    · rw [if_neg d]; omega
  have hk := hkb i
  have hAn : Au (kd T z) i ≠ none := by rw [hA]; intro q; cases q
  obtain ⟨s0, e0, e2, e3⟩ := Au_b hA'
  have es : s0 = s := by rw [hA] at e0; cases e0; rfl
  subst es
  have hN := Au_N hA
  have hb := Au_i hA
  have ht := Au_t hA
  have hc2 := nx_c e2
  obtain ⟨⟨m1, m2⟩, m3, m4⟩ := hM
  have g : ∀ j : Nat, j < 256 → kd T z i ≠ j → ¬ nI (kd T z i) = nI j := fun j hj hne => by rw [nI_eq (by omega) (by omega)]; exact hne
  have hty : kd T z i = ty T z (tP T z i) := by unfold kd; rw [if_pos (h.2 i hi).1]
  have hWb := mW_b (k := kd T z) (v := vT T z) (fun j hj => (kd_3 hj).2) i
  have hi0 : kd T z i ≠ 10 → kd T z i ≠ 11 → 0 < i := fun q1 q2 => by
    have := ht.2
    by_cases w : i = 0
    · have := this w; omega
    · omega
  unfold f_Meaning_faultAt
  rw [o_10, kindA hc (by omega) h, bnd_s, if_pos hi]
  have sameM : kd T z i ≠ 2 ∨ tell (kd T z) i = false → ¬ (10 ≤ kd T z i ∧ kd T z i ≤ 19) → kd T z i ≠ 3 → kd T z i ≠ 59 → MnM T z (i + 1) mi ml := fun q1 q2 q3 q4 => by
    have c1 : cN (kd T z) (i + 1) = cN (kd T z) i := by rw [cN, if_neg q4]
    have c2 : oN (kd T z) (i + 1) = oN (kd T z) i := by
      rw [oN, if_neg]
      rintro ⟨w1, w2⟩
      rcases q1 with q1 | q1
      · exact q1 w1
      · rw [q1] at w2; cases w2
    have c3 : mW (kd T z) (vT T z) (i + 1) = mW (kd T z) (vT T z) i := by rw [mW, if_neg q2, if_neg q3]
    unfold MnM
    rw [c1, c2, c3]
    refine ⟨⟨m1, m2⟩, fun x hx h2 => m3 s0 hA ?_, fun _ => m4 (hi0 (by omega) (by omega))⟩
    rw [hA'] at hx
    cases hx
    by_cases w : s0.1 = 1
    · have := ht.1.mpr w
      rcases q1 with q1 | q1
      · omega
      · rw [q1] at this; cases this
    · omega
  by_cases k2 : kd T z i = 2
  · have hp := hi0 (by omega) (by omega)
    rw [if_pos (show nI (kd T z i) = 2 by rw [k2]; rfl), is1 (n := 1) (by omega), kindA hc (by omega) h, bnd_s, if_pos (show i - 1 < c by omega)]
    have hv : ml 7 i = l64 (uT T z i) := (h.2 i hi).2.2.2.2 (by rw [← hty]; exact k2)
    have hmf : mf (kd T z) (vT T z) (uT T z) i = if tell (kd T z) i = true then (if told (kd T z) (uT T z) i = true then 3 else 0) else (if told (kd T z) (uT T z) i = true then 0 else 4) := by unfold mf; rw [if_pos k2]
    have hkm := hkb (i - 1)
    have hit : f_Meaning_isTelling n (nI (kd T z (i - 1))) (K mi ml) = some (b2i (tell (kd T z) i), K mi ml) := by
      unfold f_Meaning_isTelling f_Meaning_isTelling_12 tell
      by_cases w : kd T z (i - 1) = 10
      · rw [if_pos (show nI (kd T z (i - 1)) = 10 by rw [w]; rfl), decide_eq_true ⟨hp, Or.inl w⟩]; rfl
      · rw [if_neg (show ¬ nI (kd T z (i - 1)) = 10 by rw [ie1 (n := 10) (by omega) (by omega)]; exact w)]
        by_cases w2 : kd T z (i - 1) = 11
        · rw [if_pos (show nI (kd T z (i - 1)) = 11 by rw [w2]; rfl), decide_eq_true ⟨hp, Or.inr w2⟩]; rfl
        · rw [if_neg (show ¬ nI (kd T z (i - 1)) = 11 by rw [ie1 (n := 11) (by omega) (by omega)]; exact w2), decide_eq_false (by omega)]; rfl
    rw [show f_Meaning_isTelling n (nI (kd T z (i - 1))) (K mi ml) = _ from hit, bnd_s]
    cases et : tell (kd T z) i with
    | false =>
      rw [et, if_neg (by decide)] at hmf
      rw [if_pos (show b2i false = 0 from rfl), valueA hc h hi, bnd_s, hv]
      unfold f_Meaning_usedNameFault
      rw [o_10, toldA hAn k2 hn m1 m2, bnd_s, hmf]
      refine ⟨mi, ml, ?_, sameM (Or.inr et) (by omega) (by omega) (by omega), fun _ _ => rfl, fun _ _ _ => rfl⟩
      cases told (kd T z) (uT T z) i <;> rfl
    | true =>
      rw [et, if_pos rfl] at hmf
      rw [if_neg (show ¬ b2i true = 0 by decide), valueA hc h hi, bnd_s, hv]
      unfold f_Meaning_openNameFault
      rw [o_10, pl_10, bnd_s, toldA hAn k2 hn m1 (fun j hj => by rw [upd2_ne (by omega)]; exact m2 j hj), bnd_s, hmf]
      have c1 : cN (kd T z) (i + 1) = cN (kd T z) i := by rw [cN, if_neg (by omega)]
      have c2 : oN (kd T z) (i + 1) = i := by rw [oN, if_pos ⟨k2, et⟩]
      have c3 : mW (kd T z) (vT T z) (i + 1) = mW (kd T z) (vT T z) i := by rw [mW, if_neg (by omega), if_neg (by omega)]
      refine ⟨mi, upd2 ml 10 2 (l64 (uT T z i)), ?_, ?_, fun _ _ => rfl, fun a q1 _ => by rw [upd2_ne q1]⟩
      · cases told (kd T z) (uT T z) i <;> rfl
      · unfold MnM
        rw [c1, c2, c3]
        exact ⟨⟨m1, fun j hj => by rw [upd2_ne (by omega)]; exact m2 j hj⟩, fun x hx h2 => by rw [uE], fun _ => m4 hp⟩
  rw [if_neg (show ¬ nI (kd T z i) = 2 from g 2 (by omega) k2)]
  by_cases k3 : kd T z i = 3
  · have hp := hi0 (by omega) (by omega)
    have hv : ml 7 i = l64 (vT T z i) := (h.2 i hi).2.2.2.1 (by rw [← hty]; exact k3)
    have hlt := (kd_3 k3).2
    have hm := m4 hp
    have hmf : mf (kd T z) (vT T z) (uT T z) i = if nF (mW (kd T z) (vT T z) i) (vT T z i) = true then 5 else 0 := by unfold mf; rw [if_neg k2, if_pos k3]
    rw [if_pos (show nI (kd T z i) = 3 by rw [k3]; rfl), valueA hc h hi, bnd_s, hv, n32 _ hlt]
    unfold f_Meaning_numberFault
    rw [o_10, g_10, bnd_s, bnd_s, hm.2.1, p_10, bnd_s, nI_1]
    have c1 : cN (kd T z) (i + 1) = cN (kd T z) i := by rw [cN, if_neg (by omega)]
    have c2 : oN (kd T z) (i + 1) = oN (kd T z) i := by rw [oN, if_neg (by omega)]
    have c3 : mW (kd T z) (vT T z) (i + 1) = ((mW (kd T z) (vT T z) i).1, (mW (kd T z) (vT T z) i).2.1 + 1, if (mW (kd T z) (vT T z) i).2.1 = 0 then vT T z i else (mW (kd T z) (vT T z) i).2.2.1, if (mW (kd T z) (vT T z) i).2.1 = 1 then vT T z i else (mW (kd T z) (vT T z) i).2.2.2) := by rw [mW, if_neg (by omega), if_pos k3]
    have hs2 : 2 ≤ s0.1 := by omega
    generalize hw : mW (kd T z) (vT T z) i = w at hm c3 hWb hmf
    have newM : ∀ m2' : IM, (∀ a, a ≠ 10 → m2' a = mi a) → m2' 10 1 = mi 10 1 → m2' 10 3 = mi 10 3 → m2' 10 4 = nI (w.2.1 + 1) → (1 ≤ w.2.1 + 1 → m2' 10 5 = nI (if w.2.1 = 0 then vT T z i else w.2.2.1)) → (2 ≤ w.2.1 + 1 → m2' 10 6 = nI (if w.2.1 = 1 then vT T z i else w.2.2.2)) → MnM T z (i + 1) m2' ml := fun m2' q0 q1 q2 q3 q4 q5 => by
      unfold MnM
      rw [c1, c2, c3]
      exact ⟨⟨by rw [q1]; exact m1, m2⟩, fun x hx h2 => m3 s0 hA hs2, fun _ => ⟨by rw [q2]; exact hm.1, q3, q4, q5⟩⟩
    by_cases d0 : w.2.1 = 0
    · rw [if_pos (show nI w.2.1 = 0 by rw [d0]; rfl), p_10, bnd_s, nF_c hlt ⟨hWb.1, by omega, hWb.2.2⟩ (by rw [u2, if_neg (by omega), u2, if_neg (by omega)]; exact hm.1) (fun q => by omega) (fun q => by omega), bnd_s, hmf]
      refine ⟨_, ml, rfl, newM _ (fun a q => by rw [upd2_ne q, upd2_ne q]) (by rw [u2, if_neg (by omega), u2, if_neg (by omega)]) (by rw [u2, if_neg (by omega), u2, if_neg (by omega)]) (by rw [u2, if_neg (by omega), uE]) (fun _ => by rw [uE, if_pos d0]) (fun q => by omega), fun a q => by rw [upd2_ne q, upd2_ne q], fun _ _ _ => rfl⟩
    · rw [if_neg (show ¬ nI w.2.1 = 0 by rw [show (0 : Int32) = nI 0 from rfl, nI_eq (by omega) (by omega)]; exact d0)]
      by_cases d1 : w.2.1 = 1
      · rw [if_pos (show nI w.2.1 = 1 by rw [d1]; rfl), p_10, bnd_s, nF_c hlt ⟨hWb.1, by omega, hWb.2.2⟩ (by rw [u2, if_neg (by omega), u2, if_neg (by omega)]; exact hm.1) (fun q => by omega) (fun q => by omega), bnd_s, hmf]
        refine ⟨_, ml, rfl, newM _ (fun a q => by rw [upd2_ne q, upd2_ne q]) (by rw [u2, if_neg (by omega), u2, if_neg (by omega)]) (by rw [u2, if_neg (by omega), u2, if_neg (by omega)]) (by rw [u2, if_neg (by omega), uE]) (fun _ => by rw [u2, if_neg (by omega), u2, if_neg (by omega), if_neg d0]; exact hm.2.2.1 (by omega)) (fun q => by rw [uE, if_pos d1]), fun a q => by rw [upd2_ne q, upd2_ne q], fun _ _ _ => rfl⟩
      · rw [if_neg (show ¬ nI w.2.1 = 1 by rw [ie1 (n := 1) (by omega) (by omega)]; exact d1), nF_c hlt ⟨hWb.1, by omega, hWb.2.2⟩ (by rw [u2, if_neg (by omega)]; exact hm.1) (fun q => by rw [u2, if_neg (by omega)]; exact hm.2.2.1 (by omega)) (fun q => by rw [u2, if_neg (by omega)]; exact hm.2.2.2 (by omega)), bnd_s, hmf]
        refine ⟨_, ml, rfl, newM _ (fun a q => by rw [upd2_ne q]) (by rw [u2, if_neg (by omega)]) (by rw [u2, if_neg (by omega)]) (by rw [uE]) (fun _ => by rw [u2, if_neg (by omega), if_neg d0]; exact hm.2.2.1 (by omega)) (fun q => by rw [u2, if_neg (by omega), if_neg d1]; exact hm.2.2.2 (by omega)), fun a q => by rw [upd2_ne q], fun _ _ _ => rfl⟩
  rw [if_neg (show ¬ nI (kd T z i) = 3 from g 3 (by omega) k3)]
  have hmf : mf (kd T z) (vT T z) (uT T z) i = 0 := by unfold mf; rw [if_neg k2, if_neg k3]
  rw [hmf]
  by_cases k59 : kd T z i = 59
  · have h7 : s0.1 = 7 := by omega
    have hlen := hN.2.2
    rw [if_neg (by omega)] at hlen
    rw [if_pos (show nI (kd T z i) = 59 by rw [k59]; rfl)]
    unfold f_Meaning_closeName
    rw [o_10, g_10, bnd_s, rf_10_0, bnd_s, aN_K ds_11 (by decide), bnd_s, m1, if_neg (by rw [nI_leI (by omega) (by omega)]; omega), bnd_s, bnd_s, gl_10, bnd_s, s_11 (by omega), bnd_s, g_10, bnd_s, m1, nI_1, p_10, bnd_s]
    have c1 : cN (kd T z) (i + 1) = cN (kd T z) i ++ [oN (kd T z) i] := by rw [cN, if_pos k59]
    have c3 : mW (kd T z) (vT T z) (i + 1) = mW (kd T z) (vT T z) i := by rw [mW, if_neg (by omega), if_neg (by omega)]
    refine ⟨_, _, rfl, ?_, fun a q => by rw [upd2_ne q], fun a q1 q2 => by rw [upd2_ne q2]⟩
    unfold MnM
    rw [c1, c3]
    refine ⟨⟨by rw [uE, List.length_append]; rfl, fun j hj => ?_⟩, fun x hx h2 => ?_, fun _ => ?_⟩
    · rw [List.length_append, List.length_singleton] at hj
      by_cases d : j = (cN (kd T z) i).length
      · rw [d, uE, m3 s0 hA (by omega)]; simp
      · rw [u2, if_neg (fun q => d q.2), show (cN (kd T z) i ++ [oN (kd T z) i]).getD j 0 = (cN (kd T z) i).getD j 0 by simp [List.getD, List.getElem?_append_left (show j < (cN (kd T z) i).length by omega)]]
        exact m2 j (by omega)
    · exfalso
      rw [hA'] at hx
      cases hx
      rcases hc2 with ⟨c, d, rfl⟩ | ⟨c, d, rfl⟩ | ⟨c, d, rfl⟩ | ⟨c, d, rfl⟩ | ⟨c, d, rfl⟩ | ⟨c, d, rfl⟩ | ⟨c, d, rfl⟩ | ⟨c, d, rfl⟩ | ⟨c, d, rfl⟩ | ⟨c, d, rfl⟩ | ⟨c, d, rfl⟩ | ⟨c, d, rfl⟩ | ⟨c, d, rfl⟩ | ⟨c, d, rfl⟩ | ⟨c, d, rfl⟩ | ⟨c, d, rfl⟩ | ⟨c, d, rfl⟩ | ⟨c, d, rfl⟩ <;> simp only [] at h2 <;> omega
    · have := m4 (hi0 (by omega) (by omega))
      rw [u2, if_neg (by omega), u2, if_neg (by omega), u2, if_neg (by omega), u2, if_neg (by omega)]
      exact this
  rw [if_neg (show ¬ nI (kd T z i) = 59 from g 59 (by omega) k59)]
  by_cases k10 : kd T z i < 10
  · rw [if_pos (show nI (kd T z i) < 10 by rw [it2 (n := 10) (by omega) (by omega)]; exact k10)]
    exact ⟨mi, ml, rfl, sameM (Or.inl k2) (by omega) k3 k59, fun _ _ => rfl, fun _ _ _ => rfl⟩
  rw [if_neg (show ¬ nI (kd T z i) < 10 by rw [it2 (n := 10) (by omega) (by omega)]; exact k10)]
  by_cases k19 : 19 < kd T z i
  · rw [if_pos (show (19 : Int32) < nI (kd T z i) by rw [it1 (n := 19) (by omega) (by omega)]; exact k19)]
    exact ⟨mi, ml, rfl, sameM (Or.inl k2) (by omega) k3 k59, fun _ _ => rfl, fun _ _ _ => rfl⟩
  · rw [if_neg (show ¬ (19 : Int32) < nI (kd T z i) by rw [it1 (n := 19) (by omega) (by omega)]; exact k19)]
    show ∃ mi' ml', (pI 5 3 10 (nI (kd T z i)) (K mi ml)).bind _ = _ ∧ _
    rw [p_10, bnd_s, p_10, bnd_s]
    have c1 : cN (kd T z) (i + 1) = cN (kd T z) i := by rw [cN, if_neg k59]
    have c2 : oN (kd T z) (i + 1) = oN (kd T z) i := by rw [oN, if_neg (by omega)]
    have c3 : mW (kd T z) (vT T z) (i + 1) = (kd T z i, 0, (mW (kd T z) (vT T z) i).2.2) := by rw [mW, if_pos (by omega)]
    refine ⟨_, ml, rfl, ?_, fun a q => by rw [upd2_ne q, upd2_ne q], fun _ _ _ => rfl⟩
    unfold MnM
    rw [c1, c2, c3]
    refine ⟨⟨by rw [u2, if_neg (by omega), u2, if_neg (by omega)]; exact m1, m2⟩, fun x hx h2 => m3 s0 hA ?_, fun _ => ⟨by rw [u2, if_neg (by omega), uE], by rw [uE]; rfl, fun q => by simp only [] at q; omega, fun q => by simp only [] at q; omega⟩⟩
    rw [hA'] at hx
    cases hx
    rcases hc2 with ⟨c, d, rfl⟩ | ⟨c, d, rfl⟩ | ⟨c, d, rfl⟩ | ⟨c, d, rfl⟩ | ⟨c, d, rfl⟩ | ⟨c, d, rfl⟩ | ⟨c, d, rfl⟩ | ⟨c, d, rfl⟩ | ⟨c, d, rfl⟩ | ⟨c, d, rfl⟩ | ⟨c, d, rfl⟩ | ⟨c, d, rfl⟩ | ⟨c, d, rfl⟩ | ⟨c, d, rfl⟩ | ⟨c, d, rfl⟩ | ⟨c, d, rfl⟩ | ⟨c, d, rfl⟩ | ⟨c, d, rfl⟩ <;> simp only [] at h2 <;> omega
/-- the class's Meaning.check of a text whose syntax is right -/
theorem checkM (hc : c ≤ 400) (hn : 401 < n) (hT : ∀ j, T j < 256) (h : LexC T z c mi ml) (h4 : mi 4 4 = nI z) (h5 : mi 4 5 = 0) (h6 : mi 4 6 = -1) (hA : Au (kd T z) c ≠ none) : ∃ mi' ml', f_Meaning_check n 10 4 (K mi ml) = some (K mi' ml') ∧ (∀ a j, a ≠ 10 → ¬ (a = 4 ∧ (j = 5 ∨ j = 6)) → mi' a j = mi a j) ∧ (∀ a, a ≠ 10 → a ≠ 11 → ml' a = ml a) ∧ (((∀ j, j < c → mf (kd T z) (vT T z) (uT T z) j = 0) ∧ mi' 4 5 = 0 ∧ mi' 4 6 = -1) ∨ ∃ j, j < c ∧ mf (kd T z) (vT T z) (uT T z) j ≠ 0 ∧ (∀ i, i < j → mf (kd T z) (vT T z) (uT T z) i = 0) ∧ mi' 4 5 = nI (mf (kd T z) (vT T z) (uT T z) j) ∧ mi' 4 6 = nI (tP T z j)) := by
  unfold f_Meaning_check
  rw [o_10, p_10, bnd_s]
  have L : ∀ m i (m2 : IM) (l2 : JM), i ≤ c → c - i < m → MnM T z i m2 l2 → (∀ a, a ≠ 10 → m2 a = mi a) → (∀ a, a ≠ 10 → a ≠ 11 → l2 a = ml a) → (∀ j, j < i → mf (kd T z) (vT T z) (uT T z) j = 0) → ∃ mi' ml', f_Meaning_check_7 n (f_Meaning_check_26 n) m 10 4 (nI i) (K m2 l2) = some (K mi' ml') ∧ (∀ a j, a ≠ 10 → ¬ (a = 4 ∧ (j = 5 ∨ j = 6)) → mi' a j = mi a j) ∧ (∀ a, a ≠ 10 → a ≠ 11 → ml' a = ml a) ∧ (((∀ j, j < c → mf (kd T z) (vT T z) (uT T z) j = 0) ∧ mi' 4 5 = 0 ∧ mi' 4 6 = -1) ∨ ∃ j, j < c ∧ mf (kd T z) (vT T z) (uT T z) j ≠ 0 ∧ (∀ i, i < j → mf (kd T z) (vT T z) (uT T z) i = 0) ∧ mi' 4 5 = nI (mf (kd T z) (vT T z) (uT T z) j) ∧ mi' 4 6 = nI (tP T z j)) := by
    intro m
    induction m with
    | zero => intro i m2 l2 q1 q2; omega
    | succ m ih =>
      intro i m2 l2 q1 q2 hM hF hG hZ
      have hL : LexC T z c m2 l2 := ⟨by rw [hF 4 (by omega)]; exact h.1, fun j hj => by rw [hF 5 (by omega), hF 6 (by omega), hG 7 (by omega) (by omega)]; exact h.2 j hj⟩
      rw [f_Meaning_check_7, g_4, bnd_s, hF 4 (by omega), h.1]
      by_cases d : i = c
      · rw [if_pos (nI_le (by omega) (by omega))]
        exact ⟨m2, l2, rfl, fun a j g1 _ => by rw [hF a g1], hG, Or.inl ⟨fun j hj => hZ j (by omega), by rw [hF 4 (by omega)]; exact h5, by rw [hF 4 (by omega)]; exact h6⟩⟩
      · rw [if_neg (by rw [nI_leI (by omega) (by omega)]; omega)]
        obtain ⟨s, e1⟩ := Option.ne_none_iff_exists'.mp (Au_d hA (show i ≤ c by omega))
        obtain ⟨s', e2⟩ := Option.ne_none_iff_exists'.mp (Au_d hA (show i + 1 ≤ c by omega))
        obtain ⟨m3, l3, x1, x2, x3, x4⟩ := faultA (n := n) (by omega) (by omega) hL (by omega) hT e1 e2 hM
        have hF3 : ∀ a, a ≠ 10 → m3 a = mi a := fun a g => by rw [x3 a g, hF a g]
        have hG3 : ∀ a, a ≠ 10 → a ≠ 11 → l3 a = ml a := fun a g1 g2 => by rw [x4 a g1 g2, hG a g1 g2]
        have hL3 : LexC T z c m3 l3 := ⟨by rw [hF3 4 (by omega)]; exact h.1, fun j hj => by rw [hF3 5 (by omega), hF3 6 (by omega), hG3 7 (by omega) (by omega)]; exact h.2 j hj⟩
        rw [x1, bnd_s]
        have hmb : mf (kd T z) (vT T z) (uT T z) i ≤ 5 := by
          unfold mf
          repeat' split
          all_goals omega
        by_cases e : mf (kd T z) (vT T z) (uT T z) i = 0
        · rw [if_pos (show nI (mf (kd T z) (vT T z) (uT T z) i) = 0 by rw [e]; rfl), nI_1]
          exact ih (i + 1) m3 l3 (by omega) (by omega) x2 hF3 hG3 (fun j hj => by
            by_cases w : j = i
            · rw [w]; exact e
            · exact hZ j (by omega))
        · rw [if_neg (show ¬ nI (mf (kd T z) (vT T z) (uT T z) i) = 0 by rw [show (0 : Int32) = nI 0 from rfl, nI_eq (by omega) (by omega)]; exact e)]
          unfold f_Meaning_check_26
          show ∃ mi' ml', (f_Tokens_blame n 4 (nI (mf (kd T z) (vT T z) (uT T z) i)) (nI i) (K m3 l3)).bind _ = _ ∧ _
          rw [blameA (show c ≤ 401 by omega) (by omega) hL3 (by rw [hF3 4 (by omega)]; exact h4), bnd_s, if_pos (show i < c by omega)]
          refine ⟨_, l3, rfl, fun a j g1 g2 => ?_, hG3, Or.inr ⟨i, by omega, e, hZ, ?_, ?_⟩⟩
          · unfold blM
            rw [u2, if_neg (by omega), u2, if_neg (by omega), hF3 a g1]
          · unfold blM
            rw [u2, if_neg (by omega), uE]
          · unfold blM
            rw [uE]
  refine L n 0 _ ml (by omega) (by omega) ?_ (fun a g => by rw [upd2_ne g]) (fun _ _ _ => rfl) (fun j hj => by omega)
  refine ⟨⟨by rw [uE]; rfl, fun j hj => by exact absurd hj (Nat.not_lt_zero j)⟩, fun s hs h2 => ?_, fun q => by omega⟩
  cases hs
  simp only [] at h2
  omega
end MEA
