/-! ===== TOKENS: the class's scan as a whole ===== -/
section SCO
variable {n z c p : Nat} {mi : IM} {ml : JM} {T : Nat → Nat}
theorem dV_lt {T : Nat → Nat} {p : Nat} : ∀ r, (∀ i, i < r → isD (T (p + i)) = true) → dV T p r < 10 ^ r
  | 0, _ => by show 0 < 1; omega
  | r + 1, h => by
    have ih := dV_lt r fun i hi => h i (by omega)
    have hl := h r (by omega)
    unfold isD at hl
    rw [decide_eq_true_iff] at hl
    show 10 * dV T p r + (T (p + r) - 48) < 10 ^ (r + 1)
    rw [Nat.pow_succ]
    omega
theorem n64 : ∀ v, v < 100 → (nI v).toInt64 = l64 v := by decide +kernel
theorem scanL (hz : z ≤ 2000) (hn : 2001 < n) (hT : ∀ j, tb mi 1 j = T j) (hW : ∀ w, w < 10 → ml 8 w = l64 (cB 32 (Wd w) 0 (wn w))) (hc : c ≤ 400) (h : LexC T z c mi ml) (hp : tP T z c < z) (hL : isL (T (tP T z c)) = true) : ∃ mi' ml', f_Tokens_scanLetters n 4 1 (nI z) (nI (tP T z c)) (K mi ml) = some (nI (te T z (tP T z c)), K mi' ml') ∧ LexC T z (c + 1) mi' ml' ∧ FLx mi mi' ∧ FL7 ml ml' := by
  generalize e : tP T z c = p at hp hL
  obtain ⟨v, hv, hv2⟩ := rowL (n := n) (ml := ml) (k9 := f_Tokens_scanLetters_45 n) hz hT (Nat.le_of_lt hp) n p 0 (Nat.le_refl _) (by omega) (by omega) (fun i q1 q2 => by omega) rfl (fun _ => by rw [Nat.sub_self]; rfl)
  have hr := rE_s (T := T) (P := isL) (z := z) (p := p) (by omega)
  have hte : te T z p = rE T isL z p := by unfold te; rw [if_pos hL]
  have hty : ty T z p = kwd T p (rE T isL z p - p) := by unfold ty; rw [if_pos hL]
  have hnd : ¬ ∃ h : isL (T p) = false, True := by rw [hL]; rintro ⟨h, _⟩; cases h
  unfold f_Tokens_scanLetters
  rw [o_4, hv]
  unfold f_Tokens_scanLetters_45
  rw [is3 (by omega)]
  by_cases d : rE T isL z p - p ≤ 8
  · rw [if_pos (by rw [il2 (n := 8) (by omega) (by omega)]; exact d), hv2 d, kindC hW d (fun i hi => hr.2.2.1 (p + i) (by omega) (by omega)) (by omega), bnd_s]
    unfold f_Tokens_scanLetters_65
    obtain ⟨mi', ml', h1, h2⟩ := addC (n := n) (k := kwd T p (rE T isL z p - p)) (v := l64 (cB 32 T p (rE T isL z p - p))) hc h (by rw [e]; exact hp) (by rw [e, hty]) (fun q => by
      rw [← hty] at q
      exfalso
      have q2 := q
      rw [hty] at q2
      unfold kwd at q2
      rw [if_neg (by omega)] at q2
      cases e2 : fnd (fun w => decide (cB 32 (Wd w) 0 (wn w) = cB 32 T p (rE T isL z p - p))) 10 0 with
      | none => rw [e2] at q2; cases q2
      | some w => rw [e2] at q2; have q2 : 10 + w = 3 := q2; omega) (fun _ => by rw [e, hte])
    rw [e] at h1
    refine ⟨mi', ml', ?_, h2⟩
    show (f_Tokens_add n 4 (nI (kwd T p (rE T isL z p - p))) (nI p) _ (K mi ml)).bind _ = _
    rw [h1, bnd_s, hte]
  · rw [if_neg (by rw [il2 (n := 8) (by omega) (by omega)]; exact d)]
    unfold f_Tokens_scanLetters_65
    have h1k : ty T z p = 1 := by rw [hty]; unfold kwd; rw [if_pos (by omega)]
    obtain ⟨mi', ml', h1, h2⟩ := addC (n := n) (k := 1) (v := v) hc h (by rw [e]; exact hp) (by rw [e, h1k]) (fun q => by omega) (fun q => by omega)
    rw [e] at h1
    exact ⟨mi', ml', by rw [show f_Tokens_add n 4 1 (nI p) v (K mi ml) = _ from h1, bnd_s, hte], h2⟩
theorem scanD (hz : z ≤ 2000) (hn : 2001 < n) (hT : ∀ j, tb mi 1 j = T j) (hc : c ≤ 400) (h : LexC T z c mi ml) (hp : tP T z c < z) (hL : isL (T (tP T z c)) = false) (hD : isD (T (tP T z c)) = true) : ∃ mi' ml', f_Tokens_scanDigits n 4 1 (nI z) (nI (tP T z c)) (K mi ml) = some (nI (te T z (tP T z c)), K mi' ml') ∧ LexC T z (c + 1) mi' ml' ∧ FLx mi mi' ∧ FL7 ml ml' := by
  generalize e : tP T z c = p at hp hL hD
  have hv := rowD (n := n) (ml := ml) (k9 := f_Tokens_scanDigits_49 n) hz hT (Nat.le_of_lt hp) n p (Nat.le_refl _) (by omega) (by omega) rfl
  rw [Nat.sub_self] at hv
  have hr := rE_s (T := T) (P := isD) (z := z) (p := p) (by omega)
  have hte : te T z p = rE T isD z p := by unfold te; rw [if_neg (by rw [hL]; decide), if_pos hD]
  have hty : ty T z p = if rE T isD z p - p ≤ 2 then 3 else 1 := by unfold ty; rw [if_neg (by rw [hL]; decide), if_pos hD]
  unfold f_Tokens_scanDigits
  rw [o_4, show f_Tokens_scanDigits_6 n (f_Tokens_scanDigits_49 n) n 4 1 (nI z) (nI p) (nI p) 0 (K mi ml) = _ from hv]
  unfold f_Tokens_scanDigits_49
  rw [is3 (by omega)]
  by_cases d : rE T isD z p - p ≤ 2
  · rw [if_pos (by rw [il2 (n := 2) (by omega) (by omega)]; exact d)]
    rw [if_pos d] at hty
    unfold f_Tokens_scanDigits_63
    have hlt : dV T p (rE T isD z p - p) < 100 := by
      have h1 := dV_lt (T := T) (p := p) (rE T isD z p - p) (fun i hi => hr.2.2.1 (p + i) (by omega) (by omega))
      have h2 : 10 ^ (rE T isD z p - p) ≤ 10 ^ 2 := Nat.pow_le_pow_right (by omega) d
      omega
    obtain ⟨mi', ml', h1, h2⟩ := addC (n := n) (k := 3) (v := l64 (dV T p (rE T isD z p - p))) hc h (by rw [e]; exact hp) (by rw [e, hty]) (fun _ => by rw [e, hte]) (fun q => by omega)
    rw [e] at h1
    exact ⟨mi', ml', by rw [n64 _ hlt, show f_Tokens_add n 4 3 (nI p) _ (K mi ml) = _ from h1, bnd_s, hte], h2⟩
  · rw [if_neg (by rw [il2 (n := 2) (by omega) (by omega)]; exact d)]
    rw [if_neg d] at hty
    unfold f_Tokens_scanDigits_63
    obtain ⟨mi', ml', h1, h2⟩ := addC (n := n) (k := 1) (v := (nI (dV T p (rE T isD z p - p))).toInt64) hc h (by rw [e]; exact hp) (by rw [e, hty]) (fun q => by omega) (fun q => by omega)
    rw [e] at h1
    exact ⟨mi', ml', by rw [show f_Tokens_add n 4 1 (nI p) _ (K mi ml) = _ from h1, bnd_s, hte], h2⟩
theorem scan132 {k25 : Nat → Nat → Int32 → Int32 → Int32 → MM → Option MM} {x2 x3 x4 : Int32} (hT : ∀ j, T j < 256) (hc : c ≤ 401) (h : LexC T z c mi ml) : f_Tokens_scan_132 n k25 4 1 x2 x3 x4 (K mi ml) = if 0 < c ∧ ty T z (tP T z (c - 1)) = 1 then some (K mi ml) else k25 4 1 x2 x3 (x4 + 1) (K mi ml) := by
  unfold f_Tokens_scan_132 f_Tokens_scan_155
  rw [g_4, bnd_s, h.1]
  by_cases c0 : c = 0
  · subst c0
    rw [if_pos (by decide), if_neg (fun q => Nat.lt_irrefl 0 q.1)]
  · have ht := ty_lt (T := T) (z := z) (p := tP T z (c - 1)) (hT _)
    rw [if_neg (by rw [show ((0 : Int32)) = nI 0 from rfl, nI_leI (by omega) (by omega)]; omega), rf_4_0, bnd_s, bnd_s, is1 (n := 1) (by omega), a_5 (by omega), bnd_s, (h.2 (c - 1) (by omega)).2.1]
    by_cases d : ty T z (tP T z (c - 1)) = 1
    · rw [if_pos (by rw [d]; rfl), if_pos ⟨by omega, d⟩]
    · rw [if_neg (by rw [ie1 (n := 1) (by omega) (by omega)]; exact d), if_neg (fun q => d q.2)]
def LexE (T : Nat → Nat) (z c : Nat) : Prop := c ≤ 401 ∧ (∀ j, j + 1 < c → ty T z (tP T z j) ≠ 1) ∧ (c = 401 ∨ tP T z c = z ∨ (0 < c ∧ ty T z (tP T z (c - 1)) = 1))
theorem scan25 (hz : z ≤ 2000) (hn : 2001 < n) : ∀ m i q c mi ml, i ≤ q → q ≤ z → z - i < m → (∀ j, tb mi 1 j = T j) → (∀ w, w < 10 → ml 8 w = l64 (cB 32 (Wd w) 0 (wn w))) → c ≤ 401 → LexC T z c mi ml → rE T isB z q = tP T z c → (∀ j, j < c → ty T z (tP T z j) ≠ 1) → ∃ c' mi' ml', f_Tokens_scan_25 n m 4 1 (nI z) (nI q) (nI i) (K mi ml) = some (K mi' ml') ∧ LexC T z c' mi' ml' ∧ LexE T z c' ∧ FLx mi mi' ∧ FL7 ml ml' := by
  intro m
  induction m with
  | zero => intro i q c mi ml h1 h2 h3; omega
  | succ m ih =>
    intro i q c mi ml h1 h2 h3 hT hW hc h hq hg
    have hT2 : ∀ j, T j < 256 := fun j => by rw [← hT]; exact tb_lt mi 1 j
    have hqz : q = z → tP T z c = z := fun e => by rw [← hq, e, rE_z]
    rw [f_Tokens_scan_25]
    by_cases c1 : z ≤ i
    · rw [if_pos (nI_le c1 (by omega))]
      exact ⟨c, mi, ml, rfl, h, ⟨hc, fun j hj => hg j (by omega), Or.inr (Or.inl (hqz (by omega)))⟩, FLx.rf, fun _ _ => rfl⟩
    rw [if_neg (by rw [nI_leI (by omega) (by omega)]; exact c1)]
    by_cases c2 : z ≤ q
    · rw [if_pos (nI_le c2 (by omega))]
      exact ⟨c, mi, ml, rfl, h, ⟨hc, fun j hj => hg j (by omega), Or.inr (Or.inl (hqz (by omega)))⟩, FLx.rf, fun _ _ => rfl⟩
    rw [if_neg (by rw [nI_leI (by omega) (by omega)]; exact c2), g_4, bnd_s, h.1]
    by_cases c3 : c = 401
    · rw [if_pos (by rw [it1 (n := 400) (by omega) (by omega)]; omega)]
      exact ⟨c, mi, ml, rfl, h, ⟨hc, fun j hj => hg j (by omega), Or.inl c3⟩, FLx.rf, fun _ _ => rfl⟩
    have hb := hT2 q
    rw [if_neg (by rw [it1 (n := 400) (by omega) (by omega)]; omega), byteC hz (by omega), bnd_s, if_pos (show q < z by omega), hT, blkC (by omega), bnd_s]
    cases eB : isB (T q) with
    | true =>
      rw [if_neg (show ¬ b2i true = 0 by decide), scan132 hT2 hc h, if_neg (fun w => hg (c - 1) (by omega) w.2), nI_1, nI_1]
      exact ih (i + 1) (q + 1) c mi ml (by omega) (by omega) (by omega) hT hW hc h (by rw [← (rE_n (by omega) eB).1, hq]) hg
    | false =>
      have hq2 : tP T z c = q := by rw [← hq, rE_0 (by omega) eB]
      have hqz2 : tP T z c < z := by omega
      rw [if_pos (show b2i false = 0 from rfl), (letC (by omega)).1, bnd_s]
      have fin : ∀ (mi' : IM) (ml' : JM), LexC T z (c + 1) mi' ml' → FLx mi mi' → FL7 ml ml' → ∃ c' mi2 ml2, f_Tokens_scan_132 n (f_Tokens_scan_25 n m) 4 1 (nI z) (nI (te T z q)) (nI i) (K mi' ml') = some (K mi2 ml2) ∧ LexC T z c' mi2 ml2 ∧ LexE T z c' ∧ FLx mi mi2 ∧ FL7 ml ml2 := fun mi' ml' k1 k2 k3 => by
        have hte := te_b (T := T) (z := z) (p := q) (by omega)
        rw [scan132 hT2 (by omega) k1, show c + 1 - 1 = c by omega]
        by_cases d : ty T z (tP T z c) = 1
        · rw [if_pos ⟨by omega, d⟩]
          exact ⟨c + 1, mi', ml', rfl, k1, ⟨by omega, fun j hj => hg j (by omega), Or.inr (Or.inr ⟨by omega, d⟩)⟩, k2, k3⟩
        · rw [if_neg (fun w => d w.2), nI_1]
          obtain ⟨c', mi2, ml2, e1, e2, e3, e4, e5⟩ := ih (i + 1) (te T z q) (c + 1) mi' ml' (by omega) hte.2 (by omega) (fun j => by rw [← hT]; unfold tb; rw [k2 1 j (by omega) (by omega) (by omega)]) (fun w hw => by rw [k3 8 (by omega)]; exact hW w hw) (by omega) k1 (by rw [tP, if_pos hqz2, hq2]) (fun j hj => by
            by_cases e : j = c
            · rw [e]; exact d
            · exact hg j (by omega))
          exact ⟨c', mi2, ml2, e1, e2, e3, k2.tr e4, fun a ha => by rw [e5 a ha, k3 a ha]⟩
      cases eL : isL (T q) with
      | true =>
        rw [if_neg (show ¬ b2i true = 0 by decide)]
        obtain ⟨mi', ml', k0, k1, k2, k3⟩ := scanL (n := n) hz hn hT hW (by omega) h hqz2 (by rw [hq2]; exact eL)
        rw [hq2] at k0
        rw [k0, bnd_s]
        exact fin mi' ml' k1 k2 k3
      | false =>
        rw [if_pos (show b2i false = 0 from rfl), (digC (by omega)).1, bnd_s]
        cases eD : isD (T q) with
        | true =>
          rw [if_neg (show ¬ b2i true = 0 by decide)]
          obtain ⟨mi', ml', k0, k1, k2, k3⟩ := scanD (n := n) hz hn hT (by omega) h hqz2 (by rw [hq2]; exact eL) (by rw [hq2]; exact eD)
          rw [hq2] at k0
          rw [k0, bnd_s]
          exact fin mi' ml' k1 k2 k3
        | false =>
          rw [if_pos (show b2i false = 0 from rfl)]
          obtain ⟨v, g1, g2⟩ := signC (n := n) (M := K mi ml) hb (by omega)
          rw [g1, bnd_s]
          have hte : te T z q = q + 1 := by unfold te; rw [if_neg (by rw [eL]; decide), if_neg (by rw [eD]; decide)]
          have hty : ty T z q = if isG (T q) = true then T q else 1 := by unfold ty; rw [if_neg (by rw [eL]; decide), if_neg (by rw [eD]; decide)]
          cases eG : isG (T q) with
          | false =>
            rw [eG, if_neg (by decide)] at hty
            rw [if_pos (g2.mpr eG)]
            unfold f_Tokens_scan_124
            obtain ⟨mi', ml', k0, k1, k2, k3⟩ := addC (n := n) (k := 1) (v := 0) (by omega) h hqz2 (by rw [hq2, hty]) (fun w => by omega) (fun w => by omega)
            rw [hq2] at k0
            rw [show f_Tokens_add n 4 1 (nI q) 0 (K mi ml) = _ from k0, bnd_s, nI_1, ← hte]
            exact fin mi' ml' k1 k2 k3
          | true =>
            rw [eG, if_pos rfl] at hty
            rw [if_neg (fun w => by rw [g2.mp w] at eG; cases eG)]
            unfold f_Tokens_scan_124
            have hG := eG
            unfold isG at hG
            rw [decide_eq_true_iff] at hG
            obtain ⟨mi', ml', k0, k1, k2, k3⟩ := addC (n := n) (k := T q) (v := 0) (by omega) h hqz2 (by rw [hq2, hty]) (fun w => by omega) (fun w => by omega)
            rw [hq2] at k0
            show ∃ c' mi' ml', (f_Tokens_add n 4 (nI (T q)) (nI q) 0 (K mi ml)).bind _ = _ ∧ _
            rw [k0, bnd_s, nI_1, ← hte]
            exact fin mi' ml' k1 k2 k3
/-- the class's scan -/
theorem scanC (hz : z ≤ 2000) (hn : 2001 < n) (hT : ∀ j, tb mi 1 j = T j) (hW : ∀ w, w < 10 → ml 8 w = l64 (cB 32 (Wd w) 0 (wn w))) : ∃ c mi' ml', f_Tokens_scan n 4 1 (nI z) (K mi ml) = some (K mi' ml') ∧ LexC T z c mi' ml' ∧ LexE T z c ∧ mi' 4 4 = nI z ∧ mi' 4 5 = 0 ∧ mi' 4 6 = -1 ∧ (∀ a j, ¬ (a = 4 ∧ 3 ≤ j ∧ j ≤ 6) → a ≠ 5 → a ≠ 6 → mi' a j = mi a j) ∧ FL7 ml ml' := by
  unfold f_Tokens_scan
  rw [o_4, p_4, bnd_s, p_4, bnd_s, p_4, bnd_s, p_4, bnd_s]
  generalize hG : upd2 (upd2 (upd2 (upd2 mi 4 3 0) 4 4 (nI z)) 4 5 0) 4 6 (-1) = mg
  have f : ∀ a j, ¬ (a = 4 ∧ 3 ≤ j ∧ j ≤ 6) → mg a j = mi a j := fun a j h => by
    rw [← hG, u2, if_neg (by omega), u2, if_neg (by omega), u2, if_neg (by omega), u2, if_neg (by omega)]
  obtain ⟨c, mi', ml', e1, e2, e3, e4, e5⟩ := scan25 (n := n) (T := T) hz hn n 0 0 0 mg ml (by omega) (by omega) (by omega) (fun j => by rw [← hT]; unfold tb; rw [f 1 j (by omega)]) hW (by omega) ⟨by rw [← hG, u2, if_neg (by omega), u2, if_neg (by omega), u2, if_neg (by omega), u2, if_pos ⟨rfl, rfl⟩]; rfl, fun i hi => by omega⟩ rfl (fun j hj => by omega)
  refine ⟨c, mi', ml', e1, e2, e3, ?_, ?_, ?_, fun a j q1 q2 q3 => by rw [e4 a j (by omega) q2 q3, f a j q1], e5⟩
  · rw [e4 4 4 (by omega) (by omega) (by omega), ← hG, u2, if_neg (by omega), u2, if_neg (by omega), u2, if_pos ⟨rfl, rfl⟩]
  · rw [e4 4 5 (by omega) (by omega) (by omega), ← hG, u2, if_neg (by omega), u2, if_pos ⟨rfl, rfl⟩]
  · rw [e4 4 6 (by omega) (by omega) (by omega), ← hG, u2, if_pos ⟨rfl, rfl⟩]
end SCO
