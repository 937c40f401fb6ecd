/-! ===== TOKENS: what they are; the class's scan ===== -/
def kwd (T : Nat → Nat) (p r : Nat) : Nat := if 8 < r then 1 else ((fnd (fun w => decide (cB 32 (Wd w) 0 (wn w) = cB 32 T p r)) 10 0).map (10 + ·)).getD 2
def ty (T : Nat → Nat) (z p : Nat) : Nat := if isL (T p) = true then kwd T p (rE T isL z p - p) else if isD (T p) = true then (if rE T isD z p - p ≤ 2 then 3 else 1) else if isG (T p) = true then T p else 1
def te (T : Nat → Nat) (z p : Nat) : Nat := if isL (T p) = true then rE T isL z p else if isD (T p) = true then rE T isD z p else p + 1
def dV (T : Nat → Nat) (p : Nat) : Nat → Nat
  | 0 => 0
  | i + 1 => 10 * dV T p i + (T (p + i) - 48)
/-- where token i begins -/
def tP (T : Nat → Nat) (z : Nat) : Nat → Nat
  | 0 => rE T isB z 0
  | i + 1 => if tP T z i < z then rE T isB z (te T z (tP T z i)) else z
theorem te_b {T : Nat → Nat} {z p : Nat} (h : p < z) : p < te T z p ∧ te T z p ≤ z := by
  unfold te
  by_cases c : isL (T p) = true
  · rw [if_pos c]
    have := rE_n h c
    have h2 := rE_s (T := T) (P := isL) (z := z) (p := p) (by omega)
    omega
  · rw [if_neg c]
    by_cases d : isD (T p) = true
    · rw [if_pos d]
      have := rE_n h d
      have h2 := rE_s (T := T) (P := isD) (z := z) (p := p) (by omega)
      omega
    · rw [if_neg d]; omega
theorem kw_lt {T : Nat → Nat} {p r : Nat} : kwd T p r < 20 := by
  unfold kwd
  by_cases c : 8 < r
  · rw [if_pos c]; omega
  · rw [if_neg c]
    cases e : fnd (fun w => decide (cB 32 (Wd w) 0 (wn w) = cB 32 T p r)) 10 0 with
    | none => show 2 < 20; omega
    | some w => have := (fnd_some e).2.1; show 10 + w < 20; omega
theorem ty_lt {T : Nat → Nat} {z p : Nat} (hT : T p < 256) : ty T z p < 256 := by
  unfold ty
  by_cases c : isL (T p) = true
  · rw [if_pos c]; have := kw_lt (T := T) (p := p) (r := rE T isL z p - p); omega
  · rw [if_neg c]
    by_cases d : isD (T p) = true
    · rw [if_pos d]; by_cases e : rE T isD z p - p ≤ 2
      · rw [if_pos e]; omega
      · rw [if_neg e]; omega
    · rw [if_neg d]; by_cases e : isG (T p) = true
      · rw [if_pos e]; exact hT
      · rw [if_neg e]; omega
/-- the first c tokens stand in the class's rows -/
def LexC (T : Nat → Nat) (z c : Nat) (mi : IM) (ml : JM) : Prop := mi 4 3 = nI c ∧ ∀ i, i < c → tP T z i < z ∧ mi 5 i = nI (ty T z (tP T z i)) ∧ mi 6 i = nI (tP T z i) ∧ (ty T z (tP T z i) = 3 → ml 7 i = l64 (dV T (tP T z i) (te T z (tP T z i) - tP T z i))) ∧ (ty T z (tP T z i) = 2 → ml 7 i = l64 (cB 32 T (tP T z i) (te T z (tP T z i) - tP T z i)))
def FLx (mi mi' : IM) : Prop := ∀ a j, ¬ (a = 4 ∧ j = 3) → a ≠ 5 → a ≠ 6 → mi' a j = mi a j
theorem FLx.rf {a : IM} : FLx a a := fun _ _ _ _ _ => rfl
theorem FLx.tr {a b c : IM} (h : FLx a b) (h2 : FLx b c) : FLx a c := fun x j h3 h4 h5 => by rw [h2 x j h3 h4 h5, h x j h3 h4 h5]
def FL7 (ml ml' : JM) : Prop := ∀ a, a ≠ 7 → ml' a = ml a
section SCN
variable {n z c p : Nat} {mi : IM} {ml : JM} {T : Nat → Nat}
theorem addC {k : Nat} {v : Int64} (hc : c ≤ 400) (h : LexC T z c mi ml) (hp : tP T z c < z) (hk : k = ty T z (tP T z c)) (h3 : k = 3 → v = l64 (dV T (tP T z c) (te T z (tP T z c) - tP T z c))) (h2 : k = 2 → v = l64 (cB 32 T (tP T z c) (te T z (tP T z c) - tP T z c))) : ∃ mi' ml', f_Tokens_add n 4 (nI k) (nI (tP T z c)) v (K mi ml) = some (K mi' ml') ∧ LexC T z (c + 1) mi' ml' ∧ FLx mi mi' ∧ FL7 ml ml' := by
  unfold f_Tokens_add
  rw [o_4, g_4, bnd_s, h.1, if_neg (by rw [it1 (n := 400) (by omega) (by omega)]; omega), rf_4_0, bnd_s, bnd_s, s_5 (by omega), bnd_s, nrw100, rf_4_1, bnd_s, g_4, bnd_s, upd2_ne (by omega), h.1, s_6 (by omega), bnd_s, nrw100, rf_4_2, bnd_s, g_4, bnd_s, upd2_ne (by omega), upd2_ne (by omega), h.1, s_7 (by omega), bnd_s, g_4, bnd_s, upd2_ne (by omega), upd2_ne (by omega), h.1, nI_1, p_4, bnd_s]
  refine ⟨_, _, rfl, ⟨by rw [u2, if_pos ⟨rfl, rfl⟩], fun i hi => ?_⟩, fun a j q1 q2 q3 => by rw [u2, if_neg q1, upd2_ne q3, upd2_ne q2], fun a q => by rw [upd2_ne q]⟩
  by_cases d : i = c
  · subst d
    refine ⟨hp, ?_, ?_, fun q => ?_, fun q => ?_⟩
    · rw [upd2_ne (by omega), upd2_ne (by omega), u2, if_pos ⟨rfl, rfl⟩, hk]
    · rw [upd2_ne (by omega), u2, if_pos ⟨rfl, rfl⟩]
    · rw [u2, if_pos ⟨rfl, rfl⟩]; exact h3 (hk.trans q)
    · rw [u2, if_pos ⟨rfl, rfl⟩]; exact h2 (hk.trans q)
  · have h' := h.2 i (by omega)
    refine ⟨h'.1, ?_, ?_, fun q => ?_, fun q => ?_⟩
    · rw [upd2_ne (by omega), upd2_ne (by omega), u2, if_neg (fun q => d q.2)]; exact h'.2.1
    · rw [upd2_ne (by omega), u2, if_neg (fun q => d q.2), upd2_ne (by omega)]; exact h'.2.2.1
    · rw [u2, if_neg (fun q => d q.2)]; exact h'.2.2.2.1 q
    · rw [u2, if_neg (fun q => d q.2)]; exact h'.2.2.2.2 q
theorem kindC {r : Nat} (hW : ∀ w, w < 10 → ml 8 w = l64 (cB 32 (Wd w) 0 (wn w))) (hr : r ≤ 8) (hl : ∀ i, i < r → isL (T (p + i)) = true) (hn : 10 < n) : f_Tokens_kindOfWord n 4 (l64 (cB 32 T p r)) (K mi ml) = some (nI (kwd T p r), K mi ml) := by
  unfold f_Tokens_kindOfWord kwd
  rw [if_neg (by omega)]
  have hb : ∀ r', r' ≤ 8 → ∀ (T' : Nat → Nat) p', (∀ i, i < r' → isL (T' (p' + i)) = true) → cB 32 T' p' r' < 2 ^ 63 := fun r' hr' T' p' h' => by
    have h1 := cB_lt (B := 32) (T := T') (p := p') (by omega) r' h'
    have h2 : 32 ^ r' ≤ 32 ^ 8 := Nat.pow_le_pow_right (by omega) hr'
    have h3 : (32 : Nat) ^ 8 < 2 ^ 63 := by decide
    omega
  have L : ∀ m w, w ≤ 10 → 10 - w < m → f_Tokens_kindOfWord_2 n m 4 (l64 (cB 32 T p r)) (nI w) (K mi ml) = some (nI (((fnd (fun w => decide (cB 32 (Wd w) 0 (wn w) = cB 32 T p r)) (10 - w) w).map (10 + ·)).getD 2), K mi ml) := by
    intro m
    induction m with
    | zero => intro w h1 h2; omega
    | succ m ih =>
      intro w h1 h2
      rw [f_Tokens_kindOfWord_2]
      by_cases c : w = 10
      · subst c; rw [if_pos (by decide)]; rfl
      · have hw := W_l w (by omega)
        have heq : (lcp (ml 8 w) (l64 (cB 32 T p r)) = 0) ↔ cB 32 (Wd w) 0 (wn w) = cB 32 T p r := by
          rw [lcp_0, hW w (by omega), l64_eq (hb _ (by omega) _ _ hw.2.2) (hb _ hr _ _ hl)]
        rw [if_neg (by rw [il1 (n := 10) (by omega) (by omega)]; omega), rf_4_7, bnd_s, a_8 (by omega), bnd_s, show 10 - w = (10 - (w + 1)) + 1 by omega, fnd_s]
        by_cases d : cB 32 (Wd w) 0 (wn w) = cB 32 T p r
        · rw [if_pos (heq.mpr d), if_pos (by simpa using d), ia2 (n := 10)]; rfl
        · rw [if_neg (fun q => d (heq.mp q)), if_neg (by simpa using d), nI_1]; exact ih (w + 1) (by omega) (by omega)
  rw [o_4]
  exact L n 0 (by omega) (by omega)
theorem rowL {k9 : Nat → Int32 → Int32 → Int64 → MM → Option (Int32 × MM)} (hz : z ≤ 2000) (hT : ∀ j, tb mi 1 j = T j) (hp : p ≤ z) : ∀ m q v, p ≤ q → q ≤ z → z - q < m → (∀ i, p ≤ i → i < q → isL (T i) = true) → rE T isL z p = rE T isL z q → (q - p ≤ 8 → v = l64 (cB 32 T p (q - p))) → ∃ v', f_Tokens_scanLetters_6 n k9 m 4 1 (nI z) (nI p) (nI q) v (K mi ml) = k9 4 (nI p) (nI (rE T isL z p)) v' (K mi ml) ∧ (rE T isL z p - p ≤ 8 → v' = l64 (cB 32 T p (rE T isL z p - p))) := by
  intro m
  induction m with
  | zero => intro q v h1 h2 h3; omega
  | succ m ih =>
    intro q v h1 h2 h3 h4 h5 h6
    rw [f_Tokens_scanLetters_6]
    by_cases c : q = z
    · subst c
      rw [if_pos (nI_le (Nat.le_refl _) (by omega)), h5, rE_z]
      exact ⟨v, rfl, h6⟩
    · have hb := tb_lt mi 1 q
      rw [hT] at hb
      rw [if_neg (by rw [nI_leI (by omega) (by omega)]; omega), byteC hz (by omega), bnd_s, if_pos (show q < z by omega), hT, (letC (by omega)).1, bnd_s]
      cases e : isL (T q) with
      | false =>
        rw [if_pos (show b2i false = 0 from rfl), h5, rE_0 (by omega) e]
        exact ⟨v, rfl, h6⟩
      | true =>
        rw [if_neg (show ¬ b2i true = 0 by decide), byteC hz (by omega), bnd_s, if_pos (show q < z by omega), hT]
        have hl2 := e
        unfold isL at hl2
        rw [decide_eq_true_iff] at hl2
        have h4' : ∀ i, p ≤ i → i < q + 1 → isL (T i) = true := fun i q1 q2 => by
          by_cases d : i = q
          · rw [d]; exact e
          · exact h4 i q1 (by omega)
        have h5' : rE T isL z p = rE T isL z (q + 1) := by rw [h5, (rE_n (by omega) e).1]
        by_cases d : q - p ≤ 7
        · have h7 := h6 (by omega)
          have hlt : cB 32 T p (q - p) < 2 ^ 57 := by
            have h8 := cB_lt (B := 32) (T := T) (p := p) (by omega) (q - p) (fun i hi => h4 (p + i) (by omega) (by omega))
            have h9 : 32 ^ (q - p) ≤ 32 ^ 7 := Nat.pow_le_pow_right (by omega) d
            have h10 : (32 : Nat) ^ 7 < 2 ^ 57 := by decide
            omega
          rw [h7, wlC hlt hb e, bnd_s, nI_1]
          refine ih (q + 1) _ (by omega) (by omega) (by omega) h4' h5' (fun _ => ?_)
          rw [show q + 1 - p = (q - p) + 1 by omega]
          show _ = l64 (32 * cB 32 T p (q - p) + (T (p + (q - p)) - 96))
          rw [show p + (q - p) = q by omega]
        · unfold f_Tokens_withLetter
          rw [bnd_s, nI_1]
          exact ih (q + 1) _ (by omega) (by omega) (by omega) h4' h5' (fun w => by omega)
theorem rowD {k9 : Nat → Int32 → Int32 → Int32 → MM → Option (Int32 × MM)} (hz : z ≤ 2000) (hT : ∀ j, tb mi 1 j = T j) (hp : p ≤ z) : ∀ m q, p ≤ q → q ≤ z → z - q < m → rE T isD z p = rE T isD z q → f_Tokens_scanDigits_6 n k9 m 4 1 (nI z) (nI p) (nI q) (nI (dV T p (q - p))) (K mi ml) = k9 4 (nI p) (nI (rE T isD z p)) (nI (dV T p (rE T isD z p - p))) (K mi ml) := by
  intro m
  induction m with
  | zero => intro q h1 h2 h3; omega
  | succ m ih =>
    intro q h1 h2 h3 h5
    rw [f_Tokens_scanDigits_6]
    by_cases c : q = z
    · subst c
      rw [if_pos (nI_le (Nat.le_refl _) (by omega)), h5, rE_z]
    · have hb := tb_lt mi 1 q
      rw [hT] at hb
      rw [if_neg (by rw [nI_leI (by omega) (by omega)]; omega), byteC hz (by omega), bnd_s, if_pos (show q < z by omega), hT, (digC (by omega)).1, bnd_s]
      cases e : isD (T q) with
      | false => rw [if_pos (show b2i false = 0 from rfl), h5, rE_0 (by omega) e]
      | true =>
        have hl2 := e
        unfold isD at hl2
        rw [decide_eq_true_iff] at hl2
        rw [if_neg (show ¬ b2i true = 0 by decide), byteC hz (by omega), bnd_s, if_pos (show q < z by omega), hT, im2 (n := 10), ia3, is1 (n := 48) (by omega), nm_t, nI_1]
        have := ih (q + 1) (by omega) (by omega) (by omega) (by rw [h5, (rE_n (by omega) e).1])
        rw [← this, show q + 1 - p = (q - p) + 1 by omega]
        show _ = f_Tokens_scanDigits_6 n k9 m 4 1 (nI z) (nI p) (nI (q + 1)) (nI (10 * dV T p (q - p) + (T (p + (q - p)) - 48))) (K mi ml)
        rw [show p + (q - p) = q by omega, show 10 * dV T p (q - p) + T q - 48 = 10 * dV T p (q - p) + (T q - 48) by omega]
end SCN
