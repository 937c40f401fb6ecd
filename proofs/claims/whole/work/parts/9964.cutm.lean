/-! ===== TOKENS: the reference's cut ===== -/
/-- kind of token i (of the class; 0 behind the last one) -/
def kd (T : Nat → Nat) (z i : Nat) : Nat := if tP T z i < z then ty T z (tP T z i) else 0
def mK (k : Nat) : Nat := if k = 0 then 0 else if k = 1 then 3 else if k = 2 then 1 else if k = 3 then 2 else if k < 20 then k + 10 else if k = 59 then 4 else if k = 61 then 5 else if k = 40 then 6 else if k = 41 then 7 else if k = 43 then 8 else if k = 45 then 9 else 10
def LexM (T : Nat → Nat) (z c : Nat) (mi : IM) (ml : JM) : Prop := mi 559 10 = nI c ∧ ∀ i, i < c → mi 562 i = nI (mK (kd T z i)) ∧ mi 563 i = nI (tP T z i) ∧ (kd T z i = 3 → mi 564 i = nI (dV T (tP T z i) (te T z (tP T z i) - tP T z i))) ∧ (kd T z i = 2 → ml 565 i = l64 (cB 27 T (tP T z i) (te T z (tP T z i) - tP T z i)))
def FMx (mi mi' : IM) : Prop := ∀ a j, ¬ (a = 559 ∧ j = 10) → a ≠ 562 → a ≠ 563 → a ≠ 564 → mi' a j = mi a j
theorem FMx.rf {a : IM} : FMx a a := fun _ _ _ _ _ _ => rfl
theorem FMx.tr {a b c : IM} (h : FMx a b) (h2 : FMx b c) : FMx a c := fun x j h3 h4 h5 h6 => by rw [h2 x j h3 h4 h5 h6, h x j h3 h4 h5 h6]
def FM5 (ml ml' : JM) : Prop := ∀ a, a ≠ 565 → ml' a = ml a
theorem W_one : ∀ w, w < 10 → ∀ w', w' < 10 → cB 27 (Wd w) 0 (wn w) = cB 27 (Wd w') 0 (wn w') → w = w' := by decide +kernel
section CTM
variable {n z c p : Nat} {mi : IM} {ml : JM} {T : Nat → Nat}
theorem atM (hz : z ≤ 2000) (h4 : mi 559 4 = nI z) (hT : ∀ j, j < z → tb mi 561 j = T j) (hp : p < 2 ^ 31) : f_Mo_at n 559 (nI p) (K mi ml) = some (nI (if p < z then T p else 0), K mi ml) := by
  unfold f_Mo_at
  rw [o_559, g_559, bnd_s, h4]
  by_cases c : p < z
  · rw [if_neg (by rw [nI_leI (by omega) hp]; omega), rf_559_3, bnd_s, a_561 (by omega), bnd_s, tb_e, if_pos c, hT p c]
  · rw [if_pos (by rw [nI_leI (by omega) hp]; omega), if_neg c]; rfl
theorem addM {k v w : Nat} {nm : Int64} (hc : c ≤ 400) (h : LexM T z c mi ml) (hk : k = mK (kd T z c)) (hw : w = tP T z c) (h3 : kd T z c = 3 → v = dV T (tP T z c) (te T z (tP T z c) - tP T z c)) (h2 : kd T z c = 2 → nm = l64 (cB 27 T (tP T z c) (te T z (tP T z c) - tP T z c))) : ∃ mi' ml', f_Mo_token n 559 (nI k) (nI w) (nI v) nm (K mi ml) = some (K mi' ml') ∧ LexM T z (c + 1) mi' ml' ∧ FMx mi mi' ∧ FM5 ml ml' := by
  unfold f_Mo_token
  rw [o_559, rf_559_5, bnd_s, g_559, bnd_s, h.1, s_562 (by omega), bnd_s, nrw100, rf_559_6, bnd_s, g_559, bnd_s, upd2_ne (by omega), h.1, s_563 (by omega), bnd_s, nrw100, rf_559_7, bnd_s, g_559, bnd_s, upd2_ne (by omega), upd2_ne (by omega), h.1, s_564 (by omega), bnd_s, nrw100, rf_559_8, bnd_s, g_559, bnd_s, upd2_ne (by omega), upd2_ne (by omega), upd2_ne (by omega), h.1, s_565 (by omega), bnd_s, g_559, bnd_s, upd2_ne (by omega), upd2_ne (by omega), upd2_ne (by omega), h.1, nI_1, p_559, bnd_s]
  refine ⟨_, _, rfl, ⟨by rw [u2, if_pos ⟨rfl, rfl⟩], fun i hi => ?_⟩, fun a j q1 q2 q3 q4 => by rw [u2, if_neg q1, upd2_ne q4, upd2_ne q3, upd2_ne q2], fun a q => by rw [upd2_ne q]⟩
  have e1 : upd2 (upd2 (upd2 (upd2 mi 562 c (nI k)) 563 c (nI w)) 564 c (nI v)) 559 10 (nI (c + 1)) 562 i = if i = c then nI k else mi 562 i := by
    rw [upd2_ne (by omega), upd2_ne (by omega), upd2_ne (by omega), u2]
    by_cases d : i = c
    · rw [if_pos ⟨rfl, d⟩, if_pos d]
    · rw [if_neg (fun q => d q.2), if_neg d]
  have e2 : upd2 (upd2 (upd2 (upd2 mi 562 c (nI k)) 563 c (nI w)) 564 c (nI v)) 559 10 (nI (c + 1)) 563 i = if i = c then nI w else mi 563 i := by
    rw [upd2_ne (by omega), upd2_ne (by omega), u2, upd2_ne (by omega)]
    by_cases d : i = c
    · rw [if_pos ⟨rfl, d⟩, if_pos d]
    · rw [if_neg (fun q => d q.2), if_neg d]
  have e3 : upd2 (upd2 (upd2 (upd2 mi 562 c (nI k)) 563 c (nI w)) 564 c (nI v)) 559 10 (nI (c + 1)) 564 i = if i = c then nI v else mi 564 i := by
    rw [upd2_ne (by omega), u2, upd2_ne (by omega), upd2_ne (by omega)]
    by_cases d : i = c
    · rw [if_pos ⟨rfl, d⟩, if_pos d]
    · rw [if_neg (fun q => d q.2), if_neg d]
  have e4 : upd2 ml 565 c nm 565 i = if i = c then nm else ml 565 i := by
    rw [u2]
    by_cases d : i = c
    · rw [if_pos ⟨rfl, d⟩, if_pos d]
    · rw [if_neg (fun q => d q.2), if_neg d]
  rw [e1, e2, e3, e4]
  by_cases d : i = c
  · subst d
    rw [if_pos rfl, if_pos rfl, if_pos rfl, if_pos rfl]
    exact ⟨by rw [hk], by rw [hw], fun q => by rw [h3 q], h2⟩
  · rw [if_neg d, if_neg d, if_neg d, if_neg d]
    exact h.2 i (by omega)
theorem moreM {a b : Nat} {M : MM} (hb : b < 256) (hl : isL b = true) : f_Mo_more n (l64 a) (nI b) M = some (l64 (27 * a + (b - 96)), M) := by
  unfold f_Mo_more
  have hl2 := hl
  unfold isL at hl2
  rw [decide_eq_true_iff] at hl2
  rw [if_neg (by rw [show (0 : Int32) = nI 0 from rfl, nI_eq (by omega) (by omega)]; omega), let_v b hb hl, show (27 : Int64) = l64 27 from rfl, l64_mul, l64_add]
theorem rowLM {k9 : Nat → Int32 → Int32 → Int64 → MM → Option MM} (hz : z ≤ 2000) (h4 : mi 559 4 = nI z) (hT : ∀ j, j < z → tb mi 561 j = T j) (hp : p ≤ z) : ∀ m r, p + r ≤ z → z - (p + r) < m → (∀ i, p ≤ i → i < p + r → isL (T i) = true) → rE T isL z p = rE T isL z (p + r) → f_Mo_cut_0_85 n k9 m 559 (nI p) (nI r) (l64 (cB 27 T p (min r 8))) (K mi ml) = k9 559 (nI p) (nI (rE T isL z p - p)) (l64 (cB 27 T p (min (rE T isL z p - p) 8))) (K mi ml) := by
  intro m
  induction m with
  | zero => intro r h2 h3; omega
  | succ m ih =>
    intro r h2 h3 h5 h6
    rw [f_Mo_cut_0_85, ia3, atM hz h4 hT (by omega), bnd_s]
    by_cases c : p + r = z
    · rw [if_neg (show ¬ p + r < z by omega), (letC (by omega)).2, bnd_s, if_pos (show b2i (isL 0) = 0 by decide), h6, c, rE_z, show z - p = r by omega]
    · have hb := tb_lt mi 561 (p + r)
      rw [hT _ (by omega)] at hb
      rw [if_pos (show p + r < z by omega), (letC (by omega)).2, bnd_s]
      cases e : isL (T (p + r)) with
      | false => rw [if_pos (show b2i false = 0 from rfl), h6, rE_0 (by omega) e, show p + r - p = r by omega]
      | true =>
        rw [if_neg (show ¬ b2i true = 0 by decide)]
        unfold f_Mo_cut_0_118
        have h5' : ∀ i, p ≤ i → i < p + (r + 1) → isL (T i) = true := fun i q1 q2 => by
          by_cases d : i = p + r
          · rw [d]; exact e
          · exact h5 i q1 (by omega)
        have h6' : rE T isL z p = rE T isL z (p + (r + 1)) := by rw [h6, (rE_n (by omega) e).1]; rfl
        by_cases d : 8 ≤ r
        · rw [if_pos (by rw [il1 (n := 8) (by omega) (by omega)]; exact d), nI_1, show min r 8 = min (r + 1) 8 by omega]
          exact ih (r + 1) (by omega) (by omega) h5' h6'
        · rw [if_neg (by rw [il1 (n := 8) (by omega) (by omega)]; exact d), atM hz h4 hT (by omega), bnd_s, if_pos (show p + r < z by omega), moreM hb e, bnd_s, nI_1]
          have := ih (r + 1) (by omega) (by omega) h5' h6'
          rw [show min (r + 1) 8 = r + 1 by omega] at this
          rw [show min r 8 = r by omega]
          exact this
theorem rowDM {k9 : Nat → Int32 → Int32 → Int32 → MM → Option MM} (hz : z ≤ 2000) (h4 : mi 559 4 = nI z) (hT : ∀ j, j < z → tb mi 561 j = T j) (hp : p ≤ z) : ∀ m r, p + r ≤ z → z - (p + r) < m → rE T isD z p = rE T isD z (p + r) → f_Mo_cut_0_208 n k9 m 559 (nI p) (nI r) (nI (dV T p (min r 2))) (K mi ml) = k9 559 (nI p) (nI (rE T isD z p - p)) (nI (dV T p (min (rE T isD z p - p) 2))) (K mi ml) := by
  intro m
  induction m with
  | zero => intro r h2 h3; omega
  | succ m ih =>
    intro r h2 h3 h6
    rw [f_Mo_cut_0_208, ia3, atM hz h4 hT (by omega), bnd_s]
    by_cases c : p + r = z
    · rw [if_neg (show ¬ p + r < z by omega), (digC (by omega)).2, bnd_s, if_pos (show b2i (isD 0) = 0 by decide), h6, c, rE_z, show z - p = r by omega]
    · have hb := tb_lt mi 561 (p + r)
      rw [hT _ (by omega)] at hb
      rw [if_pos (show p + r < z by omega), (digC (by omega)).2, bnd_s]
      cases e : isD (T (p + r)) with
      | false => rw [if_pos (show b2i false = 0 from rfl), h6, rE_0 (by omega) e, show p + r - p = r by omega]
      | true =>
        rw [if_neg (show ¬ b2i true = 0 by decide)]
        unfold f_Mo_cut_0_244
        have hl2 := e
        unfold isD at hl2
        rw [decide_eq_true_iff] at hl2
        have h6' : rE T isD z p = rE T isD z (p + (r + 1)) := by rw [h6, (rE_n (by omega) e).1]; rfl
        by_cases d : 2 ≤ r
        · rw [if_pos (by rw [il1 (n := 2) (by omega) (by omega)]; exact d), nI_1, show min r 2 = min (r + 1) 2 by omega]
          exact ih (r + 1) (by omega) (by omega) h6'
        · rw [if_neg (by rw [il1 (n := 2) (by omega) (by omega)]; exact d), atM hz h4 hT (by omega), bnd_s, if_pos (show p + r < z by omega), im2 (n := 10), ia3, is1 (n := 48) (by omega), nm_t, nI_1]
          have := ih (r + 1) (by omega) (by omega) h6'
          rw [show min (r + 1) 2 = r + 1 by omega, show dV T p (r + 1) = 10 * dV T p r + (T (p + r) - 48) from rfl] at this
          rw [show min r 2 = r by omega, show 10 * dV T p r + T (p + r) - 48 = 10 * dV T p r + (T (p + r) - 48) by omega]
          exact this
theorem keysM {r : Nat} {x1 x3 : Int32} {k9 : Nat → Int32 → Int32 → Int64 → Int32 → MM → Option MM} (hW : ∀ w, w < 10 → ml 566 w = l64 (cB 27 (Wd w) 0 (wn w))) (hr : r ≤ 8) (hl : ∀ i, i < r → isL (T (p + i)) = true) : ∀ m w x6, w ≤ 10 → 10 - w < m → f_Mo_cut_0_146 n k9 m 559 x1 x3 (l64 (cB 27 T p r)) (nI x6) (nI w) (K mi ml) = k9 559 x1 x3 (l64 (cB 27 T p r)) (nI (((fnd (fun w => decide (cB 32 (Wd w) 0 (wn w) = cB 32 T p r)) (10 - w) w).map (20 + ·)).getD x6)) (K mi ml) := by
  have hb : ∀ r', r' ≤ 8 → ∀ (T' : Nat → Nat) p', (∀ i, i < r' → isL (T' (p' + i)) = true) → cB 27 T' p' r' < 2 ^ 63 := fun r' hr' T' p' h' => by
    have h1 := cB_lt (B := 27) (T := T') (p := p') (by omega) r' h'
    have h2 : 27 ^ r' ≤ 27 ^ 8 := Nat.pow_le_pow_right (by omega) hr'
    have h3 : (27 : Nat) ^ 8 < 2 ^ 63 := by decide
    omega
  intro m
  induction m with
  | zero => intro w x6 h1 h2; omega
  | succ m ih =>
    intro w x6 h1 h2
    rw [f_Mo_cut_0_146]
    by_cases c : w = 10
    · subst c; rw [if_pos (show (10 : Int32) ≤ nI 10 by decide)]; rfl
    · have hw := W_l w (by omega)
      have heq : (lcp (ml 566 w) (l64 (cB 27 T p r)) = 0) ↔ cB 32 (Wd w) 0 (wn w) = cB 32 T p r := by
        rw [lcp_0, hW w (by omega), l64_eq (hb _ (by omega) _ _ hw.2.2) (hb _ hr _ _ hl), cB_two hw.2.2 hl]
      rw [if_neg (by rw [il1 (n := 10) (by omega) (by omega)]; omega), rf_559_9, bnd_s, a_566 (by omega), bnd_s, show 10 - w = (10 - (w + 1)) + 1 by omega, fnd_s]
      unfold f_Mo_cut_0_173
      by_cases d : cB 32 (Wd w) 0 (wn w) = cB 32 T p r
      · have hno : fnd (fun w => decide (cB 32 (Wd w) 0 (wn w) = cB 32 T p r)) (10 - (w + 1)) (w + 1) = none := fnd_none.mpr fun j q1 q2 => by
          rw [decide_eq_false_iff_not]
          intro e
          have hw' := W_l j (by omega)
          have e2 := (cB_two hw.2.2 hl).mp d
          have e3 := (cB_two hw'.2.2 hl).mp e
          have := W_one w (by omega) j (by omega) (e2.trans e3.symm)
          omega
        have := ih (w + 1) (20 + w) (by omega) (by omega)
        rw [hno] at this
        rw [if_pos (heq.mpr d), if_pos (by simpa using d), ia2 (n := 20), nm_t, nI_1]
        exact this
      · rw [if_neg (fun q => d (heq.mp q)), if_neg (by simpa using d), nI_1]; exact ih (w + 1) x6 (by omega) (by omega)
theorem mK_w {w : Nat} (hw : w < 10) : mK (10 + w) = 20 + w := by
  unfold mK
  rw [if_neg (by omega), if_neg (by omega), if_neg (by omega), if_neg (by omega), if_pos (by omega)]; omega
theorem kw_m {r : Nat} (hr : r ≤ 8) (x : Nat) (hx : x = 1): mK (kwd T p r) = ((fnd (fun w => decide (cB 32 (Wd w) 0 (wn w) = cB 32 T p r)) 10 0).map (20 + ·)).getD x := by
  unfold kwd
  rw [if_neg (by omega)]
  cases e : fnd (fun w => decide (cB 32 (Wd w) 0 (wn w) = cB 32 T p r)) 10 0 with
  | none => subst hx; rfl
  | some w => exact mK_w (by have := (fnd_some e).2.1; omega)
theorem kw_8 (hl : ∀ i, i < 8 → isL (T (p + i)) = true) : kwd T p 8 = 2 := by
  unfold kwd
  rw [if_neg (by omega)]
  have : fnd (fun w => decide (cB 32 (Wd w) 0 (wn w) = cB 32 T p 8)) 10 0 = none := fnd_none.mpr fun j q1 q2 => by
    rw [decide_eq_false_iff_not]
    intro e
    have hw := W_l j (by omega)
    have := ((cB_inj (B := 32) (by omega) (wn j) 8 hw.2.2 hl).mp e).1
    omega
  rw [this]; rfl
def LexF (T : Nat → Nat) (z c : Nat) : Prop := c ≤ 401 ∧ (c = 401 ∨ (0 < c ∧ tP T z (c - 1) = z))
theorem mK_g : ∀ b, b < 256 → isL b = false → isD b = false → f_Mo_sign n (nI b) (K mi ml) = some (nI (mK (if isG b = true then b else 1)), K mi ml) := by
  intro b hb _ _
  unfold f_Mo_sign mK isG
  by_cases c1 : b = 59
  · subst c1; rfl
  rw [if_neg (by rw [ie1 (n := 59) (by omega) (by omega)]; exact c1)]
  by_cases c2 : b = 61
  · subst c2; rfl
  rw [if_neg (by rw [ie1 (n := 61) (by omega) (by omega)]; exact c2)]
  by_cases c3 : b = 40
  · subst c3; rfl
  rw [if_neg (by rw [ie1 (n := 40) (by omega) (by omega)]; exact c3)]
  by_cases c4 : b = 41
  · subst c4; rfl
  rw [if_neg (by rw [ie1 (n := 41) (by omega) (by omega)]; exact c4)]
  by_cases c5 : b = 43
  · subst c5; rfl
  rw [if_neg (by rw [ie1 (n := 43) (by omega) (by omega)]; exact c5)]
  by_cases c6 : b = 45
  · subst c6; rfl
  rw [if_neg (by rw [ie1 (n := 45) (by omega) (by omega)]; exact c6)]
  by_cases c7 : b = 38
  · subst c7; rfl
  rw [if_neg (by rw [ie1 (n := 38) (by omega) (by omega)]; exact c7), decide_eq_false (by omega)]; rfl
theorem cut7 (hz : z ≤ 2000) (hn : 2001 < n) : ∀ m q c mi ml, q ≤ z → z - q < m → mi 559 4 = nI z → (∀ j, j < z → tb mi 561 j = T j) → (∀ w, w < 10 → ml 566 w = l64 (cB 27 (Wd w) 0 (wn w))) → c ≤ 401 → LexM T z c mi ml → rE T isB z q = tP T z c → ∃ c' mi' ml', f_Mo_cut_0_7 n (f_Mo_cut_0_31 n) m 559 (nI q) (K mi ml) = some (K mi' ml') ∧ LexM T z c' mi' ml' ∧ LexF T z c' ∧ FMx mi mi' ∧ FM5 ml ml' := by
  intro m
  induction m with
  | zero => intro q c mi ml h1 h2; omega
  | succ m ih =>
    intro q c mi ml h1 h2 h4 hT hW hc h hq
    rw [f_Mo_cut_0_7, g_559, bnd_s, h.1]
    by_cases c3 : c = 401
    · rw [if_pos (by rw [it1 (n := 400) (by omega) (by omega)]; omega)]
      exact ⟨c, mi, ml, rfl, h, ⟨hc, Or.inl c3⟩, FMx.rf, fun _ _ => rfl⟩
    rw [if_neg (by rw [it1 (n := 400) (by omega) (by omega)]; omega), atM hz h4 hT (by omega), bnd_s, g_559, bnd_s, h4]
    by_cases c2 : q = z
    · have hz2 : tP T z c = z := by rw [← hq, c2, rE_z]
      have hk0 : kd T z c = 0 := by unfold kd; rw [if_neg (by omega)]
      rw [if_neg (by rw [nI_ltI (by omega) (by omega)]; omega)]
      unfold f_Mo_cut_0_31
      rw [g_559, bnd_s, h4]
      obtain ⟨mi', ml', k0, k1, k2, k3⟩ := addM (n := n) (k := 0) (v := 0) (w := z) (nm := 0) (by omega) h (by rw [hk0]; rfl) hz2.symm (fun e => by omega) (fun e => by omega)
      rw [show f_Mo_token n 559 0 (nI z) 0 0 (K mi ml) = _ from k0, bnd_s]
      exact ⟨c + 1, mi', ml', rfl, k1, ⟨by omega, Or.inr ⟨by omega, hz2⟩⟩, k2, k3⟩
    have hb := tb_lt mi 561 q
    rw [hT _ (by omega)] at hb
    rw [if_pos (by rw [nI_ltI (by omega) (by omega)]; omega), if_pos (show q < z by omega)]
    cases eB : isB (T q) with
    | true =>
      have := ih (q + 1) c mi ml (by omega) (by omega) h4 hT hW hc h (by rw [← (rE_n (by omega) eB).1, hq])
      have eB2 := eB
      unfold isB at eB2
      rw [decide_eq_true_iff] at eB2
      unfold f_Mo_cut_0_67 f_Mo_cut_0_289
      rw [nI_1]
      by_cases d1 : T q = 9
      · rw [if_pos (show nI (T q) = 9 by rw [d1]; rfl)]; exact this
      rw [if_neg (show ¬ nI (T q) = 9 by rw [ie1 (n := 9) (by omega) (by omega)]; exact d1)]
      by_cases d2 : T q = 10
      · rw [if_pos (show nI (T q) = 10 by rw [d2]; rfl)]; exact this
      rw [if_neg (show ¬ nI (T q) = 10 by rw [ie1 (n := 10) (by omega) (by omega)]; exact d2)]
      by_cases d3 : T q = 13
      · rw [if_pos (show nI (T q) = 13 by rw [d3]; rfl)]; exact this
      rw [if_neg (show ¬ nI (T q) = 13 by rw [ie1 (n := 13) (by omega) (by omega)]; exact d3), if_pos (show nI (T q) = 32 by rw [show T q = 32 by omega]; rfl)]
      exact this
    | false =>
      have eB2 := eB
      unfold isB at eB2
      rw [decide_eq_false_iff_not] at eB2
      have hq2 : tP T z c = q := by rw [← hq, rE_0 (by omega) eB]
      have hqz2 : tP T z c < z := by omega
      have hkd : kd T z c = ty T z q := by unfold kd; rw [if_pos hqz2, hq2]
      have hte := te_b (T := T) (z := z) (p := q) (by omega)
      rw [if_neg (show ¬ nI (T q) = 9 by rw [ie1 (n := 9) (by omega) (by omega)]; omega), if_neg (show ¬ nI (T q) = 10 by rw [ie1 (n := 10) (by omega) (by omega)]; omega), if_neg (show ¬ nI (T q) = 13 by rw [ie1 (n := 13) (by omega) (by omega)]; omega), if_neg (show ¬ nI (T q) = 32 by rw [ie1 (n := 32) (by omega) (by omega)]; omega), (letC (by omega)).2, bnd_s]
      have fin : ∀ (mi' : IM) (ml' : JM), LexM T z (c + 1) mi' ml' → FMx mi mi' → FM5 ml ml' → ∃ c' mi2 ml2, f_Mo_cut_0_7 n (f_Mo_cut_0_31 n) m 559 (nI (te T z q)) (K mi' ml') = some (K mi2 ml2) ∧ LexM T z c' mi2 ml2 ∧ LexF T z c' ∧ FMx mi mi2 ∧ FM5 ml ml2 := fun mi' ml' k1 k2 k3 => by
        obtain ⟨c', mi2, ml2, e1, e2, e3, e4, e5⟩ := ih (te T z q) (c + 1) mi' ml' hte.2 (by omega) (by rw [k2 559 4 (by omega) (by omega) (by omega) (by omega)]; exact h4) (fun j hj => by rw [← hT j hj]; unfold tb; rw [k2 561 j (by omega) (by omega) (by omega) (by omega)]) (fun w hw => by rw [k3 566 (by omega)]; exact hW w hw) (by omega) k1 (by rw [tP, if_pos hqz2, hq2])
        exact ⟨c', mi2, ml2, e1, e2, e3, k2.tr e4, fun a ha => by rw [e5 a ha, k3 a ha]⟩
      cases eL : isL (T q) with
      | true =>
        rw [if_neg (show ¬ b2i true = 0 by decide)]
        have hte2 : te T z q = rE T isL z q := by unfold te; rw [if_pos eL]
        have hty : ty T z q = kwd T q (rE T isL z q - q) := by unfold ty; rw [if_pos eL]
        have hr := rE_s (T := T) (P := isL) (z := z) (p := q) (by omega)
        have hv := rowLM (n := n) (ml := ml) (k9 := f_Mo_cut_0_124 n (f_Mo_cut_0_7 n (f_Mo_cut_0_31 n) m)) hz h4 hT (Nat.le_of_lt (show q < z by omega)) n 0 (by omega) (by omega) (fun i q1 q2 => by omega) rfl
        rw [show f_Mo_cut_0_85 n (f_Mo_cut_0_124 n (f_Mo_cut_0_7 n (f_Mo_cut_0_31 n) m)) n 559 (nI q) 0 0 (K mi ml) = _ from hv]
        unfold f_Mo_cut_0_124 f_Mo_cut_0_135
        have endL : ∀ k, k = mK (kd T z c) → ∃ c' mi2 ml2, f_Mo_cut_0_179 n (f_Mo_cut_0_7 n (f_Mo_cut_0_31 n) m) 559 (nI q) (nI (rE T isL z q - q)) (l64 (cB 27 T q (min (rE T isL z q - q) 8))) (nI k) (K mi ml) = some (K mi2 ml2) ∧ LexM T z c' mi2 ml2 ∧ LexF T z c' ∧ FMx mi mi2 ∧ FM5 ml ml2 := fun k hk => by
          unfold f_Mo_cut_0_179 f_Mo_cut_0_289
          obtain ⟨mi', ml', k0, k1, k2, k3⟩ := addM (n := n) (k := k) (v := 0) (w := q) (nm := l64 (cB 27 T q (min (rE T isL z q - q) 8))) (by omega) h hk hq2.symm (fun e => by
            exfalso
            rw [hkd, hty] at e
            unfold kwd at e
            by_cases d : 8 < rE T isL z q - q
            · rw [if_pos d] at e; cases e
            · rw [if_neg d] at e
              cases e2 : fnd (fun w => decide (cB 32 (Wd w) 0 (wn w) = cB 32 T q (rE T isL z q - q))) 10 0 with
              | none => rw [e2] at e; cases e
              | some w => rw [e2] at e; have e : 10 + w = 3 := e; omega) (fun e => by
            rw [hkd, hty] at e
            have : ¬ 8 < rE T isL z q - q := fun d => by
              unfold kwd at e
              rw [if_pos d] at e; cases e
            rw [hq2, hte2, show min (rE T isL z q - q) 8 = rE T isL z q - q by omega])
          rw [show f_Mo_token n 559 (nI k) (nI q) 0 _ (K mi ml) = _ from k0, bnd_s, ia3, nm_t, show q + (rE T isL z q - q) = te T z q by omega]
          exact fin mi' ml' k1 k2 k3
        by_cases d8 : rE T isL z q - q ≤ 8
        · rw [if_pos (by rw [il2 (n := 8) (by omega) (by omega)]; exact d8)]
          by_cases d7 : 7 < rE T isL z q - q
          · rw [if_pos (by rw [it1 (n := 7) (by omega) (by omega)]; exact d7)]
            exact endL 1 (by rw [hkd, hty, show rE T isL z q - q = 8 by omega, kw_8 (fun i hi => hr.2.2.1 (q + i) (by omega) (by omega))]; rfl)
          · rw [if_neg (by rw [it1 (n := 7) (by omega) (by omega)]; exact d7)]
            have hk := keysM (n := n) (mi := mi) (p := q) (r := rE T isL z q - q) (x1 := nI q) (x3 := nI (rE T isL z q - q)) (k9 := f_Mo_cut_0_179 n (f_Mo_cut_0_7 n (f_Mo_cut_0_31 n) m)) hW d8 (fun i hi => hr.2.2.1 (q + i) (by omega) (by omega)) n 0 1 (by omega) (by omega)
            have hmin : min (rE T isL z q - q) 8 = rE T isL z q - q := by omega
            rw [hmin]
            rw [hmin] at endL
            rw [show f_Mo_cut_0_146 n (f_Mo_cut_0_179 n (f_Mo_cut_0_7 n (f_Mo_cut_0_31 n) m)) n 559 (nI q) (nI (rE T isL z q - q)) (l64 (cB 27 T q (rE T isL z q - q))) 1 0 (K mi ml) = _ from hk]
            exact endL _ (by rw [hkd, hty, kw_m d8 1 rfl])
        · rw [if_neg (by rw [il2 (n := 8) (by omega) (by omega)]; exact d8), if_pos (by rw [it1 (n := 7) (by omega) (by omega)]; omega)]
          exact endL 3 (by rw [hkd, hty]; unfold kwd; rw [if_pos (by omega)]; rfl)
      | false =>
        rw [if_pos (show b2i false = 0 from rfl), (digC (by omega)).2, bnd_s]
        cases eD : isD (T q) with
        | true =>
          rw [if_neg (show ¬ b2i true = 0 by decide)]
          have hte2 : te T z q = rE T isD z q := by unfold te; rw [if_neg (by rw [eL]; decide), if_pos eD]
          have hty : ty T z q = if rE T isD z q - q ≤ 2 then 3 else 1 := by unfold ty; rw [if_neg (by rw [eL]; decide), if_pos eD]
          have hr := rE_s (T := T) (P := isD) (z := z) (p := q) (by omega)
          have hv := rowDM (n := n) (ml := ml) (k9 := f_Mo_cut_0_250 n (f_Mo_cut_0_7 n (f_Mo_cut_0_31 n) m)) hz h4 hT (Nat.le_of_lt (show q < z by omega)) n 0 (by omega) (by omega) rfl
          rw [show f_Mo_cut_0_208 n (f_Mo_cut_0_250 n (f_Mo_cut_0_7 n (f_Mo_cut_0_31 n) m)) n 559 (nI q) 0 0 (K mi ml) = _ from hv]
          unfold f_Mo_cut_0_250 f_Mo_cut_0_261 f_Mo_cut_0_289
          by_cases d : rE T isD z q - q ≤ 2
          · rw [if_pos d] at hty
            rw [if_pos (by rw [il2 (n := 2) (by omega) (by omega)]; exact d), show min (rE T isD z q - q) 2 = rE T isD z q - q by omega]
            obtain ⟨mi', ml', k0, k1, k2, k3⟩ := addM (n := n) (k := 2) (v := dV T q (rE T isD z q - q)) (w := q) (nm := 0) (by omega) h (by rw [hkd, hty]; rfl) hq2.symm (fun _ => by rw [hq2, hte2]) (fun e => by omega)
            rw [show f_Mo_token n 559 2 (nI q) _ 0 (K mi ml) = _ from k0, bnd_s, ia3, nm_t, show q + (rE T isD z q - q) = te T z q by omega]
            exact fin mi' ml' k1 k2 k3
          · rw [if_neg d] at hty
            rw [if_neg (by rw [il2 (n := 2) (by omega) (by omega)]; exact d)]
            obtain ⟨mi', ml', k0, k1, k2, k3⟩ := addM (n := n) (k := 3) (v := dV T q (min (rE T isD z q - q) 2)) (w := q) (nm := 0) (by omega) h (by rw [hkd, hty]; rfl) hq2.symm (fun e => by omega) (fun e => by omega)
            rw [show f_Mo_token n 559 3 (nI q) _ 0 (K mi ml) = _ from k0, bnd_s, ia3, nm_t, show q + (rE T isD z q - q) = te T z q by omega]
            exact fin mi' ml' k1 k2 k3
        | false =>
          rw [if_pos (show b2i false = 0 from rfl), mK_g (T q) hb eL eD, bnd_s]
          have hte2 : te T z q = q + 1 := by unfold te; rw [if_neg (by rw [eL]; decide), if_neg (by rw [eD]; decide)]
          have hty : ty T z q = if isG (T q) = true then T q else 1 := by unfold ty; rw [if_neg (by rw [eL]; decide), if_neg (by rw [eD]; decide)]
          have hgs : isG (T q) = true → 38 ≤ T q := fun e => by
            unfold isG at e
            rw [decide_eq_true_iff] at e
            omega
          have hno : kd T z c ≠ 3 ∧ kd T z c ≠ 2 := by
            rw [hkd, hty]
            by_cases e : isG (T q) = true
            · rw [if_pos e]; have := hgs e; omega
            · rw [if_neg e]; omega
          obtain ⟨mi', ml', k0, k1, k2, k3⟩ := addM (n := n) (k := mK (if isG (T q) = true then T q else 1)) (v := 0) (w := q) (nm := 0) (by omega) h (by rw [hkd, hty]) hq2.symm (fun e => absurd e hno.1) (fun e => absurd e hno.2)
          unfold f_Mo_cut_0_289
          rw [show f_Mo_token n 559 (nI (mK (if isG (T q) = true then T q else 1))) (nI q) 0 0 (K mi ml) = _ from k0, bnd_s, nI_1, ← hte2]
          exact fin mi' ml' k1 k2 k3
/-- the reference's cut -/
theorem cutM (hz : z ≤ 2000) (hn : 2001 < n) (h4 : mi 559 4 = nI z) (hT : ∀ j, j < z → tb mi 561 j = T j) (hW : ∀ w, w < 10 → ml 566 w = l64 (cB 27 (Wd w) 0 (wn w))) : ∃ c mi' ml', f_Mo_cut_0 n 559 (K mi ml) = some (K mi' ml') ∧ LexM T z c mi' ml' ∧ LexF T z c ∧ FMx mi mi' ∧ FM5 ml ml' := by
  unfold f_Mo_cut_0
  rw [o_559, p_559, bnd_s]
  have f : ∀ a j, ¬ (a = 559 ∧ j = 10) → upd2 mi 559 10 0 a j = mi a j := fun a j h => by rw [u2, if_neg h]
  obtain ⟨c, mi', ml', e1, e2, e3, e4, e5⟩ := cut7 (n := n) (T := T) hz hn n 0 0 (upd2 mi 559 10 0) ml (by omega) (by omega) (by rw [f _ _ (by omega)]; exact h4) (fun j hj => by rw [← hT j hj]; unfold tb; rw [f _ _ (by omega)]) hW (by omega) ⟨by rw [u2, if_pos ⟨rfl, rfl⟩]; rfl, fun i hi => by omega⟩ rfl
  exact ⟨c, mi', ml', e1, e2, e3, fun a j q1 q2 q3 q4 => by rw [e4 a j q1 q2 q3 q4, f a j q1], e5⟩
end CTM
