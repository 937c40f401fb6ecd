/-! ===== the tape ===== -/
theorem byt {x : Int32} {k : Nat} (hk : k ≤ 24) : (ushr x (nI k)).toInt8 = (ishr x (nI k)).toInt8 := by
  apply Int8.toBitVec_inj.mp
  rw [Int32.toBitVec_toInt8, Int32.toBitVec_toInt8]
  apply BitVec.eq_of_getLsbD_eq
  intro i hi
  rw [BitVec.getLsbD_signExtend, BitVec.getLsbD_signExtend]
  have h1 : (ushr x (nI k)).toBitVec.getLsbD i = bt x (k + i) := b_iushr (by omega) x i
  have h2 : (ishr x (nI k)).toBitVec.getLsbD i = _ := b_sshr k (by omega) x (show i < 32 by omega)
  rw [h1, h2, if_pos (by omega), if_pos (by omega), if_pos (by omega)]
def byV (x : Int32) (i : Nat) : Int32 := (ushr x (nI (24 - 8 * i))).toInt8.toInt32
def wrT (mi : IM) (c t : Nat) (x : Int32) : IM := fun a j => if a = c ∧ t ≤ j ∧ j < t + 4 then byV x (j - t) else mi a j
def cA (mi : IM) (t : Nat) (x : Int32) : IM := upd2 (wrT mi 1 t x) 0 1 (nI (t + 4))
def mA (mi : IM) (t : Nat) (x : Int32) : IM := upd2 (wrT mi 560 t x) 559 2 (nI (t + 4))
theorem i8_32 (v : Int8) : v.toInt32.toInt8 = v := by simp
section TPE
variable {n t : Nat} {mi : IM} {ml : JM} {x : Int32}
theorem append_loop (ht : t + 4 ≤ 2000) : ∀ m i (s : IM), i ≤ 4 → 4 - i < m → s 0 1 = nI (t + i) → (∀ a j, ¬ (a = 0 ∧ j = 1) → s a j = if a = 1 ∧ t ≤ j ∧ j < t + i then byV x (j - t) else mi a j) → f_Q_appendBytes_3 n m 0 x (iZ (24 - 8 * (i : Int))) (K s ml) = some (K (cA mi t x) ml) := by
  intro m
  induction m with
  | zero => intro i s h1 h2; omega
  | succ m ih =>
    intro i s h1 h2 h3 h4
    rw [f_Q_appendBytes_3]
    by_cases c : i = 4
    · subst c
      rw [if_pos (by rw [iZ_l0 (by omega) (by omega)]; omega)]
      congr 2
      funext a j
      unfold cA
      rw [u2]
      by_cases d : a = 0 ∧ j = 1
      · rw [if_pos d, d.1, d.2, h3]
      · rw [if_neg d, h4 a j d]; rfl
    · have e24 : iZ (24 - 8 * (i : Int)) = nI (24 - 8 * i) := by rw [iZ_to (by omega)]; congr 1; omega
      rw [if_neg (by rw [iZ_l0 (by omega) (by omega)]; omega), g_0, bnd_s, h3, if_neg (by rw [il1 (n := 2000) (by omega) (by omega)]; omega), rf_0_0, bnd_s, bnd_s, s_1 (by omega), bnd_s, g_0, bnd_s, p_0, bnd_s, upd2_ne (by omega), h3, nI_1]
      have e8 : iZ (24 - 8 * (i : Int)) + (-8) = iZ (24 - 8 * ((i + 1 : Nat) : Int)) := by
        rw [show (-8 : Int32) = iZ (-8) from rfl, iZ_add]; congr 1; omega
      rw [e8]
      refine ih (i + 1) _ (by omega) (by omega) (by rw [u2, if_pos ⟨rfl, rfl⟩, Nat.add_assoc]) (fun a j hj => ?_)
      rw [u2, if_neg hj, u2]
      by_cases d : a = 1 ∧ j = t + i
      · rw [if_pos d, if_pos (by omega), nrw101, i8_32, e24, d.2]
        unfold byV
        rw [show t + i - t = i by omega]
      · rw [if_neg d, h4 a j hj]
        by_cases f : a = 1 ∧ t ≤ j ∧ j < t + i
        · rw [if_pos f, if_pos (by omega)]
        · rw [if_neg f, if_neg (by omega)]
theorem append_s (ht : t + 4 ≤ 2000) (h : mi 0 1 = nI t) (hn : 4 < n) : f_Q_appendBytes n 0 x (K mi ml) = some (K (cA mi t x) ml) := by
  unfold f_Q_appendBytes
  rw [o_0]
  exact append_loop ht n 0 mi (by omega) (by omega) h (fun a j _ => by rw [if_neg (by omega)])
theorem put_loop (ht : t + 4 ≤ 2000) : ∀ m i (s : IM), i ≤ 4 → 4 - i < m → s 559 2 = nI (t + i) → (∀ a j, ¬ (a = 559 ∧ j = 2) → s a j = if a = 560 ∧ t ≤ j ∧ j < t + i then byV x (j - t) else mi a j) → f_Mo_put_3 n m 559 x (iZ (24 - 8 * (i : Int))) (K s ml) = some (K (mA mi t x) ml) := by
  intro m
  induction m with
  | zero => intro i s h1 h2; omega
  | succ m ih =>
    intro i s h1 h2 h3 h4
    rw [f_Mo_put_3]
    by_cases c : i = 4
    · subst c
      rw [if_pos (by rw [iZ_l0 (by omega) (by omega)]; omega)]
      congr 2
      funext a j
      unfold mA
      rw [u2]
      by_cases d : a = 559 ∧ j = 2
      · rw [if_pos d, d.1, d.2, h3]
      · rw [if_neg d, h4 a j d]; rfl
    · have e24 : iZ (24 - 8 * (i : Int)) = nI (24 - 8 * i) := by rw [iZ_to (by omega)]; congr 1; omega
      rw [if_neg (by rw [iZ_l0 (by omega) (by omega)]; omega), rf_559_1, bnd_s, g_559, bnd_s, h3, s_560 (by omega), bnd_s, g_559, bnd_s, p_559, bnd_s, upd2_ne (by omega), h3, nI_1]
      have e8 : iZ (24 - 8 * (i : Int)) + (-8) = iZ (24 - 8 * ((i + 1 : Nat) : Int)) := by
        rw [show (-8 : Int32) = iZ (-8) from rfl, iZ_add]; congr 1; omega
      rw [e8]
      refine ih (i + 1) _ (by omega) (by omega) (by rw [u2, if_pos ⟨rfl, rfl⟩, Nat.add_assoc]) (fun a j hj => ?_)
      rw [u2, if_neg hj, u2]
      by_cases d : a = 560 ∧ j = t + i
      · rw [if_pos d, if_pos (by omega), nrw101, i8_32, e24, d.2, ← byt (by omega)]
        unfold byV
        rw [show t + i - t = i by omega]
      · rw [if_neg d, h4 a j hj]
        by_cases f : a = 560 ∧ t ≤ j ∧ j < t + i
        · rw [if_pos f, if_pos (by omega)]
        · rw [if_neg f, if_neg (by omega)]
theorem put_s (ht : t + 4 ≤ 2000) (h : mi 559 2 = nI t) (hn : 4 < n) : f_Mo_put n 559 x (K mi ml) = some (K (mA mi t x) ml) := by
  unfold f_Mo_put
  rw [o_559]
  exact put_loop ht n 0 mi (by omega) (by omega) h (fun a j _ => by rw [if_neg (by omega)])
end TPE
def RT (t : Nat) (mi mi' : IM) : Prop := ∀ j, j < t → mi 1 j = mi' 560 j
theorem RT_step {t : Nat} {mi mi' : IM} (x : Int32) (h : RT t mi mi') : RT (t + 4) (cA mi t x) (mA mi' t x) := by
  intro j hj
  unfold cA mA
  rw [upd2_ne (by omega), upd2_ne (by omega)]
  unfold wrT
  by_cases c : t ≤ j
  · rw [if_pos ⟨rfl, c, hj⟩, if_pos ⟨rfl, c, hj⟩]
  · rw [if_neg (by omega), if_neg (by omega)]; exact h j (by omega)
theorem cA_f {mi : IM} {t a j : Nat} {x : Int32} (h0 : ¬ (a = 0 ∧ j = 1)) (h1 : a ≠ 1) : cA mi t x a j = mi a j := by
  unfold cA
  rw [u2, if_neg h0]
  unfold wrT
  rw [if_neg (fun e => h1 e.1)]
theorem mA_f {mi : IM} {t a j : Nat} {x : Int32} (h0 : ¬ (a = 559 ∧ j = 2)) (h1 : a ≠ 560) : mA mi t x a j = mi a j := by
  unfold mA
  rw [u2, if_neg h0]
  unfold wrT
  rw [if_neg (fun e => h1 e.1)]
theorem cA_l {mi : IM} {t : Nat} {x : Int32} : cA mi t x 0 1 = nI (t + 4) := by unfold cA; rw [u2, if_pos ⟨rfl, rfl⟩]
theorem mA_l {mi : IM} {t : Nat} {x : Int32} : mA mi t x 559 2 = nI (t + 4) := by unfold mA; rw [u2, if_pos ⟨rfl, rfl⟩]
theorem IV_tape {l nb no : Nat} {Bd Ou : Nat → Nat → Bool} {mi mi' : IM} {ml : JM} (h : IV l nb no Bd Ou mi ml) (hT : IvT mi') (hk : ∀ c j, ¬ DT c j → mi' c j = mi c j) : IV l nb no Bd Ou mi' ml := by
  obtain ⟨h1, h2, h3, h4, h5, h6, h7, h8, h9, h10⟩ := h
  refine ⟨fun j => by rw [hk _ _ (by unfold DT; omega)]; exact h1 j, h2, IvB_c (fun c j q => hk c j ?_) h3, hT, IvL_c (fun c j q => hk c j ?_) h5, IvK_c (fun c j q => hk c j ?_) h6, IvF_c (fun c j q => hk c j ?_) h7, IvS_c h3.1.2.2 (fun c j q => hk c j ?_) h8, IvR_c (fun c j q => hk c j ?_) h9, IvC_c (fun c j q => hk c j ?_) h10⟩
  · unfold DB at q; unfold DT; omega
  · unfold DL at q; unfold DT; omega
  · unfold DK at q; unfold DT; omega
  · unfold DF at q; unfold DT; omega
  · unfold DS at q; unfold DT; omega
  · unfold DR at q; unfold DT; omega
  · unfold DC2 at q; unfold DT; omega
theorem sq_feed {x1 x2 x3 x4 x5 : Int32} : SQ Inv (f_Q_feed NF 0 x1 x2 x3 x4 x5) (f_Mo_feed NF 559 x1 x2 x3 x4 x5) := by
  rintro M ⟨mi, ml, rfl, l, nb, no, Bd, Ou, hI⟩
  obtain ⟨⟨t, h1, h2, h3, h4⟩, h5⟩ := hI.2.2.2.1
  unfold f_Q_feed f_Mo_feed
  rw [o_0, g_0, bnd_s, h2, ia1 (n := 20)]
  by_cases c : t + 20 ≤ 2000
  · rw [if_pos (by rw [il2 (n := 2000) (by omega) (by omega)]; exact c)]
    rw [append_s (by omega) h2 (by decide), bnd_s, append_s (t := t + 4) (by omega) cA_l (by decide), bnd_s, append_s (t := t + 4 + 4) (by omega) cA_l (by decide), bnd_s, append_s (t := t + 4 + 4 + 4) (by omega) cA_l (by decide), bnd_s, append_s (t := t + 4 + 4 + 4 + 4) (by omega) cA_l (by decide), bnd_s, g_0, bnd_s, cA_l]
    generalize hm1 : cA (cA (cA (cA (cA mi t x1) (t + 4) x2) (t + 4 + 4) x3) (t + 4 + 4 + 4) x4) (t + 4 + 4 + 4 + 4) x5 = m1
    have f1 : ∀ a j, ¬ (a = 0 ∧ j = 1) → a ≠ 1 → m1 a j = mi a j := by
      intro a j q1 q2
      rw [← hm1, cA_f q1 q2, cA_f q1 q2, cA_f q1 q2, cA_f q1 q2, cA_f q1 q2]
    have l1 : m1 0 1 = nI (t + 4 + 4 + 4 + 4 + 4) := by rw [← hm1, cA_l]
    have r0 : RT t mi m1 := fun j hj => by rw [f1 560 j (by omega) (by omega)]; exact h4 j hj
    have r5 := RT_step x5 (RT_step x4 (RT_step x3 (RT_step x2 (RT_step x1 r0))))
    have k2 : m1 559 2 = nI t := by rw [f1 559 2 (by omega) (by omega)]; exact h3
    refine ⟨_, K m1 ml, _, rfl, ?_, mA (mA (mA (mA (mA m1 t x1) (t + 4) x2) (t + 4 + 4) x3) (t + 4 + 4 + 4) x4) (t + 4 + 4 + 4 + 4) x5, ml, rfl, l, nb, no, Bd, Ou, ?_⟩
    · rw [o_559, g_559, bnd_s, k2, ia1 (n := 20), if_pos (by rw [il2 (n := 2000) (by omega) (by omega)]; exact c)]
      rw [put_s (by omega) k2 (by decide), bnd_s, put_s (t := t + 4) (by omega) mA_l (by decide), bnd_s, put_s (t := t + 4 + 4) (by omega) mA_l (by decide), bnd_s, put_s (t := t + 4 + 4 + 4) (by omega) mA_l (by decide), bnd_s, put_s (t := t + 4 + 4 + 4 + 4) (by omega) mA_l (by decide), bnd_s, g_559, bnd_s, mA_l]
    · generalize hm2 : mA (mA (mA (mA (mA m1 t x1) (t + 4) x2) (t + 4 + 4) x3) (t + 4 + 4 + 4) x4) (t + 4 + 4 + 4 + 4) x5 = m2 at r5
      have f2 : ∀ a j, ¬ (a = 559 ∧ j = 2) → a ≠ 560 → m2 a j = m1 a j := by
        intro a j q1 q2
        rw [← hm2, mA_f q1 q2, mA_f q1 q2, mA_f q1 q2, mA_f q1 q2, mA_f q1 q2]
      rw [hm1] at r5
      refine IV_tape hI ⟨⟨t + 4 + 4 + 4 + 4 + 4, by omega, ?_, by rw [← hm2, mA_l], fun j hj => ?_⟩, ?_⟩ (fun a j hd => ?_)
      · rw [f2 0 1 (by omega) (by omega), l1]
      · rw [f2 1 j (by omega) (by omega)]; exact r5 j hj
      · rw [f2 0 2 (by omega) (by omega), f1 0 2 (by omega) (by omega), f2 559 17 (by omega) (by omega), f1 559 17 (by omega) (by omega)]; exact h5
      · unfold DT at hd
        rw [f2 a j (by omega) (by omega), f1 a j (by omega) (by omega)]
  · rw [if_neg (by rw [il2 (n := 2000) (by omega) (by omega)]; exact c)]
    refine ⟨_, K mi ml, K mi ml, rfl, ?_, mi, ml, rfl, l, nb, no, Bd, Ou, hI⟩
    rw [o_559, g_559, bnd_s, h3, ia1 (n := 20), if_neg (by rw [il2 (n := 2000) (by omega) (by omega)]; exact c)]
theorem sq_back {x1 : Int32} : SQ Inv (f_Q_back NF 0 x1) (f_Mo_back NF 559 x1) := by
  rintro M ⟨mi, ml, rfl, l, nb, no, Bd, Ou, hI⟩
  obtain ⟨⟨t, h1, h2, h3, h4⟩, h5⟩ := hI.2.2.2.1
  have stay : ∀ r, f_Q_back NF 0 x1 (K mi ml) = some (r, K mi ml) → f_Mo_back NF 559 x1 (K mi ml) = some (r, K mi ml) → ∃ (r : Int32) (M1 M2 : MM), f_Q_back NF 0 x1 (K mi ml) = some (r, M1) ∧ f_Mo_back NF 559 x1 M1 = some (r, M2) ∧ Inv M2 := fun r e1 e2 => ⟨r, K mi ml, K mi ml, e1, e2, mi, ml, rfl, l, nb, no, Bd, Ou, hI⟩
  rcases i_cases x1 with c | ⟨k, hk, c⟩
  · refine stay (-1) ?_ ?_
    · unfold f_Q_back; rw [o_0, if_pos c]
    · unfold f_Mo_back; rw [o_559, if_pos c]
  · subst c
    by_cases d : k ≤ t
    · refine ⟨nI (t - k), K (upd2 mi 0 1 (nI (t - k))) ml, K (upd2 (upd2 mi 0 1 (nI (t - k))) 559 2 (nI (t - k))) ml, ?_, ?_, _, ml, rfl, l, nb, no, Bd, Ou, ?_⟩
      · unfold f_Q_back
        rw [o_0, if_neg (inN hk), g_0, bnd_s, h2, if_pos (by rw [nI_leI hk (by omega)]; exact d), bnd_s, is3 d, p_0, bnd_s, g_0, bnd_s, u2, if_pos ⟨rfl, rfl⟩]
      · unfold f_Mo_back
        rw [o_559, if_neg (inN hk), g_559, bnd_s, upd2_ne (by omega), h3, if_pos (by rw [nI_leI hk (by omega)]; exact d), bnd_s, is3 d, p_559, bnd_s, g_559, bnd_s, u2, if_pos ⟨rfl, rfl⟩]
      · refine IV_tape hI ⟨⟨t - k, by omega, ?_, ?_, fun j hj => ?_⟩, ?_⟩ (fun a j hd => ?_)
        · rw [upd2_ne (by omega), u2, if_pos ⟨rfl, rfl⟩]
        · rw [u2, if_pos ⟨rfl, rfl⟩]
        · rw [upd2_ne (by omega), upd2_ne (by omega), upd2_ne (by omega), upd2_ne (by omega)]; exact h4 j (by omega)
        · rw [upd2_ne (by omega), u2, if_neg (by omega), u2, if_neg (by omega), upd2_ne (by omega)]; exact h5
        · unfold DT at hd
          rw [u2, if_neg (by omega), u2, if_neg (by omega)]
    · refine stay (-1) ?_ ?_
      · unfold f_Q_back; rw [o_0, if_neg (inN hk), g_0, bnd_s, h2, if_neg (by rw [nI_leI hk (by omega)]; exact d)]
      · unfold f_Mo_back; rw [o_559, if_neg (inN hk), g_559, bnd_s, h3, if_neg (by rw [nI_leI hk (by omega)]; exact d)]
