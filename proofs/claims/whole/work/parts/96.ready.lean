/-! ===== the reference's rows of IMAGES ===== -/
theorem ct_mono {S : Nat → Bool} : ∀ {i j : Nat}, i ≤ j → ct S i ≤ ct S j := by
  intro i j h
  induction j with
  | zero => rw [show i = 0 by omega]; exact Nat.le_refl _
  | succ j ih =>
    by_cases c : i = j + 1
    · rw [c]; exact Nat.le_refl _
    · have := ih (by omega)
      show ct S i ≤ ct S j + _
      omega
theorem ct_lt_of {S : Nat → Bool} {i j : Nat} (h : i < j) (hs : S i = true) : ct S i < ct S j := by
  have h1 : ct S (i + 1) = ct S i + 1 := by show ct S i + (if S i = true then 1 else 0) = _; rw [if_pos hs]
  have := ct_mono (S := S) (show i + 1 ≤ j by omega)
  omega
def RdK (Bd : Nat → Nat → Bool) (mi : IM) (k : Nat) : Prop := mi 588 k = nI (ct (imK Bd k) 256) ∧ mi 590 k = b2i (lsG (Bd (k / 8)) (k % 8) == k % 8) ∧ ∀ i, i < 256 → imK Bd k i = true → mi 589 (256 * k + ct (imK Bd k) i) = nI i
theorem RdK_c {Bd : Nat → Nat → Bool} {mi mi' : IM} {k : Nat} (h : ∀ c j, (c = 588 ∧ j = k) ∨ (c = 590 ∧ j = k) ∨ (c = 589 ∧ 256 * k ≤ j ∧ j < 256 * k + 256) → mi' c j = mi c j) (hk : RdK Bd mi k) : RdK Bd mi' k := by
  refine ⟨by rw [h 588 k (by omega)]; exact hk.1, by rw [h 590 k (by omega)]; exact hk.2.1, fun i hi hs => ?_⟩
  have := ct_lt_of (S := imK Bd k) hi hs
  have := ct_le (imK Bd k) 256
  rw [h 589 _ (by omega)]; exact hk.2.2 i hi hs
/-- what readying row k may change -/
def FRk (k : Nat) (mi mi' : IM) : Prop := ∀ c j, ¬ (c = 588 ∧ j = k) → ¬ (c = 590 ∧ j = k) → ¬ (c = 589 ∧ 256 * k ≤ j ∧ j < 256 * k + 256) → ¬ (c = 567 ∧ 11264 ≤ j ∧ j < 12800) → mi' c j = mi c j
theorem FRk.tr {k : Nat} {a b c : IM} (h : FRk k a b) (h2 : FRk k b c) : FRk k a c := fun x j h3 h4 h5 h6 => by rw [h2 x j h3 h4 h5 h6, h x j h3 h4 h5 h6]
theorem Fr.frk {k : Nat} {ps : List Nat} {a b : IM} (h : Fr ps a b) (hp : ∀ q ∈ ps, 44 ≤ q ∧ q < 50) : FRk k a b := fun c j _ _ _ h4 => h c j fun q hq => by have := hp q hq; omega
section RDY
variable {n l nb k : Nat} {ml : JM} {Bd : Nat → Nat → Bool}
theorem rows_fill {k9 : Nat → Int32 → Int32 → MM → Option MM} {x1 x2 : Int32} (hk : k < 64) : ∀ m i s, i ≤ 256 → 256 - i < m → pS s 48 = imK Bd k → s 588 k = nI (ct (imK Bd k) i) → (∀ j, j < i → imK Bd k j = true → s 589 (256 * k + ct (imK Bd k) j) = nI j) → ∃ s', f_Mo_readies_98 n k9 m 559 x1 x2 (nI k) (nI i) (K s ml) = k9 559 x1 x2 (K s' ml) ∧ s' 588 k = nI (ct (imK Bd k) 256) ∧ (∀ j, j < 256 → imK Bd k j = true → s' 589 (256 * k + ct (imK Bd k) j) = nI j) ∧ FRk k s s' ∧ s' 590 = s 590 ∧ s' 567 = s 567 := by
  intro m
  induction m with
  | zero => intro i s h1 h2; omega
  | succ m ih =>
    intro i s h1 h2 hP hc hr
    rw [f_Mo_readies_98]
    by_cases c : i = 256
    · subst c; rw [if_pos (by decide)]; exact ⟨s, rfl, hc, hr, fun _ _ _ _ _ _ => rfl, rfl, rfl⟩
    · have e : imK Bd k i = decide (s 567 (12288 + i) ≠ 0) := by rw [← hP, pS_in (by omega)]; rfl
      have hci := ct_le (imK Bd k) i
      rw [if_neg (by rw [il1 (n := 256) (by omega) (by omega)]; omega), rf_559_18, bnd_s, ia2 (n := 12288), a_567 (by omega), bnd_s]
      unfold f_Mo_readies_152
      by_cases d : s 567 (12288 + i) = 0
      · have e2 : imK Bd k i = false := by rw [e]; simp [d]
        rw [if_pos d, nI_1]
        exact ih (i + 1) s (by omega) (by omega) hP (by rw [hc]; simp only [ct, e2, Bool.false_eq_true, if_false, Nat.add_zero]) (fun j hj hs => hr j (by
          have : j ≠ i := fun q => by rw [q, e2] at hs; cases hs
          omega) hs)
      · have e2 : imK Bd k i = true := by rw [e]; simp [d]
        have e3 : ct (imK Bd k) (i + 1) = ct (imK Bd k) i + 1 := by show ct (imK Bd k) i + (if imK Bd k i = true then 1 else 0) = _; rw [if_pos e2]
        rw [if_neg d, rf_559_46, bnd_s, rf_559_45, bnd_s, a_588 hk, bnd_s, hc, im2 (n := 256), ia3, s_589 (by omega), bnd_s, nrw100, rf_559_45, bnd_s, a_588 hk, bnd_s, upd2_ne (by omega), hc, nI_1, s_588 hk, bnd_s, nrw100, nI_1]
        obtain ⟨s', a1, a2, a3, a4, a5, a6⟩ := ih (i + 1) (upd2 (upd2 s 589 (256 * k + ct (imK Bd k) i) (nI i)) 588 k (nI (ct (imK Bd k) i + 1))) (by omega) (by omega) (by
            rw [← hP]
            exact cu_ext fun j _ => by unfold pg; rw [upd2_ne (by omega), upd2_ne (by omega)]) (by rw [u2, if_pos ⟨rfl, rfl⟩, e3]) (fun j hj hs => by
            rw [upd2_ne (by omega), u2]
            by_cases q : j = i
            · rw [q, if_pos ⟨rfl, rfl⟩]
            · have := ct_lt_of (S := imK Bd k) (show j < i by omega) hs
              rw [if_neg (by omega)]; exact hr j (by omega) hs)
        refine ⟨s', a1, a2, a3, fun c j h1 h2 h3 h4 => ?_, by rw [a5, upd2_ne (by omega), upd2_ne (by omega)], by rw [a6, upd2_ne (by omega), upd2_ne (by omega)]⟩
        rw [a4 c j h1 h2 h3 h4, u2, if_neg h1, u2, if_neg (by omega)]
theorem images_fill {b : Nat} {k9 : Nat → Int32 → MM → Option MM} (hl : l < 2) (hb : b < 8) (hn : 256 < n) : ∀ m g s, g ≤ 8 → 8 - g < m → B01 s → s 559 19 = nI l → pS s (8 * l + b) = Bd b → (∀ k, k < 8 * b + g → RdK Bd s k) → ∃ s', f_Mo_readies_30 n k9 m 559 (nI b) (nI g) (K s ml) = k9 559 (nI b) (K s' ml) ∧ (∀ k, k < 8 * b + 8 → RdK Bd s' k) ∧ B01 s' ∧ ∀ c j, c ≠ 588 → c ≠ 589 → c ≠ 590 → ¬ (c = 567 ∧ 11264 ≤ j ∧ j < 12800) → s' c j = s c j := by
  intro m
  induction m with
  | zero => intro g s h1 h2; omega
  | succ m ih =>
    intro g s h1 h2 hB hl9 hP hR
    rw [f_Mo_readies_30]
    by_cases c : g = 8
    · subst c; rw [if_pos (by decide)]; exact ⟨s, rfl, hR, hB, fun _ _ _ _ _ _ => rfl⟩
    · have kb : (8 * b + g) / 8 = b := by omega
      have kg : (8 * b + g) % 8 = g := by omega
      obtain ⟨m1, a1, a2, a3⟩ := leastSame_S (n := n) (p := 8 * l + b) (mi := s) (ml := ml) (g := g) hB (by omega) (by simp; omega) (by omega) hn
      rw [hP] at a1
      rw [if_neg (by rw [il1 (n := 8) (by omega) (by omega)]; omega), im2 (n := 8), ia3, nm_t, rf_559_47, bnd_s, g_559, bnd_s, hl9, im2 (n := 8), ia3, a1, bnd_s]
      have main : ∀ v : Int32, v = b2i (lsG (Bd b) g == g) → ∃ s', f_Mo_readies_71 n (f_Mo_readies_30 n k9 m) 559 (nI b) (nI g) (nI (8 * b + g)) 590 (nI (8 * b + g)) v (K m1 ml) = k9 559 (nI b) (K s' ml) ∧ (∀ k, k < 8 * b + 8 → RdK Bd s' k) ∧ B01 s' ∧ ∀ c j, c ≠ 588 → c ≠ 589 → c ≠ 590 → ¬ (c = 567 ∧ 11264 ≤ j ∧ j < 12800) → s' c j = s c j := by
        intro v hv
        unfold f_Mo_readies_71
        rw [s_590 (by omega), bnd_s, nrw102, hv, b2i_1]
        generalize e2 : upd2 m1 590 (8 * b + g) (b2i (lsG (Bd b) g == g)) = m2
        have hb2 : B01 m2 := fun j => by rw [← e2, upd2_ne (by omega)]; exact a3 j
        have hP2 : pS m2 (8 * l + b) = Bd b := by
          rw [← hP, ← a2.pS (p := 8 * l + b) (by simp; omega)]
          exact cu_ext fun i _ => by unfold pg; rw [← e2, upd2_ne (by omega)]
        obtain ⟨m3, b1, b2, b3, b4⟩ := imaged_S (n := n) (p := 8 * l + b) (mi := m2) (ml := ml) (g := g) (to := 48) hb2 (by omega) (by omega) (by omega) hn (by omega) (by omega) (by omega)
        rw [hP2] at b2
        have f1 : FRk (8 * b + g) s m1 := a2.frk (by simp)
        have f2 : FRk (8 * b + g) m1 m2 := fun c j _ q _ _ => by rw [← e2, u2, if_neg q]
        have f3 : FRk (8 * b + g) m2 m3 := b3.frk (by simp)
        have l2 : m2 559 19 = nI l := by rw [← e2, upd2_ne (by omega), a2 559 19 (by simp)]; exact hl9
        rw [g_559, bnd_s, l2, im2 (n := 8), ia3, show (48 : Int32) = nI 48 from rfl, b1, bnd_s, rf_559_45, bnd_s, s_588 (by omega), bnd_s, nrw100]
        generalize e4 : upd2 m3 588 (8 * b + g) 0 = m4
        have f4 : FRk (8 * b + g) m3 m4 := fun c j q _ _ _ => by rw [← e4, u2, if_neg q]
        have hP4 : pS m4 48 = imK Bd (8 * b + g) := by
          unfold imK
          rw [kb, kg, ← b2]
          exact cu_ext fun i _ => by unfold pg; rw [← e4, upd2_ne (by omega)]
        obtain ⟨m5, c1, c2, c3, c4, c5, c6⟩ := rows_fill (n := n) (ml := ml) (Bd := Bd) (x1 := nI b) (x2 := nI g) (k9 := f_Mo_readies_158 n (f_Mo_readies_30 n k9 m)) (k := 8 * b + g) (by omega) n 0 m4 (by omega) (by omega) hP4 (by rw [← e4, u2, if_pos ⟨rfl, rfl⟩]; rfl) (fun j hj => by omega)
        rw [show (0 : Int32) = nI 0 from rfl, c1]
        unfold f_Mo_readies_158
        rw [nI_1]
        have fa : FRk (8 * b + g) s m5 := f1.tr (f2.tr (f3.tr (f4.tr c4)))
        have hR5 : ∀ k, k < 8 * b + (g + 1) → RdK Bd m5 k := fun k hk => by
          by_cases q : k = 8 * b + g
          · subst q
            refine ⟨c2, ?_, c3⟩
            rw [c5, ← e4, upd2_ne (by omega), b3 590 _ (by simp), ← e2, u2, if_pos ⟨rfl, rfl⟩, kb, kg]
          · exact RdK_c (fun c j r => fa c j (by omega) (by omega) (by omega) (by omega)) (hR k (by omega))
        have hb5 : B01 m5 := fun j => by rw [c6, ← e4, upd2_ne (by omega)]; exact b4 j
        obtain ⟨s', d1, d2, d3, d4⟩ := ih (g + 1) m5 (by omega) (by omega) hb5 (by rw [fa 559 19 (by omega) (by omega) (by omega) (by omega)]; exact hl9) (by
          rw [← hP]
          exact cu_ext fun i hi => by unfold pg; rw [fa 567 _ (by omega) (by omega) (by omega) (by omega)]) hR5
        exact ⟨s', d1, d2, d3, fun c j h1 h2 h3 h4 => by rw [d4 c j h1 h2 h3 h4, fa c j (by omega) (by omega) (by omega) h4]⟩
      by_cases d : lsG (Bd b) g = g
      · rw [if_pos (by rw [d])]
        exact main 1 (by rw [show (lsG (Bd b) g == g) = true by simpa using d]; rfl)
      · rw [if_neg (by rw [nI_eq (lsG_lt (by omega)) (by omega)]; exact d)]
        exact main 0 (by rw [show (lsG (Bd b) g == g) = false by simpa using d]; rfl)
/-- ready: the rows are right, the state is kept but for the mark -/
theorem readiesM {no : Nat} {Ou : Nat → Nat → Bool} {mi : IM} (hb : B01 mi) (hB : IvB l nb no Bd Ou mi) (hR : IvR nb Bd mi) (hn : 256 < n) : ∃ mi', f_Mo_readies n 559 (K mi ml) = some (K mi' ml) ∧ mi' 559 48 = 1 ∧ (∀ k, k < 8 * nb → RdK Bd mi' k) ∧ B01 mi' ∧ ∀ c j, c ≠ 588 → c ≠ 589 → c ≠ 590 → ¬ (c = 559 ∧ j = 48) → ¬ (c = 567 ∧ 11264 ≤ j ∧ j < 12800) → mi' c j = mi c j := by
  unfold f_Mo_readies
  rw [o_559, g_559, bnd_s]
  rcases hR with h | ⟨h, h2⟩
  · obtain ⟨⟨b1, b2, b3⟩, ⟨b4, b5, b6, b7, b8⟩, hBd, _⟩ := hB
    rw [h, if_pos (show (0 : Int32) = 0 from rfl), z_559 (by decide), bnd_s]
    generalize e1 : upd2 mi 559 48 1 = m1
    have L : ∀ m b s, b ≤ nb → nb - b < m → B01 s → s 559 48 = 1 → (∀ c j, c ≠ 588 → c ≠ 589 → c ≠ 590 → ¬ (c = 559 ∧ j = 48) → ¬ (c = 567 ∧ 11264 ≤ j ∧ j < 12800) → s c j = mi c j) → (∀ k, k < 8 * b → RdK Bd s k) → ∃ mi', f_Mo_readies_15 n m 559 (nI b) (K s ml) = some (K mi' ml) ∧ mi' 559 48 = 1 ∧ (∀ k, k < 8 * nb → RdK Bd mi' k) ∧ B01 mi' ∧ ∀ c j, c ≠ 588 → c ≠ 589 → c ≠ 590 → ¬ (c = 559 ∧ j = 48) → ¬ (c = 567 ∧ 11264 ≤ j ∧ j < 12800) → mi' c j = mi c j := by
      intro m
      induction m with
      | zero => intro b s h1 h2; omega
      | succ m ih =>
        intro b s h1 h2 hb0 h48 hf hr
        rw [f_Mo_readies_15, rf_559_21, bnd_s, g_559, bnd_s, hf 559 19 (by omega) (by omega) (by omega) (by omega) (by omega), b4, a_568 (by omega), bnd_s, hf 568 l (by omega) (by omega) (by omega) (by omega) (by omega), b6]
        by_cases c : b = nb
        · subst c; rw [if_pos (nI_le (Nat.le_refl _) (by omega))]; exact ⟨s, rfl, h48, hr, hb0, hf⟩
        · have hPs : pS s (8 * l + b) = Bd b := by
            rw [← (hBd b (by omega)).2.2.1]
            exact cu_ext fun i hi => by unfold pg; rw [hf 567 _ (by omega) (by omega) (by omega) (by omega) (by omega)]
          obtain ⟨s', d1, d2, d3, d4⟩ := images_fill (n := n) (ml := ml) (b := b) (k9 := f_Mo_readies_164 n (f_Mo_readies_15 n m)) b1 (by omega) hn n 0 s (by omega) (by omega) hb0 (by rw [hf 559 19 (by omega) (by omega) (by omega) (by omega) (by omega)]; exact b4) hPs (fun k hk => hr k (by omega))
          rw [if_neg (by rw [nI_leI (by omega) (by omega)]; omega), show (0 : Int32) = nI 0 from rfl, d1]
          unfold f_Mo_readies_164
          rw [nI_1]
          exact ih (b + 1) s' (by omega) (by omega) d3 (by rw [d4 559 48 (by omega) (by omega) (by omega) (by omega)]; exact h48) (fun c j q1 q2 q3 q4 q5 => by rw [d4 c j q1 q2 q3 q5]; exact hf c j q1 q2 q3 q4 q5) (fun k hk => d2 k (by omega))
    exact L n 0 m1 (by omega) (by omega) (fun j => by rw [← e1, upd2_ne (by omega)]; exact hb j) (by rw [← e1, u2, if_pos ⟨rfl, rfl⟩]) (fun c j _ _ _ q _ => by rw [← e1, u2, if_neg q]) (fun k hk => by omega)
  · rw [h, if_neg n10]
    exact ⟨mi, rfl, h, fun k hk => ⟨(h2 k hk).1, (h2 k hk).2.1, (h2 k hk).2.2⟩, hb, fun _ _ _ _ _ _ _ => rfl⟩
end RDY
