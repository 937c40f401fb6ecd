/-! ===== FILLINGS in the class: level by level ===== -/
section TRY
variable {n nb set U d b : Nat} {al : Bool} {L : Nat → Bool} {W : Nat → Nat} {ml : JM} {Bd : Nat → Nat → Bool}
/-- what a call for the next level does -/
def RcS (n nb set d : Nat) (al : Bool) (Bd : Nat → Nat → Bool) (ml : JM) (r : Nat → Int32 → Int32 → MM → Option MM) : Prop :=
  (∀ L U W s m, U ≠ 0 → LV nb set Bd d L U → CR set al L U W s m → BdI nb Bd m → ∃ m', r 81 (nI (8 - d)) (nI U) (K m ml) = some (K m' ml) ∧ CR set al L U W (lvl Bd al d L U W s) m' ∧ FS al m m') ∧
  (∀ L W s m x, CR set al L 0 W s m → s.2.1 < s.1 → ∃ m', r 81 x (nI 0) (K m ml) = some (K m' ml) ∧ CR set al L 0 W (cnt al W s) m' ∧ FS al m m')
theorem lvl_s {s : SS} : lvl Bd al (d + 1) L U W s = fl (bod Bd al (lvl Bd al d) L U W) 64 0 s := by rw [lvl]
theorem lvl_le : ∀ d (L : Nat → Bool) (U : Nat) (W : Nat → Nat) (s : SS), s.1 ≤ (lvl Bd al d L U W s).1 ∧ s.2.1 ≤ (lvl Bd al d L U W s).2.1 := by
  intro d
  induction d with
  | zero => intro L U W s; exact ⟨Nat.le_refl _, Nat.le_refl _⟩
  | succ d ih =>
    intro L U W s
    rw [lvl_s]
    have key : ∀ m k (s : SS), s.1 ≤ (fl (bod Bd al (lvl Bd al d) L U W) m k s).1 ∧ s.2.1 ≤ (fl (bod Bd al (lvl Bd al d) L U W) m k s).2.1 := by
      intro m
      induction m with
      | zero => intro k s; exact ⟨Nat.le_refl _, Nat.le_refl _⟩
      | succ m ihm =>
        intro k s
        have h1 := ihm (k + 1) (bod Bd al (lvl Bd al d) L U W k s)
        have h2 : s.1 ≤ (bod Bd al (lvl Bd al d) L U W k s).1 ∧ s.2.1 ≤ (bod Bd al (lvl Bd al d) L U W k s).2.1 := by
          unfold bod
          by_cases c1 : ovr al s = true
          · rw [if_pos c1]; exact ⟨Nat.le_refl _, Nat.le_refl _⟩
          · rw [if_neg c1]
            by_cases c2 : cdK Bd U k (lo L) = true
            · rw [if_pos c2]
              by_cases c3 : s.1 = 60000
              · rw [if_pos c3]; exact ⟨Nat.le_refl _, Nat.le_refl _⟩
              · rw [if_neg c3]
                by_cases c4 : fitS (laK Bd k (lo L)) L = true
                · rw [if_pos c4]
                  by_cases c5 : U - 2 ^ (k / 8) = 0
                  · rw [if_pos c5]; exact ⟨Nat.le_succ _, Nat.le_succ _⟩
                  · rw [if_neg c5]
                    have := ih (lvB L (laK Bd k (lo L))) (U - 2 ^ (k / 8)) (wyK Bd W k (lo L)) (s.1 + 1, s.2)
                    exact ⟨Nat.le_trans (Nat.le_succ _) this.1, this.2⟩
                · rw [if_neg c4]; exact ⟨Nat.le_succ _, Nat.le_refl _⟩
            · rw [if_neg c2]; exact ⟨Nat.le_refl _, Nat.le_refl _⟩
        exact ⟨Nat.le_trans h2.1 h1.1, Nat.le_trans h2.2 h1.2⟩
    exact key 64 0 s
theorem tryC {r : Nat → Int32 → Int32 → MM → Option MM} (hnb : nb ≤ 8) (hd : d < 8) (hr : RcS n nb set d al Bd ml r) (hLV : LV nb set Bd (d + 1) L U) (hb : b < 8) (hU : U.testBit b = true) (hn : 8 < n) : ∀ m g s mi, g ≤ 8 → 8 - g < m → CR set al L U W s mi → BdI nb Bd mi → ∃ mi', f_Filler_tryBoard_11 n r m 81 (nI b) (nI (lo L)) (nI (7 - d)) (nI U) (223 + 24 * b) (nI g) (K mi ml) = some (K mi' ml) ∧ CR set al L U W (fl (bod Bd al (lvl Bd al d) L U W) (8 - g) (8 * b + g) s) mi' ∧ FS al mi mi' := by
  have hp := p_nb hnb
  have hU8 : U < 256 := Nat.lt_of_lt_of_le hLV.2.1 hp
  have hbn : b < nb := by
    by_cases c : nb ≤ b
    · rw [tb_out hLV.2.1 c] at hU; cases hU
    · omega
  have hf := fo_b hb
  intro m
  induction m with
  | zero => intro g s mi h1 h2; omega
  | succ m ih =>
    intro g s mi h1 h2 hCR hBd
    rw [f_Filler_tryBoard_11]
    by_cases c : g = 8
    · subst c; rw [if_pos (by decide)]; exact ⟨mi, rfl, hCR, FS.rf⟩
    · have hg : g < 8 := by omega
      have kb : (8 * b + g) / 8 = b := by omega
      have kg : (8 * b + g) % 8 = g := by omega
      rw [if_neg (by rw [il1 (n := 8) (by omega) (by omega)]; omega), isOverC hCR, bnd_s]
      cases e : ovr al s with
      | true =>
        rw [if_neg (show ¬ b2i true = 0 by decide), fl_ov e]
        exact ⟨mi, rfl, hCR, FS.rf⟩
      | false =>
        have hno := (hBd b hbn).1
        have hFo := (hBd b hbn).2
        obtain ⟨i1, i2, ⟨w, i3, i4⟩, ⟨h, i5, i6⟩, i7⟩ := hFo.2 g hg
        have hni := im_no g hno
        have hmn := im_mn g hno
        have hlo := lo_s hni
        have hv5 := lo_v hni i2
        have hLn : noS L = false := by
          cases q : noS L with
          | false => rfl
          | true =>
            have h1 := ct_noS.mp q
            have h2 := ar_pos (Bd := Bd) hU8 hb hU hno
            have h3 := hLV.2.2.2.1
            omega
        have hq := (lo_s hLn).1
        have imk : imK Bd (8 * b + g) = imS g (Bd b) := by unfold imK; rw [kb, kg]
        have next : ∀ s1 m1, CR set al L U W s1 m1 → FS al mi m1 → bod Bd al (lvl Bd al d) L U W (8 * b + g) s = s1 → ∃ mi', f_Filler_tryBoard_229 n r (f_Filler_tryBoard_11 n r m) 81 (nI b) (nI (lo L)) (nI (7 - d)) (nI U) (223 + 24 * b) (nI g) (K m1 ml) = some (K mi' ml) ∧ CR set al L U W (fl (bod Bd al (lvl Bd al d) L U W) (8 - g) (8 * b + g) s) mi' ∧ FS al mi mi' := by
          intro s1 m1 q1 q2 q3
          unfold f_Filler_tryBoard_229
          obtain ⟨m2, t1, t2, t3⟩ := ih (g + 1) s1 m1 (by omega) (by omega) q1 (BdI_c hBd q2)
          rw [nI_1]
          refine ⟨m2, t1, ?_, q2.tr t3⟩
          rw [show 8 - g = (8 - (g + 1)) + 1 by omega]
          show CR set al L U W (fl (bod Bd al (lvl Bd al d) L U W) (8 - (g + 1)) (8 * b + g + 1) (bod Bd al (lvl Bd al d) L U W (8 * b + g) s)) m2
          rw [q3]; exact t2
        have skip : cdK Bd U (8 * b + g) (lo L) = false → _ := fun q => next s mi hCR FS.rf (bod_no q)
        rw [if_pos (show b2i false = 0 by decide), fo_2 hf, bnd_s, aI_K hf.2.2.2.2.2.2.2.2.1 (by decide) hg, bnd_s, fo_5 hf, bnd_s, ld_7 hf hg, bnd_s, hv5, i7]
        by_cases c1 : lsG (Bd b) g = g
        · rw [if_pos (by rw [c1]), (q_a _ hlo.1).2, (q_a _ hq).2, (q_a _ hlo.1).1, (q_a _ hq).1, q_5 _ hq]
          by_cases c2 : lo (imS g (Bd b)) % 4 = lo L % 4
          · have zx : nI (lo L / 4 % 8) - nI (lo (imS g (Bd b)) / 4 % 8) = iZ (zX (imS g (Bd b)) (lo L)) := by
              unfold zX
              rw [iZ_nat, iZ_nat, iZ_sub]
            have zy : zY (imS g (Bd b)) (lo L) = ((lo L / 32 : Nat) : Int) := by
              unfold zY
              rw [lo_y hni hmn.2]; omega
            have zb : -8 ≤ zX (imS g (Bd b)) (lo L) ∧ zX (imS g (Bd b)) (lo L) ≤ 8 := by
              unfold zX
              have := x_lt (lo L)
              have := x_lt (lo (imS g (Bd b)))
              omega
            have cdk : cdK Bd U (8 * b + g) (lo L) = !sOff (zX (imS g (Bd b)) (lo L)) (zY (imS g (Bd b)) (lo L)) (imS g (Bd b)) := by
              unfold cdK lie
              rw [imk, kb, kg, hU, c1, c2]; simp
            rw [if_pos (by rw [c2]), zx, nm_t, nm_t]
            by_cases c3 : zX (imS g (Bd b)) (lo L) < 0
            · rw [staysOn_n hf (Or.inl (by rw [iZ_l0 (by omega) (by omega)]; exact c3)), bnd_s, if_pos (show (0 : Int32) = 0 from rfl)]
              exact skip (by rw [cdk, stay_neg (no_ex.mp hni) hmn (Or.inl c3)]; rfl)
            · rw [iZ_to (show 0 ≤ zX (imS g (Bd b)) (lo L) by omega), staysOn_p hf hFo hg (no_ex.mp hni) (by omega) (by omega), bnd_s, show (((zX (imS g (Bd b)) (lo L)).toNat : Nat) : Int) = zX (imS g (Bd b)) (lo L) by omega, ← zy]
              cases c4 : sOff (zX (imS g (Bd b)) (lo L)) (zY (imS g (Bd b)) (lo L)) (imS g (Bd b)) with
              | true =>
                rw [if_pos (show b2i (!true) = 0 by decide)]
                exact skip (by rw [cdk, c4]; rfl)
              | false =>
                have cdt : cdK Bd U (8 * b + g) (lo L) = true := by rw [cdk, c4]; rfl
                have yh : lo L / 32 + h ≤ 8 := by
                  have := (stay_iff (x := (zX (imS g (Bd b)) (lo L)).toNat) (y := lo L / 32) (no_ex.mp hni) i4 i6).mp (by rw [show (((zX (imS g (Bd b)) (lo L)).toNat : Nat) : Int) = zX (imS g (Bd b)) (lo L) by omega, ← zy]; exact c4)
                  exact this.2
                have x8 : (zX (imS g (Bd b)) (lo L)).toNat < 8 := by
                  unfold zX
                  have := x_lt (lo L)
                  omega
                have hCR' := hCR
                obtain ⟨⟨r1, r2, r3, r4, r5⟩, ⟨r6, r7⟩, r8, r9⟩ := hCR
                rw [if_neg (show ¬ b2i (!false) = 0 by decide), g_81, bnd_s, r4]
                by_cases c5 : s.1 = 60000
                · rw [if_pos (by rw [c5]; rfl), z_81 (by decide), bnd_s]
                  have bk : bod Bd al (lvl Bd al d) L U W (8 * b + g) s = (s.1, s.2.1, true, s.2.2.2) := by
                    unfold bod
                    rw [if_neg (by rw [e]; decide), if_pos cdt, if_pos c5]
                  rw [show 8 - g = (8 - (g + 1)) + 1 by omega]
                  refine ⟨_, rfl, ?_, fun c j q1 _ _ _ => by rw [u2, if_neg (by omega)]⟩
                  show CR set al L U W (fl (bod Bd al (lvl Bd al d) L U W) (8 - (g + 1)) (8 * b + g + 1) (bod Bd al (lvl Bd al d) L U W (8 * b + g) s)) _
                  rw [bk, fl_ov (s := (s.1, s.2.1, true, s.2.2.2)) rfl]
                  refine ⟨⟨?_, ?_, ?_, ?_, ?_⟩, ⟨r6, r7⟩, fun b' b1 b2 b3 => ?_, fun a1 a2 b' b1 b2 => ?_⟩
                  · rw [sv_of (mi := mi) (upd2_ne (by omega))]; exact r1
                  · rw [u2, if_neg (by omega)]; exact r2
                  · rw [u2, if_pos ⟨rfl, rfl⟩]; rfl
                  · rw [u2, if_neg (by omega)]; exact r4
                  · rw [u2, if_neg (by omega)]; exact r5
                  · rw [upd2_ne (by omega)]; exact r8 b' b1 b2 b3
                  · rw [upd2_ne (by omega)]; exact r9 a1 a2 b' b1 b2
                · rw [if_neg (by rw [ie1 (n := 60000) (by omega) (by omega)]; exact c5), bnd_s, nI_1, p_81, bnd_s]
                  generalize em1 : upd2 mi 81 5 (nI (s.1 + 1)) = m1
                  have f1 : FS al mi m1 := fun c j q1 _ _ _ => by rw [← em1, u2, if_neg (by omega)]
                  have hCR1 : CR set al L U W (s.1 + 1, s.2) m1 := by
                    refine ⟨⟨?_, ?_, ?_, ?_, ?_⟩, ⟨by show s.1 + 1 ≤ 60000; omega, by show s.2.1 ≤ s.1 + 1; omega⟩, fun b' b1 b2 b3 => ?_, fun a1 a2 b' b1 b2 => ?_⟩
                    · rw [← em1, sv_of (mi := mi) (upd2_ne (by omega))]; exact r1
                    · rw [← em1, u2, if_neg (by omega)]; exact r2
                    · rw [← em1, u2, if_neg (by omega)]; exact r3
                    · rw [← em1, u2, if_pos ⟨rfl, rfl⟩]
                    · rw [← em1, u2, if_neg (by omega)]; exact r5
                    · rw [← em1, upd2_ne (by omega)]; exact r8 b' b1 b2 b3
                    · rw [← em1, upd2_ne (by omega)]; exact r9 a1 a2 b' b1 b2
                  have hFo1 := (BdI_c hBd f1 b hbn).2
                  obtain ⟨j1, j2, _, ⟨h', j5, j6⟩, _⟩ := hFo1.2 g hg
                  have hh : m1 (223 + 24 * b + 6) g = nI h := by rw [f1 _ _ (by omega) (by omega) (by omega) (by omega)]; exact i5
                  have A_eq : laK Bd (8 * b + g) (lo L) = shC (zX (imS g (Bd b)) (lo L)) ((lo L / 32 : Nat) : Int) (imS g (Bd b)) := by
                    unfold laK
                    rw [imk, zy]
                  have hz1000 : -1000 ≤ zX (imS g (Bd b)) (lo L) ∧ zX (imS g (Bd b)) (lo L) ≤ 1000 := by omega
                  have zn : nI (zX (imS g (Bd b)) (lo L)).toNat = iZ (zX (imS g (Bd b)) (lo L)) := (iZ_to (by omega)).symm
                  rw [fo_1 hf, bnd_s, im_ref hf hg, bnd_s, fo_4 hf, bnd_s, ld_6 hf hg, bnd_s, hh, zn, fitsC (im_sh hf hg) (by rw [j1]; exact i6) yh hz1000 hn, bnd_s, hCR1.1.1, j1, ← A_eq]
                  cases c6 : fitS (laK Bd (8 * b + g) (lo L)) L with
                  | false =>
                    rw [if_pos (show b2i false = 0 by decide)]
                    exact next (s.1 + 1, s.2) m1 hCR1 f1 (by
                      unfold bod
                      rw [if_neg (by rw [e]; decide), if_pos cdt, if_neg c5, if_neg (by rw [c6]; decide)])
                  | true =>
                    rw [if_neg (show ¬ b2i true = 0 by decide), rf_81_7, bnd_s]
                    unfold f_Filler_layCode
                    rw [bnd_s, ← zn, lay_c g hg _ x8 _ (by omega), s_84 hb, bnd_s, nrw100, zn]
                    generalize em2 : upd2 m1 84 b (nI (64 * g + 8 * (zX (imS g (Bd b)) (lo L)).toNat + lo L / 32)) = m2
                    have f2 : FS al m1 m2 := fun c j _ _ q3 _ => by rw [← em2, upd2_ne q3]
                    have hFo2 := (BdI_c hBd (f1.tr f2) b hbn).2
                    have k1 := (hFo2.2 g hg).1
                    have hh2 : m2 (223 + 24 * b + 6) g = nI h := by rw [f2 _ _ (by omega) (by omega) (by omega) (by omega)]; exact hh
                    have s2L : svS m2 82 = L := by rw [← em2, sv_of (mi := m1) (upd2_ne (by omega))]; exact hCR1.1.1
                    obtain ⟨m3, t1, t2, t3⟩ := changeC (n := n) (mi := m2) (ml := ml) (im_sh hf hg) (by omega) (by rw [k1]; exact i6) yh hz1000 hn
                    rw [s2L, k1, ← A_eq, xor_sub c6] at t2
                    have f3 : FS al m2 m3 := fun c j _ q2 _ _ => by rw [t3 c q2]
                    rw [fo_1 hf, bnd_s, im_ref hf hg, bnd_s, fo_4 hf, bnd_s, ld_6 hf hg, bnd_s, hh2, t1, bnd_s, nI_1, U_a U hU8 b hb hU]
                    have wy : ∀ b', wyK Bd W (8 * b + g) (lo L) b' = if b' = b then 64 * g + 8 * (zX (imS g (Bd b)) (lo L)).toNat + lo L / 32 else W b' := fun b' => by
                      unfold wyK upW lcd
                      rw [kb, kg, imk, zy]
                      rfl
                    have hCR3 : CR set al (lvB L (laK Bd (8 * b + g) (lo L))) (U - 2 ^ b) (wyK Bd W (8 * b + g) (lo L)) (s.1 + 1, s.2) m3 := by
                      obtain ⟨⟨u1, u2', u3, u4, u5⟩, u6, u7, u8⟩ := hCR1
                      refine ⟨⟨t2, ?_, ?_, ?_, ?_⟩, u6, fun b' b1 b2 b3 => ?_, fun a1 a2 b' b1 b2 => ?_⟩
                      · rw [t3 81 (by omega), ← em2, upd2_ne (by omega)]; exact u2'
                      · rw [t3 81 (by omega), ← em2, upd2_ne (by omega)]; exact u3
                      · rw [t3 81 (by omega), ← em2, upd2_ne (by omega)]; exact u4
                      · rw [t3 81 (by omega), ← em2, upd2_ne (by omega)]; exact u5
                      · rw [t3 84 (by omega), ← em2, u2, wy]
                        by_cases c7 : b' = b
                        · rw [if_pos ⟨rfl, c7⟩, if_pos c7]
                        · rw [if_neg (fun q => c7 q.2), if_neg c7]
                          refine u7 b' b1 b2 ?_
                          rw [(U_t U hU8 b hb hU).2 b' b1, decide_eq_false c7] at b3
                          simpa using b3
                      · rw [t3 85 (by omega), ← em2, upd2_ne (by omega)]; exact u8 a1 a2 b' b1 b2
                    have hLV' := LV_step (k := 8 * b + g) hnb hLV (by rw [kb]; exact hU) (by omega) (by rw [imk]; exact c4) c6
                    rw [kb] at hLV'
                    have recS : ∃ m4 s4, r 81 (nI (7 - d + 1)) (nI (U - 2 ^ b)) (K m3 ml) = some (K m4 ml) ∧ CR set al (lvB L (laK Bd (8 * b + g) (lo L))) (U - 2 ^ b) (wyK Bd W (8 * b + g) (lo L)) s4 m4 ∧ FS al m3 m4 ∧ bod Bd al (lvl Bd al d) L U W (8 * b + g) s = s4 := by
                      by_cases c8 : U - 2 ^ b = 0
                      · rw [c8] at hCR3 ⊢
                        obtain ⟨m4, v1, v2, v3⟩ := hr.2 _ _ _ _ (nI (7 - d + 1)) hCR3 (by show s.2.1 < s.1 + 1; omega)
                        refine ⟨m4, _, v1, v2, v3, ?_⟩
                        unfold bod
                        rw [if_neg (by rw [e]; decide), if_pos cdt, if_neg c5, if_pos c6, kb, if_pos c8]
                      · obtain ⟨m4, v1, v2, v3⟩ := hr.1 _ _ _ _ _ c8 hLV' hCR3 (BdI_c hBd (f1.tr (f2.tr f3)))
                        refine ⟨m4, _, by rw [show 7 - d + 1 = 8 - d by omega]; exact v1, v2, v3, ?_⟩
                        unfold bod
                        rw [if_neg (by rw [e]; decide), if_pos cdt, if_neg c5, if_pos c6, kb, if_neg c8]
                    obtain ⟨m4, s4, v1, v2, v3, v4⟩ := recS
                    have f4 : FS al mi m4 := f1.tr (f2.tr (f3.tr v3))
                    have hFo4 := (BdI_c hBd f4 b hbn).2
                    have k4 := (hFo4.2 g hg).1
                    have hh4 : m4 (223 + 24 * b + 6) g = nI h := by rw [f4 _ _ (by omega) (by omega) (by omega) (by omega)]; exact i5
                    obtain ⟨m5, w1, w2, w3⟩ := changeC (n := n) (mi := m4) (ml := ml) (im_sh hf hg) (by omega) (by rw [k4]; exact i6) yh hz1000 hn
                    rw [v2.1.1, k4, ← A_eq, xor_back hLV.1 c6] at w2
                    rw [v1, bnd_s, fo_1 hf, bnd_s, im_ref hf hg, bnd_s, fo_4 hf, bnd_s, ld_6 hf hg, bnd_s, hh4, w1, bnd_s]
                    refine next s4 m5 ?_ (f4.tr fun c j _ q2 _ _ => by rw [w3 c q2]) v4
                    obtain ⟨⟨u1, u2', u3, u4, u5⟩, u6, u7, u8⟩ := v2
                    refine ⟨⟨w2, ?_, ?_, ?_, ?_⟩, u6, fun b' b1 b2 b3 => ?_, fun a1 a2 b' b1 b2 => ?_⟩
                    · rw [w3 81 (by omega)]; exact u2'
                    · rw [w3 81 (by omega)]; exact u3
                    · rw [w3 81 (by omega)]; exact u4
                    · rw [w3 81 (by omega)]; exact u5
                    · have c7 : b' ≠ b := fun q => by rw [q, hU] at b3; cases b3
                      rw [w3 84 (by omega), u7 b' b1 b2 (by rw [(U_t U hU8 b hb hU).2 b' b1, b3]; rfl), wy, if_neg c7]
                    · rw [w3 85 (by omega)]; exact u8 a1 a2 b' b1 b2
          · rw [if_neg (by rw [nI_eq (by omega) (by omega)]; exact c2)]
            refine skip ?_
            unfold cdK lie
            rw [imk, show (lo (imS g (Bd b)) % 4 == lo L % 4) = false by simpa using c2]; simp
        · rw [if_neg (by rw [nI_eq (lsG_lt (by omega)) (by omega)]; exact c1)]
          refine skip ?_
          unfold cdK
          rw [kb, kg, show (lsG (Bd b) g == g) = false by simpa using c1]; simp
end TRY
