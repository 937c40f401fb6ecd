/-! ===== the reference's work: the codes of one thing ===== -/
def PLM : List Sh → IM → Prop
  | [], _ => True
  | a :: p, mi => pS mi (28 + p.length) = a ∧ PLM p mi
theorem PLM_c : ∀ {p : List Sh} {mi mi' : IM}, (∀ q, q < p.length → pS mi' (28 + q) = pS mi (28 + q)) → PLM p mi → PLM p mi'
  | [], _, _, _, _ => trivial
  | a :: p, mi, mi', h, hp => ⟨by rw [h _ (by rw [List.length_cons]; omega)]; exact hp.1, PLM_c (fun q hq => h q (by rw [List.length_cons]; omega)) hp.2⟩
def FPw (mi mi' : IM) : Prop := ∀ c j, ¬ (c = 567 ∧ 7168 ≤ j ∧ j < 11520) → ¬ (c = 559 ∧ (j = 15 ∨ j = 16)) → mi' c j = mi c j
theorem FPw.rf {x : IM} : FPw x x := fun _ _ _ _ => rfl
theorem FPw.tr {x y w : IM} (h : FPw x y) (h2 : FPw y w) : FPw x w := fun a j q1 q2 => by rw [h2 a j q1 q2, h a j q1 q2]
theorem FPw.fr {x y : IM} {p : Nat} (h : Fr [p] x y) (h1 : 28 ≤ p) (h2 : p ≤ 44) : FPw x y := fun a j q1 q2 => h a j (fun q hq g => by
  rw [List.mem_singleton] at hq
  subst hq
  omega)
theorem FPw.pS {x y : IM} {p : Nat} (h : FPw x y) (h1 : p < 28) : pS y p = pS x p := by
  apply cu_ext
  intro i hi
  unfold pg
  rw [h 567 (256 * p + i) (by omega) (by omega)]
section WRK
variable {n z sd : Nat} {ml : JM} {T : Nat → Nat} {N : List Nat} {G : List (List Cd)} {V : List Sh}
theorem work188 {x1 x2 : Int32} {o ci P : Nat} {k9 : Nat → Int32 → Int32 → Int32 → MM → Option MM} (hci : ci < 500) (hP : P < 56) (hP2 : 2 ≤ P) (ho : o = 9 ∨ o = 10 ∨ o = 11) : ∀ m i s, i ≤ 256 → 256 - i < m → s 575 ci = nI o → B01 s → ∃ s', f_Mo_work_188 n k9 m 559 x1 x2 (nI ci) (nI P) (nI i) (K s ml) = k9 559 x1 x2 (nI ci) (K s' ml) ∧ (∀ j, j < 256 → pS s' (P - 2) j = if i ≤ j then opS o (pS s (P - 2)) (pS s (P - 1)) j else pS s (P - 2) j) ∧ Fr [P - 2] s s' ∧ B01 s' := by
  intro m
  induction m with
  | zero => intro i s h1 h2; omega
  | succ m ih =>
    intro i s h1 h2 h5 hB
    rw [f_Mo_work_188]
    by_cases e : i = 256
    · rw [if_pos (show (256 : Int32) ≤ nI i by rw [e]; decide)]
      exact ⟨s, rfl, fun j hj => by rw [if_neg (by omega)], Fr.rf, hB⟩
    · have hi : i < 256 := by omega
      have hb := pg01 hB (P - 2) i
      have ha := pg01 hB (P - 1) i
      rw [if_neg (show ¬ (256 : Int32) ≤ nI i by rw [il1 (n := 256) (by omega) (by omega)]; omega), rf_559_18, bnd_s, is1 (n := 2) hP2, is1 (n := 1) (by omega), im2 (n := 256), im2 (n := 256), ia3, ia3, a_567 (by omega), bnd_s, bnd_s, a_567 (by omega), bnd_s, bnd_s, rf_559_30, bnd_s, a_575 hci, bnd_s, h5, hb, ha, bnd_s, a_575 hci, bnd_s, h5]
      have key : ∃ β : Bool, β = opS o (pS s (P - 2)) (pS s (P - 1)) i ∧ (if nI o = 9 then (if b2i (pg s (P - 2) i) = 0 then (if b2i (pg s (P - 1) i) = 0 then f_Mo_work_320 n (f_Mo_work_188 n k9 m) 559 x1 x2 (nI ci) (nI P) (nI i) 567 (nI (256 * (P - 2) + i)) 0 (K s ml) else f_Mo_work_268 n (f_Mo_work_188 n k9 m) 559 x1 x2 (nI ci) (nI P) (nI i) 567 (nI (256 * (P - 2) + i)) (K s ml)) else f_Mo_work_268 n (f_Mo_work_188 n k9 m) 559 x1 x2 (nI ci) (nI P) (nI i) 567 (nI (256 * (P - 2) + i)) (K s ml)) else if nI o = 10 then (if b2i (pg s (P - 2) i) = 0 then f_Mo_work_301 n (f_Mo_work_188 n k9 m) 559 x1 x2 (nI ci) (nI P) (nI i) 567 (nI (256 * (P - 2) + i)) (K s ml) else (if b2i (pg s (P - 1) i) = 0 then f_Mo_work_320 n (f_Mo_work_188 n k9 m) 559 x1 x2 (nI ci) (nI P) (nI i) 567 (nI (256 * (P - 2) + i)) 1 (K s ml) else f_Mo_work_301 n (f_Mo_work_188 n k9 m) 559 x1 x2 (nI ci) (nI P) (nI i) 567 (nI (256 * (P - 2) + i)) (K s ml))) else (if b2i (pg s (P - 2) i) = 0 then f_Mo_work_319 n (f_Mo_work_188 n k9 m) 559 x1 x2 (nI ci) (nI P) (nI i) 567 (nI (256 * (P - 2) + i)) (K s ml) else (if b2i (pg s (P - 1) i) = 0 then f_Mo_work_319 n (f_Mo_work_188 n k9 m) 559 x1 x2 (nI ci) (nI P) (nI i) 567 (nI (256 * (P - 2) + i)) (K s ml) else f_Mo_work_320 n (f_Mo_work_188 n k9 m) 559 x1 x2 (nI ci) (nI P) (nI i) 567 (nI (256 * (P - 2) + i)) 1 (K s ml)))) = f_Mo_work_320 n (f_Mo_work_188 n k9 m) 559 x1 x2 (nI ci) (nI P) (nI i) 567 (nI (256 * (P - 2) + i)) (b2i β) (K s ml) := by
        refine ⟨_, rfl, ?_⟩
        have e1 : opS o (pS s (P - 2)) (pS s (P - 1)) i = if o = 9 then pg s (P - 2) i || pg s (P - 1) i else if o = 10 then pg s (P - 2) i && !pg s (P - 1) i else pg s (P - 2) i && pg s (P - 1) i := by
          unfold opS
          rw [cu_in hi, pS_in hi, pS_in hi]
        rw [e1]
        unfold f_Mo_work_268 f_Mo_work_301 f_Mo_work_319
        have t0 : ¬ b2i true = 0 := by decide
        have f0 : b2i false = 0 := rfl
        generalize pg s (P - 2) i = B
        generalize pg s (P - 1) i = A
        rcases ho with rfl | rfl | rfl
        · rw [if_pos (show nI 9 = 9 by decide)]
          cases B <;> cases A <;> simp only [if_pos f0, if_neg t0] <;> rfl
        · rw [if_neg (show ¬ nI 10 = 9 by decide), if_pos (show nI 10 = 10 by decide)]
          cases B <;> cases A <;> simp only [if_pos f0, if_neg t0] <;> rfl
        · rw [if_neg (show ¬ nI 11 = 9 by decide), if_neg (show ¬ nI 11 = 10 by decide)]
          cases B <;> cases A <;> simp only [if_pos f0, if_neg t0] <;> rfl
      obtain ⟨β, hβ, hk⟩ := key
      have go : ∃ s', f_Mo_work_320 n (f_Mo_work_188 n k9 m) 559 x1 x2 (nI ci) (nI P) (nI i) 567 (nI (256 * (P - 2) + i)) (b2i β) (K s ml) = k9 559 x1 x2 (nI ci) (K s' ml) ∧ (∀ j, j < 256 → pS s' (P - 2) j = if i ≤ j then opS o (pS s (P - 2)) (pS s (P - 1)) j else pS s (P - 2) j) ∧ Fr [P - 2] s s' ∧ B01 s' := by
        unfold f_Mo_work_320
        rw [s_567 (by omega), bnd_s, nrw102, b2i_1, nI_1]
        obtain ⟨s', g1, g2, g3, g4⟩ := ih (i + 1) (upd2 s 567 (256 * (P - 2) + i) (b2i β)) (by omega) (by omega) (by rw [u2, if_neg (by omega)]; exact h5) (B01_u hB)
        have hF : Fr [P - 2] s (upd2 s 567 (256 * (P - 2) + i) (b2i β)) := Fr_u hi
        have hP1 : pS (upd2 s 567 (256 * (P - 2) + i) (b2i β)) (P - 1) = pS s (P - 1) := hF.pS (by simp; omega)
        refine ⟨s', g1, fun j hj => ?_, hF.trans g3, g4⟩
        rw [g2 j hj, hP1]
        by_cases d : j = i
        · subst d
          rw [if_neg (by omega), if_pos (Nat.le_refl _), pS_u hj hi, if_pos rfl, hβ]
        · have e2 : pS (upd2 s 567 (256 * (P - 2) + i) (b2i β)) (P - 2) j = pS s (P - 2) j := by rw [pS_u hj hi, if_neg d]
          by_cases g : i ≤ j
          · rw [if_pos (by omega), if_pos g]
            unfold opS
            rw [cu_in hj, cu_in hj, e2]
          · rw [if_neg (by omega), if_neg g, e2]
      rw [← hk] at go
      exact go
theorem work9_F {m kk : Nat} {mi : IM} {x2 x3 : Int32} (hk : kk < 14) (h : mi 559 15 = nI 6) : f_Mo_work_9 n (f_Mo_work_333 n) (m + 1) 559 (nI kk) x2 x3 (K mi ml) = f_Mo_work_333 n 559 (nI kk) (K mi ml) := by
  rw [f_Mo_work_9, rf_559_28, bnd_s, nI_1, a_574 (by omega), bnd_s]
  by_cases c : mi 574 (kk + 1) ≤ x3
  · rw [if_pos c]
  · rw [if_neg c, g_559, bnd_s, h, if_neg (show ¬ nI 6 = 0 by decide)]
/-- what stays while the codes of thing kk run -/
def WK (T : Nat → Nat) (z : Nat) (N : List Nat) (G : List (List Cd)) (sd : Nat) (V : List Sh) (mi : IM) : Prop := (ThM T z N G mi ∧ (mi 559 20 = nI sd ∧ sd < 2) ∧ N.length ≤ 14 ∧ V.length < N.length ∧ cnO (kd T z) false N ≤ 8 ∧ cnO (kd T z) true N ≤ 6) ∧ B01 mi ∧ ∀ j, j < V.length → pS mi (pgs (kd T z) N sd j) = V.getD j E0
theorem WK_c {mi mi' : IM} (h : WK T z N G sd V mi) (hf : FPw mi mi') (hB : B01 mi') : WK T z N G sd V mi' := by
  obtain ⟨⟨h1, ⟨h2, h3⟩, h4, h5, h6, h7⟩, h8, h9⟩ := h
  refine ⟨⟨fun j hj => ?_, ⟨by rw [hf _ _ (by omega) (by omega)]; exact h2, h3⟩, h4, h5, h6, h7⟩, hB, fun j hj => ?_⟩
  · rw [hf _ _ (by omega) (by omega), hf _ _ (by omega) (by omega), hf _ _ (by omega) (by omega), hf _ _ (by omega) (by omega)]; exact h1 j hj
  · have := pgs_b (sd := sd) (show j < N.length by omega) h6 h7
    unfold inSd at this
    rw [hf.pS (by omega)]; exact h9 j hj
theorem work9 {kk : Nat} (hn : 256 < n) (hk : kk < 14) : ∀ Cs m c0 p mi R, rn V Cs p = some R → (∀ j x, Cs[j]? = some x → cm mi (c0 + j) x) → mi 574 (kk + 1) = nI (c0 + Cs.length) → c0 + Cs.length ≤ 499 → p.length ≤ 8 → PLM p mi → mi 559 15 = 0 → WK T z N G sd V mi → Cs.length + 1 < m → ∃ mi', f_Mo_work_9 n (f_Mo_work_333 n) m 559 (nI kk) (nI p.length) (nI c0) (K mi ml) = f_Mo_work_333 n 559 (nI kk) (K mi' ml) ∧ FPw mi mi' ∧ B01 mi' ∧ ((∃ pl, R = .inl pl ∧ mi' 559 15 = nI 6 ∧ mi' 559 16 = nI pl) ∨ ∃ p', R = .inr p' ∧ mi' 559 15 = 0 ∧ PLM p' mi') := by
  intro Cs
  induction Cs with
  | nil =>
    intro m c0 p mi R hR _ h74 hl hp hP h15 hW hm
    obtain ⟨m', rfl⟩ : ∃ m', m = m' + 1 := ⟨m - 1, by omega⟩
    rw [rn] at hR
    cases hR
    rw [f_Mo_work_9, rf_559_28, bnd_s, nI_1, a_574 (by omega), bnd_s, h74, if_pos (nI_le (by simp) (by omega))]
    exact ⟨mi, rfl, FPw.rf, hW.2.1, Or.inr ⟨p, rfl, h15, hP⟩⟩
  | cons cd Cs ih =>
    intro m c0 p mi R hR hC h74 hl hp hP h15 hW hm
    obtain ⟨m', rfl⟩ : ∃ m', m = m' + 1 := ⟨m - 1, by omega⟩
    rw [List.length_cons] at h74 hl hm
    have hcd := hC 0 cd rfl
    rw [Nat.add_zero] at hcd
    have hci : c0 < 500 := by omega
    have hok : okc V.length cd = true := by
      rw [rn] at hR
      cases e : stp V cd p with
      | none => rw [e] at hR; cases hR
      | some r =>
        unfold stp at e
        by_cases g : okc V.length cd = false
        · rw [if_pos g] at e; cases e
        · simpa using g
    have hok2 := hok
    unfold okc at hok2
    rw [decide_eq_true_iff] at hok2
    have ho11 := hok2.2.2.2
    rw [f_Mo_work_9, rf_559_28, bnd_s, nI_1, a_574 (by omega), bnd_s, h74, if_neg (show ¬ nI (c0 + (Cs.length + 1)) ≤ nI c0 by rw [nI_leI (by omega) (by omega)]; omega), g_559, bnd_s, h15, if_pos (show (0 : Int32) = 0 from rfl), nm_t, ia2 (n := 28), rf_559_30, bnd_s, a_575 hci, bnd_s, hcd.1]
    -- what goes on
    have on : ∀ p1 m1, rn V Cs p1 = some R → p1.length ≤ 8 → FPw mi m1 → B01 m1 → m1 559 15 = 0 → PLM p1 m1 → ∃ mi', f_Mo_work_9 n (f_Mo_work_333 n) m' 559 (nI kk) (nI p1.length) (nI (c0 + 1)) (K m1 ml) = f_Mo_work_333 n 559 (nI kk) (K mi' ml) ∧ FPw mi mi' ∧ B01 mi' ∧ ((∃ pl, R = .inl pl ∧ mi' 559 15 = nI 6 ∧ mi' 559 16 = nI pl) ∨ ∃ p', R = .inr p' ∧ mi' 559 15 = 0 ∧ PLM p' mi') := fun p1 m1 g1 g2 g3 g4 g5 g6 => by
      obtain ⟨m2, x1, x2, x3, x4⟩ := ih m' (c0 + 1) p1 m1 R g1 (fun j x hx => by
        have := hC (j + 1) x hx
        rw [show c0 + 1 + j = c0 + (j + 1) by omega]
        unfold cm at this ⊢
        rw [g3 _ _ (by omega) (by omega), g3 _ _ (by omega) (by omega), g3 _ _ (by omega) (by omega), g3 _ _ (by omega) (by omega), g3 _ _ (by omega) (by omega), g3 _ _ (by omega) (by omega)]
        exact this) (by rw [g3 _ _ (by omega) (by omega), h74]; congr 1; omega) (by omega) g2 g6 g5 (WK_c hW g3 g4) (by omega)
      exact ⟨m2, x1, g3.tr x2, x3, x4⟩
    have h15f : ∀ m1, Fr [28 + p.length] mi m1 → m1 559 15 = 0 := fun m1 g => by rw [g 559 15 (fun x _ q => by omega)]; exact h15
    obtain ⟨⟨w1, ⟨w2, w3⟩, w4, w5, w6, w7⟩, w8, w9⟩ := hW
    rw [rn] at hR
    by_cases d5 : cd.1 < 5
    · rw [if_neg (show ¬ (5 : Int32) ≤ nI cd.1 by rw [il1 (n := 5) (by omega) (by omega)]; omega)]
      have hst : stp V cd p = if p.length < 8 then some (.inr (layV V cd :: p)) else none := by unfold stp; rw [if_neg (by rw [hok]; decide), if_pos d5]
      by_cases d8 : p.length < 8
      · rw [hst, if_pos d8] at hR
        obtain ⟨m1, e1, e2, e3, e4⟩ := laysM (n := n) (ml := ml) (p := 28 + p.length) hn (by omega) (by omega) hci hcd d5 hok w8 w1 w2 w3 w4 (by omega) w6 w7 w9
        unfold f_Mo_work_327
        rw [e1, bnd_s, nI_1, nI_1]
        exact on (layV V cd :: p) m1 hR (by rw [List.length_cons]; omega) (FPw.fr e3 (by omega) (by omega)) e4 (h15f m1 e3) ⟨e2, PLM_c (fun q hq => e3.pS (by simp; omega)) hP⟩
      · rw [hst, if_neg d8] at hR; cases hR
    rw [if_pos (show (5 : Int32) ≤ nI cd.1 by rw [il1 (n := 5) (by omega) (by omega)]; omega), bnd_s, a_575 hci, bnd_s, hcd.1]
    by_cases d9 : cd.1 < 9
    · cases p with
      | nil =>
        have hst : stp V cd [] = none := by unfold stp; rw [if_neg (by rw [hok]; decide), if_neg d5, if_pos d9]
        rw [hst] at hR; cases hR
      | cons a p =>
        have hst : stp V cd (a :: p) = some (mp (wdS cd a) p) := by unfold stp; rw [if_neg (by rw [hok]; decide), if_neg d5, if_pos d9]
        rw [hst] at hR
        have hlen : (a :: p).length = p.length + 1 := rfl
        rw [hlen] at hp
        rw [if_neg (show ¬ (9 : Int32) ≤ nI cd.1 by rw [il1 (n := 9) (by omega) (by omega)]; omega), hlen, is1 (n := 1) (by omega), show 28 + (p.length + 1) - 1 = 28 + p.length by omega, show f_Mo_copies n 559 (nI (28 + p.length)) 44 (K mi ml) = _ from copies_S (q := 44) w8 (by omega) (by omega) (by omega) hn, bnd_s]
        have e44 : pS (setPg mi 44 (pS mi (28 + p.length))) 44 = a := by rw [pS_set, pS_cu]; exact hP.1
        have f44 : Fr [44] mi (setPg mi 44 (pS mi (28 + p.length))) := Fr.set Fr.rf (by simp)
        have b44 : B01 (setPg mi 44 (pS mi (28 + p.length))) := B01_set w8
        generalize setPg mi 44 (pS mi (28 + p.length)) = m1 at e44 f44 b44
        have c44 : cm m1 c0 cd := by
          unfold cm at hcd ⊢
          rw [f44 _ _ (fun x _ q => by omega), f44 _ _ (fun x _ q => by omega), f44 _ _ (fun x _ q => by omega), f44 _ _ (fun x _ q => by omega), f44 _ _ (fun x _ q => by omega), f44 _ _ (fun x _ q => by omega)]
          exact hcd
        have goS : ∀ S, rn V Cs (cu S :: p) = some R → ∃ mi', f_Mo_work_9 n (f_Mo_work_333 n) m' 559 (nI kk) (nI (p.length + 1)) (nI (c0 + 1)) (K (setPg m1 (28 + p.length) S) ml) = f_Mo_work_333 n 559 (nI kk) (K mi' ml) ∧ FPw mi mi' ∧ B01 mi' ∧ ((∃ pl, R = .inl pl ∧ mi' 559 15 = nI 6 ∧ mi' 559 16 = nI pl) ∨ ∃ p', R = .inr p' ∧ mi' 559 15 = 0 ∧ PLM p' mi') := fun S hS => by
          have fs : Fr [28 + p.length] m1 (setPg m1 (28 + p.length) S) := Fr.set Fr.rf (by simp)
          refine on (cu S :: p) _ hS (by rw [List.length_cons]; omega) ((FPw.fr f44 (by omega) (by omega)).tr (FPw.fr fs (by omega) (by omega))) (B01_set b44) (by rw [fs 559 15 (fun x _ q => by omega), f44 559 15 (fun x _ q => by omega)]; exact h15) ⟨pS_set, PLM_c (fun q hq => by rw [fs.pS (by simp; omega), f44.pS (by simp; omega)]) hP.2⟩
        unfold f_Mo_work_112 f_Mo_work_327
        rw [rf_559_30, bnd_s, a_575 hci, bnd_s, c44.1]
        by_cases d7 : cd.1 < 7
        · rw [if_neg (show ¬ (7 : Int32) ≤ nI cd.1 by rw [il1 (n := 7) (by omega) (by omega)]; omega), bnd_s, a_575 hci, bnd_s, c44.1]
          by_cases d6 : cd.1 = 6
          · have hw : wdS cd a = .inr (tuS true a) := by unfold wdS; rw [if_neg (by omega), if_pos d6]
            rw [hw] at hR
            rw [if_pos (show nI cd.1 = 6 by rw [d6]; rfl), show f_Mo_turns n 559 44 (nI (28 + p.length)) 1 (K m1 ml) = _ from turns_S (p := 44) true (by omega) (by omega) (by omega) hn, bnd_s, nI_1, e44]
            exact goS _ (by rw [tuS_cu]; exact hR)
          · have d5' : cd.1 = 5 := by omega
            have hw : wdS cd a = .inr (tuS false a) := by unfold wdS; rw [if_pos d5']
            rw [hw] at hR
            rw [if_neg (show ¬ nI cd.1 = 6 by rw [d5']; decide), show f_Mo_turns n 559 44 (nI (28 + p.length)) 0 (K m1 ml) = _ from turns_S (p := 44) false (by omega) (by omega) (by omega) hn, bnd_s, nI_1, e44]
            exact goS _ (by rw [tuS_cu]; exact hR)
        rw [if_pos (show (7 : Int32) ≤ nI cd.1 by rw [il1 (n := 7) (by omega) (by omega)]; omega), bnd_s, a_575 hci, bnd_s, c44.1]
        by_cases d7' : cd.1 = 7
        · have hw : wdS cd a = .inr (baC a) := by unfold wdS; rw [if_neg (by omega), if_neg (by omega), if_pos d7']
          rw [hw] at hR
          rw [if_pos (show nI cd.1 = 7 by rw [d7']; rfl), show f_Mo_bases n 559 44 (nI (28 + p.length)) (K m1 ml) = _ from bases_S (p := 44) (by omega) (by omega) (by omega) hn, bnd_s, nI_1, e44]
          exact goS _ (by rw [show cu (baC a) = baC a from cu_cu _]; exact hR)
        · have d8 : cd.1 = 8 := by omega
          obtain ⟨q1, q2⟩ := hok2.2.2.1 d8
          have hw : wdS cd a = if sOff cd.2.1 cd.2.2.1 a = true then .inl cd.2.2.2.2.2 else .inr (shC cd.2.1 cd.2.2.1 a) := by unfold wdS; rw [if_neg (by omega), if_neg (by omega), if_neg (by omega)]
          rw [if_neg (show ¬ nI cd.1 = 7 by rw [d8]; decide), rf_559_31, bnd_s, a_576 hci, bnd_s, rf_559_32, bnd_s, a_577 hci, bnd_s, c44.2.1, c44.2.2.1, show f_Mo_shifts n 559 44 (nI (28 + p.length)) (iZ cd.2.1) (iZ cd.2.2.1) (K m1 ml) = _ from shifts_S (p := 44) (by omega) (by omega) (by omega) (by omega) (by omega) hn, bnd_s, e44]
          cases e : sOff cd.2.1 cd.2.2.1 a with
          | false =>
            rw [e, if_neg (by decide)] at hw
            rw [hw] at hR
            rw [if_neg (show ¬ b2i (!false) = 0 by decide), nI_1]
            exact goS _ (by rw [show cu (shC cd.2.1 cd.2.2.1 a) = shC cd.2.1 cd.2.2.1 a from cu_cu _]; exact hR)
          | true =>
            rw [e, if_pos rfl] at hw
            rw [hw] at hR
            cases hR
            have fs : Fr [28 + p.length] m1 (setPg m1 (28 + p.length) (shC cd.2.1 cd.2.2.1 a)) := Fr.set Fr.rf (by simp)
            have bs : B01 (setPg m1 (28 + p.length) (shC cd.2.1 cd.2.2.1 a)) := B01_set b44
            have cs : setPg m1 (28 + p.length) (shC cd.2.1 cd.2.2.1 a) 580 c0 = nI cd.2.2.2.2.2 := by rw [fs _ _ (fun x _ q => by omega)]; exact c44.2.2.2.2.2
            rw [if_pos (show b2i (!true) = 0 from rfl)]
            generalize setPg m1 (28 + p.length) (shC cd.2.1 cd.2.2.1 a) = m2 at fs bs cs
            obtain ⟨m'', rfl⟩ : ∃ m'', m' = m'' + 1 := ⟨m' - 1, by omega⟩
            unfold f_Mo_comesWrong
            rw [rf_559_35, bnd_s, a_580 hci, bnd_s, cs, o_559, p_559, bnd_s, p_559, bnd_s, bnd_s, work9_F hk (by rw [u2, if_neg (by omega), uE]; rfl)]
            refine ⟨_, rfl, ((FPw.fr f44 (by omega) (by omega)).tr (FPw.fr fs (by omega) (by omega))).tr (fun a j g1 g2 => by rw [u2, if_neg (by omega), u2, if_neg (by omega)]), fun j => by rw [u2, if_neg (by omega), u2, if_neg (by omega)]; exact bs j, Or.inl ⟨_, rfl, by rw [u2, if_neg (by omega), uE]; rfl, uE⟩⟩
    · rw [if_pos (show (9 : Int32) ≤ nI cd.1 by rw [il1 (n := 9) (by omega) (by omega)]; omega)]
      cases p with
      | nil =>
        have hst : stp V cd [] = none := by unfold stp; rw [if_neg (by rw [hok]; decide), if_neg d5, if_neg d9]
        rw [hst] at hR; cases hR
      | cons a p =>
        cases p with
        | nil =>
          have hst : stp V cd [a] = none := by unfold stp; rw [if_neg (by rw [hok]; decide), if_neg d5, if_neg d9]
          rw [hst] at hR; cases hR
        | cons b p =>
          have hst : stp V cd (a :: b :: p) = some (.inr (opS cd.1 b a :: p)) := by unfold stp; rw [if_neg (by rw [hok]; decide), if_neg d5, if_neg d9]
          rw [hst] at hR
          have hlen : (a :: b :: p).length = p.length + 2 := rfl
          rw [hlen] at hp
          rw [hlen, show nI (p.length + 2) + (-1) = nI (p.length + 1) by rw [show (-1 : Int32) = iZ (-1) from rfl, iZ_na, iZ_nat]; congr 1; omega]
          obtain ⟨m1, e1, e2, e3, e4⟩ := work188 (n := n) (ml := ml) (x1 := nI kk) (x2 := nI (p.length + 1)) (o := cd.1) (ci := c0) (P := 28 + (p.length + 2)) (k9 := f_Mo_work_327 n (f_Mo_work_9 n (f_Mo_work_333 n) m')) hci (by omega) (by omega) (by omega) n 0 mi (by omega) (by omega) hcd.1 w8
          rw [show f_Mo_work_188 n (f_Mo_work_327 n (f_Mo_work_9 n (f_Mo_work_333 n) m')) n 559 (nI kk) (nI (p.length + 1)) (nI c0) (nI (28 + (p.length + 2))) 0 (K mi ml) = _ from e1]
          unfold f_Mo_work_327
          rw [nI_1]
          rw [show 28 + (p.length + 2) - 2 = 28 + p.length by omega, show 28 + (p.length + 2) - 1 = 28 + (p.length + 1) by omega] at e2
          rw [show 28 + (p.length + 2) - 2 = 28 + p.length by omega] at e3
          have hpa : pS mi (28 + (p.length + 1)) = a := hP.1
          have hpb : pS mi (28 + p.length) = b := hP.2.1
          refine on (opS cd.1 b a :: p) m1 hR (by rw [List.length_cons]; omega) (FPw.fr e3 (by omega) (by omega)) e4 (by rw [e3 559 15 (fun x _ q => by omega)]; exact h15) ⟨?_, PLM_c (fun q hq => e3.pS (by simp; omega)) hP.2.2⟩
          rw [← pS_cu, ← show cu (opS cd.1 b a) = opS cd.1 b a from cu_cu _]
          apply cu_ext
          intro i hi
          rw [e2 i hi, if_pos (by omega), hpa, hpb]
end WRK
