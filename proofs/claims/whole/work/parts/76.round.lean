/-! ===== CORNERS in the reference ===== -/
theorem dg_t {β : Type} {k : Nat} {b : Option β} (h0 : 0 < k) (h : k < 2 ^ 31) : dg (nI k) b = b := if_neg (by rw [ie1 (n := 0) (by omega) h]; omega)
theorem ir3 {a d : Nat} (ha : a < 2 ^ 31) (h0 : 0 < d) (hd : d < 2 ^ 31) : irm (nI a) (nI d) = nI (a % d) := pk_rem ha h0 hd
def F587 (mi mi' : IM) : Prop := ∀ c, c ≠ 587 → mi' c = mi c
theorem F587.rf {a : IM} : F587 a a := fun _ _ => rfl
theorem F587.tr {a b c : IM} (h : F587 a b) (h2 : F587 b c) : F587 a c := fun x h3 => by rw [h2 x h3, h x h3]
theorem F587.pS {a b : IM} (h : F587 a b) (p : Nat) : pS b p = pS a p := cu_ext fun i _ => by
  unfold pg
  rw [h 567 (by omega)]
section RND
variable {n p : Nat} {mi : IM} {ml : JM} {inw : Bool}
theorem isIn_S {x y : Int} {d : Nat} (hp : p < 56) (hd : d < 4) (hx : -100 ≤ x ∧ x ≤ 100) (hy : -100 ≤ y ∧ y ≤ 100) : f_Mo_isIn n 559 (nI p) (iZ x) (iZ y) (nI d) (K mi ml) = some (b2i (inS (pS mi p) x y d), K mi ml) := by
  unfold f_Mo_isIn inS
  rw [o_559]
  have e8x : ((8 : Int32) ≤ iZ x) = (8 ≤ x) := propext (iZ_le (a := 8) (by omega) (by omega) (by omega) (by omega))
  have e8y : ((8 : Int32) ≤ iZ y) = (8 ≤ y) := propext (iZ_le (a := 8) (by omega) (by omega) (by omega) (by omega))
  have e0x : (iZ x < 0) = (x < 0) := propext (iZ_l0 (by omega) (by omega))
  have e0y : (iZ y < 0) = (y < 0) := propext (iZ_l0 (by omega) (by omega))
  simp only [e8x, e8y, e0x, e0y]
  by_cases c : 0 ≤ x ∧ x < 8 ∧ 0 ≤ y ∧ y < 8
  · rw [if_neg (by omega), if_neg (by omega), if_neg (by omega), if_neg (by omega), decide_eq_true c, iZ_to c.1, iZ_to c.2.2.1, rf_559_18, bnd_s, im2 (n := 8), ia3, im2 (n := 4), im2 (n := 256), ia3, ia3, a_567 (by omega), bnd_s, Bool.true_and, pS_in (by omega)]
    unfold pg
    rw [show 256 * p + 4 * (8 * y.toNat + x.toNat) + d = 256 * p + (4 * (8 * y.toNat + x.toNat) + d) by omega]
    by_cases e : mi 567 (256 * p + (4 * (8 * y.toNat + x.toNat) + d)) = 0
    · rw [if_pos e, decide_eq_false (by simpa using e)]; rfl
    · rw [if_neg e, decide_eq_true (by simpa using e)]; rfl
  · rw [decide_eq_false c, Bool.false_and]
    by_cases c1 : x < 0
    · rw [if_pos c1]; rfl
    · rw [if_neg c1]
      by_cases c2 : 8 ≤ x
      · rw [if_pos c2]; rfl
      · rw [if_neg c2]
        by_cases c3 : y < 0
        · rw [if_pos c3]; rfl
        · rw [if_neg c3, if_pos (by omega)]; rfl
def rnd (mi : IM) (k : Nat) : Bool := decide (mi 587 k ≠ 0)
theorem row_loop {ar k : Nat} {x2 x3 : Int32} {k9 : Nat → Int32 → Int32 → Int32 → Int32 → Int32 → MM → Option (Int32 × MM)} (h0 : 0 < ar) (ha : ar ≤ 8) (hk : k < ar) : ∀ m i, i ≤ ar → ar - i < m → f_Mo_cornersHere_43 n k9 m 559 (nI ar) x2 x3 (nI k) (nI i) (K mi ml) = k9 559 (nI ar) x2 x3 (nI k) (nI (rwL (rnd mi) ar k (ar - i) i)) (K mi ml) := by
  intro m
  induction m with
  | zero => intro i h1 h2; omega
  | succ m ih =>
    intro i h1 h2
    rw [f_Mo_cornersHere_43]
    by_cases c : i = ar
    · subst c
      rw [if_pos (nI_le (Nat.le_refl _) (by omega)), Nat.sub_self]; rfl
    · have hm : (k + i) % ar < ar := Nat.mod_lt _ h0
      rw [if_neg (by rw [nI_leI (by omega) (by omega)]; omega), rf_559_44, bnd_s, dg_t h0 (by omega), ia3, ir3 (by omega) h0 (by omega), a_587 (by omega), bnd_s, show ar - i = (ar - (i + 1)) + 1 by omega]
      unfold rwL
      by_cases d : mi 587 ((k + i) % ar) = 0
      · rw [if_pos d, if_neg (by unfold rnd; simp [d])]
      · rw [if_neg d, if_pos (by unfold rnd; simp [d]), nI_1]
        exact ih (i + 1) (by omega) (by omega)
theorem ang {ar row : Nat} (ha : ar = 8 ∨ ar = 4) : (180 ≤ row * 360 / ar ↔ ¬ 2 * row < ar) ∧ (row * 360 / ar ≤ 180 ↔ ¬ ar < 2 * row) := by
  rcases ha with q | q <;> subst q <;> omega
theorem here_loop {ar : Nat} (ha : ar = 8 ∨ ar = 4) (hn : 8 < n) : ∀ m i, i ≤ ar → ar - i < m → f_Mo_cornersHere_5 n m 559 (nI ar) (b2i inw) (nI (ct (cnK (rnd mi) ar inw) i)) (nI i) (K mi ml) = some (nI (coN (rnd mi) ar inw), K mi ml) := by
  intro m
  induction m with
  | zero => intro i h1 h2; omega
  | succ m ih =>
    intro i h1 h2
    rw [f_Mo_cornersHere_5]
    by_cases c : i = ar
    · subst c
      rw [if_pos (nI_le (Nat.le_refl _) (by omega))]; rfl
    · have hm : (i + ar - 1) % ar < ar := Nat.mod_lt _ (by omega)
      rw [if_neg (by rw [nI_leI (by omega) (by omega)]; omega), rf_559_44, bnd_s, a_587 (by omega), bnd_s]
      unfold f_Mo_cornersHere_106
      have no : cnK (rnd mi) ar inw i = false → f_Mo_cornersHere_5 n m 559 (nI ar) (b2i inw) (nI (ct (cnK (rnd mi) ar inw) i)) (nI i + 1) (K mi ml) = some (nI (coN (rnd mi) ar inw), K mi ml) := by
        intro q
        rw [nI_1, ← ih (i + 1) (by omega) (by omega)]
        simp only [ct, q, Bool.false_eq_true, if_false, Nat.add_zero]
      have ye : cnK (rnd mi) ar inw i = true → f_Mo_cornersHere_5 n m 559 (nI ar) (b2i inw) (nI (ct (cnK (rnd mi) ar inw) i) + 1) (nI i + 1) (K mi ml) = some (nI (coN (rnd mi) ar inw), K mi ml) := by
        intro q
        rw [nI_1, nI_1, ← ih (i + 1) (by omega) (by omega)]
        simp only [ct, q, if_true]
      by_cases d : mi 587 i = 0
      · rw [if_pos d]
        exact no (by unfold cnK rnd; simp [d])
      · rw [if_neg d, bnd_s, dg_t (by omega) (by omega), ia3, is1 (n := 1) (by omega), ir3 (by omega) (by omega) (by omega), a_587 (by omega), bnd_s]
        by_cases e : mi 587 ((i + ar - 1) % ar) = 0
        · rw [if_pos e, show (0 : Int32) = nI 0 from rfl, row_loop (by omega) (by omega) (by omega) n 0 (by omega) (by omega), Nat.sub_zero]
          unfold f_Mo_cornersHere_70 f_Mo_cornersHere_103 f_Mo_cornersHere_106
          have hk : cnK (rnd mi) ar inw i = (if inw then decide (ar < 2 * rwL (rnd mi) ar i ar 0) else decide (2 * rwL (rnd mi) ar i ar 0 < ar)) := by
            unfold cnK
            rw [show rnd mi i = true by unfold rnd; simpa using d, show rnd mi ((i + ar - 1) % ar) = false by unfold rnd; simpa using e]; simp
          have hw := rwL_le (rnd mi) ar i ar 0
          have hw2 : rwL (rnd mi) ar i ar 0 * 360 / ar ≤ rwL (rnd mi) ar i ar 0 * 360 := Nat.div_le_self _ _
          obtain ⟨g1, g2⟩ := ang (row := rwL (rnd mi) ar i ar 0) ha
          rw [dg_t (by omega) (by omega), im1 (n := 360), pk_div (by omega) (by omega) (by omega), nm_t]
          cases inw with
          | false =>
            rw [if_pos (show b2i false = 0 by decide)]
            by_cases g : 2 * rwL (rnd mi) ar i ar 0 < ar
            · rw [if_neg (by rw [il1 (n := 180) (by omega) (by omega), g1]; omega)]
              exact ye (by rw [hk]; simpa using g)
            · rw [if_pos (by rw [il1 (n := 180) (by omega) (by omega), g1]; omega)]
              exact no (by rw [hk]; simpa using g)
          | true =>
            rw [if_neg (show ¬ b2i true = 0 by decide)]
            by_cases g : ar < 2 * rwL (rnd mi) ar i ar 0
            · rw [if_neg (by rw [il2 (n := 180) (by omega) (by omega), g2]; omega)]
              exact ye (by rw [hk]; simpa using g)
            · rw [if_pos (by rw [il2 (n := 180) (by omega) (by omega), g2]; omega)]
              exact no (by rw [hk]; simpa using g)
        · rw [if_neg e]
          exact no (by unfold cnK rnd; simp [e])
theorem cornersHere_S {ar : Nat} (ha : ar = 8 ∨ ar = 4) (hn : 8 < n) : f_Mo_cornersHere n 559 (nI ar) (b2i inw) (K mi ml) = some (nI (coN (rnd mi) ar inw), K mi ml) := by
  unfold f_Mo_cornersHere
  rw [o_559]
  exact here_loop ha hn n 0 (by omega) (by omega)
theorem rstep {α : Type} {x y : Int} {d k : Nat} {di ki xi yi : Int32} {F : MM → Option α} (hp : p < 56) (hd : d < 4) (hdi : di = nI d) (hk : k < 8) (hki : ki = nI k) (hxi : xi = iZ x) (hyi : yi = iZ y) (hx : -100 ≤ x ∧ x ≤ 100) (hy : -100 ≤ y ∧ y ≤ 100) : ((gR 12 44 559 (K mi ml)).bind fun v8 => (f_Mo_isIn n 559 (nI p) xi yi di (K mi ml)).bind fun p9 => (sI 102 v8 ki p9.1 p9.2).bind F) = F (K (upd2 mi 587 k (b2i (inS (pS mi p) x y d))) ml) := by
  subst hdi hki hxi hyi
  rw [rf_559_44, bnd_s, isIn_S hp hd hx hy, bnd_s, s_587 hk, bnd_s, nrw102, b2i_1]
theorem pS_587 {k : Nat} {v : Int32} : pS (upd2 mi 587 k v) p = pS mi p := F587.pS (fun c hc => upd2_ne hc) p
theorem b2i_e (b : Bool) : decide (b2i b = 0) = !b := by cases b <;> decide
theorem b2i_d (b : Bool) : decide (b2i b ≠ 0) = b := by cases b <;> decide
theorem four_loop {x y : Nat} {x2 x3 : Int32} {k9 : Nat → Int32 → Int32 → Int32 → Int32 → Int32 → MM → Option (Int32 × MM)} (hp : p < 56) (hx : x < 9) (hy : y < 9) : ∀ m d mi, d ≤ 4 → 4 - d < m → (∀ k, k < d → rnd mi k = inS (pS mi p) (x : Int) (y : Int) k) → ∃ mi', f_Mo_cornersOf_198 n k9 m 559 (nI p) x2 x3 (nI y) (nI x) (nI d) (K mi ml) = k9 559 (nI p) x2 x3 (nI y) (nI x) (K mi' ml) ∧ (∀ k, k < 4 → rnd mi' k = inS (pS mi p) (x : Int) (y : Int) k) ∧ F587 mi mi' := by
  intro m
  induction m with
  | zero => intro d mi h1 h2; omega
  | succ m ih =>
    intro d mi h1 h2 h3
    rw [f_Mo_cornersOf_198]
    by_cases c : d = 4
    · subst c
      rw [if_pos (by decide)]
      exact ⟨mi, rfl, h3, F587.rf⟩
    · rw [if_neg (by rw [il1 (n := 4) (by omega) (by omega)]; omega), rstep (x := (x : Int)) (y := (y : Int)) (d := d) (k := d) hp (by omega) rfl (by omega) rfl (iZ_nat x) (iZ_nat y) (by omega) (by omega), nI_1]
      obtain ⟨m1, a1, a2, a3⟩ := ih (d + 1) (upd2 mi 587 d (b2i (inS (pS mi p) (x : Int) (y : Int) d))) (by omega) (by omega) (fun k hk => by
        rw [pS_587]
        unfold rnd
        rw [u2]
        by_cases e : k = d
        · rw [if_pos ⟨rfl, e⟩, e, b2i_d]
        · rw [if_neg (fun q => e q.2)]; exact h3 k (by omega))
      rw [pS_587] at a2
      exact ⟨m1, a1, a2, fun c hc => by rw [a3 c hc, upd2_ne hc]⟩
theorem rnd_8 {b0 b1 b2 b3 b4 b5 b6 b7 : Bool} {k : Nat} (hk : k < 8) : rnd (upd2 (upd2 (upd2 (upd2 (upd2 (upd2 (upd2 (upd2 mi 587 0 (b2i b0)) 587 1 (b2i b1)) 587 2 (b2i b2)) 587 3 (b2i b3)) 587 4 (b2i b4)) 587 5 (b2i b5)) 587 6 (b2i b6)) 587 7 (b2i b7)) k = if k = 0 then b0 else if k = 1 then b1 else if k = 2 then b2 else if k = 3 then b3 else if k = 4 then b4 else if k = 5 then b5 else if k = 6 then b6 else b7 := by
  unfold rnd
  rcases (show k = 0 ∨ k = 1 ∨ k = 2 ∨ k = 3 ∨ k = 4 ∨ k = 5 ∨ k = 6 ∨ k = 7 by omega) with e | e | e | e | e | e | e | e <;> subst e <;> simp only [u2] <;> simp [b2i_e]
theorem cof_in {y : Nat} {k9 : Nat → Int32 → Int32 → Int32 → Int32 → MM → Option (Int32 × MM)} {S : Nat → Bool} (hp : p < 56) (hy : y < 9) (hn : 8 < n) : ∀ m x mi, x ≤ 9 → 9 - x < m → pS mi p = S → ∃ mi', f_Mo_cornersOf_15 n k9 m 559 (nI p) (b2i inw) (nI (cr S inw (9 * y + x))) (nI y) (nI x) (K mi ml) = k9 559 (nI p) (b2i inw) (nI (cr S inw (9 * (y + 1)))) (nI y) (K mi' ml) ∧ F587 mi mi' := by
  intro m
  induction m with
  | zero => intro x mi h1 h2; omega
  | succ m ih =>
    intro x mi h1 h2 hS
    rw [f_Mo_cornersOf_15]
    by_cases c : x = 9
    · subst c
      rw [if_pos (show (9 : Int32) ≤ nI 9 by decide), show 9 * y + 9 = 9 * (y + 1) by omega]
      exact ⟨mi, rfl, F587.rf⟩
    · rw [if_neg (by rw [il1 (n := 9) (by omega) (by omega)]; omega)]
      rw [rstep (x := (x : Int)) (y := (y : Int) - 1) (d := 3) (di := 3) (k := 0) (ki := 0) hp (by omega) rfl (by omega) rfl (iZ_nat x) (dn_2 y) (by omega) (by omega)]
      rw [rstep (x := (x : Int)) (y := (y : Int) - 1) (d := 2) (di := 2) (k := 1) (ki := 1) hp (by omega) rfl (by omega) rfl (iZ_nat x) (dn_2 y) (by omega) (by omega)]
      rw [rstep (x := (x : Int)) (y := (y : Int)) (d := 0) (di := 0) (k := 2) (ki := 2) hp (by omega) rfl (by omega) rfl (iZ_nat x) (iZ_nat y) (by omega) (by omega)]
      rw [rstep (x := (x : Int)) (y := (y : Int)) (d := 3) (di := 3) (k := 3) (ki := 3) hp (by omega) rfl (by omega) rfl (iZ_nat x) (iZ_nat y) (by omega) (by omega)]
      rw [rstep (x := (x : Int) - 1) (y := (y : Int)) (d := 1) (di := 1) (k := 4) (ki := 4) hp (by omega) rfl (by omega) rfl (dn_2 x) (iZ_nat y) (by omega) (by omega)]
      rw [rstep (x := (x : Int) - 1) (y := (y : Int)) (d := 0) (di := 0) (k := 5) (ki := 5) hp (by omega) rfl (by omega) rfl (dn_2 x) (iZ_nat y) (by omega) (by omega)]
      rw [rstep (x := (x : Int) - 1) (y := (y : Int) - 1) (d := 2) (di := 2) (k := 6) (ki := 6) hp (by omega) rfl (by omega) rfl (dn_2 x) (dn_2 y) (by omega) (by omega)]
      rw [rstep (x := (x : Int) - 1) (y := (y : Int) - 1) (d := 1) (di := 1) (k := 7) (ki := 7) hp (by omega) rfl (by omega) rfl (dn_2 x) (dn_2 y) (by omega) (by omega)]
      simp only [pS_587, hS]
      generalize hm : upd2 (upd2 (upd2 (upd2 (upd2 (upd2 (upd2 (upd2 mi 587 0 _) 587 1 _) 587 2 _) 587 3 _) 587 4 _) 587 5 _) 587 6 _) 587 7 _ = mm
      have f0 : F587 mi mm := by
        rw [← hm]
        intro c hc
        rw [upd2_ne hc, upd2_ne hc, upd2_ne hc, upd2_ne hc, upd2_ne hc, upd2_ne hc, upd2_ne hc, upd2_ne hc]
      have f1 : ∀ k, k < 8 → rnd mm k = rd S (x : Int) (y : Int) k := by
        intro k hk
        rw [← hm, rnd_8 hk]; rfl
      rw [show (8 : Int32) = nI 8 from rfl, cornersHere_S (Or.inl rfl) hn, bnd_s, nm_t, ia3, coN_ext (t := rd S (x : Int) (y : Int)) (by omega) f1]
      unfold f_Mo_cornersOf_237
      have z4 : (8 ≤ x ∨ 8 ≤ y) → coN (inS S (x : Int) (y : Int)) 4 inw = 0 := fun q => coN_all false (by omega) fun k _ => by
        unfold inS
        rw [decide_eq_false (by omega)]; rfl
      have fin : ∀ m2, F587 mi m2 → pS m2 p = S → ∀ v, v = cr S inw (9 * y + (x + 1)) → ∃ mi', f_Mo_cornersOf_15 n k9 m 559 (nI p) (b2i inw) (nI v) (nI y) (nI x + 1) (K m2 ml) = k9 559 (nI p) (b2i inw) (nI (cr S inw (9 * (y + 1)))) (nI y) (K mi' ml) ∧ F587 mi mi' := by
        intro m2 q1 q2 v q3
        obtain ⟨m3, b1, b2⟩ := ih (x + 1) m2 (by omega) (by omega) q2
        rw [q3, nI_1]
        exact ⟨m3, b1, q1.tr b2⟩
      have hcr := cr_at S inw (show x < 9 by omega) (y := y)
      by_cases d1 : 7 < x
      · rw [if_pos (by rw [it1 (n := 7) (by omega) (by omega)]; exact d1)]
        exact fin mm f0 (by rw [f0.pS, hS]) _ (by rw [show 9 * y + (x + 1) = 9 * y + x + 1 by omega, hcr, z4 (by omega)]; rfl)
      · rw [if_neg (by rw [it1 (n := 7) (by omega) (by omega)]; exact d1)]
        by_cases d2 : y ≤ 7
        · rw [if_pos (by rw [il2 (n := 7) (by omega) (by omega)]; exact d2)]
          obtain ⟨m4, b1, b2, b3⟩ := four_loop (n := n) (ml := ml) (x2 := b2i inw) (x3 := nI (cr S inw (9 * y + x) + coN (rd S (x : Int) (y : Int)) 8 inw)) (k9 := f_Mo_cornersOf_228 n (f_Mo_cornersOf_15 n k9 m)) hp (show x < 9 by omega) hy n 0 mm (by omega) (by omega) (fun k hk => by omega)
          rw [show (0 : Int32) = nI 0 from rfl, b1]
          unfold f_Mo_cornersOf_228 f_Mo_cornersOf_237
          rw [show (4 : Int32) = nI 4 from rfl, cornersHere_S (Or.inr rfl) hn, bnd_s, nm_t, ia3, coN_ext (r := rnd m4) (ar := 4) (t := inS S (x : Int) (y : Int)) (by omega) (fun k hk => by rw [b2 k hk, f0.pS, hS])]
          exact fin m4 (f0.tr b3) (by rw [b3.pS, f0.pS, hS]) _ (by rw [show 9 * y + (x + 1) = 9 * y + x + 1 by omega, hcr])
        · rw [if_neg (by rw [il2 (n := 7) (by omega) (by omega)]; exact d2)]
          exact fin mm f0 (by rw [f0.pS, hS]) _ (by rw [show 9 * y + (x + 1) = 9 * y + x + 1 by omega, hcr, z4 (by omega)]; rfl)
theorem cornersOf_S (hp : p < 56) (hn : 9 < n) : ∃ mi', f_Mo_cornersOf n 559 (nI p) (b2i inw) (K mi ml) = some (nI (cr (pS mi p) inw 81), K mi' ml) ∧ F587 mi mi' := by
  unfold f_Mo_cornersOf
  have L : ∀ m y m1, y ≤ 9 → 9 - y < m → pS m1 p = pS mi p → ∃ mi', f_Mo_cornersOf_5 n m 559 (nI p) (b2i inw) (nI (cr (pS mi p) inw (9 * y))) (nI y) (K m1 ml) = some (nI (cr (pS mi p) inw 81), K mi' ml) ∧ F587 m1 mi' := by
    intro m
    induction m with
    | zero => intro y m1 h1 h2; omega
    | succ m ih =>
      intro y m1 h1 h2 hS
      rw [f_Mo_cornersOf_5]
      by_cases c : y = 9
      · subst c
        rw [if_pos (by decide)]
        exact ⟨m1, rfl, F587.rf⟩
      · obtain ⟨m2, a1, a2⟩ := cof_in (n := n) (inw := inw) (ml := ml) (k9 := f_Mo_cornersOf_243 n (f_Mo_cornersOf_5 n m)) hp (show y < 9 by omega) (by omega) n 0 m1 (by omega) (by omega) hS
        rw [if_neg (by rw [il1 (n := 9) (by omega) (by omega)]; omega), show (0 : Int32) = nI 0 from rfl, show 9 * y = 9 * y + 0 from rfl, a1]
        unfold f_Mo_cornersOf_243
        rw [nI_1]
        obtain ⟨m3, b1, b2⟩ := ih (y + 1) m2 (by omega) (by omega) (by rw [a2.pS, hS])
        exact ⟨m3, b1, a2.tr b2⟩
  rw [o_559]
  exact L n 0 mi (by omega) (by omega) rfl
end RND
