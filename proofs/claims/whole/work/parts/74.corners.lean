/-! ===== CORNERS ===== -/
/-- the row of QUARTERS that begins at k, as it goes on -/
def rwL (r : Nat → Bool) (many k : Nat) : Nat → Nat → Nat
  | 0, row => row
  | m + 1, row => if r ((k + row) % many) = true then rwL r many k m (row + 1) else row
theorem rwL_le (r : Nat → Bool) (many k : Nat) : ∀ m row, rwL r many k m row ≤ row + m
  | 0, row => by unfold rwL; omega
  | m + 1, row => by
    unfold rwL
    by_cases c : r ((k + row) % many) = true
    · rw [if_pos c]; have := rwL_le r many k m (row + 1); omega
    · rw [if_neg c]; omega
def cnK (r : Nat → Bool) (many : Nat) (inw : Bool) (k : Nat) : Bool := r k && !r ((k + many - 1) % many) && (if inw then decide (many < 2 * rwL r many k many 0) else decide (2 * rwL r many k many 0 < many))
def coN (r : Nat → Bool) (many : Nat) (inw : Bool) : Nat := ct (cnK r many inw) many
theorem bit0 {v : Int32} {k : Nat} (hk : k < 32) : ((ushr v (nI k)) &&& 1 = 0) ↔ bt v k = false := by
  constructor
  · intro h
    have : bt ((ushr v (nI k)) &&& 1) 0 = bt v k := by
      rw [b_and, b_iushr hk, b_1 0 (by omega), show k + 0 = k from rfl]; simp
    rw [← this, h, b_0]
  · intro h
    refine b_z fun i hi => ?_
    rw [b_and, b_iushr hk, b_1 i hi]
    by_cases c : i = 0
    · subst c; rw [show k + 0 = k from rfl, h]; rfl
    · simp [c]
theorem tw_b {R ar j : Nat} (hR : R < 2 ^ ar) (ha : ar ≤ 8) (hj : j < 2 * ar) : bt (nI R ||| ishl (nI R) (nI ar)) j = R.testBit (j % ar) := by
  rw [b_or, b_ishl (by omega) _ (by omega), b_nI (by omega)]
  by_cases c : j < ar
  · rw [decide_eq_false (by omega), Nat.mod_eq_of_lt c]; simp
  · rw [decide_eq_true (by omega), b_nI (by omega), Nat.testBit_lt_two_pow (Nat.lt_of_lt_of_le hR (Nat.pow_le_pow_right (by omega) (by omega))), show j % ar = j - ar by rw [Nat.mod_eq_sub_mod (by omega), Nat.mod_eq_of_lt (by omega)]]
    simp
section CRN
variable {n : Nat} {mi : IM} {ml : JM}
theorem rowLength_s {R ar st : Nat} {M : MM} (hR : R < 2 ^ ar) (ha : ar ≤ 8) (hs : st < ar) (hn : 8 < n) : f_Measure_rowLength n (nI R) (nI st) (nI ar) M = some (nI (rwL R.testBit ar st ar 0), M) := by
  unfold f_Measure_rowLength
  rw [nm_t]
  have L : ∀ m i, i ≤ ar → ar - i < m → f_Measure_rowLength_9 n m (nI st) (nI ar) (nI R ||| ishl (nI R) (nI ar)) (nI i) M = some (nI (rwL R.testBit ar st (ar - i) i), M) := by
    intro m
    induction m with
    | zero => intro i h1 h2; omega
    | succ m ih =>
      intro i h1 h2
      rw [f_Measure_rowLength_9]
      by_cases c : i = ar
      · subst c
        rw [if_pos (nI_le (Nat.le_refl _) (by omega)), Nat.sub_self]; rfl
      · rw [if_neg (by rw [nI_leI (by omega) (by omega)]; omega), ia3, show ar - i = (ar - (i + 1)) + 1 by omega]
        unfold rwL
        cases d : R.testBit ((st + i) % ar) with
        | false => rw [if_pos ((bit0 (by omega)).mpr (by rw [tw_b hR ha (by omega), d])), if_neg (by decide)]
        | true =>
          rw [if_neg (by rw [bit0 (by omega), tw_b hR ha (by omega), d]; decide), if_pos rfl, nI_1]
          exact ih (i + 1) (by omega) (by omega)
  rw [show (0 : Int32) = nI 0 from rfl, L n 0 (by omega) (by omega), Nat.sub_zero]
theorem bef {ar i : Nat} (h : i < ar) : (if i = 0 then ar - 1 else i - 1) = (i + ar - 1) % ar := by
  by_cases c : i = 0
  · subst c; rw [if_pos rfl, Nat.zero_add, Nat.mod_eq_of_lt (by omega)]
  · rw [if_neg c, show i + ar - 1 = (i - 1) + ar by omega, Nat.add_mod_right, Nat.mod_eq_of_lt (by omega)]
theorem angles_loop {R ar : Nat} {inw : Bool} {M : MM} (hR : R < 2 ^ ar) (ha : ar ≤ 8) (hn : 8 < n) : ∀ m i, i ≤ ar → ar - i < m → f_Measure_countAngles_20 n m (nI R) (nI ar) (b2i inw) (nI (ct (cnK R.testBit ar inw) i)) (nI i) M = some (nI (coN R.testBit ar inw), M) := by
  intro m
  induction m with
  | zero => intro i h1 h2; omega
  | succ m ih =>
    intro i h1 h2
    rw [f_Measure_countAngles_20]
    by_cases c : i = ar
    · subst c
      rw [if_pos (nI_le (Nat.le_refl _) (by omega))]; rfl
    · have hb := bef (show i < ar by omega)
      have hlt : (i + ar - 1) % ar < ar := Nat.mod_lt _ (by omega)
      rw [if_neg (by rw [nI_leI (by omega) (by omega)]; omega)]
      have e : (if nI i = 0 then f_Measure_countAngles_41 n (f_Measure_countAngles_20 n m) (nI R) (nI ar) (b2i inw) (nI (ct (cnK R.testBit ar inw) i)) (nI i) (nI ar - 1) M else f_Measure_countAngles_41 n (f_Measure_countAngles_20 n m) (nI R) (nI ar) (b2i inw) (nI (ct (cnK R.testBit ar inw) i)) (nI i) (nI i - 1) M) = f_Measure_countAngles_41 n (f_Measure_countAngles_20 n m) (nI R) (nI ar) (b2i inw) (nI (ct (cnK R.testBit ar inw) i)) (nI i) (nI ((i + ar - 1) % ar)) M := by
        rw [← hb]
        by_cases d : i = 0
        · rw [if_pos (by rw [d]; rfl), if_pos d, is1 (n := 1) (by omega)]
        · rw [if_neg (by rw [ie1 (n := 0) (by omega) (by omega)]; exact d), if_neg d, is1 (n := 1) (by omega)]
      rw [e]
      unfold f_Measure_countAngles_41 f_Measure_countAngles_99 f_Measure_countAngles_96 f_Measure_countAngles_92 f_Measure_countAngles_97 f_Measure_countAngles_99
      have no : cnK R.testBit ar inw i = false → f_Measure_countAngles_20 n m (nI R) (nI ar) (b2i inw) (nI (ct (cnK R.testBit ar inw) i)) (nI i + 1) M = some (nI (coN R.testBit ar inw), M) := by
        intro q
        rw [nI_1, ← ih (i + 1) (by omega) (by omega)]
        simp only [ct, q, Bool.false_eq_true, if_false, Nat.add_zero]
      have ye : cnK R.testBit ar inw i = true → f_Measure_countAngles_20 n m (nI R) (nI ar) (b2i inw) (nI (ct (cnK R.testBit ar inw) i) + 1) (nI i + 1) M = some (nI (coN R.testBit ar inw), M) := by
        intro q
        rw [nI_1, nI_1, ← ih (i + 1) (by omega) (by omega)]
        simp only [ct, q, if_true]
      cases d : R.testBit i with
      | false =>
        rw [if_pos ((bit0 (by omega)).mpr (by rw [b_nI (by omega), d]))]
        exact no (by unfold cnK; rw [d]; rfl)
      | true =>
        rw [if_neg (by rw [bit0 (by omega), b_nI (by omega), d]; decide)]
        cases f : R.testBit ((i + ar - 1) % ar) with
        | true =>
          rw [if_neg (by rw [bit0 (by omega), b_nI (by omega), f]; decide)]
          exact no (by unfold cnK; rw [f]; simp)
        | false =>
          have hw := rwL_le R.testBit ar i ar 0
          rw [if_pos ((bit0 (by omega)).mpr (by rw [b_nI (by omega), f])), rowLength_s hR ha (by omega) hn, bnd_s, nm_t, im2 (n := 2)]
          have hk : cnK R.testBit ar inw i = (if inw then decide (ar < 2 * rwL R.testBit ar i ar 0) else decide (2 * rwL R.testBit ar i ar 0 < ar)) := by unfold cnK; rw [d, f]; simp
          cases inw with
          | false =>
            rw [if_pos (show b2i false = 0 by decide)]
            by_cases g : 2 * rwL R.testBit ar i ar 0 < ar
            · rw [if_neg (by rw [nI_leI (by omega) (by omega)]; omega), nm_t]
              exact ye (by rw [hk]; simpa using g)
            · rw [if_pos (by rw [nI_leI (by omega) (by omega)]; omega), nm_t, Int32.add_zero]
              exact no (by rw [hk]; simpa using g)
          | true =>
            rw [if_neg (show ¬ b2i true = 0 by decide)]
            by_cases g : ar < 2 * rwL R.testBit ar i ar 0
            · rw [if_neg (by rw [nI_leI (by omega) (by omega)]; omega), nm_t]
              exact ye (by rw [hk]; simpa using g)
            · rw [if_pos (by rw [nI_leI (by omega) (by omega)]; omega), nm_t, Int32.add_zero]
              exact no (by rw [hk]; simpa using g)
theorem coN_all {r : Nat → Bool} {ar : Nat} {inw : Bool} (v : Bool) (h0 : 0 < ar) (h : ∀ k, k < ar → r k = v) : coN r ar inw = 0 := by
  have L : ∀ i, i ≤ ar → ct (cnK r ar inw) i = 0 := by
    intro i
    induction i with
    | zero => intro _; rfl
    | succ i ih =>
      intro hi
      have : cnK r ar inw i = false := by
        unfold cnK
        rw [h i (by omega), h _ (Nat.mod_lt _ h0)]
        cases v <;> rfl
      simp only [ct, ih (by omega), this, Bool.false_eq_true, if_false]
  exact L ar (Nat.le_refl _)
theorem f_8 : ishl 1 (nI 8) - 1 = nI 255 ∧ ishl 1 (nI 4) - 1 = nI 15 := by decide
theorem full_b : (∀ k, k < 8 → (255 : Nat).testBit k = true) ∧ (∀ k, k < 4 → (15 : Nat).testBit k = true) := by decide
theorem countAngles_s {R ar : Nat} {inw : Bool} {M : MM} (hR : R < 2 ^ ar) (ha : ar = 8 ∨ ar = 4) (hn : 8 < n) : f_Measure_countAngles n (nI R) (nI ar) (b2i inw) M = some (nI (coN R.testBit ar inw), M) := by
  have hR2 : R < 256 := by rcases ha with q | q <;> subst q <;> omega
  unfold f_Measure_countAngles
  by_cases c : R = 0
  · subst c
    rw [if_pos (show nI 0 = 0 by decide), coN_all false (by omega) (fun k _ => Nat.zero_testBit k)]; rfl
  · rw [if_neg (by rw [ie1 (n := 0) (by omega) (by omega)]; exact c)]
    have L := angles_loop (n := n) (inw := inw) (M := M) hR (by omega) hn n 0 (by omega) (by omega)
    rcases ha with q | q
    · subst q
      rw [f_8.1]
      by_cases d : R = 255
      · rw [if_pos (by rw [d]), d, coN_all true (by omega) full_b.1]; rfl
      · rw [if_neg (by rw [nI_eq (by omega) (by omega)]; exact d)]; exact L
    · subst q
      rw [f_8.2]
      by_cases d : R = 15
      · rw [if_pos (by rw [d]), d, coN_all true (by omega) full_b.2]; rfl
      · rw [if_neg (by rw [nI_eq (by omega) (by omega)]; exact d)]; exact L
end CRN
theorem coN_ext {r t : Nat → Bool} {ar : Nat} {inw : Bool} (h0 : 0 < ar) (h : ∀ k, k < ar → r k = t k) : coN r ar inw = coN t ar inw := by
  have hr : ∀ k m row, rwL r ar k m row = rwL t ar k m row := by
    intro k m
    induction m with
    | zero => intro row; rfl
    | succ m ih => intro row; unfold rwL; rw [h _ (Nat.mod_lt _ h0), ih]
  refine ct_ext fun k hk => ?_
  unfold cnK
  rw [h k hk, h _ (Nat.mod_lt _ h0), hr]
