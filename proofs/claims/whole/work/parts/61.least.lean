/-! ===== the class: QUARTERS counted, the lowest one, one held, one dropped ===== -/
section LST
variable {n a : Nat} {mi : IM} {ml : JM}
theorem countQuarters_s (h : isSh a) (hn : 8 < n) : f_Shape_countQuarters n a (K mi ml) = some (nI (ct (svS mi a) 256), K mi ml) := by
  unfold f_Shape_countQuarters
  rw [og_sh h]
  have L : ∀ m i, i ≤ 8 → 8 - i < m → f_Shape_countQuarters_4 n m a (nI (ct (svS mi a) (32 * i))) (nI i) (K mi ml) = some (nI (ct (svS mi a) 256), K mi ml) := by
    intro m
    induction m with
    | zero => intro i h1 h2; omega
    | succ m ih =>
      intro i h1 h2
      rw [f_Shape_countQuarters_4]
      by_cases q : i = 8
      · subst q; rw [if_pos (by decide)]
      · rw [if_neg (by rw [il1 (n := 8) (by omega) (by omega)]; omega), gr_sh h, bnd_s, ld_sh h (by omega), bnd_s, bitCount_s, bnd_s, nm_t, nI_1]
        have e : ct (bt (mi (a + 1) i)) 32 = ct (fun k => svS mi a (32 * i + k)) 32 := ct_ext fun k hk => by
          unfold svS
          rw [rS_in (by omega), show (32 * i + k) / 32 = i by omega, show (32 * i + k) % 32 = k by omega]
        rw [e, ia3, ← ct_add]
        exact ih (i + 1) (by omega) (by omega)
  exact L n 0 (by omega) (by omega)
theorem ct_lt (t : Nat) : ∀ k, ct (fun i => decide (i < t)) k = min k t
  | 0 => by simp [ct]
  | k + 1 => by
    show ct (fun i => decide (i < t)) k + (if decide (k < t) = true then 1 else 0) = _
    rw [ct_lt t k]
    by_cases q : k < t
    · simp only [q, decide_true, if_true]; omega
    · simp only [q, decide_false, if_false, Bool.false_eq_true]; omega
theorem low_u {r : Int32} {t : Nat} (h1 : bt r t = true) (h2 : ∀ k, k < t → bt r k = false) : uN r = 2 ^ (t + 1) * (uN r / 2 ^ (t + 1)) + 2 ^ t := by
  have e : uN r % 2 ^ (t + 1) = 2 ^ t := by
    apply Nat.eq_of_testBit_eq
    intro i
    rw [Nat.testBit_mod_two_pow, Nat.testBit_two_pow, ← uN_bt]
    by_cases q : i < t
    · rw [h2 i q, decide_eq_false (show ¬ t = i by omega), Bool.and_false]
    · by_cases q2 : i = t
      · subst q2; rw [h1]; simp
      · rw [decide_eq_false (show ¬ i < t + 1 by omega), decide_eq_false (show ¬ t = i by omega)]; rfl
  have := Nat.div_add_mod (uN r) (2 ^ (t + 1))
  rw [e] at this
  exact this.symm
theorem low_b {r : Int32} {t : Nat} (ht : t < 32) (h1 : bt r t = true) (h2 : ∀ k, k < t → bt r k = false) : ct (bt ((r ^^^ (-1)) &&& (r - 1))) 32 = t := by
  have e : ct (bt ((r ^^^ (-1)) &&& (r - 1))) 32 = ct (fun i => decide (i < t)) 32 := by
    refine ct_ext fun i hi => ?_
    rw [b_and, b_xor, b_m1 i hi]
    have hu := low_u h1 h2
    have hp : 0 < 2 ^ t := Nat.two_pow_pos t
    have hp2 : 2 ^ (t + 1) = 2 * 2 ^ t := by rw [Nat.pow_succ]; omega
    have hl := uN_lt r
    have e1 : uN (r - 1) = 2 ^ (t + 1) * (uN r / 2 ^ (t + 1)) + (2 ^ t - 1) := by
      rw [uN_sub, show uN 1 = 1 from rfl]
      generalize 2 ^ (t + 1) * (uN r / 2 ^ (t + 1)) = v at hu ⊢
      omega
    rw [uN_bt (r - 1), e1, Nat.testBit_two_pow_mul_add _ (show 2 ^ t - 1 < 2 ^ (t + 1) by omega)]
    by_cases q : i < t
    · rw [h2 i q, if_pos (by omega), Nat.testBit_two_pow_sub_one]; simp [q]
    · rw [decide_eq_false q]
      by_cases q2 : i = t
      · subst q2; rw [h1]; rfl
      · rw [if_neg (by omega), Nat.testBit_div_two_pow, show i - (t + 1) + (t + 1) = i by omega, ← uN_bt]
        cases bt r i <;> rfl
  rw [e, ct_lt]; omega
/-- the lowest QUARTER of a SHAPE, -1 if it has none -/
def loS (S : Nat → Bool) (v : Int32) : Prop := (noS S = true ∧ v = -1) ∨ ∃ t, t < 256 ∧ S t = true ∧ (∀ k, k < t → S k = false) ∧ v = nI t
theorem least_bit {r : Int32} (h : ¬ r = 0) : ∃ t, t < 32 ∧ bt r t = true ∧ ∀ k, k < t → bt r k = false := by
  obtain ⟨i, h1, h2⟩ := b_nz.mp h
  have L : ∀ j, ∀ i, i ≤ j → bt r i = true → ∃ t, t ≤ i ∧ bt r t = true ∧ ∀ k, k < t → bt r k = false := by
    intro j
    induction j with
    | zero => intro i hi hb; exact ⟨i, Nat.le_refl _, hb, fun k hk => by omega⟩
    | succ j ih =>
      intro i hi hb
      by_cases q : ∃ k, k < i ∧ bt r k = true
      · obtain ⟨k, k1, k2⟩ := q
        obtain ⟨t, t1, t2⟩ := ih k (by omega) k2
        exact ⟨t, by omega, t2⟩
      · exact ⟨i, Nat.le_refl _, hb, fun k hk => by cases e : bt r k with | false => rfl | true => exact absurd ⟨k, hk, e⟩ q⟩
  obtain ⟨t, t1, t2, t3⟩ := L i i (Nat.le_refl _) h2
  exact ⟨t, by omega, t2, t3⟩
theorem lowestQuarter_s (h : isSh a) (hn : 8 < n) : ∃ v, f_Shape_lowestQuarter n a (K mi ml) = some (v, K mi ml) ∧ loS (svS mi a) v := by
  unfold f_Shape_lowestQuarter
  rw [og_sh h]
  obtain ⟨r, e1, e2, e3, e4, e5⟩ := find_up (fun m i => f_Shape_lowestQuarter_2 n (f_Shape_lowestQuarter_17 n) m a (nI i) (K mi ml)) (fun i => if i = 8 then some ((-1 : Int32), K mi ml) else f_Shape_lowestQuarter_17 n a (nI i) (K mi ml)) (fun i => !decide (mi (a + 1) i = 0)) 8
    (fun m => by
      show f_Shape_lowestQuarter_2 n _ (m + 1) a (nI 8) (K mi ml) = _
      rw [f_Shape_lowestQuarter_2, if_pos (by decide)]; rfl)
    (fun m i hi => by
      show f_Shape_lowestQuarter_2 n _ (m + 1) a (nI i) (K mi ml) = _
      rw [f_Shape_lowestQuarter_2, if_neg (by rw [il1 (n := 8) (by omega) (by omega)]; omega), gr_sh h, bnd_s, ld_sh h hi, bnd_s, nI_1]
      by_cases c : mi (a + 1) i = 0
      · simp [c]
      · simp [c, show ¬ i = 8 by omega]) n 0 (by omega) (by omega)
  rw [show f_Shape_lowestQuarter_2 n (f_Shape_lowestQuarter_17 n) n a 0 (K mi ml) = _ from e1]
  have hz : ∀ i, i < 256 → i / 32 < r → svS mi a i = false := fun i hi hr => by
    unfold svS
    rw [rS_in hi, show mi (a + 1) (i / 32) = 0 by have := e4 (i / 32) (by omega) hr; simpa using this, b_0]
  by_cases q : r = 8
  · rw [if_pos q]
    exact ⟨-1, rfl, Or.inl ⟨noS_t.mpr fun i hi => hz i hi (by omega), rfl⟩⟩
  · rw [if_neg q]
    have h5 := e5 (by omega)
    simp at h5
    obtain ⟨t, t1, t2, t3⟩ := least_bit h5
    unfold f_Shape_lowestQuarter_17
    rw [gr_sh h, bnd_s, ld_sh h (by omega), bnd_s, bnd_s, ld_sh h (by omega), bnd_s, bitCount_s, bnd_s, low_b t1 t2 t3, im2 (n := 32), ia3]
    refine ⟨_, rfl, Or.inr ⟨32 * r + t, by omega, ?_, fun k hk => ?_, rfl⟩⟩
    · unfold svS
      rw [rS_in (by omega), show (32 * r + t) / 32 = r by omega, show (32 * r + t) % 32 = t by omega]; exact t2
    · by_cases c : k / 32 < r
      · exact hz k (by omega) c
      · unfold svS
        rw [rS_in (by omega), show k / 32 = r by omega]
        exact t3 _ (by omega)
theorem q_5 : ∀ q, q < 256 → ishr (nI q) 5 = nI (q / 32) := by decide +kernel
theorem q_31 : ∀ q, q < 256 → nI q &&& 31 = nI (q % 32) := by decide +kernel
theorem b_1 : ∀ i, i < 32 → bt 1 i = decide (i = 0) := by decide +kernel
theorem holds_s {q : Nat} (h : isSh a) (hq : q < 256) : f_Shape_holds n a (nI q) (K mi ml) = some (b2i (svS mi a q), K mi ml) := by
  unfold f_Shape_holds
  rw [og_sh h, if_neg (nI_pos (by omega)), if_neg (by rw [il1 (n := 256) (by omega) (by omega)]; omega), gr_sh h, bnd_s, q_5 q hq, ld_sh h (by omega), bnd_s, q_31 q hq]
  unfold svS
  rw [rS_in hq]
  cases e : bt (mi (a + 1) (q / 32)) (q % 32) with
  | false =>
    rw [if_pos]
    · rfl
    · refine b_z fun i hi => ?_
      rw [b_and, b_iushr (by omega), b_1 i hi]
      by_cases c : i = 0
      · subst c; rw [show q % 32 + 0 = q % 32 from rfl, e]; rfl
      · simp [c]
  | true =>
    rw [if_neg]
    · rfl
    · refine b_nz.mpr ⟨0, by omega, ?_⟩
      rw [b_and, b_iushr (by omega), b_1 0 (by omega), show q % 32 + 0 = q % 32 from rfl, e]; rfl
theorem drop_s {q : Nat} (h : isSh a) (hq : q < 256) : ∃ mi', f_Shape_drop n a (nI q) (K mi ml) = some (K mi' ml) ∧ svS mi' a = cu (fun i => svS mi a i && !decide (i = q)) ∧ ∀ c, c ≠ a + 1 → mi' c = mi c := by
  unfold f_Shape_drop
  rw [og_sh h, if_neg (nI_pos (by omega)), if_neg (by rw [il1 (n := 256) (by omega) (by omega)]; omega), gr_sh h, bnd_s, q_5 q hq, ld_sh h (by omega), bnd_s, q_31 q hq, st_sh h (by omega), bnd_s]
  refine ⟨_, rfl, ?_, fun c hc => upd2_ne hc⟩
  unfold svS
  refine cu_ext (S := fun i => bt _ (i % 32)) fun i hi => ?_
  show bt (upd2 mi (a + 1) (q / 32) _ (a + 1) (i / 32)) (i % 32) = _
  rw [u2, rS_in hi]
  by_cases c : i / 32 = q / 32
  · rw [if_pos ⟨rfl, c⟩, b_and, b_xor, b_m1 _ (by omega), b_ishl (by omega) _ (by omega), c]
    by_cases c2 : i = q
    · subst c2
      rw [b_1 _ (by omega)]; simp
    · by_cases c3 : q % 32 ≤ i % 32
      · rw [b_1 _ (by omega)]
        simp [c2, show ¬ i % 32 - q % 32 = 0 by omega]
      · simp [c2, c3]
  · rw [if_neg (fun e => c e.2), decide_eq_false (fun e => c (by rw [e]))]
    simp
end LST
