/-! ===== bits counted ===== -/
def uN (x : Int32) : Nat := x.toBitVec.toNat
theorem uN_lt (x : Int32) : uN x < 4294967296 := x.toBitVec.isLt
theorem uN_inj {x y : Int32} (h : uN x = uN y) : x = y := Int32.toBitVec_inj.mp (BitVec.eq_of_toNat_eq h)
theorem uN_bt (x : Int32) (i : Nat) : bt x i = (uN x).testBit i := rfl
theorem uN_and (x y : Int32) : uN (x &&& y) = uN x &&& uN y := by unfold uN; rw [Int32.toBitVec_and, BitVec.toNat_and]
theorem uN_add (x y : Int32) : uN (x + y) = (uN x + uN y) % 4294967296 := by unfold uN; rw [Int32.toBitVec_add, BitVec.toNat_add]
theorem uN_sub (x y : Int32) : uN (x - y) = (4294967296 - uN y + uN x) % 4294967296 := by unfold uN; rw [Int32.toBitVec_sub, BitVec.toNat_sub]
theorem uN_shr {n : Nat} (hn : n < 32) (x : Int32) : uN (ushr x (nI n)) = uN x / 2 ^ n := by
  apply Nat.eq_of_testBit_eq
  intro i
  rw [← uN_bt, b_iushr hn, Nat.testBit_div_two_pow, uN_bt, Nat.add_comm]
theorem uN_nI {k : Nat} (h : k < 2147483648) : uN (nI k) = k := by
  apply Nat.eq_of_testBit_eq
  intro i
  rw [← uN_bt]
  by_cases hi : i < 32
  · exact b_nI hi
  · rw [b_big (by omega), Nat.testBit_lt_two_pow (Nat.lt_of_lt_of_le (show k < 2 ^ 32 by omega) (Nat.pow_le_pow_right (by omega) (by omega)))]
theorem and_split {p q d e : Nat} (hd : d < 256) (he : e < 256) : (d + 256 * p) &&& (e + 256 * q) = (d &&& e) + 256 * (p &&& q) := by
  apply Nat.eq_of_testBit_eq
  intro i
  have h3 : d &&& e < 2 ^ 8 := Nat.and_lt_two_pow d he
  rw [Nat.testBit_and, Nat.add_comm d, Nat.add_comm e, Nat.add_comm (d &&& e), Nat.testBit_two_pow_mul_add p (i := 8) hd, Nat.testBit_two_pow_mul_add q (i := 8) he, Nat.testBit_two_pow_mul_add (p &&& q) (i := 8) h3]
  split
  · rw [Nat.testBit_and]
  · rw [Nat.testBit_and]
def S1 (m x : Nat) : Nat := x - ((x / 2) &&& m)
def S2 (m x : Nat) : Nat := (x &&& m) + ((x / 4) &&& m)
def S3 (m x : Nat) : Nat := (x + x / 16) &&& m
theorem S1_b : ∀ b, b < 256 → ∀ t, t < 2 → ((b / 2 + 128 * t) &&& 85) = ((b / 2) &&& 85) := by decide +kernel
theorem S2_b : ∀ b, b < 256 → ∀ t, t < 4 → ((b / 4 + 64 * t) &&& 51) = ((b / 4) &&& 51) := by decide +kernel
theorem S3_b : ∀ b, b < 73 → ∀ t, t < 5 → ((b + b / 16 + 16 * t) &&& 15) = ((b + b / 16) &&& 15) := by decide +kernel
theorem S1_s {m b x : Nat} (hb : b < 256) : S1 (85 + 256 * m) (b + 256 * x) = S1 85 b + 256 * S1 m x := by
  unfold S1
  rw [show (b + 256 * x) / 2 = (b / 2 + 128 * (x % 2)) + 256 * (x / 2) by omega, and_split (by omega) (by omega), S1_b b hb _ (by omega)]
  have h1 : (b / 2) &&& 85 ≤ b / 2 := Nat.and_le_left
  have h2 : (x / 2) &&& m ≤ x / 2 := Nat.and_le_left
  omega
theorem S2_s {m b x : Nat} (hb : b < 256) : S2 (51 + 256 * m) (b + 256 * x) = S2 51 b + 256 * S2 m x := by
  unfold S2
  rw [show (b + 256 * x) / 4 = (b / 4 + 64 * (x % 4)) + 256 * (x / 4) by omega, and_split (by omega) (by omega), and_split (by omega) (by omega), S2_b b hb _ (by omega)]
  omega
theorem S3_s {m b x : Nat} (hb : b < 73) (hx : x % 16 < 5) : S3 (15 + 256 * m) (b + 256 * x) = S3 15 b + 256 * S3 m x := by
  unfold S3
  rw [show (b + 256 * x) + (b + 256 * x) / 16 = (b + b / 16 + 16 * (x % 16)) + 256 * (x + x / 16) by omega, and_split (by omega) (by omega), S3_b b hb _ (by omega)]
theorem S_8 : ∀ b, b < 256 → S1 85 b < 256 ∧ S2 51 (S1 85 b) < 73 ∧ S2 51 (S1 85 b) % 16 < 5 ∧ S3 15 (S2 51 (S1 85 b)) = ct (fun i => b.testBit i) 8 := by decide +kernel
theorem ct_add (S : Nat → Bool) (m : Nat) : ∀ k, ct S (m + k) = ct S m + ct (fun i => S (m + i)) k
  | 0 => rfl
  | k + 1 => by
    show ct S (m + k) + (if S (m + k) then 1 else 0) = ct S m + (ct (fun i => S (m + i)) k + (if S (m + k) then 1 else 0))
    rw [ct_add S m k]; omega
theorem S_all {b0 b1 b2 b3 : Nat} (h0 : b0 < 256) (h1 : b1 < 256) (h2 : b2 < 256) (h3 : b3 < 256) :
    S3 252645135 (S2 858993459 (S1 1431655765 (b0 + 256 * (b1 + 256 * (b2 + 256 * b3))))) = ct (fun i => b0.testBit i) 8 + 256 * (ct (fun i => b1.testBit i) 8 + 256 * (ct (fun i => b2.testBit i) 8 + 256 * ct (fun i => b3.testBit i) 8)) := by
  obtain ⟨p0, q0, r0, e0⟩ := S_8 b0 h0
  obtain ⟨p1, q1, r1, e1⟩ := S_8 b1 h1
  obtain ⟨p2, q2, r2, e2⟩ := S_8 b2 h2
  obtain ⟨p3, q3, r3, e3⟩ := S_8 b3 h3
  rw [show 1431655765 = 85 + 256 * (85 + 256 * (85 + 256 * 85)) from rfl, S1_s h0, S1_s h1, S1_s h2]
  rw [show 858993459 = 51 + 256 * (51 + 256 * (51 + 256 * 51)) from rfl, S2_s p0, S2_s p1, S2_s p2]
  rw [show 252645135 = 15 + 256 * (15 + 256 * (15 + 256 * 15)) from rfl, S3_s q0 (by omega), S3_s q1 (by omega), S3_s q2 (by omega), e0, e1, e2, e3]
theorem S1_le (m x : Nat) : (x / 2) &&& m ≤ x := Nat.le_trans Nat.and_le_left (by omega)
theorem bitCount_s {n : Nat} {x : Int32} {M : MM} : f_Integer_bitCount n x M = some (nI (ct (bt x) 32), M) := by
  unfold f_Integer_bitCount
  rw [nm_t, nm_t, nm_t, nm_t, nm_t]
  congr 2
  generalize hb0 : uN x % 256 = b0
  generalize hb1 : uN x / 256 % 256 = b1
  generalize hb2 : uN x / 65536 % 256 = b2
  generalize hb3 : uN x / 16777216 % 256 = b3
  have hx := uN_lt x
  have e : uN x = b0 + 256 * (b1 + 256 * (b2 + 256 * b3)) := by omega
  have hct : ct (bt x) 32 = ct (fun i => b0.testBit i) 8 + ct (fun i => b1.testBit i) 8 + ct (fun i => b2.testBit i) 8 + ct (fun i => b3.testBit i) 8 := by
    rw [show (32 : Nat) = 8 + 8 + 8 + 8 from rfl, ct_add _ (8 + 8 + 8) 8, ct_add _ (8 + 8) 8, ct_add _ 8 8]
    congr 1
    · congr 1
      · congr 1
        · refine ct_ext fun k hk => ?_
          rw [uN_bt, ← hb0, show (256 : Nat) = 2 ^ 8 from rfl, Nat.testBit_mod_two_pow, decide_eq_true hk, Bool.true_and]
        · refine ct_ext fun k hk => ?_
          rw [uN_bt, ← hb1, show (256 : Nat) = 2 ^ 8 from rfl, Nat.testBit_mod_two_pow, decide_eq_true hk, Bool.true_and, Nat.testBit_div_two_pow, Nat.add_comm]
      · refine ct_ext fun k hk => ?_
        rw [uN_bt, ← hb2, show (256 : Nat) = 2 ^ 8 from rfl, show (65536 : Nat) = 2 ^ 16 from rfl, Nat.testBit_mod_two_pow, decide_eq_true hk, Bool.true_and, Nat.testBit_div_two_pow, Nat.add_comm]
    · refine ct_ext fun k hk => ?_
      rw [uN_bt, ← hb3, show (256 : Nat) = 2 ^ 8 from rfl, show (16777216 : Nat) = 2 ^ 24 from rfl, Nat.testBit_mod_two_pow, decide_eq_true hk, Bool.true_and, Nat.testBit_div_two_pow, Nat.add_comm]
  have c0 := ct_le (fun i => b0.testBit i) 8
  have c1 := ct_le (fun i => b1.testBit i) 8
  have c2 := ct_le (fun i => b2.testBit i) 8
  have c3 := ct_le (fun i => b3.testBit i) 8
  have hS := S_all (b0 := b0) (b1 := b1) (b2 := b2) (b3 := b3) (by omega) (by omega) (by omega) (by omega)
  rw [← e] at hS
  have u1 : uN (x - (ushr x 1 &&& 1431655765)) = S1 1431655765 (uN x) := by
    rw [uN_sub, uN_and, show (1 : Int32) = nI 1 from rfl, uN_shr (by omega), show uN 1431655765 = 1431655765 from rfl]
    unfold S1
    have := S1_le 1431655765 (uN x)
    rw [show 2 ^ 1 = 2 from rfl]
    omega
  generalize x - (ushr x 1 &&& 1431655765) = y1 at u1 ⊢
  have hy1 := uN_lt y1
  have u2' : uN ((y1 &&& 858993459) + (ushr y1 2 &&& 858993459)) = S2 858993459 (uN y1) := by
    rw [uN_add, uN_and, uN_and, show (2 : Int32) = nI 2 from rfl, uN_shr (by omega), show uN 858993459 = 858993459 from rfl]
    unfold S2
    have q1 : uN y1 &&& 858993459 ≤ 858993459 := Nat.and_le_right
    have q2 : uN y1 / 4 &&& 858993459 ≤ 858993459 := Nat.and_le_right
    rw [show 2 ^ 2 = 4 from rfl]
    omega
  generalize (y1 &&& 858993459) + (ushr y1 2 &&& 858993459) = y2 at u2' ⊢
  have hle2 : uN y2 ≤ 1717986918 := by
    rw [u2']
    unfold S2
    have q1 : uN y1 &&& 858993459 ≤ 858993459 := Nat.and_le_right
    have q2 : uN y1 / 4 &&& 858993459 ≤ 858993459 := Nat.and_le_right
    omega
  have u3 : uN ((y2 + ushr y2 4) &&& 252645135) = S3 252645135 (uN y2) := by
    rw [uN_and, uN_add, show (4 : Int32) = nI 4 from rfl, uN_shr (by omega), show uN 252645135 = 252645135 from rfl]
    unfold S3
    congr 1
    rw [show 2 ^ 4 = 16 from rfl]
    omega
  generalize (y2 + ushr y2 4) &&& 252645135 = y3 at u3 ⊢
  rw [u2', u1, hS] at u3
  apply uN_inj
  rw [uN_nI (by omega), hct, uN_and, show uN 63 = 2 ^ 6 - 1 from rfl, Nat.and_two_pow_sub_one_eq_mod, uN_add, show (16 : Int32) = nI 16 from rfl, uN_shr (by omega), uN_add, show (8 : Int32) = nI 8 from rfl, uN_shr (by omega), u3]
  revert c0 c1 c2 c3
  generalize ct (fun i => b0.testBit i) 8 = g0
  generalize ct (fun i => b1.testBit i) 8 = g1
  generalize ct (fun i => b2.testBit i) 8 = g2
  generalize ct (fun i => b3.testBit i) 8 = g3
  intro c0 c1 c2 c3
  clear hS u3 u1 u2' hb0 hb1 hb2 hb3 hx e hct hle2
  rw [show 2 ^ 8 = 256 from rfl, show 2 ^ 16 = 65536 from rfl, show 2 ^ 6 = 64 from rfl]
  rw [show (g0 + 256 * (g1 + 256 * (g2 + 256 * g3))) / 256 = g1 + 256 * (g2 + 256 * g3) by omega]
  rw [Nat.mod_eq_of_lt (show g0 + 256 * (g1 + 256 * (g2 + 256 * g3)) + (g1 + 256 * (g2 + 256 * g3)) < 4294967296 by omega)]
  rw [show (g0 + 256 * (g1 + 256 * (g2 + 256 * g3)) + (g1 + 256 * (g2 + 256 * g3))) / 65536 = g2 + g3 + 256 * g3 by omega]
  rw [Nat.mod_eq_of_lt (show g0 + 256 * (g1 + 256 * (g2 + 256 * g3)) + (g1 + 256 * (g2 + 256 * g3)) + (g2 + g3 + 256 * g3) < 4294967296 by omega)]
  omega
