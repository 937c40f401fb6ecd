/-! ===== the TEXT: bytes, rows of letters and digits ===== -/
def tb (mi : IM) (c j : Nat) : Nat := uN (mi c j &&& 255)
theorem uN_255 : uN 255 = 255 := by decide
theorem tb_lt (mi : IM) (c j : Nat) : tb mi c j < 256 := by
  unfold tb
  rw [uN_and, uN_255]
  have := Nat.and_le_right (n := uN (mi c j)) (m := 255)
  omega
theorem tb_e (mi : IM) (c j : Nat) : mi c j &&& 255 = nI (tb mi c j) := by
  apply uN_inj
  have := tb_lt mi c j
  rw [uN_nI (by omega)]; rfl
def isL (b : Nat) : Bool := decide (97 ≤ b ∧ b ≤ 122)
def isD (b : Nat) : Bool := decide (48 ≤ b ∧ b ≤ 57)
def isB (b : Nat) : Bool := decide (b = 9 ∨ b = 10 ∨ b = 13 ∨ b = 32)
/-- where a row of P-bytes that begins at p ends -/
def rE (T : Nat → Nat) (P : Nat → Bool) (z p : Nat) : Nat := (fnd (fun i => !P (T i)) (z - p) p).getD z
theorem rE_s {T : Nat → Nat} {P : Nat → Bool} {z p : Nat} (h : p ≤ z) : p ≤ rE T P z p ∧ rE T P z p ≤ z ∧ (∀ i, p ≤ i → i < rE T P z p → P (T i) = true) ∧ (rE T P z p < z → P (T (rE T P z p)) = false) := by
  unfold rE
  cases e : fnd (fun i => !P (T i)) (z - p) p with
  | none =>
    have := fnd_none.mp e
    exact ⟨h, Nat.le_refl _, fun i h1 h2 => by simpa using this i h1 (by have h2 : i < z := h2; omega), fun q => absurd q (Nat.lt_irrefl _)⟩
  | some k =>
    have q := fnd_some e
    exact ⟨q.1, by show k ≤ z; omega, fun i h1 h2 => by simpa using q.2.2.2 i h1 h2, fun _ => by simpa using q.2.2.1⟩
theorem rE_n {T : Nat → Nat} {P : Nat → Bool} {z p : Nat} (h : p < z) (hP : P (T p) = true) : rE T P z p = rE T P z (p + 1) ∧ p + 1 ≤ rE T P z (p + 1) := by
  refine ⟨?_, (rE_s (by omega)).1⟩
  unfold rE
  rw [show z - p = (z - (p + 1)) + 1 by omega, fnd_s, if_neg (by rw [hP]; decide)]
theorem rE_0 {T : Nat → Nat} {P : Nat → Bool} {z p : Nat} (h : p < z) (hP : P (T p) = false) : rE T P z p = p := by
  unfold rE
  rw [show z - p = (z - (p + 1)) + 1 by omega, fnd_s, if_pos (by rw [hP]; rfl)]; rfl
theorem rE_z {T : Nat → Nat} {P : Nat → Bool} {z : Nat} : rE T P z z = z := by
  unfold rE
  rw [Nat.sub_self]; rfl
/-- letters as one number -/
def cB (B : Nat) (T : Nat → Nat) (p : Nat) : Nat → Nat
  | 0 => 0
  | i + 1 => B * cB B T p i + (T (p + i) - 96)
theorem cB_lt {B : Nat} {T : Nat → Nat} {p : Nat} (hB : 27 ≤ B) : ∀ r, (∀ i, i < r → isL (T (p + i)) = true) → cB B T p r < B ^ r
  | 0, _ => by show 0 < 1; omega
  | r + 1, h => by
    have ih := cB_lt hB r fun i hi => h i (by omega)
    have hl := h r (by omega)
    unfold isL at hl
    rw [decide_eq_true_iff] at hl
    show B * cB B T p r + (T (p + r) - 96) < B ^ (r + 1)
    have h1 : B * (cB B T p r + 1) ≤ B * B ^ r := Nat.mul_le_mul_left B ih
    rw [Nat.mul_add, Nat.mul_one] at h1
    rw [Nat.pow_succ, Nat.mul_comm (B ^ r) B]
    omega
theorem dv_eq {B a b x y : Nat} (hx : x < B) (hy : y < B) (h : B * a + x = B * b + y) : a = b ∧ x = y := by
  have hB : 0 < B := by omega
  have h1 : (B * a + x) / B = a := by rw [Nat.mul_add_div hB, Nat.div_eq_of_lt hx, Nat.add_zero]
  have h2 : (B * b + y) / B = b := by rw [Nat.mul_add_div hB, Nat.div_eq_of_lt hy, Nat.add_zero]
  have h3 : a = b := by rw [← h1, ← h2, h]
  subst h3
  exact ⟨rfl, by omega⟩
theorem cB_inj {B : Nat} (hB : 27 ≤ B) : ∀ (r r' : Nat) {T T' : Nat → Nat} {p p' : Nat}, (∀ i, i < r → isL (T (p + i)) = true) → (∀ i, i < r' → isL (T' (p' + i)) = true) → (cB B T p r = cB B T' p' r' ↔ (r = r' ∧ ∀ i, i < r → T (p + i) = T' (p' + i)))
  | 0, 0, _, _, _, _, _, _ => ⟨fun _ => ⟨rfl, fun i hi => by omega⟩, fun _ => rfl⟩
  | 0, r' + 1, T, T', p, p', _, h' => by
    have hl := h' r' (by omega)
    unfold isL at hl
    rw [decide_eq_true_iff] at hl
    constructor
    · intro q
      have q : 0 = B * cB B T' p' r' + (T' (p' + r') - 96) := q
      omega
    · rintro ⟨q, _⟩; omega
  | r + 1, 0, T, T', p, p', h, _ => by
    have hl := h r (by omega)
    unfold isL at hl
    rw [decide_eq_true_iff] at hl
    constructor
    · intro q
      have q : B * cB B T p r + (T (p + r) - 96) = 0 := q
      omega
    · rintro ⟨q, _⟩; omega
  | r + 1, r' + 1, T, T', p, p', h, h' => by
    have hl := h r (by omega)
    have hl' := h' r' (by omega)
    unfold isL at hl hl'
    rw [decide_eq_true_iff] at hl hl'
    have ih := cB_inj hB r r' (T := T) (T' := T') (p := p) (p' := p') (fun i hi => h i (by omega)) (fun i hi => h' i (by omega))
    constructor
    · intro q
      have q : B * cB B T p r + (T (p + r) - 96) = B * cB B T' p' r' + (T' (p' + r') - 96) := q
      obtain ⟨q1, q2⟩ := dv_eq (by omega) (by omega) q
      obtain ⟨e1, e2⟩ := ih.mp q1
      subst e1
      exact ⟨rfl, fun i hi => by
        by_cases c : i = r
        · subst c; omega
        · exact e2 i (by omega)⟩
    · rintro ⟨q1, q2⟩
      have e1 : r = r' := by omega
      subst e1
      have := ih.mpr ⟨rfl, fun i hi => q2 i (by omega)⟩
      show B * cB B T p r + (T (p + r) - 96) = B * cB B T' p' r + (T' (p' + r) - 96)
      rw [this, q2 r (by omega)]
/-- two rows of letters have the same number to the one base just if they have to the other -/
theorem cB_two {r r' p p' : Nat} {T T' : Nat → Nat} (h : ∀ i, i < r → isL (T (p + i)) = true) (h' : ∀ i, i < r' → isL (T' (p' + i)) = true) : (cB 32 T p r = cB 32 T' p' r' ↔ cB 27 T p r = cB 27 T' p' r') := by
  rw [cB_inj (by omega) r r' h h', cB_inj (by omega) r r' h h']
/-! longs -/
def l64 (k : Nat) : Int64 := Int64.ofNat k
theorem l64_eq {a b : Nat} (ha : a < 2 ^ 63) (hb : b < 2 ^ 63) : l64 a = l64 b ↔ a = b := by
  constructor
  · intro h
    have h2 := congrArg Int64.toInt h
    unfold l64 at h2
    rw [Int64.toInt_ofNat_of_lt ha, Int64.toInt_ofNat_of_lt hb] at h2
    omega
  · intro h; rw [h]
theorem l64_add (a b : Nat) : l64 a + l64 b = l64 (a + b) := by unfold l64; rw [Int64.ofNat_add]
theorem l64_mul (a b : Nat) : l64 a * l64 b = l64 (a * b) := by unfold l64; rw [Int64.ofNat_mul]
/-- the ten words -/
def WS : List (List Nat) := [[98, 111, 97, 114, 100], [111, 117, 116, 108, 105, 110, 101], [116, 117, 114, 110], [102, 108, 105, 112], [98, 97, 115, 101], [115, 104, 105, 102, 116], [99, 101, 108, 108], [98, 111, 120], [104, 97, 108, 102], [113, 117, 97, 114, 116, 101, 114]]
def Wd (w i : Nat) : Nat := (WS.getD w []).getD i 0
def wn (w : Nat) : Nat := (WS.getD w []).length
theorem W_l : ∀ w, w < 10 → wn w ≤ 7 ∧ 0 < wn w ∧ ∀ i, i < wn w → isL (Wd w (0 + i)) = true := by decide +kernel
theorem W_32 : ∀ w, w < 10 → M2i.2.2 8 w = l64 (cB 32 (Wd w) 0 (wn w)) ∧ M2i.2.2 566 w = l64 (cB 27 (Wd w) 0 (wn w)) := by decide +kernel
