/-! ===== TOKENS: single bytes, one row of letters or digits (the class) ===== -/
theorem lcp_0 {x y : Int64} : lcp x y = 0 ↔ x = y := by
  show lg_cmp x y = 0 ↔ x = y
  unfold lg_cmp
  constructor
  · intro h
    split at h
    · next c => exact absurd h (by decide)
    · split at h
      · next c => exact c
      · exact absurd h (by decide)
  · intro h
    subst h
    simp [Int64.lt_irrefl]
def isG (b : Nat) : Bool := decide (b = 59 ∨ b = 61 ∨ b = 43 ∨ b = 45 ∨ b = 38 ∨ b = 40 ∨ b = 41)
section BYT
variable {n z p b : Nat} {mi : IM} {ml : JM} {M : MM}
theorem byteC (hz : z ≤ 2000) (hp : p < 2 ^ 31) : f_Tokens_byteAt n 1 (nI z) (nI p) (K mi ml) = some (nI (if p < z then tb mi 1 p else 0), K mi ml) := by
  unfold f_Tokens_byteAt
  rw [if_neg (inN hp)]
  by_cases c : p < z
  · rw [if_neg (by rw [nI_leI (by omega) hp]; omega), aN_K ds_1 (by decide), bnd_s, if_neg (by rw [nI_leI (by omega) hp]; omega), a_1 (by omega), bnd_s, tb_e, if_pos c]
  · rw [if_pos (by rw [nI_leI (by omega) hp]; omega), if_neg c]; rfl
theorem letC (hb : b < 2 ^ 31) : f_Tokens_isLetter n (nI b) M = some (b2i (isL b), M) ∧ f_Mo_isLetter n (nI b) M = some (b2i (isL b), M) := by
  unfold f_Tokens_isLetter f_Mo_isLetter isL
  by_cases c : b < 97
  · rw [if_pos (by rw [it2 (n := 97) (by omega) hb]; exact c), decide_eq_false (by omega)]; exact ⟨rfl, rfl⟩
  · rw [if_neg (by rw [it2 (n := 97) (by omega) hb]; exact c)]
    by_cases d : 122 < b
    · rw [if_pos (by rw [it1 (n := 122) (by omega) hb]; exact d), decide_eq_false (by omega)]; exact ⟨rfl, rfl⟩
    · rw [if_neg (by rw [it1 (n := 122) (by omega) hb]; exact d), decide_eq_true (by omega)]; exact ⟨rfl, rfl⟩
theorem digC (hb : b < 2 ^ 31) : f_Tokens_isDigit n (nI b) M = some (b2i (isD b), M) ∧ f_Mo_isDigit n (nI b) M = some (b2i (isD b), M) := by
  unfold f_Tokens_isDigit f_Mo_isDigit isD
  by_cases c : b < 48
  · rw [if_pos (by rw [it2 (n := 48) (by omega) hb]; exact c), decide_eq_false (by omega)]; exact ⟨rfl, rfl⟩
  · rw [if_neg (by rw [it2 (n := 48) (by omega) hb]; exact c)]
    by_cases d : 57 < b
    · rw [if_pos (by rw [it1 (n := 57) (by omega) hb]; exact d), decide_eq_false (by omega)]; exact ⟨rfl, rfl⟩
    · rw [if_neg (by rw [it1 (n := 57) (by omega) hb]; exact d), decide_eq_true (by omega)]; exact ⟨rfl, rfl⟩
theorem blkC (hb : b < 2 ^ 31) : f_Tokens_isBlank n (nI b) M = some (b2i (isB b), M) := by
  unfold f_Tokens_isBlank f_Tokens_isBlank_24 isB
  by_cases c1 : b = 9
  · rw [if_pos (by rw [c1]; rfl), decide_eq_true (by omega)]; rfl
  · rw [if_neg (by rw [ie1 (n := 9) (by omega) hb]; exact c1)]
    by_cases c2 : b = 10
    · rw [if_pos (by rw [c2]; rfl), decide_eq_true (by omega)]; rfl
    · rw [if_neg (by rw [ie1 (n := 10) (by omega) hb]; exact c2)]
      by_cases c3 : b = 13
      · rw [if_pos (by rw [c3]; rfl), decide_eq_true (by omega)]; rfl
      · rw [if_neg (by rw [ie1 (n := 13) (by omega) hb]; exact c3)]
        by_cases c4 : b = 32
        · rw [if_pos (by rw [c4]; rfl), decide_eq_true (by omega)]; rfl
        · rw [if_neg (by rw [ie1 (n := 32) (by omega) hb]; exact c4), decide_eq_false (by omega)]; rfl
theorem let_v : ∀ b, b < 256 → isL b = true → ((nI b - 97) + 1).toInt64 = l64 (b - 96) := by decide +kernel
theorem lsh_5 {a : Nat} (ha : a < 2 ^ 57) : lsh (l64 a) 5 = l64 (32 * a) := by
  unfold lsh l64
  rw [show ((5 : Int32).toInt64 &&& 63) = 5 by decide]
  apply Int64.toBitVec_inj.mp
  rw [Int64.toBitVec_shiftLeft]
  apply BitVec.eq_of_toNat_eq
  simp [BitVec.toNat_shiftLeft, Nat.shiftLeft_eq]
  omega
theorem or_5 {a b : Nat} (hb : b < 32) : l64 (32 * a) ||| l64 b = l64 (32 * a + b) := by
  have h : 32 * a + b = 32 * a ||| b := by
    have := Nat.two_pow_add_eq_or_of_lt (i := 5) (b := b) hb a
    exact this
  rw [h]
  unfold l64
  apply Int64.toBitVec_inj.mp
  rw [Int64.toBitVec_or]
  apply BitVec.eq_of_toNat_eq
  simp [Nat.or_mod_two_pow]
theorem wlC {a : Nat} (ha : a < 2 ^ 57) (hb : b < 256) (hl : isL b = true) : f_Tokens_withLetter n (l64 a) (nI b) M = some (l64 (32 * a + (b - 96)), M) := by
  unfold f_Tokens_withLetter
  unfold isL at hl
  have hl2 := hl
  rw [decide_eq_true_iff] at hl2
  rw [let_v b hb hl, lsh_5 ha, or_5 (by omega)]
/-! signs -/
def sgB (i : Nat) : Int32 := (byts2.getD 1 []).getD i 0
theorem sg_b : ∀ b, b < 256 → (fnd (fun i => decide (sgB i = (nI b).toInt8.toInt32)) 7 0).isSome = isG b ∧ ((nI b).toUInt32 % 65536).toInt32 = nI b := by decide +kernel
theorem xB_s {i : Nat} (hi : i < 7) : xB 3 (nI i) = some (sgB i) := by
  unfold xB
  rw [if_pos ⟨by omega, by
    rw [nI_clamp (by omega)]
    rintro (h | h)
    · exact absurd h (inN (by omega))
    · have : lens2.getD (3 - 2) 0 = 7 := by decide
      omega⟩, nI_clamp (by omega)]; rfl
theorem signC (hb : b < 256) (hn : 8 < n) : ∃ v, f_Str_indexOf_1 n 1 (((nI b).toUInt32 % 65536).toInt32) M = some (v, M) ∧ (v < 0 ↔ isG b = false) := by
  have L : ∀ m i, i ≤ 7 → 7 - i < m → f_Lat_indexOfChar_7 n m 3 (nI 7) ((nI b).toInt8.toInt32) (nI i) M = some (oI (fnd (fun i => decide (sgB i = (nI b).toInt8.toInt32)) (7 - i) i) (-1), M) := by
    intro m
    induction m with
    | zero => intro i h1 h2; omega
    | succ m ih =>
      intro i h1 h2
      rw [f_Lat_indexOfChar_7]
      by_cases c : i = 7
      · subst c; rw [if_pos (show nI 7 ≤ nI 7 by decide)]; rfl
      · rw [if_neg (show ¬ nI 7 ≤ nI i by rw [nI_leI (by omega) (by omega)]; omega), xB_s (by omega), bnd_s, show 7 - i = (7 - (i + 1)) + 1 by omega, fnd_s]
        by_cases d : sgB i = (nI b).toInt8.toInt32
        · rw [if_pos d, if_pos (by simpa using d)]; rfl
        · rw [if_neg d, if_neg (by simpa using d), nI_1]; exact ih (i + 1) (by omega) (by omega)
  refine ⟨oI (fnd (fun i => decide (sgB i = (nI b).toInt8.toInt32)) 7 0) (-1), ?_, ?_⟩
  · unfold f_Str_indexOf_1 f_Str_indexOf_2 f_Str_isLatin1 f_Str_length f_Str_coder f_Lat_indexOf f_Lat_canEncode f_Lat_indexOfChar
    have hx : ∀ {β : Type} (o : Option β), xg 1 o = o := fun o => if_pos (by omega)
    have hr : ∀ {β : Type} (o : Option β), rg .byte 0 o = o := fun o => if_pos (by decide)
    have hN : xN (1 + 2) = some (nI 7) := by decide
    have hs : ishr (nI 7) 0 = nI 7 := by decide
    rw [(sg_b b hb).2]
    simp only [hx, hr, hN, bnd_s, hs, nm_t, if_neg n10, if_neg (inN (show b < 2 ^ 31 by omega)), if_neg (show ¬ (255 : Int32) < nI b by rw [it1 (n := 255) (by omega) (by omega)]; omega), show imin (nI 7) (nI 7) = nI 7 by decide, show imax 0 0 = 0 by decide, if_pos (show (0 : Int32) < nI 7 by decide)]
    rw [show f_Lat_indexOfChar_7 n n (1 + 2) (nI 7) ((nI b).toInt8.toInt32) 0 M = _ from L n 0 (by omega) (by omega)]
    rfl
  · rw [← (sg_b b hb).1]
    cases e : fnd (fun i => decide (sgB i = (nI b).toInt8.toInt32)) 7 0 with
    | none => exact ⟨fun _ => rfl, fun _ => by decide⟩
    | some k =>
      have := (fnd_some e).2.1
      exact ⟨fun h => absurd h (inN (by omega)), fun h => by cases h⟩
end BYT
