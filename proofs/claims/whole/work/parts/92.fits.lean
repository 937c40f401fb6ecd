/-! ===== FILLINGS in the class: one LAY ===== -/
theorem sh82 : isSh 82 := sh_ok (by decide +kernel)
theorem slR_0 (z : Int) : slR 0 z = 0 := b_z fun i hi => by rw [b_slR hi, b_0, Bool.and_false]
theorem row_0 {R : Nat → Int32} {h y : Nat} (hm : mxY (rS R) h) (hy : y < 8) (hh : h ≤ y) : R y = 0 := by
  by_cases c : R y = 0
  · exact c
  · obtain ⟨i, i1, i2, i3⟩ := (row_nz hy).mp c
    have := hm.2.1 i i1 i2
    omega
/-- the rows of a LAY of height h from row y on -/
theorem shR_v {R : Nat → Int32} {h y r : Nat} {z : Int} (hm : mxY (rS R) h) (hr : r < 8) : shR R z (y : Int) r = if y ≤ r ∧ r < y + h then slR (R (r - y)) z else 0 := by
  have h8 := hm.1
  unfold shR
  by_cases c : y ≤ r ∧ r < y + h
  · rw [if_pos c, if_pos (by omega), show ((r : Int) - (y : Int)).toNat = r - y by omega]
  · rw [if_neg c]
    by_cases d : 0 ≤ (r : Int) - (y : Int) ∧ (r : Int) - (y : Int) < 8
    · rw [if_pos d, row_0 hm (by omega) (by omega), slR_0]
    · rw [if_neg d]
section FIT
variable {n a h y : Nat} {mi : IM} {ml : JM} {z : Int} {L : Nat → Bool}
theorem rS_at {R : Nat → Int32} {r j : Nat} (hr : r < 8) (hj : j < 32) : rS R (32 * r + j) = bt (R r) j := by
  rw [rS_in (by omega), show (32 * r + j) / 32 = r by omega, show (32 * r + j) % 32 = j by omega]
theorem fitsC (ha : isSh a) (hm : mxY (svS mi a) h) (hy : y + h ≤ 8) (hz : -1000 ≤ z ∧ z ≤ 1000) (hn : 8 < n) : f_Filler_fits n 81 a (nI h) (iZ z) (nI y) (K mi ml) = some (b2i (fitS (shC z (y : Int) (svS mi a)) (svS mi 82)), K mi ml) := by
  unfold f_Filler_fits
  have hA : shC z (y : Int) (svS mi a) = rS (shR (mi (a + 1)) z (y : Int)) := (shR_S _ _ _).symm
  have L : ∀ m r, r ≤ h → h - r < m → f_Filler_fits_3 n m 81 a (nI h) (iZ z) (nI y) (nI r) (K mi ml) = some (b2i (fnd (fun r => decide (¬ slR (mi (a + 1) r) z &&& (mi 83 (r + y) ^^^ (-1)) = 0)) (h - r) r).isNone, K mi ml) := by
    intro m
    induction m with
    | zero => intro r h1 h2; omega
    | succ m ih =>
      intro r h1 h2
      rw [f_Filler_fits_3]
      by_cases c : r = h
      · subst c; rw [if_pos (nI_le (Nat.le_refl _) (by omega)), Nat.sub_self]; rfl
      · rw [if_neg (by rw [nI_leI (by omega) (by omega)]; omega), ia3, if_neg (by rw [il1 (n := 8) (by omega) (by omega)]; omega), gr_sh ha, bnd_s, ld_sh ha (by omega), bnd_s, slide_s hz, bnd_s, rf_81_2, bnd_s, gr_sh sh82, bnd_s, ld_sh sh82 (by omega), bnd_s, show h - r = (h - (r + 1)) + 1 by omega, fnd_s]
        by_cases d : slR (mi (a + 1) r) z &&& (mi 83 (r + y) ^^^ (-1)) = 0
        · rw [if_pos d, if_neg (by simpa using d), nI_1]; exact ih (r + 1) (by omega) (by omega)
        · rw [if_neg d, if_pos (by simpa using d)]; rfl
  rw [o_81]
  refine (L n 0 (by omega) (by omega)).trans ?_
  have key : (fnd (fun r => decide (¬ slR (mi (a + 1) r) z &&& (mi 83 (r + y) ^^^ (-1)) = 0)) (h - 0) 0).isNone = fitS (shC z (y : Int) (svS mi a)) (svS mi 82) := by
    rw [Bool.eq_iff_iff, Option.isNone_iff_eq_none, fnd_none, fitS_t, hA]
    constructor
    · intro q i hi hs
      rw [rS_in hi] at hs
      have hr : i / 32 < 8 := by omega
      rw [shR_v (h := h) hm hr] at hs
      by_cases c : y ≤ i / 32 ∧ i / 32 < y + h
      · rw [if_pos c] at hs
        have := q (i / 32 - y) (by omega) (by omega)
        have this : slR (mi (a + 1) (i / 32 - y)) z &&& (mi 83 (i / 32 - y + y) ^^^ (-1)) = 0 := by simpa using this
        rw [show i / 32 - y + y = i / 32 by omega] at this
        have b := congrArg (fun v => bt v (i % 32)) this
        simp only [b_0] at b
        rw [b_and, b_xor, b_m1 _ (by omega), hs] at b
        show rS (mi 83) i = true
        rw [rS_in hi]
        simpa using b
      · rw [if_neg c, b_0] at hs; cases hs
    · intro q r _ hr
      have : slR (mi (a + 1) r) z &&& (mi 83 (r + y) ^^^ (-1)) = 0 := by
        refine b_z fun j hj => ?_
        rw [b_and, b_xor, b_m1 j hj]
        cases s : bt (slR (mi (a + 1) r) z) j with
        | false => rfl
        | true =>
          have := q (32 * (r + y) + j) (by omega) (by
            rw [rS_at (by omega) hj, shR_v (h := h) hm (by omega), if_pos (by omega), show r + y - y = r by omega]; exact s)
          have this : rS (mi 83) (32 * (r + y) + j) = true := this
          rw [rS_at (by omega) hj] at this
          rw [this]; rfl
      simpa using this
  rw [key]
theorem changeC (ha : isSh a) (ha2 : a ≠ 82) (hm : mxY (svS mi a) h) (hy : y + h ≤ 8) (hz : -1000 ≤ z ∧ z ≤ 1000) (hn : 8 < n) : ∃ mi', f_Filler_change n 81 a (nI h) (iZ z) (nI y) (K mi ml) = some (K mi' ml) ∧ svS mi' 82 = cu (fun i => svS mi 82 i ^^ shC z (y : Int) (svS mi a) i) ∧ ∀ c, c ≠ 83 → mi' c = mi c := by
  unfold f_Filler_change
  have hA : shC z (y : Int) (svS mi a) = rS (shR (mi (a + 1)) z (y : Int)) := (shR_S _ _ _).symm
  have L : ∀ m r s, r ≤ h → h - r < m → (∀ c, c ≠ 83 → s c = mi c) → (∀ k, s 83 k = mi 83 k ^^^ (if y ≤ k ∧ k < y + r then slR (mi (a + 1) (k - y)) z else 0)) → ∃ mi', f_Filler_change_3 n m 81 a (nI h) (iZ z) (nI y) (nI r) (K s ml) = some (K mi' ml) ∧ (∀ c, c ≠ 83 → mi' c = mi c) ∧ ∀ k, mi' 83 k = mi 83 k ^^^ (if y ≤ k ∧ k < y + h then slR (mi (a + 1) (k - y)) z else 0) := by
    intro m
    induction m with
    | zero => intro r s h1 h2; omega
    | succ m ih =>
      intro r s h1 h2 h3 h4
      rw [f_Filler_change_3]
      by_cases c : r = h
      · subst c; rw [if_pos (nI_le (Nat.le_refl _) (by omega))]; exact ⟨s, rfl, h3, h4⟩
      · rw [if_neg (by rw [nI_leI (by omega) (by omega)]; omega), ia3, if_neg (by rw [il1 (n := 8) (by omega) (by omega)]; omega), rf_81_2, bnd_s, gr_sh sh82, bnd_s, ld_sh sh82 (by omega), bnd_s, gr_sh ha, bnd_s, ld_sh ha (by omega), bnd_s, slide_s hz, bnd_s, st_sh sh82 (by omega), bnd_s, nI_1, h3 (a + 1) (by omega)]
        refine ih (r + 1) _ (by omega) (by omega) (fun c hc => by rw [upd2_ne hc]; exact h3 c hc) (fun k => ?_)
        rw [u2]
        by_cases d : k = r + y
        · subst d
          rw [if_pos ⟨rfl, rfl⟩, if_pos (by omega), h4, if_neg (by omega), Int32.xor_zero, show r + y - y = r by omega]
        · rw [if_neg (by omega), h4 k]
          by_cases e : y ≤ k ∧ k < y + r
          · rw [if_pos e, if_pos (by omega)]
          · rw [if_neg e, if_neg (by omega)]
  rw [o_81]
  obtain ⟨m1, a1, a2, a3⟩ := L n 0 mi (by omega) (by omega) (fun _ _ => rfl) (fun k => by rw [if_neg (by omega), Int32.xor_zero])
  refine ⟨m1, a1, ?_, a2⟩
  rw [hA]
  show rS (m1 83) = _
  refine cu_ext (S := fun i => bt (m1 83 (i / 32)) (i % 32)) fun i hi => ?_
  rw [a3, b_xor, show svS mi 82 i = bt (mi 83 (i / 32)) (i % 32) from rS_in hi, rS_in hi, shR_v (h := h) hm (by omega)]
theorem xor_sub {A : Nat → Bool} (h : fitS A L = true) : cu (fun i => L i ^^ A i) = lvB L A := cu_ext fun i hi => by
  have := fitS_t.mp h i hi
  cases a : A i <;> cases l : L i <;> simp_all
theorem xor_back {A : Nat → Bool} (hL : cu L = L) (h : fitS A L = true) : cu (fun i => lvB L A i ^^ A i) = L := by
  conv => rhs; rw [← hL]
  refine cu_ext fun i hi => ?_
  unfold lvB
  rw [cu_in hi]
  have := fitS_t.mp h i hi
  cases a : A i <;> cases l : L i <;> simp_all
end FIT
/-! numbers of what is unused -/
theorem U_t : ∀ U, U < 256 → ∀ b, b < 8 → U.testBit b = true → 2 ^ b ≤ U ∧ ∀ k, k < 8 → (U - 2 ^ b).testBit k = (U.testBit k && !decide (k = b)) := by decide +kernel
theorem U_a : ∀ U, U < 256 → ∀ b, b < 8 → U.testBit b = true → nI U &&& (ishl 1 (nI b) ^^^ (-1)) = nI (U - 2 ^ b) := by decide +kernel
theorem U_0 : ∀ U, U < 256 → (U = 0 ↔ ∀ k, k < 8 → U.testBit k = false) := by decide +kernel
theorem ar_sub {Bd : Nat → Nat → Bool} {U b : Nat} (hU : U < 256) (hb : b < 8) (ht : U.testBit b = true) : arB Bd (U - 2 ^ b) 8 + ct (Bd b) 256 = arB Bd U 8 := by
  have h := (U_t U hU b hb ht).2
  have L : ∀ k, k ≤ 8 → arB Bd (U - 2 ^ b) k + (if b < k then ct (Bd b) 256 else 0) = arB Bd U k := by
    intro k
    induction k with
    | zero => intro _; rfl
    | succ k ih =>
      intro hk
      have h1 := ih (by omega)
      have h2 := h k (by omega)
      show arB Bd (U - 2 ^ b) k + (if (U - 2 ^ b).testBit k = true then ct (Bd k) 256 else 0) + (if b < k + 1 then ct (Bd b) 256 else 0) = arB Bd U k + (if U.testBit k = true then ct (Bd k) 256 else 0)
      rw [h2]
      by_cases c : k = b
      · subst c
        rw [ht, decide_eq_true rfl, if_neg (by decide), if_pos (by omega), if_pos rfl]
        rw [if_neg (by omega)] at h1
        omega
      · rw [decide_eq_false c, Bool.not_false, Bool.and_true]
        by_cases d : b < k
        · rw [if_pos (show b < k + 1 by omega)]; rw [if_pos d] at h1; omega
        · rw [if_neg (show ¬ b < k + 1 by omega)]; rw [if_neg d] at h1; omega
  have := L 8 (by omega)
  rw [if_pos (by omega)] at this
  exact this
theorem ar_pos {Bd : Nat → Nat → Bool} {U b : Nat} (hU : U < 256) (hb : b < 8) (ht : U.testBit b = true) (hn : noS (Bd b) = false) : 0 < arB Bd U 8 := by
  have := ar_sub (Bd := Bd) hU hb ht
  have := ct_pos hn
  omega
theorem pop_sub {U b : Nat} (hU : U < 256) (hb : b < 8) (ht : U.testBit b = true) : ct (U - 2 ^ b).testBit 8 + 1 = ct U.testBit 8 := by
  rw [← (ct_drop (S := U.testBit) ht 8).2 hb, ct_ext fun k hk => (U_t U hU b hb ht).2 k hk]
theorem ct_lv {L A : Nat → Bool} (h : fitS A L = true) : ct (lvB L A) 256 + ct A 256 = ct L 256 := by
  have hs := fitS_t.mp h
  have e : ct (lvB L A) 256 = ct (fun i => L i && !A i) 256 := ct_ext fun k hk => cu_in hk
  rw [e]
  have L : ∀ n, n ≤ 256 → ct (fun i => L i && !A i) n + ct A n = ct L n := by
    intro n
    induction n with
    | zero => intro _; rfl
    | succ n ih =>
      intro hn
      have := ih (by omega)
      have h9 := hs n (by omega)
      simp only [ct]
      by_cases b : A n = true
      · have a := h9 b
        rw [if_pos b, if_pos a, if_neg (by rw [b]; simp)]; omega
      · by_cases a : L n = true
        · rw [if_neg b, if_pos a, if_pos (by rw [a]; simpa using b)]; omega
        · rw [if_neg b, if_neg a, if_neg (by intro q; simp at q; exact a q.1)]; omega
  exact L 256 (Nat.le_refl _)
