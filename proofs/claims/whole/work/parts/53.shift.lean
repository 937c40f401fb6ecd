/-! ===== numbers below 0 ===== -/
def iZ (z : Int) : Int32 := Int32.ofInt z
theorem iZ_nat (n : Nat) : nI n = iZ (n : Int) := by
  unfold nI iZ
  rw [Int32.ofInt_eq_ofNat]
theorem iZ_add (a b : Int) : iZ a + iZ b = iZ (a + b) := by unfold iZ; rw [Int32.ofInt_add]
theorem iZ_na (n : Nat) (b : Int) : nI n + iZ b = iZ ((n : Int) + b) := by rw [iZ_nat, iZ_add]
theorem fb_bm {z : Int} (h1 : -2147483648 ≤ z) (h2 : z < 2147483648) : z.bmod (2 ^ 32) = z := by
  rw [Int.bmod_def]
  omega
theorem iZ_ti {z : Int} (h1 : -2147483648 ≤ z) (h2 : z < 2147483648) : (iZ z).toInt = z := by
  unfold iZ
  rw [Int32.toInt_ofInt, fb_bm h1 h2]
theorem iZ_lt {a b : Int} (h1 : -2147483648 ≤ a) (h2 : a < 2147483648) (h3 : -2147483648 ≤ b) (h4 : b < 2147483648) : iZ a < iZ b ↔ a < b := by
  rw [Int32.lt_iff_toInt_lt, iZ_ti h1 h2, iZ_ti h3 h4]
theorem iZ_le {a b : Int} (h1 : -2147483648 ≤ a) (h2 : a < 2147483648) (h3 : -2147483648 ≤ b) (h4 : b < 2147483648) : iZ a ≤ iZ b ↔ a ≤ b := by
  rw [Int32.le_iff_toInt_le, iZ_ti h1 h2, iZ_ti h3 h4]
theorem iZ_eq {a b : Int} (h1 : -2147483648 ≤ a) (h2 : a < 2147483648) (h3 : -2147483648 ≤ b) (h4 : b < 2147483648) : iZ a = iZ b ↔ a = b := by
  constructor
  · intro h
    have := congrArg Int32.toInt h
    rwa [iZ_ti h1 h2, iZ_ti h3 h4] at this
  · intro h; rw [h]
theorem iZ_l0 {a : Int} (h1 : -2147483648 ≤ a) (h2 : a < 2147483648) : iZ a < 0 ↔ a < 0 := iZ_lt (b := 0) h1 h2 (by omega) (by omega)
theorem iZ_g7 {a : Int} (h1 : -2147483648 ≤ a) (h2 : a < 2147483648) : (7 : Int32) < iZ a ↔ 7 < a := iZ_lt (a := 7) (by omega) (by omega) h1 h2
theorem iZ_l7 {a : Int} (h1 : -2147483648 ≤ a) (h2 : a < 2147483648) : iZ a ≤ (7 : Int32) ↔ a ≤ 7 := iZ_le (b := 7) h1 h2 (by omega) (by omega)
theorem iZ_to {a : Int} (h : 0 ≤ a) : iZ a = nI a.toNat := by rw [iZ_nat]; congr 1; omega
theorem iZ_neg (a : Int) : -iZ a = iZ (-a) := by unfold iZ; rw [Int32.ofInt_neg]
theorem iZ_of (x : Int32) : ∃ z : Int, -2147483648 ≤ z ∧ z < 2147483648 ∧ x = iZ z :=
  ⟨x.toInt, Int32.minValue_le_toInt x, Int32.toInt_lt x, (Int32.ofInt_toInt x).symm⟩
/-- a counted loop upward with an invariant -/
theorem loop_inv {S R : Type} (F : Nat → Nat → S → R) (T : Nat → S → S) (E : S → R) (e : Nat) (hx : ∀ m s, F (m + 1) e s = E s) (I : Nat → S → Prop) (hs : ∀ m i s, i < e → I i s → F (m + 1) i s = F m (i + 1) (T i s)) (hI : ∀ i s, i < e → I i s → I (i + 1) (T i s)) : ∀ m i s, i ≤ e → e - i < m → I i s → ∃ s', F m i s = E s' ∧ I e s' := by
  intro m
  induction m with
  | zero => intro i s h1 h2; omega
  | succ m ih =>
    intro i s h1 h2 h3
    by_cases h : i = e
    · subst h; exact ⟨s, hx m s, h3⟩
    · obtain ⟨s', e1, e2⟩ := ih (i + 1) (T i s) (by omega) (by omega) (hI i s (by omega) h3)
      exact ⟨s', by rw [hs m i s (by omega) h3, e1], e2⟩
theorem setPg_out {mi : IM} {p : Nat} {S : Nat → Bool} {c j : Nat} (h : ¬ (c = 567 ∧ 256 * p ≤ j ∧ j < 256 * p + 256)) : setPg mi p S c j = mi c j := if_neg h
theorem setPg_in {mi : IM} {p : Nat} {S : Nat → Bool} {i : Nat} (h : i < 256) : setPg mi p S 567 (256 * p + i) = b2i (S i) := by
  unfold setPg
  rw [if_pos ⟨rfl, by omega, by omega⟩, Nat.add_sub_cancel_left]
/-! ===== SHIFT ===== -/
def sIn (z w : Int) (i : Nat) : Bool := decide (0 ≤ ((i / 4 % 8 : Nat) : Int) + z ∧ ((i / 4 % 8 : Nat) : Int) + z ≤ 7 ∧ 0 ≤ ((i / 32 : Nat) : Int) + w ∧ ((i / 32 : Nat) : Int) + w ≤ 7)
def sTo (z w : Int) (i : Nat) : Nat := 4 * (8 * (((i / 32 : Nat) : Int) + w).toNat + (((i / 4 % 8 : Nat) : Int) + z).toNat) + i % 4
theorem sTo_ok {z w : Int} {i : Nat} (hi : i < 256) (h : sIn z w i = true) : sTo z w i < 256 ∧ sIn (-z) (-w) (sTo z w i) = true ∧ sTo (-z) (-w) (sTo z w i) = i := by
  have h := of_decide_eq_true h
  obtain ⟨a, ha⟩ : ∃ a : Nat, ((i / 4 % 8 : Nat) : Int) + z = a := ⟨(((i / 4 % 8 : Nat) : Int) + z).toNat, by omega⟩
  obtain ⟨b, hb⟩ : ∃ b : Nat, ((i / 32 : Nat) : Int) + w = b := ⟨(((i / 32 : Nat) : Int) + w).toNat, by omega⟩
  have e : sTo z w i = 4 * (8 * b + a) + i % 4 := by unfold sTo; rw [ha, hb]; rfl
  have h1 : (4 * (8 * b + a) + i % 4) / 4 % 8 = a := by omega
  have h2 : (4 * (8 * b + a) + i % 4) / 32 = b := by omega
  have h3 : (4 * (8 * b + a) + i % 4) % 4 = i % 4 := by omega
  refine ⟨by omega, ?_, ?_⟩
  · rw [e]; unfold sIn; rw [h1, h2]; apply decide_eq_true; omega
  · rw [e]; unfold sTo; rw [h1, h2, h3]
    have e1 : ((a : Int) + -z).toNat = i / 4 % 8 := by omega
    have e2 : ((b : Int) + -w).toNat = i / 32 := by omega
    rw [e1, e2]
    omega
theorem shifts_step {n p q m i : Nat} {z w : Int} {on : Bool} {s : IM} {ml : JM} (hp : p < 56) (hq : q < 56) (hz : -8 ≤ z ∧ z ≤ 8) (hw : -8 ≤ w ∧ w ≤ 8) (hi : i < 256) :
    f_Mo_shifts_11 n (m + 1) 559 (nI p) (nI q) (iZ z) (iZ w) (b2i on) (nI i) (K s ml) = if s 567 (256 * p + i) = 0 then f_Mo_shifts_11 n m 559 (nI p) (nI q) (iZ z) (iZ w) (b2i on) (nI (i + 1)) (K s ml) else if sIn z w i = true then f_Mo_shifts_11 n m 559 (nI p) (nI q) (iZ z) (iZ w) (b2i on) (nI (i + 1)) (K (upd2 s 567 (256 * q + sTo z w i) 1) ml) else f_Mo_shifts_11 n m 559 (nI p) (nI q) (iZ z) (iZ w) (b2i false) (nI (i + 1)) (K s ml) := by
  rw [f_Mo_shifts_11]
  by_cases h0 : s 567 (256 * p + i) = 0
  · simp (disch := omega) only [il1 (n := 256), show ¬ 256 ≤ i by omega, if_false, rf_559_18, bnd_s, im2 (n := 256), ia3, a_567, h0, if_true, f_Mo_shifts_116, ia1 (n := 1)]
  · simp (disch := omega) only [il1 (n := 256), show ¬ 256 ≤ i by omega, if_false, rf_559_18, bnd_s, im2 (n := 256), ia3, a_567, h0, f_Mo_shifts_116, f_Mo_shifts_83, ia1 (n := 1), nm_t, ir1 (n := 4), ir1 (n := 8), id1 (n := 4), id1 (n := 32), iZ_na, iZ_l0, iZ_g7, iZ_l7]
    by_cases c1 : ((i / 4 % 8 : Nat) : Int) + z < 0
    · rw [if_pos c1, if_neg (by unfold sIn; rw [decide_eq_true_eq]; omega)]; rfl
    rw [if_neg c1]
    by_cases c2 : 7 < ((i / 4 % 8 : Nat) : Int) + z
    · rw [if_pos c2, if_neg (by unfold sIn; rw [decide_eq_true_eq]; omega)]; rfl
    rw [if_neg c2]
    by_cases c3 : ((i / 32 : Nat) : Int) + w < 0
    · rw [if_pos c3, if_neg (by unfold sIn; rw [decide_eq_true_eq]; omega)]; rfl
    rw [if_neg c3]
    by_cases c4 : ((i / 32 : Nat) : Int) + w ≤ 7
    · rw [if_pos c4, if_pos (by unfold sIn; rw [decide_eq_true_eq]; omega)]
      rw [iZ_to (by omega), iZ_to (by omega)]
      have a1 : (((i / 4 % 8 : Nat) : Int) + z).toNat < 8 := by omega
      have a2 : (((i / 32 : Nat) : Int) + w).toNat < 8 := by omega
      simp (disch := omega) only [im2 (n := 8), im2 (n := 4), ia3, s_567, bnd_s, nrw102, one1]
      congr 3
      unfold sTo
      omega
    · rw [if_neg c4, if_neg (by unfold sIn; rw [decide_eq_true_eq]; omega)]; rfl
/-- where a SHAPE goes off -/
def sOff (z w : Int) (S : Nat → Bool) : Bool := (List.range 256).any (fun k => S k && !sIn z w k)
def shS (z w : Int) (S : Nat → Bool) : Nat → Bool := fun j => sIn (-z) (-w) j && S (sTo (-z) (-w) j)
theorem sOff_f {z w : Int} {S : Nat → Bool} : sOff z w S = false ↔ ∀ k, k < 256 → S k = true → sIn z w k = true := by
  unfold sOff
  rw [List.any_eq_false]
  constructor
  · intro h k hk hs
    have := h k (List.mem_range.mpr hk)
    simp [hs] at this
    exact this
  · intro h k hk
    have hk := List.mem_range.mp hk
    cases hs : S k with
    | false => simp
    | true => simp [h k hk hs]
theorem shifts_s {n p q : Nat} {z w : Int} {mi : IM} {ml : JM} (hp : p < 56) (hq : q < 56) (hpq : p ≠ q) (hz : -8 ≤ z ∧ z ≤ 8) (hw : -8 ≤ w ∧ w ≤ 8) (hn : 256 < n) : f_Mo_shifts n 559 (nI p) (nI q) (iZ z) (iZ w) (K mi ml) = some (b2i (!sOff z w (pg mi p)), K (setPg mi q (shS z w (pg mi p))) ml) := by
  unfold f_Mo_shifts
  rw [o_559, clears_s hq hn, bnd_s, show (0 : Int32) = nI 0 from rfl, show (1 : Int32) = b2i true from rfl]
  have hpgk : ∀ k, k < 256 → setPg mi q (fun _ => false) 567 (256 * p + k) = mi 567 (256 * p + k) := fun k hk => by unfold setPg; rw [if_neg (by omega)]
  obtain ⟨s', e1, h1, h2, h3⟩ := loop_inv (fun m i (s : Bool × IM) => f_Mo_shifts_11 n m 559 (nI p) (nI q) (iZ z) (iZ w) (b2i s.1) (nI i) (K s.2 ml))
    (fun i s => if s.2 567 (256 * p + i) = 0 then s else if sIn z w i = true then (s.1, upd2 s.2 567 (256 * q + sTo z w i) 1) else (false, s.2)) (fun s => some (b2i s.1, K s.2 ml)) 256
    (fun m s => by
      show f_Mo_shifts_11 n (m + 1) 559 (nI p) (nI q) (iZ z) (iZ w) (b2i s.1) (nI 256) (K s.2 ml) = _
      rw [f_Mo_shifts_11, if_pos (by decide), zg_t (b2i_1 _)])
    (fun i s => (∀ c j, ¬ (c = 567 ∧ 256 * q ≤ j ∧ j < 256 * q + 256) → s.2 c j = mi c j) ∧ (∀ j, j < 256 → s.2 567 (256 * q + j) = b2i (sIn (-z) (-w) j && decide (sTo (-z) (-w) j < i) && pg mi p (sTo (-z) (-w) j))) ∧ (s.1 = true ↔ ∀ k, k < i → pg mi p k = true → sIn z w k = true))
    (fun m i s hi _ => by
      show f_Mo_shifts_11 n (m + 1) 559 (nI p) (nI q) (iZ z) (iZ w) (b2i s.1) (nI i) (K s.2 ml) = _
      rw [shifts_step hp hq hz hw hi]
      split
      · rfl
      · split <;> rfl)
    (fun i s hi ⟨h1, h2, h3⟩ => by
      have hp0 : s.2 567 (256 * p + i) = mi 567 (256 * p + i) := h1 _ _ (by omega)
      have hlt : ∀ j, decide (sTo (-z) (-w) j < i + 1) = (decide (sTo (-z) (-w) j < i) || decide (sTo (-z) (-w) j = i)) := fun j => by
        rw [← Bool.decide_or]; congr 1; exact propext (by omega)
      have hk : ∀ (P : Nat → Prop), (∀ k, k < i + 1 → P k) ↔ (∀ k, k < i → P k) ∧ P i := fun P => ⟨fun h => ⟨fun k hk => h k (by omega), h i (by omega)⟩, fun h k hk => by
        rcases Nat.lt_succ_iff_lt_or_eq.mp hk with q | q
        · exact h.1 k q
        · subst q; exact h.2⟩
      by_cases c0 : s.2 567 (256 * p + i) = 0
      · rw [if_pos c0]
        have hpi : pg mi p i = false := by unfold pg; rw [← hp0, c0]; rfl
        refine ⟨h1, fun j hj => ?_, ?_⟩
        · rw [h2 j hj, hlt j]
          congr 1
          by_cases e : sTo (-z) (-w) j = i
          · rw [e, hpi]; simp
          · simp [e]
        · rw [h3, hk]; simp [hpi]
      · rw [if_neg c0]
        have hpi : pg mi p i = true := by unfold pg; rw [← hp0]; simp [c0]
        by_cases c1 : sIn z w i = true
        · rw [if_pos c1]
          obtain ⟨t1, t2, t3⟩ := sTo_ok hi c1
          refine ⟨fun c j hcj => ?_, fun j hj => ?_, ?_⟩
          · show upd2 s.2 567 (256 * q + sTo z w i) 1 c j = _
            rw [u2, if_neg (by omega)]; exact h1 c j hcj
          · show upd2 s.2 567 (256 * q + sTo z w i) 1 567 (256 * q + j) = _
            rw [u2]
            by_cases e : j = sTo z w i
            · subst e
              rw [if_pos ⟨rfl, rfl⟩, t2, t3, hpi]
              simp [b2i]
            · rw [if_neg (by omega), h2 j hj, hlt j]
              congr 1
              by_cases e2 : sIn (-z) (-w) j = true
              · have e3 : sTo (-z) (-w) j ≠ i := fun h => e (by
                  have := (sTo_ok hj e2).2.2
                  rw [Int.neg_neg, Int.neg_neg, h] at this
                  exact this.symm)
                simp [e3]
              · simp [e2]
          · show s.1 = true ↔ _
            rw [h3, hk]; simp [c1]
        · rw [if_neg c1]
          refine ⟨h1, fun j hj => ?_, ?_⟩
          · rw [h2 j hj, hlt j]
            congr 1
            by_cases e2 : sIn (-z) (-w) j = true
            · have e3 : sTo (-z) (-w) j ≠ i := fun h => c1 (by
                have := (sTo_ok hj e2).2.1
                rw [Int.neg_neg, Int.neg_neg, h] at this
                exact this)
              simp [e3]
            · simp [e2]
          · show false = true ↔ _
            rw [hk]; simp [hpi, c1]) n 0 (true, setPg mi q (fun _ => false)) (by omega) (by omega)
    ⟨fun c j h => (setPg_out (mi := mi) (S := fun _ => false) h : setPg mi q (fun _ => false) c j = mi c j), fun j hj => (setPg_in (mi := mi) (p := q) (S := fun _ => false) hj).trans (by simp [b2i]), by simp⟩
  rw [show f_Mo_shifts_11 n n 559 (nI p) (nI q) (iZ z) (iZ w) (b2i true) (nI 0) (K (setPg mi q fun x => false) ml) = _ from e1]
  have e2 : s'.1 = !sOff z w (pg mi p) := by
    cases h : s'.1 with
    | true => rw [sOff_f.mpr (h3.mp h)]; rfl
    | false =>
      cases h9 : sOff z w (pg mi p) with
      | true => rfl
      | false => rw [h3.mpr (sOff_f.mp h9)] at h; cases h
  have e3 : s'.2 = setPg mi q (shS z w (pg mi p)) := by
    funext c j
    unfold setPg
    by_cases h : c = 567 ∧ 256 * q ≤ j ∧ j < 256 * q + 256
    · rw [if_pos h]
      have := h2 (j - 256 * q) (by omega)
      rw [show 256 * q + (j - 256 * q) = j by omega] at this
      rw [h.1, this]
      unfold shS
      congr 1
      by_cases e2 : sIn (-z) (-w) (j - 256 * q) = true
      · simp [e2, (sTo_ok (by omega) e2).1]
      · simp [e2]
    · rw [if_neg h]; exact h1 c j h
  rw [e2, e3]
theorem pg_set {mi : IM} {p : Nat} {S : Nat → Bool} {i : Nat} (h : i < 256) : pg (setPg mi p S) p i = S i := by
  unfold pg
  rw [setPg_in h]
  cases S i <;> decide
theorem pg_ne {mi : IM} {p q : Nat} {S : Nat → Bool} {i : Nat} (h : i < 256) (hpq : p ≠ q) : pg (setPg mi q S) p i = pg mi p i := by
  unfold pg
  rw [setPg_out (by omega)]
theorem B01_set {mi : IM} {p : Nat} {S : Nat → Bool} (h : B01 mi) : B01 (setPg mi p S) := by
  intro j
  unfold setPg
  split
  · cases S (j - 256 * p)
    · exact Or.inl rfl
    · exact Or.inr rfl
  · exact h j
/-! ===== BASE ===== -/
/-- the least column of a SHAPE's CELLS, 8 if there is none; the least row -/
def mnX (S : Nat → Bool) : Nat → Nat
  | 0 => 8
  | i + 1 => if S i && decide (i / 4 % 8 < mnX S i) then i / 4 % 8 else mnX S i
def mnY (S : Nat → Bool) : Nat → Nat
  | 0 => 8
  | i + 1 => if S i && decide (i / 32 < mnY S i) then i / 32 else mnY S i
theorem mnX_le (S : Nat → Bool) : ∀ i, mnX S i ≤ 8
  | 0 => Nat.le_refl 8
  | i + 1 => by unfold mnX; split <;> first | exact mnX_le S i | omega
theorem mnY_le (S : Nat → Bool) : ∀ i, mnY S i ≤ 8
  | 0 => Nat.le_refl 8
  | i + 1 => by
    unfold mnY
    split
    · next h => simp at h; have := mnY_le S i; omega
    · exact mnY_le S i
def bsX (S : Nat → Bool) : Int := if mnX S 256 = 8 then 0 else -(mnX S 256 : Int)
def bsY (S : Nat → Bool) : Int := if mnY S 256 = 8 then 0 else -(mnY S 256 : Int)
def baS (S : Nat → Bool) : Nat → Bool := fun j => !sOff (bsX S) (bsY S) S && shS (bsX S) (bsY S) S j
theorem mn_congr {S S' : Nat → Bool} : ∀ {i : Nat}, (∀ k, k < i → S k = S' k) → mnX S i = mnX S' i ∧ mnY S i = mnY S' i
  | 0, _ => ⟨rfl, rfl⟩
  | i + 1, h => by
    obtain ⟨h1, h2⟩ := mn_congr (i := i) (fun k hk => h k (by omega))
    unfold mnX mnY
    rw [h1, h2, h i (by omega)]
    exact ⟨rfl, rfl⟩
theorem bases_loop {n p : Nat} {ml : JM} {mi : IM} {x2 : Int32} {k9 : Nat → Int32 → Int32 → Int32 → Int32 → MM → Option MM} (hp : p < 56) : ∀ (m i : Nat), i ≤ 256 → 256 - i < m → f_Mo_bases_10 n k9 m 559 (nI p) x2 (nI (mnX (pg mi p) i)) (nI (mnY (pg mi p) i)) (nI i) (K mi ml) = k9 559 (nI p) x2 (nI (mnX (pg mi p) 256)) (nI (mnY (pg mi p) 256)) (K mi ml) := by
  intro m
  induction m with
  | zero => intro i h1 h2; omega
  | succ m ih =>
    intro i h1 h2
    by_cases h : i = 256
    · subst h
      rw [f_Mo_bases_10, if_pos (by decide)]
    · have hi : i < 256 := by omega
      have hx := mnX_le (pg mi p) i
      have hy := mnY_le (pg mi p) i
      rw [← ih (i + 1) (by omega) (by omega), f_Mo_bases_10]
      have hpgi : (pg mi p i = true) ↔ ¬ mi 567 (256 * p + i) = 0 := by unfold pg; simp
      by_cases h0 : mi 567 (256 * p + i) = 0
      · have hf : pg mi p i = false := by cases e : pg mi p i; rfl; exact absurd h0 (hpgi.mp e)
        simp (disch := omega) only [il1 (n := 256), show ¬ 256 ≤ i by omega, if_false, rf_559_18, bnd_s, im2 (n := 256), ia3, a_567, h0, if_true, f_Mo_bases_73, ia1 (n := 1), mnX, mnY, hf, Bool.false_and, Bool.false_eq_true]
      · have ht : pg mi p i = true := hpgi.mpr h0
        simp (disch := omega) only [il1 (n := 256), show ¬ 256 ≤ i by omega, if_false, rf_559_18, bnd_s, im2 (n := 256), ia3, a_567, h0, f_Mo_bases_73, f_Mo_bases_56, ia1 (n := 1), ir1 (n := 8), id1 (n := 4), id1 (n := 32), nm_t, nI_leI, mnX, mnY, ht, Bool.true_and, decide_eq_true_eq]
        by_cases c1 : mnX (pg mi p) i ≤ i / 4 % 8 <;> by_cases c2 : mnY (pg mi p) i ≤ i / 32
        · simp only [c1, c2, if_true, show ¬ i / 4 % 8 < mnX (pg mi p) i by omega, show ¬ i / 32 < mnY (pg mi p) i by omega, if_false]
        · simp only [c1, c2, if_true, show ¬ i / 4 % 8 < mnX (pg mi p) i by omega, show i / 32 < mnY (pg mi p) i by omega, if_false]
        · simp only [c1, c2, if_true, show i / 4 % 8 < mnX (pg mi p) i by omega, show ¬ i / 32 < mnY (pg mi p) i by omega, if_false]
        · simp only [c1, c2, if_true, show i / 4 % 8 < mnX (pg mi p) i by omega, show i / 32 < mnY (pg mi p) i by omega, if_false]
theorem setPg_set {mi : IM} {p : Nat} {S T : Nat → Bool} : setPg (setPg mi p S) p T = setPg mi p T := by
  funext c j
  unfold setPg
  split <;> rfl
theorem bases_s {n p q : Nat} {mi : IM} {ml : JM} (hp : p < 56) (hq : q < 56) (hpq : p ≠ q) (hn : 256 < n) : f_Mo_bases n 559 (nI p) (nI q) (K mi ml) = some (K (setPg mi q (baS (pg mi p))) ml) := by
  unfold f_Mo_bases
  rw [o_559]
  have h := bases_loop (n := n) (ml := ml) (mi := mi) (x2 := nI q) (k9 := f_Mo_bases_79 n) hp n 0 (by omega) (by omega)
  rw [show (8 : Int32) = nI (mnX (pg mi p) 0) from rfl, show (0 : Int32) = nI 0 from rfl]
  rw [show f_Mo_bases_10 n (f_Mo_bases_79 n) n 559 (nI p) (nI q) (nI (mnX (pg mi p) 0)) (nI (mnX (pg mi p) 0)) (nI 0) (K mi ml) = _ from h]
  have hx := mnX_le (pg mi p) 256
  have hy := mnY_le (pg mi p) 256
  have e1 : (if nI (mnX (pg mi p) 256) = 8 then (0 : Int32) else -(nI (mnX (pg mi p) 256))) = iZ (bsX (pg mi p)) := by
    unfold bsX
    by_cases c : mnX (pg mi p) 256 = 8
    · rw [if_pos c, if_pos (by rw [c]; rfl)]; rfl
    · rw [if_neg c, if_neg (by rw [ie1 (n := 8) (by omega) (by omega)]; exact c), iZ_nat, iZ_neg]
  have e2 : (if nI (mnY (pg mi p) 256) = 8 then (0 : Int32) else -(nI (mnY (pg mi p) 256))) = iZ (bsY (pg mi p)) := by
    unfold bsY
    by_cases c : mnY (pg mi p) 256 = 8
    · rw [if_pos c, if_pos (by rw [c]; rfl)]; rfl
    · rw [if_neg c, if_neg (by rw [ie1 (n := 8) (by omega) (by omega)]; exact c), iZ_nat, iZ_neg]
  have e3 : f_Mo_bases_79 n 559 (nI p) (nI q) (nI (mnX (pg mi p) 256)) (nI (mnY (pg mi p) 256)) (K mi ml) = f_Mo_bases_108 n 559 (nI q) 559 (nI p) (nI q) (iZ (bsX (pg mi p))) (iZ (bsY (pg mi p))) (K mi ml) := by
    rw [← e1, ← e2]
    unfold f_Mo_bases_79 f_Mo_bases_94
    split <;> split <;> rfl
  rw [e3]
  unfold f_Mo_bases_108
  have b1 : -8 ≤ bsX (pg mi p) ∧ bsX (pg mi p) ≤ 8 := by unfold bsX; split <;> omega
  have b2 : -8 ≤ bsY (pg mi p) ∧ bsY (pg mi p) ≤ 8 := by unfold bsY; split <;> omega
  rw [shifts_s hp hq hpq b1 b2 hn, bnd_s]
  cases hoff : sOff (bsX (pg mi p)) (bsY (pg mi p)) (pg mi p) with
  | true =>
    rw [if_pos (show b2i (!true) = 0 by decide), clears_s hq hn, bnd_s, setPg_set]
    congr 3
    funext j
    unfold baS
    rw [hoff]; rfl
  | false =>
    rw [if_neg (show ¬ b2i (!false) = 0 by decide)]
    show some (K (setPg mi q _) ml) = _
    congr 3
    funext j
    unfold baS
    rw [hoff]; rfl
