/-! ===== the reference's pages ===== -/
def b2i (b : Bool) : Int32 := if b then 1 else 0
def B01 (mi : IM) : Prop := ∀ j, mi 567 j = 0 ∨ mi 567 j = 1
def pg (mi : IM) (p : Nat) : Nat → Bool := fun i => decide (mi 567 (256 * p + i) ≠ 0)
def setPg (mi : IM) (p : Nat) (S : Nat → Bool) : IM := fun c j => if c = 567 ∧ 256 * p ≤ j ∧ j < 256 * p + 256 then b2i (S (j - 256 * p)) else mi c j
theorem clears_loop {n p : Nat} {ml : JM} (hp : p < 56) : ∀ (m i : Nat) (mi : IM), i ≤ 256 → 256 - i < m → f_Mo_clears_2 n m 559 (nI p) (nI i) (K mi ml) = some (K (fun c j => if c = 567 ∧ 256 * p + i ≤ j ∧ j < 256 * p + 256 then 0 else mi c j) ml) := by
  refine loop_up (fun m i mi => f_Mo_clears_2 n m 559 (nI p) (nI i) (K mi ml)) (fun i mi => upd2 mi 567 (256 * p + i) 0) (fun mi => some (K mi ml)) 256 ?_ ?_ (fun i mi => fun c j => if c = 567 ∧ 256 * p + i ≤ j ∧ j < 256 * p + 256 then 0 else mi c j) ?_ ?_
  · intro m s
    show f_Mo_clears_2 n (m + 1) 559 (nI p) (nI 256) (K s ml) = _
    rw [f_Mo_clears_2, if_pos (by decide)]
  · intro m i s hi
    show f_Mo_clears_2 n (m + 1) 559 (nI p) (nI i) (K s ml) = f_Mo_clears_2 n m 559 (nI p) (nI (i + 1)) (K _ ml)
    rw [f_Mo_clears_2]
    simp (disch := omega) only [il1 (n := 256), show ¬ 256 ≤ i by omega, if_false, rf_559_18, bnd_s, im2 (n := 256), ia3, s_567, nrw102, zero1, ia1 (n := 1)]
  · intro s
    funext c j
    rw [if_neg (by omega)]
  · intro i s hi
    funext c j
    simp only [u2]
    by_cases h1 : c = 567
    · by_cases h2 : j = 256 * p + i
      · simp [h1, h2, hi]
      · by_cases h3 : 256 * p + i ≤ j
        · simp [h1, h2, h3, show 256 * p + (i + 1) ≤ j by omega]
        · simp [h1, h2, h3, show ¬ 256 * p + (i + 1) ≤ j by omega]
    · simp [h1]
theorem clears_s {n p : Nat} {mi : IM} {ml : JM} (hp : p < 56) (hn : 256 < n) : f_Mo_clears n 559 (nI p) (K mi ml) = some (K (setPg mi p (fun _ => false)) ml) := by
  unfold f_Mo_clears
  rw [o_559]
  exact clears_loop hp n 0 mi (by omega) (by omega)
theorem copies_loop {n p q : Nat} {ml : JM} (hp : p < 56) (hq : q < 56) (hpq : p ≠ q) : ∀ (m i : Nat) (mi : IM), i ≤ 256 → 256 - i < m → f_Mo_copies_2 n m 559 (nI p) (nI q) (nI i) (K mi ml) = some (K (fun c j => if c = 567 ∧ 256 * q + i ≤ j ∧ j < 256 * q + 256 then mi 567 (256 * p + (j - 256 * q)) &&& 1 else mi c j) ml) := by
  refine loop_up (fun m i mi => f_Mo_copies_2 n m 559 (nI p) (nI q) (nI i) (K mi ml)) (fun i mi => upd2 mi 567 (256 * q + i) (mi 567 (256 * p + i) &&& 1)) (fun mi => some (K mi ml)) 256 ?_ ?_ (fun i mi => fun c j => if c = 567 ∧ 256 * q + i ≤ j ∧ j < 256 * q + 256 then mi 567 (256 * p + (j - 256 * q)) &&& 1 else mi c j) ?_ ?_
  · intro m s
    show f_Mo_copies_2 n (m + 1) 559 (nI p) (nI q) (nI 256) (K s ml) = _
    rw [f_Mo_copies_2, if_pos (by decide)]
  · intro m i s hi
    show f_Mo_copies_2 n (m + 1) 559 (nI p) (nI q) (nI i) (K s ml) = f_Mo_copies_2 n m 559 (nI p) (nI q) (nI (i + 1)) (K _ ml)
    rw [f_Mo_copies_2]
    simp (disch := omega) only [il1 (n := 256), show ¬ 256 ≤ i by omega, if_false, rf_559_18, bnd_s, im2 (n := 256), ia3, a_567, s_567, nrw102, ia1 (n := 1)]
  · intro s
    funext c j
    rw [if_neg (by omega)]
  · intro i s hi
    funext c j
    simp only [u2]
    by_cases h1 : c = 567
    · by_cases h2 : j = 256 * q + i
      · subst h2
        simp [h1, hi, show 256 * q + i - 256 * q = i by omega]
        intro hh; omega
      · by_cases h3 : 256 * q + i ≤ j ∧ j < 256 * q + 256
        · simp [h1, h2, h3, show 256 * q + (i + 1) ≤ j by omega, show 256 * p + (j - 256 * q) ≠ 256 * q + i by omega]
        · simp only [h1, h2, true_and, and_false, if_false]
          rw [if_neg (by omega), if_neg (by omega)]
    · simp [h1]
theorem pg01 {mi : IM} (h : B01 mi) (p i : Nat) : mi 567 (256 * p + i) = b2i (pg mi p i) := by
  rcases h (256 * p + i) with e | e <;> simp [pg, b2i, e]
theorem b2i_1 (b : Bool) : b2i b &&& 1 = b2i b := by cases b <;> decide
theorem copies_s {n p q : Nat} {mi : IM} {ml : JM} (hb : B01 mi) (hp : p < 56) (hq : q < 56) (hpq : p ≠ q) (hn : 256 < n) : f_Mo_copies n 559 (nI p) (nI q) (K mi ml) = some (K (setPg mi q (pg mi p)) ml) := by
  unfold f_Mo_copies
  rw [o_559, show (0 : Int32) = nI 0 from rfl, copies_loop hp hq hpq n 0 mi (by omega) (by omega)]
  congr 2
  funext c j
  unfold setPg
  by_cases h : c = 567 ∧ 256 * q ≤ j ∧ j < 256 * q + 256
  · rw [if_pos (by omega), if_pos h, pg01 hb, b2i_1]
  · rw [if_neg (by omega), if_neg h]
/-! where the QUARTER i goes -/
def qT (i : Nat) : Nat := 4 * (8 * (i / 4 % 8) + (7 - i / 32)) + (i % 4 + 1) % 4
def qTi (j : Nat) : Nat := 4 * (8 * (7 - j / 4 % 8) + j / 32) + (j % 4 + 3) % 4
def qF (i : Nat) : Nat := 4 * (8 * (i / 32) + (7 - i / 4 % 8)) + (4 - i % 4) % 4
theorem qT_lt : ∀ i, i < 256 → qT i < 256 ∧ qTi i < 256 ∧ qF i < 256 ∧ qTi (qT i) = i ∧ qT (qTi i) = i ∧ qF (qF i) = i := by decide +kernel
def qP (fl : Bool) (i : Nat) : Nat := if fl then qF i else qT i
def qI (fl : Bool) (i : Nat) : Nat := if fl then qF i else qTi i
theorem qP_lt (fl : Bool) {i : Nat} (h : i < 256) : qP fl i < 256 ∧ qI fl i < 256 ∧ qI fl (qP fl i) = i ∧ qP fl (qI fl i) = i := by
  obtain ⟨h1, h2, h3, h4, h5, h6⟩ := qT_lt i h
  cases fl
  · exact ⟨h1, h2, h4, h5⟩
  · exact ⟨h3, h3, h6, h6⟩
theorem turns_step {n p q m i : Nat} {s : IM} {ml : JM} (fl : Bool) (hp : p < 56) (hq : q < 56) (hi : i < 256) : f_Mo_turns_8 n (m + 1) 559 (nI p) (nI q) (b2i fl) (nI i) (K s ml) = f_Mo_turns_8 n m 559 (nI p) (nI q) (b2i fl) (nI (i + 1)) (K (if s 567 (256 * p + i) = 0 then s else upd2 s 567 (256 * q + qP fl i) 1) ml) := by
  rw [f_Mo_turns_8]
  by_cases h0 : s 567 (256 * p + i) = 0
  · simp (disch := omega) only [il1 (n := 256), show ¬ 256 ≤ i by omega, if_false, rf_559_18, bnd_s, im2 (n := 256), ia3, a_567, h0, if_true, f_Mo_turns_132, ia1 (n := 1)]
  · cases fl
    · simp (disch := omega) only [il1 (n := 256), show ¬ 256 ≤ i by omega, if_false, rf_559_18, bnd_s, im2 (n := 256), im2 (n := 8), im2 (n := 4), ia3, a_567, h0, f_Mo_turns_132, ia1 (n := 1), nm_t, ir1 (n := 4), ir1 (n := 8), id1 (n := 4), id1 (n := 32), show b2i false = 0 from rfl, if_true, f_Mo_turns_70, f_Mo_turns_84, f_Mo_turns_105, is2 (n := 7), s_567, nrw102, one1]
      congr 3
      show _ = 256 * q + qT i
      unfold qT
      omega
    · simp (disch := omega) only [il1 (n := 256), show ¬ 256 ≤ i by omega, if_false, rf_559_18, bnd_s, im2 (n := 256), im2 (n := 8), im2 (n := 4), ia3, a_567, h0, f_Mo_turns_132, ia1 (n := 1), nm_t, ir1 (n := 4), ir1 (n := 8), id1 (n := 4), id1 (n := 32), show b2i true = 1 from rfl, show ¬ (1 : Int32) = 0 by decide, if_true, f_Mo_turns_70, f_Mo_turns_84, f_Mo_turns_105, is2 (n := 7), is2 (n := 4), s_567, nrw102, one1]
      congr 3
      show _ = 256 * q + qF i
      unfold qF
      omega
theorem b2i_ne {b : Bool} : b2i b = 0 ↔ b = false := by cases b <;> decide
theorem turns_loop {n p q : Nat} {ml : JM} (fl : Bool) (hp : p < 56) (hq : q < 56) (hpq : p ≠ q) : ∀ (m i : Nat) (mi : IM), i ≤ 256 → 256 - i < m → f_Mo_turns_8 n m 559 (nI p) (nI q) (b2i fl) (nI i) (K mi ml) = some (K (fun c j => if (c = 567 ∧ 256 * q ≤ j ∧ j < 256 * q + 256) ∧ i ≤ qI fl (j - 256 * q) ∧ ¬ mi 567 (256 * p + qI fl (j - 256 * q)) = 0 then 1 else mi c j) ml) := by
  refine loop_up (fun m i mi => f_Mo_turns_8 n m 559 (nI p) (nI q) (b2i fl) (nI i) (K mi ml)) (fun i s => if s 567 (256 * p + i) = 0 then s else upd2 s 567 (256 * q + qP fl i) 1) (fun mi => some (K mi ml)) 256 ?_ (fun m i s hi => turns_step fl hp hq hi) (fun i mi => fun c j => if (c = 567 ∧ 256 * q ≤ j ∧ j < 256 * q + 256) ∧ i ≤ qI fl (j - 256 * q) ∧ ¬ mi 567 (256 * p + qI fl (j - 256 * q)) = 0 then 1 else mi c j) ?_ ?_
  · intro m s
    show f_Mo_turns_8 n (m + 1) 559 (nI p) (nI q) (b2i fl) (nI 256) (K s ml) = _
    rw [f_Mo_turns_8, if_pos (by decide)]
  · intro s
    funext c j
    refine if_neg ?_
    rintro ⟨⟨-, h1, h2⟩, h3, -⟩
    have := (qP_lt fl (i := j - 256 * q) (by omega)).2.1
    omega
  · intro i s hi
    funext c j
    obtain ⟨a1, a2, a3, a4⟩ := qP_lt fl hi
    by_cases hr : c = 567 ∧ 256 * q ≤ j ∧ j < 256 * q + 256
    · obtain ⟨b1, b2, b3, b4⟩ := qP_lt fl (i := j - 256 * q) (by omega)
      have hs : ∀ k, k < 256 → (if s 567 (256 * p + i) = 0 then s else upd2 s 567 (256 * q + qP fl i) 1) 567 (256 * p + k) = s 567 (256 * p + k) := by
        intro k hk
        split
        · rfl
        · rw [u2, if_neg (by omega)]
      rw [hs _ b2]
      by_cases hq9 : qI fl (j - 256 * q) = i
      · have hj : j = 256 * q + qP fl i := by rw [← hq9, b4]; omega
        rw [if_neg (by rintro ⟨-, h, -⟩; omega)]
        by_cases h0 : s 567 (256 * p + i) = 0
        · rw [if_pos h0, if_neg (by rw [hq9]; rintro ⟨-, -, h⟩; exact h h0)]
        · rw [if_neg h0, u2, if_pos ⟨hr.1, hj⟩, if_pos ⟨hr, by omega, by rw [hq9]; exact h0⟩]
      · have hj : j ≠ 256 * q + qP fl i := fun e => hq9 (by rw [e, Nat.add_sub_cancel_left]; exact a3)
        have e : (if s 567 (256 * p + i) = 0 then s else upd2 s 567 (256 * q + qP fl i) 1) c j = s c j := by
          split
          · rfl
          · rw [u2, if_neg (fun h => hj h.2)]
        rw [e]
        by_cases hle : i ≤ qI fl (j - 256 * q)
        · simp only [hr, hle, show i + 1 ≤ qI fl (j - 256 * q) by omega]
        · simp only [hle, show ¬ i + 1 ≤ qI fl (j - 256 * q) by omega, false_and, and_false, if_false]
    · have e : (if s 567 (256 * p + i) = 0 then s else upd2 s 567 (256 * q + qP fl i) 1) c j = s c j := by
        split
        · rfl
        · rw [u2, if_neg (fun h => hr ⟨h.1, by omega, by omega⟩)]
      rw [e, if_neg (fun h => hr h.1), if_neg (fun h => hr h.1)]
theorem turns_s {n p q : Nat} {mi : IM} {ml : JM} (fl : Bool) (hp : p < 56) (hq : q < 56) (hpq : p ≠ q) (hn : 256 < n) : f_Mo_turns n 559 (nI p) (nI q) (b2i fl) (K mi ml) = some (K (setPg mi q (fun j => pg mi p (qI fl j))) ml) := by
  unfold f_Mo_turns
  rw [o_559, clears_s hq hn, bnd_s, show (0 : Int32) = nI 0 from rfl, turns_loop fl hp hq hpq n 0 _ (by omega) (by omega)]
  congr 2
  funext c j
  unfold setPg
  by_cases h : c = 567 ∧ 256 * q ≤ j ∧ j < 256 * q + 256
  · have hlt := (qP_lt fl (i := j - 256 * q) (by omega)).2.1
    rw [if_pos h]
    have e : (if (567 : Nat) = 567 ∧ 256 * q ≤ 256 * p + qI fl (j - 256 * q) ∧ 256 * p + qI fl (j - 256 * q) < 256 * q + 256 then b2i false else mi 567 (256 * p + qI fl (j - 256 * q))) = mi 567 (256 * p + qI fl (j - 256 * q)) := if_neg (by omega)
    simp only [h, e, pg]
    by_cases h0 : mi 567 (256 * p + qI fl (j - 256 * q)) = 0
    · simp [h0, b2i]
    · simp [h0, b2i]
      omega
  · rw [if_neg (fun g => h g.1), if_neg h, if_neg h]
