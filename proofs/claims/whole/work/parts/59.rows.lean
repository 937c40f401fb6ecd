/-! ===== the class: top, bottom, left, right, BASE, SHIFT, join and the rest ===== -/
theorem find_up {R : Type} (F : Nat → Nat → R) (E : Nat → R) (p : Nat → Bool) (e : Nat) (hx : ∀ m, F (m + 1) e = E e) (hs : ∀ m i, i < e → F (m + 1) i = if p i = true then E i else F m (i + 1)) : ∀ m i, i ≤ e → e - i < m → ∃ r, F m i = E r ∧ i ≤ r ∧ r ≤ e ∧ (∀ k, i ≤ k → k < r → p k = false) ∧ (r < e → p r = true) := by
  intro m
  induction m with
  | zero => intro i h1 h2; omega
  | succ m ih =>
    intro i h1 h2
    by_cases h : i = e
    · subst h; exact ⟨i, hx m, Nat.le_refl _, Nat.le_refl _, fun k a b => by omega, fun h => by omega⟩
    · rw [hs m i (by omega)]
      cases hp : p i with
      | true => exact ⟨i, if_pos rfl, Nat.le_refl _, h1, fun k a b => by omega, fun _ => hp⟩
      | false =>
        obtain ⟨r, e1, e2, e3, e4, e5⟩ := ih (i + 1) (by omega) (by omega)
        refine ⟨r, by rw [if_neg (by decide)]; exact e1, by omega, e3, fun k a b => ?_, e5⟩
        by_cases q : k = i
        · rw [q]; exact hp
        · exact e4 k (by omega) b
theorem find_down {R : Type} (F : Nat → Nat → R) (E : Nat → R) (p : Nat → Bool) (e : Nat) (hx : ∀ m, F (m + 1) 0 = E 0) (hs : ∀ m i, i < e → F (m + 1) (i + 1) = if p i = true then E (i + 1) else F m i) : ∀ m i, i ≤ e → i < m → ∃ r, F m i = E r ∧ r ≤ i ∧ (∀ k, r ≤ k → k < i → p k = false) ∧ (∀ k, r = k + 1 → p k = true) := by
  intro m
  induction m with
  | zero => intro i h0 h1; omega
  | succ m ih =>
    intro i h0 h1
    cases i with
    | zero => exact ⟨0, hx m, Nat.le_refl _, fun k a b => by omega, fun k a => by omega⟩
    | succ i =>
      rw [hs m i (by omega)]
      cases hp : p i with
      | true => exact ⟨i + 1, if_pos rfl, Nat.le_refl _, fun k a b => by omega, fun k a => by rw [show k = i by omega]; exact hp⟩
      | false =>
        obtain ⟨r, e1, e3, e4, e5⟩ := ih i (by omega) (by omega)
        refine ⟨r, by rw [if_neg (by decide)]; exact e1, by omega, fun k a b => ?_, e5⟩
        by_cases q : k = i
        · rw [q]; exact hp
        · exact e4 k (by omega) (by omega)
theorem mnY_sp (S : Nat → Bool) : ∀ n, n ≤ 256 → (∀ i, i < n → S i = true → mnY S n ≤ i / 32) ∧ (mnY S n = 8 ∨ ∃ i, i < n ∧ S i = true ∧ i / 32 = mnY S n)
  | 0, _ => ⟨fun i h => by omega, Or.inl rfl⟩
  | n + 1, hn => by
    obtain ⟨h1, h2⟩ := mnY_sp S n (by omega)
    unfold mnY
    split
    · next h =>
      simp at h
      refine ⟨fun i hi hs => ?_, Or.inr ⟨n, by omega, h.1, rfl⟩⟩
      by_cases q : i = n
      · subst q; exact Nat.le_refl _
      · have := h1 i (by omega) hs; omega
    · next h =>
      simp at h
      refine ⟨fun i hi hs => ?_, ?_⟩
      · by_cases q : i = n
        · subst q; exact h hs
        · exact h1 i (by omega) hs
      · rcases h2 with q | ⟨i, q1, q2⟩
        · exact Or.inl q
        · exact Or.inr ⟨i, by omega, q2⟩
theorem mnX_sp (S : Nat → Bool) : ∀ n, n ≤ 256 → (∀ i, i < n → S i = true → mnX S n ≤ i / 4 % 8) ∧ (mnX S n = 8 ∨ ∃ i, i < n ∧ S i = true ∧ i / 4 % 8 = mnX S n)
  | 0, _ => ⟨fun i h => by omega, Or.inl rfl⟩
  | n + 1, hn => by
    obtain ⟨h1, h2⟩ := mnX_sp S n (by omega)
    unfold mnX
    split
    · next h =>
      simp at h
      refine ⟨fun i hi hs => ?_, Or.inr ⟨n, by omega, h.1, rfl⟩⟩
      by_cases q : i = n
      · subst q; exact Nat.le_refl _
      · have := h1 i (by omega) hs; omega
    · next h =>
      simp at h
      refine ⟨fun i hi hs => ?_, ?_⟩
      · by_cases q : i = n
        · subst q; exact h hs
        · exact h1 i (by omega) hs
      · rcases h2 with q | ⟨i, q1, q2⟩
        · exact Or.inl q
        · exact Or.inr ⟨i, by omega, q2⟩
theorem mnY_un {S : Nat → Bool} {r : Nat} (h1 : ∀ i, i < 256 → S i = true → r ≤ i / 32) (h2 : r = 8 ∨ ∃ i, i < 256 ∧ S i = true ∧ i / 32 = r) : mnY S 256 = r := by
  obtain ⟨q1, q2⟩ := mnY_sp S 256 (Nat.le_refl _)
  have hle := mnY_le S 256
  rcases h2 with e | ⟨i, a, b, c⟩
  · rcases q2 with f | ⟨j, a', b', c'⟩
    · omega
    · have := h1 j a' b'; omega
  · have := q1 i a b
    rcases q2 with f | ⟨j, a', b', c'⟩
    · omega
    · have := h1 j a' b'; omega
theorem mnX_un {S : Nat → Bool} {r : Nat} (h1 : ∀ i, i < 256 → S i = true → r ≤ i / 4 % 8) (h2 : r = 8 ∨ ∃ i, i < 256 ∧ S i = true ∧ i / 4 % 8 = r) : mnX S 256 = r := by
  obtain ⟨q1, q2⟩ := mnX_sp S 256 (Nat.le_refl _)
  have hle := mnX_le S 256
  rcases h2 with e | ⟨i, a, b, c⟩
  · rcases q2 with f | ⟨j, a', b', c'⟩
    · omega
    · have := h1 j a' b'; omega
  · have := q1 i a b
    rcases q2 with f | ⟨j, a', b', c'⟩
    · omega
    · have := h1 j a' b'; omega
/-- BASE never goes off -/
theorem base_in (S : Nat → Bool) : sOff (bsX S) (bsY S) S = false := by
  rw [sOff_f]
  intro k hk hs
  have h1 := (mnX_sp S 256 (Nat.le_refl _)).1 k hk hs
  have h2 := (mnY_sp S 256 (Nat.le_refl _)).1 k hk hs
  unfold sIn bsX bsY
  rw [if_neg (by omega), if_neg (by omega)]
  apply decide_eq_true
  omega
theorem baC_eq (S : Nat → Bool) : baC S = shC (-(mnX S 256 : Int)) (-(mnY S 256 : Int)) S := by
  unfold baC shC
  refine cu_ext fun i hi => ?_
  unfold baS
  rw [base_in S]
  show (true && shS (bsX S) (bsY S) S i) = _
  rw [Bool.true_and]
  by_cases hne : ∃ k, k < 256 ∧ S k = true
  · obtain ⟨k, hk, hs⟩ := hne
    have h1 := (mnX_sp S 256 (Nat.le_refl _)).1 k hk hs
    have h2 := (mnY_sp S 256 (Nat.le_refl _)).1 k hk hs
    unfold bsX bsY
    rw [if_neg (by omega), if_neg (by omega)]
  · have h0 : ∀ z w : Int, shS z w S i = false := fun z w => by
      unfold shS
      cases h : sIn (-z) (-w) i with
      | false => rfl
      | true =>
        have := (sTo_ok hi h).1
        cases q : S (sTo (-z) (-w) i) with
        | false => rfl
        | true => exact absurd ⟨_, this, q⟩ hne
    rw [h0, h0]
def noS (S : Nat → Bool) : Bool := (List.range 256).all (fun i => !S i)
theorem noS_t {S : Nat → Bool} : noS S = true ↔ ∀ i, i < 256 → S i = false := by
  unfold noS
  rw [List.all_eq_true]
  exact ⟨fun h i hi => by simpa using h i (List.mem_range.mpr hi), fun h i hi => by rw [h i (List.mem_range.mp hi)]; rfl⟩
section RWS
variable {n a b : Nat} {mi : IM} {ml : JM}
/-- a row has a QUARTER -/
theorem row_nz {R : Nat → Int32} {y : Nat} (hy : y < 8) : (¬ R y = 0) ↔ ∃ i, i < 256 ∧ rS R i = true ∧ i / 32 = y := by
  rw [b_nz]
  constructor
  · rintro ⟨i, h1, h2⟩
    exact ⟨32 * y + i, by omega, by rw [rS_in (by omega), show (32 * y + i) / 32 = y by omega, show (32 * y + i) % 32 = i by omega]; exact h2, by omega⟩
  · rintro ⟨i, h1, h2, h3⟩
    rw [rS_in h1, h3] at h2
    exact ⟨i % 32, by omega, h2⟩
theorem top_s (h : isSh a) (hn : 8 < n) : f_Shape_top n a (K mi ml) = some (nI (mnY (svS mi a) 256), K mi ml) := by
  unfold f_Shape_top
  rw [og_sh h, show (0 : Int32) = nI 0 from rfl]
  obtain ⟨r, e1, e2, e3, e4, e5⟩ := find_up (fun m i => f_Shape_top_2 n m a (nI i) (K mi ml)) (fun i => some (nI i, K mi ml)) (fun i => !decide (mi (a + 1) i = 0)) 8
    (fun m => by
      show f_Shape_top_2 n (m + 1) a (nI 8) (K mi ml) = _
      rw [f_Shape_top_2, if_pos (by decide)]; rfl)
    (fun m i hi => by
      show f_Shape_top_2 n (m + 1) a (nI i) (K mi ml) = _
      rw [f_Shape_top_2, if_neg (by rw [il1 (n := 8) (by omega) (by omega)]; omega), gr_sh h, bnd_s, ld_sh h hi, bnd_s, nI_1]
      by_cases c : mi (a + 1) i = 0
      · simp [c]
      · simp [c]) n 0 (by omega) (by omega)
  rw [show f_Shape_top_2 n n a (nI 0) (K mi ml) = _ from e1]
  have e9 : mnY (svS mi a) 256 = r := ?_
  · rw [e9]
  refine mnY_un (fun i hi hs => ?_) ?_
  · apply Decidable.byContradiction
    intro hc
    have := e4 (i / 32) (by omega) (by omega)
    have q := (row_nz (R := mi (a + 1)) (y := i / 32) (by omega)).mpr ⟨i, hi, hs, rfl⟩
    simp [q] at this
  · by_cases q : r = 8
    · exact Or.inl q
    · have := e5 (by omega)
      simp at this
      exact Or.inr ((row_nz (by omega)).mp this)
/-- all rows laid over one another -/
def coR (R : Nat → Int32) : Nat → Int32
  | 0 => 0
  | i + 1 => coR R i ||| R i
theorem b_coR (R : Nat → Int32) (i : Nat) : ∀ k, bt (coR R k) i = true ↔ ∃ y, y < k ∧ bt (R y) i = true
  | 0 => ⟨fun h => (by rw [show coR R 0 = 0 from rfl, b_0] at h; cases h), fun ⟨y, h, _⟩ => by omega⟩
  | k + 1 => by
    rw [show coR R (k + 1) = coR R k ||| R k from rfl, b_or, Bool.or_eq_true, b_coR R i k]
    constructor
    · rintro (⟨y, h1, h2⟩ | h)
      · exact ⟨y, by omega, h2⟩
      · exact ⟨k, by omega, h⟩
    · rintro ⟨y, h1, h2⟩
      by_cases q : y = k
      · subst q; exact Or.inr h2
      · exact Or.inl ⟨y, by omega, h2⟩
theorem columns_s (h : isSh a) (hn : 8 < n) : f_Shape_columns n a (K mi ml) = some (coR (mi (a + 1)) 8, K mi ml) := by
  unfold f_Shape_columns
  rw [og_sh h]
  have L : ∀ m i, i ≤ 8 → 8 - i < m → f_Shape_columns_4 n m a (coR (mi (a + 1)) i) (nI i) (K mi ml) = some (coR (mi (a + 1)) 8, K mi ml) := by
    intro m
    induction m with
    | zero => intro i h1 h2; omega
    | succ m ih =>
      intro i h1 h2
      rw [f_Shape_columns_4]
      by_cases q : i = 8
      · subst q; rw [if_pos (by decide)]
      · rw [if_neg (by rw [il1 (n := 8) (by omega) (by omega)]; omega), gr_sh h, bnd_s, ld_sh h (by omega), bnd_s, nm_t, nI_1]
        exact ih (i + 1) (by omega) (by omega)
  exact L n 0 (by omega) (by omega)
theorem col_nz {R : Nat → Int32} {x : Nat} (hx : x < 8) : (¬ (ushr (coR R 8) (nI (4 * x)) &&& 15) = 0) ↔ ∃ i, i < 256 ∧ rS R i = true ∧ i / 4 % 8 = x := by
  rw [b_nz]
  constructor
  · rintro ⟨i, h1, h2⟩
    rw [b_and, b_iushr (by omega), b_15 i h1, Bool.and_eq_true, decide_eq_true_eq, b_coR] at h2
    obtain ⟨⟨y, hy, hb⟩, h4⟩ := h2
    exact ⟨32 * y + (4 * x + i), by omega, by rw [rS_in (by omega), show (32 * y + (4 * x + i)) / 32 = y by omega, show (32 * y + (4 * x + i)) % 32 = 4 * x + i by omega]; exact hb, by omega⟩
  · rintro ⟨i, h1, h2, h3⟩
    rw [rS_in h1] at h2
    refine ⟨i % 4, by omega, ?_⟩
    rw [b_and, b_iushr (by omega), b_15 _ (by omega), Bool.and_eq_true, decide_eq_true_eq, b_coR]
    exact ⟨⟨i / 32, by omega, by rw [show 4 * x + i % 4 = i % 32 by omega]; exact h2⟩, by omega⟩
theorem leftmost_s (R : Nat → Int32) {M : MM} (hn : 8 < n) : f_Shape_leftmost n (coR R 8) M = some (nI (mnX (rS R) 256), M) := by
  unfold f_Shape_leftmost
  rw [show (0 : Int32) = nI 0 from rfl]
  obtain ⟨r, e1, e2, e3, e4, e5⟩ := find_up (fun m i => f_Shape_leftmost_2 n m (coR R 8) (nI i) M) (fun i => some (nI i, M)) (fun i => !decide ((ushr (coR R 8) (nI (4 * i)) &&& 15) = 0)) 8
    (fun m => by
      show f_Shape_leftmost_2 n (m + 1) (coR R 8) (nI 8) M = _
      rw [f_Shape_leftmost_2, if_pos (by decide)]; rfl)
    (fun m i hi => by
      show f_Shape_leftmost_2 n (m + 1) (coR R 8) (nI i) M = _
      rw [f_Shape_leftmost_2, if_neg (by rw [il1 (n := 8) (by omega) (by omega)]; omega), im2 (n := 4), nI_1]
      by_cases c : (ushr (coR R 8) (nI (4 * i)) &&& 15) = 0
      · simp [c]
      · simp [c]) n 0 (by omega) (by omega)
  rw [show f_Shape_leftmost_2 n n (coR R 8) (nI 0) M = _ from e1]
  have e9 : mnX (rS R) 256 = r := ?_
  · rw [e9]
  refine mnX_un (fun i hi hs => ?_) ?_
  · apply Decidable.byContradiction
    intro hc
    have := e4 (i / 4 % 8) (by omega) (by omega)
    have q := (col_nz (R := R) (x := i / 4 % 8) (by omega)).mpr ⟨i, hi, hs, rfl⟩
    simp [q] at this
  · by_cases q : r = 8
    · exact Or.inl q
    · have := e5 (by omega)
      simp at this
      exact Or.inr ((col_nz (by omega)).mp this)
theorem left_s (h : isSh a) (hn : 8 < n) : f_Shape_left n a (K mi ml) = some (nI (mnX (svS mi a) 256), K mi ml) := by
  unfold f_Shape_left
  rw [og_sh h, columns_s h hn, bnd_s, leftmost_s _ hn, bnd_s]
  rfl
/-- a loop that writes the rows one after another, out of rows of the old state -/
theorem wr_loop {F : Nat → Nat → IM → Option MM} (R : Nat → Int32) (hx : ∀ m s, F (m + 1) 8 s = some (K s ml)) (hs : ∀ m i s, i < 8 → (∀ c j, ¬ (c = a + 1 ∧ j < i) → s c j = mi c j) → F (m + 1) i s = F m (i + 1) (upd2 s (a + 1) i (R i))) (hn : 8 < n) : F n 0 mi = some (K (setRw mi a R) ml) := by
  obtain ⟨s', e1, e2⟩ := loop_inv F (fun i s => upd2 s (a + 1) i (R i)) (fun s => some (K s ml)) 8 hx
    (fun i s => ∀ c j, s c j = if c = a + 1 ∧ j < i then R j else mi c j)
    (fun m i s hi hI => hs m i s hi (fun c j h => by rw [hI c j, if_neg h]))
    (fun i s hi hI c j => by
      rw [u2]
      by_cases h1 : c = a + 1
      · by_cases h2 : j = i
        · subst h2; simp [h1]
        · rw [if_neg (fun q => h2 q.2), hI c j]
          by_cases h3 : j < i
          · rw [if_pos ⟨h1, h3⟩, if_pos ⟨h1, by omega⟩]
          · rw [if_neg (fun q => h3 q.2), if_neg (by omega)]
      · rw [if_neg (fun q => h1 q.1), hI c j, if_neg (fun q => h1 q.1), if_neg (fun q => h1 q.1)]) n 0 mi (by omega) (by omega) (fun c j => by rw [if_neg (by omega)])
  rw [e1]
  congr 2
  funext c j
  rw [e2 c j]; rfl
theorem moveToBase_s (h : isSh a) (hn : 8 < n) : f_Shape_moveToBase n a (K mi ml) = some (K (setRw mi a (shR (mi (a + 1)) (-(mnX (svS mi a) 256 : Int)) (-(mnY (svS mi a) 256 : Int)))) ml) := by
  unfold f_Shape_moveToBase
  rw [og_sh h, top_s h hn, bnd_s, columns_s h hn, bnd_s, leftmost_s _ hn, bnd_s]
  have hx := mnX_le (svS mi a) 256
  have hy := mnY_le (svS mi a) 256
  show f_Shape_moveToBase_15 n n a (nI (mnY (svS mi a) 256)) (nI (mnX (svS mi a) 256)) (nI 0) (K mi ml) = _
  refine wr_loop (F := fun m i s => f_Shape_moveToBase_15 n m a (nI (mnY (svS mi a) 256)) (nI (mnX (svS mi a) 256)) (nI i) (K s ml)) _ (fun m s => ?_) (fun m i s hi hI => ?_) hn
  · show f_Shape_moveToBase_15 n (m + 1) a _ _ (nI 8) (K s ml) = _
    rw [f_Shape_moveToBase_15, if_pos (by decide)]
  · show f_Shape_moveToBase_15 n (m + 1) a _ _ (nI i) (K s ml) = _
    rw [f_Shape_moveToBase_15, if_neg (by rw [il1 (n := 8) (by omega) (by omega)]; omega), gr_sh h, bnd_s, ia3]
    unfold shR
    by_cases c : 8 ≤ i + mnY (svS mi a) 256
    · rw [if_pos (by rw [il1 (n := 8) (by omega) (by omega)]; exact c), if_neg (by omega)]
      unfold f_Shape_moveToBase_51
      rw [st_sh h hi, bnd_s, nI_1]
    · rw [if_neg (by rw [il1 (n := 8) (by omega) (by omega)]; exact c), if_pos (by omega), bnd_s, ld_sh h (by omega), bnd_s, iZ_nat, iZ_neg, slide_s (by omega), bnd_s]
      unfold f_Shape_moveToBase_51
      rw [st_sh h hi, bnd_s, nI_1, hI _ _ (by omega)]
      rw [show ((i : Int) - -((mnY (svS mi a) 256 : Nat) : Int)).toNat = i + mnY (svS mi a) 256 by omega]
theorem base_s {n a : Nat} {mi : IM} {ml : JM} (h : isSh a) (hn : 8 < n) : ∃ mi', f_Shape_moveToBase n a (K mi ml) = some (K mi' ml) ∧ svS mi' a = baC (svS mi a) ∧ ∀ c, c ≠ a + 1 → mi' c = mi c :=
  ⟨_, moveToBase_s h hn, by rw [sv_set, shR_S, baC_eq]; rfl, fun c hc => setRw_ne hc⟩
theorem becomeShifted_s {z w : Int} (h : isSh a) (hb : isSh b) (hab : a ≠ b) (hz : -1000 ≤ z ∧ z ≤ 1000) (hw : -1000 ≤ w ∧ w ≤ 1000) (hn : 8 < n) : f_Shape_becomeShifted n a b (iZ z) (iZ w) (K mi ml) = some (K (setRw mi a (shR (mi (b + 1)) z w)) ml) := by
  unfold f_Shape_becomeShifted
  rw [og_sh h]
  show f_Shape_becomeShifted_3 n n a b (iZ z) (iZ w) (nI 0) (K mi ml) = _
  refine wr_loop (F := fun m i s => f_Shape_becomeShifted_3 n m a b (iZ z) (iZ w) (nI i) (K s ml)) _ (fun m s => ?_) (fun m i s hi hI => ?_) hn
  · show f_Shape_becomeShifted_3 n (m + 1) a b _ _ (nI 8) (K s ml) = _
    rw [f_Shape_becomeShifted_3, if_pos (by decide)]
  · show f_Shape_becomeShifted_3 n (m + 1) a b _ _ (nI i) (K s ml) = _
    have e : nI i - iZ w = iZ ((i : Int) - w) := by rw [iZ_nat]; unfold iZ; rw [Int32.ofInt_sub]
    rw [f_Shape_becomeShifted_3, if_neg (by rw [il1 (n := 8) (by omega) (by omega)]; omega), nm_t, gr_sh h, bnd_s, e]
    unfold shR f_Shape_becomeShifted_48 f_Shape_becomeShifted_49
    by_cases c1 : (i : Int) - w < 0
    · rw [if_pos ((iZ_l0 (by omega) (by omega)).mpr c1), if_neg (by omega), st_sh h hi, bnd_s, nI_1]
    · rw [if_neg (fun q => c1 ((iZ_l0 (by omega) (by omega)).mp q)), iZ_to (by omega)]
      by_cases c2 : 8 ≤ ((i : Int) - w).toNat
      · rw [if_pos (by rw [il1 (n := 8) (by omega) (by omega)]; exact c2), if_neg (by omega), st_sh h hi, bnd_s, nI_1]
      · rw [if_neg (by rw [il1 (n := 8) (by omega) (by omega)]; exact c2), if_pos (by omega), gr_sh hb, bnd_s, ld_sh hb (by omega), bnd_s, slide_s hz, bnd_s, st_sh h hi, bnd_s, nI_1, hI _ _ (by omega)]
theorem join_s (h : isSh a) (hb : isSh b) (hab : a ≠ b) (hn : 8 < n) : f_Shape_join n a b (K mi ml) = some (K (setRw mi a (fun y => mi (a + 1) y ||| mi (b + 1) y)) ml) := by
  unfold f_Shape_join
  rw [og_sh h]
  show f_Shape_join_2 n n a b (nI 0) (K mi ml) = _
  refine wr_loop (F := fun m i s => f_Shape_join_2 n m a b (nI i) (K s ml)) _ (fun m s => ?_) (fun m i s hi hI => ?_) hn
  · show f_Shape_join_2 n (m + 1) a b (nI 8) (K s ml) = _
    rw [f_Shape_join_2, if_pos (by decide)]
  · show f_Shape_join_2 n (m + 1) a b (nI i) (K s ml) = _
    rw [f_Shape_join_2, if_neg (by rw [il1 (n := 8) (by omega) (by omega)]; omega), gr_sh h, bnd_s, ld_sh h hi, bnd_s, gr_sh hb, bnd_s, ld_sh hb hi, bnd_s, st_sh h hi, bnd_s, nI_1, hI _ _ (by omega), hI _ _ (by omega)]
theorem keepCommon_s (h : isSh a) (hb : isSh b) (hab : a ≠ b) (hn : 8 < n) : f_Shape_keepCommon n a b (K mi ml) = some (K (setRw mi a (fun y => mi (a + 1) y &&& mi (b + 1) y)) ml) := by
  unfold f_Shape_keepCommon
  rw [og_sh h]
  show f_Shape_keepCommon_2 n n a b (nI 0) (K mi ml) = _
  refine wr_loop (F := fun m i s => f_Shape_keepCommon_2 n m a b (nI i) (K s ml)) _ (fun m s => ?_) (fun m i s hi hI => ?_) hn
  · show f_Shape_keepCommon_2 n (m + 1) a b (nI 8) (K s ml) = _
    rw [f_Shape_keepCommon_2, if_pos (by decide)]
  · show f_Shape_keepCommon_2 n (m + 1) a b (nI i) (K s ml) = _
    rw [f_Shape_keepCommon_2, if_neg (by rw [il1 (n := 8) (by omega) (by omega)]; omega), gr_sh h, bnd_s, ld_sh h hi, bnd_s, gr_sh hb, bnd_s, ld_sh hb hi, bnd_s, st_sh h hi, bnd_s, nI_1, hI _ _ (by omega), hI _ _ (by omega)]
theorem takeAway_s (h : isSh a) (hb : isSh b) (hab : a ≠ b) (hn : 8 < n) : f_Shape_takeAway n a b (K mi ml) = some (K (setRw mi a (fun y => mi (a + 1) y &&& (mi (b + 1) y ^^^ (-1)))) ml) := by
  unfold f_Shape_takeAway
  rw [og_sh h]
  show f_Shape_takeAway_2 n n a b (nI 0) (K mi ml) = _
  refine wr_loop (F := fun m i s => f_Shape_takeAway_2 n m a b (nI i) (K s ml)) _ (fun m s => ?_) (fun m i s hi hI => ?_) hn
  · show f_Shape_takeAway_2 n (m + 1) a b (nI 8) (K s ml) = _
    rw [f_Shape_takeAway_2, if_pos (by decide)]
  · show f_Shape_takeAway_2 n (m + 1) a b (nI i) (K s ml) = _
    rw [f_Shape_takeAway_2, if_neg (by rw [il1 (n := 8) (by omega) (by omega)]; omega), gr_sh h, bnd_s, ld_sh h hi, bnd_s, gr_sh hb, bnd_s, ld_sh hb hi, bnd_s, st_sh h hi, bnd_s, nI_1, hI _ _ (by omega), hI _ _ (by omega)]
/-- the SHAPES of these -/
theorem orR_S (R T : Nat → Int32) : rS (fun y => R y ||| T y) = cu (fun i => rS R i || rS T i) := cu_ext (S := fun i => bt (R (i / 32) ||| T (i / 32)) (i % 32)) fun i hi => by rw [b_or, rS_in hi, rS_in hi]
theorem anR_S (R T : Nat → Int32) : rS (fun y => R y &&& T y) = cu (fun i => rS R i && rS T i) := cu_ext (S := fun i => bt (R (i / 32) &&& T (i / 32)) (i % 32)) fun i hi => by rw [b_and, rS_in hi, rS_in hi]
theorem adR_S (R T : Nat → Int32) : rS (fun y => R y &&& (T y ^^^ (-1))) = cu (fun i => rS R i && !rS T i) := cu_ext (S := fun i => bt (R (i / 32) &&& (T (i / 32) ^^^ (-1))) (i % 32)) fun i hi => by
  rw [b_and, b_xor, b_m1 _ (by omega), rS_in hi, rS_in hi]
  cases bt (T (i / 32)) (i % 32) <;> rfl
theorem isSame_s (h : isSh a) (hb : isSh b) (hn : 8 < n) : f_Shape_isSame n a b (K mi ml) = some (b2i (smS (svS mi a) (svS mi b)), K mi ml) := by
  unfold f_Shape_isSame
  rw [og_sh h]
  obtain ⟨r, e1, e2, e3, e4, e5⟩ := find_up (fun m i => f_Shape_isSame_2 n m a b (nI i) (K mi ml)) (fun i => some (if i = 8 then 1 else 0, K mi ml)) (fun i => !decide (mi (a + 1) i = mi (b + 1) i)) 8
    (fun m => by
      show f_Shape_isSame_2 n (m + 1) a b (nI 8) (K mi ml) = _
      rw [f_Shape_isSame_2, if_pos (by decide)]; rfl)
    (fun m i hi => by
      show f_Shape_isSame_2 n (m + 1) a b (nI i) (K mi ml) = _
      rw [f_Shape_isSame_2, if_neg (by rw [il1 (n := 8) (by omega) (by omega)]; omega), gr_sh h, bnd_s, ld_sh h hi, bnd_s, gr_sh hb, bnd_s, ld_sh hb hi, bnd_s, nI_1]
      by_cases c : mi (a + 1) i = mi (b + 1) i
      · simp [c]
      · simp [c, show ¬ i = 8 by omega]) n 0 (by omega) (by omega)
  rw [show f_Shape_isSame_2 n n a b 0 (K mi ml) = _ from e1]
  congr 2
  by_cases q : r = 8
  · subst q
    have hh : svS mi a = svS mi b := rS_ext fun y hy => by have := e4 y (by omega) hy; simpa using this
    rw [show smS (svS mi a) (svS mi b) = true from (smS_cu (rS_cu _) (rS_cu _)).mpr hh]
    rfl
  · have := e5 (by omega)
    have hh : smS (svS mi a) (svS mi b) = false := by
      cases e : smS (svS mi a) (svS mi b) with
      | false => rfl
      | true =>
        have h9 : mi (a + 1) r = mi (b + 1) r := rS_inj ((smS_cu (rS_cu _) (rS_cu _)).mp e) (by omega)
        rw [h9] at this
        simp at this
    rw [hh, if_neg q]
    rfl
theorem isNothing_s (h : isSh a) (hn : 8 < n) : f_Shape_isNothing n a (K mi ml) = some (b2i (noS (svS mi a)), K mi ml) := by
  unfold f_Shape_isNothing
  rw [og_sh h]
  obtain ⟨r, e1, e2, e3, e4, e5⟩ := find_up (fun m i => f_Shape_isNothing_2 n m a (nI i) (K mi ml)) (fun i => some (if i = 8 then 1 else 0, K mi ml)) (fun i => !decide (mi (a + 1) i = 0)) 8
    (fun m => by
      show f_Shape_isNothing_2 n (m + 1) a (nI 8) (K mi ml) = _
      rw [f_Shape_isNothing_2, if_pos (by decide)]; rfl)
    (fun m i hi => by
      show f_Shape_isNothing_2 n (m + 1) a (nI i) (K mi ml) = _
      rw [f_Shape_isNothing_2, if_neg (by rw [il1 (n := 8) (by omega) (by omega)]; omega), gr_sh h, bnd_s, ld_sh h hi, bnd_s, nI_1]
      by_cases c : mi (a + 1) i = 0
      · simp [c]
      · simp [c, show ¬ i = 8 by omega]) n 0 (by omega) (by omega)
  rw [show f_Shape_isNothing_2 n n a 0 (K mi ml) = _ from e1]
  congr 2
  by_cases q : r = 8
  · subst q
    have hh : noS (svS mi a) = true := noS_t.mpr fun i hi => by
      unfold svS
      rw [rS_in hi, show mi (a + 1) (i / 32) = 0 by have := e4 (i / 32) (by omega) (by omega); simpa using this, b_0]
    rw [hh]; rfl
  · have h5 := e5 (by omega)
    simp at h5
    obtain ⟨i, hi, hs, _⟩ := (row_nz (R := mi (a + 1)) (y := r) (by omega)).mp h5
    have hh : noS (svS mi a) = false := by
      cases e : noS (svS mi a) with
      | false => rfl
      | true => have := noS_t.mp e i hi; unfold svS at this; rw [hs] at this; cases this
    rw [hh, if_neg q]; rfl
/-- one more than the last row, the last column -/
def mxY (S : Nat → Bool) (r : Nat) : Prop := r ≤ 8 ∧ (∀ i, i < 256 → S i = true → i / 32 < r) ∧ (r = 0 ∨ ∃ i, i < 256 ∧ S i = true ∧ i / 32 + 1 = r)
def mxX (S : Nat → Bool) (r : Nat) : Prop := r ≤ 8 ∧ (∀ i, i < 256 → S i = true → i / 4 % 8 < r) ∧ (r = 0 ∨ ∃ i, i < 256 ∧ S i = true ∧ i / 4 % 8 + 1 = r)
theorem bottom_s (h : isSh a) (hn : 8 < n) : ∃ r : Nat, f_Shape_bottom n a (K mi ml) = some (iZ ((r : Int) - 1), K mi ml) ∧ mxY (svS mi a) r := by
  unfold f_Shape_bottom
  rw [og_sh h]
  obtain ⟨r, e1, e3, e4, e5⟩ := find_down (fun m i => f_Shape_bottom_3 n m a (iZ ((i : Int) - 1)) (K mi ml)) (fun i => some (iZ ((i : Int) - 1), K mi ml)) (fun i => !decide (mi (a + 1) i = 0)) 8
    (fun m => by
      show f_Shape_bottom_3 n (m + 1) a (iZ (-1)) (K mi ml) = _
      rw [f_Shape_bottom_3, if_pos (by decide)]; rfl)
    (fun m i hi => by
      show f_Shape_bottom_3 n (m + 1) a (iZ (((i + 1 : Nat) : Int) - 1)) (K mi ml) = if _ then some (iZ (((i + 1 : Nat) : Int) - 1), K mi ml) else f_Shape_bottom_3 n m a (iZ ((i : Int) - 1)) (K mi ml)
      have q : iZ ((i : Int) - 1) = nI i + -1 := by
        rw [iZ_nat, show (-1 : Int32) = iZ (-1) from rfl]
        unfold iZ
        rw [← Int32.ofInt_add]
        rfl
      rw [show (((i + 1 : Nat) : Int) - 1) = (i : Int) by omega, q, ← iZ_nat, f_Shape_bottom_3, if_neg (nI_pos (by omega)), gr_sh h, bnd_s, ld_sh h hi, bnd_s]
      by_cases c : mi (a + 1) i = 0
      · simp [c]
      · simp [c]) n 8 (by omega) (by omega)
  refine ⟨r, e1, e3, fun i hi hs => ?_, ?_⟩
  · apply Decidable.byContradiction
    intro hc
    have := e4 (i / 32) (by omega) (by omega)
    have q := (row_nz (R := mi (a + 1)) (y := i / 32) (by omega)).mpr ⟨i, hi, hs, rfl⟩
    simp [q] at this
  · by_cases q : r = 0
    · exact Or.inl q
    · have := e5 (r - 1) (by omega)
      simp at this
      obtain ⟨i, h1, h2, h3⟩ := (row_nz (by omega)).mp this
      exact Or.inr ⟨i, h1, h2, by omega⟩
theorem right_s (h : isSh a) (hn : 8 < n) : ∃ r : Nat, f_Shape_right n a (K mi ml) = some (iZ ((r : Int) - 1), K mi ml) ∧ mxX (svS mi a) r := by
  unfold f_Shape_right
  rw [og_sh h, columns_s h hn, bnd_s]
  obtain ⟨r, e1, e3, e4, e5⟩ := find_down (fun m i => f_Shape_right_8 n m (coR (mi (a + 1)) 8) (iZ ((i : Int) - 1)) (K mi ml)) (fun i => some (iZ ((i : Int) - 1), K mi ml)) (fun i => !decide ((ushr (coR (mi (a + 1)) 8) (nI (4 * i)) &&& 15) = 0)) 8
    (fun m => by
      show f_Shape_right_8 n (m + 1) _ (iZ (-1)) (K mi ml) = _
      rw [f_Shape_right_8, if_pos (by decide)]; rfl)
    (fun m i hi => by
      show f_Shape_right_8 n (m + 1) (coR (mi (a + 1)) 8) (iZ (((i + 1 : Nat) : Int) - 1)) (K mi ml) = if _ then some (iZ (((i + 1 : Nat) : Int) - 1), K mi ml) else f_Shape_right_8 n m (coR (mi (a + 1)) 8) (iZ ((i : Int) - 1)) (K mi ml)
      have q : iZ ((i : Int) - 1) = nI i + -1 := by
        rw [iZ_nat, show (-1 : Int32) = iZ (-1) from rfl]
        unfold iZ
        rw [← Int32.ofInt_add]
        rfl
      rw [show (((i + 1 : Nat) : Int) - 1) = (i : Int) by omega, q, ← iZ_nat, f_Shape_right_8, if_neg (nI_pos (by omega)), im2 (n := 4)]
      by_cases c : (ushr (coR (mi (a + 1)) 8) (nI (4 * i)) &&& 15) = 0
      · simp [c]
      · simp [c]) n 8 (by omega) (by omega)
  refine ⟨r, e1, e3, fun i hi hs => ?_, ?_⟩
  · apply Decidable.byContradiction
    intro hc
    have := e4 (i / 4 % 8) (by omega) (by omega)
    have q := (col_nz (R := mi (a + 1)) (x := i / 4 % 8) (by omega)).mpr ⟨i, hi, hs, rfl⟩
    simp [q] at this
  · by_cases q : r = 0
    · exact Or.inl q
    · have := e5 (r - 1) (by omega)
      simp at this
      obtain ⟨i, h1, h2, h3⟩ := (col_nz (by omega)).mp this
      exact Or.inr ⟨i, h1, h2, by omega⟩
theorem goesOff_s {z w : Int} (h : isSh a) (hz : -1000 ≤ z ∧ z ≤ 1000) (hw : -1000 ≤ w ∧ w ≤ 1000) (hn : 8 < n) : f_Shape_goesOff n a (iZ z) (iZ w) (K mi ml) = some (b2i (sOff z w (svS mi a)), K mi ml) := by
  unfold f_Shape_goesOff f_Shape_goesOff_49
  rw [og_sh h, isNothing_s h hn, bnd_s]
  have hx := mnX_le (svS mi a) 256
  have hy := mnY_le (svS mi a) 256
  cases e0 : noS (svS mi a) with
  | true =>
    rw [if_neg (show ¬ b2i true = 0 by decide), sOff_f.mpr (fun k hk hs => by rw [noS_t.mp e0 k hk] at hs; cases hs)]
    rfl
  | false =>
    have hne : ∃ k, k < 256 ∧ svS mi a k = true := by
      apply Classical.byContradiction
      intro hc
      have : noS (svS mi a) = true := noS_t.mpr fun i hi => by
        cases e : svS mi a i with
        | false => rfl
        | true => exact absurd ⟨i, hi, e⟩ hc
      rw [this] at e0; cases e0
    obtain ⟨k, hk, hs⟩ := hne
    obtain ⟨rx, ex, x1, x2, x3⟩ := right_s (mi := mi) (ml := ml) h hn
    obtain ⟨ry, ey, y1, y2, y3⟩ := bottom_s (mi := mi) (ml := ml) h hn
    obtain ⟨u1, u2⟩ := mnX_sp (svS mi a) 256 (Nat.le_refl _)
    obtain ⟨v1, v2⟩ := mnY_sp (svS mi a) 256 (Nat.le_refl _)
    have k1 := x2 k hk hs
    have k2 := y2 k hk hs
    have k3 := u1 k hk hs
    have k4 := v1 k hk hs
    have off : ∀ j, j < 256 → svS mi a j = true → sIn z w j = false → sOff z w (svS mi a) = true := fun j hj hs hf => by
      cases e : sOff z w (svS mi a) with
      | true => rfl
      | false => rw [sOff_f.mp e j hj hs] at hf; cases hf
    rw [if_pos (show b2i false = 0 by decide), left_s h hn, bnd_s, ex, bnd_s, top_s h hn, bnd_s, ey, bnd_s]
    simp only []
    rw [iZ_nat, iZ_nat, iZ_add, iZ_add, iZ_add, iZ_add]
    obtain ⟨j1, a1, a2, a3⟩ : ∃ i, i < 256 ∧ svS mi a i = true ∧ i / 4 % 8 = mnX (svS mi a) 256 := by rcases u2 with q | q; omega; exact q
    obtain ⟨j2, b1, b2, b3⟩ : ∃ i, i < 256 ∧ svS mi a i = true ∧ i / 32 = mnY (svS mi a) 256 := by rcases v2 with q | q; omega; exact q
    obtain ⟨j3, c1, c2, c3⟩ : ∃ i, i < 256 ∧ svS mi a i = true ∧ i / 4 % 8 + 1 = rx := by rcases x3 with q | q; omega; exact q
    obtain ⟨j4, d1, d2, d3⟩ : ∃ i, i < 256 ∧ svS mi a i = true ∧ i / 32 + 1 = ry := by rcases y3 with q | q; omega; exact q
    by_cases t1 : (mnX (svS mi a) 256 : Int) + z < 0
    · rw [if_pos ((iZ_l0 (by omega) (by omega)).mpr t1), off j1 a1 a2 (by unfold sIn; apply decide_eq_false; omega)]; rfl
    rw [if_neg (fun q => t1 ((iZ_l0 (by omega) (by omega)).mp q))]
    by_cases t2 : (8 : Int) ≤ (rx : Int) - 1 + z
    · rw [if_pos (show (8 : Int32) ≤ iZ ((rx : Int) - 1 + z) from (iZ_le (a := 8) (by omega) (by omega) (by omega) (by omega)).mpr t2), off j3 c1 c2 (by unfold sIn; apply decide_eq_false; omega)]; rfl
    rw [if_neg (fun q : (8 : Int32) ≤ iZ ((rx : Int) - 1 + z) => t2 ((iZ_le (a := 8) (by omega) (by omega) (by omega) (by omega)).mp q))]
    by_cases t3 : (mnY (svS mi a) 256 : Int) + w < 0
    · rw [if_pos ((iZ_l0 (by omega) (by omega)).mpr t3), off j2 b1 b2 (by unfold sIn; apply decide_eq_false; omega)]; rfl
    rw [if_neg (fun q => t3 ((iZ_l0 (by omega) (by omega)).mp q))]
    by_cases t4 : (ry : Int) - 1 + w < 8
    · rw [if_pos (show iZ ((ry : Int) - 1 + w) < (8 : Int32) from (iZ_lt (b := 8) (by omega) (by omega) (by omega) (by omega)).mpr t4), sOff_f.mpr (fun i hi hs => by
        have := x2 i hi hs
        have := y2 i hi hs
        have := u1 i hi hs
        have := v1 i hi hs
        unfold sIn; apply decide_eq_true; omega)]; rfl
    · rw [if_neg (fun q : iZ ((ry : Int) - 1 + w) < (8 : Int32) => t4 ((iZ_lt (b := 8) (by omega) (by omega) (by omega) (by omega)).mp q)), off j4 d1 d2 (by unfold sIn; apply decide_eq_false; omega)]; rfl
end RWS
