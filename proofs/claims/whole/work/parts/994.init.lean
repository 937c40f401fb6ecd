/-! ===== the beginning ===== -/
def bA (M : MM) : Prop := ∀ c j, (M.1.2.1 c).1 = 102 → M.2.1 c j = 0 ∨ M.2.1 c j = 1
def PO (o : Option MM) : Prop := ∀ z, o = some z → bA z
theorem po_s {M : MM} (h : bA M) : PO (some M) := fun z e => by cases e; exact h
theorem po_M {a : MM} {f : MM → Option MM} (h : bA a) (hf : ∀ M, bA M → PO (f M)) : PO (nm a f) := hf a h
theorem po_N {a : Nat} {f : Nat → Option MM} (hf : ∀ a, PO (f a)) : PO (nm a f) := hf a
theorem po_b {x : Option MM} {f : MM → Option MM} (hx : PO x) (hf : ∀ M, bA M → PO (f M)) : PO (x.bind f) := fun z e => by
  cases x with
  | none => cases e
  | some M => exact hf M (hx M rfl) z e
theorem po_g {x : Option Nat} {f : Nat → Option MM} (hf : ∀ a, PO (f a)) : PO (x.bind f) := fun z e => by
  cases x with
  | none => cases e
  | some a => exact hf a z e
theorem po_p {x : Option (Int64 × MM)} {f : Int64 × MM → Option MM} {M : MM} (hx : ∀ z, x = some z → z.2 = M) (h : bA M) (hf : ∀ v M, bA M → PO (f (v, M))) : PO (x.bind f) := fun z e => by
  cases x with
  | none => cases e
  | some p =>
    have := hx p rfl
    exact hf p.1 p.2 (by rw [this]; exact h) z e
theorem bA_nw {kd len : Nat} {M : MM} (h : bA M) : bA (nwC kd len M) := fun c j q => by
  show (if c = rho M.1.1 then (fun _ => (0 : Int32)) else M.2.1 c) j = 0 ∨ (if c = rho M.1.1 then (fun _ => (0 : Int32)) else M.2.1 c) j = 1
  by_cases d : c = rho M.1.1
  · rw [if_pos d]; exact Or.inl rfl
  · rw [if_neg d]
    have q : (if c = rho M.1.1 then (kd, len) else M.1.2.1 c).1 = 102 := q
    rw [if_neg d] at q
    exact h c j q
theorem po_pR {ci k a r : Nat} {M : MM} (h : bA M) : PO (pR ci k a r M) := fun z e => by
  unfold pR at e
  split at e
  · cases e; exact h
  · cases e
theorem po_sR {kd ci a r : Nat} {i : Int32} {M : MM} (h : bA M) : PO (sR kd ci a i r M) := fun z e => by
  unfold sR at e
  split at e
  · cases e; exact h
  · cases e
theorem po_pL {ci k a : Nat} {v : Int64} {M : MM} (h : bA M) : PO (pL ci k a v M) := fun z e => by
  unfold pL at e
  split at e
  · cases e; exact h
  · cases e
theorem po_sL {a : Nat} {i : Int32} {v : Int64} {M : MM} (h : bA M) : PO (sL a i v M) := fun z e => by
  unfold sL at e
  split at e
  · cases e; exact h
  · cases e
theorem po_pI {ci k a : Nat} {v : Int32} {M : MM} (hc : ci ≠ 102) (h : bA M) : PO (pI ci k a v M) := fun z e => by
  unfold pI at e
  split at e
  · next hk =>
    cases e
    intro c j q
    have q : (M.1.2.1 c).1 = 102 := q
    show upd2 M.2.1 a k v c j = 0 ∨ upd2 M.2.1 a k v c j = 1
    rw [upd2_ne (fun d => by rw [d, hk] at q; exact hc q)]
    exact h c j q
  · cases e
theorem po_pZ {ci k a : Nat} {v : Int32} {M : MM} (hc : ci ≠ 102) (h : bA M) : PO (pZ ci k a v M) := fun z e => by
  unfold pZ at e
  split at e
  · next hk =>
    cases e
    intro c j q
    have q : (M.1.2.1 c).1 = 102 := q
    show upd2 M.2.1 a k v c j = 0 ∨ upd2 M.2.1 a k v c j = 1
    rw [upd2_ne (fun d => by rw [d, hk.1] at q; exact hc q)]
    exact h c j q
  · cases e
theorem po_sI {kd a : Nat} {i v : Int32} {M : MM} (hc : kd ≠ 102) (h : bA M) : PO (sI kd a i v M) := fun z e => by
  unfold sI at e
  split at e
  · next hk =>
    cases e
    intro c j q
    have q : (M.1.2.1 c).1 = 102 := q
    show upd2 M.2.1 a i.toNatClampNeg (nrw kd v) c j = 0 ∨ upd2 M.2.1 a i.toNatClampNeg (nrw kd v) c j = 1
    rw [upd2_ne (fun d => by rw [d, hk.1] at q; exact hc q)]
    exact h c j q
  · cases e
theorem bA_nG {N k : Nat} {M : MM} (h : bA M) : bA (nwG N k M) := fun c j q => by
  show (if M.1.1 ≤ pl c ∧ pl c < M.1.1 + 1 + N then (fun _ => (0 : Int32)) else M.2.1 c) j = 0 ∨ (if M.1.1 ≤ pl c ∧ pl c < M.1.1 + 1 + N then (fun _ => (0 : Int32)) else M.2.1 c) j = 1
  by_cases d : M.1.1 ≤ pl c ∧ pl c < M.1.1 + 1 + N
  · rw [if_pos d]; exact Or.inl rfl
  · rw [if_neg d]
    have q : (if pl c = M.1.1 then (106, N) else if M.1.1 < pl c ∧ pl c < M.1.1 + 1 + N then (100, k) else M.1.2.1 c).1 = 102 := q
    rw [if_neg (by omega), if_neg (by omega)] at q
    exact h c j q
theorem wl_M {n : Nat} {x : Int64} {y : Int32} {M : MM} : ∀ z, f_Tokens_withLetter n x y M = some z → z.2 = M := fun z e => by
  unfold f_Tokens_withLetter at e; cases e; rfl
theorem mo_M {n : Nat} {x : Int64} {y : Int32} {M : MM} : ∃ v, f_Mo_more n x y M = some (v, M) := by
  unfold f_Mo_more
  by_cases c : y = 0
  · exact ⟨x, by rw [if_pos c]⟩
  · exact ⟨_, by rw [if_neg c]⟩
theorem wd_M {n : Nat} {a b c d e f g : Int32} {M : MM} : ∀ z, f_Mo_word n a b c d e f g M = some z → z.2 = M := by
  intro z h
  unfold f_Mo_word at h
  obtain ⟨v1, h1⟩ := mo_M (n := n) (x := 0) (y := a) (M := M)
  rw [h1, bnd_s] at h
  obtain ⟨v2, h2⟩ := mo_M (n := n) (x := v1) (y := b) (M := M)
  rw [h2, bnd_s] at h
  obtain ⟨v3, h3⟩ := mo_M (n := n) (x := v2) (y := c) (M := M)
  rw [h3, bnd_s] at h
  obtain ⟨v4, h4⟩ := mo_M (n := n) (x := v3) (y := d) (M := M)
  rw [h4, bnd_s] at h
  obtain ⟨v5, h5⟩ := mo_M (n := n) (x := v4) (y := e) (M := M)
  rw [h5, bnd_s] at h
  obtain ⟨v6, h6⟩ := mo_M (n := n) (x := v5) (y := f) (M := M)
  rw [h6, bnd_s] at h
  obtain ⟨v7, h7⟩ := mo_M (n := n) (x := v6) (y := g) (M := M)
  rw [h7, bnd_s] at h
  cases h; rfl
theorem bi_Shape {n x0 : Nat} {M : MM} (h : bA M) : PO (f_Shape_init n x0 M) := by
  unfold f_Shape_init
  repeat (first
    | exact po_s (by assumption)
    | refine po_b (po_pR (by assumption)) (fun _ _ => ?_)
    | refine po_b (po_pI (by decide) (by assumption)) (fun _ _ => ?_)
    | refine po_b (po_pZ (by decide) (by assumption)) (fun _ _ => ?_)
    | refine po_b (po_sR (by assumption)) (fun _ _ => ?_)
    | refine po_b (po_sI (by decide) (by assumption)) (fun _ _ => ?_)
    | refine po_b (po_pL (by assumption)) (fun _ _ => ?_)
    | refine po_b (po_sL (by assumption)) (fun _ _ => ?_)
    | refine po_M (bA_nw (by assumption)) (fun _ _ => ?_)
    | refine po_M (bA_nG (by assumption)) (fun _ _ => ?_)
    | refine po_N (fun _ => ?_)
    | refine po_p wl_M (by assumption) (fun _ _ _ => ?_)
    | refine po_p wd_M (by assumption) (fun _ _ _ => ?_)
    | refine po_g (fun _ => ?_))
theorem bi_Form {n x0 : Nat} {M : MM} (h : bA M) : PO (f_Form_init n x0 M) := by
  unfold f_Form_init
  repeat (first
    | exact po_s (by assumption)
    | refine po_b (po_pR (by assumption)) (fun _ _ => ?_)
    | refine po_b (po_pI (by decide) (by assumption)) (fun _ _ => ?_)
    | refine po_b (po_pZ (by decide) (by assumption)) (fun _ _ => ?_)
    | refine po_b (po_sR (by assumption)) (fun _ _ => ?_)
    | refine po_b (po_sI (by decide) (by assumption)) (fun _ _ => ?_)
    | refine po_b (po_pL (by assumption)) (fun _ _ => ?_)
    | refine po_b (po_sL (by assumption)) (fun _ _ => ?_)
    | refine po_M (bA_nw (by assumption)) (fun _ _ => ?_)
    | refine po_M (bA_nG (by assumption)) (fun _ _ => ?_)
    | refine po_N (fun _ => ?_)
    | refine po_p wl_M (by assumption) (fun _ _ _ => ?_)
    | refine po_p wd_M (by assumption) (fun _ _ _ => ?_)
    | refine po_g (fun _ => ?_)
    | refine po_b (bi_Shape (by assumption)) (fun _ _ => ?_))
theorem bi_Tokens {n x0 : Nat} {M : MM} (h : bA M) : PO (f_Tokens_init n x0 M) := by
  unfold f_Tokens_init
  repeat (first
    | exact po_s (by assumption)
    | refine po_b (po_pR (by assumption)) (fun _ _ => ?_)
    | refine po_b (po_pI (by decide) (by assumption)) (fun _ _ => ?_)
    | refine po_b (po_pZ (by decide) (by assumption)) (fun _ _ => ?_)
    | refine po_b (po_sR (by assumption)) (fun _ _ => ?_)
    | refine po_b (po_sI (by decide) (by assumption)) (fun _ _ => ?_)
    | refine po_b (po_pL (by assumption)) (fun _ _ => ?_)
    | refine po_b (po_sL (by assumption)) (fun _ _ => ?_)
    | refine po_M (bA_nw (by assumption)) (fun _ _ => ?_)
    | refine po_M (bA_nG (by assumption)) (fun _ _ => ?_)
    | refine po_N (fun _ => ?_)
    | refine po_p wl_M (by assumption) (fun _ _ _ => ?_)
    | refine po_p wd_M (by assumption) (fun _ _ _ => ?_)
    | refine po_g (fun _ => ?_))
theorem bi_Syntax {n x0 : Nat} {M : MM} (h : bA M) : PO (f_Syntax_init n x0 M) := by
  unfold f_Syntax_init
  repeat (first
    | exact po_s (by assumption)
    | refine po_b (po_pR (by assumption)) (fun _ _ => ?_)
    | refine po_b (po_pI (by decide) (by assumption)) (fun _ _ => ?_)
    | refine po_b (po_pZ (by decide) (by assumption)) (fun _ _ => ?_)
    | refine po_b (po_sR (by assumption)) (fun _ _ => ?_)
    | refine po_b (po_sI (by decide) (by assumption)) (fun _ _ => ?_)
    | refine po_b (po_pL (by assumption)) (fun _ _ => ?_)
    | refine po_b (po_sL (by assumption)) (fun _ _ => ?_)
    | refine po_M (bA_nw (by assumption)) (fun _ _ => ?_)
    | refine po_M (bA_nG (by assumption)) (fun _ _ => ?_)
    | refine po_N (fun _ => ?_)
    | refine po_p wl_M (by assumption) (fun _ _ _ => ?_)
    | refine po_p wd_M (by assumption) (fun _ _ _ => ?_)
    | refine po_g (fun _ => ?_))
theorem bi_Meaning {n x0 : Nat} {M : MM} (h : bA M) : PO (f_Meaning_init n x0 M) := by
  unfold f_Meaning_init
  repeat (first
    | exact po_s (by assumption)
    | refine po_b (po_pR (by assumption)) (fun _ _ => ?_)
    | refine po_b (po_pI (by decide) (by assumption)) (fun _ _ => ?_)
    | refine po_b (po_pZ (by decide) (by assumption)) (fun _ _ => ?_)
    | refine po_b (po_sR (by assumption)) (fun _ _ => ?_)
    | refine po_b (po_sI (by decide) (by assumption)) (fun _ _ => ?_)
    | refine po_b (po_pL (by assumption)) (fun _ _ => ?_)
    | refine po_b (po_sL (by assumption)) (fun _ _ => ?_)
    | refine po_M (bA_nw (by assumption)) (fun _ _ => ?_)
    | refine po_M (bA_nG (by assumption)) (fun _ _ => ?_)
    | refine po_N (fun _ => ?_)
    | refine po_p wl_M (by assumption) (fun _ _ _ => ?_)
    | refine po_p wd_M (by assumption) (fun _ _ _ => ?_)
    | refine po_g (fun _ => ?_))
theorem bi_Builder {n x0 : Nat} {M : MM} (h : bA M) : PO (f_Builder_init n x0 M) := by
  unfold f_Builder_init
  repeat (first
    | exact po_s (by assumption)
    | refine po_b (po_pR (by assumption)) (fun _ _ => ?_)
    | refine po_b (po_pI (by decide) (by assumption)) (fun _ _ => ?_)
    | refine po_b (po_pZ (by decide) (by assumption)) (fun _ _ => ?_)
    | refine po_b (po_sR (by assumption)) (fun _ _ => ?_)
    | refine po_b (po_sI (by decide) (by assumption)) (fun _ _ => ?_)
    | refine po_b (po_pL (by assumption)) (fun _ _ => ?_)
    | refine po_b (po_sL (by assumption)) (fun _ _ => ?_)
    | refine po_M (bA_nw (by assumption)) (fun _ _ => ?_)
    | refine po_M (bA_nG (by assumption)) (fun _ _ => ?_)
    | refine po_N (fun _ => ?_)
    | refine po_p wl_M (by assumption) (fun _ _ _ => ?_)
    | refine po_p wd_M (by assumption) (fun _ _ _ => ?_)
    | refine po_g (fun _ => ?_)
    | refine po_b (bi_Tokens (by assumption)) (fun _ _ => ?_)
    | refine po_b (bi_Shape (by assumption)) (fun _ _ => ?_))
theorem bi_Measure {n x0 : Nat} {M : MM} (h : bA M) : PO (f_Measure_init n x0 M) := by
  unfold f_Measure_init
  repeat (first
    | exact po_s (by assumption)
    | refine po_b (po_pR (by assumption)) (fun _ _ => ?_)
    | refine po_b (po_pI (by decide) (by assumption)) (fun _ _ => ?_)
    | refine po_b (po_pZ (by decide) (by assumption)) (fun _ _ => ?_)
    | refine po_b (po_sR (by assumption)) (fun _ _ => ?_)
    | refine po_b (po_sI (by decide) (by assumption)) (fun _ _ => ?_)
    | refine po_b (po_pL (by assumption)) (fun _ _ => ?_)
    | refine po_b (po_sL (by assumption)) (fun _ _ => ?_)
    | refine po_M (bA_nw (by assumption)) (fun _ _ => ?_)
    | refine po_M (bA_nG (by assumption)) (fun _ _ => ?_)
    | refine po_N (fun _ => ?_)
    | refine po_p wl_M (by assumption) (fun _ _ _ => ?_)
    | refine po_p wd_M (by assumption) (fun _ _ _ => ?_)
    | refine po_g (fun _ => ?_)
    | refine po_b (bi_Shape (by assumption)) (fun _ _ => ?_))
theorem bi_Filler {n x0 : Nat} {M : MM} (h : bA M) : PO (f_Filler_init n x0 M) := by
  unfold f_Filler_init
  repeat (first
    | exact po_s (by assumption)
    | refine po_b (po_pR (by assumption)) (fun _ _ => ?_)
    | refine po_b (po_pI (by decide) (by assumption)) (fun _ _ => ?_)
    | refine po_b (po_pZ (by decide) (by assumption)) (fun _ _ => ?_)
    | refine po_b (po_sR (by assumption)) (fun _ _ => ?_)
    | refine po_b (po_sI (by decide) (by assumption)) (fun _ _ => ?_)
    | refine po_b (po_pL (by assumption)) (fun _ _ => ?_)
    | refine po_b (po_sL (by assumption)) (fun _ _ => ?_)
    | refine po_M (bA_nw (by assumption)) (fun _ _ => ?_)
    | refine po_M (bA_nG (by assumption)) (fun _ _ => ?_)
    | refine po_N (fun _ => ?_)
    | refine po_p wl_M (by assumption) (fun _ _ _ => ?_)
    | refine po_p wd_M (by assumption) (fun _ _ _ => ?_)
    | refine po_g (fun _ => ?_)
    | refine po_b (bi_Form (by assumption)) (fun _ _ => ?_)
    | refine po_b (bi_Shape (by assumption)) (fun _ _ => ?_))
theorem bi_Cutter {n x0 : Nat} {M : MM} (h : bA M) : PO (f_Cutter_init n x0 M) := by
  unfold f_Cutter_init
  repeat (first
    | exact po_s (by assumption)
    | refine po_b (po_pR (by assumption)) (fun _ _ => ?_)
    | refine po_b (po_pI (by decide) (by assumption)) (fun _ _ => ?_)
    | refine po_b (po_pZ (by decide) (by assumption)) (fun _ _ => ?_)
    | refine po_b (po_sR (by assumption)) (fun _ _ => ?_)
    | refine po_b (po_sI (by decide) (by assumption)) (fun _ _ => ?_)
    | refine po_b (po_pL (by assumption)) (fun _ _ => ?_)
    | refine po_b (po_sL (by assumption)) (fun _ _ => ?_)
    | refine po_M (bA_nw (by assumption)) (fun _ _ => ?_)
    | refine po_M (bA_nG (by assumption)) (fun _ _ => ?_)
    | refine po_N (fun _ => ?_)
    | refine po_p wl_M (by assumption) (fun _ _ _ => ?_)
    | refine po_p wd_M (by assumption) (fun _ _ _ => ?_)
    | refine po_g (fun _ => ?_)
    | refine po_b (bi_Shape (by assumption)) (fun _ _ => ?_)
    | refine po_b (bi_Form (by assumption)) (fun _ _ => ?_))
theorem bi_Table {n x0 : Nat} {M : MM} (h : bA M) : PO (f_Table_init n x0 M) := by
  unfold f_Table_init
  repeat (first
    | exact po_s (by assumption)
    | refine po_b (po_pR (by assumption)) (fun _ _ => ?_)
    | refine po_b (po_pI (by decide) (by assumption)) (fun _ _ => ?_)
    | refine po_b (po_pZ (by decide) (by assumption)) (fun _ _ => ?_)
    | refine po_b (po_sR (by assumption)) (fun _ _ => ?_)
    | refine po_b (po_sI (by decide) (by assumption)) (fun _ _ => ?_)
    | refine po_b (po_pL (by assumption)) (fun _ _ => ?_)
    | refine po_b (po_sL (by assumption)) (fun _ _ => ?_)
    | refine po_M (bA_nw (by assumption)) (fun _ _ => ?_)
    | refine po_M (bA_nG (by assumption)) (fun _ _ => ?_)
    | refine po_N (fun _ => ?_)
    | refine po_p wl_M (by assumption) (fun _ _ _ => ?_)
    | refine po_p wd_M (by assumption) (fun _ _ _ => ?_)
    | refine po_g (fun _ => ?_)
    | refine po_b (bi_Shape (by assumption)) (fun _ _ => ?_))
theorem bi_Book {n x0 : Nat} {M : MM} (h : bA M) : PO (f_Book_init n x0 M) := by
  unfold f_Book_init
  repeat (first
    | exact po_s (by assumption)
    | refine po_b (po_pR (by assumption)) (fun _ _ => ?_)
    | refine po_b (po_pI (by decide) (by assumption)) (fun _ _ => ?_)
    | refine po_b (po_pZ (by decide) (by assumption)) (fun _ _ => ?_)
    | refine po_b (po_sR (by assumption)) (fun _ _ => ?_)
    | refine po_b (po_sI (by decide) (by assumption)) (fun _ _ => ?_)
    | refine po_b (po_pL (by assumption)) (fun _ _ => ?_)
    | refine po_b (po_sL (by assumption)) (fun _ _ => ?_)
    | refine po_M (bA_nw (by assumption)) (fun _ _ => ?_)
    | refine po_M (bA_nG (by assumption)) (fun _ _ => ?_)
    | refine po_N (fun _ => ?_)
    | refine po_p wl_M (by assumption) (fun _ _ _ => ?_)
    | refine po_p wd_M (by assumption) (fun _ _ _ => ?_)
    | refine po_g (fun _ => ?_))
theorem bi_Q {n x0 : Nat} {M : MM} (h : bA M) : PO (f_Q_init n x0 M) := by
  unfold f_Q_init
  repeat (first
    | exact po_s (by assumption)
    | refine po_b (po_pR (by assumption)) (fun _ _ => ?_)
    | refine po_b (po_pI (by decide) (by assumption)) (fun _ _ => ?_)
    | refine po_b (po_pZ (by decide) (by assumption)) (fun _ _ => ?_)
    | refine po_b (po_sR (by assumption)) (fun _ _ => ?_)
    | refine po_b (po_sI (by decide) (by assumption)) (fun _ _ => ?_)
    | refine po_b (po_pL (by assumption)) (fun _ _ => ?_)
    | refine po_b (po_sL (by assumption)) (fun _ _ => ?_)
    | refine po_M (bA_nw (by assumption)) (fun _ _ => ?_)
    | refine po_M (bA_nG (by assumption)) (fun _ _ => ?_)
    | refine po_N (fun _ => ?_)
    | refine po_p wl_M (by assumption) (fun _ _ _ => ?_)
    | refine po_p wd_M (by assumption) (fun _ _ _ => ?_)
    | refine po_g (fun _ => ?_)
    | refine po_b (bi_Tokens (by assumption)) (fun _ _ => ?_)
    | refine po_b (bi_Syntax (by assumption)) (fun _ _ => ?_)
    | refine po_b (bi_Meaning (by assumption)) (fun _ _ => ?_)
    | refine po_b (bi_Builder (by assumption)) (fun _ _ => ?_)
    | refine po_b (bi_Measure (by assumption)) (fun _ _ => ?_)
    | refine po_b (bi_Filler (by assumption)) (fun _ _ => ?_)
    | refine po_b (bi_Cutter (by assumption)) (fun _ _ => ?_)
    | refine po_b (bi_Table (by assumption)) (fun _ _ => ?_)
    | refine po_b (bi_Book (by assumption)) (fun _ _ => ?_)
    | refine po_b (bi_Shape (by assumption)) (fun _ _ => ?_)
    | refine po_b (bi_Form (by assumption)) (fun _ _ => ?_))
theorem bi_Mo {n x0 : Nat} {M : MM} (h : bA M) : PO (f_Mo_init n x0 M) := by
  unfold f_Mo_init
  repeat (first
    | exact po_s (by assumption)
    | refine po_b (po_pR (by assumption)) (fun _ _ => ?_)
    | refine po_b (po_pI (by decide) (by assumption)) (fun _ _ => ?_)
    | refine po_b (po_pZ (by decide) (by assumption)) (fun _ _ => ?_)
    | refine po_b (po_sR (by assumption)) (fun _ _ => ?_)
    | refine po_b (po_sI (by decide) (by assumption)) (fun _ _ => ?_)
    | refine po_b (po_pL (by assumption)) (fun _ _ => ?_)
    | refine po_b (po_sL (by assumption)) (fun _ _ => ?_)
    | refine po_M (bA_nw (by assumption)) (fun _ _ => ?_)
    | refine po_M (bA_nG (by assumption)) (fun _ _ => ?_)
    | refine po_N (fun _ => ?_)
    | refine po_p wl_M (by assumption) (fun _ _ _ => ?_)
    | refine po_p wd_M (by assumption) (fun _ _ _ => ?_)
    | refine po_g (fun _ => ?_))
theorem bA_2 : bA M2i := by
  have h0 : bA Ms := fun c j _ => Or.inl rfl
  have h1 : bA M1i := bi_Q (bA_nw h0) _ M1i_ok
  exact bi_Mo (bA_nw h1) _ M2i_ok
