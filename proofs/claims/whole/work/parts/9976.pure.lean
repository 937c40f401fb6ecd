/-! ===== the codes run ===== -/
abbrev Sh : Type := Nat → Bool
def unC (o x y a b : Nat) : Sh := cu (fun i => decide ((x ≤ i / 4 % 8 ∧ i / 4 % 8 < x + (if o = 2 then a else 1)) ∧ (y ≤ i / 32 ∧ i / 32 < y + (if o = 2 then b else 1)) ∧ (o < 3 ∨ i % 4 = a ∨ (o = 3 ∧ i % 4 = (a + 1) % 4))))
def wdS (c : Cd) (S : Sh) : Nat ⊕ Sh := if c.1 = 5 then .inr (tuS false S) else if c.1 = 6 then .inr (tuS true S) else if c.1 = 7 then .inr (baC S) else if sOff c.2.1 c.2.2.1 S = true then .inl c.2.2.2.2.2 else .inr (shC c.2.1 c.2.2.1 S)
def opS (o : Nat) (b a : Sh) : Sh := cu (fun i => if o = 9 then b i || a i else if o = 10 then b i && !a i else b i && a i)
def mp (R : Nat ⊕ Sh) (p : List Sh) : Nat ⊕ List Sh := match R with
  | .inl q => .inl q
  | .inr a => .inr (a :: p)
def E0 : Sh := fun _ => false
def okc (K : Nat) (c : Cd) : Bool := decide ((c.1 = 0 → 0 ≤ c.2.1 ∧ c.2.1 < (K : Int)) ∧ (1 ≤ c.1 ∧ c.1 ≤ 4 → (0 ≤ c.2.1 ∧ c.2.1 ≤ 7) ∧ (0 ≤ c.2.2.1 ∧ c.2.2.1 ≤ 7) ∧ 0 ≤ c.2.2.2.1 ∧ 0 ≤ c.2.2.2.2.1 ∧ (c.1 = 2 → c.2.1 + c.2.2.2.1 ≤ 8 ∧ c.2.2.1 + c.2.2.2.2.1 ≤ 8) ∧ (3 ≤ c.1 → c.2.2.2.1 ≤ 3)) ∧ (c.1 = 8 → (-7 ≤ c.2.1 ∧ c.2.1 ≤ 7) ∧ -7 ≤ c.2.2.1 ∧ c.2.2.1 ≤ 7) ∧ c.1 ≤ 11)
def layV (E : List Sh) (c : Cd) : Sh := if c.1 = 0 then E.getD c.2.1.toNat E0 else unC c.1 c.2.1.toNat c.2.2.1.toNat c.2.2.2.1.toNat c.2.2.2.2.1.toNat
def stp (E : List Sh) (c : Cd) (p : List Sh) : Option (Nat ⊕ List Sh) :=
  if okc E.length c = false then none
  else if c.1 < 5 then (if p.length < 8 then some (.inr (layV E c :: p)) else none)
  else if c.1 < 9 then (match p with
    | [] => none
    | a :: p => some (mp (wdS c a) p))
  else (match p with
    | a :: b :: p => some (.inr (opS c.1 b a :: p))
    | _ => none)
def rn (E : List Sh) : List Cd → List Sh → Option (Nat ⊕ List Sh)
  | [], p => some (.inr p)
  | c :: C, p => match stp E c p with
    | none => none
    | some (.inl q) => some (.inl q)
    | some (.inr p') => rn E C p'
theorem rn_1 {E : List Sh} {D : List Cd} : ∀ {C : List Cd} {p p' : List Sh}, rn E C p = some (.inr p') → rn E (C ++ D) p = rn E D p'
  | [], p, p', h => by
    rw [rn] at h; cases h; rfl
  | c :: C, p, p', h => by
    rw [List.cons_append, rn]
    rw [rn] at h
    cases e : stp E c p with
    | none => rw [e] at h; cases h
    | some r =>
      cases r with
      | inl q => rw [e] at h; cases h
      | inr p1 => rw [e] at h; exact rn_1 h
theorem rn_2 {E : List Sh} {D : List Cd} : ∀ {C : List Cd} {p : List Sh} {q : Nat}, rn E C p = some (.inl q) → rn E (C ++ D) p = some (.inl q)
  | [], p, q, h => by rw [rn] at h; cases h
  | c :: C, p, q, h => by
    rw [List.cons_append, rn]
    rw [rn] at h
    cases e : stp E c p with
    | none => rw [e] at h; cases h
    | some r =>
      cases r with
      | inl q' => rw [e] at h; cases h; rfl
      | inr p1 => rw [e] at h; exact rn_2 h
def Pt (E : List Sh) (L : Nat) (P : List Cd) (R : Nat ⊕ Sh) : Prop := ∀ p, p.length ≤ L → rn E P p = some (mp R p)
def wds : List Cd → Sh → Nat ⊕ Sh
  | [], S => .inr S
  | c :: C, S => match wdS c S with
    | .inl q => .inl q
    | .inr S' => wds C S'
theorem rn_w {E : List Sh} {p : List Sh} : ∀ {C : List Cd} {S : Sh}, (∀ c ∈ C, (5 ≤ c.1 ∧ c.1 < 9) ∧ okc E.length c = true) → rn E C (S :: p) = some (mp (wds C S) p)
  | [], S, _ => rfl
  | c :: C, S, h => by
    have hc := h c List.mem_cons_self
    have e : stp E c (S :: p) = some (mp (wdS c S) p) := by unfold stp; rw [if_neg (by rw [hc.2]; decide), if_neg (by omega), if_pos hc.1.2]
    rw [rn, e, wds]
    cases wdS c S with
    | inl q => rfl
    | inr S' => exact rn_w (fun x hx => h x (List.mem_cons_of_mem _ hx))
theorem Pt_w {E : List Sh} {L : Nat} {P C : List Cd} {S : Sh} (h : Pt E L P (.inr S)) (hC : ∀ c ∈ C, (5 ≤ c.1 ∧ c.1 < 9) ∧ okc E.length c = true) : Pt E L (P ++ C) (wds C S) := fun p hp => by
  rw [rn_1 (h p hp), rn_w hC]
theorem Pt_l {E : List Sh} {L q : Nat} {P C : List Cd} (h : Pt E L P (.inl q)) : Pt E L (P ++ C) (.inl q) := fun p hp => by
  rw [rn_2 (h p hp)]; rfl
theorem Pt_m {E : List Sh} {L L' : Nat} {P : List Cd} {R : Nat ⊕ Sh} (h : Pt E L P R) (hl : L' ≤ L) : Pt E L' P R := fun p hp => h p (by omega)
/-- two parts and the sign between -/
theorem Pt_o {E : List Sh} {L : Nat} {P Q : List Cd} {S : Sh} {R : Nat ⊕ Sh} {c : Cd} (h : Pt E L P (.inr S)) (h2 : Pt E (L + 1) Q R) (hc : 9 ≤ c.1 ∧ c.1 ≤ 11) : Pt E L (P ++ Q ++ [c]) (match R with
    | .inl q => .inl q
    | .inr B => .inr (opS c.1 S B)) := fun p hp => by
  have e1 : rn E (P ++ Q) p = some (mp R (S :: p)) := by rw [rn_1 (h p hp)]; exact h2 _ (by rw [List.length_cons]; omega)
  cases R with
  | inl q => rw [rn_2 e1]; rfl
  | inr B =>
    rw [rn_1 e1]
    show rn E [c] (B :: S :: p) = _
    have e : stp E c (B :: S :: p) = some (.inr (opS c.1 S B :: p)) := by
      have ho : okc E.length c = true := by unfold okc; rw [decide_eq_true_iff]; omega
      unfold stp; rw [if_neg (by rw [ho]; decide), if_neg (by omega), if_neg (by omega)]
    rw [rn, e]; rfl
theorem cO_ws : ∀ (ws W : List Wt) (C : List Cd), (∀ w ∈ ws, w.1 ≠ 40) → cO (ws ++ W) C = cO W (C ++ ws.map wC)
  | [], W, C, _ => by simp
  | w :: ws, W, C, h => by
    rw [List.cons_append, cO, if_neg (h w List.mem_cons_self), cO_ws ws W _ (fun x hx => h x (List.mem_cons_of_mem _ hx)), List.map_cons, List.append_assoc]; rfl
theorem cO_hd {W : List Wt} {C : List Cd} (h : hdW W) : cO W C = (W, C) := by
  rcases h with h | ⟨w, W', h, h40⟩
  · rw [h]; rfl
  · rw [h, cO, if_pos h40]
/-! ===== what a well-formed text has, token by token ===== -/
def nv (k v : Nat → Nat) (i : Nat) : Int := if k i = 45 then -(v (i + 1) : Int) else (v i : Int)
def bh (k : Nat → Nat) (i : Nat) : Nat := if k i = 45 then i + 2 else i + 1
def wt (k v p : Nat → Nat) (q : Nat) : Wt := if k q = 15 then (15, nv k v (q + 1), nv k v (bh k (q + 1)), p q) else (k q, 0, 0, p q)
def nxw (k : Nat → Nat) (q : Nat) : Nat := if k q = 15 then bh k (bh k (q + 1)) else q + 1
def AL (k : Nat → Nat) (e : Nat) : Prop := ∃ s, Au k e = some s ∧ s.1 = 0
section PUR
variable {k v u p : Nat → Nat} {t e i q : Nat} {s : SyS} {r : Nat × Nat × Nat}
theorem AL_n (h : AL k e) (hA : Au k t = some s) (h0 : s.1 ≠ 0) (ht : t ≤ e) : t + 1 ≤ e ∧ ∃ s', Au k (t + 1) = some s' ∧ nx s (k t) = some s' := by
  obtain ⟨sz, hz, hz0⟩ := h
  have hne : t ≠ e := fun q => by rw [q, hz] at hA; cases hA; exact h0 hz0
  have h1 : t + 1 ≤ e := by omega
  obtain ⟨s', hs'⟩ := Option.ne_none_iff_exists'.mp (Au_d (j := t + 1) (by rw [hz]; intro q; cases q) h1)
  obtain ⟨s0, e1, e2, _⟩ := Au_b hs'
  rw [hA] at e1
  cases e1
  exact ⟨h1, s', hs', e2⟩
theorem v_7 (hm : mf k v u i = 0) (hk : k i = 3) (hw : (mW k v i).2.1 < 2) : v i ≤ 7 := by
  unfold mf at hm
  rw [if_neg (by omega), if_pos hk] at hm
  by_cases c : nF (mW k v i) (v i) = true
  · rw [if_pos c] at hm; omega
  · unfold nF at c
    rw [decide_eq_true_iff, if_pos hw] at c
    omega
theorem num_S (h : AL k e) (hm : ∀ j, j < e → mf k v u j = 0) (hA : Au k i = some (4, q, r)) (hi : i ≤ e) (h0 : 0 < i) (hpre : k (i - 1) ≠ 45) (hw : (mW k v i).2.1 < 2) : i < bh k i ∧ bh k i ≤ e ∧ k (bh k i - 1) = 3 ∧ Au k (bh k i) = some (if 1 < q then 4 else 3, q - 1, r) ∧ (-7 ≤ nv k v i ∧ nv k v i ≤ 7) ∧ sgV k v (bh k i - 1) = nv k v i ∧ pbk k (bh k i - 1) = i - 1 ∧ Xm k v u p (bh k i - 1) = Xm k v u p i ∧ (Au k (bh k i - 1) = some (4, q, r) ∨ Au k (bh k i - 1) = some (5, q, r)) ∧ (mW k v (bh k i)).2.1 = (mW k v i).2.1 + 1 ∧ (k i = 45 → k (i + 1) = 3) ∧ (k i = 45 ∨ k i = 3) := by
  obtain ⟨h1, s', e1, e2⟩ := AL_n h hA (by simp) hi
  have hc := nx_c e2
  simp only [] at hc
  by_cases d : k i = 45
  · have es : s' = (5, q, r) := by
      rw [d] at e2
      simp [nx] at e2
      exact e2.symm
    subst es
    obtain ⟨h2, s2, e3, e4⟩ := AL_n h e1 (by simp) h1
    have hc2 := nx_c e4
    simp only [] at hc2
    have k3 : k (i + 1) = 3 := by omega
    rw [k3] at e4
    simp [nx] at e4
    have eb : bh k i = i + 1 + 1 := by unfold bh; rw [if_pos d]
    have mwe : mW k v (i + 1) = mW k v i := by rw [mW, if_neg (by omega), if_neg (by omega)]
    have hv := v_7 (hm (i + 1) (by omega)) k3 (by rw [mwe]; exact hw)
    have en : nv k v i = -(v (i + 1) : Int) := by unfold nv; rw [if_pos d]
    rw [eb, en, show i + 1 + 1 - 1 = i + 1 by omega]
    refine ⟨by omega, h2, k3, by rw [e3, ← e4], by omega, ?_, ?_, ?_, Or.inr e1, ?_, fun _ => k3, Or.inl d⟩
    · unfold sgV; rw [show i + 1 - 1 = i by omega, if_pos d]
    · unfold pbk; rw [show i + 1 - 1 = i by omega, if_pos d]; omega
    · rw [Xm_s hA]; simp [xs, d]
    · rw [mW_3 k3, mwe]
  · have k3 : k i = 3 := by omega
    rw [k3] at e2
    simp [nx] at e2
    have eb : bh k i = i + 1 := by unfold bh; rw [if_neg d]
    have hv := v_7 (hm i (by omega)) k3 hw
    have en : nv k v i = (v i : Int) := by unfold nv; rw [if_neg d]
    rw [eb, en, show i + 1 - 1 = i by omega]
    refine ⟨by omega, h1, k3, by rw [e1, ← e2], by omega, ?_, ?_, rfl, Or.inl hA, ?_, fun q => absurd q d, Or.inr k3⟩
    · unfold sgV; rw [if_neg hpre]
    · unfold pbk; rw [if_neg hpre]
    · rw [mW_3 k3]
/-- over a word -/
theorem word_S (h : AL k e) (hm : ∀ j, j < e → mf k v u j = 0) (hA : Au k t = some s) (h3 : s.1 = 3) (ht : t ≤ e) (hk : 12 ≤ k t ∧ k t ≤ 15) : t < nxw k t ∧ nxw k t ≤ e ∧ (∃ lf, Au k (nxw k t) = some (3, lf, s.2.2)) ∧ Xm k v u p (nxw k t) = (wt k v p t :: (Xm k v u p t).1, (Xm k v u p t).2) ∧ (k t = 15 → (-7 ≤ nv k v (t + 1) ∧ nv k v (t + 1) ≤ 7) ∧ (-7 ≤ nv k v (bh k (t + 1)) ∧ nv k v (bh k (t + 1)) ≤ 7) ∧ t + 1 < bh k (t + 1) ∧ bh k (t + 1) < e ∧ (k (t + 1) = 45 → k (t + 1 + 1) = 3) ∧ (k (t + 1) = 45 ∨ k (t + 1) = 3) ∧ (k (bh k (t + 1)) = 45 → k (bh k (t + 1) + 1) = 3) ∧ (k (bh k (t + 1)) = 45 ∨ k (bh k (t + 1)) = 3)) := by
  obtain ⟨h1, s', e1, e2⟩ := AL_n h hA (by omega) ht
  by_cases d : k t = 15
  · have es : s' = (4, 2, s.2.2) := by
      rw [d] at e2
      simp [nx, h3] at e2
      exact e2.symm
    subst es
    have w1 : (mW k v (t + 1)).2.1 = 0 := by rw [mW, if_pos (by omega)]
    have X1 : Xm k v u p (t + 1) = Xm k v u p t := by rw [Xm_s hA]; simp [xs, h3, d]
    obtain ⟨a1, a2, a3, a4, a5, a6, a7, a8, a9, a10, a11, a12⟩ := num_S (v := v) (u := u) (p := p) h hm e1 h1 (by omega) (by rw [show t + 1 - 1 = t by omega]; omega) (by omega)
    have a4 : Au k (bh k (t + 1)) = some (4, 1, s.2.2) := by simpa using a4
    have X2 : Xm k v u p (bh k (t + 1)) = Xm k v u p t := by
      have e : bh k (t + 1) = bh k (t + 1) - 1 + 1 := by omega
      have r : Xm k v u p (bh k (t + 1) - 1 + 1) = Xm k v u p t := by
        rcases a9 with a9 | a9
        · rw [Xm_s a9, a8, X1]; simp [xs]
        · rw [Xm_s a9, a8, X1]; simp [xs]
      rw [← e] at r
      exact r
    obtain ⟨b1, b2, b3, b4, b5, b6, b7, b8, b9, b10, b11, b12⟩ := num_S (v := v) (u := u) (p := p) h hm a4 a2 (by omega) (by omega) (by omega)
    have b4 : Au k (bh k (bh k (t + 1))) = some (3, 0, s.2.2) := by simpa using b4
    have en : nxw k t = bh k (bh k (t + 1)) := by unfold nxw; rw [if_pos d]
    have ew : wt k v p t = (15, nv k v (t + 1), nv k v (bh k (t + 1)), p t) := by unfold wt; rw [if_pos d]
    have X3 : Xm k v u p (bh k (bh k (t + 1))) = (wt k v p t :: (Xm k v u p t).1, (Xm k v u p t).2) := by
      have e : bh k (bh k (t + 1)) = bh k (bh k (t + 1)) - 1 + 1 := by omega
      have a7 : pbk k (bh k (t + 1) - 1) = t := by rw [a7]; omega
      have r : Xm k v u p (bh k (bh k (t + 1)) - 1 + 1) = (wt k v p t :: (Xm k v u p t).1, (Xm k v u p t).2) := by
        rcases b9 with b9 | b9
        · rw [Xm_s b9, b8, X2, ew]; simp [xs, b3, b7, a7, a6, b6]
        · rw [Xm_s b9, b8, X2, ew]; simp [xs, b3, b7, a7, a6, b6]
      rw [← e] at r
      exact r
    rw [en]
    exact ⟨by omega, b2, ⟨0, b4⟩, X3, fun _ => ⟨a5, b5, a1, by omega, a11, a12, b11, b12⟩⟩
  · have en : nxw k t = t + 1 := by unfold nxw; rw [if_neg d]
    have ew : wt k v p t = (k t, 0, 0, p t) := by unfold wt; rw [if_neg d]
    have es : s' = (3, s.2) := by
      have hc := nx_c e2
      rcases (show k t = 12 ∨ k t = 13 ∨ k t = 14 by omega) with g | g | g <;> (rw [g] at e2; simp [nx, h3] at e2; exact e2.symm)
    subst es
    rw [en, ew]
    refine ⟨by omega, h1, ⟨s.2.1, e1⟩, ?_, fun q => absurd q d⟩
    rw [Xm_s hA]
    unfold xs
    rw [if_pos h3, if_pos (by omega)]
theorem six_S (h : AL k e) (hA : Au k i = some (6, q, r)) (hi : i ≤ e) : i + 1 ≤ e ∧ k i = 3 ∧ Au k (i + 1) = some (if 1 < q then 6 else 7, q - 1, r) := by
  obtain ⟨h1, s', e1, e2⟩ := AL_n h hA (by simp) hi
  have hc := nx_c e2
  simp only [] at hc
  have k3 : k i = 3 := by omega
  rw [k3] at e2
  simp [nx] at e2
  exact ⟨h1, k3, by rw [e1, ← e2]⟩
theorem mf_n (hm : mf k v u i = 0) (hk : k i = 3) : ¬ nF (mW k v i) (v i) = true := fun c => by
  unfold mf at hm
  rw [if_neg (by omega), if_pos hk, if_pos c] at hm
  omega
/-- over cells -/
theorem cells_S (h : AL k e) (hm : ∀ j, j < e → mf k v u j = 0) (hA : Au k t = some s) (h3 : s.1 = 3) (ht : t ≤ e) (hk : 16 ≤ k t ∧ k t ≤ 19) : ∃ t', t' = t + (if k t = 16 then 3 else if k t = 17 then 5 else 4) ∧ t' ≤ e ∧ Au k t' = some (7, 0, s.2.2) ∧ Xm k v u p t' = ((cO (Xm k v u p t).1 ((Xm k v u p t).2.1 ++ [uCd k v t])).1, (cO (Xm k v u p t).1 ((Xm k v u p t).2.1 ++ [uCd k v t])).2, (Xm k v u p t).2.2) ∧ (k (t + 1) = 3 ∧ k (t + 2) = 3 ∧ (k t ≠ 16 → k (t + 3) = 3) ∧ (k t = 17 → k (t + 4) = 3)) ∧ v (t + 1) ≤ 7 ∧ v (t + 2) ≤ 7 ∧ (k t = 17 → (1 ≤ v (t + 3) ∧ v (t + 1) + v (t + 3) ≤ 8) ∧ 1 ≤ v (t + 4) ∧ v (t + 2) + v (t + 4) ≤ 8) ∧ (18 ≤ k t → v (t + 3) ≤ 3) := by
  obtain ⟨h1, s', e1, e2⟩ := AL_n h hA (by omega) ht
  obtain ⟨q, hq, hs'⟩ : ∃ q, (q = if k t = 16 then 2 else if k t = 17 then 4 else 3) ∧ s' = (6, q, s.2.2) := by
    refine ⟨_, rfl, ?_⟩
    obtain d | d | d | d : k t = 16 ∨ k t = 17 ∨ k t = 18 ∨ k t = 19 := by omega
    · rw [d] at e2; simp [nx, h3] at e2; simp [d, ← e2]
    · rw [d] at e2; simp [nx, h3] at e2; simp [d, ← e2]
    · rw [d] at e2; simp [nx, h3] at e2; simp [d, ← e2]
    · rw [d] at e2; simp [nx, h3] at e2; simp [d, ← e2]
  subst hs'
  have hq2 : 2 ≤ q := by rw [hq]; split <;> (try split) <;> omega
  have w1 : mW k v (t + 1) = (k t, 0, (mW k v t).2.2) := by rw [mW, if_pos (by omega)]
  have X1 : Xm k v u p (t + 1) = Xm k v u p t := by rw [Xm_s hA]; unfold xs; rw [if_pos h3, if_neg (by omega), if_neg (by omega), if_neg (by omega)]
  obtain ⟨h2, k1, A2⟩ := six_S h e1 h1
  rw [if_pos (by omega)] at A2
  have v1 := v_7 (hm (t + 1) (by omega)) k1 (by rw [w1]; show 0 < 2; omega)
  have w2 : mW k v (t + 1 + 1) = (k t, 1, v (t + 1), (mW k v t).2.2.2) := by rw [mW_3 k1, w1]; rfl
  have X2 : Xm k v u p (t + 1 + 1) = Xm k v u p t := ((Xm_s e1).trans (xs_6 (show q ≠ 1 by omega))).trans X1
  obtain ⟨h3', k2, A3⟩ := six_S h A2 h2
  have v2 := v_7 (hm (t + 1 + 1) (by omega)) k2 (by rw [w2]; show 1 < 2; omega)
  have w3 : mW k v (t + 1 + 1 + 1) = (k t, 2, v (t + 1), v (t + 2)) := by rw [mW_3 k2, w2]; rfl
  by_cases d16 : k t = 16
  · have hq2 : q = 2 := by rw [hq, if_pos d16]
    rw [hq2] at A2 A3
    have X3 := (Xm_s (v := v) (u := u) (p := p) A2).trans (xs_61 k2)
    rw [show uIx k (t + 1 + 1) = t by unfold uIx; rw [if_pos (by rw [show t + 1 + 1 - 2 = t by omega]; exact d16)]; omega, X2] at X3
    refine ⟨t + 1 + 1 + 1, by rw [if_pos d16], h3', by simpa using A3, X3, ⟨k1, k2, fun q => absurd d16 q, fun q => by omega⟩, v1, v2, fun q => by omega, fun q => by omega⟩
  have hq3 : q = 3 ∨ q = 4 := by rw [hq, if_neg d16]; split <;> omega
  rw [if_pos (by omega)] at A3
  have X3 : Xm k v u p (t + 1 + 1 + 1) = Xm k v u p t := ((Xm_s A2).trans (xs_6 (show q - 1 ≠ 1 by omega))).trans X2
  obtain ⟨h4, k3, A4⟩ := six_S h A3 h3'
  have n3 := mf_n (hm (t + 1 + 1 + 1) (by omega)) k3
  rw [w3] at n3
  unfold nF at n3
  rw [decide_eq_true_iff] at n3
  simp only [] at n3
  rw [if_neg (by omega)] at n3
  by_cases d17 : k t = 17
  · have hq4 : q = 4 := by rw [hq, if_neg d16, if_pos d17]
    subst hq4
    have A4 : Au k (t + 1 + 1 + 1 + 1) = some (6, 1, s.2.2) := by simpa using A4
    rw [if_pos d17, if_pos trivial] at n3
    have w4 : mW k v (t + 1 + 1 + 1 + 1) = (k t, 3, v (t + 1), v (t + 2)) := by rw [mW_3 k3, w3]; rfl
    have X4 : Xm k v u p (t + 1 + 1 + 1 + 1) = Xm k v u p t := ((Xm_s A3).trans (xs_6 (show 4 - 1 - 1 ≠ 1 by omega))).trans X3
    obtain ⟨h5, k4, A5⟩ := six_S h A4 h4
    have n4 := mf_n (hm (t + 1 + 1 + 1 + 1) (by omega)) k4
    rw [w4] at n4
    unfold nF at n4
    rw [decide_eq_true_iff] at n4
    simp only [] at n4
    rw [if_neg (by omega), if_pos d17, if_neg (by omega)] at n4
    have X5 := (Xm_s (v := v) (u := u) (p := p) A4).trans (xs_61 k4)
    rw [show uIx k (t + 1 + 1 + 1 + 1) = t by unfold uIx; rw [if_neg (by rw [show t + 1 + 1 + 1 + 1 - 2 = t + 1 + 1 by omega]; omega), if_neg (by rw [show t + 1 + 1 + 1 + 1 - 3 = t + 1 by omega]; omega)]; omega, X4] at X5
    have r3 : v (t + 1 + 1 + 1) = v (t + 3) := rfl
    have r4 : v (t + 1 + 1 + 1 + 1) = v (t + 4) := rfl
    refine ⟨t + 1 + 1 + 1 + 1 + 1, by rw [if_neg d16, if_pos d17], h5, by simpa using A5, X5, ⟨k1, k2, fun _ => k3, fun _ => k4⟩, v1, v2, fun _ => by omega, fun q => by omega⟩
  · have hq4 : q = 3 := by rw [hq, if_neg d16, if_neg d17]
    subst hq4
    rw [if_neg d17] at n3
    have X4 := (Xm_s (v := v) (u := u) (p := p) A3).trans (xs_61 k3)
    rw [show uIx k (t + 1 + 1 + 1) = t by unfold uIx; rw [if_neg (by rw [show t + 1 + 1 + 1 - 2 = t + 1 by omega]; omega), if_pos (by rw [show t + 1 + 1 + 1 - 3 = t by omega]; omega)]; omega, X3] at X4
    have r3 : v (t + 1 + 1 + 1) = v (t + 3) := rfl
    refine ⟨t + 1 + 1 + 1 + 1, by rw [if_neg d16, if_neg d17], h4, by simpa using A4, X4, ⟨k1, k2, fun _ => k3, fun q => absurd q d17⟩, v1, v2, fun q => absurd q d17, fun _ => by omega⟩
/-- over a name -/
theorem name_S (h : AL k e) (hm : ∀ j, j < e → mf k v u j = 0) (hA : Au k t = some s) (h3 : s.1 = 3) (ht : t ≤ e) (hk : k t = 2) : t + 1 ≤ e ∧ Au k (t + 1) = some (7, s.2) ∧ (∃ j, fdN k u t = some j ∧ fdI k u t = (j : Int)) ∧ Xm k v u p (t + 1) = ((cO (Xm k v u p t).1 ((Xm k v u p t).2.1 ++ [(0, fdI k u t, 0, 0, 0, 0)])).1, (cO (Xm k v u p t).1 ((Xm k v u p t).2.1 ++ [(0, fdI k u t, 0, 0, 0, 0)])).2, (Xm k v u p t).2.2) := by
  obtain ⟨h1, s', e1, e2⟩ := AL_n h hA (by omega) ht
  have es : s' = (7, s.2) := by
    rw [hk] at e2
    simp [nx, h3] at e2
    exact e2.symm
  subst es
  refine ⟨h1, e1, ?_, by rw [Xm_s hA]; simp [xs, h3, hk]⟩
  have hno : ¬ tell k t = true := fun q => by have := (Au_t hA).1.mp q; omega
  have hmf := hm t (by omega)
  unfold mf told at hmf
  rw [if_pos hk, if_neg hno] at hmf
  cases e3 : fdN k u t with
  | none => rw [e3] at hmf; simp at hmf
  | some j => exact ⟨j, rfl, by rw [fdI_fo, e3]; rfl⟩
end PUR
