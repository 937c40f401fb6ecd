/-! ===== the class: a Form and its IMAGES ===== -/
theorem smS_comm (S T : Nat → Bool) : smS S T = smS T S := by
  have h : smS S T = true ↔ smS T S = true := by
    rw [smS_iff, smS_iff]
    exact ⟨fun h i hi => (h i hi).symm, fun h i hi => (h i hi).symm⟩
  cases h1 : smS S T <;> cases h2 : smS T S <;> simp_all
theorem fnd_snoc (P : Nat → Bool) (c d : Nat) : (fnd P (c + 1) 0).getD d = (fnd P c 0).getD (if P c = true then c else d) := by
  cases h : fnd P c 0 with
  | some k =>
    obtain ⟨h1, h2, h3, h4⟩ := fnd_some h
    rw [fnd_eq h1 (by omega) h3 h4]; rfl
  | none =>
    have h0 := fnd_none.mp h
    by_cases q : P c = true
    · rw [fnd_eq (k := c) (by omega) (by omega) q (fun j a b => h0 j a (by omega)), if_pos q]; rfl
    · rw [fnd_none.mpr (fun j a b => by
        by_cases e : j = c
        · rw [e]; cases hp : P c with | false => rfl | true => exact absurd hp q
        · exact h0 j a (by omega)), if_neg q]
/-- what a Form holds of its first IMAGES -/
def FoI (mi : IM) (a g : Nat) (S : Nat → Bool) : Prop := svS mi (a + 1) = S ∧ ∀ k, k < g → svS mi (a + 8 + 2 * k) = imS k S ∧ loS (imS k S) (mi (a + 4) k) ∧ (∃ r, mi (a + 5) k = nI r ∧ mxX (imS k S) r) ∧ (∃ r, mi (a + 6) k = nI r ∧ mxY (imS k S) r) ∧ mi (a + 7) k = nI (lsG S k)
section FRM
variable {n a g : Nat} {mi : IM} {ml : JM} {S : Nat → Bool}
theorem im_ref (hf : isFo a) (hg : g < 8) : aR 104 (a + 3) (nI g) (K mi ml) = some (a + 8 + 2 * g) := aR_K hf.2.2.2.2.2.2.2.1 (by omega) hg (hf.2.2.2.2.2.2.2.2.2.2.2.2.2 g hg).1
theorem im_sh (hf : isFo a) (hg : g < 8) : isSh (a + 8 + 2 * g) := (hf.2.2.2.2.2.2.2.2.2.2.2.2.2 g hg).2
theorem told_sh (hf : isFo a) : isSh (a + 1) := hf.2.2.2.2.2.2.2.2.2.2.2.2.1
theorem fo_0 (hf : isFo a) : gR 4 0 a (K mi ml) = some (a + 1) := gR_K hf.1 hf.2.1
theorem fo_1 (hf : isFo a) : gR 4 1 a (K mi ml) = some (a + 3) := gR_K hf.1 hf.2.2.1
theorem fo_2 (hf : isFo a) : gR 4 2 a (K mi ml) = some (a + 4) := gR_K hf.1 hf.2.2.2.1
theorem fo_3 (hf : isFo a) : gR 4 3 a (K mi ml) = some (a + 5) := gR_K hf.1 hf.2.2.2.2.1
theorem fo_4 (hf : isFo a) : gR 4 4 a (K mi ml) = some (a + 6) := gR_K hf.1 hf.2.2.2.2.2.1
theorem fo_5 (hf : isFo a) : gR 4 5 a (K mi ml) = some (a + 7) := gR_K hf.1 hf.2.2.2.2.2.2.1
theorem st_4 (hf : isFo a) (hg : g < 8) {v : Int32} : sI 100 (a + 4) (nI g) v (K mi ml) = some (K (upd2 mi (a + 4) g v) ml) := sI_K hf.2.2.2.2.2.2.2.2.1 (by omega) hg
theorem st_5 (hf : isFo a) (hg : g < 8) {v : Int32} : sI 100 (a + 5) (nI g) v (K mi ml) = some (K (upd2 mi (a + 5) g v) ml) := sI_K hf.2.2.2.2.2.2.2.2.2.1 (by omega) hg
theorem st_6 (hf : isFo a) (hg : g < 8) {v : Int32} : sI 100 (a + 6) (nI g) v (K mi ml) = some (K (upd2 mi (a + 6) g v) ml) := sI_K hf.2.2.2.2.2.2.2.2.2.2.1 (by omega) hg
theorem st_7 (hf : isFo a) (hg : g < 8) {v : Int32} : sI 100 (a + 7) (nI g) v (K mi ml) = some (K (upd2 mi (a + 7) g v) ml) := sI_K hf.2.2.2.2.2.2.2.2.2.2.2.1 (by omega) hg
theorem ld_5 (hf : isFo a) (hg : g < 8) : aI 100 (a + 5) (nI g) (K mi ml) = some (mi (a + 5) g) := aI_K hf.2.2.2.2.2.2.2.2.2.1 (by omega) hg
theorem ld_6 (hf : isFo a) (hg : g < 8) : aI 100 (a + 6) (nI g) (K mi ml) = some (mi (a + 6) g) := aI_K hf.2.2.2.2.2.2.2.2.2.2.1 (by omega) hg
theorem ld_7 (hf : isFo a) (hg : g < 8) : aI 100 (a + 7) (nI g) (K mi ml) = some (mi (a + 7) g) := aI_K hf.2.2.2.2.2.2.2.2.2.2.2.1 (by omega) hg
theorem sv_of {mi' : IM} {b : Nat} (h : mi' (b + 1) = mi (b + 1)) : svS mi' b = svS mi b := by unfold svS; rw [h]
theorem dn_1 (i : Nat) : iZ ((i : Int) - 1) = nI i + -1 := by
  rw [iZ_nat, show (-1 : Int32) = iZ (-1) from rfl]
  unfold iZ
  rw [← Int32.ofInt_add]
  rfl
theorem up_1 (i : Nat) : iZ ((i : Int) - 1) + 1 = nI i := by
  rw [iZ_nat, show (1 : Int32) = iZ 1 from rfl, iZ_add]
  congr 1
  omega
theorem same_loop (hf : isFo a) (hg : g < 8) (hn : 8 < n) (him : ∀ k, k < g + 1 → svS mi (a + 8 + 2 * k) = imS k S) : ∀ m i d (s : IM), i ≤ g → i < m → (∀ c, c ≠ a + 7 → s c = mi c) → s (a + 7) g = nI d → ∃ s', f_Form_makeImage_99 n m a (nI g) (a + 8 + 2 * g) (iZ ((i : Int) - 1)) (K s ml) = some (K s' ml) ∧ (∀ c, c ≠ a + 7 → s' c = mi c) ∧ (∀ k, k ≠ g → s' (a + 7) k = s (a + 7) k) ∧ s' (a + 7) g = nI ((fnd (fun k => smS (imS g S) (imS k S)) i 0).getD d) := by
  intro m
  induction m with
  | zero => intro i d s h1 h2; omega
  | succ m ih =>
    intro i d s h1 h2 hs hd
    cases i with
    | zero =>
      rw [f_Form_makeImage_99, if_pos (by decide)]
      exact ⟨s, rfl, hs, fun k hk => rfl, hd⟩
    | succ i =>
      rw [show (((i + 1 : Nat) : Int) - 1) = (i : Int) by omega, ← iZ_nat, f_Form_makeImage_99, if_neg (nI_pos (by omega)), fo_1 hf, bnd_s, im_ref hf (by omega), bnd_s, isSame_s (im_sh hf (by omega)) (im_sh hf hg) hn, bnd_s]
      have e1 : svS s (a + 8 + 2 * i) = imS i S := by rw [← him i (by omega)]; exact sv_of (hs _ (by omega))
      have e2 : svS s (a + 8 + 2 * g) = imS g S := by rw [← him g (by omega)]; exact sv_of (hs _ (by omega))
      rw [e1, e2, smS_comm, fnd_snoc]
      unfold f_Form_makeImage_123
      rw [← dn_1]
      cases q : smS (imS g S) (imS i S) with
      | false =>
        rw [if_pos (show b2i false = 0 by decide), if_neg (by decide)]
        exact ih i d s (by omega) (by omega) hs hd
      | true =>
        rw [if_neg (show ¬ b2i true = 0 by decide), if_pos rfl, fo_5 hf, bnd_s, st_7 hf hg, bnd_s]
        obtain ⟨s', p1, p2, p3, p4⟩ := ih i i (upd2 s (a + 7) g (nI i)) (by omega) (by omega) (fun c hc => by rw [upd2_ne hc]; exact hs c hc) (by rw [u2, if_pos ⟨rfl, rfl⟩])
        exact ⟨s', p1, p2, fun k hk => by rw [p3 k hk, u2, if_neg (fun e => hk e.2)], p4⟩
end FRM
