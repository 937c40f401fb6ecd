/-! ===== cut ===== -/
def cA7 (W I : Nat → Bool) (B A : Nat) : Bool := prt W I ((A : Int) - 7) ((B : Int) - 7)
def fa (W I : Nat → Bool) (B : Nat) : Option Nat := fnd (cA7 W I B) 15 0
def fb (W I : Nat → Bool) : Option Nat := fnd (fun B => (fa W I B).isSome) 15 0
def FC9 (mi mi' : IM) : Prop := ∀ c, c ≠ 94 → c ≠ 77 → c ≠ 79 → c ≠ 80 → c ≠ 98 → ¬ (99 ≤ c ∧ c < 129) → mi' c = mi c
theorem FC9.tr {a b c : IM} (h : FC9 a b) (h2 : FC9 b c) : FC9 a c := fun x h3 h4 h5 h6 h7 h8 => by rw [h2 x h3 h4 h5 h6 h7 h8, h x h3 h4 h5 h6 h7 h8]
theorem FC.f9 {a b : IM} (h : FC a b) : FC9 a b := fun c _ h1 h2 h3 h4 h5 => h c h1 h2 h3 h4 h5
def RmC (mi : IM) (W I : Nat → Bool) (g B A : Nat) : Prop := mi 94 0 = 2 ∧ mi 94 1 = nI g ∧ mi 94 2 = iZ ((A : Int) - 7) ∧ mi 94 3 = iZ ((B : Int) - 7) ∧ svS mi 97 = cuF W I ((A : Int) - 7) ((B : Int) - 7)
theorem iZ_up (A : Nat) : iZ ((A : Int) - 7) + 1 = iZ (((A + 1 : Nat) : Int) - 7) := by
  rw [show (1 : Int32) = iZ 1 from rfl, iZ_add]; congr 1; omega
section CLK
variable {n a g B : Nat} {mi : IM} {ml : JM} {W I : Nat → Bool}
theorem lookA (ha : isSh a) (ha2 : 129 ≤ a) (hB : B < 15) (hn : 256 < n) {k35 : Nat → Int32 → Int32 → Int32 → MM → Option (Int32 × MM)} {k54 : Nat → Nat → Int32 → Nat → Int32 → MM → Option (Int32 × MM)} : ∀ m A mi, A ≤ 15 → 15 - A < m → svS mi 95 = W → svS mi a = I → ∃ mi', FC mi mi' ∧ ((fnd (cA7 W I B) (15 - A) A = none ∧ f_Cutter_lookWith_15 n k35 k54 m 94 a (nI g) 77 (iZ ((B : Int) - 7)) (iZ ((A : Int) - 7)) (K mi ml) = k54 94 a (nI g) 77 (iZ ((B : Int) - 7)) (K mi' ml)) ∨ ∃ A', fnd (cA7 W I B) (15 - A) A = some A' ∧ svS mi' 97 = cuF W I ((A' : Int) - 7) ((B : Int) - 7) ∧ f_Cutter_lookWith_15 n k35 k54 m 94 a (nI g) 77 (iZ ((B : Int) - 7)) (iZ ((A : Int) - 7)) (K mi ml) = k35 94 (nI g) (iZ ((B : Int) - 7)) (iZ ((A' : Int) - 7)) (K mi' ml)) := by
  intro m
  induction m with
  | zero => intro A mi h1 h2; omega
  | succ m ih =>
    intro A mi h1 h2 hW hI
    rw [f_Cutter_lookWith_15]
    by_cases c : A = 15
    · subst c
      rw [if_pos (by rw [iZ_g7 (by omega) (by omega)]; omega)]
      exact ⟨mi, FC.rf, Or.inl ⟨rfl, rfl⟩⟩
    · obtain ⟨m1, a1, a2, a3⟩ := cutsC (n := n) (mi := mi) (ml := ml) (z := (A : Int) - 7) (w := (B : Int) - 7) ha ha2 (by omega) (by omega) hW hI hn
      rw [if_neg (by rw [iZ_g7 (by omega) (by omega)]; omega), a1, bnd_s, show 15 - A = (15 - (A + 1)) + 1 by omega, fnd_s]
      cases d : prt W I ((A : Int) - 7) ((B : Int) - 7) with
      | false =>
        rw [if_pos (show b2i false = 0 by decide), if_neg (show ¬ cA7 W I B A = true by unfold cA7; rw [d]; decide), iZ_up]
        obtain ⟨m2, b1, b2⟩ := ih (A + 1) m1 (by omega) (by omega) (by rw [sv_of (a3 96 (by omega) (by omega) (by omega) (by omega) (by omega))]; exact hW) (by rw [sv_of (a3 (a + 1) (by omega) (by omega) (by omega) (by omega) (by omega))]; exact hI)
        exact ⟨m2, a3.tr b1, b2⟩
      | true =>
        rw [if_neg (show ¬ b2i true = 0 by decide), if_pos (show cA7 W I B A = true from d)]
        exact ⟨m1, a3, Or.inr ⟨A, rfl, a2, rfl⟩⟩
theorem lookB (ha : isSh a) (ha2 : 129 ≤ a) (hn : 256 < n) : ∀ m B mi, B ≤ 15 → 15 - B < m → svS mi 95 = W → svS mi a = I → ∃ mi', FC9 mi mi' ∧ ((fnd (fun B => (fa W I B).isSome) (15 - B) B = none ∧ f_Cutter_lookWith_4 n (f_Cutter_lookWith_35 n) m 94 a (nI g) 77 (iZ ((B : Int) - 7)) (K mi ml) = some (0, K mi' ml) ∧ mi' 94 = mi 94) ∨ ∃ B' A', fnd (fun B => (fa W I B).isSome) (15 - B) B = some B' ∧ fa W I B' = some A' ∧ f_Cutter_lookWith_4 n (f_Cutter_lookWith_35 n) m 94 a (nI g) 77 (iZ ((B : Int) - 7)) (K mi ml) = some (1, K mi' ml) ∧ RmC mi' W I g B' A') := by
  intro m
  induction m with
  | zero => intro B mi h1 h2; omega
  | succ m ih =>
    intro B mi h1 h2 hW hI
    rw [f_Cutter_lookWith_4]
    by_cases c : B = 15
    · subst c
      rw [if_pos (by rw [iZ_g7 (by omega) (by omega)]; omega)]
      exact ⟨mi, FC.rf.f9, Or.inl ⟨rfl, rfl, rfl⟩⟩
    · obtain ⟨m1, a1, a2⟩ := lookA (n := n) (ml := ml) (g := g) ha ha2 (show B < 15 by omega) hn (k35 := f_Cutter_lookWith_35 n) (k54 := f_Cutter_lookWith_54 n (f_Cutter_lookWith_4 n (f_Cutter_lookWith_35 n) m)) n 0 mi (by omega) (by omega) hW hI
      rw [if_neg (by rw [iZ_g7 (by omega) (by omega)]; omega), show (-7 : Int32) = iZ (((0 : Nat) : Int) - 7) from rfl, show 15 - B = (15 - (B + 1)) + 1 by omega, fnd_s]
      rcases a2 with ⟨b1, b2⟩ | ⟨A', b1, b2, b3⟩
      · have b1 : fa W I B = none := b1
        rw [b2, b1, if_neg (show ¬ (none : Option Nat).isSome = true by decide)]
        unfold f_Cutter_lookWith_54
        rw [iZ_up]
        obtain ⟨m2, c1, c2⟩ := ih (B + 1) m1 (by omega) (by omega) (by rw [sv_of (a1 96 (by omega) (by omega) (by omega) (by omega) (by omega))]; exact hW) (by rw [sv_of (a1 (a + 1) (by omega) (by omega) (by omega) (by omega) (by omega))]; exact hI)
        rw [a1 94 (by omega) (by omega) (by omega) (by omega) (by omega)] at c2
        exact ⟨m2, a1.f9.tr c1, c2⟩
      · have b1 : fa W I B = some A' := b1
        rw [b3, b1, if_pos (show (some A').isSome = true from rfl)]
        unfold f_Cutter_lookWith_35 f_Cutter_remember
        rw [o_94, p_94, bnd_s, p_94, bnd_s, p_94, bnd_s, p_94, bnd_s, bnd_s]
        refine ⟨_, fun c h1 h2 h3 h4 h5 h6 => ?_, Or.inr ⟨B, A', rfl, b1, rfl, ?_, ?_, ?_, ?_, ?_⟩⟩
        · rw [upd2_ne h1, upd2_ne h1, upd2_ne h1, upd2_ne h1, a1 c h2 h3 h4 h5 h6]
        · rw [u2, if_neg (by omega), u2, if_neg (by omega), u2, if_neg (by omega), u2, if_pos ⟨rfl, rfl⟩]
        · rw [u2, if_neg (by omega), u2, if_neg (by omega), u2, if_pos ⟨rfl, rfl⟩]
        · rw [u2, if_neg (by omega), u2, if_pos ⟨rfl, rfl⟩]
        · rw [u2, if_pos ⟨rfl, rfl⟩]
        · rw [sv_of (mi := m1) (by rw [upd2_ne (by omega), upd2_ne (by omega), upd2_ne (by omega), upd2_ne (by omega)])]; exact b2
theorem lookG {S : Nat → Bool} (hf : isFo a) (ha2 : 129 ≤ a) (hn : 256 < n) : ∀ m g mi, g ≤ 8 → 8 - g < m → svS mi 95 = W → FoI mi a 8 S → ∃ mi', FC9 mi mi' ∧ ((fnd (fun g => (lsG S g == g) && (fb W (imS g S)).isSome) (8 - g) g = none ∧ f_Cutter_look_64 n m 94 a 77 (nI g) (K mi ml) = some (-2, K mi' ml) ∧ mi' 94 = mi 94) ∨ ∃ g' B' A', fnd (fun g => (lsG S g == g) && (fb W (imS g S)).isSome) (8 - g) g = some g' ∧ fb W (imS g' S) = some B' ∧ fa W (imS g' S) B' = some A' ∧ f_Cutter_look_64 n m 94 a 77 (nI g) (K mi ml) = some (2, K mi' ml) ∧ RmC mi' W (imS g' S) g' B' A') := by
  intro m
  induction m with
  | zero => intro g mi h1 h2; omega
  | succ m ih =>
    intro g mi h1 h2 hW hF
    rw [f_Cutter_look_64]
    by_cases c : g = 8
    · subst c
      rw [if_pos (by decide)]
      exact ⟨mi, FC.rf.f9, Or.inl ⟨rfl, rfl, rfl⟩⟩
    · have hF8 := hF.2 g (by omega)
      rw [if_neg (by rw [il1 (n := 8) (by omega) (by omega)]; omega), fo_5 hf, bnd_s, ld_7 hf (by omega), bnd_s, hF8.2.2.2.2, show 8 - g = (8 - (g + 1)) + 1 by omega, fnd_s]
      unfold f_Cutter_look_105
      have goon : ∀ m1, FC9 mi m1 → m1 94 = mi 94 → ((lsG S g == g) && (fb W (imS g S)).isSome) = false → ∃ mi', FC9 mi mi' ∧ (((if ((lsG S g == g) && (fb W (imS g S)).isSome) = true then some g else fnd (fun g => (lsG S g == g) && (fb W (imS g S)).isSome) (8 - (g + 1)) (g + 1)) = none ∧ f_Cutter_look_64 n m 94 a 77 (nI g + 1) (K m1 ml) = some (-2, K mi' ml) ∧ mi' 94 = mi 94) ∨ ∃ g' B' A', (if ((lsG S g == g) && (fb W (imS g S)).isSome) = true then some g else fnd (fun g => (lsG S g == g) && (fb W (imS g S)).isSome) (8 - (g + 1)) (g + 1)) = some g' ∧ fb W (imS g' S) = some B' ∧ fa W (imS g' S) B' = some A' ∧ f_Cutter_look_64 n m 94 a 77 (nI g + 1) (K m1 ml) = some (2, K mi' ml) ∧ RmC mi' W (imS g' S) g' B' A') := by
        intro m1 q1 q2 q3
        rw [if_neg (by rw [q3]; decide), nI_1]
        obtain ⟨m2, c1, c2⟩ := ih (g + 1) m1 (by omega) (by omega) (by rw [sv_of (q1 96 (by omega) (by omega) (by omega) (by omega) (by omega) (by omega))]; exact hW) (FoI_c (by omega) (fun c r1 r2 => q1 c (by omega) (by omega) (by omega) (by omega) (by omega) (by omega)) hF)
        rw [q2] at c2
        exact ⟨m2, q1.tr c1, c2⟩
      by_cases d : lsG S g = g
      · obtain ⟨m1, a1, a2⟩ := lookB (n := n) (ml := ml) (g := g) (im_sh hf (show g < 8 by omega)) (by omega) hn n 0 mi (by omega) (by omega) hW hF8.1
        rw [if_pos (show nI (lsG S g) = nI g by rw [d]), fo_1 hf, bnd_s, im_ref hf (by omega), bnd_s]
        unfold f_Cutter_lookWith
        rw [o_94, show (-7 : Int32) = iZ (((0 : Nat) : Int) - 7) from rfl]
        rcases a2 with ⟨b1, b2, b3⟩ | ⟨B', A', b1, b2, b3, b4⟩
        · have b1 : fb W (imS g S) = none := b1
          rw [b2, bnd_s, if_pos (show (0 : Int32) = 0 from rfl)]
          exact goon m1 a1 b3 (by rw [b1]; simp)
        · have b1 : fb W (imS g S) = some B' := b1
          rw [b3, bnd_s, if_neg n10, g_94, bnd_s, b4.1, if_pos (show ((lsG S g == g) && (fb W (imS g S)).isSome) = true by rw [b1, d]; simp)]
          exact ⟨m1, a1, Or.inr ⟨g, B', A', rfl, b1, b2, rfl, b4⟩⟩
      · rw [if_neg (show ¬ nI (lsG S g) = nI g by rw [nI_eq (lsG_lt (by omega)) (by omega)]; exact d)]
        exact goon mi FC.rf.f9 rfl (by rw [show (lsG S g == g) = false by simpa using d]; rfl)
end CLK
/-! the reference's loops -/
def RmM (mi : IM) (W I : Nat → Bool) (g B A : Nat) : Prop := mi 559 67 = 2 ∧ mi 559 68 = nI g ∧ mi 559 69 = iZ ((A : Int) - 7) ∧ mi 559 70 = iZ ((B : Int) - 7) ∧ pS mi 51 = cuF W I ((A : Int) - 7) ((B : Int) - 7)
def FM9 (mi mi' : IM) : Prop := ∀ c j, c ≠ 585 → c ≠ 586 → ¬ (c = 559 ∧ (j = 43 ∨ j = 67 ∨ j = 68 ∨ j = 69 ∨ j = 70)) → ¬ (c = 567 ∧ 11264 ≤ j ∧ j < 12800) → ¬ (c = 567 ∧ 13056 ≤ j) → mi' c j = mi c j
theorem FM9.tr {a b c : IM} (h : FM9 a b) (h2 : FM9 b c) : FM9 a c := fun x j h3 h4 h5 h6 h7 => by rw [h2 x j h3 h4 h5 h6 h7, h x j h3 h4 h5 h6 h7]
theorem FM.f9 {a b : IM} (h : FM a b) : FM9 a b := fun c j h1 h2 h3 h4 h5 => h c j h1 h2 (by omega) (by
  intro q hq
  simp at hq
  omega)
theorem FM9.pS {a b : IM} (h : FM9 a b) {p : Nat} (hp : p < 44 ∨ p = 50) : pS b p = pS a p := cu_ext fun i hi => by
  unfold pg
  rw [h 567 _ (by omega) (by omega) (by omega) (by omega) (by omega)]
section MLK
variable {n p g B : Nat} {mi : IM} {ml : JM} {W I : Nat → Bool}
theorem cutA (hB : B < 15) (hn : 256 < n) {x4 : Int32} {k148 : Nat → Int32 → Int32 → Int32 → MM → Option (Int32 × MM)} {k179 : Nat → Int32 → Int32 → Int32 → MM → Option (Int32 × MM)} : ∀ m A mi, A ≤ 15 → 15 - A < m → B01 mi → pS mi 50 = W → pS mi 53 = I → ∃ mi', FM mi mi' ∧ B01 mi' ∧ ((fnd (cA7 W I B) (15 - A) A = none ∧ f_Mo_cut_2_127 n k148 k179 m 559 x4 (nI g) (iZ ((B : Int) - 7)) (iZ ((A : Int) - 7)) (K mi ml) = k179 559 x4 (nI g) (iZ ((B : Int) - 7)) (K mi' ml)) ∨ ∃ A', fnd (cA7 W I B) (15 - A) A = some A' ∧ pS mi' 51 = cuF W I ((A' : Int) - 7) ((B : Int) - 7) ∧ f_Mo_cut_2_127 n k148 k179 m 559 x4 (nI g) (iZ ((B : Int) - 7)) (iZ ((A : Int) - 7)) (K mi ml) = k148 559 (nI g) (iZ ((B : Int) - 7)) (iZ ((A' : Int) - 7)) (K mi' ml)) := by
  intro m
  induction m with
  | zero => intro A mi h1 h2; omega
  | succ m ih =>
    intro A mi h1 h2 hb hW hI
    rw [f_Mo_cut_2_127]
    have e8 : ((8 : Int32) ≤ iZ ((A : Int) - 7)) = (8 ≤ (A : Int) - 7) := propext (iZ_le (a := 8) (by omega) (by omega) (by omega) (by omega))
    by_cases c : A = 15
    · subst c
      rw [if_pos (by rw [e8]; omega)]
      exact ⟨mi, FM.rf, hb, Or.inl ⟨rfl, rfl⟩⟩
    · obtain ⟨m1, a1, a2, a3, a4⟩ := partsM (n := n) (mi := mi) (ml := ml) (z := (A : Int) - 7) (w := (B : Int) - 7) hb hW hI (by omega) (by omega) hn
      rw [if_neg (by rw [e8]; omega), a1, bnd_s, show 15 - A = (15 - (A + 1)) + 1 by omega, fnd_s]
      cases d : prt W I ((A : Int) - 7) ((B : Int) - 7) with
      | false =>
        rw [if_pos (show b2i false = 0 by decide), if_neg (show ¬ cA7 W I B A = true by unfold cA7; rw [d]; decide), iZ_up]
        obtain ⟨m2, b1, b2, b3⟩ := ih (A + 1) m1 (by omega) (by omega) a4 (by rw [a3.pS (by simp)]; exact hW) (by rw [a3.pS (by simp)]; exact hI)
        exact ⟨m2, a3.tr b1, b2, b3⟩
      | true =>
        rw [if_neg (show ¬ b2i true = 0 by decide), if_pos (show cA7 W I B A = true from d)]
        exact ⟨m1, a3, a4, Or.inr ⟨A, rfl, a2, rfl⟩⟩
theorem cutB (hn : 256 < n) {x4 : Int32} {k185 : Nat → Int32 → Int32 → MM → Option (Int32 × MM)} : ∀ m B mi, B ≤ 15 → 15 - B < m → B01 mi → pS mi 50 = W → pS mi 53 = I → ∃ mi', FM9 mi mi' ∧ B01 mi' ∧ ((fnd (fun B => (fa W I B).isSome) (15 - B) B = none ∧ f_Mo_cut_2_116 n (f_Mo_cut_2_148 n) k185 m 559 x4 (nI g) (iZ ((B : Int) - 7)) (K mi ml) = k185 559 x4 (nI g) (K mi' ml) ∧ mi' 559 67 = mi 559 67) ∨ ∃ B' A', fnd (fun B => (fa W I B).isSome) (15 - B) B = some B' ∧ fa W I B' = some A' ∧ f_Mo_cut_2_116 n (f_Mo_cut_2_148 n) k185 m 559 x4 (nI g) (iZ ((B : Int) - 7)) (K mi ml) = some (2, K mi' ml) ∧ RmM mi' W I g B' A') := by
  intro m
  induction m with
  | zero => intro B mi h1 h2; omega
  | succ m ih =>
    intro B mi h1 h2 hb hW hI
    rw [f_Mo_cut_2_116]
    have e8 : ((8 : Int32) ≤ iZ ((B : Int) - 7)) = (8 ≤ (B : Int) - 7) := propext (iZ_le (a := 8) (by omega) (by omega) (by omega) (by omega))
    by_cases c : B = 15
    · subst c
      rw [if_pos (by rw [e8]; omega)]
      exact ⟨mi, FM.rf.f9, hb, Or.inl ⟨rfl, rfl, rfl⟩⟩
    · obtain ⟨m1, a1, a4, a2⟩ := cutA (n := n) (ml := ml) (g := g) (show B < 15 by omega) hn (x4 := x4) (k148 := f_Mo_cut_2_148 n) (k179 := f_Mo_cut_2_179 n (f_Mo_cut_2_116 n (f_Mo_cut_2_148 n) k185 m)) n 0 mi (by omega) (by omega) hb hW hI
      rw [if_neg (by rw [e8]; omega), show (-7 : Int32) = iZ (((0 : Nat) : Int) - 7) from rfl, show 15 - B = (15 - (B + 1)) + 1 by omega, fnd_s]
      rcases a2 with ⟨b1, b2⟩ | ⟨A', b1, b2, b3⟩
      · have b1 : fa W I B = none := b1
        rw [b2, b1, if_neg (show ¬ (none : Option Nat).isSome = true by decide)]
        unfold f_Mo_cut_2_179
        rw [iZ_up]
        obtain ⟨m2, c1, c2, c3⟩ := ih (B + 1) m1 (by omega) (by omega) a4 (by rw [a1.pS (by simp)]; exact hW) (by rw [a1.pS (by simp)]; exact hI)
        rw [a1 559 67 (by omega) (by omega) (by omega) (by simp)] at c3
        exact ⟨m2, a1.f9.tr c1, c2, c3⟩
      · have b1 : fa W I B = some A' := b1
        rw [b3, b1, if_pos (show (some A').isSome = true from rfl)]
        unfold f_Mo_cut_2_148
        rw [p_559, bnd_s, p_559, bnd_s, p_559, bnd_s, p_559, bnd_s]
        refine ⟨_, fun c j h1 h2 h3 h4 h5 => ?_, fun j => ?_, Or.inr ⟨B, A', rfl, b1, rfl, ?_, ?_, ?_, ?_, ?_⟩⟩
        · rw [u2, if_neg (by omega), u2, if_neg (by omega), u2, if_neg (by omega), u2, if_neg (by omega)]
          exact a1.f9 c j h1 h2 h3 h4 h5
        · rw [upd2_ne (by omega), upd2_ne (by omega), upd2_ne (by omega), upd2_ne (by omega)]; exact a4 j
        · rw [u2, if_pos ⟨rfl, rfl⟩]
        · rw [u2, if_neg (by omega), u2, if_neg (by omega), u2, if_neg (by omega), u2, if_pos ⟨rfl, rfl⟩]
        · rw [u2, if_neg (by omega), u2, if_neg (by omega), u2, if_pos ⟨rfl, rfl⟩]
        · rw [u2, if_neg (by omega), u2, if_pos ⟨rfl, rfl⟩]
        · rw [← b2]
          exact cu_ext fun i _ => by unfold pg; rw [upd2_ne (by omega), upd2_ne (by omega), upd2_ne (by omega), upd2_ne (by omega)]
theorem cutG {S : Nat → Bool} (hp : p < 44) (hn : 256 < n) : ∀ m g mi, g ≤ 8 → 8 - g < m → B01 mi → pS mi 50 = W → pS mi p = S → ∃ mi', FM9 mi mi' ∧ B01 mi' ∧ ((fnd (fun g => (fb W (imS g S)).isSome) (8 - g) g = none ∧ f_Mo_cut_2_95 n (f_Mo_cut_2_148 n) m 559 (nI p) (nI g) (K mi ml) = some (-2, K mi' ml) ∧ mi' 559 67 = mi 559 67) ∨ ∃ g' B' A', fnd (fun g => (fb W (imS g S)).isSome) (8 - g) g = some g' ∧ fb W (imS g' S) = some B' ∧ fa W (imS g' S) B' = some A' ∧ f_Mo_cut_2_95 n (f_Mo_cut_2_148 n) m 559 (nI p) (nI g) (K mi ml) = some (2, K mi' ml) ∧ RmM mi' W (imS g' S) g' B' A') := by
  intro m
  induction m with
  | zero => intro g mi h1 h2; omega
  | succ m ih =>
    intro g mi h1 h2 hb hW hS
    rw [f_Mo_cut_2_95]
    by_cases c : g = 8
    · subst c
      rw [if_pos (by decide)]
      exact ⟨mi, FM.rf.f9, hb, Or.inl ⟨rfl, rfl, rfl⟩⟩
    · obtain ⟨m1, a1, a2, a3, a4⟩ := imaged_S (n := n) (p := p) (mi := mi) (ml := ml) (g := g) (to := 53) hb (by omega) (by omega) (by omega) hn (by omega) (by omega) (by omega)
      rw [hS] at a2
      have f1 : FM9 mi m1 := fun c j _ _ _ h4 h5 => a3 c j (by
        intro q hq
        simp at hq
        omega)
      obtain ⟨m2, b1, b2, b3⟩ := cutB (n := n) (ml := ml) (g := g) (W := W) (I := imS g S) hn (x4 := nI p) (k185 := f_Mo_cut_2_185 n (f_Mo_cut_2_95 n (f_Mo_cut_2_148 n) m)) n 0 m1 (by omega) (by omega) a4 (by rw [a3.pS (by simp)]; exact hW) a2
      rw [if_neg (by rw [il1 (n := 8) (by omega) (by omega)]; omega), show (53 : Int32) = nI 53 from rfl, a1, bnd_s, show (-7 : Int32) = iZ (((0 : Nat) : Int) - 7) from rfl, show 8 - g = (8 - (g + 1)) + 1 by omega, fnd_s]
      rcases b3 with ⟨d1, d2, d3⟩ | ⟨B', A', d1, d2, d3, d4⟩
      · have d1 : fb W (imS g S) = none := d1
        rw [d2, d1, if_neg (show ¬ (none : Option Nat).isSome = true by decide)]
        unfold f_Mo_cut_2_185
        rw [nI_1]
        obtain ⟨m3, c1, c2, c3⟩ := ih (g + 1) m2 (by omega) (by omega) b2 (by rw [b1.pS (by omega), a3.pS (by simp)]; exact hW) (by rw [b1.pS (by omega), f1.pS (by omega)]; exact hS)
        rw [d3, a3 559 67 (by simp)] at c3
        exact ⟨m3, f1.tr (b1.tr c1), c2, c3⟩
      · have d1 : fb W (imS g S) = some B' := d1
        rw [d3, d1, if_pos (show (some B').isSome = true from rfl)]
        exact ⟨m2, f1.tr b1, b2, Or.inr ⟨g, B', A', rfl, d1, d2, rfl, d4⟩⟩
end MLK
theorem fg_same {W S : Nat → Bool} : fnd (fun g => (lsG S g == g) && (fb W (imS g S)).isSome) 8 0 = fnd (fun g => (fb W (imS g S)).isSome) 8 0 := by
  cases e : fnd (fun g => (fb W (imS g S)).isSome) 8 0 with
  | none => exact fnd_none.mpr fun j h1 h2 => by rw [fnd_none.mp e j h1 h2]; simp
  | some g =>
    have h := fnd_some e
    have hl : lsG S g = g := by
      by_cases c : lsG S g = g
      · exact c
      · have h1 := lsG_le (S := S) (g := g)
        have := h.2.2.2 (lsG S g) (by omega) (by omega)
        rw [lsG_im] at this
        rw [h.2.2.1] at this; cases this
    exact fnd_eq h.1 h.2.1 (by rw [h.2.2.1, hl]; simp) (fun j h1 h2 => by rw [h.2.2.2 j h1 h2]; simp)
theorem prt_ct {W I : Nat → Bool} {z w : Int} (hW : cu W = W) (h : prt W I z w = true) : ct W 256 = ct I 256 := by
  unfold prt at h
  rw [Bool.and_eq_true] at h
  have h1 := like_ct h.2
  have sum : ∀ T U : Nat → Bool, (∀ i, i < 256 → U i = true → T i = true) → ∀ n, n ≤ 256 → ct T n = ct U n + ct (fun i => T i && !U i) n := by
    intro T U hs n
    induction n with
    | zero => intro _; rfl
    | succ n ih =>
      intro hn
      have := ih (by omega)
      simp only [ct]
      have h9 := hs n (by omega)
      by_cases b : U n = true
      · have a := h9 b
        rw [if_pos a, if_pos b, if_neg (by rw [b]; simp)]; omega
      · by_cases a : T n = true
        · rw [if_pos a, if_neg b, if_pos (by rw [a]; simpa using b)]; omega
        · rw [if_neg a, if_neg b, if_neg (by intro q; simp at q; exact a q.1)]; omega
  have eS : ct (cuS W I z w) 256 = ct (fun i => W i && !cuF W I z w i) 256 := ct_ext fun k hk => cu_in hk
  have eL : ct (cuL W I z w) 256 = ct (fun i => I i && !cuG W I z w i) 256 := ct_ext fun k hk => by
    rw [cuL_t hk]; unfold cuG; cases I k <;> simp
  have s1 := sum W (cuF W I z w) (fun i hi hf => by obtain ⟨_, _, _, _, _, h5⟩ := cuF_t.mp hf; exact h5) 256 (Nat.le_refl _)
  have s2 := sum I (cuG W I z w) (fun i hi hg => by unfold cuG at hg; rw [Bool.and_eq_true] at hg; exact hg.1) 256 (Nat.le_refl _)
  have e : ct (cuF W I z w) 256 = ct (cuG W I z w) 256 := by
    apply Nat.le_antisymm
    · refine ct_inj (sTo (-z) (-w)) 256 256 _ _ (fun q hq hf => ?_) (fun q q' hq hq' hf hf' he => ?_)
      · obtain ⟨k, k1, k2, k3, k4, k5⟩ := cuF_t.mp hf
        rw [← k4, (sTo_ok k1 k3).2.2]
        exact ⟨k1, by unfold cuG; rw [k2, k3, k4, k5]; rfl⟩
      · obtain ⟨k, k1, k2, k3, k4, k5⟩ := cuF_t.mp hf
        obtain ⟨k', l1, l2, l3, l4, l5⟩ := cuF_t.mp hf'
        rw [← k4, ← l4, (sTo_ok k1 k3).2.2, (sTo_ok l1 l3).2.2] at he
        rw [← k4, ← l4, he]
    · refine ct_inj (sTo z w) 256 256 _ _ (fun k hk hg => ?_) (fun k k' hk hk' hg hg' he => ?_)
      · unfold cuG at hg
        rw [Bool.and_eq_true, Bool.and_eq_true] at hg
        exact ⟨(sTo_ok hk hg.2.1).1, cuF_t.mpr ⟨k, hk, hg.1, hg.2.1, rfl, hg.2.2⟩⟩
      · unfold cuG at hg hg'
        rw [Bool.and_eq_true, Bool.and_eq_true] at hg hg'
        rw [← (sTo_ok hk hg.2.1).2.2, ← (sTo_ok hk' hg'.2.1).2.2, he]
  omega
theorem fb_ct {W I : Nat → Bool} (hW : cu W = W) (h : (fb W I).isSome = true) : ct W 256 = ct I 256 := by
  obtain ⟨B, b1, b2⟩ := fnd_is.mp h
  obtain ⟨A, a1, a2⟩ := fnd_is.mp b2
  exact prt_ct hW a2
