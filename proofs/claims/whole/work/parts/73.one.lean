/-! ===== one PIECE; a LAY that stays on ===== -/
theorem tk_sub {s : BS} {q i : Nat} (h : (tk q s).1 i = true) : s.1 i = true := by
  unfold tk at h
  by_cases c : s.1 q = true
  · rw [if_pos c] at h
    have h : cu (fun i => s.1 i && !decide (i = q)) i = true := h
    by_cases d : i < 256
    · rw [cu_in d] at h; simp at h; exact h.1
    · rw [cu_out (by omega)] at h; cases h
  · rw [if_neg c] at h; exact h
theorem bfs_sub : ∀ m i (s : BS) {j : Nat}, (bfs m i s).1 j = true → s.1 j = true := by
  intro m
  induction m with
  | zero => intro i s j h; exact h
  | succ m ih =>
    intro i s j h
    unfold bfs at h
    by_cases c : i < s.2.length
    · rw [if_pos c] at h
      exact tk_sub (tk_sub (tk_sub (ih _ _ h)))
    · rw [if_neg c] at h; exact h
theorem pic_sub {O : Nat → Bool} {q j : Nat} (h : (pic O q).1 j = true) : O j = true := tk_sub (bfs_sub 257 0 _ h)
theorem pic_q {O : Nat → Bool} {q : Nat} : (pic O q).1 q = false := by
  cases e : (pic O q).1 q with
  | false => rfl
  | true =>
    have h := bfs_sub 257 0 _ e
    unfold tk at h
    by_cases c : O q = true
    · rw [if_pos (show (O, ([] : List Nat)).1 q = true from c)] at h
      have h : cu (fun i => O i && !decide (i = q)) q = true := h
      by_cases d : q < 256
      · rw [cu_in d] at h; simp at h
      · rw [cu_out (by omega)] at h; cases h
    · rw [if_neg (show ¬ (O, ([] : List Nat)).1 q = true from c)] at h
      exact absurd h c
theorem pcs_zero : ∀ m i (O : Nat → Bool), pcs m i O = 0 ↔ ∀ j, i ≤ j → j < i + m → O j = false := by
  intro m
  induction m with
  | zero => intro i O; exact ⟨fun _ j h1 h2 => by omega, fun _ => rfl⟩
  | succ m ih =>
    intro i O
    unfold pcs
    by_cases c : O i = true
    · rw [if_pos c]
      exact ⟨fun h => by omega, fun h => by rw [h i (by omega) (by omega)] at c; cases c⟩
    · rw [if_neg c, ih (i + 1) O]
      constructor
      · intro h j h1 h2
        by_cases d : j = i
        · subst d; simpa using c
        · exact h j (by omega) (by omega)
      · intro h j h1 h2; exact h j (by omega) (by omega)
theorem pcs_skip {O : Nat → Bool} {t : Nat} (ht : t < 256) (h : ∀ k, k < t → O k = false) : ∀ d i, i + d = t → pcs (256 - i) i O = pcs (256 - t) t O := by
  intro d
  induction d with
  | zero => intro i e; rw [show i = t by omega]
  | succ d ih =>
    intro i e
    rw [← ih (i + 1) (by omega), show 256 - i = (256 - (i + 1)) + 1 by omega]
    show (if O i = true then _ else _) = _
    rw [if_neg (by rw [h i (by omega)]; decide)]
theorem one_iff {S : Nat → Bool} {t : Nat} (ht : t < 256) (h1 : S t = true) (h2 : ∀ k, k < t → S k = false) : pcs 256 0 S = 1 ↔ noS (pic S t).1 = true := by
  rw [show pcs 256 0 S = pcs (256 - 0) 0 S from rfl, pcs_skip ht h2 t 0 (by omega), show 256 - t = (256 - (t + 1)) + 1 by omega]
  have e : pcs (256 - (t + 1) + 1) t S = 1 + pcs (256 - (t + 1)) (t + 1) (pic S t).1 := by
    show (if S t = true then _ else _) = _
    rw [if_pos h1]
  rw [e, noS_t]
  constructor
  · intro h i hi
    have := (pcs_zero _ _ _).mp (show pcs (256 - (t + 1)) (t + 1) (pic S t).1 = 0 by omega)
    by_cases c : t + 1 ≤ i
    · exact this i c (by omega)
    · cases e : (pic S t).1 i with
      | false => rfl
      | true =>
        by_cases d : i = t
        · subst d; rw [pic_q] at e; cases e
        · have := pic_sub e
          rw [h2 i (by omega)] at this; cases this
  · intro h
    rw [(pcs_zero _ _ _).mpr fun j h3 h4 => h j (by omega)]
section ONE
variable {n a g : Nat} {mi : IM} {ml : JM} {S : Nat → Bool}
theorem isOnePiece_s (ha : isSh a) (h78 : 78 ≠ a) (hn : 256 < n) : ∃ mi', f_Measure_isOnePiece n 77 a (K mi ml) = some (b2i (decide (pcs 256 0 (svS mi a) = 1)), K mi' ml) ∧ F77 mi mi' := by
  unfold f_Measure_isOnePiece
  have f1 : F77 mi (setRw mi 78 (mi (a + 1))) := fun c h1 h2 h3 => setRw_ne (by omega)
  obtain ⟨v, e1, e2⟩ := lowestQuarter_s (n := n) (mi := setRw mi 78 (mi (a + 1))) (ml := ml) sh78 (by omega)
  rw [o_77, rf_77_0, bnd_s, copy_s sh78 ha h78 (by omega), bnd_s, rf_77_0, bnd_s, e1, bnd_s]
  rw [sv_set] at e2
  have e2 : loS (svS mi a) v := e2
  rcases e2 with ⟨q1, q2⟩ | ⟨t, t1, t2, t3, t4⟩
  · rw [q2, if_neg (show ¬ (0 : Int32) ≤ -1 by decide)]
    rw [(pcs_zero 256 0 (svS mi a)).mpr fun j _ hj => noS_t.mp q1 j (by omega)]
    exact ⟨_, rfl, f1⟩
  · obtain ⟨m1, a1, a2, a3, a4⟩ := takePiece_s (n := n) (mi := setRw mi 78 (mi (a + 1))) (ml := ml) hn (q := t) t1
    rw [t4, if_pos (show (0 : Int32) ≤ nI t by rw [il1 (n := 0) (by omega) (by omega)]; omega), a1, bnd_s, rf_77_0, bnd_s, isNothing_s sh78 (by omega), bnd_s, zg_t (b2i_1 _)]
    refine ⟨m1, ?_, f1.tr a4⟩
    rw [a2, sv_set]
    have hd : noS (pic (svS mi a) t).1 = decide (pcs 256 0 (svS mi a) = 1) := by
      rw [Bool.eq_iff_iff, decide_eq_true_iff]
      exact (one_iff t1 t2 t3).symm
    show some (b2i (noS (pic (svS mi a) t).1), K m1 ml) = _
    rw [hd]
/-- an IMAGE of width w and height h stays on the GRID -/
theorem stay_iff {w h : Nat} {x y : Nat} (h0 : ∃ i, i < 256 ∧ S i = true) (hx : mxX S w) (hy : mxY S h) : sOff (x : Int) (y : Int) S = false ↔ (x + w ≤ 8 ∧ y + h ≤ 8) := by
  rw [sOff_f]
  obtain ⟨i0, i1, i2⟩ := h0
  constructor
  · intro hs
    constructor
    · rcases hx.2.2 with q | ⟨i, j1, j2, j3⟩
      · have := hx.2.1 i0 i1 i2; omega
      · have := (sIn_t.mp (hs i j1 j2)).2.1; omega
    · rcases hy.2.2 with q | ⟨i, j1, j2, j3⟩
      · have := hy.2.1 i0 i1 i2; omega
      · have := (sIn_t.mp (hs i j1 j2)).2.2.2; omega
  · rintro ⟨q1, q2⟩ k k1 k2
    have a1 := hx.2.1 k k1 k2
    have a2 := hy.2.1 k k1 k2
    exact sIn_t.mpr ⟨by omega, by omega, by omega, by omega⟩
theorem stay_neg {z w : Int} (h0 : ∃ i, i < 256 ∧ S i = true) (hm : mnX S 256 = 0 ∧ mnY S 256 = 0) (hz : z < 0 ∨ w < 0) : sOff z w S = true := by
  cases e : sOff z w S with
  | true => rfl
  | false =>
    exfalso
    obtain ⟨i0, i1, i2⟩ := h0
    rw [sOff_f] at e
    rcases (mnX_sp S 256 (by omega)).2 with q | ⟨i, j1, j2, j3⟩
    · omega
    · rcases (mnY_sp S 256 (by omega)).2 with q | ⟨k, k1, k2, k3⟩
      · omega
      · have b1 := sIn_t.mp (e i j1 j2)
        have b2 := sIn_t.mp (e k k1 k2)
        rcases hz with c | c
        · have := b1.1; omega
        · have := b2.2.2.1; omega
theorem staysOn_n {x y : Int32} (hf : isFo a) (h : x < 0 ∨ y < 0) : f_Form_staysOn n a (nI g) x y (K mi ml) = some (0, K mi ml) := by
  unfold f_Form_staysOn
  rw [og_K hf.1]
  by_cases c : x < 0
  · rw [if_pos c]
  · rw [if_neg c, if_pos (by rcases h with q | q; exact absurd q c; exact q)]
theorem staysOn_p {x y : Nat} (hf : isFo a) (hI : FoI mi a 8 S) (hg : g < 8) (h0 : ∃ i, i < 256 ∧ imS g S i = true) (hx : x < 2 ^ 31) (hy : y < 2 ^ 31) : f_Form_staysOn n a (nI g) (nI x) (nI y) (K mi ml) = some (b2i (!sOff (x : Int) (y : Int) (imS g S)), K mi ml) := by
  obtain ⟨i1, i2, ⟨w, i3, i4⟩, ⟨h, i5, i6⟩, i7⟩ := hI.2 g hg
  have hs := stay_iff (x := x) (y := y) h0 i4 i6
  have w8 := i4.1
  have h8 := i6.1
  unfold f_Form_staysOn
  rw [og_K hf.1, if_neg (inN hx), if_neg (inN hy), fo_3 hf, bnd_s, ld_5 hf hg, bnd_s, i3, is2 (n := 8) w8]
  by_cases c : 8 - w < x
  · rw [if_pos (by rw [nI_ltI (by omega) hx]; exact c)]
    have : sOff (x : Int) (y : Int) (imS g S) = true := by
      cases e : sOff (x : Int) (y : Int) (imS g S) with
      | true => rfl
      | false => have := (hs.mp e).1; omega
    rw [this]; rfl
  · rw [if_neg (by rw [nI_ltI (by omega) hx]; exact c), fo_4 hf, bnd_s, ld_6 hf hg, bnd_s, i5, is2 (n := 8) h8]
    by_cases d : 8 - h < y
    · rw [if_pos (by rw [nI_ltI (by omega) hy]; exact d)]
      have : sOff (x : Int) (y : Int) (imS g S) = true := by
        cases e : sOff (x : Int) (y : Int) (imS g S) with
        | true => rfl
        | false => have := (hs.mp e).2; omega
      rw [this]; rfl
    · rw [if_neg (by rw [nI_ltI (by omega) hy]; exact d), hs.mpr ⟨by omega, by omega⟩]; rfl
end ONE
