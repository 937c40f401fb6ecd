/-! ===== PIECES in the reference ===== -/
def MB (mi : IM) (p : Nat) (s : BS) : Prop := s.1 = cu (fun i => pS mi p i && decide (mi 586 i = 0)) ∧ mi 559 43 = nI s.2.length ∧ ∀ i, i < s.2.length → mi 585 i = nI (s.2.getD i 0)
def FP (mi mi' : IM) : Prop := ∀ c j, c ≠ 585 → c ≠ 586 → ¬ (c = 559 ∧ j = 43) → mi' c j = mi c j
theorem FP.rf {a : IM} : FP a a := fun _ _ _ _ _ => rfl
theorem FP.tr {a b c : IM} (h : FP a b) (h2 : FP b c) : FP a c := fun x j h3 h4 h5 => by rw [h2 x j h3 h4 h5, h x j h3 h4 h5]
theorem FP.pS {a b : IM} (h : FP a b) (p : Nat) : pS b p = pS a p := cu_ext fun i hi => by
  unfold pg
  rw [h 567 (256 * p + i) (by omega) (by omega) (by omega)]
theorem FP.B {a b : IM} (h : FP a b) (hb : B01 a) : B01 b := fun j => by rw [h 567 j (by omega) (by omega) (by omega)]; exact hb j
section WLK
variable {n p : Nat} {mi : IM} {ml : JM} {s : BS}
theorem meets_s {q : Nat} (hp : p < 56) (hs : okB s) (hc : MB mi p s) (hq : q < 256) : ∃ mi', f_Mo_meets n 559 (nI p) (nI q) (K mi ml) = some (K mi' ml) ∧ MB mi' p (tk q s) ∧ FP mi mi' := by
  unfold f_Mo_meets
  have hl : s.2.length ≤ 256 := by have := hs.2.1; omega
  have e0 : s.1 q = (decide (mi 567 (256 * p + q) ≠ 0) && decide (mi 586 q = 0)) := by rw [hc.1, cu_in hq, pS_in hq]; rfl
  rw [o_559, rf_559_18, bnd_s, im2 (n := 256), ia3, a_567 (by omega), bnd_s]
  by_cases c : mi 567 (256 * p + q) = 0
  · rw [if_pos c]
    have e : tk q s = s := if_neg (by rw [e0]; simp [c])
    rw [e]
    exact ⟨mi, rfl, hc, FP.rf⟩
  · rw [if_neg c, rf_559_42, bnd_s, a_586 hq, bnd_s]
    by_cases d : mi 586 q = 0
    · have ht : s.1 q = true := by rw [e0]; simp [c, d]
      have hd := (ct_drop ht 256).2 hq
      have hl2 : s.2.length < 256 := by have := hs.2.1; omega
      rw [if_pos d, bnd_s, s_586 hq, bnd_s, rf_559_41, bnd_s, g_559, bnd_s, upd2_ne (by omega), hc.2.1, s_585 hl2, bnd_s, g_559, bnd_s, p_559, bnd_s]
      refine ⟨_, rfl, ?_, ?_⟩
      · unfold tk
        rw [if_pos ht]
        refine ⟨?_, ?_, ?_⟩
        · show cu _ = cu _
          refine cu_ext fun i hi => ?_
          have e5 : pS (upd2 (upd2 (upd2 mi 586 q (nrw 102 1)) 585 s.2.length (nrw 100 (nI q))) 559 43 (upd2 (upd2 mi 586 q (nrw 102 1)) 585 s.2.length (nrw 100 (nI q)) 559 43 + 1)) p i = pS mi p i := by
            rw [pS_in hi, pS_in hi]
            unfold pg
            rw [upd2_ne (by omega), upd2_ne (by omega), upd2_ne (by omega)]
          rw [e5, upd2_ne (by omega), upd2_ne (by omega), u2, hc.1, cu_in hi]
          by_cases f : i = q
          · subst f; simp [nrw102, one1]
          · rw [if_neg (fun e => f e.2)]; simp [f]
        · rw [u2, if_pos ⟨rfl, rfl⟩, upd2_ne (by omega), upd2_ne (by omega), hc.2.1, nI_1]
          show _ = nI (s.2 ++ [q]).length
          rw [List.length_append, List.length_singleton]
        · intro i hi
          have hi : i < s.2.length + 1 := by
            have hi : i < (s.2 ++ [q]).length := hi
            rw [List.length_append, List.length_singleton] at hi; exact hi
          show _ = nI ((s.2 ++ [q]).getD i 0)
          rw [upd2_ne (by omega), u2]
          by_cases f : i = s.2.length
          · rw [if_pos ⟨rfl, f⟩, f, gd_e]; rfl
          · rw [if_neg (fun e => f e.2), gd_l (by omega), upd2_ne (by omega)]; exact hc.2.2 i (by omega)
      · intro x j h1 h2 h3
        rw [u2, if_neg h3, upd2_ne h1, upd2_ne h2]
    · have e : tk q s = s := if_neg (by rw [e0]; simp [c, d])
      rw [if_neg d, e]
      exact ⟨mi, rfl, hc, FP.rf⟩
theorem tail_s {q : Nat} {x2 x3 x4 : Int32} {k77 : Nat → Int32 → Int32 → Int32 → Int32 → MM → Option (Int32 × MM)} (hp : p < 56) (hs : okB s) (hc : MB mi p s) (hq : q < 256) : ∃ mi', (if nI (q % 4) = 0 then
        if nI (q / 32) ≤ 0 then
          f_Mo_piecesOf_173 n k77 559 (nI p) x2 x3 x4 (nI q) (nI (q % 4)) (nI (q / 4 % 8)) (nI (q / 32)) (K mi ml)
        else
          (f_Mo_meets n 559 (nI p) ((nI q - 32) + 2) (K mi ml)).bind fun M21 =>
          f_Mo_piecesOf_173 n k77 559 (nI p) x2 x3 x4 (nI q) (nI (q % 4)) (nI (q / 4 % 8)) (nI (q / 32)) M21
      else
        f_Mo_piecesOf_173 n k77 559 (nI p) x2 x3 x4 (nI q) (nI (q % 4)) (nI (q / 4 % 8)) (nI (q / 32)) (K mi ml)) = k77 559 (nI p) x2 x3 (x4 + 1) (K mi' ml) ∧ MB mi' p (tk (acr q) s) ∧ FP mi mi' := by
  unfold f_Mo_piecesOf_173 f_Mo_piecesOf_198 f_Mo_piecesOf_222 f_Mo_piecesOf_244 acr
  have m4 : q % 4 < 4 := Nat.mod_lt _ (by omega)
  have z0 : ∀ k, k < 2 ^ 31 → (nI k ≤ 0 ↔ k ≤ 0) := fun k hk => il2 (n := 0) (by omega) hk
  have z7 : ∀ k, k < 2 ^ 31 → ((7 : Int32) ≤ nI k ↔ 7 ≤ k) := fun k hk => il1 (n := 7) (by omega) hk
  have hm : ∀ r, r < 256 → ∃ mi', f_Mo_meets n 559 (nI p) (nI r) (K mi ml) = some (K mi' ml) ∧ MB mi' p (tk r s) ∧ FP mi mi' := fun r hr => meets_s hp hs hc hr
  have no : MB mi p (tk 256 s) := by rw [tk_out hs (by omega)]; exact hc
  rcases (show q % 4 = 0 ∨ q % 4 = 1 ∨ q % 4 = 2 ∨ q % 4 = 3 by omega) with c | c | c | c
  · rw [c, if_pos (show nI 0 = 0 by decide), if_pos rfl]
    simp only [show ¬ nI 0 = 1 by decide, show ¬ nI 0 = 2 by decide, show ¬ nI 0 = 3 by decide, if_false]
    by_cases d : 0 < q / 32
    · rw [if_neg (by rw [z0 _ (by omega)]; omega), if_pos d, is1 (n := 32) (by omega), ia1 (n := 2), show q - 32 + 2 = q - 30 by omega]
      obtain ⟨m1, a1, a2, a3⟩ := hm (q - 30) (by omega)
      rw [a1, bnd_s]
      exact ⟨m1, rfl, a2, a3⟩
    · rw [if_pos (by rw [z0 _ (by omega)]; omega), if_neg d]
      exact ⟨mi, rfl, no, FP.rf⟩
  · rw [c, if_neg (show ¬ nI 1 = 0 by decide), if_neg (show ¬ 1 = 0 by decide), if_pos rfl]
    simp only [show nI 1 = 1 by decide, show ¬ (1 : Int32) = 2 by decide, show ¬ (1 : Int32) = 3 by decide, if_false, if_true]
    by_cases d : q / 4 % 8 < 7
    · rw [if_neg (by rw [z7 _ (by omega)]; omega), if_pos d, ia1 (n := 4), ia1 (n := 2), show q + 4 + 2 = q + 6 by omega]
      obtain ⟨m1, a1, a2, a3⟩ := hm (q + 6) (by omega)
      rw [a1, bnd_s]
      exact ⟨m1, rfl, a2, a3⟩
    · rw [if_pos (by rw [z7 _ (by omega)]; omega), if_neg d]
      exact ⟨mi, rfl, no, FP.rf⟩
  · rw [c, if_neg (show ¬ nI 2 = 0 by decide), if_neg (show ¬ 2 = 0 by decide), if_neg (show ¬ 2 = 1 by decide), if_pos rfl]
    simp only [show nI 2 = 2 by decide, show ¬ (2 : Int32) = 1 by decide, show ¬ (2 : Int32) = 3 by decide, if_false, if_true]
    by_cases d : q / 32 < 7
    · rw [if_neg (by rw [z7 _ (by omega)]; omega), if_pos d, ia1 (n := 32), is1 (n := 2) (by omega), show q + 32 - 2 = q + 30 by omega]
      obtain ⟨m1, a1, a2, a3⟩ := hm (q + 30) (by omega)
      rw [a1, bnd_s]
      exact ⟨m1, rfl, a2, a3⟩
    · rw [if_pos (by rw [z7 _ (by omega)]; omega), if_neg d]
      exact ⟨mi, rfl, no, FP.rf⟩
  · rw [c, if_neg (show ¬ nI 3 = 0 by decide), if_neg (show ¬ 3 = 0 by decide), if_neg (show ¬ 3 = 1 by decide), if_neg (show ¬ 3 = 2 by decide)]
    simp only [show nI 3 = 3 by decide, show ¬ (3 : Int32) = 1 by decide, show ¬ (3 : Int32) = 2 by decide, if_false, if_true]
    by_cases d : 0 < q / 4 % 8
    · rw [if_neg (by rw [z0 _ (by omega)]; omega), if_pos d, is1 (n := 4) (by omega), is1 (n := 2) (by omega), show q - 4 - 2 = q - 6 by omega]
      obtain ⟨m1, a1, a2, a3⟩ := hm (q - 6) (by omega)
      rw [a1, bnd_s]
      exact ⟨m1, rfl, a2, a3⟩
    · rw [if_pos (by rw [z0 _ (by omega)]; omega), if_neg d]
      exact ⟨mi, rfl, no, FP.rf⟩
theorem walk_loop {x2 x3 : Int32} {k9 : Nat → Int32 → Int32 → Int32 → MM → Option (Int32 × MM)} (hp : p < 56) : ∀ m i mi (s : BS), okB s → MB mi p s → 256 < m + i → i ≤ 256 → ∃ mi', f_Mo_piecesOf_77 n k9 m 559 (nI p) x2 x3 (nI i) (K mi ml) = k9 559 (nI p) x2 x3 (K mi' ml) ∧ MB mi' p (bfs m i s) ∧ okB (bfs m i s) ∧ FP mi mi' := by
  intro m
  induction m with
  | zero => intro i mi s hs hc h1 h2; omega
  | succ m ih =>
    intro i mi s hs hc h1 h2
    have hl : s.2.length ≤ 256 := by have := hs.2.1; omega
    rw [f_Mo_piecesOf_77, g_559, bnd_s, hc.2.1]
    unfold bfs
    by_cases c : i < s.2.length
    · have hm := hs.2.2 _ (gd_m c)
      rw [if_neg (by rw [nI_leI (by omega) (by omega)]; omega), rf_559_41, bnd_s, a_585 (by omega), bnd_s, hc.2.2 i c, if_pos c]
      generalize s.2.getD i 0 = q at hm ⊢
      rw [ir1 (n := 4) (by omega) (by omega) (by omega), id1 (n := 4) (by omega) (by omega) (by omega), ir1 (n := 8) (by omega) (by omega) (by omega), id1 (n := 32) (by omega) (by omega) (by omega), nm_t, nm_t, nm_t, is3 (Nat.mod_le _ _), ia1 (n := 1), ia1 (n := 3), ir1 (n := 4) (by omega) (by omega) (by omega), ir1 (n := 4) (by omega) (by omega) (by omega), ia3, ia3]
      obtain ⟨m1, a1, a2, a3⟩ := meets_s (n := n) (ml := ml) hp hs hc (q := nbr 1 q) (nbr_lt q hm).1
      obtain ⟨m2, b1, b2, b3⟩ := meets_s (n := n) (ml := ml) hp (tk_ok _ hs) a2 (q := nbr 3 q) (nbr_lt q hm).2
      obtain ⟨m3, c1, c2, c3⟩ := tail_s (n := n) (ml := ml) (x2 := x2) (x3 := x3) (x4 := nI i) (k77 := f_Mo_piecesOf_77 n k9 m) hp (tk_ok _ (tk_ok _ hs)) b2 hm
      rw [show q - q % 4 + (q % 4 + 1) % 4 = nbr 1 q from rfl, show q - q % 4 + (q % 4 + 3) % 4 = nbr 3 q from rfl, a1, bnd_s, b1, bnd_s, c1, nI_1]
      obtain ⟨m4, d1, d2, d3, d4⟩ := ih (i + 1) m3 (tk3 q s) (tk3_ok q hs) c2 (by omega) (by omega)
      exact ⟨m4, d1, d2, d3, a3.tr (b3.tr (c3.tr d4))⟩
    · rw [if_pos (by rw [nI_leI (by omega) (by omega)]; omega), if_neg c]
      exact ⟨mi, rfl, hc, hs, FP.rf⟩
/-- what is not met yet -/
def opn (mi : IM) (p : Nat) : Nat → Bool := cu (fun i => pS mi p i && decide (mi 586 i = 0))
theorem piecesOf_loop (hp : p < 56) (hn : 256 < n) : ∀ m i k mi, i ≤ 256 → 256 < m + i → k ≤ i → ∃ mi', f_Mo_piecesOf_26 n m 559 (nI p) (nI k) (nI i) (K mi ml) = some (nI (k + pcs (256 - i) i (opn mi p)), K mi' ml) ∧ FP mi mi' := by
  intro m
  induction m with
  | zero => intro i k mi h1 h2; omega
  | succ m ih =>
    intro i k mi h1 h2 hk
    rw [f_Mo_piecesOf_26]
    by_cases c : i = 256
    · subst c
      rw [if_pos (by decide)]
      exact ⟨mi, rfl, FP.rf⟩
    · rw [if_neg (by rw [il1 (n := 256) (by omega) (by omega)]; omega), rf_559_18, bnd_s, im2 (n := 256), ia3, a_567 (by omega), bnd_s, show 256 - i = (256 - (i + 1)) + 1 by omega]
      unfold pcs f_Mo_piecesOf_250
      have e0 : opn mi p i = (decide (mi 567 (256 * p + i) ≠ 0) && decide (mi 586 i = 0)) := by unfold opn; rw [cu_in (by omega), pS_in (by omega)]; rfl
      by_cases d : mi 567 (256 * p + i) = 0
      · rw [if_pos d, nI_1, if_neg (by rw [e0]; simp [d])]
        exact ih (i + 1) k mi (by omega) (by omega) (by omega)
      · rw [if_neg d, rf_559_42, bnd_s, a_586 (by omega), bnd_s]
        by_cases f : mi 586 i = 0
        · have ho : cu (opn mi p) = opn mi p := cu_cu _
          have hc : MB (upd2 mi 559 43 0) p (opn mi p, []) := by
            refine ⟨?_, by rw [u2, if_pos ⟨rfl, rfl⟩]; rfl, fun i hi => by cases hi⟩
            show cu _ = cu _
            refine cu_ext fun i hi => ?_
            rw [upd2_ne (by omega), pS_in hi, pS_in hi]
            unfold pg
            rw [upd2_ne (by omega)]
          obtain ⟨m1, a1, a2, a3⟩ := meets_s (n := n) (ml := ml) hp (ok_0 ho) hc (q := i) (by omega)
          rw [if_pos f, p_559, bnd_s, a1, bnd_s, if_pos (by rw [e0]; simp [d, f]), nI_1]
          obtain ⟨m2, b1, b2, b3, b4⟩ := walk_loop (n := n) (ml := ml) (x2 := nI (k + 1)) (x3 := nI i) (k9 := fun x0 x1 x2 x3 M => f_Mo_piecesOf_26 n m x0 x1 x2 (x3 + 1) M) hp n 0 m1 _ (tk_ok i (ok_0 ho)) a2 (by omega) (by omega)
          rw [show (0 : Int32) = nI 0 from rfl, b1, nI_1]
          rw [pic_eq ho hn] at b2
          obtain ⟨m3, c1, c2⟩ := ih (i + 1) (k + 1) m2 (by omega) (by omega) (by omega)
          rw [show opn m2 p = (pic (opn mi p) i).1 from b2.1.symm] at c1
          refine ⟨m3, ?_, fun c j h1 h2 h3 => ?_⟩
          · rw [c1, Nat.add_assoc]
          · rw [c2 c j h1 h2 h3, b4 c j h1 h2 h3, a3 c j h1 h2 h3, u2, if_neg h3]
        · rw [if_neg f, nI_1, if_neg (by rw [e0]; simp [f])]
          exact ih (i + 1) k mi (by omega) (by omega) (by omega)
theorem unmeet_loop {x2 : Int32} {k9 : Nat → Int32 → Int32 → MM → Option (Int32 × MM)} : ∀ m i mi, i ≤ 256 → 256 < m + i → (∀ j, j < i → mi 586 j = 0) → ∃ mi', f_Mo_piecesOf_4 n k9 m 559 (nI p) x2 (nI i) (K mi ml) = k9 559 (nI p) x2 (K mi' ml) ∧ (∀ j, j < 256 → mi' 586 j = 0) ∧ FP mi mi' := by
  intro m
  induction m with
  | zero => intro i mi h1 h2; omega
  | succ m ih =>
    intro i mi h1 h2 h3
    rw [f_Mo_piecesOf_4]
    by_cases c : i = 256
    · subst c
      rw [if_pos (by decide)]
      exact ⟨mi, rfl, h3, FP.rf⟩
    · rw [if_neg (by rw [il1 (n := 256) (by omega) (by omega)]; omega), rf_559_42, bnd_s, s_586 (by omega), bnd_s, nI_1]
      obtain ⟨m1, a1, a2, a3⟩ := ih (i + 1) (upd2 mi 586 i (nrw 102 0)) (by omega) (by omega) (fun j hj => by
        rw [u2]
        by_cases d : j = i
        · rw [if_pos ⟨rfl, d⟩]; rfl
        · rw [if_neg (fun e => d e.2)]; exact h3 j (by omega))
      exact ⟨m1, a1, a2, fun c j h4 h5 h6 => by rw [a3 c j h4 h5 h6, upd2_ne h5]⟩
theorem piecesOf_S (hp : p < 56) (hn : 256 < n) : ∃ mi', f_Mo_piecesOf n 559 (nI p) (K mi ml) = some (nI (pcs 256 0 (pS mi p)), K mi' ml) ∧ FP mi mi' := by
  unfold f_Mo_piecesOf
  obtain ⟨m1, a1, a2, a3⟩ := unmeet_loop (n := n) (p := p) (ml := ml) (x2 := nI 0) (k9 := f_Mo_piecesOf_24 n) n 0 mi (by omega) (by omega) (fun j hj => by omega)
  rw [o_559, show (0 : Int32) = nI 0 from rfl, a1]
  unfold f_Mo_piecesOf_24
  obtain ⟨m2, b1, b2⟩ := piecesOf_loop (n := n) (p := p) (ml := ml) hp hn n 0 0 m1 (by omega) (by omega) (by omega)
  rw [show (0 : Int32) = nI 0 from rfl, b1, Nat.zero_add]
  have e : opn m1 p = pS mi p := by
    rw [← pS_cu mi p]
    refine cu_ext fun i hi => ?_
    rw [a2 i hi, a3.pS p]; simp
  rw [e]
  exact ⟨m2, rfl, a3.tr b2⟩
end WLK
