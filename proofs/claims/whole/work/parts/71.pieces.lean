/-! ===== PIECES: the walk from QUARTER to QUARTER, as both sides do it ===== -/
abbrev BS : Type := (Nat → Bool) × List Nat
def tk (q : Nat) (s : BS) : BS := if s.1 q = true then (cu (fun i => s.1 i && !decide (i = q)), s.2 ++ [q]) else s
def acr (q : Nat) : Nat := if q % 4 = 0 then (if 0 < q / 32 then q - 30 else 256) else if q % 4 = 1 then (if q / 4 % 8 < 7 then q + 6 else 256) else if q % 4 = 2 then (if q / 32 < 7 then q + 30 else 256) else (if 0 < q / 4 % 8 then q - 6 else 256)
def nbr (k q : Nat) : Nat := q - q % 4 + (q % 4 + k) % 4
def tk3 (q : Nat) (s : BS) : BS := tk (acr q) (tk (nbr 3 q) (tk (nbr 1 q) s))
def bfs : Nat → Nat → BS → BS
  | 0, _, s => s
  | m + 1, i, s => if i < s.2.length then bfs m (i + 1) (tk3 (s.2.getD i 0) s) else s
def okB (s : BS) : Prop := cu s.1 = s.1 ∧ s.2.length + ct s.1 256 ≤ 256 ∧ ∀ q ∈ s.2, q < 256
theorem ct_drop {S : Nat → Bool} {q : Nat} (h : S q = true) : ∀ n, (n ≤ q → ct (fun i => S i && !decide (i = q)) n = ct S n) ∧ (q < n → ct (fun i => S i && !decide (i = q)) n + 1 = ct S n)
  | 0 => ⟨fun _ => rfl, fun h => by omega⟩
  | n + 1 => by
    obtain ⟨h1, h2⟩ := ct_drop h n
    refine ⟨fun hn => ?_, fun hn => ?_⟩
    · show ct (fun i => S i && !decide (i = q)) n + (if (S n && !decide (n = q)) = true then 1 else 0) = ct S n + (if S n = true then 1 else 0)
      rw [h1 (by omega), decide_eq_false (by omega)]; simp
    · show ct (fun i => S i && !decide (i = q)) n + (if (S n && !decide (n = q)) = true then 1 else 0) + 1 = ct S n + (if S n = true then 1 else 0)
      by_cases c : n = q
      · subst c; rw [h1 (by omega), decide_eq_true rfl, h]; simp
      · have := h2 (by omega)
        rw [decide_eq_false c, Bool.not_false, Bool.and_true]; omega
theorem cu_lt {S : Nat → Bool} {q : Nat} (h : cu S = S) (hq : S q = true) : q < 256 := by
  by_cases c : q < 256
  · exact c
  · rw [← h, cu_out (by omega)] at hq; cases hq
theorem tk_ok {s : BS} (q : Nat) (h : okB s) : okB (tk q s) := by
  unfold tk
  by_cases c : s.1 q = true
  · rw [if_pos c]
    have hq := cu_lt h.1 c
    have h2 := (ct_drop c 256).2 hq
    have e : ct (cu (fun i => s.1 i && !decide (i = q))) 256 = ct (fun i => s.1 i && !decide (i = q)) 256 := ct_ext fun k hk => cu_in hk
    refine ⟨cu_cu _, ?_, fun x hx => ?_⟩
    · show (s.2 ++ [q]).length + ct (cu (fun i => s.1 i && !decide (i = q))) 256 ≤ 256
      have := h.2.1
      rw [e, List.length_append, List.length_singleton]; omega
    · rcases List.mem_append.mp hx with d | d
      · exact h.2.2 x d
      · rw [List.mem_singleton.mp d]; exact hq
  · rw [if_neg c]; exact h
theorem tk3_ok {s : BS} (q : Nat) (h : okB s) : okB (tk3 q s) := tk_ok _ (tk_ok _ (tk_ok _ h))
theorem tk_out {s : BS} {q : Nat} (h : okB s) (hq : 256 ≤ q) : tk q s = s := by
  unfold tk
  rw [if_neg]
  intro e
  have := cu_lt h.1 e
  omega
theorem acr_le : ∀ q, q < 256 → acr q ≤ 256 := by decide +kernel
theorem nbr_lt : ∀ q, q < 256 → nbr 1 q < 256 ∧ nbr 3 q < 256 := by decide +kernel
def qi (q : Nat) : Int32 := if q = 256 then -1 else nI q
theorem q_a : ∀ q, q < 256 → (ishr (nI q) 2) &&& 7 = nI (q / 4 % 8) ∧ nI q &&& 3 = nI (q % 4) := by decide +kernel
theorem q_n : ∀ q, q < 256 → ((nI q &&& (-4)) ||| ((nI q + 1) &&& 3)) = nI (nbr 1 q) ∧ ((nI q &&& (-4)) ||| ((nI q + 3) &&& 3)) = nI (nbr 3 q) := by decide +kernel
theorem across_s {n q : Nat} {M : MM} (hq : q < 256) : f_Measure_across n (nI q) M = some (qi (acr q), M) := by
  unfold f_Measure_across
  rw [(q_a q hq).1, (q_a q hq).2, q_5 q hq, nm_t, nm_t]
  unfold acr qi
  have m4 : q % 4 < 4 := Nat.mod_lt _ (by omega)
  by_cases c0 : q % 4 = 0
  · rw [if_pos (show nI (q % 4) = 0 by rw [c0]; rfl), if_pos c0]
    by_cases c : 0 < q / 32
    · rw [if_neg (by rw [il2 (n := 0) (by omega) (by omega)]; omega), if_pos c, if_neg (by omega), is1 (n := 30) (by omega)]
    · rw [if_pos (by rw [il2 (n := 0) (by omega) (by omega)]; omega), if_neg c, if_pos rfl]
  · rw [if_neg (by rw [ie1 (n := 0) (by omega) (by omega)]; exact c0), if_neg c0]
    by_cases c1 : q % 4 = 1
    · rw [if_pos (show nI (q % 4) = 1 by rw [c1]; rfl), if_pos c1]
      by_cases c : q / 4 % 8 < 7
      · rw [if_neg (by rw [il1 (n := 7) (by omega) (by omega)]; omega), if_pos c, if_neg (by omega), ia1 (n := 6)]
      · rw [if_pos (by rw [il1 (n := 7) (by omega) (by omega)]; omega), if_neg c, if_pos rfl]
    · rw [if_neg (by rw [ie1 (n := 1) (by omega) (by omega)]; exact c1), if_neg c1]
      by_cases c2 : q % 4 = 2
      · rw [if_pos (show nI (q % 4) = 2 by rw [c2]; rfl), if_pos c2]
        by_cases c : q / 32 < 7
        · rw [if_neg (by rw [il1 (n := 7) (by omega) (by omega)]; omega), if_pos c, if_neg (by omega), ia1 (n := 30)]
        · rw [if_pos (by rw [il1 (n := 7) (by omega) (by omega)]; omega), if_neg c, if_pos rfl]
      · rw [if_neg (by rw [ie1 (n := 2) (by omega) (by omega)]; exact c2), if_neg c2]
        by_cases c : 0 < q / 4 % 8
        · rw [if_neg (by rw [il2 (n := 0) (by omega) (by omega)]; omega), if_pos c, if_neg (by omega), is1 (n := 6) (by omega)]
        · rw [if_pos (by rw [il2 (n := 0) (by omega) (by omega)]; omega), if_neg c, if_pos rfl]
theorem gd_l {l : List Nat} {q i : Nat} (h : i < l.length) : (l ++ [q]).getD i 0 = l.getD i 0 := by
  rw [List.getD_eq_getElem?_getD, List.getD_eq_getElem?_getD, List.getElem?_append_left h]
theorem gd_e {l : List Nat} {q : Nat} : (l ++ [q]).getD l.length 0 = q := by
  rw [List.getD_eq_getElem?_getD, List.getElem?_append_right (Nat.le_refl _), Nat.sub_self]; rfl
theorem gd_m {l : List Nat} {i : Nat} (h : i < l.length) : l.getD i 0 ∈ l := by
  rw [List.getD_eq_getElem?_getD, List.getElem?_eq_getElem h]; exact List.getElem_mem h
/-! the class's Measure -/
def CB (mi : IM) (s : BS) : Prop := svS mi 78 = s.1 ∧ mi 77 2 = nI s.2.length ∧ ∀ i, i < s.2.length → mi 80 i = nI (s.2.getD i 0)
def F77 (mi mi' : IM) : Prop := ∀ c, c ≠ 77 → c ≠ 79 → c ≠ 80 → mi' c = mi c
theorem F77.tr {a b c : IM} (h : F77 a b) (h2 : F77 b c) : F77 a c := fun x h3 h4 h5 => by rw [h2 x h3 h4 h5, h x h3 h4 h5]
section MEA
variable {n : Nat} {mi : IM} {ml : JM} {s : BS}
theorem sh78 : isSh 78 := sh_ok (by decide +kernel)
theorem holds_n {a : Nat} (h : isSh a) : f_Shape_holds n a (-1) (K mi ml) = some (0, K mi ml) := by
  unfold f_Shape_holds
  rw [og_sh h, if_pos (by decide)]
theorem takeOpen_s {q : Nat} (hs : okB s) (hc : CB mi s) (hq : q ≤ 256) : ∃ mi', f_Measure_takeOpen n 77 (qi q) (K mi ml) = some (K mi' ml) ∧ CB mi' (tk q s) ∧ F77 mi mi' := by
  unfold f_Measure_takeOpen
  have hl : s.2.length ≤ 256 := by have := hs.2.1; omega
  by_cases c : s.1 q = true
  · have hq2 := cu_lt hs.1 c
    have hd := (ct_drop c 256).2 hq2
    have hl2 : s.2.length < 256 := by have := hs.2.1; omega
    have eq : qi q = nI q := if_neg (by omega)
    obtain ⟨m1, e1, e2, e3⟩ := drop_s (n := n) (mi := mi) (ml := ml) sh78 hq2
    rw [o_77, g_77, bnd_s, hc.2.1, if_neg (by rw [il1 (n := 256) (by omega) (by omega)]; omega), rf_77_0, bnd_s, eq, holds_s sh78 hq2, bnd_s, hc.1, c]
    rw [if_neg (show ¬ b2i true = 0 by decide), rf_77_0, bnd_s, e1, bnd_s, rf_77_1, bnd_s, g_77, bnd_s, e3 77 (by omega), hc.2.1, s_80 hl2, bnd_s, g_77, bnd_s, p_77, bnd_s]
    refine ⟨_, rfl, ?_, ?_⟩
    · unfold tk
      rw [if_pos c]
      refine ⟨?_, ?_, ?_⟩
      · rw [sv_of (mi := m1) (by rw [upd2_ne (by omega), upd2_ne (by omega)]), e2, hc.1]
      · show upd2 _ 77 2 _ 77 2 = nI (s.2 ++ [q]).length
        rw [u2, if_pos ⟨rfl, rfl⟩, upd2_ne (by omega), e3 77 (by omega), hc.2.1, nI_1, List.length_append, List.length_singleton]
      · intro i hi
        have hi : i < s.2.length + 1 := by rw [List.length_append, List.length_singleton] at hi; exact hi
        show upd2 _ 77 2 _ 80 i = nI ((s.2 ++ [q]).getD i 0)
        rw [upd2_ne (by omega), u2]
        by_cases d : i = s.2.length
        · rw [if_pos ⟨rfl, d⟩, d, gd_e]; rfl
        · rw [if_neg (fun e => d e.2), gd_l (by omega), e3 80 (by omega)]; exact hc.2.2 i (by omega)
    · intro x h1 h2 h3
      rw [upd2_ne h1, upd2_ne h3, e3 x (by omega)]
  · have e : tk q s = s := if_neg c
    rw [e]
    refine ⟨mi, ?_, hc, fun _ _ _ _ => rfl⟩
    rw [o_77, g_77, bnd_s, hc.2.1]
    by_cases c2 : 256 ≤ s.2.length
    · rw [if_pos (by rw [il1 (n := 256) (by omega) (by omega)]; exact c2)]
    · rw [if_neg (by rw [il1 (n := 256) (by omega) (by omega)]; exact c2), rf_77_0, bnd_s]
      by_cases c3 : q = 256
      · rw [show qi q = -1 from if_pos c3, holds_n sh78, bnd_s, if_pos rfl]
      · rw [show qi q = nI q from if_neg c3, holds_s sh78 (by omega), bnd_s, hc.1, show s.1 q = false by simpa using c, if_pos (show b2i false = 0 by decide)]
theorem takePiece_loop : ∀ m i mi (s : BS), okB s → CB mi s → 256 < m + i → i ≤ 256 → ∃ mi', f_Measure_takePiece_12 n m 77 (nI i) (K mi ml) = some (K mi' ml) ∧ CB mi' (bfs m i s) ∧ okB (bfs m i s) ∧ F77 mi mi' := by
  intro m
  induction m with
  | zero => intro i mi s hs hc h1 h2; omega
  | succ m ih =>
    intro i mi s hs hc h1 h2
    have hl : s.2.length ≤ 256 := by have := hs.2.1; omega
    rw [f_Measure_takePiece_12, g_77, bnd_s, hc.2.1]
    unfold bfs
    by_cases c : i < s.2.length
    · have hm := hs.2.2 _ (gd_m c)
      rw [if_neg (by rw [nI_leI (by omega) (by omega)]; omega), if_neg (by rw [il1 (n := 256) (by omega) (by omega)]; omega), rf_77_1, bnd_s, a_80 (by omega), bnd_s, hc.2.2 i c, if_pos c]
      generalize s.2.getD i 0 = q at hm ⊢
      have e1 : qi (nbr 1 q) = nI (nbr 1 q) := if_neg (by have := (nbr_lt q hm).1; omega)
      have e3 : qi (nbr 3 q) = nI (nbr 3 q) := if_neg (by have := (nbr_lt q hm).2; omega)
      obtain ⟨m1, a1, a2, a3⟩ := takeOpen_s (n := n) (ml := ml) hs hc (q := nbr 1 q) (by have := (nbr_lt q hm).1; omega)
      obtain ⟨m2, b1, b2, b3⟩ := takeOpen_s (n := n) (ml := ml) (tk_ok _ hs) a2 (q := nbr 3 q) (by have := (nbr_lt q hm).2; omega)
      obtain ⟨m3, c1, c2, c3⟩ := takeOpen_s (n := n) (ml := ml) (tk_ok _ (tk_ok _ hs)) b2 (q := acr q) (acr_le q hm)
      rw [nm_t, (q_n q hm).1, (q_n q hm).2, ← e1, a1, bnd_s, ← e3, b1, bnd_s, across_s hm, bnd_s, c1, bnd_s, nI_1]
      obtain ⟨m4, d1, d2, d3, d4⟩ := ih (i + 1) m3 (tk3 q s) (tk3_ok q hs) c2 (by omega) (by omega)
      exact ⟨m4, d1, d2, d3, a3.tr (b3.tr (c3.tr d4))⟩
    · rw [if_pos (by rw [nI_leI (by omega) (by omega)]; omega), if_neg c]
      exact ⟨mi, rfl, hc, hs, fun _ _ _ _ => rfl⟩
theorem bfs_more : ∀ m k i (s : BS), okB s → 256 < m + i → i ≤ 256 → bfs (m + k) i s = bfs m i s := by
  intro m
  induction m with
  | zero => intro k i s hs h1 h2; omega
  | succ m ih =>
    intro k i s hs h1 h2
    have hl : s.2.length ≤ 256 := by have := hs.2.1; omega
    rw [show m + 1 + k = (m + k) + 1 by omega]
    unfold bfs
    by_cases c : i < s.2.length
    · rw [if_pos c, if_pos c, ih k (i + 1) _ (tk3_ok _ hs) (by omega) (by omega)]
    · rw [if_neg c, if_neg c]
/-- the piece that q is of, taken from O -/
def pic (O : Nat → Bool) (q : Nat) : BS := bfs 257 0 (tk q (O, []))
theorem ok_0 {O : Nat → Bool} (h : cu O = O) : okB (O, []) := ⟨h, by show 0 + ct O 256 ≤ 256; have := ct_le O 256; omega, fun q hq => by cases hq⟩
theorem pic_eq {O : Nat → Bool} (h : cu O = O) {q : Nat} (hn : 256 < n) : bfs n 0 (tk q (O, [])) = pic O q := by
  rw [show n = 257 + (n - 257) by omega]
  exact bfs_more 257 (n - 257) 0 _ (tk_ok _ (ok_0 h)) (by omega) (by omega)
theorem takePiece_s {q : Nat} (hn : 256 < n) (hq : q < 256) : ∃ mi', f_Measure_takePiece n 77 (nI q) (K mi ml) = some (K mi' ml) ∧ svS mi' 78 = (pic (svS mi 78) q).1 ∧ cu (svS mi' 78) = svS mi' 78 ∧ F77 mi mi' := by
  unfold f_Measure_takePiece
  have hcu : cu (svS mi 78) = svS mi 78 := rS_cu _
  have hc : CB (upd2 mi 77 2 0) (svS mi 78, []) := ⟨sv_of (upd2_ne (by omega)), by rw [u2, if_pos ⟨rfl, rfl⟩]; rfl, fun i hi => by cases hi⟩
  obtain ⟨m1, a1, a2, a3⟩ := takeOpen_s (n := n) (ml := ml) (ok_0 hcu) hc (q := q) (by omega)
  rw [show qi q = nI q from if_neg (by omega)] at a1
  rw [o_77, p_77, bnd_s, a1, bnd_s]
  obtain ⟨m2, b1, b2, b3, b4⟩ := takePiece_loop (n := n) (ml := ml) n 0 m1 _ (tk_ok q (ok_0 hcu)) a2 (by omega) (by omega)
  rw [pic_eq hcu hn] at b2
  refine ⟨m2, b1, b2.1, rS_cu _, fun c h1 h2 h3 => ?_⟩
  rw [b4 c h1 h2 h3, a3 c h1 h2 h3, upd2_ne h1]
/-- how many pieces from QUARTER i on -/
def pcs : Nat → Nat → (Nat → Bool) → Nat
  | 0, _, _ => 0
  | m + 1, i, O => if O i = true then 1 + pcs m (i + 1) (pic O i).1 else pcs m (i + 1) O
theorem pieces_loop (hn : 256 < n) : ∀ m i k mi, i ≤ 256 → 256 < m + i → k ≤ i → ∃ mi', f_Measure_countPieces_12 n m 77 (nI k) (nI i) (K mi ml) = some (nI (k + pcs (256 - i) i (svS mi 78)), K mi' ml) ∧ F77 mi mi' := by
  intro m
  induction m with
  | zero => intro i k mi h1 h2; omega
  | succ m ih =>
    intro i k mi h1 h2 hk
    rw [f_Measure_countPieces_12]
    by_cases c : i = 256
    · subst c
      rw [if_pos (by decide)]
      exact ⟨mi, rfl, fun _ _ _ _ => rfl⟩
    · rw [if_neg (by rw [il1 (n := 256) (by omega) (by omega)]; omega), rf_77_0, bnd_s, holds_s sh78 (by omega), bnd_s, show 256 - i = (256 - (i + 1)) + 1 by omega]
      unfold pcs f_Measure_countPieces_38
      by_cases d : svS mi 78 i = true
      · obtain ⟨m1, a1, a2, a3, a4⟩ := takePiece_s (n := n) (mi := mi) (ml := ml) hn (q := i) (by omega)
        rw [d, if_neg (show ¬ b2i true = 0 by decide), a1, bnd_s, if_pos rfl, nI_1, nI_1]
        obtain ⟨m2, b1, b2⟩ := ih (i + 1) (k + 1) m1 (by omega) (by omega) (by omega)
        rw [a2] at b1
        refine ⟨m2, ?_, a4.tr b2⟩
        rw [b1, Nat.add_assoc]
      · rw [show svS mi 78 i = false by simpa using d, if_pos (show b2i false = 0 by decide), if_neg (by decide), nI_1]
        exact ih (i + 1) k mi (by omega) (by omega) (by omega)
theorem countPieces_s {a : Nat} (ha : isSh a) (h78 : 78 ≠ a) (hn : 256 < n) : ∃ mi', f_Measure_countPieces n 77 a (K mi ml) = some (nI (pcs 256 0 (svS mi a)), K mi' ml) ∧ F77 mi mi' := by
  unfold f_Measure_countPieces
  rw [o_77, rf_77_0, bnd_s, copy_s sh78 ha h78 (by omega), bnd_s]
  obtain ⟨m2, b1, b2⟩ := pieces_loop (n := n) (ml := ml) hn n 0 0 (setRw mi 78 (mi (a + 1))) (by omega) (by omega) (by omega)
  rw [sv_set, Nat.zero_add] at b1
  exact ⟨m2, b1, fun c h1 h2 h3 => by rw [b2 c h1 h2 h3, setRw_ne (by omega)]⟩
end MEA
