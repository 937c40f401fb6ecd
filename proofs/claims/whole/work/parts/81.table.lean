/-! ===== the table ===== -/
theorem la_sh {b : Nat} (h : b < 8) : isSh (138 + 2 * b) := sh_ok ((by decide +kernel : ∀ b, b < 8 → 138 + 2 * b ∈ shL) b h)
theorem sh132 : isSh 132 := sh_ok (by decide +kernel)
theorem sh134 : isSh 134 := sh_ok (by decide +kernel)
theorem sh136 : isSh 136 := sh_ok (by decide +kernel)
theorem sh221 : isSh 221 := sh_ok (by decide +kernel)
/-- some of the first k / two of the first k -/
def unS (L : Nat → Nat → Bool) : Nat → Nat → Bool
  | 0, _ => false
  | k + 1, i => unS L k i || L k i
def agS (L : Nat → Nat → Bool) : Nat → Nat → Bool
  | 0, _ => false
  | k + 1, i => agS L k i || (L k i && unS L k i)
theorem un_ct (L : Nat → Nat → Bool) (i : Nat) : ∀ k, unS L k i = decide (0 < ct (fun b => L b i) k) ∧ agS L k i = decide (1 < ct (fun b => L b i) k)
  | 0 => ⟨rfl, rfl⟩
  | k + 1 => by
    obtain ⟨h1, h2⟩ := un_ct L i k
    show (unS L k i || L k i) = decide (0 < ct (fun b => L b i) k + (if L k i = true then 1 else 0)) ∧ (agS L k i || (L k i && unS L k i)) = decide (1 < ct (fun b => L b i) k + (if L k i = true then 1 else 0))
    rw [h1, h2]
    cases e : L k i with
    | false => simp
    | true =>
      rw [if_pos rfl]
      refine ⟨by simp, ?_⟩
      rw [Bool.true_and, Bool.eq_iff_iff, Bool.or_eq_true, decide_eq_true_iff, decide_eq_true_iff, decide_eq_true_iff]
      omega
def laS (mi : IM) (b : Nat) : Nat → Bool := svS mi (138 + 2 * b)
def lds (mi : IM) (b : Nat) : Bool := decide (mi 131 b ≠ -1)
section TBL
variable {n b q nb : Nat} {mi : IM} {ml : JM} {Bd : Nat → Nat → Bool}
theorem lay_r (hb : b < 8) : aR 104 130 (nI b) (K mi ml) = some (138 + 2 * b) := aR_K ds_130 (by decide) hb (ra_130 b hb)
theorem holdsBoard_s (hb : b < 8) : f_Table_holdsBoard n 129 (nI b) (K mi ml) = some (b2i (lds mi b), K mi ml) := by
  unfold f_Table_holdsBoard lds
  rw [o_129, if_neg (inN (by omega)), if_neg (by rw [il1 (n := 8) (by omega) (by omega)]; omega), rf_129_1, bnd_s, a_131 hb, bnd_s]
  by_cases c : mi 131 b = -1
  · rw [if_pos c, decide_eq_false (by simpa using c)]; rfl
  · rw [if_neg c, decide_eq_true c]; rfl
theorem sh_1 : ∀ i, i < 8 → ∀ j, j < 32 → bt (ishl 1 (nI i)) j = decide (j = i) := by decide +kernel
theorem boardsLaid_s (hn : 8 < n) : ∃ v, f_Table_boardsLaid n 129 (K mi ml) = some (v, K mi ml) ∧ ∀ j, j < 32 → bt v j = (decide (j < 8) && lds mi j) := by
  unfold f_Table_boardsLaid
  have L : ∀ m i (v : Int32), i ≤ 8 → 8 - i < m → (∀ j, j < 32 → bt v j = (decide (j < i) && lds mi j)) → ∃ w, f_Table_boardsLaid_4 n m 129 v (nI i) (K mi ml) = some (w, K mi ml) ∧ ∀ j, j < 32 → bt w j = (decide (j < 8) && lds mi j) := by
    intro m
    induction m with
    | zero => intro i v h1 h2; omega
    | succ m ih =>
      intro i v h1 h2 h3
      rw [f_Table_boardsLaid_4]
      by_cases c : i = 8
      · subst c; rw [if_pos (by decide)]; exact ⟨v, rfl, h3⟩
      · rw [if_neg (by rw [il1 (n := 8) (by omega) (by omega)]; omega), holdsBoard_s (by omega), bnd_s]
        unfold f_Table_boardsLaid_26
        cases d : lds mi i with
        | false =>
          rw [if_pos (show b2i false = 0 by decide), nm_t, nI_1]
          refine ih (i + 1) _ (by omega) (by omega) fun j hj => ?_
          rw [b_or, b_0, h3 j hj]
          by_cases e : j = i
          · subst e; rw [d]; simp
          · rw [show decide (j < i + 1) = decide (j < i) from decide_eq_decide.mpr (by omega)]; simp
        | true =>
          rw [if_neg (show ¬ b2i true = 0 by decide), nm_t, nI_1]
          refine ih (i + 1) _ (by omega) (by omega) fun j hj => ?_
          rw [b_or, h3 j hj, sh_1 i (by omega) j hj]
          by_cases e : j = i
          · subst e; rw [d]; simp
          · rw [show decide (j < i + 1) = decide (j < i) from decide_eq_decide.mpr (by omega), decide_eq_false e]; simp
  rw [o_129]
  exact L n 0 0 (by omega) (by omega) fun j hj => by rw [b_0]; simp
theorem ct_cut {S T : Nat → Bool} {m : Nat} (h : ∀ j, j < m → S j = (decide (j < 8) && T j)) (hm : 8 ≤ m) : ct S m = ct T 8 := by
  have h1 : ct S 8 = ct T 8 := ct_ext fun k hk => by rw [h k (by omega), decide_eq_true hk]; rfl
  have h2 : ct (fun i => S (8 + i)) (m - 8) = 0 := (ct_0 _).mpr fun i hi => by
    show S (8 + i) = false
    rw [h (8 + i) (by omega), decide_eq_false (by omega)]; rfl
  have h3 := ct_add S 8 (m - 8)
  rw [show 8 + (m - 8) = m by omega] at h3
  omega
theorem countLays_s (hn : 8 < n) : f_Table_countLays n 129 (K mi ml) = some (nI (ct (lds mi) 8), K mi ml) := by
  unfold f_Table_countLays
  obtain ⟨v, e1, e2⟩ := boardsLaid_s (n := n) (mi := mi) (ml := ml) hn
  rw [o_129, e1, bnd_s, bitCount_s, bnd_s, ct_cut e2 (by omega)]
theorem laysThere_s (hn : 8 < n) : f_Mo_laysThere n 559 (K mi ml) = some (nI (ct (fun b => decide (mi 602 b ≠ -1)) 8), K mi ml) := by
  unfold f_Mo_laysThere
  have L : ∀ m i, i ≤ 8 → 8 - i < m → f_Mo_laysThere_4 n m 559 (nI (ct (fun b => decide (mi 602 b ≠ -1)) i)) (nI i) (K mi ml) = some (nI (ct (fun b => decide (mi 602 b ≠ -1)) 8), K mi ml) := by
    intro m
    induction m with
    | zero => intro i h1 h2; omega
    | succ m ih =>
      intro i h1 h2
      rw [f_Mo_laysThere_4]
      by_cases c : i = 8
      · subst c; rw [if_pos (by decide)]
      · rw [if_neg (by rw [il1 (n := 8) (by omega) (by omega)]; omega), rf_559_71, bnd_s, a_602 (by omega), bnd_s, ← ih (i + 1) (by omega) (by omega)]
        unfold f_Mo_laysThere_23
        by_cases d : mi 602 i = -1
        · rw [if_pos d, nI_1]
          simp only [ct, d, ne_eq, not_true, decide_false, Bool.false_eq_true, if_false, Nat.add_zero]
        · rw [if_neg d, nI_1, nI_1]
          simp only [ct, d, ne_eq, not_false_iff, decide_true, if_true]
  rw [o_559]
  exact L n 0 (by omega) (by omega)
theorem lds_ct (h : IvL nb Bd mi) : ct (lds mi) 8 = ct (fun b => decide (mi 602 b ≠ -1)) 8 := ct_ext fun k hk => by
  unfold lds
  exact decide_eq_decide.mpr (not_congr (h k hk).2.2.symm)
theorem boardOn_s (hq : q < 256) (hn : 8 < n) : f_Table_boardOn n 129 (nI q) (K mi ml) = some (oI (fnd (fun b => laS mi b q) 8 0) (-2), K mi ml) := by
  unfold f_Table_boardOn
  have L : ∀ m i, i ≤ 8 → 8 - i < m → f_Table_boardOn_2 n m 129 (nI q) (nI i) (K mi ml) = some (oI (fnd (fun b => laS mi b q) (8 - i) i) (-2), K mi ml) := by
    intro m
    induction m with
    | zero => intro i h1 h2; omega
    | succ m ih =>
      intro i h1 h2
      rw [f_Table_boardOn_2]
      by_cases c : i = 8
      · subst c; rw [if_pos (by decide)]; rfl
      · rw [if_neg (by rw [il1 (n := 8) (by omega) (by omega)]; omega), rf_129_0, bnd_s, lay_r (by omega), bnd_s, holds_s (la_sh (by omega)) hq, bnd_s, show 8 - i = (8 - (i + 1)) + 1 by omega]
        unfold fnd
        show (if b2i (laS mi i q) = 0 then _ else _) = _
        cases d : laS mi i q with
        | true => rw [if_neg (show ¬ b2i true = 0 by decide), if_pos rfl]; rfl
        | false => rw [if_pos (show b2i false = 0 by decide), if_neg (by decide), nI_1]; exact ih (i + 1) (by omega) (by omega)
  rw [o_129]
  exact L n 0 (by omega) (by omega)
theorem covers_loop (hq : q < 256) : ∀ m i, i ≤ 8 → 8 - i < m → f_Mo_covers_11 n m 559 (nI q) (nI i) (K mi ml) = some (oI (fnd (fun b => decide (mi 603 (256 * b + q) ≠ 0)) (8 - i) i) (-2), K mi ml) := by
  intro m
  induction m with
  | zero => intro i h1 h2; omega
  | succ m ih =>
    intro i h1 h2
    rw [f_Mo_covers_11]
    by_cases c : i = 8
    · subst c; rw [if_pos (by decide)]; rfl
    · rw [if_neg (by rw [il1 (n := 8) (by omega) (by omega)]; omega), rf_559_72, bnd_s, im2 (n := 256), ia3, a_603 (by omega), bnd_s, show 8 - i = (8 - (i + 1)) + 1 by omega]
      unfold fnd
      by_cases d : mi 603 (256 * i + q) = 0
      · rw [if_pos d, if_neg (by simp [d]), nI_1]; exact ih (i + 1) (by omega) (by omega)
      · rw [if_neg d, if_pos (by simp [d])]; rfl
theorem la_603 (h : IvL nb Bd mi) (hb : b < 8) (hq : q < 256) : decide (mi 603 (256 * b + q) ≠ 0) = laS mi b q := by
  rw [(h b hb).2.1 q hq]; exact b2i_d _
theorem layersAt_s (h : IvL nb Bd mi) (hq : q < 256) (hn : 8 < n) : f_Mo_layersAt n 559 (nI q) (K mi ml) = some (nI (ct (fun b => laS mi b q) 8), K mi ml) := by
  unfold f_Mo_layersAt
  have L : ∀ m i, i ≤ 8 → 8 - i < m → f_Mo_layersAt_4 n m 559 (nI q) (nI (ct (fun b => laS mi b q) i)) (nI i) (K mi ml) = some (nI (ct (fun b => laS mi b q) 8), K mi ml) := by
    intro m
    induction m with
    | zero => intro i h1 h2; omega
    | succ m ih =>
      intro i h1 h2
      rw [f_Mo_layersAt_4]
      by_cases c : i = 8
      · subst c; rw [if_pos (by decide)]
      · have e := la_603 h (show i < 8 by omega) hq
        rw [if_neg (by rw [il1 (n := 8) (by omega) (by omega)]; omega), rf_559_72, bnd_s, im2 (n := 256), ia3, a_603 (by omega), bnd_s, ← ih (i + 1) (by omega) (by omega)]
        unfold f_Mo_layersAt_28
        by_cases d : mi 603 (256 * i + q) = 0
        · have e2 : laS mi i q = false := by rw [← e]; simp [d]
          rw [if_pos d, nI_1]
          simp only [ct, e2, Bool.false_eq_true, if_false, Nat.add_zero]
        · have e2 : laS mi i q = true := by rw [← e]; simp [d]
          rw [if_neg d, nI_1, nI_1]
          simp only [ct, e2, if_true]
  rw [o_559]
  exact L n 0 (by omega) (by omega)
def F132 (mi mi' : IM) : Prop := ∀ c, c ≠ 133 → c ≠ 135 → c ≠ 137 → c ≠ 222 → mi' c = mi c
theorem F132.tr {a b c : IM} (h : F132 a b) (h2 : F132 b c) : F132 a c := fun x h3 h4 h5 h6 => by rw [h2 x h3 h4 h5 h6, h x h3 h4 h5 h6]
theorem F132.la {a b : IM} (h : F132 a b) (k : Nat) (hk : k < 8) : laS b k = laS a k := sv_of (h _ (by omega) (by omega) (by omega) (by omega))
theorem F132.kp {a b : IM} (h : F132 a b) (hb : B01 a) : Kp a b := ⟨fun j => by rw [h 567 (by omega) (by omega) (by omega) (by omega)]; exact hb j, fun c j hs => by
  have := St_no hs
  rw [h c (by omega) (by omega) (by omega) (by omega)]⟩
theorem unite_s (hn : 8 < n) : ∃ mi', f_Table_unite n 129 221 (K mi ml) = some (K mi' ml) ∧ svS mi' 221 = cu (unS (laS mi) 8) ∧ F132 mi mi' := by
  unfold f_Table_unite
  have L : ∀ m i s, i ≤ 8 → 8 - i < m → svS s 221 = cu (unS (laS mi) i) → F132 mi s → ∃ mi', f_Table_unite_6 n m 129 221 (nI i) (K s ml) = some (K mi' ml) ∧ svS mi' 221 = cu (unS (laS mi) 8) ∧ F132 mi mi' := by
    intro m
    induction m with
    | zero => intro i s h1 h2; omega
    | succ m ih =>
      intro i s h1 h2 h3 h4
      rw [f_Table_unite_6]
      by_cases c : i = 8
      · subst c; rw [if_pos (by decide)]; exact ⟨s, rfl, h3, h4⟩
      · rw [if_neg (by rw [il1 (n := 8) (by omega) (by omega)]; omega), rf_129_0, bnd_s, lay_r (by omega), bnd_s, join_s sh221 (la_sh (by omega)) (by omega) hn, bnd_s, nI_1]
        refine ih (i + 1) _ (by omega) (by omega) ?_ (h4.tr fun c _ _ _ h => setRw_ne h)
        rw [sv_set, orR_S]
        refine cu_ext fun j hj => ?_
        show (svS s 221 j || laS s i j) = (unS (laS mi) i j || laS mi i j)
        rw [h3, cu_in hj, h4.la i (by omega)]
  rw [o_129, clear_s sh221 hn, bnd_s]
  refine L n 0 _ (by omega) (by omega) ?_ (fun c _ _ _ h => setRw_ne h)
  rw [sv_set]
  exact cu_ext fun j hj => b_0 _
theorem clash_loop (hn : 8 < n) {k9 : Nat → MM → Option (Int32 × MM)} : ∀ m i s, i ≤ 8 → 8 - i < m → svS s 132 = cu (unS (laS mi) i) → svS s 134 = cu (agS (laS mi) i) → F132 mi s → ∃ mi', f_Table_countClashes_16 n k9 m 129 (nI i) (K s ml) = k9 129 (K mi' ml) ∧ svS mi' 132 = cu (unS (laS mi) 8) ∧ svS mi' 134 = cu (agS (laS mi) 8) ∧ F132 mi mi' := by
  intro m
  induction m with
  | zero => intro i s h1 h2; omega
  | succ m ih =>
    intro i s h1 h2 h3 h4 h5
    rw [f_Table_countClashes_16]
    by_cases c : i = 8
    · subst c; rw [if_pos (by decide)]; exact ⟨s, rfl, h3, h4, h5⟩
    · rw [if_neg (by rw [il1 (n := 8) (by omega) (by omega)]; omega), rf_129_4, bnd_s, rf_129_0, bnd_s, lay_r (by omega), bnd_s, copy_s sh136 (la_sh (by omega)) (by omega) hn, bnd_s, rf_129_4, bnd_s, rf_129_2, bnd_s, keepCommon_s sh136 sh132 (by omega) hn, bnd_s, rf_129_3, bnd_s, rf_129_4, bnd_s, join_s sh134 sh136 (by omega) hn, bnd_s, rf_129_2, bnd_s, rf_129_0, bnd_s, lay_r (by omega), bnd_s, join_s sh132 (la_sh (by omega)) (by omega) hn, bnd_s, nI_1]
      generalize e1 : setRw s 136 (s (138 + 2 * i + 1)) = s1
      generalize e2 : setRw s1 136 (fun y => s1 (136 + 1) y &&& s1 (132 + 1) y) = s2
      generalize e3 : setRw s2 134 (fun y => s2 (134 + 1) y ||| s2 (136 + 1) y) = s3
      have f1 : F132 s s1 := fun c _ _ h _ => by rw [← e1, setRw_ne h]
      have f2 : F132 s1 s2 := fun c _ _ h _ => by rw [← e2, setRw_ne h]
      have f3 : F132 s2 s3 := fun c _ h _ _ => by rw [← e3, setRw_ne h]
      have hla : svS s (138 + 2 * i) = laS mi i := h5.la i (by omega)
      have a1 : svS s1 136 = laS mi i := by rw [← e1, sv_set]; exact hla
      have a2 : svS s1 132 = svS s 132 := by rw [← e1, sv_ne (by omega)]
      have a3 : svS s2 136 = cu (fun j => laS mi i j && unS (laS mi) i j) := by
        rw [← e2, sv_set, anR_S]
        refine cu_ext fun j hj => ?_
        show (svS s1 136 j && svS s1 132 j) = _
        rw [a1, a2, h3, cu_in hj]
      have a4 : svS s3 134 = cu (agS (laS mi) (i + 1)) := by
        rw [← e3, sv_set, orR_S]
        refine cu_ext fun j hj => ?_
        show (svS s2 134 j || svS s2 136 j) = (agS (laS mi) i j || (laS mi i j && unS (laS mi) i j))
        rw [a3, cu_in hj, show svS s2 134 = svS s 134 by rw [← e2, sv_ne (by omega), ← e1, sv_ne (by omega)], h4, cu_in hj]
      have a5 : svS s3 132 = svS s 132 := by rw [← e3, sv_ne (by omega), ← e2, sv_ne (by omega), ← e1, sv_ne (by omega)]
      refine ih (i + 1) _ (by omega) (by omega) ?_ (by rw [sv_ne (by omega)]; exact a4) (h5.tr (f1.tr (f2.tr (f3.tr fun c h _ _ _ => setRw_ne h))))
      rw [sv_set, orR_S]
      refine cu_ext fun j hj => ?_
      show (svS s3 132 j || laS s3 i j) = (unS (laS mi) i j || laS mi i j)
      rw [a5, h3, cu_in hj, ((f1.tr (f2.tr f3)).la i (by omega)), h5.la i (by omega)]
theorem countClashes_s (hn : 8 < n) : ∃ mi', f_Table_countClashes n 129 (K mi ml) = some (nI (ct (agS (laS mi) 8) 256), K mi' ml) ∧ svS mi' 132 = cu (unS (laS mi) 8) ∧ F132 mi mi' := by
  unfold f_Table_countClashes
  rw [o_129, rf_129_2, bnd_s, clear_s sh132 hn, bnd_s, rf_129_3, bnd_s, clear_s sh134 hn, bnd_s]
  have z : ∀ s : IM, rS (fun _ => (0 : Int32)) = cu (fun _ => false) := fun _ => cu_ext fun j hj => b_0 _
  obtain ⟨m1, a1, a2, a3, a4⟩ := clash_loop (n := n) (mi := mi) (ml := ml) hn (k9 := f_Table_countClashes_76 n) n 0 (setRw (setRw mi 132 (fun _ => 0)) 134 (fun _ => 0)) (by omega) (by omega) (by rw [sv_ne (by omega), sv_set, z mi]; rfl) (by rw [sv_set, z mi]; rfl) (fun c h1 h2 _ _ => by rw [setRw_ne h2, setRw_ne h1])
  refine ⟨m1, ?_, a2, a4⟩
  refine Eq.trans a1 ?_
  unfold f_Table_countClashes_76
  rw [rf_129_3, bnd_s, countQuarters_s sh134 hn, bnd_s, a3, ct_ext fun k hk => cu_in hk]
theorem clashes_s (h : IvL nb Bd mi) (hn : 256 < n) : f_Mo_clashes n 559 (K mi ml) = some (nI (ct (agS (laS mi) 8) 256), K mi ml) := by
  unfold f_Mo_clashes
  have L : ∀ m i, i ≤ 256 → 256 - i < m → f_Mo_clashes_4 n m 559 (nI (ct (agS (laS mi) 8) i)) (nI i) (K mi ml) = some (nI (ct (agS (laS mi) 8) 256), K mi ml) := by
    intro m
    induction m with
    | zero => intro i h1 h2; omega
    | succ m ih =>
      intro i h1 h2
      rw [f_Mo_clashes_4]
      by_cases c : i = 256
      · subst c; rw [if_pos (by decide)]
      · have e := (un_ct (laS mi) i 8).2
        have hc := ct_le (fun b => laS mi b i) 8
        rw [if_neg (by rw [il1 (n := 256) (by omega) (by omega)]; omega), layersAt_s h (by omega) (by omega), bnd_s, ← ih (i + 1) (by omega) (by omega)]
        unfold f_Mo_clashes_23
        by_cases d : 1 < ct (fun b => laS mi b i) 8
        · have e2 : agS (laS mi) 8 i = true := by rw [e]; exact decide_eq_true d
          rw [if_neg (by rw [il2 (n := 1) (by omega) (by omega)]; omega), nI_1, nI_1]
          simp only [ct, e2, if_true]
        · have e2 : agS (laS mi) 8 i = false := by rw [e]; exact decide_eq_false d
          rw [if_pos (by rw [il2 (n := 1) (by omega) (by omega)]; omega), nI_1]
          simp only [ct, e2, Bool.false_eq_true, if_false, Nat.add_zero]
  rw [o_559]
  exact L n 0 (by omega) (by omega)
end TBL
theorem sq_covers {x1 : Int32} : SQ Inv (f_Q_covers NF 0 x1) (f_Mo_covers NF 559 x1) := by
  refine sq_keep fun l nb no Bd Ou mi ml hI => ?_
  have hL := hI.2.2.2.2.1
  unfold f_Q_covers f_Mo_covers
  rw [o_0]
  rcases quarter_c x1 NF with q | ⟨q, q1, q2, q3⟩
  · rw [(q _).1, bnd_s, if_pos rfl]
    exact ⟨-1, mi, mi, rfl, by rw [o_559, (q _).2, bnd_s, if_pos rfl], Kp.rf hI.1⟩
  · rw [(q3 _).1, bnd_s, if_neg n10, rf_0_14, bnd_s, q2, boardOn_s q1 (by decide), bnd_s]
    refine ⟨_, mi, mi, rfl, ?_, Kp.rf hI.1⟩
    rw [o_559, ← q2, (q3 _).2, bnd_s, if_neg n10, q2, show (0 : Int32) = nI 0 from rfl, covers_loop q1 NF 0 (by omega) (by decide)]
    rw [fnd_ext fun j _ hj => la_603 hL (show j < 8 by omega) q1]
theorem sq_clashes : SQ Inv (f_Q_clashes NF 0) (f_Mo_clashes NF 559) := by
  refine sq_keep fun l nb no Bd Ou mi ml hI => ?_
  obtain ⟨m1, a1, a2, a3⟩ := countClashes_s (n := NF) (mi := mi) (ml := ml) (by decide)
  have k1 := a3.kp hI.1
  have hL := (IV_keep hI k1).2.2.2.2.1
  refine ⟨nI (ct (agS (laS mi) 8) 256), m1, m1, ?_, ?_, k1⟩
  · unfold f_Q_clashes
    rw [o_0, rf_0_14, bnd_s, a1, bnd_s]
  · rw [clashes_s hL (by decide)]
    have e : agS (laS m1) 8 = agS (laS mi) 8 := by
      funext i
      rw [(un_ct _ i 8).2, (un_ct _ i 8).2, ct_ext fun k hk => by rw [a3.la k hk]]
    rw [e]
theorem sq_count {x1 : Int32} : SQ Inv (f_Q_count NF 0 x1) (f_Mo_count NF 559 x1) := by
  refine sq_keep fun l nb no Bd Ou mi ml hI => ?_
  obtain ⟨⟨b1, b2, b3⟩, ⟨b4, b5, b6, b7, b8⟩, _, _⟩ := hI.2.2.1
  obtain ⟨e, k1, k2, k3, _⟩ := hI.2.2.2.2.2.1
  obtain ⟨⟨t, t1, t2, t3, _⟩, _⟩ := hI.2.2.2.1
  unfold f_Q_count f_Mo_count
  rw [o_0]
  by_cases c0 : x1 = 0
  · rw [if_pos c0, g_0, bnd_s]
    exact ⟨_, mi, mi, rfl, by rw [o_559, if_pos c0, rf_559_21, bnd_s, g_559, bnd_s, b4, a_568 (by omega), bnd_s, b6, b5], Kp.rf hI.1⟩
  · rw [if_neg c0]
    by_cases c1 : x1 = 1
    · rw [if_pos c1, g_0, bnd_s]
      exact ⟨_, mi, mi, rfl, by rw [o_559, if_neg c0, if_pos c1, rf_559_22, bnd_s, g_559, bnd_s, b4, a_569 (by omega), bnd_s, b8, b7], Kp.rf hI.1⟩
    · rw [if_neg c1]
      by_cases c2 : x1 = 2
      · rw [if_pos c2, rf_0_14, bnd_s, countLays_s (by decide), bnd_s]
        exact ⟨_, mi, mi, rfl, by rw [o_559, if_neg c0, if_neg c1, if_pos c2, laysThere_s (by decide), bnd_s, lds_ct hI.2.2.2.2.1], Kp.rf hI.1⟩
      · rw [if_neg c2]
        by_cases c3 : x1 = 3
        · rw [if_pos c3, rf_0_15, bnd_s, g_154, bnd_s]
          exact ⟨_, mi, mi, rfl, by rw [o_559, if_neg c0, if_neg c1, if_neg c2, if_pos c3, g_559, bnd_s, k2, k3], Kp.rf hI.1⟩
        · rw [if_neg c3]
          by_cases c4 : x1 = 4
          · rw [if_pos c4, g_0, bnd_s]
            exact ⟨_, mi, mi, rfl, by rw [o_559, if_neg c0, if_neg c1, if_neg c2, if_neg c3, if_pos c4, g_559, bnd_s, t2, t3], Kp.rf hI.1⟩
          · rw [if_neg c4]
            exact ⟨_, mi, mi, rfl, by rw [o_559, if_neg c0, if_neg c1, if_neg c2, if_neg c3, if_neg c4], Kp.rf hI.1⟩
