theorem d_Shape_copy_0 : DC m_Shape_copy 0 (.iconst 0) 1 1 := ⟨by decide +kernel, rfl⟩
theorem d_Shape_copy_1 : DC m_Shape_copy 1 (.istore_n 2) 1 2 := ⟨by decide +kernel, rfl⟩
theorem d_Shape_copy_2 : DC m_Shape_copy 2 (.iload_n 2) 1 3 := ⟨by decide +kernel, rfl⟩
theorem d_Shape_copy_3 : DC m_Shape_copy 3 (.bipush 8) 2 5 := ⟨by decide +kernel, rfl⟩
theorem d_Shape_copy_5 : DC m_Shape_copy 5 (.if_icmp .ge 21) 3 8 := ⟨by decide +kernel, rfl⟩
theorem d_Shape_copy_8 : DC m_Shape_copy 8 (.aload_n 0) 1 9 := ⟨by decide +kernel, rfl⟩
theorem d_Shape_copy_9 : DC m_Shape_copy 9 (.getfield 9) 3 12 := ⟨by decide +kernel, rfl⟩
theorem d_Shape_copy_12 : DC m_Shape_copy 12 (.iload_n 2) 1 13 := ⟨by decide +kernel, rfl⟩
theorem d_Shape_copy_13 : DC m_Shape_copy 13 (.aload_n 1) 1 14 := ⟨by decide +kernel, rfl⟩
theorem d_Shape_copy_14 : DC m_Shape_copy 14 (.getfield 9) 3 17 := ⟨by decide +kernel, rfl⟩
theorem d_Shape_copy_17 : DC m_Shape_copy 17 (.iload_n 2) 1 18 := ⟨by decide +kernel, rfl⟩
theorem d_Shape_copy_18 : DC m_Shape_copy 18 .iaload 1 19 := ⟨by decide +kernel, rfl⟩
theorem d_Shape_copy_19 : DC m_Shape_copy 19 .iastore 1 20 := ⟨by decide +kernel, rfl⟩
theorem d_Shape_copy_20 : DC m_Shape_copy 20 (.iinc 2 1) 3 23 := ⟨by decide +kernel, rfl⟩
theorem d_Shape_copy_23 : DC m_Shape_copy 23 (.goto (-21)) 3 26 := ⟨by decide +kernel, rfl⟩
theorem d_Shape_copy_26 : DC m_Shape_copy 26 .return_ 1 27 := ⟨by decide +kernel, rfl⟩
def f_Shape_copy_2 (n : Nat) : Nat → Nat → Nat → Int32 → MM → Option (MM)
  | 0, _, _, _, _ => none
  | m + 1, x0, x1, x2, M =>
    if 8 ≤ x2 then
      some M
    else
      (gR 7 0 x0 M).bind fun v2 =>
      (gR 7 0 x1 M).bind fun v3 =>
      (aI 100 v3 x2 M).bind fun v4 =>
      (sI 100 v2 x2 v4 M).bind fun M5 =>
      f_Shape_copy_2 n m x0 x1 (x2 + 1) M5
theorem t_Shape_copy_2 (n : Nat) : ∀ (m : Nat) (x0 : Nat) (x1 : Nat) (x2 : Int32) (M : MM) (z : MM), f_Shape_copy_2 n m x0 x1 x2 M = some z → EV m_Shape_copy (rm 1 0 0) none z 0 0 2 [some (.ref x0), some (.ref x1), some (.int x2)] [] M := by
  intro m
  induction m with
  | zero => intro x0 x1 x2 M z h; cases h
  | succ m ih =>
    intro x0 x1 x2 M z h
    rw [f_Shape_copy_2] at h
    refine e_iload_n d_Shape_copy_2 rfl ?_
    refine e_bipush (v := 8) d_Shape_copy_3 (by decide) ?_
    refine e_ic_ge 26 d_Shape_copy_5 (by decide) (fun c1 => ?_) (fun c1 => ?_)
    · replace h := ift c1 h
      cases h
      exact e_vret d_Shape_copy_26 rfl (Nat.le_refl _) (Nat.le_refl _)
    · replace h := ifn c1 h
      refine e_aload_n d_Shape_copy_8 rfl ?_
      obtain ⟨v2, hv2, h⟩ := bnd h
      refine e_getR d_Shape_copy_9 fl_Shape_9 (fun _ _ _ => rfl) hv2 ?_
      refine e_iload_n d_Shape_copy_12 rfl ?_
      refine e_aload_n d_Shape_copy_13 rfl ?_
      obtain ⟨v3, hv3, h⟩ := bnd h
      refine e_getR d_Shape_copy_14 fl_Shape_9 (fun _ _ _ => rfl) hv3 ?_
      refine e_iload_n d_Shape_copy_17 rfl ?_
      obtain ⟨v4, hv4, h⟩ := bnd h
      refine e_iald d_Shape_copy_18 hv4 ?_
      obtain ⟨M5, hM5, h⟩ := bnd h
      refine e_iast d_Shape_copy_19 hM5 ?_
      refine e_iinc (v := x2 + 1) (l2 := [some (.ref x0), some (.ref x1), some (.int (x2 + 1))]) d_Shape_copy_20 rfl rfl rfl (okl rfl) rfl ?_
      refine e_goto 2 d_Shape_copy_23 (by decide) ?_
      exact (ih x0 x1 (x2 + 1) M5 z h).less (show LSub _ _ from ⟨rfl, ⟨rfl, ⟨rfl, trivial⟩⟩⟩)
def f_Shape_copy (n : Nat) (x0 : Nat) (x1 : Nat) (M : MM) : Option (MM) :=
  og 7 x0 M <|
  f_Shape_copy_2 n n x0 x1 0 M
theorem fc_Shape_copy {n : Nat} {x0 : Nat} {x1 : Nat} {M : MM} {z : MM} (h : f_Shape_copy n x0 x1 M = some z) : (M.1.2.1 x0).1 = 7 := by
  unfold f_Shape_copy at h
  exact (og_s h).1
theorem t_Shape_copy (n : Nat) (x0 : Nat) (x1 : Nat) (M : MM) (z : MM) (h : f_Shape_copy n x0 x1 M = some z) : CT m_Shape_copy (rm 1 0 0) [.ref x0, .ref x1] M none z := by
  unfold f_Shape_copy at h
  obtain ⟨hthis, h⟩ := og_s h
  refine CT.of (ls := [some (.ref x0), some (.ref x1), none]) rfl (okp rfl) rfl ?_
  refine e_iconst (v := 0) d_Shape_copy_0 (by decide) ?_
  refine e_istore_n (l2 := [some (.ref x0), some (.ref x1), some (.int 0)]) d_Shape_copy_1 rfl (okl rfl) rfl ?_
  exact (t_Shape_copy_2 n n x0 x1 0 M z h).less (show LSub _ _ from ⟨rfl, ⟨rfl, ⟨rfl, trivial⟩⟩⟩)
theorem d_Shape_clear_0 : DC m_Shape_clear 0 (.iconst 0) 1 1 := ⟨by decide +kernel, rfl⟩
theorem d_Shape_clear_1 : DC m_Shape_clear 1 (.istore_n 1) 1 2 := ⟨by decide +kernel, rfl⟩
theorem d_Shape_clear_2 : DC m_Shape_clear 2 (.iload_n 1) 1 3 := ⟨by decide +kernel, rfl⟩
theorem d_Shape_clear_3 : DC m_Shape_clear 3 (.bipush 8) 2 5 := ⟨by decide +kernel, rfl⟩
theorem d_Shape_clear_5 : DC m_Shape_clear 5 (.if_icmp .ge 16) 3 8 := ⟨by decide +kernel, rfl⟩
theorem d_Shape_clear_8 : DC m_Shape_clear 8 (.aload_n 0) 1 9 := ⟨by decide +kernel, rfl⟩
theorem d_Shape_clear_9 : DC m_Shape_clear 9 (.getfield 9) 3 12 := ⟨by decide +kernel, rfl⟩
theorem d_Shape_clear_12 : DC m_Shape_clear 12 (.iload_n 1) 1 13 := ⟨by decide +kernel, rfl⟩
theorem d_Shape_clear_13 : DC m_Shape_clear 13 (.iconst 0) 1 14 := ⟨by decide +kernel, rfl⟩
theorem d_Shape_clear_14 : DC m_Shape_clear 14 .iastore 1 15 := ⟨by decide +kernel, rfl⟩
theorem d_Shape_clear_15 : DC m_Shape_clear 15 (.iinc 1 1) 3 18 := ⟨by decide +kernel, rfl⟩
theorem d_Shape_clear_18 : DC m_Shape_clear 18 (.goto (-16)) 3 21 := ⟨by decide +kernel, rfl⟩
theorem d_Shape_clear_21 : DC m_Shape_clear 21 .return_ 1 22 := ⟨by decide +kernel, rfl⟩
def f_Shape_clear_2 (n : Nat) : Nat → Nat → Int32 → MM → Option (MM)
  | 0, _, _, _ => none
  | m + 1, x0, x1, M =>
    if 8 ≤ x1 then
      some M
    else
      (gR 7 0 x0 M).bind fun v2 =>
      (sI 100 v2 x1 0 M).bind fun M3 =>
      f_Shape_clear_2 n m x0 (x1 + 1) M3
theorem t_Shape_clear_2 (n : Nat) : ∀ (m : Nat) (x0 : Nat) (x1 : Int32) (M : MM) (z : MM), f_Shape_clear_2 n m x0 x1 M = some z → EV m_Shape_clear (rm 1 0 0) none z 0 0 2 [some (.ref x0), some (.int x1)] [] M := by
  intro m
  induction m with
  | zero => intro x0 x1 M z h; cases h
  | succ m ih =>
    intro x0 x1 M z h
    rw [f_Shape_clear_2] at h
    refine e_iload_n d_Shape_clear_2 rfl ?_
    refine e_bipush (v := 8) d_Shape_clear_3 (by decide) ?_
    refine e_ic_ge 21 d_Shape_clear_5 (by decide) (fun c1 => ?_) (fun c1 => ?_)
    · replace h := ift c1 h
      cases h
      exact e_vret d_Shape_clear_21 rfl (Nat.le_refl _) (Nat.le_refl _)
    · replace h := ifn c1 h
      refine e_aload_n d_Shape_clear_8 rfl ?_
      obtain ⟨v2, hv2, h⟩ := bnd h
      refine e_getR d_Shape_clear_9 fl_Shape_9 (fun _ _ _ => rfl) hv2 ?_
      refine e_iload_n d_Shape_clear_12 rfl ?_
      refine e_iconst (v := 0) d_Shape_clear_13 (by decide) ?_
      obtain ⟨M3, hM3, h⟩ := bnd h
      refine e_iast d_Shape_clear_14 hM3 ?_
      refine e_iinc (v := x1 + 1) (l2 := [some (.ref x0), some (.int (x1 + 1))]) d_Shape_clear_15 rfl rfl rfl (okl rfl) rfl ?_
      refine e_goto 2 d_Shape_clear_18 (by decide) ?_
      exact (ih x0 (x1 + 1) M3 z h).less (show LSub _ _ from ⟨rfl, ⟨rfl, trivial⟩⟩)
def f_Shape_clear (n : Nat) (x0 : Nat) (M : MM) : Option (MM) :=
  og 7 x0 M <|
  f_Shape_clear_2 n n x0 0 M
theorem fc_Shape_clear {n : Nat} {x0 : Nat} {M : MM} {z : MM} (h : f_Shape_clear n x0 M = some z) : (M.1.2.1 x0).1 = 7 := by
  unfold f_Shape_clear at h
  exact (og_s h).1
theorem t_Shape_clear (n : Nat) (x0 : Nat) (M : MM) (z : MM) (h : f_Shape_clear n x0 M = some z) : CT m_Shape_clear (rm 1 0 0) [.ref x0] M none z := by
  unfold f_Shape_clear at h
  obtain ⟨hthis, h⟩ := og_s h
  refine CT.of (ls := [some (.ref x0), none]) rfl (okp rfl) rfl ?_
  refine e_iconst (v := 0) d_Shape_clear_0 (by decide) ?_
  refine e_istore_n (l2 := [some (.ref x0), some (.int 0)]) d_Shape_clear_1 rfl (okl rfl) rfl ?_
  exact (t_Shape_clear_2 n n x0 0 M z h).less (show LSub _ _ from ⟨rfl, ⟨rfl, trivial⟩⟩)
theorem d_Shape_addCell_0 : DC m_Shape_addCell 0 (.iload_n 1) 1 1 := ⟨by decide +kernel, rfl⟩
theorem d_Shape_addCell_1 : DC m_Shape_addCell 1 (.ifCond .lt 36) 3 4 := ⟨by decide +kernel, rfl⟩
theorem d_Shape_addCell_4 : DC m_Shape_addCell 4 (.iload_n 1) 1 5 := ⟨by decide +kernel, rfl⟩
theorem d_Shape_addCell_5 : DC m_Shape_addCell 5 (.bipush 8) 2 7 := ⟨by decide +kernel, rfl⟩
theorem d_Shape_addCell_7 : DC m_Shape_addCell 7 (.if_icmp .ge 30) 3 10 := ⟨by decide +kernel, rfl⟩
theorem d_Shape_addCell_10 : DC m_Shape_addCell 10 (.iload_n 2) 1 11 := ⟨by decide +kernel, rfl⟩
theorem d_Shape_addCell_11 : DC m_Shape_addCell 11 (.ifCond .lt 26) 3 14 := ⟨by decide +kernel, rfl⟩
theorem d_Shape_addCell_14 : DC m_Shape_addCell 14 (.iload_n 2) 1 15 := ⟨by decide +kernel, rfl⟩
theorem d_Shape_addCell_15 : DC m_Shape_addCell 15 (.bipush 8) 2 17 := ⟨by decide +kernel, rfl⟩
theorem d_Shape_addCell_17 : DC m_Shape_addCell 17 (.if_icmp .ge 20) 3 20 := ⟨by decide +kernel, rfl⟩
theorem d_Shape_addCell_20 : DC m_Shape_addCell 20 (.aload_n 0) 1 21 := ⟨by decide +kernel, rfl⟩
theorem d_Shape_addCell_21 : DC m_Shape_addCell 21 (.getfield 9) 3 24 := ⟨by decide +kernel, rfl⟩
theorem d_Shape_addCell_24 : DC m_Shape_addCell 24 (.iload_n 2) 1 25 := ⟨by decide +kernel, rfl⟩
theorem d_Shape_addCell_25 : DC m_Shape_addCell 25 .dup2 1 26 := ⟨by decide +kernel, rfl⟩
theorem d_Shape_addCell_26 : DC m_Shape_addCell 26 .iaload 1 27 := ⟨by decide +kernel, rfl⟩
theorem d_Shape_addCell_27 : DC m_Shape_addCell 27 (.iload_n 3) 1 28 := ⟨by decide +kernel, rfl⟩
theorem d_Shape_addCell_28 : DC m_Shape_addCell 28 (.bipush 15) 2 30 := ⟨by decide +kernel, rfl⟩
theorem d_Shape_addCell_30 : DC m_Shape_addCell 30 .iand 1 31 := ⟨by decide +kernel, rfl⟩
theorem d_Shape_addCell_31 : DC m_Shape_addCell 31 (.iconst 4) 1 32 := ⟨by decide +kernel, rfl⟩
theorem d_Shape_addCell_32 : DC m_Shape_addCell 32 (.iload_n 1) 1 33 := ⟨by decide +kernel, rfl⟩
theorem d_Shape_addCell_33 : DC m_Shape_addCell 33 .imul 1 34 := ⟨by decide +kernel, rfl⟩
theorem d_Shape_addCell_34 : DC m_Shape_addCell 34 .ishl 1 35 := ⟨by decide +kernel, rfl⟩
theorem d_Shape_addCell_35 : DC m_Shape_addCell 35 .ior 1 36 := ⟨by decide +kernel, rfl⟩
theorem d_Shape_addCell_36 : DC m_Shape_addCell 36 .iastore 1 37 := ⟨by decide +kernel, rfl⟩
theorem d_Shape_addCell_37 : DC m_Shape_addCell 37 .return_ 1 38 := ⟨by decide +kernel, rfl⟩
def f_Shape_addCell (n : Nat) (x0 : Nat) (x1 : Int32) (x2 : Int32) (x3 : Int32) (M : MM) : Option (MM) :=
  og 7 x0 M <|
  if x1 < 0 then
    some M
  else
    if 8 ≤ x1 then
      some M
    else
      if x2 < 0 then
        some M
      else
        if 8 ≤ x2 then
          some M
        else
          (gR 7 0 x0 M).bind fun v5 =>
          (aI 100 v5 x2 M).bind fun v6 =>
          (sI 100 v5 x2 (v6 ||| (ishl (x3 &&& 15) (4 * x1))) M).bind fun M7 =>
          some M7
theorem fc_Shape_addCell {n : Nat} {x0 : Nat} {x1 : Int32} {x2 : Int32} {x3 : Int32} {M : MM} {z : MM} (h : f_Shape_addCell n x0 x1 x2 x3 M = some z) : (M.1.2.1 x0).1 = 7 := by
  unfold f_Shape_addCell at h
  exact (og_s h).1
theorem t_Shape_addCell (n : Nat) (x0 : Nat) (x1 : Int32) (x2 : Int32) (x3 : Int32) (M : MM) (z : MM) (h : f_Shape_addCell n x0 x1 x2 x3 M = some z) : CT m_Shape_addCell (rm 1 0 0) [.ref x0, .int x1, .int x2, .int x3] M none z := by
  unfold f_Shape_addCell at h
  obtain ⟨hthis, h⟩ := og_s h
  refine CT.of (ls := [some (.ref x0), some (.int x1), some (.int x2), some (.int x3)]) rfl (okp rfl) rfl ?_
  refine e_iload_n d_Shape_addCell_0 rfl ?_
  refine e_if_lt 37 d_Shape_addCell_1 (by decide) (fun c1 => ?_) (fun c1 => ?_)
  · replace h := ift c1 h
    cases h
    exact e_vret d_Shape_addCell_37 rfl (Nat.le_refl _) (Nat.le_refl _)
  · replace h := ifn c1 h
    refine e_iload_n d_Shape_addCell_4 rfl ?_
    refine e_bipush (v := 8) d_Shape_addCell_5 (by decide) ?_
    refine e_ic_ge 37 d_Shape_addCell_7 (by decide) (fun c2 => ?_) (fun c2 => ?_)
    · replace h := ift c2 h
      cases h
      exact e_vret d_Shape_addCell_37 rfl (Nat.le_refl _) (Nat.le_refl _)
    · replace h := ifn c2 h
      refine e_iload_n d_Shape_addCell_10 rfl ?_
      refine e_if_lt 37 d_Shape_addCell_11 (by decide) (fun c3 => ?_) (fun c3 => ?_)
      · replace h := ift c3 h
        cases h
        exact e_vret d_Shape_addCell_37 rfl (Nat.le_refl _) (Nat.le_refl _)
      · replace h := ifn c3 h
        refine e_iload_n d_Shape_addCell_14 rfl ?_
        refine e_bipush (v := 8) d_Shape_addCell_15 (by decide) ?_
        refine e_ic_ge 37 d_Shape_addCell_17 (by decide) (fun c4 => ?_) (fun c4 => ?_)
        · replace h := ift c4 h
          cases h
          exact e_vret d_Shape_addCell_37 rfl (Nat.le_refl _) (Nat.le_refl _)
        · replace h := ifn c4 h
          refine e_aload_n d_Shape_addCell_20 rfl ?_
          obtain ⟨v5, hv5, h⟩ := bnd h
          refine e_getR d_Shape_addCell_21 fl_Shape_9 (fun _ _ _ => rfl) hv5 ?_
          refine e_iload_n d_Shape_addCell_24 rfl ?_
          refine e_dup2 d_Shape_addCell_25 rfl rfl ?_
          obtain ⟨v6, hv6, h⟩ := bnd h
          refine e_iald d_Shape_addCell_26 hv6 ?_
          refine e_iload_n d_Shape_addCell_27 rfl ?_
          refine e_bipush (v := 15) d_Shape_addCell_28 (by decide) ?_
          refine e_iand d_Shape_addCell_30 ?_
          refine e_iconst (v := 4) d_Shape_addCell_31 (by decide) ?_
          refine e_iload_n d_Shape_addCell_32 rfl ?_
          refine e_imul d_Shape_addCell_33 ?_
          refine e_ishl d_Shape_addCell_34 ?_
          refine e_ior d_Shape_addCell_35 ?_
          obtain ⟨M7, hM7, h⟩ := bnd h
          refine e_iast d_Shape_addCell_36 hM7 ?_
          cases h
          exact e_vret d_Shape_addCell_37 rfl (Nat.le_refl _) (Nat.le_refl _)
theorem d_Shape_cell_0 : DC m_Shape_cell 0 (.iload_n 1) 1 1 := ⟨by decide +kernel, rfl⟩
theorem d_Shape_cell_1 : DC m_Shape_cell 1 (.ifCond .lt 19) 3 4 := ⟨by decide +kernel, rfl⟩
theorem d_Shape_cell_4 : DC m_Shape_cell 4 (.iload_n 1) 1 5 := ⟨by decide +kernel, rfl⟩
theorem d_Shape_cell_5 : DC m_Shape_cell 5 (.bipush 8) 2 7 := ⟨by decide +kernel, rfl⟩
theorem d_Shape_cell_7 : DC m_Shape_cell 7 (.if_icmp .ge 13) 3 10 := ⟨by decide +kernel, rfl⟩
theorem d_Shape_cell_10 : DC m_Shape_cell 10 (.iload_n 2) 1 11 := ⟨by decide +kernel, rfl⟩
theorem d_Shape_cell_11 : DC m_Shape_cell 11 (.ifCond .lt 9) 3 14 := ⟨by decide +kernel, rfl⟩
theorem d_Shape_cell_14 : DC m_Shape_cell 14 (.iload_n 2) 1 15 := ⟨by decide +kernel, rfl⟩
theorem d_Shape_cell_15 : DC m_Shape_cell 15 (.bipush 8) 2 17 := ⟨by decide +kernel, rfl⟩
theorem d_Shape_cell_17 : DC m_Shape_cell 17 (.if_icmp .lt 5) 3 20 := ⟨by decide +kernel, rfl⟩
theorem d_Shape_cell_20 : DC m_Shape_cell 20 (.iconst 0) 1 21 := ⟨by decide +kernel, rfl⟩
theorem d_Shape_cell_21 : DC m_Shape_cell 21 .ireturn 1 22 := ⟨by decide +kernel, rfl⟩
theorem d_Shape_cell_22 : DC m_Shape_cell 22 (.aload_n 0) 1 23 := ⟨by decide +kernel, rfl⟩
theorem d_Shape_cell_23 : DC m_Shape_cell 23 (.getfield 9) 3 26 := ⟨by decide +kernel, rfl⟩
theorem d_Shape_cell_26 : DC m_Shape_cell 26 (.iload_n 2) 1 27 := ⟨by decide +kernel, rfl⟩
theorem d_Shape_cell_27 : DC m_Shape_cell 27 .iaload 1 28 := ⟨by decide +kernel, rfl⟩
theorem d_Shape_cell_28 : DC m_Shape_cell 28 (.iconst 4) 1 29 := ⟨by decide +kernel, rfl⟩
theorem d_Shape_cell_29 : DC m_Shape_cell 29 (.iload_n 1) 1 30 := ⟨by decide +kernel, rfl⟩
theorem d_Shape_cell_30 : DC m_Shape_cell 30 .imul 1 31 := ⟨by decide +kernel, rfl⟩
theorem d_Shape_cell_31 : DC m_Shape_cell 31 .iushr 1 32 := ⟨by decide +kernel, rfl⟩
theorem d_Shape_cell_32 : DC m_Shape_cell 32 (.bipush 15) 2 34 := ⟨by decide +kernel, rfl⟩
theorem d_Shape_cell_34 : DC m_Shape_cell 34 .iand 1 35 := ⟨by decide +kernel, rfl⟩
theorem d_Shape_cell_35 : DC m_Shape_cell 35 .ireturn 1 36 := ⟨by decide +kernel, rfl⟩
def f_Shape_cell (n : Nat) (x0 : Nat) (x1 : Int32) (x2 : Int32) (M : MM) : Option (Int32 × MM) :=
  og 7 x0 M <|
  if x1 < 0 then
    some (0, M)
  else
    if 8 ≤ x1 then
      some (0, M)
    else
      if x2 < 0 then
        some (0, M)
      else
        if x2 < 8 then
          (gR 7 0 x0 M).bind fun v5 =>
          (aI 100 v5 x2 M).bind fun v6 =>
          some (((ushr v6 (4 * x1)) &&& 15), M)
        else
          some (0, M)
theorem fc_Shape_cell {n : Nat} {x0 : Nat} {x1 : Int32} {x2 : Int32} {M : MM} {z : Int32 × MM} (h : f_Shape_cell n x0 x1 x2 M = some z) : (M.1.2.1 x0).1 = 7 := by
  unfold f_Shape_cell at h
  exact (og_s h).1
theorem t_Shape_cell (n : Nat) (x0 : Nat) (x1 : Int32) (x2 : Int32) (M : MM) (z : Int32 × MM) (h : f_Shape_cell n x0 x1 x2 M = some z) : CT m_Shape_cell (rm 1 0 0) [.ref x0, .int x1, .int x2] M (some (.int z.1)) z.2 := by
  unfold f_Shape_cell at h
  obtain ⟨hthis, h⟩ := og_s h
  refine CT.of (ls := [some (.ref x0), some (.int x1), some (.int x2)]) rfl (okp rfl) rfl ?_
  refine e_iload_n d_Shape_cell_0 rfl ?_
  refine e_if_lt 20 d_Shape_cell_1 (by decide) (fun c1 => ?_) (fun c1 => ?_)
  · replace h := ift c1 h
    refine e_iconst (v := 0) d_Shape_cell_20 (by decide) ?_
    cases h
    exact e_iret d_Shape_cell_21 rfl (Nat.le_refl _) (Nat.le_refl _)
  · replace h := ifn c1 h
    refine e_iload_n d_Shape_cell_4 rfl ?_
    refine e_bipush (v := 8) d_Shape_cell_5 (by decide) ?_
    refine e_ic_ge 20 d_Shape_cell_7 (by decide) (fun c2 => ?_) (fun c2 => ?_)
    · replace h := ift c2 h
      refine e_iconst (v := 0) d_Shape_cell_20 (by decide) ?_
      cases h
      exact e_iret d_Shape_cell_21 rfl (Nat.le_refl _) (Nat.le_refl _)
    · replace h := ifn c2 h
      refine e_iload_n d_Shape_cell_10 rfl ?_
      refine e_if_lt 20 d_Shape_cell_11 (by decide) (fun c3 => ?_) (fun c3 => ?_)
      · replace h := ift c3 h
        refine e_iconst (v := 0) d_Shape_cell_20 (by decide) ?_
        cases h
        exact e_iret d_Shape_cell_21 rfl (Nat.le_refl _) (Nat.le_refl _)
      · replace h := ifn c3 h
        refine e_iload_n d_Shape_cell_14 rfl ?_
        refine e_bipush (v := 8) d_Shape_cell_15 (by decide) ?_
        refine e_ic_lt 22 d_Shape_cell_17 (by decide) (fun c4 => ?_) (fun c4 => ?_)
        · replace h := ift c4 h
          refine e_aload_n d_Shape_cell_22 rfl ?_
          obtain ⟨v5, hv5, h⟩ := bnd h
          refine e_getR d_Shape_cell_23 fl_Shape_9 (fun _ _ _ => rfl) hv5 ?_
          refine e_iload_n d_Shape_cell_26 rfl ?_
          obtain ⟨v6, hv6, h⟩ := bnd h
          refine e_iald d_Shape_cell_27 hv6 ?_
          refine e_iconst (v := 4) d_Shape_cell_28 (by decide) ?_
          refine e_iload_n d_Shape_cell_29 rfl ?_
          refine e_imul d_Shape_cell_30 ?_
          refine e_iushr d_Shape_cell_31 ?_
          refine e_bipush (v := 15) d_Shape_cell_32 (by decide) ?_
          refine e_iand d_Shape_cell_34 ?_
          cases h
          exact e_iret d_Shape_cell_35 rfl (Nat.le_refl _) (Nat.le_refl _)
        · replace h := ifn c4 h
          refine e_iconst (v := 0) d_Shape_cell_20 (by decide) ?_
          cases h
          exact e_iret d_Shape_cell_21 rfl (Nat.le_refl _) (Nat.le_refl _)
theorem d_Shape_becomeTurned_0 : DC m_Shape_becomeTurned 0 (.aload_n 0) 1 1 := ⟨by decide +kernel, rfl⟩
theorem d_Shape_becomeTurned_1 : DC m_Shape_becomeTurned 1 (.invokevirtual 44) 3 4 := ⟨by decide +kernel, rfl⟩
theorem d_Shape_becomeTurned_4 : DC m_Shape_becomeTurned 4 (.iconst 0) 1 5 := ⟨by decide +kernel, rfl⟩
theorem d_Shape_becomeTurned_5 : DC m_Shape_becomeTurned 5 (.istore_n 2) 1 6 := ⟨by decide +kernel, rfl⟩
theorem d_Shape_becomeTurned_6 : DC m_Shape_becomeTurned 6 (.iload_n 2) 1 7 := ⟨by decide +kernel, rfl⟩
theorem d_Shape_becomeTurned_7 : DC m_Shape_becomeTurned 7 (.bipush 8) 2 9 := ⟨by decide +kernel, rfl⟩
theorem d_Shape_becomeTurned_9 : DC m_Shape_becomeTurned 9 (.if_icmp .ge 49) 3 12 := ⟨by decide +kernel, rfl⟩
theorem d_Shape_becomeTurned_12 : DC m_Shape_becomeTurned 12 (.iconst 0) 1 13 := ⟨by decide +kernel, rfl⟩
theorem d_Shape_becomeTurned_13 : DC m_Shape_becomeTurned 13 (.istore_n 3) 1 14 := ⟨by decide +kernel, rfl⟩
theorem d_Shape_becomeTurned_14 : DC m_Shape_becomeTurned 14 (.iload_n 3) 1 15 := ⟨by decide +kernel, rfl⟩
theorem d_Shape_becomeTurned_15 : DC m_Shape_becomeTurned 15 (.bipush 8) 2 17 := ⟨by decide +kernel, rfl⟩
theorem d_Shape_becomeTurned_17 : DC m_Shape_becomeTurned 17 (.if_icmp .ge 35) 3 20 := ⟨by decide +kernel, rfl⟩
theorem d_Shape_becomeTurned_20 : DC m_Shape_becomeTurned 20 (.aload_n 1) 1 21 := ⟨by decide +kernel, rfl⟩
theorem d_Shape_becomeTurned_21 : DC m_Shape_becomeTurned 21 (.iload_n 3) 1 22 := ⟨by decide +kernel, rfl⟩
theorem d_Shape_becomeTurned_22 : DC m_Shape_becomeTurned 22 (.iload_n 2) 1 23 := ⟨by decide +kernel, rfl⟩
theorem d_Shape_becomeTurned_23 : DC m_Shape_becomeTurned 23 (.invokevirtual 47) 3 26 := ⟨by decide +kernel, rfl⟩
theorem d_Shape_becomeTurned_26 : DC m_Shape_becomeTurned 26 (.istore 4) 2 28 := ⟨by decide +kernel, rfl⟩
theorem d_Shape_becomeTurned_28 : DC m_Shape_becomeTurned 28 (.aload_n 0) 1 29 := ⟨by decide +kernel, rfl⟩
theorem d_Shape_becomeTurned_29 : DC m_Shape_becomeTurned 29 (.bipush 7) 2 31 := ⟨by decide +kernel, rfl⟩
theorem d_Shape_becomeTurned_31 : DC m_Shape_becomeTurned 31 (.iload_n 2) 1 32 := ⟨by decide +kernel, rfl⟩
theorem d_Shape_becomeTurned_32 : DC m_Shape_becomeTurned 32 .isub 1 33 := ⟨by decide +kernel, rfl⟩
theorem d_Shape_becomeTurned_33 : DC m_Shape_becomeTurned 33 (.iload_n 3) 1 34 := ⟨by decide +kernel, rfl⟩
theorem d_Shape_becomeTurned_34 : DC m_Shape_becomeTurned 34 (.iload 4) 2 36 := ⟨by decide +kernel, rfl⟩
theorem d_Shape_becomeTurned_36 : DC m_Shape_becomeTurned 36 (.iconst 1) 1 37 := ⟨by decide +kernel, rfl⟩
theorem d_Shape_becomeTurned_37 : DC m_Shape_becomeTurned 37 .ishl 1 38 := ⟨by decide +kernel, rfl⟩
theorem d_Shape_becomeTurned_38 : DC m_Shape_becomeTurned 38 (.iload 4) 2 40 := ⟨by decide +kernel, rfl⟩
theorem d_Shape_becomeTurned_40 : DC m_Shape_becomeTurned 40 (.iconst 3) 1 41 := ⟨by decide +kernel, rfl⟩
theorem d_Shape_becomeTurned_41 : DC m_Shape_becomeTurned 41 .iushr 1 42 := ⟨by decide +kernel, rfl⟩
theorem d_Shape_becomeTurned_42 : DC m_Shape_becomeTurned 42 .ior 1 43 := ⟨by decide +kernel, rfl⟩
theorem d_Shape_becomeTurned_43 : DC m_Shape_becomeTurned 43 (.invokevirtual 51) 3 46 := ⟨by decide +kernel, rfl⟩
theorem d_Shape_becomeTurned_46 : DC m_Shape_becomeTurned 46 (.iinc 3 1) 3 49 := ⟨by decide +kernel, rfl⟩
theorem d_Shape_becomeTurned_49 : DC m_Shape_becomeTurned 49 (.goto (-35)) 3 52 := ⟨by decide +kernel, rfl⟩
theorem d_Shape_becomeTurned_52 : DC m_Shape_becomeTurned 52 (.iinc 2 1) 3 55 := ⟨by decide +kernel, rfl⟩
theorem d_Shape_becomeTurned_55 : DC m_Shape_becomeTurned 55 (.goto (-49)) 3 58 := ⟨by decide +kernel, rfl⟩
theorem d_Shape_becomeTurned_58 : DC m_Shape_becomeTurned 58 .return_ 1 59 := ⟨by decide +kernel, rfl⟩
def f_Shape_becomeTurned_52 (n : Nat) (k_6 : Nat → Nat → Int32 → MM → Option (MM)) (x0 : Nat) (x1 : Nat) (x2 : Int32) (M : MM) : Option (MM) :=
  k_6 x0 x1 (x2 + 1) M
theorem t_Shape_becomeTurned_52 (n : Nat) {k_6 : Nat → Nat → Int32 → MM → Option (MM)} (hk_6 : ∀ (x0 : Nat) (x1 : Nat) (x2 : Int32) (M : MM) (z : MM), k_6 x0 x1 x2 M = some z → EV m_Shape_becomeTurned (rm 2 0 0) none z 0 0 6 [some (.ref x0), some (.ref x1), some (.int x2), none, none] [] M) (x0 : Nat) (x1 : Nat) (x2 : Int32) (M : MM) (z : MM) (h : f_Shape_becomeTurned_52 n k_6 x0 x1 x2 M = some z) : EV m_Shape_becomeTurned (rm 2 0 0) none z 0 0 52 [some (.ref x0), some (.ref x1), some (.int x2), none, none] [] M := by
  unfold f_Shape_becomeTurned_52 at h
  refine e_iinc (v := x2 + 1) (l2 := [some (.ref x0), some (.ref x1), some (.int (x2 + 1)), none, none]) d_Shape_becomeTurned_52 rfl rfl rfl (okl rfl) rfl ?_
  refine e_goto 6 d_Shape_becomeTurned_55 (by decide) ?_
  exact (hk_6 x0 x1 (x2 + 1) M z h).less (show LSub _ _ from ⟨rfl, ⟨rfl, ⟨rfl, trivial⟩⟩⟩)
def f_Shape_becomeTurned_14 (n : Nat) (k_52 : Nat → Nat → Int32 → MM → Option (MM)) : Nat → Nat → Nat → Int32 → Int32 → MM → Option (MM)
  | 0, _, _, _, _, _ => none
  | m + 1, x0, x1, x2, x3, M =>
    if 8 ≤ x3 then
      k_52 x0 x1 x2 M
    else
      (f_Shape_cell n x1 x3 x2 M).bind fun p2 =>
      (f_Shape_addCell n x0 (7 - x2) x3 ((ishl p2.1 1) ||| (ushr p2.1 3)) p2.2).bind fun M3 =>
      f_Shape_becomeTurned_14 n k_52 m x0 x1 x2 (x3 + 1) M3
theorem t_Shape_becomeTurned_14 (n : Nat) {k_52 : Nat → Nat → Int32 → MM → Option (MM)} (hk_52 : ∀ (x0 : Nat) (x1 : Nat) (x2 : Int32) (M : MM) (z : MM), k_52 x0 x1 x2 M = some z → EV m_Shape_becomeTurned (rm 2 0 0) none z 0 0 52 [some (.ref x0), some (.ref x1), some (.int x2), none, none] [] M) : ∀ (m : Nat) (x0 : Nat) (x1 : Nat) (x2 : Int32) (x3 : Int32) (M : MM) (z : MM), f_Shape_becomeTurned_14 n k_52 m x0 x1 x2 x3 M = some z → EV m_Shape_becomeTurned (rm 2 0 0) none z 0 0 14 [some (.ref x0), some (.ref x1), some (.int x2), some (.int x3), none] [] M := by
  intro m
  induction m with
  | zero => intro x0 x1 x2 x3 M z h; cases h
  | succ m ih =>
    intro x0 x1 x2 x3 M z h
    rw [f_Shape_becomeTurned_14] at h
    refine e_iload_n d_Shape_becomeTurned_14 rfl ?_
    refine e_bipush (v := 8) d_Shape_becomeTurned_15 (by decide) ?_
    refine e_ic_ge 52 d_Shape_becomeTurned_17 (by decide) (fun c1 => ?_) (fun c1 => ?_)
    · replace h := ift c1 h
      exact (hk_52 x0 x1 x2 M z h).less (show LSub _ _ from ⟨rfl, ⟨rfl, ⟨rfl, trivial⟩⟩⟩)
    · replace h := ifn c1 h
      refine e_aload_n d_Shape_becomeTurned_20 rfl ?_
      refine e_iload_n d_Shape_becomeTurned_21 rfl ?_
      refine e_iload_n d_Shape_becomeTurned_22 rfl ?_
      obtain ⟨p2, hp2, h⟩ := bnd h
      refine e_cVi (mt1 := m_Shape_cell) (As := [.int x3, .int x2]) (st := []) d_Shape_becomeTurned_23 ml_Shape_47 mv_Shape_cell (t_Shape_cell n x1 x3 x2 M p2 hp2) (fc_Shape_cell hp2) rfl rfl rfl (okp rfl) (okp rfl) (okp rfl) (Nat.le_refl _) (Nat.le_refl _) ?_
      refine e_istore (l2 := [some (.ref x0), some (.ref x1), some (.int x2), some (.int x3), some (.int p2.1)]) d_Shape_becomeTurned_26 rfl (okl rfl) rfl ?_
      refine e_aload_n d_Shape_becomeTurned_28 rfl ?_
      refine e_bipush (v := 7) d_Shape_becomeTurned_29 (by decide) ?_
      refine e_iload_n d_Shape_becomeTurned_31 rfl ?_
      refine e_isub d_Shape_becomeTurned_32 ?_
      refine e_iload_n d_Shape_becomeTurned_33 rfl ?_
      refine e_iload d_Shape_becomeTurned_34 rfl ?_
      refine e_iconst (v := 1) d_Shape_becomeTurned_36 (by decide) ?_
      refine e_ishl d_Shape_becomeTurned_37 ?_
      refine e_iload d_Shape_becomeTurned_38 rfl ?_
      refine e_iconst (v := 3) d_Shape_becomeTurned_40 (by decide) ?_
      refine e_iushr d_Shape_becomeTurned_41 ?_
      refine e_ior d_Shape_becomeTurned_42 ?_
      obtain ⟨M3, hM3, h⟩ := bnd h
      refine e_cVv (mt1 := m_Shape_addCell) (As := [.int (7 - x2), .int x3, .int ((ishl p2.1 1) ||| (ushr p2.1 3))]) (st := []) d_Shape_becomeTurned_43 ml_Shape_51 mv_Shape_addCell (t_Shape_addCell n x0 (7 - x2) x3 ((ishl p2.1 1) ||| (ushr p2.1 3)) p2.2 M3 hM3) (fc_Shape_addCell hM3) rfl rfl rfl (okp rfl) (okp rfl) (okp rfl) (Nat.le_refl _) (Nat.le_refl _) ?_
      refine e_iinc (v := x3 + 1) (l2 := [some (.ref x0), some (.ref x1), some (.int x2), some (.int (x3 + 1)), some (.int p2.1)]) d_Shape_becomeTurned_46 rfl rfl rfl (okl rfl) rfl ?_
      refine e_goto 14 d_Shape_becomeTurned_49 (by decide) ?_
      exact (ih x0 x1 x2 (x3 + 1) M3 z h).less (show LSub _ _ from ⟨rfl, ⟨rfl, ⟨rfl, ⟨rfl, trivial⟩⟩⟩⟩)
def f_Shape_becomeTurned_6 (n : Nat) : Nat → Nat → Nat → Int32 → MM → Option (MM)
  | 0, _, _, _, _ => none
  | m + 1, x0, x1, x2, M =>
    if 8 ≤ x2 then
      some M
    else
      f_Shape_becomeTurned_14 n (f_Shape_becomeTurned_52 n (f_Shape_becomeTurned_6 n m)) n x0 x1 x2 0 M
theorem t_Shape_becomeTurned_6 (n : Nat) : ∀ (m : Nat) (x0 : Nat) (x1 : Nat) (x2 : Int32) (M : MM) (z : MM), f_Shape_becomeTurned_6 n m x0 x1 x2 M = some z → EV m_Shape_becomeTurned (rm 2 0 0) none z 0 0 6 [some (.ref x0), some (.ref x1), some (.int x2), none, none] [] M := by
  intro m
  induction m with
  | zero => intro x0 x1 x2 M z h; cases h
  | succ m ih =>
    intro x0 x1 x2 M z h
    rw [f_Shape_becomeTurned_6] at h
    refine e_iload_n d_Shape_becomeTurned_6 rfl ?_
    refine e_bipush (v := 8) d_Shape_becomeTurned_7 (by decide) ?_
    refine e_ic_ge 58 d_Shape_becomeTurned_9 (by decide) (fun c4 => ?_) (fun c4 => ?_)
    · replace h := ift c4 h
      cases h
      exact e_vret d_Shape_becomeTurned_58 rfl (Nat.le_refl _) (Nat.le_refl _)
    · replace h := ifn c4 h
      refine e_iconst (v := 0) d_Shape_becomeTurned_12 (by decide) ?_
      refine e_istore_n (l2 := [some (.ref x0), some (.ref x1), some (.int x2), some (.int 0), none]) d_Shape_becomeTurned_13 rfl (okl rfl) rfl ?_
      exact (t_Shape_becomeTurned_14 n (t_Shape_becomeTurned_52 n ih) n x0 x1 x2 0 M z h).less (show LSub _ _ from ⟨rfl, ⟨rfl, ⟨rfl, ⟨rfl, trivial⟩⟩⟩⟩)
def f_Shape_becomeTurned (n : Nat) (x0 : Nat) (x1 : Nat) (M : MM) : Option (MM) :=
  og 7 x0 M <|
  (f_Shape_clear n x0 M).bind fun M5 =>
  f_Shape_becomeTurned_6 n n x0 x1 0 M5
theorem fc_Shape_becomeTurned {n : Nat} {x0 : Nat} {x1 : Nat} {M : MM} {z : MM} (h : f_Shape_becomeTurned n x0 x1 M = some z) : (M.1.2.1 x0).1 = 7 := by
  unfold f_Shape_becomeTurned at h
  exact (og_s h).1
theorem t_Shape_becomeTurned (n : Nat) (x0 : Nat) (x1 : Nat) (M : MM) (z : MM) (h : f_Shape_becomeTurned n x0 x1 M = some z) : CT m_Shape_becomeTurned (rm 2 0 0) [.ref x0, .ref x1] M none z := by
  unfold f_Shape_becomeTurned at h
  obtain ⟨hthis, h⟩ := og_s h
  refine CT.of (ls := [some (.ref x0), some (.ref x1), none, none, none]) rfl (okp rfl) rfl ?_
  refine e_aload_n d_Shape_becomeTurned_0 rfl ?_
  obtain ⟨M5, hM5, h⟩ := bnd h
  refine e_cVv (mt1 := m_Shape_clear) (As := []) (st := []) d_Shape_becomeTurned_1 ml_Shape_44 mv_Shape_clear (t_Shape_clear n x0 M M5 hM5) (fc_Shape_clear hM5) rfl rfl rfl (okp rfl) (okp rfl) (okp rfl) (Nat.le_refl _) (Nat.le_refl _) ?_
  refine e_iconst (v := 0) d_Shape_becomeTurned_4 (by decide) ?_
  refine e_istore_n (l2 := [some (.ref x0), some (.ref x1), some (.int 0), none, none]) d_Shape_becomeTurned_5 rfl (okl rfl) rfl ?_
  exact (t_Shape_becomeTurned_6 n n x0 x1 0 M5 z h).less (show LSub _ _ from ⟨rfl, ⟨rfl, ⟨rfl, trivial⟩⟩⟩)
theorem d_Shape_becomeFlipped_0 : DC m_Shape_becomeFlipped 0 (.aload_n 0) 1 1 := ⟨by decide +kernel, rfl⟩
theorem d_Shape_becomeFlipped_1 : DC m_Shape_becomeFlipped 1 (.invokevirtual 44) 3 4 := ⟨by decide +kernel, rfl⟩
theorem d_Shape_becomeFlipped_4 : DC m_Shape_becomeFlipped 4 (.iconst 0) 1 5 := ⟨by decide +kernel, rfl⟩
theorem d_Shape_becomeFlipped_5 : DC m_Shape_becomeFlipped 5 (.istore_n 2) 1 6 := ⟨by decide +kernel, rfl⟩
theorem d_Shape_becomeFlipped_6 : DC m_Shape_becomeFlipped 6 (.iload_n 2) 1 7 := ⟨by decide +kernel, rfl⟩
theorem d_Shape_becomeFlipped_7 : DC m_Shape_becomeFlipped 7 (.bipush 8) 2 9 := ⟨by decide +kernel, rfl⟩
theorem d_Shape_becomeFlipped_9 : DC m_Shape_becomeFlipped 9 (.if_icmp .ge 63) 3 12 := ⟨by decide +kernel, rfl⟩
theorem d_Shape_becomeFlipped_12 : DC m_Shape_becomeFlipped 12 (.iconst 0) 1 13 := ⟨by decide +kernel, rfl⟩
theorem d_Shape_becomeFlipped_13 : DC m_Shape_becomeFlipped 13 (.istore_n 3) 1 14 := ⟨by decide +kernel, rfl⟩
theorem d_Shape_becomeFlipped_14 : DC m_Shape_becomeFlipped 14 (.iload_n 3) 1 15 := ⟨by decide +kernel, rfl⟩
theorem d_Shape_becomeFlipped_15 : DC m_Shape_becomeFlipped 15 (.bipush 8) 2 17 := ⟨by decide +kernel, rfl⟩
theorem d_Shape_becomeFlipped_17 : DC m_Shape_becomeFlipped 17 (.if_icmp .ge 49) 3 20 := ⟨by decide +kernel, rfl⟩
theorem d_Shape_becomeFlipped_20 : DC m_Shape_becomeFlipped 20 (.aload_n 1) 1 21 := ⟨by decide +kernel, rfl⟩
theorem d_Shape_becomeFlipped_21 : DC m_Shape_becomeFlipped 21 (.iload_n 3) 1 22 := ⟨by decide +kernel, rfl⟩
theorem d_Shape_becomeFlipped_22 : DC m_Shape_becomeFlipped 22 (.iload_n 2) 1 23 := ⟨by decide +kernel, rfl⟩
theorem d_Shape_becomeFlipped_23 : DC m_Shape_becomeFlipped 23 (.invokevirtual 47) 3 26 := ⟨by decide +kernel, rfl⟩
theorem d_Shape_becomeFlipped_26 : DC m_Shape_becomeFlipped 26 (.istore 4) 2 28 := ⟨by decide +kernel, rfl⟩
theorem d_Shape_becomeFlipped_28 : DC m_Shape_becomeFlipped 28 (.iload 4) 2 30 := ⟨by decide +kernel, rfl⟩
theorem d_Shape_becomeFlipped_30 : DC m_Shape_becomeFlipped 30 (.iconst 5) 1 31 := ⟨by decide +kernel, rfl⟩
theorem d_Shape_becomeFlipped_31 : DC m_Shape_becomeFlipped 31 .iand 1 32 := ⟨by decide +kernel, rfl⟩
theorem d_Shape_becomeFlipped_32 : DC m_Shape_becomeFlipped 32 (.iload 4) 2 34 := ⟨by decide +kernel, rfl⟩
theorem d_Shape_becomeFlipped_34 : DC m_Shape_becomeFlipped 34 (.iconst 2) 1 35 := ⟨by decide +kernel, rfl⟩
theorem d_Shape_becomeFlipped_35 : DC m_Shape_becomeFlipped 35 .iand 1 36 := ⟨by decide +kernel, rfl⟩
theorem d_Shape_becomeFlipped_36 : DC m_Shape_becomeFlipped 36 (.iconst 2) 1 37 := ⟨by decide +kernel, rfl⟩
theorem d_Shape_becomeFlipped_37 : DC m_Shape_becomeFlipped 37 .ishl 1 38 := ⟨by decide +kernel, rfl⟩
theorem d_Shape_becomeFlipped_38 : DC m_Shape_becomeFlipped 38 .ior 1 39 := ⟨by decide +kernel, rfl⟩
theorem d_Shape_becomeFlipped_39 : DC m_Shape_becomeFlipped 39 (.iload 4) 2 41 := ⟨by decide +kernel, rfl⟩
theorem d_Shape_becomeFlipped_41 : DC m_Shape_becomeFlipped 41 (.bipush 8) 2 43 := ⟨by decide +kernel, rfl⟩
theorem d_Shape_becomeFlipped_43 : DC m_Shape_becomeFlipped 43 .iand 1 44 := ⟨by decide +kernel, rfl⟩
theorem d_Shape_becomeFlipped_44 : DC m_Shape_becomeFlipped 44 (.iconst 2) 1 45 := ⟨by decide +kernel, rfl⟩
theorem d_Shape_becomeFlipped_45 : DC m_Shape_becomeFlipped 45 .iushr 1 46 := ⟨by decide +kernel, rfl⟩
theorem d_Shape_becomeFlipped_46 : DC m_Shape_becomeFlipped 46 .ior 1 47 := ⟨by decide +kernel, rfl⟩
theorem d_Shape_becomeFlipped_47 : DC m_Shape_becomeFlipped 47 (.istore 5) 2 49 := ⟨by decide +kernel, rfl⟩
theorem d_Shape_becomeFlipped_49 : DC m_Shape_becomeFlipped 49 (.aload_n 0) 1 50 := ⟨by decide +kernel, rfl⟩
theorem d_Shape_becomeFlipped_50 : DC m_Shape_becomeFlipped 50 (.bipush 7) 2 52 := ⟨by decide +kernel, rfl⟩
theorem d_Shape_becomeFlipped_52 : DC m_Shape_becomeFlipped 52 (.iload_n 3) 1 53 := ⟨by decide +kernel, rfl⟩
theorem d_Shape_becomeFlipped_53 : DC m_Shape_becomeFlipped 53 .isub 1 54 := ⟨by decide +kernel, rfl⟩
theorem d_Shape_becomeFlipped_54 : DC m_Shape_becomeFlipped 54 (.iload_n 2) 1 55 := ⟨by decide +kernel, rfl⟩
theorem d_Shape_becomeFlipped_55 : DC m_Shape_becomeFlipped 55 (.iload 5) 2 57 := ⟨by decide +kernel, rfl⟩
theorem d_Shape_becomeFlipped_57 : DC m_Shape_becomeFlipped 57 (.invokevirtual 51) 3 60 := ⟨by decide +kernel, rfl⟩
theorem d_Shape_becomeFlipped_60 : DC m_Shape_becomeFlipped 60 (.iinc 3 1) 3 63 := ⟨by decide +kernel, rfl⟩
theorem d_Shape_becomeFlipped_63 : DC m_Shape_becomeFlipped 63 (.goto (-49)) 3 66 := ⟨by decide +kernel, rfl⟩
theorem d_Shape_becomeFlipped_66 : DC m_Shape_becomeFlipped 66 (.iinc 2 1) 3 69 := ⟨by decide +kernel, rfl⟩
theorem d_Shape_becomeFlipped_69 : DC m_Shape_becomeFlipped 69 (.goto (-63)) 3 72 := ⟨by decide +kernel, rfl⟩
theorem d_Shape_becomeFlipped_72 : DC m_Shape_becomeFlipped 72 .return_ 1 73 := ⟨by decide +kernel, rfl⟩
def f_Shape_becomeFlipped_66 (n : Nat) (k_6 : Nat → Nat → Int32 → MM → Option (MM)) (x0 : Nat) (x1 : Nat) (x2 : Int32) (M : MM) : Option (MM) :=
  k_6 x0 x1 (x2 + 1) M
theorem t_Shape_becomeFlipped_66 (n : Nat) {k_6 : Nat → Nat → Int32 → MM → Option (MM)} (hk_6 : ∀ (x0 : Nat) (x1 : Nat) (x2 : Int32) (M : MM) (z : MM), k_6 x0 x1 x2 M = some z → EV m_Shape_becomeFlipped (rm 2 0 0) none z 0 0 6 [some (.ref x0), some (.ref x1), some (.int x2), none, none, none] [] M) (x0 : Nat) (x1 : Nat) (x2 : Int32) (M : MM) (z : MM) (h : f_Shape_becomeFlipped_66 n k_6 x0 x1 x2 M = some z) : EV m_Shape_becomeFlipped (rm 2 0 0) none z 0 0 66 [some (.ref x0), some (.ref x1), some (.int x2), none, none, none] [] M := by
  unfold f_Shape_becomeFlipped_66 at h
  refine e_iinc (v := x2 + 1) (l2 := [some (.ref x0), some (.ref x1), some (.int (x2 + 1)), none, none, none]) d_Shape_becomeFlipped_66 rfl rfl rfl (okl rfl) rfl ?_
  refine e_goto 6 d_Shape_becomeFlipped_69 (by decide) ?_
  exact (hk_6 x0 x1 (x2 + 1) M z h).less (show LSub _ _ from ⟨rfl, ⟨rfl, ⟨rfl, trivial⟩⟩⟩)
def f_Shape_becomeFlipped_14 (n : Nat) (k_66 : Nat → Nat → Int32 → MM → Option (MM)) : Nat → Nat → Nat → Int32 → Int32 → MM → Option (MM)
  | 0, _, _, _, _, _ => none
  | m + 1, x0, x1, x2, x3, M =>
    if 8 ≤ x3 then
      k_66 x0 x1 x2 M
    else
      (f_Shape_cell n x1 x3 x2 M).bind fun p2 =>
      nm (α := Int32) (((p2.1 &&& 5) ||| (ishl (p2.1 &&& 2) 2)) ||| (ushr (p2.1 &&& 8) 2)) fun y3 =>
      (f_Shape_addCell n x0 (7 - x3) x2 y3 p2.2).bind fun M4 =>
      f_Shape_becomeFlipped_14 n k_66 m x0 x1 x2 (x3 + 1) M4
theorem t_Shape_becomeFlipped_14 (n : Nat) {k_66 : Nat → Nat → Int32 → MM → Option (MM)} (hk_66 : ∀ (x0 : Nat) (x1 : Nat) (x2 : Int32) (M : MM) (z : MM), k_66 x0 x1 x2 M = some z → EV m_Shape_becomeFlipped (rm 2 0 0) none z 0 0 66 [some (.ref x0), some (.ref x1), some (.int x2), none, none, none] [] M) : ∀ (m : Nat) (x0 : Nat) (x1 : Nat) (x2 : Int32) (x3 : Int32) (M : MM) (z : MM), f_Shape_becomeFlipped_14 n k_66 m x0 x1 x2 x3 M = some z → EV m_Shape_becomeFlipped (rm 2 0 0) none z 0 0 14 [some (.ref x0), some (.ref x1), some (.int x2), some (.int x3), none, none] [] M := by
  intro m
  induction m with
  | zero => intro x0 x1 x2 x3 M z h; cases h
  | succ m ih =>
    intro x0 x1 x2 x3 M z h
    rw [f_Shape_becomeFlipped_14] at h
    refine e_iload_n d_Shape_becomeFlipped_14 rfl ?_
    refine e_bipush (v := 8) d_Shape_becomeFlipped_15 (by decide) ?_
    refine e_ic_ge 66 d_Shape_becomeFlipped_17 (by decide) (fun c1 => ?_) (fun c1 => ?_)
    · replace h := ift c1 h
      exact (hk_66 x0 x1 x2 M z h).less (show LSub _ _ from ⟨rfl, ⟨rfl, ⟨rfl, trivial⟩⟩⟩)
    · replace h := ifn c1 h
      refine e_aload_n d_Shape_becomeFlipped_20 rfl ?_
      refine e_iload_n d_Shape_becomeFlipped_21 rfl ?_
      refine e_iload_n d_Shape_becomeFlipped_22 rfl ?_
      obtain ⟨p2, hp2, h⟩ := bnd h
      refine e_cVi (mt1 := m_Shape_cell) (As := [.int x3, .int x2]) (st := []) d_Shape_becomeFlipped_23 ml_Shape_47 mv_Shape_cell (t_Shape_cell n x1 x3 x2 M p2 hp2) (fc_Shape_cell hp2) rfl rfl rfl (okp rfl) (okp rfl) (okp rfl) (Nat.le_refl _) (Nat.le_refl _) ?_
      refine e_istore (l2 := [some (.ref x0), some (.ref x1), some (.int x2), some (.int x3), some (.int p2.1), none]) d_Shape_becomeFlipped_26 rfl (okl rfl) rfl ?_
      refine e_iload d_Shape_becomeFlipped_28 rfl ?_
      refine e_iconst (v := 5) d_Shape_becomeFlipped_30 (by decide) ?_
      refine e_iand d_Shape_becomeFlipped_31 ?_
      refine e_iload d_Shape_becomeFlipped_32 rfl ?_
      refine e_iconst (v := 2) d_Shape_becomeFlipped_34 (by decide) ?_
      refine e_iand d_Shape_becomeFlipped_35 ?_
      refine e_iconst (v := 2) d_Shape_becomeFlipped_36 (by decide) ?_
      refine e_ishl d_Shape_becomeFlipped_37 ?_
      refine e_ior d_Shape_becomeFlipped_38 ?_
      refine e_iload d_Shape_becomeFlipped_39 rfl ?_
      refine e_bipush (v := 8) d_Shape_becomeFlipped_41 (by decide) ?_
      refine e_iand d_Shape_becomeFlipped_43 ?_
      refine e_iconst (v := 2) d_Shape_becomeFlipped_44 (by decide) ?_
      refine e_iushr d_Shape_becomeFlipped_45 ?_
      refine e_ior d_Shape_becomeFlipped_46 ?_
      obtain ⟨y3, ey3, h⟩ := nm_s h
      refine e_nameI ey3 ?_
      refine e_istore (l2 := [some (.ref x0), some (.ref x1), some (.int x2), some (.int x3), some (.int p2.1), some (.int y3)]) d_Shape_becomeFlipped_47 rfl (okl rfl) rfl ?_
      refine e_aload_n d_Shape_becomeFlipped_49 rfl ?_
      refine e_bipush (v := 7) d_Shape_becomeFlipped_50 (by decide) ?_
      refine e_iload_n d_Shape_becomeFlipped_52 rfl ?_
      refine e_isub d_Shape_becomeFlipped_53 ?_
      refine e_iload_n d_Shape_becomeFlipped_54 rfl ?_
      refine e_iload d_Shape_becomeFlipped_55 rfl ?_
      obtain ⟨M4, hM4, h⟩ := bnd h
      refine e_cVv (mt1 := m_Shape_addCell) (As := [.int (7 - x3), .int x2, .int y3]) (st := []) d_Shape_becomeFlipped_57 ml_Shape_51 mv_Shape_addCell (t_Shape_addCell n x0 (7 - x3) x2 y3 p2.2 M4 hM4) (fc_Shape_addCell hM4) rfl rfl rfl (okp rfl) (okp rfl) (okp rfl) (Nat.le_refl _) (Nat.le_refl _) ?_
      refine e_iinc (v := x3 + 1) (l2 := [some (.ref x0), some (.ref x1), some (.int x2), some (.int (x3 + 1)), some (.int p2.1), some (.int y3)]) d_Shape_becomeFlipped_60 rfl rfl rfl (okl rfl) rfl ?_
      refine e_goto 14 d_Shape_becomeFlipped_63 (by decide) ?_
      exact (ih x0 x1 x2 (x3 + 1) M4 z h).less (show LSub _ _ from ⟨rfl, ⟨rfl, ⟨rfl, ⟨rfl, trivial⟩⟩⟩⟩)
def f_Shape_becomeFlipped_6 (n : Nat) : Nat → Nat → Nat → Int32 → MM → Option (MM)
  | 0, _, _, _, _ => none
  | m + 1, x0, x1, x2, M =>
    if 8 ≤ x2 then
      some M
    else
      f_Shape_becomeFlipped_14 n (f_Shape_becomeFlipped_66 n (f_Shape_becomeFlipped_6 n m)) n x0 x1 x2 0 M
theorem t_Shape_becomeFlipped_6 (n : Nat) : ∀ (m : Nat) (x0 : Nat) (x1 : Nat) (x2 : Int32) (M : MM) (z : MM), f_Shape_becomeFlipped_6 n m x0 x1 x2 M = some z → EV m_Shape_becomeFlipped (rm 2 0 0) none z 0 0 6 [some (.ref x0), some (.ref x1), some (.int x2), none, none, none] [] M := by
  intro m
  induction m with
  | zero => intro x0 x1 x2 M z h; cases h
  | succ m ih =>
    intro x0 x1 x2 M z h
    rw [f_Shape_becomeFlipped_6] at h
    refine e_iload_n d_Shape_becomeFlipped_6 rfl ?_
    refine e_bipush (v := 8) d_Shape_becomeFlipped_7 (by decide) ?_
    refine e_ic_ge 72 d_Shape_becomeFlipped_9 (by decide) (fun c5 => ?_) (fun c5 => ?_)
    · replace h := ift c5 h
      cases h
      exact e_vret d_Shape_becomeFlipped_72 rfl (Nat.le_refl _) (Nat.le_refl _)
    · replace h := ifn c5 h
      refine e_iconst (v := 0) d_Shape_becomeFlipped_12 (by decide) ?_
      refine e_istore_n (l2 := [some (.ref x0), some (.ref x1), some (.int x2), some (.int 0), none, none]) d_Shape_becomeFlipped_13 rfl (okl rfl) rfl ?_
      exact (t_Shape_becomeFlipped_14 n (t_Shape_becomeFlipped_66 n ih) n x0 x1 x2 0 M z h).less (show LSub _ _ from ⟨rfl, ⟨rfl, ⟨rfl, ⟨rfl, trivial⟩⟩⟩⟩)
def f_Shape_becomeFlipped (n : Nat) (x0 : Nat) (x1 : Nat) (M : MM) : Option (MM) :=
  og 7 x0 M <|
  (f_Shape_clear n x0 M).bind fun M6 =>
  f_Shape_becomeFlipped_6 n n x0 x1 0 M6
theorem fc_Shape_becomeFlipped {n : Nat} {x0 : Nat} {x1 : Nat} {M : MM} {z : MM} (h : f_Shape_becomeFlipped n x0 x1 M = some z) : (M.1.2.1 x0).1 = 7 := by
  unfold f_Shape_becomeFlipped at h
  exact (og_s h).1
theorem t_Shape_becomeFlipped (n : Nat) (x0 : Nat) (x1 : Nat) (M : MM) (z : MM) (h : f_Shape_becomeFlipped n x0 x1 M = some z) : CT m_Shape_becomeFlipped (rm 2 0 0) [.ref x0, .ref x1] M none z := by
  unfold f_Shape_becomeFlipped at h
  obtain ⟨hthis, h⟩ := og_s h
  refine CT.of (ls := [some (.ref x0), some (.ref x1), none, none, none, none]) rfl (okp rfl) rfl ?_
  refine e_aload_n d_Shape_becomeFlipped_0 rfl ?_
  obtain ⟨M6, hM6, h⟩ := bnd h
  refine e_cVv (mt1 := m_Shape_clear) (As := []) (st := []) d_Shape_becomeFlipped_1 ml_Shape_44 mv_Shape_clear (t_Shape_clear n x0 M M6 hM6) (fc_Shape_clear hM6) rfl rfl rfl (okp rfl) (okp rfl) (okp rfl) (Nat.le_refl _) (Nat.le_refl _) ?_
  refine e_iconst (v := 0) d_Shape_becomeFlipped_4 (by decide) ?_
  refine e_istore_n (l2 := [some (.ref x0), some (.ref x1), some (.int 0), none, none, none]) d_Shape_becomeFlipped_5 rfl (okl rfl) rfl ?_
  exact (t_Shape_becomeFlipped_6 n n x0 x1 0 M6 z h).less (show LSub _ _ from ⟨rfl, ⟨rfl, ⟨rfl, trivial⟩⟩⟩)
theorem d_Shape_top_0 : DC m_Shape_top 0 (.iconst 0) 1 1 := ⟨by decide +kernel, rfl⟩
theorem d_Shape_top_1 : DC m_Shape_top 1 (.istore_n 1) 1 2 := ⟨by decide +kernel, rfl⟩
theorem d_Shape_top_2 : DC m_Shape_top 2 (.iload_n 1) 1 3 := ⟨by decide +kernel, rfl⟩
theorem d_Shape_top_3 : DC m_Shape_top 3 (.bipush 8) 2 5 := ⟨by decide +kernel, rfl⟩
theorem d_Shape_top_5 : DC m_Shape_top 5 (.if_icmp .ge 20) 3 8 := ⟨by decide +kernel, rfl⟩
theorem d_Shape_top_8 : DC m_Shape_top 8 (.aload_n 0) 1 9 := ⟨by decide +kernel, rfl⟩
theorem d_Shape_top_9 : DC m_Shape_top 9 (.getfield 9) 3 12 := ⟨by decide +kernel, rfl⟩
theorem d_Shape_top_12 : DC m_Shape_top 12 (.iload_n 1) 1 13 := ⟨by decide +kernel, rfl⟩
theorem d_Shape_top_13 : DC m_Shape_top 13 .iaload 1 14 := ⟨by decide +kernel, rfl⟩
theorem d_Shape_top_14 : DC m_Shape_top 14 (.ifCond .eq 5) 3 17 := ⟨by decide +kernel, rfl⟩
theorem d_Shape_top_17 : DC m_Shape_top 17 (.iload_n 1) 1 18 := ⟨by decide +kernel, rfl⟩
theorem d_Shape_top_18 : DC m_Shape_top 18 .ireturn 1 19 := ⟨by decide +kernel, rfl⟩
theorem d_Shape_top_19 : DC m_Shape_top 19 (.iinc 1 1) 3 22 := ⟨by decide +kernel, rfl⟩
theorem d_Shape_top_22 : DC m_Shape_top 22 (.goto (-20)) 3 25 := ⟨by decide +kernel, rfl⟩
theorem d_Shape_top_25 : DC m_Shape_top 25 (.bipush 8) 2 27 := ⟨by decide +kernel, rfl⟩
theorem d_Shape_top_27 : DC m_Shape_top 27 .ireturn 1 28 := ⟨by decide +kernel, rfl⟩
def f_Shape_top_2 (n : Nat) : Nat → Nat → Int32 → MM → Option (Int32 × MM)
  | 0, _, _, _ => none
  | m + 1, x0, x1, M =>
    if 8 ≤ x1 then
      some (8, M)
    else
      (gR 7 0 x0 M).bind fun v2 =>
      (aI 100 v2 x1 M).bind fun v3 =>
      if v3 = 0 then
        f_Shape_top_2 n m x0 (x1 + 1) M
      else
        some (x1, M)
theorem t_Shape_top_2 (n : Nat) : ∀ (m : Nat) (x0 : Nat) (x1 : Int32) (M : MM) (z : Int32 × MM), f_Shape_top_2 n m x0 x1 M = some z → EV m_Shape_top (rm 1 0 0) (some (.int z.1)) z.2 0 0 2 [some (.ref x0), some (.int x1)] [] M := by
  intro m
  induction m with
  | zero => intro x0 x1 M z h; cases h
  | succ m ih =>
    intro x0 x1 M z h
    rw [f_Shape_top_2] at h
    refine e_iload_n d_Shape_top_2 rfl ?_
    refine e_bipush (v := 8) d_Shape_top_3 (by decide) ?_
    refine e_ic_ge 25 d_Shape_top_5 (by decide) (fun c1 => ?_) (fun c1 => ?_)
    · replace h := ift c1 h
      refine e_bipush (v := 8) d_Shape_top_25 (by decide) ?_
      cases h
      exact e_iret d_Shape_top_27 rfl (Nat.le_refl _) (Nat.le_refl _)
    · replace h := ifn c1 h
      refine e_aload_n d_Shape_top_8 rfl ?_
      obtain ⟨v2, hv2, h⟩ := bnd h
      refine e_getR d_Shape_top_9 fl_Shape_9 (fun _ _ _ => rfl) hv2 ?_
      refine e_iload_n d_Shape_top_12 rfl ?_
      obtain ⟨v3, hv3, h⟩ := bnd h
      refine e_iald d_Shape_top_13 hv3 ?_
      refine e_if_eq 19 d_Shape_top_14 (by decide) (fun c4 => ?_) (fun c4 => ?_)
      · replace h := ift c4 h
        refine e_iinc (v := x1 + 1) (l2 := [some (.ref x0), some (.int (x1 + 1))]) d_Shape_top_19 rfl rfl rfl (okl rfl) rfl ?_
        refine e_goto 2 d_Shape_top_22 (by decide) ?_
        exact (ih x0 (x1 + 1) M z h).less (show LSub _ _ from ⟨rfl, ⟨rfl, trivial⟩⟩)
      · replace h := ifn c4 h
        refine e_iload_n d_Shape_top_17 rfl ?_
        cases h
        exact e_iret d_Shape_top_18 rfl (Nat.le_refl _) (Nat.le_refl _)
def f_Shape_top (n : Nat) (x0 : Nat) (M : MM) : Option (Int32 × MM) :=
  og 7 x0 M <|
  f_Shape_top_2 n n x0 0 M
theorem fc_Shape_top {n : Nat} {x0 : Nat} {M : MM} {z : Int32 × MM} (h : f_Shape_top n x0 M = some z) : (M.1.2.1 x0).1 = 7 := by
  unfold f_Shape_top at h
  exact (og_s h).1
theorem t_Shape_top (n : Nat) (x0 : Nat) (M : MM) (z : Int32 × MM) (h : f_Shape_top n x0 M = some z) : CT m_Shape_top (rm 1 0 0) [.ref x0] M (some (.int z.1)) z.2 := by
  unfold f_Shape_top at h
  obtain ⟨hthis, h⟩ := og_s h
  refine CT.of (ls := [some (.ref x0), none]) rfl (okp rfl) rfl ?_
  refine e_iconst (v := 0) d_Shape_top_0 (by decide) ?_
  refine e_istore_n (l2 := [some (.ref x0), some (.int 0)]) d_Shape_top_1 rfl (okl rfl) rfl ?_
  exact (t_Shape_top_2 n n x0 0 M z h).less (show LSub _ _ from ⟨rfl, ⟨rfl, trivial⟩⟩)
theorem d_Shape_columns_0 : DC m_Shape_columns 0 (.iconst 0) 1 1 := ⟨by decide +kernel, rfl⟩
theorem d_Shape_columns_1 : DC m_Shape_columns 1 (.istore_n 1) 1 2 := ⟨by decide +kernel, rfl⟩
theorem d_Shape_columns_2 : DC m_Shape_columns 2 (.iconst 0) 1 3 := ⟨by decide +kernel, rfl⟩
theorem d_Shape_columns_3 : DC m_Shape_columns 3 (.istore_n 2) 1 4 := ⟨by decide +kernel, rfl⟩
theorem d_Shape_columns_4 : DC m_Shape_columns 4 (.iload_n 2) 1 5 := ⟨by decide +kernel, rfl⟩
theorem d_Shape_columns_5 : DC m_Shape_columns 5 (.bipush 8) 2 7 := ⟨by decide +kernel, rfl⟩
theorem d_Shape_columns_7 : DC m_Shape_columns 7 (.if_icmp .ge 18) 3 10 := ⟨by decide +kernel, rfl⟩
theorem d_Shape_columns_10 : DC m_Shape_columns 10 (.iload_n 1) 1 11 := ⟨by decide +kernel, rfl⟩
theorem d_Shape_columns_11 : DC m_Shape_columns 11 (.aload_n 0) 1 12 := ⟨by decide +kernel, rfl⟩
theorem d_Shape_columns_12 : DC m_Shape_columns 12 (.getfield 9) 3 15 := ⟨by decide +kernel, rfl⟩
theorem d_Shape_columns_15 : DC m_Shape_columns 15 (.iload_n 2) 1 16 := ⟨by decide +kernel, rfl⟩
theorem d_Shape_columns_16 : DC m_Shape_columns 16 .iaload 1 17 := ⟨by decide +kernel, rfl⟩
theorem d_Shape_columns_17 : DC m_Shape_columns 17 .ior 1 18 := ⟨by decide +kernel, rfl⟩
theorem d_Shape_columns_18 : DC m_Shape_columns 18 (.istore_n 1) 1 19 := ⟨by decide +kernel, rfl⟩
theorem d_Shape_columns_19 : DC m_Shape_columns 19 (.iinc 2 1) 3 22 := ⟨by decide +kernel, rfl⟩
theorem d_Shape_columns_22 : DC m_Shape_columns 22 (.goto (-18)) 3 25 := ⟨by decide +kernel, rfl⟩
theorem d_Shape_columns_25 : DC m_Shape_columns 25 (.iload_n 1) 1 26 := ⟨by decide +kernel, rfl⟩
theorem d_Shape_columns_26 : DC m_Shape_columns 26 .ireturn 1 27 := ⟨by decide +kernel, rfl⟩
def f_Shape_columns_4 (n : Nat) : Nat → Nat → Int32 → Int32 → MM → Option (Int32 × MM)
  | 0, _, _, _, _ => none
  | m + 1, x0, x1, x2, M =>
    if 8 ≤ x2 then
      some (x1, M)
    else
      (gR 7 0 x0 M).bind fun v2 =>
      (aI 100 v2 x2 M).bind fun v3 =>
      nm (α := Int32) (x1 ||| v3) fun y4 =>
      f_Shape_columns_4 n m x0 y4 (x2 + 1) M
theorem t_Shape_columns_4 (n : Nat) : ∀ (m : Nat) (x0 : Nat) (x1 : Int32) (x2 : Int32) (M : MM) (z : Int32 × MM), f_Shape_columns_4 n m x0 x1 x2 M = some z → EV m_Shape_columns (rm 1 0 0) (some (.int z.1)) z.2 0 0 4 [some (.ref x0), some (.int x1), some (.int x2)] [] M := by
  intro m
  induction m with
  | zero => intro x0 x1 x2 M z h; cases h
  | succ m ih =>
    intro x0 x1 x2 M z h
    rw [f_Shape_columns_4] at h
    refine e_iload_n d_Shape_columns_4 rfl ?_
    refine e_bipush (v := 8) d_Shape_columns_5 (by decide) ?_
    refine e_ic_ge 25 d_Shape_columns_7 (by decide) (fun c1 => ?_) (fun c1 => ?_)
    · replace h := ift c1 h
      refine e_iload_n d_Shape_columns_25 rfl ?_
      cases h
      exact e_iret d_Shape_columns_26 rfl (Nat.le_refl _) (Nat.le_refl _)
    · replace h := ifn c1 h
      refine e_iload_n d_Shape_columns_10 rfl ?_
      refine e_aload_n d_Shape_columns_11 rfl ?_
      obtain ⟨v2, hv2, h⟩ := bnd h
      refine e_getR d_Shape_columns_12 fl_Shape_9 (fun _ _ _ => rfl) hv2 ?_
      refine e_iload_n d_Shape_columns_15 rfl ?_
      obtain ⟨v3, hv3, h⟩ := bnd h
      refine e_iald d_Shape_columns_16 hv3 ?_
      refine e_ior d_Shape_columns_17 ?_
      obtain ⟨y4, ey4, h⟩ := nm_s h
      refine e_nameI ey4 ?_
      refine e_istore_n (l2 := [some (.ref x0), some (.int y4), some (.int x2)]) d_Shape_columns_18 rfl (okl rfl) rfl ?_
      refine e_iinc (v := x2 + 1) (l2 := [some (.ref x0), some (.int y4), some (.int (x2 + 1))]) d_Shape_columns_19 rfl rfl rfl (okl rfl) rfl ?_
      refine e_goto 4 d_Shape_columns_22 (by decide) ?_
      exact (ih x0 y4 (x2 + 1) M z h).less (show LSub _ _ from ⟨rfl, ⟨rfl, ⟨rfl, trivial⟩⟩⟩)
def f_Shape_columns (n : Nat) (x0 : Nat) (M : MM) : Option (Int32 × MM) :=
  og 7 x0 M <|
  f_Shape_columns_4 n n x0 0 0 M
theorem fc_Shape_columns {n : Nat} {x0 : Nat} {M : MM} {z : Int32 × MM} (h : f_Shape_columns n x0 M = some z) : (M.1.2.1 x0).1 = 7 := by
  unfold f_Shape_columns at h
  exact (og_s h).1
theorem t_Shape_columns (n : Nat) (x0 : Nat) (M : MM) (z : Int32 × MM) (h : f_Shape_columns n x0 M = some z) : CT m_Shape_columns (rm 1 0 0) [.ref x0] M (some (.int z.1)) z.2 := by
  unfold f_Shape_columns at h
  obtain ⟨hthis, h⟩ := og_s h
  refine CT.of (ls := [some (.ref x0), none, none]) rfl (okp rfl) rfl ?_
  refine e_iconst (v := 0) d_Shape_columns_0 (by decide) ?_
  refine e_istore_n (l2 := [some (.ref x0), some (.int 0), none]) d_Shape_columns_1 rfl (okl rfl) rfl ?_
  refine e_iconst (v := 0) d_Shape_columns_2 (by decide) ?_
  refine e_istore_n (l2 := [some (.ref x0), some (.int 0), some (.int 0)]) d_Shape_columns_3 rfl (okl rfl) rfl ?_
  exact (t_Shape_columns_4 n n x0 0 0 M z h).less (show LSub _ _ from ⟨rfl, ⟨rfl, ⟨rfl, trivial⟩⟩⟩)
theorem d_Shape_leftmost_0 : DC m_Shape_leftmost 0 (.iconst 0) 1 1 := ⟨by decide +kernel, rfl⟩
theorem d_Shape_leftmost_1 : DC m_Shape_leftmost 1 (.istore_n 1) 1 2 := ⟨by decide +kernel, rfl⟩
theorem d_Shape_leftmost_2 : DC m_Shape_leftmost 2 (.iload_n 1) 1 3 := ⟨by decide +kernel, rfl⟩
theorem d_Shape_leftmost_3 : DC m_Shape_leftmost 3 (.bipush 8) 2 5 := ⟨by decide +kernel, rfl⟩
theorem d_Shape_leftmost_5 : DC m_Shape_leftmost 5 (.if_icmp .ge 22) 3 8 := ⟨by decide +kernel, rfl⟩
theorem d_Shape_leftmost_8 : DC m_Shape_leftmost 8 (.iload_n 0) 1 9 := ⟨by decide +kernel, rfl⟩
theorem d_Shape_leftmost_9 : DC m_Shape_leftmost 9 (.iconst 4) 1 10 := ⟨by decide +kernel, rfl⟩
theorem d_Shape_leftmost_10 : DC m_Shape_leftmost 10 (.iload_n 1) 1 11 := ⟨by decide +kernel, rfl⟩
theorem d_Shape_leftmost_11 : DC m_Shape_leftmost 11 .imul 1 12 := ⟨by decide +kernel, rfl⟩
theorem d_Shape_leftmost_12 : DC m_Shape_leftmost 12 .iushr 1 13 := ⟨by decide +kernel, rfl⟩
theorem d_Shape_leftmost_13 : DC m_Shape_leftmost 13 (.bipush 15) 2 15 := ⟨by decide +kernel, rfl⟩
theorem d_Shape_leftmost_15 : DC m_Shape_leftmost 15 .iand 1 16 := ⟨by decide +kernel, rfl⟩
theorem d_Shape_leftmost_16 : DC m_Shape_leftmost 16 (.ifCond .eq 5) 3 19 := ⟨by decide +kernel, rfl⟩
theorem d_Shape_leftmost_19 : DC m_Shape_leftmost 19 (.iload_n 1) 1 20 := ⟨by decide +kernel, rfl⟩
theorem d_Shape_leftmost_20 : DC m_Shape_leftmost 20 .ireturn 1 21 := ⟨by decide +kernel, rfl⟩
theorem d_Shape_leftmost_21 : DC m_Shape_leftmost 21 (.iinc 1 1) 3 24 := ⟨by decide +kernel, rfl⟩
theorem d_Shape_leftmost_24 : DC m_Shape_leftmost 24 (.goto (-22)) 3 27 := ⟨by decide +kernel, rfl⟩
theorem d_Shape_leftmost_27 : DC m_Shape_leftmost 27 (.bipush 8) 2 29 := ⟨by decide +kernel, rfl⟩
theorem d_Shape_leftmost_29 : DC m_Shape_leftmost 29 .ireturn 1 30 := ⟨by decide +kernel, rfl⟩
def f_Shape_leftmost_2 (n : Nat) : Nat → Int32 → Int32 → MM → Option (Int32 × MM)
  | 0, _, _, _ => none
  | m + 1, x0, x1, M =>
    if 8 ≤ x1 then
      some (8, M)
    else
      if ((ushr x0 (4 * x1)) &&& 15) = 0 then
        f_Shape_leftmost_2 n m x0 (x1 + 1) M
      else
        some (x1, M)
theorem t_Shape_leftmost_2 (n : Nat) : ∀ (m : Nat) (x0 : Int32) (x1 : Int32) (M : MM) (z : Int32 × MM), f_Shape_leftmost_2 n m x0 x1 M = some z → EV m_Shape_leftmost (rm 1 0 0) (some (.int z.1)) z.2 0 0 2 [some (.int x0), some (.int x1)] [] M := by
  intro m
  induction m with
  | zero => intro x0 x1 M z h; cases h
  | succ m ih =>
    intro x0 x1 M z h
    rw [f_Shape_leftmost_2] at h
    refine e_iload_n d_Shape_leftmost_2 rfl ?_
    refine e_bipush (v := 8) d_Shape_leftmost_3 (by decide) ?_
    refine e_ic_ge 27 d_Shape_leftmost_5 (by decide) (fun c1 => ?_) (fun c1 => ?_)
    · replace h := ift c1 h
      refine e_bipush (v := 8) d_Shape_leftmost_27 (by decide) ?_
      cases h
      exact e_iret d_Shape_leftmost_29 rfl (Nat.le_refl _) (Nat.le_refl _)
    · replace h := ifn c1 h
      refine e_iload_n d_Shape_leftmost_8 rfl ?_
      refine e_iconst (v := 4) d_Shape_leftmost_9 (by decide) ?_
      refine e_iload_n d_Shape_leftmost_10 rfl ?_
      refine e_imul d_Shape_leftmost_11 ?_
      refine e_iushr d_Shape_leftmost_12 ?_
      refine e_bipush (v := 15) d_Shape_leftmost_13 (by decide) ?_
      refine e_iand d_Shape_leftmost_15 ?_
      refine e_if_eq 21 d_Shape_leftmost_16 (by decide) (fun c2 => ?_) (fun c2 => ?_)
      · replace h := ift c2 h
        refine e_iinc (v := x1 + 1) (l2 := [some (.int x0), some (.int (x1 + 1))]) d_Shape_leftmost_21 rfl rfl rfl (okl rfl) rfl ?_
        refine e_goto 2 d_Shape_leftmost_24 (by decide) ?_
        exact (ih x0 (x1 + 1) M z h).less (show LSub _ _ from ⟨rfl, ⟨rfl, trivial⟩⟩)
      · replace h := ifn c2 h
        refine e_iload_n d_Shape_leftmost_19 rfl ?_
        cases h
        exact e_iret d_Shape_leftmost_20 rfl (Nat.le_refl _) (Nat.le_refl _)
def f_Shape_leftmost (n : Nat) (x0 : Int32) (M : MM) : Option (Int32 × MM) :=
  f_Shape_leftmost_2 n n x0 0 M
theorem t_Shape_leftmost (n : Nat) (x0 : Int32) (M : MM) (z : Int32 × MM) (h : f_Shape_leftmost n x0 M = some z) : CT m_Shape_leftmost (rm 1 0 0) [.int x0] M (some (.int z.1)) z.2 := by
  unfold f_Shape_leftmost at h
  refine CT.of (ls := [some (.int x0), none]) rfl (okp rfl) rfl ?_
  refine e_iconst (v := 0) d_Shape_leftmost_0 (by decide) ?_
  refine e_istore_n (l2 := [some (.int x0), some (.int 0)]) d_Shape_leftmost_1 rfl (okl rfl) rfl ?_
  exact (t_Shape_leftmost_2 n n x0 0 M z h).less (show LSub _ _ from ⟨rfl, ⟨rfl, trivial⟩⟩)
theorem d_Shape_slide_0 : DC m_Shape_slide 0 (.iload_n 1) 1 1 := ⟨by decide +kernel, rfl⟩
theorem d_Shape_slide_1 : DC m_Shape_slide 1 (.bipush (-8)) 2 3 := ⟨by decide +kernel, rfl⟩
theorem d_Shape_slide_3 : DC m_Shape_slide 3 (.if_icmp .le 9) 3 6 := ⟨by decide +kernel, rfl⟩
theorem d_Shape_slide_6 : DC m_Shape_slide 6 (.iload_n 1) 1 7 := ⟨by decide +kernel, rfl⟩
theorem d_Shape_slide_7 : DC m_Shape_slide 7 (.bipush 8) 2 9 := ⟨by decide +kernel, rfl⟩
theorem d_Shape_slide_9 : DC m_Shape_slide 9 (.if_icmp .lt 5) 3 12 := ⟨by decide +kernel, rfl⟩
theorem d_Shape_slide_12 : DC m_Shape_slide 12 (.iconst 0) 1 13 := ⟨by decide +kernel, rfl⟩
theorem d_Shape_slide_13 : DC m_Shape_slide 13 .ireturn 1 14 := ⟨by decide +kernel, rfl⟩
theorem d_Shape_slide_14 : DC m_Shape_slide 14 (.iload_n 1) 1 15 := ⟨by decide +kernel, rfl⟩
theorem d_Shape_slide_15 : DC m_Shape_slide 15 (.ifCond .lt 11) 3 18 := ⟨by decide +kernel, rfl⟩
theorem d_Shape_slide_18 : DC m_Shape_slide 18 (.iload_n 0) 1 19 := ⟨by decide +kernel, rfl⟩
theorem d_Shape_slide_19 : DC m_Shape_slide 19 (.iconst 4) 1 20 := ⟨by decide +kernel, rfl⟩
theorem d_Shape_slide_20 : DC m_Shape_slide 20 (.iload_n 1) 1 21 := ⟨by decide +kernel, rfl⟩
theorem d_Shape_slide_21 : DC m_Shape_slide 21 .imul 1 22 := ⟨by decide +kernel, rfl⟩
theorem d_Shape_slide_22 : DC m_Shape_slide 22 .ishl 1 23 := ⟨by decide +kernel, rfl⟩
theorem d_Shape_slide_23 : DC m_Shape_slide 23 (.goto 9) 3 26 := ⟨by decide +kernel, rfl⟩
theorem d_Shape_slide_26 : DC m_Shape_slide 26 (.iload_n 0) 1 27 := ⟨by decide +kernel, rfl⟩
theorem d_Shape_slide_27 : DC m_Shape_slide 27 (.bipush (-4)) 2 29 := ⟨by decide +kernel, rfl⟩
theorem d_Shape_slide_29 : DC m_Shape_slide 29 (.iload_n 1) 1 30 := ⟨by decide +kernel, rfl⟩
theorem d_Shape_slide_30 : DC m_Shape_slide 30 .imul 1 31 := ⟨by decide +kernel, rfl⟩
theorem d_Shape_slide_31 : DC m_Shape_slide 31 .iushr 1 32 := ⟨by decide +kernel, rfl⟩
theorem d_Shape_slide_32 : DC m_Shape_slide 32 .ireturn 1 33 := ⟨by decide +kernel, rfl⟩
def f_Shape_slide (n : Nat) (x0 : Int32) (x1 : Int32) (M : MM) : Option (Int32 × MM) :=
  if x1 ≤ (-8) then
    some (0, M)
  else
    if x1 < 8 then
      if x1 < 0 then
        some ((ushr x0 ((-4) * x1)), M)
      else
        some ((ishl x0 (4 * x1)), M)
    else
      some (0, M)
theorem t_Shape_slide (n : Nat) (x0 : Int32) (x1 : Int32) (M : MM) (z : Int32 × MM) (h : f_Shape_slide n x0 x1 M = some z) : CT m_Shape_slide (rm 1 0 0) [.int x0, .int x1] M (some (.int z.1)) z.2 := by
  unfold f_Shape_slide at h
  refine CT.of (ls := [some (.int x0), some (.int x1)]) rfl (okp rfl) rfl ?_
  refine e_iload_n d_Shape_slide_0 rfl ?_
  refine e_bipush (v := (-8)) d_Shape_slide_1 (by decide) ?_
  refine e_ic_le 12 d_Shape_slide_3 (by decide) (fun c1 => ?_) (fun c1 => ?_)
  · replace h := ift c1 h
    refine e_iconst (v := 0) d_Shape_slide_12 (by decide) ?_
    cases h
    exact e_iret d_Shape_slide_13 rfl (Nat.le_refl _) (Nat.le_refl _)
  · replace h := ifn c1 h
    refine e_iload_n d_Shape_slide_6 rfl ?_
    refine e_bipush (v := 8) d_Shape_slide_7 (by decide) ?_
    refine e_ic_lt 14 d_Shape_slide_9 (by decide) (fun c2 => ?_) (fun c2 => ?_)
    · replace h := ift c2 h
      refine e_iload_n d_Shape_slide_14 rfl ?_
      refine e_if_lt 26 d_Shape_slide_15 (by decide) (fun c3 => ?_) (fun c3 => ?_)
      · replace h := ift c3 h
        refine e_iload_n d_Shape_slide_26 rfl ?_
        refine e_bipush (v := (-4)) d_Shape_slide_27 (by decide) ?_
        refine e_iload_n d_Shape_slide_29 rfl ?_
        refine e_imul d_Shape_slide_30 ?_
        refine e_iushr d_Shape_slide_31 ?_
        cases h
        exact e_iret d_Shape_slide_32 rfl (Nat.le_refl _) (Nat.le_refl _)
      · replace h := ifn c3 h
        refine e_iload_n d_Shape_slide_18 rfl ?_
        refine e_iconst (v := 4) d_Shape_slide_19 (by decide) ?_
        refine e_iload_n d_Shape_slide_20 rfl ?_
        refine e_imul d_Shape_slide_21 ?_
        refine e_ishl d_Shape_slide_22 ?_
        refine e_goto 32 d_Shape_slide_23 (by decide) ?_
        cases h
        exact e_iret d_Shape_slide_32 rfl (Nat.le_refl _) (Nat.le_refl _)
    · replace h := ifn c2 h
      refine e_iconst (v := 0) d_Shape_slide_12 (by decide) ?_
      cases h
      exact e_iret d_Shape_slide_13 rfl (Nat.le_refl _) (Nat.le_refl _)
theorem d_Shape_moveToBase_0 : DC m_Shape_moveToBase 0 (.aload_n 0) 1 1 := ⟨by decide +kernel, rfl⟩
theorem d_Shape_moveToBase_1 : DC m_Shape_moveToBase 1 (.invokevirtual 38) 3 4 := ⟨by decide +kernel, rfl⟩
theorem d_Shape_moveToBase_4 : DC m_Shape_moveToBase 4 (.istore_n 1) 1 5 := ⟨by decide +kernel, rfl⟩
theorem d_Shape_moveToBase_5 : DC m_Shape_moveToBase 5 (.aload_n 0) 1 6 := ⟨by decide +kernel, rfl⟩
theorem d_Shape_moveToBase_6 : DC m_Shape_moveToBase 6 (.invokevirtual 21) 3 9 := ⟨by decide +kernel, rfl⟩
theorem d_Shape_moveToBase_9 : DC m_Shape_moveToBase 9 (.invokestatic 25) 3 12 := ⟨by decide +kernel, rfl⟩
theorem d_Shape_moveToBase_12 : DC m_Shape_moveToBase 12 (.istore_n 2) 1 13 := ⟨by decide +kernel, rfl⟩
theorem d_Shape_moveToBase_13 : DC m_Shape_moveToBase 13 (.iconst 0) 1 14 := ⟨by decide +kernel, rfl⟩
theorem d_Shape_moveToBase_14 : DC m_Shape_moveToBase 14 (.istore_n 3) 1 15 := ⟨by decide +kernel, rfl⟩
theorem d_Shape_moveToBase_15 : DC m_Shape_moveToBase 15 (.iload_n 3) 1 16 := ⟨by decide +kernel, rfl⟩
theorem d_Shape_moveToBase_16 : DC m_Shape_moveToBase 16 (.bipush 8) 2 18 := ⟨by decide +kernel, rfl⟩
theorem d_Shape_moveToBase_18 : DC m_Shape_moveToBase 18 (.if_icmp .ge 40) 3 21 := ⟨by decide +kernel, rfl⟩
theorem d_Shape_moveToBase_21 : DC m_Shape_moveToBase 21 (.aload_n 0) 1 22 := ⟨by decide +kernel, rfl⟩
theorem d_Shape_moveToBase_22 : DC m_Shape_moveToBase 22 (.getfield 9) 3 25 := ⟨by decide +kernel, rfl⟩
theorem d_Shape_moveToBase_25 : DC m_Shape_moveToBase 25 (.iload_n 3) 1 26 := ⟨by decide +kernel, rfl⟩
theorem d_Shape_moveToBase_26 : DC m_Shape_moveToBase 26 (.iload_n 3) 1 27 := ⟨by decide +kernel, rfl⟩
theorem d_Shape_moveToBase_27 : DC m_Shape_moveToBase 27 (.iload_n 1) 1 28 := ⟨by decide +kernel, rfl⟩
theorem d_Shape_moveToBase_28 : DC m_Shape_moveToBase 28 .iadd 1 29 := ⟨by decide +kernel, rfl⟩
theorem d_Shape_moveToBase_29 : DC m_Shape_moveToBase 29 (.bipush 8) 2 31 := ⟨by decide +kernel, rfl⟩
theorem d_Shape_moveToBase_31 : DC m_Shape_moveToBase 31 (.if_icmp .ge 19) 3 34 := ⟨by decide +kernel, rfl⟩
theorem d_Shape_moveToBase_34 : DC m_Shape_moveToBase 34 (.aload_n 0) 1 35 := ⟨by decide +kernel, rfl⟩
theorem d_Shape_moveToBase_35 : DC m_Shape_moveToBase 35 (.getfield 9) 3 38 := ⟨by decide +kernel, rfl⟩
theorem d_Shape_moveToBase_38 : DC m_Shape_moveToBase 38 (.iload_n 3) 1 39 := ⟨by decide +kernel, rfl⟩
theorem d_Shape_moveToBase_39 : DC m_Shape_moveToBase 39 (.iload_n 1) 1 40 := ⟨by decide +kernel, rfl⟩
theorem d_Shape_moveToBase_40 : DC m_Shape_moveToBase 40 .iadd 1 41 := ⟨by decide +kernel, rfl⟩
theorem d_Shape_moveToBase_41 : DC m_Shape_moveToBase 41 .iaload 1 42 := ⟨by decide +kernel, rfl⟩
theorem d_Shape_moveToBase_42 : DC m_Shape_moveToBase 42 (.iload_n 2) 1 43 := ⟨by decide +kernel, rfl⟩
theorem d_Shape_moveToBase_43 : DC m_Shape_moveToBase 43 .ineg 1 44 := ⟨by decide +kernel, rfl⟩
theorem d_Shape_moveToBase_44 : DC m_Shape_moveToBase 44 (.invokestatic 55) 3 47 := ⟨by decide +kernel, rfl⟩
theorem d_Shape_moveToBase_47 : DC m_Shape_moveToBase 47 (.goto 4) 3 50 := ⟨by decide +kernel, rfl⟩
theorem d_Shape_moveToBase_50 : DC m_Shape_moveToBase 50 (.iconst 0) 1 51 := ⟨by decide +kernel, rfl⟩
theorem d_Shape_moveToBase_51 : DC m_Shape_moveToBase 51 .iastore 1 52 := ⟨by decide +kernel, rfl⟩
theorem d_Shape_moveToBase_52 : DC m_Shape_moveToBase 52 (.iinc 3 1) 3 55 := ⟨by decide +kernel, rfl⟩
theorem d_Shape_moveToBase_55 : DC m_Shape_moveToBase 55 (.goto (-40)) 3 58 := ⟨by decide +kernel, rfl⟩
theorem d_Shape_moveToBase_58 : DC m_Shape_moveToBase 58 .return_ 1 59 := ⟨by decide +kernel, rfl⟩
def f_Shape_moveToBase_51 (n : Nat) (k_15 : Nat → Int32 → Int32 → Int32 → MM → Option (MM)) (x0 : Nat) (x1 : Int32) (x2 : Int32) (x3 : Int32) (s0 : Nat) (s1 : Int32) (s2 : Int32) (M : MM) : Option (MM) :=
  (sI 100 s0 s1 s2 M).bind fun M1 =>
  k_15 x0 x1 x2 (x3 + 1) M1
theorem t_Shape_moveToBase_51 (n : Nat) {k_15 : Nat → Int32 → Int32 → Int32 → MM → Option (MM)} (hk_15 : ∀ (x0 : Nat) (x1 : Int32) (x2 : Int32) (x3 : Int32) (M : MM) (z : MM), k_15 x0 x1 x2 x3 M = some z → EV m_Shape_moveToBase (rm 2 0 0) none z 0 0 15 [some (.ref x0), some (.int x1), some (.int x2), some (.int x3)] [] M) (x0 : Nat) (x1 : Int32) (x2 : Int32) (x3 : Int32) (s0 : Nat) (s1 : Int32) (s2 : Int32) (M : MM) (z : MM) (h : f_Shape_moveToBase_51 n k_15 x0 x1 x2 x3 s0 s1 s2 M = some z) : EV m_Shape_moveToBase (rm 2 0 0) none z 0 0 51 [some (.ref x0), some (.int x1), some (.int x2), some (.int x3)] [.int s2, .int s1, .ref s0] M := by
  unfold f_Shape_moveToBase_51 at h
  obtain ⟨M1, hM1, h⟩ := bnd h
  refine e_iast d_Shape_moveToBase_51 hM1 ?_
  refine e_iinc (v := x3 + 1) (l2 := [some (.ref x0), some (.int x1), some (.int x2), some (.int (x3 + 1))]) d_Shape_moveToBase_52 rfl rfl rfl (okl rfl) rfl ?_
  refine e_goto 15 d_Shape_moveToBase_55 (by decide) ?_
  exact (hk_15 x0 x1 x2 (x3 + 1) M1 z h).less (show LSub _ _ from ⟨rfl, ⟨rfl, ⟨rfl, ⟨rfl, trivial⟩⟩⟩⟩)
def f_Shape_moveToBase_15 (n : Nat) : Nat → Nat → Int32 → Int32 → Int32 → MM → Option (MM)
  | 0, _, _, _, _, _ => none
  | m + 1, x0, x1, x2, x3, M =>
    if 8 ≤ x3 then
      some M
    else
      (gR 7 0 x0 M).bind fun v3 =>
      if 8 ≤ (x3 + x1) then
        f_Shape_moveToBase_51 n (f_Shape_moveToBase_15 n m) x0 x1 x2 x3 v3 x3 0 M
      else
        (gR 7 0 x0 M).bind fun v5 =>
        (aI 100 v5 (x3 + x1) M).bind fun v6 =>
        (f_Shape_slide n v6 (-x2) M).bind fun p7 =>
        f_Shape_moveToBase_51 n (f_Shape_moveToBase_15 n m) x0 x1 x2 x3 v3 x3 p7.1 p7.2
theorem t_Shape_moveToBase_15 (n : Nat) : ∀ (m : Nat) (x0 : Nat) (x1 : Int32) (x2 : Int32) (x3 : Int32) (M : MM) (z : MM), f_Shape_moveToBase_15 n m x0 x1 x2 x3 M = some z → EV m_Shape_moveToBase (rm 2 0 0) none z 0 0 15 [some (.ref x0), some (.int x1), some (.int x2), some (.int x3)] [] M := by
  intro m
  induction m with
  | zero => intro x0 x1 x2 x3 M z h; cases h
  | succ m ih =>
    intro x0 x1 x2 x3 M z h
    rw [f_Shape_moveToBase_15] at h
    refine e_iload_n d_Shape_moveToBase_15 rfl ?_
    refine e_bipush (v := 8) d_Shape_moveToBase_16 (by decide) ?_
    refine e_ic_ge 58 d_Shape_moveToBase_18 (by decide) (fun c2 => ?_) (fun c2 => ?_)
    · replace h := ift c2 h
      cases h
      exact e_vret d_Shape_moveToBase_58 rfl (Nat.le_refl _) (Nat.le_refl _)
    · replace h := ifn c2 h
      refine e_aload_n d_Shape_moveToBase_21 rfl ?_
      obtain ⟨v3, hv3, h⟩ := bnd h
      refine e_getR d_Shape_moveToBase_22 fl_Shape_9 (fun _ _ _ => rfl) hv3 ?_
      refine e_iload_n d_Shape_moveToBase_25 rfl ?_
      refine e_iload_n d_Shape_moveToBase_26 rfl ?_
      refine e_iload_n d_Shape_moveToBase_27 rfl ?_
      refine e_iadd d_Shape_moveToBase_28 ?_
      refine e_bipush (v := 8) d_Shape_moveToBase_29 (by decide) ?_
      refine e_ic_ge 50 d_Shape_moveToBase_31 (by decide) (fun c4 => ?_) (fun c4 => ?_)
      · replace h := ift c4 h
        refine e_iconst (v := 0) d_Shape_moveToBase_50 (by decide) ?_
        exact (t_Shape_moveToBase_51 n ih x0 x1 x2 x3 v3 x3 0 M z h).less (show LSub _ _ from ⟨rfl, ⟨rfl, ⟨rfl, ⟨rfl, trivial⟩⟩⟩⟩)
      · replace h := ifn c4 h
        refine e_aload_n d_Shape_moveToBase_34 rfl ?_
        obtain ⟨v5, hv5, h⟩ := bnd h
        refine e_getR d_Shape_moveToBase_35 fl_Shape_9 (fun _ _ _ => rfl) hv5 ?_
        refine e_iload_n d_Shape_moveToBase_38 rfl ?_
        refine e_iload_n d_Shape_moveToBase_39 rfl ?_
        refine e_iadd d_Shape_moveToBase_40 ?_
        obtain ⟨v6, hv6, h⟩ := bnd h
        refine e_iald d_Shape_moveToBase_41 hv6 ?_
        refine e_iload_n d_Shape_moveToBase_42 rfl ?_
        refine e_ineg d_Shape_moveToBase_43 ?_
        obtain ⟨p7, hp7, h⟩ := bnd h
        refine e_cSi (mt1 := m_Shape_slide) (As := [.int v6, .int (-x2)]) (st := [.int x3, .ref v3]) d_Shape_moveToBase_44 ml_Shape_55 ms_Shape_slide (t_Shape_slide n v6 (-x2) M p7 hp7) rfl rfl (okp rfl) (okp rfl) (okp rfl) (Nat.le_refl _) (Nat.le_refl _) ?_
        refine e_goto 51 d_Shape_moveToBase_47 (by decide) ?_
        exact (t_Shape_moveToBase_51 n ih x0 x1 x2 x3 v3 x3 p7.1 p7.2 z h).less (show LSub _ _ from ⟨rfl, ⟨rfl, ⟨rfl, ⟨rfl, trivial⟩⟩⟩⟩)
def f_Shape_moveToBase (n : Nat) (x0 : Nat) (M : MM) : Option (MM) :=
  og 7 x0 M <|
  (f_Shape_top n x0 M).bind fun p8 =>
  (f_Shape_columns n x0 p8.2).bind fun p9 =>
  (f_Shape_leftmost n p9.1 p9.2).bind fun p10 =>
  f_Shape_moveToBase_15 n n x0 p8.1 p10.1 0 p10.2
theorem fc_Shape_moveToBase {n : Nat} {x0 : Nat} {M : MM} {z : MM} (h : f_Shape_moveToBase n x0 M = some z) : (M.1.2.1 x0).1 = 7 := by
  unfold f_Shape_moveToBase at h
  exact (og_s h).1
theorem t_Shape_moveToBase (n : Nat) (x0 : Nat) (M : MM) (z : MM) (h : f_Shape_moveToBase n x0 M = some z) : CT m_Shape_moveToBase (rm 2 0 0) [.ref x0] M none z := by
  unfold f_Shape_moveToBase at h
  obtain ⟨hthis, h⟩ := og_s h
  refine CT.of (ls := [some (.ref x0), none, none, none]) rfl (okp rfl) rfl ?_
  refine e_aload_n d_Shape_moveToBase_0 rfl ?_
  obtain ⟨p8, hp8, h⟩ := bnd h
  refine e_cVi (mt1 := m_Shape_top) (As := []) (st := []) d_Shape_moveToBase_1 ml_Shape_38 mv_Shape_top (t_Shape_top n x0 M p8 hp8) (fc_Shape_top hp8) rfl rfl rfl (okp rfl) (okp rfl) (okp rfl) (Nat.le_refl _) (Nat.le_refl _) ?_
  refine e_istore_n (l2 := [some (.ref x0), some (.int p8.1), none, none]) d_Shape_moveToBase_4 rfl (okl rfl) rfl ?_
  refine e_aload_n d_Shape_moveToBase_5 rfl ?_
  obtain ⟨p9, hp9, h⟩ := bnd h
  refine e_cVi (mt1 := m_Shape_columns) (As := []) (st := []) d_Shape_moveToBase_6 ml_Shape_21 mv_Shape_columns (t_Shape_columns n x0 p8.2 p9 hp9) (fc_Shape_columns hp9) rfl rfl rfl (okp rfl) (okp rfl) (okp rfl) (Nat.le_refl _) (Nat.le_refl _) ?_
  obtain ⟨p10, hp10, h⟩ := bnd h
  refine e_cSi (mt1 := m_Shape_leftmost) (As := [.int p9.1]) (st := []) d_Shape_moveToBase_9 ml_Shape_25 ms_Shape_leftmost (t_Shape_leftmost n p9.1 p9.2 p10 hp10) rfl rfl (okp rfl) (okp rfl) (okp rfl) (Nat.le_refl _) (Nat.le_refl _) ?_
  refine e_istore_n (l2 := [some (.ref x0), some (.int p8.1), some (.int p10.1), none]) d_Shape_moveToBase_12 rfl (okl rfl) rfl ?_
  refine e_iconst (v := 0) d_Shape_moveToBase_13 (by decide) ?_
  refine e_istore_n (l2 := [some (.ref x0), some (.int p8.1), some (.int p10.1), some (.int 0)]) d_Shape_moveToBase_14 rfl (okl rfl) rfl ?_
  exact (t_Shape_moveToBase_15 n n x0 p8.1 p10.1 0 p10.2 z h).less (show LSub _ _ from ⟨rfl, ⟨rfl, ⟨rfl, ⟨rfl, trivial⟩⟩⟩⟩)
theorem d_Shape_isNothing_0 : DC m_Shape_isNothing 0 (.iconst 0) 1 1 := ⟨by decide +kernel, rfl⟩
theorem d_Shape_isNothing_1 : DC m_Shape_isNothing 1 (.istore_n 1) 1 2 := ⟨by decide +kernel, rfl⟩
theorem d_Shape_isNothing_2 : DC m_Shape_isNothing 2 (.iload_n 1) 1 3 := ⟨by decide +kernel, rfl⟩
theorem d_Shape_isNothing_3 : DC m_Shape_isNothing 3 (.bipush 8) 2 5 := ⟨by decide +kernel, rfl⟩
theorem d_Shape_isNothing_5 : DC m_Shape_isNothing 5 (.if_icmp .ge 20) 3 8 := ⟨by decide +kernel, rfl⟩
theorem d_Shape_isNothing_8 : DC m_Shape_isNothing 8 (.aload_n 0) 1 9 := ⟨by decide +kernel, rfl⟩
theorem d_Shape_isNothing_9 : DC m_Shape_isNothing 9 (.getfield 9) 3 12 := ⟨by decide +kernel, rfl⟩
theorem d_Shape_isNothing_12 : DC m_Shape_isNothing 12 (.iload_n 1) 1 13 := ⟨by decide +kernel, rfl⟩
theorem d_Shape_isNothing_13 : DC m_Shape_isNothing 13 .iaload 1 14 := ⟨by decide +kernel, rfl⟩
theorem d_Shape_isNothing_14 : DC m_Shape_isNothing 14 (.ifCond .eq 5) 3 17 := ⟨by decide +kernel, rfl⟩
theorem d_Shape_isNothing_17 : DC m_Shape_isNothing 17 (.iconst 0) 1 18 := ⟨by decide +kernel, rfl⟩
theorem d_Shape_isNothing_18 : DC m_Shape_isNothing 18 .ireturn 1 19 := ⟨by decide +kernel, rfl⟩
theorem d_Shape_isNothing_19 : DC m_Shape_isNothing 19 (.iinc 1 1) 3 22 := ⟨by decide +kernel, rfl⟩
theorem d_Shape_isNothing_22 : DC m_Shape_isNothing 22 (.goto (-20)) 3 25 := ⟨by decide +kernel, rfl⟩
theorem d_Shape_isNothing_25 : DC m_Shape_isNothing 25 (.iconst 1) 1 26 := ⟨by decide +kernel, rfl⟩
theorem d_Shape_isNothing_26 : DC m_Shape_isNothing 26 .ireturn 1 27 := ⟨by decide +kernel, rfl⟩
def f_Shape_isNothing_2 (n : Nat) : Nat → Nat → Int32 → MM → Option (Int32 × MM)
  | 0, _, _, _ => none
  | m + 1, x0, x1, M =>
    if 8 ≤ x1 then
      some (1, M)
    else
      (gR 7 0 x0 M).bind fun v2 =>
      (aI 100 v2 x1 M).bind fun v3 =>
      if v3 = 0 then
        f_Shape_isNothing_2 n m x0 (x1 + 1) M
      else
        some (0, M)
theorem t_Shape_isNothing_2 (n : Nat) : ∀ (m : Nat) (x0 : Nat) (x1 : Int32) (M : MM) (z : Int32 × MM), f_Shape_isNothing_2 n m x0 x1 M = some z → EV m_Shape_isNothing (rm 1 0 0) (some (.int z.1)) z.2 0 0 2 [some (.ref x0), some (.int x1)] [] M := by
  intro m
  induction m with
  | zero => intro x0 x1 M z h; cases h
  | succ m ih =>
    intro x0 x1 M z h
    rw [f_Shape_isNothing_2] at h
    refine e_iload_n d_Shape_isNothing_2 rfl ?_
    refine e_bipush (v := 8) d_Shape_isNothing_3 (by decide) ?_
    refine e_ic_ge 25 d_Shape_isNothing_5 (by decide) (fun c1 => ?_) (fun c1 => ?_)
    · replace h := ift c1 h
      refine e_iconst (v := 1) d_Shape_isNothing_25 (by decide) ?_
      cases h
      exact e_zret (ty := .boolean) d_Shape_isNothing_26 rfl narZ1 (Nat.le_refl _) (Nat.le_refl _)
    · replace h := ifn c1 h
      refine e_aload_n d_Shape_isNothing_8 rfl ?_
      obtain ⟨v2, hv2, h⟩ := bnd h
      refine e_getR d_Shape_isNothing_9 fl_Shape_9 (fun _ _ _ => rfl) hv2 ?_
      refine e_iload_n d_Shape_isNothing_12 rfl ?_
      obtain ⟨v3, hv3, h⟩ := bnd h
      refine e_iald d_Shape_isNothing_13 hv3 ?_
      refine e_if_eq 19 d_Shape_isNothing_14 (by decide) (fun c4 => ?_) (fun c4 => ?_)
      · replace h := ift c4 h
        refine e_iinc (v := x1 + 1) (l2 := [some (.ref x0), some (.int (x1 + 1))]) d_Shape_isNothing_19 rfl rfl rfl (okl rfl) rfl ?_
        refine e_goto 2 d_Shape_isNothing_22 (by decide) ?_
        exact (ih x0 (x1 + 1) M z h).less (show LSub _ _ from ⟨rfl, ⟨rfl, trivial⟩⟩)
      · replace h := ifn c4 h
        refine e_iconst (v := 0) d_Shape_isNothing_17 (by decide) ?_
        cases h
        exact e_zret (ty := .boolean) d_Shape_isNothing_18 rfl narZ0 (Nat.le_refl _) (Nat.le_refl _)
def f_Shape_isNothing (n : Nat) (x0 : Nat) (M : MM) : Option (Int32 × MM) :=
  og 7 x0 M <|
  f_Shape_isNothing_2 n n x0 0 M
theorem fc_Shape_isNothing {n : Nat} {x0 : Nat} {M : MM} {z : Int32 × MM} (h : f_Shape_isNothing n x0 M = some z) : (M.1.2.1 x0).1 = 7 := by
  unfold f_Shape_isNothing at h
  exact (og_s h).1
theorem t_Shape_isNothing (n : Nat) (x0 : Nat) (M : MM) (z : Int32 × MM) (h : f_Shape_isNothing n x0 M = some z) : CT m_Shape_isNothing (rm 1 0 0) [.ref x0] M (some (.int z.1)) z.2 := by
  unfold f_Shape_isNothing at h
  obtain ⟨hthis, h⟩ := og_s h
  refine CT.of (ls := [some (.ref x0), none]) rfl (okp rfl) rfl ?_
  refine e_iconst (v := 0) d_Shape_isNothing_0 (by decide) ?_
  refine e_istore_n (l2 := [some (.ref x0), some (.int 0)]) d_Shape_isNothing_1 rfl (okl rfl) rfl ?_
  exact (t_Shape_isNothing_2 n n x0 0 M z h).less (show LSub _ _ from ⟨rfl, ⟨rfl, trivial⟩⟩)
theorem d_Shape_left_0 : DC m_Shape_left 0 (.aload_n 0) 1 1 := ⟨by decide +kernel, rfl⟩
theorem d_Shape_left_1 : DC m_Shape_left 1 (.invokevirtual 21) 3 4 := ⟨by decide +kernel, rfl⟩
theorem d_Shape_left_4 : DC m_Shape_left 4 (.invokestatic 25) 3 7 := ⟨by decide +kernel, rfl⟩
theorem d_Shape_left_7 : DC m_Shape_left 7 .ireturn 1 8 := ⟨by decide +kernel, rfl⟩
def f_Shape_left (n : Nat) (x0 : Nat) (M : MM) : Option (Int32 × MM) :=
  og 7 x0 M <|
  (f_Shape_columns n x0 M).bind fun p1 =>
  (f_Shape_leftmost n p1.1 p1.2).bind fun p2 =>
  some (p2.1, p2.2)
theorem fc_Shape_left {n : Nat} {x0 : Nat} {M : MM} {z : Int32 × MM} (h : f_Shape_left n x0 M = some z) : (M.1.2.1 x0).1 = 7 := by
  unfold f_Shape_left at h
  exact (og_s h).1
theorem t_Shape_left (n : Nat) (x0 : Nat) (M : MM) (z : Int32 × MM) (h : f_Shape_left n x0 M = some z) : CT m_Shape_left (rm 2 0 0) [.ref x0] M (some (.int z.1)) z.2 := by
  unfold f_Shape_left at h
  obtain ⟨hthis, h⟩ := og_s h
  refine CT.of (ls := [some (.ref x0)]) rfl (okp rfl) rfl ?_
  refine e_aload_n d_Shape_left_0 rfl ?_
  obtain ⟨p1, hp1, h⟩ := bnd h
  refine e_cVi (mt1 := m_Shape_columns) (As := []) (st := []) d_Shape_left_1 ml_Shape_21 mv_Shape_columns (t_Shape_columns n x0 M p1 hp1) (fc_Shape_columns hp1) rfl rfl rfl (okp rfl) (okp rfl) (okp rfl) (Nat.le_refl _) (Nat.le_refl _) ?_
  obtain ⟨p2, hp2, h⟩ := bnd h
  refine e_cSi (mt1 := m_Shape_leftmost) (As := [.int p1.1]) (st := []) d_Shape_left_4 ml_Shape_25 ms_Shape_leftmost (t_Shape_leftmost n p1.1 p1.2 p2 hp2) rfl rfl (okp rfl) (okp rfl) (okp rfl) (Nat.le_refl _) (Nat.le_refl _) ?_
  cases h
  exact e_iret d_Shape_left_7 rfl (Nat.le_refl _) (Nat.le_refl _)
theorem d_Shape_right_0 : DC m_Shape_right 0 (.aload_n 0) 1 1 := ⟨by decide +kernel, rfl⟩
theorem d_Shape_right_1 : DC m_Shape_right 1 (.invokevirtual 21) 3 4 := ⟨by decide +kernel, rfl⟩
theorem d_Shape_right_4 : DC m_Shape_right 4 (.istore_n 1) 1 5 := ⟨by decide +kernel, rfl⟩
theorem d_Shape_right_5 : DC m_Shape_right 5 (.bipush 7) 2 7 := ⟨by decide +kernel, rfl⟩
theorem d_Shape_right_7 : DC m_Shape_right 7 (.istore_n 2) 1 8 := ⟨by decide +kernel, rfl⟩
theorem d_Shape_right_8 : DC m_Shape_right 8 (.iload_n 2) 1 9 := ⟨by decide +kernel, rfl⟩
theorem d_Shape_right_9 : DC m_Shape_right 9 (.ifCond .lt 22) 3 12 := ⟨by decide +kernel, rfl⟩
theorem d_Shape_right_12 : DC m_Shape_right 12 (.iload_n 1) 1 13 := ⟨by decide +kernel, rfl⟩
theorem d_Shape_right_13 : DC m_Shape_right 13 (.iconst 4) 1 14 := ⟨by decide +kernel, rfl⟩
theorem d_Shape_right_14 : DC m_Shape_right 14 (.iload_n 2) 1 15 := ⟨by decide +kernel, rfl⟩
theorem d_Shape_right_15 : DC m_Shape_right 15 .imul 1 16 := ⟨by decide +kernel, rfl⟩
theorem d_Shape_right_16 : DC m_Shape_right 16 .iushr 1 17 := ⟨by decide +kernel, rfl⟩
theorem d_Shape_right_17 : DC m_Shape_right 17 (.bipush 15) 2 19 := ⟨by decide +kernel, rfl⟩
theorem d_Shape_right_19 : DC m_Shape_right 19 .iand 1 20 := ⟨by decide +kernel, rfl⟩
theorem d_Shape_right_20 : DC m_Shape_right 20 (.ifCond .eq 5) 3 23 := ⟨by decide +kernel, rfl⟩
theorem d_Shape_right_23 : DC m_Shape_right 23 (.iload_n 2) 1 24 := ⟨by decide +kernel, rfl⟩
theorem d_Shape_right_24 : DC m_Shape_right 24 .ireturn 1 25 := ⟨by decide +kernel, rfl⟩
theorem d_Shape_right_25 : DC m_Shape_right 25 (.iinc 2 (-1)) 3 28 := ⟨by decide +kernel, rfl⟩
theorem d_Shape_right_28 : DC m_Shape_right 28 (.goto (-20)) 3 31 := ⟨by decide +kernel, rfl⟩
theorem d_Shape_right_31 : DC m_Shape_right 31 (.iconst (-1)) 1 32 := ⟨by decide +kernel, rfl⟩
theorem d_Shape_right_32 : DC m_Shape_right 32 .ireturn 1 33 := ⟨by decide +kernel, rfl⟩
def f_Shape_right_8 (n : Nat) : Nat → Int32 → Int32 → MM → Option (Int32 × MM)
  | 0, _, _, _ => none
  | m + 1, x1, x2, M =>
    if x2 < 0 then
      some ((-1), M)
    else
      if ((ushr x1 (4 * x2)) &&& 15) = 0 then
        f_Shape_right_8 n m x1 (x2 + (-1)) M
      else
        some (x2, M)
theorem t_Shape_right_8 (n : Nat) : ∀ (m : Nat) (x1 : Int32) (x2 : Int32) (M : MM) (z : Int32 × MM), f_Shape_right_8 n m x1 x2 M = some z → EV m_Shape_right (rm 2 0 0) (some (.int z.1)) z.2 0 0 8 [none, some (.int x1), some (.int x2)] [] M := by
  intro m
  induction m with
  | zero => intro x1 x2 M z h; cases h
  | succ m ih =>
    intro x1 x2 M z h
    rw [f_Shape_right_8] at h
    refine e_iload_n d_Shape_right_8 rfl ?_
    refine e_if_lt 31 d_Shape_right_9 (by decide) (fun c1 => ?_) (fun c1 => ?_)
    · replace h := ift c1 h
      refine e_iconst (v := (-1)) d_Shape_right_31 (by decide) ?_
      cases h
      exact e_iret d_Shape_right_32 rfl (Nat.le_refl _) (Nat.le_refl _)
    · replace h := ifn c1 h
      refine e_iload_n d_Shape_right_12 rfl ?_
      refine e_iconst (v := 4) d_Shape_right_13 (by decide) ?_
      refine e_iload_n d_Shape_right_14 rfl ?_
      refine e_imul d_Shape_right_15 ?_
      refine e_iushr d_Shape_right_16 ?_
      refine e_bipush (v := 15) d_Shape_right_17 (by decide) ?_
      refine e_iand d_Shape_right_19 ?_
      refine e_if_eq 25 d_Shape_right_20 (by decide) (fun c2 => ?_) (fun c2 => ?_)
      · replace h := ift c2 h
        refine e_iinc (v := x2 + (-1)) (l2 := [none, some (.int x1), some (.int (x2 + (-1)))]) d_Shape_right_25 rfl rfl rfl (okl rfl) rfl ?_
        refine e_goto 8 d_Shape_right_28 (by decide) ?_
        exact (ih x1 (x2 + (-1)) M z h).less (show LSub _ _ from ⟨rfl, ⟨rfl, trivial⟩⟩)
      · replace h := ifn c2 h
        refine e_iload_n d_Shape_right_23 rfl ?_
        cases h
        exact e_iret d_Shape_right_24 rfl (Nat.le_refl _) (Nat.le_refl _)
def f_Shape_right (n : Nat) (x0 : Nat) (M : MM) : Option (Int32 × MM) :=
  og 7 x0 M <|
  (f_Shape_columns n x0 M).bind fun p3 =>
  f_Shape_right_8 n n p3.1 7 p3.2
theorem fc_Shape_right {n : Nat} {x0 : Nat} {M : MM} {z : Int32 × MM} (h : f_Shape_right n x0 M = some z) : (M.1.2.1 x0).1 = 7 := by
  unfold f_Shape_right at h
  exact (og_s h).1
theorem t_Shape_right (n : Nat) (x0 : Nat) (M : MM) (z : Int32 × MM) (h : f_Shape_right n x0 M = some z) : CT m_Shape_right (rm 2 0 0) [.ref x0] M (some (.int z.1)) z.2 := by
  unfold f_Shape_right at h
  obtain ⟨hthis, h⟩ := og_s h
  refine CT.of (ls := [some (.ref x0), none, none]) rfl (okp rfl) rfl ?_
  refine e_aload_n d_Shape_right_0 rfl ?_
  obtain ⟨p3, hp3, h⟩ := bnd h
  refine e_cVi (mt1 := m_Shape_columns) (As := []) (st := []) d_Shape_right_1 ml_Shape_21 mv_Shape_columns (t_Shape_columns n x0 M p3 hp3) (fc_Shape_columns hp3) rfl rfl rfl (okp rfl) (okp rfl) (okp rfl) (Nat.le_refl _) (Nat.le_refl _) ?_
  refine e_istore_n (l2 := [some (.ref x0), some (.int p3.1), none]) d_Shape_right_4 rfl (okl rfl) rfl ?_
  refine e_bipush (v := 7) d_Shape_right_5 (by decide) ?_
  refine e_istore_n (l2 := [some (.ref x0), some (.int p3.1), some (.int 7)]) d_Shape_right_7 rfl (okl rfl) rfl ?_
  exact (t_Shape_right_8 n n p3.1 7 p3.2 z h).less (show LSub _ _ from ⟨rfl, ⟨rfl, trivial⟩⟩)
theorem d_Shape_bottom_0 : DC m_Shape_bottom 0 (.bipush 7) 2 2 := ⟨by decide +kernel, rfl⟩
theorem d_Shape_bottom_2 : DC m_Shape_bottom 2 (.istore_n 1) 1 3 := ⟨by decide +kernel, rfl⟩
theorem d_Shape_bottom_3 : DC m_Shape_bottom 3 (.iload_n 1) 1 4 := ⟨by decide +kernel, rfl⟩
theorem d_Shape_bottom_4 : DC m_Shape_bottom 4 (.ifCond .lt 20) 3 7 := ⟨by decide +kernel, rfl⟩
theorem d_Shape_bottom_7 : DC m_Shape_bottom 7 (.aload_n 0) 1 8 := ⟨by decide +kernel, rfl⟩
theorem d_Shape_bottom_8 : DC m_Shape_bottom 8 (.getfield 9) 3 11 := ⟨by decide +kernel, rfl⟩
theorem d_Shape_bottom_11 : DC m_Shape_bottom 11 (.iload_n 1) 1 12 := ⟨by decide +kernel, rfl⟩
theorem d_Shape_bottom_12 : DC m_Shape_bottom 12 .iaload 1 13 := ⟨by decide +kernel, rfl⟩
theorem d_Shape_bottom_13 : DC m_Shape_bottom 13 (.ifCond .eq 5) 3 16 := ⟨by decide +kernel, rfl⟩
theorem d_Shape_bottom_16 : DC m_Shape_bottom 16 (.iload_n 1) 1 17 := ⟨by decide +kernel, rfl⟩
theorem d_Shape_bottom_17 : DC m_Shape_bottom 17 .ireturn 1 18 := ⟨by decide +kernel, rfl⟩
theorem d_Shape_bottom_18 : DC m_Shape_bottom 18 (.iinc 1 (-1)) 3 21 := ⟨by decide +kernel, rfl⟩
theorem d_Shape_bottom_21 : DC m_Shape_bottom 21 (.goto (-18)) 3 24 := ⟨by decide +kernel, rfl⟩
theorem d_Shape_bottom_24 : DC m_Shape_bottom 24 (.iconst (-1)) 1 25 := ⟨by decide +kernel, rfl⟩
theorem d_Shape_bottom_25 : DC m_Shape_bottom 25 .ireturn 1 26 := ⟨by decide +kernel, rfl⟩
def f_Shape_bottom_3 (n : Nat) : Nat → Nat → Int32 → MM → Option (Int32 × MM)
  | 0, _, _, _ => none
  | m + 1, x0, x1, M =>
    if x1 < 0 then
      some ((-1), M)
    else
      (gR 7 0 x0 M).bind fun v2 =>
      (aI 100 v2 x1 M).bind fun v3 =>
      if v3 = 0 then
        f_Shape_bottom_3 n m x0 (x1 + (-1)) M
      else
        some (x1, M)
theorem t_Shape_bottom_3 (n : Nat) : ∀ (m : Nat) (x0 : Nat) (x1 : Int32) (M : MM) (z : Int32 × MM), f_Shape_bottom_3 n m x0 x1 M = some z → EV m_Shape_bottom (rm 1 0 0) (some (.int z.1)) z.2 0 0 3 [some (.ref x0), some (.int x1)] [] M := by
  intro m
  induction m with
  | zero => intro x0 x1 M z h; cases h
  | succ m ih =>
    intro x0 x1 M z h
    rw [f_Shape_bottom_3] at h
    refine e_iload_n d_Shape_bottom_3 rfl ?_
    refine e_if_lt 24 d_Shape_bottom_4 (by decide) (fun c1 => ?_) (fun c1 => ?_)
    · replace h := ift c1 h
      refine e_iconst (v := (-1)) d_Shape_bottom_24 (by decide) ?_
      cases h
      exact e_iret d_Shape_bottom_25 rfl (Nat.le_refl _) (Nat.le_refl _)
    · replace h := ifn c1 h
      refine e_aload_n d_Shape_bottom_7 rfl ?_
      obtain ⟨v2, hv2, h⟩ := bnd h
      refine e_getR d_Shape_bottom_8 fl_Shape_9 (fun _ _ _ => rfl) hv2 ?_
      refine e_iload_n d_Shape_bottom_11 rfl ?_
      obtain ⟨v3, hv3, h⟩ := bnd h
      refine e_iald d_Shape_bottom_12 hv3 ?_
      refine e_if_eq 18 d_Shape_bottom_13 (by decide) (fun c4 => ?_) (fun c4 => ?_)
      · replace h := ift c4 h
        refine e_iinc (v := x1 + (-1)) (l2 := [some (.ref x0), some (.int (x1 + (-1)))]) d_Shape_bottom_18 rfl rfl rfl (okl rfl) rfl ?_
        refine e_goto 3 d_Shape_bottom_21 (by decide) ?_
        exact (ih x0 (x1 + (-1)) M z h).less (show LSub _ _ from ⟨rfl, ⟨rfl, trivial⟩⟩)
      · replace h := ifn c4 h
        refine e_iload_n d_Shape_bottom_16 rfl ?_
        cases h
        exact e_iret d_Shape_bottom_17 rfl (Nat.le_refl _) (Nat.le_refl _)
def f_Shape_bottom (n : Nat) (x0 : Nat) (M : MM) : Option (Int32 × MM) :=
  og 7 x0 M <|
  f_Shape_bottom_3 n n x0 7 M
theorem fc_Shape_bottom {n : Nat} {x0 : Nat} {M : MM} {z : Int32 × MM} (h : f_Shape_bottom n x0 M = some z) : (M.1.2.1 x0).1 = 7 := by
  unfold f_Shape_bottom at h
  exact (og_s h).1
theorem t_Shape_bottom (n : Nat) (x0 : Nat) (M : MM) (z : Int32 × MM) (h : f_Shape_bottom n x0 M = some z) : CT m_Shape_bottom (rm 1 0 0) [.ref x0] M (some (.int z.1)) z.2 := by
  unfold f_Shape_bottom at h
  obtain ⟨hthis, h⟩ := og_s h
  refine CT.of (ls := [some (.ref x0), none]) rfl (okp rfl) rfl ?_
  refine e_bipush (v := 7) d_Shape_bottom_0 (by decide) ?_
  refine e_istore_n (l2 := [some (.ref x0), some (.int 7)]) d_Shape_bottom_2 rfl (okl rfl) rfl ?_
  exact (t_Shape_bottom_3 n n x0 7 M z h).less (show LSub _ _ from ⟨rfl, ⟨rfl, trivial⟩⟩)
theorem d_Shape_goesOff_0 : DC m_Shape_goesOff 0 (.aload_n 0) 1 1 := ⟨by decide +kernel, rfl⟩
theorem d_Shape_goesOff_1 : DC m_Shape_goesOff 1 (.invokevirtual 28) 3 4 := ⟨by decide +kernel, rfl⟩
theorem d_Shape_goesOff_4 : DC m_Shape_goesOff 4 (.ifCond .eq 5) 3 7 := ⟨by decide +kernel, rfl⟩
theorem d_Shape_goesOff_7 : DC m_Shape_goesOff 7 (.iconst 0) 1 8 := ⟨by decide +kernel, rfl⟩
theorem d_Shape_goesOff_8 : DC m_Shape_goesOff 8 .ireturn 1 9 := ⟨by decide +kernel, rfl⟩
theorem d_Shape_goesOff_9 : DC m_Shape_goesOff 9 (.aload_n 0) 1 10 := ⟨by decide +kernel, rfl⟩
theorem d_Shape_goesOff_10 : DC m_Shape_goesOff 10 (.invokevirtual 32) 3 13 := ⟨by decide +kernel, rfl⟩
theorem d_Shape_goesOff_13 : DC m_Shape_goesOff 13 (.iload_n 1) 1 14 := ⟨by decide +kernel, rfl⟩
theorem d_Shape_goesOff_14 : DC m_Shape_goesOff 14 .iadd 1 15 := ⟨by decide +kernel, rfl⟩
theorem d_Shape_goesOff_15 : DC m_Shape_goesOff 15 (.ifCond .lt 34) 3 18 := ⟨by decide +kernel, rfl⟩
theorem d_Shape_goesOff_18 : DC m_Shape_goesOff 18 (.aload_n 0) 1 19 := ⟨by decide +kernel, rfl⟩
theorem d_Shape_goesOff_19 : DC m_Shape_goesOff 19 (.invokevirtual 35) 3 22 := ⟨by decide +kernel, rfl⟩
theorem d_Shape_goesOff_22 : DC m_Shape_goesOff 22 (.iload_n 1) 1 23 := ⟨by decide +kernel, rfl⟩
theorem d_Shape_goesOff_23 : DC m_Shape_goesOff 23 .iadd 1 24 := ⟨by decide +kernel, rfl⟩
theorem d_Shape_goesOff_24 : DC m_Shape_goesOff 24 (.bipush 8) 2 26 := ⟨by decide +kernel, rfl⟩
theorem d_Shape_goesOff_26 : DC m_Shape_goesOff 26 (.if_icmp .ge 23) 3 29 := ⟨by decide +kernel, rfl⟩
theorem d_Shape_goesOff_29 : DC m_Shape_goesOff 29 (.aload_n 0) 1 30 := ⟨by decide +kernel, rfl⟩
theorem d_Shape_goesOff_30 : DC m_Shape_goesOff 30 (.invokevirtual 38) 3 33 := ⟨by decide +kernel, rfl⟩
theorem d_Shape_goesOff_33 : DC m_Shape_goesOff 33 (.iload_n 2) 1 34 := ⟨by decide +kernel, rfl⟩
theorem d_Shape_goesOff_34 : DC m_Shape_goesOff 34 .iadd 1 35 := ⟨by decide +kernel, rfl⟩
theorem d_Shape_goesOff_35 : DC m_Shape_goesOff 35 (.ifCond .lt 14) 3 38 := ⟨by decide +kernel, rfl⟩
theorem d_Shape_goesOff_38 : DC m_Shape_goesOff 38 (.aload_n 0) 1 39 := ⟨by decide +kernel, rfl⟩
theorem d_Shape_goesOff_39 : DC m_Shape_goesOff 39 (.invokevirtual 41) 3 42 := ⟨by decide +kernel, rfl⟩
theorem d_Shape_goesOff_42 : DC m_Shape_goesOff 42 (.iload_n 2) 1 43 := ⟨by decide +kernel, rfl⟩
theorem d_Shape_goesOff_43 : DC m_Shape_goesOff 43 .iadd 1 44 := ⟨by decide +kernel, rfl⟩
theorem d_Shape_goesOff_44 : DC m_Shape_goesOff 44 (.bipush 8) 2 46 := ⟨by decide +kernel, rfl⟩
theorem d_Shape_goesOff_46 : DC m_Shape_goesOff 46 (.if_icmp .lt 7) 3 49 := ⟨by decide +kernel, rfl⟩
theorem d_Shape_goesOff_49 : DC m_Shape_goesOff 49 (.iconst 1) 1 50 := ⟨by decide +kernel, rfl⟩
theorem d_Shape_goesOff_50 : DC m_Shape_goesOff 50 (.goto 4) 3 53 := ⟨by decide +kernel, rfl⟩
theorem d_Shape_goesOff_53 : DC m_Shape_goesOff 53 (.iconst 0) 1 54 := ⟨by decide +kernel, rfl⟩
theorem d_Shape_goesOff_54 : DC m_Shape_goesOff 54 .ireturn 1 55 := ⟨by decide +kernel, rfl⟩
def f_Shape_goesOff_49 (n : Nat) (M : MM) : Option (Int32 × MM) :=
  some (1, M)
theorem t_Shape_goesOff_49 (n : Nat) (M : MM) (z : Int32 × MM) (h : f_Shape_goesOff_49 n M = some z) : EV m_Shape_goesOff (rm 3 0 0) (some (.int z.1)) z.2 0 0 49 [none, none, none] [] M := by
  unfold f_Shape_goesOff_49 at h
  refine e_iconst (v := 1) d_Shape_goesOff_49 (by decide) ?_
  refine e_goto 54 d_Shape_goesOff_50 (by decide) ?_
  cases h
  exact e_zret (ty := .boolean) d_Shape_goesOff_54 rfl narZ1 (Nat.le_refl _) (Nat.le_refl _)
def f_Shape_goesOff (n : Nat) (x0 : Nat) (x1 : Int32) (x2 : Int32) (M : MM) : Option (Int32 × MM) :=
  og 7 x0 M <|
  (f_Shape_isNothing n x0 M).bind fun p1 =>
  if p1.1 = 0 then
    (f_Shape_left n x0 p1.2).bind fun p3 =>
    if (p3.1 + x1) < 0 then
      f_Shape_goesOff_49 n p3.2
    else
      (f_Shape_right n x0 p3.2).bind fun p5 =>
      if 8 ≤ (p5.1 + x1) then
        f_Shape_goesOff_49 n p5.2
      else
        (f_Shape_top n x0 p5.2).bind fun p7 =>
        if (p7.1 + x2) < 0 then
          f_Shape_goesOff_49 n p7.2
        else
          (f_Shape_bottom n x0 p7.2).bind fun p9 =>
          if (p9.1 + x2) < 8 then
            some (0, p9.2)
          else
            f_Shape_goesOff_49 n p9.2
  else
    some (0, p1.2)
theorem fc_Shape_goesOff {n : Nat} {x0 : Nat} {x1 : Int32} {x2 : Int32} {M : MM} {z : Int32 × MM} (h : f_Shape_goesOff n x0 x1 x2 M = some z) : (M.1.2.1 x0).1 = 7 := by
  unfold f_Shape_goesOff at h
  exact (og_s h).1
theorem t_Shape_goesOff (n : Nat) (x0 : Nat) (x1 : Int32) (x2 : Int32) (M : MM) (z : Int32 × MM) (h : f_Shape_goesOff n x0 x1 x2 M = some z) : CT m_Shape_goesOff (rm 3 0 0) [.ref x0, .int x1, .int x2] M (some (.int z.1)) z.2 := by
  unfold f_Shape_goesOff at h
  obtain ⟨hthis, h⟩ := og_s h
  refine CT.of (ls := [some (.ref x0), some (.int x1), some (.int x2)]) rfl (okp rfl) rfl ?_
  refine e_aload_n d_Shape_goesOff_0 rfl ?_
  obtain ⟨p1, hp1, h⟩ := bnd h
  refine e_cVi (mt1 := m_Shape_isNothing) (As := []) (st := []) d_Shape_goesOff_1 ml_Shape_28 mv_Shape_isNothing (t_Shape_isNothing n x0 M p1 hp1) (fc_Shape_isNothing hp1) rfl rfl rfl (okp rfl) (okp rfl) (okp rfl) (Nat.le_refl _) (Nat.le_refl _) ?_
  refine e_if_eq 9 d_Shape_goesOff_4 (by decide) (fun c2 => ?_) (fun c2 => ?_)
  · replace h := ift c2 h
    refine e_aload_n d_Shape_goesOff_9 rfl ?_
    obtain ⟨p3, hp3, h⟩ := bnd h
    refine e_cVi (mt1 := m_Shape_left) (As := []) (st := []) d_Shape_goesOff_10 ml_Shape_32 mv_Shape_left (t_Shape_left n x0 p1.2 p3 hp3) (fc_Shape_left hp3) rfl rfl rfl (okp rfl) (okp rfl) (okp rfl) (Nat.le_refl _) (Nat.le_refl _) ?_
    refine e_iload_n d_Shape_goesOff_13 rfl ?_
    refine e_iadd d_Shape_goesOff_14 ?_
    refine e_if_lt 49 d_Shape_goesOff_15 (by decide) (fun c4 => ?_) (fun c4 => ?_)
    · replace h := ift c4 h
      exact (t_Shape_goesOff_49 n  p3.2 z h).less (show LSub _ _ from trivial)
    · replace h := ifn c4 h
      refine e_aload_n d_Shape_goesOff_18 rfl ?_
      obtain ⟨p5, hp5, h⟩ := bnd h
      refine e_cVi (mt1 := m_Shape_right) (As := []) (st := []) d_Shape_goesOff_19 ml_Shape_35 mv_Shape_right (t_Shape_right n x0 p3.2 p5 hp5) (fc_Shape_right hp5) rfl rfl rfl (okp rfl) (okp rfl) (okp rfl) (Nat.le_refl _) (Nat.le_refl _) ?_
      refine e_iload_n d_Shape_goesOff_22 rfl ?_
      refine e_iadd d_Shape_goesOff_23 ?_
      refine e_bipush (v := 8) d_Shape_goesOff_24 (by decide) ?_
      refine e_ic_ge 49 d_Shape_goesOff_26 (by decide) (fun c6 => ?_) (fun c6 => ?_)
      · replace h := ift c6 h
        exact (t_Shape_goesOff_49 n  p5.2 z h).less (show LSub _ _ from trivial)
      · replace h := ifn c6 h
        refine e_aload_n d_Shape_goesOff_29 rfl ?_
        obtain ⟨p7, hp7, h⟩ := bnd h
        refine e_cVi (mt1 := m_Shape_top) (As := []) (st := []) d_Shape_goesOff_30 ml_Shape_38 mv_Shape_top (t_Shape_top n x0 p5.2 p7 hp7) (fc_Shape_top hp7) rfl rfl rfl (okp rfl) (okp rfl) (okp rfl) (Nat.le_refl _) (Nat.le_refl _) ?_
        refine e_iload_n d_Shape_goesOff_33 rfl ?_
        refine e_iadd d_Shape_goesOff_34 ?_
        refine e_if_lt 49 d_Shape_goesOff_35 (by decide) (fun c8 => ?_) (fun c8 => ?_)
        · replace h := ift c8 h
          exact (t_Shape_goesOff_49 n  p7.2 z h).less (show LSub _ _ from trivial)
        · replace h := ifn c8 h
          refine e_aload_n d_Shape_goesOff_38 rfl ?_
          obtain ⟨p9, hp9, h⟩ := bnd h
          refine e_cVi (mt1 := m_Shape_bottom) (As := []) (st := []) d_Shape_goesOff_39 ml_Shape_41 mv_Shape_bottom (t_Shape_bottom n x0 p7.2 p9 hp9) (fc_Shape_bottom hp9) rfl rfl rfl (okp rfl) (okp rfl) (okp rfl) (Nat.le_refl _) (Nat.le_refl _) ?_
          refine e_iload_n d_Shape_goesOff_42 rfl ?_
          refine e_iadd d_Shape_goesOff_43 ?_
          refine e_bipush (v := 8) d_Shape_goesOff_44 (by decide) ?_
          refine e_ic_lt 53 d_Shape_goesOff_46 (by decide) (fun c10 => ?_) (fun c10 => ?_)
          · replace h := ift c10 h
            refine e_iconst (v := 0) d_Shape_goesOff_53 (by decide) ?_
            cases h
            exact e_zret (ty := .boolean) d_Shape_goesOff_54 rfl narZ0 (Nat.le_refl _) (Nat.le_refl _)
          · replace h := ifn c10 h
            exact (t_Shape_goesOff_49 n  p9.2 z h).less (show LSub _ _ from trivial)
  · replace h := ifn c2 h
    refine e_iconst (v := 0) d_Shape_goesOff_7 (by decide) ?_
    cases h
    exact e_zret (ty := .boolean) d_Shape_goesOff_8 rfl narZ0 (Nat.le_refl _) (Nat.le_refl _)
theorem d_Shape_becomeShifted_0 : DC m_Shape_becomeShifted 0 (.iconst 0) 1 1 := ⟨by decide +kernel, rfl⟩
theorem d_Shape_becomeShifted_1 : DC m_Shape_becomeShifted 1 (.istore 4) 2 3 := ⟨by decide +kernel, rfl⟩
theorem d_Shape_becomeShifted_3 : DC m_Shape_becomeShifted 3 (.iload 4) 2 5 := ⟨by decide +kernel, rfl⟩
theorem d_Shape_becomeShifted_5 : DC m_Shape_becomeShifted 5 (.bipush 8) 2 7 := ⟨by decide +kernel, rfl⟩
theorem d_Shape_becomeShifted_7 : DC m_Shape_becomeShifted 7 (.if_icmp .ge 49) 3 10 := ⟨by decide +kernel, rfl⟩
theorem d_Shape_becomeShifted_10 : DC m_Shape_becomeShifted 10 (.iload 4) 2 12 := ⟨by decide +kernel, rfl⟩
theorem d_Shape_becomeShifted_12 : DC m_Shape_becomeShifted 12 (.iload_n 3) 1 13 := ⟨by decide +kernel, rfl⟩
theorem d_Shape_becomeShifted_13 : DC m_Shape_becomeShifted 13 .isub 1 14 := ⟨by decide +kernel, rfl⟩
theorem d_Shape_becomeShifted_14 : DC m_Shape_becomeShifted 14 (.istore 5) 2 16 := ⟨by decide +kernel, rfl⟩
theorem d_Shape_becomeShifted_16 : DC m_Shape_becomeShifted 16 (.aload_n 0) 1 17 := ⟨by decide +kernel, rfl⟩
theorem d_Shape_becomeShifted_17 : DC m_Shape_becomeShifted 17 (.getfield 9) 3 20 := ⟨by decide +kernel, rfl⟩
theorem d_Shape_becomeShifted_20 : DC m_Shape_becomeShifted 20 (.iload 4) 2 22 := ⟨by decide +kernel, rfl⟩
theorem d_Shape_becomeShifted_22 : DC m_Shape_becomeShifted 22 (.iload 5) 2 24 := ⟨by decide +kernel, rfl⟩
theorem d_Shape_becomeShifted_24 : DC m_Shape_becomeShifted 24 (.ifCond .lt 24) 3 27 := ⟨by decide +kernel, rfl⟩
theorem d_Shape_becomeShifted_27 : DC m_Shape_becomeShifted 27 (.iload 5) 2 29 := ⟨by decide +kernel, rfl⟩
theorem d_Shape_becomeShifted_29 : DC m_Shape_becomeShifted 29 (.bipush 8) 2 31 := ⟨by decide +kernel, rfl⟩
theorem d_Shape_becomeShifted_31 : DC m_Shape_becomeShifted 31 (.if_icmp .ge 17) 3 34 := ⟨by decide +kernel, rfl⟩
theorem d_Shape_becomeShifted_34 : DC m_Shape_becomeShifted 34 (.aload_n 1) 1 35 := ⟨by decide +kernel, rfl⟩
theorem d_Shape_becomeShifted_35 : DC m_Shape_becomeShifted 35 (.getfield 9) 3 38 := ⟨by decide +kernel, rfl⟩
theorem d_Shape_becomeShifted_38 : DC m_Shape_becomeShifted 38 (.iload 5) 2 40 := ⟨by decide +kernel, rfl⟩
theorem d_Shape_becomeShifted_40 : DC m_Shape_becomeShifted 40 .iaload 1 41 := ⟨by decide +kernel, rfl⟩
theorem d_Shape_becomeShifted_41 : DC m_Shape_becomeShifted 41 (.iload_n 2) 1 42 := ⟨by decide +kernel, rfl⟩
theorem d_Shape_becomeShifted_42 : DC m_Shape_becomeShifted 42 (.invokestatic 55) 3 45 := ⟨by decide +kernel, rfl⟩
theorem d_Shape_becomeShifted_45 : DC m_Shape_becomeShifted 45 (.goto 4) 3 48 := ⟨by decide +kernel, rfl⟩
theorem d_Shape_becomeShifted_48 : DC m_Shape_becomeShifted 48 (.iconst 0) 1 49 := ⟨by decide +kernel, rfl⟩
theorem d_Shape_becomeShifted_49 : DC m_Shape_becomeShifted 49 .iastore 1 50 := ⟨by decide +kernel, rfl⟩
theorem d_Shape_becomeShifted_50 : DC m_Shape_becomeShifted 50 (.iinc 4 1) 3 53 := ⟨by decide +kernel, rfl⟩
theorem d_Shape_becomeShifted_53 : DC m_Shape_becomeShifted 53 (.goto (-50)) 3 56 := ⟨by decide +kernel, rfl⟩
theorem d_Shape_becomeShifted_56 : DC m_Shape_becomeShifted 56 .return_ 1 57 := ⟨by decide +kernel, rfl⟩
def f_Shape_becomeShifted_49 (n : Nat) (k_3 : Nat → Nat → Int32 → Int32 → Int32 → MM → Option (MM)) (x0 : Nat) (x1 : Nat) (x2 : Int32) (x3 : Int32) (x4 : Int32) (s0 : Nat) (s1 : Int32) (s2 : Int32) (M : MM) : Option (MM) :=
  (sI 100 s0 s1 s2 M).bind fun M1 =>
  k_3 x0 x1 x2 x3 (x4 + 1) M1
theorem t_Shape_becomeShifted_49 (n : Nat) {k_3 : Nat → Nat → Int32 → Int32 → Int32 → MM → Option (MM)} (hk_3 : ∀ (x0 : Nat) (x1 : Nat) (x2 : Int32) (x3 : Int32) (x4 : Int32) (M : MM) (z : MM), k_3 x0 x1 x2 x3 x4 M = some z → EV m_Shape_becomeShifted (rm 2 0 0) none z 0 0 3 [some (.ref x0), some (.ref x1), some (.int x2), some (.int x3), some (.int x4), none] [] M) (x0 : Nat) (x1 : Nat) (x2 : Int32) (x3 : Int32) (x4 : Int32) (s0 : Nat) (s1 : Int32) (s2 : Int32) (M : MM) (z : MM) (h : f_Shape_becomeShifted_49 n k_3 x0 x1 x2 x3 x4 s0 s1 s2 M = some z) : EV m_Shape_becomeShifted (rm 2 0 0) none z 0 0 49 [some (.ref x0), some (.ref x1), some (.int x2), some (.int x3), some (.int x4), none] [.int s2, .int s1, .ref s0] M := by
  unfold f_Shape_becomeShifted_49 at h
  obtain ⟨M1, hM1, h⟩ := bnd h
  refine e_iast d_Shape_becomeShifted_49 hM1 ?_
  refine e_iinc (v := x4 + 1) (l2 := [some (.ref x0), some (.ref x1), some (.int x2), some (.int x3), some (.int (x4 + 1)), none]) d_Shape_becomeShifted_50 rfl rfl rfl (okl rfl) rfl ?_
  refine e_goto 3 d_Shape_becomeShifted_53 (by decide) ?_
  exact (hk_3 x0 x1 x2 x3 (x4 + 1) M1 z h).less (show LSub _ _ from ⟨rfl, ⟨rfl, ⟨rfl, ⟨rfl, ⟨rfl, trivial⟩⟩⟩⟩⟩)
def f_Shape_becomeShifted_48 (n : Nat) (k_3 : Nat → Nat → Int32 → Int32 → Int32 → MM → Option (MM)) (x0 : Nat) (x1 : Nat) (x2 : Int32) (x3 : Int32) (x4 : Int32) (s0 : Nat) (s1 : Int32) (M : MM) : Option (MM) :=
  f_Shape_becomeShifted_49 n k_3 x0 x1 x2 x3 x4 s0 s1 0 M
theorem t_Shape_becomeShifted_48 (n : Nat) {k_3 : Nat → Nat → Int32 → Int32 → Int32 → MM → Option (MM)} (hk_3 : ∀ (x0 : Nat) (x1 : Nat) (x2 : Int32) (x3 : Int32) (x4 : Int32) (M : MM) (z : MM), k_3 x0 x1 x2 x3 x4 M = some z → EV m_Shape_becomeShifted (rm 2 0 0) none z 0 0 3 [some (.ref x0), some (.ref x1), some (.int x2), some (.int x3), some (.int x4), none] [] M) (x0 : Nat) (x1 : Nat) (x2 : Int32) (x3 : Int32) (x4 : Int32) (s0 : Nat) (s1 : Int32) (M : MM) (z : MM) (h : f_Shape_becomeShifted_48 n k_3 x0 x1 x2 x3 x4 s0 s1 M = some z) : EV m_Shape_becomeShifted (rm 2 0 0) none z 0 0 48 [some (.ref x0), some (.ref x1), some (.int x2), some (.int x3), some (.int x4), none] [.int s1, .ref s0] M := by
  unfold f_Shape_becomeShifted_48 at h
  refine e_iconst (v := 0) d_Shape_becomeShifted_48 (by decide) ?_
  exact (t_Shape_becomeShifted_49 n hk_3 x0 x1 x2 x3 x4 s0 s1 0 M z h).less (show LSub _ _ from ⟨rfl, ⟨rfl, ⟨rfl, ⟨rfl, ⟨rfl, trivial⟩⟩⟩⟩⟩)
def f_Shape_becomeShifted_3 (n : Nat) : Nat → Nat → Nat → Int32 → Int32 → Int32 → MM → Option (MM)
  | 0, _, _, _, _, _, _ => none
  | m + 1, x0, x1, x2, x3, x4, M =>
    if 8 ≤ x4 then
      some M
    else
      nm (α := Int32) (x4 - x3) fun y3 =>
      (gR 7 0 x0 M).bind fun v4 =>
      if y3 < 0 then
        f_Shape_becomeShifted_48 n (f_Shape_becomeShifted_3 n m) x0 x1 x2 x3 x4 v4 x4 M
      else
        if 8 ≤ y3 then
          f_Shape_becomeShifted_48 n (f_Shape_becomeShifted_3 n m) x0 x1 x2 x3 x4 v4 x4 M
        else
          (gR 7 0 x1 M).bind fun v7 =>
          (aI 100 v7 y3 M).bind fun v8 =>
          (f_Shape_slide n v8 x2 M).bind fun p9 =>
          f_Shape_becomeShifted_49 n (f_Shape_becomeShifted_3 n m) x0 x1 x2 x3 x4 v4 x4 p9.1 p9.2
theorem t_Shape_becomeShifted_3 (n : Nat) : ∀ (m : Nat) (x0 : Nat) (x1 : Nat) (x2 : Int32) (x3 : Int32) (x4 : Int32) (M : MM) (z : MM), f_Shape_becomeShifted_3 n m x0 x1 x2 x3 x4 M = some z → EV m_Shape_becomeShifted (rm 2 0 0) none z 0 0 3 [some (.ref x0), some (.ref x1), some (.int x2), some (.int x3), some (.int x4), none] [] M := by
  intro m
  induction m with
  | zero => intro x0 x1 x2 x3 x4 M z h; cases h
  | succ m ih =>
    intro x0 x1 x2 x3 x4 M z h
    rw [f_Shape_becomeShifted_3] at h
    refine e_iload d_Shape_becomeShifted_3 rfl ?_
    refine e_bipush (v := 8) d_Shape_becomeShifted_5 (by decide) ?_
    refine e_ic_ge 56 d_Shape_becomeShifted_7 (by decide) (fun c2 => ?_) (fun c2 => ?_)
    · replace h := ift c2 h
      cases h
      exact e_vret d_Shape_becomeShifted_56 rfl (Nat.le_refl _) (Nat.le_refl _)
    · replace h := ifn c2 h
      refine e_iload d_Shape_becomeShifted_10 rfl ?_
      refine e_iload_n d_Shape_becomeShifted_12 rfl ?_
      refine e_isub d_Shape_becomeShifted_13 ?_
      obtain ⟨y3, ey3, h⟩ := nm_s h
      refine e_nameI ey3 ?_
      refine e_istore (l2 := [some (.ref x0), some (.ref x1), some (.int x2), some (.int x3), some (.int x4), some (.int y3)]) d_Shape_becomeShifted_14 rfl (okl rfl) rfl ?_
      refine e_aload_n d_Shape_becomeShifted_16 rfl ?_
      obtain ⟨v4, hv4, h⟩ := bnd h
      refine e_getR d_Shape_becomeShifted_17 fl_Shape_9 (fun _ _ _ => rfl) hv4 ?_
      refine e_iload d_Shape_becomeShifted_20 rfl ?_
      refine e_iload d_Shape_becomeShifted_22 rfl ?_
      refine e_if_lt 48 d_Shape_becomeShifted_24 (by decide) (fun c5 => ?_) (fun c5 => ?_)
      · replace h := ift c5 h
        exact (t_Shape_becomeShifted_48 n ih x0 x1 x2 x3 x4 v4 x4 M z h).less (show LSub _ _ from ⟨rfl, ⟨rfl, ⟨rfl, ⟨rfl, ⟨rfl, trivial⟩⟩⟩⟩⟩)
      · replace h := ifn c5 h
        refine e_iload d_Shape_becomeShifted_27 rfl ?_
        refine e_bipush (v := 8) d_Shape_becomeShifted_29 (by decide) ?_
        refine e_ic_ge 48 d_Shape_becomeShifted_31 (by decide) (fun c6 => ?_) (fun c6 => ?_)
        · replace h := ift c6 h
          exact (t_Shape_becomeShifted_48 n ih x0 x1 x2 x3 x4 v4 x4 M z h).less (show LSub _ _ from ⟨rfl, ⟨rfl, ⟨rfl, ⟨rfl, ⟨rfl, trivial⟩⟩⟩⟩⟩)
        · replace h := ifn c6 h
          refine e_aload_n d_Shape_becomeShifted_34 rfl ?_
          obtain ⟨v7, hv7, h⟩ := bnd h
          refine e_getR d_Shape_becomeShifted_35 fl_Shape_9 (fun _ _ _ => rfl) hv7 ?_
          refine e_iload d_Shape_becomeShifted_38 rfl ?_
          obtain ⟨v8, hv8, h⟩ := bnd h
          refine e_iald d_Shape_becomeShifted_40 hv8 ?_
          refine e_iload_n d_Shape_becomeShifted_41 rfl ?_
          obtain ⟨p9, hp9, h⟩ := bnd h
          refine e_cSi (mt1 := m_Shape_slide) (As := [.int v8, .int x2]) (st := [.int x4, .ref v4]) d_Shape_becomeShifted_42 ml_Shape_55 ms_Shape_slide (t_Shape_slide n v8 x2 M p9 hp9) rfl rfl (okp rfl) (okp rfl) (okp rfl) (Nat.le_refl _) (Nat.le_refl _) ?_
          refine e_goto 49 d_Shape_becomeShifted_45 (by decide) ?_
          exact (t_Shape_becomeShifted_49 n ih x0 x1 x2 x3 x4 v4 x4 p9.1 p9.2 z h).less (show LSub _ _ from ⟨rfl, ⟨rfl, ⟨rfl, ⟨rfl, ⟨rfl, trivial⟩⟩⟩⟩⟩)
def f_Shape_becomeShifted (n : Nat) (x0 : Nat) (x1 : Nat) (x2 : Int32) (x3 : Int32) (M : MM) : Option (MM) :=
  og 7 x0 M <|
  f_Shape_becomeShifted_3 n n x0 x1 x2 x3 0 M
theorem fc_Shape_becomeShifted {n : Nat} {x0 : Nat} {x1 : Nat} {x2 : Int32} {x3 : Int32} {M : MM} {z : MM} (h : f_Shape_becomeShifted n x0 x1 x2 x3 M = some z) : (M.1.2.1 x0).1 = 7 := by
  unfold f_Shape_becomeShifted at h
  exact (og_s h).1
theorem t_Shape_becomeShifted (n : Nat) (x0 : Nat) (x1 : Nat) (x2 : Int32) (x3 : Int32) (M : MM) (z : MM) (h : f_Shape_becomeShifted n x0 x1 x2 x3 M = some z) : CT m_Shape_becomeShifted (rm 2 0 0) [.ref x0, .ref x1, .int x2, .int x3] M none z := by
  unfold f_Shape_becomeShifted at h
  obtain ⟨hthis, h⟩ := og_s h
  refine CT.of (ls := [some (.ref x0), some (.ref x1), some (.int x2), some (.int x3), none, none]) rfl (okp rfl) rfl ?_
  refine e_iconst (v := 0) d_Shape_becomeShifted_0 (by decide) ?_
  refine e_istore (l2 := [some (.ref x0), some (.ref x1), some (.int x2), some (.int x3), some (.int 0), none]) d_Shape_becomeShifted_1 rfl (okl rfl) rfl ?_
  exact (t_Shape_becomeShifted_3 n n x0 x1 x2 x3 0 M z h).less (show LSub _ _ from ⟨rfl, ⟨rfl, ⟨rfl, ⟨rfl, ⟨rfl, trivial⟩⟩⟩⟩⟩)
theorem d_Shape_join_0 : DC m_Shape_join 0 (.iconst 0) 1 1 := ⟨by decide +kernel, rfl⟩
theorem d_Shape_join_1 : DC m_Shape_join 1 (.istore_n 2) 1 2 := ⟨by decide +kernel, rfl⟩
theorem d_Shape_join_2 : DC m_Shape_join 2 (.iload_n 2) 1 3 := ⟨by decide +kernel, rfl⟩
theorem d_Shape_join_3 : DC m_Shape_join 3 (.bipush 8) 2 5 := ⟨by decide +kernel, rfl⟩
theorem d_Shape_join_5 : DC m_Shape_join 5 (.if_icmp .ge 24) 3 8 := ⟨by decide +kernel, rfl⟩
theorem d_Shape_join_8 : DC m_Shape_join 8 (.aload_n 0) 1 9 := ⟨by decide +kernel, rfl⟩
theorem d_Shape_join_9 : DC m_Shape_join 9 (.getfield 9) 3 12 := ⟨by decide +kernel, rfl⟩
theorem d_Shape_join_12 : DC m_Shape_join 12 (.iload_n 2) 1 13 := ⟨by decide +kernel, rfl⟩
theorem d_Shape_join_13 : DC m_Shape_join 13 .dup2 1 14 := ⟨by decide +kernel, rfl⟩
theorem d_Shape_join_14 : DC m_Shape_join 14 .iaload 1 15 := ⟨by decide +kernel, rfl⟩
theorem d_Shape_join_15 : DC m_Shape_join 15 (.aload_n 1) 1 16 := ⟨by decide +kernel, rfl⟩
theorem d_Shape_join_16 : DC m_Shape_join 16 (.getfield 9) 3 19 := ⟨by decide +kernel, rfl⟩
theorem d_Shape_join_19 : DC m_Shape_join 19 (.iload_n 2) 1 20 := ⟨by decide +kernel, rfl⟩
theorem d_Shape_join_20 : DC m_Shape_join 20 .iaload 1 21 := ⟨by decide +kernel, rfl⟩
theorem d_Shape_join_21 : DC m_Shape_join 21 .ior 1 22 := ⟨by decide +kernel, rfl⟩
theorem d_Shape_join_22 : DC m_Shape_join 22 .iastore 1 23 := ⟨by decide +kernel, rfl⟩
theorem d_Shape_join_23 : DC m_Shape_join 23 (.iinc 2 1) 3 26 := ⟨by decide +kernel, rfl⟩
theorem d_Shape_join_26 : DC m_Shape_join 26 (.goto (-24)) 3 29 := ⟨by decide +kernel, rfl⟩
theorem d_Shape_join_29 : DC m_Shape_join 29 .return_ 1 30 := ⟨by decide +kernel, rfl⟩
def f_Shape_join_2 (n : Nat) : Nat → Nat → Nat → Int32 → MM → Option (MM)
  | 0, _, _, _, _ => none
  | m + 1, x0, x1, x2, M =>
    if 8 ≤ x2 then
      some M
    else
      (gR 7 0 x0 M).bind fun v2 =>
      (aI 100 v2 x2 M).bind fun v3 =>
      (gR 7 0 x1 M).bind fun v4 =>
      (aI 100 v4 x2 M).bind fun v5 =>
      (sI 100 v2 x2 (v3 ||| v5) M).bind fun M6 =>
      f_Shape_join_2 n m x0 x1 (x2 + 1) M6
theorem t_Shape_join_2 (n : Nat) : ∀ (m : Nat) (x0 : Nat) (x1 : Nat) (x2 : Int32) (M : MM) (z : MM), f_Shape_join_2 n m x0 x1 x2 M = some z → EV m_Shape_join (rm 1 0 0) none z 0 0 2 [some (.ref x0), some (.ref x1), some (.int x2)] [] M := by
  intro m
  induction m with
  | zero => intro x0 x1 x2 M z h; cases h
  | succ m ih =>
    intro x0 x1 x2 M z h
    rw [f_Shape_join_2] at h
    refine e_iload_n d_Shape_join_2 rfl ?_
    refine e_bipush (v := 8) d_Shape_join_3 (by decide) ?_
    refine e_ic_ge 29 d_Shape_join_5 (by decide) (fun c1 => ?_) (fun c1 => ?_)
    · replace h := ift c1 h
      cases h
      exact e_vret d_Shape_join_29 rfl (Nat.le_refl _) (Nat.le_refl _)
    · replace h := ifn c1 h
      refine e_aload_n d_Shape_join_8 rfl ?_
      obtain ⟨v2, hv2, h⟩ := bnd h
      refine e_getR d_Shape_join_9 fl_Shape_9 (fun _ _ _ => rfl) hv2 ?_
      refine e_iload_n d_Shape_join_12 rfl ?_
      refine e_dup2 d_Shape_join_13 rfl rfl ?_
      obtain ⟨v3, hv3, h⟩ := bnd h
      refine e_iald d_Shape_join_14 hv3 ?_
      refine e_aload_n d_Shape_join_15 rfl ?_
      obtain ⟨v4, hv4, h⟩ := bnd h
      refine e_getR d_Shape_join_16 fl_Shape_9 (fun _ _ _ => rfl) hv4 ?_
      refine e_iload_n d_Shape_join_19 rfl ?_
      obtain ⟨v5, hv5, h⟩ := bnd h
      refine e_iald d_Shape_join_20 hv5 ?_
      refine e_ior d_Shape_join_21 ?_
      obtain ⟨M6, hM6, h⟩ := bnd h
      refine e_iast d_Shape_join_22 hM6 ?_
      refine e_iinc (v := x2 + 1) (l2 := [some (.ref x0), some (.ref x1), some (.int (x2 + 1))]) d_Shape_join_23 rfl rfl rfl (okl rfl) rfl ?_
      refine e_goto 2 d_Shape_join_26 (by decide) ?_
      exact (ih x0 x1 (x2 + 1) M6 z h).less (show LSub _ _ from ⟨rfl, ⟨rfl, ⟨rfl, trivial⟩⟩⟩)
def f_Shape_join (n : Nat) (x0 : Nat) (x1 : Nat) (M : MM) : Option (MM) :=
  og 7 x0 M <|
  f_Shape_join_2 n n x0 x1 0 M
theorem fc_Shape_join {n : Nat} {x0 : Nat} {x1 : Nat} {M : MM} {z : MM} (h : f_Shape_join n x0 x1 M = some z) : (M.1.2.1 x0).1 = 7 := by
  unfold f_Shape_join at h
  exact (og_s h).1
theorem t_Shape_join (n : Nat) (x0 : Nat) (x1 : Nat) (M : MM) (z : MM) (h : f_Shape_join n x0 x1 M = some z) : CT m_Shape_join (rm 1 0 0) [.ref x0, .ref x1] M none z := by
  unfold f_Shape_join at h
  obtain ⟨hthis, h⟩ := og_s h
  refine CT.of (ls := [some (.ref x0), some (.ref x1), none]) rfl (okp rfl) rfl ?_
  refine e_iconst (v := 0) d_Shape_join_0 (by decide) ?_
  refine e_istore_n (l2 := [some (.ref x0), some (.ref x1), some (.int 0)]) d_Shape_join_1 rfl (okl rfl) rfl ?_
  exact (t_Shape_join_2 n n x0 x1 0 M z h).less (show LSub _ _ from ⟨rfl, ⟨rfl, ⟨rfl, trivial⟩⟩⟩)
theorem d_Shape_takeAway_0 : DC m_Shape_takeAway 0 (.iconst 0) 1 1 := ⟨by decide +kernel, rfl⟩
theorem d_Shape_takeAway_1 : DC m_Shape_takeAway 1 (.istore_n 2) 1 2 := ⟨by decide +kernel, rfl⟩
theorem d_Shape_takeAway_2 : DC m_Shape_takeAway 2 (.iload_n 2) 1 3 := ⟨by decide +kernel, rfl⟩
theorem d_Shape_takeAway_3 : DC m_Shape_takeAway 3 (.bipush 8) 2 5 := ⟨by decide +kernel, rfl⟩
theorem d_Shape_takeAway_5 : DC m_Shape_takeAway 5 (.if_icmp .ge 26) 3 8 := ⟨by decide +kernel, rfl⟩
theorem d_Shape_takeAway_8 : DC m_Shape_takeAway 8 (.aload_n 0) 1 9 := ⟨by decide +kernel, rfl⟩
theorem d_Shape_takeAway_9 : DC m_Shape_takeAway 9 (.getfield 9) 3 12 := ⟨by decide +kernel, rfl⟩
theorem d_Shape_takeAway_12 : DC m_Shape_takeAway 12 (.iload_n 2) 1 13 := ⟨by decide +kernel, rfl⟩
theorem d_Shape_takeAway_13 : DC m_Shape_takeAway 13 .dup2 1 14 := ⟨by decide +kernel, rfl⟩
theorem d_Shape_takeAway_14 : DC m_Shape_takeAway 14 .iaload 1 15 := ⟨by decide +kernel, rfl⟩
theorem d_Shape_takeAway_15 : DC m_Shape_takeAway 15 (.aload_n 1) 1 16 := ⟨by decide +kernel, rfl⟩
theorem d_Shape_takeAway_16 : DC m_Shape_takeAway 16 (.getfield 9) 3 19 := ⟨by decide +kernel, rfl⟩
theorem d_Shape_takeAway_19 : DC m_Shape_takeAway 19 (.iload_n 2) 1 20 := ⟨by decide +kernel, rfl⟩
theorem d_Shape_takeAway_20 : DC m_Shape_takeAway 20 .iaload 1 21 := ⟨by decide +kernel, rfl⟩
theorem d_Shape_takeAway_21 : DC m_Shape_takeAway 21 (.iconst (-1)) 1 22 := ⟨by decide +kernel, rfl⟩
theorem d_Shape_takeAway_22 : DC m_Shape_takeAway 22 .ixor 1 23 := ⟨by decide +kernel, rfl⟩
theorem d_Shape_takeAway_23 : DC m_Shape_takeAway 23 .iand 1 24 := ⟨by decide +kernel, rfl⟩
theorem d_Shape_takeAway_24 : DC m_Shape_takeAway 24 .iastore 1 25 := ⟨by decide +kernel, rfl⟩
theorem d_Shape_takeAway_25 : DC m_Shape_takeAway 25 (.iinc 2 1) 3 28 := ⟨by decide +kernel, rfl⟩
theorem d_Shape_takeAway_28 : DC m_Shape_takeAway 28 (.goto (-26)) 3 31 := ⟨by decide +kernel, rfl⟩
theorem d_Shape_takeAway_31 : DC m_Shape_takeAway 31 .return_ 1 32 := ⟨by decide +kernel, rfl⟩
def f_Shape_takeAway_2 (n : Nat) : Nat → Nat → Nat → Int32 → MM → Option (MM)
  | 0, _, _, _, _ => none
  | m + 1, x0, x1, x2, M =>
    if 8 ≤ x2 then
      some M
    else
      (gR 7 0 x0 M).bind fun v2 =>
      (aI 100 v2 x2 M).bind fun v3 =>
      (gR 7 0 x1 M).bind fun v4 =>
      (aI 100 v4 x2 M).bind fun v5 =>
      (sI 100 v2 x2 (v3 &&& (v5 ^^^ (-1))) M).bind fun M6 =>
      f_Shape_takeAway_2 n m x0 x1 (x2 + 1) M6
theorem t_Shape_takeAway_2 (n : Nat) : ∀ (m : Nat) (x0 : Nat) (x1 : Nat) (x2 : Int32) (M : MM) (z : MM), f_Shape_takeAway_2 n m x0 x1 x2 M = some z → EV m_Shape_takeAway (rm 1 0 0) none z 0 0 2 [some (.ref x0), some (.ref x1), some (.int x2)] [] M := by
  intro m
  induction m with
  | zero => intro x0 x1 x2 M z h; cases h
  | succ m ih =>
    intro x0 x1 x2 M z h
    rw [f_Shape_takeAway_2] at h
    refine e_iload_n d_Shape_takeAway_2 rfl ?_
    refine e_bipush (v := 8) d_Shape_takeAway_3 (by decide) ?_
    refine e_ic_ge 31 d_Shape_takeAway_5 (by decide) (fun c1 => ?_) (fun c1 => ?_)
    · replace h := ift c1 h
      cases h
      exact e_vret d_Shape_takeAway_31 rfl (Nat.le_refl _) (Nat.le_refl _)
    · replace h := ifn c1 h
      refine e_aload_n d_Shape_takeAway_8 rfl ?_
      obtain ⟨v2, hv2, h⟩ := bnd h
      refine e_getR d_Shape_takeAway_9 fl_Shape_9 (fun _ _ _ => rfl) hv2 ?_
      refine e_iload_n d_Shape_takeAway_12 rfl ?_
      refine e_dup2 d_Shape_takeAway_13 rfl rfl ?_
      obtain ⟨v3, hv3, h⟩ := bnd h
      refine e_iald d_Shape_takeAway_14 hv3 ?_
      refine e_aload_n d_Shape_takeAway_15 rfl ?_
      obtain ⟨v4, hv4, h⟩ := bnd h
      refine e_getR d_Shape_takeAway_16 fl_Shape_9 (fun _ _ _ => rfl) hv4 ?_
      refine e_iload_n d_Shape_takeAway_19 rfl ?_
      obtain ⟨v5, hv5, h⟩ := bnd h
      refine e_iald d_Shape_takeAway_20 hv5 ?_
      refine e_iconst (v := (-1)) d_Shape_takeAway_21 (by decide) ?_
      refine e_ixor d_Shape_takeAway_22 ?_
      refine e_iand d_Shape_takeAway_23 ?_
      obtain ⟨M6, hM6, h⟩ := bnd h
      refine e_iast d_Shape_takeAway_24 hM6 ?_
      refine e_iinc (v := x2 + 1) (l2 := [some (.ref x0), some (.ref x1), some (.int (x2 + 1))]) d_Shape_takeAway_25 rfl rfl rfl (okl rfl) rfl ?_
      refine e_goto 2 d_Shape_takeAway_28 (by decide) ?_
      exact (ih x0 x1 (x2 + 1) M6 z h).less (show LSub _ _ from ⟨rfl, ⟨rfl, ⟨rfl, trivial⟩⟩⟩)
def f_Shape_takeAway (n : Nat) (x0 : Nat) (x1 : Nat) (M : MM) : Option (MM) :=
  og 7 x0 M <|
  f_Shape_takeAway_2 n n x0 x1 0 M
theorem fc_Shape_takeAway {n : Nat} {x0 : Nat} {x1 : Nat} {M : MM} {z : MM} (h : f_Shape_takeAway n x0 x1 M = some z) : (M.1.2.1 x0).1 = 7 := by
  unfold f_Shape_takeAway at h
  exact (og_s h).1
theorem t_Shape_takeAway (n : Nat) (x0 : Nat) (x1 : Nat) (M : MM) (z : MM) (h : f_Shape_takeAway n x0 x1 M = some z) : CT m_Shape_takeAway (rm 1 0 0) [.ref x0, .ref x1] M none z := by
  unfold f_Shape_takeAway at h
  obtain ⟨hthis, h⟩ := og_s h
  refine CT.of (ls := [some (.ref x0), some (.ref x1), none]) rfl (okp rfl) rfl ?_
  refine e_iconst (v := 0) d_Shape_takeAway_0 (by decide) ?_
  refine e_istore_n (l2 := [some (.ref x0), some (.ref x1), some (.int 0)]) d_Shape_takeAway_1 rfl (okl rfl) rfl ?_
  exact (t_Shape_takeAway_2 n n x0 x1 0 M z h).less (show LSub _ _ from ⟨rfl, ⟨rfl, ⟨rfl, trivial⟩⟩⟩)
theorem d_Shape_keepCommon_0 : DC m_Shape_keepCommon 0 (.iconst 0) 1 1 := ⟨by decide +kernel, rfl⟩
theorem d_Shape_keepCommon_1 : DC m_Shape_keepCommon 1 (.istore_n 2) 1 2 := ⟨by decide +kernel, rfl⟩
theorem d_Shape_keepCommon_2 : DC m_Shape_keepCommon 2 (.iload_n 2) 1 3 := ⟨by decide +kernel, rfl⟩
theorem d_Shape_keepCommon_3 : DC m_Shape_keepCommon 3 (.bipush 8) 2 5 := ⟨by decide +kernel, rfl⟩
theorem d_Shape_keepCommon_5 : DC m_Shape_keepCommon 5 (.if_icmp .ge 24) 3 8 := ⟨by decide +kernel, rfl⟩
theorem d_Shape_keepCommon_8 : DC m_Shape_keepCommon 8 (.aload_n 0) 1 9 := ⟨by decide +kernel, rfl⟩
theorem d_Shape_keepCommon_9 : DC m_Shape_keepCommon 9 (.getfield 9) 3 12 := ⟨by decide +kernel, rfl⟩
theorem d_Shape_keepCommon_12 : DC m_Shape_keepCommon 12 (.iload_n 2) 1 13 := ⟨by decide +kernel, rfl⟩
theorem d_Shape_keepCommon_13 : DC m_Shape_keepCommon 13 .dup2 1 14 := ⟨by decide +kernel, rfl⟩
theorem d_Shape_keepCommon_14 : DC m_Shape_keepCommon 14 .iaload 1 15 := ⟨by decide +kernel, rfl⟩
theorem d_Shape_keepCommon_15 : DC m_Shape_keepCommon 15 (.aload_n 1) 1 16 := ⟨by decide +kernel, rfl⟩
theorem d_Shape_keepCommon_16 : DC m_Shape_keepCommon 16 (.getfield 9) 3 19 := ⟨by decide +kernel, rfl⟩
theorem d_Shape_keepCommon_19 : DC m_Shape_keepCommon 19 (.iload_n 2) 1 20 := ⟨by decide +kernel, rfl⟩
theorem d_Shape_keepCommon_20 : DC m_Shape_keepCommon 20 .iaload 1 21 := ⟨by decide +kernel, rfl⟩
theorem d_Shape_keepCommon_21 : DC m_Shape_keepCommon 21 .iand 1 22 := ⟨by decide +kernel, rfl⟩
theorem d_Shape_keepCommon_22 : DC m_Shape_keepCommon 22 .iastore 1 23 := ⟨by decide +kernel, rfl⟩
theorem d_Shape_keepCommon_23 : DC m_Shape_keepCommon 23 (.iinc 2 1) 3 26 := ⟨by decide +kernel, rfl⟩
theorem d_Shape_keepCommon_26 : DC m_Shape_keepCommon 26 (.goto (-24)) 3 29 := ⟨by decide +kernel, rfl⟩
theorem d_Shape_keepCommon_29 : DC m_Shape_keepCommon 29 .return_ 1 30 := ⟨by decide +kernel, rfl⟩
def f_Shape_keepCommon_2 (n : Nat) : Nat → Nat → Nat → Int32 → MM → Option (MM)
  | 0, _, _, _, _ => none
  | m + 1, x0, x1, x2, M =>
    if 8 ≤ x2 then
      some M
    else
      (gR 7 0 x0 M).bind fun v2 =>
      (aI 100 v2 x2 M).bind fun v3 =>
      (gR 7 0 x1 M).bind fun v4 =>
      (aI 100 v4 x2 M).bind fun v5 =>
      (sI 100 v2 x2 (v3 &&& v5) M).bind fun M6 =>
      f_Shape_keepCommon_2 n m x0 x1 (x2 + 1) M6
theorem t_Shape_keepCommon_2 (n : Nat) : ∀ (m : Nat) (x0 : Nat) (x1 : Nat) (x2 : Int32) (M : MM) (z : MM), f_Shape_keepCommon_2 n m x0 x1 x2 M = some z → EV m_Shape_keepCommon (rm 1 0 0) none z 0 0 2 [some (.ref x0), some (.ref x1), some (.int x2)] [] M := by
  intro m
  induction m with
  | zero => intro x0 x1 x2 M z h; cases h
  | succ m ih =>
    intro x0 x1 x2 M z h
    rw [f_Shape_keepCommon_2] at h
    refine e_iload_n d_Shape_keepCommon_2 rfl ?_
    refine e_bipush (v := 8) d_Shape_keepCommon_3 (by decide) ?_
    refine e_ic_ge 29 d_Shape_keepCommon_5 (by decide) (fun c1 => ?_) (fun c1 => ?_)
    · replace h := ift c1 h
      cases h
      exact e_vret d_Shape_keepCommon_29 rfl (Nat.le_refl _) (Nat.le_refl _)
    · replace h := ifn c1 h
      refine e_aload_n d_Shape_keepCommon_8 rfl ?_
      obtain ⟨v2, hv2, h⟩ := bnd h
      refine e_getR d_Shape_keepCommon_9 fl_Shape_9 (fun _ _ _ => rfl) hv2 ?_
      refine e_iload_n d_Shape_keepCommon_12 rfl ?_
      refine e_dup2 d_Shape_keepCommon_13 rfl rfl ?_
      obtain ⟨v3, hv3, h⟩ := bnd h
      refine e_iald d_Shape_keepCommon_14 hv3 ?_
      refine e_aload_n d_Shape_keepCommon_15 rfl ?_
      obtain ⟨v4, hv4, h⟩ := bnd h
      refine e_getR d_Shape_keepCommon_16 fl_Shape_9 (fun _ _ _ => rfl) hv4 ?_
      refine e_iload_n d_Shape_keepCommon_19 rfl ?_
      obtain ⟨v5, hv5, h⟩ := bnd h
      refine e_iald d_Shape_keepCommon_20 hv5 ?_
      refine e_iand d_Shape_keepCommon_21 ?_
      obtain ⟨M6, hM6, h⟩ := bnd h
      refine e_iast d_Shape_keepCommon_22 hM6 ?_
      refine e_iinc (v := x2 + 1) (l2 := [some (.ref x0), some (.ref x1), some (.int (x2 + 1))]) d_Shape_keepCommon_23 rfl rfl rfl (okl rfl) rfl ?_
      refine e_goto 2 d_Shape_keepCommon_26 (by decide) ?_
      exact (ih x0 x1 (x2 + 1) M6 z h).less (show LSub _ _ from ⟨rfl, ⟨rfl, ⟨rfl, trivial⟩⟩⟩)
def f_Shape_keepCommon (n : Nat) (x0 : Nat) (x1 : Nat) (M : MM) : Option (MM) :=
  og 7 x0 M <|
  f_Shape_keepCommon_2 n n x0 x1 0 M
theorem fc_Shape_keepCommon {n : Nat} {x0 : Nat} {x1 : Nat} {M : MM} {z : MM} (h : f_Shape_keepCommon n x0 x1 M = some z) : (M.1.2.1 x0).1 = 7 := by
  unfold f_Shape_keepCommon at h
  exact (og_s h).1
theorem t_Shape_keepCommon (n : Nat) (x0 : Nat) (x1 : Nat) (M : MM) (z : MM) (h : f_Shape_keepCommon n x0 x1 M = some z) : CT m_Shape_keepCommon (rm 1 0 0) [.ref x0, .ref x1] M none z := by
  unfold f_Shape_keepCommon at h
  obtain ⟨hthis, h⟩ := og_s h
  refine CT.of (ls := [some (.ref x0), some (.ref x1), none]) rfl (okp rfl) rfl ?_
  refine e_iconst (v := 0) d_Shape_keepCommon_0 (by decide) ?_
  refine e_istore_n (l2 := [some (.ref x0), some (.ref x1), some (.int 0)]) d_Shape_keepCommon_1 rfl (okl rfl) rfl ?_
  exact (t_Shape_keepCommon_2 n n x0 x1 0 M z h).less (show LSub _ _ from ⟨rfl, ⟨rfl, ⟨rfl, trivial⟩⟩⟩)
theorem d_Shape_countQuarters_0 : DC m_Shape_countQuarters 0 (.iconst 0) 1 1 := ⟨by decide +kernel, rfl⟩
theorem d_Shape_countQuarters_1 : DC m_Shape_countQuarters 1 (.istore_n 1) 1 2 := ⟨by decide +kernel, rfl⟩
theorem d_Shape_countQuarters_2 : DC m_Shape_countQuarters 2 (.iconst 0) 1 3 := ⟨by decide +kernel, rfl⟩
theorem d_Shape_countQuarters_3 : DC m_Shape_countQuarters 3 (.istore_n 2) 1 4 := ⟨by decide +kernel, rfl⟩
theorem d_Shape_countQuarters_4 : DC m_Shape_countQuarters 4 (.iload_n 2) 1 5 := ⟨by decide +kernel, rfl⟩
theorem d_Shape_countQuarters_5 : DC m_Shape_countQuarters 5 (.bipush 8) 2 7 := ⟨by decide +kernel, rfl⟩
theorem d_Shape_countQuarters_7 : DC m_Shape_countQuarters 7 (.if_icmp .ge 21) 3 10 := ⟨by decide +kernel, rfl⟩
theorem d_Shape_countQuarters_10 : DC m_Shape_countQuarters 10 (.iload_n 1) 1 11 := ⟨by decide +kernel, rfl⟩
theorem d_Shape_countQuarters_11 : DC m_Shape_countQuarters 11 (.aload_n 0) 1 12 := ⟨by decide +kernel, rfl⟩
theorem d_Shape_countQuarters_12 : DC m_Shape_countQuarters 12 (.getfield 9) 3 15 := ⟨by decide +kernel, rfl⟩
theorem d_Shape_countQuarters_15 : DC m_Shape_countQuarters 15 (.iload_n 2) 1 16 := ⟨by decide +kernel, rfl⟩
theorem d_Shape_countQuarters_16 : DC m_Shape_countQuarters 16 .iaload 1 17 := ⟨by decide +kernel, rfl⟩
theorem d_Shape_countQuarters_17 : DC m_Shape_countQuarters 17 (.invokestatic 15) 3 20 := ⟨by decide +kernel, rfl⟩
theorem d_Shape_countQuarters_20 : DC m_Shape_countQuarters 20 .iadd 1 21 := ⟨by decide +kernel, rfl⟩
theorem d_Shape_countQuarters_21 : DC m_Shape_countQuarters 21 (.istore_n 1) 1 22 := ⟨by decide +kernel, rfl⟩
theorem d_Shape_countQuarters_22 : DC m_Shape_countQuarters 22 (.iinc 2 1) 3 25 := ⟨by decide +kernel, rfl⟩
theorem d_Shape_countQuarters_25 : DC m_Shape_countQuarters 25 (.goto (-21)) 3 28 := ⟨by decide +kernel, rfl⟩
theorem d_Shape_countQuarters_28 : DC m_Shape_countQuarters 28 (.iload_n 1) 1 29 := ⟨by decide +kernel, rfl⟩
theorem d_Shape_countQuarters_29 : DC m_Shape_countQuarters 29 .ireturn 1 30 := ⟨by decide +kernel, rfl⟩
def f_Shape_countQuarters_4 (n : Nat) : Nat → Nat → Int32 → Int32 → MM → Option (Int32 × MM)
  | 0, _, _, _, _ => none
  | m + 1, x0, x1, x2, M =>
    if 8 ≤ x2 then
      some (x1, M)
    else
      (gR 7 0 x0 M).bind fun v2 =>
      (aI 100 v2 x2 M).bind fun v3 =>
      (f_Integer_bitCount n v3 M).bind fun p4 =>
      nm (α := Int32) (x1 + p4.1) fun y5 =>
      f_Shape_countQuarters_4 n m x0 y5 (x2 + 1) p4.2
theorem t_Shape_countQuarters_4 (n : Nat) : ∀ (m : Nat) (x0 : Nat) (x1 : Int32) (x2 : Int32) (M : MM) (z : Int32 × MM), f_Shape_countQuarters_4 n m x0 x1 x2 M = some z → EV m_Shape_countQuarters (rm 2 0 0) (some (.int z.1)) z.2 0 0 4 [some (.ref x0), some (.int x1), some (.int x2)] [] M := by
  intro m
  induction m with
  | zero => intro x0 x1 x2 M z h; cases h
  | succ m ih =>
    intro x0 x1 x2 M z h
    rw [f_Shape_countQuarters_4] at h
    refine e_iload_n d_Shape_countQuarters_4 rfl ?_
    refine e_bipush (v := 8) d_Shape_countQuarters_5 (by decide) ?_
    refine e_ic_ge 28 d_Shape_countQuarters_7 (by decide) (fun c1 => ?_) (fun c1 => ?_)
    · replace h := ift c1 h
      refine e_iload_n d_Shape_countQuarters_28 rfl ?_
      cases h
      exact e_iret d_Shape_countQuarters_29 rfl (Nat.le_refl _) (Nat.le_refl _)
    · replace h := ifn c1 h
      refine e_iload_n d_Shape_countQuarters_10 rfl ?_
      refine e_aload_n d_Shape_countQuarters_11 rfl ?_
      obtain ⟨v2, hv2, h⟩ := bnd h
      refine e_getR d_Shape_countQuarters_12 fl_Shape_9 (fun _ _ _ => rfl) hv2 ?_
      refine e_iload_n d_Shape_countQuarters_15 rfl ?_
      obtain ⟨v3, hv3, h⟩ := bnd h
      refine e_iald d_Shape_countQuarters_16 hv3 ?_
      obtain ⟨p4, hp4, h⟩ := bnd h
      refine e_cSi (mt1 := m_Integer_bitCount) (As := [.int v3]) (st := [.int x1]) d_Shape_countQuarters_17 ml_Shape_15 ms_Integer_bitCount (t_Integer_bitCount n v3 M p4 hp4) rfl rfl (okp rfl) (okp rfl) (okp rfl) (Nat.le_refl _) (Nat.le_refl _) ?_
      refine e_iadd d_Shape_countQuarters_20 ?_
      obtain ⟨y5, ey5, h⟩ := nm_s h
      refine e_nameI ey5 ?_
      refine e_istore_n (l2 := [some (.ref x0), some (.int y5), some (.int x2)]) d_Shape_countQuarters_21 rfl (okl rfl) rfl ?_
      refine e_iinc (v := x2 + 1) (l2 := [some (.ref x0), some (.int y5), some (.int (x2 + 1))]) d_Shape_countQuarters_22 rfl rfl rfl (okl rfl) rfl ?_
      refine e_goto 4 d_Shape_countQuarters_25 (by decide) ?_
      exact (ih x0 y5 (x2 + 1) p4.2 z h).less (show LSub _ _ from ⟨rfl, ⟨rfl, ⟨rfl, trivial⟩⟩⟩)
def f_Shape_countQuarters (n : Nat) (x0 : Nat) (M : MM) : Option (Int32 × MM) :=
  og 7 x0 M <|
  f_Shape_countQuarters_4 n n x0 0 0 M
theorem fc_Shape_countQuarters {n : Nat} {x0 : Nat} {M : MM} {z : Int32 × MM} (h : f_Shape_countQuarters n x0 M = some z) : (M.1.2.1 x0).1 = 7 := by
  unfold f_Shape_countQuarters at h
  exact (og_s h).1
theorem t_Shape_countQuarters (n : Nat) (x0 : Nat) (M : MM) (z : Int32 × MM) (h : f_Shape_countQuarters n x0 M = some z) : CT m_Shape_countQuarters (rm 2 0 0) [.ref x0] M (some (.int z.1)) z.2 := by
  unfold f_Shape_countQuarters at h
  obtain ⟨hthis, h⟩ := og_s h
  refine CT.of (ls := [some (.ref x0), none, none]) rfl (okp rfl) rfl ?_
  refine e_iconst (v := 0) d_Shape_countQuarters_0 (by decide) ?_
  refine e_istore_n (l2 := [some (.ref x0), some (.int 0), none]) d_Shape_countQuarters_1 rfl (okl rfl) rfl ?_
  refine e_iconst (v := 0) d_Shape_countQuarters_2 (by decide) ?_
  refine e_istore_n (l2 := [some (.ref x0), some (.int 0), some (.int 0)]) d_Shape_countQuarters_3 rfl (okl rfl) rfl ?_
  exact (t_Shape_countQuarters_4 n n x0 0 0 M z h).less (show LSub _ _ from ⟨rfl, ⟨rfl, ⟨rfl, trivial⟩⟩⟩)
theorem d_Shape_lowestQuarter_0 : DC m_Shape_lowestQuarter 0 (.iconst 0) 1 1 := ⟨by decide +kernel, rfl⟩
theorem d_Shape_lowestQuarter_1 : DC m_Shape_lowestQuarter 1 (.istore_n 1) 1 2 := ⟨by decide +kernel, rfl⟩
theorem d_Shape_lowestQuarter_2 : DC m_Shape_lowestQuarter 2 (.iload_n 1) 1 3 := ⟨by decide +kernel, rfl⟩
theorem d_Shape_lowestQuarter_3 : DC m_Shape_lowestQuarter 3 (.bipush 8) 2 5 := ⟨by decide +kernel, rfl⟩
theorem d_Shape_lowestQuarter_5 : DC m_Shape_lowestQuarter 5 (.if_icmp .ge 44) 3 8 := ⟨by decide +kernel, rfl⟩
theorem d_Shape_lowestQuarter_8 : DC m_Shape_lowestQuarter 8 (.aload_n 0) 1 9 := ⟨by decide +kernel, rfl⟩
theorem d_Shape_lowestQuarter_9 : DC m_Shape_lowestQuarter 9 (.getfield 9) 3 12 := ⟨by decide +kernel, rfl⟩
theorem d_Shape_lowestQuarter_12 : DC m_Shape_lowestQuarter 12 (.iload_n 1) 1 13 := ⟨by decide +kernel, rfl⟩
theorem d_Shape_lowestQuarter_13 : DC m_Shape_lowestQuarter 13 .iaload 1 14 := ⟨by decide +kernel, rfl⟩
theorem d_Shape_lowestQuarter_14 : DC m_Shape_lowestQuarter 14 (.ifCond .eq 29) 3 17 := ⟨by decide +kernel, rfl⟩
theorem d_Shape_lowestQuarter_17 : DC m_Shape_lowestQuarter 17 (.bipush 32) 2 19 := ⟨by decide +kernel, rfl⟩
theorem d_Shape_lowestQuarter_19 : DC m_Shape_lowestQuarter 19 (.iload_n 1) 1 20 := ⟨by decide +kernel, rfl⟩
theorem d_Shape_lowestQuarter_20 : DC m_Shape_lowestQuarter 20 .imul 1 21 := ⟨by decide +kernel, rfl⟩
theorem d_Shape_lowestQuarter_21 : DC m_Shape_lowestQuarter 21 (.aload_n 0) 1 22 := ⟨by decide +kernel, rfl⟩
theorem d_Shape_lowestQuarter_22 : DC m_Shape_lowestQuarter 22 (.getfield 9) 3 25 := ⟨by decide +kernel, rfl⟩
theorem d_Shape_lowestQuarter_25 : DC m_Shape_lowestQuarter 25 (.iload_n 1) 1 26 := ⟨by decide +kernel, rfl⟩
theorem d_Shape_lowestQuarter_26 : DC m_Shape_lowestQuarter 26 .iaload 1 27 := ⟨by decide +kernel, rfl⟩
theorem d_Shape_lowestQuarter_27 : DC m_Shape_lowestQuarter 27 (.iconst (-1)) 1 28 := ⟨by decide +kernel, rfl⟩
theorem d_Shape_lowestQuarter_28 : DC m_Shape_lowestQuarter 28 .ixor 1 29 := ⟨by decide +kernel, rfl⟩
theorem d_Shape_lowestQuarter_29 : DC m_Shape_lowestQuarter 29 (.aload_n 0) 1 30 := ⟨by decide +kernel, rfl⟩
theorem d_Shape_lowestQuarter_30 : DC m_Shape_lowestQuarter 30 (.getfield 9) 3 33 := ⟨by decide +kernel, rfl⟩
theorem d_Shape_lowestQuarter_33 : DC m_Shape_lowestQuarter 33 (.iload_n 1) 1 34 := ⟨by decide +kernel, rfl⟩
theorem d_Shape_lowestQuarter_34 : DC m_Shape_lowestQuarter 34 .iaload 1 35 := ⟨by decide +kernel, rfl⟩
theorem d_Shape_lowestQuarter_35 : DC m_Shape_lowestQuarter 35 (.iconst 1) 1 36 := ⟨by decide +kernel, rfl⟩
theorem d_Shape_lowestQuarter_36 : DC m_Shape_lowestQuarter 36 .isub 1 37 := ⟨by decide +kernel, rfl⟩
theorem d_Shape_lowestQuarter_37 : DC m_Shape_lowestQuarter 37 .iand 1 38 := ⟨by decide +kernel, rfl⟩
theorem d_Shape_lowestQuarter_38 : DC m_Shape_lowestQuarter 38 (.invokestatic 15) 3 41 := ⟨by decide +kernel, rfl⟩
theorem d_Shape_lowestQuarter_41 : DC m_Shape_lowestQuarter 41 .iadd 1 42 := ⟨by decide +kernel, rfl⟩
theorem d_Shape_lowestQuarter_42 : DC m_Shape_lowestQuarter 42 .ireturn 1 43 := ⟨by decide +kernel, rfl⟩
theorem d_Shape_lowestQuarter_43 : DC m_Shape_lowestQuarter 43 (.iinc 1 1) 3 46 := ⟨by decide +kernel, rfl⟩
theorem d_Shape_lowestQuarter_46 : DC m_Shape_lowestQuarter 46 (.goto (-44)) 3 49 := ⟨by decide +kernel, rfl⟩
theorem d_Shape_lowestQuarter_49 : DC m_Shape_lowestQuarter 49 (.iconst (-1)) 1 50 := ⟨by decide +kernel, rfl⟩
theorem d_Shape_lowestQuarter_50 : DC m_Shape_lowestQuarter 50 .ireturn 1 51 := ⟨by decide +kernel, rfl⟩
def f_Shape_lowestQuarter_17 (n : Nat) (x0 : Nat) (x1 : Int32) (M : MM) : Option (Int32 × MM) :=
  (gR 7 0 x0 M).bind fun v1 =>
  (aI 100 v1 x1 M).bind fun v2 =>
  (gR 7 0 x0 M).bind fun v3 =>
  (aI 100 v3 x1 M).bind fun v4 =>
  (f_Integer_bitCount n ((v2 ^^^ (-1)) &&& (v4 - 1)) M).bind fun p5 =>
  some (((32 * x1) + p5.1), p5.2)
theorem t_Shape_lowestQuarter_17 (n : Nat) (x0 : Nat) (x1 : Int32) (M : MM) (z : Int32 × MM) (h : f_Shape_lowestQuarter_17 n x0 x1 M = some z) : EV m_Shape_lowestQuarter (rm 2 0 0) (some (.int z.1)) z.2 0 0 17 [some (.ref x0), some (.int x1)] [] M := by
  unfold f_Shape_lowestQuarter_17 at h
  refine e_bipush (v := 32) d_Shape_lowestQuarter_17 (by decide) ?_
  refine e_iload_n d_Shape_lowestQuarter_19 rfl ?_
  refine e_imul d_Shape_lowestQuarter_20 ?_
  refine e_aload_n d_Shape_lowestQuarter_21 rfl ?_
  obtain ⟨v1, hv1, h⟩ := bnd h
  refine e_getR d_Shape_lowestQuarter_22 fl_Shape_9 (fun _ _ _ => rfl) hv1 ?_
  refine e_iload_n d_Shape_lowestQuarter_25 rfl ?_
  obtain ⟨v2, hv2, h⟩ := bnd h
  refine e_iald d_Shape_lowestQuarter_26 hv2 ?_
  refine e_iconst (v := (-1)) d_Shape_lowestQuarter_27 (by decide) ?_
  refine e_ixor d_Shape_lowestQuarter_28 ?_
  refine e_aload_n d_Shape_lowestQuarter_29 rfl ?_
  obtain ⟨v3, hv3, h⟩ := bnd h
  refine e_getR d_Shape_lowestQuarter_30 fl_Shape_9 (fun _ _ _ => rfl) hv3 ?_
  refine e_iload_n d_Shape_lowestQuarter_33 rfl ?_
  obtain ⟨v4, hv4, h⟩ := bnd h
  refine e_iald d_Shape_lowestQuarter_34 hv4 ?_
  refine e_iconst (v := 1) d_Shape_lowestQuarter_35 (by decide) ?_
  refine e_isub d_Shape_lowestQuarter_36 ?_
  refine e_iand d_Shape_lowestQuarter_37 ?_
  obtain ⟨p5, hp5, h⟩ := bnd h
  refine e_cSi (mt1 := m_Integer_bitCount) (As := [.int ((v2 ^^^ (-1)) &&& (v4 - 1))]) (st := [.int (32 * x1)]) d_Shape_lowestQuarter_38 ml_Shape_15 ms_Integer_bitCount (t_Integer_bitCount n ((v2 ^^^ (-1)) &&& (v4 - 1)) M p5 hp5) rfl rfl (okp rfl) (okp rfl) (okp rfl) (Nat.le_refl _) (Nat.le_refl _) ?_
  refine e_iadd d_Shape_lowestQuarter_41 ?_
  cases h
  exact e_iret d_Shape_lowestQuarter_42 rfl (Nat.le_refl _) (Nat.le_refl _)
def f_Shape_lowestQuarter_2 (n : Nat) (k_17 : Nat → Int32 → MM → Option (Int32 × MM)) : Nat → Nat → Int32 → MM → Option (Int32 × MM)
  | 0, _, _, _ => none
  | m + 1, x0, x1, M =>
    if 8 ≤ x1 then
      some ((-1), M)
    else
      (gR 7 0 x0 M).bind fun v7 =>
      (aI 100 v7 x1 M).bind fun v8 =>
      if v8 = 0 then
        f_Shape_lowestQuarter_2 n k_17 m x0 (x1 + 1) M
      else
        k_17 x0 x1 M
theorem t_Shape_lowestQuarter_2 (n : Nat) {k_17 : Nat → Int32 → MM → Option (Int32 × MM)} (hk_17 : ∀ (x0 : Nat) (x1 : Int32) (M : MM) (z : Int32 × MM), k_17 x0 x1 M = some z → EV m_Shape_lowestQuarter (rm 2 0 0) (some (.int z.1)) z.2 0 0 17 [some (.ref x0), some (.int x1)] [] M) : ∀ (m : Nat) (x0 : Nat) (x1 : Int32) (M : MM) (z : Int32 × MM), f_Shape_lowestQuarter_2 n k_17 m x0 x1 M = some z → EV m_Shape_lowestQuarter (rm 2 0 0) (some (.int z.1)) z.2 0 0 2 [some (.ref x0), some (.int x1)] [] M := by
  intro m
  induction m with
  | zero => intro x0 x1 M z h; cases h
  | succ m ih =>
    intro x0 x1 M z h
    rw [f_Shape_lowestQuarter_2] at h
    refine e_iload_n d_Shape_lowestQuarter_2 rfl ?_
    refine e_bipush (v := 8) d_Shape_lowestQuarter_3 (by decide) ?_
    refine e_ic_ge 49 d_Shape_lowestQuarter_5 (by decide) (fun c6 => ?_) (fun c6 => ?_)
    · replace h := ift c6 h
      refine e_iconst (v := (-1)) d_Shape_lowestQuarter_49 (by decide) ?_
      cases h
      exact e_iret d_Shape_lowestQuarter_50 rfl (Nat.le_refl _) (Nat.le_refl _)
    · replace h := ifn c6 h
      refine e_aload_n d_Shape_lowestQuarter_8 rfl ?_
      obtain ⟨v7, hv7, h⟩ := bnd h
      refine e_getR d_Shape_lowestQuarter_9 fl_Shape_9 (fun _ _ _ => rfl) hv7 ?_
      refine e_iload_n d_Shape_lowestQuarter_12 rfl ?_
      obtain ⟨v8, hv8, h⟩ := bnd h
      refine e_iald d_Shape_lowestQuarter_13 hv8 ?_
      refine e_if_eq 43 d_Shape_lowestQuarter_14 (by decide) (fun c9 => ?_) (fun c9 => ?_)
      · replace h := ift c9 h
        refine e_iinc (v := x1 + 1) (l2 := [some (.ref x0), some (.int (x1 + 1))]) d_Shape_lowestQuarter_43 rfl rfl rfl (okl rfl) rfl ?_
        refine e_goto 2 d_Shape_lowestQuarter_46 (by decide) ?_
        exact (ih x0 (x1 + 1) M z h).less (show LSub _ _ from ⟨rfl, ⟨rfl, trivial⟩⟩)
      · replace h := ifn c9 h
        exact (hk_17 x0 x1 M z h).less (show LSub _ _ from ⟨rfl, ⟨rfl, trivial⟩⟩)
def f_Shape_lowestQuarter (n : Nat) (x0 : Nat) (M : MM) : Option (Int32 × MM) :=
  og 7 x0 M <|
  f_Shape_lowestQuarter_2 n (f_Shape_lowestQuarter_17 n) n x0 0 M
theorem fc_Shape_lowestQuarter {n : Nat} {x0 : Nat} {M : MM} {z : Int32 × MM} (h : f_Shape_lowestQuarter n x0 M = some z) : (M.1.2.1 x0).1 = 7 := by
  unfold f_Shape_lowestQuarter at h
  exact (og_s h).1
theorem t_Shape_lowestQuarter (n : Nat) (x0 : Nat) (M : MM) (z : Int32 × MM) (h : f_Shape_lowestQuarter n x0 M = some z) : CT m_Shape_lowestQuarter (rm 2 0 0) [.ref x0] M (some (.int z.1)) z.2 := by
  unfold f_Shape_lowestQuarter at h
  obtain ⟨hthis, h⟩ := og_s h
  refine CT.of (ls := [some (.ref x0), none]) rfl (okp rfl) rfl ?_
  refine e_iconst (v := 0) d_Shape_lowestQuarter_0 (by decide) ?_
  refine e_istore_n (l2 := [some (.ref x0), some (.int 0)]) d_Shape_lowestQuarter_1 rfl (okl rfl) rfl ?_
  exact (t_Shape_lowestQuarter_2 n (t_Shape_lowestQuarter_17 n) n x0 0 M z h).less (show LSub _ _ from ⟨rfl, ⟨rfl, trivial⟩⟩)
theorem d_Shape_isSame_0 : DC m_Shape_isSame 0 (.iconst 0) 1 1 := ⟨by decide +kernel, rfl⟩
theorem d_Shape_isSame_1 : DC m_Shape_isSame 1 (.istore_n 2) 1 2 := ⟨by decide +kernel, rfl⟩
theorem d_Shape_isSame_2 : DC m_Shape_isSame 2 (.iload_n 2) 1 3 := ⟨by decide +kernel, rfl⟩
theorem d_Shape_isSame_3 : DC m_Shape_isSame 3 (.bipush 8) 2 5 := ⟨by decide +kernel, rfl⟩
theorem d_Shape_isSame_5 : DC m_Shape_isSame 5 (.if_icmp .ge 26) 3 8 := ⟨by decide +kernel, rfl⟩
theorem d_Shape_isSame_8 : DC m_Shape_isSame 8 (.aload_n 0) 1 9 := ⟨by decide +kernel, rfl⟩
theorem d_Shape_isSame_9 : DC m_Shape_isSame 9 (.getfield 9) 3 12 := ⟨by decide +kernel, rfl⟩
theorem d_Shape_isSame_12 : DC m_Shape_isSame 12 (.iload_n 2) 1 13 := ⟨by decide +kernel, rfl⟩
theorem d_Shape_isSame_13 : DC m_Shape_isSame 13 .iaload 1 14 := ⟨by decide +kernel, rfl⟩
theorem d_Shape_isSame_14 : DC m_Shape_isSame 14 (.aload_n 1) 1 15 := ⟨by decide +kernel, rfl⟩
theorem d_Shape_isSame_15 : DC m_Shape_isSame 15 (.getfield 9) 3 18 := ⟨by decide +kernel, rfl⟩
theorem d_Shape_isSame_18 : DC m_Shape_isSame 18 (.iload_n 2) 1 19 := ⟨by decide +kernel, rfl⟩
theorem d_Shape_isSame_19 : DC m_Shape_isSame 19 .iaload 1 20 := ⟨by decide +kernel, rfl⟩
theorem d_Shape_isSame_20 : DC m_Shape_isSame 20 (.if_icmp .eq 5) 3 23 := ⟨by decide +kernel, rfl⟩
theorem d_Shape_isSame_23 : DC m_Shape_isSame 23 (.iconst 0) 1 24 := ⟨by decide +kernel, rfl⟩
theorem d_Shape_isSame_24 : DC m_Shape_isSame 24 .ireturn 1 25 := ⟨by decide +kernel, rfl⟩
theorem d_Shape_isSame_25 : DC m_Shape_isSame 25 (.iinc 2 1) 3 28 := ⟨by decide +kernel, rfl⟩
theorem d_Shape_isSame_28 : DC m_Shape_isSame 28 (.goto (-26)) 3 31 := ⟨by decide +kernel, rfl⟩
theorem d_Shape_isSame_31 : DC m_Shape_isSame 31 (.iconst 1) 1 32 := ⟨by decide +kernel, rfl⟩
theorem d_Shape_isSame_32 : DC m_Shape_isSame 32 .ireturn 1 33 := ⟨by decide +kernel, rfl⟩
def f_Shape_isSame_2 (n : Nat) : Nat → Nat → Nat → Int32 → MM → Option (Int32 × MM)
  | 0, _, _, _, _ => none
  | m + 1, x0, x1, x2, M =>
    if 8 ≤ x2 then
      some (1, M)
    else
      (gR 7 0 x0 M).bind fun v2 =>
      (aI 100 v2 x2 M).bind fun v3 =>
      (gR 7 0 x1 M).bind fun v4 =>
      (aI 100 v4 x2 M).bind fun v5 =>
      if v3 = v5 then
        f_Shape_isSame_2 n m x0 x1 (x2 + 1) M
      else
        some (0, M)
theorem t_Shape_isSame_2 (n : Nat) : ∀ (m : Nat) (x0 : Nat) (x1 : Nat) (x2 : Int32) (M : MM) (z : Int32 × MM), f_Shape_isSame_2 n m x0 x1 x2 M = some z → EV m_Shape_isSame (rm 1 0 0) (some (.int z.1)) z.2 0 0 2 [some (.ref x0), some (.ref x1), some (.int x2)] [] M := by
  intro m
  induction m with
  | zero => intro x0 x1 x2 M z h; cases h
  | succ m ih =>
    intro x0 x1 x2 M z h
    rw [f_Shape_isSame_2] at h
    refine e_iload_n d_Shape_isSame_2 rfl ?_
    refine e_bipush (v := 8) d_Shape_isSame_3 (by decide) ?_
    refine e_ic_ge 31 d_Shape_isSame_5 (by decide) (fun c1 => ?_) (fun c1 => ?_)
    · replace h := ift c1 h
      refine e_iconst (v := 1) d_Shape_isSame_31 (by decide) ?_
      cases h
      exact e_zret (ty := .boolean) d_Shape_isSame_32 rfl narZ1 (Nat.le_refl _) (Nat.le_refl _)
    · replace h := ifn c1 h
      refine e_aload_n d_Shape_isSame_8 rfl ?_
      obtain ⟨v2, hv2, h⟩ := bnd h
      refine e_getR d_Shape_isSame_9 fl_Shape_9 (fun _ _ _ => rfl) hv2 ?_
      refine e_iload_n d_Shape_isSame_12 rfl ?_
      obtain ⟨v3, hv3, h⟩ := bnd h
      refine e_iald d_Shape_isSame_13 hv3 ?_
      refine e_aload_n d_Shape_isSame_14 rfl ?_
      obtain ⟨v4, hv4, h⟩ := bnd h
      refine e_getR d_Shape_isSame_15 fl_Shape_9 (fun _ _ _ => rfl) hv4 ?_
      refine e_iload_n d_Shape_isSame_18 rfl ?_
      obtain ⟨v5, hv5, h⟩ := bnd h
      refine e_iald d_Shape_isSame_19 hv5 ?_
      refine e_ic_eq 25 d_Shape_isSame_20 (by decide) (fun c6 => ?_) (fun c6 => ?_)
      · replace h := ift c6 h
        refine e_iinc (v := x2 + 1) (l2 := [some (.ref x0), some (.ref x1), some (.int (x2 + 1))]) d_Shape_isSame_25 rfl rfl rfl (okl rfl) rfl ?_
        refine e_goto 2 d_Shape_isSame_28 (by decide) ?_
        exact (ih x0 x1 (x2 + 1) M z h).less (show LSub _ _ from ⟨rfl, ⟨rfl, ⟨rfl, trivial⟩⟩⟩)
      · replace h := ifn c6 h
        refine e_iconst (v := 0) d_Shape_isSame_23 (by decide) ?_
        cases h
        exact e_zret (ty := .boolean) d_Shape_isSame_24 rfl narZ0 (Nat.le_refl _) (Nat.le_refl _)
def f_Shape_isSame (n : Nat) (x0 : Nat) (x1 : Nat) (M : MM) : Option (Int32 × MM) :=
  og 7 x0 M <|
  f_Shape_isSame_2 n n x0 x1 0 M
theorem fc_Shape_isSame {n : Nat} {x0 : Nat} {x1 : Nat} {M : MM} {z : Int32 × MM} (h : f_Shape_isSame n x0 x1 M = some z) : (M.1.2.1 x0).1 = 7 := by
  unfold f_Shape_isSame at h
  exact (og_s h).1
theorem t_Shape_isSame (n : Nat) (x0 : Nat) (x1 : Nat) (M : MM) (z : Int32 × MM) (h : f_Shape_isSame n x0 x1 M = some z) : CT m_Shape_isSame (rm 1 0 0) [.ref x0, .ref x1] M (some (.int z.1)) z.2 := by
  unfold f_Shape_isSame at h
  obtain ⟨hthis, h⟩ := og_s h
  refine CT.of (ls := [some (.ref x0), some (.ref x1), none]) rfl (okp rfl) rfl ?_
  refine e_iconst (v := 0) d_Shape_isSame_0 (by decide) ?_
  refine e_istore_n (l2 := [some (.ref x0), some (.ref x1), some (.int 0)]) d_Shape_isSame_1 rfl (okl rfl) rfl ?_
  exact (t_Shape_isSame_2 n n x0 x1 0 M z h).less (show LSub _ _ from ⟨rfl, ⟨rfl, ⟨rfl, trivial⟩⟩⟩)
theorem d_Shape_holds_0 : DC m_Shape_holds 0 (.iload_n 1) 1 1 := ⟨by decide +kernel, rfl⟩
theorem d_Shape_holds_1 : DC m_Shape_holds 1 (.ifCond .lt 32) 3 4 := ⟨by decide +kernel, rfl⟩
theorem d_Shape_holds_4 : DC m_Shape_holds 4 (.iload_n 1) 1 5 := ⟨by decide +kernel, rfl⟩
theorem d_Shape_holds_5 : DC m_Shape_holds 5 (.sipush 256) 3 8 := ⟨by decide +kernel, rfl⟩
theorem d_Shape_holds_8 : DC m_Shape_holds 8 (.if_icmp .ge 25) 3 11 := ⟨by decide +kernel, rfl⟩
theorem d_Shape_holds_11 : DC m_Shape_holds 11 (.aload_n 0) 1 12 := ⟨by decide +kernel, rfl⟩
theorem d_Shape_holds_12 : DC m_Shape_holds 12 (.getfield 9) 3 15 := ⟨by decide +kernel, rfl⟩
theorem d_Shape_holds_15 : DC m_Shape_holds 15 (.iload_n 1) 1 16 := ⟨by decide +kernel, rfl⟩
theorem d_Shape_holds_16 : DC m_Shape_holds 16 (.iconst 5) 1 17 := ⟨by decide +kernel, rfl⟩
theorem d_Shape_holds_17 : DC m_Shape_holds 17 .ishr 1 18 := ⟨by decide +kernel, rfl⟩
theorem d_Shape_holds_18 : DC m_Shape_holds 18 .iaload 1 19 := ⟨by decide +kernel, rfl⟩
theorem d_Shape_holds_19 : DC m_Shape_holds 19 (.iload_n 1) 1 20 := ⟨by decide +kernel, rfl⟩
theorem d_Shape_holds_20 : DC m_Shape_holds 20 (.bipush 31) 2 22 := ⟨by decide +kernel, rfl⟩
theorem d_Shape_holds_22 : DC m_Shape_holds 22 .iand 1 23 := ⟨by decide +kernel, rfl⟩
theorem d_Shape_holds_23 : DC m_Shape_holds 23 .iushr 1 24 := ⟨by decide +kernel, rfl⟩
theorem d_Shape_holds_24 : DC m_Shape_holds 24 (.iconst 1) 1 25 := ⟨by decide +kernel, rfl⟩
theorem d_Shape_holds_25 : DC m_Shape_holds 25 .iand 1 26 := ⟨by decide +kernel, rfl⟩
theorem d_Shape_holds_26 : DC m_Shape_holds 26 (.ifCond .eq 7) 3 29 := ⟨by decide +kernel, rfl⟩
theorem d_Shape_holds_29 : DC m_Shape_holds 29 (.iconst 1) 1 30 := ⟨by decide +kernel, rfl⟩
theorem d_Shape_holds_30 : DC m_Shape_holds 30 (.goto 4) 3 33 := ⟨by decide +kernel, rfl⟩
theorem d_Shape_holds_33 : DC m_Shape_holds 33 (.iconst 0) 1 34 := ⟨by decide +kernel, rfl⟩
theorem d_Shape_holds_34 : DC m_Shape_holds 34 .ireturn 1 35 := ⟨by decide +kernel, rfl⟩
def f_Shape_holds (n : Nat) (x0 : Nat) (x1 : Int32) (M : MM) : Option (Int32 × MM) :=
  og 7 x0 M <|
  if x1 < 0 then
    some (0, M)
  else
    if 256 ≤ x1 then
      some (0, M)
    else
      (gR 7 0 x0 M).bind fun v3 =>
      (aI 100 v3 (ishr x1 5) M).bind fun v4 =>
      if ((ushr v4 (x1 &&& 31)) &&& 1) = 0 then
        some (0, M)
      else
        some (1, M)
theorem fc_Shape_holds {n : Nat} {x0 : Nat} {x1 : Int32} {M : MM} {z : Int32 × MM} (h : f_Shape_holds n x0 x1 M = some z) : (M.1.2.1 x0).1 = 7 := by
  unfold f_Shape_holds at h
  exact (og_s h).1
theorem t_Shape_holds (n : Nat) (x0 : Nat) (x1 : Int32) (M : MM) (z : Int32 × MM) (h : f_Shape_holds n x0 x1 M = some z) : CT m_Shape_holds (rm 1 0 0) [.ref x0, .int x1] M (some (.int z.1)) z.2 := by
  unfold f_Shape_holds at h
  obtain ⟨hthis, h⟩ := og_s h
  refine CT.of (ls := [some (.ref x0), some (.int x1)]) rfl (okp rfl) rfl ?_
  refine e_iload_n d_Shape_holds_0 rfl ?_
  refine e_if_lt 33 d_Shape_holds_1 (by decide) (fun c1 => ?_) (fun c1 => ?_)
  · replace h := ift c1 h
    refine e_iconst (v := 0) d_Shape_holds_33 (by decide) ?_
    cases h
    exact e_zret (ty := .boolean) d_Shape_holds_34 rfl narZ0 (Nat.le_refl _) (Nat.le_refl _)
  · replace h := ifn c1 h
    refine e_iload_n d_Shape_holds_4 rfl ?_
    refine e_sipush (v := 256) d_Shape_holds_5 (by decide) ?_
    refine e_ic_ge 33 d_Shape_holds_8 (by decide) (fun c2 => ?_) (fun c2 => ?_)
    · replace h := ift c2 h
      refine e_iconst (v := 0) d_Shape_holds_33 (by decide) ?_
      cases h
      exact e_zret (ty := .boolean) d_Shape_holds_34 rfl narZ0 (Nat.le_refl _) (Nat.le_refl _)
    · replace h := ifn c2 h
      refine e_aload_n d_Shape_holds_11 rfl ?_
      obtain ⟨v3, hv3, h⟩ := bnd h
      refine e_getR d_Shape_holds_12 fl_Shape_9 (fun _ _ _ => rfl) hv3 ?_
      refine e_iload_n d_Shape_holds_15 rfl ?_
      refine e_iconst (v := 5) d_Shape_holds_16 (by decide) ?_
      refine e_ishr d_Shape_holds_17 ?_
      obtain ⟨v4, hv4, h⟩ := bnd h
      refine e_iald d_Shape_holds_18 hv4 ?_
      refine e_iload_n d_Shape_holds_19 rfl ?_
      refine e_bipush (v := 31) d_Shape_holds_20 (by decide) ?_
      refine e_iand d_Shape_holds_22 ?_
      refine e_iushr d_Shape_holds_23 ?_
      refine e_iconst (v := 1) d_Shape_holds_24 (by decide) ?_
      refine e_iand d_Shape_holds_25 ?_
      refine e_if_eq 33 d_Shape_holds_26 (by decide) (fun c5 => ?_) (fun c5 => ?_)
      · replace h := ift c5 h
        refine e_iconst (v := 0) d_Shape_holds_33 (by decide) ?_
        cases h
        exact e_zret (ty := .boolean) d_Shape_holds_34 rfl narZ0 (Nat.le_refl _) (Nat.le_refl _)
      · replace h := ifn c5 h
        refine e_iconst (v := 1) d_Shape_holds_29 (by decide) ?_
        refine e_goto 34 d_Shape_holds_30 (by decide) ?_
        cases h
        exact e_zret (ty := .boolean) d_Shape_holds_34 rfl narZ1 (Nat.le_refl _) (Nat.le_refl _)
theorem d_Shape_drop_0 : DC m_Shape_drop 0 (.iload_n 1) 1 1 := ⟨by decide +kernel, rfl⟩
theorem d_Shape_drop_1 : DC m_Shape_drop 1 (.ifCond .lt 29) 3 4 := ⟨by decide +kernel, rfl⟩
theorem d_Shape_drop_4 : DC m_Shape_drop 4 (.iload_n 1) 1 5 := ⟨by decide +kernel, rfl⟩
theorem d_Shape_drop_5 : DC m_Shape_drop 5 (.sipush 256) 3 8 := ⟨by decide +kernel, rfl⟩
theorem d_Shape_drop_8 : DC m_Shape_drop 8 (.if_icmp .ge 22) 3 11 := ⟨by decide +kernel, rfl⟩
theorem d_Shape_drop_11 : DC m_Shape_drop 11 (.aload_n 0) 1 12 := ⟨by decide +kernel, rfl⟩
theorem d_Shape_drop_12 : DC m_Shape_drop 12 (.getfield 9) 3 15 := ⟨by decide +kernel, rfl⟩
theorem d_Shape_drop_15 : DC m_Shape_drop 15 (.iload_n 1) 1 16 := ⟨by decide +kernel, rfl⟩
theorem d_Shape_drop_16 : DC m_Shape_drop 16 (.iconst 5) 1 17 := ⟨by decide +kernel, rfl⟩
theorem d_Shape_drop_17 : DC m_Shape_drop 17 .ishr 1 18 := ⟨by decide +kernel, rfl⟩
theorem d_Shape_drop_18 : DC m_Shape_drop 18 .dup2 1 19 := ⟨by decide +kernel, rfl⟩
theorem d_Shape_drop_19 : DC m_Shape_drop 19 .iaload 1 20 := ⟨by decide +kernel, rfl⟩
theorem d_Shape_drop_20 : DC m_Shape_drop 20 (.iconst 1) 1 21 := ⟨by decide +kernel, rfl⟩
theorem d_Shape_drop_21 : DC m_Shape_drop 21 (.iload_n 1) 1 22 := ⟨by decide +kernel, rfl⟩
theorem d_Shape_drop_22 : DC m_Shape_drop 22 (.bipush 31) 2 24 := ⟨by decide +kernel, rfl⟩
theorem d_Shape_drop_24 : DC m_Shape_drop 24 .iand 1 25 := ⟨by decide +kernel, rfl⟩
theorem d_Shape_drop_25 : DC m_Shape_drop 25 .ishl 1 26 := ⟨by decide +kernel, rfl⟩
theorem d_Shape_drop_26 : DC m_Shape_drop 26 (.iconst (-1)) 1 27 := ⟨by decide +kernel, rfl⟩
theorem d_Shape_drop_27 : DC m_Shape_drop 27 .ixor 1 28 := ⟨by decide +kernel, rfl⟩
theorem d_Shape_drop_28 : DC m_Shape_drop 28 .iand 1 29 := ⟨by decide +kernel, rfl⟩
theorem d_Shape_drop_29 : DC m_Shape_drop 29 .iastore 1 30 := ⟨by decide +kernel, rfl⟩
theorem d_Shape_drop_30 : DC m_Shape_drop 30 .return_ 1 31 := ⟨by decide +kernel, rfl⟩
def f_Shape_drop (n : Nat) (x0 : Nat) (x1 : Int32) (M : MM) : Option (MM) :=
  og 7 x0 M <|
  if x1 < 0 then
    some M
  else
    if 256 ≤ x1 then
      some M
    else
      (gR 7 0 x0 M).bind fun v3 =>
      (aI 100 v3 (ishr x1 5) M).bind fun v4 =>
      (sI 100 v3 (ishr x1 5) (v4 &&& ((ishl 1 (x1 &&& 31)) ^^^ (-1))) M).bind fun M5 =>
      some M5
theorem fc_Shape_drop {n : Nat} {x0 : Nat} {x1 : Int32} {M : MM} {z : MM} (h : f_Shape_drop n x0 x1 M = some z) : (M.1.2.1 x0).1 = 7 := by
  unfold f_Shape_drop at h
  exact (og_s h).1
theorem t_Shape_drop (n : Nat) (x0 : Nat) (x1 : Int32) (M : MM) (z : MM) (h : f_Shape_drop n x0 x1 M = some z) : CT m_Shape_drop (rm 1 0 0) [.ref x0, .int x1] M none z := by
  unfold f_Shape_drop at h
  obtain ⟨hthis, h⟩ := og_s h
  refine CT.of (ls := [some (.ref x0), some (.int x1)]) rfl (okp rfl) rfl ?_
  refine e_iload_n d_Shape_drop_0 rfl ?_
  refine e_if_lt 30 d_Shape_drop_1 (by decide) (fun c1 => ?_) (fun c1 => ?_)
  · replace h := ift c1 h
    cases h
    exact e_vret d_Shape_drop_30 rfl (Nat.le_refl _) (Nat.le_refl _)
  · replace h := ifn c1 h
    refine e_iload_n d_Shape_drop_4 rfl ?_
    refine e_sipush (v := 256) d_Shape_drop_5 (by decide) ?_
    refine e_ic_ge 30 d_Shape_drop_8 (by decide) (fun c2 => ?_) (fun c2 => ?_)
    · replace h := ift c2 h
      cases h
      exact e_vret d_Shape_drop_30 rfl (Nat.le_refl _) (Nat.le_refl _)
    · replace h := ifn c2 h
      refine e_aload_n d_Shape_drop_11 rfl ?_
      obtain ⟨v3, hv3, h⟩ := bnd h
      refine e_getR d_Shape_drop_12 fl_Shape_9 (fun _ _ _ => rfl) hv3 ?_
      refine e_iload_n d_Shape_drop_15 rfl ?_
      refine e_iconst (v := 5) d_Shape_drop_16 (by decide) ?_
      refine e_ishr d_Shape_drop_17 ?_
      refine e_dup2 d_Shape_drop_18 rfl rfl ?_
      obtain ⟨v4, hv4, h⟩ := bnd h
      refine e_iald d_Shape_drop_19 hv4 ?_
      refine e_iconst (v := 1) d_Shape_drop_20 (by decide) ?_
      refine e_iload_n d_Shape_drop_21 rfl ?_
      refine e_bipush (v := 31) d_Shape_drop_22 (by decide) ?_
      refine e_iand d_Shape_drop_24 ?_
      refine e_ishl d_Shape_drop_25 ?_
      refine e_iconst (v := (-1)) d_Shape_drop_26 (by decide) ?_
      refine e_ixor d_Shape_drop_27 ?_
      refine e_iand d_Shape_drop_28 ?_
      obtain ⟨M5, hM5, h⟩ := bnd h
      refine e_iast d_Shape_drop_29 hM5 ?_
      cases h
      exact e_vret d_Shape_drop_30 rfl (Nat.le_refl _) (Nat.le_refl _)
