theorem d_Table_take_0 : DC m_Table_take 0 (.aload_n 0) 1 1 := ⟨by decide +kernel, rfl⟩
theorem d_Table_take_1 : DC m_Table_take 1 (.getfield 11) 3 4 := ⟨by decide +kernel, rfl⟩
theorem d_Table_take_4 : DC m_Table_take 4 (.iload_n 1) 1 5 := ⟨by decide +kernel, rfl⟩
theorem d_Table_take_5 : DC m_Table_take 5 .aaload 1 6 := ⟨by decide +kernel, rfl⟩
theorem d_Table_take_6 : DC m_Table_take 6 (.invokevirtual 54) 3 9 := ⟨by decide +kernel, rfl⟩
theorem d_Table_take_9 : DC m_Table_take 9 (.aload_n 0) 1 10 := ⟨by decide +kernel, rfl⟩
theorem d_Table_take_10 : DC m_Table_take 10 (.getfield 17) 3 13 := ⟨by decide +kernel, rfl⟩
theorem d_Table_take_13 : DC m_Table_take 13 (.iload_n 1) 1 14 := ⟨by decide +kernel, rfl⟩
theorem d_Table_take_14 : DC m_Table_take 14 (.iconst (-1)) 1 15 := ⟨by decide +kernel, rfl⟩
theorem d_Table_take_15 : DC m_Table_take 15 .iastore 1 16 := ⟨by decide +kernel, rfl⟩
theorem d_Table_take_16 : DC m_Table_take 16 .return_ 1 17 := ⟨by decide +kernel, rfl⟩
def f_Table_take (n : Nat) (x0 : Nat) (x1 : Int32) (M : MM) : Option (MM) :=
  og 9 x0 M <|
  (gR 9 0 x0 M).bind fun v1 =>
  (aR 104 v1 x1 M).bind fun v2 =>
  (f_Shape_clear n v2 M).bind fun M3 =>
  (gR 9 1 x0 M3).bind fun v4 =>
  (sI 100 v4 x1 (-1) M3).bind fun M5 =>
  some M5
theorem fc_Table_take {n : Nat} {x0 : Nat} {x1 : Int32} {M : MM} {z : MM} (h : f_Table_take n x0 x1 M = some z) : (M.1.2.1 x0).1 = 9 := by
  unfold f_Table_take at h
  exact (og_s h).1
theorem t_Table_take (n : Nat) (x0 : Nat) (x1 : Int32) (M : MM) (z : MM) (h : f_Table_take n x0 x1 M = some z) : CT m_Table_take (rm 2 0 0) [.ref x0, .int x1] M none z := by
  unfold f_Table_take at h
  obtain ⟨hthis, h⟩ := og_s h
  refine CT.of (ls := [some (.ref x0), some (.int x1)]) rfl (okp rfl) rfl ?_
  refine e_aload_n d_Table_take_0 rfl ?_
  obtain ⟨v1, hv1, h⟩ := bnd h
  refine e_getR d_Table_take_1 fl_Table_11 (fun _ _ _ => rfl) hv1 ?_
  refine e_iload_n d_Table_take_4 rfl ?_
  obtain ⟨v2, hv2, h⟩ := bnd h
  refine e_aald (kd := 104) d_Table_take_5 (by decide) hv2 ?_
  obtain ⟨M3, hM3, h⟩ := bnd h
  refine e_cVv (mt1 := m_Shape_clear) (As := []) (st := []) d_Table_take_6 ml_Table_54 mv_Shape_clear (t_Shape_clear n v2 M M3 hM3) (fc_Shape_clear hM3) rfl rfl rfl (okp rfl) (okp rfl) (okp rfl) (Nat.le_refl _) (Nat.le_refl _) ?_
  refine e_aload_n d_Table_take_9 rfl ?_
  obtain ⟨v4, hv4, h⟩ := bnd h
  refine e_getR d_Table_take_10 fl_Table_17 (fun _ _ _ => rfl) hv4 ?_
  refine e_iload_n d_Table_take_13 rfl ?_
  refine e_iconst (v := (-1)) d_Table_take_14 (by decide) ?_
  obtain ⟨M5, hM5, h⟩ := bnd h
  refine e_iast d_Table_take_15 hM5 ?_
  cases h
  exact e_vret d_Table_take_16 rfl (Nat.le_refl _) (Nat.le_refl _)
theorem d_Table_empty_0 : DC m_Table_empty 0 (.iconst 0) 1 1 := ⟨by decide +kernel, rfl⟩
theorem d_Table_empty_1 : DC m_Table_empty 1 (.istore_n 1) 1 2 := ⟨by decide +kernel, rfl⟩
theorem d_Table_empty_2 : DC m_Table_empty 2 (.iload_n 1) 1 3 := ⟨by decide +kernel, rfl⟩
theorem d_Table_empty_3 : DC m_Table_empty 3 (.bipush 8) 2 5 := ⟨by decide +kernel, rfl⟩
theorem d_Table_empty_5 : DC m_Table_empty 5 (.if_icmp .ge 14) 3 8 := ⟨by decide +kernel, rfl⟩
theorem d_Table_empty_8 : DC m_Table_empty 8 (.aload_n 0) 1 9 := ⟨by decide +kernel, rfl⟩
theorem d_Table_empty_9 : DC m_Table_empty 9 (.iload_n 1) 1 10 := ⟨by decide +kernel, rfl⟩
theorem d_Table_empty_10 : DC m_Table_empty 10 (.invokevirtual 32) 3 13 := ⟨by decide +kernel, rfl⟩
theorem d_Table_empty_13 : DC m_Table_empty 13 (.iinc 1 1) 3 16 := ⟨by decide +kernel, rfl⟩
theorem d_Table_empty_16 : DC m_Table_empty 16 (.goto (-14)) 3 19 := ⟨by decide +kernel, rfl⟩
theorem d_Table_empty_19 : DC m_Table_empty 19 .return_ 1 20 := ⟨by decide +kernel, rfl⟩
def f_Table_empty_2 (n : Nat) : Nat → Nat → Int32 → MM → Option (MM)
  | 0, _, _, _ => none
  | m + 1, x0, x1, M =>
    if 8 ≤ x1 then
      some M
    else
      (f_Table_take n x0 x1 M).bind fun M2 =>
      f_Table_empty_2 n m x0 (x1 + 1) M2
theorem t_Table_empty_2 (n : Nat) : ∀ (m : Nat) (x0 : Nat) (x1 : Int32) (M : MM) (z : MM), f_Table_empty_2 n m x0 x1 M = some z → EV m_Table_empty (rm 3 0 0) none z 0 0 2 [some (.ref x0), some (.int x1)] [] M := by
  intro m
  induction m with
  | zero => intro x0 x1 M z h; cases h
  | succ m ih =>
    intro x0 x1 M z h
    rw [f_Table_empty_2] at h
    refine e_iload_n d_Table_empty_2 rfl ?_
    refine e_bipush (v := 8) d_Table_empty_3 (by decide) ?_
    refine e_ic_ge 19 d_Table_empty_5 (by decide) (fun c1 => ?_) (fun c1 => ?_)
    · replace h := ift c1 h
      cases h
      exact e_vret d_Table_empty_19 rfl (Nat.le_refl _) (Nat.le_refl _)
    · replace h := ifn c1 h
      refine e_aload_n d_Table_empty_8 rfl ?_
      refine e_iload_n d_Table_empty_9 rfl ?_
      obtain ⟨M2, hM2, h⟩ := bnd h
      refine e_cVv (mt1 := m_Table_take) (As := [.int x1]) (st := []) d_Table_empty_10 ml_Table_32 mv_Table_take (t_Table_take n x0 x1 M M2 hM2) (fc_Table_take hM2) rfl rfl rfl (okp rfl) (okp rfl) (okp rfl) (Nat.le_refl _) (Nat.le_refl _) ?_
      refine e_iinc (v := x1 + 1) (l2 := [some (.ref x0), some (.int (x1 + 1))]) d_Table_empty_13 rfl rfl rfl (okl rfl) rfl ?_
      refine e_goto 2 d_Table_empty_16 (by decide) ?_
      exact (ih x0 (x1 + 1) M2 z h).less (show LSub _ _ from ⟨rfl, ⟨rfl, trivial⟩⟩)
def f_Table_empty (n : Nat) (x0 : Nat) (M : MM) : Option (MM) :=
  og 9 x0 M <|
  f_Table_empty_2 n n x0 0 M
theorem fc_Table_empty {n : Nat} {x0 : Nat} {M : MM} {z : MM} (h : f_Table_empty n x0 M = some z) : (M.1.2.1 x0).1 = 9 := by
  unfold f_Table_empty at h
  exact (og_s h).1
theorem t_Table_empty (n : Nat) (x0 : Nat) (M : MM) (z : MM) (h : f_Table_empty n x0 M = some z) : CT m_Table_empty (rm 3 0 0) [.ref x0] M none z := by
  unfold f_Table_empty at h
  obtain ⟨hthis, h⟩ := og_s h
  refine CT.of (ls := [some (.ref x0), none]) rfl (okp rfl) rfl ?_
  refine e_iconst (v := 0) d_Table_empty_0 (by decide) ?_
  refine e_istore_n (l2 := [some (.ref x0), some (.int 0)]) d_Table_empty_1 rfl (okl rfl) rfl ?_
  exact (t_Table_empty_2 n n x0 0 M z h).less (show LSub _ _ from ⟨rfl, ⟨rfl, trivial⟩⟩)
theorem d_Table_unite_0 : DC m_Table_unite 0 (.aload_n 1) 1 1 := ⟨by decide +kernel, rfl⟩
theorem d_Table_unite_1 : DC m_Table_unite 1 (.invokevirtual 54) 3 4 := ⟨by decide +kernel, rfl⟩
theorem d_Table_unite_4 : DC m_Table_unite 4 (.iconst 0) 1 5 := ⟨by decide +kernel, rfl⟩
theorem d_Table_unite_5 : DC m_Table_unite 5 (.istore_n 2) 1 6 := ⟨by decide +kernel, rfl⟩
theorem d_Table_unite_6 : DC m_Table_unite 6 (.iload_n 2) 1 7 := ⟨by decide +kernel, rfl⟩
theorem d_Table_unite_7 : DC m_Table_unite 7 (.bipush 8) 2 9 := ⟨by decide +kernel, rfl⟩
theorem d_Table_unite_9 : DC m_Table_unite 9 (.if_icmp .ge 19) 3 12 := ⟨by decide +kernel, rfl⟩
theorem d_Table_unite_12 : DC m_Table_unite 12 (.aload_n 1) 1 13 := ⟨by decide +kernel, rfl⟩
theorem d_Table_unite_13 : DC m_Table_unite 13 (.aload_n 0) 1 14 := ⟨by decide +kernel, rfl⟩
theorem d_Table_unite_14 : DC m_Table_unite 14 (.getfield 11) 3 17 := ⟨by decide +kernel, rfl⟩
theorem d_Table_unite_17 : DC m_Table_unite 17 (.iload_n 2) 1 18 := ⟨by decide +kernel, rfl⟩
theorem d_Table_unite_18 : DC m_Table_unite 18 .aaload 1 19 := ⟨by decide +kernel, rfl⟩
theorem d_Table_unite_19 : DC m_Table_unite 19 (.invokevirtual 86) 3 22 := ⟨by decide +kernel, rfl⟩
theorem d_Table_unite_22 : DC m_Table_unite 22 (.iinc 2 1) 3 25 := ⟨by decide +kernel, rfl⟩
theorem d_Table_unite_25 : DC m_Table_unite 25 (.goto (-19)) 3 28 := ⟨by decide +kernel, rfl⟩
theorem d_Table_unite_28 : DC m_Table_unite 28 .return_ 1 29 := ⟨by decide +kernel, rfl⟩
def f_Table_unite_6 (n : Nat) : Nat → Nat → Nat → Int32 → MM → Option (MM)
  | 0, _, _, _, _ => none
  | m + 1, x0, x1, x2, M =>
    if 8 ≤ x2 then
      some M
    else
      (gR 9 0 x0 M).bind fun v2 =>
      (aR 104 v2 x2 M).bind fun v3 =>
      (f_Shape_join n x1 v3 M).bind fun M4 =>
      f_Table_unite_6 n m x0 x1 (x2 + 1) M4
theorem t_Table_unite_6 (n : Nat) : ∀ (m : Nat) (x0 : Nat) (x1 : Nat) (x2 : Int32) (M : MM) (z : MM), f_Table_unite_6 n m x0 x1 x2 M = some z → EV m_Table_unite (rm 2 0 0) none z 0 0 6 [some (.ref x0), some (.ref x1), some (.int x2)] [] M := by
  intro m
  induction m with
  | zero => intro x0 x1 x2 M z h; cases h
  | succ m ih =>
    intro x0 x1 x2 M z h
    rw [f_Table_unite_6] at h
    refine e_iload_n d_Table_unite_6 rfl ?_
    refine e_bipush (v := 8) d_Table_unite_7 (by decide) ?_
    refine e_ic_ge 28 d_Table_unite_9 (by decide) (fun c1 => ?_) (fun c1 => ?_)
    · replace h := ift c1 h
      cases h
      exact e_vret d_Table_unite_28 rfl (Nat.le_refl _) (Nat.le_refl _)
    · replace h := ifn c1 h
      refine e_aload_n d_Table_unite_12 rfl ?_
      refine e_aload_n d_Table_unite_13 rfl ?_
      obtain ⟨v2, hv2, h⟩ := bnd h
      refine e_getR d_Table_unite_14 fl_Table_11 (fun _ _ _ => rfl) hv2 ?_
      refine e_iload_n d_Table_unite_17 rfl ?_
      obtain ⟨v3, hv3, h⟩ := bnd h
      refine e_aald (kd := 104) d_Table_unite_18 (by decide) hv3 ?_
      obtain ⟨M4, hM4, h⟩ := bnd h
      refine e_cVv (mt1 := m_Shape_join) (As := [.ref v3]) (st := []) d_Table_unite_19 ml_Table_86 mv_Shape_join (t_Shape_join n x1 v3 M M4 hM4) (fc_Shape_join hM4) rfl rfl rfl (okp rfl) (okp rfl) (okp rfl) (Nat.le_refl _) (Nat.le_refl _) ?_
      refine e_iinc (v := x2 + 1) (l2 := [some (.ref x0), some (.ref x1), some (.int (x2 + 1))]) d_Table_unite_22 rfl rfl rfl (okl rfl) rfl ?_
      refine e_goto 6 d_Table_unite_25 (by decide) ?_
      exact (ih x0 x1 (x2 + 1) M4 z h).less (show LSub _ _ from ⟨rfl, ⟨rfl, ⟨rfl, trivial⟩⟩⟩)
def f_Table_unite (n : Nat) (x0 : Nat) (x1 : Nat) (M : MM) : Option (MM) :=
  og 9 x0 M <|
  (f_Shape_clear n x1 M).bind fun M5 =>
  f_Table_unite_6 n n x0 x1 0 M5
theorem fc_Table_unite {n : Nat} {x0 : Nat} {x1 : Nat} {M : MM} {z : MM} (h : f_Table_unite n x0 x1 M = some z) : (M.1.2.1 x0).1 = 9 := by
  unfold f_Table_unite at h
  exact (og_s h).1
theorem t_Table_unite (n : Nat) (x0 : Nat) (x1 : Nat) (M : MM) (z : MM) (h : f_Table_unite n x0 x1 M = some z) : CT m_Table_unite (rm 2 0 0) [.ref x0, .ref x1] M none z := by
  unfold f_Table_unite at h
  obtain ⟨hthis, h⟩ := og_s h
  refine CT.of (ls := [some (.ref x0), some (.ref x1), none]) rfl (okp rfl) rfl ?_
  refine e_aload_n d_Table_unite_0 rfl ?_
  obtain ⟨M5, hM5, h⟩ := bnd h
  refine e_cVv (mt1 := m_Shape_clear) (As := []) (st := []) d_Table_unite_1 ml_Table_54 mv_Shape_clear (t_Shape_clear n x1 M M5 hM5) (fc_Shape_clear hM5) rfl rfl rfl (okp rfl) (okp rfl) (okp rfl) (Nat.le_refl _) (Nat.le_refl _) ?_
  refine e_iconst (v := 0) d_Table_unite_4 (by decide) ?_
  refine e_istore_n (l2 := [some (.ref x0), some (.ref x1), some (.int 0)]) d_Table_unite_5 rfl (okl rfl) rfl ?_
  exact (t_Table_unite_6 n n x0 x1 0 M5 z h).less (show LSub _ _ from ⟨rfl, ⟨rfl, ⟨rfl, trivial⟩⟩⟩)
theorem d_Table_holdsBoard_0 : DC m_Table_holdsBoard 0 (.iload_n 1) 1 1 := ⟨by decide +kernel, rfl⟩
theorem d_Table_holdsBoard_1 : DC m_Table_holdsBoard 1 (.ifCond .lt 23) 3 4 := ⟨by decide +kernel, rfl⟩
theorem d_Table_holdsBoard_4 : DC m_Table_holdsBoard 4 (.iload_n 1) 1 5 := ⟨by decide +kernel, rfl⟩
theorem d_Table_holdsBoard_5 : DC m_Table_holdsBoard 5 (.bipush 8) 2 7 := ⟨by decide +kernel, rfl⟩
theorem d_Table_holdsBoard_7 : DC m_Table_holdsBoard 7 (.if_icmp .ge 17) 3 10 := ⟨by decide +kernel, rfl⟩
theorem d_Table_holdsBoard_10 : DC m_Table_holdsBoard 10 (.aload_n 0) 1 11 := ⟨by decide +kernel, rfl⟩
theorem d_Table_holdsBoard_11 : DC m_Table_holdsBoard 11 (.getfield 17) 3 14 := ⟨by decide +kernel, rfl⟩
theorem d_Table_holdsBoard_14 : DC m_Table_holdsBoard 14 (.iload_n 1) 1 15 := ⟨by decide +kernel, rfl⟩
theorem d_Table_holdsBoard_15 : DC m_Table_holdsBoard 15 .iaload 1 16 := ⟨by decide +kernel, rfl⟩
theorem d_Table_holdsBoard_16 : DC m_Table_holdsBoard 16 (.iconst (-1)) 1 17 := ⟨by decide +kernel, rfl⟩
theorem d_Table_holdsBoard_17 : DC m_Table_holdsBoard 17 (.if_icmp .eq 7) 3 20 := ⟨by decide +kernel, rfl⟩
theorem d_Table_holdsBoard_20 : DC m_Table_holdsBoard 20 (.iconst 1) 1 21 := ⟨by decide +kernel, rfl⟩
theorem d_Table_holdsBoard_21 : DC m_Table_holdsBoard 21 (.goto 4) 3 24 := ⟨by decide +kernel, rfl⟩
theorem d_Table_holdsBoard_24 : DC m_Table_holdsBoard 24 (.iconst 0) 1 25 := ⟨by decide +kernel, rfl⟩
theorem d_Table_holdsBoard_25 : DC m_Table_holdsBoard 25 .ireturn 1 26 := ⟨by decide +kernel, rfl⟩
def f_Table_holdsBoard (n : Nat) (x0 : Nat) (x1 : Int32) (M : MM) : Option (Int32 × MM) :=
  og 9 x0 M <|
  if x1 < 0 then
    some (0, M)
  else
    if 8 ≤ x1 then
      some (0, M)
    else
      (gR 9 1 x0 M).bind fun v3 =>
      (aI 100 v3 x1 M).bind fun v4 =>
      if v4 = (-1) then
        some (0, M)
      else
        some (1, M)
theorem fc_Table_holdsBoard {n : Nat} {x0 : Nat} {x1 : Int32} {M : MM} {z : Int32 × MM} (h : f_Table_holdsBoard n x0 x1 M = some z) : (M.1.2.1 x0).1 = 9 := by
  unfold f_Table_holdsBoard at h
  exact (og_s h).1
theorem t_Table_holdsBoard (n : Nat) (x0 : Nat) (x1 : Int32) (M : MM) (z : Int32 × MM) (h : f_Table_holdsBoard n x0 x1 M = some z) : CT m_Table_holdsBoard (rm 1 0 0) [.ref x0, .int x1] M (some (.int z.1)) z.2 := by
  unfold f_Table_holdsBoard at h
  obtain ⟨hthis, h⟩ := og_s h
  refine CT.of (ls := [some (.ref x0), some (.int x1)]) rfl (okp rfl) rfl ?_
  refine e_iload_n d_Table_holdsBoard_0 rfl ?_
  refine e_if_lt 24 d_Table_holdsBoard_1 (by decide) (fun c1 => ?_) (fun c1 => ?_)
  · replace h := ift c1 h
    refine e_iconst (v := 0) d_Table_holdsBoard_24 (by decide) ?_
    cases h
    exact e_zret (ty := .boolean) d_Table_holdsBoard_25 rfl narZ0 (Nat.le_refl _) (Nat.le_refl _)
  · replace h := ifn c1 h
    refine e_iload_n d_Table_holdsBoard_4 rfl ?_
    refine e_bipush (v := 8) d_Table_holdsBoard_5 (by decide) ?_
    refine e_ic_ge 24 d_Table_holdsBoard_7 (by decide) (fun c2 => ?_) (fun c2 => ?_)
    · replace h := ift c2 h
      refine e_iconst (v := 0) d_Table_holdsBoard_24 (by decide) ?_
      cases h
      exact e_zret (ty := .boolean) d_Table_holdsBoard_25 rfl narZ0 (Nat.le_refl _) (Nat.le_refl _)
    · replace h := ifn c2 h
      refine e_aload_n d_Table_holdsBoard_10 rfl ?_
      obtain ⟨v3, hv3, h⟩ := bnd h
      refine e_getR d_Table_holdsBoard_11 fl_Table_17 (fun _ _ _ => rfl) hv3 ?_
      refine e_iload_n d_Table_holdsBoard_14 rfl ?_
      obtain ⟨v4, hv4, h⟩ := bnd h
      refine e_iald d_Table_holdsBoard_15 hv4 ?_
      refine e_iconst (v := (-1)) d_Table_holdsBoard_16 (by decide) ?_
      refine e_ic_eq 24 d_Table_holdsBoard_17 (by decide) (fun c5 => ?_) (fun c5 => ?_)
      · replace h := ift c5 h
        refine e_iconst (v := 0) d_Table_holdsBoard_24 (by decide) ?_
        cases h
        exact e_zret (ty := .boolean) d_Table_holdsBoard_25 rfl narZ0 (Nat.le_refl _) (Nat.le_refl _)
      · replace h := ifn c5 h
        refine e_iconst (v := 1) d_Table_holdsBoard_20 (by decide) ?_
        refine e_goto 25 d_Table_holdsBoard_21 (by decide) ?_
        cases h
        exact e_zret (ty := .boolean) d_Table_holdsBoard_25 rfl narZ1 (Nat.le_refl _) (Nat.le_refl _)
theorem d_Table_put_0 : DC m_Table_put 0 (.aload_n 0) 1 1 := ⟨by decide +kernel, rfl⟩
theorem d_Table_put_1 : DC m_Table_put 1 (.getfield 11) 3 4 := ⟨by decide +kernel, rfl⟩
theorem d_Table_put_4 : DC m_Table_put 4 (.iload_n 1) 1 5 := ⟨by decide +kernel, rfl⟩
theorem d_Table_put_5 : DC m_Table_put 5 .aaload 1 6 := ⟨by decide +kernel, rfl⟩
theorem d_Table_put_6 : DC m_Table_put 6 (.aload_n 2) 1 7 := ⟨by decide +kernel, rfl⟩
theorem d_Table_put_7 : DC m_Table_put 7 (.getfield 36) 3 10 := ⟨by decide +kernel, rfl⟩
theorem d_Table_put_10 : DC m_Table_put 10 (.iload_n 3) 1 11 := ⟨by decide +kernel, rfl⟩
theorem d_Table_put_11 : DC m_Table_put 11 .aaload 1 12 := ⟨by decide +kernel, rfl⟩
theorem d_Table_put_12 : DC m_Table_put 12 (.iload 4) 2 14 := ⟨by decide +kernel, rfl⟩
theorem d_Table_put_14 : DC m_Table_put 14 (.iload 5) 2 16 := ⟨by decide +kernel, rfl⟩
theorem d_Table_put_16 : DC m_Table_put 16 (.invokevirtual 41) 3 19 := ⟨by decide +kernel, rfl⟩
theorem d_Table_put_19 : DC m_Table_put 19 (.aload_n 0) 1 20 := ⟨by decide +kernel, rfl⟩
theorem d_Table_put_20 : DC m_Table_put 20 (.getfield 17) 3 23 := ⟨by decide +kernel, rfl⟩
theorem d_Table_put_23 : DC m_Table_put 23 (.iload_n 1) 1 24 := ⟨by decide +kernel, rfl⟩
theorem d_Table_put_24 : DC m_Table_put 24 (.aload_n 2) 1 25 := ⟨by decide +kernel, rfl⟩
theorem d_Table_put_25 : DC m_Table_put 25 (.getfield 45) 3 28 := ⟨by decide +kernel, rfl⟩
theorem d_Table_put_28 : DC m_Table_put 28 (.iload_n 3) 1 29 := ⟨by decide +kernel, rfl⟩
theorem d_Table_put_29 : DC m_Table_put 29 .iaload 1 30 := ⟨by decide +kernel, rfl⟩
theorem d_Table_put_30 : DC m_Table_put 30 (.iload 4) 2 32 := ⟨by decide +kernel, rfl⟩
theorem d_Table_put_32 : DC m_Table_put 32 (.iload 5) 2 34 := ⟨by decide +kernel, rfl⟩
theorem d_Table_put_34 : DC m_Table_put 34 (.invokestatic 48) 3 37 := ⟨by decide +kernel, rfl⟩
theorem d_Table_put_37 : DC m_Table_put 37 .iastore 1 38 := ⟨by decide +kernel, rfl⟩
theorem d_Table_put_38 : DC m_Table_put 38 .return_ 1 39 := ⟨by decide +kernel, rfl⟩
def f_Table_put (n : Nat) (x0 : Nat) (x1 : Int32) (x2 : Nat) (x3 : Int32) (x4 : Int32) (x5 : Int32) (M : MM) : Option (MM) :=
  og 9 x0 M <|
  (gR 9 0 x0 M).bind fun v1 =>
  (aR 104 v1 x1 M).bind fun v2 =>
  (gR 4 1 x2 M).bind fun v3 =>
  (aR 104 v3 x3 M).bind fun v4 =>
  (f_Shape_becomeShifted n v2 v4 x4 x5 M).bind fun M5 =>
  (gR 9 1 x0 M5).bind fun v6 =>
  (gR 4 5 x2 M5).bind fun v7 =>
  (aI 100 v7 x3 M5).bind fun v8 =>
  (f_Filler_layCode n v8 x4 x5 M5).bind fun p9 =>
  (sI 100 v6 x1 p9.1 p9.2).bind fun M10 =>
  some M10
theorem fc_Table_put {n : Nat} {x0 : Nat} {x1 : Int32} {x2 : Nat} {x3 : Int32} {x4 : Int32} {x5 : Int32} {M : MM} {z : MM} (h : f_Table_put n x0 x1 x2 x3 x4 x5 M = some z) : (M.1.2.1 x0).1 = 9 := by
  unfold f_Table_put at h
  exact (og_s h).1
theorem t_Table_put (n : Nat) (x0 : Nat) (x1 : Int32) (x2 : Nat) (x3 : Int32) (x4 : Int32) (x5 : Int32) (M : MM) (z : MM) (h : f_Table_put n x0 x1 x2 x3 x4 x5 M = some z) : CT m_Table_put (rm 3 0 0) [.ref x0, .int x1, .ref x2, .int x3, .int x4, .int x5] M none z := by
  unfold f_Table_put at h
  obtain ⟨hthis, h⟩ := og_s h
  refine CT.of (ls := [some (.ref x0), some (.int x1), some (.ref x2), some (.int x3), some (.int x4), some (.int x5)]) rfl (okp rfl) rfl ?_
  refine e_aload_n d_Table_put_0 rfl ?_
  obtain ⟨v1, hv1, h⟩ := bnd h
  refine e_getR d_Table_put_1 fl_Table_11 (fun _ _ _ => rfl) hv1 ?_
  refine e_iload_n d_Table_put_4 rfl ?_
  obtain ⟨v2, hv2, h⟩ := bnd h
  refine e_aald (kd := 104) d_Table_put_5 (by decide) hv2 ?_
  refine e_aload_n d_Table_put_6 rfl ?_
  obtain ⟨v3, hv3, h⟩ := bnd h
  refine e_getR d_Table_put_7 fl_Table_36 (fun _ _ _ => rfl) hv3 ?_
  refine e_iload_n d_Table_put_10 rfl ?_
  obtain ⟨v4, hv4, h⟩ := bnd h
  refine e_aald (kd := 104) d_Table_put_11 (by decide) hv4 ?_
  refine e_iload d_Table_put_12 rfl ?_
  refine e_iload d_Table_put_14 rfl ?_
  obtain ⟨M5, hM5, h⟩ := bnd h
  refine e_cVv (mt1 := m_Shape_becomeShifted) (As := [.ref v4, .int x4, .int x5]) (st := []) d_Table_put_16 ml_Table_41 mv_Shape_becomeShifted (t_Shape_becomeShifted n v2 v4 x4 x5 M M5 hM5) (fc_Shape_becomeShifted hM5) rfl rfl rfl (okp rfl) (okp rfl) (okp rfl) (Nat.le_refl _) (Nat.le_refl _) ?_
  refine e_aload_n d_Table_put_19 rfl ?_
  obtain ⟨v6, hv6, h⟩ := bnd h
  refine e_getR d_Table_put_20 fl_Table_17 (fun _ _ _ => rfl) hv6 ?_
  refine e_iload_n d_Table_put_23 rfl ?_
  refine e_aload_n d_Table_put_24 rfl ?_
  obtain ⟨v7, hv7, h⟩ := bnd h
  refine e_getR d_Table_put_25 fl_Table_45 (fun _ _ _ => rfl) hv7 ?_
  refine e_iload_n d_Table_put_28 rfl ?_
  obtain ⟨v8, hv8, h⟩ := bnd h
  refine e_iald d_Table_put_29 hv8 ?_
  refine e_iload d_Table_put_30 rfl ?_
  refine e_iload d_Table_put_32 rfl ?_
  obtain ⟨p9, hp9, h⟩ := bnd h
  refine e_cSi (mt1 := m_Filler_layCode) (As := [.int v8, .int x4, .int x5]) (st := [.int x1, .ref v6]) d_Table_put_34 ml_Table_48 ms_Filler_layCode (t_Filler_layCode n v8 x4 x5 M5 p9 hp9) rfl rfl (okp rfl) (okp rfl) (okp rfl) (Nat.le_refl _) (Nat.le_refl _) ?_
  obtain ⟨M10, hM10, h⟩ := bnd h
  refine e_iast d_Table_put_37 hM10 ?_
  cases h
  exact e_vret d_Table_put_38 rfl (Nat.le_refl _) (Nat.le_refl _)
theorem d_Table_boardsLaid_0 : DC m_Table_boardsLaid 0 (.iconst 0) 1 1 := ⟨by decide +kernel, rfl⟩
theorem d_Table_boardsLaid_1 : DC m_Table_boardsLaid 1 (.istore_n 1) 1 2 := ⟨by decide +kernel, rfl⟩
theorem d_Table_boardsLaid_2 : DC m_Table_boardsLaid 2 (.iconst 0) 1 3 := ⟨by decide +kernel, rfl⟩
theorem d_Table_boardsLaid_3 : DC m_Table_boardsLaid 3 (.istore_n 2) 1 4 := ⟨by decide +kernel, rfl⟩
theorem d_Table_boardsLaid_4 : DC m_Table_boardsLaid 4 (.iload_n 2) 1 5 := ⟨by decide +kernel, rfl⟩
theorem d_Table_boardsLaid_5 : DC m_Table_boardsLaid 5 (.bipush 8) 2 7 := ⟨by decide +kernel, rfl⟩
theorem d_Table_boardsLaid_7 : DC m_Table_boardsLaid 7 (.if_icmp .ge 27) 3 10 := ⟨by decide +kernel, rfl⟩
theorem d_Table_boardsLaid_10 : DC m_Table_boardsLaid 10 (.iload_n 1) 1 11 := ⟨by decide +kernel, rfl⟩
theorem d_Table_boardsLaid_11 : DC m_Table_boardsLaid 11 (.aload_n 0) 1 12 := ⟨by decide +kernel, rfl⟩
theorem d_Table_boardsLaid_12 : DC m_Table_boardsLaid 12 (.iload_n 2) 1 13 := ⟨by decide +kernel, rfl⟩
theorem d_Table_boardsLaid_13 : DC m_Table_boardsLaid 13 (.invokevirtual 79) 3 16 := ⟨by decide +kernel, rfl⟩
theorem d_Table_boardsLaid_16 : DC m_Table_boardsLaid 16 (.ifCond .eq 9) 3 19 := ⟨by decide +kernel, rfl⟩
theorem d_Table_boardsLaid_19 : DC m_Table_boardsLaid 19 (.iconst 1) 1 20 := ⟨by decide +kernel, rfl⟩
theorem d_Table_boardsLaid_20 : DC m_Table_boardsLaid 20 (.iload_n 2) 1 21 := ⟨by decide +kernel, rfl⟩
theorem d_Table_boardsLaid_21 : DC m_Table_boardsLaid 21 .ishl 1 22 := ⟨by decide +kernel, rfl⟩
theorem d_Table_boardsLaid_22 : DC m_Table_boardsLaid 22 (.goto 4) 3 25 := ⟨by decide +kernel, rfl⟩
theorem d_Table_boardsLaid_25 : DC m_Table_boardsLaid 25 (.iconst 0) 1 26 := ⟨by decide +kernel, rfl⟩
theorem d_Table_boardsLaid_26 : DC m_Table_boardsLaid 26 .ior 1 27 := ⟨by decide +kernel, rfl⟩
theorem d_Table_boardsLaid_27 : DC m_Table_boardsLaid 27 (.istore_n 1) 1 28 := ⟨by decide +kernel, rfl⟩
theorem d_Table_boardsLaid_28 : DC m_Table_boardsLaid 28 (.iinc 2 1) 3 31 := ⟨by decide +kernel, rfl⟩
theorem d_Table_boardsLaid_31 : DC m_Table_boardsLaid 31 (.goto (-27)) 3 34 := ⟨by decide +kernel, rfl⟩
theorem d_Table_boardsLaid_34 : DC m_Table_boardsLaid 34 (.iload_n 1) 1 35 := ⟨by decide +kernel, rfl⟩
theorem d_Table_boardsLaid_35 : DC m_Table_boardsLaid 35 .ireturn 1 36 := ⟨by decide +kernel, rfl⟩
def f_Table_boardsLaid_26 (n : Nat) (k_4 : Nat → Int32 → Int32 → MM → Option (Int32 × MM)) (x0 : Nat) (x2 : Int32) (s0 : Int32) (s1 : Int32) (M : MM) : Option (Int32 × MM) :=
  nm (α := Int32) (s0 ||| s1) fun y1 =>
  k_4 x0 y1 (x2 + 1) M
theorem t_Table_boardsLaid_26 (n : Nat) {k_4 : Nat → Int32 → Int32 → MM → Option (Int32 × MM)} (hk_4 : ∀ (x0 : Nat) (x1 : Int32) (x2 : Int32) (M : MM) (z : Int32 × MM), k_4 x0 x1 x2 M = some z → EV m_Table_boardsLaid (rm 2 0 0) (some (.int z.1)) z.2 0 0 4 [some (.ref x0), some (.int x1), some (.int x2)] [] M) (x0 : Nat) (x2 : Int32) (s0 : Int32) (s1 : Int32) (M : MM) (z : Int32 × MM) (h : f_Table_boardsLaid_26 n k_4 x0 x2 s0 s1 M = some z) : EV m_Table_boardsLaid (rm 2 0 0) (some (.int z.1)) z.2 0 0 26 [some (.ref x0), none, some (.int x2)] [.int s1, .int s0] M := by
  unfold f_Table_boardsLaid_26 at h
  refine e_ior d_Table_boardsLaid_26 ?_
  obtain ⟨y1, ey1, h⟩ := nm_s h
  refine e_nameI ey1 ?_
  refine e_istore_n (l2 := [some (.ref x0), some (.int y1), some (.int x2)]) d_Table_boardsLaid_27 rfl (okl rfl) rfl ?_
  refine e_iinc (v := x2 + 1) (l2 := [some (.ref x0), some (.int y1), some (.int (x2 + 1))]) d_Table_boardsLaid_28 rfl rfl rfl (okl rfl) rfl ?_
  refine e_goto 4 d_Table_boardsLaid_31 (by decide) ?_
  exact (hk_4 x0 y1 (x2 + 1) M z h).less (show LSub _ _ from ⟨rfl, ⟨rfl, ⟨rfl, trivial⟩⟩⟩)
def f_Table_boardsLaid_4 (n : Nat) : Nat → Nat → Int32 → Int32 → MM → Option (Int32 × MM)
  | 0, _, _, _, _ => none
  | m + 1, x0, x1, x2, M =>
    if 8 ≤ x2 then
      some (x1, M)
    else
      (f_Table_holdsBoard n x0 x2 M).bind fun p3 =>
      if p3.1 = 0 then
        f_Table_boardsLaid_26 n (f_Table_boardsLaid_4 n m) x0 x2 x1 0 p3.2
      else
        f_Table_boardsLaid_26 n (f_Table_boardsLaid_4 n m) x0 x2 x1 (ishl 1 x2) p3.2
theorem t_Table_boardsLaid_4 (n : Nat) : ∀ (m : Nat) (x0 : Nat) (x1 : Int32) (x2 : Int32) (M : MM) (z : Int32 × MM), f_Table_boardsLaid_4 n m x0 x1 x2 M = some z → EV m_Table_boardsLaid (rm 2 0 0) (some (.int z.1)) z.2 0 0 4 [some (.ref x0), some (.int x1), some (.int x2)] [] M := by
  intro m
  induction m with
  | zero => intro x0 x1 x2 M z h; cases h
  | succ m ih =>
    intro x0 x1 x2 M z h
    rw [f_Table_boardsLaid_4] at h
    refine e_iload_n d_Table_boardsLaid_4 rfl ?_
    refine e_bipush (v := 8) d_Table_boardsLaid_5 (by decide) ?_
    refine e_ic_ge 34 d_Table_boardsLaid_7 (by decide) (fun c2 => ?_) (fun c2 => ?_)
    · replace h := ift c2 h
      refine e_iload_n d_Table_boardsLaid_34 rfl ?_
      cases h
      exact e_iret d_Table_boardsLaid_35 rfl (Nat.le_refl _) (Nat.le_refl _)
    · replace h := ifn c2 h
      refine e_iload_n d_Table_boardsLaid_10 rfl ?_
      refine e_aload_n d_Table_boardsLaid_11 rfl ?_
      refine e_iload_n d_Table_boardsLaid_12 rfl ?_
      obtain ⟨p3, hp3, h⟩ := bnd h
      refine e_cVi (mt1 := m_Table_holdsBoard) (As := [.int x2]) (st := [.int x1]) d_Table_boardsLaid_13 ml_Table_79 mv_Table_holdsBoard (t_Table_holdsBoard n x0 x2 M p3 hp3) (fc_Table_holdsBoard hp3) rfl rfl rfl (okp rfl) (okp rfl) (okp rfl) (Nat.le_refl _) (Nat.le_refl _) ?_
      refine e_if_eq 25 d_Table_boardsLaid_16 (by decide) (fun c4 => ?_) (fun c4 => ?_)
      · replace h := ift c4 h
        refine e_iconst (v := 0) d_Table_boardsLaid_25 (by decide) ?_
        exact (t_Table_boardsLaid_26 n ih x0 x2 x1 0 p3.2 z h).less (show LSub _ _ from ⟨rfl, ⟨rfl, trivial⟩⟩)
      · replace h := ifn c4 h
        refine e_iconst (v := 1) d_Table_boardsLaid_19 (by decide) ?_
        refine e_iload_n d_Table_boardsLaid_20 rfl ?_
        refine e_ishl d_Table_boardsLaid_21 ?_
        refine e_goto 26 d_Table_boardsLaid_22 (by decide) ?_
        exact (t_Table_boardsLaid_26 n ih x0 x2 x1 (ishl 1 x2) p3.2 z h).less (show LSub _ _ from ⟨rfl, ⟨rfl, trivial⟩⟩)
def f_Table_boardsLaid (n : Nat) (x0 : Nat) (M : MM) : Option (Int32 × MM) :=
  og 9 x0 M <|
  f_Table_boardsLaid_4 n n x0 0 0 M
theorem fc_Table_boardsLaid {n : Nat} {x0 : Nat} {M : MM} {z : Int32 × MM} (h : f_Table_boardsLaid n x0 M = some z) : (M.1.2.1 x0).1 = 9 := by
  unfold f_Table_boardsLaid at h
  exact (og_s h).1
theorem t_Table_boardsLaid (n : Nat) (x0 : Nat) (M : MM) (z : Int32 × MM) (h : f_Table_boardsLaid n x0 M = some z) : CT m_Table_boardsLaid (rm 2 0 0) [.ref x0] M (some (.int z.1)) z.2 := by
  unfold f_Table_boardsLaid at h
  obtain ⟨hthis, h⟩ := og_s h
  refine CT.of (ls := [some (.ref x0), none, none]) rfl (okp rfl) rfl ?_
  refine e_iconst (v := 0) d_Table_boardsLaid_0 (by decide) ?_
  refine e_istore_n (l2 := [some (.ref x0), some (.int 0), none]) d_Table_boardsLaid_1 rfl (okl rfl) rfl ?_
  refine e_iconst (v := 0) d_Table_boardsLaid_2 (by decide) ?_
  refine e_istore_n (l2 := [some (.ref x0), some (.int 0), some (.int 0)]) d_Table_boardsLaid_3 rfl (okl rfl) rfl ?_
  exact (t_Table_boardsLaid_4 n n x0 0 0 M z h).less (show LSub _ _ from ⟨rfl, ⟨rfl, ⟨rfl, trivial⟩⟩⟩)
theorem d_Table_countLays_0 : DC m_Table_countLays 0 (.aload_n 0) 1 1 := ⟨by decide +kernel, rfl⟩
theorem d_Table_countLays_1 : DC m_Table_countLays 1 (.invokevirtual 69) 3 4 := ⟨by decide +kernel, rfl⟩
theorem d_Table_countLays_4 : DC m_Table_countLays 4 (.invokestatic 73) 3 7 := ⟨by decide +kernel, rfl⟩
theorem d_Table_countLays_7 : DC m_Table_countLays 7 .ireturn 1 8 := ⟨by decide +kernel, rfl⟩
def f_Table_countLays (n : Nat) (x0 : Nat) (M : MM) : Option (Int32 × MM) :=
  og 9 x0 M <|
  (f_Table_boardsLaid n x0 M).bind fun p1 =>
  (f_Integer_bitCount n p1.1 p1.2).bind fun p2 =>
  some (p2.1, p2.2)
theorem fc_Table_countLays {n : Nat} {x0 : Nat} {M : MM} {z : Int32 × MM} (h : f_Table_countLays n x0 M = some z) : (M.1.2.1 x0).1 = 9 := by
  unfold f_Table_countLays at h
  exact (og_s h).1
theorem t_Table_countLays (n : Nat) (x0 : Nat) (M : MM) (z : Int32 × MM) (h : f_Table_countLays n x0 M = some z) : CT m_Table_countLays (rm 3 0 0) [.ref x0] M (some (.int z.1)) z.2 := by
  unfold f_Table_countLays at h
  obtain ⟨hthis, h⟩ := og_s h
  refine CT.of (ls := [some (.ref x0)]) rfl (okp rfl) rfl ?_
  refine e_aload_n d_Table_countLays_0 rfl ?_
  obtain ⟨p1, hp1, h⟩ := bnd h
  refine e_cVi (mt1 := m_Table_boardsLaid) (As := []) (st := []) d_Table_countLays_1 ml_Table_69 mv_Table_boardsLaid (t_Table_boardsLaid n x0 M p1 hp1) (fc_Table_boardsLaid hp1) rfl rfl rfl (okp rfl) (okp rfl) (okp rfl) (Nat.le_refl _) (Nat.le_refl _) ?_
  obtain ⟨p2, hp2, h⟩ := bnd h
  refine e_cSi (mt1 := m_Integer_bitCount) (As := [.int p1.1]) (st := []) d_Table_countLays_4 ml_Table_73 ms_Integer_bitCount (t_Integer_bitCount n p1.1 p1.2 p2 hp2) rfl rfl (okp rfl) (okp rfl) (okp rfl) (Nat.le_refl _) (Nat.le_refl _) ?_
  cases h
  exact e_iret d_Table_countLays_7 rfl (Nat.le_refl _) (Nat.le_refl _)
theorem d_Table_boardOn_0 : DC m_Table_boardOn 0 (.iconst 0) 1 1 := ⟨by decide +kernel, rfl⟩
theorem d_Table_boardOn_1 : DC m_Table_boardOn 1 (.istore_n 2) 1 2 := ⟨by decide +kernel, rfl⟩
theorem d_Table_boardOn_2 : DC m_Table_boardOn 2 (.iload_n 2) 1 3 := ⟨by decide +kernel, rfl⟩
theorem d_Table_boardOn_3 : DC m_Table_boardOn 3 (.bipush 8) 2 5 := ⟨by decide +kernel, rfl⟩
theorem d_Table_boardOn_5 : DC m_Table_boardOn 5 (.if_icmp .ge 24) 3 8 := ⟨by decide +kernel, rfl⟩
theorem d_Table_boardOn_8 : DC m_Table_boardOn 8 (.aload_n 0) 1 9 := ⟨by decide +kernel, rfl⟩
theorem d_Table_boardOn_9 : DC m_Table_boardOn 9 (.getfield 11) 3 12 := ⟨by decide +kernel, rfl⟩
theorem d_Table_boardOn_12 : DC m_Table_boardOn 12 (.iload_n 2) 1 13 := ⟨by decide +kernel, rfl⟩
theorem d_Table_boardOn_13 : DC m_Table_boardOn 13 .aaload 1 14 := ⟨by decide +kernel, rfl⟩
theorem d_Table_boardOn_14 : DC m_Table_boardOn 14 (.iload_n 1) 1 15 := ⟨by decide +kernel, rfl⟩
theorem d_Table_boardOn_15 : DC m_Table_boardOn 15 (.invokevirtual 83) 3 18 := ⟨by decide +kernel, rfl⟩
theorem d_Table_boardOn_18 : DC m_Table_boardOn 18 (.ifCond .eq 5) 3 21 := ⟨by decide +kernel, rfl⟩
theorem d_Table_boardOn_21 : DC m_Table_boardOn 21 (.iload_n 2) 1 22 := ⟨by decide +kernel, rfl⟩
theorem d_Table_boardOn_22 : DC m_Table_boardOn 22 .ireturn 1 23 := ⟨by decide +kernel, rfl⟩
theorem d_Table_boardOn_23 : DC m_Table_boardOn 23 (.iinc 2 1) 3 26 := ⟨by decide +kernel, rfl⟩
theorem d_Table_boardOn_26 : DC m_Table_boardOn 26 (.goto (-24)) 3 29 := ⟨by decide +kernel, rfl⟩
theorem d_Table_boardOn_29 : DC m_Table_boardOn 29 (.bipush (-2)) 2 31 := ⟨by decide +kernel, rfl⟩
theorem d_Table_boardOn_31 : DC m_Table_boardOn 31 .ireturn 1 32 := ⟨by decide +kernel, rfl⟩
def f_Table_boardOn_2 (n : Nat) : Nat → Nat → Int32 → Int32 → MM → Option (Int32 × MM)
  | 0, _, _, _, _ => none
  | m + 1, x0, x1, x2, M =>
    if 8 ≤ x2 then
      some ((-2), M)
    else
      (gR 9 0 x0 M).bind fun v2 =>
      (aR 104 v2 x2 M).bind fun v3 =>
      (f_Shape_holds n v3 x1 M).bind fun p4 =>
      if p4.1 = 0 then
        f_Table_boardOn_2 n m x0 x1 (x2 + 1) p4.2
      else
        some (x2, p4.2)
theorem t_Table_boardOn_2 (n : Nat) : ∀ (m : Nat) (x0 : Nat) (x1 : Int32) (x2 : Int32) (M : MM) (z : Int32 × MM), f_Table_boardOn_2 n m x0 x1 x2 M = some z → EV m_Table_boardOn (rm 2 0 0) (some (.int z.1)) z.2 0 0 2 [some (.ref x0), some (.int x1), some (.int x2)] [] M := by
  intro m
  induction m with
  | zero => intro x0 x1 x2 M z h; cases h
  | succ m ih =>
    intro x0 x1 x2 M z h
    rw [f_Table_boardOn_2] at h
    refine e_iload_n d_Table_boardOn_2 rfl ?_
    refine e_bipush (v := 8) d_Table_boardOn_3 (by decide) ?_
    refine e_ic_ge 29 d_Table_boardOn_5 (by decide) (fun c1 => ?_) (fun c1 => ?_)
    · replace h := ift c1 h
      refine e_bipush (v := (-2)) d_Table_boardOn_29 (by decide) ?_
      cases h
      exact e_iret d_Table_boardOn_31 rfl (Nat.le_refl _) (Nat.le_refl _)
    · replace h := ifn c1 h
      refine e_aload_n d_Table_boardOn_8 rfl ?_
      obtain ⟨v2, hv2, h⟩ := bnd h
      refine e_getR d_Table_boardOn_9 fl_Table_11 (fun _ _ _ => rfl) hv2 ?_
      refine e_iload_n d_Table_boardOn_12 rfl ?_
      obtain ⟨v3, hv3, h⟩ := bnd h
      refine e_aald (kd := 104) d_Table_boardOn_13 (by decide) hv3 ?_
      refine e_iload_n d_Table_boardOn_14 rfl ?_
      obtain ⟨p4, hp4, h⟩ := bnd h
      refine e_cVi (mt1 := m_Shape_holds) (As := [.int x1]) (st := []) d_Table_boardOn_15 ml_Table_83 mv_Shape_holds (t_Shape_holds n v3 x1 M p4 hp4) (fc_Shape_holds hp4) rfl rfl rfl (okp rfl) (okp rfl) (okp rfl) (Nat.le_refl _) (Nat.le_refl _) ?_
      refine e_if_eq 23 d_Table_boardOn_18 (by decide) (fun c5 => ?_) (fun c5 => ?_)
      · replace h := ift c5 h
        refine e_iinc (v := x2 + 1) (l2 := [some (.ref x0), some (.int x1), some (.int (x2 + 1))]) d_Table_boardOn_23 rfl rfl rfl (okl rfl) rfl ?_
        refine e_goto 2 d_Table_boardOn_26 (by decide) ?_
        exact (ih x0 x1 (x2 + 1) p4.2 z h).less (show LSub _ _ from ⟨rfl, ⟨rfl, ⟨rfl, trivial⟩⟩⟩)
      · replace h := ifn c5 h
        refine e_iload_n d_Table_boardOn_21 rfl ?_
        cases h
        exact e_iret d_Table_boardOn_22 rfl (Nat.le_refl _) (Nat.le_refl _)
def f_Table_boardOn (n : Nat) (x0 : Nat) (x1 : Int32) (M : MM) : Option (Int32 × MM) :=
  og 9 x0 M <|
  f_Table_boardOn_2 n n x0 x1 0 M
theorem fc_Table_boardOn {n : Nat} {x0 : Nat} {x1 : Int32} {M : MM} {z : Int32 × MM} (h : f_Table_boardOn n x0 x1 M = some z) : (M.1.2.1 x0).1 = 9 := by
  unfold f_Table_boardOn at h
  exact (og_s h).1
theorem t_Table_boardOn (n : Nat) (x0 : Nat) (x1 : Int32) (M : MM) (z : Int32 × MM) (h : f_Table_boardOn n x0 x1 M = some z) : CT m_Table_boardOn (rm 2 0 0) [.ref x0, .int x1] M (some (.int z.1)) z.2 := by
  unfold f_Table_boardOn at h
  obtain ⟨hthis, h⟩ := og_s h
  refine CT.of (ls := [some (.ref x0), some (.int x1), none]) rfl (okp rfl) rfl ?_
  refine e_iconst (v := 0) d_Table_boardOn_0 (by decide) ?_
  refine e_istore_n (l2 := [some (.ref x0), some (.int x1), some (.int 0)]) d_Table_boardOn_1 rfl (okl rfl) rfl ?_
  exact (t_Table_boardOn_2 n n x0 x1 0 M z h).less (show LSub _ _ from ⟨rfl, ⟨rfl, ⟨rfl, trivial⟩⟩⟩)
theorem d_Table_countClashes_0 : DC m_Table_countClashes 0 (.aload_n 0) 1 1 := ⟨by decide +kernel, rfl⟩
theorem d_Table_countClashes_1 : DC m_Table_countClashes 1 (.getfield 22) 3 4 := ⟨by decide +kernel, rfl⟩
theorem d_Table_countClashes_4 : DC m_Table_countClashes 4 (.invokevirtual 54) 3 7 := ⟨by decide +kernel, rfl⟩
theorem d_Table_countClashes_7 : DC m_Table_countClashes 7 (.aload_n 0) 1 8 := ⟨by decide +kernel, rfl⟩
theorem d_Table_countClashes_8 : DC m_Table_countClashes 8 (.getfield 26) 3 11 := ⟨by decide +kernel, rfl⟩
theorem d_Table_countClashes_11 : DC m_Table_countClashes 11 (.invokevirtual 54) 3 14 := ⟨by decide +kernel, rfl⟩
theorem d_Table_countClashes_14 : DC m_Table_countClashes 14 (.iconst 0) 1 15 := ⟨by decide +kernel, rfl⟩
theorem d_Table_countClashes_15 : DC m_Table_countClashes 15 (.istore_n 1) 1 16 := ⟨by decide +kernel, rfl⟩
theorem d_Table_countClashes_16 : DC m_Table_countClashes 16 (.iload_n 1) 1 17 := ⟨by decide +kernel, rfl⟩
theorem d_Table_countClashes_17 : DC m_Table_countClashes 17 (.bipush 8) 2 19 := ⟨by decide +kernel, rfl⟩
theorem d_Table_countClashes_19 : DC m_Table_countClashes 19 (.if_icmp .ge 57) 3 22 := ⟨by decide +kernel, rfl⟩
theorem d_Table_countClashes_22 : DC m_Table_countClashes 22 (.aload_n 0) 1 23 := ⟨by decide +kernel, rfl⟩
theorem d_Table_countClashes_23 : DC m_Table_countClashes 23 (.getfield 29) 3 26 := ⟨by decide +kernel, rfl⟩
theorem d_Table_countClashes_26 : DC m_Table_countClashes 26 (.aload_n 0) 1 27 := ⟨by decide +kernel, rfl⟩
theorem d_Table_countClashes_27 : DC m_Table_countClashes 27 (.getfield 11) 3 30 := ⟨by decide +kernel, rfl⟩
theorem d_Table_countClashes_30 : DC m_Table_countClashes 30 (.iload_n 1) 1 31 := ⟨by decide +kernel, rfl⟩
theorem d_Table_countClashes_31 : DC m_Table_countClashes 31 .aaload 1 32 := ⟨by decide +kernel, rfl⟩
theorem d_Table_countClashes_32 : DC m_Table_countClashes 32 (.invokevirtual 90) 3 35 := ⟨by decide +kernel, rfl⟩
theorem d_Table_countClashes_35 : DC m_Table_countClashes 35 (.aload_n 0) 1 36 := ⟨by decide +kernel, rfl⟩
theorem d_Table_countClashes_36 : DC m_Table_countClashes 36 (.getfield 29) 3 39 := ⟨by decide +kernel, rfl⟩
theorem d_Table_countClashes_39 : DC m_Table_countClashes 39 (.aload_n 0) 1 40 := ⟨by decide +kernel, rfl⟩
theorem d_Table_countClashes_40 : DC m_Table_countClashes 40 (.getfield 22) 3 43 := ⟨by decide +kernel, rfl⟩
theorem d_Table_countClashes_43 : DC m_Table_countClashes 43 (.invokevirtual 93) 3 46 := ⟨by decide +kernel, rfl⟩
theorem d_Table_countClashes_46 : DC m_Table_countClashes 46 (.aload_n 0) 1 47 := ⟨by decide +kernel, rfl⟩
theorem d_Table_countClashes_47 : DC m_Table_countClashes 47 (.getfield 26) 3 50 := ⟨by decide +kernel, rfl⟩
theorem d_Table_countClashes_50 : DC m_Table_countClashes 50 (.aload_n 0) 1 51 := ⟨by decide +kernel, rfl⟩
theorem d_Table_countClashes_51 : DC m_Table_countClashes 51 (.getfield 29) 3 54 := ⟨by decide +kernel, rfl⟩
theorem d_Table_countClashes_54 : DC m_Table_countClashes 54 (.invokevirtual 86) 3 57 := ⟨by decide +kernel, rfl⟩
theorem d_Table_countClashes_57 : DC m_Table_countClashes 57 (.aload_n 0) 1 58 := ⟨by decide +kernel, rfl⟩
theorem d_Table_countClashes_58 : DC m_Table_countClashes 58 (.getfield 22) 3 61 := ⟨by decide +kernel, rfl⟩
theorem d_Table_countClashes_61 : DC m_Table_countClashes 61 (.aload_n 0) 1 62 := ⟨by decide +kernel, rfl⟩
theorem d_Table_countClashes_62 : DC m_Table_countClashes 62 (.getfield 11) 3 65 := ⟨by decide +kernel, rfl⟩
theorem d_Table_countClashes_65 : DC m_Table_countClashes 65 (.iload_n 1) 1 66 := ⟨by decide +kernel, rfl⟩
theorem d_Table_countClashes_66 : DC m_Table_countClashes 66 .aaload 1 67 := ⟨by decide +kernel, rfl⟩
theorem d_Table_countClashes_67 : DC m_Table_countClashes 67 (.invokevirtual 86) 3 70 := ⟨by decide +kernel, rfl⟩
theorem d_Table_countClashes_70 : DC m_Table_countClashes 70 (.iinc 1 1) 3 73 := ⟨by decide +kernel, rfl⟩
theorem d_Table_countClashes_73 : DC m_Table_countClashes 73 (.goto (-57)) 3 76 := ⟨by decide +kernel, rfl⟩
theorem d_Table_countClashes_76 : DC m_Table_countClashes 76 (.aload_n 0) 1 77 := ⟨by decide +kernel, rfl⟩
theorem d_Table_countClashes_77 : DC m_Table_countClashes 77 (.getfield 26) 3 80 := ⟨by decide +kernel, rfl⟩
theorem d_Table_countClashes_80 : DC m_Table_countClashes 80 (.invokevirtual 96) 3 83 := ⟨by decide +kernel, rfl⟩
theorem d_Table_countClashes_83 : DC m_Table_countClashes 83 .ireturn 1 84 := ⟨by decide +kernel, rfl⟩
def f_Table_countClashes_76 (n : Nat) (x0 : Nat) (M : MM) : Option (Int32 × MM) :=
  (gR 9 3 x0 M).bind fun v1 =>
  (f_Shape_countQuarters n v1 M).bind fun p2 =>
  some (p2.1, p2.2)
theorem t_Table_countClashes_76 (n : Nat) (x0 : Nat) (M : MM) (z : Int32 × MM) (h : f_Table_countClashes_76 n x0 M = some z) : EV m_Table_countClashes (rm 3 0 0) (some (.int z.1)) z.2 0 0 76 [some (.ref x0), none] [] M := by
  unfold f_Table_countClashes_76 at h
  refine e_aload_n d_Table_countClashes_76 rfl ?_
  obtain ⟨v1, hv1, h⟩ := bnd h
  refine e_getR d_Table_countClashes_77 fl_Table_26 (fun _ _ _ => rfl) hv1 ?_
  obtain ⟨p2, hp2, h⟩ := bnd h
  refine e_cVi (mt1 := m_Shape_countQuarters) (As := []) (st := []) d_Table_countClashes_80 ml_Table_96 mv_Shape_countQuarters (t_Shape_countQuarters n v1 M p2 hp2) (fc_Shape_countQuarters hp2) rfl rfl rfl (okp rfl) (okp rfl) (okp rfl) (Nat.le_refl _) (Nat.le_refl _) ?_
  cases h
  exact e_iret d_Table_countClashes_83 rfl (Nat.le_refl _) (Nat.le_refl _)
def f_Table_countClashes_16 (n : Nat) (k_76 : Nat → MM → Option (Int32 × MM)) : Nat → Nat → Int32 → MM → Option (Int32 × MM)
  | 0, _, _, _ => none
  | m + 1, x0, x1, M =>
    if 8 ≤ x1 then
      k_76 x0 M
    else
      (gR 9 4 x0 M).bind fun v4 =>
      (gR 9 0 x0 M).bind fun v5 =>
      (aR 104 v5 x1 M).bind fun v6 =>
      (f_Shape_copy n v4 v6 M).bind fun M7 =>
      (gR 9 4 x0 M7).bind fun v8 =>
      (gR 9 2 x0 M7).bind fun v9 =>
      (f_Shape_keepCommon n v8 v9 M7).bind fun M10 =>
      (gR 9 3 x0 M10).bind fun v11 =>
      (gR 9 4 x0 M10).bind fun v12 =>
      (f_Shape_join n v11 v12 M10).bind fun M13 =>
      (gR 9 2 x0 M13).bind fun v14 =>
      (gR 9 0 x0 M13).bind fun v15 =>
      (aR 104 v15 x1 M13).bind fun v16 =>
      (f_Shape_join n v14 v16 M13).bind fun M17 =>
      f_Table_countClashes_16 n k_76 m x0 (x1 + 1) M17
theorem t_Table_countClashes_16 (n : Nat) {k_76 : Nat → MM → Option (Int32 × MM)} (hk_76 : ∀ (x0 : Nat) (M : MM) (z : Int32 × MM), k_76 x0 M = some z → EV m_Table_countClashes (rm 3 0 0) (some (.int z.1)) z.2 0 0 76 [some (.ref x0), none] [] M) : ∀ (m : Nat) (x0 : Nat) (x1 : Int32) (M : MM) (z : Int32 × MM), f_Table_countClashes_16 n k_76 m x0 x1 M = some z → EV m_Table_countClashes (rm 3 0 0) (some (.int z.1)) z.2 0 0 16 [some (.ref x0), some (.int x1)] [] M := by
  intro m
  induction m with
  | zero => intro x0 x1 M z h; cases h
  | succ m ih =>
    intro x0 x1 M z h
    rw [f_Table_countClashes_16] at h
    refine e_iload_n d_Table_countClashes_16 rfl ?_
    refine e_bipush (v := 8) d_Table_countClashes_17 (by decide) ?_
    refine e_ic_ge 76 d_Table_countClashes_19 (by decide) (fun c3 => ?_) (fun c3 => ?_)
    · replace h := ift c3 h
      exact (hk_76 x0 M z h).less (show LSub _ _ from ⟨rfl, trivial⟩)
    · replace h := ifn c3 h
      refine e_aload_n d_Table_countClashes_22 rfl ?_
      obtain ⟨v4, hv4, h⟩ := bnd h
      refine e_getR d_Table_countClashes_23 fl_Table_29 (fun _ _ _ => rfl) hv4 ?_
      refine e_aload_n d_Table_countClashes_26 rfl ?_
      obtain ⟨v5, hv5, h⟩ := bnd h
      refine e_getR d_Table_countClashes_27 fl_Table_11 (fun _ _ _ => rfl) hv5 ?_
      refine e_iload_n d_Table_countClashes_30 rfl ?_
      obtain ⟨v6, hv6, h⟩ := bnd h
      refine e_aald (kd := 104) d_Table_countClashes_31 (by decide) hv6 ?_
      obtain ⟨M7, hM7, h⟩ := bnd h
      refine e_cVv (mt1 := m_Shape_copy) (As := [.ref v6]) (st := []) d_Table_countClashes_32 ml_Table_90 mv_Shape_copy (t_Shape_copy n v4 v6 M M7 hM7) (fc_Shape_copy hM7) rfl rfl rfl (okp rfl) (okp rfl) (okp rfl) (Nat.le_refl _) (Nat.le_refl _) ?_
      refine e_aload_n d_Table_countClashes_35 rfl ?_
      obtain ⟨v8, hv8, h⟩ := bnd h
      refine e_getR d_Table_countClashes_36 fl_Table_29 (fun _ _ _ => rfl) hv8 ?_
      refine e_aload_n d_Table_countClashes_39 rfl ?_
      obtain ⟨v9, hv9, h⟩ := bnd h
      refine e_getR d_Table_countClashes_40 fl_Table_22 (fun _ _ _ => rfl) hv9 ?_
      obtain ⟨M10, hM10, h⟩ := bnd h
      refine e_cVv (mt1 := m_Shape_keepCommon) (As := [.ref v9]) (st := []) d_Table_countClashes_43 ml_Table_93 mv_Shape_keepCommon (t_Shape_keepCommon n v8 v9 M7 M10 hM10) (fc_Shape_keepCommon hM10) rfl rfl rfl (okp rfl) (okp rfl) (okp rfl) (Nat.le_refl _) (Nat.le_refl _) ?_
      refine e_aload_n d_Table_countClashes_46 rfl ?_
      obtain ⟨v11, hv11, h⟩ := bnd h
      refine e_getR d_Table_countClashes_47 fl_Table_26 (fun _ _ _ => rfl) hv11 ?_
      refine e_aload_n d_Table_countClashes_50 rfl ?_
      obtain ⟨v12, hv12, h⟩ := bnd h
      refine e_getR d_Table_countClashes_51 fl_Table_29 (fun _ _ _ => rfl) hv12 ?_
      obtain ⟨M13, hM13, h⟩ := bnd h
      refine e_cVv (mt1 := m_Shape_join) (As := [.ref v12]) (st := []) d_Table_countClashes_54 ml_Table_86 mv_Shape_join (t_Shape_join n v11 v12 M10 M13 hM13) (fc_Shape_join hM13) rfl rfl rfl (okp rfl) (okp rfl) (okp rfl) (Nat.le_refl _) (Nat.le_refl _) ?_
      refine e_aload_n d_Table_countClashes_57 rfl ?_
      obtain ⟨v14, hv14, h⟩ := bnd h
      refine e_getR d_Table_countClashes_58 fl_Table_22 (fun _ _ _ => rfl) hv14 ?_
      refine e_aload_n d_Table_countClashes_61 rfl ?_
      obtain ⟨v15, hv15, h⟩ := bnd h
      refine e_getR d_Table_countClashes_62 fl_Table_11 (fun _ _ _ => rfl) hv15 ?_
      refine e_iload_n d_Table_countClashes_65 rfl ?_
      obtain ⟨v16, hv16, h⟩ := bnd h
      refine e_aald (kd := 104) d_Table_countClashes_66 (by decide) hv16 ?_
      obtain ⟨M17, hM17, h⟩ := bnd h
      refine e_cVv (mt1 := m_Shape_join) (As := [.ref v16]) (st := []) d_Table_countClashes_67 ml_Table_86 mv_Shape_join (t_Shape_join n v14 v16 M13 M17 hM17) (fc_Shape_join hM17) rfl rfl rfl (okp rfl) (okp rfl) (okp rfl) (Nat.le_refl _) (Nat.le_refl _) ?_
      refine e_iinc (v := x1 + 1) (l2 := [some (.ref x0), some (.int (x1 + 1))]) d_Table_countClashes_70 rfl rfl rfl (okl rfl) rfl ?_
      refine e_goto 16 d_Table_countClashes_73 (by decide) ?_
      exact (ih x0 (x1 + 1) M17 z h).less (show LSub _ _ from ⟨rfl, ⟨rfl, trivial⟩⟩)
def f_Table_countClashes (n : Nat) (x0 : Nat) (M : MM) : Option (Int32 × MM) :=
  og 9 x0 M <|
  (gR 9 2 x0 M).bind fun v18 =>
  (f_Shape_clear n v18 M).bind fun M19 =>
  (gR 9 3 x0 M19).bind fun v20 =>
  (f_Shape_clear n v20 M19).bind fun M21 =>
  f_Table_countClashes_16 n (f_Table_countClashes_76 n) n x0 0 M21
theorem fc_Table_countClashes {n : Nat} {x0 : Nat} {M : MM} {z : Int32 × MM} (h : f_Table_countClashes n x0 M = some z) : (M.1.2.1 x0).1 = 9 := by
  unfold f_Table_countClashes at h
  exact (og_s h).1
theorem t_Table_countClashes (n : Nat) (x0 : Nat) (M : MM) (z : Int32 × MM) (h : f_Table_countClashes n x0 M = some z) : CT m_Table_countClashes (rm 3 0 0) [.ref x0] M (some (.int z.1)) z.2 := by
  unfold f_Table_countClashes at h
  obtain ⟨hthis, h⟩ := og_s h
  refine CT.of (ls := [some (.ref x0), none]) rfl (okp rfl) rfl ?_
  refine e_aload_n d_Table_countClashes_0 rfl ?_
  obtain ⟨v18, hv18, h⟩ := bnd h
  refine e_getR d_Table_countClashes_1 fl_Table_22 (fun _ _ _ => rfl) hv18 ?_
  obtain ⟨M19, hM19, h⟩ := bnd h
  refine e_cVv (mt1 := m_Shape_clear) (As := []) (st := []) d_Table_countClashes_4 ml_Table_54 mv_Shape_clear (t_Shape_clear n v18 M M19 hM19) (fc_Shape_clear hM19) rfl rfl rfl (okp rfl) (okp rfl) (okp rfl) (Nat.le_refl _) (Nat.le_refl _) ?_
  refine e_aload_n d_Table_countClashes_7 rfl ?_
  obtain ⟨v20, hv20, h⟩ := bnd h
  refine e_getR d_Table_countClashes_8 fl_Table_26 (fun _ _ _ => rfl) hv20 ?_
  obtain ⟨M21, hM21, h⟩ := bnd h
  refine e_cVv (mt1 := m_Shape_clear) (As := []) (st := []) d_Table_countClashes_11 ml_Table_54 mv_Shape_clear (t_Shape_clear n v20 M19 M21 hM21) (fc_Shape_clear hM21) rfl rfl rfl (okp rfl) (okp rfl) (okp rfl) (Nat.le_refl _) (Nat.le_refl _) ?_
  refine e_iconst (v := 0) d_Table_countClashes_14 (by decide) ?_
  refine e_istore_n (l2 := [some (.ref x0), some (.int 0)]) d_Table_countClashes_15 rfl (okl rfl) rfl ?_
  exact (t_Table_countClashes_16 n (t_Table_countClashes_76 n) n x0 0 M21 z h).less (show LSub _ _ from ⟨rfl, ⟨rfl, trivial⟩⟩)
theorem d_Table_judge_0 : DC m_Table_judge 0 (.aload_n 0) 1 1 := ⟨by decide +kernel, rfl⟩
theorem d_Table_judge_1 : DC m_Table_judge 1 (.invokevirtual 69) 3 4 := ⟨by decide +kernel, rfl⟩
theorem d_Table_judge_4 : DC m_Table_judge 4 (.istore_n 3) 1 5 := ⟨by decide +kernel, rfl⟩
theorem d_Table_judge_5 : DC m_Table_judge 5 (.iload_n 3) 1 6 := ⟨by decide +kernel, rfl⟩
theorem d_Table_judge_6 : DC m_Table_judge 6 (.iload_n 2) 1 7 := ⟨by decide +kernel, rfl⟩
theorem d_Table_judge_7 : DC m_Table_judge 7 (.iconst (-1)) 1 8 := ⟨by decide +kernel, rfl⟩
theorem d_Table_judge_8 : DC m_Table_judge 8 .ixor 1 9 := ⟨by decide +kernel, rfl⟩
theorem d_Table_judge_9 : DC m_Table_judge 9 .iand 1 10 := ⟨by decide +kernel, rfl⟩
theorem d_Table_judge_10 : DC m_Table_judge 10 (.ifCond .eq 5) 3 13 := ⟨by decide +kernel, rfl⟩
theorem d_Table_judge_13 : DC m_Table_judge 13 (.iconst 1) 1 14 := ⟨by decide +kernel, rfl⟩
theorem d_Table_judge_14 : DC m_Table_judge 14 .ireturn 1 15 := ⟨by decide +kernel, rfl⟩
theorem d_Table_judge_15 : DC m_Table_judge 15 (.iload_n 2) 1 16 := ⟨by decide +kernel, rfl⟩
theorem d_Table_judge_16 : DC m_Table_judge 16 (.iload_n 3) 1 17 := ⟨by decide +kernel, rfl⟩
theorem d_Table_judge_17 : DC m_Table_judge 17 (.iconst (-1)) 1 18 := ⟨by decide +kernel, rfl⟩
theorem d_Table_judge_18 : DC m_Table_judge 18 .ixor 1 19 := ⟨by decide +kernel, rfl⟩
theorem d_Table_judge_19 : DC m_Table_judge 19 .iand 1 20 := ⟨by decide +kernel, rfl⟩
theorem d_Table_judge_20 : DC m_Table_judge 20 (.ifCond .eq 5) 3 23 := ⟨by decide +kernel, rfl⟩
theorem d_Table_judge_23 : DC m_Table_judge 23 (.iconst 2) 1 24 := ⟨by decide +kernel, rfl⟩
theorem d_Table_judge_24 : DC m_Table_judge 24 .ireturn 1 25 := ⟨by decide +kernel, rfl⟩
theorem d_Table_judge_25 : DC m_Table_judge 25 (.aload_n 0) 1 26 := ⟨by decide +kernel, rfl⟩
theorem d_Table_judge_26 : DC m_Table_judge 26 (.invokevirtual 99) 3 29 := ⟨by decide +kernel, rfl⟩
theorem d_Table_judge_29 : DC m_Table_judge 29 (.ifCond .le 5) 3 32 := ⟨by decide +kernel, rfl⟩
theorem d_Table_judge_32 : DC m_Table_judge 32 (.iconst 3) 1 33 := ⟨by decide +kernel, rfl⟩
theorem d_Table_judge_33 : DC m_Table_judge 33 .ireturn 1 34 := ⟨by decide +kernel, rfl⟩
theorem d_Table_judge_34 : DC m_Table_judge 34 (.aload_n 0) 1 35 := ⟨by decide +kernel, rfl⟩
theorem d_Table_judge_35 : DC m_Table_judge 35 (.getfield 29) 3 38 := ⟨by decide +kernel, rfl⟩
theorem d_Table_judge_38 : DC m_Table_judge 38 (.aload_n 0) 1 39 := ⟨by decide +kernel, rfl⟩
theorem d_Table_judge_39 : DC m_Table_judge 39 (.getfield 22) 3 42 := ⟨by decide +kernel, rfl⟩
theorem d_Table_judge_42 : DC m_Table_judge 42 (.invokevirtual 90) 3 45 := ⟨by decide +kernel, rfl⟩
theorem d_Table_judge_45 : DC m_Table_judge 45 (.aload_n 0) 1 46 := ⟨by decide +kernel, rfl⟩
theorem d_Table_judge_46 : DC m_Table_judge 46 (.getfield 29) 3 49 := ⟨by decide +kernel, rfl⟩
theorem d_Table_judge_49 : DC m_Table_judge 49 (.aload_n 1) 1 50 := ⟨by decide +kernel, rfl⟩
theorem d_Table_judge_50 : DC m_Table_judge 50 (.invokevirtual 102) 3 53 := ⟨by decide +kernel, rfl⟩
theorem d_Table_judge_53 : DC m_Table_judge 53 (.aload_n 0) 1 54 := ⟨by decide +kernel, rfl⟩
theorem d_Table_judge_54 : DC m_Table_judge 54 (.getfield 29) 3 57 := ⟨by decide +kernel, rfl⟩
theorem d_Table_judge_57 : DC m_Table_judge 57 (.invokevirtual 105) 3 60 := ⟨by decide +kernel, rfl⟩
theorem d_Table_judge_60 : DC m_Table_judge 60 (.ifCond .ne 5) 3 63 := ⟨by decide +kernel, rfl⟩
theorem d_Table_judge_63 : DC m_Table_judge 63 (.iconst 4) 1 64 := ⟨by decide +kernel, rfl⟩
theorem d_Table_judge_64 : DC m_Table_judge 64 .ireturn 1 65 := ⟨by decide +kernel, rfl⟩
theorem d_Table_judge_65 : DC m_Table_judge 65 (.aload_n 0) 1 66 := ⟨by decide +kernel, rfl⟩
theorem d_Table_judge_66 : DC m_Table_judge 66 (.getfield 22) 3 69 := ⟨by decide +kernel, rfl⟩
theorem d_Table_judge_69 : DC m_Table_judge 69 (.aload_n 1) 1 70 := ⟨by decide +kernel, rfl⟩
theorem d_Table_judge_70 : DC m_Table_judge 70 (.invokevirtual 109) 3 73 := ⟨by decide +kernel, rfl⟩
theorem d_Table_judge_73 : DC m_Table_judge 73 (.ifCond .eq 7) 3 76 := ⟨by decide +kernel, rfl⟩
theorem d_Table_judge_76 : DC m_Table_judge 76 (.iconst 0) 1 77 := ⟨by decide +kernel, rfl⟩
theorem d_Table_judge_77 : DC m_Table_judge 77 (.goto 4) 3 80 := ⟨by decide +kernel, rfl⟩
theorem d_Table_judge_80 : DC m_Table_judge 80 (.iconst 5) 1 81 := ⟨by decide +kernel, rfl⟩
theorem d_Table_judge_81 : DC m_Table_judge 81 .ireturn 1 82 := ⟨by decide +kernel, rfl⟩
def f_Table_judge (n : Nat) (x0 : Nat) (x1 : Nat) (x2 : Int32) (M : MM) : Option (Int32 × MM) :=
  og 9 x0 M <|
  (f_Table_boardsLaid n x0 M).bind fun p1 =>
  if (p1.1 &&& (x2 ^^^ (-1))) = 0 then
    if (x2 &&& (p1.1 ^^^ (-1))) = 0 then
      (f_Table_countClashes n x0 p1.2).bind fun p4 =>
      if p4.1 ≤ 0 then
        (gR 9 4 x0 p4.2).bind fun v6 =>
        (gR 9 2 x0 p4.2).bind fun v7 =>
        (f_Shape_copy n v6 v7 p4.2).bind fun M8 =>
        (gR 9 4 x0 M8).bind fun v9 =>
        (f_Shape_takeAway n v9 x1 M8).bind fun M10 =>
        (gR 9 4 x0 M10).bind fun v11 =>
        (f_Shape_isNothing n v11 M10).bind fun p12 =>
        if p12.1 = 0 then
          some (4, p12.2)
        else
          (gR 9 2 x0 p12.2).bind fun v14 =>
          (f_Shape_isSame n v14 x1 p12.2).bind fun p15 =>
          if p15.1 = 0 then
            some (5, p15.2)
          else
            some (0, p15.2)
      else
        some (3, p4.2)
    else
      some (2, p1.2)
  else
    some (1, p1.2)
theorem fc_Table_judge {n : Nat} {x0 : Nat} {x1 : Nat} {x2 : Int32} {M : MM} {z : Int32 × MM} (h : f_Table_judge n x0 x1 x2 M = some z) : (M.1.2.1 x0).1 = 9 := by
  unfold f_Table_judge at h
  exact (og_s h).1
theorem t_Table_judge (n : Nat) (x0 : Nat) (x1 : Nat) (x2 : Int32) (M : MM) (z : Int32 × MM) (h : f_Table_judge n x0 x1 x2 M = some z) : CT m_Table_judge (rm 4 0 0) [.ref x0, .ref x1, .int x2] M (some (.int z.1)) z.2 := by
  unfold f_Table_judge at h
  obtain ⟨hthis, h⟩ := og_s h
  refine CT.of (ls := [some (.ref x0), some (.ref x1), some (.int x2), none]) rfl (okp rfl) rfl ?_
  refine e_aload_n d_Table_judge_0 rfl ?_
  obtain ⟨p1, hp1, h⟩ := bnd h
  refine e_cVi (mt1 := m_Table_boardsLaid) (As := []) (st := []) d_Table_judge_1 ml_Table_69 mv_Table_boardsLaid (t_Table_boardsLaid n x0 M p1 hp1) (fc_Table_boardsLaid hp1) rfl rfl rfl (okp rfl) (okp rfl) (okp rfl) (Nat.le_refl _) (Nat.le_refl _) ?_
  refine e_istore_n (l2 := [some (.ref x0), some (.ref x1), some (.int x2), some (.int p1.1)]) d_Table_judge_4 rfl (okl rfl) rfl ?_
  refine e_iload_n d_Table_judge_5 rfl ?_
  refine e_iload_n d_Table_judge_6 rfl ?_
  refine e_iconst (v := (-1)) d_Table_judge_7 (by decide) ?_
  refine e_ixor d_Table_judge_8 ?_
  refine e_iand d_Table_judge_9 ?_
  refine e_if_eq 15 d_Table_judge_10 (by decide) (fun c2 => ?_) (fun c2 => ?_)
  · replace h := ift c2 h
    refine e_iload_n d_Table_judge_15 rfl ?_
    refine e_iload_n d_Table_judge_16 rfl ?_
    refine e_iconst (v := (-1)) d_Table_judge_17 (by decide) ?_
    refine e_ixor d_Table_judge_18 ?_
    refine e_iand d_Table_judge_19 ?_
    refine e_if_eq 25 d_Table_judge_20 (by decide) (fun c3 => ?_) (fun c3 => ?_)
    · replace h := ift c3 h
      refine e_aload_n d_Table_judge_25 rfl ?_
      obtain ⟨p4, hp4, h⟩ := bnd h
      refine e_cVi (mt1 := m_Table_countClashes) (As := []) (st := []) d_Table_judge_26 ml_Table_99 mv_Table_countClashes (t_Table_countClashes n x0 p1.2 p4 hp4) (fc_Table_countClashes hp4) rfl rfl rfl (okp rfl) (okp rfl) (okp rfl) (Nat.le_refl _) (Nat.le_refl _) ?_
      refine e_if_le 34 d_Table_judge_29 (by decide) (fun c5 => ?_) (fun c5 => ?_)
      · replace h := ift c5 h
        refine e_aload_n d_Table_judge_34 rfl ?_
        obtain ⟨v6, hv6, h⟩ := bnd h
        refine e_getR d_Table_judge_35 fl_Table_29 (fun _ _ _ => rfl) hv6 ?_
        refine e_aload_n d_Table_judge_38 rfl ?_
        obtain ⟨v7, hv7, h⟩ := bnd h
        refine e_getR d_Table_judge_39 fl_Table_22 (fun _ _ _ => rfl) hv7 ?_
        obtain ⟨M8, hM8, h⟩ := bnd h
        refine e_cVv (mt1 := m_Shape_copy) (As := [.ref v7]) (st := []) d_Table_judge_42 ml_Table_90 mv_Shape_copy (t_Shape_copy n v6 v7 p4.2 M8 hM8) (fc_Shape_copy hM8) rfl rfl rfl (okp rfl) (okp rfl) (okp rfl) (Nat.le_refl _) (Nat.le_refl _) ?_
        refine e_aload_n d_Table_judge_45 rfl ?_
        obtain ⟨v9, hv9, h⟩ := bnd h
        refine e_getR d_Table_judge_46 fl_Table_29 (fun _ _ _ => rfl) hv9 ?_
        refine e_aload_n d_Table_judge_49 rfl ?_
        obtain ⟨M10, hM10, h⟩ := bnd h
        refine e_cVv (mt1 := m_Shape_takeAway) (As := [.ref x1]) (st := []) d_Table_judge_50 ml_Table_102 mv_Shape_takeAway (t_Shape_takeAway n v9 x1 M8 M10 hM10) (fc_Shape_takeAway hM10) rfl rfl rfl (okp rfl) (okp rfl) (okp rfl) (Nat.le_refl _) (Nat.le_refl _) ?_
        refine e_aload_n d_Table_judge_53 rfl ?_
        obtain ⟨v11, hv11, h⟩ := bnd h
        refine e_getR d_Table_judge_54 fl_Table_29 (fun _ _ _ => rfl) hv11 ?_
        obtain ⟨p12, hp12, h⟩ := bnd h
        refine e_cVi (mt1 := m_Shape_isNothing) (As := []) (st := []) d_Table_judge_57 ml_Table_105 mv_Shape_isNothing (t_Shape_isNothing n v11 M10 p12 hp12) (fc_Shape_isNothing hp12) rfl rfl rfl (okp rfl) (okp rfl) (okp rfl) (Nat.le_refl _) (Nat.le_refl _) ?_
        refine e_if_ne 65 d_Table_judge_60 (by decide) (fun c13 => ?_) (fun c13 => ?_)
        · replace h := ifn c13 h
          refine e_aload_n d_Table_judge_65 rfl ?_
          obtain ⟨v14, hv14, h⟩ := bnd h
          refine e_getR d_Table_judge_66 fl_Table_22 (fun _ _ _ => rfl) hv14 ?_
          refine e_aload_n d_Table_judge_69 rfl ?_
          obtain ⟨p15, hp15, h⟩ := bnd h
          refine e_cVi (mt1 := m_Shape_isSame) (As := [.ref x1]) (st := []) d_Table_judge_70 ml_Table_109 mv_Shape_isSame (t_Shape_isSame n v14 x1 p12.2 p15 hp15) (fc_Shape_isSame hp15) rfl rfl rfl (okp rfl) (okp rfl) (okp rfl) (Nat.le_refl _) (Nat.le_refl _) ?_
          refine e_if_eq 80 d_Table_judge_73 (by decide) (fun c16 => ?_) (fun c16 => ?_)
          · replace h := ift c16 h
            refine e_iconst (v := 5) d_Table_judge_80 (by decide) ?_
            cases h
            exact e_iret d_Table_judge_81 rfl (Nat.le_refl _) (Nat.le_refl _)
          · replace h := ifn c16 h
            refine e_iconst (v := 0) d_Table_judge_76 (by decide) ?_
            refine e_goto 81 d_Table_judge_77 (by decide) ?_
            cases h
            exact e_iret d_Table_judge_81 rfl (Nat.le_refl _) (Nat.le_refl _)
        · replace h := ift c13 h
          refine e_iconst (v := 4) d_Table_judge_63 (by decide) ?_
          cases h
          exact e_iret d_Table_judge_64 rfl (Nat.le_refl _) (Nat.le_refl _)
      · replace h := ifn c5 h
        refine e_iconst (v := 3) d_Table_judge_32 (by decide) ?_
        cases h
        exact e_iret d_Table_judge_33 rfl (Nat.le_refl _) (Nat.le_refl _)
    · replace h := ifn c3 h
      refine e_iconst (v := 2) d_Table_judge_23 (by decide) ?_
      cases h
      exact e_iret d_Table_judge_24 rfl (Nat.le_refl _) (Nat.le_refl _)
  · replace h := ifn c2 h
    refine e_iconst (v := 1) d_Table_judge_13 (by decide) ?_
    cases h
    exact e_iret d_Table_judge_14 rfl (Nat.le_refl _) (Nat.le_refl _)
theorem d_Table_copyCodes_0 : DC m_Table_copyCodes 0 (.aload_n 0) 1 1 := ⟨by decide +kernel, rfl⟩
theorem d_Table_copyCodes_1 : DC m_Table_copyCodes 1 (.getfield 17) 3 4 := ⟨by decide +kernel, rfl⟩
theorem d_Table_copyCodes_4 : DC m_Table_copyCodes 4 (.iconst 0) 1 5 := ⟨by decide +kernel, rfl⟩
theorem d_Table_copyCodes_5 : DC m_Table_copyCodes 5 (.aload_n 1) 1 6 := ⟨by decide +kernel, rfl⟩
theorem d_Table_copyCodes_6 : DC m_Table_copyCodes 6 (.iconst 0) 1 7 := ⟨by decide +kernel, rfl⟩
theorem d_Table_copyCodes_7 : DC m_Table_copyCodes 7 (.aload_n 1) 1 8 := ⟨by decide +kernel, rfl⟩
theorem d_Table_copyCodes_8 : DC m_Table_copyCodes 8 .arraylength 1 9 := ⟨by decide +kernel, rfl⟩
theorem d_Table_copyCodes_9 : DC m_Table_copyCodes 9 (.bipush 8) 2 11 := ⟨by decide +kernel, rfl⟩
theorem d_Table_copyCodes_11 : DC m_Table_copyCodes 11 (.invokestatic 57) 3 14 := ⟨by decide +kernel, rfl⟩
theorem d_Table_copyCodes_14 : DC m_Table_copyCodes 14 (.invokestatic 63) 3 17 := ⟨by decide +kernel, rfl⟩
theorem d_Table_copyCodes_17 : DC m_Table_copyCodes 17 .return_ 1 18 := ⟨by decide +kernel, rfl⟩
def f_Table_copyCodes (n : Nat) (x0 : Nat) (x1 : Nat) (M : MM) : Option (MM) :=
  og 9 x0 M <|
  (gR 9 1 x0 M).bind fun v1 =>
  (aN x1 M).bind fun v2 =>
  (acp v1 0 x1 0 (imin v2 8) M).bind fun M3 =>
  some M3
theorem fc_Table_copyCodes {n : Nat} {x0 : Nat} {x1 : Nat} {M : MM} {z : MM} (h : f_Table_copyCodes n x0 x1 M = some z) : (M.1.2.1 x0).1 = 9 := by
  unfold f_Table_copyCodes at h
  exact (og_s h).1
theorem t_Table_copyCodes (n : Nat) (x0 : Nat) (x1 : Nat) (M : MM) (z : MM) (h : f_Table_copyCodes n x0 x1 M = some z) : CT m_Table_copyCodes (rm 2 0 0) [.ref x0, .ref x1] M none z := by
  unfold f_Table_copyCodes at h
  obtain ⟨hthis, h⟩ := og_s h
  refine CT.of (ls := [some (.ref x0), some (.ref x1)]) rfl (okp rfl) rfl ?_
  refine e_aload_n d_Table_copyCodes_0 rfl ?_
  obtain ⟨v1, hv1, h⟩ := bnd h
  refine e_getR d_Table_copyCodes_1 fl_Table_17 (fun _ _ _ => rfl) hv1 ?_
  refine e_iconst (v := 0) d_Table_copyCodes_4 (by decide) ?_
  refine e_aload_n d_Table_copyCodes_5 rfl ?_
  refine e_iconst (v := 0) d_Table_copyCodes_6 (by decide) ?_
  refine e_aload_n d_Table_copyCodes_7 rfl ?_
  obtain ⟨v2, hv2, h⟩ := bnd h
  refine e_alen d_Table_copyCodes_8 hv2 ?_
  refine e_bipush (v := 8) d_Table_copyCodes_9 (by decide) ?_
  refine e_mmin d_Table_copyCodes_11 ml_Table_57 ms_Math_min.2 ms_Math_min.1.2.1 ms_Math_min.1.1 (okp rfl) (okp rfl) (okp rfl) (Nat.le_refl _) (Nat.le_refl _) ?_
  obtain ⟨M3, hM3, h⟩ := bnd h
  refine e_acp d_Table_copyCodes_14 ml_Table_63 ac_nat ac_sta ac_ini hM3 (okp rfl) (okp rfl) (okp rfl) ?_
  cases h
  exact e_vret d_Table_copyCodes_17 rfl (Nat.le_refl _) (Nat.le_refl _)
