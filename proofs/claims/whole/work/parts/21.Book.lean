theorem d_Book_empty_0 : DC m_Book_empty 0 (.aload_n 0) 1 1 := ⟨by decide +kernel, rfl⟩
theorem d_Book_empty_1 : DC m_Book_empty 1 (.iconst 0) 1 2 := ⟨by decide +kernel, rfl⟩
theorem d_Book_empty_2 : DC m_Book_empty 2 (.putfield 9) 3 5 := ⟨by decide +kernel, rfl⟩
theorem d_Book_empty_5 : DC m_Book_empty 5 .return_ 1 6 := ⟨by decide +kernel, rfl⟩
def f_Book_empty (n : Nat) (x0 : Nat) (M : MM) : Option (MM) :=
  og 0 x0 M <|
  (pI 0 0 x0 0 M).bind fun M1 =>
  some M1
theorem fc_Book_empty {n : Nat} {x0 : Nat} {M : MM} {z : MM} (h : f_Book_empty n x0 M = some z) : (M.1.2.1 x0).1 = 0 := by
  unfold f_Book_empty at h
  exact (og_s h).1
theorem t_Book_empty (n : Nat) (x0 : Nat) (M : MM) (z : MM) (h : f_Book_empty n x0 M = some z) : CT m_Book_empty (rm 1 0 0) [.ref x0] M none z := by
  unfold f_Book_empty at h
  obtain ⟨hthis, h⟩ := og_s h
  refine CT.of (ls := [some (.ref x0)]) rfl (okp rfl) rfl ?_
  refine e_aload_n d_Book_empty_0 rfl ?_
  refine e_iconst (v := 0) d_Book_empty_1 (by decide) ?_
  obtain ⟨M1, hM1, h⟩ := bnd h
  refine e_putI d_Book_empty_2 fl_Book_9 (Or.inl rfl) (fun _ _ _ => rfl) rfl hM1 ?_
  cases h
  exact e_vret d_Book_empty_5 rfl (Nat.le_refl _) (Nat.le_refl _)
theorem d_Book_isFull_0 : DC m_Book_isFull 0 (.aload_n 0) 1 1 := ⟨by decide +kernel, rfl⟩
theorem d_Book_isFull_1 : DC m_Book_isFull 1 (.getfield 9) 3 4 := ⟨by decide +kernel, rfl⟩
theorem d_Book_isFull_4 : DC m_Book_isFull 4 (.bipush 60) 2 6 := ⟨by decide +kernel, rfl⟩
theorem d_Book_isFull_6 : DC m_Book_isFull 6 (.if_icmp .lt 7) 3 9 := ⟨by decide +kernel, rfl⟩
theorem d_Book_isFull_9 : DC m_Book_isFull 9 (.iconst 1) 1 10 := ⟨by decide +kernel, rfl⟩
theorem d_Book_isFull_10 : DC m_Book_isFull 10 (.goto 4) 3 13 := ⟨by decide +kernel, rfl⟩
theorem d_Book_isFull_13 : DC m_Book_isFull 13 (.iconst 0) 1 14 := ⟨by decide +kernel, rfl⟩
theorem d_Book_isFull_14 : DC m_Book_isFull 14 .ireturn 1 15 := ⟨by decide +kernel, rfl⟩
def f_Book_isFull (n : Nat) (x0 : Nat) (M : MM) : Option (Int32 × MM) :=
  og 0 x0 M <|
  (gI 0 0 x0 M).bind fun v1 =>
  if v1 < 60 then
    some (0, M)
  else
    some (1, M)
theorem fc_Book_isFull {n : Nat} {x0 : Nat} {M : MM} {z : Int32 × MM} (h : f_Book_isFull n x0 M = some z) : (M.1.2.1 x0).1 = 0 := by
  unfold f_Book_isFull at h
  exact (og_s h).1
theorem t_Book_isFull (n : Nat) (x0 : Nat) (M : MM) (z : Int32 × MM) (h : f_Book_isFull n x0 M = some z) : CT m_Book_isFull (rm 1 0 0) [.ref x0] M (some (.int z.1)) z.2 := by
  unfold f_Book_isFull at h
  obtain ⟨hthis, h⟩ := og_s h
  refine CT.of (ls := [some (.ref x0)]) rfl (okp rfl) rfl ?_
  refine e_aload_n d_Book_isFull_0 rfl ?_
  obtain ⟨v1, hv1, h⟩ := bnd h
  refine e_getI d_Book_isFull_1 fl_Book_9 (fun _ _ _ => rfl) hv1 ?_
  refine e_bipush (v := 60) d_Book_isFull_4 (by decide) ?_
  refine e_ic_lt 13 d_Book_isFull_6 (by decide) (fun c2 => ?_) (fun c2 => ?_)
  · replace h := ift c2 h
    refine e_iconst (v := 0) d_Book_isFull_13 (by decide) ?_
    cases h
    exact e_zret (ty := .boolean) d_Book_isFull_14 rfl narZ0 (Nat.le_refl _) (Nat.le_refl _)
  · replace h := ifn c2 h
    refine e_iconst (v := 1) d_Book_isFull_9 (by decide) ?_
    refine e_goto 14 d_Book_isFull_10 (by decide) ?_
    cases h
    exact e_zret (ty := .boolean) d_Book_isFull_14 rfl narZ1 (Nat.le_refl _) (Nat.le_refl _)
theorem d_Book_enterClaim_0 : DC m_Book_enterClaim 0 (.aload_n 0) 1 1 := ⟨by decide +kernel, rfl⟩
theorem d_Book_enterClaim_1 : DC m_Book_enterClaim 1 (.getfield 19) 3 4 := ⟨by decide +kernel, rfl⟩
theorem d_Book_enterClaim_4 : DC m_Book_enterClaim 4 (.aload_n 0) 1 5 := ⟨by decide +kernel, rfl⟩
theorem d_Book_enterClaim_5 : DC m_Book_enterClaim 5 (.getfield 9) 3 8 := ⟨by decide +kernel, rfl⟩
theorem d_Book_enterClaim_8 : DC m_Book_enterClaim 8 (.iload_n 1) 1 9 := ⟨by decide +kernel, rfl⟩
theorem d_Book_enterClaim_9 : DC m_Book_enterClaim 9 .iastore 1 10 := ⟨by decide +kernel, rfl⟩
theorem d_Book_enterClaim_10 : DC m_Book_enterClaim 10 (.aload_n 0) 1 11 := ⟨by decide +kernel, rfl⟩
theorem d_Book_enterClaim_11 : DC m_Book_enterClaim 11 (.getfield 22) 3 14 := ⟨by decide +kernel, rfl⟩
theorem d_Book_enterClaim_14 : DC m_Book_enterClaim 14 (.aload_n 0) 1 15 := ⟨by decide +kernel, rfl⟩
theorem d_Book_enterClaim_15 : DC m_Book_enterClaim 15 (.getfield 9) 3 18 := ⟨by decide +kernel, rfl⟩
theorem d_Book_enterClaim_18 : DC m_Book_enterClaim 18 (.iload_n 2) 1 19 := ⟨by decide +kernel, rfl⟩
theorem d_Book_enterClaim_19 : DC m_Book_enterClaim 19 .iastore 1 20 := ⟨by decide +kernel, rfl⟩
theorem d_Book_enterClaim_20 : DC m_Book_enterClaim 20 (.aload_n 0) 1 21 := ⟨by decide +kernel, rfl⟩
theorem d_Book_enterClaim_21 : DC m_Book_enterClaim 21 (.getfield 25) 3 24 := ⟨by decide +kernel, rfl⟩
theorem d_Book_enterClaim_24 : DC m_Book_enterClaim 24 (.aload_n 0) 1 25 := ⟨by decide +kernel, rfl⟩
theorem d_Book_enterClaim_25 : DC m_Book_enterClaim 25 (.getfield 9) 3 28 := ⟨by decide +kernel, rfl⟩
theorem d_Book_enterClaim_28 : DC m_Book_enterClaim 28 (.iload_n 3) 1 29 := ⟨by decide +kernel, rfl⟩
theorem d_Book_enterClaim_29 : DC m_Book_enterClaim 29 .iastore 1 30 := ⟨by decide +kernel, rfl⟩
theorem d_Book_enterClaim_30 : DC m_Book_enterClaim 30 (.aload_n 0) 1 31 := ⟨by decide +kernel, rfl⟩
theorem d_Book_enterClaim_31 : DC m_Book_enterClaim 31 (.getfield 15) 3 34 := ⟨by decide +kernel, rfl⟩
theorem d_Book_enterClaim_34 : DC m_Book_enterClaim 34 (.aload_n 0) 1 35 := ⟨by decide +kernel, rfl⟩
theorem d_Book_enterClaim_35 : DC m_Book_enterClaim 35 (.getfield 9) 3 38 := ⟨by decide +kernel, rfl⟩
theorem d_Book_enterClaim_38 : DC m_Book_enterClaim 38 (.iload 4) 2 40 := ⟨by decide +kernel, rfl⟩
theorem d_Book_enterClaim_40 : DC m_Book_enterClaim 40 .iastore 1 41 := ⟨by decide +kernel, rfl⟩
theorem d_Book_enterClaim_41 : DC m_Book_enterClaim 41 (.aload_n 0) 1 42 := ⟨by decide +kernel, rfl⟩
theorem d_Book_enterClaim_42 : DC m_Book_enterClaim 42 (.getfield 33) 3 45 := ⟨by decide +kernel, rfl⟩
theorem d_Book_enterClaim_45 : DC m_Book_enterClaim 45 (.aload_n 0) 1 46 := ⟨by decide +kernel, rfl⟩
theorem d_Book_enterClaim_46 : DC m_Book_enterClaim 46 (.getfield 9) 3 49 := ⟨by decide +kernel, rfl⟩
theorem d_Book_enterClaim_49 : DC m_Book_enterClaim 49 (.iconst (-1)) 1 50 := ⟨by decide +kernel, rfl⟩
theorem d_Book_enterClaim_50 : DC m_Book_enterClaim 50 .iastore 1 51 := ⟨by decide +kernel, rfl⟩
theorem d_Book_enterClaim_51 : DC m_Book_enterClaim 51 (.aload 5) 2 53 := ⟨by decide +kernel, rfl⟩
theorem d_Book_enterClaim_53 : DC m_Book_enterClaim 53 (.aload_n 0) 1 54 := ⟨by decide +kernel, rfl⟩
theorem d_Book_enterClaim_54 : DC m_Book_enterClaim 54 (.getfield 30) 3 57 := ⟨by decide +kernel, rfl⟩
theorem d_Book_enterClaim_57 : DC m_Book_enterClaim 57 (.aload_n 0) 1 58 := ⟨by decide +kernel, rfl⟩
theorem d_Book_enterClaim_58 : DC m_Book_enterClaim 58 (.getfield 9) 3 61 := ⟨by decide +kernel, rfl⟩
theorem d_Book_enterClaim_61 : DC m_Book_enterClaim 61 .aaload 1 62 := ⟨by decide +kernel, rfl⟩
theorem d_Book_enterClaim_62 : DC m_Book_enterClaim 62 (.invokevirtual 36) 3 65 := ⟨by decide +kernel, rfl⟩
theorem d_Book_enterClaim_65 : DC m_Book_enterClaim 65 (.aload_n 0) 1 66 := ⟨by decide +kernel, rfl⟩
theorem d_Book_enterClaim_66 : DC m_Book_enterClaim 66 .dup 1 67 := ⟨by decide +kernel, rfl⟩
theorem d_Book_enterClaim_67 : DC m_Book_enterClaim 67 (.getfield 9) 3 70 := ⟨by decide +kernel, rfl⟩
theorem d_Book_enterClaim_70 : DC m_Book_enterClaim 70 (.iconst 1) 1 71 := ⟨by decide +kernel, rfl⟩
theorem d_Book_enterClaim_71 : DC m_Book_enterClaim 71 .iadd 1 72 := ⟨by decide +kernel, rfl⟩
theorem d_Book_enterClaim_72 : DC m_Book_enterClaim 72 (.putfield 9) 3 75 := ⟨by decide +kernel, rfl⟩
theorem d_Book_enterClaim_75 : DC m_Book_enterClaim 75 (.aload_n 0) 1 76 := ⟨by decide +kernel, rfl⟩
theorem d_Book_enterClaim_76 : DC m_Book_enterClaim 76 (.getfield 9) 3 79 := ⟨by decide +kernel, rfl⟩
theorem d_Book_enterClaim_79 : DC m_Book_enterClaim 79 (.iconst 1) 1 80 := ⟨by decide +kernel, rfl⟩
theorem d_Book_enterClaim_80 : DC m_Book_enterClaim 80 .isub 1 81 := ⟨by decide +kernel, rfl⟩
theorem d_Book_enterClaim_81 : DC m_Book_enterClaim 81 .ireturn 1 82 := ⟨by decide +kernel, rfl⟩
def f_Book_enterClaim (n : Nat) (x0 : Nat) (x1 : Int32) (x2 : Int32) (x3 : Int32) (x4 : Int32) (x5 : Nat) (M : MM) : Option (Int32 × MM) :=
  og 0 x0 M <|
  (gR 0 2 x0 M).bind fun v1 =>
  (gI 0 0 x0 M).bind fun v2 =>
  (sI 100 v1 v2 x1 M).bind fun M3 =>
  (gR 0 3 x0 M3).bind fun v4 =>
  (gI 0 0 x0 M3).bind fun v5 =>
  (sI 100 v4 v5 x2 M3).bind fun M6 =>
  (gR 0 4 x0 M6).bind fun v7 =>
  (gI 0 0 x0 M6).bind fun v8 =>
  (sI 100 v7 v8 x3 M6).bind fun M9 =>
  (gR 0 1 x0 M9).bind fun v10 =>
  (gI 0 0 x0 M9).bind fun v11 =>
  (sI 100 v10 v11 x4 M9).bind fun M12 =>
  (gR 0 6 x0 M12).bind fun v13 =>
  (gI 0 0 x0 M12).bind fun v14 =>
  (sI 100 v13 v14 (-1) M12).bind fun M15 =>
  (gR 0 5 x0 M15).bind fun v16 =>
  (gI 0 0 x0 M15).bind fun v17 =>
  (aR 106 v16 v17 M15).bind fun v18 =>
  (f_Table_copyCodes n x5 v18 M15).bind fun M19 =>
  (gI 0 0 x0 M19).bind fun v20 =>
  (pI 0 0 x0 (v20 + 1) M19).bind fun M21 =>
  (gI 0 0 x0 M21).bind fun v22 =>
  some ((v22 - 1), M21)
theorem fc_Book_enterClaim {n : Nat} {x0 : Nat} {x1 : Int32} {x2 : Int32} {x3 : Int32} {x4 : Int32} {x5 : Nat} {M : MM} {z : Int32 × MM} (h : f_Book_enterClaim n x0 x1 x2 x3 x4 x5 M = some z) : (M.1.2.1 x0).1 = 0 := by
  unfold f_Book_enterClaim at h
  exact (og_s h).1
theorem t_Book_enterClaim (n : Nat) (x0 : Nat) (x1 : Int32) (x2 : Int32) (x3 : Int32) (x4 : Int32) (x5 : Nat) (M : MM) (z : Int32 × MM) (h : f_Book_enterClaim n x0 x1 x2 x3 x4 x5 M = some z) : CT m_Book_enterClaim (rm 3 0 0) [.ref x0, .int x1, .int x2, .int x3, .int x4, .ref x5] M (some (.int z.1)) z.2 := by
  unfold f_Book_enterClaim at h
  obtain ⟨hthis, h⟩ := og_s h
  refine CT.of (ls := [some (.ref x0), some (.int x1), some (.int x2), some (.int x3), some (.int x4), some (.ref x5)]) rfl (okp rfl) rfl ?_
  refine e_aload_n d_Book_enterClaim_0 rfl ?_
  obtain ⟨v1, hv1, h⟩ := bnd h
  refine e_getR d_Book_enterClaim_1 fl_Book_19 (fun _ _ _ => rfl) hv1 ?_
  refine e_aload_n d_Book_enterClaim_4 rfl ?_
  obtain ⟨v2, hv2, h⟩ := bnd h
  refine e_getI d_Book_enterClaim_5 fl_Book_9 (fun _ _ _ => rfl) hv2 ?_
  refine e_iload_n d_Book_enterClaim_8 rfl ?_
  obtain ⟨M3, hM3, h⟩ := bnd h
  refine e_iast d_Book_enterClaim_9 hM3 ?_
  refine e_aload_n d_Book_enterClaim_10 rfl ?_
  obtain ⟨v4, hv4, h⟩ := bnd h
  refine e_getR d_Book_enterClaim_11 fl_Book_22 (fun _ _ _ => rfl) hv4 ?_
  refine e_aload_n d_Book_enterClaim_14 rfl ?_
  obtain ⟨v5, hv5, h⟩ := bnd h
  refine e_getI d_Book_enterClaim_15 fl_Book_9 (fun _ _ _ => rfl) hv5 ?_
  refine e_iload_n d_Book_enterClaim_18 rfl ?_
  obtain ⟨M6, hM6, h⟩ := bnd h
  refine e_iast d_Book_enterClaim_19 hM6 ?_
  refine e_aload_n d_Book_enterClaim_20 rfl ?_
  obtain ⟨v7, hv7, h⟩ := bnd h
  refine e_getR d_Book_enterClaim_21 fl_Book_25 (fun _ _ _ => rfl) hv7 ?_
  refine e_aload_n d_Book_enterClaim_24 rfl ?_
  obtain ⟨v8, hv8, h⟩ := bnd h
  refine e_getI d_Book_enterClaim_25 fl_Book_9 (fun _ _ _ => rfl) hv8 ?_
  refine e_iload_n d_Book_enterClaim_28 rfl ?_
  obtain ⟨M9, hM9, h⟩ := bnd h
  refine e_iast d_Book_enterClaim_29 hM9 ?_
  refine e_aload_n d_Book_enterClaim_30 rfl ?_
  obtain ⟨v10, hv10, h⟩ := bnd h
  refine e_getR d_Book_enterClaim_31 fl_Book_15 (fun _ _ _ => rfl) hv10 ?_
  refine e_aload_n d_Book_enterClaim_34 rfl ?_
  obtain ⟨v11, hv11, h⟩ := bnd h
  refine e_getI d_Book_enterClaim_35 fl_Book_9 (fun _ _ _ => rfl) hv11 ?_
  refine e_iload d_Book_enterClaim_38 rfl ?_
  obtain ⟨M12, hM12, h⟩ := bnd h
  refine e_iast d_Book_enterClaim_40 hM12 ?_
  refine e_aload_n d_Book_enterClaim_41 rfl ?_
  obtain ⟨v13, hv13, h⟩ := bnd h
  refine e_getR d_Book_enterClaim_42 fl_Book_33 (fun _ _ _ => rfl) hv13 ?_
  refine e_aload_n d_Book_enterClaim_45 rfl ?_
  obtain ⟨v14, hv14, h⟩ := bnd h
  refine e_getI d_Book_enterClaim_46 fl_Book_9 (fun _ _ _ => rfl) hv14 ?_
  refine e_iconst (v := (-1)) d_Book_enterClaim_49 (by decide) ?_
  obtain ⟨M15, hM15, h⟩ := bnd h
  refine e_iast d_Book_enterClaim_50 hM15 ?_
  refine e_aload d_Book_enterClaim_51 rfl ?_
  refine e_aload_n d_Book_enterClaim_53 rfl ?_
  obtain ⟨v16, hv16, h⟩ := bnd h
  refine e_getR d_Book_enterClaim_54 fl_Book_30 (fun _ _ _ => rfl) hv16 ?_
  refine e_aload_n d_Book_enterClaim_57 rfl ?_
  obtain ⟨v17, hv17, h⟩ := bnd h
  refine e_getI d_Book_enterClaim_58 fl_Book_9 (fun _ _ _ => rfl) hv17 ?_
  obtain ⟨v18, hv18, h⟩ := bnd h
  refine e_aald (kd := 106) d_Book_enterClaim_61 (by decide) hv18 ?_
  obtain ⟨M19, hM19, h⟩ := bnd h
  refine e_cVv (mt1 := m_Table_copyCodes) (As := [.ref v18]) (st := []) d_Book_enterClaim_62 ml_Book_36 mv_Table_copyCodes (t_Table_copyCodes n x5 v18 M15 M19 hM19) (fc_Table_copyCodes hM19) rfl rfl rfl (okp rfl) (okp rfl) (okp rfl) (Nat.le_refl _) (Nat.le_refl _) ?_
  refine e_aload_n d_Book_enterClaim_65 rfl ?_
  refine e_dup d_Book_enterClaim_66 rfl ?_
  obtain ⟨v20, hv20, h⟩ := bnd h
  refine e_getI d_Book_enterClaim_67 fl_Book_9 (fun _ _ _ => rfl) hv20 ?_
  refine e_iconst (v := 1) d_Book_enterClaim_70 (by decide) ?_
  refine e_iadd d_Book_enterClaim_71 ?_
  obtain ⟨M21, hM21, h⟩ := bnd h
  refine e_putI d_Book_enterClaim_72 fl_Book_9 (Or.inl rfl) (fun _ _ _ => rfl) rfl hM21 ?_
  refine e_aload_n d_Book_enterClaim_75 rfl ?_
  obtain ⟨v22, hv22, h⟩ := bnd h
  refine e_getI d_Book_enterClaim_76 fl_Book_9 (fun _ _ _ => rfl) hv22 ?_
  refine e_iconst (v := 1) d_Book_enterClaim_79 (by decide) ?_
  refine e_isub d_Book_enterClaim_80 ?_
  cases h
  exact e_iret d_Book_enterClaim_81 rfl (Nat.le_refl _) (Nat.le_refl _)
theorem d_Book_isClaim_0 : DC m_Book_isClaim 0 (.iload_n 1) 1 1 := ⟨by decide +kernel, rfl⟩
theorem d_Book_isClaim_1 : DC m_Book_isClaim 1 (.ifCond .lt 25) 3 4 := ⟨by decide +kernel, rfl⟩
theorem d_Book_isClaim_4 : DC m_Book_isClaim 4 (.iload_n 1) 1 5 := ⟨by decide +kernel, rfl⟩
theorem d_Book_isClaim_5 : DC m_Book_isClaim 5 (.aload_n 0) 1 6 := ⟨by decide +kernel, rfl⟩
theorem d_Book_isClaim_6 : DC m_Book_isClaim 6 (.getfield 9) 3 9 := ⟨by decide +kernel, rfl⟩
theorem d_Book_isClaim_9 : DC m_Book_isClaim 9 (.if_icmp .ge 17) 3 12 := ⟨by decide +kernel, rfl⟩
theorem d_Book_isClaim_12 : DC m_Book_isClaim 12 (.aload_n 0) 1 13 := ⟨by decide +kernel, rfl⟩
theorem d_Book_isClaim_13 : DC m_Book_isClaim 13 (.getfield 33) 3 16 := ⟨by decide +kernel, rfl⟩
theorem d_Book_isClaim_16 : DC m_Book_isClaim 16 (.iload_n 1) 1 17 := ⟨by decide +kernel, rfl⟩
theorem d_Book_isClaim_17 : DC m_Book_isClaim 17 .iaload 1 18 := ⟨by decide +kernel, rfl⟩
theorem d_Book_isClaim_18 : DC m_Book_isClaim 18 (.iconst (-1)) 1 19 := ⟨by decide +kernel, rfl⟩
theorem d_Book_isClaim_19 : DC m_Book_isClaim 19 (.if_icmp .ne 7) 3 22 := ⟨by decide +kernel, rfl⟩
theorem d_Book_isClaim_22 : DC m_Book_isClaim 22 (.iconst 1) 1 23 := ⟨by decide +kernel, rfl⟩
theorem d_Book_isClaim_23 : DC m_Book_isClaim 23 (.goto 4) 3 26 := ⟨by decide +kernel, rfl⟩
theorem d_Book_isClaim_26 : DC m_Book_isClaim 26 (.iconst 0) 1 27 := ⟨by decide +kernel, rfl⟩
theorem d_Book_isClaim_27 : DC m_Book_isClaim 27 .ireturn 1 28 := ⟨by decide +kernel, rfl⟩
def f_Book_isClaim (n : Nat) (x0 : Nat) (x1 : Int32) (M : MM) : Option (Int32 × MM) :=
  og 0 x0 M <|
  if x1 < 0 then
    some (0, M)
  else
    (gI 0 0 x0 M).bind fun v2 =>
    if v2 ≤ x1 then
      some (0, M)
    else
      (gR 0 6 x0 M).bind fun v4 =>
      (aI 100 v4 x1 M).bind fun v5 =>
      if v5 = (-1) then
        some (1, M)
      else
        some (0, M)
theorem fc_Book_isClaim {n : Nat} {x0 : Nat} {x1 : Int32} {M : MM} {z : Int32 × MM} (h : f_Book_isClaim n x0 x1 M = some z) : (M.1.2.1 x0).1 = 0 := by
  unfold f_Book_isClaim at h
  exact (og_s h).1
theorem t_Book_isClaim (n : Nat) (x0 : Nat) (x1 : Int32) (M : MM) (z : Int32 × MM) (h : f_Book_isClaim n x0 x1 M = some z) : CT m_Book_isClaim (rm 1 0 0) [.ref x0, .int x1] M (some (.int z.1)) z.2 := by
  unfold f_Book_isClaim at h
  obtain ⟨hthis, h⟩ := og_s h
  refine CT.of (ls := [some (.ref x0), some (.int x1)]) rfl (okp rfl) rfl ?_
  refine e_iload_n d_Book_isClaim_0 rfl ?_
  refine e_if_lt 26 d_Book_isClaim_1 (by decide) (fun c1 => ?_) (fun c1 => ?_)
  · replace h := ift c1 h
    refine e_iconst (v := 0) d_Book_isClaim_26 (by decide) ?_
    cases h
    exact e_zret (ty := .boolean) d_Book_isClaim_27 rfl narZ0 (Nat.le_refl _) (Nat.le_refl _)
  · replace h := ifn c1 h
    refine e_iload_n d_Book_isClaim_4 rfl ?_
    refine e_aload_n d_Book_isClaim_5 rfl ?_
    obtain ⟨v2, hv2, h⟩ := bnd h
    refine e_getI d_Book_isClaim_6 fl_Book_9 (fun _ _ _ => rfl) hv2 ?_
    refine e_ic_ge 26 d_Book_isClaim_9 (by decide) (fun c3 => ?_) (fun c3 => ?_)
    · replace h := ift c3 h
      refine e_iconst (v := 0) d_Book_isClaim_26 (by decide) ?_
      cases h
      exact e_zret (ty := .boolean) d_Book_isClaim_27 rfl narZ0 (Nat.le_refl _) (Nat.le_refl _)
    · replace h := ifn c3 h
      refine e_aload_n d_Book_isClaim_12 rfl ?_
      obtain ⟨v4, hv4, h⟩ := bnd h
      refine e_getR d_Book_isClaim_13 fl_Book_33 (fun _ _ _ => rfl) hv4 ?_
      refine e_iload_n d_Book_isClaim_16 rfl ?_
      obtain ⟨v5, hv5, h⟩ := bnd h
      refine e_iald d_Book_isClaim_17 hv5 ?_
      refine e_iconst (v := (-1)) d_Book_isClaim_18 (by decide) ?_
      refine e_ic_ne 26 d_Book_isClaim_19 (by decide) (fun c6 => ?_) (fun c6 => ?_)
      · replace h := ifn c6 h
        refine e_iconst (v := 0) d_Book_isClaim_26 (by decide) ?_
        cases h
        exact e_zret (ty := .boolean) d_Book_isClaim_27 rfl narZ0 (Nat.le_refl _) (Nat.le_refl _)
      · replace h := ift c6 h
        refine e_iconst (v := 1) d_Book_isClaim_22 (by decide) ?_
        refine e_goto 27 d_Book_isClaim_23 (by decide) ?_
        cases h
        exact e_zret (ty := .boolean) d_Book_isClaim_27 rfl narZ1 (Nat.le_refl _) (Nat.le_refl _)
theorem d_Book_enterVoid_0 : DC m_Book_enterVoid 0 (.aload_n 0) 1 1 := ⟨by decide +kernel, rfl⟩
theorem d_Book_enterVoid_1 : DC m_Book_enterVoid 1 (.getfield 33) 3 4 := ⟨by decide +kernel, rfl⟩
theorem d_Book_enterVoid_4 : DC m_Book_enterVoid 4 (.aload_n 0) 1 5 := ⟨by decide +kernel, rfl⟩
theorem d_Book_enterVoid_5 : DC m_Book_enterVoid 5 (.getfield 9) 3 8 := ⟨by decide +kernel, rfl⟩
theorem d_Book_enterVoid_8 : DC m_Book_enterVoid 8 (.iload_n 1) 1 9 := ⟨by decide +kernel, rfl⟩
theorem d_Book_enterVoid_9 : DC m_Book_enterVoid 9 .iastore 1 10 := ⟨by decide +kernel, rfl⟩
theorem d_Book_enterVoid_10 : DC m_Book_enterVoid 10 (.aload_n 0) 1 11 := ⟨by decide +kernel, rfl⟩
theorem d_Book_enterVoid_11 : DC m_Book_enterVoid 11 .dup 1 12 := ⟨by decide +kernel, rfl⟩
theorem d_Book_enterVoid_12 : DC m_Book_enterVoid 12 (.getfield 9) 3 15 := ⟨by decide +kernel, rfl⟩
theorem d_Book_enterVoid_15 : DC m_Book_enterVoid 15 (.iconst 1) 1 16 := ⟨by decide +kernel, rfl⟩
theorem d_Book_enterVoid_16 : DC m_Book_enterVoid 16 .iadd 1 17 := ⟨by decide +kernel, rfl⟩
theorem d_Book_enterVoid_17 : DC m_Book_enterVoid 17 (.putfield 9) 3 20 := ⟨by decide +kernel, rfl⟩
theorem d_Book_enterVoid_20 : DC m_Book_enterVoid 20 (.aload_n 0) 1 21 := ⟨by decide +kernel, rfl⟩
theorem d_Book_enterVoid_21 : DC m_Book_enterVoid 21 (.getfield 9) 3 24 := ⟨by decide +kernel, rfl⟩
theorem d_Book_enterVoid_24 : DC m_Book_enterVoid 24 (.iconst 1) 1 25 := ⟨by decide +kernel, rfl⟩
theorem d_Book_enterVoid_25 : DC m_Book_enterVoid 25 .isub 1 26 := ⟨by decide +kernel, rfl⟩
theorem d_Book_enterVoid_26 : DC m_Book_enterVoid 26 .ireturn 1 27 := ⟨by decide +kernel, rfl⟩
def f_Book_enterVoid (n : Nat) (x0 : Nat) (x1 : Int32) (M : MM) : Option (Int32 × MM) :=
  og 0 x0 M <|
  (gR 0 6 x0 M).bind fun v1 =>
  (gI 0 0 x0 M).bind fun v2 =>
  (sI 100 v1 v2 x1 M).bind fun M3 =>
  (gI 0 0 x0 M3).bind fun v4 =>
  (pI 0 0 x0 (v4 + 1) M3).bind fun M5 =>
  (gI 0 0 x0 M5).bind fun v6 =>
  some ((v6 - 1), M5)
theorem fc_Book_enterVoid {n : Nat} {x0 : Nat} {x1 : Int32} {M : MM} {z : Int32 × MM} (h : f_Book_enterVoid n x0 x1 M = some z) : (M.1.2.1 x0).1 = 0 := by
  unfold f_Book_enterVoid at h
  exact (og_s h).1
theorem t_Book_enterVoid (n : Nat) (x0 : Nat) (x1 : Int32) (M : MM) (z : Int32 × MM) (h : f_Book_enterVoid n x0 x1 M = some z) : CT m_Book_enterVoid (rm 1 0 0) [.ref x0, .int x1] M (some (.int z.1)) z.2 := by
  unfold f_Book_enterVoid at h
  obtain ⟨hthis, h⟩ := og_s h
  refine CT.of (ls := [some (.ref x0), some (.int x1)]) rfl (okp rfl) rfl ?_
  refine e_aload_n d_Book_enterVoid_0 rfl ?_
  obtain ⟨v1, hv1, h⟩ := bnd h
  refine e_getR d_Book_enterVoid_1 fl_Book_33 (fun _ _ _ => rfl) hv1 ?_
  refine e_aload_n d_Book_enterVoid_4 rfl ?_
  obtain ⟨v2, hv2, h⟩ := bnd h
  refine e_getI d_Book_enterVoid_5 fl_Book_9 (fun _ _ _ => rfl) hv2 ?_
  refine e_iload_n d_Book_enterVoid_8 rfl ?_
  obtain ⟨M3, hM3, h⟩ := bnd h
  refine e_iast d_Book_enterVoid_9 hM3 ?_
  refine e_aload_n d_Book_enterVoid_10 rfl ?_
  refine e_dup d_Book_enterVoid_11 rfl ?_
  obtain ⟨v4, hv4, h⟩ := bnd h
  refine e_getI d_Book_enterVoid_12 fl_Book_9 (fun _ _ _ => rfl) hv4 ?_
  refine e_iconst (v := 1) d_Book_enterVoid_15 (by decide) ?_
  refine e_iadd d_Book_enterVoid_16 ?_
  obtain ⟨M5, hM5, h⟩ := bnd h
  refine e_putI d_Book_enterVoid_17 fl_Book_9 (Or.inl rfl) (fun _ _ _ => rfl) rfl hM5 ?_
  refine e_aload_n d_Book_enterVoid_20 rfl ?_
  obtain ⟨v6, hv6, h⟩ := bnd h
  refine e_getI d_Book_enterVoid_21 fl_Book_9 (fun _ _ _ => rfl) hv6 ?_
  refine e_iconst (v := 1) d_Book_enterVoid_24 (by decide) ?_
  refine e_isub d_Book_enterVoid_25 ?_
  cases h
  exact e_iret d_Book_enterVoid_26 rfl (Nat.le_refl _) (Nat.le_refl _)
theorem d_Book_isKnownRight_0 : DC m_Book_isKnownRight 0 (.iload_n 1) 1 1 := ⟨by decide +kernel, rfl⟩
theorem d_Book_isKnownRight_1 : DC m_Book_isKnownRight 1 (.iload_n 2) 1 2 := ⟨by decide +kernel, rfl⟩
theorem d_Book_isKnownRight_2 : DC m_Book_isKnownRight 2 (.if_icmp .ge 20) 3 5 := ⟨by decide +kernel, rfl⟩
theorem d_Book_isKnownRight_5 : DC m_Book_isKnownRight 5 (.aload_n 0) 1 6 := ⟨by decide +kernel, rfl⟩
theorem d_Book_isKnownRight_6 : DC m_Book_isKnownRight 6 (.iload_n 1) 1 7 := ⟨by decide +kernel, rfl⟩
theorem d_Book_isKnownRight_7 : DC m_Book_isKnownRight 7 (.invokevirtual 42) 3 10 := ⟨by decide +kernel, rfl⟩
theorem d_Book_isKnownRight_10 : DC m_Book_isKnownRight 10 (.ifCond .eq 12) 3 13 := ⟨by decide +kernel, rfl⟩
theorem d_Book_isKnownRight_13 : DC m_Book_isKnownRight 13 (.aload_n 0) 1 14 := ⟨by decide +kernel, rfl⟩
theorem d_Book_isKnownRight_14 : DC m_Book_isKnownRight 14 (.getfield 15) 3 17 := ⟨by decide +kernel, rfl⟩
theorem d_Book_isKnownRight_17 : DC m_Book_isKnownRight 17 (.iload_n 1) 1 18 := ⟨by decide +kernel, rfl⟩
theorem d_Book_isKnownRight_18 : DC m_Book_isKnownRight 18 .iaload 1 19 := ⟨by decide +kernel, rfl⟩
theorem d_Book_isKnownRight_19 : DC m_Book_isKnownRight 19 (.ifCond .eq 5) 3 22 := ⟨by decide +kernel, rfl⟩
theorem d_Book_isKnownRight_22 : DC m_Book_isKnownRight 22 (.iconst 0) 1 23 := ⟨by decide +kernel, rfl⟩
theorem d_Book_isKnownRight_23 : DC m_Book_isKnownRight 23 .ireturn 1 24 := ⟨by decide +kernel, rfl⟩
theorem d_Book_isKnownRight_24 : DC m_Book_isKnownRight 24 (.iload_n 1) 1 25 := ⟨by decide +kernel, rfl⟩
theorem d_Book_isKnownRight_25 : DC m_Book_isKnownRight 25 (.iconst 1) 1 26 := ⟨by decide +kernel, rfl⟩
theorem d_Book_isKnownRight_26 : DC m_Book_isKnownRight 26 .iadd 1 27 := ⟨by decide +kernel, rfl⟩
theorem d_Book_isKnownRight_27 : DC m_Book_isKnownRight 27 (.istore_n 3) 1 28 := ⟨by decide +kernel, rfl⟩
theorem d_Book_isKnownRight_28 : DC m_Book_isKnownRight 28 (.iload_n 3) 1 29 := ⟨by decide +kernel, rfl⟩
theorem d_Book_isKnownRight_29 : DC m_Book_isKnownRight 29 (.iload_n 2) 1 30 := ⟨by decide +kernel, rfl⟩
theorem d_Book_isKnownRight_30 : DC m_Book_isKnownRight 30 (.if_icmp .ge 29) 3 33 := ⟨by decide +kernel, rfl⟩
theorem d_Book_isKnownRight_33 : DC m_Book_isKnownRight 33 (.iload_n 3) 1 34 := ⟨by decide +kernel, rfl⟩
theorem d_Book_isKnownRight_34 : DC m_Book_isKnownRight 34 (.aload_n 0) 1 35 := ⟨by decide +kernel, rfl⟩
theorem d_Book_isKnownRight_35 : DC m_Book_isKnownRight 35 (.getfield 9) 3 38 := ⟨by decide +kernel, rfl⟩
theorem d_Book_isKnownRight_38 : DC m_Book_isKnownRight 38 (.if_icmp .ge 21) 3 41 := ⟨by decide +kernel, rfl⟩
theorem d_Book_isKnownRight_41 : DC m_Book_isKnownRight 41 (.aload_n 0) 1 42 := ⟨by decide +kernel, rfl⟩
theorem d_Book_isKnownRight_42 : DC m_Book_isKnownRight 42 (.getfield 33) 3 45 := ⟨by decide +kernel, rfl⟩
theorem d_Book_isKnownRight_45 : DC m_Book_isKnownRight 45 (.iload_n 3) 1 46 := ⟨by decide +kernel, rfl⟩
theorem d_Book_isKnownRight_46 : DC m_Book_isKnownRight 46 .iaload 1 47 := ⟨by decide +kernel, rfl⟩
theorem d_Book_isKnownRight_47 : DC m_Book_isKnownRight 47 (.iload_n 1) 1 48 := ⟨by decide +kernel, rfl⟩
theorem d_Book_isKnownRight_48 : DC m_Book_isKnownRight 48 (.if_icmp .ne 5) 3 51 := ⟨by decide +kernel, rfl⟩
theorem d_Book_isKnownRight_51 : DC m_Book_isKnownRight 51 (.iconst 0) 1 52 := ⟨by decide +kernel, rfl⟩
theorem d_Book_isKnownRight_52 : DC m_Book_isKnownRight 52 .ireturn 1 53 := ⟨by decide +kernel, rfl⟩
theorem d_Book_isKnownRight_53 : DC m_Book_isKnownRight 53 (.iinc 3 1) 3 56 := ⟨by decide +kernel, rfl⟩
theorem d_Book_isKnownRight_56 : DC m_Book_isKnownRight 56 (.goto (-28)) 3 59 := ⟨by decide +kernel, rfl⟩
theorem d_Book_isKnownRight_59 : DC m_Book_isKnownRight 59 (.iconst 1) 1 60 := ⟨by decide +kernel, rfl⟩
theorem d_Book_isKnownRight_60 : DC m_Book_isKnownRight 60 .ireturn 1 61 := ⟨by decide +kernel, rfl⟩
def f_Book_isKnownRight_28 (n : Nat) : Nat → Nat → Int32 → Int32 → Int32 → MM → Option (Int32 × MM)
  | 0, _, _, _, _, _ => none
  | m + 1, x0, x1, x2, x3, M =>
    if x2 ≤ x3 then
      some (1, M)
    else
      (gI 0 0 x0 M).bind fun v2 =>
      if v2 ≤ x3 then
        some (1, M)
      else
        (gR 0 6 x0 M).bind fun v4 =>
        (aI 100 v4 x3 M).bind fun v5 =>
        if v5 = x1 then
          some (0, M)
        else
          f_Book_isKnownRight_28 n m x0 x1 x2 (x3 + 1) M
theorem t_Book_isKnownRight_28 (n : Nat) : ∀ (m : Nat) (x0 : Nat) (x1 : Int32) (x2 : Int32) (x3 : Int32) (M : MM) (z : Int32 × MM), f_Book_isKnownRight_28 n m x0 x1 x2 x3 M = some z → EV m_Book_isKnownRight (rm 2 0 0) (some (.int z.1)) z.2 0 0 28 [some (.ref x0), some (.int x1), some (.int x2), some (.int x3)] [] M := by
  intro m
  induction m with
  | zero => intro x0 x1 x2 x3 M z h; cases h
  | succ m ih =>
    intro x0 x1 x2 x3 M z h
    rw [f_Book_isKnownRight_28] at h
    refine e_iload_n d_Book_isKnownRight_28 rfl ?_
    refine e_iload_n d_Book_isKnownRight_29 rfl ?_
    refine e_ic_ge 59 d_Book_isKnownRight_30 (by decide) (fun c1 => ?_) (fun c1 => ?_)
    · replace h := ift c1 h
      refine e_iconst (v := 1) d_Book_isKnownRight_59 (by decide) ?_
      cases h
      exact e_zret (ty := .boolean) d_Book_isKnownRight_60 rfl narZ1 (Nat.le_refl _) (Nat.le_refl _)
    · replace h := ifn c1 h
      refine e_iload_n d_Book_isKnownRight_33 rfl ?_
      refine e_aload_n d_Book_isKnownRight_34 rfl ?_
      obtain ⟨v2, hv2, h⟩ := bnd h
      refine e_getI d_Book_isKnownRight_35 fl_Book_9 (fun _ _ _ => rfl) hv2 ?_
      refine e_ic_ge 59 d_Book_isKnownRight_38 (by decide) (fun c3 => ?_) (fun c3 => ?_)
      · replace h := ift c3 h
        refine e_iconst (v := 1) d_Book_isKnownRight_59 (by decide) ?_
        cases h
        exact e_zret (ty := .boolean) d_Book_isKnownRight_60 rfl narZ1 (Nat.le_refl _) (Nat.le_refl _)
      · replace h := ifn c3 h
        refine e_aload_n d_Book_isKnownRight_41 rfl ?_
        obtain ⟨v4, hv4, h⟩ := bnd h
        refine e_getR d_Book_isKnownRight_42 fl_Book_33 (fun _ _ _ => rfl) hv4 ?_
        refine e_iload_n d_Book_isKnownRight_45 rfl ?_
        obtain ⟨v5, hv5, h⟩ := bnd h
        refine e_iald d_Book_isKnownRight_46 hv5 ?_
        refine e_iload_n d_Book_isKnownRight_47 rfl ?_
        refine e_ic_ne 53 d_Book_isKnownRight_48 (by decide) (fun c6 => ?_) (fun c6 => ?_)
        · replace h := ifn c6 h
          refine e_iinc (v := x3 + 1) (l2 := [some (.ref x0), some (.int x1), some (.int x2), some (.int (x3 + 1))]) d_Book_isKnownRight_53 rfl rfl rfl (okl rfl) rfl ?_
          refine e_goto 28 d_Book_isKnownRight_56 (by decide) ?_
          exact (ih x0 x1 x2 (x3 + 1) M z h).less (show LSub _ _ from ⟨rfl, ⟨rfl, ⟨rfl, ⟨rfl, trivial⟩⟩⟩⟩)
        · replace h := ift c6 h
          refine e_iconst (v := 0) d_Book_isKnownRight_51 (by decide) ?_
          cases h
          exact e_zret (ty := .boolean) d_Book_isKnownRight_52 rfl narZ0 (Nat.le_refl _) (Nat.le_refl _)
def f_Book_isKnownRight (n : Nat) (x0 : Nat) (x1 : Int32) (x2 : Int32) (M : MM) : Option (Int32 × MM) :=
  og 0 x0 M <|
  if x2 ≤ x1 then
    some (0, M)
  else
    (f_Book_isClaim n x0 x1 M).bind fun p8 =>
    if p8.1 = 0 then
      some (0, p8.2)
    else
      (gR 0 1 x0 p8.2).bind fun v10 =>
      (aI 100 v10 x1 p8.2).bind fun v11 =>
      if v11 = 0 then
        nm (α := Int32) (x1 + 1) fun y13 =>
        f_Book_isKnownRight_28 n n x0 x1 x2 y13 p8.2
      else
        some (0, p8.2)
theorem fc_Book_isKnownRight {n : Nat} {x0 : Nat} {x1 : Int32} {x2 : Int32} {M : MM} {z : Int32 × MM} (h : f_Book_isKnownRight n x0 x1 x2 M = some z) : (M.1.2.1 x0).1 = 0 := by
  unfold f_Book_isKnownRight at h
  exact (og_s h).1
theorem t_Book_isKnownRight (n : Nat) (x0 : Nat) (x1 : Int32) (x2 : Int32) (M : MM) (z : Int32 × MM) (h : f_Book_isKnownRight n x0 x1 x2 M = some z) : CT m_Book_isKnownRight (rm 2 0 0) [.ref x0, .int x1, .int x2] M (some (.int z.1)) z.2 := by
  unfold f_Book_isKnownRight at h
  obtain ⟨hthis, h⟩ := og_s h
  refine CT.of (ls := [some (.ref x0), some (.int x1), some (.int x2), none]) rfl (okp rfl) rfl ?_
  refine e_iload_n d_Book_isKnownRight_0 rfl ?_
  refine e_iload_n d_Book_isKnownRight_1 rfl ?_
  refine e_ic_ge 22 d_Book_isKnownRight_2 (by decide) (fun c7 => ?_) (fun c7 => ?_)
  · replace h := ift c7 h
    refine e_iconst (v := 0) d_Book_isKnownRight_22 (by decide) ?_
    cases h
    exact e_zret (ty := .boolean) d_Book_isKnownRight_23 rfl narZ0 (Nat.le_refl _) (Nat.le_refl _)
  · replace h := ifn c7 h
    refine e_aload_n d_Book_isKnownRight_5 rfl ?_
    refine e_iload_n d_Book_isKnownRight_6 rfl ?_
    obtain ⟨p8, hp8, h⟩ := bnd h
    refine e_cVi (mt1 := m_Book_isClaim) (As := [.int x1]) (st := []) d_Book_isKnownRight_7 ml_Book_42 mv_Book_isClaim (t_Book_isClaim n x0 x1 M p8 hp8) (fc_Book_isClaim hp8) rfl rfl rfl (okp rfl) (okp rfl) (okp rfl) (Nat.le_refl _) (Nat.le_refl _) ?_
    refine e_if_eq 22 d_Book_isKnownRight_10 (by decide) (fun c9 => ?_) (fun c9 => ?_)
    · replace h := ift c9 h
      refine e_iconst (v := 0) d_Book_isKnownRight_22 (by decide) ?_
      cases h
      exact e_zret (ty := .boolean) d_Book_isKnownRight_23 rfl narZ0 (Nat.le_refl _) (Nat.le_refl _)
    · replace h := ifn c9 h
      refine e_aload_n d_Book_isKnownRight_13 rfl ?_
      obtain ⟨v10, hv10, h⟩ := bnd h
      refine e_getR d_Book_isKnownRight_14 fl_Book_15 (fun _ _ _ => rfl) hv10 ?_
      refine e_iload_n d_Book_isKnownRight_17 rfl ?_
      obtain ⟨v11, hv11, h⟩ := bnd h
      refine e_iald d_Book_isKnownRight_18 hv11 ?_
      refine e_if_eq 24 d_Book_isKnownRight_19 (by decide) (fun c12 => ?_) (fun c12 => ?_)
      · replace h := ift c12 h
        refine e_iload_n d_Book_isKnownRight_24 rfl ?_
        refine e_iconst (v := 1) d_Book_isKnownRight_25 (by decide) ?_
        refine e_iadd d_Book_isKnownRight_26 ?_
        obtain ⟨y13, ey13, h⟩ := nm_s h
        refine e_nameI ey13 ?_
        refine e_istore_n (l2 := [some (.ref x0), some (.int x1), some (.int x2), some (.int y13)]) d_Book_isKnownRight_27 rfl (okl rfl) rfl ?_
        exact (t_Book_isKnownRight_28 n n x0 x1 x2 y13 p8.2 z h).less (show LSub _ _ from ⟨rfl, ⟨rfl, ⟨rfl, ⟨rfl, trivial⟩⟩⟩⟩)
      · replace h := ifn c12 h
        refine e_iconst (v := 0) d_Book_isKnownRight_22 (by decide) ?_
        cases h
        exact e_zret (ty := .boolean) d_Book_isKnownRight_23 rfl narZ0 (Nat.le_refl _) (Nat.le_refl _)
theorem d_Book_areSame_0 : DC m_Book_areSame 0 (.aload_n 0) 1 1 := ⟨by decide +kernel, rfl⟩
theorem d_Book_areSame_1 : DC m_Book_areSame 1 (.getfield 22) 3 4 := ⟨by decide +kernel, rfl⟩
theorem d_Book_areSame_4 : DC m_Book_areSame 4 (.iload_n 1) 1 5 := ⟨by decide +kernel, rfl⟩
theorem d_Book_areSame_5 : DC m_Book_areSame 5 .iaload 1 6 := ⟨by decide +kernel, rfl⟩
theorem d_Book_areSame_6 : DC m_Book_areSame 6 (.aload_n 0) 1 7 := ⟨by decide +kernel, rfl⟩
theorem d_Book_areSame_7 : DC m_Book_areSame 7 (.getfield 22) 3 10 := ⟨by decide +kernel, rfl⟩
theorem d_Book_areSame_10 : DC m_Book_areSame 10 (.iload_n 2) 1 11 := ⟨by decide +kernel, rfl⟩
theorem d_Book_areSame_11 : DC m_Book_areSame 11 .iaload 1 12 := ⟨by decide +kernel, rfl⟩
theorem d_Book_areSame_12 : DC m_Book_areSame 12 (.if_icmp .ne 18) 3 15 := ⟨by decide +kernel, rfl⟩
theorem d_Book_areSame_15 : DC m_Book_areSame 15 (.aload_n 0) 1 16 := ⟨by decide +kernel, rfl⟩
theorem d_Book_areSame_16 : DC m_Book_areSame 16 (.getfield 25) 3 19 := ⟨by decide +kernel, rfl⟩
theorem d_Book_areSame_19 : DC m_Book_areSame 19 (.iload_n 1) 1 20 := ⟨by decide +kernel, rfl⟩
theorem d_Book_areSame_20 : DC m_Book_areSame 20 .iaload 1 21 := ⟨by decide +kernel, rfl⟩
theorem d_Book_areSame_21 : DC m_Book_areSame 21 (.aload_n 0) 1 22 := ⟨by decide +kernel, rfl⟩
theorem d_Book_areSame_22 : DC m_Book_areSame 22 (.getfield 25) 3 25 := ⟨by decide +kernel, rfl⟩
theorem d_Book_areSame_25 : DC m_Book_areSame 25 (.iload_n 2) 1 26 := ⟨by decide +kernel, rfl⟩
theorem d_Book_areSame_26 : DC m_Book_areSame 26 .iaload 1 27 := ⟨by decide +kernel, rfl⟩
theorem d_Book_areSame_27 : DC m_Book_areSame 27 (.if_icmp .eq 5) 3 30 := ⟨by decide +kernel, rfl⟩
theorem d_Book_areSame_30 : DC m_Book_areSame 30 (.iconst 0) 1 31 := ⟨by decide +kernel, rfl⟩
theorem d_Book_areSame_31 : DC m_Book_areSame 31 .ireturn 1 32 := ⟨by decide +kernel, rfl⟩
theorem d_Book_areSame_32 : DC m_Book_areSame 32 (.iconst 0) 1 33 := ⟨by decide +kernel, rfl⟩
theorem d_Book_areSame_33 : DC m_Book_areSame 33 (.istore_n 3) 1 34 := ⟨by decide +kernel, rfl⟩
theorem d_Book_areSame_34 : DC m_Book_areSame 34 (.iload_n 3) 1 35 := ⟨by decide +kernel, rfl⟩
theorem d_Book_areSame_35 : DC m_Book_areSame 35 (.bipush 8) 2 37 := ⟨by decide +kernel, rfl⟩
theorem d_Book_areSame_37 : DC m_Book_areSame 37 (.if_icmp .ge 30) 3 40 := ⟨by decide +kernel, rfl⟩
theorem d_Book_areSame_40 : DC m_Book_areSame 40 (.aload_n 0) 1 41 := ⟨by decide +kernel, rfl⟩
theorem d_Book_areSame_41 : DC m_Book_areSame 41 (.getfield 30) 3 44 := ⟨by decide +kernel, rfl⟩
theorem d_Book_areSame_44 : DC m_Book_areSame 44 (.iload_n 1) 1 45 := ⟨by decide +kernel, rfl⟩
theorem d_Book_areSame_45 : DC m_Book_areSame 45 .aaload 1 46 := ⟨by decide +kernel, rfl⟩
theorem d_Book_areSame_46 : DC m_Book_areSame 46 (.iload_n 3) 1 47 := ⟨by decide +kernel, rfl⟩
theorem d_Book_areSame_47 : DC m_Book_areSame 47 .iaload 1 48 := ⟨by decide +kernel, rfl⟩
theorem d_Book_areSame_48 : DC m_Book_areSame 48 (.aload_n 0) 1 49 := ⟨by decide +kernel, rfl⟩
theorem d_Book_areSame_49 : DC m_Book_areSame 49 (.getfield 30) 3 52 := ⟨by decide +kernel, rfl⟩
theorem d_Book_areSame_52 : DC m_Book_areSame 52 (.iload_n 2) 1 53 := ⟨by decide +kernel, rfl⟩
theorem d_Book_areSame_53 : DC m_Book_areSame 53 .aaload 1 54 := ⟨by decide +kernel, rfl⟩
theorem d_Book_areSame_54 : DC m_Book_areSame 54 (.iload_n 3) 1 55 := ⟨by decide +kernel, rfl⟩
theorem d_Book_areSame_55 : DC m_Book_areSame 55 .iaload 1 56 := ⟨by decide +kernel, rfl⟩
theorem d_Book_areSame_56 : DC m_Book_areSame 56 (.if_icmp .eq 5) 3 59 := ⟨by decide +kernel, rfl⟩
theorem d_Book_areSame_59 : DC m_Book_areSame 59 (.iconst 0) 1 60 := ⟨by decide +kernel, rfl⟩
theorem d_Book_areSame_60 : DC m_Book_areSame 60 .ireturn 1 61 := ⟨by decide +kernel, rfl⟩
theorem d_Book_areSame_61 : DC m_Book_areSame 61 (.iinc 3 1) 3 64 := ⟨by decide +kernel, rfl⟩
theorem d_Book_areSame_64 : DC m_Book_areSame 64 (.goto (-30)) 3 67 := ⟨by decide +kernel, rfl⟩
theorem d_Book_areSame_67 : DC m_Book_areSame 67 (.iconst 1) 1 68 := ⟨by decide +kernel, rfl⟩
theorem d_Book_areSame_68 : DC m_Book_areSame 68 .ireturn 1 69 := ⟨by decide +kernel, rfl⟩
def f_Book_areSame_34 (n : Nat) : Nat → Nat → Int32 → Int32 → Int32 → MM → Option (Int32 × MM)
  | 0, _, _, _, _, _ => none
  | m + 1, x0, x1, x2, x3, M =>
    if 8 ≤ x3 then
      some (1, M)
    else
      (gR 0 5 x0 M).bind fun v2 =>
      (aR 106 v2 x1 M).bind fun v3 =>
      (aI 100 v3 x3 M).bind fun v4 =>
      (gR 0 5 x0 M).bind fun v5 =>
      (aR 106 v5 x2 M).bind fun v6 =>
      (aI 100 v6 x3 M).bind fun v7 =>
      if v4 = v7 then
        f_Book_areSame_34 n m x0 x1 x2 (x3 + 1) M
      else
        some (0, M)
theorem t_Book_areSame_34 (n : Nat) : ∀ (m : Nat) (x0 : Nat) (x1 : Int32) (x2 : Int32) (x3 : Int32) (M : MM) (z : Int32 × MM), f_Book_areSame_34 n m x0 x1 x2 x3 M = some z → EV m_Book_areSame (rm 1 0 0) (some (.int z.1)) z.2 0 0 34 [some (.ref x0), some (.int x1), some (.int x2), some (.int x3)] [] M := by
  intro m
  induction m with
  | zero => intro x0 x1 x2 x3 M z h; cases h
  | succ m ih =>
    intro x0 x1 x2 x3 M z h
    rw [f_Book_areSame_34] at h
    refine e_iload_n d_Book_areSame_34 rfl ?_
    refine e_bipush (v := 8) d_Book_areSame_35 (by decide) ?_
    refine e_ic_ge 67 d_Book_areSame_37 (by decide) (fun c1 => ?_) (fun c1 => ?_)
    · replace h := ift c1 h
      refine e_iconst (v := 1) d_Book_areSame_67 (by decide) ?_
      cases h
      exact e_zret (ty := .boolean) d_Book_areSame_68 rfl narZ1 (Nat.le_refl _) (Nat.le_refl _)
    · replace h := ifn c1 h
      refine e_aload_n d_Book_areSame_40 rfl ?_
      obtain ⟨v2, hv2, h⟩ := bnd h
      refine e_getR d_Book_areSame_41 fl_Book_30 (fun _ _ _ => rfl) hv2 ?_
      refine e_iload_n d_Book_areSame_44 rfl ?_
      obtain ⟨v3, hv3, h⟩ := bnd h
      refine e_aald (kd := 106) d_Book_areSame_45 (by decide) hv3 ?_
      refine e_iload_n d_Book_areSame_46 rfl ?_
      obtain ⟨v4, hv4, h⟩ := bnd h
      refine e_iald d_Book_areSame_47 hv4 ?_
      refine e_aload_n d_Book_areSame_48 rfl ?_
      obtain ⟨v5, hv5, h⟩ := bnd h
      refine e_getR d_Book_areSame_49 fl_Book_30 (fun _ _ _ => rfl) hv5 ?_
      refine e_iload_n d_Book_areSame_52 rfl ?_
      obtain ⟨v6, hv6, h⟩ := bnd h
      refine e_aald (kd := 106) d_Book_areSame_53 (by decide) hv6 ?_
      refine e_iload_n d_Book_areSame_54 rfl ?_
      obtain ⟨v7, hv7, h⟩ := bnd h
      refine e_iald d_Book_areSame_55 hv7 ?_
      refine e_ic_eq 61 d_Book_areSame_56 (by decide) (fun c8 => ?_) (fun c8 => ?_)
      · replace h := ift c8 h
        refine e_iinc (v := x3 + 1) (l2 := [some (.ref x0), some (.int x1), some (.int x2), some (.int (x3 + 1))]) d_Book_areSame_61 rfl rfl rfl (okl rfl) rfl ?_
        refine e_goto 34 d_Book_areSame_64 (by decide) ?_
        exact (ih x0 x1 x2 (x3 + 1) M z h).less (show LSub _ _ from ⟨rfl, ⟨rfl, ⟨rfl, ⟨rfl, trivial⟩⟩⟩⟩)
      · replace h := ifn c8 h
        refine e_iconst (v := 0) d_Book_areSame_59 (by decide) ?_
        cases h
        exact e_zret (ty := .boolean) d_Book_areSame_60 rfl narZ0 (Nat.le_refl _) (Nat.le_refl _)
def f_Book_areSame (n : Nat) (x0 : Nat) (x1 : Int32) (x2 : Int32) (M : MM) : Option (Int32 × MM) :=
  og 0 x0 M <|
  (gR 0 3 x0 M).bind fun v9 =>
  (aI 100 v9 x1 M).bind fun v10 =>
  (gR 0 3 x0 M).bind fun v11 =>
  (aI 100 v11 x2 M).bind fun v12 =>
  if v10 = v12 then
    (gR 0 4 x0 M).bind fun v14 =>
    (aI 100 v14 x1 M).bind fun v15 =>
    (gR 0 4 x0 M).bind fun v16 =>
    (aI 100 v16 x2 M).bind fun v17 =>
    if v15 = v17 then
      f_Book_areSame_34 n n x0 x1 x2 0 M
    else
      some (0, M)
  else
    some (0, M)
theorem fc_Book_areSame {n : Nat} {x0 : Nat} {x1 : Int32} {x2 : Int32} {M : MM} {z : Int32 × MM} (h : f_Book_areSame n x0 x1 x2 M = some z) : (M.1.2.1 x0).1 = 0 := by
  unfold f_Book_areSame at h
  exact (og_s h).1
theorem t_Book_areSame (n : Nat) (x0 : Nat) (x1 : Int32) (x2 : Int32) (M : MM) (z : Int32 × MM) (h : f_Book_areSame n x0 x1 x2 M = some z) : CT m_Book_areSame (rm 1 0 0) [.ref x0, .int x1, .int x2] M (some (.int z.1)) z.2 := by
  unfold f_Book_areSame at h
  obtain ⟨hthis, h⟩ := og_s h
  refine CT.of (ls := [some (.ref x0), some (.int x1), some (.int x2), none]) rfl (okp rfl) rfl ?_
  refine e_aload_n d_Book_areSame_0 rfl ?_
  obtain ⟨v9, hv9, h⟩ := bnd h
  refine e_getR d_Book_areSame_1 fl_Book_22 (fun _ _ _ => rfl) hv9 ?_
  refine e_iload_n d_Book_areSame_4 rfl ?_
  obtain ⟨v10, hv10, h⟩ := bnd h
  refine e_iald d_Book_areSame_5 hv10 ?_
  refine e_aload_n d_Book_areSame_6 rfl ?_
  obtain ⟨v11, hv11, h⟩ := bnd h
  refine e_getR d_Book_areSame_7 fl_Book_22 (fun _ _ _ => rfl) hv11 ?_
  refine e_iload_n d_Book_areSame_10 rfl ?_
  obtain ⟨v12, hv12, h⟩ := bnd h
  refine e_iald d_Book_areSame_11 hv12 ?_
  refine e_ic_ne 30 d_Book_areSame_12 (by decide) (fun c13 => ?_) (fun c13 => ?_)
  · replace h := ifn c13 h
    refine e_iconst (v := 0) d_Book_areSame_30 (by decide) ?_
    cases h
    exact e_zret (ty := .boolean) d_Book_areSame_31 rfl narZ0 (Nat.le_refl _) (Nat.le_refl _)
  · replace h := ift c13 h
    refine e_aload_n d_Book_areSame_15 rfl ?_
    obtain ⟨v14, hv14, h⟩ := bnd h
    refine e_getR d_Book_areSame_16 fl_Book_25 (fun _ _ _ => rfl) hv14 ?_
    refine e_iload_n d_Book_areSame_19 rfl ?_
    obtain ⟨v15, hv15, h⟩ := bnd h
    refine e_iald d_Book_areSame_20 hv15 ?_
    refine e_aload_n d_Book_areSame_21 rfl ?_
    obtain ⟨v16, hv16, h⟩ := bnd h
    refine e_getR d_Book_areSame_22 fl_Book_25 (fun _ _ _ => rfl) hv16 ?_
    refine e_iload_n d_Book_areSame_25 rfl ?_
    obtain ⟨v17, hv17, h⟩ := bnd h
    refine e_iald d_Book_areSame_26 hv17 ?_
    refine e_ic_eq 32 d_Book_areSame_27 (by decide) (fun c18 => ?_) (fun c18 => ?_)
    · replace h := ift c18 h
      refine e_iconst (v := 0) d_Book_areSame_32 (by decide) ?_
      refine e_istore_n (l2 := [some (.ref x0), some (.int x1), some (.int x2), some (.int 0)]) d_Book_areSame_33 rfl (okl rfl) rfl ?_
      exact (t_Book_areSame_34 n n x0 x1 x2 0 M z h).less (show LSub _ _ from ⟨rfl, ⟨rfl, ⟨rfl, ⟨rfl, trivial⟩⟩⟩⟩)
    · replace h := ifn c18 h
      refine e_iconst (v := 0) d_Book_areSame_30 (by decide) ?_
      cases h
      exact e_zret (ty := .boolean) d_Book_areSame_31 rfl narZ0 (Nat.le_refl _) (Nat.le_refl _)
theorem d_Book_firstSame_0 : DC m_Book_firstSame 0 (.iconst 0) 1 1 := ⟨by decide +kernel, rfl⟩
theorem d_Book_firstSame_1 : DC m_Book_firstSame 1 (.istore_n 3) 1 2 := ⟨by decide +kernel, rfl⟩
theorem d_Book_firstSame_2 : DC m_Book_firstSame 2 (.iload_n 3) 1 3 := ⟨by decide +kernel, rfl⟩
theorem d_Book_firstSame_3 : DC m_Book_firstSame 3 (.iload_n 1) 1 4 := ⟨by decide +kernel, rfl⟩
theorem d_Book_firstSame_4 : DC m_Book_firstSame 4 (.if_icmp .ge 29) 3 7 := ⟨by decide +kernel, rfl⟩
theorem d_Book_firstSame_7 : DC m_Book_firstSame 7 (.aload_n 0) 1 8 := ⟨by decide +kernel, rfl⟩
theorem d_Book_firstSame_8 : DC m_Book_firstSame 8 (.iload_n 3) 1 9 := ⟨by decide +kernel, rfl⟩
theorem d_Book_firstSame_9 : DC m_Book_firstSame 9 (.iload_n 2) 1 10 := ⟨by decide +kernel, rfl⟩
theorem d_Book_firstSame_10 : DC m_Book_firstSame 10 (.invokevirtual 46) 3 13 := ⟨by decide +kernel, rfl⟩
theorem d_Book_firstSame_13 : DC m_Book_firstSame 13 (.ifCond .eq 14) 3 16 := ⟨by decide +kernel, rfl⟩
theorem d_Book_firstSame_16 : DC m_Book_firstSame 16 (.aload_n 0) 1 17 := ⟨by decide +kernel, rfl⟩
theorem d_Book_firstSame_17 : DC m_Book_firstSame 17 (.iload_n 3) 1 18 := ⟨by decide +kernel, rfl⟩
theorem d_Book_firstSame_18 : DC m_Book_firstSame 18 (.iload_n 1) 1 19 := ⟨by decide +kernel, rfl⟩
theorem d_Book_firstSame_19 : DC m_Book_firstSame 19 (.invokevirtual 50) 3 22 := ⟨by decide +kernel, rfl⟩
theorem d_Book_firstSame_22 : DC m_Book_firstSame 22 (.ifCond .eq 5) 3 25 := ⟨by decide +kernel, rfl⟩
theorem d_Book_firstSame_25 : DC m_Book_firstSame 25 (.iload_n 3) 1 26 := ⟨by decide +kernel, rfl⟩
theorem d_Book_firstSame_26 : DC m_Book_firstSame 26 .ireturn 1 27 := ⟨by decide +kernel, rfl⟩
theorem d_Book_firstSame_27 : DC m_Book_firstSame 27 (.iinc 3 1) 3 30 := ⟨by decide +kernel, rfl⟩
theorem d_Book_firstSame_30 : DC m_Book_firstSame 30 (.goto (-28)) 3 33 := ⟨by decide +kernel, rfl⟩
theorem d_Book_firstSame_33 : DC m_Book_firstSame 33 (.iload_n 1) 1 34 := ⟨by decide +kernel, rfl⟩
theorem d_Book_firstSame_34 : DC m_Book_firstSame 34 .ireturn 1 35 := ⟨by decide +kernel, rfl⟩
def f_Book_firstSame_27 (n : Nat) (k_2 : Nat → Int32 → Int32 → Int32 → MM → Option (Int32 × MM)) (x0 : Nat) (x1 : Int32) (x2 : Int32) (x3 : Int32) (M : MM) : Option (Int32 × MM) :=
  k_2 x0 x1 x2 (x3 + 1) M
theorem t_Book_firstSame_27 (n : Nat) {k_2 : Nat → Int32 → Int32 → Int32 → MM → Option (Int32 × MM)} (hk_2 : ∀ (x0 : Nat) (x1 : Int32) (x2 : Int32) (x3 : Int32) (M : MM) (z : Int32 × MM), k_2 x0 x1 x2 x3 M = some z → EV m_Book_firstSame (rm 3 0 0) (some (.int z.1)) z.2 0 0 2 [some (.ref x0), some (.int x1), some (.int x2), some (.int x3)] [] M) (x0 : Nat) (x1 : Int32) (x2 : Int32) (x3 : Int32) (M : MM) (z : Int32 × MM) (h : f_Book_firstSame_27 n k_2 x0 x1 x2 x3 M = some z) : EV m_Book_firstSame (rm 3 0 0) (some (.int z.1)) z.2 0 0 27 [some (.ref x0), some (.int x1), some (.int x2), some (.int x3)] [] M := by
  unfold f_Book_firstSame_27 at h
  refine e_iinc (v := x3 + 1) (l2 := [some (.ref x0), some (.int x1), some (.int x2), some (.int (x3 + 1))]) d_Book_firstSame_27 rfl rfl rfl (okl rfl) rfl ?_
  refine e_goto 2 d_Book_firstSame_30 (by decide) ?_
  exact (hk_2 x0 x1 x2 (x3 + 1) M z h).less (show LSub _ _ from ⟨rfl, ⟨rfl, ⟨rfl, ⟨rfl, trivial⟩⟩⟩⟩)
def f_Book_firstSame_2 (n : Nat) : Nat → Nat → Int32 → Int32 → Int32 → MM → Option (Int32 × MM)
  | 0, _, _, _, _, _ => none
  | m + 1, x0, x1, x2, x3, M =>
    if x1 ≤ x3 then
      some (x1, M)
    else
      (f_Book_isKnownRight n x0 x3 x2 M).bind fun p2 =>
      if p2.1 = 0 then
        f_Book_firstSame_27 n (f_Book_firstSame_2 n m) x0 x1 x2 x3 p2.2
      else
        (f_Book_areSame n x0 x3 x1 p2.2).bind fun p4 =>
        if p4.1 = 0 then
          f_Book_firstSame_27 n (f_Book_firstSame_2 n m) x0 x1 x2 x3 p4.2
        else
          some (x3, p4.2)
theorem t_Book_firstSame_2 (n : Nat) : ∀ (m : Nat) (x0 : Nat) (x1 : Int32) (x2 : Int32) (x3 : Int32) (M : MM) (z : Int32 × MM), f_Book_firstSame_2 n m x0 x1 x2 x3 M = some z → EV m_Book_firstSame (rm 3 0 0) (some (.int z.1)) z.2 0 0 2 [some (.ref x0), some (.int x1), some (.int x2), some (.int x3)] [] M := by
  intro m
  induction m with
  | zero => intro x0 x1 x2 x3 M z h; cases h
  | succ m ih =>
    intro x0 x1 x2 x3 M z h
    rw [f_Book_firstSame_2] at h
    refine e_iload_n d_Book_firstSame_2 rfl ?_
    refine e_iload_n d_Book_firstSame_3 rfl ?_
    refine e_ic_ge 33 d_Book_firstSame_4 (by decide) (fun c1 => ?_) (fun c1 => ?_)
    · replace h := ift c1 h
      refine e_iload_n d_Book_firstSame_33 rfl ?_
      cases h
      exact e_iret d_Book_firstSame_34 rfl (Nat.le_refl _) (Nat.le_refl _)
    · replace h := ifn c1 h
      refine e_aload_n d_Book_firstSame_7 rfl ?_
      refine e_iload_n d_Book_firstSame_8 rfl ?_
      refine e_iload_n d_Book_firstSame_9 rfl ?_
      obtain ⟨p2, hp2, h⟩ := bnd h
      refine e_cVi (mt1 := m_Book_isKnownRight) (As := [.int x3, .int x2]) (st := []) d_Book_firstSame_10 ml_Book_46 mv_Book_isKnownRight (t_Book_isKnownRight n x0 x3 x2 M p2 hp2) (fc_Book_isKnownRight hp2) rfl rfl rfl (okp rfl) (okp rfl) (okp rfl) (Nat.le_refl _) (Nat.le_refl _) ?_
      refine e_if_eq 27 d_Book_firstSame_13 (by decide) (fun c3 => ?_) (fun c3 => ?_)
      · replace h := ift c3 h
        exact (t_Book_firstSame_27 n ih x0 x1 x2 x3 p2.2 z h).less (show LSub _ _ from ⟨rfl, ⟨rfl, ⟨rfl, ⟨rfl, trivial⟩⟩⟩⟩)
      · replace h := ifn c3 h
        refine e_aload_n d_Book_firstSame_16 rfl ?_
        refine e_iload_n d_Book_firstSame_17 rfl ?_
        refine e_iload_n d_Book_firstSame_18 rfl ?_
        obtain ⟨p4, hp4, h⟩ := bnd h
        refine e_cVi (mt1 := m_Book_areSame) (As := [.int x3, .int x1]) (st := []) d_Book_firstSame_19 ml_Book_50 mv_Book_areSame (t_Book_areSame n x0 x3 x1 p2.2 p4 hp4) (fc_Book_areSame hp4) rfl rfl rfl (okp rfl) (okp rfl) (okp rfl) (Nat.le_refl _) (Nat.le_refl _) ?_
        refine e_if_eq 27 d_Book_firstSame_22 (by decide) (fun c5 => ?_) (fun c5 => ?_)
        · replace h := ift c5 h
          exact (t_Book_firstSame_27 n ih x0 x1 x2 x3 p4.2 z h).less (show LSub _ _ from ⟨rfl, ⟨rfl, ⟨rfl, ⟨rfl, trivial⟩⟩⟩⟩)
        · replace h := ifn c5 h
          refine e_iload_n d_Book_firstSame_25 rfl ?_
          cases h
          exact e_iret d_Book_firstSame_26 rfl (Nat.le_refl _) (Nat.le_refl _)
def f_Book_firstSame (n : Nat) (x0 : Nat) (x1 : Int32) (x2 : Int32) (M : MM) : Option (Int32 × MM) :=
  og 0 x0 M <|
  f_Book_firstSame_2 n n x0 x1 x2 0 M
theorem fc_Book_firstSame {n : Nat} {x0 : Nat} {x1 : Int32} {x2 : Int32} {M : MM} {z : Int32 × MM} (h : f_Book_firstSame n x0 x1 x2 M = some z) : (M.1.2.1 x0).1 = 0 := by
  unfold f_Book_firstSame at h
  exact (og_s h).1
theorem t_Book_firstSame (n : Nat) (x0 : Nat) (x1 : Int32) (x2 : Int32) (M : MM) (z : Int32 × MM) (h : f_Book_firstSame n x0 x1 x2 M = some z) : CT m_Book_firstSame (rm 3 0 0) [.ref x0, .int x1, .int x2] M (some (.int z.1)) z.2 := by
  unfold f_Book_firstSame at h
  obtain ⟨hthis, h⟩ := og_s h
  refine CT.of (ls := [some (.ref x0), some (.int x1), some (.int x2), none]) rfl (okp rfl) rfl ?_
  refine e_iconst (v := 0) d_Book_firstSame_0 (by decide) ?_
  refine e_istore_n (l2 := [some (.ref x0), some (.int x1), some (.int x2), some (.int 0)]) d_Book_firstSame_1 rfl (okl rfl) rfl ?_
  exact (t_Book_firstSame_2 n n x0 x1 x2 0 M z h).less (show LSub _ _ from ⟨rfl, ⟨rfl, ⟨rfl, ⟨rfl, trivial⟩⟩⟩⟩)
theorem d_Book_countPoints_0 : DC m_Book_countPoints 0 (.iconst 0) 1 1 := ⟨by decide +kernel, rfl⟩
theorem d_Book_countPoints_1 : DC m_Book_countPoints 1 (.istore_n 3) 1 2 := ⟨by decide +kernel, rfl⟩
theorem d_Book_countPoints_2 : DC m_Book_countPoints 2 (.iconst 0) 1 3 := ⟨by decide +kernel, rfl⟩
theorem d_Book_countPoints_3 : DC m_Book_countPoints 3 (.istore 4) 2 5 := ⟨by decide +kernel, rfl⟩
theorem d_Book_countPoints_5 : DC m_Book_countPoints 5 (.iload 4) 2 7 := ⟨by decide +kernel, rfl⟩
theorem d_Book_countPoints_7 : DC m_Book_countPoints 7 (.iload_n 2) 1 8 := ⟨by decide +kernel, rfl⟩
theorem d_Book_countPoints_8 : DC m_Book_countPoints 8 (.if_icmp .ge 45) 3 11 := ⟨by decide +kernel, rfl⟩
theorem d_Book_countPoints_11 : DC m_Book_countPoints 11 (.aload_n 0) 1 12 := ⟨by decide +kernel, rfl⟩
theorem d_Book_countPoints_12 : DC m_Book_countPoints 12 (.iload 4) 2 14 := ⟨by decide +kernel, rfl⟩
theorem d_Book_countPoints_14 : DC m_Book_countPoints 14 (.iload_n 2) 1 15 := ⟨by decide +kernel, rfl⟩
theorem d_Book_countPoints_15 : DC m_Book_countPoints 15 (.invokevirtual 46) 3 18 := ⟨by decide +kernel, rfl⟩
theorem d_Book_countPoints_18 : DC m_Book_countPoints 18 (.ifCond .eq 29) 3 21 := ⟨by decide +kernel, rfl⟩
theorem d_Book_countPoints_21 : DC m_Book_countPoints 21 (.aload_n 0) 1 22 := ⟨by decide +kernel, rfl⟩
theorem d_Book_countPoints_22 : DC m_Book_countPoints 22 (.getfield 19) 3 25 := ⟨by decide +kernel, rfl⟩
theorem d_Book_countPoints_25 : DC m_Book_countPoints 25 (.iload 4) 2 27 := ⟨by decide +kernel, rfl⟩
theorem d_Book_countPoints_27 : DC m_Book_countPoints 27 .iaload 1 28 := ⟨by decide +kernel, rfl⟩
theorem d_Book_countPoints_28 : DC m_Book_countPoints 28 (.iload_n 1) 1 29 := ⟨by decide +kernel, rfl⟩
theorem d_Book_countPoints_29 : DC m_Book_countPoints 29 (.if_icmp .ne 18) 3 32 := ⟨by decide +kernel, rfl⟩
theorem d_Book_countPoints_32 : DC m_Book_countPoints 32 (.aload_n 0) 1 33 := ⟨by decide +kernel, rfl⟩
theorem d_Book_countPoints_33 : DC m_Book_countPoints 33 (.iload 4) 2 35 := ⟨by decide +kernel, rfl⟩
theorem d_Book_countPoints_35 : DC m_Book_countPoints 35 (.iload_n 2) 1 36 := ⟨by decide +kernel, rfl⟩
theorem d_Book_countPoints_36 : DC m_Book_countPoints 36 (.invokevirtual 53) 3 39 := ⟨by decide +kernel, rfl⟩
theorem d_Book_countPoints_39 : DC m_Book_countPoints 39 (.iload 4) 2 41 := ⟨by decide +kernel, rfl⟩
theorem d_Book_countPoints_41 : DC m_Book_countPoints 41 (.if_icmp .ne 6) 3 44 := ⟨by decide +kernel, rfl⟩
theorem d_Book_countPoints_44 : DC m_Book_countPoints 44 (.iinc 3 1) 3 47 := ⟨by decide +kernel, rfl⟩
theorem d_Book_countPoints_47 : DC m_Book_countPoints 47 (.iinc 4 1) 3 50 := ⟨by decide +kernel, rfl⟩
theorem d_Book_countPoints_50 : DC m_Book_countPoints 50 (.goto (-45)) 3 53 := ⟨by decide +kernel, rfl⟩
theorem d_Book_countPoints_53 : DC m_Book_countPoints 53 (.iload_n 3) 1 54 := ⟨by decide +kernel, rfl⟩
theorem d_Book_countPoints_54 : DC m_Book_countPoints 54 .ireturn 1 55 := ⟨by decide +kernel, rfl⟩
def f_Book_countPoints_47 (n : Nat) (k_5 : Nat → Int32 → Int32 → Int32 → Int32 → MM → Option (Int32 × MM)) (x0 : Nat) (x1 : Int32) (x2 : Int32) (x3 : Int32) (x4 : Int32) (M : MM) : Option (Int32 × MM) :=
  k_5 x0 x1 x2 x3 (x4 + 1) M
theorem t_Book_countPoints_47 (n : Nat) {k_5 : Nat → Int32 → Int32 → Int32 → Int32 → MM → Option (Int32 × MM)} (hk_5 : ∀ (x0 : Nat) (x1 : Int32) (x2 : Int32) (x3 : Int32) (x4 : Int32) (M : MM) (z : Int32 × MM), k_5 x0 x1 x2 x3 x4 M = some z → EV m_Book_countPoints (rm 4 0 0) (some (.int z.1)) z.2 0 0 5 [some (.ref x0), some (.int x1), some (.int x2), some (.int x3), some (.int x4)] [] M) (x0 : Nat) (x1 : Int32) (x2 : Int32) (x3 : Int32) (x4 : Int32) (M : MM) (z : Int32 × MM) (h : f_Book_countPoints_47 n k_5 x0 x1 x2 x3 x4 M = some z) : EV m_Book_countPoints (rm 4 0 0) (some (.int z.1)) z.2 0 0 47 [some (.ref x0), some (.int x1), some (.int x2), some (.int x3), some (.int x4)] [] M := by
  unfold f_Book_countPoints_47 at h
  refine e_iinc (v := x4 + 1) (l2 := [some (.ref x0), some (.int x1), some (.int x2), some (.int x3), some (.int (x4 + 1))]) d_Book_countPoints_47 rfl rfl rfl (okl rfl) rfl ?_
  refine e_goto 5 d_Book_countPoints_50 (by decide) ?_
  exact (hk_5 x0 x1 x2 x3 (x4 + 1) M z h).less (show LSub _ _ from ⟨rfl, ⟨rfl, ⟨rfl, ⟨rfl, ⟨rfl, trivial⟩⟩⟩⟩⟩)
def f_Book_countPoints_5 (n : Nat) : Nat → Nat → Int32 → Int32 → Int32 → Int32 → MM → Option (Int32 × MM)
  | 0, _, _, _, _, _, _ => none
  | m + 1, x0, x1, x2, x3, x4, M =>
    if x2 ≤ x4 then
      some (x3, M)
    else
      (f_Book_isKnownRight n x0 x4 x2 M).bind fun p2 =>
      if p2.1 = 0 then
        f_Book_countPoints_47 n (f_Book_countPoints_5 n m) x0 x1 x2 x3 x4 p2.2
      else
        (gR 0 2 x0 p2.2).bind fun v4 =>
        (aI 100 v4 x4 p2.2).bind fun v5 =>
        if v5 = x1 then
          (f_Book_firstSame n x0 x4 x2 p2.2).bind fun p7 =>
          if p7.1 = x4 then
            f_Book_countPoints_47 n (f_Book_countPoints_5 n m) x0 x1 x2 (x3 + 1) x4 p7.2
          else
            f_Book_countPoints_47 n (f_Book_countPoints_5 n m) x0 x1 x2 x3 x4 p7.2
        else
          f_Book_countPoints_47 n (f_Book_countPoints_5 n m) x0 x1 x2 x3 x4 p2.2
theorem t_Book_countPoints_5 (n : Nat) : ∀ (m : Nat) (x0 : Nat) (x1 : Int32) (x2 : Int32) (x3 : Int32) (x4 : Int32) (M : MM) (z : Int32 × MM), f_Book_countPoints_5 n m x0 x1 x2 x3 x4 M = some z → EV m_Book_countPoints (rm 4 0 0) (some (.int z.1)) z.2 0 0 5 [some (.ref x0), some (.int x1), some (.int x2), some (.int x3), some (.int x4)] [] M := by
  intro m
  induction m with
  | zero => intro x0 x1 x2 x3 x4 M z h; cases h
  | succ m ih =>
    intro x0 x1 x2 x3 x4 M z h
    rw [f_Book_countPoints_5] at h
    refine e_iload d_Book_countPoints_5 rfl ?_
    refine e_iload_n d_Book_countPoints_7 rfl ?_
    refine e_ic_ge 53 d_Book_countPoints_8 (by decide) (fun c1 => ?_) (fun c1 => ?_)
    · replace h := ift c1 h
      refine e_iload_n d_Book_countPoints_53 rfl ?_
      cases h
      exact e_iret d_Book_countPoints_54 rfl (Nat.le_refl _) (Nat.le_refl _)
    · replace h := ifn c1 h
      refine e_aload_n d_Book_countPoints_11 rfl ?_
      refine e_iload d_Book_countPoints_12 rfl ?_
      refine e_iload_n d_Book_countPoints_14 rfl ?_
      obtain ⟨p2, hp2, h⟩ := bnd h
      refine e_cVi (mt1 := m_Book_isKnownRight) (As := [.int x4, .int x2]) (st := []) d_Book_countPoints_15 ml_Book_46 mv_Book_isKnownRight (t_Book_isKnownRight n x0 x4 x2 M p2 hp2) (fc_Book_isKnownRight hp2) rfl rfl rfl (okp rfl) (okp rfl) (okp rfl) (Nat.le_refl _) (Nat.le_refl _) ?_
      refine e_if_eq 47 d_Book_countPoints_18 (by decide) (fun c3 => ?_) (fun c3 => ?_)
      · replace h := ift c3 h
        exact (t_Book_countPoints_47 n ih x0 x1 x2 x3 x4 p2.2 z h).less (show LSub _ _ from ⟨rfl, ⟨rfl, ⟨rfl, ⟨rfl, ⟨rfl, trivial⟩⟩⟩⟩⟩)
      · replace h := ifn c3 h
        refine e_aload_n d_Book_countPoints_21 rfl ?_
        obtain ⟨v4, hv4, h⟩ := bnd h
        refine e_getR d_Book_countPoints_22 fl_Book_19 (fun _ _ _ => rfl) hv4 ?_
        refine e_iload d_Book_countPoints_25 rfl ?_
        obtain ⟨v5, hv5, h⟩ := bnd h
        refine e_iald d_Book_countPoints_27 hv5 ?_
        refine e_iload_n d_Book_countPoints_28 rfl ?_
        refine e_ic_ne 47 d_Book_countPoints_29 (by decide) (fun c6 => ?_) (fun c6 => ?_)
        · replace h := ifn c6 h
          exact (t_Book_countPoints_47 n ih x0 x1 x2 x3 x4 p2.2 z h).less (show LSub _ _ from ⟨rfl, ⟨rfl, ⟨rfl, ⟨rfl, ⟨rfl, trivial⟩⟩⟩⟩⟩)
        · replace h := ift c6 h
          refine e_aload_n d_Book_countPoints_32 rfl ?_
          refine e_iload d_Book_countPoints_33 rfl ?_
          refine e_iload_n d_Book_countPoints_35 rfl ?_
          obtain ⟨p7, hp7, h⟩ := bnd h
          refine e_cVi (mt1 := m_Book_firstSame) (As := [.int x4, .int x2]) (st := []) d_Book_countPoints_36 ml_Book_53 mv_Book_firstSame (t_Book_firstSame n x0 x4 x2 p2.2 p7 hp7) (fc_Book_firstSame hp7) rfl rfl rfl (okp rfl) (okp rfl) (okp rfl) (Nat.le_refl _) (Nat.le_refl _) ?_
          refine e_iload d_Book_countPoints_39 rfl ?_
          refine e_ic_ne 47 d_Book_countPoints_41 (by decide) (fun c8 => ?_) (fun c8 => ?_)
          · replace h := ifn c8 h
            exact (t_Book_countPoints_47 n ih x0 x1 x2 x3 x4 p7.2 z h).less (show LSub _ _ from ⟨rfl, ⟨rfl, ⟨rfl, ⟨rfl, ⟨rfl, trivial⟩⟩⟩⟩⟩)
          · replace h := ift c8 h
            refine e_iinc (v := x3 + 1) (l2 := [some (.ref x0), some (.int x1), some (.int x2), some (.int (x3 + 1)), some (.int x4)]) d_Book_countPoints_44 rfl rfl rfl (okl rfl) rfl ?_
            exact (t_Book_countPoints_47 n ih x0 x1 x2 (x3 + 1) x4 p7.2 z h).less (show LSub _ _ from ⟨rfl, ⟨rfl, ⟨rfl, ⟨rfl, ⟨rfl, trivial⟩⟩⟩⟩⟩)
def f_Book_countPoints (n : Nat) (x0 : Nat) (x1 : Int32) (x2 : Int32) (M : MM) : Option (Int32 × MM) :=
  og 0 x0 M <|
  f_Book_countPoints_5 n n x0 x1 x2 0 0 M
theorem fc_Book_countPoints {n : Nat} {x0 : Nat} {x1 : Int32} {x2 : Int32} {M : MM} {z : Int32 × MM} (h : f_Book_countPoints n x0 x1 x2 M = some z) : (M.1.2.1 x0).1 = 0 := by
  unfold f_Book_countPoints at h
  exact (og_s h).1
theorem t_Book_countPoints (n : Nat) (x0 : Nat) (x1 : Int32) (x2 : Int32) (M : MM) (z : Int32 × MM) (h : f_Book_countPoints n x0 x1 x2 M = some z) : CT m_Book_countPoints (rm 4 0 0) [.ref x0, .int x1, .int x2] M (some (.int z.1)) z.2 := by
  unfold f_Book_countPoints at h
  obtain ⟨hthis, h⟩ := og_s h
  refine CT.of (ls := [some (.ref x0), some (.int x1), some (.int x2), none, none]) rfl (okp rfl) rfl ?_
  refine e_iconst (v := 0) d_Book_countPoints_0 (by decide) ?_
  refine e_istore_n (l2 := [some (.ref x0), some (.int x1), some (.int x2), some (.int 0), none]) d_Book_countPoints_1 rfl (okl rfl) rfl ?_
  refine e_iconst (v := 0) d_Book_countPoints_2 (by decide) ?_
  refine e_istore (l2 := [some (.ref x0), some (.int x1), some (.int x2), some (.int 0), some (.int 0)]) d_Book_countPoints_3 rfl (okl rfl) rfl ?_
  exact (t_Book_countPoints_5 n n x0 x1 x2 0 0 M z h).less (show LSub _ _ from ⟨rfl, ⟨rfl, ⟨rfl, ⟨rfl, ⟨rfl, trivial⟩⟩⟩⟩⟩)
