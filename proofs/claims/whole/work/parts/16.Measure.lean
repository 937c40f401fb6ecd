theorem d_Measure_takeOpen_0 : DC m_Measure_takeOpen 0 (.aload_n 0) 1 1 := ⟨by decide +kernel, rfl⟩
theorem d_Measure_takeOpen_1 : DC m_Measure_takeOpen 1 (.getfield 22) 3 4 := ⟨by decide +kernel, rfl⟩
theorem d_Measure_takeOpen_4 : DC m_Measure_takeOpen 4 (.sipush 256) 3 7 := ⟨by decide +kernel, rfl⟩
theorem d_Measure_takeOpen_7 : DC m_Measure_takeOpen 7 (.if_icmp .ge 42) 3 10 := ⟨by decide +kernel, rfl⟩
theorem d_Measure_takeOpen_10 : DC m_Measure_takeOpen 10 (.aload_n 0) 1 11 := ⟨by decide +kernel, rfl⟩
theorem d_Measure_takeOpen_11 : DC m_Measure_takeOpen 11 (.getfield 12) 3 14 := ⟨by decide +kernel, rfl⟩
theorem d_Measure_takeOpen_14 : DC m_Measure_takeOpen 14 (.iload_n 1) 1 15 := ⟨by decide +kernel, rfl⟩
theorem d_Measure_takeOpen_15 : DC m_Measure_takeOpen 15 (.invokevirtual 30) 3 18 := ⟨by decide +kernel, rfl⟩
theorem d_Measure_takeOpen_18 : DC m_Measure_takeOpen 18 (.ifCond .eq 31) 3 21 := ⟨by decide +kernel, rfl⟩
theorem d_Measure_takeOpen_21 : DC m_Measure_takeOpen 21 (.aload_n 0) 1 22 := ⟨by decide +kernel, rfl⟩
theorem d_Measure_takeOpen_22 : DC m_Measure_takeOpen 22 (.getfield 12) 3 25 := ⟨by decide +kernel, rfl⟩
theorem d_Measure_takeOpen_25 : DC m_Measure_takeOpen 25 (.iload_n 1) 1 26 := ⟨by decide +kernel, rfl⟩
theorem d_Measure_takeOpen_26 : DC m_Measure_takeOpen 26 (.invokevirtual 53) 3 29 := ⟨by decide +kernel, rfl⟩
theorem d_Measure_takeOpen_29 : DC m_Measure_takeOpen 29 (.aload_n 0) 1 30 := ⟨by decide +kernel, rfl⟩
theorem d_Measure_takeOpen_30 : DC m_Measure_takeOpen 30 (.getfield 18) 3 33 := ⟨by decide +kernel, rfl⟩
theorem d_Measure_takeOpen_33 : DC m_Measure_takeOpen 33 (.aload_n 0) 1 34 := ⟨by decide +kernel, rfl⟩
theorem d_Measure_takeOpen_34 : DC m_Measure_takeOpen 34 (.getfield 22) 3 37 := ⟨by decide +kernel, rfl⟩
theorem d_Measure_takeOpen_37 : DC m_Measure_takeOpen 37 (.iload_n 1) 1 38 := ⟨by decide +kernel, rfl⟩
theorem d_Measure_takeOpen_38 : DC m_Measure_takeOpen 38 .iastore 1 39 := ⟨by decide +kernel, rfl⟩
theorem d_Measure_takeOpen_39 : DC m_Measure_takeOpen 39 (.aload_n 0) 1 40 := ⟨by decide +kernel, rfl⟩
theorem d_Measure_takeOpen_40 : DC m_Measure_takeOpen 40 .dup 1 41 := ⟨by decide +kernel, rfl⟩
theorem d_Measure_takeOpen_41 : DC m_Measure_takeOpen 41 (.getfield 22) 3 44 := ⟨by decide +kernel, rfl⟩
theorem d_Measure_takeOpen_44 : DC m_Measure_takeOpen 44 (.iconst 1) 1 45 := ⟨by decide +kernel, rfl⟩
theorem d_Measure_takeOpen_45 : DC m_Measure_takeOpen 45 .iadd 1 46 := ⟨by decide +kernel, rfl⟩
theorem d_Measure_takeOpen_46 : DC m_Measure_takeOpen 46 (.putfield 22) 3 49 := ⟨by decide +kernel, rfl⟩
theorem d_Measure_takeOpen_49 : DC m_Measure_takeOpen 49 .return_ 1 50 := ⟨by decide +kernel, rfl⟩
def f_Measure_takeOpen (n : Nat) (x0 : Nat) (x1 : Int32) (M : MM) : Option (MM) :=
  og 6 x0 M <|
  (gI 6 2 x0 M).bind fun v1 =>
  if 256 ≤ v1 then
    some M
  else
    (gR 6 0 x0 M).bind fun v3 =>
    (f_Shape_holds n v3 x1 M).bind fun p4 =>
    if p4.1 = 0 then
      some p4.2
    else
      (gR 6 0 x0 p4.2).bind fun v6 =>
      (f_Shape_drop n v6 x1 p4.2).bind fun M7 =>
      (gR 6 1 x0 M7).bind fun v8 =>
      (gI 6 2 x0 M7).bind fun v9 =>
      (sI 100 v8 v9 x1 M7).bind fun M10 =>
      (gI 6 2 x0 M10).bind fun v11 =>
      (pI 6 2 x0 (v11 + 1) M10).bind fun M12 =>
      some M12
theorem fc_Measure_takeOpen {n : Nat} {x0 : Nat} {x1 : Int32} {M : MM} {z : MM} (h : f_Measure_takeOpen n x0 x1 M = some z) : (M.1.2.1 x0).1 = 6 := by
  unfold f_Measure_takeOpen at h
  exact (og_s h).1
theorem t_Measure_takeOpen (n : Nat) (x0 : Nat) (x1 : Int32) (M : MM) (z : MM) (h : f_Measure_takeOpen n x0 x1 M = some z) : CT m_Measure_takeOpen (rm 2 0 0) [.ref x0, .int x1] M none z := by
  unfold f_Measure_takeOpen at h
  obtain ⟨hthis, h⟩ := og_s h
  refine CT.of (ls := [some (.ref x0), some (.int x1)]) rfl (okp rfl) rfl ?_
  refine e_aload_n d_Measure_takeOpen_0 rfl ?_
  obtain ⟨v1, hv1, h⟩ := bnd h
  refine e_getI d_Measure_takeOpen_1 fl_Measure_22 (fun _ _ _ => rfl) hv1 ?_
  refine e_sipush (v := 256) d_Measure_takeOpen_4 (by decide) ?_
  refine e_ic_ge 49 d_Measure_takeOpen_7 (by decide) (fun c2 => ?_) (fun c2 => ?_)
  · replace h := ift c2 h
    cases h
    exact e_vret d_Measure_takeOpen_49 rfl (Nat.le_refl _) (Nat.le_refl _)
  · replace h := ifn c2 h
    refine e_aload_n d_Measure_takeOpen_10 rfl ?_
    obtain ⟨v3, hv3, h⟩ := bnd h
    refine e_getR d_Measure_takeOpen_11 fl_Measure_12 (fun _ _ _ => rfl) hv3 ?_
    refine e_iload_n d_Measure_takeOpen_14 rfl ?_
    obtain ⟨p4, hp4, h⟩ := bnd h
    refine e_cVi (mt1 := m_Shape_holds) (As := [.int x1]) (st := []) d_Measure_takeOpen_15 ml_Measure_30 mv_Shape_holds (t_Shape_holds n v3 x1 M p4 hp4) (fc_Shape_holds hp4) rfl rfl rfl (okp rfl) (okp rfl) (okp rfl) (Nat.le_refl _) (Nat.le_refl _) ?_
    refine e_if_eq 49 d_Measure_takeOpen_18 (by decide) (fun c5 => ?_) (fun c5 => ?_)
    · replace h := ift c5 h
      cases h
      exact e_vret d_Measure_takeOpen_49 rfl (Nat.le_refl _) (Nat.le_refl _)
    · replace h := ifn c5 h
      refine e_aload_n d_Measure_takeOpen_21 rfl ?_
      obtain ⟨v6, hv6, h⟩ := bnd h
      refine e_getR d_Measure_takeOpen_22 fl_Measure_12 (fun _ _ _ => rfl) hv6 ?_
      refine e_iload_n d_Measure_takeOpen_25 rfl ?_
      obtain ⟨M7, hM7, h⟩ := bnd h
      refine e_cVv (mt1 := m_Shape_drop) (As := [.int x1]) (st := []) d_Measure_takeOpen_26 ml_Measure_53 mv_Shape_drop (t_Shape_drop n v6 x1 p4.2 M7 hM7) (fc_Shape_drop hM7) rfl rfl rfl (okp rfl) (okp rfl) (okp rfl) (Nat.le_refl _) (Nat.le_refl _) ?_
      refine e_aload_n d_Measure_takeOpen_29 rfl ?_
      obtain ⟨v8, hv8, h⟩ := bnd h
      refine e_getR d_Measure_takeOpen_30 fl_Measure_18 (fun _ _ _ => rfl) hv8 ?_
      refine e_aload_n d_Measure_takeOpen_33 rfl ?_
      obtain ⟨v9, hv9, h⟩ := bnd h
      refine e_getI d_Measure_takeOpen_34 fl_Measure_22 (fun _ _ _ => rfl) hv9 ?_
      refine e_iload_n d_Measure_takeOpen_37 rfl ?_
      obtain ⟨M10, hM10, h⟩ := bnd h
      refine e_iast d_Measure_takeOpen_38 hM10 ?_
      refine e_aload_n d_Measure_takeOpen_39 rfl ?_
      refine e_dup d_Measure_takeOpen_40 rfl ?_
      obtain ⟨v11, hv11, h⟩ := bnd h
      refine e_getI d_Measure_takeOpen_41 fl_Measure_22 (fun _ _ _ => rfl) hv11 ?_
      refine e_iconst (v := 1) d_Measure_takeOpen_44 (by decide) ?_
      refine e_iadd d_Measure_takeOpen_45 ?_
      obtain ⟨M12, hM12, h⟩ := bnd h
      refine e_putI d_Measure_takeOpen_46 fl_Measure_22 (Or.inl rfl) (fun _ _ _ => rfl) rfl hM12 ?_
      cases h
      exact e_vret d_Measure_takeOpen_49 rfl (Nat.le_refl _) (Nat.le_refl _)
theorem d_Measure_across_0 : DC m_Measure_across 0 (.iload_n 0) 1 1 := ⟨by decide +kernel, rfl⟩
theorem d_Measure_across_1 : DC m_Measure_across 1 (.iconst 2) 1 2 := ⟨by decide +kernel, rfl⟩
theorem d_Measure_across_2 : DC m_Measure_across 2 .ishr 1 3 := ⟨by decide +kernel, rfl⟩
theorem d_Measure_across_3 : DC m_Measure_across 3 (.bipush 7) 2 5 := ⟨by decide +kernel, rfl⟩
theorem d_Measure_across_5 : DC m_Measure_across 5 .iand 1 6 := ⟨by decide +kernel, rfl⟩
theorem d_Measure_across_6 : DC m_Measure_across 6 (.istore_n 1) 1 7 := ⟨by decide +kernel, rfl⟩
theorem d_Measure_across_7 : DC m_Measure_across 7 (.iload_n 0) 1 8 := ⟨by decide +kernel, rfl⟩
theorem d_Measure_across_8 : DC m_Measure_across 8 (.iconst 5) 1 9 := ⟨by decide +kernel, rfl⟩
theorem d_Measure_across_9 : DC m_Measure_across 9 .ishr 1 10 := ⟨by decide +kernel, rfl⟩
theorem d_Measure_across_10 : DC m_Measure_across 10 (.istore_n 2) 1 11 := ⟨by decide +kernel, rfl⟩
theorem d_Measure_across_11 : DC m_Measure_across 11 (.iload_n 0) 1 12 := ⟨by decide +kernel, rfl⟩
theorem d_Measure_across_12 : DC m_Measure_across 12 (.iconst 3) 1 13 := ⟨by decide +kernel, rfl⟩
theorem d_Measure_across_13 : DC m_Measure_across 13 .iand 1 14 := ⟨by decide +kernel, rfl⟩
theorem d_Measure_across_14 : DC m_Measure_across 14 (.tableswitch 69 0 2 #[26, 39, 54]) 26 40 := ⟨by decide +kernel, rfl⟩
theorem d_Measure_across_40 : DC m_Measure_across 40 (.iload_n 2) 1 41 := ⟨by decide +kernel, rfl⟩
theorem d_Measure_across_41 : DC m_Measure_across 41 (.ifCond .le 10) 3 44 := ⟨by decide +kernel, rfl⟩
theorem d_Measure_across_44 : DC m_Measure_across 44 (.iload_n 0) 1 45 := ⟨by decide +kernel, rfl⟩
theorem d_Measure_across_45 : DC m_Measure_across 45 (.bipush 30) 2 47 := ⟨by decide +kernel, rfl⟩
theorem d_Measure_across_47 : DC m_Measure_across 47 .isub 1 48 := ⟨by decide +kernel, rfl⟩
theorem d_Measure_across_48 : DC m_Measure_across 48 (.goto 4) 3 51 := ⟨by decide +kernel, rfl⟩
theorem d_Measure_across_51 : DC m_Measure_across 51 (.iconst (-1)) 1 52 := ⟨by decide +kernel, rfl⟩
theorem d_Measure_across_52 : DC m_Measure_across 52 .ireturn 1 53 := ⟨by decide +kernel, rfl⟩
theorem d_Measure_across_53 : DC m_Measure_across 53 (.iload_n 1) 1 54 := ⟨by decide +kernel, rfl⟩
theorem d_Measure_across_54 : DC m_Measure_across 54 (.bipush 7) 2 56 := ⟨by decide +kernel, rfl⟩
theorem d_Measure_across_56 : DC m_Measure_across 56 (.if_icmp .ge 10) 3 59 := ⟨by decide +kernel, rfl⟩
theorem d_Measure_across_59 : DC m_Measure_across 59 (.iload_n 0) 1 60 := ⟨by decide +kernel, rfl⟩
theorem d_Measure_across_60 : DC m_Measure_across 60 (.bipush 6) 2 62 := ⟨by decide +kernel, rfl⟩
theorem d_Measure_across_62 : DC m_Measure_across 62 .iadd 1 63 := ⟨by decide +kernel, rfl⟩
theorem d_Measure_across_63 : DC m_Measure_across 63 (.goto 4) 3 66 := ⟨by decide +kernel, rfl⟩
theorem d_Measure_across_66 : DC m_Measure_across 66 (.iconst (-1)) 1 67 := ⟨by decide +kernel, rfl⟩
theorem d_Measure_across_67 : DC m_Measure_across 67 .ireturn 1 68 := ⟨by decide +kernel, rfl⟩
theorem d_Measure_across_68 : DC m_Measure_across 68 (.iload_n 2) 1 69 := ⟨by decide +kernel, rfl⟩
theorem d_Measure_across_69 : DC m_Measure_across 69 (.bipush 7) 2 71 := ⟨by decide +kernel, rfl⟩
theorem d_Measure_across_71 : DC m_Measure_across 71 (.if_icmp .ge 10) 3 74 := ⟨by decide +kernel, rfl⟩
theorem d_Measure_across_74 : DC m_Measure_across 74 (.iload_n 0) 1 75 := ⟨by decide +kernel, rfl⟩
theorem d_Measure_across_75 : DC m_Measure_across 75 (.bipush 30) 2 77 := ⟨by decide +kernel, rfl⟩
theorem d_Measure_across_77 : DC m_Measure_across 77 .iadd 1 78 := ⟨by decide +kernel, rfl⟩
theorem d_Measure_across_78 : DC m_Measure_across 78 (.goto 4) 3 81 := ⟨by decide +kernel, rfl⟩
theorem d_Measure_across_81 : DC m_Measure_across 81 (.iconst (-1)) 1 82 := ⟨by decide +kernel, rfl⟩
theorem d_Measure_across_82 : DC m_Measure_across 82 .ireturn 1 83 := ⟨by decide +kernel, rfl⟩
theorem d_Measure_across_83 : DC m_Measure_across 83 (.iload_n 1) 1 84 := ⟨by decide +kernel, rfl⟩
theorem d_Measure_across_84 : DC m_Measure_across 84 (.ifCond .le 10) 3 87 := ⟨by decide +kernel, rfl⟩
theorem d_Measure_across_87 : DC m_Measure_across 87 (.iload_n 0) 1 88 := ⟨by decide +kernel, rfl⟩
theorem d_Measure_across_88 : DC m_Measure_across 88 (.bipush 6) 2 90 := ⟨by decide +kernel, rfl⟩
theorem d_Measure_across_90 : DC m_Measure_across 90 .isub 1 91 := ⟨by decide +kernel, rfl⟩
theorem d_Measure_across_91 : DC m_Measure_across 91 (.goto 4) 3 94 := ⟨by decide +kernel, rfl⟩
theorem d_Measure_across_94 : DC m_Measure_across 94 (.iconst (-1)) 1 95 := ⟨by decide +kernel, rfl⟩
theorem d_Measure_across_95 : DC m_Measure_across 95 .ireturn 1 96 := ⟨by decide +kernel, rfl⟩
def f_Measure_across (n : Nat) (x0 : Int32) (M : MM) : Option (Int32 × MM) :=
  nm (α := Int32) ((ishr x0 2) &&& 7) fun y1 =>
  nm (α := Int32) (ishr x0 5) fun y2 =>
  if (x0 &&& 3) = 0 then
    if y2 ≤ 0 then
      some ((-1), M)
    else
      some ((x0 - 30), M)
  else
    if (x0 &&& 3) = 1 then
      if 7 ≤ y1 then
        some ((-1), M)
      else
        some ((x0 + 6), M)
    else
      if (x0 &&& 3) = 2 then
        if 7 ≤ y2 then
          some ((-1), M)
        else
          some ((x0 + 30), M)
      else
        if y1 ≤ 0 then
          some ((-1), M)
        else
          some ((x0 - 6), M)
theorem t_Measure_across (n : Nat) (x0 : Int32) (M : MM) (z : Int32 × MM) (h : f_Measure_across n x0 M = some z) : CT m_Measure_across (rm 1 0 0) [.int x0] M (some (.int z.1)) z.2 := by
  unfold f_Measure_across at h
  refine CT.of (ls := [some (.int x0), none, none]) rfl (okp rfl) rfl ?_
  refine e_iload_n d_Measure_across_0 rfl ?_
  refine e_iconst (v := 2) d_Measure_across_1 (by decide) ?_
  refine e_ishr d_Measure_across_2 ?_
  refine e_bipush (v := 7) d_Measure_across_3 (by decide) ?_
  refine e_iand d_Measure_across_5 ?_
  obtain ⟨y1, ey1, h⟩ := nm_s h
  refine e_nameI ey1 ?_
  refine e_istore_n (l2 := [some (.int x0), some (.int y1), none]) d_Measure_across_6 rfl (okl rfl) rfl ?_
  refine e_iload_n d_Measure_across_7 rfl ?_
  refine e_iconst (v := 5) d_Measure_across_8 (by decide) ?_
  refine e_ishr d_Measure_across_9 ?_
  obtain ⟨y2, ey2, h⟩ := nm_s h
  refine e_nameI ey2 ?_
  refine e_istore_n (l2 := [some (.int x0), some (.int y1), some (.int y2)]) d_Measure_across_10 rfl (okl rfl) rfl ?_
  refine e_iload_n d_Measure_across_11 rfl ?_
  refine e_iconst (v := 3) d_Measure_across_12 (by decide) ?_
  refine e_iand d_Measure_across_13 ?_
  by_cases c3 : (x0 &&& 3) = 0
  · replace h := ift c3 h
    refine e_tabEq 40 d_Measure_across_14 c3 (by decide) (by decide) rfl (by decide) ?_
    refine e_iload_n d_Measure_across_40 rfl ?_
    refine e_if_le 51 d_Measure_across_41 (by decide) (fun c4 => ?_) (fun c4 => ?_)
    · replace h := ift c4 h
      refine e_iconst (v := (-1)) d_Measure_across_51 (by decide) ?_
      cases h
      exact e_iret d_Measure_across_52 rfl (Nat.le_refl _) (Nat.le_refl _)
    · replace h := ifn c4 h
      refine e_iload_n d_Measure_across_44 rfl ?_
      refine e_bipush (v := 30) d_Measure_across_45 (by decide) ?_
      refine e_isub d_Measure_across_47 ?_
      refine e_goto 52 d_Measure_across_48 (by decide) ?_
      cases h
      exact e_iret d_Measure_across_52 rfl (Nat.le_refl _) (Nat.le_refl _)
  · replace h := ifn c3 h
    by_cases c5 : (x0 &&& 3) = 1
    · replace h := ift c5 h
      refine e_tabEq 53 d_Measure_across_14 c5 (by decide) (by decide) rfl (by decide) ?_
      refine e_iload_n d_Measure_across_53 rfl ?_
      refine e_bipush (v := 7) d_Measure_across_54 (by decide) ?_
      refine e_ic_ge 66 d_Measure_across_56 (by decide) (fun c6 => ?_) (fun c6 => ?_)
      · replace h := ift c6 h
        refine e_iconst (v := (-1)) d_Measure_across_66 (by decide) ?_
        cases h
        exact e_iret d_Measure_across_67 rfl (Nat.le_refl _) (Nat.le_refl _)
      · replace h := ifn c6 h
        refine e_iload_n d_Measure_across_59 rfl ?_
        refine e_bipush (v := 6) d_Measure_across_60 (by decide) ?_
        refine e_iadd d_Measure_across_62 ?_
        refine e_goto 67 d_Measure_across_63 (by decide) ?_
        cases h
        exact e_iret d_Measure_across_67 rfl (Nat.le_refl _) (Nat.le_refl _)
    · replace h := ifn c5 h
      by_cases c7 : (x0 &&& 3) = 2
      · replace h := ift c7 h
        refine e_tabEq 68 d_Measure_across_14 c7 (by decide) (by decide) rfl (by decide) ?_
        refine e_iload_n d_Measure_across_68 rfl ?_
        refine e_bipush (v := 7) d_Measure_across_69 (by decide) ?_
        refine e_ic_ge 81 d_Measure_across_71 (by decide) (fun c8 => ?_) (fun c8 => ?_)
        · replace h := ift c8 h
          refine e_iconst (v := (-1)) d_Measure_across_81 (by decide) ?_
          cases h
          exact e_iret d_Measure_across_82 rfl (Nat.le_refl _) (Nat.le_refl _)
        · replace h := ifn c8 h
          refine e_iload_n d_Measure_across_74 rfl ?_
          refine e_bipush (v := 30) d_Measure_across_75 (by decide) ?_
          refine e_iadd d_Measure_across_77 ?_
          refine e_goto 82 d_Measure_across_78 (by decide) ?_
          cases h
          exact e_iret d_Measure_across_82 rfl (Nat.le_refl _) (Nat.le_refl _)
      · replace h := ifn c7 h
        refine e_tabOut 83 d_Measure_across_14 (tab_o 0 3 [0, 1, 2] (by decide) (by decide) (by decide) (fa_c c3 (fa_c c5 (fa_c c7 fa_n)))) (by decide) ?_
        refine e_iload_n d_Measure_across_83 rfl ?_
        refine e_if_le 94 d_Measure_across_84 (by decide) (fun c9 => ?_) (fun c9 => ?_)
        · replace h := ift c9 h
          refine e_iconst (v := (-1)) d_Measure_across_94 (by decide) ?_
          cases h
          exact e_iret d_Measure_across_95 rfl (Nat.le_refl _) (Nat.le_refl _)
        · replace h := ifn c9 h
          refine e_iload_n d_Measure_across_87 rfl ?_
          refine e_bipush (v := 6) d_Measure_across_88 (by decide) ?_
          refine e_isub d_Measure_across_90 ?_
          refine e_goto 95 d_Measure_across_91 (by decide) ?_
          cases h
          exact e_iret d_Measure_across_95 rfl (Nat.le_refl _) (Nat.le_refl _)
theorem d_Measure_takePiece_0 : DC m_Measure_takePiece 0 (.aload_n 0) 1 1 := ⟨by decide +kernel, rfl⟩
theorem d_Measure_takePiece_1 : DC m_Measure_takePiece 1 (.iconst 0) 1 2 := ⟨by decide +kernel, rfl⟩
theorem d_Measure_takePiece_2 : DC m_Measure_takePiece 2 (.putfield 22) 3 5 := ⟨by decide +kernel, rfl⟩
theorem d_Measure_takePiece_5 : DC m_Measure_takePiece 5 (.aload_n 0) 1 6 := ⟨by decide +kernel, rfl⟩
theorem d_Measure_takePiece_6 : DC m_Measure_takePiece 6 (.iload_n 1) 1 7 := ⟨by decide +kernel, rfl⟩
theorem d_Measure_takePiece_7 : DC m_Measure_takePiece 7 (.invokevirtual 46) 3 10 := ⟨by decide +kernel, rfl⟩
theorem d_Measure_takePiece_10 : DC m_Measure_takePiece 10 (.iconst 0) 1 11 := ⟨by decide +kernel, rfl⟩
theorem d_Measure_takePiece_11 : DC m_Measure_takePiece 11 (.istore_n 2) 1 12 := ⟨by decide +kernel, rfl⟩
theorem d_Measure_takePiece_12 : DC m_Measure_takePiece 12 (.iload_n 2) 1 13 := ⟨by decide +kernel, rfl⟩
theorem d_Measure_takePiece_13 : DC m_Measure_takePiece 13 (.aload_n 0) 1 14 := ⟨by decide +kernel, rfl⟩
theorem d_Measure_takePiece_14 : DC m_Measure_takePiece 14 (.getfield 22) 3 17 := ⟨by decide +kernel, rfl⟩
theorem d_Measure_takePiece_17 : DC m_Measure_takePiece 17 (.if_icmp .ge 61) 3 20 := ⟨by decide +kernel, rfl⟩
theorem d_Measure_takePiece_20 : DC m_Measure_takePiece 20 (.iload_n 2) 1 21 := ⟨by decide +kernel, rfl⟩
theorem d_Measure_takePiece_21 : DC m_Measure_takePiece 21 (.sipush 256) 3 24 := ⟨by decide +kernel, rfl⟩
theorem d_Measure_takePiece_24 : DC m_Measure_takePiece 24 (.if_icmp .ge 54) 3 27 := ⟨by decide +kernel, rfl⟩
theorem d_Measure_takePiece_27 : DC m_Measure_takePiece 27 (.aload_n 0) 1 28 := ⟨by decide +kernel, rfl⟩
theorem d_Measure_takePiece_28 : DC m_Measure_takePiece 28 (.getfield 18) 3 31 := ⟨by decide +kernel, rfl⟩
theorem d_Measure_takePiece_31 : DC m_Measure_takePiece 31 (.iload_n 2) 1 32 := ⟨by decide +kernel, rfl⟩
theorem d_Measure_takePiece_32 : DC m_Measure_takePiece 32 .iaload 1 33 := ⟨by decide +kernel, rfl⟩
theorem d_Measure_takePiece_33 : DC m_Measure_takePiece 33 (.istore_n 3) 1 34 := ⟨by decide +kernel, rfl⟩
theorem d_Measure_takePiece_34 : DC m_Measure_takePiece 34 (.iload_n 3) 1 35 := ⟨by decide +kernel, rfl⟩
theorem d_Measure_takePiece_35 : DC m_Measure_takePiece 35 (.bipush (-4)) 2 37 := ⟨by decide +kernel, rfl⟩
theorem d_Measure_takePiece_37 : DC m_Measure_takePiece 37 .iand 1 38 := ⟨by decide +kernel, rfl⟩
theorem d_Measure_takePiece_38 : DC m_Measure_takePiece 38 (.istore 4) 2 40 := ⟨by decide +kernel, rfl⟩
theorem d_Measure_takePiece_40 : DC m_Measure_takePiece 40 (.aload_n 0) 1 41 := ⟨by decide +kernel, rfl⟩
theorem d_Measure_takePiece_41 : DC m_Measure_takePiece 41 (.iload 4) 2 43 := ⟨by decide +kernel, rfl⟩
theorem d_Measure_takePiece_43 : DC m_Measure_takePiece 43 (.iload_n 3) 1 44 := ⟨by decide +kernel, rfl⟩
theorem d_Measure_takePiece_44 : DC m_Measure_takePiece 44 (.iconst 1) 1 45 := ⟨by decide +kernel, rfl⟩
theorem d_Measure_takePiece_45 : DC m_Measure_takePiece 45 .iadd 1 46 := ⟨by decide +kernel, rfl⟩
theorem d_Measure_takePiece_46 : DC m_Measure_takePiece 46 (.iconst 3) 1 47 := ⟨by decide +kernel, rfl⟩
theorem d_Measure_takePiece_47 : DC m_Measure_takePiece 47 .iand 1 48 := ⟨by decide +kernel, rfl⟩
theorem d_Measure_takePiece_48 : DC m_Measure_takePiece 48 .ior 1 49 := ⟨by decide +kernel, rfl⟩
theorem d_Measure_takePiece_49 : DC m_Measure_takePiece 49 (.invokevirtual 46) 3 52 := ⟨by decide +kernel, rfl⟩
theorem d_Measure_takePiece_52 : DC m_Measure_takePiece 52 (.aload_n 0) 1 53 := ⟨by decide +kernel, rfl⟩
theorem d_Measure_takePiece_53 : DC m_Measure_takePiece 53 (.iload 4) 2 55 := ⟨by decide +kernel, rfl⟩
theorem d_Measure_takePiece_55 : DC m_Measure_takePiece 55 (.iload_n 3) 1 56 := ⟨by decide +kernel, rfl⟩
theorem d_Measure_takePiece_56 : DC m_Measure_takePiece 56 (.iconst 3) 1 57 := ⟨by decide +kernel, rfl⟩
theorem d_Measure_takePiece_57 : DC m_Measure_takePiece 57 .iadd 1 58 := ⟨by decide +kernel, rfl⟩
theorem d_Measure_takePiece_58 : DC m_Measure_takePiece 58 (.iconst 3) 1 59 := ⟨by decide +kernel, rfl⟩
theorem d_Measure_takePiece_59 : DC m_Measure_takePiece 59 .iand 1 60 := ⟨by decide +kernel, rfl⟩
theorem d_Measure_takePiece_60 : DC m_Measure_takePiece 60 .ior 1 61 := ⟨by decide +kernel, rfl⟩
theorem d_Measure_takePiece_61 : DC m_Measure_takePiece 61 (.invokevirtual 46) 3 64 := ⟨by decide +kernel, rfl⟩
theorem d_Measure_takePiece_64 : DC m_Measure_takePiece 64 (.aload_n 0) 1 65 := ⟨by decide +kernel, rfl⟩
theorem d_Measure_takePiece_65 : DC m_Measure_takePiece 65 (.iload_n 3) 1 66 := ⟨by decide +kernel, rfl⟩
theorem d_Measure_takePiece_66 : DC m_Measure_takePiece 66 (.invokestatic 49) 3 69 := ⟨by decide +kernel, rfl⟩
theorem d_Measure_takePiece_69 : DC m_Measure_takePiece 69 (.invokevirtual 46) 3 72 := ⟨by decide +kernel, rfl⟩
theorem d_Measure_takePiece_72 : DC m_Measure_takePiece 72 (.iinc 2 1) 3 75 := ⟨by decide +kernel, rfl⟩
theorem d_Measure_takePiece_75 : DC m_Measure_takePiece 75 (.goto (-63)) 3 78 := ⟨by decide +kernel, rfl⟩
theorem d_Measure_takePiece_78 : DC m_Measure_takePiece 78 .return_ 1 79 := ⟨by decide +kernel, rfl⟩
def f_Measure_takePiece_12 (n : Nat) : Nat → Nat → Int32 → MM → Option (MM)
  | 0, _, _, _ => none
  | m + 1, x0, x2, M =>
    (gI 6 2 x0 M).bind fun v1 =>
    if v1 ≤ x2 then
      some M
    else
      if 256 ≤ x2 then
        some M
      else
        (gR 6 1 x0 M).bind fun v4 =>
        (aI 100 v4 x2 M).bind fun v5 =>
        nm (α := Int32) (v5 &&& (-4)) fun y6 =>
        (f_Measure_takeOpen n x0 (y6 ||| ((v5 + 1) &&& 3)) M).bind fun M7 =>
        (f_Measure_takeOpen n x0 (y6 ||| ((v5 + 3) &&& 3)) M7).bind fun M8 =>
        (f_Measure_across n v5 M8).bind fun p9 =>
        (f_Measure_takeOpen n x0 p9.1 p9.2).bind fun M10 =>
        f_Measure_takePiece_12 n m x0 (x2 + 1) M10
theorem t_Measure_takePiece_12 (n : Nat) : ∀ (m : Nat) (x0 : Nat) (x2 : Int32) (M : MM) (z : MM), f_Measure_takePiece_12 n m x0 x2 M = some z → EV m_Measure_takePiece (rm 3 0 0) none z 0 0 12 [some (.ref x0), none, some (.int x2), none, none] [] M := by
  intro m
  induction m with
  | zero => intro x0 x2 M z h; cases h
  | succ m ih =>
    intro x0 x2 M z h
    rw [f_Measure_takePiece_12] at h
    refine e_iload_n d_Measure_takePiece_12 rfl ?_
    refine e_aload_n d_Measure_takePiece_13 rfl ?_
    obtain ⟨v1, hv1, h⟩ := bnd h
    refine e_getI d_Measure_takePiece_14 fl_Measure_22 (fun _ _ _ => rfl) hv1 ?_
    refine e_ic_ge 78 d_Measure_takePiece_17 (by decide) (fun c2 => ?_) (fun c2 => ?_)
    · replace h := ift c2 h
      cases h
      exact e_vret d_Measure_takePiece_78 rfl (Nat.le_refl _) (Nat.le_refl _)
    · replace h := ifn c2 h
      refine e_iload_n d_Measure_takePiece_20 rfl ?_
      refine e_sipush (v := 256) d_Measure_takePiece_21 (by decide) ?_
      refine e_ic_ge 78 d_Measure_takePiece_24 (by decide) (fun c3 => ?_) (fun c3 => ?_)
      · replace h := ift c3 h
        cases h
        exact e_vret d_Measure_takePiece_78 rfl (Nat.le_refl _) (Nat.le_refl _)
      · replace h := ifn c3 h
        refine e_aload_n d_Measure_takePiece_27 rfl ?_
        obtain ⟨v4, hv4, h⟩ := bnd h
        refine e_getR d_Measure_takePiece_28 fl_Measure_18 (fun _ _ _ => rfl) hv4 ?_
        refine e_iload_n d_Measure_takePiece_31 rfl ?_
        obtain ⟨v5, hv5, h⟩ := bnd h
        refine e_iald d_Measure_takePiece_32 hv5 ?_
        refine e_istore_n (l2 := [some (.ref x0), none, some (.int x2), some (.int v5), none]) d_Measure_takePiece_33 rfl (okl rfl) rfl ?_
        refine e_iload_n d_Measure_takePiece_34 rfl ?_
        refine e_bipush (v := (-4)) d_Measure_takePiece_35 (by decide) ?_
        refine e_iand d_Measure_takePiece_37 ?_
        obtain ⟨y6, ey6, h⟩ := nm_s h
        refine e_nameI ey6 ?_
        refine e_istore (l2 := [some (.ref x0), none, some (.int x2), some (.int v5), some (.int y6)]) d_Measure_takePiece_38 rfl (okl rfl) rfl ?_
        refine e_aload_n d_Measure_takePiece_40 rfl ?_
        refine e_iload d_Measure_takePiece_41 rfl ?_
        refine e_iload_n d_Measure_takePiece_43 rfl ?_
        refine e_iconst (v := 1) d_Measure_takePiece_44 (by decide) ?_
        refine e_iadd d_Measure_takePiece_45 ?_
        refine e_iconst (v := 3) d_Measure_takePiece_46 (by decide) ?_
        refine e_iand d_Measure_takePiece_47 ?_
        refine e_ior d_Measure_takePiece_48 ?_
        obtain ⟨M7, hM7, h⟩ := bnd h
        refine e_cVv (mt1 := m_Measure_takeOpen) (As := [.int (y6 ||| ((v5 + 1) &&& 3))]) (st := []) d_Measure_takePiece_49 ml_Measure_46 mv_Measure_takeOpen (t_Measure_takeOpen n x0 (y6 ||| ((v5 + 1) &&& 3)) M M7 hM7) (fc_Measure_takeOpen hM7) rfl rfl rfl (okp rfl) (okp rfl) (okp rfl) (Nat.le_refl _) (Nat.le_refl _) ?_
        refine e_aload_n d_Measure_takePiece_52 rfl ?_
        refine e_iload d_Measure_takePiece_53 rfl ?_
        refine e_iload_n d_Measure_takePiece_55 rfl ?_
        refine e_iconst (v := 3) d_Measure_takePiece_56 (by decide) ?_
        refine e_iadd d_Measure_takePiece_57 ?_
        refine e_iconst (v := 3) d_Measure_takePiece_58 (by decide) ?_
        refine e_iand d_Measure_takePiece_59 ?_
        refine e_ior d_Measure_takePiece_60 ?_
        obtain ⟨M8, hM8, h⟩ := bnd h
        refine e_cVv (mt1 := m_Measure_takeOpen) (As := [.int (y6 ||| ((v5 + 3) &&& 3))]) (st := []) d_Measure_takePiece_61 ml_Measure_46 mv_Measure_takeOpen (t_Measure_takeOpen n x0 (y6 ||| ((v5 + 3) &&& 3)) M7 M8 hM8) (fc_Measure_takeOpen hM8) rfl rfl rfl (okp rfl) (okp rfl) (okp rfl) (Nat.le_refl _) (Nat.le_refl _) ?_
        refine e_aload_n d_Measure_takePiece_64 rfl ?_
        refine e_iload_n d_Measure_takePiece_65 rfl ?_
        obtain ⟨p9, hp9, h⟩ := bnd h
        refine e_cSi (mt1 := m_Measure_across) (As := [.int v5]) (st := [.ref x0]) d_Measure_takePiece_66 ml_Measure_49 ms_Measure_across (t_Measure_across n v5 M8 p9 hp9) rfl rfl (okp rfl) (okp rfl) (okp rfl) (Nat.le_refl _) (Nat.le_refl _) ?_
        obtain ⟨M10, hM10, h⟩ := bnd h
        refine e_cVv (mt1 := m_Measure_takeOpen) (As := [.int p9.1]) (st := []) d_Measure_takePiece_69 ml_Measure_46 mv_Measure_takeOpen (t_Measure_takeOpen n x0 p9.1 p9.2 M10 hM10) (fc_Measure_takeOpen hM10) rfl rfl rfl (okp rfl) (okp rfl) (okp rfl) (Nat.le_refl _) (Nat.le_refl _) ?_
        refine e_iinc (v := x2 + 1) (l2 := [some (.ref x0), none, some (.int (x2 + 1)), some (.int v5), some (.int y6)]) d_Measure_takePiece_72 rfl rfl rfl (okl rfl) rfl ?_
        refine e_goto 12 d_Measure_takePiece_75 (by decide) ?_
        exact (ih x0 (x2 + 1) M10 z h).less (show LSub _ _ from ⟨rfl, ⟨rfl, trivial⟩⟩)
def f_Measure_takePiece (n : Nat) (x0 : Nat) (x1 : Int32) (M : MM) : Option (MM) :=
  og 6 x0 M <|
  (pI 6 2 x0 0 M).bind fun M11 =>
  (f_Measure_takeOpen n x0 x1 M11).bind fun M12 =>
  f_Measure_takePiece_12 n n x0 0 M12
theorem fc_Measure_takePiece {n : Nat} {x0 : Nat} {x1 : Int32} {M : MM} {z : MM} (h : f_Measure_takePiece n x0 x1 M = some z) : (M.1.2.1 x0).1 = 6 := by
  unfold f_Measure_takePiece at h
  exact (og_s h).1
theorem t_Measure_takePiece (n : Nat) (x0 : Nat) (x1 : Int32) (M : MM) (z : MM) (h : f_Measure_takePiece n x0 x1 M = some z) : CT m_Measure_takePiece (rm 3 0 0) [.ref x0, .int x1] M none z := by
  unfold f_Measure_takePiece at h
  obtain ⟨hthis, h⟩ := og_s h
  refine CT.of (ls := [some (.ref x0), some (.int x1), none, none, none]) rfl (okp rfl) rfl ?_
  refine e_aload_n d_Measure_takePiece_0 rfl ?_
  refine e_iconst (v := 0) d_Measure_takePiece_1 (by decide) ?_
  obtain ⟨M11, hM11, h⟩ := bnd h
  refine e_putI d_Measure_takePiece_2 fl_Measure_22 (Or.inl rfl) (fun _ _ _ => rfl) rfl hM11 ?_
  refine e_aload_n d_Measure_takePiece_5 rfl ?_
  refine e_iload_n d_Measure_takePiece_6 rfl ?_
  obtain ⟨M12, hM12, h⟩ := bnd h
  refine e_cVv (mt1 := m_Measure_takeOpen) (As := [.int x1]) (st := []) d_Measure_takePiece_7 ml_Measure_46 mv_Measure_takeOpen (t_Measure_takeOpen n x0 x1 M11 M12 hM12) (fc_Measure_takeOpen hM12) rfl rfl rfl (okp rfl) (okp rfl) (okp rfl) (Nat.le_refl _) (Nat.le_refl _) ?_
  refine e_iconst (v := 0) d_Measure_takePiece_10 (by decide) ?_
  refine e_istore_n (l2 := [some (.ref x0), some (.int x1), some (.int 0), none, none]) d_Measure_takePiece_11 rfl (okl rfl) rfl ?_
  exact (t_Measure_takePiece_12 n n x0 0 M12 z h).less (show LSub _ _ from ⟨rfl, ⟨rfl, trivial⟩⟩)
theorem d_Measure_countPieces_0 : DC m_Measure_countPieces 0 (.aload_n 0) 1 1 := ⟨by decide +kernel, rfl⟩
theorem d_Measure_countPieces_1 : DC m_Measure_countPieces 1 (.getfield 12) 3 4 := ⟨by decide +kernel, rfl⟩
theorem d_Measure_countPieces_4 : DC m_Measure_countPieces 4 (.aload_n 1) 1 5 := ⟨by decide +kernel, rfl⟩
theorem d_Measure_countPieces_5 : DC m_Measure_countPieces 5 (.invokevirtual 26) 3 8 := ⟨by decide +kernel, rfl⟩
theorem d_Measure_countPieces_8 : DC m_Measure_countPieces 8 (.iconst 0) 1 9 := ⟨by decide +kernel, rfl⟩
theorem d_Measure_countPieces_9 : DC m_Measure_countPieces 9 (.istore_n 2) 1 10 := ⟨by decide +kernel, rfl⟩
theorem d_Measure_countPieces_10 : DC m_Measure_countPieces 10 (.iconst 0) 1 11 := ⟨by decide +kernel, rfl⟩
theorem d_Measure_countPieces_11 : DC m_Measure_countPieces 11 (.istore_n 3) 1 12 := ⟨by decide +kernel, rfl⟩
theorem d_Measure_countPieces_12 : DC m_Measure_countPieces 12 (.iload_n 3) 1 13 := ⟨by decide +kernel, rfl⟩
theorem d_Measure_countPieces_13 : DC m_Measure_countPieces 13 (.sipush 256) 3 16 := ⟨by decide +kernel, rfl⟩
theorem d_Measure_countPieces_16 : DC m_Measure_countPieces 16 (.if_icmp .ge 28) 3 19 := ⟨by decide +kernel, rfl⟩
theorem d_Measure_countPieces_19 : DC m_Measure_countPieces 19 (.aload_n 0) 1 20 := ⟨by decide +kernel, rfl⟩
theorem d_Measure_countPieces_20 : DC m_Measure_countPieces 20 (.getfield 12) 3 23 := ⟨by decide +kernel, rfl⟩
theorem d_Measure_countPieces_23 : DC m_Measure_countPieces 23 (.iload_n 3) 1 24 := ⟨by decide +kernel, rfl⟩
theorem d_Measure_countPieces_24 : DC m_Measure_countPieces 24 (.invokevirtual 30) 3 27 := ⟨by decide +kernel, rfl⟩
theorem d_Measure_countPieces_27 : DC m_Measure_countPieces 27 (.ifCond .eq 11) 3 30 := ⟨by decide +kernel, rfl⟩
theorem d_Measure_countPieces_30 : DC m_Measure_countPieces 30 (.iinc 2 1) 3 33 := ⟨by decide +kernel, rfl⟩
theorem d_Measure_countPieces_33 : DC m_Measure_countPieces 33 (.aload_n 0) 1 34 := ⟨by decide +kernel, rfl⟩
theorem d_Measure_countPieces_34 : DC m_Measure_countPieces 34 (.iload_n 3) 1 35 := ⟨by decide +kernel, rfl⟩
theorem d_Measure_countPieces_35 : DC m_Measure_countPieces 35 (.invokevirtual 34) 3 38 := ⟨by decide +kernel, rfl⟩
theorem d_Measure_countPieces_38 : DC m_Measure_countPieces 38 (.iinc 3 1) 3 41 := ⟨by decide +kernel, rfl⟩
theorem d_Measure_countPieces_41 : DC m_Measure_countPieces 41 (.goto (-29)) 3 44 := ⟨by decide +kernel, rfl⟩
theorem d_Measure_countPieces_44 : DC m_Measure_countPieces 44 (.iload_n 2) 1 45 := ⟨by decide +kernel, rfl⟩
theorem d_Measure_countPieces_45 : DC m_Measure_countPieces 45 .ireturn 1 46 := ⟨by decide +kernel, rfl⟩
def f_Measure_countPieces_38 (n : Nat) (k_12 : Nat → Int32 → Int32 → MM → Option (Int32 × MM)) (x0 : Nat) (x2 : Int32) (x3 : Int32) (M : MM) : Option (Int32 × MM) :=
  k_12 x0 x2 (x3 + 1) M
theorem t_Measure_countPieces_38 (n : Nat) {k_12 : Nat → Int32 → Int32 → MM → Option (Int32 × MM)} (hk_12 : ∀ (x0 : Nat) (x2 : Int32) (x3 : Int32) (M : MM) (z : Int32 × MM), k_12 x0 x2 x3 M = some z → EV m_Measure_countPieces (rm 4 0 0) (some (.int z.1)) z.2 0 0 12 [some (.ref x0), none, some (.int x2), some (.int x3)] [] M) (x0 : Nat) (x2 : Int32) (x3 : Int32) (M : MM) (z : Int32 × MM) (h : f_Measure_countPieces_38 n k_12 x0 x2 x3 M = some z) : EV m_Measure_countPieces (rm 4 0 0) (some (.int z.1)) z.2 0 0 38 [some (.ref x0), none, some (.int x2), some (.int x3)] [] M := by
  unfold f_Measure_countPieces_38 at h
  refine e_iinc (v := x3 + 1) (l2 := [some (.ref x0), none, some (.int x2), some (.int (x3 + 1))]) d_Measure_countPieces_38 rfl rfl rfl (okl rfl) rfl ?_
  refine e_goto 12 d_Measure_countPieces_41 (by decide) ?_
  exact (hk_12 x0 x2 (x3 + 1) M z h).less (show LSub _ _ from ⟨rfl, ⟨rfl, ⟨rfl, trivial⟩⟩⟩)
def f_Measure_countPieces_12 (n : Nat) : Nat → Nat → Int32 → Int32 → MM → Option (Int32 × MM)
  | 0, _, _, _, _ => none
  | m + 1, x0, x2, x3, M =>
    if 256 ≤ x3 then
      some (x2, M)
    else
      (gR 6 0 x0 M).bind fun v2 =>
      (f_Shape_holds n v2 x3 M).bind fun p3 =>
      if p3.1 = 0 then
        f_Measure_countPieces_38 n (f_Measure_countPieces_12 n m) x0 x2 x3 p3.2
      else
        (f_Measure_takePiece n x0 x3 p3.2).bind fun M5 =>
        f_Measure_countPieces_38 n (f_Measure_countPieces_12 n m) x0 (x2 + 1) x3 M5
theorem t_Measure_countPieces_12 (n : Nat) : ∀ (m : Nat) (x0 : Nat) (x2 : Int32) (x3 : Int32) (M : MM) (z : Int32 × MM), f_Measure_countPieces_12 n m x0 x2 x3 M = some z → EV m_Measure_countPieces (rm 4 0 0) (some (.int z.1)) z.2 0 0 12 [some (.ref x0), none, some (.int x2), some (.int x3)] [] M := by
  intro m
  induction m with
  | zero => intro x0 x2 x3 M z h; cases h
  | succ m ih =>
    intro x0 x2 x3 M z h
    rw [f_Measure_countPieces_12] at h
    refine e_iload_n d_Measure_countPieces_12 rfl ?_
    refine e_sipush (v := 256) d_Measure_countPieces_13 (by decide) ?_
    refine e_ic_ge 44 d_Measure_countPieces_16 (by decide) (fun c1 => ?_) (fun c1 => ?_)
    · replace h := ift c1 h
      refine e_iload_n d_Measure_countPieces_44 rfl ?_
      cases h
      exact e_iret d_Measure_countPieces_45 rfl (Nat.le_refl _) (Nat.le_refl _)
    · replace h := ifn c1 h
      refine e_aload_n d_Measure_countPieces_19 rfl ?_
      obtain ⟨v2, hv2, h⟩ := bnd h
      refine e_getR d_Measure_countPieces_20 fl_Measure_12 (fun _ _ _ => rfl) hv2 ?_
      refine e_iload_n d_Measure_countPieces_23 rfl ?_
      obtain ⟨p3, hp3, h⟩ := bnd h
      refine e_cVi (mt1 := m_Shape_holds) (As := [.int x3]) (st := []) d_Measure_countPieces_24 ml_Measure_30 mv_Shape_holds (t_Shape_holds n v2 x3 M p3 hp3) (fc_Shape_holds hp3) rfl rfl rfl (okp rfl) (okp rfl) (okp rfl) (Nat.le_refl _) (Nat.le_refl _) ?_
      refine e_if_eq 38 d_Measure_countPieces_27 (by decide) (fun c4 => ?_) (fun c4 => ?_)
      · replace h := ift c4 h
        exact (t_Measure_countPieces_38 n ih x0 x2 x3 p3.2 z h).less (show LSub _ _ from ⟨rfl, ⟨rfl, ⟨rfl, trivial⟩⟩⟩)
      · replace h := ifn c4 h
        refine e_iinc (v := x2 + 1) (l2 := [some (.ref x0), none, some (.int (x2 + 1)), some (.int x3)]) d_Measure_countPieces_30 rfl rfl rfl (okl rfl) rfl ?_
        refine e_aload_n d_Measure_countPieces_33 rfl ?_
        refine e_iload_n d_Measure_countPieces_34 rfl ?_
        obtain ⟨M5, hM5, h⟩ := bnd h
        refine e_cVv (mt1 := m_Measure_takePiece) (As := [.int x3]) (st := []) d_Measure_countPieces_35 ml_Measure_34 mv_Measure_takePiece (t_Measure_takePiece n x0 x3 p3.2 M5 hM5) (fc_Measure_takePiece hM5) rfl rfl rfl (okp rfl) (okp rfl) (okp rfl) (Nat.le_refl _) (Nat.le_refl _) ?_
        exact (t_Measure_countPieces_38 n ih x0 (x2 + 1) x3 M5 z h).less (show LSub _ _ from ⟨rfl, ⟨rfl, ⟨rfl, trivial⟩⟩⟩)
def f_Measure_countPieces (n : Nat) (x0 : Nat) (x1 : Nat) (M : MM) : Option (Int32 × MM) :=
  og 6 x0 M <|
  (gR 6 0 x0 M).bind fun v6 =>
  (f_Shape_copy n v6 x1 M).bind fun M7 =>
  f_Measure_countPieces_12 n n x0 0 0 M7
theorem fc_Measure_countPieces {n : Nat} {x0 : Nat} {x1 : Nat} {M : MM} {z : Int32 × MM} (h : f_Measure_countPieces n x0 x1 M = some z) : (M.1.2.1 x0).1 = 6 := by
  unfold f_Measure_countPieces at h
  exact (og_s h).1
theorem t_Measure_countPieces (n : Nat) (x0 : Nat) (x1 : Nat) (M : MM) (z : Int32 × MM) (h : f_Measure_countPieces n x0 x1 M = some z) : CT m_Measure_countPieces (rm 4 0 0) [.ref x0, .ref x1] M (some (.int z.1)) z.2 := by
  unfold f_Measure_countPieces at h
  obtain ⟨hthis, h⟩ := og_s h
  refine CT.of (ls := [some (.ref x0), some (.ref x1), none, none]) rfl (okp rfl) rfl ?_
  refine e_aload_n d_Measure_countPieces_0 rfl ?_
  obtain ⟨v6, hv6, h⟩ := bnd h
  refine e_getR d_Measure_countPieces_1 fl_Measure_12 (fun _ _ _ => rfl) hv6 ?_
  refine e_aload_n d_Measure_countPieces_4 rfl ?_
  obtain ⟨M7, hM7, h⟩ := bnd h
  refine e_cVv (mt1 := m_Shape_copy) (As := [.ref x1]) (st := []) d_Measure_countPieces_5 ml_Measure_26 mv_Shape_copy (t_Shape_copy n v6 x1 M M7 hM7) (fc_Shape_copy hM7) rfl rfl rfl (okp rfl) (okp rfl) (okp rfl) (Nat.le_refl _) (Nat.le_refl _) ?_
  refine e_iconst (v := 0) d_Measure_countPieces_8 (by decide) ?_
  refine e_istore_n (l2 := [some (.ref x0), some (.ref x1), some (.int 0), none]) d_Measure_countPieces_9 rfl (okl rfl) rfl ?_
  refine e_iconst (v := 0) d_Measure_countPieces_10 (by decide) ?_
  refine e_istore_n (l2 := [some (.ref x0), some (.ref x1), some (.int 0), some (.int 0)]) d_Measure_countPieces_11 rfl (okl rfl) rfl ?_
  exact (t_Measure_countPieces_12 n n x0 0 0 M7 z h).less (show LSub _ _ from ⟨rfl, ⟨rfl, ⟨rfl, trivial⟩⟩⟩)
theorem d_Measure_ringAt_0 : DC m_Measure_ringAt 0 (.aload_n 0) 1 1 := ⟨by decide +kernel, rfl⟩
theorem d_Measure_ringAt_1 : DC m_Measure_ringAt 1 (.iload_n 1) 1 2 := ⟨by decide +kernel, rfl⟩
theorem d_Measure_ringAt_2 : DC m_Measure_ringAt 2 (.iload_n 2) 1 3 := ⟨by decide +kernel, rfl⟩
theorem d_Measure_ringAt_3 : DC m_Measure_ringAt 3 (.iconst 1) 1 4 := ⟨by decide +kernel, rfl⟩
theorem d_Measure_ringAt_4 : DC m_Measure_ringAt 4 .isub 1 5 := ⟨by decide +kernel, rfl⟩
theorem d_Measure_ringAt_5 : DC m_Measure_ringAt 5 (.invokevirtual 64) 3 8 := ⟨by decide +kernel, rfl⟩
theorem d_Measure_ringAt_8 : DC m_Measure_ringAt 8 (.istore_n 3) 1 9 := ⟨by decide +kernel, rfl⟩
theorem d_Measure_ringAt_9 : DC m_Measure_ringAt 9 (.aload_n 0) 1 10 := ⟨by decide +kernel, rfl⟩
theorem d_Measure_ringAt_10 : DC m_Measure_ringAt 10 (.iload_n 1) 1 11 := ⟨by decide +kernel, rfl⟩
theorem d_Measure_ringAt_11 : DC m_Measure_ringAt 11 (.iload_n 2) 1 12 := ⟨by decide +kernel, rfl⟩
theorem d_Measure_ringAt_12 : DC m_Measure_ringAt 12 (.invokevirtual 64) 3 15 := ⟨by decide +kernel, rfl⟩
theorem d_Measure_ringAt_15 : DC m_Measure_ringAt 15 (.istore 4) 2 17 := ⟨by decide +kernel, rfl⟩
theorem d_Measure_ringAt_17 : DC m_Measure_ringAt 17 (.aload_n 0) 1 18 := ⟨by decide +kernel, rfl⟩
theorem d_Measure_ringAt_18 : DC m_Measure_ringAt 18 (.iload_n 1) 1 19 := ⟨by decide +kernel, rfl⟩
theorem d_Measure_ringAt_19 : DC m_Measure_ringAt 19 (.iconst 1) 1 20 := ⟨by decide +kernel, rfl⟩
theorem d_Measure_ringAt_20 : DC m_Measure_ringAt 20 .isub 1 21 := ⟨by decide +kernel, rfl⟩
theorem d_Measure_ringAt_21 : DC m_Measure_ringAt 21 (.iload_n 2) 1 22 := ⟨by decide +kernel, rfl⟩
theorem d_Measure_ringAt_22 : DC m_Measure_ringAt 22 (.invokevirtual 64) 3 25 := ⟨by decide +kernel, rfl⟩
theorem d_Measure_ringAt_25 : DC m_Measure_ringAt 25 (.istore 5) 2 27 := ⟨by decide +kernel, rfl⟩
theorem d_Measure_ringAt_27 : DC m_Measure_ringAt 27 (.aload_n 0) 1 28 := ⟨by decide +kernel, rfl⟩
theorem d_Measure_ringAt_28 : DC m_Measure_ringAt 28 (.iload_n 1) 1 29 := ⟨by decide +kernel, rfl⟩
theorem d_Measure_ringAt_29 : DC m_Measure_ringAt 29 (.iconst 1) 1 30 := ⟨by decide +kernel, rfl⟩
theorem d_Measure_ringAt_30 : DC m_Measure_ringAt 30 .isub 1 31 := ⟨by decide +kernel, rfl⟩
theorem d_Measure_ringAt_31 : DC m_Measure_ringAt 31 (.iload_n 2) 1 32 := ⟨by decide +kernel, rfl⟩
theorem d_Measure_ringAt_32 : DC m_Measure_ringAt 32 (.iconst 1) 1 33 := ⟨by decide +kernel, rfl⟩
theorem d_Measure_ringAt_33 : DC m_Measure_ringAt 33 .isub 1 34 := ⟨by decide +kernel, rfl⟩
theorem d_Measure_ringAt_34 : DC m_Measure_ringAt 34 (.invokevirtual 64) 3 37 := ⟨by decide +kernel, rfl⟩
theorem d_Measure_ringAt_37 : DC m_Measure_ringAt 37 (.istore 6) 2 39 := ⟨by decide +kernel, rfl⟩
theorem d_Measure_ringAt_39 : DC m_Measure_ringAt 39 (.iload_n 3) 1 40 := ⟨by decide +kernel, rfl⟩
theorem d_Measure_ringAt_40 : DC m_Measure_ringAt 40 (.iconst 3) 1 41 := ⟨by decide +kernel, rfl⟩
theorem d_Measure_ringAt_41 : DC m_Measure_ringAt 41 .iushr 1 42 := ⟨by decide +kernel, rfl⟩
theorem d_Measure_ringAt_42 : DC m_Measure_ringAt 42 (.iconst 1) 1 43 := ⟨by decide +kernel, rfl⟩
theorem d_Measure_ringAt_43 : DC m_Measure_ringAt 43 .iand 1 44 := ⟨by decide +kernel, rfl⟩
theorem d_Measure_ringAt_44 : DC m_Measure_ringAt 44 (.iload_n 3) 1 45 := ⟨by decide +kernel, rfl⟩
theorem d_Measure_ringAt_45 : DC m_Measure_ringAt 45 (.iconst 2) 1 46 := ⟨by decide +kernel, rfl⟩
theorem d_Measure_ringAt_46 : DC m_Measure_ringAt 46 .iushr 1 47 := ⟨by decide +kernel, rfl⟩
theorem d_Measure_ringAt_47 : DC m_Measure_ringAt 47 (.iconst 1) 1 48 := ⟨by decide +kernel, rfl⟩
theorem d_Measure_ringAt_48 : DC m_Measure_ringAt 48 .iand 1 49 := ⟨by decide +kernel, rfl⟩
theorem d_Measure_ringAt_49 : DC m_Measure_ringAt 49 (.iconst 1) 1 50 := ⟨by decide +kernel, rfl⟩
theorem d_Measure_ringAt_50 : DC m_Measure_ringAt 50 .ishl 1 51 := ⟨by decide +kernel, rfl⟩
theorem d_Measure_ringAt_51 : DC m_Measure_ringAt 51 .ior 1 52 := ⟨by decide +kernel, rfl⟩
theorem d_Measure_ringAt_52 : DC m_Measure_ringAt 52 (.iload 4) 2 54 := ⟨by decide +kernel, rfl⟩
theorem d_Measure_ringAt_54 : DC m_Measure_ringAt 54 (.iconst 1) 1 55 := ⟨by decide +kernel, rfl⟩
theorem d_Measure_ringAt_55 : DC m_Measure_ringAt 55 .iand 1 56 := ⟨by decide +kernel, rfl⟩
theorem d_Measure_ringAt_56 : DC m_Measure_ringAt 56 (.iconst 2) 1 57 := ⟨by decide +kernel, rfl⟩
theorem d_Measure_ringAt_57 : DC m_Measure_ringAt 57 .ishl 1 58 := ⟨by decide +kernel, rfl⟩
theorem d_Measure_ringAt_58 : DC m_Measure_ringAt 58 .ior 1 59 := ⟨by decide +kernel, rfl⟩
theorem d_Measure_ringAt_59 : DC m_Measure_ringAt 59 (.iload 4) 2 61 := ⟨by decide +kernel, rfl⟩
theorem d_Measure_ringAt_61 : DC m_Measure_ringAt 61 (.iconst 3) 1 62 := ⟨by decide +kernel, rfl⟩
theorem d_Measure_ringAt_62 : DC m_Measure_ringAt 62 .iushr 1 63 := ⟨by decide +kernel, rfl⟩
theorem d_Measure_ringAt_63 : DC m_Measure_ringAt 63 (.iconst 1) 1 64 := ⟨by decide +kernel, rfl⟩
theorem d_Measure_ringAt_64 : DC m_Measure_ringAt 64 .iand 1 65 := ⟨by decide +kernel, rfl⟩
theorem d_Measure_ringAt_65 : DC m_Measure_ringAt 65 (.iconst 3) 1 66 := ⟨by decide +kernel, rfl⟩
theorem d_Measure_ringAt_66 : DC m_Measure_ringAt 66 .ishl 1 67 := ⟨by decide +kernel, rfl⟩
theorem d_Measure_ringAt_67 : DC m_Measure_ringAt 67 .ior 1 68 := ⟨by decide +kernel, rfl⟩
theorem d_Measure_ringAt_68 : DC m_Measure_ringAt 68 (.iload 5) 2 70 := ⟨by decide +kernel, rfl⟩
theorem d_Measure_ringAt_70 : DC m_Measure_ringAt 70 (.iconst 1) 1 71 := ⟨by decide +kernel, rfl⟩
theorem d_Measure_ringAt_71 : DC m_Measure_ringAt 71 .iushr 1 72 := ⟨by decide +kernel, rfl⟩
theorem d_Measure_ringAt_72 : DC m_Measure_ringAt 72 (.iconst 1) 1 73 := ⟨by decide +kernel, rfl⟩
theorem d_Measure_ringAt_73 : DC m_Measure_ringAt 73 .iand 1 74 := ⟨by decide +kernel, rfl⟩
theorem d_Measure_ringAt_74 : DC m_Measure_ringAt 74 (.iconst 4) 1 75 := ⟨by decide +kernel, rfl⟩
theorem d_Measure_ringAt_75 : DC m_Measure_ringAt 75 .ishl 1 76 := ⟨by decide +kernel, rfl⟩
theorem d_Measure_ringAt_76 : DC m_Measure_ringAt 76 .ior 1 77 := ⟨by decide +kernel, rfl⟩
theorem d_Measure_ringAt_77 : DC m_Measure_ringAt 77 (.iload 5) 2 79 := ⟨by decide +kernel, rfl⟩
theorem d_Measure_ringAt_79 : DC m_Measure_ringAt 79 (.iconst 1) 1 80 := ⟨by decide +kernel, rfl⟩
theorem d_Measure_ringAt_80 : DC m_Measure_ringAt 80 .iand 1 81 := ⟨by decide +kernel, rfl⟩
theorem d_Measure_ringAt_81 : DC m_Measure_ringAt 81 (.iconst 5) 1 82 := ⟨by decide +kernel, rfl⟩
theorem d_Measure_ringAt_82 : DC m_Measure_ringAt 82 .ishl 1 83 := ⟨by decide +kernel, rfl⟩
theorem d_Measure_ringAt_83 : DC m_Measure_ringAt 83 .ior 1 84 := ⟨by decide +kernel, rfl⟩
theorem d_Measure_ringAt_84 : DC m_Measure_ringAt 84 (.iload 6) 2 86 := ⟨by decide +kernel, rfl⟩
theorem d_Measure_ringAt_86 : DC m_Measure_ringAt 86 (.iconst 2) 1 87 := ⟨by decide +kernel, rfl⟩
theorem d_Measure_ringAt_87 : DC m_Measure_ringAt 87 .iushr 1 88 := ⟨by decide +kernel, rfl⟩
theorem d_Measure_ringAt_88 : DC m_Measure_ringAt 88 (.iconst 1) 1 89 := ⟨by decide +kernel, rfl⟩
theorem d_Measure_ringAt_89 : DC m_Measure_ringAt 89 .iand 1 90 := ⟨by decide +kernel, rfl⟩
theorem d_Measure_ringAt_90 : DC m_Measure_ringAt 90 (.bipush 6) 2 92 := ⟨by decide +kernel, rfl⟩
theorem d_Measure_ringAt_92 : DC m_Measure_ringAt 92 .ishl 1 93 := ⟨by decide +kernel, rfl⟩
theorem d_Measure_ringAt_93 : DC m_Measure_ringAt 93 .ior 1 94 := ⟨by decide +kernel, rfl⟩
theorem d_Measure_ringAt_94 : DC m_Measure_ringAt 94 (.iload 6) 2 96 := ⟨by decide +kernel, rfl⟩
theorem d_Measure_ringAt_96 : DC m_Measure_ringAt 96 (.iconst 1) 1 97 := ⟨by decide +kernel, rfl⟩
theorem d_Measure_ringAt_97 : DC m_Measure_ringAt 97 .iushr 1 98 := ⟨by decide +kernel, rfl⟩
theorem d_Measure_ringAt_98 : DC m_Measure_ringAt 98 (.iconst 1) 1 99 := ⟨by decide +kernel, rfl⟩
theorem d_Measure_ringAt_99 : DC m_Measure_ringAt 99 .iand 1 100 := ⟨by decide +kernel, rfl⟩
theorem d_Measure_ringAt_100 : DC m_Measure_ringAt 100 (.bipush 7) 2 102 := ⟨by decide +kernel, rfl⟩
theorem d_Measure_ringAt_102 : DC m_Measure_ringAt 102 .ishl 1 103 := ⟨by decide +kernel, rfl⟩
theorem d_Measure_ringAt_103 : DC m_Measure_ringAt 103 .ior 1 104 := ⟨by decide +kernel, rfl⟩
theorem d_Measure_ringAt_104 : DC m_Measure_ringAt 104 .ireturn 1 105 := ⟨by decide +kernel, rfl⟩
def f_Measure_ringAt (n : Nat) (x0 : Nat) (x1 : Int32) (x2 : Int32) (M : MM) : Option (Int32 × MM) :=
  (f_Shape_cell n x0 x1 (x2 - 1) M).bind fun p1 =>
  (f_Shape_cell n x0 x1 x2 p1.2).bind fun p2 =>
  (f_Shape_cell n x0 (x1 - 1) x2 p2.2).bind fun p3 =>
  (f_Shape_cell n x0 (x1 - 1) (x2 - 1) p3.2).bind fun p4 =>
  some ((((((((((ushr p1.1 3) &&& 1) ||| (ishl ((ushr p1.1 2) &&& 1) 1)) ||| (ishl (p2.1 &&& 1) 2)) ||| (ishl ((ushr p2.1 3) &&& 1) 3)) ||| (ishl ((ushr p3.1 1) &&& 1) 4)) ||| (ishl (p3.1 &&& 1) 5)) ||| (ishl ((ushr p4.1 2) &&& 1) 6)) ||| (ishl ((ushr p4.1 1) &&& 1) 7)), p4.2)
theorem t_Measure_ringAt (n : Nat) (x0 : Nat) (x1 : Int32) (x2 : Int32) (M : MM) (z : Int32 × MM) (h : f_Measure_ringAt n x0 x1 x2 M = some z) : CT m_Measure_ringAt (rm 2 0 0) [.ref x0, .int x1, .int x2] M (some (.int z.1)) z.2 := by
  unfold f_Measure_ringAt at h
  refine CT.of (ls := [some (.ref x0), some (.int x1), some (.int x2), none, none, none, none]) rfl (okp rfl) rfl ?_
  refine e_aload_n d_Measure_ringAt_0 rfl ?_
  refine e_iload_n d_Measure_ringAt_1 rfl ?_
  refine e_iload_n d_Measure_ringAt_2 rfl ?_
  refine e_iconst (v := 1) d_Measure_ringAt_3 (by decide) ?_
  refine e_isub d_Measure_ringAt_4 ?_
  obtain ⟨p1, hp1, h⟩ := bnd h
  refine e_cVi (mt1 := m_Shape_cell) (As := [.int x1, .int (x2 - 1)]) (st := []) d_Measure_ringAt_5 ml_Measure_64 mv_Shape_cell (t_Shape_cell n x0 x1 (x2 - 1) M p1 hp1) (fc_Shape_cell hp1) rfl rfl rfl (okp rfl) (okp rfl) (okp rfl) (Nat.le_refl _) (Nat.le_refl _) ?_
  refine e_istore_n (l2 := [some (.ref x0), some (.int x1), some (.int x2), some (.int p1.1), none, none, none]) d_Measure_ringAt_8 rfl (okl rfl) rfl ?_
  refine e_aload_n d_Measure_ringAt_9 rfl ?_
  refine e_iload_n d_Measure_ringAt_10 rfl ?_
  refine e_iload_n d_Measure_ringAt_11 rfl ?_
  obtain ⟨p2, hp2, h⟩ := bnd h
  refine e_cVi (mt1 := m_Shape_cell) (As := [.int x1, .int x2]) (st := []) d_Measure_ringAt_12 ml_Measure_64 mv_Shape_cell (t_Shape_cell n x0 x1 x2 p1.2 p2 hp2) (fc_Shape_cell hp2) rfl rfl rfl (okp rfl) (okp rfl) (okp rfl) (Nat.le_refl _) (Nat.le_refl _) ?_
  refine e_istore (l2 := [some (.ref x0), some (.int x1), some (.int x2), some (.int p1.1), some (.int p2.1), none, none]) d_Measure_ringAt_15 rfl (okl rfl) rfl ?_
  refine e_aload_n d_Measure_ringAt_17 rfl ?_
  refine e_iload_n d_Measure_ringAt_18 rfl ?_
  refine e_iconst (v := 1) d_Measure_ringAt_19 (by decide) ?_
  refine e_isub d_Measure_ringAt_20 ?_
  refine e_iload_n d_Measure_ringAt_21 rfl ?_
  obtain ⟨p3, hp3, h⟩ := bnd h
  refine e_cVi (mt1 := m_Shape_cell) (As := [.int (x1 - 1), .int x2]) (st := []) d_Measure_ringAt_22 ml_Measure_64 mv_Shape_cell (t_Shape_cell n x0 (x1 - 1) x2 p2.2 p3 hp3) (fc_Shape_cell hp3) rfl rfl rfl (okp rfl) (okp rfl) (okp rfl) (Nat.le_refl _) (Nat.le_refl _) ?_
  refine e_istore (l2 := [some (.ref x0), some (.int x1), some (.int x2), some (.int p1.1), some (.int p2.1), some (.int p3.1), none]) d_Measure_ringAt_25 rfl (okl rfl) rfl ?_
  refine e_aload_n d_Measure_ringAt_27 rfl ?_
  refine e_iload_n d_Measure_ringAt_28 rfl ?_
  refine e_iconst (v := 1) d_Measure_ringAt_29 (by decide) ?_
  refine e_isub d_Measure_ringAt_30 ?_
  refine e_iload_n d_Measure_ringAt_31 rfl ?_
  refine e_iconst (v := 1) d_Measure_ringAt_32 (by decide) ?_
  refine e_isub d_Measure_ringAt_33 ?_
  obtain ⟨p4, hp4, h⟩ := bnd h
  refine e_cVi (mt1 := m_Shape_cell) (As := [.int (x1 - 1), .int (x2 - 1)]) (st := []) d_Measure_ringAt_34 ml_Measure_64 mv_Shape_cell (t_Shape_cell n x0 (x1 - 1) (x2 - 1) p3.2 p4 hp4) (fc_Shape_cell hp4) rfl rfl rfl (okp rfl) (okp rfl) (okp rfl) (Nat.le_refl _) (Nat.le_refl _) ?_
  refine e_istore (l2 := [some (.ref x0), some (.int x1), some (.int x2), some (.int p1.1), some (.int p2.1), some (.int p3.1), some (.int p4.1)]) d_Measure_ringAt_37 rfl (okl rfl) rfl ?_
  refine e_iload_n d_Measure_ringAt_39 rfl ?_
  refine e_iconst (v := 3) d_Measure_ringAt_40 (by decide) ?_
  refine e_iushr d_Measure_ringAt_41 ?_
  refine e_iconst (v := 1) d_Measure_ringAt_42 (by decide) ?_
  refine e_iand d_Measure_ringAt_43 ?_
  refine e_iload_n d_Measure_ringAt_44 rfl ?_
  refine e_iconst (v := 2) d_Measure_ringAt_45 (by decide) ?_
  refine e_iushr d_Measure_ringAt_46 ?_
  refine e_iconst (v := 1) d_Measure_ringAt_47 (by decide) ?_
  refine e_iand d_Measure_ringAt_48 ?_
  refine e_iconst (v := 1) d_Measure_ringAt_49 (by decide) ?_
  refine e_ishl d_Measure_ringAt_50 ?_
  refine e_ior d_Measure_ringAt_51 ?_
  refine e_iload d_Measure_ringAt_52 rfl ?_
  refine e_iconst (v := 1) d_Measure_ringAt_54 (by decide) ?_
  refine e_iand d_Measure_ringAt_55 ?_
  refine e_iconst (v := 2) d_Measure_ringAt_56 (by decide) ?_
  refine e_ishl d_Measure_ringAt_57 ?_
  refine e_ior d_Measure_ringAt_58 ?_
  refine e_iload d_Measure_ringAt_59 rfl ?_
  refine e_iconst (v := 3) d_Measure_ringAt_61 (by decide) ?_
  refine e_iushr d_Measure_ringAt_62 ?_
  refine e_iconst (v := 1) d_Measure_ringAt_63 (by decide) ?_
  refine e_iand d_Measure_ringAt_64 ?_
  refine e_iconst (v := 3) d_Measure_ringAt_65 (by decide) ?_
  refine e_ishl d_Measure_ringAt_66 ?_
  refine e_ior d_Measure_ringAt_67 ?_
  refine e_iload d_Measure_ringAt_68 rfl ?_
  refine e_iconst (v := 1) d_Measure_ringAt_70 (by decide) ?_
  refine e_iushr d_Measure_ringAt_71 ?_
  refine e_iconst (v := 1) d_Measure_ringAt_72 (by decide) ?_
  refine e_iand d_Measure_ringAt_73 ?_
  refine e_iconst (v := 4) d_Measure_ringAt_74 (by decide) ?_
  refine e_ishl d_Measure_ringAt_75 ?_
  refine e_ior d_Measure_ringAt_76 ?_
  refine e_iload d_Measure_ringAt_77 rfl ?_
  refine e_iconst (v := 1) d_Measure_ringAt_79 (by decide) ?_
  refine e_iand d_Measure_ringAt_80 ?_
  refine e_iconst (v := 5) d_Measure_ringAt_81 (by decide) ?_
  refine e_ishl d_Measure_ringAt_82 ?_
  refine e_ior d_Measure_ringAt_83 ?_
  refine e_iload d_Measure_ringAt_84 rfl ?_
  refine e_iconst (v := 2) d_Measure_ringAt_86 (by decide) ?_
  refine e_iushr d_Measure_ringAt_87 ?_
  refine e_iconst (v := 1) d_Measure_ringAt_88 (by decide) ?_
  refine e_iand d_Measure_ringAt_89 ?_
  refine e_bipush (v := 6) d_Measure_ringAt_90 (by decide) ?_
  refine e_ishl d_Measure_ringAt_92 ?_
  refine e_ior d_Measure_ringAt_93 ?_
  refine e_iload d_Measure_ringAt_94 rfl ?_
  refine e_iconst (v := 1) d_Measure_ringAt_96 (by decide) ?_
  refine e_iushr d_Measure_ringAt_97 ?_
  refine e_iconst (v := 1) d_Measure_ringAt_98 (by decide) ?_
  refine e_iand d_Measure_ringAt_99 ?_
  refine e_bipush (v := 7) d_Measure_ringAt_100 (by decide) ?_
  refine e_ishl d_Measure_ringAt_102 ?_
  refine e_ior d_Measure_ringAt_103 ?_
  cases h
  exact e_iret d_Measure_ringAt_104 rfl (Nat.le_refl _) (Nat.le_refl _)
theorem d_Measure_rowLength_0 : DC m_Measure_rowLength 0 (.iload_n 0) 1 1 := ⟨by decide +kernel, rfl⟩
theorem d_Measure_rowLength_1 : DC m_Measure_rowLength 1 (.iload_n 0) 1 2 := ⟨by decide +kernel, rfl⟩
theorem d_Measure_rowLength_2 : DC m_Measure_rowLength 2 (.iload_n 2) 1 3 := ⟨by decide +kernel, rfl⟩
theorem d_Measure_rowLength_3 : DC m_Measure_rowLength 3 .ishl 1 4 := ⟨by decide +kernel, rfl⟩
theorem d_Measure_rowLength_4 : DC m_Measure_rowLength 4 .ior 1 5 := ⟨by decide +kernel, rfl⟩
theorem d_Measure_rowLength_5 : DC m_Measure_rowLength 5 (.istore_n 3) 1 6 := ⟨by decide +kernel, rfl⟩
theorem d_Measure_rowLength_6 : DC m_Measure_rowLength 6 (.iconst 0) 1 7 := ⟨by decide +kernel, rfl⟩
theorem d_Measure_rowLength_7 : DC m_Measure_rowLength 7 (.istore 4) 2 9 := ⟨by decide +kernel, rfl⟩
theorem d_Measure_rowLength_9 : DC m_Measure_rowLength 9 (.iload 4) 2 11 := ⟨by decide +kernel, rfl⟩
theorem d_Measure_rowLength_11 : DC m_Measure_rowLength 11 (.iload_n 2) 1 12 := ⟨by decide +kernel, rfl⟩
theorem d_Measure_rowLength_12 : DC m_Measure_rowLength 12 (.if_icmp .ge 23) 3 15 := ⟨by decide +kernel, rfl⟩
theorem d_Measure_rowLength_15 : DC m_Measure_rowLength 15 (.iload_n 3) 1 16 := ⟨by decide +kernel, rfl⟩
theorem d_Measure_rowLength_16 : DC m_Measure_rowLength 16 (.iload_n 1) 1 17 := ⟨by decide +kernel, rfl⟩
theorem d_Measure_rowLength_17 : DC m_Measure_rowLength 17 (.iload 4) 2 19 := ⟨by decide +kernel, rfl⟩
theorem d_Measure_rowLength_19 : DC m_Measure_rowLength 19 .iadd 1 20 := ⟨by decide +kernel, rfl⟩
theorem d_Measure_rowLength_20 : DC m_Measure_rowLength 20 .iushr 1 21 := ⟨by decide +kernel, rfl⟩
theorem d_Measure_rowLength_21 : DC m_Measure_rowLength 21 (.iconst 1) 1 22 := ⟨by decide +kernel, rfl⟩
theorem d_Measure_rowLength_22 : DC m_Measure_rowLength 22 .iand 1 23 := ⟨by decide +kernel, rfl⟩
theorem d_Measure_rowLength_23 : DC m_Measure_rowLength 23 (.ifCond .ne 6) 3 26 := ⟨by decide +kernel, rfl⟩
theorem d_Measure_rowLength_26 : DC m_Measure_rowLength 26 (.iload 4) 2 28 := ⟨by decide +kernel, rfl⟩
theorem d_Measure_rowLength_28 : DC m_Measure_rowLength 28 .ireturn 1 29 := ⟨by decide +kernel, rfl⟩
theorem d_Measure_rowLength_29 : DC m_Measure_rowLength 29 (.iinc 4 1) 3 32 := ⟨by decide +kernel, rfl⟩
theorem d_Measure_rowLength_32 : DC m_Measure_rowLength 32 (.goto (-23)) 3 35 := ⟨by decide +kernel, rfl⟩
theorem d_Measure_rowLength_35 : DC m_Measure_rowLength 35 (.iload_n 2) 1 36 := ⟨by decide +kernel, rfl⟩
theorem d_Measure_rowLength_36 : DC m_Measure_rowLength 36 .ireturn 1 37 := ⟨by decide +kernel, rfl⟩
def f_Measure_rowLength_9 (n : Nat) : Nat → Int32 → Int32 → Int32 → Int32 → MM → Option (Int32 × MM)
  | 0, _, _, _, _, _ => none
  | m + 1, x1, x2, x3, x4, M =>
    if x2 ≤ x4 then
      some (x2, M)
    else
      if ((ushr x3 (x1 + x4)) &&& 1) = 0 then
        some (x4, M)
      else
        f_Measure_rowLength_9 n m x1 x2 x3 (x4 + 1) M
theorem t_Measure_rowLength_9 (n : Nat) : ∀ (m : Nat) (x1 : Int32) (x2 : Int32) (x3 : Int32) (x4 : Int32) (M : MM) (z : Int32 × MM), f_Measure_rowLength_9 n m x1 x2 x3 x4 M = some z → EV m_Measure_rowLength (rm 1 0 0) (some (.int z.1)) z.2 0 0 9 [none, some (.int x1), some (.int x2), some (.int x3), some (.int x4)] [] M := by
  intro m
  induction m with
  | zero => intro x1 x2 x3 x4 M z h; cases h
  | succ m ih =>
    intro x1 x2 x3 x4 M z h
    rw [f_Measure_rowLength_9] at h
    refine e_iload d_Measure_rowLength_9 rfl ?_
    refine e_iload_n d_Measure_rowLength_11 rfl ?_
    refine e_ic_ge 35 d_Measure_rowLength_12 (by decide) (fun c1 => ?_) (fun c1 => ?_)
    · replace h := ift c1 h
      refine e_iload_n d_Measure_rowLength_35 rfl ?_
      cases h
      exact e_iret d_Measure_rowLength_36 rfl (Nat.le_refl _) (Nat.le_refl _)
    · replace h := ifn c1 h
      refine e_iload_n d_Measure_rowLength_15 rfl ?_
      refine e_iload_n d_Measure_rowLength_16 rfl ?_
      refine e_iload d_Measure_rowLength_17 rfl ?_
      refine e_iadd d_Measure_rowLength_19 ?_
      refine e_iushr d_Measure_rowLength_20 ?_
      refine e_iconst (v := 1) d_Measure_rowLength_21 (by decide) ?_
      refine e_iand d_Measure_rowLength_22 ?_
      refine e_if_ne 29 d_Measure_rowLength_23 (by decide) (fun c2 => ?_) (fun c2 => ?_)
      · replace h := ifn c2 h
        refine e_iinc (v := x4 + 1) (l2 := [none, some (.int x1), some (.int x2), some (.int x3), some (.int (x4 + 1))]) d_Measure_rowLength_29 rfl rfl rfl (okl rfl) rfl ?_
        refine e_goto 9 d_Measure_rowLength_32 (by decide) ?_
        exact (ih x1 x2 x3 (x4 + 1) M z h).less (show LSub _ _ from ⟨rfl, ⟨rfl, ⟨rfl, ⟨rfl, trivial⟩⟩⟩⟩)
      · replace h := ift c2 h
        refine e_iload d_Measure_rowLength_26 rfl ?_
        cases h
        exact e_iret d_Measure_rowLength_28 rfl (Nat.le_refl _) (Nat.le_refl _)
def f_Measure_rowLength (n : Nat) (x0 : Int32) (x1 : Int32) (x2 : Int32) (M : MM) : Option (Int32 × MM) :=
  nm (α := Int32) (x0 ||| (ishl x0 x2)) fun y3 =>
  f_Measure_rowLength_9 n n x1 x2 y3 0 M
theorem t_Measure_rowLength (n : Nat) (x0 : Int32) (x1 : Int32) (x2 : Int32) (M : MM) (z : Int32 × MM) (h : f_Measure_rowLength n x0 x1 x2 M = some z) : CT m_Measure_rowLength (rm 1 0 0) [.int x0, .int x1, .int x2] M (some (.int z.1)) z.2 := by
  unfold f_Measure_rowLength at h
  refine CT.of (ls := [some (.int x0), some (.int x1), some (.int x2), none, none]) rfl (okp rfl) rfl ?_
  refine e_iload_n d_Measure_rowLength_0 rfl ?_
  refine e_iload_n d_Measure_rowLength_1 rfl ?_
  refine e_iload_n d_Measure_rowLength_2 rfl ?_
  refine e_ishl d_Measure_rowLength_3 ?_
  refine e_ior d_Measure_rowLength_4 ?_
  obtain ⟨y3, ey3, h⟩ := nm_s h
  refine e_nameI ey3 ?_
  refine e_istore_n (l2 := [some (.int x0), some (.int x1), some (.int x2), some (.int y3), none]) d_Measure_rowLength_5 rfl (okl rfl) rfl ?_
  refine e_iconst (v := 0) d_Measure_rowLength_6 (by decide) ?_
  refine e_istore (l2 := [some (.int x0), some (.int x1), some (.int x2), some (.int y3), some (.int 0)]) d_Measure_rowLength_7 rfl (okl rfl) rfl ?_
  exact (t_Measure_rowLength_9 n n x1 x2 y3 0 M z h).less (show LSub _ _ from ⟨rfl, ⟨rfl, ⟨rfl, ⟨rfl, trivial⟩⟩⟩⟩)
theorem d_Measure_countAngles_0 : DC m_Measure_countAngles 0 (.iload_n 0) 1 1 := ⟨by decide +kernel, rfl⟩
theorem d_Measure_countAngles_1 : DC m_Measure_countAngles 1 (.ifCond .eq 12) 3 4 := ⟨by decide +kernel, rfl⟩
theorem d_Measure_countAngles_4 : DC m_Measure_countAngles 4 (.iload_n 0) 1 5 := ⟨by decide +kernel, rfl⟩
theorem d_Measure_countAngles_5 : DC m_Measure_countAngles 5 (.iconst 1) 1 6 := ⟨by decide +kernel, rfl⟩
theorem d_Measure_countAngles_6 : DC m_Measure_countAngles 6 (.iload_n 1) 1 7 := ⟨by decide +kernel, rfl⟩
theorem d_Measure_countAngles_7 : DC m_Measure_countAngles 7 .ishl 1 8 := ⟨by decide +kernel, rfl⟩
theorem d_Measure_countAngles_8 : DC m_Measure_countAngles 8 (.iconst 1) 1 9 := ⟨by decide +kernel, rfl⟩
theorem d_Measure_countAngles_9 : DC m_Measure_countAngles 9 .isub 1 10 := ⟨by decide +kernel, rfl⟩
theorem d_Measure_countAngles_10 : DC m_Measure_countAngles 10 (.if_icmp .ne 5) 3 13 := ⟨by decide +kernel, rfl⟩
theorem d_Measure_countAngles_13 : DC m_Measure_countAngles 13 (.iconst 0) 1 14 := ⟨by decide +kernel, rfl⟩
theorem d_Measure_countAngles_14 : DC m_Measure_countAngles 14 .ireturn 1 15 := ⟨by decide +kernel, rfl⟩
theorem d_Measure_countAngles_15 : DC m_Measure_countAngles 15 (.iconst 0) 1 16 := ⟨by decide +kernel, rfl⟩
theorem d_Measure_countAngles_16 : DC m_Measure_countAngles 16 (.istore_n 3) 1 17 := ⟨by decide +kernel, rfl⟩
theorem d_Measure_countAngles_17 : DC m_Measure_countAngles 17 (.iconst 0) 1 18 := ⟨by decide +kernel, rfl⟩
theorem d_Measure_countAngles_18 : DC m_Measure_countAngles 18 (.istore 4) 2 20 := ⟨by decide +kernel, rfl⟩
theorem d_Measure_countAngles_20 : DC m_Measure_countAngles 20 (.iload 4) 2 22 := ⟨by decide +kernel, rfl⟩
theorem d_Measure_countAngles_22 : DC m_Measure_countAngles 22 (.iload_n 1) 1 23 := ⟨by decide +kernel, rfl⟩
theorem d_Measure_countAngles_23 : DC m_Measure_countAngles 23 (.if_icmp .ge 82) 3 26 := ⟨by decide +kernel, rfl⟩
theorem d_Measure_countAngles_26 : DC m_Measure_countAngles 26 (.iload 4) 2 28 := ⟨by decide +kernel, rfl⟩
theorem d_Measure_countAngles_28 : DC m_Measure_countAngles 28 (.ifCond .ne 9) 3 31 := ⟨by decide +kernel, rfl⟩
theorem d_Measure_countAngles_31 : DC m_Measure_countAngles 31 (.iload_n 1) 1 32 := ⟨by decide +kernel, rfl⟩
theorem d_Measure_countAngles_32 : DC m_Measure_countAngles 32 (.iconst 1) 1 33 := ⟨by decide +kernel, rfl⟩
theorem d_Measure_countAngles_33 : DC m_Measure_countAngles 33 .isub 1 34 := ⟨by decide +kernel, rfl⟩
theorem d_Measure_countAngles_34 : DC m_Measure_countAngles 34 (.goto 7) 3 37 := ⟨by decide +kernel, rfl⟩
theorem d_Measure_countAngles_37 : DC m_Measure_countAngles 37 (.iload 4) 2 39 := ⟨by decide +kernel, rfl⟩
theorem d_Measure_countAngles_39 : DC m_Measure_countAngles 39 (.iconst 1) 1 40 := ⟨by decide +kernel, rfl⟩
theorem d_Measure_countAngles_40 : DC m_Measure_countAngles 40 .isub 1 41 := ⟨by decide +kernel, rfl⟩
theorem d_Measure_countAngles_41 : DC m_Measure_countAngles 41 (.istore 5) 2 43 := ⟨by decide +kernel, rfl⟩
theorem d_Measure_countAngles_43 : DC m_Measure_countAngles 43 (.iload_n 0) 1 44 := ⟨by decide +kernel, rfl⟩
theorem d_Measure_countAngles_44 : DC m_Measure_countAngles 44 (.iload 4) 2 46 := ⟨by decide +kernel, rfl⟩
theorem d_Measure_countAngles_46 : DC m_Measure_countAngles 46 .iushr 1 47 := ⟨by decide +kernel, rfl⟩
theorem d_Measure_countAngles_47 : DC m_Measure_countAngles 47 (.iconst 1) 1 48 := ⟨by decide +kernel, rfl⟩
theorem d_Measure_countAngles_48 : DC m_Measure_countAngles 48 .iand 1 49 := ⟨by decide +kernel, rfl⟩
theorem d_Measure_countAngles_49 : DC m_Measure_countAngles 49 (.ifCond .eq 50) 3 52 := ⟨by decide +kernel, rfl⟩
theorem d_Measure_countAngles_52 : DC m_Measure_countAngles 52 (.iload_n 0) 1 53 := ⟨by decide +kernel, rfl⟩
theorem d_Measure_countAngles_53 : DC m_Measure_countAngles 53 (.iload 5) 2 55 := ⟨by decide +kernel, rfl⟩
theorem d_Measure_countAngles_55 : DC m_Measure_countAngles 55 .iushr 1 56 := ⟨by decide +kernel, rfl⟩
theorem d_Measure_countAngles_56 : DC m_Measure_countAngles 56 (.iconst 1) 1 57 := ⟨by decide +kernel, rfl⟩
theorem d_Measure_countAngles_57 : DC m_Measure_countAngles 57 .iand 1 58 := ⟨by decide +kernel, rfl⟩
theorem d_Measure_countAngles_58 : DC m_Measure_countAngles 58 (.ifCond .ne 41) 3 61 := ⟨by decide +kernel, rfl⟩
theorem d_Measure_countAngles_61 : DC m_Measure_countAngles 61 (.iconst 2) 1 62 := ⟨by decide +kernel, rfl⟩
theorem d_Measure_countAngles_62 : DC m_Measure_countAngles 62 (.iload_n 0) 1 63 := ⟨by decide +kernel, rfl⟩
theorem d_Measure_countAngles_63 : DC m_Measure_countAngles 63 (.iload 4) 2 65 := ⟨by decide +kernel, rfl⟩
theorem d_Measure_countAngles_65 : DC m_Measure_countAngles 65 (.iload_n 1) 1 66 := ⟨by decide +kernel, rfl⟩
theorem d_Measure_countAngles_66 : DC m_Measure_countAngles 66 (.invokestatic 68) 3 69 := ⟨by decide +kernel, rfl⟩
theorem d_Measure_countAngles_69 : DC m_Measure_countAngles 69 .imul 1 70 := ⟨by decide +kernel, rfl⟩
theorem d_Measure_countAngles_70 : DC m_Measure_countAngles 70 (.istore 6) 2 72 := ⟨by decide +kernel, rfl⟩
theorem d_Measure_countAngles_72 : DC m_Measure_countAngles 72 (.iload_n 3) 1 73 := ⟨by decide +kernel, rfl⟩
theorem d_Measure_countAngles_73 : DC m_Measure_countAngles 73 (.iload_n 2) 1 74 := ⟨by decide +kernel, rfl⟩
theorem d_Measure_countAngles_74 : DC m_Measure_countAngles 74 (.ifCond .eq 12) 3 77 := ⟨by decide +kernel, rfl⟩
theorem d_Measure_countAngles_77 : DC m_Measure_countAngles 77 (.iload 6) 2 79 := ⟨by decide +kernel, rfl⟩
theorem d_Measure_countAngles_79 : DC m_Measure_countAngles 79 (.iload_n 1) 1 80 := ⟨by decide +kernel, rfl⟩
theorem d_Measure_countAngles_80 : DC m_Measure_countAngles 80 (.if_icmp .le 16) 3 83 := ⟨by decide +kernel, rfl⟩
theorem d_Measure_countAngles_83 : DC m_Measure_countAngles 83 (.goto 9) 3 86 := ⟨by decide +kernel, rfl⟩
theorem d_Measure_countAngles_86 : DC m_Measure_countAngles 86 (.iload 6) 2 88 := ⟨by decide +kernel, rfl⟩
theorem d_Measure_countAngles_88 : DC m_Measure_countAngles 88 (.iload_n 1) 1 89 := ⟨by decide +kernel, rfl⟩
theorem d_Measure_countAngles_89 : DC m_Measure_countAngles 89 (.if_icmp .ge 7) 3 92 := ⟨by decide +kernel, rfl⟩
theorem d_Measure_countAngles_92 : DC m_Measure_countAngles 92 (.iconst 1) 1 93 := ⟨by decide +kernel, rfl⟩
theorem d_Measure_countAngles_93 : DC m_Measure_countAngles 93 (.goto 4) 3 96 := ⟨by decide +kernel, rfl⟩
theorem d_Measure_countAngles_96 : DC m_Measure_countAngles 96 (.iconst 0) 1 97 := ⟨by decide +kernel, rfl⟩
theorem d_Measure_countAngles_97 : DC m_Measure_countAngles 97 .iadd 1 98 := ⟨by decide +kernel, rfl⟩
theorem d_Measure_countAngles_98 : DC m_Measure_countAngles 98 (.istore_n 3) 1 99 := ⟨by decide +kernel, rfl⟩
theorem d_Measure_countAngles_99 : DC m_Measure_countAngles 99 (.iinc 4 1) 3 102 := ⟨by decide +kernel, rfl⟩
theorem d_Measure_countAngles_102 : DC m_Measure_countAngles 102 (.goto (-82)) 3 105 := ⟨by decide +kernel, rfl⟩
theorem d_Measure_countAngles_105 : DC m_Measure_countAngles 105 (.iload_n 3) 1 106 := ⟨by decide +kernel, rfl⟩
theorem d_Measure_countAngles_106 : DC m_Measure_countAngles 106 .ireturn 1 107 := ⟨by decide +kernel, rfl⟩
def f_Measure_countAngles_99 (n : Nat) (k_20 : Int32 → Int32 → Int32 → Int32 → Int32 → MM → Option (Int32 × MM)) (x0 : Int32) (x1 : Int32) (x2 : Int32) (x3 : Int32) (x4 : Int32) (M : MM) : Option (Int32 × MM) :=
  k_20 x0 x1 x2 x3 (x4 + 1) M
theorem t_Measure_countAngles_99 (n : Nat) {k_20 : Int32 → Int32 → Int32 → Int32 → Int32 → MM → Option (Int32 × MM)} (hk_20 : ∀ (x0 : Int32) (x1 : Int32) (x2 : Int32) (x3 : Int32) (x4 : Int32) (M : MM) (z : Int32 × MM), k_20 x0 x1 x2 x3 x4 M = some z → EV m_Measure_countAngles (rm 2 0 0) (some (.int z.1)) z.2 0 0 20 [some (.int x0), some (.int x1), some (.int x2), some (.int x3), some (.int x4), none, none] [] M) (x0 : Int32) (x1 : Int32) (x2 : Int32) (x3 : Int32) (x4 : Int32) (M : MM) (z : Int32 × MM) (h : f_Measure_countAngles_99 n k_20 x0 x1 x2 x3 x4 M = some z) : EV m_Measure_countAngles (rm 2 0 0) (some (.int z.1)) z.2 0 0 99 [some (.int x0), some (.int x1), some (.int x2), some (.int x3), some (.int x4), none, none] [] M := by
  unfold f_Measure_countAngles_99 at h
  refine e_iinc (v := x4 + 1) (l2 := [some (.int x0), some (.int x1), some (.int x2), some (.int x3), some (.int (x4 + 1)), none, none]) d_Measure_countAngles_99 rfl rfl rfl (okl rfl) rfl ?_
  refine e_goto 20 d_Measure_countAngles_102 (by decide) ?_
  exact (hk_20 x0 x1 x2 x3 (x4 + 1) M z h).less (show LSub _ _ from ⟨rfl, ⟨rfl, ⟨rfl, ⟨rfl, ⟨rfl, trivial⟩⟩⟩⟩⟩)
def f_Measure_countAngles_97 (n : Nat) (k_20 : Int32 → Int32 → Int32 → Int32 → Int32 → MM → Option (Int32 × MM)) (x0 : Int32) (x1 : Int32) (x2 : Int32) (x4 : Int32) (s0 : Int32) (s1 : Int32) (M : MM) : Option (Int32 × MM) :=
  nm (α := Int32) (s0 + s1) fun y1 =>
  f_Measure_countAngles_99 n k_20 x0 x1 x2 y1 x4 M
theorem t_Measure_countAngles_97 (n : Nat) {k_20 : Int32 → Int32 → Int32 → Int32 → Int32 → MM → Option (Int32 × MM)} (hk_20 : ∀ (x0 : Int32) (x1 : Int32) (x2 : Int32) (x3 : Int32) (x4 : Int32) (M : MM) (z : Int32 × MM), k_20 x0 x1 x2 x3 x4 M = some z → EV m_Measure_countAngles (rm 2 0 0) (some (.int z.1)) z.2 0 0 20 [some (.int x0), some (.int x1), some (.int x2), some (.int x3), some (.int x4), none, none] [] M) (x0 : Int32) (x1 : Int32) (x2 : Int32) (x4 : Int32) (s0 : Int32) (s1 : Int32) (M : MM) (z : Int32 × MM) (h : f_Measure_countAngles_97 n k_20 x0 x1 x2 x4 s0 s1 M = some z) : EV m_Measure_countAngles (rm 2 0 0) (some (.int z.1)) z.2 0 0 97 [some (.int x0), some (.int x1), some (.int x2), none, some (.int x4), none, none] [.int s1, .int s0] M := by
  unfold f_Measure_countAngles_97 at h
  refine e_iadd d_Measure_countAngles_97 ?_
  obtain ⟨y1, ey1, h⟩ := nm_s h
  refine e_nameI ey1 ?_
  refine e_istore_n (l2 := [some (.int x0), some (.int x1), some (.int x2), some (.int y1), some (.int x4), none, none]) d_Measure_countAngles_98 rfl (okl rfl) rfl ?_
  exact (t_Measure_countAngles_99 n hk_20 x0 x1 x2 y1 x4 M z h).less (show LSub _ _ from ⟨rfl, ⟨rfl, ⟨rfl, ⟨rfl, ⟨rfl, trivial⟩⟩⟩⟩⟩)
def f_Measure_countAngles_96 (n : Nat) (k_20 : Int32 → Int32 → Int32 → Int32 → Int32 → MM → Option (Int32 × MM)) (x0 : Int32) (x1 : Int32) (x2 : Int32) (x4 : Int32) (s0 : Int32) (M : MM) : Option (Int32 × MM) :=
  f_Measure_countAngles_97 n k_20 x0 x1 x2 x4 s0 0 M
theorem t_Measure_countAngles_96 (n : Nat) {k_20 : Int32 → Int32 → Int32 → Int32 → Int32 → MM → Option (Int32 × MM)} (hk_20 : ∀ (x0 : Int32) (x1 : Int32) (x2 : Int32) (x3 : Int32) (x4 : Int32) (M : MM) (z : Int32 × MM), k_20 x0 x1 x2 x3 x4 M = some z → EV m_Measure_countAngles (rm 2 0 0) (some (.int z.1)) z.2 0 0 20 [some (.int x0), some (.int x1), some (.int x2), some (.int x3), some (.int x4), none, none] [] M) (x0 : Int32) (x1 : Int32) (x2 : Int32) (x4 : Int32) (s0 : Int32) (M : MM) (z : Int32 × MM) (h : f_Measure_countAngles_96 n k_20 x0 x1 x2 x4 s0 M = some z) : EV m_Measure_countAngles (rm 2 0 0) (some (.int z.1)) z.2 0 0 96 [some (.int x0), some (.int x1), some (.int x2), none, some (.int x4), none, none] [.int s0] M := by
  unfold f_Measure_countAngles_96 at h
  refine e_iconst (v := 0) d_Measure_countAngles_96 (by decide) ?_
  exact (t_Measure_countAngles_97 n hk_20 x0 x1 x2 x4 s0 0 M z h).less (show LSub _ _ from ⟨rfl, ⟨rfl, ⟨rfl, ⟨rfl, trivial⟩⟩⟩⟩)
def f_Measure_countAngles_92 (n : Nat) (k_20 : Int32 → Int32 → Int32 → Int32 → Int32 → MM → Option (Int32 × MM)) (x0 : Int32) (x1 : Int32) (x2 : Int32) (x4 : Int32) (s0 : Int32) (M : MM) : Option (Int32 × MM) :=
  f_Measure_countAngles_97 n k_20 x0 x1 x2 x4 s0 1 M
theorem t_Measure_countAngles_92 (n : Nat) {k_20 : Int32 → Int32 → Int32 → Int32 → Int32 → MM → Option (Int32 × MM)} (hk_20 : ∀ (x0 : Int32) (x1 : Int32) (x2 : Int32) (x3 : Int32) (x4 : Int32) (M : MM) (z : Int32 × MM), k_20 x0 x1 x2 x3 x4 M = some z → EV m_Measure_countAngles (rm 2 0 0) (some (.int z.1)) z.2 0 0 20 [some (.int x0), some (.int x1), some (.int x2), some (.int x3), some (.int x4), none, none] [] M) (x0 : Int32) (x1 : Int32) (x2 : Int32) (x4 : Int32) (s0 : Int32) (M : MM) (z : Int32 × MM) (h : f_Measure_countAngles_92 n k_20 x0 x1 x2 x4 s0 M = some z) : EV m_Measure_countAngles (rm 2 0 0) (some (.int z.1)) z.2 0 0 92 [some (.int x0), some (.int x1), some (.int x2), none, some (.int x4), none, none] [.int s0] M := by
  unfold f_Measure_countAngles_92 at h
  refine e_iconst (v := 1) d_Measure_countAngles_92 (by decide) ?_
  refine e_goto 97 d_Measure_countAngles_93 (by decide) ?_
  exact (t_Measure_countAngles_97 n hk_20 x0 x1 x2 x4 s0 1 M z h).less (show LSub _ _ from ⟨rfl, ⟨rfl, ⟨rfl, ⟨rfl, trivial⟩⟩⟩⟩)
def f_Measure_countAngles_41 (n : Nat) (k_20 : Int32 → Int32 → Int32 → Int32 → Int32 → MM → Option (Int32 × MM)) (x0 : Int32) (x1 : Int32) (x2 : Int32) (x3 : Int32) (x4 : Int32) (s0 : Int32) (M : MM) : Option (Int32 × MM) :=
  if ((ushr x0 x4) &&& 1) = 0 then
    f_Measure_countAngles_99 n k_20 x0 x1 x2 x3 x4 M
  else
    if ((ushr x0 s0) &&& 1) = 0 then
      (f_Measure_rowLength n x0 x4 x1 M).bind fun p4 =>
      nm (α := Int32) (2 * p4.1) fun y5 =>
      if x2 = 0 then
        if x1 ≤ y5 then
          f_Measure_countAngles_96 n k_20 x0 x1 x2 x4 x3 p4.2
        else
          f_Measure_countAngles_92 n k_20 x0 x1 x2 x4 x3 p4.2
      else
        if y5 ≤ x1 then
          f_Measure_countAngles_96 n k_20 x0 x1 x2 x4 x3 p4.2
        else
          f_Measure_countAngles_92 n k_20 x0 x1 x2 x4 x3 p4.2
    else
      f_Measure_countAngles_99 n k_20 x0 x1 x2 x3 x4 M
theorem t_Measure_countAngles_41 (n : Nat) {k_20 : Int32 → Int32 → Int32 → Int32 → Int32 → MM → Option (Int32 × MM)} (hk_20 : ∀ (x0 : Int32) (x1 : Int32) (x2 : Int32) (x3 : Int32) (x4 : Int32) (M : MM) (z : Int32 × MM), k_20 x0 x1 x2 x3 x4 M = some z → EV m_Measure_countAngles (rm 2 0 0) (some (.int z.1)) z.2 0 0 20 [some (.int x0), some (.int x1), some (.int x2), some (.int x3), some (.int x4), none, none] [] M) (x0 : Int32) (x1 : Int32) (x2 : Int32) (x3 : Int32) (x4 : Int32) (s0 : Int32) (M : MM) (z : Int32 × MM) (h : f_Measure_countAngles_41 n k_20 x0 x1 x2 x3 x4 s0 M = some z) : EV m_Measure_countAngles (rm 2 0 0) (some (.int z.1)) z.2 0 0 41 [some (.int x0), some (.int x1), some (.int x2), some (.int x3), some (.int x4), none, none] [.int s0] M := by
  unfold f_Measure_countAngles_41 at h
  refine e_istore (l2 := [some (.int x0), some (.int x1), some (.int x2), some (.int x3), some (.int x4), some (.int s0), none]) d_Measure_countAngles_41 rfl (okl rfl) rfl ?_
  refine e_iload_n d_Measure_countAngles_43 rfl ?_
  refine e_iload d_Measure_countAngles_44 rfl ?_
  refine e_iushr d_Measure_countAngles_46 ?_
  refine e_iconst (v := 1) d_Measure_countAngles_47 (by decide) ?_
  refine e_iand d_Measure_countAngles_48 ?_
  refine e_if_eq 99 d_Measure_countAngles_49 (by decide) (fun c2 => ?_) (fun c2 => ?_)
  · replace h := ift c2 h
    exact (t_Measure_countAngles_99 n hk_20 x0 x1 x2 x3 x4 M z h).less (show LSub _ _ from ⟨rfl, ⟨rfl, ⟨rfl, ⟨rfl, ⟨rfl, trivial⟩⟩⟩⟩⟩)
  · replace h := ifn c2 h
    refine e_iload_n d_Measure_countAngles_52 rfl ?_
    refine e_iload d_Measure_countAngles_53 rfl ?_
    refine e_iushr d_Measure_countAngles_55 ?_
    refine e_iconst (v := 1) d_Measure_countAngles_56 (by decide) ?_
    refine e_iand d_Measure_countAngles_57 ?_
    refine e_if_ne 99 d_Measure_countAngles_58 (by decide) (fun c3 => ?_) (fun c3 => ?_)
    · replace h := ifn c3 h
      exact (t_Measure_countAngles_99 n hk_20 x0 x1 x2 x3 x4 M z h).less (show LSub _ _ from ⟨rfl, ⟨rfl, ⟨rfl, ⟨rfl, ⟨rfl, trivial⟩⟩⟩⟩⟩)
    · replace h := ift c3 h
      refine e_iconst (v := 2) d_Measure_countAngles_61 (by decide) ?_
      refine e_iload_n d_Measure_countAngles_62 rfl ?_
      refine e_iload d_Measure_countAngles_63 rfl ?_
      refine e_iload_n d_Measure_countAngles_65 rfl ?_
      obtain ⟨p4, hp4, h⟩ := bnd h
      refine e_cSi (mt1 := m_Measure_rowLength) (As := [.int x0, .int x4, .int x1]) (st := [.int 2]) d_Measure_countAngles_66 ml_Measure_68 ms_Measure_rowLength (t_Measure_rowLength n x0 x4 x1 M p4 hp4) rfl rfl (okp rfl) (okp rfl) (okp rfl) (Nat.le_refl _) (Nat.le_refl _) ?_
      refine e_imul d_Measure_countAngles_69 ?_
      obtain ⟨y5, ey5, h⟩ := nm_s h
      refine e_nameI ey5 ?_
      refine e_istore (l2 := [some (.int x0), some (.int x1), some (.int x2), some (.int x3), some (.int x4), some (.int s0), some (.int y5)]) d_Measure_countAngles_70 rfl (okl rfl) rfl ?_
      refine e_iload_n d_Measure_countAngles_72 rfl ?_
      refine e_iload_n d_Measure_countAngles_73 rfl ?_
      refine e_if_eq 86 d_Measure_countAngles_74 (by decide) (fun c6 => ?_) (fun c6 => ?_)
      · replace h := ift c6 h
        refine e_iload d_Measure_countAngles_86 rfl ?_
        refine e_iload_n d_Measure_countAngles_88 rfl ?_
        refine e_ic_ge 96 d_Measure_countAngles_89 (by decide) (fun c7 => ?_) (fun c7 => ?_)
        · replace h := ift c7 h
          exact (t_Measure_countAngles_96 n hk_20 x0 x1 x2 x4 x3 p4.2 z h).less (show LSub _ _ from ⟨rfl, ⟨rfl, ⟨rfl, ⟨rfl, trivial⟩⟩⟩⟩)
        · replace h := ifn c7 h
          exact (t_Measure_countAngles_92 n hk_20 x0 x1 x2 x4 x3 p4.2 z h).less (show LSub _ _ from ⟨rfl, ⟨rfl, ⟨rfl, ⟨rfl, trivial⟩⟩⟩⟩)
      · replace h := ifn c6 h
        refine e_iload d_Measure_countAngles_77 rfl ?_
        refine e_iload_n d_Measure_countAngles_79 rfl ?_
        refine e_ic_le 96 d_Measure_countAngles_80 (by decide) (fun c8 => ?_) (fun c8 => ?_)
        · replace h := ift c8 h
          exact (t_Measure_countAngles_96 n hk_20 x0 x1 x2 x4 x3 p4.2 z h).less (show LSub _ _ from ⟨rfl, ⟨rfl, ⟨rfl, ⟨rfl, trivial⟩⟩⟩⟩)
        · replace h := ifn c8 h
          refine e_goto 92 d_Measure_countAngles_83 (by decide) ?_
          exact (t_Measure_countAngles_92 n hk_20 x0 x1 x2 x4 x3 p4.2 z h).less (show LSub _ _ from ⟨rfl, ⟨rfl, ⟨rfl, ⟨rfl, trivial⟩⟩⟩⟩)
def f_Measure_countAngles_20 (n : Nat) : Nat → Int32 → Int32 → Int32 → Int32 → Int32 → MM → Option (Int32 × MM)
  | 0, _, _, _, _, _, _ => none
  | m + 1, x0, x1, x2, x3, x4, M =>
    if x1 ≤ x4 then
      some (x3, M)
    else
      if x4 = 0 then
        f_Measure_countAngles_41 n (f_Measure_countAngles_20 n m) x0 x1 x2 x3 x4 (x1 - 1) M
      else
        f_Measure_countAngles_41 n (f_Measure_countAngles_20 n m) x0 x1 x2 x3 x4 (x4 - 1) M
theorem t_Measure_countAngles_20 (n : Nat) : ∀ (m : Nat) (x0 : Int32) (x1 : Int32) (x2 : Int32) (x3 : Int32) (x4 : Int32) (M : MM) (z : Int32 × MM), f_Measure_countAngles_20 n m x0 x1 x2 x3 x4 M = some z → EV m_Measure_countAngles (rm 2 0 0) (some (.int z.1)) z.2 0 0 20 [some (.int x0), some (.int x1), some (.int x2), some (.int x3), some (.int x4), none, none] [] M := by
  intro m
  induction m with
  | zero => intro x0 x1 x2 x3 x4 M z h; cases h
  | succ m ih =>
    intro x0 x1 x2 x3 x4 M z h
    rw [f_Measure_countAngles_20] at h
    refine e_iload d_Measure_countAngles_20 rfl ?_
    refine e_iload_n d_Measure_countAngles_22 rfl ?_
    refine e_ic_ge 105 d_Measure_countAngles_23 (by decide) (fun c9 => ?_) (fun c9 => ?_)
    · replace h := ift c9 h
      refine e_iload_n d_Measure_countAngles_105 rfl ?_
      cases h
      exact e_iret d_Measure_countAngles_106 rfl (Nat.le_refl _) (Nat.le_refl _)
    · replace h := ifn c9 h
      refine e_iload d_Measure_countAngles_26 rfl ?_
      refine e_if_ne 37 d_Measure_countAngles_28 (by decide) (fun c10 => ?_) (fun c10 => ?_)
      · replace h := ifn c10 h
        refine e_iload d_Measure_countAngles_37 rfl ?_
        refine e_iconst (v := 1) d_Measure_countAngles_39 (by decide) ?_
        refine e_isub d_Measure_countAngles_40 ?_
        exact (t_Measure_countAngles_41 n ih x0 x1 x2 x3 x4 (x4 - 1) M z h).less (show LSub _ _ from ⟨rfl, ⟨rfl, ⟨rfl, ⟨rfl, ⟨rfl, trivial⟩⟩⟩⟩⟩)
      · replace h := ift c10 h
        refine e_iload_n d_Measure_countAngles_31 rfl ?_
        refine e_iconst (v := 1) d_Measure_countAngles_32 (by decide) ?_
        refine e_isub d_Measure_countAngles_33 ?_
        refine e_goto 41 d_Measure_countAngles_34 (by decide) ?_
        exact (t_Measure_countAngles_41 n ih x0 x1 x2 x3 x4 (x1 - 1) M z h).less (show LSub _ _ from ⟨rfl, ⟨rfl, ⟨rfl, ⟨rfl, ⟨rfl, trivial⟩⟩⟩⟩⟩)
def f_Measure_countAngles (n : Nat) (x0 : Int32) (x1 : Int32) (x2 : Int32) (M : MM) : Option (Int32 × MM) :=
  if x0 = 0 then
    some (0, M)
  else
    if x0 = ((ishl 1 x1) - 1) then
      some (0, M)
    else
      f_Measure_countAngles_20 n n x0 x1 x2 0 0 M
theorem t_Measure_countAngles (n : Nat) (x0 : Int32) (x1 : Int32) (x2 : Int32) (M : MM) (z : Int32 × MM) (h : f_Measure_countAngles n x0 x1 x2 M = some z) : CT m_Measure_countAngles (rm 2 0 0) [.int x0, .int x1, .int x2] M (some (.int z.1)) z.2 := by
  unfold f_Measure_countAngles at h
  refine CT.of (ls := [some (.int x0), some (.int x1), some (.int x2), none, none, none, none]) rfl (okp rfl) rfl ?_
  refine e_iload_n d_Measure_countAngles_0 rfl ?_
  refine e_if_eq 13 d_Measure_countAngles_1 (by decide) (fun c11 => ?_) (fun c11 => ?_)
  · replace h := ift c11 h
    refine e_iconst (v := 0) d_Measure_countAngles_13 (by decide) ?_
    cases h
    exact e_iret d_Measure_countAngles_14 rfl (Nat.le_refl _) (Nat.le_refl _)
  · replace h := ifn c11 h
    refine e_iload_n d_Measure_countAngles_4 rfl ?_
    refine e_iconst (v := 1) d_Measure_countAngles_5 (by decide) ?_
    refine e_iload_n d_Measure_countAngles_6 rfl ?_
    refine e_ishl d_Measure_countAngles_7 ?_
    refine e_iconst (v := 1) d_Measure_countAngles_8 (by decide) ?_
    refine e_isub d_Measure_countAngles_9 ?_
    refine e_ic_ne 15 d_Measure_countAngles_10 (by decide) (fun c12 => ?_) (fun c12 => ?_)
    · replace h := ifn c12 h
      refine e_iconst (v := 0) d_Measure_countAngles_15 (by decide) ?_
      refine e_istore_n (l2 := [some (.int x0), some (.int x1), some (.int x2), some (.int 0), none, none, none]) d_Measure_countAngles_16 rfl (okl rfl) rfl ?_
      refine e_iconst (v := 0) d_Measure_countAngles_17 (by decide) ?_
      refine e_istore (l2 := [some (.int x0), some (.int x1), some (.int x2), some (.int 0), some (.int 0), none, none]) d_Measure_countAngles_18 rfl (okl rfl) rfl ?_
      exact (t_Measure_countAngles_20 n n x0 x1 x2 0 0 M z h).less (show LSub _ _ from ⟨rfl, ⟨rfl, ⟨rfl, ⟨rfl, ⟨rfl, trivial⟩⟩⟩⟩⟩)
    · replace h := ift c12 h
      refine e_iconst (v := 0) d_Measure_countAngles_13 (by decide) ?_
      cases h
      exact e_iret d_Measure_countAngles_14 rfl (Nat.le_refl _) (Nat.le_refl _)
theorem d_Measure_countCorners_0 : DC m_Measure_countCorners 0 (.iconst 0) 1 1 := ⟨by decide +kernel, rfl⟩
theorem d_Measure_countCorners_1 : DC m_Measure_countCorners 1 (.istore_n 3) 1 2 := ⟨by decide +kernel, rfl⟩
theorem d_Measure_countCorners_2 : DC m_Measure_countCorners 2 (.iconst 0) 1 3 := ⟨by decide +kernel, rfl⟩
theorem d_Measure_countCorners_3 : DC m_Measure_countCorners 3 (.istore 4) 2 5 := ⟨by decide +kernel, rfl⟩
theorem d_Measure_countCorners_5 : DC m_Measure_countCorners 5 (.iload 4) 2 7 := ⟨by decide +kernel, rfl⟩
theorem d_Measure_countCorners_7 : DC m_Measure_countCorners 7 (.bipush 8) 2 9 := ⟨by decide +kernel, rfl⟩
theorem d_Measure_countCorners_9 : DC m_Measure_countCorners 9 (.if_icmp .gt 58) 3 12 := ⟨by decide +kernel, rfl⟩
theorem d_Measure_countCorners_12 : DC m_Measure_countCorners 12 (.iconst 0) 1 13 := ⟨by decide +kernel, rfl⟩
theorem d_Measure_countCorners_13 : DC m_Measure_countCorners 13 (.istore 5) 2 15 := ⟨by decide +kernel, rfl⟩
theorem d_Measure_countCorners_15 : DC m_Measure_countCorners 15 (.iload 5) 2 17 := ⟨by decide +kernel, rfl⟩
theorem d_Measure_countCorners_17 : DC m_Measure_countCorners 17 (.bipush 8) 2 19 := ⟨by decide +kernel, rfl⟩
theorem d_Measure_countCorners_19 : DC m_Measure_countCorners 19 (.if_icmp .gt 42) 3 22 := ⟨by decide +kernel, rfl⟩
theorem d_Measure_countCorners_22 : DC m_Measure_countCorners 22 (.iload_n 3) 1 23 := ⟨by decide +kernel, rfl⟩
theorem d_Measure_countCorners_23 : DC m_Measure_countCorners 23 (.aload_n 1) 1 24 := ⟨by decide +kernel, rfl⟩
theorem d_Measure_countCorners_24 : DC m_Measure_countCorners 24 (.iload 5) 2 26 := ⟨by decide +kernel, rfl⟩
theorem d_Measure_countCorners_26 : DC m_Measure_countCorners 26 (.iload 4) 2 28 := ⟨by decide +kernel, rfl⟩
theorem d_Measure_countCorners_28 : DC m_Measure_countCorners 28 (.invokestatic 56) 3 31 := ⟨by decide +kernel, rfl⟩
theorem d_Measure_countCorners_31 : DC m_Measure_countCorners 31 (.bipush 8) 2 33 := ⟨by decide +kernel, rfl⟩
theorem d_Measure_countCorners_33 : DC m_Measure_countCorners 33 (.iload_n 2) 1 34 := ⟨by decide +kernel, rfl⟩
theorem d_Measure_countCorners_34 : DC m_Measure_countCorners 34 (.invokestatic 60) 3 37 := ⟨by decide +kernel, rfl⟩
theorem d_Measure_countCorners_37 : DC m_Measure_countCorners 37 .iadd 1 38 := ⟨by decide +kernel, rfl⟩
theorem d_Measure_countCorners_38 : DC m_Measure_countCorners 38 (.istore_n 3) 1 39 := ⟨by decide +kernel, rfl⟩
theorem d_Measure_countCorners_39 : DC m_Measure_countCorners 39 (.iload_n 3) 1 40 := ⟨by decide +kernel, rfl⟩
theorem d_Measure_countCorners_40 : DC m_Measure_countCorners 40 (.aload_n 1) 1 41 := ⟨by decide +kernel, rfl⟩
theorem d_Measure_countCorners_41 : DC m_Measure_countCorners 41 (.iload 5) 2 43 := ⟨by decide +kernel, rfl⟩
theorem d_Measure_countCorners_43 : DC m_Measure_countCorners 43 (.iload 4) 2 45 := ⟨by decide +kernel, rfl⟩
theorem d_Measure_countCorners_45 : DC m_Measure_countCorners 45 (.invokevirtual 64) 3 48 := ⟨by decide +kernel, rfl⟩
theorem d_Measure_countCorners_48 : DC m_Measure_countCorners 48 (.iconst 4) 1 49 := ⟨by decide +kernel, rfl⟩
theorem d_Measure_countCorners_49 : DC m_Measure_countCorners 49 (.iload_n 2) 1 50 := ⟨by decide +kernel, rfl⟩
theorem d_Measure_countCorners_50 : DC m_Measure_countCorners 50 (.invokestatic 60) 3 53 := ⟨by decide +kernel, rfl⟩
theorem d_Measure_countCorners_53 : DC m_Measure_countCorners 53 .iadd 1 54 := ⟨by decide +kernel, rfl⟩
theorem d_Measure_countCorners_54 : DC m_Measure_countCorners 54 (.istore_n 3) 1 55 := ⟨by decide +kernel, rfl⟩
theorem d_Measure_countCorners_55 : DC m_Measure_countCorners 55 (.iinc 5 1) 3 58 := ⟨by decide +kernel, rfl⟩
theorem d_Measure_countCorners_58 : DC m_Measure_countCorners 58 (.goto (-43)) 3 61 := ⟨by decide +kernel, rfl⟩
theorem d_Measure_countCorners_61 : DC m_Measure_countCorners 61 (.iinc 4 1) 3 64 := ⟨by decide +kernel, rfl⟩
theorem d_Measure_countCorners_64 : DC m_Measure_countCorners 64 (.goto (-59)) 3 67 := ⟨by decide +kernel, rfl⟩
theorem d_Measure_countCorners_67 : DC m_Measure_countCorners 67 (.iload_n 3) 1 68 := ⟨by decide +kernel, rfl⟩
theorem d_Measure_countCorners_68 : DC m_Measure_countCorners 68 .ireturn 1 69 := ⟨by decide +kernel, rfl⟩
def f_Measure_countCorners_61 (n : Nat) (k_5 : Nat → Int32 → Int32 → Int32 → MM → Option (Int32 × MM)) (x1 : Nat) (x2 : Int32) (x3 : Int32) (x4 : Int32) (M : MM) : Option (Int32 × MM) :=
  k_5 x1 x2 x3 (x4 + 1) M
theorem t_Measure_countCorners_61 (n : Nat) {k_5 : Nat → Int32 → Int32 → Int32 → MM → Option (Int32 × MM)} (hk_5 : ∀ (x1 : Nat) (x2 : Int32) (x3 : Int32) (x4 : Int32) (M : MM) (z : Int32 × MM), k_5 x1 x2 x3 x4 M = some z → EV m_Measure_countCorners (rm 3 0 0) (some (.int z.1)) z.2 0 0 5 [none, some (.ref x1), some (.int x2), some (.int x3), some (.int x4), none] [] M) (x1 : Nat) (x2 : Int32) (x3 : Int32) (x4 : Int32) (M : MM) (z : Int32 × MM) (h : f_Measure_countCorners_61 n k_5 x1 x2 x3 x4 M = some z) : EV m_Measure_countCorners (rm 3 0 0) (some (.int z.1)) z.2 0 0 61 [none, some (.ref x1), some (.int x2), some (.int x3), some (.int x4), none] [] M := by
  unfold f_Measure_countCorners_61 at h
  refine e_iinc (v := x4 + 1) (l2 := [none, some (.ref x1), some (.int x2), some (.int x3), some (.int (x4 + 1)), none]) d_Measure_countCorners_61 rfl rfl rfl (okl rfl) rfl ?_
  refine e_goto 5 d_Measure_countCorners_64 (by decide) ?_
  exact (hk_5 x1 x2 x3 (x4 + 1) M z h).less (show LSub _ _ from ⟨rfl, ⟨rfl, ⟨rfl, ⟨rfl, trivial⟩⟩⟩⟩)
def f_Measure_countCorners_15 (n : Nat) (k_61 : Nat → Int32 → Int32 → Int32 → MM → Option (Int32 × MM)) : Nat → Nat → Int32 → Int32 → Int32 → Int32 → MM → Option (Int32 × MM)
  | 0, _, _, _, _, _, _ => none
  | m + 1, x1, x2, x3, x4, x5, M =>
    if 8 < x5 then
      k_61 x1 x2 x3 x4 M
    else
      (f_Measure_ringAt n x1 x5 x4 M).bind fun p2 =>
      (f_Measure_countAngles n p2.1 8 x2 p2.2).bind fun p3 =>
      nm (α := Int32) (x3 + p3.1) fun y4 =>
      (f_Shape_cell n x1 x5 x4 p3.2).bind fun p5 =>
      (f_Measure_countAngles n p5.1 4 x2 p5.2).bind fun p6 =>
      nm (α := Int32) (y4 + p6.1) fun y7 =>
      f_Measure_countCorners_15 n k_61 m x1 x2 y7 x4 (x5 + 1) p6.2
theorem t_Measure_countCorners_15 (n : Nat) {k_61 : Nat → Int32 → Int32 → Int32 → MM → Option (Int32 × MM)} (hk_61 : ∀ (x1 : Nat) (x2 : Int32) (x3 : Int32) (x4 : Int32) (M : MM) (z : Int32 × MM), k_61 x1 x2 x3 x4 M = some z → EV m_Measure_countCorners (rm 3 0 0) (some (.int z.1)) z.2 0 0 61 [none, some (.ref x1), some (.int x2), some (.int x3), some (.int x4), none] [] M) : ∀ (m : Nat) (x1 : Nat) (x2 : Int32) (x3 : Int32) (x4 : Int32) (x5 : Int32) (M : MM) (z : Int32 × MM), f_Measure_countCorners_15 n k_61 m x1 x2 x3 x4 x5 M = some z → EV m_Measure_countCorners (rm 3 0 0) (some (.int z.1)) z.2 0 0 15 [none, some (.ref x1), some (.int x2), some (.int x3), some (.int x4), some (.int x5)] [] M := by
  intro m
  induction m with
  | zero => intro x1 x2 x3 x4 x5 M z h; cases h
  | succ m ih =>
    intro x1 x2 x3 x4 x5 M z h
    rw [f_Measure_countCorners_15] at h
    refine e_iload d_Measure_countCorners_15 rfl ?_
    refine e_bipush (v := 8) d_Measure_countCorners_17 (by decide) ?_
    refine e_ic_gt 61 d_Measure_countCorners_19 (by decide) (fun c1 => ?_) (fun c1 => ?_)
    · replace h := ift c1 h
      exact (hk_61 x1 x2 x3 x4 M z h).less (show LSub _ _ from ⟨rfl, ⟨rfl, ⟨rfl, ⟨rfl, trivial⟩⟩⟩⟩)
    · replace h := ifn c1 h
      refine e_iload_n d_Measure_countCorners_22 rfl ?_
      refine e_aload_n d_Measure_countCorners_23 rfl ?_
      refine e_iload d_Measure_countCorners_24 rfl ?_
      refine e_iload d_Measure_countCorners_26 rfl ?_
      obtain ⟨p2, hp2, h⟩ := bnd h
      refine e_cSi (mt1 := m_Measure_ringAt) (As := [.ref x1, .int x5, .int x4]) (st := [.int x3]) d_Measure_countCorners_28 ml_Measure_56 ms_Measure_ringAt (t_Measure_ringAt n x1 x5 x4 M p2 hp2) rfl rfl (okp rfl) (okp rfl) (okp rfl) (Nat.le_refl _) (Nat.le_refl _) ?_
      refine e_bipush (v := 8) d_Measure_countCorners_31 (by decide) ?_
      refine e_iload_n d_Measure_countCorners_33 rfl ?_
      obtain ⟨p3, hp3, h⟩ := bnd h
      refine e_cSi (mt1 := m_Measure_countAngles) (As := [.int p2.1, .int 8, .int x2]) (st := [.int x3]) d_Measure_countCorners_34 ml_Measure_60 ms_Measure_countAngles (t_Measure_countAngles n p2.1 8 x2 p2.2 p3 hp3) rfl rfl (okp rfl) (okp rfl) (okp rfl) (Nat.le_refl _) (Nat.le_refl _) ?_
      refine e_iadd d_Measure_countCorners_37 ?_
      obtain ⟨y4, ey4, h⟩ := nm_s h
      refine e_nameI ey4 ?_
      refine e_istore_n (l2 := [none, some (.ref x1), some (.int x2), some (.int y4), some (.int x4), some (.int x5)]) d_Measure_countCorners_38 rfl (okl rfl) rfl ?_
      refine e_iload_n d_Measure_countCorners_39 rfl ?_
      refine e_aload_n d_Measure_countCorners_40 rfl ?_
      refine e_iload d_Measure_countCorners_41 rfl ?_
      refine e_iload d_Measure_countCorners_43 rfl ?_
      obtain ⟨p5, hp5, h⟩ := bnd h
      refine e_cVi (mt1 := m_Shape_cell) (As := [.int x5, .int x4]) (st := [.int y4]) d_Measure_countCorners_45 ml_Measure_64 mv_Shape_cell (t_Shape_cell n x1 x5 x4 p3.2 p5 hp5) (fc_Shape_cell hp5) rfl rfl rfl (okp rfl) (okp rfl) (okp rfl) (Nat.le_refl _) (Nat.le_refl _) ?_
      refine e_iconst (v := 4) d_Measure_countCorners_48 (by decide) ?_
      refine e_iload_n d_Measure_countCorners_49 rfl ?_
      obtain ⟨p6, hp6, h⟩ := bnd h
      refine e_cSi (mt1 := m_Measure_countAngles) (As := [.int p5.1, .int 4, .int x2]) (st := [.int y4]) d_Measure_countCorners_50 ml_Measure_60 ms_Measure_countAngles (t_Measure_countAngles n p5.1 4 x2 p5.2 p6 hp6) rfl rfl (okp rfl) (okp rfl) (okp rfl) (Nat.le_refl _) (Nat.le_refl _) ?_
      refine e_iadd d_Measure_countCorners_53 ?_
      obtain ⟨y7, ey7, h⟩ := nm_s h
      refine e_nameI ey7 ?_
      refine e_istore_n (l2 := [none, some (.ref x1), some (.int x2), some (.int y7), some (.int x4), some (.int x5)]) d_Measure_countCorners_54 rfl (okl rfl) rfl ?_
      refine e_iinc (v := x5 + 1) (l2 := [none, some (.ref x1), some (.int x2), some (.int y7), some (.int x4), some (.int (x5 + 1))]) d_Measure_countCorners_55 rfl rfl rfl (okl rfl) rfl ?_
      refine e_goto 15 d_Measure_countCorners_58 (by decide) ?_
      exact (ih x1 x2 y7 x4 (x5 + 1) p6.2 z h).less (show LSub _ _ from ⟨rfl, ⟨rfl, ⟨rfl, ⟨rfl, ⟨rfl, trivial⟩⟩⟩⟩⟩)
def f_Measure_countCorners_5 (n : Nat) : Nat → Nat → Int32 → Int32 → Int32 → MM → Option (Int32 × MM)
  | 0, _, _, _, _, _ => none
  | m + 1, x1, x2, x3, x4, M =>
    if 8 < x4 then
      some (x3, M)
    else
      f_Measure_countCorners_15 n (f_Measure_countCorners_61 n (f_Measure_countCorners_5 n m)) n x1 x2 x3 x4 0 M
theorem t_Measure_countCorners_5 (n : Nat) : ∀ (m : Nat) (x1 : Nat) (x2 : Int32) (x3 : Int32) (x4 : Int32) (M : MM) (z : Int32 × MM), f_Measure_countCorners_5 n m x1 x2 x3 x4 M = some z → EV m_Measure_countCorners (rm 3 0 0) (some (.int z.1)) z.2 0 0 5 [none, some (.ref x1), some (.int x2), some (.int x3), some (.int x4), none] [] M := by
  intro m
  induction m with
  | zero => intro x1 x2 x3 x4 M z h; cases h
  | succ m ih =>
    intro x1 x2 x3 x4 M z h
    rw [f_Measure_countCorners_5] at h
    refine e_iload d_Measure_countCorners_5 rfl ?_
    refine e_bipush (v := 8) d_Measure_countCorners_7 (by decide) ?_
    refine e_ic_gt 67 d_Measure_countCorners_9 (by decide) (fun c8 => ?_) (fun c8 => ?_)
    · replace h := ift c8 h
      refine e_iload_n d_Measure_countCorners_67 rfl ?_
      cases h
      exact e_iret d_Measure_countCorners_68 rfl (Nat.le_refl _) (Nat.le_refl _)
    · replace h := ifn c8 h
      refine e_iconst (v := 0) d_Measure_countCorners_12 (by decide) ?_
      refine e_istore (l2 := [none, some (.ref x1), some (.int x2), some (.int x3), some (.int x4), some (.int 0)]) d_Measure_countCorners_13 rfl (okl rfl) rfl ?_
      exact (t_Measure_countCorners_15 n (t_Measure_countCorners_61 n ih) n x1 x2 x3 x4 0 M z h).less (show LSub _ _ from ⟨rfl, ⟨rfl, ⟨rfl, ⟨rfl, ⟨rfl, trivial⟩⟩⟩⟩⟩)
def f_Measure_countCorners (n : Nat) (x0 : Nat) (x1 : Nat) (x2 : Int32) (M : MM) : Option (Int32 × MM) :=
  og 6 x0 M <|
  f_Measure_countCorners_5 n n x1 x2 0 0 M
theorem fc_Measure_countCorners {n : Nat} {x0 : Nat} {x1 : Nat} {x2 : Int32} {M : MM} {z : Int32 × MM} (h : f_Measure_countCorners n x0 x1 x2 M = some z) : (M.1.2.1 x0).1 = 6 := by
  unfold f_Measure_countCorners at h
  exact (og_s h).1
theorem t_Measure_countCorners (n : Nat) (x0 : Nat) (x1 : Nat) (x2 : Int32) (M : MM) (z : Int32 × MM) (h : f_Measure_countCorners n x0 x1 x2 M = some z) : CT m_Measure_countCorners (rm 3 0 0) [.ref x0, .ref x1, .int x2] M (some (.int z.1)) z.2 := by
  unfold f_Measure_countCorners at h
  obtain ⟨hthis, h⟩ := og_s h
  refine CT.of (ls := [some (.ref x0), some (.ref x1), some (.int x2), none, none, none]) rfl (okp rfl) rfl ?_
  refine e_iconst (v := 0) d_Measure_countCorners_0 (by decide) ?_
  refine e_istore_n (l2 := [some (.ref x0), some (.ref x1), some (.int x2), some (.int 0), none, none]) d_Measure_countCorners_1 rfl (okl rfl) rfl ?_
  refine e_iconst (v := 0) d_Measure_countCorners_2 (by decide) ?_
  refine e_istore (l2 := [some (.ref x0), some (.ref x1), some (.int x2), some (.int 0), some (.int 0), none]) d_Measure_countCorners_3 rfl (okl rfl) rfl ?_
  exact (t_Measure_countCorners_5 n n x1 x2 0 0 M z h).less (show LSub _ _ from ⟨rfl, ⟨rfl, ⟨rfl, ⟨rfl, trivial⟩⟩⟩⟩)
theorem d_Measure_isOnePiece_0 : DC m_Measure_isOnePiece 0 (.aload_n 0) 1 1 := ⟨by decide +kernel, rfl⟩
theorem d_Measure_isOnePiece_1 : DC m_Measure_isOnePiece 1 (.getfield 12) 3 4 := ⟨by decide +kernel, rfl⟩
theorem d_Measure_isOnePiece_4 : DC m_Measure_isOnePiece 4 (.aload_n 1) 1 5 := ⟨by decide +kernel, rfl⟩
theorem d_Measure_isOnePiece_5 : DC m_Measure_isOnePiece 5 (.invokevirtual 26) 3 8 := ⟨by decide +kernel, rfl⟩
theorem d_Measure_isOnePiece_8 : DC m_Measure_isOnePiece 8 (.aload_n 0) 1 9 := ⟨by decide +kernel, rfl⟩
theorem d_Measure_isOnePiece_9 : DC m_Measure_isOnePiece 9 (.getfield 12) 3 12 := ⟨by decide +kernel, rfl⟩
theorem d_Measure_isOnePiece_12 : DC m_Measure_isOnePiece 12 (.invokevirtual 38) 3 15 := ⟨by decide +kernel, rfl⟩
theorem d_Measure_isOnePiece_15 : DC m_Measure_isOnePiece 15 (.istore_n 2) 1 16 := ⟨by decide +kernel, rfl⟩
theorem d_Measure_isOnePiece_16 : DC m_Measure_isOnePiece 16 (.iload_n 2) 1 17 := ⟨by decide +kernel, rfl⟩
theorem d_Measure_isOnePiece_17 : DC m_Measure_isOnePiece 17 (.ifCond .ge 5) 3 20 := ⟨by decide +kernel, rfl⟩
theorem d_Measure_isOnePiece_20 : DC m_Measure_isOnePiece 20 (.iconst 0) 1 21 := ⟨by decide +kernel, rfl⟩
theorem d_Measure_isOnePiece_21 : DC m_Measure_isOnePiece 21 .ireturn 1 22 := ⟨by decide +kernel, rfl⟩
theorem d_Measure_isOnePiece_22 : DC m_Measure_isOnePiece 22 (.aload_n 0) 1 23 := ⟨by decide +kernel, rfl⟩
theorem d_Measure_isOnePiece_23 : DC m_Measure_isOnePiece 23 (.iload_n 2) 1 24 := ⟨by decide +kernel, rfl⟩
theorem d_Measure_isOnePiece_24 : DC m_Measure_isOnePiece 24 (.invokevirtual 34) 3 27 := ⟨by decide +kernel, rfl⟩
theorem d_Measure_isOnePiece_27 : DC m_Measure_isOnePiece 27 (.aload_n 0) 1 28 := ⟨by decide +kernel, rfl⟩
theorem d_Measure_isOnePiece_28 : DC m_Measure_isOnePiece 28 (.getfield 12) 3 31 := ⟨by decide +kernel, rfl⟩
theorem d_Measure_isOnePiece_31 : DC m_Measure_isOnePiece 31 (.invokevirtual 42) 3 34 := ⟨by decide +kernel, rfl⟩
theorem d_Measure_isOnePiece_34 : DC m_Measure_isOnePiece 34 .ireturn 1 35 := ⟨by decide +kernel, rfl⟩
def f_Measure_isOnePiece (n : Nat) (x0 : Nat) (x1 : Nat) (M : MM) : Option (Int32 × MM) :=
  og 6 x0 M <|
  (gR 6 0 x0 M).bind fun v1 =>
  (f_Shape_copy n v1 x1 M).bind fun M2 =>
  (gR 6 0 x0 M2).bind fun v3 =>
  (f_Shape_lowestQuarter n v3 M2).bind fun p4 =>
  if 0 ≤ p4.1 then
    (f_Measure_takePiece n x0 p4.1 p4.2).bind fun M6 =>
    (gR 6 0 x0 M6).bind fun v7 =>
    (f_Shape_isNothing n v7 M6).bind fun p8 =>
    zg p8.1 (some (p8.1, p8.2))
  else
    some (0, p4.2)
theorem fc_Measure_isOnePiece {n : Nat} {x0 : Nat} {x1 : Nat} {M : MM} {z : Int32 × MM} (h : f_Measure_isOnePiece n x0 x1 M = some z) : (M.1.2.1 x0).1 = 6 := by
  unfold f_Measure_isOnePiece at h
  exact (og_s h).1
theorem t_Measure_isOnePiece (n : Nat) (x0 : Nat) (x1 : Nat) (M : MM) (z : Int32 × MM) (h : f_Measure_isOnePiece n x0 x1 M = some z) : CT m_Measure_isOnePiece (rm 4 0 0) [.ref x0, .ref x1] M (some (.int z.1)) z.2 := by
  unfold f_Measure_isOnePiece at h
  obtain ⟨hthis, h⟩ := og_s h
  refine CT.of (ls := [some (.ref x0), some (.ref x1), none]) rfl (okp rfl) rfl ?_
  refine e_aload_n d_Measure_isOnePiece_0 rfl ?_
  obtain ⟨v1, hv1, h⟩ := bnd h
  refine e_getR d_Measure_isOnePiece_1 fl_Measure_12 (fun _ _ _ => rfl) hv1 ?_
  refine e_aload_n d_Measure_isOnePiece_4 rfl ?_
  obtain ⟨M2, hM2, h⟩ := bnd h
  refine e_cVv (mt1 := m_Shape_copy) (As := [.ref x1]) (st := []) d_Measure_isOnePiece_5 ml_Measure_26 mv_Shape_copy (t_Shape_copy n v1 x1 M M2 hM2) (fc_Shape_copy hM2) rfl rfl rfl (okp rfl) (okp rfl) (okp rfl) (Nat.le_refl _) (Nat.le_refl _) ?_
  refine e_aload_n d_Measure_isOnePiece_8 rfl ?_
  obtain ⟨v3, hv3, h⟩ := bnd h
  refine e_getR d_Measure_isOnePiece_9 fl_Measure_12 (fun _ _ _ => rfl) hv3 ?_
  obtain ⟨p4, hp4, h⟩ := bnd h
  refine e_cVi (mt1 := m_Shape_lowestQuarter) (As := []) (st := []) d_Measure_isOnePiece_12 ml_Measure_38 mv_Shape_lowestQuarter (t_Shape_lowestQuarter n v3 M2 p4 hp4) (fc_Shape_lowestQuarter hp4) rfl rfl rfl (okp rfl) (okp rfl) (okp rfl) (Nat.le_refl _) (Nat.le_refl _) ?_
  refine e_istore_n (l2 := [some (.ref x0), some (.ref x1), some (.int p4.1)]) d_Measure_isOnePiece_15 rfl (okl rfl) rfl ?_
  refine e_iload_n d_Measure_isOnePiece_16 rfl ?_
  refine e_if_ge 22 d_Measure_isOnePiece_17 (by decide) (fun c5 => ?_) (fun c5 => ?_)
  · replace h := ift c5 h
    refine e_aload_n d_Measure_isOnePiece_22 rfl ?_
    refine e_iload_n d_Measure_isOnePiece_23 rfl ?_
    obtain ⟨M6, hM6, h⟩ := bnd h
    refine e_cVv (mt1 := m_Measure_takePiece) (As := [.int p4.1]) (st := []) d_Measure_isOnePiece_24 ml_Measure_34 mv_Measure_takePiece (t_Measure_takePiece n x0 p4.1 p4.2 M6 hM6) (fc_Measure_takePiece hM6) rfl rfl rfl (okp rfl) (okp rfl) (okp rfl) (Nat.le_refl _) (Nat.le_refl _) ?_
    refine e_aload_n d_Measure_isOnePiece_27 rfl ?_
    obtain ⟨v7, hv7, h⟩ := bnd h
    refine e_getR d_Measure_isOnePiece_28 fl_Measure_12 (fun _ _ _ => rfl) hv7 ?_
    obtain ⟨p8, hp8, h⟩ := bnd h
    refine e_cVi (mt1 := m_Shape_isNothing) (As := []) (st := []) d_Measure_isOnePiece_31 ml_Measure_42 mv_Shape_isNothing (t_Shape_isNothing n v7 M6 p8 hp8) (fc_Shape_isNothing hp8) rfl rfl rfl (okp rfl) (okp rfl) (okp rfl) (Nat.le_refl _) (Nat.le_refl _) ?_
    obtain ⟨hz, h⟩ := zg_s h
    cases h
    exact e_zret (ty := .boolean) d_Measure_isOnePiece_34 rfl (by show Value.int _ = Value.int _; rw [hz]) (Nat.le_refl _) (Nat.le_refl _)
  · replace h := ifn c5 h
    refine e_iconst (v := 0) d_Measure_isOnePiece_20 (by decide) ?_
    cases h
    exact e_zret (ty := .boolean) d_Measure_isOnePiece_21 rfl narZ0 (Nat.le_refl _) (Nat.le_refl _)
