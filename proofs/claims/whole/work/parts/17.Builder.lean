theorem d_Builder_isWord_0 : DC m_Builder_isWord 0 (.iload_n 0) 1 1 := ⟨by decide +kernel, rfl⟩
theorem d_Builder_isWord_1 : DC m_Builder_isWord 1 (.bipush 12) 2 3 := ⟨by decide +kernel, rfl⟩
theorem d_Builder_isWord_3 : DC m_Builder_isWord 3 (.if_icmp .lt 13) 3 6 := ⟨by decide +kernel, rfl⟩
theorem d_Builder_isWord_6 : DC m_Builder_isWord 6 (.iload_n 0) 1 7 := ⟨by decide +kernel, rfl⟩
theorem d_Builder_isWord_7 : DC m_Builder_isWord 7 (.bipush 15) 2 9 := ⟨by decide +kernel, rfl⟩
theorem d_Builder_isWord_9 : DC m_Builder_isWord 9 (.if_icmp .gt 7) 3 12 := ⟨by decide +kernel, rfl⟩
theorem d_Builder_isWord_12 : DC m_Builder_isWord 12 (.iconst 1) 1 13 := ⟨by decide +kernel, rfl⟩
theorem d_Builder_isWord_13 : DC m_Builder_isWord 13 (.goto 4) 3 16 := ⟨by decide +kernel, rfl⟩
theorem d_Builder_isWord_16 : DC m_Builder_isWord 16 (.iconst 0) 1 17 := ⟨by decide +kernel, rfl⟩
theorem d_Builder_isWord_17 : DC m_Builder_isWord 17 .ireturn 1 18 := ⟨by decide +kernel, rfl⟩
def f_Builder_isWord (n : Nat) (x0 : Int32) (M : MM) : Option (Int32 × MM) :=
  if x0 < 12 then
    some (0, M)
  else
    if 15 < x0 then
      some (0, M)
    else
      some (1, M)
theorem t_Builder_isWord (n : Nat) (x0 : Int32) (M : MM) (z : Int32 × MM) (h : f_Builder_isWord n x0 M = some z) : CT m_Builder_isWord (rm 1 0 0) [.int x0] M (some (.int z.1)) z.2 := by
  unfold f_Builder_isWord at h
  refine CT.of (ls := [some (.int x0)]) rfl (okp rfl) rfl ?_
  refine e_iload_n d_Builder_isWord_0 rfl ?_
  refine e_bipush (v := 12) d_Builder_isWord_1 (by decide) ?_
  refine e_ic_lt 16 d_Builder_isWord_3 (by decide) (fun c1 => ?_) (fun c1 => ?_)
  · replace h := ift c1 h
    refine e_iconst (v := 0) d_Builder_isWord_16 (by decide) ?_
    cases h
    exact e_zret (ty := .boolean) d_Builder_isWord_17 rfl narZ0 (Nat.le_refl _) (Nat.le_refl _)
  · replace h := ifn c1 h
    refine e_iload_n d_Builder_isWord_6 rfl ?_
    refine e_bipush (v := 15) d_Builder_isWord_7 (by decide) ?_
    refine e_ic_gt 16 d_Builder_isWord_9 (by decide) (fun c2 => ?_) (fun c2 => ?_)
    · replace h := ift c2 h
      refine e_iconst (v := 0) d_Builder_isWord_16 (by decide) ?_
      cases h
      exact e_zret (ty := .boolean) d_Builder_isWord_17 rfl narZ0 (Nat.le_refl _) (Nat.le_refl _)
    · replace h := ifn c2 h
      refine e_iconst (v := 1) d_Builder_isWord_12 (by decide) ?_
      refine e_goto 17 d_Builder_isWord_13 (by decide) ?_
      cases h
      exact e_zret (ty := .boolean) d_Builder_isWord_17 rfl narZ1 (Nat.le_refl _) (Nat.le_refl _)
theorem d_Builder_behindNumber_0 : DC m_Builder_behindNumber 0 (.aload_n 0) 1 1 := ⟨by decide +kernel, rfl⟩
theorem d_Builder_behindNumber_1 : DC m_Builder_behindNumber 1 (.getfield 12) 3 4 := ⟨by decide +kernel, rfl⟩
theorem d_Builder_behindNumber_4 : DC m_Builder_behindNumber 4 (.iload_n 1) 1 5 := ⟨by decide +kernel, rfl⟩
theorem d_Builder_behindNumber_5 : DC m_Builder_behindNumber 5 (.invokevirtual 58) 3 8 := ⟨by decide +kernel, rfl⟩
theorem d_Builder_behindNumber_8 : DC m_Builder_behindNumber 8 (.bipush 45) 2 10 := ⟨by decide +kernel, rfl⟩
theorem d_Builder_behindNumber_10 : DC m_Builder_behindNumber 10 (.if_icmp .ne 9) 3 13 := ⟨by decide +kernel, rfl⟩
theorem d_Builder_behindNumber_13 : DC m_Builder_behindNumber 13 (.iload_n 1) 1 14 := ⟨by decide +kernel, rfl⟩
theorem d_Builder_behindNumber_14 : DC m_Builder_behindNumber 14 (.iconst 2) 1 15 := ⟨by decide +kernel, rfl⟩
theorem d_Builder_behindNumber_15 : DC m_Builder_behindNumber 15 .iadd 1 16 := ⟨by decide +kernel, rfl⟩
theorem d_Builder_behindNumber_16 : DC m_Builder_behindNumber 16 (.goto 6) 3 19 := ⟨by decide +kernel, rfl⟩
theorem d_Builder_behindNumber_19 : DC m_Builder_behindNumber 19 (.iload_n 1) 1 20 := ⟨by decide +kernel, rfl⟩
theorem d_Builder_behindNumber_20 : DC m_Builder_behindNumber 20 (.iconst 1) 1 21 := ⟨by decide +kernel, rfl⟩
theorem d_Builder_behindNumber_21 : DC m_Builder_behindNumber 21 .iadd 1 22 := ⟨by decide +kernel, rfl⟩
theorem d_Builder_behindNumber_22 : DC m_Builder_behindNumber 22 .ireturn 1 23 := ⟨by decide +kernel, rfl⟩
def f_Builder_behindNumber (n : Nat) (x0 : Nat) (x1 : Int32) (M : MM) : Option (Int32 × MM) :=
  og 1 x0 M <|
  (gR 1 9 x0 M).bind fun v1 =>
  (f_Tokens_kindAt n v1 x1 M).bind fun p2 =>
  if p2.1 = 45 then
    some ((x1 + 2), p2.2)
  else
    some ((x1 + 1), p2.2)
theorem fc_Builder_behindNumber {n : Nat} {x0 : Nat} {x1 : Int32} {M : MM} {z : Int32 × MM} (h : f_Builder_behindNumber n x0 x1 M = some z) : (M.1.2.1 x0).1 = 1 := by
  unfold f_Builder_behindNumber at h
  exact (og_s h).1
theorem t_Builder_behindNumber (n : Nat) (x0 : Nat) (x1 : Int32) (M : MM) (z : Int32 × MM) (h : f_Builder_behindNumber n x0 x1 M = some z) : CT m_Builder_behindNumber (rm 2 0 0) [.ref x0, .int x1] M (some (.int z.1)) z.2 := by
  unfold f_Builder_behindNumber at h
  obtain ⟨hthis, h⟩ := og_s h
  refine CT.of (ls := [some (.ref x0), some (.int x1)]) rfl (okp rfl) rfl ?_
  refine e_aload_n d_Builder_behindNumber_0 rfl ?_
  obtain ⟨v1, hv1, h⟩ := bnd h
  refine e_getR d_Builder_behindNumber_1 fl_Builder_12 (fun _ _ _ => rfl) hv1 ?_
  refine e_iload_n d_Builder_behindNumber_4 rfl ?_
  obtain ⟨p2, hp2, h⟩ := bnd h
  refine e_cVi (mt1 := m_Tokens_kindAt) (As := [.int x1]) (st := []) d_Builder_behindNumber_5 ml_Builder_58 mv_Tokens_kindAt (t_Tokens_kindAt n v1 x1 M p2 hp2) (fc_Tokens_kindAt hp2) rfl rfl rfl (okp rfl) (okp rfl) (okp rfl) (Nat.le_refl _) (Nat.le_refl _) ?_
  refine e_bipush (v := 45) d_Builder_behindNumber_8 (by decide) ?_
  refine e_ic_ne 19 d_Builder_behindNumber_10 (by decide) (fun c3 => ?_) (fun c3 => ?_)
  · replace h := ifn c3 h
    refine e_iload_n d_Builder_behindNumber_19 rfl ?_
    refine e_iconst (v := 1) d_Builder_behindNumber_20 (by decide) ?_
    refine e_iadd d_Builder_behindNumber_21 ?_
    cases h
    exact e_iret d_Builder_behindNumber_22 rfl (Nat.le_refl _) (Nat.le_refl _)
  · replace h := ift c3 h
    refine e_iload_n d_Builder_behindNumber_13 rfl ?_
    refine e_iconst (v := 2) d_Builder_behindNumber_14 (by decide) ?_
    refine e_iadd d_Builder_behindNumber_15 ?_
    refine e_goto 22 d_Builder_behindNumber_16 (by decide) ?_
    cases h
    exact e_iret d_Builder_behindNumber_22 rfl (Nat.le_refl _) (Nat.le_refl _)
theorem d_Builder_openWord_0 : DC m_Builder_openWord 0 (.aload_n 0) 1 1 := ⟨by decide +kernel, rfl⟩
theorem d_Builder_openWord_1 : DC m_Builder_openWord 1 (.getfield 51) 3 4 := ⟨by decide +kernel, rfl⟩
theorem d_Builder_openWord_4 : DC m_Builder_openWord 4 (.aload_n 0) 1 5 := ⟨by decide +kernel, rfl⟩
theorem d_Builder_openWord_5 : DC m_Builder_openWord 5 (.getfield 47) 3 8 := ⟨by decide +kernel, rfl⟩
theorem d_Builder_openWord_8 : DC m_Builder_openWord 8 .arraylength 1 9 := ⟨by decide +kernel, rfl⟩
theorem d_Builder_openWord_9 : DC m_Builder_openWord 9 (.if_icmp .ge 26) 3 12 := ⟨by decide +kernel, rfl⟩
theorem d_Builder_openWord_12 : DC m_Builder_openWord 12 (.aload_n 0) 1 13 := ⟨by decide +kernel, rfl⟩
theorem d_Builder_openWord_13 : DC m_Builder_openWord 13 (.getfield 47) 3 16 := ⟨by decide +kernel, rfl⟩
theorem d_Builder_openWord_16 : DC m_Builder_openWord 16 (.aload_n 0) 1 17 := ⟨by decide +kernel, rfl⟩
theorem d_Builder_openWord_17 : DC m_Builder_openWord 17 (.getfield 51) 3 20 := ⟨by decide +kernel, rfl⟩
theorem d_Builder_openWord_20 : DC m_Builder_openWord 20 (.aload_n 0) 1 21 := ⟨by decide +kernel, rfl⟩
theorem d_Builder_openWord_21 : DC m_Builder_openWord 21 (.getfield 54) 3 24 := ⟨by decide +kernel, rfl⟩
theorem d_Builder_openWord_24 : DC m_Builder_openWord 24 .iastore 1 25 := ⟨by decide +kernel, rfl⟩
theorem d_Builder_openWord_25 : DC m_Builder_openWord 25 (.aload_n 0) 1 26 := ⟨by decide +kernel, rfl⟩
theorem d_Builder_openWord_26 : DC m_Builder_openWord 26 .dup 1 27 := ⟨by decide +kernel, rfl⟩
theorem d_Builder_openWord_27 : DC m_Builder_openWord 27 (.getfield 51) 3 30 := ⟨by decide +kernel, rfl⟩
theorem d_Builder_openWord_30 : DC m_Builder_openWord 30 (.iconst 1) 1 31 := ⟨by decide +kernel, rfl⟩
theorem d_Builder_openWord_31 : DC m_Builder_openWord 31 .iadd 1 32 := ⟨by decide +kernel, rfl⟩
theorem d_Builder_openWord_32 : DC m_Builder_openWord 32 (.putfield 51) 3 35 := ⟨by decide +kernel, rfl⟩
theorem d_Builder_openWord_35 : DC m_Builder_openWord 35 (.aload_n 0) 1 36 := ⟨by decide +kernel, rfl⟩
theorem d_Builder_openWord_36 : DC m_Builder_openWord 36 (.aload_n 0) 1 37 := ⟨by decide +kernel, rfl⟩
theorem d_Builder_openWord_37 : DC m_Builder_openWord 37 (.getfield 12) 3 40 := ⟨by decide +kernel, rfl⟩
theorem d_Builder_openWord_40 : DC m_Builder_openWord 40 (.aload_n 0) 1 41 := ⟨by decide +kernel, rfl⟩
theorem d_Builder_openWord_41 : DC m_Builder_openWord 41 (.getfield 54) 3 44 := ⟨by decide +kernel, rfl⟩
theorem d_Builder_openWord_44 : DC m_Builder_openWord 44 (.invokevirtual 58) 3 47 := ⟨by decide +kernel, rfl⟩
theorem d_Builder_openWord_47 : DC m_Builder_openWord 47 (.bipush 15) 2 49 := ⟨by decide +kernel, rfl⟩
theorem d_Builder_openWord_49 : DC m_Builder_openWord 49 (.if_icmp .ne 20) 3 52 := ⟨by decide +kernel, rfl⟩
theorem d_Builder_openWord_52 : DC m_Builder_openWord 52 (.aload_n 0) 1 53 := ⟨by decide +kernel, rfl⟩
theorem d_Builder_openWord_53 : DC m_Builder_openWord 53 (.aload_n 0) 1 54 := ⟨by decide +kernel, rfl⟩
theorem d_Builder_openWord_54 : DC m_Builder_openWord 54 (.aload_n 0) 1 55 := ⟨by decide +kernel, rfl⟩
theorem d_Builder_openWord_55 : DC m_Builder_openWord 55 (.getfield 54) 3 58 := ⟨by decide +kernel, rfl⟩
theorem d_Builder_openWord_58 : DC m_Builder_openWord 58 (.iconst 1) 1 59 := ⟨by decide +kernel, rfl⟩
theorem d_Builder_openWord_59 : DC m_Builder_openWord 59 .iadd 1 60 := ⟨by decide +kernel, rfl⟩
theorem d_Builder_openWord_60 : DC m_Builder_openWord 60 (.invokevirtual 115) 3 63 := ⟨by decide +kernel, rfl⟩
theorem d_Builder_openWord_63 : DC m_Builder_openWord 63 (.invokevirtual 115) 3 66 := ⟨by decide +kernel, rfl⟩
theorem d_Builder_openWord_66 : DC m_Builder_openWord 66 (.goto 9) 3 69 := ⟨by decide +kernel, rfl⟩
theorem d_Builder_openWord_69 : DC m_Builder_openWord 69 (.aload_n 0) 1 70 := ⟨by decide +kernel, rfl⟩
theorem d_Builder_openWord_70 : DC m_Builder_openWord 70 (.getfield 54) 3 73 := ⟨by decide +kernel, rfl⟩
theorem d_Builder_openWord_73 : DC m_Builder_openWord 73 (.iconst 1) 1 74 := ⟨by decide +kernel, rfl⟩
theorem d_Builder_openWord_74 : DC m_Builder_openWord 74 .iadd 1 75 := ⟨by decide +kernel, rfl⟩
theorem d_Builder_openWord_75 : DC m_Builder_openWord 75 (.putfield 54) 3 78 := ⟨by decide +kernel, rfl⟩
theorem d_Builder_openWord_78 : DC m_Builder_openWord 78 .return_ 1 79 := ⟨by decide +kernel, rfl⟩
def f_Builder_openWord_35 (n : Nat) (x0 : Nat) (M : MM) : Option (MM) :=
  (gR 1 9 x0 M).bind fun v1 =>
  (gI 1 10 x0 M).bind fun v2 =>
  (f_Tokens_kindAt n v1 v2 M).bind fun p3 =>
  if p3.1 = 15 then
    (gI 1 10 x0 p3.2).bind fun v5 =>
    (f_Builder_behindNumber n x0 (v5 + 1) p3.2).bind fun p6 =>
    (f_Builder_behindNumber n x0 p6.1 p6.2).bind fun p7 =>
    (pI 1 10 x0 p7.1 p7.2).bind fun M8 =>
    some M8
  else
    (gI 1 10 x0 p3.2).bind fun v9 =>
    (pI 1 10 x0 (v9 + 1) p3.2).bind fun M10 =>
    some M10
theorem t_Builder_openWord_35 (n : Nat) (x0 : Nat) (M : MM) (z : MM) (h : f_Builder_openWord_35 n x0 M = some z) : EV m_Builder_openWord (rm 3 0 0) none z 0 0 35 [some (.ref x0)] [] M := by
  unfold f_Builder_openWord_35 at h
  refine e_aload_n d_Builder_openWord_35 rfl ?_
  refine e_aload_n d_Builder_openWord_36 rfl ?_
  obtain ⟨v1, hv1, h⟩ := bnd h
  refine e_getR d_Builder_openWord_37 fl_Builder_12 (fun _ _ _ => rfl) hv1 ?_
  refine e_aload_n d_Builder_openWord_40 rfl ?_
  obtain ⟨v2, hv2, h⟩ := bnd h
  refine e_getI d_Builder_openWord_41 fl_Builder_54 (fun _ _ _ => rfl) hv2 ?_
  obtain ⟨p3, hp3, h⟩ := bnd h
  refine e_cVi (mt1 := m_Tokens_kindAt) (As := [.int v2]) (st := [.ref x0]) d_Builder_openWord_44 ml_Builder_58 mv_Tokens_kindAt (t_Tokens_kindAt n v1 v2 M p3 hp3) (fc_Tokens_kindAt hp3) rfl rfl rfl (okp rfl) (okp rfl) (okp rfl) (Nat.le_refl _) (Nat.le_refl _) ?_
  refine e_bipush (v := 15) d_Builder_openWord_47 (by decide) ?_
  refine e_ic_ne 69 d_Builder_openWord_49 (by decide) (fun c4 => ?_) (fun c4 => ?_)
  · replace h := ifn c4 h
    refine e_aload_n d_Builder_openWord_69 rfl ?_
    obtain ⟨v9, hv9, h⟩ := bnd h
    refine e_getI d_Builder_openWord_70 fl_Builder_54 (fun _ _ _ => rfl) hv9 ?_
    refine e_iconst (v := 1) d_Builder_openWord_73 (by decide) ?_
    refine e_iadd d_Builder_openWord_74 ?_
    obtain ⟨M10, hM10, h⟩ := bnd h
    refine e_putI d_Builder_openWord_75 fl_Builder_54 (Or.inl rfl) (fun _ _ _ => rfl) rfl hM10 ?_
    cases h
    exact e_vret d_Builder_openWord_78 rfl (Nat.le_refl _) (Nat.le_refl _)
  · replace h := ift c4 h
    refine e_aload_n d_Builder_openWord_52 rfl ?_
    refine e_aload_n d_Builder_openWord_53 rfl ?_
    refine e_aload_n d_Builder_openWord_54 rfl ?_
    obtain ⟨v5, hv5, h⟩ := bnd h
    refine e_getI d_Builder_openWord_55 fl_Builder_54 (fun _ _ _ => rfl) hv5 ?_
    refine e_iconst (v := 1) d_Builder_openWord_58 (by decide) ?_
    refine e_iadd d_Builder_openWord_59 ?_
    obtain ⟨p6, hp6, h⟩ := bnd h
    refine e_cVi (mt1 := m_Builder_behindNumber) (As := [.int (v5 + 1)]) (st := [.ref x0, .ref x0]) d_Builder_openWord_60 ml_Builder_115 mv_Builder_behindNumber (t_Builder_behindNumber n x0 (v5 + 1) p3.2 p6 hp6) (fc_Builder_behindNumber hp6) rfl rfl rfl (okp rfl) (okp rfl) (okp rfl) (Nat.le_refl _) (Nat.le_refl _) ?_
    obtain ⟨p7, hp7, h⟩ := bnd h
    refine e_cVi (mt1 := m_Builder_behindNumber) (As := [.int p6.1]) (st := [.ref x0]) d_Builder_openWord_63 ml_Builder_115 mv_Builder_behindNumber (t_Builder_behindNumber n x0 p6.1 p6.2 p7 hp7) (fc_Builder_behindNumber hp7) rfl rfl rfl (okp rfl) (okp rfl) (okp rfl) (Nat.le_refl _) (Nat.le_refl _) ?_
    refine e_goto 75 d_Builder_openWord_66 (by decide) ?_
    obtain ⟨M8, hM8, h⟩ := bnd h
    refine e_putI d_Builder_openWord_75 fl_Builder_54 (Or.inl rfl) (fun _ _ _ => rfl) rfl hM8 ?_
    cases h
    exact e_vret d_Builder_openWord_78 rfl (Nat.le_refl _) (Nat.le_refl _)
def f_Builder_openWord (n : Nat) (x0 : Nat) (M : MM) : Option (MM) :=
  og 1 x0 M <|
  (gI 1 8 x0 M).bind fun v11 =>
  (gR 1 7 x0 M).bind fun v12 =>
  (aN v12 M).bind fun v13 =>
  if v13 ≤ v11 then
    f_Builder_openWord_35 n x0 M
  else
    (gR 1 7 x0 M).bind fun v15 =>
    (gI 1 8 x0 M).bind fun v16 =>
    (gI 1 10 x0 M).bind fun v17 =>
    (sI 100 v15 v16 v17 M).bind fun M18 =>
    (gI 1 8 x0 M18).bind fun v19 =>
    (pI 1 8 x0 (v19 + 1) M18).bind fun M20 =>
    f_Builder_openWord_35 n x0 M20
theorem fc_Builder_openWord {n : Nat} {x0 : Nat} {M : MM} {z : MM} (h : f_Builder_openWord n x0 M = some z) : (M.1.2.1 x0).1 = 1 := by
  unfold f_Builder_openWord at h
  exact (og_s h).1
theorem t_Builder_openWord (n : Nat) (x0 : Nat) (M : MM) (z : MM) (h : f_Builder_openWord n x0 M = some z) : CT m_Builder_openWord (rm 3 0 0) [.ref x0] M none z := by
  unfold f_Builder_openWord at h
  obtain ⟨hthis, h⟩ := og_s h
  refine CT.of (ls := [some (.ref x0)]) rfl (okp rfl) rfl ?_
  refine e_aload_n d_Builder_openWord_0 rfl ?_
  obtain ⟨v11, hv11, h⟩ := bnd h
  refine e_getI d_Builder_openWord_1 fl_Builder_51 (fun _ _ _ => rfl) hv11 ?_
  refine e_aload_n d_Builder_openWord_4 rfl ?_
  obtain ⟨v12, hv12, h⟩ := bnd h
  refine e_getR d_Builder_openWord_5 fl_Builder_47 (fun _ _ _ => rfl) hv12 ?_
  obtain ⟨v13, hv13, h⟩ := bnd h
  refine e_alen d_Builder_openWord_8 hv13 ?_
  refine e_ic_ge 35 d_Builder_openWord_9 (by decide) (fun c14 => ?_) (fun c14 => ?_)
  · replace h := ift c14 h
    exact (t_Builder_openWord_35 n x0 M z h).less (show LSub _ _ from ⟨rfl, trivial⟩)
  · replace h := ifn c14 h
    refine e_aload_n d_Builder_openWord_12 rfl ?_
    obtain ⟨v15, hv15, h⟩ := bnd h
    refine e_getR d_Builder_openWord_13 fl_Builder_47 (fun _ _ _ => rfl) hv15 ?_
    refine e_aload_n d_Builder_openWord_16 rfl ?_
    obtain ⟨v16, hv16, h⟩ := bnd h
    refine e_getI d_Builder_openWord_17 fl_Builder_51 (fun _ _ _ => rfl) hv16 ?_
    refine e_aload_n d_Builder_openWord_20 rfl ?_
    obtain ⟨v17, hv17, h⟩ := bnd h
    refine e_getI d_Builder_openWord_21 fl_Builder_54 (fun _ _ _ => rfl) hv17 ?_
    obtain ⟨M18, hM18, h⟩ := bnd h
    refine e_iast d_Builder_openWord_24 hM18 ?_
    refine e_aload_n d_Builder_openWord_25 rfl ?_
    refine e_dup d_Builder_openWord_26 rfl ?_
    obtain ⟨v19, hv19, h⟩ := bnd h
    refine e_getI d_Builder_openWord_27 fl_Builder_51 (fun _ _ _ => rfl) hv19 ?_
    refine e_iconst (v := 1) d_Builder_openWord_30 (by decide) ?_
    refine e_iadd d_Builder_openWord_31 ?_
    obtain ⟨M20, hM20, h⟩ := bnd h
    refine e_putI d_Builder_openWord_32 fl_Builder_51 (Or.inl rfl) (fun _ _ _ => rfl) rfl hM20 ?_
    exact (t_Builder_openWord_35 n x0 M20 z h).less (show LSub _ _ from ⟨rfl, trivial⟩)
theorem d_Builder_copyNamed_0 : DC m_Builder_copyNamed 0 (.aload_n 1) 1 1 := ⟨by decide +kernel, rfl⟩
theorem d_Builder_copyNamed_1 : DC m_Builder_copyNamed 1 (.invokevirtual 146) 3 4 := ⟨by decide +kernel, rfl⟩
theorem d_Builder_copyNamed_4 : DC m_Builder_copyNamed 4 (.iconst 0) 1 5 := ⟨by decide +kernel, rfl⟩
theorem d_Builder_copyNamed_5 : DC m_Builder_copyNamed 5 (.istore 4) 2 7 := ⟨by decide +kernel, rfl⟩
theorem d_Builder_copyNamed_7 : DC m_Builder_copyNamed 7 (.iload 4) 2 9 := ⟨by decide +kernel, rfl⟩
theorem d_Builder_copyNamed_9 : DC m_Builder_copyNamed 9 (.aload_n 0) 1 10 := ⟨by decide +kernel, rfl⟩
theorem d_Builder_copyNamed_10 : DC m_Builder_copyNamed 10 (.getfield 28) 3 13 := ⟨by decide +kernel, rfl⟩
theorem d_Builder_copyNamed_13 : DC m_Builder_copyNamed 13 (.if_icmp .ge 32) 3 16 := ⟨by decide +kernel, rfl⟩
theorem d_Builder_copyNamed_16 : DC m_Builder_copyNamed 16 (.aload_n 0) 1 17 := ⟨by decide +kernel, rfl⟩
theorem d_Builder_copyNamed_17 : DC m_Builder_copyNamed 17 (.getfield 32) 3 20 := ⟨by decide +kernel, rfl⟩
theorem d_Builder_copyNamed_20 : DC m_Builder_copyNamed 20 (.iload 4) 2 22 := ⟨by decide +kernel, rfl⟩
theorem d_Builder_copyNamed_22 : DC m_Builder_copyNamed 22 .laload 1 23 := ⟨by decide +kernel, rfl⟩
theorem d_Builder_copyNamed_23 : DC m_Builder_copyNamed 23 (.lload_n 2) 1 24 := ⟨by decide +kernel, rfl⟩
theorem d_Builder_copyNamed_24 : DC m_Builder_copyNamed 24 .lcmp 1 25 := ⟨by decide +kernel, rfl⟩
theorem d_Builder_copyNamed_25 : DC m_Builder_copyNamed 25 (.ifCond .ne 14) 3 28 := ⟨by decide +kernel, rfl⟩
theorem d_Builder_copyNamed_28 : DC m_Builder_copyNamed 28 (.aload_n 1) 1 29 := ⟨by decide +kernel, rfl⟩
theorem d_Builder_copyNamed_29 : DC m_Builder_copyNamed 29 (.aload_n 0) 1 30 := ⟨by decide +kernel, rfl⟩
theorem d_Builder_copyNamed_30 : DC m_Builder_copyNamed 30 (.getfield 20) 3 33 := ⟨by decide +kernel, rfl⟩
theorem d_Builder_copyNamed_33 : DC m_Builder_copyNamed 33 (.iload 4) 2 35 := ⟨by decide +kernel, rfl⟩
theorem d_Builder_copyNamed_35 : DC m_Builder_copyNamed 35 .aaload 1 36 := ⟨by decide +kernel, rfl⟩
theorem d_Builder_copyNamed_36 : DC m_Builder_copyNamed 36 (.invokevirtual 81) 3 39 := ⟨by decide +kernel, rfl⟩
theorem d_Builder_copyNamed_39 : DC m_Builder_copyNamed 39 (.iinc 4 1) 3 42 := ⟨by decide +kernel, rfl⟩
theorem d_Builder_copyNamed_42 : DC m_Builder_copyNamed 42 (.goto (-35)) 3 45 := ⟨by decide +kernel, rfl⟩
theorem d_Builder_copyNamed_45 : DC m_Builder_copyNamed 45 .return_ 1 46 := ⟨by decide +kernel, rfl⟩
def f_Builder_copyNamed_39 (n : Nat) (k_7 : Nat → Nat → Int64 → Int32 → MM → Option (MM)) (x0 : Nat) (x1 : Nat) (x2 : Int64) (x4 : Int32) (M : MM) : Option (MM) :=
  k_7 x0 x1 x2 (x4 + 1) M
theorem t_Builder_copyNamed_39 (n : Nat) {k_7 : Nat → Nat → Int64 → Int32 → MM → Option (MM)} (hk_7 : ∀ (x0 : Nat) (x1 : Nat) (x2 : Int64) (x4 : Int32) (M : MM) (z : MM), k_7 x0 x1 x2 x4 M = some z → EV m_Builder_copyNamed (rm 2 0 0) none z 0 0 7 [some (.ref x0), some (.ref x1), some (.long x2), none, some (.int x4)] [] M) (x0 : Nat) (x1 : Nat) (x2 : Int64) (x4 : Int32) (M : MM) (z : MM) (h : f_Builder_copyNamed_39 n k_7 x0 x1 x2 x4 M = some z) : EV m_Builder_copyNamed (rm 2 0 0) none z 0 0 39 [some (.ref x0), some (.ref x1), some (.long x2), none, some (.int x4)] [] M := by
  unfold f_Builder_copyNamed_39 at h
  refine e_iinc (v := x4 + 1) (l2 := [some (.ref x0), some (.ref x1), some (.long x2), none, some (.int (x4 + 1))]) d_Builder_copyNamed_39 rfl rfl rfl (okl rfl) rfl ?_
  refine e_goto 7 d_Builder_copyNamed_42 (by decide) ?_
  exact (hk_7 x0 x1 x2 (x4 + 1) M z h).less (show LSub _ _ from ⟨rfl, ⟨rfl, ⟨rfl, ⟨rfl, trivial⟩⟩⟩⟩)
def f_Builder_copyNamed_7 (n : Nat) : Nat → Nat → Nat → Int64 → Int32 → MM → Option (MM)
  | 0, _, _, _, _, _ => none
  | m + 1, x0, x1, x2, x4, M =>
    (gI 1 2 x0 M).bind fun v1 =>
    if v1 ≤ x4 then
      some M
    else
      (gR 1 3 x0 M).bind fun v3 =>
      (aL v3 x4 M).bind fun v4 =>
      if (lcp v4 x2) = 0 then
        (gR 1 0 x0 M).bind fun v6 =>
        (aR 104 v6 x4 M).bind fun v7 =>
        (f_Shape_copy n x1 v7 M).bind fun M8 =>
        f_Builder_copyNamed_39 n (f_Builder_copyNamed_7 n m) x0 x1 x2 x4 M8
      else
        f_Builder_copyNamed_39 n (f_Builder_copyNamed_7 n m) x0 x1 x2 x4 M
theorem t_Builder_copyNamed_7 (n : Nat) : ∀ (m : Nat) (x0 : Nat) (x1 : Nat) (x2 : Int64) (x4 : Int32) (M : MM) (z : MM), f_Builder_copyNamed_7 n m x0 x1 x2 x4 M = some z → EV m_Builder_copyNamed (rm 2 0 0) none z 0 0 7 [some (.ref x0), some (.ref x1), some (.long x2), none, some (.int x4)] [] M := by
  intro m
  induction m with
  | zero => intro x0 x1 x2 x4 M z h; cases h
  | succ m ih =>
    intro x0 x1 x2 x4 M z h
    rw [f_Builder_copyNamed_7] at h
    refine e_iload d_Builder_copyNamed_7 rfl ?_
    refine e_aload_n d_Builder_copyNamed_9 rfl ?_
    obtain ⟨v1, hv1, h⟩ := bnd h
    refine e_getI d_Builder_copyNamed_10 fl_Builder_28 (fun _ _ _ => rfl) hv1 ?_
    refine e_ic_ge 45 d_Builder_copyNamed_13 (by decide) (fun c2 => ?_) (fun c2 => ?_)
    · replace h := ift c2 h
      cases h
      exact e_vret d_Builder_copyNamed_45 rfl (Nat.le_refl _) (Nat.le_refl _)
    · replace h := ifn c2 h
      refine e_aload_n d_Builder_copyNamed_16 rfl ?_
      obtain ⟨v3, hv3, h⟩ := bnd h
      refine e_getR d_Builder_copyNamed_17 fl_Builder_32 (fun _ _ _ => rfl) hv3 ?_
      refine e_iload d_Builder_copyNamed_20 rfl ?_
      obtain ⟨v4, hv4, h⟩ := bnd h
      refine e_lald d_Builder_copyNamed_22 hv4 ?_
      refine e_lload_n d_Builder_copyNamed_23 rfl ?_
      refine e_lcmp d_Builder_copyNamed_24 ?_
      refine e_if_ne 39 d_Builder_copyNamed_25 (by decide) (fun c5 => ?_) (fun c5 => ?_)
      · replace h := ifn c5 h
        exact (t_Builder_copyNamed_39 n ih x0 x1 x2 x4 M z h).less (show LSub _ _ from ⟨rfl, ⟨rfl, ⟨rfl, ⟨rfl, trivial⟩⟩⟩⟩)
      · replace h := ift c5 h
        refine e_aload_n d_Builder_copyNamed_28 rfl ?_
        refine e_aload_n d_Builder_copyNamed_29 rfl ?_
        obtain ⟨v6, hv6, h⟩ := bnd h
        refine e_getR d_Builder_copyNamed_30 fl_Builder_20 (fun _ _ _ => rfl) hv6 ?_
        refine e_iload d_Builder_copyNamed_33 rfl ?_
        obtain ⟨v7, hv7, h⟩ := bnd h
        refine e_aald (kd := 104) d_Builder_copyNamed_35 (by decide) hv7 ?_
        obtain ⟨M8, hM8, h⟩ := bnd h
        refine e_cVv (mt1 := m_Shape_copy) (As := [.ref v7]) (st := []) d_Builder_copyNamed_36 ml_Builder_81 mv_Shape_copy (t_Shape_copy n x1 v7 M M8 hM8) (fc_Shape_copy hM8) rfl rfl rfl (okp rfl) (okp rfl) (okp rfl) (Nat.le_refl _) (Nat.le_refl _) ?_
        exact (t_Builder_copyNamed_39 n ih x0 x1 x2 x4 M8 z h).less (show LSub _ _ from ⟨rfl, ⟨rfl, ⟨rfl, ⟨rfl, trivial⟩⟩⟩⟩)
def f_Builder_copyNamed (n : Nat) (x0 : Nat) (x1 : Nat) (x2 : Int64) (M : MM) : Option (MM) :=
  og 1 x0 M <|
  (f_Shape_clear n x1 M).bind fun M9 =>
  f_Builder_copyNamed_7 n n x0 x1 x2 0 M9
theorem fc_Builder_copyNamed {n : Nat} {x0 : Nat} {x1 : Nat} {x2 : Int64} {M : MM} {z : MM} (h : f_Builder_copyNamed n x0 x1 x2 M = some z) : (M.1.2.1 x0).1 = 1 := by
  unfold f_Builder_copyNamed at h
  exact (og_s h).1
theorem t_Builder_copyNamed (n : Nat) (x0 : Nat) (x1 : Nat) (x2 : Int64) (M : MM) (z : MM) (h : f_Builder_copyNamed n x0 x1 x2 M = some z) : CT m_Builder_copyNamed (rm 2 0 0) [.ref x0, .ref x1, .long x2] M none z := by
  unfold f_Builder_copyNamed at h
  obtain ⟨hthis, h⟩ := og_s h
  refine CT.of (ls := [some (.ref x0), some (.ref x1), some (.long x2), none, none]) rfl (okp rfl) rfl ?_
  refine e_aload_n d_Builder_copyNamed_0 rfl ?_
  obtain ⟨M9, hM9, h⟩ := bnd h
  refine e_cVv (mt1 := m_Shape_clear) (As := []) (st := []) d_Builder_copyNamed_1 ml_Builder_146 mv_Shape_clear (t_Shape_clear n x1 M M9 hM9) (fc_Shape_clear hM9) rfl rfl rfl (okp rfl) (okp rfl) (okp rfl) (Nat.le_refl _) (Nat.le_refl _) ?_
  refine e_iconst (v := 0) d_Builder_copyNamed_4 (by decide) ?_
  refine e_istore (l2 := [some (.ref x0), some (.ref x1), some (.long x2), none, some (.int 0)]) d_Builder_copyNamed_5 rfl (okl rfl) rfl ?_
  exact (t_Builder_copyNamed_7 n n x0 x1 x2 0 M9 z h).less (show LSub _ _ from ⟨rfl, ⟨rfl, ⟨rfl, ⟨rfl, trivial⟩⟩⟩⟩)
theorem d_Builder_numberAt_0 : DC m_Builder_numberAt 0 (.aload_n 0) 1 1 := ⟨by decide +kernel, rfl⟩
theorem d_Builder_numberAt_1 : DC m_Builder_numberAt 1 (.getfield 12) 3 4 := ⟨by decide +kernel, rfl⟩
theorem d_Builder_numberAt_4 : DC m_Builder_numberAt 4 (.iload_n 1) 1 5 := ⟨by decide +kernel, rfl⟩
theorem d_Builder_numberAt_5 : DC m_Builder_numberAt 5 (.invokevirtual 58) 3 8 := ⟨by decide +kernel, rfl⟩
theorem d_Builder_numberAt_8 : DC m_Builder_numberAt 8 (.bipush 45) 2 10 := ⟨by decide +kernel, rfl⟩
theorem d_Builder_numberAt_10 : DC m_Builder_numberAt 10 (.if_icmp .ne 18) 3 13 := ⟨by decide +kernel, rfl⟩
theorem d_Builder_numberAt_13 : DC m_Builder_numberAt 13 (.aload_n 0) 1 14 := ⟨by decide +kernel, rfl⟩
theorem d_Builder_numberAt_14 : DC m_Builder_numberAt 14 (.getfield 12) 3 17 := ⟨by decide +kernel, rfl⟩
theorem d_Builder_numberAt_17 : DC m_Builder_numberAt 17 (.iload_n 1) 1 18 := ⟨by decide +kernel, rfl⟩
theorem d_Builder_numberAt_18 : DC m_Builder_numberAt 18 (.iconst 1) 1 19 := ⟨by decide +kernel, rfl⟩
theorem d_Builder_numberAt_19 : DC m_Builder_numberAt 19 .iadd 1 20 := ⟨by decide +kernel, rfl⟩
theorem d_Builder_numberAt_20 : DC m_Builder_numberAt 20 (.invokevirtual 62) 3 23 := ⟨by decide +kernel, rfl⟩
theorem d_Builder_numberAt_23 : DC m_Builder_numberAt 23 .l2i 1 24 := ⟨by decide +kernel, rfl⟩
theorem d_Builder_numberAt_24 : DC m_Builder_numberAt 24 .ineg 1 25 := ⟨by decide +kernel, rfl⟩
theorem d_Builder_numberAt_25 : DC m_Builder_numberAt 25 (.goto 12) 3 28 := ⟨by decide +kernel, rfl⟩
theorem d_Builder_numberAt_28 : DC m_Builder_numberAt 28 (.aload_n 0) 1 29 := ⟨by decide +kernel, rfl⟩
theorem d_Builder_numberAt_29 : DC m_Builder_numberAt 29 (.getfield 12) 3 32 := ⟨by decide +kernel, rfl⟩
theorem d_Builder_numberAt_32 : DC m_Builder_numberAt 32 (.iload_n 1) 1 33 := ⟨by decide +kernel, rfl⟩
theorem d_Builder_numberAt_33 : DC m_Builder_numberAt 33 (.invokevirtual 62) 3 36 := ⟨by decide +kernel, rfl⟩
theorem d_Builder_numberAt_36 : DC m_Builder_numberAt 36 .l2i 1 37 := ⟨by decide +kernel, rfl⟩
theorem d_Builder_numberAt_37 : DC m_Builder_numberAt 37 .ireturn 1 38 := ⟨by decide +kernel, rfl⟩
def f_Builder_numberAt (n : Nat) (x0 : Nat) (x1 : Int32) (M : MM) : Option (Int32 × MM) :=
  og 1 x0 M <|
  (gR 1 9 x0 M).bind fun v1 =>
  (f_Tokens_kindAt n v1 x1 M).bind fun p2 =>
  if p2.1 = 45 then
    (gR 1 9 x0 p2.2).bind fun v4 =>
    (f_Tokens_valueAt n v4 (x1 + 1) p2.2).bind fun p5 =>
    some ((-(p5.1.toInt32)), p5.2)
  else
    (gR 1 9 x0 p2.2).bind fun v6 =>
    (f_Tokens_valueAt n v6 x1 p2.2).bind fun p7 =>
    some ((p7.1.toInt32), p7.2)
theorem fc_Builder_numberAt {n : Nat} {x0 : Nat} {x1 : Int32} {M : MM} {z : Int32 × MM} (h : f_Builder_numberAt n x0 x1 M = some z) : (M.1.2.1 x0).1 = 1 := by
  unfold f_Builder_numberAt at h
  exact (og_s h).1
theorem t_Builder_numberAt (n : Nat) (x0 : Nat) (x1 : Int32) (M : MM) (z : Int32 × MM) (h : f_Builder_numberAt n x0 x1 M = some z) : CT m_Builder_numberAt (rm 2 0 0) [.ref x0, .int x1] M (some (.int z.1)) z.2 := by
  unfold f_Builder_numberAt at h
  obtain ⟨hthis, h⟩ := og_s h
  refine CT.of (ls := [some (.ref x0), some (.int x1)]) rfl (okp rfl) rfl ?_
  refine e_aload_n d_Builder_numberAt_0 rfl ?_
  obtain ⟨v1, hv1, h⟩ := bnd h
  refine e_getR d_Builder_numberAt_1 fl_Builder_12 (fun _ _ _ => rfl) hv1 ?_
  refine e_iload_n d_Builder_numberAt_4 rfl ?_
  obtain ⟨p2, hp2, h⟩ := bnd h
  refine e_cVi (mt1 := m_Tokens_kindAt) (As := [.int x1]) (st := []) d_Builder_numberAt_5 ml_Builder_58 mv_Tokens_kindAt (t_Tokens_kindAt n v1 x1 M p2 hp2) (fc_Tokens_kindAt hp2) rfl rfl rfl (okp rfl) (okp rfl) (okp rfl) (Nat.le_refl _) (Nat.le_refl _) ?_
  refine e_bipush (v := 45) d_Builder_numberAt_8 (by decide) ?_
  refine e_ic_ne 28 d_Builder_numberAt_10 (by decide) (fun c3 => ?_) (fun c3 => ?_)
  · replace h := ifn c3 h
    refine e_aload_n d_Builder_numberAt_28 rfl ?_
    obtain ⟨v6, hv6, h⟩ := bnd h
    refine e_getR d_Builder_numberAt_29 fl_Builder_12 (fun _ _ _ => rfl) hv6 ?_
    refine e_iload_n d_Builder_numberAt_32 rfl ?_
    obtain ⟨p7, hp7, h⟩ := bnd h
    refine e_cVl (mt1 := m_Tokens_valueAt) (As := [.int x1]) (st := []) d_Builder_numberAt_33 ml_Builder_62 mv_Tokens_valueAt (t_Tokens_valueAt n v6 x1 p2.2 p7 hp7) (fc_Tokens_valueAt hp7) rfl rfl rfl (okp rfl) (okp rfl) (okp rfl) (Nat.le_refl _) (Nat.le_refl _) ?_
    refine e_l2i d_Builder_numberAt_36 ?_
    cases h
    exact e_iret d_Builder_numberAt_37 rfl (Nat.le_refl _) (Nat.le_refl _)
  · replace h := ift c3 h
    refine e_aload_n d_Builder_numberAt_13 rfl ?_
    obtain ⟨v4, hv4, h⟩ := bnd h
    refine e_getR d_Builder_numberAt_14 fl_Builder_12 (fun _ _ _ => rfl) hv4 ?_
    refine e_iload_n d_Builder_numberAt_17 rfl ?_
    refine e_iconst (v := 1) d_Builder_numberAt_18 (by decide) ?_
    refine e_iadd d_Builder_numberAt_19 ?_
    obtain ⟨p5, hp5, h⟩ := bnd h
    refine e_cVl (mt1 := m_Tokens_valueAt) (As := [.int (x1 + 1)]) (st := []) d_Builder_numberAt_20 ml_Builder_62 mv_Tokens_valueAt (t_Tokens_valueAt n v4 (x1 + 1) p2.2 p5 hp5) (fc_Tokens_valueAt hp5) rfl rfl rfl (okp rfl) (okp rfl) (okp rfl) (Nat.le_refl _) (Nat.le_refl _) ?_
    refine e_l2i d_Builder_numberAt_23 ?_
    refine e_ineg d_Builder_numberAt_24 ?_
    refine e_goto 37 d_Builder_numberAt_25 (by decide) ?_
    cases h
    exact e_iret d_Builder_numberAt_37 rfl (Nat.le_refl _) (Nat.le_refl _)
theorem d_Builder_addBox_0 : DC m_Builder_addBox 0 (.iload_n 2) 1 1 := ⟨by decide +kernel, rfl⟩
theorem d_Builder_addBox_1 : DC m_Builder_addBox 1 (.istore 5) 2 3 := ⟨by decide +kernel, rfl⟩
theorem d_Builder_addBox_3 : DC m_Builder_addBox 3 (.iload 5) 2 5 := ⟨by decide +kernel, rfl⟩
theorem d_Builder_addBox_5 : DC m_Builder_addBox 5 (.iload_n 2) 1 6 := ⟨by decide +kernel, rfl⟩
theorem d_Builder_addBox_6 : DC m_Builder_addBox 6 (.iload 4) 2 8 := ⟨by decide +kernel, rfl⟩
theorem d_Builder_addBox_8 : DC m_Builder_addBox 8 .iadd 1 9 := ⟨by decide +kernel, rfl⟩
theorem d_Builder_addBox_9 : DC m_Builder_addBox 9 (.if_icmp .ge 36) 3 12 := ⟨by decide +kernel, rfl⟩
theorem d_Builder_addBox_12 : DC m_Builder_addBox 12 (.iload_n 1) 1 13 := ⟨by decide +kernel, rfl⟩
theorem d_Builder_addBox_13 : DC m_Builder_addBox 13 (.istore 6) 2 15 := ⟨by decide +kernel, rfl⟩
theorem d_Builder_addBox_15 : DC m_Builder_addBox 15 (.iload 6) 2 17 := ⟨by decide +kernel, rfl⟩
theorem d_Builder_addBox_17 : DC m_Builder_addBox 17 (.iload_n 1) 1 18 := ⟨by decide +kernel, rfl⟩
theorem d_Builder_addBox_18 : DC m_Builder_addBox 18 (.iload_n 3) 1 19 := ⟨by decide +kernel, rfl⟩
theorem d_Builder_addBox_19 : DC m_Builder_addBox 19 .iadd 1 20 := ⟨by decide +kernel, rfl⟩
theorem d_Builder_addBox_20 : DC m_Builder_addBox 20 (.if_icmp .ge 19) 3 23 := ⟨by decide +kernel, rfl⟩
theorem d_Builder_addBox_23 : DC m_Builder_addBox 23 (.aload_n 0) 1 24 := ⟨by decide +kernel, rfl⟩
theorem d_Builder_addBox_24 : DC m_Builder_addBox 24 (.iload 6) 2 26 := ⟨by decide +kernel, rfl⟩
theorem d_Builder_addBox_26 : DC m_Builder_addBox 26 (.iload 5) 2 28 := ⟨by decide +kernel, rfl⟩
theorem d_Builder_addBox_28 : DC m_Builder_addBox 28 (.bipush 15) 2 30 := ⟨by decide +kernel, rfl⟩
theorem d_Builder_addBox_30 : DC m_Builder_addBox 30 (.invokevirtual 149) 3 33 := ⟨by decide +kernel, rfl⟩
theorem d_Builder_addBox_33 : DC m_Builder_addBox 33 (.iinc 6 1) 3 36 := ⟨by decide +kernel, rfl⟩
theorem d_Builder_addBox_36 : DC m_Builder_addBox 36 (.goto (-21)) 3 39 := ⟨by decide +kernel, rfl⟩
theorem d_Builder_addBox_39 : DC m_Builder_addBox 39 (.iinc 5 1) 3 42 := ⟨by decide +kernel, rfl⟩
theorem d_Builder_addBox_42 : DC m_Builder_addBox 42 (.goto (-39)) 3 45 := ⟨by decide +kernel, rfl⟩
theorem d_Builder_addBox_45 : DC m_Builder_addBox 45 .return_ 1 46 := ⟨by decide +kernel, rfl⟩
def f_Builder_addBox_39 (n : Nat) (k_3 : Nat → Int32 → Int32 → Int32 → Int32 → Int32 → MM → Option (MM)) (x0 : Nat) (x1 : Int32) (x2 : Int32) (x3 : Int32) (x4 : Int32) (x5 : Int32) (M : MM) : Option (MM) :=
  k_3 x0 x1 x2 x3 x4 (x5 + 1) M
theorem t_Builder_addBox_39 (n : Nat) {k_3 : Nat → Int32 → Int32 → Int32 → Int32 → Int32 → MM → Option (MM)} (hk_3 : ∀ (x0 : Nat) (x1 : Int32) (x2 : Int32) (x3 : Int32) (x4 : Int32) (x5 : Int32) (M : MM) (z : MM), k_3 x0 x1 x2 x3 x4 x5 M = some z → EV m_Builder_addBox (rm 2 0 0) none z 0 0 3 [some (.ref x0), some (.int x1), some (.int x2), some (.int x3), some (.int x4), some (.int x5), none] [] M) (x0 : Nat) (x1 : Int32) (x2 : Int32) (x3 : Int32) (x4 : Int32) (x5 : Int32) (M : MM) (z : MM) (h : f_Builder_addBox_39 n k_3 x0 x1 x2 x3 x4 x5 M = some z) : EV m_Builder_addBox (rm 2 0 0) none z 0 0 39 [some (.ref x0), some (.int x1), some (.int x2), some (.int x3), some (.int x4), some (.int x5), none] [] M := by
  unfold f_Builder_addBox_39 at h
  refine e_iinc (v := x5 + 1) (l2 := [some (.ref x0), some (.int x1), some (.int x2), some (.int x3), some (.int x4), some (.int (x5 + 1)), none]) d_Builder_addBox_39 rfl rfl rfl (okl rfl) rfl ?_
  refine e_goto 3 d_Builder_addBox_42 (by decide) ?_
  exact (hk_3 x0 x1 x2 x3 x4 (x5 + 1) M z h).less (show LSub _ _ from ⟨rfl, ⟨rfl, ⟨rfl, ⟨rfl, ⟨rfl, ⟨rfl, trivial⟩⟩⟩⟩⟩⟩)
def f_Builder_addBox_15 (n : Nat) (k_39 : Nat → Int32 → Int32 → Int32 → Int32 → Int32 → MM → Option (MM)) : Nat → Nat → Int32 → Int32 → Int32 → Int32 → Int32 → Int32 → MM → Option (MM)
  | 0, _, _, _, _, _, _, _, _ => none
  | m + 1, x0, x1, x2, x3, x4, x5, x6, M =>
    if (x1 + x3) ≤ x6 then
      k_39 x0 x1 x2 x3 x4 x5 M
    else
      (f_Shape_addCell n x0 x6 x5 15 M).bind fun M2 =>
      f_Builder_addBox_15 n k_39 m x0 x1 x2 x3 x4 x5 (x6 + 1) M2
theorem t_Builder_addBox_15 (n : Nat) {k_39 : Nat → Int32 → Int32 → Int32 → Int32 → Int32 → MM → Option (MM)} (hk_39 : ∀ (x0 : Nat) (x1 : Int32) (x2 : Int32) (x3 : Int32) (x4 : Int32) (x5 : Int32) (M : MM) (z : MM), k_39 x0 x1 x2 x3 x4 x5 M = some z → EV m_Builder_addBox (rm 2 0 0) none z 0 0 39 [some (.ref x0), some (.int x1), some (.int x2), some (.int x3), some (.int x4), some (.int x5), none] [] M) : ∀ (m : Nat) (x0 : Nat) (x1 : Int32) (x2 : Int32) (x3 : Int32) (x4 : Int32) (x5 : Int32) (x6 : Int32) (M : MM) (z : MM), f_Builder_addBox_15 n k_39 m x0 x1 x2 x3 x4 x5 x6 M = some z → EV m_Builder_addBox (rm 2 0 0) none z 0 0 15 [some (.ref x0), some (.int x1), some (.int x2), some (.int x3), some (.int x4), some (.int x5), some (.int x6)] [] M := by
  intro m
  induction m with
  | zero => intro x0 x1 x2 x3 x4 x5 x6 M z h; cases h
  | succ m ih =>
    intro x0 x1 x2 x3 x4 x5 x6 M z h
    rw [f_Builder_addBox_15] at h
    refine e_iload d_Builder_addBox_15 rfl ?_
    refine e_iload_n d_Builder_addBox_17 rfl ?_
    refine e_iload_n d_Builder_addBox_18 rfl ?_
    refine e_iadd d_Builder_addBox_19 ?_
    refine e_ic_ge 39 d_Builder_addBox_20 (by decide) (fun c1 => ?_) (fun c1 => ?_)
    · replace h := ift c1 h
      exact (hk_39 x0 x1 x2 x3 x4 x5 M z h).less (show LSub _ _ from ⟨rfl, ⟨rfl, ⟨rfl, ⟨rfl, ⟨rfl, ⟨rfl, trivial⟩⟩⟩⟩⟩⟩)
    · replace h := ifn c1 h
      refine e_aload_n d_Builder_addBox_23 rfl ?_
      refine e_iload d_Builder_addBox_24 rfl ?_
      refine e_iload d_Builder_addBox_26 rfl ?_
      refine e_bipush (v := 15) d_Builder_addBox_28 (by decide) ?_
      obtain ⟨M2, hM2, h⟩ := bnd h
      refine e_cVv (mt1 := m_Shape_addCell) (As := [.int x6, .int x5, .int 15]) (st := []) d_Builder_addBox_30 ml_Builder_149 mv_Shape_addCell (t_Shape_addCell n x0 x6 x5 15 M M2 hM2) (fc_Shape_addCell hM2) rfl rfl rfl (okp rfl) (okp rfl) (okp rfl) (Nat.le_refl _) (Nat.le_refl _) ?_
      refine e_iinc (v := x6 + 1) (l2 := [some (.ref x0), some (.int x1), some (.int x2), some (.int x3), some (.int x4), some (.int x5), some (.int (x6 + 1))]) d_Builder_addBox_33 rfl rfl rfl (okl rfl) rfl ?_
      refine e_goto 15 d_Builder_addBox_36 (by decide) ?_
      exact (ih x0 x1 x2 x3 x4 x5 (x6 + 1) M2 z h).less (show LSub _ _ from ⟨rfl, ⟨rfl, ⟨rfl, ⟨rfl, ⟨rfl, ⟨rfl, ⟨rfl, trivial⟩⟩⟩⟩⟩⟩⟩)
def f_Builder_addBox_3 (n : Nat) : Nat → Nat → Int32 → Int32 → Int32 → Int32 → Int32 → MM → Option (MM)
  | 0, _, _, _, _, _, _, _ => none
  | m + 1, x0, x1, x2, x3, x4, x5, M =>
    if (x2 + x4) ≤ x5 then
      some M
    else
      f_Builder_addBox_15 n (f_Builder_addBox_39 n (f_Builder_addBox_3 n m)) n x0 x1 x2 x3 x4 x5 x1 M
theorem t_Builder_addBox_3 (n : Nat) : ∀ (m : Nat) (x0 : Nat) (x1 : Int32) (x2 : Int32) (x3 : Int32) (x4 : Int32) (x5 : Int32) (M : MM) (z : MM), f_Builder_addBox_3 n m x0 x1 x2 x3 x4 x5 M = some z → EV m_Builder_addBox (rm 2 0 0) none z 0 0 3 [some (.ref x0), some (.int x1), some (.int x2), some (.int x3), some (.int x4), some (.int x5), none] [] M := by
  intro m
  induction m with
  | zero => intro x0 x1 x2 x3 x4 x5 M z h; cases h
  | succ m ih =>
    intro x0 x1 x2 x3 x4 x5 M z h
    rw [f_Builder_addBox_3] at h
    refine e_iload d_Builder_addBox_3 rfl ?_
    refine e_iload_n d_Builder_addBox_5 rfl ?_
    refine e_iload d_Builder_addBox_6 rfl ?_
    refine e_iadd d_Builder_addBox_8 ?_
    refine e_ic_ge 45 d_Builder_addBox_9 (by decide) (fun c3 => ?_) (fun c3 => ?_)
    · replace h := ift c3 h
      cases h
      exact e_vret d_Builder_addBox_45 rfl (Nat.le_refl _) (Nat.le_refl _)
    · replace h := ifn c3 h
      refine e_iload_n d_Builder_addBox_12 rfl ?_
      refine e_istore (l2 := [some (.ref x0), some (.int x1), some (.int x2), some (.int x3), some (.int x4), some (.int x5), some (.int x1)]) d_Builder_addBox_13 rfl (okl rfl) rfl ?_
      exact (t_Builder_addBox_15 n (t_Builder_addBox_39 n ih) n x0 x1 x2 x3 x4 x5 x1 M z h).less (show LSub _ _ from ⟨rfl, ⟨rfl, ⟨rfl, ⟨rfl, ⟨rfl, ⟨rfl, ⟨rfl, trivial⟩⟩⟩⟩⟩⟩⟩)
def f_Builder_addBox (n : Nat) (x0 : Nat) (x1 : Int32) (x2 : Int32) (x3 : Int32) (x4 : Int32) (M : MM) : Option (MM) :=
  f_Builder_addBox_3 n n x0 x1 x2 x3 x4 x2 M
theorem t_Builder_addBox (n : Nat) (x0 : Nat) (x1 : Int32) (x2 : Int32) (x3 : Int32) (x4 : Int32) (M : MM) (z : MM) (h : f_Builder_addBox n x0 x1 x2 x3 x4 M = some z) : CT m_Builder_addBox (rm 2 0 0) [.ref x0, .int x1, .int x2, .int x3, .int x4] M none z := by
  unfold f_Builder_addBox at h
  refine CT.of (ls := [some (.ref x0), some (.int x1), some (.int x2), some (.int x3), some (.int x4), none, none]) rfl (okp rfl) rfl ?_
  refine e_iload_n d_Builder_addBox_0 rfl ?_
  refine e_istore (l2 := [some (.ref x0), some (.int x1), some (.int x2), some (.int x3), some (.int x4), some (.int x2), none]) d_Builder_addBox_1 rfl (okl rfl) rfl ?_
  exact (t_Builder_addBox_3 n n x0 x1 x2 x3 x4 x2 M z h).less (show LSub _ _ from ⟨rfl, ⟨rfl, ⟨rfl, ⟨rfl, ⟨rfl, ⟨rfl, trivial⟩⟩⟩⟩⟩⟩)
theorem d_Builder_makeCells_0 : DC m_Builder_makeCells 0 (.aload_n 0) 1 1 := ⟨by decide +kernel, rfl⟩
theorem d_Builder_makeCells_1 : DC m_Builder_makeCells 1 (.aload_n 0) 1 2 := ⟨by decide +kernel, rfl⟩
theorem d_Builder_makeCells_2 : DC m_Builder_makeCells 2 (.getfield 54) 3 5 := ⟨by decide +kernel, rfl⟩
theorem d_Builder_makeCells_5 : DC m_Builder_makeCells 5 (.iconst 1) 1 6 := ⟨by decide +kernel, rfl⟩
theorem d_Builder_makeCells_6 : DC m_Builder_makeCells 6 .iadd 1 7 := ⟨by decide +kernel, rfl⟩
theorem d_Builder_makeCells_7 : DC m_Builder_makeCells 7 (.invokevirtual 127) 3 10 := ⟨by decide +kernel, rfl⟩
theorem d_Builder_makeCells_10 : DC m_Builder_makeCells 10 (.istore_n 3) 1 11 := ⟨by decide +kernel, rfl⟩
theorem d_Builder_makeCells_11 : DC m_Builder_makeCells 11 (.aload_n 0) 1 12 := ⟨by decide +kernel, rfl⟩
theorem d_Builder_makeCells_12 : DC m_Builder_makeCells 12 (.aload_n 0) 1 13 := ⟨by decide +kernel, rfl⟩
theorem d_Builder_makeCells_13 : DC m_Builder_makeCells 13 (.getfield 54) 3 16 := ⟨by decide +kernel, rfl⟩
theorem d_Builder_makeCells_16 : DC m_Builder_makeCells 16 (.iconst 2) 1 17 := ⟨by decide +kernel, rfl⟩
theorem d_Builder_makeCells_17 : DC m_Builder_makeCells 17 .iadd 1 18 := ⟨by decide +kernel, rfl⟩
theorem d_Builder_makeCells_18 : DC m_Builder_makeCells 18 (.invokevirtual 127) 3 21 := ⟨by decide +kernel, rfl⟩
theorem d_Builder_makeCells_21 : DC m_Builder_makeCells 21 (.istore 4) 2 23 := ⟨by decide +kernel, rfl⟩
theorem d_Builder_makeCells_23 : DC m_Builder_makeCells 23 (.aload_n 0) 1 24 := ⟨by decide +kernel, rfl⟩
theorem d_Builder_makeCells_24 : DC m_Builder_makeCells 24 (.aload_n 0) 1 25 := ⟨by decide +kernel, rfl⟩
theorem d_Builder_makeCells_25 : DC m_Builder_makeCells 25 (.getfield 54) 3 28 := ⟨by decide +kernel, rfl⟩
theorem d_Builder_makeCells_28 : DC m_Builder_makeCells 28 (.iconst 3) 1 29 := ⟨by decide +kernel, rfl⟩
theorem d_Builder_makeCells_29 : DC m_Builder_makeCells 29 .iadd 1 30 := ⟨by decide +kernel, rfl⟩
theorem d_Builder_makeCells_30 : DC m_Builder_makeCells 30 (.invokevirtual 127) 3 33 := ⟨by decide +kernel, rfl⟩
theorem d_Builder_makeCells_33 : DC m_Builder_makeCells 33 (.istore 5) 2 35 := ⟨by decide +kernel, rfl⟩
theorem d_Builder_makeCells_35 : DC m_Builder_makeCells 35 (.aload_n 1) 1 36 := ⟨by decide +kernel, rfl⟩
theorem d_Builder_makeCells_36 : DC m_Builder_makeCells 36 (.invokevirtual 146) 3 39 := ⟨by decide +kernel, rfl⟩
theorem d_Builder_makeCells_39 : DC m_Builder_makeCells 39 (.iload_n 2) 1 40 := ⟨by decide +kernel, rfl⟩
theorem d_Builder_makeCells_40 : DC m_Builder_makeCells 40 (.bipush 16) 2 42 := ⟨by decide +kernel, rfl⟩
theorem d_Builder_makeCells_42 : DC m_Builder_makeCells 42 (.if_icmp .ne 25) 3 45 := ⟨by decide +kernel, rfl⟩
theorem d_Builder_makeCells_45 : DC m_Builder_makeCells 45 (.aload_n 1) 1 46 := ⟨by decide +kernel, rfl⟩
theorem d_Builder_makeCells_46 : DC m_Builder_makeCells 46 (.iload_n 3) 1 47 := ⟨by decide +kernel, rfl⟩
theorem d_Builder_makeCells_47 : DC m_Builder_makeCells 47 (.iload 4) 2 49 := ⟨by decide +kernel, rfl⟩
theorem d_Builder_makeCells_49 : DC m_Builder_makeCells 49 (.bipush 15) 2 51 := ⟨by decide +kernel, rfl⟩
theorem d_Builder_makeCells_51 : DC m_Builder_makeCells 51 (.invokevirtual 149) 3 54 := ⟨by decide +kernel, rfl⟩
theorem d_Builder_makeCells_54 : DC m_Builder_makeCells 54 (.aload_n 0) 1 55 := ⟨by decide +kernel, rfl⟩
theorem d_Builder_makeCells_55 : DC m_Builder_makeCells 55 .dup 1 56 := ⟨by decide +kernel, rfl⟩
theorem d_Builder_makeCells_56 : DC m_Builder_makeCells 56 (.getfield 54) 3 59 := ⟨by decide +kernel, rfl⟩
theorem d_Builder_makeCells_59 : DC m_Builder_makeCells 59 (.iconst 3) 1 60 := ⟨by decide +kernel, rfl⟩
theorem d_Builder_makeCells_60 : DC m_Builder_makeCells 60 .iadd 1 61 := ⟨by decide +kernel, rfl⟩
theorem d_Builder_makeCells_61 : DC m_Builder_makeCells 61 (.putfield 54) 3 64 := ⟨by decide +kernel, rfl⟩
theorem d_Builder_makeCells_64 : DC m_Builder_makeCells 64 (.goto 88) 3 67 := ⟨by decide +kernel, rfl⟩
theorem d_Builder_makeCells_67 : DC m_Builder_makeCells 67 (.iload_n 2) 1 68 := ⟨by decide +kernel, rfl⟩
theorem d_Builder_makeCells_68 : DC m_Builder_makeCells 68 (.bipush 17) 2 70 := ⟨by decide +kernel, rfl⟩
theorem d_Builder_makeCells_70 : DC m_Builder_makeCells 70 (.if_icmp .ne 35) 3 73 := ⟨by decide +kernel, rfl⟩
theorem d_Builder_makeCells_73 : DC m_Builder_makeCells 73 (.aload_n 1) 1 74 := ⟨by decide +kernel, rfl⟩
theorem d_Builder_makeCells_74 : DC m_Builder_makeCells 74 (.iload_n 3) 1 75 := ⟨by decide +kernel, rfl⟩
theorem d_Builder_makeCells_75 : DC m_Builder_makeCells 75 (.iload 4) 2 77 := ⟨by decide +kernel, rfl⟩
theorem d_Builder_makeCells_77 : DC m_Builder_makeCells 77 (.iload 5) 2 79 := ⟨by decide +kernel, rfl⟩
theorem d_Builder_makeCells_79 : DC m_Builder_makeCells 79 (.aload_n 0) 1 80 := ⟨by decide +kernel, rfl⟩
theorem d_Builder_makeCells_80 : DC m_Builder_makeCells 80 (.aload_n 0) 1 81 := ⟨by decide +kernel, rfl⟩
theorem d_Builder_makeCells_81 : DC m_Builder_makeCells 81 (.getfield 54) 3 84 := ⟨by decide +kernel, rfl⟩
theorem d_Builder_makeCells_84 : DC m_Builder_makeCells 84 (.iconst 4) 1 85 := ⟨by decide +kernel, rfl⟩
theorem d_Builder_makeCells_85 : DC m_Builder_makeCells 85 .iadd 1 86 := ⟨by decide +kernel, rfl⟩
theorem d_Builder_makeCells_86 : DC m_Builder_makeCells 86 (.invokevirtual 127) 3 89 := ⟨by decide +kernel, rfl⟩
theorem d_Builder_makeCells_89 : DC m_Builder_makeCells 89 (.invokestatic 153) 3 92 := ⟨by decide +kernel, rfl⟩
theorem d_Builder_makeCells_92 : DC m_Builder_makeCells 92 (.aload_n 0) 1 93 := ⟨by decide +kernel, rfl⟩
theorem d_Builder_makeCells_93 : DC m_Builder_makeCells 93 .dup 1 94 := ⟨by decide +kernel, rfl⟩
theorem d_Builder_makeCells_94 : DC m_Builder_makeCells 94 (.getfield 54) 3 97 := ⟨by decide +kernel, rfl⟩
theorem d_Builder_makeCells_97 : DC m_Builder_makeCells 97 (.iconst 5) 1 98 := ⟨by decide +kernel, rfl⟩
theorem d_Builder_makeCells_98 : DC m_Builder_makeCells 98 .iadd 1 99 := ⟨by decide +kernel, rfl⟩
theorem d_Builder_makeCells_99 : DC m_Builder_makeCells 99 (.putfield 54) 3 102 := ⟨by decide +kernel, rfl⟩
theorem d_Builder_makeCells_102 : DC m_Builder_makeCells 102 (.goto 50) 3 105 := ⟨by decide +kernel, rfl⟩
theorem d_Builder_makeCells_105 : DC m_Builder_makeCells 105 (.iconst 1) 1 106 := ⟨by decide +kernel, rfl⟩
theorem d_Builder_makeCells_106 : DC m_Builder_makeCells 106 (.iload 5) 2 108 := ⟨by decide +kernel, rfl⟩
theorem d_Builder_makeCells_108 : DC m_Builder_makeCells 108 .ishl 1 109 := ⟨by decide +kernel, rfl⟩
theorem d_Builder_makeCells_109 : DC m_Builder_makeCells 109 (.iconst 1) 1 110 := ⟨by decide +kernel, rfl⟩
theorem d_Builder_makeCells_110 : DC m_Builder_makeCells 110 (.iload 5) 2 112 := ⟨by decide +kernel, rfl⟩
theorem d_Builder_makeCells_112 : DC m_Builder_makeCells 112 (.iconst 1) 1 113 := ⟨by decide +kernel, rfl⟩
theorem d_Builder_makeCells_113 : DC m_Builder_makeCells 113 .iadd 1 114 := ⟨by decide +kernel, rfl⟩
theorem d_Builder_makeCells_114 : DC m_Builder_makeCells 114 (.iconst 3) 1 115 := ⟨by decide +kernel, rfl⟩
theorem d_Builder_makeCells_115 : DC m_Builder_makeCells 115 .iand 1 116 := ⟨by decide +kernel, rfl⟩
theorem d_Builder_makeCells_116 : DC m_Builder_makeCells 116 .ishl 1 117 := ⟨by decide +kernel, rfl⟩
theorem d_Builder_makeCells_117 : DC m_Builder_makeCells 117 .ior 1 118 := ⟨by decide +kernel, rfl⟩
theorem d_Builder_makeCells_118 : DC m_Builder_makeCells 118 (.istore 6) 2 120 := ⟨by decide +kernel, rfl⟩
theorem d_Builder_makeCells_120 : DC m_Builder_makeCells 120 (.aload_n 1) 1 121 := ⟨by decide +kernel, rfl⟩
theorem d_Builder_makeCells_121 : DC m_Builder_makeCells 121 (.iload_n 3) 1 122 := ⟨by decide +kernel, rfl⟩
theorem d_Builder_makeCells_122 : DC m_Builder_makeCells 122 (.iload 4) 2 124 := ⟨by decide +kernel, rfl⟩
theorem d_Builder_makeCells_124 : DC m_Builder_makeCells 124 (.iload_n 2) 1 125 := ⟨by decide +kernel, rfl⟩
theorem d_Builder_makeCells_125 : DC m_Builder_makeCells 125 (.bipush 18) 2 127 := ⟨by decide +kernel, rfl⟩
theorem d_Builder_makeCells_127 : DC m_Builder_makeCells 127 (.if_icmp .ne 8) 3 130 := ⟨by decide +kernel, rfl⟩
theorem d_Builder_makeCells_130 : DC m_Builder_makeCells 130 (.iload 6) 2 132 := ⟨by decide +kernel, rfl⟩
theorem d_Builder_makeCells_132 : DC m_Builder_makeCells 132 (.goto 7) 3 135 := ⟨by decide +kernel, rfl⟩
theorem d_Builder_makeCells_135 : DC m_Builder_makeCells 135 (.iconst 1) 1 136 := ⟨by decide +kernel, rfl⟩
theorem d_Builder_makeCells_136 : DC m_Builder_makeCells 136 (.iload 5) 2 138 := ⟨by decide +kernel, rfl⟩
theorem d_Builder_makeCells_138 : DC m_Builder_makeCells 138 .ishl 1 139 := ⟨by decide +kernel, rfl⟩
theorem d_Builder_makeCells_139 : DC m_Builder_makeCells 139 (.invokevirtual 149) 3 142 := ⟨by decide +kernel, rfl⟩
theorem d_Builder_makeCells_142 : DC m_Builder_makeCells 142 (.aload_n 0) 1 143 := ⟨by decide +kernel, rfl⟩
theorem d_Builder_makeCells_143 : DC m_Builder_makeCells 143 .dup 1 144 := ⟨by decide +kernel, rfl⟩
theorem d_Builder_makeCells_144 : DC m_Builder_makeCells 144 (.getfield 54) 3 147 := ⟨by decide +kernel, rfl⟩
theorem d_Builder_makeCells_147 : DC m_Builder_makeCells 147 (.iconst 4) 1 148 := ⟨by decide +kernel, rfl⟩
theorem d_Builder_makeCells_148 : DC m_Builder_makeCells 148 .iadd 1 149 := ⟨by decide +kernel, rfl⟩
theorem d_Builder_makeCells_149 : DC m_Builder_makeCells 149 (.putfield 54) 3 152 := ⟨by decide +kernel, rfl⟩
theorem d_Builder_makeCells_152 : DC m_Builder_makeCells 152 .return_ 1 153 := ⟨by decide +kernel, rfl⟩
def f_Builder_makeCells_139 (n : Nat) (x0 : Nat) (s0 : Nat) (s1 : Int32) (s2 : Int32) (s3 : Int32) (M : MM) : Option (MM) :=
  (f_Shape_addCell n s0 s1 s2 s3 M).bind fun M1 =>
  (gI 1 10 x0 M1).bind fun v2 =>
  (pI 1 10 x0 (v2 + 4) M1).bind fun M3 =>
  some M3
theorem t_Builder_makeCells_139 (n : Nat) (x0 : Nat) (s0 : Nat) (s1 : Int32) (s2 : Int32) (s3 : Int32) (M : MM) (z : MM) (h : f_Builder_makeCells_139 n x0 s0 s1 s2 s3 M = some z) : EV m_Builder_makeCells (rm 3 0 0) none z 0 0 139 [some (.ref x0), none, none, none, none, none, none] [.int s3, .int s2, .int s1, .ref s0] M := by
  unfold f_Builder_makeCells_139 at h
  obtain ⟨M1, hM1, h⟩ := bnd h
  refine e_cVv (mt1 := m_Shape_addCell) (As := [.int s1, .int s2, .int s3]) (st := []) d_Builder_makeCells_139 ml_Builder_149 mv_Shape_addCell (t_Shape_addCell n s0 s1 s2 s3 M M1 hM1) (fc_Shape_addCell hM1) rfl rfl rfl (okp rfl) (okp rfl) (okp rfl) (Nat.le_refl _) (Nat.le_refl _) ?_
  refine e_aload_n d_Builder_makeCells_142 rfl ?_
  refine e_dup d_Builder_makeCells_143 rfl ?_
  obtain ⟨v2, hv2, h⟩ := bnd h
  refine e_getI d_Builder_makeCells_144 fl_Builder_54 (fun _ _ _ => rfl) hv2 ?_
  refine e_iconst (v := 4) d_Builder_makeCells_147 (by decide) ?_
  refine e_iadd d_Builder_makeCells_148 ?_
  obtain ⟨M3, hM3, h⟩ := bnd h
  refine e_putI d_Builder_makeCells_149 fl_Builder_54 (Or.inl rfl) (fun _ _ _ => rfl) rfl hM3 ?_
  cases h
  exact e_vret d_Builder_makeCells_152 rfl (Nat.le_refl _) (Nat.le_refl _)
def f_Builder_makeCells (n : Nat) (x0 : Nat) (x1 : Nat) (x2 : Int32) (M : MM) : Option (MM) :=
  og 1 x0 M <|
  (gI 1 10 x0 M).bind fun v4 =>
  (f_Builder_numberAt n x0 (v4 + 1) M).bind fun p5 =>
  (gI 1 10 x0 p5.2).bind fun v6 =>
  (f_Builder_numberAt n x0 (v6 + 2) p5.2).bind fun p7 =>
  (gI 1 10 x0 p7.2).bind fun v8 =>
  (f_Builder_numberAt n x0 (v8 + 3) p7.2).bind fun p9 =>
  (f_Shape_clear n x1 p9.2).bind fun M10 =>
  if x2 = 16 then
    (f_Shape_addCell n x1 p5.1 p7.1 15 M10).bind fun M12 =>
    (gI 1 10 x0 M12).bind fun v13 =>
    (pI 1 10 x0 (v13 + 3) M12).bind fun M14 =>
    some M14
  else
    if x2 = 17 then
      (gI 1 10 x0 M10).bind fun v16 =>
      (f_Builder_numberAt n x0 (v16 + 4) M10).bind fun p17 =>
      (f_Builder_addBox n x1 p5.1 p7.1 p9.1 p17.1 p17.2).bind fun M18 =>
      (gI 1 10 x0 M18).bind fun v19 =>
      (pI 1 10 x0 (v19 + 5) M18).bind fun M20 =>
      some M20
    else
      nm (α := Int32) ((ishl 1 p9.1) ||| (ishl 1 ((p9.1 + 1) &&& 3))) fun y21 =>
      if x2 = 18 then
        f_Builder_makeCells_139 n x0 x1 p5.1 p7.1 y21 M10
      else
        f_Builder_makeCells_139 n x0 x1 p5.1 p7.1 (ishl 1 p9.1) M10
theorem fc_Builder_makeCells {n : Nat} {x0 : Nat} {x1 : Nat} {x2 : Int32} {M : MM} {z : MM} (h : f_Builder_makeCells n x0 x1 x2 M = some z) : (M.1.2.1 x0).1 = 1 := by
  unfold f_Builder_makeCells at h
  exact (og_s h).1
theorem t_Builder_makeCells (n : Nat) (x0 : Nat) (x1 : Nat) (x2 : Int32) (M : MM) (z : MM) (h : f_Builder_makeCells n x0 x1 x2 M = some z) : CT m_Builder_makeCells (rm 3 0 0) [.ref x0, .ref x1, .int x2] M none z := by
  unfold f_Builder_makeCells at h
  obtain ⟨hthis, h⟩ := og_s h
  refine CT.of (ls := [some (.ref x0), some (.ref x1), some (.int x2), none, none, none, none]) rfl (okp rfl) rfl ?_
  refine e_aload_n d_Builder_makeCells_0 rfl ?_
  refine e_aload_n d_Builder_makeCells_1 rfl ?_
  obtain ⟨v4, hv4, h⟩ := bnd h
  refine e_getI d_Builder_makeCells_2 fl_Builder_54 (fun _ _ _ => rfl) hv4 ?_
  refine e_iconst (v := 1) d_Builder_makeCells_5 (by decide) ?_
  refine e_iadd d_Builder_makeCells_6 ?_
  obtain ⟨p5, hp5, h⟩ := bnd h
  refine e_cVi (mt1 := m_Builder_numberAt) (As := [.int (v4 + 1)]) (st := []) d_Builder_makeCells_7 ml_Builder_127 mv_Builder_numberAt (t_Builder_numberAt n x0 (v4 + 1) M p5 hp5) (fc_Builder_numberAt hp5) rfl rfl rfl (okp rfl) (okp rfl) (okp rfl) (Nat.le_refl _) (Nat.le_refl _) ?_
  refine e_istore_n (l2 := [some (.ref x0), some (.ref x1), some (.int x2), some (.int p5.1), none, none, none]) d_Builder_makeCells_10 rfl (okl rfl) rfl ?_
  refine e_aload_n d_Builder_makeCells_11 rfl ?_
  refine e_aload_n d_Builder_makeCells_12 rfl ?_
  obtain ⟨v6, hv6, h⟩ := bnd h
  refine e_getI d_Builder_makeCells_13 fl_Builder_54 (fun _ _ _ => rfl) hv6 ?_
  refine e_iconst (v := 2) d_Builder_makeCells_16 (by decide) ?_
  refine e_iadd d_Builder_makeCells_17 ?_
  obtain ⟨p7, hp7, h⟩ := bnd h
  refine e_cVi (mt1 := m_Builder_numberAt) (As := [.int (v6 + 2)]) (st := []) d_Builder_makeCells_18 ml_Builder_127 mv_Builder_numberAt (t_Builder_numberAt n x0 (v6 + 2) p5.2 p7 hp7) (fc_Builder_numberAt hp7) rfl rfl rfl (okp rfl) (okp rfl) (okp rfl) (Nat.le_refl _) (Nat.le_refl _) ?_
  refine e_istore (l2 := [some (.ref x0), some (.ref x1), some (.int x2), some (.int p5.1), some (.int p7.1), none, none]) d_Builder_makeCells_21 rfl (okl rfl) rfl ?_
  refine e_aload_n d_Builder_makeCells_23 rfl ?_
  refine e_aload_n d_Builder_makeCells_24 rfl ?_
  obtain ⟨v8, hv8, h⟩ := bnd h
  refine e_getI d_Builder_makeCells_25 fl_Builder_54 (fun _ _ _ => rfl) hv8 ?_
  refine e_iconst (v := 3) d_Builder_makeCells_28 (by decide) ?_
  refine e_iadd d_Builder_makeCells_29 ?_
  obtain ⟨p9, hp9, h⟩ := bnd h
  refine e_cVi (mt1 := m_Builder_numberAt) (As := [.int (v8 + 3)]) (st := []) d_Builder_makeCells_30 ml_Builder_127 mv_Builder_numberAt (t_Builder_numberAt n x0 (v8 + 3) p7.2 p9 hp9) (fc_Builder_numberAt hp9) rfl rfl rfl (okp rfl) (okp rfl) (okp rfl) (Nat.le_refl _) (Nat.le_refl _) ?_
  refine e_istore (l2 := [some (.ref x0), some (.ref x1), some (.int x2), some (.int p5.1), some (.int p7.1), some (.int p9.1), none]) d_Builder_makeCells_33 rfl (okl rfl) rfl ?_
  refine e_aload_n d_Builder_makeCells_35 rfl ?_
  obtain ⟨M10, hM10, h⟩ := bnd h
  refine e_cVv (mt1 := m_Shape_clear) (As := []) (st := []) d_Builder_makeCells_36 ml_Builder_146 mv_Shape_clear (t_Shape_clear n x1 p9.2 M10 hM10) (fc_Shape_clear hM10) rfl rfl rfl (okp rfl) (okp rfl) (okp rfl) (Nat.le_refl _) (Nat.le_refl _) ?_
  refine e_iload_n d_Builder_makeCells_39 rfl ?_
  refine e_bipush (v := 16) d_Builder_makeCells_40 (by decide) ?_
  refine e_ic_ne 67 d_Builder_makeCells_42 (by decide) (fun c11 => ?_) (fun c11 => ?_)
  · replace h := ifn c11 h
    refine e_iload_n d_Builder_makeCells_67 rfl ?_
    refine e_bipush (v := 17) d_Builder_makeCells_68 (by decide) ?_
    refine e_ic_ne 105 d_Builder_makeCells_70 (by decide) (fun c15 => ?_) (fun c15 => ?_)
    · replace h := ifn c15 h
      refine e_iconst (v := 1) d_Builder_makeCells_105 (by decide) ?_
      refine e_iload d_Builder_makeCells_106 rfl ?_
      refine e_ishl d_Builder_makeCells_108 ?_
      refine e_iconst (v := 1) d_Builder_makeCells_109 (by decide) ?_
      refine e_iload d_Builder_makeCells_110 rfl ?_
      refine e_iconst (v := 1) d_Builder_makeCells_112 (by decide) ?_
      refine e_iadd d_Builder_makeCells_113 ?_
      refine e_iconst (v := 3) d_Builder_makeCells_114 (by decide) ?_
      refine e_iand d_Builder_makeCells_115 ?_
      refine e_ishl d_Builder_makeCells_116 ?_
      refine e_ior d_Builder_makeCells_117 ?_
      obtain ⟨y21, ey21, h⟩ := nm_s h
      refine e_nameI ey21 ?_
      refine e_istore (l2 := [some (.ref x0), some (.ref x1), some (.int x2), some (.int p5.1), some (.int p7.1), some (.int p9.1), some (.int y21)]) d_Builder_makeCells_118 rfl (okl rfl) rfl ?_
      refine e_aload_n d_Builder_makeCells_120 rfl ?_
      refine e_iload_n d_Builder_makeCells_121 rfl ?_
      refine e_iload d_Builder_makeCells_122 rfl ?_
      refine e_iload_n d_Builder_makeCells_124 rfl ?_
      refine e_bipush (v := 18) d_Builder_makeCells_125 (by decide) ?_
      refine e_ic_ne 135 d_Builder_makeCells_127 (by decide) (fun c22 => ?_) (fun c22 => ?_)
      · replace h := ifn c22 h
        refine e_iconst (v := 1) d_Builder_makeCells_135 (by decide) ?_
        refine e_iload d_Builder_makeCells_136 rfl ?_
        refine e_ishl d_Builder_makeCells_138 ?_
        exact (t_Builder_makeCells_139 n x0 x1 p5.1 p7.1 (ishl 1 p9.1) M10 z h).less (show LSub _ _ from ⟨rfl, trivial⟩)
      · replace h := ift c22 h
        refine e_iload d_Builder_makeCells_130 rfl ?_
        refine e_goto 139 d_Builder_makeCells_132 (by decide) ?_
        exact (t_Builder_makeCells_139 n x0 x1 p5.1 p7.1 y21 M10 z h).less (show LSub _ _ from ⟨rfl, trivial⟩)
    · replace h := ift c15 h
      refine e_aload_n d_Builder_makeCells_73 rfl ?_
      refine e_iload_n d_Builder_makeCells_74 rfl ?_
      refine e_iload d_Builder_makeCells_75 rfl ?_
      refine e_iload d_Builder_makeCells_77 rfl ?_
      refine e_aload_n d_Builder_makeCells_79 rfl ?_
      refine e_aload_n d_Builder_makeCells_80 rfl ?_
      obtain ⟨v16, hv16, h⟩ := bnd h
      refine e_getI d_Builder_makeCells_81 fl_Builder_54 (fun _ _ _ => rfl) hv16 ?_
      refine e_iconst (v := 4) d_Builder_makeCells_84 (by decide) ?_
      refine e_iadd d_Builder_makeCells_85 ?_
      obtain ⟨p17, hp17, h⟩ := bnd h
      refine e_cVi (mt1 := m_Builder_numberAt) (As := [.int (v16 + 4)]) (st := [.int p9.1, .int p7.1, .int p5.1, .ref x1]) d_Builder_makeCells_86 ml_Builder_127 mv_Builder_numberAt (t_Builder_numberAt n x0 (v16 + 4) M10 p17 hp17) (fc_Builder_numberAt hp17) rfl rfl rfl (okp rfl) (okp rfl) (okp rfl) (Nat.le_refl _) (Nat.le_refl _) ?_
      obtain ⟨M18, hM18, h⟩ := bnd h
      refine e_cSv (mt1 := m_Builder_addBox) (As := [.ref x1, .int p5.1, .int p7.1, .int p9.1, .int p17.1]) (st := []) d_Builder_makeCells_89 ml_Builder_153 ms_Builder_addBox (t_Builder_addBox n x1 p5.1 p7.1 p9.1 p17.1 p17.2 M18 hM18) rfl rfl (okp rfl) (okp rfl) (okp rfl) (Nat.le_refl _) (Nat.le_refl _) ?_
      refine e_aload_n d_Builder_makeCells_92 rfl ?_
      refine e_dup d_Builder_makeCells_93 rfl ?_
      obtain ⟨v19, hv19, h⟩ := bnd h
      refine e_getI d_Builder_makeCells_94 fl_Builder_54 (fun _ _ _ => rfl) hv19 ?_
      refine e_iconst (v := 5) d_Builder_makeCells_97 (by decide) ?_
      refine e_iadd d_Builder_makeCells_98 ?_
      obtain ⟨M20, hM20, h⟩ := bnd h
      refine e_putI d_Builder_makeCells_99 fl_Builder_54 (Or.inl rfl) (fun _ _ _ => rfl) rfl hM20 ?_
      refine e_goto 152 d_Builder_makeCells_102 (by decide) ?_
      cases h
      exact e_vret d_Builder_makeCells_152 rfl (Nat.le_refl _) (Nat.le_refl _)
  · replace h := ift c11 h
    refine e_aload_n d_Builder_makeCells_45 rfl ?_
    refine e_iload_n d_Builder_makeCells_46 rfl ?_
    refine e_iload d_Builder_makeCells_47 rfl ?_
    refine e_bipush (v := 15) d_Builder_makeCells_49 (by decide) ?_
    obtain ⟨M12, hM12, h⟩ := bnd h
    refine e_cVv (mt1 := m_Shape_addCell) (As := [.int p5.1, .int p7.1, .int 15]) (st := []) d_Builder_makeCells_51 ml_Builder_149 mv_Shape_addCell (t_Shape_addCell n x1 p5.1 p7.1 15 M10 M12 hM12) (fc_Shape_addCell hM12) rfl rfl rfl (okp rfl) (okp rfl) (okp rfl) (Nat.le_refl _) (Nat.le_refl _) ?_
    refine e_aload_n d_Builder_makeCells_54 rfl ?_
    refine e_dup d_Builder_makeCells_55 rfl ?_
    obtain ⟨v13, hv13, h⟩ := bnd h
    refine e_getI d_Builder_makeCells_56 fl_Builder_54 (fun _ _ _ => rfl) hv13 ?_
    refine e_iconst (v := 3) d_Builder_makeCells_59 (by decide) ?_
    refine e_iadd d_Builder_makeCells_60 ?_
    obtain ⟨M14, hM14, h⟩ := bnd h
    refine e_putI d_Builder_makeCells_61 fl_Builder_54 (Or.inl rfl) (fun _ _ _ => rfl) rfl hM14 ?_
    refine e_goto 152 d_Builder_makeCells_64 (by decide) ?_
    cases h
    exact e_vret d_Builder_makeCells_152 rfl (Nat.le_refl _) (Nat.le_refl _)
theorem d_Builder_makeUnit_0 : DC m_Builder_makeUnit 0 (.aload_n 0) 1 1 := ⟨by decide +kernel, rfl⟩
theorem d_Builder_makeUnit_1 : DC m_Builder_makeUnit 1 (.getfield 39) 3 4 := ⟨by decide +kernel, rfl⟩
theorem d_Builder_makeUnit_4 : DC m_Builder_makeUnit 4 (.iload_n 1) 1 5 := ⟨by decide +kernel, rfl⟩
theorem d_Builder_makeUnit_5 : DC m_Builder_makeUnit 5 .aaload 1 6 := ⟨by decide +kernel, rfl⟩
theorem d_Builder_makeUnit_6 : DC m_Builder_makeUnit 6 (.astore_n 2) 1 7 := ⟨by decide +kernel, rfl⟩
theorem d_Builder_makeUnit_7 : DC m_Builder_makeUnit 7 (.aload_n 0) 1 8 := ⟨by decide +kernel, rfl⟩
theorem d_Builder_makeUnit_8 : DC m_Builder_makeUnit 8 (.getfield 12) 3 11 := ⟨by decide +kernel, rfl⟩
theorem d_Builder_makeUnit_11 : DC m_Builder_makeUnit 11 (.aload_n 0) 1 12 := ⟨by decide +kernel, rfl⟩
theorem d_Builder_makeUnit_12 : DC m_Builder_makeUnit 12 (.getfield 54) 3 15 := ⟨by decide +kernel, rfl⟩
theorem d_Builder_makeUnit_15 : DC m_Builder_makeUnit 15 (.invokevirtual 58) 3 18 := ⟨by decide +kernel, rfl⟩
theorem d_Builder_makeUnit_18 : DC m_Builder_makeUnit 18 (.istore_n 3) 1 19 := ⟨by decide +kernel, rfl⟩
theorem d_Builder_makeUnit_19 : DC m_Builder_makeUnit 19 (.iload_n 3) 1 20 := ⟨by decide +kernel, rfl⟩
theorem d_Builder_makeUnit_20 : DC m_Builder_makeUnit 20 (.bipush 40) 2 22 := ⟨by decide +kernel, rfl⟩
theorem d_Builder_makeUnit_22 : DC m_Builder_makeUnit 22 (.if_icmp .ne 53) 3 25 := ⟨by decide +kernel, rfl⟩
theorem d_Builder_makeUnit_25 : DC m_Builder_makeUnit 25 (.aload_n 0) 1 26 := ⟨by decide +kernel, rfl⟩
theorem d_Builder_makeUnit_26 : DC m_Builder_makeUnit 26 .dup 1 27 := ⟨by decide +kernel, rfl⟩
theorem d_Builder_makeUnit_27 : DC m_Builder_makeUnit 27 (.getfield 54) 3 30 := ⟨by decide +kernel, rfl⟩
theorem d_Builder_makeUnit_30 : DC m_Builder_makeUnit 30 (.iconst 1) 1 31 := ⟨by decide +kernel, rfl⟩
theorem d_Builder_makeUnit_31 : DC m_Builder_makeUnit 31 .iadd 1 32 := ⟨by decide +kernel, rfl⟩
theorem d_Builder_makeUnit_32 : DC m_Builder_makeUnit 32 (.putfield 54) 3 35 := ⟨by decide +kernel, rfl⟩
theorem d_Builder_makeUnit_35 : DC m_Builder_makeUnit 35 (.aload_n 0) 1 36 := ⟨by decide +kernel, rfl⟩
theorem d_Builder_makeUnit_36 : DC m_Builder_makeUnit 36 (.iload_n 1) 1 37 := ⟨by decide +kernel, rfl⟩
theorem d_Builder_makeUnit_37 : DC m_Builder_makeUnit 37 (.iconst 1) 1 38 := ⟨by decide +kernel, rfl⟩
theorem d_Builder_makeUnit_38 : DC m_Builder_makeUnit 38 .iadd 1 39 := ⟨by decide +kernel, rfl⟩
theorem d_Builder_makeUnit_39 : DC m_Builder_makeUnit 39 (.invokevirtual 66) 3 42 := ⟨by decide +kernel, rfl⟩
theorem d_Builder_makeUnit_42 : DC m_Builder_makeUnit 42 (.iload_n 1) 1 43 := ⟨by decide +kernel, rfl⟩
theorem d_Builder_makeUnit_43 : DC m_Builder_makeUnit 43 (.iconst 1) 1 44 := ⟨by decide +kernel, rfl⟩
theorem d_Builder_makeUnit_44 : DC m_Builder_makeUnit 44 .iadd 1 45 := ⟨by decide +kernel, rfl⟩
theorem d_Builder_makeUnit_45 : DC m_Builder_makeUnit 45 (.bipush 7) 2 47 := ⟨by decide +kernel, rfl⟩
theorem d_Builder_makeUnit_47 : DC m_Builder_makeUnit 47 (.if_icmp .ge 15) 3 50 := ⟨by decide +kernel, rfl⟩
theorem d_Builder_makeUnit_50 : DC m_Builder_makeUnit 50 (.aload_n 2) 1 51 := ⟨by decide +kernel, rfl⟩
theorem d_Builder_makeUnit_51 : DC m_Builder_makeUnit 51 (.aload_n 0) 1 52 := ⟨by decide +kernel, rfl⟩
theorem d_Builder_makeUnit_52 : DC m_Builder_makeUnit 52 (.getfield 36) 3 55 := ⟨by decide +kernel, rfl⟩
theorem d_Builder_makeUnit_55 : DC m_Builder_makeUnit 55 (.iload_n 1) 1 56 := ⟨by decide +kernel, rfl⟩
theorem d_Builder_makeUnit_56 : DC m_Builder_makeUnit 56 (.iconst 1) 1 57 := ⟨by decide +kernel, rfl⟩
theorem d_Builder_makeUnit_57 : DC m_Builder_makeUnit 57 .iadd 1 58 := ⟨by decide +kernel, rfl⟩
theorem d_Builder_makeUnit_58 : DC m_Builder_makeUnit 58 .aaload 1 59 := ⟨by decide +kernel, rfl⟩
theorem d_Builder_makeUnit_59 : DC m_Builder_makeUnit 59 (.invokevirtual 81) 3 62 := ⟨by decide +kernel, rfl⟩
theorem d_Builder_makeUnit_62 : DC m_Builder_makeUnit 62 (.aload_n 0) 1 63 := ⟨by decide +kernel, rfl⟩
theorem d_Builder_makeUnit_63 : DC m_Builder_makeUnit 63 .dup 1 64 := ⟨by decide +kernel, rfl⟩
theorem d_Builder_makeUnit_64 : DC m_Builder_makeUnit 64 (.getfield 54) 3 67 := ⟨by decide +kernel, rfl⟩
theorem d_Builder_makeUnit_67 : DC m_Builder_makeUnit 67 (.iconst 1) 1 68 := ⟨by decide +kernel, rfl⟩
theorem d_Builder_makeUnit_68 : DC m_Builder_makeUnit 68 .iadd 1 69 := ⟨by decide +kernel, rfl⟩
theorem d_Builder_makeUnit_69 : DC m_Builder_makeUnit 69 (.putfield 54) 3 72 := ⟨by decide +kernel, rfl⟩
theorem d_Builder_makeUnit_72 : DC m_Builder_makeUnit 72 (.goto 43) 3 75 := ⟨by decide +kernel, rfl⟩
theorem d_Builder_makeUnit_75 : DC m_Builder_makeUnit 75 (.iload_n 3) 1 76 := ⟨by decide +kernel, rfl⟩
theorem d_Builder_makeUnit_76 : DC m_Builder_makeUnit 76 (.iconst 2) 1 77 := ⟨by decide +kernel, rfl⟩
theorem d_Builder_makeUnit_77 : DC m_Builder_makeUnit 77 (.if_icmp .ne 32) 3 80 := ⟨by decide +kernel, rfl⟩
theorem d_Builder_makeUnit_80 : DC m_Builder_makeUnit 80 (.aload_n 0) 1 81 := ⟨by decide +kernel, rfl⟩
theorem d_Builder_makeUnit_81 : DC m_Builder_makeUnit 81 (.aload_n 2) 1 82 := ⟨by decide +kernel, rfl⟩
theorem d_Builder_makeUnit_82 : DC m_Builder_makeUnit 82 (.aload_n 0) 1 83 := ⟨by decide +kernel, rfl⟩
theorem d_Builder_makeUnit_83 : DC m_Builder_makeUnit 83 (.getfield 12) 3 86 := ⟨by decide +kernel, rfl⟩
theorem d_Builder_makeUnit_86 : DC m_Builder_makeUnit 86 (.aload_n 0) 1 87 := ⟨by decide +kernel, rfl⟩
theorem d_Builder_makeUnit_87 : DC m_Builder_makeUnit 87 (.getfield 54) 3 90 := ⟨by decide +kernel, rfl⟩
theorem d_Builder_makeUnit_90 : DC m_Builder_makeUnit 90 (.invokevirtual 62) 3 93 := ⟨by decide +kernel, rfl⟩
theorem d_Builder_makeUnit_93 : DC m_Builder_makeUnit 93 (.invokevirtual 138) 3 96 := ⟨by decide +kernel, rfl⟩
theorem d_Builder_makeUnit_96 : DC m_Builder_makeUnit 96 (.aload_n 0) 1 97 := ⟨by decide +kernel, rfl⟩
theorem d_Builder_makeUnit_97 : DC m_Builder_makeUnit 97 .dup 1 98 := ⟨by decide +kernel, rfl⟩
theorem d_Builder_makeUnit_98 : DC m_Builder_makeUnit 98 (.getfield 54) 3 101 := ⟨by decide +kernel, rfl⟩
theorem d_Builder_makeUnit_101 : DC m_Builder_makeUnit 101 (.iconst 1) 1 102 := ⟨by decide +kernel, rfl⟩
theorem d_Builder_makeUnit_102 : DC m_Builder_makeUnit 102 .iadd 1 103 := ⟨by decide +kernel, rfl⟩
theorem d_Builder_makeUnit_103 : DC m_Builder_makeUnit 103 (.putfield 54) 3 106 := ⟨by decide +kernel, rfl⟩
theorem d_Builder_makeUnit_106 : DC m_Builder_makeUnit 106 (.goto 9) 3 109 := ⟨by decide +kernel, rfl⟩
theorem d_Builder_makeUnit_109 : DC m_Builder_makeUnit 109 (.aload_n 0) 1 110 := ⟨by decide +kernel, rfl⟩
theorem d_Builder_makeUnit_110 : DC m_Builder_makeUnit 110 (.aload_n 2) 1 111 := ⟨by decide +kernel, rfl⟩
theorem d_Builder_makeUnit_111 : DC m_Builder_makeUnit 111 (.iload_n 3) 1 112 := ⟨by decide +kernel, rfl⟩
theorem d_Builder_makeUnit_112 : DC m_Builder_makeUnit 112 (.invokevirtual 142) 3 115 := ⟨by decide +kernel, rfl⟩
theorem d_Builder_makeUnit_115 : DC m_Builder_makeUnit 115 .return_ 1 116 := ⟨by decide +kernel, rfl⟩
def f_Builder_makeUnit_62 (n : Nat) (r_Builder_sumUp : Nat → Int32 → MM → Option (MM)) (x0 : Nat) (M : MM) : Option (MM) :=
  (gI 1 10 x0 M).bind fun v1 =>
  (pI 1 10 x0 (v1 + 1) M).bind fun M2 =>
  some M2
theorem t_Builder_makeUnit_62 (n : Nat) (d : Nat) {r_Builder_sumUp : Nat → Int32 → MM → Option (MM)} (hr_Builder_sumUp : ∀ (x0 : Nat) (x1 : Int32) (M : MM) (z : MM), r_Builder_sumUp x0 x1 M = some z → CT m_Builder_sumUp (rm d 0 0) [.ref x0, .int x1] M none z) (hb_Builder_sumUp : ∀ (x0 : Nat) (x1 : Int32) (M : MM) (z : MM), r_Builder_sumUp x0 x1 M = some z → (M.1.2.1 x0).1 = 1) (x0 : Nat) (M : MM) (z : MM) (h : f_Builder_makeUnit_62 n r_Builder_sumUp x0 M = some z) : EV m_Builder_makeUnit (rm (d + 4) 0 0) none z 0 0 62 [some (.ref x0), none, none, none] [] M := by
  unfold f_Builder_makeUnit_62 at h
  refine e_aload_n d_Builder_makeUnit_62 rfl ?_
  refine e_dup d_Builder_makeUnit_63 rfl ?_
  obtain ⟨v1, hv1, h⟩ := bnd h
  refine e_getI d_Builder_makeUnit_64 fl_Builder_54 (fun _ _ _ => rfl) hv1 ?_
  refine e_iconst (v := 1) d_Builder_makeUnit_67 (by decide) ?_
  refine e_iadd d_Builder_makeUnit_68 ?_
  obtain ⟨M2, hM2, h⟩ := bnd h
  refine e_putI d_Builder_makeUnit_69 fl_Builder_54 (Or.inl rfl) (fun _ _ _ => rfl) rfl hM2 ?_
  refine e_goto 115 d_Builder_makeUnit_72 (by decide) ?_
  cases h
  exact e_vret d_Builder_makeUnit_115 rfl (Nat.le_refl _) (Nat.le_refl _)
def f_Builder_makeUnit (n : Nat) (r_Builder_sumUp : Nat → Int32 → MM → Option (MM)) (x0 : Nat) (x1 : Int32) (M : MM) : Option (MM) :=
  og 1 x0 M <|
  (gR 1 5 x0 M).bind fun v3 =>
  (aR 104 v3 x1 M).bind fun v4 =>
  (gR 1 9 x0 M).bind fun v5 =>
  (gI 1 10 x0 M).bind fun v6 =>
  (f_Tokens_kindAt n v5 v6 M).bind fun p7 =>
  if p7.1 = 40 then
    (gI 1 10 x0 p7.2).bind fun v9 =>
    (pI 1 10 x0 (v9 + 1) p7.2).bind fun M10 =>
    (r_Builder_sumUp x0 (x1 + 1) M10).bind fun M11 =>
    if 7 ≤ (x1 + 1) then
      f_Builder_makeUnit_62 n r_Builder_sumUp x0 M11
    else
      (gR 1 4 x0 M11).bind fun v13 =>
      (aR 104 v13 (x1 + 1) M11).bind fun v14 =>
      (f_Shape_copy n v4 v14 M11).bind fun M15 =>
      f_Builder_makeUnit_62 n r_Builder_sumUp x0 M15
  else
    if p7.1 = 2 then
      (gR 1 9 x0 p7.2).bind fun v17 =>
      (gI 1 10 x0 p7.2).bind fun v18 =>
      (f_Tokens_valueAt n v17 v18 p7.2).bind fun p19 =>
      (f_Builder_copyNamed n x0 v4 p19.1 p19.2).bind fun M20 =>
      (gI 1 10 x0 M20).bind fun v21 =>
      (pI 1 10 x0 (v21 + 1) M20).bind fun M22 =>
      some M22
    else
      (f_Builder_makeCells n x0 v4 p7.1 p7.2).bind fun M23 =>
      some M23
theorem fc_Builder_makeUnit {n : Nat} {r_Builder_sumUp : Nat → Int32 → MM → Option (MM)} {x0 : Nat} {x1 : Int32} {M : MM} {z : MM} (h : f_Builder_makeUnit n r_Builder_sumUp x0 x1 M = some z) : (M.1.2.1 x0).1 = 1 := by
  unfold f_Builder_makeUnit at h
  exact (og_s h).1
theorem t_Builder_makeUnit (n : Nat) (d : Nat) {r_Builder_sumUp : Nat → Int32 → MM → Option (MM)} (hr_Builder_sumUp : ∀ (x0 : Nat) (x1 : Int32) (M : MM) (z : MM), r_Builder_sumUp x0 x1 M = some z → CT m_Builder_sumUp (rm d 0 0) [.ref x0, .int x1] M none z) (hb_Builder_sumUp : ∀ (x0 : Nat) (x1 : Int32) (M : MM) (z : MM), r_Builder_sumUp x0 x1 M = some z → (M.1.2.1 x0).1 = 1) (x0 : Nat) (x1 : Int32) (M : MM) (z : MM) (h : f_Builder_makeUnit n r_Builder_sumUp x0 x1 M = some z) : CT m_Builder_makeUnit (rm (d + 4) 0 0) [.ref x0, .int x1] M none z := by
  unfold f_Builder_makeUnit at h
  obtain ⟨hthis, h⟩ := og_s h
  refine CT.of (ls := [some (.ref x0), some (.int x1), none, none]) rfl (okp rfl) rfl ?_
  refine e_aload_n d_Builder_makeUnit_0 rfl ?_
  obtain ⟨v3, hv3, h⟩ := bnd h
  refine e_getR d_Builder_makeUnit_1 fl_Builder_39 (fun _ _ _ => rfl) hv3 ?_
  refine e_iload_n d_Builder_makeUnit_4 rfl ?_
  obtain ⟨v4, hv4, h⟩ := bnd h
  refine e_aald (kd := 104) d_Builder_makeUnit_5 (by decide) hv4 ?_
  refine e_astore_n (l2 := [some (.ref x0), some (.int x1), some (.ref v4), none]) d_Builder_makeUnit_6 rfl (okl rfl) rfl ?_
  refine e_aload_n d_Builder_makeUnit_7 rfl ?_
  obtain ⟨v5, hv5, h⟩ := bnd h
  refine e_getR d_Builder_makeUnit_8 fl_Builder_12 (fun _ _ _ => rfl) hv5 ?_
  refine e_aload_n d_Builder_makeUnit_11 rfl ?_
  obtain ⟨v6, hv6, h⟩ := bnd h
  refine e_getI d_Builder_makeUnit_12 fl_Builder_54 (fun _ _ _ => rfl) hv6 ?_
  obtain ⟨p7, hp7, h⟩ := bnd h
  refine e_cVi (mt1 := m_Tokens_kindAt) (As := [.int v6]) (st := []) d_Builder_makeUnit_15 ml_Builder_58 mv_Tokens_kindAt (t_Tokens_kindAt n v5 v6 M p7 hp7) (fc_Tokens_kindAt hp7) rfl rfl rfl (okp rfl) (by omega) (okp rfl) (Nat.le_refl _) (Nat.le_refl _) ?_
  refine e_istore_n (l2 := [some (.ref x0), some (.int x1), some (.ref v4), some (.int p7.1)]) d_Builder_makeUnit_18 rfl (okl rfl) rfl ?_
  refine e_iload_n d_Builder_makeUnit_19 rfl ?_
  refine e_bipush (v := 40) d_Builder_makeUnit_20 (by decide) ?_
  refine e_ic_ne 75 d_Builder_makeUnit_22 (by decide) (fun c8 => ?_) (fun c8 => ?_)
  · replace h := ifn c8 h
    refine e_iload_n d_Builder_makeUnit_75 rfl ?_
    refine e_iconst (v := 2) d_Builder_makeUnit_76 (by decide) ?_
    refine e_ic_ne 109 d_Builder_makeUnit_77 (by decide) (fun c16 => ?_) (fun c16 => ?_)
    · replace h := ifn c16 h
      refine e_aload_n d_Builder_makeUnit_109 rfl ?_
      refine e_aload_n d_Builder_makeUnit_110 rfl ?_
      refine e_iload_n d_Builder_makeUnit_111 rfl ?_
      obtain ⟨M23, hM23, h⟩ := bnd h
      refine e_cVv (mt1 := m_Builder_makeCells) (As := [.ref v4, .int p7.1]) (st := []) d_Builder_makeUnit_112 ml_Builder_142 mv_Builder_makeCells (t_Builder_makeCells n x0 v4 p7.1 p7.2 M23 hM23) (fc_Builder_makeCells hM23) rfl rfl rfl (okp rfl) (by omega) (okp rfl) (Nat.le_refl _) (Nat.le_refl _) ?_
      cases h
      exact e_vret d_Builder_makeUnit_115 rfl (Nat.le_refl _) (Nat.le_refl _)
    · replace h := ift c16 h
      refine e_aload_n d_Builder_makeUnit_80 rfl ?_
      refine e_aload_n d_Builder_makeUnit_81 rfl ?_
      refine e_aload_n d_Builder_makeUnit_82 rfl ?_
      obtain ⟨v17, hv17, h⟩ := bnd h
      refine e_getR d_Builder_makeUnit_83 fl_Builder_12 (fun _ _ _ => rfl) hv17 ?_
      refine e_aload_n d_Builder_makeUnit_86 rfl ?_
      obtain ⟨v18, hv18, h⟩ := bnd h
      refine e_getI d_Builder_makeUnit_87 fl_Builder_54 (fun _ _ _ => rfl) hv18 ?_
      obtain ⟨p19, hp19, h⟩ := bnd h
      refine e_cVl (mt1 := m_Tokens_valueAt) (As := [.int v18]) (st := [.ref v4, .ref x0]) d_Builder_makeUnit_90 ml_Builder_62 mv_Tokens_valueAt (t_Tokens_valueAt n v17 v18 p7.2 p19 hp19) (fc_Tokens_valueAt hp19) rfl rfl rfl (okp rfl) (by omega) (okp rfl) (Nat.le_refl _) (Nat.le_refl _) ?_
      obtain ⟨M20, hM20, h⟩ := bnd h
      refine e_cVv (mt1 := m_Builder_copyNamed) (As := [.ref v4, .long p19.1]) (st := []) d_Builder_makeUnit_93 ml_Builder_138 mv_Builder_copyNamed (t_Builder_copyNamed n x0 v4 p19.1 p19.2 M20 hM20) (fc_Builder_copyNamed hM20) rfl rfl rfl (okp rfl) (by omega) (okp rfl) (Nat.le_refl _) (Nat.le_refl _) ?_
      refine e_aload_n d_Builder_makeUnit_96 rfl ?_
      refine e_dup d_Builder_makeUnit_97 rfl ?_
      obtain ⟨v21, hv21, h⟩ := bnd h
      refine e_getI d_Builder_makeUnit_98 fl_Builder_54 (fun _ _ _ => rfl) hv21 ?_
      refine e_iconst (v := 1) d_Builder_makeUnit_101 (by decide) ?_
      refine e_iadd d_Builder_makeUnit_102 ?_
      obtain ⟨M22, hM22, h⟩ := bnd h
      refine e_putI d_Builder_makeUnit_103 fl_Builder_54 (Or.inl rfl) (fun _ _ _ => rfl) rfl hM22 ?_
      refine e_goto 115 d_Builder_makeUnit_106 (by decide) ?_
      cases h
      exact e_vret d_Builder_makeUnit_115 rfl (Nat.le_refl _) (Nat.le_refl _)
  · replace h := ift c8 h
    refine e_aload_n d_Builder_makeUnit_25 rfl ?_
    refine e_dup d_Builder_makeUnit_26 rfl ?_
    obtain ⟨v9, hv9, h⟩ := bnd h
    refine e_getI d_Builder_makeUnit_27 fl_Builder_54 (fun _ _ _ => rfl) hv9 ?_
    refine e_iconst (v := 1) d_Builder_makeUnit_30 (by decide) ?_
    refine e_iadd d_Builder_makeUnit_31 ?_
    obtain ⟨M10, hM10, h⟩ := bnd h
    refine e_putI d_Builder_makeUnit_32 fl_Builder_54 (Or.inl rfl) (fun _ _ _ => rfl) rfl hM10 ?_
    refine e_aload_n d_Builder_makeUnit_35 rfl ?_
    refine e_iload_n d_Builder_makeUnit_36 rfl ?_
    refine e_iconst (v := 1) d_Builder_makeUnit_37 (by decide) ?_
    refine e_iadd d_Builder_makeUnit_38 ?_
    obtain ⟨M11, hM11, h⟩ := bnd h
    refine e_cVv (mt1 := m_Builder_sumUp) (As := [.int (x1 + 1)]) (st := []) d_Builder_makeUnit_39 ml_Builder_66 mv_Builder_sumUp (hr_Builder_sumUp x0 (x1 + 1) M10 M11 hM11) (hb_Builder_sumUp x0 (x1 + 1) M10 M11 hM11) rfl rfl rfl (okp rfl) (by omega) (okp rfl) (Nat.le_refl _) (Nat.le_refl _) ?_
    refine e_iload_n d_Builder_makeUnit_42 rfl ?_
    refine e_iconst (v := 1) d_Builder_makeUnit_43 (by decide) ?_
    refine e_iadd d_Builder_makeUnit_44 ?_
    refine e_bipush (v := 7) d_Builder_makeUnit_45 (by decide) ?_
    refine e_ic_ge 62 d_Builder_makeUnit_47 (by decide) (fun c12 => ?_) (fun c12 => ?_)
    · replace h := ift c12 h
      exact (t_Builder_makeUnit_62 n d hr_Builder_sumUp hb_Builder_sumUp x0 M11 z h).less (show LSub _ _ from ⟨rfl, trivial⟩)
    · replace h := ifn c12 h
      refine e_aload_n d_Builder_makeUnit_50 rfl ?_
      refine e_aload_n d_Builder_makeUnit_51 rfl ?_
      obtain ⟨v13, hv13, h⟩ := bnd h
      refine e_getR d_Builder_makeUnit_52 fl_Builder_36 (fun _ _ _ => rfl) hv13 ?_
      refine e_iload_n d_Builder_makeUnit_55 rfl ?_
      refine e_iconst (v := 1) d_Builder_makeUnit_56 (by decide) ?_
      refine e_iadd d_Builder_makeUnit_57 ?_
      obtain ⟨v14, hv14, h⟩ := bnd h
      refine e_aald (kd := 104) d_Builder_makeUnit_58 (by decide) hv14 ?_
      obtain ⟨M15, hM15, h⟩ := bnd h
      refine e_cVv (mt1 := m_Shape_copy) (As := [.ref v14]) (st := []) d_Builder_makeUnit_59 ml_Builder_81 mv_Shape_copy (t_Shape_copy n v4 v14 M11 M15 hM15) (fc_Shape_copy hM15) rfl rfl rfl (okp rfl) (by omega) (okp rfl) (Nat.le_refl _) (Nat.le_refl _) ?_
      exact (t_Builder_makeUnit_62 n d hr_Builder_sumUp hb_Builder_sumUp x0 M15 z h).less (show LSub _ _ from ⟨rfl, trivial⟩)
theorem d_Builder_doWord_0 : DC m_Builder_doWord 0 (.aload_n 0) 1 1 := ⟨by decide +kernel, rfl⟩
theorem d_Builder_doWord_1 : DC m_Builder_doWord 1 (.getfield 12) 3 4 := ⟨by decide +kernel, rfl⟩
theorem d_Builder_doWord_4 : DC m_Builder_doWord 4 (.iload_n 1) 1 5 := ⟨by decide +kernel, rfl⟩
theorem d_Builder_doWord_5 : DC m_Builder_doWord 5 (.invokevirtual 58) 3 8 := ⟨by decide +kernel, rfl⟩
theorem d_Builder_doWord_8 : DC m_Builder_doWord 8 (.istore_n 3) 1 9 := ⟨by decide +kernel, rfl⟩
theorem d_Builder_doWord_9 : DC m_Builder_doWord 9 (.aload_n 0) 1 10 := ⟨by decide +kernel, rfl⟩
theorem d_Builder_doWord_10 : DC m_Builder_doWord 10 (.getfield 43) 3 13 := ⟨by decide +kernel, rfl⟩
theorem d_Builder_doWord_13 : DC m_Builder_doWord 13 (.aload_n 2) 1 14 := ⟨by decide +kernel, rfl⟩
theorem d_Builder_doWord_14 : DC m_Builder_doWord 14 (.invokevirtual 81) 3 17 := ⟨by decide +kernel, rfl⟩
theorem d_Builder_doWord_17 : DC m_Builder_doWord 17 (.iload_n 3) 1 18 := ⟨by decide +kernel, rfl⟩
theorem d_Builder_doWord_18 : DC m_Builder_doWord 18 (.bipush 12) 2 20 := ⟨by decide +kernel, rfl⟩
theorem d_Builder_doWord_20 : DC m_Builder_doWord 20 (.if_icmp .ne 14) 3 23 := ⟨by decide +kernel, rfl⟩
theorem d_Builder_doWord_23 : DC m_Builder_doWord 23 (.aload_n 2) 1 24 := ⟨by decide +kernel, rfl⟩
theorem d_Builder_doWord_24 : DC m_Builder_doWord 24 (.aload_n 0) 1 25 := ⟨by decide +kernel, rfl⟩
theorem d_Builder_doWord_25 : DC m_Builder_doWord 25 (.getfield 43) 3 28 := ⟨by decide +kernel, rfl⟩
theorem d_Builder_doWord_28 : DC m_Builder_doWord 28 (.invokevirtual 118) 3 31 := ⟨by decide +kernel, rfl⟩
theorem d_Builder_doWord_31 : DC m_Builder_doWord 31 (.goto 94) 3 34 := ⟨by decide +kernel, rfl⟩
theorem d_Builder_doWord_34 : DC m_Builder_doWord 34 (.iload_n 3) 1 35 := ⟨by decide +kernel, rfl⟩
theorem d_Builder_doWord_35 : DC m_Builder_doWord 35 (.bipush 13) 2 37 := ⟨by decide +kernel, rfl⟩
theorem d_Builder_doWord_37 : DC m_Builder_doWord 37 (.if_icmp .ne 14) 3 40 := ⟨by decide +kernel, rfl⟩
theorem d_Builder_doWord_40 : DC m_Builder_doWord 40 (.aload_n 2) 1 41 := ⟨by decide +kernel, rfl⟩
theorem d_Builder_doWord_41 : DC m_Builder_doWord 41 (.aload_n 0) 1 42 := ⟨by decide +kernel, rfl⟩
theorem d_Builder_doWord_42 : DC m_Builder_doWord 42 (.getfield 43) 3 45 := ⟨by decide +kernel, rfl⟩
theorem d_Builder_doWord_45 : DC m_Builder_doWord 45 (.invokevirtual 121) 3 48 := ⟨by decide +kernel, rfl⟩
theorem d_Builder_doWord_48 : DC m_Builder_doWord 48 (.goto 77) 3 51 := ⟨by decide +kernel, rfl⟩
theorem d_Builder_doWord_51 : DC m_Builder_doWord 51 (.iload_n 3) 1 52 := ⟨by decide +kernel, rfl⟩
theorem d_Builder_doWord_52 : DC m_Builder_doWord 52 (.bipush 14) 2 54 := ⟨by decide +kernel, rfl⟩
theorem d_Builder_doWord_54 : DC m_Builder_doWord 54 (.if_icmp .ne 10) 3 57 := ⟨by decide +kernel, rfl⟩
theorem d_Builder_doWord_57 : DC m_Builder_doWord 57 (.aload_n 2) 1 58 := ⟨by decide +kernel, rfl⟩
theorem d_Builder_doWord_58 : DC m_Builder_doWord 58 (.invokevirtual 124) 3 61 := ⟨by decide +kernel, rfl⟩
theorem d_Builder_doWord_61 : DC m_Builder_doWord 61 (.goto 64) 3 64 := ⟨by decide +kernel, rfl⟩
theorem d_Builder_doWord_64 : DC m_Builder_doWord 64 (.aload_n 0) 1 65 := ⟨by decide +kernel, rfl⟩
theorem d_Builder_doWord_65 : DC m_Builder_doWord 65 (.iload_n 1) 1 66 := ⟨by decide +kernel, rfl⟩
theorem d_Builder_doWord_66 : DC m_Builder_doWord 66 (.iconst 1) 1 67 := ⟨by decide +kernel, rfl⟩
theorem d_Builder_doWord_67 : DC m_Builder_doWord 67 .iadd 1 68 := ⟨by decide +kernel, rfl⟩
theorem d_Builder_doWord_68 : DC m_Builder_doWord 68 (.invokevirtual 127) 3 71 := ⟨by decide +kernel, rfl⟩
theorem d_Builder_doWord_71 : DC m_Builder_doWord 71 (.istore 4) 2 73 := ⟨by decide +kernel, rfl⟩
theorem d_Builder_doWord_73 : DC m_Builder_doWord 73 (.aload_n 0) 1 74 := ⟨by decide +kernel, rfl⟩
theorem d_Builder_doWord_74 : DC m_Builder_doWord 74 (.aload_n 0) 1 75 := ⟨by decide +kernel, rfl⟩
theorem d_Builder_doWord_75 : DC m_Builder_doWord 75 (.iload_n 1) 1 76 := ⟨by decide +kernel, rfl⟩
theorem d_Builder_doWord_76 : DC m_Builder_doWord 76 (.iconst 1) 1 77 := ⟨by decide +kernel, rfl⟩
theorem d_Builder_doWord_77 : DC m_Builder_doWord 77 .iadd 1 78 := ⟨by decide +kernel, rfl⟩
theorem d_Builder_doWord_78 : DC m_Builder_doWord 78 (.invokevirtual 115) 3 81 := ⟨by decide +kernel, rfl⟩
theorem d_Builder_doWord_81 : DC m_Builder_doWord 81 (.invokevirtual 127) 3 84 := ⟨by decide +kernel, rfl⟩
theorem d_Builder_doWord_84 : DC m_Builder_doWord 84 (.istore 5) 2 86 := ⟨by decide +kernel, rfl⟩
theorem d_Builder_doWord_86 : DC m_Builder_doWord 86 (.aload_n 0) 1 87 := ⟨by decide +kernel, rfl⟩
theorem d_Builder_doWord_87 : DC m_Builder_doWord 87 (.getfield 43) 3 90 := ⟨by decide +kernel, rfl⟩
theorem d_Builder_doWord_90 : DC m_Builder_doWord 90 (.iload 4) 2 92 := ⟨by decide +kernel, rfl⟩
theorem d_Builder_doWord_92 : DC m_Builder_doWord 92 (.iload 5) 2 94 := ⟨by decide +kernel, rfl⟩
theorem d_Builder_doWord_94 : DC m_Builder_doWord 94 (.invokevirtual 130) 3 97 := ⟨by decide +kernel, rfl⟩
theorem d_Builder_doWord_97 : DC m_Builder_doWord 97 (.ifCond .eq 16) 3 100 := ⟨by decide +kernel, rfl⟩
theorem d_Builder_doWord_100 : DC m_Builder_doWord 100 (.aload_n 0) 1 101 := ⟨by decide +kernel, rfl⟩
theorem d_Builder_doWord_101 : DC m_Builder_doWord 101 (.getfield 12) 3 104 := ⟨by decide +kernel, rfl⟩
theorem d_Builder_doWord_104 : DC m_Builder_doWord 104 (.bipush 6) 2 106 := ⟨by decide +kernel, rfl⟩
theorem d_Builder_doWord_106 : DC m_Builder_doWord 106 (.iload_n 1) 1 107 := ⟨by decide +kernel, rfl⟩
theorem d_Builder_doWord_107 : DC m_Builder_doWord 107 (.invokevirtual 77) 3 110 := ⟨by decide +kernel, rfl⟩
theorem d_Builder_doWord_110 : DC m_Builder_doWord 110 (.goto 15) 3 113 := ⟨by decide +kernel, rfl⟩
theorem d_Builder_doWord_113 : DC m_Builder_doWord 113 (.aload_n 2) 1 114 := ⟨by decide +kernel, rfl⟩
theorem d_Builder_doWord_114 : DC m_Builder_doWord 114 (.aload_n 0) 1 115 := ⟨by decide +kernel, rfl⟩
theorem d_Builder_doWord_115 : DC m_Builder_doWord 115 (.getfield 43) 3 118 := ⟨by decide +kernel, rfl⟩
theorem d_Builder_doWord_118 : DC m_Builder_doWord 118 (.iload 4) 2 120 := ⟨by decide +kernel, rfl⟩
theorem d_Builder_doWord_120 : DC m_Builder_doWord 120 (.iload 5) 2 122 := ⟨by decide +kernel, rfl⟩
theorem d_Builder_doWord_122 : DC m_Builder_doWord 122 (.invokevirtual 134) 3 125 := ⟨by decide +kernel, rfl⟩
theorem d_Builder_doWord_125 : DC m_Builder_doWord 125 .return_ 1 126 := ⟨by decide +kernel, rfl⟩
def f_Builder_doWord (n : Nat) (x0 : Nat) (x1 : Int32) (x2 : Nat) (M : MM) : Option (MM) :=
  og 1 x0 M <|
  (gR 1 9 x0 M).bind fun v1 =>
  (f_Tokens_kindAt n v1 x1 M).bind fun p2 =>
  (gR 1 6 x0 p2.2).bind fun v3 =>
  (f_Shape_copy n v3 x2 p2.2).bind fun M4 =>
  if p2.1 = 12 then
    (gR 1 6 x0 M4).bind fun v6 =>
    (f_Shape_becomeTurned n x2 v6 M4).bind fun M7 =>
    some M7
  else
    if p2.1 = 13 then
      (gR 1 6 x0 M4).bind fun v9 =>
      (f_Shape_becomeFlipped n x2 v9 M4).bind fun M10 =>
      some M10
    else
      if p2.1 = 14 then
        (f_Shape_moveToBase n x2 M4).bind fun M12 =>
        some M12
      else
        (f_Builder_numberAt n x0 (x1 + 1) M4).bind fun p13 =>
        (f_Builder_behindNumber n x0 (x1 + 1) p13.2).bind fun p14 =>
        (f_Builder_numberAt n x0 p14.1 p14.2).bind fun p15 =>
        (gR 1 6 x0 p15.2).bind fun v16 =>
        (f_Shape_goesOff n v16 p13.1 p15.1 p15.2).bind fun p17 =>
        if p17.1 = 0 then
          (gR 1 6 x0 p17.2).bind fun v19 =>
          (f_Shape_becomeShifted n x2 v19 p13.1 p15.1 p17.2).bind fun M20 =>
          some M20
        else
          (gR 1 9 x0 p17.2).bind fun v21 =>
          (f_Tokens_blame n v21 6 x1 p17.2).bind fun M22 =>
          some M22
theorem fc_Builder_doWord {n : Nat} {x0 : Nat} {x1 : Int32} {x2 : Nat} {M : MM} {z : MM} (h : f_Builder_doWord n x0 x1 x2 M = some z) : (M.1.2.1 x0).1 = 1 := by
  unfold f_Builder_doWord at h
  exact (og_s h).1
theorem t_Builder_doWord (n : Nat) (x0 : Nat) (x1 : Int32) (x2 : Nat) (M : MM) (z : MM) (h : f_Builder_doWord n x0 x1 x2 M = some z) : CT m_Builder_doWord (rm 4 0 0) [.ref x0, .int x1, .ref x2] M none z := by
  unfold f_Builder_doWord at h
  obtain ⟨hthis, h⟩ := og_s h
  refine CT.of (ls := [some (.ref x0), some (.int x1), some (.ref x2), none, none, none]) rfl (okp rfl) rfl ?_
  refine e_aload_n d_Builder_doWord_0 rfl ?_
  obtain ⟨v1, hv1, h⟩ := bnd h
  refine e_getR d_Builder_doWord_1 fl_Builder_12 (fun _ _ _ => rfl) hv1 ?_
  refine e_iload_n d_Builder_doWord_4 rfl ?_
  obtain ⟨p2, hp2, h⟩ := bnd h
  refine e_cVi (mt1 := m_Tokens_kindAt) (As := [.int x1]) (st := []) d_Builder_doWord_5 ml_Builder_58 mv_Tokens_kindAt (t_Tokens_kindAt n v1 x1 M p2 hp2) (fc_Tokens_kindAt hp2) rfl rfl rfl (okp rfl) (okp rfl) (okp rfl) (Nat.le_refl _) (Nat.le_refl _) ?_
  refine e_istore_n (l2 := [some (.ref x0), some (.int x1), some (.ref x2), some (.int p2.1), none, none]) d_Builder_doWord_8 rfl (okl rfl) rfl ?_
  refine e_aload_n d_Builder_doWord_9 rfl ?_
  obtain ⟨v3, hv3, h⟩ := bnd h
  refine e_getR d_Builder_doWord_10 fl_Builder_43 (fun _ _ _ => rfl) hv3 ?_
  refine e_aload_n d_Builder_doWord_13 rfl ?_
  obtain ⟨M4, hM4, h⟩ := bnd h
  refine e_cVv (mt1 := m_Shape_copy) (As := [.ref x2]) (st := []) d_Builder_doWord_14 ml_Builder_81 mv_Shape_copy (t_Shape_copy n v3 x2 p2.2 M4 hM4) (fc_Shape_copy hM4) rfl rfl rfl (okp rfl) (okp rfl) (okp rfl) (Nat.le_refl _) (Nat.le_refl _) ?_
  refine e_iload_n d_Builder_doWord_17 rfl ?_
  refine e_bipush (v := 12) d_Builder_doWord_18 (by decide) ?_
  refine e_ic_ne 34 d_Builder_doWord_20 (by decide) (fun c5 => ?_) (fun c5 => ?_)
  · replace h := ifn c5 h
    refine e_iload_n d_Builder_doWord_34 rfl ?_
    refine e_bipush (v := 13) d_Builder_doWord_35 (by decide) ?_
    refine e_ic_ne 51 d_Builder_doWord_37 (by decide) (fun c8 => ?_) (fun c8 => ?_)
    · replace h := ifn c8 h
      refine e_iload_n d_Builder_doWord_51 rfl ?_
      refine e_bipush (v := 14) d_Builder_doWord_52 (by decide) ?_
      refine e_ic_ne 64 d_Builder_doWord_54 (by decide) (fun c11 => ?_) (fun c11 => ?_)
      · replace h := ifn c11 h
        refine e_aload_n d_Builder_doWord_64 rfl ?_
        refine e_iload_n d_Builder_doWord_65 rfl ?_
        refine e_iconst (v := 1) d_Builder_doWord_66 (by decide) ?_
        refine e_iadd d_Builder_doWord_67 ?_
        obtain ⟨p13, hp13, h⟩ := bnd h
        refine e_cVi (mt1 := m_Builder_numberAt) (As := [.int (x1 + 1)]) (st := []) d_Builder_doWord_68 ml_Builder_127 mv_Builder_numberAt (t_Builder_numberAt n x0 (x1 + 1) M4 p13 hp13) (fc_Builder_numberAt hp13) rfl rfl rfl (okp rfl) (okp rfl) (okp rfl) (Nat.le_refl _) (Nat.le_refl _) ?_
        refine e_istore (l2 := [some (.ref x0), some (.int x1), some (.ref x2), some (.int p2.1), some (.int p13.1), none]) d_Builder_doWord_71 rfl (okl rfl) rfl ?_
        refine e_aload_n d_Builder_doWord_73 rfl ?_
        refine e_aload_n d_Builder_doWord_74 rfl ?_
        refine e_iload_n d_Builder_doWord_75 rfl ?_
        refine e_iconst (v := 1) d_Builder_doWord_76 (by decide) ?_
        refine e_iadd d_Builder_doWord_77 ?_
        obtain ⟨p14, hp14, h⟩ := bnd h
        refine e_cVi (mt1 := m_Builder_behindNumber) (As := [.int (x1 + 1)]) (st := [.ref x0]) d_Builder_doWord_78 ml_Builder_115 mv_Builder_behindNumber (t_Builder_behindNumber n x0 (x1 + 1) p13.2 p14 hp14) (fc_Builder_behindNumber hp14) rfl rfl rfl (okp rfl) (okp rfl) (okp rfl) (Nat.le_refl _) (Nat.le_refl _) ?_
        obtain ⟨p15, hp15, h⟩ := bnd h
        refine e_cVi (mt1 := m_Builder_numberAt) (As := [.int p14.1]) (st := []) d_Builder_doWord_81 ml_Builder_127 mv_Builder_numberAt (t_Builder_numberAt n x0 p14.1 p14.2 p15 hp15) (fc_Builder_numberAt hp15) rfl rfl rfl (okp rfl) (okp rfl) (okp rfl) (Nat.le_refl _) (Nat.le_refl _) ?_
        refine e_istore (l2 := [some (.ref x0), some (.int x1), some (.ref x2), some (.int p2.1), some (.int p13.1), some (.int p15.1)]) d_Builder_doWord_84 rfl (okl rfl) rfl ?_
        refine e_aload_n d_Builder_doWord_86 rfl ?_
        obtain ⟨v16, hv16, h⟩ := bnd h
        refine e_getR d_Builder_doWord_87 fl_Builder_43 (fun _ _ _ => rfl) hv16 ?_
        refine e_iload d_Builder_doWord_90 rfl ?_
        refine e_iload d_Builder_doWord_92 rfl ?_
        obtain ⟨p17, hp17, h⟩ := bnd h
        refine e_cVi (mt1 := m_Shape_goesOff) (As := [.int p13.1, .int p15.1]) (st := []) d_Builder_doWord_94 ml_Builder_130 mv_Shape_goesOff (t_Shape_goesOff n v16 p13.1 p15.1 p15.2 p17 hp17) (fc_Shape_goesOff hp17) rfl rfl rfl (okp rfl) (okp rfl) (okp rfl) (Nat.le_refl _) (Nat.le_refl _) ?_
        refine e_if_eq 113 d_Builder_doWord_97 (by decide) (fun c18 => ?_) (fun c18 => ?_)
        · replace h := ift c18 h
          refine e_aload_n d_Builder_doWord_113 rfl ?_
          refine e_aload_n d_Builder_doWord_114 rfl ?_
          obtain ⟨v19, hv19, h⟩ := bnd h
          refine e_getR d_Builder_doWord_115 fl_Builder_43 (fun _ _ _ => rfl) hv19 ?_
          refine e_iload d_Builder_doWord_118 rfl ?_
          refine e_iload d_Builder_doWord_120 rfl ?_
          obtain ⟨M20, hM20, h⟩ := bnd h
          refine e_cVv (mt1 := m_Shape_becomeShifted) (As := [.ref v19, .int p13.1, .int p15.1]) (st := []) d_Builder_doWord_122 ml_Builder_134 mv_Shape_becomeShifted (t_Shape_becomeShifted n x2 v19 p13.1 p15.1 p17.2 M20 hM20) (fc_Shape_becomeShifted hM20) rfl rfl rfl (okp rfl) (okp rfl) (okp rfl) (Nat.le_refl _) (Nat.le_refl _) ?_
          cases h
          exact e_vret d_Builder_doWord_125 rfl (Nat.le_refl _) (Nat.le_refl _)
        · replace h := ifn c18 h
          refine e_aload_n d_Builder_doWord_100 rfl ?_
          obtain ⟨v21, hv21, h⟩ := bnd h
          refine e_getR d_Builder_doWord_101 fl_Builder_12 (fun _ _ _ => rfl) hv21 ?_
          refine e_bipush (v := 6) d_Builder_doWord_104 (by decide) ?_
          refine e_iload_n d_Builder_doWord_106 rfl ?_
          obtain ⟨M22, hM22, h⟩ := bnd h
          refine e_cVv (mt1 := m_Tokens_blame) (As := [.int 6, .int x1]) (st := []) d_Builder_doWord_107 ml_Builder_77 mv_Tokens_blame (t_Tokens_blame n v21 6 x1 p17.2 M22 hM22) (fc_Tokens_blame hM22) rfl rfl rfl (okp rfl) (okp rfl) (okp rfl) (Nat.le_refl _) (Nat.le_refl _) ?_
          refine e_goto 125 d_Builder_doWord_110 (by decide) ?_
          cases h
          exact e_vret d_Builder_doWord_125 rfl (Nat.le_refl _) (Nat.le_refl _)
      · replace h := ift c11 h
        refine e_aload_n d_Builder_doWord_57 rfl ?_
        obtain ⟨M12, hM12, h⟩ := bnd h
        refine e_cVv (mt1 := m_Shape_moveToBase) (As := []) (st := []) d_Builder_doWord_58 ml_Builder_124 mv_Shape_moveToBase (t_Shape_moveToBase n x2 M4 M12 hM12) (fc_Shape_moveToBase hM12) rfl rfl rfl (okp rfl) (okp rfl) (okp rfl) (Nat.le_refl _) (Nat.le_refl _) ?_
        refine e_goto 125 d_Builder_doWord_61 (by decide) ?_
        cases h
        exact e_vret d_Builder_doWord_125 rfl (Nat.le_refl _) (Nat.le_refl _)
    · replace h := ift c8 h
      refine e_aload_n d_Builder_doWord_40 rfl ?_
      refine e_aload_n d_Builder_doWord_41 rfl ?_
      obtain ⟨v9, hv9, h⟩ := bnd h
      refine e_getR d_Builder_doWord_42 fl_Builder_43 (fun _ _ _ => rfl) hv9 ?_
      obtain ⟨M10, hM10, h⟩ := bnd h
      refine e_cVv (mt1 := m_Shape_becomeFlipped) (As := [.ref v9]) (st := []) d_Builder_doWord_45 ml_Builder_121 mv_Shape_becomeFlipped (t_Shape_becomeFlipped n x2 v9 M4 M10 hM10) (fc_Shape_becomeFlipped hM10) rfl rfl rfl (okp rfl) (okp rfl) (okp rfl) (Nat.le_refl _) (Nat.le_refl _) ?_
      refine e_goto 125 d_Builder_doWord_48 (by decide) ?_
      cases h
      exact e_vret d_Builder_doWord_125 rfl (Nat.le_refl _) (Nat.le_refl _)
  · replace h := ift c5 h
    refine e_aload_n d_Builder_doWord_23 rfl ?_
    refine e_aload_n d_Builder_doWord_24 rfl ?_
    obtain ⟨v6, hv6, h⟩ := bnd h
    refine e_getR d_Builder_doWord_25 fl_Builder_43 (fun _ _ _ => rfl) hv6 ?_
    obtain ⟨M7, hM7, h⟩ := bnd h
    refine e_cVv (mt1 := m_Shape_becomeTurned) (As := [.ref v6]) (st := []) d_Builder_doWord_28 ml_Builder_118 mv_Shape_becomeTurned (t_Shape_becomeTurned n x2 v6 M4 M7 hM7) (fc_Shape_becomeTurned hM7) rfl rfl rfl (okp rfl) (okp rfl) (okp rfl) (Nat.le_refl _) (Nat.le_refl _) ?_
    refine e_goto 125 d_Builder_doWord_31 (by decide) ?_
    cases h
    exact e_vret d_Builder_doWord_125 rfl (Nat.le_refl _) (Nat.le_refl _)
theorem d_Builder_makePart_0 : DC m_Builder_makePart 0 (.aload_n 0) 1 1 := ⟨by decide +kernel, rfl⟩
theorem d_Builder_makePart_1 : DC m_Builder_makePart 1 (.getfield 51) 3 4 := ⟨by decide +kernel, rfl⟩
theorem d_Builder_makePart_4 : DC m_Builder_makePart 4 (.istore_n 2) 1 5 := ⟨by decide +kernel, rfl⟩
theorem d_Builder_makePart_5 : DC m_Builder_makePart 5 (.iconst 0) 1 6 := ⟨by decide +kernel, rfl⟩
theorem d_Builder_makePart_6 : DC m_Builder_makePart 6 (.istore_n 3) 1 7 := ⟨by decide +kernel, rfl⟩
theorem d_Builder_makePart_7 : DC m_Builder_makePart 7 (.iload_n 3) 1 8 := ⟨by decide +kernel, rfl⟩
theorem d_Builder_makePart_8 : DC m_Builder_makePart 8 (.sipush 400) 3 11 := ⟨by decide +kernel, rfl⟩
theorem d_Builder_makePart_11 : DC m_Builder_makePart 11 (.if_icmp .ge 30) 3 14 := ⟨by decide +kernel, rfl⟩
theorem d_Builder_makePart_14 : DC m_Builder_makePart 14 (.aload_n 0) 1 15 := ⟨by decide +kernel, rfl⟩
theorem d_Builder_makePart_15 : DC m_Builder_makePart 15 (.getfield 12) 3 18 := ⟨by decide +kernel, rfl⟩
theorem d_Builder_makePart_18 : DC m_Builder_makePart 18 (.aload_n 0) 1 19 := ⟨by decide +kernel, rfl⟩
theorem d_Builder_makePart_19 : DC m_Builder_makePart 19 (.getfield 54) 3 22 := ⟨by decide +kernel, rfl⟩
theorem d_Builder_makePart_22 : DC m_Builder_makePart 22 (.invokevirtual 58) 3 25 := ⟨by decide +kernel, rfl⟩
theorem d_Builder_makePart_25 : DC m_Builder_makePart 25 (.invokestatic 101) 3 28 := ⟨by decide +kernel, rfl⟩
theorem d_Builder_makePart_28 : DC m_Builder_makePart 28 (.ifCond .eq 13) 3 31 := ⟨by decide +kernel, rfl⟩
theorem d_Builder_makePart_31 : DC m_Builder_makePart 31 (.aload_n 0) 1 32 := ⟨by decide +kernel, rfl⟩
theorem d_Builder_makePart_32 : DC m_Builder_makePart 32 (.invokevirtual 105) 3 35 := ⟨by decide +kernel, rfl⟩
theorem d_Builder_makePart_35 : DC m_Builder_makePart 35 (.iinc 3 1) 3 38 := ⟨by decide +kernel, rfl⟩
theorem d_Builder_makePart_38 : DC m_Builder_makePart 38 (.goto (-31)) 3 41 := ⟨by decide +kernel, rfl⟩
theorem d_Builder_makePart_41 : DC m_Builder_makePart 41 (.aload_n 0) 1 42 := ⟨by decide +kernel, rfl⟩
theorem d_Builder_makePart_42 : DC m_Builder_makePart 42 (.iload_n 1) 1 43 := ⟨by decide +kernel, rfl⟩
theorem d_Builder_makePart_43 : DC m_Builder_makePart 43 (.invokevirtual 108) 3 46 := ⟨by decide +kernel, rfl⟩
theorem d_Builder_makePart_46 : DC m_Builder_makePart 46 (.aload_n 0) 1 47 := ⟨by decide +kernel, rfl⟩
theorem d_Builder_makePart_47 : DC m_Builder_makePart 47 (.getfield 51) 3 50 := ⟨by decide +kernel, rfl⟩
theorem d_Builder_makePart_50 : DC m_Builder_makePart 50 (.iconst 1) 1 51 := ⟨by decide +kernel, rfl⟩
theorem d_Builder_makePart_51 : DC m_Builder_makePart 51 .isub 1 52 := ⟨by decide +kernel, rfl⟩
theorem d_Builder_makePart_52 : DC m_Builder_makePart 52 (.istore_n 3) 1 53 := ⟨by decide +kernel, rfl⟩
theorem d_Builder_makePart_53 : DC m_Builder_makePart 53 (.iload_n 3) 1 54 := ⟨by decide +kernel, rfl⟩
theorem d_Builder_makePart_54 : DC m_Builder_makePart 54 (.iload_n 2) 1 55 := ⟨by decide +kernel, rfl⟩
theorem d_Builder_makePart_55 : DC m_Builder_makePart 55 (.if_icmp .lt 35) 3 58 := ⟨by decide +kernel, rfl⟩
theorem d_Builder_makePart_58 : DC m_Builder_makePart 58 (.aload_n 0) 1 59 := ⟨by decide +kernel, rfl⟩
theorem d_Builder_makePart_59 : DC m_Builder_makePart 59 (.getfield 12) 3 62 := ⟨by decide +kernel, rfl⟩
theorem d_Builder_makePart_62 : DC m_Builder_makePart 62 (.getfield 70) 3 65 := ⟨by decide +kernel, rfl⟩
theorem d_Builder_makePart_65 : DC m_Builder_makePart 65 (.ifCond .ne 25) 3 68 := ⟨by decide +kernel, rfl⟩
theorem d_Builder_makePart_68 : DC m_Builder_makePart 68 (.aload_n 0) 1 69 := ⟨by decide +kernel, rfl⟩
theorem d_Builder_makePart_69 : DC m_Builder_makePart 69 (.aload_n 0) 1 70 := ⟨by decide +kernel, rfl⟩
theorem d_Builder_makePart_70 : DC m_Builder_makePart 70 (.getfield 47) 3 73 := ⟨by decide +kernel, rfl⟩
theorem d_Builder_makePart_73 : DC m_Builder_makePart 73 (.iload_n 3) 1 74 := ⟨by decide +kernel, rfl⟩
theorem d_Builder_makePart_74 : DC m_Builder_makePart 74 .iaload 1 75 := ⟨by decide +kernel, rfl⟩
theorem d_Builder_makePart_75 : DC m_Builder_makePart 75 (.aload_n 0) 1 76 := ⟨by decide +kernel, rfl⟩
theorem d_Builder_makePart_76 : DC m_Builder_makePart 76 (.getfield 39) 3 79 := ⟨by decide +kernel, rfl⟩
theorem d_Builder_makePart_79 : DC m_Builder_makePart 79 (.iload_n 1) 1 80 := ⟨by decide +kernel, rfl⟩
theorem d_Builder_makePart_80 : DC m_Builder_makePart 80 .aaload 1 81 := ⟨by decide +kernel, rfl⟩
theorem d_Builder_makePart_81 : DC m_Builder_makePart 81 (.invokevirtual 111) 3 84 := ⟨by decide +kernel, rfl⟩
theorem d_Builder_makePart_84 : DC m_Builder_makePart 84 (.iinc 3 (-1)) 3 87 := ⟨by decide +kernel, rfl⟩
theorem d_Builder_makePart_87 : DC m_Builder_makePart 87 (.goto (-34)) 3 90 := ⟨by decide +kernel, rfl⟩
theorem d_Builder_makePart_90 : DC m_Builder_makePart 90 (.aload_n 0) 1 91 := ⟨by decide +kernel, rfl⟩
theorem d_Builder_makePart_91 : DC m_Builder_makePart 91 (.iload_n 2) 1 92 := ⟨by decide +kernel, rfl⟩
theorem d_Builder_makePart_92 : DC m_Builder_makePart 92 (.putfield 51) 3 95 := ⟨by decide +kernel, rfl⟩
theorem d_Builder_makePart_95 : DC m_Builder_makePart 95 .return_ 1 96 := ⟨by decide +kernel, rfl⟩
def f_Builder_makePart_53 (n : Nat) (r_Builder_sumUp : Nat → Int32 → MM → Option (MM)) : Nat → Nat → Int32 → Int32 → Int32 → MM → Option (MM)
  | 0, _, _, _, _, _ => none
  | m + 1, x0, x1, x2, x3, M =>
    if x3 < x2 then
      (pI 1 8 x0 x2 M).bind fun M2 =>
      some M2
    else
      (gR 1 9 x0 M).bind fun v3 =>
      (gI 10 5 v3 M).bind fun v4 =>
      if v4 = 0 then
        (gR 1 7 x0 M).bind fun v6 =>
        (aI 100 v6 x3 M).bind fun v7 =>
        (gR 1 5 x0 M).bind fun v8 =>
        (aR 104 v8 x1 M).bind fun v9 =>
        (f_Builder_doWord n x0 v7 v9 M).bind fun M10 =>
        f_Builder_makePart_53 n r_Builder_sumUp m x0 x1 x2 (x3 + (-1)) M10
      else
        (pI 1 8 x0 x2 M).bind fun M11 =>
        some M11
theorem t_Builder_makePart_53 (n : Nat) (d : Nat) {r_Builder_sumUp : Nat → Int32 → MM → Option (MM)} (hr_Builder_sumUp : ∀ (x0 : Nat) (x1 : Int32) (M : MM) (z : MM), r_Builder_sumUp x0 x1 M = some z → CT m_Builder_sumUp (rm d 0 0) [.ref x0, .int x1] M none z) (hb_Builder_sumUp : ∀ (x0 : Nat) (x1 : Int32) (M : MM) (z : MM), r_Builder_sumUp x0 x1 M = some z → (M.1.2.1 x0).1 = 1) : ∀ (m : Nat) (x0 : Nat) (x1 : Int32) (x2 : Int32) (x3 : Int32) (M : MM) (z : MM), f_Builder_makePart_53 n r_Builder_sumUp m x0 x1 x2 x3 M = some z → EV m_Builder_makePart (rm (d + 5) 0 0) none z 0 0 53 [some (.ref x0), some (.int x1), some (.int x2), some (.int x3)] [] M := by
  intro m
  induction m with
  | zero => intro x0 x1 x2 x3 M z h; cases h
  | succ m ih =>
    intro x0 x1 x2 x3 M z h
    rw [f_Builder_makePart_53] at h
    refine e_iload_n d_Builder_makePart_53 rfl ?_
    refine e_iload_n d_Builder_makePart_54 rfl ?_
    refine e_ic_lt 90 d_Builder_makePart_55 (by decide) (fun c1 => ?_) (fun c1 => ?_)
    · replace h := ift c1 h
      refine e_aload_n d_Builder_makePart_90 rfl ?_
      refine e_iload_n d_Builder_makePart_91 rfl ?_
      obtain ⟨M2, hM2, h⟩ := bnd h
      refine e_putI d_Builder_makePart_92 fl_Builder_51 (Or.inl rfl) (fun _ _ _ => rfl) rfl hM2 ?_
      cases h
      exact e_vret d_Builder_makePart_95 rfl (Nat.le_refl _) (Nat.le_refl _)
    · replace h := ifn c1 h
      refine e_aload_n d_Builder_makePart_58 rfl ?_
      obtain ⟨v3, hv3, h⟩ := bnd h
      refine e_getR d_Builder_makePart_59 fl_Builder_12 (fun _ _ _ => rfl) hv3 ?_
      obtain ⟨v4, hv4, h⟩ := bnd h
      refine e_getI d_Builder_makePart_62 fl_Builder_70 (fun _ _ _ => rfl) hv4 ?_
      refine e_if_ne 90 d_Builder_makePart_65 (by decide) (fun c5 => ?_) (fun c5 => ?_)
      · replace h := ifn c5 h
        refine e_aload_n d_Builder_makePart_90 rfl ?_
        refine e_iload_n d_Builder_makePart_91 rfl ?_
        obtain ⟨M11, hM11, h⟩ := bnd h
        refine e_putI d_Builder_makePart_92 fl_Builder_51 (Or.inl rfl) (fun _ _ _ => rfl) rfl hM11 ?_
        cases h
        exact e_vret d_Builder_makePart_95 rfl (Nat.le_refl _) (Nat.le_refl _)
      · replace h := ift c5 h
        refine e_aload_n d_Builder_makePart_68 rfl ?_
        refine e_aload_n d_Builder_makePart_69 rfl ?_
        obtain ⟨v6, hv6, h⟩ := bnd h
        refine e_getR d_Builder_makePart_70 fl_Builder_47 (fun _ _ _ => rfl) hv6 ?_
        refine e_iload_n d_Builder_makePart_73 rfl ?_
        obtain ⟨v7, hv7, h⟩ := bnd h
        refine e_iald d_Builder_makePart_74 hv7 ?_
        refine e_aload_n d_Builder_makePart_75 rfl ?_
        obtain ⟨v8, hv8, h⟩ := bnd h
        refine e_getR d_Builder_makePart_76 fl_Builder_39 (fun _ _ _ => rfl) hv8 ?_
        refine e_iload_n d_Builder_makePart_79 rfl ?_
        obtain ⟨v9, hv9, h⟩ := bnd h
        refine e_aald (kd := 104) d_Builder_makePart_80 (by decide) hv9 ?_
        obtain ⟨M10, hM10, h⟩ := bnd h
        refine e_cVv (mt1 := m_Builder_doWord) (As := [.int v7, .ref v9]) (st := []) d_Builder_makePart_81 ml_Builder_111 mv_Builder_doWord (t_Builder_doWord n x0 v7 v9 M M10 hM10) (fc_Builder_doWord hM10) rfl rfl rfl (okp rfl) (by omega) (okp rfl) (Nat.le_refl _) (Nat.le_refl _) ?_
        refine e_iinc (v := x3 + (-1)) (l2 := [some (.ref x0), some (.int x1), some (.int x2), some (.int (x3 + (-1)))]) d_Builder_makePart_84 rfl rfl rfl (okl rfl) rfl ?_
        refine e_goto 53 d_Builder_makePart_87 (by decide) ?_
        exact (ih x0 x1 x2 (x3 + (-1)) M10 z h).less (show LSub _ _ from ⟨rfl, ⟨rfl, ⟨rfl, ⟨rfl, trivial⟩⟩⟩⟩)
def f_Builder_makePart_41 (n : Nat) (r_Builder_sumUp : Nat → Int32 → MM → Option (MM)) (x0 : Nat) (x1 : Int32) (x2 : Int32) (M : MM) : Option (MM) :=
  (f_Builder_makeUnit n r_Builder_sumUp x0 x1 M).bind fun M12 =>
  (gI 1 8 x0 M12).bind fun v13 =>
  nm (α := Int32) (v13 - 1) fun y14 =>
  f_Builder_makePart_53 n r_Builder_sumUp n x0 x1 x2 y14 M12
theorem t_Builder_makePart_41 (n : Nat) (d : Nat) {r_Builder_sumUp : Nat → Int32 → MM → Option (MM)} (hr_Builder_sumUp : ∀ (x0 : Nat) (x1 : Int32) (M : MM) (z : MM), r_Builder_sumUp x0 x1 M = some z → CT m_Builder_sumUp (rm d 0 0) [.ref x0, .int x1] M none z) (hb_Builder_sumUp : ∀ (x0 : Nat) (x1 : Int32) (M : MM) (z : MM), r_Builder_sumUp x0 x1 M = some z → (M.1.2.1 x0).1 = 1) (x0 : Nat) (x1 : Int32) (x2 : Int32) (M : MM) (z : MM) (h : f_Builder_makePart_41 n r_Builder_sumUp x0 x1 x2 M = some z) : EV m_Builder_makePart (rm (d + 5) 0 0) none z 0 0 41 [some (.ref x0), some (.int x1), some (.int x2), none] [] M := by
  unfold f_Builder_makePart_41 at h
  refine e_aload_n d_Builder_makePart_41 rfl ?_
  refine e_iload_n d_Builder_makePart_42 rfl ?_
  obtain ⟨M12, hM12, h⟩ := bnd h
  refine e_cVv (mt1 := m_Builder_makeUnit) (As := [.int x1]) (st := []) d_Builder_makePart_43 ml_Builder_108 mv_Builder_makeUnit (t_Builder_makeUnit n d hr_Builder_sumUp hb_Builder_sumUp x0 x1 M M12 hM12) (fc_Builder_makeUnit hM12) rfl rfl rfl (okp rfl) (by omega) (okp rfl) (Nat.le_refl _) (Nat.le_refl _) ?_
  refine e_aload_n d_Builder_makePart_46 rfl ?_
  obtain ⟨v13, hv13, h⟩ := bnd h
  refine e_getI d_Builder_makePart_47 fl_Builder_51 (fun _ _ _ => rfl) hv13 ?_
  refine e_iconst (v := 1) d_Builder_makePart_50 (by decide) ?_
  refine e_isub d_Builder_makePart_51 ?_
  obtain ⟨y14, ey14, h⟩ := nm_s h
  refine e_nameI ey14 ?_
  refine e_istore_n (l2 := [some (.ref x0), some (.int x1), some (.int x2), some (.int y14)]) d_Builder_makePart_52 rfl (okl rfl) rfl ?_
  exact (t_Builder_makePart_53 n d hr_Builder_sumUp hb_Builder_sumUp n x0 x1 x2 y14 M12 z h).less (show LSub _ _ from ⟨rfl, ⟨rfl, ⟨rfl, ⟨rfl, trivial⟩⟩⟩⟩)
def f_Builder_makePart_7 (n : Nat) (r_Builder_sumUp : Nat → Int32 → MM → Option (MM)) (k_41 : Nat → Int32 → Int32 → MM → Option (MM)) : Nat → Nat → Int32 → Int32 → Int32 → MM → Option (MM)
  | 0, _, _, _, _, _ => none
  | m + 1, x0, x1, x2, x3, M =>
    if 400 ≤ x3 then
      k_41 x0 x1 x2 M
    else
      (gR 1 9 x0 M).bind fun v16 =>
      (gI 1 10 x0 M).bind fun v17 =>
      (f_Tokens_kindAt n v16 v17 M).bind fun p18 =>
      (f_Builder_isWord n p18.1 p18.2).bind fun p19 =>
      if p19.1 = 0 then
        k_41 x0 x1 x2 p19.2
      else
        (f_Builder_openWord n x0 p19.2).bind fun M21 =>
        f_Builder_makePart_7 n r_Builder_sumUp k_41 m x0 x1 x2 (x3 + 1) M21
theorem t_Builder_makePart_7 (n : Nat) (d : Nat) {r_Builder_sumUp : Nat → Int32 → MM → Option (MM)} {k_41 : Nat → Int32 → Int32 → MM → Option (MM)} (hr_Builder_sumUp : ∀ (x0 : Nat) (x1 : Int32) (M : MM) (z : MM), r_Builder_sumUp x0 x1 M = some z → CT m_Builder_sumUp (rm d 0 0) [.ref x0, .int x1] M none z) (hb_Builder_sumUp : ∀ (x0 : Nat) (x1 : Int32) (M : MM) (z : MM), r_Builder_sumUp x0 x1 M = some z → (M.1.2.1 x0).1 = 1) (hk_41 : ∀ (x0 : Nat) (x1 : Int32) (x2 : Int32) (M : MM) (z : MM), k_41 x0 x1 x2 M = some z → EV m_Builder_makePart (rm (d + 5) 0 0) none z 0 0 41 [some (.ref x0), some (.int x1), some (.int x2), none] [] M) : ∀ (m : Nat) (x0 : Nat) (x1 : Int32) (x2 : Int32) (x3 : Int32) (M : MM) (z : MM), f_Builder_makePart_7 n r_Builder_sumUp k_41 m x0 x1 x2 x3 M = some z → EV m_Builder_makePart (rm (d + 5) 0 0) none z 0 0 7 [some (.ref x0), some (.int x1), some (.int x2), some (.int x3)] [] M := by
  intro m
  induction m with
  | zero => intro x0 x1 x2 x3 M z h; cases h
  | succ m ih =>
    intro x0 x1 x2 x3 M z h
    rw [f_Builder_makePart_7] at h
    refine e_iload_n d_Builder_makePart_7 rfl ?_
    refine e_sipush (v := 400) d_Builder_makePart_8 (by decide) ?_
    refine e_ic_ge 41 d_Builder_makePart_11 (by decide) (fun c15 => ?_) (fun c15 => ?_)
    · replace h := ift c15 h
      exact (hk_41 x0 x1 x2 M z h).less (show LSub _ _ from ⟨rfl, ⟨rfl, ⟨rfl, trivial⟩⟩⟩)
    · replace h := ifn c15 h
      refine e_aload_n d_Builder_makePart_14 rfl ?_
      obtain ⟨v16, hv16, h⟩ := bnd h
      refine e_getR d_Builder_makePart_15 fl_Builder_12 (fun _ _ _ => rfl) hv16 ?_
      refine e_aload_n d_Builder_makePart_18 rfl ?_
      obtain ⟨v17, hv17, h⟩ := bnd h
      refine e_getI d_Builder_makePart_19 fl_Builder_54 (fun _ _ _ => rfl) hv17 ?_
      obtain ⟨p18, hp18, h⟩ := bnd h
      refine e_cVi (mt1 := m_Tokens_kindAt) (As := [.int v17]) (st := []) d_Builder_makePart_22 ml_Builder_58 mv_Tokens_kindAt (t_Tokens_kindAt n v16 v17 M p18 hp18) (fc_Tokens_kindAt hp18) rfl rfl rfl (okp rfl) (by omega) (okp rfl) (Nat.le_refl _) (Nat.le_refl _) ?_
      obtain ⟨p19, hp19, h⟩ := bnd h
      refine e_cSi (mt1 := m_Builder_isWord) (As := [.int p18.1]) (st := []) d_Builder_makePart_25 ml_Builder_101 ms_Builder_isWord (t_Builder_isWord n p18.1 p18.2 p19 hp19) rfl rfl (okp rfl) (by omega) (okp rfl) (Nat.le_refl _) (Nat.le_refl _) ?_
      refine e_if_eq 41 d_Builder_makePart_28 (by decide) (fun c20 => ?_) (fun c20 => ?_)
      · replace h := ift c20 h
        exact (hk_41 x0 x1 x2 p19.2 z h).less (show LSub _ _ from ⟨rfl, ⟨rfl, ⟨rfl, trivial⟩⟩⟩)
      · replace h := ifn c20 h
        refine e_aload_n d_Builder_makePart_31 rfl ?_
        obtain ⟨M21, hM21, h⟩ := bnd h
        refine e_cVv (mt1 := m_Builder_openWord) (As := []) (st := []) d_Builder_makePart_32 ml_Builder_105 mv_Builder_openWord (t_Builder_openWord n x0 p19.2 M21 hM21) (fc_Builder_openWord hM21) rfl rfl rfl (okp rfl) (by omega) (okp rfl) (Nat.le_refl _) (Nat.le_refl _) ?_
        refine e_iinc (v := x3 + 1) (l2 := [some (.ref x0), some (.int x1), some (.int x2), some (.int (x3 + 1))]) d_Builder_makePart_35 rfl rfl rfl (okl rfl) rfl ?_
        refine e_goto 7 d_Builder_makePart_38 (by decide) ?_
        exact (ih x0 x1 x2 (x3 + 1) M21 z h).less (show LSub _ _ from ⟨rfl, ⟨rfl, ⟨rfl, ⟨rfl, trivial⟩⟩⟩⟩)
def f_Builder_makePart (n : Nat) (r_Builder_sumUp : Nat → Int32 → MM → Option (MM)) (x0 : Nat) (x1 : Int32) (M : MM) : Option (MM) :=
  og 1 x0 M <|
  (gI 1 8 x0 M).bind fun v22 =>
  f_Builder_makePart_7 n r_Builder_sumUp (f_Builder_makePart_41 n r_Builder_sumUp) n x0 x1 v22 0 M
theorem fc_Builder_makePart {n : Nat} {r_Builder_sumUp : Nat → Int32 → MM → Option (MM)} {x0 : Nat} {x1 : Int32} {M : MM} {z : MM} (h : f_Builder_makePart n r_Builder_sumUp x0 x1 M = some z) : (M.1.2.1 x0).1 = 1 := by
  unfold f_Builder_makePart at h
  exact (og_s h).1
theorem t_Builder_makePart (n : Nat) (d : Nat) {r_Builder_sumUp : Nat → Int32 → MM → Option (MM)} (hr_Builder_sumUp : ∀ (x0 : Nat) (x1 : Int32) (M : MM) (z : MM), r_Builder_sumUp x0 x1 M = some z → CT m_Builder_sumUp (rm d 0 0) [.ref x0, .int x1] M none z) (hb_Builder_sumUp : ∀ (x0 : Nat) (x1 : Int32) (M : MM) (z : MM), r_Builder_sumUp x0 x1 M = some z → (M.1.2.1 x0).1 = 1) (x0 : Nat) (x1 : Int32) (M : MM) (z : MM) (h : f_Builder_makePart n r_Builder_sumUp x0 x1 M = some z) : CT m_Builder_makePart (rm (d + 5) 0 0) [.ref x0, .int x1] M none z := by
  unfold f_Builder_makePart at h
  obtain ⟨hthis, h⟩ := og_s h
  refine CT.of (ls := [some (.ref x0), some (.int x1), none, none]) rfl (okp rfl) rfl ?_
  refine e_aload_n d_Builder_makePart_0 rfl ?_
  obtain ⟨v22, hv22, h⟩ := bnd h
  refine e_getI d_Builder_makePart_1 fl_Builder_51 (fun _ _ _ => rfl) hv22 ?_
  refine e_istore_n (l2 := [some (.ref x0), some (.int x1), some (.int v22), none]) d_Builder_makePart_4 rfl (okl rfl) rfl ?_
  refine e_iconst (v := 0) d_Builder_makePart_5 (by decide) ?_
  refine e_istore_n (l2 := [some (.ref x0), some (.int x1), some (.int v22), some (.int 0)]) d_Builder_makePart_6 rfl (okl rfl) rfl ?_
  exact (t_Builder_makePart_7 n d hr_Builder_sumUp hb_Builder_sumUp (t_Builder_makePart_41 n d hr_Builder_sumUp hb_Builder_sumUp) n x0 x1 v22 0 M z h).less (show LSub _ _ from ⟨rfl, ⟨rfl, ⟨rfl, ⟨rfl, trivial⟩⟩⟩⟩)
theorem d_Builder_combine_0 : DC m_Builder_combine 0 (.iload_n 1) 1 1 := ⟨by decide +kernel, rfl⟩
theorem d_Builder_combine_1 : DC m_Builder_combine 1 (.bipush 43) 2 3 := ⟨by decide +kernel, rfl⟩
theorem d_Builder_combine_3 : DC m_Builder_combine 3 (.if_icmp .ne 11) 3 6 := ⟨by decide +kernel, rfl⟩
theorem d_Builder_combine_6 : DC m_Builder_combine 6 (.aload_n 0) 1 7 := ⟨by decide +kernel, rfl⟩
theorem d_Builder_combine_7 : DC m_Builder_combine 7 (.aload_n 2) 1 8 := ⟨by decide +kernel, rfl⟩
theorem d_Builder_combine_8 : DC m_Builder_combine 8 (.invokevirtual 92) 3 11 := ⟨by decide +kernel, rfl⟩
theorem d_Builder_combine_11 : DC m_Builder_combine 11 (.goto 22) 3 14 := ⟨by decide +kernel, rfl⟩
theorem d_Builder_combine_14 : DC m_Builder_combine 14 (.iload_n 1) 1 15 := ⟨by decide +kernel, rfl⟩
theorem d_Builder_combine_15 : DC m_Builder_combine 15 (.bipush 45) 2 17 := ⟨by decide +kernel, rfl⟩
theorem d_Builder_combine_17 : DC m_Builder_combine 17 (.if_icmp .ne 11) 3 20 := ⟨by decide +kernel, rfl⟩
theorem d_Builder_combine_20 : DC m_Builder_combine 20 (.aload_n 0) 1 21 := ⟨by decide +kernel, rfl⟩
theorem d_Builder_combine_21 : DC m_Builder_combine 21 (.aload_n 2) 1 22 := ⟨by decide +kernel, rfl⟩
theorem d_Builder_combine_22 : DC m_Builder_combine 22 (.invokevirtual 95) 3 25 := ⟨by decide +kernel, rfl⟩
theorem d_Builder_combine_25 : DC m_Builder_combine 25 (.goto 8) 3 28 := ⟨by decide +kernel, rfl⟩
theorem d_Builder_combine_28 : DC m_Builder_combine 28 (.aload_n 0) 1 29 := ⟨by decide +kernel, rfl⟩
theorem d_Builder_combine_29 : DC m_Builder_combine 29 (.aload_n 2) 1 30 := ⟨by decide +kernel, rfl⟩
theorem d_Builder_combine_30 : DC m_Builder_combine 30 (.invokevirtual 98) 3 33 := ⟨by decide +kernel, rfl⟩
theorem d_Builder_combine_33 : DC m_Builder_combine 33 .return_ 1 34 := ⟨by decide +kernel, rfl⟩
def f_Builder_combine (n : Nat) (x0 : Nat) (x1 : Int32) (x2 : Nat) (M : MM) : Option (MM) :=
  if x1 = 43 then
    (f_Shape_join n x0 x2 M).bind fun M2 =>
    some M2
  else
    if x1 = 45 then
      (f_Shape_takeAway n x0 x2 M).bind fun M4 =>
      some M4
    else
      (f_Shape_keepCommon n x0 x2 M).bind fun M5 =>
      some M5
theorem t_Builder_combine (n : Nat) (x0 : Nat) (x1 : Int32) (x2 : Nat) (M : MM) (z : MM) (h : f_Builder_combine n x0 x1 x2 M = some z) : CT m_Builder_combine (rm 2 0 0) [.ref x0, .int x1, .ref x2] M none z := by
  unfold f_Builder_combine at h
  refine CT.of (ls := [some (.ref x0), some (.int x1), some (.ref x2)]) rfl (okp rfl) rfl ?_
  refine e_iload_n d_Builder_combine_0 rfl ?_
  refine e_bipush (v := 43) d_Builder_combine_1 (by decide) ?_
  refine e_ic_ne 14 d_Builder_combine_3 (by decide) (fun c1 => ?_) (fun c1 => ?_)
  · replace h := ifn c1 h
    refine e_iload_n d_Builder_combine_14 rfl ?_
    refine e_bipush (v := 45) d_Builder_combine_15 (by decide) ?_
    refine e_ic_ne 28 d_Builder_combine_17 (by decide) (fun c3 => ?_) (fun c3 => ?_)
    · replace h := ifn c3 h
      refine e_aload_n d_Builder_combine_28 rfl ?_
      refine e_aload_n d_Builder_combine_29 rfl ?_
      obtain ⟨M5, hM5, h⟩ := bnd h
      refine e_cVv (mt1 := m_Shape_keepCommon) (As := [.ref x2]) (st := []) d_Builder_combine_30 ml_Builder_98 mv_Shape_keepCommon (t_Shape_keepCommon n x0 x2 M M5 hM5) (fc_Shape_keepCommon hM5) rfl rfl rfl (okp rfl) (okp rfl) (okp rfl) (Nat.le_refl _) (Nat.le_refl _) ?_
      cases h
      exact e_vret d_Builder_combine_33 rfl (Nat.le_refl _) (Nat.le_refl _)
    · replace h := ift c3 h
      refine e_aload_n d_Builder_combine_20 rfl ?_
      refine e_aload_n d_Builder_combine_21 rfl ?_
      obtain ⟨M4, hM4, h⟩ := bnd h
      refine e_cVv (mt1 := m_Shape_takeAway) (As := [.ref x2]) (st := []) d_Builder_combine_22 ml_Builder_95 mv_Shape_takeAway (t_Shape_takeAway n x0 x2 M M4 hM4) (fc_Shape_takeAway hM4) rfl rfl rfl (okp rfl) (okp rfl) (okp rfl) (Nat.le_refl _) (Nat.le_refl _) ?_
      refine e_goto 33 d_Builder_combine_25 (by decide) ?_
      cases h
      exact e_vret d_Builder_combine_33 rfl (Nat.le_refl _) (Nat.le_refl _)
  · replace h := ift c1 h
    refine e_aload_n d_Builder_combine_6 rfl ?_
    refine e_aload_n d_Builder_combine_7 rfl ?_
    obtain ⟨M2, hM2, h⟩ := bnd h
    refine e_cVv (mt1 := m_Shape_join) (As := [.ref x2]) (st := []) d_Builder_combine_8 ml_Builder_92 mv_Shape_join (t_Shape_join n x0 x2 M M2 hM2) (fc_Shape_join hM2) rfl rfl rfl (okp rfl) (okp rfl) (okp rfl) (Nat.le_refl _) (Nat.le_refl _) ?_
    refine e_goto 33 d_Builder_combine_11 (by decide) ?_
    cases h
    exact e_vret d_Builder_combine_33 rfl (Nat.le_refl _) (Nat.le_refl _)
theorem d_Builder_sumUp_0 : DC m_Builder_sumUp 0 (.iload_n 1) 1 1 := ⟨by decide +kernel, rfl⟩
theorem d_Builder_sumUp_1 : DC m_Builder_sumUp 1 (.bipush 7) 2 3 := ⟨by decide +kernel, rfl⟩
theorem d_Builder_sumUp_3 : DC m_Builder_sumUp 3 (.if_icmp .lt 4) 3 6 := ⟨by decide +kernel, rfl⟩
theorem d_Builder_sumUp_6 : DC m_Builder_sumUp 6 .return_ 1 7 := ⟨by decide +kernel, rfl⟩
theorem d_Builder_sumUp_7 : DC m_Builder_sumUp 7 (.aload_n 0) 1 8 := ⟨by decide +kernel, rfl⟩
theorem d_Builder_sumUp_8 : DC m_Builder_sumUp 8 (.iload_n 1) 1 9 := ⟨by decide +kernel, rfl⟩
theorem d_Builder_sumUp_9 : DC m_Builder_sumUp 9 (.invokevirtual 85) 3 12 := ⟨by decide +kernel, rfl⟩
theorem d_Builder_sumUp_12 : DC m_Builder_sumUp 12 (.aload_n 0) 1 13 := ⟨by decide +kernel, rfl⟩
theorem d_Builder_sumUp_13 : DC m_Builder_sumUp 13 (.getfield 36) 3 16 := ⟨by decide +kernel, rfl⟩
theorem d_Builder_sumUp_16 : DC m_Builder_sumUp 16 (.iload_n 1) 1 17 := ⟨by decide +kernel, rfl⟩
theorem d_Builder_sumUp_17 : DC m_Builder_sumUp 17 .aaload 1 18 := ⟨by decide +kernel, rfl⟩
theorem d_Builder_sumUp_18 : DC m_Builder_sumUp 18 (.aload_n 0) 1 19 := ⟨by decide +kernel, rfl⟩
theorem d_Builder_sumUp_19 : DC m_Builder_sumUp 19 (.getfield 39) 3 22 := ⟨by decide +kernel, rfl⟩
theorem d_Builder_sumUp_22 : DC m_Builder_sumUp 22 (.iload_n 1) 1 23 := ⟨by decide +kernel, rfl⟩
theorem d_Builder_sumUp_23 : DC m_Builder_sumUp 23 .aaload 1 24 := ⟨by decide +kernel, rfl⟩
theorem d_Builder_sumUp_24 : DC m_Builder_sumUp 24 (.invokevirtual 81) 3 27 := ⟨by decide +kernel, rfl⟩
theorem d_Builder_sumUp_27 : DC m_Builder_sumUp 27 (.iconst 0) 1 28 := ⟨by decide +kernel, rfl⟩
theorem d_Builder_sumUp_28 : DC m_Builder_sumUp 28 (.istore_n 2) 1 29 := ⟨by decide +kernel, rfl⟩
theorem d_Builder_sumUp_29 : DC m_Builder_sumUp 29 (.iload_n 2) 1 30 := ⟨by decide +kernel, rfl⟩
theorem d_Builder_sumUp_30 : DC m_Builder_sumUp 30 (.sipush 400) 3 33 := ⟨by decide +kernel, rfl⟩
theorem d_Builder_sumUp_33 : DC m_Builder_sumUp 33 (.if_icmp .ge 81) 3 36 := ⟨by decide +kernel, rfl⟩
theorem d_Builder_sumUp_36 : DC m_Builder_sumUp 36 (.aload_n 0) 1 37 := ⟨by decide +kernel, rfl⟩
theorem d_Builder_sumUp_37 : DC m_Builder_sumUp 37 (.getfield 12) 3 40 := ⟨by decide +kernel, rfl⟩
theorem d_Builder_sumUp_40 : DC m_Builder_sumUp 40 (.getfield 70) 3 43 := ⟨by decide +kernel, rfl⟩
theorem d_Builder_sumUp_43 : DC m_Builder_sumUp 43 (.ifCond .ne 71) 3 46 := ⟨by decide +kernel, rfl⟩
theorem d_Builder_sumUp_46 : DC m_Builder_sumUp 46 (.aload_n 0) 1 47 := ⟨by decide +kernel, rfl⟩
theorem d_Builder_sumUp_47 : DC m_Builder_sumUp 47 (.getfield 12) 3 50 := ⟨by decide +kernel, rfl⟩
theorem d_Builder_sumUp_50 : DC m_Builder_sumUp 50 (.aload_n 0) 1 51 := ⟨by decide +kernel, rfl⟩
theorem d_Builder_sumUp_51 : DC m_Builder_sumUp 51 (.getfield 54) 3 54 := ⟨by decide +kernel, rfl⟩
theorem d_Builder_sumUp_54 : DC m_Builder_sumUp 54 (.invokevirtual 58) 3 57 := ⟨by decide +kernel, rfl⟩
theorem d_Builder_sumUp_57 : DC m_Builder_sumUp 57 (.istore_n 3) 1 58 := ⟨by decide +kernel, rfl⟩
theorem d_Builder_sumUp_58 : DC m_Builder_sumUp 58 (.iload_n 3) 1 59 := ⟨by decide +kernel, rfl⟩
theorem d_Builder_sumUp_59 : DC m_Builder_sumUp 59 (.bipush 43) 2 61 := ⟨by decide +kernel, rfl⟩
theorem d_Builder_sumUp_61 : DC m_Builder_sumUp 61 (.if_icmp .eq 16) 3 64 := ⟨by decide +kernel, rfl⟩
theorem d_Builder_sumUp_64 : DC m_Builder_sumUp 64 (.iload_n 3) 1 65 := ⟨by decide +kernel, rfl⟩
theorem d_Builder_sumUp_65 : DC m_Builder_sumUp 65 (.bipush 45) 2 67 := ⟨by decide +kernel, rfl⟩
theorem d_Builder_sumUp_67 : DC m_Builder_sumUp 67 (.if_icmp .eq 10) 3 70 := ⟨by decide +kernel, rfl⟩
theorem d_Builder_sumUp_70 : DC m_Builder_sumUp 70 (.iload_n 3) 1 71 := ⟨by decide +kernel, rfl⟩
theorem d_Builder_sumUp_71 : DC m_Builder_sumUp 71 (.bipush 38) 2 73 := ⟨by decide +kernel, rfl⟩
theorem d_Builder_sumUp_73 : DC m_Builder_sumUp 73 (.if_icmp .eq 4) 3 76 := ⟨by decide +kernel, rfl⟩
theorem d_Builder_sumUp_76 : DC m_Builder_sumUp 76 .return_ 1 77 := ⟨by decide +kernel, rfl⟩
theorem d_Builder_sumUp_77 : DC m_Builder_sumUp 77 (.aload_n 0) 1 78 := ⟨by decide +kernel, rfl⟩
theorem d_Builder_sumUp_78 : DC m_Builder_sumUp 78 .dup 1 79 := ⟨by decide +kernel, rfl⟩
theorem d_Builder_sumUp_79 : DC m_Builder_sumUp 79 (.getfield 54) 3 82 := ⟨by decide +kernel, rfl⟩
theorem d_Builder_sumUp_82 : DC m_Builder_sumUp 82 (.iconst 1) 1 83 := ⟨by decide +kernel, rfl⟩
theorem d_Builder_sumUp_83 : DC m_Builder_sumUp 83 .iadd 1 84 := ⟨by decide +kernel, rfl⟩
theorem d_Builder_sumUp_84 : DC m_Builder_sumUp 84 (.putfield 54) 3 87 := ⟨by decide +kernel, rfl⟩
theorem d_Builder_sumUp_87 : DC m_Builder_sumUp 87 (.aload_n 0) 1 88 := ⟨by decide +kernel, rfl⟩
theorem d_Builder_sumUp_88 : DC m_Builder_sumUp 88 (.iload_n 1) 1 89 := ⟨by decide +kernel, rfl⟩
theorem d_Builder_sumUp_89 : DC m_Builder_sumUp 89 (.invokevirtual 85) 3 92 := ⟨by decide +kernel, rfl⟩
theorem d_Builder_sumUp_92 : DC m_Builder_sumUp 92 (.aload_n 0) 1 93 := ⟨by decide +kernel, rfl⟩
theorem d_Builder_sumUp_93 : DC m_Builder_sumUp 93 (.getfield 36) 3 96 := ⟨by decide +kernel, rfl⟩
theorem d_Builder_sumUp_96 : DC m_Builder_sumUp 96 (.iload_n 1) 1 97 := ⟨by decide +kernel, rfl⟩
theorem d_Builder_sumUp_97 : DC m_Builder_sumUp 97 .aaload 1 98 := ⟨by decide +kernel, rfl⟩
theorem d_Builder_sumUp_98 : DC m_Builder_sumUp 98 (.iload_n 3) 1 99 := ⟨by decide +kernel, rfl⟩
theorem d_Builder_sumUp_99 : DC m_Builder_sumUp 99 (.aload_n 0) 1 100 := ⟨by decide +kernel, rfl⟩
theorem d_Builder_sumUp_100 : DC m_Builder_sumUp 100 (.getfield 39) 3 103 := ⟨by decide +kernel, rfl⟩
theorem d_Builder_sumUp_103 : DC m_Builder_sumUp 103 (.iload_n 1) 1 104 := ⟨by decide +kernel, rfl⟩
theorem d_Builder_sumUp_104 : DC m_Builder_sumUp 104 .aaload 1 105 := ⟨by decide +kernel, rfl⟩
theorem d_Builder_sumUp_105 : DC m_Builder_sumUp 105 (.invokestatic 88) 3 108 := ⟨by decide +kernel, rfl⟩
theorem d_Builder_sumUp_108 : DC m_Builder_sumUp 108 (.iinc 2 1) 3 111 := ⟨by decide +kernel, rfl⟩
theorem d_Builder_sumUp_111 : DC m_Builder_sumUp 111 (.goto (-82)) 3 114 := ⟨by decide +kernel, rfl⟩
theorem d_Builder_sumUp_114 : DC m_Builder_sumUp 114 .return_ 1 115 := ⟨by decide +kernel, rfl⟩
def f_Builder_sumUp_77 (n : Nat) (r_Builder_sumUp : Nat → Int32 → MM → Option (MM)) (k_29 : Nat → Int32 → Int32 → MM → Option (MM)) (x0 : Nat) (x1 : Int32) (x2 : Int32) (x3 : Int32) (M : MM) : Option (MM) :=
  (gI 1 10 x0 M).bind fun v1 =>
  (pI 1 10 x0 (v1 + 1) M).bind fun M2 =>
  (f_Builder_makePart n r_Builder_sumUp x0 x1 M2).bind fun M3 =>
  (gR 1 4 x0 M3).bind fun v4 =>
  (aR 104 v4 x1 M3).bind fun v5 =>
  (gR 1 5 x0 M3).bind fun v6 =>
  (aR 104 v6 x1 M3).bind fun v7 =>
  (f_Builder_combine n v5 x3 v7 M3).bind fun M8 =>
  k_29 x0 x1 (x2 + 1) M8
theorem t_Builder_sumUp_77 (n : Nat) (d : Nat) {r_Builder_sumUp : Nat → Int32 → MM → Option (MM)} {k_29 : Nat → Int32 → Int32 → MM → Option (MM)} (hr_Builder_sumUp : ∀ (x0 : Nat) (x1 : Int32) (M : MM) (z : MM), r_Builder_sumUp x0 x1 M = some z → CT m_Builder_sumUp (rm d 0 0) [.ref x0, .int x1] M none z) (hb_Builder_sumUp : ∀ (x0 : Nat) (x1 : Int32) (M : MM) (z : MM), r_Builder_sumUp x0 x1 M = some z → (M.1.2.1 x0).1 = 1) (hk_29 : ∀ (x0 : Nat) (x1 : Int32) (x2 : Int32) (M : MM) (z : MM), k_29 x0 x1 x2 M = some z → EV m_Builder_sumUp (rm (d + 6) 0 0) none z 0 0 29 [some (.ref x0), some (.int x1), some (.int x2), none] [] M) (x0 : Nat) (x1 : Int32) (x2 : Int32) (x3 : Int32) (M : MM) (z : MM) (h : f_Builder_sumUp_77 n r_Builder_sumUp k_29 x0 x1 x2 x3 M = some z) : EV m_Builder_sumUp (rm (d + 6) 0 0) none z 0 0 77 [some (.ref x0), some (.int x1), some (.int x2), some (.int x3)] [] M := by
  unfold f_Builder_sumUp_77 at h
  refine e_aload_n d_Builder_sumUp_77 rfl ?_
  refine e_dup d_Builder_sumUp_78 rfl ?_
  obtain ⟨v1, hv1, h⟩ := bnd h
  refine e_getI d_Builder_sumUp_79 fl_Builder_54 (fun _ _ _ => rfl) hv1 ?_
  refine e_iconst (v := 1) d_Builder_sumUp_82 (by decide) ?_
  refine e_iadd d_Builder_sumUp_83 ?_
  obtain ⟨M2, hM2, h⟩ := bnd h
  refine e_putI d_Builder_sumUp_84 fl_Builder_54 (Or.inl rfl) (fun _ _ _ => rfl) rfl hM2 ?_
  refine e_aload_n d_Builder_sumUp_87 rfl ?_
  refine e_iload_n d_Builder_sumUp_88 rfl ?_
  obtain ⟨M3, hM3, h⟩ := bnd h
  refine e_cVv (mt1 := m_Builder_makePart) (As := [.int x1]) (st := []) d_Builder_sumUp_89 ml_Builder_85 mv_Builder_makePart (t_Builder_makePart n d hr_Builder_sumUp hb_Builder_sumUp x0 x1 M2 M3 hM3) (fc_Builder_makePart hM3) rfl rfl rfl (okp rfl) (by omega) (okp rfl) (Nat.le_refl _) (Nat.le_refl _) ?_
  refine e_aload_n d_Builder_sumUp_92 rfl ?_
  obtain ⟨v4, hv4, h⟩ := bnd h
  refine e_getR d_Builder_sumUp_93 fl_Builder_36 (fun _ _ _ => rfl) hv4 ?_
  refine e_iload_n d_Builder_sumUp_96 rfl ?_
  obtain ⟨v5, hv5, h⟩ := bnd h
  refine e_aald (kd := 104) d_Builder_sumUp_97 (by decide) hv5 ?_
  refine e_iload_n d_Builder_sumUp_98 rfl ?_
  refine e_aload_n d_Builder_sumUp_99 rfl ?_
  obtain ⟨v6, hv6, h⟩ := bnd h
  refine e_getR d_Builder_sumUp_100 fl_Builder_39 (fun _ _ _ => rfl) hv6 ?_
  refine e_iload_n d_Builder_sumUp_103 rfl ?_
  obtain ⟨v7, hv7, h⟩ := bnd h
  refine e_aald (kd := 104) d_Builder_sumUp_104 (by decide) hv7 ?_
  obtain ⟨M8, hM8, h⟩ := bnd h
  refine e_cSv (mt1 := m_Builder_combine) (As := [.ref v5, .int x3, .ref v7]) (st := []) d_Builder_sumUp_105 ml_Builder_88 ms_Builder_combine (t_Builder_combine n v5 x3 v7 M3 M8 hM8) rfl rfl (okp rfl) (by omega) (okp rfl) (Nat.le_refl _) (Nat.le_refl _) ?_
  refine e_iinc (v := x2 + 1) (l2 := [some (.ref x0), some (.int x1), some (.int (x2 + 1)), some (.int x3)]) d_Builder_sumUp_108 rfl rfl rfl (okl rfl) rfl ?_
  refine e_goto 29 d_Builder_sumUp_111 (by decide) ?_
  exact (hk_29 x0 x1 (x2 + 1) M8 z h).less (show LSub _ _ from ⟨rfl, ⟨rfl, ⟨rfl, trivial⟩⟩⟩)
def f_Builder_sumUp_29 (n : Nat) (r_Builder_sumUp : Nat → Int32 → MM → Option (MM)) : Nat → Nat → Int32 → Int32 → MM → Option (MM)
  | 0, _, _, _, _ => none
  | m + 1, x0, x1, x2, M =>
    if 400 ≤ x2 then
      some M
    else
      (gR 1 9 x0 M).bind fun v10 =>
      (gI 10 5 v10 M).bind fun v11 =>
      if v11 = 0 then
        (gR 1 9 x0 M).bind fun v13 =>
        (gI 1 10 x0 M).bind fun v14 =>
        (f_Tokens_kindAt n v13 v14 M).bind fun p15 =>
        if p15.1 = 43 then
          f_Builder_sumUp_77 n r_Builder_sumUp (f_Builder_sumUp_29 n r_Builder_sumUp m) x0 x1 x2 p15.1 p15.2
        else
          if p15.1 = 45 then
            f_Builder_sumUp_77 n r_Builder_sumUp (f_Builder_sumUp_29 n r_Builder_sumUp m) x0 x1 x2 p15.1 p15.2
          else
            if p15.1 = 38 then
              f_Builder_sumUp_77 n r_Builder_sumUp (f_Builder_sumUp_29 n r_Builder_sumUp m) x0 x1 x2 p15.1 p15.2
            else
              some p15.2
      else
        some M
theorem t_Builder_sumUp_29 (n : Nat) (d : Nat) {r_Builder_sumUp : Nat → Int32 → MM → Option (MM)} (hr_Builder_sumUp : ∀ (x0 : Nat) (x1 : Int32) (M : MM) (z : MM), r_Builder_sumUp x0 x1 M = some z → CT m_Builder_sumUp (rm d 0 0) [.ref x0, .int x1] M none z) (hb_Builder_sumUp : ∀ (x0 : Nat) (x1 : Int32) (M : MM) (z : MM), r_Builder_sumUp x0 x1 M = some z → (M.1.2.1 x0).1 = 1) : ∀ (m : Nat) (x0 : Nat) (x1 : Int32) (x2 : Int32) (M : MM) (z : MM), f_Builder_sumUp_29 n r_Builder_sumUp m x0 x1 x2 M = some z → EV m_Builder_sumUp (rm (d + 6) 0 0) none z 0 0 29 [some (.ref x0), some (.int x1), some (.int x2), none] [] M := by
  intro m
  induction m with
  | zero => intro x0 x1 x2 M z h; cases h
  | succ m ih =>
    intro x0 x1 x2 M z h
    rw [f_Builder_sumUp_29] at h
    refine e_iload_n d_Builder_sumUp_29 rfl ?_
    refine e_sipush (v := 400) d_Builder_sumUp_30 (by decide) ?_
    refine e_ic_ge 114 d_Builder_sumUp_33 (by decide) (fun c9 => ?_) (fun c9 => ?_)
    · replace h := ift c9 h
      cases h
      exact e_vret d_Builder_sumUp_114 rfl (Nat.le_refl _) (Nat.le_refl _)
    · replace h := ifn c9 h
      refine e_aload_n d_Builder_sumUp_36 rfl ?_
      obtain ⟨v10, hv10, h⟩ := bnd h
      refine e_getR d_Builder_sumUp_37 fl_Builder_12 (fun _ _ _ => rfl) hv10 ?_
      obtain ⟨v11, hv11, h⟩ := bnd h
      refine e_getI d_Builder_sumUp_40 fl_Builder_70 (fun _ _ _ => rfl) hv11 ?_
      refine e_if_ne 114 d_Builder_sumUp_43 (by decide) (fun c12 => ?_) (fun c12 => ?_)
      · replace h := ifn c12 h
        cases h
        exact e_vret d_Builder_sumUp_114 rfl (Nat.le_refl _) (Nat.le_refl _)
      · replace h := ift c12 h
        refine e_aload_n d_Builder_sumUp_46 rfl ?_
        obtain ⟨v13, hv13, h⟩ := bnd h
        refine e_getR d_Builder_sumUp_47 fl_Builder_12 (fun _ _ _ => rfl) hv13 ?_
        refine e_aload_n d_Builder_sumUp_50 rfl ?_
        obtain ⟨v14, hv14, h⟩ := bnd h
        refine e_getI d_Builder_sumUp_51 fl_Builder_54 (fun _ _ _ => rfl) hv14 ?_
        obtain ⟨p15, hp15, h⟩ := bnd h
        refine e_cVi (mt1 := m_Tokens_kindAt) (As := [.int v14]) (st := []) d_Builder_sumUp_54 ml_Builder_58 mv_Tokens_kindAt (t_Tokens_kindAt n v13 v14 M p15 hp15) (fc_Tokens_kindAt hp15) rfl rfl rfl (okp rfl) (by omega) (okp rfl) (Nat.le_refl _) (Nat.le_refl _) ?_
        refine e_istore_n (l2 := [some (.ref x0), some (.int x1), some (.int x2), some (.int p15.1)]) d_Builder_sumUp_57 rfl (okl rfl) rfl ?_
        refine e_iload_n d_Builder_sumUp_58 rfl ?_
        refine e_bipush (v := 43) d_Builder_sumUp_59 (by decide) ?_
        refine e_ic_eq 77 d_Builder_sumUp_61 (by decide) (fun c16 => ?_) (fun c16 => ?_)
        · replace h := ift c16 h
          exact (t_Builder_sumUp_77 n d hr_Builder_sumUp hb_Builder_sumUp ih x0 x1 x2 p15.1 p15.2 z h).less (show LSub _ _ from ⟨rfl, ⟨rfl, ⟨rfl, ⟨rfl, trivial⟩⟩⟩⟩)
        · replace h := ifn c16 h
          refine e_iload_n d_Builder_sumUp_64 rfl ?_
          refine e_bipush (v := 45) d_Builder_sumUp_65 (by decide) ?_
          refine e_ic_eq 77 d_Builder_sumUp_67 (by decide) (fun c17 => ?_) (fun c17 => ?_)
          · replace h := ift c17 h
            exact (t_Builder_sumUp_77 n d hr_Builder_sumUp hb_Builder_sumUp ih x0 x1 x2 p15.1 p15.2 z h).less (show LSub _ _ from ⟨rfl, ⟨rfl, ⟨rfl, ⟨rfl, trivial⟩⟩⟩⟩)
          · replace h := ifn c17 h
            refine e_iload_n d_Builder_sumUp_70 rfl ?_
            refine e_bipush (v := 38) d_Builder_sumUp_71 (by decide) ?_
            refine e_ic_eq 77 d_Builder_sumUp_73 (by decide) (fun c18 => ?_) (fun c18 => ?_)
            · replace h := ift c18 h
              exact (t_Builder_sumUp_77 n d hr_Builder_sumUp hb_Builder_sumUp ih x0 x1 x2 p15.1 p15.2 z h).less (show LSub _ _ from ⟨rfl, ⟨rfl, ⟨rfl, ⟨rfl, trivial⟩⟩⟩⟩)
            · replace h := ifn c18 h
              cases h
              exact e_vret d_Builder_sumUp_76 rfl (Nat.le_refl _) (Nat.le_refl _)
def f_Builder_sumUp (n : Nat) (r_Builder_sumUp : Nat → Int32 → MM → Option (MM)) (x0 : Nat) (x1 : Int32) (M : MM) : Option (MM) :=
  og 1 x0 M <|
  if x1 < 7 then
    (f_Builder_makePart n r_Builder_sumUp x0 x1 M).bind fun M20 =>
    (gR 1 4 x0 M20).bind fun v21 =>
    (aR 104 v21 x1 M20).bind fun v22 =>
    (gR 1 5 x0 M20).bind fun v23 =>
    (aR 104 v23 x1 M20).bind fun v24 =>
    (f_Shape_copy n v22 v24 M20).bind fun M25 =>
    f_Builder_sumUp_29 n r_Builder_sumUp n x0 x1 0 M25
  else
    some M
theorem fc_Builder_sumUp {n : Nat} {r_Builder_sumUp : Nat → Int32 → MM → Option (MM)} {x0 : Nat} {x1 : Int32} {M : MM} {z : MM} (h : f_Builder_sumUp n r_Builder_sumUp x0 x1 M = some z) : (M.1.2.1 x0).1 = 1 := by
  unfold f_Builder_sumUp at h
  exact (og_s h).1
theorem t_Builder_sumUp (n : Nat) (d : Nat) {r_Builder_sumUp : Nat → Int32 → MM → Option (MM)} (hr_Builder_sumUp : ∀ (x0 : Nat) (x1 : Int32) (M : MM) (z : MM), r_Builder_sumUp x0 x1 M = some z → CT m_Builder_sumUp (rm d 0 0) [.ref x0, .int x1] M none z) (hb_Builder_sumUp : ∀ (x0 : Nat) (x1 : Int32) (M : MM) (z : MM), r_Builder_sumUp x0 x1 M = some z → (M.1.2.1 x0).1 = 1) (x0 : Nat) (x1 : Int32) (M : MM) (z : MM) (h : f_Builder_sumUp n r_Builder_sumUp x0 x1 M = some z) : CT m_Builder_sumUp (rm (d + 6) 0 0) [.ref x0, .int x1] M none z := by
  unfold f_Builder_sumUp at h
  obtain ⟨hthis, h⟩ := og_s h
  refine CT.of (ls := [some (.ref x0), some (.int x1), none, none]) rfl (okp rfl) rfl ?_
  refine e_iload_n d_Builder_sumUp_0 rfl ?_
  refine e_bipush (v := 7) d_Builder_sumUp_1 (by decide) ?_
  refine e_ic_lt 7 d_Builder_sumUp_3 (by decide) (fun c19 => ?_) (fun c19 => ?_)
  · replace h := ift c19 h
    refine e_aload_n d_Builder_sumUp_7 rfl ?_
    refine e_iload_n d_Builder_sumUp_8 rfl ?_
    obtain ⟨M20, hM20, h⟩ := bnd h
    refine e_cVv (mt1 := m_Builder_makePart) (As := [.int x1]) (st := []) d_Builder_sumUp_9 ml_Builder_85 mv_Builder_makePart (t_Builder_makePart n d hr_Builder_sumUp hb_Builder_sumUp x0 x1 M M20 hM20) (fc_Builder_makePart hM20) rfl rfl rfl (okp rfl) (by omega) (okp rfl) (Nat.le_refl _) (Nat.le_refl _) ?_
    refine e_aload_n d_Builder_sumUp_12 rfl ?_
    obtain ⟨v21, hv21, h⟩ := bnd h
    refine e_getR d_Builder_sumUp_13 fl_Builder_36 (fun _ _ _ => rfl) hv21 ?_
    refine e_iload_n d_Builder_sumUp_16 rfl ?_
    obtain ⟨v22, hv22, h⟩ := bnd h
    refine e_aald (kd := 104) d_Builder_sumUp_17 (by decide) hv22 ?_
    refine e_aload_n d_Builder_sumUp_18 rfl ?_
    obtain ⟨v23, hv23, h⟩ := bnd h
    refine e_getR d_Builder_sumUp_19 fl_Builder_39 (fun _ _ _ => rfl) hv23 ?_
    refine e_iload_n d_Builder_sumUp_22 rfl ?_
    obtain ⟨v24, hv24, h⟩ := bnd h
    refine e_aald (kd := 104) d_Builder_sumUp_23 (by decide) hv24 ?_
    obtain ⟨M25, hM25, h⟩ := bnd h
    refine e_cVv (mt1 := m_Shape_copy) (As := [.ref v24]) (st := []) d_Builder_sumUp_24 ml_Builder_81 mv_Shape_copy (t_Shape_copy n v22 v24 M20 M25 hM25) (fc_Shape_copy hM25) rfl rfl rfl (okp rfl) (by omega) (okp rfl) (Nat.le_refl _) (Nat.le_refl _) ?_
    refine e_iconst (v := 0) d_Builder_sumUp_27 (by decide) ?_
    refine e_istore_n (l2 := [some (.ref x0), some (.int x1), some (.int 0), none]) d_Builder_sumUp_28 rfl (okl rfl) rfl ?_
    exact (t_Builder_sumUp_29 n d hr_Builder_sumUp hb_Builder_sumUp n x0 x1 0 M25 z h).less (show LSub _ _ from ⟨rfl, ⟨rfl, ⟨rfl, trivial⟩⟩⟩)
  · replace h := ifn c19 h
    cases h
    exact e_vret d_Builder_sumUp_6 rfl (Nat.le_refl _) (Nat.le_refl _)
def F_Builder_sumUp (n : Nat) : Nat → Nat → Int32 → MM → Option (MM)
  | 0, _, _, _ => none
  | j + 1, x0, x1, M => f_Builder_sumUp n (F_Builder_sumUp n j) x0 x1 M
theorem FC_Builder_sumUp {n : Nat} : ∀ {j : Nat} {x0 : Nat} {x1 : Int32} {M : MM} {z : MM}, F_Builder_sumUp n j x0 x1 M = some z → (M.1.2.1 x0).1 = 1
  | 0, _, _, _, _, h => by cases h
  | j + 1, _, _, _, _, h => fc_Builder_sumUp (by rw [F_Builder_sumUp] at h; exact h)
theorem T_Builder_sumUp (n : Nat) : ∀ (j : Nat) (x0 : Nat) (x1 : Int32) (M : MM) (z : MM), F_Builder_sumUp n j x0 x1 M = some z → CT m_Builder_sumUp (rm (6 * j) 0 0) [.ref x0, .int x1] M none z
  | 0, _, _, _, _, h => by cases h
  | j + 1, x0, x1, M, z, h => by
    rw [F_Builder_sumUp] at h
    have := t_Builder_sumUp n (6 * j) (T_Builder_sumUp n j) (fun x0 x1 M z h => FC_Builder_sumUp h) x0 x1 M z h
    rw [Nat.mul_succ]; exact this
theorem d_Builder_build_0 : DC m_Builder_build 0 (.aload_n 0) 1 1 := ⟨by decide +kernel, rfl⟩
theorem d_Builder_build_1 : DC m_Builder_build 1 (.iconst 0) 1 2 := ⟨by decide +kernel, rfl⟩
theorem d_Builder_build_2 : DC m_Builder_build 2 (.putfield 54) 3 5 := ⟨by decide +kernel, rfl⟩
theorem d_Builder_build_5 : DC m_Builder_build 5 (.aload_n 0) 1 6 := ⟨by decide +kernel, rfl⟩
theorem d_Builder_build_6 : DC m_Builder_build 6 (.iconst 0) 1 7 := ⟨by decide +kernel, rfl⟩
theorem d_Builder_build_7 : DC m_Builder_build 7 (.putfield 28) 3 10 := ⟨by decide +kernel, rfl⟩
theorem d_Builder_build_10 : DC m_Builder_build 10 (.aload_n 0) 1 11 := ⟨by decide +kernel, rfl⟩
theorem d_Builder_build_11 : DC m_Builder_build 11 (.iconst 0) 1 12 := ⟨by decide +kernel, rfl⟩
theorem d_Builder_build_12 : DC m_Builder_build 12 (.putfield 51) 3 15 := ⟨by decide +kernel, rfl⟩
theorem d_Builder_build_15 : DC m_Builder_build 15 (.iconst 0) 1 16 := ⟨by decide +kernel, rfl⟩
theorem d_Builder_build_16 : DC m_Builder_build 16 (.istore_n 1) 1 17 := ⟨by decide +kernel, rfl⟩
theorem d_Builder_build_17 : DC m_Builder_build 17 (.iload_n 1) 1 18 := ⟨by decide +kernel, rfl⟩
theorem d_Builder_build_18 : DC m_Builder_build 18 (.bipush 14) 2 20 := ⟨by decide +kernel, rfl⟩
theorem d_Builder_build_20 : DC m_Builder_build 20 (.if_icmp .ge 161) 3 23 := ⟨by decide +kernel, rfl⟩
theorem d_Builder_build_23 : DC m_Builder_build 23 (.aload_n 0) 1 24 := ⟨by decide +kernel, rfl⟩
theorem d_Builder_build_24 : DC m_Builder_build 24 (.getfield 54) 3 27 := ⟨by decide +kernel, rfl⟩
theorem d_Builder_build_27 : DC m_Builder_build 27 (.aload_n 0) 1 28 := ⟨by decide +kernel, rfl⟩
theorem d_Builder_build_28 : DC m_Builder_build 28 (.getfield 12) 3 31 := ⟨by decide +kernel, rfl⟩
theorem d_Builder_build_31 : DC m_Builder_build 31 (.getfield 57) 3 34 := ⟨by decide +kernel, rfl⟩
theorem d_Builder_build_34 : DC m_Builder_build 34 (.if_icmp .ge 147) 3 37 := ⟨by decide +kernel, rfl⟩
theorem d_Builder_build_37 : DC m_Builder_build 37 (.aload_n 0) 1 38 := ⟨by decide +kernel, rfl⟩
theorem d_Builder_build_38 : DC m_Builder_build 38 (.getfield 54) 3 41 := ⟨by decide +kernel, rfl⟩
theorem d_Builder_build_41 : DC m_Builder_build 41 (.iconst 1) 1 42 := ⟨by decide +kernel, rfl⟩
theorem d_Builder_build_42 : DC m_Builder_build 42 .iadd 1 43 := ⟨by decide +kernel, rfl⟩
theorem d_Builder_build_43 : DC m_Builder_build 43 (.istore_n 2) 1 44 := ⟨by decide +kernel, rfl⟩
theorem d_Builder_build_44 : DC m_Builder_build 44 (.aload_n 0) 1 45 := ⟨by decide +kernel, rfl⟩
theorem d_Builder_build_45 : DC m_Builder_build 45 (.getfield 24) 3 48 := ⟨by decide +kernel, rfl⟩
theorem d_Builder_build_48 : DC m_Builder_build 48 (.iload_n 1) 1 49 := ⟨by decide +kernel, rfl⟩
theorem d_Builder_build_49 : DC m_Builder_build 49 (.aload_n 0) 1 50 := ⟨by decide +kernel, rfl⟩
theorem d_Builder_build_50 : DC m_Builder_build 50 (.getfield 12) 3 53 := ⟨by decide +kernel, rfl⟩
theorem d_Builder_build_53 : DC m_Builder_build 53 (.aload_n 0) 1 54 := ⟨by decide +kernel, rfl⟩
theorem d_Builder_build_54 : DC m_Builder_build 54 (.getfield 54) 3 57 := ⟨by decide +kernel, rfl⟩
theorem d_Builder_build_57 : DC m_Builder_build 57 (.invokevirtual 58) 3 60 := ⟨by decide +kernel, rfl⟩
theorem d_Builder_build_60 : DC m_Builder_build 60 (.bipush 11) 2 62 := ⟨by decide +kernel, rfl⟩
theorem d_Builder_build_62 : DC m_Builder_build 62 (.if_icmp .ne 7) 3 65 := ⟨by decide +kernel, rfl⟩
theorem d_Builder_build_65 : DC m_Builder_build 65 (.iconst 1) 1 66 := ⟨by decide +kernel, rfl⟩
theorem d_Builder_build_66 : DC m_Builder_build 66 (.goto 4) 3 69 := ⟨by decide +kernel, rfl⟩
theorem d_Builder_build_69 : DC m_Builder_build 69 (.iconst 0) 1 70 := ⟨by decide +kernel, rfl⟩
theorem d_Builder_build_70 : DC m_Builder_build 70 .bastore 1 71 := ⟨by decide +kernel, rfl⟩
theorem d_Builder_build_71 : DC m_Builder_build 71 (.aload_n 0) 1 72 := ⟨by decide +kernel, rfl⟩
theorem d_Builder_build_72 : DC m_Builder_build 72 (.getfield 32) 3 75 := ⟨by decide +kernel, rfl⟩
theorem d_Builder_build_75 : DC m_Builder_build 75 (.iload_n 1) 1 76 := ⟨by decide +kernel, rfl⟩
theorem d_Builder_build_76 : DC m_Builder_build 76 (.aload_n 0) 1 77 := ⟨by decide +kernel, rfl⟩
theorem d_Builder_build_77 : DC m_Builder_build 77 (.getfield 12) 3 80 := ⟨by decide +kernel, rfl⟩
theorem d_Builder_build_80 : DC m_Builder_build 80 (.iload_n 2) 1 81 := ⟨by decide +kernel, rfl⟩
theorem d_Builder_build_81 : DC m_Builder_build 81 (.invokevirtual 62) 3 84 := ⟨by decide +kernel, rfl⟩
theorem d_Builder_build_84 : DC m_Builder_build 84 .lastore 1 85 := ⟨by decide +kernel, rfl⟩
theorem d_Builder_build_85 : DC m_Builder_build 85 (.aload_n 0) 1 86 := ⟨by decide +kernel, rfl⟩
theorem d_Builder_build_86 : DC m_Builder_build 86 .dup 1 87 := ⟨by decide +kernel, rfl⟩
theorem d_Builder_build_87 : DC m_Builder_build 87 (.getfield 54) 3 90 := ⟨by decide +kernel, rfl⟩
theorem d_Builder_build_90 : DC m_Builder_build 90 (.iconst 3) 1 91 := ⟨by decide +kernel, rfl⟩
theorem d_Builder_build_91 : DC m_Builder_build 91 .iadd 1 92 := ⟨by decide +kernel, rfl⟩
theorem d_Builder_build_92 : DC m_Builder_build 92 (.putfield 54) 3 95 := ⟨by decide +kernel, rfl⟩
theorem d_Builder_build_95 : DC m_Builder_build 95 (.aload_n 0) 1 96 := ⟨by decide +kernel, rfl⟩
theorem d_Builder_build_96 : DC m_Builder_build 96 (.iconst 0) 1 97 := ⟨by decide +kernel, rfl⟩
theorem d_Builder_build_97 : DC m_Builder_build 97 (.invokevirtual 66) 3 100 := ⟨by decide +kernel, rfl⟩
theorem d_Builder_build_100 : DC m_Builder_build 100 (.aload_n 0) 1 101 := ⟨by decide +kernel, rfl⟩
theorem d_Builder_build_101 : DC m_Builder_build 101 (.getfield 12) 3 104 := ⟨by decide +kernel, rfl⟩
theorem d_Builder_build_104 : DC m_Builder_build 104 (.getfield 70) 3 107 := ⟨by decide +kernel, rfl⟩
theorem d_Builder_build_107 : DC m_Builder_build 107 (.ifCond .ne 25) 3 110 := ⟨by decide +kernel, rfl⟩
theorem d_Builder_build_110 : DC m_Builder_build 110 (.aload_n 0) 1 111 := ⟨by decide +kernel, rfl⟩
theorem d_Builder_build_111 : DC m_Builder_build 111 (.getfield 36) 3 114 := ⟨by decide +kernel, rfl⟩
theorem d_Builder_build_114 : DC m_Builder_build 114 (.iconst 0) 1 115 := ⟨by decide +kernel, rfl⟩
theorem d_Builder_build_115 : DC m_Builder_build 115 .aaload 1 116 := ⟨by decide +kernel, rfl⟩
theorem d_Builder_build_116 : DC m_Builder_build 116 (.invokevirtual 73) 3 119 := ⟨by decide +kernel, rfl⟩
theorem d_Builder_build_119 : DC m_Builder_build 119 (.ifCond .eq 13) 3 122 := ⟨by decide +kernel, rfl⟩
theorem d_Builder_build_122 : DC m_Builder_build 122 (.aload_n 0) 1 123 := ⟨by decide +kernel, rfl⟩
theorem d_Builder_build_123 : DC m_Builder_build 123 (.getfield 12) 3 126 := ⟨by decide +kernel, rfl⟩
theorem d_Builder_build_126 : DC m_Builder_build 126 (.bipush 7) 2 128 := ⟨by decide +kernel, rfl⟩
theorem d_Builder_build_128 : DC m_Builder_build 128 (.iload_n 2) 1 129 := ⟨by decide +kernel, rfl⟩
theorem d_Builder_build_129 : DC m_Builder_build 129 (.invokevirtual 77) 3 132 := ⟨by decide +kernel, rfl⟩
theorem d_Builder_build_132 : DC m_Builder_build 132 (.aload_n 0) 1 133 := ⟨by decide +kernel, rfl⟩
theorem d_Builder_build_133 : DC m_Builder_build 133 (.getfield 12) 3 136 := ⟨by decide +kernel, rfl⟩
theorem d_Builder_build_136 : DC m_Builder_build 136 (.getfield 70) 3 139 := ⟨by decide +kernel, rfl⟩
theorem d_Builder_build_139 : DC m_Builder_build 139 (.ifCond .eq 4) 3 142 := ⟨by decide +kernel, rfl⟩
theorem d_Builder_build_142 : DC m_Builder_build 142 .return_ 1 143 := ⟨by decide +kernel, rfl⟩
theorem d_Builder_build_143 : DC m_Builder_build 143 (.aload_n 0) 1 144 := ⟨by decide +kernel, rfl⟩
theorem d_Builder_build_144 : DC m_Builder_build 144 (.getfield 20) 3 147 := ⟨by decide +kernel, rfl⟩
theorem d_Builder_build_147 : DC m_Builder_build 147 (.iload_n 1) 1 148 := ⟨by decide +kernel, rfl⟩
theorem d_Builder_build_148 : DC m_Builder_build 148 .aaload 1 149 := ⟨by decide +kernel, rfl⟩
theorem d_Builder_build_149 : DC m_Builder_build 149 (.aload_n 0) 1 150 := ⟨by decide +kernel, rfl⟩
theorem d_Builder_build_150 : DC m_Builder_build 150 (.getfield 36) 3 153 := ⟨by decide +kernel, rfl⟩
theorem d_Builder_build_153 : DC m_Builder_build 153 (.iconst 0) 1 154 := ⟨by decide +kernel, rfl⟩
theorem d_Builder_build_154 : DC m_Builder_build 154 .aaload 1 155 := ⟨by decide +kernel, rfl⟩
theorem d_Builder_build_155 : DC m_Builder_build 155 (.invokevirtual 81) 3 158 := ⟨by decide +kernel, rfl⟩
theorem d_Builder_build_158 : DC m_Builder_build 158 (.aload_n 0) 1 159 := ⟨by decide +kernel, rfl⟩
theorem d_Builder_build_159 : DC m_Builder_build 159 (.iload_n 1) 1 160 := ⟨by decide +kernel, rfl⟩
theorem d_Builder_build_160 : DC m_Builder_build 160 (.iconst 1) 1 161 := ⟨by decide +kernel, rfl⟩
theorem d_Builder_build_161 : DC m_Builder_build 161 .iadd 1 162 := ⟨by decide +kernel, rfl⟩
theorem d_Builder_build_162 : DC m_Builder_build 162 (.putfield 28) 3 165 := ⟨by decide +kernel, rfl⟩
theorem d_Builder_build_165 : DC m_Builder_build 165 (.aload_n 0) 1 166 := ⟨by decide +kernel, rfl⟩
theorem d_Builder_build_166 : DC m_Builder_build 166 .dup 1 167 := ⟨by decide +kernel, rfl⟩
theorem d_Builder_build_167 : DC m_Builder_build 167 (.getfield 54) 3 170 := ⟨by decide +kernel, rfl⟩
theorem d_Builder_build_170 : DC m_Builder_build 170 (.iconst 1) 1 171 := ⟨by decide +kernel, rfl⟩
theorem d_Builder_build_171 : DC m_Builder_build 171 .iadd 1 172 := ⟨by decide +kernel, rfl⟩
theorem d_Builder_build_172 : DC m_Builder_build 172 (.putfield 54) 3 175 := ⟨by decide +kernel, rfl⟩
theorem d_Builder_build_175 : DC m_Builder_build 175 (.iinc 1 1) 3 178 := ⟨by decide +kernel, rfl⟩
theorem d_Builder_build_178 : DC m_Builder_build 178 (.goto (-161)) 3 181 := ⟨by decide +kernel, rfl⟩
theorem d_Builder_build_181 : DC m_Builder_build 181 .return_ 1 182 := ⟨by decide +kernel, rfl⟩
def f_Builder_build_132 (n : Nat) (k_17 : Nat → Int32 → MM → Option (MM)) (x0 : Nat) (x1 : Int32) (M : MM) : Option (MM) :=
  (gR 1 9 x0 M).bind fun v1 =>
  (gI 10 5 v1 M).bind fun v2 =>
  if v2 = 0 then
    (gR 1 0 x0 M).bind fun v4 =>
    (aR 104 v4 x1 M).bind fun v5 =>
    (gR 1 4 x0 M).bind fun v6 =>
    (aR 104 v6 0 M).bind fun v7 =>
    (f_Shape_copy n v5 v7 M).bind fun M8 =>
    (pI 1 2 x0 (x1 + 1) M8).bind fun M9 =>
    (gI 1 10 x0 M9).bind fun v10 =>
    (pI 1 10 x0 (v10 + 1) M9).bind fun M11 =>
    k_17 x0 (x1 + 1) M11
  else
    some M
theorem t_Builder_build_132 (n : Nat) {k_17 : Nat → Int32 → MM → Option (MM)} (hk_17 : ∀ (x0 : Nat) (x1 : Int32) (M : MM) (z : MM), k_17 x0 x1 M = some z → EV m_Builder_build (rm 55 0 0) none z 0 0 17 [some (.ref x0), some (.int x1), none] [] M) (x0 : Nat) (x1 : Int32) (M : MM) (z : MM) (h : f_Builder_build_132 n k_17 x0 x1 M = some z) : EV m_Builder_build (rm 55 0 0) none z 0 0 132 [some (.ref x0), some (.int x1), none] [] M := by
  unfold f_Builder_build_132 at h
  refine e_aload_n d_Builder_build_132 rfl ?_
  obtain ⟨v1, hv1, h⟩ := bnd h
  refine e_getR d_Builder_build_133 fl_Builder_12 (fun _ _ _ => rfl) hv1 ?_
  obtain ⟨v2, hv2, h⟩ := bnd h
  refine e_getI d_Builder_build_136 fl_Builder_70 (fun _ _ _ => rfl) hv2 ?_
  refine e_if_eq 143 d_Builder_build_139 (by decide) (fun c3 => ?_) (fun c3 => ?_)
  · replace h := ift c3 h
    refine e_aload_n d_Builder_build_143 rfl ?_
    obtain ⟨v4, hv4, h⟩ := bnd h
    refine e_getR d_Builder_build_144 fl_Builder_20 (fun _ _ _ => rfl) hv4 ?_
    refine e_iload_n d_Builder_build_147 rfl ?_
    obtain ⟨v5, hv5, h⟩ := bnd h
    refine e_aald (kd := 104) d_Builder_build_148 (by decide) hv5 ?_
    refine e_aload_n d_Builder_build_149 rfl ?_
    obtain ⟨v6, hv6, h⟩ := bnd h
    refine e_getR d_Builder_build_150 fl_Builder_36 (fun _ _ _ => rfl) hv6 ?_
    refine e_iconst (v := 0) d_Builder_build_153 (by decide) ?_
    obtain ⟨v7, hv7, h⟩ := bnd h
    refine e_aald (kd := 104) d_Builder_build_154 (by decide) hv7 ?_
    obtain ⟨M8, hM8, h⟩ := bnd h
    refine e_cVv (mt1 := m_Shape_copy) (As := [.ref v7]) (st := []) d_Builder_build_155 ml_Builder_81 mv_Shape_copy (t_Shape_copy n v5 v7 M M8 hM8) (fc_Shape_copy hM8) rfl rfl rfl (okp rfl) (okp rfl) (okp rfl) (Nat.le_refl _) (Nat.le_refl _) ?_
    refine e_aload_n d_Builder_build_158 rfl ?_
    refine e_iload_n d_Builder_build_159 rfl ?_
    refine e_iconst (v := 1) d_Builder_build_160 (by decide) ?_
    refine e_iadd d_Builder_build_161 ?_
    obtain ⟨M9, hM9, h⟩ := bnd h
    refine e_putI d_Builder_build_162 fl_Builder_28 (Or.inl rfl) (fun _ _ _ => rfl) rfl hM9 ?_
    refine e_aload_n d_Builder_build_165 rfl ?_
    refine e_dup d_Builder_build_166 rfl ?_
    obtain ⟨v10, hv10, h⟩ := bnd h
    refine e_getI d_Builder_build_167 fl_Builder_54 (fun _ _ _ => rfl) hv10 ?_
    refine e_iconst (v := 1) d_Builder_build_170 (by decide) ?_
    refine e_iadd d_Builder_build_171 ?_
    obtain ⟨M11, hM11, h⟩ := bnd h
    refine e_putI d_Builder_build_172 fl_Builder_54 (Or.inl rfl) (fun _ _ _ => rfl) rfl hM11 ?_
    refine e_iinc (v := x1 + 1) (l2 := [some (.ref x0), some (.int (x1 + 1)), none]) d_Builder_build_175 rfl rfl rfl (okl rfl) rfl ?_
    refine e_goto 17 d_Builder_build_178 (by decide) ?_
    exact (hk_17 x0 (x1 + 1) M11 z h).less (show LSub _ _ from ⟨rfl, ⟨rfl, trivial⟩⟩)
  · replace h := ifn c3 h
    cases h
    exact e_vret d_Builder_build_142 rfl (Nat.le_refl _) (Nat.le_refl _)
def f_Builder_build_70 (n : Nat) (k_17 : Nat → Int32 → MM → Option (MM)) (x0 : Nat) (x1 : Int32) (x2 : Int32) (s0 : Nat) (s1 : Int32) (s2 : Int32) (M : MM) : Option (MM) :=
  (sI 102 s0 s1 s2 M).bind fun M12 =>
  (gR 1 3 x0 M12).bind fun v13 =>
  (gR 1 9 x0 M12).bind fun v14 =>
  (f_Tokens_valueAt n v14 x2 M12).bind fun p15 =>
  (sL v13 x1 p15.1 p15.2).bind fun M16 =>
  (gI 1 10 x0 M16).bind fun v17 =>
  (pI 1 10 x0 (v17 + 3) M16).bind fun M18 =>
  (F_Builder_sumUp n 9 x0 0 M18).bind fun M19 =>
  (gR 1 9 x0 M19).bind fun v20 =>
  (gI 10 5 v20 M19).bind fun v21 =>
  if v21 = 0 then
    (gR 1 4 x0 M19).bind fun v23 =>
    (aR 104 v23 0 M19).bind fun v24 =>
    (f_Shape_isNothing n v24 M19).bind fun p25 =>
    if p25.1 = 0 then
      f_Builder_build_132 n k_17 x0 x1 p25.2
    else
      (gR 1 9 x0 p25.2).bind fun v27 =>
      (f_Tokens_blame n v27 7 x2 p25.2).bind fun M28 =>
      f_Builder_build_132 n k_17 x0 x1 M28
  else
    f_Builder_build_132 n k_17 x0 x1 M19
theorem t_Builder_build_70 (n : Nat) {k_17 : Nat → Int32 → MM → Option (MM)} (hk_17 : ∀ (x0 : Nat) (x1 : Int32) (M : MM) (z : MM), k_17 x0 x1 M = some z → EV m_Builder_build (rm 55 0 0) none z 0 0 17 [some (.ref x0), some (.int x1), none] [] M) (x0 : Nat) (x1 : Int32) (x2 : Int32) (s0 : Nat) (s1 : Int32) (s2 : Int32) (M : MM) (z : MM) (h : f_Builder_build_70 n k_17 x0 x1 x2 s0 s1 s2 M = some z) : EV m_Builder_build (rm 55 0 0) none z 0 0 70 [some (.ref x0), some (.int x1), some (.int x2)] [.int s2, .int s1, .ref s0] M := by
  unfold f_Builder_build_70 at h
  obtain ⟨M12, hM12, h⟩ := bnd h
  refine e_zast d_Builder_build_70 hM12 ?_
  refine e_aload_n d_Builder_build_71 rfl ?_
  obtain ⟨v13, hv13, h⟩ := bnd h
  refine e_getR d_Builder_build_72 fl_Builder_32 (fun _ _ _ => rfl) hv13 ?_
  refine e_iload_n d_Builder_build_75 rfl ?_
  refine e_aload_n d_Builder_build_76 rfl ?_
  obtain ⟨v14, hv14, h⟩ := bnd h
  refine e_getR d_Builder_build_77 fl_Builder_12 (fun _ _ _ => rfl) hv14 ?_
  refine e_iload_n d_Builder_build_80 rfl ?_
  obtain ⟨p15, hp15, h⟩ := bnd h
  refine e_cVl (mt1 := m_Tokens_valueAt) (As := [.int x2]) (st := [.int x1, .ref v13]) d_Builder_build_81 ml_Builder_62 mv_Tokens_valueAt (t_Tokens_valueAt n v14 x2 M12 p15 hp15) (fc_Tokens_valueAt hp15) rfl rfl rfl (okp rfl) (okp rfl) (okp rfl) (Nat.le_refl _) (Nat.le_refl _) ?_
  obtain ⟨M16, hM16, h⟩ := bnd h
  refine e_last d_Builder_build_84 hM16 ?_
  refine e_aload_n d_Builder_build_85 rfl ?_
  refine e_dup d_Builder_build_86 rfl ?_
  obtain ⟨v17, hv17, h⟩ := bnd h
  refine e_getI d_Builder_build_87 fl_Builder_54 (fun _ _ _ => rfl) hv17 ?_
  refine e_iconst (v := 3) d_Builder_build_90 (by decide) ?_
  refine e_iadd d_Builder_build_91 ?_
  obtain ⟨M18, hM18, h⟩ := bnd h
  refine e_putI d_Builder_build_92 fl_Builder_54 (Or.inl rfl) (fun _ _ _ => rfl) rfl hM18 ?_
  refine e_aload_n d_Builder_build_95 rfl ?_
  refine e_iconst (v := 0) d_Builder_build_96 (by decide) ?_
  obtain ⟨M19, hM19, h⟩ := bnd h
  refine e_cVv (mt1 := m_Builder_sumUp) (As := [.int 0]) (st := []) d_Builder_build_97 ml_Builder_66 mv_Builder_sumUp (T_Builder_sumUp n 9 x0 0 M18 M19 hM19) (FC_Builder_sumUp hM19) rfl rfl rfl (okp rfl) (okp rfl) (okp rfl) (Nat.le_refl _) (Nat.le_refl _) ?_
  refine e_aload_n d_Builder_build_100 rfl ?_
  obtain ⟨v20, hv20, h⟩ := bnd h
  refine e_getR d_Builder_build_101 fl_Builder_12 (fun _ _ _ => rfl) hv20 ?_
  obtain ⟨v21, hv21, h⟩ := bnd h
  refine e_getI d_Builder_build_104 fl_Builder_70 (fun _ _ _ => rfl) hv21 ?_
  refine e_if_ne 132 d_Builder_build_107 (by decide) (fun c22 => ?_) (fun c22 => ?_)
  · replace h := ifn c22 h
    exact (t_Builder_build_132 n hk_17 x0 x1 M19 z h).less (show LSub _ _ from ⟨rfl, ⟨rfl, trivial⟩⟩)
  · replace h := ift c22 h
    refine e_aload_n d_Builder_build_110 rfl ?_
    obtain ⟨v23, hv23, h⟩ := bnd h
    refine e_getR d_Builder_build_111 fl_Builder_36 (fun _ _ _ => rfl) hv23 ?_
    refine e_iconst (v := 0) d_Builder_build_114 (by decide) ?_
    obtain ⟨v24, hv24, h⟩ := bnd h
    refine e_aald (kd := 104) d_Builder_build_115 (by decide) hv24 ?_
    obtain ⟨p25, hp25, h⟩ := bnd h
    refine e_cVi (mt1 := m_Shape_isNothing) (As := []) (st := []) d_Builder_build_116 ml_Builder_73 mv_Shape_isNothing (t_Shape_isNothing n v24 M19 p25 hp25) (fc_Shape_isNothing hp25) rfl rfl rfl (okp rfl) (okp rfl) (okp rfl) (Nat.le_refl _) (Nat.le_refl _) ?_
    refine e_if_eq 132 d_Builder_build_119 (by decide) (fun c26 => ?_) (fun c26 => ?_)
    · replace h := ift c26 h
      exact (t_Builder_build_132 n hk_17 x0 x1 p25.2 z h).less (show LSub _ _ from ⟨rfl, ⟨rfl, trivial⟩⟩)
    · replace h := ifn c26 h
      refine e_aload_n d_Builder_build_122 rfl ?_
      obtain ⟨v27, hv27, h⟩ := bnd h
      refine e_getR d_Builder_build_123 fl_Builder_12 (fun _ _ _ => rfl) hv27 ?_
      refine e_bipush (v := 7) d_Builder_build_126 (by decide) ?_
      refine e_iload_n d_Builder_build_128 rfl ?_
      obtain ⟨M28, hM28, h⟩ := bnd h
      refine e_cVv (mt1 := m_Tokens_blame) (As := [.int 7, .int x2]) (st := []) d_Builder_build_129 ml_Builder_77 mv_Tokens_blame (t_Tokens_blame n v27 7 x2 p25.2 M28 hM28) (fc_Tokens_blame hM28) rfl rfl rfl (okp rfl) (okp rfl) (okp rfl) (Nat.le_refl _) (Nat.le_refl _) ?_
      exact (t_Builder_build_132 n hk_17 x0 x1 M28 z h).less (show LSub _ _ from ⟨rfl, ⟨rfl, trivial⟩⟩)
def f_Builder_build_17 (n : Nat) : Nat → Nat → Int32 → MM → Option (MM)
  | 0, _, _, _ => none
  | m + 1, x0, x1, M =>
    if 14 ≤ x1 then
      some M
    else
      (gI 1 10 x0 M).bind fun v30 =>
      (gR 1 9 x0 M).bind fun v31 =>
      (gI 10 3 v31 M).bind fun v32 =>
      if v32 ≤ v30 then
        some M
      else
        (gI 1 10 x0 M).bind fun v34 =>
        nm (α := Int32) (v34 + 1) fun y35 =>
        (gR 1 1 x0 M).bind fun v36 =>
        (gR 1 9 x0 M).bind fun v37 =>
        (gI 1 10 x0 M).bind fun v38 =>
        (f_Tokens_kindAt n v37 v38 M).bind fun p39 =>
        if p39.1 = 11 then
          f_Builder_build_70 n (f_Builder_build_17 n m) x0 x1 y35 v36 x1 1 p39.2
        else
          f_Builder_build_70 n (f_Builder_build_17 n m) x0 x1 y35 v36 x1 0 p39.2
theorem t_Builder_build_17 (n : Nat) : ∀ (m : Nat) (x0 : Nat) (x1 : Int32) (M : MM) (z : MM), f_Builder_build_17 n m x0 x1 M = some z → EV m_Builder_build (rm 55 0 0) none z 0 0 17 [some (.ref x0), some (.int x1), none] [] M := by
  intro m
  induction m with
  | zero => intro x0 x1 M z h; cases h
  | succ m ih =>
    intro x0 x1 M z h
    rw [f_Builder_build_17] at h
    refine e_iload_n d_Builder_build_17 rfl ?_
    refine e_bipush (v := 14) d_Builder_build_18 (by decide) ?_
    refine e_ic_ge 181 d_Builder_build_20 (by decide) (fun c29 => ?_) (fun c29 => ?_)
    · replace h := ift c29 h
      cases h
      exact e_vret d_Builder_build_181 rfl (Nat.le_refl _) (Nat.le_refl _)
    · replace h := ifn c29 h
      refine e_aload_n d_Builder_build_23 rfl ?_
      obtain ⟨v30, hv30, h⟩ := bnd h
      refine e_getI d_Builder_build_24 fl_Builder_54 (fun _ _ _ => rfl) hv30 ?_
      refine e_aload_n d_Builder_build_27 rfl ?_
      obtain ⟨v31, hv31, h⟩ := bnd h
      refine e_getR d_Builder_build_28 fl_Builder_12 (fun _ _ _ => rfl) hv31 ?_
      obtain ⟨v32, hv32, h⟩ := bnd h
      refine e_getI d_Builder_build_31 fl_Builder_57 (fun _ _ _ => rfl) hv32 ?_
      refine e_ic_ge 181 d_Builder_build_34 (by decide) (fun c33 => ?_) (fun c33 => ?_)
      · replace h := ift c33 h
        cases h
        exact e_vret d_Builder_build_181 rfl (Nat.le_refl _) (Nat.le_refl _)
      · replace h := ifn c33 h
        refine e_aload_n d_Builder_build_37 rfl ?_
        obtain ⟨v34, hv34, h⟩ := bnd h
        refine e_getI d_Builder_build_38 fl_Builder_54 (fun _ _ _ => rfl) hv34 ?_
        refine e_iconst (v := 1) d_Builder_build_41 (by decide) ?_
        refine e_iadd d_Builder_build_42 ?_
        obtain ⟨y35, ey35, h⟩ := nm_s h
        refine e_nameI ey35 ?_
        refine e_istore_n (l2 := [some (.ref x0), some (.int x1), some (.int y35)]) d_Builder_build_43 rfl (okl rfl) rfl ?_
        refine e_aload_n d_Builder_build_44 rfl ?_
        obtain ⟨v36, hv36, h⟩ := bnd h
        refine e_getR d_Builder_build_45 fl_Builder_24 (fun _ _ _ => rfl) hv36 ?_
        refine e_iload_n d_Builder_build_48 rfl ?_
        refine e_aload_n d_Builder_build_49 rfl ?_
        obtain ⟨v37, hv37, h⟩ := bnd h
        refine e_getR d_Builder_build_50 fl_Builder_12 (fun _ _ _ => rfl) hv37 ?_
        refine e_aload_n d_Builder_build_53 rfl ?_
        obtain ⟨v38, hv38, h⟩ := bnd h
        refine e_getI d_Builder_build_54 fl_Builder_54 (fun _ _ _ => rfl) hv38 ?_
        obtain ⟨p39, hp39, h⟩ := bnd h
        refine e_cVi (mt1 := m_Tokens_kindAt) (As := [.int v38]) (st := [.int x1, .ref v36]) d_Builder_build_57 ml_Builder_58 mv_Tokens_kindAt (t_Tokens_kindAt n v37 v38 M p39 hp39) (fc_Tokens_kindAt hp39) rfl rfl rfl (okp rfl) (okp rfl) (okp rfl) (Nat.le_refl _) (Nat.le_refl _) ?_
        refine e_bipush (v := 11) d_Builder_build_60 (by decide) ?_
        refine e_ic_ne 69 d_Builder_build_62 (by decide) (fun c40 => ?_) (fun c40 => ?_)
        · replace h := ifn c40 h
          refine e_iconst (v := 0) d_Builder_build_69 (by decide) ?_
          exact (t_Builder_build_70 n ih x0 x1 y35 v36 x1 0 p39.2 z h).less (show LSub _ _ from ⟨rfl, ⟨rfl, ⟨rfl, trivial⟩⟩⟩)
        · replace h := ift c40 h
          refine e_iconst (v := 1) d_Builder_build_65 (by decide) ?_
          refine e_goto 70 d_Builder_build_66 (by decide) ?_
          exact (t_Builder_build_70 n ih x0 x1 y35 v36 x1 1 p39.2 z h).less (show LSub _ _ from ⟨rfl, ⟨rfl, ⟨rfl, trivial⟩⟩⟩)
def f_Builder_build (n : Nat) (x0 : Nat) (M : MM) : Option (MM) :=
  og 1 x0 M <|
  (pI 1 10 x0 0 M).bind fun M41 =>
  (pI 1 2 x0 0 M41).bind fun M42 =>
  (pI 1 8 x0 0 M42).bind fun M43 =>
  f_Builder_build_17 n n x0 0 M43
theorem fc_Builder_build {n : Nat} {x0 : Nat} {M : MM} {z : MM} (h : f_Builder_build n x0 M = some z) : (M.1.2.1 x0).1 = 1 := by
  unfold f_Builder_build at h
  exact (og_s h).1
theorem t_Builder_build (n : Nat) (x0 : Nat) (M : MM) (z : MM) (h : f_Builder_build n x0 M = some z) : CT m_Builder_build (rm 55 0 0) [.ref x0] M none z := by
  unfold f_Builder_build at h
  obtain ⟨hthis, h⟩ := og_s h
  refine CT.of (ls := [some (.ref x0), none, none]) rfl (okp rfl) rfl ?_
  refine e_aload_n d_Builder_build_0 rfl ?_
  refine e_iconst (v := 0) d_Builder_build_1 (by decide) ?_
  obtain ⟨M41, hM41, h⟩ := bnd h
  refine e_putI d_Builder_build_2 fl_Builder_54 (Or.inl rfl) (fun _ _ _ => rfl) rfl hM41 ?_
  refine e_aload_n d_Builder_build_5 rfl ?_
  refine e_iconst (v := 0) d_Builder_build_6 (by decide) ?_
  obtain ⟨M42, hM42, h⟩ := bnd h
  refine e_putI d_Builder_build_7 fl_Builder_28 (Or.inl rfl) (fun _ _ _ => rfl) rfl hM42 ?_
  refine e_aload_n d_Builder_build_10 rfl ?_
  refine e_iconst (v := 0) d_Builder_build_11 (by decide) ?_
  obtain ⟨M43, hM43, h⟩ := bnd h
  refine e_putI d_Builder_build_12 fl_Builder_51 (Or.inl rfl) (fun _ _ _ => rfl) rfl hM43 ?_
  refine e_iconst (v := 0) d_Builder_build_15 (by decide) ?_
  refine e_istore_n (l2 := [some (.ref x0), some (.int 0), none]) d_Builder_build_16 rfl (okl rfl) rfl ?_
  exact (t_Builder_build_17 n n x0 0 M43 z h).less (show LSub _ _ from ⟨rfl, ⟨rfl, trivial⟩⟩)
