theorem d_Cutter_forget_0 : DC m_Cutter_forget 0 (.aload_n 0) 1 1 := ⟨by decide +kernel, rfl⟩
theorem d_Cutter_forget_1 : DC m_Cutter_forget 1 (.iconst 0) 1 2 := ⟨by decide +kernel, rfl⟩
theorem d_Cutter_forget_2 : DC m_Cutter_forget 2 (.putfield 9) 3 5 := ⟨by decide +kernel, rfl⟩
theorem d_Cutter_forget_5 : DC m_Cutter_forget 5 .return_ 1 6 := ⟨by decide +kernel, rfl⟩
def f_Cutter_forget (n : Nat) (x0 : Nat) (M : MM) : Option (MM) :=
  og 2 x0 M <|
  (pI 2 0 x0 0 M).bind fun M1 =>
  some M1
theorem fc_Cutter_forget {n : Nat} {x0 : Nat} {M : MM} {z : MM} (h : f_Cutter_forget n x0 M = some z) : (M.1.2.1 x0).1 = 2 := by
  unfold f_Cutter_forget at h
  exact (og_s h).1
theorem t_Cutter_forget (n : Nat) (x0 : Nat) (M : MM) (z : MM) (h : f_Cutter_forget n x0 M = some z) : CT m_Cutter_forget (rm 1 0 0) [.ref x0] M none z := by
  unfold f_Cutter_forget at h
  obtain ⟨hthis, h⟩ := og_s h
  refine CT.of (ls := [some (.ref x0)]) rfl (okp rfl) rfl ?_
  refine e_aload_n d_Cutter_forget_0 rfl ?_
  refine e_iconst (v := 0) d_Cutter_forget_1 (by decide) ?_
  obtain ⟨M1, hM1, h⟩ := bnd h
  refine e_putI d_Cutter_forget_2 fl_Cutter_9 (Or.inl rfl) (fun _ _ _ => rfl) rfl hM1 ?_
  cases h
  exact e_vret d_Cutter_forget_5 rfl (Nat.le_refl _) (Nat.le_refl _)
theorem d_Cutter_remember_0 : DC m_Cutter_remember 0 (.aload_n 0) 1 1 := ⟨by decide +kernel, rfl⟩
theorem d_Cutter_remember_1 : DC m_Cutter_remember 1 (.iload_n 1) 1 2 := ⟨by decide +kernel, rfl⟩
theorem d_Cutter_remember_2 : DC m_Cutter_remember 2 (.putfield 9) 3 5 := ⟨by decide +kernel, rfl⟩
theorem d_Cutter_remember_5 : DC m_Cutter_remember 5 (.aload_n 0) 1 6 := ⟨by decide +kernel, rfl⟩
theorem d_Cutter_remember_6 : DC m_Cutter_remember 6 (.iload_n 2) 1 7 := ⟨by decide +kernel, rfl⟩
theorem d_Cutter_remember_7 : DC m_Cutter_remember 7 (.putfield 15) 3 10 := ⟨by decide +kernel, rfl⟩
theorem d_Cutter_remember_10 : DC m_Cutter_remember 10 (.aload_n 0) 1 11 := ⟨by decide +kernel, rfl⟩
theorem d_Cutter_remember_11 : DC m_Cutter_remember 11 (.iload_n 3) 1 12 := ⟨by decide +kernel, rfl⟩
theorem d_Cutter_remember_12 : DC m_Cutter_remember 12 (.putfield 18) 3 15 := ⟨by decide +kernel, rfl⟩
theorem d_Cutter_remember_15 : DC m_Cutter_remember 15 (.aload_n 0) 1 16 := ⟨by decide +kernel, rfl⟩
theorem d_Cutter_remember_16 : DC m_Cutter_remember 16 (.iload 4) 2 18 := ⟨by decide +kernel, rfl⟩
theorem d_Cutter_remember_18 : DC m_Cutter_remember 18 (.putfield 21) 3 21 := ⟨by decide +kernel, rfl⟩
theorem d_Cutter_remember_21 : DC m_Cutter_remember 21 (.iload_n 1) 1 22 := ⟨by decide +kernel, rfl⟩
theorem d_Cutter_remember_22 : DC m_Cutter_remember 22 .ireturn 1 23 := ⟨by decide +kernel, rfl⟩
def f_Cutter_remember (n : Nat) (x0 : Nat) (x1 : Int32) (x2 : Int32) (x3 : Int32) (x4 : Int32) (M : MM) : Option (Int32 × MM) :=
  og 2 x0 M <|
  (pI 2 0 x0 x1 M).bind fun M1 =>
  (pI 2 1 x0 x2 M1).bind fun M2 =>
  (pI 2 2 x0 x3 M2).bind fun M3 =>
  (pI 2 3 x0 x4 M3).bind fun M4 =>
  some (x1, M4)
theorem fc_Cutter_remember {n : Nat} {x0 : Nat} {x1 : Int32} {x2 : Int32} {x3 : Int32} {x4 : Int32} {M : MM} {z : Int32 × MM} (h : f_Cutter_remember n x0 x1 x2 x3 x4 M = some z) : (M.1.2.1 x0).1 = 2 := by
  unfold f_Cutter_remember at h
  exact (og_s h).1
theorem t_Cutter_remember (n : Nat) (x0 : Nat) (x1 : Int32) (x2 : Int32) (x3 : Int32) (x4 : Int32) (M : MM) (z : Int32 × MM) (h : f_Cutter_remember n x0 x1 x2 x3 x4 M = some z) : CT m_Cutter_remember (rm 1 0 0) [.ref x0, .int x1, .int x2, .int x3, .int x4] M (some (.int z.1)) z.2 := by
  unfold f_Cutter_remember at h
  obtain ⟨hthis, h⟩ := og_s h
  refine CT.of (ls := [some (.ref x0), some (.int x1), some (.int x2), some (.int x3), some (.int x4)]) rfl (okp rfl) rfl ?_
  refine e_aload_n d_Cutter_remember_0 rfl ?_
  refine e_iload_n d_Cutter_remember_1 rfl ?_
  obtain ⟨M1, hM1, h⟩ := bnd h
  refine e_putI d_Cutter_remember_2 fl_Cutter_9 (Or.inl rfl) (fun _ _ _ => rfl) rfl hM1 ?_
  refine e_aload_n d_Cutter_remember_5 rfl ?_
  refine e_iload_n d_Cutter_remember_6 rfl ?_
  obtain ⟨M2, hM2, h⟩ := bnd h
  refine e_putI d_Cutter_remember_7 fl_Cutter_15 (Or.inl rfl) (fun _ _ _ => rfl) rfl hM2 ?_
  refine e_aload_n d_Cutter_remember_10 rfl ?_
  refine e_iload_n d_Cutter_remember_11 rfl ?_
  obtain ⟨M3, hM3, h⟩ := bnd h
  refine e_putI d_Cutter_remember_12 fl_Cutter_18 (Or.inl rfl) (fun _ _ _ => rfl) rfl hM3 ?_
  refine e_aload_n d_Cutter_remember_15 rfl ?_
  refine e_iload d_Cutter_remember_16 rfl ?_
  obtain ⟨M4, hM4, h⟩ := bnd h
  refine e_putI d_Cutter_remember_18 fl_Cutter_21 (Or.inl rfl) (fun _ _ _ => rfl) rfl hM4 ?_
  refine e_iload_n d_Cutter_remember_21 rfl ?_
  cases h
  exact e_iret d_Cutter_remember_22 rfl (Nat.le_refl _) (Nat.le_refl _)
theorem d_Cutter_haveLikeSides_0 : DC m_Cutter_haveLikeSides 0 (.aload_n 0) 1 1 := ⟨by decide +kernel, rfl⟩
theorem d_Cutter_haveLikeSides_1 : DC m_Cutter_haveLikeSides 1 (.getfield 34) 3 4 := ⟨by decide +kernel, rfl⟩
theorem d_Cutter_haveLikeSides_4 : DC m_Cutter_haveLikeSides 4 (.invokevirtual 114) 3 7 := ⟨by decide +kernel, rfl⟩
theorem d_Cutter_haveLikeSides_7 : DC m_Cutter_haveLikeSides 7 (.aload_n 0) 1 8 := ⟨by decide +kernel, rfl⟩
theorem d_Cutter_haveLikeSides_8 : DC m_Cutter_haveLikeSides 8 (.getfield 34) 3 11 := ⟨by decide +kernel, rfl⟩
theorem d_Cutter_haveLikeSides_11 : DC m_Cutter_haveLikeSides 11 (.invokevirtual 118) 3 14 := ⟨by decide +kernel, rfl⟩
theorem d_Cutter_haveLikeSides_14 : DC m_Cutter_haveLikeSides 14 .isub 1 15 := ⟨by decide +kernel, rfl⟩
theorem d_Cutter_haveLikeSides_15 : DC m_Cutter_haveLikeSides 15 (.istore_n 1) 1 16 := ⟨by decide +kernel, rfl⟩
theorem d_Cutter_haveLikeSides_16 : DC m_Cutter_haveLikeSides 16 (.aload_n 0) 1 17 := ⟨by decide +kernel, rfl⟩
theorem d_Cutter_haveLikeSides_17 : DC m_Cutter_haveLikeSides 17 (.getfield 34) 3 20 := ⟨by decide +kernel, rfl⟩
theorem d_Cutter_haveLikeSides_20 : DC m_Cutter_haveLikeSides 20 (.invokevirtual 121) 3 23 := ⟨by decide +kernel, rfl⟩
theorem d_Cutter_haveLikeSides_23 : DC m_Cutter_haveLikeSides 23 (.aload_n 0) 1 24 := ⟨by decide +kernel, rfl⟩
theorem d_Cutter_haveLikeSides_24 : DC m_Cutter_haveLikeSides 24 (.getfield 34) 3 27 := ⟨by decide +kernel, rfl⟩
theorem d_Cutter_haveLikeSides_27 : DC m_Cutter_haveLikeSides 27 (.invokevirtual 124) 3 30 := ⟨by decide +kernel, rfl⟩
theorem d_Cutter_haveLikeSides_30 : DC m_Cutter_haveLikeSides 30 .isub 1 31 := ⟨by decide +kernel, rfl⟩
theorem d_Cutter_haveLikeSides_31 : DC m_Cutter_haveLikeSides 31 (.istore_n 2) 1 32 := ⟨by decide +kernel, rfl⟩
theorem d_Cutter_haveLikeSides_32 : DC m_Cutter_haveLikeSides 32 (.aload_n 0) 1 33 := ⟨by decide +kernel, rfl⟩
theorem d_Cutter_haveLikeSides_33 : DC m_Cutter_haveLikeSides 33 (.getfield 40) 3 36 := ⟨by decide +kernel, rfl⟩
theorem d_Cutter_haveLikeSides_36 : DC m_Cutter_haveLikeSides 36 (.invokevirtual 114) 3 39 := ⟨by decide +kernel, rfl⟩
theorem d_Cutter_haveLikeSides_39 : DC m_Cutter_haveLikeSides 39 (.aload_n 0) 1 40 := ⟨by decide +kernel, rfl⟩
theorem d_Cutter_haveLikeSides_40 : DC m_Cutter_haveLikeSides 40 (.getfield 40) 3 43 := ⟨by decide +kernel, rfl⟩
theorem d_Cutter_haveLikeSides_43 : DC m_Cutter_haveLikeSides 43 (.invokevirtual 118) 3 46 := ⟨by decide +kernel, rfl⟩
theorem d_Cutter_haveLikeSides_46 : DC m_Cutter_haveLikeSides 46 .isub 1 47 := ⟨by decide +kernel, rfl⟩
theorem d_Cutter_haveLikeSides_47 : DC m_Cutter_haveLikeSides 47 (.istore_n 3) 1 48 := ⟨by decide +kernel, rfl⟩
theorem d_Cutter_haveLikeSides_48 : DC m_Cutter_haveLikeSides 48 (.aload_n 0) 1 49 := ⟨by decide +kernel, rfl⟩
theorem d_Cutter_haveLikeSides_49 : DC m_Cutter_haveLikeSides 49 (.getfield 40) 3 52 := ⟨by decide +kernel, rfl⟩
theorem d_Cutter_haveLikeSides_52 : DC m_Cutter_haveLikeSides 52 (.invokevirtual 121) 3 55 := ⟨by decide +kernel, rfl⟩
theorem d_Cutter_haveLikeSides_55 : DC m_Cutter_haveLikeSides 55 (.aload_n 0) 1 56 := ⟨by decide +kernel, rfl⟩
theorem d_Cutter_haveLikeSides_56 : DC m_Cutter_haveLikeSides 56 (.getfield 40) 3 59 := ⟨by decide +kernel, rfl⟩
theorem d_Cutter_haveLikeSides_59 : DC m_Cutter_haveLikeSides 59 (.invokevirtual 124) 3 62 := ⟨by decide +kernel, rfl⟩
theorem d_Cutter_haveLikeSides_62 : DC m_Cutter_haveLikeSides 62 .isub 1 63 := ⟨by decide +kernel, rfl⟩
theorem d_Cutter_haveLikeSides_63 : DC m_Cutter_haveLikeSides 63 (.istore 4) 2 65 := ⟨by decide +kernel, rfl⟩
theorem d_Cutter_haveLikeSides_65 : DC m_Cutter_haveLikeSides 65 (.iload_n 1) 1 66 := ⟨by decide +kernel, rfl⟩
theorem d_Cutter_haveLikeSides_66 : DC m_Cutter_haveLikeSides 66 (.iload_n 3) 1 67 := ⟨by decide +kernel, rfl⟩
theorem d_Cutter_haveLikeSides_67 : DC m_Cutter_haveLikeSides 67 (.if_icmp .ne 9) 3 70 := ⟨by decide +kernel, rfl⟩
theorem d_Cutter_haveLikeSides_70 : DC m_Cutter_haveLikeSides 70 (.iload_n 2) 1 71 := ⟨by decide +kernel, rfl⟩
theorem d_Cutter_haveLikeSides_71 : DC m_Cutter_haveLikeSides 71 (.iload 4) 2 73 := ⟨by decide +kernel, rfl⟩
theorem d_Cutter_haveLikeSides_73 : DC m_Cutter_haveLikeSides 73 (.if_icmp .eq 14) 3 76 := ⟨by decide +kernel, rfl⟩
theorem d_Cutter_haveLikeSides_76 : DC m_Cutter_haveLikeSides 76 (.iload_n 1) 1 77 := ⟨by decide +kernel, rfl⟩
theorem d_Cutter_haveLikeSides_77 : DC m_Cutter_haveLikeSides 77 (.iload 4) 2 79 := ⟨by decide +kernel, rfl⟩
theorem d_Cutter_haveLikeSides_79 : DC m_Cutter_haveLikeSides 79 (.if_icmp .ne 12) 3 82 := ⟨by decide +kernel, rfl⟩
theorem d_Cutter_haveLikeSides_82 : DC m_Cutter_haveLikeSides 82 (.iload_n 2) 1 83 := ⟨by decide +kernel, rfl⟩
theorem d_Cutter_haveLikeSides_83 : DC m_Cutter_haveLikeSides 83 (.iload_n 3) 1 84 := ⟨by decide +kernel, rfl⟩
theorem d_Cutter_haveLikeSides_84 : DC m_Cutter_haveLikeSides 84 (.if_icmp .ne 7) 3 87 := ⟨by decide +kernel, rfl⟩
theorem d_Cutter_haveLikeSides_87 : DC m_Cutter_haveLikeSides 87 (.iconst 1) 1 88 := ⟨by decide +kernel, rfl⟩
theorem d_Cutter_haveLikeSides_88 : DC m_Cutter_haveLikeSides 88 (.goto 4) 3 91 := ⟨by decide +kernel, rfl⟩
theorem d_Cutter_haveLikeSides_91 : DC m_Cutter_haveLikeSides 91 (.iconst 0) 1 92 := ⟨by decide +kernel, rfl⟩
theorem d_Cutter_haveLikeSides_92 : DC m_Cutter_haveLikeSides 92 .ireturn 1 93 := ⟨by decide +kernel, rfl⟩
def f_Cutter_haveLikeSides_87 (n : Nat) (M : MM) : Option (Int32 × MM) :=
  some (1, M)
theorem t_Cutter_haveLikeSides_87 (n : Nat) (M : MM) (z : Int32 × MM) (h : f_Cutter_haveLikeSides_87 n M = some z) : EV m_Cutter_haveLikeSides (rm 3 0 0) (some (.int z.1)) z.2 0 0 87 [none, none, none, none, none] [] M := by
  unfold f_Cutter_haveLikeSides_87 at h
  refine e_iconst (v := 1) d_Cutter_haveLikeSides_87 (by decide) ?_
  refine e_goto 92 d_Cutter_haveLikeSides_88 (by decide) ?_
  cases h
  exact e_zret (ty := .boolean) d_Cutter_haveLikeSides_92 rfl narZ1 (Nat.le_refl _) (Nat.le_refl _)
def f_Cutter_haveLikeSides_76 (n : Nat) (x1 : Int32) (x2 : Int32) (x3 : Int32) (x4 : Int32) (M : MM) : Option (Int32 × MM) :=
  if x1 = x4 then
    if x2 = x3 then
      f_Cutter_haveLikeSides_87 n M
    else
      some (0, M)
  else
    some (0, M)
theorem t_Cutter_haveLikeSides_76 (n : Nat) (x1 : Int32) (x2 : Int32) (x3 : Int32) (x4 : Int32) (M : MM) (z : Int32 × MM) (h : f_Cutter_haveLikeSides_76 n x1 x2 x3 x4 M = some z) : EV m_Cutter_haveLikeSides (rm 3 0 0) (some (.int z.1)) z.2 0 0 76 [none, some (.int x1), some (.int x2), some (.int x3), some (.int x4)] [] M := by
  unfold f_Cutter_haveLikeSides_76 at h
  refine e_iload_n d_Cutter_haveLikeSides_76 rfl ?_
  refine e_iload d_Cutter_haveLikeSides_77 rfl ?_
  refine e_ic_ne 91 d_Cutter_haveLikeSides_79 (by decide) (fun c1 => ?_) (fun c1 => ?_)
  · replace h := ifn c1 h
    refine e_iconst (v := 0) d_Cutter_haveLikeSides_91 (by decide) ?_
    cases h
    exact e_zret (ty := .boolean) d_Cutter_haveLikeSides_92 rfl narZ0 (Nat.le_refl _) (Nat.le_refl _)
  · replace h := ift c1 h
    refine e_iload_n d_Cutter_haveLikeSides_82 rfl ?_
    refine e_iload_n d_Cutter_haveLikeSides_83 rfl ?_
    refine e_ic_ne 91 d_Cutter_haveLikeSides_84 (by decide) (fun c2 => ?_) (fun c2 => ?_)
    · replace h := ifn c2 h
      refine e_iconst (v := 0) d_Cutter_haveLikeSides_91 (by decide) ?_
      cases h
      exact e_zret (ty := .boolean) d_Cutter_haveLikeSides_92 rfl narZ0 (Nat.le_refl _) (Nat.le_refl _)
    · replace h := ift c2 h
      exact (t_Cutter_haveLikeSides_87 n  M z h).less (show LSub _ _ from trivial)
def f_Cutter_haveLikeSides (n : Nat) (x0 : Nat) (M : MM) : Option (Int32 × MM) :=
  og 2 x0 M <|
  (gR 2 6 x0 M).bind fun v3 =>
  (f_Shape_right n v3 M).bind fun p4 =>
  (gR 2 6 x0 p4.2).bind fun v5 =>
  (f_Shape_left n v5 p4.2).bind fun p6 =>
  nm (α := Int32) (p4.1 - p6.1) fun y7 =>
  (gR 2 6 x0 p6.2).bind fun v8 =>
  (f_Shape_bottom n v8 p6.2).bind fun p9 =>
  (gR 2 6 x0 p9.2).bind fun v10 =>
  (f_Shape_top n v10 p9.2).bind fun p11 =>
  nm (α := Int32) (p9.1 - p11.1) fun y12 =>
  (gR 2 8 x0 p11.2).bind fun v13 =>
  (f_Shape_right n v13 p11.2).bind fun p14 =>
  (gR 2 8 x0 p14.2).bind fun v15 =>
  (f_Shape_left n v15 p14.2).bind fun p16 =>
  nm (α := Int32) (p14.1 - p16.1) fun y17 =>
  (gR 2 8 x0 p16.2).bind fun v18 =>
  (f_Shape_bottom n v18 p16.2).bind fun p19 =>
  (gR 2 8 x0 p19.2).bind fun v20 =>
  (f_Shape_top n v20 p19.2).bind fun p21 =>
  nm (α := Int32) (p19.1 - p21.1) fun y22 =>
  if y7 = y17 then
    if y12 = y22 then
      f_Cutter_haveLikeSides_87 n p21.2
    else
      f_Cutter_haveLikeSides_76 n y7 y12 y17 y22 p21.2
  else
    f_Cutter_haveLikeSides_76 n y7 y12 y17 y22 p21.2
theorem fc_Cutter_haveLikeSides {n : Nat} {x0 : Nat} {M : MM} {z : Int32 × MM} (h : f_Cutter_haveLikeSides n x0 M = some z) : (M.1.2.1 x0).1 = 2 := by
  unfold f_Cutter_haveLikeSides at h
  exact (og_s h).1
theorem t_Cutter_haveLikeSides (n : Nat) (x0 : Nat) (M : MM) (z : Int32 × MM) (h : f_Cutter_haveLikeSides n x0 M = some z) : CT m_Cutter_haveLikeSides (rm 3 0 0) [.ref x0] M (some (.int z.1)) z.2 := by
  unfold f_Cutter_haveLikeSides at h
  obtain ⟨hthis, h⟩ := og_s h
  refine CT.of (ls := [some (.ref x0), none, none, none, none]) rfl (okp rfl) rfl ?_
  refine e_aload_n d_Cutter_haveLikeSides_0 rfl ?_
  obtain ⟨v3, hv3, h⟩ := bnd h
  refine e_getR d_Cutter_haveLikeSides_1 fl_Cutter_34 (fun _ _ _ => rfl) hv3 ?_
  obtain ⟨p4, hp4, h⟩ := bnd h
  refine e_cVi (mt1 := m_Shape_right) (As := []) (st := []) d_Cutter_haveLikeSides_4 ml_Cutter_114 mv_Shape_right (t_Shape_right n v3 M p4 hp4) (fc_Shape_right hp4) rfl rfl rfl (okp rfl) (okp rfl) (okp rfl) (Nat.le_refl _) (Nat.le_refl _) ?_
  refine e_aload_n d_Cutter_haveLikeSides_7 rfl ?_
  obtain ⟨v5, hv5, h⟩ := bnd h
  refine e_getR d_Cutter_haveLikeSides_8 fl_Cutter_34 (fun _ _ _ => rfl) hv5 ?_
  obtain ⟨p6, hp6, h⟩ := bnd h
  refine e_cVi (mt1 := m_Shape_left) (As := []) (st := [.int p4.1]) d_Cutter_haveLikeSides_11 ml_Cutter_118 mv_Shape_left (t_Shape_left n v5 p4.2 p6 hp6) (fc_Shape_left hp6) rfl rfl rfl (okp rfl) (okp rfl) (okp rfl) (Nat.le_refl _) (Nat.le_refl _) ?_
  refine e_isub d_Cutter_haveLikeSides_14 ?_
  obtain ⟨y7, ey7, h⟩ := nm_s h
  refine e_nameI ey7 ?_
  refine e_istore_n (l2 := [some (.ref x0), some (.int y7), none, none, none]) d_Cutter_haveLikeSides_15 rfl (okl rfl) rfl ?_
  refine e_aload_n d_Cutter_haveLikeSides_16 rfl ?_
  obtain ⟨v8, hv8, h⟩ := bnd h
  refine e_getR d_Cutter_haveLikeSides_17 fl_Cutter_34 (fun _ _ _ => rfl) hv8 ?_
  obtain ⟨p9, hp9, h⟩ := bnd h
  refine e_cVi (mt1 := m_Shape_bottom) (As := []) (st := []) d_Cutter_haveLikeSides_20 ml_Cutter_121 mv_Shape_bottom (t_Shape_bottom n v8 p6.2 p9 hp9) (fc_Shape_bottom hp9) rfl rfl rfl (okp rfl) (okp rfl) (okp rfl) (Nat.le_refl _) (Nat.le_refl _) ?_
  refine e_aload_n d_Cutter_haveLikeSides_23 rfl ?_
  obtain ⟨v10, hv10, h⟩ := bnd h
  refine e_getR d_Cutter_haveLikeSides_24 fl_Cutter_34 (fun _ _ _ => rfl) hv10 ?_
  obtain ⟨p11, hp11, h⟩ := bnd h
  refine e_cVi (mt1 := m_Shape_top) (As := []) (st := [.int p9.1]) d_Cutter_haveLikeSides_27 ml_Cutter_124 mv_Shape_top (t_Shape_top n v10 p9.2 p11 hp11) (fc_Shape_top hp11) rfl rfl rfl (okp rfl) (okp rfl) (okp rfl) (Nat.le_refl _) (Nat.le_refl _) ?_
  refine e_isub d_Cutter_haveLikeSides_30 ?_
  obtain ⟨y12, ey12, h⟩ := nm_s h
  refine e_nameI ey12 ?_
  refine e_istore_n (l2 := [some (.ref x0), some (.int y7), some (.int y12), none, none]) d_Cutter_haveLikeSides_31 rfl (okl rfl) rfl ?_
  refine e_aload_n d_Cutter_haveLikeSides_32 rfl ?_
  obtain ⟨v13, hv13, h⟩ := bnd h
  refine e_getR d_Cutter_haveLikeSides_33 fl_Cutter_40 (fun _ _ _ => rfl) hv13 ?_
  obtain ⟨p14, hp14, h⟩ := bnd h
  refine e_cVi (mt1 := m_Shape_right) (As := []) (st := []) d_Cutter_haveLikeSides_36 ml_Cutter_114 mv_Shape_right (t_Shape_right n v13 p11.2 p14 hp14) (fc_Shape_right hp14) rfl rfl rfl (okp rfl) (okp rfl) (okp rfl) (Nat.le_refl _) (Nat.le_refl _) ?_
  refine e_aload_n d_Cutter_haveLikeSides_39 rfl ?_
  obtain ⟨v15, hv15, h⟩ := bnd h
  refine e_getR d_Cutter_haveLikeSides_40 fl_Cutter_40 (fun _ _ _ => rfl) hv15 ?_
  obtain ⟨p16, hp16, h⟩ := bnd h
  refine e_cVi (mt1 := m_Shape_left) (As := []) (st := [.int p14.1]) d_Cutter_haveLikeSides_43 ml_Cutter_118 mv_Shape_left (t_Shape_left n v15 p14.2 p16 hp16) (fc_Shape_left hp16) rfl rfl rfl (okp rfl) (okp rfl) (okp rfl) (Nat.le_refl _) (Nat.le_refl _) ?_
  refine e_isub d_Cutter_haveLikeSides_46 ?_
  obtain ⟨y17, ey17, h⟩ := nm_s h
  refine e_nameI ey17 ?_
  refine e_istore_n (l2 := [some (.ref x0), some (.int y7), some (.int y12), some (.int y17), none]) d_Cutter_haveLikeSides_47 rfl (okl rfl) rfl ?_
  refine e_aload_n d_Cutter_haveLikeSides_48 rfl ?_
  obtain ⟨v18, hv18, h⟩ := bnd h
  refine e_getR d_Cutter_haveLikeSides_49 fl_Cutter_40 (fun _ _ _ => rfl) hv18 ?_
  obtain ⟨p19, hp19, h⟩ := bnd h
  refine e_cVi (mt1 := m_Shape_bottom) (As := []) (st := []) d_Cutter_haveLikeSides_52 ml_Cutter_121 mv_Shape_bottom (t_Shape_bottom n v18 p16.2 p19 hp19) (fc_Shape_bottom hp19) rfl rfl rfl (okp rfl) (okp rfl) (okp rfl) (Nat.le_refl _) (Nat.le_refl _) ?_
  refine e_aload_n d_Cutter_haveLikeSides_55 rfl ?_
  obtain ⟨v20, hv20, h⟩ := bnd h
  refine e_getR d_Cutter_haveLikeSides_56 fl_Cutter_40 (fun _ _ _ => rfl) hv20 ?_
  obtain ⟨p21, hp21, h⟩ := bnd h
  refine e_cVi (mt1 := m_Shape_top) (As := []) (st := [.int p19.1]) d_Cutter_haveLikeSides_59 ml_Cutter_124 mv_Shape_top (t_Shape_top n v20 p19.2 p21 hp21) (fc_Shape_top hp21) rfl rfl rfl (okp rfl) (okp rfl) (okp rfl) (Nat.le_refl _) (Nat.le_refl _) ?_
  refine e_isub d_Cutter_haveLikeSides_62 ?_
  obtain ⟨y22, ey22, h⟩ := nm_s h
  refine e_nameI ey22 ?_
  refine e_istore (l2 := [some (.ref x0), some (.int y7), some (.int y12), some (.int y17), some (.int y22)]) d_Cutter_haveLikeSides_63 rfl (okl rfl) rfl ?_
  refine e_iload_n d_Cutter_haveLikeSides_65 rfl ?_
  refine e_iload_n d_Cutter_haveLikeSides_66 rfl ?_
  refine e_ic_ne 76 d_Cutter_haveLikeSides_67 (by decide) (fun c23 => ?_) (fun c23 => ?_)
  · replace h := ifn c23 h
    exact (t_Cutter_haveLikeSides_76 n y7 y12 y17 y22 p21.2 z h).less (show LSub _ _ from ⟨rfl, ⟨rfl, ⟨rfl, ⟨rfl, trivial⟩⟩⟩⟩)
  · replace h := ift c23 h
    refine e_iload_n d_Cutter_haveLikeSides_70 rfl ?_
    refine e_iload d_Cutter_haveLikeSides_71 rfl ?_
    refine e_ic_eq 87 d_Cutter_haveLikeSides_73 (by decide) (fun c24 => ?_) (fun c24 => ?_)
    · replace h := ift c24 h
      exact (t_Cutter_haveLikeSides_87 n  p21.2 z h).less (show LSub _ _ from trivial)
    · replace h := ifn c24 h
      exact (t_Cutter_haveLikeSides_76 n y7 y12 y17 y22 p21.2 z h).less (show LSub _ _ from ⟨rfl, ⟨rfl, ⟨rfl, ⟨rfl, trivial⟩⟩⟩⟩)
theorem d_Cutter_cuts_0 : DC m_Cutter_cuts 0 (.aload_n 0) 1 1 := ⟨by decide +kernel, rfl⟩
theorem d_Cutter_cuts_1 : DC m_Cutter_cuts 1 (.getfield 31) 3 4 := ⟨by decide +kernel, rfl⟩
theorem d_Cutter_cuts_4 : DC m_Cutter_cuts 4 (.aload_n 1) 1 5 := ⟨by decide +kernel, rfl⟩
theorem d_Cutter_cuts_5 : DC m_Cutter_cuts 5 (.iload_n 2) 1 6 := ⟨by decide +kernel, rfl⟩
theorem d_Cutter_cuts_6 : DC m_Cutter_cuts 6 (.iload_n 3) 1 7 := ⟨by decide +kernel, rfl⟩
theorem d_Cutter_cuts_7 : DC m_Cutter_cuts 7 (.invokevirtual 85) 3 10 := ⟨by decide +kernel, rfl⟩
theorem d_Cutter_cuts_10 : DC m_Cutter_cuts 10 (.aload_n 0) 1 11 := ⟨by decide +kernel, rfl⟩
theorem d_Cutter_cuts_11 : DC m_Cutter_cuts 11 (.getfield 31) 3 14 := ⟨by decide +kernel, rfl⟩
theorem d_Cutter_cuts_14 : DC m_Cutter_cuts 14 (.aload_n 0) 1 15 := ⟨by decide +kernel, rfl⟩
theorem d_Cutter_cuts_15 : DC m_Cutter_cuts 15 (.getfield 27) 3 18 := ⟨by decide +kernel, rfl⟩
theorem d_Cutter_cuts_18 : DC m_Cutter_cuts 18 (.invokevirtual 89) 3 21 := ⟨by decide +kernel, rfl⟩
theorem d_Cutter_cuts_21 : DC m_Cutter_cuts 21 (.aload_n 0) 1 22 := ⟨by decide +kernel, rfl⟩
theorem d_Cutter_cuts_22 : DC m_Cutter_cuts 22 (.getfield 31) 3 25 := ⟨by decide +kernel, rfl⟩
theorem d_Cutter_cuts_25 : DC m_Cutter_cuts 25 (.invokevirtual 92) 3 28 := ⟨by decide +kernel, rfl⟩
theorem d_Cutter_cuts_28 : DC m_Cutter_cuts 28 (.ifCond .eq 5) 3 31 := ⟨by decide +kernel, rfl⟩
theorem d_Cutter_cuts_31 : DC m_Cutter_cuts 31 (.iconst 0) 1 32 := ⟨by decide +kernel, rfl⟩
theorem d_Cutter_cuts_32 : DC m_Cutter_cuts 32 .ireturn 1 33 := ⟨by decide +kernel, rfl⟩
theorem d_Cutter_cuts_33 : DC m_Cutter_cuts 33 (.aload_n 0) 1 34 := ⟨by decide +kernel, rfl⟩
theorem d_Cutter_cuts_34 : DC m_Cutter_cuts 34 (.getfield 34) 3 37 := ⟨by decide +kernel, rfl⟩
theorem d_Cutter_cuts_37 : DC m_Cutter_cuts 37 (.aload_n 0) 1 38 := ⟨by decide +kernel, rfl⟩
theorem d_Cutter_cuts_38 : DC m_Cutter_cuts 38 (.getfield 27) 3 41 := ⟨by decide +kernel, rfl⟩
theorem d_Cutter_cuts_41 : DC m_Cutter_cuts 41 (.invokevirtual 54) 3 44 := ⟨by decide +kernel, rfl⟩
theorem d_Cutter_cuts_44 : DC m_Cutter_cuts 44 (.aload_n 0) 1 45 := ⟨by decide +kernel, rfl⟩
theorem d_Cutter_cuts_45 : DC m_Cutter_cuts 45 (.getfield 34) 3 48 := ⟨by decide +kernel, rfl⟩
theorem d_Cutter_cuts_48 : DC m_Cutter_cuts 48 (.aload_n 0) 1 49 := ⟨by decide +kernel, rfl⟩
theorem d_Cutter_cuts_49 : DC m_Cutter_cuts 49 (.getfield 31) 3 52 := ⟨by decide +kernel, rfl⟩
theorem d_Cutter_cuts_52 : DC m_Cutter_cuts 52 (.invokevirtual 96) 3 55 := ⟨by decide +kernel, rfl⟩
theorem d_Cutter_cuts_55 : DC m_Cutter_cuts 55 (.aload_n 0) 1 56 := ⟨by decide +kernel, rfl⟩
theorem d_Cutter_cuts_56 : DC m_Cutter_cuts 56 (.getfield 37) 3 59 := ⟨by decide +kernel, rfl⟩
theorem d_Cutter_cuts_59 : DC m_Cutter_cuts 59 (.aload_n 0) 1 60 := ⟨by decide +kernel, rfl⟩
theorem d_Cutter_cuts_60 : DC m_Cutter_cuts 60 (.getfield 31) 3 63 := ⟨by decide +kernel, rfl⟩
theorem d_Cutter_cuts_63 : DC m_Cutter_cuts 63 (.iload_n 2) 1 64 := ⟨by decide +kernel, rfl⟩
theorem d_Cutter_cuts_64 : DC m_Cutter_cuts 64 .ineg 1 65 := ⟨by decide +kernel, rfl⟩
theorem d_Cutter_cuts_65 : DC m_Cutter_cuts 65 (.iload_n 3) 1 66 := ⟨by decide +kernel, rfl⟩
theorem d_Cutter_cuts_66 : DC m_Cutter_cuts 66 .ineg 1 67 := ⟨by decide +kernel, rfl⟩
theorem d_Cutter_cuts_67 : DC m_Cutter_cuts 67 (.invokevirtual 85) 3 70 := ⟨by decide +kernel, rfl⟩
theorem d_Cutter_cuts_70 : DC m_Cutter_cuts 70 (.aload_n 0) 1 71 := ⟨by decide +kernel, rfl⟩
theorem d_Cutter_cuts_71 : DC m_Cutter_cuts 71 (.getfield 40) 3 74 := ⟨by decide +kernel, rfl⟩
theorem d_Cutter_cuts_74 : DC m_Cutter_cuts 74 (.aload_n 1) 1 75 := ⟨by decide +kernel, rfl⟩
theorem d_Cutter_cuts_75 : DC m_Cutter_cuts 75 (.invokevirtual 54) 3 78 := ⟨by decide +kernel, rfl⟩
theorem d_Cutter_cuts_78 : DC m_Cutter_cuts 78 (.aload_n 0) 1 79 := ⟨by decide +kernel, rfl⟩
theorem d_Cutter_cuts_79 : DC m_Cutter_cuts 79 (.getfield 40) 3 82 := ⟨by decide +kernel, rfl⟩
theorem d_Cutter_cuts_82 : DC m_Cutter_cuts 82 (.aload_n 0) 1 83 := ⟨by decide +kernel, rfl⟩
theorem d_Cutter_cuts_83 : DC m_Cutter_cuts 83 (.getfield 37) 3 86 := ⟨by decide +kernel, rfl⟩
theorem d_Cutter_cuts_86 : DC m_Cutter_cuts 86 (.invokevirtual 96) 3 89 := ⟨by decide +kernel, rfl⟩
theorem d_Cutter_cuts_89 : DC m_Cutter_cuts 89 (.aload_n 0) 1 90 := ⟨by decide +kernel, rfl⟩
theorem d_Cutter_cuts_90 : DC m_Cutter_cuts 90 (.invokevirtual 99) 3 93 := ⟨by decide +kernel, rfl⟩
theorem d_Cutter_cuts_93 : DC m_Cutter_cuts 93 (.ifCond .eq 27) 3 96 := ⟨by decide +kernel, rfl⟩
theorem d_Cutter_cuts_96 : DC m_Cutter_cuts 96 (.aload 4) 2 98 := ⟨by decide +kernel, rfl⟩
theorem d_Cutter_cuts_98 : DC m_Cutter_cuts 98 (.aload_n 0) 1 99 := ⟨by decide +kernel, rfl⟩
theorem d_Cutter_cuts_99 : DC m_Cutter_cuts 99 (.getfield 31) 3 102 := ⟨by decide +kernel, rfl⟩
theorem d_Cutter_cuts_102 : DC m_Cutter_cuts 102 (.invokevirtual 102) 3 105 := ⟨by decide +kernel, rfl⟩
theorem d_Cutter_cuts_105 : DC m_Cutter_cuts 105 (.ifCond .eq 15) 3 108 := ⟨by decide +kernel, rfl⟩
theorem d_Cutter_cuts_108 : DC m_Cutter_cuts 108 (.aload 4) 2 110 := ⟨by decide +kernel, rfl⟩
theorem d_Cutter_cuts_110 : DC m_Cutter_cuts 110 (.aload_n 0) 1 111 := ⟨by decide +kernel, rfl⟩
theorem d_Cutter_cuts_111 : DC m_Cutter_cuts 111 (.getfield 34) 3 114 := ⟨by decide +kernel, rfl⟩
theorem d_Cutter_cuts_114 : DC m_Cutter_cuts 114 (.invokevirtual 102) 3 117 := ⟨by decide +kernel, rfl⟩
theorem d_Cutter_cuts_117 : DC m_Cutter_cuts 117 (.ifCond .ne 5) 3 120 := ⟨by decide +kernel, rfl⟩
theorem d_Cutter_cuts_120 : DC m_Cutter_cuts 120 (.iconst 0) 1 121 := ⟨by decide +kernel, rfl⟩
theorem d_Cutter_cuts_121 : DC m_Cutter_cuts 121 .ireturn 1 122 := ⟨by decide +kernel, rfl⟩
theorem d_Cutter_cuts_122 : DC m_Cutter_cuts 122 (.aload_n 0) 1 123 := ⟨by decide +kernel, rfl⟩
theorem d_Cutter_cuts_123 : DC m_Cutter_cuts 123 (.getfield 40) 3 126 := ⟨by decide +kernel, rfl⟩
theorem d_Cutter_cuts_126 : DC m_Cutter_cuts 126 (.invokevirtual 108) 3 129 := ⟨by decide +kernel, rfl⟩
theorem d_Cutter_cuts_129 : DC m_Cutter_cuts 129 (.aload_n 0) 1 130 := ⟨by decide +kernel, rfl⟩
theorem d_Cutter_cuts_130 : DC m_Cutter_cuts 130 (.getfield 46) 3 133 := ⟨by decide +kernel, rfl⟩
theorem d_Cutter_cuts_133 : DC m_Cutter_cuts 133 (.aload_n 0) 1 134 := ⟨by decide +kernel, rfl⟩
theorem d_Cutter_cuts_134 : DC m_Cutter_cuts 134 (.getfield 34) 3 137 := ⟨by decide +kernel, rfl⟩
theorem d_Cutter_cuts_137 : DC m_Cutter_cuts 137 (.invokevirtual 111) 3 140 := ⟨by decide +kernel, rfl⟩
theorem d_Cutter_cuts_140 : DC m_Cutter_cuts 140 (.aload_n 0) 1 141 := ⟨by decide +kernel, rfl⟩
theorem d_Cutter_cuts_141 : DC m_Cutter_cuts 141 (.getfield 46) 3 144 := ⟨by decide +kernel, rfl⟩
theorem d_Cutter_cuts_144 : DC m_Cutter_cuts 144 (.aload_n 0) 1 145 := ⟨by decide +kernel, rfl⟩
theorem d_Cutter_cuts_145 : DC m_Cutter_cuts 145 (.getfield 40) 3 148 := ⟨by decide +kernel, rfl⟩
theorem d_Cutter_cuts_148 : DC m_Cutter_cuts 148 (.invokevirtual 58) 3 151 := ⟨by decide +kernel, rfl⟩
theorem d_Cutter_cuts_151 : DC m_Cutter_cuts 151 (.ifCond .lt 7) 3 154 := ⟨by decide +kernel, rfl⟩
theorem d_Cutter_cuts_154 : DC m_Cutter_cuts 154 (.iconst 1) 1 155 := ⟨by decide +kernel, rfl⟩
theorem d_Cutter_cuts_155 : DC m_Cutter_cuts 155 (.goto 4) 3 158 := ⟨by decide +kernel, rfl⟩
theorem d_Cutter_cuts_158 : DC m_Cutter_cuts 158 (.iconst 0) 1 159 := ⟨by decide +kernel, rfl⟩
theorem d_Cutter_cuts_159 : DC m_Cutter_cuts 159 .ireturn 1 160 := ⟨by decide +kernel, rfl⟩
def f_Cutter_cuts (n : Nat) (x0 : Nat) (x1 : Nat) (x2 : Int32) (x3 : Int32) (x4 : Nat) (M : MM) : Option (Int32 × MM) :=
  og 2 x0 M <|
  (gR 2 5 x0 M).bind fun v1 =>
  (f_Shape_becomeShifted n v1 x1 x2 x3 M).bind fun M2 =>
  (gR 2 5 x0 M2).bind fun v3 =>
  (gR 2 4 x0 M2).bind fun v4 =>
  (f_Shape_keepCommon n v3 v4 M2).bind fun M5 =>
  (gR 2 5 x0 M5).bind fun v6 =>
  (f_Shape_isNothing n v6 M5).bind fun p7 =>
  if p7.1 = 0 then
    (gR 2 6 x0 p7.2).bind fun v9 =>
    (gR 2 4 x0 p7.2).bind fun v10 =>
    (f_Shape_copy n v9 v10 p7.2).bind fun M11 =>
    (gR 2 6 x0 M11).bind fun v12 =>
    (gR 2 5 x0 M11).bind fun v13 =>
    (f_Shape_takeAway n v12 v13 M11).bind fun M14 =>
    (gR 2 7 x0 M14).bind fun v15 =>
    (gR 2 5 x0 M14).bind fun v16 =>
    (f_Shape_becomeShifted n v15 v16 (-x2) (-x3) M14).bind fun M17 =>
    (gR 2 8 x0 M17).bind fun v18 =>
    (f_Shape_copy n v18 x1 M17).bind fun M19 =>
    (gR 2 8 x0 M19).bind fun v20 =>
    (gR 2 7 x0 M19).bind fun v21 =>
    (f_Shape_takeAway n v20 v21 M19).bind fun M22 =>
    (f_Cutter_haveLikeSides n x0 M22).bind fun p23 =>
    if p23.1 = 0 then
      some (0, p23.2)
    else
      (gR 2 5 x0 p23.2).bind fun v25 =>
      (f_Measure_isOnePiece n x4 v25 p23.2).bind fun p26 =>
      if p26.1 = 0 then
        some (0, p26.2)
      else
        (gR 2 6 x0 p26.2).bind fun v28 =>
        (f_Measure_isOnePiece n x4 v28 p26.2).bind fun p29 =>
        if p29.1 = 0 then
          some (0, p29.2)
        else
          (gR 2 8 x0 p29.2).bind fun v31 =>
          (f_Shape_moveToBase n v31 p29.2).bind fun M32 =>
          (gR 2 9 x0 M32).bind fun v33 =>
          (gR 2 6 x0 M32).bind fun v34 =>
          (f_Form_tell n v33 v34 M32).bind fun M35 =>
          (gR 2 9 x0 M35).bind fun v36 =>
          (gR 2 8 x0 M35).bind fun v37 =>
          (f_Form_imageThatIs n v36 v37 M35).bind fun p38 =>
          if p38.1 < 0 then
            some (0, p38.2)
          else
            some (1, p38.2)
  else
    some (0, p7.2)
theorem fc_Cutter_cuts {n : Nat} {x0 : Nat} {x1 : Nat} {x2 : Int32} {x3 : Int32} {x4 : Nat} {M : MM} {z : Int32 × MM} (h : f_Cutter_cuts n x0 x1 x2 x3 x4 M = some z) : (M.1.2.1 x0).1 = 2 := by
  unfold f_Cutter_cuts at h
  exact (og_s h).1
theorem t_Cutter_cuts (n : Nat) (x0 : Nat) (x1 : Nat) (x2 : Int32) (x3 : Int32) (x4 : Nat) (M : MM) (z : Int32 × MM) (h : f_Cutter_cuts n x0 x1 x2 x3 x4 M = some z) : CT m_Cutter_cuts (rm 5 0 0) [.ref x0, .ref x1, .int x2, .int x3, .ref x4] M (some (.int z.1)) z.2 := by
  unfold f_Cutter_cuts at h
  obtain ⟨hthis, h⟩ := og_s h
  refine CT.of (ls := [some (.ref x0), some (.ref x1), some (.int x2), some (.int x3), some (.ref x4)]) rfl (okp rfl) rfl ?_
  refine e_aload_n d_Cutter_cuts_0 rfl ?_
  obtain ⟨v1, hv1, h⟩ := bnd h
  refine e_getR d_Cutter_cuts_1 fl_Cutter_31 (fun _ _ _ => rfl) hv1 ?_
  refine e_aload_n d_Cutter_cuts_4 rfl ?_
  refine e_iload_n d_Cutter_cuts_5 rfl ?_
  refine e_iload_n d_Cutter_cuts_6 rfl ?_
  obtain ⟨M2, hM2, h⟩ := bnd h
  refine e_cVv (mt1 := m_Shape_becomeShifted) (As := [.ref x1, .int x2, .int x3]) (st := []) d_Cutter_cuts_7 ml_Cutter_85 mv_Shape_becomeShifted (t_Shape_becomeShifted n v1 x1 x2 x3 M M2 hM2) (fc_Shape_becomeShifted hM2) rfl rfl rfl (okp rfl) (okp rfl) (okp rfl) (Nat.le_refl _) (Nat.le_refl _) ?_
  refine e_aload_n d_Cutter_cuts_10 rfl ?_
  obtain ⟨v3, hv3, h⟩ := bnd h
  refine e_getR d_Cutter_cuts_11 fl_Cutter_31 (fun _ _ _ => rfl) hv3 ?_
  refine e_aload_n d_Cutter_cuts_14 rfl ?_
  obtain ⟨v4, hv4, h⟩ := bnd h
  refine e_getR d_Cutter_cuts_15 fl_Cutter_27 (fun _ _ _ => rfl) hv4 ?_
  obtain ⟨M5, hM5, h⟩ := bnd h
  refine e_cVv (mt1 := m_Shape_keepCommon) (As := [.ref v4]) (st := []) d_Cutter_cuts_18 ml_Cutter_89 mv_Shape_keepCommon (t_Shape_keepCommon n v3 v4 M2 M5 hM5) (fc_Shape_keepCommon hM5) rfl rfl rfl (okp rfl) (okp rfl) (okp rfl) (Nat.le_refl _) (Nat.le_refl _) ?_
  refine e_aload_n d_Cutter_cuts_21 rfl ?_
  obtain ⟨v6, hv6, h⟩ := bnd h
  refine e_getR d_Cutter_cuts_22 fl_Cutter_31 (fun _ _ _ => rfl) hv6 ?_
  obtain ⟨p7, hp7, h⟩ := bnd h
  refine e_cVi (mt1 := m_Shape_isNothing) (As := []) (st := []) d_Cutter_cuts_25 ml_Cutter_92 mv_Shape_isNothing (t_Shape_isNothing n v6 M5 p7 hp7) (fc_Shape_isNothing hp7) rfl rfl rfl (okp rfl) (okp rfl) (okp rfl) (Nat.le_refl _) (Nat.le_refl _) ?_
  refine e_if_eq 33 d_Cutter_cuts_28 (by decide) (fun c8 => ?_) (fun c8 => ?_)
  · replace h := ift c8 h
    refine e_aload_n d_Cutter_cuts_33 rfl ?_
    obtain ⟨v9, hv9, h⟩ := bnd h
    refine e_getR d_Cutter_cuts_34 fl_Cutter_34 (fun _ _ _ => rfl) hv9 ?_
    refine e_aload_n d_Cutter_cuts_37 rfl ?_
    obtain ⟨v10, hv10, h⟩ := bnd h
    refine e_getR d_Cutter_cuts_38 fl_Cutter_27 (fun _ _ _ => rfl) hv10 ?_
    obtain ⟨M11, hM11, h⟩ := bnd h
    refine e_cVv (mt1 := m_Shape_copy) (As := [.ref v10]) (st := []) d_Cutter_cuts_41 ml_Cutter_54 mv_Shape_copy (t_Shape_copy n v9 v10 p7.2 M11 hM11) (fc_Shape_copy hM11) rfl rfl rfl (okp rfl) (okp rfl) (okp rfl) (Nat.le_refl _) (Nat.le_refl _) ?_
    refine e_aload_n d_Cutter_cuts_44 rfl ?_
    obtain ⟨v12, hv12, h⟩ := bnd h
    refine e_getR d_Cutter_cuts_45 fl_Cutter_34 (fun _ _ _ => rfl) hv12 ?_
    refine e_aload_n d_Cutter_cuts_48 rfl ?_
    obtain ⟨v13, hv13, h⟩ := bnd h
    refine e_getR d_Cutter_cuts_49 fl_Cutter_31 (fun _ _ _ => rfl) hv13 ?_
    obtain ⟨M14, hM14, h⟩ := bnd h
    refine e_cVv (mt1 := m_Shape_takeAway) (As := [.ref v13]) (st := []) d_Cutter_cuts_52 ml_Cutter_96 mv_Shape_takeAway (t_Shape_takeAway n v12 v13 M11 M14 hM14) (fc_Shape_takeAway hM14) rfl rfl rfl (okp rfl) (okp rfl) (okp rfl) (Nat.le_refl _) (Nat.le_refl _) ?_
    refine e_aload_n d_Cutter_cuts_55 rfl ?_
    obtain ⟨v15, hv15, h⟩ := bnd h
    refine e_getR d_Cutter_cuts_56 fl_Cutter_37 (fun _ _ _ => rfl) hv15 ?_
    refine e_aload_n d_Cutter_cuts_59 rfl ?_
    obtain ⟨v16, hv16, h⟩ := bnd h
    refine e_getR d_Cutter_cuts_60 fl_Cutter_31 (fun _ _ _ => rfl) hv16 ?_
    refine e_iload_n d_Cutter_cuts_63 rfl ?_
    refine e_ineg d_Cutter_cuts_64 ?_
    refine e_iload_n d_Cutter_cuts_65 rfl ?_
    refine e_ineg d_Cutter_cuts_66 ?_
    obtain ⟨M17, hM17, h⟩ := bnd h
    refine e_cVv (mt1 := m_Shape_becomeShifted) (As := [.ref v16, .int (-x2), .int (-x3)]) (st := []) d_Cutter_cuts_67 ml_Cutter_85 mv_Shape_becomeShifted (t_Shape_becomeShifted n v15 v16 (-x2) (-x3) M14 M17 hM17) (fc_Shape_becomeShifted hM17) rfl rfl rfl (okp rfl) (okp rfl) (okp rfl) (Nat.le_refl _) (Nat.le_refl _) ?_
    refine e_aload_n d_Cutter_cuts_70 rfl ?_
    obtain ⟨v18, hv18, h⟩ := bnd h
    refine e_getR d_Cutter_cuts_71 fl_Cutter_40 (fun _ _ _ => rfl) hv18 ?_
    refine e_aload_n d_Cutter_cuts_74 rfl ?_
    obtain ⟨M19, hM19, h⟩ := bnd h
    refine e_cVv (mt1 := m_Shape_copy) (As := [.ref x1]) (st := []) d_Cutter_cuts_75 ml_Cutter_54 mv_Shape_copy (t_Shape_copy n v18 x1 M17 M19 hM19) (fc_Shape_copy hM19) rfl rfl rfl (okp rfl) (okp rfl) (okp rfl) (Nat.le_refl _) (Nat.le_refl _) ?_
    refine e_aload_n d_Cutter_cuts_78 rfl ?_
    obtain ⟨v20, hv20, h⟩ := bnd h
    refine e_getR d_Cutter_cuts_79 fl_Cutter_40 (fun _ _ _ => rfl) hv20 ?_
    refine e_aload_n d_Cutter_cuts_82 rfl ?_
    obtain ⟨v21, hv21, h⟩ := bnd h
    refine e_getR d_Cutter_cuts_83 fl_Cutter_37 (fun _ _ _ => rfl) hv21 ?_
    obtain ⟨M22, hM22, h⟩ := bnd h
    refine e_cVv (mt1 := m_Shape_takeAway) (As := [.ref v21]) (st := []) d_Cutter_cuts_86 ml_Cutter_96 mv_Shape_takeAway (t_Shape_takeAway n v20 v21 M19 M22 hM22) (fc_Shape_takeAway hM22) rfl rfl rfl (okp rfl) (okp rfl) (okp rfl) (Nat.le_refl _) (Nat.le_refl _) ?_
    refine e_aload_n d_Cutter_cuts_89 rfl ?_
    obtain ⟨p23, hp23, h⟩ := bnd h
    refine e_cVi (mt1 := m_Cutter_haveLikeSides) (As := []) (st := []) d_Cutter_cuts_90 ml_Cutter_99 mv_Cutter_haveLikeSides (t_Cutter_haveLikeSides n x0 M22 p23 hp23) (fc_Cutter_haveLikeSides hp23) rfl rfl rfl (okp rfl) (okp rfl) (okp rfl) (Nat.le_refl _) (Nat.le_refl _) ?_
    refine e_if_eq 120 d_Cutter_cuts_93 (by decide) (fun c24 => ?_) (fun c24 => ?_)
    · replace h := ift c24 h
      refine e_iconst (v := 0) d_Cutter_cuts_120 (by decide) ?_
      cases h
      exact e_zret (ty := .boolean) d_Cutter_cuts_121 rfl narZ0 (Nat.le_refl _) (Nat.le_refl _)
    · replace h := ifn c24 h
      refine e_aload d_Cutter_cuts_96 rfl ?_
      refine e_aload_n d_Cutter_cuts_98 rfl ?_
      obtain ⟨v25, hv25, h⟩ := bnd h
      refine e_getR d_Cutter_cuts_99 fl_Cutter_31 (fun _ _ _ => rfl) hv25 ?_
      obtain ⟨p26, hp26, h⟩ := bnd h
      refine e_cVi (mt1 := m_Measure_isOnePiece) (As := [.ref v25]) (st := []) d_Cutter_cuts_102 ml_Cutter_102 mv_Measure_isOnePiece (t_Measure_isOnePiece n x4 v25 p23.2 p26 hp26) (fc_Measure_isOnePiece hp26) rfl rfl rfl (okp rfl) (okp rfl) (okp rfl) (Nat.le_refl _) (Nat.le_refl _) ?_
      refine e_if_eq 120 d_Cutter_cuts_105 (by decide) (fun c27 => ?_) (fun c27 => ?_)
      · replace h := ift c27 h
        refine e_iconst (v := 0) d_Cutter_cuts_120 (by decide) ?_
        cases h
        exact e_zret (ty := .boolean) d_Cutter_cuts_121 rfl narZ0 (Nat.le_refl _) (Nat.le_refl _)
      · replace h := ifn c27 h
        refine e_aload d_Cutter_cuts_108 rfl ?_
        refine e_aload_n d_Cutter_cuts_110 rfl ?_
        obtain ⟨v28, hv28, h⟩ := bnd h
        refine e_getR d_Cutter_cuts_111 fl_Cutter_34 (fun _ _ _ => rfl) hv28 ?_
        obtain ⟨p29, hp29, h⟩ := bnd h
        refine e_cVi (mt1 := m_Measure_isOnePiece) (As := [.ref v28]) (st := []) d_Cutter_cuts_114 ml_Cutter_102 mv_Measure_isOnePiece (t_Measure_isOnePiece n x4 v28 p26.2 p29 hp29) (fc_Measure_isOnePiece hp29) rfl rfl rfl (okp rfl) (okp rfl) (okp rfl) (Nat.le_refl _) (Nat.le_refl _) ?_
        refine e_if_ne 122 d_Cutter_cuts_117 (by decide) (fun c30 => ?_) (fun c30 => ?_)
        · replace h := ifn c30 h
          refine e_aload_n d_Cutter_cuts_122 rfl ?_
          obtain ⟨v31, hv31, h⟩ := bnd h
          refine e_getR d_Cutter_cuts_123 fl_Cutter_40 (fun _ _ _ => rfl) hv31 ?_
          obtain ⟨M32, hM32, h⟩ := bnd h
          refine e_cVv (mt1 := m_Shape_moveToBase) (As := []) (st := []) d_Cutter_cuts_126 ml_Cutter_108 mv_Shape_moveToBase (t_Shape_moveToBase n v31 p29.2 M32 hM32) (fc_Shape_moveToBase hM32) rfl rfl rfl (okp rfl) (okp rfl) (okp rfl) (Nat.le_refl _) (Nat.le_refl _) ?_
          refine e_aload_n d_Cutter_cuts_129 rfl ?_
          obtain ⟨v33, hv33, h⟩ := bnd h
          refine e_getR d_Cutter_cuts_130 fl_Cutter_46 (fun _ _ _ => rfl) hv33 ?_
          refine e_aload_n d_Cutter_cuts_133 rfl ?_
          obtain ⟨v34, hv34, h⟩ := bnd h
          refine e_getR d_Cutter_cuts_134 fl_Cutter_34 (fun _ _ _ => rfl) hv34 ?_
          obtain ⟨M35, hM35, h⟩ := bnd h
          refine e_cVv (mt1 := m_Form_tell) (As := [.ref v34]) (st := []) d_Cutter_cuts_137 ml_Cutter_111 mv_Form_tell (t_Form_tell n v33 v34 M32 M35 hM35) (fc_Form_tell hM35) rfl rfl rfl (okp rfl) (okp rfl) (okp rfl) (Nat.le_refl _) (Nat.le_refl _) ?_
          refine e_aload_n d_Cutter_cuts_140 rfl ?_
          obtain ⟨v36, hv36, h⟩ := bnd h
          refine e_getR d_Cutter_cuts_141 fl_Cutter_46 (fun _ _ _ => rfl) hv36 ?_
          refine e_aload_n d_Cutter_cuts_144 rfl ?_
          obtain ⟨v37, hv37, h⟩ := bnd h
          refine e_getR d_Cutter_cuts_145 fl_Cutter_40 (fun _ _ _ => rfl) hv37 ?_
          obtain ⟨p38, hp38, h⟩ := bnd h
          refine e_cVi (mt1 := m_Form_imageThatIs) (As := [.ref v37]) (st := []) d_Cutter_cuts_148 ml_Cutter_58 mv_Form_imageThatIs (t_Form_imageThatIs n v36 v37 M35 p38 hp38) (fc_Form_imageThatIs hp38) rfl rfl rfl (okp rfl) (okp rfl) (okp rfl) (Nat.le_refl _) (Nat.le_refl _) ?_
          refine e_if_lt 158 d_Cutter_cuts_151 (by decide) (fun c39 => ?_) (fun c39 => ?_)
          · replace h := ift c39 h
            refine e_iconst (v := 0) d_Cutter_cuts_158 (by decide) ?_
            cases h
            exact e_zret (ty := .boolean) d_Cutter_cuts_159 rfl narZ0 (Nat.le_refl _) (Nat.le_refl _)
          · replace h := ifn c39 h
            refine e_iconst (v := 1) d_Cutter_cuts_154 (by decide) ?_
            refine e_goto 159 d_Cutter_cuts_155 (by decide) ?_
            cases h
            exact e_zret (ty := .boolean) d_Cutter_cuts_159 rfl narZ1 (Nat.le_refl _) (Nat.le_refl _)
        · replace h := ift c30 h
          refine e_iconst (v := 0) d_Cutter_cuts_120 (by decide) ?_
          cases h
          exact e_zret (ty := .boolean) d_Cutter_cuts_121 rfl narZ0 (Nat.le_refl _) (Nat.le_refl _)
  · replace h := ifn c8 h
    refine e_iconst (v := 0) d_Cutter_cuts_31 (by decide) ?_
    cases h
    exact e_zret (ty := .boolean) d_Cutter_cuts_32 rfl narZ0 (Nat.le_refl _) (Nat.le_refl _)
theorem d_Cutter_lookWith_0 : DC m_Cutter_lookWith 0 (.bipush (-7)) 2 2 := ⟨by decide +kernel, rfl⟩
theorem d_Cutter_lookWith_2 : DC m_Cutter_lookWith 2 (.istore 4) 2 4 := ⟨by decide +kernel, rfl⟩
theorem d_Cutter_lookWith_4 : DC m_Cutter_lookWith 4 (.iload 4) 2 6 := ⟨by decide +kernel, rfl⟩
theorem d_Cutter_lookWith_6 : DC m_Cutter_lookWith 6 (.bipush 7) 2 8 := ⟨by decide +kernel, rfl⟩
theorem d_Cutter_lookWith_8 : DC m_Cutter_lookWith 8 (.if_icmp .gt 52) 3 11 := ⟨by decide +kernel, rfl⟩
theorem d_Cutter_lookWith_11 : DC m_Cutter_lookWith 11 (.bipush (-7)) 2 13 := ⟨by decide +kernel, rfl⟩
theorem d_Cutter_lookWith_13 : DC m_Cutter_lookWith 13 (.istore 5) 2 15 := ⟨by decide +kernel, rfl⟩
theorem d_Cutter_lookWith_15 : DC m_Cutter_lookWith 15 (.iload 5) 2 17 := ⟨by decide +kernel, rfl⟩
theorem d_Cutter_lookWith_17 : DC m_Cutter_lookWith 17 (.bipush 7) 2 19 := ⟨by decide +kernel, rfl⟩
theorem d_Cutter_lookWith_19 : DC m_Cutter_lookWith 19 (.if_icmp .gt 35) 3 22 := ⟨by decide +kernel, rfl⟩
theorem d_Cutter_lookWith_22 : DC m_Cutter_lookWith 22 (.aload_n 0) 1 23 := ⟨by decide +kernel, rfl⟩
theorem d_Cutter_lookWith_23 : DC m_Cutter_lookWith 23 (.aload_n 1) 1 24 := ⟨by decide +kernel, rfl⟩
theorem d_Cutter_lookWith_24 : DC m_Cutter_lookWith 24 (.iload 5) 2 26 := ⟨by decide +kernel, rfl⟩
theorem d_Cutter_lookWith_26 : DC m_Cutter_lookWith 26 (.iload 4) 2 28 := ⟨by decide +kernel, rfl⟩
theorem d_Cutter_lookWith_28 : DC m_Cutter_lookWith 28 (.aload_n 3) 1 29 := ⟨by decide +kernel, rfl⟩
theorem d_Cutter_lookWith_29 : DC m_Cutter_lookWith 29 (.invokevirtual 81) 3 32 := ⟨by decide +kernel, rfl⟩
theorem d_Cutter_lookWith_32 : DC m_Cutter_lookWith 32 (.ifCond .eq 16) 3 35 := ⟨by decide +kernel, rfl⟩
theorem d_Cutter_lookWith_35 : DC m_Cutter_lookWith 35 (.aload_n 0) 1 36 := ⟨by decide +kernel, rfl⟩
theorem d_Cutter_lookWith_36 : DC m_Cutter_lookWith 36 (.iconst 2) 1 37 := ⟨by decide +kernel, rfl⟩
theorem d_Cutter_lookWith_37 : DC m_Cutter_lookWith 37 (.iload_n 2) 1 38 := ⟨by decide +kernel, rfl⟩
theorem d_Cutter_lookWith_38 : DC m_Cutter_lookWith 38 (.iload 5) 2 40 := ⟨by decide +kernel, rfl⟩
theorem d_Cutter_lookWith_40 : DC m_Cutter_lookWith 40 (.iload 4) 2 42 := ⟨by decide +kernel, rfl⟩
theorem d_Cutter_lookWith_42 : DC m_Cutter_lookWith 42 (.invokevirtual 62) 3 45 := ⟨by decide +kernel, rfl⟩
theorem d_Cutter_lookWith_45 : DC m_Cutter_lookWith 45 .pop 1 46 := ⟨by decide +kernel, rfl⟩
theorem d_Cutter_lookWith_46 : DC m_Cutter_lookWith 46 (.iconst 1) 1 47 := ⟨by decide +kernel, rfl⟩
theorem d_Cutter_lookWith_47 : DC m_Cutter_lookWith 47 .ireturn 1 48 := ⟨by decide +kernel, rfl⟩
theorem d_Cutter_lookWith_48 : DC m_Cutter_lookWith 48 (.iinc 5 1) 3 51 := ⟨by decide +kernel, rfl⟩
theorem d_Cutter_lookWith_51 : DC m_Cutter_lookWith 51 (.goto (-36)) 3 54 := ⟨by decide +kernel, rfl⟩
theorem d_Cutter_lookWith_54 : DC m_Cutter_lookWith 54 (.iinc 4 1) 3 57 := ⟨by decide +kernel, rfl⟩
theorem d_Cutter_lookWith_57 : DC m_Cutter_lookWith 57 (.goto (-53)) 3 60 := ⟨by decide +kernel, rfl⟩
theorem d_Cutter_lookWith_60 : DC m_Cutter_lookWith 60 (.iconst 0) 1 61 := ⟨by decide +kernel, rfl⟩
theorem d_Cutter_lookWith_61 : DC m_Cutter_lookWith 61 .ireturn 1 62 := ⟨by decide +kernel, rfl⟩
def f_Cutter_lookWith_54 (n : Nat) (k_4 : Nat → Nat → Int32 → Nat → Int32 → MM → Option (Int32 × MM)) (x0 : Nat) (x1 : Nat) (x2 : Int32) (x3 : Nat) (x4 : Int32) (M : MM) : Option (Int32 × MM) :=
  k_4 x0 x1 x2 x3 (x4 + 1) M
theorem t_Cutter_lookWith_54 (n : Nat) {k_4 : Nat → Nat → Int32 → Nat → Int32 → MM → Option (Int32 × MM)} (hk_4 : ∀ (x0 : Nat) (x1 : Nat) (x2 : Int32) (x3 : Nat) (x4 : Int32) (M : MM) (z : Int32 × MM), k_4 x0 x1 x2 x3 x4 M = some z → EV m_Cutter_lookWith (rm 6 0 0) (some (.int z.1)) z.2 0 0 4 [some (.ref x0), some (.ref x1), some (.int x2), some (.ref x3), some (.int x4), none] [] M) (x0 : Nat) (x1 : Nat) (x2 : Int32) (x3 : Nat) (x4 : Int32) (M : MM) (z : Int32 × MM) (h : f_Cutter_lookWith_54 n k_4 x0 x1 x2 x3 x4 M = some z) : EV m_Cutter_lookWith (rm 6 0 0) (some (.int z.1)) z.2 0 0 54 [some (.ref x0), some (.ref x1), some (.int x2), some (.ref x3), some (.int x4), none] [] M := by
  unfold f_Cutter_lookWith_54 at h
  refine e_iinc (v := x4 + 1) (l2 := [some (.ref x0), some (.ref x1), some (.int x2), some (.ref x3), some (.int (x4 + 1)), none]) d_Cutter_lookWith_54 rfl rfl rfl (okl rfl) rfl ?_
  refine e_goto 4 d_Cutter_lookWith_57 (by decide) ?_
  exact (hk_4 x0 x1 x2 x3 (x4 + 1) M z h).less (show LSub _ _ from ⟨rfl, ⟨rfl, ⟨rfl, ⟨rfl, ⟨rfl, trivial⟩⟩⟩⟩⟩)
def f_Cutter_lookWith_35 (n : Nat) (x0 : Nat) (x2 : Int32) (x4 : Int32) (x5 : Int32) (M : MM) : Option (Int32 × MM) :=
  (f_Cutter_remember n x0 2 x2 x5 x4 M).bind fun p1 =>
  some (1, p1.2)
theorem t_Cutter_lookWith_35 (n : Nat) (x0 : Nat) (x2 : Int32) (x4 : Int32) (x5 : Int32) (M : MM) (z : Int32 × MM) (h : f_Cutter_lookWith_35 n x0 x2 x4 x5 M = some z) : EV m_Cutter_lookWith (rm 6 0 0) (some (.int z.1)) z.2 0 0 35 [some (.ref x0), none, some (.int x2), none, some (.int x4), some (.int x5)] [] M := by
  unfold f_Cutter_lookWith_35 at h
  refine e_aload_n d_Cutter_lookWith_35 rfl ?_
  refine e_iconst (v := 2) d_Cutter_lookWith_36 (by decide) ?_
  refine e_iload_n d_Cutter_lookWith_37 rfl ?_
  refine e_iload d_Cutter_lookWith_38 rfl ?_
  refine e_iload d_Cutter_lookWith_40 rfl ?_
  obtain ⟨p1, hp1, h⟩ := bnd h
  refine e_cVi (mt1 := m_Cutter_remember) (As := [.int 2, .int x2, .int x5, .int x4]) (st := []) d_Cutter_lookWith_42 ml_Cutter_62 mv_Cutter_remember (t_Cutter_remember n x0 2 x2 x5 x4 M p1 hp1) (fc_Cutter_remember hp1) rfl rfl rfl (okp rfl) (okp rfl) (okp rfl) (Nat.le_refl _) (Nat.le_refl _) ?_
  refine e_pop d_Cutter_lookWith_45 rfl ?_
  refine e_iconst (v := 1) d_Cutter_lookWith_46 (by decide) ?_
  cases h
  exact e_zret (ty := .boolean) d_Cutter_lookWith_47 rfl narZ1 (Nat.le_refl _) (Nat.le_refl _)
def f_Cutter_lookWith_15 (n : Nat) (k_35 : Nat → Int32 → Int32 → Int32 → MM → Option (Int32 × MM)) (k_54 : Nat → Nat → Int32 → Nat → Int32 → MM → Option (Int32 × MM)) : Nat → Nat → Nat → Int32 → Nat → Int32 → Int32 → MM → Option (Int32 × MM)
  | 0, _, _, _, _, _, _, _ => none
  | m + 1, x0, x1, x2, x3, x4, x5, M =>
    if 7 < x5 then
      k_54 x0 x1 x2 x3 x4 M
    else
      (f_Cutter_cuts n x0 x1 x5 x4 x3 M).bind fun p3 =>
      if p3.1 = 0 then
        f_Cutter_lookWith_15 n k_35 k_54 m x0 x1 x2 x3 x4 (x5 + 1) p3.2
      else
        k_35 x0 x2 x4 x5 p3.2
theorem t_Cutter_lookWith_15 (n : Nat) {k_35 : Nat → Int32 → Int32 → Int32 → MM → Option (Int32 × MM)} {k_54 : Nat → Nat → Int32 → Nat → Int32 → MM → Option (Int32 × MM)} (hk_35 : ∀ (x0 : Nat) (x2 : Int32) (x4 : Int32) (x5 : Int32) (M : MM) (z : Int32 × MM), k_35 x0 x2 x4 x5 M = some z → EV m_Cutter_lookWith (rm 6 0 0) (some (.int z.1)) z.2 0 0 35 [some (.ref x0), none, some (.int x2), none, some (.int x4), some (.int x5)] [] M) (hk_54 : ∀ (x0 : Nat) (x1 : Nat) (x2 : Int32) (x3 : Nat) (x4 : Int32) (M : MM) (z : Int32 × MM), k_54 x0 x1 x2 x3 x4 M = some z → EV m_Cutter_lookWith (rm 6 0 0) (some (.int z.1)) z.2 0 0 54 [some (.ref x0), some (.ref x1), some (.int x2), some (.ref x3), some (.int x4), none] [] M) : ∀ (m : Nat) (x0 : Nat) (x1 : Nat) (x2 : Int32) (x3 : Nat) (x4 : Int32) (x5 : Int32) (M : MM) (z : Int32 × MM), f_Cutter_lookWith_15 n k_35 k_54 m x0 x1 x2 x3 x4 x5 M = some z → EV m_Cutter_lookWith (rm 6 0 0) (some (.int z.1)) z.2 0 0 15 [some (.ref x0), some (.ref x1), some (.int x2), some (.ref x3), some (.int x4), some (.int x5)] [] M := by
  intro m
  induction m with
  | zero => intro x0 x1 x2 x3 x4 x5 M z h; cases h
  | succ m ih =>
    intro x0 x1 x2 x3 x4 x5 M z h
    rw [f_Cutter_lookWith_15] at h
    refine e_iload d_Cutter_lookWith_15 rfl ?_
    refine e_bipush (v := 7) d_Cutter_lookWith_17 (by decide) ?_
    refine e_ic_gt 54 d_Cutter_lookWith_19 (by decide) (fun c2 => ?_) (fun c2 => ?_)
    · replace h := ift c2 h
      exact (hk_54 x0 x1 x2 x3 x4 M z h).less (show LSub _ _ from ⟨rfl, ⟨rfl, ⟨rfl, ⟨rfl, ⟨rfl, trivial⟩⟩⟩⟩⟩)
    · replace h := ifn c2 h
      refine e_aload_n d_Cutter_lookWith_22 rfl ?_
      refine e_aload_n d_Cutter_lookWith_23 rfl ?_
      refine e_iload d_Cutter_lookWith_24 rfl ?_
      refine e_iload d_Cutter_lookWith_26 rfl ?_
      refine e_aload_n d_Cutter_lookWith_28 rfl ?_
      obtain ⟨p3, hp3, h⟩ := bnd h
      refine e_cVi (mt1 := m_Cutter_cuts) (As := [.ref x1, .int x5, .int x4, .ref x3]) (st := []) d_Cutter_lookWith_29 ml_Cutter_81 mv_Cutter_cuts (t_Cutter_cuts n x0 x1 x5 x4 x3 M p3 hp3) (fc_Cutter_cuts hp3) rfl rfl rfl (okp rfl) (okp rfl) (okp rfl) (Nat.le_refl _) (Nat.le_refl _) ?_
      refine e_if_eq 48 d_Cutter_lookWith_32 (by decide) (fun c4 => ?_) (fun c4 => ?_)
      · replace h := ift c4 h
        refine e_iinc (v := x5 + 1) (l2 := [some (.ref x0), some (.ref x1), some (.int x2), some (.ref x3), some (.int x4), some (.int (x5 + 1))]) d_Cutter_lookWith_48 rfl rfl rfl (okl rfl) rfl ?_
        refine e_goto 15 d_Cutter_lookWith_51 (by decide) ?_
        exact (ih x0 x1 x2 x3 x4 (x5 + 1) p3.2 z h).less (show LSub _ _ from ⟨rfl, ⟨rfl, ⟨rfl, ⟨rfl, ⟨rfl, ⟨rfl, trivial⟩⟩⟩⟩⟩⟩)
      · replace h := ifn c4 h
        exact (hk_35 x0 x2 x4 x5 p3.2 z h).less (show LSub _ _ from ⟨rfl, ⟨rfl, ⟨rfl, ⟨rfl, trivial⟩⟩⟩⟩)
def f_Cutter_lookWith_4 (n : Nat) (k_35 : Nat → Int32 → Int32 → Int32 → MM → Option (Int32 × MM)) : Nat → Nat → Nat → Int32 → Nat → Int32 → MM → Option (Int32 × MM)
  | 0, _, _, _, _, _, _ => none
  | m + 1, x0, x1, x2, x3, x4, M =>
    if 7 < x4 then
      some (0, M)
    else
      f_Cutter_lookWith_15 n k_35 (f_Cutter_lookWith_54 n (f_Cutter_lookWith_4 n k_35 m)) n x0 x1 x2 x3 x4 (-7) M
theorem t_Cutter_lookWith_4 (n : Nat) {k_35 : Nat → Int32 → Int32 → Int32 → MM → Option (Int32 × MM)} (hk_35 : ∀ (x0 : Nat) (x2 : Int32) (x4 : Int32) (x5 : Int32) (M : MM) (z : Int32 × MM), k_35 x0 x2 x4 x5 M = some z → EV m_Cutter_lookWith (rm 6 0 0) (some (.int z.1)) z.2 0 0 35 [some (.ref x0), none, some (.int x2), none, some (.int x4), some (.int x5)] [] M) : ∀ (m : Nat) (x0 : Nat) (x1 : Nat) (x2 : Int32) (x3 : Nat) (x4 : Int32) (M : MM) (z : Int32 × MM), f_Cutter_lookWith_4 n k_35 m x0 x1 x2 x3 x4 M = some z → EV m_Cutter_lookWith (rm 6 0 0) (some (.int z.1)) z.2 0 0 4 [some (.ref x0), some (.ref x1), some (.int x2), some (.ref x3), some (.int x4), none] [] M := by
  intro m
  induction m with
  | zero => intro x0 x1 x2 x3 x4 M z h; cases h
  | succ m ih =>
    intro x0 x1 x2 x3 x4 M z h
    rw [f_Cutter_lookWith_4] at h
    refine e_iload d_Cutter_lookWith_4 rfl ?_
    refine e_bipush (v := 7) d_Cutter_lookWith_6 (by decide) ?_
    refine e_ic_gt 60 d_Cutter_lookWith_8 (by decide) (fun c5 => ?_) (fun c5 => ?_)
    · replace h := ift c5 h
      refine e_iconst (v := 0) d_Cutter_lookWith_60 (by decide) ?_
      cases h
      exact e_zret (ty := .boolean) d_Cutter_lookWith_61 rfl narZ0 (Nat.le_refl _) (Nat.le_refl _)
    · replace h := ifn c5 h
      refine e_bipush (v := (-7)) d_Cutter_lookWith_11 (by decide) ?_
      refine e_istore (l2 := [some (.ref x0), some (.ref x1), some (.int x2), some (.ref x3), some (.int x4), some (.int (-7))]) d_Cutter_lookWith_13 rfl (okl rfl) rfl ?_
      exact (t_Cutter_lookWith_15 n hk_35 (t_Cutter_lookWith_54 n ih) n x0 x1 x2 x3 x4 (-7) M z h).less (show LSub _ _ from ⟨rfl, ⟨rfl, ⟨rfl, ⟨rfl, ⟨rfl, ⟨rfl, trivial⟩⟩⟩⟩⟩⟩)
def f_Cutter_lookWith (n : Nat) (x0 : Nat) (x1 : Nat) (x2 : Int32) (x3 : Nat) (M : MM) : Option (Int32 × MM) :=
  og 2 x0 M <|
  f_Cutter_lookWith_4 n (f_Cutter_lookWith_35 n) n x0 x1 x2 x3 (-7) M
theorem fc_Cutter_lookWith {n : Nat} {x0 : Nat} {x1 : Nat} {x2 : Int32} {x3 : Nat} {M : MM} {z : Int32 × MM} (h : f_Cutter_lookWith n x0 x1 x2 x3 M = some z) : (M.1.2.1 x0).1 = 2 := by
  unfold f_Cutter_lookWith at h
  exact (og_s h).1
theorem t_Cutter_lookWith (n : Nat) (x0 : Nat) (x1 : Nat) (x2 : Int32) (x3 : Nat) (M : MM) (z : Int32 × MM) (h : f_Cutter_lookWith n x0 x1 x2 x3 M = some z) : CT m_Cutter_lookWith (rm 6 0 0) [.ref x0, .ref x1, .int x2, .ref x3] M (some (.int z.1)) z.2 := by
  unfold f_Cutter_lookWith at h
  obtain ⟨hthis, h⟩ := og_s h
  refine CT.of (ls := [some (.ref x0), some (.ref x1), some (.int x2), some (.ref x3), none, none]) rfl (okp rfl) rfl ?_
  refine e_bipush (v := (-7)) d_Cutter_lookWith_0 (by decide) ?_
  refine e_istore (l2 := [some (.ref x0), some (.ref x1), some (.int x2), some (.ref x3), some (.int (-7)), none]) d_Cutter_lookWith_2 rfl (okl rfl) rfl ?_
  exact (t_Cutter_lookWith_4 n (t_Cutter_lookWith_35 n) n x0 x1 x2 x3 (-7) M z h).less (show LSub _ _ from ⟨rfl, ⟨rfl, ⟨rfl, ⟨rfl, ⟨rfl, trivial⟩⟩⟩⟩⟩)
theorem d_Cutter_look_0 : DC m_Cutter_look 0 (.aload_n 0) 1 1 := ⟨by decide +kernel, rfl⟩
theorem d_Cutter_look_1 : DC m_Cutter_look 1 (.getfield 27) 3 4 := ⟨by decide +kernel, rfl⟩
theorem d_Cutter_look_4 : DC m_Cutter_look 4 (.aload_n 1) 1 5 := ⟨by decide +kernel, rfl⟩
theorem d_Cutter_look_5 : DC m_Cutter_look 5 (.invokevirtual 50) 3 8 := ⟨by decide +kernel, rfl⟩
theorem d_Cutter_look_8 : DC m_Cutter_look 8 (.invokevirtual 54) 3 11 := ⟨by decide +kernel, rfl⟩
theorem d_Cutter_look_11 : DC m_Cutter_look 11 (.aload_n 2) 1 12 := ⟨by decide +kernel, rfl⟩
theorem d_Cutter_look_12 : DC m_Cutter_look 12 (.aload_n 0) 1 13 := ⟨by decide +kernel, rfl⟩
theorem d_Cutter_look_13 : DC m_Cutter_look 13 (.getfield 27) 3 16 := ⟨by decide +kernel, rfl⟩
theorem d_Cutter_look_16 : DC m_Cutter_look 16 (.invokevirtual 58) 3 19 := ⟨by decide +kernel, rfl⟩
theorem d_Cutter_look_19 : DC m_Cutter_look 19 (.istore 4) 2 21 := ⟨by decide +kernel, rfl⟩
theorem d_Cutter_look_21 : DC m_Cutter_look 21 (.iload 4) 2 23 := ⟨by decide +kernel, rfl⟩
theorem d_Cutter_look_23 : DC m_Cutter_look 23 (.ifCond .lt 24) 3 26 := ⟨by decide +kernel, rfl⟩
theorem d_Cutter_look_26 : DC m_Cutter_look 26 (.aload_n 0) 1 27 := ⟨by decide +kernel, rfl⟩
theorem d_Cutter_look_27 : DC m_Cutter_look 27 (.getfield 31) 3 30 := ⟨by decide +kernel, rfl⟩
theorem d_Cutter_look_30 : DC m_Cutter_look 30 (.aload_n 0) 1 31 := ⟨by decide +kernel, rfl⟩
theorem d_Cutter_look_31 : DC m_Cutter_look 31 (.getfield 27) 3 34 := ⟨by decide +kernel, rfl⟩
theorem d_Cutter_look_34 : DC m_Cutter_look 34 (.invokevirtual 54) 3 37 := ⟨by decide +kernel, rfl⟩
theorem d_Cutter_look_37 : DC m_Cutter_look 37 (.aload_n 0) 1 38 := ⟨by decide +kernel, rfl⟩
theorem d_Cutter_look_38 : DC m_Cutter_look 38 (.iconst 1) 1 39 := ⟨by decide +kernel, rfl⟩
theorem d_Cutter_look_39 : DC m_Cutter_look 39 (.iload 4) 2 41 := ⟨by decide +kernel, rfl⟩
theorem d_Cutter_look_41 : DC m_Cutter_look 41 (.iconst 0) 1 42 := ⟨by decide +kernel, rfl⟩
theorem d_Cutter_look_42 : DC m_Cutter_look 42 (.iconst 0) 1 43 := ⟨by decide +kernel, rfl⟩
theorem d_Cutter_look_43 : DC m_Cutter_look 43 (.invokevirtual 62) 3 46 := ⟨by decide +kernel, rfl⟩
theorem d_Cutter_look_46 : DC m_Cutter_look 46 .ireturn 1 47 := ⟨by decide +kernel, rfl⟩
theorem d_Cutter_look_47 : DC m_Cutter_look 47 (.aload_n 1) 1 48 := ⟨by decide +kernel, rfl⟩
theorem d_Cutter_look_48 : DC m_Cutter_look 48 (.getfield 66) 3 51 := ⟨by decide +kernel, rfl⟩
theorem d_Cutter_look_51 : DC m_Cutter_look 51 (.aload_n 2) 1 52 := ⟨by decide +kernel, rfl⟩
theorem d_Cutter_look_52 : DC m_Cutter_look 52 (.getfield 66) 3 55 := ⟨by decide +kernel, rfl⟩
theorem d_Cutter_look_55 : DC m_Cutter_look 55 (.if_icmp .eq 6) 3 58 := ⟨by decide +kernel, rfl⟩
theorem d_Cutter_look_58 : DC m_Cutter_look 58 (.bipush (-2)) 2 60 := ⟨by decide +kernel, rfl⟩
theorem d_Cutter_look_60 : DC m_Cutter_look 60 .ireturn 1 61 := ⟨by decide +kernel, rfl⟩
theorem d_Cutter_look_61 : DC m_Cutter_look 61 (.iconst 0) 1 62 := ⟨by decide +kernel, rfl⟩
theorem d_Cutter_look_62 : DC m_Cutter_look 62 (.istore 5) 2 64 := ⟨by decide +kernel, rfl⟩
theorem d_Cutter_look_64 : DC m_Cutter_look 64 (.iload 5) 2 66 := ⟨by decide +kernel, rfl⟩
theorem d_Cutter_look_66 : DC m_Cutter_look 66 (.bipush 8) 2 68 := ⟨by decide +kernel, rfl⟩
theorem d_Cutter_look_68 : DC m_Cutter_look 68 (.if_icmp .ge 43) 3 71 := ⟨by decide +kernel, rfl⟩
theorem d_Cutter_look_71 : DC m_Cutter_look 71 (.aload_n 2) 1 72 := ⟨by decide +kernel, rfl⟩
theorem d_Cutter_look_72 : DC m_Cutter_look 72 (.getfield 69) 3 75 := ⟨by decide +kernel, rfl⟩
theorem d_Cutter_look_75 : DC m_Cutter_look 75 (.iload 5) 2 77 := ⟨by decide +kernel, rfl⟩
theorem d_Cutter_look_77 : DC m_Cutter_look 77 .iaload 1 78 := ⟨by decide +kernel, rfl⟩
theorem d_Cutter_look_78 : DC m_Cutter_look 78 (.iload 5) 2 80 := ⟨by decide +kernel, rfl⟩
theorem d_Cutter_look_80 : DC m_Cutter_look 80 (.if_icmp .ne 25) 3 83 := ⟨by decide +kernel, rfl⟩
theorem d_Cutter_look_83 : DC m_Cutter_look 83 (.aload_n 0) 1 84 := ⟨by decide +kernel, rfl⟩
theorem d_Cutter_look_84 : DC m_Cutter_look 84 (.aload_n 2) 1 85 := ⟨by decide +kernel, rfl⟩
theorem d_Cutter_look_85 : DC m_Cutter_look 85 (.getfield 73) 3 88 := ⟨by decide +kernel, rfl⟩
theorem d_Cutter_look_88 : DC m_Cutter_look 88 (.iload 5) 2 90 := ⟨by decide +kernel, rfl⟩
theorem d_Cutter_look_90 : DC m_Cutter_look 90 .aaload 1 91 := ⟨by decide +kernel, rfl⟩
theorem d_Cutter_look_91 : DC m_Cutter_look 91 (.iload 5) 2 93 := ⟨by decide +kernel, rfl⟩
theorem d_Cutter_look_93 : DC m_Cutter_look 93 (.aload_n 3) 1 94 := ⟨by decide +kernel, rfl⟩
theorem d_Cutter_look_94 : DC m_Cutter_look 94 (.invokevirtual 77) 3 97 := ⟨by decide +kernel, rfl⟩
theorem d_Cutter_look_97 : DC m_Cutter_look 97 (.ifCond .eq 8) 3 100 := ⟨by decide +kernel, rfl⟩
theorem d_Cutter_look_100 : DC m_Cutter_look 100 (.aload_n 0) 1 101 := ⟨by decide +kernel, rfl⟩
theorem d_Cutter_look_101 : DC m_Cutter_look 101 (.getfield 9) 3 104 := ⟨by decide +kernel, rfl⟩
theorem d_Cutter_look_104 : DC m_Cutter_look 104 .ireturn 1 105 := ⟨by decide +kernel, rfl⟩
theorem d_Cutter_look_105 : DC m_Cutter_look 105 (.iinc 5 1) 3 108 := ⟨by decide +kernel, rfl⟩
theorem d_Cutter_look_108 : DC m_Cutter_look 108 (.goto (-44)) 3 111 := ⟨by decide +kernel, rfl⟩
theorem d_Cutter_look_111 : DC m_Cutter_look 111 (.bipush (-2)) 2 113 := ⟨by decide +kernel, rfl⟩
theorem d_Cutter_look_113 : DC m_Cutter_look 113 .ireturn 1 114 := ⟨by decide +kernel, rfl⟩
def f_Cutter_look_105 (n : Nat) (k_64 : Nat → Nat → Nat → Int32 → MM → Option (Int32 × MM)) (x0 : Nat) (x2 : Nat) (x3 : Nat) (x5 : Int32) (M : MM) : Option (Int32 × MM) :=
  k_64 x0 x2 x3 (x5 + 1) M
theorem t_Cutter_look_105 (n : Nat) {k_64 : Nat → Nat → Nat → Int32 → MM → Option (Int32 × MM)} (hk_64 : ∀ (x0 : Nat) (x2 : Nat) (x3 : Nat) (x5 : Int32) (M : MM) (z : Int32 × MM), k_64 x0 x2 x3 x5 M = some z → EV m_Cutter_look (rm 7 0 0) (some (.int z.1)) z.2 0 0 64 [some (.ref x0), none, some (.ref x2), some (.ref x3), none, some (.int x5)] [] M) (x0 : Nat) (x2 : Nat) (x3 : Nat) (x5 : Int32) (M : MM) (z : Int32 × MM) (h : f_Cutter_look_105 n k_64 x0 x2 x3 x5 M = some z) : EV m_Cutter_look (rm 7 0 0) (some (.int z.1)) z.2 0 0 105 [some (.ref x0), none, some (.ref x2), some (.ref x3), none, some (.int x5)] [] M := by
  unfold f_Cutter_look_105 at h
  refine e_iinc (v := x5 + 1) (l2 := [some (.ref x0), none, some (.ref x2), some (.ref x3), none, some (.int (x5 + 1))]) d_Cutter_look_105 rfl rfl rfl (okl rfl) rfl ?_
  refine e_goto 64 d_Cutter_look_108 (by decide) ?_
  exact (hk_64 x0 x2 x3 (x5 + 1) M z h).less (show LSub _ _ from ⟨rfl, ⟨rfl, ⟨rfl, ⟨rfl, trivial⟩⟩⟩⟩)
def f_Cutter_look_64 (n : Nat) : Nat → Nat → Nat → Nat → Int32 → MM → Option (Int32 × MM)
  | 0, _, _, _, _, _ => none
  | m + 1, x0, x2, x3, x5, M =>
    if 8 ≤ x5 then
      some ((-2), M)
    else
      (gR 4 5 x2 M).bind fun v2 =>
      (aI 100 v2 x5 M).bind fun v3 =>
      if v3 = x5 then
        (gR 4 1 x2 M).bind fun v5 =>
        (aR 104 v5 x5 M).bind fun v6 =>
        (f_Cutter_lookWith n x0 v6 x5 x3 M).bind fun p7 =>
        if p7.1 = 0 then
          f_Cutter_look_105 n (f_Cutter_look_64 n m) x0 x2 x3 x5 p7.2
        else
          (gI 2 0 x0 p7.2).bind fun v9 =>
          some (v9, p7.2)
      else
        f_Cutter_look_105 n (f_Cutter_look_64 n m) x0 x2 x3 x5 M
theorem t_Cutter_look_64 (n : Nat) : ∀ (m : Nat) (x0 : Nat) (x2 : Nat) (x3 : Nat) (x5 : Int32) (M : MM) (z : Int32 × MM), f_Cutter_look_64 n m x0 x2 x3 x5 M = some z → EV m_Cutter_look (rm 7 0 0) (some (.int z.1)) z.2 0 0 64 [some (.ref x0), none, some (.ref x2), some (.ref x3), none, some (.int x5)] [] M := by
  intro m
  induction m with
  | zero => intro x0 x2 x3 x5 M z h; cases h
  | succ m ih =>
    intro x0 x2 x3 x5 M z h
    rw [f_Cutter_look_64] at h
    refine e_iload d_Cutter_look_64 rfl ?_
    refine e_bipush (v := 8) d_Cutter_look_66 (by decide) ?_
    refine e_ic_ge 111 d_Cutter_look_68 (by decide) (fun c1 => ?_) (fun c1 => ?_)
    · replace h := ift c1 h
      refine e_bipush (v := (-2)) d_Cutter_look_111 (by decide) ?_
      cases h
      exact e_iret d_Cutter_look_113 rfl (Nat.le_refl _) (Nat.le_refl _)
    · replace h := ifn c1 h
      refine e_aload_n d_Cutter_look_71 rfl ?_
      obtain ⟨v2, hv2, h⟩ := bnd h
      refine e_getR d_Cutter_look_72 fl_Cutter_69 (fun _ _ _ => rfl) hv2 ?_
      refine e_iload d_Cutter_look_75 rfl ?_
      obtain ⟨v3, hv3, h⟩ := bnd h
      refine e_iald d_Cutter_look_77 hv3 ?_
      refine e_iload d_Cutter_look_78 rfl ?_
      refine e_ic_ne 105 d_Cutter_look_80 (by decide) (fun c4 => ?_) (fun c4 => ?_)
      · replace h := ifn c4 h
        exact (t_Cutter_look_105 n ih x0 x2 x3 x5 M z h).less (show LSub _ _ from ⟨rfl, ⟨rfl, ⟨rfl, ⟨rfl, trivial⟩⟩⟩⟩)
      · replace h := ift c4 h
        refine e_aload_n d_Cutter_look_83 rfl ?_
        refine e_aload_n d_Cutter_look_84 rfl ?_
        obtain ⟨v5, hv5, h⟩ := bnd h
        refine e_getR d_Cutter_look_85 fl_Cutter_73 (fun _ _ _ => rfl) hv5 ?_
        refine e_iload d_Cutter_look_88 rfl ?_
        obtain ⟨v6, hv6, h⟩ := bnd h
        refine e_aald (kd := 104) d_Cutter_look_90 (by decide) hv6 ?_
        refine e_iload d_Cutter_look_91 rfl ?_
        refine e_aload_n d_Cutter_look_93 rfl ?_
        obtain ⟨p7, hp7, h⟩ := bnd h
        refine e_cVi (mt1 := m_Cutter_lookWith) (As := [.ref v6, .int x5, .ref x3]) (st := []) d_Cutter_look_94 ml_Cutter_77 mv_Cutter_lookWith (t_Cutter_lookWith n x0 v6 x5 x3 M p7 hp7) (fc_Cutter_lookWith hp7) rfl rfl rfl (okp rfl) (okp rfl) (okp rfl) (Nat.le_refl _) (Nat.le_refl _) ?_
        refine e_if_eq 105 d_Cutter_look_97 (by decide) (fun c8 => ?_) (fun c8 => ?_)
        · replace h := ift c8 h
          exact (t_Cutter_look_105 n ih x0 x2 x3 x5 p7.2 z h).less (show LSub _ _ from ⟨rfl, ⟨rfl, ⟨rfl, ⟨rfl, trivial⟩⟩⟩⟩)
        · replace h := ifn c8 h
          refine e_aload_n d_Cutter_look_100 rfl ?_
          obtain ⟨v9, hv9, h⟩ := bnd h
          refine e_getI d_Cutter_look_101 fl_Cutter_9 (fun _ _ _ => rfl) hv9 ?_
          cases h
          exact e_iret d_Cutter_look_104 rfl (Nat.le_refl _) (Nat.le_refl _)
def f_Cutter_look (n : Nat) (x0 : Nat) (x1 : Nat) (x2 : Nat) (x3 : Nat) (M : MM) : Option (Int32 × MM) :=
  og 2 x0 M <|
  (gR 2 4 x0 M).bind fun v10 =>
  (f_Form_base n x1 M).bind fun p11 =>
  (p11.1).bind fun r12 =>
  (f_Shape_copy n v10 r12 p11.2).bind fun M13 =>
  (gR 2 4 x0 M13).bind fun v14 =>
  (f_Form_imageThatIs n x2 v14 M13).bind fun p15 =>
  if p15.1 < 0 then
    (gI 4 6 x1 p15.2).bind fun v17 =>
    (gI 4 6 x2 p15.2).bind fun v18 =>
    if v17 = v18 then
      f_Cutter_look_64 n n x0 x2 x3 0 p15.2
    else
      some ((-2), p15.2)
  else
    (gR 2 5 x0 p15.2).bind fun v20 =>
    (gR 2 4 x0 p15.2).bind fun v21 =>
    (f_Shape_copy n v20 v21 p15.2).bind fun M22 =>
    (f_Cutter_remember n x0 1 p15.1 0 0 M22).bind fun p23 =>
    some (p23.1, p23.2)
theorem fc_Cutter_look {n : Nat} {x0 : Nat} {x1 : Nat} {x2 : Nat} {x3 : Nat} {M : MM} {z : Int32 × MM} (h : f_Cutter_look n x0 x1 x2 x3 M = some z) : (M.1.2.1 x0).1 = 2 := by
  unfold f_Cutter_look at h
  exact (og_s h).1
theorem t_Cutter_look (n : Nat) (x0 : Nat) (x1 : Nat) (x2 : Nat) (x3 : Nat) (M : MM) (z : Int32 × MM) (h : f_Cutter_look n x0 x1 x2 x3 M = some z) : CT m_Cutter_look (rm 7 0 0) [.ref x0, .ref x1, .ref x2, .ref x3] M (some (.int z.1)) z.2 := by
  unfold f_Cutter_look at h
  obtain ⟨hthis, h⟩ := og_s h
  refine CT.of (ls := [some (.ref x0), some (.ref x1), some (.ref x2), some (.ref x3), none, none]) rfl (okp rfl) rfl ?_
  refine e_aload_n d_Cutter_look_0 rfl ?_
  obtain ⟨v10, hv10, h⟩ := bnd h
  refine e_getR d_Cutter_look_1 fl_Cutter_27 (fun _ _ _ => rfl) hv10 ?_
  refine e_aload_n d_Cutter_look_4 rfl ?_
  obtain ⟨p11, hp11, h⟩ := bnd h
  refine e_cVr (mt1 := m_Form_base) (As := []) (st := [.ref v10]) d_Cutter_look_5 ml_Cutter_50 mv_Form_base (t_Form_base n x1 M p11 hp11) (fc_Form_base hp11) rfl rfl rfl (okp rfl) (okp rfl) (okp rfl) (Nat.le_refl _) (Nat.le_refl _) ?_
  obtain ⟨r12, hr12, h⟩ := bnd h
  rw [hr12]
  obtain ⟨M13, hM13, h⟩ := bnd h
  refine e_cVv (mt1 := m_Shape_copy) (As := [.ref r12]) (st := []) d_Cutter_look_8 ml_Cutter_54 mv_Shape_copy (t_Shape_copy n v10 r12 p11.2 M13 hM13) (fc_Shape_copy hM13) rfl rfl rfl (okp rfl) (okp rfl) (okp rfl) (Nat.le_refl _) (Nat.le_refl _) ?_
  refine e_aload_n d_Cutter_look_11 rfl ?_
  refine e_aload_n d_Cutter_look_12 rfl ?_
  obtain ⟨v14, hv14, h⟩ := bnd h
  refine e_getR d_Cutter_look_13 fl_Cutter_27 (fun _ _ _ => rfl) hv14 ?_
  obtain ⟨p15, hp15, h⟩ := bnd h
  refine e_cVi (mt1 := m_Form_imageThatIs) (As := [.ref v14]) (st := []) d_Cutter_look_16 ml_Cutter_58 mv_Form_imageThatIs (t_Form_imageThatIs n x2 v14 M13 p15 hp15) (fc_Form_imageThatIs hp15) rfl rfl rfl (okp rfl) (okp rfl) (okp rfl) (Nat.le_refl _) (Nat.le_refl _) ?_
  refine e_istore (l2 := [some (.ref x0), some (.ref x1), some (.ref x2), some (.ref x3), some (.int p15.1), none]) d_Cutter_look_19 rfl (okl rfl) rfl ?_
  refine e_iload d_Cutter_look_21 rfl ?_
  refine e_if_lt 47 d_Cutter_look_23 (by decide) (fun c16 => ?_) (fun c16 => ?_)
  · replace h := ift c16 h
    refine e_aload_n d_Cutter_look_47 rfl ?_
    obtain ⟨v17, hv17, h⟩ := bnd h
    refine e_getI d_Cutter_look_48 fl_Cutter_66 (fun _ _ _ => rfl) hv17 ?_
    refine e_aload_n d_Cutter_look_51 rfl ?_
    obtain ⟨v18, hv18, h⟩ := bnd h
    refine e_getI d_Cutter_look_52 fl_Cutter_66 (fun _ _ _ => rfl) hv18 ?_
    refine e_ic_eq 61 d_Cutter_look_55 (by decide) (fun c19 => ?_) (fun c19 => ?_)
    · replace h := ift c19 h
      refine e_iconst (v := 0) d_Cutter_look_61 (by decide) ?_
      refine e_istore (l2 := [some (.ref x0), some (.ref x1), some (.ref x2), some (.ref x3), some (.int p15.1), some (.int 0)]) d_Cutter_look_62 rfl (okl rfl) rfl ?_
      exact (t_Cutter_look_64 n n x0 x2 x3 0 p15.2 z h).less (show LSub _ _ from ⟨rfl, ⟨rfl, ⟨rfl, ⟨rfl, trivial⟩⟩⟩⟩)
    · replace h := ifn c19 h
      refine e_bipush (v := (-2)) d_Cutter_look_58 (by decide) ?_
      cases h
      exact e_iret d_Cutter_look_60 rfl (Nat.le_refl _) (Nat.le_refl _)
  · replace h := ifn c16 h
    refine e_aload_n d_Cutter_look_26 rfl ?_
    obtain ⟨v20, hv20, h⟩ := bnd h
    refine e_getR d_Cutter_look_27 fl_Cutter_31 (fun _ _ _ => rfl) hv20 ?_
    refine e_aload_n d_Cutter_look_30 rfl ?_
    obtain ⟨v21, hv21, h⟩ := bnd h
    refine e_getR d_Cutter_look_31 fl_Cutter_27 (fun _ _ _ => rfl) hv21 ?_
    obtain ⟨M22, hM22, h⟩ := bnd h
    refine e_cVv (mt1 := m_Shape_copy) (As := [.ref v21]) (st := []) d_Cutter_look_34 ml_Cutter_54 mv_Shape_copy (t_Shape_copy n v20 v21 p15.2 M22 hM22) (fc_Shape_copy hM22) rfl rfl rfl (okp rfl) (okp rfl) (okp rfl) (Nat.le_refl _) (Nat.le_refl _) ?_
    refine e_aload_n d_Cutter_look_37 rfl ?_
    refine e_iconst (v := 1) d_Cutter_look_38 (by decide) ?_
    refine e_iload d_Cutter_look_39 rfl ?_
    refine e_iconst (v := 0) d_Cutter_look_41 (by decide) ?_
    refine e_iconst (v := 0) d_Cutter_look_42 (by decide) ?_
    obtain ⟨p23, hp23, h⟩ := bnd h
    refine e_cVi (mt1 := m_Cutter_remember) (As := [.int 1, .int p15.1, .int 0, .int 0]) (st := []) d_Cutter_look_43 ml_Cutter_62 mv_Cutter_remember (t_Cutter_remember n x0 1 p15.1 0 0 M22 p23 hp23) (fc_Cutter_remember hp23) rfl rfl rfl (okp rfl) (okp rfl) (okp rfl) (Nat.le_refl _) (Nat.le_refl _) ?_
    cases h
    exact e_iret d_Cutter_look_46 rfl (Nat.le_refl _) (Nat.le_refl _)
theorem d_Cutter_partOf_0 : DC m_Cutter_partOf 0 (.aload_n 0) 1 1 := ⟨by decide +kernel, rfl⟩
theorem d_Cutter_partOf_1 : DC m_Cutter_partOf 1 (.getfield 9) 3 4 := ⟨by decide +kernel, rfl⟩
theorem d_Cutter_partOf_4 : DC m_Cutter_partOf 4 (.ifCond .eq 14) 3 7 := ⟨by decide +kernel, rfl⟩
theorem d_Cutter_partOf_7 : DC m_Cutter_partOf 7 (.aload_n 0) 1 8 := ⟨by decide +kernel, rfl⟩
theorem d_Cutter_partOf_8 : DC m_Cutter_partOf 8 (.getfield 27) 3 11 := ⟨by decide +kernel, rfl⟩
theorem d_Cutter_partOf_11 : DC m_Cutter_partOf 11 (.iload_n 1) 1 12 := ⟨by decide +kernel, rfl⟩
theorem d_Cutter_partOf_12 : DC m_Cutter_partOf 12 (.invokevirtual 127) 3 15 := ⟨by decide +kernel, rfl⟩
theorem d_Cutter_partOf_15 : DC m_Cutter_partOf 15 (.ifCond .ne 5) 3 18 := ⟨by decide +kernel, rfl⟩
theorem d_Cutter_partOf_18 : DC m_Cutter_partOf 18 (.iconst (-1)) 1 19 := ⟨by decide +kernel, rfl⟩
theorem d_Cutter_partOf_19 : DC m_Cutter_partOf 19 .ireturn 1 20 := ⟨by decide +kernel, rfl⟩
theorem d_Cutter_partOf_20 : DC m_Cutter_partOf 20 (.aload_n 0) 1 21 := ⟨by decide +kernel, rfl⟩
theorem d_Cutter_partOf_21 : DC m_Cutter_partOf 21 (.getfield 31) 3 24 := ⟨by decide +kernel, rfl⟩
theorem d_Cutter_partOf_24 : DC m_Cutter_partOf 24 (.iload_n 1) 1 25 := ⟨by decide +kernel, rfl⟩
theorem d_Cutter_partOf_25 : DC m_Cutter_partOf 25 (.invokevirtual 127) 3 28 := ⟨by decide +kernel, rfl⟩
theorem d_Cutter_partOf_28 : DC m_Cutter_partOf 28 (.ifCond .eq 7) 3 31 := ⟨by decide +kernel, rfl⟩
theorem d_Cutter_partOf_31 : DC m_Cutter_partOf 31 (.iconst 0) 1 32 := ⟨by decide +kernel, rfl⟩
theorem d_Cutter_partOf_32 : DC m_Cutter_partOf 32 (.goto 4) 3 35 := ⟨by decide +kernel, rfl⟩
theorem d_Cutter_partOf_35 : DC m_Cutter_partOf 35 (.iconst 1) 1 36 := ⟨by decide +kernel, rfl⟩
theorem d_Cutter_partOf_36 : DC m_Cutter_partOf 36 .ireturn 1 37 := ⟨by decide +kernel, rfl⟩
def f_Cutter_partOf (n : Nat) (x0 : Nat) (x1 : Int32) (M : MM) : Option (Int32 × MM) :=
  og 2 x0 M <|
  (gI 2 0 x0 M).bind fun v1 =>
  if v1 = 0 then
    some ((-1), M)
  else
    (gR 2 4 x0 M).bind fun v3 =>
    (f_Shape_holds n v3 x1 M).bind fun p4 =>
    if p4.1 = 0 then
      some ((-1), p4.2)
    else
      (gR 2 5 x0 p4.2).bind fun v6 =>
      (f_Shape_holds n v6 x1 p4.2).bind fun p7 =>
      if p7.1 = 0 then
        some (1, p7.2)
      else
        some (0, p7.2)
theorem fc_Cutter_partOf {n : Nat} {x0 : Nat} {x1 : Int32} {M : MM} {z : Int32 × MM} (h : f_Cutter_partOf n x0 x1 M = some z) : (M.1.2.1 x0).1 = 2 := by
  unfold f_Cutter_partOf at h
  exact (og_s h).1
theorem t_Cutter_partOf (n : Nat) (x0 : Nat) (x1 : Int32) (M : MM) (z : Int32 × MM) (h : f_Cutter_partOf n x0 x1 M = some z) : CT m_Cutter_partOf (rm 2 0 0) [.ref x0, .int x1] M (some (.int z.1)) z.2 := by
  unfold f_Cutter_partOf at h
  obtain ⟨hthis, h⟩ := og_s h
  refine CT.of (ls := [some (.ref x0), some (.int x1)]) rfl (okp rfl) rfl ?_
  refine e_aload_n d_Cutter_partOf_0 rfl ?_
  obtain ⟨v1, hv1, h⟩ := bnd h
  refine e_getI d_Cutter_partOf_1 fl_Cutter_9 (fun _ _ _ => rfl) hv1 ?_
  refine e_if_eq 18 d_Cutter_partOf_4 (by decide) (fun c2 => ?_) (fun c2 => ?_)
  · replace h := ift c2 h
    refine e_iconst (v := (-1)) d_Cutter_partOf_18 (by decide) ?_
    cases h
    exact e_iret d_Cutter_partOf_19 rfl (Nat.le_refl _) (Nat.le_refl _)
  · replace h := ifn c2 h
    refine e_aload_n d_Cutter_partOf_7 rfl ?_
    obtain ⟨v3, hv3, h⟩ := bnd h
    refine e_getR d_Cutter_partOf_8 fl_Cutter_27 (fun _ _ _ => rfl) hv3 ?_
    refine e_iload_n d_Cutter_partOf_11 rfl ?_
    obtain ⟨p4, hp4, h⟩ := bnd h
    refine e_cVi (mt1 := m_Shape_holds) (As := [.int x1]) (st := []) d_Cutter_partOf_12 ml_Cutter_127 mv_Shape_holds (t_Shape_holds n v3 x1 M p4 hp4) (fc_Shape_holds hp4) rfl rfl rfl (okp rfl) (okp rfl) (okp rfl) (Nat.le_refl _) (Nat.le_refl _) ?_
    refine e_if_ne 20 d_Cutter_partOf_15 (by decide) (fun c5 => ?_) (fun c5 => ?_)
    · replace h := ifn c5 h
      refine e_aload_n d_Cutter_partOf_20 rfl ?_
      obtain ⟨v6, hv6, h⟩ := bnd h
      refine e_getR d_Cutter_partOf_21 fl_Cutter_31 (fun _ _ _ => rfl) hv6 ?_
      refine e_iload_n d_Cutter_partOf_24 rfl ?_
      obtain ⟨p7, hp7, h⟩ := bnd h
      refine e_cVi (mt1 := m_Shape_holds) (As := [.int x1]) (st := []) d_Cutter_partOf_25 ml_Cutter_127 mv_Shape_holds (t_Shape_holds n v6 x1 p4.2 p7 hp7) (fc_Shape_holds hp7) rfl rfl rfl (okp rfl) (okp rfl) (okp rfl) (Nat.le_refl _) (Nat.le_refl _) ?_
      refine e_if_eq 35 d_Cutter_partOf_28 (by decide) (fun c8 => ?_) (fun c8 => ?_)
      · replace h := ift c8 h
        refine e_iconst (v := 1) d_Cutter_partOf_35 (by decide) ?_
        cases h
        exact e_iret d_Cutter_partOf_36 rfl (Nat.le_refl _) (Nat.le_refl _)
      · replace h := ifn c8 h
        refine e_iconst (v := 0) d_Cutter_partOf_31 (by decide) ?_
        refine e_goto 36 d_Cutter_partOf_32 (by decide) ?_
        cases h
        exact e_iret d_Cutter_partOf_36 rfl (Nat.le_refl _) (Nat.le_refl _)
    · replace h := ift c5 h
      refine e_iconst (v := (-1)) d_Cutter_partOf_18 (by decide) ?_
      cases h
      exact e_iret d_Cutter_partOf_19 rfl (Nat.le_refl _) (Nat.le_refl _)
theorem d_Cutter_tellLaid_0 : DC m_Cutter_tellLaid 0 (.aload_n 0) 1 1 := ⟨by decide +kernel, rfl⟩
theorem d_Cutter_tellLaid_1 : DC m_Cutter_tellLaid 1 (.getfield 9) 3 4 := ⟨by decide +kernel, rfl⟩
theorem d_Cutter_tellLaid_4 : DC m_Cutter_tellLaid 4 (.ifCond .ne 6) 3 7 := ⟨by decide +kernel, rfl⟩
theorem d_Cutter_tellLaid_7 : DC m_Cutter_tellLaid 7 (.bipush (-100)) 2 9 := ⟨by decide +kernel, rfl⟩
theorem d_Cutter_tellLaid_9 : DC m_Cutter_tellLaid 9 .ireturn 1 10 := ⟨by decide +kernel, rfl⟩
theorem d_Cutter_tellLaid_10 : DC m_Cutter_tellLaid 10 (.iload_n 1) 1 11 := ⟨by decide +kernel, rfl⟩
theorem d_Cutter_tellLaid_11 : DC m_Cutter_tellLaid 11 (.tableswitch 40 0 2 #[25, 30, 35]) 25 36 := ⟨by decide +kernel, rfl⟩
theorem d_Cutter_tellLaid_36 : DC m_Cutter_tellLaid 36 (.aload_n 0) 1 37 := ⟨by decide +kernel, rfl⟩
theorem d_Cutter_tellLaid_37 : DC m_Cutter_tellLaid 37 (.getfield 15) 3 40 := ⟨by decide +kernel, rfl⟩
theorem d_Cutter_tellLaid_40 : DC m_Cutter_tellLaid 40 .ireturn 1 41 := ⟨by decide +kernel, rfl⟩
theorem d_Cutter_tellLaid_41 : DC m_Cutter_tellLaid 41 (.aload_n 0) 1 42 := ⟨by decide +kernel, rfl⟩
theorem d_Cutter_tellLaid_42 : DC m_Cutter_tellLaid 42 (.getfield 18) 3 45 := ⟨by decide +kernel, rfl⟩
theorem d_Cutter_tellLaid_45 : DC m_Cutter_tellLaid 45 .ireturn 1 46 := ⟨by decide +kernel, rfl⟩
theorem d_Cutter_tellLaid_46 : DC m_Cutter_tellLaid 46 (.aload_n 0) 1 47 := ⟨by decide +kernel, rfl⟩
theorem d_Cutter_tellLaid_47 : DC m_Cutter_tellLaid 47 (.getfield 21) 3 50 := ⟨by decide +kernel, rfl⟩
theorem d_Cutter_tellLaid_50 : DC m_Cutter_tellLaid 50 .ireturn 1 51 := ⟨by decide +kernel, rfl⟩
theorem d_Cutter_tellLaid_51 : DC m_Cutter_tellLaid 51 (.bipush (-100)) 2 53 := ⟨by decide +kernel, rfl⟩
theorem d_Cutter_tellLaid_53 : DC m_Cutter_tellLaid 53 .ireturn 1 54 := ⟨by decide +kernel, rfl⟩
def f_Cutter_tellLaid (n : Nat) (x0 : Nat) (x1 : Int32) (M : MM) : Option (Int32 × MM) :=
  og 2 x0 M <|
  (gI 2 0 x0 M).bind fun v1 =>
  if v1 = 0 then
    some ((-100), M)
  else
    if x1 = 0 then
      (gI 2 1 x0 M).bind fun v4 =>
      some (v4, M)
    else
      if x1 = 1 then
        (gI 2 2 x0 M).bind fun v6 =>
        some (v6, M)
      else
        if x1 = 2 then
          (gI 2 3 x0 M).bind fun v8 =>
          some (v8, M)
        else
          some ((-100), M)
theorem fc_Cutter_tellLaid {n : Nat} {x0 : Nat} {x1 : Int32} {M : MM} {z : Int32 × MM} (h : f_Cutter_tellLaid n x0 x1 M = some z) : (M.1.2.1 x0).1 = 2 := by
  unfold f_Cutter_tellLaid at h
  exact (og_s h).1
theorem t_Cutter_tellLaid (n : Nat) (x0 : Nat) (x1 : Int32) (M : MM) (z : Int32 × MM) (h : f_Cutter_tellLaid n x0 x1 M = some z) : CT m_Cutter_tellLaid (rm 1 0 0) [.ref x0, .int x1] M (some (.int z.1)) z.2 := by
  unfold f_Cutter_tellLaid at h
  obtain ⟨hthis, h⟩ := og_s h
  refine CT.of (ls := [some (.ref x0), some (.int x1)]) rfl (okp rfl) rfl ?_
  refine e_aload_n d_Cutter_tellLaid_0 rfl ?_
  obtain ⟨v1, hv1, h⟩ := bnd h
  refine e_getI d_Cutter_tellLaid_1 fl_Cutter_9 (fun _ _ _ => rfl) hv1 ?_
  refine e_if_ne 10 d_Cutter_tellLaid_4 (by decide) (fun c2 => ?_) (fun c2 => ?_)
  · replace h := ifn c2 h
    refine e_iload_n d_Cutter_tellLaid_10 rfl ?_
    by_cases c3 : x1 = 0
    · replace h := ift c3 h
      refine e_tabEq 36 d_Cutter_tellLaid_11 c3 (by decide) (by decide) rfl (by decide) ?_
      refine e_aload_n d_Cutter_tellLaid_36 rfl ?_
      obtain ⟨v4, hv4, h⟩ := bnd h
      refine e_getI d_Cutter_tellLaid_37 fl_Cutter_15 (fun _ _ _ => rfl) hv4 ?_
      cases h
      exact e_iret d_Cutter_tellLaid_40 rfl (Nat.le_refl _) (Nat.le_refl _)
    · replace h := ifn c3 h
      by_cases c5 : x1 = 1
      · replace h := ift c5 h
        refine e_tabEq 41 d_Cutter_tellLaid_11 c5 (by decide) (by decide) rfl (by decide) ?_
        refine e_aload_n d_Cutter_tellLaid_41 rfl ?_
        obtain ⟨v6, hv6, h⟩ := bnd h
        refine e_getI d_Cutter_tellLaid_42 fl_Cutter_18 (fun _ _ _ => rfl) hv6 ?_
        cases h
        exact e_iret d_Cutter_tellLaid_45 rfl (Nat.le_refl _) (Nat.le_refl _)
      · replace h := ifn c5 h
        by_cases c7 : x1 = 2
        · replace h := ift c7 h
          refine e_tabEq 46 d_Cutter_tellLaid_11 c7 (by decide) (by decide) rfl (by decide) ?_
          refine e_aload_n d_Cutter_tellLaid_46 rfl ?_
          obtain ⟨v8, hv8, h⟩ := bnd h
          refine e_getI d_Cutter_tellLaid_47 fl_Cutter_21 (fun _ _ _ => rfl) hv8 ?_
          cases h
          exact e_iret d_Cutter_tellLaid_50 rfl (Nat.le_refl _) (Nat.le_refl _)
        · replace h := ifn c7 h
          refine e_tabOut 51 d_Cutter_tellLaid_11 (tab_o 0 3 [0, 1, 2] (by decide) (by decide) (by decide) (fa_c c3 (fa_c c5 (fa_c c7 fa_n)))) (by decide) ?_
          refine e_bipush (v := (-100)) d_Cutter_tellLaid_51 (by decide) ?_
          cases h
          exact e_iret d_Cutter_tellLaid_53 rfl (Nat.le_refl _) (Nat.le_refl _)
  · replace h := ift c2 h
    refine e_bipush (v := (-100)) d_Cutter_tellLaid_7 (by decide) ?_
    cases h
    exact e_iret d_Cutter_tellLaid_9 rfl (Nat.le_refl _) (Nat.le_refl _)
