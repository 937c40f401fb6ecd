theorem d_Form_makeImage_0 : DC m_Form_makeImage 0 (.aload_n 0) 1 1 := ⟨by decide +kernel, rfl⟩
theorem d_Form_makeImage_1 : DC m_Form_makeImage 1 (.getfield 18) 3 4 := ⟨by decide +kernel, rfl⟩
theorem d_Form_makeImage_4 : DC m_Form_makeImage 4 (.iload_n 1) 1 5 := ⟨by decide +kernel, rfl⟩
theorem d_Form_makeImage_5 : DC m_Form_makeImage 5 .aaload 1 6 := ⟨by decide +kernel, rfl⟩
theorem d_Form_makeImage_6 : DC m_Form_makeImage 6 (.astore_n 2) 1 7 := ⟨by decide +kernel, rfl⟩
theorem d_Form_makeImage_7 : DC m_Form_makeImage 7 (.iload_n 1) 1 8 := ⟨by decide +kernel, rfl⟩
theorem d_Form_makeImage_8 : DC m_Form_makeImage 8 (.ifCond .ne 14) 3 11 := ⟨by decide +kernel, rfl⟩
theorem d_Form_makeImage_11 : DC m_Form_makeImage 11 (.aload_n 2) 1 12 := ⟨by decide +kernel, rfl⟩
theorem d_Form_makeImage_12 : DC m_Form_makeImage 12 (.aload_n 0) 1 13 := ⟨by decide +kernel, rfl⟩
theorem d_Form_makeImage_13 : DC m_Form_makeImage 13 (.getfield 12) 3 16 := ⟨by decide +kernel, rfl⟩
theorem d_Form_makeImage_16 : DC m_Form_makeImage 16 (.invokevirtual 39) 3 19 := ⟨by decide +kernel, rfl⟩
theorem d_Form_makeImage_19 : DC m_Form_makeImage 19 (.goto 31) 3 22 := ⟨by decide +kernel, rfl⟩
theorem d_Form_makeImage_22 : DC m_Form_makeImage 22 (.iload_n 1) 1 23 := ⟨by decide +kernel, rfl⟩
theorem d_Form_makeImage_23 : DC m_Form_makeImage 23 (.iconst 4) 1 24 := ⟨by decide +kernel, rfl⟩
theorem d_Form_makeImage_24 : DC m_Form_makeImage 24 (.if_icmp .ne 14) 3 27 := ⟨by decide +kernel, rfl⟩
theorem d_Form_makeImage_27 : DC m_Form_makeImage 27 (.aload_n 2) 1 28 := ⟨by decide +kernel, rfl⟩
theorem d_Form_makeImage_28 : DC m_Form_makeImage 28 (.aload_n 0) 1 29 := ⟨by decide +kernel, rfl⟩
theorem d_Form_makeImage_29 : DC m_Form_makeImage 29 (.getfield 12) 3 32 := ⟨by decide +kernel, rfl⟩
theorem d_Form_makeImage_32 : DC m_Form_makeImage 32 (.invokevirtual 51) 3 35 := ⟨by decide +kernel, rfl⟩
theorem d_Form_makeImage_35 : DC m_Form_makeImage 35 (.goto 15) 3 38 := ⟨by decide +kernel, rfl⟩
theorem d_Form_makeImage_38 : DC m_Form_makeImage 38 (.aload_n 2) 1 39 := ⟨by decide +kernel, rfl⟩
theorem d_Form_makeImage_39 : DC m_Form_makeImage 39 (.aload_n 0) 1 40 := ⟨by decide +kernel, rfl⟩
theorem d_Form_makeImage_40 : DC m_Form_makeImage 40 (.getfield 18) 3 43 := ⟨by decide +kernel, rfl⟩
theorem d_Form_makeImage_43 : DC m_Form_makeImage 43 (.iload_n 1) 1 44 := ⟨by decide +kernel, rfl⟩
theorem d_Form_makeImage_44 : DC m_Form_makeImage 44 (.iconst 1) 1 45 := ⟨by decide +kernel, rfl⟩
theorem d_Form_makeImage_45 : DC m_Form_makeImage 45 .isub 1 46 := ⟨by decide +kernel, rfl⟩
theorem d_Form_makeImage_46 : DC m_Form_makeImage 46 .aaload 1 47 := ⟨by decide +kernel, rfl⟩
theorem d_Form_makeImage_47 : DC m_Form_makeImage 47 (.invokevirtual 54) 3 50 := ⟨by decide +kernel, rfl⟩
theorem d_Form_makeImage_50 : DC m_Form_makeImage 50 (.aload_n 2) 1 51 := ⟨by decide +kernel, rfl⟩
theorem d_Form_makeImage_51 : DC m_Form_makeImage 51 (.invokevirtual 57) 3 54 := ⟨by decide +kernel, rfl⟩
theorem d_Form_makeImage_54 : DC m_Form_makeImage 54 (.aload_n 0) 1 55 := ⟨by decide +kernel, rfl⟩
theorem d_Form_makeImage_55 : DC m_Form_makeImage 55 (.getfield 22) 3 58 := ⟨by decide +kernel, rfl⟩
theorem d_Form_makeImage_58 : DC m_Form_makeImage 58 (.iload_n 1) 1 59 := ⟨by decide +kernel, rfl⟩
theorem d_Form_makeImage_59 : DC m_Form_makeImage 59 (.aload_n 2) 1 60 := ⟨by decide +kernel, rfl⟩
theorem d_Form_makeImage_60 : DC m_Form_makeImage 60 (.invokevirtual 60) 3 63 := ⟨by decide +kernel, rfl⟩
theorem d_Form_makeImage_63 : DC m_Form_makeImage 63 .iastore 1 64 := ⟨by decide +kernel, rfl⟩
theorem d_Form_makeImage_64 : DC m_Form_makeImage 64 (.aload_n 0) 1 65 := ⟨by decide +kernel, rfl⟩
theorem d_Form_makeImage_65 : DC m_Form_makeImage 65 (.getfield 26) 3 68 := ⟨by decide +kernel, rfl⟩
theorem d_Form_makeImage_68 : DC m_Form_makeImage 68 (.iload_n 1) 1 69 := ⟨by decide +kernel, rfl⟩
theorem d_Form_makeImage_69 : DC m_Form_makeImage 69 (.aload_n 2) 1 70 := ⟨by decide +kernel, rfl⟩
theorem d_Form_makeImage_70 : DC m_Form_makeImage 70 (.invokevirtual 63) 3 73 := ⟨by decide +kernel, rfl⟩
theorem d_Form_makeImage_73 : DC m_Form_makeImage 73 (.iconst 1) 1 74 := ⟨by decide +kernel, rfl⟩
theorem d_Form_makeImage_74 : DC m_Form_makeImage 74 .iadd 1 75 := ⟨by decide +kernel, rfl⟩
theorem d_Form_makeImage_75 : DC m_Form_makeImage 75 .iastore 1 76 := ⟨by decide +kernel, rfl⟩
theorem d_Form_makeImage_76 : DC m_Form_makeImage 76 (.aload_n 0) 1 77 := ⟨by decide +kernel, rfl⟩
theorem d_Form_makeImage_77 : DC m_Form_makeImage 77 (.getfield 29) 3 80 := ⟨by decide +kernel, rfl⟩
theorem d_Form_makeImage_80 : DC m_Form_makeImage 80 (.iload_n 1) 1 81 := ⟨by decide +kernel, rfl⟩
theorem d_Form_makeImage_81 : DC m_Form_makeImage 81 (.aload_n 2) 1 82 := ⟨by decide +kernel, rfl⟩
theorem d_Form_makeImage_82 : DC m_Form_makeImage 82 (.invokevirtual 66) 3 85 := ⟨by decide +kernel, rfl⟩
theorem d_Form_makeImage_85 : DC m_Form_makeImage 85 (.iconst 1) 1 86 := ⟨by decide +kernel, rfl⟩
theorem d_Form_makeImage_86 : DC m_Form_makeImage 86 .iadd 1 87 := ⟨by decide +kernel, rfl⟩
theorem d_Form_makeImage_87 : DC m_Form_makeImage 87 .iastore 1 88 := ⟨by decide +kernel, rfl⟩
theorem d_Form_makeImage_88 : DC m_Form_makeImage 88 (.aload_n 0) 1 89 := ⟨by decide +kernel, rfl⟩
theorem d_Form_makeImage_89 : DC m_Form_makeImage 89 (.getfield 32) 3 92 := ⟨by decide +kernel, rfl⟩
theorem d_Form_makeImage_92 : DC m_Form_makeImage 92 (.iload_n 1) 1 93 := ⟨by decide +kernel, rfl⟩
theorem d_Form_makeImage_93 : DC m_Form_makeImage 93 (.iload_n 1) 1 94 := ⟨by decide +kernel, rfl⟩
theorem d_Form_makeImage_94 : DC m_Form_makeImage 94 .iastore 1 95 := ⟨by decide +kernel, rfl⟩
theorem d_Form_makeImage_95 : DC m_Form_makeImage 95 (.iload_n 1) 1 96 := ⟨by decide +kernel, rfl⟩
theorem d_Form_makeImage_96 : DC m_Form_makeImage 96 (.iconst 1) 1 97 := ⟨by decide +kernel, rfl⟩
theorem d_Form_makeImage_97 : DC m_Form_makeImage 97 .isub 1 98 := ⟨by decide +kernel, rfl⟩
theorem d_Form_makeImage_98 : DC m_Form_makeImage 98 (.istore_n 3) 1 99 := ⟨by decide +kernel, rfl⟩
theorem d_Form_makeImage_99 : DC m_Form_makeImage 99 (.iload_n 3) 1 100 := ⟨by decide +kernel, rfl⟩
theorem d_Form_makeImage_100 : DC m_Form_makeImage 100 (.ifCond .lt 29) 3 103 := ⟨by decide +kernel, rfl⟩
theorem d_Form_makeImage_103 : DC m_Form_makeImage 103 (.aload_n 0) 1 104 := ⟨by decide +kernel, rfl⟩
theorem d_Form_makeImage_104 : DC m_Form_makeImage 104 (.getfield 18) 3 107 := ⟨by decide +kernel, rfl⟩
theorem d_Form_makeImage_107 : DC m_Form_makeImage 107 (.iload_n 3) 1 108 := ⟨by decide +kernel, rfl⟩
theorem d_Form_makeImage_108 : DC m_Form_makeImage 108 .aaload 1 109 := ⟨by decide +kernel, rfl⟩
theorem d_Form_makeImage_109 : DC m_Form_makeImage 109 (.aload_n 2) 1 110 := ⟨by decide +kernel, rfl⟩
theorem d_Form_makeImage_110 : DC m_Form_makeImage 110 (.invokevirtual 69) 3 113 := ⟨by decide +kernel, rfl⟩
theorem d_Form_makeImage_113 : DC m_Form_makeImage 113 (.ifCond .eq 10) 3 116 := ⟨by decide +kernel, rfl⟩
theorem d_Form_makeImage_116 : DC m_Form_makeImage 116 (.aload_n 0) 1 117 := ⟨by decide +kernel, rfl⟩
theorem d_Form_makeImage_117 : DC m_Form_makeImage 117 (.getfield 32) 3 120 := ⟨by decide +kernel, rfl⟩
theorem d_Form_makeImage_120 : DC m_Form_makeImage 120 (.iload_n 1) 1 121 := ⟨by decide +kernel, rfl⟩
theorem d_Form_makeImage_121 : DC m_Form_makeImage 121 (.iload_n 3) 1 122 := ⟨by decide +kernel, rfl⟩
theorem d_Form_makeImage_122 : DC m_Form_makeImage 122 .iastore 1 123 := ⟨by decide +kernel, rfl⟩
theorem d_Form_makeImage_123 : DC m_Form_makeImage 123 (.iinc 3 (-1)) 3 126 := ⟨by decide +kernel, rfl⟩
theorem d_Form_makeImage_126 : DC m_Form_makeImage 126 (.goto (-27)) 3 129 := ⟨by decide +kernel, rfl⟩
theorem d_Form_makeImage_129 : DC m_Form_makeImage 129 .return_ 1 130 := ⟨by decide +kernel, rfl⟩
def f_Form_makeImage_123 (n : Nat) (k_99 : Nat → Int32 → Nat → Int32 → MM → Option (MM)) (x0 : Nat) (x1 : Int32) (x2 : Nat) (x3 : Int32) (M : MM) : Option (MM) :=
  k_99 x0 x1 x2 (x3 + (-1)) M
theorem t_Form_makeImage_123 (n : Nat) {k_99 : Nat → Int32 → Nat → Int32 → MM → Option (MM)} (hk_99 : ∀ (x0 : Nat) (x1 : Int32) (x2 : Nat) (x3 : Int32) (M : MM) (z : MM), k_99 x0 x1 x2 x3 M = some z → EV m_Form_makeImage (rm 3 0 0) none z 0 0 99 [some (.ref x0), some (.int x1), some (.ref x2), some (.int x3)] [] M) (x0 : Nat) (x1 : Int32) (x2 : Nat) (x3 : Int32) (M : MM) (z : MM) (h : f_Form_makeImage_123 n k_99 x0 x1 x2 x3 M = some z) : EV m_Form_makeImage (rm 3 0 0) none z 0 0 123 [some (.ref x0), some (.int x1), some (.ref x2), some (.int x3)] [] M := by
  unfold f_Form_makeImage_123 at h
  refine e_iinc (v := x3 + (-1)) (l2 := [some (.ref x0), some (.int x1), some (.ref x2), some (.int (x3 + (-1)))]) d_Form_makeImage_123 rfl rfl rfl (okl rfl) rfl ?_
  refine e_goto 99 d_Form_makeImage_126 (by decide) ?_
  exact (hk_99 x0 x1 x2 (x3 + (-1)) M z h).less (show LSub _ _ from ⟨rfl, ⟨rfl, ⟨rfl, ⟨rfl, trivial⟩⟩⟩⟩)
def f_Form_makeImage_99 (n : Nat) : Nat → Nat → Int32 → Nat → Int32 → MM → Option (MM)
  | 0, _, _, _, _, _ => none
  | m + 1, x0, x1, x2, x3, M =>
    if x3 < 0 then
      some M
    else
      (gR 4 1 x0 M).bind fun v2 =>
      (aR 104 v2 x3 M).bind fun v3 =>
      (f_Shape_isSame n v3 x2 M).bind fun p4 =>
      if p4.1 = 0 then
        f_Form_makeImage_123 n (f_Form_makeImage_99 n m) x0 x1 x2 x3 p4.2
      else
        (gR 4 5 x0 p4.2).bind fun v6 =>
        (sI 100 v6 x1 x3 p4.2).bind fun M7 =>
        f_Form_makeImage_123 n (f_Form_makeImage_99 n m) x0 x1 x2 x3 M7
theorem t_Form_makeImage_99 (n : Nat) : ∀ (m : Nat) (x0 : Nat) (x1 : Int32) (x2 : Nat) (x3 : Int32) (M : MM) (z : MM), f_Form_makeImage_99 n m x0 x1 x2 x3 M = some z → EV m_Form_makeImage (rm 3 0 0) none z 0 0 99 [some (.ref x0), some (.int x1), some (.ref x2), some (.int x3)] [] M := by
  intro m
  induction m with
  | zero => intro x0 x1 x2 x3 M z h; cases h
  | succ m ih =>
    intro x0 x1 x2 x3 M z h
    rw [f_Form_makeImage_99] at h
    refine e_iload_n d_Form_makeImage_99 rfl ?_
    refine e_if_lt 129 d_Form_makeImage_100 (by decide) (fun c1 => ?_) (fun c1 => ?_)
    · replace h := ift c1 h
      cases h
      exact e_vret d_Form_makeImage_129 rfl (Nat.le_refl _) (Nat.le_refl _)
    · replace h := ifn c1 h
      refine e_aload_n d_Form_makeImage_103 rfl ?_
      obtain ⟨v2, hv2, h⟩ := bnd h
      refine e_getR d_Form_makeImage_104 fl_Form_18 (fun _ _ _ => rfl) hv2 ?_
      refine e_iload_n d_Form_makeImage_107 rfl ?_
      obtain ⟨v3, hv3, h⟩ := bnd h
      refine e_aald (kd := 104) d_Form_makeImage_108 (by decide) hv3 ?_
      refine e_aload_n d_Form_makeImage_109 rfl ?_
      obtain ⟨p4, hp4, h⟩ := bnd h
      refine e_cVi (mt1 := m_Shape_isSame) (As := [.ref x2]) (st := []) d_Form_makeImage_110 ml_Form_69 mv_Shape_isSame (t_Shape_isSame n v3 x2 M p4 hp4) (fc_Shape_isSame hp4) rfl rfl rfl (okp rfl) (okp rfl) (okp rfl) (Nat.le_refl _) (Nat.le_refl _) ?_
      refine e_if_eq 123 d_Form_makeImage_113 (by decide) (fun c5 => ?_) (fun c5 => ?_)
      · replace h := ift c5 h
        exact (t_Form_makeImage_123 n ih x0 x1 x2 x3 p4.2 z h).less (show LSub _ _ from ⟨rfl, ⟨rfl, ⟨rfl, ⟨rfl, trivial⟩⟩⟩⟩)
      · replace h := ifn c5 h
        refine e_aload_n d_Form_makeImage_116 rfl ?_
        obtain ⟨v6, hv6, h⟩ := bnd h
        refine e_getR d_Form_makeImage_117 fl_Form_32 (fun _ _ _ => rfl) hv6 ?_
        refine e_iload_n d_Form_makeImage_120 rfl ?_
        refine e_iload_n d_Form_makeImage_121 rfl ?_
        obtain ⟨M7, hM7, h⟩ := bnd h
        refine e_iast d_Form_makeImage_122 hM7 ?_
        exact (t_Form_makeImage_123 n ih x0 x1 x2 x3 M7 z h).less (show LSub _ _ from ⟨rfl, ⟨rfl, ⟨rfl, ⟨rfl, trivial⟩⟩⟩⟩)
def f_Form_makeImage_50 (n : Nat) (x0 : Nat) (x1 : Int32) (x2 : Nat) (M : MM) : Option (MM) :=
  (f_Shape_moveToBase n x2 M).bind fun M8 =>
  (gR 4 2 x0 M8).bind fun v9 =>
  (f_Shape_lowestQuarter n x2 M8).bind fun p10 =>
  (sI 100 v9 x1 p10.1 p10.2).bind fun M11 =>
  (gR 4 3 x0 M11).bind fun v12 =>
  (f_Shape_right n x2 M11).bind fun p13 =>
  (sI 100 v12 x1 (p13.1 + 1) p13.2).bind fun M14 =>
  (gR 4 4 x0 M14).bind fun v15 =>
  (f_Shape_bottom n x2 M14).bind fun p16 =>
  (sI 100 v15 x1 (p16.1 + 1) p16.2).bind fun M17 =>
  (gR 4 5 x0 M17).bind fun v18 =>
  (sI 100 v18 x1 x1 M17).bind fun M19 =>
  nm (α := Int32) (x1 - 1) fun y20 =>
  f_Form_makeImage_99 n n x0 x1 x2 y20 M19
theorem t_Form_makeImage_50 (n : Nat) (x0 : Nat) (x1 : Int32) (x2 : Nat) (M : MM) (z : MM) (h : f_Form_makeImage_50 n x0 x1 x2 M = some z) : EV m_Form_makeImage (rm 3 0 0) none z 0 0 50 [some (.ref x0), some (.int x1), some (.ref x2), none] [] M := by
  unfold f_Form_makeImage_50 at h
  refine e_aload_n d_Form_makeImage_50 rfl ?_
  obtain ⟨M8, hM8, h⟩ := bnd h
  refine e_cVv (mt1 := m_Shape_moveToBase) (As := []) (st := []) d_Form_makeImage_51 ml_Form_57 mv_Shape_moveToBase (t_Shape_moveToBase n x2 M M8 hM8) (fc_Shape_moveToBase hM8) rfl rfl rfl (okp rfl) (okp rfl) (okp rfl) (Nat.le_refl _) (Nat.le_refl _) ?_
  refine e_aload_n d_Form_makeImage_54 rfl ?_
  obtain ⟨v9, hv9, h⟩ := bnd h
  refine e_getR d_Form_makeImage_55 fl_Form_22 (fun _ _ _ => rfl) hv9 ?_
  refine e_iload_n d_Form_makeImage_58 rfl ?_
  refine e_aload_n d_Form_makeImage_59 rfl ?_
  obtain ⟨p10, hp10, h⟩ := bnd h
  refine e_cVi (mt1 := m_Shape_lowestQuarter) (As := []) (st := [.int x1, .ref v9]) d_Form_makeImage_60 ml_Form_60 mv_Shape_lowestQuarter (t_Shape_lowestQuarter n x2 M8 p10 hp10) (fc_Shape_lowestQuarter hp10) rfl rfl rfl (okp rfl) (okp rfl) (okp rfl) (Nat.le_refl _) (Nat.le_refl _) ?_
  obtain ⟨M11, hM11, h⟩ := bnd h
  refine e_iast d_Form_makeImage_63 hM11 ?_
  refine e_aload_n d_Form_makeImage_64 rfl ?_
  obtain ⟨v12, hv12, h⟩ := bnd h
  refine e_getR d_Form_makeImage_65 fl_Form_26 (fun _ _ _ => rfl) hv12 ?_
  refine e_iload_n d_Form_makeImage_68 rfl ?_
  refine e_aload_n d_Form_makeImage_69 rfl ?_
  obtain ⟨p13, hp13, h⟩ := bnd h
  refine e_cVi (mt1 := m_Shape_right) (As := []) (st := [.int x1, .ref v12]) d_Form_makeImage_70 ml_Form_63 mv_Shape_right (t_Shape_right n x2 M11 p13 hp13) (fc_Shape_right hp13) rfl rfl rfl (okp rfl) (okp rfl) (okp rfl) (Nat.le_refl _) (Nat.le_refl _) ?_
  refine e_iconst (v := 1) d_Form_makeImage_73 (by decide) ?_
  refine e_iadd d_Form_makeImage_74 ?_
  obtain ⟨M14, hM14, h⟩ := bnd h
  refine e_iast d_Form_makeImage_75 hM14 ?_
  refine e_aload_n d_Form_makeImage_76 rfl ?_
  obtain ⟨v15, hv15, h⟩ := bnd h
  refine e_getR d_Form_makeImage_77 fl_Form_29 (fun _ _ _ => rfl) hv15 ?_
  refine e_iload_n d_Form_makeImage_80 rfl ?_
  refine e_aload_n d_Form_makeImage_81 rfl ?_
  obtain ⟨p16, hp16, h⟩ := bnd h
  refine e_cVi (mt1 := m_Shape_bottom) (As := []) (st := [.int x1, .ref v15]) d_Form_makeImage_82 ml_Form_66 mv_Shape_bottom (t_Shape_bottom n x2 M14 p16 hp16) (fc_Shape_bottom hp16) rfl rfl rfl (okp rfl) (okp rfl) (okp rfl) (Nat.le_refl _) (Nat.le_refl _) ?_
  refine e_iconst (v := 1) d_Form_makeImage_85 (by decide) ?_
  refine e_iadd d_Form_makeImage_86 ?_
  obtain ⟨M17, hM17, h⟩ := bnd h
  refine e_iast d_Form_makeImage_87 hM17 ?_
  refine e_aload_n d_Form_makeImage_88 rfl ?_
  obtain ⟨v18, hv18, h⟩ := bnd h
  refine e_getR d_Form_makeImage_89 fl_Form_32 (fun _ _ _ => rfl) hv18 ?_
  refine e_iload_n d_Form_makeImage_92 rfl ?_
  refine e_iload_n d_Form_makeImage_93 rfl ?_
  obtain ⟨M19, hM19, h⟩ := bnd h
  refine e_iast d_Form_makeImage_94 hM19 ?_
  refine e_iload_n d_Form_makeImage_95 rfl ?_
  refine e_iconst (v := 1) d_Form_makeImage_96 (by decide) ?_
  refine e_isub d_Form_makeImage_97 ?_
  obtain ⟨y20, ey20, h⟩ := nm_s h
  refine e_nameI ey20 ?_
  refine e_istore_n (l2 := [some (.ref x0), some (.int x1), some (.ref x2), some (.int y20)]) d_Form_makeImage_98 rfl (okl rfl) rfl ?_
  exact (t_Form_makeImage_99 n n x0 x1 x2 y20 M19 z h).less (show LSub _ _ from ⟨rfl, ⟨rfl, ⟨rfl, ⟨rfl, trivial⟩⟩⟩⟩)
def f_Form_makeImage (n : Nat) (x0 : Nat) (x1 : Int32) (M : MM) : Option (MM) :=
  og 4 x0 M <|
  (gR 4 1 x0 M).bind fun v21 =>
  (aR 104 v21 x1 M).bind fun v22 =>
  if x1 = 0 then
    (gR 4 0 x0 M).bind fun v24 =>
    (f_Shape_copy n v22 v24 M).bind fun M25 =>
    f_Form_makeImage_50 n x0 x1 v22 M25
  else
    if x1 = 4 then
      (gR 4 0 x0 M).bind fun v27 =>
      (f_Shape_becomeFlipped n v22 v27 M).bind fun M28 =>
      f_Form_makeImage_50 n x0 x1 v22 M28
    else
      (gR 4 1 x0 M).bind fun v29 =>
      (aR 104 v29 (x1 - 1) M).bind fun v30 =>
      (f_Shape_becomeTurned n v22 v30 M).bind fun M31 =>
      f_Form_makeImage_50 n x0 x1 v22 M31
theorem fc_Form_makeImage {n : Nat} {x0 : Nat} {x1 : Int32} {M : MM} {z : MM} (h : f_Form_makeImage n x0 x1 M = some z) : (M.1.2.1 x0).1 = 4 := by
  unfold f_Form_makeImage at h
  exact (og_s h).1
theorem t_Form_makeImage (n : Nat) (x0 : Nat) (x1 : Int32) (M : MM) (z : MM) (h : f_Form_makeImage n x0 x1 M = some z) : CT m_Form_makeImage (rm 3 0 0) [.ref x0, .int x1] M none z := by
  unfold f_Form_makeImage at h
  obtain ⟨hthis, h⟩ := og_s h
  refine CT.of (ls := [some (.ref x0), some (.int x1), none, none]) rfl (okp rfl) rfl ?_
  refine e_aload_n d_Form_makeImage_0 rfl ?_
  obtain ⟨v21, hv21, h⟩ := bnd h
  refine e_getR d_Form_makeImage_1 fl_Form_18 (fun _ _ _ => rfl) hv21 ?_
  refine e_iload_n d_Form_makeImage_4 rfl ?_
  obtain ⟨v22, hv22, h⟩ := bnd h
  refine e_aald (kd := 104) d_Form_makeImage_5 (by decide) hv22 ?_
  refine e_astore_n (l2 := [some (.ref x0), some (.int x1), some (.ref v22), none]) d_Form_makeImage_6 rfl (okl rfl) rfl ?_
  refine e_iload_n d_Form_makeImage_7 rfl ?_
  refine e_if_ne 22 d_Form_makeImage_8 (by decide) (fun c23 => ?_) (fun c23 => ?_)
  · replace h := ifn c23 h
    refine e_iload_n d_Form_makeImage_22 rfl ?_
    refine e_iconst (v := 4) d_Form_makeImage_23 (by decide) ?_
    refine e_ic_ne 38 d_Form_makeImage_24 (by decide) (fun c26 => ?_) (fun c26 => ?_)
    · replace h := ifn c26 h
      refine e_aload_n d_Form_makeImage_38 rfl ?_
      refine e_aload_n d_Form_makeImage_39 rfl ?_
      obtain ⟨v29, hv29, h⟩ := bnd h
      refine e_getR d_Form_makeImage_40 fl_Form_18 (fun _ _ _ => rfl) hv29 ?_
      refine e_iload_n d_Form_makeImage_43 rfl ?_
      refine e_iconst (v := 1) d_Form_makeImage_44 (by decide) ?_
      refine e_isub d_Form_makeImage_45 ?_
      obtain ⟨v30, hv30, h⟩ := bnd h
      refine e_aald (kd := 104) d_Form_makeImage_46 (by decide) hv30 ?_
      obtain ⟨M31, hM31, h⟩ := bnd h
      refine e_cVv (mt1 := m_Shape_becomeTurned) (As := [.ref v30]) (st := []) d_Form_makeImage_47 ml_Form_54 mv_Shape_becomeTurned (t_Shape_becomeTurned n v22 v30 M M31 hM31) (fc_Shape_becomeTurned hM31) rfl rfl rfl (okp rfl) (okp rfl) (okp rfl) (Nat.le_refl _) (Nat.le_refl _) ?_
      exact (t_Form_makeImage_50 n x0 x1 v22 M31 z h).less (show LSub _ _ from ⟨rfl, ⟨rfl, ⟨rfl, trivial⟩⟩⟩)
    · replace h := ift c26 h
      refine e_aload_n d_Form_makeImage_27 rfl ?_
      refine e_aload_n d_Form_makeImage_28 rfl ?_
      obtain ⟨v27, hv27, h⟩ := bnd h
      refine e_getR d_Form_makeImage_29 fl_Form_12 (fun _ _ _ => rfl) hv27 ?_
      obtain ⟨M28, hM28, h⟩ := bnd h
      refine e_cVv (mt1 := m_Shape_becomeFlipped) (As := [.ref v27]) (st := []) d_Form_makeImage_32 ml_Form_51 mv_Shape_becomeFlipped (t_Shape_becomeFlipped n v22 v27 M M28 hM28) (fc_Shape_becomeFlipped hM28) rfl rfl rfl (okp rfl) (okp rfl) (okp rfl) (Nat.le_refl _) (Nat.le_refl _) ?_
      refine e_goto 50 d_Form_makeImage_35 (by decide) ?_
      exact (t_Form_makeImage_50 n x0 x1 v22 M28 z h).less (show LSub _ _ from ⟨rfl, ⟨rfl, ⟨rfl, trivial⟩⟩⟩)
  · replace h := ift c23 h
    refine e_aload_n d_Form_makeImage_11 rfl ?_
    refine e_aload_n d_Form_makeImage_12 rfl ?_
    obtain ⟨v24, hv24, h⟩ := bnd h
    refine e_getR d_Form_makeImage_13 fl_Form_12 (fun _ _ _ => rfl) hv24 ?_
    obtain ⟨M25, hM25, h⟩ := bnd h
    refine e_cVv (mt1 := m_Shape_copy) (As := [.ref v24]) (st := []) d_Form_makeImage_16 ml_Form_39 mv_Shape_copy (t_Shape_copy n v22 v24 M M25 hM25) (fc_Shape_copy hM25) rfl rfl rfl (okp rfl) (okp rfl) (okp rfl) (Nat.le_refl _) (Nat.le_refl _) ?_
    refine e_goto 50 d_Form_makeImage_19 (by decide) ?_
    exact (t_Form_makeImage_50 n x0 x1 v22 M25 z h).less (show LSub _ _ from ⟨rfl, ⟨rfl, ⟨rfl, trivial⟩⟩⟩)
theorem d_Form_tell_0 : DC m_Form_tell 0 (.aload_n 0) 1 1 := ⟨by decide +kernel, rfl⟩
theorem d_Form_tell_1 : DC m_Form_tell 1 (.getfield 12) 3 4 := ⟨by decide +kernel, rfl⟩
theorem d_Form_tell_4 : DC m_Form_tell 4 (.aload_n 1) 1 5 := ⟨by decide +kernel, rfl⟩
theorem d_Form_tell_5 : DC m_Form_tell 5 (.invokevirtual 39) 3 8 := ⟨by decide +kernel, rfl⟩
theorem d_Form_tell_8 : DC m_Form_tell 8 (.aload_n 0) 1 9 := ⟨by decide +kernel, rfl⟩
theorem d_Form_tell_9 : DC m_Form_tell 9 (.aload_n 1) 1 10 := ⟨by decide +kernel, rfl⟩
theorem d_Form_tell_10 : DC m_Form_tell 10 (.invokevirtual 43) 3 13 := ⟨by decide +kernel, rfl⟩
theorem d_Form_tell_13 : DC m_Form_tell 13 (.putfield 35) 3 16 := ⟨by decide +kernel, rfl⟩
theorem d_Form_tell_16 : DC m_Form_tell 16 (.iconst 0) 1 17 := ⟨by decide +kernel, rfl⟩
theorem d_Form_tell_17 : DC m_Form_tell 17 (.istore_n 2) 1 18 := ⟨by decide +kernel, rfl⟩
theorem d_Form_tell_18 : DC m_Form_tell 18 (.iload_n 2) 1 19 := ⟨by decide +kernel, rfl⟩
theorem d_Form_tell_19 : DC m_Form_tell 19 (.bipush 8) 2 21 := ⟨by decide +kernel, rfl⟩
theorem d_Form_tell_21 : DC m_Form_tell 21 (.if_icmp .ge 14) 3 24 := ⟨by decide +kernel, rfl⟩
theorem d_Form_tell_24 : DC m_Form_tell 24 (.aload_n 0) 1 25 := ⟨by decide +kernel, rfl⟩
theorem d_Form_tell_25 : DC m_Form_tell 25 (.iload_n 2) 1 26 := ⟨by decide +kernel, rfl⟩
theorem d_Form_tell_26 : DC m_Form_tell 26 (.invokevirtual 47) 3 29 := ⟨by decide +kernel, rfl⟩
theorem d_Form_tell_29 : DC m_Form_tell 29 (.iinc 2 1) 3 32 := ⟨by decide +kernel, rfl⟩
theorem d_Form_tell_32 : DC m_Form_tell 32 (.goto (-14)) 3 35 := ⟨by decide +kernel, rfl⟩
theorem d_Form_tell_35 : DC m_Form_tell 35 .return_ 1 36 := ⟨by decide +kernel, rfl⟩
def f_Form_tell_18 (n : Nat) : Nat → Nat → Int32 → MM → Option (MM)
  | 0, _, _, _ => none
  | m + 1, x0, x2, M =>
    if 8 ≤ x2 then
      some M
    else
      (f_Form_makeImage n x0 x2 M).bind fun M2 =>
      f_Form_tell_18 n m x0 (x2 + 1) M2
theorem t_Form_tell_18 (n : Nat) : ∀ (m : Nat) (x0 : Nat) (x2 : Int32) (M : MM) (z : MM), f_Form_tell_18 n m x0 x2 M = some z → EV m_Form_tell (rm 4 0 0) none z 0 0 18 [some (.ref x0), none, some (.int x2)] [] M := by
  intro m
  induction m with
  | zero => intro x0 x2 M z h; cases h
  | succ m ih =>
    intro x0 x2 M z h
    rw [f_Form_tell_18] at h
    refine e_iload_n d_Form_tell_18 rfl ?_
    refine e_bipush (v := 8) d_Form_tell_19 (by decide) ?_
    refine e_ic_ge 35 d_Form_tell_21 (by decide) (fun c1 => ?_) (fun c1 => ?_)
    · replace h := ift c1 h
      cases h
      exact e_vret d_Form_tell_35 rfl (Nat.le_refl _) (Nat.le_refl _)
    · replace h := ifn c1 h
      refine e_aload_n d_Form_tell_24 rfl ?_
      refine e_iload_n d_Form_tell_25 rfl ?_
      obtain ⟨M2, hM2, h⟩ := bnd h
      refine e_cVv (mt1 := m_Form_makeImage) (As := [.int x2]) (st := []) d_Form_tell_26 ml_Form_47 mv_Form_makeImage (t_Form_makeImage n x0 x2 M M2 hM2) (fc_Form_makeImage hM2) rfl rfl rfl (okp rfl) (okp rfl) (okp rfl) (Nat.le_refl _) (Nat.le_refl _) ?_
      refine e_iinc (v := x2 + 1) (l2 := [some (.ref x0), none, some (.int (x2 + 1))]) d_Form_tell_29 rfl rfl rfl (okl rfl) rfl ?_
      refine e_goto 18 d_Form_tell_32 (by decide) ?_
      exact (ih x0 (x2 + 1) M2 z h).less (show LSub _ _ from ⟨rfl, ⟨rfl, trivial⟩⟩)
def f_Form_tell (n : Nat) (x0 : Nat) (x1 : Nat) (M : MM) : Option (MM) :=
  og 4 x0 M <|
  (gR 4 0 x0 M).bind fun v3 =>
  (f_Shape_copy n v3 x1 M).bind fun M4 =>
  (f_Shape_countQuarters n x1 M4).bind fun p5 =>
  (pI 4 6 x0 p5.1 p5.2).bind fun M6 =>
  f_Form_tell_18 n n x0 0 M6
theorem fc_Form_tell {n : Nat} {x0 : Nat} {x1 : Nat} {M : MM} {z : MM} (h : f_Form_tell n x0 x1 M = some z) : (M.1.2.1 x0).1 = 4 := by
  unfold f_Form_tell at h
  exact (og_s h).1
theorem t_Form_tell (n : Nat) (x0 : Nat) (x1 : Nat) (M : MM) (z : MM) (h : f_Form_tell n x0 x1 M = some z) : CT m_Form_tell (rm 4 0 0) [.ref x0, .ref x1] M none z := by
  unfold f_Form_tell at h
  obtain ⟨hthis, h⟩ := og_s h
  refine CT.of (ls := [some (.ref x0), some (.ref x1), none]) rfl (okp rfl) rfl ?_
  refine e_aload_n d_Form_tell_0 rfl ?_
  obtain ⟨v3, hv3, h⟩ := bnd h
  refine e_getR d_Form_tell_1 fl_Form_12 (fun _ _ _ => rfl) hv3 ?_
  refine e_aload_n d_Form_tell_4 rfl ?_
  obtain ⟨M4, hM4, h⟩ := bnd h
  refine e_cVv (mt1 := m_Shape_copy) (As := [.ref x1]) (st := []) d_Form_tell_5 ml_Form_39 mv_Shape_copy (t_Shape_copy n v3 x1 M M4 hM4) (fc_Shape_copy hM4) rfl rfl rfl (okp rfl) (okp rfl) (okp rfl) (Nat.le_refl _) (Nat.le_refl _) ?_
  refine e_aload_n d_Form_tell_8 rfl ?_
  refine e_aload_n d_Form_tell_9 rfl ?_
  obtain ⟨p5, hp5, h⟩ := bnd h
  refine e_cVi (mt1 := m_Shape_countQuarters) (As := []) (st := [.ref x0]) d_Form_tell_10 ml_Form_43 mv_Shape_countQuarters (t_Shape_countQuarters n x1 M4 p5 hp5) (fc_Shape_countQuarters hp5) rfl rfl rfl (okp rfl) (okp rfl) (okp rfl) (Nat.le_refl _) (Nat.le_refl _) ?_
  obtain ⟨M6, hM6, h⟩ := bnd h
  refine e_putI d_Form_tell_13 fl_Form_35 (Or.inl rfl) (fun _ _ _ => rfl) rfl hM6 ?_
  refine e_iconst (v := 0) d_Form_tell_16 (by decide) ?_
  refine e_istore_n (l2 := [some (.ref x0), some (.ref x1), some (.int 0)]) d_Form_tell_17 rfl (okl rfl) rfl ?_
  exact (t_Form_tell_18 n n x0 0 M6 z h).less (show LSub _ _ from ⟨rfl, ⟨rfl, trivial⟩⟩)
theorem d_Form_countDifferent_0 : DC m_Form_countDifferent 0 (.iconst 0) 1 1 := ⟨by decide +kernel, rfl⟩
theorem d_Form_countDifferent_1 : DC m_Form_countDifferent 1 (.istore_n 1) 1 2 := ⟨by decide +kernel, rfl⟩
theorem d_Form_countDifferent_2 : DC m_Form_countDifferent 2 (.iconst 0) 1 3 := ⟨by decide +kernel, rfl⟩
theorem d_Form_countDifferent_3 : DC m_Form_countDifferent 3 (.istore_n 2) 1 4 := ⟨by decide +kernel, rfl⟩
theorem d_Form_countDifferent_4 : DC m_Form_countDifferent 4 (.iload_n 2) 1 5 := ⟨by decide +kernel, rfl⟩
theorem d_Form_countDifferent_5 : DC m_Form_countDifferent 5 (.bipush 8) 2 7 := ⟨by decide +kernel, rfl⟩
theorem d_Form_countDifferent_7 : DC m_Form_countDifferent 7 (.if_icmp .ge 27) 3 10 := ⟨by decide +kernel, rfl⟩
theorem d_Form_countDifferent_10 : DC m_Form_countDifferent 10 (.iload_n 1) 1 11 := ⟨by decide +kernel, rfl⟩
theorem d_Form_countDifferent_11 : DC m_Form_countDifferent 11 (.aload_n 0) 1 12 := ⟨by decide +kernel, rfl⟩
theorem d_Form_countDifferent_12 : DC m_Form_countDifferent 12 (.getfield 32) 3 15 := ⟨by decide +kernel, rfl⟩
theorem d_Form_countDifferent_15 : DC m_Form_countDifferent 15 (.iload_n 2) 1 16 := ⟨by decide +kernel, rfl⟩
theorem d_Form_countDifferent_16 : DC m_Form_countDifferent 16 .iaload 1 17 := ⟨by decide +kernel, rfl⟩
theorem d_Form_countDifferent_17 : DC m_Form_countDifferent 17 (.iload_n 2) 1 18 := ⟨by decide +kernel, rfl⟩
theorem d_Form_countDifferent_18 : DC m_Form_countDifferent 18 (.if_icmp .ne 7) 3 21 := ⟨by decide +kernel, rfl⟩
theorem d_Form_countDifferent_21 : DC m_Form_countDifferent 21 (.iconst 1) 1 22 := ⟨by decide +kernel, rfl⟩
theorem d_Form_countDifferent_22 : DC m_Form_countDifferent 22 (.goto 4) 3 25 := ⟨by decide +kernel, rfl⟩
theorem d_Form_countDifferent_25 : DC m_Form_countDifferent 25 (.iconst 0) 1 26 := ⟨by decide +kernel, rfl⟩
theorem d_Form_countDifferent_26 : DC m_Form_countDifferent 26 .iadd 1 27 := ⟨by decide +kernel, rfl⟩
theorem d_Form_countDifferent_27 : DC m_Form_countDifferent 27 (.istore_n 1) 1 28 := ⟨by decide +kernel, rfl⟩
theorem d_Form_countDifferent_28 : DC m_Form_countDifferent 28 (.iinc 2 1) 3 31 := ⟨by decide +kernel, rfl⟩
theorem d_Form_countDifferent_31 : DC m_Form_countDifferent 31 (.goto (-27)) 3 34 := ⟨by decide +kernel, rfl⟩
theorem d_Form_countDifferent_34 : DC m_Form_countDifferent 34 (.iload_n 1) 1 35 := ⟨by decide +kernel, rfl⟩
theorem d_Form_countDifferent_35 : DC m_Form_countDifferent 35 .ireturn 1 36 := ⟨by decide +kernel, rfl⟩
def f_Form_countDifferent_26 (n : Nat) (k_4 : Nat → Int32 → Int32 → MM → Option (Int32 × MM)) (x0 : Nat) (x2 : Int32) (s0 : Int32) (s1 : Int32) (M : MM) : Option (Int32 × MM) :=
  nm (α := Int32) (s0 + s1) fun y1 =>
  k_4 x0 y1 (x2 + 1) M
theorem t_Form_countDifferent_26 (n : Nat) {k_4 : Nat → Int32 → Int32 → MM → Option (Int32 × MM)} (hk_4 : ∀ (x0 : Nat) (x1 : Int32) (x2 : Int32) (M : MM) (z : Int32 × MM), k_4 x0 x1 x2 M = some z → EV m_Form_countDifferent (rm 1 0 0) (some (.int z.1)) z.2 0 0 4 [some (.ref x0), some (.int x1), some (.int x2)] [] M) (x0 : Nat) (x2 : Int32) (s0 : Int32) (s1 : Int32) (M : MM) (z : Int32 × MM) (h : f_Form_countDifferent_26 n k_4 x0 x2 s0 s1 M = some z) : EV m_Form_countDifferent (rm 1 0 0) (some (.int z.1)) z.2 0 0 26 [some (.ref x0), none, some (.int x2)] [.int s1, .int s0] M := by
  unfold f_Form_countDifferent_26 at h
  refine e_iadd d_Form_countDifferent_26 ?_
  obtain ⟨y1, ey1, h⟩ := nm_s h
  refine e_nameI ey1 ?_
  refine e_istore_n (l2 := [some (.ref x0), some (.int y1), some (.int x2)]) d_Form_countDifferent_27 rfl (okl rfl) rfl ?_
  refine e_iinc (v := x2 + 1) (l2 := [some (.ref x0), some (.int y1), some (.int (x2 + 1))]) d_Form_countDifferent_28 rfl rfl rfl (okl rfl) rfl ?_
  refine e_goto 4 d_Form_countDifferent_31 (by decide) ?_
  exact (hk_4 x0 y1 (x2 + 1) M z h).less (show LSub _ _ from ⟨rfl, ⟨rfl, ⟨rfl, trivial⟩⟩⟩)
def f_Form_countDifferent_4 (n : Nat) : Nat → Nat → Int32 → Int32 → MM → Option (Int32 × MM)
  | 0, _, _, _, _ => none
  | m + 1, x0, x1, x2, M =>
    if 8 ≤ x2 then
      some (x1, M)
    else
      (gR 4 5 x0 M).bind fun v3 =>
      (aI 100 v3 x2 M).bind fun v4 =>
      if v4 = x2 then
        f_Form_countDifferent_26 n (f_Form_countDifferent_4 n m) x0 x2 x1 1 M
      else
        f_Form_countDifferent_26 n (f_Form_countDifferent_4 n m) x0 x2 x1 0 M
theorem t_Form_countDifferent_4 (n : Nat) : ∀ (m : Nat) (x0 : Nat) (x1 : Int32) (x2 : Int32) (M : MM) (z : Int32 × MM), f_Form_countDifferent_4 n m x0 x1 x2 M = some z → EV m_Form_countDifferent (rm 1 0 0) (some (.int z.1)) z.2 0 0 4 [some (.ref x0), some (.int x1), some (.int x2)] [] M := by
  intro m
  induction m with
  | zero => intro x0 x1 x2 M z h; cases h
  | succ m ih =>
    intro x0 x1 x2 M z h
    rw [f_Form_countDifferent_4] at h
    refine e_iload_n d_Form_countDifferent_4 rfl ?_
    refine e_bipush (v := 8) d_Form_countDifferent_5 (by decide) ?_
    refine e_ic_ge 34 d_Form_countDifferent_7 (by decide) (fun c2 => ?_) (fun c2 => ?_)
    · replace h := ift c2 h
      refine e_iload_n d_Form_countDifferent_34 rfl ?_
      cases h
      exact e_iret d_Form_countDifferent_35 rfl (Nat.le_refl _) (Nat.le_refl _)
    · replace h := ifn c2 h
      refine e_iload_n d_Form_countDifferent_10 rfl ?_
      refine e_aload_n d_Form_countDifferent_11 rfl ?_
      obtain ⟨v3, hv3, h⟩ := bnd h
      refine e_getR d_Form_countDifferent_12 fl_Form_32 (fun _ _ _ => rfl) hv3 ?_
      refine e_iload_n d_Form_countDifferent_15 rfl ?_
      obtain ⟨v4, hv4, h⟩ := bnd h
      refine e_iald d_Form_countDifferent_16 hv4 ?_
      refine e_iload_n d_Form_countDifferent_17 rfl ?_
      refine e_ic_ne 25 d_Form_countDifferent_18 (by decide) (fun c5 => ?_) (fun c5 => ?_)
      · replace h := ifn c5 h
        refine e_iconst (v := 0) d_Form_countDifferent_25 (by decide) ?_
        exact (t_Form_countDifferent_26 n ih x0 x2 x1 0 M z h).less (show LSub _ _ from ⟨rfl, ⟨rfl, trivial⟩⟩)
      · replace h := ift c5 h
        refine e_iconst (v := 1) d_Form_countDifferent_21 (by decide) ?_
        refine e_goto 26 d_Form_countDifferent_22 (by decide) ?_
        exact (t_Form_countDifferent_26 n ih x0 x2 x1 1 M z h).less (show LSub _ _ from ⟨rfl, ⟨rfl, trivial⟩⟩)
def f_Form_countDifferent (n : Nat) (x0 : Nat) (M : MM) : Option (Int32 × MM) :=
  og 4 x0 M <|
  f_Form_countDifferent_4 n n x0 0 0 M
theorem fc_Form_countDifferent {n : Nat} {x0 : Nat} {M : MM} {z : Int32 × MM} (h : f_Form_countDifferent n x0 M = some z) : (M.1.2.1 x0).1 = 4 := by
  unfold f_Form_countDifferent at h
  exact (og_s h).1
theorem t_Form_countDifferent (n : Nat) (x0 : Nat) (M : MM) (z : Int32 × MM) (h : f_Form_countDifferent n x0 M = some z) : CT m_Form_countDifferent (rm 1 0 0) [.ref x0] M (some (.int z.1)) z.2 := by
  unfold f_Form_countDifferent at h
  obtain ⟨hthis, h⟩ := og_s h
  refine CT.of (ls := [some (.ref x0), none, none]) rfl (okp rfl) rfl ?_
  refine e_iconst (v := 0) d_Form_countDifferent_0 (by decide) ?_
  refine e_istore_n (l2 := [some (.ref x0), some (.int 0), none]) d_Form_countDifferent_1 rfl (okl rfl) rfl ?_
  refine e_iconst (v := 0) d_Form_countDifferent_2 (by decide) ?_
  refine e_istore_n (l2 := [some (.ref x0), some (.int 0), some (.int 0)]) d_Form_countDifferent_3 rfl (okl rfl) rfl ?_
  exact (t_Form_countDifferent_4 n n x0 0 0 M z h).less (show LSub _ _ from ⟨rfl, ⟨rfl, ⟨rfl, trivial⟩⟩⟩)
theorem d_Form_base_0 : DC m_Form_base 0 (.aload_n 0) 1 1 := ⟨by decide +kernel, rfl⟩
theorem d_Form_base_1 : DC m_Form_base 1 (.getfield 18) 3 4 := ⟨by decide +kernel, rfl⟩
theorem d_Form_base_4 : DC m_Form_base 4 (.iconst 0) 1 5 := ⟨by decide +kernel, rfl⟩
theorem d_Form_base_5 : DC m_Form_base 5 .aaload 1 6 := ⟨by decide +kernel, rfl⟩
theorem d_Form_base_6 : DC m_Form_base 6 .areturn 1 7 := ⟨by decide +kernel, rfl⟩
def f_Form_base (n : Nat) (x0 : Nat) (M : MM) : Option (Option Nat × MM) :=
  og 4 x0 M <|
  (gR 4 1 x0 M).bind fun v1 =>
  (aR 104 v1 0 M).bind fun v2 =>
  some (some v2, M)
theorem fc_Form_base {n : Nat} {x0 : Nat} {M : MM} {z : Option Nat × MM} (h : f_Form_base n x0 M = some z) : (M.1.2.1 x0).1 = 4 := by
  unfold f_Form_base at h
  exact (og_s h).1
theorem t_Form_base (n : Nat) (x0 : Nat) (M : MM) (z : Option Nat × MM) (h : f_Form_base n x0 M = some z) : CT m_Form_base (rm 1 0 0) [.ref x0] M (some (vr z.1)) z.2 := by
  unfold f_Form_base at h
  obtain ⟨hthis, h⟩ := og_s h
  refine CT.of (ls := [some (.ref x0)]) rfl (okp rfl) rfl ?_
  refine e_aload_n d_Form_base_0 rfl ?_
  obtain ⟨v1, hv1, h⟩ := bnd h
  refine e_getR d_Form_base_1 fl_Form_18 (fun _ _ _ => rfl) hv1 ?_
  refine e_iconst (v := 0) d_Form_base_4 (by decide) ?_
  obtain ⟨v2, hv2, h⟩ := bnd h
  refine e_aald (kd := 104) d_Form_base_5 (by decide) hv2 ?_
  cases h
  exact e_aret (r := some v2) d_Form_base_6 rfl (Or.inl ⟨_, rfl⟩) (Nat.le_refl _) (Nat.le_refl _)
theorem d_Form_imageThatIs_0 : DC m_Form_imageThatIs 0 (.iconst 0) 1 1 := ⟨by decide +kernel, rfl⟩
theorem d_Form_imageThatIs_1 : DC m_Form_imageThatIs 1 (.istore_n 2) 1 2 := ⟨by decide +kernel, rfl⟩
theorem d_Form_imageThatIs_2 : DC m_Form_imageThatIs 2 (.iload_n 2) 1 3 := ⟨by decide +kernel, rfl⟩
theorem d_Form_imageThatIs_3 : DC m_Form_imageThatIs 3 (.bipush 8) 2 5 := ⟨by decide +kernel, rfl⟩
theorem d_Form_imageThatIs_5 : DC m_Form_imageThatIs 5 (.if_icmp .ge 24) 3 8 := ⟨by decide +kernel, rfl⟩
theorem d_Form_imageThatIs_8 : DC m_Form_imageThatIs 8 (.aload_n 0) 1 9 := ⟨by decide +kernel, rfl⟩
theorem d_Form_imageThatIs_9 : DC m_Form_imageThatIs 9 (.getfield 18) 3 12 := ⟨by decide +kernel, rfl⟩
theorem d_Form_imageThatIs_12 : DC m_Form_imageThatIs 12 (.iload_n 2) 1 13 := ⟨by decide +kernel, rfl⟩
theorem d_Form_imageThatIs_13 : DC m_Form_imageThatIs 13 .aaload 1 14 := ⟨by decide +kernel, rfl⟩
theorem d_Form_imageThatIs_14 : DC m_Form_imageThatIs 14 (.aload_n 1) 1 15 := ⟨by decide +kernel, rfl⟩
theorem d_Form_imageThatIs_15 : DC m_Form_imageThatIs 15 (.invokevirtual 69) 3 18 := ⟨by decide +kernel, rfl⟩
theorem d_Form_imageThatIs_18 : DC m_Form_imageThatIs 18 (.ifCond .eq 5) 3 21 := ⟨by decide +kernel, rfl⟩
theorem d_Form_imageThatIs_21 : DC m_Form_imageThatIs 21 (.iload_n 2) 1 22 := ⟨by decide +kernel, rfl⟩
theorem d_Form_imageThatIs_22 : DC m_Form_imageThatIs 22 .ireturn 1 23 := ⟨by decide +kernel, rfl⟩
theorem d_Form_imageThatIs_23 : DC m_Form_imageThatIs 23 (.iinc 2 1) 3 26 := ⟨by decide +kernel, rfl⟩
theorem d_Form_imageThatIs_26 : DC m_Form_imageThatIs 26 (.goto (-24)) 3 29 := ⟨by decide +kernel, rfl⟩
theorem d_Form_imageThatIs_29 : DC m_Form_imageThatIs 29 (.bipush (-2)) 2 31 := ⟨by decide +kernel, rfl⟩
theorem d_Form_imageThatIs_31 : DC m_Form_imageThatIs 31 .ireturn 1 32 := ⟨by decide +kernel, rfl⟩
def f_Form_imageThatIs_2 (n : Nat) : Nat → Nat → Nat → Int32 → MM → Option (Int32 × MM)
  | 0, _, _, _, _ => none
  | m + 1, x0, x1, x2, M =>
    if 8 ≤ x2 then
      some ((-2), M)
    else
      (gR 4 1 x0 M).bind fun v2 =>
      (aR 104 v2 x2 M).bind fun v3 =>
      (f_Shape_isSame n v3 x1 M).bind fun p4 =>
      if p4.1 = 0 then
        f_Form_imageThatIs_2 n m x0 x1 (x2 + 1) p4.2
      else
        some (x2, p4.2)
theorem t_Form_imageThatIs_2 (n : Nat) : ∀ (m : Nat) (x0 : Nat) (x1 : Nat) (x2 : Int32) (M : MM) (z : Int32 × MM), f_Form_imageThatIs_2 n m x0 x1 x2 M = some z → EV m_Form_imageThatIs (rm 2 0 0) (some (.int z.1)) z.2 0 0 2 [some (.ref x0), some (.ref x1), some (.int x2)] [] M := by
  intro m
  induction m with
  | zero => intro x0 x1 x2 M z h; cases h
  | succ m ih =>
    intro x0 x1 x2 M z h
    rw [f_Form_imageThatIs_2] at h
    refine e_iload_n d_Form_imageThatIs_2 rfl ?_
    refine e_bipush (v := 8) d_Form_imageThatIs_3 (by decide) ?_
    refine e_ic_ge 29 d_Form_imageThatIs_5 (by decide) (fun c1 => ?_) (fun c1 => ?_)
    · replace h := ift c1 h
      refine e_bipush (v := (-2)) d_Form_imageThatIs_29 (by decide) ?_
      cases h
      exact e_iret d_Form_imageThatIs_31 rfl (Nat.le_refl _) (Nat.le_refl _)
    · replace h := ifn c1 h
      refine e_aload_n d_Form_imageThatIs_8 rfl ?_
      obtain ⟨v2, hv2, h⟩ := bnd h
      refine e_getR d_Form_imageThatIs_9 fl_Form_18 (fun _ _ _ => rfl) hv2 ?_
      refine e_iload_n d_Form_imageThatIs_12 rfl ?_
      obtain ⟨v3, hv3, h⟩ := bnd h
      refine e_aald (kd := 104) d_Form_imageThatIs_13 (by decide) hv3 ?_
      refine e_aload_n d_Form_imageThatIs_14 rfl ?_
      obtain ⟨p4, hp4, h⟩ := bnd h
      refine e_cVi (mt1 := m_Shape_isSame) (As := [.ref x1]) (st := []) d_Form_imageThatIs_15 ml_Form_69 mv_Shape_isSame (t_Shape_isSame n v3 x1 M p4 hp4) (fc_Shape_isSame hp4) rfl rfl rfl (okp rfl) (okp rfl) (okp rfl) (Nat.le_refl _) (Nat.le_refl _) ?_
      refine e_if_eq 23 d_Form_imageThatIs_18 (by decide) (fun c5 => ?_) (fun c5 => ?_)
      · replace h := ift c5 h
        refine e_iinc (v := x2 + 1) (l2 := [some (.ref x0), some (.ref x1), some (.int (x2 + 1))]) d_Form_imageThatIs_23 rfl rfl rfl (okl rfl) rfl ?_
        refine e_goto 2 d_Form_imageThatIs_26 (by decide) ?_
        exact (ih x0 x1 (x2 + 1) p4.2 z h).less (show LSub _ _ from ⟨rfl, ⟨rfl, ⟨rfl, trivial⟩⟩⟩)
      · replace h := ifn c5 h
        refine e_iload_n d_Form_imageThatIs_21 rfl ?_
        cases h
        exact e_iret d_Form_imageThatIs_22 rfl (Nat.le_refl _) (Nat.le_refl _)
def f_Form_imageThatIs (n : Nat) (x0 : Nat) (x1 : Nat) (M : MM) : Option (Int32 × MM) :=
  og 4 x0 M <|
  f_Form_imageThatIs_2 n n x0 x1 0 M
theorem fc_Form_imageThatIs {n : Nat} {x0 : Nat} {x1 : Nat} {M : MM} {z : Int32 × MM} (h : f_Form_imageThatIs n x0 x1 M = some z) : (M.1.2.1 x0).1 = 4 := by
  unfold f_Form_imageThatIs at h
  exact (og_s h).1
theorem t_Form_imageThatIs (n : Nat) (x0 : Nat) (x1 : Nat) (M : MM) (z : Int32 × MM) (h : f_Form_imageThatIs n x0 x1 M = some z) : CT m_Form_imageThatIs (rm 2 0 0) [.ref x0, .ref x1] M (some (.int z.1)) z.2 := by
  unfold f_Form_imageThatIs at h
  obtain ⟨hthis, h⟩ := og_s h
  refine CT.of (ls := [some (.ref x0), some (.ref x1), none]) rfl (okp rfl) rfl ?_
  refine e_iconst (v := 0) d_Form_imageThatIs_0 (by decide) ?_
  refine e_istore_n (l2 := [some (.ref x0), some (.ref x1), some (.int 0)]) d_Form_imageThatIs_1 rfl (okl rfl) rfl ?_
  exact (t_Form_imageThatIs_2 n n x0 x1 0 M z h).less (show LSub _ _ from ⟨rfl, ⟨rfl, ⟨rfl, trivial⟩⟩⟩)
theorem d_Form_staysOn_0 : DC m_Form_staysOn 0 (.iload_n 2) 1 1 := ⟨by decide +kernel, rfl⟩
theorem d_Form_staysOn_1 : DC m_Form_staysOn 1 (.ifCond .lt 37) 3 4 := ⟨by decide +kernel, rfl⟩
theorem d_Form_staysOn_4 : DC m_Form_staysOn 4 (.iload_n 3) 1 5 := ⟨by decide +kernel, rfl⟩
theorem d_Form_staysOn_5 : DC m_Form_staysOn 5 (.ifCond .lt 33) 3 8 := ⟨by decide +kernel, rfl⟩
theorem d_Form_staysOn_8 : DC m_Form_staysOn 8 (.iload_n 2) 1 9 := ⟨by decide +kernel, rfl⟩
theorem d_Form_staysOn_9 : DC m_Form_staysOn 9 (.bipush 8) 2 11 := ⟨by decide +kernel, rfl⟩
theorem d_Form_staysOn_11 : DC m_Form_staysOn 11 (.aload_n 0) 1 12 := ⟨by decide +kernel, rfl⟩
theorem d_Form_staysOn_12 : DC m_Form_staysOn 12 (.getfield 26) 3 15 := ⟨by decide +kernel, rfl⟩
theorem d_Form_staysOn_15 : DC m_Form_staysOn 15 (.iload_n 1) 1 16 := ⟨by decide +kernel, rfl⟩
theorem d_Form_staysOn_16 : DC m_Form_staysOn 16 .iaload 1 17 := ⟨by decide +kernel, rfl⟩
theorem d_Form_staysOn_17 : DC m_Form_staysOn 17 .isub 1 18 := ⟨by decide +kernel, rfl⟩
theorem d_Form_staysOn_18 : DC m_Form_staysOn 18 (.if_icmp .gt 20) 3 21 := ⟨by decide +kernel, rfl⟩
theorem d_Form_staysOn_21 : DC m_Form_staysOn 21 (.iload_n 3) 1 22 := ⟨by decide +kernel, rfl⟩
theorem d_Form_staysOn_22 : DC m_Form_staysOn 22 (.bipush 8) 2 24 := ⟨by decide +kernel, rfl⟩
theorem d_Form_staysOn_24 : DC m_Form_staysOn 24 (.aload_n 0) 1 25 := ⟨by decide +kernel, rfl⟩
theorem d_Form_staysOn_25 : DC m_Form_staysOn 25 (.getfield 29) 3 28 := ⟨by decide +kernel, rfl⟩
theorem d_Form_staysOn_28 : DC m_Form_staysOn 28 (.iload_n 1) 1 29 := ⟨by decide +kernel, rfl⟩
theorem d_Form_staysOn_29 : DC m_Form_staysOn 29 .iaload 1 30 := ⟨by decide +kernel, rfl⟩
theorem d_Form_staysOn_30 : DC m_Form_staysOn 30 .isub 1 31 := ⟨by decide +kernel, rfl⟩
theorem d_Form_staysOn_31 : DC m_Form_staysOn 31 (.if_icmp .gt 7) 3 34 := ⟨by decide +kernel, rfl⟩
theorem d_Form_staysOn_34 : DC m_Form_staysOn 34 (.iconst 1) 1 35 := ⟨by decide +kernel, rfl⟩
theorem d_Form_staysOn_35 : DC m_Form_staysOn 35 (.goto 4) 3 38 := ⟨by decide +kernel, rfl⟩
theorem d_Form_staysOn_38 : DC m_Form_staysOn 38 (.iconst 0) 1 39 := ⟨by decide +kernel, rfl⟩
theorem d_Form_staysOn_39 : DC m_Form_staysOn 39 .ireturn 1 40 := ⟨by decide +kernel, rfl⟩
def f_Form_staysOn (n : Nat) (x0 : Nat) (x1 : Int32) (x2 : Int32) (x3 : Int32) (M : MM) : Option (Int32 × MM) :=
  og 4 x0 M <|
  if x2 < 0 then
    some (0, M)
  else
    if x3 < 0 then
      some (0, M)
    else
      (gR 4 3 x0 M).bind fun v3 =>
      (aI 100 v3 x1 M).bind fun v4 =>
      if (8 - v4) < x2 then
        some (0, M)
      else
        (gR 4 4 x0 M).bind fun v6 =>
        (aI 100 v6 x1 M).bind fun v7 =>
        if (8 - v7) < x3 then
          some (0, M)
        else
          some (1, M)
theorem fc_Form_staysOn {n : Nat} {x0 : Nat} {x1 : Int32} {x2 : Int32} {x3 : Int32} {M : MM} {z : Int32 × MM} (h : f_Form_staysOn n x0 x1 x2 x3 M = some z) : (M.1.2.1 x0).1 = 4 := by
  unfold f_Form_staysOn at h
  exact (og_s h).1
theorem t_Form_staysOn (n : Nat) (x0 : Nat) (x1 : Int32) (x2 : Int32) (x3 : Int32) (M : MM) (z : Int32 × MM) (h : f_Form_staysOn n x0 x1 x2 x3 M = some z) : CT m_Form_staysOn (rm 1 0 0) [.ref x0, .int x1, .int x2, .int x3] M (some (.int z.1)) z.2 := by
  unfold f_Form_staysOn at h
  obtain ⟨hthis, h⟩ := og_s h
  refine CT.of (ls := [some (.ref x0), some (.int x1), some (.int x2), some (.int x3)]) rfl (okp rfl) rfl ?_
  refine e_iload_n d_Form_staysOn_0 rfl ?_
  refine e_if_lt 38 d_Form_staysOn_1 (by decide) (fun c1 => ?_) (fun c1 => ?_)
  · replace h := ift c1 h
    refine e_iconst (v := 0) d_Form_staysOn_38 (by decide) ?_
    cases h
    exact e_zret (ty := .boolean) d_Form_staysOn_39 rfl narZ0 (Nat.le_refl _) (Nat.le_refl _)
  · replace h := ifn c1 h
    refine e_iload_n d_Form_staysOn_4 rfl ?_
    refine e_if_lt 38 d_Form_staysOn_5 (by decide) (fun c2 => ?_) (fun c2 => ?_)
    · replace h := ift c2 h
      refine e_iconst (v := 0) d_Form_staysOn_38 (by decide) ?_
      cases h
      exact e_zret (ty := .boolean) d_Form_staysOn_39 rfl narZ0 (Nat.le_refl _) (Nat.le_refl _)
    · replace h := ifn c2 h
      refine e_iload_n d_Form_staysOn_8 rfl ?_
      refine e_bipush (v := 8) d_Form_staysOn_9 (by decide) ?_
      refine e_aload_n d_Form_staysOn_11 rfl ?_
      obtain ⟨v3, hv3, h⟩ := bnd h
      refine e_getR d_Form_staysOn_12 fl_Form_26 (fun _ _ _ => rfl) hv3 ?_
      refine e_iload_n d_Form_staysOn_15 rfl ?_
      obtain ⟨v4, hv4, h⟩ := bnd h
      refine e_iald d_Form_staysOn_16 hv4 ?_
      refine e_isub d_Form_staysOn_17 ?_
      refine e_ic_gt 38 d_Form_staysOn_18 (by decide) (fun c5 => ?_) (fun c5 => ?_)
      · replace h := ift c5 h
        refine e_iconst (v := 0) d_Form_staysOn_38 (by decide) ?_
        cases h
        exact e_zret (ty := .boolean) d_Form_staysOn_39 rfl narZ0 (Nat.le_refl _) (Nat.le_refl _)
      · replace h := ifn c5 h
        refine e_iload_n d_Form_staysOn_21 rfl ?_
        refine e_bipush (v := 8) d_Form_staysOn_22 (by decide) ?_
        refine e_aload_n d_Form_staysOn_24 rfl ?_
        obtain ⟨v6, hv6, h⟩ := bnd h
        refine e_getR d_Form_staysOn_25 fl_Form_29 (fun _ _ _ => rfl) hv6 ?_
        refine e_iload_n d_Form_staysOn_28 rfl ?_
        obtain ⟨v7, hv7, h⟩ := bnd h
        refine e_iald d_Form_staysOn_29 hv7 ?_
        refine e_isub d_Form_staysOn_30 ?_
        refine e_ic_gt 38 d_Form_staysOn_31 (by decide) (fun c8 => ?_) (fun c8 => ?_)
        · replace h := ift c8 h
          refine e_iconst (v := 0) d_Form_staysOn_38 (by decide) ?_
          cases h
          exact e_zret (ty := .boolean) d_Form_staysOn_39 rfl narZ0 (Nat.le_refl _) (Nat.le_refl _)
        · replace h := ifn c8 h
          refine e_iconst (v := 1) d_Form_staysOn_34 (by decide) ?_
          refine e_goto 39 d_Form_staysOn_35 (by decide) ?_
          cases h
          exact e_zret (ty := .boolean) d_Form_staysOn_39 rfl narZ1 (Nat.le_refl _) (Nat.le_refl _)
