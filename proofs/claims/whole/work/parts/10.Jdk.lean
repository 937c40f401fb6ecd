theorem d_Integer_bitCount_0 : DC m_Integer_bitCount 0 (.iload_n 0) 1 1 := ⟨by decide +kernel, rfl⟩
theorem d_Integer_bitCount_1 : DC m_Integer_bitCount 1 (.iload_n 0) 1 2 := ⟨by decide +kernel, rfl⟩
theorem d_Integer_bitCount_2 : DC m_Integer_bitCount 2 (.iconst 1) 1 3 := ⟨by decide +kernel, rfl⟩
theorem d_Integer_bitCount_3 : DC m_Integer_bitCount 3 .iushr 1 4 := ⟨by decide +kernel, rfl⟩
theorem d_Integer_bitCount_4 : DC m_Integer_bitCount 4 (.ldc_w 265) 3 7 := ⟨by decide +kernel, rfl⟩
theorem d_Integer_bitCount_7 : DC m_Integer_bitCount 7 .iand 1 8 := ⟨by decide +kernel, rfl⟩
theorem d_Integer_bitCount_8 : DC m_Integer_bitCount 8 .isub 1 9 := ⟨by decide +kernel, rfl⟩
theorem d_Integer_bitCount_9 : DC m_Integer_bitCount 9 (.istore_n 0) 1 10 := ⟨by decide +kernel, rfl⟩
theorem d_Integer_bitCount_10 : DC m_Integer_bitCount 10 (.iload_n 0) 1 11 := ⟨by decide +kernel, rfl⟩
theorem d_Integer_bitCount_11 : DC m_Integer_bitCount 11 (.ldc_w 266) 3 14 := ⟨by decide +kernel, rfl⟩
theorem d_Integer_bitCount_14 : DC m_Integer_bitCount 14 .iand 1 15 := ⟨by decide +kernel, rfl⟩
theorem d_Integer_bitCount_15 : DC m_Integer_bitCount 15 (.iload_n 0) 1 16 := ⟨by decide +kernel, rfl⟩
theorem d_Integer_bitCount_16 : DC m_Integer_bitCount 16 (.iconst 2) 1 17 := ⟨by decide +kernel, rfl⟩
theorem d_Integer_bitCount_17 : DC m_Integer_bitCount 17 .iushr 1 18 := ⟨by decide +kernel, rfl⟩
theorem d_Integer_bitCount_18 : DC m_Integer_bitCount 18 (.ldc_w 266) 3 21 := ⟨by decide +kernel, rfl⟩
theorem d_Integer_bitCount_21 : DC m_Integer_bitCount 21 .iand 1 22 := ⟨by decide +kernel, rfl⟩
theorem d_Integer_bitCount_22 : DC m_Integer_bitCount 22 .iadd 1 23 := ⟨by decide +kernel, rfl⟩
theorem d_Integer_bitCount_23 : DC m_Integer_bitCount 23 (.istore_n 0) 1 24 := ⟨by decide +kernel, rfl⟩
theorem d_Integer_bitCount_24 : DC m_Integer_bitCount 24 (.iload_n 0) 1 25 := ⟨by decide +kernel, rfl⟩
theorem d_Integer_bitCount_25 : DC m_Integer_bitCount 25 (.iload_n 0) 1 26 := ⟨by decide +kernel, rfl⟩
theorem d_Integer_bitCount_26 : DC m_Integer_bitCount 26 (.iconst 4) 1 27 := ⟨by decide +kernel, rfl⟩
theorem d_Integer_bitCount_27 : DC m_Integer_bitCount 27 .iushr 1 28 := ⟨by decide +kernel, rfl⟩
theorem d_Integer_bitCount_28 : DC m_Integer_bitCount 28 .iadd 1 29 := ⟨by decide +kernel, rfl⟩
theorem d_Integer_bitCount_29 : DC m_Integer_bitCount 29 (.ldc_w 267) 3 32 := ⟨by decide +kernel, rfl⟩
theorem d_Integer_bitCount_32 : DC m_Integer_bitCount 32 .iand 1 33 := ⟨by decide +kernel, rfl⟩
theorem d_Integer_bitCount_33 : DC m_Integer_bitCount 33 (.istore_n 0) 1 34 := ⟨by decide +kernel, rfl⟩
theorem d_Integer_bitCount_34 : DC m_Integer_bitCount 34 (.iload_n 0) 1 35 := ⟨by decide +kernel, rfl⟩
theorem d_Integer_bitCount_35 : DC m_Integer_bitCount 35 (.iload_n 0) 1 36 := ⟨by decide +kernel, rfl⟩
theorem d_Integer_bitCount_36 : DC m_Integer_bitCount 36 (.bipush 8) 2 38 := ⟨by decide +kernel, rfl⟩
theorem d_Integer_bitCount_38 : DC m_Integer_bitCount 38 .iushr 1 39 := ⟨by decide +kernel, rfl⟩
theorem d_Integer_bitCount_39 : DC m_Integer_bitCount 39 .iadd 1 40 := ⟨by decide +kernel, rfl⟩
theorem d_Integer_bitCount_40 : DC m_Integer_bitCount 40 (.istore_n 0) 1 41 := ⟨by decide +kernel, rfl⟩
theorem d_Integer_bitCount_41 : DC m_Integer_bitCount 41 (.iload_n 0) 1 42 := ⟨by decide +kernel, rfl⟩
theorem d_Integer_bitCount_42 : DC m_Integer_bitCount 42 (.iload_n 0) 1 43 := ⟨by decide +kernel, rfl⟩
theorem d_Integer_bitCount_43 : DC m_Integer_bitCount 43 (.bipush 16) 2 45 := ⟨by decide +kernel, rfl⟩
theorem d_Integer_bitCount_45 : DC m_Integer_bitCount 45 .iushr 1 46 := ⟨by decide +kernel, rfl⟩
theorem d_Integer_bitCount_46 : DC m_Integer_bitCount 46 .iadd 1 47 := ⟨by decide +kernel, rfl⟩
theorem d_Integer_bitCount_47 : DC m_Integer_bitCount 47 (.istore_n 0) 1 48 := ⟨by decide +kernel, rfl⟩
theorem d_Integer_bitCount_48 : DC m_Integer_bitCount 48 (.iload_n 0) 1 49 := ⟨by decide +kernel, rfl⟩
theorem d_Integer_bitCount_49 : DC m_Integer_bitCount 49 (.bipush 63) 2 51 := ⟨by decide +kernel, rfl⟩
theorem d_Integer_bitCount_51 : DC m_Integer_bitCount 51 .iand 1 52 := ⟨by decide +kernel, rfl⟩
theorem d_Integer_bitCount_52 : DC m_Integer_bitCount 52 .ireturn 1 53 := ⟨by decide +kernel, rfl⟩
def f_Integer_bitCount (n : Nat) (x0 : Int32) (M : MM) : Option (Int32 × MM) :=
  nm (α := Int32) (x0 - ((ushr x0 1) &&& 1431655765)) fun y1 =>
  nm (α := Int32) ((y1 &&& 858993459) + ((ushr y1 2) &&& 858993459)) fun y2 =>
  nm (α := Int32) ((y2 + (ushr y2 4)) &&& 252645135) fun y3 =>
  nm (α := Int32) (y3 + (ushr y3 8)) fun y4 =>
  nm (α := Int32) (y4 + (ushr y4 16)) fun y5 =>
  some ((y5 &&& 63), M)
theorem t_Integer_bitCount (n : Nat) (x0 : Int32) (M : MM) (z : Int32 × MM) (h : f_Integer_bitCount n x0 M = some z) : CT m_Integer_bitCount (rm 1 0 0) [.int x0] M (some (.int z.1)) z.2 := by
  unfold f_Integer_bitCount at h
  refine CT.of (ls := [some (.int x0)]) (by decide) (okp rfl) rfl ?_
  refine e_iload_n d_Integer_bitCount_0 rfl ?_
  refine e_iload_n d_Integer_bitCount_1 rfl ?_
  refine e_iconst (v := 1) d_Integer_bitCount_2 (by decide) ?_
  refine e_iushr d_Integer_bitCount_3 ?_
  refine e_ldcw (v := 1431655765) d_Integer_bitCount_4 kc_Integer_265 ?_
  refine e_iand d_Integer_bitCount_7 ?_
  refine e_isub d_Integer_bitCount_8 ?_
  obtain ⟨y1, ey1, h⟩ := nm_s h
  refine e_nameI ey1 ?_
  refine e_istore_n (l2 := [some (.int y1)]) d_Integer_bitCount_9 rfl (okl rfl) rfl ?_
  refine e_iload_n d_Integer_bitCount_10 rfl ?_
  refine e_ldcw (v := 858993459) d_Integer_bitCount_11 kc_Integer_266 ?_
  refine e_iand d_Integer_bitCount_14 ?_
  refine e_iload_n d_Integer_bitCount_15 rfl ?_
  refine e_iconst (v := 2) d_Integer_bitCount_16 (by decide) ?_
  refine e_iushr d_Integer_bitCount_17 ?_
  refine e_ldcw (v := 858993459) d_Integer_bitCount_18 kc_Integer_266 ?_
  refine e_iand d_Integer_bitCount_21 ?_
  refine e_iadd d_Integer_bitCount_22 ?_
  obtain ⟨y2, ey2, h⟩ := nm_s h
  refine e_nameI ey2 ?_
  refine e_istore_n (l2 := [some (.int y2)]) d_Integer_bitCount_23 rfl (okl rfl) rfl ?_
  refine e_iload_n d_Integer_bitCount_24 rfl ?_
  refine e_iload_n d_Integer_bitCount_25 rfl ?_
  refine e_iconst (v := 4) d_Integer_bitCount_26 (by decide) ?_
  refine e_iushr d_Integer_bitCount_27 ?_
  refine e_iadd d_Integer_bitCount_28 ?_
  refine e_ldcw (v := 252645135) d_Integer_bitCount_29 kc_Integer_267 ?_
  refine e_iand d_Integer_bitCount_32 ?_
  obtain ⟨y3, ey3, h⟩ := nm_s h
  refine e_nameI ey3 ?_
  refine e_istore_n (l2 := [some (.int y3)]) d_Integer_bitCount_33 rfl (okl rfl) rfl ?_
  refine e_iload_n d_Integer_bitCount_34 rfl ?_
  refine e_iload_n d_Integer_bitCount_35 rfl ?_
  refine e_bipush (v := 8) d_Integer_bitCount_36 (by decide) ?_
  refine e_iushr d_Integer_bitCount_38 ?_
  refine e_iadd d_Integer_bitCount_39 ?_
  obtain ⟨y4, ey4, h⟩ := nm_s h
  refine e_nameI ey4 ?_
  refine e_istore_n (l2 := [some (.int y4)]) d_Integer_bitCount_40 rfl (okl rfl) rfl ?_
  refine e_iload_n d_Integer_bitCount_41 rfl ?_
  refine e_iload_n d_Integer_bitCount_42 rfl ?_
  refine e_bipush (v := 16) d_Integer_bitCount_43 (by decide) ?_
  refine e_iushr d_Integer_bitCount_45 ?_
  refine e_iadd d_Integer_bitCount_46 ?_
  obtain ⟨y5, ey5, h⟩ := nm_s h
  refine e_nameI ey5 ?_
  refine e_istore_n (l2 := [some (.int y5)]) d_Integer_bitCount_47 rfl (okl rfl) rfl ?_
  refine e_iload_n d_Integer_bitCount_48 rfl ?_
  refine e_bipush (v := 63) d_Integer_bitCount_49 (by decide) ?_
  refine e_iand d_Integer_bitCount_51 ?_
  cases h
  exact e_iret d_Integer_bitCount_52 rfl (Nat.le_refl _) (Nat.le_refl _)
theorem d_Str_isLatin1_0 : DC m_Str_isLatin1 0 (.getstatic 38) 3 3 := ⟨by decide +kernel, rfl⟩
theorem d_Str_isLatin1_3 : DC m_Str_isLatin1 3 (.ifCond .eq 14) 3 6 := ⟨by decide +kernel, rfl⟩
theorem d_Str_isLatin1_6 : DC m_Str_isLatin1 6 (.aload_n 0) 1 7 := ⟨by decide +kernel, rfl⟩
theorem d_Str_isLatin1_7 : DC m_Str_isLatin1 7 (.getfield 15) 3 10 := ⟨by decide +kernel, rfl⟩
theorem d_Str_isLatin1_10 : DC m_Str_isLatin1 10 (.ifCond .ne 7) 3 13 := ⟨by decide +kernel, rfl⟩
theorem d_Str_isLatin1_13 : DC m_Str_isLatin1 13 (.iconst 1) 1 14 := ⟨by decide +kernel, rfl⟩
theorem d_Str_isLatin1_14 : DC m_Str_isLatin1 14 (.goto 4) 3 17 := ⟨by decide +kernel, rfl⟩
theorem d_Str_isLatin1_17 : DC m_Str_isLatin1 17 (.iconst 0) 1 18 := ⟨by decide +kernel, rfl⟩
theorem d_Str_isLatin1_18 : DC m_Str_isLatin1 18 .ireturn 1 19 := ⟨by decide +kernel, rfl⟩
def f_Str_isLatin1 (n : Nat) (x0 : Nat) (M : MM) : Option (Int32 × MM) :=
  xg x0 <|
  xg x0 <|
  some (1, M)
theorem fc_Str_isLatin1 {n : Nat} {x0 : Nat} {M : MM} {z : Int32 × MM} (h : f_Str_isLatin1 n x0 M = some z) : x0 < 2 := by
  unfold f_Str_isLatin1 at h
  exact (xg_s h).1
theorem t_Str_isLatin1 (n : Nat) (x0 : Nat) (M : MM) (z : Int32 × MM) (h : f_Str_isLatin1 n x0 M = some z) : CT m_Str_isLatin1 (rm 1 0 0) [.retAddr x0] M (some (.int z.1)) z.2 := by
  unfold f_Str_isLatin1 at h
  obtain ⟨hthis, h⟩ := xg_s h
  refine CT.of (ls := [some (.retAddr x0)]) (by decide) (okp rfl) rfl ?_
  refine e_getCompact d_Str_isLatin1_0 fs_Str_38 ?_
  refine e_if_eq 17 d_Str_isLatin1_3 (by decide) (fun c9 => absurd c9 (by decide)) (fun _ => ?_)
  refine e_aload_nX d_Str_isLatin1_6 rfl ?_
  obtain ⟨hx, h⟩ := xg_s h
  refine e_getXc d_Str_isLatin1_7 fs_Str_15 hx ?_
  refine e_if_ne 17 d_Str_isLatin1_10 (by decide) (fun c9 => absurd c9 (by decide)) (fun _ => ?_)
  refine e_iconst (v := 1) d_Str_isLatin1_13 (by decide) ?_
  refine e_goto 18 d_Str_isLatin1_14 (by decide) ?_
  cases h
  exact e_zret (ty := .boolean) d_Str_isLatin1_18 rfl narZ1 (Nat.le_refl _) (Nat.le_refl _)
theorem d_Str_coder_0 : DC m_Str_coder 0 (.getstatic 38) 3 3 := ⟨by decide +kernel, rfl⟩
theorem d_Str_coder_3 : DC m_Str_coder 3 (.ifCond .eq 10) 3 6 := ⟨by decide +kernel, rfl⟩
theorem d_Str_coder_6 : DC m_Str_coder 6 (.aload_n 0) 1 7 := ⟨by decide +kernel, rfl⟩
theorem d_Str_coder_7 : DC m_Str_coder 7 (.getfield 15) 3 10 := ⟨by decide +kernel, rfl⟩
theorem d_Str_coder_10 : DC m_Str_coder 10 (.goto 4) 3 13 := ⟨by decide +kernel, rfl⟩
theorem d_Str_coder_13 : DC m_Str_coder 13 (.iconst 1) 1 14 := ⟨by decide +kernel, rfl⟩
theorem d_Str_coder_14 : DC m_Str_coder 14 .ireturn 1 15 := ⟨by decide +kernel, rfl⟩
def f_Str_coder (n : Nat) (x0 : Nat) (M : MM) : Option (Int32 × MM) :=
  xg x0 <|
  xg x0 <|
  rg .byte 0 (some (0, M))
theorem fc_Str_coder {n : Nat} {x0 : Nat} {M : MM} {z : Int32 × MM} (h : f_Str_coder n x0 M = some z) : x0 < 2 := by
  unfold f_Str_coder at h
  exact (xg_s h).1
theorem t_Str_coder (n : Nat) (x0 : Nat) (M : MM) (z : Int32 × MM) (h : f_Str_coder n x0 M = some z) : CT m_Str_coder (rm 1 0 0) [.retAddr x0] M (some (.int z.1)) z.2 := by
  unfold f_Str_coder at h
  obtain ⟨hthis, h⟩ := xg_s h
  refine CT.of (ls := [some (.retAddr x0)]) (by decide) (okp rfl) rfl ?_
  refine e_getCompact d_Str_coder_0 fs_Str_38 ?_
  refine e_if_eq 13 d_Str_coder_3 (by decide) (fun c9 => absurd c9 (by decide)) (fun _ => ?_)
  refine e_aload_nX d_Str_coder_6 rfl ?_
  obtain ⟨hx, h⟩ := xg_s h
  refine e_getXc d_Str_coder_7 fs_Str_15 hx ?_
  refine e_goto 14 d_Str_coder_10 (by decide) ?_
  obtain ⟨hz, h⟩ := rg_s h
  cases h
  exact e_zret (ty := .byte) d_Str_coder_14 rfl hz (Nat.le_refl _) (Nat.le_refl _)
theorem d_Str_length_0 : DC m_Str_length 0 (.aload_n 0) 1 1 := ⟨by decide +kernel, rfl⟩
theorem d_Str_length_1 : DC m_Str_length 1 (.getfield 9) 3 4 := ⟨by decide +kernel, rfl⟩
theorem d_Str_length_4 : DC m_Str_length 4 .arraylength 1 5 := ⟨by decide +kernel, rfl⟩
theorem d_Str_length_5 : DC m_Str_length 5 (.aload_n 0) 1 6 := ⟨by decide +kernel, rfl⟩
theorem d_Str_length_6 : DC m_Str_length 6 (.invokevirtual 335) 3 9 := ⟨by decide +kernel, rfl⟩
theorem d_Str_length_9 : DC m_Str_length 9 .ishr 1 10 := ⟨by decide +kernel, rfl⟩
theorem d_Str_length_10 : DC m_Str_length 10 .ireturn 1 11 := ⟨by decide +kernel, rfl⟩
def f_Str_length (n : Nat) (x0 : Nat) (M : MM) : Option (Int32 × MM) :=
  xg x0 <|
  xg x0 <|
  (xN (x0 + 2)).bind fun v1 =>
  (f_Str_coder n x0 M).bind fun p2 =>
  some ((ishr v1 p2.1), p2.2)
theorem fc_Str_length {n : Nat} {x0 : Nat} {M : MM} {z : Int32 × MM} (h : f_Str_length n x0 M = some z) : x0 < 2 := by
  unfold f_Str_length at h
  exact (xg_s h).1
theorem t_Str_length (n : Nat) (x0 : Nat) (M : MM) (z : Int32 × MM) (h : f_Str_length n x0 M = some z) : CT m_Str_length (rm 2 0 0) [.retAddr x0] M (some (.int z.1)) z.2 := by
  unfold f_Str_length at h
  obtain ⟨hthis, h⟩ := xg_s h
  refine CT.of (ls := [some (.retAddr x0)]) (by decide) (okp rfl) rfl ?_
  refine e_aload_nX d_Str_length_0 rfl ?_
  obtain ⟨hx, h⟩ := xg_s h
  refine e_getXv d_Str_length_1 fs_Str_9 hx ?_
  obtain ⟨v1, hv1, h⟩ := bnd h
  refine e_alenX d_Str_length_4 hv1 ?_
  refine e_aload_nX d_Str_length_5 rfl ?_
  obtain ⟨p2, hp2, h⟩ := bnd h
  refine e_cVXi (mt1 := m_Str_coder) (As := []) (st := [.int v1]) d_Str_length_6 ml_Str_335 mv_Str_coder (t_Str_coder n x0 M p2 hp2) (fc_Str_coder hp2) rfl rfl rfl (okp rfl) (okp rfl) (okp rfl) (Nat.le_refl _) (Nat.le_refl _) ?_
  refine e_ishr d_Str_length_9 ?_
  cases h
  exact e_iret d_Str_length_10 rfl (Nat.le_refl _) (Nat.le_refl _)
theorem d_Pre_checkIndex_0 : DC m_Pre_checkIndex 0 (.iload_n 0) 1 1 := ⟨by decide +kernel, rfl⟩
theorem d_Pre_checkIndex_1 : DC m_Pre_checkIndex 1 (.ifCond .lt 8) 3 4 := ⟨by decide +kernel, rfl⟩
theorem d_Pre_checkIndex_4 : DC m_Pre_checkIndex 4 (.iload_n 0) 1 5 := ⟨by decide +kernel, rfl⟩
theorem d_Pre_checkIndex_5 : DC m_Pre_checkIndex 5 (.iload_n 1) 1 6 := ⟨by decide +kernel, rfl⟩
theorem d_Pre_checkIndex_6 : DC m_Pre_checkIndex 6 (.if_icmp .lt 10) 3 9 := ⟨by decide +kernel, rfl⟩
theorem d_Pre_checkIndex_9 : DC m_Pre_checkIndex 9 (.aload_n 2) 1 10 := ⟨by decide +kernel, rfl⟩
theorem d_Pre_checkIndex_10 : DC m_Pre_checkIndex 10 (.iload_n 0) 1 11 := ⟨by decide +kernel, rfl⟩
theorem d_Pre_checkIndex_11 : DC m_Pre_checkIndex 11 (.iload_n 1) 1 12 := ⟨by decide +kernel, rfl⟩
theorem d_Pre_checkIndex_12 : DC m_Pre_checkIndex 12 (.invokestatic 95) 3 15 := ⟨by decide +kernel, rfl⟩
theorem d_Pre_checkIndex_16 : DC m_Pre_checkIndex 16 (.iload_n 0) 1 17 := ⟨by decide +kernel, rfl⟩
theorem d_Pre_checkIndex_17 : DC m_Pre_checkIndex 17 .ireturn 1 18 := ⟨by decide +kernel, rfl⟩
def f_Pre_checkIndex_9 (n : Nat) (x0 : Int32) (x1 : Int32) (x2 : Nat) (M : MM) : Option (Int32 × MM) :=
  none
theorem t_Pre_checkIndex_9 (n : Nat) (x0 : Int32) (x1 : Int32) (x2 : Nat) (M : MM) (z : Int32 × MM) (h : f_Pre_checkIndex_9 n x0 x1 x2 M = some z) : EV m_Pre_checkIndex (rm 1 0 0) (some (.int z.1)) z.2 0 0 9 [some (.int x0), some (.int x1), some (.retAddr x2)] [] M := by
  unfold f_Pre_checkIndex_9 at h
  refine e_aload_nX d_Pre_checkIndex_9 rfl ?_
  refine e_iload_n d_Pre_checkIndex_10 rfl ?_
  refine e_iload_n d_Pre_checkIndex_11 rfl ?_
  cases h
def f_Pre_checkIndex (n : Nat) (x0 : Int32) (x1 : Int32) (x2 : Nat) (M : MM) : Option (Int32 × MM) :=
  if x0 < 0 then
    f_Pre_checkIndex_9 n x0 x1 x2 M
  else
    if x0 < x1 then
      some (x0, M)
    else
      f_Pre_checkIndex_9 n x0 x1 x2 M
theorem t_Pre_checkIndex (n : Nat) (x0 : Int32) (x1 : Int32) (x2 : Nat) (M : MM) (z : Int32 × MM) (h : f_Pre_checkIndex n x0 x1 x2 M = some z) : CT m_Pre_checkIndex (rm 1 0 0) [.int x0, .int x1, .retAddr x2] M (some (.int z.1)) z.2 := by
  unfold f_Pre_checkIndex at h
  refine CT.of (ls := [some (.int x0), some (.int x1), some (.retAddr x2)]) (by decide) (okp rfl) rfl ?_
  refine e_iload_n d_Pre_checkIndex_0 rfl ?_
  refine e_if_lt 9 d_Pre_checkIndex_1 (by decide) (fun c1 => ?_) (fun c1 => ?_)
  · replace h := ift c1 h
    exact (t_Pre_checkIndex_9 n x0 x1 x2 M z h).less (show LSub _ _ from ⟨rfl, ⟨rfl, ⟨rfl, trivial⟩⟩⟩)
  · replace h := ifn c1 h
    refine e_iload_n d_Pre_checkIndex_4 rfl ?_
    refine e_iload_n d_Pre_checkIndex_5 rfl ?_
    refine e_ic_lt 16 d_Pre_checkIndex_6 (by decide) (fun c2 => ?_) (fun c2 => ?_)
    · replace h := ift c2 h
      refine e_iload_n d_Pre_checkIndex_16 rfl ?_
      cases h
      exact e_iret d_Pre_checkIndex_17 rfl (Nat.le_refl _) (Nat.le_refl _)
    · replace h := ifn c2 h
      exact (t_Pre_checkIndex_9 n x0 x1 x2 M z h).less (show LSub _ _ from ⟨rfl, ⟨rfl, ⟨rfl, trivial⟩⟩⟩)
theorem d_Str_checkIndex_0 : DC m_Str_checkIndex 0 (.iload_n 0) 1 1 := ⟨by decide +kernel, rfl⟩
theorem d_Str_checkIndex_1 : DC m_Str_checkIndex 1 (.iload_n 1) 1 2 := ⟨by decide +kernel, rfl⟩
theorem d_Str_checkIndex_2 : DC m_Str_checkIndex 2 (.getstatic 1053) 3 5 := ⟨by decide +kernel, rfl⟩
theorem d_Str_checkIndex_5 : DC m_Str_checkIndex 5 (.invokestatic 1059) 3 8 := ⟨by decide +kernel, rfl⟩
theorem d_Str_checkIndex_8 : DC m_Str_checkIndex 8 .pop 1 9 := ⟨by decide +kernel, rfl⟩
theorem d_Str_checkIndex_9 : DC m_Str_checkIndex 9 .return_ 1 10 := ⟨by decide +kernel, rfl⟩
def f_Str_checkIndex (n : Nat) (x0 : Int32) (x1 : Int32) (M : MM) : Option (MM) :=
  (f_Pre_checkIndex n x0 x1 4 M).bind fun p1 =>
  some p1.2
theorem t_Str_checkIndex (n : Nat) (x0 : Int32) (x1 : Int32) (M : MM) (z : MM) (h : f_Str_checkIndex n x0 x1 M = some z) : CT m_Str_checkIndex (rm 2 0 0) [.int x0, .int x1] M none z := by
  unfold f_Str_checkIndex at h
  refine CT.of (ls := [some (.int x0), some (.int x1)]) (by decide) (okp rfl) rfl ?_
  refine e_iload_n d_Str_checkIndex_0 rfl ?_
  refine e_iload_n d_Str_checkIndex_1 rfl ?_
  refine e_getFmt d_Str_checkIndex_2 fs_Str_1053 ?_
  obtain ⟨p1, hp1, h⟩ := bnd h
  refine e_cSi (mt1 := m_Pre_checkIndex) (As := [.int x0, .int x1, .retAddr 4]) (st := []) d_Str_checkIndex_5 ml_Str_1059 ms_Pre_checkIndex (t_Pre_checkIndex n x0 x1 4 M p1 hp1) rfl rfl (okp rfl) (okp rfl) (okp rfl) (Nat.le_refl _) (Nat.le_refl _) ?_
  refine e_pop d_Str_checkIndex_8 rfl ?_
  cases h
  exact e_vret d_Str_checkIndex_9 rfl (Nat.le_refl _) (Nat.le_refl _)
theorem d_Lat_charAt_0 : DC m_Lat_charAt 0 (.iload_n 1) 1 1 := ⟨by decide +kernel, rfl⟩
theorem d_Lat_charAt_1 : DC m_Lat_charAt 1 (.aload_n 0) 1 2 := ⟨by decide +kernel, rfl⟩
theorem d_Lat_charAt_2 : DC m_Lat_charAt 2 .arraylength 1 3 := ⟨by decide +kernel, rfl⟩
theorem d_Lat_charAt_3 : DC m_Lat_charAt 3 (.invokestatic 9) 3 6 := ⟨by decide +kernel, rfl⟩
theorem d_Lat_charAt_6 : DC m_Lat_charAt 6 (.aload_n 0) 1 7 := ⟨by decide +kernel, rfl⟩
theorem d_Lat_charAt_7 : DC m_Lat_charAt 7 (.iload_n 1) 1 8 := ⟨by decide +kernel, rfl⟩
theorem d_Lat_charAt_8 : DC m_Lat_charAt 8 .baload 1 9 := ⟨by decide +kernel, rfl⟩
theorem d_Lat_charAt_9 : DC m_Lat_charAt 9 (.sipush 255) 3 12 := ⟨by decide +kernel, rfl⟩
theorem d_Lat_charAt_12 : DC m_Lat_charAt 12 .iand 1 13 := ⟨by decide +kernel, rfl⟩
theorem d_Lat_charAt_13 : DC m_Lat_charAt 13 .i2c 1 14 := ⟨by decide +kernel, rfl⟩
theorem d_Lat_charAt_14 : DC m_Lat_charAt 14 .ireturn 1 15 := ⟨by decide +kernel, rfl⟩
def f_Lat_charAt (n : Nat) (x0 : Nat) (x1 : Int32) (M : MM) : Option (Int32 × MM) :=
  (xN x0).bind fun v1 =>
  (f_Str_checkIndex n x1 v1 M).bind fun M2 =>
  (xB x0 x1).bind fun v3 =>
  rg .char (((v3 &&& 255).toUInt32 % 65536).toInt32) (some ((((v3 &&& 255).toUInt32 % 65536).toInt32), M2))
theorem t_Lat_charAt (n : Nat) (x0 : Nat) (x1 : Int32) (M : MM) (z : Int32 × MM) (h : f_Lat_charAt n x0 x1 M = some z) : CT m_Lat_charAt (rm 3 0 0) [.retAddr x0, .int x1] M (some (.int z.1)) z.2 := by
  unfold f_Lat_charAt at h
  refine CT.of (ls := [some (.retAddr x0), some (.int x1)]) (by decide) (okp rfl) rfl ?_
  refine e_iload_n d_Lat_charAt_0 rfl ?_
  refine e_aload_nX d_Lat_charAt_1 rfl ?_
  obtain ⟨v1, hv1, h⟩ := bnd h
  refine e_alenX d_Lat_charAt_2 hv1 ?_
  obtain ⟨M2, hM2, h⟩ := bnd h
  refine e_cSv (mt1 := m_Str_checkIndex) (As := [.int x1, .int v1]) (st := []) d_Lat_charAt_3 ml_Lat_9 ms_Str_checkIndex (t_Str_checkIndex n x1 v1 M M2 hM2) rfl rfl (okp rfl) (okp rfl) (okp rfl) (Nat.le_refl _) (Nat.le_refl _) ?_
  refine e_aload_nX d_Lat_charAt_6 rfl ?_
  refine e_iload_n d_Lat_charAt_7 rfl ?_
  obtain ⟨v3, hv3, h⟩ := bnd h
  refine e_baldX d_Lat_charAt_8 hv3 ?_
  refine e_sipush (v := 255) d_Lat_charAt_9 (by decide) ?_
  refine e_iand d_Lat_charAt_12 ?_
  refine e_i2c d_Lat_charAt_13 ?_
  obtain ⟨hz, h⟩ := rg_s h
  cases h
  exact e_zret (ty := .char) d_Lat_charAt_14 rfl hz (Nat.le_refl _) (Nat.le_refl _)
theorem d_Str_charAt_0 : DC m_Str_charAt 0 (.aload_n 0) 1 1 := ⟨by decide +kernel, rfl⟩
theorem d_Str_charAt_1 : DC m_Str_charAt 1 (.invokevirtual 492) 3 4 := ⟨by decide +kernel, rfl⟩
theorem d_Str_charAt_4 : DC m_Str_charAt 4 (.ifCond .eq 12) 3 7 := ⟨by decide +kernel, rfl⟩
theorem d_Str_charAt_7 : DC m_Str_charAt 7 (.aload_n 0) 1 8 := ⟨by decide +kernel, rfl⟩
theorem d_Str_charAt_8 : DC m_Str_charAt 8 (.getfield 9) 3 11 := ⟨by decide +kernel, rfl⟩
theorem d_Str_charAt_11 : DC m_Str_charAt 11 (.iload_n 1) 1 12 := ⟨by decide +kernel, rfl⟩
theorem d_Str_charAt_12 : DC m_Str_charAt 12 (.invokestatic 495) 3 15 := ⟨by decide +kernel, rfl⟩
theorem d_Str_charAt_15 : DC m_Str_charAt 15 .ireturn 1 16 := ⟨by decide +kernel, rfl⟩
theorem d_Str_charAt_16 : DC m_Str_charAt 16 (.aload_n 0) 1 17 := ⟨by decide +kernel, rfl⟩
theorem d_Str_charAt_17 : DC m_Str_charAt 17 (.getfield 9) 3 20 := ⟨by decide +kernel, rfl⟩
theorem d_Str_charAt_20 : DC m_Str_charAt 20 (.iload_n 1) 1 21 := ⟨by decide +kernel, rfl⟩
theorem d_Str_charAt_21 : DC m_Str_charAt 21 (.invokestatic 498) 3 24 := ⟨by decide +kernel, rfl⟩
def f_Str_charAt (n : Nat) (x0 : Nat) (x1 : Int32) (M : MM) : Option (Int32 × MM) :=
  xg x0 <|
  (f_Str_isLatin1 n x0 M).bind fun p1 =>
  if p1.1 = 0 then
    xg x0 <|
    none
  else
    xg x0 <|
    (f_Lat_charAt n (x0 + 2) x1 p1.2).bind fun p3 =>
    rg .char p3.1 (some (p3.1, p3.2))
theorem fc_Str_charAt {n : Nat} {x0 : Nat} {x1 : Int32} {M : MM} {z : Int32 × MM} (h : f_Str_charAt n x0 x1 M = some z) : x0 < 2 := by
  unfold f_Str_charAt at h
  exact (xg_s h).1
theorem t_Str_charAt (n : Nat) (x0 : Nat) (x1 : Int32) (M : MM) (z : Int32 × MM) (h : f_Str_charAt n x0 x1 M = some z) : CT m_Str_charAt (rm 4 0 0) [.retAddr x0, .int x1] M (some (.int z.1)) z.2 := by
  unfold f_Str_charAt at h
  obtain ⟨hthis, h⟩ := xg_s h
  refine CT.of (ls := [some (.retAddr x0), some (.int x1)]) (by decide) (okp rfl) rfl ?_
  refine e_aload_nX d_Str_charAt_0 rfl ?_
  obtain ⟨p1, hp1, h⟩ := bnd h
  refine e_cVXi (mt1 := m_Str_isLatin1) (As := []) (st := []) d_Str_charAt_1 ml_Str_492 mv_Str_isLatin1 (t_Str_isLatin1 n x0 M p1 hp1) (fc_Str_isLatin1 hp1) rfl rfl rfl (okp rfl) (okp rfl) (okp rfl) (Nat.le_refl _) (Nat.le_refl _) ?_
  refine e_if_eq 16 d_Str_charAt_4 (by decide) (fun c2 => ?_) (fun c2 => ?_)
  · replace h := ift c2 h
    refine e_aload_nX d_Str_charAt_16 rfl ?_
    obtain ⟨hx, h⟩ := xg_s h
    refine e_getXv d_Str_charAt_17 fs_Str_9 hx ?_
    refine e_iload_n d_Str_charAt_20 rfl ?_
    cases h
  · replace h := ifn c2 h
    refine e_aload_nX d_Str_charAt_7 rfl ?_
    obtain ⟨hx, h⟩ := xg_s h
    refine e_getXv d_Str_charAt_8 fs_Str_9 hx ?_
    refine e_iload_n d_Str_charAt_11 rfl ?_
    obtain ⟨p3, hp3, h⟩ := bnd h
    refine e_cSi (mt1 := m_Lat_charAt) (As := [.retAddr (x0 + 2), .int x1]) (st := []) d_Str_charAt_12 ml_Str_495 ms_Lat_charAt (t_Lat_charAt n (x0 + 2) x1 p1.2 p3 hp3) rfl rfl (okp rfl) (okp rfl) (okp rfl) (Nat.le_refl _) (Nat.le_refl _) ?_
    obtain ⟨hz, h⟩ := rg_s h
    cases h
    exact e_zret (ty := .char) d_Str_charAt_15 rfl hz (Nat.le_refl _) (Nat.le_refl _)
theorem d_Lat_canEncode_0 : DC m_Lat_canEncode 0 (.iload_n 0) 1 1 := ⟨by decide +kernel, rfl⟩
theorem d_Lat_canEncode_1 : DC m_Lat_canEncode 1 (.ifCond .lt 14) 3 4 := ⟨by decide +kernel, rfl⟩
theorem d_Lat_canEncode_4 : DC m_Lat_canEncode 4 (.iload_n 0) 1 5 := ⟨by decide +kernel, rfl⟩
theorem d_Lat_canEncode_5 : DC m_Lat_canEncode 5 (.sipush 255) 3 8 := ⟨by decide +kernel, rfl⟩
theorem d_Lat_canEncode_8 : DC m_Lat_canEncode 8 (.if_icmp .gt 7) 3 11 := ⟨by decide +kernel, rfl⟩
theorem d_Lat_canEncode_11 : DC m_Lat_canEncode 11 (.iconst 1) 1 12 := ⟨by decide +kernel, rfl⟩
theorem d_Lat_canEncode_12 : DC m_Lat_canEncode 12 (.goto 4) 3 15 := ⟨by decide +kernel, rfl⟩
theorem d_Lat_canEncode_15 : DC m_Lat_canEncode 15 (.iconst 0) 1 16 := ⟨by decide +kernel, rfl⟩
theorem d_Lat_canEncode_16 : DC m_Lat_canEncode 16 .ireturn 1 17 := ⟨by decide +kernel, rfl⟩
def f_Lat_canEncode (n : Nat) (x0 : Int32) (M : MM) : Option (Int32 × MM) :=
  if x0 < 0 then
    some (0, M)
  else
    if 255 < x0 then
      some (0, M)
    else
      some (1, M)
theorem t_Lat_canEncode (n : Nat) (x0 : Int32) (M : MM) (z : Int32 × MM) (h : f_Lat_canEncode n x0 M = some z) : CT m_Lat_canEncode (rm 1 0 0) [.int x0] M (some (.int z.1)) z.2 := by
  unfold f_Lat_canEncode at h
  refine CT.of (ls := [some (.int x0)]) (by decide) (okp rfl) rfl ?_
  refine e_iload_n d_Lat_canEncode_0 rfl ?_
  refine e_if_lt 15 d_Lat_canEncode_1 (by decide) (fun c1 => ?_) (fun c1 => ?_)
  · replace h := ift c1 h
    refine e_iconst (v := 0) d_Lat_canEncode_15 (by decide) ?_
    cases h
    exact e_zret (ty := .boolean) d_Lat_canEncode_16 rfl narZ0 (Nat.le_refl _) (Nat.le_refl _)
  · replace h := ifn c1 h
    refine e_iload_n d_Lat_canEncode_4 rfl ?_
    refine e_sipush (v := 255) d_Lat_canEncode_5 (by decide) ?_
    refine e_ic_gt 15 d_Lat_canEncode_8 (by decide) (fun c2 => ?_) (fun c2 => ?_)
    · replace h := ift c2 h
      refine e_iconst (v := 0) d_Lat_canEncode_15 (by decide) ?_
      cases h
      exact e_zret (ty := .boolean) d_Lat_canEncode_16 rfl narZ0 (Nat.le_refl _) (Nat.le_refl _)
    · replace h := ifn c2 h
      refine e_iconst (v := 1) d_Lat_canEncode_11 (by decide) ?_
      refine e_goto 16 d_Lat_canEncode_12 (by decide) ?_
      cases h
      exact e_zret (ty := .boolean) d_Lat_canEncode_16 rfl narZ1 (Nat.le_refl _) (Nat.le_refl _)
theorem d_Lat_indexOfChar_0 : DC m_Lat_indexOfChar 0 (.iload_n 1) 1 1 := ⟨by decide +kernel, rfl⟩
theorem d_Lat_indexOfChar_1 : DC m_Lat_indexOfChar 1 .i2b 1 2 := ⟨by decide +kernel, rfl⟩
theorem d_Lat_indexOfChar_2 : DC m_Lat_indexOfChar 2 (.istore 4) 2 4 := ⟨by decide +kernel, rfl⟩
theorem d_Lat_indexOfChar_4 : DC m_Lat_indexOfChar 4 (.iload_n 2) 1 5 := ⟨by decide +kernel, rfl⟩
theorem d_Lat_indexOfChar_5 : DC m_Lat_indexOfChar 5 (.istore 5) 2 7 := ⟨by decide +kernel, rfl⟩
theorem d_Lat_indexOfChar_7 : DC m_Lat_indexOfChar 7 (.iload 5) 2 9 := ⟨by decide +kernel, rfl⟩
theorem d_Lat_indexOfChar_9 : DC m_Lat_indexOfChar 9 (.iload_n 3) 1 10 := ⟨by decide +kernel, rfl⟩
theorem d_Lat_indexOfChar_10 : DC m_Lat_indexOfChar 10 (.if_icmp .ge 21) 3 13 := ⟨by decide +kernel, rfl⟩
theorem d_Lat_indexOfChar_13 : DC m_Lat_indexOfChar 13 (.aload_n 0) 1 14 := ⟨by decide +kernel, rfl⟩
theorem d_Lat_indexOfChar_14 : DC m_Lat_indexOfChar 14 (.iload 5) 2 16 := ⟨by decide +kernel, rfl⟩
theorem d_Lat_indexOfChar_16 : DC m_Lat_indexOfChar 16 .baload 1 17 := ⟨by decide +kernel, rfl⟩
theorem d_Lat_indexOfChar_17 : DC m_Lat_indexOfChar 17 (.iload 4) 2 19 := ⟨by decide +kernel, rfl⟩
theorem d_Lat_indexOfChar_19 : DC m_Lat_indexOfChar 19 (.if_icmp .ne 6) 3 22 := ⟨by decide +kernel, rfl⟩
theorem d_Lat_indexOfChar_22 : DC m_Lat_indexOfChar 22 (.iload 5) 2 24 := ⟨by decide +kernel, rfl⟩
theorem d_Lat_indexOfChar_24 : DC m_Lat_indexOfChar 24 .ireturn 1 25 := ⟨by decide +kernel, rfl⟩
theorem d_Lat_indexOfChar_25 : DC m_Lat_indexOfChar 25 (.iinc 5 1) 3 28 := ⟨by decide +kernel, rfl⟩
theorem d_Lat_indexOfChar_28 : DC m_Lat_indexOfChar 28 (.goto (-21)) 3 31 := ⟨by decide +kernel, rfl⟩
theorem d_Lat_indexOfChar_31 : DC m_Lat_indexOfChar 31 (.iconst (-1)) 1 32 := ⟨by decide +kernel, rfl⟩
theorem d_Lat_indexOfChar_32 : DC m_Lat_indexOfChar 32 .ireturn 1 33 := ⟨by decide +kernel, rfl⟩
def f_Lat_indexOfChar_7 (n : Nat) : Nat → Nat → Int32 → Int32 → Int32 → MM → Option (Int32 × MM)
  | 0, _, _, _, _, _ => none
  | m + 1, x0, x3, x4, x5, M =>
    if x3 ≤ x5 then
      some ((-1), M)
    else
      (xB x0 x5).bind fun v2 =>
      if v2 = x4 then
        some (x5, M)
      else
        f_Lat_indexOfChar_7 n m x0 x3 x4 (x5 + 1) M
theorem t_Lat_indexOfChar_7 (n : Nat) : ∀ (m : Nat) (x0 : Nat) (x3 : Int32) (x4 : Int32) (x5 : Int32) (M : MM) (z : Int32 × MM), f_Lat_indexOfChar_7 n m x0 x3 x4 x5 M = some z → EV m_Lat_indexOfChar (rm 1 0 0) (some (.int z.1)) z.2 0 0 7 [some (.retAddr x0), none, none, some (.int x3), some (.int x4), some (.int x5)] [] M := by
  intro m
  induction m with
  | zero => intro x0 x3 x4 x5 M z h; cases h
  | succ m ih =>
    intro x0 x3 x4 x5 M z h
    rw [f_Lat_indexOfChar_7] at h
    refine e_iload d_Lat_indexOfChar_7 rfl ?_
    refine e_iload_n d_Lat_indexOfChar_9 rfl ?_
    refine e_ic_ge 31 d_Lat_indexOfChar_10 (by decide) (fun c1 => ?_) (fun c1 => ?_)
    · replace h := ift c1 h
      refine e_iconst (v := (-1)) d_Lat_indexOfChar_31 (by decide) ?_
      cases h
      exact e_iret d_Lat_indexOfChar_32 rfl (Nat.le_refl _) (Nat.le_refl _)
    · replace h := ifn c1 h
      refine e_aload_nX d_Lat_indexOfChar_13 rfl ?_
      refine e_iload d_Lat_indexOfChar_14 rfl ?_
      obtain ⟨v2, hv2, h⟩ := bnd h
      refine e_baldX d_Lat_indexOfChar_16 hv2 ?_
      refine e_iload d_Lat_indexOfChar_17 rfl ?_
      refine e_ic_ne 25 d_Lat_indexOfChar_19 (by decide) (fun c3 => ?_) (fun c3 => ?_)
      · replace h := ifn c3 h
        refine e_iinc (v := x5 + 1) (l2 := [some (.retAddr x0), none, none, some (.int x3), some (.int x4), some (.int (x5 + 1))]) d_Lat_indexOfChar_25 rfl rfl rfl (okl rfl) rfl ?_
        refine e_goto 7 d_Lat_indexOfChar_28 (by decide) ?_
        exact (ih x0 x3 x4 (x5 + 1) M z h).less (show LSub _ _ from ⟨rfl, ⟨rfl, ⟨rfl, ⟨rfl, trivial⟩⟩⟩⟩)
      · replace h := ift c3 h
        refine e_iload d_Lat_indexOfChar_22 rfl ?_
        cases h
        exact e_iret d_Lat_indexOfChar_24 rfl (Nat.le_refl _) (Nat.le_refl _)
def f_Lat_indexOfChar (n : Nat) (x0 : Nat) (x1 : Int32) (x2 : Int32) (x3 : Int32) (M : MM) : Option (Int32 × MM) :=
  nm (α := Int32) (x1.toInt8.toInt32) fun y4 =>
  f_Lat_indexOfChar_7 n n x0 x3 y4 x2 M
theorem t_Lat_indexOfChar (n : Nat) (x0 : Nat) (x1 : Int32) (x2 : Int32) (x3 : Int32) (M : MM) (z : Int32 × MM) (h : f_Lat_indexOfChar n x0 x1 x2 x3 M = some z) : CT m_Lat_indexOfChar (rm 1 0 0) [.retAddr x0, .int x1, .int x2, .int x3] M (some (.int z.1)) z.2 := by
  unfold f_Lat_indexOfChar at h
  refine CT.of (ls := [some (.retAddr x0), some (.int x1), some (.int x2), some (.int x3), none, none]) (by decide) (okp rfl) rfl ?_
  refine e_iload_n d_Lat_indexOfChar_0 rfl ?_
  refine e_i2b d_Lat_indexOfChar_1 ?_
  obtain ⟨y4, ey4, h⟩ := nm_s h
  refine e_nameI ey4 ?_
  refine e_istore (l2 := [some (.retAddr x0), some (.int x1), some (.int x2), some (.int x3), some (.int y4), none]) d_Lat_indexOfChar_2 rfl (okl rfl) rfl ?_
  refine e_iload_n d_Lat_indexOfChar_4 rfl ?_
  refine e_istore (l2 := [some (.retAddr x0), some (.int x1), some (.int x2), some (.int x3), some (.int y4), some (.int x2)]) d_Lat_indexOfChar_5 rfl (okl rfl) rfl ?_
  exact (t_Lat_indexOfChar_7 n n x0 x3 y4 x2 M z h).less (show LSub _ _ from ⟨rfl, ⟨rfl, ⟨rfl, ⟨rfl, trivial⟩⟩⟩⟩)
theorem d_Lat_indexOf_0 : DC m_Lat_indexOf 0 (.iload_n 1) 1 1 := ⟨by decide +kernel, rfl⟩
theorem d_Lat_indexOf_1 : DC m_Lat_indexOf 1 (.invokestatic 88) 3 4 := ⟨by decide +kernel, rfl⟩
theorem d_Lat_indexOf_4 : DC m_Lat_indexOf 4 (.ifCond .ne 5) 3 7 := ⟨by decide +kernel, rfl⟩
theorem d_Lat_indexOf_7 : DC m_Lat_indexOf 7 (.iconst (-1)) 1 8 := ⟨by decide +kernel, rfl⟩
theorem d_Lat_indexOf_8 : DC m_Lat_indexOf 8 .ireturn 1 9 := ⟨by decide +kernel, rfl⟩
theorem d_Lat_indexOf_9 : DC m_Lat_indexOf 9 (.iload_n 2) 1 10 := ⟨by decide +kernel, rfl⟩
theorem d_Lat_indexOf_10 : DC m_Lat_indexOf 10 (.iconst 0) 1 11 := ⟨by decide +kernel, rfl⟩
theorem d_Lat_indexOf_11 : DC m_Lat_indexOf 11 (.invokestatic 92) 3 14 := ⟨by decide +kernel, rfl⟩
theorem d_Lat_indexOf_14 : DC m_Lat_indexOf 14 (.istore_n 2) 1 15 := ⟨by decide +kernel, rfl⟩
theorem d_Lat_indexOf_15 : DC m_Lat_indexOf 15 (.iload_n 3) 1 16 := ⟨by decide +kernel, rfl⟩
theorem d_Lat_indexOf_16 : DC m_Lat_indexOf 16 (.aload_n 0) 1 17 := ⟨by decide +kernel, rfl⟩
theorem d_Lat_indexOf_17 : DC m_Lat_indexOf 17 .arraylength 1 18 := ⟨by decide +kernel, rfl⟩
theorem d_Lat_indexOf_18 : DC m_Lat_indexOf 18 (.invokestatic 38) 3 21 := ⟨by decide +kernel, rfl⟩
theorem d_Lat_indexOf_21 : DC m_Lat_indexOf 21 (.istore_n 3) 1 22 := ⟨by decide +kernel, rfl⟩
theorem d_Lat_indexOf_22 : DC m_Lat_indexOf 22 (.iload_n 2) 1 23 := ⟨by decide +kernel, rfl⟩
theorem d_Lat_indexOf_23 : DC m_Lat_indexOf 23 (.iload_n 3) 1 24 := ⟨by decide +kernel, rfl⟩
theorem d_Lat_indexOf_24 : DC m_Lat_indexOf 24 (.if_icmp .lt 5) 3 27 := ⟨by decide +kernel, rfl⟩
theorem d_Lat_indexOf_27 : DC m_Lat_indexOf 27 (.iconst (-1)) 1 28 := ⟨by decide +kernel, rfl⟩
theorem d_Lat_indexOf_28 : DC m_Lat_indexOf 28 .ireturn 1 29 := ⟨by decide +kernel, rfl⟩
theorem d_Lat_indexOf_29 : DC m_Lat_indexOf 29 (.aload_n 0) 1 30 := ⟨by decide +kernel, rfl⟩
theorem d_Lat_indexOf_30 : DC m_Lat_indexOf 30 (.iload_n 1) 1 31 := ⟨by decide +kernel, rfl⟩
theorem d_Lat_indexOf_31 : DC m_Lat_indexOf 31 (.iload_n 2) 1 32 := ⟨by decide +kernel, rfl⟩
theorem d_Lat_indexOf_32 : DC m_Lat_indexOf 32 (.iload_n 3) 1 33 := ⟨by decide +kernel, rfl⟩
theorem d_Lat_indexOf_33 : DC m_Lat_indexOf 33 (.invokestatic 95) 3 36 := ⟨by decide +kernel, rfl⟩
theorem d_Lat_indexOf_36 : DC m_Lat_indexOf 36 .ireturn 1 37 := ⟨by decide +kernel, rfl⟩
def f_Lat_indexOf (n : Nat) (x0 : Nat) (x1 : Int32) (x2 : Int32) (x3 : Int32) (M : MM) : Option (Int32 × MM) :=
  (f_Lat_canEncode n x1 M).bind fun p1 =>
  if p1.1 = 0 then
    some ((-1), p1.2)
  else
    nm (α := Int32) (imax x2 0) fun y3 =>
    (xN x0).bind fun v4 =>
    nm (α := Int32) (imin x3 v4) fun y5 =>
    if y3 < y5 then
      (f_Lat_indexOfChar n x0 x1 y3 y5 p1.2).bind fun p7 =>
      some (p7.1, p7.2)
    else
      some ((-1), p1.2)
theorem t_Lat_indexOf (n : Nat) (x0 : Nat) (x1 : Int32) (x2 : Int32) (x3 : Int32) (M : MM) (z : Int32 × MM) (h : f_Lat_indexOf n x0 x1 x2 x3 M = some z) : CT m_Lat_indexOf (rm 2 0 0) [.retAddr x0, .int x1, .int x2, .int x3] M (some (.int z.1)) z.2 := by
  unfold f_Lat_indexOf at h
  refine CT.of (ls := [some (.retAddr x0), some (.int x1), some (.int x2), some (.int x3)]) (by decide) (okp rfl) rfl ?_
  refine e_iload_n d_Lat_indexOf_0 rfl ?_
  obtain ⟨p1, hp1, h⟩ := bnd h
  refine e_cSi (mt1 := m_Lat_canEncode) (As := [.int x1]) (st := []) d_Lat_indexOf_1 ml_Lat_88 ms_Lat_canEncode (t_Lat_canEncode n x1 M p1 hp1) rfl rfl (okp rfl) (okp rfl) (okp rfl) (Nat.le_refl _) (Nat.le_refl _) ?_
  refine e_if_ne 9 d_Lat_indexOf_4 (by decide) (fun c2 => ?_) (fun c2 => ?_)
  · replace h := ifn c2 h
    refine e_iload_n d_Lat_indexOf_9 rfl ?_
    refine e_iconst (v := 0) d_Lat_indexOf_10 (by decide) ?_
    refine e_mmax d_Lat_indexOf_11 ml_Lat_92 ms_Math_max.2 ms_Math_max.1.2.1 ms_Math_max.1.1 (okp rfl) (okp rfl) (okp rfl) (Nat.le_refl _) (Nat.le_refl _) ?_
    obtain ⟨y3, ey3, h⟩ := nm_s h
    refine e_nameI ey3 ?_
    refine e_istore_n (l2 := [some (.retAddr x0), some (.int x1), some (.int y3), some (.int x3)]) d_Lat_indexOf_14 rfl (okl rfl) rfl ?_
    refine e_iload_n d_Lat_indexOf_15 rfl ?_
    refine e_aload_nX d_Lat_indexOf_16 rfl ?_
    obtain ⟨v4, hv4, h⟩ := bnd h
    refine e_alenX d_Lat_indexOf_17 hv4 ?_
    refine e_mmin d_Lat_indexOf_18 ml_Lat_38 ms_Math_min.2 ms_Math_min.1.2.1 ms_Math_min.1.1 (okp rfl) (okp rfl) (okp rfl) (Nat.le_refl _) (Nat.le_refl _) ?_
    obtain ⟨y5, ey5, h⟩ := nm_s h
    refine e_nameI ey5 ?_
    refine e_istore_n (l2 := [some (.retAddr x0), some (.int x1), some (.int y3), some (.int y5)]) d_Lat_indexOf_21 rfl (okl rfl) rfl ?_
    refine e_iload_n d_Lat_indexOf_22 rfl ?_
    refine e_iload_n d_Lat_indexOf_23 rfl ?_
    refine e_ic_lt 29 d_Lat_indexOf_24 (by decide) (fun c6 => ?_) (fun c6 => ?_)
    · replace h := ift c6 h
      refine e_aload_nX d_Lat_indexOf_29 rfl ?_
      refine e_iload_n d_Lat_indexOf_30 rfl ?_
      refine e_iload_n d_Lat_indexOf_31 rfl ?_
      refine e_iload_n d_Lat_indexOf_32 rfl ?_
      obtain ⟨p7, hp7, h⟩ := bnd h
      refine e_cSi (mt1 := m_Lat_indexOfChar) (As := [.retAddr x0, .int x1, .int y3, .int y5]) (st := []) d_Lat_indexOf_33 ml_Lat_95 ms_Lat_indexOfChar (t_Lat_indexOfChar n x0 x1 y3 y5 p1.2 p7 hp7) rfl rfl (okp rfl) (okp rfl) (okp rfl) (Nat.le_refl _) (Nat.le_refl _) ?_
      cases h
      exact e_iret d_Lat_indexOf_36 rfl (Nat.le_refl _) (Nat.le_refl _)
    · replace h := ifn c6 h
      refine e_iconst (v := (-1)) d_Lat_indexOf_27 (by decide) ?_
      cases h
      exact e_iret d_Lat_indexOf_28 rfl (Nat.le_refl _) (Nat.le_refl _)
  · replace h := ift c2 h
    refine e_iconst (v := (-1)) d_Lat_indexOf_7 (by decide) ?_
    cases h
    exact e_iret d_Lat_indexOf_8 rfl (Nat.le_refl _) (Nat.le_refl _)
theorem d_Str_indexOf_2_0 : DC m_Str_indexOf_2 0 (.aload_n 0) 1 1 := ⟨by decide +kernel, rfl⟩
theorem d_Str_indexOf_2_1 : DC m_Str_indexOf_2 1 (.invokevirtual 492) 3 4 := ⟨by decide +kernel, rfl⟩
theorem d_Str_indexOf_2_4 : DC m_Str_indexOf_2 4 (.ifCond .eq 19) 3 7 := ⟨by decide +kernel, rfl⟩
theorem d_Str_indexOf_2_7 : DC m_Str_indexOf_2 7 (.aload_n 0) 1 8 := ⟨by decide +kernel, rfl⟩
theorem d_Str_indexOf_2_8 : DC m_Str_indexOf_2 8 (.getfield 9) 3 11 := ⟨by decide +kernel, rfl⟩
theorem d_Str_indexOf_2_11 : DC m_Str_indexOf_2 11 (.iload_n 1) 1 12 := ⟨by decide +kernel, rfl⟩
theorem d_Str_indexOf_2_12 : DC m_Str_indexOf_2 12 (.iload_n 2) 1 13 := ⟨by decide +kernel, rfl⟩
theorem d_Str_indexOf_2_13 : DC m_Str_indexOf_2 13 (.aload_n 0) 1 14 := ⟨by decide +kernel, rfl⟩
theorem d_Str_indexOf_2_14 : DC m_Str_indexOf_2 14 (.invokevirtual 505) 3 17 := ⟨by decide +kernel, rfl⟩
theorem d_Str_indexOf_2_17 : DC m_Str_indexOf_2 17 (.invokestatic 637) 3 20 := ⟨by decide +kernel, rfl⟩
theorem d_Str_indexOf_2_20 : DC m_Str_indexOf_2 20 (.goto 16) 3 23 := ⟨by decide +kernel, rfl⟩
theorem d_Str_indexOf_2_23 : DC m_Str_indexOf_2 23 (.aload_n 0) 1 24 := ⟨by decide +kernel, rfl⟩
theorem d_Str_indexOf_2_24 : DC m_Str_indexOf_2 24 (.getfield 9) 3 27 := ⟨by decide +kernel, rfl⟩
theorem d_Str_indexOf_2_27 : DC m_Str_indexOf_2 27 (.iload_n 1) 1 28 := ⟨by decide +kernel, rfl⟩
theorem d_Str_indexOf_2_28 : DC m_Str_indexOf_2 28 (.iload_n 2) 1 29 := ⟨by decide +kernel, rfl⟩
theorem d_Str_indexOf_2_29 : DC m_Str_indexOf_2 29 (.aload_n 0) 1 30 := ⟨by decide +kernel, rfl⟩
theorem d_Str_indexOf_2_30 : DC m_Str_indexOf_2 30 (.invokevirtual 505) 3 33 := ⟨by decide +kernel, rfl⟩
theorem d_Str_indexOf_2_33 : DC m_Str_indexOf_2 33 (.invokestatic 640) 3 36 := ⟨by decide +kernel, rfl⟩
theorem d_Str_indexOf_2_36 : DC m_Str_indexOf_2 36 .ireturn 1 37 := ⟨by decide +kernel, rfl⟩
def f_Str_indexOf_2 (n : Nat) (x0 : Nat) (x1 : Int32) (x2 : Int32) (M : MM) : Option (Int32 × MM) :=
  xg x0 <|
  (f_Str_isLatin1 n x0 M).bind fun p1 =>
  if p1.1 = 0 then
    xg x0 <|
    (f_Str_length n x0 p1.2).bind fun p3 =>
    none
  else
    xg x0 <|
    (f_Str_length n x0 p1.2).bind fun p4 =>
    (f_Lat_indexOf n (x0 + 2) x1 x2 p4.1 p4.2).bind fun p5 =>
    some (p5.1, p5.2)
theorem fc_Str_indexOf_2 {n : Nat} {x0 : Nat} {x1 : Int32} {x2 : Int32} {M : MM} {z : Int32 × MM} (h : f_Str_indexOf_2 n x0 x1 x2 M = some z) : x0 < 2 := by
  unfold f_Str_indexOf_2 at h
  exact (xg_s h).1
theorem t_Str_indexOf_2 (n : Nat) (x0 : Nat) (x1 : Int32) (x2 : Int32) (M : MM) (z : Int32 × MM) (h : f_Str_indexOf_2 n x0 x1 x2 M = some z) : CT m_Str_indexOf_2 (rm 3 0 0) [.retAddr x0, .int x1, .int x2] M (some (.int z.1)) z.2 := by
  unfold f_Str_indexOf_2 at h
  obtain ⟨hthis, h⟩ := xg_s h
  refine CT.of (ls := [some (.retAddr x0), some (.int x1), some (.int x2)]) (by decide) (okp rfl) rfl ?_
  refine e_aload_nX d_Str_indexOf_2_0 rfl ?_
  obtain ⟨p1, hp1, h⟩ := bnd h
  refine e_cVXi (mt1 := m_Str_isLatin1) (As := []) (st := []) d_Str_indexOf_2_1 ml_Str_492 mv_Str_isLatin1 (t_Str_isLatin1 n x0 M p1 hp1) (fc_Str_isLatin1 hp1) rfl rfl rfl (okp rfl) (okp rfl) (okp rfl) (Nat.le_refl _) (Nat.le_refl _) ?_
  refine e_if_eq 23 d_Str_indexOf_2_4 (by decide) (fun c2 => ?_) (fun c2 => ?_)
  · replace h := ift c2 h
    refine e_aload_nX d_Str_indexOf_2_23 rfl ?_
    obtain ⟨hx, h⟩ := xg_s h
    refine e_getXv d_Str_indexOf_2_24 fs_Str_9 hx ?_
    refine e_iload_n d_Str_indexOf_2_27 rfl ?_
    refine e_iload_n d_Str_indexOf_2_28 rfl ?_
    refine e_aload_nX d_Str_indexOf_2_29 rfl ?_
    obtain ⟨p3, hp3, h⟩ := bnd h
    refine e_cVXi (mt1 := m_Str_length) (As := []) (st := [.int x2, .int x1, .retAddr (x0 + 2)]) d_Str_indexOf_2_30 ml_Str_505 mv_Str_length (t_Str_length n x0 p1.2 p3 hp3) (fc_Str_length hp3) rfl rfl rfl (okp rfl) (okp rfl) (okp rfl) (Nat.le_refl _) (Nat.le_refl _) ?_
    cases h
  · replace h := ifn c2 h
    refine e_aload_nX d_Str_indexOf_2_7 rfl ?_
    obtain ⟨hx, h⟩ := xg_s h
    refine e_getXv d_Str_indexOf_2_8 fs_Str_9 hx ?_
    refine e_iload_n d_Str_indexOf_2_11 rfl ?_
    refine e_iload_n d_Str_indexOf_2_12 rfl ?_
    refine e_aload_nX d_Str_indexOf_2_13 rfl ?_
    obtain ⟨p4, hp4, h⟩ := bnd h
    refine e_cVXi (mt1 := m_Str_length) (As := []) (st := [.int x2, .int x1, .retAddr (x0 + 2)]) d_Str_indexOf_2_14 ml_Str_505 mv_Str_length (t_Str_length n x0 p1.2 p4 hp4) (fc_Str_length hp4) rfl rfl rfl (okp rfl) (okp rfl) (okp rfl) (Nat.le_refl _) (Nat.le_refl _) ?_
    obtain ⟨p5, hp5, h⟩ := bnd h
    refine e_cSi (mt1 := m_Lat_indexOf) (As := [.retAddr (x0 + 2), .int x1, .int x2, .int p4.1]) (st := []) d_Str_indexOf_2_17 ml_Str_637 ms_Lat_indexOf (t_Lat_indexOf n (x0 + 2) x1 x2 p4.1 p4.2 p5 hp5) rfl rfl (okp rfl) (okp rfl) (okp rfl) (Nat.le_refl _) (Nat.le_refl _) ?_
    refine e_goto 36 d_Str_indexOf_2_20 (by decide) ?_
    cases h
    exact e_iret d_Str_indexOf_2_36 rfl (Nat.le_refl _) (Nat.le_refl _)
theorem d_Str_indexOf_1_0 : DC m_Str_indexOf_1 0 (.aload_n 0) 1 1 := ⟨by decide +kernel, rfl⟩
theorem d_Str_indexOf_1_1 : DC m_Str_indexOf_1 1 (.iload_n 1) 1 2 := ⟨by decide +kernel, rfl⟩
theorem d_Str_indexOf_1_2 : DC m_Str_indexOf_1 2 (.iconst 0) 1 3 := ⟨by decide +kernel, rfl⟩
theorem d_Str_indexOf_1_3 : DC m_Str_indexOf_1 3 (.invokevirtual 633) 3 6 := ⟨by decide +kernel, rfl⟩
theorem d_Str_indexOf_1_6 : DC m_Str_indexOf_1 6 .ireturn 1 7 := ⟨by decide +kernel, rfl⟩
def f_Str_indexOf_1 (n : Nat) (x0 : Nat) (x1 : Int32) (M : MM) : Option (Int32 × MM) :=
  xg x0 <|
  (f_Str_indexOf_2 n x0 x1 0 M).bind fun p1 =>
  some (p1.1, p1.2)
theorem fc_Str_indexOf_1 {n : Nat} {x0 : Nat} {x1 : Int32} {M : MM} {z : Int32 × MM} (h : f_Str_indexOf_1 n x0 x1 M = some z) : x0 < 2 := by
  unfold f_Str_indexOf_1 at h
  exact (xg_s h).1
theorem t_Str_indexOf_1 (n : Nat) (x0 : Nat) (x1 : Int32) (M : MM) (z : Int32 × MM) (h : f_Str_indexOf_1 n x0 x1 M = some z) : CT m_Str_indexOf_1 (rm 4 0 0) [.retAddr x0, .int x1] M (some (.int z.1)) z.2 := by
  unfold f_Str_indexOf_1 at h
  obtain ⟨hthis, h⟩ := xg_s h
  refine CT.of (ls := [some (.retAddr x0), some (.int x1)]) (by decide) (okp rfl) rfl ?_
  refine e_aload_nX d_Str_indexOf_1_0 rfl ?_
  refine e_iload_n d_Str_indexOf_1_1 rfl ?_
  refine e_iconst (v := 0) d_Str_indexOf_1_2 (by decide) ?_
  obtain ⟨p1, hp1, h⟩ := bnd h
  refine e_cVXi (mt1 := m_Str_indexOf_2) (As := [.int x1, .int 0]) (st := []) d_Str_indexOf_1_3 ml_Str_633 mv_Str_indexOf_2 (t_Str_indexOf_2 n x0 x1 0 M p1 hp1) (fc_Str_indexOf_2 hp1) rfl rfl rfl (okp rfl) (okp rfl) (okp rfl) (Nat.le_refl _) (Nat.le_refl _) ?_
  cases h
  exact e_iret d_Str_indexOf_1_6 rfl (Nat.le_refl _) (Nat.le_refl _)
