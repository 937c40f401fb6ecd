theorem d_Q_appendBytes_0 : DC m_Q_appendBytes 0 (.bipush 24) 2 2 := ⟨by decide +kernel, rfl⟩
theorem d_Q_appendBytes_2 : DC m_Q_appendBytes 2 (.istore_n 2) 1 3 := ⟨by decide +kernel, rfl⟩
theorem d_Q_appendBytes_3 : DC m_Q_appendBytes 3 (.iload_n 2) 1 4 := ⟨by decide +kernel, rfl⟩
theorem d_Q_appendBytes_4 : DC m_Q_appendBytes 4 (.ifCond .lt 42) 3 7 := ⟨by decide +kernel, rfl⟩
theorem d_Q_appendBytes_7 : DC m_Q_appendBytes 7 (.aload_n 0) 1 8 := ⟨by decide +kernel, rfl⟩
theorem d_Q_appendBytes_8 : DC m_Q_appendBytes 8 (.getfield 13) 3 11 := ⟨by decide +kernel, rfl⟩
theorem d_Q_appendBytes_11 : DC m_Q_appendBytes 11 (.sipush 2000) 3 14 := ⟨by decide +kernel, rfl⟩
theorem d_Q_appendBytes_14 : DC m_Q_appendBytes 14 (.if_icmp .ge 32) 3 17 := ⟨by decide +kernel, rfl⟩
theorem d_Q_appendBytes_17 : DC m_Q_appendBytes 17 (.aload_n 0) 1 18 := ⟨by decide +kernel, rfl⟩
theorem d_Q_appendBytes_18 : DC m_Q_appendBytes 18 (.getfield 9) 3 21 := ⟨by decide +kernel, rfl⟩
theorem d_Q_appendBytes_21 : DC m_Q_appendBytes 21 (.aload_n 0) 1 22 := ⟨by decide +kernel, rfl⟩
theorem d_Q_appendBytes_22 : DC m_Q_appendBytes 22 (.getfield 13) 3 25 := ⟨by decide +kernel, rfl⟩
theorem d_Q_appendBytes_25 : DC m_Q_appendBytes 25 (.iload_n 1) 1 26 := ⟨by decide +kernel, rfl⟩
theorem d_Q_appendBytes_26 : DC m_Q_appendBytes 26 (.iload_n 2) 1 27 := ⟨by decide +kernel, rfl⟩
theorem d_Q_appendBytes_27 : DC m_Q_appendBytes 27 .iushr 1 28 := ⟨by decide +kernel, rfl⟩
theorem d_Q_appendBytes_28 : DC m_Q_appendBytes 28 .i2b 1 29 := ⟨by decide +kernel, rfl⟩
theorem d_Q_appendBytes_29 : DC m_Q_appendBytes 29 .bastore 1 30 := ⟨by decide +kernel, rfl⟩
theorem d_Q_appendBytes_30 : DC m_Q_appendBytes 30 (.aload_n 0) 1 31 := ⟨by decide +kernel, rfl⟩
theorem d_Q_appendBytes_31 : DC m_Q_appendBytes 31 .dup 1 32 := ⟨by decide +kernel, rfl⟩
theorem d_Q_appendBytes_32 : DC m_Q_appendBytes 32 (.getfield 13) 3 35 := ⟨by decide +kernel, rfl⟩
theorem d_Q_appendBytes_35 : DC m_Q_appendBytes 35 (.iconst 1) 1 36 := ⟨by decide +kernel, rfl⟩
theorem d_Q_appendBytes_36 : DC m_Q_appendBytes 36 .iadd 1 37 := ⟨by decide +kernel, rfl⟩
theorem d_Q_appendBytes_37 : DC m_Q_appendBytes 37 (.putfield 13) 3 40 := ⟨by decide +kernel, rfl⟩
theorem d_Q_appendBytes_40 : DC m_Q_appendBytes 40 (.iinc 2 (-8)) 3 43 := ⟨by decide +kernel, rfl⟩
theorem d_Q_appendBytes_43 : DC m_Q_appendBytes 43 (.goto (-40)) 3 46 := ⟨by decide +kernel, rfl⟩
theorem d_Q_appendBytes_46 : DC m_Q_appendBytes 46 .return_ 1 47 := ⟨by decide +kernel, rfl⟩
def f_Q_appendBytes_3 (n : Nat) : Nat → Nat → Int32 → Int32 → MM → Option (MM)
  | 0, _, _, _, _ => none
  | m + 1, x0, x1, x2, M =>
    if x2 < 0 then
      some M
    else
      (gI 11 1 x0 M).bind fun v2 =>
      if 2000 ≤ v2 then
        some M
      else
        (gR 11 0 x0 M).bind fun v4 =>
        (gI 11 1 x0 M).bind fun v5 =>
        (sI 101 v4 v5 ((ushr x1 x2).toInt8.toInt32) M).bind fun M6 =>
        (gI 11 1 x0 M6).bind fun v7 =>
        (pI 11 1 x0 (v7 + 1) M6).bind fun M8 =>
        f_Q_appendBytes_3 n m x0 x1 (x2 + (-8)) M8
theorem t_Q_appendBytes_3 (n : Nat) : ∀ (m : Nat) (x0 : Nat) (x1 : Int32) (x2 : Int32) (M : MM) (z : MM), f_Q_appendBytes_3 n m x0 x1 x2 M = some z → EV m_Q_appendBytes (rm 1 0 0) none z 0 0 3 [some (.ref x0), some (.int x1), some (.int x2)] [] M := by
  intro m
  induction m with
  | zero => intro x0 x1 x2 M z h; cases h
  | succ m ih =>
    intro x0 x1 x2 M z h
    rw [f_Q_appendBytes_3] at h
    refine e_iload_n d_Q_appendBytes_3 rfl ?_
    refine e_if_lt 46 d_Q_appendBytes_4 (by decide) (fun c1 => ?_) (fun c1 => ?_)
    · replace h := ift c1 h
      cases h
      exact e_vret d_Q_appendBytes_46 rfl (Nat.le_refl _) (Nat.le_refl _)
    · replace h := ifn c1 h
      refine e_aload_n d_Q_appendBytes_7 rfl ?_
      obtain ⟨v2, hv2, h⟩ := bnd h
      refine e_getI d_Q_appendBytes_8 fl_Q_13 (fun _ _ _ => rfl) hv2 ?_
      refine e_sipush (v := 2000) d_Q_appendBytes_11 (by decide) ?_
      refine e_ic_ge 46 d_Q_appendBytes_14 (by decide) (fun c3 => ?_) (fun c3 => ?_)
      · replace h := ift c3 h
        cases h
        exact e_vret d_Q_appendBytes_46 rfl (Nat.le_refl _) (Nat.le_refl _)
      · replace h := ifn c3 h
        refine e_aload_n d_Q_appendBytes_17 rfl ?_
        obtain ⟨v4, hv4, h⟩ := bnd h
        refine e_getR d_Q_appendBytes_18 fl_Q_9 (fun _ _ _ => rfl) hv4 ?_
        refine e_aload_n d_Q_appendBytes_21 rfl ?_
        obtain ⟨v5, hv5, h⟩ := bnd h
        refine e_getI d_Q_appendBytes_22 fl_Q_13 (fun _ _ _ => rfl) hv5 ?_
        refine e_iload_n d_Q_appendBytes_25 rfl ?_
        refine e_iload_n d_Q_appendBytes_26 rfl ?_
        refine e_iushr d_Q_appendBytes_27 ?_
        refine e_i2b d_Q_appendBytes_28 ?_
        obtain ⟨M6, hM6, h⟩ := bnd h
        refine e_bast d_Q_appendBytes_29 hM6 ?_
        refine e_aload_n d_Q_appendBytes_30 rfl ?_
        refine e_dup d_Q_appendBytes_31 rfl ?_
        obtain ⟨v7, hv7, h⟩ := bnd h
        refine e_getI d_Q_appendBytes_32 fl_Q_13 (fun _ _ _ => rfl) hv7 ?_
        refine e_iconst (v := 1) d_Q_appendBytes_35 (by decide) ?_
        refine e_iadd d_Q_appendBytes_36 ?_
        obtain ⟨M8, hM8, h⟩ := bnd h
        refine e_putI d_Q_appendBytes_37 fl_Q_13 (Or.inl rfl) (fun _ _ _ => rfl) rfl hM8 ?_
        refine e_iinc (v := x2 + (-8)) (l2 := [some (.ref x0), some (.int x1), some (.int (x2 + (-8)))]) d_Q_appendBytes_40 rfl rfl rfl (okl rfl) rfl ?_
        refine e_goto 3 d_Q_appendBytes_43 (by decide) ?_
        exact (ih x0 x1 (x2 + (-8)) M8 z h).less (show LSub _ _ from ⟨rfl, ⟨rfl, ⟨rfl, trivial⟩⟩⟩)
def f_Q_appendBytes (n : Nat) (x0 : Nat) (x1 : Int32) (M : MM) : Option (MM) :=
  og 11 x0 M <|
  f_Q_appendBytes_3 n n x0 x1 24 M
theorem fc_Q_appendBytes {n : Nat} {x0 : Nat} {x1 : Int32} {M : MM} {z : MM} (h : f_Q_appendBytes n x0 x1 M = some z) : (M.1.2.1 x0).1 = 11 := by
  unfold f_Q_appendBytes at h
  exact (og_s h).1
theorem t_Q_appendBytes (n : Nat) (x0 : Nat) (x1 : Int32) (M : MM) (z : MM) (h : f_Q_appendBytes n x0 x1 M = some z) : CT m_Q_appendBytes (rm 1 0 0) [.ref x0, .int x1] M none z := by
  unfold f_Q_appendBytes at h
  obtain ⟨hthis, h⟩ := og_s h
  refine CT.of (ls := [some (.ref x0), some (.int x1), none]) rfl (okp rfl) rfl ?_
  refine e_bipush (v := 24) d_Q_appendBytes_0 (by decide) ?_
  refine e_istore_n (l2 := [some (.ref x0), some (.int x1), some (.int 24)]) d_Q_appendBytes_2 rfl (okl rfl) rfl ?_
  exact (t_Q_appendBytes_3 n n x0 x1 24 M z h).less (show LSub _ _ from ⟨rfl, ⟨rfl, ⟨rfl, trivial⟩⟩⟩)
theorem d_Q_feed_0 : DC m_Q_feed 0 (.aload_n 0) 1 1 := ⟨by decide +kernel, rfl⟩
theorem d_Q_feed_1 : DC m_Q_feed 1 (.getfield 13) 3 4 := ⟨by decide +kernel, rfl⟩
theorem d_Q_feed_4 : DC m_Q_feed 4 (.bipush 20) 2 6 := ⟨by decide +kernel, rfl⟩
theorem d_Q_feed_6 : DC m_Q_feed 6 .iadd 1 7 := ⟨by decide +kernel, rfl⟩
theorem d_Q_feed_7 : DC m_Q_feed 7 (.sipush 2000) 3 10 := ⟨by decide +kernel, rfl⟩
theorem d_Q_feed_10 : DC m_Q_feed 10 (.if_icmp .le 5) 3 13 := ⟨by decide +kernel, rfl⟩
theorem d_Q_feed_13 : DC m_Q_feed 13 (.iconst (-1)) 1 14 := ⟨by decide +kernel, rfl⟩
theorem d_Q_feed_14 : DC m_Q_feed 14 .ireturn 1 15 := ⟨by decide +kernel, rfl⟩
theorem d_Q_feed_15 : DC m_Q_feed 15 (.aload_n 0) 1 16 := ⟨by decide +kernel, rfl⟩
theorem d_Q_feed_16 : DC m_Q_feed 16 (.iload_n 1) 1 17 := ⟨by decide +kernel, rfl⟩
theorem d_Q_feed_17 : DC m_Q_feed 17 (.invokevirtual 105) 3 20 := ⟨by decide +kernel, rfl⟩
theorem d_Q_feed_20 : DC m_Q_feed 20 (.aload_n 0) 1 21 := ⟨by decide +kernel, rfl⟩
theorem d_Q_feed_21 : DC m_Q_feed 21 (.iload_n 2) 1 22 := ⟨by decide +kernel, rfl⟩
theorem d_Q_feed_22 : DC m_Q_feed 22 (.invokevirtual 105) 3 25 := ⟨by decide +kernel, rfl⟩
theorem d_Q_feed_25 : DC m_Q_feed 25 (.aload_n 0) 1 26 := ⟨by decide +kernel, rfl⟩
theorem d_Q_feed_26 : DC m_Q_feed 26 (.iload_n 3) 1 27 := ⟨by decide +kernel, rfl⟩
theorem d_Q_feed_27 : DC m_Q_feed 27 (.invokevirtual 105) 3 30 := ⟨by decide +kernel, rfl⟩
theorem d_Q_feed_30 : DC m_Q_feed 30 (.aload_n 0) 1 31 := ⟨by decide +kernel, rfl⟩
theorem d_Q_feed_31 : DC m_Q_feed 31 (.iload 4) 2 33 := ⟨by decide +kernel, rfl⟩
theorem d_Q_feed_33 : DC m_Q_feed 33 (.invokevirtual 105) 3 36 := ⟨by decide +kernel, rfl⟩
theorem d_Q_feed_36 : DC m_Q_feed 36 (.aload_n 0) 1 37 := ⟨by decide +kernel, rfl⟩
theorem d_Q_feed_37 : DC m_Q_feed 37 (.iload 5) 2 39 := ⟨by decide +kernel, rfl⟩
theorem d_Q_feed_39 : DC m_Q_feed 39 (.invokevirtual 105) 3 42 := ⟨by decide +kernel, rfl⟩
theorem d_Q_feed_42 : DC m_Q_feed 42 (.aload_n 0) 1 43 := ⟨by decide +kernel, rfl⟩
theorem d_Q_feed_43 : DC m_Q_feed 43 (.getfield 13) 3 46 := ⟨by decide +kernel, rfl⟩
theorem d_Q_feed_46 : DC m_Q_feed 46 .ireturn 1 47 := ⟨by decide +kernel, rfl⟩
def f_Q_feed (n : Nat) (x0 : Nat) (x1 : Int32) (x2 : Int32) (x3 : Int32) (x4 : Int32) (x5 : Int32) (M : MM) : Option (Int32 × MM) :=
  og 11 x0 M <|
  (gI 11 1 x0 M).bind fun v1 =>
  if (v1 + 20) ≤ 2000 then
    (f_Q_appendBytes n x0 x1 M).bind fun M3 =>
    (f_Q_appendBytes n x0 x2 M3).bind fun M4 =>
    (f_Q_appendBytes n x0 x3 M4).bind fun M5 =>
    (f_Q_appendBytes n x0 x4 M5).bind fun M6 =>
    (f_Q_appendBytes n x0 x5 M6).bind fun M7 =>
    (gI 11 1 x0 M7).bind fun v8 =>
    some (v8, M7)
  else
    some ((-1), M)
theorem fc_Q_feed {n : Nat} {x0 : Nat} {x1 : Int32} {x2 : Int32} {x3 : Int32} {x4 : Int32} {x5 : Int32} {M : MM} {z : Int32 × MM} (h : f_Q_feed n x0 x1 x2 x3 x4 x5 M = some z) : (M.1.2.1 x0).1 = 11 := by
  unfold f_Q_feed at h
  exact (og_s h).1
theorem t_Q_feed (n : Nat) (x0 : Nat) (x1 : Int32) (x2 : Int32) (x3 : Int32) (x4 : Int32) (x5 : Int32) (M : MM) (z : Int32 × MM) (h : f_Q_feed n x0 x1 x2 x3 x4 x5 M = some z) : CT m_Q_feed (rm 2 0 0) [.ref x0, .int x1, .int x2, .int x3, .int x4, .int x5] M (some (.int z.1)) z.2 := by
  unfold f_Q_feed at h
  obtain ⟨hthis, h⟩ := og_s h
  refine CT.of (ls := [some (.ref x0), some (.int x1), some (.int x2), some (.int x3), some (.int x4), some (.int x5)]) rfl (okp rfl) rfl ?_
  refine e_aload_n d_Q_feed_0 rfl ?_
  obtain ⟨v1, hv1, h⟩ := bnd h
  refine e_getI d_Q_feed_1 fl_Q_13 (fun _ _ _ => rfl) hv1 ?_
  refine e_bipush (v := 20) d_Q_feed_4 (by decide) ?_
  refine e_iadd d_Q_feed_6 ?_
  refine e_sipush (v := 2000) d_Q_feed_7 (by decide) ?_
  refine e_ic_le 15 d_Q_feed_10 (by decide) (fun c2 => ?_) (fun c2 => ?_)
  · replace h := ift c2 h
    refine e_aload_n d_Q_feed_15 rfl ?_
    refine e_iload_n d_Q_feed_16 rfl ?_
    obtain ⟨M3, hM3, h⟩ := bnd h
    refine e_cVv (mt1 := m_Q_appendBytes) (As := [.int x1]) (st := []) d_Q_feed_17 ml_Q_105 mv_Q_appendBytes (t_Q_appendBytes n x0 x1 M M3 hM3) (fc_Q_appendBytes hM3) rfl rfl rfl (okp rfl) (okp rfl) (okp rfl) (Nat.le_refl _) (Nat.le_refl _) ?_
    refine e_aload_n d_Q_feed_20 rfl ?_
    refine e_iload_n d_Q_feed_21 rfl ?_
    obtain ⟨M4, hM4, h⟩ := bnd h
    refine e_cVv (mt1 := m_Q_appendBytes) (As := [.int x2]) (st := []) d_Q_feed_22 ml_Q_105 mv_Q_appendBytes (t_Q_appendBytes n x0 x2 M3 M4 hM4) (fc_Q_appendBytes hM4) rfl rfl rfl (okp rfl) (okp rfl) (okp rfl) (Nat.le_refl _) (Nat.le_refl _) ?_
    refine e_aload_n d_Q_feed_25 rfl ?_
    refine e_iload_n d_Q_feed_26 rfl ?_
    obtain ⟨M5, hM5, h⟩ := bnd h
    refine e_cVv (mt1 := m_Q_appendBytes) (As := [.int x3]) (st := []) d_Q_feed_27 ml_Q_105 mv_Q_appendBytes (t_Q_appendBytes n x0 x3 M4 M5 hM5) (fc_Q_appendBytes hM5) rfl rfl rfl (okp rfl) (okp rfl) (okp rfl) (Nat.le_refl _) (Nat.le_refl _) ?_
    refine e_aload_n d_Q_feed_30 rfl ?_
    refine e_iload d_Q_feed_31 rfl ?_
    obtain ⟨M6, hM6, h⟩ := bnd h
    refine e_cVv (mt1 := m_Q_appendBytes) (As := [.int x4]) (st := []) d_Q_feed_33 ml_Q_105 mv_Q_appendBytes (t_Q_appendBytes n x0 x4 M5 M6 hM6) (fc_Q_appendBytes hM6) rfl rfl rfl (okp rfl) (okp rfl) (okp rfl) (Nat.le_refl _) (Nat.le_refl _) ?_
    refine e_aload_n d_Q_feed_36 rfl ?_
    refine e_iload d_Q_feed_37 rfl ?_
    obtain ⟨M7, hM7, h⟩ := bnd h
    refine e_cVv (mt1 := m_Q_appendBytes) (As := [.int x5]) (st := []) d_Q_feed_39 ml_Q_105 mv_Q_appendBytes (t_Q_appendBytes n x0 x5 M6 M7 hM7) (fc_Q_appendBytes hM7) rfl rfl rfl (okp rfl) (okp rfl) (okp rfl) (Nat.le_refl _) (Nat.le_refl _) ?_
    refine e_aload_n d_Q_feed_42 rfl ?_
    obtain ⟨v8, hv8, h⟩ := bnd h
    refine e_getI d_Q_feed_43 fl_Q_13 (fun _ _ _ => rfl) hv8 ?_
    cases h
    exact e_iret d_Q_feed_46 rfl (Nat.le_refl _) (Nat.le_refl _)
  · replace h := ifn c2 h
    refine e_iconst (v := (-1)) d_Q_feed_13 (by decide) ?_
    cases h
    exact e_iret d_Q_feed_14 rfl (Nat.le_refl _) (Nat.le_refl _)
theorem d_Q_back_0 : DC m_Q_back 0 (.iload_n 1) 1 1 := ⟨by decide +kernel, rfl⟩
theorem d_Q_back_1 : DC m_Q_back 1 (.ifCond .lt 11) 3 4 := ⟨by decide +kernel, rfl⟩
theorem d_Q_back_4 : DC m_Q_back 4 (.iload_n 1) 1 5 := ⟨by decide +kernel, rfl⟩
theorem d_Q_back_5 : DC m_Q_back 5 (.aload_n 0) 1 6 := ⟨by decide +kernel, rfl⟩
theorem d_Q_back_6 : DC m_Q_back 6 (.getfield 13) 3 9 := ⟨by decide +kernel, rfl⟩
theorem d_Q_back_9 : DC m_Q_back 9 (.if_icmp .le 5) 3 12 := ⟨by decide +kernel, rfl⟩
theorem d_Q_back_12 : DC m_Q_back 12 (.iconst (-1)) 1 13 := ⟨by decide +kernel, rfl⟩
theorem d_Q_back_13 : DC m_Q_back 13 .ireturn 1 14 := ⟨by decide +kernel, rfl⟩
theorem d_Q_back_14 : DC m_Q_back 14 (.aload_n 0) 1 15 := ⟨by decide +kernel, rfl⟩
theorem d_Q_back_15 : DC m_Q_back 15 .dup 1 16 := ⟨by decide +kernel, rfl⟩
theorem d_Q_back_16 : DC m_Q_back 16 (.getfield 13) 3 19 := ⟨by decide +kernel, rfl⟩
theorem d_Q_back_19 : DC m_Q_back 19 (.iload_n 1) 1 20 := ⟨by decide +kernel, rfl⟩
theorem d_Q_back_20 : DC m_Q_back 20 .isub 1 21 := ⟨by decide +kernel, rfl⟩
theorem d_Q_back_21 : DC m_Q_back 21 (.putfield 13) 3 24 := ⟨by decide +kernel, rfl⟩
theorem d_Q_back_24 : DC m_Q_back 24 (.aload_n 0) 1 25 := ⟨by decide +kernel, rfl⟩
theorem d_Q_back_25 : DC m_Q_back 25 (.getfield 13) 3 28 := ⟨by decide +kernel, rfl⟩
theorem d_Q_back_28 : DC m_Q_back 28 .ireturn 1 29 := ⟨by decide +kernel, rfl⟩
def f_Q_back (n : Nat) (x0 : Nat) (x1 : Int32) (M : MM) : Option (Int32 × MM) :=
  og 11 x0 M <|
  if x1 < 0 then
    some ((-1), M)
  else
    (gI 11 1 x0 M).bind fun v2 =>
    if x1 ≤ v2 then
      (gI 11 1 x0 M).bind fun v4 =>
      (pI 11 1 x0 (v4 - x1) M).bind fun M5 =>
      (gI 11 1 x0 M5).bind fun v6 =>
      some (v6, M5)
    else
      some ((-1), M)
theorem fc_Q_back {n : Nat} {x0 : Nat} {x1 : Int32} {M : MM} {z : Int32 × MM} (h : f_Q_back n x0 x1 M = some z) : (M.1.2.1 x0).1 = 11 := by
  unfold f_Q_back at h
  exact (og_s h).1
theorem t_Q_back (n : Nat) (x0 : Nat) (x1 : Int32) (M : MM) (z : Int32 × MM) (h : f_Q_back n x0 x1 M = some z) : CT m_Q_back (rm 1 0 0) [.ref x0, .int x1] M (some (.int z.1)) z.2 := by
  unfold f_Q_back at h
  obtain ⟨hthis, h⟩ := og_s h
  refine CT.of (ls := [some (.ref x0), some (.int x1)]) rfl (okp rfl) rfl ?_
  refine e_iload_n d_Q_back_0 rfl ?_
  refine e_if_lt 12 d_Q_back_1 (by decide) (fun c1 => ?_) (fun c1 => ?_)
  · replace h := ift c1 h
    refine e_iconst (v := (-1)) d_Q_back_12 (by decide) ?_
    cases h
    exact e_iret d_Q_back_13 rfl (Nat.le_refl _) (Nat.le_refl _)
  · replace h := ifn c1 h
    refine e_iload_n d_Q_back_4 rfl ?_
    refine e_aload_n d_Q_back_5 rfl ?_
    obtain ⟨v2, hv2, h⟩ := bnd h
    refine e_getI d_Q_back_6 fl_Q_13 (fun _ _ _ => rfl) hv2 ?_
    refine e_ic_le 14 d_Q_back_9 (by decide) (fun c3 => ?_) (fun c3 => ?_)
    · replace h := ift c3 h
      refine e_aload_n d_Q_back_14 rfl ?_
      refine e_dup d_Q_back_15 rfl ?_
      obtain ⟨v4, hv4, h⟩ := bnd h
      refine e_getI d_Q_back_16 fl_Q_13 (fun _ _ _ => rfl) hv4 ?_
      refine e_iload_n d_Q_back_19 rfl ?_
      refine e_isub d_Q_back_20 ?_
      obtain ⟨M5, hM5, h⟩ := bnd h
      refine e_putI d_Q_back_21 fl_Q_13 (Or.inl rfl) (fun _ _ _ => rfl) rfl hM5 ?_
      refine e_aload_n d_Q_back_24 rfl ?_
      obtain ⟨v6, hv6, h⟩ := bnd h
      refine e_getI d_Q_back_25 fl_Q_13 (fun _ _ _ => rfl) hv6 ?_
      cases h
      exact e_iret d_Q_back_28 rfl (Nat.le_refl _) (Nat.le_refl _)
    · replace h := ifn c3 h
      refine e_iconst (v := (-1)) d_Q_back_12 (by decide) ?_
      cases h
      exact e_iret d_Q_back_13 rfl (Nat.le_refl _) (Nat.le_refl _)
theorem d_Q_takeOver_0 : DC m_Q_takeOver 0 (.aload_n 0) 1 1 := ⟨by decide +kernel, rfl⟩
theorem d_Q_takeOver_1 : DC m_Q_takeOver 1 (.iconst 0) 1 2 := ⟨by decide +kernel, rfl⟩
theorem d_Q_takeOver_2 : DC m_Q_takeOver 2 (.putfield 63) 3 5 := ⟨by decide +kernel, rfl⟩
theorem d_Q_takeOver_5 : DC m_Q_takeOver 5 (.aload_n 0) 1 6 := ⟨by decide +kernel, rfl⟩
theorem d_Q_takeOver_6 : DC m_Q_takeOver 6 (.iconst 0) 1 7 := ⟨by decide +kernel, rfl⟩
theorem d_Q_takeOver_7 : DC m_Q_takeOver 7 (.putfield 66) 3 10 := ⟨by decide +kernel, rfl⟩
theorem d_Q_takeOver_10 : DC m_Q_takeOver 10 (.iconst 0) 1 11 := ⟨by decide +kernel, rfl⟩
theorem d_Q_takeOver_11 : DC m_Q_takeOver 11 (.istore_n 1) 1 12 := ⟨by decide +kernel, rfl⟩
theorem d_Q_takeOver_12 : DC m_Q_takeOver 12 (.iload_n 1) 1 13 := ⟨by decide +kernel, rfl⟩
theorem d_Q_takeOver_13 : DC m_Q_takeOver 13 (.aload_n 0) 1 14 := ⟨by decide +kernel, rfl⟩
theorem d_Q_takeOver_14 : DC m_Q_takeOver 14 (.getfield 37) 3 17 := ⟨by decide +kernel, rfl⟩
theorem d_Q_takeOver_17 : DC m_Q_takeOver 17 (.getfield 286) 3 20 := ⟨by decide +kernel, rfl⟩
theorem d_Q_takeOver_20 : DC m_Q_takeOver 20 (.if_icmp .ge 116) 3 23 := ⟨by decide +kernel, rfl⟩
theorem d_Q_takeOver_23 : DC m_Q_takeOver 23 (.aload_n 0) 1 24 := ⟨by decide +kernel, rfl⟩
theorem d_Q_takeOver_24 : DC m_Q_takeOver 24 (.getfield 37) 3 27 := ⟨by decide +kernel, rfl⟩
theorem d_Q_takeOver_27 : DC m_Q_takeOver 27 (.getfield 289) 3 30 := ⟨by decide +kernel, rfl⟩
theorem d_Q_takeOver_30 : DC m_Q_takeOver 30 (.iload_n 1) 1 31 := ⟨by decide +kernel, rfl⟩
theorem d_Q_takeOver_31 : DC m_Q_takeOver 31 .baload 1 32 := ⟨by decide +kernel, rfl⟩
theorem d_Q_takeOver_32 : DC m_Q_takeOver 32 (.ifCond .eq 46) 3 35 := ⟨by decide +kernel, rfl⟩
theorem d_Q_takeOver_35 : DC m_Q_takeOver 35 (.aload_n 0) 1 36 := ⟨by decide +kernel, rfl⟩
theorem d_Q_takeOver_36 : DC m_Q_takeOver 36 (.getfield 66) 3 39 := ⟨by decide +kernel, rfl⟩
theorem d_Q_takeOver_39 : DC m_Q_takeOver 39 (.bipush 6) 2 41 := ⟨by decide +kernel, rfl⟩
theorem d_Q_takeOver_41 : DC m_Q_takeOver 41 (.if_icmp .ge 37) 3 44 := ⟨by decide +kernel, rfl⟩
theorem d_Q_takeOver_44 : DC m_Q_takeOver 44 (.aload_n 0) 1 45 := ⟨by decide +kernel, rfl⟩
theorem d_Q_takeOver_45 : DC m_Q_takeOver 45 (.getfield 60) 3 48 := ⟨by decide +kernel, rfl⟩
theorem d_Q_takeOver_48 : DC m_Q_takeOver 48 (.aload_n 0) 1 49 := ⟨by decide +kernel, rfl⟩
theorem d_Q_takeOver_49 : DC m_Q_takeOver 49 (.getfield 66) 3 52 := ⟨by decide +kernel, rfl⟩
theorem d_Q_takeOver_52 : DC m_Q_takeOver 52 .aaload 1 53 := ⟨by decide +kernel, rfl⟩
theorem d_Q_takeOver_53 : DC m_Q_takeOver 53 (.aload_n 0) 1 54 := ⟨by decide +kernel, rfl⟩
theorem d_Q_takeOver_54 : DC m_Q_takeOver 54 (.getfield 37) 3 57 := ⟨by decide +kernel, rfl⟩
theorem d_Q_takeOver_57 : DC m_Q_takeOver 57 (.getfield 293) 3 60 := ⟨by decide +kernel, rfl⟩
theorem d_Q_takeOver_60 : DC m_Q_takeOver 60 (.iload_n 1) 1 61 := ⟨by decide +kernel, rfl⟩
theorem d_Q_takeOver_61 : DC m_Q_takeOver 61 .aaload 1 62 := ⟨by decide +kernel, rfl⟩
theorem d_Q_takeOver_62 : DC m_Q_takeOver 62 (.invokevirtual 297) 3 65 := ⟨by decide +kernel, rfl⟩
theorem d_Q_takeOver_65 : DC m_Q_takeOver 65 (.aload_n 0) 1 66 := ⟨by decide +kernel, rfl⟩
theorem d_Q_takeOver_66 : DC m_Q_takeOver 66 .dup 1 67 := ⟨by decide +kernel, rfl⟩
theorem d_Q_takeOver_67 : DC m_Q_takeOver 67 (.getfield 66) 3 70 := ⟨by decide +kernel, rfl⟩
theorem d_Q_takeOver_70 : DC m_Q_takeOver 70 (.iconst 1) 1 71 := ⟨by decide +kernel, rfl⟩
theorem d_Q_takeOver_71 : DC m_Q_takeOver 71 .iadd 1 72 := ⟨by decide +kernel, rfl⟩
theorem d_Q_takeOver_72 : DC m_Q_takeOver 72 (.putfield 66) 3 75 := ⟨by decide +kernel, rfl⟩
theorem d_Q_takeOver_75 : DC m_Q_takeOver 75 (.goto 55) 3 78 := ⟨by decide +kernel, rfl⟩
theorem d_Q_takeOver_78 : DC m_Q_takeOver 78 (.aload_n 0) 1 79 := ⟨by decide +kernel, rfl⟩
theorem d_Q_takeOver_79 : DC m_Q_takeOver 79 (.getfield 37) 3 82 := ⟨by decide +kernel, rfl⟩
theorem d_Q_takeOver_82 : DC m_Q_takeOver 82 (.getfield 289) 3 85 := ⟨by decide +kernel, rfl⟩
theorem d_Q_takeOver_85 : DC m_Q_takeOver 85 (.iload_n 1) 1 86 := ⟨by decide +kernel, rfl⟩
theorem d_Q_takeOver_86 : DC m_Q_takeOver 86 .baload 1 87 := ⟨by decide +kernel, rfl⟩
theorem d_Q_takeOver_87 : DC m_Q_takeOver 87 (.ifCond .ne 43) 3 90 := ⟨by decide +kernel, rfl⟩
theorem d_Q_takeOver_90 : DC m_Q_takeOver 90 (.aload_n 0) 1 91 := ⟨by decide +kernel, rfl⟩
theorem d_Q_takeOver_91 : DC m_Q_takeOver 91 (.getfield 63) 3 94 := ⟨by decide +kernel, rfl⟩
theorem d_Q_takeOver_94 : DC m_Q_takeOver 94 (.bipush 8) 2 96 := ⟨by decide +kernel, rfl⟩
theorem d_Q_takeOver_96 : DC m_Q_takeOver 96 (.if_icmp .ge 34) 3 99 := ⟨by decide +kernel, rfl⟩
theorem d_Q_takeOver_99 : DC m_Q_takeOver 99 (.aload_n 0) 1 100 := ⟨by decide +kernel, rfl⟩
theorem d_Q_takeOver_100 : DC m_Q_takeOver 100 (.getfield 57) 3 103 := ⟨by decide +kernel, rfl⟩
theorem d_Q_takeOver_103 : DC m_Q_takeOver 103 (.aload_n 0) 1 104 := ⟨by decide +kernel, rfl⟩
theorem d_Q_takeOver_104 : DC m_Q_takeOver 104 (.getfield 63) 3 107 := ⟨by decide +kernel, rfl⟩
theorem d_Q_takeOver_107 : DC m_Q_takeOver 107 .aaload 1 108 := ⟨by decide +kernel, rfl⟩
theorem d_Q_takeOver_108 : DC m_Q_takeOver 108 (.aload_n 0) 1 109 := ⟨by decide +kernel, rfl⟩
theorem d_Q_takeOver_109 : DC m_Q_takeOver 109 (.getfield 37) 3 112 := ⟨by decide +kernel, rfl⟩
theorem d_Q_takeOver_112 : DC m_Q_takeOver 112 (.getfield 293) 3 115 := ⟨by decide +kernel, rfl⟩
theorem d_Q_takeOver_115 : DC m_Q_takeOver 115 (.iload_n 1) 1 116 := ⟨by decide +kernel, rfl⟩
theorem d_Q_takeOver_116 : DC m_Q_takeOver 116 .aaload 1 117 := ⟨by decide +kernel, rfl⟩
theorem d_Q_takeOver_117 : DC m_Q_takeOver 117 (.invokevirtual 297) 3 120 := ⟨by decide +kernel, rfl⟩
theorem d_Q_takeOver_120 : DC m_Q_takeOver 120 (.aload_n 0) 1 121 := ⟨by decide +kernel, rfl⟩
theorem d_Q_takeOver_121 : DC m_Q_takeOver 121 .dup 1 122 := ⟨by decide +kernel, rfl⟩
theorem d_Q_takeOver_122 : DC m_Q_takeOver 122 (.getfield 63) 3 125 := ⟨by decide +kernel, rfl⟩
theorem d_Q_takeOver_125 : DC m_Q_takeOver 125 (.iconst 1) 1 126 := ⟨by decide +kernel, rfl⟩
theorem d_Q_takeOver_126 : DC m_Q_takeOver 126 .iadd 1 127 := ⟨by decide +kernel, rfl⟩
theorem d_Q_takeOver_127 : DC m_Q_takeOver 127 (.putfield 63) 3 130 := ⟨by decide +kernel, rfl⟩
theorem d_Q_takeOver_130 : DC m_Q_takeOver 130 (.iinc 1 1) 3 133 := ⟨by decide +kernel, rfl⟩
theorem d_Q_takeOver_133 : DC m_Q_takeOver 133 (.goto (-121)) 3 136 := ⟨by decide +kernel, rfl⟩
theorem d_Q_takeOver_136 : DC m_Q_takeOver 136 (.aload_n 0) 1 137 := ⟨by decide +kernel, rfl⟩
theorem d_Q_takeOver_137 : DC m_Q_takeOver 137 (.getfield 86) 3 140 := ⟨by decide +kernel, rfl⟩
theorem d_Q_takeOver_140 : DC m_Q_takeOver 140 (.invokevirtual 300) 3 143 := ⟨by decide +kernel, rfl⟩
theorem d_Q_takeOver_143 : DC m_Q_takeOver 143 (.aload_n 0) 1 144 := ⟨by decide +kernel, rfl⟩
theorem d_Q_takeOver_144 : DC m_Q_takeOver 144 (.getfield 93) 3 147 := ⟨by decide +kernel, rfl⟩
theorem d_Q_takeOver_147 : DC m_Q_takeOver 147 (.invokevirtual 303) 3 150 := ⟨by decide +kernel, rfl⟩
theorem d_Q_takeOver_150 : DC m_Q_takeOver 150 (.aload_n 0) 1 151 := ⟨by decide +kernel, rfl⟩
theorem d_Q_takeOver_151 : DC m_Q_takeOver 151 (.getfield 49) 3 154 := ⟨by decide +kernel, rfl⟩
theorem d_Q_takeOver_154 : DC m_Q_takeOver 154 (.invokevirtual 188) 3 157 := ⟨by decide +kernel, rfl⟩
theorem d_Q_takeOver_157 : DC m_Q_takeOver 157 (.aload_n 0) 1 158 := ⟨by decide +kernel, rfl⟩
theorem d_Q_takeOver_158 : DC m_Q_takeOver 158 (.getfield 49) 3 161 := ⟨by decide +kernel, rfl⟩
theorem d_Q_takeOver_161 : DC m_Q_takeOver 161 (.invokevirtual 304) 3 164 := ⟨by decide +kernel, rfl⟩
theorem d_Q_takeOver_164 : DC m_Q_takeOver 164 (.aload_n 0) 1 165 := ⟨by decide +kernel, rfl⟩
theorem d_Q_takeOver_165 : DC m_Q_takeOver 165 (.getfield 79) 3 168 := ⟨by decide +kernel, rfl⟩
theorem d_Q_takeOver_168 : DC m_Q_takeOver 168 (.invokevirtual 216) 3 171 := ⟨by decide +kernel, rfl⟩
theorem d_Q_takeOver_171 : DC m_Q_takeOver 171 .return_ 1 172 := ⟨by decide +kernel, rfl⟩
def f_Q_takeOver_136 (n : Nat) (x0 : Nat) (M : MM) : Option (MM) :=
  (gR 11 14 x0 M).bind fun v1 =>
  (f_Table_empty n v1 M).bind fun M2 =>
  (gR 11 15 x0 M2).bind fun v3 =>
  (f_Book_empty n v3 M2).bind fun M4 =>
  (gR 11 12 x0 M4).bind fun v5 =>
  (f_Filler_forget n v5 M4).bind fun M6 =>
  (gR 11 12 x0 M6).bind fun v7 =>
  (f_Filler_forgetSets n v7 M6).bind fun M8 =>
  (gR 11 13 x0 M8).bind fun v9 =>
  (f_Cutter_forget n v9 M8).bind fun M10 =>
  some M10
theorem t_Q_takeOver_136 (n : Nat) (x0 : Nat) (M : MM) (z : MM) (h : f_Q_takeOver_136 n x0 M = some z) : EV m_Q_takeOver (rm 5 0 0) none z 0 0 136 [some (.ref x0), none] [] M := by
  unfold f_Q_takeOver_136 at h
  refine e_aload_n d_Q_takeOver_136 rfl ?_
  obtain ⟨v1, hv1, h⟩ := bnd h
  refine e_getR d_Q_takeOver_137 fl_Q_86 (fun _ _ _ => rfl) hv1 ?_
  obtain ⟨M2, hM2, h⟩ := bnd h
  refine e_cVv (mt1 := m_Table_empty) (As := []) (st := []) d_Q_takeOver_140 ml_Q_300 mv_Table_empty (t_Table_empty n v1 M M2 hM2) (fc_Table_empty hM2) rfl rfl rfl (okp rfl) (okp rfl) (okp rfl) (Nat.le_refl _) (Nat.le_refl _) ?_
  refine e_aload_n d_Q_takeOver_143 rfl ?_
  obtain ⟨v3, hv3, h⟩ := bnd h
  refine e_getR d_Q_takeOver_144 fl_Q_93 (fun _ _ _ => rfl) hv3 ?_
  obtain ⟨M4, hM4, h⟩ := bnd h
  refine e_cVv (mt1 := m_Book_empty) (As := []) (st := []) d_Q_takeOver_147 ml_Q_303 mv_Book_empty (t_Book_empty n v3 M2 M4 hM4) (fc_Book_empty hM4) rfl rfl rfl (okp rfl) (okp rfl) (okp rfl) (Nat.le_refl _) (Nat.le_refl _) ?_
  refine e_aload_n d_Q_takeOver_150 rfl ?_
  obtain ⟨v5, hv5, h⟩ := bnd h
  refine e_getR d_Q_takeOver_151 fl_Q_49 (fun _ _ _ => rfl) hv5 ?_
  obtain ⟨M6, hM6, h⟩ := bnd h
  refine e_cVv (mt1 := m_Filler_forget) (As := []) (st := []) d_Q_takeOver_154 ml_Q_188 mv_Filler_forget (t_Filler_forget n v5 M4 M6 hM6) (fc_Filler_forget hM6) rfl rfl rfl (okp rfl) (okp rfl) (okp rfl) (Nat.le_refl _) (Nat.le_refl _) ?_
  refine e_aload_n d_Q_takeOver_157 rfl ?_
  obtain ⟨v7, hv7, h⟩ := bnd h
  refine e_getR d_Q_takeOver_158 fl_Q_49 (fun _ _ _ => rfl) hv7 ?_
  obtain ⟨M8, hM8, h⟩ := bnd h
  refine e_cVv (mt1 := m_Filler_forgetSets) (As := []) (st := []) d_Q_takeOver_161 ml_Q_304 mv_Filler_forgetSets (t_Filler_forgetSets n v7 M6 M8 hM8) (fc_Filler_forgetSets hM8) rfl rfl rfl (okp rfl) (okp rfl) (okp rfl) (Nat.le_refl _) (Nat.le_refl _) ?_
  refine e_aload_n d_Q_takeOver_164 rfl ?_
  obtain ⟨v9, hv9, h⟩ := bnd h
  refine e_getR d_Q_takeOver_165 fl_Q_79 (fun _ _ _ => rfl) hv9 ?_
  obtain ⟨M10, hM10, h⟩ := bnd h
  refine e_cVv (mt1 := m_Cutter_forget) (As := []) (st := []) d_Q_takeOver_168 ml_Q_216 mv_Cutter_forget (t_Cutter_forget n v9 M8 M10 hM10) (fc_Cutter_forget hM10) rfl rfl rfl (okp rfl) (okp rfl) (okp rfl) (Nat.le_refl _) (Nat.le_refl _) ?_
  cases h
  exact e_vret d_Q_takeOver_171 rfl (Nat.le_refl _) (Nat.le_refl _)
def f_Q_takeOver_130 (n : Nat) (k_12 : Nat → Int32 → MM → Option (MM)) (x0 : Nat) (x1 : Int32) (M : MM) : Option (MM) :=
  k_12 x0 (x1 + 1) M
theorem t_Q_takeOver_130 (n : Nat) {k_12 : Nat → Int32 → MM → Option (MM)} (hk_12 : ∀ (x0 : Nat) (x1 : Int32) (M : MM) (z : MM), k_12 x0 x1 M = some z → EV m_Q_takeOver (rm 5 0 0) none z 0 0 12 [some (.ref x0), some (.int x1)] [] M) (x0 : Nat) (x1 : Int32) (M : MM) (z : MM) (h : f_Q_takeOver_130 n k_12 x0 x1 M = some z) : EV m_Q_takeOver (rm 5 0 0) none z 0 0 130 [some (.ref x0), some (.int x1)] [] M := by
  unfold f_Q_takeOver_130 at h
  refine e_iinc (v := x1 + 1) (l2 := [some (.ref x0), some (.int (x1 + 1))]) d_Q_takeOver_130 rfl rfl rfl (okl rfl) rfl ?_
  refine e_goto 12 d_Q_takeOver_133 (by decide) ?_
  exact (hk_12 x0 (x1 + 1) M z h).less (show LSub _ _ from ⟨rfl, ⟨rfl, trivial⟩⟩)
def f_Q_takeOver_78 (n : Nat) (k_12 : Nat → Int32 → MM → Option (MM)) (x0 : Nat) (x1 : Int32) (M : MM) : Option (MM) :=
  (gR 11 10 x0 M).bind fun v11 =>
  (gR 1 1 v11 M).bind fun v12 =>
  (aI 102 v12 x1 M).bind fun v13 =>
  if v13 = 0 then
    (gI 11 5 x0 M).bind fun v15 =>
    if 8 ≤ v15 then
      f_Q_takeOver_130 n k_12 x0 x1 M
    else
      (gR 11 3 x0 M).bind fun v17 =>
      (gI 11 5 x0 M).bind fun v18 =>
      (aR 105 v17 v18 M).bind fun v19 =>
      (gR 11 10 x0 M).bind fun v20 =>
      (gR 1 0 v20 M).bind fun v21 =>
      (aR 104 v21 x1 M).bind fun v22 =>
      (f_Form_tell n v19 v22 M).bind fun M23 =>
      (gI 11 5 x0 M23).bind fun v24 =>
      (pI 11 5 x0 (v24 + 1) M23).bind fun M25 =>
      f_Q_takeOver_130 n k_12 x0 x1 M25
  else
    f_Q_takeOver_130 n k_12 x0 x1 M
theorem t_Q_takeOver_78 (n : Nat) {k_12 : Nat → Int32 → MM → Option (MM)} (hk_12 : ∀ (x0 : Nat) (x1 : Int32) (M : MM) (z : MM), k_12 x0 x1 M = some z → EV m_Q_takeOver (rm 5 0 0) none z 0 0 12 [some (.ref x0), some (.int x1)] [] M) (x0 : Nat) (x1 : Int32) (M : MM) (z : MM) (h : f_Q_takeOver_78 n k_12 x0 x1 M = some z) : EV m_Q_takeOver (rm 5 0 0) none z 0 0 78 [some (.ref x0), some (.int x1)] [] M := by
  unfold f_Q_takeOver_78 at h
  refine e_aload_n d_Q_takeOver_78 rfl ?_
  obtain ⟨v11, hv11, h⟩ := bnd h
  refine e_getR d_Q_takeOver_79 fl_Q_37 (fun _ _ _ => rfl) hv11 ?_
  obtain ⟨v12, hv12, h⟩ := bnd h
  refine e_getR d_Q_takeOver_82 fl_Q_289 (fun _ _ _ => rfl) hv12 ?_
  refine e_iload_n d_Q_takeOver_85 rfl ?_
  obtain ⟨v13, hv13, h⟩ := bnd h
  refine e_zald d_Q_takeOver_86 hv13 ?_
  refine e_if_ne 130 d_Q_takeOver_87 (by decide) (fun c14 => ?_) (fun c14 => ?_)
  · replace h := ifn c14 h
    exact (t_Q_takeOver_130 n hk_12 x0 x1 M z h).less (show LSub _ _ from ⟨rfl, ⟨rfl, trivial⟩⟩)
  · replace h := ift c14 h
    refine e_aload_n d_Q_takeOver_90 rfl ?_
    obtain ⟨v15, hv15, h⟩ := bnd h
    refine e_getI d_Q_takeOver_91 fl_Q_63 (fun _ _ _ => rfl) hv15 ?_
    refine e_bipush (v := 8) d_Q_takeOver_94 (by decide) ?_
    refine e_ic_ge 130 d_Q_takeOver_96 (by decide) (fun c16 => ?_) (fun c16 => ?_)
    · replace h := ift c16 h
      exact (t_Q_takeOver_130 n hk_12 x0 x1 M z h).less (show LSub _ _ from ⟨rfl, ⟨rfl, trivial⟩⟩)
    · replace h := ifn c16 h
      refine e_aload_n d_Q_takeOver_99 rfl ?_
      obtain ⟨v17, hv17, h⟩ := bnd h
      refine e_getR d_Q_takeOver_100 fl_Q_57 (fun _ _ _ => rfl) hv17 ?_
      refine e_aload_n d_Q_takeOver_103 rfl ?_
      obtain ⟨v18, hv18, h⟩ := bnd h
      refine e_getI d_Q_takeOver_104 fl_Q_63 (fun _ _ _ => rfl) hv18 ?_
      obtain ⟨v19, hv19, h⟩ := bnd h
      refine e_aald (kd := 105) d_Q_takeOver_107 (by decide) hv19 ?_
      refine e_aload_n d_Q_takeOver_108 rfl ?_
      obtain ⟨v20, hv20, h⟩ := bnd h
      refine e_getR d_Q_takeOver_109 fl_Q_37 (fun _ _ _ => rfl) hv20 ?_
      obtain ⟨v21, hv21, h⟩ := bnd h
      refine e_getR d_Q_takeOver_112 fl_Q_293 (fun _ _ _ => rfl) hv21 ?_
      refine e_iload_n d_Q_takeOver_115 rfl ?_
      obtain ⟨v22, hv22, h⟩ := bnd h
      refine e_aald (kd := 104) d_Q_takeOver_116 (by decide) hv22 ?_
      obtain ⟨M23, hM23, h⟩ := bnd h
      refine e_cVv (mt1 := m_Form_tell) (As := [.ref v22]) (st := []) d_Q_takeOver_117 ml_Q_297 mv_Form_tell (t_Form_tell n v19 v22 M M23 hM23) (fc_Form_tell hM23) rfl rfl rfl (okp rfl) (okp rfl) (okp rfl) (Nat.le_refl _) (Nat.le_refl _) ?_
      refine e_aload_n d_Q_takeOver_120 rfl ?_
      refine e_dup d_Q_takeOver_121 rfl ?_
      obtain ⟨v24, hv24, h⟩ := bnd h
      refine e_getI d_Q_takeOver_122 fl_Q_63 (fun _ _ _ => rfl) hv24 ?_
      refine e_iconst (v := 1) d_Q_takeOver_125 (by decide) ?_
      refine e_iadd d_Q_takeOver_126 ?_
      obtain ⟨M25, hM25, h⟩ := bnd h
      refine e_putI d_Q_takeOver_127 fl_Q_63 (Or.inl rfl) (fun _ _ _ => rfl) rfl hM25 ?_
      exact (t_Q_takeOver_130 n hk_12 x0 x1 M25 z h).less (show LSub _ _ from ⟨rfl, ⟨rfl, trivial⟩⟩)
def f_Q_takeOver_12 (n : Nat) (k_136 : Nat → MM → Option (MM)) : Nat → Nat → Int32 → MM → Option (MM)
  | 0, _, _, _ => none
  | m + 1, x0, x1, M =>
    (gR 11 10 x0 M).bind fun v26 =>
    (gI 1 2 v26 M).bind fun v27 =>
    if v27 ≤ x1 then
      k_136 x0 M
    else
      (gR 11 10 x0 M).bind fun v29 =>
      (gR 1 1 v29 M).bind fun v30 =>
      (aI 102 v30 x1 M).bind fun v31 =>
      if v31 = 0 then
        f_Q_takeOver_78 n (f_Q_takeOver_12 n k_136 m) x0 x1 M
      else
        (gI 11 6 x0 M).bind fun v33 =>
        if 6 ≤ v33 then
          f_Q_takeOver_78 n (f_Q_takeOver_12 n k_136 m) x0 x1 M
        else
          (gR 11 4 x0 M).bind fun v35 =>
          (gI 11 6 x0 M).bind fun v36 =>
          (aR 105 v35 v36 M).bind fun v37 =>
          (gR 11 10 x0 M).bind fun v38 =>
          (gR 1 0 v38 M).bind fun v39 =>
          (aR 104 v39 x1 M).bind fun v40 =>
          (f_Form_tell n v37 v40 M).bind fun M41 =>
          (gI 11 6 x0 M41).bind fun v42 =>
          (pI 11 6 x0 (v42 + 1) M41).bind fun M43 =>
          f_Q_takeOver_130 n (f_Q_takeOver_12 n k_136 m) x0 x1 M43
theorem t_Q_takeOver_12 (n : Nat) {k_136 : Nat → MM → Option (MM)} (hk_136 : ∀ (x0 : Nat) (M : MM) (z : MM), k_136 x0 M = some z → EV m_Q_takeOver (rm 5 0 0) none z 0 0 136 [some (.ref x0), none] [] M) : ∀ (m : Nat) (x0 : Nat) (x1 : Int32) (M : MM) (z : MM), f_Q_takeOver_12 n k_136 m x0 x1 M = some z → EV m_Q_takeOver (rm 5 0 0) none z 0 0 12 [some (.ref x0), some (.int x1)] [] M := by
  intro m
  induction m with
  | zero => intro x0 x1 M z h; cases h
  | succ m ih =>
    intro x0 x1 M z h
    rw [f_Q_takeOver_12] at h
    refine e_iload_n d_Q_takeOver_12 rfl ?_
    refine e_aload_n d_Q_takeOver_13 rfl ?_
    obtain ⟨v26, hv26, h⟩ := bnd h
    refine e_getR d_Q_takeOver_14 fl_Q_37 (fun _ _ _ => rfl) hv26 ?_
    obtain ⟨v27, hv27, h⟩ := bnd h
    refine e_getI d_Q_takeOver_17 fl_Q_286 (fun _ _ _ => rfl) hv27 ?_
    refine e_ic_ge 136 d_Q_takeOver_20 (by decide) (fun c28 => ?_) (fun c28 => ?_)
    · replace h := ift c28 h
      exact (hk_136 x0 M z h).less (show LSub _ _ from ⟨rfl, trivial⟩)
    · replace h := ifn c28 h
      refine e_aload_n d_Q_takeOver_23 rfl ?_
      obtain ⟨v29, hv29, h⟩ := bnd h
      refine e_getR d_Q_takeOver_24 fl_Q_37 (fun _ _ _ => rfl) hv29 ?_
      obtain ⟨v30, hv30, h⟩ := bnd h
      refine e_getR d_Q_takeOver_27 fl_Q_289 (fun _ _ _ => rfl) hv30 ?_
      refine e_iload_n d_Q_takeOver_30 rfl ?_
      obtain ⟨v31, hv31, h⟩ := bnd h
      refine e_zald d_Q_takeOver_31 hv31 ?_
      refine e_if_eq 78 d_Q_takeOver_32 (by decide) (fun c32 => ?_) (fun c32 => ?_)
      · replace h := ift c32 h
        exact (t_Q_takeOver_78 n ih x0 x1 M z h).less (show LSub _ _ from ⟨rfl, ⟨rfl, trivial⟩⟩)
      · replace h := ifn c32 h
        refine e_aload_n d_Q_takeOver_35 rfl ?_
        obtain ⟨v33, hv33, h⟩ := bnd h
        refine e_getI d_Q_takeOver_36 fl_Q_66 (fun _ _ _ => rfl) hv33 ?_
        refine e_bipush (v := 6) d_Q_takeOver_39 (by decide) ?_
        refine e_ic_ge 78 d_Q_takeOver_41 (by decide) (fun c34 => ?_) (fun c34 => ?_)
        · replace h := ift c34 h
          exact (t_Q_takeOver_78 n ih x0 x1 M z h).less (show LSub _ _ from ⟨rfl, ⟨rfl, trivial⟩⟩)
        · replace h := ifn c34 h
          refine e_aload_n d_Q_takeOver_44 rfl ?_
          obtain ⟨v35, hv35, h⟩ := bnd h
          refine e_getR d_Q_takeOver_45 fl_Q_60 (fun _ _ _ => rfl) hv35 ?_
          refine e_aload_n d_Q_takeOver_48 rfl ?_
          obtain ⟨v36, hv36, h⟩ := bnd h
          refine e_getI d_Q_takeOver_49 fl_Q_66 (fun _ _ _ => rfl) hv36 ?_
          obtain ⟨v37, hv37, h⟩ := bnd h
          refine e_aald (kd := 105) d_Q_takeOver_52 (by decide) hv37 ?_
          refine e_aload_n d_Q_takeOver_53 rfl ?_
          obtain ⟨v38, hv38, h⟩ := bnd h
          refine e_getR d_Q_takeOver_54 fl_Q_37 (fun _ _ _ => rfl) hv38 ?_
          obtain ⟨v39, hv39, h⟩ := bnd h
          refine e_getR d_Q_takeOver_57 fl_Q_293 (fun _ _ _ => rfl) hv39 ?_
          refine e_iload_n d_Q_takeOver_60 rfl ?_
          obtain ⟨v40, hv40, h⟩ := bnd h
          refine e_aald (kd := 104) d_Q_takeOver_61 (by decide) hv40 ?_
          obtain ⟨M41, hM41, h⟩ := bnd h
          refine e_cVv (mt1 := m_Form_tell) (As := [.ref v40]) (st := []) d_Q_takeOver_62 ml_Q_297 mv_Form_tell (t_Form_tell n v37 v40 M M41 hM41) (fc_Form_tell hM41) rfl rfl rfl (okp rfl) (okp rfl) (okp rfl) (Nat.le_refl _) (Nat.le_refl _) ?_
          refine e_aload_n d_Q_takeOver_65 rfl ?_
          refine e_dup d_Q_takeOver_66 rfl ?_
          obtain ⟨v42, hv42, h⟩ := bnd h
          refine e_getI d_Q_takeOver_67 fl_Q_66 (fun _ _ _ => rfl) hv42 ?_
          refine e_iconst (v := 1) d_Q_takeOver_70 (by decide) ?_
          refine e_iadd d_Q_takeOver_71 ?_
          obtain ⟨M43, hM43, h⟩ := bnd h
          refine e_putI d_Q_takeOver_72 fl_Q_66 (Or.inl rfl) (fun _ _ _ => rfl) rfl hM43 ?_
          refine e_goto 130 d_Q_takeOver_75 (by decide) ?_
          exact (t_Q_takeOver_130 n ih x0 x1 M43 z h).less (show LSub _ _ from ⟨rfl, ⟨rfl, trivial⟩⟩)
def f_Q_takeOver (n : Nat) (x0 : Nat) (M : MM) : Option (MM) :=
  og 11 x0 M <|
  (pI 11 5 x0 0 M).bind fun M44 =>
  (pI 11 6 x0 0 M44).bind fun M45 =>
  f_Q_takeOver_12 n (f_Q_takeOver_136 n) n x0 0 M45
theorem fc_Q_takeOver {n : Nat} {x0 : Nat} {M : MM} {z : MM} (h : f_Q_takeOver n x0 M = some z) : (M.1.2.1 x0).1 = 11 := by
  unfold f_Q_takeOver at h
  exact (og_s h).1
theorem t_Q_takeOver (n : Nat) (x0 : Nat) (M : MM) (z : MM) (h : f_Q_takeOver n x0 M = some z) : CT m_Q_takeOver (rm 5 0 0) [.ref x0] M none z := by
  unfold f_Q_takeOver at h
  obtain ⟨hthis, h⟩ := og_s h
  refine CT.of (ls := [some (.ref x0), none]) rfl (okp rfl) rfl ?_
  refine e_aload_n d_Q_takeOver_0 rfl ?_
  refine e_iconst (v := 0) d_Q_takeOver_1 (by decide) ?_
  obtain ⟨M44, hM44, h⟩ := bnd h
  refine e_putI d_Q_takeOver_2 fl_Q_63 (Or.inl rfl) (fun _ _ _ => rfl) rfl hM44 ?_
  refine e_aload_n d_Q_takeOver_5 rfl ?_
  refine e_iconst (v := 0) d_Q_takeOver_6 (by decide) ?_
  obtain ⟨M45, hM45, h⟩ := bnd h
  refine e_putI d_Q_takeOver_7 fl_Q_66 (Or.inl rfl) (fun _ _ _ => rfl) rfl hM45 ?_
  refine e_iconst (v := 0) d_Q_takeOver_10 (by decide) ?_
  refine e_istore_n (l2 := [some (.ref x0), some (.int 0)]) d_Q_takeOver_11 rfl (okl rfl) rfl ?_
  exact (t_Q_takeOver_12 n (t_Q_takeOver_136 n) n x0 0 M45 z h).less (show LSub _ _ from ⟨rfl, ⟨rfl, trivial⟩⟩)
theorem d_Q_read_0 : DC m_Q_read 0 (.aload_n 0) 1 1 := ⟨by decide +kernel, rfl⟩
theorem d_Q_read_1 : DC m_Q_read 1 (.getfield 45) 3 4 := ⟨by decide +kernel, rfl⟩
theorem d_Q_read_4 : DC m_Q_read 4 (.aload_n 0) 1 5 := ⟨by decide +kernel, rfl⟩
theorem d_Q_read_5 : DC m_Q_read 5 (.getfield 9) 3 8 := ⟨by decide +kernel, rfl⟩
theorem d_Q_read_8 : DC m_Q_read 8 (.aload_n 0) 1 9 := ⟨by decide +kernel, rfl⟩
theorem d_Q_read_9 : DC m_Q_read 9 (.getfield 13) 3 12 := ⟨by decide +kernel, rfl⟩
theorem d_Q_read_12 : DC m_Q_read 12 (.invokevirtual 109) 3 15 := ⟨by decide +kernel, rfl⟩
theorem d_Q_read_15 : DC m_Q_read 15 (.aload_n 0) 1 16 := ⟨by decide +kernel, rfl⟩
theorem d_Q_read_16 : DC m_Q_read 16 (.iconst 0) 1 17 := ⟨by decide +kernel, rfl⟩
theorem d_Q_read_17 : DC m_Q_read 17 (.putfield 13) 3 20 := ⟨by decide +kernel, rfl⟩
theorem d_Q_read_20 : DC m_Q_read 20 (.aload_n 0) 1 21 := ⟨by decide +kernel, rfl⟩
theorem d_Q_read_21 : DC m_Q_read 21 (.getfield 23) 3 24 := ⟨by decide +kernel, rfl⟩
theorem d_Q_read_24 : DC m_Q_read 24 (.aload_n 0) 1 25 := ⟨by decide +kernel, rfl⟩
theorem d_Q_read_25 : DC m_Q_read 25 (.getfield 45) 3 28 := ⟨by decide +kernel, rfl⟩
theorem d_Q_read_28 : DC m_Q_read 28 (.invokevirtual 115) 3 31 := ⟨by decide +kernel, rfl⟩
theorem d_Q_read_31 : DC m_Q_read 31 (.aload_n 0) 1 32 := ⟨by decide +kernel, rfl⟩
theorem d_Q_read_32 : DC m_Q_read 32 (.getfield 45) 3 35 := ⟨by decide +kernel, rfl⟩
theorem d_Q_read_35 : DC m_Q_read 35 (.getfield 119) 3 38 := ⟨by decide +kernel, rfl⟩
theorem d_Q_read_38 : DC m_Q_read 38 (.ifCond .ne 14) 3 41 := ⟨by decide +kernel, rfl⟩
theorem d_Q_read_41 : DC m_Q_read 41 (.aload_n 0) 1 42 := ⟨by decide +kernel, rfl⟩
theorem d_Q_read_42 : DC m_Q_read 42 (.getfield 30) 3 45 := ⟨by decide +kernel, rfl⟩
theorem d_Q_read_45 : DC m_Q_read 45 (.aload_n 0) 1 46 := ⟨by decide +kernel, rfl⟩
theorem d_Q_read_46 : DC m_Q_read 46 (.getfield 45) 3 49 := ⟨by decide +kernel, rfl⟩
theorem d_Q_read_49 : DC m_Q_read 49 (.invokevirtual 122) 3 52 := ⟨by decide +kernel, rfl⟩
theorem d_Q_read_52 : DC m_Q_read 52 (.aload_n 0) 1 53 := ⟨by decide +kernel, rfl⟩
theorem d_Q_read_53 : DC m_Q_read 53 (.getfield 45) 3 56 := ⟨by decide +kernel, rfl⟩
theorem d_Q_read_56 : DC m_Q_read 56 (.getfield 119) 3 59 := ⟨by decide +kernel, rfl⟩
theorem d_Q_read_59 : DC m_Q_read 59 (.ifCond .ne 10) 3 62 := ⟨by decide +kernel, rfl⟩
theorem d_Q_read_62 : DC m_Q_read 62 (.aload_n 0) 1 63 := ⟨by decide +kernel, rfl⟩
theorem d_Q_read_63 : DC m_Q_read 63 (.getfield 37) 3 66 := ⟨by decide +kernel, rfl⟩
theorem d_Q_read_66 : DC m_Q_read 66 (.invokevirtual 123) 3 69 := ⟨by decide +kernel, rfl⟩
theorem d_Q_read_69 : DC m_Q_read 69 (.aload_n 0) 1 70 := ⟨by decide +kernel, rfl⟩
theorem d_Q_read_70 : DC m_Q_read 70 (.aload_n 0) 1 71 := ⟨by decide +kernel, rfl⟩
theorem d_Q_read_71 : DC m_Q_read 71 (.getfield 45) 3 74 := ⟨by decide +kernel, rfl⟩
theorem d_Q_read_74 : DC m_Q_read 74 (.getfield 126) 3 77 := ⟨by decide +kernel, rfl⟩
theorem d_Q_read_77 : DC m_Q_read 77 (.putfield 17) 3 80 := ⟨by decide +kernel, rfl⟩
theorem d_Q_read_80 : DC m_Q_read 80 (.aload_n 0) 1 81 := ⟨by decide +kernel, rfl⟩
theorem d_Q_read_81 : DC m_Q_read 81 (.getfield 45) 3 84 := ⟨by decide +kernel, rfl⟩
theorem d_Q_read_84 : DC m_Q_read 84 (.getfield 119) 3 87 := ⟨by decide +kernel, rfl⟩
theorem d_Q_read_87 : DC m_Q_read 87 (.ifCond .ne 7) 3 90 := ⟨by decide +kernel, rfl⟩
theorem d_Q_read_90 : DC m_Q_read 90 (.aload_n 0) 1 91 := ⟨by decide +kernel, rfl⟩
theorem d_Q_read_91 : DC m_Q_read 91 (.invokevirtual 127) 3 94 := ⟨by decide +kernel, rfl⟩
theorem d_Q_read_94 : DC m_Q_read 94 (.aload_n 0) 1 95 := ⟨by decide +kernel, rfl⟩
theorem d_Q_read_95 : DC m_Q_read 95 (.getfield 45) 3 98 := ⟨by decide +kernel, rfl⟩
theorem d_Q_read_98 : DC m_Q_read 98 (.getfield 119) 3 101 := ⟨by decide +kernel, rfl⟩
theorem d_Q_read_101 : DC m_Q_read 101 .ireturn 1 102 := ⟨by decide +kernel, rfl⟩
def f_Q_read_69 (n : Nat) (x0 : Nat) (M : MM) : Option (Int32 × MM) :=
  (gR 11 7 x0 M).bind fun v1 =>
  (gI 10 6 v1 M).bind fun v2 =>
  (pI 11 2 x0 v2 M).bind fun M3 =>
  (gR 11 7 x0 M3).bind fun v4 =>
  (gI 10 5 v4 M3).bind fun v5 =>
  if v5 = 0 then
    (f_Q_takeOver n x0 M3).bind fun M7 =>
    (gR 11 7 x0 M7).bind fun v8 =>
    (gI 10 5 v8 M7).bind fun v9 =>
    some (v9, M7)
  else
    (gR 11 7 x0 M3).bind fun v10 =>
    (gI 10 5 v10 M3).bind fun v11 =>
    some (v11, M3)
theorem t_Q_read_69 (n : Nat) (x0 : Nat) (M : MM) (z : Int32 × MM) (h : f_Q_read_69 n x0 M = some z) : EV m_Q_read (rm 56 0 0) (some (.int z.1)) z.2 0 0 69 [some (.ref x0)] [] M := by
  unfold f_Q_read_69 at h
  refine e_aload_n d_Q_read_69 rfl ?_
  refine e_aload_n d_Q_read_70 rfl ?_
  obtain ⟨v1, hv1, h⟩ := bnd h
  refine e_getR d_Q_read_71 fl_Q_45 (fun _ _ _ => rfl) hv1 ?_
  obtain ⟨v2, hv2, h⟩ := bnd h
  refine e_getI d_Q_read_74 fl_Q_126 (fun _ _ _ => rfl) hv2 ?_
  obtain ⟨M3, hM3, h⟩ := bnd h
  refine e_putI d_Q_read_77 fl_Q_17 (Or.inl rfl) (fun _ _ _ => rfl) rfl hM3 ?_
  refine e_aload_n d_Q_read_80 rfl ?_
  obtain ⟨v4, hv4, h⟩ := bnd h
  refine e_getR d_Q_read_81 fl_Q_45 (fun _ _ _ => rfl) hv4 ?_
  obtain ⟨v5, hv5, h⟩ := bnd h
  refine e_getI d_Q_read_84 fl_Q_119 (fun _ _ _ => rfl) hv5 ?_
  refine e_if_ne 94 d_Q_read_87 (by decide) (fun c6 => ?_) (fun c6 => ?_)
  · replace h := ifn c6 h
    refine e_aload_n d_Q_read_94 rfl ?_
    obtain ⟨v10, hv10, h⟩ := bnd h
    refine e_getR d_Q_read_95 fl_Q_45 (fun _ _ _ => rfl) hv10 ?_
    obtain ⟨v11, hv11, h⟩ := bnd h
    refine e_getI d_Q_read_98 fl_Q_119 (fun _ _ _ => rfl) hv11 ?_
    cases h
    exact e_iret d_Q_read_101 rfl (Nat.le_refl _) (Nat.le_refl _)
  · replace h := ift c6 h
    refine e_aload_n d_Q_read_90 rfl ?_
    obtain ⟨M7, hM7, h⟩ := bnd h
    refine e_cVv (mt1 := m_Q_takeOver) (As := []) (st := []) d_Q_read_91 ml_Q_127 mv_Q_takeOver (t_Q_takeOver n x0 M3 M7 hM7) (fc_Q_takeOver hM7) rfl rfl rfl (okp rfl) (okp rfl) (okp rfl) (Nat.le_refl _) (Nat.le_refl _) ?_
    refine e_aload_n d_Q_read_94 rfl ?_
    obtain ⟨v8, hv8, h⟩ := bnd h
    refine e_getR d_Q_read_95 fl_Q_45 (fun _ _ _ => rfl) hv8 ?_
    obtain ⟨v9, hv9, h⟩ := bnd h
    refine e_getI d_Q_read_98 fl_Q_119 (fun _ _ _ => rfl) hv9 ?_
    cases h
    exact e_iret d_Q_read_101 rfl (Nat.le_refl _) (Nat.le_refl _)
def f_Q_read_52 (n : Nat) (x0 : Nat) (M : MM) : Option (Int32 × MM) :=
  (gR 11 7 x0 M).bind fun v12 =>
  (gI 10 5 v12 M).bind fun v13 =>
  if v13 = 0 then
    (gR 11 10 x0 M).bind fun v15 =>
    (f_Builder_build n v15 M).bind fun M16 =>
    f_Q_read_69 n x0 M16
  else
    f_Q_read_69 n x0 M
theorem t_Q_read_52 (n : Nat) (x0 : Nat) (M : MM) (z : Int32 × MM) (h : f_Q_read_52 n x0 M = some z) : EV m_Q_read (rm 56 0 0) (some (.int z.1)) z.2 0 0 52 [some (.ref x0)] [] M := by
  unfold f_Q_read_52 at h
  refine e_aload_n d_Q_read_52 rfl ?_
  obtain ⟨v12, hv12, h⟩ := bnd h
  refine e_getR d_Q_read_53 fl_Q_45 (fun _ _ _ => rfl) hv12 ?_
  obtain ⟨v13, hv13, h⟩ := bnd h
  refine e_getI d_Q_read_56 fl_Q_119 (fun _ _ _ => rfl) hv13 ?_
  refine e_if_ne 69 d_Q_read_59 (by decide) (fun c14 => ?_) (fun c14 => ?_)
  · replace h := ifn c14 h
    exact (t_Q_read_69 n x0 M z h).less (show LSub _ _ from ⟨rfl, trivial⟩)
  · replace h := ift c14 h
    refine e_aload_n d_Q_read_62 rfl ?_
    obtain ⟨v15, hv15, h⟩ := bnd h
    refine e_getR d_Q_read_63 fl_Q_37 (fun _ _ _ => rfl) hv15 ?_
    obtain ⟨M16, hM16, h⟩ := bnd h
    refine e_cVv (mt1 := m_Builder_build) (As := []) (st := []) d_Q_read_66 ml_Q_123 mv_Builder_build (t_Builder_build n v15 M M16 hM16) (fc_Builder_build hM16) rfl rfl rfl (okp rfl) (okp rfl) (okp rfl) (Nat.le_refl _) (Nat.le_refl _) ?_
    exact (t_Q_read_69 n x0 M16 z h).less (show LSub _ _ from ⟨rfl, trivial⟩)
def f_Q_read (n : Nat) (x0 : Nat) (M : MM) : Option (Int32 × MM) :=
  og 11 x0 M <|
  (gR 11 7 x0 M).bind fun v17 =>
  (gR 11 0 x0 M).bind fun v18 =>
  (gI 11 1 x0 M).bind fun v19 =>
  (f_Tokens_scan n v17 v18 v19 M).bind fun M20 =>
  (pI 11 1 x0 0 M20).bind fun M21 =>
  (gR 11 8 x0 M21).bind fun v22 =>
  (gR 11 7 x0 M21).bind fun v23 =>
  (f_Syntax_check n v22 v23 M21).bind fun M24 =>
  (gR 11 7 x0 M24).bind fun v25 =>
  (gI 10 5 v25 M24).bind fun v26 =>
  if v26 = 0 then
    (gR 11 9 x0 M24).bind fun v28 =>
    (gR 11 7 x0 M24).bind fun v29 =>
    (f_Meaning_check n v28 v29 M24).bind fun M30 =>
    f_Q_read_52 n x0 M30
  else
    f_Q_read_52 n x0 M24
theorem fc_Q_read {n : Nat} {x0 : Nat} {M : MM} {z : Int32 × MM} (h : f_Q_read n x0 M = some z) : (M.1.2.1 x0).1 = 11 := by
  unfold f_Q_read at h
  exact (og_s h).1
theorem t_Q_read (n : Nat) (x0 : Nat) (M : MM) (z : Int32 × MM) (h : f_Q_read n x0 M = some z) : CT m_Q_read (rm 56 0 0) [.ref x0] M (some (.int z.1)) z.2 := by
  unfold f_Q_read at h
  obtain ⟨hthis, h⟩ := og_s h
  refine CT.of (ls := [some (.ref x0)]) rfl (okp rfl) rfl ?_
  refine e_aload_n d_Q_read_0 rfl ?_
  obtain ⟨v17, hv17, h⟩ := bnd h
  refine e_getR d_Q_read_1 fl_Q_45 (fun _ _ _ => rfl) hv17 ?_
  refine e_aload_n d_Q_read_4 rfl ?_
  obtain ⟨v18, hv18, h⟩ := bnd h
  refine e_getR d_Q_read_5 fl_Q_9 (fun _ _ _ => rfl) hv18 ?_
  refine e_aload_n d_Q_read_8 rfl ?_
  obtain ⟨v19, hv19, h⟩ := bnd h
  refine e_getI d_Q_read_9 fl_Q_13 (fun _ _ _ => rfl) hv19 ?_
  obtain ⟨M20, hM20, h⟩ := bnd h
  refine e_cVv (mt1 := m_Tokens_scan) (As := [.ref v18, .int v19]) (st := []) d_Q_read_12 ml_Q_109 mv_Tokens_scan (t_Tokens_scan n v17 v18 v19 M M20 hM20) (fc_Tokens_scan hM20) rfl rfl rfl (okp rfl) (okp rfl) (okp rfl) (Nat.le_refl _) (Nat.le_refl _) ?_
  refine e_aload_n d_Q_read_15 rfl ?_
  refine e_iconst (v := 0) d_Q_read_16 (by decide) ?_
  obtain ⟨M21, hM21, h⟩ := bnd h
  refine e_putI d_Q_read_17 fl_Q_13 (Or.inl rfl) (fun _ _ _ => rfl) rfl hM21 ?_
  refine e_aload_n d_Q_read_20 rfl ?_
  obtain ⟨v22, hv22, h⟩ := bnd h
  refine e_getR d_Q_read_21 fl_Q_23 (fun _ _ _ => rfl) hv22 ?_
  refine e_aload_n d_Q_read_24 rfl ?_
  obtain ⟨v23, hv23, h⟩ := bnd h
  refine e_getR d_Q_read_25 fl_Q_45 (fun _ _ _ => rfl) hv23 ?_
  obtain ⟨M24, hM24, h⟩ := bnd h
  refine e_cVv (mt1 := m_Syntax_check) (As := [.ref v23]) (st := []) d_Q_read_28 ml_Q_115 mv_Syntax_check (t_Syntax_check n v22 v23 M21 M24 hM24) (fc_Syntax_check hM24) rfl rfl rfl (okp rfl) (okp rfl) (okp rfl) (Nat.le_refl _) (Nat.le_refl _) ?_
  refine e_aload_n d_Q_read_31 rfl ?_
  obtain ⟨v25, hv25, h⟩ := bnd h
  refine e_getR d_Q_read_32 fl_Q_45 (fun _ _ _ => rfl) hv25 ?_
  obtain ⟨v26, hv26, h⟩ := bnd h
  refine e_getI d_Q_read_35 fl_Q_119 (fun _ _ _ => rfl) hv26 ?_
  refine e_if_ne 52 d_Q_read_38 (by decide) (fun c27 => ?_) (fun c27 => ?_)
  · replace h := ifn c27 h
    exact (t_Q_read_52 n x0 M24 z h).less (show LSub _ _ from ⟨rfl, trivial⟩)
  · replace h := ift c27 h
    refine e_aload_n d_Q_read_41 rfl ?_
    obtain ⟨v28, hv28, h⟩ := bnd h
    refine e_getR d_Q_read_42 fl_Q_30 (fun _ _ _ => rfl) hv28 ?_
    refine e_aload_n d_Q_read_45 rfl ?_
    obtain ⟨v29, hv29, h⟩ := bnd h
    refine e_getR d_Q_read_46 fl_Q_45 (fun _ _ _ => rfl) hv29 ?_
    obtain ⟨M30, hM30, h⟩ := bnd h
    refine e_cVv (mt1 := m_Meaning_check) (As := [.ref v29]) (st := []) d_Q_read_49 ml_Q_122 mv_Meaning_check (t_Meaning_check n v28 v29 M24 M30 hM30) (fc_Meaning_check hM30) rfl rfl rfl (okp rfl) (okp rfl) (okp rfl) (Nat.le_refl _) (Nat.le_refl _) ?_
    exact (t_Q_read_52 n x0 M30 z h).less (show LSub _ _ from ⟨rfl, trivial⟩)
theorem d_Q_place_0 : DC m_Q_place 0 (.aload_n 0) 1 1 := ⟨by decide +kernel, rfl⟩
theorem d_Q_place_1 : DC m_Q_place 1 (.getfield 17) 3 4 := ⟨by decide +kernel, rfl⟩
theorem d_Q_place_4 : DC m_Q_place 4 .ireturn 1 5 := ⟨by decide +kernel, rfl⟩
def f_Q_place (n : Nat) (x0 : Nat) (M : MM) : Option (Int32 × MM) :=
  og 11 x0 M <|
  (gI 11 2 x0 M).bind fun v1 =>
  some (v1, M)
theorem fc_Q_place {n : Nat} {x0 : Nat} {M : MM} {z : Int32 × MM} (h : f_Q_place n x0 M = some z) : (M.1.2.1 x0).1 = 11 := by
  unfold f_Q_place at h
  exact (og_s h).1
theorem t_Q_place (n : Nat) (x0 : Nat) (M : MM) (z : Int32 × MM) (h : f_Q_place n x0 M = some z) : CT m_Q_place (rm 1 0 0) [.ref x0] M (some (.int z.1)) z.2 := by
  unfold f_Q_place at h
  obtain ⟨hthis, h⟩ := og_s h
  refine CT.of (ls := [some (.ref x0)]) rfl (okp rfl) rfl ?_
  refine e_aload_n d_Q_place_0 rfl ?_
  obtain ⟨v1, hv1, h⟩ := bnd h
  refine e_getI d_Q_place_1 fl_Q_17 (fun _ _ _ => rfl) hv1 ?_
  cases h
  exact e_iret d_Q_place_4 rfl (Nat.le_refl _) (Nat.le_refl _)
theorem d_Q_formOf_0 : DC m_Q_formOf 0 (.iload_n 2) 1 1 := ⟨by decide +kernel, rfl⟩
theorem d_Q_formOf_1 : DC m_Q_formOf 1 (.ifCond .lt 22) 3 4 := ⟨by decide +kernel, rfl⟩
theorem d_Q_formOf_4 : DC m_Q_formOf 4 (.iload_n 2) 1 5 := ⟨by decide +kernel, rfl⟩
theorem d_Q_formOf_5 : DC m_Q_formOf 5 (.iload_n 1) 1 6 := ⟨by decide +kernel, rfl⟩
theorem d_Q_formOf_6 : DC m_Q_formOf 6 (.ifCond .eq 10) 3 9 := ⟨by decide +kernel, rfl⟩
theorem d_Q_formOf_9 : DC m_Q_formOf 9 (.aload_n 0) 1 10 := ⟨by decide +kernel, rfl⟩
theorem d_Q_formOf_10 : DC m_Q_formOf 10 (.getfield 66) 3 13 := ⟨by decide +kernel, rfl⟩
theorem d_Q_formOf_13 : DC m_Q_formOf 13 (.goto 7) 3 16 := ⟨by decide +kernel, rfl⟩
theorem d_Q_formOf_16 : DC m_Q_formOf 16 (.aload_n 0) 1 17 := ⟨by decide +kernel, rfl⟩
theorem d_Q_formOf_17 : DC m_Q_formOf 17 (.getfield 63) 3 20 := ⟨by decide +kernel, rfl⟩
theorem d_Q_formOf_20 : DC m_Q_formOf 20 (.if_icmp .lt 5) 3 23 := ⟨by decide +kernel, rfl⟩
theorem d_Q_formOf_23 : DC m_Q_formOf 23 .aconst_null 1 24 := ⟨by decide +kernel, rfl⟩
theorem d_Q_formOf_24 : DC m_Q_formOf 24 .areturn 1 25 := ⟨by decide +kernel, rfl⟩
theorem d_Q_formOf_25 : DC m_Q_formOf 25 (.iload_n 1) 1 26 := ⟨by decide +kernel, rfl⟩
theorem d_Q_formOf_26 : DC m_Q_formOf 26 (.ifCond .eq 12) 3 29 := ⟨by decide +kernel, rfl⟩
theorem d_Q_formOf_29 : DC m_Q_formOf 29 (.aload_n 0) 1 30 := ⟨by decide +kernel, rfl⟩
theorem d_Q_formOf_30 : DC m_Q_formOf 30 (.getfield 60) 3 33 := ⟨by decide +kernel, rfl⟩
theorem d_Q_formOf_33 : DC m_Q_formOf 33 (.iload_n 2) 1 34 := ⟨by decide +kernel, rfl⟩
theorem d_Q_formOf_34 : DC m_Q_formOf 34 .aaload 1 35 := ⟨by decide +kernel, rfl⟩
theorem d_Q_formOf_35 : DC m_Q_formOf 35 (.goto 9) 3 38 := ⟨by decide +kernel, rfl⟩
theorem d_Q_formOf_38 : DC m_Q_formOf 38 (.aload_n 0) 1 39 := ⟨by decide +kernel, rfl⟩
theorem d_Q_formOf_39 : DC m_Q_formOf 39 (.getfield 57) 3 42 := ⟨by decide +kernel, rfl⟩
theorem d_Q_formOf_42 : DC m_Q_formOf 42 (.iload_n 2) 1 43 := ⟨by decide +kernel, rfl⟩
theorem d_Q_formOf_43 : DC m_Q_formOf 43 .aaload 1 44 := ⟨by decide +kernel, rfl⟩
theorem d_Q_formOf_44 : DC m_Q_formOf 44 .areturn 1 45 := ⟨by decide +kernel, rfl⟩
def f_Q_formOf_20 (n : Nat) (x0 : Nat) (x1 : Int32) (x2 : Int32) (s0 : Int32) (s1 : Int32) (M : MM) : Option (Option Nat × MM) :=
  if s0 < s1 then
    if x1 = 0 then
      (gR 11 3 x0 M).bind fun v3 =>
      (aR 105 v3 x2 M).bind fun v4 =>
      some (some v4, M)
    else
      (gR 11 4 x0 M).bind fun v5 =>
      (aR 105 v5 x2 M).bind fun v6 =>
      some (some v6, M)
  else
    some (none, M)
theorem t_Q_formOf_20 (n : Nat) (x0 : Nat) (x1 : Int32) (x2 : Int32) (s0 : Int32) (s1 : Int32) (M : MM) (z : Option Nat × MM) (h : f_Q_formOf_20 n x0 x1 x2 s0 s1 M = some z) : EV m_Q_formOf (rm 1 0 0) (some (vr z.1)) z.2 0 0 20 [some (.ref x0), some (.int x1), some (.int x2)] [.int s1, .int s0] M := by
  unfold f_Q_formOf_20 at h
  refine e_ic_lt 25 d_Q_formOf_20 (by decide) (fun c1 => ?_) (fun c1 => ?_)
  · replace h := ift c1 h
    refine e_iload_n d_Q_formOf_25 rfl ?_
    refine e_if_eq 38 d_Q_formOf_26 (by decide) (fun c2 => ?_) (fun c2 => ?_)
    · replace h := ift c2 h
      refine e_aload_n d_Q_formOf_38 rfl ?_
      obtain ⟨v3, hv3, h⟩ := bnd h
      refine e_getR d_Q_formOf_39 fl_Q_57 (fun _ _ _ => rfl) hv3 ?_
      refine e_iload_n d_Q_formOf_42 rfl ?_
      obtain ⟨v4, hv4, h⟩ := bnd h
      refine e_aald (kd := 105) d_Q_formOf_43 (by decide) hv4 ?_
      cases h
      exact e_aret (r := some v4) d_Q_formOf_44 rfl (Or.inl ⟨_, rfl⟩) (Nat.le_refl _) (Nat.le_refl _)
    · replace h := ifn c2 h
      refine e_aload_n d_Q_formOf_29 rfl ?_
      obtain ⟨v5, hv5, h⟩ := bnd h
      refine e_getR d_Q_formOf_30 fl_Q_60 (fun _ _ _ => rfl) hv5 ?_
      refine e_iload_n d_Q_formOf_33 rfl ?_
      obtain ⟨v6, hv6, h⟩ := bnd h
      refine e_aald (kd := 105) d_Q_formOf_34 (by decide) hv6 ?_
      refine e_goto 44 d_Q_formOf_35 (by decide) ?_
      cases h
      exact e_aret (r := some v6) d_Q_formOf_44 rfl (Or.inl ⟨_, rfl⟩) (Nat.le_refl _) (Nat.le_refl _)
  · replace h := ifn c1 h
    refine e_null d_Q_formOf_23 ?_
    cases h
    exact e_aret (r := none) d_Q_formOf_24 rfl (Or.inl ⟨_, rfl⟩) (Nat.le_refl _) (Nat.le_refl _)
def f_Q_formOf (n : Nat) (x0 : Nat) (x1 : Int32) (x2 : Int32) (M : MM) : Option (Option Nat × MM) :=
  og 11 x0 M <|
  if x2 < 0 then
    some (none, M)
  else
    if x1 = 0 then
      (gI 11 5 x0 M).bind fun v9 =>
      f_Q_formOf_20 n x0 x1 x2 x2 v9 M
    else
      (gI 11 6 x0 M).bind fun v10 =>
      f_Q_formOf_20 n x0 x1 x2 x2 v10 M
theorem fc_Q_formOf {n : Nat} {x0 : Nat} {x1 : Int32} {x2 : Int32} {M : MM} {z : Option Nat × MM} (h : f_Q_formOf n x0 x1 x2 M = some z) : (M.1.2.1 x0).1 = 11 := by
  unfold f_Q_formOf at h
  exact (og_s h).1
theorem t_Q_formOf (n : Nat) (x0 : Nat) (x1 : Int32) (x2 : Int32) (M : MM) (z : Option Nat × MM) (h : f_Q_formOf n x0 x1 x2 M = some z) : CT m_Q_formOf (rm 1 0 0) [.ref x0, .int x1, .int x2] M (some (vr z.1)) z.2 := by
  unfold f_Q_formOf at h
  obtain ⟨hthis, h⟩ := og_s h
  refine CT.of (ls := [some (.ref x0), some (.int x1), some (.int x2)]) rfl (okp rfl) rfl ?_
  refine e_iload_n d_Q_formOf_0 rfl ?_
  refine e_if_lt 23 d_Q_formOf_1 (by decide) (fun c7 => ?_) (fun c7 => ?_)
  · replace h := ift c7 h
    refine e_null d_Q_formOf_23 ?_
    cases h
    exact e_aret (r := none) d_Q_formOf_24 rfl (Or.inl ⟨_, rfl⟩) (Nat.le_refl _) (Nat.le_refl _)
  · replace h := ifn c7 h
    refine e_iload_n d_Q_formOf_4 rfl ?_
    refine e_iload_n d_Q_formOf_5 rfl ?_
    refine e_if_eq 16 d_Q_formOf_6 (by decide) (fun c8 => ?_) (fun c8 => ?_)
    · replace h := ift c8 h
      refine e_aload_n d_Q_formOf_16 rfl ?_
      obtain ⟨v9, hv9, h⟩ := bnd h
      refine e_getI d_Q_formOf_17 fl_Q_63 (fun _ _ _ => rfl) hv9 ?_
      exact (t_Q_formOf_20 n x0 x1 x2 x2 v9 M z h).less (show LSub _ _ from ⟨rfl, ⟨rfl, ⟨rfl, trivial⟩⟩⟩)
    · replace h := ifn c8 h
      refine e_aload_n d_Q_formOf_9 rfl ?_
      obtain ⟨v10, hv10, h⟩ := bnd h
      refine e_getI d_Q_formOf_10 fl_Q_66 (fun _ _ _ => rfl) hv10 ?_
      refine e_goto 20 d_Q_formOf_13 (by decide) ?_
      exact (t_Q_formOf_20 n x0 x1 x2 x2 v10 M z h).less (show LSub _ _ from ⟨rfl, ⟨rfl, ⟨rfl, trivial⟩⟩⟩)
theorem d_Q_area_0 : DC m_Q_area 0 (.aload_n 0) 1 1 := ⟨by decide +kernel, rfl⟩
theorem d_Q_area_1 : DC m_Q_area 1 (.iload_n 1) 1 2 := ⟨by decide +kernel, rfl⟩
theorem d_Q_area_2 : DC m_Q_area 2 (.iload_n 2) 1 3 := ⟨by decide +kernel, rfl⟩
theorem d_Q_area_3 : DC m_Q_area 3 (.invokevirtual 130) 3 6 := ⟨by decide +kernel, rfl⟩
theorem d_Q_area_6 : DC m_Q_area 6 (.astore_n 3) 1 7 := ⟨by decide +kernel, rfl⟩
theorem d_Q_area_7 : DC m_Q_area 7 (.aload_n 3) 1 8 := ⟨by decide +kernel, rfl⟩
theorem d_Q_area_8 : DC m_Q_area 8 (.ifnonnull 7) 3 11 := ⟨by decide +kernel, rfl⟩
theorem d_Q_area_11 : DC m_Q_area 11 (.iconst (-1)) 1 12 := ⟨by decide +kernel, rfl⟩
theorem d_Q_area_12 : DC m_Q_area 12 (.goto 7) 3 15 := ⟨by decide +kernel, rfl⟩
theorem d_Q_area_15 : DC m_Q_area 15 (.aload_n 3) 1 16 := ⟨by decide +kernel, rfl⟩
theorem d_Q_area_16 : DC m_Q_area 16 (.getfield 134) 3 19 := ⟨by decide +kernel, rfl⟩
theorem d_Q_area_19 : DC m_Q_area 19 .ireturn 1 20 := ⟨by decide +kernel, rfl⟩
def f_Q_area (n : Nat) (x0 : Nat) (x1 : Int32) (x2 : Int32) (M : MM) : Option (Int32 × MM) :=
  og 11 x0 M <|
  (f_Q_formOf n x0 x1 x2 M).bind fun p1 =>
  ob p1.1 (
    some ((-1), p1.2)
  ) fun r2 =>
    (gI 4 6 r2 p1.2).bind fun v3 =>
    some (v3, p1.2)
theorem fc_Q_area {n : Nat} {x0 : Nat} {x1 : Int32} {x2 : Int32} {M : MM} {z : Int32 × MM} (h : f_Q_area n x0 x1 x2 M = some z) : (M.1.2.1 x0).1 = 11 := by
  unfold f_Q_area at h
  exact (og_s h).1
theorem t_Q_area (n : Nat) (x0 : Nat) (x1 : Int32) (x2 : Int32) (M : MM) (z : Int32 × MM) (h : f_Q_area n x0 x1 x2 M = some z) : CT m_Q_area (rm 2 0 0) [.ref x0, .int x1, .int x2] M (some (.int z.1)) z.2 := by
  unfold f_Q_area at h
  obtain ⟨hthis, h⟩ := og_s h
  refine CT.of (ls := [some (.ref x0), some (.int x1), some (.int x2), none]) rfl (okp rfl) rfl ?_
  refine e_aload_n d_Q_area_0 rfl ?_
  refine e_iload_n d_Q_area_1 rfl ?_
  refine e_iload_n d_Q_area_2 rfl ?_
  obtain ⟨p1, hp1, h⟩ := bnd h
  refine e_cVr (mt1 := m_Q_formOf) (As := [.int x1, .int x2]) (st := []) d_Q_area_3 ml_Q_130 mv_Q_formOf (t_Q_formOf n x0 x1 x2 M p1 hp1) (fc_Q_formOf hp1) rfl rfl rfl (okp rfl) (okp rfl) (okp rfl) (Nat.le_refl _) (Nat.le_refl _) ?_
  refine e_astore_nO (l2 := [some (.ref x0), some (.int x1), some (.int x2), some (vr p1.1)]) d_Q_area_6 rfl (okl rfl) rfl ?_
  refine e_aload_nO d_Q_area_7 rfl ?_
  rcases ob_s h with ⟨hr2, h⟩ | ⟨r2, hr2, h⟩
  · rw [hr2]
    refine e_ifnonnullN d_Q_area_8 ?_
    refine e_iconst (v := (-1)) d_Q_area_11 (by decide) ?_
    refine e_goto 19 d_Q_area_12 (by decide) ?_
    cases h
    exact e_iret d_Q_area_19 rfl (Nat.le_refl _) (Nat.le_refl _)
  · rw [hr2]
    refine e_ifnonnull 15 d_Q_area_8 (by decide) ?_
    refine e_aload_n d_Q_area_15 rfl ?_
    obtain ⟨v3, hv3, h⟩ := bnd h
    refine e_getI d_Q_area_16 fl_Q_134 (fun _ _ _ => rfl) hv3 ?_
    cases h
    exact e_iret d_Q_area_19 rfl (Nat.le_refl _) (Nat.le_refl _)
theorem d_Q_isQuarter_0 : DC m_Q_isQuarter 0 (.iload_n 0) 1 1 := ⟨by decide +kernel, rfl⟩
theorem d_Q_isQuarter_1 : DC m_Q_isQuarter 1 (.ifCond .lt 14) 3 4 := ⟨by decide +kernel, rfl⟩
theorem d_Q_isQuarter_4 : DC m_Q_isQuarter 4 (.iload_n 0) 1 5 := ⟨by decide +kernel, rfl⟩
theorem d_Q_isQuarter_5 : DC m_Q_isQuarter 5 (.sipush 256) 3 8 := ⟨by decide +kernel, rfl⟩
theorem d_Q_isQuarter_8 : DC m_Q_isQuarter 8 (.if_icmp .ge 7) 3 11 := ⟨by decide +kernel, rfl⟩
theorem d_Q_isQuarter_11 : DC m_Q_isQuarter 11 (.iconst 1) 1 12 := ⟨by decide +kernel, rfl⟩
theorem d_Q_isQuarter_12 : DC m_Q_isQuarter 12 (.goto 4) 3 15 := ⟨by decide +kernel, rfl⟩
theorem d_Q_isQuarter_15 : DC m_Q_isQuarter 15 (.iconst 0) 1 16 := ⟨by decide +kernel, rfl⟩
theorem d_Q_isQuarter_16 : DC m_Q_isQuarter 16 .ireturn 1 17 := ⟨by decide +kernel, rfl⟩
def f_Q_isQuarter (n : Nat) (x0 : Int32) (M : MM) : Option (Int32 × MM) :=
  if x0 < 0 then
    some (0, M)
  else
    if 256 ≤ x0 then
      some (0, M)
    else
      some (1, M)
theorem t_Q_isQuarter (n : Nat) (x0 : Int32) (M : MM) (z : Int32 × MM) (h : f_Q_isQuarter n x0 M = some z) : CT m_Q_isQuarter (rm 1 0 0) [.int x0] M (some (.int z.1)) z.2 := by
  unfold f_Q_isQuarter at h
  refine CT.of (ls := [some (.int x0)]) rfl (okp rfl) rfl ?_
  refine e_iload_n d_Q_isQuarter_0 rfl ?_
  refine e_if_lt 15 d_Q_isQuarter_1 (by decide) (fun c1 => ?_) (fun c1 => ?_)
  · replace h := ift c1 h
    refine e_iconst (v := 0) d_Q_isQuarter_15 (by decide) ?_
    cases h
    exact e_zret (ty := .boolean) d_Q_isQuarter_16 rfl narZ0 (Nat.le_refl _) (Nat.le_refl _)
  · replace h := ifn c1 h
    refine e_iload_n d_Q_isQuarter_4 rfl ?_
    refine e_sipush (v := 256) d_Q_isQuarter_5 (by decide) ?_
    refine e_ic_ge 15 d_Q_isQuarter_8 (by decide) (fun c2 => ?_) (fun c2 => ?_)
    · replace h := ift c2 h
      refine e_iconst (v := 0) d_Q_isQuarter_15 (by decide) ?_
      cases h
      exact e_zret (ty := .boolean) d_Q_isQuarter_16 rfl narZ0 (Nat.le_refl _) (Nat.le_refl _)
    · replace h := ifn c2 h
      refine e_iconst (v := 1) d_Q_isQuarter_11 (by decide) ?_
      refine e_goto 16 d_Q_isQuarter_12 (by decide) ?_
      cases h
      exact e_zret (ty := .boolean) d_Q_isQuarter_16 rfl narZ1 (Nat.le_refl _) (Nat.le_refl _)
theorem d_Q_has_0 : DC m_Q_has 0 (.aload_n 0) 1 1 := ⟨by decide +kernel, rfl⟩
theorem d_Q_has_1 : DC m_Q_has 1 (.iload_n 1) 1 2 := ⟨by decide +kernel, rfl⟩
theorem d_Q_has_2 : DC m_Q_has 2 (.iload_n 2) 1 3 := ⟨by decide +kernel, rfl⟩
theorem d_Q_has_3 : DC m_Q_has 3 (.invokevirtual 130) 3 6 := ⟨by decide +kernel, rfl⟩
theorem d_Q_has_6 : DC m_Q_has 6 (.astore 4) 2 8 := ⟨by decide +kernel, rfl⟩
theorem d_Q_has_8 : DC m_Q_has 8 (.aload 4) 2 10 := ⟨by decide +kernel, rfl⟩
theorem d_Q_has_10 : DC m_Q_has 10 (.ifnull 10) 3 13 := ⟨by decide +kernel, rfl⟩
theorem d_Q_has_13 : DC m_Q_has 13 (.iload_n 3) 1 14 := ⟨by decide +kernel, rfl⟩
theorem d_Q_has_14 : DC m_Q_has 14 (.invokestatic 137) 3 17 := ⟨by decide +kernel, rfl⟩
theorem d_Q_has_17 : DC m_Q_has 17 (.ifCond .ne 5) 3 20 := ⟨by decide +kernel, rfl⟩
theorem d_Q_has_20 : DC m_Q_has 20 (.iconst (-1)) 1 21 := ⟨by decide +kernel, rfl⟩
theorem d_Q_has_21 : DC m_Q_has 21 .ireturn 1 22 := ⟨by decide +kernel, rfl⟩
theorem d_Q_has_22 : DC m_Q_has 22 (.aload 4) 2 24 := ⟨by decide +kernel, rfl⟩
theorem d_Q_has_24 : DC m_Q_has 24 (.getfield 141) 3 27 := ⟨by decide +kernel, rfl⟩
theorem d_Q_has_27 : DC m_Q_has 27 (.iload_n 3) 1 28 := ⟨by decide +kernel, rfl⟩
theorem d_Q_has_28 : DC m_Q_has 28 (.invokevirtual 144) 3 31 := ⟨by decide +kernel, rfl⟩
theorem d_Q_has_31 : DC m_Q_has 31 (.ifCond .eq 7) 3 34 := ⟨by decide +kernel, rfl⟩
theorem d_Q_has_34 : DC m_Q_has 34 (.iconst 1) 1 35 := ⟨by decide +kernel, rfl⟩
theorem d_Q_has_35 : DC m_Q_has 35 (.goto 4) 3 38 := ⟨by decide +kernel, rfl⟩
theorem d_Q_has_38 : DC m_Q_has 38 (.iconst 0) 1 39 := ⟨by decide +kernel, rfl⟩
theorem d_Q_has_39 : DC m_Q_has 39 .ireturn 1 40 := ⟨by decide +kernel, rfl⟩
def f_Q_has (n : Nat) (x0 : Nat) (x1 : Int32) (x2 : Int32) (x3 : Int32) (M : MM) : Option (Int32 × MM) :=
  og 11 x0 M <|
  (f_Q_formOf n x0 x1 x2 M).bind fun p1 =>
  ob p1.1 (
    some ((-1), p1.2)
  ) fun r2 =>
    (f_Q_isQuarter n x3 p1.2).bind fun p3 =>
    if p3.1 = 0 then
      some ((-1), p3.2)
    else
      (gR 4 0 r2 p3.2).bind fun v5 =>
      (f_Shape_holds n v5 x3 p3.2).bind fun p6 =>
      if p6.1 = 0 then
        some (0, p6.2)
      else
        some (1, p6.2)
theorem fc_Q_has {n : Nat} {x0 : Nat} {x1 : Int32} {x2 : Int32} {x3 : Int32} {M : MM} {z : Int32 × MM} (h : f_Q_has n x0 x1 x2 x3 M = some z) : (M.1.2.1 x0).1 = 11 := by
  unfold f_Q_has at h
  exact (og_s h).1
theorem t_Q_has (n : Nat) (x0 : Nat) (x1 : Int32) (x2 : Int32) (x3 : Int32) (M : MM) (z : Int32 × MM) (h : f_Q_has n x0 x1 x2 x3 M = some z) : CT m_Q_has (rm 2 0 0) [.ref x0, .int x1, .int x2, .int x3] M (some (.int z.1)) z.2 := by
  unfold f_Q_has at h
  obtain ⟨hthis, h⟩ := og_s h
  refine CT.of (ls := [some (.ref x0), some (.int x1), some (.int x2), some (.int x3), none]) rfl (okp rfl) rfl ?_
  refine e_aload_n d_Q_has_0 rfl ?_
  refine e_iload_n d_Q_has_1 rfl ?_
  refine e_iload_n d_Q_has_2 rfl ?_
  obtain ⟨p1, hp1, h⟩ := bnd h
  refine e_cVr (mt1 := m_Q_formOf) (As := [.int x1, .int x2]) (st := []) d_Q_has_3 ml_Q_130 mv_Q_formOf (t_Q_formOf n x0 x1 x2 M p1 hp1) (fc_Q_formOf hp1) rfl rfl rfl (okp rfl) (okp rfl) (okp rfl) (Nat.le_refl _) (Nat.le_refl _) ?_
  refine e_astoreO (l2 := [some (.ref x0), some (.int x1), some (.int x2), some (.int x3), some (vr p1.1)]) d_Q_has_6 rfl (okl rfl) rfl ?_
  refine e_aloadO d_Q_has_8 rfl ?_
  rcases ob_s h with ⟨hr2, h⟩ | ⟨r2, hr2, h⟩
  · rw [hr2]
    refine e_ifnullN 20 d_Q_has_10 (by decide) ?_
    refine e_iconst (v := (-1)) d_Q_has_20 (by decide) ?_
    cases h
    exact e_iret d_Q_has_21 rfl (Nat.le_refl _) (Nat.le_refl _)
  · rw [hr2]
    refine e_ifnull d_Q_has_10 ?_
    refine e_iload_n d_Q_has_13 rfl ?_
    obtain ⟨p3, hp3, h⟩ := bnd h
    refine e_cSi (mt1 := m_Q_isQuarter) (As := [.int x3]) (st := []) d_Q_has_14 ml_Q_137 ms_Q_isQuarter (t_Q_isQuarter n x3 p1.2 p3 hp3) rfl rfl (okp rfl) (okp rfl) (okp rfl) (Nat.le_refl _) (Nat.le_refl _) ?_
    refine e_if_ne 22 d_Q_has_17 (by decide) (fun c4 => ?_) (fun c4 => ?_)
    · replace h := ifn c4 h
      refine e_aload d_Q_has_22 rfl ?_
      obtain ⟨v5, hv5, h⟩ := bnd h
      refine e_getR d_Q_has_24 fl_Q_141 (fun _ _ _ => rfl) hv5 ?_
      refine e_iload_n d_Q_has_27 rfl ?_
      obtain ⟨p6, hp6, h⟩ := bnd h
      refine e_cVi (mt1 := m_Shape_holds) (As := [.int x3]) (st := []) d_Q_has_28 ml_Q_144 mv_Shape_holds (t_Shape_holds n v5 x3 p3.2 p6 hp6) (fc_Shape_holds hp6) rfl rfl rfl (okp rfl) (okp rfl) (okp rfl) (Nat.le_refl _) (Nat.le_refl _) ?_
      refine e_if_eq 38 d_Q_has_31 (by decide) (fun c7 => ?_) (fun c7 => ?_)
      · replace h := ift c7 h
        refine e_iconst (v := 0) d_Q_has_38 (by decide) ?_
        cases h
        exact e_iret d_Q_has_39 rfl (Nat.le_refl _) (Nat.le_refl _)
      · replace h := ifn c7 h
        refine e_iconst (v := 1) d_Q_has_34 (by decide) ?_
        refine e_goto 39 d_Q_has_35 (by decide) ?_
        cases h
        exact e_iret d_Q_has_39 rfl (Nat.le_refl _) (Nat.le_refl _)
    · replace h := ift c4 h
      refine e_iconst (v := (-1)) d_Q_has_20 (by decide) ?_
      cases h
      exact e_iret d_Q_has_21 rfl (Nat.le_refl _) (Nat.le_refl _)
theorem d_Q_pieces_0 : DC m_Q_pieces 0 (.aload_n 0) 1 1 := ⟨by decide +kernel, rfl⟩
theorem d_Q_pieces_1 : DC m_Q_pieces 1 (.iload_n 1) 1 2 := ⟨by decide +kernel, rfl⟩
theorem d_Q_pieces_2 : DC m_Q_pieces 2 (.iload_n 2) 1 3 := ⟨by decide +kernel, rfl⟩
theorem d_Q_pieces_3 : DC m_Q_pieces 3 (.invokevirtual 130) 3 6 := ⟨by decide +kernel, rfl⟩
theorem d_Q_pieces_6 : DC m_Q_pieces 6 (.astore_n 3) 1 7 := ⟨by decide +kernel, rfl⟩
theorem d_Q_pieces_7 : DC m_Q_pieces 7 (.aload_n 3) 1 8 := ⟨by decide +kernel, rfl⟩
theorem d_Q_pieces_8 : DC m_Q_pieces 8 (.ifnonnull 7) 3 11 := ⟨by decide +kernel, rfl⟩
theorem d_Q_pieces_11 : DC m_Q_pieces 11 (.iconst (-1)) 1 12 := ⟨by decide +kernel, rfl⟩
theorem d_Q_pieces_12 : DC m_Q_pieces 12 (.goto 14) 3 15 := ⟨by decide +kernel, rfl⟩
theorem d_Q_pieces_15 : DC m_Q_pieces 15 (.aload_n 0) 1 16 := ⟨by decide +kernel, rfl⟩
theorem d_Q_pieces_16 : DC m_Q_pieces 16 (.getfield 72) 3 19 := ⟨by decide +kernel, rfl⟩
theorem d_Q_pieces_19 : DC m_Q_pieces 19 (.aload_n 3) 1 20 := ⟨by decide +kernel, rfl⟩
theorem d_Q_pieces_20 : DC m_Q_pieces 20 (.getfield 141) 3 23 := ⟨by decide +kernel, rfl⟩
theorem d_Q_pieces_23 : DC m_Q_pieces 23 (.invokevirtual 147) 3 26 := ⟨by decide +kernel, rfl⟩
theorem d_Q_pieces_26 : DC m_Q_pieces 26 .ireturn 1 27 := ⟨by decide +kernel, rfl⟩
def f_Q_pieces (n : Nat) (x0 : Nat) (x1 : Int32) (x2 : Int32) (M : MM) : Option (Int32 × MM) :=
  og 11 x0 M <|
  (f_Q_formOf n x0 x1 x2 M).bind fun p1 =>
  ob p1.1 (
    some ((-1), p1.2)
  ) fun r2 =>
    (gR 11 11 x0 p1.2).bind fun v3 =>
    (gR 4 0 r2 p1.2).bind fun v4 =>
    (f_Measure_countPieces n v3 v4 p1.2).bind fun p5 =>
    some (p5.1, p5.2)
theorem fc_Q_pieces {n : Nat} {x0 : Nat} {x1 : Int32} {x2 : Int32} {M : MM} {z : Int32 × MM} (h : f_Q_pieces n x0 x1 x2 M = some z) : (M.1.2.1 x0).1 = 11 := by
  unfold f_Q_pieces at h
  exact (og_s h).1
theorem t_Q_pieces (n : Nat) (x0 : Nat) (x1 : Int32) (x2 : Int32) (M : MM) (z : Int32 × MM) (h : f_Q_pieces n x0 x1 x2 M = some z) : CT m_Q_pieces (rm 5 0 0) [.ref x0, .int x1, .int x2] M (some (.int z.1)) z.2 := by
  unfold f_Q_pieces at h
  obtain ⟨hthis, h⟩ := og_s h
  refine CT.of (ls := [some (.ref x0), some (.int x1), some (.int x2), none]) rfl (okp rfl) rfl ?_
  refine e_aload_n d_Q_pieces_0 rfl ?_
  refine e_iload_n d_Q_pieces_1 rfl ?_
  refine e_iload_n d_Q_pieces_2 rfl ?_
  obtain ⟨p1, hp1, h⟩ := bnd h
  refine e_cVr (mt1 := m_Q_formOf) (As := [.int x1, .int x2]) (st := []) d_Q_pieces_3 ml_Q_130 mv_Q_formOf (t_Q_formOf n x0 x1 x2 M p1 hp1) (fc_Q_formOf hp1) rfl rfl rfl (okp rfl) (okp rfl) (okp rfl) (Nat.le_refl _) (Nat.le_refl _) ?_
  refine e_astore_nO (l2 := [some (.ref x0), some (.int x1), some (.int x2), some (vr p1.1)]) d_Q_pieces_6 rfl (okl rfl) rfl ?_
  refine e_aload_nO d_Q_pieces_7 rfl ?_
  rcases ob_s h with ⟨hr2, h⟩ | ⟨r2, hr2, h⟩
  · rw [hr2]
    refine e_ifnonnullN d_Q_pieces_8 ?_
    refine e_iconst (v := (-1)) d_Q_pieces_11 (by decide) ?_
    refine e_goto 26 d_Q_pieces_12 (by decide) ?_
    cases h
    exact e_iret d_Q_pieces_26 rfl (Nat.le_refl _) (Nat.le_refl _)
  · rw [hr2]
    refine e_ifnonnull 15 d_Q_pieces_8 (by decide) ?_
    refine e_aload_n d_Q_pieces_15 rfl ?_
    obtain ⟨v3, hv3, h⟩ := bnd h
    refine e_getR d_Q_pieces_16 fl_Q_72 (fun _ _ _ => rfl) hv3 ?_
    refine e_aload_n d_Q_pieces_19 rfl ?_
    obtain ⟨v4, hv4, h⟩ := bnd h
    refine e_getR d_Q_pieces_20 fl_Q_141 (fun _ _ _ => rfl) hv4 ?_
    obtain ⟨p5, hp5, h⟩ := bnd h
    refine e_cVi (mt1 := m_Measure_countPieces) (As := [.ref v4]) (st := []) d_Q_pieces_23 ml_Q_147 mv_Measure_countPieces (t_Measure_countPieces n v3 v4 p1.2 p5 hp5) (fc_Measure_countPieces hp5) rfl rfl rfl (okp rfl) (okp rfl) (okp rfl) (Nat.le_refl _) (Nat.le_refl _) ?_
    cases h
    exact e_iret d_Q_pieces_26 rfl (Nat.le_refl _) (Nat.le_refl _)
theorem d_Q_corners_0 : DC m_Q_corners 0 (.aload_n 0) 1 1 := ⟨by decide +kernel, rfl⟩
theorem d_Q_corners_1 : DC m_Q_corners 1 (.iload_n 1) 1 2 := ⟨by decide +kernel, rfl⟩
theorem d_Q_corners_2 : DC m_Q_corners 2 (.iload_n 2) 1 3 := ⟨by decide +kernel, rfl⟩
theorem d_Q_corners_3 : DC m_Q_corners 3 (.invokevirtual 130) 3 6 := ⟨by decide +kernel, rfl⟩
theorem d_Q_corners_6 : DC m_Q_corners 6 (.astore 4) 2 8 := ⟨by decide +kernel, rfl⟩
theorem d_Q_corners_8 : DC m_Q_corners 8 (.aload 4) 2 10 := ⟨by decide +kernel, rfl⟩
theorem d_Q_corners_10 : DC m_Q_corners 10 (.ifnonnull 7) 3 13 := ⟨by decide +kernel, rfl⟩
theorem d_Q_corners_13 : DC m_Q_corners 13 (.iconst (-1)) 1 14 := ⟨by decide +kernel, rfl⟩
theorem d_Q_corners_14 : DC m_Q_corners 14 (.goto 16) 3 17 := ⟨by decide +kernel, rfl⟩
theorem d_Q_corners_17 : DC m_Q_corners 17 (.aload_n 0) 1 18 := ⟨by decide +kernel, rfl⟩
theorem d_Q_corners_18 : DC m_Q_corners 18 (.getfield 72) 3 21 := ⟨by decide +kernel, rfl⟩
theorem d_Q_corners_21 : DC m_Q_corners 21 (.aload 4) 2 23 := ⟨by decide +kernel, rfl⟩
theorem d_Q_corners_23 : DC m_Q_corners 23 (.getfield 141) 3 26 := ⟨by decide +kernel, rfl⟩
theorem d_Q_corners_26 : DC m_Q_corners 26 (.iload_n 3) 1 27 := ⟨by decide +kernel, rfl⟩
theorem d_Q_corners_27 : DC m_Q_corners 27 (.invokevirtual 151) 3 30 := ⟨by decide +kernel, rfl⟩
theorem d_Q_corners_30 : DC m_Q_corners 30 .ireturn 1 31 := ⟨by decide +kernel, rfl⟩
def f_Q_corners (n : Nat) (x0 : Nat) (x1 : Int32) (x2 : Int32) (x3 : Int32) (M : MM) : Option (Int32 × MM) :=
  og 11 x0 M <|
  (f_Q_formOf n x0 x1 x2 M).bind fun p1 =>
  ob p1.1 (
    some ((-1), p1.2)
  ) fun r2 =>
    (gR 11 11 x0 p1.2).bind fun v3 =>
    (gR 4 0 r2 p1.2).bind fun v4 =>
    (f_Measure_countCorners n v3 v4 x3 p1.2).bind fun p5 =>
    some (p5.1, p5.2)
theorem fc_Q_corners {n : Nat} {x0 : Nat} {x1 : Int32} {x2 : Int32} {x3 : Int32} {M : MM} {z : Int32 × MM} (h : f_Q_corners n x0 x1 x2 x3 M = some z) : (M.1.2.1 x0).1 = 11 := by
  unfold f_Q_corners at h
  exact (og_s h).1
theorem t_Q_corners (n : Nat) (x0 : Nat) (x1 : Int32) (x2 : Int32) (x3 : Int32) (M : MM) (z : Int32 × MM) (h : f_Q_corners n x0 x1 x2 x3 M = some z) : CT m_Q_corners (rm 4 0 0) [.ref x0, .int x1, .int x2, .int x3] M (some (.int z.1)) z.2 := by
  unfold f_Q_corners at h
  obtain ⟨hthis, h⟩ := og_s h
  refine CT.of (ls := [some (.ref x0), some (.int x1), some (.int x2), some (.int x3), none]) rfl (okp rfl) rfl ?_
  refine e_aload_n d_Q_corners_0 rfl ?_
  refine e_iload_n d_Q_corners_1 rfl ?_
  refine e_iload_n d_Q_corners_2 rfl ?_
  obtain ⟨p1, hp1, h⟩ := bnd h
  refine e_cVr (mt1 := m_Q_formOf) (As := [.int x1, .int x2]) (st := []) d_Q_corners_3 ml_Q_130 mv_Q_formOf (t_Q_formOf n x0 x1 x2 M p1 hp1) (fc_Q_formOf hp1) rfl rfl rfl (okp rfl) (okp rfl) (okp rfl) (Nat.le_refl _) (Nat.le_refl _) ?_
  refine e_astoreO (l2 := [some (.ref x0), some (.int x1), some (.int x2), some (.int x3), some (vr p1.1)]) d_Q_corners_6 rfl (okl rfl) rfl ?_
  refine e_aloadO d_Q_corners_8 rfl ?_
  rcases ob_s h with ⟨hr2, h⟩ | ⟨r2, hr2, h⟩
  · rw [hr2]
    refine e_ifnonnullN d_Q_corners_10 ?_
    refine e_iconst (v := (-1)) d_Q_corners_13 (by decide) ?_
    refine e_goto 30 d_Q_corners_14 (by decide) ?_
    cases h
    exact e_iret d_Q_corners_30 rfl (Nat.le_refl _) (Nat.le_refl _)
  · rw [hr2]
    refine e_ifnonnull 17 d_Q_corners_10 (by decide) ?_
    refine e_aload_n d_Q_corners_17 rfl ?_
    obtain ⟨v3, hv3, h⟩ := bnd h
    refine e_getR d_Q_corners_18 fl_Q_72 (fun _ _ _ => rfl) hv3 ?_
    refine e_aload d_Q_corners_21 rfl ?_
    obtain ⟨v4, hv4, h⟩ := bnd h
    refine e_getR d_Q_corners_23 fl_Q_141 (fun _ _ _ => rfl) hv4 ?_
    refine e_iload_n d_Q_corners_26 rfl ?_
    obtain ⟨p5, hp5, h⟩ := bnd h
    refine e_cVi (mt1 := m_Measure_countCorners) (As := [.ref v4, .int x3]) (st := []) d_Q_corners_27 ml_Q_151 mv_Measure_countCorners (t_Measure_countCorners n v3 v4 x3 p1.2 p5 hp5) (fc_Measure_countCorners hp5) rfl rfl rfl (okp rfl) (okp rfl) (okp rfl) (Nat.le_refl _) (Nat.le_refl _) ?_
    cases h
    exact e_iret d_Q_corners_30 rfl (Nat.le_refl _) (Nat.le_refl _)
theorem d_Q_bulges_0 : DC m_Q_bulges 0 (.aload_n 0) 1 1 := ⟨by decide +kernel, rfl⟩
theorem d_Q_bulges_1 : DC m_Q_bulges 1 (.iload_n 1) 1 2 := ⟨by decide +kernel, rfl⟩
theorem d_Q_bulges_2 : DC m_Q_bulges 2 (.iload_n 2) 1 3 := ⟨by decide +kernel, rfl⟩
theorem d_Q_bulges_3 : DC m_Q_bulges 3 (.invokevirtual 130) 3 6 := ⟨by decide +kernel, rfl⟩
theorem d_Q_bulges_6 : DC m_Q_bulges 6 (.astore_n 3) 1 7 := ⟨by decide +kernel, rfl⟩
theorem d_Q_bulges_7 : DC m_Q_bulges 7 (.aload_n 3) 1 8 := ⟨by decide +kernel, rfl⟩
theorem d_Q_bulges_8 : DC m_Q_bulges 8 (.ifnonnull 5) 3 11 := ⟨by decide +kernel, rfl⟩
theorem d_Q_bulges_11 : DC m_Q_bulges 11 (.iconst (-1)) 1 12 := ⟨by decide +kernel, rfl⟩
theorem d_Q_bulges_12 : DC m_Q_bulges 12 .ireturn 1 13 := ⟨by decide +kernel, rfl⟩
theorem d_Q_bulges_13 : DC m_Q_bulges 13 (.aload_n 0) 1 14 := ⟨by decide +kernel, rfl⟩
theorem d_Q_bulges_14 : DC m_Q_bulges 14 (.getfield 72) 3 17 := ⟨by decide +kernel, rfl⟩
theorem d_Q_bulges_17 : DC m_Q_bulges 17 (.aload_n 3) 1 18 := ⟨by decide +kernel, rfl⟩
theorem d_Q_bulges_18 : DC m_Q_bulges 18 (.getfield 141) 3 21 := ⟨by decide +kernel, rfl⟩
theorem d_Q_bulges_21 : DC m_Q_bulges 21 (.invokevirtual 155) 3 24 := ⟨by decide +kernel, rfl⟩
theorem d_Q_bulges_24 : DC m_Q_bulges 24 (.ifCond .eq 22) 3 27 := ⟨by decide +kernel, rfl⟩
theorem d_Q_bulges_27 : DC m_Q_bulges 27 (.aload_n 0) 1 28 := ⟨by decide +kernel, rfl⟩
theorem d_Q_bulges_28 : DC m_Q_bulges 28 (.getfield 72) 3 31 := ⟨by decide +kernel, rfl⟩
theorem d_Q_bulges_31 : DC m_Q_bulges 31 (.aload_n 3) 1 32 := ⟨by decide +kernel, rfl⟩
theorem d_Q_bulges_32 : DC m_Q_bulges 32 (.getfield 141) 3 35 := ⟨by decide +kernel, rfl⟩
theorem d_Q_bulges_35 : DC m_Q_bulges 35 (.iconst 1) 1 36 := ⟨by decide +kernel, rfl⟩
theorem d_Q_bulges_36 : DC m_Q_bulges 36 (.invokevirtual 151) 3 39 := ⟨by decide +kernel, rfl⟩
theorem d_Q_bulges_39 : DC m_Q_bulges 39 (.ifCond .ne 7) 3 42 := ⟨by decide +kernel, rfl⟩
theorem d_Q_bulges_42 : DC m_Q_bulges 42 (.iconst 1) 1 43 := ⟨by decide +kernel, rfl⟩
theorem d_Q_bulges_43 : DC m_Q_bulges 43 (.goto 4) 3 46 := ⟨by decide +kernel, rfl⟩
theorem d_Q_bulges_46 : DC m_Q_bulges 46 (.iconst 0) 1 47 := ⟨by decide +kernel, rfl⟩
theorem d_Q_bulges_47 : DC m_Q_bulges 47 .ireturn 1 48 := ⟨by decide +kernel, rfl⟩
def f_Q_bulges (n : Nat) (x0 : Nat) (x1 : Int32) (x2 : Int32) (M : MM) : Option (Int32 × MM) :=
  og 11 x0 M <|
  (f_Q_formOf n x0 x1 x2 M).bind fun p1 =>
  ob p1.1 (
    some ((-1), p1.2)
  ) fun r2 =>
    (gR 11 11 x0 p1.2).bind fun v3 =>
    (gR 4 0 r2 p1.2).bind fun v4 =>
    (f_Measure_isOnePiece n v3 v4 p1.2).bind fun p5 =>
    if p5.1 = 0 then
      some (0, p5.2)
    else
      (gR 11 11 x0 p5.2).bind fun v7 =>
      (gR 4 0 r2 p5.2).bind fun v8 =>
      (f_Measure_countCorners n v7 v8 1 p5.2).bind fun p9 =>
      if p9.1 = 0 then
        some (1, p9.2)
      else
        some (0, p9.2)
theorem fc_Q_bulges {n : Nat} {x0 : Nat} {x1 : Int32} {x2 : Int32} {M : MM} {z : Int32 × MM} (h : f_Q_bulges n x0 x1 x2 M = some z) : (M.1.2.1 x0).1 = 11 := by
  unfold f_Q_bulges at h
  exact (og_s h).1
theorem t_Q_bulges (n : Nat) (x0 : Nat) (x1 : Int32) (x2 : Int32) (M : MM) (z : Int32 × MM) (h : f_Q_bulges n x0 x1 x2 M = some z) : CT m_Q_bulges (rm 5 0 0) [.ref x0, .int x1, .int x2] M (some (.int z.1)) z.2 := by
  unfold f_Q_bulges at h
  obtain ⟨hthis, h⟩ := og_s h
  refine CT.of (ls := [some (.ref x0), some (.int x1), some (.int x2), none]) rfl (okp rfl) rfl ?_
  refine e_aload_n d_Q_bulges_0 rfl ?_
  refine e_iload_n d_Q_bulges_1 rfl ?_
  refine e_iload_n d_Q_bulges_2 rfl ?_
  obtain ⟨p1, hp1, h⟩ := bnd h
  refine e_cVr (mt1 := m_Q_formOf) (As := [.int x1, .int x2]) (st := []) d_Q_bulges_3 ml_Q_130 mv_Q_formOf (t_Q_formOf n x0 x1 x2 M p1 hp1) (fc_Q_formOf hp1) rfl rfl rfl (okp rfl) (okp rfl) (okp rfl) (Nat.le_refl _) (Nat.le_refl _) ?_
  refine e_astore_nO (l2 := [some (.ref x0), some (.int x1), some (.int x2), some (vr p1.1)]) d_Q_bulges_6 rfl (okl rfl) rfl ?_
  refine e_aload_nO d_Q_bulges_7 rfl ?_
  rcases ob_s h with ⟨hr2, h⟩ | ⟨r2, hr2, h⟩
  · rw [hr2]
    refine e_ifnonnullN d_Q_bulges_8 ?_
    refine e_iconst (v := (-1)) d_Q_bulges_11 (by decide) ?_
    cases h
    exact e_iret d_Q_bulges_12 rfl (Nat.le_refl _) (Nat.le_refl _)
  · rw [hr2]
    refine e_ifnonnull 13 d_Q_bulges_8 (by decide) ?_
    refine e_aload_n d_Q_bulges_13 rfl ?_
    obtain ⟨v3, hv3, h⟩ := bnd h
    refine e_getR d_Q_bulges_14 fl_Q_72 (fun _ _ _ => rfl) hv3 ?_
    refine e_aload_n d_Q_bulges_17 rfl ?_
    obtain ⟨v4, hv4, h⟩ := bnd h
    refine e_getR d_Q_bulges_18 fl_Q_141 (fun _ _ _ => rfl) hv4 ?_
    obtain ⟨p5, hp5, h⟩ := bnd h
    refine e_cVi (mt1 := m_Measure_isOnePiece) (As := [.ref v4]) (st := []) d_Q_bulges_21 ml_Q_155 mv_Measure_isOnePiece (t_Measure_isOnePiece n v3 v4 p1.2 p5 hp5) (fc_Measure_isOnePiece hp5) rfl rfl rfl (okp rfl) (okp rfl) (okp rfl) (Nat.le_refl _) (Nat.le_refl _) ?_
    refine e_if_eq 46 d_Q_bulges_24 (by decide) (fun c6 => ?_) (fun c6 => ?_)
    · replace h := ift c6 h
      refine e_iconst (v := 0) d_Q_bulges_46 (by decide) ?_
      cases h
      exact e_iret d_Q_bulges_47 rfl (Nat.le_refl _) (Nat.le_refl _)
    · replace h := ifn c6 h
      refine e_aload_n d_Q_bulges_27 rfl ?_
      obtain ⟨v7, hv7, h⟩ := bnd h
      refine e_getR d_Q_bulges_28 fl_Q_72 (fun _ _ _ => rfl) hv7 ?_
      refine e_aload_n d_Q_bulges_31 rfl ?_
      obtain ⟨v8, hv8, h⟩ := bnd h
      refine e_getR d_Q_bulges_32 fl_Q_141 (fun _ _ _ => rfl) hv8 ?_
      refine e_iconst (v := 1) d_Q_bulges_35 (by decide) ?_
      obtain ⟨p9, hp9, h⟩ := bnd h
      refine e_cVi (mt1 := m_Measure_countCorners) (As := [.ref v8, .int 1]) (st := []) d_Q_bulges_36 ml_Q_151 mv_Measure_countCorners (t_Measure_countCorners n v7 v8 1 p5.2 p9 hp9) (fc_Measure_countCorners hp9) rfl rfl rfl (okp rfl) (okp rfl) (okp rfl) (Nat.le_refl _) (Nat.le_refl _) ?_
      refine e_if_ne 46 d_Q_bulges_39 (by decide) (fun c10 => ?_) (fun c10 => ?_)
      · replace h := ifn c10 h
        refine e_iconst (v := 0) d_Q_bulges_46 (by decide) ?_
        cases h
        exact e_iret d_Q_bulges_47 rfl (Nat.le_refl _) (Nat.le_refl _)
      · replace h := ift c10 h
        refine e_iconst (v := 1) d_Q_bulges_42 (by decide) ?_
        refine e_goto 47 d_Q_bulges_43 (by decide) ?_
        cases h
        exact e_iret d_Q_bulges_47 rfl (Nat.le_refl _) (Nat.le_refl _)
theorem d_Q_images_0 : DC m_Q_images 0 (.aload_n 0) 1 1 := ⟨by decide +kernel, rfl⟩
theorem d_Q_images_1 : DC m_Q_images 1 (.iload_n 1) 1 2 := ⟨by decide +kernel, rfl⟩
theorem d_Q_images_2 : DC m_Q_images 2 (.iload_n 2) 1 3 := ⟨by decide +kernel, rfl⟩
theorem d_Q_images_3 : DC m_Q_images 3 (.invokevirtual 130) 3 6 := ⟨by decide +kernel, rfl⟩
theorem d_Q_images_6 : DC m_Q_images 6 (.astore_n 3) 1 7 := ⟨by decide +kernel, rfl⟩
theorem d_Q_images_7 : DC m_Q_images 7 (.aload_n 3) 1 8 := ⟨by decide +kernel, rfl⟩
theorem d_Q_images_8 : DC m_Q_images 8 (.ifnonnull 7) 3 11 := ⟨by decide +kernel, rfl⟩
theorem d_Q_images_11 : DC m_Q_images 11 (.iconst (-1)) 1 12 := ⟨by decide +kernel, rfl⟩
theorem d_Q_images_12 : DC m_Q_images 12 (.goto 7) 3 15 := ⟨by decide +kernel, rfl⟩
theorem d_Q_images_15 : DC m_Q_images 15 (.aload_n 3) 1 16 := ⟨by decide +kernel, rfl⟩
theorem d_Q_images_16 : DC m_Q_images 16 (.invokevirtual 159) 3 19 := ⟨by decide +kernel, rfl⟩
theorem d_Q_images_19 : DC m_Q_images 19 .ireturn 1 20 := ⟨by decide +kernel, rfl⟩
def f_Q_images (n : Nat) (x0 : Nat) (x1 : Int32) (x2 : Int32) (M : MM) : Option (Int32 × MM) :=
  og 11 x0 M <|
  (f_Q_formOf n x0 x1 x2 M).bind fun p1 =>
  ob p1.1 (
    some ((-1), p1.2)
  ) fun r2 =>
    (f_Form_countDifferent n r2 p1.2).bind fun p3 =>
    some (p3.1, p3.2)
theorem fc_Q_images {n : Nat} {x0 : Nat} {x1 : Int32} {x2 : Int32} {M : MM} {z : Int32 × MM} (h : f_Q_images n x0 x1 x2 M = some z) : (M.1.2.1 x0).1 = 11 := by
  unfold f_Q_images at h
  exact (og_s h).1
theorem t_Q_images (n : Nat) (x0 : Nat) (x1 : Int32) (x2 : Int32) (M : MM) (z : Int32 × MM) (h : f_Q_images n x0 x1 x2 M = some z) : CT m_Q_images (rm 2 0 0) [.ref x0, .int x1, .int x2] M (some (.int z.1)) z.2 := by
  unfold f_Q_images at h
  obtain ⟨hthis, h⟩ := og_s h
  refine CT.of (ls := [some (.ref x0), some (.int x1), some (.int x2), none]) rfl (okp rfl) rfl ?_
  refine e_aload_n d_Q_images_0 rfl ?_
  refine e_iload_n d_Q_images_1 rfl ?_
  refine e_iload_n d_Q_images_2 rfl ?_
  obtain ⟨p1, hp1, h⟩ := bnd h
  refine e_cVr (mt1 := m_Q_formOf) (As := [.int x1, .int x2]) (st := []) d_Q_images_3 ml_Q_130 mv_Q_formOf (t_Q_formOf n x0 x1 x2 M p1 hp1) (fc_Q_formOf hp1) rfl rfl rfl (okp rfl) (okp rfl) (okp rfl) (Nat.le_refl _) (Nat.le_refl _) ?_
  refine e_astore_nO (l2 := [some (.ref x0), some (.int x1), some (.int x2), some (vr p1.1)]) d_Q_images_6 rfl (okl rfl) rfl ?_
  refine e_aload_nO d_Q_images_7 rfl ?_
  rcases ob_s h with ⟨hr2, h⟩ | ⟨r2, hr2, h⟩
  · rw [hr2]
    refine e_ifnonnullN d_Q_images_8 ?_
    refine e_iconst (v := (-1)) d_Q_images_11 (by decide) ?_
    refine e_goto 19 d_Q_images_12 (by decide) ?_
    cases h
    exact e_iret d_Q_images_19 rfl (Nat.le_refl _) (Nat.le_refl _)
  · rw [hr2]
    refine e_ifnonnull 15 d_Q_images_8 (by decide) ?_
    refine e_aload_n d_Q_images_15 rfl ?_
    obtain ⟨p3, hp3, h⟩ := bnd h
    refine e_cVi (mt1 := m_Form_countDifferent) (As := []) (st := []) d_Q_images_16 ml_Q_159 mv_Form_countDifferent (t_Form_countDifferent n r2 p1.2 p3 hp3) (fc_Form_countDifferent hp3) rfl rfl rfl (okp rfl) (okp rfl) (okp rfl) (Nat.le_refl _) (Nat.le_refl _) ?_
    cases h
    exact e_iret d_Q_images_19 rfl (Nat.le_refl _) (Nat.le_refl _)
theorem d_Q_isImage_0 : DC m_Q_isImage 0 (.iload_n 0) 1 1 := ⟨by decide +kernel, rfl⟩
theorem d_Q_isImage_1 : DC m_Q_isImage 1 (.ifCond .lt 13) 3 4 := ⟨by decide +kernel, rfl⟩
theorem d_Q_isImage_4 : DC m_Q_isImage 4 (.iload_n 0) 1 5 := ⟨by decide +kernel, rfl⟩
theorem d_Q_isImage_5 : DC m_Q_isImage 5 (.bipush 8) 2 7 := ⟨by decide +kernel, rfl⟩
theorem d_Q_isImage_7 : DC m_Q_isImage 7 (.if_icmp .ge 7) 3 10 := ⟨by decide +kernel, rfl⟩
theorem d_Q_isImage_10 : DC m_Q_isImage 10 (.iconst 1) 1 11 := ⟨by decide +kernel, rfl⟩
theorem d_Q_isImage_11 : DC m_Q_isImage 11 (.goto 4) 3 14 := ⟨by decide +kernel, rfl⟩
theorem d_Q_isImage_14 : DC m_Q_isImage 14 (.iconst 0) 1 15 := ⟨by decide +kernel, rfl⟩
theorem d_Q_isImage_15 : DC m_Q_isImage 15 .ireturn 1 16 := ⟨by decide +kernel, rfl⟩
def f_Q_isImage (n : Nat) (x0 : Int32) (M : MM) : Option (Int32 × MM) :=
  if x0 < 0 then
    some (0, M)
  else
    if 8 ≤ x0 then
      some (0, M)
    else
      some (1, M)
theorem t_Q_isImage (n : Nat) (x0 : Int32) (M : MM) (z : Int32 × MM) (h : f_Q_isImage n x0 M = some z) : CT m_Q_isImage (rm 1 0 0) [.int x0] M (some (.int z.1)) z.2 := by
  unfold f_Q_isImage at h
  refine CT.of (ls := [some (.int x0)]) rfl (okp rfl) rfl ?_
  refine e_iload_n d_Q_isImage_0 rfl ?_
  refine e_if_lt 14 d_Q_isImage_1 (by decide) (fun c1 => ?_) (fun c1 => ?_)
  · replace h := ift c1 h
    refine e_iconst (v := 0) d_Q_isImage_14 (by decide) ?_
    cases h
    exact e_zret (ty := .boolean) d_Q_isImage_15 rfl narZ0 (Nat.le_refl _) (Nat.le_refl _)
  · replace h := ifn c1 h
    refine e_iload_n d_Q_isImage_4 rfl ?_
    refine e_bipush (v := 8) d_Q_isImage_5 (by decide) ?_
    refine e_ic_ge 14 d_Q_isImage_7 (by decide) (fun c2 => ?_) (fun c2 => ?_)
    · replace h := ift c2 h
      refine e_iconst (v := 0) d_Q_isImage_14 (by decide) ?_
      cases h
      exact e_zret (ty := .boolean) d_Q_isImage_15 rfl narZ0 (Nat.le_refl _) (Nat.le_refl _)
    · replace h := ifn c2 h
      refine e_iconst (v := 1) d_Q_isImage_10 (by decide) ?_
      refine e_goto 15 d_Q_isImage_11 (by decide) ?_
      cases h
      exact e_zret (ty := .boolean) d_Q_isImage_15 rfl narZ1 (Nat.le_refl _) (Nat.le_refl _)
theorem d_Q_least_0 : DC m_Q_least 0 (.aload_n 0) 1 1 := ⟨by decide +kernel, rfl⟩
theorem d_Q_least_1 : DC m_Q_least 1 (.iload_n 1) 1 2 := ⟨by decide +kernel, rfl⟩
theorem d_Q_least_2 : DC m_Q_least 2 (.iload_n 2) 1 3 := ⟨by decide +kernel, rfl⟩
theorem d_Q_least_3 : DC m_Q_least 3 (.invokevirtual 130) 3 6 := ⟨by decide +kernel, rfl⟩
theorem d_Q_least_6 : DC m_Q_least 6 (.astore 4) 2 8 := ⟨by decide +kernel, rfl⟩
theorem d_Q_least_8 : DC m_Q_least 8 (.aload 4) 2 10 := ⟨by decide +kernel, rfl⟩
theorem d_Q_least_10 : DC m_Q_least 10 (.ifnull 10) 3 13 := ⟨by decide +kernel, rfl⟩
theorem d_Q_least_13 : DC m_Q_least 13 (.iload_n 3) 1 14 := ⟨by decide +kernel, rfl⟩
theorem d_Q_least_14 : DC m_Q_least 14 (.invokestatic 163) 3 17 := ⟨by decide +kernel, rfl⟩
theorem d_Q_least_17 : DC m_Q_least 17 (.ifCond .ne 5) 3 20 := ⟨by decide +kernel, rfl⟩
theorem d_Q_least_20 : DC m_Q_least 20 (.iconst (-1)) 1 21 := ⟨by decide +kernel, rfl⟩
theorem d_Q_least_21 : DC m_Q_least 21 .ireturn 1 22 := ⟨by decide +kernel, rfl⟩
theorem d_Q_least_22 : DC m_Q_least 22 (.aload 4) 2 24 := ⟨by decide +kernel, rfl⟩
theorem d_Q_least_24 : DC m_Q_least 24 (.getfield 166) 3 27 := ⟨by decide +kernel, rfl⟩
theorem d_Q_least_27 : DC m_Q_least 27 (.iload_n 3) 1 28 := ⟨by decide +kernel, rfl⟩
theorem d_Q_least_28 : DC m_Q_least 28 .iaload 1 29 := ⟨by decide +kernel, rfl⟩
theorem d_Q_least_29 : DC m_Q_least 29 .ireturn 1 30 := ⟨by decide +kernel, rfl⟩
def f_Q_least (n : Nat) (x0 : Nat) (x1 : Int32) (x2 : Int32) (x3 : Int32) (M : MM) : Option (Int32 × MM) :=
  og 11 x0 M <|
  (f_Q_formOf n x0 x1 x2 M).bind fun p1 =>
  ob p1.1 (
    some ((-1), p1.2)
  ) fun r2 =>
    (f_Q_isImage n x3 p1.2).bind fun p3 =>
    if p3.1 = 0 then
      some ((-1), p3.2)
    else
      (gR 4 2 r2 p3.2).bind fun v5 =>
      (aI 100 v5 x3 p3.2).bind fun v6 =>
      some (v6, p3.2)
theorem fc_Q_least {n : Nat} {x0 : Nat} {x1 : Int32} {x2 : Int32} {x3 : Int32} {M : MM} {z : Int32 × MM} (h : f_Q_least n x0 x1 x2 x3 M = some z) : (M.1.2.1 x0).1 = 11 := by
  unfold f_Q_least at h
  exact (og_s h).1
theorem t_Q_least (n : Nat) (x0 : Nat) (x1 : Int32) (x2 : Int32) (x3 : Int32) (M : MM) (z : Int32 × MM) (h : f_Q_least n x0 x1 x2 x3 M = some z) : CT m_Q_least (rm 2 0 0) [.ref x0, .int x1, .int x2, .int x3] M (some (.int z.1)) z.2 := by
  unfold f_Q_least at h
  obtain ⟨hthis, h⟩ := og_s h
  refine CT.of (ls := [some (.ref x0), some (.int x1), some (.int x2), some (.int x3), none]) rfl (okp rfl) rfl ?_
  refine e_aload_n d_Q_least_0 rfl ?_
  refine e_iload_n d_Q_least_1 rfl ?_
  refine e_iload_n d_Q_least_2 rfl ?_
  obtain ⟨p1, hp1, h⟩ := bnd h
  refine e_cVr (mt1 := m_Q_formOf) (As := [.int x1, .int x2]) (st := []) d_Q_least_3 ml_Q_130 mv_Q_formOf (t_Q_formOf n x0 x1 x2 M p1 hp1) (fc_Q_formOf hp1) rfl rfl rfl (okp rfl) (okp rfl) (okp rfl) (Nat.le_refl _) (Nat.le_refl _) ?_
  refine e_astoreO (l2 := [some (.ref x0), some (.int x1), some (.int x2), some (.int x3), some (vr p1.1)]) d_Q_least_6 rfl (okl rfl) rfl ?_
  refine e_aloadO d_Q_least_8 rfl ?_
  rcases ob_s h with ⟨hr2, h⟩ | ⟨r2, hr2, h⟩
  · rw [hr2]
    refine e_ifnullN 20 d_Q_least_10 (by decide) ?_
    refine e_iconst (v := (-1)) d_Q_least_20 (by decide) ?_
    cases h
    exact e_iret d_Q_least_21 rfl (Nat.le_refl _) (Nat.le_refl _)
  · rw [hr2]
    refine e_ifnull d_Q_least_10 ?_
    refine e_iload_n d_Q_least_13 rfl ?_
    obtain ⟨p3, hp3, h⟩ := bnd h
    refine e_cSi (mt1 := m_Q_isImage) (As := [.int x3]) (st := []) d_Q_least_14 ml_Q_163 ms_Q_isImage (t_Q_isImage n x3 p1.2 p3 hp3) rfl rfl (okp rfl) (okp rfl) (okp rfl) (Nat.le_refl _) (Nat.le_refl _) ?_
    refine e_if_ne 22 d_Q_least_17 (by decide) (fun c4 => ?_) (fun c4 => ?_)
    · replace h := ifn c4 h
      refine e_aload d_Q_least_22 rfl ?_
      obtain ⟨v5, hv5, h⟩ := bnd h
      refine e_getR d_Q_least_24 fl_Q_166 (fun _ _ _ => rfl) hv5 ?_
      refine e_iload_n d_Q_least_27 rfl ?_
      obtain ⟨v6, hv6, h⟩ := bnd h
      refine e_iald d_Q_least_28 hv6 ?_
      cases h
      exact e_iret d_Q_least_29 rfl (Nat.le_refl _) (Nat.le_refl _)
    · replace h := ift c4 h
      refine e_iconst (v := (-1)) d_Q_least_20 (by decide) ?_
      cases h
      exact e_iret d_Q_least_21 rfl (Nat.le_refl _) (Nat.le_refl _)
theorem d_Q_alike_0 : DC m_Q_alike 0 (.aload_n 0) 1 1 := ⟨by decide +kernel, rfl⟩
theorem d_Q_alike_1 : DC m_Q_alike 1 (.iconst 1) 1 2 := ⟨by decide +kernel, rfl⟩
theorem d_Q_alike_2 : DC m_Q_alike 2 (.iload_n 1) 1 3 := ⟨by decide +kernel, rfl⟩
theorem d_Q_alike_3 : DC m_Q_alike 3 (.invokevirtual 130) 3 6 := ⟨by decide +kernel, rfl⟩
theorem d_Q_alike_6 : DC m_Q_alike 6 (.astore_n 3) 1 7 := ⟨by decide +kernel, rfl⟩
theorem d_Q_alike_7 : DC m_Q_alike 7 (.aload_n 0) 1 8 := ⟨by decide +kernel, rfl⟩
theorem d_Q_alike_8 : DC m_Q_alike 8 (.iconst 1) 1 9 := ⟨by decide +kernel, rfl⟩
theorem d_Q_alike_9 : DC m_Q_alike 9 (.iload_n 2) 1 10 := ⟨by decide +kernel, rfl⟩
theorem d_Q_alike_10 : DC m_Q_alike 10 (.invokevirtual 130) 3 13 := ⟨by decide +kernel, rfl⟩
theorem d_Q_alike_13 : DC m_Q_alike 13 (.astore 4) 2 15 := ⟨by decide +kernel, rfl⟩
theorem d_Q_alike_15 : DC m_Q_alike 15 (.aload_n 3) 1 16 := ⟨by decide +kernel, rfl⟩
theorem d_Q_alike_16 : DC m_Q_alike 16 (.ifnull 8) 3 19 := ⟨by decide +kernel, rfl⟩
theorem d_Q_alike_19 : DC m_Q_alike 19 (.aload 4) 2 21 := ⟨by decide +kernel, rfl⟩
theorem d_Q_alike_21 : DC m_Q_alike 21 (.ifnonnull 5) 3 24 := ⟨by decide +kernel, rfl⟩
theorem d_Q_alike_24 : DC m_Q_alike 24 (.iconst (-1)) 1 25 := ⟨by decide +kernel, rfl⟩
theorem d_Q_alike_25 : DC m_Q_alike 25 .ireturn 1 26 := ⟨by decide +kernel, rfl⟩
theorem d_Q_alike_26 : DC m_Q_alike 26 (.aload_n 3) 1 27 := ⟨by decide +kernel, rfl⟩
theorem d_Q_alike_27 : DC m_Q_alike 27 (.aload 4) 2 29 := ⟨by decide +kernel, rfl⟩
theorem d_Q_alike_29 : DC m_Q_alike 29 (.invokevirtual 170) 3 32 := ⟨by decide +kernel, rfl⟩
theorem d_Q_alike_32 : DC m_Q_alike 32 (.invokevirtual 174) 3 35 := ⟨by decide +kernel, rfl⟩
theorem d_Q_alike_35 : DC m_Q_alike 35 .ireturn 1 36 := ⟨by decide +kernel, rfl⟩
def f_Q_alike (n : Nat) (x0 : Nat) (x1 : Int32) (x2 : Int32) (M : MM) : Option (Int32 × MM) :=
  og 11 x0 M <|
  (f_Q_formOf n x0 1 x1 M).bind fun p1 =>
  (f_Q_formOf n x0 1 x2 p1.2).bind fun p2 =>
  ob p1.1 (
    some ((-1), p2.2)
  ) fun r3 =>
    ob p2.1 (
      some ((-1), p2.2)
    ) fun r4 =>
      (f_Form_base n r4 p2.2).bind fun p5 =>
      (p5.1).bind fun r6 =>
      (f_Form_imageThatIs n r3 r6 p5.2).bind fun p7 =>
      some (p7.1, p7.2)
theorem fc_Q_alike {n : Nat} {x0 : Nat} {x1 : Int32} {x2 : Int32} {M : MM} {z : Int32 × MM} (h : f_Q_alike n x0 x1 x2 M = some z) : (M.1.2.1 x0).1 = 11 := by
  unfold f_Q_alike at h
  exact (og_s h).1
theorem t_Q_alike (n : Nat) (x0 : Nat) (x1 : Int32) (x2 : Int32) (M : MM) (z : Int32 × MM) (h : f_Q_alike n x0 x1 x2 M = some z) : CT m_Q_alike (rm 3 0 0) [.ref x0, .int x1, .int x2] M (some (.int z.1)) z.2 := by
  unfold f_Q_alike at h
  obtain ⟨hthis, h⟩ := og_s h
  refine CT.of (ls := [some (.ref x0), some (.int x1), some (.int x2), none, none]) rfl (okp rfl) rfl ?_
  refine e_aload_n d_Q_alike_0 rfl ?_
  refine e_iconst (v := 1) d_Q_alike_1 (by decide) ?_
  refine e_iload_n d_Q_alike_2 rfl ?_
  obtain ⟨p1, hp1, h⟩ := bnd h
  refine e_cVr (mt1 := m_Q_formOf) (As := [.int 1, .int x1]) (st := []) d_Q_alike_3 ml_Q_130 mv_Q_formOf (t_Q_formOf n x0 1 x1 M p1 hp1) (fc_Q_formOf hp1) rfl rfl rfl (okp rfl) (okp rfl) (okp rfl) (Nat.le_refl _) (Nat.le_refl _) ?_
  refine e_astore_nO (l2 := [some (.ref x0), some (.int x1), some (.int x2), some (vr p1.1), none]) d_Q_alike_6 rfl (okl rfl) rfl ?_
  refine e_aload_n d_Q_alike_7 rfl ?_
  refine e_iconst (v := 1) d_Q_alike_8 (by decide) ?_
  refine e_iload_n d_Q_alike_9 rfl ?_
  obtain ⟨p2, hp2, h⟩ := bnd h
  refine e_cVr (mt1 := m_Q_formOf) (As := [.int 1, .int x2]) (st := []) d_Q_alike_10 ml_Q_130 mv_Q_formOf (t_Q_formOf n x0 1 x2 p1.2 p2 hp2) (fc_Q_formOf hp2) rfl rfl rfl (okp rfl) (okp rfl) (okp rfl) (Nat.le_refl _) (Nat.le_refl _) ?_
  refine e_astoreO (l2 := [some (.ref x0), some (.int x1), some (.int x2), some (vr p1.1), some (vr p2.1)]) d_Q_alike_13 rfl (okl rfl) (okP_O rfl) ?_
  refine e_aload_nO d_Q_alike_15 rfl ?_
  rcases ob_s h with ⟨hr3, h⟩ | ⟨r3, hr3, h⟩
  · rw [hr3]
    refine e_ifnullN 24 d_Q_alike_16 (by decide) ?_
    refine e_iconst (v := (-1)) d_Q_alike_24 (by decide) ?_
    cases h
    exact e_iret d_Q_alike_25 rfl (Nat.le_refl _) (Nat.le_refl _)
  · rw [hr3]
    refine e_ifnull d_Q_alike_16 ?_
    refine e_aloadO d_Q_alike_19 rfl ?_
    rcases ob_s h with ⟨hr4, h⟩ | ⟨r4, hr4, h⟩
    · rw [hr4]
      refine e_ifnonnullN d_Q_alike_21 ?_
      refine e_iconst (v := (-1)) d_Q_alike_24 (by decide) ?_
      cases h
      exact e_iret d_Q_alike_25 rfl (Nat.le_refl _) (Nat.le_refl _)
    · rw [hr4]
      refine e_ifnonnull 26 d_Q_alike_21 (by decide) ?_
      refine e_aload_n d_Q_alike_26 rfl ?_
      refine e_aload d_Q_alike_27 rfl ?_
      obtain ⟨p5, hp5, h⟩ := bnd h
      refine e_cVr (mt1 := m_Form_base) (As := []) (st := [.ref r3]) d_Q_alike_29 ml_Q_170 mv_Form_base (t_Form_base n r4 p2.2 p5 hp5) (fc_Form_base hp5) rfl rfl rfl (okp rfl) (okp rfl) (okp rfl) (Nat.le_refl _) (Nat.le_refl _) ?_
      obtain ⟨r6, hr6, h⟩ := bnd h
      rw [hr6]
      obtain ⟨p7, hp7, h⟩ := bnd h
      refine e_cVi (mt1 := m_Form_imageThatIs) (As := [.ref r6]) (st := []) d_Q_alike_32 ml_Q_174 mv_Form_imageThatIs (t_Form_imageThatIs n r3 r6 p5.2 p7 hp7) (fc_Form_imageThatIs hp7) rfl rfl rfl (okp rfl) (okp rfl) (okp rfl) (Nat.le_refl _) (Nat.le_refl _) ?_
      cases h
      exact e_iret d_Q_alike_35 rfl (Nat.le_refl _) (Nat.le_refl _)
theorem d_Q_shows_0 : DC m_Q_shows 0 (.aload_n 0) 1 1 := ⟨by decide +kernel, rfl⟩
theorem d_Q_shows_1 : DC m_Q_shows 1 (.getfield 86) 3 4 := ⟨by decide +kernel, rfl⟩
theorem d_Q_shows_4 : DC m_Q_shows 4 (.aload_n 0) 1 5 := ⟨by decide +kernel, rfl⟩
theorem d_Q_shows_5 : DC m_Q_shows 5 (.getfield 100) 3 8 := ⟨by decide +kernel, rfl⟩
theorem d_Q_shows_8 : DC m_Q_shows 8 (.invokevirtual 177) 3 11 := ⟨by decide +kernel, rfl⟩
theorem d_Q_shows_11 : DC m_Q_shows 11 (.aload_n 0) 1 12 := ⟨by decide +kernel, rfl⟩
theorem d_Q_shows_12 : DC m_Q_shows 12 (.getfield 100) 3 15 := ⟨by decide +kernel, rfl⟩
theorem d_Q_shows_15 : DC m_Q_shows 15 (.invokevirtual 181) 3 18 := ⟨by decide +kernel, rfl⟩
theorem d_Q_shows_18 : DC m_Q_shows 18 (.ifCond .eq 6) 3 21 := ⟨by decide +kernel, rfl⟩
theorem d_Q_shows_21 : DC m_Q_shows 21 (.bipush (-2)) 2 23 := ⟨by decide +kernel, rfl⟩
theorem d_Q_shows_23 : DC m_Q_shows 23 .ireturn 1 24 := ⟨by decide +kernel, rfl⟩
theorem d_Q_shows_24 : DC m_Q_shows 24 (.aload_n 0) 1 25 := ⟨by decide +kernel, rfl⟩
theorem d_Q_shows_25 : DC m_Q_shows 25 (.getfield 100) 3 28 := ⟨by decide +kernel, rfl⟩
theorem d_Q_shows_28 : DC m_Q_shows 28 (.invokevirtual 185) 3 31 := ⟨by decide +kernel, rfl⟩
theorem d_Q_shows_31 : DC m_Q_shows 31 (.iconst 0) 1 32 := ⟨by decide +kernel, rfl⟩
theorem d_Q_shows_32 : DC m_Q_shows 32 (.istore_n 1) 1 33 := ⟨by decide +kernel, rfl⟩
theorem d_Q_shows_33 : DC m_Q_shows 33 (.iload_n 1) 1 34 := ⟨by decide +kernel, rfl⟩
theorem d_Q_shows_34 : DC m_Q_shows 34 (.aload_n 0) 1 35 := ⟨by decide +kernel, rfl⟩
theorem d_Q_shows_35 : DC m_Q_shows 35 (.getfield 66) 3 38 := ⟨by decide +kernel, rfl⟩
theorem d_Q_shows_38 : DC m_Q_shows 38 (.if_icmp .ge 27) 3 41 := ⟨by decide +kernel, rfl⟩
theorem d_Q_shows_41 : DC m_Q_shows 41 (.aload_n 0) 1 42 := ⟨by decide +kernel, rfl⟩
theorem d_Q_shows_42 : DC m_Q_shows 42 (.getfield 60) 3 45 := ⟨by decide +kernel, rfl⟩
theorem d_Q_shows_45 : DC m_Q_shows 45 (.iload_n 1) 1 46 := ⟨by decide +kernel, rfl⟩
theorem d_Q_shows_46 : DC m_Q_shows 46 .aaload 1 47 := ⟨by decide +kernel, rfl⟩
theorem d_Q_shows_47 : DC m_Q_shows 47 (.aload_n 0) 1 48 := ⟨by decide +kernel, rfl⟩
theorem d_Q_shows_48 : DC m_Q_shows 48 (.getfield 100) 3 51 := ⟨by decide +kernel, rfl⟩
theorem d_Q_shows_51 : DC m_Q_shows 51 (.invokevirtual 174) 3 54 := ⟨by decide +kernel, rfl⟩
theorem d_Q_shows_54 : DC m_Q_shows 54 (.ifCond .lt 5) 3 57 := ⟨by decide +kernel, rfl⟩
theorem d_Q_shows_57 : DC m_Q_shows 57 (.iload_n 1) 1 58 := ⟨by decide +kernel, rfl⟩
theorem d_Q_shows_58 : DC m_Q_shows 58 .ireturn 1 59 := ⟨by decide +kernel, rfl⟩
theorem d_Q_shows_59 : DC m_Q_shows 59 (.iinc 1 1) 3 62 := ⟨by decide +kernel, rfl⟩
theorem d_Q_shows_62 : DC m_Q_shows 62 (.goto (-29)) 3 65 := ⟨by decide +kernel, rfl⟩
theorem d_Q_shows_65 : DC m_Q_shows 65 (.bipush (-2)) 2 67 := ⟨by decide +kernel, rfl⟩
theorem d_Q_shows_67 : DC m_Q_shows 67 .ireturn 1 68 := ⟨by decide +kernel, rfl⟩
def f_Q_shows_33 (n : Nat) : Nat → Nat → Int32 → MM → Option (Int32 × MM)
  | 0, _, _, _ => none
  | m + 1, x0, x1, M =>
    (gI 11 6 x0 M).bind fun v1 =>
    if v1 ≤ x1 then
      some ((-2), M)
    else
      (gR 11 4 x0 M).bind fun v3 =>
      (aR 105 v3 x1 M).bind fun v4 =>
      (gR 11 16 x0 M).bind fun v5 =>
      (f_Form_imageThatIs n v4 v5 M).bind fun p6 =>
      if p6.1 < 0 then
        f_Q_shows_33 n m x0 (x1 + 1) p6.2
      else
        some (x1, p6.2)
theorem t_Q_shows_33 (n : Nat) : ∀ (m : Nat) (x0 : Nat) (x1 : Int32) (M : MM) (z : Int32 × MM), f_Q_shows_33 n m x0 x1 M = some z → EV m_Q_shows (rm 3 0 0) (some (.int z.1)) z.2 0 0 33 [some (.ref x0), some (.int x1)] [] M := by
  intro m
  induction m with
  | zero => intro x0 x1 M z h; cases h
  | succ m ih =>
    intro x0 x1 M z h
    rw [f_Q_shows_33] at h
    refine e_iload_n d_Q_shows_33 rfl ?_
    refine e_aload_n d_Q_shows_34 rfl ?_
    obtain ⟨v1, hv1, h⟩ := bnd h
    refine e_getI d_Q_shows_35 fl_Q_66 (fun _ _ _ => rfl) hv1 ?_
    refine e_ic_ge 65 d_Q_shows_38 (by decide) (fun c2 => ?_) (fun c2 => ?_)
    · replace h := ift c2 h
      refine e_bipush (v := (-2)) d_Q_shows_65 (by decide) ?_
      cases h
      exact e_iret d_Q_shows_67 rfl (Nat.le_refl _) (Nat.le_refl _)
    · replace h := ifn c2 h
      refine e_aload_n d_Q_shows_41 rfl ?_
      obtain ⟨v3, hv3, h⟩ := bnd h
      refine e_getR d_Q_shows_42 fl_Q_60 (fun _ _ _ => rfl) hv3 ?_
      refine e_iload_n d_Q_shows_45 rfl ?_
      obtain ⟨v4, hv4, h⟩ := bnd h
      refine e_aald (kd := 105) d_Q_shows_46 (by decide) hv4 ?_
      refine e_aload_n d_Q_shows_47 rfl ?_
      obtain ⟨v5, hv5, h⟩ := bnd h
      refine e_getR d_Q_shows_48 fl_Q_100 (fun _ _ _ => rfl) hv5 ?_
      obtain ⟨p6, hp6, h⟩ := bnd h
      refine e_cVi (mt1 := m_Form_imageThatIs) (As := [.ref v5]) (st := []) d_Q_shows_51 ml_Q_174 mv_Form_imageThatIs (t_Form_imageThatIs n v4 v5 M p6 hp6) (fc_Form_imageThatIs hp6) rfl rfl rfl (okp rfl) (okp rfl) (okp rfl) (Nat.le_refl _) (Nat.le_refl _) ?_
      refine e_if_lt 59 d_Q_shows_54 (by decide) (fun c7 => ?_) (fun c7 => ?_)
      · replace h := ift c7 h
        refine e_iinc (v := x1 + 1) (l2 := [some (.ref x0), some (.int (x1 + 1))]) d_Q_shows_59 rfl rfl rfl (okl rfl) rfl ?_
        refine e_goto 33 d_Q_shows_62 (by decide) ?_
        exact (ih x0 (x1 + 1) p6.2 z h).less (show LSub _ _ from ⟨rfl, ⟨rfl, trivial⟩⟩)
      · replace h := ifn c7 h
        refine e_iload_n d_Q_shows_57 rfl ?_
        cases h
        exact e_iret d_Q_shows_58 rfl (Nat.le_refl _) (Nat.le_refl _)
def f_Q_shows (n : Nat) (x0 : Nat) (M : MM) : Option (Int32 × MM) :=
  og 11 x0 M <|
  (gR 11 14 x0 M).bind fun v8 =>
  (gR 11 16 x0 M).bind fun v9 =>
  (f_Table_unite n v8 v9 M).bind fun M10 =>
  (gR 11 16 x0 M10).bind fun v11 =>
  (f_Shape_isNothing n v11 M10).bind fun p12 =>
  if p12.1 = 0 then
    (gR 11 16 x0 p12.2).bind fun v14 =>
    (f_Shape_moveToBase n v14 p12.2).bind fun M15 =>
    f_Q_shows_33 n n x0 0 M15
  else
    some ((-2), p12.2)
theorem fc_Q_shows {n : Nat} {x0 : Nat} {M : MM} {z : Int32 × MM} (h : f_Q_shows n x0 M = some z) : (M.1.2.1 x0).1 = 11 := by
  unfold f_Q_shows at h
  exact (og_s h).1
theorem t_Q_shows (n : Nat) (x0 : Nat) (M : MM) (z : Int32 × MM) (h : f_Q_shows n x0 M = some z) : CT m_Q_shows (rm 3 0 0) [.ref x0] M (some (.int z.1)) z.2 := by
  unfold f_Q_shows at h
  obtain ⟨hthis, h⟩ := og_s h
  refine CT.of (ls := [some (.ref x0), none]) rfl (okp rfl) rfl ?_
  refine e_aload_n d_Q_shows_0 rfl ?_
  obtain ⟨v8, hv8, h⟩ := bnd h
  refine e_getR d_Q_shows_1 fl_Q_86 (fun _ _ _ => rfl) hv8 ?_
  refine e_aload_n d_Q_shows_4 rfl ?_
  obtain ⟨v9, hv9, h⟩ := bnd h
  refine e_getR d_Q_shows_5 fl_Q_100 (fun _ _ _ => rfl) hv9 ?_
  obtain ⟨M10, hM10, h⟩ := bnd h
  refine e_cVv (mt1 := m_Table_unite) (As := [.ref v9]) (st := []) d_Q_shows_8 ml_Q_177 mv_Table_unite (t_Table_unite n v8 v9 M M10 hM10) (fc_Table_unite hM10) rfl rfl rfl (okp rfl) (okp rfl) (okp rfl) (Nat.le_refl _) (Nat.le_refl _) ?_
  refine e_aload_n d_Q_shows_11 rfl ?_
  obtain ⟨v11, hv11, h⟩ := bnd h
  refine e_getR d_Q_shows_12 fl_Q_100 (fun _ _ _ => rfl) hv11 ?_
  obtain ⟨p12, hp12, h⟩ := bnd h
  refine e_cVi (mt1 := m_Shape_isNothing) (As := []) (st := []) d_Q_shows_15 ml_Q_181 mv_Shape_isNothing (t_Shape_isNothing n v11 M10 p12 hp12) (fc_Shape_isNothing hp12) rfl rfl rfl (okp rfl) (okp rfl) (okp rfl) (Nat.le_refl _) (Nat.le_refl _) ?_
  refine e_if_eq 24 d_Q_shows_18 (by decide) (fun c13 => ?_) (fun c13 => ?_)
  · replace h := ift c13 h
    refine e_aload_n d_Q_shows_24 rfl ?_
    obtain ⟨v14, hv14, h⟩ := bnd h
    refine e_getR d_Q_shows_25 fl_Q_100 (fun _ _ _ => rfl) hv14 ?_
    obtain ⟨M15, hM15, h⟩ := bnd h
    refine e_cVv (mt1 := m_Shape_moveToBase) (As := []) (st := []) d_Q_shows_28 ml_Q_185 mv_Shape_moveToBase (t_Shape_moveToBase n v14 p12.2 M15 hM15) (fc_Shape_moveToBase hM15) rfl rfl rfl (okp rfl) (okp rfl) (okp rfl) (Nat.le_refl _) (Nat.le_refl _) ?_
    refine e_iconst (v := 0) d_Q_shows_31 (by decide) ?_
    refine e_istore_n (l2 := [some (.ref x0), some (.int 0)]) d_Q_shows_32 rfl (okl rfl) rfl ?_
    exact (t_Q_shows_33 n n x0 0 M15 z h).less (show LSub _ _ from ⟨rfl, ⟨rfl, trivial⟩⟩)
  · replace h := ifn c13 h
    refine e_bipush (v := (-2)) d_Q_shows_21 (by decide) ?_
    cases h
    exact e_iret d_Q_shows_23 rfl (Nat.le_refl _) (Nat.le_refl _)
theorem d_Q_isSet_0 : DC m_Q_isSet 0 (.iload_n 1) 1 1 := ⟨by decide +kernel, rfl⟩
theorem d_Q_isSet_1 : DC m_Q_isSet 1 (.ifCond .le 17) 3 4 := ⟨by decide +kernel, rfl⟩
theorem d_Q_isSet_4 : DC m_Q_isSet 4 (.iload_n 1) 1 5 := ⟨by decide +kernel, rfl⟩
theorem d_Q_isSet_5 : DC m_Q_isSet 5 (.iconst 1) 1 6 := ⟨by decide +kernel, rfl⟩
theorem d_Q_isSet_6 : DC m_Q_isSet 6 (.aload_n 0) 1 7 := ⟨by decide +kernel, rfl⟩
theorem d_Q_isSet_7 : DC m_Q_isSet 7 (.getfield 63) 3 10 := ⟨by decide +kernel, rfl⟩
theorem d_Q_isSet_10 : DC m_Q_isSet 10 .ishl 1 11 := ⟨by decide +kernel, rfl⟩
theorem d_Q_isSet_11 : DC m_Q_isSet 11 (.if_icmp .ge 7) 3 14 := ⟨by decide +kernel, rfl⟩
theorem d_Q_isSet_14 : DC m_Q_isSet 14 (.iconst 1) 1 15 := ⟨by decide +kernel, rfl⟩
theorem d_Q_isSet_15 : DC m_Q_isSet 15 (.goto 4) 3 18 := ⟨by decide +kernel, rfl⟩
theorem d_Q_isSet_18 : DC m_Q_isSet 18 (.iconst 0) 1 19 := ⟨by decide +kernel, rfl⟩
theorem d_Q_isSet_19 : DC m_Q_isSet 19 .ireturn 1 20 := ⟨by decide +kernel, rfl⟩
def f_Q_isSet (n : Nat) (x0 : Nat) (x1 : Int32) (M : MM) : Option (Int32 × MM) :=
  og 11 x0 M <|
  if x1 ≤ 0 then
    some (0, M)
  else
    (gI 11 5 x0 M).bind fun v2 =>
    if (ishl 1 v2) ≤ x1 then
      some (0, M)
    else
      some (1, M)
theorem fc_Q_isSet {n : Nat} {x0 : Nat} {x1 : Int32} {M : MM} {z : Int32 × MM} (h : f_Q_isSet n x0 x1 M = some z) : (M.1.2.1 x0).1 = 11 := by
  unfold f_Q_isSet at h
  exact (og_s h).1
theorem t_Q_isSet (n : Nat) (x0 : Nat) (x1 : Int32) (M : MM) (z : Int32 × MM) (h : f_Q_isSet n x0 x1 M = some z) : CT m_Q_isSet (rm 1 0 0) [.ref x0, .int x1] M (some (.int z.1)) z.2 := by
  unfold f_Q_isSet at h
  obtain ⟨hthis, h⟩ := og_s h
  refine CT.of (ls := [some (.ref x0), some (.int x1)]) rfl (okp rfl) rfl ?_
  refine e_iload_n d_Q_isSet_0 rfl ?_
  refine e_if_le 18 d_Q_isSet_1 (by decide) (fun c1 => ?_) (fun c1 => ?_)
  · replace h := ift c1 h
    refine e_iconst (v := 0) d_Q_isSet_18 (by decide) ?_
    cases h
    exact e_zret (ty := .boolean) d_Q_isSet_19 rfl narZ0 (Nat.le_refl _) (Nat.le_refl _)
  · replace h := ifn c1 h
    refine e_iload_n d_Q_isSet_4 rfl ?_
    refine e_iconst (v := 1) d_Q_isSet_5 (by decide) ?_
    refine e_aload_n d_Q_isSet_6 rfl ?_
    obtain ⟨v2, hv2, h⟩ := bnd h
    refine e_getI d_Q_isSet_7 fl_Q_63 (fun _ _ _ => rfl) hv2 ?_
    refine e_ishl d_Q_isSet_10 ?_
    refine e_ic_ge 18 d_Q_isSet_11 (by decide) (fun c3 => ?_) (fun c3 => ?_)
    · replace h := ift c3 h
      refine e_iconst (v := 0) d_Q_isSet_18 (by decide) ?_
      cases h
      exact e_zret (ty := .boolean) d_Q_isSet_19 rfl narZ0 (Nat.le_refl _) (Nat.le_refl _)
    · replace h := ifn c3 h
      refine e_iconst (v := 1) d_Q_isSet_14 (by decide) ?_
      refine e_goto 19 d_Q_isSet_15 (by decide) ?_
      cases h
      exact e_zret (ty := .boolean) d_Q_isSet_19 rfl narZ1 (Nat.le_refl _) (Nat.le_refl _)
theorem d_Q_fill_0 : DC m_Q_fill 0 (.aload_n 0) 1 1 := ⟨by decide +kernel, rfl⟩
theorem d_Q_fill_1 : DC m_Q_fill 1 (.getfield 49) 3 4 := ⟨by decide +kernel, rfl⟩
theorem d_Q_fill_4 : DC m_Q_fill 4 (.invokevirtual 188) 3 7 := ⟨by decide +kernel, rfl⟩
theorem d_Q_fill_7 : DC m_Q_fill 7 (.aload_n 0) 1 8 := ⟨by decide +kernel, rfl⟩
theorem d_Q_fill_8 : DC m_Q_fill 8 (.iconst 1) 1 9 := ⟨by decide +kernel, rfl⟩
theorem d_Q_fill_9 : DC m_Q_fill 9 (.iload_n 1) 1 10 := ⟨by decide +kernel, rfl⟩
theorem d_Q_fill_10 : DC m_Q_fill 10 (.invokevirtual 130) 3 13 := ⟨by decide +kernel, rfl⟩
theorem d_Q_fill_13 : DC m_Q_fill 13 (.astore_n 3) 1 14 := ⟨by decide +kernel, rfl⟩
theorem d_Q_fill_14 : DC m_Q_fill 14 (.aload_n 3) 1 15 := ⟨by decide +kernel, rfl⟩
theorem d_Q_fill_15 : DC m_Q_fill 15 (.ifnull 11) 3 18 := ⟨by decide +kernel, rfl⟩
theorem d_Q_fill_18 : DC m_Q_fill 18 (.aload_n 0) 1 19 := ⟨by decide +kernel, rfl⟩
theorem d_Q_fill_19 : DC m_Q_fill 19 (.iload_n 2) 1 20 := ⟨by decide +kernel, rfl⟩
theorem d_Q_fill_20 : DC m_Q_fill 20 (.invokevirtual 191) 3 23 := ⟨by decide +kernel, rfl⟩
theorem d_Q_fill_23 : DC m_Q_fill 23 (.ifCond .ne 5) 3 26 := ⟨by decide +kernel, rfl⟩
theorem d_Q_fill_26 : DC m_Q_fill 26 (.iconst (-1)) 1 27 := ⟨by decide +kernel, rfl⟩
theorem d_Q_fill_27 : DC m_Q_fill 27 .ireturn 1 28 := ⟨by decide +kernel, rfl⟩
theorem d_Q_fill_28 : DC m_Q_fill 28 (.aload_n 0) 1 29 := ⟨by decide +kernel, rfl⟩
theorem d_Q_fill_29 : DC m_Q_fill 29 (.getfield 49) 3 32 := ⟨by decide +kernel, rfl⟩
theorem d_Q_fill_32 : DC m_Q_fill 32 (.aload_n 3) 1 33 := ⟨by decide +kernel, rfl⟩
theorem d_Q_fill_33 : DC m_Q_fill 33 (.iload_n 2) 1 34 := ⟨by decide +kernel, rfl⟩
theorem d_Q_fill_34 : DC m_Q_fill 34 (.invokevirtual 194) 3 37 := ⟨by decide +kernel, rfl⟩
theorem d_Q_fill_37 : DC m_Q_fill 37 .ireturn 1 38 := ⟨by decide +kernel, rfl⟩
def f_Q_fill (n : Nat) (x0 : Nat) (x1 : Int32) (x2 : Int32) (M : MM) : Option (Int32 × MM) :=
  og 11 x0 M <|
  (gR 11 12 x0 M).bind fun v1 =>
  (f_Filler_forget n v1 M).bind fun M2 =>
  (f_Q_formOf n x0 1 x1 M2).bind fun p3 =>
  ob p3.1 (
    some ((-1), p3.2)
  ) fun r4 =>
    (f_Q_isSet n x0 x2 p3.2).bind fun p5 =>
    if p5.1 = 0 then
      some ((-1), p5.2)
    else
      (gR 11 12 x0 p5.2).bind fun v7 =>
      (f_Filler_countAll n v7 r4 x2 p5.2).bind fun p8 =>
      some (p8.1, p8.2)
theorem fc_Q_fill {n : Nat} {x0 : Nat} {x1 : Int32} {x2 : Int32} {M : MM} {z : Int32 × MM} (h : f_Q_fill n x0 x1 x2 M = some z) : (M.1.2.1 x0).1 = 11 := by
  unfold f_Q_fill at h
  exact (og_s h).1
theorem t_Q_fill (n : Nat) (x0 : Nat) (x1 : Int32) (x2 : Int32) (M : MM) (z : Int32 × MM) (h : f_Q_fill n x0 x1 x2 M = some z) : CT m_Q_fill (rm 43 0 0) [.ref x0, .int x1, .int x2] M (some (.int z.1)) z.2 := by
  unfold f_Q_fill at h
  obtain ⟨hthis, h⟩ := og_s h
  refine CT.of (ls := [some (.ref x0), some (.int x1), some (.int x2), none]) rfl (okp rfl) rfl ?_
  refine e_aload_n d_Q_fill_0 rfl ?_
  obtain ⟨v1, hv1, h⟩ := bnd h
  refine e_getR d_Q_fill_1 fl_Q_49 (fun _ _ _ => rfl) hv1 ?_
  obtain ⟨M2, hM2, h⟩ := bnd h
  refine e_cVv (mt1 := m_Filler_forget) (As := []) (st := []) d_Q_fill_4 ml_Q_188 mv_Filler_forget (t_Filler_forget n v1 M M2 hM2) (fc_Filler_forget hM2) rfl rfl rfl (okp rfl) (okp rfl) (okp rfl) (Nat.le_refl _) (Nat.le_refl _) ?_
  refine e_aload_n d_Q_fill_7 rfl ?_
  refine e_iconst (v := 1) d_Q_fill_8 (by decide) ?_
  refine e_iload_n d_Q_fill_9 rfl ?_
  obtain ⟨p3, hp3, h⟩ := bnd h
  refine e_cVr (mt1 := m_Q_formOf) (As := [.int 1, .int x1]) (st := []) d_Q_fill_10 ml_Q_130 mv_Q_formOf (t_Q_formOf n x0 1 x1 M2 p3 hp3) (fc_Q_formOf hp3) rfl rfl rfl (okp rfl) (okp rfl) (okp rfl) (Nat.le_refl _) (Nat.le_refl _) ?_
  refine e_astore_nO (l2 := [some (.ref x0), some (.int x1), some (.int x2), some (vr p3.1)]) d_Q_fill_13 rfl (okl rfl) rfl ?_
  refine e_aload_nO d_Q_fill_14 rfl ?_
  rcases ob_s h with ⟨hr4, h⟩ | ⟨r4, hr4, h⟩
  · rw [hr4]
    refine e_ifnullN 26 d_Q_fill_15 (by decide) ?_
    refine e_iconst (v := (-1)) d_Q_fill_26 (by decide) ?_
    cases h
    exact e_iret d_Q_fill_27 rfl (Nat.le_refl _) (Nat.le_refl _)
  · rw [hr4]
    refine e_ifnull d_Q_fill_15 ?_
    refine e_aload_n d_Q_fill_18 rfl ?_
    refine e_iload_n d_Q_fill_19 rfl ?_
    obtain ⟨p5, hp5, h⟩ := bnd h
    refine e_cVi (mt1 := m_Q_isSet) (As := [.int x2]) (st := []) d_Q_fill_20 ml_Q_191 mv_Q_isSet (t_Q_isSet n x0 x2 p3.2 p5 hp5) (fc_Q_isSet hp5) rfl rfl rfl (okp rfl) (okp rfl) (okp rfl) (Nat.le_refl _) (Nat.le_refl _) ?_
    refine e_if_ne 28 d_Q_fill_23 (by decide) (fun c6 => ?_) (fun c6 => ?_)
    · replace h := ifn c6 h
      refine e_aload_n d_Q_fill_28 rfl ?_
      obtain ⟨v7, hv7, h⟩ := bnd h
      refine e_getR d_Q_fill_29 fl_Q_49 (fun _ _ _ => rfl) hv7 ?_
      refine e_aload_n d_Q_fill_32 rfl ?_
      refine e_iload_n d_Q_fill_33 rfl ?_
      obtain ⟨p8, hp8, h⟩ := bnd h
      refine e_cVi (mt1 := m_Filler_countAll) (As := [.ref r4, .int x2]) (st := []) d_Q_fill_34 ml_Q_194 mv_Filler_countAll (t_Filler_countAll n v7 r4 x2 p5.2 p8 hp8) (fc_Filler_countAll hp8) rfl rfl rfl (okp rfl) (okp rfl) (okp rfl) (Nat.le_refl _) (Nat.le_refl _) ?_
      cases h
      exact e_iret d_Q_fill_37 rfl (Nat.le_refl _) (Nat.le_refl _)
    · replace h := ift c6 h
      refine e_iconst (v := (-1)) d_Q_fill_26 (by decide) ?_
      cases h
      exact e_iret d_Q_fill_27 rfl (Nat.le_refl _) (Nat.le_refl _)
theorem d_Q_filled_0 : DC m_Q_filled 0 (.aload_n 0) 1 1 := ⟨by decide +kernel, rfl⟩
theorem d_Q_filled_1 : DC m_Q_filled 1 (.getfield 49) 3 4 := ⟨by decide +kernel, rfl⟩
theorem d_Q_filled_4 : DC m_Q_filled 4 (.iload_n 1) 1 5 := ⟨by decide +kernel, rfl⟩
theorem d_Q_filled_5 : DC m_Q_filled 5 (.iload_n 2) 1 6 := ⟨by decide +kernel, rfl⟩
theorem d_Q_filled_6 : DC m_Q_filled 6 (.invokevirtual 198) 3 9 := ⟨by decide +kernel, rfl⟩
theorem d_Q_filled_9 : DC m_Q_filled 9 .ireturn 1 10 := ⟨by decide +kernel, rfl⟩
def f_Q_filled (n : Nat) (x0 : Nat) (x1 : Int32) (x2 : Int32) (M : MM) : Option (Int32 × MM) :=
  og 11 x0 M <|
  (gR 11 12 x0 M).bind fun v1 =>
  (f_Filler_tellRemembered n v1 x1 x2 M).bind fun p2 =>
  some (p2.1, p2.2)
theorem fc_Q_filled {n : Nat} {x0 : Nat} {x1 : Int32} {x2 : Int32} {M : MM} {z : Int32 × MM} (h : f_Q_filled n x0 x1 x2 M = some z) : (M.1.2.1 x0).1 = 11 := by
  unfold f_Q_filled at h
  exact (og_s h).1
theorem t_Q_filled (n : Nat) (x0 : Nat) (x1 : Int32) (x2 : Int32) (M : MM) (z : Int32 × MM) (h : f_Q_filled n x0 x1 x2 M = some z) : CT m_Q_filled (rm 3 0 0) [.ref x0, .int x1, .int x2] M (some (.int z.1)) z.2 := by
  unfold f_Q_filled at h
  obtain ⟨hthis, h⟩ := og_s h
  refine CT.of (ls := [some (.ref x0), some (.int x1), some (.int x2)]) rfl (okp rfl) rfl ?_
  refine e_aload_n d_Q_filled_0 rfl ?_
  obtain ⟨v1, hv1, h⟩ := bnd h
  refine e_getR d_Q_filled_1 fl_Q_49 (fun _ _ _ => rfl) hv1 ?_
  refine e_iload_n d_Q_filled_4 rfl ?_
  refine e_iload_n d_Q_filled_5 rfl ?_
  obtain ⟨p2, hp2, h⟩ := bnd h
  refine e_cVi (mt1 := m_Filler_tellRemembered) (As := [.int x1, .int x2]) (st := []) d_Q_filled_6 ml_Q_198 mv_Filler_tellRemembered (t_Filler_tellRemembered n v1 x1 x2 M p2 hp2) (fc_Filler_tellRemembered hp2) rfl rfl rfl (okp rfl) (okp rfl) (okp rfl) (Nat.le_refl _) (Nat.le_refl _) ?_
  cases h
  exact e_iret d_Q_filled_9 rfl (Nat.le_refl _) (Nat.le_refl _)
theorem d_Q_steps_0 : DC m_Q_steps 0 (.aload_n 0) 1 1 := ⟨by decide +kernel, rfl⟩
theorem d_Q_steps_1 : DC m_Q_steps 1 (.getfield 49) 3 4 := ⟨by decide +kernel, rfl⟩
theorem d_Q_steps_4 : DC m_Q_steps 4 (.getfield 202) 3 7 := ⟨by decide +kernel, rfl⟩
theorem d_Q_steps_7 : DC m_Q_steps 7 .ireturn 1 8 := ⟨by decide +kernel, rfl⟩
def f_Q_steps (n : Nat) (x0 : Nat) (M : MM) : Option (Int32 × MM) :=
  og 11 x0 M <|
  (gR 11 12 x0 M).bind fun v1 =>
  (gI 3 0 v1 M).bind fun v2 =>
  some (v2, M)
theorem fc_Q_steps {n : Nat} {x0 : Nat} {M : MM} {z : Int32 × MM} (h : f_Q_steps n x0 M = some z) : (M.1.2.1 x0).1 = 11 := by
  unfold f_Q_steps at h
  exact (og_s h).1
theorem t_Q_steps (n : Nat) (x0 : Nat) (M : MM) (z : Int32 × MM) (h : f_Q_steps n x0 M = some z) : CT m_Q_steps (rm 1 0 0) [.ref x0] M (some (.int z.1)) z.2 := by
  unfold f_Q_steps at h
  obtain ⟨hthis, h⟩ := og_s h
  refine CT.of (ls := [some (.ref x0)]) rfl (okp rfl) rfl ?_
  refine e_aload_n d_Q_steps_0 rfl ?_
  obtain ⟨v1, hv1, h⟩ := bnd h
  refine e_getR d_Q_steps_1 fl_Q_49 (fun _ _ _ => rfl) hv1 ?_
  obtain ⟨v2, hv2, h⟩ := bnd h
  refine e_getI d_Q_steps_4 fl_Q_202 (fun _ _ _ => rfl) hv2 ?_
  cases h
  exact e_iret d_Q_steps_7 rfl (Nat.le_refl _) (Nat.le_refl _)
theorem d_Q_sets_0 : DC m_Q_sets 0 (.aload_n 0) 1 1 := ⟨by decide +kernel, rfl⟩
theorem d_Q_sets_1 : DC m_Q_sets 1 (.iconst 1) 1 2 := ⟨by decide +kernel, rfl⟩
theorem d_Q_sets_2 : DC m_Q_sets 2 (.iload_n 1) 1 3 := ⟨by decide +kernel, rfl⟩
theorem d_Q_sets_3 : DC m_Q_sets 3 (.invokevirtual 130) 3 6 := ⟨by decide +kernel, rfl⟩
theorem d_Q_sets_6 : DC m_Q_sets 6 (.astore_n 2) 1 7 := ⟨by decide +kernel, rfl⟩
theorem d_Q_sets_7 : DC m_Q_sets 7 (.aload_n 2) 1 8 := ⟨by decide +kernel, rfl⟩
theorem d_Q_sets_8 : DC m_Q_sets 8 (.ifnonnull 7) 3 11 := ⟨by decide +kernel, rfl⟩
theorem d_Q_sets_11 : DC m_Q_sets 11 (.iconst (-1)) 1 12 := ⟨by decide +kernel, rfl⟩
theorem d_Q_sets_12 : DC m_Q_sets 12 (.goto 16) 3 15 := ⟨by decide +kernel, rfl⟩
theorem d_Q_sets_15 : DC m_Q_sets 15 (.aload_n 0) 1 16 := ⟨by decide +kernel, rfl⟩
theorem d_Q_sets_16 : DC m_Q_sets 16 (.getfield 49) 3 19 := ⟨by decide +kernel, rfl⟩
theorem d_Q_sets_19 : DC m_Q_sets 19 (.iload_n 1) 1 20 := ⟨by decide +kernel, rfl⟩
theorem d_Q_sets_20 : DC m_Q_sets 20 (.aload_n 2) 1 21 := ⟨by decide +kernel, rfl⟩
theorem d_Q_sets_21 : DC m_Q_sets 21 (.aload_n 0) 1 22 := ⟨by decide +kernel, rfl⟩
theorem d_Q_sets_22 : DC m_Q_sets 22 (.getfield 63) 3 25 := ⟨by decide +kernel, rfl⟩
theorem d_Q_sets_25 : DC m_Q_sets 25 (.invokevirtual 205) 3 28 := ⟨by decide +kernel, rfl⟩
theorem d_Q_sets_28 : DC m_Q_sets 28 .ireturn 1 29 := ⟨by decide +kernel, rfl⟩
def f_Q_sets (n : Nat) (x0 : Nat) (x1 : Int32) (M : MM) : Option (Int32 × MM) :=
  og 11 x0 M <|
  (f_Q_formOf n x0 1 x1 M).bind fun p1 =>
  ob p1.1 (
    some ((-1), p1.2)
  ) fun r2 =>
    (gR 11 12 x0 p1.2).bind fun v3 =>
    (gI 11 5 x0 p1.2).bind fun v4 =>
    (f_Filler_countSets n v3 x1 r2 v4 p1.2).bind fun p5 =>
    some (p5.1, p5.2)
theorem fc_Q_sets {n : Nat} {x0 : Nat} {x1 : Int32} {M : MM} {z : Int32 × MM} (h : f_Q_sets n x0 x1 M = some z) : (M.1.2.1 x0).1 = 11 := by
  unfold f_Q_sets at h
  exact (og_s h).1
theorem t_Q_sets (n : Nat) (x0 : Nat) (x1 : Int32) (M : MM) (z : Int32 × MM) (h : f_Q_sets n x0 x1 M = some z) : CT m_Q_sets (rm 44 0 0) [.ref x0, .int x1] M (some (.int z.1)) z.2 := by
  unfold f_Q_sets at h
  obtain ⟨hthis, h⟩ := og_s h
  refine CT.of (ls := [some (.ref x0), some (.int x1), none]) rfl (okp rfl) rfl ?_
  refine e_aload_n d_Q_sets_0 rfl ?_
  refine e_iconst (v := 1) d_Q_sets_1 (by decide) ?_
  refine e_iload_n d_Q_sets_2 rfl ?_
  obtain ⟨p1, hp1, h⟩ := bnd h
  refine e_cVr (mt1 := m_Q_formOf) (As := [.int 1, .int x1]) (st := []) d_Q_sets_3 ml_Q_130 mv_Q_formOf (t_Q_formOf n x0 1 x1 M p1 hp1) (fc_Q_formOf hp1) rfl rfl rfl (okp rfl) (okp rfl) (okp rfl) (Nat.le_refl _) (Nat.le_refl _) ?_
  refine e_astore_nO (l2 := [some (.ref x0), some (.int x1), some (vr p1.1)]) d_Q_sets_6 rfl (okl rfl) rfl ?_
  refine e_aload_nO d_Q_sets_7 rfl ?_
  rcases ob_s h with ⟨hr2, h⟩ | ⟨r2, hr2, h⟩
  · rw [hr2]
    refine e_ifnonnullN d_Q_sets_8 ?_
    refine e_iconst (v := (-1)) d_Q_sets_11 (by decide) ?_
    refine e_goto 28 d_Q_sets_12 (by decide) ?_
    cases h
    exact e_iret d_Q_sets_28 rfl (Nat.le_refl _) (Nat.le_refl _)
  · rw [hr2]
    refine e_ifnonnull 15 d_Q_sets_8 (by decide) ?_
    refine e_aload_n d_Q_sets_15 rfl ?_
    obtain ⟨v3, hv3, h⟩ := bnd h
    refine e_getR d_Q_sets_16 fl_Q_49 (fun _ _ _ => rfl) hv3 ?_
    refine e_iload_n d_Q_sets_19 rfl ?_
    refine e_aload_n d_Q_sets_20 rfl ?_
    refine e_aload_n d_Q_sets_21 rfl ?_
    obtain ⟨v4, hv4, h⟩ := bnd h
    refine e_getI d_Q_sets_22 fl_Q_63 (fun _ _ _ => rfl) hv4 ?_
    obtain ⟨p5, hp5, h⟩ := bnd h
    refine e_cVi (mt1 := m_Filler_countSets) (As := [.int x1, .ref r2, .int v4]) (st := []) d_Q_sets_25 ml_Q_205 mv_Filler_countSets (t_Filler_countSets n v3 x1 r2 v4 p1.2 p5 hp5) (fc_Filler_countSets hp5) rfl rfl rfl (okp rfl) (okp rfl) (okp rfl) (Nat.le_refl _) (Nat.le_refl _) ?_
    cases h
    exact e_iret d_Q_sets_28 rfl (Nat.le_refl _) (Nat.le_refl _)
theorem d_Q_set_0 : DC m_Q_set 0 (.aload_n 0) 1 1 := ⟨by decide +kernel, rfl⟩
theorem d_Q_set_1 : DC m_Q_set 1 (.iconst 1) 1 2 := ⟨by decide +kernel, rfl⟩
theorem d_Q_set_2 : DC m_Q_set 2 (.iload_n 1) 1 3 := ⟨by decide +kernel, rfl⟩
theorem d_Q_set_3 : DC m_Q_set 3 (.invokevirtual 130) 3 6 := ⟨by decide +kernel, rfl⟩
theorem d_Q_set_6 : DC m_Q_set 6 (.astore_n 3) 1 7 := ⟨by decide +kernel, rfl⟩
theorem d_Q_set_7 : DC m_Q_set 7 (.aload_n 3) 1 8 := ⟨by decide +kernel, rfl⟩
theorem d_Q_set_8 : DC m_Q_set 8 (.ifnull 7) 3 11 := ⟨by decide +kernel, rfl⟩
theorem d_Q_set_11 : DC m_Q_set 11 (.iload_n 2) 1 12 := ⟨by decide +kernel, rfl⟩
theorem d_Q_set_12 : DC m_Q_set 12 (.ifCond .ge 5) 3 15 := ⟨by decide +kernel, rfl⟩
theorem d_Q_set_15 : DC m_Q_set 15 (.iconst (-1)) 1 16 := ⟨by decide +kernel, rfl⟩
theorem d_Q_set_16 : DC m_Q_set 16 .ireturn 1 17 := ⟨by decide +kernel, rfl⟩
theorem d_Q_set_17 : DC m_Q_set 17 (.aload_n 0) 1 18 := ⟨by decide +kernel, rfl⟩
theorem d_Q_set_18 : DC m_Q_set 18 (.getfield 49) 3 21 := ⟨by decide +kernel, rfl⟩
theorem d_Q_set_21 : DC m_Q_set 21 (.iload_n 1) 1 22 := ⟨by decide +kernel, rfl⟩
theorem d_Q_set_22 : DC m_Q_set 22 (.aload_n 3) 1 23 := ⟨by decide +kernel, rfl⟩
theorem d_Q_set_23 : DC m_Q_set 23 (.aload_n 0) 1 24 := ⟨by decide +kernel, rfl⟩
theorem d_Q_set_24 : DC m_Q_set 24 (.getfield 63) 3 27 := ⟨by decide +kernel, rfl⟩
theorem d_Q_set_27 : DC m_Q_set 27 (.invokevirtual 205) 3 30 := ⟨by decide +kernel, rfl⟩
theorem d_Q_set_30 : DC m_Q_set 30 (.istore 4) 2 32 := ⟨by decide +kernel, rfl⟩
theorem d_Q_set_32 : DC m_Q_set 32 (.iload 4) 2 34 := ⟨by decide +kernel, rfl⟩
theorem d_Q_set_34 : DC m_Q_set 34 (.ifCond .ge 6) 3 37 := ⟨by decide +kernel, rfl⟩
theorem d_Q_set_37 : DC m_Q_set 37 (.bipush (-2)) 2 39 := ⟨by decide +kernel, rfl⟩
theorem d_Q_set_39 : DC m_Q_set 39 .ireturn 1 40 := ⟨by decide +kernel, rfl⟩
theorem d_Q_set_40 : DC m_Q_set 40 (.iload_n 2) 1 41 := ⟨by decide +kernel, rfl⟩
theorem d_Q_set_41 : DC m_Q_set 41 (.iload 4) 2 43 := ⟨by decide +kernel, rfl⟩
theorem d_Q_set_43 : DC m_Q_set 43 (.if_icmp .ge 15) 3 46 := ⟨by decide +kernel, rfl⟩
theorem d_Q_set_46 : DC m_Q_set 46 (.aload_n 0) 1 47 := ⟨by decide +kernel, rfl⟩
theorem d_Q_set_47 : DC m_Q_set 47 (.getfield 49) 3 50 := ⟨by decide +kernel, rfl⟩
theorem d_Q_set_50 : DC m_Q_set 50 (.iload_n 1) 1 51 := ⟨by decide +kernel, rfl⟩
theorem d_Q_set_51 : DC m_Q_set 51 (.iload_n 2) 1 52 := ⟨by decide +kernel, rfl⟩
theorem d_Q_set_52 : DC m_Q_set 52 (.invokevirtual 209) 3 55 := ⟨by decide +kernel, rfl⟩
theorem d_Q_set_55 : DC m_Q_set 55 (.goto 4) 3 58 := ⟨by decide +kernel, rfl⟩
theorem d_Q_set_58 : DC m_Q_set 58 (.iconst (-1)) 1 59 := ⟨by decide +kernel, rfl⟩
theorem d_Q_set_59 : DC m_Q_set 59 .ireturn 1 60 := ⟨by decide +kernel, rfl⟩
def f_Q_set (n : Nat) (x0 : Nat) (x1 : Int32) (x2 : Int32) (M : MM) : Option (Int32 × MM) :=
  og 11 x0 M <|
  (f_Q_formOf n x0 1 x1 M).bind fun p1 =>
  ob p1.1 (
    some ((-1), p1.2)
  ) fun r2 =>
    if 0 ≤ x2 then
      (gR 11 12 x0 p1.2).bind fun v4 =>
      (gI 11 5 x0 p1.2).bind fun v5 =>
      (f_Filler_countSets n v4 x1 r2 v5 p1.2).bind fun p6 =>
      if 0 ≤ p6.1 then
        if p6.1 ≤ x2 then
          some ((-1), p6.2)
        else
          (gR 11 12 x0 p6.2).bind fun v9 =>
          (f_Filler_setAt n v9 x1 x2 p6.2).bind fun p10 =>
          some (p10.1, p10.2)
      else
        some ((-2), p6.2)
    else
      some ((-1), p1.2)
theorem fc_Q_set {n : Nat} {x0 : Nat} {x1 : Int32} {x2 : Int32} {M : MM} {z : Int32 × MM} (h : f_Q_set n x0 x1 x2 M = some z) : (M.1.2.1 x0).1 = 11 := by
  unfold f_Q_set at h
  exact (og_s h).1
theorem t_Q_set (n : Nat) (x0 : Nat) (x1 : Int32) (x2 : Int32) (M : MM) (z : Int32 × MM) (h : f_Q_set n x0 x1 x2 M = some z) : CT m_Q_set (rm 44 0 0) [.ref x0, .int x1, .int x2] M (some (.int z.1)) z.2 := by
  unfold f_Q_set at h
  obtain ⟨hthis, h⟩ := og_s h
  refine CT.of (ls := [some (.ref x0), some (.int x1), some (.int x2), none, none]) rfl (okp rfl) rfl ?_
  refine e_aload_n d_Q_set_0 rfl ?_
  refine e_iconst (v := 1) d_Q_set_1 (by decide) ?_
  refine e_iload_n d_Q_set_2 rfl ?_
  obtain ⟨p1, hp1, h⟩ := bnd h
  refine e_cVr (mt1 := m_Q_formOf) (As := [.int 1, .int x1]) (st := []) d_Q_set_3 ml_Q_130 mv_Q_formOf (t_Q_formOf n x0 1 x1 M p1 hp1) (fc_Q_formOf hp1) rfl rfl rfl (okp rfl) (okp rfl) (okp rfl) (Nat.le_refl _) (Nat.le_refl _) ?_
  refine e_astore_nO (l2 := [some (.ref x0), some (.int x1), some (.int x2), some (vr p1.1), none]) d_Q_set_6 rfl (okl rfl) rfl ?_
  refine e_aload_nO d_Q_set_7 rfl ?_
  rcases ob_s h with ⟨hr2, h⟩ | ⟨r2, hr2, h⟩
  · rw [hr2]
    refine e_ifnullN 15 d_Q_set_8 (by decide) ?_
    refine e_iconst (v := (-1)) d_Q_set_15 (by decide) ?_
    cases h
    exact e_iret d_Q_set_16 rfl (Nat.le_refl _) (Nat.le_refl _)
  · rw [hr2]
    refine e_ifnull d_Q_set_8 ?_
    refine e_iload_n d_Q_set_11 rfl ?_
    refine e_if_ge 17 d_Q_set_12 (by decide) (fun c3 => ?_) (fun c3 => ?_)
    · replace h := ift c3 h
      refine e_aload_n d_Q_set_17 rfl ?_
      obtain ⟨v4, hv4, h⟩ := bnd h
      refine e_getR d_Q_set_18 fl_Q_49 (fun _ _ _ => rfl) hv4 ?_
      refine e_iload_n d_Q_set_21 rfl ?_
      refine e_aload_n d_Q_set_22 rfl ?_
      refine e_aload_n d_Q_set_23 rfl ?_
      obtain ⟨v5, hv5, h⟩ := bnd h
      refine e_getI d_Q_set_24 fl_Q_63 (fun _ _ _ => rfl) hv5 ?_
      obtain ⟨p6, hp6, h⟩ := bnd h
      refine e_cVi (mt1 := m_Filler_countSets) (As := [.int x1, .ref r2, .int v5]) (st := []) d_Q_set_27 ml_Q_205 mv_Filler_countSets (t_Filler_countSets n v4 x1 r2 v5 p1.2 p6 hp6) (fc_Filler_countSets hp6) rfl rfl rfl (okp rfl) (okp rfl) (okp rfl) (Nat.le_refl _) (Nat.le_refl _) ?_
      refine e_istore (l2 := [some (.ref x0), some (.int x1), some (.int x2), some (.ref r2), some (.int p6.1)]) d_Q_set_30 rfl (okl rfl) rfl ?_
      refine e_iload d_Q_set_32 rfl ?_
      refine e_if_ge 40 d_Q_set_34 (by decide) (fun c7 => ?_) (fun c7 => ?_)
      · replace h := ift c7 h
        refine e_iload_n d_Q_set_40 rfl ?_
        refine e_iload d_Q_set_41 rfl ?_
        refine e_ic_ge 58 d_Q_set_43 (by decide) (fun c8 => ?_) (fun c8 => ?_)
        · replace h := ift c8 h
          refine e_iconst (v := (-1)) d_Q_set_58 (by decide) ?_
          cases h
          exact e_iret d_Q_set_59 rfl (Nat.le_refl _) (Nat.le_refl _)
        · replace h := ifn c8 h
          refine e_aload_n d_Q_set_46 rfl ?_
          obtain ⟨v9, hv9, h⟩ := bnd h
          refine e_getR d_Q_set_47 fl_Q_49 (fun _ _ _ => rfl) hv9 ?_
          refine e_iload_n d_Q_set_50 rfl ?_
          refine e_iload_n d_Q_set_51 rfl ?_
          obtain ⟨p10, hp10, h⟩ := bnd h
          refine e_cVi (mt1 := m_Filler_setAt) (As := [.int x1, .int x2]) (st := []) d_Q_set_52 ml_Q_209 mv_Filler_setAt (t_Filler_setAt n v9 x1 x2 p6.2 p10 hp10) (fc_Filler_setAt hp10) rfl rfl rfl (okp rfl) (okp rfl) (okp rfl) (Nat.le_refl _) (Nat.le_refl _) ?_
          refine e_goto 59 d_Q_set_55 (by decide) ?_
          cases h
          exact e_iret d_Q_set_59 rfl (Nat.le_refl _) (Nat.le_refl _)
      · replace h := ifn c7 h
        refine e_bipush (v := (-2)) d_Q_set_37 (by decide) ?_
        cases h
        exact e_iret d_Q_set_39 rfl (Nat.le_refl _) (Nat.le_refl _)
    · replace h := ifn c3 h
      refine e_iconst (v := (-1)) d_Q_set_15 (by decide) ?_
      cases h
      exact e_iret d_Q_set_16 rfl (Nat.le_refl _) (Nat.le_refl _)
theorem d_Q_needed_0 : DC m_Q_needed 0 (.aload_n 0) 1 1 := ⟨by decide +kernel, rfl⟩
theorem d_Q_needed_1 : DC m_Q_needed 1 (.iconst 1) 1 2 := ⟨by decide +kernel, rfl⟩
theorem d_Q_needed_2 : DC m_Q_needed 2 (.iload_n 1) 1 3 := ⟨by decide +kernel, rfl⟩
theorem d_Q_needed_3 : DC m_Q_needed 3 (.invokevirtual 130) 3 6 := ⟨by decide +kernel, rfl⟩
theorem d_Q_needed_6 : DC m_Q_needed 6 (.astore_n 2) 1 7 := ⟨by decide +kernel, rfl⟩
theorem d_Q_needed_7 : DC m_Q_needed 7 (.aload_n 2) 1 8 := ⟨by decide +kernel, rfl⟩
theorem d_Q_needed_8 : DC m_Q_needed 8 (.ifnonnull 5) 3 11 := ⟨by decide +kernel, rfl⟩
theorem d_Q_needed_11 : DC m_Q_needed 11 (.iconst (-1)) 1 12 := ⟨by decide +kernel, rfl⟩
theorem d_Q_needed_12 : DC m_Q_needed 12 .ireturn 1 13 := ⟨by decide +kernel, rfl⟩
theorem d_Q_needed_13 : DC m_Q_needed 13 (.aload_n 0) 1 14 := ⟨by decide +kernel, rfl⟩
theorem d_Q_needed_14 : DC m_Q_needed 14 (.getfield 49) 3 17 := ⟨by decide +kernel, rfl⟩
theorem d_Q_needed_17 : DC m_Q_needed 17 (.iload_n 1) 1 18 := ⟨by decide +kernel, rfl⟩
theorem d_Q_needed_18 : DC m_Q_needed 18 (.aload_n 2) 1 19 := ⟨by decide +kernel, rfl⟩
theorem d_Q_needed_19 : DC m_Q_needed 19 (.aload_n 0) 1 20 := ⟨by decide +kernel, rfl⟩
theorem d_Q_needed_20 : DC m_Q_needed 20 (.getfield 63) 3 23 := ⟨by decide +kernel, rfl⟩
theorem d_Q_needed_23 : DC m_Q_needed 23 (.invokevirtual 205) 3 26 := ⟨by decide +kernel, rfl⟩
theorem d_Q_needed_26 : DC m_Q_needed 26 (.istore_n 3) 1 27 := ⟨by decide +kernel, rfl⟩
theorem d_Q_needed_27 : DC m_Q_needed 27 (.iload_n 3) 1 28 := ⟨by decide +kernel, rfl⟩
theorem d_Q_needed_28 : DC m_Q_needed 28 (.ifCond .ge 6) 3 31 := ⟨by decide +kernel, rfl⟩
theorem d_Q_needed_31 : DC m_Q_needed 31 (.bipush (-2)) 2 33 := ⟨by decide +kernel, rfl⟩
theorem d_Q_needed_33 : DC m_Q_needed 33 .ireturn 1 34 := ⟨by decide +kernel, rfl⟩
theorem d_Q_needed_34 : DC m_Q_needed 34 (.iload_n 3) 1 35 := ⟨by decide +kernel, rfl⟩
theorem d_Q_needed_35 : DC m_Q_needed 35 (.ifCond .ne 7) 3 38 := ⟨by decide +kernel, rfl⟩
theorem d_Q_needed_38 : DC m_Q_needed 38 (.iconst (-1)) 1 39 := ⟨by decide +kernel, rfl⟩
theorem d_Q_needed_39 : DC m_Q_needed 39 (.goto 11) 3 42 := ⟨by decide +kernel, rfl⟩
theorem d_Q_needed_42 : DC m_Q_needed 42 (.aload_n 0) 1 43 := ⟨by decide +kernel, rfl⟩
theorem d_Q_needed_43 : DC m_Q_needed 43 (.getfield 49) 3 46 := ⟨by decide +kernel, rfl⟩
theorem d_Q_needed_46 : DC m_Q_needed 46 (.iload_n 1) 1 47 := ⟨by decide +kernel, rfl⟩
theorem d_Q_needed_47 : DC m_Q_needed 47 (.invokevirtual 212) 3 50 := ⟨by decide +kernel, rfl⟩
theorem d_Q_needed_50 : DC m_Q_needed 50 .ireturn 1 51 := ⟨by decide +kernel, rfl⟩
def f_Q_needed (n : Nat) (x0 : Nat) (x1 : Int32) (M : MM) : Option (Int32 × MM) :=
  og 11 x0 M <|
  (f_Q_formOf n x0 1 x1 M).bind fun p1 =>
  ob p1.1 (
    some ((-1), p1.2)
  ) fun r2 =>
    (gR 11 12 x0 p1.2).bind fun v3 =>
    (gI 11 5 x0 p1.2).bind fun v4 =>
    (f_Filler_countSets n v3 x1 r2 v4 p1.2).bind fun p5 =>
    if 0 ≤ p5.1 then
      if p5.1 = 0 then
        some ((-1), p5.2)
      else
        (gR 11 12 x0 p5.2).bind fun v8 =>
        (f_Filler_inAllSets n v8 x1 p5.2).bind fun p9 =>
        some (p9.1, p9.2)
    else
      some ((-2), p5.2)
theorem fc_Q_needed {n : Nat} {x0 : Nat} {x1 : Int32} {M : MM} {z : Int32 × MM} (h : f_Q_needed n x0 x1 M = some z) : (M.1.2.1 x0).1 = 11 := by
  unfold f_Q_needed at h
  exact (og_s h).1
theorem t_Q_needed (n : Nat) (x0 : Nat) (x1 : Int32) (M : MM) (z : Int32 × MM) (h : f_Q_needed n x0 x1 M = some z) : CT m_Q_needed (rm 44 0 0) [.ref x0, .int x1] M (some (.int z.1)) z.2 := by
  unfold f_Q_needed at h
  obtain ⟨hthis, h⟩ := og_s h
  refine CT.of (ls := [some (.ref x0), some (.int x1), none, none]) rfl (okp rfl) rfl ?_
  refine e_aload_n d_Q_needed_0 rfl ?_
  refine e_iconst (v := 1) d_Q_needed_1 (by decide) ?_
  refine e_iload_n d_Q_needed_2 rfl ?_
  obtain ⟨p1, hp1, h⟩ := bnd h
  refine e_cVr (mt1 := m_Q_formOf) (As := [.int 1, .int x1]) (st := []) d_Q_needed_3 ml_Q_130 mv_Q_formOf (t_Q_formOf n x0 1 x1 M p1 hp1) (fc_Q_formOf hp1) rfl rfl rfl (okp rfl) (okp rfl) (okp rfl) (Nat.le_refl _) (Nat.le_refl _) ?_
  refine e_astore_nO (l2 := [some (.ref x0), some (.int x1), some (vr p1.1), none]) d_Q_needed_6 rfl (okl rfl) rfl ?_
  refine e_aload_nO d_Q_needed_7 rfl ?_
  rcases ob_s h with ⟨hr2, h⟩ | ⟨r2, hr2, h⟩
  · rw [hr2]
    refine e_ifnonnullN d_Q_needed_8 ?_
    refine e_iconst (v := (-1)) d_Q_needed_11 (by decide) ?_
    cases h
    exact e_iret d_Q_needed_12 rfl (Nat.le_refl _) (Nat.le_refl _)
  · rw [hr2]
    refine e_ifnonnull 13 d_Q_needed_8 (by decide) ?_
    refine e_aload_n d_Q_needed_13 rfl ?_
    obtain ⟨v3, hv3, h⟩ := bnd h
    refine e_getR d_Q_needed_14 fl_Q_49 (fun _ _ _ => rfl) hv3 ?_
    refine e_iload_n d_Q_needed_17 rfl ?_
    refine e_aload_n d_Q_needed_18 rfl ?_
    refine e_aload_n d_Q_needed_19 rfl ?_
    obtain ⟨v4, hv4, h⟩ := bnd h
    refine e_getI d_Q_needed_20 fl_Q_63 (fun _ _ _ => rfl) hv4 ?_
    obtain ⟨p5, hp5, h⟩ := bnd h
    refine e_cVi (mt1 := m_Filler_countSets) (As := [.int x1, .ref r2, .int v4]) (st := []) d_Q_needed_23 ml_Q_205 mv_Filler_countSets (t_Filler_countSets n v3 x1 r2 v4 p1.2 p5 hp5) (fc_Filler_countSets hp5) rfl rfl rfl (okp rfl) (okp rfl) (okp rfl) (Nat.le_refl _) (Nat.le_refl _) ?_
    refine e_istore_n (l2 := [some (.ref x0), some (.int x1), some (.ref r2), some (.int p5.1)]) d_Q_needed_26 rfl (okl rfl) rfl ?_
    refine e_iload_n d_Q_needed_27 rfl ?_
    refine e_if_ge 34 d_Q_needed_28 (by decide) (fun c6 => ?_) (fun c6 => ?_)
    · replace h := ift c6 h
      refine e_iload_n d_Q_needed_34 rfl ?_
      refine e_if_ne 42 d_Q_needed_35 (by decide) (fun c7 => ?_) (fun c7 => ?_)
      · replace h := ifn c7 h
        refine e_aload_n d_Q_needed_42 rfl ?_
        obtain ⟨v8, hv8, h⟩ := bnd h
        refine e_getR d_Q_needed_43 fl_Q_49 (fun _ _ _ => rfl) hv8 ?_
        refine e_iload_n d_Q_needed_46 rfl ?_
        obtain ⟨p9, hp9, h⟩ := bnd h
        refine e_cVi (mt1 := m_Filler_inAllSets) (As := [.int x1]) (st := []) d_Q_needed_47 ml_Q_212 mv_Filler_inAllSets (t_Filler_inAllSets n v8 x1 p5.2 p9 hp9) (fc_Filler_inAllSets hp9) rfl rfl rfl (okp rfl) (okp rfl) (okp rfl) (Nat.le_refl _) (Nat.le_refl _) ?_
        cases h
        exact e_iret d_Q_needed_50 rfl (Nat.le_refl _) (Nat.le_refl _)
      · replace h := ift c7 h
        refine e_iconst (v := (-1)) d_Q_needed_38 (by decide) ?_
        refine e_goto 50 d_Q_needed_39 (by decide) ?_
        cases h
        exact e_iret d_Q_needed_50 rfl (Nat.le_refl _) (Nat.le_refl _)
    · replace h := ifn c6 h
      refine e_bipush (v := (-2)) d_Q_needed_31 (by decide) ?_
      cases h
      exact e_iret d_Q_needed_33 rfl (Nat.le_refl _) (Nat.le_refl _)
theorem d_Q_cut_0 : DC m_Q_cut 0 (.aload_n 0) 1 1 := ⟨by decide +kernel, rfl⟩
theorem d_Q_cut_1 : DC m_Q_cut 1 (.getfield 79) 3 4 := ⟨by decide +kernel, rfl⟩
theorem d_Q_cut_4 : DC m_Q_cut 4 (.invokevirtual 216) 3 7 := ⟨by decide +kernel, rfl⟩
theorem d_Q_cut_7 : DC m_Q_cut 7 (.aload_n 0) 1 8 := ⟨by decide +kernel, rfl⟩
theorem d_Q_cut_8 : DC m_Q_cut 8 (.iconst 1) 1 9 := ⟨by decide +kernel, rfl⟩
theorem d_Q_cut_9 : DC m_Q_cut 9 (.iload_n 1) 1 10 := ⟨by decide +kernel, rfl⟩
theorem d_Q_cut_10 : DC m_Q_cut 10 (.invokevirtual 130) 3 13 := ⟨by decide +kernel, rfl⟩
theorem d_Q_cut_13 : DC m_Q_cut 13 (.astore_n 3) 1 14 := ⟨by decide +kernel, rfl⟩
theorem d_Q_cut_14 : DC m_Q_cut 14 (.aload_n 0) 1 15 := ⟨by decide +kernel, rfl⟩
theorem d_Q_cut_15 : DC m_Q_cut 15 (.iconst 1) 1 16 := ⟨by decide +kernel, rfl⟩
theorem d_Q_cut_16 : DC m_Q_cut 16 (.iload_n 2) 1 17 := ⟨by decide +kernel, rfl⟩
theorem d_Q_cut_17 : DC m_Q_cut 17 (.invokevirtual 130) 3 20 := ⟨by decide +kernel, rfl⟩
theorem d_Q_cut_20 : DC m_Q_cut 20 (.astore 4) 2 22 := ⟨by decide +kernel, rfl⟩
theorem d_Q_cut_22 : DC m_Q_cut 22 (.aload_n 3) 1 23 := ⟨by decide +kernel, rfl⟩
theorem d_Q_cut_23 : DC m_Q_cut 23 (.ifnull 8) 3 26 := ⟨by decide +kernel, rfl⟩
theorem d_Q_cut_26 : DC m_Q_cut 26 (.aload 4) 2 28 := ⟨by decide +kernel, rfl⟩
theorem d_Q_cut_28 : DC m_Q_cut 28 (.ifnonnull 5) 3 31 := ⟨by decide +kernel, rfl⟩
theorem d_Q_cut_31 : DC m_Q_cut 31 (.iconst (-1)) 1 32 := ⟨by decide +kernel, rfl⟩
theorem d_Q_cut_32 : DC m_Q_cut 32 .ireturn 1 33 := ⟨by decide +kernel, rfl⟩
theorem d_Q_cut_33 : DC m_Q_cut 33 (.aload_n 0) 1 34 := ⟨by decide +kernel, rfl⟩
theorem d_Q_cut_34 : DC m_Q_cut 34 (.getfield 79) 3 37 := ⟨by decide +kernel, rfl⟩
theorem d_Q_cut_37 : DC m_Q_cut 37 (.aload_n 3) 1 38 := ⟨by decide +kernel, rfl⟩
theorem d_Q_cut_38 : DC m_Q_cut 38 (.aload 4) 2 40 := ⟨by decide +kernel, rfl⟩
theorem d_Q_cut_40 : DC m_Q_cut 40 (.aload_n 0) 1 41 := ⟨by decide +kernel, rfl⟩
theorem d_Q_cut_41 : DC m_Q_cut 41 (.getfield 72) 3 44 := ⟨by decide +kernel, rfl⟩
theorem d_Q_cut_44 : DC m_Q_cut 44 (.invokevirtual 217) 3 47 := ⟨by decide +kernel, rfl⟩
theorem d_Q_cut_47 : DC m_Q_cut 47 .ireturn 1 48 := ⟨by decide +kernel, rfl⟩
def f_Q_cut (n : Nat) (x0 : Nat) (x1 : Int32) (x2 : Int32) (M : MM) : Option (Int32 × MM) :=
  og 11 x0 M <|
  (gR 11 13 x0 M).bind fun v1 =>
  (f_Cutter_forget n v1 M).bind fun M2 =>
  (f_Q_formOf n x0 1 x1 M2).bind fun p3 =>
  (f_Q_formOf n x0 1 x2 p3.2).bind fun p4 =>
  ob p3.1 (
    some ((-1), p4.2)
  ) fun r5 =>
    ob p4.1 (
      some ((-1), p4.2)
    ) fun r6 =>
      (gR 11 13 x0 p4.2).bind fun v7 =>
      (gR 11 11 x0 p4.2).bind fun v8 =>
      (f_Cutter_look n v7 r5 r6 v8 p4.2).bind fun p9 =>
      some (p9.1, p9.2)
theorem fc_Q_cut {n : Nat} {x0 : Nat} {x1 : Int32} {x2 : Int32} {M : MM} {z : Int32 × MM} (h : f_Q_cut n x0 x1 x2 M = some z) : (M.1.2.1 x0).1 = 11 := by
  unfold f_Q_cut at h
  exact (og_s h).1
theorem t_Q_cut (n : Nat) (x0 : Nat) (x1 : Int32) (x2 : Int32) (M : MM) (z : Int32 × MM) (h : f_Q_cut n x0 x1 x2 M = some z) : CT m_Q_cut (rm 8 0 0) [.ref x0, .int x1, .int x2] M (some (.int z.1)) z.2 := by
  unfold f_Q_cut at h
  obtain ⟨hthis, h⟩ := og_s h
  refine CT.of (ls := [some (.ref x0), some (.int x1), some (.int x2), none, none]) rfl (okp rfl) rfl ?_
  refine e_aload_n d_Q_cut_0 rfl ?_
  obtain ⟨v1, hv1, h⟩ := bnd h
  refine e_getR d_Q_cut_1 fl_Q_79 (fun _ _ _ => rfl) hv1 ?_
  obtain ⟨M2, hM2, h⟩ := bnd h
  refine e_cVv (mt1 := m_Cutter_forget) (As := []) (st := []) d_Q_cut_4 ml_Q_216 mv_Cutter_forget (t_Cutter_forget n v1 M M2 hM2) (fc_Cutter_forget hM2) rfl rfl rfl (okp rfl) (okp rfl) (okp rfl) (Nat.le_refl _) (Nat.le_refl _) ?_
  refine e_aload_n d_Q_cut_7 rfl ?_
  refine e_iconst (v := 1) d_Q_cut_8 (by decide) ?_
  refine e_iload_n d_Q_cut_9 rfl ?_
  obtain ⟨p3, hp3, h⟩ := bnd h
  refine e_cVr (mt1 := m_Q_formOf) (As := [.int 1, .int x1]) (st := []) d_Q_cut_10 ml_Q_130 mv_Q_formOf (t_Q_formOf n x0 1 x1 M2 p3 hp3) (fc_Q_formOf hp3) rfl rfl rfl (okp rfl) (okp rfl) (okp rfl) (Nat.le_refl _) (Nat.le_refl _) ?_
  refine e_astore_nO (l2 := [some (.ref x0), some (.int x1), some (.int x2), some (vr p3.1), none]) d_Q_cut_13 rfl (okl rfl) rfl ?_
  refine e_aload_n d_Q_cut_14 rfl ?_
  refine e_iconst (v := 1) d_Q_cut_15 (by decide) ?_
  refine e_iload_n d_Q_cut_16 rfl ?_
  obtain ⟨p4, hp4, h⟩ := bnd h
  refine e_cVr (mt1 := m_Q_formOf) (As := [.int 1, .int x2]) (st := []) d_Q_cut_17 ml_Q_130 mv_Q_formOf (t_Q_formOf n x0 1 x2 p3.2 p4 hp4) (fc_Q_formOf hp4) rfl rfl rfl (okp rfl) (okp rfl) (okp rfl) (Nat.le_refl _) (Nat.le_refl _) ?_
  refine e_astoreO (l2 := [some (.ref x0), some (.int x1), some (.int x2), some (vr p3.1), some (vr p4.1)]) d_Q_cut_20 rfl (okl rfl) (okP_O rfl) ?_
  refine e_aload_nO d_Q_cut_22 rfl ?_
  rcases ob_s h with ⟨hr5, h⟩ | ⟨r5, hr5, h⟩
  · rw [hr5]
    refine e_ifnullN 31 d_Q_cut_23 (by decide) ?_
    refine e_iconst (v := (-1)) d_Q_cut_31 (by decide) ?_
    cases h
    exact e_iret d_Q_cut_32 rfl (Nat.le_refl _) (Nat.le_refl _)
  · rw [hr5]
    refine e_ifnull d_Q_cut_23 ?_
    refine e_aloadO d_Q_cut_26 rfl ?_
    rcases ob_s h with ⟨hr6, h⟩ | ⟨r6, hr6, h⟩
    · rw [hr6]
      refine e_ifnonnullN d_Q_cut_28 ?_
      refine e_iconst (v := (-1)) d_Q_cut_31 (by decide) ?_
      cases h
      exact e_iret d_Q_cut_32 rfl (Nat.le_refl _) (Nat.le_refl _)
    · rw [hr6]
      refine e_ifnonnull 33 d_Q_cut_28 (by decide) ?_
      refine e_aload_n d_Q_cut_33 rfl ?_
      obtain ⟨v7, hv7, h⟩ := bnd h
      refine e_getR d_Q_cut_34 fl_Q_79 (fun _ _ _ => rfl) hv7 ?_
      refine e_aload_n d_Q_cut_37 rfl ?_
      refine e_aload d_Q_cut_38 rfl ?_
      refine e_aload_n d_Q_cut_40 rfl ?_
      obtain ⟨v8, hv8, h⟩ := bnd h
      refine e_getR d_Q_cut_41 fl_Q_72 (fun _ _ _ => rfl) hv8 ?_
      obtain ⟨p9, hp9, h⟩ := bnd h
      refine e_cVi (mt1 := m_Cutter_look) (As := [.ref r5, .ref r6, .ref v8]) (st := []) d_Q_cut_44 ml_Q_217 mv_Cutter_look (t_Cutter_look n v7 r5 r6 v8 p4.2 p9 hp9) (fc_Cutter_look hp9) rfl rfl rfl (okp rfl) (okp rfl) (okp rfl) (Nat.le_refl _) (Nat.le_refl _) ?_
      cases h
      exact e_iret d_Q_cut_47 rfl (Nat.le_refl _) (Nat.le_refl _)
theorem d_Q_part_0 : DC m_Q_part 0 (.iload_n 1) 1 1 := ⟨by decide +kernel, rfl⟩
theorem d_Q_part_1 : DC m_Q_part 1 (.invokestatic 137) 3 4 := ⟨by decide +kernel, rfl⟩
theorem d_Q_part_4 : DC m_Q_part 4 (.ifCond .eq 14) 3 7 := ⟨by decide +kernel, rfl⟩
theorem d_Q_part_7 : DC m_Q_part 7 (.aload_n 0) 1 8 := ⟨by decide +kernel, rfl⟩
theorem d_Q_part_8 : DC m_Q_part 8 (.getfield 79) 3 11 := ⟨by decide +kernel, rfl⟩
theorem d_Q_part_11 : DC m_Q_part 11 (.iload_n 1) 1 12 := ⟨by decide +kernel, rfl⟩
theorem d_Q_part_12 : DC m_Q_part 12 (.invokevirtual 221) 3 15 := ⟨by decide +kernel, rfl⟩
theorem d_Q_part_15 : DC m_Q_part 15 (.goto 4) 3 18 := ⟨by decide +kernel, rfl⟩
theorem d_Q_part_18 : DC m_Q_part 18 (.iconst (-1)) 1 19 := ⟨by decide +kernel, rfl⟩
theorem d_Q_part_19 : DC m_Q_part 19 .ireturn 1 20 := ⟨by decide +kernel, rfl⟩
def f_Q_part (n : Nat) (x0 : Nat) (x1 : Int32) (M : MM) : Option (Int32 × MM) :=
  og 11 x0 M <|
  (f_Q_isQuarter n x1 M).bind fun p1 =>
  if p1.1 = 0 then
    some ((-1), p1.2)
  else
    (gR 11 13 x0 p1.2).bind fun v3 =>
    (f_Cutter_partOf n v3 x1 p1.2).bind fun p4 =>
    some (p4.1, p4.2)
theorem fc_Q_part {n : Nat} {x0 : Nat} {x1 : Int32} {M : MM} {z : Int32 × MM} (h : f_Q_part n x0 x1 M = some z) : (M.1.2.1 x0).1 = 11 := by
  unfold f_Q_part at h
  exact (og_s h).1
theorem t_Q_part (n : Nat) (x0 : Nat) (x1 : Int32) (M : MM) (z : Int32 × MM) (h : f_Q_part n x0 x1 M = some z) : CT m_Q_part (rm 3 0 0) [.ref x0, .int x1] M (some (.int z.1)) z.2 := by
  unfold f_Q_part at h
  obtain ⟨hthis, h⟩ := og_s h
  refine CT.of (ls := [some (.ref x0), some (.int x1)]) rfl (okp rfl) rfl ?_
  refine e_iload_n d_Q_part_0 rfl ?_
  obtain ⟨p1, hp1, h⟩ := bnd h
  refine e_cSi (mt1 := m_Q_isQuarter) (As := [.int x1]) (st := []) d_Q_part_1 ml_Q_137 ms_Q_isQuarter (t_Q_isQuarter n x1 M p1 hp1) rfl rfl (okp rfl) (okp rfl) (okp rfl) (Nat.le_refl _) (Nat.le_refl _) ?_
  refine e_if_eq 18 d_Q_part_4 (by decide) (fun c2 => ?_) (fun c2 => ?_)
  · replace h := ift c2 h
    refine e_iconst (v := (-1)) d_Q_part_18 (by decide) ?_
    cases h
    exact e_iret d_Q_part_19 rfl (Nat.le_refl _) (Nat.le_refl _)
  · replace h := ifn c2 h
    refine e_aload_n d_Q_part_7 rfl ?_
    obtain ⟨v3, hv3, h⟩ := bnd h
    refine e_getR d_Q_part_8 fl_Q_79 (fun _ _ _ => rfl) hv3 ?_
    refine e_iload_n d_Q_part_11 rfl ?_
    obtain ⟨p4, hp4, h⟩ := bnd h
    refine e_cVi (mt1 := m_Cutter_partOf) (As := [.int x1]) (st := []) d_Q_part_12 ml_Q_221 mv_Cutter_partOf (t_Cutter_partOf n v3 x1 p1.2 p4 hp4) (fc_Cutter_partOf hp4) rfl rfl rfl (okp rfl) (okp rfl) (okp rfl) (Nat.le_refl _) (Nat.le_refl _) ?_
    refine e_goto 19 d_Q_part_15 (by decide) ?_
    cases h
    exact e_iret d_Q_part_19 rfl (Nat.le_refl _) (Nat.le_refl _)
theorem d_Q_laid_0 : DC m_Q_laid 0 (.aload_n 0) 1 1 := ⟨by decide +kernel, rfl⟩
theorem d_Q_laid_1 : DC m_Q_laid 1 (.getfield 79) 3 4 := ⟨by decide +kernel, rfl⟩
theorem d_Q_laid_4 : DC m_Q_laid 4 (.iload_n 1) 1 5 := ⟨by decide +kernel, rfl⟩
theorem d_Q_laid_5 : DC m_Q_laid 5 (.invokevirtual 224) 3 8 := ⟨by decide +kernel, rfl⟩
theorem d_Q_laid_8 : DC m_Q_laid 8 .ireturn 1 9 := ⟨by decide +kernel, rfl⟩
def f_Q_laid (n : Nat) (x0 : Nat) (x1 : Int32) (M : MM) : Option (Int32 × MM) :=
  og 11 x0 M <|
  (gR 11 13 x0 M).bind fun v1 =>
  (f_Cutter_tellLaid n v1 x1 M).bind fun p2 =>
  some (p2.1, p2.2)
theorem fc_Q_laid {n : Nat} {x0 : Nat} {x1 : Int32} {M : MM} {z : Int32 × MM} (h : f_Q_laid n x0 x1 M = some z) : (M.1.2.1 x0).1 = 11 := by
  unfold f_Q_laid at h
  exact (og_s h).1
theorem t_Q_laid (n : Nat) (x0 : Nat) (x1 : Int32) (M : MM) (z : Int32 × MM) (h : f_Q_laid n x0 x1 M = some z) : CT m_Q_laid (rm 2 0 0) [.ref x0, .int x1] M (some (.int z.1)) z.2 := by
  unfold f_Q_laid at h
  obtain ⟨hthis, h⟩ := og_s h
  refine CT.of (ls := [some (.ref x0), some (.int x1)]) rfl (okp rfl) rfl ?_
  refine e_aload_n d_Q_laid_0 rfl ?_
  obtain ⟨v1, hv1, h⟩ := bnd h
  refine e_getR d_Q_laid_1 fl_Q_79 (fun _ _ _ => rfl) hv1 ?_
  refine e_iload_n d_Q_laid_4 rfl ?_
  obtain ⟨p2, hp2, h⟩ := bnd h
  refine e_cVi (mt1 := m_Cutter_tellLaid) (As := [.int x1]) (st := []) d_Q_laid_5 ml_Q_224 mv_Cutter_tellLaid (t_Cutter_tellLaid n v1 x1 M p2 hp2) (fc_Cutter_tellLaid hp2) rfl rfl rfl (okp rfl) (okp rfl) (okp rfl) (Nat.le_refl _) (Nat.le_refl _) ?_
  cases h
  exact e_iret d_Q_laid_8 rfl (Nat.le_refl _) (Nat.le_refl _)
theorem d_Q_lay_0 : DC m_Q_lay 0 (.aload_n 0) 1 1 := ⟨by decide +kernel, rfl⟩
theorem d_Q_lay_1 : DC m_Q_lay 1 (.iconst 0) 1 2 := ⟨by decide +kernel, rfl⟩
theorem d_Q_lay_2 : DC m_Q_lay 2 (.iload_n 1) 1 3 := ⟨by decide +kernel, rfl⟩
theorem d_Q_lay_3 : DC m_Q_lay 3 (.invokevirtual 130) 3 6 := ⟨by decide +kernel, rfl⟩
theorem d_Q_lay_6 : DC m_Q_lay 6 (.astore 5) 2 8 := ⟨by decide +kernel, rfl⟩
theorem d_Q_lay_8 : DC m_Q_lay 8 (.aload 5) 2 10 := ⟨by decide +kernel, rfl⟩
theorem d_Q_lay_10 : DC m_Q_lay 10 (.ifnull 33) 3 13 := ⟨by decide +kernel, rfl⟩
theorem d_Q_lay_13 : DC m_Q_lay 13 (.iload_n 2) 1 14 := ⟨by decide +kernel, rfl⟩
theorem d_Q_lay_14 : DC m_Q_lay 14 (.invokestatic 163) 3 17 := ⟨by decide +kernel, rfl⟩
theorem d_Q_lay_17 : DC m_Q_lay 17 (.ifCond .eq 26) 3 20 := ⟨by decide +kernel, rfl⟩
theorem d_Q_lay_20 : DC m_Q_lay 20 (.aload_n 0) 1 21 := ⟨by decide +kernel, rfl⟩
theorem d_Q_lay_21 : DC m_Q_lay 21 (.getfield 86) 3 24 := ⟨by decide +kernel, rfl⟩
theorem d_Q_lay_24 : DC m_Q_lay 24 (.iload_n 1) 1 25 := ⟨by decide +kernel, rfl⟩
theorem d_Q_lay_25 : DC m_Q_lay 25 (.invokevirtual 227) 3 28 := ⟨by decide +kernel, rfl⟩
theorem d_Q_lay_28 : DC m_Q_lay 28 (.ifCond .ne 15) 3 31 := ⟨by decide +kernel, rfl⟩
theorem d_Q_lay_31 : DC m_Q_lay 31 (.aload 5) 2 33 := ⟨by decide +kernel, rfl⟩
theorem d_Q_lay_33 : DC m_Q_lay 33 (.iload_n 2) 1 34 := ⟨by decide +kernel, rfl⟩
theorem d_Q_lay_34 : DC m_Q_lay 34 (.iload_n 3) 1 35 := ⟨by decide +kernel, rfl⟩
theorem d_Q_lay_35 : DC m_Q_lay 35 (.iload 4) 2 37 := ⟨by decide +kernel, rfl⟩
theorem d_Q_lay_37 : DC m_Q_lay 37 (.invokevirtual 230) 3 40 := ⟨by decide +kernel, rfl⟩
theorem d_Q_lay_40 : DC m_Q_lay 40 (.ifCond .ne 5) 3 43 := ⟨by decide +kernel, rfl⟩
theorem d_Q_lay_43 : DC m_Q_lay 43 (.iconst (-1)) 1 44 := ⟨by decide +kernel, rfl⟩
theorem d_Q_lay_44 : DC m_Q_lay 44 .ireturn 1 45 := ⟨by decide +kernel, rfl⟩
theorem d_Q_lay_45 : DC m_Q_lay 45 (.aload_n 0) 1 46 := ⟨by decide +kernel, rfl⟩
theorem d_Q_lay_46 : DC m_Q_lay 46 (.getfield 86) 3 49 := ⟨by decide +kernel, rfl⟩
theorem d_Q_lay_49 : DC m_Q_lay 49 (.iload_n 1) 1 50 := ⟨by decide +kernel, rfl⟩
theorem d_Q_lay_50 : DC m_Q_lay 50 (.aload 5) 2 52 := ⟨by decide +kernel, rfl⟩
theorem d_Q_lay_52 : DC m_Q_lay 52 (.iload_n 2) 1 53 := ⟨by decide +kernel, rfl⟩
theorem d_Q_lay_53 : DC m_Q_lay 53 (.iload_n 3) 1 54 := ⟨by decide +kernel, rfl⟩
theorem d_Q_lay_54 : DC m_Q_lay 54 (.iload 4) 2 56 := ⟨by decide +kernel, rfl⟩
theorem d_Q_lay_56 : DC m_Q_lay 56 (.invokevirtual 234) 3 59 := ⟨by decide +kernel, rfl⟩
theorem d_Q_lay_59 : DC m_Q_lay 59 (.aload_n 0) 1 60 := ⟨by decide +kernel, rfl⟩
theorem d_Q_lay_60 : DC m_Q_lay 60 (.getfield 86) 3 63 := ⟨by decide +kernel, rfl⟩
theorem d_Q_lay_63 : DC m_Q_lay 63 (.invokevirtual 238) 3 66 := ⟨by decide +kernel, rfl⟩
theorem d_Q_lay_66 : DC m_Q_lay 66 .ireturn 1 67 := ⟨by decide +kernel, rfl⟩
def f_Q_lay (n : Nat) (x0 : Nat) (x1 : Int32) (x2 : Int32) (x3 : Int32) (x4 : Int32) (M : MM) : Option (Int32 × MM) :=
  og 11 x0 M <|
  (f_Q_formOf n x0 0 x1 M).bind fun p1 =>
  ob p1.1 (
    some ((-1), p1.2)
  ) fun r2 =>
    (f_Q_isImage n x2 p1.2).bind fun p3 =>
    if p3.1 = 0 then
      some ((-1), p3.2)
    else
      (gR 11 14 x0 p3.2).bind fun v5 =>
      (f_Table_holdsBoard n v5 x1 p3.2).bind fun p6 =>
      if p6.1 = 0 then
        (f_Form_staysOn n r2 x2 x3 x4 p6.2).bind fun p8 =>
        if p8.1 = 0 then
          some ((-1), p8.2)
        else
          (gR 11 14 x0 p8.2).bind fun v10 =>
          (f_Table_put n v10 x1 r2 x2 x3 x4 p8.2).bind fun M11 =>
          (gR 11 14 x0 M11).bind fun v12 =>
          (f_Table_countLays n v12 M11).bind fun p13 =>
          some (p13.1, p13.2)
      else
        some ((-1), p6.2)
theorem fc_Q_lay {n : Nat} {x0 : Nat} {x1 : Int32} {x2 : Int32} {x3 : Int32} {x4 : Int32} {M : MM} {z : Int32 × MM} (h : f_Q_lay n x0 x1 x2 x3 x4 M = some z) : (M.1.2.1 x0).1 = 11 := by
  unfold f_Q_lay at h
  exact (og_s h).1
theorem t_Q_lay (n : Nat) (x0 : Nat) (x1 : Int32) (x2 : Int32) (x3 : Int32) (x4 : Int32) (M : MM) (z : Int32 × MM) (h : f_Q_lay n x0 x1 x2 x3 x4 M = some z) : CT m_Q_lay (rm 4 0 0) [.ref x0, .int x1, .int x2, .int x3, .int x4] M (some (.int z.1)) z.2 := by
  unfold f_Q_lay at h
  obtain ⟨hthis, h⟩ := og_s h
  refine CT.of (ls := [some (.ref x0), some (.int x1), some (.int x2), some (.int x3), some (.int x4), none]) rfl (okp rfl) rfl ?_
  refine e_aload_n d_Q_lay_0 rfl ?_
  refine e_iconst (v := 0) d_Q_lay_1 (by decide) ?_
  refine e_iload_n d_Q_lay_2 rfl ?_
  obtain ⟨p1, hp1, h⟩ := bnd h
  refine e_cVr (mt1 := m_Q_formOf) (As := [.int 0, .int x1]) (st := []) d_Q_lay_3 ml_Q_130 mv_Q_formOf (t_Q_formOf n x0 0 x1 M p1 hp1) (fc_Q_formOf hp1) rfl rfl rfl (okp rfl) (okp rfl) (okp rfl) (Nat.le_refl _) (Nat.le_refl _) ?_
  refine e_astoreO (l2 := [some (.ref x0), some (.int x1), some (.int x2), some (.int x3), some (.int x4), some (vr p1.1)]) d_Q_lay_6 rfl (okl rfl) rfl ?_
  refine e_aloadO d_Q_lay_8 rfl ?_
  rcases ob_s h with ⟨hr2, h⟩ | ⟨r2, hr2, h⟩
  · rw [hr2]
    refine e_ifnullN 43 d_Q_lay_10 (by decide) ?_
    refine e_iconst (v := (-1)) d_Q_lay_43 (by decide) ?_
    cases h
    exact e_iret d_Q_lay_44 rfl (Nat.le_refl _) (Nat.le_refl _)
  · rw [hr2]
    refine e_ifnull d_Q_lay_10 ?_
    refine e_iload_n d_Q_lay_13 rfl ?_
    obtain ⟨p3, hp3, h⟩ := bnd h
    refine e_cSi (mt1 := m_Q_isImage) (As := [.int x2]) (st := []) d_Q_lay_14 ml_Q_163 ms_Q_isImage (t_Q_isImage n x2 p1.2 p3 hp3) rfl rfl (okp rfl) (okp rfl) (okp rfl) (Nat.le_refl _) (Nat.le_refl _) ?_
    refine e_if_eq 43 d_Q_lay_17 (by decide) (fun c4 => ?_) (fun c4 => ?_)
    · replace h := ift c4 h
      refine e_iconst (v := (-1)) d_Q_lay_43 (by decide) ?_
      cases h
      exact e_iret d_Q_lay_44 rfl (Nat.le_refl _) (Nat.le_refl _)
    · replace h := ifn c4 h
      refine e_aload_n d_Q_lay_20 rfl ?_
      obtain ⟨v5, hv5, h⟩ := bnd h
      refine e_getR d_Q_lay_21 fl_Q_86 (fun _ _ _ => rfl) hv5 ?_
      refine e_iload_n d_Q_lay_24 rfl ?_
      obtain ⟨p6, hp6, h⟩ := bnd h
      refine e_cVi (mt1 := m_Table_holdsBoard) (As := [.int x1]) (st := []) d_Q_lay_25 ml_Q_227 mv_Table_holdsBoard (t_Table_holdsBoard n v5 x1 p3.2 p6 hp6) (fc_Table_holdsBoard hp6) rfl rfl rfl (okp rfl) (okp rfl) (okp rfl) (Nat.le_refl _) (Nat.le_refl _) ?_
      refine e_if_ne 43 d_Q_lay_28 (by decide) (fun c7 => ?_) (fun c7 => ?_)
      · replace h := ifn c7 h
        refine e_iconst (v := (-1)) d_Q_lay_43 (by decide) ?_
        cases h
        exact e_iret d_Q_lay_44 rfl (Nat.le_refl _) (Nat.le_refl _)
      · replace h := ift c7 h
        refine e_aload d_Q_lay_31 rfl ?_
        refine e_iload_n d_Q_lay_33 rfl ?_
        refine e_iload_n d_Q_lay_34 rfl ?_
        refine e_iload d_Q_lay_35 rfl ?_
        obtain ⟨p8, hp8, h⟩ := bnd h
        refine e_cVi (mt1 := m_Form_staysOn) (As := [.int x2, .int x3, .int x4]) (st := []) d_Q_lay_37 ml_Q_230 mv_Form_staysOn (t_Form_staysOn n r2 x2 x3 x4 p6.2 p8 hp8) (fc_Form_staysOn hp8) rfl rfl rfl (okp rfl) (okp rfl) (okp rfl) (Nat.le_refl _) (Nat.le_refl _) ?_
        refine e_if_ne 45 d_Q_lay_40 (by decide) (fun c9 => ?_) (fun c9 => ?_)
        · replace h := ifn c9 h
          refine e_aload_n d_Q_lay_45 rfl ?_
          obtain ⟨v10, hv10, h⟩ := bnd h
          refine e_getR d_Q_lay_46 fl_Q_86 (fun _ _ _ => rfl) hv10 ?_
          refine e_iload_n d_Q_lay_49 rfl ?_
          refine e_aload d_Q_lay_50 rfl ?_
          refine e_iload_n d_Q_lay_52 rfl ?_
          refine e_iload_n d_Q_lay_53 rfl ?_
          refine e_iload d_Q_lay_54 rfl ?_
          obtain ⟨M11, hM11, h⟩ := bnd h
          refine e_cVv (mt1 := m_Table_put) (As := [.int x1, .ref r2, .int x2, .int x3, .int x4]) (st := []) d_Q_lay_56 ml_Q_234 mv_Table_put (t_Table_put n v10 x1 r2 x2 x3 x4 p8.2 M11 hM11) (fc_Table_put hM11) rfl rfl rfl (okp rfl) (okp rfl) (okp rfl) (Nat.le_refl _) (Nat.le_refl _) ?_
          refine e_aload_n d_Q_lay_59 rfl ?_
          obtain ⟨v12, hv12, h⟩ := bnd h
          refine e_getR d_Q_lay_60 fl_Q_86 (fun _ _ _ => rfl) hv12 ?_
          obtain ⟨p13, hp13, h⟩ := bnd h
          refine e_cVi (mt1 := m_Table_countLays) (As := []) (st := []) d_Q_lay_63 ml_Q_238 mv_Table_countLays (t_Table_countLays n v12 M11 p13 hp13) (fc_Table_countLays hp13) rfl rfl rfl (okp rfl) (okp rfl) (okp rfl) (Nat.le_refl _) (Nat.le_refl _) ?_
          cases h
          exact e_iret d_Q_lay_66 rfl (Nat.le_refl _) (Nat.le_refl _)
        · replace h := ift c9 h
          refine e_iconst (v := (-1)) d_Q_lay_43 (by decide) ?_
          cases h
          exact e_iret d_Q_lay_44 rfl (Nat.le_refl _) (Nat.le_refl _)
theorem d_Q_lift_0 : DC m_Q_lift 0 (.iload_n 1) 1 1 := ⟨by decide +kernel, rfl⟩
theorem d_Q_lift_1 : DC m_Q_lift 1 (.ifCond .lt 20) 3 4 := ⟨by decide +kernel, rfl⟩
theorem d_Q_lift_4 : DC m_Q_lift 4 (.iload_n 1) 1 5 := ⟨by decide +kernel, rfl⟩
theorem d_Q_lift_5 : DC m_Q_lift 5 (.bipush 8) 2 7 := ⟨by decide +kernel, rfl⟩
theorem d_Q_lift_7 : DC m_Q_lift 7 (.if_icmp .ge 14) 3 10 := ⟨by decide +kernel, rfl⟩
theorem d_Q_lift_10 : DC m_Q_lift 10 (.aload_n 0) 1 11 := ⟨by decide +kernel, rfl⟩
theorem d_Q_lift_11 : DC m_Q_lift 11 (.getfield 86) 3 14 := ⟨by decide +kernel, rfl⟩
theorem d_Q_lift_14 : DC m_Q_lift 14 (.iload_n 1) 1 15 := ⟨by decide +kernel, rfl⟩
theorem d_Q_lift_15 : DC m_Q_lift 15 (.invokevirtual 227) 3 18 := ⟨by decide +kernel, rfl⟩
theorem d_Q_lift_18 : DC m_Q_lift 18 (.ifCond .ne 5) 3 21 := ⟨by decide +kernel, rfl⟩
theorem d_Q_lift_21 : DC m_Q_lift 21 (.iconst 0) 1 22 := ⟨by decide +kernel, rfl⟩
theorem d_Q_lift_22 : DC m_Q_lift 22 .ireturn 1 23 := ⟨by decide +kernel, rfl⟩
theorem d_Q_lift_23 : DC m_Q_lift 23 (.aload_n 0) 1 24 := ⟨by decide +kernel, rfl⟩
theorem d_Q_lift_24 : DC m_Q_lift 24 (.getfield 86) 3 27 := ⟨by decide +kernel, rfl⟩
theorem d_Q_lift_27 : DC m_Q_lift 27 (.iload_n 1) 1 28 := ⟨by decide +kernel, rfl⟩
theorem d_Q_lift_28 : DC m_Q_lift 28 (.invokevirtual 241) 3 31 := ⟨by decide +kernel, rfl⟩
theorem d_Q_lift_31 : DC m_Q_lift 31 (.iconst 1) 1 32 := ⟨by decide +kernel, rfl⟩
theorem d_Q_lift_32 : DC m_Q_lift 32 .ireturn 1 33 := ⟨by decide +kernel, rfl⟩
def f_Q_lift (n : Nat) (x0 : Nat) (x1 : Int32) (M : MM) : Option (Int32 × MM) :=
  og 11 x0 M <|
  if x1 < 0 then
    some (0, M)
  else
    if 8 ≤ x1 then
      some (0, M)
    else
      (gR 11 14 x0 M).bind fun v3 =>
      (f_Table_holdsBoard n v3 x1 M).bind fun p4 =>
      if p4.1 = 0 then
        some (0, p4.2)
      else
        (gR 11 14 x0 p4.2).bind fun v6 =>
        (f_Table_take n v6 x1 p4.2).bind fun M7 =>
        some (1, M7)
theorem fc_Q_lift {n : Nat} {x0 : Nat} {x1 : Int32} {M : MM} {z : Int32 × MM} (h : f_Q_lift n x0 x1 M = some z) : (M.1.2.1 x0).1 = 11 := by
  unfold f_Q_lift at h
  exact (og_s h).1
theorem t_Q_lift (n : Nat) (x0 : Nat) (x1 : Int32) (M : MM) (z : Int32 × MM) (h : f_Q_lift n x0 x1 M = some z) : CT m_Q_lift (rm 3 0 0) [.ref x0, .int x1] M (some (.int z.1)) z.2 := by
  unfold f_Q_lift at h
  obtain ⟨hthis, h⟩ := og_s h
  refine CT.of (ls := [some (.ref x0), some (.int x1)]) rfl (okp rfl) rfl ?_
  refine e_iload_n d_Q_lift_0 rfl ?_
  refine e_if_lt 21 d_Q_lift_1 (by decide) (fun c1 => ?_) (fun c1 => ?_)
  · replace h := ift c1 h
    refine e_iconst (v := 0) d_Q_lift_21 (by decide) ?_
    cases h
    exact e_zret (ty := .boolean) d_Q_lift_22 rfl narZ0 (Nat.le_refl _) (Nat.le_refl _)
  · replace h := ifn c1 h
    refine e_iload_n d_Q_lift_4 rfl ?_
    refine e_bipush (v := 8) d_Q_lift_5 (by decide) ?_
    refine e_ic_ge 21 d_Q_lift_7 (by decide) (fun c2 => ?_) (fun c2 => ?_)
    · replace h := ift c2 h
      refine e_iconst (v := 0) d_Q_lift_21 (by decide) ?_
      cases h
      exact e_zret (ty := .boolean) d_Q_lift_22 rfl narZ0 (Nat.le_refl _) (Nat.le_refl _)
    · replace h := ifn c2 h
      refine e_aload_n d_Q_lift_10 rfl ?_
      obtain ⟨v3, hv3, h⟩ := bnd h
      refine e_getR d_Q_lift_11 fl_Q_86 (fun _ _ _ => rfl) hv3 ?_
      refine e_iload_n d_Q_lift_14 rfl ?_
      obtain ⟨p4, hp4, h⟩ := bnd h
      refine e_cVi (mt1 := m_Table_holdsBoard) (As := [.int x1]) (st := []) d_Q_lift_15 ml_Q_227 mv_Table_holdsBoard (t_Table_holdsBoard n v3 x1 M p4 hp4) (fc_Table_holdsBoard hp4) rfl rfl rfl (okp rfl) (okp rfl) (okp rfl) (Nat.le_refl _) (Nat.le_refl _) ?_
      refine e_if_ne 23 d_Q_lift_18 (by decide) (fun c5 => ?_) (fun c5 => ?_)
      · replace h := ifn c5 h
        refine e_aload_n d_Q_lift_23 rfl ?_
        obtain ⟨v6, hv6, h⟩ := bnd h
        refine e_getR d_Q_lift_24 fl_Q_86 (fun _ _ _ => rfl) hv6 ?_
        refine e_iload_n d_Q_lift_27 rfl ?_
        obtain ⟨M7, hM7, h⟩ := bnd h
        refine e_cVv (mt1 := m_Table_take) (As := [.int x1]) (st := []) d_Q_lift_28 ml_Q_241 mv_Table_take (t_Table_take n v6 x1 p4.2 M7 hM7) (fc_Table_take hM7) rfl rfl rfl (okp rfl) (okp rfl) (okp rfl) (Nat.le_refl _) (Nat.le_refl _) ?_
        refine e_iconst (v := 1) d_Q_lift_31 (by decide) ?_
        cases h
        exact e_zret (ty := .boolean) d_Q_lift_32 rfl narZ1 (Nat.le_refl _) (Nat.le_refl _)
      · replace h := ift c5 h
        refine e_iconst (v := 0) d_Q_lift_21 (by decide) ?_
        cases h
        exact e_zret (ty := .boolean) d_Q_lift_22 rfl narZ0 (Nat.le_refl _) (Nat.le_refl _)
theorem d_Q_covers_0 : DC m_Q_covers 0 (.iload_n 1) 1 1 := ⟨by decide +kernel, rfl⟩
theorem d_Q_covers_1 : DC m_Q_covers 1 (.invokestatic 137) 3 4 := ⟨by decide +kernel, rfl⟩
theorem d_Q_covers_4 : DC m_Q_covers 4 (.ifCond .eq 14) 3 7 := ⟨by decide +kernel, rfl⟩
theorem d_Q_covers_7 : DC m_Q_covers 7 (.aload_n 0) 1 8 := ⟨by decide +kernel, rfl⟩
theorem d_Q_covers_8 : DC m_Q_covers 8 (.getfield 86) 3 11 := ⟨by decide +kernel, rfl⟩
theorem d_Q_covers_11 : DC m_Q_covers 11 (.iload_n 1) 1 12 := ⟨by decide +kernel, rfl⟩
theorem d_Q_covers_12 : DC m_Q_covers 12 (.invokevirtual 244) 3 15 := ⟨by decide +kernel, rfl⟩
theorem d_Q_covers_15 : DC m_Q_covers 15 (.goto 4) 3 18 := ⟨by decide +kernel, rfl⟩
theorem d_Q_covers_18 : DC m_Q_covers 18 (.iconst (-1)) 1 19 := ⟨by decide +kernel, rfl⟩
theorem d_Q_covers_19 : DC m_Q_covers 19 .ireturn 1 20 := ⟨by decide +kernel, rfl⟩
def f_Q_covers (n : Nat) (x0 : Nat) (x1 : Int32) (M : MM) : Option (Int32 × MM) :=
  og 11 x0 M <|
  (f_Q_isQuarter n x1 M).bind fun p1 =>
  if p1.1 = 0 then
    some ((-1), p1.2)
  else
    (gR 11 14 x0 p1.2).bind fun v3 =>
    (f_Table_boardOn n v3 x1 p1.2).bind fun p4 =>
    some (p4.1, p4.2)
theorem fc_Q_covers {n : Nat} {x0 : Nat} {x1 : Int32} {M : MM} {z : Int32 × MM} (h : f_Q_covers n x0 x1 M = some z) : (M.1.2.1 x0).1 = 11 := by
  unfold f_Q_covers at h
  exact (og_s h).1
theorem t_Q_covers (n : Nat) (x0 : Nat) (x1 : Int32) (M : MM) (z : Int32 × MM) (h : f_Q_covers n x0 x1 M = some z) : CT m_Q_covers (rm 3 0 0) [.ref x0, .int x1] M (some (.int z.1)) z.2 := by
  unfold f_Q_covers at h
  obtain ⟨hthis, h⟩ := og_s h
  refine CT.of (ls := [some (.ref x0), some (.int x1)]) rfl (okp rfl) rfl ?_
  refine e_iload_n d_Q_covers_0 rfl ?_
  obtain ⟨p1, hp1, h⟩ := bnd h
  refine e_cSi (mt1 := m_Q_isQuarter) (As := [.int x1]) (st := []) d_Q_covers_1 ml_Q_137 ms_Q_isQuarter (t_Q_isQuarter n x1 M p1 hp1) rfl rfl (okp rfl) (okp rfl) (okp rfl) (Nat.le_refl _) (Nat.le_refl _) ?_
  refine e_if_eq 18 d_Q_covers_4 (by decide) (fun c2 => ?_) (fun c2 => ?_)
  · replace h := ift c2 h
    refine e_iconst (v := (-1)) d_Q_covers_18 (by decide) ?_
    cases h
    exact e_iret d_Q_covers_19 rfl (Nat.le_refl _) (Nat.le_refl _)
  · replace h := ifn c2 h
    refine e_aload_n d_Q_covers_7 rfl ?_
    obtain ⟨v3, hv3, h⟩ := bnd h
    refine e_getR d_Q_covers_8 fl_Q_86 (fun _ _ _ => rfl) hv3 ?_
    refine e_iload_n d_Q_covers_11 rfl ?_
    obtain ⟨p4, hp4, h⟩ := bnd h
    refine e_cVi (mt1 := m_Table_boardOn) (As := [.int x1]) (st := []) d_Q_covers_12 ml_Q_244 mv_Table_boardOn (t_Table_boardOn n v3 x1 p1.2 p4 hp4) (fc_Table_boardOn hp4) rfl rfl rfl (okp rfl) (okp rfl) (okp rfl) (Nat.le_refl _) (Nat.le_refl _) ?_
    refine e_goto 19 d_Q_covers_15 (by decide) ?_
    cases h
    exact e_iret d_Q_covers_19 rfl (Nat.le_refl _) (Nat.le_refl _)
theorem d_Q_clashes_0 : DC m_Q_clashes 0 (.aload_n 0) 1 1 := ⟨by decide +kernel, rfl⟩
theorem d_Q_clashes_1 : DC m_Q_clashes 1 (.getfield 86) 3 4 := ⟨by decide +kernel, rfl⟩
theorem d_Q_clashes_4 : DC m_Q_clashes 4 (.invokevirtual 247) 3 7 := ⟨by decide +kernel, rfl⟩
theorem d_Q_clashes_7 : DC m_Q_clashes 7 .ireturn 1 8 := ⟨by decide +kernel, rfl⟩
def f_Q_clashes (n : Nat) (x0 : Nat) (M : MM) : Option (Int32 × MM) :=
  og 11 x0 M <|
  (gR 11 14 x0 M).bind fun v1 =>
  (f_Table_countClashes n v1 M).bind fun p2 =>
  some (p2.1, p2.2)
theorem fc_Q_clashes {n : Nat} {x0 : Nat} {M : MM} {z : Int32 × MM} (h : f_Q_clashes n x0 M = some z) : (M.1.2.1 x0).1 = 11 := by
  unfold f_Q_clashes at h
  exact (og_s h).1
theorem t_Q_clashes (n : Nat) (x0 : Nat) (M : MM) (z : Int32 × MM) (h : f_Q_clashes n x0 M = some z) : CT m_Q_clashes (rm 4 0 0) [.ref x0] M (some (.int z.1)) z.2 := by
  unfold f_Q_clashes at h
  obtain ⟨hthis, h⟩ := og_s h
  refine CT.of (ls := [some (.ref x0)]) rfl (okp rfl) rfl ?_
  refine e_aload_n d_Q_clashes_0 rfl ?_
  obtain ⟨v1, hv1, h⟩ := bnd h
  refine e_getR d_Q_clashes_1 fl_Q_86 (fun _ _ _ => rfl) hv1 ?_
  obtain ⟨p2, hp2, h⟩ := bnd h
  refine e_cVi (mt1 := m_Table_countClashes) (As := []) (st := []) d_Q_clashes_4 ml_Q_247 mv_Table_countClashes (t_Table_countClashes n v1 M p2 hp2) (fc_Table_countClashes hp2) rfl rfl rfl (okp rfl) (okp rfl) (okp rfl) (Nat.le_refl _) (Nat.le_refl _) ?_
  cases h
  exact e_iret d_Q_clashes_7 rfl (Nat.le_refl _) (Nat.le_refl _)
theorem d_Q_isPlayer_0 : DC m_Q_isPlayer 0 (.iload_n 0) 1 1 := ⟨by decide +kernel, rfl⟩
theorem d_Q_isPlayer_1 : DC m_Q_isPlayer 1 (.ifCond .lt 13) 3 4 := ⟨by decide +kernel, rfl⟩
theorem d_Q_isPlayer_4 : DC m_Q_isPlayer 4 (.iload_n 0) 1 5 := ⟨by decide +kernel, rfl⟩
theorem d_Q_isPlayer_5 : DC m_Q_isPlayer 5 (.bipush 6) 2 7 := ⟨by decide +kernel, rfl⟩
theorem d_Q_isPlayer_7 : DC m_Q_isPlayer 7 (.if_icmp .ge 7) 3 10 := ⟨by decide +kernel, rfl⟩
theorem d_Q_isPlayer_10 : DC m_Q_isPlayer 10 (.iconst 1) 1 11 := ⟨by decide +kernel, rfl⟩
theorem d_Q_isPlayer_11 : DC m_Q_isPlayer 11 (.goto 4) 3 14 := ⟨by decide +kernel, rfl⟩
theorem d_Q_isPlayer_14 : DC m_Q_isPlayer 14 (.iconst 0) 1 15 := ⟨by decide +kernel, rfl⟩
theorem d_Q_isPlayer_15 : DC m_Q_isPlayer 15 .ireturn 1 16 := ⟨by decide +kernel, rfl⟩
def f_Q_isPlayer (n : Nat) (x0 : Int32) (M : MM) : Option (Int32 × MM) :=
  if x0 < 0 then
    some (0, M)
  else
    if 6 ≤ x0 then
      some (0, M)
    else
      some (1, M)
theorem t_Q_isPlayer (n : Nat) (x0 : Int32) (M : MM) (z : Int32 × MM) (h : f_Q_isPlayer n x0 M = some z) : CT m_Q_isPlayer (rm 1 0 0) [.int x0] M (some (.int z.1)) z.2 := by
  unfold f_Q_isPlayer at h
  refine CT.of (ls := [some (.int x0)]) rfl (okp rfl) rfl ?_
  refine e_iload_n d_Q_isPlayer_0 rfl ?_
  refine e_if_lt 14 d_Q_isPlayer_1 (by decide) (fun c1 => ?_) (fun c1 => ?_)
  · replace h := ift c1 h
    refine e_iconst (v := 0) d_Q_isPlayer_14 (by decide) ?_
    cases h
    exact e_zret (ty := .boolean) d_Q_isPlayer_15 rfl narZ0 (Nat.le_refl _) (Nat.le_refl _)
  · replace h := ifn c1 h
    refine e_iload_n d_Q_isPlayer_4 rfl ?_
    refine e_bipush (v := 6) d_Q_isPlayer_5 (by decide) ?_
    refine e_ic_ge 14 d_Q_isPlayer_7 (by decide) (fun c2 => ?_) (fun c2 => ?_)
    · replace h := ift c2 h
      refine e_iconst (v := 0) d_Q_isPlayer_14 (by decide) ?_
      cases h
      exact e_zret (ty := .boolean) d_Q_isPlayer_15 rfl narZ0 (Nat.le_refl _) (Nat.le_refl _)
    · replace h := ifn c2 h
      refine e_iconst (v := 1) d_Q_isPlayer_10 (by decide) ?_
      refine e_goto 15 d_Q_isPlayer_11 (by decide) ?_
      cases h
      exact e_zret (ty := .boolean) d_Q_isPlayer_15 rfl narZ1 (Nat.le_refl _) (Nat.le_refl _)
theorem d_Q_claim_0 : DC m_Q_claim 0 (.aload_n 0) 1 1 := ⟨by decide +kernel, rfl⟩
theorem d_Q_claim_1 : DC m_Q_claim 1 (.iconst 1) 1 2 := ⟨by decide +kernel, rfl⟩
theorem d_Q_claim_2 : DC m_Q_claim 2 (.iload_n 2) 1 3 := ⟨by decide +kernel, rfl⟩
theorem d_Q_claim_3 : DC m_Q_claim 3 (.invokevirtual 130) 3 6 := ⟨by decide +kernel, rfl⟩
theorem d_Q_claim_6 : DC m_Q_claim 6 (.astore 4) 2 8 := ⟨by decide +kernel, rfl⟩
theorem d_Q_claim_8 : DC m_Q_claim 8 (.aload_n 0) 1 9 := ⟨by decide +kernel, rfl⟩
theorem d_Q_claim_9 : DC m_Q_claim 9 (.getfield 93) 3 12 := ⟨by decide +kernel, rfl⟩
theorem d_Q_claim_12 : DC m_Q_claim 12 (.invokevirtual 250) 3 15 := ⟨by decide +kernel, rfl⟩
theorem d_Q_claim_15 : DC m_Q_claim 15 (.ifCond .ne 23) 3 18 := ⟨by decide +kernel, rfl⟩
theorem d_Q_claim_18 : DC m_Q_claim 18 (.iload_n 1) 1 19 := ⟨by decide +kernel, rfl⟩
theorem d_Q_claim_19 : DC m_Q_claim 19 (.invokestatic 253) 3 22 := ⟨by decide +kernel, rfl⟩
theorem d_Q_claim_22 : DC m_Q_claim 22 (.ifCond .eq 16) 3 25 := ⟨by decide +kernel, rfl⟩
theorem d_Q_claim_25 : DC m_Q_claim 25 (.aload 4) 2 27 := ⟨by decide +kernel, rfl⟩
theorem d_Q_claim_27 : DC m_Q_claim 27 (.ifnull 11) 3 30 := ⟨by decide +kernel, rfl⟩
theorem d_Q_claim_30 : DC m_Q_claim 30 (.aload_n 0) 1 31 := ⟨by decide +kernel, rfl⟩
theorem d_Q_claim_31 : DC m_Q_claim 31 (.iload_n 3) 1 32 := ⟨by decide +kernel, rfl⟩
theorem d_Q_claim_32 : DC m_Q_claim 32 (.invokevirtual 191) 3 35 := ⟨by decide +kernel, rfl⟩
theorem d_Q_claim_35 : DC m_Q_claim 35 (.ifCond .ne 5) 3 38 := ⟨by decide +kernel, rfl⟩
theorem d_Q_claim_38 : DC m_Q_claim 38 (.iconst (-1)) 1 39 := ⟨by decide +kernel, rfl⟩
theorem d_Q_claim_39 : DC m_Q_claim 39 .ireturn 1 40 := ⟨by decide +kernel, rfl⟩
theorem d_Q_claim_40 : DC m_Q_claim 40 (.aload_n 0) 1 41 := ⟨by decide +kernel, rfl⟩
theorem d_Q_claim_41 : DC m_Q_claim 41 (.getfield 86) 3 44 := ⟨by decide +kernel, rfl⟩
theorem d_Q_claim_44 : DC m_Q_claim 44 (.aload 4) 2 46 := ⟨by decide +kernel, rfl⟩
theorem d_Q_claim_46 : DC m_Q_claim 46 (.getfield 141) 3 49 := ⟨by decide +kernel, rfl⟩
theorem d_Q_claim_49 : DC m_Q_claim 49 (.iload_n 3) 1 50 := ⟨by decide +kernel, rfl⟩
theorem d_Q_claim_50 : DC m_Q_claim 50 (.invokevirtual 256) 3 53 := ⟨by decide +kernel, rfl⟩
theorem d_Q_claim_53 : DC m_Q_claim 53 (.istore 5) 2 55 := ⟨by decide +kernel, rfl⟩
theorem d_Q_claim_55 : DC m_Q_claim 55 (.aload_n 0) 1 56 := ⟨by decide +kernel, rfl⟩
theorem d_Q_claim_56 : DC m_Q_claim 56 (.getfield 93) 3 59 := ⟨by decide +kernel, rfl⟩
theorem d_Q_claim_59 : DC m_Q_claim 59 (.iload_n 1) 1 60 := ⟨by decide +kernel, rfl⟩
theorem d_Q_claim_60 : DC m_Q_claim 60 (.iload_n 2) 1 61 := ⟨by decide +kernel, rfl⟩
theorem d_Q_claim_61 : DC m_Q_claim 61 (.iload_n 3) 1 62 := ⟨by decide +kernel, rfl⟩
theorem d_Q_claim_62 : DC m_Q_claim 62 (.iload 5) 2 64 := ⟨by decide +kernel, rfl⟩
theorem d_Q_claim_64 : DC m_Q_claim 64 (.aload_n 0) 1 65 := ⟨by decide +kernel, rfl⟩
theorem d_Q_claim_65 : DC m_Q_claim 65 (.getfield 86) 3 68 := ⟨by decide +kernel, rfl⟩
theorem d_Q_claim_68 : DC m_Q_claim 68 (.invokevirtual 260) 3 71 := ⟨by decide +kernel, rfl⟩
theorem d_Q_claim_71 : DC m_Q_claim 71 .ireturn 1 72 := ⟨by decide +kernel, rfl⟩
def f_Q_claim (n : Nat) (x0 : Nat) (x1 : Int32) (x2 : Int32) (x3 : Int32) (M : MM) : Option (Int32 × MM) :=
  og 11 x0 M <|
  (f_Q_formOf n x0 1 x2 M).bind fun p1 =>
  (gR 11 15 x0 p1.2).bind fun v2 =>
  (f_Book_isFull n v2 p1.2).bind fun p3 =>
  if p3.1 = 0 then
    (f_Q_isPlayer n x1 p3.2).bind fun p5 =>
    if p5.1 = 0 then
      some ((-1), p5.2)
    else
      ob p1.1 (
        some ((-1), p5.2)
      ) fun r7 =>
        (f_Q_isSet n x0 x3 p5.2).bind fun p8 =>
        if p8.1 = 0 then
          some ((-1), p8.2)
        else
          (gR 11 14 x0 p8.2).bind fun v10 =>
          (gR 4 0 r7 p8.2).bind fun v11 =>
          (f_Table_judge n v10 v11 x3 p8.2).bind fun p12 =>
          (gR 11 15 x0 p12.2).bind fun v13 =>
          (gR 11 14 x0 p12.2).bind fun v14 =>
          (f_Book_enterClaim n v13 x1 x2 x3 p12.1 v14 p12.2).bind fun p15 =>
          some (p15.1, p15.2)
  else
    some ((-1), p3.2)
theorem fc_Q_claim {n : Nat} {x0 : Nat} {x1 : Int32} {x2 : Int32} {x3 : Int32} {M : MM} {z : Int32 × MM} (h : f_Q_claim n x0 x1 x2 x3 M = some z) : (M.1.2.1 x0).1 = 11 := by
  unfold f_Q_claim at h
  exact (og_s h).1
theorem t_Q_claim (n : Nat) (x0 : Nat) (x1 : Int32) (x2 : Int32) (x3 : Int32) (M : MM) (z : Int32 × MM) (h : f_Q_claim n x0 x1 x2 x3 M = some z) : CT m_Q_claim (rm 5 0 0) [.ref x0, .int x1, .int x2, .int x3] M (some (.int z.1)) z.2 := by
  unfold f_Q_claim at h
  obtain ⟨hthis, h⟩ := og_s h
  refine CT.of (ls := [some (.ref x0), some (.int x1), some (.int x2), some (.int x3), none, none]) rfl (okp rfl) rfl ?_
  refine e_aload_n d_Q_claim_0 rfl ?_
  refine e_iconst (v := 1) d_Q_claim_1 (by decide) ?_
  refine e_iload_n d_Q_claim_2 rfl ?_
  obtain ⟨p1, hp1, h⟩ := bnd h
  refine e_cVr (mt1 := m_Q_formOf) (As := [.int 1, .int x2]) (st := []) d_Q_claim_3 ml_Q_130 mv_Q_formOf (t_Q_formOf n x0 1 x2 M p1 hp1) (fc_Q_formOf hp1) rfl rfl rfl (okp rfl) (okp rfl) (okp rfl) (Nat.le_refl _) (Nat.le_refl _) ?_
  refine e_astoreO (l2 := [some (.ref x0), some (.int x1), some (.int x2), some (.int x3), some (vr p1.1), none]) d_Q_claim_6 rfl (okl rfl) rfl ?_
  refine e_aload_n d_Q_claim_8 rfl ?_
  obtain ⟨v2, hv2, h⟩ := bnd h
  refine e_getR d_Q_claim_9 fl_Q_93 (fun _ _ _ => rfl) hv2 ?_
  obtain ⟨p3, hp3, h⟩ := bnd h
  refine e_cVi (mt1 := m_Book_isFull) (As := []) (st := []) d_Q_claim_12 ml_Q_250 mv_Book_isFull (t_Book_isFull n v2 p1.2 p3 hp3) (fc_Book_isFull hp3) rfl rfl rfl (okp rfl) (okp rfl) (okp rfl) (Nat.le_refl _) (Nat.le_refl _) ?_
  refine e_if_ne 38 d_Q_claim_15 (by decide) (fun c4 => ?_) (fun c4 => ?_)
  · replace h := ifn c4 h
    refine e_iconst (v := (-1)) d_Q_claim_38 (by decide) ?_
    cases h
    exact e_iret d_Q_claim_39 rfl (Nat.le_refl _) (Nat.le_refl _)
  · replace h := ift c4 h
    refine e_iload_n d_Q_claim_18 rfl ?_
    obtain ⟨p5, hp5, h⟩ := bnd h
    refine e_cSi (mt1 := m_Q_isPlayer) (As := [.int x1]) (st := []) d_Q_claim_19 ml_Q_253 ms_Q_isPlayer (t_Q_isPlayer n x1 p3.2 p5 hp5) rfl rfl (okp rfl) (okp rfl) (okp rfl) (Nat.le_refl _) (Nat.le_refl _) ?_
    refine e_if_eq 38 d_Q_claim_22 (by decide) (fun c6 => ?_) (fun c6 => ?_)
    · replace h := ift c6 h
      refine e_iconst (v := (-1)) d_Q_claim_38 (by decide) ?_
      cases h
      exact e_iret d_Q_claim_39 rfl (Nat.le_refl _) (Nat.le_refl _)
    · replace h := ifn c6 h
      refine e_aloadO d_Q_claim_25 rfl ?_
      rcases ob_s h with ⟨hr7, h⟩ | ⟨r7, hr7, h⟩
      · rw [hr7]
        refine e_ifnullN 38 d_Q_claim_27 (by decide) ?_
        refine e_iconst (v := (-1)) d_Q_claim_38 (by decide) ?_
        cases h
        exact e_iret d_Q_claim_39 rfl (Nat.le_refl _) (Nat.le_refl _)
      · rw [hr7]
        refine e_ifnull d_Q_claim_27 ?_
        refine e_aload_n d_Q_claim_30 rfl ?_
        refine e_iload_n d_Q_claim_31 rfl ?_
        obtain ⟨p8, hp8, h⟩ := bnd h
        refine e_cVi (mt1 := m_Q_isSet) (As := [.int x3]) (st := []) d_Q_claim_32 ml_Q_191 mv_Q_isSet (t_Q_isSet n x0 x3 p5.2 p8 hp8) (fc_Q_isSet hp8) rfl rfl rfl (okp rfl) (okp rfl) (okp rfl) (Nat.le_refl _) (Nat.le_refl _) ?_
        refine e_if_ne 40 d_Q_claim_35 (by decide) (fun c9 => ?_) (fun c9 => ?_)
        · replace h := ifn c9 h
          refine e_aload_n d_Q_claim_40 rfl ?_
          obtain ⟨v10, hv10, h⟩ := bnd h
          refine e_getR d_Q_claim_41 fl_Q_86 (fun _ _ _ => rfl) hv10 ?_
          refine e_aload d_Q_claim_44 rfl ?_
          obtain ⟨v11, hv11, h⟩ := bnd h
          refine e_getR d_Q_claim_46 fl_Q_141 (fun _ _ _ => rfl) hv11 ?_
          refine e_iload_n d_Q_claim_49 rfl ?_
          obtain ⟨p12, hp12, h⟩ := bnd h
          refine e_cVi (mt1 := m_Table_judge) (As := [.ref v11, .int x3]) (st := []) d_Q_claim_50 ml_Q_256 mv_Table_judge (t_Table_judge n v10 v11 x3 p8.2 p12 hp12) (fc_Table_judge hp12) rfl rfl rfl (okp rfl) (okp rfl) (okp rfl) (Nat.le_refl _) (Nat.le_refl _) ?_
          refine e_istore (l2 := [some (.ref x0), some (.int x1), some (.int x2), some (.int x3), some (.ref r7), some (.int p12.1)]) d_Q_claim_53 rfl (okl rfl) rfl ?_
          refine e_aload_n d_Q_claim_55 rfl ?_
          obtain ⟨v13, hv13, h⟩ := bnd h
          refine e_getR d_Q_claim_56 fl_Q_93 (fun _ _ _ => rfl) hv13 ?_
          refine e_iload_n d_Q_claim_59 rfl ?_
          refine e_iload_n d_Q_claim_60 rfl ?_
          refine e_iload_n d_Q_claim_61 rfl ?_
          refine e_iload d_Q_claim_62 rfl ?_
          refine e_aload_n d_Q_claim_64 rfl ?_
          obtain ⟨v14, hv14, h⟩ := bnd h
          refine e_getR d_Q_claim_65 fl_Q_86 (fun _ _ _ => rfl) hv14 ?_
          obtain ⟨p15, hp15, h⟩ := bnd h
          refine e_cVi (mt1 := m_Book_enterClaim) (As := [.int x1, .int x2, .int x3, .int p12.1, .ref v14]) (st := []) d_Q_claim_68 ml_Q_260 mv_Book_enterClaim (t_Book_enterClaim n v13 x1 x2 x3 p12.1 v14 p12.2 p15 hp15) (fc_Book_enterClaim hp15) rfl rfl rfl (okp rfl) (okp rfl) (okp rfl) (Nat.le_refl _) (Nat.le_refl _) ?_
          cases h
          exact e_iret d_Q_claim_71 rfl (Nat.le_refl _) (Nat.le_refl _)
        · replace h := ift c9 h
          refine e_iconst (v := (-1)) d_Q_claim_38 (by decide) ?_
          cases h
          exact e_iret d_Q_claim_39 rfl (Nat.le_refl _) (Nat.le_refl _)
theorem d_Q_annul_0 : DC m_Q_annul 0 (.aload_n 0) 1 1 := ⟨by decide +kernel, rfl⟩
theorem d_Q_annul_1 : DC m_Q_annul 1 (.getfield 93) 3 4 := ⟨by decide +kernel, rfl⟩
theorem d_Q_annul_4 : DC m_Q_annul 4 (.invokevirtual 250) 3 7 := ⟨by decide +kernel, rfl⟩
theorem d_Q_annul_7 : DC m_Q_annul 7 (.ifCond .ne 14) 3 10 := ⟨by decide +kernel, rfl⟩
theorem d_Q_annul_10 : DC m_Q_annul 10 (.aload_n 0) 1 11 := ⟨by decide +kernel, rfl⟩
theorem d_Q_annul_11 : DC m_Q_annul 11 (.getfield 93) 3 14 := ⟨by decide +kernel, rfl⟩
theorem d_Q_annul_14 : DC m_Q_annul 14 (.iload_n 1) 1 15 := ⟨by decide +kernel, rfl⟩
theorem d_Q_annul_15 : DC m_Q_annul 15 (.invokevirtual 264) 3 18 := ⟨by decide +kernel, rfl⟩
theorem d_Q_annul_18 : DC m_Q_annul 18 (.ifCond .ne 5) 3 21 := ⟨by decide +kernel, rfl⟩
theorem d_Q_annul_21 : DC m_Q_annul 21 (.iconst (-1)) 1 22 := ⟨by decide +kernel, rfl⟩
theorem d_Q_annul_22 : DC m_Q_annul 22 .ireturn 1 23 := ⟨by decide +kernel, rfl⟩
theorem d_Q_annul_23 : DC m_Q_annul 23 (.aload_n 0) 1 24 := ⟨by decide +kernel, rfl⟩
theorem d_Q_annul_24 : DC m_Q_annul 24 (.getfield 93) 3 27 := ⟨by decide +kernel, rfl⟩
theorem d_Q_annul_27 : DC m_Q_annul 27 (.iload_n 1) 1 28 := ⟨by decide +kernel, rfl⟩
theorem d_Q_annul_28 : DC m_Q_annul 28 (.invokevirtual 267) 3 31 := ⟨by decide +kernel, rfl⟩
theorem d_Q_annul_31 : DC m_Q_annul 31 .ireturn 1 32 := ⟨by decide +kernel, rfl⟩
def f_Q_annul (n : Nat) (x0 : Nat) (x1 : Int32) (M : MM) : Option (Int32 × MM) :=
  og 11 x0 M <|
  (gR 11 15 x0 M).bind fun v1 =>
  (f_Book_isFull n v1 M).bind fun p2 =>
  if p2.1 = 0 then
    (gR 11 15 x0 p2.2).bind fun v4 =>
    (f_Book_isClaim n v4 x1 p2.2).bind fun p5 =>
    if p5.1 = 0 then
      some ((-1), p5.2)
    else
      (gR 11 15 x0 p5.2).bind fun v7 =>
      (f_Book_enterVoid n v7 x1 p5.2).bind fun p8 =>
      some (p8.1, p8.2)
  else
    some ((-1), p2.2)
theorem fc_Q_annul {n : Nat} {x0 : Nat} {x1 : Int32} {M : MM} {z : Int32 × MM} (h : f_Q_annul n x0 x1 M = some z) : (M.1.2.1 x0).1 = 11 := by
  unfold f_Q_annul at h
  exact (og_s h).1
theorem t_Q_annul (n : Nat) (x0 : Nat) (x1 : Int32) (M : MM) (z : Int32 × MM) (h : f_Q_annul n x0 x1 M = some z) : CT m_Q_annul (rm 2 0 0) [.ref x0, .int x1] M (some (.int z.1)) z.2 := by
  unfold f_Q_annul at h
  obtain ⟨hthis, h⟩ := og_s h
  refine CT.of (ls := [some (.ref x0), some (.int x1)]) rfl (okp rfl) rfl ?_
  refine e_aload_n d_Q_annul_0 rfl ?_
  obtain ⟨v1, hv1, h⟩ := bnd h
  refine e_getR d_Q_annul_1 fl_Q_93 (fun _ _ _ => rfl) hv1 ?_
  obtain ⟨p2, hp2, h⟩ := bnd h
  refine e_cVi (mt1 := m_Book_isFull) (As := []) (st := []) d_Q_annul_4 ml_Q_250 mv_Book_isFull (t_Book_isFull n v1 M p2 hp2) (fc_Book_isFull hp2) rfl rfl rfl (okp rfl) (okp rfl) (okp rfl) (Nat.le_refl _) (Nat.le_refl _) ?_
  refine e_if_ne 21 d_Q_annul_7 (by decide) (fun c3 => ?_) (fun c3 => ?_)
  · replace h := ifn c3 h
    refine e_iconst (v := (-1)) d_Q_annul_21 (by decide) ?_
    cases h
    exact e_iret d_Q_annul_22 rfl (Nat.le_refl _) (Nat.le_refl _)
  · replace h := ift c3 h
    refine e_aload_n d_Q_annul_10 rfl ?_
    obtain ⟨v4, hv4, h⟩ := bnd h
    refine e_getR d_Q_annul_11 fl_Q_93 (fun _ _ _ => rfl) hv4 ?_
    refine e_iload_n d_Q_annul_14 rfl ?_
    obtain ⟨p5, hp5, h⟩ := bnd h
    refine e_cVi (mt1 := m_Book_isClaim) (As := [.int x1]) (st := []) d_Q_annul_15 ml_Q_264 mv_Book_isClaim (t_Book_isClaim n v4 x1 p2.2 p5 hp5) (fc_Book_isClaim hp5) rfl rfl rfl (okp rfl) (okp rfl) (okp rfl) (Nat.le_refl _) (Nat.le_refl _) ?_
    refine e_if_ne 23 d_Q_annul_18 (by decide) (fun c6 => ?_) (fun c6 => ?_)
    · replace h := ifn c6 h
      refine e_aload_n d_Q_annul_23 rfl ?_
      obtain ⟨v7, hv7, h⟩ := bnd h
      refine e_getR d_Q_annul_24 fl_Q_93 (fun _ _ _ => rfl) hv7 ?_
      refine e_iload_n d_Q_annul_27 rfl ?_
      obtain ⟨p8, hp8, h⟩ := bnd h
      refine e_cVi (mt1 := m_Book_enterVoid) (As := [.int x1]) (st := []) d_Q_annul_28 ml_Q_267 mv_Book_enterVoid (t_Book_enterVoid n v7 x1 p5.2 p8 hp8) (fc_Book_enterVoid hp8) rfl rfl rfl (okp rfl) (okp rfl) (okp rfl) (Nat.le_refl _) (Nat.le_refl _) ?_
      cases h
      exact e_iret d_Q_annul_31 rfl (Nat.le_refl _) (Nat.le_refl _)
    · replace h := ift c6 h
      refine e_iconst (v := (-1)) d_Q_annul_21 (by decide) ?_
      cases h
      exact e_iret d_Q_annul_22 rfl (Nat.le_refl _) (Nat.le_refl _)
theorem d_Q_verdict_0 : DC m_Q_verdict 0 (.aload_n 0) 1 1 := ⟨by decide +kernel, rfl⟩
theorem d_Q_verdict_1 : DC m_Q_verdict 1 (.getfield 93) 3 4 := ⟨by decide +kernel, rfl⟩
theorem d_Q_verdict_4 : DC m_Q_verdict 4 (.iload_n 1) 1 5 := ⟨by decide +kernel, rfl⟩
theorem d_Q_verdict_5 : DC m_Q_verdict 5 (.invokevirtual 264) 3 8 := ⟨by decide +kernel, rfl⟩
theorem d_Q_verdict_8 : DC m_Q_verdict 8 (.ifCond .eq 15) 3 11 := ⟨by decide +kernel, rfl⟩
theorem d_Q_verdict_11 : DC m_Q_verdict 11 (.aload_n 0) 1 12 := ⟨by decide +kernel, rfl⟩
theorem d_Q_verdict_12 : DC m_Q_verdict 12 (.getfield 93) 3 15 := ⟨by decide +kernel, rfl⟩
theorem d_Q_verdict_15 : DC m_Q_verdict 15 (.getfield 270) 3 18 := ⟨by decide +kernel, rfl⟩
theorem d_Q_verdict_18 : DC m_Q_verdict 18 (.iload_n 1) 1 19 := ⟨by decide +kernel, rfl⟩
theorem d_Q_verdict_19 : DC m_Q_verdict 19 .iaload 1 20 := ⟨by decide +kernel, rfl⟩
theorem d_Q_verdict_20 : DC m_Q_verdict 20 (.goto 4) 3 23 := ⟨by decide +kernel, rfl⟩
theorem d_Q_verdict_23 : DC m_Q_verdict 23 (.iconst (-1)) 1 24 := ⟨by decide +kernel, rfl⟩
theorem d_Q_verdict_24 : DC m_Q_verdict 24 .ireturn 1 25 := ⟨by decide +kernel, rfl⟩
def f_Q_verdict (n : Nat) (x0 : Nat) (x1 : Int32) (M : MM) : Option (Int32 × MM) :=
  og 11 x0 M <|
  (gR 11 15 x0 M).bind fun v1 =>
  (f_Book_isClaim n v1 x1 M).bind fun p2 =>
  if p2.1 = 0 then
    some ((-1), p2.2)
  else
    (gR 11 15 x0 p2.2).bind fun v4 =>
    (gR 0 1 v4 p2.2).bind fun v5 =>
    (aI 100 v5 x1 p2.2).bind fun v6 =>
    some (v6, p2.2)
theorem fc_Q_verdict {n : Nat} {x0 : Nat} {x1 : Int32} {M : MM} {z : Int32 × MM} (h : f_Q_verdict n x0 x1 M = some z) : (M.1.2.1 x0).1 = 11 := by
  unfold f_Q_verdict at h
  exact (og_s h).1
theorem t_Q_verdict (n : Nat) (x0 : Nat) (x1 : Int32) (M : MM) (z : Int32 × MM) (h : f_Q_verdict n x0 x1 M = some z) : CT m_Q_verdict (rm 2 0 0) [.ref x0, .int x1] M (some (.int z.1)) z.2 := by
  unfold f_Q_verdict at h
  obtain ⟨hthis, h⟩ := og_s h
  refine CT.of (ls := [some (.ref x0), some (.int x1)]) rfl (okp rfl) rfl ?_
  refine e_aload_n d_Q_verdict_0 rfl ?_
  obtain ⟨v1, hv1, h⟩ := bnd h
  refine e_getR d_Q_verdict_1 fl_Q_93 (fun _ _ _ => rfl) hv1 ?_
  refine e_iload_n d_Q_verdict_4 rfl ?_
  obtain ⟨p2, hp2, h⟩ := bnd h
  refine e_cVi (mt1 := m_Book_isClaim) (As := [.int x1]) (st := []) d_Q_verdict_5 ml_Q_264 mv_Book_isClaim (t_Book_isClaim n v1 x1 M p2 hp2) (fc_Book_isClaim hp2) rfl rfl rfl (okp rfl) (okp rfl) (okp rfl) (Nat.le_refl _) (Nat.le_refl _) ?_
  refine e_if_eq 23 d_Q_verdict_8 (by decide) (fun c3 => ?_) (fun c3 => ?_)
  · replace h := ift c3 h
    refine e_iconst (v := (-1)) d_Q_verdict_23 (by decide) ?_
    cases h
    exact e_iret d_Q_verdict_24 rfl (Nat.le_refl _) (Nat.le_refl _)
  · replace h := ifn c3 h
    refine e_aload_n d_Q_verdict_11 rfl ?_
    obtain ⟨v4, hv4, h⟩ := bnd h
    refine e_getR d_Q_verdict_12 fl_Q_93 (fun _ _ _ => rfl) hv4 ?_
    obtain ⟨v5, hv5, h⟩ := bnd h
    refine e_getR d_Q_verdict_15 fl_Q_270 (fun _ _ _ => rfl) hv5 ?_
    refine e_iload_n d_Q_verdict_18 rfl ?_
    obtain ⟨v6, hv6, h⟩ := bnd h
    refine e_iald d_Q_verdict_19 hv6 ?_
    refine e_goto 24 d_Q_verdict_20 (by decide) ?_
    cases h
    exact e_iret d_Q_verdict_24 rfl (Nat.le_refl _) (Nat.le_refl _)
theorem d_Q_first_0 : DC m_Q_first 0 (.aload_n 0) 1 1 := ⟨by decide +kernel, rfl⟩
theorem d_Q_first_1 : DC m_Q_first 1 (.getfield 93) 3 4 := ⟨by decide +kernel, rfl⟩
theorem d_Q_first_4 : DC m_Q_first 4 (.iload_n 1) 1 5 := ⟨by decide +kernel, rfl⟩
theorem d_Q_first_5 : DC m_Q_first 5 (.invokevirtual 264) 3 8 := ⟨by decide +kernel, rfl⟩
theorem d_Q_first_8 : DC m_Q_first 8 (.ifCond .eq 30) 3 11 := ⟨by decide +kernel, rfl⟩
theorem d_Q_first_11 : DC m_Q_first 11 (.iload_n 2) 1 12 := ⟨by decide +kernel, rfl⟩
theorem d_Q_first_12 : DC m_Q_first 12 (.ifCond .lt 26) 3 15 := ⟨by decide +kernel, rfl⟩
theorem d_Q_first_15 : DC m_Q_first 15 (.iload_n 2) 1 16 := ⟨by decide +kernel, rfl⟩
theorem d_Q_first_16 : DC m_Q_first 16 (.aload_n 0) 1 17 := ⟨by decide +kernel, rfl⟩
theorem d_Q_first_17 : DC m_Q_first 17 (.getfield 93) 3 20 := ⟨by decide +kernel, rfl⟩
theorem d_Q_first_20 : DC m_Q_first 20 (.getfield 273) 3 23 := ⟨by decide +kernel, rfl⟩
theorem d_Q_first_23 : DC m_Q_first 23 (.if_icmp .gt 15) 3 26 := ⟨by decide +kernel, rfl⟩
theorem d_Q_first_26 : DC m_Q_first 26 (.aload_n 0) 1 27 := ⟨by decide +kernel, rfl⟩
theorem d_Q_first_27 : DC m_Q_first 27 (.getfield 93) 3 30 := ⟨by decide +kernel, rfl⟩
theorem d_Q_first_30 : DC m_Q_first 30 (.iload_n 1) 1 31 := ⟨by decide +kernel, rfl⟩
theorem d_Q_first_31 : DC m_Q_first 31 (.iload_n 2) 1 32 := ⟨by decide +kernel, rfl⟩
theorem d_Q_first_32 : DC m_Q_first 32 (.invokevirtual 276) 3 35 := ⟨by decide +kernel, rfl⟩
theorem d_Q_first_35 : DC m_Q_first 35 (.ifCond .ne 5) 3 38 := ⟨by decide +kernel, rfl⟩
theorem d_Q_first_38 : DC m_Q_first 38 (.iconst (-1)) 1 39 := ⟨by decide +kernel, rfl⟩
theorem d_Q_first_39 : DC m_Q_first 39 .ireturn 1 40 := ⟨by decide +kernel, rfl⟩
theorem d_Q_first_40 : DC m_Q_first 40 (.aload_n 0) 1 41 := ⟨by decide +kernel, rfl⟩
theorem d_Q_first_41 : DC m_Q_first 41 (.getfield 93) 3 44 := ⟨by decide +kernel, rfl⟩
theorem d_Q_first_44 : DC m_Q_first 44 (.iload_n 1) 1 45 := ⟨by decide +kernel, rfl⟩
theorem d_Q_first_45 : DC m_Q_first 45 (.iload_n 2) 1 46 := ⟨by decide +kernel, rfl⟩
theorem d_Q_first_46 : DC m_Q_first 46 (.invokevirtual 280) 3 49 := ⟨by decide +kernel, rfl⟩
theorem d_Q_first_49 : DC m_Q_first 49 .ireturn 1 50 := ⟨by decide +kernel, rfl⟩
def f_Q_first (n : Nat) (x0 : Nat) (x1 : Int32) (x2 : Int32) (M : MM) : Option (Int32 × MM) :=
  og 11 x0 M <|
  (gR 11 15 x0 M).bind fun v1 =>
  (f_Book_isClaim n v1 x1 M).bind fun p2 =>
  if p2.1 = 0 then
    some ((-1), p2.2)
  else
    if x2 < 0 then
      some ((-1), p2.2)
    else
      (gR 11 15 x0 p2.2).bind fun v5 =>
      (gI 0 0 v5 p2.2).bind fun v6 =>
      if v6 < x2 then
        some ((-1), p2.2)
      else
        (gR 11 15 x0 p2.2).bind fun v8 =>
        (f_Book_isKnownRight n v8 x1 x2 p2.2).bind fun p9 =>
        if p9.1 = 0 then
          some ((-1), p9.2)
        else
          (gR 11 15 x0 p9.2).bind fun v11 =>
          (f_Book_firstSame n v11 x1 x2 p9.2).bind fun p12 =>
          some (p12.1, p12.2)
theorem fc_Q_first {n : Nat} {x0 : Nat} {x1 : Int32} {x2 : Int32} {M : MM} {z : Int32 × MM} (h : f_Q_first n x0 x1 x2 M = some z) : (M.1.2.1 x0).1 = 11 := by
  unfold f_Q_first at h
  exact (og_s h).1
theorem t_Q_first (n : Nat) (x0 : Nat) (x1 : Int32) (x2 : Int32) (M : MM) (z : Int32 × MM) (h : f_Q_first n x0 x1 x2 M = some z) : CT m_Q_first (rm 4 0 0) [.ref x0, .int x1, .int x2] M (some (.int z.1)) z.2 := by
  unfold f_Q_first at h
  obtain ⟨hthis, h⟩ := og_s h
  refine CT.of (ls := [some (.ref x0), some (.int x1), some (.int x2)]) rfl (okp rfl) rfl ?_
  refine e_aload_n d_Q_first_0 rfl ?_
  obtain ⟨v1, hv1, h⟩ := bnd h
  refine e_getR d_Q_first_1 fl_Q_93 (fun _ _ _ => rfl) hv1 ?_
  refine e_iload_n d_Q_first_4 rfl ?_
  obtain ⟨p2, hp2, h⟩ := bnd h
  refine e_cVi (mt1 := m_Book_isClaim) (As := [.int x1]) (st := []) d_Q_first_5 ml_Q_264 mv_Book_isClaim (t_Book_isClaim n v1 x1 M p2 hp2) (fc_Book_isClaim hp2) rfl rfl rfl (okp rfl) (okp rfl) (okp rfl) (Nat.le_refl _) (Nat.le_refl _) ?_
  refine e_if_eq 38 d_Q_first_8 (by decide) (fun c3 => ?_) (fun c3 => ?_)
  · replace h := ift c3 h
    refine e_iconst (v := (-1)) d_Q_first_38 (by decide) ?_
    cases h
    exact e_iret d_Q_first_39 rfl (Nat.le_refl _) (Nat.le_refl _)
  · replace h := ifn c3 h
    refine e_iload_n d_Q_first_11 rfl ?_
    refine e_if_lt 38 d_Q_first_12 (by decide) (fun c4 => ?_) (fun c4 => ?_)
    · replace h := ift c4 h
      refine e_iconst (v := (-1)) d_Q_first_38 (by decide) ?_
      cases h
      exact e_iret d_Q_first_39 rfl (Nat.le_refl _) (Nat.le_refl _)
    · replace h := ifn c4 h
      refine e_iload_n d_Q_first_15 rfl ?_
      refine e_aload_n d_Q_first_16 rfl ?_
      obtain ⟨v5, hv5, h⟩ := bnd h
      refine e_getR d_Q_first_17 fl_Q_93 (fun _ _ _ => rfl) hv5 ?_
      obtain ⟨v6, hv6, h⟩ := bnd h
      refine e_getI d_Q_first_20 fl_Q_273 (fun _ _ _ => rfl) hv6 ?_
      refine e_ic_gt 38 d_Q_first_23 (by decide) (fun c7 => ?_) (fun c7 => ?_)
      · replace h := ift c7 h
        refine e_iconst (v := (-1)) d_Q_first_38 (by decide) ?_
        cases h
        exact e_iret d_Q_first_39 rfl (Nat.le_refl _) (Nat.le_refl _)
      · replace h := ifn c7 h
        refine e_aload_n d_Q_first_26 rfl ?_
        obtain ⟨v8, hv8, h⟩ := bnd h
        refine e_getR d_Q_first_27 fl_Q_93 (fun _ _ _ => rfl) hv8 ?_
        refine e_iload_n d_Q_first_30 rfl ?_
        refine e_iload_n d_Q_first_31 rfl ?_
        obtain ⟨p9, hp9, h⟩ := bnd h
        refine e_cVi (mt1 := m_Book_isKnownRight) (As := [.int x1, .int x2]) (st := []) d_Q_first_32 ml_Q_276 mv_Book_isKnownRight (t_Book_isKnownRight n v8 x1 x2 p2.2 p9 hp9) (fc_Book_isKnownRight hp9) rfl rfl rfl (okp rfl) (okp rfl) (okp rfl) (Nat.le_refl _) (Nat.le_refl _) ?_
        refine e_if_ne 40 d_Q_first_35 (by decide) (fun c10 => ?_) (fun c10 => ?_)
        · replace h := ifn c10 h
          refine e_aload_n d_Q_first_40 rfl ?_
          obtain ⟨v11, hv11, h⟩ := bnd h
          refine e_getR d_Q_first_41 fl_Q_93 (fun _ _ _ => rfl) hv11 ?_
          refine e_iload_n d_Q_first_44 rfl ?_
          refine e_iload_n d_Q_first_45 rfl ?_
          obtain ⟨p12, hp12, h⟩ := bnd h
          refine e_cVi (mt1 := m_Book_firstSame) (As := [.int x1, .int x2]) (st := []) d_Q_first_46 ml_Q_280 mv_Book_firstSame (t_Book_firstSame n v11 x1 x2 p9.2 p12 hp12) (fc_Book_firstSame hp12) rfl rfl rfl (okp rfl) (okp rfl) (okp rfl) (Nat.le_refl _) (Nat.le_refl _) ?_
          cases h
          exact e_iret d_Q_first_49 rfl (Nat.le_refl _) (Nat.le_refl _)
        · replace h := ift c10 h
          refine e_iconst (v := (-1)) d_Q_first_38 (by decide) ?_
          cases h
          exact e_iret d_Q_first_39 rfl (Nat.le_refl _) (Nat.le_refl _)
theorem d_Q_points_0 : DC m_Q_points 0 (.iload_n 1) 1 1 := ⟨by decide +kernel, rfl⟩
theorem d_Q_points_1 : DC m_Q_points 1 (.invokestatic 253) 3 4 := ⟨by decide +kernel, rfl⟩
theorem d_Q_points_4 : DC m_Q_points 4 (.ifCond .eq 18) 3 7 := ⟨by decide +kernel, rfl⟩
theorem d_Q_points_7 : DC m_Q_points 7 (.iload_n 2) 1 8 := ⟨by decide +kernel, rfl⟩
theorem d_Q_points_8 : DC m_Q_points 8 (.ifCond .lt 14) 3 11 := ⟨by decide +kernel, rfl⟩
theorem d_Q_points_11 : DC m_Q_points 11 (.iload_n 2) 1 12 := ⟨by decide +kernel, rfl⟩
theorem d_Q_points_12 : DC m_Q_points 12 (.aload_n 0) 1 13 := ⟨by decide +kernel, rfl⟩
theorem d_Q_points_13 : DC m_Q_points 13 (.getfield 93) 3 16 := ⟨by decide +kernel, rfl⟩
theorem d_Q_points_16 : DC m_Q_points 16 (.getfield 273) 3 19 := ⟨by decide +kernel, rfl⟩
theorem d_Q_points_19 : DC m_Q_points 19 (.if_icmp .le 5) 3 22 := ⟨by decide +kernel, rfl⟩
theorem d_Q_points_22 : DC m_Q_points 22 (.iconst (-1)) 1 23 := ⟨by decide +kernel, rfl⟩
theorem d_Q_points_23 : DC m_Q_points 23 .ireturn 1 24 := ⟨by decide +kernel, rfl⟩
theorem d_Q_points_24 : DC m_Q_points 24 (.aload_n 0) 1 25 := ⟨by decide +kernel, rfl⟩
theorem d_Q_points_25 : DC m_Q_points 25 (.getfield 93) 3 28 := ⟨by decide +kernel, rfl⟩
theorem d_Q_points_28 : DC m_Q_points 28 (.iload_n 1) 1 29 := ⟨by decide +kernel, rfl⟩
theorem d_Q_points_29 : DC m_Q_points 29 (.iload_n 2) 1 30 := ⟨by decide +kernel, rfl⟩
theorem d_Q_points_30 : DC m_Q_points 30 (.invokevirtual 283) 3 33 := ⟨by decide +kernel, rfl⟩
theorem d_Q_points_33 : DC m_Q_points 33 .ireturn 1 34 := ⟨by decide +kernel, rfl⟩
def f_Q_points (n : Nat) (x0 : Nat) (x1 : Int32) (x2 : Int32) (M : MM) : Option (Int32 × MM) :=
  og 11 x0 M <|
  (f_Q_isPlayer n x1 M).bind fun p1 =>
  if p1.1 = 0 then
    some ((-1), p1.2)
  else
    if x2 < 0 then
      some ((-1), p1.2)
    else
      (gR 11 15 x0 p1.2).bind fun v4 =>
      (gI 0 0 v4 p1.2).bind fun v5 =>
      if x2 ≤ v5 then
        (gR 11 15 x0 p1.2).bind fun v7 =>
        (f_Book_countPoints n v7 x1 x2 p1.2).bind fun p8 =>
        some (p8.1, p8.2)
      else
        some ((-1), p1.2)
theorem fc_Q_points {n : Nat} {x0 : Nat} {x1 : Int32} {x2 : Int32} {M : MM} {z : Int32 × MM} (h : f_Q_points n x0 x1 x2 M = some z) : (M.1.2.1 x0).1 = 11 := by
  unfold f_Q_points at h
  exact (og_s h).1
theorem t_Q_points (n : Nat) (x0 : Nat) (x1 : Int32) (x2 : Int32) (M : MM) (z : Int32 × MM) (h : f_Q_points n x0 x1 x2 M = some z) : CT m_Q_points (rm 5 0 0) [.ref x0, .int x1, .int x2] M (some (.int z.1)) z.2 := by
  unfold f_Q_points at h
  obtain ⟨hthis, h⟩ := og_s h
  refine CT.of (ls := [some (.ref x0), some (.int x1), some (.int x2)]) rfl (okp rfl) rfl ?_
  refine e_iload_n d_Q_points_0 rfl ?_
  obtain ⟨p1, hp1, h⟩ := bnd h
  refine e_cSi (mt1 := m_Q_isPlayer) (As := [.int x1]) (st := []) d_Q_points_1 ml_Q_253 ms_Q_isPlayer (t_Q_isPlayer n x1 M p1 hp1) rfl rfl (okp rfl) (okp rfl) (okp rfl) (Nat.le_refl _) (Nat.le_refl _) ?_
  refine e_if_eq 22 d_Q_points_4 (by decide) (fun c2 => ?_) (fun c2 => ?_)
  · replace h := ift c2 h
    refine e_iconst (v := (-1)) d_Q_points_22 (by decide) ?_
    cases h
    exact e_iret d_Q_points_23 rfl (Nat.le_refl _) (Nat.le_refl _)
  · replace h := ifn c2 h
    refine e_iload_n d_Q_points_7 rfl ?_
    refine e_if_lt 22 d_Q_points_8 (by decide) (fun c3 => ?_) (fun c3 => ?_)
    · replace h := ift c3 h
      refine e_iconst (v := (-1)) d_Q_points_22 (by decide) ?_
      cases h
      exact e_iret d_Q_points_23 rfl (Nat.le_refl _) (Nat.le_refl _)
    · replace h := ifn c3 h
      refine e_iload_n d_Q_points_11 rfl ?_
      refine e_aload_n d_Q_points_12 rfl ?_
      obtain ⟨v4, hv4, h⟩ := bnd h
      refine e_getR d_Q_points_13 fl_Q_93 (fun _ _ _ => rfl) hv4 ?_
      obtain ⟨v5, hv5, h⟩ := bnd h
      refine e_getI d_Q_points_16 fl_Q_273 (fun _ _ _ => rfl) hv5 ?_
      refine e_ic_le 24 d_Q_points_19 (by decide) (fun c6 => ?_) (fun c6 => ?_)
      · replace h := ift c6 h
        refine e_aload_n d_Q_points_24 rfl ?_
        obtain ⟨v7, hv7, h⟩ := bnd h
        refine e_getR d_Q_points_25 fl_Q_93 (fun _ _ _ => rfl) hv7 ?_
        refine e_iload_n d_Q_points_28 rfl ?_
        refine e_iload_n d_Q_points_29 rfl ?_
        obtain ⟨p8, hp8, h⟩ := bnd h
        refine e_cVi (mt1 := m_Book_countPoints) (As := [.int x1, .int x2]) (st := []) d_Q_points_30 ml_Q_283 mv_Book_countPoints (t_Book_countPoints n v7 x1 x2 p1.2 p8 hp8) (fc_Book_countPoints hp8) rfl rfl rfl (okp rfl) (okp rfl) (okp rfl) (Nat.le_refl _) (Nat.le_refl _) ?_
        cases h
        exact e_iret d_Q_points_33 rfl (Nat.le_refl _) (Nat.le_refl _)
      · replace h := ifn c6 h
        refine e_iconst (v := (-1)) d_Q_points_22 (by decide) ?_
        cases h
        exact e_iret d_Q_points_23 rfl (Nat.le_refl _) (Nat.le_refl _)
theorem d_Q_count_0 : DC m_Q_count 0 (.iload_n 1) 1 1 := ⟨by decide +kernel, rfl⟩
theorem d_Q_count_1 : DC m_Q_count 1 (.tableswitch 66 0 4 #[35, 40, 45, 53, 61]) 35 36 := ⟨by decide +kernel, rfl⟩
theorem d_Q_count_36 : DC m_Q_count 36 (.aload_n 0) 1 37 := ⟨by decide +kernel, rfl⟩
theorem d_Q_count_37 : DC m_Q_count 37 (.getfield 63) 3 40 := ⟨by decide +kernel, rfl⟩
theorem d_Q_count_40 : DC m_Q_count 40 .ireturn 1 41 := ⟨by decide +kernel, rfl⟩
theorem d_Q_count_41 : DC m_Q_count 41 (.aload_n 0) 1 42 := ⟨by decide +kernel, rfl⟩
theorem d_Q_count_42 : DC m_Q_count 42 (.getfield 66) 3 45 := ⟨by decide +kernel, rfl⟩
theorem d_Q_count_45 : DC m_Q_count 45 .ireturn 1 46 := ⟨by decide +kernel, rfl⟩
theorem d_Q_count_46 : DC m_Q_count 46 (.aload_n 0) 1 47 := ⟨by decide +kernel, rfl⟩
theorem d_Q_count_47 : DC m_Q_count 47 (.getfield 86) 3 50 := ⟨by decide +kernel, rfl⟩
theorem d_Q_count_50 : DC m_Q_count 50 (.invokevirtual 238) 3 53 := ⟨by decide +kernel, rfl⟩
theorem d_Q_count_53 : DC m_Q_count 53 .ireturn 1 54 := ⟨by decide +kernel, rfl⟩
theorem d_Q_count_54 : DC m_Q_count 54 (.aload_n 0) 1 55 := ⟨by decide +kernel, rfl⟩
theorem d_Q_count_55 : DC m_Q_count 55 (.getfield 93) 3 58 := ⟨by decide +kernel, rfl⟩
theorem d_Q_count_58 : DC m_Q_count 58 (.getfield 273) 3 61 := ⟨by decide +kernel, rfl⟩
theorem d_Q_count_61 : DC m_Q_count 61 .ireturn 1 62 := ⟨by decide +kernel, rfl⟩
theorem d_Q_count_62 : DC m_Q_count 62 (.aload_n 0) 1 63 := ⟨by decide +kernel, rfl⟩
theorem d_Q_count_63 : DC m_Q_count 63 (.getfield 13) 3 66 := ⟨by decide +kernel, rfl⟩
theorem d_Q_count_66 : DC m_Q_count 66 .ireturn 1 67 := ⟨by decide +kernel, rfl⟩
theorem d_Q_count_67 : DC m_Q_count 67 (.iconst (-1)) 1 68 := ⟨by decide +kernel, rfl⟩
theorem d_Q_count_68 : DC m_Q_count 68 .ireturn 1 69 := ⟨by decide +kernel, rfl⟩
def f_Q_count (n : Nat) (x0 : Nat) (x1 : Int32) (M : MM) : Option (Int32 × MM) :=
  og 11 x0 M <|
  if x1 = 0 then
    (gI 11 5 x0 M).bind fun v2 =>
    some (v2, M)
  else
    if x1 = 1 then
      (gI 11 6 x0 M).bind fun v4 =>
      some (v4, M)
    else
      if x1 = 2 then
        (gR 11 14 x0 M).bind fun v6 =>
        (f_Table_countLays n v6 M).bind fun p7 =>
        some (p7.1, p7.2)
      else
        if x1 = 3 then
          (gR 11 15 x0 M).bind fun v9 =>
          (gI 0 0 v9 M).bind fun v10 =>
          some (v10, M)
        else
          if x1 = 4 then
            (gI 11 1 x0 M).bind fun v12 =>
            some (v12, M)
          else
            some ((-1), M)
theorem fc_Q_count {n : Nat} {x0 : Nat} {x1 : Int32} {M : MM} {z : Int32 × MM} (h : f_Q_count n x0 x1 M = some z) : (M.1.2.1 x0).1 = 11 := by
  unfold f_Q_count at h
  exact (og_s h).1
theorem t_Q_count (n : Nat) (x0 : Nat) (x1 : Int32) (M : MM) (z : Int32 × MM) (h : f_Q_count n x0 x1 M = some z) : CT m_Q_count (rm 4 0 0) [.ref x0, .int x1] M (some (.int z.1)) z.2 := by
  unfold f_Q_count at h
  obtain ⟨hthis, h⟩ := og_s h
  refine CT.of (ls := [some (.ref x0), some (.int x1)]) rfl (okp rfl) rfl ?_
  refine e_iload_n d_Q_count_0 rfl ?_
  by_cases c1 : x1 = 0
  · replace h := ift c1 h
    refine e_tabEq 36 d_Q_count_1 c1 (by decide) (by decide) rfl (by decide) ?_
    refine e_aload_n d_Q_count_36 rfl ?_
    obtain ⟨v2, hv2, h⟩ := bnd h
    refine e_getI d_Q_count_37 fl_Q_63 (fun _ _ _ => rfl) hv2 ?_
    cases h
    exact e_iret d_Q_count_40 rfl (Nat.le_refl _) (Nat.le_refl _)
  · replace h := ifn c1 h
    by_cases c3 : x1 = 1
    · replace h := ift c3 h
      refine e_tabEq 41 d_Q_count_1 c3 (by decide) (by decide) rfl (by decide) ?_
      refine e_aload_n d_Q_count_41 rfl ?_
      obtain ⟨v4, hv4, h⟩ := bnd h
      refine e_getI d_Q_count_42 fl_Q_66 (fun _ _ _ => rfl) hv4 ?_
      cases h
      exact e_iret d_Q_count_45 rfl (Nat.le_refl _) (Nat.le_refl _)
    · replace h := ifn c3 h
      by_cases c5 : x1 = 2
      · replace h := ift c5 h
        refine e_tabEq 46 d_Q_count_1 c5 (by decide) (by decide) rfl (by decide) ?_
        refine e_aload_n d_Q_count_46 rfl ?_
        obtain ⟨v6, hv6, h⟩ := bnd h
        refine e_getR d_Q_count_47 fl_Q_86 (fun _ _ _ => rfl) hv6 ?_
        obtain ⟨p7, hp7, h⟩ := bnd h
        refine e_cVi (mt1 := m_Table_countLays) (As := []) (st := []) d_Q_count_50 ml_Q_238 mv_Table_countLays (t_Table_countLays n v6 M p7 hp7) (fc_Table_countLays hp7) rfl rfl rfl (okp rfl) (okp rfl) (okp rfl) (Nat.le_refl _) (Nat.le_refl _) ?_
        cases h
        exact e_iret d_Q_count_53 rfl (Nat.le_refl _) (Nat.le_refl _)
      · replace h := ifn c5 h
        by_cases c8 : x1 = 3
        · replace h := ift c8 h
          refine e_tabEq 54 d_Q_count_1 c8 (by decide) (by decide) rfl (by decide) ?_
          refine e_aload_n d_Q_count_54 rfl ?_
          obtain ⟨v9, hv9, h⟩ := bnd h
          refine e_getR d_Q_count_55 fl_Q_93 (fun _ _ _ => rfl) hv9 ?_
          obtain ⟨v10, hv10, h⟩ := bnd h
          refine e_getI d_Q_count_58 fl_Q_273 (fun _ _ _ => rfl) hv10 ?_
          cases h
          exact e_iret d_Q_count_61 rfl (Nat.le_refl _) (Nat.le_refl _)
        · replace h := ifn c8 h
          by_cases c11 : x1 = 4
          · replace h := ift c11 h
            refine e_tabEq 62 d_Q_count_1 c11 (by decide) (by decide) rfl (by decide) ?_
            refine e_aload_n d_Q_count_62 rfl ?_
            obtain ⟨v12, hv12, h⟩ := bnd h
            refine e_getI d_Q_count_63 fl_Q_13 (fun _ _ _ => rfl) hv12 ?_
            cases h
            exact e_iret d_Q_count_66 rfl (Nat.le_refl _) (Nat.le_refl _)
          · replace h := ifn c11 h
            refine e_tabOut 67 d_Q_count_1 (tab_o 0 5 [0, 1, 2, 3, 4] (by decide) (by decide) (by decide) (fa_c c1 (fa_c c3 (fa_c c5 (fa_c c8 (fa_c c11 fa_n)))))) (by decide) ?_
            refine e_iconst (v := (-1)) d_Q_count_67 (by decide) ?_
            cases h
            exact e_iret d_Q_count_68 rfl (Nat.le_refl _) (Nat.le_refl _)
