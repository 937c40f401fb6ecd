theorem d_Filler_forget_0 : DC m_Filler_forget 0 (.aload_n 0) 1 1 := ⟨by decide +kernel, rfl⟩
theorem d_Filler_forget_1 : DC m_Filler_forget 1 (.iconst 0) 1 2 := ⟨by decide +kernel, rfl⟩
theorem d_Filler_forget_2 : DC m_Filler_forget 2 (.putfield 48) 3 5 := ⟨by decide +kernel, rfl⟩
theorem d_Filler_forget_5 : DC m_Filler_forget 5 .return_ 1 6 := ⟨by decide +kernel, rfl⟩
def f_Filler_forget (n : Nat) (x0 : Nat) (M : MM) : Option (MM) :=
  og 3 x0 M <|
  (pI 3 9 x0 0 M).bind fun M1 =>
  some M1
theorem fc_Filler_forget {n : Nat} {x0 : Nat} {M : MM} {z : MM} (h : f_Filler_forget n x0 M = some z) : (M.1.2.1 x0).1 = 3 := by
  unfold f_Filler_forget at h
  exact (og_s h).1
theorem t_Filler_forget (n : Nat) (x0 : Nat) (M : MM) (z : MM) (h : f_Filler_forget n x0 M = some z) : CT m_Filler_forget (rm 1 0 0) [.ref x0] M none z := by
  unfold f_Filler_forget at h
  obtain ⟨hthis, h⟩ := og_s h
  refine CT.of (ls := [some (.ref x0)]) rfl (okp rfl) rfl ?_
  refine e_aload_n d_Filler_forget_0 rfl ?_
  refine e_iconst (v := 0) d_Filler_forget_1 (by decide) ?_
  obtain ⟨M1, hM1, h⟩ := bnd h
  refine e_putI d_Filler_forget_2 fl_Filler_48 (Or.inl rfl) (fun _ _ _ => rfl) rfl hM1 ?_
  cases h
  exact e_vret d_Filler_forget_5 rfl (Nat.le_refl _) (Nat.le_refl _)
theorem d_Filler_forgetSets_0 : DC m_Filler_forgetSets 0 (.iconst 0) 1 1 := ⟨by decide +kernel, rfl⟩
theorem d_Filler_forgetSets_1 : DC m_Filler_forgetSets 1 (.istore_n 1) 1 2 := ⟨by decide +kernel, rfl⟩
theorem d_Filler_forgetSets_2 : DC m_Filler_forgetSets 2 (.iload_n 1) 1 3 := ⟨by decide +kernel, rfl⟩
theorem d_Filler_forgetSets_3 : DC m_Filler_forgetSets 3 (.bipush 6) 2 5 := ⟨by decide +kernel, rfl⟩
theorem d_Filler_forgetSets_5 : DC m_Filler_forgetSets 5 (.if_icmp .ge 17) 3 8 := ⟨by decide +kernel, rfl⟩
theorem d_Filler_forgetSets_8 : DC m_Filler_forgetSets 8 (.aload_n 0) 1 9 := ⟨by decide +kernel, rfl⟩
theorem d_Filler_forgetSets_9 : DC m_Filler_forgetSets 9 (.getfield 51) 3 12 := ⟨by decide +kernel, rfl⟩
theorem d_Filler_forgetSets_12 : DC m_Filler_forgetSets 12 (.iload_n 1) 1 13 := ⟨by decide +kernel, rfl⟩
theorem d_Filler_forgetSets_13 : DC m_Filler_forgetSets 13 (.bipush (-3)) 2 15 := ⟨by decide +kernel, rfl⟩
theorem d_Filler_forgetSets_15 : DC m_Filler_forgetSets 15 .iastore 1 16 := ⟨by decide +kernel, rfl⟩
theorem d_Filler_forgetSets_16 : DC m_Filler_forgetSets 16 (.iinc 1 1) 3 19 := ⟨by decide +kernel, rfl⟩
theorem d_Filler_forgetSets_19 : DC m_Filler_forgetSets 19 (.goto (-17)) 3 22 := ⟨by decide +kernel, rfl⟩
theorem d_Filler_forgetSets_22 : DC m_Filler_forgetSets 22 .return_ 1 23 := ⟨by decide +kernel, rfl⟩
def f_Filler_forgetSets_2 (n : Nat) : Nat → Nat → Int32 → MM → Option (MM)
  | 0, _, _, _ => none
  | m + 1, x0, x1, M =>
    if 6 ≤ x1 then
      some M
    else
      (gR 3 10 x0 M).bind fun v2 =>
      (sI 100 v2 x1 (-3) M).bind fun M3 =>
      f_Filler_forgetSets_2 n m x0 (x1 + 1) M3
theorem t_Filler_forgetSets_2 (n : Nat) : ∀ (m : Nat) (x0 : Nat) (x1 : Int32) (M : MM) (z : MM), f_Filler_forgetSets_2 n m x0 x1 M = some z → EV m_Filler_forgetSets (rm 1 0 0) none z 0 0 2 [some (.ref x0), some (.int x1)] [] M := by
  intro m
  induction m with
  | zero => intro x0 x1 M z h; cases h
  | succ m ih =>
    intro x0 x1 M z h
    rw [f_Filler_forgetSets_2] at h
    refine e_iload_n d_Filler_forgetSets_2 rfl ?_
    refine e_bipush (v := 6) d_Filler_forgetSets_3 (by decide) ?_
    refine e_ic_ge 22 d_Filler_forgetSets_5 (by decide) (fun c1 => ?_) (fun c1 => ?_)
    · replace h := ift c1 h
      cases h
      exact e_vret d_Filler_forgetSets_22 rfl (Nat.le_refl _) (Nat.le_refl _)
    · replace h := ifn c1 h
      refine e_aload_n d_Filler_forgetSets_8 rfl ?_
      obtain ⟨v2, hv2, h⟩ := bnd h
      refine e_getR d_Filler_forgetSets_9 fl_Filler_51 (fun _ _ _ => rfl) hv2 ?_
      refine e_iload_n d_Filler_forgetSets_12 rfl ?_
      refine e_bipush (v := (-3)) d_Filler_forgetSets_13 (by decide) ?_
      obtain ⟨M3, hM3, h⟩ := bnd h
      refine e_iast d_Filler_forgetSets_15 hM3 ?_
      refine e_iinc (v := x1 + 1) (l2 := [some (.ref x0), some (.int (x1 + 1))]) d_Filler_forgetSets_16 rfl rfl rfl (okl rfl) rfl ?_
      refine e_goto 2 d_Filler_forgetSets_19 (by decide) ?_
      exact (ih x0 (x1 + 1) M3 z h).less (show LSub _ _ from ⟨rfl, ⟨rfl, trivial⟩⟩)
def f_Filler_forgetSets (n : Nat) (x0 : Nat) (M : MM) : Option (MM) :=
  og 3 x0 M <|
  f_Filler_forgetSets_2 n n x0 0 M
theorem fc_Filler_forgetSets {n : Nat} {x0 : Nat} {M : MM} {z : MM} (h : f_Filler_forgetSets n x0 M = some z) : (M.1.2.1 x0).1 = 3 := by
  unfold f_Filler_forgetSets at h
  exact (og_s h).1
theorem t_Filler_forgetSets (n : Nat) (x0 : Nat) (M : MM) (z : MM) (h : f_Filler_forgetSets n x0 M = some z) : CT m_Filler_forgetSets (rm 1 0 0) [.ref x0] M none z := by
  unfold f_Filler_forgetSets at h
  obtain ⟨hthis, h⟩ := og_s h
  refine CT.of (ls := [some (.ref x0), none]) rfl (okp rfl) rfl ?_
  refine e_iconst (v := 0) d_Filler_forgetSets_0 (by decide) ?_
  refine e_istore_n (l2 := [some (.ref x0), some (.int 0)]) d_Filler_forgetSets_1 rfl (okl rfl) rfl ?_
  exact (t_Filler_forgetSets_2 n n x0 0 M z h).less (show LSub _ _ from ⟨rfl, ⟨rfl, trivial⟩⟩)
theorem d_Filler_areaOf_0 : DC m_Filler_areaOf 0 (.iconst 0) 1 1 := ⟨by decide +kernel, rfl⟩
theorem d_Filler_areaOf_1 : DC m_Filler_areaOf 1 (.istore_n 2) 1 2 := ⟨by decide +kernel, rfl⟩
theorem d_Filler_areaOf_2 : DC m_Filler_areaOf 2 (.iconst 0) 1 3 := ⟨by decide +kernel, rfl⟩
theorem d_Filler_areaOf_3 : DC m_Filler_areaOf 3 (.istore_n 3) 1 4 := ⟨by decide +kernel, rfl⟩
theorem d_Filler_areaOf_4 : DC m_Filler_areaOf 4 (.iload_n 3) 1 5 := ⟨by decide +kernel, rfl⟩
theorem d_Filler_areaOf_5 : DC m_Filler_areaOf 5 (.bipush 8) 2 7 := ⟨by decide +kernel, rfl⟩
theorem d_Filler_areaOf_7 : DC m_Filler_areaOf 7 (.if_icmp .ge 33) 3 10 := ⟨by decide +kernel, rfl⟩
theorem d_Filler_areaOf_10 : DC m_Filler_areaOf 10 (.iload_n 2) 1 11 := ⟨by decide +kernel, rfl⟩
theorem d_Filler_areaOf_11 : DC m_Filler_areaOf 11 (.iload_n 1) 1 12 := ⟨by decide +kernel, rfl⟩
theorem d_Filler_areaOf_12 : DC m_Filler_areaOf 12 (.iload_n 3) 1 13 := ⟨by decide +kernel, rfl⟩
theorem d_Filler_areaOf_13 : DC m_Filler_areaOf 13 .iushr 1 14 := ⟨by decide +kernel, rfl⟩
theorem d_Filler_areaOf_14 : DC m_Filler_areaOf 14 (.iconst 1) 1 15 := ⟨by decide +kernel, rfl⟩
theorem d_Filler_areaOf_15 : DC m_Filler_areaOf 15 .iand 1 16 := ⟨by decide +kernel, rfl⟩
theorem d_Filler_areaOf_16 : DC m_Filler_areaOf 16 (.ifCond .eq 15) 3 19 := ⟨by decide +kernel, rfl⟩
theorem d_Filler_areaOf_19 : DC m_Filler_areaOf 19 (.aload_n 0) 1 20 := ⟨by decide +kernel, rfl⟩
theorem d_Filler_areaOf_20 : DC m_Filler_areaOf 20 (.getfield 13) 3 23 := ⟨by decide +kernel, rfl⟩
theorem d_Filler_areaOf_23 : DC m_Filler_areaOf 23 (.iload_n 3) 1 24 := ⟨by decide +kernel, rfl⟩
theorem d_Filler_areaOf_24 : DC m_Filler_areaOf 24 .aaload 1 25 := ⟨by decide +kernel, rfl⟩
theorem d_Filler_areaOf_25 : DC m_Filler_areaOf 25 (.getfield 80) 3 28 := ⟨by decide +kernel, rfl⟩
theorem d_Filler_areaOf_28 : DC m_Filler_areaOf 28 (.goto 4) 3 31 := ⟨by decide +kernel, rfl⟩
theorem d_Filler_areaOf_31 : DC m_Filler_areaOf 31 (.iconst 0) 1 32 := ⟨by decide +kernel, rfl⟩
theorem d_Filler_areaOf_32 : DC m_Filler_areaOf 32 .iadd 1 33 := ⟨by decide +kernel, rfl⟩
theorem d_Filler_areaOf_33 : DC m_Filler_areaOf 33 (.istore_n 2) 1 34 := ⟨by decide +kernel, rfl⟩
theorem d_Filler_areaOf_34 : DC m_Filler_areaOf 34 (.iinc 3 1) 3 37 := ⟨by decide +kernel, rfl⟩
theorem d_Filler_areaOf_37 : DC m_Filler_areaOf 37 (.goto (-33)) 3 40 := ⟨by decide +kernel, rfl⟩
theorem d_Filler_areaOf_40 : DC m_Filler_areaOf 40 (.iload_n 2) 1 41 := ⟨by decide +kernel, rfl⟩
theorem d_Filler_areaOf_41 : DC m_Filler_areaOf 41 .ireturn 1 42 := ⟨by decide +kernel, rfl⟩
def f_Filler_areaOf_32 (n : Nat) (k_4 : Nat → Int32 → Int32 → Int32 → MM → Option (Int32 × MM)) (x0 : Nat) (x1 : Int32) (x3 : Int32) (s0 : Int32) (s1 : Int32) (M : MM) : Option (Int32 × MM) :=
  nm (α := Int32) (s0 + s1) fun y1 =>
  k_4 x0 x1 y1 (x3 + 1) M
theorem t_Filler_areaOf_32 (n : Nat) {k_4 : Nat → Int32 → Int32 → Int32 → MM → Option (Int32 × MM)} (hk_4 : ∀ (x0 : Nat) (x1 : Int32) (x2 : Int32) (x3 : Int32) (M : MM) (z : Int32 × MM), k_4 x0 x1 x2 x3 M = some z → EV m_Filler_areaOf (rm 1 0 0) (some (.int z.1)) z.2 0 0 4 [some (.ref x0), some (.int x1), some (.int x2), some (.int x3)] [] M) (x0 : Nat) (x1 : Int32) (x3 : Int32) (s0 : Int32) (s1 : Int32) (M : MM) (z : Int32 × MM) (h : f_Filler_areaOf_32 n k_4 x0 x1 x3 s0 s1 M = some z) : EV m_Filler_areaOf (rm 1 0 0) (some (.int z.1)) z.2 0 0 32 [some (.ref x0), some (.int x1), none, some (.int x3)] [.int s1, .int s0] M := by
  unfold f_Filler_areaOf_32 at h
  refine e_iadd d_Filler_areaOf_32 ?_
  obtain ⟨y1, ey1, h⟩ := nm_s h
  refine e_nameI ey1 ?_
  refine e_istore_n (l2 := [some (.ref x0), some (.int x1), some (.int y1), some (.int x3)]) d_Filler_areaOf_33 rfl (okl rfl) rfl ?_
  refine e_iinc (v := x3 + 1) (l2 := [some (.ref x0), some (.int x1), some (.int y1), some (.int (x3 + 1))]) d_Filler_areaOf_34 rfl rfl rfl (okl rfl) rfl ?_
  refine e_goto 4 d_Filler_areaOf_37 (by decide) ?_
  exact (hk_4 x0 x1 y1 (x3 + 1) M z h).less (show LSub _ _ from ⟨rfl, ⟨rfl, ⟨rfl, ⟨rfl, trivial⟩⟩⟩⟩)
def f_Filler_areaOf_4 (n : Nat) : Nat → Nat → Int32 → Int32 → Int32 → MM → Option (Int32 × MM)
  | 0, _, _, _, _, _ => none
  | m + 1, x0, x1, x2, x3, M =>
    if 8 ≤ x3 then
      some (x2, M)
    else
      if ((ushr x1 x3) &&& 1) = 0 then
        f_Filler_areaOf_32 n (f_Filler_areaOf_4 n m) x0 x1 x3 x2 0 M
      else
        (gR 3 1 x0 M).bind fun v4 =>
        (aR 105 v4 x3 M).bind fun v5 =>
        (gI 4 6 v5 M).bind fun v6 =>
        f_Filler_areaOf_32 n (f_Filler_areaOf_4 n m) x0 x1 x3 x2 v6 M
theorem t_Filler_areaOf_4 (n : Nat) : ∀ (m : Nat) (x0 : Nat) (x1 : Int32) (x2 : Int32) (x3 : Int32) (M : MM) (z : Int32 × MM), f_Filler_areaOf_4 n m x0 x1 x2 x3 M = some z → EV m_Filler_areaOf (rm 1 0 0) (some (.int z.1)) z.2 0 0 4 [some (.ref x0), some (.int x1), some (.int x2), some (.int x3)] [] M := by
  intro m
  induction m with
  | zero => intro x0 x1 x2 x3 M z h; cases h
  | succ m ih =>
    intro x0 x1 x2 x3 M z h
    rw [f_Filler_areaOf_4] at h
    refine e_iload_n d_Filler_areaOf_4 rfl ?_
    refine e_bipush (v := 8) d_Filler_areaOf_5 (by decide) ?_
    refine e_ic_ge 40 d_Filler_areaOf_7 (by decide) (fun c2 => ?_) (fun c2 => ?_)
    · replace h := ift c2 h
      refine e_iload_n d_Filler_areaOf_40 rfl ?_
      cases h
      exact e_iret d_Filler_areaOf_41 rfl (Nat.le_refl _) (Nat.le_refl _)
    · replace h := ifn c2 h
      refine e_iload_n d_Filler_areaOf_10 rfl ?_
      refine e_iload_n d_Filler_areaOf_11 rfl ?_
      refine e_iload_n d_Filler_areaOf_12 rfl ?_
      refine e_iushr d_Filler_areaOf_13 ?_
      refine e_iconst (v := 1) d_Filler_areaOf_14 (by decide) ?_
      refine e_iand d_Filler_areaOf_15 ?_
      refine e_if_eq 31 d_Filler_areaOf_16 (by decide) (fun c3 => ?_) (fun c3 => ?_)
      · replace h := ift c3 h
        refine e_iconst (v := 0) d_Filler_areaOf_31 (by decide) ?_
        exact (t_Filler_areaOf_32 n ih x0 x1 x3 x2 0 M z h).less (show LSub _ _ from ⟨rfl, ⟨rfl, ⟨rfl, trivial⟩⟩⟩)
      · replace h := ifn c3 h
        refine e_aload_n d_Filler_areaOf_19 rfl ?_
        obtain ⟨v4, hv4, h⟩ := bnd h
        refine e_getR d_Filler_areaOf_20 fl_Filler_13 (fun _ _ _ => rfl) hv4 ?_
        refine e_iload_n d_Filler_areaOf_23 rfl ?_
        obtain ⟨v5, hv5, h⟩ := bnd h
        refine e_aald (kd := 105) d_Filler_areaOf_24 (by decide) hv5 ?_
        obtain ⟨v6, hv6, h⟩ := bnd h
        refine e_getI d_Filler_areaOf_25 fl_Filler_80 (fun _ _ _ => rfl) hv6 ?_
        refine e_goto 32 d_Filler_areaOf_28 (by decide) ?_
        exact (t_Filler_areaOf_32 n ih x0 x1 x3 x2 v6 M z h).less (show LSub _ _ from ⟨rfl, ⟨rfl, ⟨rfl, trivial⟩⟩⟩)
def f_Filler_areaOf (n : Nat) (x0 : Nat) (x1 : Int32) (M : MM) : Option (Int32 × MM) :=
  og 3 x0 M <|
  f_Filler_areaOf_4 n n x0 x1 0 0 M
theorem fc_Filler_areaOf {n : Nat} {x0 : Nat} {x1 : Int32} {M : MM} {z : Int32 × MM} (h : f_Filler_areaOf n x0 x1 M = some z) : (M.1.2.1 x0).1 = 3 := by
  unfold f_Filler_areaOf at h
  exact (og_s h).1
theorem t_Filler_areaOf (n : Nat) (x0 : Nat) (x1 : Int32) (M : MM) (z : Int32 × MM) (h : f_Filler_areaOf n x0 x1 M = some z) : CT m_Filler_areaOf (rm 1 0 0) [.ref x0, .int x1] M (some (.int z.1)) z.2 := by
  unfold f_Filler_areaOf at h
  obtain ⟨hthis, h⟩ := og_s h
  refine CT.of (ls := [some (.ref x0), some (.int x1), none, none]) rfl (okp rfl) rfl ?_
  refine e_iconst (v := 0) d_Filler_areaOf_0 (by decide) ?_
  refine e_istore_n (l2 := [some (.ref x0), some (.int x1), some (.int 0), none]) d_Filler_areaOf_1 rfl (okl rfl) rfl ?_
  refine e_iconst (v := 0) d_Filler_areaOf_2 (by decide) ?_
  refine e_istore_n (l2 := [some (.ref x0), some (.int x1), some (.int 0), some (.int 0)]) d_Filler_areaOf_3 rfl (okl rfl) rfl ?_
  exact (t_Filler_areaOf_4 n n x0 x1 0 0 M z h).less (show LSub _ _ from ⟨rfl, ⟨rfl, ⟨rfl, ⟨rfl, trivial⟩⟩⟩⟩)
theorem d_Filler_countWay_0 : DC m_Filler_countWay 0 (.aload_n 0) 1 1 := ⟨by decide +kernel, rfl⟩
theorem d_Filler_countWay_1 : DC m_Filler_countWay 1 .dup 1 2 := ⟨by decide +kernel, rfl⟩
theorem d_Filler_countWay_2 : DC m_Filler_countWay 2 (.getfield 38) 3 5 := ⟨by decide +kernel, rfl⟩
theorem d_Filler_countWay_5 : DC m_Filler_countWay 5 (.iconst 1) 1 6 := ⟨by decide +kernel, rfl⟩
theorem d_Filler_countWay_6 : DC m_Filler_countWay 6 .iadd 1 7 := ⟨by decide +kernel, rfl⟩
theorem d_Filler_countWay_7 : DC m_Filler_countWay 7 (.putfield 38) 3 10 := ⟨by decide +kernel, rfl⟩
theorem d_Filler_countWay_10 : DC m_Filler_countWay 10 (.aload_n 0) 1 11 := ⟨by decide +kernel, rfl⟩
theorem d_Filler_countWay_11 : DC m_Filler_countWay 11 (.getfield 38) 3 14 := ⟨by decide +kernel, rfl⟩
theorem d_Filler_countWay_14 : DC m_Filler_countWay 14 (.iconst 1) 1 15 := ⟨by decide +kernel, rfl⟩
theorem d_Filler_countWay_15 : DC m_Filler_countWay 15 (.if_icmp .ne 25) 3 18 := ⟨by decide +kernel, rfl⟩
theorem d_Filler_countWay_18 : DC m_Filler_countWay 18 (.aload_n 0) 1 19 := ⟨by decide +kernel, rfl⟩
theorem d_Filler_countWay_19 : DC m_Filler_countWay 19 (.getfield 28) 3 22 := ⟨by decide +kernel, rfl⟩
theorem d_Filler_countWay_22 : DC m_Filler_countWay 22 (.ifCond .ne 18) 3 25 := ⟨by decide +kernel, rfl⟩
theorem d_Filler_countWay_25 : DC m_Filler_countWay 25 (.aload_n 0) 1 26 := ⟨by decide +kernel, rfl⟩
theorem d_Filler_countWay_26 : DC m_Filler_countWay 26 (.getfield 41) 3 29 := ⟨by decide +kernel, rfl⟩
theorem d_Filler_countWay_29 : DC m_Filler_countWay 29 (.iconst 0) 1 30 := ⟨by decide +kernel, rfl⟩
theorem d_Filler_countWay_30 : DC m_Filler_countWay 30 (.aload_n 0) 1 31 := ⟨by decide +kernel, rfl⟩
theorem d_Filler_countWay_31 : DC m_Filler_countWay 31 (.getfield 45) 3 34 := ⟨by decide +kernel, rfl⟩
theorem d_Filler_countWay_34 : DC m_Filler_countWay 34 (.iconst 0) 1 35 := ⟨by decide +kernel, rfl⟩
theorem d_Filler_countWay_35 : DC m_Filler_countWay 35 (.bipush 8) 2 37 := ⟨by decide +kernel, rfl⟩
theorem d_Filler_countWay_37 : DC m_Filler_countWay 37 (.invokestatic 109) 3 40 := ⟨by decide +kernel, rfl⟩
theorem d_Filler_countWay_40 : DC m_Filler_countWay 40 .return_ 1 41 := ⟨by decide +kernel, rfl⟩
def f_Filler_countWay (n : Nat) (x0 : Nat) (M : MM) : Option (MM) :=
  og 3 x0 M <|
  (gI 3 6 x0 M).bind fun v1 =>
  (pI 3 6 x0 (v1 + 1) M).bind fun M2 =>
  (gI 3 6 x0 M2).bind fun v3 =>
  if v3 = 1 then
    (gI 3 3 x0 M2).bind fun v5 =>
    if v5 = 0 then
      (gR 3 7 x0 M2).bind fun v7 =>
      (gR 3 8 x0 M2).bind fun v8 =>
      (acp v7 0 v8 0 8 M2).bind fun M9 =>
      some M9
    else
      some M2
  else
    some M2
theorem fc_Filler_countWay {n : Nat} {x0 : Nat} {M : MM} {z : MM} (h : f_Filler_countWay n x0 M = some z) : (M.1.2.1 x0).1 = 3 := by
  unfold f_Filler_countWay at h
  exact (og_s h).1
theorem t_Filler_countWay (n : Nat) (x0 : Nat) (M : MM) (z : MM) (h : f_Filler_countWay n x0 M = some z) : CT m_Filler_countWay (rm 1 0 0) [.ref x0] M none z := by
  unfold f_Filler_countWay at h
  obtain ⟨hthis, h⟩ := og_s h
  refine CT.of (ls := [some (.ref x0)]) rfl (okp rfl) rfl ?_
  refine e_aload_n d_Filler_countWay_0 rfl ?_
  refine e_dup d_Filler_countWay_1 rfl ?_
  obtain ⟨v1, hv1, h⟩ := bnd h
  refine e_getI d_Filler_countWay_2 fl_Filler_38 (fun _ _ _ => rfl) hv1 ?_
  refine e_iconst (v := 1) d_Filler_countWay_5 (by decide) ?_
  refine e_iadd d_Filler_countWay_6 ?_
  obtain ⟨M2, hM2, h⟩ := bnd h
  refine e_putI d_Filler_countWay_7 fl_Filler_38 (Or.inl rfl) (fun _ _ _ => rfl) rfl hM2 ?_
  refine e_aload_n d_Filler_countWay_10 rfl ?_
  obtain ⟨v3, hv3, h⟩ := bnd h
  refine e_getI d_Filler_countWay_11 fl_Filler_38 (fun _ _ _ => rfl) hv3 ?_
  refine e_iconst (v := 1) d_Filler_countWay_14 (by decide) ?_
  refine e_ic_ne 40 d_Filler_countWay_15 (by decide) (fun c4 => ?_) (fun c4 => ?_)
  · replace h := ifn c4 h
    cases h
    exact e_vret d_Filler_countWay_40 rfl (Nat.le_refl _) (Nat.le_refl _)
  · replace h := ift c4 h
    refine e_aload_n d_Filler_countWay_18 rfl ?_
    obtain ⟨v5, hv5, h⟩ := bnd h
    refine e_getI d_Filler_countWay_19 fl_Filler_28 (fun _ _ _ => rfl) hv5 ?_
    refine e_if_ne 40 d_Filler_countWay_22 (by decide) (fun c6 => ?_) (fun c6 => ?_)
    · replace h := ifn c6 h
      cases h
      exact e_vret d_Filler_countWay_40 rfl (Nat.le_refl _) (Nat.le_refl _)
    · replace h := ift c6 h
      refine e_aload_n d_Filler_countWay_25 rfl ?_
      obtain ⟨v7, hv7, h⟩ := bnd h
      refine e_getR d_Filler_countWay_26 fl_Filler_41 (fun _ _ _ => rfl) hv7 ?_
      refine e_iconst (v := 0) d_Filler_countWay_29 (by decide) ?_
      refine e_aload_n d_Filler_countWay_30 rfl ?_
      obtain ⟨v8, hv8, h⟩ := bnd h
      refine e_getR d_Filler_countWay_31 fl_Filler_45 (fun _ _ _ => rfl) hv8 ?_
      refine e_iconst (v := 0) d_Filler_countWay_34 (by decide) ?_
      refine e_bipush (v := 8) d_Filler_countWay_35 (by decide) ?_
      obtain ⟨M9, hM9, h⟩ := bnd h
      refine e_acp d_Filler_countWay_37 ml_Filler_109 ac_nat ac_sta ac_ini hM9 (okp rfl) (okp rfl) (okp rfl) ?_
      cases h
      exact e_vret d_Filler_countWay_40 rfl (Nat.le_refl _) (Nat.le_refl _)
theorem d_Filler_isOver_0 : DC m_Filler_isOver 0 (.aload_n 0) 1 1 := ⟨by decide +kernel, rfl⟩
theorem d_Filler_isOver_1 : DC m_Filler_isOver 1 (.getfield 32) 3 4 := ⟨by decide +kernel, rfl⟩
theorem d_Filler_isOver_4 : DC m_Filler_isOver 4 (.ifCond .ne 17) 3 7 := ⟨by decide +kernel, rfl⟩
theorem d_Filler_isOver_7 : DC m_Filler_isOver 7 (.aload_n 0) 1 8 := ⟨by decide +kernel, rfl⟩
theorem d_Filler_isOver_8 : DC m_Filler_isOver 8 (.getfield 28) 3 11 := ⟨by decide +kernel, rfl⟩
theorem d_Filler_isOver_11 : DC m_Filler_isOver 11 (.ifCond .eq 14) 3 14 := ⟨by decide +kernel, rfl⟩
theorem d_Filler_isOver_14 : DC m_Filler_isOver 14 (.aload_n 0) 1 15 := ⟨by decide +kernel, rfl⟩
theorem d_Filler_isOver_15 : DC m_Filler_isOver 15 (.getfield 38) 3 18 := ⟨by decide +kernel, rfl⟩
theorem d_Filler_isOver_18 : DC m_Filler_isOver 18 (.ifCond .le 7) 3 21 := ⟨by decide +kernel, rfl⟩
theorem d_Filler_isOver_21 : DC m_Filler_isOver 21 (.iconst 1) 1 22 := ⟨by decide +kernel, rfl⟩
theorem d_Filler_isOver_22 : DC m_Filler_isOver 22 (.goto 4) 3 25 := ⟨by decide +kernel, rfl⟩
theorem d_Filler_isOver_25 : DC m_Filler_isOver 25 (.iconst 0) 1 26 := ⟨by decide +kernel, rfl⟩
theorem d_Filler_isOver_26 : DC m_Filler_isOver 26 .ireturn 1 27 := ⟨by decide +kernel, rfl⟩
def f_Filler_isOver_21 (n : Nat) (M : MM) : Option (Int32 × MM) :=
  some (1, M)
theorem t_Filler_isOver_21 (n : Nat) (M : MM) (z : Int32 × MM) (h : f_Filler_isOver_21 n M = some z) : EV m_Filler_isOver (rm 1 0 0) (some (.int z.1)) z.2 0 0 21 [none] [] M := by
  unfold f_Filler_isOver_21 at h
  refine e_iconst (v := 1) d_Filler_isOver_21 (by decide) ?_
  refine e_goto 26 d_Filler_isOver_22 (by decide) ?_
  cases h
  exact e_zret (ty := .boolean) d_Filler_isOver_26 rfl narZ1 (Nat.le_refl _) (Nat.le_refl _)
def f_Filler_isOver (n : Nat) (x0 : Nat) (M : MM) : Option (Int32 × MM) :=
  og 3 x0 M <|
  (gI 3 4 x0 M).bind fun v1 =>
  if v1 = 0 then
    (gI 3 3 x0 M).bind fun v3 =>
    if v3 = 0 then
      some (0, M)
    else
      (gI 3 6 x0 M).bind fun v5 =>
      if v5 ≤ 0 then
        some (0, M)
      else
        f_Filler_isOver_21 n M
  else
    f_Filler_isOver_21 n M
theorem fc_Filler_isOver {n : Nat} {x0 : Nat} {M : MM} {z : Int32 × MM} (h : f_Filler_isOver n x0 M = some z) : (M.1.2.1 x0).1 = 3 := by
  unfold f_Filler_isOver at h
  exact (og_s h).1
theorem t_Filler_isOver (n : Nat) (x0 : Nat) (M : MM) (z : Int32 × MM) (h : f_Filler_isOver n x0 M = some z) : CT m_Filler_isOver (rm 1 0 0) [.ref x0] M (some (.int z.1)) z.2 := by
  unfold f_Filler_isOver at h
  obtain ⟨hthis, h⟩ := og_s h
  refine CT.of (ls := [some (.ref x0)]) rfl (okp rfl) rfl ?_
  refine e_aload_n d_Filler_isOver_0 rfl ?_
  obtain ⟨v1, hv1, h⟩ := bnd h
  refine e_getI d_Filler_isOver_1 fl_Filler_32 (fun _ _ _ => rfl) hv1 ?_
  refine e_if_ne 21 d_Filler_isOver_4 (by decide) (fun c2 => ?_) (fun c2 => ?_)
  · replace h := ifn c2 h
    exact (t_Filler_isOver_21 n  M z h).less (show LSub _ _ from trivial)
  · replace h := ift c2 h
    refine e_aload_n d_Filler_isOver_7 rfl ?_
    obtain ⟨v3, hv3, h⟩ := bnd h
    refine e_getI d_Filler_isOver_8 fl_Filler_28 (fun _ _ _ => rfl) hv3 ?_
    refine e_if_eq 25 d_Filler_isOver_11 (by decide) (fun c4 => ?_) (fun c4 => ?_)
    · replace h := ift c4 h
      refine e_iconst (v := 0) d_Filler_isOver_25 (by decide) ?_
      cases h
      exact e_zret (ty := .boolean) d_Filler_isOver_26 rfl narZ0 (Nat.le_refl _) (Nat.le_refl _)
    · replace h := ifn c4 h
      refine e_aload_n d_Filler_isOver_14 rfl ?_
      obtain ⟨v5, hv5, h⟩ := bnd h
      refine e_getI d_Filler_isOver_15 fl_Filler_38 (fun _ _ _ => rfl) hv5 ?_
      refine e_if_le 25 d_Filler_isOver_18 (by decide) (fun c6 => ?_) (fun c6 => ?_)
      · replace h := ift c6 h
        refine e_iconst (v := 0) d_Filler_isOver_25 (by decide) ?_
        cases h
        exact e_zret (ty := .boolean) d_Filler_isOver_26 rfl narZ0 (Nat.le_refl _) (Nat.le_refl _)
      · replace h := ifn c6 h
        exact (t_Filler_isOver_21 n  M z h).less (show LSub _ _ from trivial)
theorem d_Filler_fits_0 : DC m_Filler_fits 0 (.iconst 0) 1 1 := ⟨by decide +kernel, rfl⟩
theorem d_Filler_fits_1 : DC m_Filler_fits 1 (.istore 5) 2 3 := ⟨by decide +kernel, rfl⟩
theorem d_Filler_fits_3 : DC m_Filler_fits 3 (.iload 5) 2 5 := ⟨by decide +kernel, rfl⟩
theorem d_Filler_fits_5 : DC m_Filler_fits 5 (.iload_n 2) 1 6 := ⟨by decide +kernel, rfl⟩
theorem d_Filler_fits_6 : DC m_Filler_fits 6 (.if_icmp .ge 51) 3 9 := ⟨by decide +kernel, rfl⟩
theorem d_Filler_fits_9 : DC m_Filler_fits 9 (.iload 5) 2 11 := ⟨by decide +kernel, rfl⟩
theorem d_Filler_fits_11 : DC m_Filler_fits 11 (.iload 4) 2 13 := ⟨by decide +kernel, rfl⟩
theorem d_Filler_fits_13 : DC m_Filler_fits 13 .iadd 1 14 := ⟨by decide +kernel, rfl⟩
theorem d_Filler_fits_14 : DC m_Filler_fits 14 (.bipush 8) 2 16 := ⟨by decide +kernel, rfl⟩
theorem d_Filler_fits_16 : DC m_Filler_fits 16 (.if_icmp .ge 41) 3 19 := ⟨by decide +kernel, rfl⟩
theorem d_Filler_fits_19 : DC m_Filler_fits 19 (.aload_n 1) 1 20 := ⟨by decide +kernel, rfl⟩
theorem d_Filler_fits_20 : DC m_Filler_fits 20 (.getfield 145) 3 23 := ⟨by decide +kernel, rfl⟩
theorem d_Filler_fits_23 : DC m_Filler_fits 23 (.iload 5) 2 25 := ⟨by decide +kernel, rfl⟩
theorem d_Filler_fits_25 : DC m_Filler_fits 25 .iaload 1 26 := ⟨by decide +kernel, rfl⟩
theorem d_Filler_fits_26 : DC m_Filler_fits 26 (.iload_n 3) 1 27 := ⟨by decide +kernel, rfl⟩
theorem d_Filler_fits_27 : DC m_Filler_fits 27 (.invokestatic 148) 3 30 := ⟨by decide +kernel, rfl⟩
theorem d_Filler_fits_30 : DC m_Filler_fits 30 (.aload_n 0) 1 31 := ⟨by decide +kernel, rfl⟩
theorem d_Filler_fits_31 : DC m_Filler_fits 31 (.getfield 24) 3 34 := ⟨by decide +kernel, rfl⟩
theorem d_Filler_fits_34 : DC m_Filler_fits 34 (.getfield 145) 3 37 := ⟨by decide +kernel, rfl⟩
theorem d_Filler_fits_37 : DC m_Filler_fits 37 (.iload 5) 2 39 := ⟨by decide +kernel, rfl⟩
theorem d_Filler_fits_39 : DC m_Filler_fits 39 (.iload 4) 2 41 := ⟨by decide +kernel, rfl⟩
theorem d_Filler_fits_41 : DC m_Filler_fits 41 .iadd 1 42 := ⟨by decide +kernel, rfl⟩
theorem d_Filler_fits_42 : DC m_Filler_fits 42 .iaload 1 43 := ⟨by decide +kernel, rfl⟩
theorem d_Filler_fits_43 : DC m_Filler_fits 43 (.iconst (-1)) 1 44 := ⟨by decide +kernel, rfl⟩
theorem d_Filler_fits_44 : DC m_Filler_fits 44 .ixor 1 45 := ⟨by decide +kernel, rfl⟩
theorem d_Filler_fits_45 : DC m_Filler_fits 45 .iand 1 46 := ⟨by decide +kernel, rfl⟩
theorem d_Filler_fits_46 : DC m_Filler_fits 46 (.ifCond .eq 5) 3 49 := ⟨by decide +kernel, rfl⟩
theorem d_Filler_fits_49 : DC m_Filler_fits 49 (.iconst 0) 1 50 := ⟨by decide +kernel, rfl⟩
theorem d_Filler_fits_50 : DC m_Filler_fits 50 .ireturn 1 51 := ⟨by decide +kernel, rfl⟩
theorem d_Filler_fits_51 : DC m_Filler_fits 51 (.iinc 5 1) 3 54 := ⟨by decide +kernel, rfl⟩
theorem d_Filler_fits_54 : DC m_Filler_fits 54 (.goto (-51)) 3 57 := ⟨by decide +kernel, rfl⟩
theorem d_Filler_fits_57 : DC m_Filler_fits 57 (.iconst 1) 1 58 := ⟨by decide +kernel, rfl⟩
theorem d_Filler_fits_58 : DC m_Filler_fits 58 .ireturn 1 59 := ⟨by decide +kernel, rfl⟩
def f_Filler_fits_3 (n : Nat) : Nat → Nat → Nat → Int32 → Int32 → Int32 → Int32 → MM → Option (Int32 × MM)
  | 0, _, _, _, _, _, _, _ => none
  | m + 1, x0, x1, x2, x3, x4, x5, M =>
    if x2 ≤ x5 then
      some (1, M)
    else
      if 8 ≤ (x5 + x4) then
        some (1, M)
      else
        (gR 7 0 x1 M).bind fun v3 =>
        (aI 100 v3 x5 M).bind fun v4 =>
        (f_Shape_slide n v4 x3 M).bind fun p5 =>
        (gR 3 2 x0 p5.2).bind fun v6 =>
        (gR 7 0 v6 p5.2).bind fun v7 =>
        (aI 100 v7 (x5 + x4) p5.2).bind fun v8 =>
        if (p5.1 &&& (v8 ^^^ (-1))) = 0 then
          f_Filler_fits_3 n m x0 x1 x2 x3 x4 (x5 + 1) p5.2
        else
          some (0, p5.2)
theorem t_Filler_fits_3 (n : Nat) : ∀ (m : Nat) (x0 : Nat) (x1 : Nat) (x2 : Int32) (x3 : Int32) (x4 : Int32) (x5 : Int32) (M : MM) (z : Int32 × MM), f_Filler_fits_3 n m x0 x1 x2 x3 x4 x5 M = some z → EV m_Filler_fits (rm 2 0 0) (some (.int z.1)) z.2 0 0 3 [some (.ref x0), some (.ref x1), some (.int x2), some (.int x3), some (.int x4), some (.int x5)] [] M := by
  intro m
  induction m with
  | zero => intro x0 x1 x2 x3 x4 x5 M z h; cases h
  | succ m ih =>
    intro x0 x1 x2 x3 x4 x5 M z h
    rw [f_Filler_fits_3] at h
    refine e_iload d_Filler_fits_3 rfl ?_
    refine e_iload_n d_Filler_fits_5 rfl ?_
    refine e_ic_ge 57 d_Filler_fits_6 (by decide) (fun c1 => ?_) (fun c1 => ?_)
    · replace h := ift c1 h
      refine e_iconst (v := 1) d_Filler_fits_57 (by decide) ?_
      cases h
      exact e_zret (ty := .boolean) d_Filler_fits_58 rfl narZ1 (Nat.le_refl _) (Nat.le_refl _)
    · replace h := ifn c1 h
      refine e_iload d_Filler_fits_9 rfl ?_
      refine e_iload d_Filler_fits_11 rfl ?_
      refine e_iadd d_Filler_fits_13 ?_
      refine e_bipush (v := 8) d_Filler_fits_14 (by decide) ?_
      refine e_ic_ge 57 d_Filler_fits_16 (by decide) (fun c2 => ?_) (fun c2 => ?_)
      · replace h := ift c2 h
        refine e_iconst (v := 1) d_Filler_fits_57 (by decide) ?_
        cases h
        exact e_zret (ty := .boolean) d_Filler_fits_58 rfl narZ1 (Nat.le_refl _) (Nat.le_refl _)
      · replace h := ifn c2 h
        refine e_aload_n d_Filler_fits_19 rfl ?_
        obtain ⟨v3, hv3, h⟩ := bnd h
        refine e_getR d_Filler_fits_20 fl_Filler_145 (fun _ _ _ => rfl) hv3 ?_
        refine e_iload d_Filler_fits_23 rfl ?_
        obtain ⟨v4, hv4, h⟩ := bnd h
        refine e_iald d_Filler_fits_25 hv4 ?_
        refine e_iload_n d_Filler_fits_26 rfl ?_
        obtain ⟨p5, hp5, h⟩ := bnd h
        refine e_cSi (mt1 := m_Shape_slide) (As := [.int v4, .int x3]) (st := []) d_Filler_fits_27 ml_Filler_148 ms_Shape_slide (t_Shape_slide n v4 x3 M p5 hp5) rfl rfl (okp rfl) (okp rfl) (okp rfl) (Nat.le_refl _) (Nat.le_refl _) ?_
        refine e_aload_n d_Filler_fits_30 rfl ?_
        obtain ⟨v6, hv6, h⟩ := bnd h
        refine e_getR d_Filler_fits_31 fl_Filler_24 (fun _ _ _ => rfl) hv6 ?_
        obtain ⟨v7, hv7, h⟩ := bnd h
        refine e_getR d_Filler_fits_34 fl_Filler_145 (fun _ _ _ => rfl) hv7 ?_
        refine e_iload d_Filler_fits_37 rfl ?_
        refine e_iload d_Filler_fits_39 rfl ?_
        refine e_iadd d_Filler_fits_41 ?_
        obtain ⟨v8, hv8, h⟩ := bnd h
        refine e_iald d_Filler_fits_42 hv8 ?_
        refine e_iconst (v := (-1)) d_Filler_fits_43 (by decide) ?_
        refine e_ixor d_Filler_fits_44 ?_
        refine e_iand d_Filler_fits_45 ?_
        refine e_if_eq 51 d_Filler_fits_46 (by decide) (fun c9 => ?_) (fun c9 => ?_)
        · replace h := ift c9 h
          refine e_iinc (v := x5 + 1) (l2 := [some (.ref x0), some (.ref x1), some (.int x2), some (.int x3), some (.int x4), some (.int (x5 + 1))]) d_Filler_fits_51 rfl rfl rfl (okl rfl) rfl ?_
          refine e_goto 3 d_Filler_fits_54 (by decide) ?_
          exact (ih x0 x1 x2 x3 x4 (x5 + 1) p5.2 z h).less (show LSub _ _ from ⟨rfl, ⟨rfl, ⟨rfl, ⟨rfl, ⟨rfl, ⟨rfl, trivial⟩⟩⟩⟩⟩⟩)
        · replace h := ifn c9 h
          refine e_iconst (v := 0) d_Filler_fits_49 (by decide) ?_
          cases h
          exact e_zret (ty := .boolean) d_Filler_fits_50 rfl narZ0 (Nat.le_refl _) (Nat.le_refl _)
def f_Filler_fits (n : Nat) (x0 : Nat) (x1 : Nat) (x2 : Int32) (x3 : Int32) (x4 : Int32) (M : MM) : Option (Int32 × MM) :=
  og 3 x0 M <|
  f_Filler_fits_3 n n x0 x1 x2 x3 x4 0 M
theorem fc_Filler_fits {n : Nat} {x0 : Nat} {x1 : Nat} {x2 : Int32} {x3 : Int32} {x4 : Int32} {M : MM} {z : Int32 × MM} (h : f_Filler_fits n x0 x1 x2 x3 x4 M = some z) : (M.1.2.1 x0).1 = 3 := by
  unfold f_Filler_fits at h
  exact (og_s h).1
theorem t_Filler_fits (n : Nat) (x0 : Nat) (x1 : Nat) (x2 : Int32) (x3 : Int32) (x4 : Int32) (M : MM) (z : Int32 × MM) (h : f_Filler_fits n x0 x1 x2 x3 x4 M = some z) : CT m_Filler_fits (rm 2 0 0) [.ref x0, .ref x1, .int x2, .int x3, .int x4] M (some (.int z.1)) z.2 := by
  unfold f_Filler_fits at h
  obtain ⟨hthis, h⟩ := og_s h
  refine CT.of (ls := [some (.ref x0), some (.ref x1), some (.int x2), some (.int x3), some (.int x4), none]) rfl (okp rfl) rfl ?_
  refine e_iconst (v := 0) d_Filler_fits_0 (by decide) ?_
  refine e_istore (l2 := [some (.ref x0), some (.ref x1), some (.int x2), some (.int x3), some (.int x4), some (.int 0)]) d_Filler_fits_1 rfl (okl rfl) rfl ?_
  exact (t_Filler_fits_3 n n x0 x1 x2 x3 x4 0 M z h).less (show LSub _ _ from ⟨rfl, ⟨rfl, ⟨rfl, ⟨rfl, ⟨rfl, ⟨rfl, trivial⟩⟩⟩⟩⟩⟩)
theorem d_Filler_layCode_0 : DC m_Filler_layCode 0 (.iload_n 0) 1 1 := ⟨by decide +kernel, rfl⟩
theorem d_Filler_layCode_1 : DC m_Filler_layCode 1 (.bipush 6) 2 3 := ⟨by decide +kernel, rfl⟩
theorem d_Filler_layCode_3 : DC m_Filler_layCode 3 .ishl 1 4 := ⟨by decide +kernel, rfl⟩
theorem d_Filler_layCode_4 : DC m_Filler_layCode 4 (.iload_n 1) 1 5 := ⟨by decide +kernel, rfl⟩
theorem d_Filler_layCode_5 : DC m_Filler_layCode 5 (.iconst 3) 1 6 := ⟨by decide +kernel, rfl⟩
theorem d_Filler_layCode_6 : DC m_Filler_layCode 6 .ishl 1 7 := ⟨by decide +kernel, rfl⟩
theorem d_Filler_layCode_7 : DC m_Filler_layCode 7 .ior 1 8 := ⟨by decide +kernel, rfl⟩
theorem d_Filler_layCode_8 : DC m_Filler_layCode 8 (.iload_n 2) 1 9 := ⟨by decide +kernel, rfl⟩
theorem d_Filler_layCode_9 : DC m_Filler_layCode 9 .ior 1 10 := ⟨by decide +kernel, rfl⟩
theorem d_Filler_layCode_10 : DC m_Filler_layCode 10 .ireturn 1 11 := ⟨by decide +kernel, rfl⟩
def f_Filler_layCode (n : Nat) (x0 : Int32) (x1 : Int32) (x2 : Int32) (M : MM) : Option (Int32 × MM) :=
  some ((((ishl x0 6) ||| (ishl x1 3)) ||| x2), M)
theorem t_Filler_layCode (n : Nat) (x0 : Int32) (x1 : Int32) (x2 : Int32) (M : MM) (z : Int32 × MM) (h : f_Filler_layCode n x0 x1 x2 M = some z) : CT m_Filler_layCode (rm 1 0 0) [.int x0, .int x1, .int x2] M (some (.int z.1)) z.2 := by
  unfold f_Filler_layCode at h
  refine CT.of (ls := [some (.int x0), some (.int x1), some (.int x2)]) rfl (okp rfl) rfl ?_
  refine e_iload_n d_Filler_layCode_0 rfl ?_
  refine e_bipush (v := 6) d_Filler_layCode_1 (by decide) ?_
  refine e_ishl d_Filler_layCode_3 ?_
  refine e_iload_n d_Filler_layCode_4 rfl ?_
  refine e_iconst (v := 3) d_Filler_layCode_5 (by decide) ?_
  refine e_ishl d_Filler_layCode_6 ?_
  refine e_ior d_Filler_layCode_7 ?_
  refine e_iload_n d_Filler_layCode_8 rfl ?_
  refine e_ior d_Filler_layCode_9 ?_
  cases h
  exact e_iret d_Filler_layCode_10 rfl (Nat.le_refl _) (Nat.le_refl _)
theorem d_Filler_change_0 : DC m_Filler_change 0 (.iconst 0) 1 1 := ⟨by decide +kernel, rfl⟩
theorem d_Filler_change_1 : DC m_Filler_change 1 (.istore 5) 2 3 := ⟨by decide +kernel, rfl⟩
theorem d_Filler_change_3 : DC m_Filler_change 3 (.iload 5) 2 5 := ⟨by decide +kernel, rfl⟩
theorem d_Filler_change_5 : DC m_Filler_change 5 (.iload_n 2) 1 6 := ⟨by decide +kernel, rfl⟩
theorem d_Filler_change_6 : DC m_Filler_change 6 (.if_icmp .ge 46) 3 9 := ⟨by decide +kernel, rfl⟩
theorem d_Filler_change_9 : DC m_Filler_change 9 (.iload 5) 2 11 := ⟨by decide +kernel, rfl⟩
theorem d_Filler_change_11 : DC m_Filler_change 11 (.iload 4) 2 13 := ⟨by decide +kernel, rfl⟩
theorem d_Filler_change_13 : DC m_Filler_change 13 .iadd 1 14 := ⟨by decide +kernel, rfl⟩
theorem d_Filler_change_14 : DC m_Filler_change 14 (.bipush 8) 2 16 := ⟨by decide +kernel, rfl⟩
theorem d_Filler_change_16 : DC m_Filler_change 16 (.if_icmp .ge 36) 3 19 := ⟨by decide +kernel, rfl⟩
theorem d_Filler_change_19 : DC m_Filler_change 19 (.aload_n 0) 1 20 := ⟨by decide +kernel, rfl⟩
theorem d_Filler_change_20 : DC m_Filler_change 20 (.getfield 24) 3 23 := ⟨by decide +kernel, rfl⟩
theorem d_Filler_change_23 : DC m_Filler_change 23 (.getfield 145) 3 26 := ⟨by decide +kernel, rfl⟩
theorem d_Filler_change_26 : DC m_Filler_change 26 (.iload 5) 2 28 := ⟨by decide +kernel, rfl⟩
theorem d_Filler_change_28 : DC m_Filler_change 28 (.iload 4) 2 30 := ⟨by decide +kernel, rfl⟩
theorem d_Filler_change_30 : DC m_Filler_change 30 .iadd 1 31 := ⟨by decide +kernel, rfl⟩
theorem d_Filler_change_31 : DC m_Filler_change 31 .dup2 1 32 := ⟨by decide +kernel, rfl⟩
theorem d_Filler_change_32 : DC m_Filler_change 32 .iaload 1 33 := ⟨by decide +kernel, rfl⟩
theorem d_Filler_change_33 : DC m_Filler_change 33 (.aload_n 1) 1 34 := ⟨by decide +kernel, rfl⟩
theorem d_Filler_change_34 : DC m_Filler_change 34 (.getfield 145) 3 37 := ⟨by decide +kernel, rfl⟩
theorem d_Filler_change_37 : DC m_Filler_change 37 (.iload 5) 2 39 := ⟨by decide +kernel, rfl⟩
theorem d_Filler_change_39 : DC m_Filler_change 39 .iaload 1 40 := ⟨by decide +kernel, rfl⟩
theorem d_Filler_change_40 : DC m_Filler_change 40 (.iload_n 3) 1 41 := ⟨by decide +kernel, rfl⟩
theorem d_Filler_change_41 : DC m_Filler_change 41 (.invokestatic 148) 3 44 := ⟨by decide +kernel, rfl⟩
theorem d_Filler_change_44 : DC m_Filler_change 44 .ixor 1 45 := ⟨by decide +kernel, rfl⟩
theorem d_Filler_change_45 : DC m_Filler_change 45 .iastore 1 46 := ⟨by decide +kernel, rfl⟩
theorem d_Filler_change_46 : DC m_Filler_change 46 (.iinc 5 1) 3 49 := ⟨by decide +kernel, rfl⟩
theorem d_Filler_change_49 : DC m_Filler_change 49 (.goto (-46)) 3 52 := ⟨by decide +kernel, rfl⟩
theorem d_Filler_change_52 : DC m_Filler_change 52 .return_ 1 53 := ⟨by decide +kernel, rfl⟩
def f_Filler_change_3 (n : Nat) : Nat → Nat → Nat → Int32 → Int32 → Int32 → Int32 → MM → Option (MM)
  | 0, _, _, _, _, _, _, _ => none
  | m + 1, x0, x1, x2, x3, x4, x5, M =>
    if x2 ≤ x5 then
      some M
    else
      if 8 ≤ (x5 + x4) then
        some M
      else
        (gR 3 2 x0 M).bind fun v3 =>
        (gR 7 0 v3 M).bind fun v4 =>
        (aI 100 v4 (x5 + x4) M).bind fun v5 =>
        (gR 7 0 x1 M).bind fun v6 =>
        (aI 100 v6 x5 M).bind fun v7 =>
        (f_Shape_slide n v7 x3 M).bind fun p8 =>
        (sI 100 v4 (x5 + x4) (v5 ^^^ p8.1) p8.2).bind fun M9 =>
        f_Filler_change_3 n m x0 x1 x2 x3 x4 (x5 + 1) M9
theorem t_Filler_change_3 (n : Nat) : ∀ (m : Nat) (x0 : Nat) (x1 : Nat) (x2 : Int32) (x3 : Int32) (x4 : Int32) (x5 : Int32) (M : MM) (z : MM), f_Filler_change_3 n m x0 x1 x2 x3 x4 x5 M = some z → EV m_Filler_change (rm 2 0 0) none z 0 0 3 [some (.ref x0), some (.ref x1), some (.int x2), some (.int x3), some (.int x4), some (.int x5)] [] M := by
  intro m
  induction m with
  | zero => intro x0 x1 x2 x3 x4 x5 M z h; cases h
  | succ m ih =>
    intro x0 x1 x2 x3 x4 x5 M z h
    rw [f_Filler_change_3] at h
    refine e_iload d_Filler_change_3 rfl ?_
    refine e_iload_n d_Filler_change_5 rfl ?_
    refine e_ic_ge 52 d_Filler_change_6 (by decide) (fun c1 => ?_) (fun c1 => ?_)
    · replace h := ift c1 h
      cases h
      exact e_vret d_Filler_change_52 rfl (Nat.le_refl _) (Nat.le_refl _)
    · replace h := ifn c1 h
      refine e_iload d_Filler_change_9 rfl ?_
      refine e_iload d_Filler_change_11 rfl ?_
      refine e_iadd d_Filler_change_13 ?_
      refine e_bipush (v := 8) d_Filler_change_14 (by decide) ?_
      refine e_ic_ge 52 d_Filler_change_16 (by decide) (fun c2 => ?_) (fun c2 => ?_)
      · replace h := ift c2 h
        cases h
        exact e_vret d_Filler_change_52 rfl (Nat.le_refl _) (Nat.le_refl _)
      · replace h := ifn c2 h
        refine e_aload_n d_Filler_change_19 rfl ?_
        obtain ⟨v3, hv3, h⟩ := bnd h
        refine e_getR d_Filler_change_20 fl_Filler_24 (fun _ _ _ => rfl) hv3 ?_
        obtain ⟨v4, hv4, h⟩ := bnd h
        refine e_getR d_Filler_change_23 fl_Filler_145 (fun _ _ _ => rfl) hv4 ?_
        refine e_iload d_Filler_change_26 rfl ?_
        refine e_iload d_Filler_change_28 rfl ?_
        refine e_iadd d_Filler_change_30 ?_
        refine e_dup2 d_Filler_change_31 rfl rfl ?_
        obtain ⟨v5, hv5, h⟩ := bnd h
        refine e_iald d_Filler_change_32 hv5 ?_
        refine e_aload_n d_Filler_change_33 rfl ?_
        obtain ⟨v6, hv6, h⟩ := bnd h
        refine e_getR d_Filler_change_34 fl_Filler_145 (fun _ _ _ => rfl) hv6 ?_
        refine e_iload d_Filler_change_37 rfl ?_
        obtain ⟨v7, hv7, h⟩ := bnd h
        refine e_iald d_Filler_change_39 hv7 ?_
        refine e_iload_n d_Filler_change_40 rfl ?_
        obtain ⟨p8, hp8, h⟩ := bnd h
        refine e_cSi (mt1 := m_Shape_slide) (As := [.int v7, .int x3]) (st := [.int v5, .int (x5 + x4), .ref v4]) d_Filler_change_41 ml_Filler_148 ms_Shape_slide (t_Shape_slide n v7 x3 M p8 hp8) rfl rfl (okp rfl) (okp rfl) (okp rfl) (Nat.le_refl _) (Nat.le_refl _) ?_
        refine e_ixor d_Filler_change_44 ?_
        obtain ⟨M9, hM9, h⟩ := bnd h
        refine e_iast d_Filler_change_45 hM9 ?_
        refine e_iinc (v := x5 + 1) (l2 := [some (.ref x0), some (.ref x1), some (.int x2), some (.int x3), some (.int x4), some (.int (x5 + 1))]) d_Filler_change_46 rfl rfl rfl (okl rfl) rfl ?_
        refine e_goto 3 d_Filler_change_49 (by decide) ?_
        exact (ih x0 x1 x2 x3 x4 (x5 + 1) M9 z h).less (show LSub _ _ from ⟨rfl, ⟨rfl, ⟨rfl, ⟨rfl, ⟨rfl, ⟨rfl, trivial⟩⟩⟩⟩⟩⟩)
def f_Filler_change (n : Nat) (x0 : Nat) (x1 : Nat) (x2 : Int32) (x3 : Int32) (x4 : Int32) (M : MM) : Option (MM) :=
  og 3 x0 M <|
  f_Filler_change_3 n n x0 x1 x2 x3 x4 0 M
theorem fc_Filler_change {n : Nat} {x0 : Nat} {x1 : Nat} {x2 : Int32} {x3 : Int32} {x4 : Int32} {M : MM} {z : MM} (h : f_Filler_change n x0 x1 x2 x3 x4 M = some z) : (M.1.2.1 x0).1 = 3 := by
  unfold f_Filler_change at h
  exact (og_s h).1
theorem t_Filler_change (n : Nat) (x0 : Nat) (x1 : Nat) (x2 : Int32) (x3 : Int32) (x4 : Int32) (M : MM) (z : MM) (h : f_Filler_change n x0 x1 x2 x3 x4 M = some z) : CT m_Filler_change (rm 2 0 0) [.ref x0, .ref x1, .int x2, .int x3, .int x4] M none z := by
  unfold f_Filler_change at h
  obtain ⟨hthis, h⟩ := og_s h
  refine CT.of (ls := [some (.ref x0), some (.ref x1), some (.int x2), some (.int x3), some (.int x4), none]) rfl (okp rfl) rfl ?_
  refine e_iconst (v := 0) d_Filler_change_0 (by decide) ?_
  refine e_istore (l2 := [some (.ref x0), some (.ref x1), some (.int x2), some (.int x3), some (.int x4), some (.int 0)]) d_Filler_change_1 rfl (okl rfl) rfl ?_
  exact (t_Filler_change_3 n n x0 x1 x2 x3 x4 0 M z h).less (show LSub _ _ from ⟨rfl, ⟨rfl, ⟨rfl, ⟨rfl, ⟨rfl, ⟨rfl, trivial⟩⟩⟩⟩⟩⟩)
theorem d_Filler_tryBoard_0 : DC m_Filler_tryBoard 0 (.aload_n 0) 1 1 := ⟨by decide +kernel, rfl⟩
theorem d_Filler_tryBoard_1 : DC m_Filler_tryBoard 1 (.getfield 13) 3 4 := ⟨by decide +kernel, rfl⟩
theorem d_Filler_tryBoard_4 : DC m_Filler_tryBoard 4 (.iload_n 1) 1 5 := ⟨by decide +kernel, rfl⟩
theorem d_Filler_tryBoard_5 : DC m_Filler_tryBoard 5 .aaload 1 6 := ⟨by decide +kernel, rfl⟩
theorem d_Filler_tryBoard_6 : DC m_Filler_tryBoard 6 (.astore 5) 2 8 := ⟨by decide +kernel, rfl⟩
theorem d_Filler_tryBoard_8 : DC m_Filler_tryBoard 8 (.iconst 0) 1 9 := ⟨by decide +kernel, rfl⟩
theorem d_Filler_tryBoard_9 : DC m_Filler_tryBoard 9 (.istore 6) 2 11 := ⟨by decide +kernel, rfl⟩
theorem d_Filler_tryBoard_11 : DC m_Filler_tryBoard 11 (.iload 6) 2 13 := ⟨by decide +kernel, rfl⟩
theorem d_Filler_tryBoard_13 : DC m_Filler_tryBoard 13 (.bipush 8) 2 15 := ⟨by decide +kernel, rfl⟩
theorem d_Filler_tryBoard_15 : DC m_Filler_tryBoard 15 (.if_icmp .ge 220) 3 18 := ⟨by decide +kernel, rfl⟩
theorem d_Filler_tryBoard_18 : DC m_Filler_tryBoard 18 (.aload_n 0) 1 19 := ⟨by decide +kernel, rfl⟩
theorem d_Filler_tryBoard_19 : DC m_Filler_tryBoard 19 (.invokevirtual 101) 3 22 := ⟨by decide +kernel, rfl⟩
theorem d_Filler_tryBoard_22 : DC m_Filler_tryBoard 22 (.ifCond .ne 213) 3 25 := ⟨by decide +kernel, rfl⟩
theorem d_Filler_tryBoard_25 : DC m_Filler_tryBoard 25 (.aload 5) 2 27 := ⟨by decide +kernel, rfl⟩
theorem d_Filler_tryBoard_27 : DC m_Filler_tryBoard 27 (.getfield 115) 3 30 := ⟨by decide +kernel, rfl⟩
theorem d_Filler_tryBoard_30 : DC m_Filler_tryBoard 30 (.iload 6) 2 32 := ⟨by decide +kernel, rfl⟩
theorem d_Filler_tryBoard_32 : DC m_Filler_tryBoard 32 .iaload 1 33 := ⟨by decide +kernel, rfl⟩
theorem d_Filler_tryBoard_33 : DC m_Filler_tryBoard 33 (.istore 7) 2 35 := ⟨by decide +kernel, rfl⟩
theorem d_Filler_tryBoard_35 : DC m_Filler_tryBoard 35 (.aload 5) 2 37 := ⟨by decide +kernel, rfl⟩
theorem d_Filler_tryBoard_37 : DC m_Filler_tryBoard 37 (.getfield 118) 3 40 := ⟨by decide +kernel, rfl⟩
theorem d_Filler_tryBoard_40 : DC m_Filler_tryBoard 40 (.iload 6) 2 42 := ⟨by decide +kernel, rfl⟩
theorem d_Filler_tryBoard_42 : DC m_Filler_tryBoard 42 .iaload 1 43 := ⟨by decide +kernel, rfl⟩
theorem d_Filler_tryBoard_43 : DC m_Filler_tryBoard 43 (.iload 6) 2 45 := ⟨by decide +kernel, rfl⟩
theorem d_Filler_tryBoard_45 : DC m_Filler_tryBoard 45 (.if_icmp .ne 184) 3 48 := ⟨by decide +kernel, rfl⟩
theorem d_Filler_tryBoard_48 : DC m_Filler_tryBoard 48 (.iload 7) 2 50 := ⟨by decide +kernel, rfl⟩
theorem d_Filler_tryBoard_50 : DC m_Filler_tryBoard 50 (.iconst 3) 1 51 := ⟨by decide +kernel, rfl⟩
theorem d_Filler_tryBoard_51 : DC m_Filler_tryBoard 51 .iand 1 52 := ⟨by decide +kernel, rfl⟩
theorem d_Filler_tryBoard_52 : DC m_Filler_tryBoard 52 (.iload_n 2) 1 53 := ⟨by decide +kernel, rfl⟩
theorem d_Filler_tryBoard_53 : DC m_Filler_tryBoard 53 (.iconst 3) 1 54 := ⟨by decide +kernel, rfl⟩
theorem d_Filler_tryBoard_54 : DC m_Filler_tryBoard 54 .iand 1 55 := ⟨by decide +kernel, rfl⟩
theorem d_Filler_tryBoard_55 : DC m_Filler_tryBoard 55 (.if_icmp .eq 6) 3 58 := ⟨by decide +kernel, rfl⟩
theorem d_Filler_tryBoard_58 : DC m_Filler_tryBoard 58 (.goto 171) 3 61 := ⟨by decide +kernel, rfl⟩
theorem d_Filler_tryBoard_61 : DC m_Filler_tryBoard 61 (.iload_n 2) 1 62 := ⟨by decide +kernel, rfl⟩
theorem d_Filler_tryBoard_62 : DC m_Filler_tryBoard 62 (.iconst 2) 1 63 := ⟨by decide +kernel, rfl⟩
theorem d_Filler_tryBoard_63 : DC m_Filler_tryBoard 63 .ishr 1 64 := ⟨by decide +kernel, rfl⟩
theorem d_Filler_tryBoard_64 : DC m_Filler_tryBoard 64 (.bipush 7) 2 66 := ⟨by decide +kernel, rfl⟩
theorem d_Filler_tryBoard_66 : DC m_Filler_tryBoard 66 .iand 1 67 := ⟨by decide +kernel, rfl⟩
theorem d_Filler_tryBoard_67 : DC m_Filler_tryBoard 67 (.iload 7) 2 69 := ⟨by decide +kernel, rfl⟩
theorem d_Filler_tryBoard_69 : DC m_Filler_tryBoard 69 (.iconst 2) 1 70 := ⟨by decide +kernel, rfl⟩
theorem d_Filler_tryBoard_70 : DC m_Filler_tryBoard 70 .ishr 1 71 := ⟨by decide +kernel, rfl⟩
theorem d_Filler_tryBoard_71 : DC m_Filler_tryBoard 71 (.bipush 7) 2 73 := ⟨by decide +kernel, rfl⟩
theorem d_Filler_tryBoard_73 : DC m_Filler_tryBoard 73 .iand 1 74 := ⟨by decide +kernel, rfl⟩
theorem d_Filler_tryBoard_74 : DC m_Filler_tryBoard 74 .isub 1 75 := ⟨by decide +kernel, rfl⟩
theorem d_Filler_tryBoard_75 : DC m_Filler_tryBoard 75 (.istore 8) 2 77 := ⟨by decide +kernel, rfl⟩
theorem d_Filler_tryBoard_77 : DC m_Filler_tryBoard 77 (.iload_n 2) 1 78 := ⟨by decide +kernel, rfl⟩
theorem d_Filler_tryBoard_78 : DC m_Filler_tryBoard 78 (.iconst 5) 1 79 := ⟨by decide +kernel, rfl⟩
theorem d_Filler_tryBoard_79 : DC m_Filler_tryBoard 79 .ishr 1 80 := ⟨by decide +kernel, rfl⟩
theorem d_Filler_tryBoard_80 : DC m_Filler_tryBoard 80 (.istore 9) 2 82 := ⟨by decide +kernel, rfl⟩
theorem d_Filler_tryBoard_82 : DC m_Filler_tryBoard 82 (.aload 5) 2 84 := ⟨by decide +kernel, rfl⟩
theorem d_Filler_tryBoard_84 : DC m_Filler_tryBoard 84 (.iload 6) 2 86 := ⟨by decide +kernel, rfl⟩
theorem d_Filler_tryBoard_86 : DC m_Filler_tryBoard 86 (.iload 8) 2 88 := ⟨by decide +kernel, rfl⟩
theorem d_Filler_tryBoard_88 : DC m_Filler_tryBoard 88 (.iload 9) 2 90 := ⟨by decide +kernel, rfl⟩
theorem d_Filler_tryBoard_90 : DC m_Filler_tryBoard 90 (.invokevirtual 121) 3 93 := ⟨by decide +kernel, rfl⟩
theorem d_Filler_tryBoard_93 : DC m_Filler_tryBoard 93 (.ifCond .ne 6) 3 96 := ⟨by decide +kernel, rfl⟩
theorem d_Filler_tryBoard_96 : DC m_Filler_tryBoard 96 (.goto 133) 3 99 := ⟨by decide +kernel, rfl⟩
theorem d_Filler_tryBoard_99 : DC m_Filler_tryBoard 99 (.aload_n 0) 1 100 := ⟨by decide +kernel, rfl⟩
theorem d_Filler_tryBoard_100 : DC m_Filler_tryBoard 100 (.getfield 35) 3 103 := ⟨by decide +kernel, rfl⟩
theorem d_Filler_tryBoard_103 : DC m_Filler_tryBoard 103 (.ldc 125) 2 105 := ⟨by decide +kernel, rfl⟩
theorem d_Filler_tryBoard_105 : DC m_Filler_tryBoard 105 (.if_icmp .ne 9) 3 108 := ⟨by decide +kernel, rfl⟩
theorem d_Filler_tryBoard_108 : DC m_Filler_tryBoard 108 (.aload_n 0) 1 109 := ⟨by decide +kernel, rfl⟩
theorem d_Filler_tryBoard_109 : DC m_Filler_tryBoard 109 (.iconst 1) 1 110 := ⟨by decide +kernel, rfl⟩
theorem d_Filler_tryBoard_110 : DC m_Filler_tryBoard 110 (.putfield 32) 3 113 := ⟨by decide +kernel, rfl⟩
theorem d_Filler_tryBoard_113 : DC m_Filler_tryBoard 113 .return_ 1 114 := ⟨by decide +kernel, rfl⟩
theorem d_Filler_tryBoard_114 : DC m_Filler_tryBoard 114 (.aload_n 0) 1 115 := ⟨by decide +kernel, rfl⟩
theorem d_Filler_tryBoard_115 : DC m_Filler_tryBoard 115 .dup 1 116 := ⟨by decide +kernel, rfl⟩
theorem d_Filler_tryBoard_116 : DC m_Filler_tryBoard 116 (.getfield 35) 3 119 := ⟨by decide +kernel, rfl⟩
theorem d_Filler_tryBoard_119 : DC m_Filler_tryBoard 119 (.iconst 1) 1 120 := ⟨by decide +kernel, rfl⟩
theorem d_Filler_tryBoard_120 : DC m_Filler_tryBoard 120 .iadd 1 121 := ⟨by decide +kernel, rfl⟩
theorem d_Filler_tryBoard_121 : DC m_Filler_tryBoard 121 (.putfield 35) 3 124 := ⟨by decide +kernel, rfl⟩
theorem d_Filler_tryBoard_124 : DC m_Filler_tryBoard 124 (.aload_n 0) 1 125 := ⟨by decide +kernel, rfl⟩
theorem d_Filler_tryBoard_125 : DC m_Filler_tryBoard 125 (.aload 5) 2 127 := ⟨by decide +kernel, rfl⟩
theorem d_Filler_tryBoard_127 : DC m_Filler_tryBoard 127 (.getfield 126) 3 130 := ⟨by decide +kernel, rfl⟩
theorem d_Filler_tryBoard_130 : DC m_Filler_tryBoard 130 (.iload 6) 2 132 := ⟨by decide +kernel, rfl⟩
theorem d_Filler_tryBoard_132 : DC m_Filler_tryBoard 132 .aaload 1 133 := ⟨by decide +kernel, rfl⟩
theorem d_Filler_tryBoard_133 : DC m_Filler_tryBoard 133 (.aload 5) 2 135 := ⟨by decide +kernel, rfl⟩
theorem d_Filler_tryBoard_135 : DC m_Filler_tryBoard 135 (.getfield 130) 3 138 := ⟨by decide +kernel, rfl⟩
theorem d_Filler_tryBoard_138 : DC m_Filler_tryBoard 138 (.iload 6) 2 140 := ⟨by decide +kernel, rfl⟩
theorem d_Filler_tryBoard_140 : DC m_Filler_tryBoard 140 .iaload 1 141 := ⟨by decide +kernel, rfl⟩
theorem d_Filler_tryBoard_141 : DC m_Filler_tryBoard 141 (.iload 8) 2 143 := ⟨by decide +kernel, rfl⟩
theorem d_Filler_tryBoard_143 : DC m_Filler_tryBoard 143 (.iload 9) 2 145 := ⟨by decide +kernel, rfl⟩
theorem d_Filler_tryBoard_145 : DC m_Filler_tryBoard 145 (.invokevirtual 133) 3 148 := ⟨by decide +kernel, rfl⟩
theorem d_Filler_tryBoard_148 : DC m_Filler_tryBoard 148 (.ifCond .eq 81) 3 151 := ⟨by decide +kernel, rfl⟩
theorem d_Filler_tryBoard_151 : DC m_Filler_tryBoard 151 (.aload_n 0) 1 152 := ⟨by decide +kernel, rfl⟩
theorem d_Filler_tryBoard_152 : DC m_Filler_tryBoard 152 (.getfield 41) 3 155 := ⟨by decide +kernel, rfl⟩
theorem d_Filler_tryBoard_155 : DC m_Filler_tryBoard 155 (.iload_n 1) 1 156 := ⟨by decide +kernel, rfl⟩
theorem d_Filler_tryBoard_156 : DC m_Filler_tryBoard 156 (.iload 6) 2 158 := ⟨by decide +kernel, rfl⟩
theorem d_Filler_tryBoard_158 : DC m_Filler_tryBoard 158 (.iload 8) 2 160 := ⟨by decide +kernel, rfl⟩
theorem d_Filler_tryBoard_160 : DC m_Filler_tryBoard 160 (.iload 9) 2 162 := ⟨by decide +kernel, rfl⟩
theorem d_Filler_tryBoard_162 : DC m_Filler_tryBoard 162 (.invokestatic 137) 3 165 := ⟨by decide +kernel, rfl⟩
theorem d_Filler_tryBoard_165 : DC m_Filler_tryBoard 165 .iastore 1 166 := ⟨by decide +kernel, rfl⟩
theorem d_Filler_tryBoard_166 : DC m_Filler_tryBoard 166 (.aload_n 0) 1 167 := ⟨by decide +kernel, rfl⟩
theorem d_Filler_tryBoard_167 : DC m_Filler_tryBoard 167 (.aload 5) 2 169 := ⟨by decide +kernel, rfl⟩
theorem d_Filler_tryBoard_169 : DC m_Filler_tryBoard 169 (.getfield 126) 3 172 := ⟨by decide +kernel, rfl⟩
theorem d_Filler_tryBoard_172 : DC m_Filler_tryBoard 172 (.iload 6) 2 174 := ⟨by decide +kernel, rfl⟩
theorem d_Filler_tryBoard_174 : DC m_Filler_tryBoard 174 .aaload 1 175 := ⟨by decide +kernel, rfl⟩
theorem d_Filler_tryBoard_175 : DC m_Filler_tryBoard 175 (.aload 5) 2 177 := ⟨by decide +kernel, rfl⟩
theorem d_Filler_tryBoard_177 : DC m_Filler_tryBoard 177 (.getfield 130) 3 180 := ⟨by decide +kernel, rfl⟩
theorem d_Filler_tryBoard_180 : DC m_Filler_tryBoard 180 (.iload 6) 2 182 := ⟨by decide +kernel, rfl⟩
theorem d_Filler_tryBoard_182 : DC m_Filler_tryBoard 182 .iaload 1 183 := ⟨by decide +kernel, rfl⟩
theorem d_Filler_tryBoard_183 : DC m_Filler_tryBoard 183 (.iload 8) 2 185 := ⟨by decide +kernel, rfl⟩
theorem d_Filler_tryBoard_185 : DC m_Filler_tryBoard 185 (.iload 9) 2 187 := ⟨by decide +kernel, rfl⟩
theorem d_Filler_tryBoard_187 : DC m_Filler_tryBoard 187 (.invokevirtual 141) 3 190 := ⟨by decide +kernel, rfl⟩
theorem d_Filler_tryBoard_190 : DC m_Filler_tryBoard 190 (.aload_n 0) 1 191 := ⟨by decide +kernel, rfl⟩
theorem d_Filler_tryBoard_191 : DC m_Filler_tryBoard 191 (.iload_n 3) 1 192 := ⟨by decide +kernel, rfl⟩
theorem d_Filler_tryBoard_192 : DC m_Filler_tryBoard 192 (.iconst 1) 1 193 := ⟨by decide +kernel, rfl⟩
theorem d_Filler_tryBoard_193 : DC m_Filler_tryBoard 193 .iadd 1 194 := ⟨by decide +kernel, rfl⟩
theorem d_Filler_tryBoard_194 : DC m_Filler_tryBoard 194 (.iload 4) 2 196 := ⟨by decide +kernel, rfl⟩
theorem d_Filler_tryBoard_196 : DC m_Filler_tryBoard 196 (.iconst 1) 1 197 := ⟨by decide +kernel, rfl⟩
theorem d_Filler_tryBoard_197 : DC m_Filler_tryBoard 197 (.iload_n 1) 1 198 := ⟨by decide +kernel, rfl⟩
theorem d_Filler_tryBoard_198 : DC m_Filler_tryBoard 198 .ishl 1 199 := ⟨by decide +kernel, rfl⟩
theorem d_Filler_tryBoard_199 : DC m_Filler_tryBoard 199 (.iconst (-1)) 1 200 := ⟨by decide +kernel, rfl⟩
theorem d_Filler_tryBoard_200 : DC m_Filler_tryBoard 200 .ixor 1 201 := ⟨by decide +kernel, rfl⟩
theorem d_Filler_tryBoard_201 : DC m_Filler_tryBoard 201 .iand 1 202 := ⟨by decide +kernel, rfl⟩
theorem d_Filler_tryBoard_202 : DC m_Filler_tryBoard 202 (.invokevirtual 90) 3 205 := ⟨by decide +kernel, rfl⟩
theorem d_Filler_tryBoard_205 : DC m_Filler_tryBoard 205 (.aload_n 0) 1 206 := ⟨by decide +kernel, rfl⟩
theorem d_Filler_tryBoard_206 : DC m_Filler_tryBoard 206 (.aload 5) 2 208 := ⟨by decide +kernel, rfl⟩
theorem d_Filler_tryBoard_208 : DC m_Filler_tryBoard 208 (.getfield 126) 3 211 := ⟨by decide +kernel, rfl⟩
theorem d_Filler_tryBoard_211 : DC m_Filler_tryBoard 211 (.iload 6) 2 213 := ⟨by decide +kernel, rfl⟩
theorem d_Filler_tryBoard_213 : DC m_Filler_tryBoard 213 .aaload 1 214 := ⟨by decide +kernel, rfl⟩
theorem d_Filler_tryBoard_214 : DC m_Filler_tryBoard 214 (.aload 5) 2 216 := ⟨by decide +kernel, rfl⟩
theorem d_Filler_tryBoard_216 : DC m_Filler_tryBoard 216 (.getfield 130) 3 219 := ⟨by decide +kernel, rfl⟩
theorem d_Filler_tryBoard_219 : DC m_Filler_tryBoard 219 (.iload 6) 2 221 := ⟨by decide +kernel, rfl⟩
theorem d_Filler_tryBoard_221 : DC m_Filler_tryBoard 221 .iaload 1 222 := ⟨by decide +kernel, rfl⟩
theorem d_Filler_tryBoard_222 : DC m_Filler_tryBoard 222 (.iload 8) 2 224 := ⟨by decide +kernel, rfl⟩
theorem d_Filler_tryBoard_224 : DC m_Filler_tryBoard 224 (.iload 9) 2 226 := ⟨by decide +kernel, rfl⟩
theorem d_Filler_tryBoard_226 : DC m_Filler_tryBoard 226 (.invokevirtual 141) 3 229 := ⟨by decide +kernel, rfl⟩
theorem d_Filler_tryBoard_229 : DC m_Filler_tryBoard 229 (.iinc 6 1) 3 232 := ⟨by decide +kernel, rfl⟩
theorem d_Filler_tryBoard_232 : DC m_Filler_tryBoard 232 (.goto (-221)) 3 235 := ⟨by decide +kernel, rfl⟩
theorem d_Filler_tryBoard_235 : DC m_Filler_tryBoard 235 .return_ 1 236 := ⟨by decide +kernel, rfl⟩
def f_Filler_tryBoard_229 (n : Nat) (r_Filler_search : Nat → Int32 → Int32 → MM → Option (MM)) (k_11 : Nat → Int32 → Int32 → Int32 → Int32 → Nat → Int32 → MM → Option (MM)) (x0 : Nat) (x1 : Int32) (x2 : Int32) (x3 : Int32) (x4 : Int32) (x5 : Nat) (x6 : Int32) (M : MM) : Option (MM) :=
  k_11 x0 x1 x2 x3 x4 x5 (x6 + 1) M
theorem t_Filler_tryBoard_229 (n : Nat) (d : Nat) {r_Filler_search : Nat → Int32 → Int32 → MM → Option (MM)} {k_11 : Nat → Int32 → Int32 → Int32 → Int32 → Nat → Int32 → MM → Option (MM)} (hr_Filler_search : ∀ (x0 : Nat) (x1 : Int32) (x2 : Int32) (M : MM) (z : MM), r_Filler_search x0 x1 x2 M = some z → CT m_Filler_search (rm d 0 0) [.ref x0, .int x1, .int x2] M none z) (hb_Filler_search : ∀ (x0 : Nat) (x1 : Int32) (x2 : Int32) (M : MM) (z : MM), r_Filler_search x0 x1 x2 M = some z → (M.1.2.1 x0).1 = 3) (hk_11 : ∀ (x0 : Nat) (x1 : Int32) (x2 : Int32) (x3 : Int32) (x4 : Int32) (x5 : Nat) (x6 : Int32) (M : MM) (z : MM), k_11 x0 x1 x2 x3 x4 x5 x6 M = some z → EV m_Filler_tryBoard (rm (d + 3) 0 0) none z 0 0 11 [some (.ref x0), some (.int x1), some (.int x2), some (.int x3), some (.int x4), some (.ref x5), some (.int x6), none, none, none] [] M) (x0 : Nat) (x1 : Int32) (x2 : Int32) (x3 : Int32) (x4 : Int32) (x5 : Nat) (x6 : Int32) (M : MM) (z : MM) (h : f_Filler_tryBoard_229 n r_Filler_search k_11 x0 x1 x2 x3 x4 x5 x6 M = some z) : EV m_Filler_tryBoard (rm (d + 3) 0 0) none z 0 0 229 [some (.ref x0), some (.int x1), some (.int x2), some (.int x3), some (.int x4), some (.ref x5), some (.int x6), none, none, none] [] M := by
  unfold f_Filler_tryBoard_229 at h
  refine e_iinc (v := x6 + 1) (l2 := [some (.ref x0), some (.int x1), some (.int x2), some (.int x3), some (.int x4), some (.ref x5), some (.int (x6 + 1)), none, none, none]) d_Filler_tryBoard_229 rfl rfl rfl (okl rfl) rfl ?_
  refine e_goto 11 d_Filler_tryBoard_232 (by decide) ?_
  exact (hk_11 x0 x1 x2 x3 x4 x5 (x6 + 1) M z h).less (show LSub _ _ from ⟨rfl, ⟨rfl, ⟨rfl, ⟨rfl, ⟨rfl, ⟨rfl, ⟨rfl, trivial⟩⟩⟩⟩⟩⟩⟩)
def f_Filler_tryBoard_11 (n : Nat) (r_Filler_search : Nat → Int32 → Int32 → MM → Option (MM)) : Nat → Nat → Int32 → Int32 → Int32 → Int32 → Nat → Int32 → MM → Option (MM)
  | 0, _, _, _, _, _, _, _, _ => none
  | m + 1, x0, x1, x2, x3, x4, x5, x6, M =>
    if 8 ≤ x6 then
      some M
    else
      (f_Filler_isOver n x0 M).bind fun p2 =>
      if p2.1 = 0 then
        (gR 4 2 x5 p2.2).bind fun v4 =>
        (aI 100 v4 x6 p2.2).bind fun v5 =>
        (gR 4 5 x5 p2.2).bind fun v6 =>
        (aI 100 v6 x6 p2.2).bind fun v7 =>
        if v7 = x6 then
          if (v5 &&& 3) = (x2 &&& 3) then
            nm (α := Int32) (((ishr x2 2) &&& 7) - ((ishr v5 2) &&& 7)) fun y10 =>
            nm (α := Int32) (ishr x2 5) fun y11 =>
            (f_Form_staysOn n x5 x6 y10 y11 p2.2).bind fun p12 =>
            if p12.1 = 0 then
              f_Filler_tryBoard_229 n r_Filler_search (f_Filler_tryBoard_11 n r_Filler_search m) x0 x1 x2 x3 x4 x5 x6 p12.2
            else
              (gI 3 5 x0 p12.2).bind fun v14 =>
              if v14 = 60000 then
                (pZ 3 4 x0 1 p12.2).bind fun M16 =>
                some M16
              else
                (gI 3 5 x0 p12.2).bind fun v17 =>
                (pI 3 5 x0 (v17 + 1) p12.2).bind fun M18 =>
                (gR 4 1 x5 M18).bind fun v19 =>
                (aR 104 v19 x6 M18).bind fun v20 =>
                (gR 4 4 x5 M18).bind fun v21 =>
                (aI 100 v21 x6 M18).bind fun v22 =>
                (f_Filler_fits n x0 v20 v22 y10 y11 M18).bind fun p23 =>
                if p23.1 = 0 then
                  f_Filler_tryBoard_229 n r_Filler_search (f_Filler_tryBoard_11 n r_Filler_search m) x0 x1 x2 x3 x4 x5 x6 p23.2
                else
                  (gR 3 7 x0 p23.2).bind fun v25 =>
                  (f_Filler_layCode n x6 y10 y11 p23.2).bind fun p26 =>
                  (sI 100 v25 x1 p26.1 p26.2).bind fun M27 =>
                  (gR 4 1 x5 M27).bind fun v28 =>
                  (aR 104 v28 x6 M27).bind fun v29 =>
                  (gR 4 4 x5 M27).bind fun v30 =>
                  (aI 100 v30 x6 M27).bind fun v31 =>
                  (f_Filler_change n x0 v29 v31 y10 y11 M27).bind fun M32 =>
                  (r_Filler_search x0 (x3 + 1) (x4 &&& ((ishl 1 x1) ^^^ (-1))) M32).bind fun M33 =>
                  (gR 4 1 x5 M33).bind fun v34 =>
                  (aR 104 v34 x6 M33).bind fun v35 =>
                  (gR 4 4 x5 M33).bind fun v36 =>
                  (aI 100 v36 x6 M33).bind fun v37 =>
                  (f_Filler_change n x0 v35 v37 y10 y11 M33).bind fun M38 =>
                  f_Filler_tryBoard_229 n r_Filler_search (f_Filler_tryBoard_11 n r_Filler_search m) x0 x1 x2 x3 x4 x5 x6 M38
          else
            f_Filler_tryBoard_229 n r_Filler_search (f_Filler_tryBoard_11 n r_Filler_search m) x0 x1 x2 x3 x4 x5 x6 p2.2
        else
          f_Filler_tryBoard_229 n r_Filler_search (f_Filler_tryBoard_11 n r_Filler_search m) x0 x1 x2 x3 x4 x5 x6 p2.2
      else
        some p2.2
theorem t_Filler_tryBoard_11 (n : Nat) (d : Nat) {r_Filler_search : Nat → Int32 → Int32 → MM → Option (MM)} (hr_Filler_search : ∀ (x0 : Nat) (x1 : Int32) (x2 : Int32) (M : MM) (z : MM), r_Filler_search x0 x1 x2 M = some z → CT m_Filler_search (rm d 0 0) [.ref x0, .int x1, .int x2] M none z) (hb_Filler_search : ∀ (x0 : Nat) (x1 : Int32) (x2 : Int32) (M : MM) (z : MM), r_Filler_search x0 x1 x2 M = some z → (M.1.2.1 x0).1 = 3) : ∀ (m : Nat) (x0 : Nat) (x1 : Int32) (x2 : Int32) (x3 : Int32) (x4 : Int32) (x5 : Nat) (x6 : Int32) (M : MM) (z : MM), f_Filler_tryBoard_11 n r_Filler_search m x0 x1 x2 x3 x4 x5 x6 M = some z → EV m_Filler_tryBoard (rm (d + 3) 0 0) none z 0 0 11 [some (.ref x0), some (.int x1), some (.int x2), some (.int x3), some (.int x4), some (.ref x5), some (.int x6), none, none, none] [] M := by
  intro m
  induction m with
  | zero => intro x0 x1 x2 x3 x4 x5 x6 M z h; cases h
  | succ m ih =>
    intro x0 x1 x2 x3 x4 x5 x6 M z h
    rw [f_Filler_tryBoard_11] at h
    refine e_iload d_Filler_tryBoard_11 rfl ?_
    refine e_bipush (v := 8) d_Filler_tryBoard_13 (by decide) ?_
    refine e_ic_ge 235 d_Filler_tryBoard_15 (by decide) (fun c1 => ?_) (fun c1 => ?_)
    · replace h := ift c1 h
      cases h
      exact e_vret d_Filler_tryBoard_235 rfl (Nat.le_refl _) (Nat.le_refl _)
    · replace h := ifn c1 h
      refine e_aload_n d_Filler_tryBoard_18 rfl ?_
      obtain ⟨p2, hp2, h⟩ := bnd h
      refine e_cVi (mt1 := m_Filler_isOver) (As := []) (st := []) d_Filler_tryBoard_19 ml_Filler_101 mv_Filler_isOver (t_Filler_isOver n x0 M p2 hp2) (fc_Filler_isOver hp2) rfl rfl rfl (okp rfl) (by omega) (okp rfl) (Nat.le_refl _) (Nat.le_refl _) ?_
      refine e_if_ne 235 d_Filler_tryBoard_22 (by decide) (fun c3 => ?_) (fun c3 => ?_)
      · replace h := ifn c3 h
        cases h
        exact e_vret d_Filler_tryBoard_235 rfl (Nat.le_refl _) (Nat.le_refl _)
      · replace h := ift c3 h
        refine e_aload d_Filler_tryBoard_25 rfl ?_
        obtain ⟨v4, hv4, h⟩ := bnd h
        refine e_getR d_Filler_tryBoard_27 fl_Filler_115 (fun _ _ _ => rfl) hv4 ?_
        refine e_iload d_Filler_tryBoard_30 rfl ?_
        obtain ⟨v5, hv5, h⟩ := bnd h
        refine e_iald d_Filler_tryBoard_32 hv5 ?_
        refine e_istore (l2 := [some (.ref x0), some (.int x1), some (.int x2), some (.int x3), some (.int x4), some (.ref x5), some (.int x6), some (.int v5), none, none]) d_Filler_tryBoard_33 rfl (okl rfl) rfl ?_
        refine e_aload d_Filler_tryBoard_35 rfl ?_
        obtain ⟨v6, hv6, h⟩ := bnd h
        refine e_getR d_Filler_tryBoard_37 fl_Filler_118 (fun _ _ _ => rfl) hv6 ?_
        refine e_iload d_Filler_tryBoard_40 rfl ?_
        obtain ⟨v7, hv7, h⟩ := bnd h
        refine e_iald d_Filler_tryBoard_42 hv7 ?_
        refine e_iload d_Filler_tryBoard_43 rfl ?_
        refine e_ic_ne 229 d_Filler_tryBoard_45 (by decide) (fun c8 => ?_) (fun c8 => ?_)
        · replace h := ifn c8 h
          exact (t_Filler_tryBoard_229 n d hr_Filler_search hb_Filler_search ih x0 x1 x2 x3 x4 x5 x6 p2.2 z h).less (show LSub _ _ from ⟨rfl, ⟨rfl, ⟨rfl, ⟨rfl, ⟨rfl, ⟨rfl, ⟨rfl, trivial⟩⟩⟩⟩⟩⟩⟩)
        · replace h := ift c8 h
          refine e_iload d_Filler_tryBoard_48 rfl ?_
          refine e_iconst (v := 3) d_Filler_tryBoard_50 (by decide) ?_
          refine e_iand d_Filler_tryBoard_51 ?_
          refine e_iload_n d_Filler_tryBoard_52 rfl ?_
          refine e_iconst (v := 3) d_Filler_tryBoard_53 (by decide) ?_
          refine e_iand d_Filler_tryBoard_54 ?_
          refine e_ic_eq 61 d_Filler_tryBoard_55 (by decide) (fun c9 => ?_) (fun c9 => ?_)
          · replace h := ift c9 h
            refine e_iload_n d_Filler_tryBoard_61 rfl ?_
            refine e_iconst (v := 2) d_Filler_tryBoard_62 (by decide) ?_
            refine e_ishr d_Filler_tryBoard_63 ?_
            refine e_bipush (v := 7) d_Filler_tryBoard_64 (by decide) ?_
            refine e_iand d_Filler_tryBoard_66 ?_
            refine e_iload d_Filler_tryBoard_67 rfl ?_
            refine e_iconst (v := 2) d_Filler_tryBoard_69 (by decide) ?_
            refine e_ishr d_Filler_tryBoard_70 ?_
            refine e_bipush (v := 7) d_Filler_tryBoard_71 (by decide) ?_
            refine e_iand d_Filler_tryBoard_73 ?_
            refine e_isub d_Filler_tryBoard_74 ?_
            obtain ⟨y10, ey10, h⟩ := nm_s h
            refine e_nameI ey10 ?_
            refine e_istore (l2 := [some (.ref x0), some (.int x1), some (.int x2), some (.int x3), some (.int x4), some (.ref x5), some (.int x6), some (.int v5), some (.int y10), none]) d_Filler_tryBoard_75 rfl (okl rfl) rfl ?_
            refine e_iload_n d_Filler_tryBoard_77 rfl ?_
            refine e_iconst (v := 5) d_Filler_tryBoard_78 (by decide) ?_
            refine e_ishr d_Filler_tryBoard_79 ?_
            obtain ⟨y11, ey11, h⟩ := nm_s h
            refine e_nameI ey11 ?_
            refine e_istore (l2 := [some (.ref x0), some (.int x1), some (.int x2), some (.int x3), some (.int x4), some (.ref x5), some (.int x6), some (.int v5), some (.int y10), some (.int y11)]) d_Filler_tryBoard_80 rfl (okl rfl) rfl ?_
            refine e_aload d_Filler_tryBoard_82 rfl ?_
            refine e_iload d_Filler_tryBoard_84 rfl ?_
            refine e_iload d_Filler_tryBoard_86 rfl ?_
            refine e_iload d_Filler_tryBoard_88 rfl ?_
            obtain ⟨p12, hp12, h⟩ := bnd h
            refine e_cVi (mt1 := m_Form_staysOn) (As := [.int x6, .int y10, .int y11]) (st := []) d_Filler_tryBoard_90 ml_Filler_121 mv_Form_staysOn (t_Form_staysOn n x5 x6 y10 y11 p2.2 p12 hp12) (fc_Form_staysOn hp12) rfl rfl rfl (okp rfl) (by omega) (okp rfl) (Nat.le_refl _) (Nat.le_refl _) ?_
            refine e_if_ne 99 d_Filler_tryBoard_93 (by decide) (fun c13 => ?_) (fun c13 => ?_)
            · replace h := ifn c13 h
              refine e_aload_n d_Filler_tryBoard_99 rfl ?_
              obtain ⟨v14, hv14, h⟩ := bnd h
              refine e_getI d_Filler_tryBoard_100 fl_Filler_35 (fun _ _ _ => rfl) hv14 ?_
              refine e_ldc (v := 60000) d_Filler_tryBoard_103 kc_Filler_125 ?_
              refine e_ic_ne 114 d_Filler_tryBoard_105 (by decide) (fun c15 => ?_) (fun c15 => ?_)
              · replace h := ifn c15 h
                refine e_aload_n d_Filler_tryBoard_114 rfl ?_
                refine e_dup d_Filler_tryBoard_115 rfl ?_
                obtain ⟨v17, hv17, h⟩ := bnd h
                refine e_getI d_Filler_tryBoard_116 fl_Filler_35 (fun _ _ _ => rfl) hv17 ?_
                refine e_iconst (v := 1) d_Filler_tryBoard_119 (by decide) ?_
                refine e_iadd d_Filler_tryBoard_120 ?_
                obtain ⟨M18, hM18, h⟩ := bnd h
                refine e_putI d_Filler_tryBoard_121 fl_Filler_35 (Or.inl rfl) (fun _ _ _ => rfl) rfl hM18 ?_
                refine e_aload_n d_Filler_tryBoard_124 rfl ?_
                refine e_aload d_Filler_tryBoard_125 rfl ?_
                obtain ⟨v19, hv19, h⟩ := bnd h
                refine e_getR d_Filler_tryBoard_127 fl_Filler_126 (fun _ _ _ => rfl) hv19 ?_
                refine e_iload d_Filler_tryBoard_130 rfl ?_
                obtain ⟨v20, hv20, h⟩ := bnd h
                refine e_aald (kd := 104) d_Filler_tryBoard_132 (by decide) hv20 ?_
                refine e_aload d_Filler_tryBoard_133 rfl ?_
                obtain ⟨v21, hv21, h⟩ := bnd h
                refine e_getR d_Filler_tryBoard_135 fl_Filler_130 (fun _ _ _ => rfl) hv21 ?_
                refine e_iload d_Filler_tryBoard_138 rfl ?_
                obtain ⟨v22, hv22, h⟩ := bnd h
                refine e_iald d_Filler_tryBoard_140 hv22 ?_
                refine e_iload d_Filler_tryBoard_141 rfl ?_
                refine e_iload d_Filler_tryBoard_143 rfl ?_
                obtain ⟨p23, hp23, h⟩ := bnd h
                refine e_cVi (mt1 := m_Filler_fits) (As := [.ref v20, .int v22, .int y10, .int y11]) (st := []) d_Filler_tryBoard_145 ml_Filler_133 mv_Filler_fits (t_Filler_fits n x0 v20 v22 y10 y11 M18 p23 hp23) (fc_Filler_fits hp23) rfl rfl rfl (okp rfl) (by omega) (okp rfl) (Nat.le_refl _) (Nat.le_refl _) ?_
                refine e_if_eq 229 d_Filler_tryBoard_148 (by decide) (fun c24 => ?_) (fun c24 => ?_)
                · replace h := ift c24 h
                  exact (t_Filler_tryBoard_229 n d hr_Filler_search hb_Filler_search ih x0 x1 x2 x3 x4 x5 x6 p23.2 z h).less (show LSub _ _ from ⟨rfl, ⟨rfl, ⟨rfl, ⟨rfl, ⟨rfl, ⟨rfl, ⟨rfl, trivial⟩⟩⟩⟩⟩⟩⟩)
                · replace h := ifn c24 h
                  refine e_aload_n d_Filler_tryBoard_151 rfl ?_
                  obtain ⟨v25, hv25, h⟩ := bnd h
                  refine e_getR d_Filler_tryBoard_152 fl_Filler_41 (fun _ _ _ => rfl) hv25 ?_
                  refine e_iload_n d_Filler_tryBoard_155 rfl ?_
                  refine e_iload d_Filler_tryBoard_156 rfl ?_
                  refine e_iload d_Filler_tryBoard_158 rfl ?_
                  refine e_iload d_Filler_tryBoard_160 rfl ?_
                  obtain ⟨p26, hp26, h⟩ := bnd h
                  refine e_cSi (mt1 := m_Filler_layCode) (As := [.int x6, .int y10, .int y11]) (st := [.int x1, .ref v25]) d_Filler_tryBoard_162 ml_Filler_137 ms_Filler_layCode (t_Filler_layCode n x6 y10 y11 p23.2 p26 hp26) rfl rfl (okp rfl) (by omega) (okp rfl) (Nat.le_refl _) (Nat.le_refl _) ?_
                  obtain ⟨M27, hM27, h⟩ := bnd h
                  refine e_iast d_Filler_tryBoard_165 hM27 ?_
                  refine e_aload_n d_Filler_tryBoard_166 rfl ?_
                  refine e_aload d_Filler_tryBoard_167 rfl ?_
                  obtain ⟨v28, hv28, h⟩ := bnd h
                  refine e_getR d_Filler_tryBoard_169 fl_Filler_126 (fun _ _ _ => rfl) hv28 ?_
                  refine e_iload d_Filler_tryBoard_172 rfl ?_
                  obtain ⟨v29, hv29, h⟩ := bnd h
                  refine e_aald (kd := 104) d_Filler_tryBoard_174 (by decide) hv29 ?_
                  refine e_aload d_Filler_tryBoard_175 rfl ?_
                  obtain ⟨v30, hv30, h⟩ := bnd h
                  refine e_getR d_Filler_tryBoard_177 fl_Filler_130 (fun _ _ _ => rfl) hv30 ?_
                  refine e_iload d_Filler_tryBoard_180 rfl ?_
                  obtain ⟨v31, hv31, h⟩ := bnd h
                  refine e_iald d_Filler_tryBoard_182 hv31 ?_
                  refine e_iload d_Filler_tryBoard_183 rfl ?_
                  refine e_iload d_Filler_tryBoard_185 rfl ?_
                  obtain ⟨M32, hM32, h⟩ := bnd h
                  refine e_cVv (mt1 := m_Filler_change) (As := [.ref v29, .int v31, .int y10, .int y11]) (st := []) d_Filler_tryBoard_187 ml_Filler_141 mv_Filler_change (t_Filler_change n x0 v29 v31 y10 y11 M27 M32 hM32) (fc_Filler_change hM32) rfl rfl rfl (okp rfl) (by omega) (okp rfl) (Nat.le_refl _) (Nat.le_refl _) ?_
                  refine e_aload_n d_Filler_tryBoard_190 rfl ?_
                  refine e_iload_n d_Filler_tryBoard_191 rfl ?_
                  refine e_iconst (v := 1) d_Filler_tryBoard_192 (by decide) ?_
                  refine e_iadd d_Filler_tryBoard_193 ?_
                  refine e_iload d_Filler_tryBoard_194 rfl ?_
                  refine e_iconst (v := 1) d_Filler_tryBoard_196 (by decide) ?_
                  refine e_iload_n d_Filler_tryBoard_197 rfl ?_
                  refine e_ishl d_Filler_tryBoard_198 ?_
                  refine e_iconst (v := (-1)) d_Filler_tryBoard_199 (by decide) ?_
                  refine e_ixor d_Filler_tryBoard_200 ?_
                  refine e_iand d_Filler_tryBoard_201 ?_
                  obtain ⟨M33, hM33, h⟩ := bnd h
                  refine e_cVv (mt1 := m_Filler_search) (As := [.int (x3 + 1), .int (x4 &&& ((ishl 1 x1) ^^^ (-1)))]) (st := []) d_Filler_tryBoard_202 ml_Filler_90 mv_Filler_search (hr_Filler_search x0 (x3 + 1) (x4 &&& ((ishl 1 x1) ^^^ (-1))) M32 M33 hM33) (hb_Filler_search x0 (x3 + 1) (x4 &&& ((ishl 1 x1) ^^^ (-1))) M32 M33 hM33) rfl rfl rfl (okp rfl) (by omega) (okp rfl) (Nat.le_refl _) (Nat.le_refl _) ?_
                  refine e_aload_n d_Filler_tryBoard_205 rfl ?_
                  refine e_aload d_Filler_tryBoard_206 rfl ?_
                  obtain ⟨v34, hv34, h⟩ := bnd h
                  refine e_getR d_Filler_tryBoard_208 fl_Filler_126 (fun _ _ _ => rfl) hv34 ?_
                  refine e_iload d_Filler_tryBoard_211 rfl ?_
                  obtain ⟨v35, hv35, h⟩ := bnd h
                  refine e_aald (kd := 104) d_Filler_tryBoard_213 (by decide) hv35 ?_
                  refine e_aload d_Filler_tryBoard_214 rfl ?_
                  obtain ⟨v36, hv36, h⟩ := bnd h
                  refine e_getR d_Filler_tryBoard_216 fl_Filler_130 (fun _ _ _ => rfl) hv36 ?_
                  refine e_iload d_Filler_tryBoard_219 rfl ?_
                  obtain ⟨v37, hv37, h⟩ := bnd h
                  refine e_iald d_Filler_tryBoard_221 hv37 ?_
                  refine e_iload d_Filler_tryBoard_222 rfl ?_
                  refine e_iload d_Filler_tryBoard_224 rfl ?_
                  obtain ⟨M38, hM38, h⟩ := bnd h
                  refine e_cVv (mt1 := m_Filler_change) (As := [.ref v35, .int v37, .int y10, .int y11]) (st := []) d_Filler_tryBoard_226 ml_Filler_141 mv_Filler_change (t_Filler_change n x0 v35 v37 y10 y11 M33 M38 hM38) (fc_Filler_change hM38) rfl rfl rfl (okp rfl) (by omega) (okp rfl) (Nat.le_refl _) (Nat.le_refl _) ?_
                  exact (t_Filler_tryBoard_229 n d hr_Filler_search hb_Filler_search ih x0 x1 x2 x3 x4 x5 x6 M38 z h).less (show LSub _ _ from ⟨rfl, ⟨rfl, ⟨rfl, ⟨rfl, ⟨rfl, ⟨rfl, ⟨rfl, trivial⟩⟩⟩⟩⟩⟩⟩)
              · replace h := ift c15 h
                refine e_aload_n d_Filler_tryBoard_108 rfl ?_
                refine e_iconst (v := 1) d_Filler_tryBoard_109 (by decide) ?_
                obtain ⟨M16, hM16, h⟩ := bnd h
                refine e_putZ d_Filler_tryBoard_110 fl_Filler_32 (Or.inl rfl) (fun _ _ _ => rfl) rfl hM16 ?_
                cases h
                exact e_vret d_Filler_tryBoard_113 rfl (Nat.le_refl _) (Nat.le_refl _)
            · replace h := ift c13 h
              refine e_goto 229 d_Filler_tryBoard_96 (by decide) ?_
              exact (t_Filler_tryBoard_229 n d hr_Filler_search hb_Filler_search ih x0 x1 x2 x3 x4 x5 x6 p12.2 z h).less (show LSub _ _ from ⟨rfl, ⟨rfl, ⟨rfl, ⟨rfl, ⟨rfl, ⟨rfl, ⟨rfl, trivial⟩⟩⟩⟩⟩⟩⟩)
          · replace h := ifn c9 h
            refine e_goto 229 d_Filler_tryBoard_58 (by decide) ?_
            exact (t_Filler_tryBoard_229 n d hr_Filler_search hb_Filler_search ih x0 x1 x2 x3 x4 x5 x6 p2.2 z h).less (show LSub _ _ from ⟨rfl, ⟨rfl, ⟨rfl, ⟨rfl, ⟨rfl, ⟨rfl, ⟨rfl, trivial⟩⟩⟩⟩⟩⟩⟩)
def f_Filler_tryBoard (n : Nat) (r_Filler_search : Nat → Int32 → Int32 → MM → Option (MM)) (x0 : Nat) (x1 : Int32) (x2 : Int32) (x3 : Int32) (x4 : Int32) (M : MM) : Option (MM) :=
  og 3 x0 M <|
  (gR 3 1 x0 M).bind fun v39 =>
  (aR 105 v39 x1 M).bind fun v40 =>
  f_Filler_tryBoard_11 n r_Filler_search n x0 x1 x2 x3 x4 v40 0 M
theorem fc_Filler_tryBoard {n : Nat} {r_Filler_search : Nat → Int32 → Int32 → MM → Option (MM)} {x0 : Nat} {x1 : Int32} {x2 : Int32} {x3 : Int32} {x4 : Int32} {M : MM} {z : MM} (h : f_Filler_tryBoard n r_Filler_search x0 x1 x2 x3 x4 M = some z) : (M.1.2.1 x0).1 = 3 := by
  unfold f_Filler_tryBoard at h
  exact (og_s h).1
theorem t_Filler_tryBoard (n : Nat) (d : Nat) {r_Filler_search : Nat → Int32 → Int32 → MM → Option (MM)} (hr_Filler_search : ∀ (x0 : Nat) (x1 : Int32) (x2 : Int32) (M : MM) (z : MM), r_Filler_search x0 x1 x2 M = some z → CT m_Filler_search (rm d 0 0) [.ref x0, .int x1, .int x2] M none z) (hb_Filler_search : ∀ (x0 : Nat) (x1 : Int32) (x2 : Int32) (M : MM) (z : MM), r_Filler_search x0 x1 x2 M = some z → (M.1.2.1 x0).1 = 3) (x0 : Nat) (x1 : Int32) (x2 : Int32) (x3 : Int32) (x4 : Int32) (M : MM) (z : MM) (h : f_Filler_tryBoard n r_Filler_search x0 x1 x2 x3 x4 M = some z) : CT m_Filler_tryBoard (rm (d + 3) 0 0) [.ref x0, .int x1, .int x2, .int x3, .int x4] M none z := by
  unfold f_Filler_tryBoard at h
  obtain ⟨hthis, h⟩ := og_s h
  refine CT.of (ls := [some (.ref x0), some (.int x1), some (.int x2), some (.int x3), some (.int x4), none, none, none, none, none]) rfl (okp rfl) rfl ?_
  refine e_aload_n d_Filler_tryBoard_0 rfl ?_
  obtain ⟨v39, hv39, h⟩ := bnd h
  refine e_getR d_Filler_tryBoard_1 fl_Filler_13 (fun _ _ _ => rfl) hv39 ?_
  refine e_iload_n d_Filler_tryBoard_4 rfl ?_
  obtain ⟨v40, hv40, h⟩ := bnd h
  refine e_aald (kd := 105) d_Filler_tryBoard_5 (by decide) hv40 ?_
  refine e_astore (l2 := [some (.ref x0), some (.int x1), some (.int x2), some (.int x3), some (.int x4), some (.ref v40), none, none, none, none]) d_Filler_tryBoard_6 rfl (okl rfl) rfl ?_
  refine e_iconst (v := 0) d_Filler_tryBoard_8 (by decide) ?_
  refine e_istore (l2 := [some (.ref x0), some (.int x1), some (.int x2), some (.int x3), some (.int x4), some (.ref v40), some (.int 0), none, none, none]) d_Filler_tryBoard_9 rfl (okl rfl) rfl ?_
  exact (t_Filler_tryBoard_11 n d hr_Filler_search hb_Filler_search n x0 x1 x2 x3 x4 v40 0 M z h).less (show LSub _ _ from ⟨rfl, ⟨rfl, ⟨rfl, ⟨rfl, ⟨rfl, ⟨rfl, ⟨rfl, trivial⟩⟩⟩⟩⟩⟩⟩)
theorem d_Filler_search_0 : DC m_Filler_search 0 (.aload_n 0) 1 1 := ⟨by decide +kernel, rfl⟩
theorem d_Filler_search_1 : DC m_Filler_search 1 (.getfield 24) 3 4 := ⟨by decide +kernel, rfl⟩
theorem d_Filler_search_4 : DC m_Filler_search 4 (.invokevirtual 94) 3 7 := ⟨by decide +kernel, rfl⟩
theorem d_Filler_search_7 : DC m_Filler_search 7 (.istore_n 3) 1 8 := ⟨by decide +kernel, rfl⟩
theorem d_Filler_search_8 : DC m_Filler_search 8 (.iload_n 2) 1 9 := ⟨by decide +kernel, rfl⟩
theorem d_Filler_search_9 : DC m_Filler_search 9 (.ifCond .ne 10) 3 12 := ⟨by decide +kernel, rfl⟩
theorem d_Filler_search_12 : DC m_Filler_search 12 (.aload_n 0) 1 13 := ⟨by decide +kernel, rfl⟩
theorem d_Filler_search_13 : DC m_Filler_search 13 (.invokevirtual 98) 3 16 := ⟨by decide +kernel, rfl⟩
theorem d_Filler_search_16 : DC m_Filler_search 16 (.goto 54) 3 19 := ⟨by decide +kernel, rfl⟩
theorem d_Filler_search_19 : DC m_Filler_search 19 (.iload_n 1) 1 20 := ⟨by decide +kernel, rfl⟩
theorem d_Filler_search_20 : DC m_Filler_search 20 (.bipush 8) 2 22 := ⟨by decide +kernel, rfl⟩
theorem d_Filler_search_22 : DC m_Filler_search 22 (.if_icmp .ge 48) 3 25 := ⟨by decide +kernel, rfl⟩
theorem d_Filler_search_25 : DC m_Filler_search 25 (.iload_n 3) 1 26 := ⟨by decide +kernel, rfl⟩
theorem d_Filler_search_26 : DC m_Filler_search 26 (.ifCond .lt 44) 3 29 := ⟨by decide +kernel, rfl⟩
theorem d_Filler_search_29 : DC m_Filler_search 29 (.iconst 0) 1 30 := ⟨by decide +kernel, rfl⟩
theorem d_Filler_search_30 : DC m_Filler_search 30 (.istore 4) 2 32 := ⟨by decide +kernel, rfl⟩
theorem d_Filler_search_32 : DC m_Filler_search 32 (.iload 4) 2 34 := ⟨by decide +kernel, rfl⟩
theorem d_Filler_search_34 : DC m_Filler_search 34 (.bipush 8) 2 36 := ⟨by decide +kernel, rfl⟩
theorem d_Filler_search_36 : DC m_Filler_search 36 (.if_icmp .ge 34) 3 39 := ⟨by decide +kernel, rfl⟩
theorem d_Filler_search_39 : DC m_Filler_search 39 (.aload_n 0) 1 40 := ⟨by decide +kernel, rfl⟩
theorem d_Filler_search_40 : DC m_Filler_search 40 (.invokevirtual 101) 3 43 := ⟨by decide +kernel, rfl⟩
theorem d_Filler_search_43 : DC m_Filler_search 43 (.ifCond .ne 27) 3 46 := ⟨by decide +kernel, rfl⟩
theorem d_Filler_search_46 : DC m_Filler_search 46 (.iload_n 2) 1 47 := ⟨by decide +kernel, rfl⟩
theorem d_Filler_search_47 : DC m_Filler_search 47 (.iload 4) 2 49 := ⟨by decide +kernel, rfl⟩
theorem d_Filler_search_49 : DC m_Filler_search 49 .iushr 1 50 := ⟨by decide +kernel, rfl⟩
theorem d_Filler_search_50 : DC m_Filler_search 50 (.iconst 1) 1 51 := ⟨by decide +kernel, rfl⟩
theorem d_Filler_search_51 : DC m_Filler_search 51 .iand 1 52 := ⟨by decide +kernel, rfl⟩
theorem d_Filler_search_52 : DC m_Filler_search 52 (.ifCond .eq 12) 3 55 := ⟨by decide +kernel, rfl⟩
theorem d_Filler_search_55 : DC m_Filler_search 55 (.aload_n 0) 1 56 := ⟨by decide +kernel, rfl⟩
theorem d_Filler_search_56 : DC m_Filler_search 56 (.iload 4) 2 58 := ⟨by decide +kernel, rfl⟩
theorem d_Filler_search_58 : DC m_Filler_search 58 (.iload_n 3) 1 59 := ⟨by decide +kernel, rfl⟩
theorem d_Filler_search_59 : DC m_Filler_search 59 (.iload_n 1) 1 60 := ⟨by decide +kernel, rfl⟩
theorem d_Filler_search_60 : DC m_Filler_search 60 (.iload_n 2) 1 61 := ⟨by decide +kernel, rfl⟩
theorem d_Filler_search_61 : DC m_Filler_search 61 (.invokevirtual 105) 3 64 := ⟨by decide +kernel, rfl⟩
theorem d_Filler_search_64 : DC m_Filler_search 64 (.iinc 4 1) 3 67 := ⟨by decide +kernel, rfl⟩
theorem d_Filler_search_67 : DC m_Filler_search 67 (.goto (-35)) 3 70 := ⟨by decide +kernel, rfl⟩
theorem d_Filler_search_70 : DC m_Filler_search 70 .return_ 1 71 := ⟨by decide +kernel, rfl⟩
def f_Filler_search_64 (n : Nat) (r_Filler_search : Nat → Int32 → Int32 → MM → Option (MM)) (k_32 : Nat → Int32 → Int32 → Int32 → Int32 → MM → Option (MM)) (x0 : Nat) (x1 : Int32) (x2 : Int32) (x3 : Int32) (x4 : Int32) (M : MM) : Option (MM) :=
  k_32 x0 x1 x2 x3 (x4 + 1) M
theorem t_Filler_search_64 (n : Nat) (d : Nat) {r_Filler_search : Nat → Int32 → Int32 → MM → Option (MM)} {k_32 : Nat → Int32 → Int32 → Int32 → Int32 → MM → Option (MM)} (hr_Filler_search : ∀ (x0 : Nat) (x1 : Int32) (x2 : Int32) (M : MM) (z : MM), r_Filler_search x0 x1 x2 M = some z → CT m_Filler_search (rm d 0 0) [.ref x0, .int x1, .int x2] M none z) (hb_Filler_search : ∀ (x0 : Nat) (x1 : Int32) (x2 : Int32) (M : MM) (z : MM), r_Filler_search x0 x1 x2 M = some z → (M.1.2.1 x0).1 = 3) (hk_32 : ∀ (x0 : Nat) (x1 : Int32) (x2 : Int32) (x3 : Int32) (x4 : Int32) (M : MM) (z : MM), k_32 x0 x1 x2 x3 x4 M = some z → EV m_Filler_search (rm (d + 4) 0 0) none z 0 0 32 [some (.ref x0), some (.int x1), some (.int x2), some (.int x3), some (.int x4)] [] M) (x0 : Nat) (x1 : Int32) (x2 : Int32) (x3 : Int32) (x4 : Int32) (M : MM) (z : MM) (h : f_Filler_search_64 n r_Filler_search k_32 x0 x1 x2 x3 x4 M = some z) : EV m_Filler_search (rm (d + 4) 0 0) none z 0 0 64 [some (.ref x0), some (.int x1), some (.int x2), some (.int x3), some (.int x4)] [] M := by
  unfold f_Filler_search_64 at h
  refine e_iinc (v := x4 + 1) (l2 := [some (.ref x0), some (.int x1), some (.int x2), some (.int x3), some (.int (x4 + 1))]) d_Filler_search_64 rfl rfl rfl (okl rfl) rfl ?_
  refine e_goto 32 d_Filler_search_67 (by decide) ?_
  exact (hk_32 x0 x1 x2 x3 (x4 + 1) M z h).less (show LSub _ _ from ⟨rfl, ⟨rfl, ⟨rfl, ⟨rfl, ⟨rfl, trivial⟩⟩⟩⟩⟩)
def f_Filler_search_32 (n : Nat) (r_Filler_search : Nat → Int32 → Int32 → MM → Option (MM)) : Nat → Nat → Int32 → Int32 → Int32 → Int32 → MM → Option (MM)
  | 0, _, _, _, _, _, _ => none
  | m + 1, x0, x1, x2, x3, x4, M =>
    if 8 ≤ x4 then
      some M
    else
      (f_Filler_isOver n x0 M).bind fun p2 =>
      if p2.1 = 0 then
        if ((ushr x2 x4) &&& 1) = 0 then
          f_Filler_search_64 n r_Filler_search (f_Filler_search_32 n r_Filler_search m) x0 x1 x2 x3 x4 p2.2
        else
          (f_Filler_tryBoard n r_Filler_search x0 x4 x3 x1 x2 p2.2).bind fun M5 =>
          f_Filler_search_64 n r_Filler_search (f_Filler_search_32 n r_Filler_search m) x0 x1 x2 x3 x4 M5
      else
        some p2.2
theorem t_Filler_search_32 (n : Nat) (d : Nat) {r_Filler_search : Nat → Int32 → Int32 → MM → Option (MM)} (hr_Filler_search : ∀ (x0 : Nat) (x1 : Int32) (x2 : Int32) (M : MM) (z : MM), r_Filler_search x0 x1 x2 M = some z → CT m_Filler_search (rm d 0 0) [.ref x0, .int x1, .int x2] M none z) (hb_Filler_search : ∀ (x0 : Nat) (x1 : Int32) (x2 : Int32) (M : MM) (z : MM), r_Filler_search x0 x1 x2 M = some z → (M.1.2.1 x0).1 = 3) : ∀ (m : Nat) (x0 : Nat) (x1 : Int32) (x2 : Int32) (x3 : Int32) (x4 : Int32) (M : MM) (z : MM), f_Filler_search_32 n r_Filler_search m x0 x1 x2 x3 x4 M = some z → EV m_Filler_search (rm (d + 4) 0 0) none z 0 0 32 [some (.ref x0), some (.int x1), some (.int x2), some (.int x3), some (.int x4)] [] M := by
  intro m
  induction m with
  | zero => intro x0 x1 x2 x3 x4 M z h; cases h
  | succ m ih =>
    intro x0 x1 x2 x3 x4 M z h
    rw [f_Filler_search_32] at h
    refine e_iload d_Filler_search_32 rfl ?_
    refine e_bipush (v := 8) d_Filler_search_34 (by decide) ?_
    refine e_ic_ge 70 d_Filler_search_36 (by decide) (fun c1 => ?_) (fun c1 => ?_)
    · replace h := ift c1 h
      cases h
      exact e_vret d_Filler_search_70 rfl (Nat.le_refl _) (Nat.le_refl _)
    · replace h := ifn c1 h
      refine e_aload_n d_Filler_search_39 rfl ?_
      obtain ⟨p2, hp2, h⟩ := bnd h
      refine e_cVi (mt1 := m_Filler_isOver) (As := []) (st := []) d_Filler_search_40 ml_Filler_101 mv_Filler_isOver (t_Filler_isOver n x0 M p2 hp2) (fc_Filler_isOver hp2) rfl rfl rfl (okp rfl) (by omega) (okp rfl) (Nat.le_refl _) (Nat.le_refl _) ?_
      refine e_if_ne 70 d_Filler_search_43 (by decide) (fun c3 => ?_) (fun c3 => ?_)
      · replace h := ifn c3 h
        cases h
        exact e_vret d_Filler_search_70 rfl (Nat.le_refl _) (Nat.le_refl _)
      · replace h := ift c3 h
        refine e_iload_n d_Filler_search_46 rfl ?_
        refine e_iload d_Filler_search_47 rfl ?_
        refine e_iushr d_Filler_search_49 ?_
        refine e_iconst (v := 1) d_Filler_search_50 (by decide) ?_
        refine e_iand d_Filler_search_51 ?_
        refine e_if_eq 64 d_Filler_search_52 (by decide) (fun c4 => ?_) (fun c4 => ?_)
        · replace h := ift c4 h
          exact (t_Filler_search_64 n d hr_Filler_search hb_Filler_search ih x0 x1 x2 x3 x4 p2.2 z h).less (show LSub _ _ from ⟨rfl, ⟨rfl, ⟨rfl, ⟨rfl, ⟨rfl, trivial⟩⟩⟩⟩⟩)
        · replace h := ifn c4 h
          refine e_aload_n d_Filler_search_55 rfl ?_
          refine e_iload d_Filler_search_56 rfl ?_
          refine e_iload_n d_Filler_search_58 rfl ?_
          refine e_iload_n d_Filler_search_59 rfl ?_
          refine e_iload_n d_Filler_search_60 rfl ?_
          obtain ⟨M5, hM5, h⟩ := bnd h
          refine e_cVv (mt1 := m_Filler_tryBoard) (As := [.int x4, .int x3, .int x1, .int x2]) (st := []) d_Filler_search_61 ml_Filler_105 mv_Filler_tryBoard (t_Filler_tryBoard n d hr_Filler_search hb_Filler_search x0 x4 x3 x1 x2 p2.2 M5 hM5) (fc_Filler_tryBoard hM5) rfl rfl rfl (okp rfl) (by omega) (okp rfl) (Nat.le_refl _) (Nat.le_refl _) ?_
          exact (t_Filler_search_64 n d hr_Filler_search hb_Filler_search ih x0 x1 x2 x3 x4 M5 z h).less (show LSub _ _ from ⟨rfl, ⟨rfl, ⟨rfl, ⟨rfl, ⟨rfl, trivial⟩⟩⟩⟩⟩)
def f_Filler_search (n : Nat) (r_Filler_search : Nat → Int32 → Int32 → MM → Option (MM)) (x0 : Nat) (x1 : Int32) (x2 : Int32) (M : MM) : Option (MM) :=
  og 3 x0 M <|
  (gR 3 2 x0 M).bind fun v6 =>
  (f_Shape_lowestQuarter n v6 M).bind fun p7 =>
  if x2 = 0 then
    (f_Filler_countWay n x0 p7.2).bind fun M9 =>
    some M9
  else
    if 8 ≤ x1 then
      some p7.2
    else
      if p7.1 < 0 then
        some p7.2
      else
        f_Filler_search_32 n r_Filler_search n x0 x1 x2 p7.1 0 p7.2
theorem fc_Filler_search {n : Nat} {r_Filler_search : Nat → Int32 → Int32 → MM → Option (MM)} {x0 : Nat} {x1 : Int32} {x2 : Int32} {M : MM} {z : MM} (h : f_Filler_search n r_Filler_search x0 x1 x2 M = some z) : (M.1.2.1 x0).1 = 3 := by
  unfold f_Filler_search at h
  exact (og_s h).1
theorem t_Filler_search (n : Nat) (d : Nat) {r_Filler_search : Nat → Int32 → Int32 → MM → Option (MM)} (hr_Filler_search : ∀ (x0 : Nat) (x1 : Int32) (x2 : Int32) (M : MM) (z : MM), r_Filler_search x0 x1 x2 M = some z → CT m_Filler_search (rm d 0 0) [.ref x0, .int x1, .int x2] M none z) (hb_Filler_search : ∀ (x0 : Nat) (x1 : Int32) (x2 : Int32) (M : MM) (z : MM), r_Filler_search x0 x1 x2 M = some z → (M.1.2.1 x0).1 = 3) (x0 : Nat) (x1 : Int32) (x2 : Int32) (M : MM) (z : MM) (h : f_Filler_search n r_Filler_search x0 x1 x2 M = some z) : CT m_Filler_search (rm (d + 4) 0 0) [.ref x0, .int x1, .int x2] M none z := by
  unfold f_Filler_search at h
  obtain ⟨hthis, h⟩ := og_s h
  refine CT.of (ls := [some (.ref x0), some (.int x1), some (.int x2), none, none]) rfl (okp rfl) rfl ?_
  refine e_aload_n d_Filler_search_0 rfl ?_
  obtain ⟨v6, hv6, h⟩ := bnd h
  refine e_getR d_Filler_search_1 fl_Filler_24 (fun _ _ _ => rfl) hv6 ?_
  obtain ⟨p7, hp7, h⟩ := bnd h
  refine e_cVi (mt1 := m_Shape_lowestQuarter) (As := []) (st := []) d_Filler_search_4 ml_Filler_94 mv_Shape_lowestQuarter (t_Shape_lowestQuarter n v6 M p7 hp7) (fc_Shape_lowestQuarter hp7) rfl rfl rfl (okp rfl) (by omega) (okp rfl) (Nat.le_refl _) (Nat.le_refl _) ?_
  refine e_istore_n (l2 := [some (.ref x0), some (.int x1), some (.int x2), some (.int p7.1), none]) d_Filler_search_7 rfl (okl rfl) rfl ?_
  refine e_iload_n d_Filler_search_8 rfl ?_
  refine e_if_ne 19 d_Filler_search_9 (by decide) (fun c8 => ?_) (fun c8 => ?_)
  · replace h := ifn c8 h
    refine e_iload_n d_Filler_search_19 rfl ?_
    refine e_bipush (v := 8) d_Filler_search_20 (by decide) ?_
    refine e_ic_ge 70 d_Filler_search_22 (by decide) (fun c10 => ?_) (fun c10 => ?_)
    · replace h := ift c10 h
      cases h
      exact e_vret d_Filler_search_70 rfl (Nat.le_refl _) (Nat.le_refl _)
    · replace h := ifn c10 h
      refine e_iload_n d_Filler_search_25 rfl ?_
      refine e_if_lt 70 d_Filler_search_26 (by decide) (fun c11 => ?_) (fun c11 => ?_)
      · replace h := ift c11 h
        cases h
        exact e_vret d_Filler_search_70 rfl (Nat.le_refl _) (Nat.le_refl _)
      · replace h := ifn c11 h
        refine e_iconst (v := 0) d_Filler_search_29 (by decide) ?_
        refine e_istore (l2 := [some (.ref x0), some (.int x1), some (.int x2), some (.int p7.1), some (.int 0)]) d_Filler_search_30 rfl (okl rfl) rfl ?_
        exact (t_Filler_search_32 n d hr_Filler_search hb_Filler_search n x0 x1 x2 p7.1 0 p7.2 z h).less (show LSub _ _ from ⟨rfl, ⟨rfl, ⟨rfl, ⟨rfl, ⟨rfl, trivial⟩⟩⟩⟩⟩)
  · replace h := ift c8 h
    refine e_aload_n d_Filler_search_12 rfl ?_
    obtain ⟨M9, hM9, h⟩ := bnd h
    refine e_cVv (mt1 := m_Filler_countWay) (As := []) (st := []) d_Filler_search_13 ml_Filler_98 mv_Filler_countWay (t_Filler_countWay n x0 p7.2 M9 hM9) (fc_Filler_countWay hM9) rfl rfl rfl (okp rfl) (by omega) (okp rfl) (Nat.le_refl _) (Nat.le_refl _) ?_
    refine e_goto 70 d_Filler_search_16 (by decide) ?_
    cases h
    exact e_vret d_Filler_search_70 rfl (Nat.le_refl _) (Nat.le_refl _)
def F_Filler_search (n : Nat) : Nat → Nat → Int32 → Int32 → MM → Option (MM)
  | 0, _, _, _, _ => none
  | j + 1, x0, x1, x2, M => f_Filler_search n (F_Filler_search n j) x0 x1 x2 M
theorem FC_Filler_search {n : Nat} : ∀ {j : Nat} {x0 : Nat} {x1 : Int32} {x2 : Int32} {M : MM} {z : MM}, F_Filler_search n j x0 x1 x2 M = some z → (M.1.2.1 x0).1 = 3
  | 0, _, _, _, _, _, h => by cases h
  | j + 1, _, _, _, _, _, h => fc_Filler_search (by rw [F_Filler_search] at h; exact h)
theorem T_Filler_search (n : Nat) : ∀ (j : Nat) (x0 : Nat) (x1 : Int32) (x2 : Int32) (M : MM) (z : MM), F_Filler_search n j x0 x1 x2 M = some z → CT m_Filler_search (rm (4 * j) 0 0) [.ref x0, .int x1, .int x2] M none z
  | 0, _, _, _, _, _, h => by cases h
  | j + 1, x0, x1, x2, M, z, h => by
    rw [F_Filler_search] at h
    have := t_Filler_search n (4 * j) (T_Filler_search n j) (fun x0 x1 x2 M z h => FC_Filler_search h) x0 x1 x2 M z h
    rw [Nat.mul_succ]; exact this
theorem d_Filler_look_0 : DC m_Filler_look 0 (.aload_n 0) 1 1 := ⟨by decide +kernel, rfl⟩
theorem d_Filler_look_1 : DC m_Filler_look 1 (.iload_n 3) 1 2 := ⟨by decide +kernel, rfl⟩
theorem d_Filler_look_2 : DC m_Filler_look 2 (.putfield 28) 3 5 := ⟨by decide +kernel, rfl⟩
theorem d_Filler_look_5 : DC m_Filler_look 5 (.aload_n 0) 1 6 := ⟨by decide +kernel, rfl⟩
theorem d_Filler_look_6 : DC m_Filler_look 6 (.iconst 0) 1 7 := ⟨by decide +kernel, rfl⟩
theorem d_Filler_look_7 : DC m_Filler_look 7 (.putfield 32) 3 10 := ⟨by decide +kernel, rfl⟩
theorem d_Filler_look_10 : DC m_Filler_look 10 (.aload_n 0) 1 11 := ⟨by decide +kernel, rfl⟩
theorem d_Filler_look_11 : DC m_Filler_look 11 (.iconst 0) 1 12 := ⟨by decide +kernel, rfl⟩
theorem d_Filler_look_12 : DC m_Filler_look 12 (.putfield 35) 3 15 := ⟨by decide +kernel, rfl⟩
theorem d_Filler_look_15 : DC m_Filler_look 15 (.aload_n 0) 1 16 := ⟨by decide +kernel, rfl⟩
theorem d_Filler_look_16 : DC m_Filler_look 16 (.iconst 0) 1 17 := ⟨by decide +kernel, rfl⟩
theorem d_Filler_look_17 : DC m_Filler_look 17 (.putfield 38) 3 20 := ⟨by decide +kernel, rfl⟩
theorem d_Filler_look_20 : DC m_Filler_look 20 (.aload_n 0) 1 21 := ⟨by decide +kernel, rfl⟩
theorem d_Filler_look_21 : DC m_Filler_look 21 (.iload_n 2) 1 22 := ⟨by decide +kernel, rfl⟩
theorem d_Filler_look_22 : DC m_Filler_look 22 (.invokevirtual 76) 3 25 := ⟨by decide +kernel, rfl⟩
theorem d_Filler_look_25 : DC m_Filler_look 25 (.aload_n 1) 1 26 := ⟨by decide +kernel, rfl⟩
theorem d_Filler_look_26 : DC m_Filler_look 26 (.getfield 80) 3 29 := ⟨by decide +kernel, rfl⟩
theorem d_Filler_look_29 : DC m_Filler_look 29 (.if_icmp .ne 20) 3 32 := ⟨by decide +kernel, rfl⟩
theorem d_Filler_look_32 : DC m_Filler_look 32 (.aload_n 0) 1 33 := ⟨by decide +kernel, rfl⟩
theorem d_Filler_look_33 : DC m_Filler_look 33 (.getfield 24) 3 36 := ⟨by decide +kernel, rfl⟩
theorem d_Filler_look_36 : DC m_Filler_look 36 (.aload_n 1) 1 37 := ⟨by decide +kernel, rfl⟩
theorem d_Filler_look_37 : DC m_Filler_look 37 (.getfield 83) 3 40 := ⟨by decide +kernel, rfl⟩
theorem d_Filler_look_40 : DC m_Filler_look 40 (.invokevirtual 86) 3 43 := ⟨by decide +kernel, rfl⟩
theorem d_Filler_look_43 : DC m_Filler_look 43 (.aload_n 0) 1 44 := ⟨by decide +kernel, rfl⟩
theorem d_Filler_look_44 : DC m_Filler_look 44 (.iconst 0) 1 45 := ⟨by decide +kernel, rfl⟩
theorem d_Filler_look_45 : DC m_Filler_look 45 (.iload_n 2) 1 46 := ⟨by decide +kernel, rfl⟩
theorem d_Filler_look_46 : DC m_Filler_look 46 (.invokevirtual 90) 3 49 := ⟨by decide +kernel, rfl⟩
theorem d_Filler_look_49 : DC m_Filler_look 49 .return_ 1 50 := ⟨by decide +kernel, rfl⟩
def f_Filler_look (n : Nat) (x0 : Nat) (x1 : Nat) (x2 : Int32) (x3 : Int32) (M : MM) : Option (MM) :=
  og 3 x0 M <|
  (pZ 3 3 x0 x3 M).bind fun M1 =>
  (pZ 3 4 x0 0 M1).bind fun M2 =>
  (pI 3 5 x0 0 M2).bind fun M3 =>
  (pI 3 6 x0 0 M3).bind fun M4 =>
  (f_Filler_areaOf n x0 x2 M4).bind fun p5 =>
  (gI 4 6 x1 p5.2).bind fun v6 =>
  if p5.1 = v6 then
    (gR 3 2 x0 p5.2).bind fun v8 =>
    (gR 4 0 x1 p5.2).bind fun v9 =>
    (f_Shape_copy n v8 v9 p5.2).bind fun M10 =>
    (F_Filler_search n 10 x0 0 x2 M10).bind fun M11 =>
    some M11
  else
    some p5.2
theorem fc_Filler_look {n : Nat} {x0 : Nat} {x1 : Nat} {x2 : Int32} {x3 : Int32} {M : MM} {z : MM} (h : f_Filler_look n x0 x1 x2 x3 M = some z) : (M.1.2.1 x0).1 = 3 := by
  unfold f_Filler_look at h
  exact (og_s h).1
theorem t_Filler_look (n : Nat) (x0 : Nat) (x1 : Nat) (x2 : Int32) (x3 : Int32) (M : MM) (z : MM) (h : f_Filler_look n x0 x1 x2 x3 M = some z) : CT m_Filler_look (rm 41 0 0) [.ref x0, .ref x1, .int x2, .int x3] M none z := by
  unfold f_Filler_look at h
  obtain ⟨hthis, h⟩ := og_s h
  refine CT.of (ls := [some (.ref x0), some (.ref x1), some (.int x2), some (.int x3)]) rfl (okp rfl) rfl ?_
  refine e_aload_n d_Filler_look_0 rfl ?_
  refine e_iload_n d_Filler_look_1 rfl ?_
  obtain ⟨M1, hM1, h⟩ := bnd h
  refine e_putZ d_Filler_look_2 fl_Filler_28 (Or.inl rfl) (fun _ _ _ => rfl) rfl hM1 ?_
  refine e_aload_n d_Filler_look_5 rfl ?_
  refine e_iconst (v := 0) d_Filler_look_6 (by decide) ?_
  obtain ⟨M2, hM2, h⟩ := bnd h
  refine e_putZ d_Filler_look_7 fl_Filler_32 (Or.inl rfl) (fun _ _ _ => rfl) rfl hM2 ?_
  refine e_aload_n d_Filler_look_10 rfl ?_
  refine e_iconst (v := 0) d_Filler_look_11 (by decide) ?_
  obtain ⟨M3, hM3, h⟩ := bnd h
  refine e_putI d_Filler_look_12 fl_Filler_35 (Or.inl rfl) (fun _ _ _ => rfl) rfl hM3 ?_
  refine e_aload_n d_Filler_look_15 rfl ?_
  refine e_iconst (v := 0) d_Filler_look_16 (by decide) ?_
  obtain ⟨M4, hM4, h⟩ := bnd h
  refine e_putI d_Filler_look_17 fl_Filler_38 (Or.inl rfl) (fun _ _ _ => rfl) rfl hM4 ?_
  refine e_aload_n d_Filler_look_20 rfl ?_
  refine e_iload_n d_Filler_look_21 rfl ?_
  obtain ⟨p5, hp5, h⟩ := bnd h
  refine e_cVi (mt1 := m_Filler_areaOf) (As := [.int x2]) (st := []) d_Filler_look_22 ml_Filler_76 mv_Filler_areaOf (t_Filler_areaOf n x0 x2 M4 p5 hp5) (fc_Filler_areaOf hp5) rfl rfl rfl (okp rfl) (okp rfl) (okp rfl) (Nat.le_refl _) (Nat.le_refl _) ?_
  refine e_aload_n d_Filler_look_25 rfl ?_
  obtain ⟨v6, hv6, h⟩ := bnd h
  refine e_getI d_Filler_look_26 fl_Filler_80 (fun _ _ _ => rfl) hv6 ?_
  refine e_ic_ne 49 d_Filler_look_29 (by decide) (fun c7 => ?_) (fun c7 => ?_)
  · replace h := ifn c7 h
    cases h
    exact e_vret d_Filler_look_49 rfl (Nat.le_refl _) (Nat.le_refl _)
  · replace h := ift c7 h
    refine e_aload_n d_Filler_look_32 rfl ?_
    obtain ⟨v8, hv8, h⟩ := bnd h
    refine e_getR d_Filler_look_33 fl_Filler_24 (fun _ _ _ => rfl) hv8 ?_
    refine e_aload_n d_Filler_look_36 rfl ?_
    obtain ⟨v9, hv9, h⟩ := bnd h
    refine e_getR d_Filler_look_37 fl_Filler_83 (fun _ _ _ => rfl) hv9 ?_
    obtain ⟨M10, hM10, h⟩ := bnd h
    refine e_cVv (mt1 := m_Shape_copy) (As := [.ref v9]) (st := []) d_Filler_look_40 ml_Filler_86 mv_Shape_copy (t_Shape_copy n v8 v9 p5.2 M10 hM10) (fc_Shape_copy hM10) rfl rfl rfl (okp rfl) (okp rfl) (okp rfl) (Nat.le_refl _) (Nat.le_refl _) ?_
    refine e_aload_n d_Filler_look_43 rfl ?_
    refine e_iconst (v := 0) d_Filler_look_44 (by decide) ?_
    refine e_iload_n d_Filler_look_45 rfl ?_
    obtain ⟨M11, hM11, h⟩ := bnd h
    refine e_cVv (mt1 := m_Filler_search) (As := [.int 0, .int x2]) (st := []) d_Filler_look_46 ml_Filler_90 mv_Filler_search (T_Filler_search n 10 x0 0 x2 M10 M11 hM11) (FC_Filler_search hM11) rfl rfl rfl (okp rfl) (okp rfl) (okp rfl) (Nat.le_refl _) (Nat.le_refl _) ?_
    cases h
    exact e_vret d_Filler_look_49 rfl (Nat.le_refl _) (Nat.le_refl _)
theorem d_Filler_countAll_0 : DC m_Filler_countAll 0 (.aload_n 0) 1 1 := ⟨by decide +kernel, rfl⟩
theorem d_Filler_countAll_1 : DC m_Filler_countAll 1 (.aload_n 1) 1 2 := ⟨by decide +kernel, rfl⟩
theorem d_Filler_countAll_2 : DC m_Filler_countAll 2 (.iload_n 2) 1 3 := ⟨by decide +kernel, rfl⟩
theorem d_Filler_countAll_3 : DC m_Filler_countAll 3 (.iconst 0) 1 4 := ⟨by decide +kernel, rfl⟩
theorem d_Filler_countAll_4 : DC m_Filler_countAll 4 (.invokevirtual 60) 3 7 := ⟨by decide +kernel, rfl⟩
theorem d_Filler_countAll_7 : DC m_Filler_countAll 7 (.aload_n 0) 1 8 := ⟨by decide +kernel, rfl⟩
theorem d_Filler_countAll_8 : DC m_Filler_countAll 8 (.aload_n 0) 1 9 := ⟨by decide +kernel, rfl⟩
theorem d_Filler_countAll_9 : DC m_Filler_countAll 9 (.getfield 35) 3 12 := ⟨by decide +kernel, rfl⟩
theorem d_Filler_countAll_12 : DC m_Filler_countAll 12 (.putfield 17) 3 15 := ⟨by decide +kernel, rfl⟩
theorem d_Filler_countAll_15 : DC m_Filler_countAll 15 (.aload_n 0) 1 16 := ⟨by decide +kernel, rfl⟩
theorem d_Filler_countAll_16 : DC m_Filler_countAll 16 (.getfield 32) 3 19 := ⟨by decide +kernel, rfl⟩
theorem d_Filler_countAll_19 : DC m_Filler_countAll 19 (.ifCond .eq 6) 3 22 := ⟨by decide +kernel, rfl⟩
theorem d_Filler_countAll_22 : DC m_Filler_countAll 22 (.bipush (-2)) 2 24 := ⟨by decide +kernel, rfl⟩
theorem d_Filler_countAll_24 : DC m_Filler_countAll 24 .ireturn 1 25 := ⟨by decide +kernel, rfl⟩
theorem d_Filler_countAll_25 : DC m_Filler_countAll 25 (.aload_n 0) 1 26 := ⟨by decide +kernel, rfl⟩
theorem d_Filler_countAll_26 : DC m_Filler_countAll 26 (.aload_n 0) 1 27 := ⟨by decide +kernel, rfl⟩
theorem d_Filler_countAll_27 : DC m_Filler_countAll 27 (.getfield 38) 3 30 := ⟨by decide +kernel, rfl⟩
theorem d_Filler_countAll_30 : DC m_Filler_countAll 30 (.ifCond .le 7) 3 33 := ⟨by decide +kernel, rfl⟩
theorem d_Filler_countAll_33 : DC m_Filler_countAll 33 (.iload_n 2) 1 34 := ⟨by decide +kernel, rfl⟩
theorem d_Filler_countAll_34 : DC m_Filler_countAll 34 (.goto 4) 3 37 := ⟨by decide +kernel, rfl⟩
theorem d_Filler_countAll_37 : DC m_Filler_countAll 37 (.iconst 0) 1 38 := ⟨by decide +kernel, rfl⟩
theorem d_Filler_countAll_38 : DC m_Filler_countAll 38 (.putfield 48) 3 41 := ⟨by decide +kernel, rfl⟩
theorem d_Filler_countAll_41 : DC m_Filler_countAll 41 (.aload_n 0) 1 42 := ⟨by decide +kernel, rfl⟩
theorem d_Filler_countAll_42 : DC m_Filler_countAll 42 (.getfield 38) 3 45 := ⟨by decide +kernel, rfl⟩
theorem d_Filler_countAll_45 : DC m_Filler_countAll 45 .ireturn 1 46 := ⟨by decide +kernel, rfl⟩
def f_Filler_countAll (n : Nat) (x0 : Nat) (x1 : Nat) (x2 : Int32) (M : MM) : Option (Int32 × MM) :=
  og 3 x0 M <|
  (f_Filler_look n x0 x1 x2 0 M).bind fun M1 =>
  (gI 3 5 x0 M1).bind fun v2 =>
  (pI 3 0 x0 v2 M1).bind fun M3 =>
  (gI 3 4 x0 M3).bind fun v4 =>
  if v4 = 0 then
    (gI 3 6 x0 M3).bind fun v6 =>
    if v6 ≤ 0 then
      (pI 3 9 x0 0 M3).bind fun M8 =>
      (gI 3 6 x0 M8).bind fun v9 =>
      some (v9, M8)
    else
      (pI 3 9 x0 x2 M3).bind fun M10 =>
      (gI 3 6 x0 M10).bind fun v11 =>
      some (v11, M10)
  else
    some ((-2), M3)
theorem fc_Filler_countAll {n : Nat} {x0 : Nat} {x1 : Nat} {x2 : Int32} {M : MM} {z : Int32 × MM} (h : f_Filler_countAll n x0 x1 x2 M = some z) : (M.1.2.1 x0).1 = 3 := by
  unfold f_Filler_countAll at h
  exact (og_s h).1
theorem t_Filler_countAll (n : Nat) (x0 : Nat) (x1 : Nat) (x2 : Int32) (M : MM) (z : Int32 × MM) (h : f_Filler_countAll n x0 x1 x2 M = some z) : CT m_Filler_countAll (rm 42 0 0) [.ref x0, .ref x1, .int x2] M (some (.int z.1)) z.2 := by
  unfold f_Filler_countAll at h
  obtain ⟨hthis, h⟩ := og_s h
  refine CT.of (ls := [some (.ref x0), some (.ref x1), some (.int x2)]) rfl (okp rfl) rfl ?_
  refine e_aload_n d_Filler_countAll_0 rfl ?_
  refine e_aload_n d_Filler_countAll_1 rfl ?_
  refine e_iload_n d_Filler_countAll_2 rfl ?_
  refine e_iconst (v := 0) d_Filler_countAll_3 (by decide) ?_
  obtain ⟨M1, hM1, h⟩ := bnd h
  refine e_cVv (mt1 := m_Filler_look) (As := [.ref x1, .int x2, .int 0]) (st := []) d_Filler_countAll_4 ml_Filler_60 mv_Filler_look (t_Filler_look n x0 x1 x2 0 M M1 hM1) (fc_Filler_look hM1) rfl rfl rfl (okp rfl) (okp rfl) (okp rfl) (Nat.le_refl _) (Nat.le_refl _) ?_
  refine e_aload_n d_Filler_countAll_7 rfl ?_
  refine e_aload_n d_Filler_countAll_8 rfl ?_
  obtain ⟨v2, hv2, h⟩ := bnd h
  refine e_getI d_Filler_countAll_9 fl_Filler_35 (fun _ _ _ => rfl) hv2 ?_
  obtain ⟨M3, hM3, h⟩ := bnd h
  refine e_putI d_Filler_countAll_12 fl_Filler_17 (Or.inl rfl) (fun _ _ _ => rfl) rfl hM3 ?_
  refine e_aload_n d_Filler_countAll_15 rfl ?_
  obtain ⟨v4, hv4, h⟩ := bnd h
  refine e_getI d_Filler_countAll_16 fl_Filler_32 (fun _ _ _ => rfl) hv4 ?_
  refine e_if_eq 25 d_Filler_countAll_19 (by decide) (fun c5 => ?_) (fun c5 => ?_)
  · replace h := ift c5 h
    refine e_aload_n d_Filler_countAll_25 rfl ?_
    refine e_aload_n d_Filler_countAll_26 rfl ?_
    obtain ⟨v6, hv6, h⟩ := bnd h
    refine e_getI d_Filler_countAll_27 fl_Filler_38 (fun _ _ _ => rfl) hv6 ?_
    refine e_if_le 37 d_Filler_countAll_30 (by decide) (fun c7 => ?_) (fun c7 => ?_)
    · replace h := ift c7 h
      refine e_iconst (v := 0) d_Filler_countAll_37 (by decide) ?_
      obtain ⟨M8, hM8, h⟩ := bnd h
      refine e_putI d_Filler_countAll_38 fl_Filler_48 (Or.inl rfl) (fun _ _ _ => rfl) rfl hM8 ?_
      refine e_aload_n d_Filler_countAll_41 rfl ?_
      obtain ⟨v9, hv9, h⟩ := bnd h
      refine e_getI d_Filler_countAll_42 fl_Filler_38 (fun _ _ _ => rfl) hv9 ?_
      cases h
      exact e_iret d_Filler_countAll_45 rfl (Nat.le_refl _) (Nat.le_refl _)
    · replace h := ifn c7 h
      refine e_iload_n d_Filler_countAll_33 rfl ?_
      refine e_goto 38 d_Filler_countAll_34 (by decide) ?_
      obtain ⟨M10, hM10, h⟩ := bnd h
      refine e_putI d_Filler_countAll_38 fl_Filler_48 (Or.inl rfl) (fun _ _ _ => rfl) rfl hM10 ?_
      refine e_aload_n d_Filler_countAll_41 rfl ?_
      obtain ⟨v11, hv11, h⟩ := bnd h
      refine e_getI d_Filler_countAll_42 fl_Filler_38 (fun _ _ _ => rfl) hv11 ?_
      cases h
      exact e_iret d_Filler_countAll_45 rfl (Nat.le_refl _) (Nat.le_refl _)
  · replace h := ifn c5 h
    refine e_bipush (v := (-2)) d_Filler_countAll_22 (by decide) ?_
    cases h
    exact e_iret d_Filler_countAll_24 rfl (Nat.le_refl _) (Nat.le_refl _)
theorem d_Filler_tellOf_0 : DC m_Filler_tellOf 0 (.iload_n 1) 1 1 := ⟨by decide +kernel, rfl⟩
theorem d_Filler_tellOf_1 : DC m_Filler_tellOf 1 (.tableswitch 44 0 2 #[27, 32, 39]) 27 28 := ⟨by decide +kernel, rfl⟩
theorem d_Filler_tellOf_28 : DC m_Filler_tellOf 28 (.iload_n 0) 1 29 := ⟨by decide +kernel, rfl⟩
theorem d_Filler_tellOf_29 : DC m_Filler_tellOf 29 (.bipush 6) 2 31 := ⟨by decide +kernel, rfl⟩
theorem d_Filler_tellOf_31 : DC m_Filler_tellOf 31 .ishr 1 32 := ⟨by decide +kernel, rfl⟩
theorem d_Filler_tellOf_32 : DC m_Filler_tellOf 32 .ireturn 1 33 := ⟨by decide +kernel, rfl⟩
theorem d_Filler_tellOf_33 : DC m_Filler_tellOf 33 (.iload_n 0) 1 34 := ⟨by decide +kernel, rfl⟩
theorem d_Filler_tellOf_34 : DC m_Filler_tellOf 34 (.iconst 3) 1 35 := ⟨by decide +kernel, rfl⟩
theorem d_Filler_tellOf_35 : DC m_Filler_tellOf 35 .ishr 1 36 := ⟨by decide +kernel, rfl⟩
theorem d_Filler_tellOf_36 : DC m_Filler_tellOf 36 (.bipush 7) 2 38 := ⟨by decide +kernel, rfl⟩
theorem d_Filler_tellOf_38 : DC m_Filler_tellOf 38 .iand 1 39 := ⟨by decide +kernel, rfl⟩
theorem d_Filler_tellOf_39 : DC m_Filler_tellOf 39 .ireturn 1 40 := ⟨by decide +kernel, rfl⟩
theorem d_Filler_tellOf_40 : DC m_Filler_tellOf 40 (.iload_n 0) 1 41 := ⟨by decide +kernel, rfl⟩
theorem d_Filler_tellOf_41 : DC m_Filler_tellOf 41 (.bipush 7) 2 43 := ⟨by decide +kernel, rfl⟩
theorem d_Filler_tellOf_43 : DC m_Filler_tellOf 43 .iand 1 44 := ⟨by decide +kernel, rfl⟩
theorem d_Filler_tellOf_44 : DC m_Filler_tellOf 44 .ireturn 1 45 := ⟨by decide +kernel, rfl⟩
theorem d_Filler_tellOf_45 : DC m_Filler_tellOf 45 (.bipush (-100)) 2 47 := ⟨by decide +kernel, rfl⟩
theorem d_Filler_tellOf_47 : DC m_Filler_tellOf 47 .ireturn 1 48 := ⟨by decide +kernel, rfl⟩
def f_Filler_tellOf (n : Nat) (x0 : Int32) (x1 : Int32) (M : MM) : Option (Int32 × MM) :=
  if x1 = 0 then
    some ((ishr x0 6), M)
  else
    if x1 = 1 then
      some (((ishr x0 3) &&& 7), M)
    else
      if x1 = 2 then
        some ((x0 &&& 7), M)
      else
        some ((-100), M)
theorem t_Filler_tellOf (n : Nat) (x0 : Int32) (x1 : Int32) (M : MM) (z : Int32 × MM) (h : f_Filler_tellOf n x0 x1 M = some z) : CT m_Filler_tellOf (rm 1 0 0) [.int x0, .int x1] M (some (.int z.1)) z.2 := by
  unfold f_Filler_tellOf at h
  refine CT.of (ls := [some (.int x0), some (.int x1)]) rfl (okp rfl) rfl ?_
  refine e_iload_n d_Filler_tellOf_0 rfl ?_
  by_cases c1 : x1 = 0
  · replace h := ift c1 h
    refine e_tabEq 28 d_Filler_tellOf_1 c1 (by decide) (by decide) rfl (by decide) ?_
    refine e_iload_n d_Filler_tellOf_28 rfl ?_
    refine e_bipush (v := 6) d_Filler_tellOf_29 (by decide) ?_
    refine e_ishr d_Filler_tellOf_31 ?_
    cases h
    exact e_iret d_Filler_tellOf_32 rfl (Nat.le_refl _) (Nat.le_refl _)
  · replace h := ifn c1 h
    by_cases c2 : x1 = 1
    · replace h := ift c2 h
      refine e_tabEq 33 d_Filler_tellOf_1 c2 (by decide) (by decide) rfl (by decide) ?_
      refine e_iload_n d_Filler_tellOf_33 rfl ?_
      refine e_iconst (v := 3) d_Filler_tellOf_34 (by decide) ?_
      refine e_ishr d_Filler_tellOf_35 ?_
      refine e_bipush (v := 7) d_Filler_tellOf_36 (by decide) ?_
      refine e_iand d_Filler_tellOf_38 ?_
      cases h
      exact e_iret d_Filler_tellOf_39 rfl (Nat.le_refl _) (Nat.le_refl _)
    · replace h := ifn c2 h
      by_cases c3 : x1 = 2
      · replace h := ift c3 h
        refine e_tabEq 40 d_Filler_tellOf_1 c3 (by decide) (by decide) rfl (by decide) ?_
        refine e_iload_n d_Filler_tellOf_40 rfl ?_
        refine e_bipush (v := 7) d_Filler_tellOf_41 (by decide) ?_
        refine e_iand d_Filler_tellOf_43 ?_
        cases h
        exact e_iret d_Filler_tellOf_44 rfl (Nat.le_refl _) (Nat.le_refl _)
      · replace h := ifn c3 h
        refine e_tabOut 45 d_Filler_tellOf_1 (tab_o 0 3 [0, 1, 2] (by decide) (by decide) (by decide) (fa_c c1 (fa_c c2 (fa_c c3 fa_n)))) (by decide) ?_
        refine e_bipush (v := (-100)) d_Filler_tellOf_45 (by decide) ?_
        cases h
        exact e_iret d_Filler_tellOf_47 rfl (Nat.le_refl _) (Nat.le_refl _)
theorem d_Filler_tellRemembered_0 : DC m_Filler_tellRemembered 0 (.iload_n 1) 1 1 := ⟨by decide +kernel, rfl⟩
theorem d_Filler_tellRemembered_1 : DC m_Filler_tellRemembered 1 (.ifCond .lt 20) 3 4 := ⟨by decide +kernel, rfl⟩
theorem d_Filler_tellRemembered_4 : DC m_Filler_tellRemembered 4 (.iload_n 1) 1 5 := ⟨by decide +kernel, rfl⟩
theorem d_Filler_tellRemembered_5 : DC m_Filler_tellRemembered 5 (.bipush 8) 2 7 := ⟨by decide +kernel, rfl⟩
theorem d_Filler_tellRemembered_7 : DC m_Filler_tellRemembered 7 (.if_icmp .ge 14) 3 10 := ⟨by decide +kernel, rfl⟩
theorem d_Filler_tellRemembered_10 : DC m_Filler_tellRemembered 10 (.aload_n 0) 1 11 := ⟨by decide +kernel, rfl⟩
theorem d_Filler_tellRemembered_11 : DC m_Filler_tellRemembered 11 (.getfield 48) 3 14 := ⟨by decide +kernel, rfl⟩
theorem d_Filler_tellRemembered_14 : DC m_Filler_tellRemembered 14 (.iload_n 1) 1 15 := ⟨by decide +kernel, rfl⟩
theorem d_Filler_tellRemembered_15 : DC m_Filler_tellRemembered 15 .iushr 1 16 := ⟨by decide +kernel, rfl⟩
theorem d_Filler_tellRemembered_16 : DC m_Filler_tellRemembered 16 (.iconst 1) 1 17 := ⟨by decide +kernel, rfl⟩
theorem d_Filler_tellRemembered_17 : DC m_Filler_tellRemembered 17 .iand 1 18 := ⟨by decide +kernel, rfl⟩
theorem d_Filler_tellRemembered_18 : DC m_Filler_tellRemembered 18 (.ifCond .ne 6) 3 21 := ⟨by decide +kernel, rfl⟩
theorem d_Filler_tellRemembered_21 : DC m_Filler_tellRemembered 21 (.bipush (-100)) 2 23 := ⟨by decide +kernel, rfl⟩
theorem d_Filler_tellRemembered_23 : DC m_Filler_tellRemembered 23 .ireturn 1 24 := ⟨by decide +kernel, rfl⟩
theorem d_Filler_tellRemembered_24 : DC m_Filler_tellRemembered 24 (.aload_n 0) 1 25 := ⟨by decide +kernel, rfl⟩
theorem d_Filler_tellRemembered_25 : DC m_Filler_tellRemembered 25 (.getfield 45) 3 28 := ⟨by decide +kernel, rfl⟩
theorem d_Filler_tellRemembered_28 : DC m_Filler_tellRemembered 28 (.iload_n 1) 1 29 := ⟨by decide +kernel, rfl⟩
theorem d_Filler_tellRemembered_29 : DC m_Filler_tellRemembered 29 .iaload 1 30 := ⟨by decide +kernel, rfl⟩
theorem d_Filler_tellRemembered_30 : DC m_Filler_tellRemembered 30 (.iload_n 2) 1 31 := ⟨by decide +kernel, rfl⟩
theorem d_Filler_tellRemembered_31 : DC m_Filler_tellRemembered 31 (.invokestatic 64) 3 34 := ⟨by decide +kernel, rfl⟩
theorem d_Filler_tellRemembered_34 : DC m_Filler_tellRemembered 34 .ireturn 1 35 := ⟨by decide +kernel, rfl⟩
def f_Filler_tellRemembered (n : Nat) (x0 : Nat) (x1 : Int32) (x2 : Int32) (M : MM) : Option (Int32 × MM) :=
  og 3 x0 M <|
  if x1 < 0 then
    some ((-100), M)
  else
    if 8 ≤ x1 then
      some ((-100), M)
    else
      (gI 3 9 x0 M).bind fun v3 =>
      if ((ushr v3 x1) &&& 1) = 0 then
        some ((-100), M)
      else
        (gR 3 8 x0 M).bind fun v5 =>
        (aI 100 v5 x1 M).bind fun v6 =>
        (f_Filler_tellOf n v6 x2 M).bind fun p7 =>
        some (p7.1, p7.2)
theorem fc_Filler_tellRemembered {n : Nat} {x0 : Nat} {x1 : Int32} {x2 : Int32} {M : MM} {z : Int32 × MM} (h : f_Filler_tellRemembered n x0 x1 x2 M = some z) : (M.1.2.1 x0).1 = 3 := by
  unfold f_Filler_tellRemembered at h
  exact (og_s h).1
theorem t_Filler_tellRemembered (n : Nat) (x0 : Nat) (x1 : Int32) (x2 : Int32) (M : MM) (z : Int32 × MM) (h : f_Filler_tellRemembered n x0 x1 x2 M = some z) : CT m_Filler_tellRemembered (rm 2 0 0) [.ref x0, .int x1, .int x2] M (some (.int z.1)) z.2 := by
  unfold f_Filler_tellRemembered at h
  obtain ⟨hthis, h⟩ := og_s h
  refine CT.of (ls := [some (.ref x0), some (.int x1), some (.int x2)]) rfl (okp rfl) rfl ?_
  refine e_iload_n d_Filler_tellRemembered_0 rfl ?_
  refine e_if_lt 21 d_Filler_tellRemembered_1 (by decide) (fun c1 => ?_) (fun c1 => ?_)
  · replace h := ift c1 h
    refine e_bipush (v := (-100)) d_Filler_tellRemembered_21 (by decide) ?_
    cases h
    exact e_iret d_Filler_tellRemembered_23 rfl (Nat.le_refl _) (Nat.le_refl _)
  · replace h := ifn c1 h
    refine e_iload_n d_Filler_tellRemembered_4 rfl ?_
    refine e_bipush (v := 8) d_Filler_tellRemembered_5 (by decide) ?_
    refine e_ic_ge 21 d_Filler_tellRemembered_7 (by decide) (fun c2 => ?_) (fun c2 => ?_)
    · replace h := ift c2 h
      refine e_bipush (v := (-100)) d_Filler_tellRemembered_21 (by decide) ?_
      cases h
      exact e_iret d_Filler_tellRemembered_23 rfl (Nat.le_refl _) (Nat.le_refl _)
    · replace h := ifn c2 h
      refine e_aload_n d_Filler_tellRemembered_10 rfl ?_
      obtain ⟨v3, hv3, h⟩ := bnd h
      refine e_getI d_Filler_tellRemembered_11 fl_Filler_48 (fun _ _ _ => rfl) hv3 ?_
      refine e_iload_n d_Filler_tellRemembered_14 rfl ?_
      refine e_iushr d_Filler_tellRemembered_15 ?_
      refine e_iconst (v := 1) d_Filler_tellRemembered_16 (by decide) ?_
      refine e_iand d_Filler_tellRemembered_17 ?_
      refine e_if_ne 24 d_Filler_tellRemembered_18 (by decide) (fun c4 => ?_) (fun c4 => ?_)
      · replace h := ifn c4 h
        refine e_aload_n d_Filler_tellRemembered_24 rfl ?_
        obtain ⟨v5, hv5, h⟩ := bnd h
        refine e_getR d_Filler_tellRemembered_25 fl_Filler_45 (fun _ _ _ => rfl) hv5 ?_
        refine e_iload_n d_Filler_tellRemembered_28 rfl ?_
        obtain ⟨v6, hv6, h⟩ := bnd h
        refine e_iald d_Filler_tellRemembered_29 hv6 ?_
        refine e_iload_n d_Filler_tellRemembered_30 rfl ?_
        obtain ⟨p7, hp7, h⟩ := bnd h
        refine e_cSi (mt1 := m_Filler_tellOf) (As := [.int v6, .int x2]) (st := []) d_Filler_tellRemembered_31 ml_Filler_64 ms_Filler_tellOf (t_Filler_tellOf n v6 x2 M p7 hp7) rfl rfl (okp rfl) (okp rfl) (okp rfl) (Nat.le_refl _) (Nat.le_refl _) ?_
        cases h
        exact e_iret d_Filler_tellRemembered_34 rfl (Nat.le_refl _) (Nat.le_refl _)
      · replace h := ift c4 h
        refine e_bipush (v := (-100)) d_Filler_tellRemembered_21 (by decide) ?_
        cases h
        exact e_iret d_Filler_tellRemembered_23 rfl (Nat.le_refl _) (Nat.le_refl _)
theorem d_Filler_lookForSets_0 : DC m_Filler_lookForSets 0 (.iconst 0) 1 1 := ⟨by decide +kernel, rfl⟩
theorem d_Filler_lookForSets_1 : DC m_Filler_lookForSets 1 (.istore 4) 2 3 := ⟨by decide +kernel, rfl⟩
theorem d_Filler_lookForSets_3 : DC m_Filler_lookForSets 3 (.iconst 0) 1 4 := ⟨by decide +kernel, rfl⟩
theorem d_Filler_lookForSets_4 : DC m_Filler_lookForSets 4 (.istore 5) 2 6 := ⟨by decide +kernel, rfl⟩
theorem d_Filler_lookForSets_6 : DC m_Filler_lookForSets 6 (.iload 5) 2 8 := ⟨by decide +kernel, rfl⟩
theorem d_Filler_lookForSets_8 : DC m_Filler_lookForSets 8 (.aload_n 1) 1 9 := ⟨by decide +kernel, rfl⟩
theorem d_Filler_lookForSets_9 : DC m_Filler_lookForSets 9 .arraylength 1 10 := ⟨by decide +kernel, rfl⟩
theorem d_Filler_lookForSets_10 : DC m_Filler_lookForSets 10 (.if_icmp .ge 14) 3 13 := ⟨by decide +kernel, rfl⟩
theorem d_Filler_lookForSets_13 : DC m_Filler_lookForSets 13 (.aload_n 1) 1 14 := ⟨by decide +kernel, rfl⟩
theorem d_Filler_lookForSets_14 : DC m_Filler_lookForSets 14 (.iload 5) 2 16 := ⟨by decide +kernel, rfl⟩
theorem d_Filler_lookForSets_16 : DC m_Filler_lookForSets 16 (.iconst 0) 1 17 := ⟨by decide +kernel, rfl⟩
theorem d_Filler_lookForSets_17 : DC m_Filler_lookForSets 17 .iastore 1 18 := ⟨by decide +kernel, rfl⟩
theorem d_Filler_lookForSets_18 : DC m_Filler_lookForSets 18 (.iinc 5 1) 3 21 := ⟨by decide +kernel, rfl⟩
theorem d_Filler_lookForSets_21 : DC m_Filler_lookForSets 21 (.goto (-15)) 3 24 := ⟨by decide +kernel, rfl⟩
theorem d_Filler_lookForSets_24 : DC m_Filler_lookForSets 24 (.iconst 1) 1 25 := ⟨by decide +kernel, rfl⟩
theorem d_Filler_lookForSets_25 : DC m_Filler_lookForSets 25 (.istore 5) 2 27 := ⟨by decide +kernel, rfl⟩
theorem d_Filler_lookForSets_27 : DC m_Filler_lookForSets 27 (.iload 5) 2 29 := ⟨by decide +kernel, rfl⟩
theorem d_Filler_lookForSets_29 : DC m_Filler_lookForSets 29 (.iconst 1) 1 30 := ⟨by decide +kernel, rfl⟩
theorem d_Filler_lookForSets_30 : DC m_Filler_lookForSets 30 (.iload_n 3) 1 31 := ⟨by decide +kernel, rfl⟩
theorem d_Filler_lookForSets_31 : DC m_Filler_lookForSets 31 .ishl 1 32 := ⟨by decide +kernel, rfl⟩
theorem d_Filler_lookForSets_32 : DC m_Filler_lookForSets 32 (.if_icmp .ge 62) 3 35 := ⟨by decide +kernel, rfl⟩
theorem d_Filler_lookForSets_35 : DC m_Filler_lookForSets 35 (.iload 5) 2 37 := ⟨by decide +kernel, rfl⟩
theorem d_Filler_lookForSets_37 : DC m_Filler_lookForSets 37 (.iconst 5) 1 38 := ⟨by decide +kernel, rfl⟩
theorem d_Filler_lookForSets_38 : DC m_Filler_lookForSets 38 .ishr 1 39 := ⟨by decide +kernel, rfl⟩
theorem d_Filler_lookForSets_39 : DC m_Filler_lookForSets 39 (.aload_n 1) 1 40 := ⟨by decide +kernel, rfl⟩
theorem d_Filler_lookForSets_40 : DC m_Filler_lookForSets 40 .arraylength 1 41 := ⟨by decide +kernel, rfl⟩
theorem d_Filler_lookForSets_41 : DC m_Filler_lookForSets 41 (.if_icmp .ge 53) 3 44 := ⟨by decide +kernel, rfl⟩
theorem d_Filler_lookForSets_44 : DC m_Filler_lookForSets 44 (.aload_n 0) 1 45 := ⟨by decide +kernel, rfl⟩
theorem d_Filler_lookForSets_45 : DC m_Filler_lookForSets 45 (.aload_n 2) 1 46 := ⟨by decide +kernel, rfl⟩
theorem d_Filler_lookForSets_46 : DC m_Filler_lookForSets 46 (.iload 5) 2 48 := ⟨by decide +kernel, rfl⟩
theorem d_Filler_lookForSets_48 : DC m_Filler_lookForSets 48 (.iconst 1) 1 49 := ⟨by decide +kernel, rfl⟩
theorem d_Filler_lookForSets_49 : DC m_Filler_lookForSets 49 (.invokevirtual 60) 3 52 := ⟨by decide +kernel, rfl⟩
theorem d_Filler_lookForSets_52 : DC m_Filler_lookForSets 52 (.aload_n 0) 1 53 := ⟨by decide +kernel, rfl⟩
theorem d_Filler_lookForSets_53 : DC m_Filler_lookForSets 53 (.getfield 32) 3 56 := ⟨by decide +kernel, rfl⟩
theorem d_Filler_lookForSets_56 : DC m_Filler_lookForSets 56 (.ifCond .eq 6) 3 59 := ⟨by decide +kernel, rfl⟩
theorem d_Filler_lookForSets_59 : DC m_Filler_lookForSets 59 (.bipush (-2)) 2 61 := ⟨by decide +kernel, rfl⟩
theorem d_Filler_lookForSets_61 : DC m_Filler_lookForSets 61 .ireturn 1 62 := ⟨by decide +kernel, rfl⟩
theorem d_Filler_lookForSets_62 : DC m_Filler_lookForSets 62 (.aload_n 0) 1 63 := ⟨by decide +kernel, rfl⟩
theorem d_Filler_lookForSets_63 : DC m_Filler_lookForSets 63 (.getfield 38) 3 66 := ⟨by decide +kernel, rfl⟩
theorem d_Filler_lookForSets_66 : DC m_Filler_lookForSets 66 (.ifCond .le 22) 3 69 := ⟨by decide +kernel, rfl⟩
theorem d_Filler_lookForSets_69 : DC m_Filler_lookForSets 69 (.aload_n 1) 1 70 := ⟨by decide +kernel, rfl⟩
theorem d_Filler_lookForSets_70 : DC m_Filler_lookForSets 70 (.iload 5) 2 72 := ⟨by decide +kernel, rfl⟩
theorem d_Filler_lookForSets_72 : DC m_Filler_lookForSets 72 (.iconst 5) 1 73 := ⟨by decide +kernel, rfl⟩
theorem d_Filler_lookForSets_73 : DC m_Filler_lookForSets 73 .ishr 1 74 := ⟨by decide +kernel, rfl⟩
theorem d_Filler_lookForSets_74 : DC m_Filler_lookForSets 74 .dup2 1 75 := ⟨by decide +kernel, rfl⟩
theorem d_Filler_lookForSets_75 : DC m_Filler_lookForSets 75 .iaload 1 76 := ⟨by decide +kernel, rfl⟩
theorem d_Filler_lookForSets_76 : DC m_Filler_lookForSets 76 (.iconst 1) 1 77 := ⟨by decide +kernel, rfl⟩
theorem d_Filler_lookForSets_77 : DC m_Filler_lookForSets 77 (.iload 5) 2 79 := ⟨by decide +kernel, rfl⟩
theorem d_Filler_lookForSets_79 : DC m_Filler_lookForSets 79 (.bipush 31) 2 81 := ⟨by decide +kernel, rfl⟩
theorem d_Filler_lookForSets_81 : DC m_Filler_lookForSets 81 .iand 1 82 := ⟨by decide +kernel, rfl⟩
theorem d_Filler_lookForSets_82 : DC m_Filler_lookForSets 82 .ishl 1 83 := ⟨by decide +kernel, rfl⟩
theorem d_Filler_lookForSets_83 : DC m_Filler_lookForSets 83 .ior 1 84 := ⟨by decide +kernel, rfl⟩
theorem d_Filler_lookForSets_84 : DC m_Filler_lookForSets 84 .iastore 1 85 := ⟨by decide +kernel, rfl⟩
theorem d_Filler_lookForSets_85 : DC m_Filler_lookForSets 85 (.iinc 4 1) 3 88 := ⟨by decide +kernel, rfl⟩
theorem d_Filler_lookForSets_88 : DC m_Filler_lookForSets 88 (.iinc 5 1) 3 91 := ⟨by decide +kernel, rfl⟩
theorem d_Filler_lookForSets_91 : DC m_Filler_lookForSets 91 (.goto (-64)) 3 94 := ⟨by decide +kernel, rfl⟩
theorem d_Filler_lookForSets_94 : DC m_Filler_lookForSets 94 (.iload 4) 2 96 := ⟨by decide +kernel, rfl⟩
theorem d_Filler_lookForSets_96 : DC m_Filler_lookForSets 96 .ireturn 1 97 := ⟨by decide +kernel, rfl⟩
def f_Filler_lookForSets_88 (n : Nat) (k_27 : Nat → Nat → Nat → Int32 → Int32 → Int32 → MM → Option (Int32 × MM)) (x0 : Nat) (x1 : Nat) (x2 : Nat) (x3 : Int32) (x4 : Int32) (x5 : Int32) (M : MM) : Option (Int32 × MM) :=
  k_27 x0 x1 x2 x3 x4 (x5 + 1) M
theorem t_Filler_lookForSets_88 (n : Nat) {k_27 : Nat → Nat → Nat → Int32 → Int32 → Int32 → MM → Option (Int32 × MM)} (hk_27 : ∀ (x0 : Nat) (x1 : Nat) (x2 : Nat) (x3 : Int32) (x4 : Int32) (x5 : Int32) (M : MM) (z : Int32 × MM), k_27 x0 x1 x2 x3 x4 x5 M = some z → EV m_Filler_lookForSets (rm 42 0 0) (some (.int z.1)) z.2 0 0 27 [some (.ref x0), some (.ref x1), some (.ref x2), some (.int x3), some (.int x4), some (.int x5)] [] M) (x0 : Nat) (x1 : Nat) (x2 : Nat) (x3 : Int32) (x4 : Int32) (x5 : Int32) (M : MM) (z : Int32 × MM) (h : f_Filler_lookForSets_88 n k_27 x0 x1 x2 x3 x4 x5 M = some z) : EV m_Filler_lookForSets (rm 42 0 0) (some (.int z.1)) z.2 0 0 88 [some (.ref x0), some (.ref x1), some (.ref x2), some (.int x3), some (.int x4), some (.int x5)] [] M := by
  unfold f_Filler_lookForSets_88 at h
  refine e_iinc (v := x5 + 1) (l2 := [some (.ref x0), some (.ref x1), some (.ref x2), some (.int x3), some (.int x4), some (.int (x5 + 1))]) d_Filler_lookForSets_88 rfl rfl rfl (okl rfl) rfl ?_
  refine e_goto 27 d_Filler_lookForSets_91 (by decide) ?_
  exact (hk_27 x0 x1 x2 x3 x4 (x5 + 1) M z h).less (show LSub _ _ from ⟨rfl, ⟨rfl, ⟨rfl, ⟨rfl, ⟨rfl, ⟨rfl, trivial⟩⟩⟩⟩⟩⟩)
def f_Filler_lookForSets_27 (n : Nat) : Nat → Nat → Nat → Nat → Int32 → Int32 → Int32 → MM → Option (Int32 × MM)
  | 0, _, _, _, _, _, _, _ => none
  | m + 1, x0, x1, x2, x3, x4, x5, M =>
    if (ishl 1 x3) ≤ x5 then
      some (x4, M)
    else
      (aN x1 M).bind fun v2 =>
      if v2 ≤ (ishr x5 5) then
        some (x4, M)
      else
        (f_Filler_look n x0 x2 x5 1 M).bind fun M4 =>
        (gI 3 4 x0 M4).bind fun v5 =>
        if v5 = 0 then
          (gI 3 6 x0 M4).bind fun v7 =>
          if v7 ≤ 0 then
            f_Filler_lookForSets_88 n (f_Filler_lookForSets_27 n m) x0 x1 x2 x3 x4 x5 M4
          else
            (aI 100 x1 (ishr x5 5) M4).bind fun v9 =>
            (sI 100 x1 (ishr x5 5) (v9 ||| (ishl 1 (x5 &&& 31))) M4).bind fun M10 =>
            f_Filler_lookForSets_88 n (f_Filler_lookForSets_27 n m) x0 x1 x2 x3 (x4 + 1) x5 M10
        else
          some ((-2), M4)
theorem t_Filler_lookForSets_27 (n : Nat) : ∀ (m : Nat) (x0 : Nat) (x1 : Nat) (x2 : Nat) (x3 : Int32) (x4 : Int32) (x5 : Int32) (M : MM) (z : Int32 × MM), f_Filler_lookForSets_27 n m x0 x1 x2 x3 x4 x5 M = some z → EV m_Filler_lookForSets (rm 42 0 0) (some (.int z.1)) z.2 0 0 27 [some (.ref x0), some (.ref x1), some (.ref x2), some (.int x3), some (.int x4), some (.int x5)] [] M := by
  intro m
  induction m with
  | zero => intro x0 x1 x2 x3 x4 x5 M z h; cases h
  | succ m ih =>
    intro x0 x1 x2 x3 x4 x5 M z h
    rw [f_Filler_lookForSets_27] at h
    refine e_iload d_Filler_lookForSets_27 rfl ?_
    refine e_iconst (v := 1) d_Filler_lookForSets_29 (by decide) ?_
    refine e_iload_n d_Filler_lookForSets_30 rfl ?_
    refine e_ishl d_Filler_lookForSets_31 ?_
    refine e_ic_ge 94 d_Filler_lookForSets_32 (by decide) (fun c1 => ?_) (fun c1 => ?_)
    · replace h := ift c1 h
      refine e_iload d_Filler_lookForSets_94 rfl ?_
      cases h
      exact e_iret d_Filler_lookForSets_96 rfl (Nat.le_refl _) (Nat.le_refl _)
    · replace h := ifn c1 h
      refine e_iload d_Filler_lookForSets_35 rfl ?_
      refine e_iconst (v := 5) d_Filler_lookForSets_37 (by decide) ?_
      refine e_ishr d_Filler_lookForSets_38 ?_
      refine e_aload_n d_Filler_lookForSets_39 rfl ?_
      obtain ⟨v2, hv2, h⟩ := bnd h
      refine e_alen d_Filler_lookForSets_40 hv2 ?_
      refine e_ic_ge 94 d_Filler_lookForSets_41 (by decide) (fun c3 => ?_) (fun c3 => ?_)
      · replace h := ift c3 h
        refine e_iload d_Filler_lookForSets_94 rfl ?_
        cases h
        exact e_iret d_Filler_lookForSets_96 rfl (Nat.le_refl _) (Nat.le_refl _)
      · replace h := ifn c3 h
        refine e_aload_n d_Filler_lookForSets_44 rfl ?_
        refine e_aload_n d_Filler_lookForSets_45 rfl ?_
        refine e_iload d_Filler_lookForSets_46 rfl ?_
        refine e_iconst (v := 1) d_Filler_lookForSets_48 (by decide) ?_
        obtain ⟨M4, hM4, h⟩ := bnd h
        refine e_cVv (mt1 := m_Filler_look) (As := [.ref x2, .int x5, .int 1]) (st := []) d_Filler_lookForSets_49 ml_Filler_60 mv_Filler_look (t_Filler_look n x0 x2 x5 1 M M4 hM4) (fc_Filler_look hM4) rfl rfl rfl (okp rfl) (okp rfl) (okp rfl) (Nat.le_refl _) (Nat.le_refl _) ?_
        refine e_aload_n d_Filler_lookForSets_52 rfl ?_
        obtain ⟨v5, hv5, h⟩ := bnd h
        refine e_getI d_Filler_lookForSets_53 fl_Filler_32 (fun _ _ _ => rfl) hv5 ?_
        refine e_if_eq 62 d_Filler_lookForSets_56 (by decide) (fun c6 => ?_) (fun c6 => ?_)
        · replace h := ift c6 h
          refine e_aload_n d_Filler_lookForSets_62 rfl ?_
          obtain ⟨v7, hv7, h⟩ := bnd h
          refine e_getI d_Filler_lookForSets_63 fl_Filler_38 (fun _ _ _ => rfl) hv7 ?_
          refine e_if_le 88 d_Filler_lookForSets_66 (by decide) (fun c8 => ?_) (fun c8 => ?_)
          · replace h := ift c8 h
            exact (t_Filler_lookForSets_88 n ih x0 x1 x2 x3 x4 x5 M4 z h).less (show LSub _ _ from ⟨rfl, ⟨rfl, ⟨rfl, ⟨rfl, ⟨rfl, ⟨rfl, trivial⟩⟩⟩⟩⟩⟩)
          · replace h := ifn c8 h
            refine e_aload_n d_Filler_lookForSets_69 rfl ?_
            refine e_iload d_Filler_lookForSets_70 rfl ?_
            refine e_iconst (v := 5) d_Filler_lookForSets_72 (by decide) ?_
            refine e_ishr d_Filler_lookForSets_73 ?_
            refine e_dup2 d_Filler_lookForSets_74 rfl rfl ?_
            obtain ⟨v9, hv9, h⟩ := bnd h
            refine e_iald d_Filler_lookForSets_75 hv9 ?_
            refine e_iconst (v := 1) d_Filler_lookForSets_76 (by decide) ?_
            refine e_iload d_Filler_lookForSets_77 rfl ?_
            refine e_bipush (v := 31) d_Filler_lookForSets_79 (by decide) ?_
            refine e_iand d_Filler_lookForSets_81 ?_
            refine e_ishl d_Filler_lookForSets_82 ?_
            refine e_ior d_Filler_lookForSets_83 ?_
            obtain ⟨M10, hM10, h⟩ := bnd h
            refine e_iast d_Filler_lookForSets_84 hM10 ?_
            refine e_iinc (v := x4 + 1) (l2 := [some (.ref x0), some (.ref x1), some (.ref x2), some (.int x3), some (.int (x4 + 1)), some (.int x5)]) d_Filler_lookForSets_85 rfl rfl rfl (okl rfl) rfl ?_
            exact (t_Filler_lookForSets_88 n ih x0 x1 x2 x3 (x4 + 1) x5 M10 z h).less (show LSub _ _ from ⟨rfl, ⟨rfl, ⟨rfl, ⟨rfl, ⟨rfl, ⟨rfl, trivial⟩⟩⟩⟩⟩⟩)
        · replace h := ifn c6 h
          refine e_bipush (v := (-2)) d_Filler_lookForSets_59 (by decide) ?_
          cases h
          exact e_iret d_Filler_lookForSets_61 rfl (Nat.le_refl _) (Nat.le_refl _)
def f_Filler_lookForSets_24 (n : Nat) (x0 : Nat) (x1 : Nat) (x2 : Nat) (x3 : Int32) (x4 : Int32) (M : MM) : Option (Int32 × MM) :=
  f_Filler_lookForSets_27 n n x0 x1 x2 x3 x4 1 M
theorem t_Filler_lookForSets_24 (n : Nat) (x0 : Nat) (x1 : Nat) (x2 : Nat) (x3 : Int32) (x4 : Int32) (M : MM) (z : Int32 × MM) (h : f_Filler_lookForSets_24 n x0 x1 x2 x3 x4 M = some z) : EV m_Filler_lookForSets (rm 42 0 0) (some (.int z.1)) z.2 0 0 24 [some (.ref x0), some (.ref x1), some (.ref x2), some (.int x3), some (.int x4), none] [] M := by
  unfold f_Filler_lookForSets_24 at h
  refine e_iconst (v := 1) d_Filler_lookForSets_24 (by decide) ?_
  refine e_istore (l2 := [some (.ref x0), some (.ref x1), some (.ref x2), some (.int x3), some (.int x4), some (.int 1)]) d_Filler_lookForSets_25 rfl (okl rfl) rfl ?_
  exact (t_Filler_lookForSets_27 n n x0 x1 x2 x3 x4 1 M z h).less (show LSub _ _ from ⟨rfl, ⟨rfl, ⟨rfl, ⟨rfl, ⟨rfl, ⟨rfl, trivial⟩⟩⟩⟩⟩⟩)
def f_Filler_lookForSets_6 (n : Nat) (k_24 : Nat → Nat → Nat → Int32 → Int32 → MM → Option (Int32 × MM)) : Nat → Nat → Nat → Nat → Int32 → Int32 → Int32 → MM → Option (Int32 × MM)
  | 0, _, _, _, _, _, _, _ => none
  | m + 1, x0, x1, x2, x3, x4, x5, M =>
    (aN x1 M).bind fun v11 =>
    if v11 ≤ x5 then
      k_24 x0 x1 x2 x3 x4 M
    else
      (sI 100 x1 x5 0 M).bind fun M13 =>
      f_Filler_lookForSets_6 n k_24 m x0 x1 x2 x3 x4 (x5 + 1) M13
theorem t_Filler_lookForSets_6 (n : Nat) {k_24 : Nat → Nat → Nat → Int32 → Int32 → MM → Option (Int32 × MM)} (hk_24 : ∀ (x0 : Nat) (x1 : Nat) (x2 : Nat) (x3 : Int32) (x4 : Int32) (M : MM) (z : Int32 × MM), k_24 x0 x1 x2 x3 x4 M = some z → EV m_Filler_lookForSets (rm 42 0 0) (some (.int z.1)) z.2 0 0 24 [some (.ref x0), some (.ref x1), some (.ref x2), some (.int x3), some (.int x4), none] [] M) : ∀ (m : Nat) (x0 : Nat) (x1 : Nat) (x2 : Nat) (x3 : Int32) (x4 : Int32) (x5 : Int32) (M : MM) (z : Int32 × MM), f_Filler_lookForSets_6 n k_24 m x0 x1 x2 x3 x4 x5 M = some z → EV m_Filler_lookForSets (rm 42 0 0) (some (.int z.1)) z.2 0 0 6 [some (.ref x0), some (.ref x1), some (.ref x2), some (.int x3), some (.int x4), some (.int x5)] [] M := by
  intro m
  induction m with
  | zero => intro x0 x1 x2 x3 x4 x5 M z h; cases h
  | succ m ih =>
    intro x0 x1 x2 x3 x4 x5 M z h
    rw [f_Filler_lookForSets_6] at h
    refine e_iload d_Filler_lookForSets_6 rfl ?_
    refine e_aload_n d_Filler_lookForSets_8 rfl ?_
    obtain ⟨v11, hv11, h⟩ := bnd h
    refine e_alen d_Filler_lookForSets_9 hv11 ?_
    refine e_ic_ge 24 d_Filler_lookForSets_10 (by decide) (fun c12 => ?_) (fun c12 => ?_)
    · replace h := ift c12 h
      exact (hk_24 x0 x1 x2 x3 x4 M z h).less (show LSub _ _ from ⟨rfl, ⟨rfl, ⟨rfl, ⟨rfl, ⟨rfl, trivial⟩⟩⟩⟩⟩)
    · replace h := ifn c12 h
      refine e_aload_n d_Filler_lookForSets_13 rfl ?_
      refine e_iload d_Filler_lookForSets_14 rfl ?_
      refine e_iconst (v := 0) d_Filler_lookForSets_16 (by decide) ?_
      obtain ⟨M13, hM13, h⟩ := bnd h
      refine e_iast d_Filler_lookForSets_17 hM13 ?_
      refine e_iinc (v := x5 + 1) (l2 := [some (.ref x0), some (.ref x1), some (.ref x2), some (.int x3), some (.int x4), some (.int (x5 + 1))]) d_Filler_lookForSets_18 rfl rfl rfl (okl rfl) rfl ?_
      refine e_goto 6 d_Filler_lookForSets_21 (by decide) ?_
      exact (ih x0 x1 x2 x3 x4 (x5 + 1) M13 z h).less (show LSub _ _ from ⟨rfl, ⟨rfl, ⟨rfl, ⟨rfl, ⟨rfl, ⟨rfl, trivial⟩⟩⟩⟩⟩⟩)
def f_Filler_lookForSets (n : Nat) (x0 : Nat) (x1 : Nat) (x2 : Nat) (x3 : Int32) (M : MM) : Option (Int32 × MM) :=
  og 3 x0 M <|
  f_Filler_lookForSets_6 n (f_Filler_lookForSets_24 n) n x0 x1 x2 x3 0 0 M
theorem fc_Filler_lookForSets {n : Nat} {x0 : Nat} {x1 : Nat} {x2 : Nat} {x3 : Int32} {M : MM} {z : Int32 × MM} (h : f_Filler_lookForSets n x0 x1 x2 x3 M = some z) : (M.1.2.1 x0).1 = 3 := by
  unfold f_Filler_lookForSets at h
  exact (og_s h).1
theorem t_Filler_lookForSets (n : Nat) (x0 : Nat) (x1 : Nat) (x2 : Nat) (x3 : Int32) (M : MM) (z : Int32 × MM) (h : f_Filler_lookForSets n x0 x1 x2 x3 M = some z) : CT m_Filler_lookForSets (rm 42 0 0) [.ref x0, .ref x1, .ref x2, .int x3] M (some (.int z.1)) z.2 := by
  unfold f_Filler_lookForSets at h
  obtain ⟨hthis, h⟩ := og_s h
  refine CT.of (ls := [some (.ref x0), some (.ref x1), some (.ref x2), some (.int x3), none, none]) rfl (okp rfl) rfl ?_
  refine e_iconst (v := 0) d_Filler_lookForSets_0 (by decide) ?_
  refine e_istore (l2 := [some (.ref x0), some (.ref x1), some (.ref x2), some (.int x3), some (.int 0), none]) d_Filler_lookForSets_1 rfl (okl rfl) rfl ?_
  refine e_iconst (v := 0) d_Filler_lookForSets_3 (by decide) ?_
  refine e_istore (l2 := [some (.ref x0), some (.ref x1), some (.ref x2), some (.int x3), some (.int 0), some (.int 0)]) d_Filler_lookForSets_4 rfl (okl rfl) rfl ?_
  exact (t_Filler_lookForSets_6 n (t_Filler_lookForSets_24 n) n x0 x1 x2 x3 0 0 M z h).less (show LSub _ _ from ⟨rfl, ⟨rfl, ⟨rfl, ⟨rfl, ⟨rfl, ⟨rfl, trivial⟩⟩⟩⟩⟩⟩)
theorem d_Filler_countSets_0 : DC m_Filler_countSets 0 (.iload_n 1) 1 1 := ⟨by decide +kernel, rfl⟩
theorem d_Filler_countSets_1 : DC m_Filler_countSets 1 (.ifCond .lt 9) 3 4 := ⟨by decide +kernel, rfl⟩
theorem d_Filler_countSets_4 : DC m_Filler_countSets 4 (.iload_n 1) 1 5 := ⟨by decide +kernel, rfl⟩
theorem d_Filler_countSets_5 : DC m_Filler_countSets 5 (.bipush 6) 2 7 := ⟨by decide +kernel, rfl⟩
theorem d_Filler_countSets_7 : DC m_Filler_countSets 7 (.if_icmp .lt 5) 3 10 := ⟨by decide +kernel, rfl⟩
theorem d_Filler_countSets_10 : DC m_Filler_countSets 10 (.iconst (-1)) 1 11 := ⟨by decide +kernel, rfl⟩
theorem d_Filler_countSets_11 : DC m_Filler_countSets 11 .ireturn 1 12 := ⟨by decide +kernel, rfl⟩
theorem d_Filler_countSets_12 : DC m_Filler_countSets 12 (.aload_n 0) 1 13 := ⟨by decide +kernel, rfl⟩
theorem d_Filler_countSets_13 : DC m_Filler_countSets 13 (.getfield 51) 3 16 := ⟨by decide +kernel, rfl⟩
theorem d_Filler_countSets_16 : DC m_Filler_countSets 16 (.iload_n 1) 1 17 := ⟨by decide +kernel, rfl⟩
theorem d_Filler_countSets_17 : DC m_Filler_countSets 17 .iaload 1 18 := ⟨by decide +kernel, rfl⟩
theorem d_Filler_countSets_18 : DC m_Filler_countSets 18 (.bipush (-3)) 2 20 := ⟨by decide +kernel, rfl⟩
theorem d_Filler_countSets_20 : DC m_Filler_countSets 20 (.if_icmp .ne 21) 3 23 := ⟨by decide +kernel, rfl⟩
theorem d_Filler_countSets_23 : DC m_Filler_countSets 23 (.aload_n 0) 1 24 := ⟨by decide +kernel, rfl⟩
theorem d_Filler_countSets_24 : DC m_Filler_countSets 24 (.getfield 51) 3 27 := ⟨by decide +kernel, rfl⟩
theorem d_Filler_countSets_27 : DC m_Filler_countSets 27 (.iload_n 1) 1 28 := ⟨by decide +kernel, rfl⟩
theorem d_Filler_countSets_28 : DC m_Filler_countSets 28 (.aload_n 0) 1 29 := ⟨by decide +kernel, rfl⟩
theorem d_Filler_countSets_29 : DC m_Filler_countSets 29 (.aload_n 0) 1 30 := ⟨by decide +kernel, rfl⟩
theorem d_Filler_countSets_30 : DC m_Filler_countSets 30 (.getfield 56) 3 33 := ⟨by decide +kernel, rfl⟩
theorem d_Filler_countSets_33 : DC m_Filler_countSets 33 (.iload_n 1) 1 34 := ⟨by decide +kernel, rfl⟩
theorem d_Filler_countSets_34 : DC m_Filler_countSets 34 .aaload 1 35 := ⟨by decide +kernel, rfl⟩
theorem d_Filler_countSets_35 : DC m_Filler_countSets 35 (.aload_n 2) 1 36 := ⟨by decide +kernel, rfl⟩
theorem d_Filler_countSets_36 : DC m_Filler_countSets 36 (.iload_n 3) 1 37 := ⟨by decide +kernel, rfl⟩
theorem d_Filler_countSets_37 : DC m_Filler_countSets 37 (.invokevirtual 68) 3 40 := ⟨by decide +kernel, rfl⟩
theorem d_Filler_countSets_40 : DC m_Filler_countSets 40 .iastore 1 41 := ⟨by decide +kernel, rfl⟩
theorem d_Filler_countSets_41 : DC m_Filler_countSets 41 (.aload_n 0) 1 42 := ⟨by decide +kernel, rfl⟩
theorem d_Filler_countSets_42 : DC m_Filler_countSets 42 (.getfield 51) 3 45 := ⟨by decide +kernel, rfl⟩
theorem d_Filler_countSets_45 : DC m_Filler_countSets 45 (.iload_n 1) 1 46 := ⟨by decide +kernel, rfl⟩
theorem d_Filler_countSets_46 : DC m_Filler_countSets 46 .iaload 1 47 := ⟨by decide +kernel, rfl⟩
theorem d_Filler_countSets_47 : DC m_Filler_countSets 47 .ireturn 1 48 := ⟨by decide +kernel, rfl⟩
def f_Filler_countSets (n : Nat) (x0 : Nat) (x1 : Int32) (x2 : Nat) (x3 : Int32) (M : MM) : Option (Int32 × MM) :=
  og 3 x0 M <|
  if x1 < 0 then
    some ((-1), M)
  else
    if x1 < 6 then
      (gR 3 10 x0 M).bind fun v3 =>
      (aI 100 v3 x1 M).bind fun v4 =>
      if v4 = (-3) then
        (gR 3 10 x0 M).bind fun v6 =>
        (gR 3 11 x0 M).bind fun v7 =>
        (aR 106 v7 x1 M).bind fun v8 =>
        (f_Filler_lookForSets n x0 v8 x2 x3 M).bind fun p9 =>
        (sI 100 v6 x1 p9.1 p9.2).bind fun M10 =>
        (gR 3 10 x0 M10).bind fun v11 =>
        (aI 100 v11 x1 M10).bind fun v12 =>
        some (v12, M10)
      else
        (gR 3 10 x0 M).bind fun v13 =>
        (aI 100 v13 x1 M).bind fun v14 =>
        some (v14, M)
    else
      some ((-1), M)
theorem fc_Filler_countSets {n : Nat} {x0 : Nat} {x1 : Int32} {x2 : Nat} {x3 : Int32} {M : MM} {z : Int32 × MM} (h : f_Filler_countSets n x0 x1 x2 x3 M = some z) : (M.1.2.1 x0).1 = 3 := by
  unfold f_Filler_countSets at h
  exact (og_s h).1
theorem t_Filler_countSets (n : Nat) (x0 : Nat) (x1 : Int32) (x2 : Nat) (x3 : Int32) (M : MM) (z : Int32 × MM) (h : f_Filler_countSets n x0 x1 x2 x3 M = some z) : CT m_Filler_countSets (rm 43 0 0) [.ref x0, .int x1, .ref x2, .int x3] M (some (.int z.1)) z.2 := by
  unfold f_Filler_countSets at h
  obtain ⟨hthis, h⟩ := og_s h
  refine CT.of (ls := [some (.ref x0), some (.int x1), some (.ref x2), some (.int x3)]) rfl (okp rfl) rfl ?_
  refine e_iload_n d_Filler_countSets_0 rfl ?_
  refine e_if_lt 10 d_Filler_countSets_1 (by decide) (fun c1 => ?_) (fun c1 => ?_)
  · replace h := ift c1 h
    refine e_iconst (v := (-1)) d_Filler_countSets_10 (by decide) ?_
    cases h
    exact e_iret d_Filler_countSets_11 rfl (Nat.le_refl _) (Nat.le_refl _)
  · replace h := ifn c1 h
    refine e_iload_n d_Filler_countSets_4 rfl ?_
    refine e_bipush (v := 6) d_Filler_countSets_5 (by decide) ?_
    refine e_ic_lt 12 d_Filler_countSets_7 (by decide) (fun c2 => ?_) (fun c2 => ?_)
    · replace h := ift c2 h
      refine e_aload_n d_Filler_countSets_12 rfl ?_
      obtain ⟨v3, hv3, h⟩ := bnd h
      refine e_getR d_Filler_countSets_13 fl_Filler_51 (fun _ _ _ => rfl) hv3 ?_
      refine e_iload_n d_Filler_countSets_16 rfl ?_
      obtain ⟨v4, hv4, h⟩ := bnd h
      refine e_iald d_Filler_countSets_17 hv4 ?_
      refine e_bipush (v := (-3)) d_Filler_countSets_18 (by decide) ?_
      refine e_ic_ne 41 d_Filler_countSets_20 (by decide) (fun c5 => ?_) (fun c5 => ?_)
      · replace h := ifn c5 h
        refine e_aload_n d_Filler_countSets_41 rfl ?_
        obtain ⟨v13, hv13, h⟩ := bnd h
        refine e_getR d_Filler_countSets_42 fl_Filler_51 (fun _ _ _ => rfl) hv13 ?_
        refine e_iload_n d_Filler_countSets_45 rfl ?_
        obtain ⟨v14, hv14, h⟩ := bnd h
        refine e_iald d_Filler_countSets_46 hv14 ?_
        cases h
        exact e_iret d_Filler_countSets_47 rfl (Nat.le_refl _) (Nat.le_refl _)
      · replace h := ift c5 h
        refine e_aload_n d_Filler_countSets_23 rfl ?_
        obtain ⟨v6, hv6, h⟩ := bnd h
        refine e_getR d_Filler_countSets_24 fl_Filler_51 (fun _ _ _ => rfl) hv6 ?_
        refine e_iload_n d_Filler_countSets_27 rfl ?_
        refine e_aload_n d_Filler_countSets_28 rfl ?_
        refine e_aload_n d_Filler_countSets_29 rfl ?_
        obtain ⟨v7, hv7, h⟩ := bnd h
        refine e_getR d_Filler_countSets_30 fl_Filler_56 (fun _ _ _ => rfl) hv7 ?_
        refine e_iload_n d_Filler_countSets_33 rfl ?_
        obtain ⟨v8, hv8, h⟩ := bnd h
        refine e_aald (kd := 106) d_Filler_countSets_34 (by decide) hv8 ?_
        refine e_aload_n d_Filler_countSets_35 rfl ?_
        refine e_iload_n d_Filler_countSets_36 rfl ?_
        obtain ⟨p9, hp9, h⟩ := bnd h
        refine e_cVi (mt1 := m_Filler_lookForSets) (As := [.ref v8, .ref x2, .int x3]) (st := [.int x1, .ref v6]) d_Filler_countSets_37 ml_Filler_68 mv_Filler_lookForSets (t_Filler_lookForSets n x0 v8 x2 x3 M p9 hp9) (fc_Filler_lookForSets hp9) rfl rfl rfl (okp rfl) (okp rfl) (okp rfl) (Nat.le_refl _) (Nat.le_refl _) ?_
        obtain ⟨M10, hM10, h⟩ := bnd h
        refine e_iast d_Filler_countSets_40 hM10 ?_
        refine e_aload_n d_Filler_countSets_41 rfl ?_
        obtain ⟨v11, hv11, h⟩ := bnd h
        refine e_getR d_Filler_countSets_42 fl_Filler_51 (fun _ _ _ => rfl) hv11 ?_
        refine e_iload_n d_Filler_countSets_45 rfl ?_
        obtain ⟨v12, hv12, h⟩ := bnd h
        refine e_iald d_Filler_countSets_46 hv12 ?_
        cases h
        exact e_iret d_Filler_countSets_47 rfl (Nat.le_refl _) (Nat.le_refl _)
    · replace h := ifn c2 h
      refine e_iconst (v := (-1)) d_Filler_countSets_10 (by decide) ?_
      cases h
      exact e_iret d_Filler_countSets_11 rfl (Nat.le_refl _) (Nat.le_refl _)
theorem d_Filler_doesFill_0 : DC m_Filler_doesFill 0 (.iload_n 1) 1 1 := ⟨by decide +kernel, rfl⟩
theorem d_Filler_doesFill_1 : DC m_Filler_doesFill 1 (.ifCond .lt 44) 3 4 := ⟨by decide +kernel, rfl⟩
theorem d_Filler_doesFill_4 : DC m_Filler_doesFill 4 (.iload_n 1) 1 5 := ⟨by decide +kernel, rfl⟩
theorem d_Filler_doesFill_5 : DC m_Filler_doesFill 5 (.bipush 6) 2 7 := ⟨by decide +kernel, rfl⟩
theorem d_Filler_doesFill_7 : DC m_Filler_doesFill 7 (.if_icmp .ge 38) 3 10 := ⟨by decide +kernel, rfl⟩
theorem d_Filler_doesFill_10 : DC m_Filler_doesFill 10 (.iload_n 2) 1 11 := ⟨by decide +kernel, rfl⟩
theorem d_Filler_doesFill_11 : DC m_Filler_doesFill 11 (.ifCond .lt 34) 3 14 := ⟨by decide +kernel, rfl⟩
theorem d_Filler_doesFill_14 : DC m_Filler_doesFill 14 (.iload_n 2) 1 15 := ⟨by decide +kernel, rfl⟩
theorem d_Filler_doesFill_15 : DC m_Filler_doesFill 15 (.sipush 256) 3 18 := ⟨by decide +kernel, rfl⟩
theorem d_Filler_doesFill_18 : DC m_Filler_doesFill 18 (.if_icmp .ge 27) 3 21 := ⟨by decide +kernel, rfl⟩
theorem d_Filler_doesFill_21 : DC m_Filler_doesFill 21 (.aload_n 0) 1 22 := ⟨by decide +kernel, rfl⟩
theorem d_Filler_doesFill_22 : DC m_Filler_doesFill 22 (.getfield 56) 3 25 := ⟨by decide +kernel, rfl⟩
theorem d_Filler_doesFill_25 : DC m_Filler_doesFill 25 (.iload_n 1) 1 26 := ⟨by decide +kernel, rfl⟩
theorem d_Filler_doesFill_26 : DC m_Filler_doesFill 26 .aaload 1 27 := ⟨by decide +kernel, rfl⟩
theorem d_Filler_doesFill_27 : DC m_Filler_doesFill 27 (.iload_n 2) 1 28 := ⟨by decide +kernel, rfl⟩
theorem d_Filler_doesFill_28 : DC m_Filler_doesFill 28 (.iconst 5) 1 29 := ⟨by decide +kernel, rfl⟩
theorem d_Filler_doesFill_29 : DC m_Filler_doesFill 29 .ishr 1 30 := ⟨by decide +kernel, rfl⟩
theorem d_Filler_doesFill_30 : DC m_Filler_doesFill 30 .iaload 1 31 := ⟨by decide +kernel, rfl⟩
theorem d_Filler_doesFill_31 : DC m_Filler_doesFill 31 (.iload_n 2) 1 32 := ⟨by decide +kernel, rfl⟩
theorem d_Filler_doesFill_32 : DC m_Filler_doesFill 32 (.bipush 31) 2 34 := ⟨by decide +kernel, rfl⟩
theorem d_Filler_doesFill_34 : DC m_Filler_doesFill 34 .iand 1 35 := ⟨by decide +kernel, rfl⟩
theorem d_Filler_doesFill_35 : DC m_Filler_doesFill 35 .iushr 1 36 := ⟨by decide +kernel, rfl⟩
theorem d_Filler_doesFill_36 : DC m_Filler_doesFill 36 (.iconst 1) 1 37 := ⟨by decide +kernel, rfl⟩
theorem d_Filler_doesFill_37 : DC m_Filler_doesFill 37 .iand 1 38 := ⟨by decide +kernel, rfl⟩
theorem d_Filler_doesFill_38 : DC m_Filler_doesFill 38 (.ifCond .eq 7) 3 41 := ⟨by decide +kernel, rfl⟩
theorem d_Filler_doesFill_41 : DC m_Filler_doesFill 41 (.iconst 1) 1 42 := ⟨by decide +kernel, rfl⟩
theorem d_Filler_doesFill_42 : DC m_Filler_doesFill 42 (.goto 4) 3 45 := ⟨by decide +kernel, rfl⟩
theorem d_Filler_doesFill_45 : DC m_Filler_doesFill 45 (.iconst 0) 1 46 := ⟨by decide +kernel, rfl⟩
theorem d_Filler_doesFill_46 : DC m_Filler_doesFill 46 .ireturn 1 47 := ⟨by decide +kernel, rfl⟩
def f_Filler_doesFill (n : Nat) (x0 : Nat) (x1 : Int32) (x2 : Int32) (M : MM) : Option (Int32 × MM) :=
  og 3 x0 M <|
  if x1 < 0 then
    some (0, M)
  else
    if 6 ≤ x1 then
      some (0, M)
    else
      if x2 < 0 then
        some (0, M)
      else
        if 256 ≤ x2 then
          some (0, M)
        else
          (gR 3 11 x0 M).bind fun v5 =>
          (aR 106 v5 x1 M).bind fun v6 =>
          (aI 100 v6 (ishr x2 5) M).bind fun v7 =>
          if ((ushr v7 (x2 &&& 31)) &&& 1) = 0 then
            some (0, M)
          else
            some (1, M)
theorem fc_Filler_doesFill {n : Nat} {x0 : Nat} {x1 : Int32} {x2 : Int32} {M : MM} {z : Int32 × MM} (h : f_Filler_doesFill n x0 x1 x2 M = some z) : (M.1.2.1 x0).1 = 3 := by
  unfold f_Filler_doesFill at h
  exact (og_s h).1
theorem t_Filler_doesFill (n : Nat) (x0 : Nat) (x1 : Int32) (x2 : Int32) (M : MM) (z : Int32 × MM) (h : f_Filler_doesFill n x0 x1 x2 M = some z) : CT m_Filler_doesFill (rm 1 0 0) [.ref x0, .int x1, .int x2] M (some (.int z.1)) z.2 := by
  unfold f_Filler_doesFill at h
  obtain ⟨hthis, h⟩ := og_s h
  refine CT.of (ls := [some (.ref x0), some (.int x1), some (.int x2)]) rfl (okp rfl) rfl ?_
  refine e_iload_n d_Filler_doesFill_0 rfl ?_
  refine e_if_lt 45 d_Filler_doesFill_1 (by decide) (fun c1 => ?_) (fun c1 => ?_)
  · replace h := ift c1 h
    refine e_iconst (v := 0) d_Filler_doesFill_45 (by decide) ?_
    cases h
    exact e_zret (ty := .boolean) d_Filler_doesFill_46 rfl narZ0 (Nat.le_refl _) (Nat.le_refl _)
  · replace h := ifn c1 h
    refine e_iload_n d_Filler_doesFill_4 rfl ?_
    refine e_bipush (v := 6) d_Filler_doesFill_5 (by decide) ?_
    refine e_ic_ge 45 d_Filler_doesFill_7 (by decide) (fun c2 => ?_) (fun c2 => ?_)
    · replace h := ift c2 h
      refine e_iconst (v := 0) d_Filler_doesFill_45 (by decide) ?_
      cases h
      exact e_zret (ty := .boolean) d_Filler_doesFill_46 rfl narZ0 (Nat.le_refl _) (Nat.le_refl _)
    · replace h := ifn c2 h
      refine e_iload_n d_Filler_doesFill_10 rfl ?_
      refine e_if_lt 45 d_Filler_doesFill_11 (by decide) (fun c3 => ?_) (fun c3 => ?_)
      · replace h := ift c3 h
        refine e_iconst (v := 0) d_Filler_doesFill_45 (by decide) ?_
        cases h
        exact e_zret (ty := .boolean) d_Filler_doesFill_46 rfl narZ0 (Nat.le_refl _) (Nat.le_refl _)
      · replace h := ifn c3 h
        refine e_iload_n d_Filler_doesFill_14 rfl ?_
        refine e_sipush (v := 256) d_Filler_doesFill_15 (by decide) ?_
        refine e_ic_ge 45 d_Filler_doesFill_18 (by decide) (fun c4 => ?_) (fun c4 => ?_)
        · replace h := ift c4 h
          refine e_iconst (v := 0) d_Filler_doesFill_45 (by decide) ?_
          cases h
          exact e_zret (ty := .boolean) d_Filler_doesFill_46 rfl narZ0 (Nat.le_refl _) (Nat.le_refl _)
        · replace h := ifn c4 h
          refine e_aload_n d_Filler_doesFill_21 rfl ?_
          obtain ⟨v5, hv5, h⟩ := bnd h
          refine e_getR d_Filler_doesFill_22 fl_Filler_56 (fun _ _ _ => rfl) hv5 ?_
          refine e_iload_n d_Filler_doesFill_25 rfl ?_
          obtain ⟨v6, hv6, h⟩ := bnd h
          refine e_aald (kd := 106) d_Filler_doesFill_26 (by decide) hv6 ?_
          refine e_iload_n d_Filler_doesFill_27 rfl ?_
          refine e_iconst (v := 5) d_Filler_doesFill_28 (by decide) ?_
          refine e_ishr d_Filler_doesFill_29 ?_
          obtain ⟨v7, hv7, h⟩ := bnd h
          refine e_iald d_Filler_doesFill_30 hv7 ?_
          refine e_iload_n d_Filler_doesFill_31 rfl ?_
          refine e_bipush (v := 31) d_Filler_doesFill_32 (by decide) ?_
          refine e_iand d_Filler_doesFill_34 ?_
          refine e_iushr d_Filler_doesFill_35 ?_
          refine e_iconst (v := 1) d_Filler_doesFill_36 (by decide) ?_
          refine e_iand d_Filler_doesFill_37 ?_
          refine e_if_eq 45 d_Filler_doesFill_38 (by decide) (fun c8 => ?_) (fun c8 => ?_)
          · replace h := ift c8 h
            refine e_iconst (v := 0) d_Filler_doesFill_45 (by decide) ?_
            cases h
            exact e_zret (ty := .boolean) d_Filler_doesFill_46 rfl narZ0 (Nat.le_refl _) (Nat.le_refl _)
          · replace h := ifn c8 h
            refine e_iconst (v := 1) d_Filler_doesFill_41 (by decide) ?_
            refine e_goto 46 d_Filler_doesFill_42 (by decide) ?_
            cases h
            exact e_zret (ty := .boolean) d_Filler_doesFill_46 rfl narZ1 (Nat.le_refl _) (Nat.le_refl _)
theorem d_Filler_setAt_0 : DC m_Filler_setAt 0 (.iconst 0) 1 1 := ⟨by decide +kernel, rfl⟩
theorem d_Filler_setAt_1 : DC m_Filler_setAt 1 (.istore_n 3) 1 2 := ⟨by decide +kernel, rfl⟩
theorem d_Filler_setAt_2 : DC m_Filler_setAt 2 (.iconst 1) 1 3 := ⟨by decide +kernel, rfl⟩
theorem d_Filler_setAt_3 : DC m_Filler_setAt 3 (.istore 4) 2 5 := ⟨by decide +kernel, rfl⟩
theorem d_Filler_setAt_5 : DC m_Filler_setAt 5 (.iload 4) 2 7 := ⟨by decide +kernel, rfl⟩
theorem d_Filler_setAt_7 : DC m_Filler_setAt 7 (.sipush 256) 3 10 := ⟨by decide +kernel, rfl⟩
theorem d_Filler_setAt_10 : DC m_Filler_setAt 10 (.if_icmp .ge 30) 3 13 := ⟨by decide +kernel, rfl⟩
theorem d_Filler_setAt_13 : DC m_Filler_setAt 13 (.aload_n 0) 1 14 := ⟨by decide +kernel, rfl⟩
theorem d_Filler_setAt_14 : DC m_Filler_setAt 14 (.iload_n 1) 1 15 := ⟨by decide +kernel, rfl⟩
theorem d_Filler_setAt_15 : DC m_Filler_setAt 15 (.iload 4) 2 17 := ⟨by decide +kernel, rfl⟩
theorem d_Filler_setAt_17 : DC m_Filler_setAt 17 (.invokevirtual 72) 3 20 := ⟨by decide +kernel, rfl⟩
theorem d_Filler_setAt_20 : DC m_Filler_setAt 20 (.ifCond .eq 14) 3 23 := ⟨by decide +kernel, rfl⟩
theorem d_Filler_setAt_23 : DC m_Filler_setAt 23 (.iload_n 3) 1 24 := ⟨by decide +kernel, rfl⟩
theorem d_Filler_setAt_24 : DC m_Filler_setAt 24 (.iload_n 2) 1 25 := ⟨by decide +kernel, rfl⟩
theorem d_Filler_setAt_25 : DC m_Filler_setAt 25 (.if_icmp .ne 6) 3 28 := ⟨by decide +kernel, rfl⟩
theorem d_Filler_setAt_28 : DC m_Filler_setAt 28 (.iload 4) 2 30 := ⟨by decide +kernel, rfl⟩
theorem d_Filler_setAt_30 : DC m_Filler_setAt 30 .ireturn 1 31 := ⟨by decide +kernel, rfl⟩
theorem d_Filler_setAt_31 : DC m_Filler_setAt 31 (.iinc 3 1) 3 34 := ⟨by decide +kernel, rfl⟩
theorem d_Filler_setAt_34 : DC m_Filler_setAt 34 (.iinc 4 1) 3 37 := ⟨by decide +kernel, rfl⟩
theorem d_Filler_setAt_37 : DC m_Filler_setAt 37 (.goto (-32)) 3 40 := ⟨by decide +kernel, rfl⟩
theorem d_Filler_setAt_40 : DC m_Filler_setAt 40 (.iconst (-1)) 1 41 := ⟨by decide +kernel, rfl⟩
theorem d_Filler_setAt_41 : DC m_Filler_setAt 41 .ireturn 1 42 := ⟨by decide +kernel, rfl⟩
def f_Filler_setAt_34 (n : Nat) (k_5 : Nat → Int32 → Int32 → Int32 → Int32 → MM → Option (Int32 × MM)) (x0 : Nat) (x1 : Int32) (x2 : Int32) (x3 : Int32) (x4 : Int32) (M : MM) : Option (Int32 × MM) :=
  k_5 x0 x1 x2 x3 (x4 + 1) M
theorem t_Filler_setAt_34 (n : Nat) {k_5 : Nat → Int32 → Int32 → Int32 → Int32 → MM → Option (Int32 × MM)} (hk_5 : ∀ (x0 : Nat) (x1 : Int32) (x2 : Int32) (x3 : Int32) (x4 : Int32) (M : MM) (z : Int32 × MM), k_5 x0 x1 x2 x3 x4 M = some z → EV m_Filler_setAt (rm 2 0 0) (some (.int z.1)) z.2 0 0 5 [some (.ref x0), some (.int x1), some (.int x2), some (.int x3), some (.int x4)] [] M) (x0 : Nat) (x1 : Int32) (x2 : Int32) (x3 : Int32) (x4 : Int32) (M : MM) (z : Int32 × MM) (h : f_Filler_setAt_34 n k_5 x0 x1 x2 x3 x4 M = some z) : EV m_Filler_setAt (rm 2 0 0) (some (.int z.1)) z.2 0 0 34 [some (.ref x0), some (.int x1), some (.int x2), some (.int x3), some (.int x4)] [] M := by
  unfold f_Filler_setAt_34 at h
  refine e_iinc (v := x4 + 1) (l2 := [some (.ref x0), some (.int x1), some (.int x2), some (.int x3), some (.int (x4 + 1))]) d_Filler_setAt_34 rfl rfl rfl (okl rfl) rfl ?_
  refine e_goto 5 d_Filler_setAt_37 (by decide) ?_
  exact (hk_5 x0 x1 x2 x3 (x4 + 1) M z h).less (show LSub _ _ from ⟨rfl, ⟨rfl, ⟨rfl, ⟨rfl, ⟨rfl, trivial⟩⟩⟩⟩⟩)
def f_Filler_setAt_5 (n : Nat) : Nat → Nat → Int32 → Int32 → Int32 → Int32 → MM → Option (Int32 × MM)
  | 0, _, _, _, _, _, _ => none
  | m + 1, x0, x1, x2, x3, x4, M =>
    if 256 ≤ x4 then
      some ((-1), M)
    else
      (f_Filler_doesFill n x0 x1 x4 M).bind fun p2 =>
      if p2.1 = 0 then
        f_Filler_setAt_34 n (f_Filler_setAt_5 n m) x0 x1 x2 x3 x4 p2.2
      else
        if x3 = x2 then
          some (x4, p2.2)
        else
          f_Filler_setAt_34 n (f_Filler_setAt_5 n m) x0 x1 x2 (x3 + 1) x4 p2.2
theorem t_Filler_setAt_5 (n : Nat) : ∀ (m : Nat) (x0 : Nat) (x1 : Int32) (x2 : Int32) (x3 : Int32) (x4 : Int32) (M : MM) (z : Int32 × MM), f_Filler_setAt_5 n m x0 x1 x2 x3 x4 M = some z → EV m_Filler_setAt (rm 2 0 0) (some (.int z.1)) z.2 0 0 5 [some (.ref x0), some (.int x1), some (.int x2), some (.int x3), some (.int x4)] [] M := by
  intro m
  induction m with
  | zero => intro x0 x1 x2 x3 x4 M z h; cases h
  | succ m ih =>
    intro x0 x1 x2 x3 x4 M z h
    rw [f_Filler_setAt_5] at h
    refine e_iload d_Filler_setAt_5 rfl ?_
    refine e_sipush (v := 256) d_Filler_setAt_7 (by decide) ?_
    refine e_ic_ge 40 d_Filler_setAt_10 (by decide) (fun c1 => ?_) (fun c1 => ?_)
    · replace h := ift c1 h
      refine e_iconst (v := (-1)) d_Filler_setAt_40 (by decide) ?_
      cases h
      exact e_iret d_Filler_setAt_41 rfl (Nat.le_refl _) (Nat.le_refl _)
    · replace h := ifn c1 h
      refine e_aload_n d_Filler_setAt_13 rfl ?_
      refine e_iload_n d_Filler_setAt_14 rfl ?_
      refine e_iload d_Filler_setAt_15 rfl ?_
      obtain ⟨p2, hp2, h⟩ := bnd h
      refine e_cVi (mt1 := m_Filler_doesFill) (As := [.int x1, .int x4]) (st := []) d_Filler_setAt_17 ml_Filler_72 mv_Filler_doesFill (t_Filler_doesFill n x0 x1 x4 M p2 hp2) (fc_Filler_doesFill hp2) rfl rfl rfl (okp rfl) (okp rfl) (okp rfl) (Nat.le_refl _) (Nat.le_refl _) ?_
      refine e_if_eq 34 d_Filler_setAt_20 (by decide) (fun c3 => ?_) (fun c3 => ?_)
      · replace h := ift c3 h
        exact (t_Filler_setAt_34 n ih x0 x1 x2 x3 x4 p2.2 z h).less (show LSub _ _ from ⟨rfl, ⟨rfl, ⟨rfl, ⟨rfl, ⟨rfl, trivial⟩⟩⟩⟩⟩)
      · replace h := ifn c3 h
        refine e_iload_n d_Filler_setAt_23 rfl ?_
        refine e_iload_n d_Filler_setAt_24 rfl ?_
        refine e_ic_ne 31 d_Filler_setAt_25 (by decide) (fun c4 => ?_) (fun c4 => ?_)
        · replace h := ifn c4 h
          refine e_iinc (v := x3 + 1) (l2 := [some (.ref x0), some (.int x1), some (.int x2), some (.int (x3 + 1)), some (.int x4)]) d_Filler_setAt_31 rfl rfl rfl (okl rfl) rfl ?_
          exact (t_Filler_setAt_34 n ih x0 x1 x2 (x3 + 1) x4 p2.2 z h).less (show LSub _ _ from ⟨rfl, ⟨rfl, ⟨rfl, ⟨rfl, ⟨rfl, trivial⟩⟩⟩⟩⟩)
        · replace h := ift c4 h
          refine e_iload d_Filler_setAt_28 rfl ?_
          cases h
          exact e_iret d_Filler_setAt_30 rfl (Nat.le_refl _) (Nat.le_refl _)
def f_Filler_setAt (n : Nat) (x0 : Nat) (x1 : Int32) (x2 : Int32) (M : MM) : Option (Int32 × MM) :=
  og 3 x0 M <|
  f_Filler_setAt_5 n n x0 x1 x2 0 1 M
theorem fc_Filler_setAt {n : Nat} {x0 : Nat} {x1 : Int32} {x2 : Int32} {M : MM} {z : Int32 × MM} (h : f_Filler_setAt n x0 x1 x2 M = some z) : (M.1.2.1 x0).1 = 3 := by
  unfold f_Filler_setAt at h
  exact (og_s h).1
theorem t_Filler_setAt (n : Nat) (x0 : Nat) (x1 : Int32) (x2 : Int32) (M : MM) (z : Int32 × MM) (h : f_Filler_setAt n x0 x1 x2 M = some z) : CT m_Filler_setAt (rm 2 0 0) [.ref x0, .int x1, .int x2] M (some (.int z.1)) z.2 := by
  unfold f_Filler_setAt at h
  obtain ⟨hthis, h⟩ := og_s h
  refine CT.of (ls := [some (.ref x0), some (.int x1), some (.int x2), none, none]) rfl (okp rfl) rfl ?_
  refine e_iconst (v := 0) d_Filler_setAt_0 (by decide) ?_
  refine e_istore_n (l2 := [some (.ref x0), some (.int x1), some (.int x2), some (.int 0), none]) d_Filler_setAt_1 rfl (okl rfl) rfl ?_
  refine e_iconst (v := 1) d_Filler_setAt_2 (by decide) ?_
  refine e_istore (l2 := [some (.ref x0), some (.int x1), some (.int x2), some (.int 0), some (.int 1)]) d_Filler_setAt_3 rfl (okl rfl) rfl ?_
  exact (t_Filler_setAt_5 n n x0 x1 x2 0 1 M z h).less (show LSub _ _ from ⟨rfl, ⟨rfl, ⟨rfl, ⟨rfl, ⟨rfl, trivial⟩⟩⟩⟩⟩)
theorem d_Filler_inAllSets_0 : DC m_Filler_inAllSets 0 (.sipush 255) 3 3 := ⟨by decide +kernel, rfl⟩
theorem d_Filler_inAllSets_3 : DC m_Filler_inAllSets 3 (.istore_n 2) 1 4 := ⟨by decide +kernel, rfl⟩
theorem d_Filler_inAllSets_4 : DC m_Filler_inAllSets 4 (.iconst 1) 1 5 := ⟨by decide +kernel, rfl⟩
theorem d_Filler_inAllSets_5 : DC m_Filler_inAllSets 5 (.istore_n 3) 1 6 := ⟨by decide +kernel, rfl⟩
theorem d_Filler_inAllSets_6 : DC m_Filler_inAllSets 6 (.iload_n 3) 1 7 := ⟨by decide +kernel, rfl⟩
theorem d_Filler_inAllSets_7 : DC m_Filler_inAllSets 7 (.sipush 256) 3 10 := ⟨by decide +kernel, rfl⟩
theorem d_Filler_inAllSets_10 : DC m_Filler_inAllSets 10 (.if_icmp .ge 26) 3 13 := ⟨by decide +kernel, rfl⟩
theorem d_Filler_inAllSets_13 : DC m_Filler_inAllSets 13 (.iload_n 2) 1 14 := ⟨by decide +kernel, rfl⟩
theorem d_Filler_inAllSets_14 : DC m_Filler_inAllSets 14 (.aload_n 0) 1 15 := ⟨by decide +kernel, rfl⟩
theorem d_Filler_inAllSets_15 : DC m_Filler_inAllSets 15 (.iload_n 1) 1 16 := ⟨by decide +kernel, rfl⟩
theorem d_Filler_inAllSets_16 : DC m_Filler_inAllSets 16 (.iload_n 3) 1 17 := ⟨by decide +kernel, rfl⟩
theorem d_Filler_inAllSets_17 : DC m_Filler_inAllSets 17 (.invokevirtual 72) 3 20 := ⟨by decide +kernel, rfl⟩
theorem d_Filler_inAllSets_20 : DC m_Filler_inAllSets 20 (.ifCond .eq 7) 3 23 := ⟨by decide +kernel, rfl⟩
theorem d_Filler_inAllSets_23 : DC m_Filler_inAllSets 23 (.iload_n 3) 1 24 := ⟨by decide +kernel, rfl⟩
theorem d_Filler_inAllSets_24 : DC m_Filler_inAllSets 24 (.goto 4) 3 27 := ⟨by decide +kernel, rfl⟩
theorem d_Filler_inAllSets_27 : DC m_Filler_inAllSets 27 (.iload_n 2) 1 28 := ⟨by decide +kernel, rfl⟩
theorem d_Filler_inAllSets_28 : DC m_Filler_inAllSets 28 .iand 1 29 := ⟨by decide +kernel, rfl⟩
theorem d_Filler_inAllSets_29 : DC m_Filler_inAllSets 29 (.istore_n 2) 1 30 := ⟨by decide +kernel, rfl⟩
theorem d_Filler_inAllSets_30 : DC m_Filler_inAllSets 30 (.iinc 3 1) 3 33 := ⟨by decide +kernel, rfl⟩
theorem d_Filler_inAllSets_33 : DC m_Filler_inAllSets 33 (.goto (-27)) 3 36 := ⟨by decide +kernel, rfl⟩
theorem d_Filler_inAllSets_36 : DC m_Filler_inAllSets 36 (.iload_n 2) 1 37 := ⟨by decide +kernel, rfl⟩
theorem d_Filler_inAllSets_37 : DC m_Filler_inAllSets 37 .ireturn 1 38 := ⟨by decide +kernel, rfl⟩
def f_Filler_inAllSets_28 (n : Nat) (k_6 : Nat → Int32 → Int32 → Int32 → MM → Option (Int32 × MM)) (x0 : Nat) (x1 : Int32) (x3 : Int32) (s0 : Int32) (s1 : Int32) (M : MM) : Option (Int32 × MM) :=
  nm (α := Int32) (s0 &&& s1) fun y1 =>
  k_6 x0 x1 y1 (x3 + 1) M
theorem t_Filler_inAllSets_28 (n : Nat) {k_6 : Nat → Int32 → Int32 → Int32 → MM → Option (Int32 × MM)} (hk_6 : ∀ (x0 : Nat) (x1 : Int32) (x2 : Int32) (x3 : Int32) (M : MM) (z : Int32 × MM), k_6 x0 x1 x2 x3 M = some z → EV m_Filler_inAllSets (rm 2 0 0) (some (.int z.1)) z.2 0 0 6 [some (.ref x0), some (.int x1), some (.int x2), some (.int x3)] [] M) (x0 : Nat) (x1 : Int32) (x3 : Int32) (s0 : Int32) (s1 : Int32) (M : MM) (z : Int32 × MM) (h : f_Filler_inAllSets_28 n k_6 x0 x1 x3 s0 s1 M = some z) : EV m_Filler_inAllSets (rm 2 0 0) (some (.int z.1)) z.2 0 0 28 [some (.ref x0), some (.int x1), none, some (.int x3)] [.int s1, .int s0] M := by
  unfold f_Filler_inAllSets_28 at h
  refine e_iand d_Filler_inAllSets_28 ?_
  obtain ⟨y1, ey1, h⟩ := nm_s h
  refine e_nameI ey1 ?_
  refine e_istore_n (l2 := [some (.ref x0), some (.int x1), some (.int y1), some (.int x3)]) d_Filler_inAllSets_29 rfl (okl rfl) rfl ?_
  refine e_iinc (v := x3 + 1) (l2 := [some (.ref x0), some (.int x1), some (.int y1), some (.int (x3 + 1))]) d_Filler_inAllSets_30 rfl rfl rfl (okl rfl) rfl ?_
  refine e_goto 6 d_Filler_inAllSets_33 (by decide) ?_
  exact (hk_6 x0 x1 y1 (x3 + 1) M z h).less (show LSub _ _ from ⟨rfl, ⟨rfl, ⟨rfl, ⟨rfl, trivial⟩⟩⟩⟩)
def f_Filler_inAllSets_6 (n : Nat) : Nat → Nat → Int32 → Int32 → Int32 → MM → Option (Int32 × MM)
  | 0, _, _, _, _, _ => none
  | m + 1, x0, x1, x2, x3, M =>
    if 256 ≤ x3 then
      some (x2, M)
    else
      (f_Filler_doesFill n x0 x1 x3 M).bind fun p3 =>
      if p3.1 = 0 then
        f_Filler_inAllSets_28 n (f_Filler_inAllSets_6 n m) x0 x1 x3 x2 x2 p3.2
      else
        f_Filler_inAllSets_28 n (f_Filler_inAllSets_6 n m) x0 x1 x3 x2 x3 p3.2
theorem t_Filler_inAllSets_6 (n : Nat) : ∀ (m : Nat) (x0 : Nat) (x1 : Int32) (x2 : Int32) (x3 : Int32) (M : MM) (z : Int32 × MM), f_Filler_inAllSets_6 n m x0 x1 x2 x3 M = some z → EV m_Filler_inAllSets (rm 2 0 0) (some (.int z.1)) z.2 0 0 6 [some (.ref x0), some (.int x1), some (.int x2), some (.int x3)] [] M := by
  intro m
  induction m with
  | zero => intro x0 x1 x2 x3 M z h; cases h
  | succ m ih =>
    intro x0 x1 x2 x3 M z h
    rw [f_Filler_inAllSets_6] at h
    refine e_iload_n d_Filler_inAllSets_6 rfl ?_
    refine e_sipush (v := 256) d_Filler_inAllSets_7 (by decide) ?_
    refine e_ic_ge 36 d_Filler_inAllSets_10 (by decide) (fun c2 => ?_) (fun c2 => ?_)
    · replace h := ift c2 h
      refine e_iload_n d_Filler_inAllSets_36 rfl ?_
      cases h
      exact e_iret d_Filler_inAllSets_37 rfl (Nat.le_refl _) (Nat.le_refl _)
    · replace h := ifn c2 h
      refine e_iload_n d_Filler_inAllSets_13 rfl ?_
      refine e_aload_n d_Filler_inAllSets_14 rfl ?_
      refine e_iload_n d_Filler_inAllSets_15 rfl ?_
      refine e_iload_n d_Filler_inAllSets_16 rfl ?_
      obtain ⟨p3, hp3, h⟩ := bnd h
      refine e_cVi (mt1 := m_Filler_doesFill) (As := [.int x1, .int x3]) (st := [.int x2]) d_Filler_inAllSets_17 ml_Filler_72 mv_Filler_doesFill (t_Filler_doesFill n x0 x1 x3 M p3 hp3) (fc_Filler_doesFill hp3) rfl rfl rfl (okp rfl) (okp rfl) (okp rfl) (Nat.le_refl _) (Nat.le_refl _) ?_
      refine e_if_eq 27 d_Filler_inAllSets_20 (by decide) (fun c4 => ?_) (fun c4 => ?_)
      · replace h := ift c4 h
        refine e_iload_n d_Filler_inAllSets_27 rfl ?_
        exact (t_Filler_inAllSets_28 n ih x0 x1 x3 x2 x2 p3.2 z h).less (show LSub _ _ from ⟨rfl, ⟨rfl, ⟨rfl, trivial⟩⟩⟩)
      · replace h := ifn c4 h
        refine e_iload_n d_Filler_inAllSets_23 rfl ?_
        refine e_goto 28 d_Filler_inAllSets_24 (by decide) ?_
        exact (t_Filler_inAllSets_28 n ih x0 x1 x3 x2 x3 p3.2 z h).less (show LSub _ _ from ⟨rfl, ⟨rfl, ⟨rfl, trivial⟩⟩⟩)
def f_Filler_inAllSets (n : Nat) (x0 : Nat) (x1 : Int32) (M : MM) : Option (Int32 × MM) :=
  og 3 x0 M <|
  f_Filler_inAllSets_6 n n x0 x1 255 1 M
theorem fc_Filler_inAllSets {n : Nat} {x0 : Nat} {x1 : Int32} {M : MM} {z : Int32 × MM} (h : f_Filler_inAllSets n x0 x1 M = some z) : (M.1.2.1 x0).1 = 3 := by
  unfold f_Filler_inAllSets at h
  exact (og_s h).1
theorem t_Filler_inAllSets (n : Nat) (x0 : Nat) (x1 : Int32) (M : MM) (z : Int32 × MM) (h : f_Filler_inAllSets n x0 x1 M = some z) : CT m_Filler_inAllSets (rm 2 0 0) [.ref x0, .int x1] M (some (.int z.1)) z.2 := by
  unfold f_Filler_inAllSets at h
  obtain ⟨hthis, h⟩ := og_s h
  refine CT.of (ls := [some (.ref x0), some (.int x1), none, none]) rfl (okp rfl) rfl ?_
  refine e_sipush (v := 255) d_Filler_inAllSets_0 (by decide) ?_
  refine e_istore_n (l2 := [some (.ref x0), some (.int x1), some (.int 255), none]) d_Filler_inAllSets_3 rfl (okl rfl) rfl ?_
  refine e_iconst (v := 1) d_Filler_inAllSets_4 (by decide) ?_
  refine e_istore_n (l2 := [some (.ref x0), some (.int x1), some (.int 255), some (.int 1)]) d_Filler_inAllSets_5 rfl (okl rfl) rfl ?_
  exact (t_Filler_inAllSets_6 n n x0 x1 255 1 M z h).less (show LSub _ _ from ⟨rfl, ⟨rfl, ⟨rfl, ⟨rfl, trivial⟩⟩⟩⟩)
