theorem d_Meaning_isTelling_0 : DC m_Meaning_isTelling 0 (.iload_n 0) 1 1 := ⟨by decide +kernel, rfl⟩
theorem d_Meaning_isTelling_1 : DC m_Meaning_isTelling 1 (.bipush 10) 2 3 := ⟨by decide +kernel, rfl⟩
theorem d_Meaning_isTelling_3 : DC m_Meaning_isTelling 3 (.if_icmp .eq 9) 3 6 := ⟨by decide +kernel, rfl⟩
theorem d_Meaning_isTelling_6 : DC m_Meaning_isTelling 6 (.iload_n 0) 1 7 := ⟨by decide +kernel, rfl⟩
theorem d_Meaning_isTelling_7 : DC m_Meaning_isTelling 7 (.bipush 11) 2 9 := ⟨by decide +kernel, rfl⟩
theorem d_Meaning_isTelling_9 : DC m_Meaning_isTelling 9 (.if_icmp .ne 7) 3 12 := ⟨by decide +kernel, rfl⟩
theorem d_Meaning_isTelling_12 : DC m_Meaning_isTelling 12 (.iconst 1) 1 13 := ⟨by decide +kernel, rfl⟩
theorem d_Meaning_isTelling_13 : DC m_Meaning_isTelling 13 (.goto 4) 3 16 := ⟨by decide +kernel, rfl⟩
theorem d_Meaning_isTelling_16 : DC m_Meaning_isTelling 16 (.iconst 0) 1 17 := ⟨by decide +kernel, rfl⟩
theorem d_Meaning_isTelling_17 : DC m_Meaning_isTelling 17 .ireturn 1 18 := ⟨by decide +kernel, rfl⟩
def f_Meaning_isTelling_12 (n : Nat) (M : MM) : Option (Int32 × MM) :=
  some (1, M)
theorem t_Meaning_isTelling_12 (n : Nat) (M : MM) (z : Int32 × MM) (h : f_Meaning_isTelling_12 n M = some z) : EV m_Meaning_isTelling (rm 1 0 0) (some (.int z.1)) z.2 0 0 12 [none] [] M := by
  unfold f_Meaning_isTelling_12 at h
  refine e_iconst (v := 1) d_Meaning_isTelling_12 (by decide) ?_
  refine e_goto 17 d_Meaning_isTelling_13 (by decide) ?_
  cases h
  exact e_zret (ty := .boolean) d_Meaning_isTelling_17 rfl narZ1 (Nat.le_refl _) (Nat.le_refl _)
def f_Meaning_isTelling (n : Nat) (x0 : Int32) (M : MM) : Option (Int32 × MM) :=
  if x0 = 10 then
    f_Meaning_isTelling_12 n M
  else
    if x0 = 11 then
      f_Meaning_isTelling_12 n M
    else
      some (0, M)
theorem t_Meaning_isTelling (n : Nat) (x0 : Int32) (M : MM) (z : Int32 × MM) (h : f_Meaning_isTelling n x0 M = some z) : CT m_Meaning_isTelling (rm 1 0 0) [.int x0] M (some (.int z.1)) z.2 := by
  unfold f_Meaning_isTelling at h
  refine CT.of (ls := [some (.int x0)]) rfl (okp rfl) rfl ?_
  refine e_iload_n d_Meaning_isTelling_0 rfl ?_
  refine e_bipush (v := 10) d_Meaning_isTelling_1 (by decide) ?_
  refine e_ic_eq 12 d_Meaning_isTelling_3 (by decide) (fun c1 => ?_) (fun c1 => ?_)
  · replace h := ift c1 h
    exact (t_Meaning_isTelling_12 n  M z h).less (show LSub _ _ from trivial)
  · replace h := ifn c1 h
    refine e_iload_n d_Meaning_isTelling_6 rfl ?_
    refine e_bipush (v := 11) d_Meaning_isTelling_7 (by decide) ?_
    refine e_ic_ne 16 d_Meaning_isTelling_9 (by decide) (fun c2 => ?_) (fun c2 => ?_)
    · replace h := ifn c2 h
      refine e_iconst (v := 0) d_Meaning_isTelling_16 (by decide) ?_
      cases h
      exact e_zret (ty := .boolean) d_Meaning_isTelling_17 rfl narZ0 (Nat.le_refl _) (Nat.le_refl _)
    · replace h := ift c2 h
      exact (t_Meaning_isTelling_12 n  M z h).less (show LSub _ _ from trivial)
theorem d_Meaning_isTold_0 : DC m_Meaning_isTold 0 (.iconst 0) 1 1 := ⟨by decide +kernel, rfl⟩
theorem d_Meaning_isTold_1 : DC m_Meaning_isTold 1 (.istore_n 3) 1 2 := ⟨by decide +kernel, rfl⟩
theorem d_Meaning_isTold_2 : DC m_Meaning_isTold 2 (.iload_n 3) 1 3 := ⟨by decide +kernel, rfl⟩
theorem d_Meaning_isTold_3 : DC m_Meaning_isTold 3 (.aload_n 0) 1 4 := ⟨by decide +kernel, rfl⟩
theorem d_Meaning_isTold_4 : DC m_Meaning_isTold 4 (.getfield 15) 3 7 := ⟨by decide +kernel, rfl⟩
theorem d_Meaning_isTold_7 : DC m_Meaning_isTold 7 (.if_icmp .ge 22) 3 10 := ⟨by decide +kernel, rfl⟩
theorem d_Meaning_isTold_10 : DC m_Meaning_isTold 10 (.aload_n 0) 1 11 := ⟨by decide +kernel, rfl⟩
theorem d_Meaning_isTold_11 : DC m_Meaning_isTold 11 (.getfield 9) 3 14 := ⟨by decide +kernel, rfl⟩
theorem d_Meaning_isTold_14 : DC m_Meaning_isTold 14 (.iload_n 3) 1 15 := ⟨by decide +kernel, rfl⟩
theorem d_Meaning_isTold_15 : DC m_Meaning_isTold 15 .laload 1 16 := ⟨by decide +kernel, rfl⟩
theorem d_Meaning_isTold_16 : DC m_Meaning_isTold 16 (.lload_n 1) 1 17 := ⟨by decide +kernel, rfl⟩
theorem d_Meaning_isTold_17 : DC m_Meaning_isTold 17 .lcmp 1 18 := ⟨by decide +kernel, rfl⟩
theorem d_Meaning_isTold_18 : DC m_Meaning_isTold 18 (.ifCond .ne 5) 3 21 := ⟨by decide +kernel, rfl⟩
theorem d_Meaning_isTold_21 : DC m_Meaning_isTold 21 (.iconst 1) 1 22 := ⟨by decide +kernel, rfl⟩
theorem d_Meaning_isTold_22 : DC m_Meaning_isTold 22 .ireturn 1 23 := ⟨by decide +kernel, rfl⟩
theorem d_Meaning_isTold_23 : DC m_Meaning_isTold 23 (.iinc 3 1) 3 26 := ⟨by decide +kernel, rfl⟩
theorem d_Meaning_isTold_26 : DC m_Meaning_isTold 26 (.goto (-24)) 3 29 := ⟨by decide +kernel, rfl⟩
theorem d_Meaning_isTold_29 : DC m_Meaning_isTold 29 (.iconst 0) 1 30 := ⟨by decide +kernel, rfl⟩
theorem d_Meaning_isTold_30 : DC m_Meaning_isTold 30 .ireturn 1 31 := ⟨by decide +kernel, rfl⟩
def f_Meaning_isTold_2 (n : Nat) : Nat → Nat → Int64 → Int32 → MM → Option (Int32 × MM)
  | 0, _, _, _, _ => none
  | m + 1, x0, x1, x3, M =>
    (gI 5 1 x0 M).bind fun v1 =>
    if v1 ≤ x3 then
      some (0, M)
    else
      (gR 5 0 x0 M).bind fun v3 =>
      (aL v3 x3 M).bind fun v4 =>
      if (lcp v4 x1) = 0 then
        some (1, M)
      else
        f_Meaning_isTold_2 n m x0 x1 (x3 + 1) M
theorem t_Meaning_isTold_2 (n : Nat) : ∀ (m : Nat) (x0 : Nat) (x1 : Int64) (x3 : Int32) (M : MM) (z : Int32 × MM), f_Meaning_isTold_2 n m x0 x1 x3 M = some z → EV m_Meaning_isTold (rm 1 0 0) (some (.int z.1)) z.2 0 0 2 [some (.ref x0), some (.long x1), none, some (.int x3)] [] M := by
  intro m
  induction m with
  | zero => intro x0 x1 x3 M z h; cases h
  | succ m ih =>
    intro x0 x1 x3 M z h
    rw [f_Meaning_isTold_2] at h
    refine e_iload_n d_Meaning_isTold_2 rfl ?_
    refine e_aload_n d_Meaning_isTold_3 rfl ?_
    obtain ⟨v1, hv1, h⟩ := bnd h
    refine e_getI d_Meaning_isTold_4 fl_Meaning_15 (fun _ _ _ => rfl) hv1 ?_
    refine e_ic_ge 29 d_Meaning_isTold_7 (by decide) (fun c2 => ?_) (fun c2 => ?_)
    · replace h := ift c2 h
      refine e_iconst (v := 0) d_Meaning_isTold_29 (by decide) ?_
      cases h
      exact e_zret (ty := .boolean) d_Meaning_isTold_30 rfl narZ0 (Nat.le_refl _) (Nat.le_refl _)
    · replace h := ifn c2 h
      refine e_aload_n d_Meaning_isTold_10 rfl ?_
      obtain ⟨v3, hv3, h⟩ := bnd h
      refine e_getR d_Meaning_isTold_11 fl_Meaning_9 (fun _ _ _ => rfl) hv3 ?_
      refine e_iload_n d_Meaning_isTold_14 rfl ?_
      obtain ⟨v4, hv4, h⟩ := bnd h
      refine e_lald d_Meaning_isTold_15 hv4 ?_
      refine e_lload_n d_Meaning_isTold_16 rfl ?_
      refine e_lcmp d_Meaning_isTold_17 ?_
      refine e_if_ne 23 d_Meaning_isTold_18 (by decide) (fun c5 => ?_) (fun c5 => ?_)
      · replace h := ifn c5 h
        refine e_iinc (v := x3 + 1) (l2 := [some (.ref x0), some (.long x1), none, some (.int (x3 + 1))]) d_Meaning_isTold_23 rfl rfl rfl (okl rfl) rfl ?_
        refine e_goto 2 d_Meaning_isTold_26 (by decide) ?_
        exact (ih x0 x1 (x3 + 1) M z h).less (show LSub _ _ from ⟨rfl, ⟨rfl, ⟨rfl, trivial⟩⟩⟩)
      · replace h := ift c5 h
        refine e_iconst (v := 1) d_Meaning_isTold_21 (by decide) ?_
        cases h
        exact e_zret (ty := .boolean) d_Meaning_isTold_22 rfl narZ1 (Nat.le_refl _) (Nat.le_refl _)
def f_Meaning_isTold (n : Nat) (x0 : Nat) (x1 : Int64) (M : MM) : Option (Int32 × MM) :=
  og 5 x0 M <|
  f_Meaning_isTold_2 n n x0 x1 0 M
theorem fc_Meaning_isTold {n : Nat} {x0 : Nat} {x1 : Int64} {M : MM} {z : Int32 × MM} (h : f_Meaning_isTold n x0 x1 M = some z) : (M.1.2.1 x0).1 = 5 := by
  unfold f_Meaning_isTold at h
  exact (og_s h).1
theorem t_Meaning_isTold (n : Nat) (x0 : Nat) (x1 : Int64) (M : MM) (z : Int32 × MM) (h : f_Meaning_isTold n x0 x1 M = some z) : CT m_Meaning_isTold (rm 1 0 0) [.ref x0, .long x1] M (some (.int z.1)) z.2 := by
  unfold f_Meaning_isTold at h
  obtain ⟨hthis, h⟩ := og_s h
  refine CT.of (ls := [some (.ref x0), some (.long x1), none, none]) rfl (okp rfl) rfl ?_
  refine e_iconst (v := 0) d_Meaning_isTold_0 (by decide) ?_
  refine e_istore_n (l2 := [some (.ref x0), some (.long x1), none, some (.int 0)]) d_Meaning_isTold_1 rfl (okl rfl) rfl ?_
  exact (t_Meaning_isTold_2 n n x0 x1 0 M z h).less (show LSub _ _ from ⟨rfl, ⟨rfl, ⟨rfl, trivial⟩⟩⟩)
theorem d_Meaning_openNameFault_0 : DC m_Meaning_openNameFault 0 (.aload_n 0) 1 1 := ⟨by decide +kernel, rfl⟩
theorem d_Meaning_openNameFault_1 : DC m_Meaning_openNameFault 1 (.lload_n 1) 1 2 := ⟨by decide +kernel, rfl⟩
theorem d_Meaning_openNameFault_2 : DC m_Meaning_openNameFault 2 (.putfield 19) 3 5 := ⟨by decide +kernel, rfl⟩
theorem d_Meaning_openNameFault_5 : DC m_Meaning_openNameFault 5 (.aload_n 0) 1 6 := ⟨by decide +kernel, rfl⟩
theorem d_Meaning_openNameFault_6 : DC m_Meaning_openNameFault 6 (.lload_n 1) 1 7 := ⟨by decide +kernel, rfl⟩
theorem d_Meaning_openNameFault_7 : DC m_Meaning_openNameFault 7 (.invokevirtual 73) 3 10 := ⟨by decide +kernel, rfl⟩
theorem d_Meaning_openNameFault_10 : DC m_Meaning_openNameFault 10 (.ifCond .eq 7) 3 13 := ⟨by decide +kernel, rfl⟩
theorem d_Meaning_openNameFault_13 : DC m_Meaning_openNameFault 13 (.iconst 3) 1 14 := ⟨by decide +kernel, rfl⟩
theorem d_Meaning_openNameFault_14 : DC m_Meaning_openNameFault 14 (.goto 4) 3 17 := ⟨by decide +kernel, rfl⟩
theorem d_Meaning_openNameFault_17 : DC m_Meaning_openNameFault 17 (.iconst 0) 1 18 := ⟨by decide +kernel, rfl⟩
theorem d_Meaning_openNameFault_18 : DC m_Meaning_openNameFault 18 .ireturn 1 19 := ⟨by decide +kernel, rfl⟩
def f_Meaning_openNameFault (n : Nat) (x0 : Nat) (x1 : Int64) (M : MM) : Option (Int32 × MM) :=
  og 5 x0 M <|
  (pL 5 2 x0 x1 M).bind fun M1 =>
  (f_Meaning_isTold n x0 x1 M1).bind fun p2 =>
  if p2.1 = 0 then
    some (0, p2.2)
  else
    some (3, p2.2)
theorem fc_Meaning_openNameFault {n : Nat} {x0 : Nat} {x1 : Int64} {M : MM} {z : Int32 × MM} (h : f_Meaning_openNameFault n x0 x1 M = some z) : (M.1.2.1 x0).1 = 5 := by
  unfold f_Meaning_openNameFault at h
  exact (og_s h).1
theorem t_Meaning_openNameFault (n : Nat) (x0 : Nat) (x1 : Int64) (M : MM) (z : Int32 × MM) (h : f_Meaning_openNameFault n x0 x1 M = some z) : CT m_Meaning_openNameFault (rm 2 0 0) [.ref x0, .long x1] M (some (.int z.1)) z.2 := by
  unfold f_Meaning_openNameFault at h
  obtain ⟨hthis, h⟩ := og_s h
  refine CT.of (ls := [some (.ref x0), some (.long x1), none]) rfl (okp rfl) rfl ?_
  refine e_aload_n d_Meaning_openNameFault_0 rfl ?_
  refine e_lload_n d_Meaning_openNameFault_1 rfl ?_
  obtain ⟨M1, hM1, h⟩ := bnd h
  refine e_putL d_Meaning_openNameFault_2 fl_Meaning_19 (Or.inl rfl) (fun _ _ _ => rfl) rfl hM1 ?_
  refine e_aload_n d_Meaning_openNameFault_5 rfl ?_
  refine e_lload_n d_Meaning_openNameFault_6 rfl ?_
  obtain ⟨p2, hp2, h⟩ := bnd h
  refine e_cVi (mt1 := m_Meaning_isTold) (As := [.long x1]) (st := []) d_Meaning_openNameFault_7 ml_Meaning_73 mv_Meaning_isTold (t_Meaning_isTold n x0 x1 M1 p2 hp2) (fc_Meaning_isTold hp2) rfl rfl rfl (okp rfl) (okp rfl) (okp rfl) (Nat.le_refl _) (Nat.le_refl _) ?_
  refine e_if_eq 17 d_Meaning_openNameFault_10 (by decide) (fun c3 => ?_) (fun c3 => ?_)
  · replace h := ift c3 h
    refine e_iconst (v := 0) d_Meaning_openNameFault_17 (by decide) ?_
    cases h
    exact e_iret d_Meaning_openNameFault_18 rfl (Nat.le_refl _) (Nat.le_refl _)
  · replace h := ifn c3 h
    refine e_iconst (v := 3) d_Meaning_openNameFault_13 (by decide) ?_
    refine e_goto 18 d_Meaning_openNameFault_14 (by decide) ?_
    cases h
    exact e_iret d_Meaning_openNameFault_18 rfl (Nat.le_refl _) (Nat.le_refl _)
theorem d_Meaning_usedNameFault_0 : DC m_Meaning_usedNameFault 0 (.aload_n 0) 1 1 := ⟨by decide +kernel, rfl⟩
theorem d_Meaning_usedNameFault_1 : DC m_Meaning_usedNameFault 1 (.lload_n 1) 1 2 := ⟨by decide +kernel, rfl⟩
theorem d_Meaning_usedNameFault_2 : DC m_Meaning_usedNameFault 2 (.invokevirtual 73) 3 5 := ⟨by decide +kernel, rfl⟩
theorem d_Meaning_usedNameFault_5 : DC m_Meaning_usedNameFault 5 (.ifCond .eq 7) 3 8 := ⟨by decide +kernel, rfl⟩
theorem d_Meaning_usedNameFault_8 : DC m_Meaning_usedNameFault 8 (.iconst 0) 1 9 := ⟨by decide +kernel, rfl⟩
theorem d_Meaning_usedNameFault_9 : DC m_Meaning_usedNameFault 9 (.goto 4) 3 12 := ⟨by decide +kernel, rfl⟩
theorem d_Meaning_usedNameFault_12 : DC m_Meaning_usedNameFault 12 (.iconst 4) 1 13 := ⟨by decide +kernel, rfl⟩
theorem d_Meaning_usedNameFault_13 : DC m_Meaning_usedNameFault 13 .ireturn 1 14 := ⟨by decide +kernel, rfl⟩
def f_Meaning_usedNameFault (n : Nat) (x0 : Nat) (x1 : Int64) (M : MM) : Option (Int32 × MM) :=
  og 5 x0 M <|
  (f_Meaning_isTold n x0 x1 M).bind fun p1 =>
  if p1.1 = 0 then
    some (4, p1.2)
  else
    some (0, p1.2)
theorem fc_Meaning_usedNameFault {n : Nat} {x0 : Nat} {x1 : Int64} {M : MM} {z : Int32 × MM} (h : f_Meaning_usedNameFault n x0 x1 M = some z) : (M.1.2.1 x0).1 = 5 := by
  unfold f_Meaning_usedNameFault at h
  exact (og_s h).1
theorem t_Meaning_usedNameFault (n : Nat) (x0 : Nat) (x1 : Int64) (M : MM) (z : Int32 × MM) (h : f_Meaning_usedNameFault n x0 x1 M = some z) : CT m_Meaning_usedNameFault (rm 2 0 0) [.ref x0, .long x1] M (some (.int z.1)) z.2 := by
  unfold f_Meaning_usedNameFault at h
  obtain ⟨hthis, h⟩ := og_s h
  refine CT.of (ls := [some (.ref x0), some (.long x1), none]) rfl (okp rfl) rfl ?_
  refine e_aload_n d_Meaning_usedNameFault_0 rfl ?_
  refine e_lload_n d_Meaning_usedNameFault_1 rfl ?_
  obtain ⟨p1, hp1, h⟩ := bnd h
  refine e_cVi (mt1 := m_Meaning_isTold) (As := [.long x1]) (st := []) d_Meaning_usedNameFault_2 ml_Meaning_73 mv_Meaning_isTold (t_Meaning_isTold n x0 x1 M p1 hp1) (fc_Meaning_isTold hp1) rfl rfl rfl (okp rfl) (okp rfl) (okp rfl) (Nat.le_refl _) (Nat.le_refl _) ?_
  refine e_if_eq 12 d_Meaning_usedNameFault_5 (by decide) (fun c2 => ?_) (fun c2 => ?_)
  · replace h := ift c2 h
    refine e_iconst (v := 4) d_Meaning_usedNameFault_12 (by decide) ?_
    cases h
    exact e_iret d_Meaning_usedNameFault_13 rfl (Nat.le_refl _) (Nat.le_refl _)
  · replace h := ifn c2 h
    refine e_iconst (v := 0) d_Meaning_usedNameFault_8 (by decide) ?_
    refine e_goto 13 d_Meaning_usedNameFault_9 (by decide) ?_
    cases h
    exact e_iret d_Meaning_usedNameFault_13 rfl (Nat.le_refl _) (Nat.le_refl _)
theorem d_Meaning_leastNumber_0 : DC m_Meaning_leastNumber 0 (.iload_n 1) 1 1 := ⟨by decide +kernel, rfl⟩
theorem d_Meaning_leastNumber_1 : DC m_Meaning_leastNumber 1 (.iconst 2) 1 2 := ⟨by decide +kernel, rfl⟩
theorem d_Meaning_leastNumber_2 : DC m_Meaning_leastNumber 2 (.if_icmp .lt 16) 3 5 := ⟨by decide +kernel, rfl⟩
theorem d_Meaning_leastNumber_5 : DC m_Meaning_leastNumber 5 (.aload_n 0) 1 6 := ⟨by decide +kernel, rfl⟩
theorem d_Meaning_leastNumber_6 : DC m_Meaning_leastNumber 6 (.getfield 23) 3 9 := ⟨by decide +kernel, rfl⟩
theorem d_Meaning_leastNumber_9 : DC m_Meaning_leastNumber 9 (.bipush 17) 2 11 := ⟨by decide +kernel, rfl⟩
theorem d_Meaning_leastNumber_11 : DC m_Meaning_leastNumber 11 (.if_icmp .ne 7) 3 14 := ⟨by decide +kernel, rfl⟩
theorem d_Meaning_leastNumber_14 : DC m_Meaning_leastNumber 14 (.iconst 1) 1 15 := ⟨by decide +kernel, rfl⟩
theorem d_Meaning_leastNumber_15 : DC m_Meaning_leastNumber 15 (.goto 4) 3 18 := ⟨by decide +kernel, rfl⟩
theorem d_Meaning_leastNumber_18 : DC m_Meaning_leastNumber 18 (.iconst 0) 1 19 := ⟨by decide +kernel, rfl⟩
theorem d_Meaning_leastNumber_19 : DC m_Meaning_leastNumber 19 .ireturn 1 20 := ⟨by decide +kernel, rfl⟩
def f_Meaning_leastNumber (n : Nat) (x0 : Nat) (x1 : Int32) (M : MM) : Option (Int32 × MM) :=
  og 5 x0 M <|
  if x1 < 2 then
    some (0, M)
  else
    (gI 5 3 x0 M).bind fun v2 =>
    if v2 = 17 then
      some (1, M)
    else
      some (0, M)
theorem fc_Meaning_leastNumber {n : Nat} {x0 : Nat} {x1 : Int32} {M : MM} {z : Int32 × MM} (h : f_Meaning_leastNumber n x0 x1 M = some z) : (M.1.2.1 x0).1 = 5 := by
  unfold f_Meaning_leastNumber at h
  exact (og_s h).1
theorem t_Meaning_leastNumber (n : Nat) (x0 : Nat) (x1 : Int32) (M : MM) (z : Int32 × MM) (h : f_Meaning_leastNumber n x0 x1 M = some z) : CT m_Meaning_leastNumber (rm 1 0 0) [.ref x0, .int x1] M (some (.int z.1)) z.2 := by
  unfold f_Meaning_leastNumber at h
  obtain ⟨hthis, h⟩ := og_s h
  refine CT.of (ls := [some (.ref x0), some (.int x1)]) rfl (okp rfl) rfl ?_
  refine e_iload_n d_Meaning_leastNumber_0 rfl ?_
  refine e_iconst (v := 2) d_Meaning_leastNumber_1 (by decide) ?_
  refine e_ic_lt 18 d_Meaning_leastNumber_2 (by decide) (fun c1 => ?_) (fun c1 => ?_)
  · replace h := ift c1 h
    refine e_iconst (v := 0) d_Meaning_leastNumber_18 (by decide) ?_
    cases h
    exact e_iret d_Meaning_leastNumber_19 rfl (Nat.le_refl _) (Nat.le_refl _)
  · replace h := ifn c1 h
    refine e_aload_n d_Meaning_leastNumber_5 rfl ?_
    obtain ⟨v2, hv2, h⟩ := bnd h
    refine e_getI d_Meaning_leastNumber_6 fl_Meaning_23 (fun _ _ _ => rfl) hv2 ?_
    refine e_bipush (v := 17) d_Meaning_leastNumber_9 (by decide) ?_
    refine e_ic_ne 18 d_Meaning_leastNumber_11 (by decide) (fun c3 => ?_) (fun c3 => ?_)
    · replace h := ifn c3 h
      refine e_iconst (v := 0) d_Meaning_leastNumber_18 (by decide) ?_
      cases h
      exact e_iret d_Meaning_leastNumber_19 rfl (Nat.le_refl _) (Nat.le_refl _)
    · replace h := ift c3 h
      refine e_iconst (v := 1) d_Meaning_leastNumber_14 (by decide) ?_
      refine e_goto 19 d_Meaning_leastNumber_15 (by decide) ?_
      cases h
      exact e_iret d_Meaning_leastNumber_19 rfl (Nat.le_refl _) (Nat.le_refl _)
theorem d_Meaning_mostNumber_0 : DC m_Meaning_mostNumber 0 (.iload_n 1) 1 1 := ⟨by decide +kernel, rfl⟩
theorem d_Meaning_mostNumber_1 : DC m_Meaning_mostNumber 1 (.iconst 2) 1 2 := ⟨by decide +kernel, rfl⟩
theorem d_Meaning_mostNumber_2 : DC m_Meaning_mostNumber 2 (.if_icmp .ge 6) 3 5 := ⟨by decide +kernel, rfl⟩
theorem d_Meaning_mostNumber_5 : DC m_Meaning_mostNumber 5 (.bipush 7) 2 7 := ⟨by decide +kernel, rfl⟩
theorem d_Meaning_mostNumber_7 : DC m_Meaning_mostNumber 7 .ireturn 1 8 := ⟨by decide +kernel, rfl⟩
theorem d_Meaning_mostNumber_8 : DC m_Meaning_mostNumber 8 (.aload_n 0) 1 9 := ⟨by decide +kernel, rfl⟩
theorem d_Meaning_mostNumber_9 : DC m_Meaning_mostNumber 9 (.getfield 23) 3 12 := ⟨by decide +kernel, rfl⟩
theorem d_Meaning_mostNumber_12 : DC m_Meaning_mostNumber 12 (.bipush 17) 2 14 := ⟨by decide +kernel, rfl⟩
theorem d_Meaning_mostNumber_14 : DC m_Meaning_mostNumber 14 (.if_icmp .ne 23) 3 17 := ⟨by decide +kernel, rfl⟩
theorem d_Meaning_mostNumber_17 : DC m_Meaning_mostNumber 17 (.bipush 8) 2 19 := ⟨by decide +kernel, rfl⟩
theorem d_Meaning_mostNumber_19 : DC m_Meaning_mostNumber 19 (.iload_n 1) 1 20 := ⟨by decide +kernel, rfl⟩
theorem d_Meaning_mostNumber_20 : DC m_Meaning_mostNumber 20 (.iconst 2) 1 21 := ⟨by decide +kernel, rfl⟩
theorem d_Meaning_mostNumber_21 : DC m_Meaning_mostNumber 21 (.if_icmp .ne 10) 3 24 := ⟨by decide +kernel, rfl⟩
theorem d_Meaning_mostNumber_24 : DC m_Meaning_mostNumber 24 (.aload_n 0) 1 25 := ⟨by decide +kernel, rfl⟩
theorem d_Meaning_mostNumber_25 : DC m_Meaning_mostNumber 25 (.getfield 29) 3 28 := ⟨by decide +kernel, rfl⟩
theorem d_Meaning_mostNumber_28 : DC m_Meaning_mostNumber 28 (.goto 7) 3 31 := ⟨by decide +kernel, rfl⟩
theorem d_Meaning_mostNumber_31 : DC m_Meaning_mostNumber 31 (.aload_n 0) 1 32 := ⟨by decide +kernel, rfl⟩
theorem d_Meaning_mostNumber_32 : DC m_Meaning_mostNumber 32 (.getfield 32) 3 35 := ⟨by decide +kernel, rfl⟩
theorem d_Meaning_mostNumber_35 : DC m_Meaning_mostNumber 35 .isub 1 36 := ⟨by decide +kernel, rfl⟩
theorem d_Meaning_mostNumber_36 : DC m_Meaning_mostNumber 36 .ireturn 1 37 := ⟨by decide +kernel, rfl⟩
theorem d_Meaning_mostNumber_37 : DC m_Meaning_mostNumber 37 (.iconst 3) 1 38 := ⟨by decide +kernel, rfl⟩
theorem d_Meaning_mostNumber_38 : DC m_Meaning_mostNumber 38 .ireturn 1 39 := ⟨by decide +kernel, rfl⟩
def f_Meaning_mostNumber (n : Nat) (x0 : Nat) (x1 : Int32) (M : MM) : Option (Int32 × MM) :=
  og 5 x0 M <|
  if 2 ≤ x1 then
    (gI 5 3 x0 M).bind fun v2 =>
    if v2 = 17 then
      if x1 = 2 then
        (gI 5 5 x0 M).bind fun v5 =>
        some ((8 - v5), M)
      else
        (gI 5 6 x0 M).bind fun v6 =>
        some ((8 - v6), M)
    else
      some (3, M)
  else
    some (7, M)
theorem fc_Meaning_mostNumber {n : Nat} {x0 : Nat} {x1 : Int32} {M : MM} {z : Int32 × MM} (h : f_Meaning_mostNumber n x0 x1 M = some z) : (M.1.2.1 x0).1 = 5 := by
  unfold f_Meaning_mostNumber at h
  exact (og_s h).1
theorem t_Meaning_mostNumber (n : Nat) (x0 : Nat) (x1 : Int32) (M : MM) (z : Int32 × MM) (h : f_Meaning_mostNumber n x0 x1 M = some z) : CT m_Meaning_mostNumber (rm 1 0 0) [.ref x0, .int x1] M (some (.int z.1)) z.2 := by
  unfold f_Meaning_mostNumber at h
  obtain ⟨hthis, h⟩ := og_s h
  refine CT.of (ls := [some (.ref x0), some (.int x1)]) rfl (okp rfl) rfl ?_
  refine e_iload_n d_Meaning_mostNumber_0 rfl ?_
  refine e_iconst (v := 2) d_Meaning_mostNumber_1 (by decide) ?_
  refine e_ic_ge 8 d_Meaning_mostNumber_2 (by decide) (fun c1 => ?_) (fun c1 => ?_)
  · replace h := ift c1 h
    refine e_aload_n d_Meaning_mostNumber_8 rfl ?_
    obtain ⟨v2, hv2, h⟩ := bnd h
    refine e_getI d_Meaning_mostNumber_9 fl_Meaning_23 (fun _ _ _ => rfl) hv2 ?_
    refine e_bipush (v := 17) d_Meaning_mostNumber_12 (by decide) ?_
    refine e_ic_ne 37 d_Meaning_mostNumber_14 (by decide) (fun c3 => ?_) (fun c3 => ?_)
    · replace h := ifn c3 h
      refine e_iconst (v := 3) d_Meaning_mostNumber_37 (by decide) ?_
      cases h
      exact e_iret d_Meaning_mostNumber_38 rfl (Nat.le_refl _) (Nat.le_refl _)
    · replace h := ift c3 h
      refine e_bipush (v := 8) d_Meaning_mostNumber_17 (by decide) ?_
      refine e_iload_n d_Meaning_mostNumber_19 rfl ?_
      refine e_iconst (v := 2) d_Meaning_mostNumber_20 (by decide) ?_
      refine e_ic_ne 31 d_Meaning_mostNumber_21 (by decide) (fun c4 => ?_) (fun c4 => ?_)
      · replace h := ifn c4 h
        refine e_aload_n d_Meaning_mostNumber_31 rfl ?_
        obtain ⟨v6, hv6, h⟩ := bnd h
        refine e_getI d_Meaning_mostNumber_32 fl_Meaning_32 (fun _ _ _ => rfl) hv6 ?_
        refine e_isub d_Meaning_mostNumber_35 ?_
        cases h
        exact e_iret d_Meaning_mostNumber_36 rfl (Nat.le_refl _) (Nat.le_refl _)
      · replace h := ift c4 h
        refine e_aload_n d_Meaning_mostNumber_24 rfl ?_
        obtain ⟨v5, hv5, h⟩ := bnd h
        refine e_getI d_Meaning_mostNumber_25 fl_Meaning_29 (fun _ _ _ => rfl) hv5 ?_
        refine e_goto 35 d_Meaning_mostNumber_28 (by decide) ?_
        refine e_isub d_Meaning_mostNumber_35 ?_
        cases h
        exact e_iret d_Meaning_mostNumber_36 rfl (Nat.le_refl _) (Nat.le_refl _)
  · replace h := ifn c1 h
    refine e_bipush (v := 7) d_Meaning_mostNumber_5 (by decide) ?_
    cases h
    exact e_iret d_Meaning_mostNumber_7 rfl (Nat.le_refl _) (Nat.le_refl _)
theorem d_Meaning_numberFault_0 : DC m_Meaning_numberFault 0 (.aload_n 0) 1 1 := ⟨by decide +kernel, rfl⟩
theorem d_Meaning_numberFault_1 : DC m_Meaning_numberFault 1 (.getfield 26) 3 4 := ⟨by decide +kernel, rfl⟩
theorem d_Meaning_numberFault_4 : DC m_Meaning_numberFault 4 (.istore_n 2) 1 5 := ⟨by decide +kernel, rfl⟩
theorem d_Meaning_numberFault_5 : DC m_Meaning_numberFault 5 (.aload_n 0) 1 6 := ⟨by decide +kernel, rfl⟩
theorem d_Meaning_numberFault_6 : DC m_Meaning_numberFault 6 .dup 1 7 := ⟨by decide +kernel, rfl⟩
theorem d_Meaning_numberFault_7 : DC m_Meaning_numberFault 7 (.getfield 26) 3 10 := ⟨by decide +kernel, rfl⟩
theorem d_Meaning_numberFault_10 : DC m_Meaning_numberFault 10 (.iconst 1) 1 11 := ⟨by decide +kernel, rfl⟩
theorem d_Meaning_numberFault_11 : DC m_Meaning_numberFault 11 .iadd 1 12 := ⟨by decide +kernel, rfl⟩
theorem d_Meaning_numberFault_12 : DC m_Meaning_numberFault 12 (.putfield 26) 3 15 := ⟨by decide +kernel, rfl⟩
theorem d_Meaning_numberFault_15 : DC m_Meaning_numberFault 15 (.iload_n 2) 1 16 := ⟨by decide +kernel, rfl⟩
theorem d_Meaning_numberFault_16 : DC m_Meaning_numberFault 16 (.ifCond .ne 11) 3 19 := ⟨by decide +kernel, rfl⟩
theorem d_Meaning_numberFault_19 : DC m_Meaning_numberFault 19 (.aload_n 0) 1 20 := ⟨by decide +kernel, rfl⟩
theorem d_Meaning_numberFault_20 : DC m_Meaning_numberFault 20 (.iload_n 1) 1 21 := ⟨by decide +kernel, rfl⟩
theorem d_Meaning_numberFault_21 : DC m_Meaning_numberFault 21 (.putfield 29) 3 24 := ⟨by decide +kernel, rfl⟩
theorem d_Meaning_numberFault_24 : DC m_Meaning_numberFault 24 (.goto 13) 3 27 := ⟨by decide +kernel, rfl⟩
theorem d_Meaning_numberFault_27 : DC m_Meaning_numberFault 27 (.iload_n 2) 1 28 := ⟨by decide +kernel, rfl⟩
theorem d_Meaning_numberFault_28 : DC m_Meaning_numberFault 28 (.iconst 1) 1 29 := ⟨by decide +kernel, rfl⟩
theorem d_Meaning_numberFault_29 : DC m_Meaning_numberFault 29 (.if_icmp .ne 8) 3 32 := ⟨by decide +kernel, rfl⟩
theorem d_Meaning_numberFault_32 : DC m_Meaning_numberFault 32 (.aload_n 0) 1 33 := ⟨by decide +kernel, rfl⟩
theorem d_Meaning_numberFault_33 : DC m_Meaning_numberFault 33 (.iload_n 1) 1 34 := ⟨by decide +kernel, rfl⟩
theorem d_Meaning_numberFault_34 : DC m_Meaning_numberFault 34 (.putfield 32) 3 37 := ⟨by decide +kernel, rfl⟩
theorem d_Meaning_numberFault_37 : DC m_Meaning_numberFault 37 (.iload_n 1) 1 38 := ⟨by decide +kernel, rfl⟩
theorem d_Meaning_numberFault_38 : DC m_Meaning_numberFault 38 (.aload_n 0) 1 39 := ⟨by decide +kernel, rfl⟩
theorem d_Meaning_numberFault_39 : DC m_Meaning_numberFault 39 (.iload_n 2) 1 40 := ⟨by decide +kernel, rfl⟩
theorem d_Meaning_numberFault_40 : DC m_Meaning_numberFault 40 (.invokevirtual 77) 3 43 := ⟨by decide +kernel, rfl⟩
theorem d_Meaning_numberFault_43 : DC m_Meaning_numberFault 43 (.if_icmp .lt 12) 3 46 := ⟨by decide +kernel, rfl⟩
theorem d_Meaning_numberFault_46 : DC m_Meaning_numberFault 46 (.iload_n 1) 1 47 := ⟨by decide +kernel, rfl⟩
theorem d_Meaning_numberFault_47 : DC m_Meaning_numberFault 47 (.aload_n 0) 1 48 := ⟨by decide +kernel, rfl⟩
theorem d_Meaning_numberFault_48 : DC m_Meaning_numberFault 48 (.iload_n 2) 1 49 := ⟨by decide +kernel, rfl⟩
theorem d_Meaning_numberFault_49 : DC m_Meaning_numberFault 49 (.invokevirtual 80) 3 52 := ⟨by decide +kernel, rfl⟩
theorem d_Meaning_numberFault_52 : DC m_Meaning_numberFault 52 (.if_icmp .le 7) 3 55 := ⟨by decide +kernel, rfl⟩
theorem d_Meaning_numberFault_55 : DC m_Meaning_numberFault 55 (.iconst 5) 1 56 := ⟨by decide +kernel, rfl⟩
theorem d_Meaning_numberFault_56 : DC m_Meaning_numberFault 56 (.goto 4) 3 59 := ⟨by decide +kernel, rfl⟩
theorem d_Meaning_numberFault_59 : DC m_Meaning_numberFault 59 (.iconst 0) 1 60 := ⟨by decide +kernel, rfl⟩
theorem d_Meaning_numberFault_60 : DC m_Meaning_numberFault 60 .ireturn 1 61 := ⟨by decide +kernel, rfl⟩
def f_Meaning_numberFault_55 (n : Nat) (M : MM) : Option (Int32 × MM) :=
  some (5, M)
theorem t_Meaning_numberFault_55 (n : Nat) (M : MM) (z : Int32 × MM) (h : f_Meaning_numberFault_55 n M = some z) : EV m_Meaning_numberFault (rm 2 0 0) (some (.int z.1)) z.2 0 0 55 [none, none, none] [] M := by
  unfold f_Meaning_numberFault_55 at h
  refine e_iconst (v := 5) d_Meaning_numberFault_55 (by decide) ?_
  refine e_goto 60 d_Meaning_numberFault_56 (by decide) ?_
  cases h
  exact e_iret d_Meaning_numberFault_60 rfl (Nat.le_refl _) (Nat.le_refl _)
def f_Meaning_numberFault_37 (n : Nat) (x0 : Nat) (x1 : Int32) (x2 : Int32) (M : MM) : Option (Int32 × MM) :=
  (f_Meaning_leastNumber n x0 x2 M).bind fun p1 =>
  if x1 < p1.1 then
    f_Meaning_numberFault_55 n p1.2
  else
    (f_Meaning_mostNumber n x0 x2 p1.2).bind fun p3 =>
    if x1 ≤ p3.1 then
      some (0, p3.2)
    else
      f_Meaning_numberFault_55 n p3.2
theorem t_Meaning_numberFault_37 (n : Nat) (x0 : Nat) (x1 : Int32) (x2 : Int32) (M : MM) (z : Int32 × MM) (h : f_Meaning_numberFault_37 n x0 x1 x2 M = some z) : EV m_Meaning_numberFault (rm 2 0 0) (some (.int z.1)) z.2 0 0 37 [some (.ref x0), some (.int x1), some (.int x2)] [] M := by
  unfold f_Meaning_numberFault_37 at h
  refine e_iload_n d_Meaning_numberFault_37 rfl ?_
  refine e_aload_n d_Meaning_numberFault_38 rfl ?_
  refine e_iload_n d_Meaning_numberFault_39 rfl ?_
  obtain ⟨p1, hp1, h⟩ := bnd h
  refine e_cVi (mt1 := m_Meaning_leastNumber) (As := [.int x2]) (st := [.int x1]) d_Meaning_numberFault_40 ml_Meaning_77 mv_Meaning_leastNumber (t_Meaning_leastNumber n x0 x2 M p1 hp1) (fc_Meaning_leastNumber hp1) rfl rfl rfl (okp rfl) (okp rfl) (okp rfl) (Nat.le_refl _) (Nat.le_refl _) ?_
  refine e_ic_lt 55 d_Meaning_numberFault_43 (by decide) (fun c2 => ?_) (fun c2 => ?_)
  · replace h := ift c2 h
    exact (t_Meaning_numberFault_55 n  p1.2 z h).less (show LSub _ _ from trivial)
  · replace h := ifn c2 h
    refine e_iload_n d_Meaning_numberFault_46 rfl ?_
    refine e_aload_n d_Meaning_numberFault_47 rfl ?_
    refine e_iload_n d_Meaning_numberFault_48 rfl ?_
    obtain ⟨p3, hp3, h⟩ := bnd h
    refine e_cVi (mt1 := m_Meaning_mostNumber) (As := [.int x2]) (st := [.int x1]) d_Meaning_numberFault_49 ml_Meaning_80 mv_Meaning_mostNumber (t_Meaning_mostNumber n x0 x2 p1.2 p3 hp3) (fc_Meaning_mostNumber hp3) rfl rfl rfl (okp rfl) (okp rfl) (okp rfl) (Nat.le_refl _) (Nat.le_refl _) ?_
    refine e_ic_le 59 d_Meaning_numberFault_52 (by decide) (fun c4 => ?_) (fun c4 => ?_)
    · replace h := ift c4 h
      refine e_iconst (v := 0) d_Meaning_numberFault_59 (by decide) ?_
      cases h
      exact e_iret d_Meaning_numberFault_60 rfl (Nat.le_refl _) (Nat.le_refl _)
    · replace h := ifn c4 h
      exact (t_Meaning_numberFault_55 n  p3.2 z h).less (show LSub _ _ from trivial)
def f_Meaning_numberFault (n : Nat) (x0 : Nat) (x1 : Int32) (M : MM) : Option (Int32 × MM) :=
  og 5 x0 M <|
  (gI 5 4 x0 M).bind fun v5 =>
  (gI 5 4 x0 M).bind fun v6 =>
  (pI 5 4 x0 (v6 + 1) M).bind fun M7 =>
  if v5 = 0 then
    (pI 5 5 x0 x1 M7).bind fun M9 =>
    f_Meaning_numberFault_37 n x0 x1 v5 M9
  else
    if v5 = 1 then
      (pI 5 6 x0 x1 M7).bind fun M11 =>
      f_Meaning_numberFault_37 n x0 x1 v5 M11
    else
      f_Meaning_numberFault_37 n x0 x1 v5 M7
theorem fc_Meaning_numberFault {n : Nat} {x0 : Nat} {x1 : Int32} {M : MM} {z : Int32 × MM} (h : f_Meaning_numberFault n x0 x1 M = some z) : (M.1.2.1 x0).1 = 5 := by
  unfold f_Meaning_numberFault at h
  exact (og_s h).1
theorem t_Meaning_numberFault (n : Nat) (x0 : Nat) (x1 : Int32) (M : MM) (z : Int32 × MM) (h : f_Meaning_numberFault n x0 x1 M = some z) : CT m_Meaning_numberFault (rm 2 0 0) [.ref x0, .int x1] M (some (.int z.1)) z.2 := by
  unfold f_Meaning_numberFault at h
  obtain ⟨hthis, h⟩ := og_s h
  refine CT.of (ls := [some (.ref x0), some (.int x1), none]) rfl (okp rfl) rfl ?_
  refine e_aload_n d_Meaning_numberFault_0 rfl ?_
  obtain ⟨v5, hv5, h⟩ := bnd h
  refine e_getI d_Meaning_numberFault_1 fl_Meaning_26 (fun _ _ _ => rfl) hv5 ?_
  refine e_istore_n (l2 := [some (.ref x0), some (.int x1), some (.int v5)]) d_Meaning_numberFault_4 rfl (okl rfl) rfl ?_
  refine e_aload_n d_Meaning_numberFault_5 rfl ?_
  refine e_dup d_Meaning_numberFault_6 rfl ?_
  obtain ⟨v6, hv6, h⟩ := bnd h
  refine e_getI d_Meaning_numberFault_7 fl_Meaning_26 (fun _ _ _ => rfl) hv6 ?_
  refine e_iconst (v := 1) d_Meaning_numberFault_10 (by decide) ?_
  refine e_iadd d_Meaning_numberFault_11 ?_
  obtain ⟨M7, hM7, h⟩ := bnd h
  refine e_putI d_Meaning_numberFault_12 fl_Meaning_26 (Or.inl rfl) (fun _ _ _ => rfl) rfl hM7 ?_
  refine e_iload_n d_Meaning_numberFault_15 rfl ?_
  refine e_if_ne 27 d_Meaning_numberFault_16 (by decide) (fun c8 => ?_) (fun c8 => ?_)
  · replace h := ifn c8 h
    refine e_iload_n d_Meaning_numberFault_27 rfl ?_
    refine e_iconst (v := 1) d_Meaning_numberFault_28 (by decide) ?_
    refine e_ic_ne 37 d_Meaning_numberFault_29 (by decide) (fun c10 => ?_) (fun c10 => ?_)
    · replace h := ifn c10 h
      exact (t_Meaning_numberFault_37 n x0 x1 v5 M7 z h).less (show LSub _ _ from ⟨rfl, ⟨rfl, ⟨rfl, trivial⟩⟩⟩)
    · replace h := ift c10 h
      refine e_aload_n d_Meaning_numberFault_32 rfl ?_
      refine e_iload_n d_Meaning_numberFault_33 rfl ?_
      obtain ⟨M11, hM11, h⟩ := bnd h
      refine e_putI d_Meaning_numberFault_34 fl_Meaning_32 (Or.inl rfl) (fun _ _ _ => rfl) rfl hM11 ?_
      exact (t_Meaning_numberFault_37 n x0 x1 v5 M11 z h).less (show LSub _ _ from ⟨rfl, ⟨rfl, ⟨rfl, trivial⟩⟩⟩)
  · replace h := ift c8 h
    refine e_aload_n d_Meaning_numberFault_19 rfl ?_
    refine e_iload_n d_Meaning_numberFault_20 rfl ?_
    obtain ⟨M9, hM9, h⟩ := bnd h
    refine e_putI d_Meaning_numberFault_21 fl_Meaning_29 (Or.inl rfl) (fun _ _ _ => rfl) rfl hM9 ?_
    refine e_goto 37 d_Meaning_numberFault_24 (by decide) ?_
    exact (t_Meaning_numberFault_37 n x0 x1 v5 M9 z h).less (show LSub _ _ from ⟨rfl, ⟨rfl, ⟨rfl, trivial⟩⟩⟩)
theorem d_Meaning_closeName_0 : DC m_Meaning_closeName 0 (.aload_n 0) 1 1 := ⟨by decide +kernel, rfl⟩
theorem d_Meaning_closeName_1 : DC m_Meaning_closeName 1 (.getfield 15) 3 4 := ⟨by decide +kernel, rfl⟩
theorem d_Meaning_closeName_4 : DC m_Meaning_closeName 4 (.aload_n 0) 1 5 := ⟨by decide +kernel, rfl⟩
theorem d_Meaning_closeName_5 : DC m_Meaning_closeName 5 (.getfield 9) 3 8 := ⟨by decide +kernel, rfl⟩
theorem d_Meaning_closeName_8 : DC m_Meaning_closeName 8 .arraylength 1 9 := ⟨by decide +kernel, rfl⟩
theorem d_Meaning_closeName_9 : DC m_Meaning_closeName 9 (.if_icmp .ge 26) 3 12 := ⟨by decide +kernel, rfl⟩
theorem d_Meaning_closeName_12 : DC m_Meaning_closeName 12 (.aload_n 0) 1 13 := ⟨by decide +kernel, rfl⟩
theorem d_Meaning_closeName_13 : DC m_Meaning_closeName 13 (.getfield 9) 3 16 := ⟨by decide +kernel, rfl⟩
theorem d_Meaning_closeName_16 : DC m_Meaning_closeName 16 (.aload_n 0) 1 17 := ⟨by decide +kernel, rfl⟩
theorem d_Meaning_closeName_17 : DC m_Meaning_closeName 17 (.getfield 15) 3 20 := ⟨by decide +kernel, rfl⟩
theorem d_Meaning_closeName_20 : DC m_Meaning_closeName 20 (.aload_n 0) 1 21 := ⟨by decide +kernel, rfl⟩
theorem d_Meaning_closeName_21 : DC m_Meaning_closeName 21 (.getfield 19) 3 24 := ⟨by decide +kernel, rfl⟩
theorem d_Meaning_closeName_24 : DC m_Meaning_closeName 24 .lastore 1 25 := ⟨by decide +kernel, rfl⟩
theorem d_Meaning_closeName_25 : DC m_Meaning_closeName 25 (.aload_n 0) 1 26 := ⟨by decide +kernel, rfl⟩
theorem d_Meaning_closeName_26 : DC m_Meaning_closeName 26 .dup 1 27 := ⟨by decide +kernel, rfl⟩
theorem d_Meaning_closeName_27 : DC m_Meaning_closeName 27 (.getfield 15) 3 30 := ⟨by decide +kernel, rfl⟩
theorem d_Meaning_closeName_30 : DC m_Meaning_closeName 30 (.iconst 1) 1 31 := ⟨by decide +kernel, rfl⟩
theorem d_Meaning_closeName_31 : DC m_Meaning_closeName 31 .iadd 1 32 := ⟨by decide +kernel, rfl⟩
theorem d_Meaning_closeName_32 : DC m_Meaning_closeName 32 (.putfield 15) 3 35 := ⟨by decide +kernel, rfl⟩
theorem d_Meaning_closeName_35 : DC m_Meaning_closeName 35 .return_ 1 36 := ⟨by decide +kernel, rfl⟩
def f_Meaning_closeName (n : Nat) (x0 : Nat) (M : MM) : Option (MM) :=
  og 5 x0 M <|
  (gI 5 1 x0 M).bind fun v1 =>
  (gR 5 0 x0 M).bind fun v2 =>
  (aN v2 M).bind fun v3 =>
  if v3 ≤ v1 then
    some M
  else
    (gR 5 0 x0 M).bind fun v5 =>
    (gI 5 1 x0 M).bind fun v6 =>
    (gL 5 2 x0 M).bind fun v7 =>
    (sL v5 v6 v7 M).bind fun M8 =>
    (gI 5 1 x0 M8).bind fun v9 =>
    (pI 5 1 x0 (v9 + 1) M8).bind fun M10 =>
    some M10
theorem fc_Meaning_closeName {n : Nat} {x0 : Nat} {M : MM} {z : MM} (h : f_Meaning_closeName n x0 M = some z) : (M.1.2.1 x0).1 = 5 := by
  unfold f_Meaning_closeName at h
  exact (og_s h).1
theorem t_Meaning_closeName (n : Nat) (x0 : Nat) (M : MM) (z : MM) (h : f_Meaning_closeName n x0 M = some z) : CT m_Meaning_closeName (rm 1 0 0) [.ref x0] M none z := by
  unfold f_Meaning_closeName at h
  obtain ⟨hthis, h⟩ := og_s h
  refine CT.of (ls := [some (.ref x0)]) rfl (okp rfl) rfl ?_
  refine e_aload_n d_Meaning_closeName_0 rfl ?_
  obtain ⟨v1, hv1, h⟩ := bnd h
  refine e_getI d_Meaning_closeName_1 fl_Meaning_15 (fun _ _ _ => rfl) hv1 ?_
  refine e_aload_n d_Meaning_closeName_4 rfl ?_
  obtain ⟨v2, hv2, h⟩ := bnd h
  refine e_getR d_Meaning_closeName_5 fl_Meaning_9 (fun _ _ _ => rfl) hv2 ?_
  obtain ⟨v3, hv3, h⟩ := bnd h
  refine e_alen d_Meaning_closeName_8 hv3 ?_
  refine e_ic_ge 35 d_Meaning_closeName_9 (by decide) (fun c4 => ?_) (fun c4 => ?_)
  · replace h := ift c4 h
    cases h
    exact e_vret d_Meaning_closeName_35 rfl (Nat.le_refl _) (Nat.le_refl _)
  · replace h := ifn c4 h
    refine e_aload_n d_Meaning_closeName_12 rfl ?_
    obtain ⟨v5, hv5, h⟩ := bnd h
    refine e_getR d_Meaning_closeName_13 fl_Meaning_9 (fun _ _ _ => rfl) hv5 ?_
    refine e_aload_n d_Meaning_closeName_16 rfl ?_
    obtain ⟨v6, hv6, h⟩ := bnd h
    refine e_getI d_Meaning_closeName_17 fl_Meaning_15 (fun _ _ _ => rfl) hv6 ?_
    refine e_aload_n d_Meaning_closeName_20 rfl ?_
    obtain ⟨v7, hv7, h⟩ := bnd h
    refine e_getL d_Meaning_closeName_21 fl_Meaning_19 (fun _ _ _ => rfl) hv7 ?_
    obtain ⟨M8, hM8, h⟩ := bnd h
    refine e_last d_Meaning_closeName_24 hM8 ?_
    refine e_aload_n d_Meaning_closeName_25 rfl ?_
    refine e_dup d_Meaning_closeName_26 rfl ?_
    obtain ⟨v9, hv9, h⟩ := bnd h
    refine e_getI d_Meaning_closeName_27 fl_Meaning_15 (fun _ _ _ => rfl) hv9 ?_
    refine e_iconst (v := 1) d_Meaning_closeName_30 (by decide) ?_
    refine e_iadd d_Meaning_closeName_31 ?_
    obtain ⟨M10, hM10, h⟩ := bnd h
    refine e_putI d_Meaning_closeName_32 fl_Meaning_15 (Or.inl rfl) (fun _ _ _ => rfl) rfl hM10 ?_
    cases h
    exact e_vret d_Meaning_closeName_35 rfl (Nat.le_refl _) (Nat.le_refl _)
theorem d_Meaning_faultAt_0 : DC m_Meaning_faultAt 0 (.aload_n 1) 1 1 := ⟨by decide +kernel, rfl⟩
theorem d_Meaning_faultAt_1 : DC m_Meaning_faultAt 1 (.iload_n 2) 1 2 := ⟨by decide +kernel, rfl⟩
theorem d_Meaning_faultAt_2 : DC m_Meaning_faultAt 2 (.invokevirtual 48) 3 5 := ⟨by decide +kernel, rfl⟩
theorem d_Meaning_faultAt_5 : DC m_Meaning_faultAt 5 (.istore_n 3) 1 6 := ⟨by decide +kernel, rfl⟩
theorem d_Meaning_faultAt_6 : DC m_Meaning_faultAt 6 (.iload_n 3) 1 7 := ⟨by decide +kernel, rfl⟩
theorem d_Meaning_faultAt_7 : DC m_Meaning_faultAt 7 (.iconst 2) 1 8 := ⟨by decide +kernel, rfl⟩
theorem d_Meaning_faultAt_8 : DC m_Meaning_faultAt 8 (.if_icmp .ne 38) 3 11 := ⟨by decide +kernel, rfl⟩
theorem d_Meaning_faultAt_11 : DC m_Meaning_faultAt 11 (.aload_n 1) 1 12 := ⟨by decide +kernel, rfl⟩
theorem d_Meaning_faultAt_12 : DC m_Meaning_faultAt 12 (.iload_n 2) 1 13 := ⟨by decide +kernel, rfl⟩
theorem d_Meaning_faultAt_13 : DC m_Meaning_faultAt 13 (.iconst 1) 1 14 := ⟨by decide +kernel, rfl⟩
theorem d_Meaning_faultAt_14 : DC m_Meaning_faultAt 14 .isub 1 15 := ⟨by decide +kernel, rfl⟩
theorem d_Meaning_faultAt_15 : DC m_Meaning_faultAt 15 (.invokevirtual 48) 3 18 := ⟨by decide +kernel, rfl⟩
theorem d_Meaning_faultAt_18 : DC m_Meaning_faultAt 18 (.invokestatic 52) 3 21 := ⟨by decide +kernel, rfl⟩
theorem d_Meaning_faultAt_21 : DC m_Meaning_faultAt 21 (.ifCond .eq 15) 3 24 := ⟨by decide +kernel, rfl⟩
theorem d_Meaning_faultAt_24 : DC m_Meaning_faultAt 24 (.aload_n 0) 1 25 := ⟨by decide +kernel, rfl⟩
theorem d_Meaning_faultAt_25 : DC m_Meaning_faultAt 25 (.aload_n 1) 1 26 := ⟨by decide +kernel, rfl⟩
theorem d_Meaning_faultAt_26 : DC m_Meaning_faultAt 26 (.iload_n 2) 1 27 := ⟨by decide +kernel, rfl⟩
theorem d_Meaning_faultAt_27 : DC m_Meaning_faultAt 27 (.invokevirtual 56) 3 30 := ⟨by decide +kernel, rfl⟩
theorem d_Meaning_faultAt_30 : DC m_Meaning_faultAt 30 (.invokevirtual 60) 3 33 := ⟨by decide +kernel, rfl⟩
theorem d_Meaning_faultAt_33 : DC m_Meaning_faultAt 33 (.goto 12) 3 36 := ⟨by decide +kernel, rfl⟩
theorem d_Meaning_faultAt_36 : DC m_Meaning_faultAt 36 (.aload_n 0) 1 37 := ⟨by decide +kernel, rfl⟩
theorem d_Meaning_faultAt_37 : DC m_Meaning_faultAt 37 (.aload_n 1) 1 38 := ⟨by decide +kernel, rfl⟩
theorem d_Meaning_faultAt_38 : DC m_Meaning_faultAt 38 (.iload_n 2) 1 39 := ⟨by decide +kernel, rfl⟩
theorem d_Meaning_faultAt_39 : DC m_Meaning_faultAt 39 (.invokevirtual 56) 3 42 := ⟨by decide +kernel, rfl⟩
theorem d_Meaning_faultAt_42 : DC m_Meaning_faultAt 42 (.invokevirtual 64) 3 45 := ⟨by decide +kernel, rfl⟩
theorem d_Meaning_faultAt_45 : DC m_Meaning_faultAt 45 .ireturn 1 46 := ⟨by decide +kernel, rfl⟩
theorem d_Meaning_faultAt_46 : DC m_Meaning_faultAt 46 (.iload_n 3) 1 47 := ⟨by decide +kernel, rfl⟩
theorem d_Meaning_faultAt_47 : DC m_Meaning_faultAt 47 (.iconst 3) 1 48 := ⟨by decide +kernel, rfl⟩
theorem d_Meaning_faultAt_48 : DC m_Meaning_faultAt 48 (.if_icmp .ne 14) 3 51 := ⟨by decide +kernel, rfl⟩
theorem d_Meaning_faultAt_51 : DC m_Meaning_faultAt 51 (.aload_n 0) 1 52 := ⟨by decide +kernel, rfl⟩
theorem d_Meaning_faultAt_52 : DC m_Meaning_faultAt 52 (.aload_n 1) 1 53 := ⟨by decide +kernel, rfl⟩
theorem d_Meaning_faultAt_53 : DC m_Meaning_faultAt 53 (.iload_n 2) 1 54 := ⟨by decide +kernel, rfl⟩
theorem d_Meaning_faultAt_54 : DC m_Meaning_faultAt 54 (.invokevirtual 56) 3 57 := ⟨by decide +kernel, rfl⟩
theorem d_Meaning_faultAt_57 : DC m_Meaning_faultAt 57 .l2i 1 58 := ⟨by decide +kernel, rfl⟩
theorem d_Meaning_faultAt_58 : DC m_Meaning_faultAt 58 (.invokevirtual 67) 3 61 := ⟨by decide +kernel, rfl⟩
theorem d_Meaning_faultAt_61 : DC m_Meaning_faultAt 61 .ireturn 1 62 := ⟨by decide +kernel, rfl⟩
theorem d_Meaning_faultAt_62 : DC m_Meaning_faultAt 62 (.iload_n 3) 1 63 := ⟨by decide +kernel, rfl⟩
theorem d_Meaning_faultAt_63 : DC m_Meaning_faultAt 63 (.bipush 59) 2 65 := ⟨by decide +kernel, rfl⟩
theorem d_Meaning_faultAt_65 : DC m_Meaning_faultAt 65 (.if_icmp .ne 10) 3 68 := ⟨by decide +kernel, rfl⟩
theorem d_Meaning_faultAt_68 : DC m_Meaning_faultAt 68 (.aload_n 0) 1 69 := ⟨by decide +kernel, rfl⟩
theorem d_Meaning_faultAt_69 : DC m_Meaning_faultAt 69 (.invokevirtual 70) 3 72 := ⟨by decide +kernel, rfl⟩
theorem d_Meaning_faultAt_72 : DC m_Meaning_faultAt 72 (.goto 25) 3 75 := ⟨by decide +kernel, rfl⟩
theorem d_Meaning_faultAt_75 : DC m_Meaning_faultAt 75 (.iload_n 3) 1 76 := ⟨by decide +kernel, rfl⟩
theorem d_Meaning_faultAt_76 : DC m_Meaning_faultAt 76 (.bipush 10) 2 78 := ⟨by decide +kernel, rfl⟩
theorem d_Meaning_faultAt_78 : DC m_Meaning_faultAt 78 (.if_icmp .lt 19) 3 81 := ⟨by decide +kernel, rfl⟩
theorem d_Meaning_faultAt_81 : DC m_Meaning_faultAt 81 (.iload_n 3) 1 82 := ⟨by decide +kernel, rfl⟩
theorem d_Meaning_faultAt_82 : DC m_Meaning_faultAt 82 (.bipush 19) 2 84 := ⟨by decide +kernel, rfl⟩
theorem d_Meaning_faultAt_84 : DC m_Meaning_faultAt 84 (.if_icmp .gt 13) 3 87 := ⟨by decide +kernel, rfl⟩
theorem d_Meaning_faultAt_87 : DC m_Meaning_faultAt 87 (.aload_n 0) 1 88 := ⟨by decide +kernel, rfl⟩
theorem d_Meaning_faultAt_88 : DC m_Meaning_faultAt 88 (.iload_n 3) 1 89 := ⟨by decide +kernel, rfl⟩
theorem d_Meaning_faultAt_89 : DC m_Meaning_faultAt 89 (.putfield 23) 3 92 := ⟨by decide +kernel, rfl⟩
theorem d_Meaning_faultAt_92 : DC m_Meaning_faultAt 92 (.aload_n 0) 1 93 := ⟨by decide +kernel, rfl⟩
theorem d_Meaning_faultAt_93 : DC m_Meaning_faultAt 93 (.iconst 0) 1 94 := ⟨by decide +kernel, rfl⟩
theorem d_Meaning_faultAt_94 : DC m_Meaning_faultAt 94 (.putfield 26) 3 97 := ⟨by decide +kernel, rfl⟩
theorem d_Meaning_faultAt_97 : DC m_Meaning_faultAt 97 (.iconst 0) 1 98 := ⟨by decide +kernel, rfl⟩
theorem d_Meaning_faultAt_98 : DC m_Meaning_faultAt 98 .ireturn 1 99 := ⟨by decide +kernel, rfl⟩
def f_Meaning_faultAt (n : Nat) (x0 : Nat) (x1 : Nat) (x2 : Int32) (M : MM) : Option (Int32 × MM) :=
  og 5 x0 M <|
  (f_Tokens_kindAt n x1 x2 M).bind fun p1 =>
  if p1.1 = 2 then
    (f_Tokens_kindAt n x1 (x2 - 1) p1.2).bind fun p3 =>
    (f_Meaning_isTelling n p3.1 p3.2).bind fun p4 =>
    if p4.1 = 0 then
      (f_Tokens_valueAt n x1 x2 p4.2).bind fun p6 =>
      (f_Meaning_usedNameFault n x0 p6.1 p6.2).bind fun p7 =>
      some (p7.1, p7.2)
    else
      (f_Tokens_valueAt n x1 x2 p4.2).bind fun p8 =>
      (f_Meaning_openNameFault n x0 p8.1 p8.2).bind fun p9 =>
      some (p9.1, p9.2)
  else
    if p1.1 = 3 then
      (f_Tokens_valueAt n x1 x2 p1.2).bind fun p11 =>
      (f_Meaning_numberFault n x0 (p11.1.toInt32) p11.2).bind fun p12 =>
      some (p12.1, p12.2)
    else
      if p1.1 = 59 then
        (f_Meaning_closeName n x0 p1.2).bind fun M14 =>
        some (0, M14)
      else
        if p1.1 < 10 then
          some (0, p1.2)
        else
          if 19 < p1.1 then
            some (0, p1.2)
          else
            (pI 5 3 x0 p1.1 p1.2).bind fun M17 =>
            (pI 5 4 x0 0 M17).bind fun M18 =>
            some (0, M18)
theorem fc_Meaning_faultAt {n : Nat} {x0 : Nat} {x1 : Nat} {x2 : Int32} {M : MM} {z : Int32 × MM} (h : f_Meaning_faultAt n x0 x1 x2 M = some z) : (M.1.2.1 x0).1 = 5 := by
  unfold f_Meaning_faultAt at h
  exact (og_s h).1
theorem t_Meaning_faultAt (n : Nat) (x0 : Nat) (x1 : Nat) (x2 : Int32) (M : MM) (z : Int32 × MM) (h : f_Meaning_faultAt n x0 x1 x2 M = some z) : CT m_Meaning_faultAt (rm 3 0 0) [.ref x0, .ref x1, .int x2] M (some (.int z.1)) z.2 := by
  unfold f_Meaning_faultAt at h
  obtain ⟨hthis, h⟩ := og_s h
  refine CT.of (ls := [some (.ref x0), some (.ref x1), some (.int x2), none]) rfl (okp rfl) rfl ?_
  refine e_aload_n d_Meaning_faultAt_0 rfl ?_
  refine e_iload_n d_Meaning_faultAt_1 rfl ?_
  obtain ⟨p1, hp1, h⟩ := bnd h
  refine e_cVi (mt1 := m_Tokens_kindAt) (As := [.int x2]) (st := []) d_Meaning_faultAt_2 ml_Meaning_48 mv_Tokens_kindAt (t_Tokens_kindAt n x1 x2 M p1 hp1) (fc_Tokens_kindAt hp1) rfl rfl rfl (okp rfl) (okp rfl) (okp rfl) (Nat.le_refl _) (Nat.le_refl _) ?_
  refine e_istore_n (l2 := [some (.ref x0), some (.ref x1), some (.int x2), some (.int p1.1)]) d_Meaning_faultAt_5 rfl (okl rfl) rfl ?_
  refine e_iload_n d_Meaning_faultAt_6 rfl ?_
  refine e_iconst (v := 2) d_Meaning_faultAt_7 (by decide) ?_
  refine e_ic_ne 46 d_Meaning_faultAt_8 (by decide) (fun c2 => ?_) (fun c2 => ?_)
  · replace h := ifn c2 h
    refine e_iload_n d_Meaning_faultAt_46 rfl ?_
    refine e_iconst (v := 3) d_Meaning_faultAt_47 (by decide) ?_
    refine e_ic_ne 62 d_Meaning_faultAt_48 (by decide) (fun c10 => ?_) (fun c10 => ?_)
    · replace h := ifn c10 h
      refine e_iload_n d_Meaning_faultAt_62 rfl ?_
      refine e_bipush (v := 59) d_Meaning_faultAt_63 (by decide) ?_
      refine e_ic_ne 75 d_Meaning_faultAt_65 (by decide) (fun c13 => ?_) (fun c13 => ?_)
      · replace h := ifn c13 h
        refine e_iload_n d_Meaning_faultAt_75 rfl ?_
        refine e_bipush (v := 10) d_Meaning_faultAt_76 (by decide) ?_
        refine e_ic_lt 97 d_Meaning_faultAt_78 (by decide) (fun c15 => ?_) (fun c15 => ?_)
        · replace h := ift c15 h
          refine e_iconst (v := 0) d_Meaning_faultAt_97 (by decide) ?_
          cases h
          exact e_iret d_Meaning_faultAt_98 rfl (Nat.le_refl _) (Nat.le_refl _)
        · replace h := ifn c15 h
          refine e_iload_n d_Meaning_faultAt_81 rfl ?_
          refine e_bipush (v := 19) d_Meaning_faultAt_82 (by decide) ?_
          refine e_ic_gt 97 d_Meaning_faultAt_84 (by decide) (fun c16 => ?_) (fun c16 => ?_)
          · replace h := ift c16 h
            refine e_iconst (v := 0) d_Meaning_faultAt_97 (by decide) ?_
            cases h
            exact e_iret d_Meaning_faultAt_98 rfl (Nat.le_refl _) (Nat.le_refl _)
          · replace h := ifn c16 h
            refine e_aload_n d_Meaning_faultAt_87 rfl ?_
            refine e_iload_n d_Meaning_faultAt_88 rfl ?_
            obtain ⟨M17, hM17, h⟩ := bnd h
            refine e_putI d_Meaning_faultAt_89 fl_Meaning_23 (Or.inl rfl) (fun _ _ _ => rfl) rfl hM17 ?_
            refine e_aload_n d_Meaning_faultAt_92 rfl ?_
            refine e_iconst (v := 0) d_Meaning_faultAt_93 (by decide) ?_
            obtain ⟨M18, hM18, h⟩ := bnd h
            refine e_putI d_Meaning_faultAt_94 fl_Meaning_26 (Or.inl rfl) (fun _ _ _ => rfl) rfl hM18 ?_
            refine e_iconst (v := 0) d_Meaning_faultAt_97 (by decide) ?_
            cases h
            exact e_iret d_Meaning_faultAt_98 rfl (Nat.le_refl _) (Nat.le_refl _)
      · replace h := ift c13 h
        refine e_aload_n d_Meaning_faultAt_68 rfl ?_
        obtain ⟨M14, hM14, h⟩ := bnd h
        refine e_cVv (mt1 := m_Meaning_closeName) (As := []) (st := []) d_Meaning_faultAt_69 ml_Meaning_70 mv_Meaning_closeName (t_Meaning_closeName n x0 p1.2 M14 hM14) (fc_Meaning_closeName hM14) rfl rfl rfl (okp rfl) (okp rfl) (okp rfl) (Nat.le_refl _) (Nat.le_refl _) ?_
        refine e_goto 97 d_Meaning_faultAt_72 (by decide) ?_
        refine e_iconst (v := 0) d_Meaning_faultAt_97 (by decide) ?_
        cases h
        exact e_iret d_Meaning_faultAt_98 rfl (Nat.le_refl _) (Nat.le_refl _)
    · replace h := ift c10 h
      refine e_aload_n d_Meaning_faultAt_51 rfl ?_
      refine e_aload_n d_Meaning_faultAt_52 rfl ?_
      refine e_iload_n d_Meaning_faultAt_53 rfl ?_
      obtain ⟨p11, hp11, h⟩ := bnd h
      refine e_cVl (mt1 := m_Tokens_valueAt) (As := [.int x2]) (st := [.ref x0]) d_Meaning_faultAt_54 ml_Meaning_56 mv_Tokens_valueAt (t_Tokens_valueAt n x1 x2 p1.2 p11 hp11) (fc_Tokens_valueAt hp11) rfl rfl rfl (okp rfl) (okp rfl) (okp rfl) (Nat.le_refl _) (Nat.le_refl _) ?_
      refine e_l2i d_Meaning_faultAt_57 ?_
      obtain ⟨p12, hp12, h⟩ := bnd h
      refine e_cVi (mt1 := m_Meaning_numberFault) (As := [.int (p11.1.toInt32)]) (st := []) d_Meaning_faultAt_58 ml_Meaning_67 mv_Meaning_numberFault (t_Meaning_numberFault n x0 (p11.1.toInt32) p11.2 p12 hp12) (fc_Meaning_numberFault hp12) rfl rfl rfl (okp rfl) (okp rfl) (okp rfl) (Nat.le_refl _) (Nat.le_refl _) ?_
      cases h
      exact e_iret d_Meaning_faultAt_61 rfl (Nat.le_refl _) (Nat.le_refl _)
  · replace h := ift c2 h
    refine e_aload_n d_Meaning_faultAt_11 rfl ?_
    refine e_iload_n d_Meaning_faultAt_12 rfl ?_
    refine e_iconst (v := 1) d_Meaning_faultAt_13 (by decide) ?_
    refine e_isub d_Meaning_faultAt_14 ?_
    obtain ⟨p3, hp3, h⟩ := bnd h
    refine e_cVi (mt1 := m_Tokens_kindAt) (As := [.int (x2 - 1)]) (st := []) d_Meaning_faultAt_15 ml_Meaning_48 mv_Tokens_kindAt (t_Tokens_kindAt n x1 (x2 - 1) p1.2 p3 hp3) (fc_Tokens_kindAt hp3) rfl rfl rfl (okp rfl) (okp rfl) (okp rfl) (Nat.le_refl _) (Nat.le_refl _) ?_
    obtain ⟨p4, hp4, h⟩ := bnd h
    refine e_cSi (mt1 := m_Meaning_isTelling) (As := [.int p3.1]) (st := []) d_Meaning_faultAt_18 ml_Meaning_52 ms_Meaning_isTelling (t_Meaning_isTelling n p3.1 p3.2 p4 hp4) rfl rfl (okp rfl) (okp rfl) (okp rfl) (Nat.le_refl _) (Nat.le_refl _) ?_
    refine e_if_eq 36 d_Meaning_faultAt_21 (by decide) (fun c5 => ?_) (fun c5 => ?_)
    · replace h := ift c5 h
      refine e_aload_n d_Meaning_faultAt_36 rfl ?_
      refine e_aload_n d_Meaning_faultAt_37 rfl ?_
      refine e_iload_n d_Meaning_faultAt_38 rfl ?_
      obtain ⟨p6, hp6, h⟩ := bnd h
      refine e_cVl (mt1 := m_Tokens_valueAt) (As := [.int x2]) (st := [.ref x0]) d_Meaning_faultAt_39 ml_Meaning_56 mv_Tokens_valueAt (t_Tokens_valueAt n x1 x2 p4.2 p6 hp6) (fc_Tokens_valueAt hp6) rfl rfl rfl (okp rfl) (okp rfl) (okp rfl) (Nat.le_refl _) (Nat.le_refl _) ?_
      obtain ⟨p7, hp7, h⟩ := bnd h
      refine e_cVi (mt1 := m_Meaning_usedNameFault) (As := [.long p6.1]) (st := []) d_Meaning_faultAt_42 ml_Meaning_64 mv_Meaning_usedNameFault (t_Meaning_usedNameFault n x0 p6.1 p6.2 p7 hp7) (fc_Meaning_usedNameFault hp7) rfl rfl rfl (okp rfl) (okp rfl) (okp rfl) (Nat.le_refl _) (Nat.le_refl _) ?_
      cases h
      exact e_iret d_Meaning_faultAt_45 rfl (Nat.le_refl _) (Nat.le_refl _)
    · replace h := ifn c5 h
      refine e_aload_n d_Meaning_faultAt_24 rfl ?_
      refine e_aload_n d_Meaning_faultAt_25 rfl ?_
      refine e_iload_n d_Meaning_faultAt_26 rfl ?_
      obtain ⟨p8, hp8, h⟩ := bnd h
      refine e_cVl (mt1 := m_Tokens_valueAt) (As := [.int x2]) (st := [.ref x0]) d_Meaning_faultAt_27 ml_Meaning_56 mv_Tokens_valueAt (t_Tokens_valueAt n x1 x2 p4.2 p8 hp8) (fc_Tokens_valueAt hp8) rfl rfl rfl (okp rfl) (okp rfl) (okp rfl) (Nat.le_refl _) (Nat.le_refl _) ?_
      obtain ⟨p9, hp9, h⟩ := bnd h
      refine e_cVi (mt1 := m_Meaning_openNameFault) (As := [.long p8.1]) (st := []) d_Meaning_faultAt_30 ml_Meaning_60 mv_Meaning_openNameFault (t_Meaning_openNameFault n x0 p8.1 p8.2 p9 hp9) (fc_Meaning_openNameFault hp9) rfl rfl rfl (okp rfl) (okp rfl) (okp rfl) (Nat.le_refl _) (Nat.le_refl _) ?_
      refine e_goto 45 d_Meaning_faultAt_33 (by decide) ?_
      cases h
      exact e_iret d_Meaning_faultAt_45 rfl (Nat.le_refl _) (Nat.le_refl _)
theorem d_Meaning_check_0 : DC m_Meaning_check 0 (.aload_n 0) 1 1 := ⟨by decide +kernel, rfl⟩
theorem d_Meaning_check_1 : DC m_Meaning_check 1 (.iconst 0) 1 2 := ⟨by decide +kernel, rfl⟩
theorem d_Meaning_check_2 : DC m_Meaning_check 2 (.putfield 15) 3 5 := ⟨by decide +kernel, rfl⟩
theorem d_Meaning_check_5 : DC m_Meaning_check 5 (.iconst 0) 1 6 := ⟨by decide +kernel, rfl⟩
theorem d_Meaning_check_6 : DC m_Meaning_check 6 (.istore_n 2) 1 7 := ⟨by decide +kernel, rfl⟩
theorem d_Meaning_check_7 : DC m_Meaning_check 7 (.iload_n 2) 1 8 := ⟨by decide +kernel, rfl⟩
theorem d_Meaning_check_8 : DC m_Meaning_check 8 (.aload_n 1) 1 9 := ⟨by decide +kernel, rfl⟩
theorem d_Meaning_check_9 : DC m_Meaning_check 9 (.getfield 35) 3 12 := ⟨by decide +kernel, rfl⟩
theorem d_Meaning_check_12 : DC m_Meaning_check 12 (.if_icmp .ge 27) 3 15 := ⟨by decide +kernel, rfl⟩
theorem d_Meaning_check_15 : DC m_Meaning_check 15 (.aload_n 0) 1 16 := ⟨by decide +kernel, rfl⟩
theorem d_Meaning_check_16 : DC m_Meaning_check 16 (.aload_n 1) 1 17 := ⟨by decide +kernel, rfl⟩
theorem d_Meaning_check_17 : DC m_Meaning_check 17 (.iload_n 2) 1 18 := ⟨by decide +kernel, rfl⟩
theorem d_Meaning_check_18 : DC m_Meaning_check 18 (.invokevirtual 40) 3 21 := ⟨by decide +kernel, rfl⟩
theorem d_Meaning_check_21 : DC m_Meaning_check 21 (.istore_n 3) 1 22 := ⟨by decide +kernel, rfl⟩
theorem d_Meaning_check_22 : DC m_Meaning_check 22 (.iload_n 3) 1 23 := ⟨by decide +kernel, rfl⟩
theorem d_Meaning_check_23 : DC m_Meaning_check 23 (.ifCond .eq 10) 3 26 := ⟨by decide +kernel, rfl⟩
theorem d_Meaning_check_26 : DC m_Meaning_check 26 (.aload_n 1) 1 27 := ⟨by decide +kernel, rfl⟩
theorem d_Meaning_check_27 : DC m_Meaning_check 27 (.iload_n 3) 1 28 := ⟨by decide +kernel, rfl⟩
theorem d_Meaning_check_28 : DC m_Meaning_check 28 (.iload_n 2) 1 29 := ⟨by decide +kernel, rfl⟩
theorem d_Meaning_check_29 : DC m_Meaning_check 29 (.invokevirtual 44) 3 32 := ⟨by decide +kernel, rfl⟩
theorem d_Meaning_check_32 : DC m_Meaning_check 32 .return_ 1 33 := ⟨by decide +kernel, rfl⟩
theorem d_Meaning_check_33 : DC m_Meaning_check 33 (.iinc 2 1) 3 36 := ⟨by decide +kernel, rfl⟩
theorem d_Meaning_check_36 : DC m_Meaning_check 36 (.goto (-29)) 3 39 := ⟨by decide +kernel, rfl⟩
theorem d_Meaning_check_39 : DC m_Meaning_check 39 .return_ 1 40 := ⟨by decide +kernel, rfl⟩
def f_Meaning_check_26 (n : Nat) (x1 : Nat) (x2 : Int32) (x3 : Int32) (M : MM) : Option (MM) :=
  (f_Tokens_blame n x1 x3 x2 M).bind fun M1 =>
  some M1
theorem t_Meaning_check_26 (n : Nat) (x1 : Nat) (x2 : Int32) (x3 : Int32) (M : MM) (z : MM) (h : f_Meaning_check_26 n x1 x2 x3 M = some z) : EV m_Meaning_check (rm 4 0 0) none z 0 0 26 [none, some (.ref x1), some (.int x2), some (.int x3)] [] M := by
  unfold f_Meaning_check_26 at h
  refine e_aload_n d_Meaning_check_26 rfl ?_
  refine e_iload_n d_Meaning_check_27 rfl ?_
  refine e_iload_n d_Meaning_check_28 rfl ?_
  obtain ⟨M1, hM1, h⟩ := bnd h
  refine e_cVv (mt1 := m_Tokens_blame) (As := [.int x3, .int x2]) (st := []) d_Meaning_check_29 ml_Meaning_44 mv_Tokens_blame (t_Tokens_blame n x1 x3 x2 M M1 hM1) (fc_Tokens_blame hM1) rfl rfl rfl (okp rfl) (okp rfl) (okp rfl) (Nat.le_refl _) (Nat.le_refl _) ?_
  cases h
  exact e_vret d_Meaning_check_32 rfl (Nat.le_refl _) (Nat.le_refl _)
def f_Meaning_check_7 (n : Nat) (k_26 : Nat → Int32 → Int32 → MM → Option (MM)) : Nat → Nat → Nat → Int32 → MM → Option (MM)
  | 0, _, _, _, _ => none
  | m + 1, x0, x1, x2, M =>
    (gI 10 3 x1 M).bind fun v2 =>
    if v2 ≤ x2 then
      some M
    else
      (f_Meaning_faultAt n x0 x1 x2 M).bind fun p4 =>
      if p4.1 = 0 then
        f_Meaning_check_7 n k_26 m x0 x1 (x2 + 1) p4.2
      else
        k_26 x1 x2 p4.1 p4.2
theorem t_Meaning_check_7 (n : Nat) {k_26 : Nat → Int32 → Int32 → MM → Option (MM)} (hk_26 : ∀ (x1 : Nat) (x2 : Int32) (x3 : Int32) (M : MM) (z : MM), k_26 x1 x2 x3 M = some z → EV m_Meaning_check (rm 4 0 0) none z 0 0 26 [none, some (.ref x1), some (.int x2), some (.int x3)] [] M) : ∀ (m : Nat) (x0 : Nat) (x1 : Nat) (x2 : Int32) (M : MM) (z : MM), f_Meaning_check_7 n k_26 m x0 x1 x2 M = some z → EV m_Meaning_check (rm 4 0 0) none z 0 0 7 [some (.ref x0), some (.ref x1), some (.int x2), none] [] M := by
  intro m
  induction m with
  | zero => intro x0 x1 x2 M z h; cases h
  | succ m ih =>
    intro x0 x1 x2 M z h
    rw [f_Meaning_check_7] at h
    refine e_iload_n d_Meaning_check_7 rfl ?_
    refine e_aload_n d_Meaning_check_8 rfl ?_
    obtain ⟨v2, hv2, h⟩ := bnd h
    refine e_getI d_Meaning_check_9 fl_Meaning_35 (fun _ _ _ => rfl) hv2 ?_
    refine e_ic_ge 39 d_Meaning_check_12 (by decide) (fun c3 => ?_) (fun c3 => ?_)
    · replace h := ift c3 h
      cases h
      exact e_vret d_Meaning_check_39 rfl (Nat.le_refl _) (Nat.le_refl _)
    · replace h := ifn c3 h
      refine e_aload_n d_Meaning_check_15 rfl ?_
      refine e_aload_n d_Meaning_check_16 rfl ?_
      refine e_iload_n d_Meaning_check_17 rfl ?_
      obtain ⟨p4, hp4, h⟩ := bnd h
      refine e_cVi (mt1 := m_Meaning_faultAt) (As := [.ref x1, .int x2]) (st := []) d_Meaning_check_18 ml_Meaning_40 mv_Meaning_faultAt (t_Meaning_faultAt n x0 x1 x2 M p4 hp4) (fc_Meaning_faultAt hp4) rfl rfl rfl (okp rfl) (okp rfl) (okp rfl) (Nat.le_refl _) (Nat.le_refl _) ?_
      refine e_istore_n (l2 := [some (.ref x0), some (.ref x1), some (.int x2), some (.int p4.1)]) d_Meaning_check_21 rfl (okl rfl) rfl ?_
      refine e_iload_n d_Meaning_check_22 rfl ?_
      refine e_if_eq 33 d_Meaning_check_23 (by decide) (fun c5 => ?_) (fun c5 => ?_)
      · replace h := ift c5 h
        refine e_iinc (v := x2 + 1) (l2 := [some (.ref x0), some (.ref x1), some (.int (x2 + 1)), some (.int p4.1)]) d_Meaning_check_33 rfl rfl rfl (okl rfl) rfl ?_
        refine e_goto 7 d_Meaning_check_36 (by decide) ?_
        exact (ih x0 x1 (x2 + 1) p4.2 z h).less (show LSub _ _ from ⟨rfl, ⟨rfl, ⟨rfl, trivial⟩⟩⟩)
      · replace h := ifn c5 h
        exact (hk_26 x1 x2 p4.1 p4.2 z h).less (show LSub _ _ from ⟨rfl, ⟨rfl, ⟨rfl, trivial⟩⟩⟩)
def f_Meaning_check (n : Nat) (x0 : Nat) (x1 : Nat) (M : MM) : Option (MM) :=
  og 5 x0 M <|
  (pI 5 1 x0 0 M).bind fun M6 =>
  f_Meaning_check_7 n (f_Meaning_check_26 n) n x0 x1 0 M6
theorem fc_Meaning_check {n : Nat} {x0 : Nat} {x1 : Nat} {M : MM} {z : MM} (h : f_Meaning_check n x0 x1 M = some z) : (M.1.2.1 x0).1 = 5 := by
  unfold f_Meaning_check at h
  exact (og_s h).1
theorem t_Meaning_check (n : Nat) (x0 : Nat) (x1 : Nat) (M : MM) (z : MM) (h : f_Meaning_check n x0 x1 M = some z) : CT m_Meaning_check (rm 4 0 0) [.ref x0, .ref x1] M none z := by
  unfold f_Meaning_check at h
  obtain ⟨hthis, h⟩ := og_s h
  refine CT.of (ls := [some (.ref x0), some (.ref x1), none, none]) rfl (okp rfl) rfl ?_
  refine e_aload_n d_Meaning_check_0 rfl ?_
  refine e_iconst (v := 0) d_Meaning_check_1 (by decide) ?_
  obtain ⟨M6, hM6, h⟩ := bnd h
  refine e_putI d_Meaning_check_2 fl_Meaning_15 (Or.inl rfl) (fun _ _ _ => rfl) rfl hM6 ?_
  refine e_iconst (v := 0) d_Meaning_check_5 (by decide) ?_
  refine e_istore_n (l2 := [some (.ref x0), some (.ref x1), some (.int 0), none]) d_Meaning_check_6 rfl (okl rfl) rfl ?_
  exact (t_Meaning_check_7 n (t_Meaning_check_26 n) n x0 x1 0 M6 z h).less (show LSub _ _ from ⟨rfl, ⟨rfl, ⟨rfl, trivial⟩⟩⟩)
