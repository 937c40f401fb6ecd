theorem d_Tokens_withLetter_0 : DC m_Tokens_withLetter 0 (.lload_n 0) 1 1 := ⟨by decide +kernel, rfl⟩
theorem d_Tokens_withLetter_1 : DC m_Tokens_withLetter 1 (.iconst 5) 1 2 := ⟨by decide +kernel, rfl⟩
theorem d_Tokens_withLetter_2 : DC m_Tokens_withLetter 2 .lshl 1 3 := ⟨by decide +kernel, rfl⟩
theorem d_Tokens_withLetter_3 : DC m_Tokens_withLetter 3 (.iload_n 2) 1 4 := ⟨by decide +kernel, rfl⟩
theorem d_Tokens_withLetter_4 : DC m_Tokens_withLetter 4 (.bipush 97) 2 6 := ⟨by decide +kernel, rfl⟩
theorem d_Tokens_withLetter_6 : DC m_Tokens_withLetter 6 .isub 1 7 := ⟨by decide +kernel, rfl⟩
theorem d_Tokens_withLetter_7 : DC m_Tokens_withLetter 7 (.iconst 1) 1 8 := ⟨by decide +kernel, rfl⟩
theorem d_Tokens_withLetter_8 : DC m_Tokens_withLetter 8 .iadd 1 9 := ⟨by decide +kernel, rfl⟩
theorem d_Tokens_withLetter_9 : DC m_Tokens_withLetter 9 .i2l 1 10 := ⟨by decide +kernel, rfl⟩
theorem d_Tokens_withLetter_10 : DC m_Tokens_withLetter 10 .lor 1 11 := ⟨by decide +kernel, rfl⟩
theorem d_Tokens_withLetter_11 : DC m_Tokens_withLetter 11 .lreturn 1 12 := ⟨by decide +kernel, rfl⟩
def f_Tokens_withLetter (n : Nat) (x0 : Int64) (x2 : Int32) (M : MM) : Option (Int64 × MM) :=
  some (((lsh x0 5) ||| (((x2 - 97) + 1).toInt64)), M)
theorem t_Tokens_withLetter (n : Nat) (x0 : Int64) (x2 : Int32) (M : MM) (z : Int64 × MM) (h : f_Tokens_withLetter n x0 x2 M = some z) : CT m_Tokens_withLetter (rm 1 0 0) [.long x0, .int x2] M (some (.long z.1)) z.2 := by
  unfold f_Tokens_withLetter at h
  refine CT.of (ls := [some (.long x0), none, some (.int x2)]) rfl (okp rfl) rfl ?_
  refine e_lload_n d_Tokens_withLetter_0 rfl ?_
  refine e_iconst (v := 5) d_Tokens_withLetter_1 (by decide) ?_
  refine e_lshl d_Tokens_withLetter_2 ?_
  refine e_iload_n d_Tokens_withLetter_3 rfl ?_
  refine e_bipush (v := 97) d_Tokens_withLetter_4 (by decide) ?_
  refine e_isub d_Tokens_withLetter_6 ?_
  refine e_iconst (v := 1) d_Tokens_withLetter_7 (by decide) ?_
  refine e_iadd d_Tokens_withLetter_8 ?_
  refine e_i2l d_Tokens_withLetter_9 ?_
  refine e_lor d_Tokens_withLetter_10 ?_
  cases h
  exact e_lret d_Tokens_withLetter_11 rfl (Nat.le_refl _) (Nat.le_refl _)
theorem d_Tokens_byteAt_0 : DC m_Tokens_byteAt 0 (.iload_n 2) 1 1 := ⟨by decide +kernel, rfl⟩
theorem d_Tokens_byteAt_1 : DC m_Tokens_byteAt 1 (.ifCond .lt 24) 3 4 := ⟨by decide +kernel, rfl⟩
theorem d_Tokens_byteAt_4 : DC m_Tokens_byteAt 4 (.iload_n 2) 1 5 := ⟨by decide +kernel, rfl⟩
theorem d_Tokens_byteAt_5 : DC m_Tokens_byteAt 5 (.iload_n 1) 1 6 := ⟨by decide +kernel, rfl⟩
theorem d_Tokens_byteAt_6 : DC m_Tokens_byteAt 6 (.if_icmp .ge 19) 3 9 := ⟨by decide +kernel, rfl⟩
theorem d_Tokens_byteAt_9 : DC m_Tokens_byteAt 9 (.iload_n 2) 1 10 := ⟨by decide +kernel, rfl⟩
theorem d_Tokens_byteAt_10 : DC m_Tokens_byteAt 10 (.aload_n 0) 1 11 := ⟨by decide +kernel, rfl⟩
theorem d_Tokens_byteAt_11 : DC m_Tokens_byteAt 11 .arraylength 1 12 := ⟨by decide +kernel, rfl⟩
theorem d_Tokens_byteAt_12 : DC m_Tokens_byteAt 12 (.if_icmp .ge 13) 3 15 := ⟨by decide +kernel, rfl⟩
theorem d_Tokens_byteAt_15 : DC m_Tokens_byteAt 15 (.aload_n 0) 1 16 := ⟨by decide +kernel, rfl⟩
theorem d_Tokens_byteAt_16 : DC m_Tokens_byteAt 16 (.iload_n 2) 1 17 := ⟨by decide +kernel, rfl⟩
theorem d_Tokens_byteAt_17 : DC m_Tokens_byteAt 17 .baload 1 18 := ⟨by decide +kernel, rfl⟩
theorem d_Tokens_byteAt_18 : DC m_Tokens_byteAt 18 (.sipush 255) 3 21 := ⟨by decide +kernel, rfl⟩
theorem d_Tokens_byteAt_21 : DC m_Tokens_byteAt 21 .iand 1 22 := ⟨by decide +kernel, rfl⟩
theorem d_Tokens_byteAt_22 : DC m_Tokens_byteAt 22 (.goto 4) 3 25 := ⟨by decide +kernel, rfl⟩
theorem d_Tokens_byteAt_25 : DC m_Tokens_byteAt 25 (.iconst 0) 1 26 := ⟨by decide +kernel, rfl⟩
theorem d_Tokens_byteAt_26 : DC m_Tokens_byteAt 26 .ireturn 1 27 := ⟨by decide +kernel, rfl⟩
def f_Tokens_byteAt (n : Nat) (x0 : Nat) (x1 : Int32) (x2 : Int32) (M : MM) : Option (Int32 × MM) :=
  if x2 < 0 then
    some (0, M)
  else
    if x1 ≤ x2 then
      some (0, M)
    else
      (aN x0 M).bind fun v3 =>
      if v3 ≤ x2 then
        some (0, M)
      else
        (aI 101 x0 x2 M).bind fun v5 =>
        some ((v5 &&& 255), M)
theorem t_Tokens_byteAt (n : Nat) (x0 : Nat) (x1 : Int32) (x2 : Int32) (M : MM) (z : Int32 × MM) (h : f_Tokens_byteAt n x0 x1 x2 M = some z) : CT m_Tokens_byteAt (rm 1 0 0) [.ref x0, .int x1, .int x2] M (some (.int z.1)) z.2 := by
  unfold f_Tokens_byteAt at h
  refine CT.of (ls := [some (.ref x0), some (.int x1), some (.int x2)]) rfl (okp rfl) rfl ?_
  refine e_iload_n d_Tokens_byteAt_0 rfl ?_
  refine e_if_lt 25 d_Tokens_byteAt_1 (by decide) (fun c1 => ?_) (fun c1 => ?_)
  · replace h := ift c1 h
    refine e_iconst (v := 0) d_Tokens_byteAt_25 (by decide) ?_
    cases h
    exact e_iret d_Tokens_byteAt_26 rfl (Nat.le_refl _) (Nat.le_refl _)
  · replace h := ifn c1 h
    refine e_iload_n d_Tokens_byteAt_4 rfl ?_
    refine e_iload_n d_Tokens_byteAt_5 rfl ?_
    refine e_ic_ge 25 d_Tokens_byteAt_6 (by decide) (fun c2 => ?_) (fun c2 => ?_)
    · replace h := ift c2 h
      refine e_iconst (v := 0) d_Tokens_byteAt_25 (by decide) ?_
      cases h
      exact e_iret d_Tokens_byteAt_26 rfl (Nat.le_refl _) (Nat.le_refl _)
    · replace h := ifn c2 h
      refine e_iload_n d_Tokens_byteAt_9 rfl ?_
      refine e_aload_n d_Tokens_byteAt_10 rfl ?_
      obtain ⟨v3, hv3, h⟩ := bnd h
      refine e_alen d_Tokens_byteAt_11 hv3 ?_
      refine e_ic_ge 25 d_Tokens_byteAt_12 (by decide) (fun c4 => ?_) (fun c4 => ?_)
      · replace h := ift c4 h
        refine e_iconst (v := 0) d_Tokens_byteAt_25 (by decide) ?_
        cases h
        exact e_iret d_Tokens_byteAt_26 rfl (Nat.le_refl _) (Nat.le_refl _)
      · replace h := ifn c4 h
        refine e_aload_n d_Tokens_byteAt_15 rfl ?_
        refine e_iload_n d_Tokens_byteAt_16 rfl ?_
        obtain ⟨v5, hv5, h⟩ := bnd h
        refine e_bald d_Tokens_byteAt_17 hv5 ?_
        refine e_sipush (v := 255) d_Tokens_byteAt_18 (by decide) ?_
        refine e_iand d_Tokens_byteAt_21 ?_
        refine e_goto 26 d_Tokens_byteAt_22 (by decide) ?_
        cases h
        exact e_iret d_Tokens_byteAt_26 rfl (Nat.le_refl _) (Nat.le_refl _)
theorem d_Tokens_isBlank_0 : DC m_Tokens_isBlank 0 (.iload_n 0) 1 1 := ⟨by decide +kernel, rfl⟩
theorem d_Tokens_isBlank_1 : DC m_Tokens_isBlank 1 (.bipush 9) 2 3 := ⟨by decide +kernel, rfl⟩
theorem d_Tokens_isBlank_3 : DC m_Tokens_isBlank 3 (.if_icmp .eq 21) 3 6 := ⟨by decide +kernel, rfl⟩
theorem d_Tokens_isBlank_6 : DC m_Tokens_isBlank 6 (.iload_n 0) 1 7 := ⟨by decide +kernel, rfl⟩
theorem d_Tokens_isBlank_7 : DC m_Tokens_isBlank 7 (.bipush 10) 2 9 := ⟨by decide +kernel, rfl⟩
theorem d_Tokens_isBlank_9 : DC m_Tokens_isBlank 9 (.if_icmp .eq 15) 3 12 := ⟨by decide +kernel, rfl⟩
theorem d_Tokens_isBlank_12 : DC m_Tokens_isBlank 12 (.iload_n 0) 1 13 := ⟨by decide +kernel, rfl⟩
theorem d_Tokens_isBlank_13 : DC m_Tokens_isBlank 13 (.bipush 13) 2 15 := ⟨by decide +kernel, rfl⟩
theorem d_Tokens_isBlank_15 : DC m_Tokens_isBlank 15 (.if_icmp .eq 9) 3 18 := ⟨by decide +kernel, rfl⟩
theorem d_Tokens_isBlank_18 : DC m_Tokens_isBlank 18 (.iload_n 0) 1 19 := ⟨by decide +kernel, rfl⟩
theorem d_Tokens_isBlank_19 : DC m_Tokens_isBlank 19 (.bipush 32) 2 21 := ⟨by decide +kernel, rfl⟩
theorem d_Tokens_isBlank_21 : DC m_Tokens_isBlank 21 (.if_icmp .ne 7) 3 24 := ⟨by decide +kernel, rfl⟩
theorem d_Tokens_isBlank_24 : DC m_Tokens_isBlank 24 (.iconst 1) 1 25 := ⟨by decide +kernel, rfl⟩
theorem d_Tokens_isBlank_25 : DC m_Tokens_isBlank 25 (.goto 4) 3 28 := ⟨by decide +kernel, rfl⟩
theorem d_Tokens_isBlank_28 : DC m_Tokens_isBlank 28 (.iconst 0) 1 29 := ⟨by decide +kernel, rfl⟩
theorem d_Tokens_isBlank_29 : DC m_Tokens_isBlank 29 .ireturn 1 30 := ⟨by decide +kernel, rfl⟩
def f_Tokens_isBlank_24 (n : Nat) (M : MM) : Option (Int32 × MM) :=
  some (1, M)
theorem t_Tokens_isBlank_24 (n : Nat) (M : MM) (z : Int32 × MM) (h : f_Tokens_isBlank_24 n M = some z) : EV m_Tokens_isBlank (rm 1 0 0) (some (.int z.1)) z.2 0 0 24 [none] [] M := by
  unfold f_Tokens_isBlank_24 at h
  refine e_iconst (v := 1) d_Tokens_isBlank_24 (by decide) ?_
  refine e_goto 29 d_Tokens_isBlank_25 (by decide) ?_
  cases h
  exact e_zret (ty := .boolean) d_Tokens_isBlank_29 rfl narZ1 (Nat.le_refl _) (Nat.le_refl _)
def f_Tokens_isBlank (n : Nat) (x0 : Int32) (M : MM) : Option (Int32 × MM) :=
  if x0 = 9 then
    f_Tokens_isBlank_24 n M
  else
    if x0 = 10 then
      f_Tokens_isBlank_24 n M
    else
      if x0 = 13 then
        f_Tokens_isBlank_24 n M
      else
        if x0 = 32 then
          f_Tokens_isBlank_24 n M
        else
          some (0, M)
theorem t_Tokens_isBlank (n : Nat) (x0 : Int32) (M : MM) (z : Int32 × MM) (h : f_Tokens_isBlank n x0 M = some z) : CT m_Tokens_isBlank (rm 1 0 0) [.int x0] M (some (.int z.1)) z.2 := by
  unfold f_Tokens_isBlank at h
  refine CT.of (ls := [some (.int x0)]) rfl (okp rfl) rfl ?_
  refine e_iload_n d_Tokens_isBlank_0 rfl ?_
  refine e_bipush (v := 9) d_Tokens_isBlank_1 (by decide) ?_
  refine e_ic_eq 24 d_Tokens_isBlank_3 (by decide) (fun c1 => ?_) (fun c1 => ?_)
  · replace h := ift c1 h
    exact (t_Tokens_isBlank_24 n  M z h).less (show LSub _ _ from trivial)
  · replace h := ifn c1 h
    refine e_iload_n d_Tokens_isBlank_6 rfl ?_
    refine e_bipush (v := 10) d_Tokens_isBlank_7 (by decide) ?_
    refine e_ic_eq 24 d_Tokens_isBlank_9 (by decide) (fun c2 => ?_) (fun c2 => ?_)
    · replace h := ift c2 h
      exact (t_Tokens_isBlank_24 n  M z h).less (show LSub _ _ from trivial)
    · replace h := ifn c2 h
      refine e_iload_n d_Tokens_isBlank_12 rfl ?_
      refine e_bipush (v := 13) d_Tokens_isBlank_13 (by decide) ?_
      refine e_ic_eq 24 d_Tokens_isBlank_15 (by decide) (fun c3 => ?_) (fun c3 => ?_)
      · replace h := ift c3 h
        exact (t_Tokens_isBlank_24 n  M z h).less (show LSub _ _ from trivial)
      · replace h := ifn c3 h
        refine e_iload_n d_Tokens_isBlank_18 rfl ?_
        refine e_bipush (v := 32) d_Tokens_isBlank_19 (by decide) ?_
        refine e_ic_ne 28 d_Tokens_isBlank_21 (by decide) (fun c4 => ?_) (fun c4 => ?_)
        · replace h := ifn c4 h
          refine e_iconst (v := 0) d_Tokens_isBlank_28 (by decide) ?_
          cases h
          exact e_zret (ty := .boolean) d_Tokens_isBlank_29 rfl narZ0 (Nat.le_refl _) (Nat.le_refl _)
        · replace h := ift c4 h
          exact (t_Tokens_isBlank_24 n  M z h).less (show LSub _ _ from trivial)
theorem d_Tokens_isLetter_0 : DC m_Tokens_isLetter 0 (.iload_n 0) 1 1 := ⟨by decide +kernel, rfl⟩
theorem d_Tokens_isLetter_1 : DC m_Tokens_isLetter 1 (.bipush 97) 2 3 := ⟨by decide +kernel, rfl⟩
theorem d_Tokens_isLetter_3 : DC m_Tokens_isLetter 3 (.if_icmp .lt 13) 3 6 := ⟨by decide +kernel, rfl⟩
theorem d_Tokens_isLetter_6 : DC m_Tokens_isLetter 6 (.iload_n 0) 1 7 := ⟨by decide +kernel, rfl⟩
theorem d_Tokens_isLetter_7 : DC m_Tokens_isLetter 7 (.bipush 122) 2 9 := ⟨by decide +kernel, rfl⟩
theorem d_Tokens_isLetter_9 : DC m_Tokens_isLetter 9 (.if_icmp .gt 7) 3 12 := ⟨by decide +kernel, rfl⟩
theorem d_Tokens_isLetter_12 : DC m_Tokens_isLetter 12 (.iconst 1) 1 13 := ⟨by decide +kernel, rfl⟩
theorem d_Tokens_isLetter_13 : DC m_Tokens_isLetter 13 (.goto 4) 3 16 := ⟨by decide +kernel, rfl⟩
theorem d_Tokens_isLetter_16 : DC m_Tokens_isLetter 16 (.iconst 0) 1 17 := ⟨by decide +kernel, rfl⟩
theorem d_Tokens_isLetter_17 : DC m_Tokens_isLetter 17 .ireturn 1 18 := ⟨by decide +kernel, rfl⟩
def f_Tokens_isLetter (n : Nat) (x0 : Int32) (M : MM) : Option (Int32 × MM) :=
  if x0 < 97 then
    some (0, M)
  else
    if 122 < x0 then
      some (0, M)
    else
      some (1, M)
theorem t_Tokens_isLetter (n : Nat) (x0 : Int32) (M : MM) (z : Int32 × MM) (h : f_Tokens_isLetter n x0 M = some z) : CT m_Tokens_isLetter (rm 1 0 0) [.int x0] M (some (.int z.1)) z.2 := by
  unfold f_Tokens_isLetter at h
  refine CT.of (ls := [some (.int x0)]) rfl (okp rfl) rfl ?_
  refine e_iload_n d_Tokens_isLetter_0 rfl ?_
  refine e_bipush (v := 97) d_Tokens_isLetter_1 (by decide) ?_
  refine e_ic_lt 16 d_Tokens_isLetter_3 (by decide) (fun c1 => ?_) (fun c1 => ?_)
  · replace h := ift c1 h
    refine e_iconst (v := 0) d_Tokens_isLetter_16 (by decide) ?_
    cases h
    exact e_zret (ty := .boolean) d_Tokens_isLetter_17 rfl narZ0 (Nat.le_refl _) (Nat.le_refl _)
  · replace h := ifn c1 h
    refine e_iload_n d_Tokens_isLetter_6 rfl ?_
    refine e_bipush (v := 122) d_Tokens_isLetter_7 (by decide) ?_
    refine e_ic_gt 16 d_Tokens_isLetter_9 (by decide) (fun c2 => ?_) (fun c2 => ?_)
    · replace h := ift c2 h
      refine e_iconst (v := 0) d_Tokens_isLetter_16 (by decide) ?_
      cases h
      exact e_zret (ty := .boolean) d_Tokens_isLetter_17 rfl narZ0 (Nat.le_refl _) (Nat.le_refl _)
    · replace h := ifn c2 h
      refine e_iconst (v := 1) d_Tokens_isLetter_12 (by decide) ?_
      refine e_goto 17 d_Tokens_isLetter_13 (by decide) ?_
      cases h
      exact e_zret (ty := .boolean) d_Tokens_isLetter_17 rfl narZ1 (Nat.le_refl _) (Nat.le_refl _)
theorem d_Tokens_kindOfWord_0 : DC m_Tokens_kindOfWord 0 (.iconst 0) 1 1 := ⟨by decide +kernel, rfl⟩
theorem d_Tokens_kindOfWord_1 : DC m_Tokens_kindOfWord 1 (.istore_n 3) 1 2 := ⟨by decide +kernel, rfl⟩
theorem d_Tokens_kindOfWord_2 : DC m_Tokens_kindOfWord 2 (.iload_n 3) 1 3 := ⟨by decide +kernel, rfl⟩
theorem d_Tokens_kindOfWord_3 : DC m_Tokens_kindOfWord 3 (.bipush 10) 2 5 := ⟨by decide +kernel, rfl⟩
theorem d_Tokens_kindOfWord_5 : DC m_Tokens_kindOfWord 5 (.if_icmp .ge 25) 3 8 := ⟨by decide +kernel, rfl⟩
theorem d_Tokens_kindOfWord_8 : DC m_Tokens_kindOfWord 8 (.aload_n 0) 1 9 := ⟨by decide +kernel, rfl⟩
theorem d_Tokens_kindOfWord_9 : DC m_Tokens_kindOfWord 9 (.getfield 35) 3 12 := ⟨by decide +kernel, rfl⟩
theorem d_Tokens_kindOfWord_12 : DC m_Tokens_kindOfWord 12 (.iload_n 3) 1 13 := ⟨by decide +kernel, rfl⟩
theorem d_Tokens_kindOfWord_13 : DC m_Tokens_kindOfWord 13 .laload 1 14 := ⟨by decide +kernel, rfl⟩
theorem d_Tokens_kindOfWord_14 : DC m_Tokens_kindOfWord 14 (.lload_n 1) 1 15 := ⟨by decide +kernel, rfl⟩
theorem d_Tokens_kindOfWord_15 : DC m_Tokens_kindOfWord 15 .lcmp 1 16 := ⟨by decide +kernel, rfl⟩
theorem d_Tokens_kindOfWord_16 : DC m_Tokens_kindOfWord 16 (.ifCond .ne 8) 3 19 := ⟨by decide +kernel, rfl⟩
theorem d_Tokens_kindOfWord_19 : DC m_Tokens_kindOfWord 19 (.bipush 10) 2 21 := ⟨by decide +kernel, rfl⟩
theorem d_Tokens_kindOfWord_21 : DC m_Tokens_kindOfWord 21 (.iload_n 3) 1 22 := ⟨by decide +kernel, rfl⟩
theorem d_Tokens_kindOfWord_22 : DC m_Tokens_kindOfWord 22 .iadd 1 23 := ⟨by decide +kernel, rfl⟩
theorem d_Tokens_kindOfWord_23 : DC m_Tokens_kindOfWord 23 .ireturn 1 24 := ⟨by decide +kernel, rfl⟩
theorem d_Tokens_kindOfWord_24 : DC m_Tokens_kindOfWord 24 (.iinc 3 1) 3 27 := ⟨by decide +kernel, rfl⟩
theorem d_Tokens_kindOfWord_27 : DC m_Tokens_kindOfWord 27 (.goto (-25)) 3 30 := ⟨by decide +kernel, rfl⟩
theorem d_Tokens_kindOfWord_30 : DC m_Tokens_kindOfWord 30 (.iconst 2) 1 31 := ⟨by decide +kernel, rfl⟩
theorem d_Tokens_kindOfWord_31 : DC m_Tokens_kindOfWord 31 .ireturn 1 32 := ⟨by decide +kernel, rfl⟩
def f_Tokens_kindOfWord_2 (n : Nat) : Nat → Nat → Int64 → Int32 → MM → Option (Int32 × MM)
  | 0, _, _, _, _ => none
  | m + 1, x0, x1, x3, M =>
    if 10 ≤ x3 then
      some (2, M)
    else
      (gR 10 7 x0 M).bind fun v2 =>
      (aL v2 x3 M).bind fun v3 =>
      if (lcp v3 x1) = 0 then
        some ((10 + x3), M)
      else
        f_Tokens_kindOfWord_2 n m x0 x1 (x3 + 1) M
theorem t_Tokens_kindOfWord_2 (n : Nat) : ∀ (m : Nat) (x0 : Nat) (x1 : Int64) (x3 : Int32) (M : MM) (z : Int32 × MM), f_Tokens_kindOfWord_2 n m x0 x1 x3 M = some z → EV m_Tokens_kindOfWord (rm 1 0 0) (some (.int z.1)) z.2 0 0 2 [some (.ref x0), some (.long x1), none, some (.int x3)] [] M := by
  intro m
  induction m with
  | zero => intro x0 x1 x3 M z h; cases h
  | succ m ih =>
    intro x0 x1 x3 M z h
    rw [f_Tokens_kindOfWord_2] at h
    refine e_iload_n d_Tokens_kindOfWord_2 rfl ?_
    refine e_bipush (v := 10) d_Tokens_kindOfWord_3 (by decide) ?_
    refine e_ic_ge 30 d_Tokens_kindOfWord_5 (by decide) (fun c1 => ?_) (fun c1 => ?_)
    · replace h := ift c1 h
      refine e_iconst (v := 2) d_Tokens_kindOfWord_30 (by decide) ?_
      cases h
      exact e_iret d_Tokens_kindOfWord_31 rfl (Nat.le_refl _) (Nat.le_refl _)
    · replace h := ifn c1 h
      refine e_aload_n d_Tokens_kindOfWord_8 rfl ?_
      obtain ⟨v2, hv2, h⟩ := bnd h
      refine e_getR d_Tokens_kindOfWord_9 fl_Tokens_35 (fun _ _ _ => rfl) hv2 ?_
      refine e_iload_n d_Tokens_kindOfWord_12 rfl ?_
      obtain ⟨v3, hv3, h⟩ := bnd h
      refine e_lald d_Tokens_kindOfWord_13 hv3 ?_
      refine e_lload_n d_Tokens_kindOfWord_14 rfl ?_
      refine e_lcmp d_Tokens_kindOfWord_15 ?_
      refine e_if_ne 24 d_Tokens_kindOfWord_16 (by decide) (fun c4 => ?_) (fun c4 => ?_)
      · replace h := ifn c4 h
        refine e_iinc (v := x3 + 1) (l2 := [some (.ref x0), some (.long x1), none, some (.int (x3 + 1))]) d_Tokens_kindOfWord_24 rfl rfl rfl (okl rfl) rfl ?_
        refine e_goto 2 d_Tokens_kindOfWord_27 (by decide) ?_
        exact (ih x0 x1 (x3 + 1) M z h).less (show LSub _ _ from ⟨rfl, ⟨rfl, ⟨rfl, trivial⟩⟩⟩)
      · replace h := ift c4 h
        refine e_bipush (v := 10) d_Tokens_kindOfWord_19 (by decide) ?_
        refine e_iload_n d_Tokens_kindOfWord_21 rfl ?_
        refine e_iadd d_Tokens_kindOfWord_22 ?_
        cases h
        exact e_iret d_Tokens_kindOfWord_23 rfl (Nat.le_refl _) (Nat.le_refl _)
def f_Tokens_kindOfWord (n : Nat) (x0 : Nat) (x1 : Int64) (M : MM) : Option (Int32 × MM) :=
  og 10 x0 M <|
  f_Tokens_kindOfWord_2 n n x0 x1 0 M
theorem fc_Tokens_kindOfWord {n : Nat} {x0 : Nat} {x1 : Int64} {M : MM} {z : Int32 × MM} (h : f_Tokens_kindOfWord n x0 x1 M = some z) : (M.1.2.1 x0).1 = 10 := by
  unfold f_Tokens_kindOfWord at h
  exact (og_s h).1
theorem t_Tokens_kindOfWord (n : Nat) (x0 : Nat) (x1 : Int64) (M : MM) (z : Int32 × MM) (h : f_Tokens_kindOfWord n x0 x1 M = some z) : CT m_Tokens_kindOfWord (rm 1 0 0) [.ref x0, .long x1] M (some (.int z.1)) z.2 := by
  unfold f_Tokens_kindOfWord at h
  obtain ⟨hthis, h⟩ := og_s h
  refine CT.of (ls := [some (.ref x0), some (.long x1), none, none]) rfl (okp rfl) rfl ?_
  refine e_iconst (v := 0) d_Tokens_kindOfWord_0 (by decide) ?_
  refine e_istore_n (l2 := [some (.ref x0), some (.long x1), none, some (.int 0)]) d_Tokens_kindOfWord_1 rfl (okl rfl) rfl ?_
  exact (t_Tokens_kindOfWord_2 n n x0 x1 0 M z h).less (show LSub _ _ from ⟨rfl, ⟨rfl, ⟨rfl, trivial⟩⟩⟩)
theorem d_Tokens_add_0 : DC m_Tokens_add 0 (.aload_n 0) 1 1 := ⟨by decide +kernel, rfl⟩
theorem d_Tokens_add_1 : DC m_Tokens_add 1 (.getfield 22) 3 4 := ⟨by decide +kernel, rfl⟩
theorem d_Tokens_add_4 : DC m_Tokens_add 4 (.sipush 400) 3 7 := ⟨by decide +kernel, rfl⟩
theorem d_Tokens_add_7 : DC m_Tokens_add 7 (.if_icmp .gt 43) 3 10 := ⟨by decide +kernel, rfl⟩
theorem d_Tokens_add_10 : DC m_Tokens_add 10 (.aload_n 0) 1 11 := ⟨by decide +kernel, rfl⟩
theorem d_Tokens_add_11 : DC m_Tokens_add 11 (.getfield 11) 3 14 := ⟨by decide +kernel, rfl⟩
theorem d_Tokens_add_14 : DC m_Tokens_add 14 (.aload_n 0) 1 15 := ⟨by decide +kernel, rfl⟩
theorem d_Tokens_add_15 : DC m_Tokens_add 15 (.getfield 22) 3 18 := ⟨by decide +kernel, rfl⟩
theorem d_Tokens_add_18 : DC m_Tokens_add 18 (.iload_n 1) 1 19 := ⟨by decide +kernel, rfl⟩
theorem d_Tokens_add_19 : DC m_Tokens_add 19 .iastore 1 20 := ⟨by decide +kernel, rfl⟩
theorem d_Tokens_add_20 : DC m_Tokens_add 20 (.aload_n 0) 1 21 := ⟨by decide +kernel, rfl⟩
theorem d_Tokens_add_21 : DC m_Tokens_add 21 (.getfield 15) 3 24 := ⟨by decide +kernel, rfl⟩
theorem d_Tokens_add_24 : DC m_Tokens_add 24 (.aload_n 0) 1 25 := ⟨by decide +kernel, rfl⟩
theorem d_Tokens_add_25 : DC m_Tokens_add 25 (.getfield 22) 3 28 := ⟨by decide +kernel, rfl⟩
theorem d_Tokens_add_28 : DC m_Tokens_add 28 (.iload_n 2) 1 29 := ⟨by decide +kernel, rfl⟩
theorem d_Tokens_add_29 : DC m_Tokens_add 29 .iastore 1 30 := ⟨by decide +kernel, rfl⟩
theorem d_Tokens_add_30 : DC m_Tokens_add 30 (.aload_n 0) 1 31 := ⟨by decide +kernel, rfl⟩
theorem d_Tokens_add_31 : DC m_Tokens_add 31 (.getfield 18) 3 34 := ⟨by decide +kernel, rfl⟩
theorem d_Tokens_add_34 : DC m_Tokens_add 34 (.aload_n 0) 1 35 := ⟨by decide +kernel, rfl⟩
theorem d_Tokens_add_35 : DC m_Tokens_add 35 (.getfield 22) 3 38 := ⟨by decide +kernel, rfl⟩
theorem d_Tokens_add_38 : DC m_Tokens_add 38 (.lload_n 3) 1 39 := ⟨by decide +kernel, rfl⟩
theorem d_Tokens_add_39 : DC m_Tokens_add 39 .lastore 1 40 := ⟨by decide +kernel, rfl⟩
theorem d_Tokens_add_40 : DC m_Tokens_add 40 (.aload_n 0) 1 41 := ⟨by decide +kernel, rfl⟩
theorem d_Tokens_add_41 : DC m_Tokens_add 41 .dup 1 42 := ⟨by decide +kernel, rfl⟩
theorem d_Tokens_add_42 : DC m_Tokens_add 42 (.getfield 22) 3 45 := ⟨by decide +kernel, rfl⟩
theorem d_Tokens_add_45 : DC m_Tokens_add 45 (.iconst 1) 1 46 := ⟨by decide +kernel, rfl⟩
theorem d_Tokens_add_46 : DC m_Tokens_add 46 .iadd 1 47 := ⟨by decide +kernel, rfl⟩
theorem d_Tokens_add_47 : DC m_Tokens_add 47 (.putfield 22) 3 50 := ⟨by decide +kernel, rfl⟩
theorem d_Tokens_add_50 : DC m_Tokens_add 50 .return_ 1 51 := ⟨by decide +kernel, rfl⟩
def f_Tokens_add (n : Nat) (x0 : Nat) (x1 : Int32) (x2 : Int32) (x3 : Int64) (M : MM) : Option (MM) :=
  og 10 x0 M <|
  (gI 10 3 x0 M).bind fun v1 =>
  if 400 < v1 then
    some M
  else
    (gR 10 0 x0 M).bind fun v3 =>
    (gI 10 3 x0 M).bind fun v4 =>
    (sI 100 v3 v4 x1 M).bind fun M5 =>
    (gR 10 1 x0 M5).bind fun v6 =>
    (gI 10 3 x0 M5).bind fun v7 =>
    (sI 100 v6 v7 x2 M5).bind fun M8 =>
    (gR 10 2 x0 M8).bind fun v9 =>
    (gI 10 3 x0 M8).bind fun v10 =>
    (sL v9 v10 x3 M8).bind fun M11 =>
    (gI 10 3 x0 M11).bind fun v12 =>
    (pI 10 3 x0 (v12 + 1) M11).bind fun M13 =>
    some M13
theorem fc_Tokens_add {n : Nat} {x0 : Nat} {x1 : Int32} {x2 : Int32} {x3 : Int64} {M : MM} {z : MM} (h : f_Tokens_add n x0 x1 x2 x3 M = some z) : (M.1.2.1 x0).1 = 10 := by
  unfold f_Tokens_add at h
  exact (og_s h).1
theorem t_Tokens_add (n : Nat) (x0 : Nat) (x1 : Int32) (x2 : Int32) (x3 : Int64) (M : MM) (z : MM) (h : f_Tokens_add n x0 x1 x2 x3 M = some z) : CT m_Tokens_add (rm 1 0 0) [.ref x0, .int x1, .int x2, .long x3] M none z := by
  unfold f_Tokens_add at h
  obtain ⟨hthis, h⟩ := og_s h
  refine CT.of (ls := [some (.ref x0), some (.int x1), some (.int x2), some (.long x3), none]) rfl (okp rfl) rfl ?_
  refine e_aload_n d_Tokens_add_0 rfl ?_
  obtain ⟨v1, hv1, h⟩ := bnd h
  refine e_getI d_Tokens_add_1 fl_Tokens_22 (fun _ _ _ => rfl) hv1 ?_
  refine e_sipush (v := 400) d_Tokens_add_4 (by decide) ?_
  refine e_ic_gt 50 d_Tokens_add_7 (by decide) (fun c2 => ?_) (fun c2 => ?_)
  · replace h := ift c2 h
    cases h
    exact e_vret d_Tokens_add_50 rfl (Nat.le_refl _) (Nat.le_refl _)
  · replace h := ifn c2 h
    refine e_aload_n d_Tokens_add_10 rfl ?_
    obtain ⟨v3, hv3, h⟩ := bnd h
    refine e_getR d_Tokens_add_11 fl_Tokens_11 (fun _ _ _ => rfl) hv3 ?_
    refine e_aload_n d_Tokens_add_14 rfl ?_
    obtain ⟨v4, hv4, h⟩ := bnd h
    refine e_getI d_Tokens_add_15 fl_Tokens_22 (fun _ _ _ => rfl) hv4 ?_
    refine e_iload_n d_Tokens_add_18 rfl ?_
    obtain ⟨M5, hM5, h⟩ := bnd h
    refine e_iast d_Tokens_add_19 hM5 ?_
    refine e_aload_n d_Tokens_add_20 rfl ?_
    obtain ⟨v6, hv6, h⟩ := bnd h
    refine e_getR d_Tokens_add_21 fl_Tokens_15 (fun _ _ _ => rfl) hv6 ?_
    refine e_aload_n d_Tokens_add_24 rfl ?_
    obtain ⟨v7, hv7, h⟩ := bnd h
    refine e_getI d_Tokens_add_25 fl_Tokens_22 (fun _ _ _ => rfl) hv7 ?_
    refine e_iload_n d_Tokens_add_28 rfl ?_
    obtain ⟨M8, hM8, h⟩ := bnd h
    refine e_iast d_Tokens_add_29 hM8 ?_
    refine e_aload_n d_Tokens_add_30 rfl ?_
    obtain ⟨v9, hv9, h⟩ := bnd h
    refine e_getR d_Tokens_add_31 fl_Tokens_18 (fun _ _ _ => rfl) hv9 ?_
    refine e_aload_n d_Tokens_add_34 rfl ?_
    obtain ⟨v10, hv10, h⟩ := bnd h
    refine e_getI d_Tokens_add_35 fl_Tokens_22 (fun _ _ _ => rfl) hv10 ?_
    refine e_lload_n d_Tokens_add_38 rfl ?_
    obtain ⟨M11, hM11, h⟩ := bnd h
    refine e_last d_Tokens_add_39 hM11 ?_
    refine e_aload_n d_Tokens_add_40 rfl ?_
    refine e_dup d_Tokens_add_41 rfl ?_
    obtain ⟨v12, hv12, h⟩ := bnd h
    refine e_getI d_Tokens_add_42 fl_Tokens_22 (fun _ _ _ => rfl) hv12 ?_
    refine e_iconst (v := 1) d_Tokens_add_45 (by decide) ?_
    refine e_iadd d_Tokens_add_46 ?_
    obtain ⟨M13, hM13, h⟩ := bnd h
    refine e_putI d_Tokens_add_47 fl_Tokens_22 (Or.inl rfl) (fun _ _ _ => rfl) rfl hM13 ?_
    cases h
    exact e_vret d_Tokens_add_50 rfl (Nat.le_refl _) (Nat.le_refl _)
theorem d_Tokens_scanLetters_0 : DC m_Tokens_scanLetters 0 (.iload_n 3) 1 1 := ⟨by decide +kernel, rfl⟩
theorem d_Tokens_scanLetters_1 : DC m_Tokens_scanLetters 1 (.istore 4) 2 3 := ⟨by decide +kernel, rfl⟩
theorem d_Tokens_scanLetters_3 : DC m_Tokens_scanLetters 3 (.lconst 0) 1 4 := ⟨by decide +kernel, rfl⟩
theorem d_Tokens_scanLetters_4 : DC m_Tokens_scanLetters 4 (.lstore 5) 2 6 := ⟨by decide +kernel, rfl⟩
theorem d_Tokens_scanLetters_6 : DC m_Tokens_scanLetters 6 (.iload 4) 2 8 := ⟨by decide +kernel, rfl⟩
theorem d_Tokens_scanLetters_8 : DC m_Tokens_scanLetters 8 (.iload_n 2) 1 9 := ⟨by decide +kernel, rfl⟩
theorem d_Tokens_scanLetters_9 : DC m_Tokens_scanLetters 9 (.if_icmp .ge 36) 3 12 := ⟨by decide +kernel, rfl⟩
theorem d_Tokens_scanLetters_12 : DC m_Tokens_scanLetters 12 (.aload_n 1) 1 13 := ⟨by decide +kernel, rfl⟩
theorem d_Tokens_scanLetters_13 : DC m_Tokens_scanLetters 13 (.iload_n 2) 1 14 := ⟨by decide +kernel, rfl⟩
theorem d_Tokens_scanLetters_14 : DC m_Tokens_scanLetters 14 (.iload 4) 2 16 := ⟨by decide +kernel, rfl⟩
theorem d_Tokens_scanLetters_16 : DC m_Tokens_scanLetters 16 (.invokestatic 50) 3 19 := ⟨by decide +kernel, rfl⟩
theorem d_Tokens_scanLetters_19 : DC m_Tokens_scanLetters 19 (.invokestatic 58) 3 22 := ⟨by decide +kernel, rfl⟩
theorem d_Tokens_scanLetters_22 : DC m_Tokens_scanLetters 22 (.ifCond .eq 23) 3 25 := ⟨by decide +kernel, rfl⟩
theorem d_Tokens_scanLetters_25 : DC m_Tokens_scanLetters 25 (.lload 5) 2 27 := ⟨by decide +kernel, rfl⟩
theorem d_Tokens_scanLetters_27 : DC m_Tokens_scanLetters 27 (.aload_n 1) 1 28 := ⟨by decide +kernel, rfl⟩
theorem d_Tokens_scanLetters_28 : DC m_Tokens_scanLetters 28 (.iload_n 2) 1 29 := ⟨by decide +kernel, rfl⟩
theorem d_Tokens_scanLetters_29 : DC m_Tokens_scanLetters 29 (.iload 4) 2 31 := ⟨by decide +kernel, rfl⟩
theorem d_Tokens_scanLetters_31 : DC m_Tokens_scanLetters 31 (.invokestatic 50) 3 34 := ⟨by decide +kernel, rfl⟩
theorem d_Tokens_scanLetters_34 : DC m_Tokens_scanLetters 34 (.invokestatic 46) 3 37 := ⟨by decide +kernel, rfl⟩
theorem d_Tokens_scanLetters_37 : DC m_Tokens_scanLetters 37 (.lstore 5) 2 39 := ⟨by decide +kernel, rfl⟩
theorem d_Tokens_scanLetters_39 : DC m_Tokens_scanLetters 39 (.iinc 4 1) 3 42 := ⟨by decide +kernel, rfl⟩
theorem d_Tokens_scanLetters_42 : DC m_Tokens_scanLetters 42 (.goto (-36)) 3 45 := ⟨by decide +kernel, rfl⟩
theorem d_Tokens_scanLetters_45 : DC m_Tokens_scanLetters 45 (.aload_n 0) 1 46 := ⟨by decide +kernel, rfl⟩
theorem d_Tokens_scanLetters_46 : DC m_Tokens_scanLetters 46 (.iload 4) 2 48 := ⟨by decide +kernel, rfl⟩
theorem d_Tokens_scanLetters_48 : DC m_Tokens_scanLetters 48 (.iload_n 3) 1 49 := ⟨by decide +kernel, rfl⟩
theorem d_Tokens_scanLetters_49 : DC m_Tokens_scanLetters 49 .isub 1 50 := ⟨by decide +kernel, rfl⟩
theorem d_Tokens_scanLetters_50 : DC m_Tokens_scanLetters 50 (.bipush 8) 2 52 := ⟨by decide +kernel, rfl⟩
theorem d_Tokens_scanLetters_52 : DC m_Tokens_scanLetters 52 (.if_icmp .le 7) 3 55 := ⟨by decide +kernel, rfl⟩
theorem d_Tokens_scanLetters_55 : DC m_Tokens_scanLetters 55 (.iconst 1) 1 56 := ⟨by decide +kernel, rfl⟩
theorem d_Tokens_scanLetters_56 : DC m_Tokens_scanLetters 56 (.goto 9) 3 59 := ⟨by decide +kernel, rfl⟩
theorem d_Tokens_scanLetters_59 : DC m_Tokens_scanLetters 59 (.aload_n 0) 1 60 := ⟨by decide +kernel, rfl⟩
theorem d_Tokens_scanLetters_60 : DC m_Tokens_scanLetters 60 (.lload 5) 2 62 := ⟨by decide +kernel, rfl⟩
theorem d_Tokens_scanLetters_62 : DC m_Tokens_scanLetters 62 (.invokevirtual 80) 3 65 := ⟨by decide +kernel, rfl⟩
theorem d_Tokens_scanLetters_65 : DC m_Tokens_scanLetters 65 (.iload_n 3) 1 66 := ⟨by decide +kernel, rfl⟩
theorem d_Tokens_scanLetters_66 : DC m_Tokens_scanLetters 66 (.lload 5) 2 68 := ⟨by decide +kernel, rfl⟩
theorem d_Tokens_scanLetters_68 : DC m_Tokens_scanLetters 68 (.invokevirtual 76) 3 71 := ⟨by decide +kernel, rfl⟩
theorem d_Tokens_scanLetters_71 : DC m_Tokens_scanLetters 71 (.iload 4) 2 73 := ⟨by decide +kernel, rfl⟩
theorem d_Tokens_scanLetters_73 : DC m_Tokens_scanLetters 73 .ireturn 1 74 := ⟨by decide +kernel, rfl⟩
def f_Tokens_scanLetters_65 (n : Nat) (x3 : Int32) (x4 : Int32) (x5 : Int64) (s0 : Nat) (s1 : Int32) (M : MM) : Option (Int32 × MM) :=
  (f_Tokens_add n s0 s1 x3 x5 M).bind fun M1 =>
  some (x4, M1)
theorem t_Tokens_scanLetters_65 (n : Nat) (x3 : Int32) (x4 : Int32) (x5 : Int64) (s0 : Nat) (s1 : Int32) (M : MM) (z : Int32 × MM) (h : f_Tokens_scanLetters_65 n x3 x4 x5 s0 s1 M = some z) : EV m_Tokens_scanLetters (rm 2 0 0) (some (.int z.1)) z.2 0 0 65 [none, none, none, some (.int x3), some (.int x4), some (.long x5), none] [.int s1, .ref s0] M := by
  unfold f_Tokens_scanLetters_65 at h
  refine e_iload_n d_Tokens_scanLetters_65 rfl ?_
  refine e_lload d_Tokens_scanLetters_66 rfl ?_
  obtain ⟨M1, hM1, h⟩ := bnd h
  refine e_cVv (mt1 := m_Tokens_add) (As := [.int s1, .int x3, .long x5]) (st := []) d_Tokens_scanLetters_68 ml_Tokens_76 mv_Tokens_add (t_Tokens_add n s0 s1 x3 x5 M M1 hM1) (fc_Tokens_add hM1) rfl rfl rfl (okp rfl) (okp rfl) (okp rfl) (Nat.le_refl _) (Nat.le_refl _) ?_
  refine e_iload d_Tokens_scanLetters_71 rfl ?_
  cases h
  exact e_iret d_Tokens_scanLetters_73 rfl (Nat.le_refl _) (Nat.le_refl _)
def f_Tokens_scanLetters_45 (n : Nat) (x0 : Nat) (x3 : Int32) (x4 : Int32) (x5 : Int64) (M : MM) : Option (Int32 × MM) :=
  if (x4 - x3) ≤ 8 then
    (f_Tokens_kindOfWord n x0 x5 M).bind fun p3 =>
    f_Tokens_scanLetters_65 n x3 x4 x5 x0 p3.1 p3.2
  else
    f_Tokens_scanLetters_65 n x3 x4 x5 x0 1 M
theorem t_Tokens_scanLetters_45 (n : Nat) (x0 : Nat) (x3 : Int32) (x4 : Int32) (x5 : Int64) (M : MM) (z : Int32 × MM) (h : f_Tokens_scanLetters_45 n x0 x3 x4 x5 M = some z) : EV m_Tokens_scanLetters (rm 2 0 0) (some (.int z.1)) z.2 0 0 45 [some (.ref x0), none, none, some (.int x3), some (.int x4), some (.long x5), none] [] M := by
  unfold f_Tokens_scanLetters_45 at h
  refine e_aload_n d_Tokens_scanLetters_45 rfl ?_
  refine e_iload d_Tokens_scanLetters_46 rfl ?_
  refine e_iload_n d_Tokens_scanLetters_48 rfl ?_
  refine e_isub d_Tokens_scanLetters_49 ?_
  refine e_bipush (v := 8) d_Tokens_scanLetters_50 (by decide) ?_
  refine e_ic_le 59 d_Tokens_scanLetters_52 (by decide) (fun c2 => ?_) (fun c2 => ?_)
  · replace h := ift c2 h
    refine e_aload_n d_Tokens_scanLetters_59 rfl ?_
    refine e_lload d_Tokens_scanLetters_60 rfl ?_
    obtain ⟨p3, hp3, h⟩ := bnd h
    refine e_cVi (mt1 := m_Tokens_kindOfWord) (As := [.long x5]) (st := [.ref x0]) d_Tokens_scanLetters_62 ml_Tokens_80 mv_Tokens_kindOfWord (t_Tokens_kindOfWord n x0 x5 M p3 hp3) (fc_Tokens_kindOfWord hp3) rfl rfl rfl (okp rfl) (okp rfl) (okp rfl) (Nat.le_refl _) (Nat.le_refl _) ?_
    exact (t_Tokens_scanLetters_65 n x3 x4 x5 x0 p3.1 p3.2 z h).less (show LSub _ _ from ⟨rfl, ⟨rfl, ⟨rfl, trivial⟩⟩⟩)
  · replace h := ifn c2 h
    refine e_iconst (v := 1) d_Tokens_scanLetters_55 (by decide) ?_
    refine e_goto 65 d_Tokens_scanLetters_56 (by decide) ?_
    exact (t_Tokens_scanLetters_65 n x3 x4 x5 x0 1 M z h).less (show LSub _ _ from ⟨rfl, ⟨rfl, ⟨rfl, trivial⟩⟩⟩)
def f_Tokens_scanLetters_6 (n : Nat) (k_45 : Nat → Int32 → Int32 → Int64 → MM → Option (Int32 × MM)) : Nat → Nat → Nat → Int32 → Int32 → Int32 → Int64 → MM → Option (Int32 × MM)
  | 0, _, _, _, _, _, _, _ => none
  | m + 1, x0, x1, x2, x3, x4, x5, M =>
    if x2 ≤ x4 then
      k_45 x0 x3 x4 x5 M
    else
      (f_Tokens_byteAt n x1 x2 x4 M).bind fun p5 =>
      (f_Tokens_isLetter n p5.1 p5.2).bind fun p6 =>
      if p6.1 = 0 then
        k_45 x0 x3 x4 x5 p6.2
      else
        (f_Tokens_byteAt n x1 x2 x4 p6.2).bind fun p8 =>
        (f_Tokens_withLetter n x5 p8.1 p8.2).bind fun p9 =>
        f_Tokens_scanLetters_6 n k_45 m x0 x1 x2 x3 (x4 + 1) p9.1 p9.2
theorem t_Tokens_scanLetters_6 (n : Nat) {k_45 : Nat → Int32 → Int32 → Int64 → MM → Option (Int32 × MM)} (hk_45 : ∀ (x0 : Nat) (x3 : Int32) (x4 : Int32) (x5 : Int64) (M : MM) (z : Int32 × MM), k_45 x0 x3 x4 x5 M = some z → EV m_Tokens_scanLetters (rm 2 0 0) (some (.int z.1)) z.2 0 0 45 [some (.ref x0), none, none, some (.int x3), some (.int x4), some (.long x5), none] [] M) : ∀ (m : Nat) (x0 : Nat) (x1 : Nat) (x2 : Int32) (x3 : Int32) (x4 : Int32) (x5 : Int64) (M : MM) (z : Int32 × MM), f_Tokens_scanLetters_6 n k_45 m x0 x1 x2 x3 x4 x5 M = some z → EV m_Tokens_scanLetters (rm 2 0 0) (some (.int z.1)) z.2 0 0 6 [some (.ref x0), some (.ref x1), some (.int x2), some (.int x3), some (.int x4), some (.long x5), none] [] M := by
  intro m
  induction m with
  | zero => intro x0 x1 x2 x3 x4 x5 M z h; cases h
  | succ m ih =>
    intro x0 x1 x2 x3 x4 x5 M z h
    rw [f_Tokens_scanLetters_6] at h
    refine e_iload d_Tokens_scanLetters_6 rfl ?_
    refine e_iload_n d_Tokens_scanLetters_8 rfl ?_
    refine e_ic_ge 45 d_Tokens_scanLetters_9 (by decide) (fun c4 => ?_) (fun c4 => ?_)
    · replace h := ift c4 h
      exact (hk_45 x0 x3 x4 x5 M z h).less (show LSub _ _ from ⟨rfl, ⟨rfl, ⟨rfl, ⟨rfl, trivial⟩⟩⟩⟩)
    · replace h := ifn c4 h
      refine e_aload_n d_Tokens_scanLetters_12 rfl ?_
      refine e_iload_n d_Tokens_scanLetters_13 rfl ?_
      refine e_iload d_Tokens_scanLetters_14 rfl ?_
      obtain ⟨p5, hp5, h⟩ := bnd h
      refine e_cSi (mt1 := m_Tokens_byteAt) (As := [.ref x1, .int x2, .int x4]) (st := []) d_Tokens_scanLetters_16 ml_Tokens_50 ms_Tokens_byteAt (t_Tokens_byteAt n x1 x2 x4 M p5 hp5) rfl rfl (okp rfl) (okp rfl) (okp rfl) (Nat.le_refl _) (Nat.le_refl _) ?_
      obtain ⟨p6, hp6, h⟩ := bnd h
      refine e_cSi (mt1 := m_Tokens_isLetter) (As := [.int p5.1]) (st := []) d_Tokens_scanLetters_19 ml_Tokens_58 ms_Tokens_isLetter (t_Tokens_isLetter n p5.1 p5.2 p6 hp6) rfl rfl (okp rfl) (okp rfl) (okp rfl) (Nat.le_refl _) (Nat.le_refl _) ?_
      refine e_if_eq 45 d_Tokens_scanLetters_22 (by decide) (fun c7 => ?_) (fun c7 => ?_)
      · replace h := ift c7 h
        exact (hk_45 x0 x3 x4 x5 p6.2 z h).less (show LSub _ _ from ⟨rfl, ⟨rfl, ⟨rfl, ⟨rfl, trivial⟩⟩⟩⟩)
      · replace h := ifn c7 h
        refine e_lload d_Tokens_scanLetters_25 rfl ?_
        refine e_aload_n d_Tokens_scanLetters_27 rfl ?_
        refine e_iload_n d_Tokens_scanLetters_28 rfl ?_
        refine e_iload d_Tokens_scanLetters_29 rfl ?_
        obtain ⟨p8, hp8, h⟩ := bnd h
        refine e_cSi (mt1 := m_Tokens_byteAt) (As := [.ref x1, .int x2, .int x4]) (st := [.long x5]) d_Tokens_scanLetters_31 ml_Tokens_50 ms_Tokens_byteAt (t_Tokens_byteAt n x1 x2 x4 p6.2 p8 hp8) rfl rfl (okp rfl) (okp rfl) (okp rfl) (Nat.le_refl _) (Nat.le_refl _) ?_
        obtain ⟨p9, hp9, h⟩ := bnd h
        refine e_cSl (mt1 := m_Tokens_withLetter) (As := [.long x5, .int p8.1]) (st := []) d_Tokens_scanLetters_34 ml_Tokens_46 ms_Tokens_withLetter (t_Tokens_withLetter n x5 p8.1 p8.2 p9 hp9) rfl rfl (okp rfl) (okp rfl) (okp rfl) (Nat.le_refl _) (Nat.le_refl _) ?_
        refine e_lstore (l2 := [some (.ref x0), some (.ref x1), some (.int x2), some (.int x3), some (.int x4), some (.long p9.1), none]) d_Tokens_scanLetters_37 rfl (okl rfl) rfl ?_
        refine e_iinc (v := x4 + 1) (l2 := [some (.ref x0), some (.ref x1), some (.int x2), some (.int x3), some (.int (x4 + 1)), some (.long p9.1), none]) d_Tokens_scanLetters_39 rfl rfl rfl (okl rfl) rfl ?_
        refine e_goto 6 d_Tokens_scanLetters_42 (by decide) ?_
        exact (ih x0 x1 x2 x3 (x4 + 1) p9.1 p9.2 z h).less (show LSub _ _ from ⟨rfl, ⟨rfl, ⟨rfl, ⟨rfl, ⟨rfl, ⟨rfl, trivial⟩⟩⟩⟩⟩⟩)
def f_Tokens_scanLetters (n : Nat) (x0 : Nat) (x1 : Nat) (x2 : Int32) (x3 : Int32) (M : MM) : Option (Int32 × MM) :=
  og 10 x0 M <|
  f_Tokens_scanLetters_6 n (f_Tokens_scanLetters_45 n) n x0 x1 x2 x3 x3 0 M
theorem fc_Tokens_scanLetters {n : Nat} {x0 : Nat} {x1 : Nat} {x2 : Int32} {x3 : Int32} {M : MM} {z : Int32 × MM} (h : f_Tokens_scanLetters n x0 x1 x2 x3 M = some z) : (M.1.2.1 x0).1 = 10 := by
  unfold f_Tokens_scanLetters at h
  exact (og_s h).1
theorem t_Tokens_scanLetters (n : Nat) (x0 : Nat) (x1 : Nat) (x2 : Int32) (x3 : Int32) (M : MM) (z : Int32 × MM) (h : f_Tokens_scanLetters n x0 x1 x2 x3 M = some z) : CT m_Tokens_scanLetters (rm 2 0 0) [.ref x0, .ref x1, .int x2, .int x3] M (some (.int z.1)) z.2 := by
  unfold f_Tokens_scanLetters at h
  obtain ⟨hthis, h⟩ := og_s h
  refine CT.of (ls := [some (.ref x0), some (.ref x1), some (.int x2), some (.int x3), none, none, none]) rfl (okp rfl) rfl ?_
  refine e_iload_n d_Tokens_scanLetters_0 rfl ?_
  refine e_istore (l2 := [some (.ref x0), some (.ref x1), some (.int x2), some (.int x3), some (.int x3), none, none]) d_Tokens_scanLetters_1 rfl (okl rfl) rfl ?_
  refine e_lconst (v := 0) d_Tokens_scanLetters_3 (by decide) ?_
  refine e_lstore (l2 := [some (.ref x0), some (.ref x1), some (.int x2), some (.int x3), some (.int x3), some (.long 0), none]) d_Tokens_scanLetters_4 rfl (okl rfl) rfl ?_
  exact (t_Tokens_scanLetters_6 n (t_Tokens_scanLetters_45 n) n x0 x1 x2 x3 x3 0 M z h).less (show LSub _ _ from ⟨rfl, ⟨rfl, ⟨rfl, ⟨rfl, ⟨rfl, ⟨rfl, trivial⟩⟩⟩⟩⟩⟩)
theorem d_Tokens_isDigit_0 : DC m_Tokens_isDigit 0 (.iload_n 0) 1 1 := ⟨by decide +kernel, rfl⟩
theorem d_Tokens_isDigit_1 : DC m_Tokens_isDigit 1 (.bipush 48) 2 3 := ⟨by decide +kernel, rfl⟩
theorem d_Tokens_isDigit_3 : DC m_Tokens_isDigit 3 (.if_icmp .lt 13) 3 6 := ⟨by decide +kernel, rfl⟩
theorem d_Tokens_isDigit_6 : DC m_Tokens_isDigit 6 (.iload_n 0) 1 7 := ⟨by decide +kernel, rfl⟩
theorem d_Tokens_isDigit_7 : DC m_Tokens_isDigit 7 (.bipush 57) 2 9 := ⟨by decide +kernel, rfl⟩
theorem d_Tokens_isDigit_9 : DC m_Tokens_isDigit 9 (.if_icmp .gt 7) 3 12 := ⟨by decide +kernel, rfl⟩
theorem d_Tokens_isDigit_12 : DC m_Tokens_isDigit 12 (.iconst 1) 1 13 := ⟨by decide +kernel, rfl⟩
theorem d_Tokens_isDigit_13 : DC m_Tokens_isDigit 13 (.goto 4) 3 16 := ⟨by decide +kernel, rfl⟩
theorem d_Tokens_isDigit_16 : DC m_Tokens_isDigit 16 (.iconst 0) 1 17 := ⟨by decide +kernel, rfl⟩
theorem d_Tokens_isDigit_17 : DC m_Tokens_isDigit 17 .ireturn 1 18 := ⟨by decide +kernel, rfl⟩
def f_Tokens_isDigit (n : Nat) (x0 : Int32) (M : MM) : Option (Int32 × MM) :=
  if x0 < 48 then
    some (0, M)
  else
    if 57 < x0 then
      some (0, M)
    else
      some (1, M)
theorem t_Tokens_isDigit (n : Nat) (x0 : Int32) (M : MM) (z : Int32 × MM) (h : f_Tokens_isDigit n x0 M = some z) : CT m_Tokens_isDigit (rm 1 0 0) [.int x0] M (some (.int z.1)) z.2 := by
  unfold f_Tokens_isDigit at h
  refine CT.of (ls := [some (.int x0)]) rfl (okp rfl) rfl ?_
  refine e_iload_n d_Tokens_isDigit_0 rfl ?_
  refine e_bipush (v := 48) d_Tokens_isDigit_1 (by decide) ?_
  refine e_ic_lt 16 d_Tokens_isDigit_3 (by decide) (fun c1 => ?_) (fun c1 => ?_)
  · replace h := ift c1 h
    refine e_iconst (v := 0) d_Tokens_isDigit_16 (by decide) ?_
    cases h
    exact e_zret (ty := .boolean) d_Tokens_isDigit_17 rfl narZ0 (Nat.le_refl _) (Nat.le_refl _)
  · replace h := ifn c1 h
    refine e_iload_n d_Tokens_isDigit_6 rfl ?_
    refine e_bipush (v := 57) d_Tokens_isDigit_7 (by decide) ?_
    refine e_ic_gt 16 d_Tokens_isDigit_9 (by decide) (fun c2 => ?_) (fun c2 => ?_)
    · replace h := ift c2 h
      refine e_iconst (v := 0) d_Tokens_isDigit_16 (by decide) ?_
      cases h
      exact e_zret (ty := .boolean) d_Tokens_isDigit_17 rfl narZ0 (Nat.le_refl _) (Nat.le_refl _)
    · replace h := ifn c2 h
      refine e_iconst (v := 1) d_Tokens_isDigit_12 (by decide) ?_
      refine e_goto 17 d_Tokens_isDigit_13 (by decide) ?_
      cases h
      exact e_zret (ty := .boolean) d_Tokens_isDigit_17 rfl narZ1 (Nat.le_refl _) (Nat.le_refl _)
theorem d_Tokens_scanDigits_0 : DC m_Tokens_scanDigits 0 (.iload_n 3) 1 1 := ⟨by decide +kernel, rfl⟩
theorem d_Tokens_scanDigits_1 : DC m_Tokens_scanDigits 1 (.istore 4) 2 3 := ⟨by decide +kernel, rfl⟩
theorem d_Tokens_scanDigits_3 : DC m_Tokens_scanDigits 3 (.iconst 0) 1 4 := ⟨by decide +kernel, rfl⟩
theorem d_Tokens_scanDigits_4 : DC m_Tokens_scanDigits 4 (.istore 5) 2 6 := ⟨by decide +kernel, rfl⟩
theorem d_Tokens_scanDigits_6 : DC m_Tokens_scanDigits 6 (.iload 4) 2 8 := ⟨by decide +kernel, rfl⟩
theorem d_Tokens_scanDigits_8 : DC m_Tokens_scanDigits 8 (.iload_n 2) 1 9 := ⟨by decide +kernel, rfl⟩
theorem d_Tokens_scanDigits_9 : DC m_Tokens_scanDigits 9 (.if_icmp .ge 40) 3 12 := ⟨by decide +kernel, rfl⟩
theorem d_Tokens_scanDigits_12 : DC m_Tokens_scanDigits 12 (.aload_n 1) 1 13 := ⟨by decide +kernel, rfl⟩
theorem d_Tokens_scanDigits_13 : DC m_Tokens_scanDigits 13 (.iload_n 2) 1 14 := ⟨by decide +kernel, rfl⟩
theorem d_Tokens_scanDigits_14 : DC m_Tokens_scanDigits 14 (.iload 4) 2 16 := ⟨by decide +kernel, rfl⟩
theorem d_Tokens_scanDigits_16 : DC m_Tokens_scanDigits 16 (.invokestatic 50) 3 19 := ⟨by decide +kernel, rfl⟩
theorem d_Tokens_scanDigits_19 : DC m_Tokens_scanDigits 19 (.invokestatic 64) 3 22 := ⟨by decide +kernel, rfl⟩
theorem d_Tokens_scanDigits_22 : DC m_Tokens_scanDigits 22 (.ifCond .eq 27) 3 25 := ⟨by decide +kernel, rfl⟩
theorem d_Tokens_scanDigits_25 : DC m_Tokens_scanDigits 25 (.bipush 10) 2 27 := ⟨by decide +kernel, rfl⟩
theorem d_Tokens_scanDigits_27 : DC m_Tokens_scanDigits 27 (.iload 5) 2 29 := ⟨by decide +kernel, rfl⟩
theorem d_Tokens_scanDigits_29 : DC m_Tokens_scanDigits 29 .imul 1 30 := ⟨by decide +kernel, rfl⟩
theorem d_Tokens_scanDigits_30 : DC m_Tokens_scanDigits 30 (.aload_n 1) 1 31 := ⟨by decide +kernel, rfl⟩
theorem d_Tokens_scanDigits_31 : DC m_Tokens_scanDigits 31 (.iload_n 2) 1 32 := ⟨by decide +kernel, rfl⟩
theorem d_Tokens_scanDigits_32 : DC m_Tokens_scanDigits 32 (.iload 4) 2 34 := ⟨by decide +kernel, rfl⟩
theorem d_Tokens_scanDigits_34 : DC m_Tokens_scanDigits 34 (.invokestatic 50) 3 37 := ⟨by decide +kernel, rfl⟩
theorem d_Tokens_scanDigits_37 : DC m_Tokens_scanDigits 37 .iadd 1 38 := ⟨by decide +kernel, rfl⟩
theorem d_Tokens_scanDigits_38 : DC m_Tokens_scanDigits 38 (.bipush 48) 2 40 := ⟨by decide +kernel, rfl⟩
theorem d_Tokens_scanDigits_40 : DC m_Tokens_scanDigits 40 .isub 1 41 := ⟨by decide +kernel, rfl⟩
theorem d_Tokens_scanDigits_41 : DC m_Tokens_scanDigits 41 (.istore 5) 2 43 := ⟨by decide +kernel, rfl⟩
theorem d_Tokens_scanDigits_43 : DC m_Tokens_scanDigits 43 (.iinc 4 1) 3 46 := ⟨by decide +kernel, rfl⟩
theorem d_Tokens_scanDigits_46 : DC m_Tokens_scanDigits 46 (.goto (-40)) 3 49 := ⟨by decide +kernel, rfl⟩
theorem d_Tokens_scanDigits_49 : DC m_Tokens_scanDigits 49 (.aload_n 0) 1 50 := ⟨by decide +kernel, rfl⟩
theorem d_Tokens_scanDigits_50 : DC m_Tokens_scanDigits 50 (.iload 4) 2 52 := ⟨by decide +kernel, rfl⟩
theorem d_Tokens_scanDigits_52 : DC m_Tokens_scanDigits 52 (.iload_n 3) 1 53 := ⟨by decide +kernel, rfl⟩
theorem d_Tokens_scanDigits_53 : DC m_Tokens_scanDigits 53 .isub 1 54 := ⟨by decide +kernel, rfl⟩
theorem d_Tokens_scanDigits_54 : DC m_Tokens_scanDigits 54 (.iconst 2) 1 55 := ⟨by decide +kernel, rfl⟩
theorem d_Tokens_scanDigits_55 : DC m_Tokens_scanDigits 55 (.if_icmp .le 7) 3 58 := ⟨by decide +kernel, rfl⟩
theorem d_Tokens_scanDigits_58 : DC m_Tokens_scanDigits 58 (.iconst 1) 1 59 := ⟨by decide +kernel, rfl⟩
theorem d_Tokens_scanDigits_59 : DC m_Tokens_scanDigits 59 (.goto 4) 3 62 := ⟨by decide +kernel, rfl⟩
theorem d_Tokens_scanDigits_62 : DC m_Tokens_scanDigits 62 (.iconst 3) 1 63 := ⟨by decide +kernel, rfl⟩
theorem d_Tokens_scanDigits_63 : DC m_Tokens_scanDigits 63 (.iload_n 3) 1 64 := ⟨by decide +kernel, rfl⟩
theorem d_Tokens_scanDigits_64 : DC m_Tokens_scanDigits 64 (.iload 5) 2 66 := ⟨by decide +kernel, rfl⟩
theorem d_Tokens_scanDigits_66 : DC m_Tokens_scanDigits 66 .i2l 1 67 := ⟨by decide +kernel, rfl⟩
theorem d_Tokens_scanDigits_67 : DC m_Tokens_scanDigits 67 (.invokevirtual 76) 3 70 := ⟨by decide +kernel, rfl⟩
theorem d_Tokens_scanDigits_70 : DC m_Tokens_scanDigits 70 (.iload 4) 2 72 := ⟨by decide +kernel, rfl⟩
theorem d_Tokens_scanDigits_72 : DC m_Tokens_scanDigits 72 .ireturn 1 73 := ⟨by decide +kernel, rfl⟩
def f_Tokens_scanDigits_63 (n : Nat) (x3 : Int32) (x4 : Int32) (x5 : Int32) (s0 : Nat) (s1 : Int32) (M : MM) : Option (Int32 × MM) :=
  (f_Tokens_add n s0 s1 x3 (x5.toInt64) M).bind fun M1 =>
  some (x4, M1)
theorem t_Tokens_scanDigits_63 (n : Nat) (x3 : Int32) (x4 : Int32) (x5 : Int32) (s0 : Nat) (s1 : Int32) (M : MM) (z : Int32 × MM) (h : f_Tokens_scanDigits_63 n x3 x4 x5 s0 s1 M = some z) : EV m_Tokens_scanDigits (rm 2 0 0) (some (.int z.1)) z.2 0 0 63 [none, none, none, some (.int x3), some (.int x4), some (.int x5)] [.int s1, .ref s0] M := by
  unfold f_Tokens_scanDigits_63 at h
  refine e_iload_n d_Tokens_scanDigits_63 rfl ?_
  refine e_iload d_Tokens_scanDigits_64 rfl ?_
  refine e_i2l d_Tokens_scanDigits_66 ?_
  obtain ⟨M1, hM1, h⟩ := bnd h
  refine e_cVv (mt1 := m_Tokens_add) (As := [.int s1, .int x3, .long (x5.toInt64)]) (st := []) d_Tokens_scanDigits_67 ml_Tokens_76 mv_Tokens_add (t_Tokens_add n s0 s1 x3 (x5.toInt64) M M1 hM1) (fc_Tokens_add hM1) rfl rfl rfl (okp rfl) (okp rfl) (okp rfl) (Nat.le_refl _) (Nat.le_refl _) ?_
  refine e_iload d_Tokens_scanDigits_70 rfl ?_
  cases h
  exact e_iret d_Tokens_scanDigits_72 rfl (Nat.le_refl _) (Nat.le_refl _)
def f_Tokens_scanDigits_49 (n : Nat) (x0 : Nat) (x3 : Int32) (x4 : Int32) (x5 : Int32) (M : MM) : Option (Int32 × MM) :=
  if (x4 - x3) ≤ 2 then
    f_Tokens_scanDigits_63 n x3 x4 x5 x0 3 M
  else
    f_Tokens_scanDigits_63 n x3 x4 x5 x0 1 M
theorem t_Tokens_scanDigits_49 (n : Nat) (x0 : Nat) (x3 : Int32) (x4 : Int32) (x5 : Int32) (M : MM) (z : Int32 × MM) (h : f_Tokens_scanDigits_49 n x0 x3 x4 x5 M = some z) : EV m_Tokens_scanDigits (rm 2 0 0) (some (.int z.1)) z.2 0 0 49 [some (.ref x0), none, none, some (.int x3), some (.int x4), some (.int x5)] [] M := by
  unfold f_Tokens_scanDigits_49 at h
  refine e_aload_n d_Tokens_scanDigits_49 rfl ?_
  refine e_iload d_Tokens_scanDigits_50 rfl ?_
  refine e_iload_n d_Tokens_scanDigits_52 rfl ?_
  refine e_isub d_Tokens_scanDigits_53 ?_
  refine e_iconst (v := 2) d_Tokens_scanDigits_54 (by decide) ?_
  refine e_ic_le 62 d_Tokens_scanDigits_55 (by decide) (fun c2 => ?_) (fun c2 => ?_)
  · replace h := ift c2 h
    refine e_iconst (v := 3) d_Tokens_scanDigits_62 (by decide) ?_
    exact (t_Tokens_scanDigits_63 n x3 x4 x5 x0 3 M z h).less (show LSub _ _ from ⟨rfl, ⟨rfl, ⟨rfl, trivial⟩⟩⟩)
  · replace h := ifn c2 h
    refine e_iconst (v := 1) d_Tokens_scanDigits_58 (by decide) ?_
    refine e_goto 63 d_Tokens_scanDigits_59 (by decide) ?_
    exact (t_Tokens_scanDigits_63 n x3 x4 x5 x0 1 M z h).less (show LSub _ _ from ⟨rfl, ⟨rfl, ⟨rfl, trivial⟩⟩⟩)
def f_Tokens_scanDigits_6 (n : Nat) (k_49 : Nat → Int32 → Int32 → Int32 → MM → Option (Int32 × MM)) : Nat → Nat → Nat → Int32 → Int32 → Int32 → Int32 → MM → Option (Int32 × MM)
  | 0, _, _, _, _, _, _, _ => none
  | m + 1, x0, x1, x2, x3, x4, x5, M =>
    if x2 ≤ x4 then
      k_49 x0 x3 x4 x5 M
    else
      (f_Tokens_byteAt n x1 x2 x4 M).bind fun p4 =>
      (f_Tokens_isDigit n p4.1 p4.2).bind fun p5 =>
      if p5.1 = 0 then
        k_49 x0 x3 x4 x5 p5.2
      else
        (f_Tokens_byteAt n x1 x2 x4 p5.2).bind fun p7 =>
        nm (α := Int32) (((10 * x5) + p7.1) - 48) fun y8 =>
        f_Tokens_scanDigits_6 n k_49 m x0 x1 x2 x3 (x4 + 1) y8 p7.2
theorem t_Tokens_scanDigits_6 (n : Nat) {k_49 : Nat → Int32 → Int32 → Int32 → MM → Option (Int32 × MM)} (hk_49 : ∀ (x0 : Nat) (x3 : Int32) (x4 : Int32) (x5 : Int32) (M : MM) (z : Int32 × MM), k_49 x0 x3 x4 x5 M = some z → EV m_Tokens_scanDigits (rm 2 0 0) (some (.int z.1)) z.2 0 0 49 [some (.ref x0), none, none, some (.int x3), some (.int x4), some (.int x5)] [] M) : ∀ (m : Nat) (x0 : Nat) (x1 : Nat) (x2 : Int32) (x3 : Int32) (x4 : Int32) (x5 : Int32) (M : MM) (z : Int32 × MM), f_Tokens_scanDigits_6 n k_49 m x0 x1 x2 x3 x4 x5 M = some z → EV m_Tokens_scanDigits (rm 2 0 0) (some (.int z.1)) z.2 0 0 6 [some (.ref x0), some (.ref x1), some (.int x2), some (.int x3), some (.int x4), some (.int x5)] [] M := by
  intro m
  induction m with
  | zero => intro x0 x1 x2 x3 x4 x5 M z h; cases h
  | succ m ih =>
    intro x0 x1 x2 x3 x4 x5 M z h
    rw [f_Tokens_scanDigits_6] at h
    refine e_iload d_Tokens_scanDigits_6 rfl ?_
    refine e_iload_n d_Tokens_scanDigits_8 rfl ?_
    refine e_ic_ge 49 d_Tokens_scanDigits_9 (by decide) (fun c3 => ?_) (fun c3 => ?_)
    · replace h := ift c3 h
      exact (hk_49 x0 x3 x4 x5 M z h).less (show LSub _ _ from ⟨rfl, ⟨rfl, ⟨rfl, ⟨rfl, trivial⟩⟩⟩⟩)
    · replace h := ifn c3 h
      refine e_aload_n d_Tokens_scanDigits_12 rfl ?_
      refine e_iload_n d_Tokens_scanDigits_13 rfl ?_
      refine e_iload d_Tokens_scanDigits_14 rfl ?_
      obtain ⟨p4, hp4, h⟩ := bnd h
      refine e_cSi (mt1 := m_Tokens_byteAt) (As := [.ref x1, .int x2, .int x4]) (st := []) d_Tokens_scanDigits_16 ml_Tokens_50 ms_Tokens_byteAt (t_Tokens_byteAt n x1 x2 x4 M p4 hp4) rfl rfl (okp rfl) (okp rfl) (okp rfl) (Nat.le_refl _) (Nat.le_refl _) ?_
      obtain ⟨p5, hp5, h⟩ := bnd h
      refine e_cSi (mt1 := m_Tokens_isDigit) (As := [.int p4.1]) (st := []) d_Tokens_scanDigits_19 ml_Tokens_64 ms_Tokens_isDigit (t_Tokens_isDigit n p4.1 p4.2 p5 hp5) rfl rfl (okp rfl) (okp rfl) (okp rfl) (Nat.le_refl _) (Nat.le_refl _) ?_
      refine e_if_eq 49 d_Tokens_scanDigits_22 (by decide) (fun c6 => ?_) (fun c6 => ?_)
      · replace h := ift c6 h
        exact (hk_49 x0 x3 x4 x5 p5.2 z h).less (show LSub _ _ from ⟨rfl, ⟨rfl, ⟨rfl, ⟨rfl, trivial⟩⟩⟩⟩)
      · replace h := ifn c6 h
        refine e_bipush (v := 10) d_Tokens_scanDigits_25 (by decide) ?_
        refine e_iload d_Tokens_scanDigits_27 rfl ?_
        refine e_imul d_Tokens_scanDigits_29 ?_
        refine e_aload_n d_Tokens_scanDigits_30 rfl ?_
        refine e_iload_n d_Tokens_scanDigits_31 rfl ?_
        refine e_iload d_Tokens_scanDigits_32 rfl ?_
        obtain ⟨p7, hp7, h⟩ := bnd h
        refine e_cSi (mt1 := m_Tokens_byteAt) (As := [.ref x1, .int x2, .int x4]) (st := [.int (10 * x5)]) d_Tokens_scanDigits_34 ml_Tokens_50 ms_Tokens_byteAt (t_Tokens_byteAt n x1 x2 x4 p5.2 p7 hp7) rfl rfl (okp rfl) (okp rfl) (okp rfl) (Nat.le_refl _) (Nat.le_refl _) ?_
        refine e_iadd d_Tokens_scanDigits_37 ?_
        refine e_bipush (v := 48) d_Tokens_scanDigits_38 (by decide) ?_
        refine e_isub d_Tokens_scanDigits_40 ?_
        obtain ⟨y8, ey8, h⟩ := nm_s h
        refine e_nameI ey8 ?_
        refine e_istore (l2 := [some (.ref x0), some (.ref x1), some (.int x2), some (.int x3), some (.int x4), some (.int y8)]) d_Tokens_scanDigits_41 rfl (okl rfl) rfl ?_
        refine e_iinc (v := x4 + 1) (l2 := [some (.ref x0), some (.ref x1), some (.int x2), some (.int x3), some (.int (x4 + 1)), some (.int y8)]) d_Tokens_scanDigits_43 rfl rfl rfl (okl rfl) rfl ?_
        refine e_goto 6 d_Tokens_scanDigits_46 (by decide) ?_
        exact (ih x0 x1 x2 x3 (x4 + 1) y8 p7.2 z h).less (show LSub _ _ from ⟨rfl, ⟨rfl, ⟨rfl, ⟨rfl, ⟨rfl, ⟨rfl, trivial⟩⟩⟩⟩⟩⟩)
def f_Tokens_scanDigits (n : Nat) (x0 : Nat) (x1 : Nat) (x2 : Int32) (x3 : Int32) (M : MM) : Option (Int32 × MM) :=
  og 10 x0 M <|
  f_Tokens_scanDigits_6 n (f_Tokens_scanDigits_49 n) n x0 x1 x2 x3 x3 0 M
theorem fc_Tokens_scanDigits {n : Nat} {x0 : Nat} {x1 : Nat} {x2 : Int32} {x3 : Int32} {M : MM} {z : Int32 × MM} (h : f_Tokens_scanDigits n x0 x1 x2 x3 M = some z) : (M.1.2.1 x0).1 = 10 := by
  unfold f_Tokens_scanDigits at h
  exact (og_s h).1
theorem t_Tokens_scanDigits (n : Nat) (x0 : Nat) (x1 : Nat) (x2 : Int32) (x3 : Int32) (M : MM) (z : Int32 × MM) (h : f_Tokens_scanDigits n x0 x1 x2 x3 M = some z) : CT m_Tokens_scanDigits (rm 2 0 0) [.ref x0, .ref x1, .int x2, .int x3] M (some (.int z.1)) z.2 := by
  unfold f_Tokens_scanDigits at h
  obtain ⟨hthis, h⟩ := og_s h
  refine CT.of (ls := [some (.ref x0), some (.ref x1), some (.int x2), some (.int x3), none, none]) rfl (okp rfl) rfl ?_
  refine e_iload_n d_Tokens_scanDigits_0 rfl ?_
  refine e_istore (l2 := [some (.ref x0), some (.ref x1), some (.int x2), some (.int x3), some (.int x3), none]) d_Tokens_scanDigits_1 rfl (okl rfl) rfl ?_
  refine e_iconst (v := 0) d_Tokens_scanDigits_3 (by decide) ?_
  refine e_istore (l2 := [some (.ref x0), some (.ref x1), some (.int x2), some (.int x3), some (.int x3), some (.int 0)]) d_Tokens_scanDigits_4 rfl (okl rfl) rfl ?_
  exact (t_Tokens_scanDigits_6 n (t_Tokens_scanDigits_49 n) n x0 x1 x2 x3 x3 0 M z h).less (show LSub _ _ from ⟨rfl, ⟨rfl, ⟨rfl, ⟨rfl, ⟨rfl, ⟨rfl, trivial⟩⟩⟩⟩⟩⟩)
theorem d_Tokens_scan_0 : DC m_Tokens_scan 0 (.aload_n 0) 1 1 := ⟨by decide +kernel, rfl⟩
theorem d_Tokens_scan_1 : DC m_Tokens_scan 1 (.iconst 0) 1 2 := ⟨by decide +kernel, rfl⟩
theorem d_Tokens_scan_2 : DC m_Tokens_scan 2 (.putfield 22) 3 5 := ⟨by decide +kernel, rfl⟩
theorem d_Tokens_scan_5 : DC m_Tokens_scan 5 (.aload_n 0) 1 6 := ⟨by decide +kernel, rfl⟩
theorem d_Tokens_scan_6 : DC m_Tokens_scan 6 (.iload_n 2) 1 7 := ⟨by decide +kernel, rfl⟩
theorem d_Tokens_scan_7 : DC m_Tokens_scan 7 (.putfield 26) 3 10 := ⟨by decide +kernel, rfl⟩
theorem d_Tokens_scan_10 : DC m_Tokens_scan 10 (.aload_n 0) 1 11 := ⟨by decide +kernel, rfl⟩
theorem d_Tokens_scan_11 : DC m_Tokens_scan 11 (.iconst 0) 1 12 := ⟨by decide +kernel, rfl⟩
theorem d_Tokens_scan_12 : DC m_Tokens_scan 12 (.putfield 29) 3 15 := ⟨by decide +kernel, rfl⟩
theorem d_Tokens_scan_15 : DC m_Tokens_scan 15 (.aload_n 0) 1 16 := ⟨by decide +kernel, rfl⟩
theorem d_Tokens_scan_16 : DC m_Tokens_scan 16 (.iconst (-1)) 1 17 := ⟨by decide +kernel, rfl⟩
theorem d_Tokens_scan_17 : DC m_Tokens_scan 17 (.putfield 32) 3 20 := ⟨by decide +kernel, rfl⟩
theorem d_Tokens_scan_20 : DC m_Tokens_scan 20 (.iconst 0) 1 21 := ⟨by decide +kernel, rfl⟩
theorem d_Tokens_scan_21 : DC m_Tokens_scan 21 (.istore_n 3) 1 22 := ⟨by decide +kernel, rfl⟩
theorem d_Tokens_scan_22 : DC m_Tokens_scan 22 (.iconst 0) 1 23 := ⟨by decide +kernel, rfl⟩
theorem d_Tokens_scan_23 : DC m_Tokens_scan 23 (.istore 4) 2 25 := ⟨by decide +kernel, rfl⟩
theorem d_Tokens_scan_25 : DC m_Tokens_scan 25 (.iload 4) 2 27 := ⟨by decide +kernel, rfl⟩
theorem d_Tokens_scan_27 : DC m_Tokens_scan 27 (.iload_n 2) 1 28 := ⟨by decide +kernel, rfl⟩
theorem d_Tokens_scan_28 : DC m_Tokens_scan 28 (.if_icmp .ge 133) 3 31 := ⟨by decide +kernel, rfl⟩
theorem d_Tokens_scan_31 : DC m_Tokens_scan 31 (.iload_n 3) 1 32 := ⟨by decide +kernel, rfl⟩
theorem d_Tokens_scan_32 : DC m_Tokens_scan 32 (.iload_n 2) 1 33 := ⟨by decide +kernel, rfl⟩
theorem d_Tokens_scan_33 : DC m_Tokens_scan 33 (.if_icmp .ge 128) 3 36 := ⟨by decide +kernel, rfl⟩
theorem d_Tokens_scan_36 : DC m_Tokens_scan 36 (.aload_n 0) 1 37 := ⟨by decide +kernel, rfl⟩
theorem d_Tokens_scan_37 : DC m_Tokens_scan 37 (.getfield 22) 3 40 := ⟨by decide +kernel, rfl⟩
theorem d_Tokens_scan_40 : DC m_Tokens_scan 40 (.sipush 400) 3 43 := ⟨by decide +kernel, rfl⟩
theorem d_Tokens_scan_43 : DC m_Tokens_scan 43 (.if_icmp .gt 118) 3 46 := ⟨by decide +kernel, rfl⟩
theorem d_Tokens_scan_46 : DC m_Tokens_scan 46 (.aload_n 1) 1 47 := ⟨by decide +kernel, rfl⟩
theorem d_Tokens_scan_47 : DC m_Tokens_scan 47 (.iload_n 2) 1 48 := ⟨by decide +kernel, rfl⟩
theorem d_Tokens_scan_48 : DC m_Tokens_scan 48 (.iload_n 3) 1 49 := ⟨by decide +kernel, rfl⟩
theorem d_Tokens_scan_49 : DC m_Tokens_scan 49 (.invokestatic 50) 3 52 := ⟨by decide +kernel, rfl⟩
theorem d_Tokens_scan_52 : DC m_Tokens_scan 52 (.istore 5) 2 54 := ⟨by decide +kernel, rfl⟩
theorem d_Tokens_scan_54 : DC m_Tokens_scan 54 (.iload 5) 2 56 := ⟨by decide +kernel, rfl⟩
theorem d_Tokens_scan_56 : DC m_Tokens_scan 56 (.invokestatic 54) 3 59 := ⟨by decide +kernel, rfl⟩
theorem d_Tokens_scan_59 : DC m_Tokens_scan 59 (.ifCond .eq 9) 3 62 := ⟨by decide +kernel, rfl⟩
theorem d_Tokens_scan_62 : DC m_Tokens_scan 62 (.iinc 3 1) 3 65 := ⟨by decide +kernel, rfl⟩
theorem d_Tokens_scan_65 : DC m_Tokens_scan 65 (.goto 67) 3 68 := ⟨by decide +kernel, rfl⟩
theorem d_Tokens_scan_68 : DC m_Tokens_scan 68 (.iload 5) 2 70 := ⟨by decide +kernel, rfl⟩
theorem d_Tokens_scan_70 : DC m_Tokens_scan 70 (.invokestatic 58) 3 73 := ⟨by decide +kernel, rfl⟩
theorem d_Tokens_scan_73 : DC m_Tokens_scan 73 (.ifCond .eq 14) 3 76 := ⟨by decide +kernel, rfl⟩
theorem d_Tokens_scan_76 : DC m_Tokens_scan 76 (.aload_n 0) 1 77 := ⟨by decide +kernel, rfl⟩
theorem d_Tokens_scan_77 : DC m_Tokens_scan 77 (.aload_n 1) 1 78 := ⟨by decide +kernel, rfl⟩
theorem d_Tokens_scan_78 : DC m_Tokens_scan 78 (.iload_n 2) 1 79 := ⟨by decide +kernel, rfl⟩
theorem d_Tokens_scan_79 : DC m_Tokens_scan 79 (.iload_n 3) 1 80 := ⟨by decide +kernel, rfl⟩
theorem d_Tokens_scan_80 : DC m_Tokens_scan 80 (.invokevirtual 61) 3 83 := ⟨by decide +kernel, rfl⟩
theorem d_Tokens_scan_83 : DC m_Tokens_scan 83 (.istore_n 3) 1 84 := ⟨by decide +kernel, rfl⟩
theorem d_Tokens_scan_84 : DC m_Tokens_scan 84 (.goto 48) 3 87 := ⟨by decide +kernel, rfl⟩
theorem d_Tokens_scan_87 : DC m_Tokens_scan 87 (.iload 5) 2 89 := ⟨by decide +kernel, rfl⟩
theorem d_Tokens_scan_89 : DC m_Tokens_scan 89 (.invokestatic 64) 3 92 := ⟨by decide +kernel, rfl⟩
theorem d_Tokens_scan_92 : DC m_Tokens_scan 92 (.ifCond .eq 14) 3 95 := ⟨by decide +kernel, rfl⟩
theorem d_Tokens_scan_95 : DC m_Tokens_scan 95 (.aload_n 0) 1 96 := ⟨by decide +kernel, rfl⟩
theorem d_Tokens_scan_96 : DC m_Tokens_scan 96 (.aload_n 1) 1 97 := ⟨by decide +kernel, rfl⟩
theorem d_Tokens_scan_97 : DC m_Tokens_scan 97 (.iload_n 2) 1 98 := ⟨by decide +kernel, rfl⟩
theorem d_Tokens_scan_98 : DC m_Tokens_scan 98 (.iload_n 3) 1 99 := ⟨by decide +kernel, rfl⟩
theorem d_Tokens_scan_99 : DC m_Tokens_scan 99 (.invokevirtual 67) 3 102 := ⟨by decide +kernel, rfl⟩
theorem d_Tokens_scan_102 : DC m_Tokens_scan 102 (.istore_n 3) 1 103 := ⟨by decide +kernel, rfl⟩
theorem d_Tokens_scan_103 : DC m_Tokens_scan 103 (.goto 29) 3 106 := ⟨by decide +kernel, rfl⟩
theorem d_Tokens_scan_106 : DC m_Tokens_scan 106 (.aload_n 0) 1 107 := ⟨by decide +kernel, rfl⟩
theorem d_Tokens_scan_107 : DC m_Tokens_scan 107 (.ldc 70) 2 109 := ⟨by decide +kernel, rfl⟩
theorem d_Tokens_scan_109 : DC m_Tokens_scan 109 (.iload 5) 2 111 := ⟨by decide +kernel, rfl⟩
theorem d_Tokens_scan_111 : DC m_Tokens_scan 111 .i2c 1 112 := ⟨by decide +kernel, rfl⟩
theorem d_Tokens_scan_112 : DC m_Tokens_scan 112 (.invokevirtual 72) 3 115 := ⟨by decide +kernel, rfl⟩
theorem d_Tokens_scan_115 : DC m_Tokens_scan 115 (.ifCond .lt 8) 3 118 := ⟨by decide +kernel, rfl⟩
theorem d_Tokens_scan_118 : DC m_Tokens_scan 118 (.iload 5) 2 120 := ⟨by decide +kernel, rfl⟩
theorem d_Tokens_scan_120 : DC m_Tokens_scan 120 (.goto 4) 3 123 := ⟨by decide +kernel, rfl⟩
theorem d_Tokens_scan_123 : DC m_Tokens_scan 123 (.iconst 1) 1 124 := ⟨by decide +kernel, rfl⟩
theorem d_Tokens_scan_124 : DC m_Tokens_scan 124 (.iload_n 3) 1 125 := ⟨by decide +kernel, rfl⟩
theorem d_Tokens_scan_125 : DC m_Tokens_scan 125 (.lconst 0) 1 126 := ⟨by decide +kernel, rfl⟩
theorem d_Tokens_scan_126 : DC m_Tokens_scan 126 (.invokevirtual 76) 3 129 := ⟨by decide +kernel, rfl⟩
theorem d_Tokens_scan_129 : DC m_Tokens_scan 129 (.iinc 3 1) 3 132 := ⟨by decide +kernel, rfl⟩
theorem d_Tokens_scan_132 : DC m_Tokens_scan 132 (.aload_n 0) 1 133 := ⟨by decide +kernel, rfl⟩
theorem d_Tokens_scan_133 : DC m_Tokens_scan 133 (.getfield 22) 3 136 := ⟨by decide +kernel, rfl⟩
theorem d_Tokens_scan_136 : DC m_Tokens_scan 136 (.ifCond .le 19) 3 139 := ⟨by decide +kernel, rfl⟩
theorem d_Tokens_scan_139 : DC m_Tokens_scan 139 (.aload_n 0) 1 140 := ⟨by decide +kernel, rfl⟩
theorem d_Tokens_scan_140 : DC m_Tokens_scan 140 (.getfield 11) 3 143 := ⟨by decide +kernel, rfl⟩
theorem d_Tokens_scan_143 : DC m_Tokens_scan 143 (.aload_n 0) 1 144 := ⟨by decide +kernel, rfl⟩
theorem d_Tokens_scan_144 : DC m_Tokens_scan 144 (.getfield 22) 3 147 := ⟨by decide +kernel, rfl⟩
theorem d_Tokens_scan_147 : DC m_Tokens_scan 147 (.iconst 1) 1 148 := ⟨by decide +kernel, rfl⟩
theorem d_Tokens_scan_148 : DC m_Tokens_scan 148 .isub 1 149 := ⟨by decide +kernel, rfl⟩
theorem d_Tokens_scan_149 : DC m_Tokens_scan 149 .iaload 1 150 := ⟨by decide +kernel, rfl⟩
theorem d_Tokens_scan_150 : DC m_Tokens_scan 150 (.iconst 1) 1 151 := ⟨by decide +kernel, rfl⟩
theorem d_Tokens_scan_151 : DC m_Tokens_scan 151 (.if_icmp .ne 4) 3 154 := ⟨by decide +kernel, rfl⟩
theorem d_Tokens_scan_154 : DC m_Tokens_scan 154 .return_ 1 155 := ⟨by decide +kernel, rfl⟩
theorem d_Tokens_scan_155 : DC m_Tokens_scan 155 (.iinc 4 1) 3 158 := ⟨by decide +kernel, rfl⟩
theorem d_Tokens_scan_158 : DC m_Tokens_scan 158 (.goto (-133)) 3 161 := ⟨by decide +kernel, rfl⟩
theorem d_Tokens_scan_161 : DC m_Tokens_scan 161 .return_ 1 162 := ⟨by decide +kernel, rfl⟩
def f_Tokens_scan_155 (n : Nat) (k_25 : Nat → Nat → Int32 → Int32 → Int32 → MM → Option (MM)) (x0 : Nat) (x1 : Nat) (x2 : Int32) (x3 : Int32) (x4 : Int32) (M : MM) : Option (MM) :=
  k_25 x0 x1 x2 x3 (x4 + 1) M
theorem t_Tokens_scan_155 (n : Nat) {k_25 : Nat → Nat → Int32 → Int32 → Int32 → MM → Option (MM)} (hk_25 : ∀ (x0 : Nat) (x1 : Nat) (x2 : Int32) (x3 : Int32) (x4 : Int32) (M : MM) (z : MM), k_25 x0 x1 x2 x3 x4 M = some z → EV m_Tokens_scan (rm 5 0 0) none z 0 0 25 [some (.ref x0), some (.ref x1), some (.int x2), some (.int x3), some (.int x4), none] [] M) (x0 : Nat) (x1 : Nat) (x2 : Int32) (x3 : Int32) (x4 : Int32) (M : MM) (z : MM) (h : f_Tokens_scan_155 n k_25 x0 x1 x2 x3 x4 M = some z) : EV m_Tokens_scan (rm 5 0 0) none z 0 0 155 [some (.ref x0), some (.ref x1), some (.int x2), some (.int x3), some (.int x4), none] [] M := by
  unfold f_Tokens_scan_155 at h
  refine e_iinc (v := x4 + 1) (l2 := [some (.ref x0), some (.ref x1), some (.int x2), some (.int x3), some (.int (x4 + 1)), none]) d_Tokens_scan_155 rfl rfl rfl (okl rfl) rfl ?_
  refine e_goto 25 d_Tokens_scan_158 (by decide) ?_
  exact (hk_25 x0 x1 x2 x3 (x4 + 1) M z h).less (show LSub _ _ from ⟨rfl, ⟨rfl, ⟨rfl, ⟨rfl, ⟨rfl, trivial⟩⟩⟩⟩⟩)
def f_Tokens_scan_132 (n : Nat) (k_25 : Nat → Nat → Int32 → Int32 → Int32 → MM → Option (MM)) (x0 : Nat) (x1 : Nat) (x2 : Int32) (x3 : Int32) (x4 : Int32) (M : MM) : Option (MM) :=
  (gI 10 3 x0 M).bind fun v1 =>
  if v1 ≤ 0 then
    f_Tokens_scan_155 n k_25 x0 x1 x2 x3 x4 M
  else
    (gR 10 0 x0 M).bind fun v3 =>
    (gI 10 3 x0 M).bind fun v4 =>
    (aI 100 v3 (v4 - 1) M).bind fun v5 =>
    if v5 = 1 then
      some M
    else
      f_Tokens_scan_155 n k_25 x0 x1 x2 x3 x4 M
theorem t_Tokens_scan_132 (n : Nat) {k_25 : Nat → Nat → Int32 → Int32 → Int32 → MM → Option (MM)} (hk_25 : ∀ (x0 : Nat) (x1 : Nat) (x2 : Int32) (x3 : Int32) (x4 : Int32) (M : MM) (z : MM), k_25 x0 x1 x2 x3 x4 M = some z → EV m_Tokens_scan (rm 5 0 0) none z 0 0 25 [some (.ref x0), some (.ref x1), some (.int x2), some (.int x3), some (.int x4), none] [] M) (x0 : Nat) (x1 : Nat) (x2 : Int32) (x3 : Int32) (x4 : Int32) (M : MM) (z : MM) (h : f_Tokens_scan_132 n k_25 x0 x1 x2 x3 x4 M = some z) : EV m_Tokens_scan (rm 5 0 0) none z 0 0 132 [some (.ref x0), some (.ref x1), some (.int x2), some (.int x3), some (.int x4), none] [] M := by
  unfold f_Tokens_scan_132 at h
  refine e_aload_n d_Tokens_scan_132 rfl ?_
  obtain ⟨v1, hv1, h⟩ := bnd h
  refine e_getI d_Tokens_scan_133 fl_Tokens_22 (fun _ _ _ => rfl) hv1 ?_
  refine e_if_le 155 d_Tokens_scan_136 (by decide) (fun c2 => ?_) (fun c2 => ?_)
  · replace h := ift c2 h
    exact (t_Tokens_scan_155 n hk_25 x0 x1 x2 x3 x4 M z h).less (show LSub _ _ from ⟨rfl, ⟨rfl, ⟨rfl, ⟨rfl, ⟨rfl, trivial⟩⟩⟩⟩⟩)
  · replace h := ifn c2 h
    refine e_aload_n d_Tokens_scan_139 rfl ?_
    obtain ⟨v3, hv3, h⟩ := bnd h
    refine e_getR d_Tokens_scan_140 fl_Tokens_11 (fun _ _ _ => rfl) hv3 ?_
    refine e_aload_n d_Tokens_scan_143 rfl ?_
    obtain ⟨v4, hv4, h⟩ := bnd h
    refine e_getI d_Tokens_scan_144 fl_Tokens_22 (fun _ _ _ => rfl) hv4 ?_
    refine e_iconst (v := 1) d_Tokens_scan_147 (by decide) ?_
    refine e_isub d_Tokens_scan_148 ?_
    obtain ⟨v5, hv5, h⟩ := bnd h
    refine e_iald d_Tokens_scan_149 hv5 ?_
    refine e_iconst (v := 1) d_Tokens_scan_150 (by decide) ?_
    refine e_ic_ne 155 d_Tokens_scan_151 (by decide) (fun c6 => ?_) (fun c6 => ?_)
    · replace h := ifn c6 h
      exact (t_Tokens_scan_155 n hk_25 x0 x1 x2 x3 x4 M z h).less (show LSub _ _ from ⟨rfl, ⟨rfl, ⟨rfl, ⟨rfl, ⟨rfl, trivial⟩⟩⟩⟩⟩)
    · replace h := ift c6 h
      cases h
      exact e_vret d_Tokens_scan_154 rfl (Nat.le_refl _) (Nat.le_refl _)
def f_Tokens_scan_124 (n : Nat) (k_25 : Nat → Nat → Int32 → Int32 → Int32 → MM → Option (MM)) (x0 : Nat) (x1 : Nat) (x2 : Int32) (x3 : Int32) (x4 : Int32) (s0 : Nat) (s1 : Int32) (M : MM) : Option (MM) :=
  (f_Tokens_add n s0 s1 x3 0 M).bind fun M7 =>
  f_Tokens_scan_132 n k_25 x0 x1 x2 (x3 + 1) x4 M7
theorem t_Tokens_scan_124 (n : Nat) {k_25 : Nat → Nat → Int32 → Int32 → Int32 → MM → Option (MM)} (hk_25 : ∀ (x0 : Nat) (x1 : Nat) (x2 : Int32) (x3 : Int32) (x4 : Int32) (M : MM) (z : MM), k_25 x0 x1 x2 x3 x4 M = some z → EV m_Tokens_scan (rm 5 0 0) none z 0 0 25 [some (.ref x0), some (.ref x1), some (.int x2), some (.int x3), some (.int x4), none] [] M) (x0 : Nat) (x1 : Nat) (x2 : Int32) (x3 : Int32) (x4 : Int32) (s0 : Nat) (s1 : Int32) (M : MM) (z : MM) (h : f_Tokens_scan_124 n k_25 x0 x1 x2 x3 x4 s0 s1 M = some z) : EV m_Tokens_scan (rm 5 0 0) none z 0 0 124 [some (.ref x0), some (.ref x1), some (.int x2), some (.int x3), some (.int x4), none] [.int s1, .ref s0] M := by
  unfold f_Tokens_scan_124 at h
  refine e_iload_n d_Tokens_scan_124 rfl ?_
  refine e_lconst (v := 0) d_Tokens_scan_125 (by decide) ?_
  obtain ⟨M7, hM7, h⟩ := bnd h
  refine e_cVv (mt1 := m_Tokens_add) (As := [.int s1, .int x3, .long 0]) (st := []) d_Tokens_scan_126 ml_Tokens_76 mv_Tokens_add (t_Tokens_add n s0 s1 x3 0 M M7 hM7) (fc_Tokens_add hM7) rfl rfl rfl (okp rfl) (okp rfl) (okp rfl) (Nat.le_refl _) (Nat.le_refl _) ?_
  refine e_iinc (v := x3 + 1) (l2 := [some (.ref x0), some (.ref x1), some (.int x2), some (.int (x3 + 1)), some (.int x4), none]) d_Tokens_scan_129 rfl rfl rfl (okl rfl) rfl ?_
  exact (t_Tokens_scan_132 n hk_25 x0 x1 x2 (x3 + 1) x4 M7 z h).less (show LSub _ _ from ⟨rfl, ⟨rfl, ⟨rfl, ⟨rfl, ⟨rfl, trivial⟩⟩⟩⟩⟩)
def f_Tokens_scan_25 (n : Nat) : Nat → Nat → Nat → Int32 → Int32 → Int32 → MM → Option (MM)
  | 0, _, _, _, _, _, _ => none
  | m + 1, x0, x1, x2, x3, x4, M =>
    if x2 ≤ x4 then
      some M
    else
      if x2 ≤ x3 then
        some M
      else
        (gI 10 3 x0 M).bind fun v10 =>
        if 400 < v10 then
          some M
        else
          (f_Tokens_byteAt n x1 x2 x3 M).bind fun p12 =>
          (f_Tokens_isBlank n p12.1 p12.2).bind fun p13 =>
          if p13.1 = 0 then
            (f_Tokens_isLetter n p12.1 p13.2).bind fun p15 =>
            if p15.1 = 0 then
              (f_Tokens_isDigit n p12.1 p15.2).bind fun p17 =>
              if p17.1 = 0 then
                (f_Str_indexOf_1 n 1 ((p12.1.toUInt32 % 65536).toInt32) p17.2).bind fun p19 =>
                if p19.1 < 0 then
                  f_Tokens_scan_124 n (f_Tokens_scan_25 n m) x0 x1 x2 x3 x4 x0 1 p19.2
                else
                  f_Tokens_scan_124 n (f_Tokens_scan_25 n m) x0 x1 x2 x3 x4 x0 p12.1 p19.2
              else
                (f_Tokens_scanDigits n x0 x1 x2 x3 p17.2).bind fun p21 =>
                f_Tokens_scan_132 n (f_Tokens_scan_25 n m) x0 x1 x2 p21.1 x4 p21.2
            else
              (f_Tokens_scanLetters n x0 x1 x2 x3 p15.2).bind fun p22 =>
              f_Tokens_scan_132 n (f_Tokens_scan_25 n m) x0 x1 x2 p22.1 x4 p22.2
          else
            f_Tokens_scan_132 n (f_Tokens_scan_25 n m) x0 x1 x2 (x3 + 1) x4 p13.2
theorem t_Tokens_scan_25 (n : Nat) : ∀ (m : Nat) (x0 : Nat) (x1 : Nat) (x2 : Int32) (x3 : Int32) (x4 : Int32) (M : MM) (z : MM), f_Tokens_scan_25 n m x0 x1 x2 x3 x4 M = some z → EV m_Tokens_scan (rm 5 0 0) none z 0 0 25 [some (.ref x0), some (.ref x1), some (.int x2), some (.int x3), some (.int x4), none] [] M := by
  intro m
  induction m with
  | zero => intro x0 x1 x2 x3 x4 M z h; cases h
  | succ m ih =>
    intro x0 x1 x2 x3 x4 M z h
    rw [f_Tokens_scan_25] at h
    refine e_iload d_Tokens_scan_25 rfl ?_
    refine e_iload_n d_Tokens_scan_27 rfl ?_
    refine e_ic_ge 161 d_Tokens_scan_28 (by decide) (fun c8 => ?_) (fun c8 => ?_)
    · replace h := ift c8 h
      cases h
      exact e_vret d_Tokens_scan_161 rfl (Nat.le_refl _) (Nat.le_refl _)
    · replace h := ifn c8 h
      refine e_iload_n d_Tokens_scan_31 rfl ?_
      refine e_iload_n d_Tokens_scan_32 rfl ?_
      refine e_ic_ge 161 d_Tokens_scan_33 (by decide) (fun c9 => ?_) (fun c9 => ?_)
      · replace h := ift c9 h
        cases h
        exact e_vret d_Tokens_scan_161 rfl (Nat.le_refl _) (Nat.le_refl _)
      · replace h := ifn c9 h
        refine e_aload_n d_Tokens_scan_36 rfl ?_
        obtain ⟨v10, hv10, h⟩ := bnd h
        refine e_getI d_Tokens_scan_37 fl_Tokens_22 (fun _ _ _ => rfl) hv10 ?_
        refine e_sipush (v := 400) d_Tokens_scan_40 (by decide) ?_
        refine e_ic_gt 161 d_Tokens_scan_43 (by decide) (fun c11 => ?_) (fun c11 => ?_)
        · replace h := ift c11 h
          cases h
          exact e_vret d_Tokens_scan_161 rfl (Nat.le_refl _) (Nat.le_refl _)
        · replace h := ifn c11 h
          refine e_aload_n d_Tokens_scan_46 rfl ?_
          refine e_iload_n d_Tokens_scan_47 rfl ?_
          refine e_iload_n d_Tokens_scan_48 rfl ?_
          obtain ⟨p12, hp12, h⟩ := bnd h
          refine e_cSi (mt1 := m_Tokens_byteAt) (As := [.ref x1, .int x2, .int x3]) (st := []) d_Tokens_scan_49 ml_Tokens_50 ms_Tokens_byteAt (t_Tokens_byteAt n x1 x2 x3 M p12 hp12) rfl rfl (okp rfl) (okp rfl) (okp rfl) (Nat.le_refl _) (Nat.le_refl _) ?_
          refine e_istore (l2 := [some (.ref x0), some (.ref x1), some (.int x2), some (.int x3), some (.int x4), some (.int p12.1)]) d_Tokens_scan_52 rfl (okl rfl) rfl ?_
          refine e_iload d_Tokens_scan_54 rfl ?_
          obtain ⟨p13, hp13, h⟩ := bnd h
          refine e_cSi (mt1 := m_Tokens_isBlank) (As := [.int p12.1]) (st := []) d_Tokens_scan_56 ml_Tokens_54 ms_Tokens_isBlank (t_Tokens_isBlank n p12.1 p12.2 p13 hp13) rfl rfl (okp rfl) (okp rfl) (okp rfl) (Nat.le_refl _) (Nat.le_refl _) ?_
          refine e_if_eq 68 d_Tokens_scan_59 (by decide) (fun c14 => ?_) (fun c14 => ?_)
          · replace h := ift c14 h
            refine e_iload d_Tokens_scan_68 rfl ?_
            obtain ⟨p15, hp15, h⟩ := bnd h
            refine e_cSi (mt1 := m_Tokens_isLetter) (As := [.int p12.1]) (st := []) d_Tokens_scan_70 ml_Tokens_58 ms_Tokens_isLetter (t_Tokens_isLetter n p12.1 p13.2 p15 hp15) rfl rfl (okp rfl) (okp rfl) (okp rfl) (Nat.le_refl _) (Nat.le_refl _) ?_
            refine e_if_eq 87 d_Tokens_scan_73 (by decide) (fun c16 => ?_) (fun c16 => ?_)
            · replace h := ift c16 h
              refine e_iload d_Tokens_scan_87 rfl ?_
              obtain ⟨p17, hp17, h⟩ := bnd h
              refine e_cSi (mt1 := m_Tokens_isDigit) (As := [.int p12.1]) (st := []) d_Tokens_scan_89 ml_Tokens_64 ms_Tokens_isDigit (t_Tokens_isDigit n p12.1 p15.2 p17 hp17) rfl rfl (okp rfl) (okp rfl) (okp rfl) (Nat.le_refl _) (Nat.le_refl _) ?_
              refine e_if_eq 106 d_Tokens_scan_92 (by decide) (fun c18 => ?_) (fun c18 => ?_)
              · replace h := ift c18 h
                refine e_aload_n d_Tokens_scan_106 rfl ?_
                refine e_ldcG d_Tokens_scan_107 rfl ?_
                refine e_iload d_Tokens_scan_109 rfl ?_
                refine e_i2c d_Tokens_scan_111 ?_
                obtain ⟨p19, hp19, h⟩ := bnd h
                refine e_cVXi (mt1 := m_Str_indexOf_1) (As := [.int ((p12.1.toUInt32 % 65536).toInt32)]) (st := [.ref x0]) d_Tokens_scan_112 ml_Tokens_72 mv_Str_indexOf_1 (t_Str_indexOf_1 n 1 ((p12.1.toUInt32 % 65536).toInt32) p17.2 p19 hp19) (fc_Str_indexOf_1 hp19) rfl rfl rfl (okp rfl) (okp rfl) (okp rfl) (Nat.le_refl _) (Nat.le_refl _) ?_
                refine e_if_lt 123 d_Tokens_scan_115 (by decide) (fun c20 => ?_) (fun c20 => ?_)
                · replace h := ift c20 h
                  refine e_iconst (v := 1) d_Tokens_scan_123 (by decide) ?_
                  exact (t_Tokens_scan_124 n ih x0 x1 x2 x3 x4 x0 1 p19.2 z h).less (show LSub _ _ from ⟨rfl, ⟨rfl, ⟨rfl, ⟨rfl, ⟨rfl, trivial⟩⟩⟩⟩⟩)
                · replace h := ifn c20 h
                  refine e_iload d_Tokens_scan_118 rfl ?_
                  refine e_goto 124 d_Tokens_scan_120 (by decide) ?_
                  exact (t_Tokens_scan_124 n ih x0 x1 x2 x3 x4 x0 p12.1 p19.2 z h).less (show LSub _ _ from ⟨rfl, ⟨rfl, ⟨rfl, ⟨rfl, ⟨rfl, trivial⟩⟩⟩⟩⟩)
              · replace h := ifn c18 h
                refine e_aload_n d_Tokens_scan_95 rfl ?_
                refine e_aload_n d_Tokens_scan_96 rfl ?_
                refine e_iload_n d_Tokens_scan_97 rfl ?_
                refine e_iload_n d_Tokens_scan_98 rfl ?_
                obtain ⟨p21, hp21, h⟩ := bnd h
                refine e_cVi (mt1 := m_Tokens_scanDigits) (As := [.ref x1, .int x2, .int x3]) (st := []) d_Tokens_scan_99 ml_Tokens_67 mv_Tokens_scanDigits (t_Tokens_scanDigits n x0 x1 x2 x3 p17.2 p21 hp21) (fc_Tokens_scanDigits hp21) rfl rfl rfl (okp rfl) (okp rfl) (okp rfl) (Nat.le_refl _) (Nat.le_refl _) ?_
                refine e_istore_n (l2 := [some (.ref x0), some (.ref x1), some (.int x2), some (.int p21.1), some (.int x4), some (.int p12.1)]) d_Tokens_scan_102 rfl (okl rfl) rfl ?_
                refine e_goto 132 d_Tokens_scan_103 (by decide) ?_
                exact (t_Tokens_scan_132 n ih x0 x1 x2 p21.1 x4 p21.2 z h).less (show LSub _ _ from ⟨rfl, ⟨rfl, ⟨rfl, ⟨rfl, ⟨rfl, trivial⟩⟩⟩⟩⟩)
            · replace h := ifn c16 h
              refine e_aload_n d_Tokens_scan_76 rfl ?_
              refine e_aload_n d_Tokens_scan_77 rfl ?_
              refine e_iload_n d_Tokens_scan_78 rfl ?_
              refine e_iload_n d_Tokens_scan_79 rfl ?_
              obtain ⟨p22, hp22, h⟩ := bnd h
              refine e_cVi (mt1 := m_Tokens_scanLetters) (As := [.ref x1, .int x2, .int x3]) (st := []) d_Tokens_scan_80 ml_Tokens_61 mv_Tokens_scanLetters (t_Tokens_scanLetters n x0 x1 x2 x3 p15.2 p22 hp22) (fc_Tokens_scanLetters hp22) rfl rfl rfl (okp rfl) (okp rfl) (okp rfl) (Nat.le_refl _) (Nat.le_refl _) ?_
              refine e_istore_n (l2 := [some (.ref x0), some (.ref x1), some (.int x2), some (.int p22.1), some (.int x4), some (.int p12.1)]) d_Tokens_scan_83 rfl (okl rfl) rfl ?_
              refine e_goto 132 d_Tokens_scan_84 (by decide) ?_
              exact (t_Tokens_scan_132 n ih x0 x1 x2 p22.1 x4 p22.2 z h).less (show LSub _ _ from ⟨rfl, ⟨rfl, ⟨rfl, ⟨rfl, ⟨rfl, trivial⟩⟩⟩⟩⟩)
          · replace h := ifn c14 h
            refine e_iinc (v := x3 + 1) (l2 := [some (.ref x0), some (.ref x1), some (.int x2), some (.int (x3 + 1)), some (.int x4), some (.int p12.1)]) d_Tokens_scan_62 rfl rfl rfl (okl rfl) rfl ?_
            refine e_goto 132 d_Tokens_scan_65 (by decide) ?_
            exact (t_Tokens_scan_132 n ih x0 x1 x2 (x3 + 1) x4 p13.2 z h).less (show LSub _ _ from ⟨rfl, ⟨rfl, ⟨rfl, ⟨rfl, ⟨rfl, trivial⟩⟩⟩⟩⟩)
def f_Tokens_scan (n : Nat) (x0 : Nat) (x1 : Nat) (x2 : Int32) (M : MM) : Option (MM) :=
  og 10 x0 M <|
  (pI 10 3 x0 0 M).bind fun M23 =>
  (pI 10 4 x0 x2 M23).bind fun M24 =>
  (pI 10 5 x0 0 M24).bind fun M25 =>
  (pI 10 6 x0 (-1) M25).bind fun M26 =>
  f_Tokens_scan_25 n n x0 x1 x2 0 0 M26
theorem fc_Tokens_scan {n : Nat} {x0 : Nat} {x1 : Nat} {x2 : Int32} {M : MM} {z : MM} (h : f_Tokens_scan n x0 x1 x2 M = some z) : (M.1.2.1 x0).1 = 10 := by
  unfold f_Tokens_scan at h
  exact (og_s h).1
theorem t_Tokens_scan (n : Nat) (x0 : Nat) (x1 : Nat) (x2 : Int32) (M : MM) (z : MM) (h : f_Tokens_scan n x0 x1 x2 M = some z) : CT m_Tokens_scan (rm 5 0 0) [.ref x0, .ref x1, .int x2] M none z := by
  unfold f_Tokens_scan at h
  obtain ⟨hthis, h⟩ := og_s h
  refine CT.of (ls := [some (.ref x0), some (.ref x1), some (.int x2), none, none, none]) rfl (okp rfl) rfl ?_
  refine e_aload_n d_Tokens_scan_0 rfl ?_
  refine e_iconst (v := 0) d_Tokens_scan_1 (by decide) ?_
  obtain ⟨M23, hM23, h⟩ := bnd h
  refine e_putI d_Tokens_scan_2 fl_Tokens_22 (Or.inl rfl) (fun _ _ _ => rfl) rfl hM23 ?_
  refine e_aload_n d_Tokens_scan_5 rfl ?_
  refine e_iload_n d_Tokens_scan_6 rfl ?_
  obtain ⟨M24, hM24, h⟩ := bnd h
  refine e_putI d_Tokens_scan_7 fl_Tokens_26 (Or.inl rfl) (fun _ _ _ => rfl) rfl hM24 ?_
  refine e_aload_n d_Tokens_scan_10 rfl ?_
  refine e_iconst (v := 0) d_Tokens_scan_11 (by decide) ?_
  obtain ⟨M25, hM25, h⟩ := bnd h
  refine e_putI d_Tokens_scan_12 fl_Tokens_29 (Or.inl rfl) (fun _ _ _ => rfl) rfl hM25 ?_
  refine e_aload_n d_Tokens_scan_15 rfl ?_
  refine e_iconst (v := (-1)) d_Tokens_scan_16 (by decide) ?_
  obtain ⟨M26, hM26, h⟩ := bnd h
  refine e_putI d_Tokens_scan_17 fl_Tokens_32 (Or.inl rfl) (fun _ _ _ => rfl) rfl hM26 ?_
  refine e_iconst (v := 0) d_Tokens_scan_20 (by decide) ?_
  refine e_istore_n (l2 := [some (.ref x0), some (.ref x1), some (.int x2), some (.int 0), none, none]) d_Tokens_scan_21 rfl (okl rfl) rfl ?_
  refine e_iconst (v := 0) d_Tokens_scan_22 (by decide) ?_
  refine e_istore (l2 := [some (.ref x0), some (.ref x1), some (.int x2), some (.int 0), some (.int 0), none]) d_Tokens_scan_23 rfl (okl rfl) rfl ?_
  exact (t_Tokens_scan_25 n n x0 x1 x2 0 0 M26 z h).less (show LSub _ _ from ⟨rfl, ⟨rfl, ⟨rfl, ⟨rfl, ⟨rfl, trivial⟩⟩⟩⟩⟩)
theorem d_Tokens_kindAt_0 : DC m_Tokens_kindAt 0 (.iload_n 1) 1 1 := ⟨by decide +kernel, rfl⟩
theorem d_Tokens_kindAt_1 : DC m_Tokens_kindAt 1 (.ifCond .lt 20) 3 4 := ⟨by decide +kernel, rfl⟩
theorem d_Tokens_kindAt_4 : DC m_Tokens_kindAt 4 (.iload_n 1) 1 5 := ⟨by decide +kernel, rfl⟩
theorem d_Tokens_kindAt_5 : DC m_Tokens_kindAt 5 (.aload_n 0) 1 6 := ⟨by decide +kernel, rfl⟩
theorem d_Tokens_kindAt_6 : DC m_Tokens_kindAt 6 (.getfield 22) 3 9 := ⟨by decide +kernel, rfl⟩
theorem d_Tokens_kindAt_9 : DC m_Tokens_kindAt 9 (.if_icmp .ge 12) 3 12 := ⟨by decide +kernel, rfl⟩
theorem d_Tokens_kindAt_12 : DC m_Tokens_kindAt 12 (.aload_n 0) 1 13 := ⟨by decide +kernel, rfl⟩
theorem d_Tokens_kindAt_13 : DC m_Tokens_kindAt 13 (.getfield 11) 3 16 := ⟨by decide +kernel, rfl⟩
theorem d_Tokens_kindAt_16 : DC m_Tokens_kindAt 16 (.iload_n 1) 1 17 := ⟨by decide +kernel, rfl⟩
theorem d_Tokens_kindAt_17 : DC m_Tokens_kindAt 17 .iaload 1 18 := ⟨by decide +kernel, rfl⟩
theorem d_Tokens_kindAt_18 : DC m_Tokens_kindAt 18 (.goto 4) 3 21 := ⟨by decide +kernel, rfl⟩
theorem d_Tokens_kindAt_21 : DC m_Tokens_kindAt 21 (.iconst 0) 1 22 := ⟨by decide +kernel, rfl⟩
theorem d_Tokens_kindAt_22 : DC m_Tokens_kindAt 22 .ireturn 1 23 := ⟨by decide +kernel, rfl⟩
def f_Tokens_kindAt (n : Nat) (x0 : Nat) (x1 : Int32) (M : MM) : Option (Int32 × MM) :=
  og 10 x0 M <|
  if x1 < 0 then
    some (0, M)
  else
    (gI 10 3 x0 M).bind fun v2 =>
    if v2 ≤ x1 then
      some (0, M)
    else
      (gR 10 0 x0 M).bind fun v4 =>
      (aI 100 v4 x1 M).bind fun v5 =>
      some (v5, M)
theorem fc_Tokens_kindAt {n : Nat} {x0 : Nat} {x1 : Int32} {M : MM} {z : Int32 × MM} (h : f_Tokens_kindAt n x0 x1 M = some z) : (M.1.2.1 x0).1 = 10 := by
  unfold f_Tokens_kindAt at h
  exact (og_s h).1
theorem t_Tokens_kindAt (n : Nat) (x0 : Nat) (x1 : Int32) (M : MM) (z : Int32 × MM) (h : f_Tokens_kindAt n x0 x1 M = some z) : CT m_Tokens_kindAt (rm 1 0 0) [.ref x0, .int x1] M (some (.int z.1)) z.2 := by
  unfold f_Tokens_kindAt at h
  obtain ⟨hthis, h⟩ := og_s h
  refine CT.of (ls := [some (.ref x0), some (.int x1)]) rfl (okp rfl) rfl ?_
  refine e_iload_n d_Tokens_kindAt_0 rfl ?_
  refine e_if_lt 21 d_Tokens_kindAt_1 (by decide) (fun c1 => ?_) (fun c1 => ?_)
  · replace h := ift c1 h
    refine e_iconst (v := 0) d_Tokens_kindAt_21 (by decide) ?_
    cases h
    exact e_iret d_Tokens_kindAt_22 rfl (Nat.le_refl _) (Nat.le_refl _)
  · replace h := ifn c1 h
    refine e_iload_n d_Tokens_kindAt_4 rfl ?_
    refine e_aload_n d_Tokens_kindAt_5 rfl ?_
    obtain ⟨v2, hv2, h⟩ := bnd h
    refine e_getI d_Tokens_kindAt_6 fl_Tokens_22 (fun _ _ _ => rfl) hv2 ?_
    refine e_ic_ge 21 d_Tokens_kindAt_9 (by decide) (fun c3 => ?_) (fun c3 => ?_)
    · replace h := ift c3 h
      refine e_iconst (v := 0) d_Tokens_kindAt_21 (by decide) ?_
      cases h
      exact e_iret d_Tokens_kindAt_22 rfl (Nat.le_refl _) (Nat.le_refl _)
    · replace h := ifn c3 h
      refine e_aload_n d_Tokens_kindAt_12 rfl ?_
      obtain ⟨v4, hv4, h⟩ := bnd h
      refine e_getR d_Tokens_kindAt_13 fl_Tokens_11 (fun _ _ _ => rfl) hv4 ?_
      refine e_iload_n d_Tokens_kindAt_16 rfl ?_
      obtain ⟨v5, hv5, h⟩ := bnd h
      refine e_iald d_Tokens_kindAt_17 hv5 ?_
      refine e_goto 22 d_Tokens_kindAt_18 (by decide) ?_
      cases h
      exact e_iret d_Tokens_kindAt_22 rfl (Nat.le_refl _) (Nat.le_refl _)
theorem d_Tokens_placeAt_0 : DC m_Tokens_placeAt 0 (.iload_n 1) 1 1 := ⟨by decide +kernel, rfl⟩
theorem d_Tokens_placeAt_1 : DC m_Tokens_placeAt 1 (.ifCond .lt 20) 3 4 := ⟨by decide +kernel, rfl⟩
theorem d_Tokens_placeAt_4 : DC m_Tokens_placeAt 4 (.iload_n 1) 1 5 := ⟨by decide +kernel, rfl⟩
theorem d_Tokens_placeAt_5 : DC m_Tokens_placeAt 5 (.aload_n 0) 1 6 := ⟨by decide +kernel, rfl⟩
theorem d_Tokens_placeAt_6 : DC m_Tokens_placeAt 6 (.getfield 22) 3 9 := ⟨by decide +kernel, rfl⟩
theorem d_Tokens_placeAt_9 : DC m_Tokens_placeAt 9 (.if_icmp .ge 12) 3 12 := ⟨by decide +kernel, rfl⟩
theorem d_Tokens_placeAt_12 : DC m_Tokens_placeAt 12 (.aload_n 0) 1 13 := ⟨by decide +kernel, rfl⟩
theorem d_Tokens_placeAt_13 : DC m_Tokens_placeAt 13 (.getfield 15) 3 16 := ⟨by decide +kernel, rfl⟩
theorem d_Tokens_placeAt_16 : DC m_Tokens_placeAt 16 (.iload_n 1) 1 17 := ⟨by decide +kernel, rfl⟩
theorem d_Tokens_placeAt_17 : DC m_Tokens_placeAt 17 .iaload 1 18 := ⟨by decide +kernel, rfl⟩
theorem d_Tokens_placeAt_18 : DC m_Tokens_placeAt 18 (.goto 7) 3 21 := ⟨by decide +kernel, rfl⟩
theorem d_Tokens_placeAt_21 : DC m_Tokens_placeAt 21 (.aload_n 0) 1 22 := ⟨by decide +kernel, rfl⟩
theorem d_Tokens_placeAt_22 : DC m_Tokens_placeAt 22 (.getfield 26) 3 25 := ⟨by decide +kernel, rfl⟩
theorem d_Tokens_placeAt_25 : DC m_Tokens_placeAt 25 .ireturn 1 26 := ⟨by decide +kernel, rfl⟩
def f_Tokens_placeAt (n : Nat) (x0 : Nat) (x1 : Int32) (M : MM) : Option (Int32 × MM) :=
  og 10 x0 M <|
  if x1 < 0 then
    (gI 10 4 x0 M).bind fun v2 =>
    some (v2, M)
  else
    (gI 10 3 x0 M).bind fun v3 =>
    if v3 ≤ x1 then
      (gI 10 4 x0 M).bind fun v5 =>
      some (v5, M)
    else
      (gR 10 1 x0 M).bind fun v6 =>
      (aI 100 v6 x1 M).bind fun v7 =>
      some (v7, M)
theorem fc_Tokens_placeAt {n : Nat} {x0 : Nat} {x1 : Int32} {M : MM} {z : Int32 × MM} (h : f_Tokens_placeAt n x0 x1 M = some z) : (M.1.2.1 x0).1 = 10 := by
  unfold f_Tokens_placeAt at h
  exact (og_s h).1
theorem t_Tokens_placeAt (n : Nat) (x0 : Nat) (x1 : Int32) (M : MM) (z : Int32 × MM) (h : f_Tokens_placeAt n x0 x1 M = some z) : CT m_Tokens_placeAt (rm 1 0 0) [.ref x0, .int x1] M (some (.int z.1)) z.2 := by
  unfold f_Tokens_placeAt at h
  obtain ⟨hthis, h⟩ := og_s h
  refine CT.of (ls := [some (.ref x0), some (.int x1)]) rfl (okp rfl) rfl ?_
  refine e_iload_n d_Tokens_placeAt_0 rfl ?_
  refine e_if_lt 21 d_Tokens_placeAt_1 (by decide) (fun c1 => ?_) (fun c1 => ?_)
  · replace h := ift c1 h
    refine e_aload_n d_Tokens_placeAt_21 rfl ?_
    obtain ⟨v2, hv2, h⟩ := bnd h
    refine e_getI d_Tokens_placeAt_22 fl_Tokens_26 (fun _ _ _ => rfl) hv2 ?_
    cases h
    exact e_iret d_Tokens_placeAt_25 rfl (Nat.le_refl _) (Nat.le_refl _)
  · replace h := ifn c1 h
    refine e_iload_n d_Tokens_placeAt_4 rfl ?_
    refine e_aload_n d_Tokens_placeAt_5 rfl ?_
    obtain ⟨v3, hv3, h⟩ := bnd h
    refine e_getI d_Tokens_placeAt_6 fl_Tokens_22 (fun _ _ _ => rfl) hv3 ?_
    refine e_ic_ge 21 d_Tokens_placeAt_9 (by decide) (fun c4 => ?_) (fun c4 => ?_)
    · replace h := ift c4 h
      refine e_aload_n d_Tokens_placeAt_21 rfl ?_
      obtain ⟨v5, hv5, h⟩ := bnd h
      refine e_getI d_Tokens_placeAt_22 fl_Tokens_26 (fun _ _ _ => rfl) hv5 ?_
      cases h
      exact e_iret d_Tokens_placeAt_25 rfl (Nat.le_refl _) (Nat.le_refl _)
    · replace h := ifn c4 h
      refine e_aload_n d_Tokens_placeAt_12 rfl ?_
      obtain ⟨v6, hv6, h⟩ := bnd h
      refine e_getR d_Tokens_placeAt_13 fl_Tokens_15 (fun _ _ _ => rfl) hv6 ?_
      refine e_iload_n d_Tokens_placeAt_16 rfl ?_
      obtain ⟨v7, hv7, h⟩ := bnd h
      refine e_iald d_Tokens_placeAt_17 hv7 ?_
      refine e_goto 25 d_Tokens_placeAt_18 (by decide) ?_
      cases h
      exact e_iret d_Tokens_placeAt_25 rfl (Nat.le_refl _) (Nat.le_refl _)
theorem d_Tokens_blame_0 : DC m_Tokens_blame 0 (.aload_n 0) 1 1 := ⟨by decide +kernel, rfl⟩
theorem d_Tokens_blame_1 : DC m_Tokens_blame 1 (.iload_n 1) 1 2 := ⟨by decide +kernel, rfl⟩
theorem d_Tokens_blame_2 : DC m_Tokens_blame 2 (.putfield 29) 3 5 := ⟨by decide +kernel, rfl⟩
theorem d_Tokens_blame_5 : DC m_Tokens_blame 5 (.aload_n 0) 1 6 := ⟨by decide +kernel, rfl⟩
theorem d_Tokens_blame_6 : DC m_Tokens_blame 6 (.aload_n 0) 1 7 := ⟨by decide +kernel, rfl⟩
theorem d_Tokens_blame_7 : DC m_Tokens_blame 7 (.iload_n 2) 1 8 := ⟨by decide +kernel, rfl⟩
theorem d_Tokens_blame_8 : DC m_Tokens_blame 8 (.invokevirtual 84) 3 11 := ⟨by decide +kernel, rfl⟩
theorem d_Tokens_blame_11 : DC m_Tokens_blame 11 (.putfield 32) 3 14 := ⟨by decide +kernel, rfl⟩
theorem d_Tokens_blame_14 : DC m_Tokens_blame 14 .return_ 1 15 := ⟨by decide +kernel, rfl⟩
def f_Tokens_blame (n : Nat) (x0 : Nat) (x1 : Int32) (x2 : Int32) (M : MM) : Option (MM) :=
  og 10 x0 M <|
  (pI 10 5 x0 x1 M).bind fun M1 =>
  (f_Tokens_placeAt n x0 x2 M1).bind fun p2 =>
  (pI 10 6 x0 p2.1 p2.2).bind fun M3 =>
  some M3
theorem fc_Tokens_blame {n : Nat} {x0 : Nat} {x1 : Int32} {x2 : Int32} {M : MM} {z : MM} (h : f_Tokens_blame n x0 x1 x2 M = some z) : (M.1.2.1 x0).1 = 10 := by
  unfold f_Tokens_blame at h
  exact (og_s h).1
theorem t_Tokens_blame (n : Nat) (x0 : Nat) (x1 : Int32) (x2 : Int32) (M : MM) (z : MM) (h : f_Tokens_blame n x0 x1 x2 M = some z) : CT m_Tokens_blame (rm 2 0 0) [.ref x0, .int x1, .int x2] M none z := by
  unfold f_Tokens_blame at h
  obtain ⟨hthis, h⟩ := og_s h
  refine CT.of (ls := [some (.ref x0), some (.int x1), some (.int x2)]) rfl (okp rfl) rfl ?_
  refine e_aload_n d_Tokens_blame_0 rfl ?_
  refine e_iload_n d_Tokens_blame_1 rfl ?_
  obtain ⟨M1, hM1, h⟩ := bnd h
  refine e_putI d_Tokens_blame_2 fl_Tokens_29 (Or.inl rfl) (fun _ _ _ => rfl) rfl hM1 ?_
  refine e_aload_n d_Tokens_blame_5 rfl ?_
  refine e_aload_n d_Tokens_blame_6 rfl ?_
  refine e_iload_n d_Tokens_blame_7 rfl ?_
  obtain ⟨p2, hp2, h⟩ := bnd h
  refine e_cVi (mt1 := m_Tokens_placeAt) (As := [.int x2]) (st := [.ref x0]) d_Tokens_blame_8 ml_Tokens_84 mv_Tokens_placeAt (t_Tokens_placeAt n x0 x2 M1 p2 hp2) (fc_Tokens_placeAt hp2) rfl rfl rfl (okp rfl) (okp rfl) (okp rfl) (Nat.le_refl _) (Nat.le_refl _) ?_
  obtain ⟨M3, hM3, h⟩ := bnd h
  refine e_putI d_Tokens_blame_11 fl_Tokens_32 (Or.inl rfl) (fun _ _ _ => rfl) rfl hM3 ?_
  cases h
  exact e_vret d_Tokens_blame_14 rfl (Nat.le_refl _) (Nat.le_refl _)
theorem d_Tokens_valueAt_0 : DC m_Tokens_valueAt 0 (.iload_n 1) 1 1 := ⟨by decide +kernel, rfl⟩
theorem d_Tokens_valueAt_1 : DC m_Tokens_valueAt 1 (.ifCond .lt 20) 3 4 := ⟨by decide +kernel, rfl⟩
theorem d_Tokens_valueAt_4 : DC m_Tokens_valueAt 4 (.iload_n 1) 1 5 := ⟨by decide +kernel, rfl⟩
theorem d_Tokens_valueAt_5 : DC m_Tokens_valueAt 5 (.aload_n 0) 1 6 := ⟨by decide +kernel, rfl⟩
theorem d_Tokens_valueAt_6 : DC m_Tokens_valueAt 6 (.getfield 22) 3 9 := ⟨by decide +kernel, rfl⟩
theorem d_Tokens_valueAt_9 : DC m_Tokens_valueAt 9 (.if_icmp .ge 12) 3 12 := ⟨by decide +kernel, rfl⟩
theorem d_Tokens_valueAt_12 : DC m_Tokens_valueAt 12 (.aload_n 0) 1 13 := ⟨by decide +kernel, rfl⟩
theorem d_Tokens_valueAt_13 : DC m_Tokens_valueAt 13 (.getfield 18) 3 16 := ⟨by decide +kernel, rfl⟩
theorem d_Tokens_valueAt_16 : DC m_Tokens_valueAt 16 (.iload_n 1) 1 17 := ⟨by decide +kernel, rfl⟩
theorem d_Tokens_valueAt_17 : DC m_Tokens_valueAt 17 .laload 1 18 := ⟨by decide +kernel, rfl⟩
theorem d_Tokens_valueAt_18 : DC m_Tokens_valueAt 18 (.goto 4) 3 21 := ⟨by decide +kernel, rfl⟩
theorem d_Tokens_valueAt_21 : DC m_Tokens_valueAt 21 (.lconst 0) 1 22 := ⟨by decide +kernel, rfl⟩
theorem d_Tokens_valueAt_22 : DC m_Tokens_valueAt 22 .lreturn 1 23 := ⟨by decide +kernel, rfl⟩
def f_Tokens_valueAt (n : Nat) (x0 : Nat) (x1 : Int32) (M : MM) : Option (Int64 × MM) :=
  og 10 x0 M <|
  if x1 < 0 then
    some (0, M)
  else
    (gI 10 3 x0 M).bind fun v2 =>
    if v2 ≤ x1 then
      some (0, M)
    else
      (gR 10 2 x0 M).bind fun v4 =>
      (aL v4 x1 M).bind fun v5 =>
      some (v5, M)
theorem fc_Tokens_valueAt {n : Nat} {x0 : Nat} {x1 : Int32} {M : MM} {z : Int64 × MM} (h : f_Tokens_valueAt n x0 x1 M = some z) : (M.1.2.1 x0).1 = 10 := by
  unfold f_Tokens_valueAt at h
  exact (og_s h).1
theorem t_Tokens_valueAt (n : Nat) (x0 : Nat) (x1 : Int32) (M : MM) (z : Int64 × MM) (h : f_Tokens_valueAt n x0 x1 M = some z) : CT m_Tokens_valueAt (rm 1 0 0) [.ref x0, .int x1] M (some (.long z.1)) z.2 := by
  unfold f_Tokens_valueAt at h
  obtain ⟨hthis, h⟩ := og_s h
  refine CT.of (ls := [some (.ref x0), some (.int x1)]) rfl (okp rfl) rfl ?_
  refine e_iload_n d_Tokens_valueAt_0 rfl ?_
  refine e_if_lt 21 d_Tokens_valueAt_1 (by decide) (fun c1 => ?_) (fun c1 => ?_)
  · replace h := ift c1 h
    refine e_lconst (v := 0) d_Tokens_valueAt_21 (by decide) ?_
    cases h
    exact e_lret d_Tokens_valueAt_22 rfl (Nat.le_refl _) (Nat.le_refl _)
  · replace h := ifn c1 h
    refine e_iload_n d_Tokens_valueAt_4 rfl ?_
    refine e_aload_n d_Tokens_valueAt_5 rfl ?_
    obtain ⟨v2, hv2, h⟩ := bnd h
    refine e_getI d_Tokens_valueAt_6 fl_Tokens_22 (fun _ _ _ => rfl) hv2 ?_
    refine e_ic_ge 21 d_Tokens_valueAt_9 (by decide) (fun c3 => ?_) (fun c3 => ?_)
    · replace h := ift c3 h
      refine e_lconst (v := 0) d_Tokens_valueAt_21 (by decide) ?_
      cases h
      exact e_lret d_Tokens_valueAt_22 rfl (Nat.le_refl _) (Nat.le_refl _)
    · replace h := ifn c3 h
      refine e_aload_n d_Tokens_valueAt_12 rfl ?_
      obtain ⟨v4, hv4, h⟩ := bnd h
      refine e_getR d_Tokens_valueAt_13 fl_Tokens_18 (fun _ _ _ => rfl) hv4 ?_
      refine e_iload_n d_Tokens_valueAt_16 rfl ?_
      obtain ⟨v5, hv5, h⟩ := bnd h
      refine e_lald d_Tokens_valueAt_17 hv5 ?_
      refine e_goto 22 d_Tokens_valueAt_18 (by decide) ?_
      cases h
      exact e_lret d_Tokens_valueAt_22 rfl (Nat.le_refl _) (Nat.le_refl _)
