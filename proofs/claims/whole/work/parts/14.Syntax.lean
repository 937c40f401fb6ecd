theorem d_Syntax_behindTelling_0 : DC m_Syntax_behindTelling 0 (.iload_n 1) 1 1 := ⟨by decide +kernel, rfl⟩
theorem d_Syntax_behindTelling_1 : DC m_Syntax_behindTelling 1 (.bipush 10) 2 3 := ⟨by decide +kernel, rfl⟩
theorem d_Syntax_behindTelling_3 : DC m_Syntax_behindTelling 3 (.if_icmp .ne 15) 3 6 := ⟨by decide +kernel, rfl⟩
theorem d_Syntax_behindTelling_6 : DC m_Syntax_behindTelling 6 (.aload_n 0) 1 7 := ⟨by decide +kernel, rfl⟩
theorem d_Syntax_behindTelling_7 : DC m_Syntax_behindTelling 7 .dup 1 8 := ⟨by decide +kernel, rfl⟩
theorem d_Syntax_behindTelling_8 : DC m_Syntax_behindTelling 8 (.getfield 21) 3 11 := ⟨by decide +kernel, rfl⟩
theorem d_Syntax_behindTelling_11 : DC m_Syntax_behindTelling 11 (.iconst 1) 1 12 := ⟨by decide +kernel, rfl⟩
theorem d_Syntax_behindTelling_12 : DC m_Syntax_behindTelling 12 .iadd 1 13 := ⟨by decide +kernel, rfl⟩
theorem d_Syntax_behindTelling_13 : DC m_Syntax_behindTelling 13 (.putfield 21) 3 16 := ⟨by decide +kernel, rfl⟩
theorem d_Syntax_behindTelling_16 : DC m_Syntax_behindTelling 16 (.iconst 1) 1 17 := ⟨by decide +kernel, rfl⟩
theorem d_Syntax_behindTelling_17 : DC m_Syntax_behindTelling 17 .ireturn 1 18 := ⟨by decide +kernel, rfl⟩
theorem d_Syntax_behindTelling_18 : DC m_Syntax_behindTelling 18 (.iload_n 1) 1 19 := ⟨by decide +kernel, rfl⟩
theorem d_Syntax_behindTelling_19 : DC m_Syntax_behindTelling 19 (.bipush 11) 2 21 := ⟨by decide +kernel, rfl⟩
theorem d_Syntax_behindTelling_21 : DC m_Syntax_behindTelling 21 (.if_icmp .ne 15) 3 24 := ⟨by decide +kernel, rfl⟩
theorem d_Syntax_behindTelling_24 : DC m_Syntax_behindTelling 24 (.aload_n 0) 1 25 := ⟨by decide +kernel, rfl⟩
theorem d_Syntax_behindTelling_25 : DC m_Syntax_behindTelling 25 .dup 1 26 := ⟨by decide +kernel, rfl⟩
theorem d_Syntax_behindTelling_26 : DC m_Syntax_behindTelling 26 (.getfield 24) 3 29 := ⟨by decide +kernel, rfl⟩
theorem d_Syntax_behindTelling_29 : DC m_Syntax_behindTelling 29 (.iconst 1) 1 30 := ⟨by decide +kernel, rfl⟩
theorem d_Syntax_behindTelling_30 : DC m_Syntax_behindTelling 30 .iadd 1 31 := ⟨by decide +kernel, rfl⟩
theorem d_Syntax_behindTelling_31 : DC m_Syntax_behindTelling 31 (.putfield 24) 3 34 := ⟨by decide +kernel, rfl⟩
theorem d_Syntax_behindTelling_34 : DC m_Syntax_behindTelling 34 (.iconst 1) 1 35 := ⟨by decide +kernel, rfl⟩
theorem d_Syntax_behindTelling_35 : DC m_Syntax_behindTelling 35 .ireturn 1 36 := ⟨by decide +kernel, rfl⟩
theorem d_Syntax_behindTelling_36 : DC m_Syntax_behindTelling 36 (.bipush 8) 2 38 := ⟨by decide +kernel, rfl⟩
theorem d_Syntax_behindTelling_38 : DC m_Syntax_behindTelling 38 .ireturn 1 39 := ⟨by decide +kernel, rfl⟩
def f_Syntax_behindTelling (n : Nat) (x0 : Nat) (x1 : Int32) (M : MM) : Option (Int32 × MM) :=
  og 8 x0 M <|
  if x1 = 10 then
    (gI 8 3 x0 M).bind fun v2 =>
    (pI 8 3 x0 (v2 + 1) M).bind fun M3 =>
    some (1, M3)
  else
    if x1 = 11 then
      (gI 8 4 x0 M).bind fun v5 =>
      (pI 8 4 x0 (v5 + 1) M).bind fun M6 =>
      some (1, M6)
    else
      some (8, M)
theorem fc_Syntax_behindTelling {n : Nat} {x0 : Nat} {x1 : Int32} {M : MM} {z : Int32 × MM} (h : f_Syntax_behindTelling n x0 x1 M = some z) : (M.1.2.1 x0).1 = 8 := by
  unfold f_Syntax_behindTelling at h
  exact (og_s h).1
theorem t_Syntax_behindTelling (n : Nat) (x0 : Nat) (x1 : Int32) (M : MM) (z : Int32 × MM) (h : f_Syntax_behindTelling n x0 x1 M = some z) : CT m_Syntax_behindTelling (rm 1 0 0) [.ref x0, .int x1] M (some (.int z.1)) z.2 := by
  unfold f_Syntax_behindTelling at h
  obtain ⟨hthis, h⟩ := og_s h
  refine CT.of (ls := [some (.ref x0), some (.int x1)]) rfl (okp rfl) rfl ?_
  refine e_iload_n d_Syntax_behindTelling_0 rfl ?_
  refine e_bipush (v := 10) d_Syntax_behindTelling_1 (by decide) ?_
  refine e_ic_ne 18 d_Syntax_behindTelling_3 (by decide) (fun c1 => ?_) (fun c1 => ?_)
  · replace h := ifn c1 h
    refine e_iload_n d_Syntax_behindTelling_18 rfl ?_
    refine e_bipush (v := 11) d_Syntax_behindTelling_19 (by decide) ?_
    refine e_ic_ne 36 d_Syntax_behindTelling_21 (by decide) (fun c4 => ?_) (fun c4 => ?_)
    · replace h := ifn c4 h
      refine e_bipush (v := 8) d_Syntax_behindTelling_36 (by decide) ?_
      cases h
      exact e_iret d_Syntax_behindTelling_38 rfl (Nat.le_refl _) (Nat.le_refl _)
    · replace h := ift c4 h
      refine e_aload_n d_Syntax_behindTelling_24 rfl ?_
      refine e_dup d_Syntax_behindTelling_25 rfl ?_
      obtain ⟨v5, hv5, h⟩ := bnd h
      refine e_getI d_Syntax_behindTelling_26 fl_Syntax_24 (fun _ _ _ => rfl) hv5 ?_
      refine e_iconst (v := 1) d_Syntax_behindTelling_29 (by decide) ?_
      refine e_iadd d_Syntax_behindTelling_30 ?_
      obtain ⟨M6, hM6, h⟩ := bnd h
      refine e_putI d_Syntax_behindTelling_31 fl_Syntax_24 (Or.inl rfl) (fun _ _ _ => rfl) rfl hM6 ?_
      refine e_iconst (v := 1) d_Syntax_behindTelling_34 (by decide) ?_
      cases h
      exact e_iret d_Syntax_behindTelling_35 rfl (Nat.le_refl _) (Nat.le_refl _)
  · replace h := ift c1 h
    refine e_aload_n d_Syntax_behindTelling_6 rfl ?_
    refine e_dup d_Syntax_behindTelling_7 rfl ?_
    obtain ⟨v2, hv2, h⟩ := bnd h
    refine e_getI d_Syntax_behindTelling_8 fl_Syntax_21 (fun _ _ _ => rfl) hv2 ?_
    refine e_iconst (v := 1) d_Syntax_behindTelling_11 (by decide) ?_
    refine e_iadd d_Syntax_behindTelling_12 ?_
    obtain ⟨M3, hM3, h⟩ := bnd h
    refine e_putI d_Syntax_behindTelling_13 fl_Syntax_21 (Or.inl rfl) (fun _ _ _ => rfl) rfl hM3 ?_
    refine e_iconst (v := 1) d_Syntax_behindTelling_16 (by decide) ?_
    cases h
    exact e_iret d_Syntax_behindTelling_17 rfl (Nat.le_refl _) (Nat.le_refl _)
theorem d_Syntax_inPart_0 : DC m_Syntax_inPart 0 (.iload_n 1) 1 1 := ⟨by decide +kernel, rfl⟩
theorem d_Syntax_inPart_1 : DC m_Syntax_inPart 1 (.tableswitch 219 2 40 #[180, 219, 219, 219, 219, 219, 219, 219, 219, 219, 171, 171, 171, 173, 195, 203, 211, 211, 219, 219, 219, 219, 219, 219, 219, 219, 219, 219, 219, 219, 219, 219, 219, 219, 219, 219, 219, 219, 183]) 171 172 := ⟨by decide +kernel, rfl⟩
theorem d_Syntax_inPart_172 : DC m_Syntax_inPart 172 (.iconst 3) 1 173 := ⟨by decide +kernel, rfl⟩
theorem d_Syntax_inPart_173 : DC m_Syntax_inPart 173 .ireturn 1 174 := ⟨by decide +kernel, rfl⟩
theorem d_Syntax_inPart_174 : DC m_Syntax_inPart 174 (.aload_n 0) 1 175 := ⟨by decide +kernel, rfl⟩
theorem d_Syntax_inPart_175 : DC m_Syntax_inPart 175 (.iconst 2) 1 176 := ⟨by decide +kernel, rfl⟩
theorem d_Syntax_inPart_176 : DC m_Syntax_inPart 176 (.putfield 15) 3 179 := ⟨by decide +kernel, rfl⟩
theorem d_Syntax_inPart_179 : DC m_Syntax_inPart 179 (.iconst 4) 1 180 := ⟨by decide +kernel, rfl⟩
theorem d_Syntax_inPart_180 : DC m_Syntax_inPart 180 .ireturn 1 181 := ⟨by decide +kernel, rfl⟩
theorem d_Syntax_inPart_181 : DC m_Syntax_inPart 181 (.bipush 7) 2 183 := ⟨by decide +kernel, rfl⟩
theorem d_Syntax_inPart_183 : DC m_Syntax_inPart 183 .ireturn 1 184 := ⟨by decide +kernel, rfl⟩
theorem d_Syntax_inPart_184 : DC m_Syntax_inPart 184 (.aload_n 0) 1 185 := ⟨by decide +kernel, rfl⟩
theorem d_Syntax_inPart_185 : DC m_Syntax_inPart 185 .dup 1 186 := ⟨by decide +kernel, rfl⟩
theorem d_Syntax_inPart_186 : DC m_Syntax_inPart 186 (.getfield 18) 3 189 := ⟨by decide +kernel, rfl⟩
theorem d_Syntax_inPart_189 : DC m_Syntax_inPart 189 (.iconst 1) 1 190 := ⟨by decide +kernel, rfl⟩
theorem d_Syntax_inPart_190 : DC m_Syntax_inPart 190 .iadd 1 191 := ⟨by decide +kernel, rfl⟩
theorem d_Syntax_inPart_191 : DC m_Syntax_inPart 191 (.putfield 18) 3 194 := ⟨by decide +kernel, rfl⟩
theorem d_Syntax_inPart_194 : DC m_Syntax_inPart 194 (.iconst 3) 1 195 := ⟨by decide +kernel, rfl⟩
theorem d_Syntax_inPart_195 : DC m_Syntax_inPart 195 .ireturn 1 196 := ⟨by decide +kernel, rfl⟩
theorem d_Syntax_inPart_196 : DC m_Syntax_inPart 196 (.aload_n 0) 1 197 := ⟨by decide +kernel, rfl⟩
theorem d_Syntax_inPart_197 : DC m_Syntax_inPart 197 (.iconst 2) 1 198 := ⟨by decide +kernel, rfl⟩
theorem d_Syntax_inPart_198 : DC m_Syntax_inPart 198 (.putfield 15) 3 201 := ⟨by decide +kernel, rfl⟩
theorem d_Syntax_inPart_201 : DC m_Syntax_inPart 201 (.bipush 6) 2 203 := ⟨by decide +kernel, rfl⟩
theorem d_Syntax_inPart_203 : DC m_Syntax_inPart 203 .ireturn 1 204 := ⟨by decide +kernel, rfl⟩
theorem d_Syntax_inPart_204 : DC m_Syntax_inPart 204 (.aload_n 0) 1 205 := ⟨by decide +kernel, rfl⟩
theorem d_Syntax_inPart_205 : DC m_Syntax_inPart 205 (.iconst 4) 1 206 := ⟨by decide +kernel, rfl⟩
theorem d_Syntax_inPart_206 : DC m_Syntax_inPart 206 (.putfield 15) 3 209 := ⟨by decide +kernel, rfl⟩
theorem d_Syntax_inPart_209 : DC m_Syntax_inPart 209 (.bipush 6) 2 211 := ⟨by decide +kernel, rfl⟩
theorem d_Syntax_inPart_211 : DC m_Syntax_inPart 211 .ireturn 1 212 := ⟨by decide +kernel, rfl⟩
theorem d_Syntax_inPart_212 : DC m_Syntax_inPart 212 (.aload_n 0) 1 213 := ⟨by decide +kernel, rfl⟩
theorem d_Syntax_inPart_213 : DC m_Syntax_inPart 213 (.iconst 3) 1 214 := ⟨by decide +kernel, rfl⟩
theorem d_Syntax_inPart_214 : DC m_Syntax_inPart 214 (.putfield 15) 3 217 := ⟨by decide +kernel, rfl⟩
theorem d_Syntax_inPart_217 : DC m_Syntax_inPart 217 (.bipush 6) 2 219 := ⟨by decide +kernel, rfl⟩
theorem d_Syntax_inPart_219 : DC m_Syntax_inPart 219 .ireturn 1 220 := ⟨by decide +kernel, rfl⟩
theorem d_Syntax_inPart_220 : DC m_Syntax_inPart 220 (.bipush 8) 2 222 := ⟨by decide +kernel, rfl⟩
theorem d_Syntax_inPart_222 : DC m_Syntax_inPart 222 .ireturn 1 223 := ⟨by decide +kernel, rfl⟩
def f_Syntax_inPart (n : Nat) (x0 : Nat) (x1 : Int32) (M : MM) : Option (Int32 × MM) :=
  og 8 x0 M <|
  if x1 = 2 then
    some (7, M)
  else
    if x1 = 3 then
      some (8, M)
    else
      if x1 = 4 then
        some (8, M)
      else
        if x1 = 5 then
          some (8, M)
        else
          if x1 = 6 then
            some (8, M)
          else
            if x1 = 7 then
              some (8, M)
            else
              if x1 = 8 then
                some (8, M)
              else
                if x1 = 9 then
                  some (8, M)
                else
                  if x1 = 10 then
                    some (8, M)
                  else
                    if x1 = 11 then
                      some (8, M)
                    else
                      if x1 = 12 then
                        some (3, M)
                      else
                        if x1 = 13 then
                          some (3, M)
                        else
                          if x1 = 14 then
                            some (3, M)
                          else
                            if x1 = 15 then
                              (pI 8 1 x0 2 M).bind fun M15 =>
                              some (4, M15)
                            else
                              if x1 = 16 then
                                (pI 8 1 x0 2 M).bind fun M17 =>
                                some (6, M17)
                              else
                                if x1 = 17 then
                                  (pI 8 1 x0 4 M).bind fun M19 =>
                                  some (6, M19)
                                else
                                  if x1 = 18 then
                                    (pI 8 1 x0 3 M).bind fun M21 =>
                                    some (6, M21)
                                  else
                                    if x1 = 19 then
                                      (pI 8 1 x0 3 M).bind fun M23 =>
                                      some (6, M23)
                                    else
                                      if x1 = 20 then
                                        some (8, M)
                                      else
                                        if x1 = 21 then
                                          some (8, M)
                                        else
                                          if x1 = 22 then
                                            some (8, M)
                                          else
                                            if x1 = 23 then
                                              some (8, M)
                                            else
                                              if x1 = 24 then
                                                some (8, M)
                                              else
                                                if x1 = 25 then
                                                  some (8, M)
                                                else
                                                  if x1 = 26 then
                                                    some (8, M)
                                                  else
                                                    if x1 = 27 then
                                                      some (8, M)
                                                    else
                                                      if x1 = 28 then
                                                        some (8, M)
                                                      else
                                                        if x1 = 29 then
                                                          some (8, M)
                                                        else
                                                          if x1 = 30 then
                                                            some (8, M)
                                                          else
                                                            if x1 = 31 then
                                                              some (8, M)
                                                            else
                                                              if x1 = 32 then
                                                                some (8, M)
                                                              else
                                                                if x1 = 33 then
                                                                  some (8, M)
                                                                else
                                                                  if x1 = 34 then
                                                                    some (8, M)
                                                                  else
                                                                    if x1 = 35 then
                                                                      some (8, M)
                                                                    else
                                                                      if x1 = 36 then
                                                                        some (8, M)
                                                                      else
                                                                        if x1 = 37 then
                                                                          some (8, M)
                                                                        else
                                                                          if x1 = 38 then
                                                                            some (8, M)
                                                                          else
                                                                            if x1 = 39 then
                                                                              some (8, M)
                                                                            else
                                                                              if x1 = 40 then
                                                                                (gI 8 2 x0 M).bind fun v45 =>
                                                                                (pI 8 2 x0 (v45 + 1) M).bind fun M46 =>
                                                                                some (3, M46)
                                                                              else
                                                                                some (8, M)
theorem fc_Syntax_inPart {n : Nat} {x0 : Nat} {x1 : Int32} {M : MM} {z : Int32 × MM} (h : f_Syntax_inPart n x0 x1 M = some z) : (M.1.2.1 x0).1 = 8 := by
  unfold f_Syntax_inPart at h
  exact (og_s h).1
theorem t_Syntax_inPart (n : Nat) (x0 : Nat) (x1 : Int32) (M : MM) (z : Int32 × MM) (h : f_Syntax_inPart n x0 x1 M = some z) : CT m_Syntax_inPart (rm 1 0 0) [.ref x0, .int x1] M (some (.int z.1)) z.2 := by
  unfold f_Syntax_inPart at h
  obtain ⟨hthis, h⟩ := og_s h
  refine CT.of (ls := [some (.ref x0), some (.int x1)]) rfl (okp rfl) rfl ?_
  refine e_iload_n d_Syntax_inPart_0 rfl ?_
  by_cases c1 : x1 = 2
  · replace h := ift c1 h
    refine e_tabEq 181 d_Syntax_inPart_1 c1 (by decide) (by decide) rfl (by decide) ?_
    refine e_bipush (v := 7) d_Syntax_inPart_181 (by decide) ?_
    cases h
    exact e_iret d_Syntax_inPart_183 rfl (Nat.le_refl _) (Nat.le_refl _)
  · replace h := ifn c1 h
    by_cases c2 : x1 = 3
    · replace h := ift c2 h
      refine e_tabEq 220 d_Syntax_inPart_1 c2 (by decide) (by decide) rfl (by decide) ?_
      refine e_bipush (v := 8) d_Syntax_inPart_220 (by decide) ?_
      cases h
      exact e_iret d_Syntax_inPart_222 rfl (Nat.le_refl _) (Nat.le_refl _)
    · replace h := ifn c2 h
      by_cases c3 : x1 = 4
      · replace h := ift c3 h
        refine e_tabEq 220 d_Syntax_inPart_1 c3 (by decide) (by decide) rfl (by decide) ?_
        refine e_bipush (v := 8) d_Syntax_inPart_220 (by decide) ?_
        cases h
        exact e_iret d_Syntax_inPart_222 rfl (Nat.le_refl _) (Nat.le_refl _)
      · replace h := ifn c3 h
        by_cases c4 : x1 = 5
        · replace h := ift c4 h
          refine e_tabEq 220 d_Syntax_inPart_1 c4 (by decide) (by decide) rfl (by decide) ?_
          refine e_bipush (v := 8) d_Syntax_inPart_220 (by decide) ?_
          cases h
          exact e_iret d_Syntax_inPart_222 rfl (Nat.le_refl _) (Nat.le_refl _)
        · replace h := ifn c4 h
          by_cases c5 : x1 = 6
          · replace h := ift c5 h
            refine e_tabEq 220 d_Syntax_inPart_1 c5 (by decide) (by decide) rfl (by decide) ?_
            refine e_bipush (v := 8) d_Syntax_inPart_220 (by decide) ?_
            cases h
            exact e_iret d_Syntax_inPart_222 rfl (Nat.le_refl _) (Nat.le_refl _)
          · replace h := ifn c5 h
            by_cases c6 : x1 = 7
            · replace h := ift c6 h
              refine e_tabEq 220 d_Syntax_inPart_1 c6 (by decide) (by decide) rfl (by decide) ?_
              refine e_bipush (v := 8) d_Syntax_inPart_220 (by decide) ?_
              cases h
              exact e_iret d_Syntax_inPart_222 rfl (Nat.le_refl _) (Nat.le_refl _)
            · replace h := ifn c6 h
              by_cases c7 : x1 = 8
              · replace h := ift c7 h
                refine e_tabEq 220 d_Syntax_inPart_1 c7 (by decide) (by decide) rfl (by decide) ?_
                refine e_bipush (v := 8) d_Syntax_inPart_220 (by decide) ?_
                cases h
                exact e_iret d_Syntax_inPart_222 rfl (Nat.le_refl _) (Nat.le_refl _)
              · replace h := ifn c7 h
                by_cases c8 : x1 = 9
                · replace h := ift c8 h
                  refine e_tabEq 220 d_Syntax_inPart_1 c8 (by decide) (by decide) rfl (by decide) ?_
                  refine e_bipush (v := 8) d_Syntax_inPart_220 (by decide) ?_
                  cases h
                  exact e_iret d_Syntax_inPart_222 rfl (Nat.le_refl _) (Nat.le_refl _)
                · replace h := ifn c8 h
                  by_cases c9 : x1 = 10
                  · replace h := ift c9 h
                    refine e_tabEq 220 d_Syntax_inPart_1 c9 (by decide) (by decide) rfl (by decide) ?_
                    refine e_bipush (v := 8) d_Syntax_inPart_220 (by decide) ?_
                    cases h
                    exact e_iret d_Syntax_inPart_222 rfl (Nat.le_refl _) (Nat.le_refl _)
                  · replace h := ifn c9 h
                    by_cases c10 : x1 = 11
                    · replace h := ift c10 h
                      refine e_tabEq 220 d_Syntax_inPart_1 c10 (by decide) (by decide) rfl (by decide) ?_
                      refine e_bipush (v := 8) d_Syntax_inPart_220 (by decide) ?_
                      cases h
                      exact e_iret d_Syntax_inPart_222 rfl (Nat.le_refl _) (Nat.le_refl _)
                    · replace h := ifn c10 h
                      by_cases c11 : x1 = 12
                      · replace h := ift c11 h
                        refine e_tabEq 172 d_Syntax_inPart_1 c11 (by decide) (by decide) rfl (by decide) ?_
                        refine e_iconst (v := 3) d_Syntax_inPart_172 (by decide) ?_
                        cases h
                        exact e_iret d_Syntax_inPart_173 rfl (Nat.le_refl _) (Nat.le_refl _)
                      · replace h := ifn c11 h
                        by_cases c12 : x1 = 13
                        · replace h := ift c12 h
                          refine e_tabEq 172 d_Syntax_inPart_1 c12 (by decide) (by decide) rfl (by decide) ?_
                          refine e_iconst (v := 3) d_Syntax_inPart_172 (by decide) ?_
                          cases h
                          exact e_iret d_Syntax_inPart_173 rfl (Nat.le_refl _) (Nat.le_refl _)
                        · replace h := ifn c12 h
                          by_cases c13 : x1 = 14
                          · replace h := ift c13 h
                            refine e_tabEq 172 d_Syntax_inPart_1 c13 (by decide) (by decide) rfl (by decide) ?_
                            refine e_iconst (v := 3) d_Syntax_inPart_172 (by decide) ?_
                            cases h
                            exact e_iret d_Syntax_inPart_173 rfl (Nat.le_refl _) (Nat.le_refl _)
                          · replace h := ifn c13 h
                            by_cases c14 : x1 = 15
                            · replace h := ift c14 h
                              refine e_tabEq 174 d_Syntax_inPart_1 c14 (by decide) (by decide) rfl (by decide) ?_
                              refine e_aload_n d_Syntax_inPart_174 rfl ?_
                              refine e_iconst (v := 2) d_Syntax_inPart_175 (by decide) ?_
                              obtain ⟨M15, hM15, h⟩ := bnd h
                              refine e_putI d_Syntax_inPart_176 fl_Syntax_15 (Or.inl rfl) (fun _ _ _ => rfl) rfl hM15 ?_
                              refine e_iconst (v := 4) d_Syntax_inPart_179 (by decide) ?_
                              cases h
                              exact e_iret d_Syntax_inPart_180 rfl (Nat.le_refl _) (Nat.le_refl _)
                            · replace h := ifn c14 h
                              by_cases c16 : x1 = 16
                              · replace h := ift c16 h
                                refine e_tabEq 196 d_Syntax_inPart_1 c16 (by decide) (by decide) rfl (by decide) ?_
                                refine e_aload_n d_Syntax_inPart_196 rfl ?_
                                refine e_iconst (v := 2) d_Syntax_inPart_197 (by decide) ?_
                                obtain ⟨M17, hM17, h⟩ := bnd h
                                refine e_putI d_Syntax_inPart_198 fl_Syntax_15 (Or.inl rfl) (fun _ _ _ => rfl) rfl hM17 ?_
                                refine e_bipush (v := 6) d_Syntax_inPart_201 (by decide) ?_
                                cases h
                                exact e_iret d_Syntax_inPart_203 rfl (Nat.le_refl _) (Nat.le_refl _)
                              · replace h := ifn c16 h
                                by_cases c18 : x1 = 17
                                · replace h := ift c18 h
                                  refine e_tabEq 204 d_Syntax_inPart_1 c18 (by decide) (by decide) rfl (by decide) ?_
                                  refine e_aload_n d_Syntax_inPart_204 rfl ?_
                                  refine e_iconst (v := 4) d_Syntax_inPart_205 (by decide) ?_
                                  obtain ⟨M19, hM19, h⟩ := bnd h
                                  refine e_putI d_Syntax_inPart_206 fl_Syntax_15 (Or.inl rfl) (fun _ _ _ => rfl) rfl hM19 ?_
                                  refine e_bipush (v := 6) d_Syntax_inPart_209 (by decide) ?_
                                  cases h
                                  exact e_iret d_Syntax_inPart_211 rfl (Nat.le_refl _) (Nat.le_refl _)
                                · replace h := ifn c18 h
                                  by_cases c20 : x1 = 18
                                  · replace h := ift c20 h
                                    refine e_tabEq 212 d_Syntax_inPart_1 c20 (by decide) (by decide) rfl (by decide) ?_
                                    refine e_aload_n d_Syntax_inPart_212 rfl ?_
                                    refine e_iconst (v := 3) d_Syntax_inPart_213 (by decide) ?_
                                    obtain ⟨M21, hM21, h⟩ := bnd h
                                    refine e_putI d_Syntax_inPart_214 fl_Syntax_15 (Or.inl rfl) (fun _ _ _ => rfl) rfl hM21 ?_
                                    refine e_bipush (v := 6) d_Syntax_inPart_217 (by decide) ?_
                                    cases h
                                    exact e_iret d_Syntax_inPart_219 rfl (Nat.le_refl _) (Nat.le_refl _)
                                  · replace h := ifn c20 h
                                    by_cases c22 : x1 = 19
                                    · replace h := ift c22 h
                                      refine e_tabEq 212 d_Syntax_inPart_1 c22 (by decide) (by decide) rfl (by decide) ?_
                                      refine e_aload_n d_Syntax_inPart_212 rfl ?_
                                      refine e_iconst (v := 3) d_Syntax_inPart_213 (by decide) ?_
                                      obtain ⟨M23, hM23, h⟩ := bnd h
                                      refine e_putI d_Syntax_inPart_214 fl_Syntax_15 (Or.inl rfl) (fun _ _ _ => rfl) rfl hM23 ?_
                                      refine e_bipush (v := 6) d_Syntax_inPart_217 (by decide) ?_
                                      cases h
                                      exact e_iret d_Syntax_inPart_219 rfl (Nat.le_refl _) (Nat.le_refl _)
                                    · replace h := ifn c22 h
                                      by_cases c24 : x1 = 20
                                      · replace h := ift c24 h
                                        refine e_tabEq 220 d_Syntax_inPart_1 c24 (by decide) (by decide) rfl (by decide) ?_
                                        refine e_bipush (v := 8) d_Syntax_inPart_220 (by decide) ?_
                                        cases h
                                        exact e_iret d_Syntax_inPart_222 rfl (Nat.le_refl _) (Nat.le_refl _)
                                      · replace h := ifn c24 h
                                        by_cases c25 : x1 = 21
                                        · replace h := ift c25 h
                                          refine e_tabEq 220 d_Syntax_inPart_1 c25 (by decide) (by decide) rfl (by decide) ?_
                                          refine e_bipush (v := 8) d_Syntax_inPart_220 (by decide) ?_
                                          cases h
                                          exact e_iret d_Syntax_inPart_222 rfl (Nat.le_refl _) (Nat.le_refl _)
                                        · replace h := ifn c25 h
                                          by_cases c26 : x1 = 22
                                          · replace h := ift c26 h
                                            refine e_tabEq 220 d_Syntax_inPart_1 c26 (by decide) (by decide) rfl (by decide) ?_
                                            refine e_bipush (v := 8) d_Syntax_inPart_220 (by decide) ?_
                                            cases h
                                            exact e_iret d_Syntax_inPart_222 rfl (Nat.le_refl _) (Nat.le_refl _)
                                          · replace h := ifn c26 h
                                            by_cases c27 : x1 = 23
                                            · replace h := ift c27 h
                                              refine e_tabEq 220 d_Syntax_inPart_1 c27 (by decide) (by decide) rfl (by decide) ?_
                                              refine e_bipush (v := 8) d_Syntax_inPart_220 (by decide) ?_
                                              cases h
                                              exact e_iret d_Syntax_inPart_222 rfl (Nat.le_refl _) (Nat.le_refl _)
                                            · replace h := ifn c27 h
                                              by_cases c28 : x1 = 24
                                              · replace h := ift c28 h
                                                refine e_tabEq 220 d_Syntax_inPart_1 c28 (by decide) (by decide) rfl (by decide) ?_
                                                refine e_bipush (v := 8) d_Syntax_inPart_220 (by decide) ?_
                                                cases h
                                                exact e_iret d_Syntax_inPart_222 rfl (Nat.le_refl _) (Nat.le_refl _)
                                              · replace h := ifn c28 h
                                                by_cases c29 : x1 = 25
                                                · replace h := ift c29 h
                                                  refine e_tabEq 220 d_Syntax_inPart_1 c29 (by decide) (by decide) rfl (by decide) ?_
                                                  refine e_bipush (v := 8) d_Syntax_inPart_220 (by decide) ?_
                                                  cases h
                                                  exact e_iret d_Syntax_inPart_222 rfl (Nat.le_refl _) (Nat.le_refl _)
                                                · replace h := ifn c29 h
                                                  by_cases c30 : x1 = 26
                                                  · replace h := ift c30 h
                                                    refine e_tabEq 220 d_Syntax_inPart_1 c30 (by decide) (by decide) rfl (by decide) ?_
                                                    refine e_bipush (v := 8) d_Syntax_inPart_220 (by decide) ?_
                                                    cases h
                                                    exact e_iret d_Syntax_inPart_222 rfl (Nat.le_refl _) (Nat.le_refl _)
                                                  · replace h := ifn c30 h
                                                    by_cases c31 : x1 = 27
                                                    · replace h := ift c31 h
                                                      refine e_tabEq 220 d_Syntax_inPart_1 c31 (by decide) (by decide) rfl (by decide) ?_
                                                      refine e_bipush (v := 8) d_Syntax_inPart_220 (by decide) ?_
                                                      cases h
                                                      exact e_iret d_Syntax_inPart_222 rfl (Nat.le_refl _) (Nat.le_refl _)
                                                    · replace h := ifn c31 h
                                                      by_cases c32 : x1 = 28
                                                      · replace h := ift c32 h
                                                        refine e_tabEq 220 d_Syntax_inPart_1 c32 (by decide) (by decide) rfl (by decide) ?_
                                                        refine e_bipush (v := 8) d_Syntax_inPart_220 (by decide) ?_
                                                        cases h
                                                        exact e_iret d_Syntax_inPart_222 rfl (Nat.le_refl _) (Nat.le_refl _)
                                                      · replace h := ifn c32 h
                                                        by_cases c33 : x1 = 29
                                                        · replace h := ift c33 h
                                                          refine e_tabEq 220 d_Syntax_inPart_1 c33 (by decide) (by decide) rfl (by decide) ?_
                                                          refine e_bipush (v := 8) d_Syntax_inPart_220 (by decide) ?_
                                                          cases h
                                                          exact e_iret d_Syntax_inPart_222 rfl (Nat.le_refl _) (Nat.le_refl _)
                                                        · replace h := ifn c33 h
                                                          by_cases c34 : x1 = 30
                                                          · replace h := ift c34 h
                                                            refine e_tabEq 220 d_Syntax_inPart_1 c34 (by decide) (by decide) rfl (by decide) ?_
                                                            refine e_bipush (v := 8) d_Syntax_inPart_220 (by decide) ?_
                                                            cases h
                                                            exact e_iret d_Syntax_inPart_222 rfl (Nat.le_refl _) (Nat.le_refl _)
                                                          · replace h := ifn c34 h
                                                            by_cases c35 : x1 = 31
                                                            · replace h := ift c35 h
                                                              refine e_tabEq 220 d_Syntax_inPart_1 c35 (by decide) (by decide) rfl (by decide) ?_
                                                              refine e_bipush (v := 8) d_Syntax_inPart_220 (by decide) ?_
                                                              cases h
                                                              exact e_iret d_Syntax_inPart_222 rfl (Nat.le_refl _) (Nat.le_refl _)
                                                            · replace h := ifn c35 h
                                                              by_cases c36 : x1 = 32
                                                              · replace h := ift c36 h
                                                                refine e_tabEq 220 d_Syntax_inPart_1 c36 (by decide) (by decide) rfl (by decide) ?_
                                                                refine e_bipush (v := 8) d_Syntax_inPart_220 (by decide) ?_
                                                                cases h
                                                                exact e_iret d_Syntax_inPart_222 rfl (Nat.le_refl _) (Nat.le_refl _)
                                                              · replace h := ifn c36 h
                                                                by_cases c37 : x1 = 33
                                                                · replace h := ift c37 h
                                                                  refine e_tabEq 220 d_Syntax_inPart_1 c37 (by decide) (by decide) rfl (by decide) ?_
                                                                  refine e_bipush (v := 8) d_Syntax_inPart_220 (by decide) ?_
                                                                  cases h
                                                                  exact e_iret d_Syntax_inPart_222 rfl (Nat.le_refl _) (Nat.le_refl _)
                                                                · replace h := ifn c37 h
                                                                  by_cases c38 : x1 = 34
                                                                  · replace h := ift c38 h
                                                                    refine e_tabEq 220 d_Syntax_inPart_1 c38 (by decide) (by decide) rfl (by decide) ?_
                                                                    refine e_bipush (v := 8) d_Syntax_inPart_220 (by decide) ?_
                                                                    cases h
                                                                    exact e_iret d_Syntax_inPart_222 rfl (Nat.le_refl _) (Nat.le_refl _)
                                                                  · replace h := ifn c38 h
                                                                    by_cases c39 : x1 = 35
                                                                    · replace h := ift c39 h
                                                                      refine e_tabEq 220 d_Syntax_inPart_1 c39 (by decide) (by decide) rfl (by decide) ?_
                                                                      refine e_bipush (v := 8) d_Syntax_inPart_220 (by decide) ?_
                                                                      cases h
                                                                      exact e_iret d_Syntax_inPart_222 rfl (Nat.le_refl _) (Nat.le_refl _)
                                                                    · replace h := ifn c39 h
                                                                      by_cases c40 : x1 = 36
                                                                      · replace h := ift c40 h
                                                                        refine e_tabEq 220 d_Syntax_inPart_1 c40 (by decide) (by decide) rfl (by decide) ?_
                                                                        refine e_bipush (v := 8) d_Syntax_inPart_220 (by decide) ?_
                                                                        cases h
                                                                        exact e_iret d_Syntax_inPart_222 rfl (Nat.le_refl _) (Nat.le_refl _)
                                                                      · replace h := ifn c40 h
                                                                        by_cases c41 : x1 = 37
                                                                        · replace h := ift c41 h
                                                                          refine e_tabEq 220 d_Syntax_inPart_1 c41 (by decide) (by decide) rfl (by decide) ?_
                                                                          refine e_bipush (v := 8) d_Syntax_inPart_220 (by decide) ?_
                                                                          cases h
                                                                          exact e_iret d_Syntax_inPart_222 rfl (Nat.le_refl _) (Nat.le_refl _)
                                                                        · replace h := ifn c41 h
                                                                          by_cases c42 : x1 = 38
                                                                          · replace h := ift c42 h
                                                                            refine e_tabEq 220 d_Syntax_inPart_1 c42 (by decide) (by decide) rfl (by decide) ?_
                                                                            refine e_bipush (v := 8) d_Syntax_inPart_220 (by decide) ?_
                                                                            cases h
                                                                            exact e_iret d_Syntax_inPart_222 rfl (Nat.le_refl _) (Nat.le_refl _)
                                                                          · replace h := ifn c42 h
                                                                            by_cases c43 : x1 = 39
                                                                            · replace h := ift c43 h
                                                                              refine e_tabEq 220 d_Syntax_inPart_1 c43 (by decide) (by decide) rfl (by decide) ?_
                                                                              refine e_bipush (v := 8) d_Syntax_inPart_220 (by decide) ?_
                                                                              cases h
                                                                              exact e_iret d_Syntax_inPart_222 rfl (Nat.le_refl _) (Nat.le_refl _)
                                                                            · replace h := ifn c43 h
                                                                              by_cases c44 : x1 = 40
                                                                              · replace h := ift c44 h
                                                                                refine e_tabEq 184 d_Syntax_inPart_1 c44 (by decide) (by decide) rfl (by decide) ?_
                                                                                refine e_aload_n d_Syntax_inPart_184 rfl ?_
                                                                                refine e_dup d_Syntax_inPart_185 rfl ?_
                                                                                obtain ⟨v45, hv45, h⟩ := bnd h
                                                                                refine e_getI d_Syntax_inPart_186 fl_Syntax_18 (fun _ _ _ => rfl) hv45 ?_
                                                                                refine e_iconst (v := 1) d_Syntax_inPart_189 (by decide) ?_
                                                                                refine e_iadd d_Syntax_inPart_190 ?_
                                                                                obtain ⟨M46, hM46, h⟩ := bnd h
                                                                                refine e_putI d_Syntax_inPart_191 fl_Syntax_18 (Or.inl rfl) (fun _ _ _ => rfl) rfl hM46 ?_
                                                                                refine e_iconst (v := 3) d_Syntax_inPart_194 (by decide) ?_
                                                                                cases h
                                                                                exact e_iret d_Syntax_inPart_195 rfl (Nat.le_refl _) (Nat.le_refl _)
                                                                              · replace h := ifn c44 h
                                                                                refine e_tabOut 220 d_Syntax_inPart_1 (tab_o 2 39 [2, 3, 4, 5, 6, 7, 8, 9, 10, 11, 12, 13, 14, 15, 16, 17, 18, 19, 20, 21, 22, 23, 24, 25, 26, 27, 28, 29, 30, 31, 32, 33, 34, 35, 36, 37, 38, 39, 40] (by decide) (by decide) (by decide) (fa_c c1 (fa_c c2 (fa_c c3 (fa_c c4 (fa_c c5 (fa_c c6 (fa_c c7 (fa_c c8 (fa_c c9 (fa_c c10 (fa_c c11 (fa_c c12 (fa_c c13 (fa_c c14 (fa_c c16 (fa_c c18 (fa_c c20 (fa_c c22 (fa_c c24 (fa_c c25 (fa_c c26 (fa_c c27 (fa_c c28 (fa_c c29 (fa_c c30 (fa_c c31 (fa_c c32 (fa_c c33 (fa_c c34 (fa_c c35 (fa_c c36 (fa_c c37 (fa_c c38 (fa_c c39 (fa_c c40 (fa_c c41 (fa_c c42 (fa_c c43 (fa_c c44 fa_n)))))))))))))))))))))))))))))))))))))))) (by decide) ?_
                                                                                refine e_bipush (v := 8) d_Syntax_inPart_220 (by decide) ?_
                                                                                cases h
                                                                                exact e_iret d_Syntax_inPart_222 rfl (Nat.le_refl _) (Nat.le_refl _)
theorem d_Syntax_behindShiftNumber_0 : DC m_Syntax_behindShiftNumber 0 (.iload_n 1) 1 1 := ⟨by decide +kernel, rfl⟩
theorem d_Syntax_behindShiftNumber_1 : DC m_Syntax_behindShiftNumber 1 (.iconst 3) 1 2 := ⟨by decide +kernel, rfl⟩
theorem d_Syntax_behindShiftNumber_2 : DC m_Syntax_behindShiftNumber 2 (.if_icmp .eq 6) 3 5 := ⟨by decide +kernel, rfl⟩
theorem d_Syntax_behindShiftNumber_5 : DC m_Syntax_behindShiftNumber 5 (.bipush 8) 2 7 := ⟨by decide +kernel, rfl⟩
theorem d_Syntax_behindShiftNumber_7 : DC m_Syntax_behindShiftNumber 7 .ireturn 1 8 := ⟨by decide +kernel, rfl⟩
theorem d_Syntax_behindShiftNumber_8 : DC m_Syntax_behindShiftNumber 8 (.aload_n 0) 1 9 := ⟨by decide +kernel, rfl⟩
theorem d_Syntax_behindShiftNumber_9 : DC m_Syntax_behindShiftNumber 9 .dup 1 10 := ⟨by decide +kernel, rfl⟩
theorem d_Syntax_behindShiftNumber_10 : DC m_Syntax_behindShiftNumber 10 (.getfield 15) 3 13 := ⟨by decide +kernel, rfl⟩
theorem d_Syntax_behindShiftNumber_13 : DC m_Syntax_behindShiftNumber 13 (.iconst 1) 1 14 := ⟨by decide +kernel, rfl⟩
theorem d_Syntax_behindShiftNumber_14 : DC m_Syntax_behindShiftNumber 14 .isub 1 15 := ⟨by decide +kernel, rfl⟩
theorem d_Syntax_behindShiftNumber_15 : DC m_Syntax_behindShiftNumber 15 (.putfield 15) 3 18 := ⟨by decide +kernel, rfl⟩
theorem d_Syntax_behindShiftNumber_18 : DC m_Syntax_behindShiftNumber 18 (.aload_n 0) 1 19 := ⟨by decide +kernel, rfl⟩
theorem d_Syntax_behindShiftNumber_19 : DC m_Syntax_behindShiftNumber 19 (.getfield 15) 3 22 := ⟨by decide +kernel, rfl⟩
theorem d_Syntax_behindShiftNumber_22 : DC m_Syntax_behindShiftNumber 22 (.ifCond .le 7) 3 25 := ⟨by decide +kernel, rfl⟩
theorem d_Syntax_behindShiftNumber_25 : DC m_Syntax_behindShiftNumber 25 (.iconst 4) 1 26 := ⟨by decide +kernel, rfl⟩
theorem d_Syntax_behindShiftNumber_26 : DC m_Syntax_behindShiftNumber 26 (.goto 4) 3 29 := ⟨by decide +kernel, rfl⟩
theorem d_Syntax_behindShiftNumber_29 : DC m_Syntax_behindShiftNumber 29 (.iconst 3) 1 30 := ⟨by decide +kernel, rfl⟩
theorem d_Syntax_behindShiftNumber_30 : DC m_Syntax_behindShiftNumber 30 .ireturn 1 31 := ⟨by decide +kernel, rfl⟩
def f_Syntax_behindShiftNumber (n : Nat) (x0 : Nat) (x1 : Int32) (M : MM) : Option (Int32 × MM) :=
  og 8 x0 M <|
  if x1 = 3 then
    (gI 8 1 x0 M).bind fun v2 =>
    (pI 8 1 x0 (v2 - 1) M).bind fun M3 =>
    (gI 8 1 x0 M3).bind fun v4 =>
    if v4 ≤ 0 then
      some (3, M3)
    else
      some (4, M3)
  else
    some (8, M)
theorem fc_Syntax_behindShiftNumber {n : Nat} {x0 : Nat} {x1 : Int32} {M : MM} {z : Int32 × MM} (h : f_Syntax_behindShiftNumber n x0 x1 M = some z) : (M.1.2.1 x0).1 = 8 := by
  unfold f_Syntax_behindShiftNumber at h
  exact (og_s h).1
theorem t_Syntax_behindShiftNumber (n : Nat) (x0 : Nat) (x1 : Int32) (M : MM) (z : Int32 × MM) (h : f_Syntax_behindShiftNumber n x0 x1 M = some z) : CT m_Syntax_behindShiftNumber (rm 1 0 0) [.ref x0, .int x1] M (some (.int z.1)) z.2 := by
  unfold f_Syntax_behindShiftNumber at h
  obtain ⟨hthis, h⟩ := og_s h
  refine CT.of (ls := [some (.ref x0), some (.int x1)]) rfl (okp rfl) rfl ?_
  refine e_iload_n d_Syntax_behindShiftNumber_0 rfl ?_
  refine e_iconst (v := 3) d_Syntax_behindShiftNumber_1 (by decide) ?_
  refine e_ic_eq 8 d_Syntax_behindShiftNumber_2 (by decide) (fun c1 => ?_) (fun c1 => ?_)
  · replace h := ift c1 h
    refine e_aload_n d_Syntax_behindShiftNumber_8 rfl ?_
    refine e_dup d_Syntax_behindShiftNumber_9 rfl ?_
    obtain ⟨v2, hv2, h⟩ := bnd h
    refine e_getI d_Syntax_behindShiftNumber_10 fl_Syntax_15 (fun _ _ _ => rfl) hv2 ?_
    refine e_iconst (v := 1) d_Syntax_behindShiftNumber_13 (by decide) ?_
    refine e_isub d_Syntax_behindShiftNumber_14 ?_
    obtain ⟨M3, hM3, h⟩ := bnd h
    refine e_putI d_Syntax_behindShiftNumber_15 fl_Syntax_15 (Or.inl rfl) (fun _ _ _ => rfl) rfl hM3 ?_
    refine e_aload_n d_Syntax_behindShiftNumber_18 rfl ?_
    obtain ⟨v4, hv4, h⟩ := bnd h
    refine e_getI d_Syntax_behindShiftNumber_19 fl_Syntax_15 (fun _ _ _ => rfl) hv4 ?_
    refine e_if_le 29 d_Syntax_behindShiftNumber_22 (by decide) (fun c5 => ?_) (fun c5 => ?_)
    · replace h := ift c5 h
      refine e_iconst (v := 3) d_Syntax_behindShiftNumber_29 (by decide) ?_
      cases h
      exact e_iret d_Syntax_behindShiftNumber_30 rfl (Nat.le_refl _) (Nat.le_refl _)
    · replace h := ifn c5 h
      refine e_iconst (v := 4) d_Syntax_behindShiftNumber_25 (by decide) ?_
      refine e_goto 30 d_Syntax_behindShiftNumber_26 (by decide) ?_
      cases h
      exact e_iret d_Syntax_behindShiftNumber_30 rfl (Nat.le_refl _) (Nat.le_refl _)
  · replace h := ifn c1 h
    refine e_bipush (v := 8) d_Syntax_behindShiftNumber_5 (by decide) ?_
    cases h
    exact e_iret d_Syntax_behindShiftNumber_7 rfl (Nat.le_refl _) (Nat.le_refl _)
theorem d_Syntax_behindUnitNumber_0 : DC m_Syntax_behindUnitNumber 0 (.iload_n 1) 1 1 := ⟨by decide +kernel, rfl⟩
theorem d_Syntax_behindUnitNumber_1 : DC m_Syntax_behindUnitNumber 1 (.iconst 3) 1 2 := ⟨by decide +kernel, rfl⟩
theorem d_Syntax_behindUnitNumber_2 : DC m_Syntax_behindUnitNumber 2 (.if_icmp .eq 6) 3 5 := ⟨by decide +kernel, rfl⟩
theorem d_Syntax_behindUnitNumber_5 : DC m_Syntax_behindUnitNumber 5 (.bipush 8) 2 7 := ⟨by decide +kernel, rfl⟩
theorem d_Syntax_behindUnitNumber_7 : DC m_Syntax_behindUnitNumber 7 .ireturn 1 8 := ⟨by decide +kernel, rfl⟩
theorem d_Syntax_behindUnitNumber_8 : DC m_Syntax_behindUnitNumber 8 (.aload_n 0) 1 9 := ⟨by decide +kernel, rfl⟩
theorem d_Syntax_behindUnitNumber_9 : DC m_Syntax_behindUnitNumber 9 .dup 1 10 := ⟨by decide +kernel, rfl⟩
theorem d_Syntax_behindUnitNumber_10 : DC m_Syntax_behindUnitNumber 10 (.getfield 15) 3 13 := ⟨by decide +kernel, rfl⟩
theorem d_Syntax_behindUnitNumber_13 : DC m_Syntax_behindUnitNumber 13 (.iconst 1) 1 14 := ⟨by decide +kernel, rfl⟩
theorem d_Syntax_behindUnitNumber_14 : DC m_Syntax_behindUnitNumber 14 .isub 1 15 := ⟨by decide +kernel, rfl⟩
theorem d_Syntax_behindUnitNumber_15 : DC m_Syntax_behindUnitNumber 15 (.putfield 15) 3 18 := ⟨by decide +kernel, rfl⟩
theorem d_Syntax_behindUnitNumber_18 : DC m_Syntax_behindUnitNumber 18 (.aload_n 0) 1 19 := ⟨by decide +kernel, rfl⟩
theorem d_Syntax_behindUnitNumber_19 : DC m_Syntax_behindUnitNumber 19 (.getfield 15) 3 22 := ⟨by decide +kernel, rfl⟩
theorem d_Syntax_behindUnitNumber_22 : DC m_Syntax_behindUnitNumber 22 (.ifCond .le 8) 3 25 := ⟨by decide +kernel, rfl⟩
theorem d_Syntax_behindUnitNumber_25 : DC m_Syntax_behindUnitNumber 25 (.bipush 6) 2 27 := ⟨by decide +kernel, rfl⟩
theorem d_Syntax_behindUnitNumber_27 : DC m_Syntax_behindUnitNumber 27 (.goto 5) 3 30 := ⟨by decide +kernel, rfl⟩
theorem d_Syntax_behindUnitNumber_30 : DC m_Syntax_behindUnitNumber 30 (.bipush 7) 2 32 := ⟨by decide +kernel, rfl⟩
theorem d_Syntax_behindUnitNumber_32 : DC m_Syntax_behindUnitNumber 32 .ireturn 1 33 := ⟨by decide +kernel, rfl⟩
def f_Syntax_behindUnitNumber (n : Nat) (x0 : Nat) (x1 : Int32) (M : MM) : Option (Int32 × MM) :=
  og 8 x0 M <|
  if x1 = 3 then
    (gI 8 1 x0 M).bind fun v2 =>
    (pI 8 1 x0 (v2 - 1) M).bind fun M3 =>
    (gI 8 1 x0 M3).bind fun v4 =>
    if v4 ≤ 0 then
      some (7, M3)
    else
      some (6, M3)
  else
    some (8, M)
theorem fc_Syntax_behindUnitNumber {n : Nat} {x0 : Nat} {x1 : Int32} {M : MM} {z : Int32 × MM} (h : f_Syntax_behindUnitNumber n x0 x1 M = some z) : (M.1.2.1 x0).1 = 8 := by
  unfold f_Syntax_behindUnitNumber at h
  exact (og_s h).1
theorem t_Syntax_behindUnitNumber (n : Nat) (x0 : Nat) (x1 : Int32) (M : MM) (z : Int32 × MM) (h : f_Syntax_behindUnitNumber n x0 x1 M = some z) : CT m_Syntax_behindUnitNumber (rm 1 0 0) [.ref x0, .int x1] M (some (.int z.1)) z.2 := by
  unfold f_Syntax_behindUnitNumber at h
  obtain ⟨hthis, h⟩ := og_s h
  refine CT.of (ls := [some (.ref x0), some (.int x1)]) rfl (okp rfl) rfl ?_
  refine e_iload_n d_Syntax_behindUnitNumber_0 rfl ?_
  refine e_iconst (v := 3) d_Syntax_behindUnitNumber_1 (by decide) ?_
  refine e_ic_eq 8 d_Syntax_behindUnitNumber_2 (by decide) (fun c1 => ?_) (fun c1 => ?_)
  · replace h := ift c1 h
    refine e_aload_n d_Syntax_behindUnitNumber_8 rfl ?_
    refine e_dup d_Syntax_behindUnitNumber_9 rfl ?_
    obtain ⟨v2, hv2, h⟩ := bnd h
    refine e_getI d_Syntax_behindUnitNumber_10 fl_Syntax_15 (fun _ _ _ => rfl) hv2 ?_
    refine e_iconst (v := 1) d_Syntax_behindUnitNumber_13 (by decide) ?_
    refine e_isub d_Syntax_behindUnitNumber_14 ?_
    obtain ⟨M3, hM3, h⟩ := bnd h
    refine e_putI d_Syntax_behindUnitNumber_15 fl_Syntax_15 (Or.inl rfl) (fun _ _ _ => rfl) rfl hM3 ?_
    refine e_aload_n d_Syntax_behindUnitNumber_18 rfl ?_
    obtain ⟨v4, hv4, h⟩ := bnd h
    refine e_getI d_Syntax_behindUnitNumber_19 fl_Syntax_15 (fun _ _ _ => rfl) hv4 ?_
    refine e_if_le 30 d_Syntax_behindUnitNumber_22 (by decide) (fun c5 => ?_) (fun c5 => ?_)
    · replace h := ift c5 h
      refine e_bipush (v := 7) d_Syntax_behindUnitNumber_30 (by decide) ?_
      cases h
      exact e_iret d_Syntax_behindUnitNumber_32 rfl (Nat.le_refl _) (Nat.le_refl _)
    · replace h := ifn c5 h
      refine e_bipush (v := 6) d_Syntax_behindUnitNumber_25 (by decide) ?_
      refine e_goto 32 d_Syntax_behindUnitNumber_27 (by decide) ?_
      cases h
      exact e_iret d_Syntax_behindUnitNumber_32 rfl (Nat.le_refl _) (Nat.le_refl _)
  · replace h := ifn c1 h
    refine e_bipush (v := 8) d_Syntax_behindUnitNumber_5 (by decide) ?_
    cases h
    exact e_iret d_Syntax_behindUnitNumber_7 rfl (Nat.le_refl _) (Nat.le_refl _)
theorem d_Syntax_behindUnit_0 : DC m_Syntax_behindUnit 0 (.iload_n 1) 1 1 := ⟨by decide +kernel, rfl⟩
theorem d_Syntax_behindUnit_1 : DC m_Syntax_behindUnit 1 (.bipush 43) 2 3 := ⟨by decide +kernel, rfl⟩
theorem d_Syntax_behindUnit_3 : DC m_Syntax_behindUnit 3 (.if_icmp .eq 15) 3 6 := ⟨by decide +kernel, rfl⟩
theorem d_Syntax_behindUnit_6 : DC m_Syntax_behindUnit 6 (.iload_n 1) 1 7 := ⟨by decide +kernel, rfl⟩
theorem d_Syntax_behindUnit_7 : DC m_Syntax_behindUnit 7 (.bipush 45) 2 9 := ⟨by decide +kernel, rfl⟩
theorem d_Syntax_behindUnit_9 : DC m_Syntax_behindUnit 9 (.if_icmp .eq 9) 3 12 := ⟨by decide +kernel, rfl⟩
theorem d_Syntax_behindUnit_12 : DC m_Syntax_behindUnit 12 (.iload_n 1) 1 13 := ⟨by decide +kernel, rfl⟩
theorem d_Syntax_behindUnit_13 : DC m_Syntax_behindUnit 13 (.bipush 38) 2 15 := ⟨by decide +kernel, rfl⟩
theorem d_Syntax_behindUnit_15 : DC m_Syntax_behindUnit 15 (.if_icmp .ne 5) 3 18 := ⟨by decide +kernel, rfl⟩
theorem d_Syntax_behindUnit_18 : DC m_Syntax_behindUnit 18 (.iconst 3) 1 19 := ⟨by decide +kernel, rfl⟩
theorem d_Syntax_behindUnit_19 : DC m_Syntax_behindUnit 19 .ireturn 1 20 := ⟨by decide +kernel, rfl⟩
theorem d_Syntax_behindUnit_20 : DC m_Syntax_behindUnit 20 (.iload_n 1) 1 21 := ⟨by decide +kernel, rfl⟩
theorem d_Syntax_behindUnit_21 : DC m_Syntax_behindUnit 21 (.bipush 41) 2 23 := ⟨by decide +kernel, rfl⟩
theorem d_Syntax_behindUnit_23 : DC m_Syntax_behindUnit 23 (.if_icmp .ne 23) 3 26 := ⟨by decide +kernel, rfl⟩
theorem d_Syntax_behindUnit_26 : DC m_Syntax_behindUnit 26 (.aload_n 0) 1 27 := ⟨by decide +kernel, rfl⟩
theorem d_Syntax_behindUnit_27 : DC m_Syntax_behindUnit 27 (.getfield 18) 3 30 := ⟨by decide +kernel, rfl⟩
theorem d_Syntax_behindUnit_30 : DC m_Syntax_behindUnit 30 (.ifCond .le 16) 3 33 := ⟨by decide +kernel, rfl⟩
theorem d_Syntax_behindUnit_33 : DC m_Syntax_behindUnit 33 (.aload_n 0) 1 34 := ⟨by decide +kernel, rfl⟩
theorem d_Syntax_behindUnit_34 : DC m_Syntax_behindUnit 34 .dup 1 35 := ⟨by decide +kernel, rfl⟩
theorem d_Syntax_behindUnit_35 : DC m_Syntax_behindUnit 35 (.getfield 18) 3 38 := ⟨by decide +kernel, rfl⟩
theorem d_Syntax_behindUnit_38 : DC m_Syntax_behindUnit 38 (.iconst 1) 1 39 := ⟨by decide +kernel, rfl⟩
theorem d_Syntax_behindUnit_39 : DC m_Syntax_behindUnit 39 .isub 1 40 := ⟨by decide +kernel, rfl⟩
theorem d_Syntax_behindUnit_40 : DC m_Syntax_behindUnit 40 (.putfield 18) 3 43 := ⟨by decide +kernel, rfl⟩
theorem d_Syntax_behindUnit_43 : DC m_Syntax_behindUnit 43 (.bipush 7) 2 45 := ⟨by decide +kernel, rfl⟩
theorem d_Syntax_behindUnit_45 : DC m_Syntax_behindUnit 45 .ireturn 1 46 := ⟨by decide +kernel, rfl⟩
theorem d_Syntax_behindUnit_46 : DC m_Syntax_behindUnit 46 (.iload_n 1) 1 47 := ⟨by decide +kernel, rfl⟩
theorem d_Syntax_behindUnit_47 : DC m_Syntax_behindUnit 47 (.bipush 59) 2 49 := ⟨by decide +kernel, rfl⟩
theorem d_Syntax_behindUnit_49 : DC m_Syntax_behindUnit 49 (.if_icmp .ne 14) 3 52 := ⟨by decide +kernel, rfl⟩
theorem d_Syntax_behindUnit_52 : DC m_Syntax_behindUnit 52 (.aload_n 0) 1 53 := ⟨by decide +kernel, rfl⟩
theorem d_Syntax_behindUnit_53 : DC m_Syntax_behindUnit 53 (.getfield 18) 3 56 := ⟨by decide +kernel, rfl⟩
theorem d_Syntax_behindUnit_56 : DC m_Syntax_behindUnit 56 (.ifCond .ne 7) 3 59 := ⟨by decide +kernel, rfl⟩
theorem d_Syntax_behindUnit_59 : DC m_Syntax_behindUnit 59 (.iconst 0) 1 60 := ⟨by decide +kernel, rfl⟩
theorem d_Syntax_behindUnit_60 : DC m_Syntax_behindUnit 60 (.goto 5) 3 63 := ⟨by decide +kernel, rfl⟩
theorem d_Syntax_behindUnit_63 : DC m_Syntax_behindUnit 63 (.bipush 8) 2 65 := ⟨by decide +kernel, rfl⟩
theorem d_Syntax_behindUnit_65 : DC m_Syntax_behindUnit 65 .ireturn 1 66 := ⟨by decide +kernel, rfl⟩
def f_Syntax_behindUnit_46 (n : Nat) (x0 : Nat) (x1 : Int32) (M : MM) : Option (Int32 × MM) :=
  if x1 = 59 then
    (gI 8 2 x0 M).bind fun v2 =>
    if v2 = 0 then
      some (0, M)
    else
      some (8, M)
  else
    some (8, M)
theorem t_Syntax_behindUnit_46 (n : Nat) (x0 : Nat) (x1 : Int32) (M : MM) (z : Int32 × MM) (h : f_Syntax_behindUnit_46 n x0 x1 M = some z) : EV m_Syntax_behindUnit (rm 1 0 0) (some (.int z.1)) z.2 0 0 46 [some (.ref x0), some (.int x1)] [] M := by
  unfold f_Syntax_behindUnit_46 at h
  refine e_iload_n d_Syntax_behindUnit_46 rfl ?_
  refine e_bipush (v := 59) d_Syntax_behindUnit_47 (by decide) ?_
  refine e_ic_ne 63 d_Syntax_behindUnit_49 (by decide) (fun c1 => ?_) (fun c1 => ?_)
  · replace h := ifn c1 h
    refine e_bipush (v := 8) d_Syntax_behindUnit_63 (by decide) ?_
    cases h
    exact e_iret d_Syntax_behindUnit_65 rfl (Nat.le_refl _) (Nat.le_refl _)
  · replace h := ift c1 h
    refine e_aload_n d_Syntax_behindUnit_52 rfl ?_
    obtain ⟨v2, hv2, h⟩ := bnd h
    refine e_getI d_Syntax_behindUnit_53 fl_Syntax_18 (fun _ _ _ => rfl) hv2 ?_
    refine e_if_ne 63 d_Syntax_behindUnit_56 (by decide) (fun c3 => ?_) (fun c3 => ?_)
    · replace h := ifn c3 h
      refine e_bipush (v := 8) d_Syntax_behindUnit_63 (by decide) ?_
      cases h
      exact e_iret d_Syntax_behindUnit_65 rfl (Nat.le_refl _) (Nat.le_refl _)
    · replace h := ift c3 h
      refine e_iconst (v := 0) d_Syntax_behindUnit_59 (by decide) ?_
      refine e_goto 65 d_Syntax_behindUnit_60 (by decide) ?_
      cases h
      exact e_iret d_Syntax_behindUnit_65 rfl (Nat.le_refl _) (Nat.le_refl _)
def f_Syntax_behindUnit (n : Nat) (x0 : Nat) (x1 : Int32) (M : MM) : Option (Int32 × MM) :=
  og 8 x0 M <|
  if x1 = 43 then
    some (3, M)
  else
    if x1 = 45 then
      some (3, M)
    else
      if x1 = 38 then
        some (3, M)
      else
        if x1 = 41 then
          (gI 8 2 x0 M).bind fun v8 =>
          if v8 ≤ 0 then
            f_Syntax_behindUnit_46 n x0 x1 M
          else
            (gI 8 2 x0 M).bind fun v10 =>
            (pI 8 2 x0 (v10 - 1) M).bind fun M11 =>
            some (7, M11)
        else
          f_Syntax_behindUnit_46 n x0 x1 M
theorem fc_Syntax_behindUnit {n : Nat} {x0 : Nat} {x1 : Int32} {M : MM} {z : Int32 × MM} (h : f_Syntax_behindUnit n x0 x1 M = some z) : (M.1.2.1 x0).1 = 8 := by
  unfold f_Syntax_behindUnit at h
  exact (og_s h).1
theorem t_Syntax_behindUnit (n : Nat) (x0 : Nat) (x1 : Int32) (M : MM) (z : Int32 × MM) (h : f_Syntax_behindUnit n x0 x1 M = some z) : CT m_Syntax_behindUnit (rm 1 0 0) [.ref x0, .int x1] M (some (.int z.1)) z.2 := by
  unfold f_Syntax_behindUnit at h
  obtain ⟨hthis, h⟩ := og_s h
  refine CT.of (ls := [some (.ref x0), some (.int x1)]) rfl (okp rfl) rfl ?_
  refine e_iload_n d_Syntax_behindUnit_0 rfl ?_
  refine e_bipush (v := 43) d_Syntax_behindUnit_1 (by decide) ?_
  refine e_ic_eq 18 d_Syntax_behindUnit_3 (by decide) (fun c4 => ?_) (fun c4 => ?_)
  · replace h := ift c4 h
    refine e_iconst (v := 3) d_Syntax_behindUnit_18 (by decide) ?_
    cases h
    exact e_iret d_Syntax_behindUnit_19 rfl (Nat.le_refl _) (Nat.le_refl _)
  · replace h := ifn c4 h
    refine e_iload_n d_Syntax_behindUnit_6 rfl ?_
    refine e_bipush (v := 45) d_Syntax_behindUnit_7 (by decide) ?_
    refine e_ic_eq 18 d_Syntax_behindUnit_9 (by decide) (fun c5 => ?_) (fun c5 => ?_)
    · replace h := ift c5 h
      refine e_iconst (v := 3) d_Syntax_behindUnit_18 (by decide) ?_
      cases h
      exact e_iret d_Syntax_behindUnit_19 rfl (Nat.le_refl _) (Nat.le_refl _)
    · replace h := ifn c5 h
      refine e_iload_n d_Syntax_behindUnit_12 rfl ?_
      refine e_bipush (v := 38) d_Syntax_behindUnit_13 (by decide) ?_
      refine e_ic_ne 20 d_Syntax_behindUnit_15 (by decide) (fun c6 => ?_) (fun c6 => ?_)
      · replace h := ifn c6 h
        refine e_iload_n d_Syntax_behindUnit_20 rfl ?_
        refine e_bipush (v := 41) d_Syntax_behindUnit_21 (by decide) ?_
        refine e_ic_ne 46 d_Syntax_behindUnit_23 (by decide) (fun c7 => ?_) (fun c7 => ?_)
        · replace h := ifn c7 h
          exact (t_Syntax_behindUnit_46 n x0 x1 M z h).less (show LSub _ _ from ⟨rfl, ⟨rfl, trivial⟩⟩)
        · replace h := ift c7 h
          refine e_aload_n d_Syntax_behindUnit_26 rfl ?_
          obtain ⟨v8, hv8, h⟩ := bnd h
          refine e_getI d_Syntax_behindUnit_27 fl_Syntax_18 (fun _ _ _ => rfl) hv8 ?_
          refine e_if_le 46 d_Syntax_behindUnit_30 (by decide) (fun c9 => ?_) (fun c9 => ?_)
          · replace h := ift c9 h
            exact (t_Syntax_behindUnit_46 n x0 x1 M z h).less (show LSub _ _ from ⟨rfl, ⟨rfl, trivial⟩⟩)
          · replace h := ifn c9 h
            refine e_aload_n d_Syntax_behindUnit_33 rfl ?_
            refine e_dup d_Syntax_behindUnit_34 rfl ?_
            obtain ⟨v10, hv10, h⟩ := bnd h
            refine e_getI d_Syntax_behindUnit_35 fl_Syntax_18 (fun _ _ _ => rfl) hv10 ?_
            refine e_iconst (v := 1) d_Syntax_behindUnit_38 (by decide) ?_
            refine e_isub d_Syntax_behindUnit_39 ?_
            obtain ⟨M11, hM11, h⟩ := bnd h
            refine e_putI d_Syntax_behindUnit_40 fl_Syntax_18 (Or.inl rfl) (fun _ _ _ => rfl) rfl hM11 ?_
            refine e_bipush (v := 7) d_Syntax_behindUnit_43 (by decide) ?_
            cases h
            exact e_iret d_Syntax_behindUnit_45 rfl (Nat.le_refl _) (Nat.le_refl _)
      · replace h := ift c6 h
        refine e_iconst (v := 3) d_Syntax_behindUnit_18 (by decide) ?_
        cases h
        exact e_iret d_Syntax_behindUnit_19 rfl (Nat.le_refl _) (Nat.le_refl _)
theorem d_Syntax_next_0 : DC m_Syntax_next 0 (.aload_n 0) 1 1 := ⟨by decide +kernel, rfl⟩
theorem d_Syntax_next_1 : DC m_Syntax_next 1 (.getfield 11) 3 4 := ⟨by decide +kernel, rfl⟩
theorem d_Syntax_next_4 : DC m_Syntax_next 4 (.tableswitch 119 0 7 #[48, 54, 66, 79, 85, 101, 107, 113]) 48 52 := ⟨by decide +kernel, rfl⟩
theorem d_Syntax_next_52 : DC m_Syntax_next 52 (.aload_n 0) 1 53 := ⟨by decide +kernel, rfl⟩
theorem d_Syntax_next_53 : DC m_Syntax_next 53 (.iload_n 1) 1 54 := ⟨by decide +kernel, rfl⟩
theorem d_Syntax_next_54 : DC m_Syntax_next 54 (.invokevirtual 47) 3 57 := ⟨by decide +kernel, rfl⟩
theorem d_Syntax_next_57 : DC m_Syntax_next 57 .ireturn 1 58 := ⟨by decide +kernel, rfl⟩
theorem d_Syntax_next_58 : DC m_Syntax_next 58 (.iload_n 1) 1 59 := ⟨by decide +kernel, rfl⟩
theorem d_Syntax_next_59 : DC m_Syntax_next 59 (.iconst 2) 1 60 := ⟨by decide +kernel, rfl⟩
theorem d_Syntax_next_60 : DC m_Syntax_next 60 (.if_icmp .ne 7) 3 63 := ⟨by decide +kernel, rfl⟩
theorem d_Syntax_next_63 : DC m_Syntax_next 63 (.iconst 2) 1 64 := ⟨by decide +kernel, rfl⟩
theorem d_Syntax_next_64 : DC m_Syntax_next 64 (.goto 5) 3 67 := ⟨by decide +kernel, rfl⟩
theorem d_Syntax_next_67 : DC m_Syntax_next 67 (.bipush 8) 2 69 := ⟨by decide +kernel, rfl⟩
theorem d_Syntax_next_69 : DC m_Syntax_next 69 .ireturn 1 70 := ⟨by decide +kernel, rfl⟩
theorem d_Syntax_next_70 : DC m_Syntax_next 70 (.iload_n 1) 1 71 := ⟨by decide +kernel, rfl⟩
theorem d_Syntax_next_71 : DC m_Syntax_next 71 (.bipush 61) 2 73 := ⟨by decide +kernel, rfl⟩
theorem d_Syntax_next_73 : DC m_Syntax_next 73 (.if_icmp .ne 7) 3 76 := ⟨by decide +kernel, rfl⟩
theorem d_Syntax_next_76 : DC m_Syntax_next 76 (.iconst 3) 1 77 := ⟨by decide +kernel, rfl⟩
theorem d_Syntax_next_77 : DC m_Syntax_next 77 (.goto 5) 3 80 := ⟨by decide +kernel, rfl⟩
theorem d_Syntax_next_80 : DC m_Syntax_next 80 (.bipush 8) 2 82 := ⟨by decide +kernel, rfl⟩
theorem d_Syntax_next_82 : DC m_Syntax_next 82 .ireturn 1 83 := ⟨by decide +kernel, rfl⟩
theorem d_Syntax_next_83 : DC m_Syntax_next 83 (.aload_n 0) 1 84 := ⟨by decide +kernel, rfl⟩
theorem d_Syntax_next_84 : DC m_Syntax_next 84 (.iload_n 1) 1 85 := ⟨by decide +kernel, rfl⟩
theorem d_Syntax_next_85 : DC m_Syntax_next 85 (.invokevirtual 50) 3 88 := ⟨by decide +kernel, rfl⟩
theorem d_Syntax_next_88 : DC m_Syntax_next 88 .ireturn 1 89 := ⟨by decide +kernel, rfl⟩
theorem d_Syntax_next_89 : DC m_Syntax_next 89 (.iload_n 1) 1 90 := ⟨by decide +kernel, rfl⟩
theorem d_Syntax_next_90 : DC m_Syntax_next 90 (.bipush 45) 2 92 := ⟨by decide +kernel, rfl⟩
theorem d_Syntax_next_92 : DC m_Syntax_next 92 (.if_icmp .ne 7) 3 95 := ⟨by decide +kernel, rfl⟩
theorem d_Syntax_next_95 : DC m_Syntax_next 95 (.iconst 5) 1 96 := ⟨by decide +kernel, rfl⟩
theorem d_Syntax_next_96 : DC m_Syntax_next 96 (.goto 8) 3 99 := ⟨by decide +kernel, rfl⟩
theorem d_Syntax_next_99 : DC m_Syntax_next 99 (.aload_n 0) 1 100 := ⟨by decide +kernel, rfl⟩
theorem d_Syntax_next_100 : DC m_Syntax_next 100 (.iload_n 1) 1 101 := ⟨by decide +kernel, rfl⟩
theorem d_Syntax_next_101 : DC m_Syntax_next 101 (.invokevirtual 53) 3 104 := ⟨by decide +kernel, rfl⟩
theorem d_Syntax_next_104 : DC m_Syntax_next 104 .ireturn 1 105 := ⟨by decide +kernel, rfl⟩
theorem d_Syntax_next_105 : DC m_Syntax_next 105 (.aload_n 0) 1 106 := ⟨by decide +kernel, rfl⟩
theorem d_Syntax_next_106 : DC m_Syntax_next 106 (.iload_n 1) 1 107 := ⟨by decide +kernel, rfl⟩
theorem d_Syntax_next_107 : DC m_Syntax_next 107 (.invokevirtual 53) 3 110 := ⟨by decide +kernel, rfl⟩
theorem d_Syntax_next_110 : DC m_Syntax_next 110 .ireturn 1 111 := ⟨by decide +kernel, rfl⟩
theorem d_Syntax_next_111 : DC m_Syntax_next 111 (.aload_n 0) 1 112 := ⟨by decide +kernel, rfl⟩
theorem d_Syntax_next_112 : DC m_Syntax_next 112 (.iload_n 1) 1 113 := ⟨by decide +kernel, rfl⟩
theorem d_Syntax_next_113 : DC m_Syntax_next 113 (.invokevirtual 56) 3 116 := ⟨by decide +kernel, rfl⟩
theorem d_Syntax_next_116 : DC m_Syntax_next 116 .ireturn 1 117 := ⟨by decide +kernel, rfl⟩
theorem d_Syntax_next_117 : DC m_Syntax_next 117 (.aload_n 0) 1 118 := ⟨by decide +kernel, rfl⟩
theorem d_Syntax_next_118 : DC m_Syntax_next 118 (.iload_n 1) 1 119 := ⟨by decide +kernel, rfl⟩
theorem d_Syntax_next_119 : DC m_Syntax_next 119 (.invokevirtual 59) 3 122 := ⟨by decide +kernel, rfl⟩
theorem d_Syntax_next_122 : DC m_Syntax_next 122 .ireturn 1 123 := ⟨by decide +kernel, rfl⟩
theorem d_Syntax_next_123 : DC m_Syntax_next 123 (.bipush 8) 2 125 := ⟨by decide +kernel, rfl⟩
theorem d_Syntax_next_125 : DC m_Syntax_next 125 .ireturn 1 126 := ⟨by decide +kernel, rfl⟩
def f_Syntax_next (n : Nat) (x0 : Nat) (x1 : Int32) (M : MM) : Option (Int32 × MM) :=
  og 8 x0 M <|
  (gI 8 0 x0 M).bind fun v1 =>
  if v1 = 0 then
    (f_Syntax_behindTelling n x0 x1 M).bind fun p3 =>
    some (p3.1, p3.2)
  else
    if v1 = 1 then
      if x1 = 2 then
        some (2, M)
      else
        some (8, M)
    else
      if v1 = 2 then
        if x1 = 61 then
          some (3, M)
        else
          some (8, M)
      else
        if v1 = 3 then
          (f_Syntax_inPart n x0 x1 M).bind fun p9 =>
          some (p9.1, p9.2)
        else
          if v1 = 4 then
            if x1 = 45 then
              some (5, M)
            else
              (f_Syntax_behindShiftNumber n x0 x1 M).bind fun p12 =>
              some (p12.1, p12.2)
          else
            if v1 = 5 then
              (f_Syntax_behindShiftNumber n x0 x1 M).bind fun p14 =>
              some (p14.1, p14.2)
            else
              if v1 = 6 then
                (f_Syntax_behindUnitNumber n x0 x1 M).bind fun p16 =>
                some (p16.1, p16.2)
              else
                if v1 = 7 then
                  (f_Syntax_behindUnit n x0 x1 M).bind fun p18 =>
                  some (p18.1, p18.2)
                else
                  some (8, M)
theorem fc_Syntax_next {n : Nat} {x0 : Nat} {x1 : Int32} {M : MM} {z : Int32 × MM} (h : f_Syntax_next n x0 x1 M = some z) : (M.1.2.1 x0).1 = 8 := by
  unfold f_Syntax_next at h
  exact (og_s h).1
theorem t_Syntax_next (n : Nat) (x0 : Nat) (x1 : Int32) (M : MM) (z : Int32 × MM) (h : f_Syntax_next n x0 x1 M = some z) : CT m_Syntax_next (rm 2 0 0) [.ref x0, .int x1] M (some (.int z.1)) z.2 := by
  unfold f_Syntax_next at h
  obtain ⟨hthis, h⟩ := og_s h
  refine CT.of (ls := [some (.ref x0), some (.int x1)]) rfl (okp rfl) rfl ?_
  refine e_aload_n d_Syntax_next_0 rfl ?_
  obtain ⟨v1, hv1, h⟩ := bnd h
  refine e_getI d_Syntax_next_1 fl_Syntax_11 (fun _ _ _ => rfl) hv1 ?_
  by_cases c2 : v1 = 0
  · replace h := ift c2 h
    refine e_tabEq 52 d_Syntax_next_4 c2 (by decide) (by decide) rfl (by decide) ?_
    refine e_aload_n d_Syntax_next_52 rfl ?_
    refine e_iload_n d_Syntax_next_53 rfl ?_
    obtain ⟨p3, hp3, h⟩ := bnd h
    refine e_cVi (mt1 := m_Syntax_behindTelling) (As := [.int x1]) (st := []) d_Syntax_next_54 ml_Syntax_47 mv_Syntax_behindTelling (t_Syntax_behindTelling n x0 x1 M p3 hp3) (fc_Syntax_behindTelling hp3) rfl rfl rfl (okp rfl) (okp rfl) (okp rfl) (Nat.le_refl _) (Nat.le_refl _) ?_
    cases h
    exact e_iret d_Syntax_next_57 rfl (Nat.le_refl _) (Nat.le_refl _)
  · replace h := ifn c2 h
    by_cases c4 : v1 = 1
    · replace h := ift c4 h
      refine e_tabEq 58 d_Syntax_next_4 c4 (by decide) (by decide) rfl (by decide) ?_
      refine e_iload_n d_Syntax_next_58 rfl ?_
      refine e_iconst (v := 2) d_Syntax_next_59 (by decide) ?_
      refine e_ic_ne 67 d_Syntax_next_60 (by decide) (fun c5 => ?_) (fun c5 => ?_)
      · replace h := ifn c5 h
        refine e_bipush (v := 8) d_Syntax_next_67 (by decide) ?_
        cases h
        exact e_iret d_Syntax_next_69 rfl (Nat.le_refl _) (Nat.le_refl _)
      · replace h := ift c5 h
        refine e_iconst (v := 2) d_Syntax_next_63 (by decide) ?_
        refine e_goto 69 d_Syntax_next_64 (by decide) ?_
        cases h
        exact e_iret d_Syntax_next_69 rfl (Nat.le_refl _) (Nat.le_refl _)
    · replace h := ifn c4 h
      by_cases c6 : v1 = 2
      · replace h := ift c6 h
        refine e_tabEq 70 d_Syntax_next_4 c6 (by decide) (by decide) rfl (by decide) ?_
        refine e_iload_n d_Syntax_next_70 rfl ?_
        refine e_bipush (v := 61) d_Syntax_next_71 (by decide) ?_
        refine e_ic_ne 80 d_Syntax_next_73 (by decide) (fun c7 => ?_) (fun c7 => ?_)
        · replace h := ifn c7 h
          refine e_bipush (v := 8) d_Syntax_next_80 (by decide) ?_
          cases h
          exact e_iret d_Syntax_next_82 rfl (Nat.le_refl _) (Nat.le_refl _)
        · replace h := ift c7 h
          refine e_iconst (v := 3) d_Syntax_next_76 (by decide) ?_
          refine e_goto 82 d_Syntax_next_77 (by decide) ?_
          cases h
          exact e_iret d_Syntax_next_82 rfl (Nat.le_refl _) (Nat.le_refl _)
      · replace h := ifn c6 h
        by_cases c8 : v1 = 3
        · replace h := ift c8 h
          refine e_tabEq 83 d_Syntax_next_4 c8 (by decide) (by decide) rfl (by decide) ?_
          refine e_aload_n d_Syntax_next_83 rfl ?_
          refine e_iload_n d_Syntax_next_84 rfl ?_
          obtain ⟨p9, hp9, h⟩ := bnd h
          refine e_cVi (mt1 := m_Syntax_inPart) (As := [.int x1]) (st := []) d_Syntax_next_85 ml_Syntax_50 mv_Syntax_inPart (t_Syntax_inPart n x0 x1 M p9 hp9) (fc_Syntax_inPart hp9) rfl rfl rfl (okp rfl) (okp rfl) (okp rfl) (Nat.le_refl _) (Nat.le_refl _) ?_
          cases h
          exact e_iret d_Syntax_next_88 rfl (Nat.le_refl _) (Nat.le_refl _)
        · replace h := ifn c8 h
          by_cases c10 : v1 = 4
          · replace h := ift c10 h
            refine e_tabEq 89 d_Syntax_next_4 c10 (by decide) (by decide) rfl (by decide) ?_
            refine e_iload_n d_Syntax_next_89 rfl ?_
            refine e_bipush (v := 45) d_Syntax_next_90 (by decide) ?_
            refine e_ic_ne 99 d_Syntax_next_92 (by decide) (fun c11 => ?_) (fun c11 => ?_)
            · replace h := ifn c11 h
              refine e_aload_n d_Syntax_next_99 rfl ?_
              refine e_iload_n d_Syntax_next_100 rfl ?_
              obtain ⟨p12, hp12, h⟩ := bnd h
              refine e_cVi (mt1 := m_Syntax_behindShiftNumber) (As := [.int x1]) (st := []) d_Syntax_next_101 ml_Syntax_53 mv_Syntax_behindShiftNumber (t_Syntax_behindShiftNumber n x0 x1 M p12 hp12) (fc_Syntax_behindShiftNumber hp12) rfl rfl rfl (okp rfl) (okp rfl) (okp rfl) (Nat.le_refl _) (Nat.le_refl _) ?_
              cases h
              exact e_iret d_Syntax_next_104 rfl (Nat.le_refl _) (Nat.le_refl _)
            · replace h := ift c11 h
              refine e_iconst (v := 5) d_Syntax_next_95 (by decide) ?_
              refine e_goto 104 d_Syntax_next_96 (by decide) ?_
              cases h
              exact e_iret d_Syntax_next_104 rfl (Nat.le_refl _) (Nat.le_refl _)
          · replace h := ifn c10 h
            by_cases c13 : v1 = 5
            · replace h := ift c13 h
              refine e_tabEq 105 d_Syntax_next_4 c13 (by decide) (by decide) rfl (by decide) ?_
              refine e_aload_n d_Syntax_next_105 rfl ?_
              refine e_iload_n d_Syntax_next_106 rfl ?_
              obtain ⟨p14, hp14, h⟩ := bnd h
              refine e_cVi (mt1 := m_Syntax_behindShiftNumber) (As := [.int x1]) (st := []) d_Syntax_next_107 ml_Syntax_53 mv_Syntax_behindShiftNumber (t_Syntax_behindShiftNumber n x0 x1 M p14 hp14) (fc_Syntax_behindShiftNumber hp14) rfl rfl rfl (okp rfl) (okp rfl) (okp rfl) (Nat.le_refl _) (Nat.le_refl _) ?_
              cases h
              exact e_iret d_Syntax_next_110 rfl (Nat.le_refl _) (Nat.le_refl _)
            · replace h := ifn c13 h
              by_cases c15 : v1 = 6
              · replace h := ift c15 h
                refine e_tabEq 111 d_Syntax_next_4 c15 (by decide) (by decide) rfl (by decide) ?_
                refine e_aload_n d_Syntax_next_111 rfl ?_
                refine e_iload_n d_Syntax_next_112 rfl ?_
                obtain ⟨p16, hp16, h⟩ := bnd h
                refine e_cVi (mt1 := m_Syntax_behindUnitNumber) (As := [.int x1]) (st := []) d_Syntax_next_113 ml_Syntax_56 mv_Syntax_behindUnitNumber (t_Syntax_behindUnitNumber n x0 x1 M p16 hp16) (fc_Syntax_behindUnitNumber hp16) rfl rfl rfl (okp rfl) (okp rfl) (okp rfl) (Nat.le_refl _) (Nat.le_refl _) ?_
                cases h
                exact e_iret d_Syntax_next_116 rfl (Nat.le_refl _) (Nat.le_refl _)
              · replace h := ifn c15 h
                by_cases c17 : v1 = 7
                · replace h := ift c17 h
                  refine e_tabEq 117 d_Syntax_next_4 c17 (by decide) (by decide) rfl (by decide) ?_
                  refine e_aload_n d_Syntax_next_117 rfl ?_
                  refine e_iload_n d_Syntax_next_118 rfl ?_
                  obtain ⟨p18, hp18, h⟩ := bnd h
                  refine e_cVi (mt1 := m_Syntax_behindUnit) (As := [.int x1]) (st := []) d_Syntax_next_119 ml_Syntax_59 mv_Syntax_behindUnit (t_Syntax_behindUnit n x0 x1 M p18 hp18) (fc_Syntax_behindUnit hp18) rfl rfl rfl (okp rfl) (okp rfl) (okp rfl) (Nat.le_refl _) (Nat.le_refl _) ?_
                  cases h
                  exact e_iret d_Syntax_next_122 rfl (Nat.le_refl _) (Nat.le_refl _)
                · replace h := ifn c17 h
                  refine e_tabOut 123 d_Syntax_next_4 (tab_o 0 8 [0, 1, 2, 3, 4, 5, 6, 7] (by decide) (by decide) (by decide) (fa_c c2 (fa_c c4 (fa_c c6 (fa_c c8 (fa_c c10 (fa_c c13 (fa_c c15 (fa_c c17 fa_n))))))))) (by decide) ?_
                  refine e_bipush (v := 8) d_Syntax_next_123 (by decide) ?_
                  cases h
                  exact e_iret d_Syntax_next_125 rfl (Nat.le_refl _) (Nat.le_refl _)
theorem d_Syntax_lacksRoom_0 : DC m_Syntax_lacksRoom 0 (.aload_n 0) 1 1 := ⟨by decide +kernel, rfl⟩
theorem d_Syntax_lacksRoom_1 : DC m_Syntax_lacksRoom 1 (.getfield 21) 3 4 := ⟨by decide +kernel, rfl⟩
theorem d_Syntax_lacksRoom_4 : DC m_Syntax_lacksRoom 4 (.bipush 8) 2 6 := ⟨by decide +kernel, rfl⟩
theorem d_Syntax_lacksRoom_6 : DC m_Syntax_lacksRoom 6 (.if_icmp .gt 21) 3 9 := ⟨by decide +kernel, rfl⟩
theorem d_Syntax_lacksRoom_9 : DC m_Syntax_lacksRoom 9 (.aload_n 0) 1 10 := ⟨by decide +kernel, rfl⟩
theorem d_Syntax_lacksRoom_10 : DC m_Syntax_lacksRoom 10 (.getfield 24) 3 13 := ⟨by decide +kernel, rfl⟩
theorem d_Syntax_lacksRoom_13 : DC m_Syntax_lacksRoom 13 (.bipush 6) 2 15 := ⟨by decide +kernel, rfl⟩
theorem d_Syntax_lacksRoom_15 : DC m_Syntax_lacksRoom 15 (.if_icmp .gt 12) 3 18 := ⟨by decide +kernel, rfl⟩
theorem d_Syntax_lacksRoom_18 : DC m_Syntax_lacksRoom 18 (.aload_n 0) 1 19 := ⟨by decide +kernel, rfl⟩
theorem d_Syntax_lacksRoom_19 : DC m_Syntax_lacksRoom 19 (.getfield 18) 3 22 := ⟨by decide +kernel, rfl⟩
theorem d_Syntax_lacksRoom_22 : DC m_Syntax_lacksRoom 22 (.bipush 6) 2 24 := ⟨by decide +kernel, rfl⟩
theorem d_Syntax_lacksRoom_24 : DC m_Syntax_lacksRoom 24 (.if_icmp .le 7) 3 27 := ⟨by decide +kernel, rfl⟩
theorem d_Syntax_lacksRoom_27 : DC m_Syntax_lacksRoom 27 (.iconst 1) 1 28 := ⟨by decide +kernel, rfl⟩
theorem d_Syntax_lacksRoom_28 : DC m_Syntax_lacksRoom 28 (.goto 4) 3 31 := ⟨by decide +kernel, rfl⟩
theorem d_Syntax_lacksRoom_31 : DC m_Syntax_lacksRoom 31 (.iconst 0) 1 32 := ⟨by decide +kernel, rfl⟩
theorem d_Syntax_lacksRoom_32 : DC m_Syntax_lacksRoom 32 .ireturn 1 33 := ⟨by decide +kernel, rfl⟩
def f_Syntax_lacksRoom_27 (n : Nat) (M : MM) : Option (Int32 × MM) :=
  some (1, M)
theorem t_Syntax_lacksRoom_27 (n : Nat) (M : MM) (z : Int32 × MM) (h : f_Syntax_lacksRoom_27 n M = some z) : EV m_Syntax_lacksRoom (rm 1 0 0) (some (.int z.1)) z.2 0 0 27 [none] [] M := by
  unfold f_Syntax_lacksRoom_27 at h
  refine e_iconst (v := 1) d_Syntax_lacksRoom_27 (by decide) ?_
  refine e_goto 32 d_Syntax_lacksRoom_28 (by decide) ?_
  cases h
  exact e_zret (ty := .boolean) d_Syntax_lacksRoom_32 rfl narZ1 (Nat.le_refl _) (Nat.le_refl _)
def f_Syntax_lacksRoom (n : Nat) (x0 : Nat) (M : MM) : Option (Int32 × MM) :=
  og 8 x0 M <|
  (gI 8 3 x0 M).bind fun v1 =>
  if 8 < v1 then
    f_Syntax_lacksRoom_27 n M
  else
    (gI 8 4 x0 M).bind fun v3 =>
    if 6 < v3 then
      f_Syntax_lacksRoom_27 n M
    else
      (gI 8 2 x0 M).bind fun v5 =>
      if v5 ≤ 6 then
        some (0, M)
      else
        f_Syntax_lacksRoom_27 n M
theorem fc_Syntax_lacksRoom {n : Nat} {x0 : Nat} {M : MM} {z : Int32 × MM} (h : f_Syntax_lacksRoom n x0 M = some z) : (M.1.2.1 x0).1 = 8 := by
  unfold f_Syntax_lacksRoom at h
  exact (og_s h).1
theorem t_Syntax_lacksRoom (n : Nat) (x0 : Nat) (M : MM) (z : Int32 × MM) (h : f_Syntax_lacksRoom n x0 M = some z) : CT m_Syntax_lacksRoom (rm 1 0 0) [.ref x0] M (some (.int z.1)) z.2 := by
  unfold f_Syntax_lacksRoom at h
  obtain ⟨hthis, h⟩ := og_s h
  refine CT.of (ls := [some (.ref x0)]) rfl (okp rfl) rfl ?_
  refine e_aload_n d_Syntax_lacksRoom_0 rfl ?_
  obtain ⟨v1, hv1, h⟩ := bnd h
  refine e_getI d_Syntax_lacksRoom_1 fl_Syntax_21 (fun _ _ _ => rfl) hv1 ?_
  refine e_bipush (v := 8) d_Syntax_lacksRoom_4 (by decide) ?_
  refine e_ic_gt 27 d_Syntax_lacksRoom_6 (by decide) (fun c2 => ?_) (fun c2 => ?_)
  · replace h := ift c2 h
    exact (t_Syntax_lacksRoom_27 n  M z h).less (show LSub _ _ from trivial)
  · replace h := ifn c2 h
    refine e_aload_n d_Syntax_lacksRoom_9 rfl ?_
    obtain ⟨v3, hv3, h⟩ := bnd h
    refine e_getI d_Syntax_lacksRoom_10 fl_Syntax_24 (fun _ _ _ => rfl) hv3 ?_
    refine e_bipush (v := 6) d_Syntax_lacksRoom_13 (by decide) ?_
    refine e_ic_gt 27 d_Syntax_lacksRoom_15 (by decide) (fun c4 => ?_) (fun c4 => ?_)
    · replace h := ift c4 h
      exact (t_Syntax_lacksRoom_27 n  M z h).less (show LSub _ _ from trivial)
    · replace h := ifn c4 h
      refine e_aload_n d_Syntax_lacksRoom_18 rfl ?_
      obtain ⟨v5, hv5, h⟩ := bnd h
      refine e_getI d_Syntax_lacksRoom_19 fl_Syntax_18 (fun _ _ _ => rfl) hv5 ?_
      refine e_bipush (v := 6) d_Syntax_lacksRoom_22 (by decide) ?_
      refine e_ic_le 31 d_Syntax_lacksRoom_24 (by decide) (fun c6 => ?_) (fun c6 => ?_)
      · replace h := ift c6 h
        refine e_iconst (v := 0) d_Syntax_lacksRoom_31 (by decide) ?_
        cases h
        exact e_zret (ty := .boolean) d_Syntax_lacksRoom_32 rfl narZ0 (Nat.le_refl _) (Nat.le_refl _)
      · replace h := ifn c6 h
        exact (t_Syntax_lacksRoom_27 n  M z h).less (show LSub _ _ from trivial)
theorem d_Syntax_check_0 : DC m_Syntax_check 0 (.aload_n 0) 1 1 := ⟨by decide +kernel, rfl⟩
theorem d_Syntax_check_1 : DC m_Syntax_check 1 (.iconst 0) 1 2 := ⟨by decide +kernel, rfl⟩
theorem d_Syntax_check_2 : DC m_Syntax_check 2 (.putfield 11) 3 5 := ⟨by decide +kernel, rfl⟩
theorem d_Syntax_check_5 : DC m_Syntax_check 5 (.aload_n 0) 1 6 := ⟨by decide +kernel, rfl⟩
theorem d_Syntax_check_6 : DC m_Syntax_check 6 (.iconst 0) 1 7 := ⟨by decide +kernel, rfl⟩
theorem d_Syntax_check_7 : DC m_Syntax_check 7 (.putfield 15) 3 10 := ⟨by decide +kernel, rfl⟩
theorem d_Syntax_check_10 : DC m_Syntax_check 10 (.aload_n 0) 1 11 := ⟨by decide +kernel, rfl⟩
theorem d_Syntax_check_11 : DC m_Syntax_check 11 (.iconst 0) 1 12 := ⟨by decide +kernel, rfl⟩
theorem d_Syntax_check_12 : DC m_Syntax_check 12 (.putfield 18) 3 15 := ⟨by decide +kernel, rfl⟩
theorem d_Syntax_check_15 : DC m_Syntax_check 15 (.aload_n 0) 1 16 := ⟨by decide +kernel, rfl⟩
theorem d_Syntax_check_16 : DC m_Syntax_check 16 (.iconst 0) 1 17 := ⟨by decide +kernel, rfl⟩
theorem d_Syntax_check_17 : DC m_Syntax_check 17 (.putfield 21) 3 20 := ⟨by decide +kernel, rfl⟩
theorem d_Syntax_check_20 : DC m_Syntax_check 20 (.aload_n 0) 1 21 := ⟨by decide +kernel, rfl⟩
theorem d_Syntax_check_21 : DC m_Syntax_check 21 (.iconst 0) 1 22 := ⟨by decide +kernel, rfl⟩
theorem d_Syntax_check_22 : DC m_Syntax_check 22 (.putfield 24) 3 25 := ⟨by decide +kernel, rfl⟩
theorem d_Syntax_check_25 : DC m_Syntax_check 25 (.iconst 0) 1 26 := ⟨by decide +kernel, rfl⟩
theorem d_Syntax_check_26 : DC m_Syntax_check 26 (.istore_n 2) 1 27 := ⟨by decide +kernel, rfl⟩
theorem d_Syntax_check_27 : DC m_Syntax_check 27 (.iload_n 2) 1 28 := ⟨by decide +kernel, rfl⟩
theorem d_Syntax_check_28 : DC m_Syntax_check 28 (.aload_n 1) 1 29 := ⟨by decide +kernel, rfl⟩
theorem d_Syntax_check_29 : DC m_Syntax_check 29 (.getfield 27) 3 32 := ⟨by decide +kernel, rfl⟩
theorem d_Syntax_check_32 : DC m_Syntax_check 32 (.if_icmp .ge 59) 3 35 := ⟨by decide +kernel, rfl⟩
theorem d_Syntax_check_35 : DC m_Syntax_check 35 (.aload_n 0) 1 36 := ⟨by decide +kernel, rfl⟩
theorem d_Syntax_check_36 : DC m_Syntax_check 36 (.aload_n 0) 1 37 := ⟨by decide +kernel, rfl⟩
theorem d_Syntax_check_37 : DC m_Syntax_check 37 (.aload_n 1) 1 38 := ⟨by decide +kernel, rfl⟩
theorem d_Syntax_check_38 : DC m_Syntax_check 38 (.iload_n 2) 1 39 := ⟨by decide +kernel, rfl⟩
theorem d_Syntax_check_39 : DC m_Syntax_check 39 (.invokevirtual 32) 3 42 := ⟨by decide +kernel, rfl⟩
theorem d_Syntax_check_42 : DC m_Syntax_check 42 (.invokevirtual 36) 3 45 := ⟨by decide +kernel, rfl⟩
theorem d_Syntax_check_45 : DC m_Syntax_check 45 (.putfield 11) 3 48 := ⟨by decide +kernel, rfl⟩
theorem d_Syntax_check_48 : DC m_Syntax_check 48 (.aload_n 0) 1 49 := ⟨by decide +kernel, rfl⟩
theorem d_Syntax_check_49 : DC m_Syntax_check 49 (.getfield 11) 3 52 := ⟨by decide +kernel, rfl⟩
theorem d_Syntax_check_52 : DC m_Syntax_check 52 (.bipush 8) 2 54 := ⟨by decide +kernel, rfl⟩
theorem d_Syntax_check_54 : DC m_Syntax_check 54 (.if_icmp .ne 10) 3 57 := ⟨by decide +kernel, rfl⟩
theorem d_Syntax_check_57 : DC m_Syntax_check 57 (.aload_n 1) 1 58 := ⟨by decide +kernel, rfl⟩
theorem d_Syntax_check_58 : DC m_Syntax_check 58 (.iconst 1) 1 59 := ⟨by decide +kernel, rfl⟩
theorem d_Syntax_check_59 : DC m_Syntax_check 59 (.iload_n 2) 1 60 := ⟨by decide +kernel, rfl⟩
theorem d_Syntax_check_60 : DC m_Syntax_check 60 (.invokevirtual 39) 3 63 := ⟨by decide +kernel, rfl⟩
theorem d_Syntax_check_63 : DC m_Syntax_check 63 .return_ 1 64 := ⟨by decide +kernel, rfl⟩
theorem d_Syntax_check_64 : DC m_Syntax_check 64 (.iload_n 2) 1 65 := ⟨by decide +kernel, rfl⟩
theorem d_Syntax_check_65 : DC m_Syntax_check 65 (.sipush 400) 3 68 := ⟨by decide +kernel, rfl⟩
theorem d_Syntax_check_68 : DC m_Syntax_check 68 (.if_icmp .ge 10) 3 71 := ⟨by decide +kernel, rfl⟩
theorem d_Syntax_check_71 : DC m_Syntax_check 71 (.aload_n 0) 1 72 := ⟨by decide +kernel, rfl⟩
theorem d_Syntax_check_72 : DC m_Syntax_check 72 (.invokevirtual 43) 3 75 := ⟨by decide +kernel, rfl⟩
theorem d_Syntax_check_75 : DC m_Syntax_check 75 (.ifCond .eq 10) 3 78 := ⟨by decide +kernel, rfl⟩
theorem d_Syntax_check_78 : DC m_Syntax_check 78 (.aload_n 1) 1 79 := ⟨by decide +kernel, rfl⟩
theorem d_Syntax_check_79 : DC m_Syntax_check 79 (.iconst 2) 1 80 := ⟨by decide +kernel, rfl⟩
theorem d_Syntax_check_80 : DC m_Syntax_check 80 (.iload_n 2) 1 81 := ⟨by decide +kernel, rfl⟩
theorem d_Syntax_check_81 : DC m_Syntax_check 81 (.invokevirtual 39) 3 84 := ⟨by decide +kernel, rfl⟩
theorem d_Syntax_check_84 : DC m_Syntax_check 84 .return_ 1 85 := ⟨by decide +kernel, rfl⟩
theorem d_Syntax_check_85 : DC m_Syntax_check 85 (.iinc 2 1) 3 88 := ⟨by decide +kernel, rfl⟩
theorem d_Syntax_check_88 : DC m_Syntax_check 88 (.goto (-61)) 3 91 := ⟨by decide +kernel, rfl⟩
theorem d_Syntax_check_91 : DC m_Syntax_check 91 (.aload_n 0) 1 92 := ⟨by decide +kernel, rfl⟩
theorem d_Syntax_check_92 : DC m_Syntax_check 92 (.getfield 11) 3 95 := ⟨by decide +kernel, rfl⟩
theorem d_Syntax_check_95 : DC m_Syntax_check 95 (.ifCond .eq 12) 3 98 := ⟨by decide +kernel, rfl⟩
theorem d_Syntax_check_98 : DC m_Syntax_check 98 (.aload_n 1) 1 99 := ⟨by decide +kernel, rfl⟩
theorem d_Syntax_check_99 : DC m_Syntax_check 99 (.iconst 1) 1 100 := ⟨by decide +kernel, rfl⟩
theorem d_Syntax_check_100 : DC m_Syntax_check 100 (.aload_n 1) 1 101 := ⟨by decide +kernel, rfl⟩
theorem d_Syntax_check_101 : DC m_Syntax_check 101 (.getfield 27) 3 104 := ⟨by decide +kernel, rfl⟩
theorem d_Syntax_check_104 : DC m_Syntax_check 104 (.invokevirtual 39) 3 107 := ⟨by decide +kernel, rfl⟩
theorem d_Syntax_check_107 : DC m_Syntax_check 107 .return_ 1 108 := ⟨by decide +kernel, rfl⟩
def f_Syntax_check_91 (n : Nat) (x0 : Nat) (x1 : Nat) (M : MM) : Option (MM) :=
  (gI 8 0 x0 M).bind fun v1 =>
  if v1 = 0 then
    some M
  else
    (gI 10 3 x1 M).bind fun v3 =>
    (f_Tokens_blame n x1 1 v3 M).bind fun M4 =>
    some M4
theorem t_Syntax_check_91 (n : Nat) (x0 : Nat) (x1 : Nat) (M : MM) (z : MM) (h : f_Syntax_check_91 n x0 x1 M = some z) : EV m_Syntax_check (rm 3 0 0) none z 0 0 91 [some (.ref x0), some (.ref x1), none] [] M := by
  unfold f_Syntax_check_91 at h
  refine e_aload_n d_Syntax_check_91 rfl ?_
  obtain ⟨v1, hv1, h⟩ := bnd h
  refine e_getI d_Syntax_check_92 fl_Syntax_11 (fun _ _ _ => rfl) hv1 ?_
  refine e_if_eq 107 d_Syntax_check_95 (by decide) (fun c2 => ?_) (fun c2 => ?_)
  · replace h := ift c2 h
    cases h
    exact e_vret d_Syntax_check_107 rfl (Nat.le_refl _) (Nat.le_refl _)
  · replace h := ifn c2 h
    refine e_aload_n d_Syntax_check_98 rfl ?_
    refine e_iconst (v := 1) d_Syntax_check_99 (by decide) ?_
    refine e_aload_n d_Syntax_check_100 rfl ?_
    obtain ⟨v3, hv3, h⟩ := bnd h
    refine e_getI d_Syntax_check_101 fl_Syntax_27 (fun _ _ _ => rfl) hv3 ?_
    obtain ⟨M4, hM4, h⟩ := bnd h
    refine e_cVv (mt1 := m_Tokens_blame) (As := [.int 1, .int v3]) (st := []) d_Syntax_check_104 ml_Syntax_39 mv_Tokens_blame (t_Tokens_blame n x1 1 v3 M M4 hM4) (fc_Tokens_blame hM4) rfl rfl rfl (okp rfl) (okp rfl) (okp rfl) (Nat.le_refl _) (Nat.le_refl _) ?_
    cases h
    exact e_vret d_Syntax_check_107 rfl (Nat.le_refl _) (Nat.le_refl _)
def f_Syntax_check_78 (n : Nat) (x1 : Nat) (x2 : Int32) (M : MM) : Option (MM) :=
  (f_Tokens_blame n x1 2 x2 M).bind fun M5 =>
  some M5
theorem t_Syntax_check_78 (n : Nat) (x1 : Nat) (x2 : Int32) (M : MM) (z : MM) (h : f_Syntax_check_78 n x1 x2 M = some z) : EV m_Syntax_check (rm 3 0 0) none z 0 0 78 [none, some (.ref x1), some (.int x2)] [] M := by
  unfold f_Syntax_check_78 at h
  refine e_aload_n d_Syntax_check_78 rfl ?_
  refine e_iconst (v := 2) d_Syntax_check_79 (by decide) ?_
  refine e_iload_n d_Syntax_check_80 rfl ?_
  obtain ⟨M5, hM5, h⟩ := bnd h
  refine e_cVv (mt1 := m_Tokens_blame) (As := [.int 2, .int x2]) (st := []) d_Syntax_check_81 ml_Syntax_39 mv_Tokens_blame (t_Tokens_blame n x1 2 x2 M M5 hM5) (fc_Tokens_blame hM5) rfl rfl rfl (okp rfl) (okp rfl) (okp rfl) (Nat.le_refl _) (Nat.le_refl _) ?_
  cases h
  exact e_vret d_Syntax_check_84 rfl (Nat.le_refl _) (Nat.le_refl _)
def f_Syntax_check_57 (n : Nat) (x1 : Nat) (x2 : Int32) (M : MM) : Option (MM) :=
  (f_Tokens_blame n x1 1 x2 M).bind fun M6 =>
  some M6
theorem t_Syntax_check_57 (n : Nat) (x1 : Nat) (x2 : Int32) (M : MM) (z : MM) (h : f_Syntax_check_57 n x1 x2 M = some z) : EV m_Syntax_check (rm 3 0 0) none z 0 0 57 [none, some (.ref x1), some (.int x2)] [] M := by
  unfold f_Syntax_check_57 at h
  refine e_aload_n d_Syntax_check_57 rfl ?_
  refine e_iconst (v := 1) d_Syntax_check_58 (by decide) ?_
  refine e_iload_n d_Syntax_check_59 rfl ?_
  obtain ⟨M6, hM6, h⟩ := bnd h
  refine e_cVv (mt1 := m_Tokens_blame) (As := [.int 1, .int x2]) (st := []) d_Syntax_check_60 ml_Syntax_39 mv_Tokens_blame (t_Tokens_blame n x1 1 x2 M M6 hM6) (fc_Tokens_blame hM6) rfl rfl rfl (okp rfl) (okp rfl) (okp rfl) (Nat.le_refl _) (Nat.le_refl _) ?_
  cases h
  exact e_vret d_Syntax_check_63 rfl (Nat.le_refl _) (Nat.le_refl _)
def f_Syntax_check_27 (n : Nat) (k_57 : Nat → Int32 → MM → Option (MM)) (k_78 : Nat → Int32 → MM → Option (MM)) (k_91 : Nat → Nat → MM → Option (MM)) : Nat → Nat → Nat → Int32 → MM → Option (MM)
  | 0, _, _, _, _ => none
  | m + 1, x0, x1, x2, M =>
    (gI 10 3 x1 M).bind fun v7 =>
    if v7 ≤ x2 then
      k_91 x0 x1 M
    else
      (f_Tokens_kindAt n x1 x2 M).bind fun p9 =>
      (f_Syntax_next n x0 p9.1 p9.2).bind fun p10 =>
      (pI 8 0 x0 p10.1 p10.2).bind fun M11 =>
      (gI 8 0 x0 M11).bind fun v12 =>
      if v12 = 8 then
        k_57 x1 x2 M11
      else
        if 400 ≤ x2 then
          k_78 x1 x2 M11
        else
          (f_Syntax_lacksRoom n x0 M11).bind fun p15 =>
          if p15.1 = 0 then
            f_Syntax_check_27 n k_57 k_78 k_91 m x0 x1 (x2 + 1) p15.2
          else
            k_78 x1 x2 p15.2
theorem t_Syntax_check_27 (n : Nat) {k_57 : Nat → Int32 → MM → Option (MM)} {k_78 : Nat → Int32 → MM → Option (MM)} {k_91 : Nat → Nat → MM → Option (MM)} (hk_57 : ∀ (x1 : Nat) (x2 : Int32) (M : MM) (z : MM), k_57 x1 x2 M = some z → EV m_Syntax_check (rm 3 0 0) none z 0 0 57 [none, some (.ref x1), some (.int x2)] [] M) (hk_78 : ∀ (x1 : Nat) (x2 : Int32) (M : MM) (z : MM), k_78 x1 x2 M = some z → EV m_Syntax_check (rm 3 0 0) none z 0 0 78 [none, some (.ref x1), some (.int x2)] [] M) (hk_91 : ∀ (x0 : Nat) (x1 : Nat) (M : MM) (z : MM), k_91 x0 x1 M = some z → EV m_Syntax_check (rm 3 0 0) none z 0 0 91 [some (.ref x0), some (.ref x1), none] [] M) : ∀ (m : Nat) (x0 : Nat) (x1 : Nat) (x2 : Int32) (M : MM) (z : MM), f_Syntax_check_27 n k_57 k_78 k_91 m x0 x1 x2 M = some z → EV m_Syntax_check (rm 3 0 0) none z 0 0 27 [some (.ref x0), some (.ref x1), some (.int x2)] [] M := by
  intro m
  induction m with
  | zero => intro x0 x1 x2 M z h; cases h
  | succ m ih =>
    intro x0 x1 x2 M z h
    rw [f_Syntax_check_27] at h
    refine e_iload_n d_Syntax_check_27 rfl ?_
    refine e_aload_n d_Syntax_check_28 rfl ?_
    obtain ⟨v7, hv7, h⟩ := bnd h
    refine e_getI d_Syntax_check_29 fl_Syntax_27 (fun _ _ _ => rfl) hv7 ?_
    refine e_ic_ge 91 d_Syntax_check_32 (by decide) (fun c8 => ?_) (fun c8 => ?_)
    · replace h := ift c8 h
      exact (hk_91 x0 x1 M z h).less (show LSub _ _ from ⟨rfl, ⟨rfl, trivial⟩⟩)
    · replace h := ifn c8 h
      refine e_aload_n d_Syntax_check_35 rfl ?_
      refine e_aload_n d_Syntax_check_36 rfl ?_
      refine e_aload_n d_Syntax_check_37 rfl ?_
      refine e_iload_n d_Syntax_check_38 rfl ?_
      obtain ⟨p9, hp9, h⟩ := bnd h
      refine e_cVi (mt1 := m_Tokens_kindAt) (As := [.int x2]) (st := [.ref x0, .ref x0]) d_Syntax_check_39 ml_Syntax_32 mv_Tokens_kindAt (t_Tokens_kindAt n x1 x2 M p9 hp9) (fc_Tokens_kindAt hp9) rfl rfl rfl (okp rfl) (okp rfl) (okp rfl) (Nat.le_refl _) (Nat.le_refl _) ?_
      obtain ⟨p10, hp10, h⟩ := bnd h
      refine e_cVi (mt1 := m_Syntax_next) (As := [.int p9.1]) (st := [.ref x0]) d_Syntax_check_42 ml_Syntax_36 mv_Syntax_next (t_Syntax_next n x0 p9.1 p9.2 p10 hp10) (fc_Syntax_next hp10) rfl rfl rfl (okp rfl) (okp rfl) (okp rfl) (Nat.le_refl _) (Nat.le_refl _) ?_
      obtain ⟨M11, hM11, h⟩ := bnd h
      refine e_putI d_Syntax_check_45 fl_Syntax_11 (Or.inl rfl) (fun _ _ _ => rfl) rfl hM11 ?_
      refine e_aload_n d_Syntax_check_48 rfl ?_
      obtain ⟨v12, hv12, h⟩ := bnd h
      refine e_getI d_Syntax_check_49 fl_Syntax_11 (fun _ _ _ => rfl) hv12 ?_
      refine e_bipush (v := 8) d_Syntax_check_52 (by decide) ?_
      refine e_ic_ne 64 d_Syntax_check_54 (by decide) (fun c13 => ?_) (fun c13 => ?_)
      · replace h := ifn c13 h
        refine e_iload_n d_Syntax_check_64 rfl ?_
        refine e_sipush (v := 400) d_Syntax_check_65 (by decide) ?_
        refine e_ic_ge 78 d_Syntax_check_68 (by decide) (fun c14 => ?_) (fun c14 => ?_)
        · replace h := ift c14 h
          exact (hk_78 x1 x2 M11 z h).less (show LSub _ _ from ⟨rfl, ⟨rfl, trivial⟩⟩)
        · replace h := ifn c14 h
          refine e_aload_n d_Syntax_check_71 rfl ?_
          obtain ⟨p15, hp15, h⟩ := bnd h
          refine e_cVi (mt1 := m_Syntax_lacksRoom) (As := []) (st := []) d_Syntax_check_72 ml_Syntax_43 mv_Syntax_lacksRoom (t_Syntax_lacksRoom n x0 M11 p15 hp15) (fc_Syntax_lacksRoom hp15) rfl rfl rfl (okp rfl) (okp rfl) (okp rfl) (Nat.le_refl _) (Nat.le_refl _) ?_
          refine e_if_eq 85 d_Syntax_check_75 (by decide) (fun c16 => ?_) (fun c16 => ?_)
          · replace h := ift c16 h
            refine e_iinc (v := x2 + 1) (l2 := [some (.ref x0), some (.ref x1), some (.int (x2 + 1))]) d_Syntax_check_85 rfl rfl rfl (okl rfl) rfl ?_
            refine e_goto 27 d_Syntax_check_88 (by decide) ?_
            exact (ih x0 x1 (x2 + 1) p15.2 z h).less (show LSub _ _ from ⟨rfl, ⟨rfl, ⟨rfl, trivial⟩⟩⟩)
          · replace h := ifn c16 h
            exact (hk_78 x1 x2 p15.2 z h).less (show LSub _ _ from ⟨rfl, ⟨rfl, trivial⟩⟩)
      · replace h := ift c13 h
        exact (hk_57 x1 x2 M11 z h).less (show LSub _ _ from ⟨rfl, ⟨rfl, trivial⟩⟩)
def f_Syntax_check (n : Nat) (x0 : Nat) (x1 : Nat) (M : MM) : Option (MM) :=
  og 8 x0 M <|
  (pI 8 0 x0 0 M).bind fun M17 =>
  (pI 8 1 x0 0 M17).bind fun M18 =>
  (pI 8 2 x0 0 M18).bind fun M19 =>
  (pI 8 3 x0 0 M19).bind fun M20 =>
  (pI 8 4 x0 0 M20).bind fun M21 =>
  f_Syntax_check_27 n (f_Syntax_check_57 n) (f_Syntax_check_78 n) (f_Syntax_check_91 n) n x0 x1 0 M21
theorem fc_Syntax_check {n : Nat} {x0 : Nat} {x1 : Nat} {M : MM} {z : MM} (h : f_Syntax_check n x0 x1 M = some z) : (M.1.2.1 x0).1 = 8 := by
  unfold f_Syntax_check at h
  exact (og_s h).1
theorem t_Syntax_check (n : Nat) (x0 : Nat) (x1 : Nat) (M : MM) (z : MM) (h : f_Syntax_check n x0 x1 M = some z) : CT m_Syntax_check (rm 3 0 0) [.ref x0, .ref x1] M none z := by
  unfold f_Syntax_check at h
  obtain ⟨hthis, h⟩ := og_s h
  refine CT.of (ls := [some (.ref x0), some (.ref x1), none]) rfl (okp rfl) rfl ?_
  refine e_aload_n d_Syntax_check_0 rfl ?_
  refine e_iconst (v := 0) d_Syntax_check_1 (by decide) ?_
  obtain ⟨M17, hM17, h⟩ := bnd h
  refine e_putI d_Syntax_check_2 fl_Syntax_11 (Or.inl rfl) (fun _ _ _ => rfl) rfl hM17 ?_
  refine e_aload_n d_Syntax_check_5 rfl ?_
  refine e_iconst (v := 0) d_Syntax_check_6 (by decide) ?_
  obtain ⟨M18, hM18, h⟩ := bnd h
  refine e_putI d_Syntax_check_7 fl_Syntax_15 (Or.inl rfl) (fun _ _ _ => rfl) rfl hM18 ?_
  refine e_aload_n d_Syntax_check_10 rfl ?_
  refine e_iconst (v := 0) d_Syntax_check_11 (by decide) ?_
  obtain ⟨M19, hM19, h⟩ := bnd h
  refine e_putI d_Syntax_check_12 fl_Syntax_18 (Or.inl rfl) (fun _ _ _ => rfl) rfl hM19 ?_
  refine e_aload_n d_Syntax_check_15 rfl ?_
  refine e_iconst (v := 0) d_Syntax_check_16 (by decide) ?_
  obtain ⟨M20, hM20, h⟩ := bnd h
  refine e_putI d_Syntax_check_17 fl_Syntax_21 (Or.inl rfl) (fun _ _ _ => rfl) rfl hM20 ?_
  refine e_aload_n d_Syntax_check_20 rfl ?_
  refine e_iconst (v := 0) d_Syntax_check_21 (by decide) ?_
  obtain ⟨M21, hM21, h⟩ := bnd h
  refine e_putI d_Syntax_check_22 fl_Syntax_24 (Or.inl rfl) (fun _ _ _ => rfl) rfl hM21 ?_
  refine e_iconst (v := 0) d_Syntax_check_25 (by decide) ?_
  refine e_istore_n (l2 := [some (.ref x0), some (.ref x1), some (.int 0)]) d_Syntax_check_26 rfl (okl rfl) rfl ?_
  exact (t_Syntax_check_27 n (t_Syntax_check_57 n) (t_Syntax_check_78 n) (t_Syntax_check_91 n) n x0 x1 0 M21 z h).less (show LSub _ _ from ⟨rfl, ⟨rfl, ⟨rfl, trivial⟩⟩⟩)
