/-! ===== the law: loop and start ===== -/
theorem le6 {i L : Nat} (hi : i ≤ 4000) (hL : L ≤ 3072) (h : ¬ (Int32.ofNat L - 6 < nI i)) : i + 6 ≤ L := by
  rcases Nat.lt_or_ge L (i + 6) with q | q
  · exfalso
    apply h
    have e : Int32.ofNat L - 6 = nI L - nI 6 := rfl
    rw [e, Int32.lt_iff_toInt_lt, pk_sub_toInt (by omega) (by omega), nI_toInt (by omega)]
    omega
  · exact q
theorem law_loop {L b : Nat} {xs : Nat → Int32} {Inv : MM → Prop} (hS : Steps32 Inv) (hL : L ≤ 3072) : ∀ (m i : Nat) (M : MM), i ≤ 3078 → L < i + m → Inv M → EVG m_Law room_1 (ZL b L xs) 610 174723 18 (LSl i) [] M := by
  intro m
  induction m with
  | zero =>
    intro i M hi hm hM
    refine e_iload_n d_Law_18 rfl ?_
    refine e_aload_nX d_Law_19 rfl ?_
    refine e_slen d_Law_20 ?_
    refine e_bipush (v := 6) d_Law_21 (by decide) ?_
    refine e_isub d_Law_23 ?_
    refine e_ic_gt 1256 d_Law_24 (by decide) (fun c => ?_) (fun c => ?_)
    · refine e_iconst (v := 1) d_Law_1256 (by decide) ?_
      exact e_lret1 d_Law_1257 (okp rfl) (okp rfl)
    · have h6 : i + 6 ≤ L := le6 (by omega) hL c
      omega
  | succ m ih =>
    intro i M hi hm hM
    refine e_iload_n d_Law_18 rfl ?_
    refine e_aload_nX d_Law_19 rfl ?_
    refine e_slen d_Law_20 ?_
    refine e_bipush (v := 6) d_Law_21 (by decide) ?_
    refine e_isub d_Law_23 ?_
    refine e_ic_gt 1256 d_Law_24 (by decide) (fun c => ?_) (fun c => ?_)
    · refine e_iconst (v := 1) d_Law_1256 (by decide) ?_
      exact e_lret1 d_Law_1257 (okp rfl) (okp rfl)
    have h6 : i + 6 ≤ L := le6 (by omega) hL c
    have nx : ∀ M2, Inv M2 → EVG m_Law room_1 (ZL b L xs) 610 174723 1250 (LSl i) [] M2 := by
      intro M2 hM2
      refine e_iinc (v := nI (i + 6)) (l2 := LSl (i + 6)) d_Law_1250 rfl (nI_k i 6) rfl (okl rfl) rfl ?_
      refine e_goto 18 d_Law_1253 (by decide) ?_
      exact ih (i + 6) M2 (by omega) (by omega) hM2
    refine e_aload_nX d_Law_27 rfl ?_
    refine e_iload_n d_Law_28 rfl ?_
    refine e_sld (j := i) d_Law_29 rfl (by omega) hL ?_
    refine e_bipush (v := 31) d_Law_30 (by decide) ?_
    refine e_iand d_Law_32 ?_
    obtain ⟨cc, hcc, e⟩ := pk_andE (xs i) (m := 31) 5 (by decide)
    match cc, hcc with
    | 0, _ =>
      refine e_tabEq (v := 0) 176 d_Law_33 e (by decide) (by decide) rfl (by decide) ?_
      exact law_c0 hS h6 hL M hM nx
    | 1, _ =>
      refine e_tabEq (v := 1) 239 d_Law_33 e (by decide) (by decide) rfl (by decide) ?_
      exact law_c1 hS h6 hL M hM nx
    | 2, _ =>
      refine e_tabEq (v := 2) 262 d_Law_33 e (by decide) (by decide) rfl (by decide) ?_
      exact law_c2 hS h6 hL M hM nx
    | 3, _ =>
      refine e_tabEq (v := 3) 275 d_Law_33 e (by decide) (by decide) rfl (by decide) ?_
      exact law_c3 hS h6 hL M hM nx
    | 4, _ =>
      refine e_tabEq (v := 4) 288 d_Law_33 e (by decide) (by decide) rfl (by decide) ?_
      exact law_c4 hS h6 hL M hM nx
    | 5, _ =>
      refine e_tabEq (v := 5) 337 d_Law_33 e (by decide) (by decide) rfl (by decide) ?_
      exact law_c5 hS h6 hL M hM nx
    | 6, _ =>
      refine e_tabEq (v := 6) 396 d_Law_33 e (by decide) (by decide) rfl (by decide) ?_
      exact law_c6 hS h6 hL M hM nx
    | 7, _ =>
      refine e_tabEq (v := 7) 445 d_Law_33 e (by decide) (by decide) rfl (by decide) ?_
      exact law_c7 hS h6 hL M hM nx
    | 8, _ =>
      refine e_tabEq (v := 8) 520 d_Law_33 e (by decide) (by decide) rfl (by decide) ?_
      exact law_c8 hS h6 hL M hM nx
    | 9, _ =>
      refine e_tabEq (v := 9) 569 d_Law_33 e (by decide) (by decide) rfl (by decide) ?_
      exact law_c9 hS h6 hL M hM nx
    | 10, _ =>
      refine e_tabEq (v := 10) 618 d_Law_33 e (by decide) (by decide) rfl (by decide) ?_
      exact law_c10 hS h6 hL M hM nx
    | 11, _ =>
      refine e_tabEq (v := 11) 677 d_Law_33 e (by decide) (by decide) rfl (by decide) ?_
      exact law_c11 hS h6 hL M hM nx
    | 12, _ =>
      refine e_tabEq (v := 12) 710 d_Law_33 e (by decide) (by decide) rfl (by decide) ?_
      exact law_c12 hS h6 hL M hM nx
    | 13, _ =>
      refine e_tabEq (v := 13) 723 d_Law_33 e (by decide) (by decide) rfl (by decide) ?_
      exact law_c13 hS h6 hL M hM nx
    | 14, _ =>
      refine e_tabEq (v := 14) 756 d_Law_33 e (by decide) (by decide) rfl (by decide) ?_
      exact law_c14 hS h6 hL M hM nx
    | 15, _ =>
      refine e_tabEq (v := 15) 789 d_Law_33 e (by decide) (by decide) rfl (by decide) ?_
      exact law_c15 hS h6 hL M hM nx
    | 16, _ =>
      refine e_tabEq (v := 16) 802 d_Law_33 e (by decide) (by decide) rfl (by decide) ?_
      exact law_c16 hS h6 hL M hM nx
    | 17, _ =>
      refine e_tabEq (v := 17) 825 d_Law_33 e (by decide) (by decide) rfl (by decide) ?_
      exact law_c17 hS h6 hL M hM nx
    | 18, _ =>
      refine e_tabEq (v := 18) 858 d_Law_33 e (by decide) (by decide) rfl (by decide) ?_
      exact law_c18 hS h6 hL M hM nx
    | 19, _ =>
      refine e_tabEq (v := 19) 881 d_Law_33 e (by decide) (by decide) rfl (by decide) ?_
      exact law_c19 hS h6 hL M hM nx
    | 20, _ =>
      refine e_tabEq (v := 20) 914 d_Law_33 e (by decide) (by decide) rfl (by decide) ?_
      exact law_c20 hS h6 hL M hM nx
    | 21, _ =>
      refine e_tabEq (v := 21) 937 d_Law_33 e (by decide) (by decide) rfl (by decide) ?_
      exact law_c21 hS h6 hL M hM nx
    | 22, _ =>
      refine e_tabEq (v := 22) 960 d_Law_33 e (by decide) (by decide) rfl (by decide) ?_
      exact law_c22 hS h6 hL M hM nx
    | 23, _ =>
      refine e_tabEq (v := 23) 1013 d_Law_33 e (by decide) (by decide) rfl (by decide) ?_
      exact law_c23 hS h6 hL M hM nx
    | 24, _ =>
      refine e_tabEq (v := 24) 1036 d_Law_33 e (by decide) (by decide) rfl (by decide) ?_
      exact law_c24 hS h6 hL M hM nx
    | 25, _ =>
      refine e_tabEq (v := 25) 1059 d_Law_33 e (by decide) (by decide) rfl (by decide) ?_
      exact law_c25 hS h6 hL M hM nx
    | 26, _ =>
      refine e_tabEq (v := 26) 1072 d_Law_33 e (by decide) (by decide) rfl (by decide) ?_
      exact law_c26 hS h6 hL M hM nx
    | 27, _ =>
      refine e_tabEq (v := 27) 1115 d_Law_33 e (by decide) (by decide) rfl (by decide) ?_
      exact law_c27 hS h6 hL M hM nx
    | 28, _ =>
      refine e_tabEq (v := 28) 1138 d_Law_33 e (by decide) (by decide) rfl (by decide) ?_
      exact law_c28 hS h6 hL M hM nx
    | 29, _ =>
      refine e_tabEq (v := 29) 1161 d_Law_33 e (by decide) (by decide) rfl (by decide) ?_
      exact law_c29 hS h6 hL M hM nx
    | 30, _ =>
      refine e_tabEq (v := 30) 1194 d_Law_33 e (by decide) (by decide) rfl (by decide) ?_
      exact law_c30 hS h6 hL M hM nx
    | 31, _ =>
      refine e_tabEq (v := 31) 1227 d_Law_33 e (by decide) (by decide) rfl (by decide) ?_
      exact law_c31 hS h6 hL M hM nx
    | j + 32, hj => exact absurd hj (by omega)
