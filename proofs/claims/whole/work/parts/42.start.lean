/-! ===== the start: what the Statement gives at the entry, as the pure world has it ===== -/
def tmS (i : Nat) : Term := .string R_Tokens (if i = 0 then 38 else 70)
theorem hm_el : ∀ i, i < 2 → ∀ j, j < lens2.getD i 0 → Cond.eq (.elem (.field (tmS i) "java/lang/String" "value" "[B") (.int (Int32.ofNat j))) (.int ((byts2.getD i []).getD j 0)) ∈ flatC (Jvm.Cond.and given_1 narrow_1) := by decide +kernel
theorem hm_ex : ∀ i, i < 2 → Cond.exactly (tmS i) "java/lang/String" ∈ flatC (Jvm.Cond.and given_1 narrow_1) := by decide +kernel
theorem hm_co : ∀ i, i < 2 → Cond.eq (.field (tmS i) "java/lang/String" "coder" "B") (.int 0) ∈ flatC (Jvm.Cond.and given_1 narrow_1) := by decide +kernel
theorem hm_ar : ∀ i, i < 2 → Cond.arrayOf (.field (tmS i) "java/lang/String" "value" "[B") .byte ∈ flatC (Jvm.Cond.and given_1 narrow_1) := by decide +kernel
theorem hm_le : ∀ i, i < 2 → Cond.eq (.length (.field (tmS i) "java/lang/String" "value" "[B")) (.int (Int32.ofNat (lens2.getD i 0))) ∈ flatC (Jvm.Cond.and given_1 narrow_1) := by decide +kernel
theorem hm_ne : Cond.not (Cond.eq (tmS 0) (tmS 1)) ∈ flatC (Jvm.Cond.and given_1 narrow_1) ∨ Cond.not (Cond.eq (tmS 1) (tmS 0)) ∈ flatC (Jvm.Cond.and given_1 narrow_1) := by decide +kernel
theorem hm_cs : Cond.eq (.static "java/lang/String" "COMPACT_STRINGS" "Z") (.int 1) ∈ flatC (Jvm.Cond.and given_1 narrow_1) := by decide +kernel
theorem hm_fm : Cond.isRef (.static "jdk/internal/util/Preconditions" "SIOOBE_FORMATTER" "Ljava/util/function/BiFunction;") ∈ flatC (Jvm.Cond.and given_1 narrow_1) := by decide +kernel
theorem start_x {s : State} {b : Nat} (hts : ∀ w ∈ lw_tbl, w.before #[Value.ref b] s = true) (hgv : (Jvm.Cond.and given_1 narrow_1).before #[Value.ref b] s = true) : ∃ x : QX, KC x s ∧ SC x s s.heap ∧ x.2.2.1 = s.heap.size ∧ xV x 5 = .ref b := by
  have htg : ∀ w ∈ gT, w.before #[Value.ref b] s = true := fun w hw => hts w (List.mem_filter.mp hw).1
  have hs := flat_of_before _ hgv
  obtain ⟨c0, iS0, hKn0⟩ := u_known (C := R_Book) (T := T_Book) (N := 7) (n := 7) htg iw_Book (htg _ in_Book)
  obtain ⟨c1, iS1, hKn1⟩ := u_known (C := R_Builder) (T := T_Builder) (N := 11) (n := 11) htg iw_Builder (htg _ in_Builder)
  obtain ⟨c2, iS2, hKn2⟩ := u_known (C := R_Cutter) (T := T_Cutter) (N := 10) (n := 10) htg iw_Cutter (htg _ in_Cutter)
  obtain ⟨c3, iS3, hKn3⟩ := u_known (C := R_Filler) (T := T_Filler) (N := 12) (n := 12) htg iw_Filler (htg _ in_Filler)
  obtain ⟨c4, iS4, hKn4⟩ := u_known (C := R_Form) (T := T_Form) (N := 7) (n := 7) htg iw_Form (htg _ in_Form)
  obtain ⟨c5, iS5, hKn5⟩ := u_known (C := R_Meaning) (T := T_Meaning) (N := 7) (n := 7) htg iw_Meaning (htg _ in_Meaning)
  obtain ⟨c6, iS6, hKn6⟩ := u_known (C := R_Measure) (T := T_Measure) (N := 3) (n := 3) htg iw_Measure (htg _ in_Measure)
  obtain ⟨c7, iS7, hKn7⟩ := u_known (C := R_Shape) (T := T_Shape) (N := 1) (n := 1) htg iw_Shape (htg _ in_Shape)
  obtain ⟨c8, iS8, hKn8⟩ := u_known (C := R_Syntax) (T := T_Syntax) (N := 5) (n := 5) htg iw_Syntax (htg _ in_Syntax)
  obtain ⟨c9, iS9, hKn9⟩ := u_known (C := R_Table) (T := T_Table) (N := 5) (n := 5) htg iw_Table (htg _ in_Table)
  obtain ⟨c10, iS10, hKn10⟩ := u_known (C := R_Tokens) (T := T_Tokens) (N := 8) (n := 8) htg iw_Tokens (htg _ in_Tokens)
  obtain ⟨c11, iS11, hKn11⟩ := u_known (C := R_Q) (T := T_Q) (N := 17) (n := 17) htg iw_Q (htg _ in_Q)
  obtain ⟨c12, iS12, hKn12⟩ := u_known (C := R_Mo) (T := T_Mo) (N := 80) (n := 80) htg iw_Mo (htg _ in_Mo)
  obtain ⟨dC, dI, hKc⟩ : ∃ (dC : Nat → ClassId) (dI : Nat → Nat → Nat), ∀ (k : Nat) (q : vw_C), classes[k]? = some q → u_Kn s q.1 q.2.1 q.2.2 (dC k) (dI k) := by
    refine ⟨fun k => [c0, c1, c2, c3, c4, c5, c6, c7, c8, c9, c10, c11, c12].getD k c0, fun k => [iS0, iS1, iS2, iS3, iS4, iS5, iS6, iS7, iS8, iS9, iS10, iS11, iS12].getD k iS0, ?_⟩
    intro k q hq
    match k, hq with
    | 0, hq => cases hq; exact hKn0
    | 1, hq => cases hq; exact hKn1
    | 2, hq => cases hq; exact hKn2
    | 3, hq => cases hq; exact hKn3
    | 4, hq => cases hq; exact hKn4
    | 5, hq => cases hq; exact hKn5
    | 6, hq => cases hq; exact hKn6
    | 7, hq => cases hq; exact hKn7
    | 8, hq => cases hq; exact hKn8
    | 9, hq => cases hq; exact hKn9
    | 10, hq => cases hq; exact hKn10
    | 11, hq => cases hq; exact hKn11
    | 12, hq => cases hq; exact hKn12
    | k + 13, hq => simp [classes] at hq
  obtain ⟨a0, k0, m0, f0, g0, j0⟩ := Cond.arrayClass_spec (htg _ ac_int)
  obtain ⟨a1, k1, m1, f1, g1, j1⟩ := Cond.arrayClass_spec (htg _ ac_byte)
  obtain ⟨a2, k2, m2, f2, g2, j2⟩ := Cond.arrayClass_spec (htg _ ac_boolean)
  obtain ⟨a3, k3, m3, f3, g3, j3⟩ := Cond.arrayClass_spec (htg _ ac_long)
  have nst : ∀ w ∈ nestL, w.before #[Value.ref b] s = true := fun w hw => hts w (List.mem_filter.mp hw).1
  obtain ⟨m4, a4, k4, p4, -, g4, j4, f4⟩ := Cond.arrayOver_spec (nst _ ao_Shape)
  obtain ⟨m5, a5, k5, p5, -, g5, j5, f5⟩ := Cond.arrayOver_spec (nst _ ao_Form)
  obtain ⟨m6, a6, k6, p6, -, g6, j6, f6⟩ := arrayOverA_spec (nst _ ao_II)
  have hA : ∀ a : Nat, a < s.heap.size → ¬ (fun q : Nat => s.heap.size ≤ q) a := fun a h h2 => Nat.not_le.mpr h h2
  obtain ⟨adK, adV, hvS, hev⟩ := vk_Sof (N := 2) (tm := tmS) (len := lens2) (byt := byts2) (A := fun q : Nat => s.heap.size ≤ q) (by decide) (fun i hi => hs _ (hm_ex i hi)) (fun i hi => hs _ (hm_co i hi)) (fun i hi => hs _ (hm_ar i hi)) (fun i hi => hs _ (hm_le i hi)) (fun i hi j hj => hs _ (hm_el i hi j hj))
    (fun i j hi hj hij => by
      have : (i = 0 ∧ j = 1) ∨ (i = 1 ∧ j = 0) := by omega
      rcases this with ⟨rfl, rfl⟩ | ⟨rfl, rfl⟩
      · exact hm_ne.imp (hs _) (hs _)
      · exact (hm_ne.imp (hs _) (hs _)).symm) hA
  have hcs := va_Zof (A := fun q : Nat => s.heap.size ≤ q) (hts (.laysStatic "java/lang/String" "COMPACT_STRINGS" "Z") (sub_1 _ (List.mem_of_getElem? (i := 104) rfl))) (hts (.initialized "java/lang/String") (sub_1 _ (List.mem_of_getElem? (i := 6) rfl))) (va_eqi (hs _ hm_cs)) hA
  have hfm := va_Zqof (A := fun q : Nat => s.heap.size ≤ q) (hts (.laysStatic "jdk/internal/util/Preconditions" "SIOOBE_FORMATTER" "Ljava/util/function/BiFunction;") (sub_1 _ (List.mem_of_getElem? (i := 112) rfl))) (hts (.initialized "jdk/internal/util/Preconditions") (sub_1 _ (List.mem_of_getElem? (i := 8) rfl))) (hs _ hm_fm) hA
  obtain ⟨fm, hfm2⟩ : ∃ fm : Nat, va_Z "jdk/internal/util/Preconditions" "SIOOBE_FORMATTER" "Ljava/util/function/BiFunction;" (if fm = 0 then .null else .ref (fm - 1)) (fun q : Nat => s.heap.size ≤ q) s s.heap := by
    rcases hfm with h | ⟨t, h⟩
    · exact ⟨0, by rw [if_pos rfl]; exact h⟩
    · exact ⟨t + 1, by rw [if_neg (by omega)]; exact h⟩
  let adV2 : Nat → Nat := fun j => if j < 2 then adV j else if j = 2 then fm else b
  let x : QX := ((dC, dI), fun j => [a0, a1, a2, a3, a4, a5, a6].getD j 0, s.heap.size, adK, adV2)
  have hvS2 : vk_S 2 lens2 byts2 adK adV2 (qA x) s s.heap := by
    refine ⟨fun i hi => ?_, hvS.2⟩
    have e : adV2 i = adV i := if_pos hi
    rw [e]
    exact hvS.1 i hi
  refine ⟨x, ⟨⟨hKc, fun k q hq => ?_⟩, fun w hw => ?_, ?_, ?_⟩, ⟨hvS2, hcs, hfm2⟩, rfl, rfl⟩
  · match k, hq with
    | 0, hq => cases hq; exact ⟨fun n z => ⟨fun k h => (by cases h), k0, g0, m0, j0⟩, f0⟩
    | 1, hq => cases hq; exact ⟨fun n z => ⟨fun k h => (by cases h), k1, g1, m1, j1⟩, f1⟩
    | 2, hq => cases hq; exact ⟨fun n z => ⟨fun k h => (by cases h), k2, g2, m2, j2⟩, f2⟩
    | 3, hq => cases hq; exact ⟨fun n z => ⟨fun k h => (by cases h), k3, g3, m3, j3⟩, f3⟩
    | 4, hq => cases hq; exact ⟨fun n z => ⟨fun k h => (by cases h), k4, g4, m4, j4⟩, k4, m4, g4, j4, p4, f4⟩
    | 5, hq => cases hq; exact ⟨fun n z => ⟨fun k h => (by cases h), k5, g5, m5, j5⟩, k5, m5, g5, j5, p5, f5⟩
    | 6, hq => cases hq; exact ⟨fun n z => ⟨fun k h => (by cases h), k6, g6, m6, j6⟩, f6⟩
    | k + 7, hq => simp [tysOf] at hq
  · have h9 := nst w hw
    have hn := (List.mem_filter.mp hw).2
    match w, hn, h9 with
    | .methodLinkNest a i y hh, _, h9 => exact va_Nw.of rfl h9
    | .arrayOver (.object C), _, h9 => exact h9
    | .arrayOver (.array t), _, h9 => exact h9
  · exact vk_R.of (hts (.stringRef "QuarterBoards$Tokens" 38 txW) (sub_1 _ (List.mem_of_getElem? (i := 94) rfl))) (hev 0 (by decide))
  · exact vk_R.of (hts (.stringRef "QuarterBoards$Tokens" 70 txS) (sub_3 _ (List.mem_of_getElem? (i := 53) rfl))) (hev 1 (by decide))
theorem law_start {L b : Nat} {xs : Nat → Int32} {Inv : MM → Prop} (hS : Steps32 Inv) (hI : Inv M2i) (hL : L ≤ 3072) : EVG m_Law room_1 (ZL b L xs) 0 0 0 [some (.retAddr 5), none, none, none] [] Ms := by
  refine e_newN (k2 := 1) (n2 := 17) d_Law_0 ck_Q cl_Law_7 in_Q ini_Q (by decide) (okp rfl) (okp rfl) rfl rfl ?_
  show EVG m_Law room_1 (ZL b L xs) 1 17 3 [some (.retAddr 5), none, none, none] [.ref 0] (nwC 11 0 Ms)
  refine e_dup d_Law_3 rfl ?_
  refine e_callI (mt1 := m_Q_init) (R1 := rm 7 558 7305) (As := []) (b := 0) (st := [.ref 0]) (M1 := M1i) d_Law_4 ml_Law_9 mn_Q_init (t_Q_init 0 0 (nwC 11 0 Ms) M1i M1i_ok) rfl rfl (okp rfl) (okp rfl) (okp rfl) (okp rfl) (okp rfl) ?_
  show EVG m_Law room_1 (ZL b L xs) 559 7322 7 [some (.retAddr 5), none, none, none] [.ref 0] M1i
  refine e_astore_n (l2 := [some (.retAddr 5), some (.ref 0), none, none]) d_Law_7 rfl (okl rfl) rfl ?_
  refine e_newN (k2 := 560) (n2 := 7402) d_Law_8 ck_Mo cl_Law_10 in_Mo ini_Mo (by decide) (okp rfl) (okp rfl) rfl rfl ?_
  rw [M1i_n]
  refine e_dup d_Law_11 rfl ?_
  refine e_callI (mt1 := m_Mo_init) (R1 := rm 3 50 167321) (As := []) (b := 559) (st := [.ref 559]) (M1 := M2i) d_Law_12 ml_Law_12 mn_Mo_init (t_Mo_init 0 559 (nwC 12 0 M1i) M2i M2i_ok) rfl rfl (okp rfl) (okp rfl) (okp rfl) (okp rfl) (okp rfl) ?_
  show EVG m_Law room_1 (ZL b L xs) 610 174723 15 [some (.retAddr 5), some (.ref 0), none, none] [.ref 559] M2i
  refine e_astore_n (l2 := [some (.retAddr 5), some (.ref 0), some (.ref 559), none]) d_Law_15 rfl (okl rfl) rfl ?_
  refine e_iconst (v := 0) d_Law_16 (by decide) ?_
  refine e_istore_n (l2 := LSl 0) d_Law_17 rfl (okl rfl) rfl ?_
  exact law_loop hS hL (L + 1) 0 M2i (by omega) (by omega) hI
theorem whole_inv {p : Program} {e : Env} {s : State} {m : MethodId} {below : List Frame} {meth : Method} {c : Code} {Inv : MM → Prop} (hS : Steps32 Inv) (hI : Inv M2i) (l : Launch) {b L : Nat} {xs : Nat → Int32} (hL : L ≤ 3072) (C0 : lw_At p s m meth c b L xs) : W p l e room_1 s m #[Value.ref b] below meth c s.heap [] 0 0 (lw_Z below #[Value.ref b] s) (entryFrame m ([Value.ref b] : List Value).toArray 4) := by
  obtain ⟨hx, hb, hr, hml, hown, hts, hX, hbl, hlocks, hgv⟩ := C0
  obtain ⟨x, hK, hSC, hB, h5⟩ := start_x hts hgv
  rw [lg_entry_eq]
  have hE := law_start (b := b) (L := L) (xs := xs) hS hI hL x p l e s m #[Value.ref b] below meth c s.heap [] ((lg_sl [Value.ref b] ++ List.replicate (4 - (lg_sl [Value.ref b]).length) Slot.unset).toArray)
    ⟨hx, hb, hr, hml, hown, fun w hw => hts w (List.mem_filter.mp hw).1, hK, hSC, hlocks, fun h9 => absurd h9 (by decide), by rw [hB]; exact Nat.le_refl _⟩
    ⟨by rw [hB]; rfl, fun k q h => by simp [wsOf, Ms] at h, fun a _ => rfl⟩ va_S.rf (by
      have h1 := lv_entry ([Value.ref b]) (n := 4) (Nat.le_of_ble_eq_true rfl)
      refine ⟨h1.1, h1.2.1, fun q hq => h1.2.2 q ?_⟩
      have e1 : prs x 0 [some (.retAddr 5), none, none, none] = [(0, xV x 5)] := rfl
      rw [e1, h5] at hq
      exact hq)
  intro T hT X9
  obtain ⟨t, a1, b1⟩ := hE T hT X9
  exact ⟨t, a1, b1 ⟨hX, hbl, by show ¬ x.2.2.1 ≤ b; rw [hB]; omega, h5, rfl, by rw [hB]; exact Nat.le_refl _⟩⟩
