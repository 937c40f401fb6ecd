/-! ===== FILLINGS in the reference: one LAY ===== -/
theorem el_ex {S : Nat → Bool} : ∀ n j, j < ct S n → ∃ i, i < n ∧ S i = true ∧ ct S i = j := by
  intro n
  induction n with
  | zero => intro j h; exact absurd h (Nat.not_lt_zero _)
  | succ n ih =>
    intro j h
    have h : j < ct S n + (if S n = true then 1 else 0) := h
    by_cases c : j < ct S n
    · obtain ⟨i, i1, i2, i3⟩ := ih j c
      exact ⟨i, by omega, i2, i3⟩
    · by_cases d : S n = true
      · rw [if_pos d] at h
        exact ⟨n, by omega, d, by omega⟩
      · rw [if_neg d] at h; omega
def el (S : Nat → Bool) (j : Nat) : Nat := (fnd (fun i => S i && decide (ct S i = j)) 256 0).getD 0
theorem el_s {S : Nat → Bool} {j : Nat} (h : j < ct S 256) : el S j < 256 ∧ S (el S j) = true ∧ ct S (el S j) = j := by
  unfold el
  cases e : fnd (fun i => S i && decide (ct S i = j)) 256 0 with
  | none =>
    obtain ⟨i, i1, i2, i3⟩ := el_ex 256 j h
    have := fnd_none.mp e i (by omega) (by omega)
    rw [i2, decide_eq_true i3] at this; cases this
  | some k =>
    have q := fnd_some e
    have q3 := q.2.2.1
    rw [Bool.and_eq_true, decide_eq_true_iff] at q3
    exact ⟨by show k < 256; omega, q3.1, q3.2⟩
theorem el_i {S : Nat → Bool} {i : Nat} (hi : i < 256) (h : S i = true) : el S (ct S i) = i := by
  have h1 := el_s (ct_lt_of hi h)
  by_cases c : el S (ct S i) < i
  · have := ct_lt_of c h1.2.1; omega
  · by_cases d : i < el S (ct S i)
    · have := ct_lt_of d h; omega
    · omega
theorem el_0 {S : Nat → Bool} (h : noS S = false) : el S 0 = lo S := by
  have l := lo_s h
  have : ct S (lo S) = 0 := (ct_0 _).mpr l.2.2
  rw [← this]
  exact el_i l.1 l.2.1
theorem sto_off {I : Nat → Bool} {q i : Nat} (hm : lo I % 4 = q % 4) (hin : sIn (zX I q) (zY I q) i = true) : ((i : Int) + ((q : Int) - (lo I : Int))) = (sTo (zX I q) (zY I q) i : Int) := by
  have h := sIn_t.mp hin
  unfold sTo zX zY at *
  omega
section MKS
variable {n k q : Nat} {mi : IM} {ml : JM} {Bd : Nat → Nat → Bool} {L : Nat → Bool}
theorem row_el (h : RdK Bd mi k) {j : Nat} (hj : j < ct (imK Bd k) 256) : mi 589 (256 * k + j) = nI (el (imK Bd k) j) := by
  have := el_s hj
  have h2 := h.2.2 _ this.1 this.2.1
  rw [this.2.2] at h2; exact h2
theorem liesOnM (hk : k < 64) (h : RdK Bd mi k) (hno : noS (imK Bd k) = false) (hq : q < 256) (hn : 256 < n) : f_Mo_liesOn n 559 (nI k) (nI q) (K mi ml) = some (b2i (lie (imK Bd k) q), K mi ml) := by
  have hc := ct_pos hno
  have hc2 := ct_le (imK Bd k) 256
  have hl := lo_s hno
  unfold f_Mo_liesOn lie
  have r0 := row_el h hc
  rw [Nat.add_zero, el_0 hno] at r0
  rw [o_559, rf_559_46, bnd_s, im2 (n := 256), a_589 (by omega), bnd_s, r0, ir1 (n := 4) (by omega) (by omega) (by omega), ir1 (n := 4) (by omega) (by omega) (by omega)]
  by_cases c : lo (imK Bd k) % 4 = q % 4
  · rw [if_pos (by rw [c]), show (lo (imK Bd k) % 4 == q % 4) = true by simpa using c, Bool.true_and, id1 (n := 4) (by omega) (by omega) (by omega), id1 (n := 4) (by omega) (by omega) (by omega), ir1 (n := 8) (by omega) (by omega) (by omega), ir1 (n := 8) (by omega) (by omega) (by omega), id1 (n := 32) (by omega) (by omega) (by omega), id1 (n := 32) (by omega) (by omega) (by omega), nm_t, nm_t]
    have zx : nI (q / 4 % 8) - nI (lo (imK Bd k) / 4 % 8) = iZ (zX (imK Bd k) q) := by unfold zX; rw [iZ_nat, iZ_nat, iZ_sub]
    have zy : nI (q / 32) - nI (lo (imK Bd k) / 32) = iZ (zY (imK Bd k) q) := by unfold zY; rw [iZ_nat, iZ_nat, iZ_sub]
    have bx : -8 ≤ zX (imK Bd k) q ∧ zX (imK Bd k) q ≤ 8 := by unfold zX; have := x_lt q; have := x_lt (lo (imK Bd k)); omega
    have bY : -8 ≤ zY (imK Bd k) q ∧ zY (imK Bd k) q ≤ 8 := by unfold zY; omega
    rw [zx, zy]
    generalize zX (imK Bd k) q = z at bx ⊢
    generalize zY (imK Bd k) q = w at bY ⊢
    have Lp : ∀ m j, j ≤ ct (imK Bd k) 256 → ct (imK Bd k) 256 - j < m → f_Mo_liesOn_51 n m 559 (nI k) (iZ z) (iZ w) (nI j) (K mi ml) = some (b2i (fnd (fun j => !sIn z w (el (imK Bd k) j)) (ct (imK Bd k) 256 - j) j).isNone, K mi ml) := by
      intro m
      induction m with
      | zero => intro j h1 h2; omega
      | succ m ih =>
        intro j h1 h2
        rw [f_Mo_liesOn_51, rf_559_45, bnd_s, a_588 hk, bnd_s, h.1]
        by_cases d : j = ct (imK Bd k) 256
        · rw [d, if_pos (nI_le (Nat.le_refl _) (by omega)), Nat.sub_self]; rfl
        · have he := el_s (S := imK Bd k) (show j < ct (imK Bd k) 256 by omega)
          have hx := x_lt (el (imK Bd k) j)
          have hy := y_lt he.1
          rw [if_neg (by rw [nI_leI (by omega) (by omega)]; omega), rf_559_46, bnd_s, im2 (n := 256), ia3, a_589 (by omega), bnd_s, row_el h (by omega), id1 (n := 4) (by omega) (by omega) (by omega), ir1 (n := 8) (by omega) (by omega) (by omega), id1 (n := 32) (by omega) (by omega) (by omega), iZ_na, iZ_na, nm_t, nm_t, show ct (imK Bd k) 256 - j = (ct (imK Bd k) 256 - (j + 1)) + 1 by omega, fnd_s]
          simp only [show (iZ (((el (imK Bd k) j / 4 % 8 : Nat) : Int) + z) < 0) = (((el (imK Bd k) j / 4 % 8 : Nat) : Int) + z < 0) from propext (iZ_l0 (by omega) (by omega)), show ((7 : Int32) < iZ (((el (imK Bd k) j / 4 % 8 : Nat) : Int) + z)) = (7 < ((el (imK Bd k) j / 4 % 8 : Nat) : Int) + z) from propext (iZ_g7 (by omega) (by omega)), show (iZ (((el (imK Bd k) j / 32 : Nat) : Int) + w) < 0) = (((el (imK Bd k) j / 32 : Nat) : Int) + w < 0) from propext (iZ_l0 (by omega) (by omega)), show (iZ (((el (imK Bd k) j / 32 : Nat) : Int) + w) ≤ (7 : Int32)) = (((el (imK Bd k) j / 32 : Nat) : Int) + w ≤ 7) from propext (iZ_l7 (by omega) (by omega))]
          cases s : sIn z w (el (imK Bd k) j) with
          | true =>
            have := sIn_t.mp s
            rw [if_neg (by omega), if_neg (by omega), if_neg (by omega), if_pos (by omega), if_neg (by decide), nI_1]
            exact ih (j + 1) (by omega) (by omega)
          | false =>
            have hs : ¬ (0 ≤ ((el (imK Bd k) j / 4 % 8 : Nat) : Int) + z ∧ ((el (imK Bd k) j / 4 % 8 : Nat) : Int) + z ≤ 7 ∧ 0 ≤ ((el (imK Bd k) j / 32 : Nat) : Int) + w ∧ ((el (imK Bd k) j / 32 : Nat) : Int) + w ≤ 7) := fun r => by rw [sIn_t.mpr r] at s; cases s
            rw [if_pos (show (!false) = true from rfl)]
            by_cases q1 : ((el (imK Bd k) j / 4 % 8 : Nat) : Int) + z < 0
            · rw [if_pos q1]; rfl
            · rw [if_neg q1]
              by_cases q2 : 7 < ((el (imK Bd k) j / 4 % 8 : Nat) : Int) + z
              · rw [if_pos q2]; rfl
              · rw [if_neg q2]
                by_cases q3 : ((el (imK Bd k) j / 32 : Nat) : Int) + w < 0
                · rw [if_pos q3]; rfl
                · rw [if_neg q3, if_neg (by omega)]; rfl
    refine (Lp n 0 (by omega) (by omega)).trans ?_
    have key : (fnd (fun j => !sIn z w (el (imK Bd k) j)) (ct (imK Bd k) 256 - 0) 0).isNone = !sOff z w (imK Bd k) := by
      rw [Bool.eq_iff_iff, Option.isNone_iff_eq_none, fnd_none, Bool.not_eq_true', sOff_f]
      constructor
      · intro r i hi hs
        have := r (ct (imK Bd k) i) (by omega) (by have := ct_lt_of hi hs; omega)
        rw [el_i hi hs] at this; simpa using this
      · intro r j _ hj
        have := el_s (S := imK Bd k) (show j < ct (imK Bd k) 256 by omega)
        rw [r _ this.1 this.2.1]; rfl
    rw [key]
  · rw [if_neg (by rw [nI_eq (by omega) (by omega)]; exact c), show (lo (imK Bd k) % 4 == q % 4) = false by simpa using c]; rfl
theorem isFreeM (hk : k < 64) (h : RdK Bd mi k) (hl : lie (imK Bd k) q = true) (hL : ∀ i, i < 256 → mi 591 i = b2i (L i)) (hn : 256 < n) : f_Mo_isFree n 559 (nI k) (iZ ((q : Int) - (lo (imK Bd k) : Int))) (K mi ml) = some (b2i (fitS (laK Bd k q) L), K mi ml) := by
  have hc2 := ct_le (imK Bd k) 256
  unfold lie at hl
  rw [Bool.and_eq_true] at hl
  have hm : lo (imK Bd k) % 4 = q % 4 := by simpa using hl.1
  have ho := sOff_f.mp (show sOff (zX (imK Bd k) q) (zY (imK Bd k) q) (imK Bd k) = false by simpa using hl.2)
  unfold f_Mo_isFree laK
  have off : ∀ j, j < ct (imK Bd k) 256 → nI (el (imK Bd k) j) + iZ ((q : Int) - (lo (imK Bd k) : Int)) = nI (sTo (zX (imK Bd k) q) (zY (imK Bd k) q) (el (imK Bd k) j)) ∧ sTo (zX (imK Bd k) q) (zY (imK Bd k) q) (el (imK Bd k) j) < 256 := fun j hj => by
    have he := el_s hj
    have hin := ho _ he.1 he.2.1
    rw [iZ_na, sto_off hm hin, ← iZ_nat]
    exact ⟨rfl, (sTo_ok he.1 hin).1⟩
  have Lp : ∀ m j, j ≤ ct (imK Bd k) 256 → ct (imK Bd k) 256 - j < m → f_Mo_isFree_2 n m 559 (nI k) (iZ ((q : Int) - (lo (imK Bd k) : Int))) (nI j) (K mi ml) = some (b2i (fnd (fun j => !L (sTo (zX (imK Bd k) q) (zY (imK Bd k) q) (el (imK Bd k) j))) (ct (imK Bd k) 256 - j) j).isNone, K mi ml) := by
    intro m
    induction m with
    | zero => intro j h1 h2; omega
    | succ m ih =>
      intro j h1 h2
      rw [f_Mo_isFree_2, rf_559_45, bnd_s, a_588 hk, bnd_s, h.1]
      by_cases d : j = ct (imK Bd k) 256
      · rw [d, if_pos (nI_le (Nat.le_refl _) (by omega)), Nat.sub_self]; rfl
      · have ho2 := off j (by omega)
        rw [if_neg (by rw [nI_leI (by omega) (by omega)]; omega), rf_559_49, bnd_s, rf_559_46, bnd_s, im2 (n := 256), ia3, a_589 (by omega), bnd_s, row_el h (by omega), ho2.1, a_591 ho2.2, bnd_s, hL _ ho2.2, show ct (imK Bd k) 256 - j = (ct (imK Bd k) 256 - (j + 1)) + 1 by omega, fnd_s]
        cases s : L (sTo (zX (imK Bd k) q) (zY (imK Bd k) q) (el (imK Bd k) j)) with
        | true => rw [if_neg (show ¬ b2i true = 0 by decide), if_neg (show ¬ (!true) = true by decide), nI_1]; exact ih (j + 1) (by omega) (by omega)
        | false => rw [if_pos (show b2i false = 0 by decide), if_pos (show (!false) = true from rfl)]; rfl
  rw [o_559]
  refine (Lp n 0 (by omega) (by omega)).trans ?_
  have key : (fnd (fun j => !L (sTo (zX (imK Bd k) q) (zY (imK Bd k) q) (el (imK Bd k) j))) (ct (imK Bd k) 256 - 0) 0).isNone = fitS (shC (zX (imK Bd k) q) (zY (imK Bd k) q) (imK Bd k)) L := by
    rw [Bool.eq_iff_iff, Option.isNone_iff_eq_none, fnd_none, fitS_t]
    constructor
    · intro r i hi hs
      have hs2 := hs
      unfold shC at hs2
      rw [cu_in hi] at hs2
      unfold shS at hs2
      rw [Bool.and_eq_true] at hs2
      have h3 := sTo_ok hi hs2.1
      rw [Int.neg_neg, Int.neg_neg] at h3
      have := r (ct (imK Bd k) (sTo (-(zX (imK Bd k) q)) (-(zY (imK Bd k) q)) i)) (by omega) (by have := ct_lt_of h3.1 hs2.2; omega)
      rw [el_i h3.1 hs2.2, h3.2.2] at this
      simpa using this
    · intro r j _ hj
      have he := el_s (S := imK Bd k) (show j < ct (imK Bd k) 256 by omega)
      have hin := ho _ he.1 he.2.1
      rw [r _ (sTo_ok he.1 hin).1 (by rw [sh_to he.1 hin]; exact he.2.1)]; rfl
  rw [key]
theorem marksM {is : Bool} (hk : k < 64) (h : RdK Bd mi k) (hl : lie (imK Bd k) q = true) (hn : 256 < n) : ∃ mi', f_Mo_marks n 559 (nI k) (iZ ((q : Int) - (lo (imK Bd k) : Int))) (b2i is) (K mi ml) = some (K mi' ml) ∧ (∀ i, i < 256 → mi' 591 i = if laK Bd k q i = true then b2i (!is) else mi 591 i) ∧ ∀ c, c ≠ 591 → mi' c = mi c := by
  have hc2 := ct_le (imK Bd k) 256
  unfold lie at hl
  rw [Bool.and_eq_true] at hl
  have hm : lo (imK Bd k) % 4 = q % 4 := by simpa using hl.1
  have ho := sOff_f.mp (show sOff (zX (imK Bd k) q) (zY (imK Bd k) q) (imK Bd k) = false by simpa using hl.2)
  unfold f_Mo_marks
  have off : ∀ j, j < ct (imK Bd k) 256 → nI (el (imK Bd k) j) + iZ ((q : Int) - (lo (imK Bd k) : Int)) = nI (sTo (zX (imK Bd k) q) (zY (imK Bd k) q) (el (imK Bd k) j)) ∧ sTo (zX (imK Bd k) q) (zY (imK Bd k) q) (el (imK Bd k) j) < 256 ∧ laK Bd k q (sTo (zX (imK Bd k) q) (zY (imK Bd k) q) (el (imK Bd k) j)) = true := fun j hj => by
    have he := el_s hj
    have hin := ho _ he.1 he.2.1
    rw [iZ_na, sto_off hm hin, ← iZ_nat]
    exact ⟨rfl, (sTo_ok he.1 hin).1, by unfold laK; rw [sh_to he.1 hin]; exact he.2.1⟩
  have Lp : ∀ m j s, j ≤ ct (imK Bd k) 256 → ct (imK Bd k) 256 - j < m → (∀ c, c ≠ 591 → s c = mi c) → (∀ i, i < 256 → s 591 i = if (∃ j', j' < j ∧ sTo (zX (imK Bd k) q) (zY (imK Bd k) q) (el (imK Bd k) j') = i) then b2i (!is) else mi 591 i) → ∃ mi', f_Mo_marks_3 n m 559 (nI k) (iZ ((q : Int) - (lo (imK Bd k) : Int))) (b2i is) (nI j) (K s ml) = some (K mi' ml) ∧ (∀ i, i < 256 → mi' 591 i = if (∃ j', j' < ct (imK Bd k) 256 ∧ sTo (zX (imK Bd k) q) (zY (imK Bd k) q) (el (imK Bd k) j') = i) then b2i (!is) else mi 591 i) ∧ ∀ c, c ≠ 591 → mi' c = mi c := by
    intro m
    induction m with
    | zero => intro j s h1 h2; omega
    | succ m ih =>
      intro j s h1 h2 h3 h4
      rw [f_Mo_marks_3, rf_559_45, bnd_s, a_588 hk, bnd_s, h3 588 (by omega), h.1]
      by_cases d : j = ct (imK Bd k) 256
      · subst d
        rw [if_pos (nI_le (Nat.le_refl _) (by omega))]
        exact ⟨s, rfl, h4, h3⟩
      · have ho2 := off j (by omega)
        have hv : (if b2i is = 0 then f_Mo_marks_42 n (f_Mo_marks_3 n m) 559 (nI k) (iZ ((q : Int) - (lo (imK Bd k) : Int))) (b2i is) (nI j) 591 (nI (sTo (zX (imK Bd k) q) (zY (imK Bd k) q) (el (imK Bd k) j))) 1 (K s ml) else f_Mo_marks_42 n (f_Mo_marks_3 n m) 559 (nI k) (iZ ((q : Int) - (lo (imK Bd k) : Int))) (b2i is) (nI j) 591 (nI (sTo (zX (imK Bd k) q) (zY (imK Bd k) q) (el (imK Bd k) j))) 0 (K s ml)) = f_Mo_marks_42 n (f_Mo_marks_3 n m) 559 (nI k) (iZ ((q : Int) - (lo (imK Bd k) : Int))) (b2i is) (nI j) 591 (nI (sTo (zX (imK Bd k) q) (zY (imK Bd k) q) (el (imK Bd k) j))) (b2i (!is)) (K s ml) := by cases is <;> rfl
        rw [if_neg (by rw [nI_leI (by omega) (by omega)]; omega), rf_559_49, bnd_s, rf_559_46, bnd_s, im2 (n := 256), ia3, a_589 (by omega), bnd_s, h3 589 (by omega), row_el h (by omega), ho2.1, hv]
        unfold f_Mo_marks_42
        rw [s_591 ho2.2.1, bnd_s, nI_1, nrw102, b2i_1]
        refine ih (j + 1) _ (by omega) (by omega) (fun c hc => by rw [upd2_ne hc]; exact h3 c hc) (fun i hi => ?_)
        rw [u2]
        by_cases r : i = sTo (zX (imK Bd k) q) (zY (imK Bd k) q) (el (imK Bd k) j)
        · rw [if_pos ⟨rfl, r⟩, if_pos ⟨j, by omega, r.symm⟩]
        · rw [if_neg (fun t => r t.2), h4 i hi]
          by_cases t : ∃ j', j' < j ∧ sTo (zX (imK Bd k) q) (zY (imK Bd k) q) (el (imK Bd k) j') = i
          · rw [if_pos t, if_pos (by obtain ⟨j', t1, t2⟩ := t; exact ⟨j', by omega, t2⟩)]
          · rw [if_neg t, if_neg (by
              rintro ⟨j', t1, t2⟩
              by_cases w : j' = j
              · rw [w] at t2; exact r t2.symm
              · exact t ⟨j', by omega, t2⟩)]
  rw [o_559]
  obtain ⟨m1, a1, a2, a3⟩ := Lp n 0 mi (by omega) (by omega) (fun _ _ => rfl) (fun i _ => by rw [if_neg (by rintro ⟨j', t1, _⟩; omega)])
  refine ⟨m1, a1, fun i hi => ?_, a3⟩
  rw [a2 i hi]
  by_cases t : laK Bd k q i = true
  · rw [if_pos t, if_pos]
    have hs2 := t
    unfold laK shC at hs2
    rw [cu_in hi] at hs2
    unfold shS at hs2
    rw [Bool.and_eq_true] at hs2
    have h3 := sTo_ok hi hs2.1
    rw [Int.neg_neg, Int.neg_neg] at h3
    exact ⟨ct (imK Bd k) (sTo (-(zX (imK Bd k) q)) (-(zY (imK Bd k) q)) i), ct_lt_of h3.1 hs2.2, by rw [el_i h3.1 hs2.2]; exact h3.2.2⟩
  · rw [if_neg t, if_neg]
    rintro ⟨j', t1, t2⟩
    have := (off j' t1).2.2
    rw [t2] at this
    exact t this
theorem leastLeftM (hL : ∀ i, i < 256 → mi 591 i = b2i (L i)) (hn : 256 < n) : f_Mo_leastLeft n 559 (K mi ml) = some (if noS L = true then -1 else nI (lo L), K mi ml) := by
  unfold f_Mo_leastLeft
  have Lp : ∀ m i, i ≤ 256 → 256 - i < m → f_Mo_leastLeft_2 n m 559 (nI i) (K mi ml) = some (oI (fnd L (256 - i) i) (-1), K mi ml) := by
    intro m
    induction m with
    | zero => intro i h1 h2; omega
    | succ m ih =>
      intro i h1 h2
      rw [f_Mo_leastLeft_2]
      by_cases c : i = 256
      · subst c; rw [if_pos (by decide)]; rfl
      · rw [if_neg (by rw [il1 (n := 256) (by omega) (by omega)]; omega), rf_559_49, bnd_s, a_591 (by omega), bnd_s, hL i (by omega), show 256 - i = (256 - (i + 1)) + 1 by omega, fnd_s]
        cases L i with
        | true => rw [if_neg (show ¬ b2i true = 0 by decide), if_pos rfl]; rfl
        | false => rw [if_pos (show b2i false = 0 by decide), if_neg (by decide), nI_1]; exact ih (i + 1) (by omega) (by omega)
  rw [o_559]
  refine (Lp n 0 (by omega) (by omega)).trans ?_
  rw [Nat.sub_zero]
  by_cases c : noS L = true
  · rw [if_pos c, fnd_none.mpr fun j _ hj => noS_t.mp c j (by omega)]; rfl
  · rw [if_neg c]
    have l := lo_s (show noS L = false by simpa using c)
    rw [fnd_eq (Nat.zero_le (lo L)) (by omega) l.2.1 (fun j _ hj => l.2.2 j hj)]; rfl
end MKS
