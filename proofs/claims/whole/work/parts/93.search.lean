/-! ===== FILLINGS in the class: the search ===== -/
theorem fl_add (f : Nat → SS → SS) : ∀ m k j s, fl f (m + j) k s = fl f j (k + m) (fl f m k s) := by
  intro m
  induction m with
  | zero => intro k j s; rw [Nat.zero_add]; rfl
  | succ m ih =>
    intro k j s
    rw [show m + 1 + j = (m + j) + 1 by omega]
    show fl f (m + j) (k + 1) (f k s) = fl f j (k + (m + 1)) (fl f m (k + 1) (f k s))
    rw [ih (k + 1) j (f k s), show k + 1 + m = k + (m + 1) by omega]
theorem fl_id {f : Nat → SS → SS} {s : SS} : ∀ m k, (∀ i, k ≤ i → i < k + m → f i s = s) → fl f m k s = s := by
  intro m
  induction m with
  | zero => intro k _; rfl
  | succ m ih =>
    intro k h
    show fl f m (k + 1) (f k s) = s
    rw [h k (by omega) (by omega)]
    exact ih (k + 1) fun i h1 h2 => h i (by omega) (by omega)
section SRC
variable {Bd : Nat → Nat → Bool} {al : Bool} {rc : (Nat → Bool) → Nat → (Nat → Nat) → SS → SS} {L : Nat → Bool} {U : Nat} {W : Nat → Nat}
theorem bod_ov {k : Nat} {s : SS} (h : ovr al s = true) : bod Bd al rc L U W k s = s := if_pos h
theorem fl_ov {s : SS} (h : ovr al s = true) (m k : Nat) : fl (bod Bd al rc L U W) m k s = s := fl_id m k fun i _ _ => bod_ov h
theorem bod_no {k : Nat} {s : SS} (h : cdK Bd U k (lo L) = false) : bod Bd al rc L U W k s = s := by
  unfold bod
  by_cases c : ovr al s = true
  · rw [if_pos c]
  · rw [if_neg c, if_neg (by rw [h]; decide)]
end SRC
/-- what holds of the class's cells in a search -/
def CR (set : Nat) (al : Bool) (L : Nat → Bool) (U : Nat) (W : Nat → Nat) (s : SS) (mi : IM) : Prop :=
  (svS mi 82 = L ∧ mi 81 3 = b2i (!al) ∧ mi 81 4 = b2i s.2.2.1 ∧ mi 81 5 = nI s.1 ∧ mi 81 6 = nI s.2.1) ∧ (s.1 ≤ 60000 ∧ s.2.1 ≤ s.1) ∧
  (∀ b, b < 8 → set.testBit b = true → U.testBit b = false → mi 84 b = nI (W b)) ∧
  (al = true → 0 < s.2.1 → ∀ b, b < 8 → set.testBit b = true → mi 85 b = nI (s.2.2.2 b))
def FS (al : Bool) (mi mi' : IM) : Prop := ∀ c j, ¬ (c = 81 ∧ 3 ≤ j ∧ j ≤ 6) → c ≠ 83 → c ≠ 84 → ¬ (c = 85 ∧ al = true) → mi' c j = mi c j
theorem FS.rf {al : Bool} {a : IM} : FS al a a := fun _ _ _ _ _ _ => rfl
theorem FS.tr {al : Bool} {a b c : IM} (h : FS al a b) (h2 : FS al b c) : FS al a c := fun x j h3 h4 h5 h6 => by rw [h2 x j h3 h4 h5 h6, h x j h3 h4 h5 h6]
/-- the boards stand in their Forms -/
def BdI (nb : Nat) (Bd : Nat → Nat → Bool) (mi : IM) : Prop := ∀ b, b < nb → noS (Bd b) = false ∧ FoI mi (223 + 24 * b) 8 (Bd b)
theorem BdI_c {nb : Nat} {Bd : Nat → Nat → Bool} {mi mi' : IM} {al : Bool} (h : BdI nb Bd mi) (hf : FS al mi mi') : BdI nb Bd mi' := fun b hb => ⟨(h b hb).1, FoI_c (by omega) (fun c q1 q2 => by funext j; exact hf c j (by omega) (by omega) (by omega) (by omega)) (h b hb).2⟩
section CSR
variable {n nb set U d : Nat} {al : Bool} {L : Nat → Bool} {W : Nat → Nat} {s : SS} {mi : IM} {ml : JM} {Bd : Nat → Nat → Bool}
theorem isOverC (h : CR set al L U W s mi) : f_Filler_isOver n 81 (K mi ml) = some (b2i (ovr al s), K mi ml) := by
  obtain ⟨⟨_, h2, h3, h4, h5⟩, ⟨h6, h7⟩, _, _⟩ := h
  unfold f_Filler_isOver f_Filler_isOver_21 ovr
  rw [o_81, g_81, bnd_s, h3]
  cases e : s.2.2.1 with
  | true => rw [if_neg (show ¬ b2i true = 0 by decide)]; rfl
  | false =>
    rw [if_pos (show b2i false = 0 by decide), g_81, bnd_s, h2]
    cases al with
    | true => rw [if_pos (show b2i (!true) = 0 by decide)]; rfl
    | false =>
      rw [if_neg (show ¬ b2i (!false) = 0 by decide), g_81, bnd_s, h5]
      by_cases c : 0 < s.2.1
      · rw [if_neg (by rw [il2 (n := 0) (by omega) (by omega)]; omega), decide_eq_true c]; rfl
      · rw [if_pos (by rw [il2 (n := 0) (by omega) (by omega)]; omega), decide_eq_false c]; rfl
theorem countWayC (h : CR set al L 0 W s mi) (hs : s.2.1 < s.1) : ∃ mi', f_Filler_countWay n 81 (K mi ml) = some (K mi' ml) ∧ CR set al L 0 W (cnt al W s) mi' ∧ FS al mi mi' := by
  obtain ⟨⟨h1, h2, h3, h4, h5⟩, ⟨h6, h7⟩, h8, h9⟩ := h
  unfold f_Filler_countWay
  rw [o_81, g_81, bnd_s, h5, nI_1, p_81, bnd_s, g_81, bnd_s, show upd2 mi 81 6 (nI (s.2.1 + 1)) 81 6 = nI (s.2.1 + 1) from by rw [u2, if_pos ⟨rfl, rfl⟩]]
  generalize e1 : upd2 mi 81 6 (nI (s.2.1 + 1)) = m1
  have v : ∀ c j, ¬ (c = 81 ∧ j = 6) → m1 c j = mi c j := fun c j q => by rw [← e1, u2, if_neg q]
  have f1 : FS al mi m1 := fun c j q1 q2 q3 q4 => v c j (by omega)
  have base : ∀ m2 : IM, (∀ c j, c ≠ 85 → m2 c j = m1 c j) → (al = true → ∀ b, b < 8 → set.testBit b = true → m2 85 b = nI ((cnt al W s).2.2.2 b)) → CR set al L 0 W (cnt al W s) m2 := by
    intro m2 q1 q2
    refine ⟨⟨?_, ?_, ?_, ?_, ?_⟩, ⟨h6, hs⟩, fun b b1 b2 b3 => ?_, fun a1 _ b b1 b2 => q2 a1 b b1 b2⟩
    · rw [sv_of (mi := mi) (by funext j; rw [q1 83 j (by omega), v 83 j (by omega)])]; exact h1
    · rw [q1 81 3 (by omega), v 81 3 (by omega)]; exact h2
    · rw [q1 81 4 (by omega), v 81 4 (by omega)]; exact h3
    · rw [q1 81 5 (by omega), v 81 5 (by omega)]; exact h4
    · rw [q1 81 6 (by omega), ← e1, u2, if_pos ⟨rfl, rfl⟩]; rfl
    · rw [q1 84 b (by omega), v 84 b (by omega)]; exact h8 b b1 b2 b3
  by_cases c : s.2.1 = 0
  · rw [if_pos (show nI (s.2.1 + 1) = 1 by rw [c]; rfl), g_81, bnd_s, v 81 3 (by omega), h2]
    cases al with
    | true =>
      rw [if_pos (show b2i (!true) = 0 by decide), rf_81_7, bnd_s, rf_81_8, bnd_s, acp_K ds_84 ds_85 (by omega) (by omega), bnd_s]
      refine ⟨_, rfl, base _ (fun c j q => by rw [if_neg (fun e => q e.1)]) (fun _ b b1 b2 => ?_), fun c j q1 q2 q3 q4 => ?_⟩
      · rw [if_pos ⟨rfl, b1⟩, v 84 b (by omega)]
        show mi 84 b = nI ((if s.2.1 = 0 ∧ true = true then W else s.2.2.2) b)
        rw [if_pos ⟨c, rfl⟩]
        exact h8 b b1 b2 (Nat.zero_testBit b)
      · show (if c = 85 ∧ j < 8 then m1 84 j else m1 c j) = mi c j
        rw [if_neg (fun e => q4 ⟨e.1, rfl⟩)]; exact v c j (by omega)
    | false =>
      rw [if_neg (show ¬ b2i (!false) = 0 by decide)]
      exact ⟨m1, rfl, base m1 (fun _ _ _ => rfl) (fun q => by cases q), f1⟩
  · rw [if_neg (by rw [ie1 (n := 1) (by omega) (by omega)]; omega)]
    refine ⟨m1, rfl, base m1 (fun _ _ _ => rfl) (fun a1 b b1 b2 => ?_), f1⟩
    show m1 85 b = nI ((if s.2.1 = 0 ∧ al = true then W else s.2.2.2) b)
    rw [if_neg (fun e => c e.1), v 85 b (by omega)]
    exact h9 a1 (by omega) b b1 b2
end CSR
theorem lo_s {S : Nat → Bool} (h : noS S = false) : lo S < 256 ∧ S (lo S) = true ∧ ∀ k, k < lo S → S k = false := by
  unfold lo
  cases e : fnd S 256 0 with
  | none =>
    obtain ⟨i, i1, i2⟩ := no_ex.mp h
    rw [fnd_none.mp e i (by omega) (by omega)] at i2; cases i2
  | some k =>
    have := fnd_some e
    exact ⟨by show k < 256; omega, this.2.2.1, fun j hj => this.2.2.2 j (by omega) hj⟩
theorem lo_v {S : Nat → Bool} {v : Int32} (h : noS S = false) (hl : loS S v) : v = nI (lo S) := by
  rw [loS_fnd hl]
  unfold lo
  cases e : fnd S 256 0 with
  | none =>
    obtain ⟨i, i1, i2⟩ := no_ex.mp h
    rw [fnd_none.mp e i (by omega) (by omega)] at i2; cases i2
  | some k => rfl
theorem lo_y {S : Nat → Bool} (h : noS S = false) (hm : mnY S 256 = 0) : lo S / 32 = 0 := by
  obtain ⟨_, i, i1, i2, i3⟩ := mn_at h
  have l := lo_s h
  by_cases c : lo S ≤ i
  · omega
  · have := l.2.2 i (by omega)
    rw [this] at i2; cases i2
/-- the state of a level: what is left, what is unused -/
def LV (nb set : Nat) (Bd : Nat → Nat → Bool) (d : Nat) (L : Nat → Bool) (U : Nat) : Prop := cu L = L ∧ U < 2 ^ nb ∧ (∀ b, U.testBit b = true → set.testBit b = true) ∧ ct L 256 = arB Bd U 8 ∧ ct U.testBit 8 ≤ d
theorem cdK_b {Bd : Nat → Nat → Bool} {U k q : Nat} (h : cdK Bd U k q = true) : U.testBit (k / 8) = true ∧ lsG (Bd (k / 8)) (k % 8) = k % 8 ∧ lie (imK Bd k) q = true := by
  unfold cdK at h
  rw [Bool.and_eq_true, Bool.and_eq_true] at h
  exact ⟨h.1.1, by simpa using h.1.2, h.2⟩
/-- a LAY that lies on: its SHIFT -/
theorem lie_z {I : Nat → Bool} {q : Nat} (hn : noS I = false) (hm : mnX I 256 = 0 ∧ mnY I 256 = 0) (hq : q < 256) (h : lie I q = true) : sOff (zX I q) (zY I q) I = false ∧ zY I q = ((q / 32 : Nat) : Int) ∧ (0 ≤ zX I q ∧ zX I q < 8) ∧ q / 32 < 8 := by
  unfold lie at h
  rw [Bool.and_eq_true] at h
  have ho : sOff (zX I q) (zY I q) I = false := by simpa using h.2
  have hy : zY I q = ((q / 32 : Nat) : Int) := by unfold zY; rw [lo_y hn hm.2]; omega
  refine ⟨ho, hy, ⟨?_, ?_⟩, by omega⟩
  · by_cases c : zX I q < 0
    · rw [stay_neg (no_ex.mp hn) hm (Or.inl c)] at ho; cases ho
    · omega
  · unfold zX; have := x_lt q; omega
theorem LV_step {nb set d U k : Nat} {Bd : Nat → Nat → Bool} {L : Nat → Bool} (hnb : nb ≤ 8) (hLV : LV nb set Bd (d + 1) L U) (hk : U.testBit (k / 8) = true) (hk8 : k / 8 < 8) (ho : sOff (zX (imK Bd k) (lo L)) (zY (imK Bd k) (lo L)) (imK Bd k) = false) (hf : fitS (laK Bd k (lo L)) L = true) : LV nb set Bd d (lvB L (laK Bd k (lo L))) (U - 2 ^ (k / 8)) := by
  obtain ⟨h1, h2, h3, h4, h5⟩ := hLV
  have hp := p_nb hnb
  have hU : U < 256 := by omega
  refine ⟨cu_cu _, Nat.lt_of_le_of_lt (Nat.sub_le _ _) h2, fun b hb => ?_, ?_, ?_⟩
  · by_cases c : b < 8
    · have := (U_t U hU (k / 8) hk8 hk).2 b c
      rw [this, Bool.and_eq_true] at hb
      exact h3 b hb.1
    · rw [tb_out (nb := 8) (Nat.lt_of_le_of_lt (Nat.sub_le _ _) hU) (by omega)] at hb; cases hb
  · have e1 := ct_lv hf
    have e2 := ar_sub (Bd := Bd) hU hk8 hk
    have e3 : ct (laK Bd k (lo L)) 256 = ct (Bd (k / 8)) 256 := by
      unfold laK
      rw [ct_sh ho]
      unfold imK
      rw [ct_im]
    omega
  · have := pop_sub hU hk8 hk
    omega
