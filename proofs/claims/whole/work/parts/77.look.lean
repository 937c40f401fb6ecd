/-! ===== FILLINGS: the search that both sides do, as a function ===== -/
/-- steps, ways, full, the first way -/
abbrev SS : Type := Nat × Nat × Bool × (Nat → Nat)
def ovr (al : Bool) (s : SS) : Bool := s.2.2.1 || (!al && decide (0 < s.2.1))
/-- the least QUARTER -/
def lo (S : Nat → Bool) : Nat := (fnd S 256 0).getD 0
def zX (I : Nat → Bool) (q : Nat) : Int := ((q / 4 % 8 : Nat) : Int) - ((lo I / 4 % 8 : Nat) : Int)
def zY (I : Nat → Bool) (q : Nat) : Int := ((q / 32 : Nat) : Int) - ((lo I / 32 : Nat) : Int)
def lie (I : Nat → Bool) (q : Nat) : Bool := (lo I % 4 == q % 4) && !sOff (zX I q) (zY I q) I
def fitS (A L : Nat → Bool) : Bool := (List.range 256).all (fun i => !A i || L i)
theorem fitS_t {A L : Nat → Bool} : fitS A L = true ↔ ∀ i, i < 256 → A i = true → L i = true := by
  unfold fitS
  rw [List.all_eq_true]
  constructor
  · intro h i hi ha
    have := h i (List.mem_range.mpr hi)
    rw [ha] at this; simpa using this
  · intro h i hi
    have := h i (List.mem_range.mp hi)
    cases e : A i with
    | false => rfl
    | true => rw [this e]; rfl
def lvB (L A : Nat → Bool) : Nat → Bool := cu (fun i => L i && !A i)
def lcd (g : Nat) (z w : Int) : Nat := 64 * g + 8 * z.toNat + w.toNat
def upW (W : Nat → Nat) (b v : Nat) : Nat → Nat := fun k => if k = b then v else W k
/-- IMAGE number k % 8 of board k / 8 -/
def imK (Bd : Nat → Nat → Bool) (k : Nat) : Nat → Bool := imS (k % 8) (Bd (k / 8))
def laK (Bd : Nat → Nat → Bool) (k q : Nat) : Nat → Bool := shC (zX (imK Bd k) q) (zY (imK Bd k) q) (imK Bd k)
def cdK (Bd : Nat → Nat → Bool) (U k q : Nat) : Bool := U.testBit (k / 8) && (lsG (Bd (k / 8)) (k % 8) == k % 8) && lie (imK Bd k) q
def wyK (Bd : Nat → Nat → Bool) (W : Nat → Nat) (k q : Nat) : Nat → Nat := upW W (k / 8) (lcd (k % 8) (zX (imK Bd k) q) (zY (imK Bd k) q))
def cnt (al : Bool) (W : Nat → Nat) (s : SS) : SS := (s.1, s.2.1 + 1, s.2.2.1, if s.2.1 = 0 ∧ al = true then W else s.2.2.2)
def bod (Bd : Nat → Nat → Bool) (al : Bool) (rc : (Nat → Bool) → Nat → (Nat → Nat) → SS → SS) (L : Nat → Bool) (U : Nat) (W : Nat → Nat) (k : Nat) (s : SS) : SS :=
  if ovr al s = true then s
  else if cdK Bd U k (lo L) = true then
    if s.1 = 60000 then (s.1, s.2.1, true, s.2.2.2)
    else if fitS (laK Bd k (lo L)) L = true then
      if U - 2 ^ (k / 8) = 0 then cnt al (wyK Bd W k (lo L)) (s.1 + 1, s.2)
      else rc (lvB L (laK Bd k (lo L))) (U - 2 ^ (k / 8)) (wyK Bd W k (lo L)) (s.1 + 1, s.2)
    else (s.1 + 1, s.2)
  else s
def fl (f : Nat → SS → SS) : Nat → Nat → SS → SS
  | 0, _, s => s
  | m + 1, k, s => fl f m (k + 1) (f k s)
def lvl (Bd : Nat → Nat → Bool) (al : Bool) : Nat → (Nat → Bool) → Nat → (Nat → Nat) → SS → SS
  | 0 => fun _ _ _ s => s
  | d + 1 => fun L U W s => fl (bod Bd al (lvl Bd al d) L U W) 64 0 s
def arB (Bd : Nat → Nat → Bool) (U : Nat) : Nat → Nat
  | 0 => 0
  | b + 1 => arB Bd U b + (if U.testBit b then ct (Bd b) 256 else 0)
def s0 : SS := (0, 0, false, fun _ => 0)
/-- what a look for FILLINGS of O with set U comes to -/
def lok (Bd : Nat → Nat → Bool) (al : Bool) (O : Nat → Bool) (U : Nat) : SS := if arB Bd U 8 = ct O 256 then lvl Bd al 8 O U (fun _ => 0) s0 else s0
def fulS (Bd : Nat → Nat → Bool) (O : Nat → Bool) (U : Nat) : Bool := (lok Bd false O U).2.2.1
def finS (Bd : Nat → Nat → Bool) (O : Nat → Bool) (nb U : Nat) : Bool := decide (1 ≤ U ∧ U < 2 ^ nb) && decide (0 < (lok Bd false O U).2.1)
/-! counting under maps -/
theorem ct_inj (f : Nat → Nat) (m : Nat) : ∀ (n : Nat) (S T : Nat → Bool), (∀ i, i < n → S i = true → f i < m ∧ T (f i) = true) → (∀ i j, i < n → j < n → S i = true → S j = true → f i = f j → i = j) → ct S n ≤ ct T m := by
  intro n
  induction n with
  | zero => intro S T _ _; exact Nat.zero_le _
  | succ n ih =>
    intro S T h1 h2
    show ct S n + (if S n = true then 1 else 0) ≤ _
    by_cases c : S n = true
    · obtain ⟨a1, a2⟩ := h1 n (by omega) c
      have hd := (ct_drop a2 m).2 a1
      rw [if_pos c]
      have := ih S (fun i => T i && !decide (i = f n)) (fun i hi hs => ⟨(h1 i (by omega) hs).1, by
        rw [(h1 i (by omega) hs).2, decide_eq_false]
        · rfl
        · intro e
          have := h2 i n (by omega) (by omega) hs c e
          omega⟩) (fun i j hi hj => h2 i j (by omega) (by omega))
      omega
    · rw [if_neg c]
      exact ih S T (fun i hi => h1 i (by omega)) (fun i j hi hj => h2 i j (by omega) (by omega))
theorem ct_tu (fl : Bool) (S : Nat → Bool) : ct (tuS fl S) 256 = ct S 256 := by
  have e : ∀ j, j < 256 → tuS fl S j = S (qI fl j) := fun j hj => cu_in hj
  apply Nat.le_antisymm
  · refine ct_inj (qI fl) 256 256 _ _ (fun i hi hs => ⟨(qP_lt fl hi).2.1, by rw [← e i hi]; exact hs⟩) (fun i j hi hj _ _ h => ?_)
    rw [← (qP_lt fl hi).2.2.2, h, (qP_lt fl hj).2.2.2]
  · refine ct_inj (qP fl) 256 256 _ _ (fun i hi hs => ⟨(qP_lt fl hi).1, by rw [e _ (qP_lt fl hi).1, (qP_lt fl hi).2.2.1]; exact hs⟩) (fun i j hi hj _ _ h => ?_)
    rw [← (qP_lt fl hi).2.2.1, h, (qP_lt fl hj).2.2.1]
theorem ct_sh {z w : Int} {S : Nat → Bool} (ho : sOff z w S = false) : ct (shC z w S) 256 = ct S 256 := by
  have ho := sOff_f.mp ho
  apply Nat.le_antisymm
  · refine ct_inj (sTo (-z) (-w)) 256 256 _ _ (fun i hi hs => ?_) (fun i j hi hj h1 h2 h => ?_)
    · unfold shC at hs
      rw [cu_in hi] at hs
      unfold shS at hs
      simp only [Bool.and_eq_true] at hs
      exact ⟨(sTo_ok hi hs.1).1, hs.2⟩
    · unfold shC at h1 h2
      rw [cu_in hi] at h1
      rw [cu_in hj] at h2
      unfold shS at h1 h2
      simp only [Bool.and_eq_true] at h1 h2
      rw [← (sTo_ok hi h1.1).2.2, ← (sTo_ok hj h2.1).2.2, h]
  · refine ct_inj (sTo z w) 256 256 _ _ (fun i hi hs => ?_) (fun i j hi hj h1 h2 h => ?_)
    · have h3 := sTo_ok hi (ho i hi hs)
      refine ⟨h3.1, ?_⟩
      unfold shC
      rw [cu_in h3.1]
      unfold shS
      rw [h3.2.1, h3.2.2, hs]; rfl
    · rw [← (sTo_ok hi (ho i hi h1)).2.2, ← (sTo_ok hj (ho j hj h2)).2.2, h]
theorem ct_ba (S : Nat → Bool) : ct (baC S) 256 = ct S 256 := by
  have h := base_in S
  have e : ct (baC S) 256 = ct (shC (bsX S) (bsY S) S) 256 := ct_ext fun k hk => by
    unfold baC shC
    rw [cu_in hk, cu_in hk]
    unfold baS
    rw [h]; rfl
  rw [e, ct_sh h]
theorem ct_tuN : ∀ (k : Nat) (S : Nat → Bool), ct (tuN k S) 256 = ct S 256
  | 0, _ => rfl
  | k + 1, S => by rw [show tuN (k + 1) S = tuN k (tuS false S) from rfl, ct_tuN k, ct_tu]
theorem ct_im (g : Nat) (S : Nat → Bool) : ct (imS g S) 256 = ct S 256 := by
  unfold imS
  rw [ct_ba, ct_tuN]
  by_cases c : 4 ≤ g
  · rw [if_pos c, ct_tu]
  · rw [if_neg c]
theorem ct_0 {S : Nat → Bool} : ∀ n, ct S n = 0 ↔ ∀ i, i < n → S i = false
  | 0 => ⟨fun _ i h => by omega, fun _ => rfl⟩
  | n + 1 => by
    have ih := ct_0 (S := S) n
    show ct S n + (if S n = true then 1 else 0) = 0 ↔ _
    constructor
    · intro h i hi
      by_cases c : S n = true
      · rw [if_pos c] at h; omega
      · by_cases d : i = n
        · subst d; simpa using c
        · exact ih.mp (by omega) i (by omega)
    · intro h
      rw [h n (by omega), ih.mpr fun i hi => h i (by omega)]; rfl
theorem ct_noS {S : Nat → Bool} : noS S = true ↔ ct S 256 = 0 := by rw [noS_t, ct_0]
theorem ct_pos {S : Nat → Bool} (h : noS S = false) : 0 < ct S 256 := by
  rcases Nat.eq_zero_or_pos (ct S 256) with e | e
  · rw [ct_noS.mpr e] at h; cases h
  · exact e
theorem no_ex {S : Nat → Bool} : noS S = false ↔ ∃ i, i < 256 ∧ S i = true := by
  constructor
  · intro h
    by_cases c : ∃ i, i < 256 ∧ S i = true
    · exact c
    · have : noS S = true := noS_t.mpr fun i hi => by
        cases e : S i with
        | false => rfl
        | true => exact absurd ⟨i, hi, e⟩ c
      rw [this] at h; cases h
  · rintro ⟨i, hi, hs⟩
    cases e : noS S with
    | false => rfl
    | true => rw [noS_t.mp e i hi] at hs; cases hs
theorem im_no {S : Nat → Bool} (g : Nat) (h : noS S = false) : noS (imS g S) = false := by
  cases e : noS (imS g S) with
  | false => rfl
  | true =>
    have := ct_noS.mp e
    rw [ct_im] at this
    rw [ct_noS.mpr this] at h; cases h
/-- an IMAGE touches the left and the upper rim -/
theorem im_mn {S : Nat → Bool} (g : Nat) (h : noS S = false) : mnX (imS g S) 256 = 0 ∧ mnY (imS g S) 256 = 0 := by
  have h2 := no_ex.mp (im_no g h)
  unfold imS at h2 ⊢
  generalize (tuN (g % 4) (if 4 ≤ g then tuS true S else S)) = T at h2 ⊢
  have e : ∃ k, k < 256 ∧ T k = true := by
    have : 0 < ct T 256 := by
      rw [← ct_ba]
      exact ct_pos (no_ex.mpr h2)
    exact no_ex.mp (by
      cases f : noS T with
      | false => rfl
      | true => rw [ct_noS.mp f] at this; omega)
  obtain ⟨k, k1, k2⟩ := e
  have hx : mnX T 256 < 8 := by
    have := (mnX_sp T 256 (by omega)).1 k k1 k2
    have := x_lt k
    omega
  have hy : mnY T 256 < 8 := by
    have := (mnY_sp T 256 (by omega)).1 k k1 k2
    have := y_lt k1
    omega
  have ho : sOff (-(mnX T 256 : Int)) (-(mnY T 256 : Int)) T = false := by
    have := base_in T
    unfold bsX bsY at this
    rw [if_neg (by omega), if_neg (by omega)] at this
    exact this
  rw [baC_eq]
  have := mn_sh ho k1 k2
  omega
