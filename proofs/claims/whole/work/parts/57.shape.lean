/-! ===== the class' SHAPES: eight rows of 32 bits ===== -/
def setRw (mi : IM) (a : Nat) (R : Nat → Int32) : IM := fun c j => if c = a + 1 ∧ j < 8 then R j else mi c j
/-- the SHAPE that rows hold -/
def rS (R : Nat → Int32) : Nat → Bool := cu (fun i => bt (R (i / 32)) (i % 32))
def svS (mi : IM) (a : Nat) : Nat → Bool := rS (mi (a + 1))
theorem rS_in {R : Nat → Int32} {i : Nat} (h : i < 256) : rS R i = bt (R (i / 32)) (i % 32) := cu_in h
theorem rS_cu (R : Nat → Int32) : cu (rS R) = rS R := cu_cu _
theorem rS_ext {R T : Nat → Int32} (h : ∀ y, y < 8 → R y = T y) : rS R = rS T := cu_ext fun i hi => by rw [h _ (by omega)]
theorem rS_inj {R T : Nat → Int32} (h : rS R = rS T) {y : Nat} (hy : y < 8) : R y = T y := b_ext fun i hi => by
  have := congrFun h (32 * y + i)
  rw [rS_in (by omega), rS_in (by omega), show (32 * y + i) / 32 = y by omega, show (32 * y + i) % 32 = i by omega] at this
  exact this
theorem setRw_in {mi : IM} {a : Nat} {R : Nat → Int32} {y : Nat} (h : y < 8) : setRw mi a R (a + 1) y = R y := if_pos ⟨rfl, h⟩
theorem setRw_ne {mi : IM} {a c : Nat} {R : Nat → Int32} (h : c ≠ a + 1) : setRw mi a R c = mi c := by
  funext j; exact if_neg (fun q => h q.1)
theorem sv_set {mi : IM} {a : Nat} {R : Nat → Int32} : svS (setRw mi a R) a = rS R := rS_ext fun y hy => setRw_in hy
theorem sv_ne {mi : IM} {a b : Nat} {R : Nat → Int32} (h : b ≠ a) : svS (setRw mi a R) b = svS mi b := by unfold svS; rw [setRw_ne (by omega)]
section SHP
variable {n a b : Nat} {mi : IM} {ml : JM}
theorem og_sh {β : Type} {o : Option β} (h : isSh a) : og 7 a (K mi ml) o = o := og_K h.1
theorem gr_sh (h : isSh a) : gR 7 0 a (K mi ml) = some (a + 1) := gR_K h.1 h.2.1
theorem ld_sh (h : isSh a) {j : Nat} (hj : j < 8) : aI 100 (a + 1) (nI j) (K mi ml) = some (mi (a + 1) j) := aI_K h.2.2 (by omega) hj
theorem st_sh (h : isSh a) {j : Nat} {v : Int32} (hj : j < 8) : sI 100 (a + 1) (nI j) v (K mi ml) = some (K (upd2 mi (a + 1) j v) ml) := sI_K h.2.2 (by omega) hj
/-- a loop over the rows that writes row y anew out of what stands there and elsewhere -/
theorem rows_loop {F : Nat → Nat → IM → Option MM} (f : Nat → Int32 → Int32) (T0 : IM → IM) (hx : ∀ m s, F (m + 1) 8 s = some (K s ml)) (hs : ∀ m i s, i < 8 → F (m + 1) i s = F m (i + 1) (upd2 s (a + 1) i (f i (s (a + 1) i)))) : ∀ m, 8 < m → F m 0 mi = some (K (setRw mi a (fun y => f y (mi (a + 1) y))) ml) := by
  intro m hm
  have := loop_up F (fun i s => upd2 s (a + 1) i (f i (s (a + 1) i))) (fun s => some (K s ml)) 8 hx hs (fun i s => fun c j => if c = a + 1 ∧ i ≤ j ∧ j < 8 then f j (s (a + 1) j) else s c j)
    (fun s => by funext c j; rw [if_neg (by omega)])
    (fun i s hi => by
      funext c j
      simp only [u2]
      by_cases h1 : c = a + 1
      · by_cases h2 : j = i
        · subst h2; simp [h1, hi]
          intro hh; omega
        · by_cases h3 : i ≤ j ∧ j < 8
          · simp [h1, h2, h3, show i + 1 ≤ j by omega]
          · simp only [h1, h2, true_and, and_false, if_false]
            rw [if_neg (by omega), if_neg (by omega)]
      · simp [h1]) m 0 mi (by omega) (by omega)
  rw [this]
  congr 2
  funext c j
  unfold setRw
  by_cases h : c = a + 1 ∧ j < 8
  · rw [if_pos (by omega), if_pos h]
  · rw [if_neg (by omega), if_neg h]
theorem clear_s (h : isSh a) (hn : 8 < n) : f_Shape_clear n a (K mi ml) = some (K (setRw mi a (fun _ => 0)) ml) := by
  unfold f_Shape_clear
  rw [og_sh h, show (0 : Int32) = nI 0 from rfl]
  refine rows_loop (F := fun m i s => f_Shape_clear_2 n m a (nI i) (K s ml)) (fun _ _ => 0) id (fun m s => ?_) (fun m i s hi => ?_) n hn
  · show f_Shape_clear_2 n (m + 1) a (nI 8) (K s ml) = _
    rw [f_Shape_clear_2, if_pos (by decide)]
  · show f_Shape_clear_2 n (m + 1) a (nI i) (K s ml) = _
    rw [f_Shape_clear_2, if_neg (by rw [il1 (n := 8) (by omega) (by omega)]; omega), gr_sh h, bnd_s, st_sh h hi, bnd_s, nI_1]
theorem copy_s (h : isSh a) (hb : isSh b) (hab : a ≠ b) (hn : 8 < n) : f_Shape_copy n a b (K mi ml) = some (K (setRw mi a (mi (b + 1))) ml) := by
  unfold f_Shape_copy
  rw [og_sh h, show (0 : Int32) = nI 0 from rfl]
  have := loop_inv (fun m i (s : IM) => f_Shape_copy_2 n m a b (nI i) (K s ml)) (fun i s => upd2 s (a + 1) i (s (b + 1) i)) (fun s => some (K s ml)) 8
    (fun m s => by
      show f_Shape_copy_2 n (m + 1) a b (nI 8) (K s ml) = _
      rw [f_Shape_copy_2, if_pos (by decide)])
    (fun i s => ∀ c j, s c j = if c = a + 1 ∧ j < i then mi (b + 1) j else mi c j)
    (fun m i s hi _ => by
      show f_Shape_copy_2 n (m + 1) a b (nI i) (K s ml) = _
      rw [f_Shape_copy_2, if_neg (by rw [il1 (n := 8) (by omega) (by omega)]; omega), gr_sh h, bnd_s, gr_sh hb, bnd_s, ld_sh hb hi, bnd_s, st_sh h hi, bnd_s, nI_1])
    (fun i s hi hI c j => by
      have hbi : s (b + 1) i = mi (b + 1) i := by rw [hI, if_neg (by omega)]
      rw [u2, hbi]
      by_cases h1 : c = a + 1
      · by_cases h2 : j = i
        · subst h2; simp [h1]
        · rw [if_neg (fun q => h2 q.2), hI c j]
          by_cases h3 : j < i
          · rw [if_pos ⟨h1, h3⟩, if_pos ⟨h1, by omega⟩]
          · rw [if_neg (fun q => h3 q.2), if_neg (by omega)]
      · rw [if_neg (fun q => h1 q.1), hI c j, if_neg (fun q => h1 q.1), if_neg (fun q => h1 q.1)]) n 0 mi (by omega) (by omega) (fun c j => by rw [if_neg (by omega)])
  obtain ⟨s', e1, e2⟩ := this
  rw [show f_Shape_copy_2 n n a b (nI 0) (K mi ml) = _ from e1]
  congr 2
  funext c j
  rw [e2 c j]; rfl
theorem cell_out {x y : Int32} (h : isSh a) (ho : x < 0 ∨ 8 ≤ x ∨ y < 0 ∨ 8 ≤ y) : f_Shape_cell n a x y (K mi ml) = some (0, K mi ml) := by
  unfold f_Shape_cell
  rw [og_sh h]
  by_cases c1 : x < 0
  · rw [if_pos c1]
  rw [if_neg c1]
  by_cases c2 : 8 ≤ x
  · rw [if_pos c2]
  rw [if_neg c2]
  by_cases c3 : y < 0
  · rw [if_pos c3]
  rw [if_neg c3]
  have c4 : 8 ≤ y := by rcases ho with q | q | q | q; exact absurd q c1; exact absurd q c2; exact absurd q c3; exact q
  rw [if_neg (Int32.not_lt.mpr c4)]
/-- the four QUARTERS of a CELL as a number -/
def ceV (S : Nat → Bool) (x y : Nat) : Nat := (if S (4 * (8 * y + x)) then 1 else 0) + (if S (4 * (8 * y + x) + 1) then 2 else 0) + (if S (4 * (8 * y + x) + 2) then 4 else 0) + (if S (4 * (8 * y + x) + 3) then 8 else 0)
theorem ceV_lt (S : Nat → Bool) (x y : Nat) : ceV S x y < 16 := by unfold ceV; split <;> split <;> split <;> split <;> omega
theorem ceV_bit (S : Nat → Bool) (x y : Nat) : ∀ d, d < 4 → (ceV S x y).testBit d = S (4 * (8 * y + x) + d) := by
  intro d hd
  have h : ∀ p q r s : Bool, ∀ d, d < 4 → ((if p then 1 else 0) + (if q then 2 else 0) + (if r then 4 else 0) + (if s then 8 else 0) : Nat).testBit d = (if d = 0 then p else if d = 1 then q else if d = 2 then r else s) := by decide
  unfold ceV
  rw [h _ _ _ _ d hd]
  have : d = 0 ∨ d = 1 ∨ d = 2 ∨ d = 3 := by omega
  rcases this with rfl | rfl | rfl | rfl <;> rfl
theorem cell_s {x y : Nat} (h : isSh a) (hx : x < 8) (hy : y < 8) : f_Shape_cell n a (nI x) (nI y) (K mi ml) = some (nI (ceV (svS mi a) x y), K mi ml) := by
  unfold f_Shape_cell
  rw [og_sh h, if_neg (nI_pos (by omega)), if_neg (by rw [il1 (n := 8) (by omega) (by omega)]; omega), if_neg (nI_pos (by omega)), if_pos (by rw [it2 (n := 8) (by omega) (by omega)]; exact hy), gr_sh h, bnd_s, ld_sh h hy, bnd_s, im2 (n := 4)]
  congr 2
  refine b_ext fun i hi => ?_
  rw [b_and, b_iushr (by omega), b_15 i hi, b_nI hi]
  by_cases h4 : i < 4
  · rw [ceV_bit _ _ _ i h4]
    unfold svS
    rw [rS_in (by omega)]
    rw [show (4 * (8 * y + x) + i) / 32 = y by omega, show (4 * (8 * y + x) + i) % 32 = 4 * x + i by omega]
    simp only [h4, decide_true, Bool.and_true]
  · rw [Nat.testBit_lt_two_pow (i := i) (Nat.lt_of_lt_of_le (ceV_lt _ _ _) (show 2 ^ 4 ≤ 2 ^ i from Nat.pow_le_pow_right (by omega) (by omega)))]
    simp [h4]
/-- nothing changed but these cells -/
theorem addCell_s {x y : Nat} {q : Int32} (h : isSh a) (hx : x < 8) (hy : y < 8) : f_Shape_addCell n a (nI x) (nI y) q (K mi ml) = some (K (upd2 mi (a + 1) y (mi (a + 1) y ||| ishl (q &&& 15) (nI (4 * x)))) ml) := by
  unfold f_Shape_addCell
  rw [og_sh h, if_neg (nI_pos (by omega)), if_neg (by rw [il1 (n := 8) (by omega) (by omega)]; omega), if_neg (nI_pos (by omega)), if_neg (by rw [il1 (n := 8) (by omega) (by omega)]; omega), gr_sh h, bnd_s, ld_sh h hy, bnd_s, im2 (n := 4), st_sh h hy, bnd_s]
theorem addCell_b {x y : Nat} {q : Int32} (hx : x < 8) (hy : y < 8) {i : Nat} (hi : i < 256) : svS (upd2 mi (a + 1) y (mi (a + 1) y ||| ishl (q &&& 15) (nI (4 * x)))) a i = (svS mi a i || (decide (i / 4 = 8 * y + x) && bt q (i % 4))) := by
  unfold svS
  rw [rS_in hi, rS_in hi, u2]
  by_cases hr : i / 32 = y
  · rw [if_pos ⟨rfl, hr⟩, b_or, b_ishl (by omega) _ (by omega), b_and, hr]
    congr 1
    by_cases hc : i / 4 = 8 * y + x
    · rw [show i % 32 - 4 * x = i % 4 by omega, b_15 _ (by omega)]
      simp [hc, show 4 * x ≤ i % 32 by omega, show i % 4 < 4 by omega]
    · by_cases h4 : 4 * x ≤ i % 32
      · rw [b_15 _ (by omega)]
        simp [hc, show ¬ i % 32 - 4 * x < 4 by omega]
      · simp [hc, h4]
  · rw [if_neg (fun q => hr q.2)]
    simp [show ¬ i / 4 = 8 * y + x by omega]
theorem rot4 : ∀ k, k < 16 → ∀ d, d < 4 → bt (ishl (nI k) 1 ||| ushr (nI k) 3) d = k.testBit ((d + 3) % 4) := by decide +kernel
theorem flp4 : ∀ k, k < 16 → ∀ d, d < 4 → bt (((nI k &&& 5) ||| ishl (nI k &&& 2) 2) ||| ushr (nI k &&& 8) 2) d = k.testBit ((4 - d) % 4) := by decide +kernel
def IT (fl : Bool) (mi : IM) (a b : Nat) (t : Nat) (s : IM) : Prop := (∀ c, c ≠ a + 1 → s c = mi c) ∧ ∀ j, j < 256 → svS s a j = (decide (qI fl j / 4 < t) && svS mi b (qI fl j))
theorem IT_step {fl : Bool} {x y x' y' : Nat} {q : Int32} {s : IM} (hab : a ≠ b) (hx : x < 8) (hy : y < 8) (hx' : x' < 8) (hy' : y' < 8) (hI : IT fl mi a b (8 * y + x) s)
    (hpos : ∀ j, j < 256 → (j / 4 = 8 * y' + x' ↔ qI fl j / 4 = 8 * y + x)) (hq : ∀ j, j < 256 → qI fl j / 4 = 8 * y + x → bt q (j % 4) = svS mi b (qI fl j)) : IT fl mi a b (8 * y + (x + 1)) (upd2 s (a + 1) y' (s (a + 1) y' ||| ishl (q &&& 15) (nI (4 * x')))) := by
  refine ⟨fun c hc => by rw [upd2_ne hc]; exact hI.1 c hc, fun j hj => ?_⟩
  rw [addCell_b hx' hy' hj, hI.2 j hj]
  by_cases h1 : qI fl j / 4 = 8 * y + x
  · rw [hq j hj h1]
    simp [(hpos j hj).mpr h1, h1]
  · have h2 : ¬ j / 4 = 8 * y' + x' := fun e => h1 ((hpos j hj).mp e)
    by_cases h3 : qI fl j / 4 < 8 * y + x
    · simp [h2, h3, show qI fl j / 4 < 8 * y + (x + 1) by omega]
    · simp [h2, h3, show ¬ qI fl j / 4 < 8 * y + (x + 1) by omega]
theorem turn_pos : ∀ y, y < 8 → ∀ x, x < 8 → ∀ j, j < 256 → (j / 4 = 8 * x + (7 - y) ↔ qTi j / 4 = 8 * y + x) := by
  intro y hy x hx j hj
  have e : qTi j / 4 = 8 * (7 - j / 4 % 8) + j / 32 := by unfold qTi; omega
  have e1 : j / 4 = 8 * (j / 32) + j / 4 % 8 := by omega
  have h1 : j / 32 < 8 := by omega
  have h2 : j / 4 % 8 < 8 := by omega
  rw [e, e1]
  generalize j / 4 % 8 = u at h2
  generalize j / 32 = v at h1
  rw [show (8 * v + u) % 8 = u by omega]
  omega
theorem flip_pos : ∀ y, y < 8 → ∀ x, x < 8 → ∀ j, j < 256 → (j / 4 = 8 * y + (7 - x) ↔ qF j / 4 = 8 * y + x) := by
  intro y hy x hx j hj
  unfold qF
  omega
theorem turned_in {k9 : Nat → Nat → Int32 → MM → Option MM} {y : Nat} (h : isSh a) (hb : isSh b) (hab : a ≠ b) (hy : y < 8) : ∀ (m x : Nat) (s : IM), x ≤ 8 → 8 < m + x → IT false mi a b (8 * y + x) s → ∃ s', f_Shape_becomeTurned_14 n k9 m a b (nI y) (nI x) (K s ml) = k9 a b (nI y) (K s' ml) ∧ IT false mi a b (8 * y + 8) s' := by
  intro m
  induction m with
  | zero => intro x s h1 h2; omega
  | succ m ih =>
    intro x s h1 h2 hI
    rw [f_Shape_becomeTurned_14]
    by_cases hx : x = 8
    · subst hx
      rw [if_pos (by decide)]
      exact ⟨s, rfl, hI⟩
    · rw [if_neg (by rw [il1 (n := 8) (by omega) (by omega)]; omega), cell_s hb (by omega) hy, bnd_s, is2 (n := 7) (by omega), addCell_s h (by omega) (by omega), bnd_s, nI_1]
      have hbs : svS s b = svS mi b := by unfold svS; rw [hI.1 (b + 1) (by omega)]
      refine ih (x + 1) _ (by omega) (by omega) (IT_step hab (by omega) hy (by omega) (by omega) hI (turn_pos y hy x (by omega)) fun j hj hc => ?_)
      show bt _ _ = svS mi b (qTi j)
      rw [hbs, rot4 _ (ceV_lt _ _ _) _ (by omega), ceV_bit _ _ _ _ (by omega)]
      congr 1
      have : qTi j % 4 = (j % 4 + 3) % 4 := by unfold qTi; omega
      have h4 : qTi j / 4 = 8 * y + x := hc
      omega
theorem flipped_in {k9 : Nat → Nat → Int32 → MM → Option MM} {y : Nat} (h : isSh a) (hb : isSh b) (hab : a ≠ b) (hy : y < 8) : ∀ (m x : Nat) (s : IM), x ≤ 8 → 8 < m + x → IT true mi a b (8 * y + x) s → ∃ s', f_Shape_becomeFlipped_14 n k9 m a b (nI y) (nI x) (K s ml) = k9 a b (nI y) (K s' ml) ∧ IT true mi a b (8 * y + 8) s' := by
  intro m
  induction m with
  | zero => intro x s h1 h2; omega
  | succ m ih =>
    intro x s h1 h2 hI
    rw [f_Shape_becomeFlipped_14]
    by_cases hx : x = 8
    · subst hx
      rw [if_pos (by decide)]
      exact ⟨s, rfl, hI⟩
    · rw [if_neg (by rw [il1 (n := 8) (by omega) (by omega)]; omega), cell_s hb (by omega) hy, bnd_s, nm_t, is2 (n := 7) (by omega), addCell_s h (by omega) (by omega), bnd_s, nI_1]
      have hbs : svS s b = svS mi b := by unfold svS; rw [hI.1 (b + 1) (by omega)]
      refine ih (x + 1) _ (by omega) (by omega) (IT_step hab (by omega) hy (by omega) (by omega) hI (flip_pos y hy x (by omega)) fun j hj hc => ?_)
      show bt _ _ = svS mi b (qF j)
      rw [hbs, flp4 _ (ceV_lt _ _ _) _ (by omega), ceV_bit _ _ _ _ (by omega)]
      congr 1
      have : qF j % 4 = (4 - j % 4) % 4 := by unfold qF; omega
      have h4 : qF j / 4 = 8 * y + x := hc
      omega
theorem turned_out (h : isSh a) (hb : isSh b) (hab : a ≠ b) (hn : 8 < n) : ∀ (m y : Nat) (s : IM), y ≤ 8 → 8 < m + y → IT false mi a b (8 * y) s → ∃ s', f_Shape_becomeTurned_6 n m a b (nI y) (K s ml) = some (K s' ml) ∧ IT false mi a b 64 s' := by
  intro m
  induction m with
  | zero => intro x s h1 h2; omega
  | succ m ih =>
    intro y s h1 h2 hI
    rw [f_Shape_becomeTurned_6]
    by_cases hy : y = 8
    · subst hy
      rw [if_pos (by decide)]
      exact ⟨s, rfl, hI⟩
    · rw [if_neg (by rw [il1 (n := 8) (by omega) (by omega)]; omega), show (0 : Int32) = nI 0 from rfl]
      obtain ⟨s1, e1, e2⟩ := turned_in (n := n) (ml := ml) (k9 := f_Shape_becomeTurned_52 n (f_Shape_becomeTurned_6 n m)) h hb hab (show y < 8 by omega) n 0 s (by omega) (by omega) hI
      rw [e1]
      unfold f_Shape_becomeTurned_52
      rw [nI_1]
      exact ih (y + 1) s1 (by omega) (by omega) e2
theorem flipped_out (h : isSh a) (hb : isSh b) (hab : a ≠ b) (hn : 8 < n) : ∀ (m y : Nat) (s : IM), y ≤ 8 → 8 < m + y → IT true mi a b (8 * y) s → ∃ s', f_Shape_becomeFlipped_6 n m a b (nI y) (K s ml) = some (K s' ml) ∧ IT true mi a b 64 s' := by
  intro m
  induction m with
  | zero => intro x s h1 h2; omega
  | succ m ih =>
    intro y s h1 h2 hI
    rw [f_Shape_becomeFlipped_6]
    by_cases hy : y = 8
    · subst hy
      rw [if_pos (by decide)]
      exact ⟨s, rfl, hI⟩
    · rw [if_neg (by rw [il1 (n := 8) (by omega) (by omega)]; omega), show (0 : Int32) = nI 0 from rfl]
      obtain ⟨s1, e1, e2⟩ := flipped_in (n := n) (ml := ml) (k9 := f_Shape_becomeFlipped_66 n (f_Shape_becomeFlipped_6 n m)) h hb hab (show y < 8 by omega) n 0 s (by omega) (by omega) hI
      rw [e1]
      unfold f_Shape_becomeFlipped_66
      rw [nI_1]
      exact ih (y + 1) s1 (by omega) (by omega) e2
theorem IT_0 {fl : Bool} (hab : a ≠ b) : IT fl mi a b 0 (setRw mi a (fun _ => 0)) := by
  refine ⟨fun c hc => setRw_ne hc, fun j hj => ?_⟩
  rw [sv_set, rS_in hj, b_0]
  simp
theorem IT_64 {fl : Bool} {s : IM} (hI : IT fl mi a b 64 s) : svS s a = tuS fl (svS mi b) := by
  have : svS s a = cu (svS s a) := (rS_cu _).symm
  rw [this]
  unfold tuS
  refine cu_ext fun j hj => ?_
  rw [hI.2 j hj]
  have := (qP_lt fl hj).2.1
  simp [show qI fl j / 4 < 64 by omega]
theorem turned_s (h : isSh a) (hb : isSh b) (hab : a ≠ b) (hn : 8 < n) : ∃ mi', f_Shape_becomeTurned n a b (K mi ml) = some (K mi' ml) ∧ svS mi' a = tuS false (svS mi b) ∧ ∀ c, c ≠ a + 1 → mi' c = mi c := by
  unfold f_Shape_becomeTurned
  rw [og_sh h, clear_s h hn, bnd_s, show (0 : Int32) = nI 0 from rfl]
  obtain ⟨s', e1, e2⟩ := turned_out (ml := ml) h hb hab hn n 0 _ (by omega) (by omega) (IT_0 hab)
  exact ⟨s', e1, IT_64 e2, e2.1⟩
theorem flipped_s (h : isSh a) (hb : isSh b) (hab : a ≠ b) (hn : 8 < n) : ∃ mi', f_Shape_becomeFlipped n a b (K mi ml) = some (K mi' ml) ∧ svS mi' a = tuS true (svS mi b) ∧ ∀ c, c ≠ a + 1 → mi' c = mi c := by
  unfold f_Shape_becomeFlipped
  rw [og_sh h, clear_s h hn, bnd_s, show (0 : Int32) = nI 0 from rfl]
  obtain ⟨s', e1, e2⟩ := flipped_out (ml := ml) h hb hab hn n 0 _ (by omega) (by omega) (IT_0 hab)
  exact ⟨s', e1, IT_64 e2, e2.1⟩
end SHP
