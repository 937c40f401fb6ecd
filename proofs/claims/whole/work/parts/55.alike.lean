/-! ===== the reference: alike, least same, area, images, least ===== -/
/-- the first of c places from i on -/
def fnd (P : Nat → Bool) : Nat → Nat → Option Nat
  | 0, _ => none
  | c + 1, i => if P i then some i else fnd P c (i + 1)
theorem fnd_some {P : Nat → Bool} : ∀ {c i k : Nat}, fnd P c i = some k → i ≤ k ∧ k < i + c ∧ P k = true ∧ ∀ j, i ≤ j → j < k → P j = false
  | 0, i, k, h => by cases h
  | c + 1, i, k, h => by
    unfold fnd at h
    split at h
    · next hp => cases h; exact ⟨Nat.le_refl _, by omega, hp, fun j h1 h2 => by omega⟩
    · next hp =>
      obtain ⟨h1, h2, h3, h4⟩ := fnd_some h
      refine ⟨by omega, by omega, h3, fun j h5 h6 => ?_⟩
      by_cases e : j = i
      · subst e; simpa using hp
      · exact h4 j (by omega) h6
theorem fnd_none {P : Nat → Bool} : ∀ {c i : Nat}, fnd P c i = none ↔ ∀ j, i ≤ j → j < i + c → P j = false
  | 0, i => by simp [fnd]; intro j h1 h2; omega
  | c + 1, i => by
    unfold fnd
    constructor
    · intro h j h1 h2
      split at h
      · cases h
      · next hp =>
        by_cases e : j = i
        · subst e; simpa using hp
        · exact fnd_none.mp h j (by omega) (by omega)
    · intro h
      rw [if_neg (by rw [h i (Nat.le_refl _) (by omega)]; decide)]
      exact fnd_none.mpr fun j h1 h2 => h j (by omega) (by omega)
theorem fnd_eq {P : Nat → Bool} {c i k : Nat} (h1 : i ≤ k) (h2 : k < i + c) (h3 : P k = true) (h4 : ∀ j, i ≤ j → j < k → P j = false) : fnd P c i = some k := by
  cases e : fnd P c i with
  | none => rw [fnd_none.mp e k h1 h2] at h3; cases h3
  | some k2 =>
    obtain ⟨a1, a2, a3, a4⟩ := fnd_some e
    rcases Nat.lt_trichotomy k k2 with q | q | q
    · rw [a4 k h1 q] at h3; cases h3
    · rw [q]
    · rw [h4 k2 a1 q] at a3; cases a3
theorem fnd_ext {P Q : Nat → Bool} : ∀ {c i : Nat}, (∀ j, i ≤ j → j < i + c → P j = Q j) → fnd P c i = fnd Q c i
  | 0, i, _ => rfl
  | c + 1, i, h => by
    unfold fnd
    rw [h i (Nat.le_refl _) (by omega), fnd_ext (c := c) (i := i + 1) fun j h1 h2 => h j (by omega) (by omega)]
def oI (o : Option Nat) (d : Int32) : Int32 := match o with
  | some k => nI k
  | none => d
/-- by which g IMAGE g of S is the BASE of T -/
def alG (S T : Nat → Bool) : Option Nat := fnd (fun g => smS (imS g S) (baC T)) 8 0
section ALK
variable {n p q : Nat} {mi : IM} {ml : JM}
theorem alike_loop {S T : Nat → Bool} (hp : p < 56) (hp1 : p ∉ [44, 45, 46, 47]) (hn : 256 < n) : ∀ (m i : Nat) (mi : IM), i ≤ 8 → 8 < m + i → B01 mi → pS mi p = S → pS mi 46 = T → ∃ mi', f_Mo_alikeBy_9 n m 559 (nI p) (nI i) (K mi ml) = some (oI (fnd (fun g => smS (imS g S) T) (8 - i) i) (-1), K mi' ml) ∧ Fr [44, 45, 46, 47] mi mi' ∧ B01 mi' := by
  intro m
  induction m with
  | zero => intro i mi h1 h2; omega
  | succ m ih =>
    intro i mi h1 h2 hb hS hT
    rw [f_Mo_alikeBy_9]
    by_cases hi : i = 8
    · subst hi
      rw [if_pos (by decide)]
      exact ⟨mi, rfl, Fr.rf, hb⟩
    · rw [if_neg (by rw [il1 (n := 8) (by omega) (by omega)]; omega), show (47 : Int32) = nI 47 from rfl, show (46 : Int32) = nI 46 from rfl]
      obtain ⟨m1, e1, e2, e3, e4⟩ := imaged_S (ml := ml) (to := 47) hb hp (fun e => hp1 (by simp [e])) (show i < 8 by omega) hn (by omega) (by omega) (by omega)
      rw [e1, bnd_s, isSame_S e4 (by omega) (by omega) hn, bnd_s]
      have h46 : pS m1 46 = T := by rw [e3.pS (by simp), hT]
      rw [e2, h46, hS]
      have hF : Fr [44, 45, 46, 47] mi m1 := e3.mono (by simp)
      rw [show 8 - i = (8 - (i + 1)) + 1 by omega]
      unfold fnd
      cases hc : smS (imS i S) T with
      | true =>
        rw [if_neg (show ¬ b2i true = 0 by decide), if_pos rfl]
        exact ⟨m1, rfl, hF, e4⟩
      | false =>
        rw [if_pos (show b2i false = 0 by decide), if_neg (by decide), nI_1]
        obtain ⟨m2, g1, g2, g3⟩ := ih (i + 1) m1 (by omega) (by omega) e4 (by rw [hF.pS hp1, hS]) h46
        exact ⟨m2, g1, hF.trans g2, g3⟩
theorem alikeBy_S (hb : B01 mi) (hp : p < 56) (hq : q < 56) (hp1 : p ∉ [44, 45, 46, 47]) (hq1 : q ≠ 46) (hn : 256 < n) : ∃ mi', f_Mo_alikeBy n 559 (nI p) (nI q) (K mi ml) = some (oI (alG (pS mi p) (pS mi q)) (-1), K mi' ml) ∧ Fr [44, 45, 46, 47] mi mi' ∧ B01 mi' := by
  unfold f_Mo_alikeBy
  rw [o_559, show (46 : Int32) = nI 46 from rfl, bases_S hq (by omega) hq1 hn, bnd_s]
  obtain ⟨m2, g1, g2, g3⟩ := alike_loop (ml := ml) (S := pS mi p) (T := baC (pS mi q)) hp hp1 hn n 0 (setPg mi 46 (baC (pS mi q))) (by omega) (by omega) (B01_set hb) (pS_ne (fun e => hp1 (by simp [e]))) (by rw [pS_set]; exact cu_cu _)
  exact ⟨m2, g1, Fr.trans (Fr.rf.set (by simp)) g2, g3⟩
/-- the least g of the same IMAGE -/
def lsG (S : Nat → Bool) (g : Nat) : Nat := (fnd (fun k => smS (imS g S) (imS k S)) g 0).getD g
theorem least_loop {S T : Nat → Bool} {g : Nat} (hp : p < 56) (hp1 : p ∉ [44, 45, 48, 49]) (hg : g < 8) (hn : 256 < n) : ∀ (m i : Nat) (mi : IM), i ≤ g → g < m + i → B01 mi → pS mi p = S → pS mi 48 = T → ∃ mi', f_Mo_leastSame_10 n m 559 (nI p) (nI g) (nI i) (K mi ml) = some (nI ((fnd (fun k => smS T (imS k S)) (g - i) i).getD g), K mi' ml) ∧ Fr [44, 45, 48, 49] mi mi' ∧ B01 mi' ∧ pS mi' 48 = T := by
  intro m
  induction m with
  | zero => intro i mi h1 h2; omega
  | succ m ih =>
    intro i mi h1 h2 hb hS hT
    rw [f_Mo_leastSame_10]
    by_cases hi : i = g
    · subst hi
      rw [if_pos (nI_le (Nat.le_refl _) (by omega)), Nat.sub_self]
      exact ⟨mi, rfl, Fr.rf, hb, hT⟩
    · rw [if_neg (by rw [nI_leI (by omega) (by omega)]; omega), show (48 : Int32) = nI 48 from rfl, show (49 : Int32) = nI 49 from rfl]
      obtain ⟨m1, e1, e2, e3, e4⟩ := imaged_S (ml := ml) (to := 49) hb hp (fun e => hp1 (by simp [e])) (show i < 8 by omega) hn (by omega) (by omega) (by omega)
      rw [e1, bnd_s, isSame_S e4 (by omega) (by omega) hn, bnd_s]
      have h48 : pS m1 48 = T := by rw [e3.pS (by simp), hT]
      rw [e2, h48, hS]
      have hF : Fr [44, 45, 48, 49] mi m1 := e3.mono (by simp)
      rw [show g - i = (g - (i + 1)) + 1 by omega]
      unfold fnd
      cases hc : smS T (imS i S) with
      | true =>
        rw [if_neg (show ¬ b2i true = 0 by decide), if_pos rfl]
        exact ⟨m1, rfl, hF, e4, h48⟩
      | false =>
        rw [if_pos (show b2i false = 0 by decide), if_neg (by decide), nI_1]
        obtain ⟨m2, g1, g2, g3, g4⟩ := ih (i + 1) m1 (by omega) (by omega) e4 (by rw [hF.pS hp1, hS]) h48
        exact ⟨m2, g1, hF.trans g2, g3, g4⟩
theorem leastSame_S {g : Nat} (hb : B01 mi) (hp : p < 56) (hp1 : p ∉ [44, 45, 48, 49]) (hg : g < 8) (hn : 256 < n) : ∃ mi', f_Mo_leastSame n 559 (nI p) (nI g) (K mi ml) = some (nI (lsG (pS mi p) g), K mi' ml) ∧ Fr [44, 45, 48, 49] mi mi' ∧ B01 mi' := by
  unfold f_Mo_leastSame
  obtain ⟨m1, e1, e2, e3, e4⟩ := imaged_S (ml := ml) (to := 48) hb hp (fun e => hp1 (by simp [e])) hg hn (by omega) (by omega) (by omega)
  rw [o_559, show (48 : Int32) = nI 48 from rfl, e1, bnd_s]
  have hF : Fr [44, 45, 48, 49] mi m1 := e3.mono (by simp)
  obtain ⟨m2, g1, g2, g3, g4⟩ := least_loop (ml := ml) (S := pS mi p) (T := imS g (pS mi p)) hp hp1 hg hn n 0 m1 (by omega) (by omega) e4 (hF.pS hp1) e2
  exact ⟨m2, g1, hF.trans g2, g3⟩
/-- how many -/
def ct (S : Nat → Bool) : Nat → Nat
  | 0 => 0
  | i + 1 => ct S i + (if S i then 1 else 0)
theorem ct_le (S : Nat → Bool) : ∀ i, ct S i ≤ i
  | 0 => Nat.le_refl 0
  | i + 1 => by have := ct_le S i; unfold ct; split <;> omega
theorem ct_ext {S T : Nat → Bool} : ∀ {i : Nat}, (∀ k, k < i → S k = T k) → ct S i = ct T i
  | 0, _ => rfl
  | i + 1, h => by unfold ct; rw [ct_ext (i := i) fun k hk => h k (by omega), h i (by omega)]
theorem area_loop (hp : p < 56) : ∀ (m i : Nat), i ≤ 256 → 256 < m + i → f_Mo_areaOf_4 n m 559 (nI p) (nI (ct (pS mi p) i)) (nI i) (K mi ml) = some (nI (ct (pS mi p) 256), K mi ml) := by
  intro m
  induction m with
  | zero => intro i h1 h2; omega
  | succ m ih =>
    intro i h1 h2
    rw [f_Mo_areaOf_4]
    by_cases hi : i = 256
    · subst hi; rw [if_pos (by decide)]
    · rw [← ih (i + 1) (by omega) (by omega)]
      have hpgi : (pS mi p i = true) ↔ ¬ mi 567 (256 * p + i) = 0 := by rw [pS_in (by omega)]; unfold pg; simp
      by_cases h0 : mi 567 (256 * p + i) = 0
      · have hf : pS mi p i = false := by cases e : pS mi p i; rfl; exact absurd h0 (hpgi.mp e)
        simp (disch := omega) only [il1 (n := 256), show ¬ 256 ≤ i by omega, if_false, rf_559_18, bnd_s, im2 (n := 256), ia3, a_567, h0, if_true, f_Mo_areaOf_29, ia1 (n := 1), ct, hf, Bool.false_eq_true, Nat.add_zero]
      · have ht : pS mi p i = true := hpgi.mpr h0
        simp (disch := omega) only [il1 (n := 256), show ¬ 256 ≤ i by omega, if_false, rf_559_18, bnd_s, im2 (n := 256), ia3, a_567, h0, if_true, f_Mo_areaOf_29, ia1 (n := 1), ct, ht]
theorem areaOf_S (hp : p < 56) (hn : 256 < n) : f_Mo_areaOf n 559 (nI p) (K mi ml) = some (nI (ct (pS mi p) 256), K mi ml) := by
  unfold f_Mo_areaOf
  rw [o_559]
  exact area_loop hp n 0 (by omega) (by omega)
/-- how many different IMAGES -/
theorem images_loop {S : Nat → Bool} (hp : p < 56) (hp1 : p ∉ [44, 45, 48, 49]) (hn : 256 < n) : ∀ (m i : Nat) (mi : IM), i ≤ 8 → 8 < m + i → B01 mi → pS mi p = S → ∃ mi', f_Mo_images_20 n m 559 (nI p) (nI (ct (fun g => lsG S g == g) i)) (nI i) (K mi ml) = some (nI (ct (fun g => lsG S g == g) 8), K mi' ml) ∧ Fr [44, 45, 48, 49] mi mi' ∧ B01 mi' := by
  intro m
  induction m with
  | zero => intro i mi h1 h2; omega
  | succ m ih =>
    intro i mi h1 h2 hb hS
    rw [f_Mo_images_20]
    by_cases hi : i = 8
    · subst hi
      rw [if_pos (by decide)]
      exact ⟨mi, rfl, Fr.rf, hb⟩
    · obtain ⟨m1, e1, e2, e3⟩ := leastSame_S (ml := ml) hb hp hp1 (show i < 8 by omega) hn
      rw [if_neg (by rw [il1 (n := 8) (by omega) (by omega)]; omega), e1, bnd_s, hS]
      obtain ⟨m2, g1, g2, g3⟩ := ih (i + 1) m1 (by omega) (by omega) e3 (by rw [e2.pS hp1, hS])
      refine ⟨m2, ?_, e2.trans g2, g3⟩
      rw [← g1]
      have hlt : lsG S i < 2 ^ 31 := by
        unfold lsG
        cases e : fnd (fun k => smS (imS i S) (imS k S)) i 0 with
        | none => show i < _; omega
        | some k => have := (fnd_some e).2.1; show k < _; omega
      by_cases c : lsG S i = i
      · rw [if_pos (by show nI (lsG S i) = nI i; rw [c])]
        unfold f_Mo_images_42
        rw [nI_1, nI_1]
        simp only [ct, c, beq_self_eq_true, if_true]
      · rw [if_neg (by show ¬ nI (lsG S i) = nI i; rw [nI_eq hlt (by omega)]; exact c)]
        unfold f_Mo_images_42
        rw [nI_1]
        have : (lsG S i == i) = false := by simpa using c
        simp only [ct, this, Bool.false_eq_true, if_false, Nat.add_zero]
theorem least38_S (hb : B01 mi) : ∀ (m i : Nat), i ≤ 256 → 256 < m + i → f_Mo_least_38 n m 559 (nI i) (K mi ml) = some (oI (fnd (pS mi 48) (256 - i) i) (-1), K mi ml) := by
  intro m
  induction m with
  | zero => intro i h1 h2; omega
  | succ m ih =>
    intro i h1 h2
    rw [f_Mo_least_38]
    by_cases hi : i = 256
    · subst hi; rw [if_pos (by decide)]; rfl
    · have hpgi : (pS mi 48 i = true) ↔ ¬ mi 567 (12288 + i) = 0 := by rw [pS_in (by omega)]; unfold pg; simp
      rw [show 256 - i = (256 - (i + 1)) + 1 by omega]
      unfold fnd
      by_cases h0 : mi 567 (12288 + i) = 0
      · have hf : pS mi 48 i = false := by cases e : pS mi 48 i; rfl; exact absurd h0 (hpgi.mp e)
        simp (disch := omega) only [il1 (n := 256), show ¬ 256 ≤ i by omega, if_false, rf_559_18, bnd_s, ia2 (n := 12288), a_567, h0, if_true, ia1 (n := 1), hf, Bool.false_eq_true]
        exact ih (i + 1) (by omega) (by omega)
      · have ht : pS mi 48 i = true := hpgi.mpr h0
        simp (disch := omega) only [il1 (n := 256), show ¬ 256 ≤ i by omega, if_false, rf_559_18, bnd_s, ia2 (n := 12288), a_567, h0, if_true, ht]
        rfl
end ALK
