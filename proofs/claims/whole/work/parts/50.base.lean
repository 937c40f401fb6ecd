/-! ===== numbers as nI, with literals on one side ===== -/
theorem ia1 (a n : Nat) : nI a + (OfNat.ofNat n : Int32) = nI (a + n) := nI_add a n
theorem ia2 (a n : Nat) : (OfNat.ofNat n : Int32) + nI a = nI (n + a) := nI_add n a
theorem im1 (a n : Nat) : nI a * (OfNat.ofNat n : Int32) = nI (a * n) := pk_mul a n
theorem im2 (a n : Nat) : (OfNat.ofNat n : Int32) * nI a = nI (n * a) := pk_mul n a
theorem is1 {a n : Nat} (h : n ≤ a) : nI a - (OfNat.ofNat n : Int32) = nI (a - n) := pk_sub h
theorem is2 {a n : Nat} (h : a ≤ n) : (OfNat.ofNat n : Int32) - nI a = nI (n - a) := pk_sub h
theorem il1 {a n : Nat} (hn : n < 2 ^ 31) (ha : a < 2 ^ 31) : (OfNat.ofNat n : Int32) ≤ nI a ↔ n ≤ a := nI_leI hn ha
theorem il2 {a n : Nat} (hn : n < 2 ^ 31) (ha : a < 2 ^ 31) : nI a ≤ (OfNat.ofNat n : Int32) ↔ a ≤ n := nI_leI ha hn
theorem it1 {a n : Nat} (hn : n < 2 ^ 31) (ha : a < 2 ^ 31) : (OfNat.ofNat n : Int32) < nI a ↔ n < a := nI_ltI hn ha
theorem it2 {a n : Nat} (hn : n < 2 ^ 31) (ha : a < 2 ^ 31) : nI a < (OfNat.ofNat n : Int32) ↔ a < n := nI_ltI ha hn
theorem ie1 {a n : Nat} (hn : n < 2 ^ 31) (ha : a < 2 ^ 31) : nI a = (OfNat.ofNat n : Int32) ↔ a = n := nI_eq ha hn
theorem ie2 {a n : Nat} (hn : n < 2 ^ 31) (ha : a < 2 ^ 31) : (OfNat.ofNat n : Int32) = nI a ↔ n = a := nI_eq hn ha
theorem id1 {a n : Nat} (ha : a < 2 ^ 31) (h0 : 0 < n) (hn : n < 2 ^ 31) : nI a / (OfNat.ofNat n : Int32) = nI (a / n) := pk_div ha h0 hn
theorem ir1 {a n : Nat} (ha : a < 2 ^ 31) (h0 : 0 < n) (hn : n < 2 ^ 31) : irm (nI a) (OfNat.ofNat n : Int32) = nI (a % n) := pk_rem ha h0 hn
theorem im3 (a b : Nat) : nI a * nI b = nI (a * b) := pk_mul a b
theorem ia3 (a b : Nat) : nI a + nI b = nI (a + b) := nI_add a b
theorem is3 {a b : Nat} (h : b ≤ a) : nI a - nI b = nI (a - b) := pk_sub h
theorem inN {a : Nat} (ha : a < 2 ^ 31) : ¬ nI a < 0 := nI_pos ha
theorem iin0 (x : Int32) : (0 : Int32) ≤ x ↔ ¬ x < 0 := by rw [Int32.not_lt]
/-- every Int32 is below 0 or a number -/
theorem i_cases (x : Int32) : x < 0 ∨ ∃ j : Nat, j < 2 ^ 31 ∧ x = nI j := by
  by_cases h : x < 0
  · exact Or.inl h
  · exact Or.inr (nI_of h)
/-! ===== the memory with the layout that stands (La is L0, closed so that nothing unfolds it) ===== -/
theorem exL : ∃ la : ML, la = L0 := ⟨L0, rfl⟩
noncomputable def La : ML := Classical.choose exL
theorem La_eq : La = L0 := Classical.choose_spec exL
noncomputable def K (mi : Nat → Nat → Int32) (ml : Nat → Nat → Int64) : MM := (La, mi, ml)
abbrev IM : Type := Nat → Nat → Int32
abbrev JM : Type := Nat → Nat → Int64
section KM
variable {mi : IM} {ml : JM} {ci k a r kd n j : Nat}
theorem og_K {β : Type} {b : Option β} (h : (La.2.1 a).1 = ci) : og ci a (K mi ml) b = b := if_pos h
theorem gI_K (h : (La.2.1 a).1 = ci) : gI ci k a (K mi ml) = some (mi a k) := if_pos h
theorem gL_K (h : (La.2.1 a).1 = ci) : gL ci k a (K mi ml) = some (ml a k) := if_pos h
theorem gR_K (h : (La.2.1 a).1 = ci) (hr : La.2.2 a k = some r) : gR ci k a (K mi ml) = some r := (if_pos h).trans hr
theorem pI_K {v : Int32} (h : (La.2.1 a).1 = ci) : pI ci k a v (K mi ml) = some (K (upd2 mi a k v) ml) := if_pos h
theorem pL_K {v : Int64} (h : (La.2.1 a).1 = ci) : pL ci k a v (K mi ml) = some (K mi (upd2 ml a k v)) := if_pos h
theorem pZ_K {v : Int32} (h : (La.2.1 a).1 = ci) (hv : v &&& 1 = v) : pZ ci k a v (K mi ml) = some (K (upd2 mi a k v) ml) := if_pos ⟨h, hv⟩
theorem in_ok (hj : j < n) (hn : n < 2 ^ 31) : ¬ (nI j < 0 ∨ n ≤ (nI j).toNatClampNeg) := nI_in hj hn
theorem aI_K (h : La.2.1 a = (kd, n)) (hn : n < 2 ^ 31) (hj : j < n) : aI kd a (nI j) (K mi ml) = some (mi a j) := by
  unfold aI K
  rw [if_pos ⟨by rw [h], by rw [h]; exact in_ok hj hn⟩, nI_clamp (by omega)]
theorem aL_K (h : La.2.1 a = (103, n)) (hn : n < 2 ^ 31) (hj : j < n) : aL a (nI j) (K mi ml) = some (ml a j) := by
  unfold aL K
  rw [if_pos ⟨by rw [h], by rw [h]; exact in_ok hj hn⟩, nI_clamp (by omega)]
theorem aR_K (h : La.2.1 a = (kd, n)) (hn : n < 2 ^ 31) (hj : j < n) (hr : La.2.2 a j = some r) : aR kd a (nI j) (K mi ml) = some r := by
  unfold aR K
  rw [if_pos ⟨by rw [h], by rw [h]; exact in_ok hj hn⟩, nI_clamp (by omega)]
  exact hr
theorem sI_K {v : Int32} (h : La.2.1 a = (kd, n)) (hn : n < 2 ^ 31) (hj : j < n) : sI kd a (nI j) v (K mi ml) = some (K (upd2 mi a j (nrw kd v)) ml) := by
  unfold sI K
  rw [if_pos ⟨by rw [h], by rw [h]; exact in_ok hj hn⟩, nI_clamp (by omega)]
theorem sL_K {v : Int64} (h : La.2.1 a = (103, n)) (hn : n < 2 ^ 31) (hj : j < n) : sL a (nI j) v (K mi ml) = some (K mi (upd2 ml a j v)) := by
  unfold sL K
  rw [if_pos ⟨by rw [h], by rw [h]; exact in_ok hj hn⟩, nI_clamp (by omega)]
theorem aN_K (h : La.2.1 a = (kd, n)) (hk : 100 ≤ kd ∧ kd < 107) : aN a (K mi ml) = some (nI n) := by
  unfold aN K
  rw [if_pos (by rw [h]; exact hk), h]; rfl
end KM
theorem nrw100 (v : Int32) : nrw 100 v = v := rfl
theorem nrw101 (v : Int32) : nrw 101 v = v.toInt8.toInt32 := rfl
theorem nrw102 (v : Int32) : nrw 102 v = v &&& 1 := rfl
theorem bnd_s {α β : Type} (a : α) (f : α → Option β) : (some a).bind f = f a := rfl
theorem nm_t {α β : Type} (a : α) (f : α → β) : nm a f = f a := rfl
theorem zg_t {β : Type} {v : Int32} {b : Option β} (h : v &&& 1 = v) : zg v b = b := if_pos h
theorem one1 : (1 : Int32) &&& 1 = 1 := by decide
theorem zero1 : (0 : Int32) &&& 1 = 0 := by decide
theorem b1_of {v : Int32} (h : v = 0 ∨ v = 1) : v &&& 1 = v := by rcases h with rfl | rfl <;> decide
/-! writing runs of cells -/
theorem u2 {α : Type} (f : Nat → Nat → α) (a k : Nat) (v : α) (b j : Nat) : upd2 f a k v b j = if b = a ∧ j = k then v else f b j := by
  unfold upd2
  by_cases h1 : b = a
  · by_cases h2 : j = k
    · simp [h1, h2]
    · simp [h1, h2]
  · simp [h1]
/-- a counted loop upward: F at place i with fuel m -/
theorem loop_up {S R : Type} (F : Nat → Nat → S → R) (T : Nat → S → S) (E : S → R) (e : Nat) (hx : ∀ m s, F (m + 1) e s = E s) (hs : ∀ m i s, i < e → F (m + 1) i s = F m (i + 1) (T i s)) (G : Nat → S → S) (hG0 : ∀ s, G e s = s) (hG : ∀ i s, i < e → G (i + 1) (T i s) = G i s) : ∀ m i s, i ≤ e → e - i < m → F m i s = E (G i s) := by
  intro m
  induction m with
  | zero => intro i s h1 h2; omega
  | succ m ih =>
    intro i s h1 h2
    by_cases h : i = e
    · subst h; rw [hx, hG0]
    · rw [hs m i s (by omega), ih (i + 1) (T i s) (by omega) (by omega), hG i s (by omega)]
