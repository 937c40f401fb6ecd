/-! ===== words of the printed functions, and calls in the forms that are printed ===== -/
def nm {α β : Type} (a : α) (f : α → β) : β := f a
theorem nm_s {α β : Type} {a : α} {f : α → β} {z : β} (h : nm a f = z) : ∃ x, x = a ∧ f x = z := ⟨a, rfl, h⟩
def og {β : Type} (ci a : Nat) (M : MM) (b : Option β) : Option β := if (M.1.2.1 a).1 = ci then b else none
theorem og_s {β : Type} {ci a : Nat} {M : MM} {b : Option β} {z : β} (h : og ci a M b = some z) : (M.1.2.1 a).1 = ci ∧ b = some z := by
  unfold og at h; split at h
  · next hc => exact ⟨hc, h⟩
  · cases h
theorem og_t {β : Type} {ci a : Nat} {M : MM} {b : Option β} (h : (M.1.2.1 a).1 = ci) : og ci a M b = b := if_pos h
def ob {β : Type} (o : Option Nat) (a : β) (f : Nat → β) : β := match o with
  | none => a
  | some r => f r
theorem ob_s {β : Type} {o : Option Nat} {a z : β} {f : Nat → β} (h : ob o a f = z) : (o = none ∧ a = z) ∨ ∃ r, o = some r ∧ f r = z := by
  cases o with
  | none => exact Or.inl ⟨rfl, h⟩
  | some r => exact Or.inr ⟨r, rfl, h⟩
theorem bnd {α β : Type} {o : Option α} {f : α → Option β} {z : β} (h : o.bind f = some z) : ∃ a, o = some a ∧ f a = some z := by
  cases o with
  | none => cases h
  | some a => exact ⟨a, rfl, h⟩
theorem ift {β : Type} {c : Prop} [Decidable c] {a b z : β} (hc : c) (h : (if c then a else b) = z) : a = z := by rw [if_pos hc] at h; exact h
theorem ifn {β : Type} {c : Prop} [Decidable c] {a b z : β} (hc : ¬ c) (h : (if c then a else b) = z) : b = z := by rw [if_neg hc] at h; exact h
def zg {β : Type} (v : Int32) (b : Option β) : Option β := if v &&& 1 = v then b else none
theorem zg_s {β : Type} {v : Int32} {b : Option β} {z : β} (h : zg v b = some z) : v &&& 1 = v ∧ b = some z := by
  unfold zg at h; split at h
  · next hc => exact ⟨hc, h⟩
  · cases h
def dg {β : Type} (y : Int32) (b : Option β) : Option β := if y = 0 then none else b
theorem dg_s {β : Type} {v : Int32} {b : Option β} {z : β} (h : dg v b = some z) : ¬ v = 0 ∧ b = some z := by
  unfold dg at h; split at h
  · cases h
  · next hc => exact ⟨hc, h⟩
theorem rm_fr {d1 d c s c1 s1 : Nat} (h : d1 + 1 ≤ d) : (rm d1 c1 s1).frames + 1 ≤ (rm d c s).frames := h
theorem rm_lo {d1 d c s c1 s1 ml : Nat} (h : d1 + 1 ≤ d) (hm : ml ≤ 45) : 8 + (ml + 11) + (rm d1 c1 s1).locals ≤ (rm d c s).locals := by
  show 8 + (ml + 11) + 64 * d1 ≤ 64 * d
  omega
section PCALLS
variable {mt mt1 : MT} {d d1 c9 s9 : Nat} {Z : ZT} {k n pc p2 : Nat} {ls : Lv} {st0 : List Value} {M M1 : MM} {As : List Value} {b ci ix np : Nat}
theorem e_cV {res1 : Option Value} {st : List Value} (h : DC mt pc (.invokevirtual ix) 3 p2) (hlk : Cond.methodLink mt.1.cls ix mt1.1 ∈ gT) (hm : MV mt1 np) (hc : CT mt1 (rm d1 0 0) (.ref b :: As) M res1 M1)
    (hb : (M.1.2.1 b).1 = ci) (hst : As.reverse ++ .ref b :: st = st0) (hnp : As.length = np) (hci : (classes[ci]?).map (fun q => q.1) = some mt1.1.cls) (hcat : (st.map fun v => v.category).sum ≤ 8) (hd : d1 + 1 ≤ d) (hml : mt1.2.2.1 ≤ 45) (hk : k ≤ c9) (hn : n ≤ s9)
    (nx : EVG mt (rm d c9 s9) Z k n p2 ls (res1.toList ++ st) M1) : EVG mt (rm d c9 s9) Z k n pc ls st0 M :=
  e_callV h hlk hm hc hst hnp hb hci hcat (rm_fr hd) (rm_lo hd hml) hk hn nx
theorem e_cVi {v : Int32} {st : List Value} (h : DC mt pc (.invokevirtual ix) 3 p2) (hlk : Cond.methodLink mt.1.cls ix mt1.1 ∈ gT) (hm : MV mt1 np) (hc : CT mt1 (rm d1 0 0) (.ref b :: As) M (some (.int v)) M1)
    (hb : (M.1.2.1 b).1 = ci) (hst : As.reverse ++ .ref b :: st = st0) (hnp : As.length = np) (hci : (classes[ci]?).map (fun q => q.1) = some mt1.1.cls) (hcat : (st.map fun v => v.category).sum ≤ 8) (hd : d1 + 1 ≤ d) (hml : mt1.2.2.1 ≤ 45) (hk : k ≤ c9) (hn : n ≤ s9)
    (nx : EVG mt (rm d c9 s9) Z k n p2 ls (.int v :: st) M1) : EVG mt (rm d c9 s9) Z k n pc ls st0 M := e_cV h hlk hm hc hb hst hnp hci hcat hd hml hk hn nx
theorem e_cVl {v : Int64} {st : List Value} (h : DC mt pc (.invokevirtual ix) 3 p2) (hlk : Cond.methodLink mt.1.cls ix mt1.1 ∈ gT) (hm : MV mt1 np) (hc : CT mt1 (rm d1 0 0) (.ref b :: As) M (some (.long v)) M1)
    (hb : (M.1.2.1 b).1 = ci) (hst : As.reverse ++ .ref b :: st = st0) (hnp : As.length = np) (hci : (classes[ci]?).map (fun q => q.1) = some mt1.1.cls) (hcat : (st.map fun v => v.category).sum ≤ 8) (hd : d1 + 1 ≤ d) (hml : mt1.2.2.1 ≤ 45) (hk : k ≤ c9) (hn : n ≤ s9)
    (nx : EVG mt (rm d c9 s9) Z k n p2 ls (.long v :: st) M1) : EVG mt (rm d c9 s9) Z k n pc ls st0 M := e_cV h hlk hm hc hb hst hnp hci hcat hd hml hk hn nx
theorem e_cVr {v : Option Nat} {st : List Value} (h : DC mt pc (.invokevirtual ix) 3 p2) (hlk : Cond.methodLink mt.1.cls ix mt1.1 ∈ gT) (hm : MV mt1 np) (hc : CT mt1 (rm d1 0 0) (.ref b :: As) M (some (vr v)) M1)
    (hb : (M.1.2.1 b).1 = ci) (hst : As.reverse ++ .ref b :: st = st0) (hnp : As.length = np) (hci : (classes[ci]?).map (fun q => q.1) = some mt1.1.cls) (hcat : (st.map fun v => v.category).sum ≤ 8) (hd : d1 + 1 ≤ d) (hml : mt1.2.2.1 ≤ 45) (hk : k ≤ c9) (hn : n ≤ s9)
    (nx : EVG mt (rm d c9 s9) Z k n p2 ls (vr v :: st) M1) : EVG mt (rm d c9 s9) Z k n pc ls st0 M := e_cV h hlk hm hc hb hst hnp hci hcat hd hml hk hn nx
theorem e_cVv {st : List Value} (h : DC mt pc (.invokevirtual ix) 3 p2) (hlk : Cond.methodLink mt.1.cls ix mt1.1 ∈ gT) (hm : MV mt1 np) (hc : CT mt1 (rm d1 0 0) (.ref b :: As) M none M1)
    (hb : (M.1.2.1 b).1 = ci) (hst : As.reverse ++ .ref b :: st = st0) (hnp : As.length = np) (hci : (classes[ci]?).map (fun q => q.1) = some mt1.1.cls) (hcat : (st.map fun v => v.category).sum ≤ 8) (hd : d1 + 1 ≤ d) (hml : mt1.2.2.1 ≤ 45) (hk : k ≤ c9) (hn : n ≤ s9)
    (nx : EVG mt (rm d c9 s9) Z k n p2 ls st M1) : EVG mt (rm d c9 s9) Z k n pc ls st0 M := e_cV h hlk hm hc hb hst hnp hci hcat hd hml hk hn nx
theorem e_cS {res1 : Option Value} {st : List Value} (h : DC mt pc (.invokestatic ix) 3 p2) (hlk : Cond.methodLink mt.1.cls ix mt1.1 ∈ gT) (hm : MS mt1 np) (hc : CT mt1 (rm d1 0 0) As M res1 M1)
    (hst : As.reverse ++ st = st0) (hnp : As.length = np) (hcat : (st.map fun v => v.category).sum ≤ 8) (hd : d1 + 1 ≤ d) (hml : mt1.2.2.1 ≤ 45) (hk : k ≤ c9) (hn : n ≤ s9)
    (nx : EVG mt (rm d c9 s9) Z k n p2 ls (res1.toList ++ st) M1) : EVG mt (rm d c9 s9) Z k n pc ls st0 M :=
  e_callS h hlk hm hc hst hnp hcat (rm_fr hd) (rm_lo hd hml) hk hn nx
theorem e_cSi {v : Int32} {st : List Value} (h : DC mt pc (.invokestatic ix) 3 p2) (hlk : Cond.methodLink mt.1.cls ix mt1.1 ∈ gT) (hm : MS mt1 np) (hc : CT mt1 (rm d1 0 0) As M (some (.int v)) M1)
    (hst : As.reverse ++ st = st0) (hnp : As.length = np) (hcat : (st.map fun v => v.category).sum ≤ 8) (hd : d1 + 1 ≤ d) (hml : mt1.2.2.1 ≤ 45) (hk : k ≤ c9) (hn : n ≤ s9)
    (nx : EVG mt (rm d c9 s9) Z k n p2 ls (.int v :: st) M1) : EVG mt (rm d c9 s9) Z k n pc ls st0 M := e_cS h hlk hm hc hst hnp hcat hd hml hk hn nx
theorem e_cSl {v : Int64} {st : List Value} (h : DC mt pc (.invokestatic ix) 3 p2) (hlk : Cond.methodLink mt.1.cls ix mt1.1 ∈ gT) (hm : MS mt1 np) (hc : CT mt1 (rm d1 0 0) As M (some (.long v)) M1)
    (hst : As.reverse ++ st = st0) (hnp : As.length = np) (hcat : (st.map fun v => v.category).sum ≤ 8) (hd : d1 + 1 ≤ d) (hml : mt1.2.2.1 ≤ 45) (hk : k ≤ c9) (hn : n ≤ s9)
    (nx : EVG mt (rm d c9 s9) Z k n p2 ls (.long v :: st) M1) : EVG mt (rm d c9 s9) Z k n pc ls st0 M := e_cS h hlk hm hc hst hnp hcat hd hml hk hn nx
theorem e_cSv {st : List Value} (h : DC mt pc (.invokestatic ix) 3 p2) (hlk : Cond.methodLink mt.1.cls ix mt1.1 ∈ gT) (hm : MS mt1 np) (hc : CT mt1 (rm d1 0 0) As M none M1)
    (hst : As.reverse ++ st = st0) (hnp : As.length = np) (hcat : (st.map fun v => v.category).sum ≤ 8) (hd : d1 + 1 ≤ d) (hml : mt1.2.2.1 ≤ 45) (hk : k ≤ c9) (hn : n ≤ s9)
    (nx : EVG mt (rm d c9 s9) Z k n p2 ls st M1) : EVG mt (rm d c9 s9) Z k n pc ls st0 M := e_cS h hlk hm hc hst hnp hcat hd hml hk hn nx
end PCALLS
theorem okp : ∀ {a b : Nat}, Nat.ble a b = true → a ≤ b := fun h => Nat.le_of_ble_eq_true h
theorem okl {a b : Nat} (h : Nat.ble (a + 1) b = true) : a < b := Nat.le_of_ble_eq_true h
theorem narZ0 : narrow .boolean (.int 0) = .int 0 := by decide
theorem narZ1 : narrow .boolean (.int 1) = .int 1 := by decide
theorem tab_o {x : Int32} (lo : Int) (N : Nat) (vs : List Int32) (h1 : -2147483648 ≤ lo) (h2 : lo + N ≤ 2147483648) (hv : (List.range N).map (fun (j : Nat) => Int32.ofInt (lo + (j : Int))) = vs) (hne : ∀ v ∈ vs, ¬ x = v) : x.toInt < lo ∨ lo + N - 1 < x.toInt := by
  refine tab_out lo N h1 h2 (fun j hj => hne _ ?_)
  rw [← hv]
  exact List.mem_map.mpr ⟨j, List.mem_range.mpr hj, rfl⟩
theorem fa_c {p : Int32 → Prop} {v : Int32} {l : List Int32} (h : p v) (hl : ∀ w ∈ l, p w) : ∀ w ∈ v :: l, p w := List.forall_mem_cons.mpr ⟨h, hl⟩
theorem fa_n {p : Int32 → Prop} : ∀ w ∈ ([] : List Int32), p w := fun _ h => absurd h List.not_mem_nil
/-! the two texts -/
def xg {β : Type} (j : Nat) (b : Option β) : Option β := if j < 2 then b else none
theorem xg_s {β : Type} {j : Nat} {b : Option β} {z : β} (h : xg j b = some z) : j < 2 ∧ b = some z := by
  unfold xg at h; split at h
  · next hc => exact ⟨hc, h⟩
  · cases h
def xN (j : Nat) : Option Int32 := if 2 ≤ j ∧ j < 4 then some (Int32.ofNat (lens2.getD (j - 2) 0)) else none
def xB (j : Nat) (i : Int32) : Option Int32 := if (2 ≤ j ∧ j < 4) ∧ ¬ (i < 0 ∨ lens2.getD (j - 2) 0 ≤ i.toNatClampNeg) then some ((byts2.getD (j - 2) []).getD i.toNatClampNeg 0) else none
section XR
variable {mt mt1 : MT} {R : Room} {d d1 c9 s9 : Nat} {Z : ZT} {k n pc p2 : Nat} {ls : Lv} {st st0 : List Value} {M M1 : MM} {As : List Value} {b ix np : Nat}
theorem e_ldcW (h : DC mt pc (.ldc 38) 2 p2) (ho : mt.1.cls = R_Tokens) (nx : EVG mt R Z k n p2 ls (.retAddr 0 :: st) M) : EVG mt R Z k n pc ls st M := by
  intro X p l e s m args below meth c H locs A hC hR hS hl
  obtain ⟨h, rfl⟩ := h
  exact va_ldcS hC.1 hC.2.1 (by rw [← ho]; exact hC.2.2.2.2.1) hC.2.2.2.2.2.2.1.2.2.1 h (nx X p l e s m args below meth c H locs A hC hR hS hl)
theorem e_ldcG (h : DC mt pc (.ldc 70) 2 p2) (ho : mt.1.cls = R_Tokens) (nx : EVG mt R Z k n p2 ls (.retAddr 1 :: st) M) : EVG mt R Z k n pc ls st M := by
  intro X p l e s m args below meth c H locs A hC hR hS hl
  obtain ⟨h, rfl⟩ := h
  exact va_ldcS hC.1 hC.2.1 (by rw [← ho]; exact hC.2.2.2.2.1) hC.2.2.2.2.2.2.1.2.2.2 h (nx X p l e s m args below meth c H locs A hC hR hS hl)
theorem e_getCompact (h : DC mt pc (.getstatic ix) 3 p2) (hlk : Cond.fieldLink mt.1.cls ix "java/lang/String" "COMPACT_STRINGS" "Z" ∈ gT) (nx : EVG mt R Z k n p2 ls (.int 1 :: st) M) : EVG mt R Z k n pc ls st M := by
  intro X p l e s m args below meth c H locs A hC hR hS hl
  obtain ⟨h, rfl⟩ := h
  exact va_gets hC.1 hC.2.1 hC.2.2.2.2.2.2.2.1.2.1 hS hC.2.2.2.2.1 (hC.2.2.2.2.2.1 _ hlk) (fun _ h9 => h9) h (nx X p l e s m args below meth c H locs A hC hR hS hl)
theorem e_getFmt (h : DC mt pc (.getstatic ix) 3 p2) (hlk : Cond.fieldLink mt.1.cls ix "jdk/internal/util/Preconditions" "SIOOBE_FORMATTER" "Ljava/util/function/BiFunction;" ∈ gT) (nx : EVG mt R Z k n p2 ls (.retAddr 4 :: st) M) : EVG mt R Z k n pc ls st M := by
  intro X p l e s m args below meth c H locs A hC hR hS hl
  obtain ⟨h, rfl⟩ := h
  exact va_gets hC.1 hC.2.1 hC.2.2.2.2.2.2.2.1.2.2 hS hC.2.2.2.2.1 (hC.2.2.2.2.2.1 _ hlk) (fun _ h9 => h9) h (nx X p l e s m args below meth c H locs A hC hR hS hl)
theorem xV_lo {x : QX} {j : Nat} (h : j < 2) : xV x j = .ref (x.2.2.2.1 j) := by unfold xV; rw [if_pos h]
theorem xV_mi {x : QX} {j : Nat} (h : 2 ≤ j ∧ j < 4) : xV x j = .ref (x.2.2.2.2 (j - 2)) := by unfold xV; rw [if_neg (by omega), if_pos h.2]
theorem e_getXc (h : DC mt pc (.getfield ix) 3 p2) (hlk : Cond.fieldLink mt.1.cls ix "java/lang/String" "coder" "B" ∈ gT) (hb : b < 2) (nx : EVG mt R Z k n p2 ls (.int 0 :: st) M) : EVG mt R Z k n pc ls (.retAddr b :: st) M := by
  intro X p l e s m args below meth c H locs A hC hR hS hl
  obtain ⟨h, rfl⟩ := h
  show W _ _ _ _ _ _ _ _ _ _ _ _ _ _ _ (F0 m pc A (xV X b :: st.map (shV X)))
  rw [xV_lo hb]
  exact vk_getf hC.1 hC.2.1 (hC.2.2.2.2.2.2.2.1.1.1 b hb).2.1 hS hC.2.2.2.2.1 (hC.2.2.2.2.2.1 _ hlk) (fun _ h9 => h9) h (nx X p l e s m args below meth c H locs A hC hR hS hl)
theorem e_getXv (h : DC mt pc (.getfield ix) 3 p2) (hlk : Cond.fieldLink mt.1.cls ix "java/lang/String" "value" "[B" ∈ gT) (hb : b < 2) (nx : EVG mt R Z k n p2 ls (.retAddr (b + 2) :: st) M) : EVG mt R Z k n pc ls (.retAddr b :: st) M := by
  intro X p l e s m args below meth c H locs A hC hR hS hl
  obtain ⟨h, rfl⟩ := h
  have h2 : W p l e R s m args below meth c H locs k n (Z X s args below) (F0 m (pc + 3) A (xV X (b + 2) :: st.map (shV X))) := nx X p l e s m args below meth c H locs A hC hR hS hl
  show W _ _ _ _ _ _ _ _ _ _ _ _ _ _ _ (F0 m pc A (xV X b :: st.map (shV X)))
  rw [xV_lo hb]
  rw [xV_mi (by omega), Nat.add_sub_cancel] at h2
  exact vk_getf hC.1 hC.2.1 (hC.2.2.2.2.2.2.2.1.1.1 b hb).2.2.1 hS hC.2.2.2.2.1 (hC.2.2.2.2.2.1 _ hlk) (fun _ h9 => h9) h h2
theorem e_alenX {v : Int32} (h : DC mt pc .arraylength 1 p2) (hg : xN b = some v) (nx : EVG mt R Z k n p2 ls (.int v :: st) M) : EVG mt R Z k n pc ls (.retAddr b :: st) M := by
  intro X p l e s m args below meth c H locs A hC hR hS hl
  obtain ⟨h, rfl⟩ := h
  unfold xN at hg
  split at hg
  · next hc =>
    show W _ _ _ _ _ _ _ _ _ _ _ _ _ _ _ (F0 m pc A (xV X b :: st.map (shV X)))
    rw [xV_mi hc]
    exact va_tlen hC.1 hC.2.1 (hC.2.2.2.2.2.2.2.1.1.1 (b - 2) (by omega)).2.2.2 hS (Option.some.inj hg) h (nx X p l e s m args below meth c H locs A hC hR hS hl)
  · cases hg
theorem e_baldX {i v : Int32} (h : DC mt pc .baload 1 p2) (hg : xB b i = some v) (nx : EVG mt R Z k n p2 ls (.int v :: st) M) : EVG mt R Z k n pc ls (.int i :: .retAddr b :: st) M := by
  intro X p l e s m args below meth c H locs A hC hR hS hl
  obtain ⟨h, rfl⟩ := h
  unfold xB at hg
  split at hg
  · next hc =>
    show W _ _ _ _ _ _ _ _ _ _ _ _ _ _ _ (F0 m pc A (.int i :: xV X b :: st.map (shV X)))
    rw [xV_mi hc.1]
    exact va_tb hC.1 hC.2.1 (hC.2.2.2.2.2.2.2.1.1.1 (b - 2) (by omega)).2.2.2 hS hc.2 (by rw [Option.some.inj hg]; rfl) h (nx X p l e s m args below meth c H locs A hC hR hS hl)
  · cases hg
theorem e_cVXi {v : Int32} (h : DC mt pc (.invokevirtual ix) 3 p2) (hlk : Cond.methodLink mt.1.cls ix mt1.1 ∈ gT) (hm : MV mt1 np) (hc : CT mt1 (rm d1 0 0) (.retAddr b :: As) M (some (.int v)) M1)
    (hb : b < 2) (hst : As.reverse ++ .retAddr b :: st = st0) (hnp : As.length = np) (hcl : mt1.1.cls = "java/lang/String") (hcat : (st.map fun v => v.category).sum ≤ 8) (hd : d1 + 1 ≤ d) (hml : mt1.2.2.1 ≤ 45) (hk : k ≤ c9) (hn : n ≤ s9)
    (nx : EVG mt (rm d c9 s9) Z k n p2 ls (.int v :: st) M1) : EVG mt (rm d c9 s9) Z k n pc ls st0 M := by
  intro X p l e s m args below meth c H locs A hC hR hS hl
  obtain ⟨h, rfl⟩ := h
  subst hst
  have hts := hC.2.2.2.2.2.1
  obtain ⟨⟨hcode, hini, hd9⟩, hin, hse⟩ := hm
  have hrv := vk_recv hC.2.2.2.2.2.2.2.1.1 hb hS
  rw [← hcl] at hrv
  have hsh : ((As.reverse ++ Value.retAddr b :: st).map (shV X)) = (As.map (shV X)).reverse ++ Value.ref (X.2.2.2.1 b) :: st.map (shV X) := by
    rw [List.map_append, List.map_reverse, ← xV_lo hb]; rfl
  have hpre := pre_at (as := .retAddr b :: As) hC hR hS
  have hsa : ((Value.retAddr b :: As).map (shV X)) = Value.ref (X.2.2.2.1 b) :: As.map (shV X) := by rw [← xV_lo hb]; rfl
  rw [hsa] at hpre
  refine run_go (mc := (rm d1 0 0).cells) (ms := (rm d1 0 0).slots) (st := st) (st0 := As.reverse ++ Value.retAddr b :: st) (res1 := some (.int v)) (M1 := M1) (a := (Value.ref (X.2.2.2.1 b) :: As.map (shV X)).toArray) ?_ hC hS hl nx
  exact va_runV (Ts := gT) (own := mt.1.cls) (C := mt1.1.cls) (nL := mt.2.2.1) (n := np) (b := X.2.2.2.1 b) (As := As.map (shV X)) (cc := mt.2.1) ⟨hC.1, hC.2.1, hC.2.2.2.1, hC.2.2.2.2.1, hts⟩ (hc l X)
      ⟨callB_of np hts (wsM_good hcode) rfl rfl rfl (hts _ hini) (hts _ hlk) hd9 ⟨rm_fr hd, rm_lo hd hml⟩, hts _ hin, hts _ hse⟩
      ⟨PreM_blind _ _ _, hrv, hpre⟩ rfl (by rw [List.length_map]; exact hnp) hl.1 hsh (by show 2 * 0 + _ ≤ 8; rw [cat_sum]; omega) h ⟨hk, hn⟩
/-- ints copied from one array into another -/
def acp (sa : Nat) (sp : Int32) (da : Nat) (dp ln : Int32) (M : MM) : Option MM :=
  if (((M.1.2.1 sa).1 = 100 ∧ (M.1.2.1 da).1 = 100) ∧ ¬ sp < 0 ∧ ¬ dp < 0 ∧ ¬ ln < 0) ∧ sp.toNatClampNeg + ln.toNatClampNeg ≤ (M.1.2.1 sa).2 ∧ dp.toNatClampNeg + ln.toNatClampNeg ≤ (M.1.2.1 da).2 then
    some (M.1, fun b j => if b = da then va_cpy (M.2.1 sa) (M.2.1 da) sp.toNatClampNeg dp.toNatClampNeg ln.toNatClampNeg j else M.2.1 b j, M.2.2) else none
theorem e_acp {sa da : Nat} {sp dp ln : Int32} (h : DC mt pc (.invokestatic ix) 3 p2) (hlk : Cond.methodLink mt.1.cls ix arraycopyName ∈ gT) (hnat : Cond.native arraycopyName ∈ gT) (hstat : Cond.static arraycopyName ∈ gT) (hini : Cond.initialized "java/lang/System" ∈ gT) (hg : acp sa sp da dp ln M = some M1) (hcat : (st.map fun v => v.category).sum ≤ 8) (hf : 1 ≤ R.frames) (hlo : 8 + (nativeFrameWords "java/lang/System" "arraycopy" 5 + 11) ≤ R.locals)
    (nx : EVG mt R Z k n p2 ls st M1) : EVG mt R Z k n pc ls (.int ln :: .int dp :: .ref da :: .int sp :: .ref sa :: st) M := by
  intro X p l e s m args below meth c H locs A hC hR hS hl
  obtain ⟨h, rfl⟩ := h
  unfold acp at hg
  split at hg
  · next hq =>
    cases hg
    obtain ⟨⟨⟨k0, k1⟩, h1, h2, h3⟩, h4, h5⟩ := hq
    have hts := hC.2.2.2.2.2.1
    have hK := hC.2.2.2.2.2.2.1.1
    have hlt := hR.lt (a := da) (by omega)
    have ha0 := ws_get (x := X) (hR.lt (a := sa) (by omega))
    rw [qent_int k0 (by omega)] at ha0
    have ha1 := ws_get (x := X) hlt
    rw [qent_int k1 (by omega)] at ha1
    have nn : ∀ z : Int32, ¬ z < 0 → z.toInt = (z.toNatClampNeg : Int) := by
      intro z hz
      have hz0 : (0 : Int) ≤ z.toInt := by
        have := Int32.not_lt.mp hz
        simpa using Int32.le_iff_toInt_le.mp this
      show z.toInt = ((z.toInt.toNat : Nat) : Int)
      omega
    have hc0 : H[X.2.2.1 + pl sa]? = some (vp_cell (X.2.1 0) ((M.1.2.1 sa).2, .inl (M.2.1 sa))) := hR.2.1 (pl sa) _ ha0
    have hc1 : H[X.2.2.1 + pl da]? = some (vp_cell (X.2.1 0) ((M.1.2.1 da).2, .inl (M.2.1 da))) := hR.2.1 (pl da) _ ha1
    intro T hT Xs
    obtain ⟨-, kk0, hk0, cm0, hkk0⟩ := (hK.2 0 _ rfl).1 (M.1.2.1 sa).2 (fun j => .int (M.2.1 sa j))
    obtain ⟨-, kk1, hk1, cm1, hkk1⟩ := (hK.2 0 _ rfl).1 (M.1.2.1 da).2 (fun j => .int (M.2.1 da j))
    obtain ⟨vm', X', step⟩ := Xs.arraycopy hC.1 hC.2.2.2.2.1 (hts _ hlk) (hts _ hnat) (hts _ hstat) (hts _ hini) (src := X.2.2.1 + pl sa) (dst := X.2.2.1 + pl da) (cs := vp_cell (X.2.1 0) ((M.1.2.1 sa).2, .inl (M.2.1 sa))) (cd := vp_cell (X.2.1 0) ((M.1.2.1 da).2, .inl (M.2.1 da))) (srcPos := sp) (destPos := dp) (n := ln) (by rw [hT]; exact hc0) (by rw [hT]; exact hc1)
      (fun _ h => by cases h) (fun _ h => by cases h) (fun h => by cases h) (fun h => by cases h) hk0 hk1 hkk0 hkk1 (by simp [refKind]) h1 h2 h3
      (by rw [nn sp h1, nn ln h3]; show ¬ _ > ((arrV (X.2.1 0) (M.1.2.1 sa).2 (fun j => .int (M.2.1 sa j))).slots.size : Int); rw [arrV_size]; omega)
      (by rw [nn dp h2, nn ln h3]; show ¬ _ > ((arrV (X.2.1 0) (M.1.2.1 da).2 (fun j => .int (M.2.1 da j))).slots.size : Int); rw [arrV_size]; omega)
      (fun vm₁ _ i hi => by
        have e : (vp_cell (X.2.1 0) ((M.1.2.1 sa).2, .inl (M.2.1 sa))).slots.getD (sp.toNatClampNeg + i) .null = .int (M.2.1 sa (sp.toNatClampNeg + i)) := by
          show (arrV (X.2.1 0) (M.1.2.1 sa).2 (fun j => .int (M.2.1 sa j))).slots.getD _ _ = _
          rw [Array.getD_eq_getD_getElem?, arrV_read _ _ (by omega)]
          rfl
        refine ⟨?_, ?_⟩
        · rw [e]; rfl
        · rw [e]; exact trivial)
      (g := F0 m pc A (.int ln :: .int dp :: .ref (X.2.2.1 + pl da) :: .int sp :: .ref (X.2.2.1 + pl sa) :: st.map (shV X))) rfl (by rw [hC.2.2.2.1]; exact hl.1) (rest := st.map (shV X)) rfl (by rw [hC.2.1]; exact h) hf (by show 2 * 0 + _ + _ ≤ _; rw [cat_sum]; omega)
    have e1 : copied (vp_cell (X.2.1 0) ((M.1.2.1 sa).2, .inl (M.2.1 sa))) (vp_cell (X.2.1 0) ((M.1.2.1 da).2, .inl (M.2.1 da))) sp dp ln = vp_cell (X.2.1 0) ((M.1.2.1 da).2, .inl (va_cpy (M.2.1 sa) (M.2.1 da) sp.toNatClampNeg dp.toNatClampNeg ln.toNatClampNeg)) := va_copied (fun z => .int z) (X.2.1 0) (X.2.1 0) (M.2.1 sa) (M.2.1 da) h4
    rw [e1] at X' step
    have hl9 : X.2.2.1 + pl da < H.size := (Array.getElem?_eq_some_iff.mp hc1).1
    generalize hcell : vp_cell (X.2.1 0) ((M.1.2.1 da).2, .inl (va_cpy (M.2.1 sa) (M.2.1 da) sp.toNatClampNeg dp.toNatClampNeg ln.toNatClampNeg)) = cell9 at X' step
    have hheap : ((T.setVm vm').setCell (X.2.2.1 + pl da) cell9).heap = H.setIfInBounds (X.2.2.1 + pl da) cell9 := by rw [← hT]; rfl
    have oq : ∀ q : Nat, q ≠ X.2.2.1 + pl da → (H.setIfInBounds (X.2.2.1 + pl da) cell9)[q]? = H[q]? := fun q hq => by simp [Array.getElem?_setIfInBounds, Ne.symm hq]
    have hR1 : Rp X (M.1, fun b j => if b = da then va_cpy (M.2.1 sa) (M.2.1 da) sp.toNatClampNeg dp.toNatClampNeg ln.toNatClampNeg j else M.2.1 b j, M.2.2) (H.setIfInBounds (X.2.2.1 + pl da) cell9) := by
      refine arr_put (M1 := (M.1, fun b j => if b = da then va_cpy (M.2.1 sa) (M.2.1 da) sp.toNatClampNeg dp.toNatClampNeg ln.toNatClampNeg j else M.2.1 b j, M.2.2)) hR hlt (ws_get hlt) rfl rfl (fun b hb => ⟨by funext j; simp [hb], rfl, rfl⟩) (qent_int k1 (by omega)) ?_ (by simp) oq
      simp only [Array.getElem?_setIfInBounds, hl9, if_true]
      rw [← hcell]
      try simp
    obtain ⟨t, a1, b1⟩ := nx X p l e s m args below meth c _ _ A hC hR1 ⟨by simp; exact hS.1, fun q g1 g2 => by
        rw [oq q (fun e => g2 (by rw [e]; exact Nat.le_add_right _ _))]
        exact hS.2.1 q g1 g2, fun q hq => by
        rcases List.mem_append.mp hq with h | h
        · exact hS.2.2 q h
        · obtain ⟨z, -, hz⟩ := List.mem_map.mp h
          rw [← hz]
          exact Nat.le_add_right _ _⟩ hl _ hheap X'
    exact ⟨t, step t a1, b1⟩
  · cases hg
end XR
def imin (x y : Int32) : Int32 := if y < x then y else x
def imax (x y : Int32) : Int32 := if x < y then y else x
section MMR
variable {mt : MT} {R : Room} {Z : ZT} {k n pc p2 ix : Nat} {ls : Lv} {st : List Value} {M : MM}
theorem e_mmin {x y : Int32} (h : DC mt pc (.invokestatic ix) 3 p2) (hlk : Cond.methodLink mt.1.cls ix Lib.Math.min.name ∈ gT) (hsta : Cond.static Lib.Math.min.name ∈ gT) (hini : Cond.initialized "java/lang/Math" ∈ gT) (hcode : Cond.code Lib.Math.min.name Lib.Math.min.code 2 (some .int) ∈ gT) (hcat : (st.map fun v => v.category).sum ≤ 8) (hf : 1 ≤ R.frames) (hlo : 21 ≤ R.locals) (hk : k ≤ R.cells) (hn : n ≤ R.slots)
    (nx : EVG mt R Z k n p2 ls (.int (imin x y) :: st) M) : EVG mt R Z k n pc ls (.int y :: .int x :: st) M := by
  intro X p l e s m args below meth c H locs A hC hR hS hl
  obtain ⟨h, rfl⟩ := h
  have hts := hC.2.2.2.2.2.1
  exact va_mmin hC.1 hC.2.1 (by rw [hC.2.2.2.1]; exact hl.1.symm) hC.2.2.2.2.1 (hts _ hlk) (hts _ hsta) (hts _ hini) (hts _ hcode) hf (by rw [cat_sum]; omega) hk hn h (nx X p l e s m args below meth c H locs A hC hR hS hl)
theorem e_mmax {x y : Int32} (h : DC mt pc (.invokestatic ix) 3 p2) (hlk : Cond.methodLink mt.1.cls ix Lib.Math.max.name ∈ gT) (hsta : Cond.static Lib.Math.max.name ∈ gT) (hini : Cond.initialized "java/lang/Math" ∈ gT) (hcode : Cond.code Lib.Math.max.name Lib.Math.max.code 2 (some .int) ∈ gT) (hcat : (st.map fun v => v.category).sum ≤ 8) (hf : 1 ≤ R.frames) (hlo : 21 ≤ R.locals) (hk : k ≤ R.cells) (hn : n ≤ R.slots)
    (nx : EVG mt R Z k n p2 ls (.int (imax x y) :: st) M) : EVG mt R Z k n pc ls (.int y :: .int x :: st) M := by
  intro X p l e s m args below meth c H locs A hC hR hS hl
  obtain ⟨h, rfl⟩ := h
  have hts := hC.2.2.2.2.2.1
  exact va_mmax hC.1 hC.2.1 (by rw [hC.2.2.2.1]; exact hl.1.symm) hC.2.2.2.2.1 (hts _ hlk) (hts _ hsta) (hts _ hini) (hts _ hcode) hf (by rw [cat_sum]; omega) hk hn h (nx X p l e s m args below meth c H locs A hC hR hS hl)
end MMR
def rg {β : Type} (ty : FieldType) (v : Int32) (b : Option β) : Option β := if narrow ty (.int v) = .int v then b else none
theorem rg_s {β : Type} {ty : FieldType} {v : Int32} {b : Option β} {z : β} (h : rg ty v b = some z) : narrow ty (.int v) = .int v ∧ b = some z := by
  unfold rg at h; split at h
  · next hc => exact ⟨hc, h⟩
  · cases h
theorem okP_O {ls : Lv} {j : Nat} {r : Option Nat} (h : ls[j]? = some (some (vr r))) : okP ls (j + 1) = true := by
  simp only [okP, h]
  cases r <;> rfl
