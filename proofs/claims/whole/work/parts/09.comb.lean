/-! ===== words of the printed functions, and calls in the forms that are printed ===== -/
def nm {α β : Type} (a : α) (f : α → β) : β := f a
theorem nm_s {α β : Type} {a : α} {f : α → β} {z : β} (h : nm a f = z) : ∃ x, x = a ∧ f x = z := ⟨a, rfl, h⟩
def og {β : Type} (ci a : Nat) (M : MM) (b : Option β) : Option β := if (M.1.2.1 a).1 = ci then b else none
theorem og_s {β : Type} {ci a : Nat} {M : MM} {b : Option β} {z : β} (h : og ci a M b = some z) : (M.1.2.1 a).1 = ci ∧ b = some z := by
  unfold og at h; split at h
  · next hc => exact ⟨hc, h⟩
  · cases h
theorem og_t {β : Type} {ci a : Nat} {M : MM} {b : Option β} (h : (M.1.2.1 a).1 = ci) : og ci a M b = b := if_pos h
def ob {β : Type} (o : Option Nat) (a : β) (f : Nat → β) : β := match o with
  | none => a
  | some r => f r
theorem ob_s {β : Type} {o : Option Nat} {a z : β} {f : Nat → β} (h : ob o a f = z) : (o = none ∧ a = z) ∨ ∃ r, o = some r ∧ f r = z := by
  cases o with
  | none => exact Or.inl ⟨rfl, h⟩
  | some r => exact Or.inr ⟨r, rfl, h⟩
theorem bnd {α β : Type} {o : Option α} {f : α → Option β} {z : β} (h : o.bind f = some z) : ∃ a, o = some a ∧ f a = some z := by
  cases o with
  | none => cases h
  | some a => exact ⟨a, rfl, h⟩
theorem ift {β : Type} {c : Prop} [Decidable c] {a b z : β} (hc : c) (h : (if c then a else b) = z) : a = z := by rw [if_pos hc] at h; exact h
theorem ifn {β : Type} {c : Prop} [Decidable c] {a b z : β} (hc : ¬ c) (h : (if c then a else b) = z) : b = z := by rw [if_neg hc] at h; exact h
def zg {β : Type} (v : Int32) (b : Option β) : Option β := if v &&& 1 = v then b else none
theorem zg_s {β : Type} {v : Int32} {b : Option β} {z : β} (h : zg v b = some z) : v &&& 1 = v ∧ b = some z := by
  unfold zg at h; split at h
  · next hc => exact ⟨hc, h⟩
  · cases h
def dg {β : Type} (y : Int32) (b : Option β) : Option β := if y = 0 then none else b
theorem dg_s {β : Type} {v : Int32} {b : Option β} {z : β} (h : dg v b = some z) : ¬ v = 0 ∧ b = some z := by
  unfold dg at h; split at h
  · cases h
  · next hc => exact ⟨hc, h⟩
theorem rm_fr {d1 d c s c1 s1 : Nat} (h : d1 + 1 ≤ d) : (rm d1 c1 s1).frames + 1 ≤ (rm d c s).frames := h
theorem rm_lo {d1 d c s c1 s1 ml : Nat} (h : d1 + 1 ≤ d) (hm : ml ≤ 45) : 8 + (ml + 11) + (rm d1 c1 s1).locals ≤ (rm d c s).locals := by
  show 8 + (ml + 11) + 64 * d1 ≤ 64 * d
  omega
section PCALLS
variable {mt mt1 : MT} {d d1 c9 s9 : Nat} {res : Option Value} {M' : MM} {k n pc p2 : Nat} {ls : Lv} {st0 : List Value} {M M1 : MM} {As : List Value} {b ci ix np : Nat}
theorem e_cV {res1 : Option Value} {st : List Value} (h : DC mt pc (.invokevirtual ix) 3 p2) (hlk : Cond.methodLink mt.1.cls ix mt1.1 ∈ gT) (hm : MV mt1 np) (hc : CT mt1 (rm d1 0 0) (.ref b :: As) M res1 M1)
    (hb : (M.1.2.1 b).1 = ci) (hst : As.reverse ++ .ref b :: st = st0) (hnp : As.length = np) (hci : (classes[ci]?).map (fun q => q.1) = some mt1.1.cls) (hcat : (st.map fun v => v.category).sum ≤ 8) (hd : d1 + 1 ≤ d) (hml : mt1.2.2.1 ≤ 45) (hk : k ≤ c9) (hn : n ≤ s9)
    (nx : EV mt (rm d c9 s9) res M' k n p2 ls (res1.toList ++ st) M1) : EV mt (rm d c9 s9) res M' k n pc ls st0 M :=
  e_callV h hlk hm hc hst hnp hb hci hcat (rm_fr hd) (rm_lo hd hml) hk hn nx
theorem e_cVi {v : Int32} {st : List Value} (h : DC mt pc (.invokevirtual ix) 3 p2) (hlk : Cond.methodLink mt.1.cls ix mt1.1 ∈ gT) (hm : MV mt1 np) (hc : CT mt1 (rm d1 0 0) (.ref b :: As) M (some (.int v)) M1)
    (hb : (M.1.2.1 b).1 = ci) (hst : As.reverse ++ .ref b :: st = st0) (hnp : As.length = np) (hci : (classes[ci]?).map (fun q => q.1) = some mt1.1.cls) (hcat : (st.map fun v => v.category).sum ≤ 8) (hd : d1 + 1 ≤ d) (hml : mt1.2.2.1 ≤ 45) (hk : k ≤ c9) (hn : n ≤ s9)
    (nx : EV mt (rm d c9 s9) res M' k n p2 ls (.int v :: st) M1) : EV mt (rm d c9 s9) res M' k n pc ls st0 M := e_cV h hlk hm hc hb hst hnp hci hcat hd hml hk hn nx
theorem e_cVl {v : Int64} {st : List Value} (h : DC mt pc (.invokevirtual ix) 3 p2) (hlk : Cond.methodLink mt.1.cls ix mt1.1 ∈ gT) (hm : MV mt1 np) (hc : CT mt1 (rm d1 0 0) (.ref b :: As) M (some (.long v)) M1)
    (hb : (M.1.2.1 b).1 = ci) (hst : As.reverse ++ .ref b :: st = st0) (hnp : As.length = np) (hci : (classes[ci]?).map (fun q => q.1) = some mt1.1.cls) (hcat : (st.map fun v => v.category).sum ≤ 8) (hd : d1 + 1 ≤ d) (hml : mt1.2.2.1 ≤ 45) (hk : k ≤ c9) (hn : n ≤ s9)
    (nx : EV mt (rm d c9 s9) res M' k n p2 ls (.long v :: st) M1) : EV mt (rm d c9 s9) res M' k n pc ls st0 M := e_cV h hlk hm hc hb hst hnp hci hcat hd hml hk hn nx
theorem e_cVr {v : Option Nat} {st : List Value} (h : DC mt pc (.invokevirtual ix) 3 p2) (hlk : Cond.methodLink mt.1.cls ix mt1.1 ∈ gT) (hm : MV mt1 np) (hc : CT mt1 (rm d1 0 0) (.ref b :: As) M (some (vr v)) M1)
    (hb : (M.1.2.1 b).1 = ci) (hst : As.reverse ++ .ref b :: st = st0) (hnp : As.length = np) (hci : (classes[ci]?).map (fun q => q.1) = some mt1.1.cls) (hcat : (st.map fun v => v.category).sum ≤ 8) (hd : d1 + 1 ≤ d) (hml : mt1.2.2.1 ≤ 45) (hk : k ≤ c9) (hn : n ≤ s9)
    (nx : EV mt (rm d c9 s9) res M' k n p2 ls (vr v :: st) M1) : EV mt (rm d c9 s9) res M' k n pc ls st0 M := e_cV h hlk hm hc hb hst hnp hci hcat hd hml hk hn nx
theorem e_cVv {st : List Value} (h : DC mt pc (.invokevirtual ix) 3 p2) (hlk : Cond.methodLink mt.1.cls ix mt1.1 ∈ gT) (hm : MV mt1 np) (hc : CT mt1 (rm d1 0 0) (.ref b :: As) M none M1)
    (hb : (M.1.2.1 b).1 = ci) (hst : As.reverse ++ .ref b :: st = st0) (hnp : As.length = np) (hci : (classes[ci]?).map (fun q => q.1) = some mt1.1.cls) (hcat : (st.map fun v => v.category).sum ≤ 8) (hd : d1 + 1 ≤ d) (hml : mt1.2.2.1 ≤ 45) (hk : k ≤ c9) (hn : n ≤ s9)
    (nx : EV mt (rm d c9 s9) res M' k n p2 ls st M1) : EV mt (rm d c9 s9) res M' k n pc ls st0 M := e_cV h hlk hm hc hb hst hnp hci hcat hd hml hk hn nx
theorem e_cS {res1 : Option Value} {st : List Value} (h : DC mt pc (.invokestatic ix) 3 p2) (hlk : Cond.methodLink mt.1.cls ix mt1.1 ∈ gT) (hm : MS mt1 np) (hc : CT mt1 (rm d1 0 0) As M res1 M1)
    (hst : As.reverse ++ st = st0) (hnp : As.length = np) (hcat : (st.map fun v => v.category).sum ≤ 8) (hd : d1 + 1 ≤ d) (hml : mt1.2.2.1 ≤ 45) (hk : k ≤ c9) (hn : n ≤ s9)
    (nx : EV mt (rm d c9 s9) res M' k n p2 ls (res1.toList ++ st) M1) : EV mt (rm d c9 s9) res M' k n pc ls st0 M :=
  e_callS h hlk hm hc hst hnp hcat (rm_fr hd) (rm_lo hd hml) hk hn nx
theorem e_cSi {v : Int32} {st : List Value} (h : DC mt pc (.invokestatic ix) 3 p2) (hlk : Cond.methodLink mt.1.cls ix mt1.1 ∈ gT) (hm : MS mt1 np) (hc : CT mt1 (rm d1 0 0) As M (some (.int v)) M1)
    (hst : As.reverse ++ st = st0) (hnp : As.length = np) (hcat : (st.map fun v => v.category).sum ≤ 8) (hd : d1 + 1 ≤ d) (hml : mt1.2.2.1 ≤ 45) (hk : k ≤ c9) (hn : n ≤ s9)
    (nx : EV mt (rm d c9 s9) res M' k n p2 ls (.int v :: st) M1) : EV mt (rm d c9 s9) res M' k n pc ls st0 M := e_cS h hlk hm hc hst hnp hcat hd hml hk hn nx
theorem e_cSl {v : Int64} {st : List Value} (h : DC mt pc (.invokestatic ix) 3 p2) (hlk : Cond.methodLink mt.1.cls ix mt1.1 ∈ gT) (hm : MS mt1 np) (hc : CT mt1 (rm d1 0 0) As M (some (.long v)) M1)
    (hst : As.reverse ++ st = st0) (hnp : As.length = np) (hcat : (st.map fun v => v.category).sum ≤ 8) (hd : d1 + 1 ≤ d) (hml : mt1.2.2.1 ≤ 45) (hk : k ≤ c9) (hn : n ≤ s9)
    (nx : EV mt (rm d c9 s9) res M' k n p2 ls (.long v :: st) M1) : EV mt (rm d c9 s9) res M' k n pc ls st0 M := e_cS h hlk hm hc hst hnp hcat hd hml hk hn nx
theorem e_cSv {st : List Value} (h : DC mt pc (.invokestatic ix) 3 p2) (hlk : Cond.methodLink mt.1.cls ix mt1.1 ∈ gT) (hm : MS mt1 np) (hc : CT mt1 (rm d1 0 0) As M none M1)
    (hst : As.reverse ++ st = st0) (hnp : As.length = np) (hcat : (st.map fun v => v.category).sum ≤ 8) (hd : d1 + 1 ≤ d) (hml : mt1.2.2.1 ≤ 45) (hk : k ≤ c9) (hn : n ≤ s9)
    (nx : EV mt (rm d c9 s9) res M' k n p2 ls st M1) : EV mt (rm d c9 s9) res M' k n pc ls st0 M := e_cS h hlk hm hc hst hnp hcat hd hml hk hn nx
end PCALLS
theorem okp : ∀ {a b : Nat}, Nat.ble a b = true → a ≤ b := fun h => Nat.le_of_ble_eq_true h
theorem okl {a b : Nat} (h : Nat.ble (a + 1) b = true) : a < b := Nat.le_of_ble_eq_true h
