/-! ===== the core: the world from place B on, told by a pure memory; EV: a frame of a method comes to its end ===== -/
abbrev Lv : Type := List (Option Value)
abbrev MT : Type := MethodName × ByteArray × Nat × Option FieldType
abbrev DD : Type := Nat × Nat
abbrev ML : Type := Nat × (Nat → DD) × (Nat → Nat → Option Nat)
abbrev MM : Type := ML × (Nat → Nat → Int32) × (Nat → Nat → Int64)
/-- the i-th cell that is made bears the number rho i in the pure world (the order of the class's constructors is another than the numbers'); pl is its other side -/
def rho (i : Nat) : Nat := if i < 2 then i else if i < 6 then i + 7 else if i < 11 then i - 2 else if i < 75 then i + 2 else if i < 76 then 81 else if i < 77 then 2 else if i < 89 then i + 5 else if i < 281 then i + 134 else if i < 282 then 3 else if i < 286 then i - 205 else if i < 415 then i - 192 else i
def pl (a : Nat) : Nat := if a < 2 then a else if a < 3 then 76 else if a < 4 then 281 else if a < 9 then a + 2 else if a < 13 then a - 7 else if a < 77 then a - 2 else if a < 81 then a + 205 else if a < 82 then 75 else if a < 94 then a - 5 else if a < 223 then a + 192 else if a < 415 then a - 134 else a
theorem pr_lo : ∀ i, i < 415 → pl (rho i) = i ∧ rho (pl i) = i := by decide +kernel
theorem rho_hi {i : Nat} (h : 415 ≤ i) : rho i = i := by
  unfold rho
  rw [if_neg (by omega), if_neg (by omega), if_neg (by omega), if_neg (by omega), if_neg (by omega), if_neg (by omega), if_neg (by omega), if_neg (by omega), if_neg (by omega), if_neg (by omega), if_neg (by omega)]
theorem pl_hi {i : Nat} (h : 415 ≤ i) : pl i = i := by
  unfold pl
  rw [if_neg (by omega), if_neg (by omega), if_neg (by omega), if_neg (by omega), if_neg (by omega), if_neg (by omega), if_neg (by omega), if_neg (by omega), if_neg (by omega), if_neg (by omega), if_neg (by omega)]
theorem pl_rho (i : Nat) : pl (rho i) = i := by
  rcases Nat.lt_or_ge i 415 with h | h
  · exact (pr_lo i h).1
  · rw [rho_hi h, pl_hi h]
theorem rho_pl (a : Nat) : rho (pl a) = a := by
  rcases Nat.lt_or_ge a 415 with h | h
  · exact (pr_lo a h).2
  · rw [pl_hi h, rho_hi h]
theorem pl_inj {a b : Nat} (h : pl a = pl b) : a = b := by rw [← rho_pl a, h, rho_pl]
/-- ids of the launch: class numbers, array classes, B, the strings' places -/
abbrev QX : Type := va_G × (Nat → ClassId) × Nat × (Nat → Nat) × (Nat → Nat)
/-- what stands below B: 0, 1: the two texts, 2, 3: their bytes, 4: a reference or null that nobody reads, 5: the script -/
def xV (x : QX) (j : Nat) : Value := if j < 2 then .ref (x.2.2.2.1 j) else if j < 4 then .ref (x.2.2.2.2 (j - 2)) else if j = 5 then .ref (x.2.2.2.2 3) else if x.2.2.2.2 2 = 0 then .null else .ref (x.2.2.2.2 2 - 1)
theorem xV_c (x : QX) (j : Nat) : xV x j = .null ∨ ∃ a, xV x j = .ref a := by
  unfold xV
  split
  · exact Or.inr ⟨_, rfl⟩
  · split
    · exact Or.inr ⟨_, rfl⟩
    · split
      · exact Or.inr ⟨_, rfl⟩
      · split
        · exact Or.inl rfl
        · exact Or.inr ⟨_, rfl⟩
/-- a value of the pure world as the machine has it: places from B on -/
def shV (x : QX) (v : Value) : Value := match v with
  | .ref a => .ref (x.2.2.1 + pl a)
  | .retAddr j => xV x j
  | .int x => .int x
  | .long x => .long x
  | .float x => .float x
  | .double x => .double x
  | .null => .null
theorem shV_cat (B : QX) (v : Value) : (shV B v).category = v.category := by
  cases v with
  | retAddr j =>
    show (xV B j).category = 1
    rcases xV_c B j with h | ⟨a, h⟩ <;> rw [h] <;> rfl
  | _ => rfl
def vr (r : Option Nat) : Value := match r with
  | none => .null
  | some a => .ref a
def shO (B : Nat) (r : Option Nat) : Option Nat := r.map (fun a => B + pl a)
theorem shV_vr (x : QX) (r : Option Nat) : shV x (vr r) = va_rf (shO x.2.2.1 r) := by cases r <;> rfl
def qfv (B : Nat) (M : MM) (a k : Nat) (t : FieldType) : Value := match t with
  | .long => .long (M.2.2 a k)
  | .object _ => va_rf (shO B (M.1.2.2 a k))
  | .array _ => va_rf (shO B (M.1.2.2 a k))
  | _ => .int (M.2.1 a k)
def qfs (B : Nat) (M : MM) (a ci : Nat) : List Value := (List.range (qnf ci)).map (fun k => qfv B M a k (qty ci k))
/-- what the cell a holds: an object of a class below 100; 100 ints, 101 bytes, 102 booleans, 103 longs, 104.. references -/
def qent (x : QX) (M : MM) (a : Nat) : va_E :=
  if (M.1.2.1 a).1 < 100 then .inr ((M.1.2.1 a).1, qfs x.2.2.1 M a (M.1.2.1 a).1)
  else if (M.1.2.1 a).1 = 103 then .inl (x.2.1 3, (M.1.2.1 a).2, .inr (.inl (M.2.2 a)))
  else if (M.1.2.1 a).1 < 104 then .inl (x.2.1 ((M.1.2.1 a).1 - 100), (M.1.2.1 a).2, .inl (M.2.1 a))
  else .inl (x.2.1 ((M.1.2.1 a).1 - 100), (M.1.2.1 a).2, .inr (.inr (.inr (.inr (fun j => shO x.2.2.1 (M.1.2.2 a j))))))
def wsOf (x : QX) (M : MM) : va_W := (List.range M.1.1).map (fun i => (x.2.2.1 + i, qent x M (rho i)))
def tysOf (x : QX) : List (ClassId × FieldType) := [(x.2.1 0, .int), (x.2.1 1, .byte), (x.2.1 2, .boolean), (x.2.1 3, .long), (x.2.1 4, .object "QuarterBoards$Shape"), (x.2.1 5, .object "QuarterBoards$Form"), (x.2.1 6, .array .int)]
def qA (x : QX) : Nat → Prop := fun q => x.2.2.1 ≤ q
def lens2 : List Nat := [80, 7]
def byts2 : List (List Int32) := [[98, 111, 97, 114, 100, 32, 32, 32, 111, 117, 116, 108, 105, 110, 101, 32, 116, 117, 114, 110, 32, 32, 32, 32, 102, 108, 105, 112, 32, 32, 32, 32, 98, 97, 115, 101, 32, 32, 32, 32, 115, 104, 105, 102, 116, 32, 32, 32, 99, 101, 108, 108, 32, 32, 32, 32, 98, 111, 120, 32, 32, 32, 32, 32, 104, 97, 108, 102, 32, 32, 32, 32, 113, 117, 97, 114, 116, 101, 114, 32], [59, 61, 43, 45, 38, 40, 41]]
def txW : String := "board   outline turn    flip    base    shift   cell    box     half    quarter "
def txS : String := ";=+-&()"
def isNest (w : Cond) : Bool := match w with
  | .methodLinkNest .. => true
  | .arrayOver (.object _) => true
  | .arrayOver (.array _) => true
  | _ => false
def nestL : List Cond := lw_tbl.filter isNest
theorem nest_warm {w : Cond} (hn : isNest w = true) {s U : State} (hW : s.WarmedH U.vm) (h : va_Nw w s) : va_Nw w U := by
  match w, hn with
  | .methodLinkNest a i y hh, _ => exact va_Nw.warmM hW h
  | .arrayOver (.object C), _ => exact va_AO.moved hW.alike h
  | .arrayOver (.array t), _ => exact over_moved hW.alike h
theorem nest_same {w : Cond} (hn : isNest w = true) {s U : State} (hv : s.vm = U.vm) (h : va_Nw w s) : va_Nw w U := by
  match w, hn with
  | .methodLinkNest a i y hh, _ => exact va_Nw.same rfl hv h
  | .arrayOver (.object C), _ => exact va_AO.moved (by rw [hv]; exact Vm.Alike.refl _) h
  | .arrayOver (.array t), _ => exact over_moved (by rw [hv]; exact Vm.Alike.refl _) h
/-- the tables' side of the world -/
def KC (x : QX) (U : State) : Prop := va_K x.1 classes (tysOf x) U ∧ (∀ w ∈ nestL, va_Nw w U) ∧ vk_R R_Tokens 38 txW (x.2.2.2.1 0) U ∧ vk_R R_Tokens 70 txS (x.2.2.2.1 1) U
/-- strings and statics, below B -/
def SC (x : QX) (U : State) (H : Heap) : Prop := vk_S 2 lens2 byts2 x.2.2.2.1 x.2.2.2.2 (qA x) U H ∧ va_Z "java/lang/String" "COMPACT_STRINGS" "Z" (.int 1) (qA x) U H ∧ va_Z "jdk/internal/util/Preconditions" "SIOOBE_FORMATTER" "Ljava/util/function/BiFunction;" (xV x 4) (qA x) U H
def Rp (x : QX) (M : MM) (H : Heap) : Prop := H.size = x.2.2.1 + M.1.1 ∧ va_P x.1 classes (wsOf x M) H ∧ ∀ a, M.1.1 ≤ pl a → (M.1.2.1 a).1 = 999
theorem KC.warm {x : QX} {s U : State} (hW : s.WarmedH U.vm) (h : KC x s) : KC x U := by
  refine ⟨va_K.moved hW.alike h.1, fun w hw => ?_, h.2.2.1.warm hW, h.2.2.2.warm hW⟩
  exact nest_warm (List.mem_filter.mp hw).2 hW (h.2.1 _ hw)
theorem KC.same {x : QX} {s U : State} (hv : s.vm = U.vm) (h : KC x s) : KC x U := by
  refine ⟨va_K.moved (by rw [hv]; exact Vm.Alike.refl _) h.1, fun w hw => ?_, vk_R.same hv.symm h.2.2.1, vk_R.same hv.symm h.2.2.2⟩
  exact nest_same (List.mem_filter.mp hw).2 hv (h.2.1 _ hw)
theorem SC.moved {x : QX} {s U : State} {H : Heap} (hv : s.vm.Alike U.vm) (h : SC x s H) : SC x U H := ⟨h.1.moved hv, h.2.1.moved hv, h.2.2.moved hv⟩
theorem SC.kept {x : QX} {U : State} {H H1 : Heap} (h : SC x U H) (hq : ∀ a : Nat, a < H.size → ¬ qA x a → H1[a]? = H[a]?) : SC x U H1 := ⟨h.1.kept hq, h.2.1.kept hq, h.2.2.kept hq⟩
theorem ws_at {x : QX} {M : MM} {i : Nat} (h : i < M.1.1) : (wsOf x M)[i]? = some (x.2.2.1 + i, qent x M (rho i)) := by
  simp [wsOf, h]
theorem ws_get {x : QX} {M : MM} {a : Nat} (h : pl a < M.1.1) : (wsOf x M)[pl a]? = some (x.2.2.1 + pl a, qent x M a) := by
  rw [ws_at h, rho_pl]
theorem ws_len (x : QX) (M : MM) : (wsOf x M).length = M.1.1 := by simp [wsOf]
theorem ws_D (x : QX) (M : MM) : va_D (qA x) (wsOf x M) := by
  refine ⟨fun i j p q hi hj e => ?_, fun k q hk => ?_⟩
  · have h1 : i < M.1.1 := by have := (List.getElem?_eq_some_iff.mp hi).1; rwa [ws_len] at this
    have h2 : j < M.1.1 := by have := (List.getElem?_eq_some_iff.mp hj).1; rwa [ws_len] at this
    rw [ws_at h1] at hi; rw [ws_at h2] at hj
    cases hi; cases hj
    exact Nat.add_left_cancel e
  · have h1 : k < M.1.1 := by have := (List.getElem?_eq_some_iff.mp hk).1; rwa [ws_len] at this
    rw [ws_at h1] at hk
    cases hk
    exact Nat.le_add_right _ _
theorem ws_set {x : QX} {M M1 : MM} {a : Nat} {e : va_E} (hn : M1.1.1 = M.1.1) (ha : pl a < M.1.1) (he : qent x M1 a = e) (ho : ∀ b, b ≠ a → qent x M1 b = qent x M b) : (wsOf x M).set (pl a) (x.2.2.1 + pl a, e) = wsOf x M1 := by
  apply List.ext_getElem?
  intro b
  rw [List.getElem?_set]
  by_cases hb : b < M.1.1
  · have hb1 : b < M1.1.1 := by rw [hn]; exact hb
    by_cases hab : pl a = b
    · subst hab
      rw [if_pos rfl, ws_get hb1, ws_len, if_pos ha, he]
    · rw [if_neg hab, ws_at hb, ws_at hb1, ho (rho b) (fun q => hab (by rw [← q, pl_rho]))]
  · have h1 : ¬ b < M1.1.1 := by rw [hn]; exact hb
    rw [if_neg (by omega)]
    rw [List.getElem?_eq_none (by rw [ws_len]; omega), List.getElem?_eq_none (by rw [ws_len]; omega)]
theorem Rp.lt {x : QX} {M : MM} {H : Heap} (h : Rp x M H) {a : Nat} (ha : (M.1.2.1 a).1 ≠ 999) : pl a < M.1.1 := by
  rcases Nat.lt_or_ge (pl a) M.1.1 with q | q
  · exact q
  · exact absurd (h.2.2 a q) ha
/-! the locals -/
def prs (B : QX) : Nat → Lv → List (Nat × Value)
  | _, [] => []
  | i, none :: r => prs B (i + 1) r
  | i, some v :: r => (i, shV B v) :: prs B (i + 1) r
theorem prs_mem {B : QX} : ∀ (ls : Lv) (i : Nat) (q : Nat × Value), q ∈ prs B i ls ↔ ∃ j v, ls[j]? = some (some v) ∧ q = (i + j, shV B v)
  | [], i, q => by simp [prs]
  | none :: r, i, q => by
    rw [prs, prs_mem r (i + 1) q]
    constructor
    · rintro ⟨j, v, h, rfl⟩
      exact ⟨j + 1, v, by simpa using h, by rw [show i + 1 + j = i + (j + 1) by omega]⟩
    · rintro ⟨j, v, h, rfl⟩
      cases j with
      | zero => simp at h
      | succ j => exact ⟨j, v, by simpa using h, by rw [show i + 1 + j = i + (j + 1) by omega]⟩
  | some w :: r, i, q => by
    rw [prs, List.mem_cons, prs_mem r (i + 1) q]
    constructor
    · rintro (rfl | ⟨j, v, h, rfl⟩)
      · exact ⟨0, w, rfl, rfl⟩
      · exact ⟨j + 1, v, by simpa using h, by rw [show i + 1 + j = i + (j + 1) by omega]⟩
    · rintro ⟨j, v, h, rfl⟩
      cases j with
      | zero => left; simp at h; rw [h]; rfl
      | succ j => right; exact ⟨j, v, by simpa using h, by rw [show i + 1 + j = i + (j + 1) by omega]⟩
def lvo (B : QX) (A : Array Slot) (n : Nat) (ls : Lv) : Prop := lv_has A n (prs B 0 ls)
theorem lvo_at {B : QX} {A : Array Slot} {n : Nat} {ls : Lv} (h : lvo B A n ls) {i : Nat} {v : Value} (hi : ls[i]? = some (some v)) : A[i]? = some (.val (shV B v)) := by
  have h1 := h.2.2 (i, shV B v) ((prs_mem ls 0 _).mpr ⟨i, v, hi, by simp⟩)
  exact h1
theorem lvo_sub {B : QX} {A : Array Slot} {n : Nat} {ls ls' : Lv} (h : lvo B A n ls) (hs : ∀ (i : Nat) (v : Value), ls'[i]? = some (some v) → ls[i]? = some (some v)) : lvo B A n ls' := by
  refine ⟨h.1, h.2.1, fun q hq => ?_⟩
  obtain ⟨j, v, hj, rfl⟩ := (prs_mem ls' 0 q).mp hq
  have := lvo_at h (hs j v hj)
  simpa using this
/-- the place ahead of i holds no long -/
def okP (ls : Lv) (i : Nat) : Bool := match i with
  | 0 => true
  | j + 1 => match ls[j]? with
    | some (some v) => v.category == 1
    | _ => true
theorem lvo_set1 {B : QX} {A' : Array Slot} {n i : Nat} {ls : Lv} {v : Value} (hp : okP ls i = true)
    (h : lv_has A' n ((i, shV B v) :: (prs B 0 ls).filter (fun q => !(q.1 == i) && !(q.1 + 1 == i && q.2.category == 2)))) : lvo B A' n (ls.set i (some v)) := by
  refine ⟨h.1, h.2.1, fun q hq => ?_⟩
  obtain ⟨j, w, hj, rfl⟩ := (prs_mem _ 0 q).mp hq
  apply h.2.2
  rw [List.getElem?_set] at hj
  by_cases hij : i = j
  · subst hij
    rw [if_pos rfl] at hj
    split at hj
    · cases hj; simp
    · cases hj
  · rw [if_neg hij] at hj
    refine List.mem_cons_of_mem _ (List.mem_filter.mpr ⟨(prs_mem ls 0 _).mpr ⟨j, w, hj, rfl⟩, ?_⟩)
    simp only [Nat.zero_add, Bool.and_eq_true, Bool.not_eq_true', beq_eq_false_iff_ne, Bool.and_eq_false_iff, shV_cat]
    refine ⟨fun e => hij e.symm, ?_⟩
    by_cases hj1 : j + 1 = i
    · right
      subst hj1
      simp only [okP, hj] at hp
      have : w.category = 1 := by simpa using hp
      rw [this]; decide
    · exact Or.inl hj1
theorem lvo_set2 {B : QX} {A' : Array Slot} {n i : Nat} {ls : Lv} {v : Value} (hp : okP ls i = true)
    (h : lv_has A' n ((i, shV B v) :: (prs B 0 ls).filter (fun q => !(q.1 == i) && (!(q.1 == i + 1) && !(q.1 + 1 == i && q.2.category == 2))))) : lvo B A' n ((ls.set i (some v)).set (i + 1) none) := by
  refine ⟨h.1, h.2.1, fun q hq => ?_⟩
  obtain ⟨j, w, hj, rfl⟩ := (prs_mem _ 0 q).mp hq
  apply h.2.2
  rw [List.getElem?_set] at hj
  by_cases hij : i + 1 = j
  · subst hij
    rw [if_pos rfl] at hj
    split at hj <;> cases hj
  · rw [if_neg hij, List.getElem?_set] at hj
    by_cases hij2 : i = j
    · subst hij2
      rw [if_pos rfl] at hj
      split at hj
      · cases hj; simp
      · cases hj
    · rw [if_neg hij2] at hj
      refine List.mem_cons_of_mem _ (List.mem_filter.mpr ⟨(prs_mem ls 0 _).mpr ⟨j, w, hj, rfl⟩, ?_⟩)
      simp only [Nat.zero_add, Bool.and_eq_true, Bool.not_eq_true', beq_eq_false_iff_ne, Bool.and_eq_false_iff, shV_cat]
      refine ⟨fun e => hij2 e.symm, fun e => hij e.symm, ?_⟩
      by_cases hj1 : j + 1 = i
      · right
        subst hj1
        simp only [okP, hj] at hp
        have : w.category = 1 := by simpa using hp
        rw [this]; decide
      · exact Or.inl hj1
/-! the judgement -/
def QR (x : QX) (res : Option Value) (M' : MM) : Array Value → State → Outcome → State → Prop := fun _ st oc t =>
  oc = .returned (res.map (shV x)) ∧ Rp x M' t.heap ∧ va_F (qA x) st t
/-- what is fixed in a frame of the method mt -/
def CX (x : QX) (mt : MT) (p : Program) (s : State) (m : MethodId) (args : Array Value) (meth : Method) (c : Code) : Prop :=
  p.tables.exec = Jvm.exec ∧ c.code = mt.2.1 ∧ meth.sig.returnType = mt.2.2.2 ∧ c.maxLocals = mt.2.2.1 ∧ s.vm.findClass mt.1.cls = some m.cls ∧ (∀ w ∈ gT, w.before args s = true) ∧ KC x s ∧ SC x s s.heap ∧ meth.locks = false ∧ (mt.1.name = "<init>" → meth.name = "<init>") ∧ x.2.2.1 ≤ s.heap.size
abbrev ZT : Type := QX → State → Array Value → List Frame → State → Prop
/-- from pc, with these locals, this stack, this memory, k cells of n slots made so far, the frame of mt comes to a state of Z -/
def EVG (mt : MT) (R : Room) (Z : ZT) (k n pc : Nat) (ls : Lv) (st : List Value) (M : MM) : Prop :=
  ∀ (x : QX) (p : Program) (l : Launch) (e : Env) (s : State) (m : MethodId) (args : Array Value) (below : List Frame) (meth : Method) (c : Code) (H : Heap) (locs : List Loc) (A : Array Slot),
    CX x mt p s m args meth c → Rp x M H → va_S (qA x) s.heap H locs → lvo x A mt.2.2.1 ls →
    W p l e R s m args below meth c H locs k n (Z x s args below) (F0 m pc A (st.map (shV x)))
def ZR (R : Room) (res : Option Value) (M' : MM) : ZT := fun x s args below => MQ below (QR x res M') args s R.cells R.slots (qA x)
/-- the method mt returns res and leaves M' -/
abbrev EV (mt : MT) (R : Room) (res : Option Value) (M' : MM) (k n pc : Nat) (ls : Lv) (st : List Value) (M : MM) : Prop := EVG mt R (ZR R res M') k n pc ls st M
def PreM (x : QX) (args : List Value) (M : MM) : Array Value → State → Prop := va_Pc (args.map (shV x)) (fun U => Rp x M U.heap ∧ KC x U ∧ SC x U U.heap)
def wsM (mt : MT) : List Cond := Cond.code mt.1 mt.2.1 mt.2.2.1 mt.2.2.2 :: gT
/-- the contract: called with args in M, mt returns res and leaves M' -/
def CT (mt : MT) (R : Room) (args : List Value) (M : MM) (res : Option Value) (M' : MM) : Prop :=
  ∀ (l : Launch) (x : QX), Met l mt.1 (wsM mt) R (PreM x args M) (QR x res M') R.cells R.slots (qA x)
/-- at pc stands i, of len bytes, ahead of p2 -/
def DC (mt : MT) (pc : Nat) (i : Instr) (len p2 : Nat) : Prop := decode mt.2.1 pc = .ok (i, len) ∧ pc + len = p2
/-- the locals at the entry -/
def lv0 (args : List Value) (n : Nat) : Lv := (args.flatMap fun v => if v.category = 2 then [some v, none] else [some v]) ++ List.replicate (n - (args.flatMap fun v => if v.category = 2 then [some v, none] else [some v]).length) none
theorem prs_app {B : QX} : ∀ (a b : Lv) (i : Nat), prs B i (a ++ b) = prs B i a ++ prs B (i + a.length) b
  | [], b, i => by simp [prs]
  | none :: r, b, i => by simp only [List.cons_append, prs, List.length_cons]; rw [prs_app r b (i + 1), show i + 1 + r.length = i + (r.length + 1) by omega]
  | some v :: r, b, i => by simp only [List.cons_append, prs, List.length_cons]; rw [prs_app r b (i + 1), show i + 1 + r.length = i + (r.length + 1) by omega]
theorem prs_none {B : QX} : ∀ (n i : Nat), prs B i (List.replicate n none) = []
  | 0, i => rfl
  | n + 1, i => by rw [List.replicate_succ, prs, prs_none n]
theorem prs_args (B : QX) : ∀ (args : List Value) (i : Nat), prs B i (args.flatMap fun v => if v.category = 2 then [some v, none] else [some v]) = lv_args i (args.map (shV B))
  | [], i => rfl
  | v :: r, i => by
    rw [List.flatMap_cons, prs_app]
    by_cases h : v.category = 2
    · rw [if_pos h]
      simp only [prs, List.map_cons, lv_args, List.length_cons, List.length_nil, shV_cat, h]
      rw [prs_args B r]; rfl
    · rw [if_neg h]
      have h1 : v.category = 1 := by rcases lv_cat v with q | q; exact q; exact absurd q h
      simp only [prs, List.map_cons, lv_args, List.length_cons, List.length_nil, shV_cat, h1]
      rw [prs_args B r]; rfl
