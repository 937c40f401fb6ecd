/-! ===== one rule an instruction ===== -/
theorem EVG.weaken {mt : MT} {R : Room} {Z : ZT} {k n pc : Nat} {ls ls' : Lv} {st : List Value} {M : MM} (hs : ∀ (i : Nat) (v : Value), ls'[i]? = some (some v) → ls[i]? = some (some v)) (h : EVG mt R Z k n pc ls' st M) : EVG mt R Z k n pc ls st M :=
  fun X p l e s m args below meth c H locs A hC hR hS hl => h X p l e s m args below meth c H locs A hC hR hS (lvo_sub hl hs)
/-- fewer locals known, place by place -/
def LSub : Lv → Lv → Prop
  | [], _ => True
  | none :: a, b => LSub a b.tail
  | some v :: a, b => b.head? = some (some v) ∧ LSub a b.tail
theorem LSub.at : ∀ {a b : Lv}, LSub a b → ∀ (i : Nat) (v : Value), a[i]? = some (some v) → b[i]? = some (some v)
  | [], b, _, i, v, h => by simp at h
  | none :: a, b, hs, i, v, h => by
    cases i with
    | zero => simp at h
    | succ i =>
      have := LSub.at (show LSub a b.tail from hs) i v (by simpa using h)
      cases b with
      | nil => simp at this
      | cons w b => simpa using this
  | some w :: a, b, hs, i, v, h => by
    cases b with
    | nil => exact absurd hs.1 (by simp)
    | cons u b =>
      cases i with
      | zero => have h1 := hs.1; simp at h1 h ⊢; rw [h1, h]
      | succ i => simpa using LSub.at (show LSub a b from hs.2) i v (by simpa using h)
theorem EVG.less {mt : MT} {R : Room} {Z : ZT} {k n pc : Nat} {ls ls' : Lv} {st : List Value} {M : MM} (h : EVG mt R Z k n pc ls' st M) (hs : LSub ls' ls) : EVG mt R Z k n pc ls st M := EVG.weaken (LSub.at hs) h
section RULES
variable {mt : MT} {R : Room} {Z : ZT} {k n pc p2 : Nat} {ls : Lv} {st : List Value} {M : MM}
theorem e_iconst {v : Int32} {z : Int} (h : DC mt pc (.iconst z) 1 p2) (hv : Int32.ofInt z = v) (nx : EVG mt R Z k n p2 ls (.int v :: st) M) : EVG mt R Z k n pc ls (st) M := by
  intro X p l e s m args below meth c H locs A hC hR hS hl
  obtain ⟨h, rfl⟩ := h
  exact lv_iconst hC.1 hC.2.1 h hv (nx X p l e s m args below meth c H locs A hC hR hS hl)
theorem e_bipush {v : Int32} {z : Int} (h : DC mt pc (.bipush z) 2 p2) (hv : (Int8.ofInt z).toInt32 = v) (nx : EVG mt R Z k n p2 ls (.int v :: st) M) : EVG mt R Z k n pc ls (st) M := by
  intro X p l e s m args below meth c H locs A hC hR hS hl
  obtain ⟨h, rfl⟩ := h
  exact lv_bipush hC.1 hC.2.1 h hv (nx X p l e s m args below meth c H locs A hC hR hS hl)
theorem e_sipush {v : Int32} {z : Int} (h : DC mt pc (.sipush z) 3 p2) (hv : (Int16.ofInt z).toInt32 = v) (nx : EVG mt R Z k n p2 ls (.int v :: st) M) : EVG mt R Z k n pc ls (st) M := by
  intro X p l e s m args below meth c H locs A hC hR hS hl
  obtain ⟨h, rfl⟩ := h
  exact lv_sipush hC.1 hC.2.1 h hv (nx X p l e s m args below meth c H locs A hC hR hS hl)
theorem e_lconst {v : Int64} {z : Fin 2} (h : DC mt pc (.lconst z) 1 p2) (hv : Int64.ofNat (z : Nat) = v) (nx : EVG mt R Z k n p2 ls (.long v :: st) M) : EVG mt R Z k n pc ls (st) M := by
  intro X p l e s m args below meth c H locs A hC hR hS hl
  obtain ⟨h, rfl⟩ := h
  exact lv_lconst hC.1 hC.2.1 h hv (nx X p l e s m args below meth c H locs A hC hR hS hl)
theorem e_ldc {v : Int32} {ix : Nat} (h : DC mt pc (.ldc ix) 2 p2) (hg : Cond.constant mt.1.cls ix v ∈ gT) (nx : EVG mt R Z k n p2 ls (.int v :: st) M) : EVG mt R Z k n pc ls (st) M := by
  intro X p l e s m args below meth c H locs A hC hR hS hl
  obtain ⟨h, rfl⟩ := h
  exact lv_ldc hC.1 hC.2.1 hC.2.2.2.2.1 (hC.2.2.2.2.2.1 _ hg) h (nx X p l e s m args below meth c H locs A hC hR hS hl)
theorem e_ldcw {v : Int32} {ix : Nat} (h : DC mt pc (.ldc_w ix) 3 p2) (hg : Cond.constant mt.1.cls ix v ∈ gT) (nx : EVG mt R Z k n p2 ls (.int v :: st) M) : EVG mt R Z k n pc ls (st) M := by
  intro X p l e s m args below meth c H locs A hC hR hS hl
  obtain ⟨h, rfl⟩ := h
  exact lv_ldcw hC.1 hC.2.1 hC.2.2.2.2.1 (hC.2.2.2.2.2.1 _ hg) h (nx X p l e s m args below meth c H locs A hC hR hS hl)
theorem e_ldc2 {v : Int64} {ix : Nat} (h : DC mt pc (.ldc2_w ix) 3 p2) (hg : Cond.constantLong mt.1.cls ix v ∈ gT) (nx : EVG mt R Z k n p2 ls (.long v :: st) M) : EVG mt R Z k n pc ls (st) M := by
  intro X p l e s m args below meth c H locs A hC hR hS hl
  obtain ⟨h, rfl⟩ := h
  exact lv_ldc2 hC.1 hC.2.1 hC.2.2.2.2.1 (hC.2.2.2.2.2.1 _ hg) h (nx X p l e s m args below meth c H locs A hC hR hS hl)
theorem e_null (h : DC mt pc .aconst_null 1 p2) (nx : EVG mt R Z k n p2 ls (.null :: st) M) : EVG mt R Z k n pc ls (st) M := by
  intro X p l e s m args below meth c H locs A hC hR hS hl
  obtain ⟨h, rfl⟩ := h
  exact lv_null hC.1 hC.2.1 h (nx X p l e s m args below meth c H locs A hC hR hS hl)
theorem e_iload {i : Nat} {x : Int32} (h : DC mt pc (.iload i) 2 p2) (hi : ls[i]? = some (some (.int x))) (nx : EVG mt R Z k n p2 ls (.int x :: st) M) : EVG mt R Z k n pc ls (st) M := by
  intro X p l e s m args below meth c H locs A hC hR hS hl
  obtain ⟨h, rfl⟩ := h
  exact lv_iload hC.1 hC.2.1 h (lvo_at hl hi) (nx X p l e s m args below meth c H locs A hC hR hS hl)
theorem e_iload_n {i : Fin 4} {x : Int32} (h : DC mt pc (.iload_n i) 1 p2) (hi : ls[(i : Nat)]? = some (some (.int x))) (nx : EVG mt R Z k n p2 ls (.int x :: st) M) : EVG mt R Z k n pc ls (st) M := by
  intro X p l e s m args below meth c H locs A hC hR hS hl
  obtain ⟨h, rfl⟩ := h
  exact lv_iload_n hC.1 hC.2.1 h rfl (lvo_at hl hi) (nx X p l e s m args below meth c H locs A hC hR hS hl)
theorem e_lload {i : Nat} {x : Int64} (h : DC mt pc (.lload i) 2 p2) (hi : ls[i]? = some (some (.long x))) (nx : EVG mt R Z k n p2 ls (.long x :: st) M) : EVG mt R Z k n pc ls (st) M := by
  intro X p l e s m args below meth c H locs A hC hR hS hl
  obtain ⟨h, rfl⟩ := h
  exact lv_lload hC.1 hC.2.1 h (lvo_at hl hi) (nx X p l e s m args below meth c H locs A hC hR hS hl)
theorem e_lload_n {i : Fin 4} {x : Int64} (h : DC mt pc (.lload_n i) 1 p2) (hi : ls[(i : Nat)]? = some (some (.long x))) (nx : EVG mt R Z k n p2 ls (.long x :: st) M) : EVG mt R Z k n pc ls (st) M := by
  intro X p l e s m args below meth c H locs A hC hR hS hl
  obtain ⟨h, rfl⟩ := h
  exact lv_lload_n hC.1 hC.2.1 h rfl (lvo_at hl hi) (nx X p l e s m args below meth c H locs A hC hR hS hl)
theorem e_aload {i : Nat} {x : Nat} (h : DC mt pc (.aload i) 2 p2) (hi : ls[i]? = some (some (.ref x))) (nx : EVG mt R Z k n p2 ls (.ref x :: st) M) : EVG mt R Z k n pc ls (st) M := by
  intro X p l e s m args below meth c H locs A hC hR hS hl
  obtain ⟨h, rfl⟩ := h
  exact lv_aload hC.1 hC.2.1 h (lvo_at hl hi) (nx X p l e s m args below meth c H locs A hC hR hS hl)
theorem e_aload_n {i : Fin 4} {x : Nat} (h : DC mt pc (.aload_n i) 1 p2) (hi : ls[(i : Nat)]? = some (some (.ref x))) (nx : EVG mt R Z k n p2 ls (.ref x :: st) M) : EVG mt R Z k n pc ls (st) M := by
  intro X p l e s m args below meth c H locs A hC hR hS hl
  obtain ⟨h, rfl⟩ := h
  exact lv_aload_n hC.1 hC.2.1 h rfl (lvo_at hl hi) (nx X p l e s m args below meth c H locs A hC hR hS hl)
theorem e_aloadN {i : Nat} (h : DC mt pc (.aload i) 2 p2) (hi : ls[i]? = some (some .null)) (nx : EVG mt R Z k n p2 ls (.null :: st) M) : EVG mt R Z k n pc ls (st) M := by
  intro X p l e s m args below meth c H locs A hC hR hS hl
  obtain ⟨h, rfl⟩ := h
  exact lv_aloadN hC.1 hC.2.1 h (lvo_at hl hi) (nx X p l e s m args below meth c H locs A hC hR hS hl)
theorem e_aload_nN {i : Fin 4} (h : DC mt pc (.aload_n i) 1 p2) (hi : ls[(i : Nat)]? = some (some .null)) (nx : EVG mt R Z k n p2 ls (.null :: st) M) : EVG mt R Z k n pc ls (st) M := by
  intro X p l e s m args below meth c H locs A hC hR hS hl
  obtain ⟨h, rfl⟩ := h
  exact lv_aload_nN hC.1 hC.2.1 h rfl (lvo_at hl hi) (nx X p l e s m args below meth c H locs A hC hR hS hl)
theorem e_aloadX {i : Nat} {x : Nat} (h : DC mt pc (.aload i) 2 p2) (hi : ls[i]? = some (some (.retAddr x))) (nx : EVG mt R Z k n p2 ls (.retAddr x :: st) M) : EVG mt R Z k n pc ls st M := by
  intro X p l e s m args below meth c H locs A hC hR hS hl
  obtain ⟨h, rfl⟩ := h
  have h1 : A[i]? = some (.val (xV X x)) := lvo_at hl hi
  have h2 := nx X p l e s m args below meth c H locs A hC hR hS hl
  have h3 : W p l e R s m args below meth c H locs k n (Z X s args below) (F0 m (pc + 2) A (xV X x :: st.map (shV X))) := h2
  rcases xV_c X x with h9 | ⟨a, h9⟩
  · rw [h9] at h1 h3
    exact lv_aloadN hC.1 hC.2.1 h h1 h3
  · rw [h9] at h1 h3
    exact lv_aload hC.1 hC.2.1 h h1 h3
theorem e_aload_nX {i : Fin 4} {x : Nat} (h : DC mt pc (.aload_n i) 1 p2) (hi : ls[(i : Nat)]? = some (some (.retAddr x))) (nx : EVG mt R Z k n p2 ls (.retAddr x :: st) M) : EVG mt R Z k n pc ls st M := by
  intro X p l e s m args below meth c H locs A hC hR hS hl
  obtain ⟨h, rfl⟩ := h
  have h1 : A[(i : Nat)]? = some (.val (xV X x)) := lvo_at hl hi
  have h2 := nx X p l e s m args below meth c H locs A hC hR hS hl
  have h3 : W p l e R s m args below meth c H locs k n (Z X s args below) (F0 m (pc + 1) A (xV X x :: st.map (shV X))) := h2
  rcases xV_c X x with h9 | ⟨a, h9⟩
  · rw [h9] at h1 h3
    exact lv_aload_nN hC.1 hC.2.1 h rfl h1 h3
  · rw [h9] at h1 h3
    exact lv_aload_n hC.1 hC.2.1 h rfl h1 h3
theorem e_istore {i : Nat} {x : Int32} {l2 : Lv} (h : DC mt pc (.istore i) 2 p2) (hs : ls.set i (some (.int x)) = l2) (hn : i < mt.2.2.1) (hp : okP ls i = true) (nx : EVG mt R Z k n p2 l2 st M) : EVG mt R Z k n pc ls (.int x :: st) M := by
  intro X p l e s m args below meth c H locs A hC hR hS hl
  obtain ⟨h, rfl⟩ := h
  subst hs
  exact lv_istore hC.1 hC.2.1 h hl hn rfl (fun ls9 h9 => nx X p l e s m args below meth c H locs ls9 hC hR hS (lvo_set1 hp h9))
theorem e_istore_n {i : Fin 4} {x : Int32} {l2 : Lv} (h : DC mt pc (.istore_n i) 1 p2) (hs : ls.set i (some (.int x)) = l2) (hn : (i : Nat) < mt.2.2.1) (hp : okP ls i = true) (nx : EVG mt R Z k n p2 l2 st M) : EVG mt R Z k n pc ls (.int x :: st) M := by
  intro X p l e s m args below meth c H locs A hC hR hS hl
  obtain ⟨h, rfl⟩ := h
  subst hs
  exact lv_istore_n hC.1 hC.2.1 h rfl hl hn rfl (fun ls9 h9 => nx X p l e s m args below meth c H locs ls9 hC hR hS (lvo_set1 hp h9))
theorem e_astore {i : Nat} {x : Nat} {l2 : Lv} (h : DC mt pc (.astore i) 2 p2) (hs : ls.set i (some (.ref x)) = l2) (hn : i < mt.2.2.1) (hp : okP ls i = true) (nx : EVG mt R Z k n p2 l2 st M) : EVG mt R Z k n pc ls (.ref x :: st) M := by
  intro X p l e s m args below meth c H locs A hC hR hS hl
  obtain ⟨h, rfl⟩ := h
  subst hs
  exact lv_astore hC.1 hC.2.1 h hl hn rfl (fun ls9 h9 => nx X p l e s m args below meth c H locs ls9 hC hR hS (lvo_set1 hp h9))
theorem e_astore_n {i : Fin 4} {x : Nat} {l2 : Lv} (h : DC mt pc (.astore_n i) 1 p2) (hs : ls.set i (some (.ref x)) = l2) (hn : (i : Nat) < mt.2.2.1) (hp : okP ls i = true) (nx : EVG mt R Z k n p2 l2 st M) : EVG mt R Z k n pc ls (.ref x :: st) M := by
  intro X p l e s m args below meth c H locs A hC hR hS hl
  obtain ⟨h, rfl⟩ := h
  subst hs
  exact lv_astore_n hC.1 hC.2.1 h rfl hl hn rfl (fun ls9 h9 => nx X p l e s m args below meth c H locs ls9 hC hR hS (lvo_set1 hp h9))
theorem e_astoreN {i : Nat} {l2 : Lv} (h : DC mt pc (.astore i) 2 p2) (hs : ls.set i (some .null) = l2) (hn : i < mt.2.2.1) (hp : okP ls i = true) (nx : EVG mt R Z k n p2 l2 st M) : EVG mt R Z k n pc ls (.null :: st) M := by
  intro X p l e s m args below meth c H locs A hC hR hS hl
  obtain ⟨h, rfl⟩ := h
  subst hs
  exact lv_astoreN hC.1 hC.2.1 h hl hn rfl (fun ls9 h9 => nx X p l e s m args below meth c H locs ls9 hC hR hS (lvo_set1 hp h9))
theorem e_astore_nN {i : Fin 4} {l2 : Lv} (h : DC mt pc (.astore_n i) 1 p2) (hs : ls.set i (some .null) = l2) (hn : (i : Nat) < mt.2.2.1) (hp : okP ls i = true) (nx : EVG mt R Z k n p2 l2 st M) : EVG mt R Z k n pc ls (.null :: st) M := by
  intro X p l e s m args below meth c H locs A hC hR hS hl
  obtain ⟨h, rfl⟩ := h
  subst hs
  exact lv_astore_nN hC.1 hC.2.1 h rfl hl hn rfl (fun ls9 h9 => nx X p l e s m args below meth c H locs ls9 hC hR hS (lvo_set1 hp h9))
theorem e_lstore {i : Nat} {x : Int64} {l2 : Lv} (h : DC mt pc (.lstore i) 2 p2) (hs : (ls.set i (some (.long x))).set (i + 1) none = l2) (hn : i + 1 < mt.2.2.1) (hp : okP ls i = true) (nx : EVG mt R Z k n p2 l2 st M) : EVG mt R Z k n pc ls (.long x :: st) M := by
  intro X p l e s m args below meth c H locs A hC hR hS hl
  obtain ⟨h, rfl⟩ := h
  subst hs
  exact lv_lstore hC.1 hC.2.1 h hl hn rfl (fun ls9 h9 => nx X p l e s m args below meth c H locs ls9 hC hR hS (lvo_set2 hp h9))
theorem e_lstore_n {i : Fin 4} {x : Int64} {l2 : Lv} (h : DC mt pc (.lstore_n i) 1 p2) (hs : (ls.set i (some (.long x))).set (i + 1) none = l2) (hn : (i : Nat) + 1 < mt.2.2.1) (hp : okP ls i = true) (nx : EVG mt R Z k n p2 l2 st M) : EVG mt R Z k n pc ls (.long x :: st) M := by
  intro X p l e s m args below meth c H locs A hC hR hS hl
  obtain ⟨h, rfl⟩ := h
  subst hs
  exact lv_lstore_n hC.1 hC.2.1 h rfl hl hn rfl (fun ls9 h9 => nx X p l e s m args below meth c H locs ls9 hC hR hS (lvo_set2 hp h9))
theorem prs_idx {B : QX} {i : Nat} {v : Value} {ls : Lv} (hi : ls[i]? = some (some v)) : ∃ j : Nat, (prs B 0 ls)[j]? = some (i, shV B v) :=
  List.getElem?_of_mem ((prs_mem ls 0 _).mpr ⟨i, v, hi, by simp⟩)
theorem e_iinc {i : Nat} {x v : Int32} {z : Int} {l2 : Lv} (h : DC mt pc (.iinc i z) 3 p2) (hi : ls[i]? = some (some (.int x))) (hv : x + Int32.ofInt z = v) (hs : ls.set i (some (.int v)) = l2) (hn : i < mt.2.2.1) (hp : okP ls i = true) (nx : EVG mt R Z k n p2 l2 st M) : EVG mt R Z k n pc ls st M := by
  intro X p l e s m args below meth c H locs A hC hR hS hl
  obtain ⟨h, rfl⟩ := h
  subst hs
  obtain ⟨j, hj⟩ := prs_idx (B := X) hi
  exact lv_iinc hC.1 hC.2.1 h hl hj hv hn rfl (fun ls9 h9 => nx X p l e s m args below meth c H locs ls9 hC hR hS (lvo_set1 hp h9))
theorem e_iadd {x y : Int32} (h : DC mt pc .iadd 1 p2) (nx : EVG mt R Z k n p2 ls (.int (x + y) :: st) M) : EVG mt R Z k n pc ls (.int y :: .int x :: st) M := by
  intro X p l e s m args below meth c H locs A hC hR hS hl
  obtain ⟨h, rfl⟩ := h
  exact lv_iadd hC.1 hC.2.1 h (nx X p l e s m args below meth c H locs A hC hR hS hl)
theorem e_isub {x y : Int32} (h : DC mt pc .isub 1 p2) (nx : EVG mt R Z k n p2 ls (.int (x - y) :: st) M) : EVG mt R Z k n pc ls (.int y :: .int x :: st) M := by
  intro X p l e s m args below meth c H locs A hC hR hS hl
  obtain ⟨h, rfl⟩ := h
  exact lv_isub hC.1 hC.2.1 h (nx X p l e s m args below meth c H locs A hC hR hS hl)
theorem e_imul {x y : Int32} (h : DC mt pc .imul 1 p2) (nx : EVG mt R Z k n p2 ls (.int (x * y) :: st) M) : EVG mt R Z k n pc ls (.int y :: .int x :: st) M := by
  intro X p l e s m args below meth c H locs A hC hR hS hl
  obtain ⟨h, rfl⟩ := h
  exact lv_imul hC.1 hC.2.1 h (nx X p l e s m args below meth c H locs A hC hR hS hl)
theorem e_iand {x y : Int32} (h : DC mt pc .iand 1 p2) (nx : EVG mt R Z k n p2 ls (.int (x &&& y) :: st) M) : EVG mt R Z k n pc ls (.int y :: .int x :: st) M := by
  intro X p l e s m args below meth c H locs A hC hR hS hl
  obtain ⟨h, rfl⟩ := h
  exact lv_iand hC.1 hC.2.1 h (nx X p l e s m args below meth c H locs A hC hR hS hl)
theorem e_ior {x y : Int32} (h : DC mt pc .ior 1 p2) (nx : EVG mt R Z k n p2 ls (.int (x ||| y) :: st) M) : EVG mt R Z k n pc ls (.int y :: .int x :: st) M := by
  intro X p l e s m args below meth c H locs A hC hR hS hl
  obtain ⟨h, rfl⟩ := h
  exact lv_ior hC.1 hC.2.1 h (nx X p l e s m args below meth c H locs A hC hR hS hl)
theorem e_ixor {x y : Int32} (h : DC mt pc .ixor 1 p2) (nx : EVG mt R Z k n p2 ls (.int (x ^^^ y) :: st) M) : EVG mt R Z k n pc ls (.int y :: .int x :: st) M := by
  intro X p l e s m args below meth c H locs A hC hR hS hl
  obtain ⟨h, rfl⟩ := h
  exact lv_ixor hC.1 hC.2.1 h (nx X p l e s m args below meth c H locs A hC hR hS hl)
theorem e_ladd {x y : Int64} (h : DC mt pc .ladd 1 p2) (nx : EVG mt R Z k n p2 ls (.long (x + y) :: st) M) : EVG mt R Z k n pc ls (.long y :: .long x :: st) M := by
  intro X p l e s m args below meth c H locs A hC hR hS hl
  obtain ⟨h, rfl⟩ := h
  exact lv_ladd hC.1 hC.2.1 h (nx X p l e s m args below meth c H locs A hC hR hS hl)
theorem e_lmul {x y : Int64} (h : DC mt pc .lmul 1 p2) (nx : EVG mt R Z k n p2 ls (.long (x * y) :: st) M) : EVG mt R Z k n pc ls (.long y :: .long x :: st) M := by
  intro X p l e s m args below meth c H locs A hC hR hS hl
  obtain ⟨h, rfl⟩ := h
  exact lv_lmul hC.1 hC.2.1 h (nx X p l e s m args below meth c H locs A hC hR hS hl)
theorem e_lor {x y : Int64} (h : DC mt pc .lor 1 p2) (nx : EVG mt R Z k n p2 ls (.long (x ||| y) :: st) M) : EVG mt R Z k n pc ls (.long y :: .long x :: st) M := by
  intro X p l e s m args below meth c H locs A hC hR hS hl
  obtain ⟨h, rfl⟩ := h
  exact lv_lor hC.1 hC.2.1 h (nx X p l e s m args below meth c H locs A hC hR hS hl)
def ishl (x y : Int32) : Int32 := x <<< (y &&& 31)
def ishr (x y : Int32) : Int32 := x >>> (y &&& 31)
def lsh (x : Int64) (y : Int32) : Int64 := x <<< (y.toInt64 &&& 63)
theorem e_ishl {x y : Int32} (h : DC mt pc .ishl 1 p2) (nx : EVG mt R Z k n p2 ls (.int (ishl x y) :: st) M) : EVG mt R Z k n pc ls (.int y :: .int x :: st) M := by
  intro X p l e s m args below meth c H locs A hC hR hS hl
  obtain ⟨h, rfl⟩ := h
  exact lv_ishl hC.1 hC.2.1 h (nx X p l e s m args below meth c H locs A hC hR hS hl)
theorem e_ishr {x y : Int32} (h : DC mt pc .ishr 1 p2) (nx : EVG mt R Z k n p2 ls (.int (ishr x y) :: st) M) : EVG mt R Z k n pc ls (.int y :: .int x :: st) M := by
  intro X p l e s m args below meth c H locs A hC hR hS hl
  obtain ⟨h, rfl⟩ := h
  exact lv_ishr hC.1 hC.2.1 h (nx X p l e s m args below meth c H locs A hC hR hS hl)
def ushr (x y : Int32) : Int32 := (x.toUInt32 >>> (y.toUInt32 &&& Int32.toUInt32 31)).toInt32
abbrev lcp (x y : Int64) : Int32 := lg_cmp x y
def irm (x y : Int32) : Int32 := x - x / y * y
theorem e_iushr {x y : Int32} (h : DC mt pc .iushr 1 p2) (nx : EVG mt R Z k n p2 ls (.int (ushr x y) :: st) M) : EVG mt R Z k n pc ls (.int y :: .int x :: st) M := by
  intro X p l e s m args below meth c H locs A hC hR hS hl
  obtain ⟨h, rfl⟩ := h
  exact lv_iushr hC.1 hC.2.1 h rfl (nx X p l e s m args below meth c H locs A hC hR hS hl)
theorem e_lshl {x : Int64} {y : Int32} (h : DC mt pc .lshl 1 p2) (nx : EVG mt R Z k n p2 ls (.long (lsh x y) :: st) M) : EVG mt R Z k n pc ls (.int y :: .long x :: st) M := by
  intro X p l e s m args below meth c H locs A hC hR hS hl
  obtain ⟨h, rfl⟩ := h
  exact lv_lshl hC.1 hC.2.1 h rfl (nx X p l e s m args below meth c H locs A hC hR hS hl)
theorem e_ineg {x : Int32} (h : DC mt pc .ineg 1 p2) (nx : EVG mt R Z k n p2 ls (.int (-x) :: st) M) : EVG mt R Z k n pc ls (.int x :: st) M := by
  intro X p l e s m args below meth c H locs A hC hR hS hl
  obtain ⟨h, rfl⟩ := h
  exact lv_ineg hC.1 hC.2.1 h (nx X p l e s m args below meth c H locs A hC hR hS hl)
theorem e_idiv {x y : Int32} (h : DC mt pc .idiv 1 p2) (hy : ¬ y = 0) (nx : EVG mt R Z k n p2 ls (.int (x / y) :: st) M) : EVG mt R Z k n pc ls (.int y :: .int x :: st) M := by
  intro X p l e s m args below meth c H locs A hC hR hS hl
  obtain ⟨h, rfl⟩ := h
  exact lv_idiv hC.1 hC.2.1 h hy (nx X p l e s m args below meth c H locs A hC hR hS hl)
theorem e_irem {x y : Int32} (h : DC mt pc .irem 1 p2) (hy : ¬ y = 0) (nx : EVG mt R Z k n p2 ls (.int (irm x y) :: st) M) : EVG mt R Z k n pc ls (.int y :: .int x :: st) M := by
  intro X p l e s m args below meth c H locs A hC hR hS hl
  obtain ⟨h, rfl⟩ := h
  exact lv_irem hC.1 hC.2.1 h hy (nx X p l e s m args below meth c H locs A hC hR hS hl)
theorem e_i2l {x : Int32} (h : DC mt pc .i2l 1 p2) (nx : EVG mt R Z k n p2 ls (.long x.toInt64 :: st) M) : EVG mt R Z k n pc ls (.int x :: st) M := by
  intro X p l e s m args below meth c H locs A hC hR hS hl
  obtain ⟨h, rfl⟩ := h
  exact lv_i2l hC.1 hC.2.1 h rfl (nx X p l e s m args below meth c H locs A hC hR hS hl)
theorem e_l2i {x : Int64} (h : DC mt pc .l2i 1 p2) (nx : EVG mt R Z k n p2 ls (.int x.toInt32 :: st) M) : EVG mt R Z k n pc ls (.long x :: st) M := by
  intro X p l e s m args below meth c H locs A hC hR hS hl
  obtain ⟨h, rfl⟩ := h
  exact lv_l2i hC.1 hC.2.1 h rfl (nx X p l e s m args below meth c H locs A hC hR hS hl)
theorem e_i2b {x : Int32} (h : DC mt pc .i2b 1 p2) (nx : EVG mt R Z k n p2 ls (.int x.toInt8.toInt32 :: st) M) : EVG mt R Z k n pc ls (.int x :: st) M := by
  intro X p l e s m args below meth c H locs A hC hR hS hl
  obtain ⟨h, rfl⟩ := h
  exact lv_i2b hC.1 hC.2.1 h rfl (nx X p l e s m args below meth c H locs A hC hR hS hl)
theorem e_i2c {x : Int32} (h : DC mt pc .i2c 1 p2) (nx : EVG mt R Z k n p2 ls (.int (x.toUInt32 % 65536).toInt32 :: st) M) : EVG mt R Z k n pc ls (.int x :: st) M := by
  intro X p l e s m args below meth c H locs A hC hR hS hl
  obtain ⟨h, rfl⟩ := h
  exact lv_i2c hC.1 hC.2.1 h rfl (nx X p l e s m args below meth c H locs A hC hR hS hl)
theorem e_lcmp {x y : Int64} (h : DC mt pc .lcmp 1 p2) (nx : EVG mt R Z k n p2 ls (.int (lcp x y) :: st) M) : EVG mt R Z k n pc ls (.long y :: .long x :: st) M := by
  intro X p l e s m args below meth c H locs A hC hR hS hl
  obtain ⟨h, rfl⟩ := h
  exact W.lcmp hC.1 hC.2.1 h (nx X p l e s m args below meth c H locs A hC hR hS hl)
theorem e_dup {v : Value} (h : DC mt pc .dup 1 p2) (hv : v.category = 1) (nx : EVG mt R Z k n p2 ls (v :: v :: st) M) : EVG mt R Z k n pc ls (v :: st) M := by
  intro X p l e s m args below meth c H locs A hC hR hS hl
  obtain ⟨h, rfl⟩ := h
  exact lv_dup hC.1 hC.2.1 h (by rw [shV_cat]; exact hv) (nx X p l e s m args below meth c H locs A hC hR hS hl)
theorem e_pop {v : Value} (h : DC mt pc .pop 1 p2) (hv : v.category = 1) (nx : EVG mt R Z k n p2 ls (st) M) : EVG mt R Z k n pc ls (v :: st) M := by
  intro X p l e s m args below meth c H locs A hC hR hS hl
  obtain ⟨h, rfl⟩ := h
  exact lv_pop hC.1 hC.2.1 h (by rw [shV_cat]; exact hv) (nx X p l e s m args below meth c H locs A hC hR hS hl)
theorem e_dup2 {v w : Value} (h : DC mt pc .dup2 1 p2) (hv : v.category = 1) (hw : w.category = 1) (nx : EVG mt R Z k n p2 ls (v :: w :: v :: w :: st) M) : EVG mt R Z k n pc ls (v :: w :: st) M := by
  intro X p l e s m args below meth c H locs A hC hR hS hl
  obtain ⟨h, rfl⟩ := h
  exact lv_dup2_11 hC.1 hC.2.1 h (by rw [shV_cat]; exact hv) (by rw [shV_cat]; exact hw) (nx X p l e s m args below meth c H locs A hC hR hS hl)
theorem e_if_eq {x : Int32} {off : Int} (tgt : Nat) (h : DC mt pc (.ifCond .eq off) 3 p2) (ht : (pc : Int) + off = (tgt : Int)) (n1 : x = 0 → EVG mt R Z k n tgt ls st M) (n2 : ¬ (x = 0) → EVG mt R Z k n p2 ls st M) : EVG mt R Z k n pc ls (.int x :: st) M := by
  intro X p l e s m args below meth c H locs A hC hR hS hl
  obtain ⟨h, rfl⟩ := h
  exact lv_if_eq hC.1 hC.2.1 h ht (fun q => n1 q X p l e s m args below meth c H locs A hC hR hS hl) (fun q => n2 q X p l e s m args below meth c H locs A hC hR hS hl)
theorem e_ic_eq {x y : Int32} {off : Int} (tgt : Nat) (h : DC mt pc (.if_icmp .eq off) 3 p2) (ht : (pc : Int) + off = (tgt : Int)) (n1 : x = y → EVG mt R Z k n tgt ls st M) (n2 : ¬ (x = y) → EVG mt R Z k n p2 ls st M) : EVG mt R Z k n pc ls (.int y :: .int x :: st) M := by
  intro X p l e s m args below meth c H locs A hC hR hS hl
  obtain ⟨h, rfl⟩ := h
  exact lv_icmp_eq hC.1 hC.2.1 h ht (fun q => n1 q X p l e s m args below meth c H locs A hC hR hS hl) (fun q => n2 q X p l e s m args below meth c H locs A hC hR hS hl)
theorem e_if_ne {x : Int32} {off : Int} (tgt : Nat) (h : DC mt pc (.ifCond .ne off) 3 p2) (ht : (pc : Int) + off = (tgt : Int)) (n1 : ¬ x = 0 → EVG mt R Z k n tgt ls st M) (n2 : x = 0 → EVG mt R Z k n p2 ls st M) : EVG mt R Z k n pc ls (.int x :: st) M := by
  intro X p l e s m args below meth c H locs A hC hR hS hl
  obtain ⟨h, rfl⟩ := h
  exact lv_if_ne hC.1 hC.2.1 h ht (fun q => n1 q X p l e s m args below meth c H locs A hC hR hS hl) (fun q => n2 q X p l e s m args below meth c H locs A hC hR hS hl)
theorem e_ic_ne {x y : Int32} {off : Int} (tgt : Nat) (h : DC mt pc (.if_icmp .ne off) 3 p2) (ht : (pc : Int) + off = (tgt : Int)) (n1 : ¬ x = y → EVG mt R Z k n tgt ls st M) (n2 : x = y → EVG mt R Z k n p2 ls st M) : EVG mt R Z k n pc ls (.int y :: .int x :: st) M := by
  intro X p l e s m args below meth c H locs A hC hR hS hl
  obtain ⟨h, rfl⟩ := h
  exact lv_icmp_ne hC.1 hC.2.1 h ht (fun q => n1 q X p l e s m args below meth c H locs A hC hR hS hl) (fun q => n2 q X p l e s m args below meth c H locs A hC hR hS hl)
theorem e_if_lt {x : Int32} {off : Int} (tgt : Nat) (h : DC mt pc (.ifCond .lt off) 3 p2) (ht : (pc : Int) + off = (tgt : Int)) (n1 : x < 0 → EVG mt R Z k n tgt ls st M) (n2 : ¬ (x < 0) → EVG mt R Z k n p2 ls st M) : EVG mt R Z k n pc ls (.int x :: st) M := by
  intro X p l e s m args below meth c H locs A hC hR hS hl
  obtain ⟨h, rfl⟩ := h
  exact lv_if_lt hC.1 hC.2.1 h ht (fun q => n1 q X p l e s m args below meth c H locs A hC hR hS hl) (fun q => n2 q X p l e s m args below meth c H locs A hC hR hS hl)
theorem e_ic_lt {x y : Int32} {off : Int} (tgt : Nat) (h : DC mt pc (.if_icmp .lt off) 3 p2) (ht : (pc : Int) + off = (tgt : Int)) (n1 : x < y → EVG mt R Z k n tgt ls st M) (n2 : ¬ (x < y) → EVG mt R Z k n p2 ls st M) : EVG mt R Z k n pc ls (.int y :: .int x :: st) M := by
  intro X p l e s m args below meth c H locs A hC hR hS hl
  obtain ⟨h, rfl⟩ := h
  exact lv_icmp_lt hC.1 hC.2.1 h ht (fun q => n1 q X p l e s m args below meth c H locs A hC hR hS hl) (fun q => n2 q X p l e s m args below meth c H locs A hC hR hS hl)
theorem e_if_ge {x : Int32} {off : Int} (tgt : Nat) (h : DC mt pc (.ifCond .ge off) 3 p2) (ht : (pc : Int) + off = (tgt : Int)) (n1 : 0 ≤ x → EVG mt R Z k n tgt ls st M) (n2 : ¬ (0 ≤ x) → EVG mt R Z k n p2 ls st M) : EVG mt R Z k n pc ls (.int x :: st) M := by
  intro X p l e s m args below meth c H locs A hC hR hS hl
  obtain ⟨h, rfl⟩ := h
  exact lv_if_ge hC.1 hC.2.1 h ht (fun q => n1 q X p l e s m args below meth c H locs A hC hR hS hl) (fun q => n2 q X p l e s m args below meth c H locs A hC hR hS hl)
theorem e_ic_ge {x y : Int32} {off : Int} (tgt : Nat) (h : DC mt pc (.if_icmp .ge off) 3 p2) (ht : (pc : Int) + off = (tgt : Int)) (n1 : y ≤ x → EVG mt R Z k n tgt ls st M) (n2 : ¬ (y ≤ x) → EVG mt R Z k n p2 ls st M) : EVG mt R Z k n pc ls (.int y :: .int x :: st) M := by
  intro X p l e s m args below meth c H locs A hC hR hS hl
  obtain ⟨h, rfl⟩ := h
  exact lv_icmp_ge hC.1 hC.2.1 h ht (fun q => n1 q X p l e s m args below meth c H locs A hC hR hS hl) (fun q => n2 q X p l e s m args below meth c H locs A hC hR hS hl)
theorem e_if_gt {x : Int32} {off : Int} (tgt : Nat) (h : DC mt pc (.ifCond .gt off) 3 p2) (ht : (pc : Int) + off = (tgt : Int)) (n1 : 0 < x → EVG mt R Z k n tgt ls st M) (n2 : ¬ (0 < x) → EVG mt R Z k n p2 ls st M) : EVG mt R Z k n pc ls (.int x :: st) M := by
  intro X p l e s m args below meth c H locs A hC hR hS hl
  obtain ⟨h, rfl⟩ := h
  exact lv_if_gt hC.1 hC.2.1 h ht (fun q => n1 q X p l e s m args below meth c H locs A hC hR hS hl) (fun q => n2 q X p l e s m args below meth c H locs A hC hR hS hl)
theorem e_ic_gt {x y : Int32} {off : Int} (tgt : Nat) (h : DC mt pc (.if_icmp .gt off) 3 p2) (ht : (pc : Int) + off = (tgt : Int)) (n1 : y < x → EVG mt R Z k n tgt ls st M) (n2 : ¬ (y < x) → EVG mt R Z k n p2 ls st M) : EVG mt R Z k n pc ls (.int y :: .int x :: st) M := by
  intro X p l e s m args below meth c H locs A hC hR hS hl
  obtain ⟨h, rfl⟩ := h
  exact lv_icmp_gt hC.1 hC.2.1 h ht (fun q => n1 q X p l e s m args below meth c H locs A hC hR hS hl) (fun q => n2 q X p l e s m args below meth c H locs A hC hR hS hl)
theorem e_if_le {x : Int32} {off : Int} (tgt : Nat) (h : DC mt pc (.ifCond .le off) 3 p2) (ht : (pc : Int) + off = (tgt : Int)) (n1 : x ≤ 0 → EVG mt R Z k n tgt ls st M) (n2 : ¬ (x ≤ 0) → EVG mt R Z k n p2 ls st M) : EVG mt R Z k n pc ls (.int x :: st) M := by
  intro X p l e s m args below meth c H locs A hC hR hS hl
  obtain ⟨h, rfl⟩ := h
  exact lv_if_le hC.1 hC.2.1 h ht (fun q => n1 q X p l e s m args below meth c H locs A hC hR hS hl) (fun q => n2 q X p l e s m args below meth c H locs A hC hR hS hl)
theorem e_ic_le {x y : Int32} {off : Int} (tgt : Nat) (h : DC mt pc (.if_icmp .le off) 3 p2) (ht : (pc : Int) + off = (tgt : Int)) (n1 : x ≤ y → EVG mt R Z k n tgt ls st M) (n2 : ¬ (x ≤ y) → EVG mt R Z k n p2 ls st M) : EVG mt R Z k n pc ls (.int y :: .int x :: st) M := by
  intro X p l e s m args below meth c H locs A hC hR hS hl
  obtain ⟨h, rfl⟩ := h
  exact lv_icmp_le hC.1 hC.2.1 h ht (fun q => n1 q X p l e s m args below meth c H locs A hC hR hS hl) (fun q => n2 q X p l e s m args below meth c H locs A hC hR hS hl)
theorem e_goto {off : Int} (tgt : Nat) (h : DC mt pc (.goto off) 3 p2) (ht : (pc : Int) + off = (tgt : Int)) (nx : EVG mt R Z k n tgt ls st M) : EVG mt R Z k n pc ls st M := by
  intro X p l e s m args below meth c H locs A hC hR hS hl
  obtain ⟨h, rfl⟩ := h
  exact lv_goto hC.1 hC.2.1 h ht (nx X p l e s m args below meth c H locs A hC hR hS hl)
theorem e_ifnull {x : Nat} {off : Int} (h : DC mt pc (.ifnull off) 3 p2) (nx : EVG mt R Z k n p2 ls st M) : EVG mt R Z k n pc ls (.ref x :: st) M := by
  intro X p l e s m args below meth c H locs A hC hR hS hl
  obtain ⟨h, rfl⟩ := h
  exact lv_ifnull hC.1 hC.2.1 h (nx X p l e s m args below meth c H locs A hC hR hS hl)
theorem e_ifnullN {off : Int} (tgt : Nat) (h : DC mt pc (.ifnull off) 3 p2) (ht : (pc : Int) + off = (tgt : Int)) (nx : EVG mt R Z k n tgt ls st M) : EVG mt R Z k n pc ls (.null :: st) M := by
  intro X p l e s m args below meth c H locs A hC hR hS hl
  obtain ⟨h, rfl⟩ := h
  exact lv_ifnullN hC.1 hC.2.1 h ht (nx X p l e s m args below meth c H locs A hC hR hS hl)
theorem e_ifnonnull {x : Nat} {off : Int} (tgt : Nat) (h : DC mt pc (.ifnonnull off) 3 p2) (ht : (pc : Int) + off = (tgt : Int)) (nx : EVG mt R Z k n tgt ls st M) : EVG mt R Z k n pc ls (.ref x :: st) M := by
  intro X p l e s m args below meth c H locs A hC hR hS hl
  obtain ⟨h, rfl⟩ := h
  exact lv_ifnonnull hC.1 hC.2.1 h ht (nx X p l e s m args below meth c H locs A hC hR hS hl)
theorem e_ifnonnullN {off : Int} (h : DC mt pc (.ifnonnull off) 3 p2) (nx : EVG mt R Z k n p2 ls st M) : EVG mt R Z k n pc ls (.null :: st) M := by
  intro X p l e s m args below meth c H locs A hC hR hS hl
  obtain ⟨h, rfl⟩ := h
  exact lv_ifnonnullN hC.1 hC.2.1 h (nx X p l e s m args below meth c H locs A hC hR hS hl)
theorem e_tabIn {x : Int32} {dflt lo hi off : Int} {offs : Array Int} {len : Nat} (tgt : Nat) (h : DC mt pc (.tableswitch dflt lo hi offs) len p2) (h1 : ¬ x.toInt < lo) (h2 : ¬ hi < x.toInt) (ho : offs[(x.toInt - lo).toNat]? = some off) (ht : (pc : Int) + off = (tgt : Int)) (nx : EVG mt R Z k n tgt ls st M) : EVG mt R Z k n pc ls (.int x :: st) M := by
  intro X p l e s m args below meth c H locs A hC hR hS hl
  obtain ⟨h, rfl⟩ := h
  exact lv_tableIn hC.1 hC.2.1 h h1 h2 ho ht (nx X p l e s m args below meth c H locs A hC hR hS hl)
theorem e_tabOut {x : Int32} {dflt lo hi : Int} {offs : Array Int} {len : Nat} (tgt : Nat) (h : DC mt pc (.tableswitch dflt lo hi offs) len p2) (h1 : x.toInt < lo ∨ hi < x.toInt) (ht : (pc : Int) + dflt = (tgt : Int)) (nx : EVG mt R Z k n tgt ls st M) : EVG mt R Z k n pc ls (.int x :: st) M := by
  intro X p l e s m args below meth c H locs A hC hR hS hl
  obtain ⟨h, rfl⟩ := h
  exact lv_tableOut hC.1 hC.2.1 h h1 ht (nx X p l e s m args below meth c H locs A hC hR hS hl)
theorem e_nameI {x y : Int32} (hy : y = x) (nx : EVG mt R Z k n pc ls (.int y :: st) M) : EVG mt R Z k n pc ls (.int x :: st) M := hy ▸ nx
theorem e_nameJ {x y : Int64} (hy : y = x) (nx : EVG mt R Z k n pc ls (.long y :: st) M) : EVG mt R Z k n pc ls (.long x :: st) M := hy ▸ nx
theorem e_astoreO {i : Nat} {r : Option Nat} {l2 : Lv} (h : DC mt pc (.astore i) 2 p2) (hs : ls.set i (some (vr r)) = l2) (hn : i < mt.2.2.1) (hp : okP ls i = true) (nx : EVG mt R Z k n p2 l2 st M) : EVG mt R Z k n pc ls (vr r :: st) M := by
  cases r with
  | none => exact e_astoreN h hs hn hp nx
  | some a => exact e_astore h hs hn hp nx
theorem e_astore_nO {i : Fin 4} {r : Option Nat} {l2 : Lv} (h : DC mt pc (.astore_n i) 1 p2) (hs : ls.set i (some (vr r)) = l2) (hn : (i : Nat) < mt.2.2.1) (hp : okP ls i = true) (nx : EVG mt R Z k n p2 l2 st M) : EVG mt R Z k n pc ls (vr r :: st) M := by
  cases r with
  | none => exact e_astore_nN h hs hn hp nx
  | some a => exact e_astore_n h hs hn hp nx
theorem e_aloadO {i : Nat} {r : Option Nat} (h : DC mt pc (.aload i) 2 p2) (hi : ls[i]? = some (some (vr r))) (nx : EVG mt R Z k n p2 ls (vr r :: st) M) : EVG mt R Z k n pc ls st M := by
  cases r with
  | none => exact e_aloadN h hi nx
  | some a => exact e_aload h hi nx
theorem e_aload_nO {i : Fin 4} {r : Option Nat} (h : DC mt pc (.aload_n i) 1 p2) (hi : ls[(i : Nat)]? = some (some (vr r))) (nx : EVG mt R Z k n p2 ls (vr r :: st) M) : EVG mt R Z k n pc ls st M := by
  cases r with
  | none => exact e_aload_nN h hi nx
  | some a => exact e_aload_n h hi nx
theorem tab_out {x : Int32} (lo : Int) (N : Nat) (h1 : -2147483648 ≤ lo) (h2 : lo + N ≤ 2147483648) (hne : ∀ j : Nat, j < N → ¬ x = Int32.ofInt (lo + j)) : x.toInt < lo ∨ lo + N - 1 < x.toInt := by
  by_cases h : x.toInt < lo ∨ lo + N - 1 < x.toInt
  · exact h
  · exfalso
    have a1 : lo ≤ x.toInt := by omega
    have a2 : x.toInt ≤ lo + N - 1 := by omega
    refine hne (x.toInt - lo).toNat (by omega) ?_
    rw [show lo + ((x.toInt - lo).toNat : Int) = x.toInt by omega, Int32.ofInt_toInt]
theorem e_tabEq {x v : Int32} {dflt lo hi off : Int} {offs : Array Int} {len : Nat} (tgt : Nat) (h : DC mt pc (.tableswitch dflt lo hi offs) len p2) (hx : x = v) (h1 : ¬ v.toInt < lo) (h2 : ¬ hi < v.toInt) (ho : offs[(v.toInt - lo).toNat]? = some off) (ht : (pc : Int) + off = (tgt : Int)) (nx : EVG mt R Z k n tgt ls st M) : EVG mt R Z k n pc ls (.int x :: st) M := by
  subst hx; exact e_tabIn tgt h h1 h2 ho ht nx
end RULES
