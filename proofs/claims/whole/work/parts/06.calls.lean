/-! ===== entry, calls, returns ===== -/
def rm (d mc ms : Nat) : Room := { frames := d, cells := mc, slots := ms, locals := 64 * d }
theorem gT_good : ∀ w ∈ gT, (w.onTables && w.keeps) = true ∨ ∃ ty, w = .arrayClass ty := fun w h => good_of_word (List.mem_filter.mp h).2
theorem wsM_good {mt : MT} (h : Cond.code mt.1 mt.2.1 mt.2.2.1 mt.2.2.2 ∈ gT) : GoodIn gT (wsM mt) := by
  intro w hw
  rcases List.mem_cons.mp hw with rfl | hw
  · exact ⟨h, gT_good _ h⟩
  · exact ⟨hw, gT_good _ hw⟩
theorem PreM_blind (x : QX) (args : List Value) (M : MM) : FrameBlind (PreM x args M) := by
  intro a U g mk h
  obtain ⟨h1, h2, h3, h4⟩ := h
  exact ⟨h1, h2, KC.same (s := U) (U := U.calling g mk a) rfl h3, SC.moved (s := U) (U := U.calling g mk a) (Vm.Alike.refl U.vm) h4⟩
theorem lg_len (x : QX) : ∀ args : List Value, (lg_sl (args.map (shV x))).length = (lg_sl args).length
  | [] => rfl
  | v :: r => by
    have ih := lg_len x r
    unfold lg_sl at ih ⊢
    rw [List.map_cons, List.flatMap_cons, List.flatMap_cons, List.length_append, List.length_append, ih, shV_cat]
    by_cases h : v.category = 2
    · rw [if_pos h, if_pos h]; rfl
    · rw [if_neg h, if_neg h]; rfl
theorem CT.of {mt : MT} {R : Room} {args : List Value} {M : MM} {res : Option Value} {M' : MM} {ls : Lv} (hy : plainName mt.1.cls = true) (ha : (lg_sl args).length ≤ mt.2.2.1) (hls : lv0 args mt.2.2.1 = ls)
    (h : EV mt R res M' 0 0 0 ls [] M) : CT mt R args M res M' := by
  intro l x
  refine Met.ofW (cc := mt.2.1) (maxL := mt.2.2.1) (ret := mt.2.2.2) hy rfl ?_
  intro p e s m args0 below meth c s₁ B hml hv
  obtain ⟨rfl, hR, hK, hSC⟩ := hv
  have hts := atoms_spec (ws := wsM mt) B.pre
  rw [lg_entry_eq]
  refine h x p l e s m _ below meth c s.heap [] _ ⟨B.exec, B.bytes, B.returns, hml, findClass_of_methodNamed B.named, fun w hw => hts w (List.mem_cons_of_mem _ hw), hK, hSC, B.notSynchronized, fun h9 => (name_of_methodNamed B.named B.method).1.trans h9, by rw [hR.1]; exact Nat.le_add_right _ _⟩ hR va_S.rf ?_
  have h1 := lv_entry (args.map (shV x)) (by rw [lg_len]; exact ha)
  subst hls
  unfold lvo lv0
  rw [prs_app, prs_none, List.append_nil, prs_args]
  exact h1
/-- what the tables say of a method -/
def MI (mt : MT) (np : Nat) : Prop := Cond.code mt.1 mt.2.1 mt.2.2.1 mt.2.2.2 ∈ gT ∧ Cond.initialized mt.1.cls ∈ gT ∧ (mt.1.cls ≠ "java/lang/invoke/MethodHandle" ∧ mt.1.cls ≠ "java/lang/invoke/VarHandle" ∧ (parseMethodDescriptor mt.1.desc).map (fun d => d.parameters.length) = some np)
def MV (mt : MT) (np : Nat) : Prop := MI mt np ∧ Cond.instanceMethod mt.1 ∈ gT ∧ Cond.selects mt.1.cls mt.1 mt.1 ∈ gT
def MS (mt : MT) (np : Nat) : Prop := MI mt np ∧ Cond.static mt.1 ∈ gT
def MN (mt : MT) (np : Nat) : Prop := MI mt np ∧ Cond.instanceMethod mt.1 ∈ gT ∧ mt.1.name = "<init>" ∧ mt.2.2.2 = none
section CALLS
variable {mt : MT} {R : Room} {Z : ZT} {k n pc p2 : Nat} {ls : Lv} {st st0 : List Value} {M : MM}
theorem run_go {X : QX} {p : Program} {l : Launch} {e : Env} {s : State} {m : MethodId} {args : Array Value} {below : List Frame} {meth : Method} {c : Code} {H : Heap} {locs : List Loc} {A : Array Slot} {mc ms : Nat} {res1 : Option Value} {M1 : MM} {a : Array Value}
    (hr : va_Run p l e R s m args below meth c H locs k n mc ms (F0 m pc A (st0.map (shV X))) (st.map (shV X)) (QR X res1 M1 a) (qA X))
    (hC : CX X mt p s m args meth c) (hS : va_S (qA X) s.heap H locs) (hl : lvo X A mt.2.2.1 ls)
    (nx : EVG mt R Z (k + mc) (n + ms) (pc + 3) ls (res1.toList ++ st) M1) :
    W p l e R s m args below meth c H locs k n (Z X s args below) (F0 m pc A (st0.map (shV X))) := by
  intro T hT Xs
  obtain ⟨v, st₀, t, T', L, h0, X', hL, e1, e2, ⟨hv, hR1, hz, hk⟩, stp⟩ := hr T hT Xs
  have hv2 : v = res1.map (shV X) := Outcome.returned.inj hv
  subst hv2
  rw [h0] at hz hk
  obtain ⟨t2, a1, b1⟩ := nx X p l e s m args below meth c T'.heap (locs ++ L) A hC (by rw [e1]; exact hR1)
    ⟨Nat.le_trans hS.1 (by rw [e1]; exact hz), fun q h1 h2 => by rw [e1, hk q (Nat.lt_of_lt_of_le h1 hS.1) h2]; exact hS.2.1 q h1 h2, fun q hq => by
      rcases List.mem_append.mp hq with h | h
      · exact hS.2.2 q h
      · exact hL q h⟩ hl T' rfl X'
  refine ⟨t2, stp t2 ?_, b1⟩
  have hst : (res1.map (shV X)).toList ++ st.map (shV X) = (res1.toList ++ st).map (shV X) := by cases res1 <;> simp
  rw [hst]
  exact a1
theorem pre_at {X : QX} {p : Program} {s : State} {m : MethodId} {args : Array Value} {meth : Method} {c : Code} {H : Heap} {locs : List Loc} {as : List Value} (hC : CX X mt p s m args meth c) (hR : Rp X M H) (hS : va_S (qA X) s.heap H locs) : ∀ U : State, U.heap = H → s.WarmedH U.vm → PreM X as M (as.map (shV X)).toArray U := by
  intro U hU hW
  refine ⟨rfl, by rw [hU]; exact hR, KC.warm hW hC.2.2.2.2.2.2.1, ?_⟩
  rw [hU]
  exact SC.moved hW.alike (SC.kept hC.2.2.2.2.2.2.2.1 hS.2.1)
theorem cat_sum (B : QX) (st : List Value) : ((st.map (shV B)).map fun v => v.category) = st.map fun v => v.category := by
  rw [List.map_map]; apply List.map_congr_left; intro v _; exact shV_cat B v
theorem e_callV {mt1 : MT} {R1 : Room} {As : List Value} {b ci ix np : Nat} {res1 : Option Value} {M1 : MM} (h : DC mt pc (.invokevirtual ix) 3 p2) (hlk : Cond.methodLink mt.1.cls ix mt1.1 ∈ gT) (hm : MV mt1 np) (hc : CT mt1 R1 (.ref b :: As) M res1 M1)
    (hst : As.reverse ++ .ref b :: st = st0) (hnp : As.length = np) (hb : (M.1.2.1 b).1 = ci) (hci : (classes[ci]?).map (fun q => q.1) = some mt1.1.cls) (hcat : (st.map fun v => v.category).sum ≤ 8) (hf : R1.frames + 1 ≤ R.frames) (hlo : 8 + (mt1.2.2.1 + 11) + R1.locals ≤ R.locals) (hk : k + R1.cells ≤ R.cells) (hn : n + R1.slots ≤ R.slots)
    (nx : EVG mt R Z (k + R1.cells) (n + R1.slots) p2 ls (res1.toList ++ st) M1) : EVG mt R Z k n pc ls st0 M := by
  intro X p l e s m args below meth c H locs A hC hR hS hl
  obtain ⟨h, rfl⟩ := h
  subst hst
  have hts := hC.2.2.2.2.2.1
  obtain ⟨⟨hcode, hini, hd⟩, hin, hse⟩ := hm
  cases hq : classes[ci]? with
  | none => rw [hq] at hci; cases hci
  | some q =>
    rw [hq] at hci
    have hq1 : q.1 = mt1.1.cls := Option.some.inj hci
    have h13 : ci < 13 := (List.getElem?_eq_some_iff.mp hq).1
    have he := ws_get (x := X) (hR.lt (a := b) (by omega))
    rw [qent_obj hb h13] at he
    have hrv := va_recv hC.2.2.2.2.2.2.1.1 hR.2.1 hq he
    rw [hq1] at hrv
    have hsh : ((As.reverse ++ Value.ref b :: st).map (shV X)) = (As.map (shV X)).reverse ++ Value.ref (X.2.2.1 + pl b) :: st.map (shV X) := by
      rw [List.map_append, List.map_reverse]; rfl
    exact run_go (st := st) (st0 := As.reverse ++ Value.ref b :: st) (
      va_runV (Ts := gT) (own := mt.1.cls) (C := mt1.1.cls) (nL := mt.2.2.1) (n := np) (b := X.2.2.1 + pl b) (As := As.map (shV X)) (cc := mt.2.1) ⟨hC.1, hC.2.1, hC.2.2.2.1, hC.2.2.2.2.1, hts⟩ (hc l X)
      ⟨callB_of np hts (wsM_good hcode) rfl rfl rfl (hts _ hini) (hts _ hlk) hd ⟨hf, hlo⟩, hts _ hin, hts _ hse⟩
      ⟨PreM_blind _ _ _, hrv, pre_at (as := .ref b :: As) hC hR hS⟩ rfl (by rw [List.length_map]; exact hnp) hl.1 hsh (by show 2 * 0 + _ ≤ 8; rw [cat_sum]; omega) h ⟨hk, hn⟩) hC hS hl nx
theorem e_callS {mt1 : MT} {R1 : Room} {As : List Value} {ix np : Nat} {res1 : Option Value} {M1 : MM} (h : DC mt pc (.invokestatic ix) 3 p2) (hlk : Cond.methodLink mt.1.cls ix mt1.1 ∈ gT) (hm : MS mt1 np) (hc : CT mt1 R1 As M res1 M1)
    (hst : As.reverse ++ st = st0) (hnp : As.length = np) (hcat : (st.map fun v => v.category).sum ≤ 8) (hf : R1.frames + 1 ≤ R.frames) (hlo : 8 + (mt1.2.2.1 + 11) + R1.locals ≤ R.locals) (hk : k + R1.cells ≤ R.cells) (hn : n + R1.slots ≤ R.slots)
    (nx : EVG mt R Z (k + R1.cells) (n + R1.slots) p2 ls (res1.toList ++ st) M1) : EVG mt R Z k n pc ls st0 M := by
  intro X p l e s m args below meth c H locs A hC hR hS hl
  obtain ⟨h, rfl⟩ := h
  subst hst
  have hts := hC.2.2.2.2.2.1
  obtain ⟨⟨hcode, hini, hd⟩, hsta⟩ := hm
  have hsh : ((As.reverse ++ st).map (shV X)) = (As.map (shV X)).reverse ++ st.map (shV X) := by
    rw [List.map_append, List.map_reverse]
  exact run_go (st := st) (st0 := As.reverse ++ st) (
    va_runS (Ts := gT) (own := mt.1.cls) (nL := mt.2.2.1) (n := np) (As := As.map (shV X)) (cc := mt.2.1) ⟨hC.1, hC.2.1, hC.2.2.2.1, hC.2.2.2.2.1, hts⟩ (hc l X)
    ⟨callB_of np hts (wsM_good hcode) rfl rfl rfl (hts _ hini) (hts _ hlk) hd ⟨hf, hlo⟩, hts _ hsta⟩
    ⟨PreM_blind _ _ _, pre_at (as := As) hC hR hS⟩ rfl (by rw [List.length_map]; exact hnp) hl.1 hsh (by show 2 * 0 + _ ≤ 8; rw [cat_sum]; omega) h ⟨hk, hn⟩) hC hS hl nx
theorem e_callI {mt1 : MT} {R1 : Room} {As : List Value} {b ix np : Nat} {M1 : MM} (h : DC mt pc (.invokespecial ix) 3 p2) (hlk : Cond.methodLink mt.1.cls ix mt1.1 ∈ gT) (hm : MN mt1 np) (hc : CT mt1 R1 (.ref b :: As) M none M1)
    (hst : As.reverse ++ .ref b :: st = st0) (hnp : As.length = np) (hcat : (st.map fun v => v.category).sum ≤ 8) (hf : R1.frames + 1 ≤ R.frames) (hlo : 8 + (mt1.2.2.1 + 11) + R1.locals ≤ R.locals) (hk : k + R1.cells ≤ R.cells) (hn : n + R1.slots ≤ R.slots)
    (nx : EVG mt R Z (k + R1.cells) (n + R1.slots) p2 ls st M1) : EVG mt R Z k n pc ls st0 M := by
  intro X p l e s m args below meth c H locs A hC hR hS hl
  obtain ⟨h, rfl⟩ := h
  subst hst
  have hts := hC.2.2.2.2.2.1
  obtain ⟨⟨hcode, hini, hd⟩, hin, hnm, hret⟩ := hm
  have hsh : ((As.reverse ++ Value.ref b :: st).map (shV X)) = (As.map (shV X)).reverse ++ Value.ref (X.2.2.1 + pl b) :: st.map (shV X) := by
    rw [List.map_append, List.map_reverse]; rfl
  exact run_go (st := st) (st0 := As.reverse ++ Value.ref b :: st) (res1 := none) (
    va_runI (Ts := gT) (own := mt.1.cls) (nL := mt.2.2.1) (n := np) (b := X.2.2.1 + pl b) (As := As.map (shV X)) (cc := mt.2.1) ⟨hC.1, hC.2.1, hC.2.2.2.1, hC.2.2.2.2.1, hts⟩ (hc l X)
    ⟨callB_of np hts (by have := wsM_good hcode; exact this) (by unfold wsM; rw [hret]) rfl rfl (hts _ hini) (hts _ hlk) hd ⟨hf, hlo⟩, hnm, hts _ hin⟩
    ⟨PreM_blind _ _ _, pre_at (as := .ref b :: As) hC hR hS⟩ rfl (by rw [List.length_map]; exact hnp) hl.1 hsh (by show 2 * 0 + _ ≤ 8; rw [cat_sum]; omega) h ⟨hk, hn⟩) hC hS hl nx
theorem e_callIN {mt1 : MT} {R1 : Room} {As : List Value} {b ix np : Nat} {M1 : MM} {host : String} (h : DC mt pc (.invokespecial ix) 3 p2) (hlk : Cond.methodLinkNest mt.1.cls ix mt1.1 host ∈ nestL) (hm : MN mt1 np) (hc : CT mt1 R1 (.ref b :: As) M none M1)
    (hst : As.reverse ++ .ref b :: st = st0) (hnp : As.length = np) (hcat : (st.map fun v => v.category).sum ≤ 8) (hf : R1.frames + 1 ≤ R.frames) (hlo : 8 + (mt1.2.2.1 + 11) + R1.locals ≤ R.locals) (hk : k + R1.cells ≤ R.cells) (hn : n + R1.slots ≤ R.slots)
    (nx : EVG mt R Z (k + R1.cells) (n + R1.slots) p2 ls st M1) : EVG mt R Z k n pc ls st0 M := by
  intro X p l e s m args below meth c H locs A hC hR hS hl
  obtain ⟨h, rfl⟩ := h
  subst hst
  have hts := hC.2.2.2.2.2.1
  obtain ⟨⟨hcode, hini, hd⟩, hin, hnm, hret⟩ := hm
  have hsh : ((As.reverse ++ Value.ref b :: st).map (shV X)) = (As.map (shV X)).reverse ++ Value.ref (X.2.2.1 + pl b) :: st.map (shV X) := by
    rw [List.map_append, List.map_reverse]; rfl
  exact run_go (st := st) (st0 := As.reverse ++ Value.ref b :: st) (res1 := none) (
    va_runIN (Ts := gT) (own := mt.1.cls) (host := host) (nL := mt.2.2.1) (n := np) (b := X.2.2.1 + pl b) (As := As.map (shV X)) (cc := mt.2.1) ⟨hC.1, hC.2.1, hC.2.2.2.1, hC.2.2.2.2.1, hts⟩ (hc l X)
    ⟨va_cnB np hts (by have := wsM_good hcode; exact this) (by unfold wsM; rw [hret]) rfl rfl (hC.2.2.2.2.2.2.1.2.1 _ hlk) (hts _ hini) hd ⟨hf, hlo⟩, hnm, hts _ hin⟩
    ⟨PreM_blind _ _ _, pre_at (as := .ref b :: As) hC hR hS⟩ rfl (by rw [List.length_map]; exact hnp) hl.1 hsh (by show 2 * 0 + _ ≤ 8; rw [cat_sum]; omega) h ⟨hk, hn⟩) hC hS hl nx
/-- Object's own constructor -/
theorem e_objInit {b ix : Nat} (h : DC mt pc (.invokespecial ix) 3 p2) (hlk : Cond.methodLink mt.1.cls ix objectInit ∈ gT) (hin : Cond.instanceMethod objectInit ∈ gT) (hcode : Cond.code objectInit ⟨#[0xb1]⟩ 1 none ∈ gT) (hcat : (st.map fun v => v.category).sum ≤ 8) (hf : 1 ≤ R.frames) (hlo : 20 ≤ R.locals)
    (nx : EVG mt R Z k n p2 ls st M) : EVG mt R Z k n pc ls (.ref b :: st) M := by
  intro X p l e s m args below meth c H locs A hC hR hS hl
  obtain ⟨h, rfl⟩ := h
  have hts := hC.2.2.2.2.2.1
  refine W.objInit hC.1 hC.2.1 hC.2.2.2.2.1 (hts _ hlk) (hts _ hin) (hts _ hcode) rfl (hl.1.trans hC.2.2.2.1.symm) (rest := st.map (shV X)) rfl h hf ?_ (nx X p l e s m args below meth c H locs A hC hR hS hl)
  show 2 * 0 + _ + 12 ≤ _
  rw [cat_sum]
  omega
theorem e_iret {v : Int32} (h : DC mt pc .ireturn 1 p2) (hr : mt.2.2.2 = some .int) (hk : k ≤ R.cells) (hn : n ≤ R.slots) : EV mt R (some (.int v)) M k n pc ls [.int v] M := by
  intro X p l e s m args below meth c H locs A hC hR hS hl
  obtain ⟨h, rfl⟩ := h
  refine W.widen hk hn ?_
  exact W.iret hC.1 hC.2.1 (by rw [hC.2.2.1]; exact hr) (fun t ht hW => ⟨rfl, by rw [ht]; exact hR, hS.F ht⟩) hS.2.2 h hC.2.2.2.2.2.2.2.2.1
theorem e_zret {v : Int32} {ty : FieldType} (h : DC mt pc .ireturn 1 p2) (hr : mt.2.2.2 = some ty) (hnr : narrow ty (.int v) = .int v) (hk : k ≤ R.cells) (hn : n ≤ R.slots) : EV mt R (some (.int v)) M k n pc ls [.int v] M := by
  intro X p l e s m args below meth c H locs A hC hR hS hl
  obtain ⟨h, rfl⟩ := h
  refine W.widen hk hn ?_
  exact W.zret hC.1 hC.2.1 (by rw [hC.2.2.1]; exact hr) hnr (fun t ht hW => ⟨rfl, by rw [ht]; exact hR, hS.F ht⟩) hS.2.2 h hC.2.2.2.2.2.2.2.2.1
theorem e_lret {v : Int64} (h : DC mt pc .lreturn 1 p2) (hr : mt.2.2.2 = some .long) (hk : k ≤ R.cells) (hn : n ≤ R.slots) : EV mt R (some (.long v)) M k n pc ls [.long v] M := by
  intro X p l e s m args below meth c H locs A hC hR hS hl
  obtain ⟨h, rfl⟩ := h
  refine W.widen hk hn ?_
  exact W.lret hC.1 hC.2.1 (by rw [hC.2.2.1]; exact hr) (fun t ht hW => ⟨rfl, by rw [ht]; exact hR, hS.F ht⟩) hS.2.2 h hC.2.2.2.2.2.2.2.2.1
theorem e_vret (h : DC mt pc .return_ 1 p2) (hr : mt.2.2.2 = none) (hk : k ≤ R.cells) (hn : n ≤ R.slots) : EV mt R none M k n pc ls [] M := by
  intro X p l e s m args below meth c H locs A hC hR hS hl
  obtain ⟨h, rfl⟩ := h
  refine W.widen hk hn ?_
  exact W.vret hC.1 hC.2.1 (by rw [hC.2.2.1]; exact hr) (fun t ht hW => ⟨rfl, by rw [ht]; exact hR, hS.F ht⟩) hS.2.2 h hC.2.2.2.2.2.2.2.2.1
theorem e_aret {r : Option Nat} {ty : FieldType} (h : DC mt pc .areturn 1 p2) (hr : mt.2.2.2 = some ty) (hrt : (∃ n, ty = .object n) ∨ ∃ t, ty = .array t) (hk : k ≤ R.cells) (hn : n ≤ R.slots) : EV mt R (some (vr r)) M k n pc ls [vr r] M := by
  intro X p l e s m args below meth c H locs A hC hR hS hl
  obtain ⟨h, rfl⟩ := h
  refine W.widen hk hn ?_
  exact W.aret (v := shV X (vr r)) hC.1 hC.2.1 (by rw [hC.2.2.1]; exact hr) hrt (by cases r; exact Or.inl rfl; exact Or.inr ⟨_, rfl⟩) (fun t ht hW => ⟨rfl, by rw [ht]; exact hR, hS.F ht⟩) hS.2.2 h hC.2.2.2.2.2.2.2.2.1
end CALLS
