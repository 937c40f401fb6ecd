/-! ===== rules for constructors ===== -/
def okT (t : FieldType) : Bool := match t with
  | .int => true | .boolean => true | .byte => true | .long => true | .object _ => true | .array _ => true | _ => false
theorem dfl {t : FieldType} (h : okT t = true) (B : Nat) (M9 : MM) (a j : Nat) (h1 : M9.2.1 a j = 0) (h2 : M9.2.2 a j = 0) (h3 : M9.1.2.2 a j = none) : defaultValue t = qfv B M9 a j t := by
  cases t <;> first | (simp [okT] at h; done) | (simp [qfv, defaultValue, h1, h2, h3, shO, va_rf])
/-- new T[N][K] -/
def nwG (N K : Nat) (M : MM) : MM := ((M.1.1 + 1 + N, fun b => if pl b = M.1.1 then (106, N) else if M.1.1 < pl b ∧ pl b < M.1.1 + 1 + N then (100, K) else M.1.2.1 b, fun b => if pl b = M.1.1 then (fun j => if j < N then some (rho (M.1.1 + 1 + j)) else none) else if M.1.1 < pl b ∧ pl b < M.1.1 + 1 + N then (fun _ => none) else M.1.2.2 b), fun b => if M.1.1 ≤ pl b ∧ pl b < M.1.1 + 1 + N then (fun _ => 0) else M.2.1 b, fun b => if M.1.1 ≤ pl b ∧ pl b < M.1.1 + 1 + N then (fun _ => 0) else M.2.2 b)
theorem q_outer (c : ClassId) (N h0 : Nat) : ∀ i : Nat, Jvm.Free.Multi.outerC c N h0 i = arrV c N (fun j => va_rf (if j < i then some (h0 + 1 + j) else none))
  | 0 => by
    show ({ cls := c, slots := Array.replicate N .null, vm := .none } : Cell) = _
    rw [arrV_new]
    refine congrArg (arrV c N) (funext fun j => ?_)
    simp [va_rf]
  | i + 1 => by
    show (Jvm.Free.Multi.outerC c N h0 i).setSlot i (.ref (h0 + 1 + i)) = _
    rw [q_outer c N h0 i, arrV_store]
    refine congrArg (arrV c N) (funext fun j => ?_)
    by_cases e : j = i
    · subst e
      simp [updV, va_rf]
    · by_cases h : j < i
      · simp [updV, e, h, Nat.lt_succ_of_lt h]
      · simp [updV, e, h, show ¬ j < i + 1 by omega]
section CRULES
variable {mt : MT} {R : Room} {Z : ZT} {k n pc p2 k2 n2 : Nat} {ls : Lv} {st : List Value} {M : MM}
theorem e_mna {N K ix : Nat} {a b : Int32} (h : DC mt pc (.multianewarray ix 2) 4 p2) (hl9 : Cond.classLink mt.1.cls ix "[[I" ∈ gT) (ho9 : Cond.arrayOver (.array .int) ∈ nestL) (ha9 : Cond.arrayClass .int ∈ gT) (hn : ¬ a < 0) (hk : ¬ b < 0) (hN : a.toNatClampNeg = N) (hK : b.toNatClampNeg = K) (hb1 : N ≤ 1000) (hb2 : K ≤ 1000)
    (hcells : k + (1 + N) ≤ R.cells) (hslots : n + (N + N * K) ≤ R.slots) (e1 : k + 1 + N = k2) (e2 : n + N + N * K = n2)
    (nx : EVG mt R Z k2 n2 p2 ls (.ref (rho M.1.1) :: st) (nwG N K M)) : EVG mt R Z k n pc ls (.int b :: .int a :: st) M := by
  intro X p l e s m args below meth c H locs A hC hR hS hl
  obtain ⟨h, rfl⟩ := h
  have hts := hC.2.2.2.2.2.1
  have hK9 := hC.2.2.2.2.2.2.1.1
  subst hN; subst hK; subst e1; subst e2
  intro T hT Xs
  obtain ⟨vm₁, cA, comp, -, fA, fC, hO, hI, X', step⟩ := Xs.multianewarray2F (ty := .int) hC.1 hC.2.2.2.2.1 (hts _ hl9) (over_moved (Vm.Alike.refl _) (hC.2.2.2.2.2.2.1.2.1 _ ho9)) (hts _ ha9) (g := F0 m pc A (.int b :: .int a :: st.map (shV X))) rfl (by rw [hC.2.1]; exact h) rfl hn hk (by omega) (by show _ * 4 ≤ _; omega) (by omega) rfl rfl hcells hslots
  generalize hF : Jvm.Free.Multi.fill (T.setVm vm₁) cA comp a.toNatClampNeg b.toNatClampNeg (defaultValue .int) a.toNatClampNeg = F at X' step
  have hTh : (T.setVm vm₁).heap = H := hT
  obtain ⟨f1, f2, -, -⟩ := Jvm.Free.Multi.fill_facts (T.setVm vm₁) cA comp a.toNatClampNeg b.toNatClampNeg (defaultValue .int) a.toNatClampNeg
  rw [hF, hTh] at f1 f2
  have hold : ∀ x : Nat, x < H.size → F.heap[x]? = H[x]? := fun x hx => by
    have := Jvm.Free.Multi.fill_old (T.setVm vm₁) cA comp a.toNatClampNeg b.toNatClampNeg (defaultValue .int) (a := x) (by rw [hTh]; exact hx) a.toNatClampNeg
    rw [hF, hTh] at this
    exact this
  have hrow : ∀ j : Nat, j < a.toNatClampNeg → F.heap[H.size + 1 + j]? = some (arrV comp b.toNatClampNeg (fun _ => .int 0)) := fun j hj => by
    have := Jvm.Free.Multi.fill_inner (T.setVm vm₁) cA comp a.toNatClampNeg b.toNatClampNeg (defaultValue .int) a.toNatClampNeg j hj
    rw [hF, hTh] at this
    rw [this]
    congr 1
    exact arrV_new comp b.toNatClampNeg (.int 0)
  rw [q_outer] at f2
  have hcA : cA = X.2.1 6 := Option.some.inj (fA.symm.trans (hK9.2 6 _ rfl).2)
  have hcI : comp = X.2.1 0 := Option.some.inj (fC.symm.trans (hK9.2 0 _ rfl).2)
  have hsz : F.heap.size = X.2.2.1 + (nwG a.toNatClampNeg b.toNatClampNeg M).1.1 := by rw [f1, hR.1]; show _ = _ + (M.1.1 + 1 + _); omega
  have hR1 : Rp X (nwG a.toNatClampNeg b.toNatClampNeg M) F.heap := by
    refine ⟨hsz, fun j q hq => ?_, fun x hx => ?_⟩
    · have hj : j < M.1.1 + 1 + a.toNatClampNeg := by have := (List.getElem?_eq_some_iff.mp hq).1; rwa [ws_len] at this
      rw [ws_at (x := X) (M := nwG a.toNatClampNeg b.toNatClampNeg M) hj] at hq
      cases hq
      by_cases h1 : j < M.1.1
      · have hold1 : qent X (nwG a.toNatClampNeg b.toNatClampNeg M) (rho j) = qent X M (rho j) := qent_congr (by simp [nwG, pl_rho, show j ≠ M.1.1 by omega, show ¬ M.1.1 < j by omega]) (by simp [nwG, pl_rho, show ¬ M.1.1 ≤ j by omega]) (by simp [nwG, pl_rho, show ¬ M.1.1 ≤ j by omega]) (by simp [nwG, pl_rho, show j ≠ M.1.1 by omega, show ¬ M.1.1 < j by omega])
        rw [hold1]
        exact (hR.2.1 j _ (ws_at h1)).kept (hold _ (by rw [hR.1]; show X.2.2.1 + j < _; omega))
      · by_cases h2 : j = M.1.1
        · subst h2
          rw [qent_ref (kd := 106) (by simp [nwG, pl_rho]) (by omega)]
          show F.heap[_]? = some (vp_cell _ _)
          rw [vp_cell_q, ← hR.1, f2, hcA]
          have hd : ((nwG a.toNatClampNeg b.toNatClampNeg M).1.2.1 (rho M.1.1)).2 = a.toNatClampNeg := by simp [nwG, pl_rho]
          rw [hd]
          congr 2
          funext i
          simp only [nwG, pl_rho, if_true]
          by_cases hi : i < a.toNatClampNeg
          · have e7 : X.2.2.1 + M.1.1 + 1 + i = X.2.2.1 + (M.1.1 + 1 + i) := by omega
            simp [hi, shO, hR.1, e7, pl_rho]
          · simp [hi, shO]
        · have h3 : M.1.1 < j ∧ j < M.1.1 + 1 + a.toNatClampNeg := by omega
          rw [qent_int (kd := 100) (by simp [nwG, pl_rho, h2, h3]) (by omega)]
          show F.heap[X.2.2.1 + j]? = some (vp_cell _ _)
          have := hrow (j - M.1.1 - 1) (by omega)
          rw [hR.1, show X.2.2.1 + M.1.1 + 1 + (j - M.1.1 - 1) = X.2.2.1 + j by omega] at this
          rw [this, vp_cell_i, hcI]
          have hd : ((nwG a.toNatClampNeg b.toNatClampNeg M).1.2.1 (rho j)).2 = b.toNatClampNeg := by simp [nwG, pl_rho, h2, h3]
          rw [hd]
          congr 2
          funext i
          simp [nwG, pl_rho, show M.1.1 ≤ j ∧ j < M.1.1 + 1 + a.toNatClampNeg by omega]
    · have hx2 : M.1.1 + 1 + a.toNatClampNeg ≤ pl x := hx
      have : (nwG a.toNatClampNeg b.toNatClampNeg M).1.2.1 x = M.1.2.1 x := by simp [nwG, show pl x ≠ M.1.1 by omega, show ¬ (M.1.1 < pl x ∧ pl x < M.1.1 + 1 + a.toNatClampNeg) by omega]
      rw [this]
      exact hR.2.2 x (by omega)
  obtain ⟨t, a1, b1⟩ := nx X p l e s m args below meth c F.heap locs A hC hR1 (hS.nw (by omega) hold) hl F rfl X'
  rw [List.map_cons, sh_new] at a1
  refine ⟨t, step t ?_, b1⟩
  have e9 : T.heap.size = X.2.2.1 + M.1.1 := by rw [hT]; exact hR.1
  rw [e9]
  exact a1
theorem e_newN {ci ix : Nat} {q : vw_C} (h : DC mt pc (.new ix) 3 p2) (ck : CK ci q) (hl9 : Cond.classLink mt.1.cls ix q.1 ∈ gT) (hi9 : Cond.instantiable q.1 q.2.2 ∈ gT) (hn9 : Cond.initialized q.1 ∈ gT) (hok : ∀ j, j < qnf ci → okT (qty ci j) = true)
    (hk : k + 1 ≤ R.cells) (hn : n + q.2.2 ≤ R.slots) (e1 : k + 1 = k2) (e2 : n + q.2.2 = n2) (nx : EVG mt R Z k2 n2 p2 ls (.ref (rho M.1.1) :: st) (nwC ci 0 M)) : EVG mt R Z k n pc ls st M := by
  subst e1; subst e2
  exact e_new h ck hl9 hi9 hn9 (fun B M9 a h1 h2 h3 j hj => dfl (hok j hj) B M9 a j (h1 j) (h2 j) (h3 j)) hk hn nx
theorem e_newaN {kd len : Nat} {v : Int32} {at9 : ArrayType} {ty : FieldType} (h : DC mt pc (.newarray at9) 2 p2) (hty : newarray.typeOf at9 = ty) (ha : Cond.arrayClass ty ∈ gT) (hkd : (kd = 100 ∧ ty = .int) ∨ (kd = 101 ∧ ty = .byte) ∨ (kd = 102 ∧ ty = .boolean) ∨ (kd = 103 ∧ ty = .long)) (hv : ¬ v < 0) (hlen : v.toNatClampNeg = len) (hsm : len ≤ 1000000)
    (hk : k + 1 ≤ R.cells) (hn : n + len ≤ R.slots) (e1 : k + 1 = k2) (e2 : n + len = n2) (nx : EVG mt R Z k2 n2 p2 ls (.ref (rho M.1.1) :: st) (nwC kd len M)) : EVG mt R Z k n pc ls (.int v :: st) M := by
  subst e1; subst e2
  exact e_newa h hty ha hkd hv hlen hsm hk hn nx
theorem e_newqN {kd len ix : Nat} {v : Int32} {C : String} (h : DC mt pc (.anewarray ix) 3 p2) (hl9 : Cond.classLink mt.1.cls ix C ∈ gT) (ho9 : Cond.arrayOver (.object C) ∈ nestL) (hkd : (kd = 104 ∧ C = "QuarterBoards$Shape") ∨ (kd = 105 ∧ C = "QuarterBoards$Form")) (hv : ¬ v < 0) (hlen : v.toNatClampNeg = len) (hsm : len ≤ 1000000)
    (hk : k + 1 ≤ R.cells) (hn : n + len ≤ R.slots) (e1 : k + 1 = k2) (e2 : n + len = n2) (nx : EVG mt R Z k2 n2 p2 ls (.ref (rho M.1.1) :: st) (nwC kd len M)) : EVG mt R Z k n pc ls (.int v :: st) M := by
  subst e1; subst e2
  exact e_newq h hl9 ho9 hkd hv hlen hsm hk hn nx
end CRULES
section CCALLS
variable {mt mt1 : MT} {d d1 c9 s9 c1 s1 : Nat} {Z : ZT} {k n pc p2 k2 n2 : Nat} {ls : Lv} {st0 : List Value} {M M1 : MM} {As : List Value} {b ix np : Nat} {st : List Value}
theorem e_cI (h : DC mt pc (.invokespecial ix) 3 p2) (hlk : Cond.methodLink mt.1.cls ix mt1.1 ∈ gT) (hm : MN mt1 np) (hc : CT mt1 (rm d1 c1 s1) (.ref b :: As) M none M1)
    (hst : As.reverse ++ .ref b :: st = st0) (hnp : As.length = np) (hcat : (st.map fun v => v.category).sum ≤ 8) (hd : d1 + 1 ≤ d) (hml : mt1.2.2.1 ≤ 45) (hk : k + c1 ≤ c9) (hn : n + s1 ≤ s9) (e1 : k + c1 = k2) (e2 : n + s1 = n2)
    (nx : EVG mt (rm d c9 s9) Z k2 n2 p2 ls st M1) : EVG mt (rm d c9 s9) Z k n pc ls st0 M := by
  subst e1; subst e2
  exact e_callI h hlk hm hc hst hnp hcat (rm_fr hd) (rm_lo hd hml) hk hn nx
theorem e_cIN {host : String} (h : DC mt pc (.invokespecial ix) 3 p2) (hlk : Cond.methodLinkNest mt.1.cls ix mt1.1 host ∈ nestL) (hm : MN mt1 np) (hc : CT mt1 (rm d1 c1 s1) (.ref b :: As) M none M1)
    (hst : As.reverse ++ .ref b :: st = st0) (hnp : As.length = np) (hcat : (st.map fun v => v.category).sum ≤ 8) (hd : d1 + 1 ≤ d) (hml : mt1.2.2.1 ≤ 45) (hk : k + c1 ≤ c9) (hn : n + s1 ≤ s9) (e1 : k + c1 = k2) (e2 : n + s1 = n2)
    (nx : EVG mt (rm d c9 s9) Z k2 n2 p2 ls st M1) : EVG mt (rm d c9 s9) Z k n pc ls st0 M := by
  subst e1; subst e2
  exact e_callIN h hlk hm hc hst hnp hcat (rm_fr hd) (rm_lo hd hml) hk hn nx
theorem over_at {l : List Cond} (hs : ∀ w ∈ l, w ∈ lw_tbl) (i : Nat) {w : Cond} (h : l[i]? = some w) (hn : isNest w = true) : w ∈ nestL := List.mem_filter.mpr ⟨hs _ (List.mem_of_getElem? h), hn⟩
theorem nest_at {l : List Cond} (hs : ∀ w ∈ l, w ∈ lw_tbl) (i : Nat) {a h9 : String} {ix : Nat} {y : MethodName} (h : l[i]? = some (.methodLinkNest a ix y h9)) : Cond.methodLinkNest a ix y h9 ∈ nestL := List.mem_filter.mpr ⟨hs _ (List.mem_of_getElem? h), rfl⟩
end CCALLS
