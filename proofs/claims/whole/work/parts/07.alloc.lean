/-! ===== cells that are made; copies of arrays ===== -/
/-- the address of the cell that is made -/
theorem sh_new (x : QX) (i : Nat) : shV x (.ref (rho i)) = .ref (x.2.2.1 + i) := by
  show Value.ref (x.2.2.1 + pl (rho i)) = _
  rw [pl_rho]
/-- one cell more: an object of the class kd, or an array of kind kd with len places -/
def nwC (kd len : Nat) (M : MM) : MM := ((M.1.1 + 1, fun b => if b = rho M.1.1 then (kd, len) else M.1.2.1 b, fun b => if b = rho M.1.1 then (fun _ => none) else M.1.2.2 b), fun b => if b = rho M.1.1 then (fun _ => 0) else M.2.1 b, fun b => if b = rho M.1.1 then (fun _ => 0) else M.2.2 b)
theorem nwC_old {x : QX} {kd len : Nat} {M : MM} {a : Nat} (h : a ≠ rho M.1.1) : qent x (nwC kd len M) a = qent x M a :=
  qent_congr (by simp [nwC, h]) (by simp [nwC, h]) (by simp [nwC, h]) (by simp [nwC, h])
theorem ws_nw (x : QX) (kd len : Nat) (M : MM) : wsOf x (nwC kd len M) = wsOf x M ++ [(x.2.2.1 + M.1.1, qent x (nwC kd len M) (rho M.1.1))] := by
  have h1 : (nwC kd len M).1.1 = M.1.1 + 1 := rfl
  unfold wsOf
  rw [h1, List.range_succ, List.map_append]
  congr 1
  apply List.map_congr_left
  intro a ha
  rw [nwC_old (fun q => Nat.ne_of_lt (List.mem_range.mp ha) (by rw [← pl_rho a, q, pl_rho]))]
theorem Rp.nw {x : QX} {kd len : Nat} {M : MM} {H H1 : Heap} (hR : Rp x M H) (z1 : H1.size = H.size + 1) (o1 : ∀ q, q < H.size → H1[q]? = H[q]?) (he : va_at x.1 classes (x.2.2.1 + M.1.1, qent x (nwC kd len M) (rho M.1.1)) H1) : Rp x (nwC kd len M) H1 := by
  refine ⟨by rw [z1, hR.1]; rfl, ?_, fun a ha => ?_⟩
  · rw [ws_nw]
    exact (hR.2.1.kept (fun j q hq => o1 q.1 ((hR.2.1 j q hq).lt))).app (fun j q hq => by
      have hz : j < 1 := (List.getElem?_eq_some_iff.mp hq).1
      rw [show j = 0 by omega] at hq
      cases hq
      exact he)
  · have h1 : M.1.1 + 1 ≤ pl a := ha
    have h2 : (nwC kd len M).1.2.1 a = M.1.2.1 a := by simp [nwC, show a ≠ rho M.1.1 from fun q => by rw [q, pl_rho] at h1; omega]
    rw [h2]
    exact hR.2.2 a (by omega)
theorem va_S.nw {A : Nat → Prop} {H0 H H1 : Heap} {locs : List Loc} (hS : va_S A H0 H locs) (z1 : H.size ≤ H1.size) (o1 : ∀ q, q < H.size → H1[q]? = H[q]?) : va_S A H0 H1 locs :=
  ⟨Nat.le_trans hS.1 z1, fun q h1 h2 => (o1 q (Nat.lt_of_lt_of_le h1 hS.1)).trans (hS.2.1 q h1 h2), hS.2.2⟩
section ALLOC
variable {mt : MT} {R : Room} {Z : ZT} {k n pc p2 : Nat} {ls : Lv} {st : List Value} {M : MM}
theorem e_new {ci ix : Nat} {q : vw_C} (h : DC mt pc (.new ix) 3 p2) (ck : CK ci q) (hl9 : Cond.classLink mt.1.cls ix q.1 ∈ gT) (hi9 : Cond.instantiable q.1 q.2.2 ∈ gT) (hn9 : Cond.initialized q.1 ∈ gT) (hdf : ∀ B : Nat, ∀ M9 : MM, ∀ a, (∀ j, M9.2.1 a j = 0) → (∀ j, M9.2.2 a j = 0) → (∀ j, M9.1.2.2 a j = none) → ∀ j, j < qnf ci → defaultValue (qty ci j) = qfv B M9 a j (qty ci j))
    (hk : k + 1 ≤ R.cells) (hn : n + q.2.2 ≤ R.slots) (nx : EVG mt R Z (k + 1) (n + q.2.2) p2 ls (.ref (rho M.1.1) :: st) (nwC ci 0 M)) : EVG mt R Z k n pc ls st M := by
  intro X p l e s m args below meth c H locs A hC hR hS hl
  obtain ⟨h, rfl⟩ := h
  have hts := hC.2.2.2.2.2.1
  have hK := hC.2.2.2.2.2.2.1.1
  have hKn := hK.1 ci _ ck.1
  refine W.newcK hC.1 hC.2.1 hC.2.2.2.2.1 (hts _ hl9) (hts _ hi9) (hts _ hn9) rfl h hk hn hKn.2.1 (h := X.2.2.1 + M.1.1) hR.1 fun H1 kC hkC e1 z1 o1 => ?_
  rw [← hR.1] at z1 o1
  have hnx := nx X p l e s m args below meth c H1 locs A hC (hR.nw z1 o1 ?_) (hS.nw (by omega) o1) hl
  · rw [List.map_cons, sh_new] at hnx; exact hnx
  have h9 : (nwC ci 0 M).1.2.1 (rho M.1.1) = (ci, 0) := by simp [nwC]
  rw [qent_obj (ci := ci) (by rw [h9]) ck.lt]
  refine ⟨q, ck.1, (u_born (qty ci) hts ck.2.2.1 hKn hkC e1 ck.2.2.2.1).to fun j hj => ?_⟩
  have hj2 : j < qnf ci := by rw [← ck.2.1]; exact hj
  rw [hdf X.2.2.1 (nwC ci 0 M) (rho M.1.1) (by intro j; simp [nwC]) (by intro j; simp [nwC]) (by intro j; simp [nwC]) j hj2]
  show _ = vp_V _ j
  unfold vp_V
  rw [List.getD_eq_getElem?_getD, qfs_at hj2]
  rfl
theorem e_newa {kd len : Nat} {v : Int32} {at9 : ArrayType} {ty : FieldType} (h : DC mt pc (.newarray at9) 2 p2) (hty : newarray.typeOf at9 = ty) (ha : Cond.arrayClass ty ∈ gT) (hkd : (kd = 100 ∧ ty = .int) ∨ (kd = 101 ∧ ty = .byte) ∨ (kd = 102 ∧ ty = .boolean) ∨ (kd = 103 ∧ ty = .long)) (hv : ¬ v < 0) (hlen : v.toNatClampNeg = len) (hsm : len ≤ 1000000)
    (hk : k + 1 ≤ R.cells) (hn : n + len ≤ R.slots) (nx : EVG mt R Z (k + 1) (n + len) p2 ls (.ref (rho M.1.1) :: st) (nwC kd len M)) : EVG mt R Z k n pc ls (.int v :: st) M := by
  intro X p l e s m args below meth c H locs A hC hR hS hl
  obtain ⟨h, rfl⟩ := h
  have hts := hC.2.2.2.2.2.1
  have hK := hC.2.2.2.2.2.2.1.1
  subst hty
  refine va_newaK hC.1 hC.2.1 (hts _ ha) rfl h rfl hv hlen ?_ hk hn (h := X.2.2.1 + M.1.1) hR.1 fun H1 cA e1 z1 o1 hAr hNm => ?_
  · cases at9 <;> simp [newarray.typeOf, componentBytes] <;> omega
  rw [← hR.1] at z1 o1
  have hnx := nx X p l e s m args below meth c H1 locs A hC (hR.nw z1 o1 ?_) (hS.nw (by omega) o1) hl
  · rw [List.map_cons, sh_new] at hnx; exact hnx
  have h9 : (nwC kd len M).1.2.1 (rho M.1.1) = (kd, len) := by simp [nwC]
  rcases hkd with ⟨rfl, h8⟩ | ⟨rfl, h8⟩ | ⟨rfl, h8⟩ | ⟨rfl, h8⟩
  · rw [qent_int (kd := 100) (by rw [h9]) (by omega), h9]
    have hc : cA = X.2.1 0 := Option.some.inj (hNm.symm.trans (by rw [h8]; exact (hK.2 0 _ rfl).2))
    rw [h8] at e1
    show H1[_]? = some (vp_cell _ _)
    rw [e1, vp_cell_i, hc]
    congr 2; funext j; simp [nwC, defaultValue]
  · rw [qent_int (kd := 101) (by rw [h9]) (by omega), h9]
    have hc : cA = X.2.1 1 := Option.some.inj (hNm.symm.trans (by rw [h8]; exact (hK.2 1 _ rfl).2))
    rw [h8] at e1
    show H1[_]? = some (vp_cell _ _)
    rw [e1, vp_cell_i, hc]
    congr 2; funext j; simp [nwC, defaultValue]
  · rw [qent_int (kd := 102) (by rw [h9]) (by omega), h9]
    have hc : cA = X.2.1 2 := Option.some.inj (hNm.symm.trans (by rw [h8]; exact (hK.2 2 _ rfl).2))
    rw [h8] at e1
    show H1[_]? = some (vp_cell _ _)
    rw [e1, vp_cell_i, hc]
    congr 2; funext j; simp [nwC, defaultValue]
  · rw [qent_long (by rw [h9]), h9]
    have hc : cA = X.2.1 3 := Option.some.inj (hNm.symm.trans (by rw [h8]; exact (hK.2 3 _ rfl).2))
    rw [h8] at e1
    show H1[_]? = some (vp_cell _ _)
    rw [e1, vp_cell_l, hc]
    congr 2; funext j; simp [nwC, defaultValue]
theorem e_newq {kd len ix : Nat} {v : Int32} {C : String} (h : DC mt pc (.anewarray ix) 3 p2) (hl9 : Cond.classLink mt.1.cls ix C ∈ gT) (ho9 : Cond.arrayOver (.object C) ∈ nestL) (hkd : (kd = 104 ∧ C = "QuarterBoards$Shape") ∨ (kd = 105 ∧ C = "QuarterBoards$Form")) (hv : ¬ v < 0) (hlen : v.toNatClampNeg = len) (hsm : len ≤ 1000000)
    (hk : k + 1 ≤ R.cells) (hn : n + len ≤ R.slots) (nx : EVG mt R Z (k + 1) (n + len) p2 ls (.ref (rho M.1.1) :: st) (nwC kd len M)) : EVG mt R Z k n pc ls (.int v :: st) M := by
  intro X p l e s m args below meth c H locs A hC hR hS hl
  obtain ⟨h, rfl⟩ := h
  have hts := hC.2.2.2.2.2.1
  have hK := hC.2.2.2.2.2.2.1.1
  subst hlen
  refine W.anew hC.1 hC.2.1 hC.2.2.2.2.1 (hts _ hl9) (va_AO.use (hC.2.2.2.2.2.2.1.2.1 _ ho9)) rfl h rfl hv (by omega) hk hn fun cA kA comp f1 f2 f3 f4 => ?_
  generalize hH1 : H.push ({ cls := cA, slots := Array.replicate v.toNatClampNeg .null, vm := .none } : Cell) = H1
  have z1 : H1.size = H.size + 1 := by rw [← hH1, Array.size_push]
  have e1 : H1[H.size]? = some (arrV cA v.toNatClampNeg (fun _ => .null)) := by rw [← hH1, Array.getElem?_push_size, ← arrV_new]
  have o1 : ∀ q : Nat, q < H.size → H1[q]? = H[q]? := fun q hq => by rw [← hH1, Array.getElem?_push, if_neg (Nat.ne_of_lt hq)]
  have hnx := nx X p l e s m args below meth c H1 locs A hC (hR.nw z1 o1 ?_) (hS.nw (by omega) o1) hl
  · rw [List.map_cons, sh_new] at hnx; rw [hR.1]; exact hnx
  have h9 : (nwC kd v.toNatClampNeg M).1.2.1 (rho M.1.1) = (kd, v.toNatClampNeg) := by simp [nwC]
  rw [← hR.1]
  rcases hkd with ⟨rfl, rfl⟩ | ⟨rfl, rfl⟩
  · rw [qent_ref (kd := 104) (by rw [h9]) (by omega), h9]
    obtain ⟨kA2, comp2, g1, g2, g3, g4⟩ := (hK.2 4 _ rfl).2
    have hc : cA = X.2.1 4 := Option.some.inj (f1.symm.trans g4)
    show H1[_]? = some (vp_cell _ _)
    rw [e1, vp_cell_q, hc]
    congr 2; funext j; simp [nwC, shO, va_rf]
  · rw [qent_ref (kd := 105) (by rw [h9]) (by omega), h9]
    obtain ⟨kA2, comp2, g1, g2, g3, g4⟩ := (hK.2 5 _ rfl).2
    have hc : cA = X.2.1 5 := Option.some.inj (f1.symm.trans g4)
    show H1[_]? = some (vp_cell _ _)
    rw [e1, vp_cell_q, hc]
    congr 2; funext j; simp [nwC, shO, va_rf]
/-- a reference into an array of references -/
theorem e_aast {kd ci a r : Nat} {i : Int32} {M1 : MM} (h : DC mt pc .aastore 1 p2) (hkd : (kd = 104 ∧ ci = 7) ∨ (kd = 105 ∧ ci = 4)) (hg : sR kd ci a i r M = some M1) (nx : EVG mt R Z k n p2 ls st M1) : EVG mt R Z k n pc ls (.ref r :: .int i :: .ref a :: st) M := by
  intro X p l e s m args below meth c H locs A hC hR hS hl
  obtain ⟨h, rfl⟩ := h
  unfold sR at hg
  split at hg
  · next hc =>
    cases hg
    obtain ⟨⟨hc, hin⟩, hr⟩ := hc
    have hlt := hR.lt (a := a) (by omega)
    have he := ws_get (x := X) hlt
    rw [qent_ref hc (by omega)] at he
    have hv := ws_get (x := X) (hR.lt (a := r) (by omega))
    rw [qent_obj hr (by omega)] at hv
    have hK := hC.2.2.2.2.2.2.1.1
    have hlt2 : i.toNatClampNeg < (M.1.2.1 a).2 := Nat.not_le.mp fun q => hin (Or.inr q)
    have h0 : ¬ i < 0 := fun q => hin (Or.inl q)
    have hty : ∃ q : vw_C, classes[ci]? = some q ∧ (tysOf X)[kd - 100]? = some (X.2.1 (kd - 100), .object q.1) := by
      rcases hkd with ⟨rfl, rfl⟩ | ⟨rfl, rfl⟩
      · exact ⟨_, rfl, rfl⟩
      · exact ⟨_, rfl, rfl⟩
    obtain ⟨q, hq, ht⟩ := hty
    obtain ⟨r', hr', cellV, g1, g2, g3, -⟩ := hR.2.1 (pl r) _ hv
    have hcls := (hK.1 ci q hq).2
    obtain ⟨kA, comp, k1, k2, k3, -⟩ := (hK.2 (kd - 100) _ ht).2
    have hcomp : comp = X.1.1 ci := Option.some.inj (k3.symm.trans hcls.1)
    subst hcomp
    obtain ⟨kC, hkC, -⟩ := hcls.2
    refine W.aast hC.1 hC.2.1 (hR.2.1 (pl a) _ he) (fun q h => by cases h) (fun h => by cases h) k1 k2 rfl hkC ⟨h0, by show _ < (arrV _ _ _).slots.size; rw [arrV_size]; exact hlt2⟩ g1 (fun q h => by rw [g3] at h; cases h) (by rw [g2]; exact hkC) (by rw [g2]; exact va_assign hcls) rfl rfl h fun H1 e1 z oq => ?_
    refine nx X p l e s m args below meth c H1 _ A hC ?_ (hS.put z oq (Nat.le_add_right _ _)) hl
    refine arr_put (M1 := ((M.1.1, M.1.2.1, upd2 M.1.2.2 a i.toNatClampNeg (some r)), M.2)) hR hlt (ws_get hlt) rfl rfl (fun b hb => ⟨rfl, rfl, upd2_ne hb⟩) (qent_ref hc (by omega)) ?_ z oq
    rw [e1, vp_cell_q, vp_cell_q, arrV_store]
    congr 2
    funext q
    by_cases hq : q = i.toNatClampNeg
    · subst hq; simp [updV, upd2, shO, va_rf]
    · simp [updV, upd2, hq]
  · cases hg
end ALLOC
