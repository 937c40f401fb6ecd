/-! ===== the memory: fields and arrays ===== -/
def upd2 {α : Type} (f : Nat → Nat → α) (a k : Nat) (v : α) : Nat → Nat → α := fun b j => if b = a then (if j = k then v else f b j) else f b j
theorem upd2_ne {α : Type} {f : Nat → Nat → α} {a k b : Nat} {v : α} (h : b ≠ a) : upd2 f a k v b = f b := by funext j; simp [upd2, h]
theorem upd2_at {α : Type} {f : Nat → Nat → α} {a k : Nat} {v : α} : upd2 f a k v a k = v := by simp [upd2]
theorem upd2_nk {α : Type} {f : Nat → Nat → α} {a k j : Nat} {v : α} (h : j ≠ k) : upd2 f a k v a j = f a j := by simp [upd2, h]
def inb (i : Int32) (n : Nat) : Prop := ¬ (i < 0 ∨ n ≤ i.toNatClampNeg)
def gI (ci k a : Nat) (M : MM) : Option Int32 := if (M.1.2.1 a).1 = ci then some (M.2.1 a k) else none
def gL (ci k a : Nat) (M : MM) : Option Int64 := if (M.1.2.1 a).1 = ci then some (M.2.2 a k) else none
def gR (ci k a : Nat) (M : MM) : Option Nat := if (M.1.2.1 a).1 = ci then M.1.2.2 a k else none
def pI (ci k a : Nat) (v : Int32) (M : MM) : Option MM := if (M.1.2.1 a).1 = ci then some (M.1, upd2 M.2.1 a k v, M.2.2) else none
def pZ (ci k a : Nat) (v : Int32) (M : MM) : Option MM := if (M.1.2.1 a).1 = ci ∧ v &&& 1 = v then some (M.1, upd2 M.2.1 a k v, M.2.2) else none
def pL (ci k a : Nat) (v : Int64) (M : MM) : Option MM := if (M.1.2.1 a).1 = ci then some (M.1, M.2.1, upd2 M.2.2 a k v) else none
def pR (ci k a r : Nat) (M : MM) : Option MM := if (M.1.2.1 a).1 = ci then some ((M.1.1, M.1.2.1, upd2 M.1.2.2 a k (some r)), M.2) else none
def aI (kd a : Nat) (i : Int32) (M : MM) : Option Int32 := if (M.1.2.1 a).1 = kd ∧ ¬ (i < 0 ∨ (M.1.2.1 a).2 ≤ i.toNatClampNeg) then some (M.2.1 a i.toNatClampNeg) else none
def aL (a : Nat) (i : Int32) (M : MM) : Option Int64 := if (M.1.2.1 a).1 = 103 ∧ ¬ (i < 0 ∨ (M.1.2.1 a).2 ≤ i.toNatClampNeg) then some (M.2.2 a i.toNatClampNeg) else none
def aR (kd a : Nat) (i : Int32) (M : MM) : Option Nat := if (M.1.2.1 a).1 = kd ∧ ¬ (i < 0 ∨ (M.1.2.1 a).2 ≤ i.toNatClampNeg) then M.1.2.2 a i.toNatClampNeg else none
def aN (a : Nat) (M : MM) : Option Int32 := if 100 ≤ (M.1.2.1 a).1 ∧ (M.1.2.1 a).1 < 107 then some (Int32.ofNat (M.1.2.1 a).2) else none
def nrw (kd : Nat) (v : Int32) : Int32 := if kd = 101 then v.toInt8.toInt32 else if kd = 102 then v &&& 1 else v
def sI (kd a : Nat) (i v : Int32) (M : MM) : Option MM := if (M.1.2.1 a).1 = kd ∧ ¬ (i < 0 ∨ (M.1.2.1 a).2 ≤ i.toNatClampNeg) then some (M.1, upd2 M.2.1 a i.toNatClampNeg (nrw kd v), M.2.2) else none
def sL (a : Nat) (i : Int32) (v : Int64) (M : MM) : Option MM := if (M.1.2.1 a).1 = 103 ∧ ¬ (i < 0 ∨ (M.1.2.1 a).2 ≤ i.toNatClampNeg) then some (M.1, M.2.1, upd2 M.2.2 a i.toNatClampNeg v) else none
/-- a reference r of the class ci into an array of kind kd -/
def sR (kd ci a : Nat) (i : Int32) (r : Nat) (M : MM) : Option MM := if ((M.1.2.1 a).1 = kd ∧ ¬ (i < 0 ∨ (M.1.2.1 a).2 ≤ i.toNatClampNeg)) ∧ (M.1.2.1 r).1 = ci then some ((M.1.1, M.1.2.1, upd2 M.1.2.2 a i.toNatClampNeg (some r)), M.2) else none
theorem qent_congr {x : QX} {M M1 : MM} {a : Nat} (h1 : M1.1.2.1 a = M.1.2.1 a) (h2 : M1.2.1 a = M.2.1 a) (h3 : M1.2.2 a = M.2.2 a) (h4 : M1.1.2.2 a = M.1.2.2 a) : qent x M1 a = qent x M a := by
  have h5 : ∀ ci, qfs x.2.2.1 M1 a ci = qfs x.2.2.1 M a ci := by
    intro ci
    unfold qfs
    apply List.map_congr_left
    intro k _
    unfold qfv
    rw [h2, h3, h4]
  unfold qent
  rw [h1, h2, h3, h4, h5]
/-- a class of the list -/
def CK (ci : Nat) (q : vw_C) : Prop := classes[ci]? = some q ∧ q.2.2 = qnf ci ∧ (∀ w ∈ u_ws q.1 q.2.1 q.2.2, w ∈ gT) ∧ (∀ k, k < q.2.2 → parseFieldDescriptor (q.2.1 k).2.2.1 = some (qty ci k)) ∧ ∀ a, a < q.2.2 → ∀ b, b < q.2.2 → a ≠ b → (q.2.1 a).2.1 ≠ (q.2.1 b).2.1
theorem CK.lt {ci : Nat} {q : vw_C} (h : CK ci q) : ci < 13 := (List.getElem?_eq_some_iff.mp h.1).1
def FL (own : String) (ix ci kf : Nat) (fin : Bool) : Prop := ∃ q : vw_C, CK ci q ∧ kf < q.2.2 ∧ (q.2.1 kf).1 = q.1 ∧ (q.2.1 kf).2.2.2 = fin ∧ Cond.fieldLink own ix (q.2.1 kf).1 (q.2.1 kf).2.1 (q.2.1 kf).2.2.1 ∈ gT
def FI (ci kf : Nat) : Prop := ∀ (B : Nat) (M : MM) (a : Nat), qfv B M a kf (qty ci kf) = .int (M.2.1 a kf)
def FJ (ci kf : Nat) : Prop := ∀ (B : Nat) (M : MM) (a : Nat), qfv B M a kf (qty ci kf) = .long (M.2.2 a kf)
def FR (ci kf : Nat) : Prop := ∀ (B : Nat) (M : MM) (a : Nat), qfv B M a kf (qty ci kf) = va_rf (shO B (M.1.2.2 a kf))
theorem qfs_at {B : Nat} {M : MM} {a ci kf : Nat} (h : kf < qnf ci) : (qfs B M a ci)[kf]? = some (qfv B M a kf (qty ci kf)) := by simp [qfs, h]
theorem qent_obj {x : QX} {M : MM} {a ci : Nat} (hc : (M.1.2.1 a).1 = ci) (h : ci < 13) : qent x M a = .inr (ci, qfs x.2.2.1 M a ci) := by
  unfold qent
  rw [hc, if_pos (by omega)]
theorem qent_int {x : QX} {M : MM} {a kd : Nat} (hc : (M.1.2.1 a).1 = kd) (h : 100 ≤ kd ∧ kd < 103) : qent x M a = .inl (x.2.1 (kd - 100), (M.1.2.1 a).2, .inl (M.2.1 a)) := by
  unfold qent
  rw [hc, if_neg (by omega), if_neg (by omega), if_pos (by omega)]
theorem qent_long {x : QX} {M : MM} {a : Nat} (hc : (M.1.2.1 a).1 = 103) : qent x M a = .inl (x.2.1 3, (M.1.2.1 a).2, .inr (.inl (M.2.2 a))) := by
  unfold qent
  rw [hc, if_neg (by omega), if_pos rfl]
theorem qent_ref {x : QX} {M : MM} {a kd : Nat} (hc : (M.1.2.1 a).1 = kd) (h : 104 ≤ kd) : qent x M a = .inl (x.2.1 (kd - 100), (M.1.2.1 a).2, .inr (.inr (.inr (.inr (fun j => shO x.2.2.1 (M.1.2.2 a j)))))) := by
  unfold qent
  rw [hc, if_neg (by omega), if_neg (by omega), if_neg (by omega)]
section MEMR
variable {mt : MT} {R : Room} {Z : ZT} {k n pc p2 : Nat} {ls : Lv} {st : List Value} {M : MM}
theorem e_getV {ci kf ix a : Nat} {fin : Bool} {v : Value} (h : DC mt pc (.getfield ix) 3 p2) (f : FL mt.1.cls ix ci kf fin) (hc : (M.1.2.1 a).1 = ci) (hq : ∀ B : QX, qfv B.2.2.1 M a kf (qty ci kf) = shV B v) (nx : EVG mt R Z k n p2 ls (v :: st) M) : EVG mt R Z k n pc ls (.ref a :: st) M := by
  intro X p l e s m args below meth c H locs A hC hR hS hl
  obtain ⟨h, rfl⟩ := h
  obtain ⟨q, ck, hk, ho, hfin, hlink⟩ := f
  have h13 := ck.lt
  have hlt : pl a < M.1.1 := hR.lt (by omega)
  have he := ws_get (x := X) hlt
  rw [qent_obj hc h13] at he
  exact va_get (D := X.1) (ci := ci) (C := q.1) (T := q.2.1) (N := q.2.2) hC.1 hC.2.1 hC.2.2.2.2.2.1 ck.2.2.1 hC.2.2.2.2.1 hC.2.2.2.2.2.2.1.1 hR.2.1 (pl a) he ck.1 kf hk (hC.2.2.2.2.2.1 _ hlink) (fun _ h9 => h9) (by rw [qfs_at (by rw [← ck.2.1]; exact hk), hq X]) h (nx X p l e s m args below meth c H locs A hC hR hS hl)
theorem gI_spec {ci kf a : Nat} {v : Int32} (h : gI ci kf a M = some v) : (M.1.2.1 a).1 = ci ∧ M.2.1 a kf = v := by
  unfold gI at h; split at h
  · next hc => exact ⟨hc, Option.some.inj h⟩
  · cases h
theorem gL_spec {ci kf a : Nat} {v : Int64} (h : gL ci kf a M = some v) : (M.1.2.1 a).1 = ci ∧ M.2.2 a kf = v := by
  unfold gL at h; split at h
  · next hc => exact ⟨hc, Option.some.inj h⟩
  · cases h
theorem gR_spec {ci kf a r : Nat} (h : gR ci kf a M = some r) : (M.1.2.1 a).1 = ci ∧ M.1.2.2 a kf = some r := by
  unfold gR at h; split at h
  · next hc => exact ⟨hc, h⟩
  · cases h
theorem e_getI {ci kf ix a : Nat} {fin : Bool} {v : Int32} (h : DC mt pc (.getfield ix) 3 p2) (f : FL mt.1.cls ix ci kf fin) (hq : FI ci kf) (hg : gI ci kf a M = some v) (nx : EVG mt R Z k n p2 ls (.int v :: st) M) : EVG mt R Z k n pc ls (.ref a :: st) M :=
  e_getV h f (gI_spec hg).1 (fun B => by rw [hq B.2.2.1 M a, (gI_spec hg).2]; rfl) nx
theorem e_getL {ci kf ix a : Nat} {fin : Bool} {v : Int64} (h : DC mt pc (.getfield ix) 3 p2) (f : FL mt.1.cls ix ci kf fin) (hq : FJ ci kf) (hg : gL ci kf a M = some v) (nx : EVG mt R Z k n p2 ls (.long v :: st) M) : EVG mt R Z k n pc ls (.ref a :: st) M :=
  e_getV h f (gL_spec hg).1 (fun B => by rw [hq B.2.2.1 M a, (gL_spec hg).2]; rfl) nx
theorem e_getR {ci kf ix a r : Nat} {fin : Bool} (h : DC mt pc (.getfield ix) 3 p2) (f : FL mt.1.cls ix ci kf fin) (hq : FR ci kf) (hg : gR ci kf a M = some r) (nx : EVG mt R Z k n p2 ls (.ref r :: st) M) : EVG mt R Z k n pc ls (.ref a :: st) M :=
  e_getV h f (gR_spec hg).1 (fun B => by rw [hq B.2.2.1 M a, (gR_spec hg).2]; rfl) nx
/-- a field is written: M1 is M but there -/
theorem e_putV {ci kf ix a : Nat} {v : Value} {M1 : MM} {fin : Bool} (h : DC mt pc (.putfield ix) 3 p2) (f : FL mt.1.cls ix ci kf fin) (hfn : fin = false ∨ (mt.1.name = "<init>" ∧ ∃ q : vw_C, classes[ci]? = some q ∧ q.1 = mt.1.cls)) (hc : (M.1.2.1 a).1 = ci)
    (hn : ∀ B : QX, narrow (qty ci kf) (shV B v) = shV B v ∧ fits (qty ci kf) (shV B v) = true) (h0 : M1.1.1 = M.1.1) (h1 : M1.1.2.1 = M.1.2.1) (hb : ∀ b, b ≠ a → M1.2.1 b = M.2.1 b ∧ M1.2.2 b = M.2.2 b ∧ M1.1.2.2 b = M.1.2.2 b)
    (hj : ∀ (B j : Nat), j ≠ kf → ∀ t, qfv B M1 a j t = qfv B M a j t) (hv : ∀ B : QX, qfv B.2.2.1 M1 a kf (qty ci kf) = shV B v)
    (nx : EVG mt R Z k n p2 ls st M1) : EVG mt R Z k n pc ls (v :: .ref a :: st) M := by
  intro X p l e s m args below meth c H locs A hC hR hS hl
  obtain ⟨h, rfl⟩ := h
  obtain ⟨q, ck, hk, ho, hfin, hlink⟩ := f
  have h13 := ck.lt
  have hlt : pl a < M.1.1 := hR.lt (by omega)
  have he := ws_get (x := X) hlt
  rw [qent_obj hc h13] at he
  have hP := hR.2.1
  have hD := ws_D X M
  have hK := hC.2.2.2.2.2.2.1.1
  have hts := hC.2.2.2.2.2.1
  have hin := ck.2.2.1
  have hown := hC.2.2.2.2.1
  have hap := va_apart (own := mt.1.cls) hts hin (qty ci) ck.2.2.2.1 ck.2.2.2.2 hK ck.1
  obtain ⟨r, g1, cell, q1, q2, q3, q4⟩ := hP (pl a) _ he
  have hr : r = q := Option.some.inj (g1.symm.trans ck.1)
  subst hr
  obtain ⟨hSl, hfc, kC, hkC, hkind⟩ := hK.1 ci _ ck.1
  obtain ⟨cf, kf', fi, fd, hi, hsl⟩ := hSl kf hk
  have hlay := hts _ (hin _ (u_in_lay hk))
  have hst := (u_facts hfc hkC (u_lays hts hin hk) hi).1
  have hd := ck.2.2.2.1 kf hk
  have fin1 : ∀ (H1 : Heap) (j9 : Nat), H1[X.2.2.1 + pl a]? = some (cell.setSlot (X.1.2 ci kf) (shV X v)) → H1.size = H.size → (∀ q9, q9 ≠ X.2.2.1 + pl a → H1[q9]? = H[q9]?) → W p l e R s m args below meth c H1 (locs ++ [⟨X.2.2.1 + pl a, j9⟩]) k n (Z X s args below) (F0 m (pc + 3) A (st.map (shV X))) := by
    intro H1 j9 e1 z oq
    refine nx X p l e s m args below meth c H1 _ A hC ⟨by rw [z, h0]; exact hR.1, ?_, fun b hb9 => by rw [h1]; exact hR.2.2 b (by rw [← h0]; exact hb9)⟩ (hS.put z oq (Nat.le_add_right _ _)) hl
    have hset := hP.set hD he (e := .inr (ci, (qfs X.2.2.1 M a ci).set kf (shV X v))) (H1 := H1) ⟨r, ck.1, t_OB.to (V := updV (vp_V (qfs X.2.2.1 M a ci)) kf (shV X v)) ⟨_, e1, q2, q3, t_set q4 hap hk (shV X v)⟩ (fun j _ => vp_updV_set (by simp [qfs]; rw [← ck.2.1]; exact hk) (shV X v) j)⟩ oq
    rw [ws_set (M1 := M1) h0 hlt ?_ ?_] at hset
    · exact hset
    · rw [qent_obj (by rw [h1]; exact hc) h13]
      congr 2
      apply List.ext_getElem?
      intro j
      rw [List.getElem?_set]
      by_cases hjn : j < qnf ci
      · rw [qfs_at hjn]
        by_cases hjk : kf = j
        · subst hjk
          rw [if_pos rfl, if_pos (by simp [qfs]; exact hjn), hv]
        · rw [if_neg hjk, qfs_at hjn, hj _ j (fun q => hjk q.symm)]
      · have hkj : kf ≠ j := fun e9 => hjn (by rw [← e9, ← ck.2.1]; exact hk)
        rw [if_neg hkj, List.getElem?_eq_none (by simp [qfs]; omega), List.getElem?_eq_none (by simp [qfs]; omega)]
    · intro b hb9
      exact qent_congr (by rw [h1]) (hb b hb9).1 (hb b hb9).2.1 (hb b hb9).2.2
  rcases hfn with hfn | ⟨hnm, hq9⟩
  · unfold u_lay at hlay
    rw [if_neg (by rw [hfin, hfn]; decide)] at hlay
    have h6 := u_store hfc hkC hkind hlay hi hd (hn X).1 (hn X).2
    refine W.putK hC.1 hC.2.1 (f := fd) ⟨hown, hts _ hlink, ⟨_, _, _, hi⟩, hst⟩ (by rw [q2]; exact h6) q1 q3 (by rw [hsl]; exact k2_hasslot (q4 kf hk)) rfl rfl h fun H1 e1 z oq => ?_
    rw [hsl] at e1 ⊢
    exact fin1 H1 _ e1 z oq
  · obtain ⟨q9, hq9, hq9c⟩ := hq9
    have : q9 = r := Option.some.inj (hq9.symm.trans ck.1)
    subst this
    cases hff : fin with
    | false =>
      unfold u_lay at hlay
      rw [if_neg (by rw [hfin, hff]; decide)] at hlay
      have h6 := u_store hfc hkC hkind hlay hi hd (hn X).1 (hn X).2
      refine W.putK hC.1 hC.2.1 (f := fd) ⟨hown, hts _ hlink, ⟨_, _, _, hi⟩, hst⟩ (by rw [q2]; exact h6) q1 q3 (by rw [hsl]; exact k2_hasslot (q4 kf hk)) rfl rfl h fun H1 e1 z oq => ?_
      rw [hsl] at e1 ⊢
      exact fin1 H1 _ e1 z oq
    | true =>
      unfold u_lay at hlay
      rw [if_pos (by rw [hfin, hff])] at hlay
      have hcf : m.cls = cf := by
        obtain ⟨_, _, c', _, _, _, -, -, hf', -, -, -, hown2, -⟩ := Cond.laysFinal_spec hlay
        have e1 : c' = cf := by have := hi.symm.trans hf'; simp at this; exact this.1.symm
        rw [ho, hq9c] at hown2
        rw [← e1]; exact Option.some.inj (hown.symm.trans hown2)
      have h6 := u_fits hfc hkC hkind (Or.inr hlay) hi hd (hn X).1 (hn X).2
      refine W.putFinK hC.1 hC.2.1 hown (hts _ hlink) hi hst hcf (hC.2.2.2.2.2.2.2.2.2.1 hnm) (by rw [q2]; exact h6) q1 q3 (by rw [hsl]; exact k2_hasslot (q4 kf hk)) rfl rfl h fun H1 e1 z oq => ?_
      rw [hsl] at e1 ⊢
      exact fin1 H1 _ e1 z oq
theorem qfv_same {B : Nat} {M M1 : MM} {a j : Nat} (h1 : M1.2.1 a j = M.2.1 a j) (h2 : M1.2.2 a j = M.2.2 a j) (h3 : M1.1.2.2 a j = M.1.2.2 a j) (t : FieldType) : qfv B M1 a j t = qfv B M a j t := by
  unfold qfv; rw [h1, h2, h3]
theorem b01 {v : Int32} (h : v &&& 1 = v) : v = 0 ∨ v = 1 := by
  rw [pk_and v (m := 1) 1 (by decide)] at h
  have h2 : v.toBitVec.toNat % 2 ^ 1 < 2 := Nat.mod_lt _ (by decide)
  generalize v.toBitVec.toNat % 2 ^ 1 = j at h h2
  have : j = 0 ∨ j = 1 := by omega
  rcases this with rfl | rfl
  · left; rw [← h]; rfl
  · right; rw [← h]; rfl
theorem fits_b {v : Int32} (h : v &&& 1 = v) : fits .boolean (.int v) = true := by
  rcases b01 h with rfl | rfl <;> decide
def okIn (mt : MT) (ci : Nat) : Prop := mt.1.name = "<init>" ∧ ∃ q : vw_C, classes[ci]? = some q ∧ q.1 = mt.1.cls
theorem e_putI {ci kf ix a : Nat} {v : Int32} {M1 : MM} {fin : Bool} (h : DC mt pc (.putfield ix) 3 p2) (f : FL mt.1.cls ix ci kf fin) (hfn : fin = false ∨ okIn mt ci) (hq : FI ci kf) (ht : qty ci kf = .int) (hp : pI ci kf a v M = some M1) (nx : EVG mt R Z k n p2 ls st M1) : EVG mt R Z k n pc ls (.int v :: .ref a :: st) M := by
  unfold pI at hp
  split at hp
  · next hc =>
    cases hp
    exact e_putV (M1 := (M.1, upd2 M.2.1 a kf v, M.2.2)) h f hfn hc (fun B => by rw [ht]; exact ⟨rfl, rfl⟩) rfl rfl (fun b hb => ⟨upd2_ne hb, rfl, rfl⟩) (fun B j hj t => qfv_same (M := M) (M1 := (M.1, upd2 M.2.1 a kf v, M.2.2)) (upd2_nk hj) rfl rfl t) (fun B => by rw [hq]; simp [upd2_at]; rfl) nx
  · cases hp
theorem e_putZ {ci kf ix a : Nat} {v : Int32} {M1 : MM} {fin : Bool} (h : DC mt pc (.putfield ix) 3 p2) (f : FL mt.1.cls ix ci kf fin) (hfn : fin = false ∨ okIn mt ci) (hq : FI ci kf) (ht : qty ci kf = .boolean) (hp : pZ ci kf a v M = some M1) (nx : EVG mt R Z k n p2 ls st M1) : EVG mt R Z k n pc ls (.int v :: .ref a :: st) M := by
  unfold pZ at hp
  split at hp
  · next hc =>
    cases hp
    exact e_putV (M1 := (M.1, upd2 M.2.1 a kf v, M.2.2)) h f hfn hc.1 (fun B => by rw [ht]; exact ⟨by show Value.int _ = Value.int _; rw [hc.2], fits_b hc.2⟩) rfl rfl (fun b hb => ⟨upd2_ne hb, rfl, rfl⟩) (fun B j hj t => qfv_same (M := M) (M1 := (M.1, upd2 M.2.1 a kf v, M.2.2)) (upd2_nk hj) rfl rfl t) (fun B => by rw [hq]; simp [upd2_at]; rfl) nx
  · cases hp
theorem e_putL {ci kf ix a : Nat} {v : Int64} {M1 : MM} {fin : Bool} (h : DC mt pc (.putfield ix) 3 p2) (f : FL mt.1.cls ix ci kf fin) (hfn : fin = false ∨ okIn mt ci) (hq : FJ ci kf) (ht : qty ci kf = .long) (hp : pL ci kf a v M = some M1) (nx : EVG mt R Z k n p2 ls st M1) : EVG mt R Z k n pc ls (.long v :: .ref a :: st) M := by
  unfold pL at hp
  split at hp
  · next hc =>
    cases hp
    exact e_putV (M1 := (M.1, M.2.1, upd2 M.2.2 a kf v)) h f hfn hc (fun B => by rw [ht]; exact ⟨rfl, rfl⟩) rfl rfl (fun b hb => ⟨rfl, upd2_ne hb, rfl⟩) (fun B j hj t => qfv_same (M := M) (M1 := (M.1, M.2.1, upd2 M.2.2 a kf v)) rfl (upd2_nk hj) rfl t) (fun B => by rw [hq]; simp [upd2_at]; rfl) nx
  · cases hp
theorem e_putR {ci kf ix a r : Nat} {M1 : MM} {fin : Bool} (h : DC mt pc (.putfield ix) 3 p2) (f : FL mt.1.cls ix ci kf fin) (hfn : fin = false ∨ okIn mt ci) (hq : FR ci kf) (ht : ∀ a : Nat, narrow (qty ci kf) (.ref a) = .ref a ∧ fits (qty ci kf) (.ref a) = true) (hp : pR ci kf a r M = some M1) (nx : EVG mt R Z k n p2 ls st M1) : EVG mt R Z k n pc ls (.ref r :: .ref a :: st) M := by
  unfold pR at hp
  split at hp
  · next hc =>
    cases hp
    exact e_putV (M1 := ((M.1.1, M.1.2.1, upd2 M.1.2.2 a kf (some r)), M.2)) h f hfn hc (fun B => ht _) rfl rfl (fun b hb => ⟨rfl, rfl, upd2_ne hb⟩) (fun B j hj t => qfv_same (M := M) (M1 := ((M.1.1, M.1.2.1, upd2 M.1.2.2 a kf (some r)), M.2)) rfl rfl (upd2_nk hj) t) (fun B => by rw [hq]; simp [upd2_at]; rfl) nx
  · cases hp
/-! arrays -/
theorem tys_int (X : QX) {kd : Nat} (h : kd = 100) : (tysOf X)[kd - 100]? = some (X.2.1 (kd - 100), .int) := by subst h; rfl
theorem aI_spec {kd a : Nat} {i v : Int32} (h : aI kd a i M = some v) : (M.1.2.1 a).1 = kd ∧ vp_in i (M.1.2.1 a).2 ∧ M.2.1 a i.toNatClampNeg = v := by
  unfold aI at h; split at h
  · next hc => exact ⟨hc.1, hc.2, Option.some.inj h⟩
  · cases h
theorem e_iald {a : Nat} {i v : Int32} (h : DC mt pc .iaload 1 p2) (hg : aI 100 a i M = some v) (nx : EVG mt R Z k n p2 ls (.int v :: st) M) : EVG mt R Z k n pc ls (.int i :: .ref a :: st) M := by
  intro X p l e s m args below meth c H locs A hC hR hS hl
  obtain ⟨h, rfl⟩ := h
  obtain ⟨hc, hin, rfl⟩ := aI_spec hg
  have he := ws_get (x := X) (hR.lt (a := a) (by omega))
  rw [qent_int hc (by omega)] at he
  exact va_iald (D := X.1) (tys := tysOf X) hC.1 hC.2.1 hC.2.2.2.2.2.2.1.1 hR.2.1 (pl a) 0 he rfl hin h (nx X p l e s m args below meth c H locs A hC hR hS hl)
theorem e_bald {a : Nat} {i v : Int32} (h : DC mt pc .baload 1 p2) (hg : aI 101 a i M = some v) (nx : EVG mt R Z k n p2 ls (.int v :: st) M) : EVG mt R Z k n pc ls (.int i :: .ref a :: st) M := by
  intro X p l e s m args below meth c H locs A hC hR hS hl
  obtain ⟨h, rfl⟩ := h
  obtain ⟨hc, hin, rfl⟩ := aI_spec hg
  have he := ws_get (x := X) (hR.lt (a := a) (by omega))
  rw [qent_int hc (by omega)] at he
  exact va_bald (D := X.1) (tys := tysOf X) hC.1 hC.2.1 hC.2.2.2.2.2.2.1.1 hR.2.1 (pl a) 1 he rfl hin h (nx X p l e s m args below meth c H locs A hC hR hS hl)
theorem e_zald {a : Nat} {i v : Int32} (h : DC mt pc .baload 1 p2) (hg : aI 102 a i M = some v) (nx : EVG mt R Z k n p2 ls (.int v :: st) M) : EVG mt R Z k n pc ls (.int i :: .ref a :: st) M := by
  intro X p l e s m args below meth c H locs A hC hR hS hl
  obtain ⟨h, rfl⟩ := h
  obtain ⟨hc, hin, rfl⟩ := aI_spec hg
  have he := ws_get (x := X) (hR.lt (a := a) (by omega))
  rw [qent_int hc (by omega)] at he
  exact va_zald (D := X.1) (tys := tysOf X) hC.1 hC.2.1 hC.2.2.2.2.2.2.1.1 hR.2.1 (pl a) 2 he rfl hin h (nx X p l e s m args below meth c H locs A hC hR hS hl)
theorem e_lald {a : Nat} {i : Int32} {v : Int64} (h : DC mt pc .laload 1 p2) (hg : aL a i M = some v) (nx : EVG mt R Z k n p2 ls (.long v :: st) M) : EVG mt R Z k n pc ls (.int i :: .ref a :: st) M := by
  intro X p l e s m args below meth c H locs A hC hR hS hl
  obtain ⟨h, rfl⟩ := h
  unfold aL at hg
  split at hg
  · next hc =>
    cases hg
    have he := ws_get (x := X) (hR.lt (a := a) (by omega))
    rw [qent_long hc.1] at he
    exact va_lald (D := X.1) (tys := tysOf X) hC.1 hC.2.1 hC.2.2.2.2.2.2.1.1 hR.2.1 (pl a) 3 he rfl hc.2 h (nx X p l e s m args below meth c H locs A hC hR hS hl)
  · cases hg
theorem aR_spec {kd a r : Nat} {i : Int32} (h : aR kd a i M = some r) : (M.1.2.1 a).1 = kd ∧ vp_in i (M.1.2.1 a).2 ∧ M.1.2.2 a i.toNatClampNeg = some r := by
  unfold aR at h; split at h
  · next hc => exact ⟨hc.1, hc.2, h⟩
  · cases h
theorem e_aald {kd a r : Nat} {i : Int32} (h : DC mt pc .aaload 1 p2) (hk : 104 ≤ kd ∧ kd < 107) (hg : aR kd a i M = some r) (nx : EVG mt R Z k n p2 ls (.ref r :: st) M) : EVG mt R Z k n pc ls (.int i :: .ref a :: st) M := by
  intro X p l e s m args below meth c H locs A hC hR hS hl
  obtain ⟨h, rfl⟩ := h
  obtain ⟨hc, hin, hr⟩ := aR_spec hg
  have he := ws_get (x := X) (hR.lt (a := a) (by omega))
  rw [qent_ref hc (by omega)] at he
  have ht : ∃ ty : FieldType, (tysOf X)[kd - 100]? = some (X.2.1 (kd - 100), ty) ∧ ty.isReference = true := by
    have : kd = 104 ∨ kd = 105 ∨ kd = 106 := by omega
    rcases this with rfl | rfl | rfl
    · exact ⟨_, rfl, rfl⟩
    · exact ⟨_, rfl, rfl⟩
    · exact ⟨_, rfl, rfl⟩
  obtain ⟨ty, ht, hty⟩ := ht
  have hlt : i.toNatClampNeg < (M.1.2.1 a).2 := Nat.not_le.mp fun q => hin (Or.inr q)
  have hnx := nx X p l e s m args below meth c H locs A hC hR hS hl
  exact W.aald (v := va_rf (shO X.2.2.1 (M.1.2.2 a i.toNatClampNeg))) (ty := ty) hC.1 hC.2.1 (hR.2.1 (pl a) _ he) ((hC.2.2.2.2.2.2.1.1.2 (kd - 100) _ ht).1 (M.1.2.1 a).2 (fun j => va_rf (shO X.2.2.1 (M.1.2.2 a j)))) hty (fun q => by cases q) (by show ¬ (i < 0 ∨ (arrV _ _ _).slots.size ≤ _); rw [arrV_size]; exact hin) (by show (arrV _ _ _).slots[_]? = _; rw [arrV_read _ _ hlt]) rfl rfl h (by rw [hr]; exact hnx)
theorem e_alen {a : Nat} {v : Int32} (h : DC mt pc .arraylength 1 p2) (hg : aN a M = some v) (nx : EVG mt R Z k n p2 ls (.int v :: st) M) : EVG mt R Z k n pc ls (.ref a :: st) M := by
  intro X p l e s m args below meth c H locs A hC hR hS hl
  obtain ⟨h, rfl⟩ := h
  unfold aN at hg
  split at hg
  · next hc =>
    have hv := Option.some.inj hg
    have he := ws_get (x := X) (hR.lt (a := a) (by omega))
    have ht : ∃ ty, (tysOf X)[(M.1.2.1 a).1 - 100]? = some (X.2.1 ((M.1.2.1 a).1 - 100), ty) := by
      generalize (M.1.2.1 a).1 = kd at hc
      have : kd = 100 ∨ kd = 101 ∨ kd = 102 ∨ kd = 103 ∨ kd = 104 ∨ kd = 105 ∨ kd = 106 := by omega
      rcases this with rfl | rfl | rfl | rfl | rfl | rfl | rfl <;> exact ⟨_, rfl⟩
    obtain ⟨ty, ht⟩ := ht
    by_cases h1 : (M.1.2.1 a).1 < 103
    · rw [qent_int rfl ⟨hc.1, h1⟩] at he
      exact va_alen (D := X.1) (tys := tysOf X) hC.1 hC.2.1 hC.2.2.2.2.2.2.1.1 hR.2.1 (pl a) _ he ht hv h (nx X p l e s m args below meth c H locs A hC hR hS hl)
    · by_cases h2 : (M.1.2.1 a).1 = 103
      · rw [qent_long h2] at he
        exact va_alen (D := X.1) (tys := tysOf X) hC.1 hC.2.1 hC.2.2.2.2.2.2.1.1 hR.2.1 (pl a) 3 he rfl hv h (nx X p l e s m args below meth c H locs A hC hR hS hl)
      · rw [qent_ref rfl (by omega)] at he
        exact va_alen (D := X.1) (tys := tysOf X) hC.1 hC.2.1 hC.2.2.2.2.2.2.1.1 hR.2.1 (pl a) _ he ht hv h (nx X p l e s m args below meth c H locs A hC hR hS hl)
  · cases hg
/-- an array's cell is written -/
theorem arr_put {X : QX} {M M1 : MM} {H H1 : Heap} {a : Nat} {cA : ClassId} {y : vp_A} (hR : Rp X M H) (hlt : pl a < M.1.1) (he : (wsOf X M)[pl a]? = some (X.2.2.1 + pl a, qent X M a)) (h0 : M1.1.1 = M.1.1) (h1 : M1.1.2.1 = M.1.2.1) (hb : ∀ b, b ≠ a → M1.2.1 b = M.2.1 b ∧ M1.2.2 b = M.2.2 b ∧ M1.1.2.2 b = M.1.2.2 b)
    (hE : qent X M1 a = .inl (cA, y)) (e1 : H1[X.2.2.1 + pl a]? = some (vp_cell cA y)) (z : H1.size = H.size) (oq : ∀ q9, q9 ≠ X.2.2.1 + pl a → H1[q9]? = H[q9]?) : Rp X M1 H1 := by
  refine ⟨by rw [z, h0]; exact hR.1, ?_, fun b hb9 => by rw [h1]; exact hR.2.2 b (by rw [← h0]; exact hb9)⟩
  have hset := hR.2.1.set (ws_D X M) he (e := .inl (cA, y)) (H1 := H1) e1 oq
  rw [ws_set (M1 := M1) h0 hlt hE (fun b hb9 => qent_congr (by rw [h1]) (hb b hb9).1 (hb b hb9).2.1 (hb b hb9).2.2)] at hset
  exact hset
theorem sI_spec {kd a : Nat} {i v : Int32} {M1 : MM} (h : sI kd a i v M = some M1) : (M.1.2.1 a).1 = kd ∧ vp_in i (M.1.2.1 a).2 ∧ M1 = (M.1, upd2 M.2.1 a i.toNatClampNeg (nrw kd v), M.2.2) := by
  unfold sI at h; split at h
  · next hc => exact ⟨hc.1, hc.2, (Option.some.inj h).symm⟩
  · cases h
theorem arr_int {X : QX} {M : MM} {H H1 : Heap} {a kd : Nat} {i w : Int32} (hR : Rp X M H) (hc : (M.1.2.1 a).1 = kd) (hk : 100 ≤ kd ∧ kd < 103)
    (e1 : H1[X.2.2.1 + pl a]? = some ((vp_cell (X.2.1 (kd - 100)) ((M.1.2.1 a).2, .inl (M.2.1 a))).setSlot i.toNatClampNeg (.int w))) (z : H1.size = H.size) (oq : ∀ q9, q9 ≠ X.2.2.1 + pl a → H1[q9]? = H[q9]?) : Rp X (M.1, upd2 M.2.1 a i.toNatClampNeg w, M.2.2) H1 := by
  have hlt := hR.lt (a := a) (by omega)
  refine arr_put (M1 := (M.1, upd2 M.2.1 a i.toNatClampNeg w, M.2.2)) hR hlt (ws_get hlt) rfl rfl (fun b hb => ⟨upd2_ne hb, rfl, rfl⟩) (qent_int hc hk) ?_ z oq
  rw [e1, vp_cell_i, vp_cell_i, arrV_store]
  congr 2
  funext q
  by_cases hq : q = i.toNatClampNeg
  · subst hq; simp [updV, upd2]
  · simp [updV, upd2, hq]
theorem e_iast {a : Nat} {i v : Int32} {M1 : MM} (h : DC mt pc .iastore 1 p2) (hg : sI 100 a i v M = some M1) (nx : EVG mt R Z k n p2 ls st M1) : EVG mt R Z k n pc ls (.int v :: .int i :: .ref a :: st) M := by
  intro X p l e s m args below meth c H locs A hC hR hS hl
  obtain ⟨h, rfl⟩ := h
  obtain ⟨hc, hin, rfl⟩ := sI_spec hg
  have he := ws_get (x := X) (hR.lt (a := a) (by omega))
  rw [qent_int hc (by omega)] at he
  refine W.iast hC.1 hC.2.1 (hR.2.1 (pl a) _ he) ((hC.2.2.2.2.2.2.1.1.2 0 _ rfl).1 (M.1.2.1 a).2 (fun j => .int (M.2.1 a j))) (fun q => by cases q) (by show ¬ (i < 0 ∨ (arrV _ _ _).slots.size ≤ _); rw [arrV_size]; exact hin) rfl rfl h fun H1 e1 z oq => ?_
  exact nx X p l e s m args below meth c H1 _ A hC (arr_int hR hc (by omega) e1 z oq) (hS.put z oq (Nat.le_add_right _ _)) hl
theorem e_bast {a : Nat} {i v : Int32} {M1 : MM} (h : DC mt pc .bastore 1 p2) (hg : sI 101 a i v M = some M1) (nx : EVG mt R Z k n p2 ls st M1) : EVG mt R Z k n pc ls (.int v :: .int i :: .ref a :: st) M := by
  intro X p l e s m args below meth c H locs A hC hR hS hl
  obtain ⟨h, rfl⟩ := h
  obtain ⟨hc, hin, rfl⟩ := sI_spec hg
  have he := ws_get (x := X) (hR.lt (a := a) (by omega))
  rw [qent_int hc (by omega)] at he
  refine W.bast hC.1 hC.2.1 (hR.2.1 (pl a) _ he) ((hC.2.2.2.2.2.2.1.1.2 1 _ rfl).1 (M.1.2.1 a).2 (fun j => .int (M.2.1 a j))) (fun q => by cases q) (by show ¬ (i < 0 ∨ (arrV _ _ _).slots.size ≤ _); rw [arrV_size]; exact hin) rfl rfl h fun H1 e1 z oq => ?_
  exact nx X p l e s m args below meth c H1 _ A hC (arr_int hR hc (by omega) e1 z oq) (hS.put z oq (Nat.le_add_right _ _)) hl
theorem e_zast {a : Nat} {i v : Int32} {M1 : MM} (h : DC mt pc .bastore 1 p2) (hg : sI 102 a i v M = some M1) (nx : EVG mt R Z k n p2 ls st M1) : EVG mt R Z k n pc ls (.int v :: .int i :: .ref a :: st) M := by
  intro X p l e s m args below meth c H locs A hC hR hS hl
  obtain ⟨h, rfl⟩ := h
  obtain ⟨hc, hin, rfl⟩ := sI_spec hg
  have he := ws_get (x := X) (hR.lt (a := a) (by omega))
  rw [qent_int hc (by omega)] at he
  refine W.zast hC.1 hC.2.1 (hR.2.1 (pl a) _ he) ((hC.2.2.2.2.2.2.1.1.2 2 _ rfl).1 (M.1.2.1 a).2 (fun j => .int (M.2.1 a j))) (fun q => by cases q) (by show ¬ (i < 0 ∨ (arrV _ _ _).slots.size ≤ _); rw [arrV_size]; exact hin) rfl rfl h fun H1 e1 z oq => ?_
  exact nx X p l e s m args below meth c H1 _ A hC (arr_int hR hc (by omega) e1 z oq) (hS.put z oq (Nat.le_add_right _ _)) hl
theorem e_last {a : Nat} {i : Int32} {v : Int64} {M1 : MM} (h : DC mt pc .lastore 1 p2) (hg : sL a i v M = some M1) (nx : EVG mt R Z k n p2 ls st M1) : EVG mt R Z k n pc ls (.long v :: .int i :: .ref a :: st) M := by
  intro X p l e s m args below meth c H locs A hC hR hS hl
  obtain ⟨h, rfl⟩ := h
  unfold sL at hg
  split at hg
  · next hc =>
    cases hg
    obtain ⟨hc, hin⟩ := hc
    have hlt := hR.lt (a := a) (by omega)
    have he := ws_get (x := X) hlt
    rw [qent_long hc] at he
    refine W.last hC.1 hC.2.1 (hR.2.1 (pl a) _ he) ((hC.2.2.2.2.2.2.1.1.2 3 _ rfl).1 (M.1.2.1 a).2 (fun j => .long (M.2.2 a j))) (fun q => by cases q) (by show ¬ (i < 0 ∨ (arrV _ _ _).slots.size ≤ _); rw [arrV_size]; exact hin) rfl rfl h fun H1 e1 z oq => ?_
    refine nx X p l e s m args below meth c H1 _ A hC ?_ (hS.put z oq (Nat.le_add_right _ _)) hl
    refine arr_put (M1 := (M.1, M.2.1, upd2 M.2.2 a i.toNatClampNeg v)) hR hlt (ws_get hlt) rfl rfl (fun b hb => ⟨rfl, upd2_ne hb, rfl⟩) (qent_long hc) ?_ z oq
    rw [e1, vp_cell_l, vp_cell_l, arrV_store]
    congr 2
    funext q
    by_cases hq : q = i.toNatClampNeg
    · subst hq; simp [updV, upd2]
    · simp [updV, upd2, hq]
  · cases hg
end MEMR
