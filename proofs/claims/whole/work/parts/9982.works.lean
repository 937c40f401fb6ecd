/-! ===== the reference's work: all things ===== -/
def FW (sd : Nat) (mi mi' : IM) : Prop := ∀ c j, ¬ (c = 567 ∧ (inSd sd (j / 256) ∨ (28 ≤ j / 256 ∧ j / 256 ≤ 44))) → ¬ (c = 559 ∧ (j = 15 ∨ j = 16)) → mi' c j = mi c j
theorem FW.rf {sd : Nat} {x : IM} : FW sd x x := fun _ _ _ _ => rfl
theorem FW.tr {sd : Nat} {x y w : IM} (h : FW sd x y) (h2 : FW sd y w) : FW sd x w := fun a j q1 q2 => by rw [h2 a j q1 q2, h a j q1 q2]
theorem FPw.fw {sd : Nat} {x y : IM} (h : FPw x y) : FW sd x y := fun a j q1 q2 => h a j (fun g => q1 ⟨g.1, Or.inr (by omega)⟩) q2
theorem flat_get {G : List (List Cd)} {k j : Nat} {x : Cd} (hk : k < G.length) (h : (G.getD k [])[j]? = some x) : G.flatten[(G.take k).flatten.length + j]? = some x := by
  have e : G.flatten = (G.take k).flatten ++ ((G.getD k []) ++ (G.drop (k + 1)).flatten) := by
    conv => lhs; rw [← List.take_append_drop k G]
    rw [List.flatten_append, List.drop_eq_getElem_cons hk, List.flatten_cons]
    simp [List.getD, List.getElem?_eq_getElem hk]
  have hj : j < (G.getD k []).length := by
    rcases Nat.lt_or_ge j (G.getD k []).length with q | q
    · exact q
    · rw [List.getElem?_eq_none q] at h; cases h
  rw [e, List.getElem?_append_right (by omega), Nat.add_sub_cancel_left, List.getElem?_append_left hj]
  exact h
theorem flat_len {G : List (List Cd)} {k : Nat} (hk : k < G.length) : (G.take (k + 1)).flatten.length = (G.take k).flatten.length + (G.getD k []).length ∧ (G.take (k + 1)).flatten.length ≤ G.flatten.length := by
  have e : G.take (k + 1) = G.take k ++ [G.getD k []] := by rw [List.take_succ]; simp [List.getD, List.getElem?_eq_getElem hk]
  constructor
  · rw [e, List.flatten_append, List.length_append, List.flatten_singleton]
  · conv => rhs; rw [← List.take_append_drop (k + 1) G, List.flatten_append, List.length_append]
    omega
section WKS
variable {n z sd : Nat} {ml : JM} {T : Nat → Nat} {N : List Nat} {G : List (List Cd)} {V : List Sh} {mi : IM}
/-- the codes stand -/
def CDs (N : List Nat) (G : List (List Cd)) (mi : IM) : Prop := G.length = N.length ∧ G.flatten.length ≤ 400 ∧ (∀ k, k ≤ N.length → mi 574 k = nI (G.take k).flatten.length) ∧ CM G.flatten mi
theorem CDs_c {mi' : IM} (h : CDs N G mi) (hf : FW sd mi mi') : CDs N G mi' := ⟨h.1, h.2.1, fun k hk => by rw [hf _ _ (by omega) (by omega)]; exact h.2.2.1 k hk, CM_c (fun a j q1 q2 _ => hf _ _ (by omega) (by omega)) h.2.2.2⟩
theorem workM {R : Nat ⊕ List Sh} (hn : 500 < n) (hC : CDs N G mi) (hW : WK T z N G sd V mi) (h15 : mi 559 15 = 0) (hR : rn V (G.getD V.length []) [] = some R) (hl : ∀ p, R = .inr p → ∃ S, p = [S]) (hPl : mi 563 (N.getD V.length 0) = nI (tP T z (N.getD V.length 0)) ∧ N.getD V.length 0 < 403) : ∃ mi', f_Mo_work n 559 (nI V.length) (K mi ml) = some (K mi' ml) ∧ FW sd mi mi' ∧ B01 mi' ∧ ((∃ pl, R = .inl pl ∧ mi' 559 15 = nI 6 ∧ mi' 559 16 = nI pl) ∨ (∃ S, R = .inr [S] ∧ noS S = true ∧ mi' 559 15 = nI 7 ∧ mi' 559 16 = nI (tP T z (N.getD V.length 0))) ∨ ∃ S, R = .inr [S] ∧ noS S = false ∧ mi' 559 15 = 0 ∧ pS mi' (pgs (kd T z) N sd V.length) = cu S ∧ ∀ j, j < V.length → pS mi' (pgs (kd T z) N sd j) = pS mi (pgs (kd T z) N sd j)) := by
  have hW0 := hW
  obtain ⟨⟨w1, ⟨w2, w3⟩, w4, w5, w6, w7⟩, w8, w9⟩ := hW
  obtain ⟨c1, c2, c3, c4⟩ := hC
  have hk : V.length < G.length := by omega
  obtain ⟨l1, l2⟩ := flat_len hk
  unfold f_Mo_work
  rw [o_559, rf_559_28, bnd_s, a_574 (by omega), bnd_s, c3 V.length (by omega)]
  obtain ⟨m1, e1, e2, e3, e4⟩ := work9 (n := n) (ml := ml) (kk := V.length) (by omega) (by omega) (G.getD V.length []) n (G.take V.length).flatten.length [] mi R hR (fun j x hx => c4 _ _ (flat_get hk hx)) (by rw [c3 _ (by omega), l1]) (by omega) (by decide) trivial h15 hW0 (by omega)
  rw [show f_Mo_work_9 n (f_Mo_work_333 n) n 559 (nI V.length) 0 (nI (G.take V.length).flatten.length) (K mi ml) = _ from e1]
  unfold f_Mo_work_333
  rw [g_559, bnd_s]
  rcases e4 with ⟨pl, x1, x2, x3⟩ | ⟨p', x1, x2, x3⟩
  · rw [x2, if_neg (show ¬ nI 6 ≤ 0 by decide)]
    exact ⟨m1, rfl, e2.fw, e3, Or.inl ⟨pl, x1, x2, x3⟩⟩
  · obtain ⟨S, rfl⟩ := hl p' x1
    have hS : pS m1 28 = S := x3.1
    have hW1 := WK_c hW0 e2 e3
    have hb := pgs_b (sd := sd) w5 w6 w7
    have hb' := hb
    unfold inSd at hb'
    rw [x2, if_pos (show (0 : Int32) ≤ 0 by decide), pageM hW1.1.1 hW1.1.2.1.1 w5 w4, bnd_s, show f_Mo_copies n 559 28 (nI (pgs (kd T z) N sd V.length)) (K m1 ml) = _ from copies_S (p := 28) e3 (by omega) (by omega) (by omega) (by omega), bnd_s]
    have f1 : Fr [pgs (kd T z) N sd V.length] m1 (setPg m1 (pgs (kd T z) N sd V.length) (pS m1 28)) := Fr.set Fr.rf (by simp)
    have b1 : B01 (setPg m1 (pgs (kd T z) N sd V.length) (pS m1 28)) := B01_set e3
    have s1 : pS (setPg m1 (pgs (kd T z) N sd V.length) (pS m1 28)) (pgs (kd T z) N sd V.length) = cu S := by rw [pS_set, hS]
    generalize setPg m1 (pgs (kd T z) N sd V.length) (pS m1 28) = m2 at f1 b1 s1
    have s28 : pS m2 28 = S := by rw [f1.pS (by simp; omega)]; exact hS
    have g1 : FW sd mi m2 := e2.fw.tr (fun a j q1 q2 => f1 a j (fun q hq g => by
      rw [List.mem_singleton] at hq
      subst hq
      exact q1 ⟨g.1, Or.inl (by rw [show j / 256 = pgs (kd T z) N sd V.length by omega]; exact hb)⟩))
    rw [show f_Mo_areaOf n 559 28 (K m2 ml) = _ from areaOf_S (p := 28) (by omega) (by omega), bnd_s, s28]
    have hct : ct S 256 ≤ 256 := ct_le _ _
    cases hno : noS S with
    | true =>
      have h0 := ct_noS.mp hno
      have e25 : m2 571 V.length = nI (N.getD V.length 0) := by rw [g1 _ _ (by omega) (by omega)]; exact (w1 V.length w5).1
      have e563 : m2 563 (N.getD V.length 0) = nI (tP T z (N.getD V.length 0)) := by rw [g1 _ _ (by omega) (by omega)]; exact hPl.1
      unfold f_Mo_comesWrong
      rw [h0, if_pos (show nI 0 = 0 from rfl), rf_559_6, bnd_s, rf_559_25, bnd_s, a_571 (by omega), bnd_s, e25, a_563 hPl.2, bnd_s, e563, o_559, p_559, bnd_s, p_559, bnd_s, bnd_s]
      refine ⟨_, rfl, g1.tr (fun a j q1 q2 => by rw [u2, if_neg (by omega), u2, if_neg (by omega)]), fun j => by rw [u2, if_neg (by omega), u2, if_neg (by omega)]; exact b1 j, Or.inr (Or.inl ⟨S, x1, hno, by rw [u2, if_neg (by omega), uE]; rfl, uE⟩)⟩
    | false =>
      have h0 : ct S 256 ≠ 0 := fun q => by rw [ct_noS.mpr q] at hno; cases hno
      rw [if_neg (show ¬ nI (ct S 256) = 0 by rw [show (0 : Int32) = nI 0 from rfl, nI_eq (by omega) (by omega)]; exact h0)]
      refine ⟨m2, rfl, g1, b1, Or.inr (Or.inr ⟨S, x1, hno, by rw [f1 559 15 (fun q _ g => by omega)]; exact x2, s1, fun j hj => ?_⟩)⟩
      have hj' := pgs_b (sd := sd) (show j < N.length by omega) w6 w7
      unfold inSd at hj'
      rw [f1.pS (by simp; exact pgs_ne hj w5 w6 w7 w3), e2.pS (by omega)]
theorem WK_v {V' : List Sh} (h : WK T z N G sd V mi) (hl : V'.length < N.length) (hp : ∀ j, j < V'.length → pS mi (pgs (kd T z) N sd j) = V'.getD j E0) : WK T z N G sd V' mi := ⟨⟨h.1.1, h.1.2.1, h.1.2.2.1, hl, h.1.2.2.2.2⟩, h.2.1, hp⟩
/-- what stays, of all things at once -/
def WA (T : Nat → Nat) (z : Nat) (N : List Nat) (G : List (List Cd)) (sd : Nat) (V : List Sh) (kk : Nat) (mi : IM) : Prop := (ThM T z N G mi ∧ (mi 559 20 = nI sd ∧ sd < 2) ∧ N.length ≤ 14 ∧ cnO (kd T z) false N ≤ 8 ∧ cnO (kd T z) true N ≤ 6) ∧ (CDs N G mi ∧ (mi 559 23 = nI N.length ∧ mi 559 13 = 0) ∧ ∀ j, j < N.length → mi 563 (N.getD j 0) = nI (tP T z (N.getD j 0)) ∧ N.getD j 0 < 403) ∧ B01 mi ∧ (∀ k, k < V.length → cu (V.getD k E0) = V.getD k E0) ∧ ∀ j, j < kk → pS mi (pgs (kd T z) N sd j) = V.getD j E0
theorem WA_c {kk : Nat} {mi' : IM} (h : WA T z N G sd V kk mi) (hf : FW sd mi mi') (hB : B01 mi') {k2 : Nat} (hp : ∀ j, j < k2 → pS mi' (pgs (kd T z) N sd j) = V.getD j E0) : WA T z N G sd V k2 mi' := by
  obtain ⟨⟨h1, ⟨h2, h3⟩, h4⟩, ⟨h5, ⟨h6, h7⟩, h8⟩, h9, h10, h11⟩ := h
  refine ⟨⟨fun j hj => ?_, ⟨by rw [hf _ _ (by omega) (by omega)]; exact h2, h3⟩, h4⟩, ⟨CDs_c h5 hf, ⟨by rw [hf _ _ (by omega) (by omega)]; exact h6, by rw [hf _ _ (by omega) (by omega)]; exact h7⟩, fun j hj => by rw [hf _ _ (by omega) (by omega)]; exact h8 j hj⟩, hB, h10, hp⟩
  rw [hf _ _ (by omega) (by omega), hf _ _ (by omega) (by omega), hf _ _ (by omega) (by omega), hf _ _ (by omega) (by omega)]; exact h1 j hj
theorem read142 {k9 : Nat → MM → Option (Int32 × MM)} (hn : 500 < n) (hV : V.length ≤ N.length) (hO : VOK G V) : ∀ d kk m mi, kk + d = V.length → WA T z N G sd V kk mi → mi 559 15 = 0 → ∃ mi', f_Mo_read_142 n k9 (d + m) 559 (nI kk) (K mi ml) = f_Mo_read_142 n k9 m 559 (nI V.length) (K mi' ml) ∧ FW sd mi mi' ∧ WA T z N G sd V V.length mi' ∧ mi' 559 15 = 0 := by
  intro d
  induction d with
  | zero =>
    intro kk m mi h1 hA h15
    have : kk = V.length := by omega
    subst this
    rw [Nat.zero_add]
    exact ⟨mi, rfl, FW.rf, hA, h15⟩
  | succ d ih =>
    intro kk m mi h1 hA h15
    obtain ⟨o1, o2⟩ := hO kk (by omega)
    have htl : (V.take kk).length = kk := by rw [List.length_take]; omega
    have htg : ∀ j, j < kk → (V.take kk).getD j E0 = V.getD j E0 := fun j hj => by simp [List.getD, List.getElem?_take, hj]
    have hA0 := hA
    obtain ⟨⟨a1, a2, a3, a4, a5⟩, ⟨a6, ⟨a7, a7'⟩, a8⟩, a9, a10, a11⟩ := hA
    have hW : WK T z N G sd (V.take kk) mi := ⟨⟨a1, a2, a3, by omega, a4, a5⟩, a9, fun j hj => by rw [htg j (by omega)]; exact a11 j (by omega)⟩
    obtain ⟨m1, e1, e2, e3, e4⟩ := workM (n := n) (ml := ml) hn a6 hW h15 (by rw [htl]; exact o1) (fun p hp => ⟨_, by cases hp; rfl⟩) (by rw [htl]; exact a8 kk (by omega))
    rw [htl] at e1 e4
    rw [show d + 1 + m = d + m + 1 by omega, f_Mo_read_142, g_559, bnd_s, a7, if_neg (show ¬ nI N.length ≤ nI kk by rw [nI_leI (by omega) (by omega)]; omega), g_559, bnd_s, a7', if_pos (show (0 : Int32) = 0 from rfl), g_559, bnd_s, h15, if_pos (show (0 : Int32) = 0 from rfl), e1, bnd_s, nI_1]
    rcases e4 with ⟨pl, x1, _⟩ | ⟨S, x1, x2, _⟩ | ⟨S, x1, x2, x3, x4, x5⟩
    · cases x1
    · cases x1; rw [o2] at x2; cases x2
    · cases x1
      obtain ⟨m2, g1, g2, g3, g4⟩ := ih (kk + 1) m m1 (by omega) (WA_c hA0 e2 e3 (fun j hj => by
        by_cases c : j = kk
        · rw [c, x4]; exact a10 kk (by omega)
        · rw [x5 j (by omega)]; exact a11 j (by omega))) x3
      exact ⟨m2, g1, e2.tr g2, g3, g4⟩
end WKS
