/-! ===== SHAPES as sets of 256 QUARTERS; IMAGES; the reference's pages hold them ===== -/
def cu (S : Nat → Bool) : Nat → Bool := fun i => decide (i < 256) && S i
theorem cu_in {S : Nat → Bool} {i : Nat} (h : i < 256) : cu S i = S i := by simp [cu, h]
theorem cu_out {S : Nat → Bool} {i : Nat} (h : 256 ≤ i) : cu S i = false := by simp [cu, Nat.not_lt.mpr h]
theorem cu_ext {S T : Nat → Bool} (h : ∀ i, i < 256 → S i = T i) : cu S = cu T := by
  funext i
  by_cases hi : i < 256
  · rw [cu_in hi, cu_in hi, h i hi]
  · rw [cu_out (by omega), cu_out (by omega)]
theorem cu_cu (S : Nat → Bool) : cu (cu S) = cu S := cu_ext fun i hi => cu_in hi
def pS (mi : IM) (p : Nat) : Nat → Bool := cu (pg mi p)
theorem pS_in {mi : IM} {p i : Nat} (h : i < 256) : pS mi p i = pg mi p i := cu_in h
theorem pS_cu (mi : IM) (p : Nat) : cu (pS mi p) = pS mi p := cu_cu _
def tuS (fl : Bool) (S : Nat → Bool) : Nat → Bool := cu (fun j => S (qI fl j))
def shC (z w : Int) (S : Nat → Bool) : Nat → Bool := cu (shS z w S)
def baC (S : Nat → Bool) : Nat → Bool := cu (baS S)
theorem setPg_ext {mi : IM} {q : Nat} {S T : Nat → Bool} (h : ∀ i, i < 256 → S i = T i) : setPg mi q S = setPg mi q T := by
  funext c j
  unfold setPg
  split
  · next hc => rw [h _ (by omega)]
  · rfl
theorem sOff_ext {z w : Int} {S T : Nat → Bool} (h : ∀ i, i < 256 → S i = T i) : sOff z w S = sOff z w T := by
  unfold sOff
  have : ∀ l : List Nat, (∀ k ∈ l, k < 256) → l.any (fun k => S k && !sIn z w k) = l.any (fun k => T k && !sIn z w k) := by
    intro l
    induction l with
    | nil => intro _; rfl
    | cons a l ih => intro hl; simp only [List.any_cons]; rw [h a (hl a List.mem_cons_self), ih fun k hk => hl k (List.mem_cons_of_mem _ hk)]
  exact this _ fun k hk => List.mem_range.mp hk
theorem shS_ext {z w : Int} {S T : Nat → Bool} (h : ∀ i, i < 256 → S i = T i) {j : Nat} (hj : j < 256) : shS z w S j = shS z w T j := by
  unfold shS
  cases e : sIn (-z) (-w) j with
  | false => rfl
  | true => rw [h _ (sTo_ok hj e).1]
theorem bs_ext {S T : Nat → Bool} (h : ∀ i, i < 256 → S i = T i) : bsX S = bsX T ∧ bsY S = bsY T := by
  obtain ⟨h1, h2⟩ := mn_congr h
  unfold bsX bsY
  rw [h1, h2]; exact ⟨rfl, rfl⟩
theorem baS_ext {S T : Nat → Bool} (h : ∀ i, i < 256 → S i = T i) {j : Nat} (hj : j < 256) : baS S j = baS T j := by
  unfold baS
  rw [(bs_ext h).1, (bs_ext h).2, sOff_ext h, shS_ext h hj]
/-- nothing changed but these pages -/
def Fr (ps : List Nat) (mi mi' : IM) : Prop := ∀ c j, (∀ q ∈ ps, ¬ (c = 567 ∧ 256 * q ≤ j ∧ j < 256 * q + 256)) → mi' c j = mi c j
theorem Fr.rf {ps : List Nat} {mi : IM} : Fr ps mi mi := fun _ _ _ => rfl
theorem Fr.set {ps : List Nat} {mi mi' : IM} {q : Nat} {S : Nat → Bool} (h : Fr ps mi mi') (hq : q ∈ ps) : Fr ps mi (setPg mi' q S) := fun c j hc => by
  rw [setPg_out (hc q hq)]; exact h c j hc
theorem Fr.trans {ps : List Nat} {a b c : IM} (h : Fr ps a b) (h2 : Fr ps b c) : Fr ps a c := fun x j hc => by rw [h2 x j hc, h x j hc]
theorem Fr.mono {ps qs : List Nat} {a b : IM} (h : Fr ps a b) (hs : ∀ q ∈ ps, q ∈ qs) : Fr qs a b := fun x j hc => h x j fun q hq => hc q (hs q hq)
theorem Fr.pS {ps : List Nat} {a b : IM} (h : Fr ps a b) {p : Nat} (hp : p ∉ ps) : pS b p = pS a p := by
  refine cu_ext fun i hi => ?_
  unfold pg
  rw [h 567 (256 * p + i) (fun q hq => by
    have : q ≠ p := fun e => hp (e ▸ hq)
    omega)]
theorem pS_set {mi : IM} {p : Nat} {S : Nat → Bool} : pS (setPg mi p S) p = cu S := cu_ext fun i hi => pg_set hi
theorem pS_ne {mi : IM} {p q : Nat} {S : Nat → Bool} (h : p ≠ q) : pS (setPg mi q S) p = pS mi p := cu_ext fun i hi => pg_ne hi h
section PGS
variable {n p q : Nat} {mi : IM} {ml : JM}
theorem copies_S (hb : B01 mi) (hp : p < 56) (hq : q < 56) (hpq : p ≠ q) (hn : 256 < n) : f_Mo_copies n 559 (nI p) (nI q) (K mi ml) = some (K (setPg mi q (pS mi p)) ml) := by
  rw [copies_s hb hp hq hpq hn, setPg_ext fun i hi => (pS_in hi).symm]
theorem turns_S (fl : Bool) (hp : p < 56) (hq : q < 56) (hpq : p ≠ q) (hn : 256 < n) : f_Mo_turns n 559 (nI p) (nI q) (b2i fl) (K mi ml) = some (K (setPg mi q (tuS fl (pS mi p))) ml) := by
  rw [turns_s fl hp hq hpq hn]
  congr 2
  refine setPg_ext fun i hi => ?_
  unfold tuS
  rw [cu_in hi, pS_in (qP_lt fl hi).2.1]
theorem shifts_S {z w : Int} (hp : p < 56) (hq : q < 56) (hpq : p ≠ q) (hz : -8 ≤ z ∧ z ≤ 8) (hw : -8 ≤ w ∧ w ≤ 8) (hn : 256 < n) : f_Mo_shifts n 559 (nI p) (nI q) (iZ z) (iZ w) (K mi ml) = some (b2i (!sOff z w (pS mi p)), K (setPg mi q (shC z w (pS mi p))) ml) := by
  have he : ∀ i, i < 256 → pg mi p i = pS mi p i := fun i hi => (pS_in hi).symm
  rw [shifts_s hp hq hpq hz hw hn, sOff_ext he]
  congr 3
  refine setPg_ext fun i hi => ?_
  unfold shC
  rw [cu_in hi, shS_ext he hi]
theorem bases_S (hp : p < 56) (hq : q < 56) (hpq : p ≠ q) (hn : 256 < n) : f_Mo_bases n 559 (nI p) (nI q) (K mi ml) = some (K (setPg mi q (baC (pS mi p))) ml) := by
  have he : ∀ i, i < 256 → pg mi p i = pS mi p i := fun i hi => (pS_in hi).symm
  rw [bases_s hp hq hpq hn]
  congr 2
  refine setPg_ext fun i hi => ?_
  unfold baC
  rw [cu_in hi, baS_ext he hi]
/-- turned k times -/
def tuN : Nat → (Nat → Bool) → Nat → Bool
  | 0, S => S
  | k + 1, S => tuN k (tuS false S)
/-- IMAGE g -/
def imS (g : Nat) (S : Nat → Bool) : Nat → Bool := baC (tuN (g % 4) (if 4 ≤ g then tuS true S else S))
theorem tuS_cu (fl : Bool) (S : Nat → Bool) : cu (tuS fl S) = tuS fl S := cu_cu _
theorem imaged_loop {g to : Nat} (hg : g < 8) (hn : 256 < n) (hto : to < 56) (ht1 : to ≠ 44) (ht2 : to ≠ 45) : ∀ (m i : Nat) (mi : IM), i ≤ g % 4 → 4 < m + i → B01 mi → ∃ mi', f_Mo_imaged_32 n (f_Mo_imaged_63 n) m 559 (nI g) (nI to) (nI i) (K mi ml) = some (K mi' ml) ∧ pS mi' to = baC (tuN (g % 4 - i) (pS mi 44)) ∧ Fr [44, 45, to] mi mi' ∧ B01 mi' := by
  intro m
  induction m with
  | zero => intro i mi h1 h2; omega
  | succ m ih =>
    intro i mi h1 h2 hb
    rw [f_Mo_imaged_32, ir1 (n := 4) (by omega) (by omega) (by omega)]
    by_cases hi : g % 4 ≤ i
    · have e : g % 4 - i = 0 := by omega
      rw [if_pos (nI_le hi (by omega))]
      unfold f_Mo_imaged_63
      rw [show (44 : Int32) = nI 44 from rfl, bases_S (by omega) hto (by omega) hn, bnd_s, e]
      exact ⟨_, rfl, by rw [pS_set]; exact cu_cu _, Fr.rf.set (by simp), B01_set hb⟩
    · rw [if_neg (by rw [nI_leI (by omega) (by omega)]; exact hi), show (44 : Int32) = nI 44 from rfl, show (45 : Int32) = nI 45 from rfl, show (0 : Int32) = b2i false from rfl, turns_S false (by omega) (by omega) (by omega) hn, bnd_s, copies_S (B01_set hb) (by omega) (by omega) (by omega) hn, bnd_s, nI_1]
      obtain ⟨mi', h3, h4, h5, h6⟩ := ih (i + 1) (setPg (setPg mi 45 (tuS false (pS mi 44))) 44 (pS (setPg mi 45 (tuS false (pS mi 44))) 45)) (by omega) (by omega) (B01_set (B01_set hb))
      refine ⟨mi', h3, ?_, Fr.trans ((Fr.rf.set (by simp)).set (by simp)) h5, h6⟩
      rw [h4, pS_set, pS_set, cu_cu, tuS_cu, show g % 4 - i = (g % 4 - (i + 1)) + 1 by omega]
      rfl
theorem imaged_S {g to : Nat} (hb : B01 mi) (hp : p < 56) (hp1 : p ≠ 44) (hg : g < 8) (hn : 256 < n) (hto : to < 56) (ht1 : to ≠ 44) (ht2 : to ≠ 45) : ∃ mi', f_Mo_imaged n 559 (nI p) (nI g) (nI to) (K mi ml) = some (K mi' ml) ∧ pS mi' to = imS g (pS mi p) ∧ Fr [44, 45, to] mi mi' ∧ B01 mi' := by
  unfold f_Mo_imaged f_Mo_imaged_29
  rw [o_559, show (44 : Int32) = nI 44 from rfl, copies_S hb hp (by omega) (by omega) hn, bnd_s]
  by_cases h3 : g ≤ 3
  · rw [if_pos (by rw [il2 (n := 3) (by omega) (by omega)]; exact h3)]
    obtain ⟨mi', e1, e2, e3, e4⟩ := imaged_loop (ml := ml) hg hn hto ht1 ht2 n 0 (setPg mi 44 (pS mi p)) (by omega) (by omega) (B01_set hb)
    refine ⟨mi', e1, ?_, Fr.trans (Fr.rf.set (by simp)) e3, e4⟩
    rw [e2, pS_set, pS_cu]
    unfold imS
    rw [if_neg (by omega)]; rfl
  · rw [if_neg (by rw [il2 (n := 3) (by omega) (by omega)]; exact h3), show (45 : Int32) = nI 45 from rfl, show (1 : Int32) = b2i true from rfl, turns_S true (by omega) (by omega) (by omega) hn, bnd_s, copies_S (B01_set (B01_set hb)) (by omega) (by omega) (by omega) hn, bnd_s]
    obtain ⟨mi', e1, e2, e3, e4⟩ := imaged_loop (ml := ml) hg hn hto ht1 ht2 n 0 (setPg (setPg (setPg mi 44 (pS mi p)) 45 (tuS true (pS (setPg mi 44 (pS mi p)) 44))) 44 (pS (setPg (setPg mi 44 (pS mi p)) 45 (tuS true (pS (setPg mi 44 (pS mi p)) 44))) 45)) (by omega) (by omega) (B01_set (B01_set (B01_set hb)))
    refine ⟨mi', e1, ?_, Fr.trans (((Fr.rf.set (by simp)).set (by simp)).set (by simp)) e3, e4⟩
    rw [e2, pS_set, pS_set, pS_set, cu_cu, pS_cu, tuS_cu]
    unfold imS
    rw [if_pos (by omega)]; rfl
/-- two SHAPES are the same -/
def smS (S T : Nat → Bool) : Bool := (List.range 256).all (fun i => S i == T i)
theorem smS_iff {S T : Nat → Bool} : smS S T = true ↔ ∀ i, i < 256 → S i = T i := by
  unfold smS
  rw [List.all_eq_true]
  constructor
  · intro h i hi; simpa using h i (List.mem_range.mpr hi)
  · intro h i hi; simpa using h i (List.mem_range.mp hi)
theorem smS_cu {S T : Nat → Bool} (hS : cu S = S) (hT : cu T = T) : smS S T = true ↔ S = T := by
  rw [smS_iff]
  constructor
  · intro h; rw [← hS, ← hT]; exact cu_ext h
  · intro h i _; rw [h]
theorem isSame_loop {r : Nat} (hb : B01 mi) (hp : p < 56) (hr : r < 56) : ∀ (m i : Nat), i ≤ 256 → 256 < m + i → (∀ k, k < i → pS mi p k = pS mi r k) → f_Mo_isSame_2 n m 559 (nI p) (nI r) (nI i) (K mi ml) = some (b2i (smS (pS mi p) (pS mi r)), K mi ml) := by
  intro m
  induction m with
  | zero => intro i h1 h2; omega
  | succ m ih =>
    intro i h1 h2 h3
    rw [f_Mo_isSame_2]
    by_cases hi : i = 256
    · subst hi
      rw [if_pos (by decide), smS_iff.mpr h3]; rfl
    · simp (disch := omega) only [il1 (n := 256), show ¬ 256 ≤ i by omega, if_false, rf_559_18, bnd_s, im2 (n := 256), ia3, a_567, ia1 (n := 1)]
      by_cases hc : mi 567 (256 * p + i) = mi 567 (256 * r + i)
      · rw [if_pos hc]
        refine ih (i + 1) (by omega) (by omega) fun k hk => ?_
        rcases Nat.lt_succ_iff_lt_or_eq.mp hk with q | q
        · exact h3 k q
        · subst q; rw [pS_in (by omega), pS_in (by omega)]; unfold pg; rw [hc]
      · rw [if_neg hc]
        have : smS (pS mi p) (pS mi r) = false := by
          cases e : smS (pS mi p) (pS mi r) with
          | false => rfl
          | true =>
            have h9 := smS_iff.mp e i (by omega)
            rw [pS_in (by omega), pS_in (by omega)] at h9
            exact absurd (by rw [pg01 hb, pg01 hb, h9]) hc
        rw [this]; rfl
theorem isSame_S {r : Nat} (hb : B01 mi) (hp : p < 56) (hr : r < 56) (hn : 256 < n) : f_Mo_isSame n 559 (nI p) (nI r) (K mi ml) = some (b2i (smS (pS mi p) (pS mi r)), K mi ml) := by
  unfold f_Mo_isSame
  rw [o_559, show (0 : Int32) = nI 0 from rfl]
  exact isSame_loop hb hp hr n 0 (by omega) (by omega) (fun k hk => by omega)
end PGS
