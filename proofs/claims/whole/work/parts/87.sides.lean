/-! ===== THE CUT: what both sides make of it ===== -/
def cuF (W I : Nat → Bool) (z w : Int) : Nat → Bool := cu (fun i => shC z w I i && W i)
def cuS (W I : Nat → Bool) (z w : Int) : Nat → Bool := cu (fun i => W i && !cuF W I z w i)
def cuL (W I : Nat → Bool) (z w : Int) : Nat → Bool := cu (fun i => I i && !shC (-z) (-w) (cuF W I z w) i)
def prt (W I : Nat → Bool) (z w : Int) : Bool := !noS (cuF W I z w) && decide (pcs 256 0 (cuF W I z w) = 1) && decide (pcs 256 0 (cuS W I z w) = 1) && anyG (cuS W I z w) (baC (cuL W I z w))
theorem sh_in {z w : Int} {S : Nat → Bool} {i : Nat} (hi : i < 256) : shC (-z) (-w) S i = (sIn z w i && S (sTo z w i)) := by
  unfold shC
  rw [cu_in hi]
  unfold shS
  rw [Int.neg_neg, Int.neg_neg]
theorem sh_to {z w : Int} {S : Nat → Bool} {i : Nat} (hi : i < 256) (h : sIn z w i = true) : shC z w S (sTo z w i) = S i := by
  have h3 := sTo_ok hi h
  unfold shC
  rw [cu_in h3.1]
  unfold shS
  rw [h3.2.1, h3.2.2, Bool.true_and]
theorem cuL_t {W I : Nat → Bool} {z w : Int} {i : Nat} (hi : i < 256) : cuL W I z w i = (I i && !(sIn z w i && W (sTo z w i))) := by
  unfold cuL
  rw [cu_in hi, sh_in hi]
  cases h : sIn z w i with
  | false => simp
  | true =>
    unfold cuF
    rw [cu_in (sTo_ok hi h).1, sh_to hi h]
    cases I i <;> simp
theorem cuF_t {W I : Nat → Bool} {z w : Int} {q : Nat} : cuF W I z w q = true ↔ ∃ k, k < 256 ∧ I k = true ∧ sIn z w k = true ∧ sTo z w k = q ∧ W q = true := by
  unfold cuF
  constructor
  · intro h
    have hq : q < 256 := by
      by_cases c : q < 256
      · exact c
      · rw [cu_out (by omega)] at h; cases h
    rw [cu_in hq, Bool.and_eq_true] at h
    have h1 := h.1
    unfold shC at h1
    rw [cu_in hq] at h1
    unfold shS at h1
    rw [Bool.and_eq_true] at h1
    have h3 := sTo_ok hq h1.1
    rw [Int.neg_neg, Int.neg_neg] at h3
    exact ⟨sTo (-z) (-w) q, h3.1, h1.2, h3.2.1, h3.2.2, h.2⟩
  · rintro ⟨k, k1, k2, k3, rfl, k5⟩
    rw [cu_in (sTo_ok k1 k3).1, sh_to k1 k3, k2, k5]; rfl
/-! sides -/
def sd (S : Nat → Bool) (p q : Int) : Prop := ∃ a b c d : Nat, mnX S 256 = a ∧ mxX S b ∧ mnY S 256 = c ∧ mxY S d ∧ (b : Int) - a = p ∧ (d : Int) - c = q
theorem qF_c : ∀ j, j < 256 → qF j / 32 = j / 32 ∧ qF j / 4 % 8 = 7 - j / 4 % 8 ∧ qF j < 256 ∧ qF (qF j) = j := by decide +kernel
theorem mx_un {S : Nat → Bool} {b b' d d' : Nat} (h0 : noS S = false) (h1 : mxX S b) (h2 : mxX S b') (h3 : mxY S d) (h4 : mxY S d') : b = b' ∧ d = d' := by
  obtain ⟨i, i1, i2⟩ := no_ex.mp h0
  have a1 := h1.2.1 i i1 i2
  have a2 := h2.2.1 i i1 i2
  have a3 := h3.2.1 i i1 i2
  have a4 := h4.2.1 i i1 i2
  constructor
  · rcases h1.2.2 with c | ⟨j, j1, j2, j3⟩
    · omega
    · rcases h2.2.2 with c | ⟨k, k1, k2, k3⟩
      · omega
      · have := h1.2.1 k k1 k2
        have := h2.2.1 j j1 j2
        omega
  · rcases h3.2.2 with c | ⟨j, j1, j2, j3⟩
    · omega
    · rcases h4.2.2 with c | ⟨k, k1, k2, k3⟩
      · omega
      · have := h3.2.1 k k1 k2
        have := h4.2.1 j j1 j2
        omega
theorem sd_un {S : Nat → Bool} {p q p' q' : Int} (h0 : noS S = false) (h : sd S p q) (h' : sd S p' q') : p = p' ∧ q = q' := by
  obtain ⟨a, b, c, d, h1, h2, h3, h4, h5, h6⟩ := h
  obtain ⟨a', b', c', d', g1, g2, g3, g4, g5, g6⟩ := h'
  have := mx_un h0 h2 g2 h4 g4
  omega
/-- the parts of a nonempty set's sides: both least and greatest are reached -/
theorem mn_at {S : Nat → Bool} (h0 : noS S = false) : (∃ i, i < 256 ∧ S i = true ∧ i / 4 % 8 = mnX S 256) ∧ (∃ i, i < 256 ∧ S i = true ∧ i / 32 = mnY S 256) := by
  obtain ⟨i, i1, i2⟩ := no_ex.mp h0
  constructor
  · rcases (mnX_sp S 256 (by omega)).2 with c | c
    · have := (mnX_sp S 256 (by omega)).1 i i1 i2
      have := x_lt i
      omega
    · exact c
  · rcases (mnY_sp S 256 (by omega)).2 with c | c
    · have := (mnY_sp S 256 (by omega)).1 i i1 i2
      have := y_lt i1
      omega
    · exact c
theorem mx_at {S : Nat → Bool} {b d : Nat} (h0 : noS S = false) (h1 : mxX S b) (h2 : mxY S d) : (∃ i, i < 256 ∧ S i = true ∧ i / 4 % 8 + 1 = b) ∧ (∃ i, i < 256 ∧ S i = true ∧ i / 32 + 1 = d) := by
  obtain ⟨i, i1, i2⟩ := no_ex.mp h0
  have a1 := h1.2.1 i i1 i2
  have a3 := h2.2.1 i i1 i2
  constructor
  · rcases h1.2.2 with c | c
    · omega
    · exact c
  · rcases h2.2.2 with c | c
    · omega
    · exact c
theorem tu_t (fl : Bool) {S : Nat → Bool} {i : Nat} (hi : i < 256) (hs : S i = true) : tuS fl S (qP fl i) = true := by
  unfold tuS
  rw [cu_in (qP_lt fl hi).1, (qP_lt fl hi).2.2.1]; exact hs
theorem tu_f (fl : Bool) {S : Nat → Bool} {j : Nat} (hj : j < 256) (h : tuS fl S j = true) : S (qI fl j) = true := by
  unfold tuS at h
  rw [cu_in hj] at h; exact h
theorem sd_tu {S : Nat → Bool} {p q : Int} (h0 : noS S = false) (h : sd S p q) : sd (tuS false S) q p := by
  obtain ⟨a, b, c, d, h1, h2, h3, h4, h5, h6⟩ := h
  obtain ⟨⟨i1, u1, u2, u3⟩, ⟨i2, v1, v2, v3⟩⟩ := mn_at h0
  obtain ⟨⟨i3, w1, w2, w3⟩, ⟨i4, x1, x2, x3⟩⟩ := mx_at h0 h2 h4
  have sx := mnX_sp S 256 (by omega)
  have sy := mnY_sp S 256 (by omega)
  have T : ∀ i, i < 256 → S i = true → qT i < 256 ∧ tuS false S (qT i) = true ∧ qT i / 32 = i / 4 % 8 ∧ qT i / 4 % 8 = 7 - i / 32 := fun i hi hs => ⟨(qT_c hi).2.2.2, tu_t false hi hs, (qT_c hi).1, (qT_c hi).2.1⟩
  have Ti : ∀ j, j < 256 → tuS false S j = true → S (qTi j) = true ∧ qTi j < 256 ∧ qTi j / 32 = 7 - j / 4 % 8 ∧ qTi j / 4 % 8 = j / 32 := fun j hj hs => ⟨tu_f false hj hs, (qTi_c hj).2.2.2, (qTi_c hj).1, (qTi_c hj).2.1⟩
  refine ⟨8 - d, 8 - c, a, b, mnX_un (fun j hj hs => ?_) (Or.inr ⟨qT i4, (T i4 x1 x2).1, (T i4 x1 x2).2.1, ?_⟩), ⟨by omega, fun j hj hs => ?_, Or.inr ⟨qT i2, (T i2 v1 v2).1, (T i2 v1 v2).2.1, ?_⟩⟩, mnY_un (fun j hj hs => ?_) (Or.inr ⟨qT i1, (T i1 u1 u2).1, (T i1 u1 u2).2.1, ?_⟩), ⟨h2.1, fun j hj hs => ?_, Or.inr ⟨qT i3, (T i3 w1 w2).1, (T i3 w1 w2).2.1, ?_⟩⟩, ?_, h5⟩
  · obtain ⟨t1, t2, t3, t4⟩ := Ti j hj hs
    have := h4.2.1 _ t2 t1
    have := x_lt j
    omega
  · have := (T i4 x1 x2).2.2.2
    have := y_lt x1
    omega
  · obtain ⟨t1, t2, t3, t4⟩ := Ti j hj hs
    have := sy.1 _ t2 t1
    have := x_lt j
    omega
  · have := (T i2 v1 v2).2.2.2
    have := y_lt v1
    omega
  · obtain ⟨t1, t2, t3, t4⟩ := Ti j hj hs
    have := sx.1 _ t2 t1
    omega
  · have := (T i1 u1 u2).2.2.1
    omega
  · obtain ⟨t1, t2, t3, t4⟩ := Ti j hj hs
    have := h2.2.1 _ t2 t1
    omega
  · have := (T i3 w1 w2).2.2.1
    omega
  · have := h4.1
    have := y_lt v1
    omega
theorem sd_fl {S : Nat → Bool} {p q : Int} (h0 : noS S = false) (h : sd S p q) : sd (tuS true S) p q := by
  obtain ⟨a, b, c, d, h1, h2, h3, h4, h5, h6⟩ := h
  obtain ⟨⟨i1, u1, u2, u3⟩, ⟨i2, v1, v2, v3⟩⟩ := mn_at h0
  obtain ⟨⟨i3, w1, w2, w3⟩, ⟨i4, x1, x2, x3⟩⟩ := mx_at h0 h2 h4
  have sx := mnX_sp S 256 (by omega)
  have sy := mnY_sp S 256 (by omega)
  have T : ∀ i, i < 256 → S i = true → qF i < 256 ∧ tuS true S (qF i) = true ∧ qF i / 32 = i / 32 ∧ qF i / 4 % 8 = 7 - i / 4 % 8 := fun i hi hs => ⟨(qF_c i hi).2.2.1, tu_t true hi hs, (qF_c i hi).1, (qF_c i hi).2.1⟩
  have Ti : ∀ j, j < 256 → tuS true S j = true → S (qF j) = true ∧ qF j < 256 ∧ qF j / 32 = j / 32 ∧ qF j / 4 % 8 = 7 - j / 4 % 8 := fun j hj hs => ⟨tu_f true hj hs, (qF_c j hj).2.2.1, (qF_c j hj).1, (qF_c j hj).2.1⟩
  refine ⟨8 - b, 8 - a, c, d, mnX_un (fun j hj hs => ?_) (Or.inr ⟨qF i3, (T i3 w1 w2).1, (T i3 w1 w2).2.1, ?_⟩), ⟨by omega, fun j hj hs => ?_, Or.inr ⟨qF i1, (T i1 u1 u2).1, (T i1 u1 u2).2.1, ?_⟩⟩, mnY_un (fun j hj hs => ?_) (Or.inr ⟨qF i2, (T i2 v1 v2).1, (T i2 v1 v2).2.1, ?_⟩), ⟨h4.1, fun j hj hs => ?_, Or.inr ⟨qF i4, (T i4 x1 x2).1, (T i4 x1 x2).2.1, ?_⟩⟩, ?_, h6⟩
  · obtain ⟨t1, t2, t3, t4⟩ := Ti j hj hs
    have := h2.2.1 _ t2 t1
    have := x_lt j
    omega
  · have := (T i3 w1 w2).2.2.2
    have := x_lt i3
    omega
  · obtain ⟨t1, t2, t3, t4⟩ := Ti j hj hs
    have := sx.1 _ t2 t1
    have := x_lt j
    omega
  · have := (T i1 u1 u2).2.2.2
    have := x_lt i1
    omega
  · obtain ⟨t1, t2, t3, t4⟩ := Ti j hj hs
    have := sy.1 _ t2 t1
    omega
  · have := (T i2 v1 v2).2.2.1
    omega
  · obtain ⟨t1, t2, t3, t4⟩ := Ti j hj hs
    have := h4.2.1 _ t2 t1
    omega
  · have := (T i4 x1 x2).2.2.1
    omega
  · have := h2.1
    have := x_lt i1
    omega
theorem sd_sh {S : Nat → Bool} {p q z w : Int} (h0 : noS S = false) (ho : sOff z w S = false) (h : sd S p q) : sd (shC z w S) p q := by
  obtain ⟨a, b, c, d, h1, h2, h3, h4, h5, h6⟩ := h
  obtain ⟨⟨i3, w1, w2, w3⟩, ⟨i4, x1, x2, x3⟩⟩ := mx_at h0 h2 h4
  obtain ⟨m1, m2⟩ := mn_sh ho w1 w2
  have so := sOff_f.mp ho
  have T : ∀ i, i < 256 → S i = true → sTo z w i < 256 ∧ shC z w S (sTo z w i) = true ∧ ((sTo z w i / 32 : Nat) : Int) = ((i / 32 : Nat) : Int) + w ∧ ((sTo z w i / 4 % 8 : Nat) : Int) = ((i / 4 % 8 : Nat) : Int) + z := fun i hi hs => by
    have hin := so i hi hs
    have hc := sTo_c hi hin
    exact ⟨hc.2.2.2, by rw [sh_to hi hin]; exact hs, hc.1, hc.2.1⟩
  have t3 := T i3 w1 w2
  have t4 := T i4 x1 x2
  refine ⟨mnX (shC z w S) 256, sTo z w i3 / 4 % 8 + 1, mnY (shC z w S) 256, sTo z w i4 / 32 + 1, rfl, ⟨by have := x_lt (sTo z w i3); omega, fun j hj hs => ?_, Or.inr ⟨sTo z w i3, t3.1, t3.2.1, rfl⟩⟩, rfl, ⟨by have := y_lt t4.1; omega, fun j hj hs => ?_, Or.inr ⟨sTo z w i4, t4.1, t4.2.1, rfl⟩⟩, ?_, ?_⟩
  · obtain ⟨k, k1, k2, k3, k4, k5, k6⟩ := shC_t.mp hs
    have := h2.2.1 k k1 k2
    have := t3.2.2.2
    omega
  · obtain ⟨k, k1, k2, k3, k4, k5, k6⟩ := shC_t.mp hs
    have := h4.2.1 k k1 k2
    have := t4.2.2.1
    omega
  · have := t3.2.2.2
    omega
  · have := t4.2.2.1
    omega
theorem no_ct {S T : Nat → Bool} (h : ct S 256 = ct T 256) (h0 : noS S = false) : noS T = false := by
  cases e : noS T with
  | false => rfl
  | true =>
    rw [ct_noS.mp e] at h
    rw [ct_noS.mpr h] at h0; cases h0
theorem ba_sh (S : Nat → Bool) : baC S = shC (bsX S) (bsY S) S := by
  have h := base_in S
  unfold baC shC
  refine cu_ext fun i _ => ?_
  unfold baS
  rw [h]; rfl
theorem sd_ba {S : Nat → Bool} {p q : Int} (h0 : noS S = false) (h : sd S p q) : sd (baC S) p q := by
  rw [ba_sh]
  exact sd_sh h0 (base_in S) h
theorem sd_tuN : ∀ (k : Nat) (S : Nat → Bool) {p q : Int}, noS S = false → sd S p q → sd (tuN k S) p q ∨ sd (tuN k S) q p
  | 0, _, _, _, _, h => Or.inl h
  | k + 1, S, p, q, h0, h => by
    rcases sd_tuN k (tuS false S) (no_ct (ct_tu false S).symm h0) (sd_tu h0 h) with c | c
    · exact Or.inr c
    · exact Or.inl c
theorem sd_im {S : Nat → Bool} {p q : Int} (g : Nat) (h0 : noS S = false) (h : sd S p q) : sd (imS g S) p q ∨ sd (imS g S) q p := by
  unfold imS
  have key : ∀ T, noS T = false → sd T p q → sd (baC (tuN (g % 4) T)) p q ∨ sd (baC (tuN (g % 4) T)) q p := fun T t0 t => by
    have n := no_ct (ct_tuN (g % 4) T).symm t0
    rcases sd_tuN (g % 4) T t0 t with c | c
    · exact Or.inl (sd_ba n c)
    · exact Or.inr (sd_ba n c)
  by_cases c : 4 ≤ g
  · rw [if_pos c]
    exact key _ (no_ct (ct_tu true S).symm h0) (sd_fl h0 h)
  · rw [if_neg c]
    exact key _ h0 h
theorem anyG_t {S T : Nat → Bool} : anyG S T = true ↔ ∃ g, g < 8 ∧ smS (imS g S) T = true := fnd_is
theorem like_ct {S L : Nat → Bool} (h : anyG S (baC L) = true) : ct S 256 = ct L 256 := by
  obtain ⟨g, _, h⟩ := anyG_t.mp h
  rw [← ct_im g S, ← ct_ba L]
  exact ct_ext fun k hk => smS_iff.mp h k hk
theorem like_sd {S L : Nat → Bool} {p q p' q' : Int} (h : anyG S (baC L) = true) (h0 : noS S = false) (h1 : sd S p q) (h2 : sd L p' q') : (p = p' ∧ q = q') ∨ (p = q' ∧ q = p') := by
  have hL := no_ct (like_ct h) h0
  obtain ⟨g, _, hg⟩ := anyG_t.mp h
  have e : imS g S = baC L := (smS_cu (im_cu g S) (cu_cu _)).mp hg
  have h3 := sd_ba hL h2
  rw [← e] at h3
  rcases sd_im g h0 h1 with c | c
  · have := sd_un (im_no g h0) c h3; omega
  · have := sd_un (im_no g h0) c h3; omega
