/-! ===== THE MACHINE: what waits, and the codes that come out ===== -/
abbrev Wt : Type := Nat × Int × Int × Nat
abbrev Cd : Type := Nat × Int × Int × Int × Int × Nat
abbrev XS : Type := List Wt × List Cd × List (List Cd)
def wC (w : Wt) : Cd := if 12 ≤ w.1 ∧ w.1 ≤ 15 then (w.1 - 7, w.2.1, w.2.2.1, 0, 0, w.2.2.2) else (if w.1 = 43 then 9 else if w.1 = 45 then 10 else 11, 0, 0, 0, 0, 0)
def cO : List Wt → List Cd → List Wt × List Cd
  | [], C => ([], C)
  | w :: W, C => if w.1 = 40 then (w :: W, C) else cO W (C ++ [wC w])
def sgV (k v : Nat → Nat) (t : Nat) : Int := if k (t - 1) = 45 then -(v t : Int) else (v t : Int)
def pbk (k : Nat → Nat) (t : Nat) : Nat := if k (t - 1) = 45 then t - 2 else t - 1
def uIx (k : Nat → Nat) (t : Nat) : Nat := if k (t - 2) = 16 then t - 2 else if k (t - 3) = 18 ∨ k (t - 3) = 19 then t - 3 else t - 4
def uCd (k v : Nat → Nat) (i : Nat) : Cd := (k i - 15, (v (i + 1) : Int), (v (i + 2) : Int), if k i = 16 then 0 else (v (i + 3) : Int), if k i = 17 then (v (i + 4) : Int) else 0, 0)
def fdI (k u : Nat → Nat) (t : Nat) : Int := match fdN k u t with
  | none => -1
  | some j => (j : Int)
def xs (k v u p : Nat → Nat) (t st lf : Nat) (x : XS) : XS :=
  if st = 3 then
    (if k t = 12 ∨ k t = 13 ∨ k t = 14 then ((k t, 0, 0, p t) :: x.1, x.2)
     else if k t = 40 then ((40, 0, 0, p t) :: x.1, x.2)
     else if k t = 2 then ((cO x.1 (x.2.1 ++ [(0, fdI k u t, 0, 0, 0, 0)])).1, (cO x.1 (x.2.1 ++ [(0, fdI k u t, 0, 0, 0, 0)])).2, x.2.2)
     else x)
  else if (st = 4 ∨ st = 5) ∧ k t = 3 ∧ lf = 1 then ((15, sgV k v (pbk k t), sgV k v t, p (pbk k (pbk k t))) :: x.1, x.2)
  else if st = 6 ∧ k t = 3 ∧ lf = 1 then ((cO x.1 (x.2.1 ++ [uCd k v (uIx k t)])).1, (cO x.1 (x.2.1 ++ [uCd k v (uIx k t)])).2, x.2.2)
  else if st = 7 then
    (if k t = 43 ∨ k t = 45 ∨ k t = 38 then ((k t, 0, 0, 0) :: x.1, x.2)
     else if k t = 41 then ((cO x.1.tail x.2.1).1, (cO x.1.tail x.2.1).2, x.2.2)
     else if k t = 59 then ([], [], x.2.2 ++ [x.2.1])
     else x)
  else x
def Xm (k v u p : Nat → Nat) : Nat → XS
  | 0 => ([], [], [])
  | t + 1 => match Au k t with
    | none => Xm k v u p t
    | some s => xs k v u p t s.1 s.2.1 (Xm k v u p t)
def c40 : List Wt → Nat
  | [] => 0
  | w :: W => (if w.1 = 40 then 1 else 0) + c40 W
def okW (W : List Wt) : Prop := ∀ w, w ∈ W → 12 ≤ w.1 ∧ w.1 ≤ 15 ∨ w.1 = 40 ∨ w.1 = 43 ∨ w.1 = 45 ∨ w.1 = 38
def hdW (W : List Wt) : Prop := W = [] ∨ ∃ w W', W = w :: W' ∧ w.1 = 40
/-- all codes so far -/
def alC (x : XS) : List Cd := x.2.2.flatten ++ x.2.1
theorem cO_i : ∀ (W : List Wt) (C : List Cd), okW W → c40 (cO W C).1 = c40 W ∧ (cO W C).1.length + (cO W C).2.length = W.length + C.length ∧ okW (cO W C).1 ∧ hdW (cO W C).1
  | [], C, h => ⟨rfl, rfl, h, Or.inl rfl⟩
  | w :: W, C, h => by
    have hW : okW W := fun x hx => h x (List.mem_cons_of_mem _ hx)
    rw [cO]
    by_cases c : w.1 = 40
    · rw [if_pos c]
      exact ⟨rfl, rfl, h, Or.inr ⟨w, W, rfl, c⟩⟩
    · rw [if_neg c]
      have ih := cO_i W (C ++ [wC w]) hW
      refine ⟨?_, ?_, ih.2.2⟩
      · rw [ih.1, c40, if_neg c, Nat.zero_add]
      · rw [ih.2.1, List.length_append, List.length_singleton, List.length_cons]; omega
section XMM
variable {k v u p : Nat → Nat} {t : Nat} {s : SyS}
theorem Xm_s (h : Au k t = some s) : Xm k v u p (t + 1) = xs k v u p t s.1 s.2.1 (Xm k v u p t) := by
  rw [Xm, h]
theorem c40_0 : ∀ {W : List Wt}, c40 W = 0 → hdW W → W = [] := by
  intro W h hd
  rcases hd with h1 | ⟨w, W', h1, h2⟩
  · exact h1
  · rw [h1, c40, if_pos h2] at h; omega
theorem Xm_i : ∀ {t : Nat} {s : SyS}, Au k t = some s → c40 (Xm k v u p t).1 = s.2.2.1 ∧ (Xm k v u p t).1.length + (alC (Xm k v u p t)).length ≤ t ∧ okW (Xm k v u p t).1 ∧ (s.1 = 7 → hdW (Xm k v u p t).1) ∧ (s.1 ≤ 2 → (Xm k v u p t).1 = [] ∧ (Xm k v u p t).2.1 = []) ∧ (Xm k v u p t).2.2.length = (cN k t).length := by
  intro t
  induction t with
  | zero => intro s h; cases h; exact ⟨rfl, Nat.le_refl 0, (fun w hw => by cases hw), (fun q => Or.inl rfl), (fun _ => ⟨rfl, rfl⟩), rfl⟩
  | succ t ih =>
    intro s' h
    obtain ⟨s, e1, e2, _⟩ := Au_b h
    obtain ⟨i1, i2, i3, i4, i5, i6⟩ := ih e1
    rw [Xm_s e1]
    generalize Xm k v u p t = x at i1 i2 i3 i4 i5 i6
    have hal : ∀ C G, (alC ((x.1, C, G) : XS)).length = G.flatten.length + C.length := fun C G => by unfold alC; rw [List.length_append]
    have hi2 : x.1.length + (x.2.2.flatten.length + x.2.1.length) ≤ t := by
      have := i2
      unfold alC at this
      rw [List.length_append] at this
      exact this
    have hcN : k t ≠ 59 → (cN k (t + 1)).length = (cN k t).length := fun q => by rw [cN, if_neg q]
    have push : ∀ w : Wt, w.1 ≠ 40 → (12 ≤ w.1 ∧ w.1 ≤ 15 ∨ w.1 = 43 ∨ w.1 = 45 ∨ w.1 = 38) → ∀ s'' : SyS, s''.2.2.1 = s.2.2.1 → s''.1 = 3 → k t ≠ 59 → c40 ((w :: x.1, x.2) : XS).1 = s''.2.2.1 ∧ ((w :: x.1, x.2) : XS).1.length + (alC ((w :: x.1, x.2) : XS)).length ≤ t + 1 ∧ okW ((w :: x.1, x.2) : XS).1 ∧ (s''.1 = 7 → hdW ((w :: x.1, x.2) : XS).1) ∧ (s''.1 ≤ 2 → ((w :: x.1, x.2) : XS).1 = [] ∧ ((w :: x.1, x.2) : XS).2.1 = []) ∧ ((w :: x.1, x.2) : XS).2.2.length = (cN k (t + 1)).length := fun w q1 q2 s'' q3 q4 q5 => by
      refine ⟨?_, ?_, ?_, fun q => by omega, fun q => by omega, by rw [hcN q5]; exact i6⟩
      · show c40 (w :: x.1) = _
        rw [c40, if_neg q1, i1, q3, Nat.zero_add]
      · show (w :: x.1).length + (x.2.2.flatten ++ x.2.1).length ≤ _
        rw [List.length_cons, List.length_append]; omega
      · intro y hy
        rcases List.mem_cons.mp hy with rfl | hy
        · omega
        · exact i3 y hy
    have same : ∀ s'' : SyS, s''.2.2.1 = s.2.2.1 → s''.1 ≠ 7 → (s''.1 ≤ 2 → s.1 ≤ 2) → k t ≠ 59 → c40 x.1 = s''.2.2.1 ∧ x.1.length + (alC x).length ≤ t + 1 ∧ okW x.1 ∧ (s''.1 = 7 → hdW x.1) ∧ (s''.1 ≤ 2 → x.1 = [] ∧ x.2.1 = []) ∧ x.2.2.length = (cN k (t + 1)).length := fun s'' q3 q4 q6 q5 => ⟨by rw [i1, q3], by omega, i3, fun q => absurd q q4, fun q => i5 (q6 q), by rw [hcN q5]; exact i6⟩
    have out : ∀ (c : Cd) (s'' : SyS), s''.2.2.1 = s.2.2.1 → s''.1 = 7 → k t ≠ 59 → c40 (((cO x.1 (x.2.1 ++ [c])).1, (cO x.1 (x.2.1 ++ [c])).2, x.2.2) : XS).1 = s''.2.2.1 ∧ (((cO x.1 (x.2.1 ++ [c])).1, (cO x.1 (x.2.1 ++ [c])).2, x.2.2) : XS).1.length + (alC (((cO x.1 (x.2.1 ++ [c])).1, (cO x.1 (x.2.1 ++ [c])).2, x.2.2) : XS)).length ≤ t + 1 ∧ okW (((cO x.1 (x.2.1 ++ [c])).1, (cO x.1 (x.2.1 ++ [c])).2, x.2.2) : XS).1 ∧ (s''.1 = 7 → hdW (((cO x.1 (x.2.1 ++ [c])).1, (cO x.1 (x.2.1 ++ [c])).2, x.2.2) : XS).1) ∧ (s''.1 ≤ 2 → (((cO x.1 (x.2.1 ++ [c])).1, (cO x.1 (x.2.1 ++ [c])).2, x.2.2) : XS).1 = [] ∧ (((cO x.1 (x.2.1 ++ [c])).1, (cO x.1 (x.2.1 ++ [c])).2, x.2.2) : XS).2.1 = []) ∧ (((cO x.1 (x.2.1 ++ [c])).1, (cO x.1 (x.2.1 ++ [c])).2, x.2.2) : XS).2.2.length = (cN k (t + 1)).length := fun c s'' q3 q4 q5 => by
      have hO := cO_i x.1 (x.2.1 ++ [c]) i3
      refine ⟨by rw [q3, ← i1]; exact hO.1, ?_, hO.2.2.1, fun _ => hO.2.2.2, fun q => by omega, by rw [hcN q5]; exact i6⟩
      have h2 := hO.2.1
      rw [show (x.2.1 ++ [c]).length = x.2.1.length + 1 by simp] at h2
      show (cO x.1 (x.2.1 ++ [c])).1.length + (x.2.2.flatten ++ (cO x.1 (x.2.1 ++ [c])).2).length ≤ _
      rw [List.length_append]; omega
    have hb := Au_i e1
    rcases nx_c e2 with ⟨c, d, rfl⟩ | ⟨c, d, rfl⟩ | ⟨c, d, rfl⟩ | ⟨c, d, rfl⟩ | ⟨c, d, rfl⟩ | ⟨c, d, rfl⟩ | ⟨c, d, rfl⟩ | ⟨c, d, rfl⟩ | ⟨c, d, rfl⟩ | ⟨c, d, rfl⟩ | ⟨c, d, rfl⟩ | ⟨c, d, rfl⟩ | ⟨c, d, rfl⟩ | ⟨c, d, rfl⟩ | ⟨c, d, rfl⟩ | ⟨c, d, rfl⟩ | ⟨c, d, rfl⟩ | ⟨c, d, rfl⟩
    · rw [show xs k v u p t s.1 s.2.1 x = x by simp [xs, c]]; exact same _ rfl (by simp) (by omega) (by omega)
    · rw [show xs k v u p t s.1 s.2.1 x = x by simp [xs, c]]; exact same _ rfl (by simp) (by omega) (by omega)
    · rw [show xs k v u p t s.1 s.2.1 x = x by simp [xs, c]]; exact same _ rfl (by simp) (by omega) (by omega)
    · rw [show xs k v u p t s.1 s.2.1 x = x by simp [xs, c]]; exact same _ rfl (by simp) (by omega) (by omega)
    · rw [show xs k v u p t s.1 s.2.1 x = ((k t, 0, 0, p t) :: x.1, x.2) by simp [xs, c, d]]; exact push _ (by simp only []; omega) (by simp only []; omega) _ rfl rfl (by omega)
    · rw [show xs k v u p t s.1 s.2.1 x = x by simp [xs, c, d]]; exact same _ rfl (by simp) (fun q => by simp at q) (by omega)
    · rw [show xs k v u p t s.1 s.2.1 x = ((cO x.1 (x.2.1 ++ [(0, fdI k u t, 0, 0, 0, 0)])).1, (cO x.1 (x.2.1 ++ [(0, fdI k u t, 0, 0, 0, 0)])).2, x.2.2) by simp [xs, c, d]]; exact out _ _ rfl rfl (by omega)
    · rw [show xs k v u p t s.1 s.2.1 x = ((40, 0, 0, p t) :: x.1, x.2) by simp [xs, c, d]]
      refine ⟨?_, ?_, ?_, fun q => by simp at q, fun q => by simp at q, by rw [hcN (by omega)]; exact i6⟩
      · show c40 ((40, 0, 0, p t) :: x.1) = s.2.2.1 + 1
        rw [c40, if_pos rfl, i1]; omega
      · show ((40, 0, 0, p t) :: x.1).length + (x.2.2.flatten ++ x.2.1).length ≤ _
        rw [List.length_cons, List.length_append]; omega
      · intro y hy
        rcases List.mem_cons.mp hy with rfl | hy
        · simp
        · exact i3 y hy
    · rw [show xs k v u p t s.1 s.2.1 x = x by simp [xs, c, d]]; exact same _ rfl (by simp) (fun q => by simp at q) (by omega)
    · rw [show xs k v u p t s.1 s.2.1 x = x by simp [xs, c, d]]; exact same _ rfl (by simp) (fun q => by simp at q) (by omega)
    · rw [show xs k v u p t s.1 s.2.1 x = x by rcases d with d | d <;> simp [xs, c, d]]; exact same _ rfl (by simp) (fun q => by simp at q) (by omega)
    · rw [show xs k v u p t s.1 s.2.1 x = x by simp [xs, c, d]]; exact same _ rfl (by simp) (fun q => by simp at q) (by omega)
    · by_cases f : s.2.1 = 1
      · rw [show xs k v u p t s.1 s.2.1 x = ((15, sgV k v (pbk k t), sgV k v t, p (pbk k (pbk k t))) :: x.1, x.2) by simp [xs, c, d, f]]; exact push _ (by simp) (by simp) _ rfl (by rw [f]; rfl) (by omega)
      · rw [show xs k v u p t s.1 s.2.1 x = x by simp [xs, c, d, f]]; exact same _ rfl (by simp only []; split <;> omega) (fun q => by simp only [] at q; split at q <;> omega) (by omega)
    · by_cases f : s.2.1 = 1
      · rw [show xs k v u p t s.1 s.2.1 x = ((15, sgV k v (pbk k t), sgV k v t, p (pbk k (pbk k t))) :: x.1, x.2) by simp [xs, c, d, f]]; exact push _ (by simp) (by simp) _ rfl (by rw [f]; rfl) (by omega)
      · rw [show xs k v u p t s.1 s.2.1 x = x by simp [xs, c, d, f]]; exact same _ rfl (by simp only []; split <;> omega) (fun q => by simp only [] at q; split at q <;> omega) (by omega)
    · by_cases f : s.2.1 = 1
      · rw [show xs k v u p t s.1 s.2.1 x = ((cO x.1 (x.2.1 ++ [uCd k v (uIx k t)])).1, (cO x.1 (x.2.1 ++ [uCd k v (uIx k t)])).2, x.2.2) by simp [xs, c, d, f]]; exact out _ _ rfl (by rw [f]; rfl) (by omega)
      · have := hb.2.1 (by omega)
        rw [show xs k v u p t s.1 s.2.1 x = x by simp [xs, c, d, f]]; exact same _ rfl (by simp only []; rw [if_pos (by omega)]; omega) (fun q => by simp only [] at q; split at q <;> omega) (by omega)
    · rw [show xs k v u p t s.1 s.2.1 x = ((k t, 0, 0, 0) :: x.1, x.2) by simp [xs, c, d]]; exact push _ (by simp only []; omega) (by simp only []; omega) _ rfl rfl (by omega)
    · rw [show xs k v u p t s.1 s.2.1 x = ((cO x.1.tail x.2.1).1, (cO x.1.tail x.2.1).2, x.2.2) by simp [xs, c, d]]
      rcases i4 c with h0 | ⟨w, W', h0, h40⟩
      · rw [h0] at i1
        have i1 : 0 = s.2.2.1 := i1
        omega
      · have okT : okW W' := fun y hy => i3 y (by rw [h0]; exact List.mem_cons_of_mem _ hy)
        rw [h0, c40, if_pos h40] at i1
        rw [h0, List.length_cons] at hi2
        rw [h0, List.tail_cons]
        have hO := cO_i W' x.2.1 okT
        refine ⟨?_, ?_, hO.2.2.1, fun _ => hO.2.2.2, fun q => by simp at q, by rw [hcN (by omega)]; exact i6⟩
        · show c40 (cO W' x.2.1).1 = s.2.2.1 - 1
          rw [hO.1]; omega
        · show (cO W' x.2.1).1.length + (x.2.2.flatten ++ (cO W' x.2.1).2).length ≤ _
          rw [List.length_append]; have := hO.2.1; omega
    · rw [show xs k v u p t s.1 s.2.1 x = ([], [], x.2.2 ++ [x.2.1]) by simp [xs, c, d]]
      refine ⟨by rw [show (0, s.2).2.2.1 = s.2.2.1 from rfl, d.2]; rfl, ?_, (fun y hy => by cases hy), (fun q => Or.inl rfl), (fun _ => ⟨rfl, rfl⟩), ?_⟩
      · show 0 + ((x.2.2 ++ [x.2.1]).flatten ++ []).length ≤ _
        rw [List.append_nil, List.flatten_append, List.length_append, List.flatten_singleton]; omega
      · rw [cN, if_pos d.1, List.length_append, List.length_append, i6]; rfl
end XMM
