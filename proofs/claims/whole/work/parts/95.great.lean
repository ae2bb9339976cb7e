/-! PURE 95: greatest -/
noncomputable def lf (A : Nat → Nat) (X : Nat → Prop) (l : Nat) : Bool := pb (∃ r, r < 24 ∧ A r = l ∧ X r)
noncomputable def rt (A : Nat → Nat) (X : Nat → Prop) (r : Nat) : Bool := pb (A r < 24 ∧ X r)
theorem cnt_part (Q X : Nat → Prop) (n : Nat) : cnt (fun r => pb (Q r ∧ X r)) n + cnt (fun r => pb (Q r ∧ ¬ X r)) n = cnt (fun r => pb (Q r)) n := by
  induction n with
  | zero => rfl
  | succ n ih =>
    rw [cnt_s, cnt_s, cnt_s]
    by_cases hq : Q n
    · rw [if_pos (pb_iff.mpr hq)]
      by_cases hx : X n
      · rw [if_pos (pb_iff.mpr ⟨hq, hx⟩), if_neg (fun w => (pb_iff.mp w).2 hx)]; omega
      · rw [if_neg (fun w => hx (pb_iff.mp w).2), if_pos (pb_iff.mpr ⟨hq, hx⟩)]; omega
    · rw [if_neg (fun w => hq (pb_iff.mp w)), if_neg (fun w => hq (pb_iff.mp w).1), if_neg (fun w => hq (pb_iff.mp w).1)]; exact ih
theorem rl {A : Nat → Nat} (h : ∀ l, l < 24 → occ A l ≤ 1) (X : Nat → Prop) : cnt (rt A X) 24 = cnt (lf A X) 24 := by
  rw [cnt_nsum (rt A X) 24, cnt_nsum (lf A X) 24]
  have e1 : nsum (fun k => if rt A X k then 1 else 0) 24 = nsum (fun r => nsum (fun l => if pb (A r = l ∧ X r) then 1 else 0) 24) 24 := by
    refine nsum_congr 24 (fun r hr => ?_)
    by_cases ha : A r < 24
    · rw [nsum_one (t := A r) ha (fun k _ hk => if_neg (fun w => hk (pb_iff.mp w).1.symm))]
      by_cases hx : X r
      · rw [if_pos (show rt A X r = true from pb_iff.mpr ⟨ha, hx⟩), if_pos (pb_iff.mpr ⟨rfl, hx⟩)]
      · rw [if_neg (show ¬ rt A X r = true from fun w => hx (pb_iff.mp w).2), if_neg (fun w => hx (pb_iff.mp w).2)]
    · rw [if_neg (show ¬ rt A X r = true from fun w => ha (pb_iff.mp w).1), nsum_0 24 (fun k hk => if_neg (fun w => ha (by have := (pb_iff.mp w).1; omega)))]
  have e2 : nsum (fun l => nsum (fun r => if pb (A r = l ∧ X r) then 1 else 0) 24) 24 = nsum (fun k => if lf A X k then 1 else 0) 24 := by
    refine nsum_congr 24 (fun l hl => ?_)
    rw [← cnt_nsum (fun r => pb (A r = l ∧ X r)) 24]
    have le : cnt (fun r => pb (A r = l ∧ X r)) 24 ≤ 1 := Nat.le_trans (cnt_sub (fun k _ w => decide_eq_true (pb_iff.mp w).1)) (h l hl)
    by_cases hx : lf A X l = true
    · rw [if_pos hx]
      obtain ⟨r, hr, h1, h2⟩ := pb_iff.mp hx
      have : cnt (fun r => pb (A r = l ∧ X r)) 24 ≠ 0 := fun w => cnt_0.mp w r hr (pb_iff.mpr ⟨h1, h2⟩)
      omega
    · rw [if_neg hx]
      exact cnt_0.mpr (fun r hr w => hx (pb_iff.mpr ⟨r, hr, pb_iff.mp w⟩))
  rw [e1, nsum_swap (fun r l => if pb (A r = l ∧ X r) then 1 else 0) 24 24, e2]
/-- after the terms of P -/
def GI (a : AN) (P : Nat → Bool) (A : Nat → Nat) (W : Nat → Prop) : Prop := (∀ r, r < 24 → A r < 24 → aAl a (A r) = true ∧ Ed a (A r) r) ∧ (∀ l, l < 24 → occ A l ≤ 1) ∧ (∀ l, l < 24 → P l = false → occ A l = 0) ∧ Cl a A W ∧ (∀ l, l < 24 → P l = true → occ A l = 0 → ∀ r, r < 24 → Ed a l r → W r)
noncomputable def dm (A : Nat → Nat) : Nat := cnt (fun l => decide (0 < occ A l)) 24
theorem occ_pos {A : Nat → Nat} {l : Nat} : 0 < occ A l ↔ ∃ r, r < 24 ∧ A r = l := by
  constructor
  · intro h
    refine Classical.byContradiction fun w => ?_
    have : occ A l = 0 := cnt_0.mpr (fun k hk q => w ⟨k, hk, of_decide_eq_true q⟩)
    omega
  · rintro ⟨r, hr, e⟩
    have : occ A l ≠ 0 := fun w => cnt_0.mp w r hr (decide_eq_true e)
    omega
theorem dm_rt {A : Nat → Nat} (h : ∀ l, l < 24 → occ A l ≤ 1) : dm A = cnt (fun r => pb (A r < 24)) 24 := by
  have e := rl h (fun _ => True)
  have e1 : cnt (rt A (fun _ => True)) 24 = cnt (fun r => pb (A r < 24)) 24 := cnt_congr 24 (fun r _ => by
    apply Bool.eq_iff_iff.mpr
    show pb (A r < 24 ∧ True) = true ↔ pb (A r < 24) = true
    rw [pb_iff, pb_iff]
    exact ⟨fun w => w.1, fun w => ⟨w, trivial⟩⟩)
  have e2 : cnt (lf A (fun _ => True)) 24 = dm A := cnt_congr 24 (fun l _ => by
    apply Bool.eq_iff_iff.mpr
    show pb (∃ r, r < 24 ∧ A r = l ∧ True) = true ↔ decide (0 < occ A l) = true
    rw [pb_iff, decide_eq_true_iff, occ_pos]
    exact ⟨fun ⟨r, h1, h2, _⟩ => ⟨r, h1, h2⟩, fun ⟨r, h1, h2⟩ => ⟨r, h1, h2, trivial⟩⟩)
  rw [← e1, e, e2]
theorem great {a : AN} {P : Nat → Bool} {A1 A2 : Nat → Nat} {W1 W2 : Nat → Prop} (hP : ∀ l, l < 24 → aAl a l = true → P l = true) (h1 : GI a P A1 W1) (h2 : GI a P A2 W2) : dm A2 ≤ dm A1 := by
  rw [dm_rt h1.2.1, dm_rt h2.2.1, ← cnt_part (fun r => A2 r < 24) W1 24, ← cnt_part (fun r => A1 r < 24) W1 24]
  have q1 : cnt (fun r => pb (A2 r < 24 ∧ W1 r)) 24 ≤ cnt (fun r => pb (A1 r < 24 ∧ W1 r)) 24 := cnt_sub (fun r hr w => pb_iff.mpr ⟨(h1.2.2.2.1 r hr (pb_iff.mp w).2).1, (pb_iff.mp w).2⟩)
  have q2 : cnt (fun r => pb (A2 r < 24 ∧ ¬ W1 r)) 24 ≤ cnt (fun r => pb (A1 r < 24 ∧ ¬ W1 r)) 24 := by
    have k1 := rl h1.2.1 (fun r => ¬ W1 r)
    have k2 := rl h2.2.1 (fun r => ¬ W1 r)
    have k1' : cnt (fun r => pb (A1 r < 24 ∧ ¬ W1 r)) 24 = cnt (lf A1 (fun r => ¬ W1 r)) 24 := k1
    have k2' : cnt (fun r => pb (A2 r < 24 ∧ ¬ W1 r)) 24 = cnt (lf A2 (fun r => ¬ W1 r)) 24 := k2
    rw [k1', k2']
    refine cnt_sub (fun l hl w => ?_)
    obtain ⟨r, hr, e, nw⟩ := pb_iff.mp w
    have ed := h2.1 r hr (by rw [e]; exact hl)
    rw [e] at ed
    have o : occ A1 l ≠ 0 := fun q => nw (h1.2.2.2.2 l hl (hP l hl ed.1) q r hr ed.2)
    obtain ⟨r1, hr1, e1⟩ := occ_pos.mp (by omega : 0 < occ A1 l)
    refine pb_iff.mpr ⟨r1, hr1, e1, fun w1 => nw ?_⟩
    have := (h1.2.2.2.1 r1 hr1 w1).2 r hr
    rw [e1] at this
    exact this ed.2
  omega
def Pp (P : Nat → Bool) (p : Nat) : Nat → Bool := fun k => P k || decide (k = p)
theorem Pp_1 {P : Nat → Bool} {p l : Nat} : Pp P p l = true ↔ P l = true ∨ l = p := by
  unfold Pp
  rw [Bool.or_eq_true, decide_eq_true_iff]
theorem Pp_0 {P : Nat → Bool} {p l : Nat} : Pp P p l = false ↔ P l = false ∧ l ≠ p := by
  unfold Pp
  rw [Bool.or_eq_false_iff, decide_eq_false_iff_not]
/-- one search more: none -/
theorem GI_n {a : AN} {P : Nat → Bool} {A : Nat → Nat} {W W' : Nat → Prop} (h : GI a P A W) {p : Nat} (hc : Cl a A W') (he : ∀ r, r < 24 → Ed a p r → W' r) : GI a (Pp P p) A (fun r => W r ∨ W' r) := by
  refine ⟨h.1, h.2.1, fun l hl q => h.2.2.1 l hl (Pp_0.mp q).1, ?_, ?_⟩
  · intro r hr w
    rcases w with w | w
    · exact ⟨(h.2.2.2.1 r hr w).1, fun r' hr' e => .inl ((h.2.2.2.1 r hr w).2 r' hr' e)⟩
    · exact ⟨(hc r hr w).1, fun r' hr' e => .inr ((hc r hr w).2 r' hr' e)⟩
  · intro l hl q o r hr e
    rcases Pp_1.mp q with q | q
    · exact .inl (h.2.2.2.2 l hl q o r hr e)
    · rw [q] at e
      exact .inr (he r hr e)
/-- one search more: found -/
theorem GI_y {a : AN} {P : Nat → Bool} {A A' : Nat → Nat} {W : Nat → Prop} (h : GI a P A W) {p : Nat} (lp : p < 24) (hp : P p = false) (hw : ∀ r, r < 24 → W r → A' r = A r) (he : ∀ r, r < 24 → A' r = A r ∨ (A' r < 24 ∧ aAl a (A' r) = true ∧ Ed a (A' r) r)) (ho : ∀ l, l < 24 → occ A' l = occ A l + (if p = l then 1 else 0)) : GI a (Pp P p) A' W ∧ dm A' = dm A + 1 := by
  have op := h.2.2.1 p lp hp
  have opp := ho p lp
  rw [if_pos rfl, op] at opp
  have oo : ∀ l, l < 24 → l ≠ p → occ A' l = occ A l := by
    intro l hl e
    rw [ho l hl, if_neg (fun q => e q.symm), Nat.add_zero]
  constructor
  · refine ⟨?_, ?_, ?_, ?_, ?_⟩
    · intro r hr q
      rcases he r hr with e | e
      · rw [e] at q ⊢
        exact h.1 r hr q
      · exact e.2
    · intro l hl
      by_cases e : l = p
      · rw [e]; omega
      · rw [oo l hl e]; exact h.2.1 l hl
    · intro l hl q
      rw [oo l hl (Pp_0.mp q).2]
      exact h.2.2.1 l hl (Pp_0.mp q).1
    · intro r hr w
      rw [hw r hr w]
      exact h.2.2.2.1 r hr w
    · intro l hl q o r hr e
      have ne : l ≠ p := fun z => by rw [z] at o; omega
      rcases Pp_1.mp q with q | q
      · rw [oo l hl ne] at o
        exact h.2.2.2.2 l hl q o r hr e
      · exact absurd q ne
  · unfold dm
    exact cnt_add lp (decide_eq_false (by omega)) (decide_eq_true (by omega)) (fun k hk e => by rw [oo k hk e])
theorem GI_0 (a : AN) : GI a (fun _ => false) (fun _ => 24) (fun _ => False) ∧ dm (fun _ => 24) = 0 := by
  have o : ∀ l, l < 24 → occ (fun _ => 24) l = 0 := fun l hl => cnt_0.mpr (fun k _ q => by have w : 24 = l := of_decide_eq_true q; omega)
  refine ⟨⟨fun r _ q => absurd q (Nat.lt_irrefl 24), fun l hl => by rw [o l hl]; omega, fun l hl _ => o l hl, fun r _ w => w.elim, fun l _ q => absurd q Bool.false_ne_true⟩, ?_⟩
  exact cnt_0.mpr (fun k hk q => by have := of_decide_eq_true q; have := o k hk; omega)
