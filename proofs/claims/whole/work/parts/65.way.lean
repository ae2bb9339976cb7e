/-! PURE 65: the first way, as the class finds it -/
/-- links, one of them barred -/
def bar (E : Nat → Nat → Bool) (b : Bool) (x y : Nat) : Nat → Nat → Bool := fun u v => E u v && !(b && decide (u = x) && decide (v = y))
theorem bar_iff {E : Nat → Nat → Bool} {b : Bool} {x y u v : Nat} : bar E b x y u v = true ↔ (E u v = true ∧ ¬ (b = true ∧ u = x ∧ v = y)) := by
  unfold bar
  by_cases h1 : u = x
  · by_cases h2 : v = y
    · cases b <;> simp [h1, h2]
    · simp [h2]
  · simp [h1]
theorem Wk_bar {E : Nat → Nat → Bool} {b : Bool} {x y : Nat} : ∀ {n u v}, Wk (bar E b x y) n u v → Wk E n u v := by
  intro n
  induction n with
  | zero => exact fun h => h
  | succ n ih =>
    rintro u v ⟨z, h1, h2⟩
    exact ⟨z, (bar_iff.mp h1).1, ih h2⟩
theorem bar_no {E : Nat → Nat → Bool} {x y : Nat} : bar E false x y = E := by
  funext u v
  unfold bar
  simp
/-- at distance k of y -/
def Ds (F : Nat → Nat → Bool) (y k t : Nat) : Prop := Wk F k t y ∧ ∀ j, j < k → ¬ Wk F j t y
theorem Ds_uniq {F : Nat → Nat → Bool} {y k j t : Nat} (h : Ds F y k t) (g : Ds F y j t) : k = j := by
  rcases Nat.lt_trichotomy k j with q | q | q
  · exact absurd h.1 (g.2 k q)
  · exact q
  · exact absurd g.1 (h.2 j q)
theorem Ds_ex {F : Nat → Nat → Bool} {y t : Nat} : ∀ {n}, Wk F n t y → ∃ k, k ≤ n ∧ Ds F y k t := by
  intro n
  induction n using Nat.strongRecOn with
  | _ n ih =>
    intro h
    by_cases q : ∃ j, j < n ∧ Wk F j t y
    · obtain ⟨j, hj, w⟩ := q
      obtain ⟨k, h1, h2⟩ := ih j hj w
      exact ⟨k, by omega, h2⟩
    · exact ⟨n, Nat.le_refl _, h, fun j hj w => q ⟨j, hj, w⟩⟩
theorem Ds_s {F : Nat → Nat → Bool} {y k t : Nat} : Ds F y (k + 1) t ↔ ((¬ ∃ j, j ≤ k ∧ Wk F j t y) ∧ ∃ v, F t v = true ∧ Ds F y k v) := by
  constructor
  · rintro ⟨⟨v, h1, h2⟩, h3⟩
    refine ⟨?_, v, h1, h2, fun j hj w => h3 (j + 1) (by omega) ⟨v, h1, w⟩⟩
    rintro ⟨j, hj, w⟩
    exact h3 j (by omega) w
  · rintro ⟨h1, v, h2, h3⟩
    exact ⟨⟨v, h2, h3.1⟩, fun j hj w => h1 ⟨j, by omega, w⟩⟩
theorem Ds_0 {F : Nat → Nat → Bool} {y t : Nat} : Ds F y 0 t ↔ t = y := ⟨fun h => h.1, fun h => ⟨h, fun j hj => absurd hj (Nat.not_lt_zero _)⟩⟩
noncomputable def LY (F : Nat → Nat → Bool) (y : Nat) (lay : Nat → Int32) (k : Nat) : Nat → Int32 := itr (fun j f => upd f j (bsP (Ds F y j))) lay k
theorem LY_s (F : Nat → Nat → Bool) (y : Nat) (lay : Nat → Int32) (k : Nat) : LY F y lay (k + 1) = upd (LY F y lay k) k (bsP (Ds F y k)) := rfl
theorem LY_at (F : Nat → Nat → Bool) (y : Nat) (lay : Nat → Int32) {k i : Nat} (h : i < k) : LY F y lay k i = bsP (Ds F y i) := by
  induction k with
  | zero => exact absurd h (Nat.not_lt_zero _)
  | succ k ih =>
    rw [LY_s]
    by_cases e : i = k
    · rw [e, updN]
    · rw [updO e]
      exact ih (by omega)
theorem if_id {c : Prop} [Decidable c] {α : Type} (x : α) : (if c then x else x) = x := by
  by_cases h : c
  · rw [if_pos h]
  · rw [if_neg h]
theorem c_layer {n : ND} {a : AN} (hC : CN n a) (hW : WA a) {b : Bool} {p4 : Int32} (hp : (b = true ∧ p4 = 0) ∨ (b = false ∧ p4 = 1)) {x y : Nat} (hx : x < 24) (lay : Nat → Int32) (len : Int32) {j : Nat} (hj : j < 23) (k25 : Int32 → Int32 → (Nat → Int32) → Int32 → Option (Int32 × (Nat → Int32) × Int32)) : f_X1_findWay_l45 n.1 (nI x) (nI y) p4 k25 (bsP (fun t => ∃ i, i ≤ j ∧ Wk (bar (aNr a) b x y) i t y)) (nI (j + 1)) 0 0 (LY (bar (aNr a) b x y) y lay (j + 1)) len = k25 (bsP (fun t => ∃ i, i ≤ j + 1 ∧ Wk (bar (aNr a) b x y) i t y)) (nI (j + 2)) (LY (bar (aNr a) b x y) y lay (j + 2)) (if pb (Ds (bar (aNr a) b x y) y (j + 1) x) then nI (j + 2) else len) := by
  obtain ⟨F, dF⟩ : ∃ F, F = bar (aNr a) b x y := ⟨_, rfl⟩
  have hF : ∀ u v, F u v = true ↔ (aNr a u v = true ∧ ¬ (b = true ∧ u = x ∧ v = y)) := by
    intro u v
    rw [dF]
    exact bar_iff
  rw [← dF]
  unfold f_X1_findWay_l45
  refine loop_go (fun i => (bsP (fun t => ∃ i, i ≤ j ∧ Wk F i t y), nI (j + 1), bset (fun t => pb (Ds F y (j + 1) t)) i, nI i, LY F y lay (j + 1), len)) 24 200 (by decide) rfl ?_ ?_
  · intro i hi rc
    show f_X1_findWay_b45 _ _ _ _ _ _ _ _ _ _ _ _ = _
    unfold f_X1_findWay_b45 f_X1_findWay_b79 f_X1_findWay_b83 f_X1_findWay_b84
    dsimp only
    rw [if_neg (n24 hi), nI_1, bset_s, chk_nI hi (by decide), nI_m1, chk_nI (by omega) (by decide), ix_nI (by omega), ix_nI (by omega), hC.1 i hi]
    have hl : LY F y lay (j + 1) j = bsP (Ds F y j) := LY_at F y lay (by omega)
    simp only [if_neg one0, if_true, hl, bs_eq, bsP_and]
    by_cases hs : ∃ k, k ≤ j ∧ Wk F k i y
    · rw [if_neg (by rw [bsP_hold hi]; exact fun z => z hs), if_neg (fun z => (Ds_s.mp (pb_iff.mp z)).1 hs)]
    · rw [if_pos (by rw [bsP_hold hi]; exact hs)]
      have main : ¬ (i = x ∧ j = 0 ∧ b = true) → (if bsP (fun k => aNr a i k = true ∧ Ds F y j k) = 0 then rc (bsP (fun t => ∃ i, i ≤ j ∧ Wk F i t y), nI (j + 1), bset (fun t => pb (Ds F y (j + 1) t)) i, nI (i + 1), LY F y lay (j + 1), len) else rc (bsP (fun t => ∃ i, i ≤ j ∧ Wk F i t y), nI (j + 1), bset (fun t => pb (Ds F y (j + 1) t)) i ||| jshl 1 (nI i), nI (i + 1), LY F y lay (j + 1), len)) = rc (bsP (fun t => ∃ i, i ≤ j ∧ Wk F i t y), nI (j + 1), if pb (Ds F y (j + 1) i) = true then bset (fun t => pb (Ds F y (j + 1) t)) i ||| jshl 1 (nI i) else bset (fun t => pb (Ds F y (j + 1) t)) i, nI (i + 1), LY F y lay (j + 1), len) := by
        intro hnb
        by_cases q : Ds F y (j + 1) i
        · rw [if_pos (pb_iff.mpr q), if_neg]
          rw [bsP_0]
          intro z
          obtain ⟨_, v, h1, h2⟩ := Ds_s.mp q
          exact z v (W_e24 hW ((hF i v).mp h1).1).2 ⟨((hF i v).mp h1).1, h2⟩
        · rw [if_neg (fun z => q (pb_iff.mp z)), if_pos]
          rw [bsP_0]
          rintro v _ ⟨h1, h2⟩
          refine q (Ds_s.mpr ⟨hs, v, (hF i v).mpr ⟨h1, ?_⟩, h2⟩)
          rintro ⟨z1, z2, z3⟩
          rw [z3] at h2
          have := Ds_uniq h2 (Ds_0.mpr rfl)
          exact hnb ⟨z2, this, z1⟩
      by_cases e1 : i = x
      · rw [if_pos (by rw [e1])]
        by_cases e2 : j = 0
        · rw [if_pos (by rw [e2]; rfl)]
          rcases hp with ⟨hb, hp⟩ | ⟨hb, hp⟩
          · rw [if_pos hp, if_neg]
            intro z
            obtain ⟨_, v, h1, h2⟩ := Ds_s.mp (pb_iff.mp z)
            rw [e2, Ds_0] at h2
            exact ((hF i v).mp h1).2 ⟨hb, e1, h2⟩
          · rw [if_neg (by rw [hp]; exact one0)]
            exact main (fun z => by rw [hb] at z; exact Bool.noConfusion z.2.2)
        · rw [if_neg (show ¬ nI (j + 1) = 1 by rw [show (1 : Int32) = nI 1 from rfl, nI_eq (by omega) (by omega)]; omega)]
          exact main (fun z => e2 z.2.1)
      · rw [if_neg (by rw [nI_eq (by omega) (by omega)]; exact e1)]
        exact main (fun z => e1 z.1)
  · intro rc
    show f_X1_findWay_b45 _ _ _ _ _ _ _ _ _ _ _ _ = _
    unfold f_X1_findWay_b45
    dsimp only
    rw [if_pos y24, chk_nI (by omega) (by decide), ix_nI (by omega), nI_1, show bset (fun t => pb (Ds F y (j + 1) t)) 24 = bsP (Ds F y (j + 1)) from rfl, ← LY_s, bsP_or, bsP_congr (P := fun k => (∃ i, i ≤ j ∧ Wk F i k y) ∨ Ds F y (j + 1) k) (Q := fun t => ∃ i, i ≤ j + 1 ∧ Wk F i t y)]
    · by_cases q : Ds F y (j + 1) x
      · rw [if_neg (by rw [bsP_hold hx]; exact fun z => z q), if_pos (pb_iff.mpr q)]
      · rw [if_pos (by rw [bsP_hold hx]; exact q), if_neg (fun z => q (pb_iff.mp z))]
    · intro t _
      constructor
      · rintro (⟨i, h1, h2⟩ | h)
        · exact ⟨i, by omega, h2⟩
        · exact ⟨j + 1, Nat.le_refl _, h.1⟩
      · rintro ⟨i, h1, h2⟩
        by_cases q : ∃ i, i ≤ j ∧ Wk F i t y
        · exact .inl q
        · have : i = j + 1 := Classical.byContradiction fun z => q ⟨i, by omega, h2⟩
          subst this
          exact .inr ⟨h2, fun k hk w => q ⟨k, by omega, w⟩⟩
theorem c_findWay {n : ND} {a : AN} (hC : CN n a) (hW : WA a) {b : Bool} {p4 : Int32} (hp : (b = true ∧ p4 = 0) ∨ (b = false ∧ p4 = 1)) {x y : Nat} (hx : x < 24) (hy : y < 24) (hne : x ≠ y) (lay : Nat → Int32) (len : Int32) : (∀ L, Ds (bar (aNr a) b x y) y L x → f_X1_findWay lay len n.1 (nI x) (nI y) p4 = some (nI (L + 1), LY (bar (aNr a) b x y) y lay (L + 1), nI (L + 1))) ∧ (¬ Rc (bar (aNr a) b x y) x y → ∃ lay', f_X1_findWay lay len n.1 (nI x) (nI y) p4 = some (0, lay', 0)) := by
  obtain ⟨F, dF⟩ : ∃ F, F = bar (aNr a) b x y := ⟨_, rfl⟩
  have st := fun (lay : Nat → Int32) len j hj k25 => c_layer (j := j) hC hW hp hx (y := y) lay len hj k25
  rw [← dF] at st ⊢
  have w23 : ∀ k t, Wk F k t y → k ≤ 23 := by
    intro k t w
    rw [dF] at w
    exact Wk_23 hW (Wk_bar w)
  have e0 : upd lay 0 (jshl 1 (nI y)) = LY F y lay 1 := by
    rw [LY_s, bsP_one hy, bsP_congr (P := Ds F y 0) (Q := fun k => k = y) (fun k _ => Ds_0)]
    rfl
  have e1 : jshl 1 (nI y) = bsP (fun t => ∃ i, i ≤ 0 ∧ Wk F i t y) := by
    rw [bsP_one hy]
    refine bsP_congr (fun t _ => ⟨fun e => ⟨0, Nat.le_refl _, e⟩, ?_⟩)
    rintro ⟨i, h1, h2⟩
    have : i = 0 := by omega
    subst this
    exact h2
  have d0 : ¬ Ds F y 0 x := fun z => hne (Ds_0.mp z)
  have open_ : f_X1_findWay lay len n.1 (nI x) (nI y) p4 = f_X1_findWay_l25 n.1 (nI x) (nI y) p4 (bsP (fun t => ∃ i, i ≤ 0 ∧ Wk F i t y)) (nI 1) (LY F y lay 1) 0 := by
    unfold f_X1_findWay
    rw [show inb 0 24 = true by decide, chk_true, chk_true, show ix (0 : Int32) = 0 from rfl, e0, LY_at F y lay (by omega), bsP_congr (P := Ds F y 0) (Q := fun t => ∃ i, i ≤ 0 ∧ Wk F i t y)]
    · rfl
    · intro t _
      constructor
      · exact fun h => ⟨0, Nat.le_refl _, h.1⟩
      · rintro ⟨i, h1, h2⟩
        have : i = 0 := by omega
        subst this
        exact Ds_0.mpr h2
  have step : ∀ j, j < 23 → ¬ Ds F y j x → ∀ rc : Int32 × Int32 × (Nat → Int32) × Int32 → Option (Int32 × (Nat → Int32) × Int32), f_X1_findWay_b25 n.1 (nI x) (nI y) p4 (fun x0_ x1_ x2_ x3_ => rc (x0_, x1_, x2_, x3_)) (bsP (fun t => ∃ i, i ≤ j ∧ Wk F i t y)) (nI (j + 1)) (LY F y lay (j + 1)) (if pb (Ds F y j x) then nI (j + 1) else 0) = rc (bsP (fun t => ∃ i, i ≤ j + 1 ∧ Wk F i t y), nI (j + 2), LY F y lay (j + 2), if pb (Ds F y (j + 1) x) then nI (j + 2) else 0) := by
    intro j hj hn rc
    unfold f_X1_findWay_b25
    rw [if_neg (n24 (by omega)), if_neg (fun z => hn (pb_iff.mp z)), if_pos rfl, st lay 0 j hj]
  have start : ∀ res, loopN (V := Int32 × Int32 × (Nat → Int32) × Int32) (fun rc v => f_X1_findWay_b25 n.1 (nI x) (nI y) p4 (fun x0_ x1_ x2_ x3_ => rc (x0_, x1_, x2_, x3_)) v.1 v.2.1 v.2.2.1 v.2.2.2) 200 (bsP (fun t => ∃ i, i ≤ 0 ∧ Wk F i t y), nI 1, LY F y lay 1, if pb (Ds F y 0 x) then nI 1 else 0) = res → f_X1_findWay lay len n.1 (nI x) (nI y) p4 = res := by
    intro res h
    rw [open_]
    rw [if_neg (fun z => d0 (pb_iff.mp z))] at h
    exact h
  constructor
  · intro L hL
    have hL23 := w23 L x hL.1
    have hL1 : L ≠ 0 := fun e => d0 (by rw [← e]; exact hL)
    apply start
    refine loop_go (fun j => (bsP (fun t => ∃ i, i ≤ j ∧ Wk F i t y), nI (j + 1), LY F y lay (j + 1), if pb (Ds F y j x) then nI (j + 1) else 0)) L 200 (by omega) rfl ?_ ?_
    · intro j hj rc
      exact step j (by omega) (fun z => by have := Ds_uniq z hL; omega) rc
    · intro rc
      show f_X1_findWay_b25 _ _ _ _ _ _ _ _ _ = _
      unfold f_X1_findWay_b25
      dsimp only
      rw [if_pos (pb_iff.mpr hL)]
      by_cases h24 : (24 : Int32) ≤ nI (L + 1)
      · rw [if_pos h24]
      · rw [if_neg h24, if_neg (fun z => by rw [nI0 (by omega)] at z; omega)]
  · intro hr
    have hn : ∀ j, ¬ Ds F y j x := fun j z => hr ⟨j, z.1⟩
    refine ⟨LY F y lay 24, ?_⟩
    apply start
    refine loop_go (fun j => (bsP (fun t => ∃ i, i ≤ j ∧ Wk F i t y), nI (j + 1), LY F y lay (j + 1), if pb (Ds F y j x) then nI (j + 1) else 0)) 23 200 (by omega) rfl ?_ ?_
    · intro j hj rc
      exact step j hj (hn j) rc
    · intro rc
      show f_X1_findWay_b25 _ _ _ _ _ _ _ _ _ = _
      unfold f_X1_findWay_b25
      dsimp only
      rw [if_pos (show (24 : Int32) ≤ nI (23 + 1) by decide), if_neg (fun z => hn 23 (pb_iff.mp z))]
