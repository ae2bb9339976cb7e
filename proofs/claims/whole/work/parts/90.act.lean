/-! PURE 90: an act, as both read it -/
def cd6 (c : Nat) : Nat := if c = 0 then 108 else if c = 1 then 117 else if c = 2 then 109 else if c = 3 then 103 else if c = 4 then 112 else 116
def dg6 (c : Nat) : Nat := if c = 5 then 0 else if c = 3 then 3 else 4
def wd6 (c f g : Nat) : Nat := 10000 * cd6 c + (if c = 5 then 0 else if c = 3 then 10 * f + g else 100 * f + g)
theorem dg6_le (c : Nat) : dg6 c ≤ 4 := by
  unfold dg6
  by_cases h : c = 5
  · rw [if_pos h]; omega
  · rw [if_neg h]
    by_cases h : c = 3
    · rw [if_pos h]; omega
    · rw [if_neg h]; omega
theorem al1 {P : Nat → Prop} (h0 : P 0) : ∀ j, j < 1 → P j := by
  intro j hj
  obtain rfl : j = 0 := by omega
  exact h0
theorem al2 {P : Nat → Prop} (h0 : P 0) (h1 : P 1) : ∀ j, j < 2 → P j := by
  intro j hj
  obtain rfl | rfl : j = 0 ∨ j = 1 := by omega
  · exact h0
  · exact h1
theorem al3 {P : Nat → Prop} (h0 : P 0) (h1 : P 1) (h2 : P 2) : ∀ j, j < 3 → P j := by
  intro j hj
  obtain rfl | rfl | rfl : j = 0 ∨ j = 1 ∨ j = 2 := by omega
  · exact h0
  · exact h1
  · exact h2
theorem al4 {P : Nat → Prop} (h0 : P 0) (h1 : P 1) (h2 : P 2) (h3 : P 3) : ∀ j, j < 4 → P j := by
  intro j hj
  obtain rfl | rfl | rfl | rfl : j = 0 ∨ j = 1 ∨ j = 2 ∨ j = 3 := by omega
  · exact h0
  · exact h1
  · exact h2
  · exact h3
theorem zch6 : ∀ c, c < 6 → zch 2 c = nI (cd6 c) := by decide
theorem c_behind1 : ∀ c, c < 6 → f_X5_digitsBehind (nI (cd6 c)) = nI (dg6 c) := by
  intro c hc
  obtain rfl | rfl | rfl | rfl | rfl | rfl : c = 0 ∨ c = 1 ∨ c = 2 ∨ c = 3 ∨ c = 4 ∨ c = 5 := by omega
  all_goals (unfold f_X5_digitsBehind; decide)
theorem c_behind0 {v : Int32} (h : ∀ c, c < 6 → zch 2 c ≠ v) : f_X5_digitsBehind v = -1 := by
  have g : ∀ c, c < 6 → ¬ v = nI (cd6 c) := fun c hc e => h c hc ((zch6 c hc).trans e.symm)
  have g0 : ¬ v = 108 := g 0 (by omega)
  have g1 : ¬ v = 117 := g 1 (by omega)
  have g2 : ¬ v = 109 := g 2 (by omega)
  have g3 : ¬ v = 103 := g 3 (by omega)
  have g4 : ¬ v = 112 := g 4 (by omega)
  have g5 : ¬ v = 116 := g 5 (by omega)
  unfold f_X5_digitsBehind
  rw [if_neg g0, if_neg g1, if_neg g2, if_neg g3, if_neg g4, if_neg g5]
  simp only [ite_self]
theorem b103 {tp se act fi : Nat → Int32} {to at' : Int32} {j : Nat} (hj : j < 80) (s2 : Int32) : f_X7_readsAct_b103 tp to se (nI j) (nI j) s2 at' act fi = if s2 < 0 then some (0, at', act, fi, upd se j s2) else some (1, at', act, fi, upd se j s2) := by
  unfold f_X7_readsAct_b103
  rw [chk_nI hj (by decide), chk_nI hj (by decide), ix_nI (by omega), updN]
theorem rd_act {s tp : Nat → Int32} {z : Nat} (hz : z ≤ 80) (hs : ∀ i, i < z → s i = tp i) {p : Nat} (hp : p < z) : ∃ (ok : Bool) (q c f g : Nat), (ok = true ∧ p < q ∧ q ≤ z ∧ c < 6 ∧ f < 100 ∧ g < 100 ∧ (c = 3 → g < 10) ∧ (∀ j, j < 80 → ∀ w k6, f_X5_readDay_b6 (nI z) s k6 (nI j) w (nI j) (nI p) = k6 (nI (j + 1)) (upd w j (nI (wd6 c f g))) (nI (j + 1)) (nI q)) ∧ ∀ j, j < 80 → ∀ act fi se, f_X7_readsAct tp (nI p) (nI z) act fi se (nI j) = some (1, nI q, upd act j (nI c), upd fi j (nI f), upd se j (nI g))) ∨ (ok = false ∧ (∀ j, j < 80 → ∀ w k6, f_X5_readDay_b6 (nI z) s k6 (nI j) w (nI j) (nI p) = some (0, w, nI j, nI q)) ∧ ∀ j, j < 80 → ∀ act fi se, ∃ act' fi' se', f_X7_readsAct tp (nI p) (nI z) act fi se (nI j) = some (0, nI q, act', fi', se')) := by
  have c80 : ∀ j, j < 80 → ¬ (80 : Int32) ≤ nI j := by
    intro j hj
    rw [show (80 : Int32) = nI 80 from rfl, nI_leI (by decide) (by omega)]
    omega
  have n1 : ¬ (0 : Int32) ≤ -1 := by decide
  have m1 : (-1 : Int32) < 0 := by decide
  have nn : ∀ k : Nat, k < 2147483648 → (0 : Int32) ≤ nI k := fun k hk => i_nlt.mp (neg_lt hk)
  rcases m_takesAny (tp := tp) (si := 2) (L := 6) rfl (by omega) hz (Nat.le_of_lt hp) with ⟨c, hc, _, h2, h3⟩ | ⟨h1, h2⟩
  · have ec : tp p = nI (cd6 c) := h2.symm.trans (zch6 c hc)
    have cF : ∀ e, f_X5_readNumber (nI z) s (nI (p + 1)) (nI (dg6 c)) = some (-1, nI e) → ∀ j, j < 80 → ∀ w k6, f_X5_readDay_b6 (nI z) s k6 (nI j) w (nI j) (nI p) = some (0, w, nI j, nI e) := by
      intro e he j hj w k6
      unfold f_X5_readDay_b6
      rw [if_neg (c80 j hj), if_neg (nle hp (by omega)), chk_nI (by omega) (by decide), ix_nI (by omega), hs p hp, ec, c_behind1 c hc, if_pos (nn _ (Nat.lt_of_le_of_lt (dg6_le c) (by omega))), nI_1, he, sbind]
      dsimp only
      rw [if_neg n1]
    have cS : ∀ v e, v < 10000 → f_X5_readNumber (nI z) s (nI (p + 1)) (nI (dg6 c)) = some (nI v, nI e) → ∀ j, j < 80 → ∀ w k6, f_X5_readDay_b6 (nI z) s k6 (nI j) w (nI j) (nI p) = k6 (nI (j + 1)) (upd w j (nI (10000 * cd6 c + v))) (nI (j + 1)) (nI e) := by
      intro v e hv he j hj w k6
      unfold f_X5_readDay_b6
      rw [if_neg (c80 j hj), if_neg (nle hp (by omega)), chk_nI (by omega) (by decide), ix_nI (by omega), hs p hp, ec, c_behind1 c hc, if_pos (nn _ (Nat.lt_of_le_of_lt (dg6_le c) (by omega))), nI_1, he, sbind]
      dsimp only
      rw [if_pos (nn v (by omega)), show (10000 : Int32) = nI 10000 from rfl, nI_mul, nI_add, c_addWord hj, sbind, nI_1]
    have num := c_readNumber (D := dg6 c) (q := p + 1) hz hs (dg6_le c) (by omega)
    by_cases c5 : c = 5
    · subst c5
      refine ⟨true, p + 1, 5, 0, 0, .inl ⟨rfl, by omega, by omega, by omega, by omega, by omega, by omega, ?_, ?_⟩⟩
      · exact cS 0 (p + 1) (by omega) (num.1 (fun j hj => absurd hj (Nat.not_lt_zero _)))
      · intro j hj act fi se
        unfold f_X7_readsAct f_X7_readsAct_b49
        rw [h3, sbind, chk_nI hj (by decide), chk_nI hj (by decide), chk_nI hj (by decide), ix_nI (by omega)]
        dsimp only
        rw [updN, if_pos (nn 5 (by omega)), if_pos (show nI 5 = 5 from rfl), chk_nI hj (by decide), chk_nI hj (by decide), chk_nI hj (by decide), updN, if_pos (show (0 : Int32) ≤ 0 by decide), if_pos (show nI 5 = 5 from rfl), b103 hj, if_neg (show ¬ (0 : Int32) < 0 by decide)]
        rfl
    · have c5' : ¬ nI c = 5 := fun e => c5 ((nI_eq (a := c) (b := 5) (by omega) (by omega)).mp e)
      have mF : ∀ e, f_X7_two tp (nI (p + 1)) (nI z) = some (-1, nI e) → ∀ j, j < 80 → ∀ act fi se, ∃ act' fi' se', f_X7_readsAct tp (nI p) (nI z) act fi se (nI j) = some (0, nI e, act', fi', se') := by
        intro e he j hj act fi se
        unfold f_X7_readsAct f_X7_readsAct_b49
        rw [h3, sbind, chk_nI hj (by decide), chk_nI hj (by decide), chk_nI hj (by decide), ix_nI (by omega)]
        dsimp only
        rw [updN, if_pos (nn c (by omega)), if_neg c5', he, sbind]
        dsimp only
        rw [chk_nI hj (by decide), chk_nI hj (by decide), updN, if_neg n1, b103 hj, if_pos m1]
        exact ⟨_, _, _, rfl⟩
      have mS : ∀ v e v2 e2, v < 100 → f_X7_two tp (nI (p + 1)) (nI z) = some (nI v, nI e) → (if c = 3 then f_X7_digit tp (nI e) (nI z) else f_X7_two tp (nI e) (nI z)) = some (v2, nI e2) → ∀ j, j < 80 → ∀ act fi se, f_X7_readsAct tp (nI p) (nI z) act fi se (nI j) = if v2 < 0 then some (0, nI e2, upd act j (nI c), upd fi j (nI v), upd se j v2) else some (1, nI e2, upd act j (nI c), upd fi j (nI v), upd se j v2) := by
        intro v e v2 e2 hv he he2 j hj act fi se
        unfold f_X7_readsAct f_X7_readsAct_b49
        rw [h3, sbind, chk_nI hj (by decide), chk_nI hj (by decide), chk_nI hj (by decide), ix_nI (by omega)]
        dsimp only
        rw [updN, if_pos (nn c (by omega)), if_neg c5', he, sbind]
        dsimp only
        rw [chk_nI hj (by decide), chk_nI hj (by decide), chk_nI hj (by decide), chk_nI hj (by decide), updN, if_pos (nn v (by omega)), if_neg c5']
        by_cases c3 : c = 3
        · rw [if_pos c3] at he2
          rw [if_pos (show nI c = 3 by rw [c3]; rfl), he2, sbind, b103 hj]
        · rw [if_neg c3] at he2
          rw [if_neg (show ¬ nI c = 3 from fun e => c3 ((nI_eq (a := c) (b := 3) (by omega) (by omega)).mp e)), he2, sbind, b103 hj]
      have two := m_two' (tp := tp) (q := p + 1) hz (by omega)
      have dg3 : 3 ≤ dg6 c := by unfold dg6; rw [if_neg c5]; by_cases c3 : c = 3 <;> simp [c3]
      by_cases i1 : isd tp z (p + 1)
      · by_cases i2 : isd tp z (p + 2)
        · have d1 := (isd_dd i1).1
          have d2 := (isd_dd i2).1
          have l2 := i2.1
          have e1 : f_X7_two tp (nI (p + 1)) (nI z) = some (nI (10 * dd tp (p + 1) + dd tp (p + 2)), nI (p + 3)) := two.2.2 i1 i2
          by_cases i3 : isd tp z (p + 3)
          · have d3 := (isd_dd i3).1
            have l3 := i3.1
            by_cases c3 : c = 3
            · have eD : dg6 c = 3 := by rw [c3]; rfl
              have e2 := (m_digit (tp := tp) (q := p + 3) hz (by omega)).1 i3
              refine ⟨true, p + 4, c, 10 * dd tp (p + 1) + dd tp (p + 2), dd tp (p + 3), .inl ⟨rfl, by omega, by omega, hc, by omega, by omega, fun _ => by omega, ?_, ?_⟩⟩
              · have nv := num.1 (by rw [eD]; exact al3 (P := fun j => isd tp z (p + 1 + j)) i1 i2 i3)
                rw [eD] at nv
                have vv : vN tp (p + 1) 3 = 10 * (10 * dd tp (p + 1) + dd tp (p + 2)) + dd tp (p + 3) := by
                  show 10 * (10 * (10 * 0 + dd tp (p + 1)) + dd tp (p + 2)) + dd tp (p + 3) = _
                  omega
                have k := cS (vN tp (p + 1) 3) (p + 1 + 3) (by omega) (by rw [eD]; exact nv)
                intro j hj w k6
                rw [k j hj, vv]
                unfold wd6
                rw [if_neg c5, if_pos c3]
              · intro j hj act fi se
                rw [mS _ _ _ _ (by omega) e1 (by rw [if_pos c3]; exact e2) j hj, if_neg (neg_lt (by omega))]
            · have eD : dg6 c = 4 := by unfold dg6; rw [if_neg c5, if_neg c3]
              have t2 := m_two' (tp := tp) (q := p + 3) hz (by omega)
              by_cases i4 : isd tp z (p + 4)
              · have d4 := (isd_dd i4).1
                have l4 := i4.1
                have e2 : f_X7_two tp (nI (p + 3)) (nI z) = some (nI (10 * dd tp (p + 3) + dd tp (p + 4)), nI (p + 5)) := t2.2.2 i3 i4
                refine ⟨true, p + 5, c, 10 * dd tp (p + 1) + dd tp (p + 2), 10 * dd tp (p + 3) + dd tp (p + 4), .inl ⟨rfl, by omega, by omega, hc, by omega, by omega, fun e => absurd e c3, ?_, ?_⟩⟩
                · have nv := num.1 (by rw [eD]; exact al4 (P := fun j => isd tp z (p + 1 + j)) i1 i2 i3 i4)
                  rw [eD] at nv
                  have vv : vN tp (p + 1) 4 = 100 * (10 * dd tp (p + 1) + dd tp (p + 2)) + (10 * dd tp (p + 3) + dd tp (p + 4)) := by
                    show 10 * (10 * (10 * (10 * 0 + dd tp (p + 1)) + dd tp (p + 2)) + dd tp (p + 3)) + dd tp (p + 4) = _
                    omega
                  have k := cS (vN tp (p + 1) 4) (p + 1 + 4) (by omega) (by rw [eD]; exact nv)
                  intro j hj w k6
                  rw [k j hj, vv]
                  unfold wd6
                  rw [if_neg c5, if_neg c3]
                · intro j hj act fi se
                  rw [mS _ _ _ _ (by omega) e1 (by rw [if_neg c3]; exact e2) j hj, if_neg (neg_lt (by omega))]
              · have e2 : f_X7_two tp (nI (p + 3)) (nI z) = some (-1, nI (p + 4)) := t2.2.1 i3 i4
                refine ⟨false, p + 4, 0, 0, 0, .inr ⟨rfl, cF (p + 4) (num.2 3 (by omega) i4 (al3 (P := fun j => isd tp z (p + 1 + j)) i1 i2 i3)), ?_⟩⟩
                intro j hj act fi se
                rw [mS _ _ _ _ (by omega) e1 (by rw [if_neg c3]; exact e2) j hj, if_pos m1]
                exact ⟨_, _, _, rfl⟩
          · refine ⟨false, p + 3, 0, 0, 0, .inr ⟨rfl, cF (p + 3) (num.2 2 (by omega) i3 (al2 (P := fun j => isd tp z (p + 1 + j)) i1 i2)), ?_⟩⟩
            have e2 : (if c = 3 then f_X7_digit tp (nI (p + 3)) (nI z) else f_X7_two tp (nI (p + 3)) (nI z)) = some (-1, nI (p + 3)) := by
              by_cases c3 : c = 3
              · rw [if_pos c3]; exact (m_digit (tp := tp) (q := p + 3) hz (by omega)).2 i3
              · rw [if_neg c3]; exact (m_two' (tp := tp) (q := p + 3) hz (by omega)).1 i3
            intro j hj act fi se
            rw [mS _ _ _ _ (by omega) e1 e2 j hj, if_pos m1]
            exact ⟨_, _, _, rfl⟩
        · exact ⟨false, p + 2, 0, 0, 0, .inr ⟨rfl, cF (p + 2) (num.2 1 (by omega) i2 (al1 (P := fun j => isd tp z (p + 1 + j)) i1)), mF (p + 2) (two.2.1 i1 i2)⟩⟩
      · exact ⟨false, p + 1, 0, 0, 0, .inr ⟨rfl, cF (p + 1) (num.2 0 (by omega) i1 (fun j hj => absurd hj (Nat.not_lt_zero _))), mF (p + 1) (two.1 i1)⟩⟩
  · refine ⟨false, p, 0, 0, 0, .inr ⟨rfl, ?_, ?_⟩⟩
    · intro j hj w k6
      unfold f_X5_readDay_b6
      rw [if_neg (c80 j hj), if_neg (nle hp (by omega)), chk_nI (by omega) (by decide), ix_nI (by omega), hs p hp, c_behind0 (h1 hp), if_neg n1]
    · intro j hj act fi se
      unfold f_X7_readsAct f_X7_readsAct_b49
      rw [h2, sbind, chk_nI hj (by decide), chk_nI hj (by decide), ix_nI (by omega)]
      dsimp only
      rw [updN, if_neg n1, chk_nI hj (by decide), chk_nI hj (by decide), updN, if_neg n1, b103 hj, if_pos m1]
      exact ⟨_, _, _, rfl⟩
