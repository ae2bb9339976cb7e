/-! PURE 87: items found, and how they join -/
noncomputable def hv (tp : Nat → Int32) (z q : Nat) : Int32 := if hr tp z q 43 then 0 else if hr tp z q 38 then 1 else if hr tp z q 45 then 2 else -1
noncomputable def hq1 (tp : Nat → Int32) (z q : Nat) : Nat := if hv tp z q = -1 then q else q + 1
theorem c_readHow {s tp : Nat → Int32} {z : Nat} (hz : z ≤ 80) (hs : ∀ i, i < z → s i = tp i) {q : Nat} (hq : q ≤ z) : f_X5_readHow (nI z) s (nI q) = some (hv tp z q, nI (hq1 tp z q)) := by
  unfold f_X5_readHow hq1 hv
  rw [c_passes hz hs hq 43, sbind]
  dsimp only
  by_cases h1 : hr tp z q 43 = true
  · simp only [h1]
    rfl
  · have h1 : hr tp z q 43 = false := Bool.eq_false_iff.mpr h1
    simp only [h1]
    rw [if_pos (show (if false = true then (1 : Int32) else 0) = 0 from rfl), show (if false = true then q + 1 else q) = q from rfl, c_passes hz hs hq 38, sbind]
    dsimp only
    by_cases h2 : hr tp z q 38 = true
    · simp only [h2]
      rfl
    · have h2 : hr tp z q 38 = false := Bool.eq_false_iff.mpr h2
      simp only [h2]
      rw [if_pos (show (if false = true then (1 : Int32) else 0) = 0 from rfl), show (if false = true then q + 1 else q) = q from rfl, c_passes hz hs hq 45, sbind]
      dsimp only
      by_cases h3 : hr tp z q 45 = true
      · simp only [h3]
        rfl
      · have h3 : hr tp z q 45 = false := Bool.eq_false_iff.mpr h3
        simp only [h3]
        rfl
theorem m_takesHow {tp : Nat → Int32} {z : Nat} (hz : z ≤ 80) {q : Nat} (hq : q ≤ z) : f_X7_takesOf 1 tp (nI q) (nI z) = some (hv tp z q, nI (hq1 tp z q)) := by
  unfold f_X7_takesOf f_X7_takesOf_l2
  by_cases h : q < z
  · have st : ∀ (j : Nat) (c : Int32), j < 3 → zch 1 j = c → ∀ k2, f_X7_takesOf_b2 1 tp (nI q) (nI z) k2 (nI j) = if c = tp q then some (nI j, nI (q + 1)) else k2 (nI (j + 1)) := by
      intro j c hj hc k2
      unfold f_X7_takesOf_b2
      rw [if_neg (show ¬ zlen 1 ≤ nI j by rw [show zlen 1 = nI 3 from rfl, nI_leI (by decide) (by omega)]; omega), if_neg (nle h (by omega)), chk_nI (show j < zLn 1 from hj) (by decide), chk_nI (by omega) (by decide), ix_nI (by omega), ix_nI (by omega), hc, nI_1, nI_1]
    have en : ∀ k2, f_X7_takesOf_b2 1 tp (nI q) (nI z) k2 (nI 3) = some (-1, nI q) := by
      intro k2
      unfold f_X7_takesOf_b2
      rw [if_pos (show zlen 1 ≤ nI 3 by decide)]
    rw [show (200 : Nat) = 196 + 1 + 1 + 1 + 1 from rfl, loopN_succ]
    show f_X7_takesOf_b2 1 tp (nI q) (nI z) _ (nI 0) = _
    rw [st 0 43 (by omega) (by decide)]
    unfold hq1 hv
    by_cases e1 : (43 : Int32) = tp q
    · rw [if_pos e1, show hr tp z q 43 = true from pb_iff.mpr ⟨h, e1.symm⟩]
      rfl
    · rw [if_neg e1, show hr tp z q 43 = false from Bool.eq_false_iff.mpr (fun w => e1 (pb_iff.mp w).2.symm), loopN_succ]
      show f_X7_takesOf_b2 1 tp (nI q) (nI z) _ (nI 1) = _
      rw [st 1 38 (by omega) (by decide)]
      by_cases e2 : (38 : Int32) = tp q
      · rw [if_pos e2, show hr tp z q 38 = true from pb_iff.mpr ⟨h, e2.symm⟩]
        rfl
      · rw [if_neg e2, show hr tp z q 38 = false from Bool.eq_false_iff.mpr (fun w => e2 (pb_iff.mp w).2.symm), loopN_succ]
        show f_X7_takesOf_b2 1 tp (nI q) (nI z) _ (nI 2) = _
        rw [st 2 45 (by omega) (by decide)]
        by_cases e3 : (45 : Int32) = tp q
        · rw [if_pos e3, show hr tp z q 45 = true from pb_iff.mpr ⟨h, e3.symm⟩]
          rfl
        · rw [if_neg e3, show hr tp z q 45 = false from Bool.eq_false_iff.mpr (fun w => e3 (pb_iff.mp w).2.symm), loopN_succ]
          show f_X7_takesOf_b2 1 tp (nI q) (nI z) _ (nI 3) = _
          rw [en]
          rfl
  · have nh : ∀ c, hr tp z q c = false := fun c => Bool.eq_false_iff.mpr (fun w => h (pb_iff.mp w).1)
    rw [show (200 : Nat) = 199 + 1 from rfl, loopN_succ]
    show f_X7_takesOf_b2 1 tp (nI q) (nI z) _ (nI 0) = _
    unfold f_X7_takesOf_b2 hq1 hv
    rw [if_neg (show ¬ zlen 1 ≤ nI 0 by decide), if_pos (show nI z ≤ nI q by rw [nI_leI (by omega) (by omega)]; omega), nh, nh, nh]
    rfl
theorem hv_cases (tp : Nat → Int32) (z q : Nat) : (hv tp z q = -1 ∧ hq1 tp z q = q) ∨ (q < z ∧ hq1 tp z q = q + 1 ∧ ∃ h, h < 3 ∧ hv tp z q = nI h) := by
  unfold hq1
  by_cases e : hv tp z q = -1
  · exact .inl ⟨e, if_pos e⟩
  · right
    rw [if_neg e]
    unfold hv at e ⊢
    by_cases h1 : hr tp z q 43 = true
    · exact ⟨hr_lt h1, rfl, 0, by omega, by rw [if_pos h1]; rfl⟩
    · rw [if_neg h1] at e ⊢
      by_cases h2 : hr tp z q 38 = true
      · exact ⟨hr_lt h2, rfl, 1, by omega, by rw [if_pos h2]; rfl⟩
      · rw [if_neg h2] at e ⊢
        by_cases h3 : hr tp z q 45 = true
        · exact ⟨hr_lt h3, rfl, 2, by omega, by rw [if_pos h3]; rfl⟩
        · rw [if_neg h3] at e
          exact absurd rfl e
/-- items of a set of terms -/
noncomputable def Us (a : AN) (S : Nat → Prop) (j : Nat) : Nat → Bool := fun k => pb (∃ u, u < j ∧ S u ∧ aIt a u k = true)
theorem Us_0 (a : AN) (S : Nat → Prop) : Us a S 0 = fun _ => false := by
  funext k
  exact Bool.eq_false_iff.mpr (fun w => by obtain ⟨u, hu, _⟩ := pb_iff.mp w; omega)
theorem Us_1 {a : AN} {S : Nat → Prop} {j : Nat} (h : S j) : Us a S (j + 1) = fun k => Us a S j k || aIt a j k := by
  funext k
  apply Bool.eq_iff_iff.mpr
  unfold Us
  rw [Bool.or_eq_true, pb_iff, pb_iff]
  constructor
  · rintro ⟨u, h1, h2, h3⟩
    by_cases e : u = j
    · right; rw [← e]; exact h3
    · exact .inl ⟨u, by omega, h2, h3⟩
  · rintro (⟨u, h1, h2, h3⟩ | h3)
    · exact ⟨u, by omega, h2, h3⟩
    · exact ⟨j, by omega, h, h3⟩
theorem Us_n {a : AN} {S : Nat → Prop} {j : Nat} (h : ¬ S j) : Us a S (j + 1) = Us a S j := by
  funext k
  apply Bool.eq_iff_iff.mpr
  unfold Us
  rw [pb_iff, pb_iff]
  constructor
  · rintro ⟨u, h1, h2, h3⟩
    by_cases e : u = j
    · exact absurd (e ▸ h2) h
    · exact ⟨u, by omega, h2, h3⟩
  · rintro ⟨u, h1, h2, h3⟩
    exact ⟨u, by omega, h2, h3⟩
def tk (a : AN) (t : Nat) (st : Bool) : Nat → Prop := fun u => u = t ∨ (st = true ∧ Rc (aNr a) t u)
noncomputable def Nx (a : AN) (t : Nat) (st : Bool) : Nat → Bool := Us a (tk a t st) 24
theorem c_items {n : ND} {a : AN} (hC : CN n a) (hW : WA a) {t : Nat} (ht : aAl a t = true) (st : Bool) : f_X2_itemsOf n.1 n.2.1 n.2.2.1 n.2.2.2.2.2.2.1 n.2.2.2.2.2.2.2.1 (nI t) (if st then 1 else 0) = some (lset (Nx a t st) 40) := by
  have lt := W_lt hW ht
  have L : ∀ (S : Nat → Prop), (∀ k, (aIt a t k || Us a S 24 k) = Nx a t st k) → f_X2_itemsOf_l35 n.1 n.2.1 n.2.2.1 n.2.2.2.2.2.2.1 n.2.2.2.2.2.2.2.1 (nI t) (if st then 1 else 0) (n.2.2.1 t) (bsP S) 0 = some (lset (Nx a t st) 40) := by
    intro S hS
    unfold f_X2_itemsOf_l35
    refine loop_go (fun j => (lset (fun k => aIt a t k || Us a S j k) 40, bsP S, nI j)) 24 200 (by decide) ?_ ?_ ?_
    · rw [hC.2.2.1 t lt, Us_0]
      simp only [Bool.or_false]
      rfl
    · intro j hj rc
      show f_X2_itemsOf_b35 _ _ _ _ _ _ _ _ _ _ _ = _
      unfold f_X2_itemsOf_b35
      dsimp only
      rw [if_neg (n24 hj), nI_1]
      by_cases h : S j
      · rw [if_neg (by rw [bsP_hold hj]; exact fun w => w h), chk_nI hj (by decide), ix_nI (by omega), hC.2.2.1 j hj, lset_or _ _ (by omega), Us_1 h]
        simp only [Bool.or_assoc]
      · rw [if_pos ((bsP_hold hj).mpr h), Us_n h]
    · intro rc
      show f_X2_itemsOf_b35 _ _ _ _ _ _ _ _ _ _ _ = _
      unfold f_X2_itemsOf_b35
      dsimp only
      rw [if_pos y24, show (fun k => aIt a t k || Us a S 24 k) = Nx a t st from funext hS]
  unfold f_X2_itemsOf
  rw [C_has1 hC lt ht, if_neg one0, chk_nI lt (by decide), ix_nI (by omega)]
  cases st with
  | false =>
    rw [if_pos (show (if false = true then (1 : Int32) else 0) = 0 from rfl)]
    have e : (0 : Int32) = bsP (fun _ => False) := (bsP_0.mpr (fun _ _ h => h)).symm
    rw [show f_X2_itemsOf_l35 n.1 n.2.1 n.2.2.1 n.2.2.2.2.2.2.1 n.2.2.2.2.2.2.2.1 (nI t) (if false = true then 1 else 0) (n.2.2.1 t) 0 0 = f_X2_itemsOf_l35 n.1 n.2.1 n.2.2.1 n.2.2.2.2.2.2.1 n.2.2.2.2.2.2.2.1 (nI t) (if false = true then 1 else 0) (n.2.2.1 t) (bsP (fun _ => False)) 0 from congrArg (fun w => f_X2_itemsOf_l35 n.1 n.2.1 n.2.2.1 n.2.2.2.2.2.2.1 n.2.2.2.2.2.2.2.1 (nI t) (if false = true then 1 else 0) (n.2.2.1 t) w 0) e]
    apply L
    intro k
    apply Bool.eq_iff_iff.mpr
    unfold Nx Us tk
    rw [Bool.or_eq_true, pb_iff, pb_iff]
    constructor
    · rintro (h | ⟨_, _, h, _⟩)
      · exact ⟨t, lt, .inl rfl, h⟩
      · exact h.elim
    · rintro ⟨u, _, h | ⟨h, _⟩, h2⟩
      · exact .inl (h ▸ h2)
      · exact absurd h (by decide)
  | true =>
    rw [if_neg (show ¬ (if true = true then (1 : Int32) else 0) = 0 from one0), hC.2.2.2.2.2.2.1, c_below hC hW ht, sbind, ← hC.2.2.2.2.2.2.1]
    apply L
    intro k
    apply Bool.eq_iff_iff.mpr
    unfold Nx Us tk
    rw [Bool.or_eq_true, pb_iff, pb_iff]
    constructor
    · rintro (h | ⟨u, h1, h2, h3⟩)
      · exact ⟨t, lt, .inl rfl, h⟩
      · exact ⟨u, h1, .inr ⟨rfl, h2⟩, h3⟩
    · rintro ⟨u, h1, h | ⟨_, h⟩, h2⟩
      · exact .inl (h ▸ h2)
      · exact .inr ⟨u, h1, h, h2⟩
theorem m_laysNext {mem : Nat → Int32} {a : AN} (hM : MN mem 0 a) (hW : WA a) {t : Nat} (lt : t < 24) (st : Bool) (x y : Int32) : f_X7_laysNext mem x y (nI t) (if st then 1 else 0) = some (bset (Nx a t st) 20, bset (fun k => Nx a t st (k + 20)) 20) := by
  have L : ∀ (S : Nat → Prop) (p2 : Int32), f_X7_laysNext_l30 mem (nI t) p2 (bsP S) 0 0 0 = some (bset (Us a S 24) 20, bset (fun k => Us a S 24 (k + 20)) 20) := by
    intro S p2
    unfold f_X7_laysNext_l30
    refine loop_go (fun j => (bsP S, nI j, bset (Us a S j) 20, bset (fun k => Us a S j (k + 20)) 20)) 24 200 (by decide) ?_ ?_ ?_
    · rw [Us_0]
      have e : bset (fun _ => false) 20 = 0 := by decide
      rw [e]
      rfl
    · intro j hj rc
      show f_X7_laysNext_b30 _ _ _ _ _ _ _ _ = _
      unfold f_X7_laysNext_b30
      dsimp only
      rw [if_neg (n24 hj), nI_1]
      by_cases h : S j
      · have m1 : mem (131 + j) = bset (aIt a j) 20 := by rw [← (hM.2.2.1 j hj).1, Nat.zero_add]
        have m2 : mem (155 + j) = bset (fun k => aIt a j (k + 20)) 20 := by rw [← (hM.2.2.1 j hj).2, Nat.zero_add]
        rw [if_neg (by rw [bsP_has hj]; exact fun w => w h), show (131 : Int32) = nI 131 from rfl, show (155 : Int32) = nI 155 from rfl, nI_add, nI_add, chk_nI (by omega) (by decide), chk_nI (by omega) (by decide), ix_nI (by omega), ix_nI (by omega), m1, m2, bset_or _ _ (by omega), bset_or _ _ (by omega), Us_1 h]
      · rw [if_pos ((bsP_has hj).mpr h), Us_n h]
    · intro rc
      show f_X7_laysNext_b30 _ _ _ _ _ _ _ _ = _
      unfold f_X7_laysNext_b30
      dsimp only
      rw [if_pos y24]
  unfold f_X7_laysNext f_X7_laysNext_b16 Nx
  cases st with
  | false =>
    rw [if_pos (show (if false = true then (1 : Int32) else 0) = 0 from rfl), bsP_one lt, show bsP (fun k => k = t) = bsP (tk a t false) from bsP_congr (fun k _ => ⟨.inl, fun h => h.elim id (fun h => absurd h.1 (by decide))⟩)]
    exact L _ _
  | true =>
    rw [if_neg (show ¬ (if true = true then (1 : Int32) else 0) = 0 from one0), Mb hM hW lt, sbind, show bsP (Rc (aNr a) t) = bsP (tk a t true) from bsP_congr (fun k _ => ⟨fun h => .inr ⟨rfl, h⟩, fun h => h.elim (fun h => ⟨0, h.symm⟩) (fun h => h.2)⟩)]
    exact L _ _
def jn (h : Nat) (P Q : Nat → Bool) : Nat → Bool := fun k => if h = 0 then P k || Q k else if h = 1 then P k && Q k else P k && !Q k
theorem bset_and (P Q : Nat → Bool) {n : Nat} (hn : n ≤ 32) : bset P n &&& bset Q n = bset (fun k => P k && Q k) n := by
  apply bi_ext
  intro k hk
  rw [bi_and, bt_bset _ hn, bt_bset _ hn, bt_bset _ hn]
  cases decide (k < n) <;> simp
theorem bset_andn (P Q : Nat → Bool) {n : Nat} (hn : n ≤ 32) : bset P n &&& (bset Q n ^^^ (-1)) = bset (fun k => P k && !Q k) n := by
  apply bi_ext
  intro k hk
  rw [bi_and, bi_xor _ hk, bt_bset _ hn, bt_bset _ hn, bt_bset _ hn]
  cases decide (k < n) <;> simp
theorem lset_and (P Q : Nat → Bool) {n : Nat} (hn : n ≤ 64) : lset P n &&& lset Q n = lset (fun k => P k && Q k) n := by
  apply bl_ext
  intro k hk
  rw [bl_and, bl_lset _ hn, bl_lset _ hn, bl_lset _ hn]
  cases decide (k < n) <;> simp
theorem lset_andn (P Q : Nat → Bool) {n : Nat} (hn : n ≤ 64) : lset P n &&& (lset Q n ^^^ (-1)) = lset (fun k => P k && !Q k) n := by
  apply bl_ext
  intro k hk
  rw [bl_and, bl_not _ hk, bl_lset _ hn, bl_lset _ hn, bl_lset _ hn]
  cases decide (k < n) <;> simp
theorem m_joins (P Q : Nat → Bool) {h : Nat} (hh : h < 3) : f_X7_joins (bset P 20) (bset (fun k => P (k + 20)) 20) (bset Q 20) (bset (fun k => Q (k + 20)) 20) (nI h) = (bset (jn h P Q) 20, bset (fun k => jn h P Q (k + 20)) 20) := by
  unfold f_X7_joins
  obtain rfl | rfl | rfl : h = 0 ∨ h = 1 ∨ h = 2 := by omega
  · rw [if_pos (show nI 0 = 0 from rfl), bset_or _ _ (by omega), bset_or _ _ (by omega)]
    rfl
  · rw [if_neg (show ¬ nI 1 = 0 by decide), if_pos (show nI 1 = 1 from rfl), bset_and _ _ (by omega), bset_and _ _ (by omega)]
    rfl
  · rw [if_neg (show ¬ nI 2 = 0 by decide), if_neg (show ¬ nI 2 = 1 by decide), bset_andn _ _ (by omega), bset_andn _ _ (by omega)]
    rfl
def sI (st : Bool) : Nat := if st then 1 else 0
theorem w1000 : ∀ st h, h < 3 → ∀ t, t < 24 → nI (1000 * sI st + 100 * h + t) / 1000 = nI (sI st) ∧ jrem (nI (1000 * sI st + 100 * h + t) / 100) 10 = nI h ∧ jrem (nI (1000 * sI st + 100 * h + t)) 100 = nI t := by
  have : ∀ b, b < 2 → ∀ h, h < 3 → ∀ t, t < 24 → nI (1000 * b + 100 * h + t) / 1000 = nI b ∧ jrem (nI (1000 * b + 100 * h + t) / 100) 10 = nI h ∧ jrem (nI (1000 * b + 100 * h + t)) 100 = nI t := by decide +kernel
  intro st h hh t ht
  exact this (sI st) (by unfold sI; cases st <;> decide) h hh t ht
theorem c_searchOn {n : ND} {a : AN} (hC : CN n a) (hW : WA a) {t : Nat} (ht : aAl a t = true) (st : Bool) {h : Nat} (hh : h < 3) (P : Nat → Bool) : f_X2_searchOn n.1 n.2.1 n.2.2.1 n.2.2.2.2.2.2.1 n.2.2.2.2.2.2.2.1 (lset P 40) (nI (1000 * sI st + 100 * h + t)) = some (lset (jn h P (Nx a t st)) 40) := by
  have lt := W_lt hW ht
  have hw := w1000 st h hh t lt
  have e := c_items hC hW ht st
  unfold f_X2_searchOn
  have F : f_X2_searchOn_b19 n.1 n.2.1 n.2.2.1 n.2.2.2.2.2.2.1 n.2.2.2.2.2.2.2.1 (lset P 40) (nI (1000 * sI st + 100 * h + t)) (nI t) (if st then 1 else 0) = some (lset (jn h P (Nx a t st)) 40) := by
    unfold f_X2_searchOn_b19
    rw [e, sbind, hw.2.1]
    obtain rfl | rfl | rfl : h = 0 ∨ h = 1 ∨ h = 2 := by omega
    · rw [if_neg (show ¬ nI 0 = 1 by decide), if_neg (show ¬ nI 0 = 2 by decide), lset_or _ _ (by omega)]
      rfl
    · rw [if_pos (show nI 1 = 1 from rfl), lset_and _ _ (by omega)]
      rfl
    · rw [if_neg (show ¬ nI 2 = 1 by decide), if_pos (show nI 2 = 2 from rfl), lset_andn _ _ (by omega)]
      rfl
  rw [hw.1, hw.2.2]
  cases st with
  | false =>
    rw [if_neg (show ¬ nI (sI false) = 1 by decide)]
    exact F
  | true =>
    rw [if_pos (show nI (sI true) = 1 by decide)]
    exact F
