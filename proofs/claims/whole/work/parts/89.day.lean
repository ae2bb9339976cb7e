/-! PURE 89: what a day's text says -/
theorem nI_div {x y : Nat} (hx : x < 2147483648) (hy : y < 2147483648) : nI x / nI y = nI (x / y) := by
  apply Int32.toInt_inj.mp
  have h : x / y < 2147483648 := Nat.lt_of_le_of_lt (Nat.div_le_self x y) hx
  rw [Int32.toInt_div, nI_toInt hx, nI_toInt hy, nI_toInt h]
  rw [show (x : Int).tdiv (y : Int) = ((x / y : Nat) : Int) from rfl]
  obtain ⟨k, hk⟩ : ∃ k, k = x / y := ⟨_, rfl⟩
  rw [← hk] at h ⊢
  apply Int.bmod_eq_of_le <;> omega
theorem nI_rem {x y : Nat} (hx : x < 2147483648) (hy : y < 2147483648) (h0 : 0 < y) : jrem (nI x) (nI y) = nI (x % y) := by
  show nI x - nI x / nI y * nI y = _
  rw [nI_div hx hy, nI_mul]
  have e : nI x = nI (x % y) + nI (x / y * y) := by
    rw [nI_add, Nat.mul_comm, Nat.mod_add_div]
  rw [e]
  exact Int32.add_sub_cancel _ _
/-- one sign of a string -/
theorem m_takesAny {tp : Nat → Int32} {z si L : Nat} (hL : zLen.getD si 0 = L) (hL9 : L ≤ 10) (hz : z ≤ 80) {q : Nat} (hq : q ≤ z) : (∃ i, i < L ∧ q < z ∧ zch si i = tp q ∧ f_X7_takesOf si tp (nI q) (nI z) = some (nI i, nI (q + 1))) ∨ ((q < z → ∀ i, i < L → zch si i ≠ tp q) ∧ f_X7_takesOf si tp (nI q) (nI z) = some (-1, nI q)) := by
  have zl : zlen si = nI L := by show Int32.ofNat (zLen.getD si 0) = _; rw [hL]; rfl
  unfold f_X7_takesOf f_X7_takesOf_l2
  by_cases h : q < z
  · have st : ∀ j, j < L → ∀ k2, f_X7_takesOf_b2 si tp (nI q) (nI z) k2 (nI j) = if zch si j = tp q then some (nI j, nI (q + 1)) else k2 (nI (j + 1)) := by
      intro j hj k2
      unfold f_X7_takesOf_b2
      rw [if_neg (show ¬ zlen si ≤ nI j by rw [zl, nI_leI (by omega) (by omega)]; omega), if_neg (nle h (by omega)), chk_nI (show j < zLn si by show j < zLen.getD si 0; omega) (by show zLen.getD si 0 ≤ 2 ^ 31; omega), chk_nI (by omega) (by decide), ix_nI (by omega), ix_nI (by omega), nI_1, nI_1]
    by_cases e : ∃ i, i < L ∧ zch si i = tp q
    · obtain ⟨i, hi, ei⟩ := e
      obtain ⟨m, q1, q2⟩ := lst_ex (Q := fun i => zch si i = tp q) i ei
      have hm : m < L := Classical.byContradiction fun w => q2 i (by omega) ei
      left
      refine ⟨m, hm, h, q1, ?_⟩
      refine loop_go (fun j => nI j) m 200 (by omega) rfl ?_ ?_
      · intro j hj rc
        show f_X7_takesOf_b2 _ _ _ _ _ _ = _
        rw [st j (by omega), if_neg (q2 j hj)]
      · intro rc
        show f_X7_takesOf_b2 _ _ _ _ _ _ = _
        rw [st m hm, if_pos q1]
    · right
      refine ⟨fun _ i hi w => e ⟨i, hi, w⟩, ?_⟩
      refine loop_go (fun j => nI j) L 200 (by omega) rfl ?_ ?_
      · intro j hj rc
        show f_X7_takesOf_b2 _ _ _ _ _ _ = _
        rw [st j hj, if_neg (fun w => e ⟨j, hj, w⟩)]
      · intro rc
        show f_X7_takesOf_b2 _ _ _ _ _ _ = _
        unfold f_X7_takesOf_b2
        rw [if_pos (show zlen si ≤ nI L by rw [zl]; exact yle _ (by omega))]
  · right
    refine ⟨fun w => absurd w h, ?_⟩
    rw [show (200 : Nat) = 199 + 1 from rfl, loopN_succ]
    show f_X7_takesOf_b2 _ _ _ _ _ (nI 0) = _
    unfold f_X7_takesOf_b2
    have hle : nI z ≤ nI q := by rw [nI_leI (by omega) (by omega)]; omega
    by_cases hz' : zlen si ≤ nI 0
    · rw [if_pos hz']
    · rw [if_neg hz', if_pos hle]
/-- a digit at a place -/
def isd (tp : Nat → Int32) (z q : Nat) : Prop := q < z ∧ ∃ d, d < 10 ∧ tp q = nI (48 + d)
noncomputable def dd (tp : Nat → Int32) (q : Nat) : Nat := (tp q - 48).toInt.toNat
theorem isd_dd {tp : Nat → Int32} {z q : Nat} (h : isd tp z q) : dd tp q < 10 ∧ tp q = nI (48 + dd tp q) := by
  obtain ⟨_, d, h1, h2⟩ := h
  have : dd tp q = d := by
    unfold dd
    rw [h2]
    have : ∀ d, d < 10 → (nI (48 + d) - 48).toInt.toNat = d := by decide
    exact this d h1
  rw [this]
  exact ⟨h1, h2⟩
theorem isd_iff {tp : Nat → Int32} {q : Nat} : (¬ tp q < 48 ∧ tp q ≤ 57) ↔ ∃ d, d < 10 ∧ tp q = nI (48 + d) := by
  constructor
  · rintro ⟨h1, h2⟩
    have h0 : ¬ tp q < 0 := by
      intro w
      rw [Int32.lt_iff_toInt_lt] at h1 w
      have e1 : (48 : Int32).toInt = 48 := rfl
      have e2 : (0 : Int32).toInt = 0 := rfl
      omega
    obtain ⟨n, hn, e⟩ := nonneg h0
    rw [e] at h1 h2 ⊢
    rw [show (48 : Int32) = nI 48 from rfl, nI_ltI (by omega) (by decide)] at h1
    rw [show (57 : Int32) = nI 57 from rfl, nI_leI (by omega) (by decide)] at h2
    exact ⟨n - 48, by omega, by rw [show 48 + (n - 48) = n by omega]⟩
  · rintro ⟨d, h1, h2⟩
    rw [h2, show (48 : Int32) = nI 48 from rfl, nI_ltI (by omega) (by decide), show (57 : Int32) = nI 57 from rfl, nI_leI (by omega) (by decide)]
    omega
theorem m_digit {tp : Nat → Int32} {z : Nat} (hz : z ≤ 80) {q : Nat} (hq : q ≤ z) : (isd tp z q → f_X7_digit tp (nI q) (nI z) = some (nI (dd tp q), nI (q + 1))) ∧ (¬ isd tp z q → f_X7_digit tp (nI q) (nI z) = some (-1, nI q)) := by
  have zc : ∀ i, i < 10 → zch 0 i = nI (48 + i) := by decide
  unfold f_X7_digit
  rcases m_takesAny (tp := tp) (si := 0) (L := 10) rfl (by omega) hz hq with ⟨i, hi, h1, h2, h3⟩ | ⟨h1, h2⟩
  · rw [zc i hi] at h2
    have hd : isd tp z q := ⟨h1, i, hi, h2.symm⟩
    refine ⟨fun _ => ?_, fun w => absurd hd w⟩
    rw [h3, sbind]
    have e := (isd_dd hd)
    have : i = dd tp q := by
      have e3 : nI (48 + i) = nI (48 + dd tp q) := h2.trans e.2
      have := (nI_eq (by omega) (by omega)).mp e3
      omega
    rw [← this]
  · refine ⟨fun hd => ?_, fun _ => by rw [h2, sbind]⟩
    exact absurd ((zc _ (isd_dd hd).1).trans (isd_dd hd).2.symm) (h1 hd.1 _ (isd_dd hd).1)
theorem m_two' {tp : Nat → Int32} {z : Nat} (hz : z ≤ 80) {q : Nat} (hq : q ≤ z) : (¬ isd tp z q → f_X7_two tp (nI q) (nI z) = some (-1, nI q)) ∧ (isd tp z q → ¬ isd tp z (q + 1) → f_X7_two tp (nI q) (nI z) = some (-1, nI (q + 1))) ∧ (isd tp z q → isd tp z (q + 1) → f_X7_two tp (nI q) (nI z) = some (nI (10 * dd tp q + dd tp (q + 1)), nI (q + 2))) := by
  unfold f_X7_two f_X7_two_b17
  refine ⟨fun h => ?_, fun h1 h2 => ?_, fun h1 h2 => ?_⟩
  · rw [(m_digit hz hq).2 h, sbind]
    dsimp only
    rw [if_neg (show ¬ (0 : Int32) ≤ -1 by decide), if_neg (show ¬ (0 : Int32) ≤ -1 by decide)]
  · have l := (isd_dd h1).1
    rw [(m_digit hz hq).1 h1, sbind]
    dsimp only
    rw [if_pos (i_nlt.mp (neg_lt (by omega))), (m_digit hz h1.1).2 h2, sbind]
    dsimp only
    rw [if_neg (show ¬ (0 : Int32) ≤ -1 by decide)]
  · have l := (isd_dd h1).1
    have l2 := (isd_dd h2).1
    rw [(m_digit hz hq).1 h1, sbind]
    dsimp only
    rw [if_pos (i_nlt.mp (neg_lt (by omega))), (m_digit hz h1.1).1 h2, sbind]
    dsimp only
    rw [if_pos (i_nlt.mp (neg_lt (show dd tp (q + 1) < 2147483648 by omega))), show (10 : Int32) = nI 10 from rfl, nI_mul, nI_add]
noncomputable def vN (tp : Nat → Int32) (q : Nat) : Nat → Nat
  | 0 => 0
  | i + 1 => 10 * vN tp q i + dd tp (q + i)
theorem vN_le {tp : Nat → Int32} {z q : Nat} : ∀ i, (∀ j, j < i → isd tp z (q + j)) → vN tp q i < 10 ^ i := by
  intro i
  induction i with
  | zero => intro _; exact Nat.one_pos
  | succ i ih =>
    intro h
    have h1 := ih (fun j hj => h j (by omega))
    have h2 := (isd_dd (h i (by omega))).1
    show 10 * vN tp q i + dd tp (q + i) < 10 ^ (i + 1)
    rw [Nat.pow_succ]
    omega
theorem c_readNumber {s tp : Nat → Int32} {z : Nat} (hz : z ≤ 80) (hs : ∀ i, i < z → s i = tp i) {q : Nat} {D : Nat} (hD : D ≤ 4) (hq : q ≤ z) : ((∀ j, j < D → isd tp z (q + j)) → f_X5_readNumber (nI z) s (nI q) (nI D) = some (nI (vN tp q D), nI (q + D))) ∧ (∀ i, i < D → ¬ isd tp z (q + i) → (∀ j, j < i → isd tp z (q + j)) → f_X5_readNumber (nI z) s (nI q) (nI D) = some (-1, nI (q + i))) := by
  have go : ∀ j, j < D → (∀ i, i ≤ j → isd tp z (q + i)) → ∀ rc : Int32 × Int32 × Int32 → Option (Int32 × Int32), f_X5_readNumber_b4 (nI z) s (nI D) (fun x0_ x1_ x2_ => rc (x0_, x1_, x2_)) (nI (vN tp q j)) (nI j) (nI (q + j)) = rc (nI (vN tp q (j + 1)), nI (j + 1), nI (q + (j + 1))) := by
    intro j hj h rc
    have hd := h j (Nat.le_refl _)
    have e := isd_dd hd
    have hlt := hd.1
    unfold f_X5_readNumber_b4
    have ii := isd_iff.mpr hd.2
    rw [if_neg (nle hj (by omega)), if_neg (nle hlt (by omega)), chk_nI (by omega) (by decide), chk_nI (by omega) (by decide), chk_nI (by omega) (by decide), ix_nI (by omega), hs _ hlt, if_neg ii.1, if_pos ii.2, e.2, show (10 : Int32) = nI 10 from rfl, nI_mul, nI_add, nI_1, nI_1]
    have e2 : nI (10 * vN tp q j + (48 + dd tp (q + j))) - 48 = nI (vN tp q (j + 1)) := by
      show _ = nI (10 * vN tp q j + dd tp (q + j))
      rw [show 10 * vN tp q j + (48 + dd tp (q + j)) = (10 * vN tp q j + dd tp (q + j)) + 48 by omega, ← nI_add, show nI 48 = (48 : Int32) from rfl]
      exact Int32.add_sub_cancel _ _
    rw [e2]
    rfl
  unfold f_X5_readNumber f_X5_readNumber_l4
  constructor
  · intro h
    refine loop_go (fun j => (nI (vN tp q j), nI j, nI (q + j))) D 200 (by omega) rfl ?_ ?_
    · intro j hj rc
      exact go j hj (fun i hi => h i (by omega)) rc
    · intro rc
      show f_X5_readNumber_b4 _ _ _ _ _ _ _ = _
      unfold f_X5_readNumber_b4
      dsimp only
      rw [if_pos (yle _ (by omega))]
  · intro i hi hn h
    refine loop_go (fun j => (nI (vN tp q j), nI j, nI (q + j))) i 200 (by omega) rfl ?_ ?_
    · intro j hj rc
      exact go j (by omega) (fun i hi => h i (by omega)) rc
    · intro rc
      show f_X5_readNumber_b4 _ _ _ _ _ _ _ = _
      unfold f_X5_readNumber_b4
      dsimp only
      rw [if_neg (nle hi (by omega))]
      have hqi : q + i ≤ z := by
        cases i with
        | zero => exact hq
        | succ i => have := (h i (by omega)).1; omega
      by_cases l : q + i < z
      · rw [if_neg (nle l (by omega)), chk_nI (by omega) (by decide), chk_nI (by omega) (by decide), chk_nI (by omega) (by decide), ix_nI (by omega), hs _ l]
        by_cases c1 : tp (q + i) < 48
        · rw [if_pos c1]
        · rw [if_neg c1, if_neg (fun c2 => hn ⟨l, isd_iff.mp ⟨c1, c2⟩⟩)]
      · rw [if_pos (by rw [nI_leI (by omega) (by omega)]; omega)]
