/-! PURE 79: labels that go, a term that goes -/
abbrev Lb : Type := Nat × (Nat → Int32) × (Nat → Nat)
abbrev lbs (a : AN) : Lb := (aC a, aNm a, aOw a)
abbrev lab (a : AN) (L : Lb) : AN := (a.1, a.2.1, a.2.2.1, a.2.2.2.1, L.1, L.2.1, L.2.2, a.2.2.2.2.2.2.2)
def dl (L : Lb) (i : Nat) : Lb := (L.1 - 1, fun j => if j < i then L.2.1 j else L.2.1 (j + 1), fun j => if j < i then L.2.2 j else L.2.2 (j + 1))
def d3 (t : Nat) : Nat → Lb → Lb
  | 0, L => L
  | k + 1, L => d3 t k (if L.2.2 k = t then dl L k else L)
theorem d3_ok {t : Nat} {Q : Nat → Prop} : ∀ (k : Nat) (L : Lb), k ≤ L.1 → (∀ i, k ≤ i → i < L.1 → L.2.2 i ≠ t) → (∀ i, i < L.1 → Q (L.2.2 i)) → (d3 t k L).1 ≤ L.1 ∧ ∀ i, i < (d3 t k L).1 → (d3 t k L).2.2 i ≠ t ∧ Q ((d3 t k L).2.2 i) := by
  intro k
  induction k with
  | zero => exact fun L _ h1 h2 => ⟨Nat.le_refl _, fun i hi => ⟨h1 i (Nat.zero_le _) hi, h2 i hi⟩⟩
  | succ k ih =>
    intro L hk h1 h2
    show (d3 t k (if L.2.2 k = t then dl L k else L)).1 ≤ L.1 ∧ ∀ i, i < (d3 t k (if L.2.2 k = t then dl L k else L)).1 → _
    by_cases e : L.2.2 k = t
    · have hd := ih (dl L k) (show k ≤ L.1 - 1 by omega) (by
        intro i hi hl
        have hl' : i < L.1 - 1 := hl
        show (if i < k then L.2.2 i else L.2.2 (i + 1)) ≠ t
        rw [if_neg (by omega)]
        exact h1 (i + 1) (by omega) (by omega)) (by
        intro i hl
        have hl' : i < L.1 - 1 := hl
        show Q (if i < k then L.2.2 i else L.2.2 (i + 1))
        by_cases q : i < k
        · rw [if_pos q]; exact h2 i (by omega)
        · rw [if_neg q]; exact h2 (i + 1) (by omega))
      have e' : (if L.2.2 k = t then dl L k else L) = dl L k := if_pos e
      have hd' := hd
      rw [← e'] at hd'
      refine ⟨Nat.le_trans hd'.1 (by rw [e']; show L.1 - 1 ≤ L.1; omega), ?_⟩
      show ∀ i, i < (d3 t k (if L.2.2 k = t then dl L k else L)).1 → (d3 t k (if L.2.2 k = t then dl L k else L)).2.2 i ≠ t ∧ Q ((d3 t k (if L.2.2 k = t then dl L k else L)).2.2 i)
      exact hd'.2
    · have e' : (if L.2.2 k = t then dl L k else L) = L := if_neg e
      have hd := ih L (by omega) (by
        intro i hi hl
        by_cases q : i = k
        · rw [q]; exact e
        · exact h1 i (by omega) hl) h2
      show (d3 t k (if L.2.2 k = t then dl L k else L)).1 ≤ L.1 ∧ ∀ i, i < (d3 t k (if L.2.2 k = t then dl L k else L)).1 → (d3 t k (if L.2.2 k = t then dl L k else L)).2.2 i ≠ t ∧ Q ((d3 t k (if L.2.2 k = t then dl L k else L)).2.2 i)
      rw [e']
      exact hd
/-- a row whose part from i on moves one place ahead -/
def shA (f : Nat → Int32) (i j : Nat) : Nat → Int32 := fun q => if i ≤ q ∧ q < i + j then f (q + 1) else f q
theorem shA_0 (f : Nat → Int32) (i : Nat) : shA f i 0 = f := by
  funext q
  unfold shA
  rw [if_neg (by omega)]
theorem shA_n (f : Nat → Int32) (i j : Nat) : shA f i j (i + j + 1) = f (i + j + 1) := by
  unfold shA
  rw [if_neg (by omega)]
theorem shA_s (f : Nat → Int32) (i j : Nat) : upd (shA f i j) (i + j) (f (i + j + 1)) = shA f i (j + 1) := by
  funext q
  unfold upd shA
  by_cases e : q = i + j
  · rw [if_pos e, if_pos (by omega), e]
  · rw [if_neg e]
    by_cases h : i ≤ q ∧ q < i + j
    · rw [if_pos h, if_pos (by omega)]
    · rw [if_neg h, if_neg (by omega)]
theorem c_removeName (f g : Nat → Int32) {c i : Nat} (hi : i < c) (hc : c ≤ 40) : f_X2_removeName f g (nI c) (nI i) = some (shA f i (c - 1 - i), shA g i (c - 1 - i), nI (c - 1)) := by
  unfold f_X2_removeName f_X2_removeName_l4
  refine loop_go (fun j => (nI (i + 1 + j), shA f i j, shA g i j)) (c - 1 - i) 200 (by omega) ?_ ?_ ?_
  · rw [shA_0, shA_0, nI_1]
  · intro j hj rc
    show f_X2_removeName_b4 _ _ _ _ _ _ = _
    unfold f_X2_removeName_b4
    dsimp only
    rw [if_neg (nle (show i + 1 + j < c by omega) (by omega)), show i + 1 + j = i + j + 1 by omega, nI_m1, chk_nI (by omega) (by decide), chk_nI (by omega) (by decide), chk_nI (by omega) (by decide), chk_nI (by omega) (by decide), ix_nI (by omega), ix_nI (by omega), nI_1, shA_n, shA_n, shA_s, shA_s, show i + 1 + (j + 1) = i + j + 1 + 1 by omega]
  · intro rc
    show f_X2_removeName_b4 _ _ _ _ _ _ = _
    unfold f_X2_removeName_b4
    dsimp only
    rw [show i + 1 + (c - 1 - i) = c by omega, if_pos (yle _ (by omega)), show nI c - 1 = nI (c - 1) by rw [← nI_m1 (n := c - 1), show c - 1 + 1 = c by omega]]
theorem CN_dl {n : ND} {a : AN} {i : Nat} (h : CN n a) (hi : i < aC a) : CN (n.1, n.2.1, n.2.2.1, shA n.2.2.2.1 i (aC a - 1 - i), shA n.2.2.2.2.1 i (aC a - 1 - i), n.2.2.2.2.2.1, n.2.2.2.2.2.2.1, n.2.2.2.2.2.2.2.1, nI (aC a - 1)) (lab a (dl (lbs a) i)) := by
  refine ⟨h.1, h.2.1, h.2.2.1, fun q hq => ?_, fun q hq => ?_, h.2.2.2.2.2.1, h.2.2.2.2.2.2.1, rfl⟩
  · have hq' : q < aC a - 1 := hq
    show shA n.2.2.2.1 i (aC a - 1 - i) q = if q < i then aNm a q else aNm a (q + 1)
    unfold shA
    by_cases e : q < i
    · rw [if_pos e, if_neg (by omega)]; exact h.2.2.2.1 q (by omega)
    · rw [if_neg e, if_pos (by omega)]; exact h.2.2.2.1 (q + 1) (by omega)
  · have hq' : q < aC a - 1 := hq
    show shA n.2.2.2.2.1 i (aC a - 1 - i) q = nI (if q < i then aOw a q else aOw a (q + 1))
    unfold shA
    by_cases e : q < i
    · rw [if_pos e, if_neg (by omega)]; exact h.2.2.2.2.1 q (by omega)
    · rw [if_neg e, if_pos (by omega)]; exact h.2.2.2.2.1 (q + 1) (by omega)
def shM (m : Nat → Int32) (i j : Nat) : Nat → Int32 := fun q => if 27 + i ≤ q ∧ q < 27 + i + j then m (q + 1) else if 67 + i ≤ q ∧ q < 67 + i + j then m (q + 1) else m q
theorem m_dropsLabel {m : Nat → Int32} {a : AN} (h : MN m 0 a) (hs : aS a ≤ 24) (hc : aC a ≤ 40) {i : Nat} (hi : i < aC a) : ∃ m', f_X7_dropsLabel m (nI i) = some m' ∧ MN m' 0 (lab a (dl (lbs a) i)) ∧ out m m' := by
  obtain ⟨m2, d2⟩ : ∃ m2, m2 = upd m 2 (nI (aC a - 1)) := ⟨_, rfl⟩
  have e2 : m 2 = nI (aC a) := h.2.2.2.2.2.2.2
  have lm : ∀ j, j ≤ 40 → f_X7_labelMany (shM m2 i j) 0 = some (nI (aC a - 1)) := by
    intro j hj
    unfold f_X7_labelMany
    rw [show (0 : Int32) * 179 + 2 = nI 2 from rfl, chk_nI (by omega) (by decide), ix_nI (by omega)]
    unfold shM
    rw [if_neg (by omega), if_neg (by omega), d2, updN]
  refine ⟨shM m2 i (aC a - 1 - i), ?_, ?_, ?_⟩
  · unfold f_X7_dropsLabel
    rw [show inb 2 2327 = true by decide, chk_true, chk_true, show ix (2 : Int32) = 2 from rfl, e2, show nI (aC a) - 1 = nI (aC a - 1) by rw [← nI_m1 (n := aC a - 1), show aC a - 1 + 1 = aC a by omega], ← d2]
    unfold f_X7_dropsLabel_l12
    refine loop_go (fun j => (nI (i + j), shM m2 i j)) (aC a - 1 - i) 200 (by omega) ?_ ?_ ?_
    · have : shM m2 i 0 = m2 := by
        funext q
        unfold shM
        rw [if_neg (by omega), if_neg (by omega)]
      rw [this]
      rfl
    · intro j hj rc
      show f_X7_dropsLabel_b12 _ _ _ _ = _
      unfold f_X7_dropsLabel_b12
      dsimp only
      rw [lm j (by omega), sbind, if_neg (nle (show i + j < aC a - 1 by omega) (by omega)), show (27 : Int32) = nI 27 from rfl, show (67 : Int32) = nI 67 from rfl, nI_add, nI_add, nI_1, nI_1, nI_1, chk_nI (by omega) (by decide), chk_nI (by omega) (by decide), chk_nI (by omega) (by decide), chk_nI (by omega) (by decide), ix_nI (by omega), ix_nI (by omega), ix_nI (by omega), ix_nI (by omega)]
      refine congrArg (fun z => rc (nI (i + j + 1), z)) ?_
      funext q
      unfold upd shM
      rw [if_neg (show ¬ 67 + (i + j) + 1 = 27 + (i + j) by omega)]
      by_cases q1 : q = 67 + (i + j)
      · rw [if_pos q1, if_neg (by omega), if_neg (by omega), if_neg (by omega), if_pos (by omega), q1]
      · rw [if_neg q1]
        by_cases q2 : q = 27 + (i + j)
        · rw [if_pos q2, if_neg (by omega), if_neg (by omega), if_pos (by omega), q2]
        · rw [if_neg q2]
          by_cases q3 : 27 + i ≤ q ∧ q < 27 + i + j
          · rw [if_pos q3, if_pos (by omega)]
          · by_cases q4 : 67 + i ≤ q ∧ q < 67 + i + j
            · rw [if_neg q3, if_pos q4, if_neg (by omega), if_pos (by omega)]
            · rw [if_neg q3, if_neg q4, if_neg (by omega), if_neg (by omega)]
    · intro rc
      show f_X7_dropsLabel_b12 _ _ _ _ = _
      unfold f_X7_dropsLabel_b12
      dsimp only
      rw [lm _ (by omega), sbind, show i + (aC a - 1 - i) = aC a - 1 by omega, if_pos (yle _ (by omega))]
  · have low : ∀ q, q < 27 ∨ 107 ≤ q → q ≠ 2 → shM m2 i (aC a - 1 - i) q = m q := by
      intro q hq h2
      unfold shM
      rw [if_neg (by omega), if_neg (by omega), d2, updO h2]
    refine ⟨fun u hu => ?_, fun p hp => ?_, fun u hu => ⟨?_, ?_⟩, fun q hq => ?_, fun q hq => ?_, ?_, ?_, ?_⟩
    · rw [low _ (by omega) (by omega)]; exact h.1 u hu
    · have hp' : p < aS a := hp
      rw [low _ (by omega) (by omega)]; exact h.2.1 p hp
    · rw [low _ (by omega) (by omega)]; exact (h.2.2.1 u hu).1
    · rw [low _ (by omega) (by omega)]; exact (h.2.2.1 u hu).2
    · have hq' : q < aC a - 1 := hq
      show _ = if q < i then aNm a q else aNm a (q + 1)
      unfold shM
      rw [if_neg (by omega), d2]
      by_cases e : q < i
      · rw [if_pos e, if_neg (by omega), updO (by omega)]; exact h.2.2.2.1 q (by omega)
      · rw [if_neg e, if_pos (by omega), updO (by omega)]; exact h.2.2.2.1 (q + 1) (by omega)
    · have hq' : q < aC a - 1 := hq
      show _ = nI (if q < i then aOw a q else aOw a (q + 1))
      unfold shM
      rw [d2]
      by_cases e : q < i
      · rw [if_pos e, if_neg (by omega), if_neg (by omega), updO (by omega)]; exact h.2.2.2.2.1 q (by omega)
      · rw [if_neg e, if_pos (by omega), updO (by omega)]; exact h.2.2.2.2.1 (q + 1) (by omega)
    · rw [low _ (by omega) (by omega)]; exact h.2.2.2.2.2.1
    · rw [low _ (by omega) (by omega)]; exact h.2.2.2.2.2.2.1
    · show shM m2 i (aC a - 1 - i) 2 = nI (aC a - 1)
      unfold shM
      rw [if_neg (by omega), if_neg (by omega), d2, updN]
  · intro q hq
    unfold shM
    rw [if_neg (by omega), if_neg (by omega), d2, updO (by omega)]
/-- a term gone, its labels apart -/
noncomputable abbrev lvS (a : AN) (t : Nat) : AN := (fun u => aAl a u && !decide (u = t), fun u v => aNr a u v && !decide (u = t) && !decide (v = t), aS a - 1, fun p => if p < pcO a t then aO a p else aO a (p + 1), a.2.2.2.2.1, a.2.2.2.2.2.1, a.2.2.2.2.2.2.1, fun u k => aIt a u k && !decide (u = t))
theorem al_lv {a : AN} {t u : Nat} : aAl (lvS a t) u = true ↔ (aAl a u = true ∧ u ≠ t) := by
  show (aAl a u && !decide (u = t)) = true ↔ _
  by_cases h : u = t <;> simp [h]
theorem nr_lv {a : AN} {t u v : Nat} : aNr (lvS a t) u v = true ↔ (aNr a u v = true ∧ u ≠ t ∧ v ≠ t) := by
  show (aNr a u v && !decide (u = t) && !decide (v = t)) = true ↔ _
  by_cases h : u = t <;> by_cases g : v = t <;> simp [h, g]
theorem it_lv {a : AN} {t u k : Nat} : aIt (lvS a t) u k = true ↔ (aIt a u k = true ∧ u ≠ t) := by
  show (aIt a u k && !decide (u = t)) = true ↔ _
  by_cases h : u = t <;> simp [h]
theorem o_lv {a : AN} {t p : Nat} : aO (lvS a t) p = if p < pcO a t then aO a p else aO a (p + 1) := rfl
theorem WA_lv {a : AN} (hw : WA a) {t : Nat} (ht : aAl a t = true) {L : Lb} (hc : L.1 ≤ 40) (hL : ∀ i, i < L.1 → L.2.2 i ≠ t ∧ aAl a (L.2.2 i) = true) : WA (lab (lvS a t) L) := by
  have hs := hw.1
  have sp := pcO_spec hw ht
  -- a place of the new order as one of the old
  have pl : ∀ p, p < aS a - 1 → ∃ q, q < aS a ∧ q ≠ pcO a t ∧ aO (lvS a t) p = aO a q ∧ (q < pcO a t → p = q) ∧ (pcO a t < q → p + 1 = q) := by
    intro p hp
    rw [o_lv]
    by_cases e : p < pcO a t
    · rw [if_pos e]; exact ⟨p, by omega, by omega, rfl, fun _ => rfl, fun z => by omega⟩
    · rw [if_neg e]; exact ⟨p + 1, by omega, by omega, rfl, fun z => by omega, fun _ => rfl⟩
  refine ⟨show aS a - 1 ≤ 24 by omega, hc, fun u hu => W_lt hw (al_lv.mp hu).1, fun p hp => ?_, fun p q hp hq e => ?_, fun u hu => ?_, fun p q hp hq e => ?_, fun u v e => ?_, fun i hi => ?_, fun u k e => ?_⟩
  · have hp' : p < aS a - 1 := hp
    obtain ⟨q, h1, h2, h3, _⟩ := pl p hp'
    show aAl (lvS a t) (aO (lvS a t) p) = true
    rw [h3, al_lv]
    refine ⟨W_al hw h1, fun z => h2 ?_⟩
    rw [← z, pcO_at hw h1]
  · have hp' : p < aS a - 1 := hp
    have hq' : q < aS a - 1 := hq
    obtain ⟨p1, h1, h2, h3, h4, h5⟩ := pl p hp'
    obtain ⟨q1, g1, g2, g3, g4, g5⟩ := pl q hq'
    have e' : aO (lvS a t) p = aO (lvS a t) q := e
    rw [h3, g3] at e'
    have := hw.2.2.2.2.1 p1 q1 h1 g1 e'
    by_cases z : p1 < pcO a t
    · have := h4 z; have := g4 (by omega); omega
    · have := h5 (by omega); have := g5 (by omega); omega
  · obtain ⟨z1, z2⟩ := al_lv.mp hu
    obtain ⟨q, h1, h2⟩ := hw.2.2.2.2.2.1 u z1
    have hne : q ≠ pcO a t := by
      intro z
      apply z2
      rw [← h2, z]
      exact sp.2
    by_cases c : q < pcO a t
    · refine ⟨q, show q < aS a - 1 by omega, ?_⟩
      show aO (lvS a t) q = u
      rw [o_lv, if_pos c]
      exact h2
    · refine ⟨q - 1, show q - 1 < aS a - 1 by omega, ?_⟩
      show aO (lvS a t) (q - 1) = u
      rw [o_lv, if_neg (by omega), show q - 1 + 1 = q by omega]
      exact h2
  · have hp' : p < aS a - 1 := hp
    have hq' : q < aS a - 1 := hq
    obtain ⟨p1, h1, h2, h3, h4, h5⟩ := pl p hp'
    obtain ⟨q1, g1, g2, g3, g4, g5⟩ := pl q hq'
    have e' : aNr (lvS a t) (aO (lvS a t) p) (aO (lvS a t) q) = true := e
    rw [h3, g3] at e'
    have := hw.2.2.2.2.2.2.1 p1 q1 h1 g1 (nr_lv.mp e').1
    by_cases z : p1 < pcO a t
    · have := h4 z
      by_cases w : q1 < pcO a t
      · have := g4 w; omega
      · have := g5 (by omega); omega
    · have := h5 (by omega); have := g5 (by omega); omega
  · obtain ⟨z1, z2, z3⟩ := nr_lv.mp e
    exact ⟨al_lv.mpr ⟨W_e1 hw z1, z2⟩, al_lv.mpr ⟨W_e2 hw z1, z3⟩⟩
  · have := hL i hi
    exact al_lv.mpr ⟨this.2, this.1⟩
  · obtain ⟨z1, z2⟩ := it_lv.mp e
    have := hw.2.2.2.2.2.2.2.2.2 u k z1
    exact ⟨al_lv.mpr ⟨this.1, z2⟩, this.2⟩
