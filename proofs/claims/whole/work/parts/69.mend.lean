/-! PURE 69: the order mended: a permutation of places -/
theorem cnt_mono (P : Nat → Bool) {p q : Nat} (h : p ≤ q) : cnt P p ≤ cnt P q := by
  induction q with
  | zero =>
    have : p = 0 := by omega
    rw [this]
    exact Nat.le_refl _
  | succ q ih =>
    by_cases e : p = q + 1
    · rw [e]; exact Nat.le_refl _
    · have := ih (by omega)
      rw [cnt_s]
      by_cases hq : P q = true
      · rw [if_pos hq]; omega
      · rw [if_neg hq]; exact this
theorem cnt_lt {P : Nat → Bool} {p q : Nat} (h : p < q) (hp : P p = true) : cnt P p < cnt P q := by
  have h1 : cnt P (p + 1) = cnt P p + 1 := by rw [cnt_s, if_pos hp]
  have h2 := cnt_mono P (show p + 1 ≤ q by omega)
  omega
noncomputable def enP (P : Nat → Bool) (k : Nat) : Nat := Classical.epsilon (fun p => P p = true ∧ cnt P p = k)
theorem en_ex {P : Nat → Bool} {k : Nat} : ∀ {n}, k < cnt P n → ∃ p, p < n ∧ P p = true ∧ cnt P p = k := by
  intro n
  induction n with
  | zero => intro h; exact absurd h (Nat.not_lt_zero _)
  | succ n ih =>
    intro h
    rw [cnt_s] at h
    by_cases hn : P n = true
    · rw [if_pos hn] at h
      by_cases e : k = cnt P n
      · exact ⟨n, by omega, hn, e.symm⟩
      · obtain ⟨p, h1, h2⟩ := ih (by omega)
        exact ⟨p, by omega, h2⟩
    · rw [if_neg hn] at h
      obtain ⟨p, h1, h2⟩ := ih h
      exact ⟨p, by omega, h2⟩
theorem en_at {P : Nat → Bool} {p : Nat} (h : P p = true) : enP P (cnt P p) = p := by
  have hs : P (enP P (cnt P p)) = true ∧ cnt P (enP P (cnt P p)) = cnt P p := Classical.epsilon_spec (p := fun q => P q = true ∧ cnt P q = cnt P p) ⟨p, h, rfl⟩
  rcases Nat.lt_trichotomy (enP P (cnt P p)) p with q | q | q
  · have := cnt_lt q hs.1; omega
  · exact q
  · have := cnt_lt q h; omega
theorem en_spec {P : Nat → Bool} {k n : Nat} (h : k < cnt P n) : enP P k < n ∧ P (enP P k) = true ∧ cnt P (enP P k) = k := by
  obtain ⟨p, h1, h2, h3⟩ := en_ex h
  rw [← h3, en_at h2]
  exact ⟨h1, h2, rfl⟩
theorem en_lt {P : Nat → Bool} {j k n : Nat} (h : k < cnt P n) (hjk : j < k) : enP P j < enP P k := by
  have h1 := en_spec h
  have h2 := en_spec (show j < cnt P n by omega)
  refine Classical.byContradiction fun q => ?_
  have := cnt_mono P (show enP P k ≤ enP P j by omega)
  omega
theorem cnt_en (P Q : Nat → Bool) : ∀ n, cnt (fun j => Q (enP P j)) (cnt P n) = cnt (fun i => P i && Q i) n := by
  intro n
  induction n with
  | zero => rfl
  | succ n ih =>
    rw [cnt_s P n, cnt_s (fun i => P i && Q i) n]
    by_cases hn : P n = true
    · rw [if_pos hn, cnt_s, ih, hn, Bool.true_and]
      show (if Q (enP P (cnt P n)) = true then _ else _) = _
      rw [en_at hn]
    · rw [if_neg hn, ih, show P n = false from Bool.eq_false_iff.mpr hn, Bool.false_and]
      rfl
theorem cnt_stop {P : Nat → Bool} {p : Nat} : ∀ {q}, p ≤ q → (∀ i, p ≤ i → i < q → ¬ P i = true) → cnt P q = cnt P p := by
  intro q
  induction q with
  | zero =>
    intro h _
    have : p = 0 := by omega
    rw [this]
  | succ q ih =>
    intro h hn
    by_cases e : p = q + 1
    · rw [e]
    · rw [cnt_s, if_neg (hn q (by omega) (by omega))]
      exact ih (by omega) (fun i h1 h2 => hn i h1 (by omega))
noncomputable def fP (a : AN) (x y : Nat) : Nat → Bool := fun p => pb (pcO a y ≤ p ∧ p ≤ pcO a x ∧ Rc (aNr a) (aO a p) x)
noncomputable def hP (a : AN) (x y : Nat) : Nat → Bool := fun p => pb (pcO a y ≤ p ∧ p ≤ pcO a x ∧ Rc (aNr a) y (aO a p))
noncomputable def pP (a : AN) (x y : Nat) : Nat → Bool := fun p => fP a x y p || hP a x y p
noncomputable def nF (a : AN) (x y : Nat) : Nat := cnt (fP a x y) 24
noncomputable def sg (a : AN) (x y : Nat) : Nat → Nat := fun k => if k < nF a x y then enP (fP a x y) k else enP (hP a x y) (k - nF a x y)
/-- the order mended -/
noncomputable def mO (a : AN) (x y : Nat) : Nat → Nat := fun p => if pP a x y p then aO a (sg a x y (cnt (pP a x y) p)) else aO a p
noncomputable def tg (a : AN) (x y : Nat) : Nat → Nat := fun p => if fP a x y p then enP (pP a x y) (cnt (fP a x y) p) else if hP a x y p then enP (pP a x y) (nF a x y + cnt (hP a x y) p) else p
theorem fP_i {a : AN} {x y p : Nat} : fP a x y p = true ↔ (pcO a y ≤ p ∧ p ≤ pcO a x ∧ Rc (aNr a) (aO a p) x) := pb_iff
theorem hP_i {a : AN} {x y p : Nat} : hP a x y p = true ↔ (pcO a y ≤ p ∧ p ≤ pcO a x ∧ Rc (aNr a) y (aO a p)) := pb_iff
theorem pP_i {a : AN} {x y p : Nat} : pP a x y p = true ↔ (fP a x y p = true ∨ hP a x y p = true) := by
  unfold pP
  rw [Bool.or_eq_true]
section
variable {a : AN} {x y : Nat} (hw : WA a) (hx : aAl a x = true) (hy : aAl a y = true) (hn : ¬ Rc (aNr a) y x)
theorem md_dis (hn : ¬ Rc (aNr a) y x) {p : Nat} (h : fP a x y p = true) : ¬ hP a x y p = true := fun g => hn (Rc_trans (hP_i.mp g).2.2 (fP_i.mp h).2.2)
theorem md_rng {p : Nat} (h : pP a x y p = true) : pcO a y ≤ p ∧ p ≤ pcO a x := by
  rcases pP_i.mp h with g | g
  · exact ⟨(fP_i.mp g).1, (fP_i.mp g).2.1⟩
  · exact ⟨(hP_i.mp g).1, (hP_i.mp g).2.1⟩
theorem md_sum (hn : ¬ Rc (aNr a) y x) : ∀ n, cnt (pP a x y) n = cnt (fP a x y) n + cnt (hP a x y) n := by
  intro n
  induction n with
  | zero => rfl
  | succ n ih =>
    rw [cnt_s, cnt_s, cnt_s, ih]
    by_cases h1 : fP a x y n = true
    · have h2 := md_dis hn h1
      rw [if_pos (pP_i.mpr (.inl h1)), if_pos h1, if_neg h2]
      omega
    · by_cases h2 : hP a x y n = true
      · rw [if_pos (pP_i.mpr (.inr h2)), if_neg h1, if_pos h2]
        omega
      · rw [if_neg (fun z => (pP_i.mp z).elim h1 h2), if_neg h1, if_neg h2]
theorem md_s (hw : WA a) (hx : aAl a x = true) {p : Nat} (h : pP a x y p = true) : p < aS a := by
  have := (md_rng h).2
  have := (pcO_spec hw hx).1
  omega
theorem md_24 (hw : WA a) (hx : aAl a x = true) {p : Nat} (h : pP a x y p = true) : p < 24 := by
  have := md_s hw hx h
  have := hw.1
  omega
theorem md_F (hw : WA a) (hx : aAl a x = true) (hn : ¬ Rc (aNr a) y x) {p : Nat} (h : fP a x y p = true) : cnt (fP a x y) p < nF a x y ∧ cnt (fP a x y) p < cnt (pP a x y) 24 := by
  have h1 := md_24 hw hx (pP_i.mpr (.inl h))
  have h2 : cnt (fP a x y) p < nF a x y := cnt_lt h1 h
  have h3 := md_sum hn 24
  unfold nF at h2 ⊢
  omega
theorem md_H (hw : WA a) (hx : aAl a x = true) (hn : ¬ Rc (aNr a) y x) {p : Nat} (h : hP a x y p = true) : nF a x y + cnt (hP a x y) p < cnt (pP a x y) 24 := by
  have h1 := md_24 hw hx (pP_i.mpr (.inr h))
  have h2 : cnt (hP a x y) p < cnt (hP a x y) 24 := cnt_lt h1 h
  have h3 := md_sum hn 24
  unfold nF
  omega
theorem tg_F {p : Nat} (h : fP a x y p = true) : tg a x y p = enP (pP a x y) (cnt (fP a x y) p) := by
  unfold tg
  rw [if_pos h]
theorem tg_H (hn : ¬ Rc (aNr a) y x) {p : Nat} (h : hP a x y p = true) : tg a x y p = enP (pP a x y) (nF a x y + cnt (hP a x y) p) := by
  unfold tg
  rw [if_neg (fun z => md_dis hn z h), if_pos h]
theorem tg_N {p : Nat} (h : ¬ pP a x y p = true) : tg a x y p = p := by
  unfold tg
  rw [if_neg (fun z => h (pP_i.mpr (.inl z))), if_neg (fun z => h (pP_i.mpr (.inr z)))]
/-- what stands at a place after the mending stood at another -/
theorem md_src (hw : WA a) (hx : aAl a x = true) (hn : ¬ Rc (aNr a) y x) {q : Nat} (hq : q < aS a) : ∃ p, p < aS a ∧ mO a x y q = aO a p ∧ tg a x y p = q := by
  have hs := hw.1
  by_cases h : pP a x y q = true
  · have hk : cnt (pP a x y) q < cnt (pP a x y) 24 := cnt_lt (by omega) h
    have h3 := md_sum hn 24
    by_cases hF : cnt (pP a x y) q < nF a x y
    · have e := en_spec (P := fP a x y) (n := 24) hF
      refine ⟨enP (fP a x y) (cnt (pP a x y) q), md_s hw hx (pP_i.mpr (.inl e.2.1)), ?_, ?_⟩
      · unfold mO sg
        rw [if_pos h, if_pos hF]
      · rw [tg_F e.2.1, e.2.2, en_at h]
    · have hk2 : cnt (pP a x y) q - nF a x y < cnt (hP a x y) 24 := by
        unfold nF at hF ⊢
        omega
      have e := en_spec (P := hP a x y) (n := 24) hk2
      refine ⟨enP (hP a x y) (cnt (pP a x y) q - nF a x y), md_s hw hx (pP_i.mpr (.inr e.2.1)), ?_, ?_⟩
      · unfold mO sg
        rw [if_pos h, if_neg hF]
      · rw [tg_H hn e.2.1, e.2.2, show nF a x y + (cnt (pP a x y) q - nF a x y) = cnt (pP a x y) q by omega, en_at h]
  · refine ⟨q, hq, ?_, tg_N h⟩
    unfold mO
    rw [if_neg h]
theorem md_tgt (hw : WA a) (hx : aAl a x = true) (hn : ¬ Rc (aNr a) y x) {p : Nat} (hp : p < aS a) : tg a x y p < aS a ∧ mO a x y (tg a x y p) = aO a p := by
  by_cases h1 : fP a x y p = true
  · have e := en_spec (md_F hw hx hn h1).2
    rw [tg_F h1]
    refine ⟨md_s hw hx e.2.1, ?_⟩
    unfold mO sg
    rw [if_pos e.2.1, e.2.2, if_pos (md_F hw hx hn h1).1, en_at h1]
  · by_cases h2 : hP a x y p = true
    · have e := en_spec (md_H hw hx hn h2)
      rw [tg_H hn h2]
      refine ⟨md_s hw hx e.2.1, ?_⟩
      unfold mO sg
      rw [if_pos e.2.1, e.2.2, if_neg (by omega), show nF a x y + cnt (hP a x y) p - nF a x y = cnt (hP a x y) p by omega, en_at h2]
    · have h : ¬ pP a x y p = true := fun z => (pP_i.mp z).elim h1 h2
      rw [tg_N h]
      refine ⟨hp, ?_⟩
      unfold mO
      rw [if_neg h]
theorem tg_Fle (hw : WA a) (hx : aAl a x = true) (hn : ¬ Rc (aNr a) y x) {p : Nat} (h : fP a x y p = true) : tg a x y p ≤ p ∧ pcO a y ≤ tg a x y p := by
  have e := en_spec (md_F hw hx hn h).2
  rw [tg_F h]
  refine ⟨Classical.byContradiction fun q => ?_, (md_rng e.2.1).1⟩
  have h1 := cnt_lt (show p < enP (pP a x y) (cnt (fP a x y) p) by omega) (pP_i.mpr (.inl h))
  have h2 := md_sum hn p
  omega
theorem tg_Hge (hw : WA a) (hx : aAl a x = true) (hn : ¬ Rc (aNr a) y x) {p : Nat} (h : hP a x y p = true) : p ≤ tg a x y p ∧ tg a x y p ≤ pcO a x := by
  have e := en_spec (md_H hw hx hn h)
  rw [tg_H hn h]
  refine ⟨Classical.byContradiction fun q => ?_, (md_rng e.2.1).2⟩
  have h1 := cnt_lt (show enP (pP a x y) (nF a x y + cnt (hP a x y) p) < p by omega) e.2.1
  have h2 := md_sum hn p
  have h3 := md_24 hw hx (pP_i.mpr (.inr h))
  have h4 : cnt (fP a x y) p ≤ nF a x y := cnt_mono _ (by omega)
  omega
theorem tg_FH (hw : WA a) (hx : aAl a x = true) (hn : ¬ Rc (aNr a) y x) {p q : Nat} (hp : fP a x y p = true) (hq : hP a x y q = true) : tg a x y p < tg a x y q := by
  rw [tg_F hp, tg_H hn hq]
  exact en_lt (md_H hw hx hn hq) (by have := (md_F hw hx hn hp).1; omega)
theorem tg_mono (hw : WA a) (hx : aAl a x = true) (hn : ¬ Rc (aNr a) y x) {p q : Nat} (hp : p < aS a) (hq : q < aS a) (e : aNr a (aO a p) (aO a q) = true) : tg a x y p < tg a x y q := by
  have hpq : p < q := hw.2.2.2.2.2.2.1 p q hp hq e
  by_cases f1 : fP a x y p = true
  · by_cases f2 : fP a x y q = true
    · rw [tg_F f1, tg_F f2]
      exact en_lt (md_F hw hx hn f2).2 (cnt_lt hpq f1)
    · by_cases h2 : hP a x y q = true
      · exact tg_FH hw hx hn f1 h2
      · rw [tg_N (p := q) (fun z => (pP_i.mp z).elim f2 h2)]
        have := (tg_Fle hw hx hn f1).1
        omega
  · by_cases h1 : hP a x y p = true
    · have i1 := hP_i.mp h1
      have ry : Rc (aNr a) y (aO a q) := Rc_snoc i1.2.2 e
      by_cases f2 : fP a x y q = true
      · exact absurd (Rc_trans ry (fP_i.mp f2).2.2) hn
      · by_cases h2 : hP a x y q = true
        · rw [tg_H hn h1, tg_H hn h2]
          exact en_lt (md_H hw hx hn h2) (by have := cnt_lt hpq h1; omega)
        · rw [tg_N (p := q) (fun z => (pP_i.mp z).elim f2 h2)]
          have t1 := (tg_Hge hw hx hn h1).2
          have : ¬ q ≤ pcO a x := fun z => h2 (hP_i.mpr ⟨by omega, z, ry⟩)
          omega
    · rw [tg_N (p := p) (fun z => (pP_i.mp z).elim f1 h1)]
      by_cases f2 : fP a x y q = true
      · have i2 := fP_i.mp f2
        have rx : Rc (aNr a) (aO a p) x := Rc_cons e i2.2.2
        have t2 := (tg_Fle hw hx hn f2).2
        have : ¬ pcO a y ≤ p := fun z => f1 (fP_i.mpr ⟨z, by omega, rx⟩)
        omega
      · by_cases h2 : hP a x y q = true
        · have := (tg_Hge hw hx hn h2).1
          omega
        · rw [tg_N (p := q) (fun z => (pP_i.mp z).elim f2 h2)]
          exact hpq
end
/-- the net with the link, its order mended -/
noncomputable abbrev cmS (a : AN) (x y : Nat) : AN := (a.1, nrOn a x y, a.2.2.1, mO a x y, a.2.2.2.2)
theorem WA_cm {a : AN} (hw : WA a) {x y : Nat} (hx : aAl a x = true) (hy : aAl a y = true) (hn : ¬ Rc (aNr a) y x) (hpl : pcO a y ≤ pcO a x) : WA (cmS a x y) := by
  refine ⟨hw.1, hw.2.1, hw.2.2.1, fun q hq => ?_, fun q1 q2 hq1 hq2 e => ?_, fun t ht => ?_, fun q1 q2 hq1 hq2 e => ?_, fun t u e => ?_, hw.2.2.2.2.2.2.2.2.1, hw.2.2.2.2.2.2.2.2.2⟩
  · obtain ⟨p, h1, h2, _⟩ := md_src hw hx hn hq
    show aAl a (mO a x y q) = true
    rw [h2]
    exact W_al hw h1
  · obtain ⟨p1, h1, h2, h3⟩ := md_src hw hx hn hq1
    obtain ⟨p2, g1, g2, g3⟩ := md_src hw hx hn hq2
    have e' : mO a x y q1 = mO a x y q2 := e
    rw [h2, g2] at e'
    have := hw.2.2.2.2.1 p1 p2 h1 g1 e'
    rw [← h3, ← g3, this]
  · obtain ⟨p, h1, h2⟩ := hw.2.2.2.2.2.1 t ht
    obtain ⟨g1, g2⟩ := md_tgt hw hx hn h1
    exact ⟨tg a x y p, g1, g2.trans h2⟩
  · obtain ⟨p1, h1, h2, h3⟩ := md_src hw hx hn hq1
    obtain ⟨p2, g1, g2, g3⟩ := md_src hw hx hn hq2
    have e' : nrOn a x y (mO a x y q1) (mO a x y q2) = true := e
    rw [h2, g2] at e'
    rw [← h3, ← g3]
    unfold nrOn at e'
    rw [Bool.or_eq_true, Bool.and_eq_true, decide_eq_true_iff, decide_eq_true_iff] at e'
    rcases e' with e' | ⟨e1, e2⟩
    · exact tg_mono hw hx hn h1 g1 e'
    · have k1 : p1 = pcO a x := by rw [← e1]; exact (pcO_at hw h1).symm
      have k2 : p2 = pcO a y := by rw [← e2]; exact (pcO_at hw g1).symm
      refine tg_FH hw hx hn (fP_i.mpr ⟨by omega, by omega, ?_⟩) (hP_i.mpr ⟨by omega, by omega, ?_⟩)
      · rw [e1]; exact Rc_refl _ _
      · rw [e2]; exact Rc_refl _ _
  · have e' : nrOn a x y t u = true := e
    unfold nrOn at e'
    rw [Bool.or_eq_true, Bool.and_eq_true, decide_eq_true_iff, decide_eq_true_iff] at e'
    rcases e' with e' | ⟨e1, e2⟩
    · exact ⟨W_e1 hw e', W_e2 hw e'⟩
    · rw [e1, e2]; exact ⟨hx, hy⟩
