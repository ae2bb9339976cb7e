/-! PURE 82: labels handed on -/
def app (L : Lb) (v : Int32) (x : Nat) : Lb := (L.1 + 1, upd L.2.1 L.1 v, va_up L.2.2 L.1 x)
def hq (x y : Nat) (L0 : Lb) : Nat → Nat × Lb
  | 0 => (0, L0)
  | m + 1 => if (hq x y L0 m).2.2.2 (hq x y L0 m).1 = y then ((hq x y L0 m).1, app (dl (hq x y L0 m).2 (hq x y L0 m).1) ((hq x y L0 m).2.2.1 (hq x y L0 m).1) x) else ((hq x y L0 m).1 + 1, (hq x y L0 m).2)
theorem hq_hit {x y : Nat} {L0 : Lb} {m : Nat} (h : (hq x y L0 m).2.2.2 (hq x y L0 m).1 = y) : hq x y L0 (m + 1) = ((hq x y L0 m).1, app (dl (hq x y L0 m).2 (hq x y L0 m).1) ((hq x y L0 m).2.2.1 (hq x y L0 m).1) x) := by
  show (if _ then _ else _) = _
  rw [if_pos h]
theorem hq_mis {x y : Nat} {L0 : Lb} {m : Nat} (h : ¬ (hq x y L0 m).2.2.2 (hq x y L0 m).1 = y) : hq x y L0 (m + 1) = ((hq x y L0 m).1 + 1, (hq x y L0 m).2) := by
  show (if _ then _ else _) = _
  rw [if_neg h]
theorem app_ow {L : Lb} {i : Nat} {v : Int32} {x j : Nat} (hi : i < L.1) (hj : j < L.1) : (app (dl L i) v x).2.2 j = if j = L.1 - 1 then x else if j < i then L.2.2 j else L.2.2 (j + 1) := rfl
theorem hq_inv {x y : Nat} {L0 : Lb} {Q : Nat → Prop} (hne : x ≠ y) (hQx : Q x) (hQ : ∀ j, j < L0.1 → Q (L0.2.2 j)) : ∀ m, m ≤ L0.1 → (hq x y L0 m).1 ≤ m ∧ (hq x y L0 m).2.1 = L0.1 ∧ (∀ j, j < (hq x y L0 m).1 → (hq x y L0 m).2.2.2 j ≠ y) ∧ (∀ j, L0.1 - (m - (hq x y L0 m).1) ≤ j → j < L0.1 → (hq x y L0 m).2.2.2 j ≠ y) ∧ (∀ j, j < L0.1 → Q ((hq x y L0 m).2.2.2 j)) := by
  intro m
  induction m with
  | zero =>
    intro _
    exact ⟨Nat.le_refl _, rfl, fun j hj => absurd hj (Nat.not_lt_zero _), fun j h1 h2 => by have : L0.1 - (0 - 0) ≤ j := h1; omega, hQ⟩
  | succ m ih =>
    intro hm
    obtain ⟨i1, i2, i3, i4, i5⟩ := ih (by omega)
    obtain ⟨s, ds⟩ : ∃ s, s = hq x y L0 m := ⟨_, rfl⟩
    by_cases e : (hq x y L0 m).2.2.2 (hq x y L0 m).1 = y
    · rw [hq_hit e]
      rw [← ds] at i1 i2 i3 i4 i5 e ⊢
      obtain ⟨i, L⟩ := s
      dsimp only at i1 i2 i3 i4 i5 e ⊢
      have hiL : i < L.1 := by omega
      refine ⟨by omega, ?_, ?_, ?_, ?_⟩
      · show L.1 - 1 + 1 = L0.1
        omega
      · intro j hj
        rw [app_ow hiL (by omega), if_neg (by omega), if_pos hj]
        exact i3 j hj
      · intro j h1 h2
        rw [app_ow hiL (by omega)]
        by_cases q : j = L.1 - 1
        · rw [if_pos q]; exact hne
        · rw [if_neg q, if_neg (by omega)]
          exact i4 (j + 1) (by omega) (by omega)
      · intro j hj
        rw [app_ow hiL (by omega)]
        by_cases q : j = L.1 - 1
        · rw [if_pos q]; exact hQx
        · rw [if_neg q]
          by_cases q2 : j < i
          · rw [if_pos q2]; exact i5 j hj
          · rw [if_neg q2]; exact i5 (j + 1) (by omega)
    · rw [hq_mis e]
      rw [← ds] at i1 i2 i3 i4 i5 e ⊢
      obtain ⟨i, L⟩ := s
      dsimp only at i1 i2 i3 i4 i5 e ⊢
      refine ⟨by omega, i2, ?_, ?_, i5⟩
      · intro j hj
        by_cases q : j = i
        · rw [q]; exact e
        · exact i3 j (by omega)
      · intro j h1 h2
        exact i4 j (by omega) h2
def rmn (L : Lb) (y : Nat) : Nat := cnt (fun j => decide (L.2.2 j = y)) L.1
theorem cnt_del (P : Nat → Bool) (i : Nat) : ∀ d, cnt (fun j => if j < i then P j else P (j + 1)) (i + d) + (if P i then 1 else 0) = cnt P (i + d + 1) := by
  intro d
  induction d with
  | zero =>
    rw [Nat.add_zero, cnt_congr (P := fun j => if j < i then P j else P (j + 1)) (Q := P) i (fun k hk => if_pos hk), cnt_s P i]
    by_cases h : P i = true
    · rw [if_pos h, if_pos h]
    · rw [if_neg h, if_neg h]; rfl
  | succ d ih =>
    rw [← Nat.add_assoc, cnt_s, cnt_s P (i + d + 1)]
    have : (if i + d < i then P (i + d) else P (i + d + 1)) = P (i + d + 1) := if_neg (by omega)
    rw [this]
    by_cases h : P (i + d + 1) = true
    · rw [if_pos h, if_pos h]; omega
    · rw [if_neg h, if_neg h]; omega
theorem rmn_hit {L : Lb} {i : Nat} (hi : i < L.1) {y x : Nat} (hne : x ≠ y) (h : L.2.2 i = y) (v : Int32) : rmn (app (dl L i) v x) y + 1 = rmn L y := by
  obtain ⟨d, hd⟩ : ∃ d, L.1 = i + d + 1 := ⟨L.1 - i - 1, by omega⟩
  unfold rmn
  rw [show (app (dl L i) v x).1 = (i + d) + 1 by show L.1 - 1 + 1 = _; omega, cnt_s]
  have e1 : (app (dl L i) v x).2.2 (i + d) = x := by
    rw [app_ow hi (by omega), if_pos (by omega)]
  rw [e1, if_neg (by simp [hne])]
  rw [cnt_congr (P := fun j => decide ((app (dl L i) v x).2.2 j = y)) (Q := fun j => if j < i then decide (L.2.2 j = y) else decide (L.2.2 (j + 1) = y)) (i + d) (fun k hk => by
    rw [app_ow hi (by omega), if_neg (by omega)]
    by_cases q : k < i
    · rw [if_pos q, if_pos q]
    · rw [if_neg q, if_neg q])]
  have := cnt_del (fun j => decide (L.2.2 j = y)) i d
  rw [if_pos (decide_eq_true h)] at this
  rw [hd]
  exact this
theorem rmn_0 {L : Lb} {y : Nat} : rmn L y = 0 ↔ ∀ j, j < L.1 → L.2.2 j ≠ y := by
  unfold rmn
  rw [cnt_0]
  constructor
  · intro h j hj e
    exact h j hj (decide_eq_true e)
  · intro h j hj e
    exact h j hj (of_decide_eq_true e)
theorem hq_stay {x y : Nat} {L0 : Lb} (hne : x ≠ y) {m : Nat} (h0 : rmn (hq x y L0 m).2 y = 0) : ∀ d, m + d ≤ L0.1 → (hq x y L0 (m + d)).2 = (hq x y L0 m).2 := by
  intro d
  induction d with
  | zero => intro _; rfl
  | succ d ih =>
    intro hd
    have e := ih (by omega)
    have iv := hq_inv (Q := fun _ => True) (x := x) (y := y) (L0 := L0) hne trivial (fun _ _ => trivial) (m + d) (by omega)
    have q : ¬ (hq x y L0 (m + d)).2.2.2 (hq x y L0 (m + d)).1 = y := by
      rw [e]
      refine rmn_0.mp h0 _ ?_
      rw [← e, iv.2.1]
      omega
    rw [← Nat.add_assoc, hq_mis q]
    exact e
theorem hq_fin {x y : Nat} {L0 : Lb} (hne : x ≠ y) : rmn (hq x y L0 L0.1).2 y = 0 := by
  have iv := hq_inv (Q := fun _ => True) (x := x) (y := y) (L0 := L0) hne trivial (fun _ _ => trivial) L0.1 (Nat.le_refl _)
  rw [rmn_0, iv.2.1]
  intro j hj
  by_cases q : j < (hq x y L0 L0.1).1
  · exact iv.2.2.1 j q
  · exact iv.2.2.2.1 j (by omega) hj
theorem c_handNames {n : ND} {a : AN} (h : CN n a) (hW : WA a) {x y : Nat} (hx : aAl a x = true) (hy : aAl a y = true) (hne : x ≠ y) : ∃ nm ow, f_X2_handNames n.2.2.2.1 n.2.2.2.2.1 n.2.2.2.2.2.2.2.2 (nI y) (nI x) = some (nm, ow, nI (aC a)) ∧ (∀ i, i < aC a → nm i = (hq x y (lbs a) (aC a)).2.2.1 i) ∧ (∀ i, i < aC a → ow i = nI ((hq x y (lbs a) (aC a)).2.2.2 i)) := by
  have hc := hW.2.1
  have lx := W_lt hW hx
  have ly := W_lt hW hy
  have iv := hq_inv (Q := fun u => u < 24) (x := x) (y := y) (L0 := lbs a) hne lx (fun j hj => W_lt hW (hW.2.2.2.2.2.2.2.2.1 j hj))
  rw [h.2.2.2.2.2.2.2]
  unfold f_X2_handNames f_X2_handNames_l8
  obtain ⟨r, hr, h3⟩ := loop_rel (body := fun (_ : Unit) rc (v : Int32 × Int32 × (Nat → Int32) × (Nat → Int32) × Int32) => f_X2_handNames_b8 (nI y) (nI x) (fun x0_ x1_ x2_ x3_ x4_ => rc (x0_, x1_, x2_, x3_, x4_)) v.1 v.2.1 v.2.2.1 v.2.2.2.1 v.2.2.2.2) (fun _ (r : (Nat → Int32) × (Nat → Int32)) => some (r.1, r.2, nI (aC a))) (fun r => (∀ i, i < aC a → r.1 i = (hq x y (lbs a) (aC a)).2.2.1 i) ∧ (∀ i, i < aC a → r.2 i = nI ((hq x y (lbs a) (aC a)).2.2.2 i))) (aC a) 200 (fun m w => ∃ nm ow, w = (nI (hq x y (lbs a) m).1, nI (aC a - m), nm, ow, nI (aC a)) ∧ (∀ i, i < aC a → nm i = (hq x y (lbs a) m).2.2.1 i) ∧ (∀ i, i < aC a → ow i = nI ((hq x y (lbs a) m).2.2.2 i))) (by omega) (by
    rintro m w hm ⟨nm, ow, rfl, i1, i2⟩
    by_cases e : m = aC a
    · left
      refine ⟨(nm, ow), by rw [← e]; exact ⟨by rw [e]; rw [e] at i1; exact i1, by rw [e]; rw [e] at i2; exact i2⟩, ?_⟩
      intro k rc
      show f_X2_handNames_b8 _ _ _ _ _ _ _ _ = _
      unfold f_X2_handNames_b8
      dsimp only
      rw [e, Nat.sub_self, if_pos (show nI 0 ≤ 0 by decide)]
    · right
      have hm' : m < aC a := by omega
      refine ⟨hm', ?_⟩
      obtain ⟨j1, j2, j3, j4, j5⟩ := iv m (by show m ≤ aC a; omega)
      have j2' : (hq x y (lbs a) m).2.1 = aC a := j2
      obtain ⟨i, di⟩ : ∃ i, i = (hq x y (lbs a) m).1 := ⟨_, rfl⟩
      obtain ⟨L, dL⟩ : ∃ L, L = (hq x y (lbs a) m).2 := ⟨_, rfl⟩
      have hi : i < aC a := by rw [di]; omega
      have pos : ¬ nI (aC a - m) ≤ 0 := by rw [show (0 : Int32) = nI 0 from rfl, nI_leI (by omega) (by omega)]; omega
      have dec : nI (aC a - m) + (-1) = nI (aC a - (m + 1)) := by
        rw [nI_p1, show aC a - m = (aC a - (m + 1)) + 1 by omega, nI_m1]
      have ei : ow i = nI (L.2.2 i) := by rw [dL]; exact i2 i hi
      have li : L.2.2 i < 24 := by rw [dL]; exact j5 i hi
      by_cases q : L.2.2 i = y
      · have q' : (hq x y (lbs a) m).2.2.2 (hq x y (lbs a) m).1 = y := by rw [← di, ← dL]; exact q
        refine ⟨(nI i, nI (aC a - (m + 1)), upd (shA nm i (aC a - 1 - i)) (aC a - 1) (nm i), upd (shA ow i (aC a - 1 - i)) (aC a - 1) (nI x), nI (aC a)), ⟨_, _, by rw [hq_hit q', ← di], ?_, ?_⟩, ?_⟩
        · rw [hq_hit q', ← di, ← dL]
          intro k hk
          show _ = upd (fun j => if j < i then L.2.1 j else L.2.1 (j + 1)) (L.1 - 1) (L.2.1 i) k
          rw [show L.1 = aC a by rw [dL]; exact j2']
          by_cases ek : k = aC a - 1
          · rw [ek, updN, updN, dL]
            exact i1 i hi
          · rw [updO ek, updO ek]
            unfold shA
            by_cases z : k < i
            · rw [if_pos z, if_neg (by omega), dL]; exact i1 k hk
            · rw [if_neg z, if_pos (by omega), dL]; exact i1 (k + 1) (by omega)
        · rw [hq_hit q', ← di, ← dL]
          intro k hk
          rw [app_ow (by rw [show L.1 = aC a by rw [dL]; exact j2']; exact hi) (by rw [show L.1 = aC a by rw [dL]; exact j2']; exact hk), show L.1 = aC a by rw [dL]; exact j2']
          by_cases ek : k = aC a - 1
          · rw [ek, updN, if_pos rfl]
          · rw [updO ek, if_neg ek]
            unfold shA
            by_cases z : k < i
            · rw [if_pos z, if_neg (by omega), dL]; exact i2 k hk
            · rw [if_neg z, if_pos (by omega), dL]; exact i2 (k + 1) (by omega)
        · intro k rc
          show f_X2_handNames_b8 _ _ _ _ _ _ _ _ = _
          unfold f_X2_handNames_b8
          dsimp only
          rw [if_neg pos, ← di, chk_nI (by omega) (by decide), ix_nI (by omega)]
          simp only [ei]
          rw [if_pos (by rw [q]), chk_nI (by omega) (by decide), c_removeName nm ow hi hc, sbind]
          dsimp only
          unfold f_X2_addName
          rw [if_neg (show ¬ (40 : Int32) ≤ nI (aC a - 1) by rw [show (40 : Int32) = nI 40 from rfl, nI_leI (by decide) (by omega)]; omega), chk_nI (by omega) (by decide), chk_nI (by omega) (by decide), ix_nI (by omega), nI_1, sbind, dec, show aC a - 1 + 1 = aC a by omega]
      · have q' : ¬ (hq x y (lbs a) m).2.2.2 (hq x y (lbs a) m).1 = y := by rw [← di, ← dL]; exact q
        refine ⟨(nI (i + 1), nI (aC a - (m + 1)), nm, ow, nI (aC a)), ⟨nm, ow, by rw [hq_mis q', ← di], by rw [hq_mis q']; exact i1, by rw [hq_mis q']; exact i2⟩, ?_⟩
        intro k rc
        show f_X2_handNames_b8 _ _ _ _ _ _ _ _ = _
        unfold f_X2_handNames_b8
        dsimp only
        rw [if_neg pos, ← di, chk_nI (by omega) (by decide), ix_nI (by omega)]
        simp only [ei]
        rw [if_neg (by rw [nI_eq (by omega) (by omega)]; exact q), nI_1, dec]) (0, nI (aC a), n.2.2.2.1, n.2.2.2.2.1, nI (aC a)) ⟨n.2.2.2.1, n.2.2.2.2.1, rfl, h.2.2.2.1, h.2.2.2.2.1⟩
  exact ⟨r.1, r.2, h3 (), hr.1, hr.2⟩
theorem m_takes {m0 : Nat → Int32} {a : AN} (h : MN m0 0 a) (hW : WA a) {x y : Nat} (hx : aAl a x = true) (hy : aAl a y = true) (hne : x ≠ y) : ∃ m', f_X7_takesLabels m0 (nI x) (nI y) = some m' ∧ MN m' 0 (lab a (hq x y (lbs a) (aC a)).2) ∧ out m0 m' := by
  have hs := hW.1
  have hc := hW.2.1
  have lx := W_lt hW hx
  have ly := W_lt hW hy
  have iv := hq_inv (Q := fun u => aAl a u = true) (x := x) (y := y) (L0 := lbs a) hne hx (fun j hj => hW.2.2.2.2.2.2.2.2.1 j hj)
  unfold f_X7_takesLabels
  rw [m_labelsOf h hW ly, sbind]
  unfold f_X7_takesLabels_l9
  obtain ⟨r, hr, h3⟩ := loop_rel (body := fun (_ : Unit) rc (v : Int32 × Int32 × (Nat → Int32)) => f_X7_takesLabels_b9 (nI x) (nI y) (fun x0_ x1_ x2_ => rc (x0_, x1_, x2_)) v.1 v.2.1 v.2.2) (fun _ (r : Nat → Int32) => some r) (fun r => MN r 0 (lab a (hq x y (lbs a) (aC a)).2) ∧ out m0 r) (aC a) 200 (fun m w => ∃ mm, w = (nI (rmn (hq x y (lbs a) m).2 y), nI (hq x y (lbs a) m).1, mm) ∧ MN mm 0 (lab a (hq x y (lbs a) m).2) ∧ out m0 mm) (by omega) (by
    rintro m w hm ⟨mm, rfl, i1, i2⟩
    by_cases e : rmn (hq x y (lbs a) m).2 y = 0
    · left
      refine ⟨mm, ⟨?_, i2⟩, ?_⟩
      · have := hq_stay (L0 := lbs a) hne e (aC a - m) (by show m + (aC a - m) ≤ aC a; omega)
        rw [show m + (aC a - m) = aC a by omega] at this
        rw [this]
        exact i1
      · intro k rc
        show f_X7_takesLabels_b9 _ _ _ _ _ _ = _
        unfold f_X7_takesLabels_b9
        dsimp only
        rw [e, if_pos (show nI 0 ≤ 0 by decide)]
    · right
      have hm' : m < aC a := by
        refine Classical.byContradiction fun z => e ?_
        have : m = aC a := by omega
        rw [this]
        exact hq_fin (L0 := lbs a) hne
      refine ⟨hm', ?_⟩
      obtain ⟨j1, j2, j3, j4, j5⟩ := iv m (by show m ≤ aC a; omega)
      have j2' : (hq x y (lbs a) m).2.1 = aC a := j2
      obtain ⟨i, di⟩ : ∃ i, i = (hq x y (lbs a) m).1 := ⟨_, rfl⟩
      obtain ⟨L, dL⟩ : ∃ L, L = (hq x y (lbs a) m).2 := ⟨_, rfl⟩
      have hi : i < aC a := by rw [di]; omega
      have hLc : L.1 = aC a := by rw [dL]; exact j2'
      have rb : rmn L y ≤ 40 := Nat.le_trans (cnt_le _ _) (by omega)
      rw [← dL] at e i1
      have pos : ¬ nI (rmn L y) ≤ 0 := by rw [show (0 : Int32) = nI 0 from rfl, nI_leI (by omega) (by omega)]; omega
      have ei : mm (27 + i) = nI (L.2.2 i) := by
        have := i1.2.2.2.2.1 i (show i < L.1 by omega)
        rw [Nat.zero_add] at this
        exact this
      have en : mm (67 + i) = L.2.1 i := by
        have := i1.2.2.2.1 i (show i < L.1 by omega)
        rw [Nat.zero_add] at this
        exact this
      have li : L.2.2 i < 24 := by rw [dL]; exact W_lt hW (j5 i hi)
      have j5' : ∀ j, j < aC a → aAl a (L.2.2 j) = true := by rw [dL]; exact j5
      by_cases q : L.2.2 i = y
      · have q' : (hq x y (lbs a) m).2.2.2 (hq x y (lbs a) m).1 = y := by rw [← di, ← dL]; exact q
        obtain ⟨m2, p1, p2, p3⟩ := m_dropsLabel i1 hs (show L.1 ≤ 40 by omega) (i := i) (show i < L.1 by omega)
        have p4 := m_gives p2 (show L.1 - 1 < 40 by omega) x (L.2.1 i)
        have p5 := MN_lb p2 (a := lab a (dl L i)) ⟨hW.1, show L.1 - 1 ≤ 40 by omega, hW.2.2.1, hW.2.2.2.1, hW.2.2.2.2.1, hW.2.2.2.2.2.1, hW.2.2.2.2.2.2.1, hW.2.2.2.2.2.2.2.1, fun j hj => by
          have hj' : j < L.1 - 1 := hj
          show aAl a (if j < i then L.2.2 j else L.2.2 (j + 1)) = true
          by_cases z : j < i
          · rw [if_pos z]; exact j5' j (by omega)
          · rw [if_neg z]; exact j5' (j + 1) (by omega), hW.2.2.2.2.2.2.2.2.2⟩ (show L.1 - 1 < 40 by omega) x (L.2.1 i)
        have rh := rmn_hit (L := L) (i := i) (by omega) hne q (L.2.1 i)
        refine ⟨(nI (rmn (app (dl L i) (L.2.1 i) x) y), nI i, mLb m2 (L.1 - 1) x (L.2.1 i)), ⟨_, by rw [hq_hit q', ← di, ← dL], ?_, out_trans i2 (out_trans p3 (out_lb (show L.1 - 1 < 40 by omega) x _))⟩, ?_⟩
        · rw [hq_hit q', ← di, ← dL]
          exact p5
        · intro k rc
          show f_X7_takesLabels_b9 _ _ _ _ _ _ = _
          unfold f_X7_takesLabels_b9
          dsimp only
          rw [← dL, ← di, if_neg pos, show (27 : Int32) = nI 27 from rfl, show (67 : Int32) = nI 67 from rfl, nI_add, nI_add, chk_nI (by omega) (by decide), ix_nI (by omega), ix_nI (by omega)]
          simp only [ei, en]
          rw [if_pos (by rw [q]), chk_nI (by omega) (by decide), p1, sbind, show f_X7_gives m2 (nI x) (L.2.1 i) = some (mLb m2 (L.1 - 1) x (L.2.1 i)) from p4, sbind, nI_p1, ← rh, nI_m1]
      · have q' : ¬ (hq x y (lbs a) m).2.2.2 (hq x y (lbs a) m).1 = y := by rw [← di, ← dL]; exact q
        refine ⟨(nI (rmn L y), nI (i + 1), mm), ⟨mm, by rw [hq_mis q', ← di, ← dL], by rw [hq_mis q', ← dL]; exact i1, i2⟩, ?_⟩
        intro k rc
        show f_X7_takesLabels_b9 _ _ _ _ _ _ = _
        unfold f_X7_takesLabels_b9
        dsimp only
        rw [← dL, ← di, if_neg pos, show (27 : Int32) = nI 27 from rfl, nI_add, chk_nI (by omega) (by decide), ix_nI (by omega)]
        simp only [ei]
        rw [if_neg (by rw [nI_eq (by omega) (by omega)]; exact q), nI_1]) (nI (cnt (fun i => decide (aOw a i = y)) (aC a)), 0, m0) ⟨m0, rfl, h, out_refl _⟩
  exact ⟨r, h3 (), hr.1, hr.2⟩
