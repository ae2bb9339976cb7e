/-! PURE 83: merges -/
theorem Rc_add {a : AN} {p q : Nat} : ∀ {u v}, Rc (nrOn a p q) u v → (Rc (aNr a) u v ∨ (Rc (aNr a) u p ∧ Rc (aNr a) q v)) := by
  rintro u v ⟨n, w⟩
  induction n generalizing u with
  | zero => exact .inl ⟨0, w⟩
  | succ n ih =>
    obtain ⟨z, h1, h2⟩ := w
    unfold nrOn at h1
    rw [Bool.or_eq_true, Bool.and_eq_true, decide_eq_true_iff, decide_eq_true_iff] at h1
    rcases h1 with h1 | ⟨e1, e2⟩
    · rcases ih h2 with g | ⟨g1, g2⟩
      · exact .inl (Rc_cons h1 g)
      · exact .inr ⟨Rc_cons h1 g1, g2⟩
    · subst e1 e2
      rcases ih h2 with g | ⟨_, g2⟩
      · exact .inr ⟨Rc_refl _ _, g⟩
      · exact .inr ⟨Rc_refl _ _, g2⟩
/-- no ring can come of it -/
def mP (x : Nat) (D U : Nat → Prop) (c : AN) : Prop := (∀ n, D n → ¬ Rc (aNr c) n x) ∧ (∀ b, U b → ¬ Rc (aNr c) x b) ∧ (∀ n b, D n → U b → ¬ Rc (aNr c) n b)
theorem mP_1 {x : Nat} {D U : Nat → Prop} {c : AN} (h : mP x D U c) {n' : Nat} (hn : D n') : mP x D U (cmS c x n') := by
  obtain ⟨h1, h2, h3⟩ := h
  refine ⟨fun n hd r => ?_, fun b hb r => ?_, fun n b hd hb r => ?_⟩
  · rcases Rc_add r with g | g
    · exact h1 n hd g
    · exact h1 n hd g.1
  · rcases Rc_add r with g | g
    · exact h2 b hb g
    · exact h3 n' b hn hb g.2
  · rcases Rc_add r with g | g
    · exact h3 n b hd hb g
    · exact h1 n hd g.1
theorem mP_2 {x : Nat} {D U : Nat → Prop} {c : AN} (h : mP x D U c) {b' : Nat} (hb' : U b') : mP x D U (cmS c b' x) := by
  obtain ⟨h1, h2, h3⟩ := h
  refine ⟨fun n hd r => ?_, fun b hb r => ?_, fun n b hd hb r => ?_⟩
  · rcases Rc_add r with g | g
    · exact h1 n hd g
    · exact h3 n b' hd hb' g.1
  · rcases Rc_add r with g | g
    · exact h2 b hb g
    · exact h2 b' hb' g.1
  · rcases Rc_add r with g | g
    · exact h3 n b hd hb g
    · exact h3 n b' hd hb' g.1
noncomputable def sq1 (x : Nat) (D : Nat → Prop) (c : AN) : Nat → AN
  | 0 => c
  | j + 1 => if pb (D j ∧ aNr (sq1 x D c j) x j = false) then cmS (sq1 x D c j) x j else sq1 x D c j
noncomputable def sq2 (x : Nat) (U : Nat → Prop) (c : AN) : Nat → AN
  | 0 => c
  | b + 1 => if pb (U b ∧ aNr (sq2 x U c b) b x = false) then cmS (sq2 x U c b) b x else sq2 x U c b
theorem sq1_y {x : Nat} {D : Nat → Prop} {c : AN} {j : Nat} (h : D j ∧ aNr (sq1 x D c j) x j = false) : sq1 x D c (j + 1) = cmS (sq1 x D c j) x j := by
  show (if _ then _ else _) = _
  rw [if_pos (pb_iff.mpr h)]
theorem sq1_n {x : Nat} {D : Nat → Prop} {c : AN} {j : Nat} (h : ¬ (D j ∧ aNr (sq1 x D c j) x j = false)) : sq1 x D c (j + 1) = sq1 x D c j := by
  show (if _ then _ else _) = _
  rw [if_neg (fun z => h (pb_iff.mp z))]
theorem sq2_y {x : Nat} {U : Nat → Prop} {c : AN} {j : Nat} (h : U j ∧ aNr (sq2 x U c j) j x = false) : sq2 x U c (j + 1) = cmS (sq2 x U c j) j x := by
  show (if _ then _ else _) = _
  rw [if_pos (pb_iff.mpr h)]
theorem sq2_n {x : Nat} {U : Nat → Prop} {c : AN} {j : Nat} (h : ¬ (U j ∧ aNr (sq2 x U c j) j x = false)) : sq2 x U c (j + 1) = sq2 x U c j := by
  show (if _ then _ else _) = _
  rw [if_neg (fun z => h (pb_iff.mp z))]
theorem sq1_ok {x : Nat} {D U : Nat → Prop} {c : AN} (hw : WA c) (hx : aAl c x = true) (hD : ∀ n, D n → aAl c n = true ∧ n ≠ x) (h : mP x D U c) : ∀ j, WA (sq1 x D c j) ∧ aAl (sq1 x D c j) = aAl c ∧ aS (sq1 x D c j) = aS c ∧ mP x D U (sq1 x D c j) := by
  intro j
  induction j with
  | zero => exact ⟨hw, rfl, rfl, h⟩
  | succ j ih =>
    obtain ⟨i1, i2, i3, i4⟩ := ih
    by_cases q : D j ∧ aNr (sq1 x D c j) x j = false
    · rw [sq1_y q]
      exact ⟨WA_come i1 (by rw [i2]; exact hx) (by rw [i2]; exact (hD j q.1).1) (i4.1 j q.1), i2, i3, mP_1 i4 q.1⟩
    · rw [sq1_n q]
      exact ⟨i1, i2, i3, i4⟩
theorem sq2_ok {x : Nat} {D U : Nat → Prop} {c : AN} (hw : WA c) (hx : aAl c x = true) (hU : ∀ b, U b → aAl c b = true ∧ b ≠ x) (h : mP x D U c) : ∀ j, WA (sq2 x U c j) ∧ aAl (sq2 x U c j) = aAl c ∧ aS (sq2 x U c j) = aS c ∧ mP x D U (sq2 x U c j) := by
  intro j
  induction j with
  | zero => exact ⟨hw, rfl, rfl, h⟩
  | succ j ih =>
    obtain ⟨i1, i2, i3, i4⟩ := ih
    by_cases q : U j ∧ aNr (sq2 x U c j) j x = false
    · rw [sq2_y q]
      exact ⟨WA_come i1 (by rw [i2]; exact (hU j q.1).1) (by rw [i2]; exact hx) (i4.2.1 j q.1), i2, i3, mP_2 i4 q.1⟩
    · rw [sq2_n q]
      exact ⟨i1, i2, i3, i4⟩
/-- one link more, or passed by, in the reference -/
theorem m_one {m : Nat → Int32} {c : AN} (h : MN m 0 c) (hw : WA c) {p q : Nat} (hp : aAl c p = true) (hq : aAl c q = true) (hne : p ≠ q) (hn : ¬ Rc (aNr c) q p) (pls mvs : Nat → Int32) : ∃ r m' pl mv, f_X7_comes m pls mvs 0 (nI p) (nI q) = some (r, m', pl, mv) ∧ MN m' 0 (if pb (aNr c p q = false) then cmS c p q else c) ∧ out m m' := by
  obtain ⟨k1, _, k3⟩ := m_comes (q := 0) (h : MN m (0 * 179) c) (by omega) hw hp hq hne pls mvs
  by_cases e : aNr c p q = true
  · refine ⟨_, _, _, _, k1 e, ?_, out_refl _⟩
    rw [if_neg (fun z => by rw [pb_iff.mp z] at e; exact Bool.noConfusion e)]
    exact h
  · have e : aNr c p q = false := Bool.eq_false_iff.mpr e
    obtain ⟨m1, pl, mv, g1, g2, g3⟩ := k3 e hn
    refine ⟨_, m1, pl, mv, g1, ?_, outq_0 g3⟩
    rw [if_pos (pb_iff.mpr e)]
    exact g2
theorem c_over {n : ND} {a : AN} (hC : CN n a) (hW : WA a) {x y : Nat} (hx : x < 24) (hy : y < 24) (hne : x ≠ y) (lay : Nat → Int32) (len : Int32) (rn : Nat → Int64) (rs : Int32) : (∀ L, Ds (bar (aNr a) true x y) y L x → ∃ lay' len', f_X0_tellsWayOverOthers lay len rn rs n.1 (nI x) (nI y) = some (1, lay', len', rwP (pth (bar (aNr a) true x y) y L x) rn (L + 1), nI (L + 1))) ∧ (¬ Rc (bar (aNr a) true x y) x y → ∃ lay' len', f_X0_tellsWayOverOthers lay len rn rs n.1 (nI x) (nI y) = some (0, lay', len', rn, rs)) := by
  obtain ⟨c1, c2⟩ := c_findWay hC hW (b := true) (p4 := 0) (.inl ⟨rfl, rfl⟩) hx hy hne lay len
  constructor
  · intro L hL
    have hL23 : L ≤ 23 := Wk_23 hW (Wk_bar hL.1)
    refine ⟨_, _, ?_⟩
    unfold f_X0_tellsWayOverOthers
    rw [c1 L hL, sbind]
    dsimp only
    rw [if_neg (fun z => by rw [nI0 (by omega)] at z; omega), c_tellWay hC hW hx hL, sbind]
  · intro hr
    obtain ⟨lay', e⟩ := c2 hr
    refine ⟨_, _, ?_⟩
    unfold f_X0_tellsWayOverOthers
    rw [e, sbind]
    dsimp only
    rw [if_pos rfl]
def itM (a : AN) (x y : Nat) : Nat → Nat → Bool := fun u k => aIt a u k || (decide (u = x) && aIt a y k)
theorem itM_o (a : AN) {x : Nat} (y : Nat) {u : Nat} (h : u ≠ x) : itM a x y u = aIt a u := by
  funext k
  unfold itM
  simp [h]
theorem itM_x (a : AN) (x y k : Nat) : itM a x y x k = (aIt a x k || aIt a y k) := by
  unfold itM
  simp
theorem d3_id {t : Nat} : ∀ (k : Nat) (L : Lb), (∀ i, i < k → L.2.2 i ≠ t) → d3 t k L = L := by
  intro k
  induction k with
  | zero => exact fun L _ => rfl
  | succ k ih =>
    intro L h
    show d3 t k (if L.2.2 k = t then dl L k else L) = L
    rw [if_neg (h k (by omega))]
    exact ih L (fun i hi => h i (by omega))
theorem act_merge {n : ND} {a : AN} {m0 : Nat → Int32} (hC : CN n a) (hM : MN m0 0 a) (hW : WA a) (lay : Nat → Int32) (len : Int32) (rn : Nat → Int64) (rs : Int32) (pls mvs far way : Nat → Int32) (wm : Int32) (x' y' : Int32) : ∃ r lay' len' rn' rs' nr ord it nm ow mov all sz cn m1 pls' mvs' far' way' wm' a', f_X0_merge lay len rn rs n.1 n.2.1 n.2.2.1 n.2.2.2.1 n.2.2.2.2.1 n.2.2.2.2.2.1 n.2.2.2.2.2.2.1 n.2.2.2.2.2.2.2.1 n.2.2.2.2.2.2.2.2 x' y' = some (r, lay', len', rn', rs', nr, ord, it, nm, ow, mov, all, sz, cn) ∧ f_X7_mergesOne m0 pls mvs far way wm x' y' = some (r, m1, pls', mvs', far', way', wm') ∧ out m0 m1 ∧ BN (nr, ord, it, nm, ow, mov, all, sz, cn) m1 0 a' ∧ ((r = -4 ∧ ∃ p L, L ≤ 23 ∧ rn' = rwP p rn (L + 1) ∧ rs' = nI (L + 1) ∧ wm' = nI (L + 1) ∧ ∀ k, k < L + 1 → way' k = nI (p k)) ∨ (r ≠ -4 ∧ rn' = rn ∧ rs' = rs)) := by
  unfold f_X0_merge f_X7_mergesOne
  by_cases hx : two a x' y'
  · obtain ⟨x, y, rfl, rfl, hx, hy, hne⟩ := hx
    have lx := W_lt hW hx
    have ly := W_lt hW hy
    rw [C_pair1 hC hW hx hy hne, if_neg one0, m_two1 hM hW hx hy hne, sbind, if_neg one0]
    obtain ⟨c1, c2⟩ := c_over hC hW lx ly hne lay len rn rs
    obtain ⟨far1, f1, f2⟩ := m_findsWay (q := 0) (hM : MN m0 (0 * 179) a) (by omega) hW (b := true) (p4 := 1) (.inl ⟨rfl, rfl⟩) lx ly far way wm
    by_cases h1 : Rc (bar (aNr a) true x y) x y
    · obtain ⟨k, hk⟩ := h1
      obtain ⟨L, _, hL⟩ := Ds_ex hk
      have hL23 : L ≤ 23 := Wk_23 hW (Wk_bar hL.1)
      obtain ⟨lay', len', e1⟩ := c1 L hL
      unfold f_X7_findsOver
      rw [e1, sbind, show f_X7_findsWay m0 far way wm 0 (nI x) (nI y) 1 = _ from f1 L hL, sbind]
      dsimp only
      rw [if_neg one0, if_neg one0, sbind]
      dsimp only
      rw [if_neg one0]
      exact ⟨_, _, _, _, _, _, _, _, _, _, _, _, _, _, _, _, _, _, _, _, a, rfl, rfl, out_refl _, ⟨hC, hM, hW⟩, .inl ⟨rfl, _, L, hL23, rfl, rfl, rfl, fun k hk => wyP_at _ _ hk⟩⟩
    · obtain ⟨lay1, len1, e1⟩ := c2 h1
      obtain ⟨d1, d2⟩ := c_over hC hW ly lx (fun e => hne e.symm) lay1 len1 rn rs
      obtain ⟨far2, g1, g2⟩ := m_findsWay (q := 0) (hM : MN m0 (0 * 179) a) (by omega) hW (b := true) (p4 := 1) (.inl ⟨rfl, rfl⟩) ly lx far1 way wm
      unfold f_X7_findsOver
      rw [e1, sbind, show f_X7_findsWay m0 far way wm 0 (nI x) (nI y) 1 = _ from f2 h1, sbind]
      dsimp only
      rw [if_pos rfl, if_pos rfl]
      by_cases h2 : Rc (bar (aNr a) true y x) y x
      · obtain ⟨k, hk⟩ := h2
        obtain ⟨L, _, hL⟩ := Ds_ex hk
        have hL23 : L ≤ 23 := Wk_23 hW (Wk_bar hL.1)
        obtain ⟨lay', len', e2⟩ := d1 L hL
        rw [e2, sbind, show f_X7_findsWay m0 far1 way wm 0 (nI y) (nI x) 1 = _ from g1 L hL, sbind]
        dsimp only
        rw [if_neg one0, if_neg one0, sbind]
        dsimp only
        rw [if_neg one0]
        exact ⟨_, _, _, _, _, _, _, _, _, _, _, _, _, _, _, _, _, _, _, _, a, rfl, rfl, out_refl _, ⟨hC, hM, hW⟩, .inl ⟨rfl, _, L, hL23, rfl, rfl, rfl, fun k hk => wyP_at _ _ hk⟩⟩
      · obtain ⟨lay2, len2, e2⟩ := d2 h2
        rw [e2, sbind, show f_X7_findsWay m0 far1 way wm 0 (nI y) (nI x) 1 = _ from g2 h2, sbind]
        dsimp only
        rw [if_pos rfl, if_pos rfl, sbind]
        dsimp only
        rw [if_pos rfl]
        sorry
  · rw [C_pair0 hC hx, if_pos rfl, m_two0 hM hx, sbind, if_pos rfl]
    exact ⟨_, _, _, _, _, _, _, _, _, _, _, _, _, _, _, _, _, _, _, _, a, rfl, rfl, out_refl _, ⟨hC, hM, hW⟩, .inr ⟨by decide, rfl, rfl⟩⟩
