/-! PURE 83: merges -/
theorem Rc_add {a : AN} {p q : Nat} : ∀ {u v}, Rc (nrOn a p q) u v → (Rc (aNr a) u v ∨ (Rc (aNr a) u p ∧ Rc (aNr a) q v)) := by
  rintro u v ⟨n, w⟩
  induction n generalizing u with
  | zero => exact .inl ⟨0, w⟩
  | succ n ih =>
    obtain ⟨z, h1, h2⟩ := w
    unfold nrOn at h1
    rw [Bool.or_eq_true, Bool.and_eq_true, decide_eq_true_iff, decide_eq_true_iff] at h1
    rcases h1 with h1 | ⟨e1, e2⟩
    · rcases ih h2 with g | ⟨g1, g2⟩
      · exact .inl (Rc_cons h1 g)
      · exact .inr ⟨Rc_cons h1 g1, g2⟩
    · subst e1 e2
      rcases ih h2 with g | ⟨_, g2⟩
      · exact .inr ⟨Rc_refl _ _, g⟩
      · exact .inr ⟨Rc_refl _ _, g2⟩
/-- no ring can come of it -/
def mP (x : Nat) (D U : Nat → Prop) (c : AN) : Prop := (∀ n, D n → ¬ Rc (aNr c) n x) ∧ (∀ b, U b → ¬ Rc (aNr c) x b) ∧ (∀ n b, D n → U b → ¬ Rc (aNr c) n b)
theorem mP_1 {x : Nat} {D U : Nat → Prop} {c : AN} (h : mP x D U c) {n' : Nat} (hn : D n') : mP x D U (cmS c x n') := by
  obtain ⟨h1, h2, h3⟩ := h
  refine ⟨fun n hd r => ?_, fun b hb r => ?_, fun n b hd hb r => ?_⟩
  · rcases Rc_add r with g | g
    · exact h1 n hd g
    · exact h1 n hd g.1
  · rcases Rc_add r with g | g
    · exact h2 b hb g
    · exact h3 n' b hn hb g.2
  · rcases Rc_add r with g | g
    · exact h3 n b hd hb g
    · exact h1 n hd g.1
theorem mP_2 {x : Nat} {D U : Nat → Prop} {c : AN} (h : mP x D U c) {b' : Nat} (hb' : U b') : mP x D U (cmS c b' x) := by
  obtain ⟨h1, h2, h3⟩ := h
  refine ⟨fun n hd r => ?_, fun b hb r => ?_, fun n b hd hb r => ?_⟩
  · rcases Rc_add r with g | g
    · exact h1 n hd g
    · exact h3 n b' hd hb' g.1
  · rcases Rc_add r with g | g
    · exact h2 b hb g
    · exact h2 b' hb' g.1
  · rcases Rc_add r with g | g
    · exact h3 n b hd hb g
    · exact h3 n b' hd hb' g.1
noncomputable def sq1 (x : Nat) (D : Nat → Prop) (c : AN) : Nat → AN
  | 0 => c
  | j + 1 => if pb (D j ∧ aNr (sq1 x D c j) x j = false) then cmS (sq1 x D c j) x j else sq1 x D c j
noncomputable def sq2 (x : Nat) (U : Nat → Prop) (c : AN) : Nat → AN
  | 0 => c
  | b + 1 => if pb (U b ∧ aNr (sq2 x U c b) b x = false) then cmS (sq2 x U c b) b x else sq2 x U c b
theorem sq1_y {x : Nat} {D : Nat → Prop} {c : AN} {j : Nat} (h : D j ∧ aNr (sq1 x D c j) x j = false) : sq1 x D c (j + 1) = cmS (sq1 x D c j) x j := by
  show (if _ then _ else _) = _
  rw [if_pos (pb_iff.mpr h)]
theorem sq1_n {x : Nat} {D : Nat → Prop} {c : AN} {j : Nat} (h : ¬ (D j ∧ aNr (sq1 x D c j) x j = false)) : sq1 x D c (j + 1) = sq1 x D c j := by
  show (if _ then _ else _) = _
  rw [if_neg (fun z => h (pb_iff.mp z))]
theorem sq2_y {x : Nat} {U : Nat → Prop} {c : AN} {j : Nat} (h : U j ∧ aNr (sq2 x U c j) j x = false) : sq2 x U c (j + 1) = cmS (sq2 x U c j) j x := by
  show (if _ then _ else _) = _
  rw [if_pos (pb_iff.mpr h)]
theorem sq2_n {x : Nat} {U : Nat → Prop} {c : AN} {j : Nat} (h : ¬ (U j ∧ aNr (sq2 x U c j) j x = false)) : sq2 x U c (j + 1) = sq2 x U c j := by
  show (if _ then _ else _) = _
  rw [if_neg (fun z => h (pb_iff.mp z))]
theorem sq1_ok {x : Nat} {D U : Nat → Prop} {c : AN} (hw : WA c) (hx : aAl c x = true) (hD : ∀ n, D n → aAl c n = true ∧ n ≠ x) (h : mP x D U c) : ∀ j, WA (sq1 x D c j) ∧ aAl (sq1 x D c j) = aAl c ∧ aS (sq1 x D c j) = aS c ∧ mP x D U (sq1 x D c j) := by
  intro j
  induction j with
  | zero => exact ⟨hw, rfl, rfl, h⟩
  | succ j ih =>
    obtain ⟨i1, i2, i3, i4⟩ := ih
    by_cases q : D j ∧ aNr (sq1 x D c j) x j = false
    · rw [sq1_y q]
      exact ⟨WA_come i1 (by rw [i2]; exact hx) (by rw [i2]; exact (hD j q.1).1) (i4.1 j q.1), i2, i3, mP_1 i4 q.1⟩
    · rw [sq1_n q]
      exact ⟨i1, i2, i3, i4⟩
theorem sq2_ok {x : Nat} {D U : Nat → Prop} {c : AN} (hw : WA c) (hx : aAl c x = true) (hU : ∀ b, U b → aAl c b = true ∧ b ≠ x) (h : mP x D U c) : ∀ j, WA (sq2 x U c j) ∧ aAl (sq2 x U c j) = aAl c ∧ aS (sq2 x U c j) = aS c ∧ mP x D U (sq2 x U c j) := by
  intro j
  induction j with
  | zero => exact ⟨hw, rfl, rfl, h⟩
  | succ j ih =>
    obtain ⟨i1, i2, i3, i4⟩ := ih
    by_cases q : U j ∧ aNr (sq2 x U c j) j x = false
    · rw [sq2_y q]
      exact ⟨WA_come i1 (by rw [i2]; exact (hU j q.1).1) (by rw [i2]; exact hx) (i4.2.1 j q.1), i2, i3, mP_2 i4 q.1⟩
    · rw [sq2_n q]
      exact ⟨i1, i2, i3, i4⟩
/-- one link more, or passed by, in the reference -/
theorem m_one {m : Nat → Int32} {c : AN} (h : MN m 0 c) (hw : WA c) {p q : Nat} (hp : aAl c p = true) (hq : aAl c q = true) (hne : p ≠ q) (hn : ¬ Rc (aNr c) q p) (pls mvs : Nat → Int32) : ∃ r m' pl mv, f_X7_comes m pls mvs 0 (nI p) (nI q) = some (r, m', pl, mv) ∧ MN m' 0 (if pb (aNr c p q = false) then cmS c p q else c) ∧ out m m' := by
  obtain ⟨k1, _, k3⟩ := m_comes (q := 0) (h : MN m (0 * 179) c) (by omega) hw hp hq hne pls mvs
  by_cases e : aNr c p q = true
  · refine ⟨_, _, _, _, k1 e, ?_, out_refl _⟩
    rw [if_neg (fun z => by rw [pb_iff.mp z] at e; exact Bool.noConfusion e)]
    exact h
  · have e : aNr c p q = false := Bool.eq_false_iff.mpr e
    obtain ⟨m1, pl, mv, g1, g2, g3⟩ := k3 e hn
    refine ⟨_, m1, pl, mv, g1, ?_, outq_0 g3⟩
    rw [if_pos (pb_iff.mpr e)]
    exact g2
theorem c_over {n : ND} {a : AN} (hC : CN n a) (hW : WA a) {x y : Nat} (hx : x < 24) (hy : y < 24) (hne : x ≠ y) (lay : Nat → Int32) (len : Int32) (rn : Nat → Int64) (rs : Int32) : (∀ L, Ds (bar (aNr a) true x y) y L x → ∃ lay' len', f_X0_tellsWayOverOthers lay len rn rs n.1 (nI x) (nI y) = some (1, lay', len', rwP (pth (bar (aNr a) true x y) y L x) rn (L + 1), nI (L + 1))) ∧ (¬ Rc (bar (aNr a) true x y) x y → ∃ lay' len', f_X0_tellsWayOverOthers lay len rn rs n.1 (nI x) (nI y) = some (0, lay', len', rn, rs)) := by
  obtain ⟨c1, c2⟩ := c_findWay hC hW (b := true) (p4 := 0) (.inl ⟨rfl, rfl⟩) hx hy hne lay len
  constructor
  · intro L hL
    have hL23 : L ≤ 23 := Wk_23 hW (Wk_bar hL.1)
    refine ⟨LY (bar (aNr a) true x y) y lay (L + 1), nI (L + 1), ?_⟩
    unfold f_X0_tellsWayOverOthers
    rw [c1 L hL, sbind]
    dsimp only
    rw [if_neg (fun z => by rw [nI0 (by omega)] at z; omega), c_tellWay hC hW hx hL, sbind]
  · intro hr
    obtain ⟨lay', e⟩ := c2 hr
    refine ⟨lay', 0, ?_⟩
    unfold f_X0_tellsWayOverOthers
    rw [e, sbind]
    dsimp only
    rw [if_pos rfl]
def itM (a : AN) (x y : Nat) : Nat → Nat → Bool := fun u k => aIt a u k || (decide (u = x) && aIt a y k)
theorem itM_o (a : AN) {x : Nat} (y : Nat) {u : Nat} (h : u ≠ x) : itM a x y u = aIt a u := by
  funext k
  unfold itM
  simp [h]
theorem itM_x (a : AN) (x y k : Nat) : itM a x y x k = (aIt a x k || aIt a y k) := by
  unfold itM
  simp
theorem d3_id {t : Nat} : ∀ (k : Nat) (L : Lb), (∀ i, i < k → L.2.2 i ≠ t) → d3 t k L = L := by
  intro k
  induction k with
  | zero => exact fun L _ => rfl
  | succ k ih =>
    intro L h
    show d3 t k (if L.2.2 k = t then dl L k else L) = L
    rw [if_neg (h k (by omega))]
    exact ih L (fun i hi => h i (by omega))
theorem m_l144 {m : Nat → Int32} {c : AN} {x : Nat} {U D : Nat → Prop} (hM : MN m 0 c) (hw : WA c) (hx : aAl c x = true) (hU : ∀ b, U b → aAl c b = true ∧ b ≠ x) (h : mP x D U c) (p2 : Int32) (pls mvs far way : Nat → Int32) (wm : Int32) : ∃ m' pl mv, f_X7_mergesOne_l144 (nI x) p2 (bsP U) 0 m pls mvs far way wm = some (nI (aS c), m', pl, mv, far, way, wm) ∧ MN m' 0 (sq2 x U c 24) ∧ out m m' := by
  have lx := W_lt hw hx
  have ok := sq2_ok hw hx hU h
  unfold f_X7_mergesOne_l144
  obtain ⟨r, hr, h3⟩ := loop_rel (body := fun (_ : Unit) rc (v : Int32 × Int32 × (Nat → Int32) × (Nat → Int32) × (Nat → Int32) × (Nat → Int32) × (Nat → Int32) × Int32) => f_X7_mergesOne_b144 (nI x) p2 (fun x0_ x1_ x2_ x3_ x4_ x5_ x6_ x7_ => rc (x0_, x1_, x2_, x3_, x4_, x5_, x6_, x7_)) v.1 v.2.1 v.2.2.1 v.2.2.2.1 v.2.2.2.2.1 v.2.2.2.2.2.1 v.2.2.2.2.2.2.1 v.2.2.2.2.2.2.2) (fun _ (r : (Nat → Int32) × (Nat → Int32) × (Nat → Int32)) => some (nI (aS c), r.1, r.2.1, r.2.2, far, way, wm)) (fun r => MN r.1 0 (sq2 x U c 24) ∧ out m r.1) 24 200 (fun b w => ∃ m' pl mv, w = (bsP U, nI b, m', pl, mv, far, way, wm) ∧ MN m' 0 (sq2 x U c b) ∧ out m m') (by decide) (by
    rintro b w hb ⟨m', pl, mv, rfl, i1, i2⟩
    obtain ⟨k1, k2, k3, k4⟩ := ok b
    by_cases e : b = 24
    · left
      refine ⟨(m', pl, mv), ⟨by rw [← e]; exact i1, i2⟩, ?_⟩
      intro k rc
      show f_X7_mergesOne_b144 _ _ _ _ _ _ _ _ _ _ _ = _
      unfold f_X7_mergesOne_b144
      dsimp only
      rw [e] at k1 k3 i1 ⊢
      rw [if_pos y24, show f_X7_there m' 0 = some (bset (aAl (sq2 x U c 24)) 24) from m_there (q := 0) (i1 : MN m' (0 * 179) _) (by omega), sbind, m_sizeOf, sbind, (npc_bset _ 24 (by omega)).2, cnt_al k1, k3]
    · right
      have hb' : b < 24 := by omega
      refine ⟨hb', ?_⟩
      by_cases q : U b
      · obtain ⟨r, m2, pl2, mv2, g1, g2, g3⟩ := m_one i1 k1 (show aAl (sq2 x U c b) b = true by rw [k2]; exact (hU b q).1) (show aAl (sq2 x U c b) x = true by rw [k2]; exact hx) (hU b q).2 (k4.2.1 b q) pl mv
        refine ⟨_, ⟨m2, pl2, mv2, rfl, ?_, out_trans i2 g3⟩, ?_⟩
        · by_cases z : aNr (sq2 x U c b) b x = false
          · rw [sq2_y ⟨q, z⟩]
            rw [if_pos (pb_iff.mpr z)] at g2
            exact g2
          · rw [sq2_n (fun w => z w.2)]
            rw [if_neg (fun w => z (pb_iff.mp w))] at g2
            exact g2
        · intro k rc
          show f_X7_mergesOne_b144 _ _ _ _ _ _ _ _ _ _ _ = _
          unfold f_X7_mergesOne_b144
          dsimp only
          rw [if_neg (n24 hb'), if_neg (by rw [bsP_has hb']; exact fun z => z q), g1, sbind, nI_1]
      · refine ⟨_, ⟨m', pl, mv, rfl, by rw [sq2_n (fun w => q w.1)]; exact i1, i2⟩, ?_⟩
        intro k rc
        show f_X7_mergesOne_b144 _ _ _ _ _ _ _ _ _ _ _ = _
        unfold f_X7_mergesOne_b144
        dsimp only
        rw [if_neg (n24 hb'), if_pos (by rw [bsP_has hb']; exact q), nI_1]) (bsP U, 0, m, pls, mvs, far, way, wm) ⟨m, pls, mvs, rfl, hM, out_refl _⟩
  exact ⟨r.1, r.2.1, r.2.2, h3 (), hr.1, hr.2⟩
theorem m_l110 {m : Nat → Int32} {c : AN} {x : Nat} {U D : Nat → Prop} (hM : MN m 0 c) (hw : WA c) (hx : aAl c x = true) (hD : ∀ n, D n → aAl c n = true ∧ n ≠ x) (hU : ∀ b, U b → aAl c b = true ∧ b ≠ x) (h : mP x D U c) (p2 : Int32) (pls mvs far way : Nat → Int32) (wm : Int32) : ∃ m' pl mv, f_X7_mergesOne_l110 (nI x) p2 (bsP D) (bsP U) 0 m pls mvs far way wm = some (nI (aS c), m', pl, mv, far, way, wm) ∧ MN m' 0 (sq2 x U (sq1 x D c 24) 24) ∧ out m m' := by
  have lx := W_lt hw hx
  have ok := sq1_ok hw hx hD h
  unfold f_X7_mergesOne_l110
  obtain ⟨r, ⟨hr1, hr2⟩, h3⟩ := loop_rel (body := fun (_ : Unit) rc (v : Int32 × Int32 × Int32 × (Nat → Int32) × (Nat → Int32) × (Nat → Int32) × (Nat → Int32) × (Nat → Int32) × Int32) => f_X7_mergesOne_b110 (nI x) p2 (fun x0_ x1_ x2_ x3_ x4_ x5_ x6_ x7_ x8_ => rc (x0_, x1_, x2_, x3_, x4_, x5_, x6_, x7_, x8_)) v.1 v.2.1 v.2.2.1 v.2.2.2.1 v.2.2.2.2.1 v.2.2.2.2.2.1 v.2.2.2.2.2.2.1 v.2.2.2.2.2.2.2.1 v.2.2.2.2.2.2.2.2) (fun _ (r : (Nat → Int32) × (Nat → Int32) × (Nat → Int32)) => f_X7_mergesOne_l144 (nI x) p2 (bsP U) 0 r.1 r.2.1 r.2.2 far way wm) (fun r => MN r.1 0 (sq1 x D c 24) ∧ out m r.1) 24 200 (fun b w => ∃ m' pl mv, w = (bsP D, bsP U, nI b, m', pl, mv, far, way, wm) ∧ MN m' 0 (sq1 x D c b) ∧ out m m') (by decide) (by
    rintro b w hb ⟨m', pl, mv, rfl, i1, i2⟩
    obtain ⟨k1, k2, k3, k4⟩ := ok b
    by_cases e : b = 24
    · left
      refine ⟨(m', pl, mv), ⟨by rw [← e]; exact i1, i2⟩, ?_⟩
      intro k rc
      show f_X7_mergesOne_b110 _ _ _ _ _ _ _ _ _ _ _ _ = _
      unfold f_X7_mergesOne_b110
      dsimp only
      rw [e, if_pos y24]
    · right
      have hb' : b < 24 := by omega
      refine ⟨hb', ?_⟩
      by_cases q : D b
      · obtain ⟨r, m2, pl2, mv2, g1, g2, g3⟩ := m_one i1 k1 (show aAl (sq1 x D c b) x = true by rw [k2]; exact hx) (show aAl (sq1 x D c b) b = true by rw [k2]; exact (hD b q).1) (fun z => (hD b q).2 z.symm) (k4.1 b q) pl mv
        refine ⟨_, ⟨m2, pl2, mv2, rfl, ?_, out_trans i2 g3⟩, ?_⟩
        · by_cases z : aNr (sq1 x D c b) x b = false
          · rw [sq1_y ⟨q, z⟩]
            rw [if_pos (pb_iff.mpr z)] at g2
            exact g2
          · rw [sq1_n (fun w => z w.2)]
            rw [if_neg (fun w => z (pb_iff.mp w))] at g2
            exact g2
        · intro k rc
          show f_X7_mergesOne_b110 _ _ _ _ _ _ _ _ _ _ _ _ = _
          unfold f_X7_mergesOne_b110
          dsimp only
          rw [if_neg (n24 hb'), if_neg (by rw [bsP_has hb']; exact fun z => z q), g1, sbind, nI_1]
      · refine ⟨_, ⟨m', pl, mv, rfl, by rw [sq1_n (fun w => q w.1)]; exact i1, i2⟩, ?_⟩
        intro k rc
        show f_X7_mergesOne_b110 _ _ _ _ _ _ _ _ _ _ _ _ = _
        unfold f_X7_mergesOne_b110
        dsimp only
        rw [if_neg (n24 hb'), if_pos (by rw [bsP_has hb']; exact q), nI_1]) (bsP D, bsP U, 0, m, pls, mvs, far, way, wm) ⟨m, pls, mvs, rfl, hM, out_refl _⟩
  obtain ⟨k1, k2, k3, k4⟩ := ok 24
  obtain ⟨m', pl, mv, e1, e2, e3⟩ := m_l144 hr1 k1 (by rw [k2]; exact hx) (fun b hb => by rw [k2]; exact hU b hb) k4 p2 r.2.1 r.2.2 far way wm
  refine ⟨m', pl, mv, ?_, e2, out_trans hr2 e3⟩
  rw [← k3, ← e1]
  exact h3 ()
theorem c_l97 {n : ND} {c : AN} {x : Nat} {U D : Nat → Prop} (hC : CN n c) (hw : WA c) (hx : aAl c x = true) (hU : ∀ b, U b → aAl c b = true ∧ b ≠ x) (h : mP x D U c) (p3 : Int32) (lay : Nat → Int32) (len : Int32) (rn : Nat → Int64) (rs : Int32) : ∃ nr ord mov, f_X0_merge_l97 (nI x) p3 (bsP U) 0 lay len rn rs n.1 n.2.1 n.2.2.1 n.2.2.2.1 n.2.2.2.2.1 n.2.2.2.2.2.1 n.2.2.2.2.2.2.1 n.2.2.2.2.2.2.2.1 n.2.2.2.2.2.2.2.2 = some (n.2.2.2.2.2.2.2.1, lay, len, rn, rs, nr, ord, n.2.2.1, n.2.2.2.1, n.2.2.2.2.1, mov, n.2.2.2.2.2.2.1, n.2.2.2.2.2.2.2.1, n.2.2.2.2.2.2.2.2) ∧ CN (nr, ord, n.2.2.1, n.2.2.2.1, n.2.2.2.2.1, mov, n.2.2.2.2.2.2) (sq2 x U c 24) := by
  have lx := W_lt hw hx
  have ok := sq2_ok hw hx hU h
  unfold f_X0_merge_l97
  obtain ⟨r, hr, h3⟩ := loop_rel (body := fun (_ : Unit) rc (v : Int32 × Int32 × (Nat → Int32) × Int32 × (Nat → Int64) × Int32 × (Nat → Int32) × (Nat → Int32) × (Nat → Int64) × (Nat → Int32) × (Nat → Int32) × (Nat → Int32) × Int32 × Int32 × Int32) => f_X0_merge_b97 (nI x) p3 (fun x0_ x1_ x2_ x3_ x4_ x5_ x6_ x7_ x8_ x9_ x10_ x11_ x12_ x13_ x14_ => rc (x0_, x1_, x2_, x3_, x4_, x5_, x6_, x7_, x8_, x9_, x10_, x11_, x12_, x13_, x14_)) v.1 v.2.1 v.2.2.1 v.2.2.2.1 v.2.2.2.2.1 v.2.2.2.2.2.1 v.2.2.2.2.2.2.1 v.2.2.2.2.2.2.2.1 v.2.2.2.2.2.2.2.2.1 v.2.2.2.2.2.2.2.2.2.1 v.2.2.2.2.2.2.2.2.2.2.1 v.2.2.2.2.2.2.2.2.2.2.2.1 v.2.2.2.2.2.2.2.2.2.2.2.2.1 v.2.2.2.2.2.2.2.2.2.2.2.2.2.1 v.2.2.2.2.2.2.2.2.2.2.2.2.2.2) (fun _ (r : (Nat → Int32) × (Nat → Int32) × (Nat → Int32)) => some (n.2.2.2.2.2.2.2.1, lay, len, rn, rs, r.1, r.2.1, n.2.2.1, n.2.2.2.1, n.2.2.2.2.1, r.2.2, n.2.2.2.2.2.2.1, n.2.2.2.2.2.2.2.1, n.2.2.2.2.2.2.2.2)) (fun r => CN (r.1, r.2.1, n.2.2.1, n.2.2.2.1, n.2.2.2.2.1, r.2.2, n.2.2.2.2.2.2) (sq2 x U c 24)) 24 200 (fun b w => ∃ nr ord mov, w = (bsP U, nI b, lay, len, rn, rs, nr, ord, n.2.2.1, n.2.2.2.1, n.2.2.2.2.1, mov, n.2.2.2.2.2.2.1, n.2.2.2.2.2.2.2.1, n.2.2.2.2.2.2.2.2) ∧ CN (nr, ord, n.2.2.1, n.2.2.2.1, n.2.2.2.2.1, mov, n.2.2.2.2.2.2) (sq2 x U c b)) (by decide) (by
    rintro b w hb ⟨nr, ord, mov, rfl, i1⟩
    obtain ⟨k1, k2, k3, k4⟩ := ok b
    by_cases e : b = 24
    · left
      refine ⟨(nr, ord, mov), by rw [← e]; exact i1, ?_⟩
      intro k rc
      show f_X0_merge_b97 _ _ _ _ _ _ _ _ _ _ _ _ _ _ _ _ _ _ = _
      unfold f_X0_merge_b97
      dsimp only
      rw [e, if_pos y24]
    · right
      have hb' : b < 24 := by omega
      refine ⟨hb', ?_⟩
      by_cases q : U b
      · obtain ⟨w1, w2, w3, w4⟩ := ok (b + 1)
        obtain ⟨nr2, ord2, mov2, g1, g2⟩ := c_cta (n := (nr, ord, n.2.2.1, n.2.2.2.1, n.2.2.2.2.1, mov, n.2.2.2.2.2.2)) (S := fun k => k = x) hb' (fun j => if j ≤ x then sq2 x U c b else sq2 x U c (b + 1)) (by rw [if_pos (Nat.zero_le _)]; exact i1) (fun j _ => by
            by_cases z : j ≤ x
            · rw [if_pos z]; exact k1
            · rw [if_neg z]; exact w1) (fun j _ => by
            by_cases z : j ≤ x
            · rw [if_pos z, k2]; exact (hU b q).1
            · rw [if_neg z, w2]; exact (hU b q).1) (by
            intro j hj
            by_cases ej : j = x
            · rw [ej, if_pos (Nat.le_refl x), if_neg (by omega)]
              by_cases z : aNr (sq2 x U c b) b x = false
              · exact .inr ⟨rfl, z, by rw [k2]; exact hx, (hU b q).2, k4.2.1 b q, sq2_y ⟨q, z⟩⟩
              · exact .inl ⟨fun w => z w.2, sq2_n (fun w => z w.2)⟩
            · left
              refine ⟨fun w => ej w.1, ?_⟩
              by_cases z : j ≤ x
              · rw [if_pos z, if_pos (by omega)]
              · rw [if_neg z, if_neg (by omega)])
        rw [if_neg (by omega)] at g2
        refine ⟨_, ⟨nr2, ord2, mov2, rfl, g2⟩, ?_⟩
        intro k rc
        show f_X0_merge_b97 _ _ _ _ _ _ _ _ _ _ _ _ _ _ _ _ _ _ = _
        unfold f_X0_merge_b97
        dsimp only
        rw [if_neg (n24 hb'), if_neg (by rw [bsP_hold hb']; exact fun z => z q), bsP_one lx, show f_X2_comeToAll nr ord mov n.2.2.2.2.2.2.2.1 (nI b) (bsP (fun k => k = x)) = _ from g1, sbind, nI_1]
      · refine ⟨_, ⟨nr, ord, mov, rfl, by rw [sq2_n (fun w => q w.1)]; exact i1⟩, ?_⟩
        intro k rc
        show f_X0_merge_b97 _ _ _ _ _ _ _ _ _ _ _ _ _ _ _ _ _ _ = _
        unfold f_X0_merge_b97
        dsimp only
        rw [if_neg (n24 hb'), if_pos (by rw [bsP_hold hb']; exact q), nI_1]) (bsP U, 0, lay, len, rn, rs, n.1, n.2.1, n.2.2.1, n.2.2.2.1, n.2.2.2.2.1, n.2.2.2.2.2.1, n.2.2.2.2.2.2.1, n.2.2.2.2.2.2.2.1, n.2.2.2.2.2.2.2.2) ⟨n.1, n.2.1, n.2.2.2.2.2.1, rfl, hC⟩
  exact ⟨r.1, r.2.1, r.2.2, h3 (), hr⟩
theorem act_merge {n : ND} {a : AN} {m0 : Nat → Int32} (hC : CN n a) (hM : MN m0 0 a) (hW : WA a) (lay : Nat → Int32) (len : Int32) (rn : Nat → Int64) (rs : Int32) (pls mvs far way : Nat → Int32) (wm : Int32) (x' y' : Int32) : ∃ r lay' len' rn' rs' nr ord it nm ow mov all sz cn m1 pls' mvs' far' way' wm' a', f_X0_merge lay len rn rs n.1 n.2.1 n.2.2.1 n.2.2.2.1 n.2.2.2.2.1 n.2.2.2.2.2.1 n.2.2.2.2.2.2.1 n.2.2.2.2.2.2.2.1 n.2.2.2.2.2.2.2.2 x' y' = some (r, lay', len', rn', rs', nr, ord, it, nm, ow, mov, all, sz, cn) ∧ f_X7_mergesOne m0 pls mvs far way wm x' y' = some (r, m1, pls', mvs', far', way', wm') ∧ out m0 m1 ∧ BN (nr, ord, it, nm, ow, mov, all, sz, cn) m1 0 a' ∧ ((r = -4 ∧ ∃ p L, L ≤ 23 ∧ rn' = rwP p rn (L + 1) ∧ rs' = nI (L + 1) ∧ wm' = nI (L + 1) ∧ ∀ k, k < L + 1 → way' k = nI (p k)) ∨ (r ≠ -4 ∧ rn' = rn ∧ rs' = rs)) := by
  unfold f_X0_merge f_X7_mergesOne
  by_cases hx : two a x' y'
  · obtain ⟨x, y, rfl, rfl, hx, hy, hne⟩ := hx
    have lx := W_lt hW hx
    have ly := W_lt hW hy
    rw [C_pair1 hC hW hx hy hne, if_neg one0, m_two1 hM hW hx hy hne, sbind, if_neg one0]
    obtain ⟨c1, c2⟩ := c_over hC hW lx ly hne lay len rn rs
    obtain ⟨far1, f1, f2⟩ := m_findsWay (q := 0) (hM : MN m0 (0 * 179) a) (by omega) hW (b := true) (p4 := 1) (.inl ⟨rfl, rfl⟩) lx ly far way wm
    by_cases h1 : Rc (bar (aNr a) true x y) x y
    · obtain ⟨k, hk⟩ := h1
      obtain ⟨L, _, hL⟩ := Ds_ex hk
      have hL23 : L ≤ 23 := Wk_23 hW (Wk_bar hL.1)
      obtain ⟨lay', len', e1⟩ := c1 L hL
      unfold f_X7_findsOver
      rw [e1, sbind, show f_X7_findsWay m0 far way wm 0 (nI x) (nI y) 1 = _ from f1 L hL, sbind]
      dsimp only
      rw [if_neg one0, if_neg one0, sbind]
      dsimp only
      rw [if_neg one0]
      exact ⟨_, _, _, _, _, _, _, _, _, _, _, _, _, _, _, _, _, _, _, _, a, rfl, rfl, out_refl _, ⟨hC, hM, hW⟩, .inl ⟨rfl, _, L, hL23, rfl, rfl, rfl, fun k hk => wyP_at _ _ hk⟩⟩
    · obtain ⟨lay1, len1, e1⟩ := c2 h1
      obtain ⟨d1, d2⟩ := c_over hC hW ly lx (fun e => hne e.symm) lay1 len1 rn rs
      obtain ⟨far2, g1, g2⟩ := m_findsWay (q := 0) (hM : MN m0 (0 * 179) a) (by omega) hW (b := true) (p4 := 1) (.inl ⟨rfl, rfl⟩) ly lx far1 way wm
      unfold f_X7_findsOver
      rw [e1, sbind, show f_X7_findsWay m0 far way wm 0 (nI x) (nI y) 1 = _ from f2 h1, sbind]
      dsimp only
      rw [if_pos rfl, if_pos rfl]
      by_cases h2 : Rc (bar (aNr a) true y x) y x
      · obtain ⟨k, hk⟩ := h2
        obtain ⟨L, _, hL⟩ := Ds_ex hk
        have hL23 : L ≤ 23 := Wk_23 hW (Wk_bar hL.1)
        obtain ⟨lay', len', e2⟩ := d1 L hL
        rw [e2, sbind, show f_X7_findsWay m0 far1 way wm 0 (nI y) (nI x) 1 = _ from g1 L hL, sbind]
        dsimp only
        rw [if_neg one0, if_neg one0, sbind]
        dsimp only
        rw [if_neg one0]
        exact ⟨_, _, _, _, _, _, _, _, _, _, _, _, _, _, _, _, _, _, _, _, a, rfl, rfl, out_refl _, ⟨hC, hM, hW⟩, .inl ⟨rfl, _, L, hL23, rfl, rfl, rfl, fun k hk => wyP_at _ _ hk⟩⟩
      · obtain ⟨lay2, len2, e2⟩ := d2 h2
        rw [e2, sbind, show f_X7_findsWay m0 far1 way wm 0 (nI y) (nI x) 1 = _ from g2 h2, sbind]
        dsimp only
        rw [if_pos rfl, if_pos rfl, sbind]
        dsimp only
        rw [if_pos rfl]
        -- the merged net
        obtain ⟨LF, dLF⟩ : ∃ LF, LF = (hq x y (lbs a) (aC a)).2 := ⟨_, rfl⟩
        have iv := hq_inv (Q := fun u => aAl a u = true) (x := x) (y := y) (L0 := lbs a) hne hx (fun j hj => hW.2.2.2.2.2.2.2.2.1 j hj) (aC a) (Nat.le_refl _)
        have fz : rmn (hq x y (lbs a) (aC a)).2 y = 0 := hq_fin (L0 := lbs a) hne
        rw [← dLF] at iv fz
        have c1' : LF.1 = aC a := iv.2.1
        have ow1 : ∀ i, i < LF.1 → LF.2.2 i ≠ y ∧ aAl a (LF.2.2 i) = true := fun i hi => ⟨rmn_0.mp fz i hi, iv.2.2.2.2 i (by show i < aC a; omega)⟩
        have hWi : WA (itS a (itM a x y)) := WA_it hW (fun u k z => by
          unfold itM at z
          rw [Bool.or_eq_true, Bool.and_eq_true, decide_eq_true_iff] at z
          rcases z with z | ⟨z1, z2⟩
          · exact hW.2.2.2.2.2.2.2.2.2 u k z
          · rw [z1]; exact ⟨hx, (hW.2.2.2.2.2.2.2.2.2 y k z2).2⟩)
        obtain ⟨a1, da1⟩ : ∃ a1, a1 = lab (itS a (itM a x y)) LF := ⟨_, rfl⟩
        have hW1 : WA a1 := by
          rw [da1]
          exact ⟨hWi.1, by show LF.1 ≤ 40; rw [c1']; exact hW.2.1, hWi.2.2.1, hWi.2.2.2.1, hWi.2.2.2.2.1, hWi.2.2.2.2.2.1, hWi.2.2.2.2.2.2.1, hWi.2.2.2.2.2.2.2.1, fun i hi => (ow1 i hi).2, hWi.2.2.2.2.2.2.2.2.2⟩
        have al1 : aAl a1 = aAl a := by rw [da1]
        have nr1 : aNr a1 = aNr a := by rw [da1]
        have hy1 : aAl a1 y = true := by rw [al1]; exact hy
        obtain ⟨c0, dc0⟩ : ∃ c0, c0 = lvS a1 y := ⟨_, rfl⟩
        have hlab : lab (lvS a1 y) LF = c0 := by rw [dc0, da1]
        have hW0 : WA c0 := by
          rw [← hlab]
          exact WA_lv hW1 hy1 (by rw [c1']; exact hW.2.1) (fun i hi => ⟨(ow1 i hi).1, by rw [al1]; exact (ow1 i hi).2⟩)
        have al0 : ∀ u, aAl c0 u = true ↔ (aAl a u = true ∧ u ≠ y) := by
          intro u
          rw [dc0, al_lv, al1]
        have nr0 : ∀ u v, aNr c0 u v = true ↔ (aNr a u v = true ∧ u ≠ y ∧ v ≠ y) := by
          intro u v
          rw [dc0, nr_lv, nr1]
        have s0 : aS c0 = aS a - 1 := by rw [dc0, da1]
        have hx0 : aAl c0 x = true := (al0 x).mpr ⟨hx, hne⟩
        obtain ⟨D, dD⟩ : ∃ D : Nat → Prop, D = fun v => aNr a y v = true ∧ ¬ v = x := ⟨_, rfl⟩
        obtain ⟨U, dU⟩ : ∃ U : Nat → Prop, U = fun u => aNr a u y = true ∧ ¬ u = x := ⟨_, rfl⟩
        have hD : ∀ v, D v → aAl c0 v = true ∧ v ≠ x := by
          intro v q
          rw [dD] at q
          refine ⟨(al0 v).mpr ⟨W_e2 hW q.1, fun z => ?_⟩, q.2⟩
          have := pcO_lt hW q.1
          rw [z] at this
          omega
        have hU : ∀ u, U u → aAl c0 u = true ∧ u ≠ x := by
          intro u q
          rw [dU] at q
          refine ⟨(al0 u).mpr ⟨W_e1 hW q.1, fun z => ?_⟩, q.2⟩
          have := pcO_lt hW q.1
          rw [z] at this
          omega
        have hmP : mP x D U c0 := by
          refine ⟨fun v q r => ?_, fun u q r => ?_, fun v u q q' r => ?_⟩
          · rw [dD] at q
            refine h2 (Rc_cons (bar_iff.mpr ⟨q.1, fun z => q.2 z.2.2⟩) (Rc_via (fun u w z => Rc_one (bar_iff.mpr ⟨((nr0 u w).mp z).1, fun t => ((nr0 u w).mp z).2.1 t.2.1⟩)) r))
          · rw [dU] at q
            refine h1 (Rc_snoc (Rc_via (fun u w z => Rc_one (bar_iff.mpr ⟨((nr0 u w).mp z).1, fun t => ((nr0 u w).mp z).2.2 t.2.2⟩)) r) (bar_iff.mpr ⟨q.1, fun z => q.2 z.2.1⟩))
          · rw [dD] at q
            rw [dU] at q'
            have r' : Rc (aNr a) v u := Rc_via (fun u w z => Rc_one ((nr0 u w).mp z).1) r
            have l1 := pcO_lt hW q.1
            have l2 := pcO_lt hW q'.1
            rcases Rc_pc hW r' with z | z
            · rw [z] at l1; omega
            · omega
        -- the class
        obtain ⟨nm, ow, hn1, hn2, hn3⟩ := c_handNames hC hW hx hy hne
        rw [← dLF] at hn2 hn3
        have ei : vp_updL n.2.2.1 x (n.2.2.1 x ||| n.2.2.1 y) = vp_updL n.2.2.1 x (lset (itM a x y x) 40) := by
          rw [hC.2.2.1 x lx, hC.2.2.1 y ly, lset_or _ _ (by omega)]
          congr 2
          funext k
          exact (itM_x a x y k).symm
        have hC1 : CN (n.1, n.2.1, vp_updL n.2.2.1 x (lset (itM a x y x) 40), nm, ow, n.2.2.2.2.2.1, n.2.2.2.2.2.2.1, n.2.2.2.2.2.2.2.1, nI (aC a)) a1 := by
          have k1 := CN_it hC (t := x) (v := lset (itM a x y x) 40) (f := itM a x y) rfl (fun u hu => itM_o a y hu)
          rw [da1]
          exact ⟨k1.1, k1.2.1, k1.2.2.1, fun i hi => hn2 i (by have hi' : i < LF.1 := hi; omega), fun i hi => hn3 i (by have hi' : i < LF.1 := hi; omega), k1.2.2.2.2.2.1, k1.2.2.2.2.2.2.1, by show nI (aC a) = nI LF.1; rw [c1']⟩
        obtain ⟨nr, ord, it, nm2, ow2, all, sz, cn, er, hR⟩ := c_remove hC1 hW1 hy1
        have hd3 : d3 y (aC a1) (lbs a1) = LF := by
          rw [da1]
          exact d3_id LF.1 LF (fun i hi => (ow1 i hi).1)
        rw [hd3, hlab] at hR
        obtain ⟨k1, k2, k3, k4⟩ := sq1_ok hW0 hx0 hD hmP 24
        obtain ⟨nr3, ord3, mov3, t1, t2⟩ := c_cta (n := (nr, ord, it, nm2, ow2, n.2.2.2.2.2.1, all, sz, cn)) (S := D) lx (sq1 x D c0) (hR _) (fun j _ => (sq1_ok hW0 hx0 hD hmP j).1) (fun j _ => by rw [(sq1_ok hW0 hx0 hD hmP j).2.1]; exact hx0) (by
          intro j hj
          obtain ⟨p1, p2, p3, p4⟩ := sq1_ok hW0 hx0 hD hmP j
          by_cases z : D j ∧ aNr (sq1 x D c0 j) x j = false
          · exact .inr ⟨z.1, z.2, by rw [p2]; exact (hD j z.1).1, fun w => (hD j z.1).2 w.symm, p4.1 j z.1, sq1_y z⟩
          · exact .inl ⟨z, sq1_n z⟩)
        obtain ⟨nr4, ord4, mov4, u1, u2⟩ := c_l97 (n := (nr3, ord3, it, nm2, ow2, mov3, all, sz, cn)) t2 k1 (by rw [k2]; exact hx0) (fun b hb => by rw [k2]; exact hU b hb) k4 (nI y) lay2 len2 rn rs
        have setD : n.1 y &&& (jshl 1 (nI x) ^^^ (-1)) = bsP D := by
          rw [hC.1 y ly, bs_eq, bsP_one lx, bsP_not, dD]
        have setU : bset (fun s => aNr a s y) 24 &&& (jshl 1 (nI x) ^^^ (-1)) = bsP U := by
          rw [bs_eq, bsP_one lx, bsP_not, dU]
        have setD' : bset (aNr a y) 24 &&& (jshl 1 (nI x) ^^^ (-1)) = bsP D := by
          rw [bs_eq, bsP_one lx, bsP_not, dD]
        have hsz : sz = nI (aS c0) := (hR n.2.2.2.2.2.1).2.2.2.2.2.2.1
        -- the reference
        obtain ⟨mi, dmi⟩ : ∃ mi, mi = upd (upd m0 (131 + x) (bset (itM a x y x) 20)) (155 + x) (bset (fun k => itM a x y x (k + 20)) 20) := ⟨_, rfl⟩
        have hmi : MN mi 0 (itS a (itM a x y)) := by
          refine MN_it hM hW _ (fun u hu => ⟨?_, ?_⟩) (fun i hi => ?_)
          · rw [dmi, updO (by omega)]
            by_cases eu : u = x
            · rw [eu, updN]
            · rw [updO (by omega), itM_o a y eu]
              have := (hM.2.2.1 u hu).1
              rw [Nat.zero_add] at this
              exact this
          · rw [dmi]
            by_cases eu : u = x
            · rw [eu, updN]
            · rw [updO (by omega), updO (by omega), itM_o a y eu]
              have := (hM.2.2.1 u hu).2
              rw [Nat.zero_add] at this
              exact this
          · rw [dmi, updO (by omega), updO (by omega)]
        have omi : out m0 mi := by rw [dmi]; exact out_upd (out_upd (out_refl _) (by omega) _) (by omega) _
        have b1 : m0 (131 + x) ||| m0 (131 + y) = bset (itM a x y x) 20 := by
          rw [show m0 (131 + x) = bset (aIt a x) 20 by rw [← (hM.2.2.1 x lx).1, Nat.zero_add], show m0 (131 + y) = bset (aIt a y) 20 by rw [← (hM.2.2.1 y ly).1, Nat.zero_add], bset_or _ _ (by omega)]
          exact bset_congr 20 (fun k _ => (itM_x a x y k).symm)
        have b2 : m0 (155 + x) ||| m0 (155 + y) = bset (fun k => itM a x y x (k + 20)) 20 := by
          rw [show m0 (155 + x) = bset (fun k => aIt a x (k + 20)) 20 by rw [← (hM.2.2.1 x lx).2, Nat.zero_add], show m0 (155 + y) = bset (fun k => aIt a y (k + 20)) 20 by rw [← (hM.2.2.1 y ly).2, Nat.zero_add], bset_or _ _ (by omega)]
          exact bset_congr 20 (fun k _ => (itM_x a x y (k + 20)).symm)
        obtain ⟨m2, v1, v2, v3⟩ := m_takes hmi hWi (x := x) (y := y) hx hy hne
        have v2' : MN m2 0 a1 := by
          rw [da1, dLF]
          exact v2
        obtain ⟨m3, z1, z2, z3⟩ := m_leaves v2' hW1 hy1
        rw [← dc0] at z2
        obtain ⟨m4, pl4, mv4, w1, w2, w3⟩ := m_l110 z2 hW0 hx0 hD hU hmP (nI y) pls mvs far2 way wm
        have wfin := (sq2_ok (D := D) k1 (by rw [k2]; exact hx0) (fun b hb => by rw [k2]; exact hU b hb) k4 24).1
        have E1 : (f_X2_broaderOf n.1 (nI y)) = some (bset (fun s => aNr a s y) 24) := c_broader hC ly
        rw [chk_nI ly (by decide), E1, sbind, chk_nI lx (by decide), chk_nI ly (by decide), chk_nI lx (by decide), hn1, sbind, ix_nI (by omega), ix_nI (by omega), ei, setD, setU, Mn hM ly, sbind, Mbr hM hW ly, sbind, setD', setU, show (131 : Int32) = nI 131 from rfl, show (155 : Int32) = nI 155 from rfl, nI_add, nI_add, nI_add, nI_add, chk_nI (by omega) (by decide), chk_nI (by omega) (by decide), chk_nI (by omega) (by decide), chk_nI (by omega) (by decide), chk_nI (by omega) (by decide), chk_nI (by omega) (by decide), ix_nI (by omega), ix_nI (by omega), ix_nI (by omega), ix_nI (by omega), updO (show 155 + x ≠ 131 + x by omega), updO (show 155 + y ≠ 131 + x by omega), b1, b2, ← dmi, v1, sbind, z1, sbind, w1]
        rw [show f_X2_remove n.1 n.2.1 (vp_updL n.2.2.1 x (lset (itM a x y x) 40)) nm ow n.2.2.2.2.2.2.1 n.2.2.2.2.2.2.2.1 (nI (aC a)) (nI y) = _ from er, sbind]
        dsimp only
        rw [show f_X2_comeToAll nr ord n.2.2.2.2.2.1 sz (nI x) (bsP D) = _ from t1, sbind]
        dsimp only
        rw [show f_X0_merge_l97 (nI x) (nI y) (bsP U) 0 lay2 len2 rn rs nr3 ord3 it nm2 ow2 mov3 all sz cn = _ from u1]
        refine ⟨sz, lay2, len2, rn, rs, nr4, ord4, it, nm2, ow2, mov4, all, sz, cn, m4, pl4, mv4, far2, way, wm, _, rfl, by rw [hsz], out_trans omi (out_trans v3 (out_trans z3 w3)), ⟨u2, w2, wfin⟩, .inr ⟨?_, rfl, rfl⟩⟩
        rw [hsz]
        intro z
        exact neg_lt (n := aS c0) (by have := hW0.1; omega) (by rw [z]; decide)
  · rw [C_pair0 hC hx, if_pos rfl, m_two0 hM hx, sbind, if_pos rfl]
    exact ⟨_, _, _, _, _, _, _, _, _, _, _, _, _, _, _, _, _, _, _, _, a, rfl, rfl, out_refl _, ⟨hC, hM, hW⟩, .inr ⟨by decide, rfl, rfl⟩⟩
theorem inv_28 (x_words : Nat → Int32) (x_wordCount : Int32) (x_size : Int32) (x_signs : Nat → Int32) (x_next : Int32) (g_longest : Nat → Int32) (g_many : Nat → Int64) (g_layers : Nat → Int32) (g_length : Int32) (g_aheadOf : Nat → Int32) (g_cameFrom : Nat → Int32) (g_queue : Nat → Int32) (r_numbers : Nat → Int64) (r_size : Int32) (p_size : Int32) (t_filled : Nat → Int32) (nd : Nat → ND) (m_thrown : Int32) (m_told : Int32) (m_row : Nat → Int64) (m_tape : Nat → Int32) (m_taped : Int32) (m_at : Int32) (m_to : Int32) (m_mem : Nat → Int32) (m_undos : Int32) (m_places : Nat → Int32) (m_movers : Nat → Int32) (m_far : Nat → Int32) (m_way : Nat → Int32) (m_wayMany : Int32) (m_fromOf : Nat → Int32) (m_toOf : Nat → Int32) (m_longest : Nat → Int32) (m_wayCount : Nat → Int64) (m_thin : Nat → Int32) (m_ahead : Nat → Int32) (m_tried : Int32) (m_foundLow : Int32) (m_foundHigh : Int32) (m_nextLow : Int32) (m_nextHigh : Int32) (m_act : Nat → Int32) (m_first : Nat → Int32) (m_second : Nat → Int32) (m_random : Int32) (m_isKept : Nat → Int32) (x y : Int32) (h : Inv x_words x_wordCount x_size x_signs x_next g_longest g_many g_layers g_length g_aheadOf g_cameFrom g_queue r_numbers r_size p_size t_filled nd m_thrown m_told m_row m_tape m_taped m_at m_to m_mem m_undos m_places m_movers m_far m_way m_wayMany m_fromOf m_toOf m_longest m_wayCount m_thin m_ahead m_tried m_foundLow m_foundHigh m_nextLow m_nextHigh m_act m_first m_second m_random m_isKept) : S_28 Inv x_words x_wordCount x_size x_signs x_next g_longest g_many g_layers g_length g_aheadOf g_cameFrom g_queue r_numbers r_size p_size t_filled nd m_thrown m_told m_row m_tape m_taped m_at m_to m_mem m_undos m_places m_movers m_far m_way m_wayMany m_fromOf m_toOf m_longest m_wayCount m_thin m_ahead m_tried m_foundLow m_foundHigh m_nextLow m_nextHigh m_act m_first m_second m_random m_isKept x y := by
  obtain ⟨⟨a, hC, hM, hW⟩, hP, hK, hR, hT⟩ := h
  unfold S_28
  intro sa bb
  have hM0 := Mc0 hW hM
  have ag0 : agr m_mem (cpy m_mem 0 3) := agr_cpy _ (.inr (.inl rfl))
  obtain ⟨r, lay', len', rn', rs', nr, ord, it, nm, ow, mov, all, sz, cn, m1, pl', mv', far', way', wm', a', e1, e2, ho, hA, hrow⟩ := act_merge hC hM0 hW g_layers g_length r_numbers r_size m_places m_movers m_far m_way m_wayMany x y
  unfold f_X6_merges f_X7_merges f_X7_merges_b28
  rw [e1, sbind, Mcp, sbind, e2, sbind]
  dsimp only
  rcases hrow with ⟨h4, p, L, hL, w1, w2, w3, w4⟩ | ⟨h4, w1, w2⟩
  · have hr : r < 0 := by rw [h4]; decide
    rw [if_pos h4, w3, m_entersWay (p := p) (by omega) w4, sbind, c_settle0 hr, sbind, m_done0 hr, sbind]
    refine ⟨_, rfl, _, rfl, rfl, .inl ⟨rfl, rfl, ⟨a', hA⟩, (chgP (out_agr ag0 ho) hP hK _ _).1, (chgP (out_agr ag0 ho) hP hK _ _).2, ?_, hT⟩⟩
    rw [w1, w2]
    exact RwP _ _ _ (by omega)
  · rw [if_neg h4]
    by_cases hr : r < 0
    · rw [c_settle0 hr, sbind, m_done0 hr, sbind]
      refine ⟨_, rfl, _, rfl, rfl, .inl ⟨rfl, rfl, ⟨a', hA⟩, (chgP (out_agr ag0 ho) hP hK _ _).1, (chgP (out_agr ag0 ho) hP hK _ _).2, ?_, hT⟩⟩
      rw [w1, w2]
      exact hR
    · obtain ⟨k, hk, ek, bb', sa', mem', g1, g2, g3, g4, g5⟩ := chgC (out_agr ag0 ho) hP hK hA (BN_aside (n12 := nd 12) ⟨hC, hM, hW⟩ (out_as ho)) sa bb
      rw [c_settle1 hr g1, sbind, m_done1 hr g2, sbind]
      refine ⟨_, rfl, _, rfl, rfl, .inr ⟨k, hk, ek, g1, g3, g4, g5, ?_, hT⟩⟩
      rw [w1, w2]
      exact hR
