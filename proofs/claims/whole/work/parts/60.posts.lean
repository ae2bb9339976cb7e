/-! PURE 60: posts, unposts, posted, count, unlinks -/
abbrev itS (a : AN) (f : Nat → Nat → Bool) : AN := (a.1, a.2.1, a.2.2.1, a.2.2.2.1, a.2.2.2.2.1, a.2.2.2.2.2.1, a.2.2.2.2.2.2.1, f)
abbrev nrS (a : AN) (f : Nat → Nat → Bool) : AN := (a.1, f, a.2.2)
theorem MN_it {mem mem' : Nat → Int32} {a : AN} (h : MN mem 0 a) (hw : WA a) (f : Nat → Nat → Bool) (h1 : ∀ t, t < 24 → mem' (131 + t) = bset (f t) 20 ∧ mem' (155 + t) = bset (fun k => f t (k + 20)) 20) (h2 : ∀ i, i < 131 → mem' i = mem i) : MN mem' 0 (itS a f) := by
  have hs := hw.1
  have hc := hw.2.1
  refine ⟨fun t ht => ?_, fun p hp => ?_, fun t ht => ⟨?_, ?_⟩, fun i hi => ?_, fun i hi => ?_, ?_, ?_, ?_⟩
  · rw [h2 _ (by omega)]; exact h.1 t ht
  · have hp' : p < aS a := hp
    rw [h2 _ (by omega)]; exact h.2.1 p hp
  · rw [Nat.zero_add]; exact (h1 t ht).1
  · rw [Nat.zero_add]; exact (h1 t ht).2
  · have hi' : i < aC a := hi
    rw [h2 _ (by omega)]; exact h.2.2.2.1 i hi
  · have hi' : i < aC a := hi
    rw [h2 _ (by omega)]; exact h.2.2.2.2.1 i hi
  · rw [h2 _ (by omega)]; exact h.2.2.2.2.2.1
  · rw [h2 _ (by omega)]; exact h.2.2.2.2.2.2.1
  · rw [h2 _ (by omega)]; exact h.2.2.2.2.2.2.2
theorem MN_nr {mem mem' : Nat → Int32} {b : Nat} {a : AN} (h : MN mem b a) (hw : WA a) (f : Nat → Nat → Bool) (h1 : ∀ t, t < 24 → mem' (b + 107 + t) = bset (f t) 24) (h2 : ∀ i, i < 179 → ¬ (107 ≤ i ∧ i < 131) → mem' (b + i) = mem (b + i)) : MN mem' b (nrS a f) := by
  have hs := hw.1
  have hc := hw.2.1
  refine ⟨h1, fun p hp => ?_, fun t ht => ⟨?_, ?_⟩, fun i hi => ?_, fun i hi => ?_, ?_, ?_, ?_⟩
  · have hp' : p < aS a := hp
    rw [Nat.add_assoc, h2 _ (by omega) (by omega), ← Nat.add_assoc]; exact h.2.1 p hp
  · rw [Nat.add_assoc, h2 _ (by omega) (by omega), ← Nat.add_assoc]; exact (h.2.2.1 t ht).1
  · rw [Nat.add_assoc, h2 _ (by omega) (by omega), ← Nat.add_assoc]; exact (h.2.2.1 t ht).2
  · have hi' : i < aC a := hi
    rw [Nat.add_assoc, h2 _ (by omega) (by omega), ← Nat.add_assoc]; exact h.2.2.2.1 i hi
  · have hi' : i < aC a := hi
    rw [Nat.add_assoc, h2 _ (by omega) (by omega), ← Nat.add_assoc]; exact h.2.2.2.2.1 i hi
  · exact (h2 0 (by omega) (by omega)).trans h.2.2.2.2.2.1
  · rw [h2 _ (by omega) (by omega)]; exact h.2.2.2.2.2.2.1
  · rw [h2 _ (by omega) (by omega)]; exact h.2.2.2.2.2.2.2
abbrev rem (n n12 : ND) : ND := (n.1, n.2.1, n.2.2.1, n.2.2.2.1, n.2.2.2.2.1, n12.2.2.2.2.2.1, n.2.2.2.2.2.2.1, n.2.2.2.2.2.2.2.1, n.2.2.2.2.2.2.2.2)
theorem CN_rem {n n12 : ND} {a : AN} (h : CN n a) : CN (rem n n12) a := h
theorem BN_aside {n n12 : ND} {mem m1 : Nat → Int32} {a : AN} (h : BN n mem 0 a) (e : ∀ k, k < 179 → m1 (3 * 179 + k) = cpy mem 0 3 (3 * 179 + k)) : BN (rem n n12) m1 (3 * 179) a := ⟨CN_rem h.1, MN_cong h.2.2 (MN_cpy (q1 := 0) (q2 := 3) h.2.2 h.2.1) e, h.2.2⟩
theorem Mcp (mem : Nat → Int32) : f_X7_copies mem 0 3 = some (cpy mem 0 3) := m_copies (q1 := 0) (q2 := 3) mem (by omega) (by omega) (by omega)
theorem Mc0 {mem : Nat → Int32} {a : AN} (hw : WA a) (h : MN mem 0 a) : MN (cpy mem 0 3) 0 a := MN_cpo (q := 0) (q1 := 0) (q2 := 3) hw (h : MN mem (0 * 179) a) (by omega)
/-- how a change ends: the class -/
theorem c_settle0 {sa bb : Nat → Nat} {ps r : Int32} (h : r < 0) : f_X6_settled sa bb ps r = some (r, bb, sa 0, ps) := by
  unfold f_X6_settled
  rw [if_pos h]
theorem c_settle1 {sa bb : Nat → Nat} {ps r : Int32} {b' : Nat → Nat} {s' : Nat} {z : Int32} (h : ¬ r < 0) (e : f_X3_commit sa bb ps = some (b', s', z)) : f_X6_settled sa bb ps r = some (r, b', s', z) := by
  unfold f_X6_settled
  rw [if_neg h, e]
  rfl
theorem m_done0 {m : Nat → Int32} {us r : Int32} (h : r < 0) : f_X7_done m us r = some (r, m, us) := by
  unfold f_X7_done
  rw [if_pos h]
theorem m_done1 {m m' : Nat → Int32} {us r z : Int32} (h : ¬ r < 0) (e : f_X7_lays m us = some (m', z)) : f_X7_done m us r = some (r, m', z) := by
  unfold f_X7_done
  rw [if_neg h, e]
  rfl
theorem WA_it {a : AN} (hw : WA a) {f : Nat → Nat → Bool} (h : ∀ t k, f t k = true → aAl a t = true ∧ k < 40) : WA (itS a f) := ⟨hw.1, hw.2.1, hw.2.2.1, hw.2.2.2.1, hw.2.2.2.2.1, hw.2.2.2.2.2.1, hw.2.2.2.2.2.2.1, hw.2.2.2.2.2.2.2.1, hw.2.2.2.2.2.2.2.2.1, h⟩
theorem CN_it {n : ND} {a : AN} (h : CN n a) {t : Nat} {v : Int64} {f : Nat → Nat → Bool} (hv : v = lset (f t) 40) (hf : ∀ u, u ≠ t → f u = aIt a u) : CN (n.1, n.2.1, vp_updL n.2.2.1 t v, n.2.2.2) (itS a f) := by
  refine ⟨h.1, h.2.1, fun u hu => ?_, h.2.2.2⟩
  show vp_updL n.2.2.1 t v u = lset (f u) 40
  unfold vp_updL
  by_cases e : u = t
  · rw [if_pos e, hv, e]
  · rw [if_neg e, hf u e]
    exact h.2.2.1 u hu
theorem nI_nn {n : Nat} (h : n ≤ 1000) : ¬ nI n < 0 := neg_lt (by omega)
theorem wt_MN {m0 : Nat → Int32} {a : AN} (h : MN m0 0 a) (hw : WA a) {t i : Nat} (ht : t < 24) (hi : i < 40) {f : Nat → Nat → Bool} (hf : ∀ u k, ¬ (u = t ∧ k = i) → f u k = aIt a u k) {w : Int32} (hl : i < 20 → w = bset (f t) 20) (hh : 20 ≤ i → w = bset (fun k => f t (k + 20)) 20) : MN (upd m0 ((if 20 ≤ i then 155 else 131) + t) w) 0 (itS a f) := by
  refine MN_it h hw f (fun u hu => ⟨?_, ?_⟩) (fun k hk => ?_)
  · have old : m0 (131 + u) = bset (aIt a u) 20 := by rw [← (h.2.2.1 u hu).1, Nat.zero_add]
    unfold upd
    by_cases h2 : 20 ≤ i
    · rw [if_pos h2, if_neg (by omega), old]
      exact bset_congr 20 (fun k hk => (hf u k (by omega)).symm)
    · rw [if_neg h2]
      by_cases e : u = t
      · subst e
        rw [if_pos rfl]
        exact hl (by omega)
      · rw [if_neg (by omega), old]
        exact bset_congr 20 (fun k hk => (hf u k (by omega)).symm)
  · have old : m0 (155 + u) = bset (fun k => aIt a u (k + 20)) 20 := by rw [← (h.2.2.1 u hu).2, Nat.zero_add]
    unfold upd
    by_cases h2 : 20 ≤ i
    · rw [if_pos h2]
      by_cases e : u = t
      · subst e
        rw [if_pos rfl]
        exact hh h2
      · rw [if_neg (by omega), old]
        exact bset_congr 20 (fun k hk => (hf u (k + 20) (by omega)).symm)
    · rw [if_neg h2, if_neg (by omega), old]
      exact bset_congr 20 (fun k hk => (hf u (k + 20) (by omega)).symm)
  · unfold upd
    rw [if_neg]
    by_cases h2 : 20 ≤ i
    · rw [if_pos h2]; omega
    · rw [if_neg h2]; omega
def itOn (a : AN) (t i : Nat) : Nat → Nat → Bool := fun u k => aIt a u k || (decide (u = t) && decide (k = i))
def itOff (a : AN) (t i : Nat) : Nat → Nat → Bool := fun u k => aIt a u k && !(decide (u = t) && decide (k = i))
/-- the new contents of the half that holds an item -/
def hfOn (m0 : Nat → Int32) (t i : Nat) : Nat → Int32 := upd m0 ((if 20 ≤ i then 155 else 131) + t) (m0 ((if 20 ≤ i then 155 else 131) + t) ||| jshl 1 (nI (i % 20)))
def hfOff (m0 : Nat → Int32) (t i : Nat) : Nat → Int32 := upd m0 ((if 20 ≤ i then 155 else 131) + t) (m0 ((if 20 ≤ i then 155 else 131) + t) &&& (jshl 1 (nI (i % 20)) ^^^ (-1)))
theorem MN_on {m0 : Nat → Int32} {a : AN} (h : MN m0 0 a) (hw : WA a) {t i : Nat} (ht : t < 24) (hi : i < 40) : MN (hfOn m0 t i) 0 (itS a (itOn a t i)) := by
  unfold hfOn
  refine wt_MN h hw ht hi ?_ ?_ ?_
  · intro u k z
    unfold itOn
    by_cases e : u = t
    · have : k ≠ i := fun q => z ⟨e, q⟩
      simp [this]
    · simp [e]
  · intro h2
    rw [if_neg (by omega), show m0 (131 + t) = bset (aIt a t) 20 by rw [← (h.2.2.1 t ht).1, Nat.zero_add], show i % 20 = i by omega, bset_on _ h2 (by omega)]
    refine bset_congr 20 (fun k hk => ?_)
    unfold itOn
    simp
  · intro h2
    rw [if_pos h2, show m0 (155 + t) = bset (fun k => aIt a t (k + 20)) 20 by rw [← (h.2.2.1 t ht).2, Nat.zero_add], bset_on _ (show i % 20 < 20 by omega) (by omega)]
    refine bset_congr 20 (fun k hk => ?_)
    unfold itOn
    have e2 : decide (k = i % 20) = decide (k + 20 = i) := decide_eq_decide.mpr ⟨by omega, by omega⟩
    rw [e2]
    simp
theorem MN_off {m0 : Nat → Int32} {a : AN} (h : MN m0 0 a) (hw : WA a) {t i : Nat} (ht : t < 24) (hi : i < 40) : MN (hfOff m0 t i) 0 (itS a (itOff a t i)) := by
  unfold hfOff
  refine wt_MN h hw ht hi ?_ ?_ ?_
  · intro u k z
    unfold itOff
    by_cases e : u = t
    · have : k ≠ i := fun q => z ⟨e, q⟩
      simp [this]
    · simp [e]
  · intro h2
    rw [if_neg (by omega), show m0 (131 + t) = bset (aIt a t) 20 by rw [← (h.2.2.1 t ht).1, Nat.zero_add], show i % 20 = i by omega, bset_off _ h2 (by omega)]
    refine bset_congr 20 (fun k hk => ?_)
    unfold itOff
    simp
  · intro h2
    rw [if_pos h2, show m0 (155 + t) = bset (fun k => aIt a t (k + 20)) 20 by rw [← (h.2.2.1 t ht).2, Nat.zero_add], bset_off _ (show i % 20 < 20 by omega) (by omega)]
    refine bset_congr 20 (fun k hk => ?_)
    unfold itOff
    have e2 : decide (k = i % 20) = decide (k + 20 = i) := decide_eq_decide.mpr ⟨by omega, by omega⟩
    rw [e2]
    simp
theorem agr_on {mem m0 : Nat → Int32} (h : agr mem m0) {t i : Nat} (ht : t < 24) (v : Int32) : agr mem (upd m0 ((if 20 ≤ i then 155 else 131) + t) v) := by
  apply agr_upd h
  by_cases h2 : 20 ≤ i
  · rw [if_pos h2]; omega
  · rw [if_neg h2]; omega
theorem as_on {m0 : Nat → Int32} {t i : Nat} (ht : t < 24) (v : Int32) : ∀ k, k < 179 → upd m0 ((if 20 ≤ i then 155 else 131) + t) v (3 * 179 + k) = m0 (3 * 179 + k) := by
  intro k hk
  unfold upd
  rw [if_neg]
  by_cases h2 : 20 ≤ i
  · rw [if_pos h2]; omega
  · rw [if_neg h2]; omega
theorem m_dec {m0 : Nat → Int32} {t i : Nat} (ht : t < 24) (hi : i < 40) {ρ : Type} (g : Int32 → Option ρ) (w : Int32 → Option ρ) (he : ∀ s : Nat, s = (if 20 ≤ i then 155 else 131) → w (nI s) = g (nI s)) : (if 20 ≤ nI i then w 155 else w 131) = g (nI (if 20 ≤ i then 155 else 131)) := by
  by_cases h2 : 20 ≤ i
  · rw [if_pos (show (20 : Int32) ≤ nI i by rw [show (20 : Int32) = nI 20 from rfl, nI_leI (by decide) (by omega)]; exact h2), if_pos h2]
    exact he 155 (by rw [if_pos h2])
  · rw [if_neg (show ¬ (20 : Int32) ≤ nI i by rw [show (20 : Int32) = nI 20 from rfl, nI_leI (by decide) (by omega)]; exact h2), if_neg h2]
    exact he 131 (by rw [if_neg h2])
theorem c_longc {a : AN} (t : Nat) : f_J13_bitCount_95d88 (lset (aIt a t) 40) = nI (cnt (aIt a t) 40) := by
  rw [c_longCount, (npc_lset _ 40 (by omega)).2]
theorem m_post1 {m0 : Nat → Int32} {a : AN} (h : MN m0 0 a) (hw : WA a) {t i : Nat} (hal : aAl a t = true) (hi : i < 40) (hn : aIt a t i = false) : f_X7_postsOne m0 (nI i) (nI t) = some (nI (cnt (itOn a t i t) 40), hfOn m0 t i) := by
  have ht := W_lt hw hal
  have hM := MN_on h hw ht hi
  unfold f_X7_postsOne
  rw [if_neg (m_item1 hi), m_isTerm1 h ht hal, sbind, if_neg one0, m_isPosted h hi ht, sbind, hn, if_pos (by decide)]
  rw [m_dec (m0 := m0) ht hi (fun _ => some (nI (cnt (itOn a t i t) 40), hfOn m0 t i)) (fun s => f_X7_postsOne_b48 m0 (nI i) (nI t) s)]
  intro s hs
  have hs2 : s ≤ 155 := by
    rw [hs]
    by_cases h2 : 20 ≤ i
    · rw [if_pos h2]; omega
    · rw [if_neg h2]; omega
  unfold f_X7_postsOne_b48
  rw [nI_add, chk_nI (by omega) (by decide), chk_nI (by omega) (by decide), ix_nI (by omega), jrem20 hi]
  have e : upd m0 (s + t) (m0 (s + t) ||| jshl 1 (nI (i % 20))) = hfOn m0 t i := by
    unfold hfOn
    rw [← hs]
  rw [e, show f_X7_itemsOf (hfOn m0 t i) 0 (nI t) = some (nI (cnt (itOn a t i t) 40)) from m_itemsOf (q := 0) (hM : MN _ (0 * 179) _) (by omega) ht, sbind]
theorem m_post0 {m0 : Nat → Int32} {a : AN} (h : MN m0 0 a) {x y : Int32} (hn : ¬ (isI x ∧ isT a y)) : f_X7_postsOne m0 x y = some (-1, m0) := by
  unfold f_X7_postsOne
  by_cases hx : isI x
  · obtain ⟨i, hi, rfl⟩ := hx
    rw [if_neg (m_item1 hi), m_isTerm0 h (fun z => hn ⟨⟨i, hi, rfl⟩, z⟩), sbind, if_pos rfl]
  · rw [if_pos (m_item0 hx)]
theorem m_post2 {m0 : Nat → Int32} {a : AN} (h : MN m0 0 a) (hw : WA a) {t i : Nat} (hal : aAl a t = true) (hi : i < 40) (hn : aIt a t i = true) : f_X7_postsOne m0 (nI i) (nI t) = some (-2, m0) := by
  have ht := W_lt hw hal
  unfold f_X7_postsOne
  rw [if_neg (m_item1 hi), m_isTerm1 h ht hal, sbind, if_neg one0, m_isPosted h hi ht, sbind, hn, if_neg (by decide)]
theorem c_bit {a : AN} {n : ND} (h : CN n a) {t i : Nat} (ht : t < 24) (hi : i < 40) : lg_cmp ((jlshr (n.2.2.1 t) (nI i)) &&& 1) 0 = 0 ↔ aIt a t i = false := by
  rw [h.2.2.1 t ht, lbit (by omega), bl_lset _ (by omega)]
  simp [hi]
theorem c_post1 {n : ND} {a : AN} (h : CN n a) (hw : WA a) {t i : Nat} (hal : aAl a t = true) (hi : i < 40) (hn : aIt a t i = false) : f_X0_post n.2.2.1 (bset (aAl a) 24) (nI i) (nI t) = some (nI (cnt (itOn a t i t) 40), vp_updL n.2.2.1 t (lset (itOn a t i t) 40)) := by
  have ht := W_lt hw hal
  have e : n.2.2.1 t ||| jlshl 1 (nI i) = lset (itOn a t i t) 40 := by
    rw [h.2.2.1 t ht, lset_on _ hi]
    congr 1
    funext k
    unfold itOn
    simp
  unfold f_X0_post
  rw [c_has1 ht hal, if_neg one0, c_item1 hi, if_neg one0, chk_nI ht (by decide), ix_nI (by omega), if_pos ((c_bit h ht hi).mpr hn), chk_nI ht (by decide), chk_nI ht (by decide), chk_nI ht (by decide), e]
  congr 2
  show f_J13_bitCount_95d88 (vp_updL n.2.2.1 t (lset (itOn a t i t) 40) t) = _
  unfold vp_updL
  rw [if_pos rfl, c_longCount, (npc_lset _ 40 (by omega)).2]
theorem c_post0 {n : ND} {a : AN} {x y : Int32} (hn : ¬ (isI x ∧ isT a y)) : f_X0_post n.2.2.1 (bset (aAl a) 24) x y = some (-1, n.2.2.1) := by
  unfold f_X0_post
  by_cases hy : isT a y
  · obtain ⟨t, rfl, lt, ht⟩ := hy
    rw [c_has1 lt ht, if_neg one0, c_item0 (fun z => hn ⟨z, ⟨t, rfl, lt, ht⟩⟩), if_pos rfl]
  · rw [c_has0 hy, if_pos rfl]
theorem c_post2 {n : ND} {a : AN} (h : CN n a) (hw : WA a) {t i : Nat} (hal : aAl a t = true) (hi : i < 40) (hn : aIt a t i = true) : f_X0_post n.2.2.1 (bset (aAl a) 24) (nI i) (nI t) = some (-2, n.2.2.1) := by
  have ht := W_lt hw hal
  unfold f_X0_post
  rw [c_has1 ht hal, if_neg one0, c_item1 hi, if_neg one0, chk_nI ht (by decide), ix_nI (by omega), if_neg (by rw [c_bit h ht hi, hn]; decide)]
theorem WA_on {a : AN} (hw : WA a) {t i : Nat} (hal : aAl a t = true) (hi : i < 40) : WA (itS a (itOn a t i)) := by
  refine WA_it hw (fun u k z => ?_)
  unfold itOn at z
  by_cases e : u = t ∧ k = i
  · rw [e.1, e.2]; exact ⟨hal, hi⟩
  · refine hw.2.2.2.2.2.2.2.2.2 u k ?_
    rw [Bool.or_eq_true, Bool.and_eq_true, decide_eq_true_iff, decide_eq_true_iff] at z
    exact z.resolve_right e
/-- nothing but the first slice changes -/
def out (m0 m1 : Nat → Int32) : Prop := ∀ i, 179 ≤ i → m1 i = m0 i
theorem out_refl (m : Nat → Int32) : out m m := fun _ _ => rfl
theorem out_trans {m1 m2 m3 : Nat → Int32} (h : out m1 m2) (g : out m2 m3) : out m1 m3 := fun i hi => (g i hi).trans (h i hi)
theorem out_upd {m0 m1 : Nat → Int32} (h : out m0 m1) {i : Nat} (hi : i < 179) (v : Int32) : out m0 (upd m1 i v) := by
  intro k hk
  unfold upd
  rw [if_neg (by omega)]
  exact h k hk
theorem out_agr {mem m0 m1 : Nat → Int32} (h : agr mem m0) (g : out m0 m1) : agr mem m1 := fun q h0 h3 h4 k hk => (g _ (by omega)).trans (h q h0 h3 h4 k hk)
theorem out_as {m0 m1 : Nat → Int32} (g : out m0 m1) : ∀ k, k < 179 → m1 (3 * 179 + k) = m0 (3 * 179 + k) := fun k _ => g _ (by omega)
theorem i155 {t i : Nat} (ht : t < 24) : (if 20 ≤ i then 155 else 131) + t < 179 := by
  by_cases h2 : 20 ≤ i
  · rw [if_pos h2]; omega
  · rw [if_neg h2]; omega
theorem act_post {n : ND} {a : AN} {m0 : Nat → Int32} (hC : CN n a) (hM : MN m0 0 a) (hW : WA a) (x y : Int32) : ∃ r it m1 a', f_X0_post n.2.2.1 (bset (aAl a) 24) x y = some (r, it) ∧ f_X7_postsOne m0 x y = some (r, m1) ∧ out m0 m1 ∧ BN (n.1, n.2.1, it, n.2.2.2) m1 0 a' := by
  by_cases hx : isI x ∧ isT a y
  · obtain ⟨⟨i, hi, rfl⟩, t, rfl, lt, ht⟩ := hx
    by_cases hb : aIt a t i = true
    · exact ⟨_, _, _, a, c_post2 hC hW ht hi hb, m_post2 hM hW ht hi hb, out_refl _, hC, hM, hW⟩
    · have hb : aIt a t i = false := Bool.eq_false_iff.mpr hb
      refine ⟨_, _, _, itS a (itOn a t i), c_post1 hC hW ht hi hb, m_post1 hM hW ht hi hb, out_upd (out_refl _) (i155 lt) _, CN_it hC rfl ?_, MN_on hM hW lt hi, WA_on hW ht hi⟩
      intro u hu
      funext k
      unfold itOn
      simp [hu]
  · exact ⟨_, _, _, a, c_post0 hx, m_post0 hM hx, out_refl _, hC, hM, hW⟩
theorem inv_23 (x_words : Nat → Int32) (x_wordCount : Int32) (x_size : Int32) (x_signs : Nat → Int32) (x_next : Int32) (g_longest : Nat → Int32) (g_many : Nat → Int64) (g_layers : Nat → Int32) (g_length : Int32) (g_aheadOf : Nat → Int32) (g_cameFrom : Nat → Int32) (g_queue : Nat → Int32) (r_numbers : Nat → Int64) (r_size : Int32) (p_size : Int32) (t_filled : Nat → Int32) (nd : Nat → ND) (m_thrown : Int32) (m_told : Int32) (m_row : Nat → Int64) (m_tape : Nat → Int32) (m_taped : Int32) (m_at : Int32) (m_to : Int32) (m_mem : Nat → Int32) (m_undos : Int32) (m_places : Nat → Int32) (m_movers : Nat → Int32) (m_far : Nat → Int32) (m_way : Nat → Int32) (m_wayMany : Int32) (m_fromOf : Nat → Int32) (m_toOf : Nat → Int32) (m_longest : Nat → Int32) (m_wayCount : Nat → Int64) (m_thin : Nat → Int32) (m_ahead : Nat → Int32) (m_tried : Int32) (m_foundLow : Int32) (m_foundHigh : Int32) (m_nextLow : Int32) (m_nextHigh : Int32) (m_act : Nat → Int32) (m_first : Nat → Int32) (m_second : Nat → Int32) (m_random : Int32) (m_isKept : Nat → Int32) (x y : Int32) (h : Inv x_words x_wordCount x_size x_signs x_next g_longest g_many g_layers g_length g_aheadOf g_cameFrom g_queue r_numbers r_size p_size t_filled nd m_thrown m_told m_row m_tape m_taped m_at m_to m_mem m_undos m_places m_movers m_far m_way m_wayMany m_fromOf m_toOf m_longest m_wayCount m_thin m_ahead m_tried m_foundLow m_foundHigh m_nextLow m_nextHigh m_act m_first m_second m_random m_isKept) : S_23 Inv x_words x_wordCount x_size x_signs x_next g_longest g_many g_layers g_length g_aheadOf g_cameFrom g_queue r_numbers r_size p_size t_filled nd m_thrown m_told m_row m_tape m_taped m_at m_to m_mem m_undos m_places m_movers m_far m_way m_wayMany m_fromOf m_toOf m_longest m_wayCount m_thin m_ahead m_tried m_foundLow m_foundHigh m_nextLow m_nextHigh m_act m_first m_second m_random m_isKept x y := by
  obtain ⟨⟨a, hC, hM, hW⟩, hP, hK, hR, hT⟩ := h
  unfold S_23
  intro sa bb
  have hM0 := Mc0 hW hM
  have ag0 : agr m_mem (cpy m_mem 0 3) := agr_cpy _ (.inr (.inl rfl))
  obtain ⟨r, it, m1, a', e1, e2, ho, hA⟩ := act_post hC hM0 hW x y
  rw [← hC.2.2.2.2.2.1] at e1
  by_cases hr : r < 0
  · refine ⟨(r, it, bb, sa 0, p_size, (nd 0).1, (nd 0).2.1, (nd 0).2.2.1, (nd 0).2.2.2.1, (nd 0).2.2.2.2.1, (nd 0).2.2.2.2.2.2.1, (nd 0).2.2.2.2.2.2.2.1, (nd 0).2.2.2.2.2.2.2.2), ?_, (r, 0, m1, m_undos), ?_, rfl, .inl ⟨rfl, rfl, ⟨a', hA⟩, (chgP (out_agr ag0 ho) hP hK _ _).1, (chgP (out_agr ag0 ho) hP hK _ _).2, hR, hT⟩⟩
    · unfold f_X6_posts
      rw [e1, sbind, c_settle0 hr]
      rfl
    · unfold f_X7_posts
      rw [Mcp, sbind, e2, sbind, m_done0 hr]
      rfl
  · obtain ⟨k, hk, ek, bb', sa', mem', g1, g2, g3, g4, g5⟩ := chgC (out_agr ag0 ho) hP hK hA (BN_aside (n12 := nd 12) ⟨hC, hM, hW⟩ (out_as ho)) sa bb
    refine ⟨(r, it, bb', sa', psz k, (nd 0).1, (nd 0).2.1, (nd 0).2.2.1, (nd 0).2.2.2.1, (nd 0).2.2.2.2.1, (nd 0).2.2.2.2.2.2.1, (nd 0).2.2.2.2.2.2.2.1, (nd 0).2.2.2.2.2.2.2.2), ?_, (r, 0, mem', psz k), ?_, rfl, .inr ⟨k, hk, ek, g1, g3, g4, g5, hR, hT⟩⟩
    · unfold f_X6_posts
      rw [e1, sbind, c_settle1 hr g1]
      rfl
    · unfold f_X7_posts
      rw [Mcp, sbind, e2, sbind, m_done1 hr g2]
      rfl
