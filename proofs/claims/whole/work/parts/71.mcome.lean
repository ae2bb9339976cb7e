/-! PURE 71: a link comes, in the reference -/
theorem m_adds {mem : Nat → Int32} {q : Nat} {a : AN} (h : MN mem (q * 179) a) (hq : q ≤ 12) (hW : WA a) {P : Nat → Bool} {S : Nat → Prop} {mv : Nat → Nat} {lo hi base : Nat} (hlo : lo ≤ hi) (hhi : hi < aS a) (hP : ∀ p, lo ≤ p → p ≤ hi → (P p = true ↔ S (aO a p))) (h0 : ∀ p, p < lo → ¬ P p = true) (hmv : ∀ p, lo ≤ p → p ≤ hi → P p = true → mv (base + cnt P p) = aO a p) (hb : base + cnt P (hi + 1) ≤ 24) {arr : Nat → Int32} (harr : ∀ k, k < base → arr k = nI (mv k)) : ∃ arr', (∀ k, k < base + cnt P (hi + 1) → arr' k = nI (mv k)) ∧ f_X7_addsMovers mem arr (nI q) (bsP S) (nI lo) (nI hi) (nI base) = some (nI (base + cnt P (hi + 1)), arr') := by
  have hs := hW.1
  unfold f_X7_addsMovers f_X7_addsMovers_l7
  have c0 : cnt P lo = 0 := by
    rw [cnt_stop (p := 0) (Nat.zero_le _) (fun i _ h => h0 i h)]
    rfl
  obtain ⟨r, hr, h⟩ := loop_rel (body := fun (_ : Unit) rc (v : Int32 × Int32 × (Nat → Int32)) => f_X7_addsMovers_b7 mem (nI q) (bsP S) (nI lo) (nI hi) (nI base) (fun x0_ x1_ x2_ => rc (x0_, x1_, x2_)) v.1 v.2.1 v.2.2) (fun _ (r : Nat → Int32) => some (nI (base + cnt P (hi + 1)), r)) (fun r => ∀ k, k < base + cnt P (hi + 1) → r k = nI (mv k)) (hi + 1 - lo) 200 (fun j w => ∃ ar, w = (nI (base + cnt P (lo + j)), nI (lo + j), ar) ∧ ∀ k, k < base + cnt P (lo + j) → ar k = nI (mv k)) (by omega) (by
    rintro j w hj ⟨ar, rfl, har⟩
    by_cases e : lo + j = hi + 1
    · left
      refine ⟨ar, by rw [← e]; exact har, ?_⟩
      intro k rc
      show f_X7_addsMovers_b7 _ _ _ _ _ _ _ _ _ _ = _
      unfold f_X7_addsMovers_b7
      dsimp only
      rw [e, if_pos (by rw [nI_ltI (by omega) (by omega)]; omega)]
    · right
      have hle : lo + j ≤ hi := by omega
      refine ⟨by omega, ?_⟩
      have ho := W_o hW (show lo + j < aS a by omega)
      have hc := cnt_s P (lo + j)
      by_cases w : P (lo + j) = true
      · rw [if_pos w] at hc
        have hlt : cnt P (lo + j) < cnt P (hi + 1) := cnt_lt (by omega) w
        refine ⟨_, ⟨upd ar (base + cnt P (lo + j)) (nI (aO a (lo + j))), rfl, ?_⟩, ?_⟩
        · intro k hk
          by_cases ek : k = base + cnt P (lo + j)
          · rw [ek, updN, hmv _ (by omega) hle w]
          · rw [updO ek]
            refine har k ?_
            rw [show lo + (j + 1) = lo + j + 1 by omega, hc] at hk
            omega
        · intro k rc
          show f_X7_addsMovers_b7 _ _ _ _ _ _ _ _ _ _ = _
          unfold f_X7_addsMovers_b7
          dsimp only
          rw [if_neg (by rw [nI_ltI (by omega) (by omega)]; omega), m_inPlace h hq (by omega) hs, sbind, if_neg (by rw [bsP_has ho]; exact fun z => z ((hP _ (by omega) hle).mp w)), sbind, chk_nI (by omega) (by decide), ix_nI (by omega), nI_1, nI_1, show lo + (j + 1) = lo + j + 1 by omega, hc, show base + (cnt P (lo + j) + 1) = base + cnt P (lo + j) + 1 by omega]
      · rw [if_neg w] at hc
        refine ⟨_, ⟨ar, rfl, by rw [show lo + (j + 1) = lo + j + 1 by omega, hc]; exact har⟩, ?_⟩
        intro k rc
        show f_X7_addsMovers_b7 _ _ _ _ _ _ _ _ _ _ = _
        unfold f_X7_addsMovers_b7
        dsimp only
        rw [if_neg (by rw [nI_ltI (by omega) (by omega)]; omega), m_inPlace h hq (by omega) hs, sbind, if_pos (by rw [bsP_has ho]; exact fun z => w ((hP _ (by omega) hle).mpr z)), nI_1, show lo + (j + 1) = lo + j + 1 by omega, hc]) (nI base, nI lo, arr) ⟨arr, by rw [Nat.add_zero, c0, Nat.add_zero], by rw [Nat.add_zero, c0, Nat.add_zero]; exact harr⟩
  exact ⟨r, hr, h ()⟩
/-- places of the movers -/
noncomputable def PLA (P : Nat → Bool) (f : Nat → Int32) (j : Nat) : Nat → Int32 := itr (fun i f => if P i then upd f (cnt P i) (nI i) else f) f j
theorem PLA_s (P : Nat → Bool) (f : Nat → Int32) (j : Nat) : PLA P f (j + 1) = if P j then upd (PLA P f j) (cnt P j) (nI j) else PLA P f j := rfl
theorem PLA_at (P : Nat → Bool) (f : Nat → Int32) : ∀ {j k}, k < cnt P j → PLA P f j k = nI (enP P k) := by
  intro j
  induction j with
  | zero => intro k h; exact absurd h (Nat.not_lt_zero _)
  | succ j ih =>
    intro k h
    rw [PLA_s]
    rw [cnt_s] at h
    by_cases hj : P j = true
    · rw [if_pos hj] at h ⊢
      by_cases e : k = cnt P j
      · rw [e, updN, en_at hj]
      · rw [updO e]
        exact ih (by omega)
    · rw [if_neg hj] at h ⊢
      exact ih h
noncomputable def MA (a : AN) (x y b : Nat) (m : Nat → Int32) (k : Nat) : Nat → Int32 := itr (fun j m => upd m (b + 3 + enP (pP a x y) j) (nI (aO a (sg a x y j)))) m k
theorem MA_s (a : AN) (x y b : Nat) (m : Nat → Int32) (k : Nat) : MA a x y b m (k + 1) = upd (MA a x y b m k) (b + 3 + enP (pP a x y) k) (nI (aO a (sg a x y k))) := rfl
theorem MA_no {a : AN} {x y b : Nat} (m : Nat → Int32) : ∀ {k i}, (∀ j, j < k → i ≠ b + 3 + enP (pP a x y) j) → MA a x y b m k i = m i := by
  intro k
  induction k with
  | zero => intro i _; rfl
  | succ k ih =>
    intro i h
    rw [MA_s, updO (h k (by omega))]
    exact ih (fun j hj => h j (by omega))
theorem MA_yes {a : AN} {x y b : Nat} (m : Nat → Int32) {N : Nat} (hN : N ≤ cnt (pP a x y) 24) : ∀ {k}, k ≤ N → ∀ j, j < k → MA a x y b m k (b + 3 + enP (pP a x y) j) = nI (aO a (sg a x y j)) := by
  intro k
  induction k with
  | zero => intro _ j h; exact absurd h (Nat.not_lt_zero _)
  | succ k ih =>
    intro hk j hj
    rw [MA_s]
    by_cases e : j = k
    · rw [e, updN]
    · have := en_lt (P := pP a x y) (j := j) (k := k) (n := 24) (by omega) (by omega)
      rw [updO (by omega)]
      exact ih (by omega) j (by omega)
theorem m_mends {mem : Nat → Int32} {q : Nat} {a : AN} (h : MN mem (q * 179) a) (hq : q ≤ 12) (hW : WA a) {x y : Nat} (hx : aAl a x = true) (hy : aAl a y = true) (hne : x ≠ y) (hn : ¬ Rc (aNr a) y x) (pls mvs : Nat → Int32) : ∃ pls' mvs', f_X7_mends mem pls mvs (nI q) (nI x) (nI y) = some (nI (mvd a x y 24), MA a x y (q * 179) mem (cnt (pP a x y) 24), pls', mvs') := by
  have hs := hW.1
  have sx := pcO_spec hW hx
  have sy := pcO_spec hW hy
  have lx := W_lt hW hx
  have ly := W_lt hW hy
  have hpne : pcO a x ≠ pcO a y := fun e => hne (by rw [← sx.2, ← sy.2, e])
  have p1 : f_X7_placeOf mem (nI q) (nI x) = some (nI (pcO a x)) := by
    have := m_placeOf h hq hW sx.1
    rw [sx.2] at this
    exact this
  have p2 : f_X7_placeOf mem (nI q) (nI y) = some (nI (pcO a y)) := by
    have := m_placeOf h hq hW sy.1
    rw [sy.2] at this
    exact this
  unfold f_X7_mends
  rw [p1, p2, sbind, sbind]
  by_cases hpl : pcO a y ≤ pcO a x
  · have h3 := md_sum hn (x := x) (y := y) 24
    have hN : cnt (pP a x y) 24 ≤ 24 := cnt_le _ _
    have cF : cnt (fP a x y) (aS a - 1 + 1) = nF a x y := (cnt_stop (by omega) (fun i h1 _ z => pP_px (x := x) (y := y) (p := i) (by omega) (pP_i.mpr (.inl z)))).symm
    have cH : cnt (hP a x y) (pcO a x + 1) = cnt (hP a x y) 24 := (cnt_stop (by omega) (fun i h1 _ z => pP_px (by omega) (pP_i.mpr (.inr z)))).symm
    obtain ⟨ar1, r1, g1⟩ := m_adds h hq hW (P := fP a x y) (S := fun u => Rc (aNr a) u x) (mv := fun k => aO a (sg a x y k)) (lo := pcO a y) (hi := aS a - 1) (base := 0) (by omega) (by omega) (fun p h1 h2 => by
      rw [fP_i]
      refine ⟨fun z => z.2.2, fun z => ⟨h1, ?_, z⟩⟩
      have hp : p < aS a := by omega
      rcases Rc_pc hW z with e | e
      · rw [← e, pcO_at hW hp]; exact Nat.le_refl _
      · rw [pcO_at hW hp] at e; omega) (fun p h z => by have := (fP_i.mp z).1; omega) (fun p _ _ w => by rw [Nat.zero_add, sg_F hW hx hn w]) (by rw [Nat.zero_add, cF]; unfold nF; omega) (arr := mvs) (fun k hk => absurd hk (Nat.not_lt_zero _))
    rw [Nat.zero_add, cF] at r1 g1
    obtain ⟨ar2, r2, g2⟩ := m_adds h hq hW (P := hP a x y) (S := Rc (aNr a) y) (mv := fun k => aO a (sg a x y k)) (lo := 0) (hi := pcO a x) (base := nF a x y) (Nat.zero_le _) sx.1 (fun p h1 h2 => by
      rw [hP_i]
      refine ⟨fun z => z.2.2, fun z => ⟨?_, h2, z⟩⟩
      have hp : p < aS a := by omega
      rcases Rc_pc hW z with e | e
      · rw [e, pcO_at hW hp]; exact Nat.le_refl _
      · rw [pcO_at hW hp] at e; omega) (fun p h => absurd h (Nat.not_lt_zero _)) (fun p _ _ w => by rw [sg_H w]) (by rw [cH]; unfold nF; omega) (arr := ar1) r1
    have eN : nF a x y + cnt (hP a x y) 24 = cnt (pP a x y) 24 := h3.symm
    rw [cH, eN] at r2 g2
    obtain ⟨N, dN⟩ : ∃ N, N = cnt (pP a x y) 24 := ⟨_, rfl⟩
    refine ⟨PLA (pP a x y) pls (aS a), ar2, ?_⟩
    rw [if_pos (by rw [nI_leI (by omega) (by omega)]; exact hpl), m_above h hq hW lx, sbind, m_below h hq hW ly, sbind, m_placed h hq, sbind, show nI (aS a) - 1 = nI (aS a - 1) by rw [← nI_m1 (n := aS a - 1), show aS a - 1 + 1 = aS a by omega], show (0 : Int32) = nI 0 from rfl, g1, sbind]
    dsimp only
    rw [g2, sbind]
    dsimp only
    unfold f_X7_mends_l80
    rw [← dN] at r2 hN ⊢
    have inP : ∀ p, p < aS a → ((∃ i, i < N ∧ aO a (sg a x y i) = aO a p) ↔ pP a x y p = true) := by
      intro p hp
      constructor
      · rintro ⟨i, h1, h2⟩
        have w := sg_o hW hx hn (k := i) (by omega)
        have := hW.2.2.2.2.1 _ _ (md_s hW hx w) hp h2
        rw [this] at w
        exact w
      · intro w
        obtain ⟨k, h1, h2⟩ := sg_all hW hx hn w
        exact ⟨k, by omega, by rw [h2]⟩
    have cs : cnt (pP a x y) (aS a) = N := by
      rw [dN]
      exact (cnt_stop (by omega) (fun i h1 _ z => by have := md_s hW hx z; omega)).symm
    refine loop_go (fun j => (nI N, nI (cnt (pP a x y) j), nI j, PLA (pP a x y) pls j, ar2)) (aS a) 200 (by omega) rfl ?_ ?_
    · intro j hj rc
      show f_X7_mends_b80 _ _ _ _ _ _ _ _ _ _ = _
      unfold f_X7_mends_b80
      dsimp only
      rw [m_placed h hq, sbind, if_neg (nle hj (by omega))]
      unfold f_X7_mends_l96
      have lc := cnt_le (pP a x y) j
      have ho := W_o hW hj
      refine loop_go (fun i => (nI N, nI (cnt (pP a x y) j), nI j, (if pb (∃ i', i' < i ∧ aO a (sg a x y i') = aO a j) then 1 else 0), nI i, PLA (pP a x y) pls j, ar2)) N 200 (by omega) ?_ ?_ ?_
      · rw [if_neg]
        · rfl
        · intro z
          obtain ⟨i, h1, _⟩ := pb_iff.mp z
          exact absurd h1 (Nat.not_lt_zero _)
      · intro i hi rc2
        show f_X7_mends_b96 _ _ _ _ _ _ _ _ _ _ _ _ _ = _
        unfold f_X7_mends_b96
        dsimp only
        have ls : aO a (sg a x y i) < 24 := W_o hW (md_s hW hx (sg_o hW hx hn (by omega)))
        rw [if_neg (nle hi (by omega)), nI_1, chk_nI (by omega) (by decide), m_inPlace h hq hj hs, sbind, ix_nI (by omega)]
        have r2i : ar2 i = nI (aO a (sg a x y i)) := r2 i hi
        simp only [r2i]
        by_cases z1 : ∃ i', i' < i ∧ aO a (sg a x y i') = aO a j
        · have z2 : ∃ i', i' < i + 1 ∧ aO a (sg a x y i') = aO a j := by
            obtain ⟨i', h1, h2⟩ := z1
            exact ⟨i', by omega, h2⟩
          simp only [if_pos (pb_iff.mpr z1), if_pos (pb_iff.mpr z2), if_neg one0]
        · simp only [if_neg (fun z => z1 (pb_iff.mp z)), if_true]
          by_cases e : aO a (sg a x y i) = aO a j
          · rw [if_pos (by rw [e]), if_pos (pb_iff.mpr ⟨i, by omega, e⟩)]
          · rw [if_neg (by rw [nI_eq (by omega) (by omega)]; exact e), if_neg]
            intro z
            obtain ⟨i', h1, h2⟩ := pb_iff.mp z
            by_cases ei : i' = i
            · rw [ei] at h2; exact e h2
            · exact z1 ⟨i', by omega, h2⟩
      · intro rc2
        show f_X7_mends_b96 _ _ _ _ _ _ _ _ _ _ _ _ _ = _
        unfold f_X7_mends_b96
        dsimp only
        rw [if_pos (yle _ (by omega)), nI_1, PLA_s, cnt_s]
        by_cases w : pP a x y j = true
        · rw [if_pos w, if_pos w]
          simp only [if_pos (pb_iff.mpr ((inP j hj).mpr w)), if_neg one0]
          rw [chk_nI (by omega) (by decide), ix_nI (by omega), nI_1]
        · rw [if_neg w, if_neg w]
          simp only [if_neg (fun z => w ((inP j hj).mp (pb_iff.mp z))), if_true]
    · intro rc
      show f_X7_mends_b80 _ _ _ _ _ _ _ _ _ _ = _
      unfold f_X7_mends_b80
      dsimp only
      rw [m_placed h hq, sbind, if_pos (yle _ (by omega)), cs]
      unfold f_X7_mends_l167
      refine loop_go (fun k => (nI N, nI (cnt (fun j => !decide (mO a x y (enP (pP a x y) j) = aO a (enP (pP a x y) j))) k), nI k, MA a x y (q * 179) mem k, PLA (pP a x y) pls (aS a), ar2)) N 200 (by omega) rfl ?_ ?_
      · intro k hk rc2
        show f_X7_mends_b167 _ _ _ _ _ _ _ _ _ _ = _
        unfold f_X7_mends_b167 f_X7_mends_b215
        dsimp only
        have es := en_spec (P := pP a x y) (k := k) (n := 24) (by omega)
        have eps := md_s hW hx es.2.1
        have emv : aO a (sg a x y k) = mO a x y (enP (pP a x y) k) := by rw [mO_pP es.2.1, es.2.2]
        have ls : aO a (sg a x y k) < 24 := W_o hW (md_s hW hx (sg_o hW hx hn (by omega)))
        have lo := W_o hW eps
        have hpa : PLA (pP a x y) pls (aS a) k = nI (enP (pP a x y) k) := PLA_at _ _ (by omega)
        have hma : MA a x y (q * 179) mem k (q * 179 + 3 + enP (pP a x y) k) = nI (aO a (enP (pP a x y) k)) := by
          rw [MA_no mem (fun j hj => by have := en_lt (P := pP a x y) (j := j) (k := k) (n := 24) (by omega) hj; omega)]
          exact h.2.1 _ eps
        rw [if_neg (nle hk (by omega)), chk_nI (by omega) (by decide), ix_nI (by omega)]
        simp only [hpa]
        rw [show (3 : Int32) = nI 3 from rfl, ofs, nI_add, chk_nI (by omega) (by decide), chk_nI (by omega) (by decide), ix_nI (by omega), r2 k hk]
        simp only [hma]
        rw [chk_nI (by omega) (by decide), chk_nI (by omega) (by decide), nI_1, flag0, flag1, Int32.add_zero, nI_1, MA_s, cnt_s]
        by_cases e : mO a x y (enP (pP a x y) k) = aO a (enP (pP a x y) k)
        · rw [if_pos (by rw [emv, e]), if_neg (by simp [e])]
        · rw [if_neg (by rw [nI_eq (by omega) (by omega), emv]; exact fun z => e z.symm), if_pos (by simp [e]), chk_nI (by omega) (by decide), chk_nI (by omega) (by decide)]
      · intro rc2
        show f_X7_mends_b167 _ _ _ _ _ _ _ _ _ _ = _
        unfold f_X7_mends_b167
        dsimp only
        rw [if_pos (yle _ (by omega))]
        congr 2
        unfold mvd
        rw [← cnt_en (pP a x y) (fun i => !decide (mO a x y i = aO a i)) 24, ← dN]
  · have hN : cnt (pP a x y) 24 = 0 := by
      rw [cnt_0]
      intro k _ z
      have := md_rng z
      omega
    refine ⟨pls, mvs, ?_⟩
    rw [if_neg (by rw [nI_leI (by omega) (by omega)]; exact hpl), mvd_low (by omega), hN]
    rfl
/-- nothing but one slice changes -/
def outq (q : Nat) (m0 m1 : Nat → Int32) : Prop := ∀ i, (i < q * 179 ∨ (q + 1) * 179 ≤ i) → m1 i = m0 i
theorem outq_refl (q : Nat) (m : Nat → Int32) : outq q m m := fun _ _ => rfl
theorem outq_trans {q : Nat} {m1 m2 m3 : Nat → Int32} (h : outq q m1 m2) (g : outq q m2 m3) : outq q m1 m3 := fun i hi => (g i hi).trans (h i hi)
theorem outq_0 {m0 m1 : Nat → Int32} (h : outq 0 m0 m1) : out m0 m1 := fun i hi => h i (.inr (by omega))
theorem MA_out {a : AN} (hW : WA a) {x y q : Nat} (hx : aAl a x = true) (hn : ¬ Rc (aNr a) y x) (m : Nat → Int32) {i : Nat} (hi : ¬ (q * 179 + 3 ≤ i ∧ i < q * 179 + 27)) : MA a x y (q * 179) m (cnt (pP a x y) 24) i = m i := by
  refine MA_no m (fun j hj e => hi ?_)
  have := (en_spec hj).1
  omega
theorem MN_come {mem : Nat → Int32} {q : Nat} {a : AN} (h : MN mem (q * 179) a) (hW : WA a) {x y : Nat} (hx : aAl a x = true) (hn : ¬ Rc (aNr a) y x) : MN (upd (MA a x y (q * 179) mem (cnt (pP a x y) 24)) (q * 179 + 107 + x) (bset (nrOn a x y x) 24)) (q * 179) (cmS a x y) := by
  have hs := hW.1
  have hc := hW.2.1
  have lx := W_lt hW hx
  refine ⟨fun u hu => ?_, fun p hp => ?_, fun u hu => ⟨?_, ?_⟩, fun i hi => ?_, fun i hi => ?_, ?_, ?_, ?_⟩
  · show _ = bset (nrOn a x y u) 24
    by_cases e : u = x
    · rw [e, updN]
    · rw [updO (by omega), MA_out hW hx hn mem (by omega), nrOn_o a y e]
      exact h.1 u hu
  · have hp' : p < aS a := hp
    show _ = nI (mO a x y p)
    rw [updO (by omega)]
    by_cases w : pP a x y p = true
    · have e := en_at w
      have := MA_yes (b := q * 179) mem (Nat.le_refl (cnt (pP a x y) 24)) (Nat.le_refl _) (cnt (pP a x y) p) (cnt_lt (md_24 hW hx w) w)
      rw [e] at this
      rw [this, mO_pP w]
    · rw [MA_no mem (fun j hj e => w ?_), mO_N w]
      · exact h.2.1 p hp'
      · have es := en_spec hj
        have : p = enP (pP a x y) j := by omega
        rw [this]
        exact es.2.1
  · rw [updO (by omega), MA_out hW hx hn mem (by omega)]
    exact (h.2.2.1 u hu).1
  · rw [updO (by omega), MA_out hW hx hn mem (by omega)]
    exact (h.2.2.1 u hu).2
  · have hi' : i < aC a := hi
    rw [updO (by omega), MA_out hW hx hn mem (by omega)]
    exact h.2.2.2.1 i hi
  · have hi' : i < aC a := hi
    rw [updO (by omega), MA_out hW hx hn mem (by omega)]
    exact h.2.2.2.2.1 i hi
  · rw [updO (by omega), MA_out hW hx hn mem (by omega)]
    exact h.2.2.2.2.2.1
  · rw [updO (by omega), MA_out hW hx hn mem (by omega)]
    exact h.2.2.2.2.2.2.1
  · rw [updO (by omega), MA_out hW hx hn mem (by omega)]
    exact h.2.2.2.2.2.2.2
/-- what a link that is asked for comes to: answer, and the net then -/
theorem m_comes {mem : Nat → Int32} {q : Nat} {a : AN} (h : MN mem (q * 179) a) (hq : q ≤ 12) (hW : WA a) {x y : Nat} (hx : aAl a x = true) (hy : aAl a y = true) (hne : x ≠ y) (pls mvs : Nat → Int32) : (aNr a x y = true → f_X7_comes mem pls mvs (nI q) (nI x) (nI y) = some (-2, mem, pls, mvs)) ∧ (aNr a x y = false → Rc (aNr a) y x → f_X7_comes mem pls mvs (nI q) (nI x) (nI y) = some (-4, mem, pls, mvs)) ∧ (aNr a x y = false → ¬ Rc (aNr a) y x → ∃ m1 pls' mvs', f_X7_comes mem pls mvs (nI q) (nI x) (nI y) = some (nI (mvd a x y 24), m1, pls', mvs') ∧ MN m1 (q * 179) (cmS a x y) ∧ outq q mem m1) := by
  have lx := W_lt hW hx
  have ly := W_lt hW hy
  refine ⟨fun hl => ?_, fun hl hr => ?_, fun hl hr => ?_⟩
  · unfold f_X7_comes
    rw [m_isLinked h hq lx ly, sbind, hl, if_neg (by decide)]
  · unfold f_X7_comes
    rw [m_isLinked h hq lx ly, sbind, hl, if_pos (by decide), m_above h hq hW lx, sbind, if_neg (by rw [bsP_has ly]; exact fun z => z hr)]
  · obtain ⟨pls', mvs', e⟩ := m_mends h hq hW hx hy hne hr pls mvs
    refine ⟨_, pls', mvs', ?_, MN_come h hW hx hr, ?_⟩
    · unfold f_X7_comes
      rw [m_isLinked h hq lx ly, sbind, hl, if_pos (by decide), m_above h hq hW lx, sbind, if_pos (by rw [bsP_has ly]; exact hr), e, sbind, show (107 : Int32) = nI 107 from rfl, ofs, nI_add, chk_nI (by omega) (by decide), chk_nI (by omega) (by decide), ix_nI (by omega)]
      dsimp only
      rw [MA_out hW hx hr mem (by omega), h.1 x lx, nrOn_s a x ly]
    · intro i hi
      rw [updO (by omega), MA_out hW hx hr mem (by omega)]
