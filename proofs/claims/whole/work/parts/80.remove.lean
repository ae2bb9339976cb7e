/-! PURE 80: remove, leaves -/
def cutR (m : Nat → Int32) (b : Nat) (a : AN) (t j : Nat) : Nat → Int32 := itr (fun i f => upd f (b + i) (bset (fun v => aNr a i v && !decide (v = t)) 24)) m j
theorem cutR_s (m : Nat → Int32) (b : Nat) (a : AN) (t j : Nat) : cutR m b a t (j + 1) = upd (cutR m b a t j) (b + j) (bset (fun v => aNr a j v && !decide (v = t)) 24) := rfl
theorem cutR_at (m : Nat → Int32) (b : Nat) (a : AN) (t j q : Nat) : cutR m b a t j q = if b ≤ q ∧ q < b + j then bset (fun v => aNr a (q - b) v && !decide (v = t)) 24 else m q := by
  induction j with
  | zero => rw [if_neg (by omega)]; rfl
  | succ j ih =>
    rw [cutR_s]
    by_cases e : q = b + j
    · rw [e, updN, if_pos (by omega), show b + j - b = j by omega]
    · rw [updO e, ih]
      by_cases h : b ≤ q ∧ q < b + j
      · rw [if_pos h, if_pos (by omega)]
      · rw [if_neg h, if_neg (by omega)]
theorem nr_lvt (a : AN) {t u : Nat} (h : u ≠ t) : aNr (lvS a t) u = fun v => aNr a u v && !decide (v = t) := by
  funext v
  show (aNr a u v && !decide (u = t) && !decide (v = t)) = _
  simp [h]
theorem nr_lv0 (a : AN) (t : Nat) : bset (aNr (lvS a t) t) 24 = 0 := by
  rw [bs0]
  intro k _ z
  exact (nr_lv.mp z).2.1 rfl
theorem m_leaves {m : Nat → Int32} {a : AN} (h : MN m 0 a) (hW : WA a) {t : Nat} (ht : aAl a t = true) : ∃ m', f_X7_leaves m (nI t) = some m' ∧ MN m' 0 (lvS a t) ∧ out m m' := by
  have hs := hW.1
  have hc := hW.2.1
  have lt := W_lt hW ht
  have sp := pcO_spec hW ht
  obtain ⟨m2, d2⟩ : ∃ m2, m2 = upd (cutR m 107 a t 24) (107 + t) 0 := ⟨_, rfl⟩
  have lo2 : ∀ q, ¬ (107 ≤ q ∧ q < 131) → m2 q = m q := by
    intro q hq
    rw [d2, updO (by omega), cutR_at, if_neg (by omega)]
  have nr2 : ∀ u, u < 24 → m2 (107 + u) = bset (aNr (lvS a t) u) 24 := by
    intro u hu
    rw [d2]
    by_cases e : u = t
    · rw [e, updN, nr_lv0]
    · rw [updO (by omega), cutR_at, if_pos (by omega), nr_lvt a e, show 107 + u - 107 = u by omega]
  have h2 : MN m2 0 (nrS a (aNr (lvS a t))) := MN_nr h hW _ (fun u hu => by rw [Nat.zero_add]; exact nr2 u hu) (fun i hi hn => by rw [Nat.zero_add]; exact lo2 i hn)
  have hW2 : WA (nrS a (aNr (lvS a t))) := WA_nr_sub hW (fun u v z => (nr_lv.mp z).1)
  have pl : f_X7_placeOf m2 0 (nI t) = some (nI (pcO a t)) := by
    have := m_placeOf (q := 0) (h2 : MN m2 (0 * 179) _) (by omega) hW2 (p := pcO a t) sp.1
    rw [show aO (nrS a (aNr (lvS a t))) (pcO a t) = t from sp.2] at this
    exact this
  obtain ⟨m3, d3'⟩ : ∃ m3, m3 = upd m2 1 (nI (aS a - 1)) := ⟨_, rfl⟩
  have e21 : m2 1 = nI (aS a) := (lo2 1 (by omega)).trans h.2.2.2.2.2.2.1
  have pd : ∀ j, f_X7_placed (shA m3 (3 + pcO a t) j) 0 = some (nI (aS a - 1)) := by
    intro j
    unfold f_X7_placed
    rw [show (0 : Int32) * 179 + 1 = nI 1 from rfl, chk_nI (by omega) (by decide), ix_nI (by omega)]
    unfold shA
    rw [if_neg (by omega), d3', updN]
  obtain ⟨m4, d4⟩ : ∃ m4, m4 = shA m3 (3 + pcO a t) (aS a - 1 - pcO a t) := ⟨_, rfl⟩
  have m40 : m4 0 = bset (aAl a) 24 := by
    rw [d4]
    unfold shA
    rw [if_neg (by omega), d3', updO (by omega), lo2 0 (by omega)]
    exact h.2.2.2.2.2.1
  refine ⟨upd (upd (upd m4 0 (bset (aAl a) 24 &&& (jshl 1 (nI t) ^^^ (-1)))) (131 + t) 0) (155 + t) 0, ?_, ?_, ?_⟩
  · unfold f_X7_leaves f_X7_leaves_l2
    refine loop_go (fun j => (nI j, cutR m 107 a t j)) 24 200 (by decide) rfl ?_ ?_
    · intro j hj rc
      show f_X7_leaves_b2 _ _ _ _ = _
      unfold f_X7_leaves_b2
      dsimp only
      rw [if_neg (n24 hj), show (107 : Int32) = nI 107 from rfl, nI_add, chk_nI (by omega) (by decide), chk_nI (by omega) (by decide), ix_nI (by omega), cutR_at m 107 a t j (107 + j), if_neg (by omega), show m (107 + j) = bset (aNr a j) 24 by rw [← h.1 j hj, Nat.zero_add], bset_off _ lt (by omega), nI_1, ← cutR_s]
    · intro rc
      show f_X7_leaves_b2 _ _ _ _ = _
      unfold f_X7_leaves_b2
      dsimp only
      rw [if_pos y24, show (107 : Int32) = nI 107 from rfl, nI_add, chk_nI (by omega) (by decide), ix_nI (by omega), ← d2, pl, sbind, show inb 1 2327 = true by decide, chk_true, chk_true, show ix (1 : Int32) = 1 from rfl, e21, show nI (aS a) - 1 = nI (aS a - 1) by rw [← nI_m1 (n := aS a - 1), show aS a - 1 + 1 = aS a by omega], ← d3']
      unfold f_X7_leaves_l60
      refine loop_go (fun j => (nI (pcO a t + j), shA m3 (3 + pcO a t) j)) (aS a - 1 - pcO a t) 200 (by omega) (by rw [shA_0]; rfl) ?_ ?_
      · intro j hj rc2
        show f_X7_leaves_b60 _ _ _ _ = _
        unfold f_X7_leaves_b60
        dsimp only
        rw [pd j, sbind, if_neg (nle (show pcO a t + j < aS a - 1 by omega) (by omega)), show (3 : Int32) = nI 3 from rfl, nI_add, nI_1, nI_1, chk_nI (by omega) (by decide), chk_nI (by omega) (by decide), ix_nI (by omega), ix_nI (by omega), show 3 + (pcO a t + j) = 3 + pcO a t + j by omega, shA_n, shA_s]
        rfl
      · intro rc2
        show f_X7_leaves_b60 _ _ _ _ = _
        unfold f_X7_leaves_b60
        dsimp only
        rw [pd _, sbind, show pcO a t + (aS a - 1 - pcO a t) = aS a - 1 by omega, if_pos (yle _ (by omega)), ← d4, show inb 0 2327 = true by decide, chk_true, chk_true, show (131 : Int32) = nI 131 from rfl, show (155 : Int32) = nI 155 from rfl, nI_add, nI_add, chk_nI (by omega) (by decide), chk_nI (by omega) (by decide), ix_nI (by omega), ix_nI (by omega), show ix (0 : Int32) = 0 from rfl, m40]
  · have hi : ∀ q, 27 ≤ q → m4 q = m2 q := by
      intro q hq
      rw [d4]
      unfold shA
      rw [if_neg (by omega), d3', updO (by omega)]
    refine ⟨fun u hu => ?_, fun p hp => ?_, fun u hu => ⟨?_, ?_⟩, fun i hi' => ?_, fun i hi' => ?_, ?_, ?_, ?_⟩
    · rw [updO (by omega), updO (by omega), updO (by omega), Nat.zero_add, hi _ (by omega), nr2 u hu]
    · have hp' : p < aS a - 1 := hp
      show _ = nI (aO (lvS a t) p)
      rw [updO (by omega), updO (by omega), updO (by omega), d4, o_lv]
      unfold shA
      by_cases e : p < pcO a t
      · rw [if_pos e, if_neg (by omega), d3', updO (by omega), lo2 _ (by omega)]
        exact h.2.1 p (by omega)
      · rw [if_neg e, if_pos (by omega), d3', updO (by omega), lo2 _ (by omega)]
        exact h.2.1 (p + 1) (by omega)
    · rw [updO (by omega)]
      by_cases e : u = t
      · rw [e, Nat.zero_add, updN]
        symm
        apply bt_ext
        intro k _
        rw [bt_bset _ (by omega), bt_0, show aIt (lvS a t) t k = false from Bool.eq_false_iff.mpr (fun z => (it_lv.mp z).2 rfl), Bool.and_false]
      · rw [updO (by omega), updO (by omega), hi _ (by omega), lo2 _ (by omega), (h.2.2.1 u hu).1]
        refine bset_congr 20 (fun k _ => ?_)
        show aIt a u k = (aIt a u k && !decide (u = t))
        simp [e]
    · by_cases e : u = t
      · rw [e, Nat.zero_add, updN]
        symm
        apply bt_ext
        intro k _
        rw [bt_bset _ (by omega), bt_0, show aIt (lvS a t) t (k + 20) = false from Bool.eq_false_iff.mpr (fun z => (it_lv.mp z).2 rfl), Bool.and_false]
      · rw [updO (by omega), updO (by omega), updO (by omega), hi _ (by omega), lo2 _ (by omega), (h.2.2.1 u hu).2]
        refine bset_congr 20 (fun k _ => ?_)
        show aIt a u (k + 20) = (aIt a u (k + 20) && !decide (u = t))
        simp [e]
    · have hi'' : i < aC a := hi'
      rw [updO (by omega), updO (by omega), updO (by omega), hi _ (by omega), lo2 _ (by omega)]
      exact h.2.2.2.1 i hi'
    · have hi'' : i < aC a := hi'
      rw [updO (by omega), updO (by omega), updO (by omega), hi _ (by omega), lo2 _ (by omega)]
      exact h.2.2.2.2.1 i hi'
    · rw [updO (by omega), updO (by omega), updN, bset_off _ lt (by omega)]
    · rw [updO (by omega), updO (by omega), updO (by omega), Nat.zero_add, d4]
      unfold shA
      rw [if_neg (by omega), d3', updN]
    · rw [updO (by omega), updO (by omega), updO (by omega), Nat.zero_add, d4]
      unfold shA
      rw [if_neg (by omega), d3', updO (by omega), lo2 _ (by omega)]
      exact h.2.2.2.2.2.2.2
  · intro q hq
    rw [updO (by omega), updO (by omega), updO (by omega), d4]
    unfold shA
    rw [if_neg (by omega), d3', updO (by omega), lo2 _ (by omega)]
/-- all labels of a term dropped, in the reference -/
theorem m_dropAll {m : Nat → Int32} {a : AN} (h : MN m 0 a) (hs : aS a ≤ 24) (hc : aC a ≤ 40) (hw24 : ∀ i, i < aC a → aOw a i < 24) {t : Nat} (lt : t < 24) (p2 : Int32) (pls mvs : Nat → Int32) : ∃ m', MN m' 0 (lab a (d3 t (aC a) (lbs a))) ∧ out m m' ∧ f_X7_goesOne_l38 (nI t) p2 (nI (aC a) - 1) m pls mvs = (f_X7_leaves m' (nI t)).bind (fun r8 => (f_X7_there r8 0).bind (fun r10 => (f_X7_sizeOf r10).bind (fun r12 => some (r12, r8, pls, mvs)))) := by
  unfold f_X7_goesOne_l38
  obtain ⟨r, ⟨h1, h2⟩, h3⟩ := loop_rel (body := fun (_ : Unit) rc (v : Int32 × (Nat → Int32) × (Nat → Int32) × (Nat → Int32)) => f_X7_goesOne_b38 (nI t) p2 (fun x0_ x1_ x2_ x3_ => rc (x0_, x1_, x2_, x3_)) v.1 v.2.1 v.2.2.1 v.2.2.2) (fun _ (m' : Nat → Int32) => (f_X7_leaves m' (nI t)).bind (fun r8 => (f_X7_there r8 0).bind (fun r10 => (f_X7_sizeOf r10).bind (fun r12 => some (r12, r8, pls, mvs))))) (fun m' => MN m' 0 (lab a (d3 t (aC a) (lbs a))) ∧ out m m') (aC a) 200 (fun j w => ∃ m' L, w = (nI (aC a - j) - 1, m', pls, mvs) ∧ d3 t (aC a - j) L = d3 t (aC a) (lbs a) ∧ MN m' 0 (lab a L) ∧ out m m' ∧ aC a - j ≤ L.1 ∧ L.1 ≤ 40 ∧ ∀ i, i < L.1 → L.2.2 i < 24) (by omega) (by
    rintro j w hj ⟨m', L, rfl, i1, i2, i3, i4, i5, i6⟩
    by_cases e : j = aC a
    · left
      refine ⟨m', ⟨?_, i3⟩, ?_⟩
      · rw [e, Nat.sub_self] at i1
        rw [← i1]
        exact i2
      · intro k rc
        show f_X7_goesOne_b38 _ _ _ _ _ _ _ = _
        unfold f_X7_goesOne_b38
        dsimp only
        rw [e, Nat.sub_self, if_pos nI_m0]
    · right
      refine ⟨by omega, ?_⟩
      obtain ⟨k, hk⟩ : ∃ k, aC a - j = k + 1 := ⟨aC a - j - 1, by omega⟩
      have hk2 : aC a - (j + 1) = k := by omega
      rw [hk] at i1 i4
      have ek : m' (27 + k) = nI (L.2.2 k) := by
        rw [← i2.2.2.2.2.1 k (show k < L.1 by omega), Nat.zero_add]
      have b24 := i6 k (by omega)
      by_cases q : L.2.2 k = t
      · obtain ⟨m2, q1, q2, q3⟩ := m_dropsLabel i2 hs i5 (i := k) (show k < L.1 by omega)
        refine ⟨(nI k - 1, m2, pls, mvs), ⟨m2, dl L k, by rw [hk2], ?_, q2, out_trans i3 q3, ?_, ?_, ?_⟩, ?_⟩
        · rw [hk2, ← i1]
          show d3 t k (dl L k) = d3 t k (if L.2.2 k = t then dl L k else L)
          rw [if_pos q]
        · rw [hk2]
          show k ≤ L.1 - 1
          omega
        · show L.1 - 1 ≤ 40
          omega
        · intro i hi
          have hi' : i < L.1 - 1 := hi
          show (if i < k then L.2.2 i else L.2.2 (i + 1)) < 24
          by_cases z : i < k
          · rw [if_pos z]; exact i6 i (by omega)
          · rw [if_neg z]; exact i6 (i + 1) (by omega)
        · intro k' rc
          show f_X7_goesOne_b38 _ _ _ _ _ _ _ = _
          unfold f_X7_goesOne_b38
          dsimp only
          rw [hk, nI_m1, if_neg (neg_lt (by omega)), show (27 : Int32) = nI 27 from rfl, nI_add, chk_nI (by omega) (by decide), ix_nI (by omega)]
          simp only [ek]
          rw [if_pos (by rw [q]), q1, sbind, nI_p1]
      · refine ⟨(nI k - 1, m', pls, mvs), ⟨m', L, by rw [hk2], ?_, i2, i3, by omega, i5, i6⟩, ?_⟩
        · rw [hk2, ← i1]
          show d3 t k L = d3 t k (if L.2.2 k = t then dl L k else L)
          rw [if_neg q]
        · intro k' rc
          show f_X7_goesOne_b38 _ _ _ _ _ _ _ = _
          unfold f_X7_goesOne_b38
          dsimp only
          rw [hk, nI_m1, if_neg (neg_lt (by omega)), show (27 : Int32) = nI 27 from rfl, nI_add, chk_nI (by omega) (by decide), ix_nI (by omega)]
          simp only [ek]
          rw [if_neg (by rw [nI_eq (by omega) (by omega)]; exact q), nI_p1]) (nI (aC a) - 1, m, pls, mvs) ⟨m, lbs a, rfl, rfl, h, out_refl _, Nat.le_refl _, hc, hw24⟩
  exact ⟨r, h1, h2, h3 ()⟩
theorem shA_self (f : Nat → Int32) (k : Nat) : upd f k (f k) = f := by
  funext q
  unfold upd
  by_cases e : q = k
  · rw [if_pos e, e]
  · rw [if_neg e]
theorem c_remove {n : ND} {a : AN} (h : CN n a) (hW : WA a) {t : Nat} (ht : aAl a t = true) : ∃ nr ord it nm ow all sz cn, f_X2_remove n.1 n.2.1 n.2.2.1 n.2.2.2.1 n.2.2.2.2.1 n.2.2.2.2.2.2.1 n.2.2.2.2.2.2.2.1 n.2.2.2.2.2.2.2.2 (nI t) = some (nr, ord, it, nm, ow, all, sz, cn) ∧ ∀ mov, CN (nr, ord, it, nm, ow, mov, all, sz, cn) (lab (lvS a t) (d3 t (aC a) (lbs a))) := by
  have hs := hW.1
  have hc := hW.2.1
  have lt := W_lt hW ht
  have sp := pcO_spec hW ht
  have ho : ∀ p, p < aS a → (n.2.1 p = nI t ↔ p = pcO a t) := by
    intro p hp
    have := W_o hW hp
    rw [h.2.1 p hp, nI_eq (by omega) (by omega)]
    constructor
    · intro z
      rw [← z, pcO_at hW hp]
    · intro z
      rw [z]
      exact sp.2
  obtain ⟨nr, dnr⟩ : ∃ nr, nr = upd (cutR n.1 0 a t 24) t 0 := ⟨_, rfl⟩
  have hnr : ∀ u, u < 24 → nr u = bset (aNr (lvS a t) u) 24 := by
    intro u hu
    rw [dnr]
    by_cases e : u = t
    · rw [e, updN, nr_lv0]
    · rw [updO e, cutR_at, if_pos (by omega), nr_lvt a e, Nat.sub_zero]
  obtain ⟨it, dit⟩ : ∃ it, it = vp_updL n.2.2.1 t 0 := ⟨_, rfl⟩
  have hit : ∀ u, u < 24 → it u = lset (aIt (lvS a t) u) 40 := by
    intro u hu
    rw [dit]
    by_cases e : u = t
    · rw [e, vpN]
      symm
      apply bl_ext
      intro k _
      rw [bl_lset _ (by omega), show aIt (lvS a t) t k = false from Bool.eq_false_iff.mpr (fun z => (it_lv.mp z).2 rfl), Bool.and_false]
      show false = (0#64).getLsbD k
      simp
    · rw [vpO e, h.2.2.1 u hu]
      congr 1
      funext k
      show aIt a u k = (aIt a u k && !decide (u = t))
      simp [e]
  obtain ⟨ord, dord⟩ : ∃ ord, ord = shA n.2.1 (pcO a t) (aS a - 1 - pcO a t) := ⟨_, rfl⟩
  have hord : ∀ p, p < aS a - 1 → ord p = nI (aO (lvS a t) p) := by
    intro p hp
    rw [dord, o_lv]
    unfold shA
    by_cases e : p < pcO a t
    · rw [if_pos e, if_neg (by omega)]; exact h.2.1 p (by omega)
    · rw [if_neg e, if_pos (by omega)]; exact h.2.1 (p + 1) (by omega)
  have base : ∀ (nm ow : Nat → Int32) (L : Lb) (mov : Nat → Int32), (∀ i, i < L.1 → nm i = L.2.1 i) → (∀ i, i < L.1 → ow i = nI (L.2.2 i)) → CN (nr, ord, it, nm, ow, mov, bset (aAl a) 24 &&& (jshl 1 (nI t) ^^^ (-1)), nI (aS a - 1), nI L.1) (lab (lvS a t) L) := by
    intro nm ow L mov h1 h2
    exact ⟨hnr, hord, hit, h1, h2, bset_off _ lt (by omega), rfl, rfl⟩
  -- the labels
  have l111 : ∃ nm ow, f_X2_remove_l111 (nI t) (nI (aC a) - 1) nr ord it n.2.2.2.1 n.2.2.2.2.1 (bset (aAl a) 24 &&& (jshl 1 (nI t) ^^^ (-1))) (nI (aS a - 1)) (nI (aC a)) = some (nr, ord, it, nm, ow, bset (aAl a) 24 &&& (jshl 1 (nI t) ^^^ (-1)), nI (aS a - 1), nI (d3 t (aC a) (lbs a)).1) ∧ (∀ i, i < (d3 t (aC a) (lbs a)).1 → nm i = (d3 t (aC a) (lbs a)).2.1 i) ∧ (∀ i, i < (d3 t (aC a) (lbs a)).1 → ow i = nI ((d3 t (aC a) (lbs a)).2.2 i)) := by
    unfold f_X2_remove_l111
    obtain ⟨r, ⟨h1, h2⟩, h3⟩ := loop_rel (body := fun (_ : Unit) rc (v : Int32 × (Nat → Int32) × (Nat → Int32) × (Nat → Int64) × (Nat → Int32) × (Nat → Int32) × Int32 × Int32 × Int32) => f_X2_remove_b111 (nI t) (fun x0_ x1_ x2_ x3_ x4_ x5_ x6_ x7_ x8_ => rc (x0_, x1_, x2_, x3_, x4_, x5_, x6_, x7_, x8_)) v.1 v.2.1 v.2.2.1 v.2.2.2.1 v.2.2.2.2.1 v.2.2.2.2.2.1 v.2.2.2.2.2.2.1 v.2.2.2.2.2.2.2.1 v.2.2.2.2.2.2.2.2) (fun _ (r : (Nat → Int32) × (Nat → Int32)) => some (nr, ord, it, r.1, r.2, bset (aAl a) 24 &&& (jshl 1 (nI t) ^^^ (-1)), nI (aS a - 1), nI (d3 t (aC a) (lbs a)).1)) (fun r => (∀ i, i < (d3 t (aC a) (lbs a)).1 → r.1 i = (d3 t (aC a) (lbs a)).2.1 i) ∧ (∀ i, i < (d3 t (aC a) (lbs a)).1 → r.2 i = nI ((d3 t (aC a) (lbs a)).2.2 i))) (aC a) 200 (fun j w => ∃ nm ow L, w = (nI (aC a - j) - 1, nr, ord, it, nm, ow, bset (aAl a) 24 &&& (jshl 1 (nI t) ^^^ (-1)), nI (aS a - 1), nI L.1) ∧ d3 t (aC a - j) L = d3 t (aC a) (lbs a) ∧ (∀ i, i < L.1 → nm i = L.2.1 i) ∧ (∀ i, i < L.1 → ow i = nI (L.2.2 i)) ∧ aC a - j ≤ L.1 ∧ L.1 ≤ 40 ∧ ∀ i, i < L.1 → L.2.2 i < 24) (by omega) (by
      rintro j w hj ⟨nm, ow, L, rfl, i1, i2, i3, i4, i5, i6⟩
      by_cases e : j = aC a
      · left
        rw [e, Nat.sub_self] at i1
        have i1' : L = d3 t (aC a) (lbs a) := i1
        refine ⟨(nm, ow), ⟨by rw [← i1']; exact i2, by rw [← i1']; exact i3⟩, ?_⟩
        intro k rc
        show f_X2_remove_b111 _ _ _ _ _ _ _ _ _ _ _ = _
        unfold f_X2_remove_b111
        dsimp only
        rw [e, Nat.sub_self, if_pos nI_m0, i1']
      · right
        refine ⟨by omega, ?_⟩
        obtain ⟨k, hk⟩ : ∃ k, aC a - j = k + 1 := ⟨aC a - j - 1, by omega⟩
        have hk2 : aC a - (j + 1) = k := by omega
        rw [hk] at i1 i4
        have ek : ow k = nI (L.2.2 k) := i3 k (by omega)
        have b24 := i6 k (by omega)
        by_cases q : L.2.2 k = t
        · refine ⟨_, ⟨shA nm k (L.1 - 1 - k), shA ow k (L.1 - 1 - k), dl L k, rfl, ?_, ?_, ?_, ?_, ?_, ?_⟩, ?_⟩
          · rw [hk2, ← i1]
            show d3 t k (dl L k) = d3 t k (if L.2.2 k = t then dl L k else L)
            rw [if_pos q]
          · intro i hi
            have hi' : i < L.1 - 1 := hi
            show shA nm k (L.1 - 1 - k) i = if i < k then L.2.1 i else L.2.1 (i + 1)
            unfold shA
            by_cases z : i < k
            · rw [if_pos z, if_neg (by omega)]; exact i2 i (by omega)
            · rw [if_neg z, if_pos (by omega)]; exact i2 (i + 1) (by omega)
          · intro i hi
            have hi' : i < L.1 - 1 := hi
            show shA ow k (L.1 - 1 - k) i = nI (if i < k then L.2.2 i else L.2.2 (i + 1))
            unfold shA
            by_cases z : i < k
            · rw [if_pos z, if_neg (by omega)]; exact i3 i (by omega)
            · rw [if_neg z, if_pos (by omega)]; exact i3 (i + 1) (by omega)
          · rw [hk2]
            show k ≤ L.1 - 1
            omega
          · show L.1 - 1 ≤ 40
            omega
          · intro i hi
            have hi' : i < L.1 - 1 := hi
            show (if i < k then L.2.2 i else L.2.2 (i + 1)) < 24
            by_cases z : i < k
            · rw [if_pos z]; exact i6 i (by omega)
            · rw [if_neg z]; exact i6 (i + 1) (by omega)
          · intro k' rc
            show f_X2_remove_b111 _ _ _ _ _ _ _ _ _ _ _ = _
            unfold f_X2_remove_b111
            dsimp only
            rw [hk, nI_m1, if_neg (neg_lt (by omega)), chk_nI (by omega) (by decide), ix_nI (by omega)]
            simp only [ek]
            rw [if_pos (by rw [q]), c_removeName nm ow (show k < L.1 by omega) i5, sbind, nI_p1, hk2]
            rfl
        · refine ⟨_, ⟨nm, ow, L, rfl, ?_, i2, i3, by omega, i5, i6⟩, ?_⟩
          · rw [hk2, ← i1]
            show d3 t k L = d3 t k (if L.2.2 k = t then dl L k else L)
            rw [if_neg q]
          · intro k' rc
            show f_X2_remove_b111 _ _ _ _ _ _ _ _ _ _ _ = _
            unfold f_X2_remove_b111
            dsimp only
            rw [hk, nI_m1, if_neg (neg_lt (by omega)), chk_nI (by omega) (by decide), ix_nI (by omega)]
            simp only [ek]
            rw [if_neg (by rw [nI_eq (by omega) (by omega)]; exact q), nI_p1, hk2]) (nI (aC a) - 1, nr, ord, it, n.2.2.2.1, n.2.2.2.2.1, bset (aAl a) 24 &&& (jshl 1 (nI t) ^^^ (-1)), nI (aS a - 1), nI (aC a)) ⟨n.2.2.2.1, n.2.2.2.2.1, lbs a, rfl, rfl, h.2.2.2.1, h.2.2.2.2.1, Nat.le_refl _, hc, fun i hi => W_lt hW (hW.2.2.2.2.2.2.2.2.1 i hi)⟩
    exact ⟨r.1, r.2, h3 (), h1, h2⟩
  obtain ⟨nm, ow, e111, hnm, how⟩ := l111
  refine ⟨nr, ord, it, nm, ow, _, _, _, ?_, fun mov => base nm ow _ mov hnm how⟩
  rw [h.2.2.2.2.2.1, h.2.2.2.2.2.2.1, h.2.2.2.2.2.2.2]
  unfold f_X2_remove f_X2_remove_l2
  refine loop_go (fun j => (nI j, cutR n.1 0 a t j)) 24 200 (by decide) rfl ?_ ?_
  · intro j hj rc
    show f_X2_remove_b2 _ _ _ _ _ _ _ _ _ _ _ = _
    unfold f_X2_remove_b2
    dsimp only
    rw [if_neg (n24 hj), chk_nI hj (by decide), chk_nI hj (by decide), ix_nI (by omega), cutR_at n.1 0 a t j j, if_neg (by omega), h.1 j hj, bset_off _ lt (by omega), nI_1, cutR_s, Nat.zero_add]
  · intro rc
    show f_X2_remove_b2 _ _ _ _ _ _ _ _ _ _ _ = _
    unfold f_X2_remove_b2
    dsimp only
    rw [if_pos y24, chk_nI lt (by decide), chk_nI lt (by decide), ix_nI (by omega), ← dnr, ← dit]
    unfold f_X2_remove_l60
    refine loop_go (fun p => (nI (if p ≤ pcO a t then p else p - 1), nI p, nr, shA n.2.1 (pcO a t) (p - 1 - pcO a t), it, bset (aAl a) 24 &&& (jshl 1 (nI t) ^^^ (-1)))) (aS a) 200 (by omega) ?_ ?_ ?_
    · rw [if_pos (Nat.zero_le _), show 0 - 1 - pcO a t = 0 by omega, shA_0]
      rfl
    · intro p hp rc2
      show f_X2_remove_b60 _ _ _ _ _ _ _ _ _ _ _ _ = _
      unfold f_X2_remove_b60
      dsimp only
      have op : shA n.2.1 (pcO a t) (p - 1 - pcO a t) p = n.2.1 p := by
        unfold shA
        rw [if_neg (by omega)]
      rw [if_neg (nle hp (by omega)), chk_nI (by omega) (by decide), ix_nI (by omega)]
      simp only [op]
      by_cases e : p = pcO a t
      · rw [if_pos ((ho p hp).mpr e), if_pos (show p ≤ pcO a t by omega), if_neg (show ¬ p + 1 ≤ pcO a t by omega), nI_1, show p + 1 - 1 - pcO a t = p - 1 - pcO a t by omega, show p + 1 - 1 = p by omega]
      · rw [if_neg (fun z => e ((ho p hp).mp z)), chk_nI (by omega) (by decide)]
        by_cases c : p < pcO a t
        · rw [if_pos (show p ≤ pcO a t by omega), if_pos (show p + 1 ≤ pcO a t by omega), chk_nI (by omega) (by decide), ix_nI (by omega), nI_1, show p - 1 - pcO a t = 0 by omega, show p + 1 - 1 - pcO a t = 0 by omega, shA_0, shA_self]
        · obtain ⟨k, hk⟩ : ∃ k, p = pcO a t + k + 1 := ⟨p - pcO a t - 1, by omega⟩
          rw [if_neg (show ¬ p ≤ pcO a t by omega), if_neg (show ¬ p + 1 ≤ pcO a t by omega), chk_nI (by omega) (by decide), ix_nI (by omega), nI_1, nI_1, show p - 1 - pcO a t = k by omega, show p + 1 - 1 - pcO a t = k + 1 by omega, show p - 1 = pcO a t + k by omega, show p + 1 - 1 = pcO a t + k + 1 by omega, show n.2.1 p = n.2.1 (pcO a t + k + 1) by rw [hk], shA_s]
    · intro rc2
      show f_X2_remove_b60 _ _ _ _ _ _ _ _ _ _ _ _ = _
      unfold f_X2_remove_b60
      dsimp only
      rw [if_pos (yle _ (by omega)), if_neg (show ¬ aS a ≤ pcO a t by omega), ← dord]
      exact e111
