/-! PURE 56: kin, between, meets, apart, tops -/
theorem Rw1 (f g : Nat → Int64) (v : Int64) : RwI (vp_updL f 0 v) (nI 1) (nI 1) (vp_updL g 0 v) := by
  refine ⟨1, by omega, rfl, rfl, fun i hi => ?_⟩
  have : i = 0 := by omega
  subst this
  unfold vp_updL
  rw [if_pos rfl, if_pos rfl]
theorem Rw2 (f g : Nat → Int64) (v w : Int64) : RwI (vp_updL (vp_updL f 0 v) 1 w) (nI 2) (nI 2) (vp_updL (vp_updL g 0 v) 1 w) := by
  refine ⟨2, by omega, rfl, rfl, fun i hi => ?_⟩
  unfold vp_updL
  by_cases h : i = 1
  · rw [if_pos h, if_pos h]
  · rw [if_neg h, if_neg h]
    have : i = 0 := by omega
    rw [if_pos this, if_pos this]
theorem m_tell {f : Nat → Int64} (v : Int64) : f_X7_enters 0 f v = some (nI 1, vp_updL f 0 v) := m_enters (r := 0) (by decide) v
def two (a : AN) (x y : Int32) : Prop := ∃ s t, x = nI s ∧ y = nI t ∧ aAl a s = true ∧ aAl a t = true ∧ s ≠ t
theorem c_pair1 {a : AN} (hw : WA a) {s t : Nat} (h1 : aAl a s = true) (h2 : aAl a t = true) (h3 : s ≠ t) : f_X2_hasPair (bset (aAl a) 24) (nI s) (nI t) = 1 := by
  have l1 := W_lt hw h1
  have l2 := W_lt hw h2
  unfold f_X2_hasPair
  rw [c_has1 l1 h1, c_has1 l2 h2, if_neg (by decide), if_neg (by decide), if_neg (by rw [nI_eq (by omega) (by omega)]; exact h3)]
theorem c_pair0 {a : AN} {x y : Int32} (h : ¬ two a x y) : f_X2_hasPair (bset (aAl a) 24) x y = 0 := by
  unfold f_X2_hasPair
  by_cases hx : isT a x
  · by_cases hy : isT a y
    · obtain ⟨s, rfl, ls, hs⟩ := hx
      obtain ⟨t, rfl, lt, ht⟩ := hy
      rw [c_has1 ls hs, c_has1 lt ht, if_neg (by decide), if_neg (by decide), if_pos]
      exact Classical.byContradiction fun z => h ⟨s, t, rfl, rfl, hs, ht, fun e => z (by rw [e])⟩
    · obtain ⟨s, rfl, ls, hs⟩ := hx
      rw [c_has1 ls hs, c_has0 hy, if_neg (by decide), if_pos rfl]
  · rw [c_has0 hx, if_pos rfl]
theorem m_isTerm1 {mem : Nat → Int32} {a : AN} (h : MN mem 0 a) {t : Nat} (ht : t < 24) (hx : aAl a t = true) : f_X7_isTerm mem (nI t) = some 1 := by
  rw [m_isTerm_eq]
  exact m_isIn1 (q := 0) h (by decide) ht hx
theorem m_isTerm0 {mem : Nat → Int32} {a : AN} (h : MN mem 0 a) {x : Int32} (hx : ¬ isT a x) : f_X7_isTerm mem x = some 0 := by
  rw [m_isTerm_eq]
  exact m_isIn0 (q := 0) h (by decide) hx
theorem m_two1 {mem : Nat → Int32} {a : AN} (h : MN mem 0 a) (hw : WA a) {s t : Nat} (h1 : aAl a s = true) (h2 : aAl a t = true) (h3 : s ≠ t) : f_X7_areTwo mem (nI s) (nI t) = some 1 := by
  have l1 := W_lt hw h1
  have l2 := W_lt hw h2
  unfold f_X7_areTwo
  rw [m_isTerm1 h l1 h1, m_isTerm1 h l2 h2, sbind, if_neg (by decide), sbind, if_neg (by decide), if_neg (by rw [nI_eq (by omega) (by omega)]; exact h3)]
theorem m_two0 {mem : Nat → Int32} {a : AN} (h : MN mem 0 a) {x y : Int32} (hn : ¬ two a x y) : f_X7_areTwo mem x y = some 0 := by
  unfold f_X7_areTwo
  by_cases hx : isT a x
  · by_cases hy : isT a y
    · obtain ⟨s, rfl, ls, hs⟩ := hx
      obtain ⟨t, rfl, lt, ht⟩ := hy
      rw [m_isTerm1 h ls hs, m_isTerm1 h lt ht, sbind, if_neg (by decide), sbind, if_neg (by decide), if_pos]
      exact Classical.byContradiction fun z => hn ⟨s, t, rfl, rfl, hs, ht, fun e => z (by rw [e])⟩
    · obtain ⟨s, rfl, ls, hs⟩ := hx
      rw [m_isTerm1 h ls hs, m_isTerm0 h hy, sbind, if_neg (by decide), sbind, if_pos rfl]
  · rw [m_isTerm0 h hx, sbind, if_pos rfl]
theorem bset_congr {P Q : Nat → Bool} : ∀ n, (∀ k, k < n → P k = Q k) → bset P n = bset Q n := by
  intro n
  induction n with
  | zero => intro _; rfl
  | succ n ih =>
    intro h
    show (if P n then bset P n ||| jshl 1 (nI n) else bset P n) = (if Q n then bset Q n ||| jshl 1 (nI n) else bset Q n)
    rw [ih (fun k hk => h k (by omega)), h n (by omega)]
theorem bset_s (P : Nat → Bool) (n : Nat) : bset P (n + 1) = if P n then bset P n ||| jshl 1 (nI n) else bset P n := rfl
theorem c_broader {n : ND} {a : AN} (h : CN n a) {t : Nat} (ht : t < 24) : f_X2_broaderOf n.1 (nI t) = some (bset (fun s => aNr a s t) 24) := by
  rw [c_broaderOf _ (by omega)]
  congr 1
  refine bset_congr 24 (fun k hk => ?_)
  rw [h.1 k hk, bt24 _ ht]
theorem Mb {mem : Nat → Int32} {a : AN} (h : MN mem 0 a) (hw : WA a) {t : Nat} (ht : t < 24) : f_X7_below mem 0 (nI t) = some (bsP (Rc (aNr a) t)) := m_below (q := 0) (h : MN mem (0 * 179) a) (by decide) hw ht
theorem Ma {mem : Nat → Int32} {a : AN} (h : MN mem 0 a) (hw : WA a) {t : Nat} (ht : t < 24) : f_X7_above mem 0 (nI t) = some (bsP (fun u => Rc (aNr a) u t)) := m_above (q := 0) (h : MN mem (0 * 179) a) (by decide) hw ht
theorem Mn {mem : Nat → Int32} {a : AN} (h : MN mem 0 a) {t : Nat} (ht : t < 24) : f_X7_narrower mem 0 (nI t) = some (bset (aNr a t) 24) := m_narrower (q := 0) (h : MN mem (0 * 179) a) (by decide) ht
theorem Mbr {mem : Nat → Int32} {a : AN} (h : MN mem 0 a) (hw : WA a) {t : Nat} (ht : t < 24) : f_X7_broader mem 0 (nI t) = some (bset (fun s => aNr a s t) 24) := m_broader (q := 0) (h : MN mem (0 * 179) a) (by decide) hw ht
theorem inv_12 (x_words : Nat → Int32) (x_wordCount : Int32) (x_size : Int32) (x_signs : Nat → Int32) (x_next : Int32) (g_longest : Nat → Int32) (g_many : Nat → Int64) (g_layers : Nat → Int32) (g_length : Int32) (g_aheadOf : Nat → Int32) (g_cameFrom : Nat → Int32) (g_queue : Nat → Int32) (r_numbers : Nat → Int64) (r_size : Int32) (p_size : Int32) (t_filled : Nat → Int32) (nd : Nat → ND) (m_thrown : Int32) (m_told : Int32) (m_row : Nat → Int64) (m_tape : Nat → Int32) (m_taped : Int32) (m_at : Int32) (m_to : Int32) (m_mem : Nat → Int32) (m_undos : Int32) (m_places : Nat → Int32) (m_movers : Nat → Int32) (m_far : Nat → Int32) (m_way : Nat → Int32) (m_wayMany : Int32) (m_fromOf : Nat → Int32) (m_toOf : Nat → Int32) (m_longest : Nat → Int32) (m_wayCount : Nat → Int64) (m_thin : Nat → Int32) (m_ahead : Nat → Int32) (m_tried : Int32) (m_foundLow : Int32) (m_foundHigh : Int32) (m_nextLow : Int32) (m_nextHigh : Int32) (m_act : Nat → Int32) (m_first : Nat → Int32) (m_second : Nat → Int32) (m_random : Int32) (m_isKept : Nat → Int32) (x y : Int32) (h : Inv x_words x_wordCount x_size x_signs x_next g_longest g_many g_layers g_length g_aheadOf g_cameFrom g_queue r_numbers r_size p_size t_filled nd m_thrown m_told m_row m_tape m_taped m_at m_to m_mem m_undos m_places m_movers m_far m_way m_wayMany m_fromOf m_toOf m_longest m_wayCount m_thin m_ahead m_tried m_foundLow m_foundHigh m_nextLow m_nextHigh m_act m_first m_second m_random m_isKept) : S_12 Inv x_words x_wordCount x_size x_signs x_next g_longest g_many g_layers g_length g_aheadOf g_cameFrom g_queue r_numbers r_size p_size t_filled nd m_thrown m_told m_row m_tape m_taped m_at m_to m_mem m_undos m_places m_movers m_far m_way m_wayMany m_fromOf m_toOf m_longest m_wayCount m_thin m_ahead m_tried m_foundLow m_foundHigh m_nextLow m_nextHigh m_act m_first m_second m_random m_isKept x y := by
  obtain ⟨⟨a, hC, hM, hW⟩, hP, hK, hR, hT⟩ := h
  unfold S_12
  rw [hC.2.2.2.2.2.1, hC.2.2.2.2.2.2.1]
  have no : (¬ isT a x ∨ y < 0 ∨ 3 < y) → ∃ rC : Int32 × (Nat → Int64) × Int32, f_X6_kin ((nd 0).1) ((nd 0).2.1) (bset (aAl a) 24) (nI (aS a)) r_numbers r_size x y = some rC ∧ rC = (-1, r_numbers, r_size) ∧ f_X7_kin m_thrown m_told m_row m_mem x y = some (-1, 0, m_told, m_row) := by
    intro hn
    refine ⟨_, ?_, rfl, ?_⟩
    · unfold f_X6_kin
      by_cases hx : isT a x
      · obtain ⟨t, rfl, lt, ht⟩ := hx
        rw [c_has1 lt ht, if_neg (by decide)]
        by_cases h0 : y < 0
        · rw [if_pos h0]
        · have h3 : 3 < y := by
            rcases hn with z | z | z
            · exact absurd ⟨t, rfl, lt, ht⟩ z
            · exact absurd z h0
            · exact z
          rw [if_neg h0, if_neg (fun z => i_nlt.mpr z h3)]
      · rw [c_has0 hx, if_pos rfl]
    · unfold f_X7_kin
      by_cases hx : isT a x
      · obtain ⟨t, rfl, lt, ht⟩ := hx
        rw [m_isTerm1 hM lt ht, sbind, if_neg (by decide), if_pos]
        rw [show (3 : Int64) = (3 : Int32).toInt64 from rfl, in32]
        rcases hn with z | z
        · exact absurd ⟨t, rfl, lt, ht⟩ z
        · exact z
      · rw [m_isTerm0 hM hx, sbind, if_pos rfl]
  by_cases hn : ¬ isT a x ∨ y < 0 ∨ 3 < y
  · obtain ⟨rC, e1, e2, e3⟩ := no hn
    subst e2
    exact ⟨_, e1, _, e3, rfl, ⟨a, hC, hM, hW⟩, hP, hK, hR, hT⟩
  · have hx : isT a x := Classical.byContradiction fun z => hn (.inl z)
    have h0 : ¬ y < 0 := fun z => hn (.inr (.inl z))
    have h3 : y ≤ 3 := i_nlt.mp (fun z => hn (.inr (.inr z)))
    obtain ⟨t, rfl, lt, ht⟩ := hx
    have fin : ∀ S, f_X6_kinOf ((nd 0).1) ((nd 0).2.1) (nI (aS a)) (nI t) y = some S → f_X7_kin m_thrown m_told m_row m_mem (nI t) y = f_X7_kin_b74 m_told m_row m_mem (nI t) y S 0 → ∃ rC : Int32 × (Nat → Int64) × Int32, f_X6_kin ((nd 0).1) ((nd 0).2.1) (bset (aAl a) 24) (nI (aS a)) r_numbers r_size (nI t) y = some rC ∧ ∃ rM : Int32 × Int32 × Int32 × (Nat → Int64), f_X7_kin m_thrown m_told m_row m_mem (nI t) y = some rM ∧ rC.1 = rM.1 ∧ RwI rC.2.1 rC.2.2 rM.2.2.1 rM.2.2.2 := by
      intro S e1 e2
      refine ⟨(S, vp_updL r_numbers 0 (nI (npc (tn S))).toInt64, nI 1), ?_, (S, 0, nI 1, vp_updL m_row 0 (nI (npc (tn S))).toInt64), ?_, rfl, Rw1 _ _ _⟩
      · unfold f_X6_kin
        rw [c_has1 lt ht, if_neg (by decide), if_neg h0, if_pos h3, e1, sbind, c_bitCount, c_tell, sbind]
      · rw [e2]
        unfold f_X7_kin_b74
        rw [m_sizeOf, sbind, m_tell, sbind]
    have g : ∃ S, f_X6_kinOf ((nd 0).1) ((nd 0).2.1) (nI (aS a)) (nI t) y = some S ∧ f_X7_kin m_thrown m_told m_row m_mem (nI t) y = f_X7_kin_b74 m_told m_row m_mem (nI t) y S 0 := by
      have k2 : f_X7_kin m_thrown m_told m_row m_mem (nI t) y = if y = 0 then f_X7_kin_b74 m_told m_row m_mem (nI t) y (bset (aNr a t) 24) 0 else if y = 1 then f_X7_kin_b74 m_told m_row m_mem (nI t) y (bset (fun s => aNr a s t) 24) 0 else if y = 2 then f_X7_kin_b74 m_told m_row m_mem (nI t) y (bsP (Rc (aNr a) t)) 0 else f_X7_kin_b74 m_told m_row m_mem (nI t) y (bsP (fun u => Rc (aNr a) u t)) 0 := by
        unfold f_X7_kin
        rw [m_isTerm1 hM lt ht, sbind, if_neg (show ¬ (1 : Int32) = 0 by decide), if_neg (show ¬ f_X7_in y.toInt64 0 3 = 0 by rw [show (3 : Int64) = (3 : Int32).toInt64 from rfl, in32]; exact fun z => hn (.inr z)), Mn hM lt, Mbr hM hW lt, Mb hM hW lt, Ma hM hW lt]
        rfl
      rw [k2]
      unfold f_X6_kinOf
      rw [chk_nI lt (by decide), ix_nI (by omega), c_broader hC lt, c_below hC hW ht, c_above hC hW ht, hC.1 t lt]
      by_cases y0 : y = 0
      · rw [if_pos y0, if_pos y0]
        exact ⟨_, rfl, rfl⟩
      · rw [if_neg y0, if_neg y0]
        by_cases y1 : y = 1
        · rw [if_pos y1, if_pos y1]
          exact ⟨_, rfl, rfl⟩
        · rw [if_neg y1, if_neg y1]
          by_cases y2 : y = 2
          · rw [if_pos y2, if_pos y2]
            exact ⟨_, rfl, rfl⟩
          · rw [if_neg y2, if_neg y2]
            exact ⟨_, rfl, rfl⟩
    obtain ⟨S, g1, g2⟩ := g
    obtain ⟨rC, e1, rM, e2, e3, e4⟩ := fin S g1 g2
    exact ⟨rC, e1, rM, e2, e3, ⟨a, hC, hM, hW⟩, hP, hK, e4, hT⟩
theorem inv_15 (x_words : Nat → Int32) (x_wordCount : Int32) (x_size : Int32) (x_signs : Nat → Int32) (x_next : Int32) (g_longest : Nat → Int32) (g_many : Nat → Int64) (g_layers : Nat → Int32) (g_length : Int32) (g_aheadOf : Nat → Int32) (g_cameFrom : Nat → Int32) (g_queue : Nat → Int32) (r_numbers : Nat → Int64) (r_size : Int32) (p_size : Int32) (t_filled : Nat → Int32) (nd : Nat → ND) (m_thrown : Int32) (m_told : Int32) (m_row : Nat → Int64) (m_tape : Nat → Int32) (m_taped : Int32) (m_at : Int32) (m_to : Int32) (m_mem : Nat → Int32) (m_undos : Int32) (m_places : Nat → Int32) (m_movers : Nat → Int32) (m_far : Nat → Int32) (m_way : Nat → Int32) (m_wayMany : Int32) (m_fromOf : Nat → Int32) (m_toOf : Nat → Int32) (m_longest : Nat → Int32) (m_wayCount : Nat → Int64) (m_thin : Nat → Int32) (m_ahead : Nat → Int32) (m_tried : Int32) (m_foundLow : Int32) (m_foundHigh : Int32) (m_nextLow : Int32) (m_nextHigh : Int32) (m_act : Nat → Int32) (m_first : Nat → Int32) (m_second : Nat → Int32) (m_random : Int32) (m_isKept : Nat → Int32) (x y : Int32) (h : Inv x_words x_wordCount x_size x_signs x_next g_longest g_many g_layers g_length g_aheadOf g_cameFrom g_queue r_numbers r_size p_size t_filled nd m_thrown m_told m_row m_tape m_taped m_at m_to m_mem m_undos m_places m_movers m_far m_way m_wayMany m_fromOf m_toOf m_longest m_wayCount m_thin m_ahead m_tried m_foundLow m_foundHigh m_nextLow m_nextHigh m_act m_first m_second m_random m_isKept) : S_15 Inv x_words x_wordCount x_size x_signs x_next g_longest g_many g_layers g_length g_aheadOf g_cameFrom g_queue r_numbers r_size p_size t_filled nd m_thrown m_told m_row m_tape m_taped m_at m_to m_mem m_undos m_places m_movers m_far m_way m_wayMany m_fromOf m_toOf m_longest m_wayCount m_thin m_ahead m_tried m_foundLow m_foundHigh m_nextLow m_nextHigh m_act m_first m_second m_random m_isKept x y := by
  obtain ⟨⟨a, hC, hM, hW⟩, hP, hK, hR, hT⟩ := h
  unfold S_15
  rw [hC.2.2.2.2.2.1, hC.2.2.2.2.2.2.1]
  by_cases hx : two a x y
  · obtain ⟨s, t, rfl, rfl, hs, ht, hne⟩ := hx
    have ls := W_lt hW hs
    have lt := W_lt hW ht
    by_cases hr : Rc (aNr a) s t
    · obtain ⟨S, dS⟩ : ∃ S, S = bsP (Rc (aNr a) s) &&& bsP (fun u => Rc (aNr a) u t) := ⟨_, rfl⟩
      obtain ⟨V, dV⟩ : ∃ V, V = isum (bt S) (fun t => nI (npc (tn (bset (aNr a t) 24 &&& S)))) 24 := ⟨_, rfl⟩
      refine ⟨(S, vp_updL r_numbers 0 V.toInt64, nI 1), ?_, (S, 0, nI 1, vp_updL m_row 0 V.toInt64), ?_, rfl, ⟨a, hC, hM, hW⟩, hP, hK, Rw1 _ _ _, hT⟩
      · unfold f_X6_between
        rw [c_pair1 hW hs ht hne, if_neg (by decide), c_below hC hW hs, sbind, if_neg (by rw [bsP_hold lt]; exact fun z => z hr), c_above hC hW ht, sbind, ← dS, c_linksAmong, sbind, c_tell, sbind]
        rw [show isum (bt S) (fun t => nI (npc (tn ((nd 0).1 t &&& S)))) 24 = V by
          rw [dV]
          refine isum_congr 24 (fun k hk => ⟨rfl, fun _ => ?_⟩)
          rw [hC.1 k hk]]
      · unfold f_X7_between f_X7_isBelow
        rw [m_two1 hM hW hs ht hne, sbind, if_neg (by decide), Mb hM hW ls, sbind, sbind, if_neg (by rw [bsP_has lt]; exact fun z => z hr), sbind, Ma hM hW lt, sbind, ← dS]
        unfold f_X7_between_l48
        refine loop_go (fun j => (S, isum (bt S) (fun t => nI (npc (tn (bset (aNr a t) 24 &&& S)))) j, nI j, 0)) 24 200 (by decide) rfl ?_ ?_
        · intro j hj rc
          show f_X7_between_b48 _ _ _ _ _ _ _ _ _ _ = _
          unfold f_X7_between_b48
          dsimp only
          rw [if_neg (n24 hj), isum_s, nI_1, Mn hM hj, sbind, m_sizeOf, sbind, Int32.add_zero]
          by_cases hb : bt S j = true
          · rw [if_neg (by rw [has0 (by omega)]; simp [hb]), if_pos hb]
          · rw [if_pos (by rw [has0 (by omega)]; simp [hb]), if_neg hb]
        · intro rc
          show f_X7_between_b48 _ _ _ _ _ _ _ _ _ _ = _
          unfold f_X7_between_b48
          dsimp only
          rw [if_pos y24, m_tell, sbind, dV]
    · refine ⟨(-2, r_numbers, r_size), ?_, (-2, 0, m_told, m_row), ?_, rfl, ⟨a, hC, hM, hW⟩, hP, hK, hR, hT⟩
      · unfold f_X6_between
        rw [c_pair1 hW hs ht hne, if_neg (by decide), c_below hC hW hs, sbind, if_pos (by rw [bsP_hold lt]; exact hr)]
      · unfold f_X7_between f_X7_isBelow
        rw [m_two1 hM hW hs ht hne, sbind, if_neg (by decide), Mb hM hW ls, sbind, sbind, if_pos (by rw [bsP_has lt]; exact hr)]
  · refine ⟨(-1, r_numbers, r_size), ?_, (-1, 0, m_told, m_row), ?_, rfl, ⟨a, hC, hM, hW⟩, hP, hK, hR, hT⟩
    · unfold f_X6_between
      rw [c_pair0 hx, if_pos rfl]
    · unfold f_X7_between
      rw [m_two0 hM hx, sbind, if_pos rfl]
