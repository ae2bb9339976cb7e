/-! PURE 61: unposts, posted, count, unlinks -/
theorem WA_off {a : AN} (hw : WA a) (t i : Nat) : WA (itS a (itOff a t i)) := by
  refine WA_it hw (fun u k z => ?_)
  unfold itOff at z
  rw [Bool.and_eq_true] at z
  exact hw.2.2.2.2.2.2.2.2.2 u k z.1
theorem c_unpost1 {n : ND} {a : AN} (h : CN n a) (hw : WA a) {t i : Nat} (hal : aAl a t = true) (hi : i < 40) (hn : aIt a t i = true) : f_X0_unpost n.2.2.1 (bset (aAl a) 24) (nI i) (nI t) = some (nI (cnt (itOff a t i t) 40), vp_updL n.2.2.1 t (lset (itOff a t i t) 40)) := by
  have ht := W_lt hw hal
  have e : n.2.2.1 t &&& (jlshl 1 (nI i) ^^^ (-1)) = lset (itOff a t i t) 40 := by
    rw [h.2.2.1 t ht, lset_off _ hi]
    congr 1
    funext k
    unfold itOff
    simp
  unfold f_X0_unpost
  rw [c_has1 ht hal, if_neg one0, c_item1 hi, if_neg one0, chk_nI ht (by decide), ix_nI (by omega), if_neg (by rw [c_bit h ht hi, hn]; decide), chk_nI ht (by decide), chk_nI ht (by decide), chk_nI ht (by decide), e]
  congr 2
  show f_J13_bitCount_95d88 (vp_updL n.2.2.1 t (lset (itOff a t i t) 40) t) = _
  unfold vp_updL
  rw [if_pos rfl, c_longCount, (npc_lset _ 40 (by omega)).2]
theorem c_unpost0 {n : ND} {a : AN} {x y : Int32} (hn : ¬ (isI x ∧ isT a y)) : f_X0_unpost n.2.2.1 (bset (aAl a) 24) x y = some (-1, n.2.2.1) := by
  unfold f_X0_unpost
  by_cases hy : isT a y
  · obtain ⟨t, rfl, lt, ht⟩ := hy
    rw [c_has1 lt ht, if_neg one0, c_item0 (fun z => hn ⟨z, ⟨t, rfl, lt, ht⟩⟩), if_pos rfl]
  · rw [c_has0 hy, if_pos rfl]
theorem c_unpost2 {n : ND} {a : AN} (h : CN n a) (hw : WA a) {t i : Nat} (hal : aAl a t = true) (hi : i < 40) (hn : aIt a t i = false) : f_X0_unpost n.2.2.1 (bset (aAl a) 24) (nI i) (nI t) = some (-2, n.2.2.1) := by
  have ht := W_lt hw hal
  unfold f_X0_unpost
  rw [c_has1 ht hal, if_neg one0, c_item1 hi, if_neg one0, chk_nI ht (by decide), ix_nI (by omega), if_pos ((c_bit h ht hi).mpr hn)]
theorem inv_24 (x_words : Nat → Int32) (x_wordCount : Int32) (x_size : Int32) (x_signs : Nat → Int32) (x_next : Int32) (g_longest : Nat → Int32) (g_many : Nat → Int64) (g_layers : Nat → Int32) (g_length : Int32) (g_aheadOf : Nat → Int32) (g_cameFrom : Nat → Int32) (g_queue : Nat → Int32) (r_numbers : Nat → Int64) (r_size : Int32) (p_size : Int32) (t_filled : Nat → Int32) (nd : Nat → ND) (m_thrown : Int32) (m_told : Int32) (m_row : Nat → Int64) (m_tape : Nat → Int32) (m_taped : Int32) (m_at : Int32) (m_to : Int32) (m_mem : Nat → Int32) (m_undos : Int32) (m_places : Nat → Int32) (m_movers : Nat → Int32) (m_far : Nat → Int32) (m_way : Nat → Int32) (m_wayMany : Int32) (m_fromOf : Nat → Int32) (m_toOf : Nat → Int32) (m_longest : Nat → Int32) (m_wayCount : Nat → Int64) (m_thin : Nat → Int32) (m_ahead : Nat → Int32) (m_tried : Int32) (m_foundLow : Int32) (m_foundHigh : Int32) (m_nextLow : Int32) (m_nextHigh : Int32) (m_act : Nat → Int32) (m_first : Nat → Int32) (m_second : Nat → Int32) (m_random : Int32) (m_isKept : Nat → Int32) (x y : Int32) (h : Inv x_words x_wordCount x_size x_signs x_next g_longest g_many g_layers g_length g_aheadOf g_cameFrom g_queue r_numbers r_size p_size t_filled nd m_thrown m_told m_row m_tape m_taped m_at m_to m_mem m_undos m_places m_movers m_far m_way m_wayMany m_fromOf m_toOf m_longest m_wayCount m_thin m_ahead m_tried m_foundLow m_foundHigh m_nextLow m_nextHigh m_act m_first m_second m_random m_isKept) : S_24 Inv x_words x_wordCount x_size x_signs x_next g_longest g_many g_layers g_length g_aheadOf g_cameFrom g_queue r_numbers r_size p_size t_filled nd m_thrown m_told m_row m_tape m_taped m_at m_to m_mem m_undos m_places m_movers m_far m_way m_wayMany m_fromOf m_toOf m_longest m_wayCount m_thin m_ahead m_tried m_foundLow m_foundHigh m_nextLow m_nextHigh m_act m_first m_second m_random m_isKept x y := by
  obtain ⟨⟨a, hC, hM, hW⟩, hP, hK, hR, hT⟩ := h
  unfold S_24
  intro sa bb
  have hM0 := Mc0 hW hM
  have ag0 : agr m_mem (cpy m_mem 0 3) := agr_cpy _ (.inr (.inl rfl))
  have no : ((∃ r : Int32, r < 0 ∧ f_X0_unpost (nd 0).2.2.1 (bset (aAl a) 24) x y = some (r, (nd 0).2.2.1) ∧ f_X7_unposts m_thrown m_mem m_undos x y = some (r, 0, m_mem, m_undos))) ∨ (∃ t i, x = nI i ∧ y = nI t ∧ i < 40 ∧ aAl a t = true ∧ aIt a t i = true) := by
    by_cases hx : isI x ∧ isT a y
    · obtain ⟨⟨i, hi, rfl⟩, t, rfl, lt, ht⟩ := hx
      by_cases hb : aIt a t i = true
      · exact .inr ⟨t, i, rfl, rfl, hi, ht, hb⟩
      · have hb : aIt a t i = false := Bool.eq_false_iff.mpr hb
        refine .inl ⟨-2, by decide, c_unpost2 hC hW ht hi hb, ?_⟩
        unfold f_X7_unposts
        rw [if_neg (m_item1 hi), m_isTerm1 hM lt ht, sbind, if_neg one0, m_isPosted hM hi lt, sbind, hb, if_pos (by decide)]
    · refine .inl ⟨-1, by decide, c_unpost0 hx, ?_⟩
      unfold f_X7_unposts
      by_cases hi : isI x
      · obtain ⟨i, hi, rfl⟩ := hi
        rw [if_neg (m_item1 hi), m_isTerm0 hM (fun z => hx ⟨⟨i, hi, rfl⟩, z⟩), sbind, if_pos rfl]
      · rw [if_pos (m_item0 hi)]
  rcases no with ⟨r, hr, e1, e2⟩ | ⟨t, i, rfl, rfl, hi, ht, hb⟩
  · rw [← hC.2.2.2.2.2.1] at e1
    refine ⟨(r, (nd 0).2.2.1, bb, sa 0, p_size, (nd 0).1, (nd 0).2.1, (nd 0).2.2.1, (nd 0).2.2.2.1, (nd 0).2.2.2.2.1, (nd 0).2.2.2.2.2.2.1, (nd 0).2.2.2.2.2.2.2.1, (nd 0).2.2.2.2.2.2.2.2), ?_, (r, 0, m_mem, m_undos), e2, rfl, .inl ⟨rfl, rfl, ⟨a, hC, hM, hW⟩, (chgP (agr_refl _) hP hK _ _).1, (chgP (agr_refl _) hP hK _ _).2, hR, hT⟩⟩
    unfold f_X6_unposts
    rw [e1, sbind, c_settle0 hr]
    rfl
  · have lt := W_lt hW ht
    have e1 := c_unpost1 hC hW ht hi hb
    rw [← hC.2.2.2.2.2.1] at e1
    have hr : ¬ nI (cnt (itOff a t i t) 40) < 0 := nI_nn (by have := cnt_le (itOff a t i t) 40; omega)
    have ho : out (cpy m_mem 0 3) (hfOff (cpy m_mem 0 3) t i) := out_upd (out_refl _) (i155 lt) _
    have hA : BN ((nd 0).1, (nd 0).2.1, vp_updL (nd 0).2.2.1 t (lset (itOff a t i t) 40), (nd 0).2.2.2) (hfOff (cpy m_mem 0 3) t i) 0 (itS a (itOff a t i)) := by
      refine ⟨CN_it hC rfl ?_, MN_off hM0 hW lt hi, WA_off hW t i⟩
      intro u hu
      funext k
      unfold itOff
      simp [hu]
    obtain ⟨k, hk, ek, bb', sa', mem', g1, g2, g3, g4, g5⟩ := chgC (out_agr ag0 ho) hP hK hA (BN_aside (n12 := nd 12) ⟨hC, hM, hW⟩ (out_as ho)) sa bb
    refine ⟨(nI (cnt (itOff a t i t) 40), vp_updL (nd 0).2.2.1 t (lset (itOff a t i t) 40), bb', sa', psz k, (nd 0).1, (nd 0).2.1, (nd 0).2.2.1, (nd 0).2.2.2.1, (nd 0).2.2.2.2.1, (nd 0).2.2.2.2.2.2.1, (nd 0).2.2.2.2.2.2.2.1, (nd 0).2.2.2.2.2.2.2.2), ?_, (nI (cnt (itOff a t i t) 40), 0, mem', psz k), ?_, rfl, .inr ⟨k, hk, ek, g1, g3, g4, g5, hR, hT⟩⟩
    · unfold f_X6_unposts
      rw [e1, sbind, c_settle1 hr g1]
      rfl
    · unfold f_X7_unposts
      rw [if_neg (m_item1 hi), m_isTerm1 hM lt ht, sbind, if_neg one0, m_isPosted hM hi lt, sbind, hb, if_neg (by decide), Mcp, sbind]
      rw [m_dec (m0 := m_mem) lt hi (fun _ => some (nI (cnt (itOff a t i t) 40), 0, mem', psz k)) (fun s => f_X7_unposts_b59 m_undos (nI i) (nI t) s 0 (cpy m_mem 0 3))]
      intro s hs
      have hs2 : s ≤ 155 := by
        rw [hs]
        by_cases h2 : 20 ≤ i
        · rw [if_pos h2]; omega
        · rw [if_neg h2]; omega
      unfold f_X7_unposts_b59
      rw [nI_add, chk_nI (by omega) (by decide), chk_nI (by omega) (by decide), ix_nI (by omega), jrem20 hi]
      have e : upd (cpy m_mem 0 3) (s + t) (cpy m_mem 0 3 (s + t) &&& (jshl 1 (nI (i % 20)) ^^^ (-1))) = hfOff (cpy m_mem 0 3) t i := by
        unfold hfOff
        rw [← hs]
      rw [e, show f_X7_itemsOf (hfOff (cpy m_mem 0 3) t i) 0 (nI t) = some (nI (cnt (itOff a t i t) 40)) from m_itemsOf (q := 0) (hA.2.1 : MN _ (0 * 179) _) (by omega) lt, sbind, m_done1 hr g2]
      rfl
/-- more than one -/
theorem cnt_gt1 {P : Nat → Bool} {n t : Nat} (ht : t < n) (hp : P t = true) : 1 < cnt P n ↔ ∃ u, u < n ∧ u ≠ t ∧ P u = true := by
  have e : cnt P n = cnt (fun k => P k && !decide (k = t)) n + 1 := by
    refine cnt_add ht (by simp) hp (fun k _ hk => ?_)
    simp [hk]
  rw [e]
  constructor
  · intro h
    refine Classical.byContradiction fun z => ?_
    have : cnt (fun k => P k && !decide (k = t)) n = 0 := by
      rw [cnt_0]
      intro k hk q
      rw [Bool.and_eq_true] at q
      refine z ⟨k, hk, fun w => ?_, q.1⟩
      rw [w] at q
      simp at q
    omega
  · rintro ⟨u, h1, h2, h3⟩
    have : cnt (fun k => P k && !decide (k = t)) n ≠ 0 := by
      intro z
      rw [cnt_0] at z
      refine z u h1 ?_
      simp [h2, h3]
    omega
theorem npc_bsP (P : Nat → Prop) : npc (tn (bsP P)) = cnt (fun u => pb (P u)) 24 := (npc_bset _ 24 (by omega)).2
theorem inv_26 (x_words : Nat → Int32) (x_wordCount : Int32) (x_size : Int32) (x_signs : Nat → Int32) (x_next : Int32) (g_longest : Nat → Int32) (g_many : Nat → Int64) (g_layers : Nat → Int32) (g_length : Int32) (g_aheadOf : Nat → Int32) (g_cameFrom : Nat → Int32) (g_queue : Nat → Int32) (r_numbers : Nat → Int64) (r_size : Int32) (p_size : Int32) (t_filled : Nat → Int32) (nd : Nat → ND) (m_thrown : Int32) (m_told : Int32) (m_row : Nat → Int64) (m_tape : Nat → Int32) (m_taped : Int32) (m_at : Int32) (m_to : Int32) (m_mem : Nat → Int32) (m_undos : Int32) (m_places : Nat → Int32) (m_movers : Nat → Int32) (m_far : Nat → Int32) (m_way : Nat → Int32) (m_wayMany : Int32) (m_fromOf : Nat → Int32) (m_toOf : Nat → Int32) (m_longest : Nat → Int32) (m_wayCount : Nat → Int64) (m_thin : Nat → Int32) (m_ahead : Nat → Int32) (m_tried : Int32) (m_foundLow : Int32) (m_foundHigh : Int32) (m_nextLow : Int32) (m_nextHigh : Int32) (m_act : Nat → Int32) (m_first : Nat → Int32) (m_second : Nat → Int32) (m_random : Int32) (m_isKept : Nat → Int32) (x y : Int32) (h : Inv x_words x_wordCount x_size x_signs x_next g_longest g_many g_layers g_length g_aheadOf g_cameFrom g_queue r_numbers r_size p_size t_filled nd m_thrown m_told m_row m_tape m_taped m_at m_to m_mem m_undos m_places m_movers m_far m_way m_wayMany m_fromOf m_toOf m_longest m_wayCount m_thin m_ahead m_tried m_foundLow m_foundHigh m_nextLow m_nextHigh m_act m_first m_second m_random m_isKept) : S_26 Inv x_words x_wordCount x_size x_signs x_next g_longest g_many g_layers g_length g_aheadOf g_cameFrom g_queue r_numbers r_size p_size t_filled nd m_thrown m_told m_row m_tape m_taped m_at m_to m_mem m_undos m_places m_movers m_far m_way m_wayMany m_fromOf m_toOf m_longest m_wayCount m_thin m_ahead m_tried m_foundLow m_foundHigh m_nextLow m_nextHigh m_act m_first m_second m_random m_isKept x y := by
  obtain ⟨⟨a, hC, hM, hW⟩, hP, hK, hR, hT⟩ := h
  unfold S_26
  rw [hC.2.2.2.2.2.2.1]
  by_cases hx : isI x
  · obtain ⟨i, hi, rfl⟩ := hx
    obtain ⟨P, dP⟩ : ∃ P : Nat → Prop, P = fun t => aIt a t i = true := ⟨_, rfl⟩
    have hal : ∀ t, t < 24 → P t → aAl a t = true := by
      intro t _ q
      rw [dP] at q
      exact (hW.2.2.2.2.2.2.2.2.2 t i q).1
    obtain ⟨Q, dQ⟩ : ∃ Q : Nat → Prop, Q = fun t => P t ∧ ∃ u, u ≠ t ∧ Rc (aNr a) t u ∧ P u := ⟨_, rfl⟩
    refine ⟨(bsP P, vp_updL r_numbers 0 (bsP Q).toInt64, nI 1), ?_, (bsP P, 0, nI 1, vp_updL m_row 0 (bsP Q).toInt64), ?_, rfl, ⟨a, hC, hM, hW⟩, hP, hK, Rw1 _ _ _, hT⟩
    · unfold f_X6_posted
      rw [c_item1 hi, if_neg one0]
      unfold f_X6_posted_l13
      refine loop_go (fun j => (bset (fun t => pb (P t)) j, nI j)) 24 200 (by decide) rfl ?_ ?_
      · intro j hj rc
        show f_X6_posted_b13 _ _ _ _ _ _ _ _ _ _ = _
        unfold f_X6_posted_b13
        dsimp only
        rw [if_neg (n24 hj), chk_nI hj (by decide), ix_nI (by omega), nI_1, bset_s]
        by_cases q : P j
        · rw [if_neg (by rw [c_bit hC hj hi]; rw [dP] at q; rw [show aIt a j i = true from q]; decide), if_pos (pb_iff.mpr q)]
        · rw [if_pos (by rw [c_bit hC hj hi]; rw [dP] at q; exact Bool.eq_false_iff.mpr q), if_neg (fun z => q (pb_iff.mp z))]
      · intro rc
        show f_X6_posted_b13 _ _ _ _ _ _ _ _ _ _ = _
        unfold f_X6_posted_b13
        dsimp only
        rw [if_pos y24, show bset (fun t => pb (P t)) 24 = bsP P from rfl, c_wob hC hW hal, sbind, c_tell, sbind, dQ]
    · unfold f_X7_posted
      rw [if_neg (m_item1 hi)]
      unfold f_X7_posted_l18
      refine loop_go (fun j => (bset (fun t => pb (P t)) j, nI j, 0)) 24 200 (by decide) rfl ?_ ?_
      · intro j hj rc
        show f_X7_posted_b18 _ _ _ _ _ _ _ _ = _
        unfold f_X7_posted_b18 f_X7_posted_b46 f_X7_posted_b47
        dsimp only
        have hf := bset_f P j
        rw [if_neg (n24 hj), nI_1]
        by_cases ha : aAl a j = true
        · rw [m_isTerm1 hM hj ha, sbind, if_neg one0, m_isPosted hM hi hj, sbind]
          by_cases q : P j
          · rw [if_neg (by rw [dP] at q; rw [show aIt a j i = true from q]; decide), hf.1 q]
          · rw [if_pos (by rw [dP] at q; rw [show aIt a j i = false from Bool.eq_false_iff.mpr q]; decide), hf.2 q]
        · rw [m_isTerm0 hM (al_isT hj ha), sbind, if_pos rfl, hf.2 (fun z => ha (hal j hj z))]
      · intro rc
        show f_X7_posted_b18 _ _ _ _ _ _ _ _ = _
        unfold f_X7_posted_b18
        dsimp only
        rw [if_pos y24, show bset (fun t => pb (P t)) 24 = bsP P from rfl]
        unfold f_X7_posted_l65
        refine loop_go (fun j => (bsP P, bset (fun t => pb (Q t)) j, nI j, 0)) 24 200 (by decide) rfl ?_ ?_
        · intro j hj rc
          show f_X7_posted_b65 _ _ _ _ _ _ _ _ _ = _
          unfold f_X7_posted_b65 f_X7_posted_b102 f_X7_posted_b103
          dsimp only
          have hf := bset_f Q j
          rw [if_neg (n24 hj), nI_1]
          by_cases q : P j
          · rw [if_neg (by rw [bsP_has hj]; exact fun z => z q), Mb hM hW hj, sbind, bsP_and, m_sizeOf, sbind, npc_bsP]
            have g := cnt_gt1 (P := fun u => pb (Rc (aNr a) j u ∧ P u)) hj (pb_iff.mpr ⟨Rc_refl _ _, q⟩)
            have hc := cnt_le (fun u => pb (Rc (aNr a) j u ∧ P u)) 24
            have hle : nI (cnt (fun u => pb (Rc (aNr a) j u ∧ P u)) 24) ≤ 1 ↔ cnt (fun u => pb (Rc (aNr a) j u ∧ P u)) 24 ≤ 1 := by
              rw [show (1 : Int32) = nI 1 from rfl, nI_leI (by omega) (by decide)]
            have hq : Q j ↔ 1 < cnt (fun u => pb (Rc (aNr a) j u ∧ P u)) 24 := by
              rw [g, dQ]
              constructor
              · rintro ⟨_, u, h1, h2, h3⟩
                exact ⟨u, W_lt hW ((Rc_al hW h2).mp (hal j hj q)), h1, pb_iff.mpr ⟨h2, h3⟩⟩
              · rintro ⟨u, _, h1, h2⟩
                exact ⟨q, u, h1, (pb_iff.mp h2).1, (pb_iff.mp h2).2⟩
            by_cases qq : Q j
            · rw [if_neg (by rw [hle]; have := hq.mp qq; omega), hf.1 qq]
            · rw [if_pos (by rw [hle]; exact Classical.byContradiction fun z => qq (hq.mpr (by omega))), hf.2 qq]
          · rw [if_pos (by rw [bsP_has hj]; exact q), hf.2 (by rw [dQ]; exact fun z => q z.1)]
        · intro rc
          show f_X7_posted_b65 _ _ _ _ _ _ _ _ _ = _
          unfold f_X7_posted_b65
          dsimp only
          rw [if_pos y24, m_tell, sbind]
          rfl
  · refine ⟨(-1, r_numbers, r_size), ?_, (-1, 0, m_told, m_row), ?_, rfl, ⟨a, hC, hM, hW⟩, hP, hK, hR, hT⟩
    · unfold f_X6_posted
      rw [c_item0 hx, if_pos rfl]
    · unfold f_X7_posted
      rw [if_pos (m_item0 hx)]
/-- as many as there are places -/
theorem cnt_al {a : AN} (hw : WA a) : cnt (aAl a) 24 = aS a := by
  have key : ∀ s, s ≤ aS a → cnt (fun t => pb (∃ p, p < s ∧ aO a p = t)) 24 = s := by
    intro s
    induction s with
    | zero =>
      intro _
      rw [cnt_0]
      intro k _ z
      obtain ⟨p, hp, _⟩ := pb_iff.mp z
      exact absurd hp (Nat.not_lt_zero _)
    | succ s ih =>
      intro hs
      have e := ih (by omega)
      have key2 := cnt_add (P := fun t => pb (∃ p, p < s ∧ aO a p = t)) (Q := fun t => pb (∃ p, p < s + 1 ∧ aO a p = t)) (t := aO a s) (W_o hw (by omega)) (by
        apply Bool.eq_false_iff.mpr
        intro z
        obtain ⟨p, hp, q⟩ := pb_iff.mp z
        have := hw.2.2.2.2.1 p s (by omega) (by omega) q
        omega) (pb_iff.mpr ⟨s, by omega, rfl⟩) (by
        intro k _ hk
        apply Bool.eq_iff_iff.mpr
        rw [pb_iff, pb_iff]
        constructor
        · rintro ⟨p, h1, h2⟩
          by_cases ep : p = s
          · subst ep; exact absurd h2.symm hk
          · exact ⟨p, by omega, h2⟩
        · rintro ⟨p, h1, h2⟩
          exact ⟨p, by omega, h2⟩)
      rw [key2, e]
  rw [← key (aS a) (Nat.le_refl _)]
  refine cnt_congr 24 (fun k _ => Bool.eq_iff_iff.mpr ?_)
  rw [pb_iff]
  constructor
  · intro z
    obtain ⟨h1, h2⟩ := pcO_spec hw z
    exact ⟨_, h1, h2⟩
  · rintro ⟨p, h1, h2⟩
    rw [← h2]
    exact W_al hw h1
theorem m_size0 {mem : Nat → Int32} {a : AN} (h : MN mem 0 a) (hw : WA a) : (f_X7_there mem 0).bind (fun r => f_X7_sizeOf r) = some (nI (aS a)) := by
  rw [show f_X7_there mem 0 = some (bset (aAl a) 24) from m_there (q := 0) (h : MN mem (0 * 179) a) (by decide), sbind, m_sizeOf, (npc_bset _ 24 (by omega)).2, cnt_al hw]
theorem c_postings {n : ND} {a : AN} (h : CN n a) : f_X2_postings n.2.2.1 = some (isum (fun _ => true) (fun t => nI (cnt (aIt a t) 40)) 24) := by
  unfold f_X2_postings f_X2_postings_l4
  refine loop_go (fun j => (isum (fun _ => true) (fun t => nI (cnt (aIt a t) 40)) j, nI j)) 24 200 (by decide) rfl ?_ ?_
  · intro j hj rc
    show f_X2_postings_b4 _ _ _ _ = _
    unfold f_X2_postings_b4
    dsimp only
    rw [if_neg (n24 hj), chk_nI hj (by decide), ix_nI (by omega), nI_1, h.2.2.1 j hj, c_longc, isum_s, if_pos rfl]
  · intro rc
    show f_X2_postings_b4 _ _ _ _ = _
    unfold f_X2_postings_b4
    dsimp only
    rw [if_pos y24]
theorem m_postings {mem : Nat → Int32} {a : AN} (h : MN mem 0 a) (hw : WA a) : f_X7_postings mem = some (isum (fun _ => true) (fun t => nI (cnt (aIt a t) 40)) 24) := by
  unfold f_X7_postings f_X7_postings_l4
  refine loop_go (fun j => (isum (fun _ => true) (fun t => nI (cnt (aIt a t) 40)) j, nI j)) 24 200 (by decide) rfl ?_ ?_
  · intro j hj rc
    show f_X7_postings_b4 _ _ _ _ = _
    unfold f_X7_postings_b4
    dsimp only
    rw [if_neg (n24 hj), nI_1, isum_s, if_pos rfl]
    by_cases ha : aAl a j = true
    · rw [m_isTerm1 h hj ha, sbind, if_neg one0, show f_X7_itemsOf mem 0 (nI j) = some (nI (cnt (aIt a j) 40)) from m_itemsOf (q := 0) (h : MN mem (0 * 179) a) (by omega) hj, sbind]
    · have e : cnt (aIt a j) 40 = 0 := by
        rw [cnt_0]
        intro k _ z
        exact ha (hw.2.2.2.2.2.2.2.2.2 j k z).1
      rw [m_isTerm0 h (al_isT hj ha), sbind, if_pos rfl, e]
      rfl
  · intro rc
    show f_X7_postings_b4 _ _ _ _ = _
    unfold f_X7_postings_b4
    dsimp only
    rw [if_pos y24]
theorem inv_35 (x_words : Nat → Int32) (x_wordCount : Int32) (x_size : Int32) (x_signs : Nat → Int32) (x_next : Int32) (g_longest : Nat → Int32) (g_many : Nat → Int64) (g_layers : Nat → Int32) (g_length : Int32) (g_aheadOf : Nat → Int32) (g_cameFrom : Nat → Int32) (g_queue : Nat → Int32) (r_numbers : Nat → Int64) (r_size : Int32) (p_size : Int32) (t_filled : Nat → Int32) (nd : Nat → ND) (m_thrown : Int32) (m_told : Int32) (m_row : Nat → Int64) (m_tape : Nat → Int32) (m_taped : Int32) (m_at : Int32) (m_to : Int32) (m_mem : Nat → Int32) (m_undos : Int32) (m_places : Nat → Int32) (m_movers : Nat → Int32) (m_far : Nat → Int32) (m_way : Nat → Int32) (m_wayMany : Int32) (m_fromOf : Nat → Int32) (m_toOf : Nat → Int32) (m_longest : Nat → Int32) (m_wayCount : Nat → Int64) (m_thin : Nat → Int32) (m_ahead : Nat → Int32) (m_tried : Int32) (m_foundLow : Int32) (m_foundHigh : Int32) (m_nextLow : Int32) (m_nextHigh : Int32) (m_act : Nat → Int32) (m_first : Nat → Int32) (m_second : Nat → Int32) (m_random : Int32) (m_isKept : Nat → Int32) (x y : Int32) (h : Inv x_words x_wordCount x_size x_signs x_next g_longest g_many g_layers g_length g_aheadOf g_cameFrom g_queue r_numbers r_size p_size t_filled nd m_thrown m_told m_row m_tape m_taped m_at m_to m_mem m_undos m_places m_movers m_far m_way m_wayMany m_fromOf m_toOf m_longest m_wayCount m_thin m_ahead m_tried m_foundLow m_foundHigh m_nextLow m_nextHigh m_act m_first m_second m_random m_isKept) : S_35 Inv x_words x_wordCount x_size x_signs x_next g_longest g_many g_layers g_length g_aheadOf g_cameFrom g_queue r_numbers r_size p_size t_filled nd m_thrown m_told m_row m_tape m_taped m_at m_to m_mem m_undos m_places m_movers m_far m_way m_wayMany m_fromOf m_toOf m_longest m_wayCount m_thin m_ahead m_tried m_foundLow m_foundHigh m_nextLow m_nextHigh m_act m_first m_second m_random m_isKept x y := by
  have h' := h
  obtain ⟨⟨a, hC, hM, hW⟩, hP, hK, hR, hT⟩ := h
  unfold S_35
  have hth : f_X7_there m_mem 0 = some (bset (aAl a) 24) := m_there (q := 0) (hM : MN m_mem (0 * 179) a) (by decide)
  have key : ∃ v, f_X6_count ((nd 0).1) ((nd 0).2.2.1) ((nd 0).2.2.2.2.2.2.1) ((nd 0).2.2.2.2.2.2.2.1) ((nd 0).2.2.2.2.2.2.2.2) p_size r_size x_size x = some v ∧ f_X7_count m_thrown m_told m_taped m_mem m_undos x = some (v, 0) := by
    obtain ⟨u, _, p1, p2, _⟩ := hP
    obtain ⟨r, _, r1, r2, _⟩ := hR
    obtain ⟨z, _, z1, z2, _⟩ := hT
    unfold f_X6_count f_X7_count
    rw [hC.2.2.2.2.2.1, hC.2.2.2.2.2.2.1, hC.2.2.2.2.2.2.2, c_linkCount hC hW, c_postings hC, hth, show f_X7_linkMany m_mem 0 = _ from m_linkMany (q := 0) (hM : MN m_mem (0 * 179) a) (by omega), show f_X7_labelMany m_mem 0 = _ from m_labelMany (q := 0) (hM : MN m_mem (0 * 179) a) (by omega), m_postings hM hW, p1, p2, r1, r2, z1, z2]
    simp only [sbind]
    rw [m_sizeOf, (npc_bset _ 24 (by omega)).2, cnt_al hW]
    simp only [sbind]
    by_cases c0 : x = 0
    · rw [if_pos c0, if_pos c0]; exact ⟨_, rfl, rfl⟩
    rw [if_neg c0, if_neg c0]
    by_cases c1 : x = 1
    · rw [if_pos c1, if_pos c1]; exact ⟨_, rfl, rfl⟩
    rw [if_neg c1, if_neg c1]
    by_cases c2 : x = 2
    · rw [if_pos c2, if_pos c2]; exact ⟨_, rfl, rfl⟩
    rw [if_neg c2, if_neg c2]
    by_cases c3 : x = 3
    · rw [if_pos c3, if_pos c3]; exact ⟨_, rfl, rfl⟩
    rw [if_neg c3, if_neg c3]
    by_cases c4 : x = 4
    · rw [if_pos c4, if_pos c4]; exact ⟨_, rfl, rfl⟩
    rw [if_neg c4, if_neg c4]
    by_cases c5 : x = 5
    · rw [if_pos c5, if_pos c5]; exact ⟨_, rfl, rfl⟩
    rw [if_neg c5, if_neg c5]
    by_cases c6 : x = 6
    · rw [if_pos c6, if_pos c6]; exact ⟨_, rfl, rfl⟩
    rw [if_neg c6, if_neg c6]
    by_cases c7 : x = 7
    · rw [if_pos c7, if_pos c7]; exact ⟨_, rfl, rfl⟩
    rw [if_neg c7, if_neg c7]
    exact ⟨_, rfl, rfl⟩
  obtain ⟨v, e1, e2⟩ := key
  exact ⟨v, e1, (v, 0), e2, rfl, h'⟩
