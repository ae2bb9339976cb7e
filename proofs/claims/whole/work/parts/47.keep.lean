/-! PURE 47: keep, again -/
theorem inv_33_0 (x_words : Nat → Int32) (x_wordCount : Int32) (x_size : Int32) (x_signs : Nat → Int32) (x_next : Int32) (g_longest : Nat → Int32) (g_many : Nat → Int64) (g_layers : Nat → Int32) (g_length : Int32) (g_aheadOf : Nat → Int32) (g_cameFrom : Nat → Int32) (g_queue : Nat → Int32) (r_numbers : Nat → Int64) (r_size : Int32) (p_size : Int32) (t_filled : Nat → Int32) (nd : Nat → ND) (m_thrown : Int32) (m_told : Int32) (m_row : Nat → Int64) (m_tape : Nat → Int32) (m_taped : Int32) (m_at : Int32) (m_to : Int32) (m_mem : Nat → Int32) (m_undos : Int32) (m_places : Nat → Int32) (m_movers : Nat → Int32) (m_far : Nat → Int32) (m_way : Nat → Int32) (m_wayMany : Int32) (m_fromOf : Nat → Int32) (m_toOf : Nat → Int32) (m_longest : Nat → Int32) (m_wayCount : Nat → Int64) (m_thin : Nat → Int32) (m_ahead : Nat → Int32) (m_tried : Int32) (m_foundLow : Int32) (m_foundHigh : Int32) (m_nextLow : Int32) (m_nextHigh : Int32) (m_act : Nat → Int32) (m_first : Nat → Int32) (m_second : Nat → Int32) (m_random : Int32) (m_isKept : Nat → Int32) (x y : Int32) (h : Inv x_words x_wordCount x_size x_signs x_next g_longest g_many g_layers g_length g_aheadOf g_cameFrom g_queue r_numbers r_size p_size t_filled nd m_thrown m_told m_row m_tape m_taped m_at m_to m_mem m_undos m_places m_movers m_far m_way m_wayMany m_fromOf m_toOf m_longest m_wayCount m_thin m_ahead m_tried m_foundLow m_foundHigh m_nextLow m_nextHigh m_act m_first m_second m_random m_isKept) : S_33_0 Inv x_words x_wordCount x_size x_signs x_next g_longest g_many g_layers g_length g_aheadOf g_cameFrom g_queue r_numbers r_size p_size t_filled nd m_thrown m_told m_row m_tape m_taped m_at m_to m_mem m_undos m_places m_movers m_far m_way m_wayMany m_fromOf m_toOf m_longest m_wayCount m_thin m_ahead m_tried m_foundLow m_foundHigh m_nextLow m_nextHigh m_act m_first m_second m_random m_isKept x y := by
  obtain ⟨⟨a, ha⟩, ⟨u, hu, e1, e2, hP⟩, hK, hR, hT⟩ := h
  subst e1 e2
  unfold S_33_0
  refine ⟨(1, upd t_filled 0 1, (nd 0).1, (nd 0).2.1, (nd 0).2.2.1, (nd 0).2.2.2.1, (nd 0).2.2.2.2.1, (nd 0).2.2.2.2.2.2.1, (nd 0).2.2.2.2.2.2.2.1, (nd 0).2.2.2.2.2.2.2.2), rfl, (1, 0, cpy m_mem 0 1, upd m_isKept 0 1), ?_, rfl, ⟨a, ?_⟩, ⟨u, hu, rfl, rfl, ?_⟩, ?_, hR, hT⟩
  · unfold f_X7_keep
    rw [if_neg (by decide), show inb 0 2 = true by decide, chk_true, show f_X7_copies m_mem 0 (1 + 0) = some (cpy m_mem 0 1) from m_copies (q1 := 0) (q2 := 1) m_mem (by omega) (by omega) (by omega)]
    rfl
  · exact (BN_cpo (q := 0) ha (by omega) : BN (nd 0) (cpy m_mem 0 1) (0 * 179) a)
  · intro k hk
    obtain ⟨b, hb⟩ := hP k hk
    refine ⟨b, ?_⟩
    show BN (va_up nd 2 _ (4 + k)) _ _ b
    unfold va_up
    rw [if_neg (by omega)]
    exact BN_cpo hb (by omega)
  · intro i hi
    obtain ⟨h1, h2⟩ := hK i hi
    by_cases e : i = 0
    · subst e
      exact ⟨rfl, .inr ⟨rfl, a, BN_cpy (q1 := 0) (q2 := 1) (n := nd 0) ha (show CN (va_up nd 2 _ 2) a from ha.1)⟩⟩
    · refine ⟨?_, ?_⟩
      · show upd t_filled 0 1 i = upd m_isKept 0 1 i
        unfold upd
        rw [if_neg e, if_neg e]
        exact h1
      · have e3 : upd t_filled 0 1 i = t_filled i := by
          unfold upd
          rw [if_neg e]
        rcases h2 with h2 | ⟨h2, b, hb⟩
        · exact .inl (e3.trans h2)
        · refine .inr ⟨e3.trans h2, b, ?_⟩
          show BN (va_up nd 2 _ (2 + i)) _ _ b
          unfold va_up
          rw [if_neg (by omega)]
          exact BN_cpo hb (by omega)
theorem inv_34_0 (x_words : Nat → Int32) (x_wordCount : Int32) (x_size : Int32) (x_signs : Nat → Int32) (x_next : Int32) (g_longest : Nat → Int32) (g_many : Nat → Int64) (g_layers : Nat → Int32) (g_length : Int32) (g_aheadOf : Nat → Int32) (g_cameFrom : Nat → Int32) (g_queue : Nat → Int32) (r_numbers : Nat → Int64) (r_size : Int32) (p_size : Int32) (t_filled : Nat → Int32) (nd : Nat → ND) (m_thrown : Int32) (m_told : Int32) (m_row : Nat → Int64) (m_tape : Nat → Int32) (m_taped : Int32) (m_at : Int32) (m_to : Int32) (m_mem : Nat → Int32) (m_undos : Int32) (m_places : Nat → Int32) (m_movers : Nat → Int32) (m_far : Nat → Int32) (m_way : Nat → Int32) (m_wayMany : Int32) (m_fromOf : Nat → Int32) (m_toOf : Nat → Int32) (m_longest : Nat → Int32) (m_wayCount : Nat → Int64) (m_thin : Nat → Int32) (m_ahead : Nat → Int32) (m_tried : Int32) (m_foundLow : Int32) (m_foundHigh : Int32) (m_nextLow : Int32) (m_nextHigh : Int32) (m_act : Nat → Int32) (m_first : Nat → Int32) (m_second : Nat → Int32) (m_random : Int32) (m_isKept : Nat → Int32) (x y : Int32) (h : Inv x_words x_wordCount x_size x_signs x_next g_longest g_many g_layers g_length g_aheadOf g_cameFrom g_queue r_numbers r_size p_size t_filled nd m_thrown m_told m_row m_tape m_taped m_at m_to m_mem m_undos m_places m_movers m_far m_way m_wayMany m_fromOf m_toOf m_longest m_wayCount m_thin m_ahead m_tried m_foundLow m_foundHigh m_nextLow m_nextHigh m_act m_first m_second m_random m_isKept) : S_34_0 Inv x_words x_wordCount x_size x_signs x_next g_longest g_many g_layers g_length g_aheadOf g_cameFrom g_queue r_numbers r_size p_size t_filled nd m_thrown m_told m_row m_tape m_taped m_at m_to m_mem m_undos m_places m_movers m_far m_way m_wayMany m_fromOf m_toOf m_longest m_wayCount m_thin m_ahead m_tried m_foundLow m_foundHigh m_nextLow m_nextHigh m_act m_first m_second m_random m_isKept x y := by
  obtain ⟨⟨a, ha⟩, ⟨u, hu, e1, e2, hP⟩, hK, hR, hT⟩ := h
  subst e1 e2
  unfold S_34_0
  obtain ⟨k1, k2⟩ := hK 0 (by omega)
  rcases k2 with k2 | ⟨k2, b, hb⟩
  · refine ⟨(0, (nd 0).1, (nd 0).2.1, (nd 0).2.2.1, (nd 0).2.2.2.1, (nd 0).2.2.2.2.1, (nd 0).2.2.2.2.2.2.1, (nd 0).2.2.2.2.2.2.2.1, (nd 0).2.2.2.2.2.2.2.2, nI u), ?_, (0, 0, m_mem, nI u), ?_, rfl, ⟨a, ha⟩, ⟨u, hu, rfl, rfl, ?_⟩, ?_, hR, hT⟩
    · unfold f_X6_again_0
      rw [if_neg (by decide), if_neg (by decide), show inb 0 2 = true by decide, chk_true, show t_filled (ix 0) = 0 from k2, if_pos rfl]
    · unfold f_X7_again
      rw [if_neg (by decide), show inb 0 2 = true by decide, chk_true, show m_isKept (ix 0) = 0 from k1.symm.trans k2, if_pos rfl]
    · intro k hk
      obtain ⟨c, hc⟩ := hP k hk
      refine ⟨c, ?_⟩
      show BN (va_up nd 0 _ (4 + k)) _ _ c
      unfold va_up
      rw [if_neg (by omega)]
      exact hc
    · intro i hi
      obtain ⟨h1, h2⟩ := hK i hi
      refine ⟨h1, ?_⟩
      rcases h2 with h2 | ⟨h2, c, hc⟩
      · exact .inl h2
      · refine .inr ⟨h2, c, ?_⟩
        show BN (va_up nd 0 _ (2 + i)) _ _ c
        unfold va_up
        rw [if_neg (by omega)]
        exact hc
  · refine ⟨(1, (nd 2).1, (nd 2).2.1, (nd 2).2.2.1, (nd 2).2.2.2.1, (nd 2).2.2.2.2.1, (nd 2).2.2.2.2.2.2.1, (nd 2).2.2.2.2.2.2.2.1, (nd 2).2.2.2.2.2.2.2.2, 0), ?_, (1, 0, cpy m_mem 1 0, 0), ?_, rfl, ⟨b, ?_⟩, ⟨0, by omega, rfl, rfl, fun k hk => absurd hk (Nat.not_lt_zero k)⟩, ?_, hR, hT⟩
    · unfold f_X6_again_0
      rw [if_neg (by decide), if_neg (by decide), show inb 0 2 = true by decide, chk_true, show t_filled (ix 0) = 1 from k2, if_neg (by decide), chk_true]
      rfl
    · unfold f_X7_again
      rw [if_neg (by decide), show inb 0 2 = true by decide, chk_true, show m_isKept (ix 0) = 1 from k1.symm.trans k2, if_neg (by decide), show f_X7_copies m_mem (1 + 0) 0 = some (cpy m_mem 1 0) from m_copies (q1 := 1) (q2 := 0) m_mem (by omega) (by omega) (by omega)]
      rfl
    · exact (BN_cpy (q1 := 1) (q2 := 0) hb (show CN (va_up nd 0 _ 0) b from hb.1) : BN _ _ (0 * 179) b)
    · intro i hi
      obtain ⟨h1, h2⟩ := hK i hi
      refine ⟨h1, ?_⟩
      rcases h2 with h2 | ⟨h2, c, hc⟩
      · exact .inl h2
      · refine .inr ⟨h2, c, ?_⟩
        show BN (va_up nd 0 _ (2 + i)) _ _ c
        unfold va_up
        rw [if_neg (by omega)]
        exact BN_cpo hc (by omega)
theorem inv_33_1 (x_words : Nat → Int32) (x_wordCount : Int32) (x_size : Int32) (x_signs : Nat → Int32) (x_next : Int32) (g_longest : Nat → Int32) (g_many : Nat → Int64) (g_layers : Nat → Int32) (g_length : Int32) (g_aheadOf : Nat → Int32) (g_cameFrom : Nat → Int32) (g_queue : Nat → Int32) (r_numbers : Nat → Int64) (r_size : Int32) (p_size : Int32) (t_filled : Nat → Int32) (nd : Nat → ND) (m_thrown : Int32) (m_told : Int32) (m_row : Nat → Int64) (m_tape : Nat → Int32) (m_taped : Int32) (m_at : Int32) (m_to : Int32) (m_mem : Nat → Int32) (m_undos : Int32) (m_places : Nat → Int32) (m_movers : Nat → Int32) (m_far : Nat → Int32) (m_way : Nat → Int32) (m_wayMany : Int32) (m_fromOf : Nat → Int32) (m_toOf : Nat → Int32) (m_longest : Nat → Int32) (m_wayCount : Nat → Int64) (m_thin : Nat → Int32) (m_ahead : Nat → Int32) (m_tried : Int32) (m_foundLow : Int32) (m_foundHigh : Int32) (m_nextLow : Int32) (m_nextHigh : Int32) (m_act : Nat → Int32) (m_first : Nat → Int32) (m_second : Nat → Int32) (m_random : Int32) (m_isKept : Nat → Int32) (x y : Int32) (h : Inv x_words x_wordCount x_size x_signs x_next g_longest g_many g_layers g_length g_aheadOf g_cameFrom g_queue r_numbers r_size p_size t_filled nd m_thrown m_told m_row m_tape m_taped m_at m_to m_mem m_undos m_places m_movers m_far m_way m_wayMany m_fromOf m_toOf m_longest m_wayCount m_thin m_ahead m_tried m_foundLow m_foundHigh m_nextLow m_nextHigh m_act m_first m_second m_random m_isKept) : S_33_1 Inv x_words x_wordCount x_size x_signs x_next g_longest g_many g_layers g_length g_aheadOf g_cameFrom g_queue r_numbers r_size p_size t_filled nd m_thrown m_told m_row m_tape m_taped m_at m_to m_mem m_undos m_places m_movers m_far m_way m_wayMany m_fromOf m_toOf m_longest m_wayCount m_thin m_ahead m_tried m_foundLow m_foundHigh m_nextLow m_nextHigh m_act m_first m_second m_random m_isKept x y := by
  obtain ⟨⟨a, ha⟩, ⟨u, hu, e1, e2, hP⟩, hK, hR, hT⟩ := h
  subst e1 e2
  unfold S_33_1
  refine ⟨(1, upd t_filled 1 1, (nd 0).1, (nd 0).2.1, (nd 0).2.2.1, (nd 0).2.2.2.1, (nd 0).2.2.2.2.1, (nd 0).2.2.2.2.2.2.1, (nd 0).2.2.2.2.2.2.2.1, (nd 0).2.2.2.2.2.2.2.2), rfl, (1, 0, cpy m_mem 0 2, upd m_isKept 1 1), ?_, rfl, ⟨a, ?_⟩, ⟨u, hu, rfl, rfl, ?_⟩, ?_, hR, hT⟩
  · unfold f_X7_keep
    rw [if_neg (by decide), show inb 1 2 = true by decide, chk_true, show f_X7_copies m_mem 0 (1 + 1) = some (cpy m_mem 0 2) from m_copies (q1 := 0) (q2 := 2) m_mem (by omega) (by omega) (by omega)]
    rfl
  · exact (BN_cpo (q := 0) ha (by omega) : BN (nd 0) (cpy m_mem 0 2) (0 * 179) a)
  · intro k hk
    obtain ⟨b, hb⟩ := hP k hk
    refine ⟨b, ?_⟩
    show BN (va_up nd 3 _ (4 + k)) _ _ b
    unfold va_up
    rw [if_neg (by omega)]
    exact BN_cpo hb (by omega)
  · intro i hi
    obtain ⟨h1, h2⟩ := hK i hi
    by_cases e : i = 1
    · subst e
      exact ⟨rfl, .inr ⟨rfl, a, BN_cpy (q1 := 0) (q2 := 2) (n := nd 0) ha (show CN (va_up nd 3 _ 3) a from ha.1)⟩⟩
    · refine ⟨?_, ?_⟩
      · show upd t_filled 1 1 i = upd m_isKept 1 1 i
        unfold upd
        rw [if_neg e, if_neg e]
        exact h1
      · have e3 : upd t_filled 1 1 i = t_filled i := by
          unfold upd
          rw [if_neg e]
        rcases h2 with h2 | ⟨h2, b, hb⟩
        · exact .inl (e3.trans h2)
        · refine .inr ⟨e3.trans h2, b, ?_⟩
          show BN (va_up nd 3 _ (2 + i)) _ _ b
          unfold va_up
          rw [if_neg (by omega)]
          exact BN_cpo hb (by omega)
theorem inv_34_1 (x_words : Nat → Int32) (x_wordCount : Int32) (x_size : Int32) (x_signs : Nat → Int32) (x_next : Int32) (g_longest : Nat → Int32) (g_many : Nat → Int64) (g_layers : Nat → Int32) (g_length : Int32) (g_aheadOf : Nat → Int32) (g_cameFrom : Nat → Int32) (g_queue : Nat → Int32) (r_numbers : Nat → Int64) (r_size : Int32) (p_size : Int32) (t_filled : Nat → Int32) (nd : Nat → ND) (m_thrown : Int32) (m_told : Int32) (m_row : Nat → Int64) (m_tape : Nat → Int32) (m_taped : Int32) (m_at : Int32) (m_to : Int32) (m_mem : Nat → Int32) (m_undos : Int32) (m_places : Nat → Int32) (m_movers : Nat → Int32) (m_far : Nat → Int32) (m_way : Nat → Int32) (m_wayMany : Int32) (m_fromOf : Nat → Int32) (m_toOf : Nat → Int32) (m_longest : Nat → Int32) (m_wayCount : Nat → Int64) (m_thin : Nat → Int32) (m_ahead : Nat → Int32) (m_tried : Int32) (m_foundLow : Int32) (m_foundHigh : Int32) (m_nextLow : Int32) (m_nextHigh : Int32) (m_act : Nat → Int32) (m_first : Nat → Int32) (m_second : Nat → Int32) (m_random : Int32) (m_isKept : Nat → Int32) (x y : Int32) (h : Inv x_words x_wordCount x_size x_signs x_next g_longest g_many g_layers g_length g_aheadOf g_cameFrom g_queue r_numbers r_size p_size t_filled nd m_thrown m_told m_row m_tape m_taped m_at m_to m_mem m_undos m_places m_movers m_far m_way m_wayMany m_fromOf m_toOf m_longest m_wayCount m_thin m_ahead m_tried m_foundLow m_foundHigh m_nextLow m_nextHigh m_act m_first m_second m_random m_isKept) : S_34_1 Inv x_words x_wordCount x_size x_signs x_next g_longest g_many g_layers g_length g_aheadOf g_cameFrom g_queue r_numbers r_size p_size t_filled nd m_thrown m_told m_row m_tape m_taped m_at m_to m_mem m_undos m_places m_movers m_far m_way m_wayMany m_fromOf m_toOf m_longest m_wayCount m_thin m_ahead m_tried m_foundLow m_foundHigh m_nextLow m_nextHigh m_act m_first m_second m_random m_isKept x y := by
  obtain ⟨⟨a, ha⟩, ⟨u, hu, e1, e2, hP⟩, hK, hR, hT⟩ := h
  subst e1 e2
  unfold S_34_1
  obtain ⟨k1, k2⟩ := hK 1 (by omega)
  rcases k2 with k2 | ⟨k2, b, hb⟩
  · refine ⟨(0, (nd 0).1, (nd 0).2.1, (nd 0).2.2.1, (nd 0).2.2.2.1, (nd 0).2.2.2.2.1, (nd 0).2.2.2.2.2.2.1, (nd 0).2.2.2.2.2.2.2.1, (nd 0).2.2.2.2.2.2.2.2, nI u), ?_, (0, 0, m_mem, nI u), ?_, rfl, ⟨a, ha⟩, ⟨u, hu, rfl, rfl, ?_⟩, ?_, hR, hT⟩
    · unfold f_X6_again_1
      rw [if_neg (by decide), if_neg (by decide), show inb 1 2 = true by decide, chk_true, show t_filled (ix 1) = 0 from k2, if_pos rfl]
    · unfold f_X7_again
      rw [if_neg (by decide), show inb 1 2 = true by decide, chk_true, show m_isKept (ix 1) = 0 from k1.symm.trans k2, if_pos rfl]
    · intro k hk
      obtain ⟨c, hc⟩ := hP k hk
      refine ⟨c, ?_⟩
      show BN (va_up nd 0 _ (4 + k)) _ _ c
      unfold va_up
      rw [if_neg (by omega)]
      exact hc
    · intro i hi
      obtain ⟨h1, h2⟩ := hK i hi
      refine ⟨h1, ?_⟩
      rcases h2 with h2 | ⟨h2, c, hc⟩
      · exact .inl h2
      · refine .inr ⟨h2, c, ?_⟩
        show BN (va_up nd 0 _ (2 + i)) _ _ c
        unfold va_up
        rw [if_neg (by omega)]
        exact hc
  · refine ⟨(1, (nd 3).1, (nd 3).2.1, (nd 3).2.2.1, (nd 3).2.2.2.1, (nd 3).2.2.2.2.1, (nd 3).2.2.2.2.2.2.1, (nd 3).2.2.2.2.2.2.2.1, (nd 3).2.2.2.2.2.2.2.2, 0), ?_, (1, 0, cpy m_mem 2 0, 0), ?_, rfl, ⟨b, ?_⟩, ⟨0, by omega, rfl, rfl, fun k hk => absurd hk (Nat.not_lt_zero k)⟩, ?_, hR, hT⟩
    · unfold f_X6_again_1
      rw [if_neg (by decide), if_neg (by decide), show inb 1 2 = true by decide, chk_true, show t_filled (ix 1) = 1 from k2, if_neg (by decide), chk_true]
      rfl
    · unfold f_X7_again
      rw [if_neg (by decide), show inb 1 2 = true by decide, chk_true, show m_isKept (ix 1) = 1 from k1.symm.trans k2, if_neg (by decide), show f_X7_copies m_mem (1 + 1) 0 = some (cpy m_mem 2 0) from m_copies (q1 := 2) (q2 := 0) m_mem (by omega) (by omega) (by omega)]
      rfl
    · exact (BN_cpy (q1 := 2) (q2 := 0) hb (show CN (va_up nd 0 _ 0) b from hb.1) : BN _ _ (0 * 179) b)
    · intro i hi
      obtain ⟨h1, h2⟩ := hK i hi
      refine ⟨h1, ?_⟩
      rcases h2 with h2 | ⟨h2, c, hc⟩
      · exact .inl h2
      · refine .inr ⟨h2, c, ?_⟩
        show BN (va_up nd 0 _ (2 + i)) _ _ c
        unfold va_up
        rw [if_neg (by omega)]
        exact BN_cpo hc (by omega)
theorem in1 {x : Int32} (h0 : x ≠ 0) (h1 : x ≠ 1) : x < 0 ∨ 2 ≤ x := by
  by_cases hx : x < 0
  · exact .inl hx
  · obtain ⟨n, hn, rfl⟩ := nonneg hx
    refine .inr ((nI_leI (a := 2) (by omega) hn).mpr ?_)
    have a0 : n ≠ 0 := fun e => h0 (by rw [e]; rfl)
    have a1 : n ≠ 1 := fun e => h1 (by rw [e]; rfl)
    omega
theorem in01 {x : Int32} (h0 : x ≠ 0) (h1 : x ≠ 1) : f_X7_in x.toInt64 0 1 = 0 := by
  rw [show (1 : Int64) = (1 : Int32).toInt64 from rfl, in32]
  rcases in1 h0 h1 with h | h
  · exact .inl h
  · refine .inr ?_
    rw [Int32.le_iff_toInt_le] at h
    rw [Int32.lt_iff_toInt_lt]
    have e2 : (2 : Int32).toInt = 2 := rfl
    have e1 : (1 : Int32).toInt = 1 := rfl
    omega
theorem inv_33 (x_words : Nat → Int32) (x_wordCount : Int32) (x_size : Int32) (x_signs : Nat → Int32) (x_next : Int32) (g_longest : Nat → Int32) (g_many : Nat → Int64) (g_layers : Nat → Int32) (g_length : Int32) (g_aheadOf : Nat → Int32) (g_cameFrom : Nat → Int32) (g_queue : Nat → Int32) (r_numbers : Nat → Int64) (r_size : Int32) (p_size : Int32) (t_filled : Nat → Int32) (nd : Nat → ND) (m_thrown : Int32) (m_told : Int32) (m_row : Nat → Int64) (m_tape : Nat → Int32) (m_taped : Int32) (m_at : Int32) (m_to : Int32) (m_mem : Nat → Int32) (m_undos : Int32) (m_places : Nat → Int32) (m_movers : Nat → Int32) (m_far : Nat → Int32) (m_way : Nat → Int32) (m_wayMany : Int32) (m_fromOf : Nat → Int32) (m_toOf : Nat → Int32) (m_longest : Nat → Int32) (m_wayCount : Nat → Int64) (m_thin : Nat → Int32) (m_ahead : Nat → Int32) (m_tried : Int32) (m_foundLow : Int32) (m_foundHigh : Int32) (m_nextLow : Int32) (m_nextHigh : Int32) (m_act : Nat → Int32) (m_first : Nat → Int32) (m_second : Nat → Int32) (m_random : Int32) (m_isKept : Nat → Int32) (x y : Int32) (h : Inv x_words x_wordCount x_size x_signs x_next g_longest g_many g_layers g_length g_aheadOf g_cameFrom g_queue r_numbers r_size p_size t_filled nd m_thrown m_told m_row m_tape m_taped m_at m_to m_mem m_undos m_places m_movers m_far m_way m_wayMany m_fromOf m_toOf m_longest m_wayCount m_thin m_ahead m_tried m_foundLow m_foundHigh m_nextLow m_nextHigh m_act m_first m_second m_random m_isKept) : S_33 Inv x_words x_wordCount x_size x_signs x_next g_longest g_many g_layers g_length g_aheadOf g_cameFrom g_queue r_numbers r_size p_size t_filled nd m_thrown m_told m_row m_tape m_taped m_at m_to m_mem m_undos m_places m_movers m_far m_way m_wayMany m_fromOf m_toOf m_longest m_wayCount m_thin m_ahead m_tried m_foundLow m_foundHigh m_nextLow m_nextHigh m_act m_first m_second m_random m_isKept x y := by
  refine ⟨fun _ => inv_33_0 _ _ _ _ _ _ _ _ _ _ _ _ _ _ _ _ _ _ _ _ _ _ _ _ _ _ _ _ _ _ _ _ _ _ _ _ _ _ _ _ _ _ _ _ _ _ _ _ _ h, fun _ => inv_33_1 _ _ _ _ _ _ _ _ _ _ _ _ _ _ _ _ _ _ _ _ _ _ _ _ _ _ _ _ _ _ _ _ _ _ _ _ _ _ _ _ _ _ _ _ _ _ _ _ _ h, fun h0 h1 => ?_⟩
  unfold S_33_x
  intro bb sa
  refine ⟨0, ?_, (0, 0, m_mem, m_isKept), ?_, rfl, h⟩
  · unfold f_X6_keep_x
    rcases in1 h0 h1 with q | q
    · rw [if_pos q]
    · by_cases hx : x < 0
      · rw [if_pos hx]
      · rw [if_neg hx, if_neg (i_nlt.mpr q)]
  · unfold f_X7_keep
    rw [if_pos (in01 h0 h1)]
theorem inv_34 (x_words : Nat → Int32) (x_wordCount : Int32) (x_size : Int32) (x_signs : Nat → Int32) (x_next : Int32) (g_longest : Nat → Int32) (g_many : Nat → Int64) (g_layers : Nat → Int32) (g_length : Int32) (g_aheadOf : Nat → Int32) (g_cameFrom : Nat → Int32) (g_queue : Nat → Int32) (r_numbers : Nat → Int64) (r_size : Int32) (p_size : Int32) (t_filled : Nat → Int32) (nd : Nat → ND) (m_thrown : Int32) (m_told : Int32) (m_row : Nat → Int64) (m_tape : Nat → Int32) (m_taped : Int32) (m_at : Int32) (m_to : Int32) (m_mem : Nat → Int32) (m_undos : Int32) (m_places : Nat → Int32) (m_movers : Nat → Int32) (m_far : Nat → Int32) (m_way : Nat → Int32) (m_wayMany : Int32) (m_fromOf : Nat → Int32) (m_toOf : Nat → Int32) (m_longest : Nat → Int32) (m_wayCount : Nat → Int64) (m_thin : Nat → Int32) (m_ahead : Nat → Int32) (m_tried : Int32) (m_foundLow : Int32) (m_foundHigh : Int32) (m_nextLow : Int32) (m_nextHigh : Int32) (m_act : Nat → Int32) (m_first : Nat → Int32) (m_second : Nat → Int32) (m_random : Int32) (m_isKept : Nat → Int32) (x y : Int32) (h : Inv x_words x_wordCount x_size x_signs x_next g_longest g_many g_layers g_length g_aheadOf g_cameFrom g_queue r_numbers r_size p_size t_filled nd m_thrown m_told m_row m_tape m_taped m_at m_to m_mem m_undos m_places m_movers m_far m_way m_wayMany m_fromOf m_toOf m_longest m_wayCount m_thin m_ahead m_tried m_foundLow m_foundHigh m_nextLow m_nextHigh m_act m_first m_second m_random m_isKept) : S_34 Inv x_words x_wordCount x_size x_signs x_next g_longest g_many g_layers g_length g_aheadOf g_cameFrom g_queue r_numbers r_size p_size t_filled nd m_thrown m_told m_row m_tape m_taped m_at m_to m_mem m_undos m_places m_movers m_far m_way m_wayMany m_fromOf m_toOf m_longest m_wayCount m_thin m_ahead m_tried m_foundLow m_foundHigh m_nextLow m_nextHigh m_act m_first m_second m_random m_isKept x y := by
  refine ⟨fun _ => inv_34_0 _ _ _ _ _ _ _ _ _ _ _ _ _ _ _ _ _ _ _ _ _ _ _ _ _ _ _ _ _ _ _ _ _ _ _ _ _ _ _ _ _ _ _ _ _ _ _ _ _ h, fun _ => inv_34_1 _ _ _ _ _ _ _ _ _ _ _ _ _ _ _ _ _ _ _ _ _ _ _ _ _ _ _ _ _ _ _ _ _ _ _ _ _ _ _ _ _ _ _ _ _ _ _ _ _ h, fun h0 h1 => ?_⟩
  unfold S_34_x
  intro bb sa
  refine ⟨0, ?_, (0, 0, m_mem, m_undos), ?_, rfl, h⟩
  · unfold f_X6_again_x
    rcases in1 h0 h1 with q | q
    · rw [if_pos q]
    · by_cases hx : x < 0
      · rw [if_pos hx]
      · rw [if_neg hx, if_pos q]
  · unfold f_X7_again
    rw [if_pos (in01 h0 h1)]
