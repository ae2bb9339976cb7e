/-! PURE 93: case 30 -/
theorem m_lmany {mem : Nat → Int32} {a : AN} (h : MN mem 0 a) : f_X7_linkMany mem 0 = some (nI (nl a)) := by
  rw [show f_X7_linkMany mem 0 = _ from m_linkMany (q := 0) (h : MN mem (0 * 179) a) (by omega), nl_nI]
theorem sgm0 {k : Nat} : sgm k 0 = 0 := by
  unfold sgm
  by_cases h : k < 8
  · rw [if_pos h, if_neg (by omega), if_neg (by omega)]
  · rw [if_neg h, if_neg (by omega), if_neg (by omega)]
theorem inv_30 (x_words : Nat → Int32) (x_wordCount : Int32) (x_size : Int32) (x_signs : Nat → Int32) (x_next : Int32) (g_longest : Nat → Int32) (g_many : Nat → Int64) (g_layers : Nat → Int32) (g_length : Int32) (g_aheadOf : Nat → Int32) (g_cameFrom : Nat → Int32) (g_queue : Nat → Int32) (r_numbers : Nat → Int64) (r_size : Int32) (p_size : Int32) (t_filled : Nat → Int32) (nd : Nat → ND) (m_thrown : Int32) (m_told : Int32) (m_row : Nat → Int64) (m_tape : Nat → Int32) (m_taped : Int32) (m_at : Int32) (m_to : Int32) (m_mem : Nat → Int32) (m_undos : Int32) (m_places : Nat → Int32) (m_movers : Nat → Int32) (m_far : Nat → Int32) (m_way : Nat → Int32) (m_wayMany : Int32) (m_fromOf : Nat → Int32) (m_toOf : Nat → Int32) (m_longest : Nat → Int32) (m_wayCount : Nat → Int64) (m_thin : Nat → Int32) (m_ahead : Nat → Int32) (m_tried : Int32) (m_foundLow : Int32) (m_foundHigh : Int32) (m_nextLow : Int32) (m_nextHigh : Int32) (m_act : Nat → Int32) (m_first : Nat → Int32) (m_second : Nat → Int32) (m_random : Int32) (m_isKept : Nat → Int32) (x y : Int32) (h : Inv x_words x_wordCount x_size x_signs x_next g_longest g_many g_layers g_length g_aheadOf g_cameFrom g_queue r_numbers r_size p_size t_filled nd m_thrown m_told m_row m_tape m_taped m_at m_to m_mem m_undos m_places m_movers m_far m_way m_wayMany m_fromOf m_toOf m_longest m_wayCount m_thin m_ahead m_tried m_foundLow m_foundHigh m_nextLow m_nextHigh m_act m_first m_second m_random m_isKept) : S_30 Inv x_words x_wordCount x_size x_signs x_next g_longest g_many g_layers g_length g_aheadOf g_cameFrom g_queue r_numbers r_size p_size t_filled nd m_thrown m_told m_row m_tape m_taped m_at m_to m_mem m_undos m_places m_movers m_far m_way m_wayMany m_fromOf m_toOf m_longest m_wayCount m_thin m_ahead m_tried m_foundLow m_foundHigh m_nextLow m_nextHigh m_act m_first m_second m_random m_isKept x y := by
  obtain ⟨⟨a, hC, hM, hW⟩, hP, hK, hR, ⟨z, hz, z1, z2, hs⟩⟩ := h
  unfold S_30
  intro sa bb
  have hM0 := Mc0 hW hM
  have agR : agr m_mem m_mem := fun _ _ _ _ _ _ => rfl
  have ag0 : agr m_mem (cpy m_mem 0 3) := agr_cpy _ (.inr (.inl rfl))
  unfold f_X6_day f_X7_day f_X7_reads f_X5_clear
  rw [z1, z2]
  dsimp only
  rcases rd_day hz hs x_words x_wordCount x_next m_told m_row m_mem m_undos m_places m_movers m_far m_way m_wayMany m_thin m_act m_first m_second with ⟨w', wc', q, act', fi', se', e1, e2⟩ | ⟨w', k, act', fi', se', hk, e1, e2, hw⟩
  · rw [e1, sbind, e2]
    dsimp only
    rw [if_pos rfl]
    unfold f_X5_wrongSign
    exact ⟨_, rfl, _, rfl, rfl, .inl ⟨rfl, rfl, ⟨a, hC, hM, hW⟩, (chgP agR hP hK _ _).1, (chgP agR hP hK _ _).2, hR, Tx0 _ _⟩⟩
  · rw [e1, sbind, e2]
    dsimp only
    rw [if_neg one0, Mcp, sbind]
    refine day_loop hC hM0 hW hk hw sa bb _ _ _ _ _ _ _ _ _ _ _ _ _ _ _ _ _ _ _ _ _ _ _ _ _ _ _ ?_
    intro J lay len rn rs nr ord it nm ow mov all sz cn m1 pls mvs far way wm th a' hJ ho hA
    unfold f_X6_day_b80 f_X7_day_b70
    unfold f_X6_day_b91 f_X6_day_b111 f_X7_day_b78 f_X7_day_b94
    by_cases J0 : J = 0
    · have kk := c_lcnt hA.1 hA.2.2
      dsimp only at kk
      rw [if_pos (show nI J ≤ 0 by rw [J0]; decide), if_pos (show nI J ≤ 0 by rw [J0]; decide), kk, m_lmany hA.2.1]
      by_cases hJk : k ≤ J
      · have hle : nI k ≤ nI J := by rw [nI_leI (by omega) (by omega)]; exact hJk
        rw [if_pos hle, if_pos hle, c_tell, sbind, m_tell, sbind, flag0]
        dsimp only
        rw [sbind, sbind, c_add (r := 1) (by omega), sbind, m_enters (r := 1) (by omega), sbind]
        exact ⟨_, rfl, _, rfl, rfl, .inl ⟨rfl, rfl, ⟨a', hA⟩, (chgP (out_agr ag0 ho) hP hK _ _).1, (chgP (out_agr ag0 ho) hP hK _ _).2, Rw2 _ _ _ _, Tx0 _ _⟩⟩
      · have hle : ¬ nI k ≤ nI J := nle (by omega) (by omega)
        rw [if_neg hle, if_neg hle, c_tell, sbind, m_tell, sbind, flag1]
        dsimp only
        rw [sbind, sbind, c_add (r := 1) (by omega), sbind, m_enters (r := 1) (by omega), sbind]
        exact ⟨_, rfl, _, rfl, rfl, .inl ⟨rfl, rfl, ⟨a', hA⟩, (chgP (out_agr ag0 ho) hP hK _ _).1, (chgP (out_agr ag0 ho) hP hK _ _).2, Rw2 _ _ _ _, Tx0 _ _⟩⟩
    · obtain ⟨k', hk', ek, bb', sa', mem', g1, g2, g3, g4, g5⟩ := chgC (out_agr ag0 ho) hP hK hA (BN_aside (n12 := nd 12) ⟨hC, hM, hW⟩ (out_as ho)) sa bb
      have g3' := g3
      obtain ⟨b, hb⟩ := g3'
      dsimp only at hb
      rw [sgm0] at hb
      have hb0 : BN (nr, ord, it, nm, ow, mov, all, sz, cn) mem' 0 b := hb
      have kk := c_lcnt hb0.1 hb0.2.2
      dsimp only at kk
      have n0 : ¬ nI J ≤ 0 := by rw [show (0 : Int32) = nI 0 from rfl, nI_leI (by omega) (by omega)]; omega
      rw [if_neg n0, if_neg n0, g1, sbind, g2, sbind]
      dsimp only
      rw [kk, m_lmany hb0.2.1]
      by_cases hJk : k ≤ J
      · have hle : nI k ≤ nI J := by rw [nI_leI (by omega) (by omega)]; exact hJk
        rw [if_pos hle, if_pos hle, c_tell, sbind, m_tell, sbind, flag0]
        dsimp only
        rw [sbind, sbind, c_add (r := 1) (by omega), sbind, m_enters (r := 1) (by omega), sbind]
        exact ⟨_, rfl, _, rfl, rfl, .inr ⟨k', hk', ek, rfl, g3, g4, g5, Rw2 _ _ _ _, Tx0 _ _⟩⟩
      · have hle : ¬ nI k ≤ nI J := nle (by omega) (by omega)
        rw [if_neg hle, if_neg hle, c_tell, sbind, m_tell, sbind, flag1]
        dsimp only
        rw [sbind, sbind, c_add (r := 1) (by omega), sbind, m_enters (r := 1) (by omega), sbind]
        exact ⟨_, rfl, _, rfl, rfl, .inr ⟨k', hk', ek, rfl, g3, g4, g5, Rw2 _ _ _ _, Tx0 _ _⟩⟩
