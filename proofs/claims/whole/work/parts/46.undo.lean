/-! PURE 46: undo -/
theorem BN_cpo {n : ND} {mem : Nat → Int32} {q1 q2 q : Nat} {a : AN} (h : BN n mem (q * 179) a) (hq : q ≠ q2) : BN n (cpy mem q1 q2) (q * 179) a := ⟨h.1, MN_cpo h.2.2 h.2.1 hq, h.2.2⟩
theorem BN_cpy {n n' : ND} {mem : Nat → Int32} {q1 q2 : Nat} {a : AN} (h : BN n mem (q1 * 179) a) (h' : CN n' a) : BN n' (cpy mem q1 q2) (q2 * 179) a := ⟨h', MN_cpy h.2.2 h.2.1, h.2.2⟩
theorem inv_31 (x_words : Nat → Int32) (x_wordCount : Int32) (x_size : Int32) (x_signs : Nat → Int32) (x_next : Int32) (g_longest : Nat → Int32) (g_many : Nat → Int64) (g_layers : Nat → Int32) (g_length : Int32) (g_aheadOf : Nat → Int32) (g_cameFrom : Nat → Int32) (g_queue : Nat → Int32) (r_numbers : Nat → Int64) (r_size : Int32) (p_size : Int32) (t_filled : Nat → Int32) (nd : Nat → ND) (m_thrown : Int32) (m_told : Int32) (m_row : Nat → Int64) (m_tape : Nat → Int32) (m_taped : Int32) (m_at : Int32) (m_to : Int32) (m_mem : Nat → Int32) (m_undos : Int32) (m_places : Nat → Int32) (m_movers : Nat → Int32) (m_far : Nat → Int32) (m_way : Nat → Int32) (m_wayMany : Int32) (m_fromOf : Nat → Int32) (m_toOf : Nat → Int32) (m_longest : Nat → Int32) (m_wayCount : Nat → Int64) (m_thin : Nat → Int32) (m_ahead : Nat → Int32) (m_tried : Int32) (m_foundLow : Int32) (m_foundHigh : Int32) (m_nextLow : Int32) (m_nextHigh : Int32) (m_act : Nat → Int32) (m_first : Nat → Int32) (m_second : Nat → Int32) (m_random : Int32) (m_isKept : Nat → Int32) (x y : Int32) (h : Inv x_words x_wordCount x_size x_signs x_next g_longest g_many g_layers g_length g_aheadOf g_cameFrom g_queue r_numbers r_size p_size t_filled nd m_thrown m_told m_row m_tape m_taped m_at m_to m_mem m_undos m_places m_movers m_far m_way m_wayMany m_fromOf m_toOf m_longest m_wayCount m_thin m_ahead m_tried m_foundLow m_foundHigh m_nextLow m_nextHigh m_act m_first m_second m_random m_isKept) : S_31 Inv x_words x_wordCount x_size x_signs x_next g_longest g_many g_layers g_length g_aheadOf g_cameFrom g_queue r_numbers r_size p_size t_filled nd m_thrown m_told m_row m_tape m_taped m_at m_to m_mem m_undos m_places m_movers m_far m_way m_wayMany m_fromOf m_toOf m_longest m_wayCount m_thin m_ahead m_tried m_foundLow m_foundHigh m_nextLow m_nextHigh m_act m_first m_second m_random m_isKept x y := by
  obtain ⟨hN, ⟨u, hu, e1, e2, hP⟩, hK, hR, hT⟩ := h
  subst e1 e2
  unfold S_31
  cases u with
  | zero =>
    refine ⟨(-1, 0, m_mem, nI 0), ?_, .inl ⟨rfl, rfl, hN, ⟨0, hu, rfl, rfl, hP⟩, hK, hR, hT⟩⟩
    unfold f_X7_undo
    rw [if_pos (show nI 0 = 0 from rfl)]
  | succ k =>
    have hne : ¬ nI (k + 1) = 0 := by
      rw [show (0 : Int32) = nI 0 from rfl, nI_eq (by omega) (by omega)]
      omega
    refine ⟨(nI k, 0, cpy m_mem (5 + k) 0, nI k), ?_, .inr ⟨k, by omega, rfl, nI_m1.symm, ?_, ⟨k, by omega, nI_m1, rfl, ?_⟩, ?_, hR, hT⟩⟩
    · unfold f_X7_undo
      rw [if_neg hne, nI_m1, show (5 : Int32) = nI 5 from rfl, nI_add, show (0 : Int32) = nI 0 from rfl, m_copies m_mem (by omega) (by omega) (by omega)]
      rfl
    · obtain ⟨a, ha⟩ := hP k (by omega)
      exact ⟨a, (BN_cpy (q2 := 0) ha (show CN (nd (tau k 0)) a from ha.1) : BN _ _ (0 * 179) a)⟩
    · intro j hj
      obtain ⟨a, ha⟩ := hP j (by omega)
      refine ⟨a, ?_⟩
      have e : tau k (4 + j) = 4 + j := by
        unfold tau
        rw [if_neg (by omega), if_neg (by omega)]
      show BN (nd (tau k (4 + j))) _ _ a
      rw [e]
      exact BN_cpo ha (by omega)
    · intro i hi
      obtain ⟨h1, h2⟩ := hK i hi
      refine ⟨h1, ?_⟩
      rcases h2 with h2 | ⟨h2, a, ha⟩
      · exact .inl h2
      · refine .inr ⟨h2, a, ?_⟩
        have e : tau k (2 + i) = 2 + i := by
          unfold tau
          rw [if_neg (by omega), if_neg (by omega)]
        show BN (nd (tau k (2 + i))) _ _ a
        rw [e]
        exact BN_cpo ha (by omega)
