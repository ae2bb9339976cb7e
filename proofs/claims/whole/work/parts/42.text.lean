/-! PURE 42: sign, end, row -/
theorem lgc_lt {a b : Int64} : lg_cmp a b < 0 ↔ a < b := by
  unfold lg_cmp
  by_cases h1 : a > b
  · rw [if_pos h1]
    have : ¬ a < b := by simp only [gt_iff_lt, Int64.lt_iff_toInt_lt] at *; omega
    simp [this]
  · rw [if_neg h1]
    by_cases h2 : a = b
    · rw [if_pos h2]; subst h2; simp
    · rw [if_neg h2]
      have : a < b := by
        have h3 : a.toInt ≠ b.toInt := fun e => h2 (Int64.toInt_inj.mp e)
        simp only [gt_iff_lt, Int64.lt_iff_toInt_lt] at *; omega
      simp [this]
theorem lgc_gt {a b : Int64} : 0 < lg_cmp a b ↔ b < a := by
  unfold lg_cmp
  by_cases h1 : a > b
  · rw [if_pos h1]; simp; exact h1
  · rw [if_neg h1]
    by_cases h2 : a = b
    · rw [if_pos h2]; subst h2; simp
    · rw [if_neg h2]
      have : ¬ b < a := h1
      simp [this]
theorem in_iff (p lo hi : Int64) : f_X7_in p lo hi = 0 ↔ (p < lo ∨ hi < p) := by
  unfold f_X7_in
  by_cases h1 : p < lo
  · rw [if_pos (lgc_lt.mpr h1)]; simp [h1]
  · rw [if_neg (fun q => h1 (lgc_lt.mp q))]
    by_cases h2 : hi < p
    · rw [if_pos (lgc_gt.mpr h2)]; simp [h2]
    · rw [if_neg (fun q => h2 (lgc_gt.mp q))]; simp [h1, h2]
theorem l_lt (p q : Int32) : p.toInt64 < q.toInt64 ↔ p < q := by
  rw [Int64.lt_iff_toInt_lt, Int32.lt_iff_toInt_lt, Int32.toInt_toInt64, Int32.toInt_toInt64]
theorem in32 (p q : Int32) : f_X7_in p.toInt64 0 q.toInt64 = 0 ↔ (p < 0 ∨ q < p) := by
  rw [in_iff, show (0 : Int64) = (0 : Int32).toInt64 from rfl, l_lt, l_lt]
theorem nonneg {p : Int32} (h : ¬ p < 0) : ∃ n : Nat, n < 2 ^ 31 ∧ p = nI n := by
  have h0 : (0 : Int32).toInt = 0 := rfl
  have h1 : 0 ≤ p.toInt := by
    rw [Int32.lt_iff_toInt_lt, h0] at h; omega
  have h2 : p.toInt < 2 ^ 31 := Int32.toInt_lt p
  refine ⟨p.toInt.toNat, by omega, Int32.toInt_inj.mp ?_⟩
  rw [nI_toInt (by omega)]; omega
theorem le_nI {p : Int32} {n : Nat} (hn : n < 2 ^ 31) (h0 : ¬ p < 0) (h : p ≤ nI n) : ∃ k, k ≤ n ∧ p = nI k := by
  obtain ⟨k, hk, rfl⟩ := nonneg h0
  exact ⟨k, (nI_leI hk hn).mp h, rfl⟩
theorem i_nlt {a b : Int32} : ¬ a < b ↔ b ≤ a := by
  rw [Int32.lt_iff_toInt_lt, Int32.le_iff_toInt_le]; omega
theorem nI_m1 {n : Nat} : nI (n + 1) - 1 = nI n := by
  rw [← nI_1]
  apply Int32.toBitVec_inj.mp
  simp
theorem inv_1 (x_words : Nat → Int32) (x_wordCount : Int32) (x_size : Int32) (x_signs : Nat → Int32) (x_next : Int32) (g_longest : Nat → Int32) (g_many : Nat → Int64) (g_layers : Nat → Int32) (g_length : Int32) (g_aheadOf : Nat → Int32) (g_cameFrom : Nat → Int32) (g_queue : Nat → Int32) (r_numbers : Nat → Int64) (r_size : Int32) (p_size : Int32) (t_filled : Nat → Int32) (nd : Nat → ND) (m_thrown : Int32) (m_told : Int32) (m_row : Nat → Int64) (m_tape : Nat → Int32) (m_taped : Int32) (m_at : Int32) (m_to : Int32) (m_mem : Nat → Int32) (m_undos : Int32) (m_places : Nat → Int32) (m_movers : Nat → Int32) (m_far : Nat → Int32) (m_way : Nat → Int32) (m_wayMany : Int32) (m_fromOf : Nat → Int32) (m_toOf : Nat → Int32) (m_longest : Nat → Int32) (m_wayCount : Nat → Int64) (m_thin : Nat → Int32) (m_ahead : Nat → Int32) (m_tried : Int32) (m_foundLow : Int32) (m_foundHigh : Int32) (m_nextLow : Int32) (m_nextHigh : Int32) (m_act : Nat → Int32) (m_first : Nat → Int32) (m_second : Nat → Int32) (m_random : Int32) (m_isKept : Nat → Int32) (x y : Int32) (h : Inv x_words x_wordCount x_size x_signs x_next g_longest g_many g_layers g_length g_aheadOf g_cameFrom g_queue r_numbers r_size p_size t_filled nd m_thrown m_told m_row m_tape m_taped m_at m_to m_mem m_undos m_places m_movers m_far m_way m_wayMany m_fromOf m_toOf m_longest m_wayCount m_thin m_ahead m_tried m_foundLow m_foundHigh m_nextLow m_nextHigh m_act m_first m_second m_random m_isKept) : S_1 Inv x_words x_wordCount x_size x_signs x_next g_longest g_many g_layers g_length g_aheadOf g_cameFrom g_queue r_numbers r_size p_size t_filled nd m_thrown m_told m_row m_tape m_taped m_at m_to m_mem m_undos m_places m_movers m_far m_way m_wayMany m_fromOf m_toOf m_longest m_wayCount m_thin m_ahead m_tried m_foundLow m_foundHigh m_nextLow m_nextHigh m_act m_first m_second m_random m_isKept x y := by
  obtain ⟨hN, hP, hK, hR, z, hz, e1, e2, hs⟩ := h
  subst e1 e2
  unfold S_1
  by_cases h0 : x < 0
  · have e : f_X6_end (nI z) x = (0, nI z) := by simp [f_X6_end, f_X5_cut, h0]
    have e' : f_X7_end m_thrown (nI z) x = (0, 0, nI z) := by
      unfold f_X7_end
      rw [if_pos ((in32 _ _).mpr (.inl h0))]
    rw [e, e']
    exact ⟨rfl, hN, hP, hK, hR, z, hz, rfl, rfl, hs⟩
  · by_cases h1 : x ≤ nI z
    · obtain ⟨k, hk, rfl⟩ := le_nI (by omega) h0 h1
      have e : f_X6_end (nI z) (nI k) = (1, nI k) := by simp [f_X6_end, f_X5_cut, h0, h1]
      have e' : f_X7_end m_thrown (nI z) (nI k) = (1, 0, nI k) := by
        unfold f_X7_end
        rw [if_neg (fun q => ((in32 _ _).mp q).elim h0 (fun q => i_nlt.mpr h1 q))]
      rw [e, e']
      exact ⟨rfl, hN, hP, hK, hR, k, by omega, rfl, rfl, fun i hi => hs i (by omega)⟩
    · have e : f_X6_end (nI z) x = (0, nI z) := by simp [f_X6_end, f_X5_cut, h0, h1]
      have e' : f_X7_end m_thrown (nI z) x = (0, 0, nI z) := by
        unfold f_X7_end
        rw [if_pos ((in32 _ _).mpr (.inr (Decidable.byContradiction fun q => h1 (i_nlt.mp q))))]
      rw [e, e']
      exact ⟨rfl, hN, hP, hK, hR, z, hz, rfl, rfl, hs⟩
theorem inv_36 (x_words : Nat → Int32) (x_wordCount : Int32) (x_size : Int32) (x_signs : Nat → Int32) (x_next : Int32) (g_longest : Nat → Int32) (g_many : Nat → Int64) (g_layers : Nat → Int32) (g_length : Int32) (g_aheadOf : Nat → Int32) (g_cameFrom : Nat → Int32) (g_queue : Nat → Int32) (r_numbers : Nat → Int64) (r_size : Int32) (p_size : Int32) (t_filled : Nat → Int32) (nd : Nat → ND) (m_thrown : Int32) (m_told : Int32) (m_row : Nat → Int64) (m_tape : Nat → Int32) (m_taped : Int32) (m_at : Int32) (m_to : Int32) (m_mem : Nat → Int32) (m_undos : Int32) (m_places : Nat → Int32) (m_movers : Nat → Int32) (m_far : Nat → Int32) (m_way : Nat → Int32) (m_wayMany : Int32) (m_fromOf : Nat → Int32) (m_toOf : Nat → Int32) (m_longest : Nat → Int32) (m_wayCount : Nat → Int64) (m_thin : Nat → Int32) (m_ahead : Nat → Int32) (m_tried : Int32) (m_foundLow : Int32) (m_foundHigh : Int32) (m_nextLow : Int32) (m_nextHigh : Int32) (m_act : Nat → Int32) (m_first : Nat → Int32) (m_second : Nat → Int32) (m_random : Int32) (m_isKept : Nat → Int32) (x y : Int32) (h : Inv x_words x_wordCount x_size x_signs x_next g_longest g_many g_layers g_length g_aheadOf g_cameFrom g_queue r_numbers r_size p_size t_filled nd m_thrown m_told m_row m_tape m_taped m_at m_to m_mem m_undos m_places m_movers m_far m_way m_wayMany m_fromOf m_toOf m_longest m_wayCount m_thin m_ahead m_tried m_foundLow m_foundHigh m_nextLow m_nextHigh m_act m_first m_second m_random m_isKept) : S_36 Inv x_words x_wordCount x_size x_signs x_next g_longest g_many g_layers g_length g_aheadOf g_cameFrom g_queue r_numbers r_size p_size t_filled nd m_thrown m_told m_row m_tape m_taped m_at m_to m_mem m_undos m_places m_movers m_far m_way m_wayMany m_fromOf m_toOf m_longest m_wayCount m_thin m_ahead m_tried m_foundLow m_foundHigh m_nextLow m_nextHigh m_act m_first m_second m_random m_isKept x y := by
  obtain ⟨hN, hP, hK, ⟨r, hr, e1, e2, hs⟩, hT⟩ := h
  subst e1 e2
  unfold S_36
  by_cases h0 : x < 0
  · have e : f_X7_row m_thrown (nI r) m_row x = some (0, 1) := by
      unfold f_X7_row
      rw [if_pos ((in32 _ _).mpr (.inl h0))]
      rfl
    exact ⟨_, e, .inl ⟨.inl h0, rfl, hN, hP, hK, ⟨r, hr, rfl, rfl, hs⟩, hT⟩⟩
  · by_cases h1 : nI r ≤ x
    · have e : f_X7_row m_thrown (nI r) m_row x = some (0, 1) := by
        unfold f_X7_row
        rw [if_pos ((in32 _ _).mpr (.inr ?_))]
        · rfl
        · obtain ⟨k, hk, rfl⟩ := nonneg h0
          have h2 := (nI_leI (by omega) hk).mp h1
          cases r with
          | zero =>
            rw [Int32.lt_iff_toInt_lt, nI_toInt hk]
            have : (nI 0 - 1).toInt = -1 := rfl
            rw [this]; omega
          | succ r => rw [nI_m1, nI_ltI (by omega) hk]; omega
      exact ⟨_, e, .inl ⟨.inr h1, rfl, hN, hP, hK, ⟨r, hr, rfl, rfl, hs⟩, hT⟩⟩
    · obtain ⟨k, hk, rfl⟩ := nonneg h0
      have h2 : k < r := by
        rw [nI_leI (by omega) hk] at h1; omega
      have e : f_X7_row m_thrown (nI r) m_row (nI k) = some (m_row k, 0) := by
        unfold f_X7_row
        rw [if_neg ?_]
        · unfold f_X7_row_b22
          rw [if_neg (by decide), chk_nI (by omega) (by decide), ix_nI hk]
          rfl
        · rw [in32]
          intro q
          rcases q with q | q
          · exact h0 q
          · cases r with
            | zero => omega
            | succ r => rw [nI_m1, nI_ltI (by omega) hk] at q; omega
      refine ⟨_, e, .inr ⟨r_numbers k, ?_, rfl, hs k h2, hN, hP, hK, ⟨r, hr, rfl, rfl, hs⟩, hT⟩⟩
      unfold f_X6_row
      rw [if_neg h0, if_pos ((nI_ltI hk (by omega)).mpr h2), chk_nI (by omega) (by decide), ix_nI hk]
