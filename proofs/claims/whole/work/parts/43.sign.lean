/-! PURE 43: sign -/
theorem upds (f v : Nat → Int32) (z i : Nat) : ∀ j : Nat, itr (fun k f => upd f (z + k) (v k)) f j i = if z ≤ i ∧ i < z + j then v (i - z) else f i := by
  intro j
  induction j with
  | zero =>
    rw [if_neg (by omega)]
    rfl
  | succ j ih =>
    show upd (itr (fun k f => upd f (z + k) (v k)) f j) (z + j) (v j) i = _
    unfold upd
    by_cases e : i = z + j
    · subst e
      rw [if_pos rfl, if_pos (by omega)]
      congr 1
      omega
    · rw [if_neg e]
      show itr (fun k f => upd f (z + k) (v k)) f j i = _
      rw [ih]
      by_cases h : z ≤ i ∧ i < z + j
      · rw [if_pos h, if_pos (by omega)]
      · rw [if_neg h, if_neg (by omega)]
def byC (p : Int32) (k : Nat) : Int32 := (jushr p (24 - 8 * nI k)) &&& 255
def byM (p : Int32) (k : Nat) : Int32 := (jshr p (24 - 8 * nI k)) &&& 255
theorem bt_255 (k : Nat) : bt 255 k = decide (k < 8) := by
  have : ∀ k, k < 32 → bt 255 k = decide (k < 8) := by decide +kernel
  by_cases hk : k < 32
  · exact this k hk
  · rw [bt_big (by omega)]
    have : ¬ k < 8 := by omega
    simp [this]
theorem by_eq (p : Int32) {k : Nat} (hk : k < 4) : byC p k = byM p k := by
  have key : ∀ s, s ≤ 24 → (jushr p (nI s)).toBitVec = p.toBitVec >>> s → jushr p (nI s) &&& 255 = jshr p (nI s) &&& 255 := by
    intro s hs he
    apply bt_ext
    intro j hj
    rw [bt_and, bt_and, bt_255]
    by_cases h8 : j < 8
    · have e1 : bt (jushr p (nI s)) j = bt p (s + j) := by
        unfold bt
        rw [he, BitVec.getLsbD_ushiftRight]
      have e2 : bt (jshr p (nI s)) j = bt p (s + j) := by
        unfold bt
        rw [toBV_shr (by omega), BitVec.getLsbD_sshiftRight]
        have : s + j < 32 := by omega
        simp [this]
        intro h; omega
      rw [e1, e2]
    · simp [h8]
  match k, hk with
  | 0, _ => exact key 24 (by decide) rfl
  | 1, _ => exact key 16 (by decide) rfl
  | 2, _ => exact key 8 (by decide) rfl
  | 3, _ => exact key 0 (by decide) rfl
theorem c_addFour {z : Nat} (hz : z ≤ 76) (f : Nat → Int32) (p : Int32) : f_X5_addFour (nI z) f p = some (1, nI (z + 4), itr (fun k f => upd f (z + k) (byC p k)) f 4) := by
  unfold f_X5_addFour
  rw [if_pos (show nI z ≤ 76 from (nI_leI (a := z) (b := 76) (by omega) (by decide)).mpr hz)]
  unfold f_X5_addFour_l14
  refine loop_run (fun j => (24 - 8 * nI j, nI (z + j), itr (fun k f => upd f (z + k) (byC p k)) f j)) 4 200 (by decide) ?_ ?_
  · intro j hj rc
    show f_X5_addFour_b14 _ _ _ _ _ = _
    unfold f_X5_addFour_b14
    have h1 : ∀ j, j < 4 → ¬ (24 - 8 * nI j < 0) ∧ 24 - 8 * nI j + (-8) = 24 - 8 * nI (j + 1) := by decide +kernel
    rw [if_neg (h1 j hj).1, chk_nI (by omega) (by decide), ix_nI (by omega), nI_1, (h1 j hj).2]
    rfl
  · intro rc
    rfl
theorem m_sign {z : Nat} (hz : z ≤ 76) (t : Int32) (f : Nat → Int32) (p : Int32) : f_X7_sign t f (nI z) p = some (nI (z + 4), 0, itr (fun k f => upd f (z + k) (byM p k)) f 4, nI (z + 4)) := by
  unfold f_X7_sign
  rw [if_pos (show nI z ≤ 76 from (nI_leI (a := z) (b := 76) (by omega) (by decide)).mpr hz)]
  unfold f_X7_sign_l18
  refine loop_run (fun j => (nI j, 0, itr (fun k f => upd f (z + k) (byM p k)) f j)) 4 200 (by decide) ?_ ?_
  · intro j hj rc
    show f_X7_sign_b18 _ _ _ _ _ _ = _
    unfold f_X7_sign_b18
    have h1 : ∀ j, j < 4 → ¬ (4 ≤ nI j) := by decide +kernel
    rw [if_neg (h1 j hj), nI_add, chk_nI (by omega) (by decide), ix_nI (by omega), nI_1]
    rfl
  · intro rc
    show f_X7_sign_b18 _ _ _ _ _ _ = _
    unfold f_X7_sign_b18
    rw [if_pos (show (4 : Int32) ≤ nI 4 by decide), show (4 : Int32) = nI 4 from rfl, nI_add]
theorem inv_0 (x_words : Nat → Int32) (x_wordCount : Int32) (x_size : Int32) (x_signs : Nat → Int32) (x_next : Int32) (g_longest : Nat → Int32) (g_many : Nat → Int64) (g_layers : Nat → Int32) (g_length : Int32) (g_aheadOf : Nat → Int32) (g_cameFrom : Nat → Int32) (g_queue : Nat → Int32) (r_numbers : Nat → Int64) (r_size : Int32) (p_size : Int32) (t_filled : Nat → Int32) (nd : Nat → ND) (m_thrown : Int32) (m_told : Int32) (m_row : Nat → Int64) (m_tape : Nat → Int32) (m_taped : Int32) (m_at : Int32) (m_to : Int32) (m_mem : Nat → Int32) (m_undos : Int32) (m_places : Nat → Int32) (m_movers : Nat → Int32) (m_far : Nat → Int32) (m_way : Nat → Int32) (m_wayMany : Int32) (m_fromOf : Nat → Int32) (m_toOf : Nat → Int32) (m_longest : Nat → Int32) (m_wayCount : Nat → Int64) (m_thin : Nat → Int32) (m_ahead : Nat → Int32) (m_tried : Int32) (m_foundLow : Int32) (m_foundHigh : Int32) (m_nextLow : Int32) (m_nextHigh : Int32) (m_act : Nat → Int32) (m_first : Nat → Int32) (m_second : Nat → Int32) (m_random : Int32) (m_isKept : Nat → Int32) (x y : Int32) (h : Inv x_words x_wordCount x_size x_signs x_next g_longest g_many g_layers g_length g_aheadOf g_cameFrom g_queue r_numbers r_size p_size t_filled nd m_thrown m_told m_row m_tape m_taped m_at m_to m_mem m_undos m_places m_movers m_far m_way m_wayMany m_fromOf m_toOf m_longest m_wayCount m_thin m_ahead m_tried m_foundLow m_foundHigh m_nextLow m_nextHigh m_act m_first m_second m_random m_isKept) : S_0 Inv x_words x_wordCount x_size x_signs x_next g_longest g_many g_layers g_length g_aheadOf g_cameFrom g_queue r_numbers r_size p_size t_filled nd m_thrown m_told m_row m_tape m_taped m_at m_to m_mem m_undos m_places m_movers m_far m_way m_wayMany m_fromOf m_toOf m_longest m_wayCount m_thin m_ahead m_tried m_foundLow m_foundHigh m_nextLow m_nextHigh m_act m_first m_second m_random m_isKept x y := by
  obtain ⟨hN, hP, hK, hR, z, hz, e1, e2, hs⟩ := h
  subst e1 e2
  unfold S_0
  by_cases h1 : z ≤ 76
  · refine ⟨(nI (z + 4), nI (z + 4), itr (fun k f => upd f (z + k) (byC x k)) x_signs 4), ?_, _, m_sign h1 _ _ _, rfl, hN, hP, hK, hR, z + 4, by omega, rfl, rfl, ?_⟩
    · unfold f_X6_sign
      rw [c_addFour h1]
      rfl
    · intro i hi
      show itr (fun k f => upd f (z + k) (byC x k)) x_signs 4 i = itr (fun k f => upd f (z + k) (byM x k)) m_tape 4 i
      rw [upds, upds]
      by_cases h : z ≤ i ∧ i < z + 4
      · rw [if_pos h, if_pos h, by_eq x (by omega)]
      · rw [if_neg h, if_neg h]
        exact hs i (by omega)
  · have hn : ¬ nI z ≤ 76 := by
      rw [show (76 : Int32) = nI 76 from rfl, nI_leI (by omega) (by decide)]
      exact h1
    refine ⟨(-1, nI z, x_signs), ?_, (-1, 0, m_tape, nI z), ?_, rfl, hN, hP, hK, hR, z, hz, rfl, rfl, hs⟩
    · unfold f_X6_sign f_X5_addFour
      rw [if_neg hn]
      rfl
    · unfold f_X7_sign
      rw [if_neg hn]
