/-! PURE 48: rows told by a course; labels -/
def rwf (P : Nat → Bool) (v : Nat → Int64) (f : Nat → Int64) (j : Nat) : (Nat → Int64) × Nat := itr (fun j s => if P j then (vp_updL s.1 s.2 (v j), s.2 + 1) else s) (f, 0) j
theorem rwf_s (P : Nat → Bool) (v f : Nat → Int64) (j : Nat) : rwf P v f (j + 1) = if P j then (vp_updL (rwf P v f j).1 (rwf P v f j).2 (v j), (rwf P v f j).2 + 1) else rwf P v f j := rfl
theorem rwf_le (P : Nat → Bool) (v f : Nat → Int64) (j : Nat) : (rwf P v f j).2 ≤ j := by
  induction j with
  | zero => exact Nat.le_refl 0
  | succ j ih =>
    rw [rwf_s]
    by_cases h : P j = true
    · rw [if_pos h]; exact Nat.succ_le_succ ih
    · rw [if_neg h]; omega
theorem rwf_eq (P : Nat → Bool) (v f g : Nat → Int64) (j : Nat) : (rwf P v f j).2 = (rwf P v g j).2 ∧ ∀ i, i < (rwf P v f j).2 → (rwf P v f j).1 i = (rwf P v g j).1 i := by
  induction j with
  | zero => exact ⟨rfl, fun i hi => absurd hi (Nat.not_lt_zero i)⟩
  | succ j ih =>
    obtain ⟨h1, h2⟩ := ih
    rw [rwf_s, rwf_s]
    by_cases h : P j = true
    · rw [if_pos h, if_pos h]
      refine ⟨by show _ + 1 = _ + 1; rw [h1], fun i hi => ?_⟩
      show vp_updL _ _ _ i = vp_updL _ _ _ i
      unfold vp_updL
      rw [← h1]
      by_cases e : i = (rwf P v f j).2
      · rw [if_pos e, if_pos e]
      · rw [if_neg e, if_neg e]
        have hi' : i < (rwf P v f j).2 + 1 := hi
        exact h2 i (by omega)
    · rw [if_neg h, if_neg h]
      exact ⟨h1, h2⟩
theorem c_add {f : Nat → Int64} {r : Nat} (hr : r < 276) (v : Int64) : f_X4_add f (nI r) v = some (vp_updL f r v, nI (r + 1)) := by
  unfold f_X4_add
  rw [if_neg (show ¬ (276 : Int32) ≤ nI r by rw [show (276 : Int32) = nI 276 from rfl, nI_leI (by decide) (by omega)]; omega), chk_nI (by omega) (by decide), ix_nI (by omega), nI_1]
theorem c_tell {f : Nat → Int64} {z : Int32} (v : Int64) : f_X4_tell f z v = some (vp_updL f 0 v, nI 1) := by
  unfold f_X4_tell f_X4_clear
  rw [show (0 : Int32) = nI 0 from rfl, c_add (by decide)]
  rfl
theorem m_enters {f : Nat → Int64} {r : Nat} (hr : r < 300) (v : Int64) : f_X7_enters (nI r) f v = some (nI (r + 1), vp_updL f r v) := by
  unfold f_X7_enters
  rw [chk_nI (by omega) (by decide), ix_nI (by omega), nI_1]
theorem m_labelMany {mem : Nat → Int32} {q : Nat} {a : AN} (h : MN mem (q * 179) a) (hq : q ≤ 12) : f_X7_labelMany mem (nI q) = some (nI (aC a)) := by
  unfold f_X7_labelMany
  rw [show (2 : Int32) = nI 2 from rfl, m_at_ hq (by omega)]
  exact congrArg some h.2.2.2.2.2.2.2
theorem owt {a : AN} (hw : WA a) {t i : Nat} (ht : t < 24) (hi : i < aC a) : nI (aOw a i) = nI t ↔ aOw a i = t := by
  have := hw.2.2.1 _ (hw.2.2.2.2.2.2.2.2.1 i hi)
  exact nI_eq (by omega) (by omega)
theorem inv_5 (x_words : Nat → Int32) (x_wordCount : Int32) (x_size : Int32) (x_signs : Nat → Int32) (x_next : Int32) (g_longest : Nat → Int32) (g_many : Nat → Int64) (g_layers : Nat → Int32) (g_length : Int32) (g_aheadOf : Nat → Int32) (g_cameFrom : Nat → Int32) (g_queue : Nat → Int32) (r_numbers : Nat → Int64) (r_size : Int32) (p_size : Int32) (t_filled : Nat → Int32) (nd : Nat → ND) (m_thrown : Int32) (m_told : Int32) (m_row : Nat → Int64) (m_tape : Nat → Int32) (m_taped : Int32) (m_at : Int32) (m_to : Int32) (m_mem : Nat → Int32) (m_undos : Int32) (m_places : Nat → Int32) (m_movers : Nat → Int32) (m_far : Nat → Int32) (m_way : Nat → Int32) (m_wayMany : Int32) (m_fromOf : Nat → Int32) (m_toOf : Nat → Int32) (m_longest : Nat → Int32) (m_wayCount : Nat → Int64) (m_thin : Nat → Int32) (m_ahead : Nat → Int32) (m_tried : Int32) (m_foundLow : Int32) (m_foundHigh : Int32) (m_nextLow : Int32) (m_nextHigh : Int32) (m_act : Nat → Int32) (m_first : Nat → Int32) (m_second : Nat → Int32) (m_random : Int32) (m_isKept : Nat → Int32) (x y : Int32) (h : Inv x_words x_wordCount x_size x_signs x_next g_longest g_many g_layers g_length g_aheadOf g_cameFrom g_queue r_numbers r_size p_size t_filled nd m_thrown m_told m_row m_tape m_taped m_at m_to m_mem m_undos m_places m_movers m_far m_way m_wayMany m_fromOf m_toOf m_longest m_wayCount m_thin m_ahead m_tried m_foundLow m_foundHigh m_nextLow m_nextHigh m_act m_first m_second m_random m_isKept) : S_5 Inv x_words x_wordCount x_size x_signs x_next g_longest g_many g_layers g_length g_aheadOf g_cameFrom g_queue r_numbers r_size p_size t_filled nd m_thrown m_told m_row m_tape m_taped m_at m_to m_mem m_undos m_places m_movers m_far m_way m_wayMany m_fromOf m_toOf m_longest m_wayCount m_thin m_ahead m_tried m_foundLow m_foundHigh m_nextLow m_nextHigh m_act m_first m_second m_random m_isKept x y := by
  obtain ⟨⟨a, hC, hM, hW⟩, hP, hK, hR, hT⟩ := h
  have hM0 : MN m_mem (0 * 179) a := hM
  have hc := hW.2.1
  unfold S_5
  rw [hC.2.2.2.2.2.1, hC.2.2.2.2.2.2.2]
  by_cases hx : isT a x
  · obtain ⟨t, rfl, ht, hal⟩ := hx
    let P : Nat → Bool := fun i => decide (aOw a i = t)
    let v : Nat → Int64 := fun i => (aNm a i).toInt64
    have e1 : f_X6_labels (nd 0).2.2.2.1 (nd 0).2.2.2.2.1 (bset (aAl a) 24) (nI (aC a)) r_numbers r_size (nI t) = some (nI (rwf P v r_numbers (aC a)).2, (rwf P v r_numbers (aC a)).1, nI (rwf P v r_numbers (aC a)).2) := by
      unfold f_X6_labels
      rw [c_has1 ht hal, if_neg (by decide)]
      unfold f_X6_labels_l22
      refine loop_run (fun j => (nI j, (rwf P v r_numbers j).1, nI (rwf P v r_numbers j).2)) (aC a) 200 (by omega) ?_ ?_
      · intro j hj rc
        show f_X6_labels_b22 _ _ _ _ _ _ _ _ _ = _
        unfold f_X6_labels_b22
        have hl := rwf_le P v r_numbers j
        rw [if_neg (by rw [nI_leI (by omega) (by omega)]; omega), chk_nI (by omega) (by decide), ix_nI (by omega), hC.2.2.2.2.1 j hj, hC.2.2.2.1 j hj, chk_nI (by omega) (by decide), c_add (by omega), rwf_s, nI_1]
        by_cases e : aOw a j = t
        · rw [if_pos ((owt hW ht hj).mpr e), if_pos (show P j = true from decide_eq_true e)]
          rfl
        · rw [if_neg (fun q => e ((owt hW ht hj).mp q)), if_neg (show ¬ P j = true from fun q => e (of_decide_eq_true q))]
      · intro rc
        show f_X6_labels_b22 _ _ _ _ _ _ _ _ _ = _
        unfold f_X6_labels_b22
        rw [if_pos (by rw [nI_leI (by omega) (by omega)]; omega)]
    have e2 : f_X7_labels m_thrown m_told m_row m_mem (nI t) = some (nI (rwf P v m_row (aC a)).2, 0, nI (rwf P v m_row (aC a)).2, (rwf P v m_row (aC a)).1) := by
      unfold f_X7_labels
      rw [m_isTerm_eq, m_isIn1 hM0 (by decide) ht hal]
      show f_X7_labels_l22 m_mem (nI t) 0 0 0 m_row = _
      unfold f_X7_labels_l22
      refine loop_run (fun j => (nI j, 0, nI (rwf P v m_row j).2, (rwf P v m_row j).1)) (aC a) 200 (by omega) ?_ ?_
      · intro j hj rc
        show f_X7_labels_b22 _ _ _ _ _ _ _ = _
        unfold f_X7_labels_b22
        have hl := rwf_le P v m_row j
        rw [show f_X7_labelMany m_mem 0 = some (nI (aC a)) from m_labelMany hM0 (by decide)]
        show (if nI (aC a) ≤ nI j then _ else _) = _
        rw [if_neg (by rw [nI_leI (by omega) (by omega)]; omega), show (27 : Int32) = nI 27 from rfl, show (67 : Int32) = nI 67 from rfl, nI_add, nI_add, chk_nI (by omega) (by decide), ix_nI (by omega), ix_nI (by omega), chk_nI (by omega) (by decide), m_enters (by omega), rwf_s, nI_1, show m_mem (27 + j) = nI (aOw a j) by rw [← hM.2.2.2.2.1 j hj, Nat.zero_add], show m_mem (67 + j) = aNm a j by rw [← hM.2.2.2.1 j hj, Nat.zero_add]]
        by_cases e : aOw a j = t
        · rw [if_pos ((owt hW ht hj).mpr e), if_pos (show P j = true from decide_eq_true e)]
          rfl
        · rw [if_neg (fun q => e ((owt hW ht hj).mp q)), if_neg (show ¬ P j = true from fun q => e (of_decide_eq_true q))]
      · intro rc
        show f_X7_labels_b22 _ _ _ _ _ _ _ = _
        unfold f_X7_labels_b22
        rw [show f_X7_labelMany m_mem 0 = some (nI (aC a)) from m_labelMany hM0 (by decide)]
        show (if nI (aC a) ≤ nI (aC a) then _ else _) = _
        rw [if_pos (by rw [nI_leI (by omega) (by omega)]; omega)]
    obtain ⟨g1, g2⟩ := rwf_eq P v r_numbers m_row (aC a)
    have hl := rwf_le P v r_numbers (aC a)
    exact ⟨_, e1, _, e2, congrArg nI g1, ⟨a, hC, hM, hW⟩, hP, hK, ⟨_, by omega, rfl, congrArg nI g1.symm, g2⟩, hT⟩
  · refine ⟨(-1, r_numbers, r_size), ?_, (-1, 0, m_told, m_row), ?_, rfl, ⟨a, hC, hM, hW⟩, hP, hK, hR, hT⟩
    · unfold f_X6_labels
      rw [c_has0 hx, if_pos rfl]
    · unfold f_X7_labels
      rw [m_isTerm_eq, m_isIn0 hM0 (by decide) hx]
      rfl
