/-! PURE 45: at; copies of nets in the reference's memory -/
theorem inv_10 (x_words : Nat → Int32) (x_wordCount : Int32) (x_size : Int32) (x_signs : Nat → Int32) (x_next : Int32) (g_longest : Nat → Int32) (g_many : Nat → Int64) (g_layers : Nat → Int32) (g_length : Int32) (g_aheadOf : Nat → Int32) (g_cameFrom : Nat → Int32) (g_queue : Nat → Int32) (r_numbers : Nat → Int64) (r_size : Int32) (p_size : Int32) (t_filled : Nat → Int32) (nd : Nat → ND) (m_thrown : Int32) (m_told : Int32) (m_row : Nat → Int64) (m_tape : Nat → Int32) (m_taped : Int32) (m_at : Int32) (m_to : Int32) (m_mem : Nat → Int32) (m_undos : Int32) (m_places : Nat → Int32) (m_movers : Nat → Int32) (m_far : Nat → Int32) (m_way : Nat → Int32) (m_wayMany : Int32) (m_fromOf : Nat → Int32) (m_toOf : Nat → Int32) (m_longest : Nat → Int32) (m_wayCount : Nat → Int64) (m_thin : Nat → Int32) (m_ahead : Nat → Int32) (m_tried : Int32) (m_foundLow : Int32) (m_foundHigh : Int32) (m_nextLow : Int32) (m_nextHigh : Int32) (m_act : Nat → Int32) (m_first : Nat → Int32) (m_second : Nat → Int32) (m_random : Int32) (m_isKept : Nat → Int32) (x y : Int32) (h : Inv x_words x_wordCount x_size x_signs x_next g_longest g_many g_layers g_length g_aheadOf g_cameFrom g_queue r_numbers r_size p_size t_filled nd m_thrown m_told m_row m_tape m_taped m_at m_to m_mem m_undos m_places m_movers m_far m_way m_wayMany m_fromOf m_toOf m_longest m_wayCount m_thin m_ahead m_tried m_foundLow m_foundHigh m_nextLow m_nextHigh m_act m_first m_second m_random m_isKept) : S_10 Inv x_words x_wordCount x_size x_signs x_next g_longest g_many g_layers g_length g_aheadOf g_cameFrom g_queue r_numbers r_size p_size t_filled nd m_thrown m_told m_row m_tape m_taped m_at m_to m_mem m_undos m_places m_movers m_far m_way m_wayMany m_fromOf m_toOf m_longest m_wayCount m_thin m_ahead m_tried m_foundLow m_foundHigh m_nextLow m_nextHigh m_act m_first m_second m_random m_isKept x y := by
  obtain ⟨⟨a, hC, hM, hW⟩, hr⟩ := h
  have hM0 : MN m_mem (0 * 179) a := hM
  have hs := hW.1
  unfold S_10
  rw [hC.2.2.2.2.2.2.1]
  have h2 : f_X7_at m_thrown m_mem x = (if f_X7_in x.toInt64 0 ((nI (aS a) - 1).toInt64) = 0 then f_X7_at_b23 m_thrown m_mem x 1 else f_X7_at_b23 m_thrown m_mem x 0) := by
    unfold f_X7_at
    rw [show (f_X7_placed m_mem 0) = some (nI (aS a)) from m_placed hM0 (by decide)]
    rfl
  by_cases hx : x < 0 ∨ nI (aS a) ≤ x
  · refine ⟨(0, 1), ?_, .inl ⟨hx, rfl, ⟨a, hC, hM, hW⟩, hr⟩⟩
    rw [h2, if_pos]
    · rfl
    · rw [in32]
      rcases hx with hx | hx
      · exact .inl hx
      · by_cases h0 : x < 0
        · exact .inl h0
        · obtain ⟨k, hk, rfl⟩ := nonneg h0
          rw [nI_leI (by omega) hk] at hx
          refine .inr ?_
          cases hs0 : aS a with
          | zero =>
            rw [Int32.lt_iff_toInt_lt, nI_toInt hk]
            have : (nI 0 - 1).toInt = -1 := rfl
            rw [this]; omega
          | succ r => rw [nI_m1, nI_ltI (by omega) hk]; omega
  · have h0 : ¬ x < 0 := fun q => hx (.inl q)
    obtain ⟨k, hk, rfl⟩ := nonneg h0
    have hks : k < aS a := by
      have : ¬ nI (aS a) ≤ nI k := fun q => hx (.inr q)
      rw [nI_leI (by omega) hk] at this; omega
    refine ⟨(nI (aO a k), 0), ?_, .inr ⟨nI (aO a k), ?_, rfl, rfl, ⟨a, hC, hM, hW⟩, hr⟩⟩
    · rw [h2, if_neg]
      · unfold f_X7_at_b23
        rw [if_neg (by decide), show f_X7_inPlace m_mem 0 (nI k) = some (nI (aO a k)) from m_inPlace hM0 (by decide) hks hs]
        rfl
      · rw [in32]
        intro q
        rcases q with q | q
        · exact h0 q
        · cases hs0 : aS a with
          | zero => omega
          | succ r => rw [hs0, nI_m1, nI_ltI (by omega) hk] at q; omega
    · unfold f_X6_at
      rw [if_neg h0, if_pos ((nI_ltI hk (by omega)).mpr hks), chk_nI (by omega) (by decide), ix_nI hk, hC.2.1 k hks]
/-- slice q2 becomes slice q1, so far as j -/
def cpj (mem : Nat → Int32) (q1 q2 j : Nat) : Nat → Int32 := fun i => if q2 * 179 ≤ i ∧ i < q2 * 179 + j then mem (i - q2 * 179 + q1 * 179) else mem i
def cpy (mem : Nat → Int32) (q1 q2 : Nat) : Nat → Int32 := cpj mem q1 q2 179
theorem cpj_0 (mem : Nat → Int32) (q1 q2 : Nat) : cpj mem q1 q2 0 = mem := by
  funext i
  unfold cpj
  rw [if_neg (by omega)]
theorem cpj_s (mem : Nat → Int32) {q1 q2 j : Nat} (hne : q1 ≠ q2) (hj : j < 179) : upd (cpj mem q1 q2 j) (q2 * 179 + j) (cpj mem q1 q2 j (q1 * 179 + j)) = cpj mem q1 q2 (j + 1) := by
  funext i
  unfold upd cpj
  by_cases e : i = q2 * 179 + j
  · subst e
    have : ¬ (q2 * 179 ≤ q1 * 179 + j ∧ q1 * 179 + j < q2 * 179 + j) := by omega
    rw [if_pos rfl, if_neg this, if_pos (by omega)]
    congr 1
    omega
  · rw [if_neg e]
    by_cases h : q2 * 179 ≤ i ∧ i < q2 * 179 + j
    · rw [if_pos h, if_pos (by omega)]
    · rw [if_neg h, if_neg (by omega)]
theorem m_copies (mem : Nat → Int32) {q1 q2 : Nat} (h1 : q1 ≤ 12) (h2 : q2 ≤ 12) (hne : q1 ≠ q2) : f_X7_copies mem (nI q1) (nI q2) = some (cpy mem q1 q2) := by
  unfold f_X7_copies f_X7_copies_l2
  have main := loop_run (body := fun rc (v : Int32 × (Nat → Int32)) => f_X7_copies_b2 (nI q1) (nI q2) (fun x0_ x1_ => rc (x0_, x1_)) v.1 v.2) (fun j => (nI j, cpj mem q1 q2 j)) (res := some (cpy mem q1 q2)) 179 200 (by decide) ?_ ?_
  · rw [cpj_0] at main
    exact main
  · intro j hj rc
    show f_X7_copies_b2 _ _ _ _ _ = _
    unfold f_X7_copies_b2
    rw [if_neg (show ¬ (179 : Int32) ≤ nI j by rw [show (179 : Int32) = nI 179 from rfl, nI_leI (by decide) (by omega)]; omega), ofs, ofs, chk_nI (by omega) (by decide), chk_nI (by omega) (by decide), ix_nI (by omega), ix_nI (by omega), nI_1, cpj_s mem hne hj]
  · intro rc
    show f_X7_copies_b2 _ _ _ _ _ = _
    unfold f_X7_copies_b2
    rw [if_pos (show (179 : Int32) ≤ nI 179 by decide)]
    rfl
theorem MN_cpy {mem : Nat → Int32} {q1 q2 : Nat} {a : AN} (hw : WA a) (h : MN mem (q1 * 179) a) : MN (cpy mem q1 q2) (q2 * 179) a := by
  have hs := hw.1
  have hc := hw.2.1
  have key : ∀ k, k < 179 → cpy mem q1 q2 (q2 * 179 + k) = mem (q1 * 179 + k) := by
    intro k hk
    unfold cpy cpj
    rw [if_pos (by omega)]
    congr 1
    omega
  refine ⟨fun t ht => ?_, fun p hp => ?_, fun t ht => ⟨?_, ?_⟩, fun i hi => ?_, fun i hi => ?_, ?_, ?_, ?_⟩
  · rw [Nat.add_assoc, key _ (by omega), ← Nat.add_assoc]; exact h.1 t ht
  · rw [Nat.add_assoc, key _ (by omega), ← Nat.add_assoc]; exact h.2.1 p hp
  · rw [Nat.add_assoc, key _ (by omega), ← Nat.add_assoc]; exact (h.2.2.1 t ht).1
  · rw [Nat.add_assoc, key _ (by omega), ← Nat.add_assoc]; exact (h.2.2.1 t ht).2
  · rw [Nat.add_assoc, key _ (by omega), ← Nat.add_assoc]; exact h.2.2.2.1 i hi
  · rw [Nat.add_assoc, key _ (by omega), ← Nat.add_assoc]; exact h.2.2.2.2.1 i hi
  · exact (key 0 (by omega)).trans h.2.2.2.2.2.1
  · rw [key _ (by omega)]; exact h.2.2.2.2.2.2.1
  · rw [key _ (by omega)]; exact h.2.2.2.2.2.2.2
theorem MN_cong {mem mem' : Nat → Int32} {b : Nat} {a : AN} (hw : WA a) (h : MN mem b a) (e : ∀ k, k < 179 → mem' (b + k) = mem (b + k)) : MN mem' b a := by
  have hs := hw.1
  have hc := hw.2.1
  refine ⟨fun t ht => ?_, fun p hp => ?_, fun t ht => ⟨?_, ?_⟩, fun i hi => ?_, fun i hi => ?_, ?_, ?_, ?_⟩
  · rw [Nat.add_assoc, e _ (by omega), ← Nat.add_assoc]; exact h.1 t ht
  · rw [Nat.add_assoc, e _ (by omega), ← Nat.add_assoc]; exact h.2.1 p hp
  · rw [Nat.add_assoc, e _ (by omega), ← Nat.add_assoc]; exact (h.2.2.1 t ht).1
  · rw [Nat.add_assoc, e _ (by omega), ← Nat.add_assoc]; exact (h.2.2.1 t ht).2
  · rw [Nat.add_assoc, e _ (by omega), ← Nat.add_assoc]; exact h.2.2.2.1 i hi
  · rw [Nat.add_assoc, e _ (by omega), ← Nat.add_assoc]; exact h.2.2.2.2.1 i hi
  · exact (e 0 (by omega)).trans h.2.2.2.2.2.1
  · rw [e _ (by omega)]; exact h.2.2.2.2.2.2.1
  · rw [e _ (by omega)]; exact h.2.2.2.2.2.2.2
theorem MN_cpo {mem : Nat → Int32} {q1 q2 q : Nat} {a : AN} (hw : WA a) (h : MN mem (q * 179) a) (hq : q ≠ q2) : MN (cpy mem q1 q2) (q * 179) a := by
  refine MN_cong hw h (fun k hk => ?_)
  unfold cpy cpj
  rw [if_neg]
  intro ⟨a1, a2⟩
  omega
