/-! PURE 62: one label read; named, label -/
/-- the letter at a place as a number, 0: none -/
noncomputable def lv (s : Nat → Int32) (z p : Nat) : Nat := if p < z ∧ ¬ s p < 97 ∧ ¬ (122 : Int32) < s p then (s p).toInt.toNat - 96 else 0
theorem lv_ok {s : Nat → Int32} {z p : Nat} (h : p < z ∧ ¬ s p < 97 ∧ ¬ (122 : Int32) < s p) : s p = nI (lv s z p + 96) ∧ lv s z p ≤ 26 ∧ lv s z p ≠ 0 := by
  obtain ⟨h1, h2, h3⟩ := h
  have e : lv s z p = (s p).toInt.toNat - 96 := by
    unfold lv
    rw [if_pos ⟨h1, h2, h3⟩]
  have l1 : 97 ≤ (s p).toInt := by
    rw [Int32.lt_iff_toInt_lt] at h2
    have : (97 : Int32).toInt = 97 := rfl
    rw [this] at h2; omega
  have l2 : (s p).toInt ≤ 122 := by
    rw [Int32.lt_iff_toInt_lt] at h3
    have : (122 : Int32).toInt = 122 := rfl
    rw [this] at h3; omega
  refine ⟨?_, by omega, by omega⟩
  apply Int32.toInt_inj.mp
  rw [nI_toInt (by omega)]
  omega
theorem lv_no {s : Nat → Int32} {z p : Nat} (h : ¬ (p < z ∧ ¬ s p < 97 ∧ ¬ (122 : Int32) < s p)) : lv s z p = 0 := by
  unfold lv
  rw [if_neg h]
theorem lv_congr {s s' : Nat → Int32} {z : Nat} (h : ∀ i, i < z → s i = s' i) (p : Nat) : lv s z p = lv s' z p := by
  by_cases hp : p < z
  · unfold lv
    rw [h p hp]
  · rw [lv_no (fun q => hp q.1), lv_no (fun q => hp q.1)]
theorem lv_26 (s : Nat → Int32) (z p : Nat) : lv s z p ≤ 26 := by
  by_cases h : p < z ∧ ¬ s p < 97 ∧ ¬ (122 : Int32) < s p
  · exact (lv_ok h).2.1
  · rw [lv_no h]; omega
/-- a label from a place on: its number (0: none) and where one is then -/
noncomputable def rdN (s : Nat → Int32) (z p : Nat) : Nat × Nat := if lv s z p = 0 then (0, p) else (32 * lv s z p + lv s z (p + 1), if lv s z (p + 1) = 0 then p + 1 else p + 2)
theorem rdN_le {s : Nat → Int32} {z p : Nat} (h : p ≤ z) : p ≤ (rdN s z p).2 ∧ (rdN s z p).2 ≤ z := by
  unfold rdN
  by_cases h0 : lv s z p = 0
  · rw [if_pos h0]; exact ⟨Nat.le_refl _, h⟩
  · rw [if_neg h0]
    have hp : p < z := Classical.byContradiction fun q => h0 (lv_no (fun w => q w.1))
    by_cases h1 : lv s z (p + 1) = 0
    · dsimp only
      rw [if_pos h1]; omega
    · have hp1 : p + 1 < z := Classical.byContradiction fun q => h1 (lv_no (fun w => q w.1))
      dsimp only
      rw [if_neg h1]; omega
theorem rdN_v (s : Nat → Int32) (z p : Nat) : (rdN s z p).1 ≤ 1000 := by
  have h1 := lv_26 s z p
  have h2 := lv_26 s z (p + 1)
  unfold rdN
  by_cases h0 : lv s z p = 0
  · rw [if_pos h0]; omega
  · rw [if_neg h0]; dsimp only; omega
theorem rdN_0 {s : Nat → Int32} {z p : Nat} (h : (rdN s z p).1 = 0) : (rdN s z p).2 = p := by
  unfold rdN at h ⊢
  by_cases h0 : lv s z p = 0
  · rw [if_pos h0]
  · rw [if_neg h0] at h
    dsimp only at h
    omega
theorem rdN_lt {s : Nat → Int32} {z p : Nat} (h : (rdN s z p).1 ≠ 0) : p < (rdN s z p).2 := by
  unfold rdN at h ⊢
  by_cases h0 : lv s z p = 0
  · rw [if_pos h0] at h; exact absurd rfl h
  · rw [if_neg h0]
    dsimp only
    by_cases h1 : lv s z (p + 1) = 0
    · rw [if_pos h1]; omega
    · rw [if_neg h1]; omega
theorem rdN_congr {s s' : Nat → Int32} {z : Nat} (h : ∀ i, i < z → s i = s' i) (p : Nat) : rdN s z p = rdN s' z p := by
  unfold rdN
  rw [lv_congr h, lv_congr h]
theorem let1 {k : Nat} (h : k ≤ 26) : (nI (k + 96) - 97) + 1 = nI k := by
  have : ∀ k, k ≤ 26 → (nI (k + 96) - 97) + 1 = nI k := by decide +kernel
  exact this k h
theorem c_isLetter {s : Nat → Int32} {z p : Nat} (hz : z ≤ 80) (hp : p ≤ z) : f_X5_isLetter (nI z) s (nI p) = some (if lv s z p = 0 then 0 else 1) := by
  unfold f_X5_isLetter
  by_cases h : p < z
  · rw [if_neg (by rw [nI_leI (by omega) (by omega)]; omega), chk_nI (by omega) (by decide), ix_nI (by omega), chk_nI (by omega) (by decide)]
    by_cases h1 : s p < 97
    · rw [if_pos h1, lv_no (fun q => q.2.1 h1), if_pos rfl]
    · rw [if_neg h1]
      by_cases h2 : (122 : Int32) < s p
      · rw [if_pos h2, lv_no (fun q => q.2.2 h2), if_pos rfl]
      · rw [if_neg h2, if_neg (lv_ok ⟨h, h1, h2⟩).2.2]
  · rw [if_pos (by rw [nI_leI (by omega) (by omega)]; omega), lv_no (fun q => h q.1), if_pos rfl]
theorem lv_p {s : Nat → Int32} {z p : Nat} (h : lv s z p ≠ 0) : p < z ∧ s p = nI (lv s z p + 96) := by
  by_cases q : p < z ∧ ¬ s p < 97 ∧ ¬ (122 : Int32) < s p
  · exact ⟨q.1, (lv_ok q).1⟩
  · exact absurd (lv_no q) h
theorem c_readName {s : Nat → Int32} {z p : Nat} (hz : z ≤ 80) (hp : p ≤ z) : f_X5_readName (nI z) s (nI p) = some (nI (rdN s z p).1, nI (rdN s z p).2) := by
  unfold f_X5_readName rdN
  have b1 := lv_26 s z p
  have b2 := lv_26 s z (p + 1)
  rw [c_isLetter hz hp, sbind]
  by_cases h0 : lv s z p = 0
  · rw [if_pos h0, if_pos rfl, if_pos h0]
    rfl
  · obtain ⟨h1, h2⟩ := lv_p h0
    rw [if_neg h0, if_neg one0, if_neg h0, chk_nI (by omega) (by decide), ix_nI (by omega), nI_1, c_isLetter hz (by omega), sbind, h2, let1 b1]
    by_cases h3 : lv s z (p + 1) = 0
    · rw [if_pos h3, if_pos rfl, h3]
      dsimp only
      rw [if_pos rfl, show (32 : Int32) = nI 32 from rfl, nI_mul]
      rfl
    · obtain ⟨h4, h5⟩ := lv_p h3
      rw [if_neg h3, if_neg one0, chk_nI (by omega) (by decide), ix_nI (by omega), h5, let1 b2, nI_1]
      dsimp only
      rw [if_neg h3, show (32 : Int32) = nI 32 from rfl, nI_mul, nI_add]
theorem m_letter {s : Nat → Int32} {z p : Nat} (hz : z ≤ 80) (hp : p ≤ z) : f_X7_letter s (nI p) (nI z) = some (nI (lv s z p), nI (if lv s z p = 0 then p else p + 1)) := by
  unfold f_X7_letter f_X7_letter_b37 f_X7_letter_b38
  have b1 := lv_26 s z p
  have no : lv s z p = 0 → (if (0 : Int32) = 0 then some ((0 : Int32), nI p + f_X7_flag 0) else chk (inb ((nI p + f_X7_flag 0) - 1) 80) (some (((s (ix ((nI p + f_X7_flag 0) - 1))) - 97) + 1, nI p + f_X7_flag 0))) = some (nI (lv s z p), nI (if lv s z p = 0 then p else p + 1)) := by
    intro h
    rw [if_pos rfl, flag0, Int32.add_zero, h, if_pos rfl]
    rfl
  by_cases h : p < z
  · rw [if_neg (by rw [nI_leI (by omega) (by omega)]; omega), chk_nI (by omega) (by decide), ix_nI (by omega)]
    have hin : f_X7_in (s p).toInt64 97 122 = 0 ↔ ¬ (p < z ∧ ¬ s p < 97 ∧ ¬ (122 : Int32) < s p) := by
      rw [in_iff, show (97 : Int64) = (97 : Int32).toInt64 from rfl, show (122 : Int64) = (122 : Int32).toInt64 from rfl, l_lt, l_lt]
      constructor
      · rintro (q | q) w
        · exact w.2.1 q
        · exact w.2.2 q
      · intro q
        by_cases h1 : s p < 97
        · exact .inl h1
        · exact .inr (Classical.byContradiction fun w => q ⟨h, h1, w⟩)
    by_cases q : p < z ∧ ¬ s p < 97 ∧ ¬ (122 : Int32) < s p
    · obtain ⟨l1, l2, l3⟩ := lv_ok q
      rw [if_neg (fun w => (hin.mp w) q), if_neg one0, flag1, nI_1, nI_m1, chk_nI (by omega) (by decide), ix_nI (by omega), if_neg l3, l1, let1 b1]
    · rw [if_pos (hin.mpr q)]
      exact no (lv_no q)
  · rw [if_pos (by rw [nI_leI (by omega) (by omega)]; omega)]
    exact no (lv_no (fun q => h q.1))
theorem m_readsLabel {s : Nat → Int32} {z p : Nat} (hz : z ≤ 80) (hp : p ≤ z) : f_X7_readsLabel s (nI p) (nI z) = some (nI (rdN s z p).1, nI (rdN s z p).2) := by
  unfold f_X7_readsLabel rdN
  have b1 := lv_26 s z p
  have b2 := lv_26 s z (p + 1)
  rw [m_letter hz hp, sbind]
  dsimp only
  by_cases h0 : lv s z p = 0
  · rw [h0, if_pos (show nI 0 = 0 from rfl), if_pos rfl, if_pos rfl]
    rfl
  · obtain ⟨h1, h2⟩ := lv_p h0
    rw [if_neg (show ¬ nI (lv s z p) = 0 by rw [show (0 : Int32) = nI 0 from rfl, nI_eq (by omega) (by omega)]; exact h0), if_neg h0, if_neg h0, m_letter hz (by omega), sbind, show (32 : Int32) = nI 32 from rfl, nI_mul, nI_add]
theorem nI0 {n : Nat} (h : n < 2 ^ 31) : nI n = 0 ↔ n = 0 := by rw [show (0 : Int32) = nI 0 from rfl, nI_eq h (by omega)]
theorem c_readOne {s : Nat → Int32} {z : Nat} (hz : z ≤ 80) (w v : Int32) : f_X5_readOneName w (nI z) s v = some (if (rdN s z 0).2 = z then nI (rdN s z 0).1 else 0, 0, 0, nI (rdN s z 0).2) := by
  have hb := rdN_le (s := s) (z := z) (p := 0) (Nat.zero_le _)
  unfold f_X5_readOneName f_X5_readOneName_b25 f_X5_start f_X5_clear
  rw [show f_X5_readName (nI z) s ((0 : Int32), (0 : Int32)).2 = _ from c_readName (p := 0) hz (Nat.zero_le _), sbind]
  dsimp only
  by_cases h : (rdN s z 0).2 = z
  · rw [if_pos (by rw [h]), if_neg one0, if_pos h]
  · rw [if_neg (by rw [nI_eq (by omega) (by omega)]; exact h), if_pos rfl, if_neg h]
/-- who has a label, as both find it -/
theorem own_ex {n : ND} {a : AN} {mem : Nat → Int32} (hC : CN n a) (hM : MN mem 0 a) (hW : WA a) (v : Int32) : ∃ r, f_X2_ownerOf n.2.2.2.1 n.2.2.2.2.1 (nI (aC a)) v = some r ∧ f_X7_termOf mem v = some r ∧ (r = -1 ∨ ∃ t, r = nI t ∧ aAl a t = true) := by
  have hc := hW.2.1
  have lm : f_X7_labelMany mem 0 = some (nI (aC a)) := m_labelMany (q := 0) (hM : MN mem (0 * 179) a) (by omega)
  have e27 : ∀ j, j < aC a → mem (27 + j) = nI (aOw a j) := fun j hj => by rw [← hM.2.2.2.2.1 j hj, Nat.zero_add]
  have e67 : ∀ j, j < aC a → mem (67 + j) = aNm a j := fun j hj => by rw [← hM.2.2.2.1 j hj, Nat.zero_add]
  have stepC : ∀ j, j < aC a → ¬ aNm a j = v → ∀ rc : Int32 → Option Int32, f_X2_ownerOf_b2 n.2.2.2.1 n.2.2.2.2.1 (nI (aC a)) v (fun x0_ => rc x0_) (nI j) = rc (nI (j + 1)) := by
    intro j hj hn rc
    unfold f_X2_ownerOf_b2
    rw [if_neg (nle hj (by omega)), chk_nI (by omega) (by decide), ix_nI (by omega), hC.2.2.2.1 j hj, if_neg hn, nI_1]
  have stepM : ∀ j, j < aC a → ¬ aNm a j = v → ∀ rc : Int32 → Option Int32, f_X7_termOf_b2 mem v (fun x0_ => rc x0_) (nI j) = rc (nI (j + 1)) := by
    intro j hj hn rc
    unfold f_X7_termOf_b2
    rw [lm, sbind, if_neg (nle hj (by omega)), show (67 : Int32) = nI 67 from rfl, nI_add, chk_nI (by omega) (by decide), ix_nI (by omega), e67 j hj, if_neg hn, nI_1]
  by_cases hex : ∃ i, i < aC a ∧ aNm a i = v
  · -- the first such one
    have hmin : ∃ i, i < aC a ∧ aNm a i = v ∧ ∀ j, j < i → ¬ aNm a j = v := by
      obtain ⟨i, hi, e⟩ := hex
      induction i using Nat.strongRecOn with
      | _ i ih =>
        by_cases q : ∃ j, j < i ∧ aNm a j = v
        · obtain ⟨j, hj, ej⟩ := q
          exact ih j hj (by omega) ej
        · exact ⟨i, hi, e, fun j hj ej => q ⟨j, hj, ej⟩⟩
    obtain ⟨i, hi, e, hl⟩ := hmin
    refine ⟨nI (aOw a i), ?_, ?_, .inr ⟨aOw a i, rfl, hW.2.2.2.2.2.2.2.2.1 i hi⟩⟩
    · unfold f_X2_ownerOf f_X2_ownerOf_l2
      refine loop_go (fun j => nI j) i 200 (by omega) rfl (fun j hj rc => stepC j (by omega) (hl j hj) rc) ?_
      intro rc
      show f_X2_ownerOf_b2 _ _ _ _ _ _ = _
      unfold f_X2_ownerOf_b2
      rw [if_neg (nle hi (by omega)), chk_nI (by omega) (by decide), ix_nI (by omega), hC.2.2.2.1 i hi, if_pos e, chk_nI (by omega) (by decide), hC.2.2.2.2.1 i hi]
    · unfold f_X7_termOf f_X7_termOf_l2
      refine loop_go (fun j => nI j) i 200 (by omega) rfl (fun j hj rc => stepM j (by omega) (hl j hj) rc) ?_
      intro rc
      show f_X7_termOf_b2 _ _ _ _ = _
      unfold f_X7_termOf_b2
      rw [lm, sbind, if_neg (nle hi (by omega)), show (67 : Int32) = nI 67 from rfl, nI_add, chk_nI (by omega) (by decide), ix_nI (by omega), e67 i hi, if_pos e, show (27 : Int32) = nI 27 from rfl, nI_add, chk_nI (by omega) (by decide), ix_nI (by omega), e27 i hi]
  · have hl : ∀ j, j < aC a → ¬ aNm a j = v := fun j hj e => hex ⟨j, hj, e⟩
    refine ⟨-1, ?_, ?_, .inl rfl⟩
    · unfold f_X2_ownerOf f_X2_ownerOf_l2
      refine loop_go (fun j => nI j) (aC a) 200 (by omega) rfl (fun j hj rc => stepC j hj (hl j hj) rc) ?_
      intro rc
      show f_X2_ownerOf_b2 _ _ _ _ _ _ = _
      unfold f_X2_ownerOf_b2
      rw [if_pos (yle _ (by omega))]
    · unfold f_X7_termOf f_X7_termOf_l2
      refine loop_go (fun j => nI j) (aC a) 200 (by omega) rfl (fun j hj rc => stepM j hj (hl j hj) rc) ?_
      intro rc
      show f_X7_termOf_b2 _ _ _ _ = _
      unfold f_X7_termOf_b2
      rw [lm, sbind, if_pos (yle _ (by omega))]
theorem Tx0 (s m : Nat → Int32) : TxI 0 0 s m := ⟨0, Nat.zero_le _, rfl, rfl, fun i hi => absurd hi (Nat.not_lt_zero i)⟩
theorem le_z {z k : Nat} (hz : z ≤ 80) (hk : k ≤ z) : nI z ≤ nI k ↔ k = z := by rw [nI_leI (by omega) (by omega)]; omega
theorem inv_4 (x_words : Nat → Int32) (x_wordCount : Int32) (x_size : Int32) (x_signs : Nat → Int32) (x_next : Int32) (g_longest : Nat → Int32) (g_many : Nat → Int64) (g_layers : Nat → Int32) (g_length : Int32) (g_aheadOf : Nat → Int32) (g_cameFrom : Nat → Int32) (g_queue : Nat → Int32) (r_numbers : Nat → Int64) (r_size : Int32) (p_size : Int32) (t_filled : Nat → Int32) (nd : Nat → ND) (m_thrown : Int32) (m_told : Int32) (m_row : Nat → Int64) (m_tape : Nat → Int32) (m_taped : Int32) (m_at : Int32) (m_to : Int32) (m_mem : Nat → Int32) (m_undos : Int32) (m_places : Nat → Int32) (m_movers : Nat → Int32) (m_far : Nat → Int32) (m_way : Nat → Int32) (m_wayMany : Int32) (m_fromOf : Nat → Int32) (m_toOf : Nat → Int32) (m_longest : Nat → Int32) (m_wayCount : Nat → Int64) (m_thin : Nat → Int32) (m_ahead : Nat → Int32) (m_tried : Int32) (m_foundLow : Int32) (m_foundHigh : Int32) (m_nextLow : Int32) (m_nextHigh : Int32) (m_act : Nat → Int32) (m_first : Nat → Int32) (m_second : Nat → Int32) (m_random : Int32) (m_isKept : Nat → Int32) (x y : Int32) (h : Inv x_words x_wordCount x_size x_signs x_next g_longest g_many g_layers g_length g_aheadOf g_cameFrom g_queue r_numbers r_size p_size t_filled nd m_thrown m_told m_row m_tape m_taped m_at m_to m_mem m_undos m_places m_movers m_far m_way m_wayMany m_fromOf m_toOf m_longest m_wayCount m_thin m_ahead m_tried m_foundLow m_foundHigh m_nextLow m_nextHigh m_act m_first m_second m_random m_isKept) : S_4 Inv x_words x_wordCount x_size x_signs x_next g_longest g_many g_layers g_length g_aheadOf g_cameFrom g_queue r_numbers r_size p_size t_filled nd m_thrown m_told m_row m_tape m_taped m_at m_to m_mem m_undos m_places m_movers m_far m_way m_wayMany m_fromOf m_toOf m_longest m_wayCount m_thin m_ahead m_tried m_foundLow m_foundHigh m_nextLow m_nextHigh m_act m_first m_second m_random m_isKept x y := by
  obtain ⟨⟨a, hC, hM, hW⟩, hP, hK, hR, z, hz, e1, e2, hs⟩ := h
  subst e1 e2
  unfold S_4
  have hb := rdN_le (s := m_tape) (z := z) (p := 0) (Nat.zero_le _)
  have hv := rdN_v m_tape z 0
  have eC := c_readOne (s := x_signs) hz x_wordCount x_next
  rw [rdN_congr hs] at eC
  have eM : f_X7_readsLabel m_tape 0 (nI z) = _ := m_readsLabel (p := 0) hz (Nat.zero_le _)
  obtain ⟨r, o1, o2, o3⟩ := own_ex hC hM hW (nI (rdN m_tape z 0).1)
  obtain ⟨nm, dn⟩ : ∃ nm, nm = rdN m_tape z 0 := ⟨_, rfl⟩
  rw [← dn] at hb hv eC eM o1 o2
  unfold f_X6_named f_X7_named f_X7_reads
  rw [eC, sbind]
  dsimp only
  rw [eM, sbind, hC.2.2.2.2.2.2.2]
  dsimp only
  by_cases h1 : nm.2 = z
  · rw [if_pos h1]
    by_cases h2 : nm.1 = 0
    · rw [if_pos ((nI0 (by omega)).mpr h2), if_pos ((nI0 (by omega)).mpr h2)]
      exact ⟨_, rfl, _, rfl, rfl, ⟨a, hC, hM, hW⟩, hP, hK, hR, Tx0 _ _⟩
    · rw [if_neg (fun w => h2 ((nI0 (by omega)).mp w)), if_neg (fun w => h2 ((nI0 (by omega)).mp w)), o1, sbind, if_pos ((le_z hz hb.2).mpr h1), o2, sbind]
      rcases o3 with o3 | ⟨t, o3, ho⟩
      · rw [o3]
        exact ⟨_, rfl, _, rfl, rfl, ⟨a, hC, hM, hW⟩, hP, hK, hR, Tx0 _ _⟩
      · have ht := W_lt hW ho
        rw [o3, if_neg (neg_lt (by omega)), if_pos (i_nlt.mp (neg_lt (by omega)))]
        exact ⟨_, rfl, _, rfl, rfl, ⟨a, hC, hM, hW⟩, hP, hK, hR, Tx0 _ _⟩
  · rw [if_neg h1, if_pos rfl]
    by_cases h2 : nm.1 = 0
    · rw [if_pos ((nI0 (by omega)).mpr h2)]
      exact ⟨_, rfl, _, rfl, rfl, ⟨a, hC, hM, hW⟩, hP, hK, hR, Tx0 _ _⟩
    · rw [if_neg (fun w => h2 ((nI0 (by omega)).mp w)), if_neg (fun w => h1 ((le_z hz hb.2).mp w))]
      exact ⟨_, rfl, _, rfl, rfl, ⟨a, hC, hM, hW⟩, hP, hK, hR, Tx0 _ _⟩
