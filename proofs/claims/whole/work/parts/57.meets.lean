/-! PURE 57: meets, apart, tops -/
theorem one0 : ¬ (1 : Int32) = 0 := by decide
theorem bi_xor (x : Int32) {k : Nat} (hk : k < 32) : bt (x ^^^ (-1)) k = true ↔ ¬ bt x k = true := by
  have h1 : ∀ k, k < 32 → bt (-1) k = true := by decide +kernel
  have h2 : bt (x ^^^ (-1)) k = ((bt x k) ^^ (bt (-1) k)) := by
    show (x.toBitVec ^^^ (-1 : Int32).toBitVec).getLsbD k = _
    rw [BitVec.getLsbD_xor]
    rfl
  rw [h2, h1 k hk]
  cases bt x k <;> simp
theorem bsP_not (P Q : Nat → Prop) : bsP P &&& (bsP Q ^^^ (-1)) = bsP (fun k => P k ∧ ¬ Q k) := by
  apply bi_ext
  intro k hk
  rw [bi_and, bi_xor _ hk, bt_bsP, bt_bsP, bt_bsP]
  constructor
  · exact fun h => ⟨h.1.1, h.1.2, fun z => h.2 ⟨h.1.1, z⟩⟩
  · exact fun h => ⟨⟨h.1, h.2.1⟩, fun z => h.2.2 z.2⟩
theorem c_wob {n : ND} {a : AN} (h : CN n a) (hw : WA a) {P : Nat → Prop} (hP : ∀ t, t < 24 → P t → aAl a t = true) : f_X2_withOthersBelow n.1 n.2.1 (nI (aS a)) (bsP P) = some (bsP (fun t => P t ∧ ∃ u, u ≠ t ∧ Rc (aNr a) t u ∧ P u)) := by
  unfold f_X2_withOthersBelow f_X2_withOthersBelow_l4
  refine loop_go (fun j => (bset (fun t => pb (P t ∧ ∃ u, u ≠ t ∧ Rc (aNr a) t u ∧ P u)) j, nI j)) 24 200 (by decide) rfl ?_ ?_
  · intro j hj rc
    show f_X2_withOthersBelow_b4 _ _ _ _ _ _ _ = _
    unfold f_X2_withOthersBelow_b4
    dsimp only
    rw [if_neg (n24 hj), bset_s, nI_1]
    by_cases hp : P j
    · rw [if_neg (by rw [bsP_hold hj]; exact fun z => z hp), c_below h hw (hP j hj hp), sbind, bsP_and, bsP_one hj, bsP_not, ← bsP_one hj]
      by_cases q : P j ∧ ∃ u, u ≠ j ∧ Rc (aNr a) j u ∧ P u
      · rw [if_neg, if_pos (pb_iff.mpr q)]
        rw [bsP_0]
        intro z
        obtain ⟨_, u, h1, h2, h3⟩ := q
        exact z u (W_lt hw ((Rc_al hw h2).mp (hP j hj hp))) ⟨⟨h2, h3⟩, h1⟩
      · rw [if_pos, if_neg (fun z => q (pb_iff.mp z))]
        rw [bsP_0]
        rintro u _ ⟨⟨h2, h3⟩, h1⟩
        exact q ⟨hp, u, h1, h2, h3⟩
    · rw [if_pos (by rw [bsP_hold hj]; exact hp), if_neg (fun z => hp (pb_iff.mp z).1)]
  · intro rc
    show f_X2_withOthersBelow_b4 _ _ _ _ _ _ _ = _
    unfold f_X2_withOthersBelow_b4
    dsimp only
    rw [if_pos y24]
    rfl
theorem bset_f (P : Nat → Prop) (j : Nat) : (P j → bset (fun t => pb (P t)) j ||| jshl (f_X7_flag 1) (nI j) = bset (fun t => pb (P t)) (j + 1)) ∧ (¬ P j → bset (fun t => pb (P t)) j ||| jshl (f_X7_flag 0) (nI j) = bset (fun t => pb (P t)) (j + 1)) := by
  constructor
  · intro h
    rw [flag1, bset_s, if_pos (pb_iff.mpr h)]
  · intro h
    rw [flag0, shl0, or_0, bset_s, if_neg (fun z => h (pb_iff.mp z))]
theorem inv_16 (x_words : Nat → Int32) (x_wordCount : Int32) (x_size : Int32) (x_signs : Nat → Int32) (x_next : Int32) (g_longest : Nat → Int32) (g_many : Nat → Int64) (g_layers : Nat → Int32) (g_length : Int32) (g_aheadOf : Nat → Int32) (g_cameFrom : Nat → Int32) (g_queue : Nat → Int32) (r_numbers : Nat → Int64) (r_size : Int32) (p_size : Int32) (t_filled : Nat → Int32) (nd : Nat → ND) (m_thrown : Int32) (m_told : Int32) (m_row : Nat → Int64) (m_tape : Nat → Int32) (m_taped : Int32) (m_at : Int32) (m_to : Int32) (m_mem : Nat → Int32) (m_undos : Int32) (m_places : Nat → Int32) (m_movers : Nat → Int32) (m_far : Nat → Int32) (m_way : Nat → Int32) (m_wayMany : Int32) (m_fromOf : Nat → Int32) (m_toOf : Nat → Int32) (m_longest : Nat → Int32) (m_wayCount : Nat → Int64) (m_thin : Nat → Int32) (m_ahead : Nat → Int32) (m_tried : Int32) (m_foundLow : Int32) (m_foundHigh : Int32) (m_nextLow : Int32) (m_nextHigh : Int32) (m_act : Nat → Int32) (m_first : Nat → Int32) (m_second : Nat → Int32) (m_random : Int32) (m_isKept : Nat → Int32) (x y : Int32) (h : Inv x_words x_wordCount x_size x_signs x_next g_longest g_many g_layers g_length g_aheadOf g_cameFrom g_queue r_numbers r_size p_size t_filled nd m_thrown m_told m_row m_tape m_taped m_at m_to m_mem m_undos m_places m_movers m_far m_way m_wayMany m_fromOf m_toOf m_longest m_wayCount m_thin m_ahead m_tried m_foundLow m_foundHigh m_nextLow m_nextHigh m_act m_first m_second m_random m_isKept) : S_16 Inv x_words x_wordCount x_size x_signs x_next g_longest g_many g_layers g_length g_aheadOf g_cameFrom g_queue r_numbers r_size p_size t_filled nd m_thrown m_told m_row m_tape m_taped m_at m_to m_mem m_undos m_places m_movers m_far m_way m_wayMany m_fromOf m_toOf m_longest m_wayCount m_thin m_ahead m_tried m_foundLow m_foundHigh m_nextLow m_nextHigh m_act m_first m_second m_random m_isKept x y := by
  obtain ⟨⟨a, hC, hM, hW⟩, hP, hK, hR, hT⟩ := h
  unfold S_16
  rw [hC.2.2.2.2.2.1, hC.2.2.2.2.2.2.1]
  by_cases hx : isT a x
  · obtain ⟨s, rfl, ls, hs⟩ := hx
    by_cases hy : isT a y
    · obtain ⟨t, rfl, lt, ht⟩ := hy
      obtain ⟨P, dP⟩ : ∃ P : Nat → Prop, P = fun u => Rc (aNr a) u s ∧ Rc (aNr a) u t := ⟨_, rfl⟩
      have hal : ∀ u, u < 24 → P u → aAl a u = true := by
        intro u _ q
        rw [dP] at q
        exact (Rc_al hW q.1).mpr hs
      obtain ⟨V, dV⟩ : ∃ V : Int32, V = bsP (fun t => P t ∧ (bsP (Rc (aNr a) t) &&& bsP P) = jshl 1 (nI t)) := ⟨_, rfl⟩
      refine ⟨(bsP P, vp_updL r_numbers 0 V.toInt64, nI 1), ?_, (bsP P, 0, nI 1, vp_updL m_row 0 V.toInt64), ?_, rfl, ⟨a, hC, hM, hW⟩, hP, hK, Rw1 _ _ _, hT⟩
      · unfold f_X6_meets
        rw [c_has1 ls hs, c_has1 lt ht, if_neg (by decide), if_neg (by decide), c_above hC hW hs, sbind, c_above hC hW ht, sbind, bsP_and, ← dP, c_wob hC hW hal, sbind, bsP_not, c_tell, sbind]
        refine congrArg (fun z : Int32 => some (bsP P, vp_updL r_numbers 0 z.toInt64, nI 1)) ?_
        rw [dV]
        refine bsP_congr (fun k hk => ?_)
        constructor
        · rintro ⟨h1, h2⟩
          refine ⟨h1, ?_⟩
          rw [bsP_and, bsP_one hk]
          refine bsP_congr (fun u hu => ⟨?_, ?_⟩)
          · rintro ⟨h3, h4⟩
            exact Classical.byContradiction fun z => h2 ⟨h1, u, z, h3, h4⟩
          · intro e
            rw [e]
            exact ⟨Rc_refl _ _, h1⟩
        · rintro ⟨h1, h2⟩
          refine ⟨h1, ?_⟩
          rintro ⟨_, u, h3, h4, h5⟩
          have hu : u < 24 := W_lt hW ((Rc_al hW h4).mp (hal k hk h1))
          have : bt (bsP (Rc (aNr a) k) &&& bsP P) u = true := by
            rw [bsP_and, bt_bsP]
            exact ⟨hu, h4, h5⟩
          rw [h2, bi_shl (by omega)] at this
          exact h3 this
      · unfold f_X7_meets
        rw [m_isTerm1 hM ls hs, sbind, if_neg (by decide), m_isTerm1 hM lt ht, sbind, if_neg (by decide), Ma hM hW ls, sbind, Ma hM hW lt, sbind, bsP_and, ← dP]
        unfold f_X7_meets_l43
        refine loop_go (fun j => (bsP P, bset (fun t => pb (P t ∧ (bsP (Rc (aNr a) t) &&& bsP P) = jshl 1 (nI t))) j, nI j, 0)) 24 200 (by decide) rfl ?_ ?_
        · intro j hj rc
          show f_X7_meets_b43 _ _ _ _ _ _ _ _ _ _ = _
          unfold f_X7_meets_b43 f_X7_meets_b81 f_X7_meets_b82
          dsimp only
          have hf := bset_f (fun t => P t ∧ (bsP (Rc (aNr a) t) &&& bsP P) = jshl 1 (nI t)) j
          rw [if_neg (n24 hj), nI_1, Mb hM hW hj, sbind]
          by_cases hp : P j
          · rw [if_neg (by rw [bsP_has hj]; exact fun z => z hp)]
            by_cases q : (bsP (Rc (aNr a) j) &&& bsP P) = jshl 1 (nI j)
            · rw [if_pos q, hf.1 ⟨hp, q⟩]
            · rw [if_neg q, hf.2 (fun z => q z.2)]
          · rw [if_pos (by rw [bsP_has hj]; exact hp), hf.2 (fun z => hp z.1)]
        · intro rc
          show f_X7_meets_b43 _ _ _ _ _ _ _ _ _ _ = _
          unfold f_X7_meets_b43
          dsimp only
          rw [if_pos y24, m_tell, sbind, dV]
          rfl
    · refine ⟨(-1, r_numbers, r_size), ?_, (-1, 0, m_told, m_row), ?_, rfl, ⟨a, hC, hM, hW⟩, hP, hK, hR, hT⟩
      · unfold f_X6_meets
        rw [c_has1 ls hs, c_has0 hy, if_neg (by decide), if_pos rfl]
      · unfold f_X7_meets
        rw [m_isTerm1 hM ls hs, sbind, if_neg (by decide), m_isTerm0 hM hy, sbind, if_pos rfl]
  · refine ⟨(-1, r_numbers, r_size), ?_, (-1, 0, m_told, m_row), ?_, rfl, ⟨a, hC, hM, hW⟩, hP, hK, hR, hT⟩
    · unfold f_X6_meets
      rw [c_has0 hx, if_pos rfl]
    · unfold f_X7_meets
      rw [m_isTerm0 hM hx, sbind, if_pos rfl]
theorem inv_22 (x_words : Nat → Int32) (x_wordCount : Int32) (x_size : Int32) (x_signs : Nat → Int32) (x_next : Int32) (g_longest : Nat → Int32) (g_many : Nat → Int64) (g_layers : Nat → Int32) (g_length : Int32) (g_aheadOf : Nat → Int32) (g_cameFrom : Nat → Int32) (g_queue : Nat → Int32) (r_numbers : Nat → Int64) (r_size : Int32) (p_size : Int32) (t_filled : Nat → Int32) (nd : Nat → ND) (m_thrown : Int32) (m_told : Int32) (m_row : Nat → Int64) (m_tape : Nat → Int32) (m_taped : Int32) (m_at : Int32) (m_to : Int32) (m_mem : Nat → Int32) (m_undos : Int32) (m_places : Nat → Int32) (m_movers : Nat → Int32) (m_far : Nat → Int32) (m_way : Nat → Int32) (m_wayMany : Int32) (m_fromOf : Nat → Int32) (m_toOf : Nat → Int32) (m_longest : Nat → Int32) (m_wayCount : Nat → Int64) (m_thin : Nat → Int32) (m_ahead : Nat → Int32) (m_tried : Int32) (m_foundLow : Int32) (m_foundHigh : Int32) (m_nextLow : Int32) (m_nextHigh : Int32) (m_act : Nat → Int32) (m_first : Nat → Int32) (m_second : Nat → Int32) (m_random : Int32) (m_isKept : Nat → Int32) (x y : Int32) (h : Inv x_words x_wordCount x_size x_signs x_next g_longest g_many g_layers g_length g_aheadOf g_cameFrom g_queue r_numbers r_size p_size t_filled nd m_thrown m_told m_row m_tape m_taped m_at m_to m_mem m_undos m_places m_movers m_far m_way m_wayMany m_fromOf m_toOf m_longest m_wayCount m_thin m_ahead m_tried m_foundLow m_foundHigh m_nextLow m_nextHigh m_act m_first m_second m_random m_isKept) : S_22 Inv x_words x_wordCount x_size x_signs x_next g_longest g_many g_layers g_length g_aheadOf g_cameFrom g_queue r_numbers r_size p_size t_filled nd m_thrown m_told m_row m_tape m_taped m_at m_to m_mem m_undos m_places m_movers m_far m_way m_wayMany m_fromOf m_toOf m_longest m_wayCount m_thin m_ahead m_tried m_foundLow m_foundHigh m_nextLow m_nextHigh m_act m_first m_second m_random m_isKept x y := by
  obtain ⟨⟨a, hC, hM, hW⟩, hP, hK, hR, hT⟩ := h
  unfold S_22
  rw [hC.2.2.2.2.2.1, hC.2.2.2.2.2.2.1]
  have hth : f_X7_there m_mem 0 = some (bset (aAl a) 24) := m_there (q := 0) (hM : MN m_mem (0 * 179) a) (by decide)
  by_cases h0 : x < 0
  · refine ⟨(-1, r_numbers, r_size), ?_, (-1, 0, m_told, m_row), ?_, rfl, ⟨a, hC, hM, hW⟩, hP, hK, hR, hT⟩
    · unfold f_X6_apart
      rw [if_pos h0]
    · unfold f_X7_apart
      rw [if_pos h0]
  · by_cases h1 : x &&& (bset (aAl a) 24 ^^^ (-1)) = 0
    · have hal : ∀ k, k < 32 → bt x k = true → aAl a k = true := by
        intro k hk hb
        refine Classical.byContradiction fun z => ?_
        have : bt (x &&& (bset (aAl a) 24 ^^^ (-1))) k = true := by
          rw [bi_and, bi_xor _ hk, bt_bs24]
          exact ⟨hb, fun q => z q.2⟩
        rw [h1, bt_0] at this
        exact Bool.noConfusion this
      obtain ⟨V, dV⟩ : ∃ V, V = isum (bt x) (fun t => nI (npc (tn (bsP (Rc (aNr a) t) &&& x))) - 1) 24 := ⟨_, rfl⟩
      refine ⟨(if V = 0 then 1 else 0, vp_updL r_numbers 0 V.toInt64, nI 1), ?_, (if V = 0 then 1 else 0, 0, nI 1, vp_updL m_row 0 V.toInt64), ?_, rfl, ⟨a, hC, hM, hW⟩, hP, hK, Rw1 _ _ _, hT⟩
      · unfold f_X6_apart
        rw [if_neg h0, if_pos h1]
        unfold f_X6_apart_l24
        refine loop_go (fun j => (isum (bt x) (fun t => nI (npc (tn (bsP (Rc (aNr a) t) &&& x))) - 1) j, nI j)) 24 200 (by decide) rfl ?_ ?_
        · intro j hj rc
          show f_X6_apart_b24 _ _ _ _ _ _ _ _ _ _ = _
          unfold f_X6_apart_b24
          dsimp only
          rw [if_neg (n24 hj), isum_s, nI_1]
          by_cases hb : bt x j = true
          · rw [if_neg (by rw [holds0 (by omega)]; simp [hb]), if_pos hb, c_below hC hW (hal j (by omega) hb), sbind, c_bitCount]
          · rw [if_pos (by rw [holds0 (by omega)]; simp [hb]), if_neg hb]
        · intro rc
          show f_X6_apart_b24 _ _ _ _ _ _ _ _ _ _ = _
          unfold f_X6_apart_b24
          dsimp only
          rw [if_pos y24, ← dV, c_tell, sbind]
          by_cases e : V = 0
          · rw [if_pos e, if_pos e]
          · rw [if_neg e, if_neg e]
      · unfold f_X7_apart
        rw [if_neg h0, hth, sbind, if_pos h1]
        unfold f_X7_apart_l27
        refine loop_go (fun j => (isum (bt x) (fun t => nI (npc (tn (bsP (Rc (aNr a) t) &&& x))) - 1) j, nI j, 0)) 24 200 (by decide) rfl ?_ ?_
        · intro j hj rc
          show f_X7_apart_b27 _ _ _ _ _ _ _ _ = _
          unfold f_X7_apart_b27
          dsimp only
          rw [if_neg (n24 hj), isum_s, nI_1, Int32.add_zero, Mb hM hW hj, sbind, m_sizeOf, sbind]
          by_cases hb : bt x j = true
          · rw [if_neg (by rw [has0 (by omega)]; simp [hb]), if_pos hb]
          · rw [if_pos (by rw [has0 (by omega)]; simp [hb]), if_neg hb]
        · intro rc
          show f_X7_apart_b27 _ _ _ _ _ _ _ _ = _
          unfold f_X7_apart_b27 f_X7_apart_b87
          dsimp only
          rw [if_pos y24, ← dV, m_tell, sbind, flag1, flag0]
          by_cases e : V = 0
          · rw [if_pos e, if_pos e]
          · rw [if_neg e, if_neg e]
    · refine ⟨(-1, r_numbers, r_size), ?_, (-1, 0, m_told, m_row), ?_, rfl, ⟨a, hC, hM, hW⟩, hP, hK, hR, hT⟩
      · unfold f_X6_apart
        rw [if_neg h0, if_neg h1]
      · unfold f_X7_apart
        rw [if_neg h0, hth, sbind, if_neg h1]
theorem bs0 (P : Nat → Bool) : bset P 24 = 0 ↔ ∀ k, k < 24 → ¬ P k = true := by rw [bs_eq, bsP_0]
theorem inv_19 (x_words : Nat → Int32) (x_wordCount : Int32) (x_size : Int32) (x_signs : Nat → Int32) (x_next : Int32) (g_longest : Nat → Int32) (g_many : Nat → Int64) (g_layers : Nat → Int32) (g_length : Int32) (g_aheadOf : Nat → Int32) (g_cameFrom : Nat → Int32) (g_queue : Nat → Int32) (r_numbers : Nat → Int64) (r_size : Int32) (p_size : Int32) (t_filled : Nat → Int32) (nd : Nat → ND) (m_thrown : Int32) (m_told : Int32) (m_row : Nat → Int64) (m_tape : Nat → Int32) (m_taped : Int32) (m_at : Int32) (m_to : Int32) (m_mem : Nat → Int32) (m_undos : Int32) (m_places : Nat → Int32) (m_movers : Nat → Int32) (m_far : Nat → Int32) (m_way : Nat → Int32) (m_wayMany : Int32) (m_fromOf : Nat → Int32) (m_toOf : Nat → Int32) (m_longest : Nat → Int32) (m_wayCount : Nat → Int64) (m_thin : Nat → Int32) (m_ahead : Nat → Int32) (m_tried : Int32) (m_foundLow : Int32) (m_foundHigh : Int32) (m_nextLow : Int32) (m_nextHigh : Int32) (m_act : Nat → Int32) (m_first : Nat → Int32) (m_second : Nat → Int32) (m_random : Int32) (m_isKept : Nat → Int32) (x y : Int32) (h : Inv x_words x_wordCount x_size x_signs x_next g_longest g_many g_layers g_length g_aheadOf g_cameFrom g_queue r_numbers r_size p_size t_filled nd m_thrown m_told m_row m_tape m_taped m_at m_to m_mem m_undos m_places m_movers m_far m_way m_wayMany m_fromOf m_toOf m_longest m_wayCount m_thin m_ahead m_tried m_foundLow m_foundHigh m_nextLow m_nextHigh m_act m_first m_second m_random m_isKept) : S_19 Inv x_words x_wordCount x_size x_signs x_next g_longest g_many g_layers g_length g_aheadOf g_cameFrom g_queue r_numbers r_size p_size t_filled nd m_thrown m_told m_row m_tape m_taped m_at m_to m_mem m_undos m_places m_movers m_far m_way m_wayMany m_fromOf m_toOf m_longest m_wayCount m_thin m_ahead m_tried m_foundLow m_foundHigh m_nextLow m_nextHigh m_act m_first m_second m_random m_isKept x y := by
  obtain ⟨⟨a, hC, hM, hW⟩, hP, hK, hR, hT⟩ := h
  have hs := hW.1
  unfold S_19
  rw [hC.2.2.2.2.2.2.1]
  obtain ⟨T, dT⟩ : ∃ T : Nat → Prop, T = fun t => aAl a t = true ∧ bset (fun s => aNr a s t) 24 = 0 := ⟨_, rfl⟩
  obtain ⟨B, dB⟩ : ∃ B : Nat → Prop, B = fun t => aAl a t = true ∧ bset (aNr a t) 24 = 0 := ⟨_, rfl⟩
  refine ⟨(bsP T, vp_updL (vp_updL r_numbers 0 (bsP B).toInt64) 1 (bsP T &&& bsP B).toInt64, nI 2), ?_, (bsP T, 0, nI 2, vp_updL (vp_updL m_row 0 (bsP B).toInt64) 1 (bsP T &&& bsP B).toInt64), ?_, rfl, ⟨a, hC, hM, hW⟩, hP, hK, Rw2 _ _ _ _, hT⟩
  · unfold f_X6_tops f_X6_tops_l6
    have one : ∀ (Q : Nat → Prop) j, j < aS a → (Q (aO a j) → bsP (fun u => ∃ p, p < j ∧ aO a p = u ∧ Q u) ||| jshl 1 (nI (aO a j)) = bsP (fun u => ∃ p, p < j + 1 ∧ aO a p = u ∧ Q u)) ∧ (¬ Q (aO a j) → bsP (fun u => ∃ p, p < j ∧ aO a p = u ∧ Q u) = bsP (fun u => ∃ p, p < j + 1 ∧ aO a p = u ∧ Q u)) := by
      intro Q j hj
      constructor
      · intro hq
        rw [bsP_one (W_o hW hj), bsP_or]
        refine bsP_congr (fun u _ => ⟨?_, ?_⟩)
        · rintro (⟨p, h1, h2⟩ | e)
          · exact ⟨p, by omega, h2⟩
          · exact ⟨j, by omega, e.symm, by rw [e]; exact hq⟩
        · rintro ⟨p, h1, h2, h3⟩
          by_cases e : p = j
          · rw [e] at h2; exact .inr h2.symm
          · exact .inl ⟨p, by omega, h2, h3⟩
      · intro hq
        refine bsP_congr (fun u _ => ⟨?_, ?_⟩)
        · rintro ⟨p, h1, h2⟩
          exact ⟨p, by omega, h2⟩
        · rintro ⟨p, h1, h2, h3⟩
          by_cases e : p = j
          · rw [e] at h2; rw [← h2] at h3; exact absurd h3 hq
          · exact ⟨p, by omega, h2, h3⟩
    have fin : ∀ Q : Nat → Prop, bsP (fun u => ∃ p, p < aS a ∧ aO a p = u ∧ Q u) = bsP (fun u => aAl a u = true ∧ Q u) := by
      intro Q
      refine bsP_congr (fun u _ => ⟨?_, ?_⟩)
      · rintro ⟨p, h1, h2, h3⟩
        exact ⟨by rw [← h2]; exact W_al hW h1, h3⟩
      · rintro ⟨h1, h2⟩
        obtain ⟨q1, q2⟩ := pcO_spec hW h1
        exact ⟨_, q1, q2, h2⟩
    refine loop_go (fun j => (bsP (fun u => ∃ p, p < j ∧ aO a p = u ∧ bset (fun s => aNr a s u) 24 = 0), bsP (fun u => ∃ p, p < j ∧ aO a p = u ∧ bset (aNr a u) 24 = 0), nI j)) (aS a) 200 (by omega) ?_ ?_ ?_
    · have z : ∀ Q : Nat → Prop, bsP (fun u => ∃ p, p < 0 ∧ aO a p = u ∧ Q u) = 0 := by
        intro Q
        rw [bsP_0]
        rintro k _ ⟨p, h1, _⟩
        exact absurd h1 (Nat.not_lt_zero _)
      show ((0 : Int32), (0 : Int32), (0 : Int32)) = _
      rw [z, z]
      rfl
    · intro j hj rc
      show f_X6_tops_b6 _ _ _ _ _ _ _ _ _ = _
      unfold f_X6_tops_b6 f_X6_tops_b47
      dsimp only
      have ho := W_o hW hj
      have o1 := one (fun u => bset (fun s => aNr a s u) 24 = 0) j hj
      have o2 := one (fun u => bset (aNr a u) 24 = 0) j hj
      rw [if_neg (nle hj (by omega)), chk_nI (by omega) (by decide), ix_nI (by omega), hC.2.1 j hj, c_broader hC ho, sbind, chk_nI ho (by decide), chk_nI ho (by decide), ix_nI (by omega), hC.1 _ ho, nI_1]
      by_cases q1 : bset (fun s => aNr a s (aO a j)) 24 = 0
      · rw [if_pos q1, o1.1 q1]
        by_cases q2 : bset (aNr a (aO a j)) 24 = 0
        · rw [if_pos q2, o2.1 q2]
        · rw [if_neg q2, o2.2 q2]
      · rw [if_neg q1, o1.2 q1]
        by_cases q2 : bset (aNr a (aO a j)) 24 = 0
        · rw [if_pos q2, o2.1 q2]
        · rw [if_neg q2, o2.2 q2]
    · intro rc
      show f_X6_tops_b6 _ _ _ _ _ _ _ _ _ = _
      unfold f_X6_tops_b6
      dsimp only
      rw [if_pos (yle _ (by omega)), fin (fun u => bset (fun s => aNr a s u) 24 = 0), fin (fun u => bset (aNr a u) 24 = 0), ← dT, ← dB, c_tell, sbind, c_add (by decide), sbind]
  · unfold f_X7_tops f_X7_tops_l11
    refine loop_go (fun j => (bset (fun t => pb (T t)) j, bset (fun t => pb (B t)) j, nI j, 0)) 24 200 (by decide) rfl ?_ ?_
    · intro j hj rc
      show f_X7_tops_b11 _ _ _ _ _ _ _ _ = _
      unfold f_X7_tops_b11 f_X7_tops_b39 f_X7_tops_b40 f_X7_tops_b69 f_X7_tops_b70
      dsimp only
      have o1 := bset_f T j
      have o2 := bset_f B j
      rw [if_neg (n24 hj), nI_1, Mbr hM hW hj, Mn hM hj]
      by_cases hal : aAl a j = true
      · rw [m_isTerm1 hM hj hal]
        simp only [sbind, if_neg one0]
        by_cases q1 : bset (fun s => aNr a s j) 24 = 0
        · rw [if_pos q1, o1.1 (by rw [dT]; exact ⟨hal, q1⟩)]
          by_cases q2 : bset (aNr a j) 24 = 0
          · rw [if_pos q2, o2.1 (by rw [dB]; exact ⟨hal, q2⟩)]
          · rw [if_neg q2, o2.2 (by rw [dB]; exact fun z => q2 z.2)]
        · rw [if_neg q1, o1.2 (by rw [dT]; exact fun z => q1 z.2)]
          by_cases q2 : bset (aNr a j) 24 = 0
          · rw [if_pos q2, o2.1 (by rw [dB]; exact ⟨hal, q2⟩)]
          · rw [if_neg q2, o2.2 (by rw [dB]; exact fun z => q2 z.2)]
      · rw [m_isTerm0 hM (al_isT hj hal)]
        simp only [sbind, if_true]
        rw [o1.2 (by rw [dT]; exact fun z => hal z.1), o2.2 (by rw [dB]; exact fun z => hal z.1)]
    · intro rc
      show f_X7_tops_b11 _ _ _ _ _ _ _ _ = _
      unfold f_X7_tops_b11
      dsimp only
      rw [if_pos y24, m_tell, sbind, m_enters (by decide), sbind]
      rfl
