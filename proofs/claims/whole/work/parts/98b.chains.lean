/-! PURE 98b: case 21, given what a search does -/
theorem GI_P {a : AN} {P P' : Nat → Bool} {A : Nat → Nat} {W : Nat → Prop} (h : GI a P A W) (e : ∀ l, l < 24 → P l = P' l) : GI a P' A W := by
  refine ⟨h.1, h.2.1, fun l hl q => h.2.2.1 l hl (by rw [e l hl]; exact q), h.2.2.2.1, fun l hl q => h.2.2.2.2 l hl (by rw [e l hl]; exact q)⟩
theorem inv_21_of (hFF : ∀ n a, CN n a → WA a → FF n a) (x_words : Nat → Int32) (x_wordCount : Int32) (x_size : Int32) (x_signs : Nat → Int32) (x_next : Int32) (g_longest : Nat → Int32) (g_many : Nat → Int64) (g_layers : Nat → Int32) (g_length : Int32) (g_aheadOf : Nat → Int32) (g_cameFrom : Nat → Int32) (g_queue : Nat → Int32) (r_numbers : Nat → Int64) (r_size : Int32) (p_size : Int32) (t_filled : Nat → Int32) (nd : Nat → ND) (m_thrown : Int32) (m_told : Int32) (m_row : Nat → Int64) (m_tape : Nat → Int32) (m_taped : Int32) (m_at : Int32) (m_to : Int32) (m_mem : Nat → Int32) (m_undos : Int32) (m_places : Nat → Int32) (m_movers : Nat → Int32) (m_far : Nat → Int32) (m_way : Nat → Int32) (m_wayMany : Int32) (m_fromOf : Nat → Int32) (m_toOf : Nat → Int32) (m_longest : Nat → Int32) (m_wayCount : Nat → Int64) (m_thin : Nat → Int32) (m_ahead : Nat → Int32) (m_tried : Int32) (m_foundLow : Int32) (m_foundHigh : Int32) (m_nextLow : Int32) (m_nextHigh : Int32) (m_act : Nat → Int32) (m_first : Nat → Int32) (m_second : Nat → Int32) (m_random : Int32) (m_isKept : Nat → Int32) (x y : Int32) (h : Inv x_words x_wordCount x_size x_signs x_next g_longest g_many g_layers g_length g_aheadOf g_cameFrom g_queue r_numbers r_size p_size t_filled nd m_thrown m_told m_row m_tape m_taped m_at m_to m_mem m_undos m_places m_movers m_far m_way m_wayMany m_fromOf m_toOf m_longest m_wayCount m_thin m_ahead m_tried m_foundLow m_foundHigh m_nextLow m_nextHigh m_act m_first m_second m_random m_isKept) : S_21 Inv x_words x_wordCount x_size x_signs x_next g_longest g_many g_layers g_length g_aheadOf g_cameFrom g_queue r_numbers r_size p_size t_filled nd m_thrown m_told m_row m_tape m_taped m_at m_to m_mem m_undos m_places m_movers m_far m_way m_wayMany m_fromOf m_toOf m_longest m_wayCount m_thin m_ahead m_tried m_foundLow m_foundHigh m_nextLow m_nextHigh m_act m_first m_second m_random m_isKept x y := by
  obtain ⟨⟨a, hC, hM, hW⟩, hP, hK, hR, hT⟩ := h
  have s24 := hW.1
  have hB' := tr24 hW
  obtain ⟨lon, e1, f1⟩ := c_down hC hW g_longest
  obtain ⟨A1, W1, ah1, cf1, q1, c1, c2⟩ := c_match hC hW (hFF _ _ hC hW) g_aheadOf g_cameFrom g_queue
  obtain ⟨f, A2, W2, ah2, tr2, m1, m2, m3⟩ := m_chains hM hW m_thrown m_told m_row m_ahead m_tried
  have al1 : ∀ l, l < 24 → byO a (aS a) l = aAl a l := by
    intro l hl
    apply Bool.eq_iff_iff.mpr
    unfold byO
    rw [pb_iff]
    constructor
    · rintro ⟨p, hp, e⟩
      rw [← e]
      exact W_al hW hp
    · exact fun w => hW.2.2.2.2.2.1 l w
  have al2 : ∀ l, l < 24 → upto a 24 l = aAl a l := by
    intro l hl
    unfold upto
    rw [decide_eq_true hl, Bool.true_and]
  have g1 := GI_P c2 al1
  have g2 := GI_P m3 al2
  have de : dm A1 = dm A2 := Nat.le_antisymm (great (fun _ _ w => w) g2 g1) (great (fun _ _ w => w) g1 g2)
  rw [cnt_al hW] at m2
  unfold S_21
  rw [m1]
  have cE : f_X6_chains g_longest g_aheadOf g_cameFrom g_queue (nd 0).1 (nd 0).2.1 (nd 0).2.2.2.2.2.2.2.1 r_numbers r_size = some (nI f, lon, ah1, cf1, q1, vp_updL r_numbers 0 (nI (gm (aAl a) (fun t => mx (aNr a) t + 1) 24)).toInt64, nI 1) := by
    rw [hC.2.2.2.2.2.2.1]
    unfold f_X6_chains
    rw [e1, sbind]
    unfold f_X6_chains_l15
    have gb : ∀ j, gm (fun _ => true) (fun p => mx (tr (aNr a)) (aO a p) + 1) j ≤ 24 := fun j => gm_le _ _ (fun k _ => by have := mx_23 hB' (aO a k); omega) j
    refine loop_go (fun j => (nI (gm (fun _ => true) (fun p => mx (tr (aNr a)) (aO a p) + 1) j), nI j, lon)) (aS a) 200 (by omega) rfl ?_ ?_
    · intro j hj rc
      show f_X6_chains_b15 _ _ _ _ _ _ _ _ _ _ _ _ = _
      unfold f_X6_chains_b15
      dsimp only
      have lo := W_lt hW (W_al hW hj)
      have b1 := gb j
      have b2 := mx_23 hB' (aO a j)
      have gs : gm (fun _ => true) (fun p => mx (tr (aNr a)) (aO a p) + 1) (j + 1) = if gm (fun _ => true) (fun p => mx (tr (aNr a)) (aO a p) + 1) j < mx (tr (aNr a)) (aO a j) + 1 then mx (tr (aNr a)) (aO a j) + 1 else gm (fun _ => true) (fun p => mx (tr (aNr a)) (aO a p) + 1) j := by
        show (if true = true ∧ gm (fun _ => true) (fun p => mx (tr (aNr a)) (aO a p) + 1) j < mx (tr (aNr a)) (aO a j) + 1 then mx (tr (aNr a)) (aO a j) + 1 else gm (fun _ => true) (fun p => mx (tr (aNr a)) (aO a p) + 1) j) = _
        by_cases c : gm (fun _ => true) (fun p => mx (tr (aNr a)) (aO a p) + 1) j < mx (tr (aNr a)) (aO a j) + 1
        · rw [if_pos ⟨rfl, c⟩, if_pos c]
        · rw [if_neg (fun w => c w.2), if_neg c]
      rw [if_neg (nle hj (by omega)), chk_nI (by omega) (by decide), ix_nI (by omega), hC.2.1 j hj, chk_nI lo (by decide), ix_nI (by omega), f1 _ lo, nI_1, nI_1, jmax_nI (by omega) (by omega), gs]
    · intro rc
      show f_X6_chains_b15 _ _ _ _ _ _ _ _ _ _ _ _ = _
      unfold f_X6_chains_b15
      dsimp only
      rw [if_pos (yle _ (by omega)), c_tell, sbind, c1, sbind, most_eq hW]
      have e : nI (aS a) - nI (dm A1) = nI f := by
        rw [← m2, de, ← nI_add]
        exact Int32.add_sub_cancel _ _
      rw [e]
  exact ⟨_, cE, _, rfl, rfl, ⟨a, hC, hM, hW⟩, hP, hK, Rw1 _ _ _, hT⟩
