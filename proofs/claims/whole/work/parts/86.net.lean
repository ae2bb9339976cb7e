/-! PURE 86: net -/
theorem loop_twx {V W ρ σ : Type} {bV : (V → Option ρ) → V → Option ρ} {bW : (W → Option σ) → W → Option σ} {P : ρ → σ → Prop} (m n n' : Nat) (R : Nat → V → W → Prop) (v : V) (w : W) (hn : m < n) (hn' : m + 1 < n') (h0 : R 0 v w) (hs : ∀ j v w, j ≤ m → R j v w → (∀ rv rw, ∃ x, bV rv v = some x ∧ ∃ y, bW rw w = some y ∧ P x y) ∨ (∃ w', (∀ rw, bW rw w = rw w') ∧ ∀ rv rw, ∃ x, bV rv v = some x ∧ ∃ y, bW rw w' = some y ∧ P x y) ∨ (j < m ∧ ∃ v' w', R (j + 1) v' w' ∧ (∀ rv, bV rv v = rv v') ∧ (∀ rw, bW rw w = rw w'))) : ∃ x, loopN bV n v = some x ∧ ∃ y, loopN bW n' w = some y ∧ P x y :=
  loop_twe (fun p q => ∃ x, p = some x ∧ ∃ y, q = some y ∧ P x y) m n n' R hn hn' hs v w h0
theorem net_loop {n : ND} {a : AN} {mem : Nat → Int32} (hC : CN n a) (hM : MN mem 0 a) (hW : WA a) {k : Nat} (hk : k ≤ 21) {w fr to : Nat → Int32} (hw : ∀ j, j < k → ∃ u v, u < 24 ∧ v < 24 ∧ w j = nI (100 * u + v) ∧ fr j = nI u ∧ to j = nI v) (sa bb : Nat → Nat) (sg : Nat → Int32) (ps : Int32) (nx : Int32) (lay : Nat → Int32) (len : Int32) (rn : Nat → Int64) (rs : Int32) (s1 s2 : Nat → Int32) (s3 : Nat → Int64) (s4 s5 : Nat → Int32) (s6 s7 s8 : Int32) (told : Int32) (row : Nat → Int64) (tape : Nat → Int32) (us ma mt : Int32) (pls mvs : Nat → Int32)
    {P : (Int32 × (Nat → Int32) × Int32 × Int32 × Int32 × (Nat → Int32) × Int32 × (Nat → Int64) × Int32 × (Nat → Int32) × (Nat → Int32) × (Nat → Int32) × (Nat → Nat) × Nat × Int32 × (Nat → Int32) × (Nat → Int32) × (Nat → Int64) × (Nat → Int32) × (Nat → Int32) × Int32 × Int32 × Int32) → (Int32 × Int32 × Int32 × (Nat → Int64) × Int32 × Int32 × Int32 × (Nat → Int32) × Int32 × (Nat → Int32) × (Nat → Int32) × (Nat → Int32) × (Nat → Int32)) → Prop}
    (hE : ∀ J f lay len rn rs nr ord mov m1 pls mvs a', J ≤ k → f ≤ 21 → out mem m1 → CN (nr, ord, n.2.2.1, n.2.2.2.1, n.2.2.2.2.1, mov, n.2.2.2.2.2.2) a' → MN m1 0 a' → WA a' → nl a' = nl a + f → ∃ rC, f_X6_net_b92 sa bb sg n.2.2.1 n.2.2.2.1 n.2.2.2.2.1 n.2.2.2.2.2.2.1 n.2.2.2.2.2.2.2.1 n.2.2.2.2.2.2.2.2 ps (nI (nl a)) (nI J) w (nI k) 0 nx lay len rn rs nr ord mov s1 s2 s3 s4 s5 s6 s7 s8 = some rC ∧ ∃ rM, f_X7_net_b112 told row tape us (nI k) (nI J) (nI f) 0 0 ma mt m1 pls mvs fr to = some rM ∧ P rC rM) :
    ∃ rC, f_X6_net_l52 sa bb sg n.2.2.1 n.2.2.2.1 n.2.2.2.2.1 n.2.2.2.2.2.2.1 n.2.2.2.2.2.2.2.1 n.2.2.2.2.2.2.2.2 ps (nI (nl a)) 0 w (nI k) 0 nx lay len rn rs n.1 n.2.1 n.2.2.2.2.2.1 s1 s2 s3 s4 s5 s6 s7 s8 = some rC ∧ ∃ rM, f_X7_net_l38 told row tape us (nI k) 0 0 1 0 0 ma mt mem pls mvs fr to = some rM ∧ P rC rM := by
  unfold f_X6_net_l52 f_X7_net_l38
  refine loop_twx k 200 200 (fun j v w2 => ∃ f lay len rn rs nr ord mov m1 pls mvs a', f ≤ j ∧ out mem m1 ∧ CN (nr, ord, n.2.2.1, n.2.2.2.1, n.2.2.2.2.1, mov, n.2.2.2.2.2.2) a' ∧ MN m1 0 a' ∧ WA a' ∧ nl a' = nl a + f ∧ v = (nI (nl a), nI j, w, nI k, 0, nx, lay, len, rn, rs, nr, ord, mov, s1, s2, s3, s4, s5, s6, s7, s8) ∧ w2 = (nI k, nI j, nI f, 1, 0, 0, ma, mt, m1, pls, mvs, fr, to)) _ _ (by omega) (by omega) ⟨0, lay, len, rn, rs, n.1, n.2.1, n.2.2.2.2.2.1, mem, pls, mvs, a, Nat.le_refl _, out_refl _, hC, hM, hW, rfl, rfl, rfl⟩ ?_
  rintro j _ _ hj ⟨f, lay, len, rn, rs, nr, ord, mov, m1, pls, mvs, a', hf, ho, hC', hM', hW', hn, rfl, rfl⟩
  by_cases ej : j = k
  · left
    intro rv rw
    show ∃ x, f_X6_net_b52 _ _ _ _ _ _ _ _ _ _ _ _ _ _ _ _ _ _ _ _ _ _ _ _ _ _ _ _ _ _ _ _ = some x ∧ ∃ y, f_X7_net_b38 _ _ _ _ _ _ _ _ _ _ _ _ _ _ _ _ _ _ = some y ∧ _
    unfold f_X6_net_b52 f_X7_net_b38
    dsimp only
    rw [if_pos (by rw [nI_leI (by omega) (by omega)]; omega), if_pos (by rw [nI_leI (by omega) (by omega)]; omega)]
    exact hE j f lay len rn rs nr ord mov m1 pls mvs a' hj (by omega) ho hC' hM' hW' hn
  · have jk : j < k := by omega
    obtain ⟨u, v, hu, hv, w1, w2, w3⟩ := hw j jk
    obtain ⟨g, lay', len', rn', rs', nr', ord', mov', r, m1', pls', mvs', a'', f', e1, e2, ho', q1, q2, q3, q4, q5, q6⟩ := lop hC' hM' hW' hu hv lay len rn rs pls mvs
    have nk : ¬ nI k ≤ nI j := nle jk (by omega)
    have e1' : f_X0_linkOrPass lay len rn rs nr ord mov n.2.2.2.2.2.2.1 n.2.2.2.2.2.2.2.1 (nI (100 * u + v)) = some (g, lay', len', rn', rs', nr', ord', mov') := e1
    have bC : ∀ k52, f_X6_net_b52 sa bb sg n.2.2.1 n.2.2.2.1 n.2.2.2.2.1 n.2.2.2.2.2.2.1 n.2.2.2.2.2.2.2.1 n.2.2.2.2.2.2.2.2 ps k52 (nI (nl a)) (nI j) w (nI k) 0 nx lay len rn rs nr ord mov s1 s2 s3 s4 s5 s6 s7 s8 = if g = 0 then f_X6_net_b92 sa bb sg n.2.2.1 n.2.2.2.1 n.2.2.2.2.1 n.2.2.2.2.2.2.1 n.2.2.2.2.2.2.2.1 n.2.2.2.2.2.2.2.2 ps (nI (nl a)) (nI j) w (nI k) 0 nx lay' len' rn' rs' nr' ord' mov' s1 s2 s3 s4 s5 s6 s7 s8 else k52 (nI (nl a)) (nI (j + 1)) w (nI k) 0 nx lay' len' rn' rs' nr' ord' mov' s1 s2 s3 s4 s5 s6 s7 s8 := by
      intro k52
      unfold f_X6_net_b52
      rw [if_neg nk, chk_nI (show j < 80 by omega) (by decide), ix_nI (by omega), w1, e1', sbind, nI_1]
    have bM : ∀ k38, f_X7_net_b38 told row tape us k38 (nI k) (nI j) (nI f) 1 0 0 ma mt m1 pls mvs fr to = if 0 ≤ r then k38 (nI k) (nI (j + 1)) (nI f + f_X7_flag 1) 1 0 0 ma mt m1' pls' mvs' fr to else if r = -2 then k38 (nI k) (nI (j + 1)) (nI f) 1 0 0 ma mt m1' pls' mvs' fr to else k38 (nI k) (nI j) (nI f) 0 0 0 ma mt m1' pls' mvs' fr to := by
      intro k38
      unfold f_X7_net_b38 f_X7_net_b78 f_X7_net_b83 f_X7_net_b96
      rw [if_neg nk, if_neg one0, chk_nI (show j < 40 by omega) (by decide), chk_nI (show j < 40 by omega) (by decide), ix_nI (by omega), w2, w3, e2, sbind]
      dsimp only
      by_cases h0 : 0 ≤ r
      · rw [if_pos h0, if_pos h0, if_neg (i_nlt.mpr h0), flag1, nI_1]
      · have h1 : r < 0 := Classical.byContradiction fun q => h0 (i_nlt.mp q)
        rw [if_neg h0, if_neg h0, if_pos h1, flag0, flag1, if_pos h1, nI_1, Int32.add_zero, Int32.add_zero]
    right
    rcases q6 with ⟨g0, r1, r2, r3, f0⟩ | ⟨g1, r1, f0⟩ | ⟨g1, r1, r2, f1⟩
    · left
      refine ⟨(nI k, nI j, nI f, 0, 0, 0, ma, mt, m1', pls', mvs', fr, to), ?_, ?_⟩
      · intro rw
        show f_X7_net_b38 _ _ _ _ _ _ _ _ _ _ _ _ _ _ _ _ _ _ = _
        dsimp only
        rw [bM, if_neg r2, if_neg r3]
      · intro rv rw
        show ∃ x, f_X6_net_b52 _ _ _ _ _ _ _ _ _ _ _ _ _ _ _ _ _ _ _ _ _ _ _ _ _ _ _ _ _ _ _ _ = some x ∧ ∃ y, f_X7_net_b38 _ _ _ _ _ _ _ _ _ _ _ _ _ _ _ _ _ _ = some y ∧ _
        dsimp only
        rw [bC, if_pos g0]
        unfold f_X7_net_b38
        rw [if_neg nk, if_pos rfl]
        exact hE j f lay' len' rn' rs' nr' ord' mov' m1' pls' mvs' a'' hj (by omega) (out_trans ho ho') q1 q2 q3 (by omega)
    · right
      refine ⟨jk, _, _, ⟨f, lay', len', rn', rs', nr', ord', mov', m1', pls', mvs', a'', by omega, out_trans ho ho', q1, q2, q3, by omega, rfl, rfl⟩, ?_, ?_⟩
      · intro rv
        show f_X6_net_b52 _ _ _ _ _ _ _ _ _ _ _ _ _ _ _ _ _ _ _ _ _ _ _ _ _ _ _ _ _ _ _ _ = _
        dsimp only
        rw [bC, if_neg (by rw [g1]; exact one0)]
      · intro rw
        show f_X7_net_b38 _ _ _ _ _ _ _ _ _ _ _ _ _ _ _ _ _ _ = _
        dsimp only
        rw [bM, if_neg (show ¬ 0 ≤ r by rw [r1]; decide), if_pos r1]
    · right
      refine ⟨jk, _, _, ⟨f + 1, lay', len', rn', rs', nr', ord', mov', m1', pls', mvs', a'', by omega, out_trans ho ho', q1, q2, q3, by omega, rfl, rfl⟩, ?_, ?_⟩
      · intro rv
        show f_X6_net_b52 _ _ _ _ _ _ _ _ _ _ _ _ _ _ _ _ _ _ _ _ _ _ _ _ _ _ _ _ _ _ _ _ = _
        dsimp only
        rw [bC, if_neg (by rw [g1]; exact one0)]
      · intro rw
        show f_X7_net_b38 _ _ _ _ _ _ _ _ _ _ _ _ _ _ _ _ _ _ = _
        dsimp only
        rw [bM, if_pos r1, flag1, nI_1]
theorem inv_8 (x_words : Nat → Int32) (x_wordCount : Int32) (x_size : Int32) (x_signs : Nat → Int32) (x_next : Int32) (g_longest : Nat → Int32) (g_many : Nat → Int64) (g_layers : Nat → Int32) (g_length : Int32) (g_aheadOf : Nat → Int32) (g_cameFrom : Nat → Int32) (g_queue : Nat → Int32) (r_numbers : Nat → Int64) (r_size : Int32) (p_size : Int32) (t_filled : Nat → Int32) (nd : Nat → ND) (m_thrown : Int32) (m_told : Int32) (m_row : Nat → Int64) (m_tape : Nat → Int32) (m_taped : Int32) (m_at : Int32) (m_to : Int32) (m_mem : Nat → Int32) (m_undos : Int32) (m_places : Nat → Int32) (m_movers : Nat → Int32) (m_far : Nat → Int32) (m_way : Nat → Int32) (m_wayMany : Int32) (m_fromOf : Nat → Int32) (m_toOf : Nat → Int32) (m_longest : Nat → Int32) (m_wayCount : Nat → Int64) (m_thin : Nat → Int32) (m_ahead : Nat → Int32) (m_tried : Int32) (m_foundLow : Int32) (m_foundHigh : Int32) (m_nextLow : Int32) (m_nextHigh : Int32) (m_act : Nat → Int32) (m_first : Nat → Int32) (m_second : Nat → Int32) (m_random : Int32) (m_isKept : Nat → Int32) (x y : Int32) (h : Inv x_words x_wordCount x_size x_signs x_next g_longest g_many g_layers g_length g_aheadOf g_cameFrom g_queue r_numbers r_size p_size t_filled nd m_thrown m_told m_row m_tape m_taped m_at m_to m_mem m_undos m_places m_movers m_far m_way m_wayMany m_fromOf m_toOf m_longest m_wayCount m_thin m_ahead m_tried m_foundLow m_foundHigh m_nextLow m_nextHigh m_act m_first m_second m_random m_isKept) : S_8 Inv x_words x_wordCount x_size x_signs x_next g_longest g_many g_layers g_length g_aheadOf g_cameFrom g_queue r_numbers r_size p_size t_filled nd m_thrown m_told m_row m_tape m_taped m_at m_to m_mem m_undos m_places m_movers m_far m_way m_wayMany m_fromOf m_toOf m_longest m_wayCount m_thin m_ahead m_tried m_foundLow m_foundHigh m_nextLow m_nextHigh m_act m_first m_second m_random m_isKept x y := by
  obtain ⟨⟨a, hC, hM, hW⟩, hP, hK, hR, ⟨z, hz, z1, z2, hs⟩⟩ := h
  unfold S_8
  intro sa bb
  have hM0 := Mc0 hW hM
  have agR : agr m_mem m_mem := fun _ _ _ _ _ _ => rfl
  have ag0 : agr m_mem (cpy m_mem 0 3) := agr_cpy _ (.inr (.inl rfl))
  unfold f_X6_net f_X7_net f_X7_reads f_X5_clear
  rw [z1, z2]
  dsimp only
  rcases rd_links hC hM hW hz hs x_words x_wordCount x_next m_fromOf m_toOf with ⟨w', wc', q, fr', to', e1, e2⟩ | ⟨w', q, k, fr', to', q', hk, e1, e2, hw⟩
  · rw [e1, sbind, e2, sbind]
    dsimp only
    rw [if_pos rfl, if_neg (show ¬ (0 : Int32) ≤ -1 by decide)]
    unfold f_X5_wrongSign
    exact ⟨_, rfl, _, rfl, rfl, .inl ⟨rfl, rfl, ⟨a, hC, hM, hW⟩, (chgP agR hP hK _ _).1, (chgP agR hP hK _ _).2, hR, Tx0 _ _⟩⟩
  · rw [e1, sbind, e2, sbind]
    dsimp only
    rw [if_neg one0, if_pos (i_nlt.mp (neg_lt (show k < 2147483648 by omega))), c_lcnt hC hW, sbind, Mcp, sbind]
    refine net_loop hC hM0 hW hk hw sa bb _ _ _ _ _ _ _ _ _ _ _ _ _ _ _ _ _ _ _ _ _ _ _ ?_
    intro J f lay len rn rs nr ord mov m1 pls mvs a' hJ hf ho q1 q2 q3 hn
    have hA : BN (nr, ord, (nd 0).2.2.1, (nd 0).2.2.2.1, (nd 0).2.2.2.2.1, mov, (nd 0).2.2.2.2.2.2) m1 0 a' := ⟨q1, q2, q3⟩
    have b1 := nl_le a
    have kk := c_lcnt q1 q3
    dsimp only at kk
    unfold f_X6_net_b92 f_X7_net_b112
    rw [kk, sbind]
    unfold f_X6_net_b110 f_X6_net_b130 f_X7_net_b120 f_X7_net_b136
    by_cases f0 : f = 0
    · rw [if_pos (by rw [nI_leI (by omega) (by omega)]; omega), if_pos (show nI f ≤ 0 by rw [f0]; decide)]
      by_cases hJk : k ≤ J
      · have hle : nI k ≤ nI J := by rw [nI_leI (by omega) (by omega)]; exact hJk
        rw [if_pos hle, if_pos hle, c_tell, sbind, m_tell, sbind, flag0]
        exact ⟨_, rfl, _, rfl, rfl, .inl ⟨rfl, rfl, ⟨a', hA⟩, (chgP (out_agr ag0 ho) hP hK _ _).1, (chgP (out_agr ag0 ho) hP hK _ _).2, Rw1 _ _ _, Tx0 _ _⟩⟩
      · have hle : ¬ nI k ≤ nI J := nle (by omega) (by omega)
        rw [if_neg hle, if_neg hle, c_tell, sbind, m_tell, sbind, flag1]
        exact ⟨_, rfl, _, rfl, rfl, .inl ⟨rfl, rfl, ⟨a', hA⟩, (chgP (out_agr ag0 ho) hP hK _ _).1, (chgP (out_agr ag0 ho) hP hK _ _).2, Rw1 _ _ _, Tx0 _ _⟩⟩
    · obtain ⟨k', hk', ek, bb', sa', mem', g1, g2, g3, g4, g5⟩ := chgC (out_agr ag0 ho) hP hK hA (BN_aside (n12 := nd 12) ⟨hC, hM, hW⟩ (out_as ho)) sa bb
      rw [if_neg (nle (show nl a < nl a' by omega) (by omega)), if_neg (show ¬ nI f ≤ 0 by rw [show (0 : Int32) = nI 0 from rfl, nI_leI (by omega) (by omega)]; omega), g1, sbind, g2, sbind]
      dsimp only
      by_cases hJk : k ≤ J
      · have hle : nI k ≤ nI J := by rw [nI_leI (by omega) (by omega)]; exact hJk
        rw [if_pos hle, if_pos hle, c_tell, sbind, m_tell, sbind, flag0]
        exact ⟨_, rfl, _, rfl, rfl, .inr ⟨k', hk', ek, rfl, g3, g4, g5, Rw1 _ _ _, Tx0 _ _⟩⟩
      · have hle : ¬ nI k ≤ nI J := nle (by omega) (by omega)
        rw [if_neg hle, if_neg hle, c_tell, sbind, m_tell, sbind, flag1]
        exact ⟨_, rfl, _, rfl, rfl, .inr ⟨k', hk', ek, rfl, g3, g4, g5, Rw1 _ _ _, Tx0 _ _⟩⟩
