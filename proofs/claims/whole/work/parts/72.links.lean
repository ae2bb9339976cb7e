/-! PURE 72: links, would -/
theorem mvd_le (a : AN) (x y : Nat) : mvd a x y 24 ≤ 24 := cnt_le _ _
theorem link_q {n : ND} {a : AN} {mem : Nat → Int32} {q : Nat} (hC : CN n a) (hM : MN mem (q * 179) a) (hq : q ≤ 12) (hW : WA a) {x y : Nat} (hx : aAl a x = true) (hy : aAl a y = true) (hne : x ≠ y) (lay : Nat → Int32) (len : Int32) (rn : Nat → Int64) (rs : Int32) (pls mvs : Nat → Int32) : ∃ r lay' len' rn' rs' nr ord mov m1 pls' mvs' a', f_X0_link lay len rn rs n.1 n.2.1 n.2.2.2.2.2.1 n.2.2.2.2.2.2.1 n.2.2.2.2.2.2.2.1 (nI x) (nI y) = some (r, lay', len', rn', rs', nr, ord, mov) ∧ f_X7_comes mem pls mvs (nI q) (nI x) (nI y) = some (r, m1, pls', mvs') ∧ outq q mem m1 ∧ CN (nr, ord, n.2.2.1, n.2.2.2.1, n.2.2.2.2.1, mov, n.2.2.2.2.2.2) a' ∧ MN m1 (q * 179) a' ∧ WA a' ∧ (((r = -2 ∨ r = -4) ∧ a' = a) ∨ (∃ k, k ≤ 24 ∧ r = nI k ∧ a' = cmS a x y ∧ aNr a x y = false ∧ ¬ Rc (aNr a) y x)) ∧ ((r = -4 ∧ m1 = mem ∧ ∃ L, Ds (bar (aNr a) false y x) x L y ∧ rn' = rwP (pth (bar (aNr a) false y x) x L y) rn (L + 1) ∧ rs' = nI (L + 1)) ∨ (r ≠ -4 ∧ rn' = rn ∧ rs' = rs)) := by
  have lx := W_lt hW hx
  have ly := W_lt hW hy
  obtain ⟨k1, k2, k3⟩ := m_comes hM hq hW hx hy hne pls mvs
  unfold f_X0_link
  rw [C_pair1 hC hW hx hy hne, if_neg one0, chk_nI lx (by decide), ix_nI (by omega)]
  by_cases hl : aNr a x y = true
  · rw [if_neg (by rw [c_linked hC lx ly, hl]; decide)]
    exact ⟨_, _, _, _, _, _, _, _, _, _, _, a, rfl, k1 hl, outq_refl _ _, hC, hM, hW, .inl ⟨.inl rfl, rfl⟩, .inr ⟨by decide, rfl, rfl⟩⟩
  · have hl : aNr a x y = false := Bool.eq_false_iff.mpr hl
    rw [if_pos ((c_linked hC lx ly).mpr hl)]
    obtain ⟨c1, c2⟩ := c_findWay hC hW (b := false) (p4 := 1) (.inr ⟨rfl, rfl⟩) ly lx (fun e => hne e.symm) lay len
    by_cases hr : Rc (aNr a) y x
    · have hr' : Rc (bar (aNr a) false y x) y x := by rw [bar_no]; exact hr
      obtain ⟨m, hm⟩ := hr'
      obtain ⟨L, _, hL⟩ := Ds_ex hm
      have hL23 : L ≤ 23 := Wk_23 hW (Wk_bar hL.1)
      rw [c1 L hL, sbind]
      dsimp only
      rw [if_neg (show ¬ nI (L + 1) ≤ 0 by rw [show (0 : Int32) = nI 0 from rfl, nI_leI (by omega) (by omega)]; omega), c_tellWay hC hW ly hL, sbind]
      exact ⟨_, _, _, _, _, _, _, _, _, _, _, a, rfl, k2 hl hr, outq_refl _ _, hC, hM, hW, .inl ⟨.inr rfl, rfl⟩, .inl ⟨rfl, rfl, L, hL, rfl, rfl⟩⟩
    · obtain ⟨lay', c2⟩ := c2 (by rw [bar_no]; exact hr)
      obtain ⟨mov', e1⟩ := c_come hC hW hx hy hne hr
      obtain ⟨m1, pls', mvs', e2, e3, e4⟩ := k3 hl hr
      rw [c2, sbind]
      dsimp only
      rw [if_pos (by decide), e1, sbind]
      refine ⟨_, _, _, _, _, _, _, _, m1, pls', mvs', cmS a x y, rfl, e2, e4, CN_come hC hW y mov', e3, WA_come hW hx hy hr, .inr ⟨mvd a x y 24, mvd_le a x y, rfl, rfl, hl, hr⟩, .inr ⟨?_, rfl, rfl⟩⟩
      intro z
      have z' : nI (mvd a x y 24) = -4 := z
      exact neg_lt (n := mvd a x y 24) (by have := mvd_le a x y; omega) (by rw [z']; decide)
theorem m_lin1 {mem : Nat → Int32} {a : AN} (h : MN mem 0 a) (hW : WA a) {x y : Nat} (hx : aAl a x = true) (hy : aAl a y = true) (hne : x ≠ y) {pls mvs : Nat → Int32} {r : Int32} {m1 pls' mvs' : Nat → Int32} (e : f_X7_comes mem pls mvs 0 (nI x) (nI y) = some (r, m1, pls', mvs')) : f_X7_linksOne mem pls mvs (nI x) (nI y) = some (r, m1, pls', mvs') := by
  unfold f_X7_linksOne
  rw [m_two1 h hW hx hy hne, sbind, if_neg one0, e, sbind]
theorem m_lin0 {mem : Nat → Int32} {a : AN} (h : MN mem 0 a) {x y : Int32} (hn : ¬ two a x y) (pls mvs : Nat → Int32) : f_X7_linksOne mem pls mvs x y = some (-1, mem, pls, mvs) := by
  unfold f_X7_linksOne
  rw [m_two0 h hn, sbind, if_pos rfl]
theorem c_lin0 {n : ND} {a : AN} (hC : CN n a) {x y : Int32} (hn : ¬ two a x y) (lay : Nat → Int32) (len : Int32) (rn : Nat → Int64) (rs : Int32) : f_X0_link lay len rn rs n.1 n.2.1 n.2.2.2.2.2.1 n.2.2.2.2.2.2.1 n.2.2.2.2.2.2.2.1 x y = some (-1, lay, len, rn, rs, n.1, n.2.1, n.2.2.2.2.2.1) := by
  unfold f_X0_link
  rw [C_pair0 hC hn, if_pos rfl]
theorem inv_6 (x_words : Nat → Int32) (x_wordCount : Int32) (x_size : Int32) (x_signs : Nat → Int32) (x_next : Int32) (g_longest : Nat → Int32) (g_many : Nat → Int64) (g_layers : Nat → Int32) (g_length : Int32) (g_aheadOf : Nat → Int32) (g_cameFrom : Nat → Int32) (g_queue : Nat → Int32) (r_numbers : Nat → Int64) (r_size : Int32) (p_size : Int32) (t_filled : Nat → Int32) (nd : Nat → ND) (m_thrown : Int32) (m_told : Int32) (m_row : Nat → Int64) (m_tape : Nat → Int32) (m_taped : Int32) (m_at : Int32) (m_to : Int32) (m_mem : Nat → Int32) (m_undos : Int32) (m_places : Nat → Int32) (m_movers : Nat → Int32) (m_far : Nat → Int32) (m_way : Nat → Int32) (m_wayMany : Int32) (m_fromOf : Nat → Int32) (m_toOf : Nat → Int32) (m_longest : Nat → Int32) (m_wayCount : Nat → Int64) (m_thin : Nat → Int32) (m_ahead : Nat → Int32) (m_tried : Int32) (m_foundLow : Int32) (m_foundHigh : Int32) (m_nextLow : Int32) (m_nextHigh : Int32) (m_act : Nat → Int32) (m_first : Nat → Int32) (m_second : Nat → Int32) (m_random : Int32) (m_isKept : Nat → Int32) (x y : Int32) (h : Inv x_words x_wordCount x_size x_signs x_next g_longest g_many g_layers g_length g_aheadOf g_cameFrom g_queue r_numbers r_size p_size t_filled nd m_thrown m_told m_row m_tape m_taped m_at m_to m_mem m_undos m_places m_movers m_far m_way m_wayMany m_fromOf m_toOf m_longest m_wayCount m_thin m_ahead m_tried m_foundLow m_foundHigh m_nextLow m_nextHigh m_act m_first m_second m_random m_isKept) : S_6 Inv x_words x_wordCount x_size x_signs x_next g_longest g_many g_layers g_length g_aheadOf g_cameFrom g_queue r_numbers r_size p_size t_filled nd m_thrown m_told m_row m_tape m_taped m_at m_to m_mem m_undos m_places m_movers m_far m_way m_wayMany m_fromOf m_toOf m_longest m_wayCount m_thin m_ahead m_tried m_foundLow m_foundHigh m_nextLow m_nextHigh m_act m_first m_second m_random m_isKept x y := by
  obtain ⟨⟨a, hC, hM, hW⟩, hP, hK, hR, hT⟩ := h
  unfold S_6
  intro sa bb
  have hM0 := Mc0 hW hM
  have ag0 : agr m_mem (cpy m_mem 0 3) := agr_cpy _ (.inr (.inl rfl))
  by_cases hx : two a x y
  · obtain ⟨s, t, rfl, rfl, hs, ht, hne⟩ := hx
    have ls := W_lt hW hs
    have lt := W_lt hW ht
    obtain ⟨r, lay', len', rn', rs', nr, ord, mov, m1, pls', mvs', a', e1, e2, ho, q1, q2, q3, hk, hrow⟩ := link_q (q := 0) hC (hM0 : MN _ (0 * 179) a) (by omega) hW hs ht hne g_layers g_length r_numbers r_size m_places m_movers
    have ho := outq_0 ho
    have e2' := m_lin1 hM0 hW hs ht hne e2
    have hA : BN (nr, ord, (nd 0).2.2.1, (nd 0).2.2.2.1, (nd 0).2.2.2.2.1, mov, (nd 0).2.2.2.2.2.2) m1 0 a' := ⟨q1, q2, q3⟩
    unfold f_X6_links f_X7_links f_X7_links_b37
    rw [e1, sbind, Mcp, sbind, e2', sbind]
    dsimp only
    rcases hrow with ⟨h4, hm, L, hL, w1, w2⟩ | ⟨h4, w1, w2⟩
    · have hL23 : L ≤ 23 := Wk_23 hW (Wk_bar hL.1)
      obtain ⟨far', f1, _⟩ := m_findsWay (q := 0) (hM0 : MN _ (0 * 179) a) (by omega) hW (b := false) (p4 := 0) (.inr ⟨rfl, rfl⟩) lt ls m_far m_way m_wayMany
      have hr : r < 0 := by rw [h4]; decide
      rw [if_pos h4, hm, show f_X7_findsWay (cpy m_mem 0 3) m_far m_way m_wayMany 0 (nI t) (nI s) 0 = _ from f1 L hL, sbind]
      dsimp only
      rw [m_entersWay (p := pth (bar (aNr a) false t s) s L t) (by omega) (fun k hk => wyP_at _ _ hk), sbind, c_settle0 hr, sbind, m_done0 hr, sbind]
      rw [hm] at hA
      refine ⟨_, rfl, _, rfl, rfl, .inl ⟨rfl, rfl, ⟨a', hA⟩, (chgP ag0 hP hK _ _).1, (chgP ag0 hP hK _ _).2, ?_, hT⟩⟩
      rw [w1, w2]
      exact RwP _ _ _ (by omega)
    · rw [if_neg h4]
      by_cases hr : r < 0
      · rw [c_settle0 hr, sbind, m_done0 hr, sbind]
        refine ⟨_, rfl, _, rfl, rfl, .inl ⟨rfl, rfl, ⟨a', hA⟩, (chgP (out_agr ag0 ho) hP hK _ _).1, (chgP (out_agr ag0 ho) hP hK _ _).2, ?_, hT⟩⟩
        rw [w1, w2]
        exact hR
      · obtain ⟨k, hk, ek, bb', sa', mem', g1, g2, g3, g4, g5⟩ := chgC (out_agr ag0 ho) hP hK hA (BN_aside (n12 := nd 12) ⟨hC, hM, hW⟩ (out_as ho)) sa bb
        rw [c_settle1 hr g1, sbind, m_done1 hr g2, sbind]
        refine ⟨_, rfl, _, rfl, rfl, .inr ⟨k, hk, ek, g1, g3, g4, g5, ?_, hT⟩⟩
        rw [w1, w2]
        exact hR
  · have hr : (-1 : Int32) < 0 := by decide
    unfold f_X6_links f_X7_links f_X7_links_b37
    rw [c_lin0 hC hx, sbind, Mcp, sbind, m_lin0 hM0 hx, sbind]
    dsimp only
    rw [if_neg (by decide), c_settle0 hr, sbind, m_done0 hr, sbind]
    exact ⟨_, rfl, _, rfl, rfl, .inl ⟨rfl, rfl, ⟨a, hC, hM0, hW⟩, (chgP ag0 hP hK _ _).1, (chgP ag0 hP hK _ _).2, hR, hT⟩⟩
/-- a question that tries on the fifth slice -/
theorem tryP {nd : Nat → ND} {mem m1 : Nat → Int32} {ps us : Int32} {tf ik : Nat → Int32} (ag : agr mem m1) (hP : PaI nd mem ps us) (hK : KpI nd mem tf ik) (n1 : ND) : PaI (va_up nd 1 n1) m1 ps us ∧ KpI (va_up nd 1 n1) m1 tf ik := by
  constructor
  · obtain ⟨u, hu, e1, e2, hs⟩ := hP
    refine ⟨u, hu, e1, e2, fun k hk => ?_⟩
    obtain ⟨b, hb⟩ := hs k hk
    refine ⟨b, ?_⟩
    unfold va_up
    rw [if_neg (by omega)]
    exact BN_agr ag (by omega) (by omega) (by omega) hb
  · intro i hi
    obtain ⟨h1, h2⟩ := hK i hi
    refine ⟨h1, ?_⟩
    rcases h2 with h2 | ⟨h2, b, hb⟩
    · exact .inl h2
    · refine .inr ⟨h2, b, ?_⟩
      unfold va_up
      rw [if_neg (by omega)]
      exact BN_agr ag (by omega) (by omega) (by omega) hb
theorem try_out {mem m1 : Nat → Int32} (h : outq 4 (cpy mem 0 4) m1) : agr mem m1 := by
  intro q h0 h3 h4 k hk
  rw [h _ (by omega)]
  exact agr_cpy mem (.inr (.inr rfl)) q h0 h3 h4 k hk
theorem try_MN {mem m1 : Nat → Int32} {a : AN} (hW : WA a) (hM : MN mem 0 a) (h : outq 4 (cpy mem 0 4) m1) : MN m1 0 a := by
  have h1 : MN (cpy mem 0 4) 0 a := MN_cpo (q := 0) (q1 := 0) (q2 := 4) hW (hM : MN mem (0 * 179) a) (by omega)
  exact MN_cong hW h1 (fun k hk => h _ (.inl (by omega)))
theorem inv_11 (x_words : Nat → Int32) (x_wordCount : Int32) (x_size : Int32) (x_signs : Nat → Int32) (x_next : Int32) (g_longest : Nat → Int32) (g_many : Nat → Int64) (g_layers : Nat → Int32) (g_length : Int32) (g_aheadOf : Nat → Int32) (g_cameFrom : Nat → Int32) (g_queue : Nat → Int32) (r_numbers : Nat → Int64) (r_size : Int32) (p_size : Int32) (t_filled : Nat → Int32) (nd : Nat → ND) (m_thrown : Int32) (m_told : Int32) (m_row : Nat → Int64) (m_tape : Nat → Int32) (m_taped : Int32) (m_at : Int32) (m_to : Int32) (m_mem : Nat → Int32) (m_undos : Int32) (m_places : Nat → Int32) (m_movers : Nat → Int32) (m_far : Nat → Int32) (m_way : Nat → Int32) (m_wayMany : Int32) (m_fromOf : Nat → Int32) (m_toOf : Nat → Int32) (m_longest : Nat → Int32) (m_wayCount : Nat → Int64) (m_thin : Nat → Int32) (m_ahead : Nat → Int32) (m_tried : Int32) (m_foundLow : Int32) (m_foundHigh : Int32) (m_nextLow : Int32) (m_nextHigh : Int32) (m_act : Nat → Int32) (m_first : Nat → Int32) (m_second : Nat → Int32) (m_random : Int32) (m_isKept : Nat → Int32) (x y : Int32) (h : Inv x_words x_wordCount x_size x_signs x_next g_longest g_many g_layers g_length g_aheadOf g_cameFrom g_queue r_numbers r_size p_size t_filled nd m_thrown m_told m_row m_tape m_taped m_at m_to m_mem m_undos m_places m_movers m_far m_way m_wayMany m_fromOf m_toOf m_longest m_wayCount m_thin m_ahead m_tried m_foundLow m_foundHigh m_nextLow m_nextHigh m_act m_first m_second m_random m_isKept) : S_11 Inv x_words x_wordCount x_size x_signs x_next g_longest g_many g_layers g_length g_aheadOf g_cameFrom g_queue r_numbers r_size p_size t_filled nd m_thrown m_told m_row m_tape m_taped m_at m_to m_mem m_undos m_places m_movers m_far m_way m_wayMany m_fromOf m_toOf m_longest m_wayCount m_thin m_ahead m_tried m_foundLow m_foundHigh m_nextLow m_nextHigh m_act m_first m_second m_random m_isKept x y := by
  obtain ⟨⟨a, hC, hM, hW⟩, hP, hK, hR, hT⟩ := h
  unfold S_11 f_X6_would f_X7_would f_X2_copyFrom
  dsimp only
  have hs24 := hW.1
  have hCt : CN ((nd 0).1, (nd 0).2.1, (nd 0).2.2.1, (nd 0).2.2.2.1, (nd 0).2.2.2.2.1, (nd 1).2.2.2.2.2.1, (nd 0).2.2.2.2.2.2) a := hC
  by_cases hx : two a x y
  · obtain ⟨s, t, rfl, rfl, hs, ht, hne⟩ := hx
    have ls := W_lt hW hs
    have lt := W_lt hW ht
    have hM4 : MN (cpy m_mem 0 4) (4 * 179) a := MN_cpy (q1 := 0) (q2 := 4) hW (hM : MN m_mem (0 * 179) a)
    obtain ⟨r, lay', len', rn', rs', nr, ord, mov, m1, pls', mvs', a', e1, e2, ho, q1, q2, q3, hk, hrow⟩ := link_q (q := 4) hCt hM4 (by omega) hW hs ht hne g_layers g_length r_numbers r_size m_places m_movers
    have hm1 := try_MN hW hM ho
    rw [show f_X0_link g_layers g_length r_numbers r_size (nd 0).1 (nd 0).2.1 (nd 1).2.2.2.2.2.1 (nd 0).2.2.2.2.2.2.1 (nd 0).2.2.2.2.2.2.2.1 (nI s) (nI t) = _ from e1, sbind, m_two1 hM hW hs ht hne, sbind, if_neg one0, show f_X7_copies m_mem 0 4 = some (cpy m_mem 0 4) from m_copies (q1 := 0) (q2 := 4) m_mem (by omega) (by omega) (by omega), sbind, show f_X7_comes (cpy m_mem 0 4) m_places m_movers 4 (nI s) (nI t) = _ from e2, sbind]
    dsimp only
    rcases hrow with ⟨h4, hm, L, hL, w1, w2⟩ | ⟨h4, w1, w2⟩
    · have hL23 : L ≤ 23 := Wk_23 hW (Wk_bar hL.1)
      obtain ⟨far', f1, _⟩ := m_findsWay (q := 0) (hm1 : MN m1 (0 * 179) a) (by omega) hW (b := false) (p4 := 0) (.inr ⟨rfl, rfl⟩) lt ls m_far m_way m_wayMany
      have hr : r < 0 := by rw [h4]; decide
      unfold f_X7_would_b49
      rw [if_pos hr, if_pos h4, show f_X7_findsWay m1 m_far m_way m_wayMany 0 (nI t) (nI s) 0 = _ from f1 L hL, sbind]
      dsimp only
      rw [m_entersWay (p := pth (bar (aNr a) false t s) s L t) (by omega) (fun k hk => wyP_at _ _ hk), sbind]
      dsimp only
      rw [if_neg (show ¬ 0 ≤ r by rw [h4]; decide)]
      refine ⟨_, rfl, _, rfl, rfl, ⟨a, hC, hm1, hW⟩, (tryP (try_out ho) hP hK _).1, (tryP (try_out ho) hP hK _).2, ?_, hT⟩
      rw [w1, w2]
      exact RwP _ _ _ (by omega)
    · rw [if_neg h4]
      unfold f_X7_would_b49
      rcases hk with ⟨hk, _⟩ | ⟨k, hk, er, ea, _, _⟩
      · have h2 : r = -2 := hk.resolve_right h4
        rw [if_pos (show r < 0 by rw [h2]; decide), if_neg (show ¬ 0 ≤ r by rw [h2]; decide)]
        refine ⟨_, rfl, _, rfl, rfl, ⟨a, hC, hm1, hW⟩, (tryP (try_out ho) hP hK _).1, (tryP (try_out ho) hP hK _).2, ?_, hT⟩
        rw [w1, w2]
        exact hR
      · have hr0 : ¬ r < 0 := by rw [er]; exact neg_lt (by omega)
        have es : aS a' = aS a := by rw [ea]
        rw [if_neg hr0, if_pos (i_nlt.mp hr0)]
        have E1 : f_X6_would_l39 (nd 0).1 (nd 0).2.1 (nd 0).2.2.1 (nd 0).2.2.2.1 (nd 0).2.2.2.2.1 (nd 0).2.2.2.2.2.2.1 (nd 0).2.2.2.2.2.2.2.1 (nd 0).2.2.2.2.2.2.2.2 (nI s) (nI t) r 0 lay' len' rn' (f_X4_clear rs') nr ord (nd 0).2.2.1 (nd 0).2.2.2.1 (nd 0).2.2.2.2.1 mov (nd 0).2.2.2.2.2.2.1 (nd 0).2.2.2.2.2.2.2.1 (nd 0).2.2.2.2.2.2.2.2 = some (r, lay', len', rwP (aO a') rn' (aS a), nI (aS a), nr, ord, (nd 0).2.2.1, (nd 0).2.2.2.1, (nd 0).2.2.2.2.1, mov, (nd 0).2.2.2.2.2.2.1, (nd 0).2.2.2.2.2.2.2.1, (nd 0).2.2.2.2.2.2.2.2) := by
          unfold f_X6_would_l39
          refine loop_go (fun j => (r, nI j, lay', len', rwP (aO a') rn' j, nI j, nr, ord, (nd 0).2.2.1, (nd 0).2.2.2.1, (nd 0).2.2.2.2.1, mov, (nd 0).2.2.2.2.2.2.1, (nd 0).2.2.2.2.2.2.2.1, (nd 0).2.2.2.2.2.2.2.2)) (aS a) 200 (by omega) rfl ?_ ?_
          · intro j hj rc
            show f_X6_would_b39 _ _ _ _ _ _ _ _ _ _ _ _ _ _ _ _ _ _ _ _ _ _ _ _ _ _ = _
            unfold f_X6_would_b39
            dsimp only
            rw [if_neg (by rw [hC.2.2.2.2.2.2.1]; exact nle hj (by omega)), chk_nI (by omega) (by decide), ix_nI (by omega), show ord j = nI (aO a' j) from q1.2.1 j (by rw [es]; exact hj), c_add (by omega), sbind, nI_1, rwP_s]
          · intro rc
            show f_X6_would_b39 _ _ _ _ _ _ _ _ _ _ _ _ _ _ _ _ _ _ _ _ _ _ _ _ _ _ = _
            unfold f_X6_would_b39
            dsimp only
            rw [if_pos (by rw [hC.2.2.2.2.2.2.1]; exact yle _ (by omega))]
        have E2 : f_X7_would_l63 (nI s) (nI t) r 0 0 0 m_row m1 pls' mvs' m_far m_way m_wayMany = some (r, 0, nI (aS a), rwP (aO a') m_row (aS a), m1, pls', mvs', m_far, m_way, m_wayMany) := by
          unfold f_X7_would_l63
          refine loop_go (fun j => (r, nI j, 0, nI j, rwP (aO a') m_row j, m1, pls', mvs', m_far, m_way, m_wayMany)) (aS a) 200 (by omega) rfl ?_ ?_
          · intro j hj rc
            show f_X7_would_b63 _ _ _ _ _ _ _ _ _ _ _ _ _ _ = _
            unfold f_X7_would_b63
            dsimp only
            rw [show f_X7_placed m1 4 = some (nI (aS a')) from m_placed (q := 4) q2 (by omega), sbind, es, if_neg (nle hj (by omega)), show f_X7_inPlace m1 4 (nI j) = some (nI (aO a' j)) from m_inPlace (q := 4) q2 (by omega) (by rw [es]; exact hj) (by omega), sbind, m_enters (by omega), sbind, nI_1, rwP_s]
          · intro rc
            show f_X7_would_b63 _ _ _ _ _ _ _ _ _ _ _ _ _ _ = _
            unfold f_X7_would_b63
            dsimp only
            rw [show f_X7_placed m1 4 = some (nI (aS a')) from m_placed (q := 4) q2 (by omega), sbind, es, if_pos (yle _ (by omega))]
        rw [E1, E2]
        refine ⟨_, rfl, _, rfl, rfl, ⟨a, hC, hm1, hW⟩, (tryP (try_out ho) hP hK _).1, (tryP (try_out ho) hP hK _).2, ?_, hT⟩
        exact RwP _ _ _ (by omega)
  · rw [show f_X0_link g_layers g_length r_numbers r_size (nd 0).1 (nd 0).2.1 (nd 1).2.2.2.2.2.1 (nd 0).2.2.2.2.2.2.1 (nd 0).2.2.2.2.2.2.2.1 x y = _ from c_lin0 hCt hx g_layers g_length r_numbers r_size, sbind, m_two0 hM hx, sbind, if_pos rfl]
    dsimp only
    rw [if_pos (by decide)]
    exact ⟨_, rfl, _, rfl, rfl, ⟨a, hC, hM, hW⟩, (tryP (agr_refl _) hP hK _).1, (tryP (agr_refl _) hP hK _).2, hR, hT⟩
