/-! PURE 64: term, unlinks -/
theorem inv_2 (x_words : Nat → Int32) (x_wordCount : Int32) (x_size : Int32) (x_signs : Nat → Int32) (x_next : Int32) (g_longest : Nat → Int32) (g_many : Nat → Int64) (g_layers : Nat → Int32) (g_length : Int32) (g_aheadOf : Nat → Int32) (g_cameFrom : Nat → Int32) (g_queue : Nat → Int32) (r_numbers : Nat → Int64) (r_size : Int32) (p_size : Int32) (t_filled : Nat → Int32) (nd : Nat → ND) (m_thrown : Int32) (m_told : Int32) (m_row : Nat → Int64) (m_tape : Nat → Int32) (m_taped : Int32) (m_at : Int32) (m_to : Int32) (m_mem : Nat → Int32) (m_undos : Int32) (m_places : Nat → Int32) (m_movers : Nat → Int32) (m_far : Nat → Int32) (m_way : Nat → Int32) (m_wayMany : Int32) (m_fromOf : Nat → Int32) (m_toOf : Nat → Int32) (m_longest : Nat → Int32) (m_wayCount : Nat → Int64) (m_thin : Nat → Int32) (m_ahead : Nat → Int32) (m_tried : Int32) (m_foundLow : Int32) (m_foundHigh : Int32) (m_nextLow : Int32) (m_nextHigh : Int32) (m_act : Nat → Int32) (m_first : Nat → Int32) (m_second : Nat → Int32) (m_random : Int32) (m_isKept : Nat → Int32) (x y : Int32) (h : Inv x_words x_wordCount x_size x_signs x_next g_longest g_many g_layers g_length g_aheadOf g_cameFrom g_queue r_numbers r_size p_size t_filled nd m_thrown m_told m_row m_tape m_taped m_at m_to m_mem m_undos m_places m_movers m_far m_way m_wayMany m_fromOf m_toOf m_longest m_wayCount m_thin m_ahead m_tried m_foundLow m_foundHigh m_nextLow m_nextHigh m_act m_first m_second m_random m_isKept) : S_2 Inv x_words x_wordCount x_size x_signs x_next g_longest g_many g_layers g_length g_aheadOf g_cameFrom g_queue r_numbers r_size p_size t_filled nd m_thrown m_told m_row m_tape m_taped m_at m_to m_mem m_undos m_places m_movers m_far m_way m_wayMany m_fromOf m_toOf m_longest m_wayCount m_thin m_ahead m_tried m_foundLow m_foundHigh m_nextLow m_nextHigh m_act m_first m_second m_random m_isKept x y := by
  obtain ⟨⟨a, hC, hM, hW⟩, hP, hK, hR, z, hz, e1, e2, hs⟩ := h
  subst e1 e2
  unfold S_2
  intro sa bb
  have hc := hW.2.1
  have hss := hW.1
  have hb := rdN_le (s := m_tape) (z := z) (p := 0) (Nat.zero_le _)
  have hv := rdN_v m_tape z 0
  have eC := c_readOne (s := x_signs) hz x_wordCount x_next
  rw [rdN_congr hs] at eC
  have eM : f_X7_readsLabel m_tape 0 (nI z) = _ := m_readsLabel (p := 0) hz (Nat.zero_le _)
  obtain ⟨r, o1, o2, o3⟩ := own_ex hC hM hW (nI (rdN m_tape z 0).1)
  obtain ⟨nm, dn⟩ : ∃ nm, nm = rdN m_tape z 0 := ⟨_, rfl⟩
  rw [← dn] at hb hv eC eM o1 o2
  have lm : f_X7_labelMany m_mem 0 = some (nI (aC a)) := m_labelMany (q := 0) (hM : MN m_mem (0 * 179) a) (by omega)
  unfold f_X6_term f_X7_term f_X7_reads
  rw [eC, sbind]
  dsimp only
  have hcc := hC.2.2.2.2.2.2.2
  have hsc := hC.2.2.2.2.2.2.1
  have hac := hC.2.2.2.2.2.1
  rw [← hcc] at o1
  rw [eM, sbind]
  dsimp only
  by_cases h1 : nm.2 = z
  · rw [if_pos h1]
    by_cases h2 : nm.1 = 0
    · rw [if_pos ((nI0 (by omega)).mpr h2), if_pos ((nI0 (by omega)).mpr h2)]
      exact ⟨_, rfl, _, rfl, rfl, .inl ⟨rfl, rfl, ⟨a, hC, hM, hW⟩, (chgP (agr_refl m_mem) hP hK _ _).1, (chgP (agr_refl m_mem) hP hK _ _).2, hR, Tx0 _ _⟩⟩
    · rw [if_neg (fun w => h2 ((nI0 (by omega)).mp w)), if_neg (fun w => h2 ((nI0 (by omega)).mp w)), o1, sbind, if_pos ((le_z hz hb.2).mpr h1), o2, sbind]
      rcases o3 with o3 | ⟨t', o3, ho⟩
      · rw [o3, if_pos (show (-1 : Int32) < 0 by decide), if_pos (show (-1 : Int32) < 0 by decide)]
        by_cases hs4 : aS a = 24
        · have hfull : ∀ u, u < 24 → aAl a u = true := by
            intro u hu
            refine Classical.byContradiction fun q => ?_
            have := cnt_add (P := aAl a) (Q := fun k => aAl a k || decide (k = u)) (t := u) hu (Bool.eq_false_iff.mpr q) (by simp) (fun k _ hk => by simp [hk])
            have := cnt_le (fun k => aAl a k || decide (k = u)) 24
            have := cnt_al hW
            omega
          rw [if_pos (show (24 : Int32) ≤ (nd 0).2.2.2.2.2.2.2.1 by rw [hsc, hs4]; decide), m_firstFree hM (t := 24) (by omega) (fun q => absurd q (by omega)) hfull, sbind, if_pos (show nI 24 = 24 from rfl)]
          exact ⟨_, rfl, _, rfl, rfl, .inl ⟨rfl, rfl, ⟨a, hC, hM, hW⟩, (chgP (agr_refl m_mem) hP hK _ _).1, (chgP (agr_refl m_mem) hP hK _ _).2, hR, Tx0 _ _⟩⟩
        · have hs5 : aS a < 24 := by omega
          obtain ⟨t, ht, hf, hl⟩ := free_ex hW hs5
          rw [if_neg (show ¬ (24 : Int32) ≤ (nd 0).2.2.2.2.2.2.2.1 by rw [hsc]; exact n24 hs5), m_firstFree hM (by omega) (fun _ => hf) hl, sbind, if_neg (show ¬ nI t = 24 by rw [show (24 : Int32) = nI 24 from rfl, nI_eq (by omega) (by omega)]; omega), lm, sbind]
          by_cases hc4 : aC a = 40
          · rw [if_neg (show ¬ (nd 0).2.2.2.2.2.2.2.2 < 40 by rw [hcc, hc4]; decide), if_pos (show nI (aC a) = 40 by rw [hc4]; rfl)]
            exact ⟨_, rfl, _, rfl, rfl, .inl ⟨rfl, rfl, ⟨a, hC, hM, hW⟩, (chgP (agr_refl m_mem) hP hK _ _).1, (chgP (agr_refl m_mem) hP hK _ _).2, hR, Tx0 _ _⟩⟩
          · have hc5 : aC a < 40 := by omega
            have hM0 := Mc0 hW hM
            have ag0 : agr m_mem (cpy m_mem 0 3) := agr_cpy _ (.inr (.inl rfl))
            have hM1 := MN_tm hM0 hW ht hf hs5
            have hW1 := WA_tm hW ht hf hs5
            have hA : BN ((nd 0).1, upd (nd 0).2.1 (aS a) (nI t), (nd 0).2.2.1, upd (nd 0).2.2.2.1 (aC a) (nI nm.1), upd (nd 0).2.2.2.2.1 (aC a) (nI t), (nd 0).2.2.2.2.2.1, (nd 0).2.2.2.2.2.2.1 ||| jshl 1 (nI t), nI (aS a + 1), nI (aC a + 1)) (mLb (mTm (cpy m_mem 0 3) (aS a) t) (aC a) t (nI nm.1)) 0 (lbS (tmS a t) t (nI nm.1)) := by
              rw [hac]
              exact ⟨CN_lb (CN_tm hC ht) t _, MN_lb hM1 hW1 hc5 t _, WA_lb hW1 (al_tm.mpr (.inr rfl)) hc5 _⟩
            have ho : out (cpy m_mem 0 3) (mLb (mTm (cpy m_mem 0 3) (aS a) t) (aC a) t (nI nm.1)) := out_trans (out_tm hs5 ht) (out_lb hc5 t _)
            have hr : ¬ nI t < 0 := nI_nn (by omega)
            obtain ⟨k, hk, ek, bb', sa', mem', g1, g2, g3, g4, g5⟩ := chgC (out_agr ag0 ho) hP hK hA (BN_aside (n12 := nd 12) ⟨hC, hM, hW⟩ (out_as ho)) sa bb
            have nt := c_newTerm (n := nd 0) hs5 hc5 ht hf hl (nI nm.1)
            rw [← hcc, ← hsc, ← hac] at nt
            rw [if_pos (show (nd 0).2.2.2.2.2.2.2.2 < 40 by rw [hcc, show (40 : Int32) = nI 40 from rfl, nI_ltI (by omega) (by decide)]; exact hc5), if_neg (show ¬ nI (aC a) = 40 by rw [show (40 : Int32) = nI 40 from rfl, nI_eq (by omega) (by decide)]; exact hc4), nt, sbind, c_settle1 hr g1, sbind, Mcp, sbind]
            have mm : cpy m_mem 0 3 1 = nI (aS a) := hM0.2.2.2.2.2.2.1
            have i0 : ix (0 : Int32) = 0 := rfl
            have i1 : ix (1 : Int32) = 1 := rfl
            rw [show inb 0 2327 = true by decide, show inb 1 2327 = true by decide, chk_true, chk_true, show (107 : Int32) = nI 107 from rfl, show (131 : Int32) = nI 131 from rfl, show (155 : Int32) = nI 155 from rfl, nI_add, nI_add, nI_add, chk_nI (by omega) (by decide), chk_nI (by omega) (by decide), chk_nI (by omega) (by decide), chk_true, i0, i1, ix_nI (by omega), ix_nI (by omega), ix_nI (by omega)]
            rw [show upd (upd (upd (upd (cpy m_mem 0 3) 0 (cpy m_mem 0 3 0 ||| jshl 1 (nI t))) (107 + t) 0) (131 + t) 0) (155 + t) 0 1 = nI (aS a) by rw [updO (by omega), updO (by omega), updO (by omega), updO (by omega)]; exact mm, show (3 : Int32) = nI 3 from rfl, nI_add, chk_nI (by omega) (by decide), chk_true, chk_true, ix_nI (by omega)]
            rw [show upd (upd (upd (upd (upd (cpy m_mem 0 3) 0 (cpy m_mem 0 3 0 ||| jshl 1 (nI t))) (107 + t) 0) (131 + t) 0) (155 + t) 0) (3 + aS a) (nI t) 1 = nI (aS a) by rw [updO (by omega), updO (by omega), updO (by omega), updO (by omega), updO (by omega)]; exact mm, nI_1]
            rw [show f_X7_gives (upd (upd (upd (upd (upd (upd (cpy m_mem 0 3) 0 (cpy m_mem 0 3 0 ||| jshl 1 (nI t))) (107 + t) 0) (131 + t) 0) (155 + t) 0) (3 + aS a) (nI t)) 1 (nI (aS a + 1))) (nI t) (nI nm.1) = some (mLb (mTm (cpy m_mem 0 3) (aS a) t) (aC a) t (nI nm.1)) from m_gives hM1 hc5 t (nI nm.1), sbind, m_done1 hr g2, sbind]
            exact ⟨_, rfl, _, rfl, rfl, .inr ⟨k, hk, ek, g1, g3, g4, g5, hR, Tx0 _ _⟩⟩
      · have lt' := W_lt hW ho
        rw [o3, if_neg (neg_lt (by omega)), if_neg (neg_lt (by omega))]
        exact ⟨_, rfl, _, rfl, rfl, .inl ⟨rfl, rfl, ⟨a, hC, hM, hW⟩, (chgP (agr_refl m_mem) hP hK _ _).1, (chgP (agr_refl m_mem) hP hK _ _).2, hR, Tx0 _ _⟩⟩
  · rw [if_neg h1, if_pos rfl]
    by_cases h2 : nm.1 = 0
    · rw [if_pos ((nI0 (by omega)).mpr h2)]
      exact ⟨_, rfl, _, rfl, rfl, .inl ⟨rfl, rfl, ⟨a, hC, hM, hW⟩, (chgP (agr_refl m_mem) hP hK _ _).1, (chgP (agr_refl m_mem) hP hK _ _).2, hR, Tx0 _ _⟩⟩
    · rw [if_neg (fun w => h2 ((nI0 (by omega)).mp w)), if_neg (fun w => h1 ((le_z hz hb.2).mp w))]
      exact ⟨_, rfl, _, rfl, rfl, .inl ⟨rfl, rfl, ⟨a, hC, hM, hW⟩, (chgP (agr_refl m_mem) hP hK _ _).1, (chgP (agr_refl m_mem) hP hK _ _).2, hR, Tx0 _ _⟩⟩
/-- links changed: fewer, or others -/
theorem WA_nr {a : AN} (hw : WA a) {f : Nat → Nat → Bool} (h1 : ∀ p q, p < aS a → q < aS a → f (aO a p) (aO a q) = true → p < q) (h2 : ∀ t u, f t u = true → aAl a t = true ∧ aAl a u = true) : WA (nrS a f) := ⟨hw.1, hw.2.1, hw.2.2.1, hw.2.2.2.1, hw.2.2.2.2.1, hw.2.2.2.2.2.1, h1, h2, hw.2.2.2.2.2.2.2.2⟩
theorem WA_nr_sub {a : AN} (hw : WA a) {f : Nat → Nat → Bool} (h : ∀ t u, f t u = true → aNr a t u = true) : WA (nrS a f) := WA_nr hw (fun p q hp hq e => hw.2.2.2.2.2.2.1 p q hp hq (h _ _ e)) (fun t u e => hw.2.2.2.2.2.2.2.1 t u (h t u e))
theorem CN_nr1 {n : ND} {a : AN} (h : CN n a) {t : Nat} {v : Int32} {f : Nat → Nat → Bool} (hv : v = bset (f t) 24) (hf : ∀ u, u ≠ t → f u = aNr a u) : CN (upd n.1 t v, n.2) (nrS a f) := by
  refine ⟨fun u hu => ?_, h.2⟩
  show upd n.1 t v u = bset (f u) 24
  by_cases e : u = t
  · rw [e, updN, hv]
  · rw [updO e, hf u e]
    exact h.1 u hu
theorem MN_nr1 {m : Nat → Int32} {a : AN} (h : MN m 0 a) (hw : WA a) {t : Nat} (ht : t < 24) {v : Int32} {f : Nat → Nat → Bool} (hv : v = bset (f t) 24) (hf : ∀ u, u ≠ t → f u = aNr a u) : MN (upd m (107 + t) v) 0 (nrS a f) := by
  refine MN_nr h hw f (fun u hu => ?_) (fun i hi hn => ?_)
  · by_cases e : u = t
    · rw [e, Nat.zero_add, updN, hv]
    · rw [updO (by omega), hf u e]
      exact h.1 u hu
  · rw [updO (by omega)]
def nrOff (a : AN) (s t : Nat) : Nat → Nat → Bool := fun u k => aNr a u k && !(decide (u = s) && decide (k = t))
def nrOn (a : AN) (s t : Nat) : Nat → Nat → Bool := fun u k => aNr a u k || (decide (u = s) && decide (k = t))
theorem nrOff_o (a : AN) {s : Nat} (t : Nat) {u : Nat} (h : u ≠ s) : nrOff a s t u = aNr a u := by
  funext k
  unfold nrOff
  simp [h]
theorem nrOn_o (a : AN) {s : Nat} (t : Nat) {u : Nat} (h : u ≠ s) : nrOn a s t u = aNr a u := by
  funext k
  unfold nrOn
  simp [h]
theorem nrOff_s (a : AN) (s : Nat) {t : Nat} (ht : t < 24) : bset (aNr a s) 24 &&& (jshl 1 (nI t) ^^^ (-1)) = bset (nrOff a s t s) 24 := by
  rw [bset_off _ ht (by omega)]
  congr 1
  funext k
  unfold nrOff
  simp
theorem nrOn_s (a : AN) (s : Nat) {t : Nat} (ht : t < 24) : bset (aNr a s) 24 ||| jshl 1 (nI t) = bset (nrOn a s t s) 24 := by
  rw [bset_on _ ht (by omega)]
  congr 1
  funext k
  unfold nrOn
  simp
theorem C_pair1 {n : ND} {a : AN} (h : CN n a) (hw : WA a) {s t : Nat} (h1 : aAl a s = true) (h2 : aAl a t = true) (h3 : s ≠ t) : f_X2_hasPair n.2.2.2.2.2.2.1 (nI s) (nI t) = 1 := by rw [h.2.2.2.2.2.1]; exact c_pair1 hw h1 h2 h3
theorem C_pair0 {n : ND} {a : AN} (h : CN n a) {x y : Int32} (hx : ¬ two a x y) : f_X2_hasPair n.2.2.2.2.2.2.1 x y = 0 := by rw [h.2.2.2.2.2.1]; exact c_pair0 hx
theorem m_isLinked {m : Nat → Int32} {q : Nat} {a : AN} (h : MN m (q * 179) a) (hq : q ≤ 12) {s t : Nat} (hs : s < 24) (ht : t < 24) : f_X7_isLinked m (nI q) (nI s) (nI t) = some (if aNr a s t then 1 else 0) := by
  unfold f_X7_isLinked
  rw [m_narrower h hq hs, sbind, has_eq (by omega), bt24 _ ht]
theorem c_linked {n : ND} {a : AN} (h : CN n a) {s t : Nat} (hs : s < 24) (ht : t < 24) : f_X6_holds (n.1 s) (nI t) = 0 ↔ aNr a s t = false := by
  rw [h.1 s hs, holds0 (by omega), bt24 _ ht]
theorem act_unlink {n : ND} {a : AN} {m0 : Nat → Int32} (hC : CN n a) (hM : MN m0 0 a) (hW : WA a) (x y : Int32) : ∃ r nr m1 a', f_X0_unlink n.1 n.2.2.2.2.2.2.1 x y = some (r, nr) ∧ f_X7_unlinksOne m0 x y = some (r, m1) ∧ out m0 m1 ∧ BN (nr, n.2) m1 0 a' := by
  unfold f_X0_unlink f_X7_unlinksOne
  by_cases hx : two a x y
  · obtain ⟨s, t, rfl, rfl, hs, ht, hne⟩ := hx
    have ls := W_lt hW hs
    have lt := W_lt hW ht
    rw [C_pair1 hC hW hs ht hne, if_neg one0, chk_nI ls (by decide), ix_nI (by omega), m_two1 hM hW hs ht hne, sbind, if_neg one0, show f_X7_isLinked m0 0 (nI s) (nI t) = _ from m_isLinked (q := 0) (hM : MN m0 (0 * 179) a) (by omega) ls lt, sbind]
    by_cases hl : aNr a s t = true
    · have hA : BN (upd n.1 s (bset (nrOff a s t s) 24), n.2) (upd m0 (107 + s) (bset (nrOff a s t s) 24)) 0 (nrS a (nrOff a s t)) := by
        refine ⟨CN_nr1 hC rfl (fun u hu => nrOff_o a t hu), MN_nr1 hM hW ls rfl (fun u hu => nrOff_o a t hu), WA_nr_sub hW (fun u k e => ?_)⟩
        unfold nrOff at e
        rw [Bool.and_eq_true] at e
        exact e.1
      have k1 := c_linkCount hA.1 hA.2.2
      have k2 : f_X7_linkMany (upd m0 (107 + s) (bset (nrOff a s t s) 24)) 0 = _ := m_linkMany (q := 0) (hA.2.1 : MN _ (0 * 179) _) (by omega)
      rw [show aAl (nrS a (nrOff a s t)) = aAl a from rfl, ← hC.2.2.2.2.2.1] at k1
      refine ⟨isum (aAl a) (fun t_1 => nI (npc (tn (bset (aNr (nrS a (nrOff a s t)) t_1) 24)))) 24, upd n.1 s (bset (nrOff a s t s) 24), upd m0 (107 + s) (bset (nrOff a s t s) 24), nrS a (nrOff a s t), ?_, ?_, out_upd (out_refl _) (by omega) _, hA⟩
      · rw [if_neg (by rw [c_linked hC ls lt, hl]; decide), chk_nI ls (by decide), chk_nI ls (by decide), hC.1 s ls, nrOff_s a s lt, show f_X2_linkCount (upd n.1 s (bset (nrOff a s t s) 24)) n.2.2.2.2.2.2.1 = some (isum (aAl a) (fun t_1 => nI (npc (tn (bset (aNr (nrS a (nrOff a s t)) t_1) 24)))) 24) from k1, sbind]
      · rw [hl, if_neg (by decide), show (107 : Int32) = nI 107 from rfl, nI_add, chk_nI (by omega) (by decide), chk_nI (by omega) (by decide), ix_nI (by omega), show m0 (107 + s) = bset (aNr a s) 24 by rw [← hM.1 s ls, Nat.zero_add], nrOff_s a s lt, k2, sbind]
    · have hl : aNr a s t = false := Bool.eq_false_iff.mpr hl
      rw [if_pos ((c_linked hC ls lt).mpr hl), hl, if_pos (by decide)]
      exact ⟨_, _, _, a, rfl, rfl, out_refl _, hC, hM, hW⟩
  · rw [C_pair0 hC hx, if_pos rfl, m_two0 hM hx, sbind, if_pos rfl]
    exact ⟨_, _, _, a, rfl, rfl, out_refl _, hC, hM, hW⟩
theorem inv_7 (x_words : Nat → Int32) (x_wordCount : Int32) (x_size : Int32) (x_signs : Nat → Int32) (x_next : Int32) (g_longest : Nat → Int32) (g_many : Nat → Int64) (g_layers : Nat → Int32) (g_length : Int32) (g_aheadOf : Nat → Int32) (g_cameFrom : Nat → Int32) (g_queue : Nat → Int32) (r_numbers : Nat → Int64) (r_size : Int32) (p_size : Int32) (t_filled : Nat → Int32) (nd : Nat → ND) (m_thrown : Int32) (m_told : Int32) (m_row : Nat → Int64) (m_tape : Nat → Int32) (m_taped : Int32) (m_at : Int32) (m_to : Int32) (m_mem : Nat → Int32) (m_undos : Int32) (m_places : Nat → Int32) (m_movers : Nat → Int32) (m_far : Nat → Int32) (m_way : Nat → Int32) (m_wayMany : Int32) (m_fromOf : Nat → Int32) (m_toOf : Nat → Int32) (m_longest : Nat → Int32) (m_wayCount : Nat → Int64) (m_thin : Nat → Int32) (m_ahead : Nat → Int32) (m_tried : Int32) (m_foundLow : Int32) (m_foundHigh : Int32) (m_nextLow : Int32) (m_nextHigh : Int32) (m_act : Nat → Int32) (m_first : Nat → Int32) (m_second : Nat → Int32) (m_random : Int32) (m_isKept : Nat → Int32) (x y : Int32) (h : Inv x_words x_wordCount x_size x_signs x_next g_longest g_many g_layers g_length g_aheadOf g_cameFrom g_queue r_numbers r_size p_size t_filled nd m_thrown m_told m_row m_tape m_taped m_at m_to m_mem m_undos m_places m_movers m_far m_way m_wayMany m_fromOf m_toOf m_longest m_wayCount m_thin m_ahead m_tried m_foundLow m_foundHigh m_nextLow m_nextHigh m_act m_first m_second m_random m_isKept) : S_7 Inv x_words x_wordCount x_size x_signs x_next g_longest g_many g_layers g_length g_aheadOf g_cameFrom g_queue r_numbers r_size p_size t_filled nd m_thrown m_told m_row m_tape m_taped m_at m_to m_mem m_undos m_places m_movers m_far m_way m_wayMany m_fromOf m_toOf m_longest m_wayCount m_thin m_ahead m_tried m_foundLow m_foundHigh m_nextLow m_nextHigh m_act m_first m_second m_random m_isKept x y := by
  obtain ⟨⟨a, hC, hM, hW⟩, hP, hK, hR, hT⟩ := h
  unfold S_7
  intro sa bb
  have hM0 := Mc0 hW hM
  have ag0 : agr m_mem (cpy m_mem 0 3) := agr_cpy _ (.inr (.inl rfl))
  obtain ⟨r, nr, m1, a', e1, e2, ho, hA⟩ := act_unlink hC hM0 hW x y
  by_cases hr : r < 0
  · refine ⟨(r, nr, bb, sa 0, p_size, (nd 0).1, (nd 0).2.1, (nd 0).2.2.1, (nd 0).2.2.2.1, (nd 0).2.2.2.2.1, (nd 0).2.2.2.2.2.2.1, (nd 0).2.2.2.2.2.2.2.1, (nd 0).2.2.2.2.2.2.2.2), ?_, (r, 0, m1, m_undos), ?_, rfl, .inl ⟨rfl, rfl, ⟨a', hA⟩, (chgP (out_agr ag0 ho) hP hK _ _).1, (chgP (out_agr ag0 ho) hP hK _ _).2, hR, hT⟩⟩
    · unfold f_X6_unlinks
      rw [e1, sbind, c_settle0 hr]
      rfl
    · unfold f_X7_unlinks
      rw [Mcp, sbind, e2, sbind, m_done0 hr]
      rfl
  · obtain ⟨k, hk, ek, bb', sa', mem', g1, g2, g3, g4, g5⟩ := chgC (out_agr ag0 ho) hP hK hA (BN_aside (n12 := nd 12) ⟨hC, hM, hW⟩ (out_as ho)) sa bb
    refine ⟨(r, nr, bb', sa', psz k, (nd 0).1, (nd 0).2.1, (nd 0).2.2.1, (nd 0).2.2.2.1, (nd 0).2.2.2.2.1, (nd 0).2.2.2.2.2.2.1, (nd 0).2.2.2.2.2.2.2.1, (nd 0).2.2.2.2.2.2.2.2), ?_, (r, 0, mem', psz k), ?_, rfl, .inr ⟨k, hk, ek, g1, g3, g4, g5, hR, hT⟩⟩
    · unfold f_X6_unlinks
      rw [e1, sbind, c_settle1 hr g1]
      rfl
    · unfold f_X7_unlinks
      rw [Mcp, sbind, e2, sbind, m_done1 hr g2]
      rfl
