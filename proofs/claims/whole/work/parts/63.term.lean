/-! PURE 63: label, term -/
/-- a net with one label more -/
abbrev lbS (a : AN) (t : Nat) (v : Int32) : AN := (a.1, a.2.1, a.2.2.1, a.2.2.2.1, aC a + 1, upd (aNm a) (aC a) v, va_up (aOw a) (aC a) t, a.2.2.2.2.2.2.2)
theorem C_has1 {n : ND} {a : AN} (h : CN n a) {t : Nat} (ht : t < 24) (hx : aAl a t = true) : f_X2_has n.2.2.2.2.2.2.1 (nI t) = 1 := by rw [h.2.2.2.2.2.1]; exact c_has1 ht hx
theorem C_has0 {n : ND} {a : AN} (h : CN n a) {x : Int32} (hx : ¬ isT a x) : f_X2_has n.2.2.2.2.2.2.1 x = 0 := by rw [h.2.2.2.2.2.1]; exact c_has0 hx
theorem updN (f : Nat → Int32) (k : Nat) (v : Int32) : upd f k v k = v := by unfold upd; rw [if_pos rfl]
theorem updO {f : Nat → Int32} {k i : Nat} (h : i ≠ k) (v : Int32) : upd f k v i = f i := by unfold upd; rw [if_neg h]
theorem CN_lb {n : ND} {a : AN} (h : CN n a) (t : Nat) (v : Int32) : CN (n.1, n.2.1, n.2.2.1, upd n.2.2.2.1 (aC a) v, upd n.2.2.2.2.1 (aC a) (nI t), n.2.2.2.2.2.1, n.2.2.2.2.2.2.1, n.2.2.2.2.2.2.2.1, nI (aC a + 1)) (lbS a t v) := by
  refine ⟨h.1, h.2.1, h.2.2.1, fun i hi => ?_, fun i hi => ?_, h.2.2.2.2.2.1, h.2.2.2.2.2.2.1, rfl⟩
  · have hi' : i < aC a + 1 := hi
    show upd n.2.2.2.1 (aC a) v i = upd (aNm a) (aC a) v i
    by_cases e : i = aC a
    · rw [e, updN, updN]
    · rw [updO e, updO e]
      exact h.2.2.2.1 i (by omega)
  · have hi' : i < aC a + 1 := hi
    show upd n.2.2.2.2.1 (aC a) (nI t) i = nI (va_up (aOw a) (aC a) t i)
    unfold va_up
    by_cases e : i = aC a
    · rw [if_pos e, e, updN]
    · rw [if_neg e, updO e]
      exact h.2.2.2.2.1 i (by omega)
theorem WA_lb {a : AN} (hw : WA a) {t : Nat} (ht : aAl a t = true) (hc : aC a < 40) (v : Int32) : WA (lbS a t v) := by
  refine ⟨hw.1, hc, hw.2.2.1, hw.2.2.2.1, hw.2.2.2.2.1, hw.2.2.2.2.2.1, hw.2.2.2.2.2.2.1, hw.2.2.2.2.2.2.2.1, fun i hi => ?_, hw.2.2.2.2.2.2.2.2.2⟩
  have hi' : i < aC a + 1 := hi
  show aAl a (va_up (aOw a) (aC a) t i) = true
  unfold va_up
  by_cases e : i = aC a
  · rw [if_pos e]; exact ht
  · rw [if_neg e]; exact hw.2.2.2.2.2.2.2.2.1 i (by omega)
def mLb (m : Nat → Int32) (c t : Nat) (v : Int32) : Nat → Int32 := upd (upd (upd m (27 + c) (nI t)) (67 + c) v) 2 (nI (c + 1))
theorem MN_lb {m : Nat → Int32} {a : AN} (h : MN m 0 a) (hw : WA a) (hc : aC a < 40) (t : Nat) (v : Int32) : MN (mLb m (aC a) t v) 0 (lbS a t v) := by
  have hs := hw.1
  unfold mLb
  refine ⟨fun u hu => ?_, fun p hp => ?_, fun u hu => ⟨?_, ?_⟩, fun i hi => ?_, fun i hi => ?_, ?_, ?_, ?_⟩
  · rw [updO (by omega), updO (by omega), updO (by omega)]; exact h.1 u hu
  · have hp' : p < aS a := hp
    rw [updO (by omega), updO (by omega), updO (by omega)]; exact h.2.1 p hp
  · rw [updO (by omega), updO (by omega), updO (by omega)]; exact (h.2.2.1 u hu).1
  · rw [updO (by omega), updO (by omega), updO (by omega)]; exact (h.2.2.1 u hu).2
  · have hi' : i < aC a + 1 := hi
    show _ = upd (aNm a) (aC a) v i
    rw [updO (by omega)]
    by_cases e : i = aC a
    · rw [e, Nat.zero_add, updN, updN]
    · rw [updO (by omega), updO (by omega), updO e]
      exact h.2.2.2.1 i (by omega)
  · have hi' : i < aC a + 1 := hi
    show _ = nI (va_up (aOw a) (aC a) t i)
    unfold va_up
    rw [updO (by omega), updO (by omega)]
    by_cases e : i = aC a
    · rw [if_pos e, e, Nat.zero_add, updN]
    · rw [if_neg e, updO (by omega)]
      exact h.2.2.2.2.1 i (by omega)
  · rw [updO (by omega), updO (by omega), updO (by omega)]; exact h.2.2.2.2.2.1
  · rw [updO (by omega), updO (by omega), updO (by omega)]; exact h.2.2.2.2.2.2.1
  · rw [Nat.zero_add, updN]
theorem out_lb {m : Nat → Int32} {c : Nat} (hc : c < 40) (t : Nat) (v : Int32) : out m (mLb m c t v) := out_upd (out_upd (out_upd (out_refl _) (by omega) _) (by omega) _) (by omega) _
theorem m_gives {m : Nat → Int32} {a : AN} (h : MN m 0 a) (hc : aC a < 40) (t : Nat) (v : Int32) : f_X7_gives m (nI t) v = some (mLb m (aC a) t v) := by
  have lm : f_X7_labelMany m 0 = some (nI (aC a)) := m_labelMany (q := 0) (h : MN m (0 * 179) a) (by omega)
  have e2 : m 2 = nI (aC a) := h.2.2.2.2.2.2.2
  unfold f_X7_gives mLb
  rw [lm, sbind, show (27 : Int32) = nI 27 from rfl, show (67 : Int32) = nI 67 from rfl, show (2 : Int32) = nI 2 from rfl, nI_add, nI_add, chk_nI (by omega) (by decide), chk_nI (by omega) (by decide), chk_nI (by omega) (by decide), chk_nI (by omega) (by decide), ix_nI (by omega), ix_nI (by omega), ix_nI (by omega), updO (show 2 ≠ 67 + aC a by omega), updO (show 2 ≠ 27 + aC a by omega), e2, nI_1]
theorem c_addName {n : ND} {a : AN} (hc : aC a < 40) (v : Int32) (t : Nat) : f_X2_addName n.2.2.2.1 n.2.2.2.2.1 (nI (aC a)) v (nI t) = some (upd n.2.2.2.1 (aC a) v, upd n.2.2.2.2.1 (aC a) (nI t), nI (aC a + 1)) := by
  unfold f_X2_addName
  rw [if_neg (show ¬ (40 : Int32) ≤ nI (aC a) by rw [show (40 : Int32) = nI 40 from rfl, nI_leI (by decide) (by omega)]; omega), chk_nI hc (by decide), chk_nI hc (by decide), ix_nI (by omega), nI_1]
theorem c_namesOf {n : ND} {a : AN} (h : CN n a) (hw : WA a) {t : Nat} (ht : t < 24) : f_X2_namesOf n.2.2.2.2.1 (nI (aC a)) (nI t) = some (nI (cnt (fun i => decide (aOw a i = t)) (aC a))) := by
  have hc := hw.2.1
  unfold f_X2_namesOf f_X2_namesOf_l4
  refine loop_go (fun j => (nI (cnt (fun i => decide (aOw a i = t)) j), nI j)) (aC a) 200 (by omega) rfl ?_ ?_
  · intro j hj rc
    show f_X2_namesOf_b4 _ _ _ _ _ _ = _
    unfold f_X2_namesOf_b4
    dsimp only
    rw [if_neg (nle hj (by omega)), chk_nI (by omega) (by decide), ix_nI (by omega), h.2.2.2.2.1 j hj, cnt_s, nI_1, nI_1]
    by_cases e : aOw a j = t
    · rw [if_pos ((owt hw ht hj).mpr e), if_pos (decide_eq_true e)]
    · rw [if_neg (fun q => e ((owt hw ht hj).mp q)), if_neg (fun q => e (of_decide_eq_true q))]
  · intro rc
    show f_X2_namesOf_b4 _ _ _ _ _ _ = _
    unfold f_X2_namesOf_b4
    dsimp only
    rw [if_pos (yle _ (by omega))]
theorem m_labelsOf {m : Nat → Int32} {a : AN} (h : MN m 0 a) (hw : WA a) {t : Nat} (ht : t < 24) : f_X7_labelsOf m (nI t) = some (nI (cnt (fun i => decide (aOw a i = t)) (aC a))) := by
  have hc := hw.2.1
  have lm : f_X7_labelMany m 0 = some (nI (aC a)) := m_labelMany (q := 0) (h : MN m (0 * 179) a) (by omega)
  have e27 : ∀ j, j < aC a → m (27 + j) = nI (aOw a j) := fun j hj => by rw [← h.2.2.2.2.1 j hj, Nat.zero_add]
  unfold f_X7_labelsOf f_X7_labelsOf_l4
  refine loop_go (fun j => (nI (cnt (fun i => decide (aOw a i = t)) j), nI j)) (aC a) 200 (by omega) rfl ?_ ?_
  · intro j hj rc
    show f_X7_labelsOf_b4 _ _ _ _ _ = _
    unfold f_X7_labelsOf_b4 f_X7_labelsOf_b32
    dsimp only
    rw [lm, sbind, if_neg (nle hj (by omega)), show (27 : Int32) = nI 27 from rfl, nI_add, chk_nI (by omega) (by decide), ix_nI (by omega), e27 j hj, cnt_s, nI_1, flag1, flag0, nI_1, Int32.add_zero]
    by_cases e : aOw a j = t
    · rw [if_pos ((owt hw ht hj).mpr e), if_pos (decide_eq_true e)]
    · rw [if_neg (fun q => e ((owt hw ht hj).mp q)), if_neg (fun q => e (of_decide_eq_true q))]
  · intro rc
    show f_X7_labelsOf_b4 _ _ _ _ _ = _
    unfold f_X7_labelsOf_b4
    dsimp only
    rw [lm, sbind, if_pos (yle _ (by omega))]
theorem inv_3 (x_words : Nat → Int32) (x_wordCount : Int32) (x_size : Int32) (x_signs : Nat → Int32) (x_next : Int32) (g_longest : Nat → Int32) (g_many : Nat → Int64) (g_layers : Nat → Int32) (g_length : Int32) (g_aheadOf : Nat → Int32) (g_cameFrom : Nat → Int32) (g_queue : Nat → Int32) (r_numbers : Nat → Int64) (r_size : Int32) (p_size : Int32) (t_filled : Nat → Int32) (nd : Nat → ND) (m_thrown : Int32) (m_told : Int32) (m_row : Nat → Int64) (m_tape : Nat → Int32) (m_taped : Int32) (m_at : Int32) (m_to : Int32) (m_mem : Nat → Int32) (m_undos : Int32) (m_places : Nat → Int32) (m_movers : Nat → Int32) (m_far : Nat → Int32) (m_way : Nat → Int32) (m_wayMany : Int32) (m_fromOf : Nat → Int32) (m_toOf : Nat → Int32) (m_longest : Nat → Int32) (m_wayCount : Nat → Int64) (m_thin : Nat → Int32) (m_ahead : Nat → Int32) (m_tried : Int32) (m_foundLow : Int32) (m_foundHigh : Int32) (m_nextLow : Int32) (m_nextHigh : Int32) (m_act : Nat → Int32) (m_first : Nat → Int32) (m_second : Nat → Int32) (m_random : Int32) (m_isKept : Nat → Int32) (x y : Int32) (h : Inv x_words x_wordCount x_size x_signs x_next g_longest g_many g_layers g_length g_aheadOf g_cameFrom g_queue r_numbers r_size p_size t_filled nd m_thrown m_told m_row m_tape m_taped m_at m_to m_mem m_undos m_places m_movers m_far m_way m_wayMany m_fromOf m_toOf m_longest m_wayCount m_thin m_ahead m_tried m_foundLow m_foundHigh m_nextLow m_nextHigh m_act m_first m_second m_random m_isKept) : S_3 Inv x_words x_wordCount x_size x_signs x_next g_longest g_many g_layers g_length g_aheadOf g_cameFrom g_queue r_numbers r_size p_size t_filled nd m_thrown m_told m_row m_tape m_taped m_at m_to m_mem m_undos m_places m_movers m_far m_way m_wayMany m_fromOf m_toOf m_longest m_wayCount m_thin m_ahead m_tried m_foundLow m_foundHigh m_nextLow m_nextHigh m_act m_first m_second m_random m_isKept x y := by
  obtain ⟨⟨a, hC, hM, hW⟩, hP, hK, hR, z, hz, e1, e2, hs⟩ := h
  subst e1 e2
  unfold S_3
  intro sa bb
  have hc := hW.2.1
  have hb := rdN_le (s := m_tape) (z := z) (p := 0) (Nat.zero_le _)
  have hv := rdN_v m_tape z 0
  have eC := c_readOne (s := x_signs) hz x_wordCount x_next
  rw [rdN_congr hs] at eC
  have eM : f_X7_readsLabel m_tape 0 (nI z) = _ := m_readsLabel (p := 0) hz (Nat.zero_le _)
  obtain ⟨r, o1, o2, o3⟩ := own_ex hC hM hW (nI (rdN m_tape z 0).1)
  obtain ⟨nm, dn⟩ : ∃ nm, nm = rdN m_tape z 0 := ⟨_, rfl⟩
  rw [← dn] at hb hv eC eM o1 o2
  have lm : f_X7_labelMany m_mem 0 = some (nI (aC a)) := m_labelMany (q := 0) (hM : MN m_mem (0 * 179) a) (by omega)
  unfold f_X6_label f_X7_label f_X7_reads
  rw [eC, sbind]
  dsimp only
  have hcc := hC.2.2.2.2.2.2.2
  rw [← hcc] at o1
  by_cases hx : isT a x
  · obtain ⟨t, rfl, lt, ht⟩ := hx
    rw [C_has1 hC lt ht, if_neg one0, m_isTerm1 hM lt ht, sbind, if_neg one0, eM, sbind]
    dsimp only
    by_cases h1 : nm.2 = z
    · rw [if_pos h1]
      by_cases h2 : nm.1 = 0
      · rw [if_pos ((nI0 (by omega)).mpr h2), if_pos ((nI0 (by omega)).mpr h2)]
        exact ⟨_, rfl, _, rfl, rfl, .inl ⟨rfl, rfl, ⟨a, hC, hM, hW⟩, (chgP (agr_refl m_mem) hP hK _ _).1, (chgP (agr_refl m_mem) hP hK _ _).2, hR, Tx0 _ _⟩⟩
      · rw [if_neg (fun w => h2 ((nI0 (by omega)).mp w)), if_neg (fun w => h2 ((nI0 (by omega)).mp w)), o1, sbind, if_pos ((le_z hz hb.2).mpr h1), o2, sbind]
        rcases o3 with o3 | ⟨t', o3, ho⟩
        · rw [o3, if_pos (show (-1 : Int32) < 0 by decide), if_pos (show (-1 : Int32) < 0 by decide), lm, sbind]
          by_cases hc4 : aC a = 40
          · rw [if_neg (show ¬ (nd 0).2.2.2.2.2.2.2.2 < 40 by rw [hcc, hc4]; decide), if_pos (show nI (aC a) = 40 by rw [hc4]; rfl)]
            exact ⟨_, rfl, _, rfl, rfl, .inl ⟨rfl, rfl, ⟨a, hC, hM, hW⟩, (chgP (agr_refl m_mem) hP hK _ _).1, (chgP (agr_refl m_mem) hP hK _ _).2, hR, Tx0 _ _⟩⟩
          · have hc5 : aC a < 40 := by omega
            have hM0 := Mc0 hW hM
            have ag0 : agr m_mem (cpy m_mem 0 3) := agr_cpy _ (.inr (.inl rfl))
            have ho := out_lb (m := cpy m_mem 0 3) hc5 t (nI nm.1)
            have hA : BN ((nd 0).1, (nd 0).2.1, (nd 0).2.2.1, upd (nd 0).2.2.2.1 (aC a) (nI nm.1), upd (nd 0).2.2.2.2.1 (aC a) (nI t), (nd 0).2.2.2.2.2.1, (nd 0).2.2.2.2.2.2.1, (nd 0).2.2.2.2.2.2.2.1, nI (aC a + 1)) (mLb (cpy m_mem 0 3) (aC a) t (nI nm.1)) 0 (lbS a t (nI nm.1)) := ⟨CN_lb hC t _, MN_lb hM0 hW hc5 t _, WA_lb hW ht hc5 _⟩
            have ad := c_addName (n := nd 0) hc5 (nI nm.1) t
            rw [← hcc] at ad
            have k1 := c_namesOf hA.1 hA.2.2 lt
            have k2 := m_labelsOf hA.2.1 hA.2.2 lt
            obtain ⟨c, dc⟩ : ∃ c, c = cnt (fun i => decide (aOw (lbS a t (nI nm.1)) i = t)) (aC (lbS a t (nI nm.1))) := ⟨_, rfl⟩
            rw [← dc] at k1 k2
            have hr : ¬ nI c < 0 := nI_nn (by rw [dc]; have := cnt_le (fun i => decide (aOw (lbS a t (nI nm.1)) i = t)) (aC (lbS a t (nI nm.1))); have : aC (lbS a t (nI nm.1)) = aC a + 1 := rfl; omega)
            obtain ⟨k, hk, ek, bb', sa', mem', g1, g2, g3, g4, g5⟩ := chgC (out_agr ag0 ho) hP hK hA (BN_aside (n12 := nd 12) ⟨hC, hM, hW⟩ (out_as ho)) sa bb
            rw [if_pos (show (nd 0).2.2.2.2.2.2.2.2 < 40 by rw [hcc, show (40 : Int32) = nI 40 from rfl, nI_ltI (by omega) (by decide)]; exact hc5), if_neg (show ¬ nI (aC a) = 40 by rw [show (40 : Int32) = nI 40 from rfl, nI_eq (by omega) (by decide)]; exact hc4), ad, sbind]
            dsimp only
            rw [show f_X2_namesOf (upd (nd 0).2.2.2.2.1 (aC a) (nI t)) (nI (aC a + 1)) (nI t) = some (nI c) from k1, sbind, c_settle1 hr g1, sbind, Mcp, sbind, m_gives hM0 hc5, sbind, k2, sbind, m_done1 hr g2, sbind]
            exact ⟨_, rfl, _, rfl, rfl, .inr ⟨k, hk, ek, g1, g3, g4, g5, hR, Tx0 _ _⟩⟩
        · have lt' := W_lt hW ho
          rw [o3, if_neg (neg_lt (by omega)), if_neg (neg_lt (by omega))]
          exact ⟨_, rfl, _, rfl, rfl, .inl ⟨rfl, rfl, ⟨a, hC, hM, hW⟩, (chgP (agr_refl m_mem) hP hK _ _).1, (chgP (agr_refl m_mem) hP hK _ _).2, hR, Tx0 _ _⟩⟩
    · rw [if_neg h1, if_pos rfl]
      by_cases h2 : nm.1 = 0
      · rw [if_pos ((nI0 (by omega)).mpr h2)]
        exact ⟨_, rfl, _, rfl, rfl, .inl ⟨rfl, rfl, ⟨a, hC, hM, hW⟩, (chgP (agr_refl m_mem) hP hK _ _).1, (chgP (agr_refl m_mem) hP hK _ _).2, hR, Tx0 _ _⟩⟩
      · rw [if_neg (fun w => h2 ((nI0 (by omega)).mp w)), if_neg (fun w => h1 ((le_z hz hb.2).mp w))]
        exact ⟨_, rfl, _, rfl, rfl, .inl ⟨rfl, rfl, ⟨a, hC, hM, hW⟩, (chgP (agr_refl m_mem) hP hK _ _).1, (chgP (agr_refl m_mem) hP hK _ _).2, hR, Tx0 _ _⟩⟩
  · rw [C_has0 hC hx, if_pos rfl, m_isTerm0 hM hx, sbind, if_pos rfl]
    exact ⟨_, rfl, _, rfl, rfl, .inl ⟨rfl, rfl, ⟨a, hC, hM, hW⟩, (chgP (agr_refl m_mem) hP hK _ _).1, (chgP (agr_refl m_mem) hP hK _ _).2, hR, Tx0 _ _⟩⟩
/-- a net with one term more (its label apart) -/
abbrev tmS (a : AN) (t : Nat) : AN := (fun u => aAl a u || decide (u = t), a.2.1, aS a + 1, va_up (aO a) (aS a) t, a.2.2.2.2)
theorem al_tm {a : AN} {t u : Nat} : aAl (tmS a t) u = true ↔ (aAl a u = true ∨ u = t) := by
  show (aAl a u || decide (u = t)) = true ↔ _
  rw [Bool.or_eq_true, decide_eq_true_iff]
theorem o_tm (a : AN) (t p : Nat) : aO (tmS a t) p = if p = aS a then t else aO a p := rfl
theorem WA_tm {a : AN} (hw : WA a) {t : Nat} (ht : t < 24) (hf : ¬ aAl a t = true) (hs : aS a < 24) : WA (tmS a t) := by
  refine ⟨hs, hw.2.1, fun u hu => ?_, fun p hp => ?_, fun p q hp hq e => ?_, fun u hu => ?_, fun p q hp hq e => ?_, fun u v e => ?_, fun i hi => ?_, fun u k e => ?_⟩
  · rcases al_tm.mp hu with h | h
    · exact W_lt hw h
    · omega
  · have hp' : p < aS a + 1 := hp
    rw [al_tm, o_tm]
    by_cases e : p = aS a
    · rw [if_pos e]; exact .inr rfl
    · rw [if_neg e]; exact .inl (W_al hw (by omega))
  · have hp' : p < aS a + 1 := hp
    have hq' : q < aS a + 1 := hq
    rw [o_tm, o_tm] at e
    by_cases ep : p = aS a
    · by_cases eq : q = aS a
      · omega
      · rw [if_pos ep, if_neg eq] at e
        exact absurd (by rw [e]; exact W_al hw (by omega)) hf
    · by_cases eq : q = aS a
      · rw [if_neg ep, if_pos eq] at e
        exact absurd (by rw [← e]; exact W_al hw (by omega)) hf
      · rw [if_neg ep, if_neg eq] at e
        exact hw.2.2.2.2.1 p q (by omega) (by omega) e
  · rcases al_tm.mp hu with h | h
    · obtain ⟨p, h1, h2⟩ := hw.2.2.2.2.2.1 u h
      refine ⟨p, Nat.lt_succ_of_lt h1, ?_⟩
      rw [o_tm, if_neg (by omega)]
      exact h2
    · refine ⟨aS a, Nat.lt_succ_self _, ?_⟩
      rw [o_tm, if_pos rfl, h]
  · have hp' : p < aS a + 1 := hp
    have hq' : q < aS a + 1 := hq
    have e' : aNr a (aO (tmS a t) p) (aO (tmS a t) q) = true := e
    rw [o_tm, o_tm] at e'
    by_cases ep : p = aS a
    · rw [if_pos ep] at e'
      exact absurd (W_e1 hw e') hf
    · by_cases eq : q = aS a
      · rw [if_pos eq] at e'
        exact absurd (W_e2 hw e') hf
      · rw [if_neg ep, if_neg eq] at e'
        exact hw.2.2.2.2.2.2.1 p q (by omega) (by omega) e'
  · exact ⟨al_tm.mpr (.inl (W_e1 hw e)), al_tm.mpr (.inl (W_e2 hw e))⟩
  · exact al_tm.mpr (.inl (hw.2.2.2.2.2.2.2.2.1 i hi))
  · have := hw.2.2.2.2.2.2.2.2.2 u k e
    exact ⟨al_tm.mpr (.inl this.1), this.2⟩
theorem all_tm (a : AN) {t : Nat} (ht : t < 24) : bset (aAl a) 24 ||| jshl 1 (nI t) = bset (aAl (tmS a t)) 24 := bset_on _ ht (by omega)
theorem CN_tm {n : ND} {a : AN} (h : CN n a) {t : Nat} (ht : t < 24) : CN (n.1, upd n.2.1 (aS a) (nI t), n.2.2.1, n.2.2.2.1, n.2.2.2.2.1, n.2.2.2.2.2.1, bset (aAl a) 24 ||| jshl 1 (nI t), nI (aS a + 1), nI (aC a)) (tmS a t) := by
  refine ⟨h.1, fun p hp => ?_, h.2.2.1, h.2.2.2.1, h.2.2.2.2.1, all_tm a ht, rfl, rfl⟩
  have hp' : p < aS a + 1 := hp
  rw [o_tm]
  by_cases e : p = aS a
  · rw [if_pos e, e]; exact updN _ _ _
  · rw [if_neg e]
    exact (updO e _).trans (h.2.1 p (by omega))
def mTm (m : Nat → Int32) (s t : Nat) : Nat → Int32 := upd (upd (upd (upd (upd (upd m 0 (m 0 ||| jshl 1 (nI t))) (107 + t) 0) (131 + t) 0) (155 + t) 0) (3 + s) (nI t)) 1 (nI (s + 1))
theorem MN_tm {m : Nat → Int32} {a : AN} (h : MN m 0 a) (hw : WA a) {t : Nat} (ht : t < 24) (hf : ¬ aAl a t = true) (hs : aS a < 24) : MN (mTm m (aS a) t) 0 (tmS a t) := by
  have hc := hw.2.1
  have z1 : bset (aNr a t) 24 = 0 := by
    rw [bs0]
    exact fun k _ e => hf (W_e1 hw e)
  have z2 : bset (aIt a t) 20 = 0 := by
    apply bt_ext
    intro k _
    rw [bt_bset _ (by omega), bt_0]
    have : aIt a t k = false := Bool.eq_false_iff.mpr (fun e => hf (hw.2.2.2.2.2.2.2.2.2 t k e).1)
    rw [this, Bool.and_false]
  have z3 : bset (fun k => aIt a t (k + 20)) 20 = 0 := by
    apply bt_ext
    intro k _
    rw [bt_bset _ (by omega), bt_0]
    have : aIt a t (k + 20) = false := Bool.eq_false_iff.mpr (fun e => hf (hw.2.2.2.2.2.2.2.2.2 t (k + 20) e).1)
    rw [this, Bool.and_false]
  unfold mTm
  refine ⟨fun u hu => ?_, fun p hp => ?_, fun u hu => ⟨?_, ?_⟩, fun i hi => ?_, fun i hi => ?_, ?_, ?_, ?_⟩
  · rw [updO (by omega), updO (by omega), updO (by omega), updO (by omega)]
    by_cases e : u = t
    · rw [e, Nat.zero_add, updN]; exact z1.symm
    · rw [updO (by omega), updO (by omega)]; exact h.1 u hu
  · have hp' : p < aS a + 1 := hp
    rw [updO (by omega), o_tm]
    by_cases e : p = aS a
    · rw [if_pos e, e, Nat.zero_add, updN]
    · rw [if_neg e, updO (by omega), updO (by omega), updO (by omega), updO (by omega), updO (by omega)]; exact h.2.1 p (by omega)
  · rw [updO (by omega), updO (by omega), updO (by omega)]
    by_cases e : u = t
    · rw [e, Nat.zero_add, updN]; exact z2.symm
    · rw [updO (by omega), updO (by omega), updO (by omega)]; exact (h.2.2.1 u hu).1
  · rw [updO (by omega), updO (by omega)]
    by_cases e : u = t
    · rw [e, Nat.zero_add, updN]; exact z3.symm
    · rw [updO (by omega), updO (by omega), updO (by omega), updO (by omega)]; exact (h.2.2.1 u hu).2
  · have hi' : i < aC a := hi
    rw [updO (by omega), updO (by omega), updO (by omega), updO (by omega), updO (by omega), updO (by omega)]; exact h.2.2.2.1 i hi
  · have hi' : i < aC a := hi
    rw [updO (by omega), updO (by omega), updO (by omega), updO (by omega), updO (by omega), updO (by omega)]; exact h.2.2.2.2.1 i hi
  · rw [updO (by omega), updO (by omega), updO (by omega), updO (by omega), updO (by omega), updN, h.2.2.2.2.2.1]; exact all_tm a ht
  · rw [Nat.zero_add, updN]
  · rw [updO (by omega), updO (by omega), updO (by omega), updO (by omega), updO (by omega), updO (by omega)]; exact h.2.2.2.2.2.2.2
theorem out_tm {m : Nat → Int32} {s t : Nat} (hs : s < 24) (ht : t < 24) : out m (mTm m s t) := out_upd (out_upd (out_upd (out_upd (out_upd (out_upd (out_refl _) (by omega) _) (by omega) _) (by omega) _) (by omega) _) (by omega) _) (by omega) _
theorem free_ex {a : AN} (hw : WA a) (hs : aS a < 24) : ∃ t, t < 24 ∧ ¬ aAl a t = true ∧ ∀ u, u < t → aAl a u = true := by
  have h1 : ∃ t, t < 24 ∧ ¬ aAl a t = true := by
    refine Classical.byContradiction fun q => ?_
    have full : ∀ n, (∀ k, k < n → aAl a k = true) → cnt (aAl a) n = n := by
      intro n
      induction n with
      | zero => intro _; rfl
      | succ n ih => intro z; rw [cnt_s, if_pos (z n (by omega)), ih (fun k hk => z k (by omega))]
    have := full 24 (fun k hk => Classical.byContradiction fun w => q ⟨k, hk, w⟩)
    rw [cnt_al hw] at this
    omega
  obtain ⟨t, ht, hf⟩ := h1
  induction t using Nat.strongRecOn with
  | _ t ih =>
    by_cases q : ∃ u, u < t ∧ ¬ aAl a u = true
    · obtain ⟨u, hu, hq⟩ := q
      exact ih u hu (by omega) hq
    · exact ⟨t, ht, hf, fun u hu => Classical.byContradiction fun w => q ⟨u, hu, w⟩⟩
theorem m_firstFree {m : Nat → Int32} {a : AN} (h : MN m 0 a) {t : Nat} (ht : t ≤ 24) (hf : t < 24 → ¬ aAl a t = true) (hl : ∀ u, u < t → aAl a u = true) : f_X7_firstFree m = some (nI t) := by
  have hth : f_X7_there m 0 = some (bset (aAl a) 24) := m_there (q := 0) (h : MN m (0 * 179) a) (by decide)
  unfold f_X7_firstFree f_X7_firstFree_l2
  refine loop_go (fun j => nI j) t 200 (by omega) rfl ?_ ?_
  · intro j hj rc
    show f_X7_firstFree_b2 _ _ _ = _
    unfold f_X7_firstFree_b2
    rw [if_neg (n24 (by omega)), hth, sbind, if_neg (by rw [has0 (by omega), bt24 _ (by omega), hl j hj]; decide), nI_1]
  · intro rc
    show f_X7_firstFree_b2 _ _ _ = _
    unfold f_X7_firstFree_b2
    by_cases e : t = 24
    · rw [e, if_pos y24]
    · rw [if_neg (n24 (by omega)), hth, sbind, if_pos (by rw [has0 (by omega), bt24 _ (by omega)]; exact Bool.eq_false_iff.mpr (hf (by omega)))]
theorem c_newTerm {n : ND} {a : AN} (hs : aS a < 24) (hc : aC a < 40) {t : Nat} (ht : t < 24) (hf : ¬ aAl a t = true) (hl : ∀ u, u < t → aAl a u = true) (v : Int32) : f_X2_newTerm n.2.1 n.2.2.2.1 n.2.2.2.2.1 (bset (aAl a) 24) (nI (aS a)) (nI (aC a)) v = some (nI t, upd n.2.1 (aS a) (nI t), upd n.2.2.2.1 (aC a) v, upd n.2.2.2.2.1 (aC a) (nI t), bset (aAl a) 24 ||| jshl 1 (nI t), nI (aS a + 1), nI (aC a + 1)) := by
  unfold f_X2_newTerm f_X2_newTerm_l2
  refine loop_go (fun j => nI j) t 200 (by omega) rfl ?_ ?_
  · intro j hj rc
    show f_X2_newTerm_b2 _ _ _ _ _ _ _ _ _ = _
    unfold f_X2_newTerm_b2
    rw [if_neg (show ¬ (23 : Int32) ≤ nI j by rw [show (23 : Int32) = nI 23 from rfl, nI_leI (by decide) (by omega)]; omega), if_neg (by rw [holds0 (by omega), bt24 _ (by omega), hl j hj]; decide), nI_1]
  · intro rc
    show f_X2_newTerm_b2 _ _ _ _ _ _ _ _ _ = _
    unfold f_X2_newTerm_b2
    have e : f_X2_newTerm_b25 n.2.1 n.2.2.2.1 n.2.2.2.2.1 (bset (aAl a) 24) (nI (aS a)) (nI (aC a)) v (nI t) = some (nI t, upd n.2.1 (aS a) (nI t), upd n.2.2.2.1 (aC a) v, upd n.2.2.2.2.1 (aC a) (nI t), bset (aAl a) 24 ||| jshl 1 (nI t), nI (aS a + 1), nI (aC a + 1)) := by
      unfold f_X2_newTerm_b25
      rw [if_neg (n24 hs), chk_nI hs (by decide), c_addName (n := n) hc, sbind, ix_nI (by omega), nI_1]
    by_cases h23 : (23 : Int32) ≤ nI t
    · rw [if_pos h23, e]
    · rw [if_neg h23, if_pos (by rw [holds0 (by omega), bt24 _ (by omega)]; exact Bool.eq_false_iff.mpr hf), e]
