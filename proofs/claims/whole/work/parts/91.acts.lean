/-! PURE 91: an act, as both do it -/
theorem wd6_lt {c f g : Nat} (hf : f < 100) (hg : g < 100) (h3 : c = 3 → g < 10) : (if c = 5 then 0 else if c = 3 then 10 * f + g else 100 * f + g) < 10000 := by
  by_cases h : c = 5
  · rw [if_pos h]; omega
  · rw [if_neg h]
    by_cases h : c = 3
    · rw [if_pos h]; have := h3 h; omega
    · rw [if_neg h]; omega
theorem dec6 {c k : Nat} (hc : c < 6) (hk : k < 10000) : nI (10000 * cd6 c + k) / 10000 = nI (cd6 c) ∧ jrem (nI (10000 * cd6 c + k)) 10000 = nI k := by
  have h : cd6 c < 200 := by
    obtain rfl | rfl | rfl | rfl | rfl | rfl : c = 0 ∨ c = 1 ∨ c = 2 ∨ c = 3 ∨ c = 4 ∨ c = 5 := by omega
    all_goals decide
  constructor
  · rw [show (10000 : Int32) = nI 10000 from rfl, nI_div (by omega) (by omega), show (10000 * cd6 c + k) / 10000 = cd6 c by omega]
  · rw [show (10000 : Int32) = nI 10000 from rfl, nI_rem (by omega) (by omega) (by omega), show (10000 * cd6 c + k) % 10000 = k by omega]
theorem act_all {n : ND} {a : AN} {m : Nat → Int32} (hC : CN n a) (hM : MN m 0 a) (hW : WA a) {c f g : Nat} (hc : c < 6) (hf : f < 100) (hg : g < 100) (h3 : c = 3 → g < 10) {j : Nat} (hj : j < 80) {act fi se : Nat → Int32} (a1 : act j = nI c) (a2 : fi j = nI f) (a3 : se j = nI g) (lay : Nat → Int32) (len : Int32) (rn : Nat → Int64) (rs : Int32) (pls mvs far way : Nat → Int32) (wm : Int32) (th : Nat → Int32) : ∃ r lay' len' rn' rs' nr ord it nm ow mov all sz cn m1 pls' mvs' far' way' wm' th' a', f_X0_actOf lay len rn rs n.1 n.2.1 n.2.2.1 n.2.2.2.1 n.2.2.2.2.1 n.2.2.2.2.2.1 n.2.2.2.2.2.2.1 n.2.2.2.2.2.2.2.1 n.2.2.2.2.2.2.2.2 (nI (wd6 c f g)) = some (r, lay', len', rn', rs', nr, ord, it, nm, ow, mov, all, sz, cn) ∧ f_X7_doesAct m pls mvs far way wm th act fi se (nI j) = some (r, m1, pls', mvs', far', way', wm', th') ∧ out m m1 ∧ BN (nr, ord, it, nm, ow, mov, all, sz, cn) m1 0 a' := by
  have hd := dec6 hc (wd6_lt hf hg h3)
  have ne : ∀ p q : Nat, p < 1000 → q < 1000 → p ≠ q → ¬ nI p = nI q := fun p q hp hq h e => h ((nI_eq (by omega) (by omega)).mp e)
  unfold f_X0_actOf f_X7_doesAct wd6
  rw [hd.1, hd.2, chk_nI hj (by decide), ix_nI (by omega), a1]
  have d100 : ∀ f g, f < 100 → g < 100 → nI (100 * f + g) / 100 = nI f ∧ jrem (nI (100 * f + g)) 100 = nI g := by
    intro f g hf hg
    rw [show (100 : Int32) = nI 100 from rfl, nI_div (by omega) (by omega), nI_rem (by omega) (by omega) (by omega), show (100 * f + g) / 100 = f by omega, show (100 * f + g) % 100 = g by omega]
    exact ⟨rfl, rfl⟩
  obtain rfl | rfl | rfl | rfl | rfl | rfl : c = 0 ∨ c = 1 ∨ c = 2 ∨ c = 3 ∨ c = 4 ∨ c = 5 := by omega
  · -- link
    rw [if_neg (show ¬ nI (cd6 0) = 103 by decide), if_neg (show ¬ nI (cd6 0) = 104 by decide), if_neg (show ¬ nI (cd6 0) = 105 by decide), if_neg (show ¬ nI (cd6 0) = 106 by decide), if_neg (show ¬ nI (cd6 0) = 107 by decide), if_pos (show nI (cd6 0) = 108 by decide), if_neg (show ¬ (0 : Nat) = 5 by omega), if_neg (show ¬ (0 : Nat) = 3 by omega), (d100 f g hf hg).1, (d100 f g hf hg).2, if_pos (show nI 0 = 0 from rfl), chk_nI hj (by decide), chk_nI hj (by decide), a2, a3]
    by_cases hx : two a (nI f) (nI g)
    · obtain ⟨s, t, e1, e2, hs, ht, hne⟩ := hx
      obtain ⟨r, lay', len', rn', rs', nr, ord, mov, m1, pls', mvs', a', q1, q2, ho, q4, q5, q6, hk, _⟩ := link_q (q := 0) hC (hM : MN _ (0 * 179) a) (by omega) hW hs ht hne lay len rn rs pls mvs
      rw [e1, e2, q1, sbind, m_lin1 hM hW hs ht hne q2, sbind]
      exact ⟨_, _, _, _, _, _, _, _, _, _, _, _, _, _, _, _, _, _, _, _, _, a', rfl, rfl, outq_0 ho, q4, q5, q6⟩
    · rw [c_lin0 hC hx, sbind, m_lin0 hM hx, sbind]
      exact ⟨_, _, _, _, _, _, _, _, _, _, _, _, _, _, _, _, _, _, _, _, _, a, rfl, rfl, out_refl _, hC, hM, hW⟩
  · -- unlink
    obtain ⟨r, nr, m1, a', q1, q2, q3, q4⟩ := act_unlink hC hM hW (nI f) (nI g)
    rw [if_neg (show ¬ nI (cd6 1) = 103 by decide), if_neg (show ¬ nI (cd6 1) = 104 by decide), if_neg (show ¬ nI (cd6 1) = 105 by decide), if_neg (show ¬ nI (cd6 1) = 106 by decide), if_neg (show ¬ nI (cd6 1) = 107 by decide), if_neg (show ¬ nI (cd6 1) = 108 by decide), if_neg (show ¬ nI (cd6 1) = 109 by decide), if_neg (show ¬ nI (cd6 1) = 110 by decide), if_neg (show ¬ nI (cd6 1) = 111 by decide), if_neg (show ¬ nI (cd6 1) = 112 by decide), if_neg (show ¬ nI (cd6 1) = 113 by decide), if_neg (show ¬ nI (cd6 1) = 114 by decide), if_neg (show ¬ nI (cd6 1) = 115 by decide), if_neg (show ¬ nI (cd6 1) = 116 by decide), if_pos (show nI (cd6 1) = 117 by decide), if_neg (show ¬ (1 : Nat) = 5 by omega), if_neg (show ¬ (1 : Nat) = 3 by omega), (d100 f g hf hg).1, (d100 f g hf hg).2, if_neg (show ¬ nI 1 = 0 by decide), if_pos (show nI 1 = 1 from rfl), chk_nI hj (by decide), chk_nI hj (by decide), a2, a3, q1, sbind, q2, sbind]
    exact ⟨_, _, _, _, _, _, _, _, _, _, _, _, _, _, _, _, _, _, _, _, _, a', rfl, rfl, q3, q4⟩
  · -- merge
    obtain ⟨r, lay', len', rn', rs', nr, ord, it, nm, ow, mov, all, sz, cn, m1, pls', mvs', far', way', wm', a', q1, q2, q3, q4, _⟩ := act_merge hC hM hW lay len rn rs pls mvs far way wm (nI f) (nI g)
    rw [if_neg (show ¬ nI (cd6 2) = 103 by decide), if_neg (show ¬ nI (cd6 2) = 104 by decide), if_neg (show ¬ nI (cd6 2) = 105 by decide), if_neg (show ¬ nI (cd6 2) = 106 by decide), if_neg (show ¬ nI (cd6 2) = 107 by decide), if_neg (show ¬ nI (cd6 2) = 108 by decide), if_pos (show nI (cd6 2) = 109 by decide), if_neg (show ¬ (2 : Nat) = 5 by omega), if_neg (show ¬ (2 : Nat) = 3 by omega), (d100 f g hf hg).1, (d100 f g hf hg).2, if_neg (show ¬ nI 2 = 0 by decide), if_neg (show ¬ nI 2 = 1 by decide), if_pos (show nI 2 = 2 from rfl), chk_nI hj (by decide), chk_nI hj (by decide), a2, a3, q1, sbind, q2, sbind]
    exact ⟨_, _, _, _, _, _, _, _, _, _, _, _, _, _, _, _, _, _, _, _, _, a', rfl, rfl, q3, q4⟩
  · -- leave
    obtain ⟨r, nr, ord, it, nm, ow, mov, all, sz, cn, m1, pls', mvs', a', q1, q2, q3, q4⟩ := act_leave hC hM hW pls mvs (nI f) (nI g)
    have e1 : nI (10 * f + g) / 10 = nI f := by
      have := h3 rfl
      rw [show (10 : Int32) = nI 10 from rfl, nI_div (by omega) (by omega), show (10 * f + g) / 10 = f by omega]
    have e2 : jrem (nI (10 * f + g)) 10 = nI g := by
      have := h3 rfl
      rw [show (10 : Int32) = nI 10 from rfl, nI_rem (by omega) (by omega) (by omega), show (10 * f + g) % 10 = g by omega]
    rw [if_pos (show nI (cd6 3) = 103 by decide), if_neg (show ¬ (3 : Nat) = 5 by omega), if_pos (show (3 : Nat) = 3 from rfl), e1, e2, if_neg (show ¬ nI 3 = 0 by decide), if_neg (show ¬ nI 3 = 1 by decide), if_neg (show ¬ nI 3 = 2 by decide), if_pos (show nI 3 = 3 from rfl), chk_nI hj (by decide), chk_nI hj (by decide), a2, a3, q1, sbind, q2, sbind]
    exact ⟨_, _, _, _, _, _, _, _, _, _, _, _, _, _, _, _, _, _, _, _, _, a', rfl, rfl, q3, q4⟩
  · -- post
    obtain ⟨r, it, m1, a', q1, q2, q3, q4⟩ := act_post hC hM hW (nI f) (nI g)
    rw [← hC.2.2.2.2.2.1] at q1
    rw [if_neg (show ¬ nI (cd6 4) = 103 by decide), if_neg (show ¬ nI (cd6 4) = 104 by decide), if_neg (show ¬ nI (cd6 4) = 105 by decide), if_neg (show ¬ nI (cd6 4) = 106 by decide), if_neg (show ¬ nI (cd6 4) = 107 by decide), if_neg (show ¬ nI (cd6 4) = 108 by decide), if_neg (show ¬ nI (cd6 4) = 109 by decide), if_neg (show ¬ nI (cd6 4) = 110 by decide), if_neg (show ¬ nI (cd6 4) = 111 by decide), if_pos (show nI (cd6 4) = 112 by decide), if_neg (show ¬ (4 : Nat) = 5 by omega), if_neg (show ¬ (4 : Nat) = 3 by omega), (d100 f g hf hg).1, (d100 f g hf hg).2, if_neg (show ¬ nI 4 = 0 by decide), if_neg (show ¬ nI 4 = 1 by decide), if_neg (show ¬ nI 4 = 2 by decide), if_neg (show ¬ nI 4 = 3 by decide), if_pos (show nI 4 = 4 from rfl), chk_nI hj (by decide), chk_nI hj (by decide), a2, a3, q1, sbind, q2, sbind]
    exact ⟨_, _, _, _, _, _, _, _, _, _, _, _, _, _, _, _, _, _, _, _, _, a', rfl, rfl, q3, q4⟩
  · -- thin
    obtain ⟨r, nr, m1, th', a', q1, q2, q3, q4⟩ := act_thin hC hM hW th
    unfold f_X0_actOf_b154
    rw [if_neg (show ¬ nI (cd6 5) = 103 by decide), if_neg (show ¬ nI (cd6 5) = 104 by decide), if_neg (show ¬ nI (cd6 5) = 105 by decide), if_neg (show ¬ nI (cd6 5) = 106 by decide), if_neg (show ¬ nI (cd6 5) = 107 by decide), if_neg (show ¬ nI (cd6 5) = 108 by decide), if_neg (show ¬ nI (cd6 5) = 109 by decide), if_neg (show ¬ nI (cd6 5) = 110 by decide), if_neg (show ¬ nI (cd6 5) = 111 by decide), if_neg (show ¬ nI (cd6 5) = 112 by decide), if_neg (show ¬ nI (cd6 5) = 113 by decide), if_neg (show ¬ nI (cd6 5) = 114 by decide), if_neg (show ¬ nI (cd6 5) = 115 by decide), if_pos (show nI (cd6 5) = 116 by decide), if_neg (show ¬ nI 5 = 0 by decide), if_neg (show ¬ nI 5 = 1 by decide), if_neg (show ¬ nI 5 = 2 by decide), if_neg (show ¬ nI 5 = 3 by decide), if_neg (show ¬ nI 5 = 4 by decide), q1, sbind, q2, sbind]
    exact ⟨_, _, _, _, _, _, _, _, _, _, _, _, _, _, _, _, _, _, _, _, _, a', rfl, rfl, q3, q4⟩
