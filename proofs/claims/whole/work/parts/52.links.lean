/-! PURE 52: sums over a set; how many links -/
def isum (P : Nat → Bool) (v : Nat → Int32) (j : Nat) : Int32 := itr (fun t acc => if P t then acc + v t else acc) 0 j
theorem isum_s (P : Nat → Bool) (v : Nat → Int32) (j : Nat) : isum P v (j + 1) = if P j then isum P v j + v j else isum P v j := rfl
theorem isum_congr {P P' : Nat → Bool} {v v' : Nat → Int32} : ∀ n, (∀ t, t < n → P t = P' t ∧ (P t = true → v t = v' t)) → isum P v n = isum P' v' n := by
  intro n
  induction n with
  | zero => intro _; rfl
  | succ n ih =>
    intro h
    rw [isum_s, isum_s, ih (fun t ht => h t (by omega)), ← (h n (by omega)).1]
    by_cases hp : P n = true
    · rw [if_pos hp, if_pos hp, (h n (by omega)).2 hp]
    · rw [if_neg hp, if_neg hp]
theorem c_linksAmong (nar : Nat → Int32) (set : Int32) : f_X2_linksAmong nar set = some (isum (bt set) (fun t => nI (npc (tn (nar t &&& set)))) 24) := by
  unfold f_X2_linksAmong f_X2_linksAmong_l4
  refine loop_run (fun j => (isum (bt set) (fun t => nI (npc (tn (nar t &&& set)))) j, nI j)) 24 200 (by decide) ?_ ?_
  · intro j hj rc
    show f_X2_linksAmong_b4 _ _ _ _ _ = _
    unfold f_X2_linksAmong_b4
    rw [if_neg (by rw [le24 (by omega)]; omega), chk_nI (by omega) (by decide), ix_nI (by omega), nI_1, c_bitCount, isum_s]
    by_cases hb : bt set j = true
    · rw [if_neg (by rw [holds0 (by omega)]; simp [hb]), if_pos hb]
    · rw [if_pos (by rw [holds0 (by omega)]; simp [hb]), if_neg hb]
  · intro rc
    show f_X2_linksAmong_b4 _ _ _ _ _ = _
    unfold f_X2_linksAmong_b4
    rw [if_pos (by rw [le24 (by omega)]; omega)]
theorem al_isT {a : AN} {t : Nat} (ht : t < 24) (h : ¬ aAl a t = true) : ¬ isT a (nI t) := by
  rintro ⟨u, e, hu, hal⟩
  rw [nI_eq (by omega) (by omega)] at e
  subst e
  exact h hal
theorem m_linkMany {mem : Nat → Int32} {q : Nat} {a : AN} (h : MN mem (q * 179) a) (hq : q ≤ 12) : f_X7_linkMany mem (nI q) = some (isum (aAl a) (fun t => nI (npc (tn (bset (aNr a t) 24)))) 24) := by
  unfold f_X7_linkMany f_X7_linkMany_l4
  refine loop_run (fun j => (isum (aAl a) (fun t => nI (npc (tn (bset (aNr a t) 24)))) j, nI j)) 24 200 (by decide) ?_ ?_
  · intro j hj rc
    show f_X7_linkMany_b4 _ _ _ _ _ = _
    unfold f_X7_linkMany_b4
    rw [if_neg (by rw [le24 (by omega)]; omega)]
    by_cases hb : aAl a j = true
    · rw [m_isIn1 h hq hj hb, m_narrower h hq hj]
      show (f_X7_sizeOf (bset (aNr a j) 24)).bind (fun r5 => rc (isum (aAl a) (fun t => nI (npc (tn (bset (aNr a t) 24)))) j + r5, nI j + 1)) = _
      rw [m_sizeOf, isum_s, if_pos hb, nI_1]
      rfl
    · rw [m_isIn0 h hq (al_isT hj hb)]
      show rc (isum (aAl a) (fun t => nI (npc (tn (bset (aNr a t) 24)))) j + 0, nI j + 1) = _
      rw [isum_s, if_neg hb, nI_1, Int32.add_zero]
  · intro rc
    show f_X7_linkMany_b4 _ _ _ _ _ = _
    unfold f_X7_linkMany_b4
    rw [if_pos (by rw [le24 (by omega)]; omega)]
theorem c_linkCount {n : ND} {a : AN} (h : CN n a) (hw : WA a) : f_X2_linkCount n.1 (bset (aAl a) 24) = some (isum (aAl a) (fun t => nI (npc (tn (bset (aNr a t) 24)))) 24) := by
  unfold f_X2_linkCount
  rw [c_linksAmong]
  show some _ = some _
  congr 1
  refine isum_congr 24 (fun t ht => ⟨bt24 _ ht, fun _ => ?_⟩)
  rw [h.1 t ht]
  congr 3
  apply bt_ext
  intro k hk
  rw [bt_and, bt_bset _ (by omega), bt_bset _ (by omega)]
  by_cases hn : aNr a t k = true
  · have := (hw.2.2.2.2.2.2.2.1 t k hn).2
    rw [hn, this]; simp
  · simp [hn]
