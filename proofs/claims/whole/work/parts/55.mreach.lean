/-! PURE 55: all below, all above, as the reference finds them -/
theorem sbind {α β : Type} (x : α) (f : α → Option β) : (some x).bind f = f x := rfl
theorem flag1 : f_X7_flag 1 = 1 := by unfold f_X7_flag; rw [if_neg (by decide)]
theorem flag0 : f_X7_flag 0 = 0 := by unfold f_X7_flag; rw [if_pos rfl]
theorem shl0 (x : Int32) : jshl 0 x = 0 := by
  apply Int32.toBitVec_inj.mp
  simp [jshl]
theorem or_0 (x : Int32) : x ||| 0 = x := by
  apply bt_ext
  intro k _
  rw [bt_or, bt_0, Bool.or_false]
theorem m_broader {mem : Nat → Int32} {q : Nat} {a : AN} (h : MN mem (q * 179) a) (hq : q ≤ 12) (hw : WA a) {t : Nat} (ht : t < 24) : f_X7_broader mem (nI q) (nI t) = some (bset (fun s => aNr a s t) 24) := by
  unfold f_X7_broader f_X7_broader_l5
  refine loop_go (fun j => (bset (fun s => aNr a s t) j, nI j)) 24 200 (by decide) rfl ?_ ?_
  · intro j hj rc
    show f_X7_broader_b5 _ _ _ _ _ _ = _
    unfold f_X7_broader_b5
    dsimp only
    rw [if_neg (n24 hj)]
    have hN : ¬ aNr a j t = true → bset (fun s => aNr a s t) j ||| jshl (f_X7_flag 0) (nI j) = bset (fun s => aNr a s t) (j + 1) := by
      intro hb
      rw [flag0, shl0, or_0]
      show _ = if aNr a j t then _ else _
      rw [if_neg hb]
      rfl
    by_cases hal : aAl a j = true
    · rw [m_isIn1 h hq hj hal, sbind, if_neg (by decide), m_narrower h hq hj, sbind, bs_eq (aNr a j)]
      by_cases hb : aNr a j t = true
      · rw [if_neg (by rw [bsP_has ht]; exact fun z => z hb)]
        unfold f_X7_broader_b42
        rw [flag1, nI_1]
        congr 2
        show _ = if aNr a j t then _ else _
        rw [if_pos hb]
        rfl
      · rw [if_pos (by rw [bsP_has ht]; exact hb)]
        unfold f_X7_broader_b41 f_X7_broader_b42
        rw [hN hb, nI_1]
    · rw [m_isIn0 h hq (al_isT hj hal), sbind, if_pos rfl]
      unfold f_X7_broader_b41 f_X7_broader_b42
      rw [hN (fun z => hal (W_e1 hw z)), nI_1]
  · intro rc
    show f_X7_broader_b5 _ _ _ _ _ _ = _
    unfold f_X7_broader_b5
    dsimp only
    rw [if_pos y24]
/-- reached within n links -/
def Ln (F : Nat → Nat → Bool) (t n u : Nat) : Prop := ∃ k, k ≤ n ∧ Wk F k t u
theorem Ln_s (F : Nat → Nat → Bool) (t n u : Nat) : Ln F t (n + 1) u ↔ (Ln F t n u ∨ ∃ o, Ln F t n o ∧ F o u = true) := by
  constructor
  · rintro ⟨k, hk, h⟩
    cases k with
    | zero => exact .inl ⟨0, Nat.zero_le _, h⟩
    | succ k =>
      obtain ⟨z, h1, h2⟩ := Wk_last h
      exact .inr ⟨z, ⟨k, by omega, h1⟩, h2⟩
  · rintro (⟨k, hk, h⟩ | ⟨o, ⟨k, hk, h⟩, e⟩)
    · exact ⟨k, by omega, h⟩
    · exact ⟨k + 1, by omega, Wk_snoc h e⟩
theorem Ln_stop {F : Nat → Nat → Bool} {t n : Nat} (hF : ∀ x y, F x y = true → x < 24 ∧ y < 24) (ht : t < 24) (h : bsP (Ln F t (n + 1)) = bsP (Ln F t n)) : bsP (Ln F t (n + 1)) = bsP (Rc F t) := by
  have hc : ∀ u, u < 24 → Ln F t (n + 1) u → Ln F t n u := by
    intro u hu q
    have := (bt_bsP (Ln F t (n + 1)) u).mpr ⟨hu, q⟩
    rw [h] at this
    exact ((bt_bsP _ _).mp this).2
  have all : ∀ k u, Wk F k t u → Ln F t n u := by
    intro k
    induction k with
    | zero => intro u q; exact ⟨0, Nat.zero_le _, q⟩
    | succ k ih =>
      intro u q
      obtain ⟨z, h1, h2⟩ := Wk_last q
      exact hc u (hF _ _ h2).2 ((Ln_s F t n u).mpr (.inr ⟨z, ih z h1, h2⟩))
  refine bsP_congr (fun u _ => ⟨?_, ?_⟩)
  · rintro ⟨k, _, q⟩
    exact ⟨k, q⟩
  · rintro ⟨k, q⟩
    exact (Ln_s F t n u).mpr (.inl (all k u q))
theorem m_reach {mem : Nat → Int32} {q : Nat} {F : Nat → Nat → Bool} {p3 : Int32} {t : Nat} (ht : t < 24) (hF : ∀ x y, F x y = true → x < 24 ∧ y < 24) (hB : ∀ n x y, Wk F n x y → n ≤ 23) (hR : ∀ o, o < 24 → ∀ K : Int32 → Option Int32, (if p3 = 0 then (f_X7_broader mem (nI q) (nI o)).bind K else (f_X7_narrower mem (nI q) (nI o)).bind K) = K (bset (F o) 24)) : f_X7_reach mem (nI q) (nI t) p3 = some (bsP (Rc F t)) := by
  unfold f_X7_reach f_X7_reach_l8
  have inner : ∀ (n : Nat) (k8 : Int32 → Int32 → Option Int32), f_X7_reach_l22 mem (nI q) (nI t) p3 k8 (bsP (Ln F t n)) (bsP (Ln F t n)) 0 = k8 (bsP (Ln F t (n + 1))) (bsP (Ln F t n)) := by
    intro n k8
    unfold f_X7_reach_l22
    refine loop_go (fun j => (bsP (fun u => Ln F t n u ∨ ∃ o, o < j ∧ Ln F t n o ∧ F o u = true), bsP (Ln F t n), nI j)) 24 200 (by decide) ?_ ?_ ?_
    · show (_, _, _) = (_, _, _)
      congr 1
      refine bsP_congr (fun u _ => ⟨.inl, ?_⟩)
      rintro (e | ⟨o, z, _⟩)
      · exact e
      · exact absurd z (Nat.not_lt_zero _)
    · intro j hj rc
      show f_X7_reach_b22 _ _ _ _ _ _ _ _ _ = _
      unfold f_X7_reach_b22
      dsimp only
      rw [if_neg (n24 hj)]
      by_cases e : Ln F t n j
      · rw [if_neg (by rw [bsP_has hj]; exact fun z => z e), hR j hj (fun r => rc ((bsP (fun u => Ln F t n u ∨ ∃ o, o < j ∧ Ln F t n o ∧ F o u = true)) ||| r, bsP (Ln F t n), nI j + 1)), bs_eq, bsP_or, nI_1]
        refine congrArg (fun z => rc (z, bsP (Ln F t n), nI (j + 1))) (bsP_congr (fun u _ => ⟨?_, ?_⟩))
        · rintro ((z | ⟨o, h1, h2⟩) | z)
          · exact .inl z
          · exact .inr ⟨o, by omega, h2⟩
          · exact .inr ⟨j, by omega, e, z⟩
        · rintro (z | ⟨o, h1, h2, h3⟩)
          · exact .inl (.inl z)
          · by_cases ej : o = j
            · subst ej; exact .inr h3
            · exact .inl (.inr ⟨o, by omega, h2, h3⟩)
      · rw [if_pos (by rw [bsP_has hj]; exact e), nI_1]
        refine congrArg (fun z => rc (z, bsP (Ln F t n), nI (j + 1))) (bsP_congr (fun u _ => ⟨?_, ?_⟩))
        · rintro (z | ⟨o, h1, h2⟩)
          · exact .inl z
          · exact .inr ⟨o, by omega, h2⟩
        · rintro (z | ⟨o, h1, h2, h3⟩)
          · exact .inl z
          · by_cases ej : o = j
            · subst ej; exact absurd h2 e
            · exact .inr ⟨o, by omega, h2, h3⟩
    · intro rc
      show f_X7_reach_b22 _ _ _ _ _ _ _ _ _ = _
      unfold f_X7_reach_b22
      dsimp only
      rw [if_pos y24]
      refine congrArg (fun z => k8 z (bsP (Ln F t n))) (bsP_congr (fun u _ => ?_))
      rw [Ln_s]
      constructor
      · rintro (z | ⟨o, h1, h2⟩)
        · exact .inl z
        · exact .inr ⟨o, h2⟩
      · rintro (z | ⟨o, h2, h3⟩)
        · exact .inl z
        · exact .inr ⟨o, (hF _ _ h3).1, h2, h3⟩
  have e0 : bsP (Ln F t 0) = jshl 1 (nI t) := by
    rw [bsP_one ht]
    refine bsP_congr (fun u _ => ⟨?_, ?_⟩)
    · rintro ⟨k, hk, h⟩
      have : k = 0 := by omega
      subst this
      exact Eq.symm h
    · intro e
      exact ⟨0, Nat.le_refl _, Eq.symm e⟩
  refine loop_ex (fun j => (bsP (Ln F t j), match j with | 0 => 0 | j + 1 => bsP (Ln F t j))) 25 200 (by decide) ?_ ?_ _ (by rw [e0])
  · intro j hj
    cases j with
    | zero =>
      left
      intro rc
      show f_X7_reach_b8 _ _ _ _ _ _ _ = _
      unfold f_X7_reach_b8
      dsimp only
      rw [if_neg, inner 0]
      intro z
      rw [bsP_0] at z
      exact z t ht ⟨0, Nat.le_refl _, rfl⟩
    | succ j =>
      by_cases e : bsP (Ln F t (j + 1)) = bsP (Ln F t j)
      · right
        intro rc
        show f_X7_reach_b8 _ _ _ _ _ _ _ = _
        unfold f_X7_reach_b8
        dsimp only
        rw [if_pos e, Ln_stop hF ht e]
      · left
        intro rc
        show f_X7_reach_b8 _ _ _ _ _ _ _ = _
        unfold f_X7_reach_b8
        dsimp only
        rw [if_neg e, inner (j + 1)]
  · intro rc
    show f_X7_reach_b8 _ _ _ _ _ _ _ = _
    have e : bsP (Ln F t 25) = bsP (Ln F t 24) := by
      refine bsP_congr (fun u _ => ⟨?_, ?_⟩)
      · rintro ⟨k, hk, h⟩
        have := hB k t u h
        exact ⟨k, by omega, h⟩
      · rintro ⟨k, hk, h⟩
        exact ⟨k, by omega, h⟩
    unfold f_X7_reach_b8
    rw [if_pos e, Ln_stop hF ht e]
theorem W_e24 {a : AN} (hw : WA a) {x y : Nat} (h : aNr a x y = true) : x < 24 ∧ y < 24 := ⟨W_lt hw (W_e1 hw h), W_lt hw (W_e2 hw h)⟩
theorem m_below {mem : Nat → Int32} {q : Nat} {a : AN} (h : MN mem (q * 179) a) (hq : q ≤ 12) (hw : WA a) {t : Nat} (ht : t < 24) : f_X7_below mem (nI q) (nI t) = some (bsP (Rc (aNr a) t)) := by
  unfold f_X7_below
  rw [m_reach (F := aNr a) ht (fun x y => W_e24 hw) (fun n x y => Wk_23 hw)]
  · rfl
  · intro o ho K
    rw [if_neg (by decide), m_narrower h hq ho]
    rfl
theorem m_above {mem : Nat → Int32} {q : Nat} {a : AN} (h : MN mem (q * 179) a) (hq : q ≤ 12) (hw : WA a) {t : Nat} (ht : t < 24) : f_X7_above mem (nI q) (nI t) = some (bsP (fun u => Rc (aNr a) u t)) := by
  unfold f_X7_above
  rw [m_reach (F := tr (aNr a)) ht (fun x y z => ⟨(W_e24 hw z).2, (W_e24 hw z).1⟩) (fun n x y z => Wk_23 hw (Wk_tr.mp z))]
  · show some _ = some _
    congr 1
    exact bsP_congr (fun u _ => Rc_tr)
  · intro o ho K
    rw [if_pos rfl, m_broader h hq hw ho]
    rfl
