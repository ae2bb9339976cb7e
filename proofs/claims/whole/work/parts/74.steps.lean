/-! PURE 74: steps -/
/-- links, taken both ways -/
def und (E : Nat → Nat → Bool) : Nat → Nat → Bool := fun u v => E u v || E v u
theorem und_i {E : Nat → Nat → Bool} {u v : Nat} : und E u v = true ↔ (E u v = true ∨ E v u = true) := by
  unfold und
  rw [Bool.or_eq_true]
theorem cnt_sub {P Q : Nat → Bool} : ∀ {n}, (∀ k, k < n → P k = true → Q k = true) → cnt P n ≤ cnt Q n := by
  intro n
  induction n with
  | zero => intro _; exact Nat.le_refl _
  | succ n ih =>
    intro h
    have := ih (fun k hk => h k (by omega))
    rw [cnt_s, cnt_s]
    by_cases hp : P n = true
    · rw [if_pos hp, if_pos (h n (by omega) hp)]; omega
    · rw [if_neg hp]
      by_cases hq : Q n = true
      · rw [if_pos hq]; omega
      · rw [if_neg hq]; exact this
theorem cnt_ssub {P Q : Nat → Bool} {n t : Nat} (h : ∀ k, k < n → P k = true → Q k = true) (ht : t < n) (hp : ¬ P t = true) (hq : Q t = true) : cnt P n < cnt Q n := by
  have h1 : cnt (fun k => P k || decide (k = t)) n = cnt P n + 1 := cnt_add ht (Bool.eq_false_iff.mpr hp) (by simp) (fun k _ hk => by simp [hk])
  have h2 : cnt (fun k => P k || decide (k = t)) n ≤ cnt Q n := by
    refine cnt_sub (fun k hk z => ?_)
    rw [Bool.or_eq_true, decide_eq_true_iff] at z
    rcases z with z | z
    · exact h k hk z
    · rw [z]; exact hq
  omega
theorem Ln_mono {F : Nat → Nat → Bool} {t n m u : Nat} (h : n ≤ m) : Ln F t n u → Ln F t m u := fun ⟨k, hk, w⟩ => ⟨k, by omega, w⟩
/-- sets that grow come to a stand -/
theorem Ln_sat {F : Nat → Nat → Bool} {t : Nat} (ht : t < 24) : ∃ k, k ≤ 23 ∧ bsP (Ln F t (k + 1)) = bsP (Ln F t k) := by
  refine Classical.byContradiction fun q => ?_
  have grow : ∀ k, k ≤ 24 → k + 1 ≤ cnt (fun u => pb (Ln F t k u)) 24 := by
    intro k
    induction k with
    | zero =>
      intro _
      have : cnt (fun u => pb (Ln F t 0 u)) 24 ≠ 0 := by
        intro z
        rw [cnt_0] at z
        exact z t ht (pb_iff.mpr ⟨0, Nat.le_refl _, rfl⟩)
      omega
    | succ k ih =>
      intro hk
      have h1 := ih (by omega)
      have h2 : ¬ bsP (Ln F t (k + 1)) = bsP (Ln F t k) := fun z => q ⟨k, by omega, z⟩
      have h3 : ∃ u, u < 24 ∧ Ln F t (k + 1) u ∧ ¬ Ln F t k u := by
        refine Classical.byContradiction fun w => h2 (bsP_congr (fun u hu => ⟨fun z => ?_, fun z => Ln_mono (by omega) z⟩))
        exact Classical.byContradiction fun y => w ⟨u, hu, z, y⟩
      obtain ⟨u, hu, h4, h5⟩ := h3
      have := cnt_ssub (P := fun u => pb (Ln F t k u)) (Q := fun u => pb (Ln F t (k + 1) u)) (n := 24) (fun v _ z => pb_iff.mpr (Ln_mono (by omega) (pb_iff.mp z))) hu (fun z => h5 (pb_iff.mp z)) (pb_iff.mpr h4)
      omega
  have := grow 24 (Nat.le_refl _)
  have := cnt_le (fun u => pb (Ln F t 24 u)) 24
  omega
theorem c_neigh {n : ND} {a : AN} (hC : CN n a) (hW : WA a) (t k : Nat) : f_X2_withNeighbours n.1 (bsP (Ln (und (aNr a)) t k)) = some (bsP (Ln (und (aNr a)) t (k + 1))) := by
  obtain ⟨S, dS⟩ : ∃ S, S = Ln (und (aNr a)) t k := ⟨_, rfl⟩
  have hL : ∀ u, Ln (und (aNr a)) t (k + 1) u ↔ (S u ∨ ∃ o, S o ∧ und (aNr a) o u = true) := by
    intro u
    rw [dS]
    exact Ln_s _ _ _ _
  rw [← dS]
  unfold f_X2_withNeighbours f_X2_withNeighbours_l4
  refine loop_go (fun j => (bsP (fun u => S u ∨ (∃ o, o < j ∧ S o ∧ aNr a o u = true) ∨ (u < j ∧ ∃ v, v < 24 ∧ aNr a u v = true ∧ S v)), nI j)) 24 200 (by decide) ?_ ?_ ?_
  · show (bsP S, nI 0) = (_, nI 0)
    refine congrArg (fun z => (z, nI 0)) (bsP_congr (fun u _ => ⟨.inl, ?_⟩))
    rintro (z | ⟨o, z, _⟩ | ⟨z, _⟩)
    · exact z
    · exact absurd z (Nat.not_lt_zero _)
    · exact absurd z (Nat.not_lt_zero _)
  · intro j hj rc
    show f_X2_withNeighbours_b4 _ _ _ _ _ = _
    unfold f_X2_withNeighbours_b4 f_X2_withNeighbours_b27
    dsimp only
    rw [if_neg (n24 hj), chk_nI hj (by decide), ix_nI (by omega), hC.1 j hj, bs_eq, bsP_and, nI_1, bsP_or, bsP_one hj, bsP_or, bsP_or, chk_nI hj (by decide), chk_nI hj (by decide)]
    by_cases h1 : S j
    · rw [if_neg (by rw [bsP_hold hj]; exact fun z => z h1)]
      by_cases h2 : ∃ v, v < 24 ∧ aNr a j v = true ∧ S v
      · rw [if_neg (by rw [bsP_0]; intro z; obtain ⟨v, w1, w2⟩ := h2; exact z v w1 w2)]
        refine congrArg (fun z => rc (z, nI (j + 1))) (bsP_congr (fun u _ => ⟨?_, ?_⟩))
        · rintro (((z | ⟨o, w1, w2⟩ | ⟨w1, w2⟩) | z) | z)
          · exact .inl z
          · exact .inr (.inl ⟨o, by omega, w2⟩)
          · exact .inr (.inr ⟨by omega, w2⟩)
          · exact .inr (.inl ⟨j, by omega, h1, z⟩)
          · rw [z]; exact .inr (.inr ⟨by omega, h2⟩)
        · rintro (z | ⟨o, w1, w2, w3⟩ | ⟨w1, w2⟩)
          · exact .inl (.inl (.inl z))
          · by_cases e : o = j
            · rw [e] at w3; exact .inl (.inr w3)
            · exact .inl (.inl (.inr (.inl ⟨o, by omega, w2, w3⟩)))
          · by_cases e : u = j
            · exact .inr e
            · exact .inl (.inl (.inr (.inr ⟨by omega, w2⟩)))
      · rw [if_pos (by rw [bsP_0]; intro v w1 w2; exact h2 ⟨v, w1, w2⟩)]
        refine congrArg (fun z => rc (z, nI (j + 1))) (bsP_congr (fun u _ => ⟨?_, ?_⟩))
        · rintro ((z | ⟨o, w1, w2⟩ | ⟨w1, w2⟩) | z)
          · exact .inl z
          · exact .inr (.inl ⟨o, by omega, w2⟩)
          · exact .inr (.inr ⟨by omega, w2⟩)
          · exact .inr (.inl ⟨j, by omega, h1, z⟩)
        · rintro (z | ⟨o, w1, w2, w3⟩ | ⟨w1, w2⟩)
          · exact .inl (.inl z)
          · by_cases e : o = j
            · rw [e] at w3; exact .inr w3
            · exact .inl (.inr (.inl ⟨o, by omega, w2, w3⟩))
          · by_cases e : u = j
            · rw [e] at w2; exact absurd w2 h2
            · exact .inl (.inr (.inr ⟨by omega, w2⟩))
    · rw [if_pos (by rw [bsP_hold hj]; exact h1)]
      by_cases h2 : ∃ v, v < 24 ∧ aNr a j v = true ∧ S v
      · rw [if_neg (by rw [bsP_0]; intro z; obtain ⟨v, w1, w2⟩ := h2; exact z v w1 w2)]
        refine congrArg (fun z => rc (z, nI (j + 1))) (bsP_congr (fun u _ => ⟨?_, ?_⟩))
        · rintro ((z | ⟨o, w1, w2⟩ | ⟨w1, w2⟩) | z)
          · exact .inl z
          · exact .inr (.inl ⟨o, by omega, w2⟩)
          · exact .inr (.inr ⟨by omega, w2⟩)
          · rw [z]; exact .inr (.inr ⟨by omega, h2⟩)
        · rintro (z | ⟨o, w1, w2, w3⟩ | ⟨w1, w2⟩)
          · exact .inl (.inl z)
          · by_cases e : o = j
            · rw [e] at w2; exact absurd w2 h1
            · exact .inl (.inr (.inl ⟨o, by omega, w2, w3⟩))
          · by_cases e : u = j
            · exact .inr e
            · exact .inl (.inr (.inr ⟨by omega, w2⟩))
      · rw [if_pos (by rw [bsP_0]; intro v w1 w2; exact h2 ⟨v, w1, w2⟩)]
        refine congrArg (fun z => rc (z, nI (j + 1))) (bsP_congr (fun u _ => ⟨?_, ?_⟩))
        · rintro (z | ⟨o, w1, w2⟩ | ⟨w1, w2⟩)
          · exact .inl z
          · exact .inr (.inl ⟨o, by omega, w2⟩)
          · exact .inr (.inr ⟨by omega, w2⟩)
        · rintro (z | ⟨o, w1, w2, w3⟩ | ⟨w1, w2⟩)
          · exact .inl z
          · by_cases e : o = j
            · rw [e] at w2; exact absurd w2 h1
            · exact .inr (.inl ⟨o, by omega, w2, w3⟩)
          · by_cases e : u = j
            · rw [e] at w2; exact absurd w2 h2
            · exact .inr (.inr ⟨by omega, w2⟩)
  · intro rc
    show f_X2_withNeighbours_b4 _ _ _ _ _ = _
    unfold f_X2_withNeighbours_b4
    dsimp only
    rw [if_pos y24]
    refine congrArg some (bsP_congr (fun u hu => ?_))
    rw [hL]
    constructor
    · rintro (z | ⟨o, w1, w2, w3⟩ | ⟨w1, v, w2, w3, w4⟩)
      · exact .inl z
      · exact .inr ⟨o, w2, und_i.mpr (.inl w3)⟩
      · exact .inr ⟨v, w4, und_i.mpr (.inr w3)⟩
    · rintro (z | ⟨o, w1, w2⟩)
      · exact .inl z
      · rcases und_i.mp w2 with w | w
        · exact .inr (.inl ⟨o, (W_e24 hW w).1, w1, w⟩)
        · exact .inr (.inr ⟨hu, o, (W_e24 hW w).2, w, w1⟩)
theorem m_neigh {mem : Nat → Int32} {a : AN} (hM : MN mem 0 a) (hW : WA a) (t k : Nat) (p1 p2 n : Int32) (k33 : Int32 → Int32 → Int32 → Int32 → Option (Int32 × Int32)) : f_X7_steps__l53 mem p1 p2 k33 (bsP (Ln (und (aNr a)) t k)) (bsP (Ln (und (aNr a)) t k)) n 0 0 = k33 (bsP (Ln (und (aNr a)) t (k + 1))) (bsP (Ln (und (aNr a)) t k)) (n + 1) 0 := by
  obtain ⟨S, dS⟩ : ∃ S, S = Ln (und (aNr a)) t k := ⟨_, rfl⟩
  have hL : ∀ u, Ln (und (aNr a)) t (k + 1) u ↔ (S u ∨ ∃ o, S o ∧ und (aNr a) o u = true) := by
    intro u
    rw [dS]
    exact Ln_s _ _ _ _
  rw [← dS]
  unfold f_X7_steps__l53
  refine loop_go (fun j => (bsP (fun u => S u ∨ ∃ o, o < j ∧ S o ∧ und (aNr a) o u = true), bsP S, n, nI j, 0)) 24 200 (by decide) ?_ ?_ ?_
  · refine congrArg (fun z => (z, bsP S, n, nI 0, (0 : Int32))) (bsP_congr (fun u _ => ⟨.inl, ?_⟩))
    rintro (z | ⟨o, z, _⟩)
    · exact z
    · exact absurd z (Nat.not_lt_zero _)
  · intro j hj rc
    show f_X7_steps__b53 _ _ _ _ _ _ _ _ _ _ = _
    unfold f_X7_steps__b53
    dsimp only
    rw [if_neg (n24 hj), nI_1, or_0, Mn hM hj, sbind, Mbr hM hW hj, sbind, bs_eq (aNr a j), bs_eq (fun s => aNr a s j), bsP_or, bsP_or]
    by_cases h1 : S j
    · rw [if_neg (by rw [bsP_has hj]; exact fun z => z h1)]
      refine congrArg (fun z => rc (z, bsP S, n, nI (j + 1), (0 : Int32))) (bsP_congr (fun u _ => ⟨?_, ?_⟩))
      · rintro ((z | ⟨o, w1, w2⟩) | z)
        · exact .inl z
        · exact .inr ⟨o, by omega, w2⟩
        · exact .inr ⟨j, by omega, h1, und_i.mpr z⟩
      · rintro (z | ⟨o, w1, w2, w3⟩)
        · exact .inl (.inl z)
        · by_cases e : o = j
          · rw [e] at w3; exact .inr (und_i.mp w3)
          · exact .inl (.inr ⟨o, by omega, w2, w3⟩)
    · rw [if_pos (by rw [bsP_has hj]; exact h1)]
      refine congrArg (fun z => rc (z, bsP S, n, nI (j + 1), (0 : Int32))) (bsP_congr (fun u _ => ⟨?_, ?_⟩))
      · rintro (z | ⟨o, w1, w2⟩)
        · exact .inl z
        · exact .inr ⟨o, by omega, w2⟩
      · rintro (z | ⟨o, w1, w2, w3⟩)
        · exact .inl z
        · by_cases e : o = j
          · rw [e] at w2; exact absurd w2 h1
          · exact .inr ⟨o, by omega, w2, w3⟩
  · intro rc
    show f_X7_steps__b53 _ _ _ _ _ _ _ _ _ _ = _
    unfold f_X7_steps__b53
    dsimp only
    rw [if_pos y24]
    refine congrArg (fun z => k33 z (bsP S) (n + 1) 0) (bsP_congr (fun u _ => ?_))
    rw [hL]
    constructor
    · rintro (z | ⟨o, w1, w2⟩)
      · exact .inl z
      · exact .inr ⟨o, w2⟩
    · rintro (z | ⟨o, w1, w2⟩)
      · exact .inl z
      · refine .inr ⟨o, ?_, w1, w2⟩
        rcases und_i.mp w2 with w | w
        · exact (W_e24 hW w).1
        · exact (W_e24 hW w).2
theorem inv_17 (x_words : Nat → Int32) (x_wordCount : Int32) (x_size : Int32) (x_signs : Nat → Int32) (x_next : Int32) (g_longest : Nat → Int32) (g_many : Nat → Int64) (g_layers : Nat → Int32) (g_length : Int32) (g_aheadOf : Nat → Int32) (g_cameFrom : Nat → Int32) (g_queue : Nat → Int32) (r_numbers : Nat → Int64) (r_size : Int32) (p_size : Int32) (t_filled : Nat → Int32) (nd : Nat → ND) (m_thrown : Int32) (m_told : Int32) (m_row : Nat → Int64) (m_tape : Nat → Int32) (m_taped : Int32) (m_at : Int32) (m_to : Int32) (m_mem : Nat → Int32) (m_undos : Int32) (m_places : Nat → Int32) (m_movers : Nat → Int32) (m_far : Nat → Int32) (m_way : Nat → Int32) (m_wayMany : Int32) (m_fromOf : Nat → Int32) (m_toOf : Nat → Int32) (m_longest : Nat → Int32) (m_wayCount : Nat → Int64) (m_thin : Nat → Int32) (m_ahead : Nat → Int32) (m_tried : Int32) (m_foundLow : Int32) (m_foundHigh : Int32) (m_nextLow : Int32) (m_nextHigh : Int32) (m_act : Nat → Int32) (m_first : Nat → Int32) (m_second : Nat → Int32) (m_random : Int32) (m_isKept : Nat → Int32) (x y : Int32) (h : Inv x_words x_wordCount x_size x_signs x_next g_longest g_many g_layers g_length g_aheadOf g_cameFrom g_queue r_numbers r_size p_size t_filled nd m_thrown m_told m_row m_tape m_taped m_at m_to m_mem m_undos m_places m_movers m_far m_way m_wayMany m_fromOf m_toOf m_longest m_wayCount m_thin m_ahead m_tried m_foundLow m_foundHigh m_nextLow m_nextHigh m_act m_first m_second m_random m_isKept) : S_17 Inv x_words x_wordCount x_size x_signs x_next g_longest g_many g_layers g_length g_aheadOf g_cameFrom g_queue r_numbers r_size p_size t_filled nd m_thrown m_told m_row m_tape m_taped m_at m_to m_mem m_undos m_places m_movers m_far m_way m_wayMany m_fromOf m_toOf m_longest m_wayCount m_thin m_ahead m_tried m_foundLow m_foundHigh m_nextLow m_nextHigh m_act m_first m_second m_random m_isKept x y := by
  obtain ⟨⟨a, hC, hM, hW⟩, hP, hK, hR, hT⟩ := h
  unfold S_17 f_X6_steps f_X7_steps_
  by_cases hx : isT a x
  · obtain ⟨s, rfl, ls, hs⟩ := hx
    rw [C_has1 hC ls hs, if_neg one0, m_isTerm1 hM ls hs, sbind, if_neg one0]
    by_cases hy : isT a y
    · obtain ⟨t, rfl, lt, ht⟩ := hy
      rw [C_has1 hC lt ht, if_neg one0, m_isTerm1 hM lt ht, sbind, if_neg one0]
      obtain ⟨G, dG⟩ : ∃ G, G = und (aNr a) := ⟨_, rfl⟩
      have cn := fun k => c_neigh hC hW s k
      have mn := fun k n k33 => m_neigh hM hW s k (nI s) (nI t) n k33
      rw [← dG] at cn mn
      have e0 : jshl 1 (nI s) = bsP (Ln G s 0) := by
        rw [bsP_one ls]
        refine bsP_congr (fun u _ => ⟨fun e => ⟨0, Nat.le_refl _, e.symm⟩, ?_⟩)
        rintro ⟨k, hk, w⟩
        have : k = 0 := by omega
        subst this
        exact Eq.symm w
      have hG : ∀ u v, G u v = true → u < 24 ∧ v < 24 := by
        intro u v z
        rw [dG] at z
        rcases und_i.mp z with w | w
        · exact W_e24 hW w
        · exact ⟨(W_e24 hW w).2, (W_e24 hW w).1⟩
      obtain ⟨K, hK23, hsat⟩ := Ln_sat (F := G) ls
      have hall : ∀ k u, u < 24 → Ln G s k u → Ln G s K u := by
        intro k u hu ⟨j, _, w⟩
        have e := Ln_stop hG ls hsat
        have : bt (bsP (Rc G s)) u = true := (bt_bsP _ _).mpr ⟨hu, j, w⟩
        rw [← e, hsat] at this
        exact ((bt_bsP _ _).mp this).2
      have stepM : ∀ j, ¬ Ln G s j t → ¬ (bsP (Ln G s j) = (match j with | 0 => (0 : Int32) | j + 1 => bsP (Ln G s j))) → ∀ rc : Int32 × Int32 × Int32 × Int32 → Option (Int32 × Int32), f_X7_steps__b33 m_mem (nI s) (nI t) (fun x0_ x1_ x2_ x3_ => rc (x0_, x1_, x2_, x3_)) (bsP (Ln G s j)) (match j with | 0 => (0 : Int32) | j + 1 => bsP (Ln G s j)) (nI j) 0 = rc (bsP (Ln G s (j + 1)), bsP (Ln G s j), nI (j + 1), 0) := by
        intro j h1 h2 rc
        unfold f_X7_steps__b33
        rw [if_pos (by rw [bsP_has lt]; exact h1), if_neg h2, mn j, nI_1]
      by_cases hex : ∃ j, Ln G s j t
      · obtain ⟨j0, h0⟩ := hex
        obtain ⟨D, hD, hmin⟩ := lst_ex (Q := fun j => Ln G s j t) j0 h0
        have hDK : D ≤ K := Classical.byContradiction fun z => hmin K (by omega) (hall D t lt hD)
        have E1 : f_X6_steps_l31 (nd 0).1 (nd 0).2.2.2.2.2.2.1 (nI s) (nI t) (jshl 1 (nI s)) 0 = some (nI D) := by
          unfold f_X6_steps_l31
          refine loop_go (fun j => (bsP (Ln G s j), nI j)) D 200 (by omega) (by rw [e0]; rfl) ?_ ?_
          · intro j hj rc
            show f_X6_steps_b31 _ _ _ _ _ _ _ = _
            unfold f_X6_steps_b31
            dsimp only
            rw [if_neg (n24 (by omega)), if_pos (by rw [bsP_hold lt]; exact hmin j hj), cn j, sbind, nI_1]
          · intro rc
            show f_X6_steps_b31 _ _ _ _ _ _ _ = _
            unfold f_X6_steps_b31
            dsimp only
            rw [if_neg (n24 (by omega)), if_neg (by rw [bsP_hold lt]; exact fun z => z hD)]
        have E2 : f_X7_steps__l33 m_mem (nI s) (nI t) (jshl 1 (nI s)) 0 0 0 = some (nI D, 0) := by
          unfold f_X7_steps__l33
          refine loop_go (fun j => (bsP (Ln G s j), (match j with | 0 => (0 : Int32) | j + 1 => bsP (Ln G s j)), nI j, 0)) D 200 (by omega) (by rw [e0]; rfl) ?_ ?_
          · intro j hj rc
            refine stepM j (hmin j hj) ?_ rc
            cases j with
            | zero =>
              intro z
              rw [bsP_0] at z
              exact z s ls ⟨0, Nat.le_refl _, rfl⟩
            | succ j =>
              intro z
              have e := Ln_stop hG ls z
              have : bt (bsP (Rc G s)) t = true := by
                obtain ⟨k, _, w⟩ := hD
                exact (bt_bsP _ _).mpr ⟨lt, k, w⟩
              rw [← e] at this
              exact hmin (j + 1) hj ((bt_bsP _ _).mp this).2
          · intro rc
            show f_X7_steps__b33 _ _ _ _ _ _ _ _ = _
            unfold f_X7_steps__b33 f_X7_steps__b104
            dsimp only
            rw [if_neg (by rw [bsP_has lt]; exact fun z => z hD), if_neg (by rw [bsP_has lt]; exact fun z => z hD)]
        rw [E1, E2]
        exact ⟨_, rfl, _, rfl, rfl, ⟨a, hC, hM, hW⟩, hP, hK, hR, hT⟩
      · have hno : ∀ j, ¬ Ln G s j t := fun j z => hex ⟨j, z⟩
        have E1 : f_X6_steps_l31 (nd 0).1 (nd 0).2.2.2.2.2.2.1 (nI s) (nI t) (jshl 1 (nI s)) 0 = some (-2) := by
          unfold f_X6_steps_l31
          refine loop_go (fun j => (bsP (Ln G s j), nI j)) 24 200 (by omega) (by rw [e0]; rfl) ?_ ?_
          · intro j hj rc
            show f_X6_steps_b31 _ _ _ _ _ _ _ = _
            unfold f_X6_steps_b31
            dsimp only
            rw [if_neg (n24 hj), if_pos (by rw [bsP_hold lt]; exact hno j), cn j, sbind, nI_1]
          · intro rc
            show f_X6_steps_b31 _ _ _ _ _ _ _ = _
            unfold f_X6_steps_b31
            dsimp only
            rw [if_pos y24]
        have E2 : f_X7_steps__l33 m_mem (nI s) (nI t) (jshl 1 (nI s)) 0 0 0 = some (-2, 0) := by
          unfold f_X7_steps__l33
          have ex : ∀ j, (bsP (Ln G s j) = (match j with | 0 => (0 : Int32) | j + 1 => bsP (Ln G s j))) → ∀ rc : Int32 × Int32 × Int32 × Int32 → Option (Int32 × Int32), f_X7_steps__b33 m_mem (nI s) (nI t) (fun x0_ x1_ x2_ x3_ => rc (x0_, x1_, x2_, x3_)) (bsP (Ln G s j)) (match j with | 0 => (0 : Int32) | j + 1 => bsP (Ln G s j)) (nI j) 0 = some (-2, 0) := by
            intro j hj rc
            unfold f_X7_steps__b33 f_X7_steps__b104
            rw [if_pos (by rw [bsP_has lt]; exact hno j), if_pos hj, if_pos (by rw [bsP_has lt]; exact hno j)]
          have dec : ∀ j, (bsP (Ln G s j) = (match j with | 0 => (0 : Int32) | j + 1 => bsP (Ln G s j))) ∨ ¬ (bsP (Ln G s j) = (match j with | 0 => (0 : Int32) | j + 1 => bsP (Ln G s j))) := fun j => Classical.em _
          refine loop_ex (fun j => (bsP (Ln G s j), (match j with | 0 => (0 : Int32) | j + 1 => bsP (Ln G s j)), nI j, 0)) (K + 1) 200 (by omega) ?_ ?_ _ (by rw [e0]; rfl)
          · intro j hj
            rcases dec j with e | e
            · exact .inr (fun rc => ex j e rc)
            · exact .inl (fun rc => stepM j (hno j) e rc)
          · exact fun rc => ex (K + 1) hsat rc
        rw [E1, E2]
        exact ⟨_, rfl, _, rfl, rfl, ⟨a, hC, hM, hW⟩, hP, hK, hR, hT⟩
    · rw [C_has0 hC hy, if_pos rfl, m_isTerm0 hM hy, sbind, if_pos rfl]
      exact ⟨_, rfl, _, rfl, rfl, ⟨a, hC, hM, hW⟩, hP, hK, hR, hT⟩
  · rw [C_has0 hC hx, if_pos rfl, m_isTerm0 hM hx, sbind, if_pos rfl]
    exact ⟨_, rfl, _, rfl, rfl, ⟨a, hC, hM, hW⟩, hP, hK, hR, hT⟩
