/-! PURE 73: two loops side by side; years -/
theorem loop_two {V W ρ σ : Type} {bV : (V → Option ρ) → V → Option ρ} {bW : (W → Option σ) → W → Option σ} (Q : Option ρ → Option σ → Prop) : ∀ (m n n' : Nat) (R : Nat → V → W → Prop), m < n → m < n' → (∀ j v w, j ≤ m → R j v w → (∀ rv rw, Q (bV rv v) (bW rw w)) ∨ (j < m ∧ ∃ v' w', R (j + 1) v' w' ∧ (∀ rv, bV rv v = rv v') ∧ (∀ rw, bW rw w = rw w'))) → ∀ v w, R 0 v w → Q (loopN bV n v) (loopN bW n' w) := by
  intro m
  induction m with
  | zero =>
    intro n n' R hn hn' hs v w h0
    obtain ⟨n, rfl⟩ : ∃ k, n = k + 1 := ⟨n - 1, by omega⟩
    obtain ⟨n', rfl⟩ : ∃ k, n' = k + 1 := ⟨n' - 1, by omega⟩
    rcases hs 0 v w (Nat.le_refl _) h0 with h | ⟨z, _⟩
    · exact h _ _
    · exact absurd z (Nat.not_lt_zero _)
  | succ m ih =>
    intro n n' R hn hn' hs v w h0
    obtain ⟨n, rfl⟩ : ∃ k, n = k + 1 := ⟨n - 1, by omega⟩
    obtain ⟨n', rfl⟩ : ∃ k, n' = k + 1 := ⟨n' - 1, by omega⟩
    rcases hs 0 v w (by omega) h0 with h | ⟨_, v', w', h1, h2, h3⟩
    · exact h _ _
    · rw [loopN_succ, loopN_succ, h2, h3]
      exact ih n n' (fun j => R (j + 1)) (by omega) (by omega) (fun j v w hj hR => by
        rcases hs (j + 1) v w (by omega) hR with q | ⟨q1, q2⟩
        · exact .inl q
        · exact .inr ⟨by omega, q2⟩) v' w' h1
theorem c_unlike {n1 n2 : ND} {a b : AN} (h1 : CN n1 a) (h2 : CN n2 b) (hW : WA a) (hWb : WA b) (hs : aS b = aS a) : f_X2_placesUnlike n1.2.1 n1.2.2.2.2.2.2.2.1 n2.2.1 = some (nI (cnt (fun i => !decide (aO a i = aO b i)) (aS a))) := by
  have hs24 := hW.1
  rw [h1.2.2.2.2.2.2.1]
  unfold f_X2_placesUnlike f_X2_placesUnlike_l4
  refine loop_go (fun j => (nI (cnt (fun i => !decide (aO a i = aO b i)) j), nI j)) (aS a) 200 (by omega) rfl ?_ ?_
  · intro j hj rc
    show f_X2_placesUnlike_b4 _ _ _ _ _ _ = _
    unfold f_X2_placesUnlike_b4
    dsimp only
    have o1 := W_o hW hj
    have o2 := W_o hWb (show j < aS b by omega)
    rw [if_neg (nle hj (by omega)), chk_nI (by omega) (by decide), chk_nI (by omega) (by decide), ix_nI (by omega), h1.2.1 j hj, h2.2.1 j (by omega), nI_1, nI_1, cnt_s]
    by_cases e : aO a j = aO b j
    · rw [if_pos (by rw [e]), if_neg (by simp [e])]
    · rw [if_neg (by rw [nI_eq (by omega) (by omega)]; exact e), if_pos (by simp [e])]
  · intro rc
    show f_X2_placesUnlike_b4 _ _ _ _ _ _ = _
    unfold f_X2_placesUnlike_b4
    dsimp only
    rw [if_pos (yle _ (by omega))]
theorem inv_32 (x_words : Nat → Int32) (x_wordCount : Int32) (x_size : Int32) (x_signs : Nat → Int32) (x_next : Int32) (g_longest : Nat → Int32) (g_many : Nat → Int64) (g_layers : Nat → Int32) (g_length : Int32) (g_aheadOf : Nat → Int32) (g_cameFrom : Nat → Int32) (g_queue : Nat → Int32) (r_numbers : Nat → Int64) (r_size : Int32) (p_size : Int32) (t_filled : Nat → Int32) (nd : Nat → ND) (m_thrown : Int32) (m_told : Int32) (m_row : Nat → Int64) (m_tape : Nat → Int32) (m_taped : Int32) (m_at : Int32) (m_to : Int32) (m_mem : Nat → Int32) (m_undos : Int32) (m_places : Nat → Int32) (m_movers : Nat → Int32) (m_far : Nat → Int32) (m_way : Nat → Int32) (m_wayMany : Int32) (m_fromOf : Nat → Int32) (m_toOf : Nat → Int32) (m_longest : Nat → Int32) (m_wayCount : Nat → Int64) (m_thin : Nat → Int32) (m_ahead : Nat → Int32) (m_tried : Int32) (m_foundLow : Int32) (m_foundHigh : Int32) (m_nextLow : Int32) (m_nextHigh : Int32) (m_act : Nat → Int32) (m_first : Nat → Int32) (m_second : Nat → Int32) (m_random : Int32) (m_isKept : Nat → Int32) (x y : Int32) (h : Inv x_words x_wordCount x_size x_signs x_next g_longest g_many g_layers g_length g_aheadOf g_cameFrom g_queue r_numbers r_size p_size t_filled nd m_thrown m_told m_row m_tape m_taped m_at m_to m_mem m_undos m_places m_movers m_far m_way m_wayMany m_fromOf m_toOf m_longest m_wayCount m_thin m_ahead m_tried m_foundLow m_foundHigh m_nextLow m_nextHigh m_act m_first m_second m_random m_isKept) : S_32 Inv x_words x_wordCount x_size x_signs x_next g_longest g_many g_layers g_length g_aheadOf g_cameFrom g_queue r_numbers r_size p_size t_filled nd m_thrown m_told m_row m_tape m_taped m_at m_to m_mem m_undos m_places m_movers m_far m_way m_wayMany m_fromOf m_toOf m_longest m_wayCount m_thin m_ahead m_tried m_foundLow m_foundHigh m_nextLow m_nextHigh m_act m_first m_second m_random m_isKept x y := by
  obtain ⟨⟨a, hC, hM, hW⟩, hP, hK, hR, hT⟩ := h
  unfold S_32 f_X6_years f_X7_years f_X2_copyFrom
  dsimp only
  have hs24 := hW.1
  by_cases hy : y < 1 ∨ 60 < y
  · have e2 : f_X7_in y.toInt64 1 60 = 0 := by
      rw [in_iff, show (1 : Int64) = (1 : Int32).toInt64 from rfl, show (60 : Int64) = (60 : Int32).toInt64 from rfl, l_lt, l_lt]
      exact hy
    rw [if_pos e2]
    by_cases h1 : y < 1
    · rw [if_pos h1]
      exact ⟨_, rfl, _, rfl, rfl, ⟨a, hC, hM, hW⟩, (tryP (agr_refl _) hP hK _).1, (tryP (agr_refl _) hP hK _).2, hR, hT⟩
    · rw [if_neg h1, if_neg (fun z => i_nlt.mpr z (hy.resolve_left h1))]
      exact ⟨_, rfl, _, rfl, rfl, ⟨a, hC, hM, hW⟩, (tryP (agr_refl _) hP hK _).1, (tryP (agr_refl _) hP hK _).2, hR, hT⟩
  · have h1 : ¬ y < 1 := fun z => hy (.inl z)
    have h2 : y ≤ 60 := i_nlt.mp (fun z => hy (.inr z))
    have h0 : ¬ y < 0 := by
      intro z
      apply h1
      rw [Int32.lt_iff_toInt_lt] at z ⊢
      have : (0 : Int32).toInt = 0 := rfl
      have : (1 : Int32).toInt = 1 := rfl
      omega
    have e2 : ¬ f_X7_in y.toInt64 1 60 = 0 := by
      rw [in_iff, show (1 : Int64) = (1 : Int32).toInt64 from rfl, show (60 : Int64) = (60 : Int32).toInt64 from rfl, l_lt, l_lt]
      exact hy
    obtain ⟨N, hN, rfl⟩ := le_nI (n := 60) (by omega) h0 h2
    rw [if_neg h1, if_pos h2, if_neg e2, show f_X7_copies m_mem 0 4 = some (cpy m_mem 0 4) from m_copies (q1 := 0) (q2 := 4) m_mem (by omega) (by omega) (by omega), sbind]
    unfold f_X6_years_l35 f_X7_years_l38
    refine loop_two (fun (o1 : Option (Int32 × (Nat → Int32) × Int32 × (Nat → Int64) × Int32 × (Nat → Int32) × (Nat → Int32) × (Nat → Int64) × (Nat → Int32) × (Nat → Int32) × (Nat → Int32) × Int32 × Int32 × Int32)) (o2 : Option (Int32 × Int32 × Int32 × (Nat → Int64) × (Nat → Int32) × (Nat → Int32) × (Nat → Int32) × Int32)) => ∃ rC, o1 = some rC ∧ ∃ rM, o2 = some rM ∧ rC.1 = rM.1 ∧ Inv x_words x_wordCount x_size x_signs x_next g_longest g_many rC.2.1 rC.2.2.1 g_aheadOf g_cameFrom g_queue rC.2.2.2.1 rC.2.2.2.2.1 p_size t_filled (va_up nd 1 (rC.2.2.2.2.2.1, rC.2.2.2.2.2.2.1, rC.2.2.2.2.2.2.2.1, rC.2.2.2.2.2.2.2.2.1, rC.2.2.2.2.2.2.2.2.2.1, rC.2.2.2.2.2.2.2.2.2.2.1, rC.2.2.2.2.2.2.2.2.2.2.2.1, rC.2.2.2.2.2.2.2.2.2.2.2.2.1, rC.2.2.2.2.2.2.2.2.2.2.2.2.2)) rM.2.1 rM.2.2.1 rM.2.2.2.1 m_tape m_taped m_at m_to rM.2.2.2.2.1 m_undos rM.2.2.2.2.2.1 rM.2.2.2.2.2.2.1 m_far m_way m_wayMany m_fromOf m_toOf m_longest m_wayCount m_thin m_ahead m_tried m_foundLow m_foundHigh m_nextLow m_nextHigh m_act m_first m_second rM.2.2.2.2.2.2.2 m_isKept) N 200 200 (fun i v w => ∃ rnd came rings lay len rn rs, ∃ (n : ND) (m pls mvs : Nat → Int32) (b : AN), v = (rnd, came, rings, nI i, lay, len, rn, rs, n.1, n.2.1, n.2.2.1, n.2.2.2.1, n.2.2.2.2.1, n.2.2.2.2.2.1, n.2.2.2.2.2.2.1, n.2.2.2.2.2.2.2.1, n.2.2.2.2.2.2.2.2) ∧ w = (came, rings, nI i, 0, m, pls, mvs, rnd) ∧ CN n b ∧ MN m (4 * 179) b ∧ WA b ∧ outq 4 (cpy m_mem 0 4) m ∧ aAl b = aAl a ∧ aS b = aS a) (by omega) (by omega) ?_ _ _ ⟨x, 0, 0, g_layers, g_length, r_numbers, r_size, ((nd 0).1, (nd 0).2.1, (nd 0).2.2.1, (nd 0).2.2.2.1, (nd 0).2.2.2.2.1, (nd 1).2.2.2.2.2.1, (nd 0).2.2.2.2.2.2), cpy m_mem 0 4, m_places, m_movers, a, rfl, rfl, hC, MN_cpy (q1 := 0) (q2 := 4) hW (hM : MN m_mem (0 * 179) a), hW, outq_refl _ _, rfl, rfl⟩
    rintro i v w hi ⟨rnd, came, rings, lay, len, rn, rs, n, m, pls, mvs, b, rfl, rfl, i1, i2, i3, i4, i5, i6⟩
    have hm0 := try_MN hW hM i4
    by_cases hiN : i = N
    · left
      intro rv rw_
      show ∃ rC, f_X6_years_b35 _ _ _ _ _ _ _ _ _ _ _ _ _ _ _ _ _ _ _ _ _ _ _ _ _ _ _ _ = some rC ∧ ∃ rM, f_X7_years_b38 _ _ _ _ _ _ _ _ _ _ _ _ _ = some rM ∧ _
      unfold f_X6_years_b35 f_X7_years_b38
      dsimp only
      rw [hiN, if_pos (yle _ (by omega)), if_pos (yle _ (by omega)), c_tell, sbind, c_unlike (n1 := nd 0) (n2 := n) hC i1 hW i3 i6, sbind, c_add (by decide), sbind]
      have E2 : f_X7_years_l134 m_told m_row x (nI N) came rings 0 0 0 m pls mvs rnd = some (came, 0, nI 2, vp_updL (vp_updL m_row 0 rings.toInt64) 1 (nI (cnt (fun i => !decide (aO a i = aO b i)) (aS a))).toInt64, m, pls, mvs, rnd) := by
        unfold f_X7_years_l134
        refine loop_go (fun j => (came, rings, nI (cnt (fun i => !decide (aO a i = aO b i)) j), nI j, 0, m, pls, mvs, rnd)) (aS a) 200 (by omega) rfl ?_ ?_
        · intro j hj rc
          show f_X7_years_b134 _ _ _ _ _ _ _ _ _ _ _ _ _ _ = _
          unfold f_X7_years_b134 f_X7_years_b168
          dsimp only
          have o1 := W_o hW hj
          have o2 := W_o i3 (show j < aS b by omega)
          rw [show f_X7_placed m 0 = some (nI (aS a)) from m_placed (q := 0) (hm0 : MN m (0 * 179) a) (by omega), sbind, if_neg (nle hj (by omega)), show f_X7_inPlace m 0 (nI j) = some (nI (aO a j)) from m_inPlace (q := 0) (hm0 : MN m (0 * 179) a) (by omega) hj hs24, sbind, show f_X7_inPlace m 4 (nI j) = some (nI (aO b j)) from m_inPlace (q := 4) i2 (by omega) (by omega) (by omega), sbind, flag0, flag1, Int32.add_zero, nI_1, nI_1, cnt_s]
          by_cases e : aO a j = aO b j
          · rw [if_pos (by rw [e]), if_neg (by simp [e])]
          · rw [if_neg (by rw [nI_eq (by omega) (by omega)]; exact e), if_pos (by simp [e])]
        · intro rc
          show f_X7_years_b134 _ _ _ _ _ _ _ _ _ _ _ _ _ _ = _
          unfold f_X7_years_b134
          dsimp only
          rw [show f_X7_placed m 0 = some (nI (aS a)) from m_placed (q := 0) (hm0 : MN m (0 * 179) a) (by omega), sbind, if_pos (yle _ (by omega)), m_tell, sbind, m_enters (by decide), sbind]
      rw [E2]
      exact ⟨_, rfl, _, rfl, rfl, ⟨a, hC, hm0, hW⟩, (tryP (try_out i4) hP hK _).1, (tryP (try_out i4) hP hK _).2, Rw2 _ _ _ _, hT⟩
    · right
      have hiN' : i < N := by omega
      refine ⟨hiN', ?_⟩
      have htw : ∀ p q, two b p q ↔ two a p q := by
        intro p q
        unfold two
        rw [i5]
      obtain ⟨p, dp⟩ : ∃ p, p = jrem (jushr (f_X6_drawn rnd) 16) 24 := ⟨_, rfl⟩
      obtain ⟨q, dq⟩ : ∃ q, q = jrem (jushr (f_X6_drawn (f_X6_drawn rnd)) 16) 24 := ⟨_, rfl⟩
      have dr1 : f_X7_draws rnd 24 = some (p, f_X6_drawn rnd) := by
        rw [dp]
        unfold f_X7_draws
        rw [show decide (¬ (24 : Int32) = 0) = true by decide, chk_true]
        rfl
      have dr2 : f_X7_draws (f_X6_drawn rnd) 24 = some (q, f_X6_drawn (f_X6_drawn rnd)) := by
        rw [dq]
        unfold f_X7_draws
        rw [show decide (¬ (24 : Int32) = 0) = true by decide, chk_true]
        rfl
      have key : ∃ r lay' len' rn' rs' nr ord mov m1 pls' mvs' b', f_X0_link lay len rn rs n.1 n.2.1 n.2.2.2.2.2.1 n.2.2.2.2.2.2.1 n.2.2.2.2.2.2.2.1 p q = some (r, lay', len', rn', rs', nr, ord, mov) ∧ ((f_X7_areTwo m p q).bind (fun r8 => if r8 = 0 then some ((-1 : Int32), m, pls, mvs) else f_X7_comes m pls mvs 4 p q) = some (r, m1, pls', mvs')) ∧ outq 4 m m1 ∧ CN (nr, ord, n.2.2.1, n.2.2.2.1, n.2.2.2.2.1, mov, n.2.2.2.2.2.2) b' ∧ MN m1 (4 * 179) b' ∧ WA b' ∧ aAl b' = aAl a ∧ aS b' = aS a := by
        by_cases ht : two b p q
        · obtain ⟨s, t, rfl, rfl, hs, ht, hne⟩ := ht
          obtain ⟨r, lay', len', rn', rs', nr, ord, mov, m1, pls', mvs', b', e1, e2, ho, q1, q2, q3, hk, hrow⟩ := link_q (q := 4) i1 i2 (by omega) i3 hs ht hne lay len rn rs pls mvs
          refine ⟨r, lay', len', rn', rs', nr, ord, mov, m1, pls', mvs', b', e1, ?_, ho, q1, q2, q3, ?_, ?_⟩
          · rw [m_two1 hm0 hW (by rw [← i5]; exact hs) (by rw [← i5]; exact ht) hne, sbind, if_neg one0]
            exact e2
          · rcases hk with ⟨_, e⟩ | ⟨k, _, _, e, _⟩
            · rw [e]; exact i5
            · rw [e]; exact i5
          · rcases hk with ⟨_, e⟩ | ⟨k, _, _, e, _⟩
            · rw [e]; exact i6
            · rw [e]; exact i6
        · refine ⟨_, _, _, _, _, _, _, _, m, pls, mvs, b, c_lin0 i1 ht lay len rn rs, ?_, outq_refl _ _, i1, i2, i3, i5, i6⟩
          rw [m_two0 hm0 (fun z => ht ((htw p q).mpr z)), sbind, if_pos rfl]
      obtain ⟨r, lay', len', rn', rs', nr, ord, mov, m1, pls', mvs', b', e1, e2, ho, q1, q2, q3, j5, j6⟩ := key
      refine ⟨(f_X6_drawn (f_X6_drawn rnd), (if r < 0 then came else came + 1), (if r = -4 then rings + 1 else rings), nI (i + 1), lay', len', rn', rs', nr, ord, n.2.2.1, n.2.2.2.1, n.2.2.2.2.1, mov, n.2.2.2.2.2.2.1, n.2.2.2.2.2.2.2.1, n.2.2.2.2.2.2.2.2), ((if r < 0 then came else came + 1), (if r = -4 then rings + 1 else rings), nI (i + 1), 0, m1, pls', mvs', f_X6_drawn (f_X6_drawn rnd)), ⟨_, _, _, lay', len', rn', rs', (nr, ord, n.2.2.1, n.2.2.2.1, n.2.2.2.2.1, mov, n.2.2.2.2.2.2), m1, pls', mvs', b', rfl, rfl, q1, q2, q3, outq_trans i4 ho, j5, j6⟩, ?_, ?_⟩
      · intro rv
        show f_X6_years_b35 _ _ _ _ _ _ _ _ _ _ _ _ _ _ _ _ _ _ _ _ _ _ _ _ _ _ _ _ = _
        unfold f_X6_years_b35 f_X6_years_b98
        dsimp only
        rw [if_neg (nle hiN' (by omega)), ← dp, ← dq, e1, sbind, nI_1]
        dsimp only
        by_cases c1 : r < 0
        · rw [if_pos c1, if_pos c1, Int32.add_zero, Int32.add_zero]
          by_cases c2 : r = -4
          · rw [if_pos c2, if_pos c2]
          · rw [if_neg c2, if_neg c2]
        · rw [if_neg c1, if_neg c1, Int32.add_zero]
          by_cases c2 : r = -4
          · rw [if_pos c2, if_pos c2]
          · rw [if_neg c2, if_neg c2]
      · intro rw_
        show f_X7_years_b38 _ _ _ _ _ _ _ _ _ _ _ _ _ = _
        unfold f_X7_years_b38
        dsimp only
        rw [if_neg (nle hiN' (by omega)), dr1, sbind]
        dsimp only
        rw [dr2, sbind]
        dsimp only
        have E : ∀ s0 m2 pl2 mv2, f_X7_years_b84 m_told m_row x (nI N) (fun x0_ x1_ x2_ x3_ x4_ x5_ x6_ x7_ => rw_ (x0_, x1_, x2_, x3_, x4_, x5_, x6_, x7_)) came rings (nI i) s0 0 m2 pl2 mv2 (f_X6_drawn (f_X6_drawn rnd)) = rw_ ((if s0 < 0 then came else came + 1), (if s0 = -4 then rings + 1 else rings), nI (i + 1), 0, m2, pl2, mv2, f_X6_drawn (f_X6_drawn rnd)) := by
          intro s0 m2 pl2 mv2
          unfold f_X7_years_b84 f_X7_years_b97 f_X7_years_b116
          rw [nI_1, flag0, flag1, Int32.add_zero, Int32.add_zero]
          by_cases c1 : s0 < 0
          · rw [if_pos c1, if_pos c1]
            by_cases c2 : s0 = -4
            · rw [if_pos c2, if_pos c2]
            · rw [if_neg c2, if_neg c2]
          · rw [if_neg c1, if_neg c1]
            by_cases c2 : s0 = -4
            · rw [if_pos c2, if_pos c2]
            · rw [if_neg c2, if_neg c2]
        cases hT2 : f_X7_areTwo m p q with
        | none => rw [hT2] at e2; cases e2
        | some r8 =>
          rw [hT2, sbind] at e2
          rw [sbind]
          by_cases c : r8 = 0
          · rw [if_pos c] at e2 ⊢
            obtain ⟨rfl, rfl, rfl, rfl⟩ : (-1 : Int32) = r ∧ m = m1 ∧ pls = pls' ∧ mvs = mvs' := by
              simp only [Option.some.injEq, Prod.mk.injEq] at e2
              exact e2
            exact E _ _ _ _
          · rw [if_neg c] at e2 ⊢
            rw [e2, sbind]
            exact E _ _ _ _
