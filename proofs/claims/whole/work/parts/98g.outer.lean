/-! PURE 98g: the outer loop; case 21 -/
theorem bs_of (S : Nat → Bool) : bset S 24 = bsP (fun r => S r = true) := by
  show bset S 24 = bset (fun r => pb (S r = true)) 24
  refine bset_congr 24 (fun k _ => ?_)
  apply Bool.eq_iff_iff.mpr
  rw [pb_iff]
theorem FF_all {n : ND} {a : AN} (hC : CN n a) (hW : WA a) : FF n a := by
  intro ah cf q A P W l hA hG hal hp
  have lp := W_lt hW hal
  have one := hG.2.1
  have ol := hG.2.2.1 l lp hp
  have al : ∀ r, r < 24 → A r < 24 → aAl a (A r) = true := fun r hr w => (hG.1 r hr w).1
  unfold f_X1_findFollower f_X1_findFollower_l15
  rw [show (0 : Int32) = nI 0 from rfl, chk_nI (show 0 < 24 by omega) (by decide), ix_nI (by omega)]
  have key := loop_rel (body := fun (_ : Unit) rc (v : Int32 × Int32 × Int32 × (Nat → Int32) × (Nat → Int32)) => f_X1_findFollower_b15 ah n.1 n.2.1 (nI (aS a)) (nI l) (fun x0_ x1_ x2_ x3_ x4_ => rc (x0_, x1_, x2_, x3_, x4_)) v.1 v.2.1 v.2.2.1 v.2.2.2.1 v.2.2.2.2) (fun _ (r : Int32 × (Nat → Int32) × (Nat → Int32) × (Nat → Int32)) => some r) (fun rv => (∃ cf' q' W', rv = (0, ah, cf', q') ∧ Cl a A W' ∧ ∀ r, r < 24 → Ed a l r → W' r) ∨ (∃ ah' A' cf' q', rv = (1, ah', cf', q') ∧ MtA ah' A' ∧ (∀ r, r < 24 → W r → A' r = A r) ∧ (∀ r, r < 24 → A' r = A r ∨ (A' r < 24 ∧ aAl a (A' r) = true ∧ Ed a (A' r) r)) ∧ (∀ k, k < 24 → occ A' k = occ A k + (if l = k then 1 else 0)))) 24 200 (fun i v => ∃ S k Q c cf q, v = (bset S 24, nI k, nI i, cf, q) ∧ OI a A l S k Q c cf q i i ∧ k ≤ 24 ∧ i ≤ k) (by decide) ?_ (nI 0, 1, nI 0, cf, upd q 0 (nI l)) ?_
  · obtain ⟨rv, h1, h2⟩ := key
    rcases h1 with ⟨cf', q', W', rfl, h3⟩ | ⟨ah', A', cf', q', rfl, h3⟩
    · exact .inl ⟨cf', q', W', h2 (), h3⟩
    · exact .inr ⟨ah', A', cf', q', h2 (), h3⟩
  · rintro i _ hi ⟨S, k, Q, c, cf, q, rfl, o1, o2, o3⟩
    by_cases ek : i = k
    · left
      refine ⟨(0, ah, cf, q), .inl ⟨cf, q, fun r => S r = true, rfl, ?_, ?_⟩, ?_⟩
      · intro r hr w
        obtain ⟨_, _, m, m', _, _, e, _, hm⟩ := o1.2.2.2.2.1 r hr w
        rw [e]
        exact ⟨W_lt hW (o1.2.2.1 m' hm).1, fun r' hr' e' => o1.2.2.2.2.2.1 m' (by omega) r' hr' e'⟩
      · intro r hr e
        rw [← o1.2.1] at e
        exact o1.2.2.2.2.2.1 0 (by have := o1.1; omega) r hr e
      · intro _ rc
        unfold f_X1_findFollower_b15
        dsimp only
        by_cases e24 : (24 : Int32) ≤ nI i
        · rw [if_pos e24]
        · rw [if_neg e24, if_pos (by rw [nI_leI (by omega) (by omega)]; omega)]
    · have ik : i < k := by omega
      have alq := (o1.2.2.1 i ik).1
      have lq := W_lt hW alq
      have st : ∀ k15, f_X1_findFollower_b15 ah n.1 n.2.1 (nI (aS a)) (nI l) k15 (bset S 24) (nI k) (nI i) cf q = f_X1_findFollower_l65 ah n.1 n.2.1 (nI (aS a)) (nI l) k15 (bsP (fun r => S r = true ∨ (Ed a (Q i) r ∧ ¬ S r = true))) (nI k) (nI i) (nI (Q i)) (bsP (fun r => Ed a (Q i) r ∧ ¬ S r = true)) 0 cf q := by
        intro k15
        unfold f_X1_findFollower_b15
        rw [if_neg (n24 (by omega)), if_neg (nle ik (by omega)), chk_nI (by omega) (by decide), ix_nI (by omega), (o1.2.2.1 i ik).2, c_below hC hW alq, sbind, bs_of, bsP_one lq, bsP_not, bsP_not, bsP_or]
        rfl
      rcases c_inner (n := n) hW hA one lp ol al o1 o2 ik (bsP (fun r => S r = true ∨ (Ed a (Q i) r ∧ ¬ S r = true))) with ⟨ah', A', cf', q', f1, f2, f3, f4, f5⟩ | ⟨S', k', Q', c', cf', q', f1, f2, f3, f4, f5⟩
      · left
        refine ⟨(1, ah', cf', q'), .inr ⟨ah', A', cf', q', rfl, f2, f3 W hG.2.2.2.1, f4, f5⟩, ?_⟩
        intro _ rc
        dsimp only
        rw [st, f1]
      · right
        refine ⟨by omega, _, ⟨S', k', Q', c', cf', q', rfl, f2, f3, by omega⟩, ?_⟩
        intro _ rc
        dsimp only
        rw [st, f1, bs_of S', show bsP (fun r => S' r = true) = bsP (fun r => S r = true ∨ (Ed a (Q i) r ∧ ¬ S r = true)) from bsP_congr (fun r hr => by
          rw [f5 r hr]
          constructor
          · intro w
            by_cases s : S r = true
            · exact .inl s
            · exact .inr ⟨w.resolve_left s, s⟩
          · exact fun w => w.elim .inl (fun w => .inr w.1))]
  · refine ⟨fun _ => false, 1, fun _ => l, fun _ => 0, cf, upd q 0 (nI l), ?_, ⟨?_, rfl, ?_, ?_, ?_, ?_, ?_⟩, by omega, by omega⟩
    · rw [b24_0]
      rfl
    · rw [show cnt (fun _ => false) 24 = 0 by decide]
    · intro m hm
      rw [show m = 0 by omega, updN]
      exact ⟨hal, rfl⟩
    · intro m m' hm hm' _
      omega
    · exact fun r _ w => absurd w Bool.false_ne_true
    · exact fun m hm => absurd hm (Nat.not_lt_zero _)
    · intro m h1 h2
      omega
theorem inv_21 (x_words : Nat → Int32) (x_wordCount : Int32) (x_size : Int32) (x_signs : Nat → Int32) (x_next : Int32) (g_longest : Nat → Int32) (g_many : Nat → Int64) (g_layers : Nat → Int32) (g_length : Int32) (g_aheadOf : Nat → Int32) (g_cameFrom : Nat → Int32) (g_queue : Nat → Int32) (r_numbers : Nat → Int64) (r_size : Int32) (p_size : Int32) (t_filled : Nat → Int32) (nd : Nat → ND) (m_thrown : Int32) (m_told : Int32) (m_row : Nat → Int64) (m_tape : Nat → Int32) (m_taped : Int32) (m_at : Int32) (m_to : Int32) (m_mem : Nat → Int32) (m_undos : Int32) (m_places : Nat → Int32) (m_movers : Nat → Int32) (m_far : Nat → Int32) (m_way : Nat → Int32) (m_wayMany : Int32) (m_fromOf : Nat → Int32) (m_toOf : Nat → Int32) (m_longest : Nat → Int32) (m_wayCount : Nat → Int64) (m_thin : Nat → Int32) (m_ahead : Nat → Int32) (m_tried : Int32) (m_foundLow : Int32) (m_foundHigh : Int32) (m_nextLow : Int32) (m_nextHigh : Int32) (m_act : Nat → Int32) (m_first : Nat → Int32) (m_second : Nat → Int32) (m_random : Int32) (m_isKept : Nat → Int32) (x y : Int32) (h : Inv x_words x_wordCount x_size x_signs x_next g_longest g_many g_layers g_length g_aheadOf g_cameFrom g_queue r_numbers r_size p_size t_filled nd m_thrown m_told m_row m_tape m_taped m_at m_to m_mem m_undos m_places m_movers m_far m_way m_wayMany m_fromOf m_toOf m_longest m_wayCount m_thin m_ahead m_tried m_foundLow m_foundHigh m_nextLow m_nextHigh m_act m_first m_second m_random m_isKept) : S_21 Inv x_words x_wordCount x_size x_signs x_next g_longest g_many g_layers g_length g_aheadOf g_cameFrom g_queue r_numbers r_size p_size t_filled nd m_thrown m_told m_row m_tape m_taped m_at m_to m_mem m_undos m_places m_movers m_far m_way m_wayMany m_fromOf m_toOf m_longest m_wayCount m_thin m_ahead m_tried m_foundLow m_foundHigh m_nextLow m_nextHigh m_act m_first m_second m_random m_isKept x y := inv_21_of (fun _ _ h1 h2 => FF_all h1 h2) x_words x_wordCount x_size x_signs x_next g_longest g_many g_layers g_length g_aheadOf g_cameFrom g_queue r_numbers r_size p_size t_filled nd m_thrown m_told m_row m_tape m_taped m_at m_to m_mem m_undos m_places m_movers m_far m_way m_wayMany m_fromOf m_toOf m_longest m_wayCount m_thin m_ahead m_tried m_foundLow m_foundHigh m_nextLow m_nextHigh m_act m_first m_second m_random m_isKept x y h
