/-! PURE 98f: the search in breadth, whole -/
theorem c_inner {n : ND} {a : AN} {ah : Nat → Int32} {A : Nat → Nat} {l : Nat} (hW : WA a) (hA : MtA ah A) (one : ∀ l, l < 24 → occ A l ≤ 1) (hl : l < 24) (ol : occ A l = 0) (al : ∀ r, r < 24 → A r < 24 → aAl a (A r) = true) {S : Nat → Bool} {k : Nat} {Q c : Nat → Nat} {cf q : Nat → Int32} {i : Nat} (h : OI a A l S k Q c cf q i i) (hk : k ≤ 24) (hi : i < k) (x3 : Int32) : (∃ ah' A' cf' q', (∀ k15, f_X1_findFollower_l65 ah n.1 n.2.1 (nI (aS a)) (nI l) k15 x3 (nI k) (nI i) (nI (Q i)) (bsP (fun r => Ed a (Q i) r ∧ ¬ S r = true)) 0 cf q = some (1, ah', cf', q')) ∧ MtA ah' A' ∧ (∀ W, Cl a A W → ∀ r, r < 24 → W r → A' r = A r) ∧ (∀ r, r < 24 → A' r = A r ∨ (A' r < 24 ∧ aAl a (A' r) = true ∧ Ed a (A' r) r)) ∧ (∀ x, x < 24 → occ A' x = occ A x + (if l = x then 1 else 0))) ∨ (∃ S' k' Q' c' cf' q', (∀ k15, f_X1_findFollower_l65 ah n.1 n.2.1 (nI (aS a)) (nI l) k15 x3 (nI k) (nI i) (nI (Q i)) (bsP (fun r => Ed a (Q i) r ∧ ¬ S r = true)) 0 cf q = k15 x3 (nI k') (nI (i + 1)) cf' q') ∧ OI a A l S' k' Q' c' cf' q' (i + 1) (i + 1) ∧ k' ≤ 24 ∧ k ≤ k' ∧ (∀ r, r < 24 → (S' r = true ↔ (S r = true ∨ Ed a (Q i) r)))) := by
  have uq : ∀ x y, x < 24 → y < 24 → A x < 24 → A x = A y → x = y := by
    intro x y hx hy hax e
    refine Classical.byContradiction fun ne => ?_
    have := (cnt_gt1 (P := fun r => decide (A r = A x)) hx (decide_eq_true rfl)).mpr ⟨y, hy, fun z => ne z.symm, decide_eq_true e.symm⟩
    have q := one (A x) hax
    unfold occ at q
    omega
  have ol' : ∀ r, r < 24 → A r ≠ l := fun r hr e => by have := occ_pos.mpr ⟨r, hr, e⟩; omega
  have key := loop_rel (body := fun (k15 : Int32 → Int32 → Int32 → (Nat → Int32) → (Nat → Int32) → Option (Int32 × (Nat → Int32) × (Nat → Int32) × (Nat → Int32))) rc (v : Int32 × Int32 × Int32 × Int32 × Int32 × Int32 × (Nat → Int32) × (Nat → Int32)) => f_X1_findFollower_b65 ah n.1 n.2.1 (nI (aS a)) (nI l) k15 (fun x0_ x1_ x2_ x3_ x4_ x5_ x6_ x7_ => rc (x0_, x1_, x2_, x3_, x4_, x5_, x6_, x7_)) v.1 v.2.1 v.2.2.1 v.2.2.2.1 v.2.2.2.2.1 v.2.2.2.2.2.1 v.2.2.2.2.2.2.1 v.2.2.2.2.2.2.2) (fun k15 (r : Sum (Int32 × (Nat → Int32) × (Nat → Int32) × (Nat → Int32)) (Int32 × (Nat → Int32) × (Nat → Int32))) => match r with | .inl t => some t | .inr t => k15 x3 t.1 (nI (i + 1)) t.2.1 t.2.2) (fun r => (∃ ah' A' cf' q', r = .inl (1, ah', cf', q') ∧ MtA ah' A' ∧ (∀ W, Cl a A W → ∀ r, r < 24 → W r → A' r = A r) ∧ (∀ r, r < 24 → A' r = A r ∨ (A' r < 24 ∧ aAl a (A' r) = true ∧ Ed a (A' r) r)) ∧ (∀ x, x < 24 → occ A' x = occ A x + (if l = x then 1 else 0))) ∨ (∃ S' k' Q' c' cf' q', r = .inr (nI k', cf', q') ∧ OI a A l S' k' Q' c' cf' q' (i + 1) (i + 1) ∧ k' ≤ 24 ∧ k ≤ k' ∧ (∀ r, r < 24 → (S' r = true ↔ (S r = true ∨ Ed a (Q i) r))))) 24 200 (fun j v => ∃ S' k' Q' c' cf' q', v = (x3, nI k', nI i, nI (Q i), bsP (fun r => Ed a (Q i) r ∧ ¬ S r = true), nI j, cf', q') ∧ OI a A l S' k' Q' c' cf' q' (i + 1) i ∧ k' ≤ 24 ∧ k ≤ k' ∧ Q' i = Q i ∧ (∀ r, r < 24 → (S' r = true ↔ (S r = true ∨ (r < j ∧ Ed a (Q i) r))))) (by decide) ?_ (x3, nI k, nI i, nI (Q i), bsP (fun r => Ed a (Q i) r ∧ ¬ S r = true), 0, cf, q) ?_
  · obtain ⟨rv, h1, h2⟩ := key
    rcases h1 with ⟨ah', A', cf', q', rfl, h3⟩ | ⟨S', k', Q', c', cf', q', rfl, h3⟩
    · exact .inl ⟨ah', A', cf', q', h2, h3⟩
    · exact .inr ⟨S', k', Q', c', cf', q', h2, h3⟩
  · rintro j _ hj ⟨S', k', Q', c', cf', q', rfl, o1, o2, o3, o4, o5⟩
    by_cases e24 : j = 24
    · left
      subst e24
      refine ⟨.inr (nI k', cf', q'), .inr ⟨S', k', Q', c', cf', q', rfl, ⟨o1.1, o1.2.1, o1.2.2.1, o1.2.2.2.1, o1.2.2.2.2.1, ?_, o1.2.2.2.2.2.2⟩, o2, o3, ?_⟩, ?_⟩
      · intro m hm r hr e
        by_cases em : m = i
        · rw [em, o4] at e
          exact (o5 r hr).mpr (.inr ⟨hr, e⟩)
        · exact o1.2.2.2.2.2.1 m (by omega) r hr e
      · intro r hr
        rw [o5 r hr]
        exact ⟨fun w => w.elim .inl (fun w => .inr w.2), fun w => w.elim .inl (fun w => .inr ⟨hr, w⟩)⟩
      · intro k15 rc
        unfold f_X1_findFollower_b65
        dsimp only
        rw [if_pos y24, nI_1]
    · have lj : j < 24 := by omega
      by_cases hN : Ed a (Q i) j ∧ ¬ S j = true
      · have nS : S' j = false := Bool.eq_false_iff.mpr (fun w => ((o5 j lj).mp w).elim hN.2 (fun w => absurd w.1 (Nat.lt_irrefl j)))
        have hE : Ed a (Q' i) j := by rw [o4]; exact hN.1
        rcases hA j lj with ⟨m1, m2⟩ | ⟨m1, m2⟩
        · right
          have k23 := OI_k hW o1 one hl ol lj nS m1
          have oN := OI_add o1 al uq ol' (by omega) lj nS m1 hE
          refine ⟨lj, _, ⟨_, k' + 1, _, _, _, _, rfl, oN, by omega, by omega, ?_, ?_⟩, ?_⟩
          · show put Q' k' (A j) i = Q i
            unfold put
            rw [if_neg (by omega), o4]
          · intro r hr
            show (S' r || decide (r = j)) = true ↔ _
            rw [Bool.or_eq_true, decide_eq_true_iff, o5 r hr]
            constructor
            · rintro ((w | w) | w)
              · exact .inl w
              · exact .inr ⟨by omega, w.2⟩
              · exact .inr ⟨by omega, w ▸ hN.1⟩
            · rintro (w | ⟨w1, w2⟩)
              · exact .inl (.inl w)
              · by_cases e : r = j
                · exact .inr e
                · exact .inl (.inr ⟨by omega, w2⟩)
          · intro k15 rc
            unfold f_X1_findFollower_b65
            dsimp only
            rw [if_neg (n24 lj), if_neg (by rw [bsP_hold lj]; exact fun w => w hN), chk_nI lj (by decide), chk_nI lj (by decide), ix_nI (by omega), m2, if_pos (i_nlt.mp (neg_lt (by omega))), if_neg (n24 (by omega)), chk_nI lj (by decide), chk_nI (by omega) (by decide), ix_nI (by omega), nI_1, nI_1, o4]
        · left
          obtain ⟨ah', A', f1, f2⟩ := OI_free hW hA o1 one hl o2 (by omega) lj nS m1 hE
          refine ⟨.inl (1, ah', upd cf' j (nI (Q' i)), q'), .inl ⟨ah', A', _, _, rfl, f2⟩, ?_⟩
          intro k15 rc
          unfold f_X1_findFollower_b65
          dsimp only
          rw [if_neg (n24 lj), if_neg (by rw [bsP_hold lj]; exact fun w => w hN), chk_nI lj (by decide), chk_nI lj (by decide), ix_nI (by omega), m2, if_neg (show ¬ (0 : Int32) ≤ -1 by decide), ← o4, f1, sbind]
      · right
        refine ⟨lj, _, ⟨S', k', Q', c', cf', q', rfl, o1, o2, o3, o4, ?_⟩, ?_⟩
        · intro r hr
          rw [o5 r hr]
          constructor
          · rintro (w | w)
            · exact .inl w
            · exact .inr ⟨by omega, w.2⟩
          · rintro (w | ⟨w1, w2⟩)
            · exact .inl w
            · by_cases e : r = j
              · left
                refine Classical.byContradiction fun z => hN ⟨e ▸ w2, fun y => z (e ▸ y)⟩
              · exact .inr ⟨by omega, w2⟩
        · intro k15 rc
          unfold f_X1_findFollower_b65
          dsimp only
          rw [if_neg (n24 lj), if_pos ((bsP_hold lj).mpr hN), nI_1]
  · refine ⟨S, k, Q, c, cf, q, rfl, ⟨h.1, h.2.1, h.2.2.1, h.2.2.2.1, ?_, h.2.2.2.2.2.1, h.2.2.2.2.2.2⟩, hk, Nat.le_refl _, rfl, ?_⟩
    · intro r hr w
      obtain ⟨g1, g2, m, m', g3, g4⟩ := h.2.2.2.2.1 r hr w
      exact ⟨g1, g2, m, m', by omega, g4⟩
    · intro r hr
      exact ⟨.inl, fun w => w.elim id (fun w => absurd w.1 (Nat.not_lt_zero _))⟩
