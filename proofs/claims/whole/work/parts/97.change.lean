/-! PURE 97: followers changed, in the class -/
theorem c_followerOf {ah : Nat → Int32} {A : Nat → Nat} (h : MtA ah A) {l : Nat} (hl : l < 24) (he : ∃ r, r < 24 ∧ A r = l) : ∃ r, r < 24 ∧ A r = l ∧ f_X1_followerOf ah (nI l) = some (nI r) := by
  obtain ⟨r0, h0, e0⟩ := he
  obtain ⟨r, q1, q2⟩ := lst_ex (Q := fun r => A r = l) r0 e0
  have hr : r < 24 := by
    refine Classical.byContradiction fun w => q2 r0 (by omega) e0
  refine ⟨r, hr, q1, ?_⟩
  unfold f_X1_followerOf f_X1_followerOf_l2
  refine loop_go (fun j => nI j) r 200 (by omega) rfl ?_ ?_
  · intro j hj rc
    show f_X1_followerOf_b2 _ _ _ _ = _
    unfold f_X1_followerOf_b2
    have ne : ¬ ah j = nI l := by
      intro e
      rcases h j (by omega) with ⟨a1, a2⟩ | ⟨a1, a2⟩
      · rw [a2] at e
        exact q2 j hj ((nI_eq (by omega) (by omega)).mp e)
      · rw [a2] at e
        exact neg_lt (show l < 2147483648 by omega) (by rw [← e]; decide)
    rw [if_neg (n24 (by omega)), chk_nI (by omega) (by decide), ix_nI (by omega), if_neg ne, nI_1]
  · intro rc
    show f_X1_followerOf_b2 _ _ _ _ = _
    unfold f_X1_followerOf_b2
    have eq : ah r = nI l := by
      rcases h r hr with ⟨a1, a2⟩ | ⟨a1, a2⟩
      · rw [a2, q1]
      · omega
    rw [if_neg (n24 hr), chk_nI hr (by decide), ix_nI (by omega), if_pos eq]
theorem c_change {a : AN} {ah cf : Nat → Int32} {A c : Nat → Nat} {S : Nat → Prop} {io : Nat → Nat} {l0 : Nat} (hA : MtA ah A) (h1 : ∀ r, r < 24 → S r → c r < 24 ∧ aAl a (c r) = true ∧ Ed a (c r) r ∧ cf r = nI (c r) ∧ io (c r) < 24) (h2 : ∀ r, r < 24 → S r → c r ≠ l0 → ∃ r', r' < 24 ∧ S r' ∧ A r' = c r ∧ io (c r') < io (c r)) (one : ∀ l, l < 24 → occ A l ≤ 1) (hl0 : l0 < 24) {r0 : Nat} (hr0 : r0 < 24) (hS0 : S r0) (hf : A r0 = 24) : ∃ ah' A', f_X1_changeFollowers ah cf (nI l0) (nI r0) = some ah' ∧ MtA ah' A' ∧ (∀ W, Cl a A W → ∀ r, r < 24 → W r → A' r = A r) ∧ (∀ r, r < 24 → A' r = A r ∨ (A' r < 24 ∧ aAl a (A' r) = true ∧ Ed a (A' r) r)) ∧ (∀ l, l < 24 → occ A' l = occ A l + (if l0 = l then 1 else 0)) := by
  have uq : ∀ l, l < 24 → ∀ x y, x < 24 → y < 24 → A x = l → A y = l → x = y := by
    intro l hl x y hx hy e1 e2
    refine Classical.byContradiction fun ne => ?_
    have := (cnt_gt1 (P := fun r => decide (A r = l)) hx (decide_eq_true e1)).mpr ⟨y, hy, fun z => ne z.symm, decide_eq_true e2⟩
    have q := one l hl
    unfold occ at q
    omega
  unfold f_X1_changeFollowers f_X1_changeFollowers_l5
  have key := loop_rel (body := fun (_ : Unit) rc (v : Int32 × Int32 × (Nat → Int32)) => f_X1_changeFollowers_b5 cf (nI l0) (nI r0) (fun x0_ x1_ x2_ => rc (x0_, x1_, x2_)) v.1 v.2.1 v.2.2) (fun _ (r : Nat → Int32) => some r) (fun ah' => ∃ A', MtA ah' A' ∧ (∀ W, Cl a A W → ∀ r, r < 24 → W r → A' r = A r) ∧ (∀ r, r < 24 → A' r = A r ∨ (A' r < 24 ∧ aAl a (A' r) = true ∧ Ed a (A' r) r)) ∧ (∀ l, l < 24 → occ A' l = occ A l + (if l0 = l then 1 else 0))) 24 200 (fun j v => (∃ r ab B, v = (nI r, nI j, ab) ∧ r < 24 ∧ S r ∧ j + io (c r) ≤ 23 ∧ MtA ab B ∧ (∀ x, x < 24 → B x = A x ∨ (S x ∧ B x = c x ∧ io (c r) < io (c x))) ∧ B r = A r ∧ (∀ W, Cl a A W → ¬ W r ∧ ∀ x, x < 24 → W x → B x = A x) ∧ (∀ l, l < 24 → occ B l = occ A l + (if A r = l then 1 else 0))) ∨ (∃ ab B, v = (-1, nI j, ab) ∧ MtA ab B ∧ (∀ W, Cl a A W → ∀ r, r < 24 → W r → B r = A r) ∧ (∀ r, r < 24 → B r = A r ∨ (B r < 24 ∧ aAl a (B r) = true ∧ Ed a (B r) r)) ∧ (∀ l, l < 24 → occ B l = occ A l + (if l0 = l then 1 else 0)))) (by decide) ?_ (nI r0, 0, ah) ?_
  · obtain ⟨ah', ⟨A', k1, k2, k3, k4⟩, k5⟩ := key
    exact ⟨ah', A', k5 (), k1, k2, k3, k4⟩
  · rintro j _ hj (⟨r, ab, B, rfl, hr, hS, hio, i1, i2, i3, i4, i5⟩ | ⟨ab, B, rfl, i1, i2, i3, i4⟩)
    · obtain ⟨c1, c2, c3, c4, c5⟩ := h1 r hr hS
      have lj : j < 24 := by omega
      right
      refine ⟨lj, ?_⟩
      have oP : ∀ l, l < 24 → occ (put B r (c r)) l = occ A l + (if c r = l then 1 else 0) := by
        intro l hl
        have o1 := occ_put B hr (c r) l
        have o2 := i5 l hl
        rw [i3] at o1
        omega
      by_cases cl : c r = l0
      · refine ⟨(-1, nI (j + 1), upd ab r (nI (c r))), .inr ⟨_, put B r (c r), rfl, MTput i1 r c1, ?_, ?_, ?_⟩, ?_⟩
        · intro W hWc x hx w
          have e : x ≠ r := fun e => (i4 W hWc).1 (e ▸ w)
          unfold put
          rw [if_neg e]
          exact (i4 W hWc).2 x hx w
        · intro x hx
          unfold put
          by_cases e : x = r
          · rw [if_pos e, e]
            exact .inr ⟨c1, c2, c3⟩
          · rw [if_neg e]
            rcases i2 x hx with q | ⟨q1, q2, _⟩
            · exact .inl q
            · rw [q2]
              exact .inr ⟨(h1 x hx q1).1, (h1 x hx q1).2.1, (h1 x hx q1).2.2.1⟩
        · intro l hl
          rw [oP l hl, cl]
        · intro _ rc
          unfold f_X1_changeFollowers_b5 f_X1_changeFollowers_b40
          dsimp only
          rw [if_neg (n24 lj), if_neg (neg_lt (by omega)), chk_nI hr (by decide), chk_nI hr (by decide), ix_nI (by omega), c4, if_pos (by rw [cl]), nI_1]
      · obtain ⟨r', hr', S', e', io'⟩ := h2 r hr hS cl
        have Br' : B r' = c r := by
          rcases i2 r' hr' with q | ⟨q1, q2, q3⟩
          · rw [q, e']
          · omega
        have nr : r' ≠ r := by
          intro e
          rw [e] at io'
          omega
        obtain ⟨x, hx, ex, fx⟩ := c_followerOf i1 c1 ⟨r', hr', Br'⟩
        have xr : x = r' := by
          rcases i2 x hx with q | ⟨q1, q2, q3⟩
          · exact uq (c r) c1 x r' hx hr' (q ▸ ex) e'
          · rw [← q2, ex] at q3
            omega
        rw [xr] at fx
        refine ⟨(nI r', nI (j + 1), upd ab r (nI (c r))), .inl ⟨r', _, put B r (c r), rfl, hr', S', by omega, MTput i1 r c1, ?_, ?_, ?_, ?_⟩, ?_⟩
        · intro y hy
          unfold put
          by_cases e : y = r
          · rw [if_pos e, e]
            exact .inr ⟨hS, rfl, io'⟩
          · rw [if_neg e]
            rcases i2 y hy with q | ⟨q1, q2, q3⟩
            · exact .inl q
            · exact .inr ⟨q1, q2, by omega⟩
        · unfold put
          rw [if_neg nr, Br', e']
        · intro W hWc
          refine ⟨?_, ?_⟩
          · intro w
            have := (hWc r' hr' w).2 r hr
            rw [e'] at this
            exact (i4 W hWc).1 (this c3)
          · intro y hy w
            have e : y ≠ r := fun e => (i4 W hWc).1 (e ▸ w)
            unfold put
            rw [if_neg e]
            exact (i4 W hWc).2 y hy w
        · intro l hl
          rw [oP l hl, e']
        · intro _ rc
          unfold f_X1_changeFollowers_b5 f_X1_changeFollowers_b40
          dsimp only
          rw [if_neg (n24 lj), if_neg (neg_lt (by omega)), chk_nI hr (by decide), chk_nI hr (by decide), ix_nI (by omega), c4, if_neg (fun e => cl ((nI_eq (by omega) (by omega)).mp e)), fx, sbind, chk_nI hr (by decide), nI_1]
    · left
      refine ⟨ab, ⟨B, i1, i2, i3, i4⟩, ?_⟩
      intro _ rc
      unfold f_X1_changeFollowers_b5
      dsimp only
      by_cases h24 : (24 : Int32) ≤ nI j
      · rw [if_pos h24]
      · rw [if_neg h24, if_pos (by decide)]
  · left
    refine ⟨r0, ah, A, rfl, hr0, hS0, ?_, hA, fun x _ => .inl rfl, rfl, ?_, ?_⟩
    · have := (h1 r0 hr0 hS0).2.2.2.2
      omega
    · intro W hWc
      exact ⟨fun w => by have := (hWc r0 hr0 w).1; omega, fun x _ _ => rfl⟩
    · intro l hl
      rw [hf, if_neg (show ¬ 24 = l by omega), Nat.add_zero]
