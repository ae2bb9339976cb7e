/-! PURE 98e: a free follower is seen -/
theorem OI_free {a : AN} {ah : Nat → Int32} {A : Nat → Nat} {l : Nat} {S : Nat → Bool} {k : Nat} {Q c : Nat → Nat} {cf q : Nat → Int32} {i : Nat} (hW : WA a) (hA : MtA ah A) (h : OI a A l S k Q c cf q (i + 1) i) (one : ∀ l, l < 24 → occ A l ≤ 1) (hl : l < 24) (hk : k ≤ 24) (hi : i < k) {r : Nat} (hr : r < 24) (nS : S r = false) (hf : A r = 24) (hE : Ed a (Q i) r) : ∃ ah' A', f_X1_changeFollowers ah (upd cf r (nI (Q i))) (nI l) (nI r) = some ah' ∧ MtA ah' A' ∧ (∀ W, Cl a A W → ∀ r, r < 24 → W r → A' r = A r) ∧ (∀ r, r < 24 → A' r = A r ∨ (A' r < 24 ∧ aAl a (A' r) = true ∧ Ed a (A' r) r)) ∧ (∀ x, x < 24 → occ A' x = occ A x + (if l = x then 1 else 0)) := by
  obtain ⟨h1, h2, h3, h4, h5, h6, h7⟩ := h
  have hio : ∃ io : Nat → Nat, ∀ m, m < k → io (Q m) = m := by
    have hx : ∀ x, ∃ m, ∀ m', m' < k → Q m' = x → m = m' := by
      intro x
      by_cases e : ∃ m, m < k ∧ Q m = x
      · obtain ⟨m, hm, e⟩ := e
        exact ⟨m, fun m' hm' e' => h4 m m' hm hm' (by rw [e, e'])⟩
      · exact ⟨0, fun m' hm' e' => absurd ⟨m', hm', e'⟩ e⟩
    exact ⟨fun x => Classical.choose (hx x), fun m hm => Classical.choose_spec (hx (Q m)) m hm rfl⟩
  obtain ⟨io, hio⟩ := hio
  have cO : ∀ x, x ≠ r → put c r (Q i) x = c x := fun x e => if_neg e
  have cN : put c r (Q i) r = Q i := if_pos rfl
  refine c_change (c := put c r (Q i)) (S := fun x => S x = true ∨ x = r) (io := io) hA ?_ ?_ one hl hr (.inr rfl) hf
  · intro x hx w
    by_cases e : x = r
    · rw [e, cN, updN, hio i hi]
      have al := (h3 i hi).1
      exact ⟨W_lt hW al, al, hE, rfl, by omega⟩
    · obtain ⟨g1, g2, m, m', g3, g4, g5, g6, g7⟩ := h5 x hx (w.resolve_right e)
      have al := (h3 m (by omega)).1
      rw [cO x e, updO e, g4, hio m (by omega)]
      rw [g4] at g1 g2
      exact ⟨W_lt hW al, al, g2, g1, by omega⟩
  · intro x hx w ne
    have hm : ∃ m, m < k ∧ put c r (Q i) x = Q m := by
      by_cases e : x = r
      · rw [e, cN]
        exact ⟨i, hi, rfl⟩
      · obtain ⟨g1, g2, m, m', g3, g4, g5, g6, g7⟩ := h5 x hx (w.resolve_right e)
        exact ⟨m, by omega, by rw [cO x e]; exact g4⟩
    obtain ⟨m, hm, em⟩ := hm
    have m1 : 1 ≤ m := by
      refine Classical.byContradiction fun z => ne ?_
      rw [em, show m = 0 by omega, h2]
    obtain ⟨y, hy, sy, ey⟩ := h7 m m1 hm
    have yr : y ≠ r := fun e => by rw [e, nS] at sy; exact absurd sy (by decide)
    obtain ⟨g1, g2, m0, m', g3, g4, g5, g6, g7⟩ := h5 y hy sy
    have mm := h4 m m' hm g7 (by rw [← ey, g5])
    refine ⟨y, hy, .inl sy, by rw [em]; exact ey, ?_⟩
    rw [cO y yr, em, g4, hio m0 (by omega), hio m hm]
    omega
