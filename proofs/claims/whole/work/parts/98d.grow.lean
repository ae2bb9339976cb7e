/-! PURE 98d: one follower more is seen -/
theorem OI_add {a : AN} {A : Nat → Nat} {l : Nat} {S : Nat → Bool} {k : Nat} {Q c : Nat → Nat} {cf q : Nat → Int32} {i : Nat} (h : OI a A l S k Q c cf q (i + 1) i) (al : ∀ r, r < 24 → A r < 24 → aAl a (A r) = true) (uq : ∀ x y, x < 24 → y < 24 → A x < 24 → A x = A y → x = y) (ol : ∀ r, r < 24 → A r ≠ l) (hi : i < k) {r : Nat} (hr : r < 24) (nS : S r = false) (hA : A r < 24) (hE : Ed a (Q i) r) : OI a A l (fun x => S x || decide (x = r)) (k + 1) (put Q k (A r)) (put c r (Q i)) (upd cf r (nI (Q i))) (upd q k (nI (A r))) (i + 1) i := by
  obtain ⟨h1, h2, h3, h4, h5, h6, h7⟩ := h
  have pO : ∀ m, m < k → put Q k (A r) m = Q m := fun m hm => if_neg (by omega)
  have pN : put Q k (A r) k = A r := if_pos rfl
  have new : ∀ m, m < k → Q m ≠ A r := by
    intro m hm e
    by_cases m0 : m = 0
    · rw [m0, h2] at e
      exact ol r hr e.symm
    · obtain ⟨x, hx, sx, ex⟩ := h7 m (by omega) hm
      have := uq r x hr hx hA (by rw [ex, e])
      rw [← this, nS] at sx
      exact absurd sx (by decide)
  refine ⟨?_, ?_, ?_, ?_, ?_, ?_, ?_⟩
  · rw [cnt_add (P := S) (Q := fun x => S x || decide (x = r)) hr nS (by rw [decide_eq_true rfl, Bool.or_true]) (fun x _ e => by rw [decide_eq_false e, Bool.or_false])]
    omega
  · rw [pO 0 (by omega), h2]
  · intro m hm
    by_cases e : m = k
    · rw [e, pN, updN]
      exact ⟨al r hr hA, rfl⟩
    · rw [pO m (by omega), updO e]
      exact h3 m (by omega)
  · intro m m' hm hm' e
    by_cases e1 : m = k
    · by_cases e2 : m' = k
      · omega
      · rw [e1, pN, pO m' (by omega)] at e
        exact absurd e.symm (new m' (by omega))
    · by_cases e2 : m' = k
      · rw [e2, pN, pO m (by omega)] at e
        exact absurd e (new m (by omega))
      · rw [pO m (by omega), pO m' (by omega)] at e
        exact h4 m m' (by omega) (by omega) e
  · intro x hx w
    by_cases e : x = r
    · rw [e, updN, show put c r (Q i) r = Q i from if_pos rfl]
      exact ⟨rfl, hE, i, k, by omega, (pO i hi).symm, pN.symm, hi, by omega⟩
    · have w' : S x = true := by
        have w2 : (S x || decide (x = r)) = true := w
        rw [decide_eq_false e, Bool.or_false] at w2
        exact w2
      rw [updO e, show put c r (Q i) x = c x from if_neg e]
      obtain ⟨g1, g2, m, m', g3, g4, g5, g6, g7⟩ := h5 x hx w'
      exact ⟨g1, g2, m, m', g3, by rw [pO m (by omega)]; exact g4, by rw [pO m' (by omega)]; exact g5, g6, by omega⟩
  · intro m hm x hx e
    rw [pO m (by omega)] at e
    show (S x || decide (x = r)) = true
    rw [h6 m hm x hx e, Bool.true_or]
  · intro m m1 hm
    by_cases e : m = k
    · exact ⟨r, hr, by show (S r || decide (r = r)) = true; rw [decide_eq_true rfl, Bool.or_true], by rw [e, pN]⟩
    · obtain ⟨x, hx, sx, ex⟩ := h7 m m1 (by omega)
      exact ⟨x, hx, by show (S x || decide (x = r)) = true; rw [sx, Bool.true_or], by rw [pO m (by omega)]; exact ex⟩
