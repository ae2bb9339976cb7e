/-! PURE 98c: a search in breadth -/
def OI (a : AN) (A : Nat → Nat) (l : Nat) (S : Nat → Bool) (k : Nat) (Q c : Nat → Nat) (cf q : Nat → Int32) (i4 i5 : Nat) : Prop := k = 1 + cnt S 24 ∧ Q 0 = l ∧ (∀ m, m < k → aAl a (Q m) = true ∧ q m = nI (Q m)) ∧ (∀ m m', m < k → m' < k → Q m = Q m' → m = m') ∧ (∀ r, r < 24 → S r = true → cf r = nI (c r) ∧ Ed a (c r) r ∧ ∃ m m', m < i4 ∧ c r = Q m ∧ A r = Q m' ∧ m < m' ∧ m' < k) ∧ (∀ m, m < i5 → ∀ r, r < 24 → Ed a (Q m) r → S r = true) ∧ (∀ m, 1 ≤ m → m < k → ∃ r, r < 24 ∧ S r = true ∧ A r = Q m)
theorem OI_k {a : AN} {A : Nat → Nat} {l : Nat} {S : Nat → Bool} {k : Nat} {Q c : Nat → Nat} {cf q : Nat → Int32} {i4 i5 : Nat} (hW : WA a) (h : OI a A l S k Q c cf q i4 i5) (one : ∀ l, l < 24 → occ A l ≤ 1) (hl : l < 24) (ol : occ A l = 0) {r : Nat} (hr : r < 24) (nS : S r = false) (hA : A r < 24) : k ≤ 23 := by
  have e1 : cnt (fun x => S x || decide (x = r)) 24 = cnt S 24 + 1 := cnt_add hr nS (by rw [decide_eq_true rfl, Bool.or_true]) (fun x _ e => by rw [decide_eq_false e, Bool.or_false])
  have e2 : cnt (fun x => S x || decide (x = r)) 24 ≤ cnt (rt A (fun x => (S x || decide (x = r)) = true)) 24 := cnt_sub (fun x hx w => by
    refine pb_iff.mpr ⟨?_, w⟩
    rcases Bool.or_eq_true _ _ |>.mp w with w | w
    · obtain ⟨_, _, m, m', _, _, e, _, hm⟩ := h.2.2.2.2.1 x hx w
      rw [e]
      exact W_lt hW (h.2.2.1 m' hm).1
    · rw [of_decide_eq_true w]; exact hA)
  rw [rl one] at e2
  have e3 : cnt (lf A (fun x => (S x || decide (x = r)) = true)) 24 < cnt (fun _ => true) 24 := cnt_ssub (t := l) (fun _ _ _ => rfl) hl (fun w => by
    obtain ⟨x, hx, e, _⟩ := pb_iff.mp w
    have := occ_pos.mpr ⟨x, hx, e⟩
    omega) rfl
  have e4 : cnt (fun _ => true) 24 = 24 := by decide
  have := h.1
  omega
