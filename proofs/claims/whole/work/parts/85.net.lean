/-! PURE 85: many links -/
def nl (a : AN) : Nat := nsum (fun t => if aAl a t then cnt (aNr a t) 24 else 0) 24
theorem nl_nI (a : AN) : isum (aAl a) (fun t => nI (npc (tn (bset (aNr a t) 24)))) 24 = nI (nl a) := by
  have h : ∀ n, isum (aAl a) (fun t => nI (npc (tn (bset (aNr a t) 24)))) n = nI (nsum (fun t => if aAl a t then cnt (aNr a t) 24 else 0) n) := by
    intro n
    induction n with
    | zero => rfl
    | succ n ih =>
      rw [isum_s, nsum_s, ih, (npc_bset (aNr a n) 24 (by omega)).2]
      by_cases h : aAl a n = true
      · rw [if_pos h, if_pos h, nI_add]
      · rw [if_neg h, if_neg h, Nat.add_zero]
  exact h 24
theorem nl_le (a : AN) : nl a ≤ 576 := by
  unfold nl
  have h : ∀ n, nsum (fun t => if aAl a t then cnt (aNr a t) 24 else 0) n ≤ 24 * n := by
    intro n
    induction n with
    | zero => exact Nat.le_refl _
    | succ n ih =>
      rw [nsum_s]
      have := cnt_le (aNr a n) 24
      by_cases h : aAl a n = true
      · rw [if_pos h]; omega
      · rw [if_neg h]; omega
  exact h 24
theorem nl_come {a : AN} {x y : Nat} (hx : aAl a x = true) (lx : x < 24) (ly : y < 24) (hl : aNr a x y = false) : nl (cmS a x y) = nl a + 1 := by
  have e1 : aAl (cmS a x y) = aAl a := rfl
  have e2 : aNr (cmS a x y) = nrOn a x y := rfl
  unfold nl
  rw [e1, e2]
  refine nsum_upd (t := x) lx ?_ ?_
  · rw [if_pos hx, if_pos hx]
    refine cnt_add ly hl ?_ ?_
    · unfold nrOn
      rw [decide_eq_true rfl, decide_eq_true rfl]
      exact Bool.or_true _
    · intro k _ hk
      unfold nrOn
      rw [decide_eq_false hk, Bool.and_false, Bool.or_false]
  · intro k _ hk
    have : nrOn a x y k = aNr a k := by
      funext i
      unfold nrOn
      rw [decide_eq_false hk, Bool.false_and, Bool.or_false]
    rw [this]
theorem c_lcnt {n : ND} {a : AN} (h : CN n a) (hw : WA a) : f_X2_linkCount n.1 n.2.2.2.2.2.2.1 = some (nI (nl a)) := by
  rw [h.2.2.2.2.2.1, c_linkCount h hw, nl_nI]
theorem w100 : ∀ u, u < 24 → ∀ v, v < 24 → nI (100 * u + v) / 100 = nI u ∧ jrem (nI (100 * u + v)) 100 = nI v := by decide +kernel
/-- one link of many -/
theorem lop {n : ND} {a : AN} {mem : Nat → Int32} (hC : CN n a) (hM : MN mem 0 a) (hW : WA a) {u v : Nat} (hu : u < 24) (hv : v < 24) (lay : Nat → Int32) (len : Int32) (rn : Nat → Int64) (rs : Int32) (pls mvs : Nat → Int32) : ∃ g lay' len' rn' rs' nr ord mov r m1 pls' mvs' a' f, f_X0_linkOrPass lay len rn rs n.1 n.2.1 n.2.2.2.2.2.1 n.2.2.2.2.2.2.1 n.2.2.2.2.2.2.2.1 (nI (100 * u + v)) = some (g, lay', len', rn', rs', nr, ord, mov) ∧ f_X7_linksOne mem pls mvs (nI u) (nI v) = some (r, m1, pls', mvs') ∧ out mem m1 ∧ CN (nr, ord, n.2.2.1, n.2.2.2.1, n.2.2.2.2.1, mov, n.2.2.2.2.2.2) a' ∧ MN m1 0 a' ∧ WA a' ∧ nl a' = nl a + f ∧ f ≤ 1 ∧ ((g = 0 ∧ r < 0 ∧ ¬ 0 ≤ r ∧ r ≠ -2 ∧ f = 0) ∨ (g = 1 ∧ r = -2 ∧ f = 0) ∨ (g = 1 ∧ 0 ≤ r ∧ ¬ r < 0 ∧ f = 1)) := by
  have hw := w100 u hu v hv
  unfold f_X0_linkOrPass
  rw [hw.1, hw.2]
  by_cases hx : two a (nI u) (nI v)
  · obtain ⟨s, t, e1, e2, hs, ht, hne⟩ := hx
    have ls := W_lt hW hs
    have lt := W_lt hW ht
    obtain ⟨r, lay', len', rn', rs', nr, ord, mov, m1, pls', mvs', a', q1, q2, ho, q4, q5, q6, hk, _⟩ := link_q (q := 0) hC (hM : MN _ (0 * 179) a) (by omega) hW hs ht hne lay len rn rs pls mvs
    rw [e1, e2, q1, sbind, m_lin1 hM hW hs ht hne q2]
    dsimp only
    rcases hk with ⟨hk | hk, ea⟩ | ⟨k, lk, hk, ea, hl, _⟩
    · rw [if_neg (show ¬ 0 ≤ r by rw [hk]; decide), if_pos hk]
      exact ⟨_, _, _, _, _, _, _, _, r, m1, pls', mvs', a', 0, rfl, rfl, outq_0 ho, q4, q5, q6, by rw [ea]; rfl, by omega, .inr (.inl ⟨rfl, hk, rfl⟩)⟩
    · rw [if_neg (show ¬ 0 ≤ r by rw [hk]; decide), if_neg (show ¬ r = -2 by rw [hk]; decide)]
      exact ⟨_, _, _, _, _, _, _, _, r, m1, pls', mvs', a', 0, rfl, rfl, outq_0 ho, q4, q5, q6, by rw [ea]; rfl, by omega, .inl ⟨rfl, by rw [hk]; decide, by rw [hk]; decide, by rw [hk]; decide, rfl⟩⟩
    · have h1 : ¬ r < 0 := by rw [hk]; exact neg_lt (by omega)
      rw [if_pos (i_nlt.mp h1)]
      exact ⟨_, _, _, _, _, _, _, _, r, m1, pls', mvs', a', 1, rfl, rfl, outq_0 ho, q4, q5, q6, by rw [ea]; exact nl_come hs ls lt hl, by omega, .inr (.inr ⟨rfl, i_nlt.mp h1, h1, rfl⟩)⟩
  · rw [c_lin0 hC hx, sbind, m_lin0 hM hx]
    dsimp only
    rw [if_neg (show ¬ (0 : Int32) ≤ -1 by decide), if_neg (show ¬ (-1 : Int32) = -2 by decide)]
    exact ⟨_, _, _, _, _, _, _, _, -1, mem, pls, mvs, a, 0, rfl, rfl, out_refl _, hC, hM, hW, rfl, by omega, .inl ⟨rfl, by decide, by decide, by decide, rfl⟩⟩
/-- two loops, the second of which may need one step more -/
theorem loop_twe {V W ρ σ : Type} {bV : (V → Option ρ) → V → Option ρ} {bW : (W → Option σ) → W → Option σ} (Q : Option ρ → Option σ → Prop) : ∀ (m n n' : Nat) (R : Nat → V → W → Prop), m < n → m + 1 < n' → (∀ j v w, j ≤ m → R j v w → (∀ rv rw, Q (bV rv v) (bW rw w)) ∨ (∃ w', (∀ rw, bW rw w = rw w') ∧ ∀ rv rw, Q (bV rv v) (bW rw w')) ∨ (j < m ∧ ∃ v' w', R (j + 1) v' w' ∧ (∀ rv, bV rv v = rv v') ∧ (∀ rw, bW rw w = rw w'))) → ∀ v w, R 0 v w → Q (loopN bV n v) (loopN bW n' w) := by
  intro m
  induction m with
  | zero =>
    intro n n' R hn hn' hs v w h0
    obtain ⟨n, rfl⟩ : ∃ k, n = k + 1 := ⟨n - 1, by omega⟩
    obtain ⟨n', rfl⟩ : ∃ k, n' = k + 2 := ⟨n' - 2, by omega⟩
    rcases hs 0 v w (Nat.le_refl _) h0 with h | ⟨w', h1, h2⟩ | ⟨z, _⟩
    · exact h _ _
    · rw [loopN_succ (n := n' + 1), h1]
      exact h2 _ _
    · exact absurd z (Nat.not_lt_zero _)
  | succ m ih =>
    intro n n' R hn hn' hs v w h0
    obtain ⟨n, rfl⟩ : ∃ k, n = k + 1 := ⟨n - 1, by omega⟩
    obtain ⟨n', rfl⟩ : ∃ k, n' = k + 2 := ⟨n' - 2, by omega⟩
    rcases hs 0 v w (by omega) h0 with h | ⟨w', h1, h2⟩ | ⟨_, v', w', h1, h2, h3⟩
    · exact h _ _
    · rw [loopN_succ (n := n' + 1), h1]
      exact h2 _ _
    · rw [loopN_succ, h2, loopN_succ (n := n' + 1), h3]
      exact ih n (n' + 1) (fun j => R (j + 1)) (by omega) (by omega) (fun j v w hj => by
        intro hr
        rcases hs (j + 1) v w (by omega) hr with h | h | ⟨h, h'⟩
        · exact .inl h
        · exact .inr (.inl h)
        · exact .inr (.inr ⟨by omega, h'⟩)) v' w' h1
