/-! PURE 96: chains, in the reference -/
def gm (P : Nat → Bool) (v : Nat → Nat) : Nat → Nat
  | 0 => 0
  | j + 1 => if P j = true ∧ gm P v j < v j then v j else gm P v j
theorem gm_ge (P : Nat → Bool) (v : Nat → Nat) : ∀ n k, k < n → P k = true → v k ≤ gm P v n := by
  intro n
  induction n with
  | zero => intro k hk; exact absurd hk (Nat.not_lt_zero _)
  | succ n ih =>
    intro k hk hp
    show v k ≤ if P n = true ∧ gm P v n < v n then v n else gm P v n
    by_cases e : k = n
    · subst e
      by_cases c : P k = true ∧ gm P v k < v k
      · rw [if_pos c]; exact Nat.le_refl _
      · rw [if_neg c]
        exact Classical.byContradiction fun w => c ⟨hp, by omega⟩
    · have := ih k (by omega) hp
      by_cases c : P n = true ∧ gm P v n < v n
      · rw [if_pos c]; omega
      · rw [if_neg c]; exact this
theorem gm_ex (P : Nat → Bool) (v : Nat → Nat) : ∀ n, gm P v n = 0 ∨ ∃ k, k < n ∧ P k = true ∧ gm P v n = v k := by
  intro n
  induction n with
  | zero => exact .inl rfl
  | succ n ih =>
    show (if P n = true ∧ gm P v n < v n then v n else gm P v n) = 0 ∨ ∃ k, k < n + 1 ∧ P k = true ∧ (if P n = true ∧ gm P v n < v n then v n else gm P v n) = v k
    by_cases c : P n = true ∧ gm P v n < v n
    · rw [if_pos c]
      exact .inr ⟨n, by omega, c.1, rfl⟩
    · rw [if_neg c]
      rcases ih with h | ⟨k, h1, h2, h3⟩
      · exact .inl h
      · exact .inr ⟨k, by omega, h2, h3⟩
theorem gm_le (P : Nat → Bool) (v : Nat → Nat) {b : Nat} (h : ∀ k, P k = true → v k ≤ b) (n : Nat) : gm P v n ≤ b := by
  rcases gm_ex P v n with e | ⟨k, _, h2, h3⟩
  · omega
  · rw [h3]; exact h k h2
def upto (a : AN) (j : Nat) : Nat → Bool := fun k => decide (k < j) && aAl a k
theorem upto_s {a : AN} {j : Nat} (h : aAl a j = true) : upto a (j + 1) = Pp (upto a j) j := by
  funext k
  unfold upto Pp
  by_cases e : k = j
  · rw [e, h, decide_eq_true (show j < j + 1 by omega), decide_eq_true rfl, Bool.or_true]
    rfl
  · rw [decide_eq_false e, Bool.or_false]
    dsimp only
    by_cases l : k < j
    · rw [decide_eq_true l, decide_eq_true (show k < j + 1 by omega)]
    · rw [decide_eq_false l, decide_eq_false (show ¬ k < j + 1 by omega)]
theorem upto_n {a : AN} {j : Nat} (h : aAl a j = false) : upto a (j + 1) = upto a j := by
  funext k
  unfold upto
  by_cases e : k = j
  · rw [e, h, Bool.and_false, Bool.and_false]
  · by_cases l : k < j
    · rw [decide_eq_true l, decide_eq_true (show k < j + 1 by omega)]
    · rw [decide_eq_false l, decide_eq_false (show ¬ k < j + 1 by omega)]
theorem b24_0 : bset (fun _ => false) 24 = 0 := by decide
theorem m_chains {mem : Nat → Int32} {a : AN} (hM : MN mem 0 a) (hW : WA a) (th told : Int32) (row : Nat → Int64) (ah : Nat → Int32) (tried : Int32) : ∃ f A W ah' tr', f_X7_chains th told row mem ah tried = some (nI f, 0, nI 1, vp_updL row 0 (nI (gm (aAl a) (fun t => mx (aNr a) t + 1) 24)).toInt64, ah', tr') ∧ f + dm A = cnt (aAl a) 24 ∧ GI a (upto a 24) A W := by
  have hB : ∀ n x y, Wk (aNr a) n x y → n ≤ 23 := fun n x y h => Wk_23 hW h
  have g24 : ∀ j, gm (aAl a) (fun t => mx (aNr a) t + 1) j ≤ 24 := fun j => gm_le _ _ (fun k _ => by have := mx_23 hB k; omega) j
  -- the row laid free
  obtain ⟨fr, dfr⟩ : ∃ fr : Nat → Nat → Int32, fr = fun j => itr (fun k f => upd f k (-1)) ah j := ⟨_, rfl⟩
  have fr0 : fr 0 = ah := by rw [dfr]; rfl
  have frs : ∀ j, fr (j + 1) = upd (fr j) j (-1) := by intro j; rw [dfr]; rfl
  have frA : ∀ j k, k < j → fr j k = -1 := by
    intro j
    induction j with
    | zero => intro k hk; exact absurd hk (Nat.not_lt_zero _)
    | succ j ih =>
      intro k hk
      rw [frs]
      by_cases e : k = j
      · rw [e, updN]
      · rw [updO e]; exact ih k (by omega)
  have s1 : f_X7_chains th told row mem ah tried = f_X7_chains_l32 told row mem 0 0 0 0 (fr 24) tried := by
    unfold f_X7_chains f_X7_chains_l7
    refine loop_go (fun j => (nI j, 0, fr j)) 24 200 (by decide) (by rw [fr0]; rfl) ?_ ?_
    · intro j hj rc
      show f_X7_chains_b7 _ _ _ _ _ _ _ _ = _
      unfold f_X7_chains_b7
      dsimp only
      rw [if_neg (n24 hj), chk_nI hj (by decide), ix_nI (by omega), nI_1, frs]
    · intro rc
      show f_X7_chains_b7 _ _ _ _ _ _ _ _ = _
      unfold f_X7_chains_b7
      dsimp only
      rw [if_pos y24]
  rw [s1]
  unfold f_X7_chains_l32
  have key := loop_rel (body := fun (_ : Unit) rc (v : Int32 × Int32 × Int32 × Int32 × (Nat → Int32) × Int32) => f_X7_chains_b32 told row mem (fun x0_ x1_ x2_ x3_ x4_ x5_ => rc (x0_, x1_, x2_, x3_, x4_, x5_)) v.1 v.2.1 v.2.2.1 v.2.2.2.1 v.2.2.2.2.1 v.2.2.2.2.2) (fun _ (r : Int32 × Int32 × Int32 × (Nat → Int64) × (Nat → Int32) × Int32) => some r) (fun rv => ∃ f A W ah' tr', rv = (nI f, 0, nI 1, vp_updL row 0 (nI (gm (aAl a) (fun t => mx (aNr a) t + 1) 24)).toInt64, ah', tr') ∧ f + dm A = cnt (aAl a) 24 ∧ GI a (upto a 24) A W) 24 200 (fun j v => ∃ f A W ah' tr', v = (nI f, nI (gm (aAl a) (fun t => mx (aNr a) t + 1) j), nI j, 0, ah', tr') ∧ f + dm A = cnt (aAl a) j ∧ MtA ah' A ∧ GI a (upto a j) A W) (by decide) ?_ (0, 0, 0, 0, fr 24, tried) ?_
  · obtain ⟨rv, ⟨f, A, W, ah', tr', h1, h2, h3⟩, h4⟩ := key
    exact ⟨f, A, W, ah', tr', by rw [← h1]; exact h4 (), h2, h3⟩
  · rintro j _ hj ⟨f, A, W, ah', tr', rfl, q1, q2, q3⟩
    by_cases e24 : j = 24
    · left
      subst e24
      refine ⟨_, ⟨f, A, W, ah', tr', rfl, q1, q3⟩, ?_⟩
      intro _ rc
      unfold f_X7_chains_b32
      dsimp only
      rw [if_pos y24, m_tell, sbind]
    · have lj : j < 24 := by omega
      right
      refine ⟨lj, ?_⟩
      by_cases hal : aAl a j = true
      · have cs : cnt (aAl a) (j + 1) = cnt (aAl a) j + 1 := by rw [cnt_s, if_pos hal]
        have pj : upto a j j = false := by unfold upto; rw [decide_eq_false (Nat.lt_irrefl j), Bool.false_and]
        have gs : gm (aAl a) (fun t => mx (aNr a) t + 1) (j + 1) = if gm (aAl a) (fun t => mx (aNr a) t + 1) j < mx (aNr a) j + 1 then mx (aNr a) j + 1 else gm (aAl a) (fun t => mx (aNr a) t + 1) j := by
          show (if aAl a j = true ∧ gm (aAl a) (fun t => mx (aNr a) t + 1) j < mx (aNr a) j + 1 then mx (aNr a) j + 1 else gm (aAl a) (fun t => mx (aNr a) t + 1) j) = _
          by_cases c : gm (aAl a) (fun t => mx (aNr a) t + 1) j < mx (aNr a) j + 1
          · rw [if_pos ⟨hal, c⟩, if_pos c]
          · rw [if_neg (fun w => c w.2), if_neg c]
        have gj := g24 j
        have mj := mx_23 hB j
        have tail : ∀ k32 (s0 s1' : Int32) ahx trx, f_X7_chains_b68 told row mem k32 (nI (gm (aAl a) (fun t => mx (aNr a) t + 1) j)) (nI j) s0 s1' 0 ahx trx = k32 (s0 + s1') (nI (gm (aAl a) (fun t => mx (aNr a) t + 1) (j + 1))) (nI (j + 1)) 0 ahx trx := by
          intro k32 s0 s1' ahx trx
          unfold f_X7_chains_b68
          rw [m_deepD hM hW lj, sbind, sbind, nI_1, nI_1, gs]
          by_cases c : gm (aAl a) (fun t => mx (aNr a) t + 1) j < mx (aNr a) j + 1
          · rw [if_neg (nle c (by omega)), if_pos c]
          · rw [if_pos (by rw [nI_leI (by omega) (by omega)]; omega), if_neg c]
        have al' : ∀ r, r < 24 → A r < 24 → aAl a (A r) = true := fun r hr h => (q3.1 r hr h).1
        rcases m_finds hM hW 30 ah' A (fun _ => false) j q2 hal al' (by omega) with ⟨T', f1, f2, f3, f4⟩ | ⟨ah2, A2, T', f1, f2, f3, f4, f5, f6⟩
        · rw [b24_0] at f1
          have hc : Cl a A (fun r => T' r = true) := fun r hr h => (f4 r hr h).resolve_left Bool.false_ne_true
          refine ⟨_, ⟨f + 1, A, fun r => W r ∨ T' r = true, ah', bset T' 24, rfl, by omega, q2, by rw [upto_s hal]; exact GI_n q3 hc f3⟩, ?_⟩
          intro _ rc
          unfold f_X7_chains_b32
          dsimp only
          rw [if_neg (n24 lj), m_isTerm1 hM lj hal, sbind, if_neg one0, f1, sbind]
          dsimp only
          rw [if_pos rfl, tail, nI_1]
        · rw [b24_0] at f1
          have g := GI_y q3 lj pj (f4 W q3.2.2.2.1).1 f5 f6
          refine ⟨_, ⟨f, A2, W, ah2, bset T' 24, rfl, by rw [g.2]; omega, f2, by rw [upto_s hal]; exact g.1⟩, ?_⟩
          intro _ rc
          unfold f_X7_chains_b32
          dsimp only
          rw [if_neg (n24 lj), m_isTerm1 hM lj hal, sbind, if_neg one0, f1, sbind]
          dsimp only
          rw [if_neg one0, tail, Int32.add_zero]
      · have hal : aAl a j = false := Bool.eq_false_iff.mpr hal
        have nt : ¬ isT a (nI j) := by
          rintro ⟨t, e, lt, ht⟩
          have := (nI_eq (by omega) (by omega)).mp e
          rw [← this, hal] at ht
          exact absurd ht (by decide)
        have cs : cnt (aAl a) (j + 1) = cnt (aAl a) j := by rw [cnt_s, if_neg (by rw [hal]; decide)]
        have gs : gm (aAl a) (fun t => mx (aNr a) t + 1) (j + 1) = gm (aAl a) (fun t => mx (aNr a) t + 1) j := by
          show (if aAl a j = true ∧ _ then _ else _) = _
          rw [if_neg (fun w => by rw [hal] at w; exact absurd w.1 (by decide))]
        refine ⟨_, ⟨f, A, W, ah', tr', rfl, by omega, q2, by rw [upto_n hal]; exact q3⟩, ?_⟩
        intro _ rc
        unfold f_X7_chains_b32
        dsimp only
        rw [if_neg (n24 lj), m_isTerm0 hM nt, sbind, if_pos rfl, gs, nI_1]
  · have g0 := GI_0 a
    refine ⟨0, fun _ => 24, fun _ => False, fr 24, tried, rfl, ?_, fun r hr => .inr ⟨rfl, frA 24 r hr⟩, ?_⟩
    · rw [g0.2]
      rfl
    · rw [show upto a 0 = fun _ => false from funext fun k => by unfold upto; rw [decide_eq_false (Nat.not_lt_zero k), Bool.false_and]]
      exact g0.1
