/-! PURE 40: bits of ints, loops that run by a known course -/
def bt (x : Int32) (k : Nat) : Bool := x.toBitVec.getLsbD k
theorem bt_ext {x y : Int32} (h : ∀ k, k < 32 → bt x k = bt y k) : x = y := by
  apply Int32.toBitVec_inj.mp
  apply BitVec.eq_of_getLsbD_eq
  intro i hi
  exact h i hi
theorem bt_or (x y : Int32) (k : Nat) : bt (x ||| y) k = (bt x k || bt y k) := by
  show (x.toBitVec ||| y.toBitVec).getLsbD k = _
  simp [bt]
theorem bt_and (x y : Int32) (k : Nat) : bt (x &&& y) k = (bt x k && bt y k) := by
  show (x.toBitVec &&& y.toBitVec).getLsbD k = _
  simp [bt]
theorem bt_0 (k : Nat) : bt 0 k = false := by
  show (0#32).getLsbD k = false
  simp
theorem bt_big {x : Int32} {k : Nat} (h : 32 ≤ k) : bt x k = false := BitVec.getLsbD_of_ge _ _ h
theorem nI_and31 {k : Nat} (h : k < 32) : nI k &&& 31 = nI k := by
  have : ∀ k, k < 32 → nI k &&& 31 = nI k := by decide +kernel
  exact this k h
theorem bt_shl1 {k : Nat} (h : k < 32) (j : Nat) : bt (jshl 1 (nI k)) j = decide (j = k) := by
  have : ∀ k, k < 32 → ∀ j, j < 32 → bt (jshl 1 (nI k)) j = decide (j = k) := by decide +kernel
  by_cases hj : j < 32
  · exact this k h j hj
  · rw [bt_big (by omega)]
    have : j ≠ k := by omega
    simp [this]
theorem toBV_shr {x : Int32} {k : Nat} (h : k < 32) : (jshr x (nI k)).toBitVec = x.toBitVec.sshiftRight k := by
  unfold jshr
  rw [nI_and31 h]
  rw [Int32.toBitVec_shiftRight]
  have : ∀ k, k < 32 → ((nI k).toBitVec.smod 32).toNat = k := by decide +kernel
  show x.toBitVec.sshiftRight ((nI k).toBitVec.smod 32).toNat = _
  rw [this k h]
theorem bt_1 (k : Nat) : bt 1 k = decide (k = 0) := by
  have : ∀ k, k < 32 → bt 1 k = decide (k = 0) := by decide +kernel
  by_cases hk : k < 32
  · exact this k hk
  · rw [bt_big (by omega)]
    have : k ≠ 0 := by omega
    simp [this]
theorem and1_eq (x : Int32) : x &&& 1 = if bt x 0 then 1 else 0 := by
  apply bt_ext
  intro k hk
  rw [bt_and, bt_1]
  by_cases e : k = 0
  · subst e
    by_cases hb : bt x 0 = true
    · simp [hb, bt_1]
    · simp [hb, bt_0]
  · by_cases hb : bt x 0 = true
    · simp [e, hb, bt_1]
    · simp [e, hb, bt_0]
theorem shr_and1 {x : Int32} {k : Nat} (h : k < 32) : jshr x (nI k) &&& 1 = if bt x k then 1 else 0 := by
  rw [and1_eq]
  have : bt (jshr x (nI k)) 0 = bt x k := by
    unfold bt
    rw [toBV_shr h, BitVec.getLsbD_sshiftRight]
    simp [h]
  rw [this]
theorem bt_not (x : Int32) {k : Nat} (h : k < 32) : bt (~~~ x) k = !bt x k := by
  show (~~~ x.toBitVec).getLsbD k = _
  simp [bt, h]
theorem holds_eq {x : Int32} {k : Nat} (h : k < 32) : f_X6_holds x (nI k) = if bt x k then 1 else 0 := by
  unfold f_X6_holds
  rw [shr_and1 h]
  by_cases hb : bt x k = true
  · simp [hb]
  · simp [hb]
theorem has_eq {x : Int32} {k : Nat} (h : k < 32) : f_X7_has x (nI k) = if bt x k then 1 else 0 := by
  unfold f_X7_has
  rw [shr_and1 h]
  by_cases hb : bt x k = true
  · simp [hb]
  · simp [hb]
theorem holds0 {x : Int32} {k : Nat} (h : k < 32) : f_X6_holds x (nI k) = 0 ↔ bt x k = false := by
  rw [holds_eq h]
  by_cases hb : bt x k = true
  · simp [hb]
  · simp [hb]
theorem has0 {x : Int32} {k : Nat} (h : k < 32) : f_X7_has x (nI k) = 0 ↔ bt x k = false := by
  rw [has_eq h]
  by_cases hb : bt x k = true
  · simp [hb]
  · simp [hb]
theorem ix_nI {n : Nat} (h : n < 2 ^ 31) : ix (nI n) = n := nI_clamp h
theorem inb_nI {n N : Nat} (h : n < N) (hN : N ≤ 2 ^ 31) : inb (nI n) N = true := by
  unfold inb
  rw [nI_clamp (by omega)]
  have h0 : ¬ nI n < 0 := by
    rw [Int32.lt_iff_toInt_lt, nI_toInt (by omega)]
    have : (0 : Int32).toInt = 0 := rfl
    rw [this]; omega
  simp [h0, h]
theorem chk_nI {ρ : Type} {n N : Nat} (h : n < N) (hN : N ≤ 2 ^ 31) (x : Option ρ) : chk (inb (nI n) N) x = x := by
  rw [inb_nI h hN]; rfl
/-- a loop whose course is known -/
theorem loop_run {V ρ : Type} {body : (V → Option ρ) → V → Option ρ} (g : Nat → V) {res : Option ρ} : ∀ (m n : Nat), m < n → (∀ j, j < m → ∀ rc, body rc (g j) = rc (g (j + 1))) → (∀ rc, body rc (g m) = res) → loopN body n (g 0) = res := by
  intro m
  induction m generalizing g with
  | zero =>
    intro n hn _ he
    obtain ⟨n, rfl⟩ : ∃ k, n = k + 1 := ⟨n - 1, by omega⟩
    exact he _
  | succ m ih =>
    intro n hn hs he
    obtain ⟨n, rfl⟩ : ∃ k, n = k + 1 := ⟨n - 1, by omega⟩
    rw [loopN_succ, hs 0 (by omega)]
    exact ih (fun j => g (j + 1)) n (by omega) (fun j hj rc => hs (j + 1) (by omega) rc) he
def itr {α : Type} (f : Nat → α → α) (a : α) : Nat → α
  | 0 => a
  | j + 1 => f j (itr f a j)
/-- the set of those k < n for which P -/
def bset (P : Nat → Bool) (n : Nat) : Int32 := itr (fun j x => if P j then x ||| jshl 1 (nI j) else x) 0 n
theorem bt_bset (P : Nat → Bool) {n : Nat} (hn : n ≤ 32) (k : Nat) : bt (bset P n) k = (decide (k < n) && P k) := by
  induction n with
  | zero => simp [bset, itr, bt_0]
  | succ n ih =>
    have ih := ih (by omega)
    show bt (if P n then bset P n ||| jshl 1 (nI n) else bset P n) k = _
    by_cases hP : P n = true
    · rw [if_pos hP, bt_or, ih, bt_shl1 (by omega)]
      by_cases e : k = n
      · subst e; simp [hP]
      · by_cases h2 : k < n
        · have : k < n + 1 := by omega
          simp [h2, this, e]
        · have : ¬ k < n + 1 := by omega
          simp [h2, this, e]
    · rw [if_neg hP, ih]
      by_cases e : k = n
      · subst e; simp [hP]
      · by_cases h2 : k < n
        · have : k < n + 1 := by omega
          simp [h2, this]
        · have : ¬ k < n + 1 := by omega
          simp [h2, this]
theorem le24 {n : Nat} (h : n < 2 ^ 31) : (24 ≤ nI n) ↔ 24 ≤ n := nI_leI (a := 24) (by decide) h
theorem c_broaderOf (nar : Nat → Int32) {t : Nat} (ht : t < 32) : f_X2_broaderOf nar (nI t) = some (bset (fun s => bt (nar s) t) 24) := by
  unfold f_X2_broaderOf f_X2_broaderOf_l4
  refine loop_run (fun j => (bset (fun s => bt (nar s) t) j, nI j)) 24 200 (by decide) ?_ ?_
  · intro j hj rc
    show f_X2_broaderOf_b4 _ _ _ _ _ = _
    unfold f_X2_broaderOf_b4
    rw [if_neg (by rw [le24 (by omega)]; omega), chk_nI (by omega) (by decide), ix_nI (by omega), nI_1]
    by_cases hb : bt (nar j) t = true
    · rw [if_neg (by rw [holds0 ht]; simp [hb])]
      simp [bset, itr, hb]
    · rw [if_pos (by rw [holds0 ht]; simp [hb])]
      simp [bset, itr, hb]
  · intro rc
    show f_X2_broaderOf_b4 _ _ _ _ _ = _
    unfold f_X2_broaderOf_b4
    rw [if_pos (by rw [le24 (by omega)]; omega)]
