/-! PURE 59: how many are in a set; items as longs and as halves -/
def cnt (P : Nat → Bool) : Nat → Nat
  | 0 => 0
  | n + 1 => if P n then cnt P n + 1 else cnt P n
theorem cnt_s (P : Nat → Bool) (n : Nat) : cnt P (n + 1) = if P n then cnt P n + 1 else cnt P n := rfl
theorem cnt_congr {P Q : Nat → Bool} : ∀ n, (∀ k, k < n → P k = Q k) → cnt P n = cnt Q n := by
  intro n
  induction n with
  | zero => intro _; rfl
  | succ n ih =>
    intro h
    rw [cnt_s, cnt_s, ih (fun k hk => h k (by omega)), h n (by omega)]
theorem cnt_le (P : Nat → Bool) (n : Nat) : cnt P n ≤ n := by
  induction n with
  | zero => exact Nat.le_refl 0
  | succ n ih =>
    rw [cnt_s]
    by_cases h : P n = true
    · rw [if_pos h]; omega
    · rw [if_neg h]; omega
theorem cnt_0 {P : Nat → Bool} : ∀ {n}, cnt P n = 0 ↔ ∀ k, k < n → ¬ P k = true := by
  intro n
  induction n with
  | zero => exact ⟨fun _ k hk => absurd hk (Nat.not_lt_zero _), fun _ => rfl⟩
  | succ n ih =>
    rw [cnt_s]
    by_cases h : P n = true
    · rw [if_pos h]
      constructor
      · intro z; omega
      · intro z; exact absurd h (z n (by omega))
    · rw [if_neg h, ih]
      constructor
      · intro z k hk
        by_cases e : k = n
        · rw [e]; exact h
        · exact z k (by omega)
      · exact fun z k hk => z k (by omega)
theorem cnt_add {P Q : Nat → Bool} {t : Nat} : ∀ {n}, t < n → P t = false → Q t = true → (∀ k, k < n → k ≠ t → Q k = P k) → cnt Q n = cnt P n + 1 := by
  intro n
  induction n with
  | zero => intro h; exact absurd h (Nat.not_lt_zero _)
  | succ n ih =>
    intro h hp hq he
    rw [cnt_s, cnt_s]
    by_cases e : t = n
    · subst e
      rw [hp, hq, cnt_congr (P := Q) (Q := P) t (fun k hk => he k (by omega) (by omega))]
      rfl
    · rw [he n (by omega) (fun z => e z.symm), ih (by omega) hp hq (fun k hk => he k (by omega))]
      by_cases hn : P n = true
      · rw [if_pos hn, if_pos hn]
      · rw [if_neg hn, if_neg hn]
theorem cnt_split (P : Nat → Bool) (n m : Nat) : cnt P (n + m) = cnt P n + cnt (fun k => P (n + k)) m := by
  induction m with
  | zero => rfl
  | succ m ih =>
    rw [← Nat.add_assoc, cnt_s, cnt_s, ih]
    by_cases h : P (n + m) = true
    · rw [if_pos h, if_pos h]; omega
    · rw [if_neg h, if_neg h]
theorem tn_shl {n : Nat} (h : n < 32) : tn (jshl 1 (nI n)) = 2 ^ n := by
  have : ∀ n, n < 32 → tn (jshl 1 (nI n)) = 2 ^ n := by decide +kernel
  exact this n h
theorem tn_or (x y : Int32) : tn (x ||| y) = tn x ||| tn y := by
  show (x.toBitVec ||| y.toBitVec).toNat = _
  rw [BitVec.toNat_or]
theorem or_top {x n : Nat} (h : x < 2 ^ n) : x ||| 2 ^ n = 2 ^ n * 1 + x := by
  rw [Nat.two_pow_add_eq_or_of_lt h 1, Nat.mul_one, Nat.or_comm]
theorem npc_1 : npc 1 = 1 := by decide +kernel
theorem npc_bset (P : Nat → Bool) : ∀ n, n ≤ 32 → tn (bset P n) < 2 ^ n ∧ npc (tn (bset P n)) = cnt P n := by
  intro n
  induction n with
  | zero => intro _; exact ⟨show (0 : Nat) < 1 by decide, npc_0⟩
  | succ n ih =>
    intro hn
    obtain ⟨h1, h2⟩ := ih (by omega)
    rw [bset_s, cnt_s]
    by_cases h : P n = true
    · rw [if_pos h, if_pos h, tn_or, tn_shl (by omega), or_top h1]
      refine ⟨by rw [Nat.pow_succ]; omega, ?_⟩
      rw [npc_byte n 1 _ h1, h2, npc_1]; omega
    · rw [if_neg h, if_neg h]
      exact ⟨by rw [Nat.pow_succ]; omega, h2⟩
theorem tl_shl {n : Nat} (h : n < 64) : tl (jlshl 1 (nI n)) = 2 ^ n := by
  have : ∀ n, n < 64 → tl (jlshl 1 (nI n)) = 2 ^ n := by decide +kernel
  exact this n h
theorem tl_or (x y : Int64) : tl (x ||| y) = tl x ||| tl y := by
  show (x.toBitVec ||| y.toBitVec).toNat = _
  rw [BitVec.toNat_or]
theorem lset_s (P : Nat → Bool) (n : Nat) : lset P (n + 1) = if P n then lset P n ||| jlshl 1 (nI n) else lset P n := rfl
theorem npc_lset (P : Nat → Bool) : ∀ n, n ≤ 64 → tl (lset P n) < 2 ^ n ∧ npc (tl (lset P n)) = cnt P n := by
  intro n
  induction n with
  | zero => intro _; exact ⟨show (0 : Nat) < 1 by decide, npc_0⟩
  | succ n ih =>
    intro hn
    obtain ⟨h1, h2⟩ := ih (by omega)
    rw [lset_s, cnt_s]
    by_cases h : P n = true
    · rw [if_pos h, if_pos h, tl_or, tl_shl (by omega), or_top h1]
      refine ⟨by rw [Nat.pow_succ]; omega, ?_⟩
      rw [npc_byte n 1 _ h1, h2, npc_1]; omega
    · rw [if_neg h, if_neg h]
      exact ⟨by rw [Nat.pow_succ]; omega, h2⟩
theorem items_cnt (P : Nat → Bool) : npc (tl (lset P 40)) = npc (tn (bset P 20)) + npc (tn (bset (fun k => P (k + 20)) 20)) := by
  rw [(npc_lset P 40 (by omega)).2, (npc_bset P 20 (by omega)).2, (npc_bset _ 20 (by omega)).2, show 40 = 20 + 20 from rfl, cnt_split]
  congr 1
theorem bl_lset (P : Nat → Bool) {n : Nat} (hn : n ≤ 64) (k : Nat) : bl (lset P n) k = (decide (k < n) && P k) := by
  induction n with
  | zero =>
    show (0#64).getLsbD k = _
    simp
  | succ n ih =>
    have ih := ih (by omega)
    have one : bl (jlshl 1 (nI n)) k = decide (k = n) := by
      show (jlshl 1 (nI n)).toBitVec.toNat.testBit k = _
      rw [show (jlshl 1 (nI n)).toBitVec.toNat = 2 ^ n from tl_shl (by omega), Nat.testBit_two_pow]
      exact Bool.eq_iff_iff.mpr ⟨fun z => decide_eq_true (of_decide_eq_true z).symm, fun z => decide_eq_true (of_decide_eq_true z).symm⟩
    have orr : bl (lset P n ||| jlshl 1 (nI n)) k = (bl (lset P n) k || bl (jlshl 1 (nI n)) k) := by
      show ((lset P n).toBitVec ||| (jlshl 1 (nI n)).toBitVec).getLsbD k = _
      rw [BitVec.getLsbD_or]
      rfl
    rw [lset_s]
    by_cases hP : P n = true
    · rw [if_pos hP, orr, ih, one]
      by_cases e : k = n
      · subst e; simp [hP]
      · by_cases h2 : k < n
        · have : k < n + 1 := by omega
          simp [h2, this, e]
        · have : ¬ k < n + 1 := by omega
          simp [h2, this, e]
    · rw [if_neg hP, ih]
      by_cases e : k = n
      · subst e; simp [hP]
      · by_cases h2 : k < n
        · have : k < n + 1 := by omega
          simp [h2, this]
        · have : ¬ k < n + 1 := by omega
          simp [h2, this]
theorem bl_ext {x y : Int64} (h : ∀ k, k < 64 → bl x k = bl y k) : x = y := by
  apply Int64.toBitVec_inj.mp
  apply BitVec.eq_of_getLsbD_eq
  intro i hi
  exact h i hi
theorem bl_or (x y : Int64) (k : Nat) : bl (x ||| y) k = (bl x k || bl y k) := by
  show (x.toBitVec ||| y.toBitVec).getLsbD k = _
  rw [BitVec.getLsbD_or]
  rfl
theorem bl_and (x y : Int64) (k : Nat) : bl (x &&& y) k = (bl x k && bl y k) := by
  show (x.toBitVec &&& y.toBitVec).getLsbD k = _
  rw [BitVec.getLsbD_and]
  rfl
theorem bl_not (x : Int64) {k : Nat} (hk : k < 64) : bl (x ^^^ (-1)) k = !bl x k := by
  have h1 : ∀ k, k < 64 → bl (-1) k = true := by decide +kernel
  have h2 : bl (x ^^^ (-1)) k = ((bl x k) ^^ (bl (-1) k)) := by
    show (x.toBitVec ^^^ (-1 : Int64).toBitVec).getLsbD k = _
    rw [BitVec.getLsbD_xor]
    rfl
  rw [h2, h1 k hk]
  cases bl x k <;> rfl
theorem bl_shl {n : Nat} (h : n < 64) (k : Nat) : bl (jlshl 1 (nI n)) k = decide (k = n) := by
  show (jlshl 1 (nI n)).toBitVec.toNat.testBit k = _
  rw [show (jlshl 1 (nI n)).toBitVec.toNat = 2 ^ n from tl_shl h, Nat.testBit_two_pow]
  exact Bool.eq_iff_iff.mpr ⟨fun z => decide_eq_true (of_decide_eq_true z).symm, fun z => decide_eq_true (of_decide_eq_true z).symm⟩
theorem lset_on (P : Nat → Bool) {i : Nat} (hi : i < 40) : lset P 40 ||| jlshl 1 (nI i) = lset (fun k => P k || decide (k = i)) 40 := by
  apply bl_ext
  intro k _
  rw [bl_or, bl_lset _ (by omega), bl_lset _ (by omega), bl_shl (by omega)]
  by_cases e : k = i
  · subst e; simp [hi]
  · simp [e]
theorem lset_off (P : Nat → Bool) {i : Nat} (hi : i < 40) : lset P 40 &&& (jlshl 1 (nI i) ^^^ (-1)) = lset (fun k => P k && !decide (k = i)) 40 := by
  apply bl_ext
  intro k hk
  rw [bl_and, bl_lset _ (by omega), bl_lset _ (by omega), bl_not _ hk, bl_shl (by omega)]
  by_cases e : k = i
  · subst e; simp
  · simp [e]
theorem bset_on (P : Nat → Bool) {i n : Nat} (hi : i < n) (hn : n ≤ 32) : bset P n ||| jshl 1 (nI i) = bset (fun k => P k || decide (k = i)) n := by
  apply bt_ext
  intro k _
  rw [bt_or, bt_bset _ hn, bt_bset _ hn, bt_shl1 (by omega)]
  by_cases e : k = i
  · subst e; simp [hi]
  · simp [e]
theorem bset_off (P : Nat → Bool) {i n : Nat} (hi : i < n) (hn : n ≤ 32) : bset P n &&& (jshl 1 (nI i) ^^^ (-1)) = bset (fun k => P k && !decide (k = i)) n := by
  apply bi_ext
  intro k hk
  rw [bi_and, bi_xor _ hk, bt_bset _ hn, bt_bset _ hn, bi_shl (by omega)]
  by_cases e : k = i
  · subst e; simp
  · simp [e]
theorem lbit {x : Int64} {i : Nat} (hi : i < 64) : lg_cmp ((jlshr x (nI i)) &&& 1) 0 = 0 ↔ bl x i = false := by
  have e : (jlshr x (nI i)) &&& 1 = if bl x i then 1 else 0 := by
    apply bl_ext
    intro k hk
    have h1 : bl 1 k = decide (k = 0) := by
      have : ∀ k, k < 64 → bl 1 k = decide (k = 0) := by decide +kernel
      exact this k hk
    have h0 : bl 0 k = false := by
      show (0#64).getLsbD k = false
      simp
    rw [bl_and, h1]
    by_cases ek : k = 0
    · subst ek
      have : bl (jlshr x (nI i)) 0 = bl x i := by
        have sh : (jlshr x (nI i)).toBitVec = x.toBitVec.sshiftRight i := by
          unfold jlshr
          rw [Int64.toBitVec_shiftRight]
          have : ∀ i, i < 64 → (((nI i).toInt64 &&& 63).toBitVec.smod 64).toNat = i := by decide +kernel
          show x.toBitVec.sshiftRight (((nI i).toInt64 &&& 63).toBitVec.smod 64).toNat = _
          rw [this i hi]
        unfold bl
        rw [sh, BitVec.getLsbD_sshiftRight]
        simp [hi]
      rw [this]
      cases hb : bl x i
      · simp [h0]
      · simp [h1]
    · cases hb : bl x i
      · simp [ek, h0]
      · simp [ek, h1]
  rw [e]
  cases hb : bl x i
  · simp [lg_cmp]
  · simp [lg_cmp]
theorem jrem20 {i : Nat} (h : i < 40) : jrem (nI i) 20 = nI (i % 20) := by
  have : ∀ i, i < 40 → jrem (nI i) 20 = nI (i % 20) := by decide +kernel
  exact this i h
def isI (x : Int32) : Prop := ∃ i, i < 40 ∧ x = nI i
theorem c_item1 {i : Nat} (h : i < 40) : f_X6_isItem (nI i) = 1 := by
  unfold f_X6_isItem
  rw [if_neg (neg_lt (by omega)), if_neg (show ¬ (40 : Int32) ≤ nI i by rw [show (40 : Int32) = nI 40 from rfl, nI_leI (by decide) (by omega)]; omega)]
theorem c_item0 {x : Int32} (h : ¬ isI x) : f_X6_isItem x = 0 := by
  unfold f_X6_isItem
  by_cases h0 : x < 0
  · rw [if_pos h0]
  · obtain ⟨n, hn, rfl⟩ := nonneg h0
    rw [if_neg h0, if_pos]
    rw [show (40 : Int32) = nI 40 from rfl, nI_leI (by decide) hn]
    exact Classical.byContradiction fun z => h ⟨n, by omega, rfl⟩
theorem m_item1 {i : Nat} (h : i < 40) : ¬ f_X7_isItem (nI i) = 0 := by
  unfold f_X7_isItem
  rw [show (39 : Int64) = (39 : Int32).toInt64 from rfl, in32]
  rintro (z | z)
  · exact neg_lt (by omega) z
  · rw [show (39 : Int32) = nI 39 from rfl, nI_ltI (by decide) (by omega)] at z; omega
theorem m_item0 {x : Int32} (h : ¬ isI x) : f_X7_isItem x = 0 := by
  unfold f_X7_isItem
  rw [show (39 : Int64) = (39 : Int32).toInt64 from rfl, in32]
  by_cases h0 : x < 0
  · exact .inl h0
  · obtain ⟨n, hn, rfl⟩ := nonneg h0
    refine .inr ?_
    rw [show (39 : Int32) = nI 39 from rfl, nI_ltI (by decide) hn]
    exact Classical.byContradiction fun z => h ⟨n, by omega, rfl⟩
theorem m_isPosted {mem : Nat → Int32} {a : AN} (h : MN mem 0 a) {i t : Nat} (hi : i < 40) (ht : t < 24) : f_X7_isPosted mem (nI i) (nI t) = some (if aIt a t i then 1 else 0) := by
  unfold f_X7_isPosted f_X7_isPosted_b19
  rw [jrem20 hi]
  by_cases h2 : 20 ≤ i
  · rw [if_pos (show (20 : Int32) ≤ nI i by rw [show (20 : Int32) = nI 20 from rfl, nI_leI (by decide) (by omega)]; exact h2), show (155 : Int32) = nI 155 from rfl, nI_add, chk_nI (by omega) (by decide), ix_nI (by omega), show mem (155 + t) = bset (fun k => aIt a t (k + 20)) 20 by rw [← (h.2.2.1 t ht).2, Nat.zero_add], has_eq (by omega), bt_bset _ (by omega)]
    have : i % 20 + 20 = i := by omega
    have l : i % 20 < 20 := by omega
    rw [this]
    simp [l]
  · rw [if_neg (show ¬ (20 : Int32) ≤ nI i by rw [show (20 : Int32) = nI 20 from rfl, nI_leI (by decide) (by omega)]; exact h2), show (131 : Int32) = nI 131 from rfl, nI_add, chk_nI (by omega) (by decide), ix_nI (by omega), show mem (131 + t) = bset (aIt a t) 20 by rw [← (h.2.2.1 t ht).1, Nat.zero_add], has_eq (by omega), bt_bset _ (by omega)]
    have : i % 20 = i := by omega
    have l : i < 20 := by omega
    rw [this]
    simp [l]
theorem m_itemsOf {mem : Nat → Int32} {q : Nat} {a : AN} (h : MN mem (q * 179) a) (hq : q ≤ 12) {t : Nat} (ht : t < 24) : f_X7_itemsOf mem (nI q) (nI t) = some (nI (cnt (aIt a t) 40)) := by
  unfold f_X7_itemsOf
  rw [show (131 : Int32) = nI 131 from rfl, show (155 : Int32) = nI 155 from rfl, ofs, ofs, nI_add, nI_add, chk_nI (by omega) (by decide), ix_nI (by omega), (h.2.2.1 t ht).1, m_sizeOf, sbind, chk_nI (by omega) (by decide), ix_nI (by omega), (h.2.2.1 t ht).2, m_sizeOf, sbind, nI_add, ← items_cnt, (npc_lset _ 40 (by omega)).2]
