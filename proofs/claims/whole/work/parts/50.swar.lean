/-! PURE 50: Integer.bitCount, Long.bitCount -/
theorem and_blk (k a c r m : Nat) (hr : r < 2 ^ k) (hm : m < 2 ^ k) : (2 ^ k * a + r) &&& (2 ^ k * c + m) = 2 ^ k * (a &&& c) + (r &&& m) := by
  have hrm : r &&& m < 2 ^ k := Nat.lt_of_le_of_lt Nat.and_le_left hr
  apply Nat.eq_of_testBit_eq
  intro i
  rw [Nat.testBit_and, Nat.testBit_two_pow_mul_add _ hr, Nat.testBit_two_pow_mul_add _ hm, Nat.testBit_two_pow_mul_add _ hrm]
  by_cases h : i < k
  · simp [h, Nat.testBit_and]
  · simp [h, Nat.testBit_and]
theorem and256 (a c r m : Nat) (hr : r < 256) (hm : m < 256) : (256 * a + r) &&& (256 * c + m) = 256 * (a &&& c) + (r &&& m) := and_blk 8 a c r m hr hm
/-- a byte's number, k times over -/
def rep (m : Nat) : Nat → Nat
  | 0 => 0
  | k + 1 => 256 * rep m k + m
def sw1 (k n : Nat) : Nat := n - (n / 2 &&& rep 85 k)
def sw2 (k n : Nat) : Nat := (sw1 k n &&& rep 51 k) + (sw1 k n / 4 &&& rep 51 k)
def sw3 (k n : Nat) : Nat := (sw2 k n + sw2 k n / 16) &&& rep 15 k
def b1 (b : Nat) : Nat := b - (b / 2 &&& 85)
def b2 (b : Nat) : Nat := (b1 b &&& 51) + (b1 b / 4 &&& 51)
theorem byte1 : ∀ b, b < 256 → b / 2 &&& 85 ≤ b ∧ (128 + b / 2) &&& 85 = b / 2 &&& 85 ∧ b1 b < 256 ∧ b2 b ≤ 68 ∧ b2 b % 16 ≤ 4 ∧ (b2 b + b2 b / 16) &&& 15 = npc b ∧ (∀ c, c < 4 → (64 * c + b / 4) &&& 51 = b / 4 &&& 51) ∧ (∀ c, c < 5 → (b2 b + b2 b / 16 + 16 * c) &&& 15 = (b2 b + b2 b / 16) &&& 15) := by
  decide +kernel
theorem npc_byte : ∀ (j h b : Nat), b < 2 ^ j → npc (2 ^ j * h + b) = npc h + npc b := by
  intro j
  induction j with
  | zero =>
    intro h b hb
    have : b = 0 := by omega
    subst this
    rw [npc_0]; simp
  | succ j ih =>
    intro h b hb
    rw [Nat.pow_succ] at hb ⊢
    by_cases e : b % 2 = 1
    · obtain ⟨m, rfl⟩ : ∃ m, b = 2 * m + 1 := ⟨b / 2, by omega⟩
      rw [show 2 ^ j * 2 * h + (2 * m + 1) = 2 * (2 ^ j * h + m) + 1 by rw [Nat.mul_add, Nat.mul_comm (2 ^ j) 2, Nat.mul_assoc]; omega, npc_21, npc_21, ih h m (by omega)]
      omega
    · obtain ⟨m, rfl⟩ : ∃ m, b = 2 * m := ⟨b / 2, by omega⟩
      rw [show 2 ^ j * 2 * h + 2 * m = 2 * (2 ^ j * h + m) by rw [Nat.mul_add, Nat.mul_comm (2 ^ j) 2, Nat.mul_assoc], npc_2, npc_2, ih h m (by omega)]
theorem sw1_le (k : Nat) : ∀ n, n / 2 &&& rep 85 k ≤ n := fun n => Nat.le_trans Nat.and_le_left (by omega)
theorem sw1_s (k h b : Nat) (hb : b < 256) : sw1 (k + 1) (256 * h + b) = 256 * sw1 k h + b1 b := by
  obtain ⟨q1, q2, q3, -⟩ := byte1 b hb
  unfold sw1 b1
  have e : (256 * h + b) / 2 &&& rep 85 (k + 1) = 256 * (h / 2 &&& rep 85 k) + (b / 2 &&& 85) := by
    show (256 * h + b) / 2 &&& (256 * rep 85 k + 85) = _
    by_cases p : h % 2 = 1
    · rw [show (256 * h + b) / 2 = 256 * (h / 2) + (128 + b / 2) by omega, and256 _ _ _ _ (by omega) (by omega), q2]
    · rw [show (256 * h + b) / 2 = 256 * (h / 2) + b / 2 by omega, and256 _ _ _ _ (by omega) (by omega)]
  have := sw1_le k h
  rw [e]
  omega
theorem sw2_s (k h b : Nat) (hb : b < 256) : sw2 (k + 1) (256 * h + b) = 256 * sw2 k h + b2 b := by
  obtain ⟨q1, q2, q3, q4, q5, q6, q7, q8⟩ := byte1 b hb
  obtain ⟨-, -, -, -, -, -, r7, -⟩ := byte1 (b1 b) q3
  unfold sw2 b2
  rw [sw1_s k h b hb]
  show (256 * sw1 k h + b1 b &&& (256 * rep 51 k + 51)) + ((256 * sw1 k h + b1 b) / 4 &&& (256 * rep 51 k + 51)) = _
  rw [and256 _ _ _ _ q3 (by omega), show (256 * sw1 k h + b1 b) / 4 = 256 * (sw1 k h / 4) + (64 * (sw1 k h % 4) + b1 b / 4) by omega, and256 _ _ _ _ (by omega) (by omega), r7 _ (by omega)]
  omega
theorem sw2_16 : ∀ k n, n < 256 ^ k → sw2 k n % 16 ≤ 4 := by
  intro k
  cases k with
  | zero =>
    intro n hn
    have : n = 0 := by simpa using hn
    subst this
    decide
  | succ k =>
    intro n hn
    have e : n = 256 * (n / 256) + n % 256 := by omega
    rw [e, sw2_s k _ _ (by omega)]
    obtain ⟨-, -, -, -, q5, -⟩ := byte1 (n % 256) (by omega)
    omega
theorem sw3_s (k h b : Nat) (hh : h < 256 ^ k) (hb : b < 256) : sw3 (k + 1) (256 * h + b) = 256 * sw3 k h + npc b := by
  obtain ⟨q1, q2, q3, q4, q5, q6, q7, q8⟩ := byte1 b hb
  have hm := sw2_16 k h hh
  unfold sw3
  rw [sw2_s k h b hb]
  show (256 * sw2 k h + b2 b + (256 * sw2 k h + b2 b) / 16 &&& (256 * rep 15 k + 15)) = _
  rw [show 256 * sw2 k h + b2 b + (256 * sw2 k h + b2 b) / 16 = 256 * (sw2 k h + sw2 k h / 16) + (b2 b + b2 b / 16 + 16 * (sw2 k h % 16)) by omega, and256 _ _ _ _ (by omega) (by omega), q8 _ (by omega), q6]
