/-! PURE 49: how many are in a set (the reference's way) -/
def npc : Nat → Nat := fun n => if h : n = 0 then 0 else n % 2 + npc (n / 2)
termination_by n => n
decreasing_by omega
theorem npc_0 : npc 0 = 0 := by
  unfold npc
  simp
theorem npc_2 (m : Nat) : npc (2 * m) = npc m := by
  by_cases h : m = 0
  · subst h; rfl
  · conv => lhs; unfold npc
    have : ¬ 2 * m = 0 := by omega
    rw [dif_neg this, show 2 * m % 2 = 0 by omega, show 2 * m / 2 = m by omega, Nat.zero_add]
theorem npc_21 (m : Nat) : npc (2 * m + 1) = npc m + 1 := by
  conv => lhs; unfold npc
  have : ¬ 2 * m + 1 = 0 := by omega
  rw [dif_neg this, show (2 * m + 1) % 2 = 1 by omega, show (2 * m + 1) / 2 = m by omega, Nat.add_comm]
theorem and_dig (a b c d : Nat) (hb : b < 2) (hd : d < 2) : (2 * a + b) &&& (2 * c + d) = 2 * (a &&& c) + b * d := by
  apply Nat.eq_of_testBit_eq
  intro i
  rw [Nat.testBit_and]
  cases i with
  | zero =>
    have h : ∀ b, b < 2 → ∀ d, d < 2 → ((decide (b % 2 = 1)) && (decide (d % 2 = 1))) = decide (b * d % 2 = 1) := by decide
    simp only [Nat.testBit_zero]
    rw [show (2 * a + b) % 2 = b % 2 by omega, show (2 * c + d) % 2 = d % 2 by omega, show (2 * (a &&& c) + b * d) % 2 = b * d % 2 by omega]
    exact h b hb d hd
  | succ i =>
    have hbd : b * d < 2 := by
      have h : ∀ b, b < 2 → ∀ d, d < 2 → b * d < 2 := by decide
      exact h b hb d hd
    rw [Nat.testBit_succ, Nat.testBit_succ, Nat.testBit_succ, show (2 * a + b) / 2 = a by omega, show (2 * c + d) / 2 = c by omega, show (2 * (a &&& c) + b * d) / 2 = a &&& c by omega, Nat.testBit_and]
theorem npc_low : ∀ n : Nat, n ≠ 0 → npc (n &&& (n - 1)) + 1 = npc n := by
  intro n
  induction n using Nat.strongRecOn with
  | _ n ih =>
    intro hn
    by_cases h : n % 2 = 1
    · obtain ⟨m, rfl⟩ : ∃ m, n = 2 * m + 1 := ⟨n / 2, by omega⟩
      have e := and_dig m 1 m 0 (by omega) (by omega)
      rw [show 2 * m + 1 - 1 = 2 * m + 0 by omega, e, Nat.and_self, npc_21]
      show npc (2 * m) + 1 = _
      rw [npc_2]
    · obtain ⟨m, rfl⟩ : ∃ m, n = 2 * m := ⟨n / 2, by omega⟩
      have hm : m ≠ 0 := by omega
      have e := and_dig m 0 (m - 1) 1 (by omega) (by omega)
      rw [show 2 * m - 1 = 2 * (m - 1) + 1 by omega]
      rw [show (2 * m &&& (2 * (m - 1) + 1)) = 2 * (m &&& (m - 1)) by rw [Nat.add_zero, Nat.zero_mul, Nat.add_zero] at e; exact e, npc_2, npc_2]
      exact ih m (by omega) hm
theorem npc_le (n : Nat) : ∀ k, n < 2 ^ k → npc n ≤ k := by
  intro k
  induction k generalizing n with
  | zero =>
    intro h
    have : n = 0 := by omega
    subst this
    rw [npc_0]; omega
  | succ k ih =>
    intro h
    by_cases hn : n = 0
    · subst hn; rw [npc_0]; omega
    · have := ih (n / 2) (by rw [Nat.pow_succ] at h; omega)
      unfold npc
      rw [dif_neg hn]
      omega
theorem npc_ne {n : Nat} (h : npc n = 0) : n = 0 := by
  by_cases hn : n = 0
  · exact hn
  · have := npc_low n hn
    omega
abbrev tn (x : Int32) : Nat := x.toBitVec.toNat
theorem tn_low {x : Int32} (h : x ≠ 0) : tn (x &&& (x - 1)) = tn x &&& (tn x - 1) := by
  have h0 : tn x ≠ 0 := fun e => h (Int32.toBitVec_inj.mp (BitVec.eq_of_toNat_eq e))
  show (x.toBitVec &&& (x.toBitVec - 1#32)).toNat = _
  rw [BitVec.toNat_and, BitVec.toNat_sub]
  have hl := x.toBitVec.isLt
  congr 1
  show (2 ^ 32 - 1 + x.toBitVec.toNat) % 2 ^ 32 = x.toBitVec.toNat - 1
  have h1 : x.toBitVec.toNat ≠ 0 := h0
  omega
theorem m_sizeOf (x : Int32) : f_X7_sizeOf x = some (nI (npc (tn x))) := by
  unfold f_X7_sizeOf f_X7_sizeOf_l4
  have key : ∀ c n acc z, npc (tn z) = c → c < n → loopN (V := Int32 × Int32) (fun rc v => f_X7_sizeOf_b4 x (fun x0_ x1_ => rc (x0_, x1_)) v.1 v.2) n (nI acc, z) = some (nI (acc + c)) := by
    intro c
    induction c with
    | zero =>
      intro n acc z hz hn
      obtain ⟨n, rfl⟩ : ∃ k, n = k + 1 := ⟨n - 1, by omega⟩
      have e : z = 0 := Int32.toBitVec_inj.mp (BitVec.eq_of_toNat_eq (npc_ne hz))
      subst e
      rfl
    | succ c ih =>
      intro n acc z hz hn
      obtain ⟨n, rfl⟩ : ∃ k, n = k + 1 := ⟨n - 1, by omega⟩
      have e : z ≠ 0 := by
        intro e
        subst e
        rw [show tn 0 = 0 from rfl, npc_0] at hz
        omega
      have e0 : tn z ≠ 0 := fun q => e (Int32.toBitVec_inj.mp (BitVec.eq_of_toNat_eq q))
      rw [loopN_succ]
      have st : ∀ k4 : Int32 → Int32 → Option Int32, f_X7_sizeOf_b4 x k4 (nI acc) z = k4 (nI (acc + 1)) (z &&& (z - 1)) := by
        intro k4
        unfold f_X7_sizeOf_b4
        rw [if_neg e, nI_1]
      have g := ih n (acc + 1) (z &&& (z - 1)) (by rw [tn_low e]; have := npc_low _ e0; omega) (by omega)
      rw [show acc + (c + 1) = acc + 1 + c by omega]
      exact (st _).trans g
  have := key (npc (tn x)) 200 0 x rfl (by have := npc_le (tn x) 32 x.toBitVec.isLt; omega)
  rw [Nat.zero_add] at this
  exact this
