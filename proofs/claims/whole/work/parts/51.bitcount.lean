/-! PURE 51: Integer.bitCount -/
theorem tn_and (x y : Int32) : tn (x &&& y) = tn x &&& tn y := by
  show (x.toBitVec &&& y.toBitVec).toNat = _
  rw [BitVec.toNat_and]
theorem tn_add {x y : Int32} (h : tn x + tn y < 2 ^ 32) : tn (x + y) = tn x + tn y := by
  show (x.toBitVec + y.toBitVec).toNat = _
  rw [BitVec.toNat_add]
  exact Nat.mod_eq_of_lt h
theorem tn_sub {x y : Int32} (h : tn y ≤ tn x) : tn (x - y) = tn x - tn y := by
  show (x.toBitVec - y.toBitVec).toNat = _
  rw [BitVec.toNat_sub]
  have h1 := x.toBitVec.isLt
  have h2 := y.toBitVec.isLt
  have h3 : y.toBitVec.toNat ≤ x.toBitVec.toNat := h
  show (2 ^ 32 - y.toBitVec.toNat + x.toBitVec.toNat) % 2 ^ 32 = x.toBitVec.toNat - y.toBitVec.toNat
  omega
theorem tn_sh (x : Int32) (k : Nat) (z : Int32) (h : (jushr x z).toBitVec = x.toBitVec >>> k) : tn (jushr x z) = tn x / 2 ^ k := by
  show (jushr x z).toBitVec.toNat = _
  rw [h, BitVec.toNat_ushiftRight, Nat.shiftRight_eq_div_pow]
theorem tn_eq {x : Int32} {n : Nat} (hn : n < 2 ^ 31) (h : tn x = n) : x = nI n := by
  apply Int32.toBitVec_inj.mp
  apply BitVec.eq_of_toNat_eq
  show x.toBitVec.toNat = (BitVec.ofNat 32 n).toNat
  rw [BitVec.toNat_ofNat, Nat.mod_eq_of_lt (by omega)]
  exact h
theorem sw3_4 (n : Nat) (hn : n < 2 ^ 32) : ∃ c0 c1 c2 c3, c0 ≤ 8 ∧ c1 ≤ 8 ∧ c2 ≤ 8 ∧ c3 ≤ 8 ∧ sw3 4 n = 256 * (256 * (256 * c3 + c2) + c1) + c0 ∧ npc n = c0 + c1 + c2 + c3 := by
  have e0 : n = 256 * (n / 256) + n % 256 := by omega
  have e1 : n / 256 = 256 * (n / 256 / 256) + n / 256 % 256 := by omega
  have e2 : n / 256 / 256 = 256 * (n / 256 / 256 / 256) + n / 256 / 256 % 256 := by omega
  have e3 : n / 256 / 256 / 256 = 256 * 0 + n / 256 / 256 / 256 := by omega
  have h3 : n / 256 / 256 / 256 < 256 := by omega
  refine ⟨npc (n % 256), npc (n / 256 % 256), npc (n / 256 / 256 % 256), npc (n / 256 / 256 / 256), npc_le _ 8 (by omega), npc_le _ 8 (by omega), npc_le _ 8 (by omega), npc_le _ 8 h3, ?_, ?_⟩
  · have s0 := sw3_s 3 (n / 256) (n % 256) (by omega) (by omega)
    have s1 := sw3_s 2 (n / 256 / 256) (n / 256 % 256) (by omega) (by omega)
    have s2 := sw3_s 1 (n / 256 / 256 / 256) (n / 256 / 256 % 256) (by omega) (by omega)
    have s3 := sw3_s 0 0 (n / 256 / 256 / 256) (by decide) h3
    rw [← e0] at s0
    rw [← e1] at s1
    rw [← e2] at s2
    rw [← e3] at s3
    rw [s0, s1, s2, s3, show sw3 0 0 = 0 by decide]
    omega
  · have s0 := npc_byte 8 (n / 256) (n % 256) (by omega)
    have s1 := npc_byte 8 (n / 256 / 256) (n / 256 % 256) (by omega)
    have s2 := npc_byte 8 (n / 256 / 256 / 256) (n / 256 / 256 % 256) (by omega)
    rw [show (2 : Nat) ^ 8 = 256 from rfl] at s0 s1 s2
    rw [← e0] at s0
    rw [← e1] at s1
    rw [← e2] at s2
    omega
theorem c_bitCount (p : Int32) : f_J6_bitCount_0f7a4 p = nI (npc (tn p)) := by
  have hp : tn p < 2 ^ 32 := p.toBitVec.isLt
  obtain ⟨v1, d1⟩ : ∃ v, v = p - ((jushr p 1) &&& 1431655765) := ⟨_, rfl⟩
  obtain ⟨v2, d2⟩ : ∃ v, v = (v1 &&& 858993459) + ((jushr v1 2) &&& 858993459) := ⟨_, rfl⟩
  obtain ⟨v3, d3⟩ : ∃ v, v = (v2 + (jushr v2 4)) &&& 252645135 := ⟨_, rfl⟩
  obtain ⟨v4, d4⟩ : ∃ v, v = v3 + (jushr v3 8) := ⟨_, rfl⟩
  have d : f_J6_bitCount_0f7a4 p = (v4 + (jushr v4 16)) &&& 63 := by
    subst d4 d3 d2 d1
    rfl
  have t1 : tn v1 = sw1 4 (tn p) := by
    rw [d1]
    have e : tn ((jushr p 1) &&& 1431655765) = tn p / 2 &&& rep 85 4 := by
      rw [tn_and, tn_sh p 1 1 rfl]
      rfl
    rw [tn_sub (by rw [e]; exact sw1_le 4 _), e]
    rfl
  have t2 : tn v2 = sw2 4 (tn p) := by
    rw [d2]
    have e1 : tn (v1 &&& 858993459) = sw1 4 (tn p) &&& rep 51 4 := by rw [tn_and, t1]; rfl
    have e2 : tn ((jushr v1 2) &&& 858993459) = sw1 4 (tn p) / 4 &&& rep 51 4 := by
      rw [tn_and, tn_sh v1 2 2 rfl, t1]; rfl
    have l1 : sw1 4 (tn p) &&& rep 51 4 ≤ 858993459 := Nat.and_le_right
    have l2 : sw1 4 (tn p) / 4 &&& rep 51 4 ≤ 858993459 := Nat.and_le_right
    rw [tn_add (by rw [e1, e2]; omega), e1, e2]
    rfl
  have b2' : sw2 4 (tn p) ≤ 1717986918 := by
    have l1 : sw1 4 (tn p) &&& rep 51 4 ≤ 858993459 := Nat.and_le_right
    have l2 : sw1 4 (tn p) / 4 &&& rep 51 4 ≤ 858993459 := Nat.and_le_right
    unfold sw2
    omega
  have t3 : tn v3 = sw3 4 (tn p) := by
    rw [d3, tn_and]
    have e : tn (jushr v2 4) = sw2 4 (tn p) / 16 := by rw [tn_sh v2 4 4 rfl, t2]
    rw [tn_add (by rw [e, t2]; omega), e, t2]
    rfl
  obtain ⟨c0, c1, c2, c3, h0, h1, h2, h3, es, en⟩ := sw3_4 (tn p) hp
  have t4 : tn v4 = tn v3 + tn v3 / 256 := by
    rw [d4]
    have e : tn (jushr v3 8) = tn v3 / 256 := tn_sh v3 8 8 rfl
    rw [tn_add (by rw [e, t3, es]; omega), e]
  have t5 : tn (v4 + jushr v4 16) = tn v4 + tn v4 / 65536 := by
    have e : tn (jushr v4 16) = tn v4 / 65536 := tn_sh v4 16 16 rfl
    rw [tn_add (by rw [e, t4, t3, es]; omega), e]
  rw [d]
  apply tn_eq (by rw [en]; omega)
  have em : tn (63 : Int32) = 2 ^ 6 - 1 := rfl
  have q1 : tn v3 / 256 = 65536 * c3 + 256 * c2 + c1 := by rw [t3, es]; omega
  have q2 : tn v4 = 16777216 * c3 + 65536 * (c2 + c3) + 256 * (c1 + c2) + (c0 + c1) := by rw [t4, q1, t3, es]; omega
  have q3 : tn v4 / 65536 = 256 * c3 + (c2 + c3) := by rw [q2]; omega
  clear es t1 t2 t3 t4 b2' d1 d2 d3 d4 d hp
  rw [tn_and, em, Nat.and_two_pow_sub_one_eq_mod, t5, q3, q2, en]
  omega
