/-! PURE 53: Long.bitCount -/
abbrev tl (x : Int64) : Nat := x.toBitVec.toNat
theorem tl_and (x y : Int64) : tl (x &&& y) = tl x &&& tl y := by
  show (x.toBitVec &&& y.toBitVec).toNat = _
  rw [BitVec.toNat_and]
theorem tl_add {x y : Int64} (h : tl x + tl y < 2 ^ 64) : tl (x + y) = tl x + tl y := by
  show (x.toBitVec + y.toBitVec).toNat = _
  rw [BitVec.toNat_add]
  exact Nat.mod_eq_of_lt h
theorem tl_sub {x y : Int64} (h : tl y ≤ tl x) : tl (x - y) = tl x - tl y := by
  show (x.toBitVec - y.toBitVec).toNat = _
  rw [BitVec.toNat_sub]
  have h1 := x.toBitVec.isLt
  have h2 := y.toBitVec.isLt
  have h3 : y.toBitVec.toNat ≤ x.toBitVec.toNat := h
  show (2 ^ 64 - y.toBitVec.toNat + x.toBitVec.toNat) % 2 ^ 64 = x.toBitVec.toNat - y.toBitVec.toNat
  omega
theorem tl_sh (x : Int64) (k : Nat) (z : Int32) (h : (jlushr x z).toBitVec = x.toBitVec >>> k) : tl (jlushr x z) = tl x / 2 ^ k := by
  show (jlushr x z).toBitVec.toNat = _
  rw [h, BitVec.toNat_ushiftRight, Nat.shiftRight_eq_div_pow]
/-- a number of digits of 256 -/
def pl : (Nat → Nat) → Nat → Nat
  | _, 0 => 0
  | c, n + 1 => c 0 + 256 * pl (fun i => c (i + 1)) n
theorem pl_s (c : Nat → Nat) (n : Nat) : pl c (n + 1) = c 0 + 256 * pl (fun i => c (i + 1)) n := rfl
theorem pl_add : ∀ (n : Nat) (c d : Nat → Nat), pl c n + pl d n = pl (fun i => c i + d i) n := by
  intro n
  induction n with
  | zero => intro c d; rfl
  | succ n ih =>
    intro c d
    rw [pl_s, pl_s, pl_s, ← ih (fun i => c (i + 1)) (fun i => d (i + 1))]
    omega
theorem pl_end : ∀ (n : Nat) (c : Nat → Nat), c n = 0 → pl c (n + 1) = pl c n := by
  intro n
  induction n with
  | zero =>
    intro c h
    rw [pl_s, h]
    rfl
  | succ n ih =>
    intro c h
    rw [pl_s, pl_s c n, ih (fun i => c (i + 1)) h]
theorem pl_div (n : Nat) (c : Nat → Nat) (h0 : c 0 < 256) (hn : c (n + 1) = 0) : pl c (n + 1) / 256 = pl (fun i => c (i + 1)) (n + 1) := by
  rw [pl_end n (fun i => c (i + 1)) hn, pl_s]
  omega
theorem pl_lt8 (c : Nat → Nat) (h : ∀ i, c i ≤ 127) : pl c 8 < 9223372036854775808 := by
  have : ∀ (n B : Nat) (c : Nat → Nat), (∀ i, c i ≤ 127) → (∀ c : Nat → Nat, (∀ i, c i ≤ 127) → pl c n ≤ B) → pl c (n + 1) ≤ 127 + 256 * B := by
    intro n B c hc hB
    rw [pl_s]
    have h1 := hB (fun i => c (i + 1)) (fun i => hc (i + 1))
    have h0 := hc 0
    omega
  have h0 : ∀ c : Nat → Nat, (∀ i, c i ≤ 127) → pl c 0 ≤ 0 := fun c _ => Nat.le_refl 0
  have h1 := fun c hc => this 0 _ c hc h0
  have h2 := fun c hc => this 1 _ c hc h1
  have h3 := fun c hc => this 2 _ c hc h2
  have h4 := fun c hc => this 3 _ c hc h3
  have h5 := fun c hc => this 4 _ c hc h4
  have h6 := fun c hc => this 5 _ c hc h5
  have h7 := fun c hc => this 6 _ c hc h6
  have h8 := this 7 _ c h h7
  exact Nat.lt_of_le_of_lt h8 (by decide)
theorem pl_0 (n : Nat) : pl (fun _ => 0) n = 0 := by
  induction n with
  | zero => rfl
  | succ n ih => rw [pl_s, ih]
def dg (n i : Nat) : Nat := npc (n / 256 ^ i % 256)
theorem dg_s (n i : Nat) : dg n (i + 1) = dg (n / 256) i := by
  unfold dg
  rw [Nat.pow_succ, Nat.mul_comm, Nat.div_div_eq_div_mul]
theorem dg_le (n i : Nat) : dg n i ≤ 8 := npc_le _ 8 (by omega)
theorem sw3_pl : ∀ k n, n < 256 ^ k → sw3 k n = pl (dg n) k := by
  intro k
  induction k with
  | zero =>
    intro n hn
    have : n = 0 := by simpa using hn
    subst this
    decide
  | succ k ih =>
    intro n hn
    have hp : 256 ^ (k + 1) = 256 * 256 ^ k := by rw [Nat.pow_succ, Nat.mul_comm]
    have hm : n / 256 < 256 ^ k := by rw [hp] at hn; omega
    have e0 : n = 256 * (n / 256) + n % 256 := by omega
    have s0 := sw3_s k (n / 256) (n % 256) hm (by omega)
    rw [← e0, ih _ hm] at s0
    rw [s0, pl_s, show (fun i => dg n (i + 1)) = dg (n / 256) from funext (dg_s n), show dg n 0 = npc (n % 256) by unfold dg; rw [Nat.pow_zero, Nat.div_one], Nat.add_comm]
def dsum (c : Nat → Nat) : Nat → Nat
  | 0 => 0
  | n + 1 => dsum c n + c n
theorem npc_dg : ∀ k n, n < 256 ^ k → npc n = dsum (dg n) k := by
  intro k
  have sh : ∀ (c : Nat → Nat) m, dsum c (m + 1) = c 0 + dsum (fun i => c (i + 1)) m := by
    intro c m
    induction m with
    | zero => show 0 + c 0 = c 0 + 0; omega
    | succ m ih =>
      show dsum c (m + 1) + c (m + 1) = c 0 + (dsum (fun i => c (i + 1)) m + c (m + 1))
      rw [ih]; omega
  induction k with
  | zero =>
    intro n hn
    have : n = 0 := by simpa using hn
    subst this
    exact npc_0
  | succ k ih =>
    intro n hn
    have hp : 256 ^ (k + 1) = 256 * 256 ^ k := by rw [Nat.pow_succ, Nat.mul_comm]
    have hm : n / 256 < 256 ^ k := by rw [hp] at hn; omega
    have e0 : n = 256 * (n / 256) + n % 256 := by omega
    have s0 := npc_byte 8 (n / 256) (n % 256) (by omega)
    rw [show (2 : Nat) ^ 8 = 256 from rfl, ← e0, ih _ hm] at s0
    rw [sh, s0, show (fun i => dg n (i + 1)) = dg (n / 256) from funext (dg_s n), show dg n 0 = npc (n % 256) by unfold dg; rw [Nat.pow_zero, Nat.div_one], Nat.add_comm]
theorem c_longCount (p : Int64) : f_J13_bitCount_95d88 p = nI (npc (tl p)) := by
  have hp : tl p < 2 ^ 64 := p.toBitVec.isLt
  obtain ⟨v1, d1⟩ : ∃ v, v = p - ((jlushr p 1) &&& 6148914691236517205) := ⟨_, rfl⟩
  obtain ⟨v2, d2⟩ : ∃ v, v = (v1 &&& 3689348814741910323) + ((jlushr v1 2) &&& 3689348814741910323) := ⟨_, rfl⟩
  obtain ⟨v3, d3⟩ : ∃ v, v = (v2 + (jlushr v2 4)) &&& 1085102592571150095 := ⟨_, rfl⟩
  obtain ⟨v4, d4⟩ : ∃ v, v = v3 + (jlushr v3 8) := ⟨_, rfl⟩
  obtain ⟨v5, d5⟩ : ∃ v, v = v4 + (jlushr v4 16) := ⟨_, rfl⟩
  have d : f_J13_bitCount_95d88 p = (v5 + (jlushr v5 32)).toInt32 &&& 127 := by
    subst d5 d4 d3 d2 d1
    rfl
  have t1 : tl v1 = sw1 8 (tl p) := by
    rw [d1]
    have e : tl ((jlushr p 1) &&& 6148914691236517205) = tl p / 2 &&& rep 85 8 := by
      rw [tl_and, tl_sh p 1 1 rfl]
      rfl
    rw [tl_sub (by rw [e]; exact sw1_le 8 _), e]
    rfl
  have l1 : sw1 8 (tl p) &&& rep 51 8 ≤ 3689348814741910323 := Nat.and_le_right
  have l2 : sw1 8 (tl p) / 4 &&& rep 51 8 ≤ 3689348814741910323 := Nat.and_le_right
  have t2 : tl v2 = sw2 8 (tl p) := by
    rw [d2]
    have e1 : tl (v1 &&& 3689348814741910323) = sw1 8 (tl p) &&& rep 51 8 := by rw [tl_and, t1]; rfl
    have e2 : tl ((jlushr v1 2) &&& 3689348814741910323) = sw1 8 (tl p) / 4 &&& rep 51 8 := by
      rw [tl_and, tl_sh v1 2 2 rfl, t1]; rfl
    rw [tl_add (by rw [e1, e2]; omega), e1, e2]
    rfl
  have b2' : sw2 8 (tl p) ≤ 7378697629483820646 := by
    unfold sw2
    omega
  have t3 : tl v3 = sw3 8 (tl p) := by
    rw [d3, tl_and]
    have e : tl (jlushr v2 4) = sw2 8 (tl p) / 16 := by rw [tl_sh v2 4 4 rfl, t2]
    rw [tl_add (by rw [e, t2]; omega), e, t2]
    rfl
  have t3' : tl v3 = pl (dg (tl p)) 8 := by rw [t3]; exact sw3_pl 8 _ hp
  have en : npc (tl p) = dsum (dg (tl p)) 8 := npc_dg 8 _ hp
  have hle := dg_le (tl p)
  have hz : ∀ i, 8 ≤ i → dg (tl p) i = 0 := by
    intro i hi
    unfold dg
    have : tl p / 256 ^ i = 0 := by
      apply Nat.div_eq_of_lt
      refine Nat.lt_of_lt_of_le hp ?_
      show 2 ^ 64 ≤ 256 ^ i
      exact Nat.le_trans (show 2 ^ 64 ≤ 256 ^ 8 by decide) (Nat.pow_le_pow_right (by decide) hi)
    rw [this]
    exact npc_0
  clear t3 t2 t1 b2' l1 l2 d1 d2 d3
  obtain ⟨c, hc⟩ : ∃ c, c = dg (tl p) := ⟨_, rfl⟩
  rw [← hc] at t3' en hle hz
  clear hc
  have g1 : ∀ i, c i ≤ 8 := hle
  have t4 : tl v4 = pl (fun i => c i + c (i + 1)) 8 := by
    have e8 : tl (jlushr v3 8) = tl v3 / 256 := tl_sh v3 8 8 rfl
    have e : tl v3 / 256 = pl (fun i => c (i + 1)) 8 := by
      rw [t3']
      exact pl_div 7 c (by have := g1 0; omega) (hz 8 (by omega))
    have l1 := pl_lt8 c (fun i => by have := g1 i; omega)
    have l2 := pl_lt8 (fun i => c (i + 1)) (fun i => by have := g1 (i + 1); omega)
    rw [d4, tl_add (by rw [e8, e, t3']; omega), e8, e, t3', pl_add]
  have g2 : ∀ i, c i + c (i + 1) ≤ 16 := fun i => by have := g1 i; have := g1 (i + 1); omega
  have t5 : tl v5 = pl (fun i => (c i + c (i + 1)) + (c (i + 2) + c (i + 3))) 8 := by
    have e16 : tl (jlushr v4 16) = tl v4 / 256 / 256 := by
      rw [tl_sh v4 16 16 rfl, Nat.div_div_eq_div_mul]
    have e : tl v4 / 256 / 256 = pl (fun i => c (i + 2) + c (i + 3)) 8 := by
      rw [t4]
      rw [pl_div 7 (fun i => c i + c (i + 1)) (by have := g2 0; omega) (by show c 8 + c 9 = 0; rw [hz 8 (by omega), hz 9 (by omega)])]
      rw [pl_div 7 (fun i => c (i + 1) + c (i + 1 + 1)) (by have : c 1 + c 2 ≤ 16 := g2 1; show c 1 + c 2 < 256; omega) (by show c 9 + c 10 = 0; rw [hz 9 (by omega), hz 10 (by omega)])]
    have l1 := pl_lt8 (fun i => c i + c (i + 1)) (fun i => by have := g2 i; show c i + c (i + 1) ≤ 127; omega)
    have l2 := pl_lt8 (fun i => c (i + 2) + c (i + 3)) (fun i => by have : c (i + 2) + c (i + 3) ≤ 16 := g2 (i + 2); show c (i + 2) + c (i + 3) ≤ 127; omega)
    rw [d5, tl_add (by rw [e16, e, t4]; omega), e16, e, t4, pl_add]
  have g3 : ∀ i, (c i + c (i + 1)) + (c (i + 2) + c (i + 3)) ≤ 32 := fun i => by have := g2 i; have : c (i + 2) + c (i + 3) ≤ 16 := g2 (i + 2); omega
  have t6 : tl (v5 + jlushr v5 32) = pl (fun i => ((c i + c (i + 1)) + (c (i + 2) + c (i + 3))) + ((c (i + 4) + c (i + 5)) + (c (i + 6) + c (i + 7)))) 8 := by
    have e32 : tl (jlushr v5 32) = tl v5 / 256 / 256 / 256 / 256 := by
      rw [tl_sh v5 32 32 rfl, Nat.div_div_eq_div_mul, Nat.div_div_eq_div_mul, Nat.div_div_eq_div_mul]
    have z : ∀ i, 8 ≤ i → (c i + c (i + 1)) + (c (i + 2) + c (i + 3)) = 0 := fun i hi => by rw [hz i hi, hz (i + 1) (by omega), hz (i + 2) (by omega), hz (i + 3) (by omega)]
    have e : tl v5 / 256 / 256 / 256 / 256 = pl (fun i => (c (i + 4) + c (i + 5)) + (c (i + 6) + c (i + 7))) 8 := by
      rw [t5]
      rw [pl_div 7 (fun i => (c i + c (i + 1)) + (c (i + 2) + c (i + 3))) (by have : (c 0 + c 1) + (c 2 + c 3) ≤ 32 := g3 0; show (c 0 + c 1) + (c 2 + c 3) < 256; omega) (z 8 (by omega))]
      rw [pl_div 7 (fun i => (c (i + 1) + c (i + 1 + 1)) + (c (i + 1 + 2) + c (i + 1 + 3))) (by have : (c 1 + c 2) + (c 3 + c 4) ≤ 32 := g3 1; show (c 1 + c 2) + (c 3 + c 4) < 256; omega) (z 9 (by omega))]
      rw [pl_div 7 (fun i => (c (i + 1 + 1) + c (i + 1 + 1 + 1)) + (c (i + 1 + 1 + 2) + c (i + 1 + 1 + 3))) (by have : (c 2 + c 3) + (c 4 + c 5) ≤ 32 := g3 2; show (c 2 + c 3) + (c 4 + c 5) < 256; omega) (z 10 (by omega))]
      rw [pl_div 7 (fun i => (c (i + 1 + 1 + 1) + c (i + 1 + 1 + 1 + 1)) + (c (i + 1 + 1 + 1 + 2) + c (i + 1 + 1 + 1 + 3))) (by have : (c 3 + c 4) + (c 5 + c 6) ≤ 32 := g3 3; show (c 3 + c 4) + (c 5 + c 6) < 256; omega) (z 11 (by omega))]
    have l1 := pl_lt8 (fun i => (c i + c (i + 1)) + (c (i + 2) + c (i + 3))) (fun i => by have := g3 i; show (c i + c (i + 1)) + (c (i + 2) + c (i + 3)) ≤ 127; omega)
    have l2 := pl_lt8 (fun i => (c (i + 4) + c (i + 5)) + (c (i + 6) + c (i + 7))) (fun i => by have : (c (i + 4) + c (i + 5)) + (c (i + 6) + c (i + 7)) ≤ 32 := g3 (i + 4); show (c (i + 4) + c (i + 5)) + (c (i + 6) + c (i + 7)) ≤ 127; omega)
    rw [tl_add (by rw [e32, e, t5]; omega), e32, e, t5, pl_add]
  rw [d]
  have en' : npc (tl p) = ((c 0 + c 1) + (c 2 + c 3)) + ((c 4 + c 5) + (c 6 + c 7)) := by
    rw [en]
    show 0 + c 0 + c 1 + c 2 + c 3 + c 4 + c 5 + c 6 + c 7 = _
    omega
  have g4 : ((c 0 + c 1) + (c 2 + c 3)) + ((c 4 + c 5) + (c 6 + c 7)) ≤ 64 := by
    have : (c 0 + c 1) + (c 2 + c 3) ≤ 32 := g3 0
    have : (c 4 + c 5) + (c 6 + c 7) ≤ 32 := g3 4
    omega
  apply tn_eq (by rw [en']; omega)
  have em : tn (127 : Int32) = 2 ^ 7 - 1 := rfl
  have ei : tn (v5 + jlushr v5 32).toInt32 = tl (v5 + jlushr v5 32) % 2 ^ 32 := by
    show ((v5 + jlushr v5 32).toBitVec.signExtend 32).toNat = _
    rw [BitVec.signExtend_eq_setWidth_of_le _ (by omega), BitVec.toNat_setWidth]
  rw [tn_and, em, Nat.and_two_pow_sub_one_eq_mod, ei, t6, en', pl_s]
  generalize pl _ 7 = X
  show (((c 0 + c 1) + (c 2 + c 3)) + ((c 4 + c 5) + (c 6 + c 7)) + 256 * X) % 2 ^ 32 % 2 ^ 7 = _
  omega
