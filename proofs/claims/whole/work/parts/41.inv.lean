/-! PURE 41: the net as it is meant; what class and reference hold of it; the invariant -/
def bl (x : Int64) (k : Nat) : Bool := x.toBitVec.getLsbD k
def lset (P : Nat → Bool) (n : Nat) : Int64 := itr (fun j x => if P j then x ||| jlshl 1 (nI j) else x) 0 n
/-- a net: who is there, links, how many, their order, how many labels, the labels, whose, items -/
abbrev AN : Type := (Nat → Bool) × (Nat → Nat → Bool) × Nat × (Nat → Nat) × Nat × (Nat → Int32) × (Nat → Nat) × (Nat → Nat → Bool)
abbrev aAl (a : AN) : Nat → Bool := a.1
abbrev aNr (a : AN) : Nat → Nat → Bool := a.2.1
abbrev aS (a : AN) : Nat := a.2.2.1
abbrev aO (a : AN) : Nat → Nat := a.2.2.2.1
abbrev aC (a : AN) : Nat := a.2.2.2.2.1
abbrev aNm (a : AN) : Nat → Int32 := a.2.2.2.2.2.1
abbrev aOw (a : AN) : Nat → Nat := a.2.2.2.2.2.2.1
abbrev aIt (a : AN) : Nat → Nat → Bool := a.2.2.2.2.2.2.2
/-- the class's net -/
def CN (n : ND) (a : AN) : Prop := (∀ t, t < 24 → n.1 t = bset (aNr a t) 24) ∧ (∀ p, p < aS a → n.2.1 p = nI (aO a p)) ∧ (∀ t, t < 24 → n.2.2.1 t = lset (aIt a t) 40) ∧ (∀ i, i < aC a → n.2.2.2.1 i = aNm a i) ∧ (∀ i, i < aC a → n.2.2.2.2.1 i = nI (aOw a i)) ∧ n.2.2.2.2.2.2.1 = bset (aAl a) 24 ∧ n.2.2.2.2.2.2.2.1 = nI (aS a) ∧ n.2.2.2.2.2.2.2.2 = nI (aC a)
/-- the reference's net, from a place of its memory on -/
def MN (mem : Nat → Int32) (b : Nat) (a : AN) : Prop := (∀ t, t < 24 → mem (b + 107 + t) = bset (aNr a t) 24) ∧ (∀ p, p < aS a → mem (b + 3 + p) = nI (aO a p)) ∧ (∀ t, t < 24 → mem (b + 131 + t) = bset (aIt a t) 20 ∧ mem (b + 155 + t) = bset (fun k => aIt a t (k + 20)) 20) ∧ (∀ i, i < aC a → mem (b + 67 + i) = aNm a i) ∧ (∀ i, i < aC a → mem (b + 27 + i) = nI (aOw a i)) ∧ mem b = bset (aAl a) 24 ∧ mem (b + 1) = nI (aS a) ∧ mem (b + 2) = nI (aC a)
/-- what holds of every net -/
def WA (a : AN) : Prop := aS a ≤ 24 ∧ aC a ≤ 40 ∧ (∀ t, aAl a t = true → t < 24) ∧ (∀ p, p < aS a → aAl a (aO a p) = true) ∧ (∀ p q, p < aS a → q < aS a → aO a p = aO a q → p = q) ∧ (∀ t, aAl a t = true → ∃ p, p < aS a ∧ aO a p = t) ∧ (∀ p q, p < aS a → q < aS a → aNr a (aO a p) (aO a q) = true → p < q) ∧ (∀ t u, aNr a t u = true → aAl a t = true ∧ aAl a u = true) ∧ (∀ i, i < aC a → aAl a (aOw a i) = true) ∧ (∀ t k, aIt a t k = true → aAl a t = true ∧ k < 40)
def BN (n : ND) (mem : Nat → Int32) (b : Nat) (a : AN) : Prop := CN n a ∧ MN mem b a ∧ WA a
/-- the ROW -/
def RwI (r_numbers : Nat → Int64) (r_size m_told : Int32) (m_row : Nat → Int64) : Prop := ∃ r, r ≤ 276 ∧ r_size = nI r ∧ m_told = nI r ∧ ∀ i, i < r → r_numbers i = m_row i
/-- THE TEXT -/
def TxI (x_size m_taped : Int32) (x_signs m_tape : Nat → Int32) : Prop := ∃ z, z ≤ 80 ∧ x_size = nI z ∧ m_taped = nI z ∧ ∀ i, i < z → x_signs i = m_tape i
/-- nets to be undone -/
def PaI (nd : Nat → ND) (mem : Nat → Int32) (p_size m_undos : Int32) : Prop := ∃ u, u ≤ 8 ∧ p_size = nI u ∧ m_undos = nI u ∧ ∀ k, k < u → ∃ a, BN (nd (4 + k)) mem ((5 + k) * 179) a
/-- nets kept -/
def KpI (nd : Nat → ND) (mem : Nat → Int32) (t_filled m_isKept : Nat → Int32) : Prop := ∀ i, i < 2 → t_filled i = m_isKept i ∧ (t_filled i = 0 ∨ (t_filled i = 1 ∧ ∃ a, BN (nd (2 + i)) mem ((1 + i) * 179) a))
set_option linter.unusedVariables false in
def Inv : IT := fun x_words x_wordCount x_size x_signs x_next g_longest g_many g_layers g_length g_aheadOf g_cameFrom g_queue r_numbers r_size p_size t_filled nd m_thrown m_told m_row m_tape m_taped m_at m_to m_mem m_undos m_places m_movers m_far m_way m_wayMany m_fromOf m_toOf m_longest m_wayCount m_thin m_ahead m_tried m_foundLow m_foundHigh m_nextLow m_nextHigh m_act m_first m_second m_random m_isKept =>
  (∃ a, BN (nd 0) m_mem 0 a) ∧ PaI nd m_mem p_size m_undos ∧ KpI nd m_mem t_filled m_isKept ∧ RwI r_numbers r_size m_told m_row ∧ TxI x_size m_taped x_signs m_tape
theorem Inv_0 : Inv z32 0 0 z32 0 z32 z64 z32 0 z32 z32 z32 z64 0 0 z32 (fun _ => nd0) 0 0 z64 z32 0 0 0 z32 0 z32 z32 z32 z32 0 z32 z32 z32 z64 z32 z32 0 0 0 0 0 z32 z32 z32 0 z32 := by
  have h0 : bset (fun _ => false) 24 = 0 := by decide +kernel
  have h1 : bset (fun _ => false) 20 = 0 := by decide +kernel
  have h2 : lset (fun _ => false) 40 = 0 := by decide +kernel
  refine ⟨⟨(fun _ => false, fun _ _ => false, 0, fun _ => 0, 0, fun _ => 0, fun _ => 0, fun _ _ => false), ?_, ?_, ?_⟩, ?_, ?_, ?_, ?_⟩
  · exact ⟨fun t _ => h0.symm, fun p h => absurd h (Nat.not_lt_zero p), fun t _ => h2.symm, fun p h => absurd h (Nat.not_lt_zero p), fun p h => absurd h (Nat.not_lt_zero p), h0.symm, rfl, rfl⟩
  · exact ⟨fun t _ => h0.symm, fun p h => absurd h (Nat.not_lt_zero p), fun t _ => ⟨h1.symm, h1.symm⟩, fun p h => absurd h (Nat.not_lt_zero p), fun p h => absurd h (Nat.not_lt_zero p), h0.symm, rfl, rfl⟩
  · have f : ∀ {P : Prop}, false = true → P := fun h => Bool.noConfusion h
    refine ⟨Nat.zero_le _, Nat.zero_le _, ?_, ?_, ?_, ?_, ?_, ?_, ?_, ?_⟩
    · exact fun t h => f h
    · exact fun p h => absurd h (Nat.not_lt_zero p)
    · exact fun p q h => absurd h (Nat.not_lt_zero p)
    · exact fun t h => f h
    · exact fun p q h => absurd h (Nat.not_lt_zero p)
    · exact fun t u h => f h
    · exact fun p h => absurd h (Nat.not_lt_zero p)
    · exact fun t k h => f h
  · exact ⟨0, Nat.zero_le _, rfl, rfl, fun k h => absurd h (Nat.not_lt_zero k)⟩
  · exact fun i _ => ⟨rfl, Or.inl rfl⟩
  · exact ⟨0, Nat.zero_le _, rfl, rfl, fun k h => absurd h (Nat.not_lt_zero k)⟩
  · exact ⟨0, Nat.zero_le _, rfl, rfl, fun k h => absurd h (Nat.not_lt_zero k)⟩
