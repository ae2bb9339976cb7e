/-! PURE 58: changes that are laid aside and can be undone -/
def agr (mem m1 : Nat → Int32) : Prop := ∀ q, q ≠ 0 → q ≠ 3 → q ≠ 4 → ∀ k, k < 179 → m1 (q * 179 + k) = mem (q * 179 + k)
theorem BN_agr {n : ND} {mem m1 : Nat → Int32} {q : Nat} {a : AN} (ag : agr mem m1) (h0 : q ≠ 0) (h3 : q ≠ 3) (h4 : q ≠ 4) (h : BN n mem (q * 179) a) : BN n m1 (q * 179) a := ⟨h.1, MN_cong h.2.2 h.2.1 (ag q h0 h3 h4), h.2.2⟩
theorem agr_cpy (mem : Nat → Int32) {q1 q2 : Nat} (h : q2 = 0 ∨ q2 = 3 ∨ q2 = 4) : agr mem (cpy mem q1 q2) := by
  intro q h0 h3 h4 k hk
  unfold cpy cpj
  rw [if_neg]
  intro ⟨z1, z2⟩
  omega
theorem agr_refl (mem : Nat → Int32) : agr mem mem := fun _ _ _ _ _ _ => rfl
theorem agr_trans {m1 m2 m3 : Nat → Int32} (h : agr m1 m2) (g : agr m2 m3) : agr m1 m3 := fun q h0 h3 h4 k hk => (g q h0 h3 h4 k hk).trans (h q h0 h3 h4 k hk)
theorem agr_upd {mem m1 : Nat → Int32} (h : agr mem m1) {i : Nat} (hi : i < 179) (v : Int32) : agr mem (upd m1 i v) := by
  intro q h0 h3 h4 k hk
  unfold upd
  rw [if_neg (by omega)]
  exact h q h0 h3 h4 k hk
theorem chgP {nd : Nat → ND} {mem m1 : Nat → Int32} {ps us : Int32} {tf ik : Nat → Int32} (ag : agr mem m1) (hP : PaI nd mem ps us) (hK : KpI nd mem tf ik) (n0 n12 : ND) : PaI (va_up (va_up nd 0 n0) 12 n12) m1 ps us ∧ KpI (va_up (va_up nd 0 n0) 12 n12) m1 tf ik := by
  constructor
  · obtain ⟨u, hu, e1, e2, hs⟩ := hP
    refine ⟨u, hu, e1, e2, fun k hk => ?_⟩
    obtain ⟨b, hb⟩ := hs k hk
    refine ⟨b, ?_⟩
    unfold va_up
    rw [if_neg (by omega), if_neg (by omega)]
    exact BN_agr ag (by omega) (by omega) (by omega) hb
  · intro i hi
    obtain ⟨h1, h2⟩ := hK i hi
    refine ⟨h1, ?_⟩
    rcases h2 with h2 | ⟨h2, b, hb⟩
    · exact .inl h2
    · refine .inr ⟨h2, b, ?_⟩
      unfold va_up
      rw [if_neg (by omega), if_neg (by omega)]
      exact BN_agr ag (by omega) (by omega) (by omega) hb
def shf (m : Nat → Int32) (j : Nat) : Nat → Int32 := itr (fun j m => cpy m (6 + j) (5 + j)) m j
theorem shf_s (m : Nat → Int32) (j : Nat) : shf m (j + 1) = cpy (shf m j) (6 + j) (5 + j) := rfl
theorem MN_shf {m : Nat → Int32} {b : AN} (hw : WA b) : ∀ j, j ≤ 7 → (∀ q, q < 5 ∨ 5 + j ≤ q → MN m (q * 179) b → MN (shf m j) (q * 179) b) ∧ (∀ i, i < j → MN m ((6 + i) * 179) b → MN (shf m j) ((5 + i) * 179) b) := by
  intro j
  induction j with
  | zero => exact fun _ => ⟨fun q _ h => h, fun i hi => absurd hi (Nat.not_lt_zero _)⟩
  | succ j ih =>
    intro hj
    obtain ⟨h1, h2⟩ := ih (by omega)
    rw [shf_s]
    constructor
    · intro q hq h
      exact MN_cpo hw (h1 q (by omega) h) (by omega)
    · intro i hi h
      by_cases e : i = j
      · subst e
        exact MN_cpy hw (h1 _ (by omega) h)
      · exact MN_cpo hw (h2 i (by omega) h) (by omega)
theorem m_lays8 (m : Nat → Int32) : f_X7_lays m (nI 8) = some (cpy (shf m 7) 3 12, 8) := by
  unfold f_X7_lays
  rw [if_pos (show nI 8 = 8 from rfl)]
  unfold f_X7_lays_l11
  refine loop_go (fun j => (nI j, shf m j)) 7 200 (by decide) rfl ?_ ?_
  · intro j hj rc
    show f_X7_lays_b11 _ _ _ _ = _
    unfold f_X7_lays_b11
    rw [nI_1, if_neg (show ¬ (8 : Int32) ≤ nI (j + 1) by rw [show (8 : Int32) = nI 8 from rfl, nI_leI (by decide) (by omega)]; omega), show (5 : Int32) = nI 5 from rfl, nI_add, nI_1, m_copies (shf m j) (q1 := 5 + j + 1) (q2 := 5 + j) (by omega) (by omega) (by omega), sbind, shf_s, show 5 + j + 1 = 6 + j by omega]
  · intro rc
    show f_X7_lays_b11 _ _ _ _ = _
    unfold f_X7_lays_b11 f_X7_lays_b47
    rw [if_pos (show (8 : Int32) ≤ nI 7 + 1 by decide), show f_X7_copies (shf m 7) 3 (5 + (nI 8 - 1)) = some (cpy (shf m 7) 3 12) from m_copies (shf m 7) (q1 := 3) (q2 := 12) (by omega) (by omega) (by omega), sbind]
    rfl
theorem chgC {nd : Nat → ND} {mem m1 : Nat → Int32} {ps us : Int32} {tf ik : Nat → Int32} (ag : agr mem m1) (hP : PaI nd mem ps us) (hK : KpI nd mem tf ik) {n0 n12 : ND} {a a' : AN} (hA : BN n0 m1 0 a') (hB : BN n12 m1 (3 * 179) a) (sa bb : Nat → Nat) : ∃ k, k ≤ 8 ∧ ps = Int32.ofNat k ∧ ∃ bb' sa' mem', f_X3_commit sa bb ps = some (bb', sa', psz k) ∧ f_X7_lays m1 us = some (mem', psz k) ∧ (∃ a, BN ((fun r => va_up (va_up nd 0 n0) 12 n12 (sgm k r)) 0) mem' 0 a) ∧ PaI (fun r => va_up (va_up nd 0 n0) 12 n12 (sgm k r)) mem' (psz k) (psz k) ∧ KpI (fun r => va_up (va_up nd 0 n0) 12 n12 (sgm k r)) mem' tf ik := by
  obtain ⟨hP', hK'⟩ := chgP ag hP hK n0 n12
  obtain ⟨u, hu, e1, e2, hs⟩ := hP'
  subst e1 e2
  refine ⟨u, hu, rfl, ?_⟩
  have hA' : BN n0 m1 (0 * 179) a' := hA
  have s0 : sgm u 0 = 0 := by
    unfold sgm
    by_cases h : u < 8
    · rw [if_pos h, if_neg (by omega), if_neg (by omega)]
    · rw [if_neg h, if_neg (by omega), if_neg (by omega)]
  have sk : ∀ i, i < 2 → sgm u (2 + i) = 2 + i := by
    intro i hi
    unfold sgm
    by_cases h : u < 8
    · rw [if_pos h, if_neg (by omega), if_neg (by omega)]
    · rw [if_neg h, if_neg (by omega), if_neg (by omega)]
  have g0 : va_up (va_up nd 0 n0) 12 n12 0 = n0 := rfl
  have g12 : va_up (va_up nd 0 n0) 12 n12 12 = n12 := rfl
  obtain ⟨N, dN⟩ : ∃ N, N = va_up (va_up nd 0 n0) 12 n12 := ⟨_, rfl⟩
  rw [← dN] at g0 g12 hs hK' ⊢
  by_cases h8 : u < 8
  · have pz : psz u = nI (u + 1) := by unfold psz; rw [if_pos h8]; rfl
    have ne8 : ¬ nI u = 8 := by rw [show (8 : Int32) = nI 8 from rfl, nI_eq (by omega) (by omega)]; omega
    rw [pz]
    refine ⟨va_up bb u (sa 0), bb u, cpy m1 3 (5 + u), ?_, ?_, ⟨a', ?_⟩, ⟨u + 1, by omega, rfl, rfl, ?_⟩, ?_⟩
    · unfold f_X3_commit
      rw [if_neg ne8, chk_nI h8 (by decide), chk_nI h8 (by decide), ix_nI (by omega), nI_1]
    · unfold f_X7_lays f_X7_lays_b47
      rw [if_neg ne8, show (3 : Int32) = nI 3 from rfl, show (5 : Int32) = nI 5 from rfl, nI_add, m_copies m1 (by omega) (by omega) (by omega), sbind, nI_1]
    · show BN (N (sgm u 0)) _ _ _
      rw [s0, g0]
      exact BN_cpo (q := 0) hA' (by omega)
    · intro k hk
      show ∃ a, BN (N (sgm u (4 + k))) _ _ _
      by_cases e : k = u
      · subst e
        have : sgm k (4 + k) = 12 := by unfold sgm; rw [if_pos h8, if_pos rfl]
        rw [this, g12]
        exact ⟨a, BN_cpy hB hB.1⟩
      · have : sgm u (4 + k) = 4 + k := by unfold sgm; rw [if_pos h8, if_neg (by omega), if_neg (by omega)]
        rw [this]
        obtain ⟨b, hb⟩ := hs k (by omega)
        exact ⟨b, BN_cpo hb (by omega)⟩
    · intro i hi
      obtain ⟨h1, h2⟩ := hK' i hi
      refine ⟨h1, ?_⟩
      rcases h2 with h2 | ⟨h2, b, hb⟩
      · exact .inl h2
      · refine .inr ⟨h2, b, ?_⟩
        show BN (N (sgm u (2 + i))) _ _ _
        rw [sk i hi]
        exact BN_cpo hb (by omega)
  · have u8 : u = 8 := by omega
    subst u8
    have sh : ∀ {n : ND} {q : Nat} {b : AN}, q < 5 → BN n m1 (q * 179) b → BN n (cpy (shf m1 7) 3 12) (q * 179) b := by
      intro n q b hq hb
      exact BN_cpo (q := q) (⟨hb.1, (MN_shf hb.2.2 7 (by omega)).1 q (.inl hq) hb.2.1, hb.2.2⟩ : BN n (shf m1 7) (q * 179) b) (by omega)
    refine ⟨va_up (rotB bb) 7 (sa 0), rotB bb 7, cpy (shf m1 7) 3 12, ?_, m_lays8 m1, ⟨a', ?_⟩, ⟨8, by omega, rfl, rfl, ?_⟩, ?_⟩
    · unfold f_X3_commit
      rw [if_pos (show nI 8 = 8 from rfl)]
      rfl
    · show BN (N (sgm 8 0)) _ _ _
      rw [s0, g0]
      exact sh (q := 0) (by omega) hA'
    · intro k hk
      show ∃ a, BN (N (sgm 8 (4 + k))) _ _ _
      by_cases e : k = 7
      · subst e
        rw [show sgm 8 (4 + 7) = 12 from rfl, g12]
        have : BN n12 (shf m1 7) (3 * 179) a := ⟨hB.1, (MN_shf hB.2.2 7 (by omega)).1 3 (.inl (by omega)) hB.2.1, hB.2.2⟩
        exact ⟨a, BN_cpy this this.1⟩
      · have : sgm 8 (4 + k) = 4 + (k + 1) := by unfold sgm; rw [if_neg (by omega), if_neg (by omega), if_pos (by omega)]; omega
        rw [this]
        obtain ⟨b, hb⟩ := hs (k + 1) (by omega)
        refine ⟨b, BN_cpo ⟨hb.1, (MN_shf hb.2.2 7 (by omega)).2 k (by omega) ?_, hb.2.2⟩ (by omega)⟩
        have := hb.2.1
        rw [show 5 + (k + 1) = 6 + k by omega] at this
        exact this
    · intro i hi
      obtain ⟨h1, h2⟩ := hK' i hi
      refine ⟨h1, ?_⟩
      rcases h2 with h2 | ⟨h2, b, hb⟩
      · exact .inl h2
      · refine .inr ⟨h2, b, ?_⟩
        show BN (N (sgm 8 (2 + i))) _ _ _
        rw [sk i hi]
        exact sh (by omega) hb
