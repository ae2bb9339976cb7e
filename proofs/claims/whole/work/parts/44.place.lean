/-! PURE 44: who is there, places; place, at -/
theorem nI_mul (a b : Nat) : nI a * nI b = nI (a * b) := (Int32.ofNat_mul a b).symm
theorem ofs (q k : Nat) : nI q * 179 + nI k = nI (q * 179 + k) := by
  rw [show (179 : Int32) = nI 179 from rfl, nI_mul, nI_add]
theorem m_at_ {mem : Nat → Int32} {q k : Nat} (hq : q ≤ 12) (hk : k < 179) : chk (inb (nI q * 179 + nI k) 2327) (some (mem (ix (nI q * 179 + nI k)))) = some (mem (q * 179 + k)) := by
  rw [ofs, chk_nI (by omega) (by decide), ix_nI (by omega)]
theorem m_there {mem : Nat → Int32} {q : Nat} {a : AN} (h : MN mem (q * 179) a) (hq : q ≤ 12) : f_X7_there mem (nI q) = some (bset (aAl a) 24) := by
  unfold f_X7_there
  rw [show (0 : Int32) = nI 0 from rfl, m_at_ hq (by omega)]
  exact congrArg some h.2.2.2.2.2.1
theorem m_placed {mem : Nat → Int32} {q : Nat} {a : AN} (h : MN mem (q * 179) a) (hq : q ≤ 12) : f_X7_placed mem (nI q) = some (nI (aS a)) := by
  unfold f_X7_placed
  rw [show (1 : Int32) = nI 1 from rfl, m_at_ hq (by omega)]
  exact congrArg some h.2.2.2.2.2.2.1
theorem m_inPlace {mem : Nat → Int32} {q : Nat} {a : AN} (h : MN mem (q * 179) a) (hq : q ≤ 12) {p : Nat} (hp : p < aS a) (hs : aS a ≤ 24) : f_X7_inPlace mem (nI q) (nI p) = some (nI (aO a p)) := by
  unfold f_X7_inPlace
  rw [show (3 : Int32) = nI 3 from rfl, ofs, nI_add, chk_nI (by omega) (by decide), ix_nI (by omega)]
  exact congrArg some (h.2.1 p hp)
theorem m_narrower {mem : Nat → Int32} {q : Nat} {a : AN} (h : MN mem (q * 179) a) (hq : q ≤ 12) {t : Nat} (ht : t < 24) : f_X7_narrower mem (nI q) (nI t) = some (bset (aNr a t) 24) := by
  unfold f_X7_narrower
  rw [show (107 : Int32) = nI 107 from rfl, ofs, nI_add, chk_nI (by omega) (by decide), ix_nI (by omega)]
  exact congrArg some (h.1 t ht)
theorem neg_lt {n : Nat} (h : n < 2 ^ 31) : ¬ nI n < 0 := by
  rw [Int32.lt_iff_toInt_lt, nI_toInt h]
  have : (0 : Int32).toInt = 0 := rfl
  rw [this]; omega
theorem in23 (x : Int32) : f_X7_in x.toInt64 0 23 = 0 ↔ ¬ ∃ t, t < 24 ∧ x = nI t := by
  rw [show (23 : Int64) = (23 : Int32).toInt64 from rfl, in32]
  constructor
  · rintro h ⟨t, ht, rfl⟩
    rcases h with h | h
    · exact neg_lt (by omega) h
    · rw [show (23 : Int32) = nI 23 from rfl, nI_ltI (by omega) (by omega)] at h; omega
  · intro h
    by_cases h0 : x < 0
    · exact .inl h0
    · obtain ⟨n, hn, rfl⟩ := nonneg h0
      refine .inr ?_
      rw [show (23 : Int32) = nI 23 from rfl, nI_ltI (by omega) (by omega)]
      exact Decidable.byContradiction fun q => h ⟨n, by omega, rfl⟩
/-- x is a term's number -/
def isT (a : AN) (x : Int32) : Prop := ∃ t, x = nI t ∧ t < 24 ∧ aAl a t = true
theorem bt24 (P : Nat → Bool) {t : Nat} (ht : t < 24) : bt (bset P 24) t = P t := by
  rw [bt_bset P (by omega)]
  simp [ht]
theorem c_has1 {a : AN} {t : Nat} (ht : t < 24) (h : aAl a t = true) : f_X2_has (bset (aAl a) 24) (nI t) = 1 := by
  unfold f_X2_has
  rw [if_neg (neg_lt (by omega)), if_neg (by rw [le24 (by omega)]; omega), if_neg (by rw [holds0 (by omega), bt24 _ ht, h]; simp)]
theorem c_has0 {a : AN} {x : Int32} (h : ¬ isT a x) : f_X2_has (bset (aAl a) 24) x = 0 := by
  unfold f_X2_has
  by_cases h0 : x < 0
  · rw [if_pos h0]
  · obtain ⟨n, hn, rfl⟩ := nonneg h0
    rw [if_neg h0]
    by_cases h1 : 24 ≤ n
    · rw [if_pos ((le24 hn).mpr h1)]
    · rw [if_neg (fun q => h1 ((le24 hn).mp q)), if_pos]
      rw [holds0 (by omega), bt24 _ (by omega)]
      exact Bool.eq_false_iff.mpr (fun q => h ⟨n, rfl, by omega, q⟩)
theorem m_isIn1 {mem : Nat → Int32} {q : Nat} {a : AN} (h : MN mem (q * 179) a) (hq : q ≤ 12) {t : Nat} (ht : t < 24) (hx : aAl a t = true) : f_X7_isIn mem (nI q) (nI t) = some 1 := by
  unfold f_X7_isIn
  rw [if_neg (fun z => (in23 _).mp z ⟨t, ht, rfl⟩), m_there h hq]
  show (if f_X7_has (bset (aAl a) 24) (nI t) = 0 then some 0 else some 1) = some 1
  rw [if_neg (by rw [has0 (by omega), bt24 _ ht, hx]; simp)]
theorem m_isIn0 {mem : Nat → Int32} {q : Nat} {a : AN} (h : MN mem (q * 179) a) (hq : q ≤ 12) {x : Int32} (hx : ¬ isT a x) : f_X7_isIn mem (nI q) x = some 0 := by
  unfold f_X7_isIn
  by_cases h0 : ∃ t, t < 24 ∧ x = nI t
  · obtain ⟨t, ht, rfl⟩ := h0
    rw [if_neg (fun z => (in23 _).mp z ⟨t, ht, rfl⟩), m_there h hq]
    show (if f_X7_has (bset (aAl a) 24) (nI t) = 0 then some 0 else some 1) = some 0
    rw [if_pos]
    rw [has0 (by omega), bt24 _ ht]
    exact Bool.eq_false_iff.mpr (fun q => hx ⟨t, rfl, ht, q⟩)
  · rw [if_pos ((in23 _).mpr h0)]
theorem m_isTerm_eq (mem : Nat → Int32) (x : Int32) : f_X7_isTerm mem x = f_X7_isIn mem (nI 0) x := rfl
theorem ordne {a : AN} (hw : WA a) {p j : Nat} (hp : p < aS a) (hj : j < p) : ¬ nI (aO a j) = nI (aO a p) := by
  have h1 := hw.2.2.1 _ (hw.2.2.2.1 p hp)
  have h2 := hw.2.2.1 _ (hw.2.2.2.1 j (by omega))
  rw [nI_eq (by omega) (by omega)]
  intro e
  have := hw.2.2.2.2.1 j p (by omega) hp e
  omega
theorem c_placeOf {n : ND} {a : AN} (h : CN n a) (hw : WA a) {p : Nat} (hp : p < aS a) : f_X2_placeOf n.2.1 (nI (aS a)) (nI (aO a p)) = some (nI p) := by
  have hs := hw.1
  unfold f_X2_placeOf f_X2_placeOf_l2
  refine loop_run (fun j => nI j) p 200 (by omega) ?_ ?_
  · intro j hj rc
    show f_X2_placeOf_b2 _ _ _ _ _ = _
    unfold f_X2_placeOf_b2
    rw [if_neg (by rw [nI_leI (by omega) (by omega)]; omega), chk_nI (by omega) (by decide), ix_nI (by omega), h.2.1 j (by omega), if_neg (ordne hw hp hj), nI_1]
  · intro rc
    show f_X2_placeOf_b2 _ _ _ _ _ = _
    unfold f_X2_placeOf_b2
    rw [if_neg (by rw [nI_leI (by omega) (by omega)]; omega), chk_nI (by omega) (by decide), ix_nI (by omega), h.2.1 p hp, if_pos rfl]
theorem m_placeOf {mem : Nat → Int32} {q : Nat} {a : AN} (h : MN mem (q * 179) a) (hq : q ≤ 12) (hw : WA a) {p : Nat} (hp : p < aS a) : f_X7_placeOf mem (nI q) (nI (aO a p)) = some (nI p) := by
  have hs := hw.1
  unfold f_X7_placeOf f_X7_placeOf_l2
  refine loop_run (fun j => nI j) p 200 (by omega) ?_ ?_
  · intro j hj rc
    show f_X7_placeOf_b2 _ _ _ _ _ = _
    unfold f_X7_placeOf_b2
    rw [m_inPlace h hq (by omega) hs]
    show (if nI (aO a j) = nI (aO a p) then some (nI j) else rc (nI j + 1)) = _
    rw [if_neg (ordne hw hp hj), nI_1]
  · intro rc
    show f_X7_placeOf_b2 _ _ _ _ _ = _
    unfold f_X7_placeOf_b2
    rw [m_inPlace h hq hp hs]
    show (if nI (aO a p) = nI (aO a p) then some (nI p) else rc (nI p + 1)) = _
    rw [if_pos rfl]
theorem inv_9 (x_words : Nat → Int32) (x_wordCount : Int32) (x_size : Int32) (x_signs : Nat → Int32) (x_next : Int32) (g_longest : Nat → Int32) (g_many : Nat → Int64) (g_layers : Nat → Int32) (g_length : Int32) (g_aheadOf : Nat → Int32) (g_cameFrom : Nat → Int32) (g_queue : Nat → Int32) (r_numbers : Nat → Int64) (r_size : Int32) (p_size : Int32) (t_filled : Nat → Int32) (nd : Nat → ND) (m_thrown : Int32) (m_told : Int32) (m_row : Nat → Int64) (m_tape : Nat → Int32) (m_taped : Int32) (m_at : Int32) (m_to : Int32) (m_mem : Nat → Int32) (m_undos : Int32) (m_places : Nat → Int32) (m_movers : Nat → Int32) (m_far : Nat → Int32) (m_way : Nat → Int32) (m_wayMany : Int32) (m_fromOf : Nat → Int32) (m_toOf : Nat → Int32) (m_longest : Nat → Int32) (m_wayCount : Nat → Int64) (m_thin : Nat → Int32) (m_ahead : Nat → Int32) (m_tried : Int32) (m_foundLow : Int32) (m_foundHigh : Int32) (m_nextLow : Int32) (m_nextHigh : Int32) (m_act : Nat → Int32) (m_first : Nat → Int32) (m_second : Nat → Int32) (m_random : Int32) (m_isKept : Nat → Int32) (x y : Int32) (h : Inv x_words x_wordCount x_size x_signs x_next g_longest g_many g_layers g_length g_aheadOf g_cameFrom g_queue r_numbers r_size p_size t_filled nd m_thrown m_told m_row m_tape m_taped m_at m_to m_mem m_undos m_places m_movers m_far m_way m_wayMany m_fromOf m_toOf m_longest m_wayCount m_thin m_ahead m_tried m_foundLow m_foundHigh m_nextLow m_nextHigh m_act m_first m_second m_random m_isKept) : S_9 Inv x_words x_wordCount x_size x_signs x_next g_longest g_many g_layers g_length g_aheadOf g_cameFrom g_queue r_numbers r_size p_size t_filled nd m_thrown m_told m_row m_tape m_taped m_at m_to m_mem m_undos m_places m_movers m_far m_way m_wayMany m_fromOf m_toOf m_longest m_wayCount m_thin m_ahead m_tried m_foundLow m_foundHigh m_nextLow m_nextHigh m_act m_first m_second m_random m_isKept x y := by
  have h' := h
  obtain ⟨⟨a, hC, hM, hW⟩, hr⟩ := h
  have hM0 : MN m_mem (0 * 179) a := hM
  unfold S_9
  rw [hC.2.2.2.2.2.1, hC.2.2.2.2.2.2.1]
  by_cases hx : isT a x
  · obtain ⟨t, rfl, ht, hal⟩ := hx
    obtain ⟨p, hp, rfl⟩ := hW.2.2.2.2.2.1 t hal
    refine ⟨(nI p, 0), ?_, .inr ⟨nI p, ?_, rfl, rfl, ⟨a, hC, hM, hW⟩, hr⟩⟩
    · unfold f_X7_place
      rw [m_isTerm_eq, m_isIn1 hM0 (by decide) ht hal]
      show f_X7_place_b14 m_thrown m_mem (nI (aO a p)) 0 = _
      unfold f_X7_place_b14
      rw [if_neg (by decide), show (0 : Int32) = nI 0 from rfl, m_placeOf hM0 (by decide) hW hp]
      rfl
    · unfold f_X6_place
      rw [c_has1 ht hal, if_neg (by decide), c_placeOf hC hW hp]
      rfl
  · refine ⟨(0, 1), ?_, .inl ⟨c_has0 hx, rfl, ⟨a, hC, hM, hW⟩, hr⟩⟩
    unfold f_X7_place
    rw [m_isTerm_eq, m_isIn0 hM0 (by decide) hx]
    rfl
