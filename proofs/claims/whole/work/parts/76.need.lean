/-! PURE 76: needless links; needless, thins -/
def nsum (f : Nat → Nat) : Nat → Nat
  | 0 => 0
  | n + 1 => nsum f n + f n
theorem nsum_s (f : Nat → Nat) (n : Nat) : nsum f (n + 1) = nsum f n + f n := rfl
theorem nsum_congr {f g : Nat → Nat} : ∀ n, (∀ k, k < n → f k = g k) → nsum f n = nsum g n := by
  intro n
  induction n with
  | zero => intro _; rfl
  | succ n ih => intro h; rw [nsum_s, nsum_s, ih (fun k hk => h k (by omega)), h n (by omega)]
theorem nsum_le {f g : Nat → Nat} : ∀ n, (∀ k, k < n → f k ≤ g k) → nsum f n ≤ nsum g n := by
  intro n
  induction n with
  | zero => intro _; exact Nat.le_refl _
  | succ n ih =>
    intro h
    have := ih (fun k hk => h k (by omega))
    have := h n (by omega)
    rw [nsum_s, nsum_s]; omega
theorem nsum_add (f g : Nat → Nat) (n : Nat) : nsum (fun k => f k + g k) n = nsum f n + nsum g n := by
  induction n with
  | zero => rfl
  | succ n ih => rw [nsum_s, nsum_s, nsum_s, ih]; omega
theorem nsum_0 {f : Nat → Nat} : ∀ n, (∀ k, k < n → f k = 0) → nsum f n = 0 := by
  intro n
  induction n with
  | zero => intro _; rfl
  | succ n ih => intro h; rw [nsum_s, ih (fun k hk => h k (by omega)), h n (by omega)]
theorem nsum_swap (f : Nat → Nat → Nat) (m : Nat) : ∀ n, nsum (fun x => nsum (fun y => f x y) m) n = nsum (fun y => nsum (fun x => f x y) n) m := by
  intro n
  induction n with
  | zero => exact (nsum_0 m (fun _ _ => rfl)).symm
  | succ n ih => rw [nsum_s, ih, ← nsum_add]; rfl
theorem cnt_nsum (P : Nat → Bool) (n : Nat) : cnt P n = nsum (fun k => if P k then 1 else 0) n := by
  induction n with
  | zero => rfl
  | succ n ih =>
    rw [cnt_s, nsum_s, ih]
    by_cases h : P n = true
    · rw [if_pos h, if_pos h]
    · rw [if_neg h, if_neg h]; rfl
/-- needless -/
def NL (E : Nat → Nat → Bool) (x y : Nat) : Prop := E x y = true ∧ ∃ o, o ≠ y ∧ E x o = true ∧ Rc E o y
noncomputable def PK (E : Nat → Nat → Bool) (k : Nat) : Bool := pb (NL E (k / 24) (k % 24))
theorem PK_at (E : Nat → Nat → Bool) {x y : Nat} (hy : y < 24) : PK E (24 * x + y) = pb (NL E x y) := by
  unfold PK
  rw [show (24 * x + y) / 24 = x by omega, show (24 * x + y) % 24 = y by omega]
theorem PK_row (E : Nat → Nat → Bool) (x : Nat) : cnt (PK E) (24 * (x + 1)) = cnt (PK E) (24 * x) + cnt (fun y => pb (NL E x y)) 24 := by
  rw [show 24 * (x + 1) = 24 * x + 24 by omega, cnt_split]
  rw [cnt_congr (P := fun k => PK E (24 * x + k)) (Q := fun y => pb (NL E x y)) 24 (fun k hk => PK_at E hk)]
theorem PK_276 {a : AN} (hW : WA a) : cnt (PK (aNr a)) 576 ≤ 276 := by
  have h1 : ∀ j, cnt (PK (aNr a)) (24 * j) = nsum (fun x => nsum (fun y => if pb (NL (aNr a) x y) then 1 else 0) 24) j := by
    intro j
    induction j with
    | zero => rfl
    | succ j ih => rw [PK_row, ih, nsum_s, cnt_nsum (fun y => pb (NL (aNr a) j y))]
  have h2 := h1 24
  have h3 := nsum_swap (fun x y => if pb (NL (aNr a) x y) then 1 else 0) 24 24
  have h4 : nsum (fun x => nsum (fun y => (if pb (NL (aNr a) x y) then 1 else 0) + (if pb (NL (aNr a) y x) then 1 else 0)) 24) 24 ≤ nsum (fun x => nsum (fun y => if x = y then 0 else 1) 24) 24 := by
    refine nsum_le 24 (fun x _ => nsum_le 24 (fun y _ => ?_))
    by_cases q1 : NL (aNr a) x y
    · have l1 := pcO_lt hW q1.1
      by_cases q2 : NL (aNr a) y x
      · have l2 := pcO_lt hW q2.1
        omega
      · rw [if_pos (pb_iff.mpr q1), if_neg (fun z => q2 (pb_iff.mp z)), if_neg (fun e => by rw [e] at l1; omega)]
        omega
    · by_cases q2 : NL (aNr a) y x
      · have l2 := pcO_lt hW q2.1
        rw [if_neg (fun z => q1 (pb_iff.mp z)), if_pos (pb_iff.mpr q2), if_neg (fun e => by rw [e] at l2; omega)]
        omega
      · rw [if_neg (fun z => q1 (pb_iff.mp z)), if_neg (fun z => q2 (pb_iff.mp z))]
        omega
  have h5 : nsum (fun x => nsum (fun y => (if pb (NL (aNr a) x y) then 1 else 0) + (if pb (NL (aNr a) y x) then 1 else 0)) 24) 24 = nsum (fun x => nsum (fun y => if pb (NL (aNr a) x y) then 1 else 0) 24) 24 + nsum (fun x => nsum (fun y => if pb (NL (aNr a) y x) then 1 else 0) 24) 24 := by
    rw [← nsum_add]
    exact nsum_congr 24 (fun x _ => nsum_add _ _ 24)
  have h6 : nsum (fun x => nsum (fun y => if x = y then 0 else 1) 24) 24 = 552 := by decide +kernel
  have h7 : cnt (PK (aNr a)) 576 = cnt (PK (aNr a)) (24 * 24) := rfl
  omega
theorem c_need {n : ND} {a : AN} (hC : CN n a) (hW : WA a) {x : Nat} (hx : x < 24) : f_X2_needlessFrom n.1 n.2.1 (nI (aS a)) (nI x) = some (bsP (NL (aNr a) x)) := by
  unfold f_X2_needlessFrom f_X2_needlessFrom_l4
  refine loop_go (fun j => (bsP (fun y => ∃ z, z < j ∧ z ≠ y ∧ aNr a x z = true ∧ Rc (aNr a) z y), nI j)) 24 200 (by decide) ?_ ?_ ?_
  · have : bsP (fun y => ∃ z, z < 0 ∧ z ≠ y ∧ aNr a x z = true ∧ Rc (aNr a) z y) = 0 := by
      rw [bsP_0]
      rintro u _ ⟨o, z, _⟩
      exact absurd z (Nat.not_lt_zero _)
    rw [this]
    rfl
  · intro j hj rc
    show f_X2_needlessFrom_b4 _ _ _ _ _ _ _ = _
    unfold f_X2_needlessFrom_b4
    dsimp only
    rw [if_neg (n24 hj), chk_nI hx (by decide), ix_nI (by omega), nI_1]
    by_cases e : aNr a x j = true
    · rw [if_neg (by rw [c_linked hC hx hj, e]; decide), c_below hC hW (W_e2 hW e), sbind, bsP_one hj, bsP_not, bsP_or]
      refine congrArg (fun z => rc (z, nI (j + 1))) (bsP_congr (fun y _ => ⟨?_, ?_⟩))
      · rintro (⟨z, h1, h2⟩ | ⟨h1, h2⟩)
        · exact ⟨z, by omega, h2⟩
        · exact ⟨j, by omega, fun w => h2 w.symm, e, h1⟩
      · rintro ⟨z, h1, h2, h3, h4⟩
        by_cases ez : z = j
        · rw [ez] at h2 h4; exact .inr ⟨h4, fun w => h2 w.symm⟩
        · exact .inl ⟨z, by omega, h2, h3, h4⟩
    · rw [if_pos ((c_linked hC hx hj).mpr (Bool.eq_false_iff.mpr e))]
      refine congrArg (fun z => rc (z, nI (j + 1))) (bsP_congr (fun y _ => ⟨?_, ?_⟩))
      · rintro ⟨z, h1, h2⟩
        exact ⟨z, by omega, h2⟩
      · rintro ⟨z, h1, h2, h3, h4⟩
        by_cases ez : z = j
        · rw [ez] at h3; exact absurd h3 e
        · exact ⟨z, by omega, h2, h3, h4⟩
  · intro rc
    show f_X2_needlessFrom_b4 _ _ _ _ _ _ _ = _
    unfold f_X2_needlessFrom_b4
    dsimp only
    rw [if_pos y24, chk_nI hx (by decide), ix_nI (by omega), hC.1 x hx, bs_eq, bsP_and]
    refine congrArg some (bsP_congr (fun y _ => ⟨?_, ?_⟩))
    · rintro ⟨h0, z, h1, h2, h3⟩
      exact ⟨h0, z, h2, h3⟩
    · rintro ⟨h0, z, h2, h3⟩
      exact ⟨h0, z, (W_e24 hW h3.1).2, h2, h3⟩
theorem m_isNeed {mem : Nat → Int32} {a : AN} (h : MN mem 0 a) (hW : WA a) {x y : Nat} (hx : x < 24) (hy : y < 24) : f_X7_isNeedless mem (nI x) (nI y) = some (if pb (∃ o, o ≠ y ∧ aNr a x o = true ∧ Rc (aNr a) o y) then 1 else 0) := by
  have lk : ∀ o, o < 24 → f_X7_isLinked mem 0 (nI x) (nI o) = some (if aNr a x o then 1 else 0) := fun o ho => m_isLinked (q := 0) (h : MN mem (0 * 179) a) (by omega) hx ho
  have no : ∀ o, o < 24 → ¬ (o ≠ y ∧ aNr a x o = true ∧ Rc (aNr a) o y) → ∀ rc : Int32 → Option Int32, f_X7_isNeedless_b2 mem (nI x) (nI y) (fun x0_ => rc x0_) (nI o) = rc (nI (o + 1)) := by
    intro o ho hn rc
    unfold f_X7_isNeedless_b2 f_X7_isBelow
    rw [if_neg (n24 ho), nI_1]
    by_cases e : o = y
    · rw [if_pos (by rw [e])]
    · rw [if_neg (by rw [nI_eq (by omega) (by omega)]; exact e), lk o ho, sbind]
      by_cases e2 : aNr a x o = true
      · rw [e2, if_neg (by decide), Mb h hW ho, sbind, sbind, if_pos (by rw [bsP_has hy]; exact fun z => hn ⟨e, e2, z⟩)]
      · rw [show aNr a x o = false from Bool.eq_false_iff.mpr e2, if_pos (by decide)]
  unfold f_X7_isNeedless f_X7_isNeedless_l2
  by_cases hex : ∃ o, o ≠ y ∧ aNr a x o = true ∧ Rc (aNr a) o y
  · obtain ⟨o0, h0⟩ := hex
    obtain ⟨o, ho, hmin⟩ := lst_ex (Q := fun o => o ≠ y ∧ aNr a x o = true ∧ Rc (aNr a) o y) o0 h0
    have lo := (W_e24 hW ho.2.1).2
    rw [if_pos (pb_iff.mpr ⟨o0, h0⟩)]
    refine loop_go (fun j => nI j) o 200 (by omega) rfl (fun j hj rc => no j (by omega) (hmin j hj) rc) ?_
    intro rc
    show f_X7_isNeedless_b2 _ _ _ _ _ = _
    unfold f_X7_isNeedless_b2 f_X7_isBelow
    rw [if_neg (n24 lo), if_neg (by rw [nI_eq (by omega) (by omega)]; exact ho.1), lk o lo, sbind, ho.2.1, if_neg (by decide), Mb h hW lo, sbind, sbind, if_neg (by rw [bsP_has hy]; exact fun z => z ho.2.2)]
  · rw [if_neg (fun z => hex (pb_iff.mp z))]
    refine loop_go (fun j => nI j) 24 200 (by omega) rfl (fun j hj rc => no j hj (fun z => hex ⟨j, z⟩) rc) ?_
    intro rc
    show f_X7_isNeedless_b2 _ _ _ _ _ = _
    unfold f_X7_isNeedless_b2
    rw [if_pos y24]
theorem m_laysNeed {mem : Nat → Int32} {a : AN} (h : MN mem 0 a) (hW : WA a) (thin : Nat → Int32) : ∃ th, f_X7_laysNeedless mem thin = some (nI (cnt (PK (aNr a)) 576), th) ∧ ∀ x, x < 24 → th x = bsP (NL (aNr a) x) := by
  unfold f_X7_laysNeedless f_X7_laysNeedless_l4
  obtain ⟨r, hr, h⟩ := loop_rel (body := fun (_ : Unit) rc (v : Int32 × Int32 × (Nat → Int32)) => f_X7_laysNeedless_b4 mem (fun x0_ x1_ x2_ => rc (x0_, x1_, x2_)) v.1 v.2.1 v.2.2) (fun _ (r : Nat → Int32) => some (nI (cnt (PK (aNr a)) 576), r)) (fun r => ∀ x, x < 24 → r x = bsP (NL (aNr a) x)) 24 200 (fun x w => ∃ th, w = (nI (cnt (PK (aNr a)) (24 * x)), nI x, th) ∧ ∀ u, u < x → th u = bsP (NL (aNr a) u)) (by decide) (by
    rintro x w hx ⟨th, rfl, i1⟩
    by_cases e : x = 24
    · left
      refine ⟨th, by rw [← e]; exact i1, ?_⟩
      intro k rc
      show f_X7_laysNeedless_b4 _ _ _ _ _ = _
      unfold f_X7_laysNeedless_b4
      dsimp only
      rw [e, if_pos y24]
    · right
      have hx' : x < 24 := by omega
      refine ⟨hx', ?_⟩
      by_cases hal : aAl a x = true
      · obtain ⟨r, ⟨j1, j2⟩, hj⟩ := loop_rel (body := fun (k4 : Int32 → Int32 → (Nat → Int32) → Option (Int32 × (Nat → Int32))) rc (v : Int32 × Int32 × Int32 × (Nat → Int32)) => f_X7_laysNeedless_b19 mem k4 (fun x0_ x1_ x2_ x3_ => rc (x0_, x1_, x2_, x3_)) v.1 v.2.1 v.2.2.1 v.2.2.2) (fun k4 (r : Nat → Int32) => k4 (nI (cnt (PK (aNr a)) (24 * (x + 1)))) (nI (x + 1)) r) (fun r => (∀ u, u < x → r u = bsP (NL (aNr a) u)) ∧ r x = bsP (NL (aNr a) x)) 24 200 (fun y w => ∃ th, w = (nI (cnt (PK (aNr a)) (24 * x + y)), nI x, nI y, th) ∧ (∀ u, u < x → th u = bsP (NL (aNr a) u)) ∧ th x = bset (fun v => pb (NL (aNr a) x v)) y) (by decide) (by
          rintro y w hy ⟨th, rfl, k1, k2⟩
          by_cases e2 : y = 24
          · left
            refine ⟨th, ⟨k1, by rw [k2, e2]; rfl⟩, ?_⟩
            intro k rc
            show f_X7_laysNeedless_b19 _ _ _ _ _ _ _ = _
            unfold f_X7_laysNeedless_b19
            dsimp only
            rw [e2, if_pos y24, nI_1, show 24 * (x + 1) = 24 * x + 24 by omega]
          · right
            have hy' : y < 24 := by omega
            refine ⟨hy', ?_⟩
            have hb : cnt (PK (aNr a)) (24 * x + y) ≤ 24 * x + y := cnt_le _ _
            have hc := cnt_s (PK (aNr a)) (24 * x + y)
            rw [PK_at _ hy'] at hc
            have lk : f_X7_isLinked mem 0 (nI x) (nI y) = _ := m_isLinked (q := 0) (h : MN mem (0 * 179) a) (by omega) hx' hy'
            by_cases c : NL (aNr a) x y
            · rw [if_pos (pb_iff.mpr c)] at hc
              refine ⟨_, ⟨upd th x (th x ||| jshl 1 (nI y)), rfl, ?_, ?_⟩, ?_⟩
              · intro u hu
                rw [updO (by omega)]
                exact k1 u hu
              · rw [updN, k2, bset_s, if_pos (pb_iff.mpr c)]
              · intro k rc
                show f_X7_laysNeedless_b19 _ _ _ _ _ _ _ = _
                unfold f_X7_laysNeedless_b19
                dsimp only
                rw [if_neg (n24 hy'), m_isTerm1 h hx' hal, sbind, if_neg one0, lk, sbind, c.1, if_neg (by decide), m_isNeed h hW hx' hy', sbind, if_pos (pb_iff.mpr c.2), if_neg one0, chk_nI hx' (by decide), chk_nI hx' (by decide), ix_nI (by omega), nI_1, nI_1, show 24 * x + (y + 1) = 24 * x + y + 1 by omega, hc]
            · rw [if_neg (fun z => c (pb_iff.mp z))] at hc
              refine ⟨_, ⟨th, rfl, k1, ?_⟩, ?_⟩
              · rw [k2, bset_s, if_neg (fun z => c (pb_iff.mp z))]
              · intro k rc
                show f_X7_laysNeedless_b19 _ _ _ _ _ _ _ = _
                unfold f_X7_laysNeedless_b19
                dsimp only
                rw [if_neg (n24 hy'), m_isTerm1 h hx' hal, sbind, if_neg one0, lk, sbind, nI_1, show 24 * x + (y + 1) = 24 * x + y + 1 by omega, hc]
                by_cases e3 : aNr a x y = true
                · rw [e3, if_neg (by decide), m_isNeed h hW hx' hy', sbind, if_neg (fun z => c ⟨e3, pb_iff.mp z⟩), if_pos rfl]
                · rw [show aNr a x y = false from Bool.eq_false_iff.mpr e3, if_pos (by decide)]) (nI (cnt (PK (aNr a)) (24 * x)), nI x, 0, upd th x 0) ⟨upd th x 0, rfl, fun u hu => by rw [updO (by omega)]; exact i1 u hu, by rw [updN]; rfl⟩
        refine ⟨_, ⟨r, rfl, ?_⟩, ?_⟩
        · intro u hu
          by_cases eu : u = x
          · rw [eu]; exact j2
          · exact j1 u (by omega)
        · intro k rc
          show f_X7_laysNeedless_b4 _ _ _ _ _ = _
          unfold f_X7_laysNeedless_b4
          dsimp only
          rw [if_neg (n24 hx'), chk_nI hx' (by decide), ix_nI (by omega)]
          exact hj (fun x0_ x1_ x2_ => rc (x0_, x1_, x2_))
      · have z0 : ∀ y, ¬ NL (aNr a) x y := fun y z => hal (W_e1 hW z.1)
        have zc : cnt (PK (aNr a)) (24 * (x + 1)) = cnt (PK (aNr a)) (24 * x) := by
          rw [PK_row, cnt_0.mpr (fun k _ z => z0 k (pb_iff.mp z))]
          rfl
        refine ⟨_, ⟨upd th x 0, rfl, ?_⟩, ?_⟩
        · intro u hu
          by_cases eu : u = x
          · rw [eu, updN]
            exact (bsP_0.mpr (fun k _ => z0 k)).symm
          · rw [updO eu]
            exact i1 u (by omega)
        · intro k rc
          show f_X7_laysNeedless_b4 _ _ _ _ _ = _
          unfold f_X7_laysNeedless_b4
          dsimp only
          rw [if_neg (n24 hx'), chk_nI hx' (by decide), ix_nI (by omega), zc]
          unfold f_X7_laysNeedless_l19
          rw [show (200 : Nat) = 199 + 1 from rfl, loopN_succ]
          show f_X7_laysNeedless_b19 _ _ _ _ _ _ _ = _
          unfold f_X7_laysNeedless_b19
          rw [if_neg (show ¬ (24 : Int32) ≤ 0 by decide), m_isTerm0 h (al_isT hx' hal), sbind, if_pos rfl, nI_1]) (0, 0, thin) ⟨thin, rfl, fun u hu => absurd hu (Nat.not_lt_zero _)⟩
  exact ⟨r, h (), hr⟩
theorem rwf_cnt (P : Nat → Bool) (v f : Nat → Int64) (j : Nat) : (rwf P v f j).2 = cnt P j := by
  induction j with
  | zero => rfl
  | succ j ih =>
    rw [rwf_s, cnt_s]
    by_cases h : P j = true
    · rw [if_pos h, if_pos h]; exact congrArg (· + 1) ih
    · rw [if_neg h, if_neg h]; exact ih
noncomputable def PV (k : Nat) : Int64 := (100 * nI (k / 24) + nI (k % 24)).toInt64
theorem PV_at {x y : Nat} (hy : y < 24) : PV (24 * x + y) = (100 * nI x + nI y).toInt64 := by
  unfold PV
  rw [show (24 * x + y) / 24 = x by omega, show (24 * x + y) % 24 = y by omega]
theorem inv_20 (x_words : Nat → Int32) (x_wordCount : Int32) (x_size : Int32) (x_signs : Nat → Int32) (x_next : Int32) (g_longest : Nat → Int32) (g_many : Nat → Int64) (g_layers : Nat → Int32) (g_length : Int32) (g_aheadOf : Nat → Int32) (g_cameFrom : Nat → Int32) (g_queue : Nat → Int32) (r_numbers : Nat → Int64) (r_size : Int32) (p_size : Int32) (t_filled : Nat → Int32) (nd : Nat → ND) (m_thrown : Int32) (m_told : Int32) (m_row : Nat → Int64) (m_tape : Nat → Int32) (m_taped : Int32) (m_at : Int32) (m_to : Int32) (m_mem : Nat → Int32) (m_undos : Int32) (m_places : Nat → Int32) (m_movers : Nat → Int32) (m_far : Nat → Int32) (m_way : Nat → Int32) (m_wayMany : Int32) (m_fromOf : Nat → Int32) (m_toOf : Nat → Int32) (m_longest : Nat → Int32) (m_wayCount : Nat → Int64) (m_thin : Nat → Int32) (m_ahead : Nat → Int32) (m_tried : Int32) (m_foundLow : Int32) (m_foundHigh : Int32) (m_nextLow : Int32) (m_nextHigh : Int32) (m_act : Nat → Int32) (m_first : Nat → Int32) (m_second : Nat → Int32) (m_random : Int32) (m_isKept : Nat → Int32) (x y : Int32) (h : Inv x_words x_wordCount x_size x_signs x_next g_longest g_many g_layers g_length g_aheadOf g_cameFrom g_queue r_numbers r_size p_size t_filled nd m_thrown m_told m_row m_tape m_taped m_at m_to m_mem m_undos m_places m_movers m_far m_way m_wayMany m_fromOf m_toOf m_longest m_wayCount m_thin m_ahead m_tried m_foundLow m_foundHigh m_nextLow m_nextHigh m_act m_first m_second m_random m_isKept) : S_20 Inv x_words x_wordCount x_size x_signs x_next g_longest g_many g_layers g_length g_aheadOf g_cameFrom g_queue r_numbers r_size p_size t_filled nd m_thrown m_told m_row m_tape m_taped m_at m_to m_mem m_undos m_places m_movers m_far m_way m_wayMany m_fromOf m_toOf m_longest m_wayCount m_thin m_ahead m_tried m_foundLow m_foundHigh m_nextLow m_nextHigh m_act m_first m_second m_random m_isKept x y := by
  obtain ⟨⟨a, hC, hM, hW⟩, hP, hK, hR, hT⟩ := h
  unfold S_20
  have h276 := PK_276 hW
  have hle : ∀ k, k ≤ 576 → cnt (PK (aNr a)) k ≤ cnt (PK (aNr a)) 576 := fun k hk => cnt_mono _ hk
  obtain ⟨P, dP⟩ : ∃ P, P = PK (aNr a) := ⟨_, rfl⟩
  have eP : ∀ x y, y < 24 → P (24 * x + y) = pb (NL (aNr a) x y) := by
    intro x y hy
    rw [dP]
    exact PK_at _ hy
  obtain ⟨th, e1, f1⟩ := m_laysNeed hM hW m_thin
  rw [← dP] at h276 hle e1
  have E1 : f_X6_needless (nd 0).1 (nd 0).2.1 (nd 0).2.2.2.2.2.2.2.1 r_numbers r_size = some (nI (cnt P 576), (rwf P PV r_numbers 576).1, nI (cnt P 576)) := by
    rw [hC.2.2.2.2.2.2.1]
    unfold f_X6_needless f_X6_needless_l9
    refine loop_go (fun x => (nI x, (rwf P PV r_numbers (24 * x)).1, nI (cnt P (24 * x)))) 24 200 (by decide) rfl ?_ ?_
    · intro x hx rc
      show f_X6_needless_b9 _ _ _ _ _ _ _ = _
      unfold f_X6_needless_b9
      dsimp only
      rw [if_neg (n24 hx), c_need hC hW hx, sbind]
      unfold f_X6_needless_l26
      refine loop_go (fun y => (nI x, bsP (NL (aNr a) x), nI y, (rwf P PV r_numbers (24 * x + y)).1, nI (cnt P (24 * x + y)))) 24 200 (by decide) rfl ?_ ?_
      · intro y hy rc2
        show f_X6_needless_b26 _ _ _ _ _ _ _ _ _ _ = _
        unfold f_X6_needless_b26
        dsimp only
        have hc := rwf_cnt P PV r_numbers (24 * x + y)
        rw [if_neg (n24 hy), nI_1, show 24 * x + (y + 1) = 24 * x + y + 1 by omega, rwf_s, cnt_s, eP x y hy]
        by_cases q : NL (aNr a) x y
        · have hlt : cnt P (24 * x + y) < cnt P 576 := cnt_lt (by omega) (by rw [eP x y hy]; exact pb_iff.mpr q)
          rw [if_neg (by rw [bsP_hold hy]; exact fun z => z q), c_add (by omega), sbind, if_pos (pb_iff.mpr q), if_pos (pb_iff.mpr q), PV_at hy, hc]
        · rw [if_pos (by rw [bsP_hold hy]; exact q), if_neg (fun z => q (pb_iff.mp z)), if_neg (fun z => q (pb_iff.mp z))]
      · intro rc2
        show f_X6_needless_b26 _ _ _ _ _ _ _ _ _ _ = _
        unfold f_X6_needless_b26
        dsimp only
        rw [if_pos y24, nI_1, show 24 * (x + 1) = 24 * x + 24 by omega]
    · intro rc
      show f_X6_needless_b9 _ _ _ _ _ _ _ = _
      unfold f_X6_needless_b9
      dsimp only
      rw [if_pos y24]
  have E2 : f_X7_needless m_thrown m_told m_row m_mem m_thin = some (nI (cnt P 576), 0, nI (cnt P 576), (rwf P PV m_row 576).1, th) := by
    unfold f_X7_needless
    rw [e1, sbind]
    dsimp only
    unfold f_X7_needless_l17
    refine loop_go (fun x => (nI (cnt P 576), nI x, 0, nI (cnt P (24 * x)), (rwf P PV m_row (24 * x)).1, th)) 24 200 (by decide) rfl ?_ ?_
    · intro x hx rc
      show f_X7_needless_b17 _ _ _ _ _ _ _ _ = _
      unfold f_X7_needless_b17
      dsimp only
      rw [if_neg (n24 hx)]
      unfold f_X7_needless_l25
      refine loop_go (fun y => (nI (cnt P 576), nI x, nI y, 0, nI (cnt P (24 * x + y)), (rwf P PV m_row (24 * x + y)).1, th)) 24 200 (by decide) rfl ?_ ?_
      · intro y hy rc2
        show f_X7_needless_b25 _ _ _ _ _ _ _ _ _ _ = _
        unfold f_X7_needless_b25
        dsimp only
        have hc := rwf_cnt P PV m_row (24 * x + y)
        have fx := f1 x hx
        rw [if_neg (n24 hy), chk_nI hx (by decide), ix_nI (by omega)]
        simp only [fx]
        rw [nI_1, show 24 * x + (y + 1) = 24 * x + y + 1 by omega, rwf_s, cnt_s P (24 * x + y), eP x y hy]
        by_cases q : NL (aNr a) x y
        · have hlt : cnt P (24 * x + y) < cnt P 576 := cnt_lt (by omega) (by rw [eP x y hy]; exact pb_iff.mpr q)
          rw [if_neg (by rw [bsP_has hy]; exact fun z => z q), m_enters (by omega), sbind, if_pos (pb_iff.mpr q), if_pos (pb_iff.mpr q), PV_at hy, hc]
        · rw [if_pos (by rw [bsP_has hy]; exact q), if_neg (fun z => q (pb_iff.mp z)), if_neg (fun z => q (pb_iff.mp z))]
      · intro rc2
        show f_X7_needless_b25 _ _ _ _ _ _ _ _ _ _ = _
        unfold f_X7_needless_b25
        dsimp only
        rw [if_pos y24, nI_1, show 24 * (x + 1) = 24 * x + 24 by omega]
    · intro rc
      show f_X7_needless_b17 _ _ _ _ _ _ _ _ = _
      unfold f_X7_needless_b17
      dsimp only
      rw [if_pos y24]
  refine ⟨_, E1, _, E2, rfl, ⟨a, hC, hM, hW⟩, hP, hK, ⟨cnt P 576, h276, rfl, rfl, fun i hi => ?_⟩, hT⟩
  have := (rwf_eq P PV r_numbers m_row 576).2 i (by rw [rwf_cnt]; exact hi)
  exact this
theorem Rc_via {E F : Nat → Nat → Bool} (h : ∀ u v, E u v = true → Rc F u v) {x y : Nat} (g : Rc E x y) : Rc F x y := by
  obtain ⟨n, w⟩ := g
  induction n generalizing x with
  | zero => exact (show x = y from w) ▸ Rc_refl F x
  | succ n ih =>
    obtain ⟨z, h1, h2⟩ := w
    exact Rc_trans (h x z h1) (ih h2)
/-- links that are not needless lead as far -/
theorem thin_reach {a : AN} (hW : WA a) {F : Nat → Nat → Bool} (hF : ∀ u v, aNr a u v = true → ¬ NL (aNr a) u v → F u v = true) : ∀ u v, aNr a u v = true → Rc F u v := by
  have key : ∀ d u v, pcO a v - pcO a u < d → aNr a u v = true → Rc F u v := by
    intro d
    induction d with
    | zero => intro u v h; exact absurd h (Nat.not_lt_zero _)
    | succ d ih =>
      intro u v hd e
      by_cases q : NL (aNr a) u v
      · obtain ⟨_, o, ho, e1, r1⟩ := q
        have l1 := pcO_lt hW e1
        have l2 : pcO a o < pcO a v := by
          rcases Rc_pc hW r1 with z | z
          · exact absurd z ho
          · exact z
        have walk : ∀ n p q, Wk (aNr a) n p q → pcO a q - pcO a p < d → Rc F p q := by
          intro n
          induction n with
          | zero => intro p q w _; exact (show p = q from w) ▸ Rc_refl F p
          | succ n ihn =>
            rintro p q ⟨z, h1, h2⟩ hs
            have k1 := pcO_lt hW h1
            have k2 := Wk_pc hW h2
            exact Rc_trans (ih p z (by omega) h1) (ihn z q h2 (by omega))
        obtain ⟨n, w⟩ := r1
        exact Rc_trans (ih u o (by omega) e1) (walk n o v w (by omega))
      · exact Rc_one (hF u v e q)
  exact fun u v e => key (pcO a v - pcO a u + 1) u v (by omega) e
noncomputable def thN (a : AN) (j : Nat) : Nat → Nat → Bool := fun u v => aNr a u v && !(decide (u < j) && pb (NL (aNr a) u v))
theorem thN_sub {a : AN} {j u v : Nat} (h : thN a j u v = true) : aNr a u v = true := by
  unfold thN at h
  rw [Bool.and_eq_true] at h
  exact h.1
theorem thN_ge {a : AN} {j u : Nat} (h : j ≤ u) : thN a j u = aNr a u := by
  funext v
  unfold thN
  have : ¬ u < j := by omega
  simp [this]
theorem thN_Rc {a : AN} (hW : WA a) (j : Nat) {x y : Nat} : Rc (thN a j) x y ↔ Rc (aNr a) x y := by
  constructor
  · exact Rc_via (fun u v z => Rc_one (thN_sub z))
  · refine Rc_via (thin_reach hW (fun u v e q => ?_))
    unfold thN
    rw [e, Bool.true_and]
    have : pb (NL (aNr a) u v) = false := Bool.eq_false_iff.mpr (fun z => q (pb_iff.mp z))
    rw [this]
    simp
theorem thN_NL {a : AN} (hW : WA a) (j y : Nat) : NL (thN a j) j y ↔ NL (aNr a) j y := by
  unfold NL
  rw [thN_ge (Nat.le_refl j)]
  constructor
  · rintro ⟨h1, o, h2, h3, h4⟩
    exact ⟨h1, o, h2, h3, (thN_Rc hW j).mp h4⟩
  · rintro ⟨h1, o, h2, h3, h4⟩
    exact ⟨h1, o, h2, h3, (thN_Rc hW j).mpr h4⟩
theorem thN_row (a : AN) {j : Nat} (v : Nat) : thN a (j + 1) j v = true ↔ (aNr a j v = true ∧ ¬ NL (aNr a) j v) := by
  unfold thN
  have : j < j + 1 := by omega
  rw [Bool.and_eq_true]
  simp only [this, decide_true, Bool.true_and]
  constructor
  · rintro ⟨h1, h2⟩
    refine ⟨h1, fun z => ?_⟩
    rw [pb_iff.mpr z] at h2
    exact Bool.noConfusion h2
  · rintro ⟨h1, h2⟩
    refine ⟨h1, ?_⟩
    rw [show pb (NL (aNr a) j v) = false from Bool.eq_false_iff.mpr (fun z => h2 (pb_iff.mp z))]
    rfl
theorem thN_o (a : AN) {j u : Nat} (h : u ≠ j) : thN a (j + 1) u = thN a j u := by
  funext v
  unfold thN
  have : decide (u < j + 1) = decide (u < j) := decide_eq_decide.mpr ⟨by omega, by omega⟩
  rw [this]
theorem thN_set (a : AN) (j : Nat) : bset (aNr a j) 24 &&& (bsP (NL (aNr a) j) ^^^ (-1)) = bset (thN a (j + 1) j) 24 := by
  rw [bs_eq, bs_eq, bsP_not]
  exact bsP_congr (fun v _ => (thN_row a v).symm)
theorem act_thin {n : ND} {a : AN} {m0 : Nat → Int32} (hC : CN n a) (hM : MN m0 0 a) (hW : WA a) (thin : Nat → Int32) : ∃ r nr m1 th a', f_X0_thin n.1 n.2.1 n.2.2.2.2.2.2.2.1 = some (r, nr) ∧ f_X7_thinsOne m0 thin = some (r, m1, th) ∧ out m0 m1 ∧ BN (nr, n.2) m1 0 a' := by
  obtain ⟨th, e1, f1⟩ := m_laysNeed hM hW thin
  have h276 := PK_276 hW
  obtain ⟨T, dT⟩ : ∃ T, T = cnt (PK (aNr a)) 576 := ⟨_, rfl⟩
  rw [← dT] at e1 h276
  let gN : Nat → Nat → Int32 := fun j => itr (fun i f => upd f i (bset (thN a (i + 1) i) 24)) n.1 j
  let gM : Nat → Nat → Int32 := fun j => itr (fun i f => upd f (107 + i) (bset (thN a (i + 1) i) 24)) m0 j
  have hCj : ∀ j, j ≤ 24 → CN (gN j, n.2) (nrS a (thN a j)) := by
    intro j
    induction j with
    | zero =>
      intro _
      have : thN a 0 = aNr a := by
        funext u v
        unfold thN
        simp
      rw [this]
      exact hC
    | succ j ih =>
      intro hj
      exact CN_nr1 (a := nrS a (thN a j)) (ih (by omega)) rfl (fun u hu => thN_o a hu)
  have hMj : ∀ j, j ≤ 24 → MN (gM j) 0 (nrS a (thN a j)) ∧ out m0 (gM j) := by
    intro j
    induction j with
    | zero =>
      intro _
      have : thN a 0 = aNr a := by
        funext u v
        unfold thN
        simp
      rw [this]
      exact ⟨hM, out_refl _⟩
    | succ j ih =>
      intro hj
      have := ih (by omega)
      exact ⟨MN_nr1 (a := nrS a (thN a j)) this.1 (WA_nr_sub hW (fun u v z => thN_sub z)) (by omega) rfl (fun u hu => thN_o a hu), out_upd this.2 (by omega) _⟩
  have hA : BN (gN 24, n.2) (gM 24) 0 (nrS a (thN a 24)) := ⟨hCj 24 (by omega), (hMj 24 (by omega)).1, WA_nr_sub hW (fun u v z => thN_sub z)⟩
  refine ⟨if T = 0 then -2 else nI T, gN 24, gM 24, th, _, ?_, ?_, (hMj 24 (by omega)).2, hA⟩
  · rw [hC.2.2.2.2.2.2.1]
    unfold f_X0_thin f_X0_thin_l4
    refine loop_go (fun j => (nI (cnt (PK (aNr a)) (24 * j)), nI j, gN j)) 24 200 (by decide) rfl ?_ ?_
    · intro j hj rc
      show f_X0_thin_b4 _ _ _ _ _ _ = _
      unfold f_X0_thin_b4
      dsimp only
      have cn := c_need (hCj j (by omega)) (WA_nr_sub hW (fun u v z => thN_sub z)) hj
      have ej : gN j j = bset (aNr a j) 24 := by
        have := (hCj j (by omega)).1 j hj
        rw [show aNr (nrS a (thN a j)) j = aNr a j from thN_ge (Nat.le_refl j)] at this
        exact this
      rw [if_neg (n24 hj), show f_X2_needlessFrom (gN j) n.2.1 (nI (aS a)) (nI j) = some (bsP (NL (thN a j) j)) from cn, sbind, bsP_congr (P := NL (thN a j) j) (Q := NL (aNr a) j) (fun v _ => thN_NL hW j v), chk_nI hj (by decide), chk_nI hj (by decide), ix_nI (by omega), ej, thN_set, c_bitCount, npc_bsP, nI_add, nI_1, PK_row]
      rfl
    · intro rc
      show f_X0_thin_b4 _ _ _ _ _ _ = _
      unfold f_X0_thin_b4
      dsimp only
      rw [if_pos y24, show cnt (PK (aNr a)) (24 * 24) = T from dT.symm]
      by_cases e : T = 0
      · rw [if_pos (by rw [e]; decide), if_pos e]
      · rw [if_neg (by rw [show (0 : Int32) = nI 0 from rfl, nI_leI (by omega) (by omega)]; omega), if_neg e]
  · unfold f_X7_thinsOne
    rw [e1, sbind]
    dsimp only
    unfold f_X7_thinsOne_l7
    refine loop_go (fun j => (nI T, nI j, gM j, th)) 24 200 (by decide) rfl ?_ ?_
    · intro j hj rc
      show f_X7_thinsOne_b7 _ _ _ _ _ = _
      unfold f_X7_thinsOne_b7
      dsimp only
      have ej : gM j (107 + j) = bset (aNr a j) 24 := by
        have := (hMj j (by omega)).1.1 j hj
        rw [show aNr (nrS a (thN a j)) j = aNr a j from thN_ge (Nat.le_refl j), Nat.zero_add] at this
        exact this
      rw [if_neg (n24 hj), show (107 : Int32) = nI 107 from rfl, nI_add, chk_nI (by omega) (by decide), chk_nI hj (by decide), chk_nI (by omega) (by decide), ix_nI (by omega), ix_nI (by omega), ej, f1 j hj, thN_set, nI_1]
      rfl
    · intro rc
      show f_X7_thinsOne_b7 _ _ _ _ _ = _
      unfold f_X7_thinsOne_b7
      dsimp only
      rw [if_pos y24]
      by_cases e : T = 0
      · rw [if_pos (by rw [e]; rfl), if_pos e]
      · rw [if_neg (fun z => e ((nI0 (by omega)).mp z)), if_neg e]
theorem inv_29 (x_words : Nat → Int32) (x_wordCount : Int32) (x_size : Int32) (x_signs : Nat → Int32) (x_next : Int32) (g_longest : Nat → Int32) (g_many : Nat → Int64) (g_layers : Nat → Int32) (g_length : Int32) (g_aheadOf : Nat → Int32) (g_cameFrom : Nat → Int32) (g_queue : Nat → Int32) (r_numbers : Nat → Int64) (r_size : Int32) (p_size : Int32) (t_filled : Nat → Int32) (nd : Nat → ND) (m_thrown : Int32) (m_told : Int32) (m_row : Nat → Int64) (m_tape : Nat → Int32) (m_taped : Int32) (m_at : Int32) (m_to : Int32) (m_mem : Nat → Int32) (m_undos : Int32) (m_places : Nat → Int32) (m_movers : Nat → Int32) (m_far : Nat → Int32) (m_way : Nat → Int32) (m_wayMany : Int32) (m_fromOf : Nat → Int32) (m_toOf : Nat → Int32) (m_longest : Nat → Int32) (m_wayCount : Nat → Int64) (m_thin : Nat → Int32) (m_ahead : Nat → Int32) (m_tried : Int32) (m_foundLow : Int32) (m_foundHigh : Int32) (m_nextLow : Int32) (m_nextHigh : Int32) (m_act : Nat → Int32) (m_first : Nat → Int32) (m_second : Nat → Int32) (m_random : Int32) (m_isKept : Nat → Int32) (x y : Int32) (h : Inv x_words x_wordCount x_size x_signs x_next g_longest g_many g_layers g_length g_aheadOf g_cameFrom g_queue r_numbers r_size p_size t_filled nd m_thrown m_told m_row m_tape m_taped m_at m_to m_mem m_undos m_places m_movers m_far m_way m_wayMany m_fromOf m_toOf m_longest m_wayCount m_thin m_ahead m_tried m_foundLow m_foundHigh m_nextLow m_nextHigh m_act m_first m_second m_random m_isKept) : S_29 Inv x_words x_wordCount x_size x_signs x_next g_longest g_many g_layers g_length g_aheadOf g_cameFrom g_queue r_numbers r_size p_size t_filled nd m_thrown m_told m_row m_tape m_taped m_at m_to m_mem m_undos m_places m_movers m_far m_way m_wayMany m_fromOf m_toOf m_longest m_wayCount m_thin m_ahead m_tried m_foundLow m_foundHigh m_nextLow m_nextHigh m_act m_first m_second m_random m_isKept x y := by
  obtain ⟨⟨a, hC, hM, hW⟩, hP, hK, hR, hT⟩ := h
  unfold S_29
  intro sa bb
  have hM0 := Mc0 hW hM
  have ag0 : agr m_mem (cpy m_mem 0 3) := agr_cpy _ (.inr (.inl rfl))
  obtain ⟨r, nr, m1, th, a', e1, e2, ho, hA⟩ := act_thin hC hM0 hW m_thin
  by_cases hr : r < 0
  · refine ⟨(r, nr, bb, sa 0, p_size, (nd 0).1, (nd 0).2.1, (nd 0).2.2.1, (nd 0).2.2.2.1, (nd 0).2.2.2.2.1, (nd 0).2.2.2.2.2.2.1, (nd 0).2.2.2.2.2.2.2.1, (nd 0).2.2.2.2.2.2.2.2), ?_, (r, 0, m1, m_undos, th), ?_, rfl, .inl ⟨rfl, rfl, ⟨a', hA⟩, (chgP (out_agr ag0 ho) hP hK _ _).1, (chgP (out_agr ag0 ho) hP hK _ _).2, hR, hT⟩⟩
    · unfold f_X6_thins
      rw [e1, sbind, c_settle0 hr]
      rfl
    · unfold f_X7_thins
      rw [Mcp, sbind, e2, sbind, m_done0 hr]
      rfl
  · obtain ⟨k, hk, ek, bb', sa', mem', g1, g2, g3, g4, g5⟩ := chgC (out_agr ag0 ho) hP hK hA (BN_aside (n12 := nd 12) ⟨hC, hM, hW⟩ (out_as ho)) sa bb
    refine ⟨(r, nr, bb', sa', psz k, (nd 0).1, (nd 0).2.1, (nd 0).2.2.1, (nd 0).2.2.2.1, (nd 0).2.2.2.2.1, (nd 0).2.2.2.2.2.2.1, (nd 0).2.2.2.2.2.2.2.1, (nd 0).2.2.2.2.2.2.2.2), ?_, (r, 0, mem', psz k, th), ?_, rfl, .inr ⟨k, hk, ek, g1, g3, g4, g5, hR, hT⟩⟩
    · unfold f_X6_thins
      rw [e1, sbind, c_settle1 hr g1]
      rfl
    · unfold f_X7_thins
      rw [Mcp, sbind, e2, sbind, m_done1 hr g2]
      rfl
