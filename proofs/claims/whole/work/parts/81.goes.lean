/-! PURE 81: goes -/
theorem c_cta {n : ND} {x : Nat} (hx : x < 24) {S : Nat → Prop} (c : Nat → AN) (h0 : CN n (c 0)) (hw : ∀ j, j ≤ 24 → WA (c j)) (hxa : ∀ j, j ≤ 24 → aAl (c j) x = true) (hs : ∀ j, j < 24 → (¬ (S j ∧ aNr (c j) x j = false) ∧ c (j + 1) = c j) ∨ (S j ∧ aNr (c j) x j = false ∧ aAl (c j) j = true ∧ x ≠ j ∧ ¬ Rc (aNr (c j)) j x ∧ c (j + 1) = cmS (c j) x j)) : ∃ nr ord mov, f_X2_comeToAll n.1 n.2.1 n.2.2.2.2.2.1 n.2.2.2.2.2.2.2.1 (nI x) (bsP S) = some (nr, ord, mov) ∧ CN (nr, ord, n.2.2.1, n.2.2.2.1, n.2.2.2.2.1, mov, n.2.2.2.2.2.2) (c 24) := by
  unfold f_X2_comeToAll f_X2_comeToAll_l2
  obtain ⟨r, hr, h⟩ := loop_rel (body := fun (_ : Unit) rc (v : Int32 × (Nat → Int32) × (Nat → Int32) × (Nat → Int32)) => f_X2_comeToAll_b2 n.2.2.2.2.2.2.2.1 (nI x) (bsP S) (fun x0_ x1_ x2_ x3_ => rc (x0_, x1_, x2_, x3_)) v.1 v.2.1 v.2.2.1 v.2.2.2) (fun _ (r : (Nat → Int32) × (Nat → Int32) × (Nat → Int32)) => some r) (fun r => CN (r.1, r.2.1, n.2.2.1, n.2.2.2.1, n.2.2.2.2.1, r.2.2, n.2.2.2.2.2.2) (c 24)) 24 200 (fun j w => ∃ nr ord mov, w = (nI j, nr, ord, mov) ∧ CN (nr, ord, n.2.2.1, n.2.2.2.1, n.2.2.2.2.1, mov, n.2.2.2.2.2.2) (c j)) (by decide) (by
    rintro j w hj ⟨nr, ord, mov, rfl, i1⟩
    by_cases e : j = 24
    · left
      refine ⟨(nr, ord, mov), by rw [← e]; exact i1, ?_⟩
      intro k rc
      show f_X2_comeToAll_b2 _ _ _ _ _ _ _ _ = _
      unfold f_X2_comeToAll_b2
      dsimp only
      rw [e, if_pos y24]
    · right
      have hj' : j < 24 := by omega
      refine ⟨hj', ?_⟩
      have hnx : nr x = bsP (fun k => aNr (c j) x k = true) := by
        rw [← bs_eq]
        exact i1.1 x hx
      rcases hs j hj' with ⟨q1, q2⟩ | ⟨q1, q2, q3, q4, q5, q6⟩
      · refine ⟨_, ⟨nr, ord, mov, rfl, by rw [q2]; exact i1⟩, ?_⟩
        intro k rc
        show f_X2_comeToAll_b2 _ _ _ _ _ _ _ _ = _
        unfold f_X2_comeToAll_b2
        dsimp only
        rw [if_neg (n24 hj'), chk_nI hx (by decide), ix_nI (by omega)]
        simp only [hnx, bsP_not]
        rw [if_pos (by rw [bsP_hold hj']; exact fun z => q1 ⟨z.1, Bool.eq_false_iff.mpr z.2⟩), nI_1]
      · obtain ⟨mov', e1⟩ := c_come i1 (hw j (by omega)) (hxa j (by omega)) q3 q4 q5
        refine ⟨_, ⟨_, _, mov', rfl, by rw [q6]; exact CN_come i1 (hw j (by omega)) j mov'⟩, ?_⟩
        intro k rc
        show f_X2_comeToAll_b2 _ _ _ _ _ _ _ _ = _
        unfold f_X2_comeToAll_b2
        dsimp only
        have e1' : f_X2_come nr ord mov n.2.2.2.2.2.2.2.1 (nI x) (nI j) = _ := e1
        rw [if_neg (n24 hj'), chk_nI hx (by decide), ix_nI (by omega)]
        simp only [hnx, bsP_not]
        rw [if_neg (by rw [bsP_hold hj']; exact fun z => z ⟨q1, Bool.eq_false_iff.mp q2⟩), e1', sbind, nI_1]) (0, n.1, n.2.1, n.2.2.2.2.2.1) ⟨n.1, n.2.1, n.2.2.2.2.2.1, rfl, h0⟩
  exact ⟨r.1, r.2.1, r.2.2, h (), hr⟩
def nrG (a : AN) (t : Nat) (h : Bool) (b j : Nat) : Nat → Nat → Bool := fun u v => aNr a u v || (h && aNr a u t && aNr a t v && (decide (u < b) || (decide (u = b) && decide (v < j))))
def itG (a : AN) (t : Nat) (h : Bool) (b : Nat) : Nat → Nat → Bool := fun u k => aIt a u k || (h && aNr a u t && aIt a t k && decide (u < b))
abbrev gS (a : AN) (t : Nat) (h : Bool) (b j b' : Nat) : AN := itS (nrS a (nrG a t h b j)) (itG a t h b')
theorem nrG_i {a : AN} {t : Nat} {h : Bool} {b j u v : Nat} : nrG a t h b j u v = true ↔ (aNr a u v = true ∨ (h = true ∧ aNr a u t = true ∧ aNr a t v = true ∧ (u < b ∨ (u = b ∧ v < j)))) := by
  unfold nrG
  rw [Bool.or_eq_true, Bool.and_eq_true, Bool.and_eq_true, Bool.and_eq_true, Bool.or_eq_true, Bool.and_eq_true, decide_eq_true_iff, decide_eq_true_iff, decide_eq_true_iff]
  constructor
  · rintro (z | ⟨⟨⟨z1, z2⟩, z3⟩, z4⟩)
    · exact .inl z
    · exact .inr ⟨z1, z2, z3, z4⟩
  · rintro (z | ⟨z1, z2, z3, z4⟩)
    · exact .inl z
    · exact .inr ⟨⟨⟨z1, z2⟩, z3⟩, z4⟩
theorem itG_i {a : AN} {t : Nat} {h : Bool} {b u k : Nat} : itG a t h b u k = true ↔ (aIt a u k = true ∨ (h = true ∧ aNr a u t = true ∧ aIt a t k = true ∧ u < b)) := by
  unfold itG
  rw [Bool.or_eq_true, Bool.and_eq_true, Bool.and_eq_true, Bool.and_eq_true, decide_eq_true_iff]
  constructor
  · rintro (z | ⟨⟨⟨z1, z2⟩, z3⟩, z4⟩)
    · exact .inl z
    · exact .inr ⟨z1, z2, z3, z4⟩
  · rintro (z | ⟨z1, z2, z3, z4⟩)
    · exact .inl z
    · exact .inr ⟨⟨⟨z1, z2⟩, z3⟩, z4⟩
theorem fun2 {f g : Nat → Nat → Bool} (h : ∀ u v, f u v = true ↔ g u v = true) : f = g := funext fun u => funext fun v => Bool.eq_iff_iff.mpr (h u v)
theorem WA_g {a : AN} (hW : WA a) (t : Nat) (h : Bool) (b j b' : Nat) : WA (gS a t h b j b') := by
  have h1 : WA (nrS a (nrG a t h b j)) := by
    refine WA_nr hW (fun p q hp hq z => ?_) (fun u v z => ?_)
    · rcases nrG_i.mp z with z | ⟨_, z2, z3, _⟩
      · exact hW.2.2.2.2.2.2.1 p q hp hq z
      · have l1 := pcO_lt hW z2
        have l2 := pcO_lt hW z3
        rw [pcO_at hW hp] at l1
        rw [pcO_at hW hq] at l2
        omega
    · rcases nrG_i.mp z with z | ⟨_, z2, z3, _⟩
      · exact ⟨W_e1 hW z, W_e2 hW z⟩
      · exact ⟨W_e1 hW z2, W_e2 hW z3⟩
  refine WA_it h1 (fun u k z => ?_)
  rcases itG_i.mp z with z | ⟨_, z2, z3, _⟩
  · exact hW.2.2.2.2.2.2.2.2.2 u k z
  · exact ⟨W_e1 hW z2, (hW.2.2.2.2.2.2.2.2.2 t k z3).2⟩
theorem nrG_end (a : AN) (t : Nat) (h : Bool) (b : Nat) (hW : WA a) : nrG a t h b 24 = nrG a t h (b + 1) 0 := by
  refine fun2 (fun u v => ?_)
  rw [nrG_i, nrG_i]
  constructor
  · rintro (z | ⟨z1, z2, z3, z4⟩)
    · exact .inl z
    · exact .inr ⟨z1, z2, z3, by omega⟩
  · rintro (z | ⟨z1, z2, z3, z4⟩)
    · exact .inl z
    · have := (W_e24 hW z3).2
      exact .inr ⟨z1, z2, z3, by omega⟩
theorem nrG_skip {a : AN} {t : Nat} {h : Bool} {b j : Nat} (q : ¬ (h = true ∧ aNr a b t = true ∧ aNr a t j = true) ∨ nrG a t h b j b j = true) : nrG a t h b (j + 1) = nrG a t h b j := by
  refine fun2 (fun u v => ?_)
  constructor
  · intro z
    by_cases e : u = b ∧ v = j
    · obtain ⟨e1, e2⟩ := e
      subst e1 e2
      rcases q with q | q
      · rcases nrG_i.mp z with z | ⟨z1, z2, z3, _⟩
        · exact nrG_i.mpr (.inl z)
        · exact absurd ⟨z1, z2, z3⟩ q
      · exact q
    · rcases nrG_i.mp z with z | ⟨z1, z2, z3, z4⟩
      · exact nrG_i.mpr (.inl z)
      · exact nrG_i.mpr (.inr ⟨z1, z2, z3, by omega⟩)
  · intro z
    rcases nrG_i.mp z with z | ⟨z1, z2, z3, z4⟩
    · exact nrG_i.mpr (.inl z)
    · exact nrG_i.mpr (.inr ⟨z1, z2, z3, by omega⟩)
theorem nrG_row {a : AN} {t : Nat} {h : Bool} {b : Nat} (q : ¬ (h = true ∧ aNr a b t = true)) : nrG a t h (b + 1) 0 = nrG a t h b 0 := by
  refine fun2 (fun u v => ?_)
  rw [nrG_i, nrG_i]
  constructor
  · rintro (z | ⟨z1, z2, z3, z4⟩)
    · exact .inl z
    · by_cases e : u = b
      · rw [e] at z2; exact absurd ⟨z1, z2⟩ q
      · exact .inr ⟨z1, z2, z3, by omega⟩
  · rintro (z | ⟨z1, z2, z3, z4⟩)
    · exact .inl z
    · exact .inr ⟨z1, z2, z3, by omega⟩
theorem itG_row {a : AN} {t : Nat} {h : Bool} {b : Nat} (q : ¬ (h = true ∧ aNr a b t = true)) : itG a t h (b + 1) = itG a t h b := by
  refine fun2 (fun u k => ?_)
  rw [itG_i, itG_i]
  constructor
  · rintro (z | ⟨z1, z2, z3, z4⟩)
    · exact .inl z
    · by_cases e : u = b
      · rw [e] at z2; exact absurd ⟨z1, z2⟩ q
      · exact .inr ⟨z1, z2, z3, by omega⟩
  · rintro (z | ⟨z1, z2, z3, z4⟩)
    · exact .inl z
    · exact .inr ⟨z1, z2, z3, by omega⟩
/-- the link b to j comes without mending -/
theorem g_cm {a : AN} (hW : WA a) {t b j : Nat} (hb : aNr a b t = true) (hj : aNr a t j = true) (b' : Nat) : cmS (gS a t true b j b') b j = gS a t true b (j + 1) b' := by
  have l1 := pcO_lt hW hb
  have l2 := pcO_lt hW hj
  have hl : pcO (gS a t true b j b') b < pcO (gS a t true b j b') j := by
    show pcO a b < pcO a j
    omega
  show (a.1, nrOn (gS a t true b j b') b j, a.2.2.1, mO (gS a t true b j b') b j, a.2.2.2.2.1, a.2.2.2.2.2.1, a.2.2.2.2.2.2.1, itG a t true b') = _
  rw [mO_low hl]
  have : nrOn (gS a t true b j b') b j = nrG a t true b (j + 1) := by
    refine fun2 (fun u v => ?_)
    unfold nrOn
    show (nrG a t true b j u v || (decide (u = b) && decide (v = j))) = true ↔ _
    rw [Bool.or_eq_true, Bool.and_eq_true, decide_eq_true_iff, decide_eq_true_iff, nrG_i, nrG_i]
    constructor
    · rintro ((z | ⟨z1, z2, z3, z4⟩) | ⟨e1, e2⟩)
      · exact .inl z
      · exact .inr ⟨z1, z2, z3, by omega⟩
      · rw [e1, e2]; exact .inr ⟨rfl, hb, hj, by omega⟩
    · rintro (z | ⟨z1, z2, z3, z4⟩)
      · exact .inl (.inl z)
      · by_cases e : u = b ∧ v = j
        · exact .inr e
        · exact .inl (.inr ⟨z1, z2, z3, by omega⟩)
  rw [this]
theorem it_up {a : AN} {t b : Nat} (hb : aNr a b t = true) (u : Nat) (hu : u ≠ b) : itG a t true (b + 1) u = itG a t true b u := by
  funext k
  apply Bool.eq_iff_iff.mpr
  rw [itG_i, itG_i]
  constructor
  · rintro (z | ⟨z1, z2, z3, z4⟩)
    · exact .inl z
    · exact .inr ⟨z1, z2, z3, by omega⟩
  · rintro (z | ⟨z1, z2, z3, z4⟩)
    · exact .inl z
    · exact .inr ⟨z1, z2, z3, by omega⟩
theorem it_bb {a : AN} {t b : Nat} (hb : aNr a b t = true) (k : Nat) : itG a t true (b + 1) b k = (itG a t true b b k || aIt a t k) := by
  apply Bool.eq_iff_iff.mpr
  rw [Bool.or_eq_true, itG_i, itG_i]
  constructor
  · rintro (z | ⟨_, _, z3, _⟩)
    · exact .inl (.inl z)
    · exact .inr z3
  · rintro ((z | ⟨z1, z2, z3, _⟩) | z)
    · exact .inl z
    · exact .inr ⟨z1, z2, z3, by omega⟩
    · exact .inr ⟨rfl, hb, z, by omega⟩
theorem itG_t {a : AN} (hW : WA a) (t : Nat) (h : Bool) (b : Nat) : itG a t h b t = aIt a t := by
  funext k
  apply Bool.eq_iff_iff.mpr
  rw [itG_i]
  constructor
  · rintro (z | ⟨_, z2, _, _⟩)
    · exact z
    · have := pcO_lt hW z2; omega
  · exact .inl
theorem bset_or (P Q : Nat → Bool) {n : Nat} (hn : n ≤ 32) : bset P n ||| bset Q n = bset (fun k => P k || Q k) n := by
  apply bt_ext
  intro k _
  rw [bt_or, bt_bset _ hn, bt_bset _ hn, bt_bset _ hn]
  cases decide (k < n) <;> simp
theorem lset_or (P Q : Nat → Bool) {n : Nat} (hn : n ≤ 64) : lset P n ||| lset Q n = lset (fun k => P k || Q k) n := by
  apply bl_ext
  intro k _
  rw [bl_or, bl_lset _ hn, bl_lset _ hn, bl_lset _ hn]
  cases decide (k < n) <;> simp
theorem m_inherits {m : Nat → Int32} {a : AN} (h : MN m 0 a) (hW : WA a) {t : Nat} (ht : aAl a t = true) (pls mvs : Nat → Int32) : ∃ m' pls' mvs', f_X7_inherits m pls mvs (nI t) = some (m', pls', mvs') ∧ MN m' 0 (gS a t true 24 0 24) ∧ out m m' := by
  have lt := W_lt hW ht
  unfold f_X7_inherits
  rw [Mbr h hW lt, sbind, Mn h lt, sbind, bs_eq (fun s => aNr a s t), bs_eq (aNr a t)]
  unfold f_X7_inherits_l17
  obtain ⟨r, ⟨h1, h2⟩, h3⟩ := loop_rel (body := fun (_ : Unit) rc (v : Int32 × Int32 × Int32 × (Nat → Int32) × (Nat → Int32) × (Nat → Int32)) => f_X7_inherits_b17 (nI t) (fun x0_ x1_ x2_ x3_ x4_ x5_ => rc (x0_, x1_, x2_, x3_, x4_, x5_)) v.1 v.2.1 v.2.2.1 v.2.2.2.1 v.2.2.2.2.1 v.2.2.2.2.2) (fun _ (r : (Nat → Int32) × (Nat → Int32) × (Nat → Int32)) => some r) (fun r => MN r.1 0 (gS a t true 24 0 24) ∧ out m r.1) 24 200 (fun b w => ∃ m' pl mv, w = (bsP (fun s => aNr a s t = true), bsP (fun v => aNr a t v = true), nI b, m', pl, mv) ∧ MN m' 0 (gS a t true b 0 b) ∧ out m m') (by decide) (by
    rintro b w hb ⟨m', pl, mv, rfl, i1, i2⟩
    by_cases e : b = 24
    · left
      refine ⟨(m', pl, mv), ⟨by rw [← e]; exact i1, i2⟩, ?_⟩
      intro k rc
      show f_X7_inherits_b17 _ _ _ _ _ _ _ _ = _
      unfold f_X7_inherits_b17
      dsimp only
      rw [e, if_pos y24]
    · right
      have hb' : b < 24 := by omega
      refine ⟨hb', ?_⟩
      by_cases c : aNr a b t = true
      · have hbt : b ≠ t := fun z => by have := pcO_lt hW c; rw [z] at this; omega
        have eb := i1.2.2.1 b hb'
        have et := i1.2.2.1 t lt
        obtain ⟨m2, d2⟩ : ∃ m2, m2 = upd (upd m' (131 + b) (bset (itG a t true (b + 1) b) 20)) (155 + b) (bset (fun k => itG a t true (b + 1) b (k + 20)) 20) := ⟨_, rfl⟩
        have hm2 : MN m2 0 (gS a t true b 0 (b + 1)) := by
          refine MN_it (a := gS a t true b 0 b) i1 (WA_g hW t true b 0 b) _ (fun u hu => ⟨?_, ?_⟩) (fun i hi => ?_)
          · rw [d2, updO (by omega)]
            by_cases eu : u = b
            · rw [eu, updN]
            · rw [updO (by omega), it_up c u eu]
              have := (i1.2.2.1 u hu).1
              rw [Nat.zero_add] at this
              exact this
          · rw [d2]
            by_cases eu : u = b
            · rw [eu, updN]
            · rw [updO (by omega), updO (by omega), it_up c u eu]
              have := (i1.2.2.1 u hu).2
              rw [Nat.zero_add] at this
              exact this
          · rw [d2, updO (by omega), updO (by omega)]
        have o2 : out m m2 := by
          rw [d2]
          exact out_upd (out_upd i2 (by omega) _) (by omega) _
        obtain ⟨r, ⟨j1, j2⟩, hj⟩ := loop_rel (body := fun (k17 : Int32 → Int32 → Int32 → (Nat → Int32) → (Nat → Int32) → (Nat → Int32) → Option ((Nat → Int32) × (Nat → Int32) × (Nat → Int32))) rc (v : Int32 × Int32 × Int32 × Int32 × (Nat → Int32) × (Nat → Int32) × (Nat → Int32)) => f_X7_inherits_b87 (nI t) k17 (fun x0_ x1_ x2_ x3_ x4_ x5_ x6_ => rc (x0_, x1_, x2_, x3_, x4_, x5_, x6_)) v.1 v.2.1 v.2.2.1 v.2.2.2.1 v.2.2.2.2.1 v.2.2.2.2.2.1 v.2.2.2.2.2.2) (fun k17 (r : (Nat → Int32) × (Nat → Int32) × (Nat → Int32)) => k17 (bsP (fun s => aNr a s t = true)) (bsP (fun v => aNr a t v = true)) (nI (b + 1)) r.1 r.2.1 r.2.2) (fun r => MN r.1 0 (gS a t true (b + 1) 0 (b + 1)) ∧ out m r.1) 24 200 (fun j w => ∃ m' pl mv, w = (bsP (fun s => aNr a s t = true), bsP (fun v => aNr a t v = true), nI b, nI j, m', pl, mv) ∧ MN m' 0 (gS a t true b j (b + 1)) ∧ out m m') (by decide) (by
          rintro j w hj ⟨m', pl, mv, rfl, k1, k2⟩
          by_cases e2 : j = 24
          · left
            refine ⟨(m', pl, mv), ⟨?_, k2⟩, ?_⟩
            · rw [e2] at k1
              show MN m' 0 (itS (nrS a (nrG a t true (b + 1) 0)) (itG a t true (b + 1)))
              rw [← nrG_end a t true b hW]
              exact k1
            · intro k rc
              show f_X7_inherits_b87 _ _ _ _ _ _ _ _ _ _ = _
              unfold f_X7_inherits_b87
              dsimp only
              rw [e2, if_pos y24, nI_1]
          · right
            have hj' : j < 24 := by omega
            refine ⟨hj', ?_⟩
            by_cases c2 : aNr a t j = true
            · have wg := WA_g hW t true b j (b + 1)
              have l1 := pcO_lt hW c
              have l2 := pcO_lt hW c2
              have hbj : b ≠ j := fun z => by rw [z] at l1; omega
              have ab : aAl (gS a t true b j (b + 1)) b = true := W_e1 hW c
              have aj : aAl (gS a t true b j (b + 1)) j = true := W_e2 hW c2
              obtain ⟨q1, _, q3⟩ := m_comes (q := 0) (k1 : MN m' (0 * 179) _) (by omega) wg ab aj hbj pl mv
              by_cases c3 : nrG a t true b j b j = true
              · refine ⟨_, ⟨m', pl, mv, rfl, ?_, k2⟩, ?_⟩
                · show MN m' 0 (itS (nrS a (nrG a t true b (j + 1))) (itG a t true (b + 1)))
                  rw [nrG_skip (.inr c3)]
                  exact k1
                · intro k rc
                  show f_X7_inherits_b87 _ _ _ _ _ _ _ _ _ _ = _
                  unfold f_X7_inherits_b87
                  dsimp only
                  rw [if_neg (n24 hj'), if_neg (by rw [bsP_has hj']; exact fun z => z c2), show f_X7_comes m' pl mv 0 (nI b) (nI j) = _ from q1 c3, sbind, nI_1]
              · have nrc : ¬ Rc (aNr (gS a t true b j (b + 1))) j b := by
                  intro z
                  rcases Rc_pc wg z with w | w
                  · exact hbj w.symm
                  · have w' : pcO a j < pcO a b := w
                    omega
                obtain ⟨m3, pl3, mv3, w1, w2, w3⟩ := q3 (Bool.eq_false_iff.mpr c3) nrc
                refine ⟨_, ⟨m3, pl3, mv3, rfl, ?_, out_trans k2 (outq_0 w3)⟩, ?_⟩
                · rw [g_cm hW c c2] at w2
                  exact w2
                · intro k rc
                  show f_X7_inherits_b87 _ _ _ _ _ _ _ _ _ _ = _
                  unfold f_X7_inherits_b87
                  dsimp only
                  rw [if_neg (n24 hj'), if_neg (by rw [bsP_has hj']; exact fun z => z c2), show f_X7_comes m' pl mv 0 (nI b) (nI j) = _ from w1, sbind, nI_1]
            · refine ⟨_, ⟨m', pl, mv, rfl, ?_, k2⟩, ?_⟩
              · show MN m' 0 (itS (nrS a (nrG a t true b (j + 1))) (itG a t true (b + 1)))
                rw [nrG_skip (.inl (fun z => c2 z.2.2))]
                exact k1
              · intro k rc
                show f_X7_inherits_b87 _ _ _ _ _ _ _ _ _ _ = _
                unfold f_X7_inherits_b87
                dsimp only
                rw [if_neg (n24 hj'), if_pos (by rw [bsP_has hj']; exact c2), nI_1]) (bsP (fun s => aNr a s t = true), bsP (fun v => aNr a t v = true), nI b, 0, m2, pl, mv) ⟨m2, pl, mv, rfl, hm2, o2⟩
        refine ⟨_, ⟨r.1, r.2.1, r.2.2, rfl, j1, j2⟩, ?_⟩
        intro k rc
        show f_X7_inherits_b17 _ _ _ _ _ _ _ _ = _
        unfold f_X7_inherits_b17
        dsimp only
        have e1 : m' (131 + b) ||| m' (131 + t) = bset (itG a t true (b + 1) b) 20 := by
          rw [show m' (131 + b) = bset (itG a t true b b) 20 by rw [← eb.1, Nat.zero_add], show m' (131 + t) = bset (aIt a t) 20 by rw [← itG_t hW t true b, ← et.1, Nat.zero_add], bset_or _ _ (by omega)]
          exact bset_congr 20 (fun k _ => (it_bb c k).symm)
        have e2 : m' (155 + b) ||| m' (155 + t) = bset (fun k => itG a t true (b + 1) b (k + 20)) 20 := by
          rw [show m' (155 + b) = bset (fun k => itG a t true b b (k + 20)) 20 by rw [← eb.2, Nat.zero_add], show m' (155 + t) = bset (fun k => aIt a t (k + 20)) 20 by rw [← itG_t hW t true b, ← et.2, Nat.zero_add], bset_or _ _ (by omega)]
          exact bset_congr 20 (fun k _ => (it_bb c (k + 20)).symm)
        rw [if_neg (n24 hb'), if_neg (by rw [bsP_has hb']; exact fun z => z c), show (131 : Int32) = nI 131 from rfl, show (155 : Int32) = nI 155 from rfl, nI_add, nI_add, nI_add, nI_add, chk_nI (by omega) (by decide), chk_nI (by omega) (by decide), chk_nI (by omega) (by decide), chk_nI (by omega) (by decide), chk_nI (by omega) (by decide), chk_nI (by omega) (by decide), ix_nI (by omega), ix_nI (by omega), ix_nI (by omega), ix_nI (by omega), updO (show 155 + b ≠ 131 + b by omega), updO (show 155 + t ≠ 131 + b by omega), e1, e2, ← d2]
        exact hj (fun x0_ x1_ x2_ x3_ x4_ x5_ => rc (x0_, x1_, x2_, x3_, x4_, x5_))
      · refine ⟨_, ⟨m', pl, mv, rfl, ?_, i2⟩, ?_⟩
        · show MN m' 0 (itS (nrS a (nrG a t true (b + 1) 0)) (itG a t true (b + 1)))
          rw [nrG_row (fun z => c z.2), itG_row (fun z => c z.2)]
          exact i1
        · intro k rc
          show f_X7_inherits_b17 _ _ _ _ _ _ _ _ = _
          unfold f_X7_inherits_b17
          dsimp only
          rw [if_neg (n24 hb'), if_pos (by rw [bsP_has hb']; exact c), nI_1]) (bsP (fun s => aNr a s t = true), bsP (fun v => aNr a t v = true), 0, m, pls, mvs) ⟨m, pls, mvs, rfl, by
      have e1 : nrG a t true 0 0 = aNr a := fun2 (fun u v => by rw [nrG_i]; exact ⟨fun z => z.elim id (fun w => absurd w.2.2.2 (by omega)), .inl⟩)
      have e2 : itG a t true 0 = aIt a := fun2 (fun u v => by rw [itG_i]; exact ⟨fun z => z.elim id (fun w => absurd w.2.2.2 (by omega)), .inl⟩)
      show MN m 0 (itS (nrS a (nrG a t true 0 0)) (itG a t true 0))
      rw [e1, e2]
      exact h, out_refl _⟩
  exact ⟨r.1, r.2.1, r.2.2, h3 (), h1, h2⟩
theorem g_end (a : AN) (t : Nat) (b b' : Nat) : gS a t false b 0 b' = a := by
  have e1 : nrG a t false b 0 = aNr a := fun2 (fun u v => by rw [nrG_i]; exact ⟨fun z => z.elim id (fun w => absurd w.1 (by decide)), .inl⟩)
  have e2 : itG a t false b' = aIt a := fun2 (fun u v => by rw [itG_i]; exact ⟨fun z => z.elim id (fun w => absurd w.1 (by decide)), .inl⟩)
  show itS (nrS a (nrG a t false b 0)) (itG a t false b') = a
  rw [e1, e2]
theorem g_0 (a : AN) (t : Nat) (h : Bool) : gS a t h 0 0 0 = a := by
  have e1 : nrG a t h 0 0 = aNr a := fun2 (fun u v => by rw [nrG_i]; exact ⟨fun z => z.elim id (fun w => absurd w.2.2.2 (by omega)), .inl⟩)
  have e2 : itG a t h 0 = aIt a := fun2 (fun u v => by rw [itG_i]; exact ⟨fun z => z.elim id (fun w => absurd w.2.2.2 (by omega)), .inl⟩)
  show itS (nrS a (nrG a t h 0 0)) (itG a t h 0) = a
  rw [e1, e2]
theorem lv_cm {a : AN} (hW : WA a) {t b j : Nat} (ht : aAl a t = true) (hb : aNr a b t = true) (hj : aNr a t j = true) (b' : Nat) {L : Lb} (hc : L.1 ≤ 40) (hL : ∀ i, i < L.1 → L.2.2 i ≠ t ∧ aAl a (L.2.2 i) = true) : cmS (lab (lvS (gS a t true b j b') t) L) b j = lab (lvS (gS a t true b (j + 1) b') t) L ∧ pcO (lab (lvS (gS a t true b j b') t) L) b < pcO (lab (lvS (gS a t true b j b') t) L) j := by
  have hbt : b ≠ t := fun z => by have := pcO_lt hW hb; rw [z] at this; omega
  have hjt : j ≠ t := fun z => by have := pcO_lt hW hj; rw [z] at this; omega
  have w2 : WA (lab (lvS (gS a t true b (j + 1) b') t) L) := WA_lv (WA_g hW t true b (j + 1) b') ht hc hL
  have e : aNr (lab (lvS (gS a t true b (j + 1) b') t) L) b j = true := nr_lv.mpr ⟨nrG_i.mpr (.inr ⟨rfl, hb, hj, by omega⟩), hbt, hjt⟩
  have hl : pcO (lab (lvS (gS a t true b j b') t) L) b < pcO (lab (lvS (gS a t true b j b') t) L) j := pcO_lt w2 e
  refine ⟨?_, hl⟩
  have hn : nrOn (lab (lvS (gS a t true b j b') t) L) b j = aNr (lvS (gS a t true b (j + 1) b') t) := by
    refine fun2 (fun u v => ?_)
    unfold nrOn
    show (aNr (lvS (gS a t true b j b') t) u v || (decide (u = b) && decide (v = j))) = true ↔ _
    have k : ((decide (u = b) && decide (v = j)) = true) ↔ (u = b ∧ v = j) := by rw [Bool.and_eq_true, decide_eq_true_iff, decide_eq_true_iff]
    rw [Bool.or_eq_true, k, nr_lv, nr_lv]
    constructor
    · rintro (⟨z1, z2, z3⟩ | ⟨e1, e2⟩)
      · refine ⟨?_, z2, z3⟩
        rcases nrG_i.mp z1 with z | ⟨y1, y2, y3, y4⟩
        · exact nrG_i.mpr (.inl z)
        · exact nrG_i.mpr (.inr ⟨y1, y2, y3, by omega⟩)
      · rw [e1, e2]
        exact ⟨nrG_i.mpr (.inr ⟨rfl, hb, hj, by omega⟩), hbt, hjt⟩
    · rintro ⟨z1, z2, z3⟩
      by_cases eq : u = b ∧ v = j
      · exact .inr eq
      · refine .inl ⟨?_, z2, z3⟩
        rcases nrG_i.mp z1 with z | ⟨y1, y2, y3, y4⟩
        · exact nrG_i.mpr (.inl z)
        · exact nrG_i.mpr (.inr ⟨y1, y2, y3, by omega⟩)
  show ((lab (lvS (gS a t true b j b') t) L).1, nrOn (lab (lvS (gS a t true b j b') t) L) b j, (lab (lvS (gS a t true b j b') t) L).2.2.1, mO (lab (lvS (gS a t true b j b') t) L) b j, (lab (lvS (gS a t true b j b') t) L).2.2.2.2) = _
  rw [mO_low hl, hn]
  rfl
theorem c_leave {n : ND} {a : AN} (hC : CN n a) (hW : WA a) {t : Nat} (ht : aAl a t = true) (h : Bool) (p3 : Int32) {L : Lb} (hc : L.1 ≤ 40) (hL : ∀ i, i < L.1 → L.2.2 i ≠ t ∧ aAl a (L.2.2 i) = true) {nr ord nm ow : Nat → Int32} {it : Nat → Int64} {all sz cn : Int32} (hR : ∀ mov, CN (nr, ord, it, nm, ow, mov, all, sz, cn) (lab (lvS a t) L)) : ∃ nr' ord' it' mov', f_X0_leave_l59 (nI t) p3 (bset (fun s => h && aNr a s t) 24) (n.1 t) (n.2.2.1 t) 0 nr ord it nm ow n.2.2.2.2.2.1 all sz cn = some (sz, nr', ord', it', nm, ow, mov', all, sz, cn) ∧ CN (nr', ord', it', nm, ow, mov', all, sz, cn) (lab (lvS (gS a t h 24 0 24) t) L) := by
  have lt := W_lt hW ht
  rw [hC.1 t lt, hC.2.2.1 t lt, bs_eq, bs_eq (aNr a t)]
  unfold f_X0_leave_l59
  obtain ⟨r, hr, h3⟩ := loop_rel (body := fun (_ : Unit) rc (v : Int32 × Int32 × Int64 × Int32 × (Nat → Int32) × (Nat → Int32) × (Nat → Int64) × (Nat → Int32) × (Nat → Int32) × (Nat → Int32) × Int32 × Int32 × Int32) => f_X0_leave_b59 (nI t) p3 (fun x0_ x1_ x2_ x3_ x4_ x5_ x6_ x7_ x8_ x9_ x10_ x11_ x12_ => rc (x0_, x1_, x2_, x3_, x4_, x5_, x6_, x7_, x8_, x9_, x10_, x11_, x12_)) v.1 v.2.1 v.2.2.1 v.2.2.2.1 v.2.2.2.2.1 v.2.2.2.2.2.1 v.2.2.2.2.2.2.1 v.2.2.2.2.2.2.2.1 v.2.2.2.2.2.2.2.2.1 v.2.2.2.2.2.2.2.2.2.1 v.2.2.2.2.2.2.2.2.2.2.1 v.2.2.2.2.2.2.2.2.2.2.2.1 v.2.2.2.2.2.2.2.2.2.2.2.2) (fun _ (r : (Nat → Int32) × (Nat → Int32) × (Nat → Int64) × (Nat → Int32)) => some (sz, r.1, r.2.1, r.2.2.1, nm, ow, r.2.2.2, all, sz, cn)) (fun r => CN (r.1, r.2.1, r.2.2.1, nm, ow, r.2.2.2, all, sz, cn) (lab (lvS (gS a t h 24 0 24) t) L)) 24 200 (fun b w => ∃ nr ord it mov, w = (bsP (fun s => (h && aNr a s t) = true), bsP (fun v => aNr a t v = true), lset (aIt a t) 40, nI b, nr, ord, it, nm, ow, mov, all, sz, cn) ∧ CN (nr, ord, it, nm, ow, mov, all, sz, cn) (lab (lvS (gS a t h b 0 b) t) L)) (by decide) (by
    rintro b w hb ⟨nr, ord, it, mov, rfl, i1⟩
    by_cases e : b = 24
    · left
      refine ⟨(nr, ord, it, mov), by rw [← e]; exact i1, ?_⟩
      intro k rc
      show f_X0_leave_b59 _ _ _ _ _ _ _ _ _ _ _ _ _ _ _ _ = _
      unfold f_X0_leave_b59
      dsimp only
      rw [e, if_pos y24]
    · right
      have hb' : b < 24 := by omega
      refine ⟨hb', ?_⟩
      by_cases c : (h && aNr a b t) = true
      · have c' := c
        rw [Bool.and_eq_true] at c'
        obtain ⟨c0, c1⟩ := c'
        subst c0
        have hbt : b ≠ t := fun z => by have := pcO_lt hW c1; rw [z] at this; omega
        have i2 : CN (nr, ord, vp_updL it b (lset (itG a t true (b + 1) b) 40), nm, ow, mov, all, sz, cn) (lab (lvS (gS a t true b 0 (b + 1)) t) L) := by
          refine ⟨i1.1, i1.2.1, fun u hu => ?_, i1.2.2.2⟩
          show vp_updL it b (lset (itG a t true (b + 1) b) 40) u = lset (fun k => itG a t true (b + 1) u k && !decide (u = t)) 40
          by_cases eu : u = b
          · rw [eu, vpN]
            congr 1
            funext k
            simp [hbt]
          · rw [vpO eu, it_up c1 u eu]
            exact i1.2.2.1 u hu
        have wL : ∀ j, WA (lab (lvS (gS a t true b j (b + 1)) t) L) := fun j => WA_lv (WA_g hW t true b j (b + 1)) ht hc hL
        obtain ⟨nr2, ord2, mov2, q1, q2⟩ := c_cta (S := fun v => aNr a t v = true) hb' (fun j => lab (lvS (gS a t true b j (b + 1)) t) L) i2 (fun j _ => wL j) (fun j _ => al_lv.mpr ⟨W_e1 hW c1, hbt⟩) (by
          intro j hj
          by_cases c2 : aNr a t j = true
          · have l1 := pcO_lt hW c1
            have l2 := pcO_lt hW c2
            have hjt : j ≠ t := fun z => by rw [z] at l2; omega
            have hbj : b ≠ j := fun z => by rw [z] at l1; omega
            by_cases c3 : nrG a t true b j b j = true
            · left
              refine ⟨fun z => ?_, ?_⟩
              · have : aNr (lvS (gS a t true b j (b + 1)) t) b j = true := nr_lv.mpr ⟨c3, hbt, hjt⟩
                rw [show aNr (lvS (gS a t true b j (b + 1)) t) b j = false from z.2] at this
                exact Bool.noConfusion this
              · show lab (lvS (itS (nrS a (nrG a t true b (j + 1))) (itG a t true (b + 1))) t) L = lab (lvS (itS (nrS a (nrG a t true b j)) (itG a t true (b + 1))) t) L
                rw [nrG_skip (.inr c3)]
            · right
              have cm := lv_cm hW ht c1 c2 (b + 1) hc hL
              refine ⟨c2, Bool.eq_false_iff.mpr (fun z => c3 (nr_lv.mp z).1), al_lv.mpr ⟨W_e2 hW c2, hjt⟩, hbj, ?_, cm.1.symm⟩
              intro z
              rcases Rc_pc (wL j) z with w | w
              · exact hbj w.symm
              · have := cm.2
                omega
          · left
            refine ⟨fun z => c2 z.1, ?_⟩
            show lab (lvS (itS (nrS a (nrG a t true b (j + 1))) (itG a t true (b + 1))) t) L = lab (lvS (itS (nrS a (nrG a t true b j)) (itG a t true (b + 1))) t) L
            rw [nrG_skip (.inl (fun z => c2 z.2.2))])
        refine ⟨_, ⟨nr2, ord2, vp_updL it b (lset (itG a t true (b + 1) b) 40), mov2, rfl, ?_⟩, ?_⟩
        · have q2' : CN (nr2, ord2, vp_updL it b (lset (itG a t true (b + 1) b) 40), nm, ow, mov2, all, sz, cn) (lab (lvS (itS (nrS a (nrG a t true b 24)) (itG a t true (b + 1))) t) L) := q2
          rw [nrG_end a t true b hW] at q2'
          exact q2'
        · intro k rc
          show f_X0_leave_b59 _ _ _ _ _ _ _ _ _ _ _ _ _ _ _ _ = _
          unfold f_X0_leave_b59
          dsimp only
          have eb : it b ||| lset (aIt a t) 40 = lset (itG a t true (b + 1) b) 40 := by
            have := i1.2.2.1 b hb'
            rw [show it b = lset (itG a t true b b) 40 by
              rw [show it b = lset (fun k => itG a t true b b k && !decide (b = t)) 40 from this]
              congr 1
              funext k
              simp [hbt], lset_or _ _ (by omega)]
            congr 1
            funext k
            exact (it_bb c1 k).symm
          have q1' : f_X2_comeToAll nr ord mov sz (nI b) (bsP (fun v => aNr a t v = true)) = some (nr2, ord2, mov2) := q1
          rw [if_neg (n24 hb'), if_neg (by rw [bsP_hold hb']; exact fun z => z c), chk_nI hb' (by decide), chk_nI hb' (by decide), ix_nI (by omega), eb, q1', sbind, nI_1]
      · refine ⟨_, ⟨nr, ord, it, mov, rfl, ?_⟩, ?_⟩
        · show CN (nr, ord, it, nm, ow, mov, all, sz, cn) (lab (lvS (itS (nrS a (nrG a t h (b + 1) 0)) (itG a t h (b + 1))) t) L)
          rw [nrG_row (fun z => c (by rw [z.1, z.2]; rfl)), itG_row (fun z => c (by rw [z.1, z.2]; rfl))]
          exact i1
        · intro k rc
          show f_X0_leave_b59 _ _ _ _ _ _ _ _ _ _ _ _ _ _ _ _ = _
          unfold f_X0_leave_b59
          dsimp only
          rw [if_neg (n24 hb'), if_pos (by rw [bsP_hold hb']; exact c), nI_1]) (bsP (fun s => (h && aNr a s t) = true), bsP (fun v => aNr a t v = true), lset (aIt a t) 40, 0, nr, ord, it, nm, ow, n.2.2.2.2.2.1, all, sz, cn) ⟨nr, ord, it, n.2.2.2.2.2.1, rfl, by
      rw [g_0]
      exact hR _⟩
  exact ⟨r.1, r.2.1, r.2.2.1, r.2.2.2, h3 (), hr⟩
theorem act_leave {n : ND} {a : AN} {m0 : Nat → Int32} (hC : CN n a) (hM : MN m0 0 a) (hW : WA a) (pls mvs : Nat → Int32) (x y : Int32) : ∃ r nr ord it nm ow mov all sz cn m1 pls' mvs' a', f_X0_leave n.1 n.2.1 n.2.2.1 n.2.2.2.1 n.2.2.2.2.1 n.2.2.2.2.2.1 n.2.2.2.2.2.2.1 n.2.2.2.2.2.2.2.1 n.2.2.2.2.2.2.2.2 x y = some (r, nr, ord, it, nm, ow, mov, all, sz, cn) ∧ f_X7_goesOne m0 pls mvs x y = some (r, m1, pls', mvs') ∧ out m0 m1 ∧ BN (nr, ord, it, nm, ow, mov, all, sz, cn) m1 0 a' := by
  unfold f_X0_leave f_X7_goesOne
  by_cases hx : isT a x
  · obtain ⟨t, rfl, lt, ht⟩ := hx
    rw [C_has1 hC lt ht, if_neg one0, m_isTerm1 hM lt ht, sbind, if_neg one0]
    have hin : f_X7_in y.toInt64 0 1 = 0 ↔ (y < 0 ∨ 1 < y) := by
      rw [show (1 : Int64) = (1 : Int32).toInt64 from rfl]
      exact in32 y 1
    by_cases hy : y < 0 ∨ 1 < y
    · rw [if_pos (hin.mpr hy)]
      by_cases h0 : y < 0
      · rw [if_pos h0]
        exact ⟨_, _, _, _, _, _, _, _, _, _, _, _, _, a, rfl, rfl, out_refl _, hC, hM, hW⟩
      · rw [if_neg h0, if_neg (fun z => i_nlt.mpr z (hy.resolve_left h0))]
        exact ⟨_, _, _, _, _, _, _, _, _, _, _, _, _, a, rfl, rfl, out_refl _, hC, hM, hW⟩
    · rw [if_neg (fun z => hy (hin.mp z)), if_neg (fun z => hy (.inl z)), if_pos (i_nlt.mp (fun z => hy (.inr z)))]
      obtain ⟨nr, ord, it, nm, ow, all, sz, cn, e1, hR⟩ := c_remove hC hW ht
      obtain ⟨L, dL⟩ : ∃ L, L = d3 t (aC a) (lbs a) := ⟨_, rfl⟩
      have ok := d3_ok (t := t) (Q := fun u => aAl a u = true) (aC a) (lbs a) (Nat.le_refl _) (fun i h1 h2 => absurd h2 (by show ¬ i < aC a; omega)) (fun i hi => hW.2.2.2.2.2.2.2.2.1 i hi)
      rw [← dL] at ok hR
      have hc40 : L.1 ≤ 40 := Nat.le_trans ok.1 hW.2.1
      have hLt : ∀ i, i < L.1 → L.2.2 i ≠ t ∧ aAl a (L.2.2 i) = true := ok.2
      -- the class
      have cls : ∀ h : Bool, (if y = 1 then (f_X2_broaderOf n.1 (nI t)).bind (fun r2 => f_X0_leave_b33 n.1 n.2.1 n.2.2.1 n.2.2.2.1 n.2.2.2.2.1 n.2.2.2.2.2.1 n.2.2.2.2.2.2.1 n.2.2.2.2.2.2.2.1 n.2.2.2.2.2.2.2.2 (nI t) y r2) else f_X0_leave_b33 n.1 n.2.1 n.2.2.1 n.2.2.2.1 n.2.2.2.2.1 n.2.2.2.2.2.1 n.2.2.2.2.2.2.1 n.2.2.2.2.2.2.2.1 n.2.2.2.2.2.2.2.2 (nI t) y 0) = f_X0_leave_b33 n.1 n.2.1 n.2.2.1 n.2.2.2.1 n.2.2.2.2.1 n.2.2.2.2.2.1 n.2.2.2.2.2.2.1 n.2.2.2.2.2.2.2.1 n.2.2.2.2.2.2.2.2 (nI t) y (bset (fun s => h && aNr a s t) 24) → ∃ nr' ord' it' mov', (if y = 1 then (f_X2_broaderOf n.1 (nI t)).bind (fun r2 => f_X0_leave_b33 n.1 n.2.1 n.2.2.1 n.2.2.2.1 n.2.2.2.2.1 n.2.2.2.2.2.1 n.2.2.2.2.2.2.1 n.2.2.2.2.2.2.2.1 n.2.2.2.2.2.2.2.2 (nI t) y r2) else f_X0_leave_b33 n.1 n.2.1 n.2.2.1 n.2.2.2.1 n.2.2.2.2.1 n.2.2.2.2.2.1 n.2.2.2.2.2.2.1 n.2.2.2.2.2.2.2.1 n.2.2.2.2.2.2.2.2 (nI t) y 0) = some (sz, nr', ord', it', nm, ow, mov', all, sz, cn) ∧ CN (nr', ord', it', nm, ow, mov', all, sz, cn) (lab (lvS (gS a t h 24 0 24) t) L) := by
        intro h eh
        obtain ⟨nr', ord', it', mov', q1, q2⟩ := c_leave hC hW ht h y hc40 hLt hR
        refine ⟨nr', ord', it', mov', ?_, q2⟩
        rw [eh]
        unfold f_X0_leave_b33
        rw [chk_nI lt (by decide), chk_nI lt (by decide), e1, sbind, ix_nI (by omega)]
        exact q1
      -- the reference, from the labels on
      have ref : ∀ (h : Bool) (m : Nat → Int32) (pl mv : Nat → Int32), MN m 0 (gS a t h 24 0 24) → out m0 m → ∃ m1, f_X7_goesOne_b30 (nI t) y m pl mv = some (nI (aS a - 1), m1, pl, mv) ∧ MN m1 0 (lab (lvS (gS a t h 24 0 24) t) L) ∧ out m0 m1 := by
        intro h m pl mv k1 k2
        have wg := WA_g hW t h 24 0 24
        have wl : WA (lab (gS a t h 24 0 24) L) := by
          refine ⟨wg.1, hc40, wg.2.2.1, wg.2.2.2.1, wg.2.2.2.2.1, wg.2.2.2.2.2.1, wg.2.2.2.2.2.2.1, wg.2.2.2.2.2.2.2.1, fun i hi => (hLt i hi).2, wg.2.2.2.2.2.2.2.2.2⟩
        obtain ⟨m', d1, d2, d3'⟩ := m_dropAll k1 wg.1 wg.2.1 (fun i hi => W_lt hW (hW.2.2.2.2.2.2.2.2.1 i hi)) lt y pl mv
        have d1' : MN m' 0 (lab (gS a t h 24 0 24) L) := by rw [dL]; exact d1
        obtain ⟨m1, l1, l2, l3⟩ := m_leaves d1' wl ht
        have l2' : MN m1 0 (lab (lvS (gS a t h 24 0 24) t) L) := l2
        have wf : WA (lab (lvS (gS a t h 24 0 24) t) L) := WA_lv wg ht hc40 hLt
        refine ⟨m1, ?_, l2', out_trans k2 (out_trans d2 l3)⟩
        unfold f_X7_goesOne_b30
        rw [show f_X7_labelMany m 0 = some (nI (aC a)) from m_labelMany (q := 0) (a := gS a t h 24 0 24) k1 (by omega), sbind]
        rw [show f_X7_goesOne_l38 (nI t) y (nI (aC a) - 1) m pl mv = _ from d3', l1, sbind, show f_X7_there m1 0 = some (bset (aAl (lab (lvS (gS a t h 24 0 24) t) L)) 24) from m_there (q := 0) (l2' : MN m1 (0 * 179) _) (by omega), sbind, m_sizeOf, sbind, (npc_bset _ 24 (by omega)).2, cnt_al wf]
      have hsz : sz = nI (aS a - 1) := (hR n.2.2.2.2.2.1).2.2.2.2.2.2.1
      by_cases y1 : y = 1
      · obtain ⟨nr', ord', it', mov', q1, q2⟩ := cls true (by
          rw [if_pos y1, c_broader hC lt, sbind]
          congr 1)
        obtain ⟨m', pl', mv', j1, j2, j3⟩ := m_inherits hM hW ht pls mvs
        obtain ⟨m1, g1, g2, g3⟩ := ref true m' pl' mv' j2 j3
        rw [q1, if_pos y1, j1, sbind]
        dsimp only
        rw [g1, hsz]
        refine ⟨_, _, _, _, _, _, _, _, _, _, m1, pl', mv', _, rfl, rfl, g3, ?_, g2, WA_lv (WA_g hW t true 24 0 24) ht hc40 hLt⟩
        rw [hsz] at q2
        exact q2
      · obtain ⟨nr', ord', it', mov', q1, q2⟩ := cls false (by
          rw [if_neg y1, show bset (fun s => false && aNr a s t) 24 = 0 from (bs0 _).mpr (fun k _ z => Bool.noConfusion z)])
        obtain ⟨m1, g1, g2, g3⟩ := ref false m0 pls mvs (by rw [g_end]; exact hM) (out_refl _)
        rw [q1, if_neg y1, g1, hsz]
        refine ⟨_, _, _, _, _, _, _, _, _, _, m1, pls, mvs, _, rfl, rfl, g3, ?_, g2, WA_lv (WA_g hW t false 24 0 24) ht hc40 hLt⟩
        rw [hsz] at q2
        exact q2
  · rw [C_has0 hC hx, if_pos rfl, m_isTerm0 hM hx, sbind, if_pos rfl]
    exact ⟨_, _, _, _, _, _, _, _, _, _, _, _, _, a, rfl, rfl, out_refl _, hC, hM, hW⟩
theorem inv_27 (x_words : Nat → Int32) (x_wordCount : Int32) (x_size : Int32) (x_signs : Nat → Int32) (x_next : Int32) (g_longest : Nat → Int32) (g_many : Nat → Int64) (g_layers : Nat → Int32) (g_length : Int32) (g_aheadOf : Nat → Int32) (g_cameFrom : Nat → Int32) (g_queue : Nat → Int32) (r_numbers : Nat → Int64) (r_size : Int32) (p_size : Int32) (t_filled : Nat → Int32) (nd : Nat → ND) (m_thrown : Int32) (m_told : Int32) (m_row : Nat → Int64) (m_tape : Nat → Int32) (m_taped : Int32) (m_at : Int32) (m_to : Int32) (m_mem : Nat → Int32) (m_undos : Int32) (m_places : Nat → Int32) (m_movers : Nat → Int32) (m_far : Nat → Int32) (m_way : Nat → Int32) (m_wayMany : Int32) (m_fromOf : Nat → Int32) (m_toOf : Nat → Int32) (m_longest : Nat → Int32) (m_wayCount : Nat → Int64) (m_thin : Nat → Int32) (m_ahead : Nat → Int32) (m_tried : Int32) (m_foundLow : Int32) (m_foundHigh : Int32) (m_nextLow : Int32) (m_nextHigh : Int32) (m_act : Nat → Int32) (m_first : Nat → Int32) (m_second : Nat → Int32) (m_random : Int32) (m_isKept : Nat → Int32) (x y : Int32) (h : Inv x_words x_wordCount x_size x_signs x_next g_longest g_many g_layers g_length g_aheadOf g_cameFrom g_queue r_numbers r_size p_size t_filled nd m_thrown m_told m_row m_tape m_taped m_at m_to m_mem m_undos m_places m_movers m_far m_way m_wayMany m_fromOf m_toOf m_longest m_wayCount m_thin m_ahead m_tried m_foundLow m_foundHigh m_nextLow m_nextHigh m_act m_first m_second m_random m_isKept) : S_27 Inv x_words x_wordCount x_size x_signs x_next g_longest g_many g_layers g_length g_aheadOf g_cameFrom g_queue r_numbers r_size p_size t_filled nd m_thrown m_told m_row m_tape m_taped m_at m_to m_mem m_undos m_places m_movers m_far m_way m_wayMany m_fromOf m_toOf m_longest m_wayCount m_thin m_ahead m_tried m_foundLow m_foundHigh m_nextLow m_nextHigh m_act m_first m_second m_random m_isKept x y := by
  obtain ⟨⟨a, hC, hM, hW⟩, hP, hK, hR, hT⟩ := h
  unfold S_27
  intro sa bb
  have hM0 := Mc0 hW hM
  have ag0 : agr m_mem (cpy m_mem 0 3) := agr_cpy _ (.inr (.inl rfl))
  obtain ⟨r, nr, ord, it, nm, ow, mov, all, sz, cn, m1, pl', mv', a', e1, e2, ho, hA⟩ := act_leave hC hM0 hW m_places m_movers x y
  unfold f_X6_goes f_X7_goes
  rw [e1, sbind, Mcp, sbind, e2, sbind]
  dsimp only
  by_cases hr : r < 0
  · rw [c_settle0 hr, sbind, m_done0 hr, sbind]
    exact ⟨_, rfl, _, rfl, rfl, .inl ⟨rfl, rfl, ⟨a', hA⟩, (chgP (out_agr ag0 ho) hP hK _ _).1, (chgP (out_agr ag0 ho) hP hK _ _).2, hR, hT⟩⟩
  · obtain ⟨k, hk, ek, bb', sa', mem', g1, g2, g3, g4, g5⟩ := chgC (out_agr ag0 ho) hP hK hA (BN_aside (n12 := nd 12) ⟨hC, hM, hW⟩ (out_as ho)) sa bb
    rw [c_settle1 hr g1, sbind, m_done1 hr g2, sbind]
    exact ⟨_, rfl, _, rfl, rfl, .inr ⟨k, hk, ek, g1, g3, g4, g5, hR, hT⟩⟩
