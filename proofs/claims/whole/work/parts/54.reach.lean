/-! PURE 54: ways; all below, all above -/
theorem n24 {j : Nat} (hj : j < 24) : ¬ (24 : Int32) ≤ nI j := by rw [le24 (by omega)]; omega
theorem y24 : (24 : Int32) ≤ nI 24 := by decide
theorem nle {n j : Nat} (hj : j < n) (hn : n < 2 ^ 30) : ¬ nI n ≤ nI j := by rw [nI_leI (by omega) (by omega)]; omega
theorem yle (n : Nat) (hn : n < 2 ^ 30) : nI n ≤ nI n := by rw [nI_leI (by omega) (by omega)]; omega
theorem loop_go {V ρ : Type} {body : (V → Option ρ) → V → Option ρ} (g : Nat → V) {v0 : V} {res : Option ρ} (m n : Nat) (hm : m < n) (h0 : v0 = g 0) (hs : ∀ j, j < m → ∀ rc, body rc (g j) = rc (g (j + 1))) (he : ∀ rc, body rc (g m) = res) : loopN body n v0 = res := by
  rw [h0]
  exact loop_run g m n hm hs he
theorem loop_ex {V ρ : Type} {body : (V → Option ρ) → V → Option ρ} (g : Nat → V) {res : Option ρ} : ∀ (m n : Nat), m < n → (∀ j, j < m → (∀ rc, body rc (g j) = rc (g (j + 1))) ∨ (∀ rc, body rc (g j) = res)) → (∀ rc, body rc (g m) = res) → ∀ v0, v0 = g 0 → loopN body n v0 = res := by
  intro m
  induction m generalizing g with
  | zero =>
    intro n hn _ he v0 hv
    subst hv
    obtain ⟨n, rfl⟩ : ∃ k, n = k + 1 := ⟨n - 1, by omega⟩
    exact he _
  | succ m ih =>
    intro n hn hs he v0 hv
    subst hv
    obtain ⟨n, rfl⟩ : ∃ k, n = k + 1 := ⟨n - 1, by omega⟩
    rw [loopN_succ]
    rcases hs 0 (by omega) with h | h
    · rw [h]
      exact ih (fun j => g (j + 1)) n (by omega) (fun j hj => hs (j + 1) (by omega)) he _ rfl
    · exact h _
/-- whether -/
noncomputable def pb (P : Prop) : Bool := @decide P (Classical.propDecidable P)
theorem pb_iff {P : Prop} : pb P = true ↔ P := @decide_eq_true_iff P (Classical.propDecidable P)
noncomputable def bsP (P : Nat → Prop) : Int32 := bset (fun u => pb (P u)) 24
theorem bt_bsP (P : Nat → Prop) (k : Nat) : bt (bsP P) k = true ↔ (k < 24 ∧ P k) := by
  unfold bsP
  rw [bt_bset _ (by omega), Bool.and_eq_true, decide_eq_true_iff, pb_iff]
theorem bt_bs24 (P : Nat → Bool) (k : Nat) : bt (bset P 24) k = true ↔ (k < 24 ∧ P k = true) := by
  rw [bt_bset _ (by omega), Bool.and_eq_true, decide_eq_true_iff]
theorem bi_ext {x y : Int32} (h : ∀ k, k < 32 → (bt x k = true ↔ bt y k = true)) : x = y := bt_ext (fun k hk => Bool.eq_iff_iff.mpr (h k hk))
theorem bi_or (x y : Int32) (k : Nat) : bt (x ||| y) k = true ↔ (bt x k = true ∨ bt y k = true) := by rw [bt_or, Bool.or_eq_true]
theorem bi_and (x y : Int32) (k : Nat) : bt (x &&& y) k = true ↔ (bt x k = true ∧ bt y k = true) := by rw [bt_and, Bool.and_eq_true]
theorem bi_shl {t : Nat} (h : t < 32) (k : Nat) : bt (jshl 1 (nI t)) k = true ↔ k = t := by rw [bt_shl1 h, decide_eq_true_iff]
theorem bsP_congr {P Q : Nat → Prop} (h : ∀ k, k < 24 → (P k ↔ Q k)) : bsP P = bsP Q := by
  apply bi_ext
  intro k _
  rw [bt_bsP, bt_bsP]
  constructor
  · exact fun q => ⟨q.1, (h k q.1).mp q.2⟩
  · exact fun q => ⟨q.1, (h k q.1).mpr q.2⟩
theorem bs_eq (P : Nat → Bool) : bset P 24 = bsP (fun k => P k = true) := by
  apply bi_ext
  intro k _
  rw [bt_bsP, bt_bs24]
theorem bsP_or (P Q : Nat → Prop) : bsP P ||| bsP Q = bsP (fun k => P k ∨ Q k) := by
  apply bi_ext
  intro k _
  rw [bi_or, bt_bsP, bt_bsP, bt_bsP]
  constructor
  · rintro (h | h)
    · exact ⟨h.1, .inl h.2⟩
    · exact ⟨h.1, .inr h.2⟩
  · rintro ⟨h, q | q⟩
    · exact .inl ⟨h, q⟩
    · exact .inr ⟨h, q⟩
theorem bsP_and (P Q : Nat → Prop) : bsP P &&& bsP Q = bsP (fun k => P k ∧ Q k) := by
  apply bi_ext
  intro k _
  rw [bi_and, bt_bsP, bt_bsP, bt_bsP]
  constructor
  · exact fun h => ⟨h.1.1, h.1.2, h.2.2⟩
  · exact fun h => ⟨⟨h.1, h.2.1⟩, h.1, h.2.2⟩
theorem bsP_one {t : Nat} (ht : t < 24) : jshl 1 (nI t) = bsP (fun k => k = t) := by
  apply bi_ext
  intro k _
  rw [bi_shl (by omega), bt_bsP]
  constructor
  · intro h; subst h; exact ⟨ht, rfl⟩
  · exact fun h => h.2
theorem bsP_0 {P : Nat → Prop} : bsP P = 0 ↔ ∀ k, k < 24 → ¬ P k := by
  constructor
  · intro h k hk q
    have := (bt_bsP P k).mpr ⟨hk, q⟩
    rw [h, bt_0] at this
    exact Bool.noConfusion this
  · intro h
    apply bi_ext
    intro k _
    rw [bt_bsP, bt_0]
    constructor
    · exact fun q => absurd q.2 (h k q.1)
    · exact fun q => Bool.noConfusion q
theorem bsP_hold {P : Nat → Prop} {t : Nat} (ht : t < 24) : f_X6_holds (bsP P) (nI t) = 0 ↔ ¬ P t := by
  rw [holds0 (by omega), Bool.eq_false_iff, ne_eq, bt_bsP]
  constructor
  · exact fun h q => h ⟨ht, q⟩
  · exact fun h q => h q.2
theorem bsP_has {P : Nat → Prop} {t : Nat} (ht : t < 24) : f_X7_has (bsP P) (nI t) = 0 ↔ ¬ P t := by
  rw [has0 (by omega), Bool.eq_false_iff, ne_eq, bt_bsP]
  constructor
  · exact fun h q => h ⟨ht, q⟩
  · exact fun h q => h q.2
/-- a way of n links -/
def Wk (E : Nat → Nat → Bool) : Nat → Nat → Nat → Prop
  | 0, x, y => x = y
  | n + 1, x, y => ∃ z, E x z = true ∧ Wk E n z y
def Rc (E : Nat → Nat → Bool) (x y : Nat) : Prop := ∃ n, Wk E n x y
theorem Wk_snoc {E : Nat → Nat → Bool} : ∀ {n x z y}, Wk E n x z → E z y = true → Wk E (n + 1) x y := by
  intro n
  induction n with
  | zero =>
    intro x z y h e
    have : x = z := h
    subst this
    exact ⟨y, e, rfl⟩
  | succ n ih =>
    rintro x z y ⟨w, hw, h⟩ e
    exact ⟨w, hw, ih h e⟩
theorem Wk_last {E : Nat → Nat → Bool} : ∀ {n x y}, Wk E (n + 1) x y → ∃ z, Wk E n x z ∧ E z y = true := by
  intro n
  induction n with
  | zero =>
    rintro x y ⟨w, hw, h⟩
    have : w = y := h
    subst this
    exact ⟨x, rfl, hw⟩
  | succ n ih =>
    rintro x y ⟨w, hw, h⟩
    obtain ⟨z, h1, h2⟩ := ih h
    exact ⟨z, ⟨w, hw, h1⟩, h2⟩
theorem Wk_trans {E : Nat → Nat → Bool} : ∀ {n m x y z}, Wk E n x y → Wk E m y z → Wk E (n + m) x z := by
  intro n
  induction n with
  | zero =>
    intro m x y z h1 h2
    have : x = y := h1
    subst this
    rw [Nat.zero_add]
    exact h2
  | succ n ih =>
    rintro m x y z ⟨w, hw, h⟩ h2
    rw [Nat.succ_add]
    exact ⟨w, hw, ih h h2⟩
theorem Rc_refl (E : Nat → Nat → Bool) (x : Nat) : Rc E x x := ⟨0, rfl⟩
theorem Rc_trans {E : Nat → Nat → Bool} {x y z : Nat} (h : Rc E x y) (q : Rc E y z) : Rc E x z := by
  obtain ⟨n, h⟩ := h
  obtain ⟨m, q⟩ := q
  exact ⟨n + m, Wk_trans h q⟩
theorem Rc_one {E : Nat → Nat → Bool} {x y : Nat} (h : E x y = true) : Rc E x y := ⟨1, y, h, rfl⟩
theorem Rc_snoc {E : Nat → Nat → Bool} {x y z : Nat} (h : Rc E x y) (q : E y z = true) : Rc E x z := Rc_trans h (Rc_one q)
theorem Rc_cons {E : Nat → Nat → Bool} {x y z : Nat} (q : E x y = true) (h : Rc E y z) : Rc E x z := Rc_trans (Rc_one q) h
theorem Rc_last {E : Nat → Nat → Bool} {x y : Nat} (h : Rc E x y) : x = y ∨ ∃ z, Rc E x z ∧ E z y = true := by
  obtain ⟨n, h⟩ := h
  cases n with
  | zero => exact .inl h
  | succ n =>
    obtain ⟨z, h1, h2⟩ := Wk_last h
    exact .inr ⟨z, ⟨n, h1⟩, h2⟩
theorem Rc_first {E : Nat → Nat → Bool} {x y : Nat} (h : Rc E x y) : x = y ∨ ∃ z, E x z = true ∧ Rc E z y := by
  obtain ⟨n, h⟩ := h
  cases n with
  | zero => exact .inl h
  | succ n =>
    obtain ⟨z, h1, h2⟩ := h
    exact .inr ⟨z, h1, n, h2⟩
/-- the links the other way round -/
abbrev tr (E : Nat → Nat → Bool) : Nat → Nat → Bool := fun x y => E y x
theorem Wk_tr {E : Nat → Nat → Bool} : ∀ {n x y}, Wk (tr E) n x y ↔ Wk E n y x := by
  intro n
  induction n with
  | zero => intro x y; exact ⟨fun h => Eq.symm h, fun h => Eq.symm h⟩
  | succ n ih =>
    intro x y
    constructor
    · rintro ⟨z, h1, h2⟩
      exact Wk_snoc (ih.mp h2) h1
    · intro h
      obtain ⟨z, h1, h2⟩ := Wk_last h
      exact ⟨z, h2, ih.mpr h1⟩
theorem Rc_tr {E : Nat → Nat → Bool} {x y : Nat} : Rc (tr E) x y ↔ Rc E y x := ⟨fun ⟨n, h⟩ => ⟨n, Wk_tr.mp h⟩, fun ⟨n, h⟩ => ⟨n, Wk_tr.mpr h⟩⟩
/-- the place of a term -/
noncomputable def pcO (a : AN) (t : Nat) : Nat := Classical.epsilon (fun p => p < aS a ∧ aO a p = t)
theorem pcO_spec {a : AN} (hw : WA a) {t : Nat} (h : aAl a t = true) : pcO a t < aS a ∧ aO a (pcO a t) = t := Classical.epsilon_spec (hw.2.2.2.2.2.1 t h)
theorem pcO_at {a : AN} (hw : WA a) {p : Nat} (hp : p < aS a) : pcO a (aO a p) = p := by
  have h := pcO_spec hw (hw.2.2.2.1 p hp)
  exact hw.2.2.2.2.1 _ _ h.1 hp h.2
theorem W_lt {a : AN} (hw : WA a) {t : Nat} (h : aAl a t = true) : t < 24 := hw.2.2.1 t h
theorem W_al {a : AN} (hw : WA a) {p : Nat} (hp : p < aS a) : aAl a (aO a p) = true := hw.2.2.2.1 p hp
theorem W_o {a : AN} (hw : WA a) {p : Nat} (hp : p < aS a) : aO a p < 24 := W_lt hw (W_al hw hp)
theorem W_e1 {a : AN} (hw : WA a) {t u : Nat} (h : aNr a t u = true) : aAl a t = true := (hw.2.2.2.2.2.2.2.1 t u h).1
theorem W_e2 {a : AN} (hw : WA a) {t u : Nat} (h : aNr a t u = true) : aAl a u = true := (hw.2.2.2.2.2.2.2.1 t u h).2
theorem pcO_lt {a : AN} (hw : WA a) {t u : Nat} (h : aNr a t u = true) : pcO a t < pcO a u := by
  have h1 := pcO_spec hw (W_e1 hw h)
  have h2 := pcO_spec hw (W_e2 hw h)
  refine hw.2.2.2.2.2.2.1 _ _ h1.1 h2.1 ?_
  rw [h1.2, h2.2]
  exact h
theorem Wk_al {a : AN} (hw : WA a) : ∀ {n x y}, Wk (aNr a) n x y → (aAl a x = true ↔ aAl a y = true) := by
  intro n
  induction n with
  | zero =>
    intro x y h
    have : x = y := h
    subst this
    exact Iff.rfl
  | succ n ih =>
    rintro x y ⟨z, h1, h2⟩
    have := ih h2
    exact ⟨fun _ => this.mp (W_e2 hw h1), fun _ => W_e1 hw h1⟩
theorem Rc_al {a : AN} (hw : WA a) {x y : Nat} (h : Rc (aNr a) x y) : aAl a x = true ↔ aAl a y = true := by
  obtain ⟨n, h⟩ := h
  exact Wk_al hw h
theorem Wk_pc {a : AN} (hw : WA a) : ∀ {n x y}, Wk (aNr a) n x y → pcO a x + n ≤ pcO a y := by
  intro n
  induction n with
  | zero =>
    intro x y h
    have : x = y := h
    subst this
    exact Nat.le_refl _
  | succ n ih =>
    rintro x y ⟨z, h1, h2⟩
    have := ih h2
    have := pcO_lt hw h1
    omega
theorem Wk_23 {a : AN} (hw : WA a) {n x y : Nat} (h : Wk (aNr a) n x y) : n ≤ 23 := by
  cases n with
  | zero => omega
  | succ n =>
    have h1 := Wk_pc hw h
    obtain ⟨z, h2, h3⟩ := Wk_last h
    have := (pcO_spec hw (W_e2 hw h3)).1
    have := hw.1
    omega
theorem Rc_pc {a : AN} (hw : WA a) {x y : Nat} (h : Rc (aNr a) x y) : x = y ∨ pcO a x < pcO a y := by
  obtain ⟨n, h⟩ := h
  cases n with
  | zero => exact .inl h
  | succ n => have := Wk_pc hw h; right; omega
theorem Rc_anti {a : AN} (hw : WA a) {x y : Nat} (h : Rc (aNr a) x y) (q : Rc (aNr a) y x) : x = y := by
  rcases Rc_pc hw h with e | h1
  · exact e
  · rcases Rc_pc hw q with e | h2
    · exact e.symm
    · omega
/-- all below, as the class finds them -/
theorem c_below {n : ND} {a : AN} (h : CN n a) (hw : WA a) {t : Nat} (hal : aAl a t = true) : f_X2_below n.1 n.2.1 (nI (aS a)) (nI t) = some (bsP (Rc (aNr a) t)) := by
  have hs := hw.1
  have ht := W_lt hw hal
  have key : ∀ j, j < aS a → (Rc (aNr a) t (aO a j) ↔ (aO a j = t ∨ ∃ s, Rc (aNr a) t s ∧ pcO a s < j ∧ aNr a s (aO a j) = true)) := by
    intro j hj
    constructor
    · intro q
      rcases Rc_last q with e | ⟨z, h1, h2⟩
      · exact .inl e.symm
      · refine .inr ⟨z, h1, ?_, h2⟩
        have := pcO_lt hw h2
        rw [pcO_at hw hj] at this
        exact this
    · rintro (e | ⟨s, h1, _, h2⟩)
      · rw [e]; exact Rc_refl _ _
      · exact Rc_snoc h1 h2
  unfold f_X2_below f_X2_below_l6
  refine loop_go (fun j => (bsP (fun u => u = t ∨ ∃ s, Rc (aNr a) t s ∧ pcO a s < j ∧ aNr a s u = true), nI j)) (aS a) 200 (by omega) ?_ ?_ ?_
  · rw [bsP_one ht]
    congr 1
    refine bsP_congr (fun k _ => ⟨.inl, ?_⟩)
    rintro (e | ⟨s, _, q, _⟩)
    · exact e
    · exact absurd q (Nat.not_lt_zero _)
  · intro j hj rc
    show f_X2_below_b6 _ _ _ _ _ _ _ = _
    unfold f_X2_below_b6
    dsimp only
    have ho := W_o hw hj
    rw [if_neg (nle hj (by omega)), chk_nI (by omega) (by decide), ix_nI (by omega), h.2.1 j hj, chk_nI (by omega) (by decide), chk_nI ho (by decide), ix_nI (by omega), h.1 _ ho, nI_1, bs_eq, bsP_or]
    by_cases q : Rc (aNr a) t (aO a j)
    · rw [if_neg (by rw [bsP_hold ho]; exact fun z => z ((key j hj).mp q))]
      refine congrArg (fun z => rc (z, nI (j + 1))) (bsP_congr (fun u _ => ⟨?_, ?_⟩))
      · rintro ((e | ⟨s, h1, h2, h3⟩) | e)
        · exact .inl e
        · exact .inr ⟨s, h1, by omega, h3⟩
        · exact .inr ⟨aO a j, q, by rw [pcO_at hw hj]; omega, e⟩
      · rintro (e | ⟨s, h1, h2, h3⟩)
        · exact .inl (.inl e)
        · by_cases hsj : pcO a s < j
          · exact .inl (.inr ⟨s, h1, hsj, h3⟩)
          · have e : pcO a s = j := by omega
            have e2 := (pcO_spec hw (W_e1 hw h3)).2
            rw [e] at e2
            rw [e2]
            exact .inr h3
    · rw [if_pos (by rw [bsP_hold ho]; exact fun z => q ((key j hj).mpr z))]
      refine congrArg (fun z => rc (z, nI (j + 1))) (bsP_congr (fun u _ => ⟨?_, ?_⟩))
      · rintro (e | ⟨s, h1, h2, h3⟩)
        · exact .inl e
        · exact .inr ⟨s, h1, by omega, h3⟩
      · rintro (e | ⟨s, h1, h2, h3⟩)
        · exact .inl e
        · by_cases hsj : pcO a s < j
          · exact .inr ⟨s, h1, hsj, h3⟩
          · have e : pcO a s = j := by omega
            have e2 := (pcO_spec hw (W_e1 hw h3)).2
            rw [e] at e2
            rw [← e2] at h1
            exact absurd h1 q
  · intro rc
    show f_X2_below_b6 _ _ _ _ _ _ _ = _
    unfold f_X2_below_b6
    dsimp only
    rw [if_pos (yle _ (by omega))]
    refine congrArg some (bsP_congr (fun u _ => ⟨?_, ?_⟩))
    · rintro (e | ⟨s, h1, h2, h3⟩)
      · rw [e]; exact Rc_refl _ _
      · exact Rc_snoc h1 h3
    · intro q
      rcases Rc_last q with e | ⟨z, h1, h2⟩
      · exact .inl e.symm
      · exact .inr ⟨z, h1, (pcO_spec hw (W_e1 hw h2)).1, h2⟩
theorem nI_p1 (k : Nat) : nI k + (-1) = nI k - 1 := by
  rw [Int32.sub_eq_add_neg]
theorem nI_m0 : nI 0 - 1 < 0 := by decide
/-- all above, as the class finds them -/
theorem c_above {n : ND} {a : AN} (h : CN n a) (hw : WA a) {t : Nat} (hal : aAl a t = true) : f_X2_above n.1 n.2.1 (nI (aS a)) (nI t) = some (bsP (fun u => Rc (aNr a) u t)) := by
  have hs := hw.1
  have ht := W_lt hw hal
  unfold f_X2_above f_X2_above_l11
  refine loop_go (fun j => (bsP (fun u => u = t ∨ (Rc (aNr a) u t ∧ aAl a u = true ∧ aS a - j ≤ pcO a u)), nI (aS a - j) - 1)) (aS a) 200 (by omega) ?_ ?_ ?_
  · rw [bsP_one ht]
    show (_, nI (aS a) - 1) = (_, nI (aS a - 0) - 1)
    congr 1
    refine bsP_congr (fun k _ => ⟨.inl, ?_⟩)
    rintro (e | ⟨_, q1, q2⟩)
    · exact e
    · have := (pcO_spec hw q1).1
      omega
  · intro j hj rc
    show f_X2_above_b11 _ _ _ _ _ _ _ = _
    unfold f_X2_above_b11
    dsimp only
    obtain ⟨k, hk⟩ : ∃ k, aS a - j = k + 1 := ⟨aS a - j - 1, by omega⟩
    have hk2 : aS a - (j + 1) = k := by omega
    have hks : k < aS a := by omega
    have ho := W_o hw hks
    rw [hk, hk2, nI_m1, if_neg (neg_lt (by omega)), chk_nI (by omega) (by decide), ix_nI (by omega), h.2.1 k hks, chk_nI ho (by decide), ix_nI (by omega), h.1 _ ho, chk_nI (by omega) (by decide), nI_p1, bs_eq, bsP_and, bsP_one ho, bsP_or]
    have key : Rc (aNr a) (aO a k) t ∧ aO a k ≠ t ↔ ∃ v, v < 24 ∧ aNr a (aO a k) v = true ∧ (v = t ∨ (Rc (aNr a) v t ∧ aAl a v = true ∧ k + 1 ≤ pcO a v)) := by
      constructor
      · rintro ⟨q1, q2⟩
        rcases Rc_first q1 with e | ⟨z, h1, h2⟩
        · exact absurd e q2
        · have h3 := pcO_lt hw h1
          rw [pcO_at hw hks] at h3
          exact ⟨z, W_lt hw (W_e2 hw h1), h1, .inr ⟨h2, W_e2 hw h1, h3⟩⟩
      · rintro ⟨v, _, h1, h2⟩
        have h3 : Rc (aNr a) v t := by
          rcases h2 with e | h2
          · rw [e]; exact Rc_refl _ _
          · exact h2.1
        refine ⟨Rc_cons h1 h3, fun e => ?_⟩
        have h4 := pcO_lt hw h1
        rcases Rc_pc hw h3 with e2 | h5
        · rw [e2, e] at h4; omega
        · rw [e] at h4; omega
    by_cases q : Rc (aNr a) (aO a k) t ∧ aO a k ≠ t
    · rw [if_neg (by
        rw [bsP_0]
        intro z
        obtain ⟨v, h1, h2⟩ := key.mp q
        exact z v h1 h2)]
      refine congrArg (fun z => rc (z, nI k - 1)) (bsP_congr (fun u _ => ⟨?_, ?_⟩))
      · rintro ((e | ⟨h1, h2, h3⟩) | e)
        · exact .inl e
        · exact .inr ⟨h1, h2, by omega⟩
        · rw [e]
          exact .inr ⟨q.1, W_al hw hks, by rw [pcO_at hw hks]; omega⟩
      · rintro (e | ⟨h1, h2, h3⟩)
        · exact .inl (.inl e)
        · by_cases e : pcO a u = k
          · right
            have := (pcO_spec hw h2).2
            rw [e] at this
            exact this.symm
          · exact .inl (.inr ⟨h1, h2, by omega⟩)
    · rw [if_pos (by
        rw [bsP_0]
        intro v h1 h2
        exact q (key.mpr ⟨v, h1, h2⟩))]
      refine congrArg (fun z => rc (z, nI k - 1)) (bsP_congr (fun u _ => ⟨?_, ?_⟩))
      · rintro (e | ⟨h1, h2, h3⟩)
        · exact .inl e
        · exact .inr ⟨h1, h2, by omega⟩
      · rintro (e | ⟨h1, h2, h3⟩)
        · exact .inl e
        · by_cases e : pcO a u = k
          · have e2 := (pcO_spec hw h2).2
            rw [e] at e2
            rw [← e2] at h1
            left
            rw [← e2]
            exact Decidable.byContradiction fun z => q ⟨h1, z⟩
          · exact .inr ⟨h1, h2, by omega⟩
  · intro rc
    show f_X2_above_b11 _ _ _ _ _ _ _ = _
    unfold f_X2_above_b11
    dsimp only
    rw [Nat.sub_self, if_pos nI_m0]
    refine congrArg some (bsP_congr (fun u _ => ⟨?_, ?_⟩))
    · rintro (e | ⟨h1, _⟩)
      · rw [e]; exact Rc_refl _ _
      · exact h1
    · intro q
      exact .inr ⟨q, (Rc_al hw q).mpr hal, Nat.zero_le _⟩
