/-! PURE 66: the first way told, by the class -/
noncomputable def lst (Q : Nat → Prop) : Nat := Classical.epsilon (fun v => Q v ∧ ∀ w, w < v → ¬ Q w)
theorem lst_ex {Q : Nat → Prop} : ∀ v, Q v → ∃ u, Q u ∧ ∀ w, w < u → ¬ Q w := by
  intro v
  induction v using Nat.strongRecOn with
  | _ v ih =>
    intro h
    by_cases q : ∃ w, w < v ∧ Q w
    · obtain ⟨w, h1, h2⟩ := q
      exact ih w h1 h2
    · exact ⟨v, h, fun w hw z => q ⟨w, hw, z⟩⟩
theorem lst_spec {Q : Nat → Prop} (h : ∃ v, Q v) : Q (lst Q) ∧ ∀ w, w < lst Q → ¬ Q w := by
  obtain ⟨v, h⟩ := h
  exact Classical.epsilon_spec (lst_ex v h)
theorem lst_congr {P Q : Nat → Prop} (h : ∀ v, P v ↔ Q v) : lst P = lst Q := by
  have : P = Q := funext fun v => propext (h v)
  rw [this]
noncomputable def pth (F : Nat → Nat → Bool) (y L x : Nat) : Nat → Nat
  | 0 => x
  | i + 1 => lst (fun v => F (pth F y L x i) v = true ∧ Ds F y (L - (i + 1)) v)
theorem pth_s (F : Nat → Nat → Bool) (y L x i : Nat) : pth F y L x (i + 1) = lst (fun v => F (pth F y L x i) v = true ∧ Ds F y (L - (i + 1)) v) := rfl
theorem pth_ok {F : Nat → Nat → Bool} {y L x : Nat} (h : Ds F y L x) : ∀ i, i ≤ L → Ds F y (L - i) (pth F y L x i) := by
  intro i
  induction i with
  | zero => intro _; exact h
  | succ i ih =>
    intro hi
    have h1 := ih (by omega)
    rw [show L - i = (L - (i + 1)) + 1 by omega] at h1
    rw [pth_s]
    exact (lst_spec (Ds_s.mp h1).2).1.2
theorem pth_e {F : Nat → Nat → Bool} {y L x : Nat} (h : Ds F y L x) {i : Nat} (hi : i < L) : F (pth F y L x i) (pth F y L x (i + 1)) = true ∧ ∀ w, w < pth F y L x (i + 1) → ¬ (F (pth F y L x i) w = true ∧ Ds F y (L - (i + 1)) w) := by
  have h1 := pth_ok h i (by omega)
  rw [show L - i = (L - (i + 1)) + 1 by omega] at h1
  have := lst_spec (Ds_s.mp h1).2
  rw [pth_s]
  exact ⟨this.1.1, this.2⟩
theorem bar_E {E : Nat → Nat → Bool} {b : Bool} {x y k t : Nat} (h : Ds (bar E b x y) y (k + 1) t) (v : Nat) : (E t v = true ∧ Ds (bar E b x y) y k v) ↔ (bar E b x y t v = true ∧ Ds (bar E b x y) y k v) := by
  constructor
  · rintro ⟨h1, h2⟩
    refine ⟨bar_iff.mpr ⟨h1, ?_⟩, h2⟩
    rintro ⟨z1, z2, z3⟩
    rw [z3] at h2
    have e := Ds_uniq h2 (Ds_0.mpr rfl)
    subst e
    obtain ⟨_, w, h3, h4⟩ := Ds_s.mp h
    rw [Ds_0] at h4
    exact (bar_iff.mp h3).2 ⟨z1, z2, h4⟩
  · rintro ⟨h1, h2⟩
    exact ⟨(bar_iff.mp h1).1, h2⟩
theorem c_leastOf {Q : Nat → Prop} (hQ : ∀ v, Q v → v < 24) (hex : ∃ v, Q v) : f_X1_leastOf (bsP Q) = some (nI (lst Q)) := by
  obtain ⟨h1, h2⟩ := lst_spec hex
  have hl := hQ _ h1
  unfold f_X1_leastOf f_X1_leastOf_l2
  refine loop_go (fun j => nI j) (lst Q) 200 (by omega) rfl ?_ ?_
  · intro j hj rc
    show f_X1_leastOf_b2 _ _ _ = _
    unfold f_X1_leastOf_b2
    rw [if_neg (show ¬ (23 : Int32) ≤ nI j by rw [show (23 : Int32) = nI 23 from rfl, nI_leI (by decide) (by omega)]; omega), if_pos (by rw [bsP_hold (by omega)]; exact h2 j hj), nI_1]
  · intro rc
    show f_X1_leastOf_b2 _ _ _ = _
    unfold f_X1_leastOf_b2
    by_cases h23 : (23 : Int32) ≤ nI (lst Q)
    · rw [if_pos h23]
    · rw [if_neg h23, if_neg (by rw [bsP_hold (by omega)]; exact fun z => z h1)]
/-- a row of terms -/
noncomputable def rwP (p : Nat → Nat) (f : Nat → Int64) (i : Nat) : Nat → Int64 := itr (fun j f => vp_updL f j (nI (p j)).toInt64) f i
theorem rwP_s (p : Nat → Nat) (f : Nat → Int64) (i : Nat) : rwP p f (i + 1) = vp_updL (rwP p f i) i (nI (p i)).toInt64 := rfl
theorem rwP_at (p : Nat → Nat) (f : Nat → Int64) {i k : Nat} (h : k < i) : rwP p f i k = (nI (p k)).toInt64 := by
  induction i with
  | zero => exact absurd h (Nat.not_lt_zero _)
  | succ i ih =>
    rw [rwP_s]
    unfold vp_updL
    by_cases e : k = i
    · rw [if_pos e, e]
    · rw [if_neg e]
      exact ih (by omega)
theorem RwP (p : Nat → Nat) (f g : Nat → Int64) {i : Nat} (hi : i ≤ 276) : RwI (rwP p f i) (nI i) (nI i) (rwP p g i) := ⟨i, hi, rfl, rfl, fun k hk => by rw [rwP_at p f hk, rwP_at p g hk]⟩
theorem c_tellWay {n : ND} {a : AN} (hC : CN n a) (hW : WA a) {b : Bool} {x y L : Nat} (hx : x < 24) (hL : Ds (bar (aNr a) b x y) y L x) (lay : Nat → Int32) (f : Nat → Int64) (z : Int32) : f_X1_tellWay (LY (bar (aNr a) b x y) y lay (L + 1)) (nI (L + 1)) n.1 f z (nI x) = some (rwP (pth (bar (aNr a) b x y) y L x) f (L + 1), nI (L + 1)) := by
  have hL23 : L ≤ 23 := Wk_23 hW (Wk_bar hL.1)
  have bE := fun k t (h : Ds (bar (aNr a) b x y) y (k + 1) t) v => bar_E h v
  obtain ⟨F, dF⟩ : ∃ F, F = bar (aNr a) b x y := ⟨_, rfl⟩
  have hF24 : ∀ u v, F u v = true → u < 24 ∧ v < 24 := by
    intro u v q
    rw [dF] at q
    exact W_e24 hW (bar_iff.mp q).1
  rw [← dF] at hL bE ⊢
  have p24 : ∀ i, i ≤ L → pth F y L x i < 24 := by
    intro i hi
    cases i with
    | zero => exact hx
    | succ i => exact (hF24 _ _ (pth_e hL (by omega)).1).2
  unfold f_X1_tellWay
  rw [c_tell, sbind]
  dsimp only
  unfold f_X1_tellWay_l17
  refine loop_go (fun i => (nI (pth F y L x i), nI (L - i) - 1, rwP (pth F y L x) f (i + 1), nI (i + 1))) L 200 (by omega) ?_ ?_ ?_
  · show (nI x, nI (L + 1) - 2, vp_updL f 0 (nI x).toInt64, nI 1) = (nI x, nI L - 1, vp_updL f 0 (nI x).toInt64, nI 1)
    have : nI (L + 1) - 2 = nI L - 1 := by
      have : ∀ L, L ≤ 23 → nI (L + 1) - 2 = nI L - 1 := by decide +kernel
      exact this L hL23
    rw [this]
  · intro i hi rc
    show f_X1_tellWay_b17 _ _ _ _ _ _ _ _ _ = _
    unfold f_X1_tellWay_b17
    dsimp only
    obtain ⟨k, hk⟩ : ∃ k, L - i = k + 1 := ⟨L - i - 1, by omega⟩
    have hk2 : L - (i + 1) = k := by omega
    have hp := pth_ok hL i (by omega)
    have hpl := p24 i (by omega)
    rw [hk] at hp
    have ep : pth F y L x (i + 1) = lst (fun v => aNr a (pth F y L x i) v = true ∧ Ds F y k v) := by
      rw [pth_s, hk2]
      exact lst_congr (fun v => (bE k _ hp v).symm)
    rw [hk, hk2, nI_m1, if_neg (neg_lt (by omega)), chk_nI hpl (by decide), chk_nI (by omega) (by decide), ix_nI (by omega), ix_nI (by omega), hC.1 _ hpl, LY_at F y lay (show k < L + 1 by omega), bs_eq, bsP_and, c_leastOf (fun v q => (W_e24 hW q.1).2) (by obtain ⟨v, q⟩ := (Ds_s.mp hp).2; exact ⟨v, (bE k _ hp v).mpr q⟩), sbind, ← ep, c_add (by omega), sbind, nI_p1, ← rwP_s]
  · intro rc
    show f_X1_tellWay_b17 _ _ _ _ _ _ _ _ _ = _
    unfold f_X1_tellWay_b17
    dsimp only
    rw [Nat.sub_self, if_pos nI_m0]
