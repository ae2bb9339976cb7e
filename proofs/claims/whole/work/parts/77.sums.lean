/-! PURE 77: how many ways there are -/
theorem nsum_mul (c : Nat) (f : Nat → Nat) (n : Nat) : c * nsum f n = nsum (fun k => c * f k) n := by
  induction n with
  | zero => rfl
  | succ n ih => rw [nsum_s, nsum_s, Nat.mul_add, ih]
theorem nsum_mulr (c : Nat) (f : Nat → Nat) (n : Nat) : nsum f n * c = nsum (fun k => f k * c) n := by
  induction n with
  | zero => exact Nat.zero_mul c
  | succ n ih => rw [nsum_s, nsum_s, Nat.add_mul, ih]
theorem nsum_shift (f : Nat → Nat) (n : Nat) : nsum f (n + 1) = f 0 + nsum (fun k => f (k + 1)) n := by
  induction n with
  | zero => show 0 + f 0 = f 0 + 0; omega
  | succ n ih => rw [nsum_s, ih, nsum_s]; omega
theorem nsum_z (f : Nat → Nat) (n : Nat) (h : f n = 0) : nsum f n = f 0 + nsum (fun k => f (k + 1)) n := by
  have h1 := nsum_s f n
  have h2 := nsum_shift f n
  omega
theorem nsum_upd {f g : Nat → Nat} {t v : Nat} : ∀ {n}, t < n → g t = f t + v → (∀ k, k < n → k ≠ t → g k = f k) → nsum g n = nsum f n + v := by
  intro n
  induction n with
  | zero => intro h; exact absurd h (Nat.not_lt_zero _)
  | succ n ih =>
    intro h h1 h2
    rw [nsum_s, nsum_s]
    by_cases e : t = n
    · subst e
      rw [nsum_congr (f := g) (g := f) t (fun k hk => h2 k (by omega) (by omega)), h1]
      omega
    · rw [ih (by omega) h1 (fun k hk => h2 k (by omega)), h2 n (by omega) (fun z => e z.symm)]
      omega
theorem nsum_one {f : Nat → Nat} {t n : Nat} (ht : t < n) (h : ∀ k, k < n → k ≠ t → f k = 0) : nsum f n = f t := by
  have := nsum_upd (f := fun _ => 0) (g := f) (t := t) (v := f t) ht (by omega) h
  rw [this, nsum_0 n (fun _ _ => rfl), Nat.zero_add]
theorem nsum_pos {f : Nat → Nat} : ∀ {n}, 0 < nsum f n ↔ ∃ k, k < n ∧ 0 < f k := by
  intro n
  induction n with
  | zero => exact ⟨fun h => absurd h (Nat.lt_irrefl _), fun ⟨k, hk, _⟩ => absurd hk (Nat.not_lt_zero _)⟩
  | succ n ih =>
    rw [nsum_s]
    constructor
    · intro h
      by_cases q : 0 < nsum f n
      · obtain ⟨k, h1, h2⟩ := ih.mp q
        exact ⟨k, by omega, h2⟩
      · exact ⟨n, by omega, by omega⟩
    · rintro ⟨k, h1, h2⟩
      by_cases e : k = n
      · rw [e] at h2; omega
      · have := ih.mpr ⟨k, by omega, h2⟩
        omega
def eN (E : Nat → Nat → Bool) (u v : Nat) : Nat := if E u v then 1 else 0
theorem eN_1 {E : Nat → Nat → Bool} {u v : Nat} (h : E u v = true) : eN E u v = 1 := by unfold eN; rw [if_pos h]
theorem eN_0 {E : Nat → Nat → Bool} {u v : Nat} (h : ¬ E u v = true) : eN E u v = 0 := by unfold eN; rw [if_neg h]
def cw (E : Nat → Nat → Bool) : Nat → Nat → Nat → Nat
  | 0, u, v => if u = v then 1 else 0
  | n + 1, u, v => nsum (fun z => eN E u z * cw E n z v) 24
theorem cw_s (E : Nat → Nat → Bool) (n u v : Nat) : cw E (n + 1) u v = nsum (fun z => eN E u z * cw E n z v) 24 := rfl
theorem cw_r (E : Nat → Nat → Bool) : ∀ n u v, u < 24 → v < 24 → cw E (n + 1) u v = nsum (fun z => cw E n u z * eN E z v) 24 := by
  intro n
  induction n with
  | zero =>
    intro u v hu hv
    rw [cw_s, nsum_one (t := v) hv, nsum_one (t := u) hu]
    · show eN E u v * (if v = v then 1 else 0) = (if u = u then 1 else 0) * eN E u v
      rw [if_pos rfl, if_pos rfl]; omega
    · intro k _ hk
      show (if u = k then 1 else 0) * _ = 0
      rw [if_neg (fun z => hk z.symm), Nat.zero_mul]
    · intro k _ hk
      show _ * (if k = v then 1 else 0) = 0
      rw [if_neg hk, Nat.mul_zero]
  | succ n ih =>
    intro u v hu hv
    rw [cw_s, nsum_congr (f := fun z => eN E u z * cw E (n + 1) z v) (g := fun z => nsum (fun w => eN E u z * (cw E n z w * eN E w v)) 24) 24 (fun z hz => by rw [ih z v hz hv, nsum_mul]), nsum_swap (fun z w => eN E u z * (cw E n z w * eN E w v)) 24 24]
    refine nsum_congr 24 (fun w _ => ?_)
    rw [cw_s, nsum_mulr]
    exact nsum_congr 24 (fun z _ => (Nat.mul_assoc _ _ _).symm)
theorem cw_pos {E : Nat → Nat → Bool} (hE : ∀ u v, E u v = true → u < 24 ∧ v < 24) : ∀ n u v, 0 < cw E n u v ↔ Wk E n u v := by
  intro n
  induction n with
  | zero =>
    intro u v
    show 0 < (if u = v then 1 else 0) ↔ u = v
    by_cases h : u = v
    · rw [if_pos h]; exact ⟨fun _ => h, fun _ => by omega⟩
    · rw [if_neg h]; exact ⟨fun z => absurd z (Nat.lt_irrefl _), fun z => absurd z h⟩
  | succ n ih =>
    intro u v
    rw [cw_s, nsum_pos]
    constructor
    · rintro ⟨z, _, h⟩
      by_cases e : E u z = true
      · refine ⟨z, e, (ih z v).mp ?_⟩
        rw [eN_1 e, Nat.one_mul] at h
        exact h
      · rw [eN_0 e, Nat.zero_mul] at h
        exact absurd h (Nat.lt_irrefl _)
    · rintro ⟨z, h1, h2⟩
      refine ⟨z, (hE u z h1).2, ?_⟩
      rw [eN_1 h1, Nat.one_mul]
      exact (ih z v).mpr h2
theorem cw_0 {E : Nat → Nat → Bool} (hE : ∀ u v, E u v = true → u < 24 ∧ v < 24) {n u v : Nat} (h : ¬ Wk E n u v) : cw E n u v = 0 := by
  have := cw_pos hE n u v
  by_cases q : 0 < cw E n u v
  · exact absurd (this.mp q) h
  · omega
/-- how many ways -/
def SW (E : Nat → Nat → Bool) (x t : Nat) : Nat := nsum (fun n => cw E n x t) 24
theorem SW_pos {a : AN} (hW : WA a) (x t : Nat) : 0 < SW (aNr a) x t ↔ Rc (aNr a) x t := by
  unfold SW
  rw [nsum_pos]
  constructor
  · rintro ⟨k, _, h⟩
    exact ⟨k, (cw_pos (fun u v => W_e24 hW) k x t).mp h⟩
  · rintro ⟨k, w⟩
    have := Wk_23 hW w
    exact ⟨k, by omega, (cw_pos (fun u v => W_e24 hW) k x t).mpr w⟩
theorem SW_0 {a : AN} (hW : WA a) {x t : Nat} (h : ¬ Rc (aNr a) x t) : SW (aNr a) x t = 0 := by
  have := SW_pos hW x t
  by_cases q : 0 < SW (aNr a) x t
  · exact absurd (this.mp q) h
  · omega
theorem SW_25 {a : AN} (hW : WA a) (x t : Nat) : SW (aNr a) x t = (if x = t then 1 else 0) + nsum (fun n => cw (aNr a) (n + 1) x t) 24 := by
  have h2 : cw (aNr a) 24 x t = 0 := cw_0 (fun u v => W_e24 hW) (fun w => by have := Wk_23 hW w; omega)
  have h := nsum_z (fun n => cw (aNr a) n x t) 24 h2
  have h4 : cw (aNr a) 0 x t = if x = t then 1 else 0 := rfl
  rw [h4] at h
  exact h
theorem SW_R {a : AN} (hW : WA a) {x t : Nat} (hx : x < 24) (ht : t < 24) : SW (aNr a) x t = (if x = t then 1 else 0) + nsum (fun s => SW (aNr a) x s * eN (aNr a) s t) 24 := by
  rw [SW_25 hW]
  refine congrArg (fun z => (if x = t then 1 else 0) + z) ?_
  rw [nsum_congr (f := fun n => cw (aNr a) (n + 1) x t) (g := fun n => nsum (fun s => cw (aNr a) n x s * eN (aNr a) s t) 24) 24 (fun n _ => cw_r _ n x t hx ht), nsum_swap (fun n s => cw (aNr a) n x s * eN (aNr a) s t) 24 24]
  refine nsum_congr 24 (fun s _ => ?_)
  unfold SW
  rw [nsum_mulr]
theorem SW_L {a : AN} (hW : WA a) (u y : Nat) : SW (aNr a) u y = (if u = y then 1 else 0) + nsum (fun v => eN (aNr a) u v * SW (aNr a) v y) 24 := by
  rw [SW_25 hW]
  refine congrArg (fun z => (if u = y then 1 else 0) + z) ?_
  rw [nsum_congr (f := fun n => cw (aNr a) (n + 1) u y) (g := fun n => nsum (fun v => eN (aNr a) u v * cw (aNr a) n v y) 24) 24 (fun n _ => rfl), nsum_swap (fun n v => eN (aNr a) u v * cw (aNr a) n v y) 24 24]
  refine nsum_congr 24 (fun v _ => ?_)
  unfold SW
  rw [nsum_mul]
theorem SW_self {a : AN} (hW : WA a) (y : Nat) : SW (aNr a) y y = 1 := by
  rw [SW_L hW, if_pos rfl, nsum_0 24]
  intro v _
  by_cases e : aNr a y v = true
  · rw [SW_0 hW, Nat.mul_zero]
    intro r
    have l1 := pcO_lt hW e
    rcases Rc_pc hW r with z | z
    · rw [z] at l1; omega
    · omega
  · rw [eN_0 e, Nat.zero_mul]
/-- ways that begin at x and end ahead of a place -/
noncomputable def AW (a : AN) (x p : Nat) : Nat := nsum (fun s => if pb (aAl a s = true ∧ pcO a s < p) then SW (aNr a) x s else 0) 24
theorem AW_s {a : AN} (hW : WA a) (x : Nat) {p : Nat} (hp : p < aS a) : AW a x (p + 1) = AW a x p + SW (aNr a) x (aO a p) := by
  have hpo := pcO_at hW hp
  refine nsum_upd (t := aO a p) (W_o hW hp) ?_ ?_
  · rw [if_pos (pb_iff.mpr ⟨W_al hW hp, by omega⟩), if_neg (fun z => by have := (pb_iff.mp z).2; omega)]
    omega
  · intro k _ hk
    by_cases q : aAl a k = true ∧ pcO a k < p
    · rw [if_pos (pb_iff.mpr q), if_pos (pb_iff.mpr ⟨q.1, by omega⟩)]
    · rw [if_neg (fun z => q (pb_iff.mp z)), if_neg]
      intro z
      obtain ⟨z1, z2⟩ := pb_iff.mp z
      have : pcO a k ≠ p := by
        intro e
        apply hk
        rw [← e]
        exact (pcO_spec hW z1).2.symm
      exact q ⟨z1, by omega⟩
theorem SW_AW {a : AN} (hW : WA a) {x : Nat} (hx : x < 24) {p : Nat} (hp : p < aS a) : SW (aNr a) x (aO a p) ≤ 1 + AW a x p := by
  rw [SW_R hW hx (W_o hW hp)]
  have h1 : (if x = aO a p then 1 else 0) ≤ 1 := by
    by_cases e : x = aO a p
    · rw [if_pos e]; omega
    · rw [if_neg e]; omega
  have h2 : nsum (fun s => SW (aNr a) x s * eN (aNr a) s (aO a p)) 24 ≤ AW a x p := by
    refine nsum_le 24 (fun s _ => ?_)
    by_cases e : aNr a s (aO a p) = true
    · have l := pcO_lt hW e
      rw [pcO_at hW hp] at l
      rw [eN_1 e, Nat.mul_one, if_pos (pb_iff.mpr ⟨W_e1 hW e, l⟩)]
      exact Nat.le_refl _
    · rw [eN_0 e, Nat.mul_zero]; exact Nat.zero_le _
  omega
theorem AW_le {a : AN} (hW : WA a) {x : Nat} (hx : x < 24) : ∀ p, p ≤ aS a → AW a x p + 1 ≤ 2 ^ p := by
  intro p
  induction p with
  | zero =>
    intro _
    have : AW a x 0 = 0 := nsum_0 24 (fun k _ => if_neg (fun z => absurd (pb_iff.mp z).2 (Nat.not_lt_zero _)))
    rw [this]; decide
  | succ p ih =>
    intro hp
    have h1 := ih (by omega)
    have h2 := SW_AW hW hx (show p < aS a by omega)
    rw [AW_s hW x (by omega), Nat.pow_succ]
    omega
theorem SW_le {a : AN} (hW : WA a) {x t : Nat} (hx : x < 24) (ht : aAl a t = true) : SW (aNr a) x t ≤ 16777216 := by
  have hs := pcO_spec hW ht
  have h1 := SW_AW hW hx hs.1
  have h2 := AW_le hW hx (pcO a t) (by omega)
  rw [hs.2] at h1
  have h3 : 2 ^ pcO a t ≤ 2 ^ 24 := Nat.pow_le_pow_right (by decide) (by have := hW.1; omega)
  have h4 : (2 : Nat) ^ 24 = 16777216 := by decide
  omega
/-- of how many terms the longest way is -/
def Ml (E : Nat → Nat → Bool) (x t v : Nat) : Prop := (¬ Rc E x t ∧ v = 0) ∨ (∃ k, v = k + 1 ∧ Wk E k x t ∧ ∀ j, Wk E j x t → j ≤ k)
noncomputable def lgw (E : Nat → Nat → Bool) (x t : Nat) : Nat := Classical.epsilon (Ml E x t)
theorem lgw_spec {a : AN} (hW : WA a) (x t : Nat) : Ml (aNr a) x t (lgw (aNr a) x t) := by
  refine Classical.epsilon_spec (p := Ml (aNr a) x t) ?_
  by_cases h : Rc (aNr a) x t
  · have key : ∀ m, (∀ k, Wk (aNr a) k x t → k ≤ m) → ∃ k, Wk (aNr a) k x t ∧ ∀ j, Wk (aNr a) j x t → j ≤ k := by
      intro m
      induction m with
      | zero =>
        intro q
        obtain ⟨k, w⟩ := h
        have := q k w
        have e : k = 0 := by omega
        rw [e] at w
        exact ⟨0, w, q⟩
      | succ m ih =>
        intro q
        by_cases z : Wk (aNr a) (m + 1) x t
        · exact ⟨m + 1, z, q⟩
        · refine ih (fun k w => ?_)
          have := q k w
          have : k ≠ m + 1 := fun e => z (e ▸ w)
          omega
    obtain ⟨k, h1, h2⟩ := key 23 (fun k w => Wk_23 hW w)
    exact ⟨k + 1, .inr ⟨k, rfl, h1, h2⟩⟩
  · exact ⟨0, .inl ⟨h, rfl⟩⟩
theorem lgw_yes {a : AN} (hW : WA a) {x t : Nat} (h : Rc (aNr a) x t) : ∃ k, lgw (aNr a) x t = k + 1 ∧ k ≤ 23 ∧ Wk (aNr a) k x t ∧ ∀ j, Wk (aNr a) j x t → j ≤ k := by
  rcases lgw_spec hW x t with z | ⟨k, z1, z2, z3⟩
  · exact absurd h z.1
  · exact ⟨k, z1, Wk_23 hW z2, z2, z3⟩
theorem lgw_no {a : AN} (hW : WA a) {x t : Nat} (h : ¬ Rc (aNr a) x t) : lgw (aNr a) x t = 0 := by
  rcases lgw_spec hW x t with z | ⟨k, _, z2, _⟩
  · exact z.2
  · exact absurd ⟨k, z2⟩ h
theorem lgw_24 {a : AN} (hW : WA a) (x t : Nat) : lgw (aNr a) x t ≤ 24 := by
  by_cases h : Rc (aNr a) x t
  · obtain ⟨k, h1, h2, _⟩ := lgw_yes hW h
    omega
  · rw [lgw_no hW h]; omega
theorem lgw_self {a : AN} (hW : WA a) (x : Nat) : lgw (aNr a) x x = 1 := by
  obtain ⟨k, h1, _, h3, _⟩ := lgw_yes hW (Rc_refl (aNr a) x)
  have := Wk_pc hW h3
  omega
theorem lgw_Re {a : AN} (hW : WA a) {x s t : Nat} (e : aNr a s t = true) (h : Rc (aNr a) x s) : lgw (aNr a) x s + 1 ≤ lgw (aNr a) x t := by
  obtain ⟨k, h1, _, h3, _⟩ := lgw_yes hW h
  obtain ⟨j, g1, _, _, g4⟩ := lgw_yes hW (Rc_snoc h e)
  have := g4 _ (Wk_snoc h3 e)
  omega
theorem lgw_Rd {a : AN} (hW : WA a) {x t : Nat} (h : Rc (aNr a) x t) (hne : x ≠ t) : ∃ s, aNr a s t = true ∧ Rc (aNr a) x s ∧ lgw (aNr a) x t = lgw (aNr a) x s + 1 := by
  obtain ⟨k, h1, _, h3, _⟩ := lgw_yes hW h
  cases k with
  | zero => exact absurd h3 hne
  | succ k =>
    obtain ⟨s, g1, g2⟩ := Wk_last h3
    refine ⟨s, g2, ⟨k, g1⟩, ?_⟩
    have l1 := lgw_Re hW g2 ⟨k, g1⟩
    obtain ⟨j, j1, _, _, j4⟩ := lgw_yes hW (⟨k, g1⟩ : Rc (aNr a) x s)
    have := j4 k g1
    omega
theorem lgw_Le {a : AN} (hW : WA a) {u v y : Nat} (e : aNr a u v = true) (h : Rc (aNr a) v y) : lgw (aNr a) v y + 1 ≤ lgw (aNr a) u y := by
  obtain ⟨k, h1, _, h3, _⟩ := lgw_yes hW h
  obtain ⟨j, g1, _, _, g4⟩ := lgw_yes hW (Rc_cons e h)
  have := g4 (k + 1) ⟨v, e, h3⟩
  omega
theorem lgw_Ld {a : AN} (hW : WA a) {u y : Nat} (h : Rc (aNr a) u y) (hne : u ≠ y) : ∃ v, aNr a u v = true ∧ Rc (aNr a) v y ∧ lgw (aNr a) u y = lgw (aNr a) v y + 1 := by
  obtain ⟨k, h1, _, h3, _⟩ := lgw_yes hW h
  cases k with
  | zero => exact absurd h3 hne
  | succ k =>
    obtain ⟨v, g1, g2⟩ := h3
    refine ⟨v, g1, ⟨k, g2⟩, ?_⟩
    have l1 := lgw_Le hW g1 ⟨k, g2⟩
    obtain ⟨j, j1, _, _, j4⟩ := lgw_yes hW (⟨k, g2⟩ : Rc (aNr a) v y)
    have := j4 k g2
    omega
