/-! PURE 67: the first way, as the reference finds it -/
theorem loop_rel {V R ρ κ : Type} {body : κ → (V → Option ρ) → V → Option ρ} (ex : κ → R → Option ρ) (J : R → Prop) : ∀ (m n : Nat) (I : Nat → V → Prop), m < n → (∀ j v, j ≤ m → I j v → (∃ r, J r ∧ ∀ k rc, body k rc v = ex k r) ∨ (j < m ∧ ∃ v', I (j + 1) v' ∧ ∀ k rc, body k rc v = rc v')) → ∀ v0, I 0 v0 → ∃ r, J r ∧ ∀ k, loopN (body k) n v0 = ex k r := by
  intro m
  induction m with
  | zero =>
    intro n I hn hs v0 h0
    obtain ⟨n, rfl⟩ : ∃ k, n = k + 1 := ⟨n - 1, by omega⟩
    rcases hs 0 v0 (Nat.le_refl _) h0 with ⟨r, hr, h⟩ | ⟨z, _⟩
    · exact ⟨r, hr, fun k => h k _⟩
    · exact absurd z (Nat.not_lt_zero _)
  | succ m ih =>
    intro n I hn hs v0 h0
    obtain ⟨n, rfl⟩ : ∃ k, n = k + 1 := ⟨n - 1, by omega⟩
    rcases hs 0 v0 (by omega) h0 with ⟨r, hr, h⟩ | ⟨_, v', h1, h2⟩
    · exact ⟨r, hr, fun k => h k _⟩
    · obtain ⟨r, hr, h⟩ := ih n (fun j v => I (j + 1) v) (by omega) (fun j v hj hI => by
        rcases hs (j + 1) v (by omega) hI with q | ⟨q1, q2⟩
        · exact .inl q
        · exact .inr ⟨by omega, q2⟩) v' h1
      exact ⟨r, hr, fun k => by rw [loopN_succ, h2]; exact h k⟩
/-- the barred link's source as it is told -/
def frm (b : Bool) (x : Nat) : Int32 := if b then nI x else -1
theorem m_steps {mem : Nat → Int32} {q : Nat} {a : AN} (h : MN mem (q * 179) a) (hq : q ≤ 12) {b : Bool} {x y u v : Nat} (hx : x < 24) (hy : y < 24) (hu : u < 24) (hv : v < 24) : f_X7_steps mem (nI q) (nI u) (nI v) (frm b x) (nI y) = some (if bar (aNr a) b x y u v then 1 else 0) := by
  unfold f_X7_steps
  rw [m_isLinked h hq hu hv, sbind]
  by_cases hl : aNr a u v = true
  · rw [hl, if_neg (by decide)]
    cases b with
    | false =>
      have e : ¬ nI u = frm false x := by
        show ¬ nI u = -1
        intro z
        exact neg_lt (n := u) (by omega) (by rw [z]; decide)
      rw [if_neg e, show bar (aNr a) false x y u v = true from bar_iff.mpr ⟨hl, fun z => Bool.noConfusion z.1⟩]
      rfl
    | true =>
      show (if nI u = nI x then _ else _) = _
      by_cases e1 : u = x
      · rw [if_pos (by rw [e1])]
        by_cases e2 : v = y
        · rw [if_pos (by rw [e2]), show bar (aNr a) true x y u v = false from Bool.eq_false_iff.mpr (fun z => (bar_iff.mp z).2 ⟨rfl, e1, e2⟩)]
          rfl
        · rw [if_neg (by rw [nI_eq (by omega) (by omega)]; exact e2), show bar (aNr a) true x y u v = true from bar_iff.mpr ⟨hl, fun z => e2 z.2.2⟩]
          rfl
      · rw [if_neg (by rw [nI_eq (by omega) (by omega)]; exact e1), show bar (aNr a) true x y u v = true from bar_iff.mpr ⟨hl, fun z => e1 z.2.1⟩]
        rfl
  · rw [show aNr a u v = false from Bool.eq_false_iff.mpr hl, if_pos (by decide), show bar (aNr a) b x y u v = false from Bool.eq_false_iff.mpr (fun z => hl (bar_iff.mp z).1)]
    rfl
def FA (far : Nat → Int32) (d : Nat → Nat) : Prop := ∀ t, t < 24 → far t = nI (d t)
def gd (F : Nat → Nat → Bool) (y : Nat) (d : Nat → Nat) : Prop := ∀ t, t < 24 → (d t = 1000 ∨ Wk F (d t) t y)
def clo (F : Nat → Nat → Bool) (d : Nat → Nat) : Prop := ∀ u v, F u v = true → d u ≤ d v + 1
theorem m_relax {mem : Nat → Int32} {q : Nat} {a : AN} (h : MN mem (q * 179) a) (hq : q ≤ 12) (hW : WA a) {b : Bool} {x y u : Nat} (hx : x < 24) (hy : y < 24) (hu : aAl a u = true) {far : Nat → Int32} {d : Nat → Nat} (hf : FA far d) (hg : gd (bar (aNr a) b x y) y d) (way : Nat → Int32) (wm p2 p4 more : Int32) : ∃ r : Int32 × (Nat → Int32), (∃ d', FA r.2 d' ∧ gd (bar (aNr a) b x y) y d' ∧ (∀ t, t < 24 → t ≠ u → d' t = d t) ∧ d' u ≤ d u ∧ (∀ v, bar (aNr a) b x y u v = true → d' u ≤ d v + 1) ∧ (r.1 = 1 ∨ (r.1 = more ∧ d' u = d u)) ∧ ((∀ v, bar (aNr a) b x y u v = true → d u ≤ d v + 1) → r.1 = more ∧ d' u = d u)) ∧ ∀ k : (Int32 → Int32 → (Nat → Int32) → Option (Int32 × (Nat → Int32) × (Nat → Int32) × Int32)) × (Int32 → Int32 → Int32 → (Nat → Int32) → Option (Int32 × (Nat → Int32) × (Nat → Int32) × Int32)), f_X7_findsWay_l72 mem way wm (nI q) p2 (nI y) p4 k.1 k.2 (frm b x) more (nI u) 0 far = k.2 (frm b x) r.1 (nI (u + 1)) r.2 := by
  have hu24 := W_lt hW hu
  have st := fun v (hv : v < 24) => m_steps h hq (b := b) hx hy hu24 hv
  obtain ⟨F, dF⟩ : ∃ F, F = bar (aNr a) b x y := ⟨_, rfl⟩
  have hF : ∀ u v, F u v = true → aNr a u v = true := by
    intro u v z
    rw [dF] at z
    exact (bar_iff.mp z).1
  have hF24 : ∀ u v, F u v = true → u < 24 ∧ v < 24 := fun u v z => W_e24 hW (hF u v z)
  rw [← dF] at hg st ⊢
  have hb : ∀ (d : Nat → Nat), gd F y d → ∀ t, t < 24 → d t ≤ 1000 := by
    intro d hg t ht
    rcases hg t ht with z | z
    · omega
    · rw [dF] at z
      have := Wk_23 hW (Wk_bar z)
      omega
  unfold f_X7_findsWay_l72
  refine loop_rel (body := fun (k : (Int32 → Int32 → (Nat → Int32) → Option (Int32 × (Nat → Int32) × (Nat → Int32) × Int32)) × (Int32 → Int32 → Int32 → (Nat → Int32) → Option (Int32 × (Nat → Int32) × (Nat → Int32) × Int32))) rc (v : Int32 × Int32 × Int32 × Int32 × (Nat → Int32)) => f_X7_findsWay_b72 mem way wm (nI q) p2 (nI y) p4 k.1 k.2 (fun x0_ x1_ x2_ x3_ x4_ => rc (x0_, x1_, x2_, x3_, x4_)) v.1 v.2.1 v.2.2.1 v.2.2.2.1 v.2.2.2.2) (fun k (r : Int32 × (Nat → Int32)) => k.2 (frm b x) r.1 (nI (u + 1)) r.2) (fun r => ∃ d', FA r.2 d' ∧ gd F y d' ∧ (∀ t, t < 24 → t ≠ u → d' t = d t) ∧ d' u ≤ d u ∧ (∀ v, F u v = true → d' u ≤ d v + 1) ∧ (r.1 = 1 ∨ (r.1 = more ∧ d' u = d u)) ∧ ((∀ v, F u v = true → d u ≤ d v + 1) → r.1 = more ∧ d' u = d u)) 24 200 (fun j w => ∃ mr fr, w = (frm b x, mr, nI u, nI j, fr) ∧ ∃ d', FA fr d' ∧ gd F y d' ∧ (∀ t, t < 24 → t ≠ u → d' t = d t) ∧ d' u ≤ d u ∧ (∀ v, v < j → F u v = true → d' u ≤ d v + 1) ∧ (mr = 1 ∨ (mr = more ∧ d' u = d u)) ∧ ((∀ v, F u v = true → d u ≤ d v + 1) → mr = more ∧ d' u = d u)) (by decide) ?_ _ ⟨more, far, rfl, d, hf, hg, fun _ _ _ => rfl, Nat.le_refl _, fun v hv => absurd hv (Nat.not_lt_zero _), .inr ⟨rfl, rfl⟩, fun _ => ⟨rfl, rfl⟩⟩
  rintro j w hj ⟨mr, fr, rfl, d', i1, i2, i3, i4, i5, i6, i7⟩
  by_cases hj24 : j = 24
  · left
    refine ⟨(mr, fr), ⟨d', i1, i2, i3, i4, fun v z => i5 v (by have := hF24 u v z; omega) z, i6, i7⟩, ?_⟩
    intro k rc
    show f_X7_findsWay_b72 _ _ _ _ _ _ _ _ _ _ _ _ _ _ _ = _
    unfold f_X7_findsWay_b72
    rw [hj24, if_pos y24, nI_1]
  · right
    have hj' : j < 24 := by omega
    refine ⟨hj', ?_⟩
    have bu := hb d' i2 u hu24
    have bj := hb d' i2 j hj'
    have body : ∀ (k : (Int32 → Int32 → (Nat → Int32) → Option (Int32 × (Nat → Int32) × (Nat → Int32) × Int32)) × (Int32 → Int32 → Int32 → (Nat → Int32) → Option (Int32 × (Nat → Int32) × (Nat → Int32) × Int32))) (rc : Int32 × Int32 × Int32 × Int32 × (Nat → Int32) → Option (Int32 × (Nat → Int32) × (Nat → Int32) × Int32)), f_X7_findsWay_b72 mem way wm (nI q) p2 (nI y) p4 k.1 k.2 (fun x0_ x1_ x2_ x3_ x4_ => rc (x0_, x1_, x2_, x3_, x4_)) (frm b x) mr (nI u) (nI j) fr = if F u j = true ∧ ¬ d' u ≤ d' j + 1 then rc (frm b x, 1, nI u, nI (j + 1), upd fr u (nI (d' j + 1))) else rc (frm b x, mr, nI u, nI (j + 1), fr) := by
      intro k rc
      unfold f_X7_findsWay_b72
      rw [if_neg (n24 hj'), m_isIn1 h hq hu24 hu, sbind, if_neg one0, st j hj', sbind, nI_1, chk_nI hj' (by decide), chk_nI hu24 (by decide), ix_nI (by omega), ix_nI (by omega), i1 u hu24, i1 j hj', nI_1]
      by_cases e : F u j = true
      · rw [e, if_neg (by decide)]
        by_cases e2 : d' u ≤ d' j + 1
        · rw [if_pos (by rw [nI_leI (by omega) (by omega)]; exact e2), if_neg (fun z => z.2 e2)]
        · rw [if_neg (by rw [nI_leI (by omega) (by omega)]; exact e2), if_pos ⟨rfl, e2⟩, chk_nI hj' (by decide), chk_nI hu24 (by decide)]
      · rw [if_pos (by rw [show F u j = false from Bool.eq_false_iff.mpr e]; decide), if_neg (fun z => e z.1)]
    by_cases c : F u j = true ∧ ¬ d' u ≤ d' j + 1
    · have hju : j ≠ u := by
        intro z
        have := pcO_lt hW (hF u j c.1)
        rw [z] at this
        omega
      have ej : d' j = d j := i3 j hj' hju
      refine ⟨_, ⟨1, upd fr u (nI (d' j + 1)), rfl, va_up d' u (d' j + 1), ?_, ?_, ?_, ?_, ?_, .inl rfl, ?_⟩, fun k rc => (body k rc).trans (if_pos c)⟩
      · intro t ht
        unfold va_up
        by_cases e : t = u
        · rw [e, updN, if_pos rfl]
        · rw [updO e, if_neg e]
          exact i1 t ht
      · intro t ht
        unfold va_up
        by_cases e : t = u
        · rw [e, if_pos rfl]
          rcases i2 j hj' with z | z
          · exfalso; omega
          · exact .inr ⟨j, c.1, z⟩
        · rw [if_neg e]
          exact i2 t ht
      · intro t ht e
        unfold va_up
        rw [if_neg e]
        exact i3 t ht e
      · unfold va_up
        rw [if_pos rfl]; omega
      · intro v hv z
        unfold va_up
        rw [if_pos rfl]
        by_cases e : v = j
        · rw [e]; omega
        · have := i5 v (by omega) z
          omega
      · intro z
        have g1 := z j c.1
        have g2 := (i7 z).2
        omega
    · refine ⟨_, ⟨mr, fr, rfl, d', i1, i2, i3, i4, ?_, i6, i7⟩, fun k rc => (body k rc).trans (if_neg c)⟩
      intro v hv z
      by_cases e : v = j
      · subst e
        have hju : v ≠ u := by
          intro w
          have := pcO_lt hW (hF u v z)
          rw [w] at this
          omega
        have ej : d' v = d v := i3 v hj' hju
        have : d' u ≤ d' v + 1 := Classical.byContradiction fun w => c ⟨z, w⟩
        omega
      · exact i5 v (by omega) z
theorem m_round {mem : Nat → Int32} {q : Nat} {a : AN} (h : MN mem (q * 179) a) (hq : q ≤ 12) (hW : WA a) {b : Bool} {x y : Nat} (hx : x < 24) (hy : y < 24) {far : Nat → Int32} {d : Nat → Nat} (hf : FA far d) (hg : gd (bar (aNr a) b x y) y d) (way : Nat → Int32) (wm p2 p4 : Int32) : ∃ r : Int32 × (Nat → Int32), (∃ d', FA r.2 d' ∧ gd (bar (aNr a) b x y) y d' ∧ (∀ t, t < 24 → d' t ≤ d t) ∧ (∀ u v, bar (aNr a) b x y u v = true → d' u ≤ d v + 1) ∧ (r.1 = 1 ∨ (r.1 = 0 ∧ ∀ t, t < 24 → d' t = d t)) ∧ (clo (bar (aNr a) b x y) d → r.1 = 0)) ∧ ∀ k51 : Int32 → Int32 → (Nat → Int32) → Option (Int32 × (Nat → Int32) × (Nat → Int32) × Int32), f_X7_findsWay_l62 mem way wm (nI q) p2 (nI y) p4 k51 (frm b x) 0 0 far = k51 (frm b x) r.1 r.2 := by
  have rx := fun (u : Nat) (hu : aAl a u = true) (far : Nat → Int32) (d : Nat → Nat) hf hg more => m_relax h hq hW (b := b) (x := x) (u := u) (far := far) (d := d) hx hy hu hf hg way wm p2 p4 more
  obtain ⟨F, dF⟩ : ∃ F, F = bar (aNr a) b x y := ⟨_, rfl⟩
  have hF : ∀ u v, F u v = true → aNr a u v = true := by
    intro u v z
    rw [dF] at z
    exact (bar_iff.mp z).1
  rw [← dF] at hg rx ⊢
  unfold f_X7_findsWay_l62
  refine loop_rel (body := fun (k51 : Int32 → Int32 → (Nat → Int32) → Option (Int32 × (Nat → Int32) × (Nat → Int32) × Int32)) rc (v : Int32 × Int32 × Int32 × (Nat → Int32)) => f_X7_findsWay_b62 mem way wm (nI q) p2 (nI y) p4 k51 (fun x0_ x1_ x2_ x3_ => rc (x0_, x1_, x2_, x3_)) v.1 v.2.1 v.2.2.1 v.2.2.2) (fun k51 (r : Int32 × (Nat → Int32)) => k51 (frm b x) r.1 r.2) (fun r => ∃ d', FA r.2 d' ∧ gd F y d' ∧ (∀ t, t < 24 → d' t ≤ d t) ∧ (∀ u v, F u v = true → d' u ≤ d v + 1) ∧ (r.1 = 1 ∨ (r.1 = 0 ∧ ∀ t, t < 24 → d' t = d t)) ∧ (clo F d → r.1 = 0)) 24 200 (fun j w => ∃ mr fr, w = (frm b x, mr, nI j, fr) ∧ ∃ d', FA fr d' ∧ gd F y d' ∧ (∀ t, t < 24 → d' t ≤ d t) ∧ (∀ u v, u < j → F u v = true → d' u ≤ d v + 1) ∧ (mr = 1 ∨ (mr = 0 ∧ ∀ t, t < 24 → d' t = d t)) ∧ (clo F d → mr = 0)) (by decide) ?_ _ ⟨0, far, rfl, d, hf, hg, fun _ _ => Nat.le_refl _, fun u v hu => absurd hu (Nat.not_lt_zero _), .inr ⟨rfl, fun _ _ => rfl⟩, fun _ => rfl⟩
  rintro j w hj ⟨mr, fr, rfl, d', i1, i2, i3, i4, i5, i6⟩
  by_cases hj24 : j = 24
  · left
    refine ⟨(mr, fr), ⟨d', i1, i2, i3, fun u v z => i4 u v (by have := W_e24 hW (hF u v z); omega) z, i5, i6⟩, ?_⟩
    intro k rc
    show f_X7_findsWay_b62 _ _ _ _ _ _ _ _ _ _ _ _ _ = _
    unfold f_X7_findsWay_b62
    rw [hj24, if_pos y24]
  · right
    have hj' : j < 24 := by omega
    refine ⟨hj', ?_⟩
    by_cases hal : aAl a j = true
    · obtain ⟨r, ⟨d2, g1, g2, g3, g4, g5, g6, g7⟩, g8⟩ := rx j hal fr d' i1 i2 mr
      refine ⟨(frm b x, r.1, nI (j + 1), r.2), ⟨r.1, r.2, rfl, d2, g1, g2, ?_, ?_, ?_, ?_⟩, ?_⟩
      · intro t ht
        by_cases e : t = j
        · rw [e]; have := i3 j hj'; omega
        · rw [g3 t ht e]; exact i3 t ht
      · intro u v hu z
        have lv := W_e24 hW (hF u v z)
        by_cases e : u = j
        · rw [e] at z ⊢
          have := g5 v z
          have := i3 v lv.2
          omega
        · rw [g3 u lv.1 e]
          exact i4 u v (by omega) z
      · rcases g6 with g6 | ⟨g6, g6'⟩
        · exact .inl g6
        · rcases i5 with i5 | ⟨i5, i5'⟩
          · exact .inl (g6.trans i5)
          · refine .inr ⟨g6.trans i5, fun t ht => ?_⟩
            by_cases e : t = j
            · rw [e, g6']; exact i5' j hj'
            · rw [g3 t ht e]; exact i5' t ht
      · intro hc
        have m0 := i6 hc
        rcases i5 with i5 | ⟨i5, i5'⟩
        · rw [m0] at i5; exact absurd i5 (by decide)
        · refine ((g7 ?_).1).trans m0
          intro v z
          have lv := W_e24 hW (hF j v z)
          rw [i5' j hj', i5' v lv.2]
          exact hc j v z
      · intro k rc
        show f_X7_findsWay_b62 _ _ _ _ _ _ _ _ _ _ _ _ _ = _
        unfold f_X7_findsWay_b62
        rw [if_neg (n24 hj')]
        exact g8 (k, fun x0_ x1_ x2_ x3_ => rc (x0_, x1_, x2_, x3_))
    · refine ⟨(frm b x, mr, nI (j + 1), fr), ⟨mr, fr, rfl, d', i1, i2, i3, ?_, i5, i6⟩, ?_⟩
      · intro u v hu z
        by_cases e : u = j
        · rw [e] at z
          exact absurd (W_e1 hW (hF j v z)) hal
        · exact i4 u v (by omega) z
      · intro k rc
        show f_X7_findsWay_b62 _ _ _ _ _ _ _ _ _ _ _ _ _ = _
        unfold f_X7_findsWay_b62
        rw [if_neg (n24 hj')]
        unfold f_X7_findsWay_l72
        rw [show (200 : Nat) = 199 + 1 from rfl, loopN_succ]
        show f_X7_findsWay_b72 _ _ _ _ _ _ _ _ _ _ _ _ _ _ _ = _
        unfold f_X7_findsWay_b72
        rw [if_neg (show ¬ (24 : Int32) ≤ 0 by decide), m_isIn0 h hq (al_isT hj' hal), sbind, if_pos rfl, nI_1]
