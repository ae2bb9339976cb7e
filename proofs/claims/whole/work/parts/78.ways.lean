/-! PURE 78: ways -/
def nL (n : Nat) : Int64 := Int64.ofNat n
theorem nL_add (a b : Nat) : nL a + nL b = nL (a + b) := (Int64.ofNat_add a b).symm
theorem nL_toInt {n : Nat} (h : n < 2 ^ 63) : (nL n).toInt = (n : Int) := Int64.toInt_ofNat_of_lt (by omega)
theorem nL_cmp0 {n : Nat} (h : n < 2 ^ 63) : lg_cmp (nL n) 0 ≤ 0 ↔ n = 0 := by
  constructor
  · intro z
    refine Classical.byContradiction fun q => ?_
    have : (0 : Int64) < nL n := by
      rw [Int64.lt_iff_toInt_lt, nL_toInt h]
      have : (0 : Int64).toInt = 0 := rfl
      omega
    exact i_nlt.mpr z (lgc_gt.mpr this)
  · intro z
    rw [z]
    decide
theorem nL_cmpe {n : Nat} (h : n < 2 ^ 63) : lg_cmp (nL n) 0 = 0 ↔ n = 0 := by
  constructor
  · intro z
    exact (nL_cmp0 h).mp (by rw [z]; decide)
  · intro z
    rw [z]
    decide
theorem vpN (f : Nat → Int64) (k : Nat) (v : Int64) : vp_updL f k v k = v := by unfold vp_updL; rw [if_pos rfl]
theorem vpO {f : Nat → Int64} {k i : Nat} (h : i ≠ k) (v : Int64) : vp_updL f k v i = f i := by unfold vp_updL; rw [if_neg h]
def FL (f : Nat → Int64) (d : Nat → Nat) : Prop := ∀ t, t < 24 → f t = nL (d t)
theorem c_cwInit (n : ND) (sz : Int32) {x : Nat} (hx : x < 24) (lon : Nat → Int32) (mny : Nat → Int64) : ∃ l m, f_X1_countWays lon mny n.1 n.2.1 sz (nI x) = f_X1_countWays_l48 n.1 n.2.1 sz (nI x) 0 l m ∧ FA l (fun t => if x = t then 1 else 0) ∧ FL m (fun t => if x = t then 1 else 0) := by
  obtain ⟨g, dg⟩ : ∃ g : Nat → Nat → Int32, g = fun j => itr (fun i f => upd f i (if x = i then 1 else 0)) lon j := ⟨_, rfl⟩
  obtain ⟨k, dk⟩ : ∃ k : Nat → Nat → Int64, k = fun j => itr (fun i f => vp_updL f i (if x = i then 1 else 0)) mny j := ⟨_, rfl⟩
  have gs : ∀ j, g (j + 1) = upd (g j) j (if x = j then 1 else 0) := by intro j; rw [dg]; rfl
  have ks : ∀ j, k (j + 1) = vp_updL (k j) j (if x = j then 1 else 0) := by intro j; rw [dk]; rfl
  have hg : ∀ j i, i < j → g j i = if x = i then 1 else 0 := by
    intro j
    induction j with
    | zero => intro i hi; exact absurd hi (Nat.not_lt_zero _)
    | succ j ih =>
      intro i hi
      rw [gs]
      by_cases e : i = j
      · rw [e, updN]
      · rw [updO e]; exact ih i (by omega)
  have hk : ∀ j i, i < j → k j i = if x = i then 1 else 0 := by
    intro j
    induction j with
    | zero => intro i hi; exact absurd hi (Nat.not_lt_zero _)
    | succ j ih =>
      intro i hi
      rw [ks]
      by_cases e : i = j
      · rw [e, vpN]
      · rw [vpO e]; exact ih i (by omega)
  refine ⟨g 24, k 24, ?_, fun t ht => ?_, fun t ht => ?_⟩
  · unfold f_X1_countWays
    rw [show f_X1_countWays_l2 n.1 n.2.1 sz (nI x) 0 lon mny = loopN (V := Int32 × (Nat → Int32) × (Nat → Int64)) (fun rc v => f_X1_countWays_b2 n.1 n.2.1 sz (nI x) (fun x0_ x1_ x2_ => rc (x0_, x1_, x2_)) v.1 v.2.1 v.2.2) 200 (0, lon, mny) from rfl]
    refine loop_go (fun j => (nI j, g j, k j)) 24 200 (by decide) (by rw [dg, dk]; rfl) ?_ ?_
    · intro j hj rc
      show f_X1_countWays_b2 _ _ _ _ _ _ _ _ = _
      unfold f_X1_countWays_b2 f_X1_countWays_b23
      dsimp only
      rw [if_neg (n24 hj), chk_nI hj (by decide), chk_nI hj (by decide), ix_nI (by omega), nI_1, gs, ks]
      by_cases e : x = j
      · rw [if_pos (by rw [e]), if_pos (by rw [e]), if_pos e, if_pos e]
      · rw [if_neg (by rw [nI_eq (by omega) (by omega)]; exact fun z => e z.symm), if_neg (by rw [nI_eq (by omega) (by omega)]; exact fun z => e z.symm), if_neg e, if_neg e]
        rw [chk_nI hj (by decide), chk_nI hj (by decide)]
    · intro rc
      show f_X1_countWays_b2 _ _ _ _ _ _ _ _ = _
      unfold f_X1_countWays_b2
      dsimp only
      rw [if_pos y24]
  · rw [hg 24 t ht]
    dsimp only
    by_cases e : x = t
    · rw [if_pos e, if_pos e]; rfl
    · rw [if_neg e, if_neg e]; rfl
  · rw [hk 24 t ht]
    dsimp only
    by_cases e : x = t
    · rw [if_pos e, if_pos e]; rfl
    · rw [if_neg e, if_neg e]; rfl
/-- ways from x, counted as far as a place -/
noncomputable def MW (a : AN) (x p t : Nat) : Nat := (if x = t then 1 else 0) + nsum (fun s => if pb (aAl a s = true ∧ pcO a s < p) then SW (aNr a) x s * eN (aNr a) s t else 0) 24
theorem MW_s {a : AN} (hW : WA a) (x : Nat) {p : Nat} (hp : p < aS a) (t : Nat) : MW a x (p + 1) t = MW a x p t + SW (aNr a) x (aO a p) * eN (aNr a) (aO a p) t := by
  have hpo := pcO_at hW hp
  unfold MW
  rw [nsum_upd (f := fun s => if pb (aAl a s = true ∧ pcO a s < p) then SW (aNr a) x s * eN (aNr a) s t else 0) (g := fun s => if pb (aAl a s = true ∧ pcO a s < p + 1) then SW (aNr a) x s * eN (aNr a) s t else 0) (t := aO a p) (v := SW (aNr a) x (aO a p) * eN (aNr a) (aO a p) t) (W_o hW hp)]
  · omega
  · rw [if_pos (pb_iff.mpr ⟨W_al hW hp, by omega⟩), if_neg (fun z => by have := (pb_iff.mp z).2; omega)]
    omega
  · intro k _ hk
    by_cases q : aAl a k = true ∧ pcO a k < p
    · rw [if_pos (pb_iff.mpr q), if_pos (pb_iff.mpr ⟨q.1, by omega⟩)]
    · rw [if_neg (fun z => q (pb_iff.mp z)), if_neg]
      intro z
      obtain ⟨z1, z2⟩ := pb_iff.mp z
      have : pcO a k ≠ p := by
        intro e
        apply hk
        rw [← e]
        exact (pcO_spec hW z1).2.symm
      exact q ⟨z1, by omega⟩
theorem MW_0 (a : AN) (x t : Nat) : MW a x 0 t = if x = t then 1 else 0 := by
  unfold MW
  rw [nsum_0 24 (fun k _ => if_neg (fun z => absurd (pb_iff.mp z).2 (Nat.not_lt_zero _)))]
  rfl
theorem MW_SW {a : AN} (hW : WA a) {x t : Nat} (hx : x < 24) (ht : t < 24) {p : Nat} (hp : ∀ s, aNr a s t = true → pcO a s < p) : MW a x p t = SW (aNr a) x t := by
  rw [SW_R hW hx ht]
  unfold MW
  refine congrArg (fun z => (if x = t then 1 else 0) + z) (nsum_congr 24 (fun s _ => ?_))
  by_cases e : aNr a s t = true
  · rw [if_pos (pb_iff.mpr ⟨W_e1 hW e, hp s e⟩)]
  · rw [eN_0 e, Nat.mul_zero]
    exact if_id 0
theorem c_countWays {n : ND} {a : AN} (hC : CN n a) (hW : WA a) {x : Nat} (hxa : aAl a x = true) (lon : Nat → Int32) (mny : Nat → Int64) : ∃ l m, f_X1_countWays lon mny n.1 n.2.1 (nI (aS a)) (nI x) = some (l, m) ∧ ∀ t, t < 24 → l t = nI (lgw (aNr a) x t) ∧ m t = nL (SW (aNr a) x t) := by
  have hs := hW.1
  have hx := W_lt hW hxa
  obtain ⟨l0, m0, e0, f0, g0⟩ := c_cwInit n (nI (aS a)) hx lon mny
  rw [e0]
  unfold f_X1_countWays_l48
  obtain ⟨r, hr, h⟩ := loop_rel (body := fun (_ : Unit) rc (v : Int32 × (Nat → Int32) × (Nat → Int64)) => f_X1_countWays_b48 n.1 n.2.1 (nI (aS a)) (nI x) (fun x0_ x1_ x2_ => rc (x0_, x1_, x2_)) v.1 v.2.1 v.2.2) (fun _ (r : (Nat → Int32) × (Nat → Int64)) => some r) (fun r => ∀ t, t < 24 → r.1 t = nI (lgw (aNr a) x t) ∧ r.2 t = nL (SW (aNr a) x t)) (aS a) 200 (fun p w => ∃ l m d, w = (nI p, l, m) ∧ FA l d ∧ FL m (MW a x p) ∧ (∀ t, t < 24 → d t ≤ lgw (aNr a) x t) ∧ 1 ≤ d x ∧ (∀ s t, pcO a s < p → aNr a s t = true → Rc (aNr a) x s → lgw (aNr a) x s + 1 ≤ d t)) (by omega) (by
    rintro p w hp ⟨l, m, d, rfl, i1, i2, i3, i4, i5⟩
    have fin : ∀ t, t < 24 → (∀ s, aNr a s t = true → pcO a s < p) → d t = lgw (aNr a) x t := by
      intro t ht hq
      have h1 := i3 t ht
      by_cases hr : Rc (aNr a) x t
      · by_cases e : x = t
        · rw [← e, lgw_self hW] at h1 ⊢
          omega
        · obtain ⟨s, z1, z2, z3⟩ := lgw_Rd hW hr e
          have := i5 s t (hq s z1) z1 z2
          omega
      · rw [lgw_no hW hr] at h1 ⊢
        omega
    by_cases e : p = aS a
    · left
      refine ⟨(l, m), ?_, ?_⟩
      · intro t ht
        have hq : ∀ s, aNr a s t = true → pcO a s < p := fun s z => by rw [e]; exact (pcO_spec hW (W_e1 hW z)).1
        refine ⟨?_, ?_⟩
        · show l t = _
          rw [i1 t ht, fin t ht hq]
        · show m t = _
          rw [i2 t ht, MW_SW hW hx ht hq]
      · intro k rc
        show f_X1_countWays_b48 _ _ _ _ _ _ _ _ = _
        unfold f_X1_countWays_b48
        dsimp only
        rw [e, if_pos (yle _ (by omega))]
    · right
      have hp' : p < aS a := by omega
      refine ⟨hp', ?_⟩
      have ho := W_o hW hp'
      have hal := W_al hW hp'
      obtain ⟨s, ds⟩ : ∃ s, s = aO a p := ⟨_, rfl⟩
      rw [← ds] at ho hal
      have hps : pcO a s = p := by rw [ds]; exact pcO_at hW hp'
      have hq : ∀ u, aNr a u s = true → pcO a u < p := fun u z => by have := pcO_lt hW z; omega
      have dsv := fin s ho hq
      have msv : MW a x p s = SW (aNr a) x s := MW_SW hW hx ho hq
      have sle := SW_le hW hx hal
      have l24 := lgw_24 hW x s
      have nss : ¬ aNr a s s = true := fun z => by have := pcO_lt hW z; omega
      obtain ⟨r, ⟨d', j1, j2, j3, j4, j5⟩, hj⟩ := loop_rel (body := fun (k48 : Int32 → (Nat → Int32) → (Nat → Int64) → Option ((Nat → Int32) × (Nat → Int64))) rc (v : Int32 × Int32 × Int32 × (Nat → Int32) × (Nat → Int64)) => f_X1_countWays_b67 n.1 n.2.1 (nI (aS a)) (nI x) k48 (fun x0_ x1_ x2_ x3_ x4_ => rc (x0_, x1_, x2_, x3_, x4_)) v.1 v.2.1 v.2.2.1 v.2.2.2.1 v.2.2.2.2) (fun k48 (r : (Nat → Int32) × (Nat → Int64)) => k48 (nI (p + 1)) r.1 r.2) (fun r => ∃ d', FA r.1 d' ∧ FL r.2 (MW a x (p + 1)) ∧ (∀ t, t < 24 → d' t ≤ lgw (aNr a) x t) ∧ (∀ t, t < 24 → d t ≤ d' t) ∧ (∀ t, aNr a s t = true → Rc (aNr a) x s → lgw (aNr a) x s + 1 ≤ d' t)) 24 200 (fun j w => ∃ l' m' d', w = (nI p, nI s, nI j, l', m') ∧ FA l' d' ∧ FL m' (fun t => if t < j then MW a x (p + 1) t else MW a x p t) ∧ (∀ t, t < 24 → d' t ≤ lgw (aNr a) x t) ∧ (∀ t, t < 24 → d t ≤ d' t) ∧ (∀ t, t < j → aNr a s t = true → Rc (aNr a) x s → lgw (aNr a) x s + 1 ≤ d' t) ∧ d' s = d s) (by decide) (by
        rintro j w hj ⟨l', m', d', rfl, k1, k2, k3, k4, k5, k6⟩
        by_cases e2 : j = 24
        · left
          refine ⟨(l', m'), ⟨d', k1, fun t ht => ?_, k3, k4, fun t z => k5 t (by have := (W_e24 hW z).2; omega) z⟩, ?_⟩
          · have := k2 t ht
            dsimp only at this
            rw [if_pos (by omega)] at this
            exact this
          · intro k rc
            show f_X1_countWays_b67 _ _ _ _ _ _ _ _ _ _ _ = _
            unfold f_X1_countWays_b67
            dsimp only
            rw [e2, if_pos y24, nI_1]
        · right
          have hj' : j < 24 := by omega
          refine ⟨hj', ?_⟩
          have ms : m' s = nL (SW (aNr a) x s) := by
            rw [k2 s ho]
            dsimp only
            by_cases q : s < j
            · rw [if_pos q, MW_s hW x hp', ← ds, eN_0 nss, Nat.mul_zero, Nat.add_zero, msv]
            · rw [if_neg q, msv]
          have keep : SW (aNr a) x s * eN (aNr a) s j = 0 → FL m' (fun t => if t < j + 1 then MW a x (p + 1) t else MW a x p t) := by
            intro z t ht
            rw [k2 t ht]
            dsimp only
            by_cases q : t < j
            · rw [if_pos q, if_pos (by omega)]
            · rw [if_neg q]
              by_cases q2 : t = j
              · rw [if_pos (by omega), q2, MW_s hW x hp', ← ds, z, Nat.add_zero]
              · rw [if_neg (by omega)]
          by_cases c0 : SW (aNr a) x s = 0
          · have nr : ¬ Rc (aNr a) x s := fun z => by have := (SW_pos hW x s).mpr z; omega
            refine ⟨_, ⟨l', m', d', rfl, k1, keep (by rw [c0, Nat.zero_mul]), k3, k4, fun t _ _ z => absurd z nr, k6⟩, ?_⟩
            intro k rc
            show f_X1_countWays_b67 _ _ _ _ _ _ _ _ _ _ _ = _
            unfold f_X1_countWays_b67
            dsimp only
            rw [if_neg (n24 hj'), chk_nI ho (by decide), ix_nI (by omega)]
            simp only [ms]
            rw [if_pos ((nL_cmp0 (by omega)).mpr c0), nI_1]
          · have yr : Rc (aNr a) x s := (SW_pos hW x s).mp (by omega)
            by_cases c : aNr a s j = true
            · have hne : j ≠ s := fun z => nss (by rw [z] at c; exact c)
              have hle := lgw_Re hW c yr
              have b1 := k3 j hj'
              have b2 := lgw_24 hW x j
              refine ⟨_, ⟨upd l' j (nI (if d' j < d' s + 1 then d' s + 1 else d' j)), vp_updL m' j (nL (MW a x p j + SW (aNr a) x s)), va_up d' j (if d' j < d' s + 1 then d' s + 1 else d' j), rfl, ?_, ?_, ?_, ?_, ?_, ?_⟩, ?_⟩
              · intro t ht
                unfold va_up
                by_cases et : t = j
                · rw [et, updN, if_pos rfl]
                · rw [updO et, if_neg et]; exact k1 t ht
              · intro t ht
                dsimp only
                by_cases et : t = j
                · rw [et, vpN, if_pos (by omega), MW_s hW x hp', ← ds, eN_1 c, Nat.mul_one]
                · rw [vpO et, k2 t ht]
                  dsimp only
                  by_cases q : t < j
                  · rw [if_pos q, if_pos (by omega)]
                  · rw [if_neg q, if_neg (by omega)]
              · intro t ht
                unfold va_up
                by_cases et : t = j
                · rw [et, if_pos rfl]
                  by_cases q : d' j < d' s + 1
                  · rw [if_pos q]; omega
                  · rw [if_neg q]; exact b1
                · rw [if_neg et]; exact k3 t ht
              · intro t ht
                unfold va_up
                have := k4 t ht
                by_cases et : t = j
                · rw [et, if_pos rfl]
                  rw [et] at this
                  by_cases q : d' j < d' s + 1
                  · rw [if_pos q]; omega
                  · rw [if_neg q]; exact this
                · rw [if_neg et]; exact this
              · intro t ht z zr
                unfold va_up
                by_cases et : t = j
                · rw [et, if_pos rfl]
                  by_cases q : d' j < d' s + 1
                  · rw [if_pos q]; omega
                  · rw [if_neg q]; omega
                · rw [if_neg et]; exact k5 t (by omega) z zr
              · unfold va_up
                rw [if_neg (fun z => hne z.symm)]; exact k6
              · intro k rc
                show f_X1_countWays_b67 _ _ _ _ _ _ _ _ _ _ _ = _
                unfold f_X1_countWays_b67
                dsimp only
                have mj : m' j = nL (MW a x p j) := by
                  rw [k2 j hj']
                  dsimp only
                  rw [if_neg (Nat.lt_irrefl _)]
                rw [if_neg (n24 hj'), chk_nI ho (by decide), ix_nI (by omega)]
                simp only [ms]
                rw [if_neg (fun z => c0 ((nL_cmp0 (by omega)).mp z)), chk_nI ho (by decide), if_neg (by rw [c_linked hC ho hj', c]; decide), chk_nI hj' (by decide), chk_nI ho (by decide), chk_nI hj' (by decide), chk_nI hj' (by decide), chk_nI ho (by decide), chk_nI hj' (by decide), ix_nI (by omega), mj, nL_add, k1 j hj', k1 s ho, nI_1, nI_1, jmax_nI (by omega) (by omega)]
            · refine ⟨_, ⟨l', m', d', rfl, k1, keep (by rw [eN_0 c, Nat.mul_zero]), k3, k4, ?_, k6⟩, ?_⟩
              · intro t ht z zr
                by_cases et : t = j
                · rw [et] at z; exact absurd z c
                · exact k5 t (by omega) z zr
              · intro k rc
                show f_X1_countWays_b67 _ _ _ _ _ _ _ _ _ _ _ = _
                unfold f_X1_countWays_b67
                dsimp only
                rw [if_neg (n24 hj'), chk_nI ho (by decide), ix_nI (by omega)]
                simp only [ms]
                rw [if_neg (fun z => c0 ((nL_cmp0 (by omega)).mp z)), chk_nI ho (by decide), if_pos ((c_linked hC ho hj').mpr (Bool.eq_false_iff.mpr c)), nI_1]) (nI p, nI s, 0, l, m) ⟨l, m, d, rfl, i1, fun t ht => by
          rw [i2 t ht]
          dsimp only
          rw [if_neg (Nat.not_lt_zero _)], i3, fun _ _ => Nat.le_refl _, fun t ht => absurd ht (Nat.not_lt_zero _), rfl⟩
      refine ⟨(nI (p + 1), r.1, r.2), ⟨r.1, r.2, d', rfl, j1, j2, j3, by have := j4 x hx; omega, ?_⟩, ?_⟩
      · intro u t hu z zr
        by_cases eu : pcO a u = p
        · have : u = s := by rw [ds, ← eu]; exact (pcO_spec hW (W_e1 hW z)).2.symm
          rw [this] at z zr ⊢
          exact j5 t z zr
        · have := i5 u t (by omega) z zr
          have := j4 t (W_e24 hW z).2
          omega
      · intro k rc
        show f_X1_countWays_b48 _ _ _ _ _ _ _ _ = _
        unfold f_X1_countWays_b48
        dsimp only
        rw [if_neg (nle hp' (by omega)), chk_nI (by omega) (by decide), ix_nI (by omega), hC.2.1 p hp', ← ds]
        exact hj (fun x0_ x1_ x2_ => rc (x0_, x1_, x2_))) (0, l0, m0) ⟨l0, m0, _, rfl, f0, fun t ht => by rw [g0 t ht, MW_0], fun t ht => by
          by_cases e : x = t
          · rw [if_pos e, ← e, lgw_self hW]; exact Nat.le_refl _
          · rw [if_neg e]; exact Nat.zero_le _, by rw [if_pos rfl]; exact Nat.le_refl _, fun s t z => absurd z (Nat.not_lt_zero _)⟩
  exact ⟨r.1, r.2, h (), hr⟩
theorem m_measures {mem : Nat → Int32} {a : AN} (h : MN mem 0 a) (hW : WA a) {y : Nat} (hya : aAl a y = true) (lon : Nat → Int32) (wc : Nat → Int64) : ∃ l m, f_X7_measures mem lon wc (nI y) = some (l, m) ∧ ∀ t, aAl a t = true → l t = nI (lgw (aNr a) t y) ∧ m t = nL (SW (aNr a) t y) := by
  have hs := hW.1
  have hy := W_lt hW hya
  have lk : ∀ u v, u < 24 → v < 24 → f_X7_isLinked mem 0 (nI u) (nI v) = some (if aNr a u v then 1 else 0) := fun u v hu hv => m_isLinked (q := 0) (h : MN mem (0 * 179) a) (by omega) hu hv
  unfold f_X7_measures
  rw [show f_X7_placed mem 0 = some (nI (aS a)) from m_placed (q := 0) (h : MN mem (0 * 179) a) (by omega), sbind]
  unfold f_X7_measures_l8
  obtain ⟨r, hr, hh⟩ := loop_rel (body := fun (_ : Unit) rc (v : Int32 × (Nat → Int32) × (Nat → Int64)) => f_X7_measures_b8 mem (nI y) (fun x0_ x1_ x2_ => rc (x0_, x1_, x2_)) v.1 v.2.1 v.2.2) (fun _ (r : (Nat → Int32) × (Nat → Int64)) => some r) (fun r => ∀ t, aAl a t = true → r.1 t = nI (lgw (aNr a) t y) ∧ r.2 t = nL (SW (aNr a) t y)) (aS a) 200 (fun p w => ∃ l m, w = (nI (aS a - p) - 1, l, m) ∧ ∀ t, aAl a t = true → aS a - p ≤ pcO a t → l t = nI (lgw (aNr a) t y) ∧ m t = nL (SW (aNr a) t y)) (by omega) (by
    rintro p w hp ⟨l, m, rfl, i1⟩
    by_cases e : p = aS a
    · left
      refine ⟨(l, m), fun t ht => i1 t ht (by omega), ?_⟩
      intro k rc
      show f_X7_measures_b8 _ _ _ _ _ _ = _
      unfold f_X7_measures_b8
      dsimp only
      rw [e, Nat.sub_self, if_pos nI_m0]
    · right
      have hp' : p < aS a := by omega
      refine ⟨hp', ?_⟩
      obtain ⟨q, hq⟩ : ∃ q, aS a - p = q + 1 := ⟨aS a - p - 1, by omega⟩
      have hq2 : aS a - (p + 1) = q := by omega
      have hqs : q < aS a := by omega
      rw [hq] at i1
      have ho := W_o hW hqs
      have hal := W_al hW hqs
      obtain ⟨u, du⟩ : ∃ u, u = aO a q := ⟨_, rfl⟩
      rw [← du] at ho hal
      have hpu : pcO a u = q := by rw [du]; exact pcO_at hW hqs
      have oth : ∀ t, aAl a t = true → t ≠ u → q ≤ pcO a t → q + 1 ≤ pcO a t := by
        intro t ht hne hpt
        have : pcO a t ≠ q := by
          intro z
          apply hne
          rw [du, ← z]
          exact (pcO_spec hW ht).2.symm
        omega
      have ipl : f_X7_inPlace mem 0 (nI q) = some (nI u) := by
        rw [du]
        exact m_inPlace (q := 0) (h : MN mem (0 * 179) a) (by omega) hqs hs
      by_cases ey : u = y
      · refine ⟨(nI q - 1, upd l u 1, vp_updL m u 1), ⟨_, _, by rw [hq2], ?_⟩, ?_⟩
        · rw [hq2]
          intro t ht hpt
          by_cases et : t = u
          · rw [et, updN, vpN, ey, lgw_self hW, SW_self hW]
            exact ⟨rfl, rfl⟩
          · rw [updO et, vpO et]
            exact i1 t ht (oth t ht et hpt)
        · intro k rc
          show f_X7_measures_b8 _ _ _ _ _ _ = _
          unfold f_X7_measures_b8 f_X7_measures_b34
          dsimp only
          rw [hq, nI_m1, if_neg (neg_lt (by omega)), ipl, sbind, if_pos (by rw [ey]), chk_nI ho (by decide), if_pos (by rw [ey]), chk_nI ho (by decide), ix_nI (by omega)]
          unfold f_X7_measures_l54
          rw [show (200 : Nat) = 199 + 1 from rfl, loopN_succ]
          show f_X7_measures_b54 _ _ _ _ _ _ _ _ _ = _
          unfold f_X7_measures_b54
          rw [if_neg (show ¬ (24 : Int32) ≤ 0 by decide), if_pos (by rw [ey]), nI_p1]
      · obtain ⟨r, ⟨j1, j2, j3⟩, hj⟩ := loop_rel (body := fun (k8 : Int32 → (Nat → Int32) → (Nat → Int64) → Option ((Nat → Int32) × (Nat → Int64))) rc (v : Int32 × Int32 × Int32 × (Nat → Int32) × (Nat → Int64)) => f_X7_measures_b54 mem (nI y) k8 (fun x0_ x1_ x2_ x3_ x4_ => rc (x0_, x1_, x2_, x3_, x4_)) v.1 v.2.1 v.2.2.1 v.2.2.2.1 v.2.2.2.2) (fun k8 (r : (Nat → Int32) × (Nat → Int64)) => k8 (nI q - 1) r.1 r.2) (fun r => (∀ t, t ≠ u → r.1 t = l t ∧ r.2 t = m t) ∧ r.1 u = nI (lgw (aNr a) u y) ∧ r.2 u = nL (SW (aNr a) u y)) 24 200 (fun j w => ∃ l' m' d, w = (nI q, nI u, nI j, l', m') ∧ (∀ t, t ≠ u → l' t = l t ∧ m' t = m t) ∧ l' u = nI d ∧ m' u = nL (nsum (fun v => eN (aNr a) u v * SW (aNr a) v y) j) ∧ d ≤ lgw (aNr a) u y ∧ (∀ v, v < j → aNr a u v = true → Rc (aNr a) v y → lgw (aNr a) v y + 1 ≤ d)) (by decide) (by
          rintro j w hj ⟨l', m', d, rfl, k1, k2, k3, k4, k5⟩
          by_cases e2 : j = 24
          · left
            refine ⟨(l', m'), ⟨k1, ?_, ?_⟩, ?_⟩
            · show l' u = _
              rw [k2]
              by_cases hr : Rc (aNr a) u y
              · obtain ⟨v, z1, z2, z3⟩ := lgw_Ld hW hr ey
                have := k5 v (by have := (W_e24 hW z1).2; omega) z1 z2
                rw [show d = lgw (aNr a) u y by omega]
              · have z := lgw_no hW hr
                rw [show d = lgw (aNr a) u y by omega]
            · show m' u = _
              rw [k3, e2, SW_L hW u y, if_neg ey, Nat.zero_add]
            · intro k rc
              show f_X7_measures_b54 _ _ _ _ _ _ _ _ _ = _
              unfold f_X7_measures_b54
              dsimp only
              rw [e2, if_pos y24, nI_p1]
          · right
            have hj' : j < 24 := by omega
            refine ⟨hj', ?_⟩
            have ney : ¬ nI u = nI y := by rw [nI_eq (by omega) (by omega)]; exact ey
            by_cases c : aNr a u j = true
            · have hlt := pcO_lt hW c
              have hne : j ≠ u := by
                intro z
                rw [z] at hlt
                omega
              have fj := i1 j (W_e2 hW c) (by omega)
              have lj : l' j = nI (lgw (aNr a) j y) := (k1 j hne).1.trans fj.1
              have mj : m' j = nL (SW (aNr a) j y) := (k1 j hne).2.trans fj.2
              have sle := SW_le hW hj' hya
              by_cases c0 : SW (aNr a) j y = 0
              · have nr : ¬ Rc (aNr a) j y := fun z => by have := (SW_pos hW j y).mpr z; omega
                refine ⟨_, ⟨l', m', d, rfl, k1, k2, ?_, k4, ?_⟩, ?_⟩
                · rw [k3, nsum_s, c0, Nat.mul_zero, Nat.add_zero]
                · intro v hv z zr
                  by_cases ev : v = j
                  · rw [ev] at zr; exact absurd zr nr
                  · exact k5 v (by omega) z zr
                · intro k rc
                  show f_X7_measures_b54 _ _ _ _ _ _ _ _ _ = _
                  unfold f_X7_measures_b54
                  dsimp only
                  rw [if_neg (n24 hj'), if_neg ney, lk u j ho hj', sbind, c, if_neg (by decide), chk_nI hj' (by decide), ix_nI (by omega)]
                  simp only [mj]
                  rw [if_pos ((nL_cmp0 (by omega)).mpr c0), nI_1]
              · have yr : Rc (aNr a) j y := (SW_pos hW j y).mp (by omega)
                have hle := lgw_Le hW c yr
                have b1 := lgw_24 hW u y
                refine ⟨_, ⟨upd l' u (nI (if lgw (aNr a) j y + 1 ≤ d then d else lgw (aNr a) j y + 1)), vp_updL m' u (nL (nsum (fun v => eN (aNr a) u v * SW (aNr a) v y) j + SW (aNr a) j y)), (if lgw (aNr a) j y + 1 ≤ d then d else lgw (aNr a) j y + 1), rfl, ?_, updN _ _ _, ?_, ?_, ?_⟩, ?_⟩
                · intro t ht
                  rw [updO ht, vpO ht]
                  exact k1 t ht
                · rw [vpN, nsum_s, eN_1 c, Nat.one_mul]
                · by_cases w : lgw (aNr a) j y + 1 ≤ d
                  · rw [if_pos w]; exact k4
                  · rw [if_neg w]; exact hle
                · intro v hv z zr
                  by_cases ev : v = j
                  · rw [ev]
                    by_cases w : lgw (aNr a) j y + 1 ≤ d
                    · rw [if_pos w]; exact w
                    · rw [if_neg w]; exact Nat.le_refl _
                  · have := k5 v (by omega) z zr
                    by_cases w : lgw (aNr a) j y + 1 ≤ d
                    · rw [if_pos w]; exact this
                    · rw [if_neg w]; omega
                · intro k rc
                  show f_X7_measures_b54 _ _ _ _ _ _ _ _ _ = _
                  unfold f_X7_measures_b54
                  dsimp only
                  rw [if_neg (n24 hj'), if_neg ney, lk u j ho hj', sbind, c, if_neg (by decide), chk_nI hj' (by decide), ix_nI (by omega), chk_nI ho (by decide), chk_nI hj' (by decide), chk_nI ho (by decide), chk_nI hj' (by decide), chk_nI ho (by decide), chk_nI ho (by decide), chk_nI ho (by decide), chk_nI hj' (by decide), chk_nI ho (by decide), ix_nI (by omega)]
                  simp only [mj, lj, k2, k3]
                  rw [if_neg (fun z => c0 ((nL_cmp0 (by omega)).mp z)), nI_1, nI_1, nL_add]
                  by_cases w : lgw (aNr a) j y + 1 ≤ d
                  · rw [if_pos (by rw [nI_leI (by omega) (by omega)]; exact w), if_pos w]
                  · rw [if_neg (by rw [nI_leI (by omega) (by omega)]; exact w), if_neg w]
            · refine ⟨_, ⟨l', m', d, rfl, k1, k2, ?_, k4, ?_⟩, ?_⟩
              · rw [k3, nsum_s, eN_0 c, Nat.zero_mul, Nat.add_zero]
              · intro v hv z zr
                by_cases ev : v = j
                · rw [ev] at z; exact absurd z c
                · exact k5 v (by omega) z zr
              · intro k rc
                show f_X7_measures_b54 _ _ _ _ _ _ _ _ _ = _
                unfold f_X7_measures_b54
                dsimp only
                rw [if_neg (n24 hj'), if_neg ney, lk u j ho hj', sbind, show aNr a u j = false from Bool.eq_false_iff.mpr c, if_pos (by decide), nI_1]) (nI q, nI u, 0, upd l u 0, vp_updL m u 0) ⟨upd l u 0, vp_updL m u 0, 0, rfl, fun t ht => ⟨updO ht _, vpO ht _⟩, updN _ _ _, vpN _ _ _, Nat.zero_le _, fun v hv => absurd hv (Nat.not_lt_zero _)⟩
        refine ⟨(nI q - 1, r.1, r.2), ⟨r.1, r.2, by rw [hq2], ?_⟩, ?_⟩
        · rw [hq2]
          intro t ht hpt
          by_cases et : t = u
          · rw [et]; exact ⟨j2, j3⟩
          · rw [(j1 t et).1, (j1 t et).2]
            exact i1 t ht (oth t ht et hpt)
        · intro k rc
          show f_X7_measures_b8 _ _ _ _ _ _ = _
          unfold f_X7_measures_b8 f_X7_measures_b34
          dsimp only
          have ney : ¬ nI u = nI y := by rw [nI_eq (by omega) (by omega)]; exact ey
          rw [hq, nI_m1, if_neg (neg_lt (by omega)), ipl, sbind, if_neg ney, chk_nI ho (by decide), if_neg ney, chk_nI ho (by decide), ix_nI (by omega)]
          exact hj (fun x0_ x1_ x2_ => rc (x0_, x1_, x2_))) (nI (aS a) - 1, lon, wc) ⟨lon, wc, rfl, fun t ht z => absurd (pcO_spec hW ht).1 (by omega)⟩
  exact ⟨r.1, r.2, hh (), hr⟩
theorem inv_14 (x_words : Nat → Int32) (x_wordCount : Int32) (x_size : Int32) (x_signs : Nat → Int32) (x_next : Int32) (g_longest : Nat → Int32) (g_many : Nat → Int64) (g_layers : Nat → Int32) (g_length : Int32) (g_aheadOf : Nat → Int32) (g_cameFrom : Nat → Int32) (g_queue : Nat → Int32) (r_numbers : Nat → Int64) (r_size : Int32) (p_size : Int32) (t_filled : Nat → Int32) (nd : Nat → ND) (m_thrown : Int32) (m_told : Int32) (m_row : Nat → Int64) (m_tape : Nat → Int32) (m_taped : Int32) (m_at : Int32) (m_to : Int32) (m_mem : Nat → Int32) (m_undos : Int32) (m_places : Nat → Int32) (m_movers : Nat → Int32) (m_far : Nat → Int32) (m_way : Nat → Int32) (m_wayMany : Int32) (m_fromOf : Nat → Int32) (m_toOf : Nat → Int32) (m_longest : Nat → Int32) (m_wayCount : Nat → Int64) (m_thin : Nat → Int32) (m_ahead : Nat → Int32) (m_tried : Int32) (m_foundLow : Int32) (m_foundHigh : Int32) (m_nextLow : Int32) (m_nextHigh : Int32) (m_act : Nat → Int32) (m_first : Nat → Int32) (m_second : Nat → Int32) (m_random : Int32) (m_isKept : Nat → Int32) (x y : Int32) (h : Inv x_words x_wordCount x_size x_signs x_next g_longest g_many g_layers g_length g_aheadOf g_cameFrom g_queue r_numbers r_size p_size t_filled nd m_thrown m_told m_row m_tape m_taped m_at m_to m_mem m_undos m_places m_movers m_far m_way m_wayMany m_fromOf m_toOf m_longest m_wayCount m_thin m_ahead m_tried m_foundLow m_foundHigh m_nextLow m_nextHigh m_act m_first m_second m_random m_isKept) : S_14 Inv x_words x_wordCount x_size x_signs x_next g_longest g_many g_layers g_length g_aheadOf g_cameFrom g_queue r_numbers r_size p_size t_filled nd m_thrown m_told m_row m_tape m_taped m_at m_to m_mem m_undos m_places m_movers m_far m_way m_wayMany m_fromOf m_toOf m_longest m_wayCount m_thin m_ahead m_tried m_foundLow m_foundHigh m_nextLow m_nextHigh m_act m_first m_second m_random m_isKept x y := by
  obtain ⟨⟨a, hC, hM, hW⟩, hP, hK, hR, hT⟩ := h
  unfold S_14 f_X6_ways f_X7_ways
  by_cases hx : two a x y
  · obtain ⟨s, t, rfl, rfl, hs, ht, hne⟩ := hx
    have ls := W_lt hW hs
    have lt := W_lt hW ht
    obtain ⟨l1, m1, e1, f1⟩ := c_countWays hC hW hs g_longest g_many
    obtain ⟨l2, m2, e2, f2⟩ := m_measures hM hW ht m_longest m_wayCount
    rw [← hC.2.2.2.2.2.2.1] at e1
    have sle := SW_le hW ls ht
    have q1 := f1 t lt
    have q2 := f2 s hs
    rw [C_pair1 hC hW hs ht hne, if_neg one0, m_two1 hM hW hs ht hne, sbind, if_neg one0, e1, sbind, e2, sbind]
    have ct : ∀ {ρ : Type} (z : Option ρ), chk (inb (nI t) 24) z = z := fun z => chk_nI lt (by decide) z
    have cs : ∀ {ρ : Type} (z : Option ρ), chk (inb (nI s) 24) z = z := fun z => chk_nI ls (by decide) z
    have it : ix (nI t) = t := ix_nI (by omega)
    have is : ix (nI s) = s := ix_nI (by omega)
    simp only [ct, cs, it, is, q1.1, q1.2, q2.1, q2.2]
    by_cases c0 : SW (aNr a) s t = 0
    · rw [if_pos ((nL_cmpe (by omega)).mpr c0), if_pos ((nL_cmpe (by omega)).mpr c0)]
      exact ⟨_, rfl, _, rfl, rfl, ⟨a, hC, hM, hW⟩, hP, hK, hR, hT⟩
    · rw [if_neg (fun z => c0 ((nL_cmpe (by omega)).mp z)), if_neg (fun z => c0 ((nL_cmpe (by omega)).mp z)), c_tell, sbind, m_tell, sbind]
      exact ⟨_, rfl, _, rfl, rfl, ⟨a, hC, hM, hW⟩, hP, hK, Rw1 _ _ _, hT⟩
  · rw [C_pair0 hC hx, if_pos rfl, m_two0 hM hx, sbind, if_pos rfl]
    exact ⟨_, rfl, _, rfl, rfl, ⟨a, hC, hM, hW⟩, hP, hK, hR, hT⟩
