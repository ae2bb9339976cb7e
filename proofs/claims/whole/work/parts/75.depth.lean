/-! PURE 75: depth -/
def Mx (F : Nat → Nat → Bool) (t v : Nat) : Prop := (∃ u, Wk F v t u) ∧ ∀ k u, Wk F k t u → k ≤ v
noncomputable def mx (F : Nat → Nat → Bool) (t : Nat) : Nat := Classical.epsilon (Mx F t)
theorem Mx_ex {F : Nat → Nat → Bool} (hB : ∀ n x y, Wk F n x y → n ≤ 23) (t : Nat) : ∃ v, Mx F t v := by
  have key : ∀ m, (∀ k u, Wk F k t u → k ≤ m) → ∃ v, Mx F t v := by
    intro m
    induction m with
    | zero => exact fun h => ⟨0, ⟨t, rfl⟩, h⟩
    | succ m ih =>
      intro h
      by_cases q : ∃ u, Wk F (m + 1) t u
      · exact ⟨m + 1, q, h⟩
      · refine ih (fun k u w => ?_)
        have := h k u w
        have : k ≠ m + 1 := fun e => q ⟨u, by rw [← e]; exact w⟩
        omega
  exact key 23 (fun k u w => hB k t u w)
theorem mx_spec {F : Nat → Nat → Bool} (hB : ∀ n x y, Wk F n x y → n ≤ 23) (t : Nat) : Mx F t (mx F t) := Classical.epsilon_spec (Mx_ex hB t)
theorem mx_23 {F : Nat → Nat → Bool} (hB : ∀ n x y, Wk F n x y → n ≤ 23) (t : Nat) : mx F t ≤ 23 := by
  obtain ⟨u, w⟩ := (mx_spec hB t).1
  exact hB _ _ _ w
theorem mx_e {F : Nat → Nat → Bool} (hB : ∀ n x y, Wk F n x y → n ≤ 23) {t u : Nat} (h : F t u = true) : mx F u + 1 ≤ mx F t := by
  obtain ⟨v, w⟩ := (mx_spec hB u).1
  exact (mx_spec hB t).2 _ v ⟨u, h, w⟩
theorem mx_0 {F : Nat → Nat → Bool} (hB : ∀ n x y, Wk F n x y → n ≤ 23) (t : Nat) : mx F t = 0 ∨ ∃ u, F t u = true ∧ mx F t = mx F u + 1 := by
  obtain ⟨v, w⟩ := (mx_spec hB t).1
  cases hm : mx F t with
  | zero => exact .inl rfl
  | succ m =>
    rw [hm] at w
    obtain ⟨z, h1, h2⟩ := w
    refine .inr ⟨z, h1, ?_⟩
    have h3 := (mx_spec hB z).2 m v h2
    have h4 := mx_e hB h1
    omega
theorem Wk_pre {F : Nat → Nat → Bool} : ∀ {j m t u}, Wk F (j + m) t u → ∃ v, Wk F j t v := by
  intro j
  induction j with
  | zero => intro m t u _; exact ⟨t, rfl⟩
  | succ j ih =>
    intro m t u h
    rw [show j + 1 + m = (j + m) + 1 by omega] at h
    obtain ⟨z, h1, h2⟩ := h
    obtain ⟨v, h3⟩ := ih h2
    exact ⟨v, z, h1, h3⟩
theorem m_deep {mem : Nat → Int32} {F : Nat → Nat → Bool} {p2 : Int32} {t : Nat} (ht : t < 24) (hF : ∀ x y, F x y = true → x < 24 ∧ y < 24) (hB : ∀ n x y, Wk F n x y → n ≤ 23) (hR : ∀ o, o < 24 → ∀ K : Int32 → Option Int32, (if p2 = 0 then (f_X7_broader mem 0 (nI o)).bind K else (f_X7_narrower mem 0 (nI o)).bind K) = K (bset (F o) 24)) : f_X7_deep mem (nI t) p2 = some (nI (mx F t)) := by
  have hL := mx_23 hB t
  have ne : ∀ j, j ≤ mx F t → ¬ bsP (Wk F j t) = 0 := by
    intro j hj z
    rw [bsP_0] at z
    obtain ⟨u, w⟩ := (mx_spec hB t).1
    rw [show mx F t = j + (mx F t - j) by omega] at w
    obtain ⟨v, h1⟩ := Wk_pre w
    refine z v ?_ h1
    cases j with
    | zero => exact (show t = v from h1) ▸ ht
    | succ j =>
      obtain ⟨z1, _, h2⟩ := Wk_last h1
      exact (hF _ _ h2).2
  have em : bsP (Wk F (mx F t + 1) t) = 0 := by
    rw [bsP_0]
    intro u _ w
    have := (mx_spec hB t).2 _ u w
    omega
  unfold f_X7_deep f_X7_deep_l7
  refine loop_go (fun j => (bsP (Wk F j t), nI (if j ≤ mx F t then j else mx F t))) (mx F t + 1) 200 (by omega) ?_ ?_ ?_
  · rw [if_pos (Nat.zero_le _), bsP_one ht]
    refine congrArg (fun z => (z, nI 0)) (bsP_congr (fun u _ => ⟨fun e => Eq.symm e, fun e => Eq.symm e⟩))
  · intro j hj rc
    show f_X7_deep_b7 _ _ _ _ _ _ = _
    unfold f_X7_deep_b7
    dsimp only
    rw [if_neg (ne j (by omega)), if_pos (show j ≤ mx F t by omega)]
    unfold f_X7_deep_l17
    refine loop_go (fun i => (bsP (Wk F j t), nI j, bsP (fun u => ∃ o, o < i ∧ Wk F j t o ∧ F o u = true), nI i)) 24 200 (by decide) ?_ ?_ ?_
    · have : bsP (fun u => ∃ o, o < 0 ∧ Wk F j t o ∧ F o u = true) = 0 := by
        rw [bsP_0]
        rintro u _ ⟨o, z, _⟩
        exact absurd z (Nat.not_lt_zero _)
      rw [this]
      rfl
    · intro i hi rc2
      show f_X7_deep_b17 _ _ _ _ _ _ _ _ _ = _
      unfold f_X7_deep_b17
      dsimp only
      rw [if_neg (n24 hi), nI_1, or_0]
      by_cases e : Wk F j t i
      · rw [if_neg (by rw [bsP_has hi]; exact fun z => z e), hR i hi (fun r => rc2 (bsP (Wk F j t), nI j, (bsP (fun u => ∃ o, o < i ∧ Wk F j t o ∧ F o u = true)) ||| r, nI (i + 1))), bs_eq, bsP_or]
        refine congrArg (fun z => rc2 (bsP (Wk F j t), nI j, z, nI (i + 1))) (bsP_congr (fun u _ => ⟨?_, ?_⟩))
        · rintro (⟨o, h1, h2⟩ | z)
          · exact ⟨o, by omega, h2⟩
          · exact ⟨i, by omega, e, z⟩
        · rintro ⟨o, h1, h2, h3⟩
          by_cases ei : o = i
          · rw [ei] at h3; exact .inr h3
          · exact .inl ⟨o, by omega, h2, h3⟩
      · rw [if_pos (by rw [bsP_has hi]; exact e)]
        refine congrArg (fun z => rc2 (bsP (Wk F j t), nI j, z, nI (i + 1))) (bsP_congr (fun u _ => ⟨?_, ?_⟩))
        · rintro ⟨o, h1, h2⟩
          exact ⟨o, by omega, h2⟩
        · rintro ⟨o, h1, h2, h3⟩
          by_cases ei : o = i
          · rw [ei] at h2; exact absurd h2 e
          · exact ⟨o, by omega, h2, h3⟩
    · intro rc2
      show f_X7_deep_b17 _ _ _ _ _ _ _ _ _ = _
      unfold f_X7_deep_b17 f_X7_deep_b83
      dsimp only
      have es : bsP (fun u => ∃ o, o < 24 ∧ Wk F j t o ∧ F o u = true) = bsP (Wk F (j + 1) t) := by
        refine bsP_congr (fun u _ => ⟨?_, ?_⟩)
        · rintro ⟨o, _, h2, h3⟩
          exact Wk_snoc h2 h3
        · intro w
          obtain ⟨z, h1, h2⟩ := Wk_last w
          exact ⟨z, (hF _ _ h2).1, h1, h2⟩
      rw [if_pos y24, es, flag0, flag1, Int32.add_zero, nI_1]
      by_cases e : j + 1 ≤ mx F t
      · rw [if_neg (ne _ e), if_pos e]
      · have : j = mx F t := by omega
        rw [if_neg e, this, if_pos em]
  · intro rc
    show f_X7_deep_b7 _ _ _ _ _ _ = _
    unfold f_X7_deep_b7
    dsimp only
    rw [if_pos em, if_neg (by omega)]
theorem tr24 {a : AN} (hW : WA a) : ∀ n x y, Wk (tr (aNr a)) n x y → n ≤ 23 := fun n x y w => Wk_23 hW (Wk_tr.mp w)
theorem dn24 {a : AN} (hW : WA a) : ∀ n x y, Wk (aNr a) n x y → n ≤ 23 := fun n x y w => Wk_23 hW w
theorem m_deepD {mem : Nat → Int32} {a : AN} (h : MN mem 0 a) (hW : WA a) {t : Nat} (ht : t < 24) : f_X7_deep mem (nI t) 1 = some (nI (mx (aNr a) t)) := by
  refine m_deep ht (fun x y => W_e24 hW) (dn24 hW) (fun o ho K => ?_)
  rw [if_neg one0, Mn h ho]
  rfl
theorem m_deepU {mem : Nat → Int32} {a : AN} (h : MN mem 0 a) (hW : WA a) {t : Nat} (ht : t < 24) : f_X7_deep mem (nI t) 0 = some (nI (mx (tr (aNr a)) t)) := by
  refine m_deep ht (fun x y z => ⟨(W_e24 hW z).2, (W_e24 hW z).1⟩) (tr24 hW) (fun o ho K => ?_)
  rw [if_pos rfl, Mbr h hW ho]
  rfl
theorem jmax_nI {a b : Nat} (ha : a < 2 ^ 31) (hb : b < 2 ^ 31) : jmax (nI a) (nI b) = nI (if a < b then b else a) := by
  unfold jmax
  by_cases h : a < b
  · rw [if_pos ((nI_ltI ha hb).mpr h), if_pos h]
  · rw [if_neg (fun z => h ((nI_ltI ha hb).mp z)), if_neg h]
theorem c_clear (lon : Nat → Int32) : ∃ lon', f_X1_clearLongest lon = some lon' ∧ FA lon' (fun _ => 0) := by
  obtain ⟨g, dg⟩ : ∃ g : Nat → Nat → Int32, g = fun j => itr (fun i f => upd f i 0) lon j := ⟨_, rfl⟩
  have hg : ∀ j i, i < j → g j i = 0 := by
    intro j
    induction j with
    | zero => intro i hi; exact absurd hi (Nat.not_lt_zero _)
    | succ j ih =>
      intro i hi
      have e : g (j + 1) = upd (g j) j 0 := by rw [dg]; rfl
      rw [e]
      by_cases ei : i = j
      · rw [ei, updN]
      · rw [updO ei]; exact ih i (by omega)
  refine ⟨g 24, ?_, fun t ht => hg 24 t ht⟩
  unfold f_X1_clearLongest f_X1_clearLongest_l2
  refine loop_go (fun j => (nI j, g j)) 24 200 (by decide) (by rw [dg]; rfl) ?_ ?_
  · intro j hj rc
    show f_X1_clearLongest_b2 _ _ _ = _
    unfold f_X1_clearLongest_b2
    dsimp only
    rw [if_neg (n24 hj), chk_nI hj (by decide), ix_nI (by omega), nI_1, show g (j + 1) = upd (g j) j 0 by rw [dg]; rfl]
  · intro rc
    show f_X1_clearLongest_b2 _ _ _ = _
    unfold f_X1_clearLongest_b2
    dsimp only
    rw [if_pos y24]
theorem c_down {n : ND} {a : AN} (hC : CN n a) (hW : WA a) (lon : Nat → Int32) : ∃ lon', f_X1_measureDownwards lon n.1 n.2.1 (nI (aS a)) = some lon' ∧ ∀ t, t < 24 → lon' t = nI (mx (tr (aNr a)) t) := by
  have hs := hW.1
  have hB := tr24 hW
  obtain ⟨l0, e0, f0⟩ := c_clear lon
  unfold f_X1_measureDownwards
  rw [e0, sbind]
  unfold f_X1_measureDownwards_l6
  obtain ⟨r, hr, h⟩ := loop_rel (body := fun (_ : Unit) rc (v : Int32 × (Nat → Int32)) => f_X1_measureDownwards_b6 n.1 n.2.1 (nI (aS a)) (fun x0_ x1_ => rc (x0_, x1_)) v.1 v.2) (fun _ (r : Nat → Int32) => some r) (fun r => ∀ t, t < 24 → r t = nI (mx (tr (aNr a)) t)) (aS a) 200 (fun p w => ∃ l d, w = (nI p, l) ∧ FA l d ∧ (∀ t, t < 24 → d t ≤ mx (tr (aNr a)) t) ∧ (∀ s t, pcO a s < p → aNr a s t = true → mx (tr (aNr a)) s + 1 ≤ d t)) (by omega) (by
    rintro p w hp ⟨l, d, rfl, i1, i2, i3⟩
    by_cases e : p = aS a
    · left
      refine ⟨l, ?_, ?_⟩
      · intro t ht
        rw [i1 t ht]
        have h1 := i2 t ht
        rcases mx_0 hB t with z | ⟨s, z1, z2⟩
        · rw [show d t = mx (tr (aNr a)) t by omega]
        · have z1' : aNr a s t = true := z1
          have := i3 s t (by rw [e]; exact (pcO_spec hW (W_e1 hW z1')).1) z1'
          rw [show d t = mx (tr (aNr a)) t by omega]
      · intro k rc
        show f_X1_measureDownwards_b6 _ _ _ _ _ _ = _
        unfold f_X1_measureDownwards_b6
        dsimp only
        rw [e, if_pos (yle _ (by omega))]
    · right
      have hp' : p < aS a := by omega
      refine ⟨hp', ?_⟩
      have ho := W_o hW hp'
      obtain ⟨s, ds⟩ : ∃ s, s = aO a p := ⟨_, rfl⟩
      rw [← ds] at ho
      have hps : pcO a s = p := by rw [ds]; exact pcO_at hW hp'
      have dsv : d s = mx (tr (aNr a)) s := by
        have h1 := i2 s ho
        rcases mx_0 hB s with z | ⟨u, z1, z2⟩
        · omega
        · have z1' : aNr a u s = true := z1
          have := i3 u s (by have := pcO_lt hW z1'; omega) z1'
          omega
      have m23 := mx_23 hB s
      obtain ⟨r, ⟨d', j1, j2, j3, j4⟩, hj⟩ := loop_rel (body := fun (k6 : Int32 → (Nat → Int32) → Option (Nat → Int32)) rc (v : Int32 × Int32 × Int32 × (Nat → Int32)) => f_X1_measureDownwards_b24 n.1 n.2.1 (nI (aS a)) k6 (fun x0_ x1_ x2_ x3_ => rc (x0_, x1_, x2_, x3_)) v.1 v.2.1 v.2.2.1 v.2.2.2) (fun k6 (r : Nat → Int32) => k6 (nI (p + 1)) r) (fun r => ∃ d', FA r d' ∧ (∀ t, t < 24 → d' t ≤ mx (tr (aNr a)) t) ∧ (∀ t, t < 24 → d t ≤ d' t) ∧ (∀ t, aNr a s t = true → mx (tr (aNr a)) s + 1 ≤ d' t)) 24 200 (fun j w => ∃ l' d', w = (nI p, nI s, nI j, l') ∧ FA l' d' ∧ (∀ t, t < 24 → d' t ≤ mx (tr (aNr a)) t) ∧ (∀ t, t < 24 → d t ≤ d' t) ∧ (∀ t, t < j → aNr a s t = true → mx (tr (aNr a)) s + 1 ≤ d' t) ∧ d' s = d s) (by decide) (by
        rintro j w hj ⟨l', d', rfl, k1, k2, k3, k4, k5⟩
        by_cases e2 : j = 24
        · left
          refine ⟨l', ⟨d', k1, k2, k3, fun t z => k4 t (by have := (W_e24 hW z).2; omega) z⟩, ?_⟩
          intro k rc
          show f_X1_measureDownwards_b24 _ _ _ _ _ _ _ _ _ = _
          unfold f_X1_measureDownwards_b24
          dsimp only
          rw [e2, if_pos y24, nI_1]
        · right
          have hj' : j < 24 := by omega
          refine ⟨hj', ?_⟩
          have b1 := k2 j hj'
          have b2 := mx_23 hB j
          by_cases c : aNr a s j = true
          · have hne : j ≠ s := by
              intro z
              rw [z] at c
              have := pcO_lt hW c
              omega
            have hle : mx (tr (aNr a)) s + 1 ≤ mx (tr (aNr a)) j := mx_e hB (show tr (aNr a) j s = true from c)
            refine ⟨_, ⟨upd l' j (nI (if d' j < d' s + 1 then d' s + 1 else d' j)), va_up d' j (if d' j < d' s + 1 then d' s + 1 else d' j), rfl, ?_, ?_, ?_, ?_, ?_⟩, ?_⟩
            · intro t ht
              unfold va_up
              by_cases et : t = j
              · rw [et, updN, if_pos rfl]
              · rw [updO et, if_neg et]; exact k1 t ht
            · intro t ht
              unfold va_up
              by_cases et : t = j
              · rw [et, if_pos rfl]
                by_cases q : d' j < d' s + 1
                · rw [if_pos q]; omega
                · rw [if_neg q]; exact b1
              · rw [if_neg et]; exact k2 t ht
            · intro t ht
              unfold va_up
              have := k3 t ht
              by_cases et : t = j
              · rw [et, if_pos rfl]
                rw [et] at this
                by_cases q : d' j < d' s + 1
                · rw [if_pos q]; omega
                · rw [if_neg q]; exact this
              · rw [if_neg et]; exact this
            · intro t ht z
              unfold va_up
              by_cases et : t = j
              · rw [et, if_pos rfl]
                by_cases q : d' j < d' s + 1
                · rw [if_pos q]; omega
                · rw [if_neg q]; omega
              · rw [if_neg et]; exact k4 t (by omega) z
            · unfold va_up
              rw [if_neg (fun z => hne z.symm)]; exact k5
            · intro k rc
              show f_X1_measureDownwards_b24 _ _ _ _ _ _ _ _ _ = _
              unfold f_X1_measureDownwards_b24
              dsimp only
              rw [if_neg (n24 hj'), chk_nI ho (by decide), ix_nI (by omega), if_neg (by rw [c_linked hC ho hj', c]; decide), chk_nI hj' (by decide), chk_nI ho (by decide), chk_nI hj' (by decide), ix_nI (by omega), k1 j hj', k1 s ho, nI_1, nI_1, jmax_nI (by omega) (by omega)]
          · refine ⟨_, ⟨l', d', rfl, k1, k2, k3, ?_, k5⟩, ?_⟩
            · intro t ht z
              by_cases et : t = j
              · rw [et] at z; exact absurd z c
              · exact k4 t (by omega) z
            · intro k rc
              show f_X1_measureDownwards_b24 _ _ _ _ _ _ _ _ _ = _
              unfold f_X1_measureDownwards_b24
              dsimp only
              rw [if_neg (n24 hj'), chk_nI ho (by decide), ix_nI (by omega), if_pos ((c_linked hC ho hj').mpr (Bool.eq_false_iff.mpr c)), nI_1]) (nI p, nI s, 0, l) ⟨l, d, rfl, i1, i2, fun _ _ => Nat.le_refl _, fun t ht => absurd ht (Nat.not_lt_zero _), rfl⟩
      refine ⟨(nI (p + 1), r), ⟨r, d', rfl, j1, j2, ?_⟩, ?_⟩
      · intro u t hu z
        by_cases eu : pcO a u = p
        · have : u = s := by rw [ds, ← eu]; exact (pcO_spec hW (W_e1 hW z)).2.symm
          rw [this] at z ⊢
          exact j4 t z
        · have := i3 u t (by omega) z
          have := j3 t (W_e24 hW z).2
          omega
      · intro k rc
        show f_X1_measureDownwards_b6 _ _ _ _ _ _ = _
        unfold f_X1_measureDownwards_b6
        dsimp only
        rw [if_neg (nle hp' (by omega)), chk_nI (by omega) (by decide), ix_nI (by omega), hC.2.1 p hp', ← ds]
        exact hj (fun x0_ x1_ => rc (x0_, x1_))) (0, l0) ⟨l0, fun _ => 0, rfl, f0, fun t _ => Nat.zero_le _, fun s t z => absurd z (Nat.not_lt_zero _)⟩
  exact ⟨r, h (), hr⟩
theorem c_up {n : ND} {a : AN} (hC : CN n a) (hW : WA a) (lon : Nat → Int32) : ∃ lon', f_X1_measureUpwards lon n.1 n.2.1 (nI (aS a)) = some lon' ∧ ∀ t, aAl a t = true → lon' t = nI (mx (aNr a) t) := by
  have hs := hW.1
  have hB := dn24 hW
  obtain ⟨l0, e0, f0⟩ := c_clear lon
  unfold f_X1_measureUpwards
  rw [e0, sbind]
  unfold f_X1_measureUpwards_l11
  obtain ⟨r, hr, h⟩ := loop_rel (body := fun (_ : Unit) rc (v : Int32 × (Nat → Int32)) => f_X1_measureUpwards_b11 n.1 n.2.1 (nI (aS a)) (fun x0_ x1_ => rc (x0_, x1_)) v.1 v.2) (fun _ (r : Nat → Int32) => some r) (fun r => ∀ t, aAl a t = true → r t = nI (mx (aNr a) t)) (aS a) 200 (fun p w => ∃ l d, w = (nI (aS a - p) - 1, l) ∧ FA l d ∧ (∀ t, aAl a t = true → aS a - p ≤ pcO a t → d t = mx (aNr a) t) ∧ (∀ t, t < 24 → (¬ aAl a t = true ∨ pcO a t < aS a - p) → d t = 0)) (by omega) (by
    rintro p w hp ⟨l, d, rfl, i1, i2, i3⟩
    by_cases e : p = aS a
    · left
      refine ⟨l, ?_, ?_⟩
      · intro t ht
        rw [i1 t (W_lt hW ht), i2 t ht (by omega)]
      · intro k rc
        show f_X1_measureUpwards_b11 _ _ _ _ _ _ = _
        unfold f_X1_measureUpwards_b11
        dsimp only
        rw [e, Nat.sub_self, if_pos nI_m0]
    · right
      have hp' : p < aS a := by omega
      refine ⟨hp', ?_⟩
      obtain ⟨q, hq⟩ : ∃ q, aS a - p = q + 1 := ⟨aS a - p - 1, by omega⟩
      have hq2 : aS a - (p + 1) = q := by omega
      have hqs : q < aS a := by omega
      rw [hq] at i2 i3
      have ho := W_o hW hqs
      have hal := W_al hW hqs
      obtain ⟨s, ds⟩ : ∃ s, s = aO a q := ⟨_, rfl⟩
      rw [← ds] at ho hal
      have hps : pcO a s = q := by rw [ds]; exact pcO_at hW hqs
      have ds0 : d s = 0 := i3 s ho (.inr (by omega))
      have m23 := mx_23 hB s
      obtain ⟨r, ⟨d', j1, j2, j3⟩, hj⟩ := loop_rel (body := fun (k11 : Int32 → (Nat → Int32) → Option (Nat → Int32)) rc (v : Int32 × Int32 × Int32 × (Nat → Int32)) => f_X1_measureUpwards_b25 n.1 n.2.1 (nI (aS a)) k11 (fun x0_ x1_ x2_ x3_ => rc (x0_, x1_, x2_, x3_)) v.1 v.2.1 v.2.2.1 v.2.2.2) (fun k11 (r : Nat → Int32) => k11 (nI q - 1) r) (fun r => ∃ d', FA r d' ∧ (∀ t, t < 24 → t ≠ s → d' t = d t) ∧ d' s = mx (aNr a) s) 24 200 (fun j w => ∃ l' d', w = (nI q, nI s, nI j, l') ∧ FA l' d' ∧ (∀ t, t < 24 → t ≠ s → d' t = d t) ∧ d' s ≤ mx (aNr a) s ∧ (∀ t, t < j → aNr a s t = true → mx (aNr a) t + 1 ≤ d' s)) (by decide) (by
        rintro j w hj ⟨l', d', rfl, k1, k2, k3, k4⟩
        by_cases e2 : j = 24
        · left
          refine ⟨l', ⟨d', k1, k2, ?_⟩, ?_⟩
          · rcases mx_0 hB s with z | ⟨u, z1, z2⟩
            · omega
            · have := k4 u (by have := (W_e24 hW z1).2; omega) z1
              omega
          · intro k rc
            show f_X1_measureUpwards_b25 _ _ _ _ _ _ _ _ _ = _
            unfold f_X1_measureUpwards_b25
            dsimp only
            rw [e2, if_pos y24, nI_p1]
        · right
          have hj' : j < 24 := by omega
          refine ⟨hj', ?_⟩
          by_cases c : aNr a s j = true
          · have hlt := pcO_lt hW c
            have hne : j ≠ s := by
              intro z
              rw [z] at hlt
              omega
            have dj : d' j = mx (aNr a) j := by
              rw [k2 j hj' hne]
              exact i2 j (W_e2 hW c) (by omega)
            have hle : mx (aNr a) j + 1 ≤ mx (aNr a) s := mx_e hB c
            refine ⟨_, ⟨upd l' s (nI (if d' s < d' j + 1 then d' j + 1 else d' s)), va_up d' s (if d' s < d' j + 1 then d' j + 1 else d' s), rfl, ?_, ?_, ?_, ?_⟩, ?_⟩
            · intro t ht
              unfold va_up
              by_cases et : t = s
              · rw [et, updN, if_pos rfl]
              · rw [updO et, if_neg et]; exact k1 t ht
            · intro t ht et
              unfold va_up
              rw [if_neg et]; exact k2 t ht et
            · unfold va_up
              rw [if_pos rfl]
              by_cases w : d' s < d' j + 1
              · rw [if_pos w]; omega
              · rw [if_neg w]; exact k3
            · intro t ht z
              unfold va_up
              rw [if_pos rfl]
              by_cases et : t = j
              · rw [et]
                by_cases w : d' s < d' j + 1
                · rw [if_pos w]; omega
                · rw [if_neg w]; omega
              · have := k4 t (by omega) z
                by_cases w : d' s < d' j + 1
                · rw [if_pos w]; omega
                · rw [if_neg w]; exact this
            · intro k rc
              show f_X1_measureUpwards_b25 _ _ _ _ _ _ _ _ _ = _
              unfold f_X1_measureUpwards_b25
              dsimp only
              rw [if_neg (n24 hj'), chk_nI ho (by decide), ix_nI (by omega), if_neg (by rw [c_linked hC ho hj', c]; decide), chk_nI ho (by decide), chk_nI hj' (by decide), chk_nI ho (by decide), ix_nI (by omega), k1 j hj', k1 s ho, nI_1, nI_1, jmax_nI (by omega) (by omega)]
          · refine ⟨_, ⟨l', d', rfl, k1, k2, k3, ?_⟩, ?_⟩
            · intro t ht z
              by_cases et : t = j
              · rw [et] at z; exact absurd z c
              · exact k4 t (by omega) z
            · intro k rc
              show f_X1_measureUpwards_b25 _ _ _ _ _ _ _ _ _ = _
              unfold f_X1_measureUpwards_b25
              dsimp only
              rw [if_neg (n24 hj'), chk_nI ho (by decide), ix_nI (by omega), if_pos ((c_linked hC ho hj').mpr (Bool.eq_false_iff.mpr c)), nI_1]) (nI q, nI s, 0, l) ⟨l, d, rfl, i1, fun _ _ _ => rfl, by omega, fun t ht => absurd ht (Nat.not_lt_zero _)⟩
      refine ⟨(nI q - 1, r), ⟨r, d', by rw [hq2], j1, ?_, ?_⟩, ?_⟩
      · intro t ht hpt
        by_cases et : t = s
        · rw [et]; exact j3
        · rw [j2 t (W_lt hW ht) et]
          refine i2 t ht ?_
          have : pcO a t ≠ q := by
            intro z
            apply et
            rw [ds, ← z]
            exact (pcO_spec hW ht).2.symm
          omega
      · intro t ht hpt
        have et : t ≠ s := by
          intro z
          rcases hpt with w | w
          · exact w (by rw [z]; exact hal)
          · rw [z] at w; omega
        rw [j2 t ht et]
        exact i3 t ht (hpt.imp id (fun w => by omega))
      · intro k rc
        show f_X1_measureUpwards_b11 _ _ _ _ _ _ = _
        unfold f_X1_measureUpwards_b11
        dsimp only
        rw [hq, nI_m1, if_neg (neg_lt (by omega)), chk_nI (by omega) (by decide), ix_nI (by omega), hC.2.1 q hqs, ← ds]
        exact hj (fun x0_ x1_ => rc (x0_, x1_))) (nI (aS a) - 1, l0) ⟨l0, fun _ => 0, rfl, f0, fun t ht z => absurd (pcO_spec hW ht).1 (by omega), fun t _ _ => rfl⟩
  exact ⟨r, h (), hr⟩
theorem inv_18 (x_words : Nat → Int32) (x_wordCount : Int32) (x_size : Int32) (x_signs : Nat → Int32) (x_next : Int32) (g_longest : Nat → Int32) (g_many : Nat → Int64) (g_layers : Nat → Int32) (g_length : Int32) (g_aheadOf : Nat → Int32) (g_cameFrom : Nat → Int32) (g_queue : Nat → Int32) (r_numbers : Nat → Int64) (r_size : Int32) (p_size : Int32) (t_filled : Nat → Int32) (nd : Nat → ND) (m_thrown : Int32) (m_told : Int32) (m_row : Nat → Int64) (m_tape : Nat → Int32) (m_taped : Int32) (m_at : Int32) (m_to : Int32) (m_mem : Nat → Int32) (m_undos : Int32) (m_places : Nat → Int32) (m_movers : Nat → Int32) (m_far : Nat → Int32) (m_way : Nat → Int32) (m_wayMany : Int32) (m_fromOf : Nat → Int32) (m_toOf : Nat → Int32) (m_longest : Nat → Int32) (m_wayCount : Nat → Int64) (m_thin : Nat → Int32) (m_ahead : Nat → Int32) (m_tried : Int32) (m_foundLow : Int32) (m_foundHigh : Int32) (m_nextLow : Int32) (m_nextHigh : Int32) (m_act : Nat → Int32) (m_first : Nat → Int32) (m_second : Nat → Int32) (m_random : Int32) (m_isKept : Nat → Int32) (x y : Int32) (h : Inv x_words x_wordCount x_size x_signs x_next g_longest g_many g_layers g_length g_aheadOf g_cameFrom g_queue r_numbers r_size p_size t_filled nd m_thrown m_told m_row m_tape m_taped m_at m_to m_mem m_undos m_places m_movers m_far m_way m_wayMany m_fromOf m_toOf m_longest m_wayCount m_thin m_ahead m_tried m_foundLow m_foundHigh m_nextLow m_nextHigh m_act m_first m_second m_random m_isKept) : S_18 Inv x_words x_wordCount x_size x_signs x_next g_longest g_many g_layers g_length g_aheadOf g_cameFrom g_queue r_numbers r_size p_size t_filled nd m_thrown m_told m_row m_tape m_taped m_at m_to m_mem m_undos m_places m_movers m_far m_way m_wayMany m_fromOf m_toOf m_longest m_wayCount m_thin m_ahead m_tried m_foundLow m_foundHigh m_nextLow m_nextHigh m_act m_first m_second m_random m_isKept x y := by
  obtain ⟨⟨a, hC, hM, hW⟩, hP, hK, hR, hT⟩ := h
  unfold S_18 f_X6_depth f_X7_depth
  by_cases hx : isT a x
  · obtain ⟨t, rfl, lt, ht⟩ := hx
    obtain ⟨l1, e1, f1⟩ := c_up hC hW g_longest
    obtain ⟨l2, e2, f2⟩ := c_down hC hW l1
    rw [← hC.2.2.2.2.2.2.1] at e1 e2
    rw [C_has1 hC lt ht, if_neg one0, m_isTerm1 hM lt ht, sbind, if_neg one0, e1, sbind, chk_nI lt (by decide), ix_nI (by omega), f1 t ht, c_tell, sbind, e2, sbind, chk_nI lt (by decide), f2 t lt, m_deepD hM hW lt, sbind, m_tell, sbind, m_deepU hM hW lt, sbind]
    exact ⟨_, rfl, _, rfl, rfl, ⟨a, hC, hM, hW⟩, hP, hK, Rw1 _ _ _, hT⟩
  · rw [C_has0 hC hx, if_pos rfl, m_isTerm0 hM hx, sbind, if_pos rfl]
    exact ⟨_, rfl, _, rfl, rfl, ⟨a, hC, hM, hW⟩, hP, hK, hR, hT⟩
