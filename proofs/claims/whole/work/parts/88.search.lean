/-! PURE 88: search -/
theorem c_itrows (sg a1 a2 : Nat → Int32) (a3 : Nat → Int64) (a4 a5 : Nat → Int32) (a6 a7 a8 : Int32) (P : Nat → Bool) (w : Nat → Int32) (wc xs nx : Int32) (rn : Nat → Int64) : f_X6_search_l83 sg a1 a2 a3 a4 a5 a6 a7 a8 (lset P 40) 0 w wc xs nx rn 0 = some (nI (rwf P (fun k => (nI k).toInt64) rn 40).2, w, wc, xs, nx, (rwf P (fun k => (nI k).toInt64) rn 40).1, nI (rwf P (fun k => (nI k).toInt64) rn 40).2) := by
  unfold f_X6_search_l83
  refine loop_go (fun j => (lset P 40, nI j, w, wc, xs, nx, (rwf P (fun k => (nI k).toInt64) rn j).1, nI (rwf P (fun k => (nI k).toInt64) rn j).2)) 40 200 (by decide) rfl ?_ ?_
  · intro j hj rc
    show f_X6_search_b83 _ _ _ _ _ _ _ _ _ _ _ _ _ _ _ _ _ _ = _
    unfold f_X6_search_b83
    dsimp only
    have hl := rwf_le P (fun k => (nI k).toInt64) rn j
    rw [if_neg (show ¬ (40 : Int32) ≤ nI j by rw [show (40 : Int32) = nI 40 from rfl, nI_leI (by decide) (by omega)]; omega), nI_1, c_add (by omega), rwf_s]
    have eb : bl (lset P 40) j = P j := by rw [bl_lset _ (by omega), decide_eq_true hj, Bool.true_and]
    by_cases h : P j = true
    · rw [if_neg (by rw [lbit (by omega), eb, h]; decide), sbind, if_pos h]
    · rw [if_pos (by rw [lbit (by omega), eb]; exact Bool.eq_false_iff.mpr h), if_neg h]
  · intro rc
    show f_X6_search_b83 _ _ _ _ _ _ _ _ _ _ _ _ _ _ _ _ _ _ = _
    unfold f_X6_search_b83
    dsimp only
    rw [if_pos (by decide)]
theorem m_itrows (tp mem : Nat → Int32) (P : Nat → Bool) (th ta ma mt x y : Int32) (rn : Nat → Int64) : f_X7_search_l92 tp mem 0 th 0 rn ta ma mt (bset P 20) (bset (fun k => P (k + 20)) 20) x y = some (nI (rwf P (fun k => (nI k).toInt64) rn 40).2, th, nI (rwf P (fun k => (nI k).toInt64) rn 40).2, (rwf P (fun k => (nI k).toInt64) rn 40).1, ta, ma, mt, bset P 20, bset (fun k => P (k + 20)) 20, x, y) := by
  unfold f_X7_search_l92
  refine loop_go (fun j => (nI j, th, nI (rwf P (fun k => (nI k).toInt64) rn j).2, (rwf P (fun k => (nI k).toInt64) rn j).1, ta, ma, mt, bset P 20, bset (fun k => P (k + 20)) 20, x, y)) 40 200 (by decide) rfl ?_ ?_
  · intro j hj rc
    show f_X7_search_b92 _ _ _ _ _ _ _ _ _ _ _ _ _ _ = _
    unfold f_X7_search_b92 f_X7_search_b115
    dsimp only
    have hl := rwf_le P (fun k => (nI k).toInt64) rn j
    rw [if_neg (show ¬ (40 : Int32) ≤ nI j by rw [show (40 : Int32) = nI 40 from rfl, nI_leI (by decide) (by omega)]; omega), nI_1, m_enters (by omega), rwf_s, jrem20 hj, sbind]
    have key : (if 20 ≤ nI j then f_X7_has (bset (fun k => P (k + 20)) 20) (nI (j % 20)) else f_X7_has (bset P 20) (nI (j % 20))) = if P j then 1 else 0 := by
      by_cases h2 : 20 ≤ j
      · rw [if_pos (show (20 : Int32) ≤ nI j by rw [show (20 : Int32) = nI 20 from rfl, nI_leI (by decide) (by omega)]; exact h2), has_eq (by omega), bt_bset _ (by omega), show j % 20 + 20 = j by omega]
        simp [show j % 20 < 20 by omega]
      · rw [if_neg (show ¬ (20 : Int32) ≤ nI j by rw [show (20 : Int32) = nI 20 from rfl, nI_leI (by decide) (by omega)]; exact h2), has_eq (by omega), bt_bset _ (by omega), show j % 20 = j by omega]
        simp [show j < 20 by omega]
    by_cases h2 : (20 : Int32) ≤ nI j
    · rw [if_pos h2] at key ⊢
      rw [key]
      by_cases h : P j = true
      · rw [if_pos h, if_neg one0, if_pos h]
      · rw [if_neg h, if_pos rfl, if_neg h]
    · rw [if_neg h2] at key ⊢
      rw [key]
      by_cases h : P j = true
      · rw [if_pos h, if_neg one0, if_pos h]
      · rw [if_neg h, if_pos rfl, if_neg h]
  · intro rc
    show f_X7_search_b92 _ _ _ _ _ _ _ _ _ _ _ _ _ _ = _
    unfold f_X7_search_b92
    dsimp only
    rw [if_pos (by decide)]
def hnat (v : Int32) : Nat := if v = 0 then 0 else if v = 1 then 1 else 2
theorem hnat_nI {h : Nat} (hh : h < 3) : hnat (nI h) = h := by
  obtain rfl | rfl | rfl : h = 0 ∨ h = 1 ∨ h = 2 := by omega
  all_goals decide
theorem hnat_lt (v : Int32) : hnat v < 3 := by
  unfold hnat
  by_cases h : v = 0
  · rw [if_pos h]; omega
  · rw [if_neg h]
    by_cases h : v = 1
    · rw [if_pos h]; omega
    · rw [if_neg h]; omega
theorem srch {n : ND} {a : AN} {mem : Nat → Int32} (hC : CN n a) (hM : MN mem 0 a) (hW : WA a) {s tp : Nat → Int32} {z : Nat} (hz : z ≤ 80) (hs : ∀ i, i < z → s i = tp i) (w : Nat → Int32) (wc nx : Int32) (told : Int32) (row : Nat → Int64) (x y : Int32) : (∃ w' wc' q fl fh nlo nhi, f_X5_readSearch w wc (nI z) s nx n.2.2.2.1 n.2.2.2.2.1 n.2.2.2.2.2.2.2.2 = some (0, w', wc', nI q) ∧ f_X7_search_l23 told row tp mem 0 1 0 0 0 (nI z) 0 0 x y = some (-1 - nI q, 0, told, row, 0, nI q, nI z, fl, fh, nlo, nhi)) ∨ (∃ w' q k P nlo nhi, f_X5_readSearch w wc (nI z) s nx n.2.2.2.1 n.2.2.2.2.1 n.2.2.2.2.2.2.2.2 = some (1, w', nI k, nI q) ∧ (∀ sg rn rs, f_X6_search_l36 sg n.1 n.2.1 n.2.2.1 n.2.2.2.1 n.2.2.2.2.1 n.2.2.2.2.2.2.1 n.2.2.2.2.2.2.2.1 n.2.2.2.2.2.2.2.2 rn rs 0 0 w' (nI k) 0 (nI q) = f_X6_search_l83 sg n.1 n.2.1 n.2.2.1 n.2.2.2.1 n.2.2.2.2.1 n.2.2.2.2.2.2.1 n.2.2.2.2.2.2.2.1 n.2.2.2.2.2.2.2.2 (lset P 40) 0 w' (nI k) 0 (nI q) rn 0) ∧ f_X7_search_l23 told row tp mem 0 1 0 0 0 (nI z) 0 0 x y = f_X7_search_l92 tp mem 0 0 0 row 0 (nI q) (nI z) (bset P 20) (bset (fun k => P (k + 20)) 20) nlo nhi) := by
  obtain ⟨R, G, hRG⟩ := rt_all hC hM hW hz hs
  have hT : ∃ T : Nat → Nat, ∀ p, p ≤ z → R p ≠ -1 → R p = nI (T p) ∧ aAl a (T p) = true := by
    have h : ∀ p, ∃ t, p ≤ z → R p ≠ -1 → R p = nI t ∧ aAl a t = true := by
      intro p
      by_cases hp : p ≤ z
      · rcases (hRG p hp).2.2.2.2 with h | ⟨_, t, h1, h2⟩
        · exact ⟨0, fun _ q => absurd h q⟩
        · exact ⟨t, fun _ _ => ⟨h1, h2⟩⟩
      · exact ⟨0, fun q => absurd q hp⟩
    exact ⟨fun p => Classical.choose (h p), fun p => Classical.choose_spec (h p)⟩
  obtain ⟨T, hT⟩ := hT
  obtain ⟨sf, dsf⟩ : ∃ sf : Nat → Bool, sf = fun p => hr tp z (G p) 42 := ⟨_, rfl⟩
  obtain ⟨q2, dq2⟩ : ∃ q2 : Nat → Nat, q2 = fun p => if hr tp z (G p) 42 then G p + 1 else G p := ⟨_, rfl⟩
  obtain ⟨ps, dps⟩ : ∃ ps : Nat → Nat, ps = fun j => itr (fun _ p => q2 p + 1) 0 j := ⟨_, rfl⟩
  have ps0 : ps 0 = 0 := by rw [dps]; rfl
  have pss : ∀ j, ps (j + 1) = q2 (ps j) + 1 := by intro j; rw [dps]; rfl
  obtain ⟨hw, dhw⟩ : ∃ hw : Nat → Nat, hw = fun j => if j = 0 then 0 else hnat (hv tp z (q2 (ps (j - 1)))) := ⟨_, rfl⟩
  have hw0 : hw 0 = 0 := by rw [dhw]; exact if_pos rfl
  have hws : ∀ j, hw (j + 1) = hnat (hv tp z (q2 (ps j))) := by
    intro j; rw [dhw]
    show (if j + 1 = 0 then 0 else hnat (hv tp z (q2 (ps (j + 1 - 1))))) = _
    rw [if_neg (by omega), Nat.add_sub_cancel]
  have hw3 : ∀ j, hw j < 3 := by
    intro j
    cases j with
    | zero => rw [hw0]; omega
    | succ j => rw [hws]; exact hnat_lt _
  obtain ⟨N, dN⟩ : ∃ N : Nat → Nat → Bool, N = fun p => Nx a (T p) (sf p) := ⟨_, rfl⟩
  obtain ⟨Fd, dFd⟩ : ∃ Fd : Nat → Nat → Bool, Fd = fun j => itr (fun j P => jn (hw j) P (N (ps j))) (fun _ => false) j := ⟨_, rfl⟩
  have Fd0 : Fd 0 = fun _ => false := by rw [dFd]; rfl
  have Fds : ∀ j, Fd (j + 1) = jn (hw j) (Fd j) (N (ps j)) := by intro j; rw [dFd]; rfl
  obtain ⟨nL, dnL⟩ : ∃ nL : Nat → Int32, nL = fun j => if j = 0 then x else bset (N (ps (j - 1))) 20 := ⟨_, rfl⟩
  obtain ⟨nH, dnH⟩ : ∃ nH : Nat → Int32, nH = fun j => if j = 0 then y else bset (fun k => N (ps (j - 1)) (k + 20)) 20 := ⟨_, rfl⟩
  have nL0 : nL 0 = x := by rw [dnL]; exact if_pos rfl
  have nH0 : nH 0 = y := by rw [dnH]; exact if_pos rfl
  have nLs : ∀ j, nL (j + 1) = bset (N (ps j)) 20 := by
    intro j; rw [dnL]
    show (if j + 1 = 0 then x else bset (N (ps (j + 1 - 1))) 20) = _
    rw [if_neg (by omega), Nat.add_sub_cancel]
  have nHs : ∀ j, nH (j + 1) = bset (fun k => N (ps j) (k + 20)) 20 := by
    intro j; rw [dnH]
    show (if j + 1 = 0 then y else bset (fun k => N (ps (j + 1 - 1)) (k + 20)) 20) = _
    rw [if_neg (by omega), Nat.add_sub_cancel]
  obtain ⟨vw, dvw⟩ : ∃ vw : Nat → Int32, vw = fun j => nI (1000 * sI (sf (ps j)) + 100 * hw j + T (ps j)) := ⟨_, rfl⟩
  have q2b : ∀ p, p ≤ z → R p ≠ -1 → p < q2 p ∧ q2 p ≤ z := by
    intro p hp h
    have g := hRG p hp
    rcases g.2.2.2.2 with e | ⟨e, _⟩
    · exact absurd e h
    · rw [dq2]
      show p < (if _ then _ else _) ∧ (if _ then _ else _) ≤ z
      by_cases c : hr tp z (G p) 42 = true
      · have := hr_lt c
        rw [if_pos c]; omega
      · rw [if_neg c]; omega
  obtain ⟨go, dgo⟩ : ∃ go : Nat → Prop, go = fun j => R (ps j) ≠ -1 ∧ hv tp z (q2 (ps j)) ≠ -1 := ⟨_, rfl⟩
  have psB : ∀ j, (∀ i, i < j → go i) → ps j ≤ z ∧ 2 * j ≤ ps j := by
    intro j
    induction j with
    | zero => intro _; rw [ps0]; omega
    | succ j ih =>
      intro h
      have i1 := ih (fun i hi => h i (by omega))
      have hj := h j (by omega)
      rw [dgo] at hj
      have b := q2b (ps j) i1.1 hj.1
      rcases hv_cases tp z (q2 (ps j)) with c | c
      · exact absurd c.1 hj.2
      · rw [pss]; omega
  have hex : ∃ J, ¬ go J ∧ ∀ i, i < J → go i := by
    have h1 : ∃ j, ¬ go j := by
      refine Classical.byContradiction fun q => ?_
      have := psB 41 (fun i _ => Classical.byContradiction fun w => q ⟨i, w⟩)
      omega
    obtain ⟨j, hj⟩ := h1
    obtain ⟨J, q1, q2⟩ := lst_ex (Q := fun j => ¬ go j) j hj
    exact ⟨J, q1, fun i hi => Classical.byContradiction (q2 i hi)⟩
  obtain ⟨J, hJ, hlt⟩ := hex
  have bJ := psB J hlt
  have hJ40 : J ≤ 40 := by omega
  have c80 : ∀ j, j ≤ 40 → ¬ (80 : Int32) ≤ nI j := by
    intro j hj
    rw [show (80 : Int32) = nI 80 from rfl, nI_leI (by decide) (by omega)]
    omega
  have stepC : ∀ j, j ≤ 40 → ps j ≤ z → R (ps j) ≠ -1 → ∀ (k8 : Int32 → Int32 → (Nat → Int32) → Int32 → Int32 → Option (Int32 × (Nat → Int32) × Int32 × Int32)), f_X5_readSearch_b8 (nI z) s n.2.2.2.1 n.2.2.2.2.1 n.2.2.2.2.2.2.2.2 k8 (nI (hw j)) (nI j) (wdP vw w j) (nI j) (nI (ps j)) = (if q2 (ps j) = z then some (1, wdP vw w (j + 1), nI (j + 1), nI (q2 (ps j))) else if hv tp z (q2 (ps j)) = -1 then some (0, wdP vw w (j + 1), nI (j + 1), nI (q2 (ps j))) else k8 (nI (hw (j + 1))) (nI (j + 1)) (wdP vw w (j + 1)) (nI (j + 1)) (nI (ps (j + 1)))) := by
    intro j hj hpj hR k8
    have g := hRG (ps j) hpj
    have b := q2b (ps j) hpj hR
    obtain ⟨t1, t2⟩ := hT (ps j) hpj hR
    have lt := W_lt hW t2
    have B : ∀ s0 : Int32, s0 = nI (sI (sf (ps j))) → f_X5_readSearch_b42 (nI z) s n.2.2.2.1 n.2.2.2.2.1 n.2.2.2.2.2.2.2.2 k8 (nI (hw j)) (nI j) (R (ps j)) s0 (wdP vw w j) (nI j) (nI (q2 (ps j))) = (if q2 (ps j) = z then some (1, wdP vw w (j + 1), nI (j + 1), nI (q2 (ps j))) else if hv tp z (q2 (ps j)) = -1 then some (0, wdP vw w (j + 1), nI (j + 1), nI (q2 (ps j))) else k8 (nI (hw (j + 1))) (nI (j + 1)) (wdP vw w (j + 1)) (nI (j + 1)) (nI (ps (j + 1)))) := by
      intro s0 e0
      unfold f_X5_readSearch_b42
      rw [e0, t1, show (1000 : Int32) = nI 1000 from rfl, show (100 : Int32) = nI 100 from rfl, nI_mul, nI_mul, nI_add, nI_add, c_addWord (by omega), sbind, show nI (1000 * sI (sf (ps j)) + 100 * hw j + T (ps j)) = vw j by rw [dvw], ← wdP_s]
      by_cases ez : q2 (ps j) = z
      · rw [if_pos (by rw [ez]), if_pos ez]
      · rw [if_neg (fun q => ez ((nI_eq (by omega) (by omega)).mp q)), if_neg ez, c_readHow hz hs b.2, sbind]
        dsimp only
        rcases hv_cases tp z (q2 (ps j)) with ⟨c1, c2⟩ | ⟨c1, c2, h, c3, c4⟩
        · rw [c1, c2, if_neg (show ¬ (0 : Int32) ≤ -1 by decide), if_pos rfl]
        · have n1 : ¬ hv tp z (q2 (ps j)) = -1 := by
            rw [c4]
            exact fun q => neg_lt (show h < 2147483648 by omega) (by rw [q]; decide)
          rw [if_pos (show 0 ≤ hv tp z (q2 (ps j)) by rw [c4]; exact i_nlt.mp (neg_lt (by omega))), if_neg n1, c2, hws, c4, hnat_nI c3, pss, nI_1]
    unfold f_X5_readSearch_b8
    rw [if_neg (c80 j hj), g.2.2.1, sbind]
    dsimp only
    rw [if_pos (show 0 ≤ R (ps j) by rw [t1]; exact i_nlt.mp (neg_lt (by omega))), c_passes hz hs g.2.1 42, sbind]
    dsimp only
    rw [show (if hr tp z (G (ps j)) 42 then G (ps j) + 1 else G (ps j)) = q2 (ps j) by rw [dq2]]
    by_cases c : hr tp z (G (ps j)) 42 = true
    · rw [if_pos c, if_neg one0]
      exact B 1 (by rw [dsf]; show (1 : Int32) = nI (sI (hr tp z (G (ps j)) 42)); rw [c]; rfl)
    · rw [if_neg c, if_pos rfl]
      exact B 0 (by rw [dsf]; show (0 : Int32) = nI (sI (hr tp z (G (ps j)) 42)); rw [Bool.eq_false_iff.mpr c]; rfl)
  have stepM : ∀ j, j ≤ 40 → ps j ≤ z → R (ps j) ≠ -1 → ∀ (k23 : Int32 → Int32 → Int32 → Int32 → Int32 → Int32 → Int32 → Int32 → Int32 → Int32 → Option (Int32 × Int32 × Int32 × (Nat → Int64) × Int32 × Int32 × Int32 × Int32 × Int32 × Int32 × Int32)), f_X7_search_b23 told row tp mem k23 (nI (hw j)) 1 0 0 (nI (ps j)) (nI z) (bset (Fd j) 20) (bset (fun k => Fd j (k + 20)) 20) (nL j) (nH j) = k23 (hv tp z (q2 (ps j))) (if hv tp z (q2 (ps j)) = -1 then 0 else 1) 0 0 (nI (hq1 tp z (q2 (ps j)))) (nI z) (bset (Fd (j + 1)) 20) (bset (fun k => Fd (j + 1) (k + 20)) 20) (nL (j + 1)) (nH (j + 1)) := by
    intro j hj hpj hR k23
    have g := hRG (ps j) hpj
    have b := q2b (ps j) hpj hR
    obtain ⟨t1, t2⟩ := hT (ps j) hpj hR
    have lt := W_lt hW t2
    have eN : f_X7_readsNext tp (nI (ps j)) (nI z) mem (nL j) (nH j) = some (1, nI (q2 (ps j)), nL (j + 1), nH (j + 1)) := by
      unfold f_X7_readsNext
      rw [g.2.2.2.1, sbind]
      dsimp only
      rw [if_pos (show 0 ≤ R (ps j) by rw [t1]; exact i_nlt.mp (neg_lt (by omega))), m_takes1 hz g.2.1 42, sbind]
      dsimp only
      rw [t1, m_laysNext hM hW lt, sbind, nLs, nHs, dN, dsf, dq2]
    unfold f_X7_search_b23
    rw [if_neg one0, eN, sbind]
    dsimp only
    rw [if_neg one0, m_takesHow hz b.2, sbind]
    dsimp only
    rw [nLs, nHs, m_joins _ _ (hw3 j), ← Fds]
    dsimp only
    rcases hv_cases tp z (q2 (ps j)) with ⟨c1, c2⟩ | ⟨c1, c2, h, c3, c4⟩
    · rw [if_pos (show hv tp z (q2 (ps j)) < 0 by rw [c1]; decide), if_pos c1]
    · have n1 : ¬ hv tp z (q2 (ps j)) = -1 := by
        rw [c4]
        exact fun q => neg_lt (show h < 2147483648 by omega) (by rw [q]; decide)
      rw [if_neg (show ¬ hv tp z (q2 (ps j)) < 0 by rw [c4]; exact neg_lt (by omega)), if_neg n1]
  have startC : f_X5_readSearch w wc (nI z) s nx n.2.2.2.1 n.2.2.2.2.1 n.2.2.2.2.2.2.2.2 = loopN (V := Int32 × Int32 × (Nat → Int32) × Int32 × Int32) (fun rc v => f_X5_readSearch_b8 (nI z) s n.2.2.2.1 n.2.2.2.2.1 n.2.2.2.2.2.2.2.2 (fun x0_ x1_ x2_ x3_ x4_ => rc (x0_, x1_, x2_, x3_, x4_)) v.1 v.2.1 v.2.2.1 v.2.2.2.1 v.2.2.2.2) 200 (nI (hw 0), nI 0, wdP vw w 0, nI 0, nI (ps 0)) := by
    rw [hw0, ps0]
    rfl
  have b0 : bset (fun _ => false) 20 = 0 := by decide
  have startM : f_X7_search_l23 told row tp mem 0 1 0 0 0 (nI z) 0 0 x y = loopN (V := Int32 × Int32 × Int32 × Int32 × Int32 × Int32 × Int32 × Int32 × Int32 × Int32) (fun rc v => f_X7_search_b23 told row tp mem (fun x0_ x1_ x2_ x3_ x4_ x5_ x6_ x7_ x8_ x9_ => rc (x0_, x1_, x2_, x3_, x4_, x5_, x6_, x7_, x8_, x9_)) v.1 v.2.1 v.2.2.1 v.2.2.2.1 v.2.2.2.2.1 v.2.2.2.2.2.1 v.2.2.2.2.2.2.1 v.2.2.2.2.2.2.2.1 v.2.2.2.2.2.2.2.2.1 v.2.2.2.2.2.2.2.2.2) 200 (nI (hw 0), 1, 0, 0, nI (ps 0), nI z, bset (Fd 0) 20, bset (fun k => Fd 0 (k + 20)) 20, nL 0, nH 0) := by
    rw [hw0, ps0, Fd0, nL0, nH0, b0]
    rfl
  have goC : ∀ j, j < J → ∀ rc : Int32 × Int32 × (Nat → Int32) × Int32 × Int32 → Option (Int32 × (Nat → Int32) × Int32 × Int32), f_X5_readSearch_b8 (nI z) s n.2.2.2.1 n.2.2.2.2.1 n.2.2.2.2.2.2.2.2 (fun x0_ x1_ x2_ x3_ x4_ => rc (x0_, x1_, x2_, x3_, x4_)) (nI (hw j)) (nI j) (wdP vw w j) (nI j) (nI (ps j)) = rc (nI (hw (j + 1)), nI (j + 1), wdP vw w (j + 1), nI (j + 1), nI (ps (j + 1))) := by
    intro j hj rc
    have g := hlt j hj
    rw [dgo] at g
    have bj := psB j (fun i hi => hlt i (by omega))
    rcases hv_cases tp z (q2 (ps j)) with c | c
    · exact absurd c.1 g.2
    · rw [stepC j (by omega) bj.1 g.1, if_neg (by omega), if_neg g.2]
  have goM : ∀ j, j < J → ∀ rc : Int32 × Int32 × Int32 × Int32 × Int32 × Int32 × Int32 × Int32 × Int32 × Int32 → Option (Int32 × Int32 × Int32 × (Nat → Int64) × Int32 × Int32 × Int32 × Int32 × Int32 × Int32 × Int32), f_X7_search_b23 told row tp mem (fun x0_ x1_ x2_ x3_ x4_ x5_ x6_ x7_ x8_ x9_ => rc (x0_, x1_, x2_, x3_, x4_, x5_, x6_, x7_, x8_, x9_)) (nI (hw j)) 1 0 0 (nI (ps j)) (nI z) (bset (Fd j) 20) (bset (fun k => Fd j (k + 20)) 20) (nL j) (nH j) = rc (nI (hw (j + 1)), 1, 0, 0, nI (ps (j + 1)), nI z, bset (Fd (j + 1)) 20, bset (fun k => Fd (j + 1) (k + 20)) 20, nL (j + 1), nH (j + 1)) := by
    intro j hj rc
    have g := hlt j hj
    rw [dgo] at g
    have bj := psB j (fun i hi => hlt i (by omega))
    rcases hv_cases tp z (q2 (ps j)) with c | ⟨c1, c2, h, c3, c4⟩
    · exact absurd c.1 g.2
    · rw [stepM j (by omega) bj.1 g.1, if_neg g.2, hws, c2, pss, c4, hnat_nI c3]
  by_cases hR : R (ps J) = -1
  · left
    have g := hRG (ps J) bJ.1
    refine ⟨wdP vw w J, nI J, G (ps J), bset (Fd J) 20, bset (fun k => Fd J (k + 20)) 20, nL J, nH J, ?_, ?_⟩
    · rw [startC]
      refine loop_go (fun j => (nI (hw j), nI j, wdP vw w j, nI j, nI (ps j))) J 200 (by omega) rfl goC ?_
      intro rc
      show f_X5_readSearch_b8 _ _ _ _ _ _ _ _ _ _ _ = _
      unfold f_X5_readSearch_b8
      dsimp only
      rw [if_neg (c80 J hJ40), g.2.2.1, sbind]
      dsimp only
      rw [if_neg (show ¬ 0 ≤ R (ps J) by rw [hR]; decide)]
    · rw [startM]
      refine loop_go (fun j => (nI (hw j), 1, 0, 0, nI (ps j), nI z, bset (Fd j) 20, bset (fun k => Fd j (k + 20)) 20, nL j, nH j)) J 200 (by omega) rfl goM ?_
      intro rc
      show f_X7_search_b23 _ _ _ _ _ _ _ _ _ _ _ _ _ _ _ = _
      unfold f_X7_search_b23 f_X7_readsNext
      dsimp only
      rw [if_neg one0, g.2.2.2.1, sbind]
      dsimp only
      rw [if_neg (show ¬ 0 ≤ R (ps J) by rw [hR]; decide), sbind]
      dsimp only
      rw [if_pos rfl]
  · have hh : hv tp z (q2 (ps J)) = -1 := Classical.byContradiction fun q => hJ (by rw [dgo]; exact ⟨hR, q⟩)
    have b := q2b (ps J) bJ.1 hR
    have hq : hq1 tp z (q2 (ps J)) = q2 (ps J) := by unfold hq1; exact if_pos hh
    have M : ∀ res, (∀ rc : Int32 × Int32 × Int32 × Int32 × Int32 × Int32 × Int32 × Int32 × Int32 × Int32 → Option (Int32 × Int32 × Int32 × (Nat → Int64) × Int32 × Int32 × Int32 × Int32 × Int32 × Int32 × Int32), f_X7_search_b23 told row tp mem (fun x0_ x1_ x2_ x3_ x4_ x5_ x6_ x7_ x8_ x9_ => rc (x0_, x1_, x2_, x3_, x4_, x5_, x6_, x7_, x8_, x9_)) (-1) 0 0 0 (nI (q2 (ps J))) (nI z) (bset (Fd (J + 1)) 20) (bset (fun k => Fd (J + 1) (k + 20)) 20) (nL (J + 1)) (nH (J + 1)) = res) → f_X7_search_l23 told row tp mem 0 1 0 0 0 (nI z) 0 0 x y = res := by
      intro res hres
      rw [startM]
      refine loop_go (fun j => if j ≤ J then (nI (hw j), 1, 0, 0, nI (ps j), nI z, bset (Fd j) 20, bset (fun k => Fd j (k + 20)) 20, nL j, nH j) else (-1, 0, 0, 0, nI (q2 (ps J)), nI z, bset (Fd (J + 1)) 20, bset (fun k => Fd (J + 1) (k + 20)) 20, nL (J + 1), nH (J + 1))) (J + 1) 200 (by omega) (by rw [if_pos (Nat.zero_le _)]) ?_ ?_
      · intro j hj rc
        by_cases ej : j = J
        · subst ej
          rw [if_pos (Nat.le_refl j), if_neg (by omega)]
          show f_X7_search_b23 _ _ _ _ _ _ _ _ _ _ _ _ _ _ _ = _
          dsimp only
          rw [stepM j hJ40 bJ.1 hR, if_pos hh, hh, hq]
        · rw [if_pos (by omega), if_pos (by omega)]
          exact goM j (by omega) rc
      · intro rc
        rw [if_neg (by omega)]
        exact hres rc
    by_cases ez : q2 (ps J) = z
    · right
      refine ⟨wdP vw w (J + 1), q2 (ps J), J + 1, Fd (J + 1), nL (J + 1), nH (J + 1), ?_, ?_, ?_⟩
      · rw [startC]
        refine loop_go (fun j => (nI (hw j), nI j, wdP vw w j, nI j, nI (ps j))) J 200 (by omega) rfl goC ?_
        intro rc
        show f_X5_readSearch_b8 _ _ _ _ _ _ _ _ _ _ _ = _
        dsimp only
        rw [stepC J hJ40 bJ.1 hR, if_pos ez]
      · intro sg rn rs
        unfold f_X6_search_l36
        refine loop_go (fun j => (lset (Fd j) 40, nI j, wdP vw w (J + 1), nI (J + 1), 0, nI (q2 (ps J)))) (J + 1) 200 (by omega) (by rw [Fd0]; rfl) ?_ ?_
        · intro j hj rc
          show f_X6_search_b36 _ _ _ _ _ _ _ _ _ _ _ _ _ _ _ _ _ _ = _
          unfold f_X6_search_b36
          dsimp only
          have bj := psB j (fun i hi => hlt i (by omega))
          have hRj : R (ps j) ≠ -1 := by
            by_cases ej : j = J
            · rw [ej]; exact hR
            · have := hlt j (by omega)
              rw [dgo] at this
              exact this.1
          obtain ⟨t1, t2⟩ := hT (ps j) bj.1 hRj
          rw [if_neg (nle hj (by omega)), chk_nI (show j < 80 by omega) (by decide), ix_nI (by omega), wdP_at _ _ hj, dvw, c_searchOn hC hW t2 _ (hw3 j), sbind, Fds, dN, nI_1]
        · intro rc
          show f_X6_search_b36 _ _ _ _ _ _ _ _ _ _ _ _ _ _ _ _ _ _ = _
          unfold f_X6_search_b36
          dsimp only
          rw [if_pos (yle _ (by omega))]
          rfl
      · apply M
        intro rc
        unfold f_X7_search_b23
        rw [if_pos rfl, if_pos (by rw [ez]; exact yle _ (by omega))]
    · left
      refine ⟨wdP vw w (J + 1), nI (J + 1), q2 (ps J), bset (Fd (J + 1)) 20, bset (fun k => Fd (J + 1) (k + 20)) 20, nL (J + 1), nH (J + 1), ?_, ?_⟩
      · rw [startC]
        refine loop_go (fun j => (nI (hw j), nI j, wdP vw w j, nI j, nI (ps j))) J 200 (by omega) rfl goC ?_
        intro rc
        show f_X5_readSearch_b8 _ _ _ _ _ _ _ _ _ _ _ = _
        dsimp only
        rw [stepC J hJ40 bJ.1 hR, if_neg ez, if_pos hh]
      · apply M
        intro rc
        unfold f_X7_search_b23
        rw [if_pos rfl, if_neg (nle (show q2 (ps J) < z by omega) (by omega))]
theorem inv_25 (x_words : Nat → Int32) (x_wordCount : Int32) (x_size : Int32) (x_signs : Nat → Int32) (x_next : Int32) (g_longest : Nat → Int32) (g_many : Nat → Int64) (g_layers : Nat → Int32) (g_length : Int32) (g_aheadOf : Nat → Int32) (g_cameFrom : Nat → Int32) (g_queue : Nat → Int32) (r_numbers : Nat → Int64) (r_size : Int32) (p_size : Int32) (t_filled : Nat → Int32) (nd : Nat → ND) (m_thrown : Int32) (m_told : Int32) (m_row : Nat → Int64) (m_tape : Nat → Int32) (m_taped : Int32) (m_at : Int32) (m_to : Int32) (m_mem : Nat → Int32) (m_undos : Int32) (m_places : Nat → Int32) (m_movers : Nat → Int32) (m_far : Nat → Int32) (m_way : Nat → Int32) (m_wayMany : Int32) (m_fromOf : Nat → Int32) (m_toOf : Nat → Int32) (m_longest : Nat → Int32) (m_wayCount : Nat → Int64) (m_thin : Nat → Int32) (m_ahead : Nat → Int32) (m_tried : Int32) (m_foundLow : Int32) (m_foundHigh : Int32) (m_nextLow : Int32) (m_nextHigh : Int32) (m_act : Nat → Int32) (m_first : Nat → Int32) (m_second : Nat → Int32) (m_random : Int32) (m_isKept : Nat → Int32) (x y : Int32) (h : Inv x_words x_wordCount x_size x_signs x_next g_longest g_many g_layers g_length g_aheadOf g_cameFrom g_queue r_numbers r_size p_size t_filled nd m_thrown m_told m_row m_tape m_taped m_at m_to m_mem m_undos m_places m_movers m_far m_way m_wayMany m_fromOf m_toOf m_longest m_wayCount m_thin m_ahead m_tried m_foundLow m_foundHigh m_nextLow m_nextHigh m_act m_first m_second m_random m_isKept) : S_25 Inv x_words x_wordCount x_size x_signs x_next g_longest g_many g_layers g_length g_aheadOf g_cameFrom g_queue r_numbers r_size p_size t_filled nd m_thrown m_told m_row m_tape m_taped m_at m_to m_mem m_undos m_places m_movers m_far m_way m_wayMany m_fromOf m_toOf m_longest m_wayCount m_thin m_ahead m_tried m_foundLow m_foundHigh m_nextLow m_nextHigh m_act m_first m_second m_random m_isKept x y := by
  obtain ⟨⟨a, hC, hM, hW⟩, hP, hK, hR, ⟨z, hz, z1, z2, hs⟩⟩ := h
  unfold S_25 f_X6_search f_X7_search f_X7_reads f_X5_clear
  rw [z1, z2]
  dsimp only
  rcases srch hC hM hW hz hs x_words x_wordCount x_next m_told m_row m_nextLow m_nextHigh with ⟨w', wc', q, fl, fh, nlo, nhi, e1, e2⟩ | ⟨w', q, k, P, nlo, nhi, e1, e2, e3⟩
  · rw [e1, sbind, e2]
    dsimp only
    rw [if_pos rfl]
    unfold f_X5_wrongSign
    exact ⟨_, rfl, _, rfl, rfl, ⟨a, hC, hM, hW⟩, hP, hK, hR, Tx0 _ _⟩
  · rw [e1, sbind, e3, m_itrows]
    dsimp only
    rw [if_neg one0, e2, c_itrows]
    obtain ⟨g1, g2⟩ := rwf_eq P (fun k => (nI k).toInt64) r_numbers m_row 40
    have hl := rwf_le P (fun k => (nI k).toInt64) r_numbers 40
    refine ⟨_, rfl, _, rfl, ?_, ⟨a, hC, hM, hW⟩, hP, hK, ⟨_, by omega, rfl, ?_, g2⟩, Tx0 _ _⟩
    · show nI _ = nI _
      rw [g1]
    · show nI _ = nI _
      rw [g1]
