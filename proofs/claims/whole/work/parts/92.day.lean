/-! PURE 92: day -/
theorem rd_day {s tp : Nat → Int32} {z : Nat} (hz : z ≤ 80) (hs : ∀ i, i < z → s i = tp i) (w : Nat → Int32) (wc nx : Int32) (told : Int32) (row : Nat → Int64) (mem : Nat → Int32) (us : Int32) (pls mvs far way : Nat → Int32) (wm : Int32) (th act fi se : Nat → Int32) : (∃ w' wc' q act' fi' se', f_X5_readDay w wc (nI z) s nx = some (0, w', wc', nI q) ∧ f_X7_day_l11 told row tp mem us pls mvs far way wm th 0 0 0 0 (nI z) act fi se = some (-1 - nI q, 0, told, row, 0, nI q, nI z, mem, us, pls, mvs, far, way, wm, th, act', fi', se')) ∨ (∃ w' k act' fi' se', k ≤ 80 ∧ f_X5_readDay w wc (nI z) s nx = some (1, w', nI k, nI z) ∧ f_X7_day_l11 told row tp mem us pls mvs far way wm th 0 0 0 0 (nI z) act fi se = (f_X7_copies mem 0 3).bind (fun r2 => f_X7_day_l51 told row tp us (nI k) 0 0 0 (nI z) (nI z) r2 pls mvs far way wm th act' fi' se') ∧ ∀ j, j < k → ∃ c f g, c < 6 ∧ f < 100 ∧ g < 100 ∧ (c = 3 → g < 10) ∧ w' j = nI (wd6 c f g) ∧ act' j = nI c ∧ fi' j = nI f ∧ se' j = nI g) := by
  have hA : ∃ (OK : Nat → Bool) (Q C F S : Nat → Nat), ∀ p, p < z → (OK p = true ∧ p < Q p ∧ Q p ≤ z ∧ C p < 6 ∧ F p < 100 ∧ S p < 100 ∧ (C p = 3 → S p < 10) ∧ (∀ j, j < 80 → ∀ w k6, f_X5_readDay_b6 (nI z) s k6 (nI j) w (nI j) (nI p) = k6 (nI (j + 1)) (upd w j (nI (wd6 (C p) (F p) (S p)))) (nI (j + 1)) (nI (Q p))) ∧ ∀ j, j < 80 → ∀ act fi se, f_X7_readsAct tp (nI p) (nI z) act fi se (nI j) = some (1, nI (Q p), upd act j (nI (C p)), upd fi j (nI (F p)), upd se j (nI (S p)))) ∨ (OK p = false ∧ (∀ j, j < 80 → ∀ w k6, f_X5_readDay_b6 (nI z) s k6 (nI j) w (nI j) (nI p) = some (0, w, nI j, nI (Q p))) ∧ ∀ j, j < 80 → ∀ act fi se, ∃ act' fi' se', f_X7_readsAct tp (nI p) (nI z) act fi se (nI j) = some (0, nI (Q p), act', fi', se')) := by
    have h : ∀ p, ∃ r : Bool × Nat × Nat × Nat × Nat, p < z → (r.1 = true ∧ p < r.2.1 ∧ r.2.1 ≤ z ∧ r.2.2.1 < 6 ∧ r.2.2.2.1 < 100 ∧ r.2.2.2.2 < 100 ∧ (r.2.2.1 = 3 → r.2.2.2.2 < 10) ∧ (∀ j, j < 80 → ∀ w k6, f_X5_readDay_b6 (nI z) s k6 (nI j) w (nI j) (nI p) = k6 (nI (j + 1)) (upd w j (nI (wd6 r.2.2.1 r.2.2.2.1 r.2.2.2.2))) (nI (j + 1)) (nI r.2.1)) ∧ ∀ j, j < 80 → ∀ act fi se, f_X7_readsAct tp (nI p) (nI z) act fi se (nI j) = some (1, nI r.2.1, upd act j (nI r.2.2.1), upd fi j (nI r.2.2.2.1), upd se j (nI r.2.2.2.2))) ∨ (r.1 = false ∧ (∀ j, j < 80 → ∀ w k6, f_X5_readDay_b6 (nI z) s k6 (nI j) w (nI j) (nI p) = some (0, w, nI j, nI r.2.1)) ∧ ∀ j, j < 80 → ∀ act fi se, ∃ act' fi' se', f_X7_readsAct tp (nI p) (nI z) act fi se (nI j) = some (0, nI r.2.1, act', fi', se')) := by
      intro p
      by_cases hp : p < z
      · obtain ⟨ok, q, c, f, g, h⟩ := rd_act hz hs hp
        exact ⟨(ok, q, c, f, g), fun _ => h⟩
      · exact ⟨(true, 0, 0, 0, 0), fun q => absurd q hp⟩
    exact ⟨fun p => (Classical.choose (h p)).1, fun p => (Classical.choose (h p)).2.1, fun p => (Classical.choose (h p)).2.2.1, fun p => (Classical.choose (h p)).2.2.2.1, fun p => (Classical.choose (h p)).2.2.2.2, fun p => Classical.choose_spec (h p)⟩
  obtain ⟨OK, Q, C, F, S, hA⟩ := hA
  obtain ⟨ps, dps⟩ : ∃ ps : Nat → Nat, ps = fun j => itr (fun _ p => Q p) 0 j := ⟨_, rfl⟩
  have ps0 : ps 0 = 0 := by rw [dps]; rfl
  have pss : ∀ j, ps (j + 1) = Q (ps j) := by intro j; rw [dps]; rfl
  obtain ⟨go, dgo⟩ : ∃ go : Nat → Prop, go = fun j => ps j < z ∧ OK (ps j) = true := ⟨_, rfl⟩
  have sp : ∀ j, go j → ps j < z ∧ ps j < Q (ps j) ∧ Q (ps j) ≤ z := by
    intro j h
    rw [dgo] at h
    rcases hA (ps j) h.1 with q | q
    · exact ⟨h.1, q.2.1, q.2.2.1⟩
    · rw [q.1] at h; exact absurd h.2 (by decide)
  have psB : ∀ j, (∀ i, i < j → go i) → ps j ≤ z ∧ j ≤ ps j := by
    intro j
    induction j with
    | zero => intro _; rw [ps0]; omega
    | succ j ih =>
      intro h
      have i1 := ih (fun i hi => h i (by omega))
      have b := sp j (h j (by omega))
      rw [pss]; omega
  have hex : ∃ J, ¬ go J ∧ ∀ i, i < J → go i := by
    have h1 : ∃ j, ¬ go j := by
      refine Classical.byContradiction fun q => ?_
      have := psB 81 (fun i _ => Classical.byContradiction fun w => q ⟨i, w⟩)
      omega
    obtain ⟨j, hj⟩ := h1
    obtain ⟨J, q1, q2⟩ := lst_ex (Q := fun j => ¬ go j) j hj
    exact ⟨J, q1, fun i hi => Classical.byContradiction (q2 i hi)⟩
  obtain ⟨J, hJ, hlt⟩ := hex
  have bJ := psB J hlt
  obtain ⟨vw, dvw⟩ : ∃ vw : Nat → Int32, vw = fun j => nI (wd6 (C (ps j)) (F (ps j)) (S (ps j))) := ⟨_, rfl⟩
  have okA : ∀ j, j < J → _ := fun j hj => (hA (ps j) (sp j (hlt j hj)).1).resolve_right (fun q => by have h := hlt j hj; rw [dgo] at h; rw [q.1] at h; exact absurd h.2 (by decide))
  have j80 : ∀ j, j < J → j < 80 := by
    intro j hj
    omega
  have startC : f_X5_readDay w wc (nI z) s nx = loopN (V := Int32 × (Nat → Int32) × Int32 × Int32) (fun rc v => f_X5_readDay_b6 (nI z) s (fun x0_ x1_ x2_ x3_ => rc (x0_, x1_, x2_, x3_)) v.1 v.2.1 v.2.2.1 v.2.2.2) 200 (nI 0, wdP vw w 0, nI 0, nI (ps 0)) := by
    rw [ps0]
    rfl
  have startM : f_X7_day_l11 told row tp mem us pls mvs far way wm th 0 0 0 0 (nI z) act fi se = loopN (V := Int32 × Int32 × Int32 × Int32 × Int32 × (Nat → Int32) × (Nat → Int32) × (Nat → Int32)) (fun rc v => f_X7_day_b11 told row tp mem us pls mvs far way wm th (fun x0_ x1_ x2_ x3_ x4_ x5_ x6_ x7_ => rc (x0_, x1_, x2_, x3_, x4_, x5_, x6_, x7_)) v.1 v.2.1 v.2.2.1 v.2.2.2.1 v.2.2.2.2.1 v.2.2.2.2.2.1 v.2.2.2.2.2.2.1 v.2.2.2.2.2.2.2) 200 (nI 0, 0, 0, nI (ps 0), nI z, wdP (fun j => nI (C (ps j))) act 0, wdP (fun j => nI (F (ps j))) fi 0, wdP (fun j => nI (S (ps j))) se 0) := by
    rw [ps0]
    rfl
  have goC : ∀ j, j < J → ∀ rc : Int32 × (Nat → Int32) × Int32 × Int32 → Option (Int32 × (Nat → Int32) × Int32 × Int32), f_X5_readDay_b6 (nI z) s (fun x0_ x1_ x2_ x3_ => rc (x0_, x1_, x2_, x3_)) (nI j) (wdP vw w j) (nI j) (nI (ps j)) = rc (nI (j + 1), wdP vw w (j + 1), nI (j + 1), nI (ps (j + 1))) := by
    intro j hj rc
    have k := (okA j hj).2.2.2.2.2.2.2.1 j (j80 j hj) (wdP vw w j)
    rw [k, wdP_s, pss, dvw]
  have goM : ∀ j, j < J → ∀ rc : Int32 × Int32 × Int32 × Int32 × Int32 × (Nat → Int32) × (Nat → Int32) × (Nat → Int32) → Option (Int32 × Int32 × Int32 × (Nat → Int64) × Int32 × Int32 × Int32 × (Nat → Int32) × Int32 × (Nat → Int32) × (Nat → Int32) × (Nat → Int32) × (Nat → Int32) × Int32 × (Nat → Int32) × (Nat → Int32) × (Nat → Int32) × (Nat → Int32)), f_X7_day_b11 told row tp mem us pls mvs far way wm th (fun x0_ x1_ x2_ x3_ x4_ x5_ x6_ x7_ => rc (x0_, x1_, x2_, x3_, x4_, x5_, x6_, x7_)) (nI j) 0 0 (nI (ps j)) (nI z) (wdP (fun j => nI (C (ps j))) act j) (wdP (fun j => nI (F (ps j))) fi j) (wdP (fun j => nI (S (ps j))) se j) = rc (nI (j + 1), 0, 0, nI (ps (j + 1)), nI z, wdP (fun j => nI (C (ps j))) act (j + 1), wdP (fun j => nI (F (ps j))) fi (j + 1), wdP (fun j => nI (S (ps j))) se (j + 1)) := by
    intro j hj rc
    have k := (okA j hj).2.2.2.2.2.2.2.2 j (j80 j hj) (wdP (fun j => nI (C (ps j))) act j) (wdP (fun j => nI (F (ps j))) fi j) (wdP (fun j => nI (S (ps j))) se j)
    have b := sp j (hlt j hj)
    unfold f_X7_day_b11
    rw [if_neg (nle b.1 (by omega)), k, sbind]
    dsimp only
    rw [if_neg one0, wdP_s, wdP_s, wdP_s, pss, nI_1]
  by_cases ez : ps J = z
  · right
    refine ⟨wdP vw w J, J, wdP (fun j => nI (C (ps j))) act J, wdP (fun j => nI (F (ps j))) fi J, wdP (fun j => nI (S (ps j))) se J, by omega, ?_, ?_, ?_⟩
    · rw [startC]
      refine loop_go (fun j => (nI j, wdP vw w j, nI j, nI (ps j))) J 200 (by omega) rfl goC ?_
      intro rc
      show f_X5_readDay_b6 _ _ _ _ _ _ _ = _
      unfold f_X5_readDay_b6 f_X5_readDay_b86
      dsimp only
      rw [ez, if_pos rfl, if_pos (yle z (by omega))]
      by_cases h8 : (80 : Int32) ≤ nI J
      · rw [if_pos h8]
      · rw [if_neg h8]
    · rw [startM]
      refine loop_go (fun j => (nI j, 0, 0, nI (ps j), nI z, wdP (fun j => nI (C (ps j))) act j, wdP (fun j => nI (F (ps j))) fi j, wdP (fun j => nI (S (ps j))) se j)) J 200 (by omega) rfl goM ?_
      intro rc
      show f_X7_day_b11 _ _ _ _ _ _ _ _ _ _ _ _ _ _ _ _ _ _ _ _ = _
      unfold f_X7_day_b11
      dsimp only
      rw [ez, if_pos (yle z (by omega))]
    · intro j hj
      have k := okA j hj
      exact ⟨C (ps j), F (ps j), S (ps j), k.2.2.2.1, k.2.2.2.2.1, k.2.2.2.2.2.1, k.2.2.2.2.2.2.1, by rw [wdP_at _ _ hj, dvw], by rw [wdP_at _ _ hj], by rw [wdP_at _ _ hj], by rw [wdP_at _ _ hj]⟩
  · left
    have hl : ps J < z := by omega
    have k := (hA (ps J) hl).resolve_left (fun q => hJ (by rw [dgo]; exact ⟨hl, q.1⟩))
    obtain ⟨act', fi', se', k2⟩ := k.2.2 J (by omega) (wdP (fun j => nI (C (ps j))) act J) (wdP (fun j => nI (F (ps j))) fi J) (wdP (fun j => nI (S (ps j))) se J)
    refine ⟨wdP vw w J, nI J, Q (ps J), act', fi', se', ?_, ?_⟩
    · rw [startC]
      refine loop_go (fun j => (nI j, wdP vw w j, nI j, nI (ps j))) J 200 (by omega) rfl goC ?_
      intro rc
      exact k.2.1 J (by omega) _ _
    · rw [startM]
      refine loop_go (fun j => (nI j, 0, 0, nI (ps j), nI z, wdP (fun j => nI (C (ps j))) act j, wdP (fun j => nI (F (ps j))) fi j, wdP (fun j => nI (S (ps j))) se j)) J 200 (by omega) rfl goM ?_
      intro rc
      show f_X7_day_b11 _ _ _ _ _ _ _ _ _ _ _ _ _ _ _ _ _ _ _ _ = _
      unfold f_X7_day_b11
      dsimp only
      rw [if_neg (nle hl (by omega)), k2, sbind]
      dsimp only
      rw [if_pos rfl]
theorem day_loop {n : ND} {a : AN} {mem : Nat → Int32} (hC : CN n a) (hM : MN mem 0 a) (hW : WA a) {k : Nat} (hk : k ≤ 80) {w act fi se : Nat → Int32} (hw : ∀ j, j < k → ∃ c f g, c < 6 ∧ f < 100 ∧ g < 100 ∧ (c = 3 → g < 10) ∧ w j = nI (wd6 c f g) ∧ act j = nI c ∧ fi j = nI f ∧ se j = nI g) (sa bb : Nat → Nat) (sg : Nat → Int32) (ps : Int32) (nx : Int32) (lay : Nat → Int32) (len : Int32) (rn : Nat → Int64) (rs : Int32) (s1 s2 : Nat → Int32) (s3 : Nat → Int64) (s4 s5 : Nat → Int32) (s6 s7 s8 : Int32) (told : Int32) (row : Nat → Int64) (tape : Nat → Int32) (us ma mt : Int32) (pls mvs far way : Nat → Int32) (wm : Int32) (th : Nat → Int32)
    {P : (Int32 × (Nat → Int32) × Int32 × Int32 × Int32 × (Nat → Int32) × Int32 × (Nat → Int64) × Int32 × (Nat → Int32) × (Nat → Int32) × (Nat → Int64) × (Nat → Int32) × (Nat → Int32) × (Nat → Int32) × Int32 × Int32 × Int32 × (Nat → Nat) × Nat × Int32 × (Nat → Int32) × (Nat → Int32) × (Nat → Int64) × (Nat → Int32) × (Nat → Int32) × Int32 × Int32 × Int32) → (Int32 × Int32 × Int32 × (Nat → Int64) × Int32 × Int32 × Int32 × (Nat → Int32) × Int32 × (Nat → Int32) × (Nat → Int32) × (Nat → Int32) × (Nat → Int32) × Int32 × (Nat → Int32) × (Nat → Int32) × (Nat → Int32) × (Nat → Int32)) → Prop}
    (hE : ∀ J lay len rn rs nr ord it nm ow mov all sz cn m1 pls mvs far way wm th a', J ≤ k → out mem m1 → BN (nr, ord, it, nm, ow, mov, all, sz, cn) m1 0 a' → ∃ rC, f_X6_day_b80 sa bb sg ps (nI J) w (nI k) 0 nx lay len rn rs nr ord it nm ow mov all sz cn s1 s2 s3 s4 s5 s6 s7 s8 = some rC ∧ ∃ rM, f_X7_day_b70 told row tape us (nI k) (nI J) 0 0 ma mt m1 pls mvs far way wm th act fi se = some rM ∧ P rC rM) :
    ∃ rC, f_X6_day_l40 sa bb sg ps 0 w (nI k) 0 nx lay len rn rs n.1 n.2.1 n.2.2.1 n.2.2.2.1 n.2.2.2.2.1 n.2.2.2.2.2.1 n.2.2.2.2.2.2.1 n.2.2.2.2.2.2.2.1 n.2.2.2.2.2.2.2.2 s1 s2 s3 s4 s5 s6 s7 s8 = some rC ∧ ∃ rM, f_X7_day_l51 told row tape us (nI k) 0 0 0 ma mt mem pls mvs far way wm th act fi se = some rM ∧ P rC rM := by
  unfold f_X6_day_l40 f_X7_day_l51
  refine loop_twx k 200 200 (fun j v w2 => ∃ lay len rn rs nr ord it nm ow mov all sz cn m1 pls mvs far way wm th a', out mem m1 ∧ BN (nr, ord, it, nm, ow, mov, all, sz, cn) m1 0 a' ∧ v = (nI j, w, nI k, 0, nx, lay, len, rn, rs, nr, ord, it, nm, ow, mov, all, sz, cn, s1, s2, s3, s4, s5, s6, s7, s8) ∧ w2 = (nI k, nI j, 0, 0, ma, mt, m1, pls, mvs, far, way, wm, th, act, fi, se)) _ _ (by omega) (by omega) ⟨lay, len, rn, rs, n.1, n.2.1, n.2.2.1, n.2.2.2.1, n.2.2.2.2.1, n.2.2.2.2.2.1, n.2.2.2.2.2.2.1, n.2.2.2.2.2.2.2.1, n.2.2.2.2.2.2.2.2, mem, pls, mvs, far, way, wm, th, a, out_refl _, ⟨hC, hM, hW⟩, rfl, rfl⟩ ?_
  rintro j _ _ hj ⟨lay, len, rn, rs, nr, ord, it, nm, ow, mov, all, sz, cn, m1, pls, mvs, far, way, wm, th, a', ho, hB, rfl, rfl⟩
  by_cases ej : j = k
  · left
    intro rv rw
    show ∃ x, f_X6_day_b40 _ _ _ _ _ _ _ _ _ _ _ _ _ _ _ _ _ _ _ _ _ _ _ _ _ _ _ _ _ _ _ = some x ∧ ∃ y, f_X7_day_b51 _ _ _ _ _ _ _ _ _ _ _ _ _ _ _ _ _ _ _ _ _ = some y ∧ _
    unfold f_X6_day_b40 f_X7_day_b51
    dsimp only
    rw [if_pos (by rw [nI_leI (by omega) (by omega)]; omega), if_pos (by rw [nI_leI (by omega) (by omega)]; omega)]
    exact hE j lay len rn rs nr ord it nm ow mov all sz cn m1 pls mvs far way wm th a' hj ho hB
  · have jk : j < k := by omega
    obtain ⟨c, f, g, hc, hf, hg, h3, w1, w2, w3, w4⟩ := hw j jk
    obtain ⟨r, lay', len', rn', rs', nr', ord', it', nm', ow', mov', all', sz', cn', m1', pls', mvs', far', way', wm', th', a'', e1, e2, ho', hB'⟩ := act_all hB.1 hB.2.1 hB.2.2 hc hf hg h3 (show j < 80 by omega) w2 w3 w4 lay len rn rs pls mvs far way wm th
    dsimp only at e1
    have nk : ¬ nI k ≤ nI j := nle jk (by omega)
    by_cases hr : r < 0
    · left
      intro rv rw
      show ∃ x, f_X6_day_b40 _ _ _ _ _ _ _ _ _ _ _ _ _ _ _ _ _ _ _ _ _ _ _ _ _ _ _ _ _ _ _ = some x ∧ ∃ y, f_X7_day_b51 _ _ _ _ _ _ _ _ _ _ _ _ _ _ _ _ _ _ _ _ _ = some y ∧ _
      unfold f_X6_day_b40 f_X7_day_b51
      dsimp only
      rw [if_neg nk, if_neg nk, chk_nI (show j < 80 by omega) (by decide), ix_nI (by omega), w1, e1, sbind, e2, sbind]
      dsimp only
      rw [if_pos hr, if_pos hr]
      exact hE j lay' len' rn' rs' nr' ord' it' nm' ow' mov' all' sz' cn' m1' pls' mvs' far' way' wm' th' a'' hj (out_trans ho ho') hB'
    · right
      right
      refine ⟨jk, _, _, ⟨lay', len', rn', rs', nr', ord', it', nm', ow', mov', all', sz', cn', m1', pls', mvs', far', way', wm', th', a'', out_trans ho ho', hB', rfl, rfl⟩, ?_, ?_⟩
      · intro rv
        show f_X6_day_b40 _ _ _ _ _ _ _ _ _ _ _ _ _ _ _ _ _ _ _ _ _ _ _ _ _ _ _ _ _ _ _ = _
        unfold f_X6_day_b40
        dsimp only
        rw [if_neg nk, chk_nI (show j < 80 by omega) (by decide), ix_nI (by omega), w1, e1, sbind]
        dsimp only
        rw [if_neg hr, nI_1]
      · intro rw
        show f_X7_day_b51 _ _ _ _ _ _ _ _ _ _ _ _ _ _ _ _ _ _ _ _ _ = _
        unfold f_X7_day_b51
        dsimp only
        rw [if_neg nk, e2, sbind]
        dsimp only
        rw [if_neg hr, nI_1]
