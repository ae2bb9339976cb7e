/-! PURE 84: what both readers read -/
theorem rt_one {n : ND} {a : AN} {mem : Nat → Int32} (hC : CN n a) (hM : MN mem 0 a) (hW : WA a) {s tp : Nat → Int32} {z : Nat} (hz : z ≤ 80) (hs : ∀ i, i < z → s i = tp i) {p : Nat} (hp : p ≤ z) : ∃ (r : Int32) (q : Nat), p ≤ q ∧ q ≤ z ∧ f_X5_readTerm (nI z) s (nI p) n.2.2.2.1 n.2.2.2.2.1 n.2.2.2.2.2.2.2.2 = some (r, nI q) ∧ f_X7_readsTerm tp (nI p) (nI z) mem = some (r, nI q) ∧ (r = -1 ∨ (p < q ∧ ∃ t, r = nI t ∧ aAl a t = true)) := by
  have hb := rdN_le (s := tp) (z := z) hp
  have hv := rdN_v tp z p
  have e1 := c_readName (s := s) hz hp
  rw [rdN_congr hs] at e1
  have e2 := m_readsLabel (s := tp) hz hp
  obtain ⟨r, o1, o2, o3⟩ := own_ex hC hM hW (nI (rdN tp z p).1)
  rw [← hC.2.2.2.2.2.2.2] at o1
  unfold f_X5_readTerm f_X7_readsTerm
  rw [e1, e2, sbind, sbind]
  dsimp only
  by_cases h0 : (rdN tp z p).1 = 0
  · rw [if_pos ((nI0 (by omega)).mpr h0), if_pos ((nI0 (by omega)).mpr h0)]
    exact ⟨-1, _, hb.1, hb.2, rfl, rfl, .inl rfl⟩
  · rw [if_neg (fun w => h0 ((nI0 (by omega)).mp w)), if_neg (fun w => h0 ((nI0 (by omega)).mp w)), o1, sbind, o2, sbind]
    rcases o3 with o3 | ⟨t, o3, ho⟩
    · rw [o3, if_neg (show ¬ (0 : Int32) ≤ -1 by decide)]
      exact ⟨-1, p, Nat.le_refl _, hp, rfl, rfl, .inl rfl⟩
    · have ht := W_lt hW ho
      rw [if_pos (show 0 ≤ r by rw [o3]; exact i_nlt.mp (neg_lt (by omega)))]
      exact ⟨r, _, hb.1, hb.2, rfl, rfl, .inr ⟨rdN_lt h0, t, o3, ho⟩⟩
/-- what both read of a term, place by place -/
theorem rt_all {n : ND} {a : AN} {mem : Nat → Int32} (hC : CN n a) (hM : MN mem 0 a) (hW : WA a) {s tp : Nat → Int32} {z : Nat} (hz : z ≤ 80) (hs : ∀ i, i < z → s i = tp i) : ∃ (R : Nat → Int32) (G : Nat → Nat), ∀ p, p ≤ z → (p ≤ G p ∧ G p ≤ z ∧ f_X5_readTerm (nI z) s (nI p) n.2.2.2.1 n.2.2.2.2.1 n.2.2.2.2.2.2.2.2 = some (R p, nI (G p)) ∧ f_X7_readsTerm tp (nI p) (nI z) mem = some (R p, nI (G p)) ∧ (R p = -1 ∨ (p < G p ∧ ∃ t, R p = nI t ∧ aAl a t = true))) := by
  have h : ∀ p, ∃ rq : Int32 × Nat, p ≤ z → (p ≤ rq.2 ∧ rq.2 ≤ z ∧ f_X5_readTerm (nI z) s (nI p) n.2.2.2.1 n.2.2.2.2.1 n.2.2.2.2.2.2.2.2 = some (rq.1, nI rq.2) ∧ f_X7_readsTerm tp (nI p) (nI z) mem = some (rq.1, nI rq.2) ∧ (rq.1 = -1 ∨ (p < rq.2 ∧ ∃ t, rq.1 = nI t ∧ aAl a t = true))) := by
    intro p
    by_cases hp : p ≤ z
    · obtain ⟨r, q, h1, h2, h3, h4, h5⟩ := rt_one hC hM hW hz hs hp
      exact ⟨(r, q), fun _ => ⟨h1, h2, h3, h4, h5⟩⟩
    · exact ⟨(0, 0), fun h => absurd h hp⟩
  refine ⟨fun p => (Classical.choose (h p)).1, fun p => (Classical.choose (h p)).2, fun p hp => Classical.choose_spec (h p) hp⟩
noncomputable def hr (tp : Nat → Int32) (z q : Nat) (c : Int32) : Bool := pb (q < z ∧ tp q = c)
theorem c_passes {s tp : Nat → Int32} {z : Nat} (hz : z ≤ 80) (hs : ∀ i, i < z → s i = tp i) {q : Nat} (hq : q ≤ z) (c : Int32) : f_X5_passes (nI z) s (nI q) c = some (if hr tp z q c then 1 else 0, nI (if hr tp z q c then q + 1 else q)) := by
  unfold f_X5_passes hr
  by_cases h : q < z
  · rw [if_neg (nle h (by omega)), chk_nI (by omega) (by decide), ix_nI (by omega), hs q h, nI_1]
    by_cases e : tp q = c
    · rw [if_pos e, if_pos (pb_iff.mpr ⟨h, e⟩), if_pos (pb_iff.mpr ⟨h, e⟩)]
    · rw [if_neg e, if_neg (fun w => e (pb_iff.mp w).2), if_neg (fun w => e (pb_iff.mp w).2)]
  · rw [if_pos (by rw [nI_leI (by omega) (by omega)]; omega), if_neg (fun w => h (pb_iff.mp w).1), if_neg (fun w => h (pb_iff.mp w).1)]
theorem m_takes1 {tp : Nat → Int32} {z : Nat} (hz : z ≤ 80) {q : Nat} (hq : q ≤ z) (c : Int32) : f_X7_takes tp (nI q) (nI z) c = some (if hr tp z q c then 1 else 0, nI (if hr tp z q c then q + 1 else q)) := by
  unfold f_X7_takes f_X7_isHere hr
  by_cases h : q < z
  · rw [if_neg (nle h (by omega)), chk_nI (by omega) (by decide), ix_nI (by omega)]
    by_cases e : tp q = c
    · rw [if_pos e, sbind, if_pos (pb_iff.mpr ⟨h, e⟩), if_pos (pb_iff.mpr ⟨h, e⟩), flag1, nI_1]
    · rw [if_neg e, sbind, if_neg (fun w => e (pb_iff.mp w).2), if_neg (fun w => e (pb_iff.mp w).2), flag0, Int32.add_zero]
  · rw [if_pos (by rw [nI_leI (by omega) (by omega)]; omega), sbind, if_neg (fun w => h (pb_iff.mp w).1), if_neg (fun w => h (pb_iff.mp w).1), flag0, Int32.add_zero]
theorem hr_lt {tp : Nat → Int32} {z q : Nat} {c : Int32} (h : hr tp z q c = true) : q < z := (pb_iff.mp h).1
theorem c_addWord {w : Nat → Int32} {k : Nat} (hk : k < 80) (v : Int32) : f_X5_addWord w (nI k) v = some (upd w k v, nI (k + 1)) := by
  unfold f_X5_addWord
  rw [if_neg (show ¬ (80 : Int32) ≤ nI k by rw [show (80 : Int32) = nI 80 from rfl, nI_leI (by decide) (by omega)]; omega), chk_nI hk (by decide), ix_nI (by omega), nI_1]
/-- words told one by one -/
noncomputable def wdP (v : Nat → Int32) (w : Nat → Int32) (k : Nat) : Nat → Int32 := itr (fun j f => upd f j (v j)) w k
theorem wdP_s (v w : Nat → Int32) (k : Nat) : wdP v w (k + 1) = upd (wdP v w k) k (v k) := rfl
theorem wdP_at (v w : Nat → Int32) {k i : Nat} (h : i < k) : wdP v w k i = v i := by
  induction k with
  | zero => exact absurd h (Nat.not_lt_zero _)
  | succ k ih =>
    rw [wdP_s]
    by_cases e : i = k
    · rw [e, updN]
    · rw [updO e]
      exact ih (by omega)
/-- LINKS as both read them: not to be read, with the place; or so many, and which -/
theorem rd_links {n : ND} {a : AN} {mem : Nat → Int32} (hC : CN n a) (hM : MN mem 0 a) (hW : WA a) {s tp : Nat → Int32} {z : Nat} (hz : z ≤ 80) (hs : ∀ i, i < z → s i = tp i) (w : Nat → Int32) (wc nx : Int32) (fr to : Nat → Int32) : (∃ w' wc' q fr' to', f_X5_readLinks w wc (nI z) s nx n.2.2.2.1 n.2.2.2.2.1 n.2.2.2.2.2.2.2.2 = some (0, w', wc', nI q) ∧ f_X7_readsLinks tp 0 (nI z) mem fr to = some (-1, nI q, fr', to')) ∨ (∃ w' q k fr' to' q', k ≤ 21 ∧ f_X5_readLinks w wc (nI z) s nx n.2.2.2.1 n.2.2.2.2.1 n.2.2.2.2.2.2.2.2 = some (1, w', nI k, nI q) ∧ f_X7_readsLinks tp 0 (nI z) mem fr to = some (nI k, nI q', fr', to') ∧ ∀ j, j < k → ∃ u v, u < 24 ∧ v < 24 ∧ w' j = nI (100 * u + v) ∧ fr' j = nI u ∧ to' j = nI v) := by
  by_cases z0 : z = 0
  · right
    refine ⟨w, 0, 0, fr, to, 0, by omega, ?_, ?_, fun j hj => absurd hj (Nat.not_lt_zero _)⟩
    · unfold f_X5_readLinks
      rw [z0, if_pos (show nI 0 = 0 from rfl)]
      rfl
    · unfold f_X7_readsLinks
      rw [z0, if_pos (show nI 0 ≤ 0 by decide)]
      unfold f_X7_readsLinks_l15
      rw [show (200 : Nat) = 199 + 1 from rfl, loopN_succ]
      show f_X7_readsLinks_b15 _ _ _ _ _ _ _ _ _ = _
      unfold f_X7_readsLinks_b15
      rw [if_pos rfl, if_pos (show nI 0 ≤ 0 by decide)]
      rfl
  obtain ⟨R, G, hRG⟩ := rt_all hC hM hW hz hs
  -- a link from a place on
  obtain ⟨pB, dB⟩ : ∃ pB : Nat → Nat, pB = fun p => G p + 1 := ⟨_, rfl⟩
  obtain ⟨pE, dE⟩ : ∃ pE : Nat → Nat, pE = fun p => G (pB p) := ⟨_, rfl⟩
  obtain ⟨ok, dok⟩ : ∃ ok : Nat → Prop, ok = fun p => R p ≠ -1 ∧ hr tp z (G p) 62 = true ∧ R (pB p) ≠ -1 := ⟨_, rfl⟩
  obtain ⟨ps, dps⟩ : ∃ ps : Nat → Nat, ps = fun j => itr (fun _ p => pE p + 1) 0 j := ⟨_, rfl⟩
  have ps0 : ps 0 = 0 := by rw [dps]; rfl
  have pss : ∀ j, ps (j + 1) = pE (ps j) + 1 := by intro j; rw [dps]; rfl
  have okE : ∀ p, p ≤ z → ok p → pB p ≤ z ∧ p + 2 ≤ pB p ∧ pB p < pE p ∧ pE p ≤ z ∧ ∃ u v, u < 24 ∧ v < 24 ∧ R p = nI u ∧ R (pB p) = nI v := by
    intro p hp h
    rw [dok] at h
    obtain ⟨h1, h2, h3⟩ := h
    have g1 := hRG p hp
    have l1 := hr_lt h2
    have eB : pB p = G p + 1 := by rw [dB]
    have g2 := hRG (pB p) (by omega)
    have eE : pE p = G (pB p) := by rw [dE]
    rcases g1.2.2.2.2 with q1 | ⟨q1, u, q2, q3⟩
    · exact absurd q1 h1
    · rcases g2.2.2.2.2 with y1 | ⟨y1, v, y2, y3⟩
      · exact absurd y1 h3
      · exact ⟨by omega, by omega, by omega, by omega, u, v, W_lt hW q3, W_lt hW y3, q2, y2⟩
  obtain ⟨go, dgo⟩ : ∃ go : Nat → Prop, go = fun j => ok (ps j) ∧ hr tp z (pE (ps j)) 44 = true := ⟨_, rfl⟩
  have psB : ∀ j, (∀ i, i < j → go i) → ps j ≤ z ∧ 4 * j ≤ ps j := by
    intro j
    induction j with
    | zero => intro _; rw [ps0]; omega
    | succ j ih =>
      intro h
      have i1 := ih (fun i hi => h i (by omega))
      have hj := h j (by omega)
      rw [dgo] at hj
      have e := okE (ps j) i1.1 hj.1
      have := hr_lt hj.2
      rw [pss]
      omega
  -- the first one that does not go on
  have hex : ∃ J, ¬ go J ∧ ∀ i, i < J → go i := by
    have h1 : ∃ j, ¬ go j := by
      refine Classical.byContradiction fun q => ?_
      have := psB 21 (fun i _ => Classical.byContradiction fun w => q ⟨i, w⟩)
      omega
    obtain ⟨j, hj⟩ := h1
    obtain ⟨J, q1, q2⟩ := lst_ex (Q := fun j => ¬ go j) j hj
    exact ⟨J, q1, fun i hi => Classical.byContradiction (q2 i hi)⟩
  obtain ⟨J, hJ, hlt⟩ := hex
  have bJ := psB J hlt
  have hJ20 : J ≤ 20 := by omega
  obtain ⟨vw, dvw⟩ : ∃ vw : Nat → Int32, vw = fun j => 100 * R (ps j) + R (pB (ps j)) := ⟨_, rfl⟩
  have vwE : ∀ j u v, R (ps j) = nI u → R (pB (ps j)) = nI v → vw j = nI (100 * u + v) := by
    intro j u v q1 q2
    rw [dvw]
    show 100 * R (ps j) + R (pB (ps j)) = _
    rw [q1, q2, show (100 : Int32) = nI 100 from rfl, nI_mul, nI_add]
  have nz : ¬ nI z = 0 := fun q => z0 ((nI0 (by omega)).mp q)
  have c80 : ∀ j, j ≤ 20 → ¬ (80 : Int32) ≤ nI j := by
    intro j hj
    rw [show (80 : Int32) = nI 80 from rfl, nI_leI (by decide) (by omega)]
    omega
  -- one link, in the class
  have stepC : ∀ j, j ≤ 20 → ps j ≤ z → ok (ps j) → ∀ (k15 : Int32 → (Nat → Int32) → Int32 → Int32 → Option (Int32 × (Nat → Int32) × Int32 × Int32)), f_X5_readLinks_b15 (nI z) s n.2.2.2.1 n.2.2.2.2.1 n.2.2.2.2.2.2.2.2 k15 (nI j) (wdP vw w j) (nI j) (nI (ps j)) = (if pE (ps j) = z then some (1, wdP vw w (j + 1), nI (j + 1), nI (pE (ps j))) else if hr tp z (pE (ps j)) 44 then k15 (nI (j + 1)) (wdP vw w (j + 1)) (nI (j + 1)) (nI (ps (j + 1))) else some (0, wdP vw w (j + 1), nI (j + 1), nI (pE (ps j)))) := by
    intro j hj hpj hok k15
    obtain ⟨e1, e2, e3, e4, u, v, lu, lv, q1, q2⟩ := okE (ps j) hpj hok
    have g1 := hRG (ps j) hpj
    have g2 := hRG (pB (ps j)) e1
    rw [dok] at hok
    unfold f_X5_readLinks_b15
    rw [if_neg (c80 j hj), g1.2.2.1, sbind]
    dsimp only
    rw [if_neg (show ¬ R (ps j) < 0 by rw [q1]; exact neg_lt (by omega)), c_passes hz hs g1.2.1 62, sbind]
    dsimp only
    rw [if_pos hok.2.1, if_neg one0, if_pos hok.2.1, show G (ps j) + 1 = pB (ps j) by rw [dB], g2.2.2.1, sbind]
    dsimp only
    rw [if_pos (show 0 ≤ R (pB (ps j)) by rw [q2]; exact i_nlt.mp (neg_lt (by omega))), c_addWord (by omega), sbind]
    dsimp only
    rw [show G (pB (ps j)) = pE (ps j) by rw [dE], show 100 * R (ps j) + R (pB (ps j)) = vw j by rw [dvw], ← wdP_s]
    by_cases ez : pE (ps j) = z
    · rw [if_pos (by rw [ez]), if_pos ez]
    · rw [if_neg (fun q => ez ((nI_eq (by omega) (by omega)).mp q)), if_neg ez, c_passes hz hs e4 44, sbind]
      dsimp only
      by_cases hc : hr tp z (pE (ps j)) 44 = true
      · rw [if_pos hc, if_pos hc, if_neg one0, if_pos hc, nI_1, pss]
      · rw [if_neg hc, if_neg hc, if_pos rfl, if_neg hc]
  -- one link, in the reference
  have stepM : ∀ j, j ≤ 20 → ps j ≤ z → ok (ps j) → ∀ (k15 : Int32 → Int32 → Int32 → (Nat → Int32) → (Nat → Int32) → Option (Int32 × Int32 × (Nat → Int32) × (Nat → Int32))), f_X7_readsLinks_b15 tp (nI z) mem k15 (nI j) 1 (nI (ps j)) (wdP (fun j => R (ps j)) fr j) (wdP (fun j => R (pB (ps j))) to j) = k15 (nI (j + 1)) (if hr tp z (pE (ps j)) 44 then 1 else 0) (nI (if hr tp z (pE (ps j)) 44 then pE (ps j) + 1 else pE (ps j))) (wdP (fun j => R (ps j)) fr (j + 1)) (wdP (fun j => R (pB (ps j))) to (j + 1)) := by
    intro j hj hpj hok k15
    obtain ⟨e1, e2, e3, e4, u, v, lu, lv, q1, q2⟩ := okE (ps j) hpj hok
    have g1 := hRG (ps j) hpj
    have g2 := hRG (pB (ps j)) e1
    rw [dok] at hok
    unfold f_X7_readsLinks_b15
    rw [if_neg one0, g1.2.2.2.1, sbind]
    dsimp only
    rw [chk_nI (show j < 40 by omega) (by decide), chk_nI (show j < 40 by omega) (by decide), ix_nI (by omega), ← wdP_s (fun j => R (ps j)) fr j, wdP_at _ _ (show j < j + 1 by omega), if_neg (show ¬ R (ps j) < 0 by rw [q1]; exact neg_lt (by omega)), m_takes1 hz g1.2.1 62, sbind]
    dsimp only
    rw [if_pos hok.2.1, if_neg one0, if_pos hok.2.1, show G (ps j) + 1 = pB (ps j) by rw [dB], g2.2.2.2.1, sbind]
    dsimp only
    rw [chk_nI (show j < 40 by omega) (by decide), chk_nI (show j < 40 by omega) (by decide), ← wdP_s (fun j => R (pB (ps j))) to j, wdP_at _ _ (show j < j + 1 by omega), if_pos (show 0 ≤ R (pB (ps j)) by rw [q2]; exact i_nlt.mp (neg_lt (by omega))), show G (pB (ps j)) = pE (ps j) by rw [dE], m_takes1 hz e4 44, sbind, nI_1]
  have startC : f_X5_readLinks w wc (nI z) s nx n.2.2.2.1 n.2.2.2.2.1 n.2.2.2.2.2.2.2.2 = loopN (V := Int32 × (Nat → Int32) × Int32 × Int32) (fun rc v => f_X5_readLinks_b15 (nI z) s n.2.2.2.1 n.2.2.2.2.1 n.2.2.2.2.2.2.2.2 (fun x0_ x1_ x2_ x3_ => rc (x0_, x1_, x2_, x3_)) v.1 v.2.1 v.2.2.1 v.2.2.2) 200 (nI 0, wdP vw w 0, nI 0, nI (ps 0)) := by
    unfold f_X5_readLinks
    rw [if_neg nz, ps0]
    rfl
  have startM : f_X7_readsLinks tp 0 (nI z) mem fr to = loopN (V := Int32 × Int32 × Int32 × (Nat → Int32) × (Nat → Int32)) (fun rc v => f_X7_readsLinks_b15 tp (nI z) mem (fun x0_ x1_ x2_ x3_ x4_ => rc (x0_, x1_, x2_, x3_, x4_)) v.1 v.2.1 v.2.2.1 v.2.2.2.1 v.2.2.2.2) 200 (nI 0, 1, nI (ps 0), wdP (fun j => R (ps j)) fr 0, wdP (fun j => R (pB (ps j))) to 0) := by
    unfold f_X7_readsLinks
    rw [if_neg (show ¬ nI z ≤ 0 by rw [show (0 : Int32) = nI 0 from rfl, nI_leI (by omega) (by omega)]; omega), ps0]
    rfl
  have goC : ∀ j, j < J → ∀ rc : Int32 × (Nat → Int32) × Int32 × Int32 → Option (Int32 × (Nat → Int32) × Int32 × Int32), f_X5_readLinks_b15 (nI z) s n.2.2.2.1 n.2.2.2.2.1 n.2.2.2.2.2.2.2.2 (fun x0_ x1_ x2_ x3_ => rc (x0_, x1_, x2_, x3_)) (nI j) (wdP vw w j) (nI j) (nI (ps j)) = rc (nI (j + 1), wdP vw w (j + 1), nI (j + 1), nI (ps (j + 1))) := by
    intro j hj rc
    have g := hlt j hj
    rw [dgo] at g
    have bj := psB j (fun i hi => hlt i (by omega))
    have := hr_lt g.2
    rw [stepC j (by omega) bj.1 g.1, if_neg (by omega), if_pos g.2]
  have goM : ∀ j, j < J → ∀ rc : Int32 × Int32 × Int32 × (Nat → Int32) × (Nat → Int32) → Option (Int32 × Int32 × (Nat → Int32) × (Nat → Int32)), f_X7_readsLinks_b15 tp (nI z) mem (fun x0_ x1_ x2_ x3_ x4_ => rc (x0_, x1_, x2_, x3_, x4_)) (nI j) 1 (nI (ps j)) (wdP (fun j => R (ps j)) fr j) (wdP (fun j => R (pB (ps j))) to j) = rc (nI (j + 1), 1, nI (ps (j + 1)), wdP (fun j => R (ps j)) fr (j + 1), wdP (fun j => R (pB (ps j))) to (j + 1)) := by
    intro j hj rc
    have g := hlt j hj
    rw [dgo] at g
    have bj := psB j (fun i hi => hlt i (by omega))
    rw [stepM j (by omega) bj.1 g.1, if_pos g.2, if_pos g.2, pss]
  by_cases hok : ok (ps J)
  · -- the last link is read
    obtain ⟨e1, e2, e3, e4, u, v, lu, lv, q1, q2⟩ := okE (ps J) bJ.1 hok
    have nc : ¬ hr tp z (pE (ps J)) 44 = true := fun q => hJ (by rw [dgo]; exact ⟨hok, q⟩)
    have M : ∀ res, (∀ rc : Int32 × Int32 × Int32 × (Nat → Int32) × (Nat → Int32) → Option (Int32 × Int32 × (Nat → Int32) × (Nat → Int32)), f_X7_readsLinks_b15 tp (nI z) mem (fun x0_ x1_ x2_ x3_ x4_ => rc (x0_, x1_, x2_, x3_, x4_)) (nI (J + 1)) 0 (nI (pE (ps J))) (wdP (fun j => R (ps j)) fr (J + 1)) (wdP (fun j => R (pB (ps j))) to (J + 1)) = res) → f_X7_readsLinks tp 0 (nI z) mem fr to = res := by
      intro res hres
      rw [startM]
      refine loop_go (fun j => if j ≤ J then (nI j, 1, nI (ps j), wdP (fun j => R (ps j)) fr j, wdP (fun j => R (pB (ps j))) to j) else (nI (J + 1), 0, nI (pE (ps J)), wdP (fun j => R (ps j)) fr (J + 1), wdP (fun j => R (pB (ps j))) to (J + 1))) (J + 1) 200 (by omega) (by rw [if_pos (Nat.zero_le _)]) ?_ ?_
      · intro j hj rc
        by_cases ej : j = J
        · subst ej
          rw [if_pos (Nat.le_refl j), if_neg (by omega)]
          show f_X7_readsLinks_b15 _ _ _ _ _ _ _ _ _ = _
          dsimp only
          rw [stepM j hJ20 bJ.1 hok, if_neg nc, if_neg nc]
        · rw [if_pos (by omega), if_pos (by omega)]
          exact goM j (by omega) rc
      · intro rc
        rw [if_neg (by omega)]
        exact hres rc
    by_cases ez : pE (ps J) = z
    · right
      refine ⟨wdP vw w (J + 1), pE (ps J), J + 1, wdP (fun j => R (ps j)) fr (J + 1), wdP (fun j => R (pB (ps j))) to (J + 1), pE (ps J), by omega, ?_, ?_, ?_⟩
      · rw [startC]
        refine loop_go (fun j => (nI j, wdP vw w j, nI j, nI (ps j))) J 200 (by omega) rfl goC ?_
        intro rc
        show f_X5_readLinks_b15 _ _ _ _ _ _ _ _ _ _ = _
        dsimp only
        rw [stepC J hJ20 bJ.1 hok, if_pos ez]
      · apply M
        intro rc
        unfold f_X7_readsLinks_b15
        rw [if_pos rfl, if_pos (by rw [ez]; exact yle _ (by omega))]
      · intro j hj
        have bj := psB j (fun i hi => hlt i (by omega))
        have hokj : ok (ps j) := by
          by_cases ej : j = J
          · rw [ej]; exact hok
          · have := hlt j (by omega)
            rw [dgo] at this
            exact this.1
        obtain ⟨_, _, _, _, u, v, lu, lv, q1, q2⟩ := okE (ps j) bj.1 hokj
        exact ⟨u, v, lu, lv, by rw [wdP_at _ _ hj]; exact vwE j u v q1 q2, by rw [wdP_at _ _ hj]; exact q1, by rw [wdP_at _ _ hj]; exact q2⟩
    · left
      refine ⟨wdP vw w (J + 1), nI (J + 1), pE (ps J), wdP (fun j => R (ps j)) fr (J + 1), wdP (fun j => R (pB (ps j))) to (J + 1), ?_, ?_⟩
      · rw [startC]
        refine loop_go (fun j => (nI j, wdP vw w j, nI j, nI (ps j))) J 200 (by omega) rfl goC ?_
        intro rc
        show f_X5_readLinks_b15 _ _ _ _ _ _ _ _ _ _ = _
        dsimp only
        rw [stepC J hJ20 bJ.1 hok, if_neg ez, if_neg nc]
      · apply M
        intro rc
        unfold f_X7_readsLinks_b15
        rw [if_pos rfl, if_neg (nle (show pE (ps J) < z by omega) (by omega))]
  · -- it is not
    left
    have g1 := hRG (ps J) bJ.1
    by_cases h1 : R (ps J) = -1
    · refine ⟨wdP vw w J, nI J, G (ps J), upd (wdP (fun j => R (ps j)) fr J) J (-1), wdP (fun j => R (pB (ps j))) to J, ?_, ?_⟩
      · rw [startC]
        refine loop_go (fun j => (nI j, wdP vw w j, nI j, nI (ps j))) J 200 (by omega) rfl goC ?_
        intro rc
        show f_X5_readLinks_b15 _ _ _ _ _ _ _ _ _ _ = _
        unfold f_X5_readLinks_b15
        dsimp only
        rw [if_neg (c80 J hJ20), g1.2.2.1, sbind]
        dsimp only
        rw [if_pos (show R (ps J) < 0 by rw [h1]; decide)]
      · rw [startM]
        refine loop_go (fun j => (nI j, 1, nI (ps j), wdP (fun j => R (ps j)) fr j, wdP (fun j => R (pB (ps j))) to j)) J 200 (by omega) rfl goM ?_
        intro rc
        show f_X7_readsLinks_b15 _ _ _ _ _ _ _ _ _ = _
        unfold f_X7_readsLinks_b15
        dsimp only
        rw [if_neg one0, g1.2.2.2.1, sbind]
        dsimp only
        rw [chk_nI (show J < 40 by omega) (by decide), chk_nI (show J < 40 by omega) (by decide), ix_nI (by omega), h1, updN, if_pos (show (-1 : Int32) < 0 by decide)]
    · have ht : ∃ t, R (ps J) = nI t ∧ t < 24 := by
        rcases g1.2.2.2.2 with q | ⟨_, t, q1, q2⟩
        · exact absurd q h1
        · exact ⟨t, q1, W_lt hW q2⟩
      obtain ⟨t, ht, lt⟩ := ht
      have nn : ¬ R (ps J) < 0 := by rw [ht]; exact neg_lt (by omega)
      by_cases h2 : hr tp z (G (ps J)) 62 = true
      · have l1 := hr_lt h2
        have eB : pB (ps J) = G (ps J) + 1 := by rw [dB]
        have g2 := hRG (pB (ps J)) (by omega)
        have h3 : R (pB (ps J)) = -1 := Classical.byContradiction fun q => hok (by rw [dok]; exact ⟨h1, h2, q⟩)
        refine ⟨wdP vw w J, nI J, G (pB (ps J)), wdP (fun j => R (ps j)) fr (J + 1), upd (wdP (fun j => R (pB (ps j))) to J) J (-1), ?_, ?_⟩
        · rw [startC]
          refine loop_go (fun j => (nI j, wdP vw w j, nI j, nI (ps j))) J 200 (by omega) rfl goC ?_
          intro rc
          show f_X5_readLinks_b15 _ _ _ _ _ _ _ _ _ _ = _
          unfold f_X5_readLinks_b15
          dsimp only
          rw [if_neg (c80 J hJ20), g1.2.2.1, sbind]
          dsimp only
          rw [if_neg nn, c_passes hz hs g1.2.1 62, sbind]
          dsimp only
          rw [if_pos h2, if_neg one0, if_pos h2, ← eB, g2.2.2.1, sbind]
          dsimp only
          rw [if_neg (show ¬ 0 ≤ R (pB (ps J)) by rw [h3]; decide)]
        · rw [startM]
          refine loop_go (fun j => (nI j, 1, nI (ps j), wdP (fun j => R (ps j)) fr j, wdP (fun j => R (pB (ps j))) to j)) J 200 (by omega) rfl goM ?_
          intro rc
          show f_X7_readsLinks_b15 _ _ _ _ _ _ _ _ _ = _
          unfold f_X7_readsLinks_b15
          dsimp only
          rw [if_neg one0, g1.2.2.2.1, sbind]
          dsimp only
          rw [chk_nI (show J < 40 by omega) (by decide), chk_nI (show J < 40 by omega) (by decide), ix_nI (by omega), updN, if_neg nn, m_takes1 hz g1.2.1 62, sbind]
          dsimp only
          rw [if_pos h2, if_neg one0, if_pos h2, ← eB, g2.2.2.2.1, sbind]
          dsimp only
          rw [chk_nI (show J < 40 by omega) (by decide), chk_nI (show J < 40 by omega) (by decide), h3, updN, if_neg (show ¬ (0 : Int32) ≤ -1 by decide), ← wdP_s (fun j => R (ps j)) fr J]
      · refine ⟨wdP vw w J, nI J, G (ps J), wdP (fun j => R (ps j)) fr (J + 1), wdP (fun j => R (pB (ps j))) to J, ?_, ?_⟩
        · rw [startC]
          refine loop_go (fun j => (nI j, wdP vw w j, nI j, nI (ps j))) J 200 (by omega) rfl goC ?_
          intro rc
          show f_X5_readLinks_b15 _ _ _ _ _ _ _ _ _ _ = _
          unfold f_X5_readLinks_b15
          dsimp only
          rw [if_neg (c80 J hJ20), g1.2.2.1, sbind]
          dsimp only
          rw [if_neg nn, c_passes hz hs g1.2.1 62, sbind]
          dsimp only
          rw [if_neg h2, if_pos rfl, if_neg h2]
        · rw [startM]
          refine loop_go (fun j => (nI j, 1, nI (ps j), wdP (fun j => R (ps j)) fr j, wdP (fun j => R (pB (ps j))) to j)) J 200 (by omega) rfl goM ?_
          intro rc
          show f_X7_readsLinks_b15 _ _ _ _ _ _ _ _ _ = _
          unfold f_X7_readsLinks_b15
          dsimp only
          rw [if_neg one0, g1.2.2.2.1, sbind]
          dsimp only
          rw [chk_nI (show J < 40 by omega) (by decide), chk_nI (show J < 40 by omega) (by decide), ix_nI (by omega), updN, if_neg nn, m_takes1 hz g1.2.1 62, sbind]
          dsimp only
          rw [if_neg h2, if_pos rfl, if_neg h2, ← wdP_s (fun j => R (ps j)) fr J]
