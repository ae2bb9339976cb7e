/-! PURE 98a: the terms matched, in the class, given what a search does -/
def FF (n : ND) (a : AN) : Prop := ∀ (ah cf q : Nat → Int32) (A : Nat → Nat) (P : Nat → Bool) (W : Nat → Prop) (l : Nat), MtA ah A → GI a P A W → aAl a l = true → P l = false → (∃ cf' q' W', f_X1_findFollower ah cf q n.1 n.2.1 (nI (aS a)) (nI l) = some (0, ah, cf', q') ∧ Cl a A W' ∧ ∀ r, r < 24 → Ed a l r → W' r) ∨ (∃ ah' A' cf' q', f_X1_findFollower ah cf q n.1 n.2.1 (nI (aS a)) (nI l) = some (1, ah', cf', q') ∧ MtA ah' A' ∧ (∀ r, r < 24 → W r → A' r = A r) ∧ (∀ r, r < 24 → A' r = A r ∨ (A' r < 24 ∧ aAl a (A' r) = true ∧ Ed a (A' r) r)) ∧ (∀ k, k < 24 → occ A' k = occ A k + (if l = k then 1 else 0)))
noncomputable def byO (a : AN) (j : Nat) : Nat → Bool := fun k => pb (∃ p, p < j ∧ aO a p = k)
theorem byO_s (a : AN) (j : Nat) : byO a (j + 1) = Pp (byO a j) (aO a j) := by
  funext k
  apply Bool.eq_iff_iff.mpr
  rw [Pp_1]
  unfold byO
  rw [pb_iff, pb_iff]
  constructor
  · rintro ⟨p, hp, e⟩
    by_cases ej : p = j
    · right; rw [← e, ej]
    · exact .inl ⟨p, by omega, e⟩
  · rintro (⟨p, hp, e⟩ | e)
    · exact ⟨p, by omega, e⟩
    · exact ⟨j, by omega, e.symm⟩
theorem c_match {n : ND} {a : AN} (hC : CN n a) (hW : WA a) (hF : FF n a) (ah cf q : Nat → Int32) : ∃ A W ah' cf' q', f_X1_matchBelow ah cf q n.1 n.2.1 (nI (aS a)) = some (nI (dm A), ah', cf', q') ∧ GI a (byO a (aS a)) A W := by
  have s24 := hW.1
  obtain ⟨fr, dfr⟩ : ∃ fr : Nat → Nat → Int32, fr = fun j => itr (fun k f => upd f k (-1)) ah j := ⟨_, rfl⟩
  have fr0 : fr 0 = ah := by rw [dfr]; rfl
  have frs : ∀ j, fr (j + 1) = upd (fr j) j (-1) := by intro j; rw [dfr]; rfl
  have frA : ∀ j k, k < j → fr j k = -1 := by
    intro j
    induction j with
    | zero => intro k hk; exact absurd hk (Nat.not_lt_zero _)
    | succ j ih =>
      intro k hk
      rw [frs]
      by_cases e : k = j
      · rw [e, updN]
      · rw [updO e]; exact ih k (by omega)
  have s1 : f_X1_matchBelow ah cf q n.1 n.2.1 (nI (aS a)) = f_X1_matchBelow_l25 n.1 n.2.1 (nI (aS a)) 0 0 (fr 24) cf q := by
    unfold f_X1_matchBelow f_X1_matchBelow_l2
    refine loop_go (fun j => (nI j, fr j)) 24 200 (by decide) (by rw [fr0]; rfl) ?_ ?_
    · intro j hj rc
      show f_X1_matchBelow_b2 _ _ _ _ _ _ _ _ = _
      unfold f_X1_matchBelow_b2
      dsimp only
      rw [if_neg (n24 hj), chk_nI hj (by decide), ix_nI (by omega), nI_1, frs]
    · intro rc
      show f_X1_matchBelow_b2 _ _ _ _ _ _ _ _ = _
      unfold f_X1_matchBelow_b2
      dsimp only
      rw [if_pos y24]
  rw [s1]
  unfold f_X1_matchBelow_l25
  have key := loop_rel (body := fun (_ : Unit) rc (v : Int32 × Int32 × (Nat → Int32) × (Nat → Int32) × (Nat → Int32)) => f_X1_matchBelow_b25 n.1 n.2.1 (nI (aS a)) (fun x0_ x1_ x2_ x3_ x4_ => rc (x0_, x1_, x2_, x3_, x4_)) v.1 v.2.1 v.2.2.1 v.2.2.2.1 v.2.2.2.2) (fun _ (r : Int32 × (Nat → Int32) × (Nat → Int32) × (Nat → Int32)) => some r) (fun rv => ∃ A W ah' cf' q', rv = (nI (dm A), ah', cf', q') ∧ GI a (byO a (aS a)) A W) (aS a) 200 (fun j v => ∃ A W ah' cf' q', v = (nI (dm A), nI j, ah', cf', q') ∧ MtA ah' A ∧ GI a (byO a j) A W) (by omega) ?_ (0, 0, fr 24, cf, q) ?_
  · obtain ⟨rv, ⟨A, W, ah', cf', q', h1, h2⟩, h4⟩ := key
    exact ⟨A, W, ah', cf', q', by rw [← h1]; exact h4 (), h2⟩
  · rintro j _ hj ⟨A, W, ah', cf', q', rfl, q1, q2⟩
    by_cases ej : j = aS a
    · left
      subst ej
      refine ⟨_, ⟨A, W, ah', cf', q', rfl, q2⟩, ?_⟩
      intro _ rc
      unfold f_X1_matchBelow_b25
      dsimp only
      rw [if_pos (yle _ (by omega))]
    · have lj : j < aS a := by omega
      have al := W_al hW lj
      have lo := W_lt hW al
      have pj : byO a j (aO a j) = false := Bool.eq_false_iff.mpr (fun w => by
        obtain ⟨p, hp, e⟩ := pb_iff.mp w
        have := hW.2.2.2.2.1 p j (by omega) lj e
        omega)
      right
      refine ⟨lj, ?_⟩
      rcases hF ah' cf' q' A (byO a j) W (aO a j) q1 q2 al pj with ⟨cf2, q3, W', f1, f2, f3⟩ | ⟨ah2, A2, cf2, q3, f1, f2, f3, f4, f5⟩
      · refine ⟨_, ⟨A, fun r => W r ∨ W' r, ah', cf2, q3, rfl, q1, by rw [byO_s]; exact GI_n q2 f2 f3⟩, ?_⟩
        intro _ rc
        unfold f_X1_matchBelow_b25
        dsimp only
        rw [if_neg (nle lj (by omega)), chk_nI (by omega) (by decide), ix_nI (by omega), hC.2.1 j lj, f1, sbind]
        dsimp only
        rw [if_pos rfl, nI_1]
      · have g := GI_y q2 lo pj f3 f4 f5
        refine ⟨_, ⟨A2, W, ah2, cf2, q3, rfl, f2, by rw [byO_s]; exact g.1⟩, ?_⟩
        intro _ rc
        unfold f_X1_matchBelow_b25
        dsimp only
        rw [if_neg (nle lj (by omega)), chk_nI (by omega) (by decide), ix_nI (by omega), hC.2.1 j lj, f1, sbind]
        dsimp only
        rw [if_neg one0, nI_1, nI_1, g.2]
  · have g0 := GI_0 a
    refine ⟨fun _ => 24, fun _ => False, fr 24, cf, q, ?_, fun r hr => .inr ⟨rfl, frA 24 r hr⟩, ?_⟩
    · rw [g0.2]
      rfl
    · rw [show byO a 0 = fun _ => false from funext fun k => Bool.eq_false_iff.mpr (fun w => by obtain ⟨p, hp, _⟩ := pb_iff.mp w; omega)]
      exact g0.1
