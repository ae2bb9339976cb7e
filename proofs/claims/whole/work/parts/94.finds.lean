/-! PURE 94: a follower found, in the reference -/
def Ed (a : AN) (l r : Nat) : Prop := Rc (aNr a) l r ∧ ¬ r = l
def MtA (ah : Nat → Int32) (A : Nat → Nat) : Prop := ∀ r, r < 24 → (A r < 24 ∧ ah r = nI (A r)) ∨ (A r = 24 ∧ ah r = -1)
def Cl (a : AN) (A : Nat → Nat) (W : Nat → Prop) : Prop := ∀ r, r < 24 → W r → A r < 24 ∧ ∀ r', r' < 24 → Ed a (A r) r' → W r'
def occ (A : Nat → Nat) (l : Nat) : Nat := cnt (fun r => decide (A r = l)) 24
def put (A : Nat → Nat) (r p : Nat) : Nat → Nat := fun k => if k = r then p else A k
theorem occ_put (A : Nat → Nat) {r : Nat} (hr : r < 24) (p l : Nat) : occ (put A r p) l + (if A r = l then 1 else 0) = occ A l + (if p = l then 1 else 0) := by
  unfold occ
  have e0 : ∀ k, k ≠ r → decide (put A r p k = l) = decide (A k = l) := by
    intro k hk
    unfold put
    rw [if_neg hk]
  have er : put A r p r = p := by unfold put; rw [if_pos rfl]
  by_cases h1 : A r = l
  · by_cases h2 : p = l
    · rw [if_pos h1, if_pos h2, cnt_congr 24 (P := fun k => decide (put A r p k = l)) (Q := fun k => decide (A k = l)) ?_]
      intro k _
      by_cases hk : k = r
      · rw [hk, er, h1, h2]
      · exact e0 k hk
    · rw [if_pos h1, if_neg h2, cnt_add (P := fun k => decide (put A r p k = l)) (Q := fun k => decide (A k = l)) hr (by rw [er]; exact decide_eq_false h2) (decide_eq_true h1) (fun k _ hk => (e0 k hk).symm)]
  · by_cases h2 : p = l
    · rw [if_neg h1, if_pos h2, cnt_add (P := fun k => decide (A k = l)) (Q := fun k => decide (put A r p k = l)) hr (decide_eq_false h1) (by rw [er]; exact decide_eq_true h2) (fun k _ hk => e0 k hk)]
    · rw [if_neg h1, if_neg h2, cnt_congr 24 (P := fun k => decide (put A r p k = l)) (Q := fun k => decide (A k = l)) ?_]
      intro k _
      by_cases hk : k = r
      · rw [hk, er, decide_eq_false h1, decide_eq_false h2]
      · exact e0 k hk
theorem MTput {ah : Nat → Int32} {A : Nat → Nat} (h : MtA ah A) (r : Nat) {p : Nat} (hp : p < 24) : MtA (upd ah r (nI p)) (put A r p) := by
  intro k hk
  unfold put
  by_cases e : k = r
  · rw [e, updN, if_pos rfl]
    exact .inl ⟨hp, rfl⟩
  · rw [updO e, if_neg e]
    exact h k hk
/-- how a search ends: none found -/
def FsN (a : AN) (A : Nat → Nat) (T T' : Nat → Bool) (p : Nat) : Prop := (∀ r, T r = true → T' r = true) ∧ (∀ r, r < 24 → Ed a p r → T' r = true) ∧ (∀ r, r < 24 → T' r = true → T r = true ∨ (A r < 24 ∧ ∀ r', r' < 24 → Ed a (A r) r' → T' r' = true))
/-- or one found -/
def FsY (a : AN) (A A' : Nat → Nat) (T : Nat → Bool) (p : Nat) : Prop := (∀ r, r < 24 → T r = true → A' r = A r) ∧ (∀ W, Cl a A W → (∀ r, r < 24 → W r → A' r = A r) ∧ ¬ (∀ r, r < 24 → Ed a p r → W r)) ∧ (∀ r, r < 24 → A' r = A r ∨ (A' r < 24 ∧ aAl a (A' r) = true ∧ Ed a (A' r) r)) ∧ (∀ l, l < 24 → occ A' l = occ A l + (if p = l then 1 else 0))
theorem m_finds {mem : Nat → Int32} {a : AN} (hM : MN mem 0 a) (hW : WA a) : ∀ (d : Nat) (ah : Nat → Int32) (A : Nat → Nat) (T : Nat → Bool) (p : Nat), MtA ah A → aAl a p = true → (∀ r, r < 24 → A r < 24 → aAl a (A r) = true) → 24 < d + cnt T 24 → (∃ T', f_X7_finds d mem ah (bset T 24) (nI p) = some (0, ah, bset T' 24) ∧ FsN a A T T' p) ∨ (∃ ah' A' T', f_X7_finds d mem ah (bset T 24) (nI p) = some (1, ah', bset T' 24) ∧ MtA ah' A' ∧ FsY a A A' T p) := by
  intro d
  induction d with
  | zero =>
    intro ah A T p _ _ _ h
    have := cnt_le T 24
    omega
  | succ d ih =>
    intro ah A T p hA hp hal hd
    have lp := W_lt hW hp
    have eS : f_X7_finds (d + 1) mem ah (bset T 24) (nI p) = f_X7_finds_l15 (f_X7_finds d) mem (nI p) (bsP (Ed a p)) 0 ah (bset T 24) := by
      show fm_X7_finds (f_X7_finds d) mem ah (bset T 24) (nI p) = _
      unfold fm_X7_finds
      rw [Mb hM hW lp, sbind, bsP_one lp, bsP_not]
      rfl
    have key : ∃ rv : Int32 × (Nat → Int32) × Int32, ((∃ T', rv = (0, ah, bset T' 24) ∧ FsN a A T T' p) ∨ (∃ ah' A' T', rv = (1, ah', bset T' 24) ∧ MtA ah' A' ∧ FsY a A A' T p)) ∧ ∀ _ : Unit, loopN (fun rc (v : Int32 × Int32 × (Nat → Int32) × Int32) => f_X7_finds_b15 (f_X7_finds d) mem (nI p) (fun x0_ x1_ x2_ x3_ => rc (x0_, x1_, x2_, x3_)) v.1 v.2.1 v.2.2.1 v.2.2.2) 200 (bsP (Ed a p), nI 0, ah, bset T 24) = some rv := by
      refine loop_rel (body := fun (_ : Unit) rc (v : Int32 × Int32 × (Nat → Int32) × Int32) => f_X7_finds_b15 (f_X7_finds d) mem (nI p) (fun x0_ x1_ x2_ x3_ => rc (x0_, x1_, x2_, x3_)) v.1 v.2.1 v.2.2.1 v.2.2.2) (fun _ (r : Int32 × (Nat → Int32) × Int32) => some r) (fun rv => (∃ T', rv = (0, ah, bset T' 24) ∧ FsN a A T T' p) ∨ (∃ ah' A' T', rv = (1, ah', bset T' 24) ∧ MtA ah' A' ∧ FsY a A A' T p)) 24 200 (fun j v => ∃ T', v = (bsP (Ed a p), nI j, ah, bset T' 24) ∧ (∀ r, T r = true → T' r = true) ∧ (∀ r, r < j → Ed a p r → T' r = true) ∧ (∀ r, r < 24 → T' r = true → T r = true ∨ (A r < 24 ∧ ∀ r', r' < 24 → Ed a (A r) r' → T' r' = true))) (by decide) ?_ _ ⟨T, rfl, fun _ h => h, fun r hr => absurd hr (Nat.not_lt_zero _), fun r _ h => .inl h⟩
      rintro j _ hj ⟨T', rfl, t1, t2, t3⟩
      by_cases e24 : j = 24
      · left
        refine ⟨(0, ah, bset T' 24), .inl ⟨T', rfl, t1, fun r hr h => t2 r (by omega) h, t3⟩, ?_⟩
        intro _ rc
        unfold f_X7_finds_b15
        dsimp only
        rw [if_pos (by rw [e24]; decide)]
      · have lj : j < 24 := by omega
        by_cases hE : Ed a p j
        · by_cases hT : T' j = true
          · right
            refine ⟨lj, _, ⟨T', rfl, t1, ?_, t3⟩, ?_⟩
            · intro r hr h
              by_cases e : r = j
              · rw [e]; exact hT
              · exact t2 r (by omega) h
            · intro _ rc
              unfold f_X7_finds_b15
              dsimp only
              rw [if_neg (n24 lj), if_neg (by rw [bsP_has lj]; exact fun w => w hE), if_neg (by rw [has0 (by omega), bt24 _ lj, hT]; decide), nI_1]
          · have hT : T' j = false := Bool.eq_false_iff.mpr hT
            have nT : T j = false := Bool.eq_false_iff.mpr (fun w => by rw [t1 j w] at hT; exact absurd hT (by decide))
            obtain ⟨T2, dT2⟩ : ∃ T2 : Nat → Bool, T2 = fun k => T' k || decide (k = j) := ⟨_, rfl⟩
            have T2j : T2 j = true := by rw [dT2]; show (T' j || decide (j = j)) = true; rw [decide_eq_true rfl, Bool.or_true]
            have T2s : ∀ r, T' r = true → T2 r = true := by intro r h; rw [dT2]; show (T' r || decide (r = j)) = true; rw [h, Bool.true_or]
            have T2o : ∀ r, r ≠ j → T2 r = T' r := by intro r h; rw [dT2]; show (T' r || decide (r = j)) = _; rw [decide_eq_false h, Bool.or_false]
            have cT : cnt T 24 ≤ cnt T' 24 := cnt_sub (fun k _ h => t1 k h)
            have cT2 : cnt T2 24 = cnt T' 24 + 1 := cnt_add lj hT T2j (fun k _ hk => T2o k hk)
            have stB : ∀ k15, f_X7_finds_b15 (f_X7_finds d) mem (nI p) k15 (bsP (Ed a p)) (nI j) ah (bset T' 24) = if ah j < 0 then f_X7_finds_b77 (f_X7_finds d) mem (nI p) (nI j) ah (bset T2 24) else (f_X7_finds d mem ah (bset T2 24) (ah j)).bind (fun r5 => if r5.1 = 0 then k15 (bsP (Ed a p)) (nI (j + 1)) r5.2.1 r5.2.2 else f_X7_finds_b77 (f_X7_finds d) mem (nI p) (nI j) r5.2.1 r5.2.2) := by
              intro k15
              unfold f_X7_finds_b15
              rw [if_neg (n24 lj), if_neg (by rw [bsP_has lj]; exact fun w => w hE), if_pos (by rw [has0 (by omega), bt24 _ lj]; exact hT), chk_nI lj (by decide), chk_nI lj (by decide), ix_nI (by omega), bset_on _ lj (by omega), ← dT2, nI_1]
            have b77 : ∀ ah1 x, f_X7_finds_b77 (f_X7_finds d) mem (nI p) (nI j) ah1 x = some (1, upd ah1 j (nI p), x) := by
              intro ah1 x
              unfold f_X7_finds_b77
              rw [chk_nI lj (by decide), ix_nI (by omega)]
            rcases hA j lj with ⟨m1, m2⟩ | ⟨m1, m2⟩
            · -- taken
              have nneg : ¬ ah j < 0 := by rw [m2]; exact neg_lt (by omega)
              rcases ih ah A T2 (A j) hA (hal j lj m1) hal (by omega) with ⟨T3, f1, f2, f3, f4⟩ | ⟨ah1, A1, T3, f1, f2, f3, f4, f5, f6⟩
              · right
                refine ⟨lj, _, ⟨T3, rfl, fun r h => f2 r (T2s r (t1 r h)), ?_, ?_⟩, ?_⟩
                · intro r hr h
                  by_cases e : r = j
                  · rw [e]; exact f2 j T2j
                  · exact f2 r (T2s r (t2 r (by omega) h))
                · intro r hr h
                  rcases f4 r hr h with g | g
                  · by_cases e : r = j
                    · rw [e]
                      exact .inr ⟨m1, f3⟩
                    · rw [T2o r e] at g
                      rcases t3 r hr g with q | ⟨q1, q2⟩
                      · exact .inl q
                      · exact .inr ⟨q1, fun r' hr' h' => f2 r' (T2s r' (q2 r' hr' h'))⟩
                  · exact .inr g
                · intro _ rc
                  dsimp only
                  rw [stB, if_neg nneg, m2, f1, sbind]
                  dsimp only
                  rw [if_pos rfl]
              · left
                refine ⟨(1, upd ah1 j (nI p), bset T3 24), .inr ⟨_, put A1 j p, T3, rfl, MTput f2 j lp, ?_, ?_, ?_, ?_⟩, ?_⟩
                · intro r hr h
                  have e : r ≠ j := fun e => by rw [e, nT] at h; exact absurd h (by decide)
                  unfold put
                  rw [if_neg e]
                  exact f3 r hr (T2s r (t1 r h))
                · intro W hWc
                  have nj : ¬ W j := fun w => (f4 W hWc).2 (hWc j lj w).2
                  refine ⟨?_, fun w => nj (w j lj hE)⟩
                  intro r hr h
                  have e : r ≠ j := fun e => nj (e ▸ h)
                  unfold put
                  rw [if_neg e]
                  exact (f4 W hWc).1 r hr h
                · intro r hr
                  by_cases e : r = j
                  · right
                    unfold put
                    rw [if_pos e, e]
                    exact ⟨lp, hp, hE⟩
                  · unfold put
                    rw [if_neg e]
                    exact f5 r hr
                · intro l hl
                  have o1 := occ_put A1 lj p l
                  have o2 := f6 l hl
                  rw [f3 j lj T2j] at o1
                  omega
                · intro _ rc
                  dsimp only
                  rw [stB, if_neg nneg, m2, f1, sbind]
                  dsimp only
                  rw [if_neg one0, b77]
            · -- free
              left
              refine ⟨(1, upd ah j (nI p), bset T2 24), .inr ⟨_, put A j p, T2, rfl, MTput hA j lp, ?_, ?_, ?_, ?_⟩, ?_⟩
              · intro r hr h
                have e : r ≠ j := fun e => by rw [e, nT] at h; exact absurd h (by decide)
                unfold put
                rw [if_neg e]
              · intro W hWc
                have nj : ¬ W j := fun w => by have := (hWc j lj w).1; omega
                refine ⟨?_, fun w => nj (w j lj hE)⟩
                intro r hr h
                have e : r ≠ j := fun e => nj (e ▸ h)
                unfold put
                rw [if_neg e]
              · intro r hr
                by_cases e : r = j
                · right
                  unfold put
                  rw [if_pos e, e]
                  exact ⟨lp, hp, hE⟩
                · unfold put
                  rw [if_neg e]
                  exact .inl rfl
              · intro l hl
                have o1 := occ_put A lj p l
                rw [m1, if_neg (show ¬ 24 = l by omega)] at o1
                omega
              · intro _ rc
                dsimp only
                rw [stB, if_pos (by rw [m2]; decide), b77]
        · right
          refine ⟨lj, _, ⟨T', rfl, t1, ?_, t3⟩, ?_⟩
          · intro r hr h
            by_cases e : r = j
            · exact absurd (e ▸ h) hE
            · exact t2 r (by omega) h
          · intro _ rc
            unfold f_X7_finds_b15
            dsimp only
            rw [if_neg (n24 lj), if_pos ((bsP_has lj).mpr hE), nI_1]
    obtain ⟨rv, h1, h2⟩ := key
    have h2 := h2 ()
    rw [eS]
    rcases h1 with ⟨T', rfl, h⟩ | ⟨ah', A', T', rfl, h⟩
    · exact .inl ⟨T', h2, h⟩
    · exact .inr ⟨ah', A', T', h2, h⟩
