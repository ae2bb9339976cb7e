/-! PURE 98: the longest chain, both ways -/
theorem most_eq {a : AN} (hW : WA a) : gm (fun _ => true) (fun p => mx (tr (aNr a)) (aO a p) + 1) (aS a) = gm (aAl a) (fun t => mx (aNr a) t + 1) 24 := by
  have hB : ∀ n x y, Wk (aNr a) n x y → n ≤ 23 := fun n x y h => Wk_23 hW h
  have hB' := tr24 hW
  apply Nat.le_antisymm
  · rcases gm_ex (fun _ => true) (fun p => mx (tr (aNr a)) (aO a p) + 1) (aS a) with h | ⟨p, h1, _, h3⟩
    · omega
    · rw [h3]
      have al := hW.2.2.2.1 p h1
      obtain ⟨u, hu⟩ := (mx_spec hB' (aO a p)).1
      have hu' := Wk_tr.mp hu
      have alu := (Wk_al hW hu').mpr al
      have q := (mx_spec hB u).2 _ _ hu'
      have g := gm_ge (aAl a) (fun t => mx (aNr a) t + 1) 24 u (W_lt hW alu) alu
      have g' : mx (aNr a) u + 1 ≤ gm (aAl a) (fun t => mx (aNr a) t + 1) 24 := g
      show mx (tr (aNr a)) (aO a p) + 1 ≤ _
      omega
  · rcases gm_ex (aAl a) (fun t => mx (aNr a) t + 1) 24 with h | ⟨t, h1, h2, h3⟩
    · omega
    · rw [h3]
      obtain ⟨u, hu⟩ := (mx_spec hB t).1
      have alu := (Wk_al hW hu).mp h2
      obtain ⟨p, hp, ep⟩ := hW.2.2.2.2.2.1 u alu
      have q := (mx_spec hB' u).2 _ _ (Wk_tr.mpr hu)
      have g := gm_ge (fun _ => true) (fun p => mx (tr (aNr a)) (aO a p) + 1) (aS a) p hp rfl
      have g' : mx (tr (aNr a)) (aO a p) + 1 ≤ gm (fun _ => true) (fun p => mx (tr (aNr a)) (aO a p) + 1) (aS a) := g
      rw [ep] at g'
      show mx (aNr a) t + 1 ≤ _
      omega
