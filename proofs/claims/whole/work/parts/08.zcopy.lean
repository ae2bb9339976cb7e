section ZCP
variable {p : Program} {l : Launch} {e : Env} {R : Room} {s : State} {m : MethodId} {args : Array Value} {below : List Frame} {meth : Method} {c : Code} {cells slots : Nat} {Q : State → Prop}
variable {D : va_G} {cl : List vw_C} {tys : List (ClassId × FieldType)} {A : Nat → Prop} {nL : Nat} {cc : ByteArray} {own : String} {ret : Option FieldType} {ws ws' : va_W} {lv lv' : List (Nat × Value)} {st st' : List Value} {pc tgt : Nat}
theorem va_P_swap {q q' : Nat × va_E} {H : Heap} {k : Nat} (hP : va_P D cl (ws.set k q) H) (hq : va_at D cl q H → va_at D cl q' H) (hk : k < ws.length) : va_P D cl (ws.set k q') H := by
  intro j z hz
  by_cases e : k = j
  · subst e
    rw [List.getElem?_set_self hk] at hz
    cases hz
    exact hq (hP k q (List.getElem?_set_self hk))
  · rw [List.getElem?_set_ne e] at hz
    exact hP j z (by rw [List.getElem?_set_ne e]; exact hz)
theorem va_D_swap {q q' : Nat × va_E} {k : Nat} (hD : va_D A (ws.set k q)) (hq : q.1 = q'.1) : va_D A (ws.set k q') := by
  refine va_D_fst hD ?_
  rw [List.map_set, List.map_set, hq]
theorem arrV_congr {cA : ClassId} {n : Nat} {f g : Nat → Value} (h : ∀ j, j < n → f j = g j) : arrV cA n f = arrV cA n g := by
  unfold arrV
  congr 1
  apply Array.ext
  · simp
  · intro i h1 h2
    simp only [Array.getElem_ofFn]
    exact h i (by simpa using h1)
theorem z_copyi (G : zG p m c cc nL s args own D cl tys A meth ret) {index : Nat} (hl : Cond.methodLink own index arraycopyName ∈ zW) (q0 q1 t0 : Nat) {a a0 : Nat} {cA : ClassId} {N : Nat} {f g : Nat → Int32} (ha0 : ws[q0]? = some (a0, .inl (cA, N, .inl f))) (ha1 : ws[q1]? = some (a, .inl (cA, N, .inl g))) (ht : tys[t0]? = some (cA, .int)) {n : Int32} (hn : n.toNatClampNeg = N) (hn0 : ¬ n < 0)
    (hR : 1 ≤ R.frames ∧ (st.map fun v => v.category).sum + (nativeFrameWords "java/lang/System" "arraycopy" 5 + 11) ≤ R.locals) (hw : ws.set q1 (a, .inl (cA, N, .inl f)) = ws') (hdg : decode cc pc = .ok (.invokestatic index, 3))
    (kk : Z p l e R s m args below meth c D cl A nL cells slots Q ws' lv st (pc + 3)) : Z p l e R s m args below meth c D cl A nL cells slots Q ws lv (.int n :: .int 0 :: .ref a :: .int 0 :: .ref a0 :: st) pc := by
  subst hw hn
  have hk1 : q1 < ws.length := by
    rcases Nat.lt_or_ge q1 ws.length with h | h
    · exact h
    · rw [List.getElem?_eq_none h] at ha1; cases ha1
  exact fun H locs ls hP hD hS hl0 => va_copyi G.1.1 G.1.2.1 (by rw [G.1.2.2.1, hl0.1]) G.1.2.2.2.1 (G.1.2.2.2.2 _ hl) (G.1.2.2.2.2 _ kn_arraycopy) (G.1.2.2.2.2 _ ks_arraycopy) (G.1.2.2.2.2 _ kz_System) G.2.1 hP hD hS q0 q1 t0 t0 ha0 ha1 ht ht rfl (by decide) (by decide) hn0 (by rw [sb_cl0]; omega) (by rw [sb_cl0]; omega) (fun _ _ => rfl) hR.1 hR.2 hdg
    (fun H1 locs1 hP1 hD1 hS1 => kk H1 locs1 ls (va_P_swap hP1 (fun hq => by
      show H1[a]? = _
      rw [vp_cell_i, ← arrV_congr (f := fun j => Value.int (va_cpy f g (0 : Int32).toNatClampNeg (0 : Int32).toNatClampNeg n.toNatClampNeg j)) (fun j hj => by rw [sb_cl0, sb_cpy0 hj])]
      exact hq) hk1) (va_D_swap hD1 rfl) hS1 hl0)
theorem z_cpyl0 {f g : Nat → Int64} {n j : Nat} (h : j < n) : va_cpy f g 0 0 n j = f j := by
  unfold va_cpy
  rw [if_pos ⟨Nat.zero_le _, by omega⟩]
  simp
theorem z_copyl (G : zG p m c cc nL s args own D cl tys A meth ret) {index : Nat} (hl : Cond.methodLink own index arraycopyName ∈ zW) (q0 q1 t0 : Nat) {a a0 : Nat} {cA : ClassId} {N : Nat} {f g : Nat → Int64} (ha0 : ws[q0]? = some (a0, .inl (cA, N, .inr (.inl f)))) (ha1 : ws[q1]? = some (a, .inl (cA, N, .inr (.inl g)))) (ht : tys[t0]? = some (cA, .long)) {n : Int32} (hn : n.toNatClampNeg = N) (hn0 : ¬ n < 0)
    (hR : 1 ≤ R.frames ∧ (st.map fun v => v.category).sum + (nativeFrameWords "java/lang/System" "arraycopy" 5 + 11) ≤ R.locals) (hw : ws.set q1 (a, .inl (cA, N, .inr (.inl f))) = ws') (hdg : decode cc pc = .ok (.invokestatic index, 3))
    (kk : Z p l e R s m args below meth c D cl A nL cells slots Q ws' lv st (pc + 3)) : Z p l e R s m args below meth c D cl A nL cells slots Q ws lv (.int n :: .int 0 :: .ref a :: .int 0 :: .ref a0 :: st) pc := by
  subst hw hn
  have hk1 : q1 < ws.length := by
    rcases Nat.lt_or_ge q1 ws.length with h | h
    · exact h
    · rw [List.getElem?_eq_none h] at ha1; cases ha1
  exact fun H locs ls hP hD hS hl0 => va_copyl G.1.1 G.1.2.1 (by rw [G.1.2.2.1, hl0.1]) G.1.2.2.2.1 (G.1.2.2.2.2 _ hl) (G.1.2.2.2.2 _ kn_arraycopy) (G.1.2.2.2.2 _ ks_arraycopy) (G.1.2.2.2.2 _ kz_System) G.2.1 hP hD hS q0 q1 t0 t0 ha0 ha1 ht ht rfl (by decide) (by decide) hn0 (by rw [sb_cl0]; omega) (by rw [sb_cl0]; omega) (fun _ _ => rfl) hR.1 hR.2 hdg
    (fun H1 locs1 hP1 hD1 hS1 => kk H1 locs1 ls (va_P_swap hP1 (fun hq => by
      show H1[a]? = _
      rw [vp_cell_l, ← arrV_congr (f := fun j => Value.long (va_cpy f g (0 : Int32).toNatClampNeg (0 : Int32).toNatClampNeg n.toNatClampNeg j)) (fun j hj => by rw [sb_cl0, z_cpyl0 hj])]
      exact hq) hk1) (va_D_swap hD1 rfl) hS1 hl0)
end ZCP
