section ZRF
variable {p : Program} {l : Launch} {e : Env} {R : Room} {s : State} {m : MethodId} {args : Array Value} {below : List Frame} {meth : Method} {c : Code} {cells slots : Nat} {Q : State → Prop}
variable {D : va_G} {cl : List vw_C} {tys : List (ClassId × FieldType)} {A : Nat → Prop} {nL : Nat} {cc : ByteArray} {own : String} {ret : Option FieldType} {ws ws' : va_W} {lv lv' : List (Nat × Value)} {st st' : List Value} {pc tgt : Nat}
variable {ρ : Type} {X Y : Option ρ} {res : ρ}
theorem va_up_some (f : Nat → Nat) (k v : Nat) : va_up (fun j => some (f j)) k (some v) = fun j => some (va_up f k v j) := by
  funext j
  unfold va_up
  by_cases h : j = k
  · rw [if_pos h, if_pos h]
  · rw [if_neg h, if_neg h]
theorem z_aaloadb (G : zG p m c cc nL s args own D cl tys A meth ret) (q0 t0 : Nat) {a : Nat} {cA : ClassId} {C : String} {n : Nat} {f : Nat → Nat} (ha : ws[q0]? = some (a, .inl (cA, n, .inr (.inr (.inr (.inr (fun k => some (f k)))))))) (ht : tys[t0]? = some (cA, .object C)) {i : Int32} (hdg : decode cc pc = .ok (.aaload, 1)) (hs : .ref (f (ix i)) :: st = st') (h : chk (inb i n) X = some res) (kk : X = some res → Z p l e R s m args below meth c D cl A nL cells slots Q ws lv st' (pc + 1)) : Z p l e R s m args below meth c D cl A nL cells slots Q ws lv (.int i :: .ref a :: st) pc := by
  subst hs
  exact z_aaload G q0 t0 ha ht hdg h kk
theorem z_aastoreb (G : zG p m c cc nL s args own D cl tys A meth ret) (q0 t0 qk ci : Nat) {a : Nat} {cA : ClassId} {r : vw_C} {n v : Nat} {vs : List Value} {f : Nat → Nat} (ha : ws[q0]? = some (a, .inl (cA, n, .inr (.inr (.inr (.inr (fun k => some (f k)))))))) (ht : tys[t0]? = some (cA, .object r.1)) (hv : ws[qk]? = some (v, .inr (ci, vs))) (hc : cl[ci]? = some r) {i : Int32} (hw : ws.set q0 (a, .inl (cA, n, .inr (.inr (.inr (.inr (fun k => some (va_up f (ix i) v k))))))) = ws') (hdg : decode cc pc = .ok (.aastore, 1)) (h : chk (inb i n) X = some res) (kk : X = some res → Z p l e R s m args below meth c D cl A nL cells slots Q ws' lv st (pc + 1)) : Z p l e R s m args below meth c D cl A nL cells slots Q ws lv (.ref v :: .int i :: .ref a :: st) pc :=
  z_aastore G q0 t0 qk ci ha ht hv hc (by rw [va_up_some]; exact hw) hdg h kk
end ZRF
