section ZC
variable {p : Program} {l : Launch} {e : Env} {R : Room} {s : State} {m : MethodId} {args : Array Value} {below : List Frame} {meth : Method} {c : Code} {cells slots : Nat} {Q : State → Prop}
variable {D : va_G} {cl : List vw_C} {tys : List (ClassId × FieldType)} {A : Nat → Prop} {nL : Nat} {cc : ByteArray} {own : String} {ret : Option FieldType} {ws ws' : va_W} {lv lv' : List (Nat × Value)} {st st' : List Value} {pc tgt : Nat}
/-- the world with the callee's cells put in their places: a mask says which of its cells stands where -/
def zmk : List (Option Nat) → va_W → va_W → va_W
  | none :: os, c :: cs, w => c :: zmk os cs w
  | some j :: os, c :: cs, w => (w[j]?).getD c :: zmk os cs w
  | _, cs, _ => cs
def zmkok (n : Nat) (is : List Nat) (os : List (Option Nat)) : Bool := os.all (fun o => match o with | none => true | some j => decide (j < n)) && is.all (fun k => match os[k]? with | some (some _) => true | _ => false)
theorem zmk_get : ∀ (os : List (Option Nat)) (ws w1 : va_W) (k : Nat) (q : Nat × va_E), (os.all (fun o => match o with | none => true | some j => decide (j < w1.length)) = true) → (zmk os ws w1)[k]? = some q → q ∈ w1 ∨ (ws[k]? = some q ∧ ∀ j, os[k]? ≠ some (some j))
  | [], ws, w1, k, q, _, h => by
    refine Or.inr ⟨?_, fun j e => by cases e⟩
    have e : zmk [] ws w1 = ws := by cases ws <;> rfl
    rw [e] at h; exact h
  | none :: os, [], w1, k, q, _, h => by
    have e : zmk (none :: os) [] w1 = [] := rfl
    rw [e] at h; cases h
  | some j :: os, [], w1, k, q, _, h => by
    have e : zmk (some j :: os) [] w1 = [] := rfl
    rw [e] at h; cases h
  | none :: os, c :: cs, w1, 0, q, _, h => by
    have h1 : some c = some q := h
    exact Or.inr ⟨h1, fun j e => by cases e⟩
  | some j :: os, c :: cs, w1, 0, q, ho, h => by
    have h1 : some ((w1[j]?).getD c) = some q := h
    rw [List.all_cons, Bool.and_eq_true] at ho
    have hj : j < w1.length := of_decide_eq_true ho.1
    rw [List.getElem?_eq_getElem hj] at h1
    cases h1
    exact Or.inl (List.getElem_mem hj)
  | none :: os, c :: cs, w1, k + 1, q, ho, h => by
    have h1 : (zmk os cs w1)[k]? = some q := h
    rw [List.all_cons, Bool.and_eq_true] at ho
    rcases zmk_get os cs w1 k q ho.2 h1 with h2 | h2
    · exact Or.inl h2
    · exact Or.inr h2
  | some j :: os, c :: cs, w1, k + 1, q, ho, h => by
    have h1 : (zmk os cs w1)[k]? = some q := h
    rw [List.all_cons, Bool.and_eq_true] at ho
    rcases zmk_get os cs w1 k q ho.2 h1 with h2 | h2
    · exact Or.inl h2
    · exact Or.inr h2
theorem z_at_get {q : Nat × va_E} {ws : va_W} {H : Heap} (hP : va_P D cl ws H) (h : q ∈ ws) : va_at D cl q H := by
  obtain ⟨k, hk, e⟩ := List.getElem_of_mem h
  exact hP k q (by rw [List.getElem?_eq_getElem hk, e])
theorem va_D_fst {ws ws' : va_W} (hD : va_D A ws) (h : ws'.map Prod.fst = ws.map Prod.fst) : va_D A ws' := by
  have key : ∀ (k : Nat) (q : Nat × va_E), ws'[k]? = some q → ∃ q2, ws[k]? = some q2 ∧ q2.1 = q.1 := by
    intro k q hk
    have e := congrArg (fun z : List Nat => z[k]?) h
    simp only [List.getElem?_map, hk] at e
    cases h2 : ws[k]? with
    | none => rw [h2] at e; cases e
    | some z => rw [h2] at e; exact ⟨z, rfl, (Option.some.inj e).symm⟩
  refine ⟨fun i j a b h1 h2 h3 => ?_, fun k q hk => ?_⟩
  · obtain ⟨a2, e1, f1⟩ := key i a h1
    obtain ⟨b2, e2, f2⟩ := key j b h2
    exact hD.1 i j a2 b2 e1 e2 (by rw [f1, f2, h3])
  · obtain ⟨q2, e1, f1⟩ := key k q hk
    rw [← f1]
    exact hD.2 k q2 e1
/-- the frame rule: the callee's cells anew, the rest as it was -/
theorem z_frame {wc w1 : va_W} {H H1 : Heap} {isC : List Nat} {os : List (Option Nat)} (hP : va_P D cl ws H) (hD : va_D A ws) (hC : isC.map (fun i => ws[i]?) = wc.map some) (hos : zmkok w1.length isC os = true) (hw : zmk os ws w1 = ws')
    (hk : ∀ q : Nat, q < H.size → ¬ va_A wc H.size q → H1[q]? = H[q]?) (hF : ∀ q, va_A wc H.size q → A q) (hP1 : va_P D cl w1 H1) (hD1 : va_D (va_A wc H.size) w1) : va_P D cl ws' H1 := by
  subst hw
  unfold zmkok at hos
  rw [Bool.and_eq_true] at hos
  intro k q hq
  rcases zmk_get os ws w1 k q hos.1 hq with h | ⟨h, hni⟩
  · exact z_at_get hP1 h
  · have hni : k ∉ isC := fun hkC => by
      have h3 := List.all_eq_true.mp hos.2 k hkC
      cases ho : os[k]? with
      | none => rw [ho] at h3; cases h3
      | some o =>
        cases o with
        | none => rw [ho] at h3; cases h3
        | some j => exact hni j ho
    have hR : [k].map (fun i => ws[i]?) = [q].map some := by simp only [List.map_cons, List.map_nil, h]
    have hj := va_join (wr := [q]) (w1 := w1) hP hD isC [k] hC hR (by rfl) (fun i hi => by rcases List.mem_cons.mp hi with e | e; (· rw [e]; exact hni); (· cases e)) hk hF hP1 hD1
    exact hj.1 0 q rfl
/-- a callee that leaves its cells as they were -/
theorem z_frameR {wc : va_W} {H H1 : Heap} {isC : List Nat} (hP : va_P D cl ws H) (hD : va_D A ws) (hC : isC.map (fun i => ws[i]?) = wc.map some)
    (hk : ∀ q : Nat, q < H.size → ¬ va_A wc H.size q → H1[q]? = H[q]?) (hF : ∀ q, va_A wc H.size q → A q) (hP1 : va_P D cl wc H1) (hD1 : va_D (va_A wc H.size) wc) : va_P D cl ws H1 := by
  intro k q hq
  by_cases hkC : k ∈ isC
  · refine z_at_get hP1 ?_
    have h1 : some q ∈ isC.map (fun i => ws[i]?) := List.mem_map.mpr ⟨k, hkC, hq⟩
    rw [hC] at h1
    obtain ⟨z, hz, e⟩ := List.mem_map.mp h1
    cases e
    exact hz
  · have hR : [k].map (fun i => ws[i]?) = [q].map some := by simp only [List.map_cons, List.map_nil, hq]
    have hj := va_join (wr := [q]) (w1 := wc) hP hD isC [k] hC hR (by rfl) (fun i hi => by rcases List.mem_cons.mp hi with e | e; (· rw [e]; exact hkC); (· cases e)) hk hF hP1 hD1
    exact hj.1 0 q rfl
theorem z_call1 {st0 rest : List Value} {v : Option Value} {φ : Prop} {wc w1 : va_W} {a : Array Value} (hA : ∀ q, s.heap.size ≤ q → A q)
    (isC : List Nat) (hC : isC.map (fun i => ws[i]?) = wc.map some) (hnC : va_nd isC = true) (hfr : ∀ H H1 : Heap, va_P D cl ws H → va_D A ws → (∀ q : Nat, q < H.size → ¬ va_A wc H.size q → H1[q]? = H[q]?) → (∀ q, va_A wc H.size q → A q) → va_P D cl w1 H1 → va_D (va_A wc H.size) w1 → va_P D cl ws' H1) (hfst : va_D A ws → va_D A ws') (hst : v.toList ++ rest = st')
    (hr : ∀ (H : Heap) (locs : List Loc) (ls : Array Slot), va_P D cl ws H → va_D A ws → va_S A s.heap H locs → lv_has ls nL lv → va_P D cl wc H → va_D A wc → va_Run p l e R s m args below meth c H locs cells slots 0 0 (F0 m pc ls st0) rest (zQ v φ w1 D cl (va_A wc H.size) a) (va_A wc H.size))
    (kk : φ → Z p l e R s m args below meth c D cl A nL cells slots Q ws' lv st' (pc + 3)) : Z p l e R s m args below meth c D cl A nL cells slots Q ws lv st0 pc := by
  intro H locs ls hP hD hS hl
  have hPc : va_P D cl wc H := hP.sub isC (by
    have e := congrArg (fun z => z.filterMap id) hC
    simpa [List.filterMap_map, Function.comp_def] using e)
  have hDc : va_D A wc := hD.sub isC hnC hC
  have hF := va_free (wc := wc) hD hS hA isC hC
  intro T hT X
  obtain ⟨v', st₀, t, T', L, h0, X', hL, e1, e2, ⟨⟨hv, hφ, hP1, hD1⟩, hz, hk⟩, stp⟩ := hr H locs ls hP hD hS hl hPc hDc T hT X
  cases hv
  rw [h0] at hz hk
  have hP3 : va_P D cl ws' t.heap := hfr H t.heap hP hD hk hF hP1 hD1
  have hD3 : va_D A ws' := hfst hD
  have hS3 : va_S A s.heap t.heap (locs ++ L) := ⟨Nat.le_trans hS.1 hz, fun q h1 h2 => by rw [hk q (Nat.lt_of_lt_of_le h1 hS.1) (fun z => h2 (hF q z))]; exact hS.2.1 q h1 h2, fun q hq => by
      rcases List.mem_append.mp hq with h | h
      · exact hS.2.2 q h
      · exact hF _ (hL q h)⟩
  subst hst
  obtain ⟨t2, a1, b1⟩ := kk hφ t.heap (locs ++ L) ls hP3 hD3 hS3 hl T' e1 X'
  exact ⟨t2, stp t2 a1, b1⟩
theorem z_kV {y : MethodName} {bytes : ByteArray} {mL n index : Nat} {rt : Option FieldType} {rm : Room} {As rest : List Value} {wc w1 : va_W} {v : Option Value} {φ : Prop} {st0 : List Value} {b : Addr} {C : String} (G : zG p m c cc nL s args own D cl tys A meth ret) (hY : zY y bytes mL rt n) (hV : zYV y C) (hl : Cond.methodLink own index y ∈ zW) (hM : zM l y bytes mL rt rm (.ref b :: As) D cl tys wc v φ w1) (hc : rm.cells = 0 ∧ rm.slots = 0) (hR : rm.frames + 1 ≤ R.frames ∧ 8 + (mL + 11) + rm.locals ≤ R.locals) (hcs : cells ≤ R.cells ∧ slots ≤ R.slots) (hna : As.length = n)
    (hs0 : st0 = As.reverse ++ .ref b :: rest) (hrest : (rest.map fun v => v.category).sum ≤ 8) (q0 ci : Nat) {q : vw_C} {fs : List Value} (hci : cl[ci]? = some q) (hq : ws[q0]? = some (b, .inr (ci, fs))) (hqC : q.1 = C)
    (isC : List Nat) (hC : isC.map (fun i => ws[i]?) = wc.map some) (hnC : va_nd isC = true) (os : List (Option Nat)) (hos : zmkok w1.length isC os = true) (hw : zmk os ws w1 = ws') (hfst : ws'.map Prod.fst = ws.map Prod.fst) (hst : v.toList ++ rest = st') (hdg : decode cc pc = .ok (.invokevirtual index, 3))
    (kk : φ → Z p l e R s m args below meth c D cl A nL cells slots Q ws' lv st' (pc + 3)) : Z p l e R s m args below meth c D cl A nL cells slots Q ws lv st0 pc := by
  subst hs0 hqC
  exact z_call1 (a := (Value.ref b :: As).toArray) G.2.2.2.1 isC hC hnC (fun H H1 hP hD hk hF hP1 hD1 => z_frame hP hD hC hos hw hk hF hP1 hD1) (fun hD => va_D_fst hD hfst) hst (fun H locs ls hP hD hS hl0 hPc hDc => va_runV G.1 (hM H.size) ⟨zCB G hY hl hc.1 hc.2 hR, G.1.2.2.2.2 _ hV.1, G.1.2.2.2.2 _ hV.2⟩ ⟨zPc_blind, va_recv G.2.1 hP hci hq, zPre G hPc hDc⟩ rfl hna hl0.1 rfl (lv_room hrest) hdg hcs) kk
theorem z_kR {y : MethodName} {bytes : ByteArray} {mL n index : Nat} {rt : Option FieldType} {rm : Room} {As rest : List Value} {wc : va_W} {v : Option Value} {φ : Prop} {st0 : List Value} {b : Addr} {C : String} (G : zG p m c cc nL s args own D cl tys A meth ret) (hY : zY y bytes mL rt n) (hV : zYV y C) (hl : Cond.methodLink own index y ∈ zW) (hM : zM l y bytes mL rt rm (.ref b :: As) D cl tys wc v φ wc) (hc : rm.cells = 0 ∧ rm.slots = 0) (hR : rm.frames + 1 ≤ R.frames ∧ 8 + (mL + 11) + rm.locals ≤ R.locals) (hcs : cells ≤ R.cells ∧ slots ≤ R.slots) (hna : As.length = n)
    (hs0 : st0 = As.reverse ++ .ref b :: rest) (hrest : (rest.map fun v => v.category).sum ≤ 8) (q0 ci : Nat) {q : vw_C} {fs : List Value} (hci : cl[ci]? = some q) (hq : ws[q0]? = some (b, .inr (ci, fs))) (hqC : q.1 = C)
    (isC : List Nat) (hC : isC.map (fun i => ws[i]?) = wc.map some) (hnC : va_nd isC = true) (hst : v.toList ++ rest = st') (hdg : decode cc pc = .ok (.invokevirtual index, 3))
    (kk : φ → Z p l e R s m args below meth c D cl A nL cells slots Q ws lv st' (pc + 3)) : Z p l e R s m args below meth c D cl A nL cells slots Q ws lv st0 pc := by
  subst hs0 hqC
  exact z_call1 (a := (Value.ref b :: As).toArray) G.2.2.2.1 isC hC hnC (fun H H1 hP hD hk hF hP1 hD1 => z_frameR hP hD hC hk hF hP1 hD1) (fun hD => hD) hst (fun H locs ls hP hD hS hl0 hPc hDc => va_runV G.1 (hM H.size) ⟨zCB G hY hl hc.1 hc.2 hR, G.1.2.2.2.2 _ hV.1, G.1.2.2.2.2 _ hV.2⟩ ⟨zPc_blind, va_recv G.2.1 hP hci hq, zPre G hPc hDc⟩ rfl hna hl0.1 rfl (lv_room hrest) hdg hcs) kk
theorem z_frame0 {H H1 : Heap} (hP : va_P D cl ws H) (hD : va_D A ws) (hk : ∀ q : Nat, q < H.size → ¬ va_A [] H.size q → H1[q]? = H[q]?) (hF : ∀ q, va_A [] H.size q → A q) (hP1 : va_P D cl [] H1) (hD1 : va_D (va_A [] H.size) []) : va_P D cl ws H1 := z_frameR (isC := []) hP hD rfl hk hF hP1 hD1
/-- a static method without a world -/
theorem z_kS {y : MethodName} {bytes : ByteArray} {mL n index : Nat} {rt : Option FieldType} {rm : Room} {As rest : List Value} {v : Option Value} {φ : Prop} {st0 : List Value} (G : zG p m c cc nL s args own D cl tys A meth ret) (hY : zY y bytes mL rt n) (hV : Cond.static y ∈ zW) (hl : Cond.methodLink own index y ∈ zW) (hM : zM l y bytes mL rt rm As D cl tys [] v φ []) (hc : rm.cells = 0 ∧ rm.slots = 0) (hR : rm.frames + 1 ≤ R.frames ∧ 8 + (mL + 11) + rm.locals ≤ R.locals) (hcs : cells ≤ R.cells ∧ slots ≤ R.slots) (hna : As.length = n)
    (hs0 : st0 = As.reverse ++ rest) (hrest : (rest.map fun v => v.category).sum ≤ 8) (hst : v.toList ++ rest = st') (hdg : decode cc pc = .ok (.invokestatic index, 3))
    (kk : φ → Z p l e R s m args below meth c D cl A nL cells slots Q ws lv st' (pc + 3)) : Z p l e R s m args below meth c D cl A nL cells slots Q ws lv st0 pc := by
  subst hs0
  exact z_call1 (a := As.toArray) G.2.2.2.1 [] rfl rfl (fun H H1 hP hD hk hF hP1 hD1 => z_frame0 hP hD hk hF hP1 hD1) (fun hD => hD) hst (fun H locs ls hP hD hS hl0 hPc hDc => va_runS G.1 (hM H.size) ⟨zCB G hY hl hc.1 hc.2 hR, G.1.2.2.2.2 _ hV⟩ ⟨zPc_blind, zPre G hPc hDc⟩ rfl hna hl0.1 rfl (lv_room hrest) hdg hcs) kk
theorem z_kSN {y : MethodName} {bytes : ByteArray} {mL n index : Nat} {rt : Option FieldType} {rm : Room} {As rest : List Value} {v : Option Value} {φ : Prop} {st0 : List Value} {host : String} (G : zG p m c cc nL s args own D cl tys A meth ret) (hY : zY y bytes mL rt n) (hV : Cond.static y ∈ zW) (hl : Cond.methodLinkNest own index y host ∈ zNL) (hM : zM l y bytes mL rt rm As D cl tys [] v φ []) (hc : rm.cells = 0 ∧ rm.slots = 0) (hR : rm.frames + 1 ≤ R.frames ∧ 8 + (mL + 11) + rm.locals ≤ R.locals) (hcs : cells ≤ R.cells ∧ slots ≤ R.slots) (hna : As.length = n)
    (hs0 : st0 = As.reverse ++ rest) (hrest : (rest.map fun v => v.category).sum ≤ 8) (hst : v.toList ++ rest = st') (hdg : decode cc pc = .ok (.invokestatic index, 3))
    (kk : φ → Z p l e R s m args below meth c D cl A nL cells slots Q ws lv st' (pc + 3)) : Z p l e R s m args below meth c D cl A nL cells slots Q ws lv st0 pc := by
  subst hs0
  exact z_call1 (a := As.toArray) G.2.2.2.1 [] rfl rfl (fun H H1 hP hD hk hF hP1 hD1 => z_frame0 hP hD hk hF hP1 hD1) (fun hD => hD) hst (fun H locs ls hP hD hS hl0 hPc hDc => va_runSN G.1 (hM H.size) ⟨va_cnB n G.1.2.2.2.2 (zGood hY) rfl hc.1 hc.2 (G.2.2.1 _ hl) (G.1.2.2.2.2 _ hY.2.1) hY.2.2 hR, G.1.2.2.2.2 _ hV, trivial⟩ ⟨zPc_blind, zPre G hPc hDc⟩ rfl hna hl0.1 rfl (lv_room hrest) hdg hcs) kk
end ZC
theorem nl_X6_11 : Cond.methodLinkNest RX6 11 yX5_init "SubjectNet" ∈ zNL := List.mem_of_getElem? (i := 0) rfl
theorem nl_X6_18 : Cond.methodLinkNest RX6 18 yX0_init "SubjectNet" ∈ zNL := List.mem_of_getElem? (i := 1) rfl
theorem nl_X0_11 : Cond.methodLinkNest RX0 11 yX1_init "SubjectNet" ∈ zNL := List.mem_of_getElem? (i := 2) rfl
theorem nl_X0_20 : Cond.methodLinkNest RX0 20 yX4_init "SubjectNet" ∈ zNL := List.mem_of_getElem? (i := 3) rfl
theorem nl_X3_17 : Cond.methodLinkNest RX3 17 yX2_init "SubjectNet" ∈ zNL := List.mem_of_getElem? (i := 4) rfl
theorem nl_X6_42 : Cond.methodLinkNest RX6 42 yX2_init "SubjectNet" ∈ zNL := List.mem_of_getElem? (i := 5) rfl
theorem nl_X2_47 : Cond.methodLinkNest RX2 47 yX6_holds "SubjectNet" ∈ zNL := List.mem_of_getElem? (i := 6) rfl
theorem nl_X0_35 : Cond.methodLinkNest RX0 35 yX6_holds "SubjectNet" ∈ zNL := List.mem_of_getElem? (i := 7) rfl
theorem nl_X1_35 : Cond.methodLinkNest RX1 35 yX6_holds "SubjectNet" ∈ zNL := List.mem_of_getElem? (i := 8) rfl
theorem nl_X0_62 : Cond.methodLinkNest RX0 62 yX6_isItem "SubjectNet" ∈ zNL := List.mem_of_getElem? (i := 9) rfl
abbrev zT (cI cJ cZ cN : ClassId) : List (ClassId × FieldType) := [(cI, .int), (cJ, .long), (cZ, .boolean), (cN, .object "SubjectNet$Net")]
theorem zn0 : narrow .boolean (.int 0) = .int 0 := by decide
theorem zn1 : narrow .boolean (.int 1) = .int 1 := by decide
