theorem ps_L_place : Cond.static yL_place ∈ zW := zW_3 (List.mem_of_getElem? (i := 229) rfl) rfl
theorem pw_L_place : Cond.codeWith yL_place cL_place 4 (some .int) [(0, 9, 12, 13)] ∈ zW := zW_3 (List.mem_of_getElem? (i := 230) rfl) rfl
theorem ps_L_at : Cond.static yL_at ∈ zW := zW_4 (List.mem_of_getElem? (i := 64) rfl) rfl
theorem pw_L_at : Cond.codeWith yL_at cL_at 4 (some .int) [(0, 9, 12, 13)] ∈ zW := zW_4 (List.mem_of_getElem? (i := 65) rfl) rfl
theorem ps_L_row : Cond.static yL_row ∈ zW := zW_4 (List.mem_of_getElem? (i := 72) rfl) rfl
theorem pw_L_row : Cond.codeWith yL_row cL_row 4 (some .int) [(0, 8, 11, 13)] ∈ zW := zW_4 (List.mem_of_getElem? (i := 73) rfl) rfl
section ZLW
variable {p : Program} {l : Launch} {e : Env} {R : Room} {s : State} {m : MethodId} {args : Array Value} {below : List Frame} {meth : Method} {c : Code} {cells slots : Nat} {Q : State → Prop}
variable {D : va_G} {cl : List vw_C} {tys : List (ClassId × FieldType)} {A : Nat → Prop} {nL : Nat} {cc : ByteArray} {own : String} {ret : Option FieldType} {ws ws' : va_W} {lv lv' : List (Nat × Value)} {st st' : List Value} {pc tgt : Nat} {sK : Nat → Nat}
theorem zPreT {w0 : va_W} {av : List Value} {H : Heap} {locs : List Loc} (G : zG p m c cc nL s args own D cl tys A meth ret) (hX : zX sK A s s.heap) (hS : va_S A s.heap H locs) (hF : ∀ q, va_A w0 H.size q → A q) (hPc : va_P D cl w0 H) (hDc : va_D A w0) : ∀ U : State, U.heap = H → s.WarmedH U.vm → zPt av D cl tys sK w0 H.size av.toArray U := fun U hU hW => ⟨zPre G hPc hDc U hU hW, by rw [hU]; exact ((hX.kept hS.2.1).narrow hF).warm hW⟩
/-- a call that throws NoSuchElementException, and its catching here -/
theorem z_kT {y : MethodName} {bytes : ByteArray} {mL n index : Nat} {rt : Option FieldType} {rm : Room} {As rest : List Value} {wc : va_W} {st0 : List Value} {b : Addr} {C : String} (G : zG p m c cc nL s args own D cl tys A meth ret) (hX : zX sK A s s.heap) (hY : zY y bytes mL rt n) (hV : zYV y C) (hl : Cond.methodLink own index y ∈ zW) (hM : zMt l y bytes mL rt rm (.ref b :: As) D cl tys sK wc) (hc : rm.cells = 1 ∧ rm.slots = 6) (hR : rm.frames + 1 ≤ R.frames ∧ 8 + (mL + 11) + rm.locals ≤ R.locals) (hcs : cells + 1 ≤ R.cells ∧ slots + 6 ≤ R.slots) (hna : As.length = n)
    (hs0 : st0 = As.reverse ++ .ref b :: rest) (hrest : (rest.map fun v => v.category).sum ≤ 8) (q0 ci : Nat) {q : vw_C} {fs : List Value} (hci : cl[ci]? = some q) (hq : ws[q0]? = some (b, .inr (ci, fs))) (hqC : q.1 = C)
    (isC : List Nat) (hC : isC.map (fun i => ws[i]?) = wc.map some) (hnC : va_nd isC = true) (x : ExceptionTableEntry) (hex : c.exceptionTable.toList = [x]) (hcov : covers x pc = true) (hct : x.catchType ≠ 0) (hlk : Cond.classLink own x.catchType zNS ∈ zW) (hdg : decode cc pc = .ok (.invokevirtual index, 3))
    (kk : ∀ q : Nat, Z p l e R s m args below meth c D cl A nL (cells + 1) (slots + 6) Q ws lv [.ref q] x.handlerPc) : Z p l e R s m args below meth c D cl A nL cells slots Q ws lv st0 pc := by
  subst hs0 hqC
  intro H locs ls hP hD hS hl0 T hT X
  have hPc : va_P D cl wc H := hP.sub isC (by
    have e := congrArg (fun z => z.filterMap id) hC
    simpa [List.filterMap_map, Function.comp_def] using e)
  have hDc : va_D A wc := hD.sub isC hnC hC
  have hF := va_free (wc := wc) hD hS G.2.2.2.1 isC hC
  have hcb : CallB R s args own index y bytes mL rt (Cond.code y bytes mL rt :: zW) rm 1 6 n := callB_of n G.1.2.2.2.2 (zGood hY) rfl hc.1 hc.2 (G.1.2.2.2.2 _ hY.2.1) (G.1.2.2.2.2 _ hl) hY.2.2 hR
  rcases vx_runV (g := F0 m pc ls (As.reverse ++ .ref b :: rest)) (rest := rest) G.1 (hM H.size) ⟨hcb, G.1.2.2.2.2 _ hV.1, G.1.2.2.2.2 _ hV.2⟩ ⟨zPt_blind, va_recv G.2.1 hP hci hq, zPreT G hX hS hF hPc hDc⟩ rfl hna hl0.1 rfl (lv_room hrest) hdg hcs T hT X with ⟨v, st₀, t, T', L, h0, X', hL, e1, e2, hno, stp⟩ | ⟨qx, st₀, t, T', L, E, ce, h0, X', hL, e1, e2, ⟨hE, hP1, hD1, hz, hk⟩, hce, hcv, hcl, stp⟩
  · exact hno.elim
  · rw [h0] at hz hk
    subst hE
    have hP3 : va_P D cl ws t.heap := z_frameR hP hD hC hk hF hP1 hD1
    have hS3 : va_S A s.heap t.heap (locs ++ L) := ⟨Nat.le_trans hS.1 hz, fun q h1 h2 => by rw [hk q (Nat.lt_of_lt_of_le h1 hS.1) (fun z => h2 (hF q z))]; exact hS.2.1 q h1 h2, fun q hq => by
      rcases List.mem_append.mp hq with h | h
      · exact hS.2.2 q h
      · exact hF _ (hL q h)⟩
    have hw : vx_W p l e R s m args below meth c t.heap (locs ++ L) (cells + 1) (slots + 6) Q (F0 m pc ls rest) qx := vx_catch G.1.2.2.2.1 [] x [] (by rw [hex]; rfl) (fun z hz => by cases hz) hcov hct (G.1.2.2.2.2 _ hlk) (va_Nw.use rfl (hX.2.1 _ List.mem_cons_self)) hce hcv hcl (kk qx t.heap (locs ++ L) ls hP3 hD hS3 hl0)
    obtain ⟨t2, a1, b1⟩ := hw T' e1 X'
    exact ⟨t2, stp.trans a1, b1⟩
/-- the law's own helpers: they return, one cell of six slots new at most -/
def zL (l : Launch) (y : MethodName) (cc : ByteArray) (nL : Nat) (ret : Option FieldType) (hh : List (Nat × Nat × Nat × Nat)) (rm : Room) (av : List Value) (D : va_G) (cl : List vw_C) (tys : List (ClassId × FieldType)) (sK : Nat → Nat) (w0 : va_W) (v : Option Value) (w1 : va_W) : Prop :=
  ∀ sz, Met l y (Cond.codeWith y cc nL ret hh :: zW) rm (zPt av D cl tys sK w0 sz) (zQ v True w1 D cl (va_A w0 sz)) 1 6 (va_A w0 sz)
theorem zL_of {y : MethodName} {hh : List (Nat × Nat × Nat × Nat)} {rm : Room} {av : List Value} {w0 w1 : va_W} {v : Option Value} (hy : plainName y.cls = true) (hown : y.cls = own)
    (lv0 : List (Nat × Value)) (hn : (lg_sl av).length ≤ nL) (hl0 : lv_args 0 av = lv0)
    (body : ∀ (p : Program) (e : Env) (s : State) (m : MethodId) (args : Array Value) (below : List Frame) (meth : Method) (c : Code) (A : Nat → Prop), zG p m c cc nL s args own D cl tys A meth ret → zX sK A s s.heap → c.exceptionTable.toList = tableOf hh → Z p l e rm s m args below meth c D cl A nL 0 0 (MQ below (zQ v True w1 D cl A) args s 1 6 A) w0 lv0 [] 0) : zL l y cc nL ret hh rm av D cl tys sK w0 v w1 := by
  intro sz
  refine va_MetW (cc := cc) (maxL := nL) (ret := ret) (hh := hh) hy rfl ?_
  intro p e s m args below meth c s₁ B hml hv
  obtain ⟨⟨rfl, hsz, hP, hK, hN, hD0⟩, hEx⟩ := hv
  have hts := atoms_spec (ws := Cond.codeWith y cc nL ret hh :: zW) B.pre
  have hown' : s.vm.findClass own = some m.cls := by rw [← hown]; exact findClass_of_methodNamed B.named
  have hex := vx_table (x := y) B (hts _ List.mem_cons_self)
  subst hsz
  have hD := hD0.self (sz := s.heap.size)
  have hl := lv_entry av (n := nL) hn
  rw [lg_entry_eq]
  rw [hl0] at hl
  exact body p e s m _ below meth c (va_A w0 s.heap.size) ⟨⟨B.exec, B.bytes, hml, hown', fun w hw => hts w (List.mem_cons_of_mem _ hw)⟩, hK, hN, fun q h => Or.inr h, B.returns, B.notSynchronized⟩ hEx hex s.heap [] _ hP hD va_S.rf hl
theorem z_iretW (G : zG p m c cc nL s args own D cl tys A meth ret) {v : Option Value} {φ : Prop} {w1 : va_W} {x : Int32} (hr : ret = some .int) (hdg : decode cc pc = .ok (.ireturn, 1)) (hv : v = some (.int x)) (hφ : φ) (hw : w1 = ws) (hc : cells ≤ 1 ∧ slots ≤ 6) : Z p l e R s m args below meth c D cl A nL cells slots (MQ below (zQ v φ w1 D cl A) args s 1 6 A) ws lv [.int x] pc := by
  subst hv hw
  exact fun H locs ls hP hD hS hl => W.widen hc.1 hc.2 (W.iret G.1.1 G.1.2.1 (by rw [G.2.2.2.2.1]; exact hr) (fun t ht _ => ⟨⟨rfl, hφ, by rw [ht]; exact hP, hD⟩, hS.F ht⟩) hS.2.2 hdg G.2.2.2.2.2)
end ZLW
set_option maxRecDepth 100000 in
set_option maxHeartbeats 4000000 in
theorem t_X6_place {l : Launch} {dC : Nat → ClassId} {dI : Nat → Nat → Nat} {cI cJ cZ cN : ClassId} {sK : Nat → Nat} {ta : Nat → Nat} {na : Nat → Nat} {t_told : Nat} {t_text : Nat} {t_guide : Nat} {t_acts : Nat} {t_past : Nat} {t_trial : Nat} {t_kept : Nat → Nat} {t_filled : Nat → Int32} {n_narrower : Nat → Int32} {n_order : Nat → Int32} {n_items : Nat → Int64} {n_names : Nat → Int32} {n_owners : Nat → Int32} {n_moving : Nat → Int32} {n_all : Int32} {n_size : Int32} {n_nameCount : Int32} {p1 : Int32} (hst : l.stackTraces = false) (h : f_X2_has n_all p1 = 0) : zMt l yX6_place cX6_place 2 (some .int) ({ frames := 6, cells := 1, slots := 6, locals := 82 }) [.ref (ta 0), .int p1] (dC, dI) vwCl (zT cI cJ cZ cN) sK (w_Stn cI cJ cZ cN ta na t_told t_text t_guide t_acts t_past t_trial t_kept t_filled n_narrower n_order n_items n_names n_owners n_moving n_all n_size n_nameCount) := by
  refine zMt_of (own := RX6) (by decide) rfl [(0, .ref (ta 0)), (1, .int p1)] (Nat.le_of_ble_eq_true rfl) rfl ?_
  intro p e s m args below meth c A G hX hex
  refine z_aload_n G dX6_place_0 rfl 0 rfl ?_
  refine z_get (ci := 6) (v := .ref (na 0)) G in_X6 0 rfl rfl 8 (by decide) fl_X6_55 rfl dX6_place_1 ?_
  refine z_iload_n G dX6_place_4 rfl 1 rfl ?_
  refine z_kR (As := [.int p1]) (rest := []) (st' := [.int (f_X2_has n_all p1)]) G pk_X2_has pv_X2_has ml_X6_94 (c_X2_has (ta := na) (t_narrower := n_narrower) (t_order := n_order) (t_items := n_items) (t_names := n_names) (t_owners := n_owners) (t_moving := n_moving) (t_all := n_all) (t_size := n_size) (t_nameCount := n_nameCount) (p1 := p1) rfl) ⟨rfl, rfl⟩ ⟨Nat.le_of_ble_eq_true rfl, Nat.le_of_ble_eq_true rfl⟩ ⟨Nat.zero_le _, Nat.zero_le _⟩ rfl rfl (Nat.le_of_ble_eq_true rfl) 3 2 rfl rfl rfl [3, 4, 5, 6, 7, 8, 9] rfl rfl rfl dX6_place_5 (fun _ => ?_)
  refine z_if_ne (X := none) (Y := some ()) (res := ()) (tgt := 21) G dX6_place_8 (by decide) (if_pos h) (fun h => by cases h) (fun _ => ?_)
  exact z_throw G hX hex hst hX.1.1 dX6_place_11 dX6_place_14 dX6_place_15 dX6_place_17 dX6_place_20 ⟨Nat.le_of_ble_eq_true rfl, Nat.le_of_ble_eq_true rfl, Nat.le_of_ble_eq_true rfl, Nat.le_of_ble_eq_true rfl⟩
set_option maxRecDepth 100000 in
set_option maxHeartbeats 4000000 in
theorem cx_L_place {l : Launch} {dC : Nat → ClassId} {dI : Nat → Nat → Nat} {cI cJ cZ cN : ClassId} {sK : Nat → Nat} {ta : Nat → Nat} {na : Nat → Nat} {t_told : Nat} {t_text : Nat} {t_guide : Nat} {t_acts : Nat} {t_past : Nat} {t_trial : Nat} {t_kept : Nat → Nat} {t_filled : Nat → Int32} {n_narrower : Nat → Int32} {n_order : Nat → Int32} {n_items : Nat → Int64} {n_names : Nat → Int32} {n_owners : Nat → Int32} {n_moving : Nat → Int32} {n_all : Int32} {n_size : Int32} {n_nameCount : Int32} {p1 : Int32} {oa : Nat} {out : Nat → Int64} (hst : l.stackTraces = false) (h : f_X2_has n_all p1 = 0) : zL l yL_place cL_place 4 (some .int) [(0, 9, 12, 13)] ({ frames := 7, cells := 1, slots := 6, locals := 110 }) [.ref (ta 0), .int p1, .ref oa] (dC, dI) vwCl (zT cI cJ cZ cN) sK ((w_Stn cI cJ cZ cN ta na t_told t_text t_guide t_acts t_past t_trial t_kept t_filled n_narrower n_order n_items n_names n_owners n_moving n_all n_size n_nameCount) ++ [(oa, .inl (cJ, 1, .inr (.inl out)))]) (some (.int 1)) ((w_Stn cI cJ cZ cN ta na t_told t_text t_guide t_acts t_past t_trial t_kept t_filled n_narrower n_order n_items n_names n_owners n_moving n_all n_size n_nameCount) ++ [(oa, .inl (cJ, 1, .inr (.inl out)))]) := by
  refine zL_of (own := RL) (by decide) rfl [(0, .ref (ta 0)), (1, .int p1), (2, .ref oa)] (Nat.le_of_ble_eq_true rfl) rfl ?_
  intro p e s m args below meth c A G hX hex
  refine z_aload_n G dL_place_0 rfl 2 rfl ?_
  refine z_iconst (v := 0) G dL_place_1 (by decide) ?_
  refine z_aload_n G dL_place_2 rfl 0 rfl ?_
  refine z_iload_n G dL_place_3 rfl 1 rfl ?_
  refine z_kT (As := [.int p1]) (rest := [.int 0, .ref oa]) G hX pk_X6_place pv_X6_place ml_L_7 (t_X6_place (ta := ta) (na := na) (t_told := t_told) (t_text := t_text) (t_guide := t_guide) (t_acts := t_acts) (t_past := t_past) (t_trial := t_trial) (t_kept := t_kept) (t_filled := t_filled) (n_narrower := n_narrower) (n_order := n_order) (n_items := n_items) (n_names := n_names) (n_owners := n_owners) (n_moving := n_moving) (n_all := n_all) (n_size := n_size) (n_nameCount := n_nameCount) (p1 := p1) (sK := sK) hst h) ⟨rfl, rfl⟩ ⟨Nat.le_of_ble_eq_true rfl, Nat.le_of_ble_eq_true rfl⟩ ⟨Nat.le_of_ble_eq_true rfl, Nat.le_of_ble_eq_true rfl⟩ rfl rfl (Nat.le_of_ble_eq_true rfl) 0 6 rfl rfl rfl [0, 1, 2, 3, 4, 5, 6, 7, 8, 9] rfl rfl ⟨0, 9, 12, 13⟩ hex (by decide) (by decide) kl_L_13 dL_place_4 (fun qx => ?_)
  refine z_astore_n (lv' := [(0, .ref (ta 0)), (1, .int p1), (2, .ref oa), (3, .ref qx)]) G dL_place_12 rfl (by decide) [1, 2, 3, 0] rfl ?_
  refine z_iconst (v := 1) G dL_place_13 (by decide) ?_
  exact z_iretW G rfl dL_place_14 rfl trivial rfl ⟨Nat.le_of_ble_eq_true rfl, Nat.le_of_ble_eq_true rfl⟩
set_option maxRecDepth 100000 in
set_option maxHeartbeats 4000000 in
theorem cr_L_place {l : Launch} {dC : Nat → ClassId} {dI : Nat → Nat → Nat} {cI cJ cZ cN : ClassId} {sK : Nat → Nat} {ta : Nat → Nat} {na : Nat → Nat} {t_told : Nat} {t_text : Nat} {t_guide : Nat} {t_acts : Nat} {t_past : Nat} {t_trial : Nat} {t_kept : Nat → Nat} {t_filled : Nat → Int32} {n_narrower : Nat → Int32} {n_order : Nat → Int32} {n_items : Nat → Int64} {n_names : Nat → Int32} {n_owners : Nat → Int32} {n_moving : Nat → Int32} {n_all : Int32} {n_size : Int32} {n_nameCount : Int32} {p1 : Int32} {oa : Nat} {out : Nat → Int64} {res : Int32} (h : f_X6_place n_order n_all n_size p1 = some res) : zL l yL_place cL_place 4 (some .int) [(0, 9, 12, 13)] ({ frames := 7, cells := 1, slots := 6, locals := 110 }) [.ref (ta 0), .int p1, .ref oa] (dC, dI) vwCl (zT cI cJ cZ cN) sK ((w_Stn cI cJ cZ cN ta na t_told t_text t_guide t_acts t_past t_trial t_kept t_filled n_narrower n_order n_items n_names n_owners n_moving n_all n_size n_nameCount) ++ [(oa, .inl (cJ, 1, .inr (.inl out)))]) (some (.int 0)) ((w_Stn cI cJ cZ cN ta na t_told t_text t_guide t_acts t_past t_trial t_kept t_filled n_narrower n_order n_items n_names n_owners n_moving n_all n_size n_nameCount) ++ [(oa, .inl (cJ, 1, .inr (.inl (vp_updL out (ix 0) (res.toInt64)))))]) := by
  refine zL_of (own := RL) (by decide) rfl [(0, .ref (ta 0)), (1, .int p1), (2, .ref oa)] (Nat.le_of_ble_eq_true rfl) rfl ?_
  intro p e s m args below meth c A G hX hex
  refine z_aload_n G dL_place_0 rfl 2 rfl ?_
  refine z_iconst (v := 0) G dL_place_1 (by decide) ?_
  refine z_aload_n G dL_place_2 rfl 0 rfl ?_
  refine z_iload_n G dL_place_3 rfl 1 rfl ?_
  refine z_kR (As := [.int p1]) (rest := [.int 0, .ref oa]) (st' := [.int res, .int 0, .ref oa]) G pk_X6_place pv_X6_place ml_L_7 (c_X6_place (ta := ta) (na := na) (t_told := t_told) (t_text := t_text) (t_guide := t_guide) (t_acts := t_acts) (t_past := t_past) (t_trial := t_trial) (t_kept := t_kept) (t_filled := t_filled) (n_narrower := n_narrower) (n_order := n_order) (n_items := n_items) (n_names := n_names) (n_owners := n_owners) (n_moving := n_moving) (n_all := n_all) (n_size := n_size) (n_nameCount := n_nameCount) (p1 := p1) h) ⟨rfl, rfl⟩ ⟨Nat.le_of_ble_eq_true rfl, Nat.le_of_ble_eq_true rfl⟩ ⟨Nat.zero_le _, Nat.zero_le _⟩ rfl rfl (Nat.le_of_ble_eq_true rfl) 0 6 rfl rfl rfl [0, 1, 2, 3, 4, 5, 6, 7, 8, 9] rfl rfl rfl dL_place_4 (fun _ => ?_)
  refine z_i2l G dL_place_7 ?_
  refine z_lastore (X := some ()) (res := ()) (ws' := ((w_Stn cI cJ cZ cN ta na t_told t_text t_guide t_acts t_past t_trial t_kept t_filled n_narrower n_order n_items n_names n_owners n_moving n_all n_size n_nameCount) ++ [(oa, .inl (cJ, 1, .inr (.inl (vp_updL out (ix 0) (res.toInt64)))))])) G 10 1 rfl rfl rfl dL_place_8 rfl (fun _ => ?_)
  refine z_goto (tgt := 15) G dL_place_9 (by decide) ?_
  refine z_iconst (v := 0) G dL_place_15 (by decide) ?_
  exact z_iretW G rfl dL_place_16 rfl trivial rfl ⟨Nat.zero_le _, Nat.zero_le _⟩
set_option maxRecDepth 100000 in
set_option maxHeartbeats 4000000 in
theorem t_X6_at {l : Launch} {dC : Nat → ClassId} {dI : Nat → Nat → Nat} {cI cJ cZ cN : ClassId} {sK : Nat → Nat} {ta : Nat → Nat} {na : Nat → Nat} {t_told : Nat} {t_text : Nat} {t_guide : Nat} {t_acts : Nat} {t_past : Nat} {t_trial : Nat} {t_kept : Nat → Nat} {t_filled : Nat → Int32} {n_narrower : Nat → Int32} {n_order : Nat → Int32} {n_items : Nat → Int64} {n_names : Nat → Int32} {n_owners : Nat → Int32} {n_moving : Nat → Int32} {n_all : Int32} {n_size : Int32} {n_nameCount : Int32} {p1 : Int32} (hst : l.stackTraces = false) (h : p1 < 0 ∨ n_size ≤ p1) : zMt l yX6_at cX6_at 2 (some .int) ({ frames := 6, cells := 1, slots := 6, locals := 82 }) [.ref (ta 0), .int p1] (dC, dI) vwCl (zT cI cJ cZ cN) sK (w_Stn cI cJ cZ cN ta na t_told t_text t_guide t_acts t_past t_trial t_kept t_filled n_narrower n_order n_items n_names n_owners n_moving n_all n_size n_nameCount) := by
  refine zMt_of (own := RX6) (by decide) rfl [(0, .ref (ta 0)), (1, .int p1)] (Nat.le_of_ble_eq_true rfl) rfl ?_
  intro p e s m args below meth c A G hX hex
  refine z_iload_n G dX6_at_0 rfl 1 rfl ?_
  by_cases h0 : p1 < 0
  · refine z_if_lt (X := some ()) (Y := none) (res := ()) (tgt := 15) G dX6_at_1 (by decide) (if_pos h0) (fun _ => ?_) (fun h => by cases h)
    exact z_throw G hX hex hst hX.1.2.1 dX6_at_15 dX6_at_18 dX6_at_19 dX6_at_21 dX6_at_24 ⟨Nat.le_of_ble_eq_true rfl, Nat.le_of_ble_eq_true rfl, Nat.le_of_ble_eq_true rfl, Nat.le_of_ble_eq_true rfl⟩
  · refine z_if_lt (X := none) (Y := some ()) (res := ()) (tgt := 15) G dX6_at_1 (by decide) (if_neg h0) (fun h => by cases h) (fun _ => ?_)
    refine z_iload_n G dX6_at_4 rfl 1 rfl ?_
    refine z_aload_n G dX6_at_5 rfl 0 rfl ?_
    refine z_get (ci := 6) (v := .ref (na 0)) G in_X6 0 rfl rfl 8 (by decide) fl_X6_55 rfl dX6_at_6 ?_
    refine z_get (ci := 2) (v := .int n_size) G in_X2 3 rfl rfl 7 (by decide) fl_X6_80 rfl dX6_at_9 ?_
    refine z_icmp_lt (X := none) (Y := some ()) (res := ()) (tgt := 25) G dX6_at_12 (by decide) (if_neg (fun q => h.elim h0 (fun z => absurd q (Int32.not_lt.mpr z)))) (fun h => by cases h) (fun _ => ?_)
    exact z_throw G hX hex hst hX.1.2.1 dX6_at_15 dX6_at_18 dX6_at_19 dX6_at_21 dX6_at_24 ⟨Nat.le_of_ble_eq_true rfl, Nat.le_of_ble_eq_true rfl, Nat.le_of_ble_eq_true rfl, Nat.le_of_ble_eq_true rfl⟩
set_option maxRecDepth 100000 in
set_option maxHeartbeats 4000000 in
theorem cx_L_at {l : Launch} {dC : Nat → ClassId} {dI : Nat → Nat → Nat} {cI cJ cZ cN : ClassId} {sK : Nat → Nat} {ta : Nat → Nat} {na : Nat → Nat} {t_told : Nat} {t_text : Nat} {t_guide : Nat} {t_acts : Nat} {t_past : Nat} {t_trial : Nat} {t_kept : Nat → Nat} {t_filled : Nat → Int32} {n_narrower : Nat → Int32} {n_order : Nat → Int32} {n_items : Nat → Int64} {n_names : Nat → Int32} {n_owners : Nat → Int32} {n_moving : Nat → Int32} {n_all : Int32} {n_size : Int32} {n_nameCount : Int32} {p1 : Int32} {oa : Nat} {out : Nat → Int64} (hst : l.stackTraces = false) (h : p1 < 0 ∨ n_size ≤ p1) : zL l yL_at cL_at 4 (some .int) [(0, 9, 12, 13)] ({ frames := 7, cells := 1, slots := 6, locals := 110 }) [.ref (ta 0), .int p1, .ref oa] (dC, dI) vwCl (zT cI cJ cZ cN) sK ((w_Stn cI cJ cZ cN ta na t_told t_text t_guide t_acts t_past t_trial t_kept t_filled n_narrower n_order n_items n_names n_owners n_moving n_all n_size n_nameCount) ++ [(oa, .inl (cJ, 1, .inr (.inl out)))]) (some (.int 1)) ((w_Stn cI cJ cZ cN ta na t_told t_text t_guide t_acts t_past t_trial t_kept t_filled n_narrower n_order n_items n_names n_owners n_moving n_all n_size n_nameCount) ++ [(oa, .inl (cJ, 1, .inr (.inl out)))]) := by
  refine zL_of (own := RL) (by decide) rfl [(0, .ref (ta 0)), (1, .int p1), (2, .ref oa)] (Nat.le_of_ble_eq_true rfl) rfl ?_
  intro p e s m args below meth c A G hX hex
  refine z_aload_n G dL_at_0 rfl 2 rfl ?_
  refine z_iconst (v := 0) G dL_at_1 (by decide) ?_
  refine z_aload_n G dL_at_2 rfl 0 rfl ?_
  refine z_iload_n G dL_at_3 rfl 1 rfl ?_
  refine z_kT (As := [.int p1]) (rest := [.int 0, .ref oa]) G hX pk_X6_at pv_X6_at ml_L_15 (t_X6_at (ta := ta) (na := na) (t_told := t_told) (t_text := t_text) (t_guide := t_guide) (t_acts := t_acts) (t_past := t_past) (t_trial := t_trial) (t_kept := t_kept) (t_filled := t_filled) (n_narrower := n_narrower) (n_order := n_order) (n_items := n_items) (n_names := n_names) (n_owners := n_owners) (n_moving := n_moving) (n_all := n_all) (n_size := n_size) (n_nameCount := n_nameCount) (p1 := p1) (sK := sK) hst h) ⟨rfl, rfl⟩ ⟨Nat.le_of_ble_eq_true rfl, Nat.le_of_ble_eq_true rfl⟩ ⟨Nat.le_of_ble_eq_true rfl, Nat.le_of_ble_eq_true rfl⟩ rfl rfl (Nat.le_of_ble_eq_true rfl) 0 6 rfl rfl rfl [0, 1, 2, 3, 4, 5, 6, 7, 8, 9] rfl rfl ⟨0, 9, 12, 13⟩ hex (by decide) (by decide) kl_L_13 dL_at_4 (fun qx => ?_)
  refine z_astore_n (lv' := [(0, .ref (ta 0)), (1, .int p1), (2, .ref oa), (3, .ref qx)]) G dL_at_12 rfl (by decide) [1, 2, 3, 0] rfl ?_
  refine z_iconst (v := 1) G dL_at_13 (by decide) ?_
  exact z_iretW G rfl dL_at_14 rfl trivial rfl ⟨Nat.le_of_ble_eq_true rfl, Nat.le_of_ble_eq_true rfl⟩
set_option maxRecDepth 100000 in
set_option maxHeartbeats 4000000 in
theorem cr_L_at {l : Launch} {dC : Nat → ClassId} {dI : Nat → Nat → Nat} {cI cJ cZ cN : ClassId} {sK : Nat → Nat} {ta : Nat → Nat} {na : Nat → Nat} {t_told : Nat} {t_text : Nat} {t_guide : Nat} {t_acts : Nat} {t_past : Nat} {t_trial : Nat} {t_kept : Nat → Nat} {t_filled : Nat → Int32} {n_narrower : Nat → Int32} {n_order : Nat → Int32} {n_items : Nat → Int64} {n_names : Nat → Int32} {n_owners : Nat → Int32} {n_moving : Nat → Int32} {n_all : Int32} {n_size : Int32} {n_nameCount : Int32} {p1 : Int32} {oa : Nat} {out : Nat → Int64} {res : Int32} (h : f_X6_at n_order n_size p1 = some res) : zL l yL_at cL_at 4 (some .int) [(0, 9, 12, 13)] ({ frames := 7, cells := 1, slots := 6, locals := 110 }) [.ref (ta 0), .int p1, .ref oa] (dC, dI) vwCl (zT cI cJ cZ cN) sK ((w_Stn cI cJ cZ cN ta na t_told t_text t_guide t_acts t_past t_trial t_kept t_filled n_narrower n_order n_items n_names n_owners n_moving n_all n_size n_nameCount) ++ [(oa, .inl (cJ, 1, .inr (.inl out)))]) (some (.int 0)) ((w_Stn cI cJ cZ cN ta na t_told t_text t_guide t_acts t_past t_trial t_kept t_filled n_narrower n_order n_items n_names n_owners n_moving n_all n_size n_nameCount) ++ [(oa, .inl (cJ, 1, .inr (.inl (vp_updL out (ix 0) (res.toInt64)))))]) := by
  refine zL_of (own := RL) (by decide) rfl [(0, .ref (ta 0)), (1, .int p1), (2, .ref oa)] (Nat.le_of_ble_eq_true rfl) rfl ?_
  intro p e s m args below meth c A G hX hex
  refine z_aload_n G dL_at_0 rfl 2 rfl ?_
  refine z_iconst (v := 0) G dL_at_1 (by decide) ?_
  refine z_aload_n G dL_at_2 rfl 0 rfl ?_
  refine z_iload_n G dL_at_3 rfl 1 rfl ?_
  refine z_kR (As := [.int p1]) (rest := [.int 0, .ref oa]) (st' := [.int res, .int 0, .ref oa]) G pk_X6_at pv_X6_at ml_L_15 (c_X6_at (ta := ta) (na := na) (t_told := t_told) (t_text := t_text) (t_guide := t_guide) (t_acts := t_acts) (t_past := t_past) (t_trial := t_trial) (t_kept := t_kept) (t_filled := t_filled) (n_narrower := n_narrower) (n_order := n_order) (n_items := n_items) (n_names := n_names) (n_owners := n_owners) (n_moving := n_moving) (n_all := n_all) (n_size := n_size) (n_nameCount := n_nameCount) (p1 := p1) h) ⟨rfl, rfl⟩ ⟨Nat.le_of_ble_eq_true rfl, Nat.le_of_ble_eq_true rfl⟩ ⟨Nat.zero_le _, Nat.zero_le _⟩ rfl rfl (Nat.le_of_ble_eq_true rfl) 0 6 rfl rfl rfl [0, 1, 2, 3, 4, 5, 6, 7, 8, 9] rfl rfl rfl dL_at_4 (fun _ => ?_)
  refine z_i2l G dL_at_7 ?_
  refine z_lastore (X := some ()) (res := ()) (ws' := ((w_Stn cI cJ cZ cN ta na t_told t_text t_guide t_acts t_past t_trial t_kept t_filled n_narrower n_order n_items n_names n_owners n_moving n_all n_size n_nameCount) ++ [(oa, .inl (cJ, 1, .inr (.inl (vp_updL out (ix 0) (res.toInt64)))))])) G 10 1 rfl rfl rfl dL_at_8 rfl (fun _ => ?_)
  refine z_goto (tgt := 15) G dL_at_9 (by decide) ?_
  refine z_iconst (v := 0) G dL_at_15 (by decide) ?_
  exact z_iretW G rfl dL_at_16 rfl trivial rfl ⟨Nat.zero_le _, Nat.zero_le _⟩
set_option maxRecDepth 100000 in
set_option maxHeartbeats 4000000 in
theorem t_X6_row {l : Launch} {dC : Nat → ClassId} {dI : Nat → Nat → Nat} {cI cJ cZ cN : ClassId} {sK : Nat → Nat} {ta : Nat → Nat} {ra : Nat → Nat} {t_text : Nat} {t_guide : Nat} {t_acts : Nat} {t_past : Nat} {t_trial : Nat} {t_kept : Nat → Nat} {t_filled : Nat → Int32} {t_now : Nat} {r_numbers : Nat → Int64} {r_size : Int32} {p1 : Int32} (hst : l.stackTraces = false) (h : p1 < 0 ∨ r_size ≤ p1) : zMt l yX6_row cX6_row 2 (some .long) ({ frames := 6, cells := 1, slots := 6, locals := 82 }) [.ref (ta 0), .int p1] (dC, dI) vwCl (zT cI cJ cZ cN) sK (w_Str cI cJ cZ cN ta ra t_text t_guide t_acts t_past t_trial t_kept t_filled t_now r_numbers r_size) := by
  refine zMt_of (own := RX6) (by decide) rfl [(0, .ref (ta 0)), (1, .int p1)] (Nat.le_of_ble_eq_true rfl) rfl ?_
  intro p e s m args below meth c A G hX hex
  refine z_iload_n G dX6_row_0 rfl 1 rfl ?_
  by_cases h0 : p1 < 0
  · refine z_if_lt (X := some ()) (Y := none) (res := ()) (tgt := 15) G dX6_row_1 (by decide) (if_pos h0) (fun _ => ?_) (fun h => by cases h)
    exact z_throwW G hX hex hst hX.1.2.2 dX6_row_15 dX6_row_18 dX6_row_19 dX6_row_22 dX6_row_25 ⟨Nat.le_of_ble_eq_true rfl, Nat.le_of_ble_eq_true rfl, Nat.le_of_ble_eq_true rfl, Nat.le_of_ble_eq_true rfl⟩
  · refine z_if_lt (X := none) (Y := some ()) (res := ()) (tgt := 15) G dX6_row_1 (by decide) (if_neg h0) (fun h => by cases h) (fun _ => ?_)
    refine z_iload_n G dX6_row_4 rfl 1 rfl ?_
    refine z_aload_n G dX6_row_5 rfl 0 rfl ?_
    refine z_get (ci := 6) (v := .ref (ra 0)) G in_X6 0 rfl rfl 0 (by decide) fl_X6_27 rfl dX6_row_6 ?_
    refine z_get (ci := 4) (v := .int r_size) G in_X4 3 rfl rfl 1 (by decide) fl_X6_120 rfl dX6_row_9 ?_
    refine z_icmp_lt (X := none) (Y := some ()) (res := ()) (tgt := 26) G dX6_row_12 (by decide) (if_neg (fun q => h.elim h0 (fun z => absurd q (Int32.not_lt.mpr z)))) (fun h => by cases h) (fun _ => ?_)
    exact z_throwW G hX hex hst hX.1.2.2 dX6_row_15 dX6_row_18 dX6_row_19 dX6_row_22 dX6_row_25 ⟨Nat.le_of_ble_eq_true rfl, Nat.le_of_ble_eq_true rfl, Nat.le_of_ble_eq_true rfl, Nat.le_of_ble_eq_true rfl⟩
set_option maxRecDepth 100000 in
set_option maxHeartbeats 4000000 in
theorem cx_L_row {l : Launch} {dC : Nat → ClassId} {dI : Nat → Nat → Nat} {cI cJ cZ cN : ClassId} {sK : Nat → Nat} {ta : Nat → Nat} {ra : Nat → Nat} {t_text : Nat} {t_guide : Nat} {t_acts : Nat} {t_past : Nat} {t_trial : Nat} {t_kept : Nat → Nat} {t_filled : Nat → Int32} {t_now : Nat} {r_numbers : Nat → Int64} {r_size : Int32} {p1 : Int32} {oa : Nat} {out : Nat → Int64} (hst : l.stackTraces = false) (h : p1 < 0 ∨ r_size ≤ p1) : zL l yL_row cL_row 4 (some .int) [(0, 8, 11, 13)] ({ frames := 7, cells := 1, slots := 6, locals := 110 }) [.ref (ta 0), .int p1, .ref oa] (dC, dI) vwCl (zT cI cJ cZ cN) sK ((w_Str cI cJ cZ cN ta ra t_text t_guide t_acts t_past t_trial t_kept t_filled t_now r_numbers r_size) ++ [(oa, .inl (cJ, 1, .inr (.inl out)))]) (some (.int 1)) ((w_Str cI cJ cZ cN ta ra t_text t_guide t_acts t_past t_trial t_kept t_filled t_now r_numbers r_size) ++ [(oa, .inl (cJ, 1, .inr (.inl out)))]) := by
  refine zL_of (own := RL) (by decide) rfl [(0, .ref (ta 0)), (1, .int p1), (2, .ref oa)] (Nat.le_of_ble_eq_true rfl) rfl ?_
  intro p e s m args below meth c A G hX hex
  refine z_aload_n G dL_row_0 rfl 2 rfl ?_
  refine z_iconst (v := 0) G dL_row_1 (by decide) ?_
  refine z_aload_n G dL_row_2 rfl 0 rfl ?_
  refine z_iload_n G dL_row_3 rfl 1 rfl ?_
  refine z_kT (As := [.int p1]) (rest := [.int 0, .ref oa]) G hX pk_X6_row pv_X6_row ml_L_18 (t_X6_row (ta := ta) (ra := ra) (t_text := t_text) (t_guide := t_guide) (t_acts := t_acts) (t_past := t_past) (t_trial := t_trial) (t_kept := t_kept) (t_filled := t_filled) (t_now := t_now) (r_numbers := r_numbers) (r_size := r_size) (p1 := p1) (sK := sK) hst h) ⟨rfl, rfl⟩ ⟨Nat.le_of_ble_eq_true rfl, Nat.le_of_ble_eq_true rfl⟩ ⟨Nat.le_of_ble_eq_true rfl, Nat.le_of_ble_eq_true rfl⟩ rfl rfl (Nat.le_of_ble_eq_true rfl) 0 6 rfl rfl rfl [0, 1, 2, 3, 4] rfl rfl ⟨0, 8, 11, 13⟩ hex (by decide) (by decide) kl_L_13 dL_row_4 (fun qx => ?_)
  refine z_astore_n (lv' := [(0, .ref (ta 0)), (1, .int p1), (2, .ref oa), (3, .ref qx)]) G dL_row_11 rfl (by decide) [1, 2, 3, 0] rfl ?_
  refine z_iconst (v := 1) G dL_row_12 (by decide) ?_
  exact z_iretW G rfl dL_row_13 rfl trivial rfl ⟨Nat.le_of_ble_eq_true rfl, Nat.le_of_ble_eq_true rfl⟩
set_option maxRecDepth 100000 in
set_option maxHeartbeats 4000000 in
theorem cr_L_row {l : Launch} {dC : Nat → ClassId} {dI : Nat → Nat → Nat} {cI cJ cZ cN : ClassId} {sK : Nat → Nat} {ta : Nat → Nat} {ra : Nat → Nat} {t_text : Nat} {t_guide : Nat} {t_acts : Nat} {t_past : Nat} {t_trial : Nat} {t_kept : Nat → Nat} {t_filled : Nat → Int32} {t_now : Nat} {r_numbers : Nat → Int64} {r_size : Int32} {p1 : Int32} {oa : Nat} {out : Nat → Int64} {res : Int64} (h : f_X6_row r_numbers r_size p1 = some res) : zL l yL_row cL_row 4 (some .int) [(0, 8, 11, 13)] ({ frames := 7, cells := 1, slots := 6, locals := 110 }) [.ref (ta 0), .int p1, .ref oa] (dC, dI) vwCl (zT cI cJ cZ cN) sK ((w_Str cI cJ cZ cN ta ra t_text t_guide t_acts t_past t_trial t_kept t_filled t_now r_numbers r_size) ++ [(oa, .inl (cJ, 1, .inr (.inl out)))]) (some (.int 0)) ((w_Str cI cJ cZ cN ta ra t_text t_guide t_acts t_past t_trial t_kept t_filled t_now r_numbers r_size) ++ [(oa, .inl (cJ, 1, .inr (.inl (vp_updL out (ix 0) res))))]) := by
  refine zL_of (own := RL) (by decide) rfl [(0, .ref (ta 0)), (1, .int p1), (2, .ref oa)] (Nat.le_of_ble_eq_true rfl) rfl ?_
  intro p e s m args below meth c A G hX hex
  refine z_aload_n G dL_row_0 rfl 2 rfl ?_
  refine z_iconst (v := 0) G dL_row_1 (by decide) ?_
  refine z_aload_n G dL_row_2 rfl 0 rfl ?_
  refine z_iload_n G dL_row_3 rfl 1 rfl ?_
  refine z_kR (As := [.int p1]) (rest := [.int 0, .ref oa]) (st' := [.long res, .int 0, .ref oa]) G pk_X6_row pv_X6_row ml_L_18 (c_X6_row (ta := ta) (ra := ra) (t_text := t_text) (t_guide := t_guide) (t_acts := t_acts) (t_past := t_past) (t_trial := t_trial) (t_kept := t_kept) (t_filled := t_filled) (t_now := t_now) (r_numbers := r_numbers) (r_size := r_size) (p1 := p1) h) ⟨rfl, rfl⟩ ⟨Nat.le_of_ble_eq_true rfl, Nat.le_of_ble_eq_true rfl⟩ ⟨Nat.zero_le _, Nat.zero_le _⟩ rfl rfl (Nat.le_of_ble_eq_true rfl) 0 6 rfl rfl rfl [0, 1, 2, 3, 4] rfl rfl rfl dL_row_4 (fun _ => ?_)
  refine z_lastore (X := some ()) (res := ()) (ws' := ((w_Str cI cJ cZ cN ta ra t_text t_guide t_acts t_past t_trial t_kept t_filled t_now r_numbers r_size) ++ [(oa, .inl (cJ, 1, .inr (.inl (vp_updL out (ix 0) res))))])) G 5 1 rfl rfl rfl dL_row_7 rfl (fun _ => ?_)
  refine z_goto (tgt := 14) G dL_row_8 (by decide) ?_
  refine z_iconst (v := 0) G dL_row_14 (by decide) ?_
  exact z_iretW G rfl dL_row_15 rfl trivial rfl ⟨Nat.zero_le _, Nat.zero_le _⟩
