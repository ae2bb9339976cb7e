noncomputable def fo_X7_thrown (t_thrown : Int32) : Option (Int32) :=
  some (t_thrown)
set_option maxRecDepth 100000 in
set_option maxHeartbeats 4000000 in
theorem co_X7_thrown {l : Launch} {dC : Nat → ClassId} {dI : Nat → Nat → Nat} {cI cJ cZ cN : ClassId} {ta : Nat → Nat} {t_thrown : Int32} {t_told : Int32} {t_row : Nat → Int64} {t_tape : Nat → Int32} {t_taped : Int32} {t_at : Int32} {t_to : Int32} {t_mem : Nat → Int32} {t_undos : Int32} {t_places : Nat → Int32} {t_movers : Nat → Int32} {t_far : Nat → Int32} {t_way : Nat → Int32} {t_wayMany : Int32} {t_fromOf : Nat → Int32} {t_toOf : Nat → Int32} {t_longest : Nat → Int32} {t_wayCount : Nat → Int64} {t_thin : Nat → Int32} {t_ahead : Nat → Int32} {t_tried : Int32} {t_foundLow : Int32} {t_foundHigh : Int32} {t_nextLow : Int32} {t_nextHigh : Int32} {t_act : Nat → Int32} {t_first : Nat → Int32} {t_second : Nat → Int32} {t_random : Int32} {t_isKept : Nat → Int32}  {res : Int32} (h : fo_X7_thrown t_thrown = some res) : zM l yX7_thrown cX7_thrown 1 (some .int) ({ frames := 0, cells := 0, slots := 0, locals := 0 }) [.ref (ta 0)] (dC, dI) vwCl (zT cI cJ cZ cN) (w_M cI cJ cZ cN ta t_thrown t_told t_row t_tape t_taped t_at t_to t_mem t_undos t_places t_movers t_far t_way t_wayMany t_fromOf t_toOf t_longest t_wayCount t_thin t_ahead t_tried t_foundLow t_foundHigh t_nextLow t_nextHigh t_act t_first t_second t_random t_isKept) (some (.int res)) (True) (w_M cI cJ cZ cN ta t_thrown t_told t_row t_tape t_taped t_at t_to t_mem t_undos t_places t_movers t_far t_way t_wayMany t_fromOf t_toOf t_longest t_wayCount t_thin t_ahead t_tried t_foundLow t_foundHigh t_nextLow t_nextHigh t_act t_first t_second t_random t_isKept) := by
  refine zM_of (own := RX7) (by decide) rfl [(0, .ref (ta 0))] (Nat.le_of_ble_eq_true rfl) rfl ?_
  intro p e s m args below meth c A G _
  unfold fo_X7_thrown at h
  refine z_aload_n G dX7_thrown_0 rfl 0 rfl ?_
  refine z_get (ci := 7) (v := .int t_thrown) G in_X7 0 rfl rfl 0 (by decide) fl_X7_1 rfl dX7_thrown_1 ?_
  obtain rfl := Option.some.inj h
  exact z_iret G rfl dX7_thrown_4 rfl trivial rfl
noncomputable def f_X7_thrown (t_thrown : Int32) : Int32 :=
  (t_thrown)
theorem fo_X7_thrown_eq (t_thrown : Int32) : fo_X7_thrown t_thrown = some (f_X7_thrown t_thrown) := by
  unfold fo_X7_thrown f_X7_thrown
  first | rfl | ((repeat' split) <;> rfl) | (simp only [apply_ite Option.some])
theorem c_X7_thrown {l : Launch} {dC : Nat → ClassId} {dI : Nat → Nat → Nat} {cI cJ cZ cN : ClassId} {ta : Nat → Nat} {t_thrown : Int32} {t_told : Int32} {t_row : Nat → Int64} {t_tape : Nat → Int32} {t_taped : Int32} {t_at : Int32} {t_to : Int32} {t_mem : Nat → Int32} {t_undos : Int32} {t_places : Nat → Int32} {t_movers : Nat → Int32} {t_far : Nat → Int32} {t_way : Nat → Int32} {t_wayMany : Int32} {t_fromOf : Nat → Int32} {t_toOf : Nat → Int32} {t_longest : Nat → Int32} {t_wayCount : Nat → Int64} {t_thin : Nat → Int32} {t_ahead : Nat → Int32} {t_tried : Int32} {t_foundLow : Int32} {t_foundHigh : Int32} {t_nextLow : Int32} {t_nextHigh : Int32} {t_act : Nat → Int32} {t_first : Nat → Int32} {t_second : Nat → Int32} {t_random : Int32} {t_isKept : Nat → Int32}  (_ : True = True) : zM l yX7_thrown cX7_thrown 1 (some .int) ({ frames := 0, cells := 0, slots := 0, locals := 0 }) [.ref (ta 0)] (dC, dI) vwCl (zT cI cJ cZ cN) (w_M cI cJ cZ cN ta t_thrown t_told t_row t_tape t_taped t_at t_to t_mem t_undos t_places t_movers t_far t_way t_wayMany t_fromOf t_toOf t_longest t_wayCount t_thin t_ahead t_tried t_foundLow t_foundHigh t_nextLow t_nextHigh t_act t_first t_second t_random t_isKept) (some (.int (f_X7_thrown t_thrown))) (True) (w_M cI cJ cZ cN ta t_thrown t_told t_row t_tape t_taped t_at t_to t_mem t_undos t_places t_movers t_far t_way t_wayMany t_fromOf t_toOf t_longest t_wayCount t_thin t_ahead t_tried t_foundLow t_foundHigh t_nextLow t_nextHigh t_act t_first t_second t_random t_isKept) := co_X7_thrown (fo_X7_thrown_eq _)

noncomputable def fo_X7_in (p0 : Int64) (p2 : Int64) (p4 : Int64) : Option (Int32) :=
  if (lg_cmp p0 p2) < 0 then some (0) else if 0 < (lg_cmp p0 p4) then some (0) else some (1)
set_option maxRecDepth 100000 in
set_option maxHeartbeats 4000000 in
theorem co_X7_in {l : Launch} {dC : Nat → ClassId} {dI : Nat → Nat → Nat} {cI cJ cZ cN : ClassId}   {p0 : Int64} {p2 : Int64} {p4 : Int64} {res : Int32} (h : fo_X7_in p0 p2 p4 = some res) : zM l yX7_in cX7_in 6 (some .boolean) ({ frames := 0, cells := 0, slots := 0, locals := 0 }) [.long p0, .long p2, .long p4] (dC, dI) vwCl (zT cI cJ cZ cN) [] (some (.int res)) (narrow .boolean (.int res) = .int res) [] := by
  refine zM_of (own := RX7) (by decide) rfl [(0, .long p0), (2, .long p2), (4, .long p4)] (Nat.le_of_ble_eq_true rfl) rfl ?_
  intro p e s m args below meth c A G _
  unfold fo_X7_in at h
  refine z_lload_n G dX7_in_0 rfl 0 rfl ?_
  refine z_lload_n G dX7_in_1 rfl 1 rfl ?_
  refine z_lcmp G dX7_in_2 ?_
  refine z_if_lt (tgt := 17) G dX7_in_3 (by decide) h (fun h => ?_) (fun h => ?_)
  · refine z_iconst (v := 0) G dX7_in_17 (by decide) ?_
    obtain rfl := Option.some.inj h
    exact z_zret G rfl zn0 dX7_in_18 rfl zn0 rfl
  · refine z_lload_n G dX7_in_6 rfl 0 rfl ?_
    refine z_lload G dX7_in_7 2 rfl ?_
    refine z_lcmp G dX7_in_9 ?_
    refine z_if_gt (tgt := 17) G dX7_in_10 (by decide) h (fun h => ?_) (fun h => ?_)
    · refine z_iconst (v := 0) G dX7_in_17 (by decide) ?_
      obtain rfl := Option.some.inj h
      exact z_zret G rfl zn0 dX7_in_18 rfl zn0 rfl
    · refine z_iconst (v := 1) G dX7_in_13 (by decide) ?_
      refine z_goto (tgt := 18) G dX7_in_14 (by decide) ?_
      obtain rfl := Option.some.inj h
      exact z_zret G rfl zn1 dX7_in_18 rfl zn1 rfl
noncomputable def f_X7_in (p0 : Int64) (p2 : Int64) (p4 : Int64) : Int32 :=
  if (lg_cmp p0 p2) < 0 then (0) else if 0 < (lg_cmp p0 p4) then (0) else (1)
theorem fo_X7_in_eq (p0 : Int64) (p2 : Int64) (p4 : Int64) : fo_X7_in p0 p2 p4 = some (f_X7_in p0 p2 p4) := by
  unfold fo_X7_in f_X7_in
  first | rfl | ((repeat' split) <;> rfl) | (simp only [apply_ite Option.some])
theorem c_X7_in {l : Launch} {dC : Nat → ClassId} {dI : Nat → Nat → Nat} {cI cJ cZ cN : ClassId}   {p0 : Int64} {p2 : Int64} {p4 : Int64} (_ : True = True) : zM l yX7_in cX7_in 6 (some .boolean) ({ frames := 0, cells := 0, slots := 0, locals := 0 }) [.long p0, .long p2, .long p4] (dC, dI) vwCl (zT cI cJ cZ cN) [] (some (.int (f_X7_in p0 p2 p4))) (narrow .boolean (.int (f_X7_in p0 p2 p4)) = .int (f_X7_in p0 p2 p4)) [] := co_X7_in (fo_X7_in_eq _ _ _)

noncomputable def fo_X7_flag (p0 : Int32) : Option (Int32) :=
  if p0 = 0 then some (0) else some (1)
set_option maxRecDepth 100000 in
set_option maxHeartbeats 4000000 in
theorem co_X7_flag {l : Launch} {dC : Nat → ClassId} {dI : Nat → Nat → Nat} {cI cJ cZ cN : ClassId}   {p0 : Int32} {res : Int32} (h : fo_X7_flag p0 = some res) : zM l yX7_flag cX7_flag 1 (some .int) ({ frames := 0, cells := 0, slots := 0, locals := 0 }) [.int p0] (dC, dI) vwCl (zT cI cJ cZ cN) [] (some (.int res)) (True) [] := by
  refine zM_of (own := RX7) (by decide) rfl [(0, .int p0)] (Nat.le_of_ble_eq_true rfl) rfl ?_
  intro p e s m args below meth c A G _
  unfold fo_X7_flag at h
  refine z_iload_n G dX7_flag_0 rfl 0 rfl ?_
  refine z_if_eq (tgt := 8) G dX7_flag_1 (by decide) h (fun h => ?_) (fun h => ?_)
  · refine z_iconst (v := 0) G dX7_flag_8 (by decide) ?_
    obtain rfl := Option.some.inj h
    exact z_iret G rfl dX7_flag_9 rfl trivial rfl
  · refine z_iconst (v := 1) G dX7_flag_4 (by decide) ?_
    refine z_goto (tgt := 9) G dX7_flag_5 (by decide) ?_
    obtain rfl := Option.some.inj h
    exact z_iret G rfl dX7_flag_9 rfl trivial rfl
noncomputable def f_X7_flag (p0 : Int32) : Int32 :=
  if p0 = 0 then (0) else (1)
theorem fo_X7_flag_eq (p0 : Int32) : fo_X7_flag p0 = some (f_X7_flag p0) := by
  unfold fo_X7_flag f_X7_flag
  first | rfl | ((repeat' split) <;> rfl) | (simp only [apply_ite Option.some])
theorem c_X7_flag {l : Launch} {dC : Nat → ClassId} {dI : Nat → Nat → Nat} {cI cJ cZ cN : ClassId}   {p0 : Int32} (_ : True = True) : zM l yX7_flag cX7_flag 1 (some .int) ({ frames := 0, cells := 0, slots := 0, locals := 0 }) [.int p0] (dC, dI) vwCl (zT cI cJ cZ cN) [] (some (.int (f_X7_flag p0))) (True) [] := co_X7_flag (fo_X7_flag_eq _)

noncomputable def fo_X7_has (p0 : Int32) (p1 : Int32) : Option (Int32) :=
  if ((jshr p0 p1) &&& 1) = 1 then some (1) else some (0)
set_option maxRecDepth 100000 in
set_option maxHeartbeats 4000000 in
theorem co_X7_has {l : Launch} {dC : Nat → ClassId} {dI : Nat → Nat → Nat} {cI cJ cZ cN : ClassId}   {p0 : Int32} {p1 : Int32} {res : Int32} (h : fo_X7_has p0 p1 = some res) : zM l yX7_has cX7_has 2 (some .boolean) ({ frames := 0, cells := 0, slots := 0, locals := 0 }) [.int p0, .int p1] (dC, dI) vwCl (zT cI cJ cZ cN) [] (some (.int res)) (narrow .boolean (.int res) = .int res) [] := by
  refine zM_of (own := RX7) (by decide) rfl [(0, .int p0), (1, .int p1)] (Nat.le_of_ble_eq_true rfl) rfl ?_
  intro p e s m args below meth c A G _
  unfold fo_X7_has at h
  refine z_iload_n G dX7_has_0 rfl 0 rfl ?_
  refine z_iload_n G dX7_has_1 rfl 1 rfl ?_
  refine z_ishr G dX7_has_2 ?_
  refine z_iconst (v := 1) G dX7_has_3 (by decide) ?_
  refine z_iand G dX7_has_4 ?_
  refine z_iconst (v := 1) G dX7_has_5 (by decide) ?_
  refine z_icmp_ne (tgt := 13) G dX7_has_6 (by decide) h (fun h => ?_) (fun h => ?_)
  · refine z_iconst (v := 0) G dX7_has_13 (by decide) ?_
    obtain rfl := Option.some.inj h
    exact z_zret G rfl zn0 dX7_has_14 rfl zn0 rfl
  · refine z_iconst (v := 1) G dX7_has_9 (by decide) ?_
    refine z_goto (tgt := 14) G dX7_has_10 (by decide) ?_
    obtain rfl := Option.some.inj h
    exact z_zret G rfl zn1 dX7_has_14 rfl zn1 rfl
noncomputable def f_X7_has (p0 : Int32) (p1 : Int32) : Int32 :=
  if ((jshr p0 p1) &&& 1) = 1 then (1) else (0)
theorem fo_X7_has_eq (p0 : Int32) (p1 : Int32) : fo_X7_has p0 p1 = some (f_X7_has p0 p1) := by
  unfold fo_X7_has f_X7_has
  first | rfl | ((repeat' split) <;> rfl) | (simp only [apply_ite Option.some])
theorem c_X7_has {l : Launch} {dC : Nat → ClassId} {dI : Nat → Nat → Nat} {cI cJ cZ cN : ClassId}   {p0 : Int32} {p1 : Int32} (_ : True = True) : zM l yX7_has cX7_has 2 (some .boolean) ({ frames := 0, cells := 0, slots := 0, locals := 0 }) [.int p0, .int p1] (dC, dI) vwCl (zT cI cJ cZ cN) [] (some (.int (f_X7_has p0 p1))) (narrow .boolean (.int (f_X7_has p0 p1)) = .int (f_X7_has p0 p1)) [] := co_X7_has (fo_X7_has_eq _ _)

noncomputable def f_X7_sizeOf_b4 (p0 : Int32) (k4 : Int32 → Int32 → Option (Int32)) (x1 : Int32) (x2 : Int32) : Option (Int32) :=
  if x2 = 0 then some (x1) else k4 (x1 + 1) (x2 &&& (x2 - 1))
set_option maxRecDepth 100000 in
set_option maxHeartbeats 4000000 in
theorem zb_X7_sizeOf_4 {p : Program} {l : Launch} {e : Env} {s : State} {m : MethodId} {args : Array Value} {below : List Frame} {meth : Method} {c : Code} {A : Nat → Prop} {dC : Nat → ClassId} {dI : Nat → Nat → Nat} {cI cJ cZ cN : ClassId}   {p0 : Int32} {res : Int32} (G : zG p m c cX7_sizeOf 3 s args RX7 (dC, dI) vwCl (zT cI cJ cZ cN) A meth (some .int)) {k4 : Int32 → Int32 → Option (Int32)} (hr4 : ∀ (x1 : Int32) (x2 : Int32), k4 x1 x2 = some res → Z p l e ({ frames := 0, cells := 0, slots := 0, locals := 0 }) s m args below meth c (dC, dI) vwCl A 3 0 0 (MQ below (zQ (some (.int res)) (True) [] (dC, dI) vwCl A) args s 0 0 A) [] [(0, .int p0), (1, .int x1), (2, .int x2)] [] 4) : ∀ (x1 : Int32) (x2 : Int32), f_X7_sizeOf_b4 p0 k4 x1 x2 = some res → Z p l e ({ frames := 0, cells := 0, slots := 0, locals := 0 }) s m args below meth c (dC, dI) vwCl A 3 0 0 (MQ below (zQ (some (.int res)) (True) [] (dC, dI) vwCl A) args s 0 0 A) [] [(0, .int p0), (1, .int x1), (2, .int x2)] [] 4 := by
  intro x1 x2 h
  unfold f_X7_sizeOf_b4 at h
  refine z_iload_n G dX7_sizeOf_4 rfl 2 rfl ?_
  refine z_if_eq (tgt := 20) G dX7_sizeOf_5 (by decide) h (fun h => ?_) (fun h => ?_)
  · refine z_iload_n G dX7_sizeOf_20 rfl 1 rfl ?_
    obtain rfl := Option.some.inj h
    exact z_iret G rfl dX7_sizeOf_21 rfl trivial rfl
  · refine z_iinc (v := x1 + 1) (lv' := [(0, .int p0), (1, .int (x1 + 1)), (2, .int x2)]) G dX7_sizeOf_8 1 rfl rfl (by decide) [1, 0, 2] rfl ?_
    refine z_iload_n G dX7_sizeOf_11 rfl 2 rfl ?_
    refine z_iload_n G dX7_sizeOf_12 rfl 2 rfl ?_
    refine z_iconst (v := 1) G dX7_sizeOf_13 (by decide) ?_
    refine z_isub G dX7_sizeOf_14 ?_
    refine z_iand G dX7_sizeOf_15 ?_
    refine z_istore_n (lv' := [(0, .int p0), (1, .int (x1 + 1)), (2, .int (x2 &&& (x2 - 1)))]) G dX7_sizeOf_16 rfl (by decide) [1, 2, 0] rfl ?_
    refine z_goto (tgt := 4) G dX7_sizeOf_17 (by decide) ?_
    exact hr4 (x1 + 1) (x2 &&& (x2 - 1)) h
noncomputable def f_X7_sizeOf_l4 (p0 : Int32)  (x1 : Int32) (x2 : Int32) : Option (Int32) := loopN (V := Int32 × Int32) (fun rc v => f_X7_sizeOf_b4 p0  (fun x0_ x1_ => rc (x0_, x1_)) v.1 v.2) 200 (x1, x2)
set_option maxRecDepth 100000 in
set_option maxHeartbeats 4000000 in
theorem zl_X7_sizeOf_4 {p : Program} {l : Launch} {e : Env} {s : State} {m : MethodId} {args : Array Value} {below : List Frame} {meth : Method} {c : Code} {A : Nat → Prop} {dC : Nat → ClassId} {dI : Nat → Nat → Nat} {cI cJ cZ cN : ClassId}   {p0 : Int32} {res : Int32} (G : zG p m c cX7_sizeOf 3 s args RX7 (dC, dI) vwCl (zT cI cJ cZ cN) A meth (some .int))  : ∀ (x1 : Int32) (x2 : Int32), f_X7_sizeOf_l4 p0  x1 x2 = some res → Z p l e ({ frames := 0, cells := 0, slots := 0, locals := 0 }) s m args below meth c (dC, dI) vwCl A 3 0 0 (MQ below (zQ (some (.int res)) (True) [] (dC, dI) vwCl A) args s 0 0 A) [] [(0, .int p0), (1, .int x1), (2, .int x2)] [] 4 := by
  intro x1 x2 h
  exact zloop (P := fun v => Z p l e ({ frames := 0, cells := 0, slots := 0, locals := 0 }) s m args below meth c (dC, dI) vwCl A 3 0 0 (MQ below (zQ (some (.int res)) (True) [] (dC, dI) vwCl A) args s 0 0 A) [] [(0, .int p0), (1, .int v.1), (2, .int v.2)] [] 4) (fun rc hr v h => zb_X7_sizeOf_4 G  (fun x0_ x1_ h => hr (x0_, x1_) h) v.1 v.2 h) 200 (x1, x2) h
noncomputable def f_X7_sizeOf (p0 : Int32) : Option (Int32) :=
  f_X7_sizeOf_l4 p0  0 p0
set_option maxRecDepth 100000 in
set_option maxHeartbeats 4000000 in
theorem c_X7_sizeOf {l : Launch} {dC : Nat → ClassId} {dI : Nat → Nat → Nat} {cI cJ cZ cN : ClassId}   {p0 : Int32} {res : Int32} (h : f_X7_sizeOf p0 = some res) : zM l yX7_sizeOf cX7_sizeOf 3 (some .int) ({ frames := 0, cells := 0, slots := 0, locals := 0 }) [.int p0] (dC, dI) vwCl (zT cI cJ cZ cN) [] (some (.int res)) (True) [] := by
  refine zM_of (own := RX7) (by decide) rfl [(0, .int p0)] (Nat.le_of_ble_eq_true rfl) rfl ?_
  intro p e s m args below meth c A G _
  unfold f_X7_sizeOf at h
  refine z_iconst (v := 0) G dX7_sizeOf_0 (by decide) ?_
  refine z_istore_n (lv' := [(0, .int p0), (1, .int 0)]) G dX7_sizeOf_1 rfl (by decide) [1, 0] rfl ?_
  refine z_iload_n G dX7_sizeOf_2 rfl 0 rfl ?_
  refine z_istore_n (lv' := [(0, .int p0), (1, .int 0), (2, .int p0)]) G dX7_sizeOf_3 rfl (by decide) [1, 2, 0] rfl ?_
  exact zl_X7_sizeOf_4 G  0 p0 h

noncomputable def f_X7_enters (t_told : Int32) (t_row : Nat → Int64) (p1 : Int64) : Option (Int32 × (Nat → Int64)) :=
  chk (inb t_told 300) (some (t_told + 1, vp_updL t_row (ix t_told) p1))
set_option maxRecDepth 100000 in
set_option maxHeartbeats 4000000 in
theorem c_X7_enters {l : Launch} {dC : Nat → ClassId} {dI : Nat → Nat → Nat} {cI cJ cZ cN : ClassId} {ta : Nat → Nat} {t_thrown : Int32} {t_told : Int32} {t_row : Nat → Int64} {t_tape : Nat → Int32} {t_taped : Int32} {t_at : Int32} {t_to : Int32} {t_mem : Nat → Int32} {t_undos : Int32} {t_places : Nat → Int32} {t_movers : Nat → Int32} {t_far : Nat → Int32} {t_way : Nat → Int32} {t_wayMany : Int32} {t_fromOf : Nat → Int32} {t_toOf : Nat → Int32} {t_longest : Nat → Int32} {t_wayCount : Nat → Int64} {t_thin : Nat → Int32} {t_ahead : Nat → Int32} {t_tried : Int32} {t_foundLow : Int32} {t_foundHigh : Int32} {t_nextLow : Int32} {t_nextHigh : Int32} {t_act : Nat → Int32} {t_first : Nat → Int32} {t_second : Nat → Int32} {t_random : Int32} {t_isKept : Nat → Int32} {p1 : Int64} {res : Int32 × (Nat → Int64)} (h : f_X7_enters t_told t_row p1 = some res) : zM l yX7_enters cX7_enters 3 none ({ frames := 0, cells := 0, slots := 0, locals := 0 }) [.ref (ta 0), .long p1] (dC, dI) vwCl (zT cI cJ cZ cN) (w_M cI cJ cZ cN ta t_thrown t_told t_row t_tape t_taped t_at t_to t_mem t_undos t_places t_movers t_far t_way t_wayMany t_fromOf t_toOf t_longest t_wayCount t_thin t_ahead t_tried t_foundLow t_foundHigh t_nextLow t_nextHigh t_act t_first t_second t_random t_isKept) (none) (True) (w_M cI cJ cZ cN ta t_thrown res.1 res.2 t_tape t_taped t_at t_to t_mem t_undos t_places t_movers t_far t_way t_wayMany t_fromOf t_toOf t_longest t_wayCount t_thin t_ahead t_tried t_foundLow t_foundHigh t_nextLow t_nextHigh t_act t_first t_second t_random t_isKept) := by
  refine zM_of (own := RX7) (by decide) rfl [(0, .ref (ta 0)), (1, .long p1)] (Nat.le_of_ble_eq_true rfl) rfl ?_
  intro p e s m args below meth c A G _
  unfold f_X7_enters at h
  refine z_aload_n G dX7_enters_0 rfl 0 rfl ?_
  refine z_get (ci := 7) (v := .ref (ta 1)) G in_X7 0 rfl rfl 2 (by decide) fl_X7_7 rfl dX7_enters_1 ?_
  refine z_aload_n G dX7_enters_4 rfl 0 rfl ?_
  refine z_get (ci := 7) (v := .int t_told) G in_X7 0 rfl rfl 1 (by decide) fl_X7_11 rfl dX7_enters_5 ?_
  refine z_lload_n G dX7_enters_8 rfl 1 rfl ?_
  refine z_lastore (ws' := (w_M cI cJ cZ cN ta t_thrown t_told (vp_updL t_row (ix t_told) p1) t_tape t_taped t_at t_to t_mem t_undos t_places t_movers t_far t_way t_wayMany t_fromOf t_toOf t_longest t_wayCount t_thin t_ahead t_tried t_foundLow t_foundHigh t_nextLow t_nextHigh t_act t_first t_second t_random t_isKept)) G 1 1 rfl rfl rfl dX7_enters_9 h (fun h => ?_)
  refine z_aload_n G dX7_enters_10 rfl 0 rfl ?_
  refine z_dup G dX7_enters_11 rfl ?_
  refine z_get (ci := 7) (v := .int t_told) G in_X7 0 rfl rfl 1 (by decide) fl_X7_11 rfl dX7_enters_12 ?_
  refine z_iconst (v := 1) G dX7_enters_15 (by decide) ?_
  refine z_iadd G dX7_enters_16 ?_
  refine z_put (ci := 7) (ws' := (w_M cI cJ cZ cN ta t_thrown (t_told + 1) (vp_updL t_row (ix t_told) p1) t_tape t_taped t_at t_to t_mem t_undos t_places t_movers t_far t_way t_wayMany t_fromOf t_toOf t_longest t_wayCount t_thin t_ahead t_tried t_foundLow t_foundHigh t_nextLow t_nextHigh t_act t_first t_second t_random t_isKept)) G in_X7 tyX7 tyX7_ok nmX7 0 rfl rfl 1 (by decide) fl_X7_11 rfl rfl rfl (Nat.le_of_ble_eq_true rfl) rfl dX7_enters_17 ?_
  obtain rfl := Option.some.inj h
  exact z_vret G rfl dX7_enters_20 rfl trivial rfl

noncomputable def f_X7_sign_b18 (t_taped : Int32) (p1 : Int32) (k18 : Int32 → Int32 → (Nat → Int32) → Option (Int32 × Int32 × (Nat → Int32) × Int32)) (x2 : Int32) (t_thrown : Int32) (t_tape : Nat → Int32) : Option (Int32 × Int32 × (Nat → Int32) × Int32) :=
  if 4 ≤ x2 then some (t_taped + 4, t_thrown, t_tape, t_taped + 4) else chk (inb (t_taped + x2) 80) (k18 (x2 + 1) t_thrown (upd t_tape (ix (t_taped + x2)) ((jshr p1 (24 - (8 * x2))) &&& 255)))
set_option maxRecDepth 100000 in
set_option maxHeartbeats 4000000 in
theorem zb_X7_sign_18 {p : Program} {l : Launch} {e : Env} {s : State} {m : MethodId} {args : Array Value} {below : List Frame} {meth : Method} {c : Code} {A : Nat → Prop} {dC : Nat → ClassId} {dI : Nat → Nat → Nat} {cI cJ cZ cN : ClassId} {ta : Nat → Nat} {t_told : Int32} {t_row : Nat → Int64} {t_taped : Int32} {t_at : Int32} {t_to : Int32} {t_mem : Nat → Int32} {t_undos : Int32} {t_places : Nat → Int32} {t_movers : Nat → Int32} {t_far : Nat → Int32} {t_way : Nat → Int32} {t_wayMany : Int32} {t_fromOf : Nat → Int32} {t_toOf : Nat → Int32} {t_longest : Nat → Int32} {t_wayCount : Nat → Int64} {t_thin : Nat → Int32} {t_ahead : Nat → Int32} {t_tried : Int32} {t_foundLow : Int32} {t_foundHigh : Int32} {t_nextLow : Int32} {t_nextHigh : Int32} {t_act : Nat → Int32} {t_first : Nat → Int32} {t_second : Nat → Int32} {t_random : Int32} {t_isKept : Nat → Int32} {p1 : Int32} {res : Int32 × Int32 × (Nat → Int32) × Int32} (G : zG p m c cX7_sign 3 s args RX7 (dC, dI) vwCl (zT cI cJ cZ cN) A meth (some .int)) {k18 : Int32 → Int32 → (Nat → Int32) → Option (Int32 × Int32 × (Nat → Int32) × Int32)} (hr18 : ∀ (x2 : Int32) (t_thrown : Int32) (t_tape : Nat → Int32), k18 x2 t_thrown t_tape = some res → Z p l e ({ frames := 0, cells := 0, slots := 0, locals := 0 }) s m args below meth c (dC, dI) vwCl A 3 0 0 (MQ below (zQ (some (.int res.1)) (True) (w_M cI cJ cZ cN ta res.2.1 t_told t_row res.2.2.1 res.2.2.2 t_at t_to t_mem t_undos t_places t_movers t_far t_way t_wayMany t_fromOf t_toOf t_longest t_wayCount t_thin t_ahead t_tried t_foundLow t_foundHigh t_nextLow t_nextHigh t_act t_first t_second t_random t_isKept) (dC, dI) vwCl A) args s 0 0 A) (w_M cI cJ cZ cN ta t_thrown t_told t_row t_tape t_taped t_at t_to t_mem t_undos t_places t_movers t_far t_way t_wayMany t_fromOf t_toOf t_longest t_wayCount t_thin t_ahead t_tried t_foundLow t_foundHigh t_nextLow t_nextHigh t_act t_first t_second t_random t_isKept) [(0, .ref (ta 0)), (1, .int p1), (2, .int x2)] [] 18) : ∀ (x2 : Int32) (t_thrown : Int32) (t_tape : Nat → Int32), f_X7_sign_b18 t_taped p1 k18 x2 t_thrown t_tape = some res → Z p l e ({ frames := 0, cells := 0, slots := 0, locals := 0 }) s m args below meth c (dC, dI) vwCl A 3 0 0 (MQ below (zQ (some (.int res.1)) (True) (w_M cI cJ cZ cN ta res.2.1 t_told t_row res.2.2.1 res.2.2.2 t_at t_to t_mem t_undos t_places t_movers t_far t_way t_wayMany t_fromOf t_toOf t_longest t_wayCount t_thin t_ahead t_tried t_foundLow t_foundHigh t_nextLow t_nextHigh t_act t_first t_second t_random t_isKept) (dC, dI) vwCl A) args s 0 0 A) (w_M cI cJ cZ cN ta t_thrown t_told t_row t_tape t_taped t_at t_to t_mem t_undos t_places t_movers t_far t_way t_wayMany t_fromOf t_toOf t_longest t_wayCount t_thin t_ahead t_tried t_foundLow t_foundHigh t_nextLow t_nextHigh t_act t_first t_second t_random t_isKept) [(0, .ref (ta 0)), (1, .int p1), (2, .int x2)] [] 18 := by
  intro x2 t_thrown t_tape h
  unfold f_X7_sign_b18 at h
  refine z_iload_n G dX7_sign_18 rfl 2 rfl ?_
  refine z_iconst (v := 4) G dX7_sign_19 (by decide) ?_
  refine z_icmp_ge (tgt := 53) G dX7_sign_20 (by decide) h (fun h => ?_) (fun h => ?_)
  · refine z_aload_n G dX7_sign_53 rfl 0 rfl ?_
    refine z_dup G dX7_sign_54 rfl ?_
    refine z_get (ci := 7) (v := .int t_taped) G in_X7 0 rfl rfl 4 (by decide) fl_X7_14 rfl dX7_sign_55 ?_
    refine z_iconst (v := 4) G dX7_sign_58 (by decide) ?_
    refine z_iadd G dX7_sign_59 ?_
    refine z_put (ci := 7) (ws' := (w_M cI cJ cZ cN ta t_thrown t_told t_row t_tape (t_taped + 4) t_at t_to t_mem t_undos t_places t_movers t_far t_way t_wayMany t_fromOf t_toOf t_longest t_wayCount t_thin t_ahead t_tried t_foundLow t_foundHigh t_nextLow t_nextHigh t_act t_first t_second t_random t_isKept)) G in_X7 tyX7 tyX7_ok nmX7 0 rfl rfl 4 (by decide) fl_X7_14 rfl rfl rfl (Nat.le_of_ble_eq_true rfl) rfl dX7_sign_60 ?_
    refine z_aload_n G dX7_sign_63 rfl 0 rfl ?_
    refine z_get (ci := 7) (v := .int (t_taped + 4)) G in_X7 0 rfl rfl 4 (by decide) fl_X7_14 rfl dX7_sign_64 ?_
    obtain rfl := Option.some.inj h
    exact z_iret G rfl dX7_sign_67 rfl trivial rfl
  · refine z_aload_n G dX7_sign_23 rfl 0 rfl ?_
    refine z_get (ci := 7) (v := .ref (ta 2)) G in_X7 0 rfl rfl 3 (by decide) fl_X7_17 rfl dX7_sign_24 ?_
    refine z_aload_n G dX7_sign_27 rfl 0 rfl ?_
    refine z_get (ci := 7) (v := .int t_taped) G in_X7 0 rfl rfl 4 (by decide) fl_X7_14 rfl dX7_sign_28 ?_
    refine z_iload_n G dX7_sign_31 rfl 2 rfl ?_
    refine z_iadd G dX7_sign_32 ?_
    refine z_iload_n G dX7_sign_33 rfl 1 rfl ?_
    refine z_bipush (v := 24) G dX7_sign_34 (by decide) ?_
    refine z_bipush (v := 8) G dX7_sign_36 (by decide) ?_
    refine z_iload_n G dX7_sign_38 rfl 2 rfl ?_
    refine z_imul G dX7_sign_39 ?_
    refine z_isub G dX7_sign_40 ?_
    refine z_ishr G dX7_sign_41 ?_
    refine z_sipush (v := 255) G dX7_sign_42 (by decide) ?_
    refine z_iand G dX7_sign_45 ?_
    refine z_iastore (ws' := (w_M cI cJ cZ cN ta t_thrown t_told t_row (upd t_tape (ix (t_taped + x2)) ((jshr p1 (24 - (8 * x2))) &&& 255)) t_taped t_at t_to t_mem t_undos t_places t_movers t_far t_way t_wayMany t_fromOf t_toOf t_longest t_wayCount t_thin t_ahead t_tried t_foundLow t_foundHigh t_nextLow t_nextHigh t_act t_first t_second t_random t_isKept)) G 2 0 rfl rfl rfl dX7_sign_46 h (fun h => ?_)
    refine z_iinc (v := x2 + 1) (lv' := [(0, .ref (ta 0)), (1, .int p1), (2, .int (x2 + 1))]) G dX7_sign_47 2 rfl rfl (by decide) [1, 2, 0] rfl ?_
    refine z_goto (tgt := 18) G dX7_sign_50 (by decide) ?_
    exact hr18 (x2 + 1) t_thrown (upd t_tape (ix (t_taped + x2)) ((jshr p1 (24 - (8 * x2))) &&& 255)) h
noncomputable def f_X7_sign_l18 (t_taped : Int32) (p1 : Int32)  (x2 : Int32) (t_thrown : Int32) (t_tape : Nat → Int32) : Option (Int32 × Int32 × (Nat → Int32) × Int32) := loopN (V := Int32 × Int32 × (Nat → Int32)) (fun rc v => f_X7_sign_b18 t_taped p1  (fun x0_ x1_ x2_ => rc (x0_, x1_, x2_)) v.1 v.2.1 v.2.2) 200 (x2, t_thrown, t_tape)
set_option maxRecDepth 100000 in
set_option maxHeartbeats 4000000 in
theorem zl_X7_sign_18 {p : Program} {l : Launch} {e : Env} {s : State} {m : MethodId} {args : Array Value} {below : List Frame} {meth : Method} {c : Code} {A : Nat → Prop} {dC : Nat → ClassId} {dI : Nat → Nat → Nat} {cI cJ cZ cN : ClassId} {ta : Nat → Nat} {t_told : Int32} {t_row : Nat → Int64} {t_taped : Int32} {t_at : Int32} {t_to : Int32} {t_mem : Nat → Int32} {t_undos : Int32} {t_places : Nat → Int32} {t_movers : Nat → Int32} {t_far : Nat → Int32} {t_way : Nat → Int32} {t_wayMany : Int32} {t_fromOf : Nat → Int32} {t_toOf : Nat → Int32} {t_longest : Nat → Int32} {t_wayCount : Nat → Int64} {t_thin : Nat → Int32} {t_ahead : Nat → Int32} {t_tried : Int32} {t_foundLow : Int32} {t_foundHigh : Int32} {t_nextLow : Int32} {t_nextHigh : Int32} {t_act : Nat → Int32} {t_first : Nat → Int32} {t_second : Nat → Int32} {t_random : Int32} {t_isKept : Nat → Int32} {p1 : Int32} {res : Int32 × Int32 × (Nat → Int32) × Int32} (G : zG p m c cX7_sign 3 s args RX7 (dC, dI) vwCl (zT cI cJ cZ cN) A meth (some .int))  : ∀ (x2 : Int32) (t_thrown : Int32) (t_tape : Nat → Int32), f_X7_sign_l18 t_taped p1  x2 t_thrown t_tape = some res → Z p l e ({ frames := 0, cells := 0, slots := 0, locals := 0 }) s m args below meth c (dC, dI) vwCl A 3 0 0 (MQ below (zQ (some (.int res.1)) (True) (w_M cI cJ cZ cN ta res.2.1 t_told t_row res.2.2.1 res.2.2.2 t_at t_to t_mem t_undos t_places t_movers t_far t_way t_wayMany t_fromOf t_toOf t_longest t_wayCount t_thin t_ahead t_tried t_foundLow t_foundHigh t_nextLow t_nextHigh t_act t_first t_second t_random t_isKept) (dC, dI) vwCl A) args s 0 0 A) (w_M cI cJ cZ cN ta t_thrown t_told t_row t_tape t_taped t_at t_to t_mem t_undos t_places t_movers t_far t_way t_wayMany t_fromOf t_toOf t_longest t_wayCount t_thin t_ahead t_tried t_foundLow t_foundHigh t_nextLow t_nextHigh t_act t_first t_second t_random t_isKept) [(0, .ref (ta 0)), (1, .int p1), (2, .int x2)] [] 18 := by
  intro x2 t_thrown t_tape h
  exact zloop (P := fun v => Z p l e ({ frames := 0, cells := 0, slots := 0, locals := 0 }) s m args below meth c (dC, dI) vwCl A 3 0 0 (MQ below (zQ (some (.int res.1)) (True) (w_M cI cJ cZ cN ta res.2.1 t_told t_row res.2.2.1 res.2.2.2 t_at t_to t_mem t_undos t_places t_movers t_far t_way t_wayMany t_fromOf t_toOf t_longest t_wayCount t_thin t_ahead t_tried t_foundLow t_foundHigh t_nextLow t_nextHigh t_act t_first t_second t_random t_isKept) (dC, dI) vwCl A) args s 0 0 A) (w_M cI cJ cZ cN ta v.2.1 t_told t_row v.2.2 t_taped t_at t_to t_mem t_undos t_places t_movers t_far t_way t_wayMany t_fromOf t_toOf t_longest t_wayCount t_thin t_ahead t_tried t_foundLow t_foundHigh t_nextLow t_nextHigh t_act t_first t_second t_random t_isKept) [(0, .ref (ta 0)), (1, .int p1), (2, .int v.1)] [] 18) (fun rc hr v h => zb_X7_sign_18 G  (fun x0_ x1_ x2_ h => hr (x0_, x1_, x2_) h) v.1 v.2.1 v.2.2 h) 200 (x2, t_thrown, t_tape) h
noncomputable def f_X7_sign (t_thrown : Int32) (t_tape : Nat → Int32) (t_taped : Int32) (p1 : Int32) : Option (Int32 × Int32 × (Nat → Int32) × Int32) :=
  if t_taped ≤ 76 then f_X7_sign_l18 t_taped p1  0 0 t_tape else some ((-1), 0, t_tape, t_taped)
set_option maxRecDepth 100000 in
set_option maxHeartbeats 4000000 in
theorem c_X7_sign {l : Launch} {dC : Nat → ClassId} {dI : Nat → Nat → Nat} {cI cJ cZ cN : ClassId} {ta : Nat → Nat} {t_thrown : Int32} {t_told : Int32} {t_row : Nat → Int64} {t_tape : Nat → Int32} {t_taped : Int32} {t_at : Int32} {t_to : Int32} {t_mem : Nat → Int32} {t_undos : Int32} {t_places : Nat → Int32} {t_movers : Nat → Int32} {t_far : Nat → Int32} {t_way : Nat → Int32} {t_wayMany : Int32} {t_fromOf : Nat → Int32} {t_toOf : Nat → Int32} {t_longest : Nat → Int32} {t_wayCount : Nat → Int64} {t_thin : Nat → Int32} {t_ahead : Nat → Int32} {t_tried : Int32} {t_foundLow : Int32} {t_foundHigh : Int32} {t_nextLow : Int32} {t_nextHigh : Int32} {t_act : Nat → Int32} {t_first : Nat → Int32} {t_second : Nat → Int32} {t_random : Int32} {t_isKept : Nat → Int32} {p1 : Int32} {res : Int32 × Int32 × (Nat → Int32) × Int32} (h : f_X7_sign t_thrown t_tape t_taped p1 = some res) : zM l yX7_sign cX7_sign 3 (some .int) ({ frames := 0, cells := 0, slots := 0, locals := 0 }) [.ref (ta 0), .int p1] (dC, dI) vwCl (zT cI cJ cZ cN) (w_M cI cJ cZ cN ta t_thrown t_told t_row t_tape t_taped t_at t_to t_mem t_undos t_places t_movers t_far t_way t_wayMany t_fromOf t_toOf t_longest t_wayCount t_thin t_ahead t_tried t_foundLow t_foundHigh t_nextLow t_nextHigh t_act t_first t_second t_random t_isKept) (some (.int res.1)) (True) (w_M cI cJ cZ cN ta res.2.1 t_told t_row res.2.2.1 res.2.2.2 t_at t_to t_mem t_undos t_places t_movers t_far t_way t_wayMany t_fromOf t_toOf t_longest t_wayCount t_thin t_ahead t_tried t_foundLow t_foundHigh t_nextLow t_nextHigh t_act t_first t_second t_random t_isKept) := by
  refine zM_of (own := RX7) (by decide) rfl [(0, .ref (ta 0)), (1, .int p1)] (Nat.le_of_ble_eq_true rfl) rfl ?_
  intro p e s m args below meth c A G _
  unfold f_X7_sign at h
  refine z_aload_n G dX7_sign_0 rfl 0 rfl ?_
  refine z_iconst (v := 0) G dX7_sign_1 (by decide) ?_
  refine z_put (ci := 7) (ws' := (w_M cI cJ cZ cN ta 0 t_told t_row t_tape t_taped t_at t_to t_mem t_undos t_places t_movers t_far t_way t_wayMany t_fromOf t_toOf t_longest t_wayCount t_thin t_ahead t_tried t_foundLow t_foundHigh t_nextLow t_nextHigh t_act t_first t_second t_random t_isKept)) G in_X7 tyX7 tyX7_ok nmX7 0 rfl rfl 0 (by decide) fl_X7_1 rfl rfl rfl (Nat.le_of_ble_eq_true rfl) rfl dX7_sign_2 ?_
  refine z_aload_n G dX7_sign_5 rfl 0 rfl ?_
  refine z_get (ci := 7) (v := .int t_taped) G in_X7 0 rfl rfl 4 (by decide) fl_X7_14 rfl dX7_sign_6 ?_
  refine z_bipush (v := 76) G dX7_sign_9 (by decide) ?_
  refine z_icmp_le (tgt := 16) G dX7_sign_11 (by decide) h (fun h => ?_) (fun h => ?_)
  · refine z_iconst (v := 0) G dX7_sign_16 (by decide) ?_
    refine z_istore_n (lv' := [(0, .ref (ta 0)), (1, .int p1), (2, .int 0)]) G dX7_sign_17 rfl (by decide) [1, 2, 0] rfl ?_
    exact zl_X7_sign_18 G  0 0 t_tape h
  · refine z_iconst (v := (-1)) G dX7_sign_14 (by decide) ?_
    obtain rfl := Option.some.inj h
    exact z_iret G rfl dX7_sign_15 rfl trivial rfl

noncomputable def fo_X7_end (t_thrown : Int32) (t_taped : Int32) (p1 : Int32) : Option (Int32 × Int32 × Int32) :=
  if (f_X7_in (p1.toInt64) 0 (t_taped.toInt64)) = 0 then some (0, 0, t_taped) else some (1, 0, p1)
set_option maxRecDepth 100000 in
set_option maxHeartbeats 4000000 in
theorem co_X7_end {l : Launch} {dC : Nat → ClassId} {dI : Nat → Nat → Nat} {cI cJ cZ cN : ClassId} {ta : Nat → Nat} {t_thrown : Int32} {t_told : Int32} {t_row : Nat → Int64} {t_tape : Nat → Int32} {t_taped : Int32} {t_at : Int32} {t_to : Int32} {t_mem : Nat → Int32} {t_undos : Int32} {t_places : Nat → Int32} {t_movers : Nat → Int32} {t_far : Nat → Int32} {t_way : Nat → Int32} {t_wayMany : Int32} {t_fromOf : Nat → Int32} {t_toOf : Nat → Int32} {t_longest : Nat → Int32} {t_wayCount : Nat → Int64} {t_thin : Nat → Int32} {t_ahead : Nat → Int32} {t_tried : Int32} {t_foundLow : Int32} {t_foundHigh : Int32} {t_nextLow : Int32} {t_nextHigh : Int32} {t_act : Nat → Int32} {t_first : Nat → Int32} {t_second : Nat → Int32} {t_random : Int32} {t_isKept : Nat → Int32} {p1 : Int32} {res : Int32 × Int32 × Int32} (h : fo_X7_end t_thrown t_taped p1 = some res) : zM l yX7_end cX7_end 2 (some .boolean) ({ frames := 1, cells := 0, slots := 0, locals := 25 }) [.ref (ta 0), .int p1] (dC, dI) vwCl (zT cI cJ cZ cN) (w_M cI cJ cZ cN ta t_thrown t_told t_row t_tape t_taped t_at t_to t_mem t_undos t_places t_movers t_far t_way t_wayMany t_fromOf t_toOf t_longest t_wayCount t_thin t_ahead t_tried t_foundLow t_foundHigh t_nextLow t_nextHigh t_act t_first t_second t_random t_isKept) (some (.int res.1)) (narrow .boolean (.int res.1) = .int res.1) (w_M cI cJ cZ cN ta res.2.1 t_told t_row t_tape res.2.2 t_at t_to t_mem t_undos t_places t_movers t_far t_way t_wayMany t_fromOf t_toOf t_longest t_wayCount t_thin t_ahead t_tried t_foundLow t_foundHigh t_nextLow t_nextHigh t_act t_first t_second t_random t_isKept) := by
  refine zM_of (own := RX7) (by decide) rfl [(0, .ref (ta 0)), (1, .int p1)] (Nat.le_of_ble_eq_true rfl) rfl ?_
  intro p e s m args below meth c A G _
  unfold fo_X7_end at h
  refine z_aload_n G dX7_end_0 rfl 0 rfl ?_
  refine z_iconst (v := 0) G dX7_end_1 (by decide) ?_
  refine z_put (ci := 7) (ws' := (w_M cI cJ cZ cN ta 0 t_told t_row t_tape t_taped t_at t_to t_mem t_undos t_places t_movers t_far t_way t_wayMany t_fromOf t_toOf t_longest t_wayCount t_thin t_ahead t_tried t_foundLow t_foundHigh t_nextLow t_nextHigh t_act t_first t_second t_random t_isKept)) G in_X7 tyX7 tyX7_ok nmX7 0 rfl rfl 0 (by decide) fl_X7_1 rfl rfl rfl (Nat.le_of_ble_eq_true rfl) rfl dX7_end_2 ?_
  refine z_iload_n G dX7_end_5 rfl 1 rfl ?_
  refine z_i2l G dX7_end_6 ?_
  refine z_lconst (v := 0) G dX7_end_7 (by decide) ?_
  refine z_aload_n G dX7_end_8 rfl 0 rfl ?_
  refine z_get (ci := 7) (v := .int t_taped) G in_X7 0 rfl rfl 4 (by decide) fl_X7_14 rfl dX7_end_9 ?_
  refine z_i2l G dX7_end_12 ?_
  refine z_kS (As := [.long (p1.toInt64), .long 0, .long (t_taped.toInt64)]) (rest := []) (st' := [.int (f_X7_in (p1.toInt64) 0 (t_taped.toInt64))]) G pk_X7_in ps_X7_in ml_X7_21 (c_X7_in (p0 := p1.toInt64) (p2 := 0) (p4 := t_taped.toInt64) rfl) ⟨rfl, rfl⟩ ⟨Nat.le_of_ble_eq_true rfl, Nat.le_of_ble_eq_true rfl⟩ ⟨Nat.zero_le _, Nat.zero_le _⟩ rfl rfl (Nat.le_of_ble_eq_true rfl) rfl dX7_end_13 (fun z1 => ?_)
  refine z_if_ne (tgt := 21) G dX7_end_16 (by decide) h (fun h => ?_) (fun h => ?_)
  · refine z_aload_n G dX7_end_21 rfl 0 rfl ?_
    refine z_iload_n G dX7_end_22 rfl 1 rfl ?_
    refine z_put (ci := 7) (ws' := (w_M cI cJ cZ cN ta 0 t_told t_row t_tape p1 t_at t_to t_mem t_undos t_places t_movers t_far t_way t_wayMany t_fromOf t_toOf t_longest t_wayCount t_thin t_ahead t_tried t_foundLow t_foundHigh t_nextLow t_nextHigh t_act t_first t_second t_random t_isKept)) G in_X7 tyX7 tyX7_ok nmX7 0 rfl rfl 4 (by decide) fl_X7_14 rfl rfl rfl (Nat.le_of_ble_eq_true rfl) rfl dX7_end_23 ?_
    refine z_iconst (v := 1) G dX7_end_26 (by decide) ?_
    obtain rfl := Option.some.inj h
    exact z_zret G rfl zn1 dX7_end_27 rfl zn1 rfl
  · refine z_iconst (v := 0) G dX7_end_19 (by decide) ?_
    obtain rfl := Option.some.inj h
    exact z_zret G rfl zn0 dX7_end_20 rfl zn0 rfl
noncomputable def f_X7_end (t_thrown : Int32) (t_taped : Int32) (p1 : Int32) : Int32 × Int32 × Int32 :=
  if (f_X7_in (p1.toInt64) 0 (t_taped.toInt64)) = 0 then (0, 0, t_taped) else (1, 0, p1)
theorem fo_X7_end_eq (t_thrown : Int32) (t_taped : Int32) (p1 : Int32) : fo_X7_end t_thrown t_taped p1 = some (f_X7_end t_thrown t_taped p1) := by
  unfold fo_X7_end f_X7_end
  first | rfl | ((repeat' split) <;> rfl) | (simp only [apply_ite Option.some])
theorem c_X7_end {l : Launch} {dC : Nat → ClassId} {dI : Nat → Nat → Nat} {cI cJ cZ cN : ClassId} {ta : Nat → Nat} {t_thrown : Int32} {t_told : Int32} {t_row : Nat → Int64} {t_tape : Nat → Int32} {t_taped : Int32} {t_at : Int32} {t_to : Int32} {t_mem : Nat → Int32} {t_undos : Int32} {t_places : Nat → Int32} {t_movers : Nat → Int32} {t_far : Nat → Int32} {t_way : Nat → Int32} {t_wayMany : Int32} {t_fromOf : Nat → Int32} {t_toOf : Nat → Int32} {t_longest : Nat → Int32} {t_wayCount : Nat → Int64} {t_thin : Nat → Int32} {t_ahead : Nat → Int32} {t_tried : Int32} {t_foundLow : Int32} {t_foundHigh : Int32} {t_nextLow : Int32} {t_nextHigh : Int32} {t_act : Nat → Int32} {t_first : Nat → Int32} {t_second : Nat → Int32} {t_random : Int32} {t_isKept : Nat → Int32} {p1 : Int32} (_ : True = True) : zM l yX7_end cX7_end 2 (some .boolean) ({ frames := 1, cells := 0, slots := 0, locals := 25 }) [.ref (ta 0), .int p1] (dC, dI) vwCl (zT cI cJ cZ cN) (w_M cI cJ cZ cN ta t_thrown t_told t_row t_tape t_taped t_at t_to t_mem t_undos t_places t_movers t_far t_way t_wayMany t_fromOf t_toOf t_longest t_wayCount t_thin t_ahead t_tried t_foundLow t_foundHigh t_nextLow t_nextHigh t_act t_first t_second t_random t_isKept) (some (.int (f_X7_end t_thrown t_taped p1).1)) (narrow .boolean (.int (f_X7_end t_thrown t_taped p1).1) = .int (f_X7_end t_thrown t_taped p1).1) (w_M cI cJ cZ cN ta (f_X7_end t_thrown t_taped p1).2.1 t_told t_row t_tape (f_X7_end t_thrown t_taped p1).2.2 t_at t_to t_mem t_undos t_places t_movers t_far t_way t_wayMany t_fromOf t_toOf t_longest t_wayCount t_thin t_ahead t_tried t_foundLow t_foundHigh t_nextLow t_nextHigh t_act t_first t_second t_random t_isKept) := co_X7_end (fo_X7_end_eq _ _ _)

noncomputable def fo_X7_reads (t_taped : Int32) (t_at : Int32) (t_to : Int32) : Option (Int32 × Int32 × Int32) :=
  some (0, 0, t_taped)
set_option maxRecDepth 100000 in
set_option maxHeartbeats 4000000 in
theorem co_X7_reads {l : Launch} {dC : Nat → ClassId} {dI : Nat → Nat → Nat} {cI cJ cZ cN : ClassId} {ta : Nat → Nat} {t_thrown : Int32} {t_told : Int32} {t_row : Nat → Int64} {t_tape : Nat → Int32} {t_taped : Int32} {t_at : Int32} {t_to : Int32} {t_mem : Nat → Int32} {t_undos : Int32} {t_places : Nat → Int32} {t_movers : Nat → Int32} {t_far : Nat → Int32} {t_way : Nat → Int32} {t_wayMany : Int32} {t_fromOf : Nat → Int32} {t_toOf : Nat → Int32} {t_longest : Nat → Int32} {t_wayCount : Nat → Int64} {t_thin : Nat → Int32} {t_ahead : Nat → Int32} {t_tried : Int32} {t_foundLow : Int32} {t_foundHigh : Int32} {t_nextLow : Int32} {t_nextHigh : Int32} {t_act : Nat → Int32} {t_first : Nat → Int32} {t_second : Nat → Int32} {t_random : Int32} {t_isKept : Nat → Int32}  {res : Int32 × Int32 × Int32} (h : fo_X7_reads t_taped t_at t_to = some res) : zM l yX7_reads cX7_reads 1 none ({ frames := 0, cells := 0, slots := 0, locals := 0 }) [.ref (ta 0)] (dC, dI) vwCl (zT cI cJ cZ cN) (w_M cI cJ cZ cN ta t_thrown t_told t_row t_tape t_taped t_at t_to t_mem t_undos t_places t_movers t_far t_way t_wayMany t_fromOf t_toOf t_longest t_wayCount t_thin t_ahead t_tried t_foundLow t_foundHigh t_nextLow t_nextHigh t_act t_first t_second t_random t_isKept) (none) (True) (w_M cI cJ cZ cN ta t_thrown t_told t_row t_tape res.1 res.2.1 res.2.2 t_mem t_undos t_places t_movers t_far t_way t_wayMany t_fromOf t_toOf t_longest t_wayCount t_thin t_ahead t_tried t_foundLow t_foundHigh t_nextLow t_nextHigh t_act t_first t_second t_random t_isKept) := by
  refine zM_of (own := RX7) (by decide) rfl [(0, .ref (ta 0))] (Nat.le_of_ble_eq_true rfl) rfl ?_
  intro p e s m args below meth c A G _
  unfold fo_X7_reads at h
  refine z_aload_n G dX7_reads_0 rfl 0 rfl ?_
  refine z_aload_n G dX7_reads_1 rfl 0 rfl ?_
  refine z_get (ci := 7) (v := .int t_taped) G in_X7 0 rfl rfl 4 (by decide) fl_X7_14 rfl dX7_reads_2 ?_
  refine z_put (ci := 7) (ws' := (w_M cI cJ cZ cN ta t_thrown t_told t_row t_tape t_taped t_at t_taped t_mem t_undos t_places t_movers t_far t_way t_wayMany t_fromOf t_toOf t_longest t_wayCount t_thin t_ahead t_tried t_foundLow t_foundHigh t_nextLow t_nextHigh t_act t_first t_second t_random t_isKept)) G in_X7 tyX7 tyX7_ok nmX7 0 rfl rfl 6 (by decide) fl_X7_25 rfl rfl rfl (Nat.le_of_ble_eq_true rfl) rfl dX7_reads_5 ?_
  refine z_aload_n G dX7_reads_8 rfl 0 rfl ?_
  refine z_iconst (v := 0) G dX7_reads_9 (by decide) ?_
  refine z_put (ci := 7) (ws' := (w_M cI cJ cZ cN ta t_thrown t_told t_row t_tape 0 t_at t_taped t_mem t_undos t_places t_movers t_far t_way t_wayMany t_fromOf t_toOf t_longest t_wayCount t_thin t_ahead t_tried t_foundLow t_foundHigh t_nextLow t_nextHigh t_act t_first t_second t_random t_isKept)) G in_X7 tyX7 tyX7_ok nmX7 0 rfl rfl 4 (by decide) fl_X7_14 rfl rfl rfl (Nat.le_of_ble_eq_true rfl) rfl dX7_reads_10 ?_
  refine z_aload_n G dX7_reads_13 rfl 0 rfl ?_
  refine z_iconst (v := 0) G dX7_reads_14 (by decide) ?_
  refine z_put (ci := 7) (ws' := (w_M cI cJ cZ cN ta t_thrown t_told t_row t_tape 0 0 t_taped t_mem t_undos t_places t_movers t_far t_way t_wayMany t_fromOf t_toOf t_longest t_wayCount t_thin t_ahead t_tried t_foundLow t_foundHigh t_nextLow t_nextHigh t_act t_first t_second t_random t_isKept)) G in_X7 tyX7 tyX7_ok nmX7 0 rfl rfl 5 (by decide) fl_X7_28 rfl rfl rfl (Nat.le_of_ble_eq_true rfl) rfl dX7_reads_15 ?_
  obtain rfl := Option.some.inj h
  exact z_vret G rfl dX7_reads_18 rfl trivial rfl
noncomputable def f_X7_reads (t_taped : Int32) (t_at : Int32) (t_to : Int32) : Int32 × Int32 × Int32 :=
  (0, 0, t_taped)
theorem fo_X7_reads_eq (t_taped : Int32) (t_at : Int32) (t_to : Int32) : fo_X7_reads t_taped t_at t_to = some (f_X7_reads t_taped t_at t_to) := by
  unfold fo_X7_reads f_X7_reads
  first | rfl | ((repeat' split) <;> rfl) | (simp only [apply_ite Option.some])
theorem c_X7_reads {l : Launch} {dC : Nat → ClassId} {dI : Nat → Nat → Nat} {cI cJ cZ cN : ClassId} {ta : Nat → Nat} {t_thrown : Int32} {t_told : Int32} {t_row : Nat → Int64} {t_tape : Nat → Int32} {t_taped : Int32} {t_at : Int32} {t_to : Int32} {t_mem : Nat → Int32} {t_undos : Int32} {t_places : Nat → Int32} {t_movers : Nat → Int32} {t_far : Nat → Int32} {t_way : Nat → Int32} {t_wayMany : Int32} {t_fromOf : Nat → Int32} {t_toOf : Nat → Int32} {t_longest : Nat → Int32} {t_wayCount : Nat → Int64} {t_thin : Nat → Int32} {t_ahead : Nat → Int32} {t_tried : Int32} {t_foundLow : Int32} {t_foundHigh : Int32} {t_nextLow : Int32} {t_nextHigh : Int32} {t_act : Nat → Int32} {t_first : Nat → Int32} {t_second : Nat → Int32} {t_random : Int32} {t_isKept : Nat → Int32}  (_ : True = True) : zM l yX7_reads cX7_reads 1 none ({ frames := 0, cells := 0, slots := 0, locals := 0 }) [.ref (ta 0)] (dC, dI) vwCl (zT cI cJ cZ cN) (w_M cI cJ cZ cN ta t_thrown t_told t_row t_tape t_taped t_at t_to t_mem t_undos t_places t_movers t_far t_way t_wayMany t_fromOf t_toOf t_longest t_wayCount t_thin t_ahead t_tried t_foundLow t_foundHigh t_nextLow t_nextHigh t_act t_first t_second t_random t_isKept) (none) (True) (w_M cI cJ cZ cN ta t_thrown t_told t_row t_tape (f_X7_reads t_taped t_at t_to).1 (f_X7_reads t_taped t_at t_to).2.1 (f_X7_reads t_taped t_at t_to).2.2 t_mem t_undos t_places t_movers t_far t_way t_wayMany t_fromOf t_toOf t_longest t_wayCount t_thin t_ahead t_tried t_foundLow t_foundHigh t_nextLow t_nextHigh t_act t_first t_second t_random t_isKept) := co_X7_reads (fo_X7_reads_eq _ _ _)

noncomputable def f_X7_isHere (t_tape : Nat → Int32) (t_at : Int32) (t_to : Int32) (p1 : Int32) : Option (Int32) :=
  if t_to ≤ t_at then some (0) else chk (inb t_at 80) (if (t_tape (ix t_at)) = p1 then some (1) else some (0))
set_option maxRecDepth 100000 in
set_option maxHeartbeats 4000000 in
theorem c_X7_isHere {l : Launch} {dC : Nat → ClassId} {dI : Nat → Nat → Nat} {cI cJ cZ cN : ClassId} {ta : Nat → Nat} {t_thrown : Int32} {t_told : Int32} {t_row : Nat → Int64} {t_tape : Nat → Int32} {t_taped : Int32} {t_at : Int32} {t_to : Int32} {t_mem : Nat → Int32} {t_undos : Int32} {t_places : Nat → Int32} {t_movers : Nat → Int32} {t_far : Nat → Int32} {t_way : Nat → Int32} {t_wayMany : Int32} {t_fromOf : Nat → Int32} {t_toOf : Nat → Int32} {t_longest : Nat → Int32} {t_wayCount : Nat → Int64} {t_thin : Nat → Int32} {t_ahead : Nat → Int32} {t_tried : Int32} {t_foundLow : Int32} {t_foundHigh : Int32} {t_nextLow : Int32} {t_nextHigh : Int32} {t_act : Nat → Int32} {t_first : Nat → Int32} {t_second : Nat → Int32} {t_random : Int32} {t_isKept : Nat → Int32} {p1 : Int32} {res : Int32} (h : f_X7_isHere t_tape t_at t_to p1 = some res) : zM l yX7_isHere cX7_isHere 2 (some .boolean) ({ frames := 0, cells := 0, slots := 0, locals := 0 }) [.ref (ta 0), .int p1] (dC, dI) vwCl (zT cI cJ cZ cN) (w_M cI cJ cZ cN ta t_thrown t_told t_row t_tape t_taped t_at t_to t_mem t_undos t_places t_movers t_far t_way t_wayMany t_fromOf t_toOf t_longest t_wayCount t_thin t_ahead t_tried t_foundLow t_foundHigh t_nextLow t_nextHigh t_act t_first t_second t_random t_isKept) (some (.int res)) (narrow .boolean (.int res) = .int res) (w_M cI cJ cZ cN ta t_thrown t_told t_row t_tape t_taped t_at t_to t_mem t_undos t_places t_movers t_far t_way t_wayMany t_fromOf t_toOf t_longest t_wayCount t_thin t_ahead t_tried t_foundLow t_foundHigh t_nextLow t_nextHigh t_act t_first t_second t_random t_isKept) := by
  refine zM_of (own := RX7) (by decide) rfl [(0, .ref (ta 0)), (1, .int p1)] (Nat.le_of_ble_eq_true rfl) rfl ?_
  intro p e s m args below meth c A G _
  unfold f_X7_isHere at h
  refine z_aload_n G dX7_isHere_0 rfl 0 rfl ?_
  refine z_get (ci := 7) (v := .int t_at) G in_X7 0 rfl rfl 5 (by decide) fl_X7_28 rfl dX7_isHere_1 ?_
  refine z_aload_n G dX7_isHere_4 rfl 0 rfl ?_
  refine z_get (ci := 7) (v := .int t_to) G in_X7 0 rfl rfl 6 (by decide) fl_X7_25 rfl dX7_isHere_5 ?_
  refine z_icmp_ge (tgt := 28) G dX7_isHere_8 (by decide) h (fun h => ?_) (fun h => ?_)
  · refine z_iconst (v := 0) G dX7_isHere_28 (by decide) ?_
    obtain rfl := Option.some.inj h
    exact z_zret G rfl zn0 dX7_isHere_29 rfl zn0 rfl
  · refine z_aload_n G dX7_isHere_11 rfl 0 rfl ?_
    refine z_get (ci := 7) (v := .ref (ta 2)) G in_X7 0 rfl rfl 3 (by decide) fl_X7_17 rfl dX7_isHere_12 ?_
    refine z_aload_n G dX7_isHere_15 rfl 0 rfl ?_
    refine z_get (ci := 7) (v := .int t_at) G in_X7 0 rfl rfl 5 (by decide) fl_X7_28 rfl dX7_isHere_16 ?_
    refine z_iaload G 2 0 rfl rfl dX7_isHere_19 h (fun h => ?_)
    refine z_iload_n G dX7_isHere_20 rfl 1 rfl ?_
    refine z_icmp_ne (tgt := 28) G dX7_isHere_21 (by decide) h (fun h => ?_) (fun h => ?_)
    · refine z_iconst (v := 0) G dX7_isHere_28 (by decide) ?_
      obtain rfl := Option.some.inj h
      exact z_zret G rfl zn0 dX7_isHere_29 rfl zn0 rfl
    · refine z_iconst (v := 1) G dX7_isHere_24 (by decide) ?_
      refine z_goto (tgt := 29) G dX7_isHere_25 (by decide) ?_
      obtain rfl := Option.some.inj h
      exact z_zret G rfl zn1 dX7_isHere_29 rfl zn1 rfl

noncomputable def f_X7_takes (t_tape : Nat → Int32) (t_at : Int32) (t_to : Int32) (p1 : Int32) : Option (Int32 × Int32) :=
  (f_X7_isHere t_tape t_at t_to p1).bind (fun r1 => some (r1, t_at + (f_X7_flag r1)))
set_option maxRecDepth 100000 in
set_option maxHeartbeats 4000000 in
theorem c_X7_takes {l : Launch} {dC : Nat → ClassId} {dI : Nat → Nat → Nat} {cI cJ cZ cN : ClassId} {ta : Nat → Nat} {t_thrown : Int32} {t_told : Int32} {t_row : Nat → Int64} {t_tape : Nat → Int32} {t_taped : Int32} {t_at : Int32} {t_to : Int32} {t_mem : Nat → Int32} {t_undos : Int32} {t_places : Nat → Int32} {t_movers : Nat → Int32} {t_far : Nat → Int32} {t_way : Nat → Int32} {t_wayMany : Int32} {t_fromOf : Nat → Int32} {t_toOf : Nat → Int32} {t_longest : Nat → Int32} {t_wayCount : Nat → Int64} {t_thin : Nat → Int32} {t_ahead : Nat → Int32} {t_tried : Int32} {t_foundLow : Int32} {t_foundHigh : Int32} {t_nextLow : Int32} {t_nextHigh : Int32} {t_act : Nat → Int32} {t_first : Nat → Int32} {t_second : Nat → Int32} {t_random : Int32} {t_isKept : Nat → Int32} {p1 : Int32} {res : Int32 × Int32} (h : f_X7_takes t_tape t_at t_to p1 = some res) : zM l yX7_takes cX7_takes 3 (some .boolean) ({ frames := 1, cells := 0, slots := 0, locals := 21 }) [.ref (ta 0), .int p1] (dC, dI) vwCl (zT cI cJ cZ cN) (w_M cI cJ cZ cN ta t_thrown t_told t_row t_tape t_taped t_at t_to t_mem t_undos t_places t_movers t_far t_way t_wayMany t_fromOf t_toOf t_longest t_wayCount t_thin t_ahead t_tried t_foundLow t_foundHigh t_nextLow t_nextHigh t_act t_first t_second t_random t_isKept) (some (.int res.1)) (narrow .boolean (.int res.1) = .int res.1) (w_M cI cJ cZ cN ta t_thrown t_told t_row t_tape t_taped res.2 t_to t_mem t_undos t_places t_movers t_far t_way t_wayMany t_fromOf t_toOf t_longest t_wayCount t_thin t_ahead t_tried t_foundLow t_foundHigh t_nextLow t_nextHigh t_act t_first t_second t_random t_isKept) := by
  refine zM_of (own := RX7) (by decide) rfl [(0, .ref (ta 0)), (1, .int p1)] (Nat.le_of_ble_eq_true rfl) rfl ?_
  intro p e s m args below meth c A G _
  unfold f_X7_takes at h
  refine z_aload_n G dX7_takes_0 rfl 0 rfl ?_
  refine z_iload_n G dX7_takes_1 rfl 1 rfl ?_
  obtain ⟨r1, e1, h⟩ := obind h
  refine z_kR (As := [.int p1]) (rest := []) (st' := [.int r1]) G pk_X7_isHere pv_X7_isHere ml_X7_41 (c_X7_isHere (ta := ta) (t_thrown := t_thrown) (t_told := t_told) (t_row := t_row) (t_tape := t_tape) (t_taped := t_taped) (t_at := t_at) (t_to := t_to) (t_mem := t_mem) (t_undos := t_undos) (t_places := t_places) (t_movers := t_movers) (t_far := t_far) (t_way := t_way) (t_wayMany := t_wayMany) (t_fromOf := t_fromOf) (t_toOf := t_toOf) (t_longest := t_longest) (t_wayCount := t_wayCount) (t_thin := t_thin) (t_ahead := t_ahead) (t_tried := t_tried) (t_foundLow := t_foundLow) (t_foundHigh := t_foundHigh) (t_nextLow := t_nextLow) (t_nextHigh := t_nextHigh) (t_act := t_act) (t_first := t_first) (t_second := t_second) (t_random := t_random) (t_isKept := t_isKept) (p1 := p1) e1) ⟨rfl, rfl⟩ ⟨Nat.le_of_ble_eq_true rfl, Nat.le_of_ble_eq_true rfl⟩ ⟨Nat.zero_le _, Nat.zero_le _⟩ rfl rfl (Nat.le_of_ble_eq_true rfl) 0 7 rfl rfl rfl [0, 1, 2, 3, 4, 5, 6, 7, 8, 9, 10, 11, 12, 13, 14, 15, 16, 17] rfl rfl rfl dX7_takes_2 (fun z2 => ?_)
  refine z_istore_n (lv' := [(0, .ref (ta 0)), (1, .int p1), (2, .int r1)]) G dX7_takes_5 rfl (by decide) [1, 2, 0] rfl ?_
  refine z_aload_n G dX7_takes_6 rfl 0 rfl ?_
  refine z_dup G dX7_takes_7 rfl ?_
  refine z_get (ci := 7) (v := .int t_at) G in_X7 0 rfl rfl 5 (by decide) fl_X7_28 rfl dX7_takes_8 ?_
  refine z_iload_n G dX7_takes_11 rfl 2 rfl ?_
  refine z_kS (As := [.int r1]) (rest := [.int t_at, .ref (ta 0)]) (st' := [.int (f_X7_flag r1), .int t_at, .ref (ta 0)]) G pk_X7_flag ps_X7_flag ml_X7_45 (c_X7_flag (p0 := r1) rfl) ⟨rfl, rfl⟩ ⟨Nat.le_of_ble_eq_true rfl, Nat.le_of_ble_eq_true rfl⟩ ⟨Nat.zero_le _, Nat.zero_le _⟩ rfl rfl (Nat.le_of_ble_eq_true rfl) rfl dX7_takes_12 (fun z3 => ?_)
  refine z_iadd G dX7_takes_15 ?_
  refine z_put (ci := 7) (ws' := (w_M cI cJ cZ cN ta t_thrown t_told t_row t_tape t_taped (t_at + (f_X7_flag r1)) t_to t_mem t_undos t_places t_movers t_far t_way t_wayMany t_fromOf t_toOf t_longest t_wayCount t_thin t_ahead t_tried t_foundLow t_foundHigh t_nextLow t_nextHigh t_act t_first t_second t_random t_isKept)) G in_X7 tyX7 tyX7_ok nmX7 0 rfl rfl 5 (by decide) fl_X7_28 rfl rfl rfl (Nat.le_of_ble_eq_true rfl) rfl dX7_takes_16 ?_
  refine z_iload_n G dX7_takes_19 rfl 2 rfl ?_
  obtain rfl := Option.some.inj h
  exact z_zret G rfl z2 dX7_takes_20 rfl z2 rfl

noncomputable def f_X7_letter_b38 (t_tape : Nat → Int32) (t_at : Int32) (t_to : Int32)  (s0 : Int32) : Option (Int32 × Int32) :=
  if s0 = 0 then some (0, t_at + (f_X7_flag s0)) else chk (inb ((t_at + (f_X7_flag s0)) - 1) 80) (some (((t_tape (ix ((t_at + (f_X7_flag s0)) - 1))) - 97) + 1, t_at + (f_X7_flag s0)))
set_option maxRecDepth 100000 in
set_option maxHeartbeats 4000000 in
theorem zb_X7_letter_38 {p : Program} {l : Launch} {e : Env} {s : State} {m : MethodId} {args : Array Value} {below : List Frame} {meth : Method} {c : Code} {A : Nat → Prop} {dC : Nat → ClassId} {dI : Nat → Nat → Nat} {cI cJ cZ cN : ClassId} {ta : Nat → Nat} {t_thrown : Int32} {t_told : Int32} {t_row : Nat → Int64} {t_tape : Nat → Int32} {t_taped : Int32} {t_at : Int32} {t_to : Int32} {t_mem : Nat → Int32} {t_undos : Int32} {t_places : Nat → Int32} {t_movers : Nat → Int32} {t_far : Nat → Int32} {t_way : Nat → Int32} {t_wayMany : Int32} {t_fromOf : Nat → Int32} {t_toOf : Nat → Int32} {t_longest : Nat → Int32} {t_wayCount : Nat → Int64} {t_thin : Nat → Int32} {t_ahead : Nat → Int32} {t_tried : Int32} {t_foundLow : Int32} {t_foundHigh : Int32} {t_nextLow : Int32} {t_nextHigh : Int32} {t_act : Nat → Int32} {t_first : Nat → Int32} {t_second : Nat → Int32} {t_random : Int32} {t_isKept : Nat → Int32}  {res : Int32 × Int32} (G : zG p m c cX7_letter 2 s args RX7 (dC, dI) vwCl (zT cI cJ cZ cN) A meth (some .int))  : ∀ (s0 : Int32), f_X7_letter_b38 t_tape t_at t_to  s0 = some res → Z p l e ({ frames := 1, cells := 0, slots := 0, locals := 25 }) s m args below meth c (dC, dI) vwCl A 2 0 0 (MQ below (zQ (some (.int res.1)) (True) (w_M cI cJ cZ cN ta t_thrown t_told t_row t_tape t_taped res.2 t_to t_mem t_undos t_places t_movers t_far t_way t_wayMany t_fromOf t_toOf t_longest t_wayCount t_thin t_ahead t_tried t_foundLow t_foundHigh t_nextLow t_nextHigh t_act t_first t_second t_random t_isKept) (dC, dI) vwCl A) args s 0 0 A) (w_M cI cJ cZ cN ta t_thrown t_told t_row t_tape t_taped t_at t_to t_mem t_undos t_places t_movers t_far t_way t_wayMany t_fromOf t_toOf t_longest t_wayCount t_thin t_ahead t_tried t_foundLow t_foundHigh t_nextLow t_nextHigh t_act t_first t_second t_random t_isKept) [(0, .ref (ta 0))] [.int s0] 38 := by
  intro s0 h
  unfold f_X7_letter_b38 at h
  refine z_istore_n (lv' := [(0, .ref (ta 0)), (1, .int s0)]) G dX7_letter_38 rfl (by decide) [1, 0] rfl ?_
  refine z_aload_n G dX7_letter_39 rfl 0 rfl ?_
  refine z_dup G dX7_letter_40 rfl ?_
  refine z_get (ci := 7) (v := .int t_at) G in_X7 0 rfl rfl 5 (by decide) fl_X7_28 rfl dX7_letter_41 ?_
  refine z_iload_n G dX7_letter_44 rfl 1 rfl ?_
  refine z_kS (As := [.int s0]) (rest := [.int t_at, .ref (ta 0)]) (st' := [.int (f_X7_flag s0), .int t_at, .ref (ta 0)]) G pk_X7_flag ps_X7_flag ml_X7_45 (c_X7_flag (p0 := s0) rfl) ⟨rfl, rfl⟩ ⟨Nat.le_of_ble_eq_true rfl, Nat.le_of_ble_eq_true rfl⟩ ⟨Nat.zero_le _, Nat.zero_le _⟩ rfl rfl (Nat.le_of_ble_eq_true rfl) rfl dX7_letter_45 (fun z2 => ?_)
  refine z_iadd G dX7_letter_48 ?_
  refine z_put (ci := 7) (ws' := (w_M cI cJ cZ cN ta t_thrown t_told t_row t_tape t_taped (t_at + (f_X7_flag s0)) t_to t_mem t_undos t_places t_movers t_far t_way t_wayMany t_fromOf t_toOf t_longest t_wayCount t_thin t_ahead t_tried t_foundLow t_foundHigh t_nextLow t_nextHigh t_act t_first t_second t_random t_isKept)) G in_X7 tyX7 tyX7_ok nmX7 0 rfl rfl 5 (by decide) fl_X7_28 rfl rfl rfl (Nat.le_of_ble_eq_true rfl) rfl dX7_letter_49 ?_
  refine z_iload_n G dX7_letter_52 rfl 1 rfl ?_
  refine z_if_eq (tgt := 75) G dX7_letter_53 (by decide) h (fun h => ?_) (fun h => ?_)
  · refine z_iconst (v := 0) G dX7_letter_75 (by decide) ?_
    obtain rfl := Option.some.inj h
    exact z_iret G rfl dX7_letter_76 rfl trivial rfl
  · refine z_aload_n G dX7_letter_56 rfl 0 rfl ?_
    refine z_get (ci := 7) (v := .ref (ta 2)) G in_X7 0 rfl rfl 3 (by decide) fl_X7_17 rfl dX7_letter_57 ?_
    refine z_aload_n G dX7_letter_60 rfl 0 rfl ?_
    refine z_get (ci := 7) (v := .int (t_at + (f_X7_flag s0))) G in_X7 0 rfl rfl 5 (by decide) fl_X7_28 rfl dX7_letter_61 ?_
    refine z_iconst (v := 1) G dX7_letter_64 (by decide) ?_
    refine z_isub G dX7_letter_65 ?_
    refine z_iaload G 2 0 rfl rfl dX7_letter_66 h (fun h => ?_)
    refine z_bipush (v := 97) G dX7_letter_67 (by decide) ?_
    refine z_isub G dX7_letter_69 ?_
    refine z_iconst (v := 1) G dX7_letter_70 (by decide) ?_
    refine z_iadd G dX7_letter_71 ?_
    refine z_goto (tgt := 76) G dX7_letter_72 (by decide) ?_
    obtain rfl := Option.some.inj h
    exact z_iret G rfl dX7_letter_76 rfl trivial rfl
noncomputable def f_X7_letter_b37 (t_tape : Nat → Int32) (t_at : Int32) (t_to : Int32)   : Option (Int32 × Int32) :=
  f_X7_letter_b38 t_tape t_at t_to  0
set_option maxRecDepth 100000 in
set_option maxHeartbeats 4000000 in
theorem zb_X7_letter_37 {p : Program} {l : Launch} {e : Env} {s : State} {m : MethodId} {args : Array Value} {below : List Frame} {meth : Method} {c : Code} {A : Nat → Prop} {dC : Nat → ClassId} {dI : Nat → Nat → Nat} {cI cJ cZ cN : ClassId} {ta : Nat → Nat} {t_thrown : Int32} {t_told : Int32} {t_row : Nat → Int64} {t_tape : Nat → Int32} {t_taped : Int32} {t_at : Int32} {t_to : Int32} {t_mem : Nat → Int32} {t_undos : Int32} {t_places : Nat → Int32} {t_movers : Nat → Int32} {t_far : Nat → Int32} {t_way : Nat → Int32} {t_wayMany : Int32} {t_fromOf : Nat → Int32} {t_toOf : Nat → Int32} {t_longest : Nat → Int32} {t_wayCount : Nat → Int64} {t_thin : Nat → Int32} {t_ahead : Nat → Int32} {t_tried : Int32} {t_foundLow : Int32} {t_foundHigh : Int32} {t_nextLow : Int32} {t_nextHigh : Int32} {t_act : Nat → Int32} {t_first : Nat → Int32} {t_second : Nat → Int32} {t_random : Int32} {t_isKept : Nat → Int32}  {res : Int32 × Int32} (G : zG p m c cX7_letter 2 s args RX7 (dC, dI) vwCl (zT cI cJ cZ cN) A meth (some .int))  : f_X7_letter_b37 t_tape t_at t_to   = some res → Z p l e ({ frames := 1, cells := 0, slots := 0, locals := 25 }) s m args below meth c (dC, dI) vwCl A 2 0 0 (MQ below (zQ (some (.int res.1)) (True) (w_M cI cJ cZ cN ta t_thrown t_told t_row t_tape t_taped res.2 t_to t_mem t_undos t_places t_movers t_far t_way t_wayMany t_fromOf t_toOf t_longest t_wayCount t_thin t_ahead t_tried t_foundLow t_foundHigh t_nextLow t_nextHigh t_act t_first t_second t_random t_isKept) (dC, dI) vwCl A) args s 0 0 A) (w_M cI cJ cZ cN ta t_thrown t_told t_row t_tape t_taped t_at t_to t_mem t_undos t_places t_movers t_far t_way t_wayMany t_fromOf t_toOf t_longest t_wayCount t_thin t_ahead t_tried t_foundLow t_foundHigh t_nextLow t_nextHigh t_act t_first t_second t_random t_isKept) [(0, .ref (ta 0))] [] 37 := by
  intro  h
  unfold f_X7_letter_b37 at h
  refine z_iconst (v := 0) G dX7_letter_37 (by decide) ?_
  exact zb_X7_letter_38 G  0 h
noncomputable def f_X7_letter (t_tape : Nat → Int32) (t_at : Int32) (t_to : Int32) : Option (Int32 × Int32) :=
  if t_to ≤ t_at then f_X7_letter_b37 t_tape t_at t_to   else chk (inb t_at 80) (if (f_X7_in ((t_tape (ix t_at)).toInt64) 97 122) = 0 then f_X7_letter_b37 t_tape t_at t_to   else f_X7_letter_b38 t_tape t_at t_to  1)
set_option maxRecDepth 100000 in
set_option maxHeartbeats 4000000 in
theorem c_X7_letter {l : Launch} {dC : Nat → ClassId} {dI : Nat → Nat → Nat} {cI cJ cZ cN : ClassId} {ta : Nat → Nat} {t_thrown : Int32} {t_told : Int32} {t_row : Nat → Int64} {t_tape : Nat → Int32} {t_taped : Int32} {t_at : Int32} {t_to : Int32} {t_mem : Nat → Int32} {t_undos : Int32} {t_places : Nat → Int32} {t_movers : Nat → Int32} {t_far : Nat → Int32} {t_way : Nat → Int32} {t_wayMany : Int32} {t_fromOf : Nat → Int32} {t_toOf : Nat → Int32} {t_longest : Nat → Int32} {t_wayCount : Nat → Int64} {t_thin : Nat → Int32} {t_ahead : Nat → Int32} {t_tried : Int32} {t_foundLow : Int32} {t_foundHigh : Int32} {t_nextLow : Int32} {t_nextHigh : Int32} {t_act : Nat → Int32} {t_first : Nat → Int32} {t_second : Nat → Int32} {t_random : Int32} {t_isKept : Nat → Int32}  {res : Int32 × Int32} (h : f_X7_letter t_tape t_at t_to = some res) : zM l yX7_letter cX7_letter 2 (some .int) ({ frames := 1, cells := 0, slots := 0, locals := 25 }) [.ref (ta 0)] (dC, dI) vwCl (zT cI cJ cZ cN) (w_M cI cJ cZ cN ta t_thrown t_told t_row t_tape t_taped t_at t_to t_mem t_undos t_places t_movers t_far t_way t_wayMany t_fromOf t_toOf t_longest t_wayCount t_thin t_ahead t_tried t_foundLow t_foundHigh t_nextLow t_nextHigh t_act t_first t_second t_random t_isKept) (some (.int res.1)) (True) (w_M cI cJ cZ cN ta t_thrown t_told t_row t_tape t_taped res.2 t_to t_mem t_undos t_places t_movers t_far t_way t_wayMany t_fromOf t_toOf t_longest t_wayCount t_thin t_ahead t_tried t_foundLow t_foundHigh t_nextLow t_nextHigh t_act t_first t_second t_random t_isKept) := by
  refine zM_of (own := RX7) (by decide) rfl [(0, .ref (ta 0))] (Nat.le_of_ble_eq_true rfl) rfl ?_
  intro p e s m args below meth c A G _
  unfold f_X7_letter at h
  refine z_aload_n G dX7_letter_0 rfl 0 rfl ?_
  refine z_get (ci := 7) (v := .int t_at) G in_X7 0 rfl rfl 5 (by decide) fl_X7_28 rfl dX7_letter_1 ?_
  refine z_aload_n G dX7_letter_4 rfl 0 rfl ?_
  refine z_get (ci := 7) (v := .int t_to) G in_X7 0 rfl rfl 6 (by decide) fl_X7_25 rfl dX7_letter_5 ?_
  refine z_icmp_ge (tgt := 37) G dX7_letter_8 (by decide) h (fun h => ?_) (fun h => ?_)
  · exact zb_X7_letter_37 G   h
  · refine z_aload_n G dX7_letter_11 rfl 0 rfl ?_
    refine z_get (ci := 7) (v := .ref (ta 2)) G in_X7 0 rfl rfl 3 (by decide) fl_X7_17 rfl dX7_letter_12 ?_
    refine z_aload_n G dX7_letter_15 rfl 0 rfl ?_
    refine z_get (ci := 7) (v := .int t_at) G in_X7 0 rfl rfl 5 (by decide) fl_X7_28 rfl dX7_letter_16 ?_
    refine z_iaload G 2 0 rfl rfl dX7_letter_19 h (fun h => ?_)
    refine z_i2l G dX7_letter_20 ?_
    refine z_ldc2 (v := 97) G dX7_letter_21 kc_X7_58 ?_
    refine z_ldc2 (v := 122) G dX7_letter_24 kc_X7_60 ?_
    refine z_kS (As := [.long ((t_tape (ix t_at)).toInt64), .long 97, .long 122]) (rest := []) (st' := [.int (f_X7_in ((t_tape (ix t_at)).toInt64) 97 122)]) G pk_X7_in ps_X7_in ml_X7_21 (c_X7_in (p0 := (t_tape (ix t_at)).toInt64) (p2 := 97) (p4 := 122) rfl) ⟨rfl, rfl⟩ ⟨Nat.le_of_ble_eq_true rfl, Nat.le_of_ble_eq_true rfl⟩ ⟨Nat.zero_le _, Nat.zero_le _⟩ rfl rfl (Nat.le_of_ble_eq_true rfl) rfl dX7_letter_27 (fun z1 => ?_)
    refine z_if_eq (tgt := 37) G dX7_letter_30 (by decide) h (fun h => ?_) (fun h => ?_)
    · exact zb_X7_letter_37 G   h
    · refine z_iconst (v := 1) G dX7_letter_33 (by decide) ?_
      refine z_goto (tgt := 38) G dX7_letter_34 (by decide) ?_
      exact zb_X7_letter_38 G  1 h

noncomputable def f_X7_readsLabel (t_tape : Nat → Int32) (t_at : Int32) (t_to : Int32) : Option (Int32 × Int32) :=
  (f_X7_letter t_tape t_at t_to).bind (fun r1 => if r1.1 = 0 then some (0, r1.2) else (f_X7_letter t_tape r1.2 t_to).bind (fun r3 => some ((32 * r1.1) + r3.1, r3.2)))
set_option maxRecDepth 100000 in
set_option maxHeartbeats 4000000 in
theorem c_X7_readsLabel {l : Launch} {dC : Nat → ClassId} {dI : Nat → Nat → Nat} {cI cJ cZ cN : ClassId} {ta : Nat → Nat} {t_thrown : Int32} {t_told : Int32} {t_row : Nat → Int64} {t_tape : Nat → Int32} {t_taped : Int32} {t_at : Int32} {t_to : Int32} {t_mem : Nat → Int32} {t_undos : Int32} {t_places : Nat → Int32} {t_movers : Nat → Int32} {t_far : Nat → Int32} {t_way : Nat → Int32} {t_wayMany : Int32} {t_fromOf : Nat → Int32} {t_toOf : Nat → Int32} {t_longest : Nat → Int32} {t_wayCount : Nat → Int64} {t_thin : Nat → Int32} {t_ahead : Nat → Int32} {t_tried : Int32} {t_foundLow : Int32} {t_foundHigh : Int32} {t_nextLow : Int32} {t_nextHigh : Int32} {t_act : Nat → Int32} {t_first : Nat → Int32} {t_second : Nat → Int32} {t_random : Int32} {t_isKept : Nat → Int32}  {res : Int32 × Int32} (h : f_X7_readsLabel t_tape t_at t_to = some res) : zM l yX7_readsLabel cX7_readsLabel 2 (some .int) ({ frames := 2, cells := 0, slots := 0, locals := 46 }) [.ref (ta 0)] (dC, dI) vwCl (zT cI cJ cZ cN) (w_M cI cJ cZ cN ta t_thrown t_told t_row t_tape t_taped t_at t_to t_mem t_undos t_places t_movers t_far t_way t_wayMany t_fromOf t_toOf t_longest t_wayCount t_thin t_ahead t_tried t_foundLow t_foundHigh t_nextLow t_nextHigh t_act t_first t_second t_random t_isKept) (some (.int res.1)) (True) (w_M cI cJ cZ cN ta t_thrown t_told t_row t_tape t_taped res.2 t_to t_mem t_undos t_places t_movers t_far t_way t_wayMany t_fromOf t_toOf t_longest t_wayCount t_thin t_ahead t_tried t_foundLow t_foundHigh t_nextLow t_nextHigh t_act t_first t_second t_random t_isKept) := by
  refine zM_of (own := RX7) (by decide) rfl [(0, .ref (ta 0))] (Nat.le_of_ble_eq_true rfl) rfl ?_
  intro p e s m args below meth c A G _
  unfold f_X7_readsLabel at h
  refine z_aload_n G dX7_readsLabel_0 rfl 0 rfl ?_
  obtain ⟨r1, e1, h⟩ := obind h
  refine z_kV (As := []) (rest := []) (st' := [.int r1.1]) (ws' := (w_M cI cJ cZ cN ta t_thrown t_told t_row t_tape t_taped r1.2 t_to t_mem t_undos t_places t_movers t_far t_way t_wayMany t_fromOf t_toOf t_longest t_wayCount t_thin t_ahead t_tried t_foundLow t_foundHigh t_nextLow t_nextHigh t_act t_first t_second t_random t_isKept)) G pk_X7_letter pv_X7_letter ml_X7_62 (c_X7_letter (ta := ta) (t_thrown := t_thrown) (t_told := t_told) (t_row := t_row) (t_tape := t_tape) (t_taped := t_taped) (t_at := t_at) (t_to := t_to) (t_mem := t_mem) (t_undos := t_undos) (t_places := t_places) (t_movers := t_movers) (t_far := t_far) (t_way := t_way) (t_wayMany := t_wayMany) (t_fromOf := t_fromOf) (t_toOf := t_toOf) (t_longest := t_longest) (t_wayCount := t_wayCount) (t_thin := t_thin) (t_ahead := t_ahead) (t_tried := t_tried) (t_foundLow := t_foundLow) (t_foundHigh := t_foundHigh) (t_nextLow := t_nextLow) (t_nextHigh := t_nextHigh) (t_act := t_act) (t_first := t_first) (t_second := t_second) (t_random := t_random) (t_isKept := t_isKept) e1) ⟨rfl, rfl⟩ ⟨Nat.le_of_ble_eq_true rfl, Nat.le_of_ble_eq_true rfl⟩ ⟨Nat.zero_le _, Nat.zero_le _⟩ rfl rfl (Nat.le_of_ble_eq_true rfl) 0 7 rfl rfl rfl [0, 1, 2, 3, 4, 5, 6, 7, 8, 9, 10, 11, 12, 13, 14, 15, 16, 17] rfl rfl [some 0, some 1, some 2, some 3, some 4, some 5, some 6, some 7, some 8, some 9, some 10, some 11, some 12, some 13, some 14, some 15, some 16, some 17] rfl rfl rfl rfl dX7_readsLabel_1 (fun z2 => ?_)
  refine z_istore_n (lv' := [(0, .ref (ta 0)), (1, .int r1.1)]) G dX7_readsLabel_4 rfl (by decide) [1, 0] rfl ?_
  refine z_iload_n G dX7_readsLabel_5 rfl 1 rfl ?_
  refine z_if_ne (tgt := 13) G dX7_readsLabel_6 (by decide) h (fun h => ?_) (fun h => ?_)
  · refine z_bipush (v := 32) G dX7_readsLabel_13 (by decide) ?_
    refine z_iload_n G dX7_readsLabel_15 rfl 1 rfl ?_
    refine z_imul G dX7_readsLabel_16 ?_
    refine z_aload_n G dX7_readsLabel_17 rfl 0 rfl ?_
    obtain ⟨r3, e3, h⟩ := obind h
    refine z_kV (As := []) (rest := [.int (32 * r1.1)]) (st' := [.int r3.1, .int (32 * r1.1)]) (ws' := (w_M cI cJ cZ cN ta t_thrown t_told t_row t_tape t_taped r3.2 t_to t_mem t_undos t_places t_movers t_far t_way t_wayMany t_fromOf t_toOf t_longest t_wayCount t_thin t_ahead t_tried t_foundLow t_foundHigh t_nextLow t_nextHigh t_act t_first t_second t_random t_isKept)) G pk_X7_letter pv_X7_letter ml_X7_62 (c_X7_letter (ta := ta) (t_thrown := t_thrown) (t_told := t_told) (t_row := t_row) (t_tape := t_tape) (t_taped := t_taped) (t_at := r1.2) (t_to := t_to) (t_mem := t_mem) (t_undos := t_undos) (t_places := t_places) (t_movers := t_movers) (t_far := t_far) (t_way := t_way) (t_wayMany := t_wayMany) (t_fromOf := t_fromOf) (t_toOf := t_toOf) (t_longest := t_longest) (t_wayCount := t_wayCount) (t_thin := t_thin) (t_ahead := t_ahead) (t_tried := t_tried) (t_foundLow := t_foundLow) (t_foundHigh := t_foundHigh) (t_nextLow := t_nextLow) (t_nextHigh := t_nextHigh) (t_act := t_act) (t_first := t_first) (t_second := t_second) (t_random := t_random) (t_isKept := t_isKept) e3) ⟨rfl, rfl⟩ ⟨Nat.le_of_ble_eq_true rfl, Nat.le_of_ble_eq_true rfl⟩ ⟨Nat.zero_le _, Nat.zero_le _⟩ rfl rfl (Nat.le_of_ble_eq_true rfl) 0 7 rfl rfl rfl [0, 1, 2, 3, 4, 5, 6, 7, 8, 9, 10, 11, 12, 13, 14, 15, 16, 17] rfl rfl [some 0, some 1, some 2, some 3, some 4, some 5, some 6, some 7, some 8, some 9, some 10, some 11, some 12, some 13, some 14, some 15, some 16, some 17] rfl rfl rfl rfl dX7_readsLabel_18 (fun z4 => ?_)
    refine z_iadd G dX7_readsLabel_21 ?_
    obtain rfl := Option.some.inj h
    exact z_iret G rfl dX7_readsLabel_22 rfl trivial rfl
  · refine z_iconst (v := 0) G dX7_readsLabel_9 (by decide) ?_
    refine z_goto (tgt := 22) G dX7_readsLabel_10 (by decide) ?_
    obtain rfl := Option.some.inj h
    exact z_iret G rfl dX7_readsLabel_22 rfl trivial rfl

noncomputable def f_X7_copies_b2 (p1 : Int32) (p2 : Int32) (k2 : Int32 → (Nat → Int32) → Option ((Nat → Int32))) (x3 : Int32) (t_mem : Nat → Int32) : Option ((Nat → Int32)) :=
  if 179 ≤ x3 then some (t_mem) else chk (inb ((p1 * 179) + x3) 2327) (chk (inb ((p2 * 179) + x3) 2327) (k2 (x3 + 1) (upd t_mem (ix ((p2 * 179) + x3)) (t_mem (ix ((p1 * 179) + x3))))))
set_option maxRecDepth 100000 in
set_option maxHeartbeats 4000000 in
theorem zb_X7_copies_2 {p : Program} {l : Launch} {e : Env} {s : State} {m : MethodId} {args : Array Value} {below : List Frame} {meth : Method} {c : Code} {A : Nat → Prop} {dC : Nat → ClassId} {dI : Nat → Nat → Nat} {cI cJ cZ cN : ClassId} {ta : Nat → Nat} {t_thrown : Int32} {t_told : Int32} {t_row : Nat → Int64} {t_tape : Nat → Int32} {t_taped : Int32} {t_at : Int32} {t_to : Int32} {t_undos : Int32} {t_places : Nat → Int32} {t_movers : Nat → Int32} {t_far : Nat → Int32} {t_way : Nat → Int32} {t_wayMany : Int32} {t_fromOf : Nat → Int32} {t_toOf : Nat → Int32} {t_longest : Nat → Int32} {t_wayCount : Nat → Int64} {t_thin : Nat → Int32} {t_ahead : Nat → Int32} {t_tried : Int32} {t_foundLow : Int32} {t_foundHigh : Int32} {t_nextLow : Int32} {t_nextHigh : Int32} {t_act : Nat → Int32} {t_first : Nat → Int32} {t_second : Nat → Int32} {t_random : Int32} {t_isKept : Nat → Int32} {p1 : Int32} {p2 : Int32} {res : (Nat → Int32)} (G : zG p m c cX7_copies 4 s args RX7 (dC, dI) vwCl (zT cI cJ cZ cN) A meth none) {k2 : Int32 → (Nat → Int32) → Option ((Nat → Int32))} (hr2 : ∀ (x3 : Int32) (t_mem : Nat → Int32), k2 x3 t_mem = some res → Z p l e ({ frames := 0, cells := 0, slots := 0, locals := 0 }) s m args below meth c (dC, dI) vwCl A 4 0 0 (MQ below (zQ (none) (True) (w_M cI cJ cZ cN ta t_thrown t_told t_row t_tape t_taped t_at t_to res t_undos t_places t_movers t_far t_way t_wayMany t_fromOf t_toOf t_longest t_wayCount t_thin t_ahead t_tried t_foundLow t_foundHigh t_nextLow t_nextHigh t_act t_first t_second t_random t_isKept) (dC, dI) vwCl A) args s 0 0 A) (w_M cI cJ cZ cN ta t_thrown t_told t_row t_tape t_taped t_at t_to t_mem t_undos t_places t_movers t_far t_way t_wayMany t_fromOf t_toOf t_longest t_wayCount t_thin t_ahead t_tried t_foundLow t_foundHigh t_nextLow t_nextHigh t_act t_first t_second t_random t_isKept) [(0, .ref (ta 0)), (1, .int p1), (2, .int p2), (3, .int x3)] [] 2) : ∀ (x3 : Int32) (t_mem : Nat → Int32), f_X7_copies_b2 p1 p2 k2 x3 t_mem = some res → Z p l e ({ frames := 0, cells := 0, slots := 0, locals := 0 }) s m args below meth c (dC, dI) vwCl A 4 0 0 (MQ below (zQ (none) (True) (w_M cI cJ cZ cN ta t_thrown t_told t_row t_tape t_taped t_at t_to res t_undos t_places t_movers t_far t_way t_wayMany t_fromOf t_toOf t_longest t_wayCount t_thin t_ahead t_tried t_foundLow t_foundHigh t_nextLow t_nextHigh t_act t_first t_second t_random t_isKept) (dC, dI) vwCl A) args s 0 0 A) (w_M cI cJ cZ cN ta t_thrown t_told t_row t_tape t_taped t_at t_to t_mem t_undos t_places t_movers t_far t_way t_wayMany t_fromOf t_toOf t_longest t_wayCount t_thin t_ahead t_tried t_foundLow t_foundHigh t_nextLow t_nextHigh t_act t_first t_second t_random t_isKept) [(0, .ref (ta 0)), (1, .int p1), (2, .int p2), (3, .int x3)] [] 2 := by
  intro x3 t_mem h
  unfold f_X7_copies_b2 at h
  refine z_iload_n G dX7_copies_2 rfl 3 rfl ?_
  refine z_sipush (v := 179) G dX7_copies_3 (by decide) ?_
  refine z_icmp_ge (tgt := 39) G dX7_copies_6 (by decide) h (fun h => ?_) (fun h => ?_)
  · obtain rfl := Option.some.inj h
    exact z_vret G rfl dX7_copies_39 rfl trivial rfl
  · refine z_aload_n G dX7_copies_9 rfl 0 rfl ?_
    refine z_get (ci := 7) (v := .ref (ta 3)) G in_X7 0 rfl rfl 7 (by decide) fl_X7_71 rfl dX7_copies_10 ?_
    refine z_iload_n G dX7_copies_13 rfl 2 rfl ?_
    refine z_sipush (v := 179) G dX7_copies_14 (by decide) ?_
    refine z_imul G dX7_copies_17 ?_
    refine z_iload_n G dX7_copies_18 rfl 3 rfl ?_
    refine z_iadd G dX7_copies_19 ?_
    refine z_aload_n G dX7_copies_20 rfl 0 rfl ?_
    refine z_get (ci := 7) (v := .ref (ta 3)) G in_X7 0 rfl rfl 7 (by decide) fl_X7_71 rfl dX7_copies_21 ?_
    refine z_iload_n G dX7_copies_24 rfl 1 rfl ?_
    refine z_sipush (v := 179) G dX7_copies_25 (by decide) ?_
    refine z_imul G dX7_copies_28 ?_
    refine z_iload_n G dX7_copies_29 rfl 3 rfl ?_
    refine z_iadd G dX7_copies_30 ?_
    refine z_iaload G 3 0 rfl rfl dX7_copies_31 h (fun h => ?_)
    refine z_iastore (ws' := (w_M cI cJ cZ cN ta t_thrown t_told t_row t_tape t_taped t_at t_to (upd t_mem (ix ((p2 * 179) + x3)) (t_mem (ix ((p1 * 179) + x3)))) t_undos t_places t_movers t_far t_way t_wayMany t_fromOf t_toOf t_longest t_wayCount t_thin t_ahead t_tried t_foundLow t_foundHigh t_nextLow t_nextHigh t_act t_first t_second t_random t_isKept)) G 3 0 rfl rfl rfl dX7_copies_32 h (fun h => ?_)
    refine z_iinc (v := x3 + 1) (lv' := [(0, .ref (ta 0)), (1, .int p1), (2, .int p2), (3, .int (x3 + 1))]) G dX7_copies_33 3 rfl rfl (by decide) [1, 2, 3, 0] rfl ?_
    refine z_goto (tgt := 2) G dX7_copies_36 (by decide) ?_
    exact hr2 (x3 + 1) (upd t_mem (ix ((p2 * 179) + x3)) (t_mem (ix ((p1 * 179) + x3)))) h
noncomputable def f_X7_copies_l2 (p1 : Int32) (p2 : Int32)  (x3 : Int32) (t_mem : Nat → Int32) : Option ((Nat → Int32)) := loopN (V := Int32 × (Nat → Int32)) (fun rc v => f_X7_copies_b2 p1 p2  (fun x0_ x1_ => rc (x0_, x1_)) v.1 v.2) 200 (x3, t_mem)
set_option maxRecDepth 100000 in
set_option maxHeartbeats 4000000 in
theorem zl_X7_copies_2 {p : Program} {l : Launch} {e : Env} {s : State} {m : MethodId} {args : Array Value} {below : List Frame} {meth : Method} {c : Code} {A : Nat → Prop} {dC : Nat → ClassId} {dI : Nat → Nat → Nat} {cI cJ cZ cN : ClassId} {ta : Nat → Nat} {t_thrown : Int32} {t_told : Int32} {t_row : Nat → Int64} {t_tape : Nat → Int32} {t_taped : Int32} {t_at : Int32} {t_to : Int32} {t_undos : Int32} {t_places : Nat → Int32} {t_movers : Nat → Int32} {t_far : Nat → Int32} {t_way : Nat → Int32} {t_wayMany : Int32} {t_fromOf : Nat → Int32} {t_toOf : Nat → Int32} {t_longest : Nat → Int32} {t_wayCount : Nat → Int64} {t_thin : Nat → Int32} {t_ahead : Nat → Int32} {t_tried : Int32} {t_foundLow : Int32} {t_foundHigh : Int32} {t_nextLow : Int32} {t_nextHigh : Int32} {t_act : Nat → Int32} {t_first : Nat → Int32} {t_second : Nat → Int32} {t_random : Int32} {t_isKept : Nat → Int32} {p1 : Int32} {p2 : Int32} {res : (Nat → Int32)} (G : zG p m c cX7_copies 4 s args RX7 (dC, dI) vwCl (zT cI cJ cZ cN) A meth none)  : ∀ (x3 : Int32) (t_mem : Nat → Int32), f_X7_copies_l2 p1 p2  x3 t_mem = some res → Z p l e ({ frames := 0, cells := 0, slots := 0, locals := 0 }) s m args below meth c (dC, dI) vwCl A 4 0 0 (MQ below (zQ (none) (True) (w_M cI cJ cZ cN ta t_thrown t_told t_row t_tape t_taped t_at t_to res t_undos t_places t_movers t_far t_way t_wayMany t_fromOf t_toOf t_longest t_wayCount t_thin t_ahead t_tried t_foundLow t_foundHigh t_nextLow t_nextHigh t_act t_first t_second t_random t_isKept) (dC, dI) vwCl A) args s 0 0 A) (w_M cI cJ cZ cN ta t_thrown t_told t_row t_tape t_taped t_at t_to t_mem t_undos t_places t_movers t_far t_way t_wayMany t_fromOf t_toOf t_longest t_wayCount t_thin t_ahead t_tried t_foundLow t_foundHigh t_nextLow t_nextHigh t_act t_first t_second t_random t_isKept) [(0, .ref (ta 0)), (1, .int p1), (2, .int p2), (3, .int x3)] [] 2 := by
  intro x3 t_mem h
  exact zloop (P := fun v => Z p l e ({ frames := 0, cells := 0, slots := 0, locals := 0 }) s m args below meth c (dC, dI) vwCl A 4 0 0 (MQ below (zQ (none) (True) (w_M cI cJ cZ cN ta t_thrown t_told t_row t_tape t_taped t_at t_to res t_undos t_places t_movers t_far t_way t_wayMany t_fromOf t_toOf t_longest t_wayCount t_thin t_ahead t_tried t_foundLow t_foundHigh t_nextLow t_nextHigh t_act t_first t_second t_random t_isKept) (dC, dI) vwCl A) args s 0 0 A) (w_M cI cJ cZ cN ta t_thrown t_told t_row t_tape t_taped t_at t_to v.2 t_undos t_places t_movers t_far t_way t_wayMany t_fromOf t_toOf t_longest t_wayCount t_thin t_ahead t_tried t_foundLow t_foundHigh t_nextLow t_nextHigh t_act t_first t_second t_random t_isKept) [(0, .ref (ta 0)), (1, .int p1), (2, .int p2), (3, .int v.1)] [] 2) (fun rc hr v h => zb_X7_copies_2 G  (fun x0_ x1_ h => hr (x0_, x1_) h) v.1 v.2 h) 200 (x3, t_mem) h
noncomputable def f_X7_copies (t_mem : Nat → Int32) (p1 : Int32) (p2 : Int32) : Option ((Nat → Int32)) :=
  f_X7_copies_l2 p1 p2  0 t_mem
set_option maxRecDepth 100000 in
set_option maxHeartbeats 4000000 in
theorem c_X7_copies {l : Launch} {dC : Nat → ClassId} {dI : Nat → Nat → Nat} {cI cJ cZ cN : ClassId} {ta : Nat → Nat} {t_thrown : Int32} {t_told : Int32} {t_row : Nat → Int64} {t_tape : Nat → Int32} {t_taped : Int32} {t_at : Int32} {t_to : Int32} {t_mem : Nat → Int32} {t_undos : Int32} {t_places : Nat → Int32} {t_movers : Nat → Int32} {t_far : Nat → Int32} {t_way : Nat → Int32} {t_wayMany : Int32} {t_fromOf : Nat → Int32} {t_toOf : Nat → Int32} {t_longest : Nat → Int32} {t_wayCount : Nat → Int64} {t_thin : Nat → Int32} {t_ahead : Nat → Int32} {t_tried : Int32} {t_foundLow : Int32} {t_foundHigh : Int32} {t_nextLow : Int32} {t_nextHigh : Int32} {t_act : Nat → Int32} {t_first : Nat → Int32} {t_second : Nat → Int32} {t_random : Int32} {t_isKept : Nat → Int32} {p1 : Int32} {p2 : Int32} {res : (Nat → Int32)} (h : f_X7_copies t_mem p1 p2 = some res) : zM l yX7_copies cX7_copies 4 none ({ frames := 0, cells := 0, slots := 0, locals := 0 }) [.ref (ta 0), .int p1, .int p2] (dC, dI) vwCl (zT cI cJ cZ cN) (w_M cI cJ cZ cN ta t_thrown t_told t_row t_tape t_taped t_at t_to t_mem t_undos t_places t_movers t_far t_way t_wayMany t_fromOf t_toOf t_longest t_wayCount t_thin t_ahead t_tried t_foundLow t_foundHigh t_nextLow t_nextHigh t_act t_first t_second t_random t_isKept) (none) (True) (w_M cI cJ cZ cN ta t_thrown t_told t_row t_tape t_taped t_at t_to res t_undos t_places t_movers t_far t_way t_wayMany t_fromOf t_toOf t_longest t_wayCount t_thin t_ahead t_tried t_foundLow t_foundHigh t_nextLow t_nextHigh t_act t_first t_second t_random t_isKept) := by
  refine zM_of (own := RX7) (by decide) rfl [(0, .ref (ta 0)), (1, .int p1), (2, .int p2)] (Nat.le_of_ble_eq_true rfl) rfl ?_
  intro p e s m args below meth c A G _
  unfold f_X7_copies at h
  refine z_iconst (v := 0) G dX7_copies_0 (by decide) ?_
  refine z_istore_n (lv' := [(0, .ref (ta 0)), (1, .int p1), (2, .int p2), (3, .int 0)]) G dX7_copies_1 rfl (by decide) [1, 2, 3, 0] rfl ?_
  exact zl_X7_copies_2 G  0 t_mem h

noncomputable def f_X7_lays_b47   (t_mem : Nat → Int32) (t_undos : Int32) : Option ((Nat → Int32) × Int32) :=
  (f_X7_copies t_mem 3 (5 + t_undos)).bind (fun r3 => some (r3, t_undos + 1))
set_option maxRecDepth 100000 in
set_option maxHeartbeats 4000000 in
theorem zb_X7_lays_47 {p : Program} {l : Launch} {e : Env} {s : State} {m : MethodId} {args : Array Value} {below : List Frame} {meth : Method} {c : Code} {A : Nat → Prop} {dC : Nat → ClassId} {dI : Nat → Nat → Nat} {cI cJ cZ cN : ClassId} {ta : Nat → Nat} {t_thrown : Int32} {t_told : Int32} {t_row : Nat → Int64} {t_tape : Nat → Int32} {t_taped : Int32} {t_at : Int32} {t_to : Int32} {t_places : Nat → Int32} {t_movers : Nat → Int32} {t_far : Nat → Int32} {t_way : Nat → Int32} {t_wayMany : Int32} {t_fromOf : Nat → Int32} {t_toOf : Nat → Int32} {t_longest : Nat → Int32} {t_wayCount : Nat → Int64} {t_thin : Nat → Int32} {t_ahead : Nat → Int32} {t_tried : Int32} {t_foundLow : Int32} {t_foundHigh : Int32} {t_nextLow : Int32} {t_nextHigh : Int32} {t_act : Nat → Int32} {t_first : Nat → Int32} {t_second : Nat → Int32} {t_random : Int32} {t_isKept : Nat → Int32}  {res : (Nat → Int32) × Int32} (G : zG p m c cX7_lays 2 s args RX7 (dC, dI) vwCl (zT cI cJ cZ cN) A meth none)  : ∀ (t_mem : Nat → Int32) (t_undos : Int32), f_X7_lays_b47   t_mem t_undos = some res → Z p l e ({ frames := 1, cells := 0, slots := 0, locals := 23 }) s m args below meth c (dC, dI) vwCl A 2 0 0 (MQ below (zQ (none) (True) (w_M cI cJ cZ cN ta t_thrown t_told t_row t_tape t_taped t_at t_to res.1 res.2 t_places t_movers t_far t_way t_wayMany t_fromOf t_toOf t_longest t_wayCount t_thin t_ahead t_tried t_foundLow t_foundHigh t_nextLow t_nextHigh t_act t_first t_second t_random t_isKept) (dC, dI) vwCl A) args s 0 0 A) (w_M cI cJ cZ cN ta t_thrown t_told t_row t_tape t_taped t_at t_to t_mem t_undos t_places t_movers t_far t_way t_wayMany t_fromOf t_toOf t_longest t_wayCount t_thin t_ahead t_tried t_foundLow t_foundHigh t_nextLow t_nextHigh t_act t_first t_second t_random t_isKept) [(0, .ref (ta 0))] [] 47 := by
  intro t_mem t_undos h
  unfold f_X7_lays_b47 at h
  refine z_aload_n G dX7_lays_47 rfl 0 rfl ?_
  refine z_iconst (v := 3) G dX7_lays_48 (by decide) ?_
  refine z_iconst (v := 5) G dX7_lays_49 (by decide) ?_
  refine z_aload_n G dX7_lays_50 rfl 0 rfl ?_
  refine z_get (ci := 7) (v := .int t_undos) G in_X7 0 rfl rfl 8 (by decide) fl_X7_117 rfl dX7_lays_51 ?_
  refine z_iadd G dX7_lays_54 ?_
  obtain ⟨r3, e3, h⟩ := obind h
  refine z_kV (As := [.int 3, .int (5 + t_undos)]) (rest := []) (st' := []) (ws' := (w_M cI cJ cZ cN ta t_thrown t_told t_row t_tape t_taped t_at t_to r3 t_undos t_places t_movers t_far t_way t_wayMany t_fromOf t_toOf t_longest t_wayCount t_thin t_ahead t_tried t_foundLow t_foundHigh t_nextLow t_nextHigh t_act t_first t_second t_random t_isKept)) G pk_X7_copies pv_X7_copies ml_X7_120 (c_X7_copies (ta := ta) (t_thrown := t_thrown) (t_told := t_told) (t_row := t_row) (t_tape := t_tape) (t_taped := t_taped) (t_at := t_at) (t_to := t_to) (t_mem := t_mem) (t_undos := t_undos) (t_places := t_places) (t_movers := t_movers) (t_far := t_far) (t_way := t_way) (t_wayMany := t_wayMany) (t_fromOf := t_fromOf) (t_toOf := t_toOf) (t_longest := t_longest) (t_wayCount := t_wayCount) (t_thin := t_thin) (t_ahead := t_ahead) (t_tried := t_tried) (t_foundLow := t_foundLow) (t_foundHigh := t_foundHigh) (t_nextLow := t_nextLow) (t_nextHigh := t_nextHigh) (t_act := t_act) (t_first := t_first) (t_second := t_second) (t_random := t_random) (t_isKept := t_isKept) (p1 := 3) (p2 := 5 + t_undos) e3) ⟨rfl, rfl⟩ ⟨Nat.le_of_ble_eq_true rfl, Nat.le_of_ble_eq_true rfl⟩ ⟨Nat.zero_le _, Nat.zero_le _⟩ rfl rfl (Nat.le_of_ble_eq_true rfl) 0 7 rfl rfl rfl [0, 1, 2, 3, 4, 5, 6, 7, 8, 9, 10, 11, 12, 13, 14, 15, 16, 17] rfl rfl [some 0, some 1, some 2, some 3, some 4, some 5, some 6, some 7, some 8, some 9, some 10, some 11, some 12, some 13, some 14, some 15, some 16, some 17] rfl rfl rfl rfl dX7_lays_55 (fun z4 => ?_)
  refine z_aload_n G dX7_lays_58 rfl 0 rfl ?_
  refine z_dup G dX7_lays_59 rfl ?_
  refine z_get (ci := 7) (v := .int t_undos) G in_X7 0 rfl rfl 8 (by decide) fl_X7_117 rfl dX7_lays_60 ?_
  refine z_iconst (v := 1) G dX7_lays_63 (by decide) ?_
  refine z_iadd G dX7_lays_64 ?_
  refine z_put (ci := 7) (ws' := (w_M cI cJ cZ cN ta t_thrown t_told t_row t_tape t_taped t_at t_to r3 (t_undos + 1) t_places t_movers t_far t_way t_wayMany t_fromOf t_toOf t_longest t_wayCount t_thin t_ahead t_tried t_foundLow t_foundHigh t_nextLow t_nextHigh t_act t_first t_second t_random t_isKept)) G in_X7 tyX7 tyX7_ok nmX7 0 rfl rfl 8 (by decide) fl_X7_117 rfl rfl rfl (Nat.le_of_ble_eq_true rfl) rfl dX7_lays_65 ?_
  obtain rfl := Option.some.inj h
  exact z_vret G rfl dX7_lays_68 rfl trivial rfl
noncomputable def f_X7_lays_b11 (t_undos : Int32) (k11 : Int32 → (Nat → Int32) → Option ((Nat → Int32) × Int32)) (x1 : Int32) (t_mem : Nat → Int32) : Option ((Nat → Int32) × Int32) :=
  if (8 : Int32) ≤ (x1 + 1) then f_X7_lays_b47   t_mem (t_undos - 1) else (f_X7_copies t_mem ((5 + x1) + 1) (5 + x1)).bind (fun r1 => k11 (x1 + 1) r1)
set_option maxRecDepth 100000 in
set_option maxHeartbeats 4000000 in
theorem zb_X7_lays_11 {p : Program} {l : Launch} {e : Env} {s : State} {m : MethodId} {args : Array Value} {below : List Frame} {meth : Method} {c : Code} {A : Nat → Prop} {dC : Nat → ClassId} {dI : Nat → Nat → Nat} {cI cJ cZ cN : ClassId} {ta : Nat → Nat} {t_thrown : Int32} {t_told : Int32} {t_row : Nat → Int64} {t_tape : Nat → Int32} {t_taped : Int32} {t_at : Int32} {t_to : Int32} {t_undos : Int32} {t_places : Nat → Int32} {t_movers : Nat → Int32} {t_far : Nat → Int32} {t_way : Nat → Int32} {t_wayMany : Int32} {t_fromOf : Nat → Int32} {t_toOf : Nat → Int32} {t_longest : Nat → Int32} {t_wayCount : Nat → Int64} {t_thin : Nat → Int32} {t_ahead : Nat → Int32} {t_tried : Int32} {t_foundLow : Int32} {t_foundHigh : Int32} {t_nextLow : Int32} {t_nextHigh : Int32} {t_act : Nat → Int32} {t_first : Nat → Int32} {t_second : Nat → Int32} {t_random : Int32} {t_isKept : Nat → Int32}  {res : (Nat → Int32) × Int32} (G : zG p m c cX7_lays 2 s args RX7 (dC, dI) vwCl (zT cI cJ cZ cN) A meth none) {k11 : Int32 → (Nat → Int32) → Option ((Nat → Int32) × Int32)} (hr11 : ∀ (x1 : Int32) (t_mem : Nat → Int32), k11 x1 t_mem = some res → Z p l e ({ frames := 1, cells := 0, slots := 0, locals := 23 }) s m args below meth c (dC, dI) vwCl A 2 0 0 (MQ below (zQ (none) (True) (w_M cI cJ cZ cN ta t_thrown t_told t_row t_tape t_taped t_at t_to res.1 res.2 t_places t_movers t_far t_way t_wayMany t_fromOf t_toOf t_longest t_wayCount t_thin t_ahead t_tried t_foundLow t_foundHigh t_nextLow t_nextHigh t_act t_first t_second t_random t_isKept) (dC, dI) vwCl A) args s 0 0 A) (w_M cI cJ cZ cN ta t_thrown t_told t_row t_tape t_taped t_at t_to t_mem t_undos t_places t_movers t_far t_way t_wayMany t_fromOf t_toOf t_longest t_wayCount t_thin t_ahead t_tried t_foundLow t_foundHigh t_nextLow t_nextHigh t_act t_first t_second t_random t_isKept) [(0, .ref (ta 0)), (1, .int x1)] [] 11) : ∀ (x1 : Int32) (t_mem : Nat → Int32), f_X7_lays_b11 t_undos k11 x1 t_mem = some res → Z p l e ({ frames := 1, cells := 0, slots := 0, locals := 23 }) s m args below meth c (dC, dI) vwCl A 2 0 0 (MQ below (zQ (none) (True) (w_M cI cJ cZ cN ta t_thrown t_told t_row t_tape t_taped t_at t_to res.1 res.2 t_places t_movers t_far t_way t_wayMany t_fromOf t_toOf t_longest t_wayCount t_thin t_ahead t_tried t_foundLow t_foundHigh t_nextLow t_nextHigh t_act t_first t_second t_random t_isKept) (dC, dI) vwCl A) args s 0 0 A) (w_M cI cJ cZ cN ta t_thrown t_told t_row t_tape t_taped t_at t_to t_mem t_undos t_places t_movers t_far t_way t_wayMany t_fromOf t_toOf t_longest t_wayCount t_thin t_ahead t_tried t_foundLow t_foundHigh t_nextLow t_nextHigh t_act t_first t_second t_random t_isKept) [(0, .ref (ta 0)), (1, .int x1)] [] 11 := by
  intro x1 t_mem h
  unfold f_X7_lays_b11 at h
  refine z_iload_n G dX7_lays_11 rfl 1 rfl ?_
  refine z_iconst (v := 1) G dX7_lays_12 (by decide) ?_
  refine z_iadd G dX7_lays_13 ?_
  refine z_bipush (v := 8) G dX7_lays_14 (by decide) ?_
  refine z_icmp_ge (tgt := 37) G dX7_lays_16 (by decide) h (fun h => ?_) (fun h => ?_)
  · refine z_aload_n G dX7_lays_37 rfl 0 rfl ?_
    refine z_dup G dX7_lays_38 rfl ?_
    refine z_get (ci := 7) (v := .int t_undos) G in_X7 0 rfl rfl 8 (by decide) fl_X7_117 rfl dX7_lays_39 ?_
    refine z_iconst (v := 1) G dX7_lays_42 (by decide) ?_
    refine z_isub G dX7_lays_43 ?_
    refine z_put (ci := 7) (ws' := (w_M cI cJ cZ cN ta t_thrown t_told t_row t_tape t_taped t_at t_to t_mem (t_undos - 1) t_places t_movers t_far t_way t_wayMany t_fromOf t_toOf t_longest t_wayCount t_thin t_ahead t_tried t_foundLow t_foundHigh t_nextLow t_nextHigh t_act t_first t_second t_random t_isKept)) G in_X7 tyX7 tyX7_ok nmX7 0 rfl rfl 8 (by decide) fl_X7_117 rfl rfl rfl (Nat.le_of_ble_eq_true rfl) rfl dX7_lays_44 ?_
    refine z_lv [0] rfl ?_
    exact zb_X7_lays_47 G  t_mem (t_undos - 1) h
  · refine z_aload_n G dX7_lays_19 rfl 0 rfl ?_
    refine z_iconst (v := 5) G dX7_lays_20 (by decide) ?_
    refine z_iload_n G dX7_lays_21 rfl 1 rfl ?_
    refine z_iadd G dX7_lays_22 ?_
    refine z_iconst (v := 1) G dX7_lays_23 (by decide) ?_
    refine z_iadd G dX7_lays_24 ?_
    refine z_iconst (v := 5) G dX7_lays_25 (by decide) ?_
    refine z_iload_n G dX7_lays_26 rfl 1 rfl ?_
    refine z_iadd G dX7_lays_27 ?_
    obtain ⟨r1, e1, h⟩ := obind h
    refine z_kV (As := [.int ((5 + x1) + 1), .int (5 + x1)]) (rest := []) (st' := []) (ws' := (w_M cI cJ cZ cN ta t_thrown t_told t_row t_tape t_taped t_at t_to r1 t_undos t_places t_movers t_far t_way t_wayMany t_fromOf t_toOf t_longest t_wayCount t_thin t_ahead t_tried t_foundLow t_foundHigh t_nextLow t_nextHigh t_act t_first t_second t_random t_isKept)) G pk_X7_copies pv_X7_copies ml_X7_120 (c_X7_copies (ta := ta) (t_thrown := t_thrown) (t_told := t_told) (t_row := t_row) (t_tape := t_tape) (t_taped := t_taped) (t_at := t_at) (t_to := t_to) (t_mem := t_mem) (t_undos := t_undos) (t_places := t_places) (t_movers := t_movers) (t_far := t_far) (t_way := t_way) (t_wayMany := t_wayMany) (t_fromOf := t_fromOf) (t_toOf := t_toOf) (t_longest := t_longest) (t_wayCount := t_wayCount) (t_thin := t_thin) (t_ahead := t_ahead) (t_tried := t_tried) (t_foundLow := t_foundLow) (t_foundHigh := t_foundHigh) (t_nextLow := t_nextLow) (t_nextHigh := t_nextHigh) (t_act := t_act) (t_first := t_first) (t_second := t_second) (t_random := t_random) (t_isKept := t_isKept) (p1 := (5 + x1) + 1) (p2 := 5 + x1) e1) ⟨rfl, rfl⟩ ⟨Nat.le_of_ble_eq_true rfl, Nat.le_of_ble_eq_true rfl⟩ ⟨Nat.zero_le _, Nat.zero_le _⟩ rfl rfl (Nat.le_of_ble_eq_true rfl) 0 7 rfl rfl rfl [0, 1, 2, 3, 4, 5, 6, 7, 8, 9, 10, 11, 12, 13, 14, 15, 16, 17] rfl rfl [some 0, some 1, some 2, some 3, some 4, some 5, some 6, some 7, some 8, some 9, some 10, some 11, some 12, some 13, some 14, some 15, some 16, some 17] rfl rfl rfl rfl dX7_lays_28 (fun z2 => ?_)
    refine z_iinc (v := x1 + 1) (lv' := [(0, .ref (ta 0)), (1, .int (x1 + 1))]) G dX7_lays_31 1 rfl rfl (by decide) [1, 0] rfl ?_
    refine z_goto (tgt := 11) G dX7_lays_34 (by decide) ?_
    exact hr11 (x1 + 1) r1 h
noncomputable def f_X7_lays_l11 (t_undos : Int32)  (x1 : Int32) (t_mem : Nat → Int32) : Option ((Nat → Int32) × Int32) := loopN (V := Int32 × (Nat → Int32)) (fun rc v => f_X7_lays_b11 t_undos  (fun x0_ x1_ => rc (x0_, x1_)) v.1 v.2) 200 (x1, t_mem)
set_option maxRecDepth 100000 in
set_option maxHeartbeats 4000000 in
theorem zl_X7_lays_11 {p : Program} {l : Launch} {e : Env} {s : State} {m : MethodId} {args : Array Value} {below : List Frame} {meth : Method} {c : Code} {A : Nat → Prop} {dC : Nat → ClassId} {dI : Nat → Nat → Nat} {cI cJ cZ cN : ClassId} {ta : Nat → Nat} {t_thrown : Int32} {t_told : Int32} {t_row : Nat → Int64} {t_tape : Nat → Int32} {t_taped : Int32} {t_at : Int32} {t_to : Int32} {t_undos : Int32} {t_places : Nat → Int32} {t_movers : Nat → Int32} {t_far : Nat → Int32} {t_way : Nat → Int32} {t_wayMany : Int32} {t_fromOf : Nat → Int32} {t_toOf : Nat → Int32} {t_longest : Nat → Int32} {t_wayCount : Nat → Int64} {t_thin : Nat → Int32} {t_ahead : Nat → Int32} {t_tried : Int32} {t_foundLow : Int32} {t_foundHigh : Int32} {t_nextLow : Int32} {t_nextHigh : Int32} {t_act : Nat → Int32} {t_first : Nat → Int32} {t_second : Nat → Int32} {t_random : Int32} {t_isKept : Nat → Int32}  {res : (Nat → Int32) × Int32} (G : zG p m c cX7_lays 2 s args RX7 (dC, dI) vwCl (zT cI cJ cZ cN) A meth none)  : ∀ (x1 : Int32) (t_mem : Nat → Int32), f_X7_lays_l11 t_undos  x1 t_mem = some res → Z p l e ({ frames := 1, cells := 0, slots := 0, locals := 23 }) s m args below meth c (dC, dI) vwCl A 2 0 0 (MQ below (zQ (none) (True) (w_M cI cJ cZ cN ta t_thrown t_told t_row t_tape t_taped t_at t_to res.1 res.2 t_places t_movers t_far t_way t_wayMany t_fromOf t_toOf t_longest t_wayCount t_thin t_ahead t_tried t_foundLow t_foundHigh t_nextLow t_nextHigh t_act t_first t_second t_random t_isKept) (dC, dI) vwCl A) args s 0 0 A) (w_M cI cJ cZ cN ta t_thrown t_told t_row t_tape t_taped t_at t_to t_mem t_undos t_places t_movers t_far t_way t_wayMany t_fromOf t_toOf t_longest t_wayCount t_thin t_ahead t_tried t_foundLow t_foundHigh t_nextLow t_nextHigh t_act t_first t_second t_random t_isKept) [(0, .ref (ta 0)), (1, .int x1)] [] 11 := by
  intro x1 t_mem h
  exact zloop (P := fun v => Z p l e ({ frames := 1, cells := 0, slots := 0, locals := 23 }) s m args below meth c (dC, dI) vwCl A 2 0 0 (MQ below (zQ (none) (True) (w_M cI cJ cZ cN ta t_thrown t_told t_row t_tape t_taped t_at t_to res.1 res.2 t_places t_movers t_far t_way t_wayMany t_fromOf t_toOf t_longest t_wayCount t_thin t_ahead t_tried t_foundLow t_foundHigh t_nextLow t_nextHigh t_act t_first t_second t_random t_isKept) (dC, dI) vwCl A) args s 0 0 A) (w_M cI cJ cZ cN ta t_thrown t_told t_row t_tape t_taped t_at t_to v.2 t_undos t_places t_movers t_far t_way t_wayMany t_fromOf t_toOf t_longest t_wayCount t_thin t_ahead t_tried t_foundLow t_foundHigh t_nextLow t_nextHigh t_act t_first t_second t_random t_isKept) [(0, .ref (ta 0)), (1, .int v.1)] [] 11) (fun rc hr v h => zb_X7_lays_11 G  (fun x0_ x1_ h => hr (x0_, x1_) h) v.1 v.2 h) 200 (x1, t_mem) h
noncomputable def f_X7_lays (t_mem : Nat → Int32) (t_undos : Int32) : Option ((Nat → Int32) × Int32) :=
  if t_undos = 8 then f_X7_lays_l11 t_undos  0 t_mem else f_X7_lays_b47   t_mem t_undos
set_option maxRecDepth 100000 in
set_option maxHeartbeats 4000000 in
theorem c_X7_lays {l : Launch} {dC : Nat → ClassId} {dI : Nat → Nat → Nat} {cI cJ cZ cN : ClassId} {ta : Nat → Nat} {t_thrown : Int32} {t_told : Int32} {t_row : Nat → Int64} {t_tape : Nat → Int32} {t_taped : Int32} {t_at : Int32} {t_to : Int32} {t_mem : Nat → Int32} {t_undos : Int32} {t_places : Nat → Int32} {t_movers : Nat → Int32} {t_far : Nat → Int32} {t_way : Nat → Int32} {t_wayMany : Int32} {t_fromOf : Nat → Int32} {t_toOf : Nat → Int32} {t_longest : Nat → Int32} {t_wayCount : Nat → Int64} {t_thin : Nat → Int32} {t_ahead : Nat → Int32} {t_tried : Int32} {t_foundLow : Int32} {t_foundHigh : Int32} {t_nextLow : Int32} {t_nextHigh : Int32} {t_act : Nat → Int32} {t_first : Nat → Int32} {t_second : Nat → Int32} {t_random : Int32} {t_isKept : Nat → Int32}  {res : (Nat → Int32) × Int32} (h : f_X7_lays t_mem t_undos = some res) : zM l yX7_lays cX7_lays 2 none ({ frames := 1, cells := 0, slots := 0, locals := 23 }) [.ref (ta 0)] (dC, dI) vwCl (zT cI cJ cZ cN) (w_M cI cJ cZ cN ta t_thrown t_told t_row t_tape t_taped t_at t_to t_mem t_undos t_places t_movers t_far t_way t_wayMany t_fromOf t_toOf t_longest t_wayCount t_thin t_ahead t_tried t_foundLow t_foundHigh t_nextLow t_nextHigh t_act t_first t_second t_random t_isKept) (none) (True) (w_M cI cJ cZ cN ta t_thrown t_told t_row t_tape t_taped t_at t_to res.1 res.2 t_places t_movers t_far t_way t_wayMany t_fromOf t_toOf t_longest t_wayCount t_thin t_ahead t_tried t_foundLow t_foundHigh t_nextLow t_nextHigh t_act t_first t_second t_random t_isKept) := by
  refine zM_of (own := RX7) (by decide) rfl [(0, .ref (ta 0))] (Nat.le_of_ble_eq_true rfl) rfl ?_
  intro p e s m args below meth c A G _
  unfold f_X7_lays at h
  refine z_aload_n G dX7_lays_0 rfl 0 rfl ?_
  refine z_get (ci := 7) (v := .int t_undos) G in_X7 0 rfl rfl 8 (by decide) fl_X7_117 rfl dX7_lays_1 ?_
  refine z_bipush (v := 8) G dX7_lays_4 (by decide) ?_
  refine z_icmp_ne (tgt := 47) G dX7_lays_6 (by decide) h (fun h => ?_) (fun h => ?_)
  · exact zb_X7_lays_47 G  t_mem t_undos h
  · refine z_iconst (v := 0) G dX7_lays_9 (by decide) ?_
    refine z_istore_n (lv' := [(0, .ref (ta 0)), (1, .int 0)]) G dX7_lays_10 rfl (by decide) [1, 0] rfl ?_
    exact zl_X7_lays_11 G  0 t_mem h

noncomputable def f_X7_done (t_mem : Nat → Int32) (t_undos : Int32) (p1 : Int32) : Option (Int32 × (Nat → Int32) × Int32) :=
  if p1 < 0 then some (p1, t_mem, t_undos) else (f_X7_lays t_mem t_undos).bind (fun r1 => some (p1, r1.1, r1.2))
set_option maxRecDepth 100000 in
set_option maxHeartbeats 4000000 in
theorem c_X7_done {l : Launch} {dC : Nat → ClassId} {dI : Nat → Nat → Nat} {cI cJ cZ cN : ClassId} {ta : Nat → Nat} {t_thrown : Int32} {t_told : Int32} {t_row : Nat → Int64} {t_tape : Nat → Int32} {t_taped : Int32} {t_at : Int32} {t_to : Int32} {t_mem : Nat → Int32} {t_undos : Int32} {t_places : Nat → Int32} {t_movers : Nat → Int32} {t_far : Nat → Int32} {t_way : Nat → Int32} {t_wayMany : Int32} {t_fromOf : Nat → Int32} {t_toOf : Nat → Int32} {t_longest : Nat → Int32} {t_wayCount : Nat → Int64} {t_thin : Nat → Int32} {t_ahead : Nat → Int32} {t_tried : Int32} {t_foundLow : Int32} {t_foundHigh : Int32} {t_nextLow : Int32} {t_nextHigh : Int32} {t_act : Nat → Int32} {t_first : Nat → Int32} {t_second : Nat → Int32} {t_random : Int32} {t_isKept : Nat → Int32} {p1 : Int32} {res : Int32 × (Nat → Int32) × Int32} (h : f_X7_done t_mem t_undos p1 = some res) : zM l yX7_done cX7_done 2 (some .int) ({ frames := 2, cells := 0, slots := 0, locals := 44 }) [.ref (ta 0), .int p1] (dC, dI) vwCl (zT cI cJ cZ cN) (w_M cI cJ cZ cN ta t_thrown t_told t_row t_tape t_taped t_at t_to t_mem t_undos t_places t_movers t_far t_way t_wayMany t_fromOf t_toOf t_longest t_wayCount t_thin t_ahead t_tried t_foundLow t_foundHigh t_nextLow t_nextHigh t_act t_first t_second t_random t_isKept) (some (.int res.1)) (True) (w_M cI cJ cZ cN ta t_thrown t_told t_row t_tape t_taped t_at t_to res.2.1 res.2.2 t_places t_movers t_far t_way t_wayMany t_fromOf t_toOf t_longest t_wayCount t_thin t_ahead t_tried t_foundLow t_foundHigh t_nextLow t_nextHigh t_act t_first t_second t_random t_isKept) := by
  refine zM_of (own := RX7) (by decide) rfl [(0, .ref (ta 0)), (1, .int p1)] (Nat.le_of_ble_eq_true rfl) rfl ?_
  intro p e s m args below meth c A G _
  unfold f_X7_done at h
  refine z_iload_n G dX7_done_0 rfl 1 rfl ?_
  refine z_if_lt (tgt := 8) G dX7_done_1 (by decide) h (fun h => ?_) (fun h => ?_)
  · refine z_iload_n G dX7_done_8 rfl 1 rfl ?_
    obtain rfl := Option.some.inj h
    exact z_iret G rfl dX7_done_9 rfl trivial rfl
  · refine z_aload_n G dX7_done_4 rfl 0 rfl ?_
    obtain ⟨r1, e1, h⟩ := obind h
    refine z_kV (As := []) (rest := []) (st' := []) (ws' := (w_M cI cJ cZ cN ta t_thrown t_told t_row t_tape t_taped t_at t_to r1.1 r1.2 t_places t_movers t_far t_way t_wayMany t_fromOf t_toOf t_longest t_wayCount t_thin t_ahead t_tried t_foundLow t_foundHigh t_nextLow t_nextHigh t_act t_first t_second t_random t_isKept)) G pk_X7_lays pv_X7_lays ml_X7_124 (c_X7_lays (ta := ta) (t_thrown := t_thrown) (t_told := t_told) (t_row := t_row) (t_tape := t_tape) (t_taped := t_taped) (t_at := t_at) (t_to := t_to) (t_mem := t_mem) (t_undos := t_undos) (t_places := t_places) (t_movers := t_movers) (t_far := t_far) (t_way := t_way) (t_wayMany := t_wayMany) (t_fromOf := t_fromOf) (t_toOf := t_toOf) (t_longest := t_longest) (t_wayCount := t_wayCount) (t_thin := t_thin) (t_ahead := t_ahead) (t_tried := t_tried) (t_foundLow := t_foundLow) (t_foundHigh := t_foundHigh) (t_nextLow := t_nextLow) (t_nextHigh := t_nextHigh) (t_act := t_act) (t_first := t_first) (t_second := t_second) (t_random := t_random) (t_isKept := t_isKept) e1) ⟨rfl, rfl⟩ ⟨Nat.le_of_ble_eq_true rfl, Nat.le_of_ble_eq_true rfl⟩ ⟨Nat.zero_le _, Nat.zero_le _⟩ rfl rfl (Nat.le_of_ble_eq_true rfl) 0 7 rfl rfl rfl [0, 1, 2, 3, 4, 5, 6, 7, 8, 9, 10, 11, 12, 13, 14, 15, 16, 17] rfl rfl [some 0, some 1, some 2, some 3, some 4, some 5, some 6, some 7, some 8, some 9, some 10, some 11, some 12, some 13, some 14, some 15, some 16, some 17] rfl rfl rfl rfl dX7_done_5 (fun z2 => ?_)
    refine z_iload_n G dX7_done_8 rfl 1 rfl ?_
    obtain rfl := Option.some.inj h
    exact z_iret G rfl dX7_done_9 rfl trivial rfl

noncomputable def f_X7_undo (t_thrown : Int32) (t_mem : Nat → Int32) (t_undos : Int32) : Option (Int32 × Int32 × (Nat → Int32) × Int32) :=
  if t_undos = 0 then some ((-1), 0, t_mem, t_undos) else (f_X7_copies t_mem (5 + (t_undos - 1)) 0).bind (fun r1 => some (t_undos - 1, 0, r1, t_undos - 1))
set_option maxRecDepth 100000 in
set_option maxHeartbeats 4000000 in
theorem c_X7_undo {l : Launch} {dC : Nat → ClassId} {dI : Nat → Nat → Nat} {cI cJ cZ cN : ClassId} {ta : Nat → Nat} {t_thrown : Int32} {t_told : Int32} {t_row : Nat → Int64} {t_tape : Nat → Int32} {t_taped : Int32} {t_at : Int32} {t_to : Int32} {t_mem : Nat → Int32} {t_undos : Int32} {t_places : Nat → Int32} {t_movers : Nat → Int32} {t_far : Nat → Int32} {t_way : Nat → Int32} {t_wayMany : Int32} {t_fromOf : Nat → Int32} {t_toOf : Nat → Int32} {t_longest : Nat → Int32} {t_wayCount : Nat → Int64} {t_thin : Nat → Int32} {t_ahead : Nat → Int32} {t_tried : Int32} {t_foundLow : Int32} {t_foundHigh : Int32} {t_nextLow : Int32} {t_nextHigh : Int32} {t_act : Nat → Int32} {t_first : Nat → Int32} {t_second : Nat → Int32} {t_random : Int32} {t_isKept : Nat → Int32}  {res : Int32 × Int32 × (Nat → Int32) × Int32} (h : f_X7_undo t_thrown t_mem t_undos = some res) : zM l yX7_undo cX7_undo 1 (some .int) ({ frames := 1, cells := 0, slots := 0, locals := 23 }) [.ref (ta 0)] (dC, dI) vwCl (zT cI cJ cZ cN) (w_M cI cJ cZ cN ta t_thrown t_told t_row t_tape t_taped t_at t_to t_mem t_undos t_places t_movers t_far t_way t_wayMany t_fromOf t_toOf t_longest t_wayCount t_thin t_ahead t_tried t_foundLow t_foundHigh t_nextLow t_nextHigh t_act t_first t_second t_random t_isKept) (some (.int res.1)) (True) (w_M cI cJ cZ cN ta res.2.1 t_told t_row t_tape t_taped t_at t_to res.2.2.1 res.2.2.2 t_places t_movers t_far t_way t_wayMany t_fromOf t_toOf t_longest t_wayCount t_thin t_ahead t_tried t_foundLow t_foundHigh t_nextLow t_nextHigh t_act t_first t_second t_random t_isKept) := by
  refine zM_of (own := RX7) (by decide) rfl [(0, .ref (ta 0))] (Nat.le_of_ble_eq_true rfl) rfl ?_
  intro p e s m args below meth c A G _
  unfold f_X7_undo at h
  refine z_aload_n G dX7_undo_0 rfl 0 rfl ?_
  refine z_iconst (v := 0) G dX7_undo_1 (by decide) ?_
  refine z_put (ci := 7) (ws' := (w_M cI cJ cZ cN ta 0 t_told t_row t_tape t_taped t_at t_to t_mem t_undos t_places t_movers t_far t_way t_wayMany t_fromOf t_toOf t_longest t_wayCount t_thin t_ahead t_tried t_foundLow t_foundHigh t_nextLow t_nextHigh t_act t_first t_second t_random t_isKept)) G in_X7 tyX7 tyX7_ok nmX7 0 rfl rfl 0 (by decide) fl_X7_1 rfl rfl rfl (Nat.le_of_ble_eq_true rfl) rfl dX7_undo_2 ?_
  refine z_aload_n G dX7_undo_5 rfl 0 rfl ?_
  refine z_get (ci := 7) (v := .int t_undos) G in_X7 0 rfl rfl 8 (by decide) fl_X7_117 rfl dX7_undo_6 ?_
  refine z_if_ne (tgt := 14) G dX7_undo_9 (by decide) h (fun h => ?_) (fun h => ?_)
  · refine z_aload_n G dX7_undo_14 rfl 0 rfl ?_
    refine z_dup G dX7_undo_15 rfl ?_
    refine z_get (ci := 7) (v := .int t_undos) G in_X7 0 rfl rfl 8 (by decide) fl_X7_117 rfl dX7_undo_16 ?_
    refine z_iconst (v := 1) G dX7_undo_19 (by decide) ?_
    refine z_isub G dX7_undo_20 ?_
    refine z_put (ci := 7) (ws' := (w_M cI cJ cZ cN ta 0 t_told t_row t_tape t_taped t_at t_to t_mem (t_undos - 1) t_places t_movers t_far t_way t_wayMany t_fromOf t_toOf t_longest t_wayCount t_thin t_ahead t_tried t_foundLow t_foundHigh t_nextLow t_nextHigh t_act t_first t_second t_random t_isKept)) G in_X7 tyX7 tyX7_ok nmX7 0 rfl rfl 8 (by decide) fl_X7_117 rfl rfl rfl (Nat.le_of_ble_eq_true rfl) rfl dX7_undo_21 ?_
    refine z_aload_n G dX7_undo_24 rfl 0 rfl ?_
    refine z_iconst (v := 5) G dX7_undo_25 (by decide) ?_
    refine z_aload_n G dX7_undo_26 rfl 0 rfl ?_
    refine z_get (ci := 7) (v := .int (t_undos - 1)) G in_X7 0 rfl rfl 8 (by decide) fl_X7_117 rfl dX7_undo_27 ?_
    refine z_iadd G dX7_undo_30 ?_
    refine z_iconst (v := 0) G dX7_undo_31 (by decide) ?_
    obtain ⟨r1, e1, h⟩ := obind h
    refine z_kV (As := [.int (5 + (t_undos - 1)), .int 0]) (rest := []) (st' := []) (ws' := (w_M cI cJ cZ cN ta 0 t_told t_row t_tape t_taped t_at t_to r1 (t_undos - 1) t_places t_movers t_far t_way t_wayMany t_fromOf t_toOf t_longest t_wayCount t_thin t_ahead t_tried t_foundLow t_foundHigh t_nextLow t_nextHigh t_act t_first t_second t_random t_isKept)) G pk_X7_copies pv_X7_copies ml_X7_120 (c_X7_copies (ta := ta) (t_thrown := 0) (t_told := t_told) (t_row := t_row) (t_tape := t_tape) (t_taped := t_taped) (t_at := t_at) (t_to := t_to) (t_mem := t_mem) (t_undos := t_undos - 1) (t_places := t_places) (t_movers := t_movers) (t_far := t_far) (t_way := t_way) (t_wayMany := t_wayMany) (t_fromOf := t_fromOf) (t_toOf := t_toOf) (t_longest := t_longest) (t_wayCount := t_wayCount) (t_thin := t_thin) (t_ahead := t_ahead) (t_tried := t_tried) (t_foundLow := t_foundLow) (t_foundHigh := t_foundHigh) (t_nextLow := t_nextLow) (t_nextHigh := t_nextHigh) (t_act := t_act) (t_first := t_first) (t_second := t_second) (t_random := t_random) (t_isKept := t_isKept) (p1 := 5 + (t_undos - 1)) (p2 := 0) e1) ⟨rfl, rfl⟩ ⟨Nat.le_of_ble_eq_true rfl, Nat.le_of_ble_eq_true rfl⟩ ⟨Nat.zero_le _, Nat.zero_le _⟩ rfl rfl (Nat.le_of_ble_eq_true rfl) 0 7 rfl rfl rfl [0, 1, 2, 3, 4, 5, 6, 7, 8, 9, 10, 11, 12, 13, 14, 15, 16, 17] rfl rfl [some 0, some 1, some 2, some 3, some 4, some 5, some 6, some 7, some 8, some 9, some 10, some 11, some 12, some 13, some 14, some 15, some 16, some 17] rfl rfl rfl rfl dX7_undo_32 (fun z2 => ?_)
    refine z_aload_n G dX7_undo_35 rfl 0 rfl ?_
    refine z_get (ci := 7) (v := .int (t_undos - 1)) G in_X7 0 rfl rfl 8 (by decide) fl_X7_117 rfl dX7_undo_36 ?_
    obtain rfl := Option.some.inj h
    exact z_iret G rfl dX7_undo_39 rfl trivial rfl
  · refine z_iconst (v := (-1)) G dX7_undo_12 (by decide) ?_
    obtain rfl := Option.some.inj h
    exact z_iret G rfl dX7_undo_13 rfl trivial rfl

noncomputable def f_X7_there (t_mem : Nat → Int32) (p1 : Int32) : Option (Int32) :=
  chk (inb ((p1 * 179) + 0) 2327) (some (t_mem (ix ((p1 * 179) + 0))))
set_option maxRecDepth 100000 in
set_option maxHeartbeats 4000000 in
theorem c_X7_there {l : Launch} {dC : Nat → ClassId} {dI : Nat → Nat → Nat} {cI cJ cZ cN : ClassId} {ta : Nat → Nat} {t_thrown : Int32} {t_told : Int32} {t_row : Nat → Int64} {t_tape : Nat → Int32} {t_taped : Int32} {t_at : Int32} {t_to : Int32} {t_mem : Nat → Int32} {t_undos : Int32} {t_places : Nat → Int32} {t_movers : Nat → Int32} {t_far : Nat → Int32} {t_way : Nat → Int32} {t_wayMany : Int32} {t_fromOf : Nat → Int32} {t_toOf : Nat → Int32} {t_longest : Nat → Int32} {t_wayCount : Nat → Int64} {t_thin : Nat → Int32} {t_ahead : Nat → Int32} {t_tried : Int32} {t_foundLow : Int32} {t_foundHigh : Int32} {t_nextLow : Int32} {t_nextHigh : Int32} {t_act : Nat → Int32} {t_first : Nat → Int32} {t_second : Nat → Int32} {t_random : Int32} {t_isKept : Nat → Int32} {p1 : Int32} {res : Int32} (h : f_X7_there t_mem p1 = some res) : zM l yX7_there cX7_there 2 (some .int) ({ frames := 0, cells := 0, slots := 0, locals := 0 }) [.ref (ta 0), .int p1] (dC, dI) vwCl (zT cI cJ cZ cN) (w_M cI cJ cZ cN ta t_thrown t_told t_row t_tape t_taped t_at t_to t_mem t_undos t_places t_movers t_far t_way t_wayMany t_fromOf t_toOf t_longest t_wayCount t_thin t_ahead t_tried t_foundLow t_foundHigh t_nextLow t_nextHigh t_act t_first t_second t_random t_isKept) (some (.int res)) (True) (w_M cI cJ cZ cN ta t_thrown t_told t_row t_tape t_taped t_at t_to t_mem t_undos t_places t_movers t_far t_way t_wayMany t_fromOf t_toOf t_longest t_wayCount t_thin t_ahead t_tried t_foundLow t_foundHigh t_nextLow t_nextHigh t_act t_first t_second t_random t_isKept) := by
  refine zM_of (own := RX7) (by decide) rfl [(0, .ref (ta 0)), (1, .int p1)] (Nat.le_of_ble_eq_true rfl) rfl ?_
  intro p e s m args below meth c A G _
  unfold f_X7_there at h
  refine z_aload_n G dX7_there_0 rfl 0 rfl ?_
  refine z_get (ci := 7) (v := .ref (ta 3)) G in_X7 0 rfl rfl 7 (by decide) fl_X7_71 rfl dX7_there_1 ?_
  refine z_iload_n G dX7_there_4 rfl 1 rfl ?_
  refine z_sipush (v := 179) G dX7_there_5 (by decide) ?_
  refine z_imul G dX7_there_8 ?_
  refine z_iconst (v := 0) G dX7_there_9 (by decide) ?_
  refine z_iadd G dX7_there_10 ?_
  refine z_iaload G 3 0 rfl rfl dX7_there_11 h (fun h => ?_)
  obtain rfl := Option.some.inj h
  exact z_iret G rfl dX7_there_12 rfl trivial rfl

noncomputable def f_X7_isTerm (t_mem : Nat → Int32) (p1 : Int32) : Option (Int32) :=
  if (f_X7_in (p1.toInt64) 0 23) = 0 then some (0) else (f_X7_there t_mem 0).bind (fun r2 => if (f_X7_has r2 p1) = 0 then some (0) else some (1))
set_option maxRecDepth 100000 in
set_option maxHeartbeats 4000000 in
theorem c_X7_isTerm {l : Launch} {dC : Nat → ClassId} {dI : Nat → Nat → Nat} {cI cJ cZ cN : ClassId} {ta : Nat → Nat} {t_thrown : Int32} {t_told : Int32} {t_row : Nat → Int64} {t_tape : Nat → Int32} {t_taped : Int32} {t_at : Int32} {t_to : Int32} {t_mem : Nat → Int32} {t_undos : Int32} {t_places : Nat → Int32} {t_movers : Nat → Int32} {t_far : Nat → Int32} {t_way : Nat → Int32} {t_wayMany : Int32} {t_fromOf : Nat → Int32} {t_toOf : Nat → Int32} {t_longest : Nat → Int32} {t_wayCount : Nat → Int64} {t_thin : Nat → Int32} {t_ahead : Nat → Int32} {t_tried : Int32} {t_foundLow : Int32} {t_foundHigh : Int32} {t_nextLow : Int32} {t_nextHigh : Int32} {t_act : Nat → Int32} {t_first : Nat → Int32} {t_second : Nat → Int32} {t_random : Int32} {t_isKept : Nat → Int32} {p1 : Int32} {res : Int32} (h : f_X7_isTerm t_mem p1 = some res) : zM l yX7_isTerm cX7_isTerm 2 (some .boolean) ({ frames := 1, cells := 0, slots := 0, locals := 25 }) [.ref (ta 0), .int p1] (dC, dI) vwCl (zT cI cJ cZ cN) (w_M cI cJ cZ cN ta t_thrown t_told t_row t_tape t_taped t_at t_to t_mem t_undos t_places t_movers t_far t_way t_wayMany t_fromOf t_toOf t_longest t_wayCount t_thin t_ahead t_tried t_foundLow t_foundHigh t_nextLow t_nextHigh t_act t_first t_second t_random t_isKept) (some (.int res)) (narrow .boolean (.int res) = .int res) (w_M cI cJ cZ cN ta t_thrown t_told t_row t_tape t_taped t_at t_to t_mem t_undos t_places t_movers t_far t_way t_wayMany t_fromOf t_toOf t_longest t_wayCount t_thin t_ahead t_tried t_foundLow t_foundHigh t_nextLow t_nextHigh t_act t_first t_second t_random t_isKept) := by
  refine zM_of (own := RX7) (by decide) rfl [(0, .ref (ta 0)), (1, .int p1)] (Nat.le_of_ble_eq_true rfl) rfl ?_
  intro p e s m args below meth c A G _
  unfold f_X7_isTerm at h
  refine z_iload_n G dX7_isTerm_0 rfl 1 rfl ?_
  refine z_i2l G dX7_isTerm_1 ?_
  refine z_lconst (v := 0) G dX7_isTerm_2 (by decide) ?_
  refine z_ldc2 (v := 23) G dX7_isTerm_3 kc_X7_127 ?_
  refine z_kS (As := [.long (p1.toInt64), .long 0, .long 23]) (rest := []) (st' := [.int (f_X7_in (p1.toInt64) 0 23)]) G pk_X7_in ps_X7_in ml_X7_21 (c_X7_in (p0 := p1.toInt64) (p2 := 0) (p4 := 23) rfl) ⟨rfl, rfl⟩ ⟨Nat.le_of_ble_eq_true rfl, Nat.le_of_ble_eq_true rfl⟩ ⟨Nat.zero_le _, Nat.zero_le _⟩ rfl rfl (Nat.le_of_ble_eq_true rfl) rfl dX7_isTerm_6 (fun z1 => ?_)
  refine z_if_eq (tgt := 28) G dX7_isTerm_9 (by decide) h (fun h => ?_) (fun h => ?_)
  · refine z_iconst (v := 0) G dX7_isTerm_28 (by decide) ?_
    obtain rfl := Option.some.inj h
    exact z_zret G rfl zn0 dX7_isTerm_29 rfl zn0 rfl
  · refine z_aload_n G dX7_isTerm_12 rfl 0 rfl ?_
    refine z_iconst (v := 0) G dX7_isTerm_13 (by decide) ?_
    obtain ⟨r2, e2, h⟩ := obind h
    refine z_kR (As := [.int 0]) (rest := []) (st' := [.int r2]) G pk_X7_there pv_X7_there ml_X7_129 (c_X7_there (ta := ta) (t_thrown := t_thrown) (t_told := t_told) (t_row := t_row) (t_tape := t_tape) (t_taped := t_taped) (t_at := t_at) (t_to := t_to) (t_mem := t_mem) (t_undos := t_undos) (t_places := t_places) (t_movers := t_movers) (t_far := t_far) (t_way := t_way) (t_wayMany := t_wayMany) (t_fromOf := t_fromOf) (t_toOf := t_toOf) (t_longest := t_longest) (t_wayCount := t_wayCount) (t_thin := t_thin) (t_ahead := t_ahead) (t_tried := t_tried) (t_foundLow := t_foundLow) (t_foundHigh := t_foundHigh) (t_nextLow := t_nextLow) (t_nextHigh := t_nextHigh) (t_act := t_act) (t_first := t_first) (t_second := t_second) (t_random := t_random) (t_isKept := t_isKept) (p1 := 0) e2) ⟨rfl, rfl⟩ ⟨Nat.le_of_ble_eq_true rfl, Nat.le_of_ble_eq_true rfl⟩ ⟨Nat.zero_le _, Nat.zero_le _⟩ rfl rfl (Nat.le_of_ble_eq_true rfl) 0 7 rfl rfl rfl [0, 1, 2, 3, 4, 5, 6, 7, 8, 9, 10, 11, 12, 13, 14, 15, 16, 17] rfl rfl rfl dX7_isTerm_14 (fun z3 => ?_)
    refine z_iload_n G dX7_isTerm_17 rfl 1 rfl ?_
    refine z_kS (As := [.int r2, .int p1]) (rest := []) (st' := [.int (f_X7_has r2 p1)]) G pk_X7_has ps_X7_has ml_X7_133 (c_X7_has (p0 := r2) (p1 := p1) rfl) ⟨rfl, rfl⟩ ⟨Nat.le_of_ble_eq_true rfl, Nat.le_of_ble_eq_true rfl⟩ ⟨Nat.zero_le _, Nat.zero_le _⟩ rfl rfl (Nat.le_of_ble_eq_true rfl) rfl dX7_isTerm_18 (fun z4 => ?_)
    refine z_if_eq (tgt := 28) G dX7_isTerm_21 (by decide) h (fun h => ?_) (fun h => ?_)
    · refine z_iconst (v := 0) G dX7_isTerm_28 (by decide) ?_
      obtain rfl := Option.some.inj h
      exact z_zret G rfl zn0 dX7_isTerm_29 rfl zn0 rfl
    · refine z_iconst (v := 1) G dX7_isTerm_24 (by decide) ?_
      refine z_goto (tgt := 29) G dX7_isTerm_25 (by decide) ?_
      obtain rfl := Option.some.inj h
      exact z_zret G rfl zn1 dX7_isTerm_29 rfl zn1 rfl

noncomputable def f_X7_isIn (t_mem : Nat → Int32) (p1 : Int32) (p2 : Int32) : Option (Int32) :=
  if (f_X7_in (p2.toInt64) 0 23) = 0 then some (0) else (f_X7_there t_mem p1).bind (fun r2 => if (f_X7_has r2 p2) = 0 then some (0) else some (1))
set_option maxRecDepth 100000 in
set_option maxHeartbeats 4000000 in
theorem c_X7_isIn {l : Launch} {dC : Nat → ClassId} {dI : Nat → Nat → Nat} {cI cJ cZ cN : ClassId} {ta : Nat → Nat} {t_thrown : Int32} {t_told : Int32} {t_row : Nat → Int64} {t_tape : Nat → Int32} {t_taped : Int32} {t_at : Int32} {t_to : Int32} {t_mem : Nat → Int32} {t_undos : Int32} {t_places : Nat → Int32} {t_movers : Nat → Int32} {t_far : Nat → Int32} {t_way : Nat → Int32} {t_wayMany : Int32} {t_fromOf : Nat → Int32} {t_toOf : Nat → Int32} {t_longest : Nat → Int32} {t_wayCount : Nat → Int64} {t_thin : Nat → Int32} {t_ahead : Nat → Int32} {t_tried : Int32} {t_foundLow : Int32} {t_foundHigh : Int32} {t_nextLow : Int32} {t_nextHigh : Int32} {t_act : Nat → Int32} {t_first : Nat → Int32} {t_second : Nat → Int32} {t_random : Int32} {t_isKept : Nat → Int32} {p1 : Int32} {p2 : Int32} {res : Int32} (h : f_X7_isIn t_mem p1 p2 = some res) : zM l yX7_isIn cX7_isIn 3 (some .boolean) ({ frames := 1, cells := 0, slots := 0, locals := 25 }) [.ref (ta 0), .int p1, .int p2] (dC, dI) vwCl (zT cI cJ cZ cN) (w_M cI cJ cZ cN ta t_thrown t_told t_row t_tape t_taped t_at t_to t_mem t_undos t_places t_movers t_far t_way t_wayMany t_fromOf t_toOf t_longest t_wayCount t_thin t_ahead t_tried t_foundLow t_foundHigh t_nextLow t_nextHigh t_act t_first t_second t_random t_isKept) (some (.int res)) (narrow .boolean (.int res) = .int res) (w_M cI cJ cZ cN ta t_thrown t_told t_row t_tape t_taped t_at t_to t_mem t_undos t_places t_movers t_far t_way t_wayMany t_fromOf t_toOf t_longest t_wayCount t_thin t_ahead t_tried t_foundLow t_foundHigh t_nextLow t_nextHigh t_act t_first t_second t_random t_isKept) := by
  refine zM_of (own := RX7) (by decide) rfl [(0, .ref (ta 0)), (1, .int p1), (2, .int p2)] (Nat.le_of_ble_eq_true rfl) rfl ?_
  intro p e s m args below meth c A G _
  unfold f_X7_isIn at h
  refine z_iload_n G dX7_isIn_0 rfl 2 rfl ?_
  refine z_i2l G dX7_isIn_1 ?_
  refine z_lconst (v := 0) G dX7_isIn_2 (by decide) ?_
  refine z_ldc2 (v := 23) G dX7_isIn_3 kc_X7_127 ?_
  refine z_kS (As := [.long (p2.toInt64), .long 0, .long 23]) (rest := []) (st' := [.int (f_X7_in (p2.toInt64) 0 23)]) G pk_X7_in ps_X7_in ml_X7_21 (c_X7_in (p0 := p2.toInt64) (p2 := 0) (p4 := 23) rfl) ⟨rfl, rfl⟩ ⟨Nat.le_of_ble_eq_true rfl, Nat.le_of_ble_eq_true rfl⟩ ⟨Nat.zero_le _, Nat.zero_le _⟩ rfl rfl (Nat.le_of_ble_eq_true rfl) rfl dX7_isIn_6 (fun z1 => ?_)
  refine z_if_eq (tgt := 28) G dX7_isIn_9 (by decide) h (fun h => ?_) (fun h => ?_)
  · refine z_iconst (v := 0) G dX7_isIn_28 (by decide) ?_
    obtain rfl := Option.some.inj h
    exact z_zret G rfl zn0 dX7_isIn_29 rfl zn0 rfl
  · refine z_aload_n G dX7_isIn_12 rfl 0 rfl ?_
    refine z_iload_n G dX7_isIn_13 rfl 1 rfl ?_
    obtain ⟨r2, e2, h⟩ := obind h
    refine z_kR (As := [.int p1]) (rest := []) (st' := [.int r2]) G pk_X7_there pv_X7_there ml_X7_129 (c_X7_there (ta := ta) (t_thrown := t_thrown) (t_told := t_told) (t_row := t_row) (t_tape := t_tape) (t_taped := t_taped) (t_at := t_at) (t_to := t_to) (t_mem := t_mem) (t_undos := t_undos) (t_places := t_places) (t_movers := t_movers) (t_far := t_far) (t_way := t_way) (t_wayMany := t_wayMany) (t_fromOf := t_fromOf) (t_toOf := t_toOf) (t_longest := t_longest) (t_wayCount := t_wayCount) (t_thin := t_thin) (t_ahead := t_ahead) (t_tried := t_tried) (t_foundLow := t_foundLow) (t_foundHigh := t_foundHigh) (t_nextLow := t_nextLow) (t_nextHigh := t_nextHigh) (t_act := t_act) (t_first := t_first) (t_second := t_second) (t_random := t_random) (t_isKept := t_isKept) (p1 := p1) e2) ⟨rfl, rfl⟩ ⟨Nat.le_of_ble_eq_true rfl, Nat.le_of_ble_eq_true rfl⟩ ⟨Nat.zero_le _, Nat.zero_le _⟩ rfl rfl (Nat.le_of_ble_eq_true rfl) 0 7 rfl rfl rfl [0, 1, 2, 3, 4, 5, 6, 7, 8, 9, 10, 11, 12, 13, 14, 15, 16, 17] rfl rfl rfl dX7_isIn_14 (fun z3 => ?_)
    refine z_iload_n G dX7_isIn_17 rfl 2 rfl ?_
    refine z_kS (As := [.int r2, .int p2]) (rest := []) (st' := [.int (f_X7_has r2 p2)]) G pk_X7_has ps_X7_has ml_X7_133 (c_X7_has (p0 := r2) (p1 := p2) rfl) ⟨rfl, rfl⟩ ⟨Nat.le_of_ble_eq_true rfl, Nat.le_of_ble_eq_true rfl⟩ ⟨Nat.zero_le _, Nat.zero_le _⟩ rfl rfl (Nat.le_of_ble_eq_true rfl) rfl dX7_isIn_18 (fun z4 => ?_)
    refine z_if_eq (tgt := 28) G dX7_isIn_21 (by decide) h (fun h => ?_) (fun h => ?_)
    · refine z_iconst (v := 0) G dX7_isIn_28 (by decide) ?_
      obtain rfl := Option.some.inj h
      exact z_zret G rfl zn0 dX7_isIn_29 rfl zn0 rfl
    · refine z_iconst (v := 1) G dX7_isIn_24 (by decide) ?_
      refine z_goto (tgt := 29) G dX7_isIn_25 (by decide) ?_
      obtain rfl := Option.some.inj h
      exact z_zret G rfl zn1 dX7_isIn_29 rfl zn1 rfl

noncomputable def f_X7_areTwo (t_mem : Nat → Int32) (p1 : Int32) (p2 : Int32) : Option (Int32) :=
  (f_X7_isTerm t_mem p1).bind (fun r1 => if r1 = 0 then some (0) else (f_X7_isTerm t_mem p2).bind (fun r3 => if r3 = 0 then some (0) else if p1 = p2 then some (0) else some (1)))
set_option maxRecDepth 100000 in
set_option maxHeartbeats 4000000 in
theorem c_X7_areTwo {l : Launch} {dC : Nat → ClassId} {dI : Nat → Nat → Nat} {cI cJ cZ cN : ClassId} {ta : Nat → Nat} {t_thrown : Int32} {t_told : Int32} {t_row : Nat → Int64} {t_tape : Nat → Int32} {t_taped : Int32} {t_at : Int32} {t_to : Int32} {t_mem : Nat → Int32} {t_undos : Int32} {t_places : Nat → Int32} {t_movers : Nat → Int32} {t_far : Nat → Int32} {t_way : Nat → Int32} {t_wayMany : Int32} {t_fromOf : Nat → Int32} {t_toOf : Nat → Int32} {t_longest : Nat → Int32} {t_wayCount : Nat → Int64} {t_thin : Nat → Int32} {t_ahead : Nat → Int32} {t_tried : Int32} {t_foundLow : Int32} {t_foundHigh : Int32} {t_nextLow : Int32} {t_nextHigh : Int32} {t_act : Nat → Int32} {t_first : Nat → Int32} {t_second : Nat → Int32} {t_random : Int32} {t_isKept : Nat → Int32} {p1 : Int32} {p2 : Int32} {res : Int32} (h : f_X7_areTwo t_mem p1 p2 = some res) : zM l yX7_areTwo cX7_areTwo 3 (some .boolean) ({ frames := 2, cells := 0, slots := 0, locals := 46 }) [.ref (ta 0), .int p1, .int p2] (dC, dI) vwCl (zT cI cJ cZ cN) (w_M cI cJ cZ cN ta t_thrown t_told t_row t_tape t_taped t_at t_to t_mem t_undos t_places t_movers t_far t_way t_wayMany t_fromOf t_toOf t_longest t_wayCount t_thin t_ahead t_tried t_foundLow t_foundHigh t_nextLow t_nextHigh t_act t_first t_second t_random t_isKept) (some (.int res)) (narrow .boolean (.int res) = .int res) (w_M cI cJ cZ cN ta t_thrown t_told t_row t_tape t_taped t_at t_to t_mem t_undos t_places t_movers t_far t_way t_wayMany t_fromOf t_toOf t_longest t_wayCount t_thin t_ahead t_tried t_foundLow t_foundHigh t_nextLow t_nextHigh t_act t_first t_second t_random t_isKept) := by
  refine zM_of (own := RX7) (by decide) rfl [(0, .ref (ta 0)), (1, .int p1), (2, .int p2)] (Nat.le_of_ble_eq_true rfl) rfl ?_
  intro p e s m args below meth c A G _
  unfold f_X7_areTwo at h
  refine z_aload_n G dX7_areTwo_0 rfl 0 rfl ?_
  refine z_iload_n G dX7_areTwo_1 rfl 1 rfl ?_
  obtain ⟨r1, e1, h⟩ := obind h
  refine z_kR (As := [.int p1]) (rest := []) (st' := [.int r1]) G pk_X7_isTerm pv_X7_isTerm ml_X7_137 (c_X7_isTerm (ta := ta) (t_thrown := t_thrown) (t_told := t_told) (t_row := t_row) (t_tape := t_tape) (t_taped := t_taped) (t_at := t_at) (t_to := t_to) (t_mem := t_mem) (t_undos := t_undos) (t_places := t_places) (t_movers := t_movers) (t_far := t_far) (t_way := t_way) (t_wayMany := t_wayMany) (t_fromOf := t_fromOf) (t_toOf := t_toOf) (t_longest := t_longest) (t_wayCount := t_wayCount) (t_thin := t_thin) (t_ahead := t_ahead) (t_tried := t_tried) (t_foundLow := t_foundLow) (t_foundHigh := t_foundHigh) (t_nextLow := t_nextLow) (t_nextHigh := t_nextHigh) (t_act := t_act) (t_first := t_first) (t_second := t_second) (t_random := t_random) (t_isKept := t_isKept) (p1 := p1) e1) ⟨rfl, rfl⟩ ⟨Nat.le_of_ble_eq_true rfl, Nat.le_of_ble_eq_true rfl⟩ ⟨Nat.zero_le _, Nat.zero_le _⟩ rfl rfl (Nat.le_of_ble_eq_true rfl) 0 7 rfl rfl rfl [0, 1, 2, 3, 4, 5, 6, 7, 8, 9, 10, 11, 12, 13, 14, 15, 16, 17] rfl rfl rfl dX7_areTwo_2 (fun z2 => ?_)
  refine z_if_eq (tgt := 25) G dX7_areTwo_5 (by decide) h (fun h => ?_) (fun h => ?_)
  · refine z_iconst (v := 0) G dX7_areTwo_25 (by decide) ?_
    obtain rfl := Option.some.inj h
    exact z_zret G rfl zn0 dX7_areTwo_26 rfl zn0 rfl
  · refine z_aload_n G dX7_areTwo_8 rfl 0 rfl ?_
    refine z_iload_n G dX7_areTwo_9 rfl 2 rfl ?_
    obtain ⟨r3, e3, h⟩ := obind h
    refine z_kR (As := [.int p2]) (rest := []) (st' := [.int r3]) G pk_X7_isTerm pv_X7_isTerm ml_X7_137 (c_X7_isTerm (ta := ta) (t_thrown := t_thrown) (t_told := t_told) (t_row := t_row) (t_tape := t_tape) (t_taped := t_taped) (t_at := t_at) (t_to := t_to) (t_mem := t_mem) (t_undos := t_undos) (t_places := t_places) (t_movers := t_movers) (t_far := t_far) (t_way := t_way) (t_wayMany := t_wayMany) (t_fromOf := t_fromOf) (t_toOf := t_toOf) (t_longest := t_longest) (t_wayCount := t_wayCount) (t_thin := t_thin) (t_ahead := t_ahead) (t_tried := t_tried) (t_foundLow := t_foundLow) (t_foundHigh := t_foundHigh) (t_nextLow := t_nextLow) (t_nextHigh := t_nextHigh) (t_act := t_act) (t_first := t_first) (t_second := t_second) (t_random := t_random) (t_isKept := t_isKept) (p1 := p2) e3) ⟨rfl, rfl⟩ ⟨Nat.le_of_ble_eq_true rfl, Nat.le_of_ble_eq_true rfl⟩ ⟨Nat.zero_le _, Nat.zero_le _⟩ rfl rfl (Nat.le_of_ble_eq_true rfl) 0 7 rfl rfl rfl [0, 1, 2, 3, 4, 5, 6, 7, 8, 9, 10, 11, 12, 13, 14, 15, 16, 17] rfl rfl rfl dX7_areTwo_10 (fun z4 => ?_)
    refine z_if_eq (tgt := 25) G dX7_areTwo_13 (by decide) h (fun h => ?_) (fun h => ?_)
    · refine z_iconst (v := 0) G dX7_areTwo_25 (by decide) ?_
      obtain rfl := Option.some.inj h
      exact z_zret G rfl zn0 dX7_areTwo_26 rfl zn0 rfl
    · refine z_iload_n G dX7_areTwo_16 rfl 1 rfl ?_
      refine z_iload_n G dX7_areTwo_17 rfl 2 rfl ?_
      refine z_icmp_eq (tgt := 25) G dX7_areTwo_18 (by decide) h (fun h => ?_) (fun h => ?_)
      · refine z_iconst (v := 0) G dX7_areTwo_25 (by decide) ?_
        obtain rfl := Option.some.inj h
        exact z_zret G rfl zn0 dX7_areTwo_26 rfl zn0 rfl
      · refine z_iconst (v := 1) G dX7_areTwo_21 (by decide) ?_
        refine z_goto (tgt := 26) G dX7_areTwo_22 (by decide) ?_
        obtain rfl := Option.some.inj h
        exact z_zret G rfl zn1 dX7_areTwo_26 rfl zn1 rfl

noncomputable def f_X7_narrower (t_mem : Nat → Int32) (p1 : Int32) (p2 : Int32) : Option (Int32) :=
  chk (inb (((p1 * 179) + 107) + p2) 2327) (some (t_mem (ix (((p1 * 179) + 107) + p2))))
set_option maxRecDepth 100000 in
set_option maxHeartbeats 4000000 in
theorem c_X7_narrower {l : Launch} {dC : Nat → ClassId} {dI : Nat → Nat → Nat} {cI cJ cZ cN : ClassId} {ta : Nat → Nat} {t_thrown : Int32} {t_told : Int32} {t_row : Nat → Int64} {t_tape : Nat → Int32} {t_taped : Int32} {t_at : Int32} {t_to : Int32} {t_mem : Nat → Int32} {t_undos : Int32} {t_places : Nat → Int32} {t_movers : Nat → Int32} {t_far : Nat → Int32} {t_way : Nat → Int32} {t_wayMany : Int32} {t_fromOf : Nat → Int32} {t_toOf : Nat → Int32} {t_longest : Nat → Int32} {t_wayCount : Nat → Int64} {t_thin : Nat → Int32} {t_ahead : Nat → Int32} {t_tried : Int32} {t_foundLow : Int32} {t_foundHigh : Int32} {t_nextLow : Int32} {t_nextHigh : Int32} {t_act : Nat → Int32} {t_first : Nat → Int32} {t_second : Nat → Int32} {t_random : Int32} {t_isKept : Nat → Int32} {p1 : Int32} {p2 : Int32} {res : Int32} (h : f_X7_narrower t_mem p1 p2 = some res) : zM l yX7_narrower cX7_narrower 3 (some .int) ({ frames := 0, cells := 0, slots := 0, locals := 0 }) [.ref (ta 0), .int p1, .int p2] (dC, dI) vwCl (zT cI cJ cZ cN) (w_M cI cJ cZ cN ta t_thrown t_told t_row t_tape t_taped t_at t_to t_mem t_undos t_places t_movers t_far t_way t_wayMany t_fromOf t_toOf t_longest t_wayCount t_thin t_ahead t_tried t_foundLow t_foundHigh t_nextLow t_nextHigh t_act t_first t_second t_random t_isKept) (some (.int res)) (True) (w_M cI cJ cZ cN ta t_thrown t_told t_row t_tape t_taped t_at t_to t_mem t_undos t_places t_movers t_far t_way t_wayMany t_fromOf t_toOf t_longest t_wayCount t_thin t_ahead t_tried t_foundLow t_foundHigh t_nextLow t_nextHigh t_act t_first t_second t_random t_isKept) := by
  refine zM_of (own := RX7) (by decide) rfl [(0, .ref (ta 0)), (1, .int p1), (2, .int p2)] (Nat.le_of_ble_eq_true rfl) rfl ?_
  intro p e s m args below meth c A G _
  unfold f_X7_narrower at h
  refine z_aload_n G dX7_narrower_0 rfl 0 rfl ?_
  refine z_get (ci := 7) (v := .ref (ta 3)) G in_X7 0 rfl rfl 7 (by decide) fl_X7_71 rfl dX7_narrower_1 ?_
  refine z_iload_n G dX7_narrower_4 rfl 1 rfl ?_
  refine z_sipush (v := 179) G dX7_narrower_5 (by decide) ?_
  refine z_imul G dX7_narrower_8 ?_
  refine z_bipush (v := 107) G dX7_narrower_9 (by decide) ?_
  refine z_iadd G dX7_narrower_11 ?_
  refine z_iload_n G dX7_narrower_12 rfl 2 rfl ?_
  refine z_iadd G dX7_narrower_13 ?_
  refine z_iaload G 3 0 rfl rfl dX7_narrower_14 h (fun h => ?_)
  obtain rfl := Option.some.inj h
  exact z_iret G rfl dX7_narrower_15 rfl trivial rfl

noncomputable def f_X7_broader_b42 (t_mem : Nat → Int32) (p1 : Int32) (p2 : Int32) (k5 : Int32 → Int32 → Option (Int32)) (x4 : Int32) (s0 : Int32) (s1 : Int32) : Option (Int32) :=
  k5 (s0 ||| (jshl (f_X7_flag s1) x4)) (x4 + 1)
set_option maxRecDepth 100000 in
set_option maxHeartbeats 4000000 in
theorem zb_X7_broader_42 {p : Program} {l : Launch} {e : Env} {s : State} {m : MethodId} {args : Array Value} {below : List Frame} {meth : Method} {c : Code} {A : Nat → Prop} {dC : Nat → ClassId} {dI : Nat → Nat → Nat} {cI cJ cZ cN : ClassId} {ta : Nat → Nat} {t_thrown : Int32} {t_told : Int32} {t_row : Nat → Int64} {t_tape : Nat → Int32} {t_taped : Int32} {t_at : Int32} {t_to : Int32} {t_mem : Nat → Int32} {t_undos : Int32} {t_places : Nat → Int32} {t_movers : Nat → Int32} {t_far : Nat → Int32} {t_way : Nat → Int32} {t_wayMany : Int32} {t_fromOf : Nat → Int32} {t_toOf : Nat → Int32} {t_longest : Nat → Int32} {t_wayCount : Nat → Int64} {t_thin : Nat → Int32} {t_ahead : Nat → Int32} {t_tried : Int32} {t_foundLow : Int32} {t_foundHigh : Int32} {t_nextLow : Int32} {t_nextHigh : Int32} {t_act : Nat → Int32} {t_first : Nat → Int32} {t_second : Nat → Int32} {t_random : Int32} {t_isKept : Nat → Int32} {p1 : Int32} {p2 : Int32} {res : Int32} (G : zG p m c cX7_broader 5 s args RX7 (dC, dI) vwCl (zT cI cJ cZ cN) A meth (some .int)) {k5 : Int32 → Int32 → Option (Int32)} (hr5 : ∀ (x3 : Int32) (x4 : Int32), k5 x3 x4 = some res → Z p l e ({ frames := 2, cells := 0, slots := 0, locals := 47 }) s m args below meth c (dC, dI) vwCl A 5 0 0 (MQ below (zQ (some (.int res)) (True) (w_M cI cJ cZ cN ta t_thrown t_told t_row t_tape t_taped t_at t_to t_mem t_undos t_places t_movers t_far t_way t_wayMany t_fromOf t_toOf t_longest t_wayCount t_thin t_ahead t_tried t_foundLow t_foundHigh t_nextLow t_nextHigh t_act t_first t_second t_random t_isKept) (dC, dI) vwCl A) args s 0 0 A) (w_M cI cJ cZ cN ta t_thrown t_told t_row t_tape t_taped t_at t_to t_mem t_undos t_places t_movers t_far t_way t_wayMany t_fromOf t_toOf t_longest t_wayCount t_thin t_ahead t_tried t_foundLow t_foundHigh t_nextLow t_nextHigh t_act t_first t_second t_random t_isKept) [(0, .ref (ta 0)), (1, .int p1), (2, .int p2), (3, .int x3), (4, .int x4)] [] 5) : ∀ (x4 : Int32) (s0 : Int32) (s1 : Int32), f_X7_broader_b42 t_mem p1 p2 k5 x4 s0 s1 = some res → Z p l e ({ frames := 2, cells := 0, slots := 0, locals := 47 }) s m args below meth c (dC, dI) vwCl A 5 0 0 (MQ below (zQ (some (.int res)) (True) (w_M cI cJ cZ cN ta t_thrown t_told t_row t_tape t_taped t_at t_to t_mem t_undos t_places t_movers t_far t_way t_wayMany t_fromOf t_toOf t_longest t_wayCount t_thin t_ahead t_tried t_foundLow t_foundHigh t_nextLow t_nextHigh t_act t_first t_second t_random t_isKept) (dC, dI) vwCl A) args s 0 0 A) (w_M cI cJ cZ cN ta t_thrown t_told t_row t_tape t_taped t_at t_to t_mem t_undos t_places t_movers t_far t_way t_wayMany t_fromOf t_toOf t_longest t_wayCount t_thin t_ahead t_tried t_foundLow t_foundHigh t_nextLow t_nextHigh t_act t_first t_second t_random t_isKept) [(0, .ref (ta 0)), (1, .int p1), (2, .int p2), (4, .int x4)] [.int s1, .int s0] 42 := by
  intro x4 s0 s1 h
  unfold f_X7_broader_b42 at h
  refine z_kS (As := [.int s1]) (rest := [.int s0]) (st' := [.int (f_X7_flag s1), .int s0]) G pk_X7_flag ps_X7_flag ml_X7_45 (c_X7_flag (p0 := s1) rfl) ⟨rfl, rfl⟩ ⟨Nat.le_of_ble_eq_true rfl, Nat.le_of_ble_eq_true rfl⟩ ⟨Nat.zero_le _, Nat.zero_le _⟩ rfl rfl (Nat.le_of_ble_eq_true rfl) rfl dX7_broader_42 (fun z6 => ?_)
  refine z_iload G dX7_broader_45 3 rfl ?_
  refine z_ishl G dX7_broader_47 ?_
  refine z_ior G dX7_broader_48 ?_
  refine z_istore_n (lv' := [(0, .ref (ta 0)), (1, .int p1), (2, .int p2), (3, .int (s0 ||| (jshl (f_X7_flag s1) x4))), (4, .int x4)]) G dX7_broader_49 rfl (by decide) [1, 2, 3, 0, 4] rfl ?_
  refine z_iinc (v := x4 + 1) (lv' := [(0, .ref (ta 0)), (1, .int p1), (2, .int p2), (3, .int (s0 ||| (jshl (f_X7_flag s1) x4))), (4, .int (x4 + 1))]) G dX7_broader_50 4 rfl rfl (by decide) [1, 2, 3, 4, 0] rfl ?_
  refine z_goto (tgt := 5) G dX7_broader_53 (by decide) ?_
  exact hr5 (s0 ||| (jshl (f_X7_flag s1) x4)) (x4 + 1) h
noncomputable def f_X7_broader_b41 (t_mem : Nat → Int32) (p1 : Int32) (p2 : Int32) (k5 : Int32 → Int32 → Option (Int32)) (x4 : Int32) (s0 : Int32) : Option (Int32) :=
  f_X7_broader_b42 t_mem p1 p2 k5 x4 s0 0
set_option maxRecDepth 100000 in
set_option maxHeartbeats 4000000 in
theorem zb_X7_broader_41 {p : Program} {l : Launch} {e : Env} {s : State} {m : MethodId} {args : Array Value} {below : List Frame} {meth : Method} {c : Code} {A : Nat → Prop} {dC : Nat → ClassId} {dI : Nat → Nat → Nat} {cI cJ cZ cN : ClassId} {ta : Nat → Nat} {t_thrown : Int32} {t_told : Int32} {t_row : Nat → Int64} {t_tape : Nat → Int32} {t_taped : Int32} {t_at : Int32} {t_to : Int32} {t_mem : Nat → Int32} {t_undos : Int32} {t_places : Nat → Int32} {t_movers : Nat → Int32} {t_far : Nat → Int32} {t_way : Nat → Int32} {t_wayMany : Int32} {t_fromOf : Nat → Int32} {t_toOf : Nat → Int32} {t_longest : Nat → Int32} {t_wayCount : Nat → Int64} {t_thin : Nat → Int32} {t_ahead : Nat → Int32} {t_tried : Int32} {t_foundLow : Int32} {t_foundHigh : Int32} {t_nextLow : Int32} {t_nextHigh : Int32} {t_act : Nat → Int32} {t_first : Nat → Int32} {t_second : Nat → Int32} {t_random : Int32} {t_isKept : Nat → Int32} {p1 : Int32} {p2 : Int32} {res : Int32} (G : zG p m c cX7_broader 5 s args RX7 (dC, dI) vwCl (zT cI cJ cZ cN) A meth (some .int)) {k5 : Int32 → Int32 → Option (Int32)} (hr5 : ∀ (x3 : Int32) (x4 : Int32), k5 x3 x4 = some res → Z p l e ({ frames := 2, cells := 0, slots := 0, locals := 47 }) s m args below meth c (dC, dI) vwCl A 5 0 0 (MQ below (zQ (some (.int res)) (True) (w_M cI cJ cZ cN ta t_thrown t_told t_row t_tape t_taped t_at t_to t_mem t_undos t_places t_movers t_far t_way t_wayMany t_fromOf t_toOf t_longest t_wayCount t_thin t_ahead t_tried t_foundLow t_foundHigh t_nextLow t_nextHigh t_act t_first t_second t_random t_isKept) (dC, dI) vwCl A) args s 0 0 A) (w_M cI cJ cZ cN ta t_thrown t_told t_row t_tape t_taped t_at t_to t_mem t_undos t_places t_movers t_far t_way t_wayMany t_fromOf t_toOf t_longest t_wayCount t_thin t_ahead t_tried t_foundLow t_foundHigh t_nextLow t_nextHigh t_act t_first t_second t_random t_isKept) [(0, .ref (ta 0)), (1, .int p1), (2, .int p2), (3, .int x3), (4, .int x4)] [] 5) : ∀ (x4 : Int32) (s0 : Int32), f_X7_broader_b41 t_mem p1 p2 k5 x4 s0 = some res → Z p l e ({ frames := 2, cells := 0, slots := 0, locals := 47 }) s m args below meth c (dC, dI) vwCl A 5 0 0 (MQ below (zQ (some (.int res)) (True) (w_M cI cJ cZ cN ta t_thrown t_told t_row t_tape t_taped t_at t_to t_mem t_undos t_places t_movers t_far t_way t_wayMany t_fromOf t_toOf t_longest t_wayCount t_thin t_ahead t_tried t_foundLow t_foundHigh t_nextLow t_nextHigh t_act t_first t_second t_random t_isKept) (dC, dI) vwCl A) args s 0 0 A) (w_M cI cJ cZ cN ta t_thrown t_told t_row t_tape t_taped t_at t_to t_mem t_undos t_places t_movers t_far t_way t_wayMany t_fromOf t_toOf t_longest t_wayCount t_thin t_ahead t_tried t_foundLow t_foundHigh t_nextLow t_nextHigh t_act t_first t_second t_random t_isKept) [(0, .ref (ta 0)), (1, .int p1), (2, .int p2), (4, .int x4)] [.int s0] 41 := by
  intro x4 s0 h
  unfold f_X7_broader_b41 at h
  refine z_iconst (v := 0) G dX7_broader_41 (by decide) ?_
  exact zb_X7_broader_42 G hr5 x4 s0 0 h
noncomputable def f_X7_broader_b5 (t_mem : Nat → Int32) (p1 : Int32) (p2 : Int32) (k5 : Int32 → Int32 → Option (Int32)) (x3 : Int32) (x4 : Int32) : Option (Int32) :=
  if 24 ≤ x4 then some (x3) else (f_X7_isIn t_mem p1 x4).bind (fun r1 => if r1 = 0 then f_X7_broader_b41 t_mem p1 p2 k5 x4 x3 else (f_X7_narrower t_mem p1 x4).bind (fun r3 => if (f_X7_has r3 p2) = 0 then f_X7_broader_b41 t_mem p1 p2 k5 x4 x3 else f_X7_broader_b42 t_mem p1 p2 k5 x4 x3 1))
set_option maxRecDepth 100000 in
set_option maxHeartbeats 4000000 in
theorem zb_X7_broader_5 {p : Program} {l : Launch} {e : Env} {s : State} {m : MethodId} {args : Array Value} {below : List Frame} {meth : Method} {c : Code} {A : Nat → Prop} {dC : Nat → ClassId} {dI : Nat → Nat → Nat} {cI cJ cZ cN : ClassId} {ta : Nat → Nat} {t_thrown : Int32} {t_told : Int32} {t_row : Nat → Int64} {t_tape : Nat → Int32} {t_taped : Int32} {t_at : Int32} {t_to : Int32} {t_mem : Nat → Int32} {t_undos : Int32} {t_places : Nat → Int32} {t_movers : Nat → Int32} {t_far : Nat → Int32} {t_way : Nat → Int32} {t_wayMany : Int32} {t_fromOf : Nat → Int32} {t_toOf : Nat → Int32} {t_longest : Nat → Int32} {t_wayCount : Nat → Int64} {t_thin : Nat → Int32} {t_ahead : Nat → Int32} {t_tried : Int32} {t_foundLow : Int32} {t_foundHigh : Int32} {t_nextLow : Int32} {t_nextHigh : Int32} {t_act : Nat → Int32} {t_first : Nat → Int32} {t_second : Nat → Int32} {t_random : Int32} {t_isKept : Nat → Int32} {p1 : Int32} {p2 : Int32} {res : Int32} (G : zG p m c cX7_broader 5 s args RX7 (dC, dI) vwCl (zT cI cJ cZ cN) A meth (some .int)) {k5 : Int32 → Int32 → Option (Int32)} (hr5 : ∀ (x3 : Int32) (x4 : Int32), k5 x3 x4 = some res → Z p l e ({ frames := 2, cells := 0, slots := 0, locals := 47 }) s m args below meth c (dC, dI) vwCl A 5 0 0 (MQ below (zQ (some (.int res)) (True) (w_M cI cJ cZ cN ta t_thrown t_told t_row t_tape t_taped t_at t_to t_mem t_undos t_places t_movers t_far t_way t_wayMany t_fromOf t_toOf t_longest t_wayCount t_thin t_ahead t_tried t_foundLow t_foundHigh t_nextLow t_nextHigh t_act t_first t_second t_random t_isKept) (dC, dI) vwCl A) args s 0 0 A) (w_M cI cJ cZ cN ta t_thrown t_told t_row t_tape t_taped t_at t_to t_mem t_undos t_places t_movers t_far t_way t_wayMany t_fromOf t_toOf t_longest t_wayCount t_thin t_ahead t_tried t_foundLow t_foundHigh t_nextLow t_nextHigh t_act t_first t_second t_random t_isKept) [(0, .ref (ta 0)), (1, .int p1), (2, .int p2), (3, .int x3), (4, .int x4)] [] 5) : ∀ (x3 : Int32) (x4 : Int32), f_X7_broader_b5 t_mem p1 p2 k5 x3 x4 = some res → Z p l e ({ frames := 2, cells := 0, slots := 0, locals := 47 }) s m args below meth c (dC, dI) vwCl A 5 0 0 (MQ below (zQ (some (.int res)) (True) (w_M cI cJ cZ cN ta t_thrown t_told t_row t_tape t_taped t_at t_to t_mem t_undos t_places t_movers t_far t_way t_wayMany t_fromOf t_toOf t_longest t_wayCount t_thin t_ahead t_tried t_foundLow t_foundHigh t_nextLow t_nextHigh t_act t_first t_second t_random t_isKept) (dC, dI) vwCl A) args s 0 0 A) (w_M cI cJ cZ cN ta t_thrown t_told t_row t_tape t_taped t_at t_to t_mem t_undos t_places t_movers t_far t_way t_wayMany t_fromOf t_toOf t_longest t_wayCount t_thin t_ahead t_tried t_foundLow t_foundHigh t_nextLow t_nextHigh t_act t_first t_second t_random t_isKept) [(0, .ref (ta 0)), (1, .int p1), (2, .int p2), (3, .int x3), (4, .int x4)] [] 5 := by
  intro x3 x4 h
  unfold f_X7_broader_b5 at h
  refine z_iload G dX7_broader_5 4 rfl ?_
  refine z_bipush (v := 24) G dX7_broader_7 (by decide) ?_
  refine z_icmp_ge (tgt := 56) G dX7_broader_9 (by decide) h (fun h => ?_) (fun h => ?_)
  · refine z_iload_n G dX7_broader_56 rfl 3 rfl ?_
    obtain rfl := Option.some.inj h
    exact z_iret G rfl dX7_broader_57 rfl trivial rfl
  · refine z_iload_n G dX7_broader_12 rfl 3 rfl ?_
    refine z_aload_n G dX7_broader_13 rfl 0 rfl ?_
    refine z_iload_n G dX7_broader_14 rfl 1 rfl ?_
    refine z_iload G dX7_broader_15 4 rfl ?_
    obtain ⟨r1, e1, h⟩ := obind h
    refine z_kR (As := [.int p1, .int x4]) (rest := [.int x3]) (st' := [.int r1, .int x3]) G pk_X7_isIn pv_X7_isIn ml_X7_140 (c_X7_isIn (ta := ta) (t_thrown := t_thrown) (t_told := t_told) (t_row := t_row) (t_tape := t_tape) (t_taped := t_taped) (t_at := t_at) (t_to := t_to) (t_mem := t_mem) (t_undos := t_undos) (t_places := t_places) (t_movers := t_movers) (t_far := t_far) (t_way := t_way) (t_wayMany := t_wayMany) (t_fromOf := t_fromOf) (t_toOf := t_toOf) (t_longest := t_longest) (t_wayCount := t_wayCount) (t_thin := t_thin) (t_ahead := t_ahead) (t_tried := t_tried) (t_foundLow := t_foundLow) (t_foundHigh := t_foundHigh) (t_nextLow := t_nextLow) (t_nextHigh := t_nextHigh) (t_act := t_act) (t_first := t_first) (t_second := t_second) (t_random := t_random) (t_isKept := t_isKept) (p1 := p1) (p2 := x4) e1) ⟨rfl, rfl⟩ ⟨Nat.le_of_ble_eq_true rfl, Nat.le_of_ble_eq_true rfl⟩ ⟨Nat.zero_le _, Nat.zero_le _⟩ rfl rfl (Nat.le_of_ble_eq_true rfl) 0 7 rfl rfl rfl [0, 1, 2, 3, 4, 5, 6, 7, 8, 9, 10, 11, 12, 13, 14, 15, 16, 17] rfl rfl rfl dX7_broader_17 (fun z2 => ?_)
    refine z_if_eq (tgt := 41) G dX7_broader_20 (by decide) h (fun h => ?_) (fun h => ?_)
    · refine z_lv [0, 1, 2, 4] rfl ?_
      exact zb_X7_broader_41 G hr5 x4 x3 h
    · refine z_aload_n G dX7_broader_23 rfl 0 rfl ?_
      refine z_iload_n G dX7_broader_24 rfl 1 rfl ?_
      refine z_iload G dX7_broader_25 4 rfl ?_
      obtain ⟨r3, e3, h⟩ := obind h
      refine z_kR (As := [.int p1, .int x4]) (rest := [.int x3]) (st' := [.int r3, .int x3]) G pk_X7_narrower pv_X7_narrower ml_X7_143 (c_X7_narrower (ta := ta) (t_thrown := t_thrown) (t_told := t_told) (t_row := t_row) (t_tape := t_tape) (t_taped := t_taped) (t_at := t_at) (t_to := t_to) (t_mem := t_mem) (t_undos := t_undos) (t_places := t_places) (t_movers := t_movers) (t_far := t_far) (t_way := t_way) (t_wayMany := t_wayMany) (t_fromOf := t_fromOf) (t_toOf := t_toOf) (t_longest := t_longest) (t_wayCount := t_wayCount) (t_thin := t_thin) (t_ahead := t_ahead) (t_tried := t_tried) (t_foundLow := t_foundLow) (t_foundHigh := t_foundHigh) (t_nextLow := t_nextLow) (t_nextHigh := t_nextHigh) (t_act := t_act) (t_first := t_first) (t_second := t_second) (t_random := t_random) (t_isKept := t_isKept) (p1 := p1) (p2 := x4) e3) ⟨rfl, rfl⟩ ⟨Nat.le_of_ble_eq_true rfl, Nat.le_of_ble_eq_true rfl⟩ ⟨Nat.zero_le _, Nat.zero_le _⟩ rfl rfl (Nat.le_of_ble_eq_true rfl) 0 7 rfl rfl rfl [0, 1, 2, 3, 4, 5, 6, 7, 8, 9, 10, 11, 12, 13, 14, 15, 16, 17] rfl rfl rfl dX7_broader_27 (fun z4 => ?_)
      refine z_iload_n G dX7_broader_30 rfl 2 rfl ?_
      refine z_kS (As := [.int r3, .int p2]) (rest := [.int x3]) (st' := [.int (f_X7_has r3 p2), .int x3]) G pk_X7_has ps_X7_has ml_X7_133 (c_X7_has (p0 := r3) (p1 := p2) rfl) ⟨rfl, rfl⟩ ⟨Nat.le_of_ble_eq_true rfl, Nat.le_of_ble_eq_true rfl⟩ ⟨Nat.zero_le _, Nat.zero_le _⟩ rfl rfl (Nat.le_of_ble_eq_true rfl) rfl dX7_broader_31 (fun z5 => ?_)
      refine z_if_eq (tgt := 41) G dX7_broader_34 (by decide) h (fun h => ?_) (fun h => ?_)
      · refine z_lv [0, 1, 2, 4] rfl ?_
        exact zb_X7_broader_41 G hr5 x4 x3 h
      · refine z_iconst (v := 1) G dX7_broader_37 (by decide) ?_
        refine z_goto (tgt := 42) G dX7_broader_38 (by decide) ?_
        refine z_lv [0, 1, 2, 4] rfl ?_
        exact zb_X7_broader_42 G hr5 x4 x3 1 h
noncomputable def f_X7_broader_l5 (t_mem : Nat → Int32) (p1 : Int32) (p2 : Int32)  (x3 : Int32) (x4 : Int32) : Option (Int32) := loopN (V := Int32 × Int32) (fun rc v => f_X7_broader_b5 t_mem p1 p2  (fun x0_ x1_ => rc (x0_, x1_)) v.1 v.2) 200 (x3, x4)
set_option maxRecDepth 100000 in
set_option maxHeartbeats 4000000 in
theorem zl_X7_broader_5 {p : Program} {l : Launch} {e : Env} {s : State} {m : MethodId} {args : Array Value} {below : List Frame} {meth : Method} {c : Code} {A : Nat → Prop} {dC : Nat → ClassId} {dI : Nat → Nat → Nat} {cI cJ cZ cN : ClassId} {ta : Nat → Nat} {t_thrown : Int32} {t_told : Int32} {t_row : Nat → Int64} {t_tape : Nat → Int32} {t_taped : Int32} {t_at : Int32} {t_to : Int32} {t_mem : Nat → Int32} {t_undos : Int32} {t_places : Nat → Int32} {t_movers : Nat → Int32} {t_far : Nat → Int32} {t_way : Nat → Int32} {t_wayMany : Int32} {t_fromOf : Nat → Int32} {t_toOf : Nat → Int32} {t_longest : Nat → Int32} {t_wayCount : Nat → Int64} {t_thin : Nat → Int32} {t_ahead : Nat → Int32} {t_tried : Int32} {t_foundLow : Int32} {t_foundHigh : Int32} {t_nextLow : Int32} {t_nextHigh : Int32} {t_act : Nat → Int32} {t_first : Nat → Int32} {t_second : Nat → Int32} {t_random : Int32} {t_isKept : Nat → Int32} {p1 : Int32} {p2 : Int32} {res : Int32} (G : zG p m c cX7_broader 5 s args RX7 (dC, dI) vwCl (zT cI cJ cZ cN) A meth (some .int))  : ∀ (x3 : Int32) (x4 : Int32), f_X7_broader_l5 t_mem p1 p2  x3 x4 = some res → Z p l e ({ frames := 2, cells := 0, slots := 0, locals := 47 }) s m args below meth c (dC, dI) vwCl A 5 0 0 (MQ below (zQ (some (.int res)) (True) (w_M cI cJ cZ cN ta t_thrown t_told t_row t_tape t_taped t_at t_to t_mem t_undos t_places t_movers t_far t_way t_wayMany t_fromOf t_toOf t_longest t_wayCount t_thin t_ahead t_tried t_foundLow t_foundHigh t_nextLow t_nextHigh t_act t_first t_second t_random t_isKept) (dC, dI) vwCl A) args s 0 0 A) (w_M cI cJ cZ cN ta t_thrown t_told t_row t_tape t_taped t_at t_to t_mem t_undos t_places t_movers t_far t_way t_wayMany t_fromOf t_toOf t_longest t_wayCount t_thin t_ahead t_tried t_foundLow t_foundHigh t_nextLow t_nextHigh t_act t_first t_second t_random t_isKept) [(0, .ref (ta 0)), (1, .int p1), (2, .int p2), (3, .int x3), (4, .int x4)] [] 5 := by
  intro x3 x4 h
  exact zloop (P := fun v => Z p l e ({ frames := 2, cells := 0, slots := 0, locals := 47 }) s m args below meth c (dC, dI) vwCl A 5 0 0 (MQ below (zQ (some (.int res)) (True) (w_M cI cJ cZ cN ta t_thrown t_told t_row t_tape t_taped t_at t_to t_mem t_undos t_places t_movers t_far t_way t_wayMany t_fromOf t_toOf t_longest t_wayCount t_thin t_ahead t_tried t_foundLow t_foundHigh t_nextLow t_nextHigh t_act t_first t_second t_random t_isKept) (dC, dI) vwCl A) args s 0 0 A) (w_M cI cJ cZ cN ta t_thrown t_told t_row t_tape t_taped t_at t_to t_mem t_undos t_places t_movers t_far t_way t_wayMany t_fromOf t_toOf t_longest t_wayCount t_thin t_ahead t_tried t_foundLow t_foundHigh t_nextLow t_nextHigh t_act t_first t_second t_random t_isKept) [(0, .ref (ta 0)), (1, .int p1), (2, .int p2), (3, .int v.1), (4, .int v.2)] [] 5) (fun rc hr v h => zb_X7_broader_5 G  (fun x0_ x1_ h => hr (x0_, x1_) h) v.1 v.2 h) 200 (x3, x4) h
noncomputable def f_X7_broader (t_mem : Nat → Int32) (p1 : Int32) (p2 : Int32) : Option (Int32) :=
  f_X7_broader_l5 t_mem p1 p2  0 0
set_option maxRecDepth 100000 in
set_option maxHeartbeats 4000000 in
theorem c_X7_broader {l : Launch} {dC : Nat → ClassId} {dI : Nat → Nat → Nat} {cI cJ cZ cN : ClassId} {ta : Nat → Nat} {t_thrown : Int32} {t_told : Int32} {t_row : Nat → Int64} {t_tape : Nat → Int32} {t_taped : Int32} {t_at : Int32} {t_to : Int32} {t_mem : Nat → Int32} {t_undos : Int32} {t_places : Nat → Int32} {t_movers : Nat → Int32} {t_far : Nat → Int32} {t_way : Nat → Int32} {t_wayMany : Int32} {t_fromOf : Nat → Int32} {t_toOf : Nat → Int32} {t_longest : Nat → Int32} {t_wayCount : Nat → Int64} {t_thin : Nat → Int32} {t_ahead : Nat → Int32} {t_tried : Int32} {t_foundLow : Int32} {t_foundHigh : Int32} {t_nextLow : Int32} {t_nextHigh : Int32} {t_act : Nat → Int32} {t_first : Nat → Int32} {t_second : Nat → Int32} {t_random : Int32} {t_isKept : Nat → Int32} {p1 : Int32} {p2 : Int32} {res : Int32} (h : f_X7_broader t_mem p1 p2 = some res) : zM l yX7_broader cX7_broader 5 (some .int) ({ frames := 2, cells := 0, slots := 0, locals := 47 }) [.ref (ta 0), .int p1, .int p2] (dC, dI) vwCl (zT cI cJ cZ cN) (w_M cI cJ cZ cN ta t_thrown t_told t_row t_tape t_taped t_at t_to t_mem t_undos t_places t_movers t_far t_way t_wayMany t_fromOf t_toOf t_longest t_wayCount t_thin t_ahead t_tried t_foundLow t_foundHigh t_nextLow t_nextHigh t_act t_first t_second t_random t_isKept) (some (.int res)) (True) (w_M cI cJ cZ cN ta t_thrown t_told t_row t_tape t_taped t_at t_to t_mem t_undos t_places t_movers t_far t_way t_wayMany t_fromOf t_toOf t_longest t_wayCount t_thin t_ahead t_tried t_foundLow t_foundHigh t_nextLow t_nextHigh t_act t_first t_second t_random t_isKept) := by
  refine zM_of (own := RX7) (by decide) rfl [(0, .ref (ta 0)), (1, .int p1), (2, .int p2)] (Nat.le_of_ble_eq_true rfl) rfl ?_
  intro p e s m args below meth c A G _
  unfold f_X7_broader at h
  refine z_iconst (v := 0) G dX7_broader_0 (by decide) ?_
  refine z_istore_n (lv' := [(0, .ref (ta 0)), (1, .int p1), (2, .int p2), (3, .int 0)]) G dX7_broader_1 rfl (by decide) [1, 2, 3, 0] rfl ?_
  refine z_iconst (v := 0) G dX7_broader_2 (by decide) ?_
  refine z_istore (lv' := [(0, .ref (ta 0)), (1, .int p1), (2, .int p2), (3, .int 0), (4, .int 0)]) G dX7_broader_3 (by decide) [1, 2, 3, 4, 0] rfl ?_
  exact zl_X7_broader_5 G  0 0 h

noncomputable def f_X7_reach_b22 (t_mem : Nat → Int32) (p1 : Int32) (p2 : Int32) (p3 : Int32) (k8 : Int32 → Int32 → Option (Int32)) (k22 : Int32 → Int32 → Int32 → Option (Int32)) (x4 : Int32) (x5 : Int32) (x6 : Int32) : Option (Int32) :=
  if 24 ≤ x6 then k8 x4 x5 else if (f_X7_has x5 x6) = 0 then k22 x4 x5 (x6 + 1) else if p3 = 0 then (f_X7_broader t_mem p1 x6).bind (fun r2 => k22 (x4 ||| r2) x5 (x6 + 1)) else (f_X7_narrower t_mem p1 x6).bind (fun r4 => k22 (x4 ||| r4) x5 (x6 + 1))
set_option maxRecDepth 100000 in
set_option maxHeartbeats 4000000 in
theorem zb_X7_reach_22 {p : Program} {l : Launch} {e : Env} {s : State} {m : MethodId} {args : Array Value} {below : List Frame} {meth : Method} {c : Code} {A : Nat → Prop} {dC : Nat → ClassId} {dI : Nat → Nat → Nat} {cI cJ cZ cN : ClassId} {ta : Nat → Nat} {t_thrown : Int32} {t_told : Int32} {t_row : Nat → Int64} {t_tape : Nat → Int32} {t_taped : Int32} {t_at : Int32} {t_to : Int32} {t_mem : Nat → Int32} {t_undos : Int32} {t_places : Nat → Int32} {t_movers : Nat → Int32} {t_far : Nat → Int32} {t_way : Nat → Int32} {t_wayMany : Int32} {t_fromOf : Nat → Int32} {t_toOf : Nat → Int32} {t_longest : Nat → Int32} {t_wayCount : Nat → Int64} {t_thin : Nat → Int32} {t_ahead : Nat → Int32} {t_tried : Int32} {t_foundLow : Int32} {t_foundHigh : Int32} {t_nextLow : Int32} {t_nextHigh : Int32} {t_act : Nat → Int32} {t_first : Nat → Int32} {t_second : Nat → Int32} {t_random : Int32} {t_isKept : Nat → Int32} {p1 : Int32} {p2 : Int32} {p3 : Int32} {res : Int32} (G : zG p m c cX7_reach 7 s args RX7 (dC, dI) vwCl (zT cI cJ cZ cN) A meth (some .int)) {k8 : Int32 → Int32 → Option (Int32)} (hr8 : ∀ (x4 : Int32) (x5 : Int32), k8 x4 x5 = some res → Z p l e ({ frames := 3, cells := 0, slots := 0, locals := 71 }) s m args below meth c (dC, dI) vwCl A 7 0 0 (MQ below (zQ (some (.int res)) (True) (w_M cI cJ cZ cN ta t_thrown t_told t_row t_tape t_taped t_at t_to t_mem t_undos t_places t_movers t_far t_way t_wayMany t_fromOf t_toOf t_longest t_wayCount t_thin t_ahead t_tried t_foundLow t_foundHigh t_nextLow t_nextHigh t_act t_first t_second t_random t_isKept) (dC, dI) vwCl A) args s 0 0 A) (w_M cI cJ cZ cN ta t_thrown t_told t_row t_tape t_taped t_at t_to t_mem t_undos t_places t_movers t_far t_way t_wayMany t_fromOf t_toOf t_longest t_wayCount t_thin t_ahead t_tried t_foundLow t_foundHigh t_nextLow t_nextHigh t_act t_first t_second t_random t_isKept) [(0, .ref (ta 0)), (1, .int p1), (2, .int p2), (3, .int p3), (4, .int x4), (5, .int x5)] [] 8) {k22 : Int32 → Int32 → Int32 → Option (Int32)} (hr22 : ∀ (x4 : Int32) (x5 : Int32) (x6 : Int32), k22 x4 x5 x6 = some res → Z p l e ({ frames := 3, cells := 0, slots := 0, locals := 71 }) s m args below meth c (dC, dI) vwCl A 7 0 0 (MQ below (zQ (some (.int res)) (True) (w_M cI cJ cZ cN ta t_thrown t_told t_row t_tape t_taped t_at t_to t_mem t_undos t_places t_movers t_far t_way t_wayMany t_fromOf t_toOf t_longest t_wayCount t_thin t_ahead t_tried t_foundLow t_foundHigh t_nextLow t_nextHigh t_act t_first t_second t_random t_isKept) (dC, dI) vwCl A) args s 0 0 A) (w_M cI cJ cZ cN ta t_thrown t_told t_row t_tape t_taped t_at t_to t_mem t_undos t_places t_movers t_far t_way t_wayMany t_fromOf t_toOf t_longest t_wayCount t_thin t_ahead t_tried t_foundLow t_foundHigh t_nextLow t_nextHigh t_act t_first t_second t_random t_isKept) [(0, .ref (ta 0)), (1, .int p1), (2, .int p2), (3, .int p3), (4, .int x4), (5, .int x5), (6, .int x6)] [] 22) : ∀ (x4 : Int32) (x5 : Int32) (x6 : Int32), f_X7_reach_b22 t_mem p1 p2 p3 k8 k22 x4 x5 x6 = some res → Z p l e ({ frames := 3, cells := 0, slots := 0, locals := 71 }) s m args below meth c (dC, dI) vwCl A 7 0 0 (MQ below (zQ (some (.int res)) (True) (w_M cI cJ cZ cN ta t_thrown t_told t_row t_tape t_taped t_at t_to t_mem t_undos t_places t_movers t_far t_way t_wayMany t_fromOf t_toOf t_longest t_wayCount t_thin t_ahead t_tried t_foundLow t_foundHigh t_nextLow t_nextHigh t_act t_first t_second t_random t_isKept) (dC, dI) vwCl A) args s 0 0 A) (w_M cI cJ cZ cN ta t_thrown t_told t_row t_tape t_taped t_at t_to t_mem t_undos t_places t_movers t_far t_way t_wayMany t_fromOf t_toOf t_longest t_wayCount t_thin t_ahead t_tried t_foundLow t_foundHigh t_nextLow t_nextHigh t_act t_first t_second t_random t_isKept) [(0, .ref (ta 0)), (1, .int p1), (2, .int p2), (3, .int p3), (4, .int x4), (5, .int x5), (6, .int x6)] [] 22 := by
  intro x4 x5 x6 h
  unfold f_X7_reach_b22 at h
  refine z_iload G dX7_reach_22 6 rfl ?_
  refine z_bipush (v := 24) G dX7_reach_24 (by decide) ?_
  refine z_icmp_ge (tgt := 71) G dX7_reach_26 (by decide) h (fun h => ?_) (fun h => ?_)
  · refine z_goto (tgt := 8) G dX7_reach_71 (by decide) ?_
    refine z_lv [0, 1, 2, 3, 4, 5] rfl ?_
    exact hr8 x4 x5 h
  · refine z_iload G dX7_reach_29 5 rfl ?_
    refine z_iload G dX7_reach_31 6 rfl ?_
    refine z_kS (As := [.int x5, .int x6]) (rest := []) (st' := [.int (f_X7_has x5 x6)]) G pk_X7_has ps_X7_has ml_X7_133 (c_X7_has (p0 := x5) (p1 := x6) rfl) ⟨rfl, rfl⟩ ⟨Nat.le_of_ble_eq_true rfl, Nat.le_of_ble_eq_true rfl⟩ ⟨Nat.zero_le _, Nat.zero_le _⟩ rfl rfl (Nat.le_of_ble_eq_true rfl) rfl dX7_reach_33 (fun z1 => ?_)
    refine z_if_eq (tgt := 65) G dX7_reach_36 (by decide) h (fun h => ?_) (fun h => ?_)
    · refine z_iinc (v := x6 + 1) (lv' := [(0, .ref (ta 0)), (1, .int p1), (2, .int p2), (3, .int p3), (4, .int x4), (5, .int x5), (6, .int (x6 + 1))]) G dX7_reach_65 6 rfl rfl (by decide) [1, 2, 3, 4, 5, 6, 0] rfl ?_
      refine z_goto (tgt := 22) G dX7_reach_68 (by decide) ?_
      exact hr22 x4 x5 (x6 + 1) h
    · refine z_iload G dX7_reach_39 4 rfl ?_
      refine z_iload_n G dX7_reach_41 rfl 3 rfl ?_
      refine z_if_eq (tgt := 55) G dX7_reach_42 (by decide) h (fun h => ?_) (fun h => ?_)
      · refine z_aload_n G dX7_reach_55 rfl 0 rfl ?_
        refine z_iload_n G dX7_reach_56 rfl 1 rfl ?_
        refine z_iload G dX7_reach_57 6 rfl ?_
        obtain ⟨r2, e2, h⟩ := obind h
        refine z_kR (As := [.int p1, .int x6]) (rest := [.int x4]) (st' := [.int r2, .int x4]) G pk_X7_broader pv_X7_broader ml_X7_147 (c_X7_broader (ta := ta) (t_thrown := t_thrown) (t_told := t_told) (t_row := t_row) (t_tape := t_tape) (t_taped := t_taped) (t_at := t_at) (t_to := t_to) (t_mem := t_mem) (t_undos := t_undos) (t_places := t_places) (t_movers := t_movers) (t_far := t_far) (t_way := t_way) (t_wayMany := t_wayMany) (t_fromOf := t_fromOf) (t_toOf := t_toOf) (t_longest := t_longest) (t_wayCount := t_wayCount) (t_thin := t_thin) (t_ahead := t_ahead) (t_tried := t_tried) (t_foundLow := t_foundLow) (t_foundHigh := t_foundHigh) (t_nextLow := t_nextLow) (t_nextHigh := t_nextHigh) (t_act := t_act) (t_first := t_first) (t_second := t_second) (t_random := t_random) (t_isKept := t_isKept) (p1 := p1) (p2 := x6) e2) ⟨rfl, rfl⟩ ⟨Nat.le_of_ble_eq_true rfl, Nat.le_of_ble_eq_true rfl⟩ ⟨Nat.zero_le _, Nat.zero_le _⟩ rfl rfl (Nat.le_of_ble_eq_true rfl) 0 7 rfl rfl rfl [0, 1, 2, 3, 4, 5, 6, 7, 8, 9, 10, 11, 12, 13, 14, 15, 16, 17] rfl rfl rfl dX7_reach_59 (fun z3 => ?_)
        refine z_ior G dX7_reach_62 ?_
        refine z_istore (lv' := [(0, .ref (ta 0)), (1, .int p1), (2, .int p2), (3, .int p3), (4, .int (x4 ||| r2)), (5, .int x5), (6, .int x6)]) G dX7_reach_63 (by decide) [1, 2, 3, 4, 0, 5, 6] rfl ?_
        refine z_iinc (v := x6 + 1) (lv' := [(0, .ref (ta 0)), (1, .int p1), (2, .int p2), (3, .int p3), (4, .int (x4 ||| r2)), (5, .int x5), (6, .int (x6 + 1))]) G dX7_reach_65 6 rfl rfl (by decide) [1, 2, 3, 4, 5, 6, 0] rfl ?_
        refine z_goto (tgt := 22) G dX7_reach_68 (by decide) ?_
        exact hr22 (x4 ||| r2) x5 (x6 + 1) h
      · refine z_aload_n G dX7_reach_45 rfl 0 rfl ?_
        refine z_iload_n G dX7_reach_46 rfl 1 rfl ?_
        refine z_iload G dX7_reach_47 6 rfl ?_
        obtain ⟨r4, e4, h⟩ := obind h
        refine z_kR (As := [.int p1, .int x6]) (rest := [.int x4]) (st' := [.int r4, .int x4]) G pk_X7_narrower pv_X7_narrower ml_X7_143 (c_X7_narrower (ta := ta) (t_thrown := t_thrown) (t_told := t_told) (t_row := t_row) (t_tape := t_tape) (t_taped := t_taped) (t_at := t_at) (t_to := t_to) (t_mem := t_mem) (t_undos := t_undos) (t_places := t_places) (t_movers := t_movers) (t_far := t_far) (t_way := t_way) (t_wayMany := t_wayMany) (t_fromOf := t_fromOf) (t_toOf := t_toOf) (t_longest := t_longest) (t_wayCount := t_wayCount) (t_thin := t_thin) (t_ahead := t_ahead) (t_tried := t_tried) (t_foundLow := t_foundLow) (t_foundHigh := t_foundHigh) (t_nextLow := t_nextLow) (t_nextHigh := t_nextHigh) (t_act := t_act) (t_first := t_first) (t_second := t_second) (t_random := t_random) (t_isKept := t_isKept) (p1 := p1) (p2 := x6) e4) ⟨rfl, rfl⟩ ⟨Nat.le_of_ble_eq_true rfl, Nat.le_of_ble_eq_true rfl⟩ ⟨Nat.zero_le _, Nat.zero_le _⟩ rfl rfl (Nat.le_of_ble_eq_true rfl) 0 7 rfl rfl rfl [0, 1, 2, 3, 4, 5, 6, 7, 8, 9, 10, 11, 12, 13, 14, 15, 16, 17] rfl rfl rfl dX7_reach_49 (fun z5 => ?_)
        refine z_goto (tgt := 62) G dX7_reach_52 (by decide) ?_
        refine z_ior G dX7_reach_62 ?_
        refine z_istore (lv' := [(0, .ref (ta 0)), (1, .int p1), (2, .int p2), (3, .int p3), (4, .int (x4 ||| r4)), (5, .int x5), (6, .int x6)]) G dX7_reach_63 (by decide) [1, 2, 3, 4, 0, 5, 6] rfl ?_
        refine z_iinc (v := x6 + 1) (lv' := [(0, .ref (ta 0)), (1, .int p1), (2, .int p2), (3, .int p3), (4, .int (x4 ||| r4)), (5, .int x5), (6, .int (x6 + 1))]) G dX7_reach_65 6 rfl rfl (by decide) [1, 2, 3, 4, 5, 6, 0] rfl ?_
        refine z_goto (tgt := 22) G dX7_reach_68 (by decide) ?_
        exact hr22 (x4 ||| r4) x5 (x6 + 1) h
noncomputable def f_X7_reach_l22 (t_mem : Nat → Int32) (p1 : Int32) (p2 : Int32) (p3 : Int32) (k8 : Int32 → Int32 → Option (Int32)) (x4 : Int32) (x5 : Int32) (x6 : Int32) : Option (Int32) := loopN (V := Int32 × Int32 × Int32) (fun rc v => f_X7_reach_b22 t_mem p1 p2 p3 k8 (fun x0_ x1_ x2_ => rc (x0_, x1_, x2_)) v.1 v.2.1 v.2.2) 200 (x4, x5, x6)
set_option maxRecDepth 100000 in
set_option maxHeartbeats 4000000 in
theorem zl_X7_reach_22 {p : Program} {l : Launch} {e : Env} {s : State} {m : MethodId} {args : Array Value} {below : List Frame} {meth : Method} {c : Code} {A : Nat → Prop} {dC : Nat → ClassId} {dI : Nat → Nat → Nat} {cI cJ cZ cN : ClassId} {ta : Nat → Nat} {t_thrown : Int32} {t_told : Int32} {t_row : Nat → Int64} {t_tape : Nat → Int32} {t_taped : Int32} {t_at : Int32} {t_to : Int32} {t_mem : Nat → Int32} {t_undos : Int32} {t_places : Nat → Int32} {t_movers : Nat → Int32} {t_far : Nat → Int32} {t_way : Nat → Int32} {t_wayMany : Int32} {t_fromOf : Nat → Int32} {t_toOf : Nat → Int32} {t_longest : Nat → Int32} {t_wayCount : Nat → Int64} {t_thin : Nat → Int32} {t_ahead : Nat → Int32} {t_tried : Int32} {t_foundLow : Int32} {t_foundHigh : Int32} {t_nextLow : Int32} {t_nextHigh : Int32} {t_act : Nat → Int32} {t_first : Nat → Int32} {t_second : Nat → Int32} {t_random : Int32} {t_isKept : Nat → Int32} {p1 : Int32} {p2 : Int32} {p3 : Int32} {res : Int32} (G : zG p m c cX7_reach 7 s args RX7 (dC, dI) vwCl (zT cI cJ cZ cN) A meth (some .int)) {k8 : Int32 → Int32 → Option (Int32)} (hr8 : ∀ (x4 : Int32) (x5 : Int32), k8 x4 x5 = some res → Z p l e ({ frames := 3, cells := 0, slots := 0, locals := 71 }) s m args below meth c (dC, dI) vwCl A 7 0 0 (MQ below (zQ (some (.int res)) (True) (w_M cI cJ cZ cN ta t_thrown t_told t_row t_tape t_taped t_at t_to t_mem t_undos t_places t_movers t_far t_way t_wayMany t_fromOf t_toOf t_longest t_wayCount t_thin t_ahead t_tried t_foundLow t_foundHigh t_nextLow t_nextHigh t_act t_first t_second t_random t_isKept) (dC, dI) vwCl A) args s 0 0 A) (w_M cI cJ cZ cN ta t_thrown t_told t_row t_tape t_taped t_at t_to t_mem t_undos t_places t_movers t_far t_way t_wayMany t_fromOf t_toOf t_longest t_wayCount t_thin t_ahead t_tried t_foundLow t_foundHigh t_nextLow t_nextHigh t_act t_first t_second t_random t_isKept) [(0, .ref (ta 0)), (1, .int p1), (2, .int p2), (3, .int p3), (4, .int x4), (5, .int x5)] [] 8) : ∀ (x4 : Int32) (x5 : Int32) (x6 : Int32), f_X7_reach_l22 t_mem p1 p2 p3 k8 x4 x5 x6 = some res → Z p l e ({ frames := 3, cells := 0, slots := 0, locals := 71 }) s m args below meth c (dC, dI) vwCl A 7 0 0 (MQ below (zQ (some (.int res)) (True) (w_M cI cJ cZ cN ta t_thrown t_told t_row t_tape t_taped t_at t_to t_mem t_undos t_places t_movers t_far t_way t_wayMany t_fromOf t_toOf t_longest t_wayCount t_thin t_ahead t_tried t_foundLow t_foundHigh t_nextLow t_nextHigh t_act t_first t_second t_random t_isKept) (dC, dI) vwCl A) args s 0 0 A) (w_M cI cJ cZ cN ta t_thrown t_told t_row t_tape t_taped t_at t_to t_mem t_undos t_places t_movers t_far t_way t_wayMany t_fromOf t_toOf t_longest t_wayCount t_thin t_ahead t_tried t_foundLow t_foundHigh t_nextLow t_nextHigh t_act t_first t_second t_random t_isKept) [(0, .ref (ta 0)), (1, .int p1), (2, .int p2), (3, .int p3), (4, .int x4), (5, .int x5), (6, .int x6)] [] 22 := by
  intro x4 x5 x6 h
  exact zloop (P := fun v => Z p l e ({ frames := 3, cells := 0, slots := 0, locals := 71 }) s m args below meth c (dC, dI) vwCl A 7 0 0 (MQ below (zQ (some (.int res)) (True) (w_M cI cJ cZ cN ta t_thrown t_told t_row t_tape t_taped t_at t_to t_mem t_undos t_places t_movers t_far t_way t_wayMany t_fromOf t_toOf t_longest t_wayCount t_thin t_ahead t_tried t_foundLow t_foundHigh t_nextLow t_nextHigh t_act t_first t_second t_random t_isKept) (dC, dI) vwCl A) args s 0 0 A) (w_M cI cJ cZ cN ta t_thrown t_told t_row t_tape t_taped t_at t_to t_mem t_undos t_places t_movers t_far t_way t_wayMany t_fromOf t_toOf t_longest t_wayCount t_thin t_ahead t_tried t_foundLow t_foundHigh t_nextLow t_nextHigh t_act t_first t_second t_random t_isKept) [(0, .ref (ta 0)), (1, .int p1), (2, .int p2), (3, .int p3), (4, .int v.1), (5, .int v.2.1), (6, .int v.2.2)] [] 22) (fun rc hr v h => zb_X7_reach_22 G hr8 (fun x0_ x1_ x2_ h => hr (x0_, x1_, x2_) h) v.1 v.2.1 v.2.2 h) 200 (x4, x5, x6) h
noncomputable def f_X7_reach_b8 (t_mem : Nat → Int32) (p1 : Int32) (p2 : Int32) (p3 : Int32) (k8 : Int32 → Int32 → Option (Int32)) (x4 : Int32) (x5 : Int32) : Option (Int32) :=
  if x4 = x5 then some (x4) else f_X7_reach_l22 t_mem p1 p2 p3 k8 x4 x4 0
set_option maxRecDepth 100000 in
set_option maxHeartbeats 4000000 in
theorem zb_X7_reach_8 {p : Program} {l : Launch} {e : Env} {s : State} {m : MethodId} {args : Array Value} {below : List Frame} {meth : Method} {c : Code} {A : Nat → Prop} {dC : Nat → ClassId} {dI : Nat → Nat → Nat} {cI cJ cZ cN : ClassId} {ta : Nat → Nat} {t_thrown : Int32} {t_told : Int32} {t_row : Nat → Int64} {t_tape : Nat → Int32} {t_taped : Int32} {t_at : Int32} {t_to : Int32} {t_mem : Nat → Int32} {t_undos : Int32} {t_places : Nat → Int32} {t_movers : Nat → Int32} {t_far : Nat → Int32} {t_way : Nat → Int32} {t_wayMany : Int32} {t_fromOf : Nat → Int32} {t_toOf : Nat → Int32} {t_longest : Nat → Int32} {t_wayCount : Nat → Int64} {t_thin : Nat → Int32} {t_ahead : Nat → Int32} {t_tried : Int32} {t_foundLow : Int32} {t_foundHigh : Int32} {t_nextLow : Int32} {t_nextHigh : Int32} {t_act : Nat → Int32} {t_first : Nat → Int32} {t_second : Nat → Int32} {t_random : Int32} {t_isKept : Nat → Int32} {p1 : Int32} {p2 : Int32} {p3 : Int32} {res : Int32} (G : zG p m c cX7_reach 7 s args RX7 (dC, dI) vwCl (zT cI cJ cZ cN) A meth (some .int)) {k8 : Int32 → Int32 → Option (Int32)} (hr8 : ∀ (x4 : Int32) (x5 : Int32), k8 x4 x5 = some res → Z p l e ({ frames := 3, cells := 0, slots := 0, locals := 71 }) s m args below meth c (dC, dI) vwCl A 7 0 0 (MQ below (zQ (some (.int res)) (True) (w_M cI cJ cZ cN ta t_thrown t_told t_row t_tape t_taped t_at t_to t_mem t_undos t_places t_movers t_far t_way t_wayMany t_fromOf t_toOf t_longest t_wayCount t_thin t_ahead t_tried t_foundLow t_foundHigh t_nextLow t_nextHigh t_act t_first t_second t_random t_isKept) (dC, dI) vwCl A) args s 0 0 A) (w_M cI cJ cZ cN ta t_thrown t_told t_row t_tape t_taped t_at t_to t_mem t_undos t_places t_movers t_far t_way t_wayMany t_fromOf t_toOf t_longest t_wayCount t_thin t_ahead t_tried t_foundLow t_foundHigh t_nextLow t_nextHigh t_act t_first t_second t_random t_isKept) [(0, .ref (ta 0)), (1, .int p1), (2, .int p2), (3, .int p3), (4, .int x4), (5, .int x5)] [] 8) : ∀ (x4 : Int32) (x5 : Int32), f_X7_reach_b8 t_mem p1 p2 p3 k8 x4 x5 = some res → Z p l e ({ frames := 3, cells := 0, slots := 0, locals := 71 }) s m args below meth c (dC, dI) vwCl A 7 0 0 (MQ below (zQ (some (.int res)) (True) (w_M cI cJ cZ cN ta t_thrown t_told t_row t_tape t_taped t_at t_to t_mem t_undos t_places t_movers t_far t_way t_wayMany t_fromOf t_toOf t_longest t_wayCount t_thin t_ahead t_tried t_foundLow t_foundHigh t_nextLow t_nextHigh t_act t_first t_second t_random t_isKept) (dC, dI) vwCl A) args s 0 0 A) (w_M cI cJ cZ cN ta t_thrown t_told t_row t_tape t_taped t_at t_to t_mem t_undos t_places t_movers t_far t_way t_wayMany t_fromOf t_toOf t_longest t_wayCount t_thin t_ahead t_tried t_foundLow t_foundHigh t_nextLow t_nextHigh t_act t_first t_second t_random t_isKept) [(0, .ref (ta 0)), (1, .int p1), (2, .int p2), (3, .int p3), (4, .int x4), (5, .int x5)] [] 8 := by
  intro x4 x5 h
  unfold f_X7_reach_b8 at h
  refine z_iload G dX7_reach_8 4 rfl ?_
  refine z_iload G dX7_reach_10 5 rfl ?_
  refine z_icmp_eq (tgt := 74) G dX7_reach_12 (by decide) h (fun h => ?_) (fun h => ?_)
  · refine z_iload G dX7_reach_74 4 rfl ?_
    obtain rfl := Option.some.inj h
    exact z_iret G rfl dX7_reach_76 rfl trivial rfl
  · refine z_iload G dX7_reach_15 4 rfl ?_
    refine z_istore (lv' := [(0, .ref (ta 0)), (1, .int p1), (2, .int p2), (3, .int p3), (4, .int x4), (5, .int x4)]) G dX7_reach_17 (by decide) [1, 2, 3, 4, 5, 0] rfl ?_
    refine z_iconst (v := 0) G dX7_reach_19 (by decide) ?_
    refine z_istore (lv' := [(0, .ref (ta 0)), (1, .int p1), (2, .int p2), (3, .int p3), (4, .int x4), (5, .int x4), (6, .int 0)]) G dX7_reach_20 (by decide) [1, 2, 3, 4, 5, 6, 0] rfl ?_
    exact zl_X7_reach_22 G hr8 x4 x4 0 h
noncomputable def f_X7_reach_l8 (t_mem : Nat → Int32) (p1 : Int32) (p2 : Int32) (p3 : Int32)  (x4 : Int32) (x5 : Int32) : Option (Int32) := loopN (V := Int32 × Int32) (fun rc v => f_X7_reach_b8 t_mem p1 p2 p3  (fun x0_ x1_ => rc (x0_, x1_)) v.1 v.2) 200 (x4, x5)
set_option maxRecDepth 100000 in
set_option maxHeartbeats 4000000 in
theorem zl_X7_reach_8 {p : Program} {l : Launch} {e : Env} {s : State} {m : MethodId} {args : Array Value} {below : List Frame} {meth : Method} {c : Code} {A : Nat → Prop} {dC : Nat → ClassId} {dI : Nat → Nat → Nat} {cI cJ cZ cN : ClassId} {ta : Nat → Nat} {t_thrown : Int32} {t_told : Int32} {t_row : Nat → Int64} {t_tape : Nat → Int32} {t_taped : Int32} {t_at : Int32} {t_to : Int32} {t_mem : Nat → Int32} {t_undos : Int32} {t_places : Nat → Int32} {t_movers : Nat → Int32} {t_far : Nat → Int32} {t_way : Nat → Int32} {t_wayMany : Int32} {t_fromOf : Nat → Int32} {t_toOf : Nat → Int32} {t_longest : Nat → Int32} {t_wayCount : Nat → Int64} {t_thin : Nat → Int32} {t_ahead : Nat → Int32} {t_tried : Int32} {t_foundLow : Int32} {t_foundHigh : Int32} {t_nextLow : Int32} {t_nextHigh : Int32} {t_act : Nat → Int32} {t_first : Nat → Int32} {t_second : Nat → Int32} {t_random : Int32} {t_isKept : Nat → Int32} {p1 : Int32} {p2 : Int32} {p3 : Int32} {res : Int32} (G : zG p m c cX7_reach 7 s args RX7 (dC, dI) vwCl (zT cI cJ cZ cN) A meth (some .int))  : ∀ (x4 : Int32) (x5 : Int32), f_X7_reach_l8 t_mem p1 p2 p3  x4 x5 = some res → Z p l e ({ frames := 3, cells := 0, slots := 0, locals := 71 }) s m args below meth c (dC, dI) vwCl A 7 0 0 (MQ below (zQ (some (.int res)) (True) (w_M cI cJ cZ cN ta t_thrown t_told t_row t_tape t_taped t_at t_to t_mem t_undos t_places t_movers t_far t_way t_wayMany t_fromOf t_toOf t_longest t_wayCount t_thin t_ahead t_tried t_foundLow t_foundHigh t_nextLow t_nextHigh t_act t_first t_second t_random t_isKept) (dC, dI) vwCl A) args s 0 0 A) (w_M cI cJ cZ cN ta t_thrown t_told t_row t_tape t_taped t_at t_to t_mem t_undos t_places t_movers t_far t_way t_wayMany t_fromOf t_toOf t_longest t_wayCount t_thin t_ahead t_tried t_foundLow t_foundHigh t_nextLow t_nextHigh t_act t_first t_second t_random t_isKept) [(0, .ref (ta 0)), (1, .int p1), (2, .int p2), (3, .int p3), (4, .int x4), (5, .int x5)] [] 8 := by
  intro x4 x5 h
  exact zloop (P := fun v => Z p l e ({ frames := 3, cells := 0, slots := 0, locals := 71 }) s m args below meth c (dC, dI) vwCl A 7 0 0 (MQ below (zQ (some (.int res)) (True) (w_M cI cJ cZ cN ta t_thrown t_told t_row t_tape t_taped t_at t_to t_mem t_undos t_places t_movers t_far t_way t_wayMany t_fromOf t_toOf t_longest t_wayCount t_thin t_ahead t_tried t_foundLow t_foundHigh t_nextLow t_nextHigh t_act t_first t_second t_random t_isKept) (dC, dI) vwCl A) args s 0 0 A) (w_M cI cJ cZ cN ta t_thrown t_told t_row t_tape t_taped t_at t_to t_mem t_undos t_places t_movers t_far t_way t_wayMany t_fromOf t_toOf t_longest t_wayCount t_thin t_ahead t_tried t_foundLow t_foundHigh t_nextLow t_nextHigh t_act t_first t_second t_random t_isKept) [(0, .ref (ta 0)), (1, .int p1), (2, .int p2), (3, .int p3), (4, .int v.1), (5, .int v.2)] [] 8) (fun rc hr v h => zb_X7_reach_8 G  (fun x0_ x1_ h => hr (x0_, x1_) h) v.1 v.2 h) 200 (x4, x5) h
noncomputable def f_X7_reach (t_mem : Nat → Int32) (p1 : Int32) (p2 : Int32) (p3 : Int32) : Option (Int32) :=
  f_X7_reach_l8 t_mem p1 p2 p3  (jshl 1 p2) 0
set_option maxRecDepth 100000 in
set_option maxHeartbeats 4000000 in
theorem c_X7_reach {l : Launch} {dC : Nat → ClassId} {dI : Nat → Nat → Nat} {cI cJ cZ cN : ClassId} {ta : Nat → Nat} {t_thrown : Int32} {t_told : Int32} {t_row : Nat → Int64} {t_tape : Nat → Int32} {t_taped : Int32} {t_at : Int32} {t_to : Int32} {t_mem : Nat → Int32} {t_undos : Int32} {t_places : Nat → Int32} {t_movers : Nat → Int32} {t_far : Nat → Int32} {t_way : Nat → Int32} {t_wayMany : Int32} {t_fromOf : Nat → Int32} {t_toOf : Nat → Int32} {t_longest : Nat → Int32} {t_wayCount : Nat → Int64} {t_thin : Nat → Int32} {t_ahead : Nat → Int32} {t_tried : Int32} {t_foundLow : Int32} {t_foundHigh : Int32} {t_nextLow : Int32} {t_nextHigh : Int32} {t_act : Nat → Int32} {t_first : Nat → Int32} {t_second : Nat → Int32} {t_random : Int32} {t_isKept : Nat → Int32} {p1 : Int32} {p2 : Int32} {p3 : Int32} {res : Int32} (h : f_X7_reach t_mem p1 p2 p3 = some res) : zM l yX7_reach cX7_reach 7 (some .int) ({ frames := 3, cells := 0, slots := 0, locals := 71 }) [.ref (ta 0), .int p1, .int p2, .int p3] (dC, dI) vwCl (zT cI cJ cZ cN) (w_M cI cJ cZ cN ta t_thrown t_told t_row t_tape t_taped t_at t_to t_mem t_undos t_places t_movers t_far t_way t_wayMany t_fromOf t_toOf t_longest t_wayCount t_thin t_ahead t_tried t_foundLow t_foundHigh t_nextLow t_nextHigh t_act t_first t_second t_random t_isKept) (some (.int res)) (True) (w_M cI cJ cZ cN ta t_thrown t_told t_row t_tape t_taped t_at t_to t_mem t_undos t_places t_movers t_far t_way t_wayMany t_fromOf t_toOf t_longest t_wayCount t_thin t_ahead t_tried t_foundLow t_foundHigh t_nextLow t_nextHigh t_act t_first t_second t_random t_isKept) := by
  refine zM_of (own := RX7) (by decide) rfl [(0, .ref (ta 0)), (1, .int p1), (2, .int p2), (3, .int p3)] (Nat.le_of_ble_eq_true rfl) rfl ?_
  intro p e s m args below meth c A G _
  unfold f_X7_reach at h
  refine z_iconst (v := 1) G dX7_reach_0 (by decide) ?_
  refine z_iload_n G dX7_reach_1 rfl 2 rfl ?_
  refine z_ishl G dX7_reach_2 ?_
  refine z_istore (lv' := [(0, .ref (ta 0)), (1, .int p1), (2, .int p2), (3, .int p3), (4, .int (jshl 1 p2))]) G dX7_reach_3 (by decide) [1, 2, 3, 4, 0] rfl ?_
  refine z_iconst (v := 0) G dX7_reach_5 (by decide) ?_
  refine z_istore (lv' := [(0, .ref (ta 0)), (1, .int p1), (2, .int p2), (3, .int p3), (4, .int (jshl 1 p2)), (5, .int 0)]) G dX7_reach_6 (by decide) [1, 2, 3, 4, 5, 0] rfl ?_
  exact zl_X7_reach_8 G  (jshl 1 p2) 0 h

noncomputable def f_X7_below (t_mem : Nat → Int32) (p1 : Int32) (p2 : Int32) : Option (Int32) :=
  (f_X7_reach t_mem p1 p2 1).bind (fun r1 => some (r1))
set_option maxRecDepth 100000 in
set_option maxHeartbeats 4000000 in
theorem c_X7_below {l : Launch} {dC : Nat → ClassId} {dI : Nat → Nat → Nat} {cI cJ cZ cN : ClassId} {ta : Nat → Nat} {t_thrown : Int32} {t_told : Int32} {t_row : Nat → Int64} {t_tape : Nat → Int32} {t_taped : Int32} {t_at : Int32} {t_to : Int32} {t_mem : Nat → Int32} {t_undos : Int32} {t_places : Nat → Int32} {t_movers : Nat → Int32} {t_far : Nat → Int32} {t_way : Nat → Int32} {t_wayMany : Int32} {t_fromOf : Nat → Int32} {t_toOf : Nat → Int32} {t_longest : Nat → Int32} {t_wayCount : Nat → Int64} {t_thin : Nat → Int32} {t_ahead : Nat → Int32} {t_tried : Int32} {t_foundLow : Int32} {t_foundHigh : Int32} {t_nextLow : Int32} {t_nextHigh : Int32} {t_act : Nat → Int32} {t_first : Nat → Int32} {t_second : Nat → Int32} {t_random : Int32} {t_isKept : Nat → Int32} {p1 : Int32} {p2 : Int32} {res : Int32} (h : f_X7_below t_mem p1 p2 = some res) : zM l yX7_below cX7_below 3 (some .int) ({ frames := 4, cells := 0, slots := 0, locals := 97 }) [.ref (ta 0), .int p1, .int p2] (dC, dI) vwCl (zT cI cJ cZ cN) (w_M cI cJ cZ cN ta t_thrown t_told t_row t_tape t_taped t_at t_to t_mem t_undos t_places t_movers t_far t_way t_wayMany t_fromOf t_toOf t_longest t_wayCount t_thin t_ahead t_tried t_foundLow t_foundHigh t_nextLow t_nextHigh t_act t_first t_second t_random t_isKept) (some (.int res)) (True) (w_M cI cJ cZ cN ta t_thrown t_told t_row t_tape t_taped t_at t_to t_mem t_undos t_places t_movers t_far t_way t_wayMany t_fromOf t_toOf t_longest t_wayCount t_thin t_ahead t_tried t_foundLow t_foundHigh t_nextLow t_nextHigh t_act t_first t_second t_random t_isKept) := by
  refine zM_of (own := RX7) (by decide) rfl [(0, .ref (ta 0)), (1, .int p1), (2, .int p2)] (Nat.le_of_ble_eq_true rfl) rfl ?_
  intro p e s m args below meth c A G _
  unfold f_X7_below at h
  refine z_aload_n G dX7_below_0 rfl 0 rfl ?_
  refine z_iload_n G dX7_below_1 rfl 1 rfl ?_
  refine z_iload_n G dX7_below_2 rfl 2 rfl ?_
  refine z_iconst (v := 1) G dX7_below_3 (by decide) ?_
  obtain ⟨r1, e1, h⟩ := obind h
  refine z_kR (As := [.int p1, .int p2, .int 1]) (rest := []) (st' := [.int r1]) G pk_X7_reach pv_X7_reach ml_X7_150 (c_X7_reach (ta := ta) (t_thrown := t_thrown) (t_told := t_told) (t_row := t_row) (t_tape := t_tape) (t_taped := t_taped) (t_at := t_at) (t_to := t_to) (t_mem := t_mem) (t_undos := t_undos) (t_places := t_places) (t_movers := t_movers) (t_far := t_far) (t_way := t_way) (t_wayMany := t_wayMany) (t_fromOf := t_fromOf) (t_toOf := t_toOf) (t_longest := t_longest) (t_wayCount := t_wayCount) (t_thin := t_thin) (t_ahead := t_ahead) (t_tried := t_tried) (t_foundLow := t_foundLow) (t_foundHigh := t_foundHigh) (t_nextLow := t_nextLow) (t_nextHigh := t_nextHigh) (t_act := t_act) (t_first := t_first) (t_second := t_second) (t_random := t_random) (t_isKept := t_isKept) (p1 := p1) (p2 := p2) (p3 := 1) e1) ⟨rfl, rfl⟩ ⟨Nat.le_of_ble_eq_true rfl, Nat.le_of_ble_eq_true rfl⟩ ⟨Nat.zero_le _, Nat.zero_le _⟩ rfl rfl (Nat.le_of_ble_eq_true rfl) 0 7 rfl rfl rfl [0, 1, 2, 3, 4, 5, 6, 7, 8, 9, 10, 11, 12, 13, 14, 15, 16, 17] rfl rfl rfl dX7_below_4 (fun z2 => ?_)
  obtain rfl := Option.some.inj h
  exact z_iret G rfl dX7_below_7 rfl trivial rfl
