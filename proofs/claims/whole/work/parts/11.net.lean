noncomputable def fo_X2_has (t_all : Int32) (p1 : Int32) : Option (Int32) :=
  if p1 < 0 then some (0) else if 24 ≤ p1 then some (0) else if (f_X6_holds t_all p1) = 0 then some (0) else some (1)
set_option maxRecDepth 100000 in
set_option maxHeartbeats 4000000 in
theorem co_X2_has {l : Launch} {dC : Nat → ClassId} {dI : Nat → Nat → Nat} {cI cJ cZ cN : ClassId} {ta : Nat → Nat} {t_narrower : Nat → Int32} {t_order : Nat → Int32} {t_items : Nat → Int64} {t_names : Nat → Int32} {t_owners : Nat → Int32} {t_moving : Nat → Int32} {t_all : Int32} {t_size : Int32} {t_nameCount : Int32} {p1 : Int32} {res : Int32} (h : fo_X2_has t_all p1 = some res) : zM l yX2_has cX2_has 2 (some .boolean) ({ frames := 1, cells := 0, slots := 0, locals := 21 }) [.ref (ta 0), .int p1] (dC, dI) vwCl (zT cI cJ cZ cN) (w_N cI cJ cZ cN ta t_narrower t_order t_items t_names t_owners t_moving t_all t_size t_nameCount) (some (.int res)) (narrow .boolean (.int res) = .int res) (w_N cI cJ cZ cN ta t_narrower t_order t_items t_names t_owners t_moving t_all t_size t_nameCount) := by
  refine zM_of (own := RX2) (by decide) rfl [(0, .ref (ta 0)), (1, .int p1)] (Nat.le_of_ble_eq_true rfl) rfl ?_
  intro p e s m args below meth c A G _
  unfold fo_X2_has at h
  refine z_iload_n G dX2_has_0 rfl 1 rfl ?_
  refine z_if_lt (tgt := 25) G dX2_has_1 (by decide) h (fun h => ?_) (fun h => ?_)
  · refine z_iconst (v := 0) G dX2_has_25 (by decide) ?_
    obtain rfl := Option.some.inj h
    exact z_zret G rfl zn0 dX2_has_26 rfl zn0 rfl
  · refine z_iload_n G dX2_has_4 rfl 1 rfl ?_
    refine z_bipush (v := 24) G dX2_has_5 (by decide) ?_
    refine z_icmp_ge (tgt := 25) G dX2_has_7 (by decide) h (fun h => ?_) (fun h => ?_)
    · refine z_iconst (v := 0) G dX2_has_25 (by decide) ?_
      obtain rfl := Option.some.inj h
      exact z_zret G rfl zn0 dX2_has_26 rfl zn0 rfl
    · refine z_aload_n G dX2_has_10 rfl 0 rfl ?_
      refine z_get (ci := 2) (v := .int t_all) G in_X2 0 rfl rfl 6 (by decide) fl_X2_37 rfl dX2_has_11 ?_
      refine z_iload_n G dX2_has_14 rfl 1 rfl ?_
      refine z_kSN (As := [.int t_all, .int p1]) (rest := []) (st' := [.int (f_X6_holds t_all p1)]) G pk_X6_holds ps_X6_holds nl_X2_47 (c_X6_holds (p0 := t_all) (p1 := p1) rfl) ⟨rfl, rfl⟩ ⟨Nat.le_of_ble_eq_true rfl, Nat.le_of_ble_eq_true rfl⟩ ⟨Nat.zero_le _, Nat.zero_le _⟩ rfl rfl (Nat.le_of_ble_eq_true rfl) rfl dX2_has_15 (fun z1 => ?_)
      refine z_if_eq (tgt := 25) G dX2_has_18 (by decide) h (fun h => ?_) (fun h => ?_)
      · refine z_iconst (v := 0) G dX2_has_25 (by decide) ?_
        obtain rfl := Option.some.inj h
        exact z_zret G rfl zn0 dX2_has_26 rfl zn0 rfl
      · refine z_iconst (v := 1) G dX2_has_21 (by decide) ?_
        refine z_goto (tgt := 26) G dX2_has_22 (by decide) ?_
        obtain rfl := Option.some.inj h
        exact z_zret G rfl zn1 dX2_has_26 rfl zn1 rfl
noncomputable def f_X2_has (t_all : Int32) (p1 : Int32) : Int32 :=
  if p1 < 0 then (0) else if 24 ≤ p1 then (0) else if (f_X6_holds t_all p1) = 0 then (0) else (1)
theorem fo_X2_has_eq (t_all : Int32) (p1 : Int32) : fo_X2_has t_all p1 = some (f_X2_has t_all p1) := by
  unfold fo_X2_has f_X2_has
  first | rfl | ((repeat' split) <;> rfl) | (simp only [apply_ite Option.some])
theorem c_X2_has {l : Launch} {dC : Nat → ClassId} {dI : Nat → Nat → Nat} {cI cJ cZ cN : ClassId} {ta : Nat → Nat} {t_narrower : Nat → Int32} {t_order : Nat → Int32} {t_items : Nat → Int64} {t_names : Nat → Int32} {t_owners : Nat → Int32} {t_moving : Nat → Int32} {t_all : Int32} {t_size : Int32} {t_nameCount : Int32} {p1 : Int32} (_ : True = True) : zM l yX2_has cX2_has 2 (some .boolean) ({ frames := 1, cells := 0, slots := 0, locals := 21 }) [.ref (ta 0), .int p1] (dC, dI) vwCl (zT cI cJ cZ cN) (w_N cI cJ cZ cN ta t_narrower t_order t_items t_names t_owners t_moving t_all t_size t_nameCount) (some (.int (f_X2_has t_all p1))) (narrow .boolean (.int (f_X2_has t_all p1)) = .int (f_X2_has t_all p1)) (w_N cI cJ cZ cN ta t_narrower t_order t_items t_names t_owners t_moving t_all t_size t_nameCount) := co_X2_has (fo_X2_has_eq _ _)

noncomputable def fo_X2_hasPair (t_all : Int32) (p1 : Int32) (p2 : Int32) : Option (Int32) :=
  if (f_X2_has t_all p1) = 0 then some (0) else if (f_X2_has t_all p2) = 0 then some (0) else if p1 = p2 then some (0) else some (1)
set_option maxRecDepth 100000 in
set_option maxHeartbeats 4000000 in
theorem co_X2_hasPair {l : Launch} {dC : Nat → ClassId} {dI : Nat → Nat → Nat} {cI cJ cZ cN : ClassId} {ta : Nat → Nat} {t_narrower : Nat → Int32} {t_order : Nat → Int32} {t_items : Nat → Int64} {t_names : Nat → Int32} {t_owners : Nat → Int32} {t_moving : Nat → Int32} {t_all : Int32} {t_size : Int32} {t_nameCount : Int32} {p1 : Int32} {p2 : Int32} {res : Int32} (h : fo_X2_hasPair t_all p1 p2 = some res) : zM l yX2_hasPair cX2_hasPair 3 (some .boolean) ({ frames := 2, cells := 0, slots := 0, locals := 42 }) [.ref (ta 0), .int p1, .int p2] (dC, dI) vwCl (zT cI cJ cZ cN) (w_N cI cJ cZ cN ta t_narrower t_order t_items t_names t_owners t_moving t_all t_size t_nameCount) (some (.int res)) (narrow .boolean (.int res) = .int res) (w_N cI cJ cZ cN ta t_narrower t_order t_items t_names t_owners t_moving t_all t_size t_nameCount) := by
  refine zM_of (own := RX2) (by decide) rfl [(0, .ref (ta 0)), (1, .int p1), (2, .int p2)] (Nat.le_of_ble_eq_true rfl) rfl ?_
  intro p e s m args below meth c A G _
  unfold fo_X2_hasPair at h
  refine z_aload_n G dX2_hasPair_0 rfl 0 rfl ?_
  refine z_iload_n G dX2_hasPair_1 rfl 1 rfl ?_
  refine z_kR (As := [.int p1]) (rest := []) (st' := [.int (f_X2_has t_all p1)]) G pk_X2_has pv_X2_has ml_X2_51 (c_X2_has (ta := ta) (t_narrower := t_narrower) (t_order := t_order) (t_items := t_items) (t_names := t_names) (t_owners := t_owners) (t_moving := t_moving) (t_all := t_all) (t_size := t_size) (t_nameCount := t_nameCount) (p1 := p1) rfl) ⟨rfl, rfl⟩ ⟨Nat.le_of_ble_eq_true rfl, Nat.le_of_ble_eq_true rfl⟩ ⟨Nat.zero_le _, Nat.zero_le _⟩ rfl rfl (Nat.le_of_ble_eq_true rfl) 0 2 rfl rfl rfl [0, 1, 2, 3, 4, 5, 6] rfl rfl rfl dX2_hasPair_2 (fun z1 => ?_)
  refine z_if_eq (tgt := 25) G dX2_hasPair_5 (by decide) h (fun h => ?_) (fun h => ?_)
  · refine z_iconst (v := 0) G dX2_hasPair_25 (by decide) ?_
    obtain rfl := Option.some.inj h
    exact z_zret G rfl zn0 dX2_hasPair_26 rfl zn0 rfl
  · refine z_aload_n G dX2_hasPair_8 rfl 0 rfl ?_
    refine z_iload_n G dX2_hasPair_9 rfl 2 rfl ?_
    refine z_kR (As := [.int p2]) (rest := []) (st' := [.int (f_X2_has t_all p2)]) G pk_X2_has pv_X2_has ml_X2_51 (c_X2_has (ta := ta) (t_narrower := t_narrower) (t_order := t_order) (t_items := t_items) (t_names := t_names) (t_owners := t_owners) (t_moving := t_moving) (t_all := t_all) (t_size := t_size) (t_nameCount := t_nameCount) (p1 := p2) rfl) ⟨rfl, rfl⟩ ⟨Nat.le_of_ble_eq_true rfl, Nat.le_of_ble_eq_true rfl⟩ ⟨Nat.zero_le _, Nat.zero_le _⟩ rfl rfl (Nat.le_of_ble_eq_true rfl) 0 2 rfl rfl rfl [0, 1, 2, 3, 4, 5, 6] rfl rfl rfl dX2_hasPair_10 (fun z2 => ?_)
    refine z_if_eq (tgt := 25) G dX2_hasPair_13 (by decide) h (fun h => ?_) (fun h => ?_)
    · refine z_iconst (v := 0) G dX2_hasPair_25 (by decide) ?_
      obtain rfl := Option.some.inj h
      exact z_zret G rfl zn0 dX2_hasPair_26 rfl zn0 rfl
    · refine z_iload_n G dX2_hasPair_16 rfl 1 rfl ?_
      refine z_iload_n G dX2_hasPair_17 rfl 2 rfl ?_
      refine z_icmp_eq (tgt := 25) G dX2_hasPair_18 (by decide) h (fun h => ?_) (fun h => ?_)
      · refine z_iconst (v := 0) G dX2_hasPair_25 (by decide) ?_
        obtain rfl := Option.some.inj h
        exact z_zret G rfl zn0 dX2_hasPair_26 rfl zn0 rfl
      · refine z_iconst (v := 1) G dX2_hasPair_21 (by decide) ?_
        refine z_goto (tgt := 26) G dX2_hasPair_22 (by decide) ?_
        obtain rfl := Option.some.inj h
        exact z_zret G rfl zn1 dX2_hasPair_26 rfl zn1 rfl
noncomputable def f_X2_hasPair (t_all : Int32) (p1 : Int32) (p2 : Int32) : Int32 :=
  if (f_X2_has t_all p1) = 0 then (0) else if (f_X2_has t_all p2) = 0 then (0) else if p1 = p2 then (0) else (1)
theorem fo_X2_hasPair_eq (t_all : Int32) (p1 : Int32) (p2 : Int32) : fo_X2_hasPair t_all p1 p2 = some (f_X2_hasPair t_all p1 p2) := by
  unfold fo_X2_hasPair f_X2_hasPair
  first | rfl | ((repeat' split) <;> rfl) | (simp only [apply_ite Option.some])
theorem c_X2_hasPair {l : Launch} {dC : Nat → ClassId} {dI : Nat → Nat → Nat} {cI cJ cZ cN : ClassId} {ta : Nat → Nat} {t_narrower : Nat → Int32} {t_order : Nat → Int32} {t_items : Nat → Int64} {t_names : Nat → Int32} {t_owners : Nat → Int32} {t_moving : Nat → Int32} {t_all : Int32} {t_size : Int32} {t_nameCount : Int32} {p1 : Int32} {p2 : Int32} (_ : True = True) : zM l yX2_hasPair cX2_hasPair 3 (some .boolean) ({ frames := 2, cells := 0, slots := 0, locals := 42 }) [.ref (ta 0), .int p1, .int p2] (dC, dI) vwCl (zT cI cJ cZ cN) (w_N cI cJ cZ cN ta t_narrower t_order t_items t_names t_owners t_moving t_all t_size t_nameCount) (some (.int (f_X2_hasPair t_all p1 p2))) (narrow .boolean (.int (f_X2_hasPair t_all p1 p2)) = .int (f_X2_hasPair t_all p1 p2)) (w_N cI cJ cZ cN ta t_narrower t_order t_items t_names t_owners t_moving t_all t_size t_nameCount) := co_X2_hasPair (fo_X2_hasPair_eq _ _ _)

noncomputable def f_X2_placeOf_b2 (t_order : Nat → Int32) (t_size : Int32) (p1 : Int32) (k2 : Int32 → Option (Int32)) (x2 : Int32) : Option (Int32) :=
  if t_size ≤ x2 then some ((-1)) else chk (inb x2 24) (if (t_order (ix x2)) = p1 then some (x2) else k2 (x2 + 1))
set_option maxRecDepth 100000 in
set_option maxHeartbeats 4000000 in
theorem zb_X2_placeOf_2 {p : Program} {l : Launch} {e : Env} {s : State} {m : MethodId} {args : Array Value} {below : List Frame} {meth : Method} {c : Code} {A : Nat → Prop} {dC : Nat → ClassId} {dI : Nat → Nat → Nat} {cI cJ cZ cN : ClassId} {ta : Nat → Nat} {t_narrower : Nat → Int32} {t_order : Nat → Int32} {t_items : Nat → Int64} {t_names : Nat → Int32} {t_owners : Nat → Int32} {t_moving : Nat → Int32} {t_all : Int32} {t_size : Int32} {t_nameCount : Int32} {p1 : Int32} {res : Int32} (G : zG p m c cX2_placeOf 3 s args RX2 (dC, dI) vwCl (zT cI cJ cZ cN) A meth (some .int)) {k2 : Int32 → Option (Int32)} (hr2 : ∀ (x2 : Int32), k2 x2 = some res → Z p l e ({ frames := 0, cells := 0, slots := 0, locals := 0 }) s m args below meth c (dC, dI) vwCl A 3 0 0 (MQ below (zQ (some (.int res)) (True) (w_N cI cJ cZ cN ta t_narrower t_order t_items t_names t_owners t_moving t_all t_size t_nameCount) (dC, dI) vwCl A) args s 0 0 A) (w_N cI cJ cZ cN ta t_narrower t_order t_items t_names t_owners t_moving t_all t_size t_nameCount) [(0, .ref (ta 0)), (1, .int p1), (2, .int x2)] [] 2) : ∀ (x2 : Int32), f_X2_placeOf_b2 t_order t_size p1 k2 x2 = some res → Z p l e ({ frames := 0, cells := 0, slots := 0, locals := 0 }) s m args below meth c (dC, dI) vwCl A 3 0 0 (MQ below (zQ (some (.int res)) (True) (w_N cI cJ cZ cN ta t_narrower t_order t_items t_names t_owners t_moving t_all t_size t_nameCount) (dC, dI) vwCl A) args s 0 0 A) (w_N cI cJ cZ cN ta t_narrower t_order t_items t_names t_owners t_moving t_all t_size t_nameCount) [(0, .ref (ta 0)), (1, .int p1), (2, .int x2)] [] 2 := by
  intro x2 h
  unfold f_X2_placeOf_b2 at h
  refine z_iload_n G dX2_placeOf_2 rfl 2 rfl ?_
  refine z_aload_n G dX2_placeOf_3 rfl 0 rfl ?_
  refine z_get (ci := 2) (v := .int t_size) G in_X2 0 rfl rfl 7 (by decide) fl_X2_41 rfl dX2_placeOf_4 ?_
  refine z_icmp_ge (tgt := 28) G dX2_placeOf_7 (by decide) h (fun h => ?_) (fun h => ?_)
  · refine z_iconst (v := (-1)) G dX2_placeOf_28 (by decide) ?_
    obtain rfl := Option.some.inj h
    exact z_iret G rfl dX2_placeOf_29 rfl trivial rfl
  · refine z_aload_n G dX2_placeOf_10 rfl 0 rfl ?_
    refine z_get (ci := 2) (v := .ref (ta 2)) G in_X2 0 rfl rfl 1 (by decide) fl_X2_15 rfl dX2_placeOf_11 ?_
    refine z_iload_n G dX2_placeOf_14 rfl 2 rfl ?_
    refine z_iaload G 2 0 rfl rfl dX2_placeOf_15 h (fun h => ?_)
    refine z_iload_n G dX2_placeOf_16 rfl 1 rfl ?_
    refine z_icmp_ne (tgt := 22) G dX2_placeOf_17 (by decide) h (fun h => ?_) (fun h => ?_)
    · refine z_iinc (v := x2 + 1) (lv' := [(0, .ref (ta 0)), (1, .int p1), (2, .int (x2 + 1))]) G dX2_placeOf_22 2 rfl rfl (by decide) [1, 2, 0] rfl ?_
      refine z_goto (tgt := 2) G dX2_placeOf_25 (by decide) ?_
      exact hr2 (x2 + 1) h
    · refine z_iload_n G dX2_placeOf_20 rfl 2 rfl ?_
      obtain rfl := Option.some.inj h
      exact z_iret G rfl dX2_placeOf_21 rfl trivial rfl
noncomputable def f_X2_placeOf_l2 (t_order : Nat → Int32) (t_size : Int32) (p1 : Int32)  (x2 : Int32) : Option (Int32) := loopN (V := Int32) (fun rc v => f_X2_placeOf_b2 t_order t_size p1  (fun x0_ => rc x0_) v) 200 x2
set_option maxRecDepth 100000 in
set_option maxHeartbeats 4000000 in
theorem zl_X2_placeOf_2 {p : Program} {l : Launch} {e : Env} {s : State} {m : MethodId} {args : Array Value} {below : List Frame} {meth : Method} {c : Code} {A : Nat → Prop} {dC : Nat → ClassId} {dI : Nat → Nat → Nat} {cI cJ cZ cN : ClassId} {ta : Nat → Nat} {t_narrower : Nat → Int32} {t_order : Nat → Int32} {t_items : Nat → Int64} {t_names : Nat → Int32} {t_owners : Nat → Int32} {t_moving : Nat → Int32} {t_all : Int32} {t_size : Int32} {t_nameCount : Int32} {p1 : Int32} {res : Int32} (G : zG p m c cX2_placeOf 3 s args RX2 (dC, dI) vwCl (zT cI cJ cZ cN) A meth (some .int))  : ∀ (x2 : Int32), f_X2_placeOf_l2 t_order t_size p1  x2 = some res → Z p l e ({ frames := 0, cells := 0, slots := 0, locals := 0 }) s m args below meth c (dC, dI) vwCl A 3 0 0 (MQ below (zQ (some (.int res)) (True) (w_N cI cJ cZ cN ta t_narrower t_order t_items t_names t_owners t_moving t_all t_size t_nameCount) (dC, dI) vwCl A) args s 0 0 A) (w_N cI cJ cZ cN ta t_narrower t_order t_items t_names t_owners t_moving t_all t_size t_nameCount) [(0, .ref (ta 0)), (1, .int p1), (2, .int x2)] [] 2 := by
  intro x2 h
  exact zloop (P := fun v => Z p l e ({ frames := 0, cells := 0, slots := 0, locals := 0 }) s m args below meth c (dC, dI) vwCl A 3 0 0 (MQ below (zQ (some (.int res)) (True) (w_N cI cJ cZ cN ta t_narrower t_order t_items t_names t_owners t_moving t_all t_size t_nameCount) (dC, dI) vwCl A) args s 0 0 A) (w_N cI cJ cZ cN ta t_narrower t_order t_items t_names t_owners t_moving t_all t_size t_nameCount) [(0, .ref (ta 0)), (1, .int p1), (2, .int v)] [] 2) (fun rc hr v h => zb_X2_placeOf_2 G  (fun x0_ h => hr x0_ h) v h) 200 x2 h
noncomputable def f_X2_placeOf (t_order : Nat → Int32) (t_size : Int32) (p1 : Int32) : Option (Int32) :=
  f_X2_placeOf_l2 t_order t_size p1  0
set_option maxRecDepth 100000 in
set_option maxHeartbeats 4000000 in
theorem c_X2_placeOf {l : Launch} {dC : Nat → ClassId} {dI : Nat → Nat → Nat} {cI cJ cZ cN : ClassId} {ta : Nat → Nat} {t_narrower : Nat → Int32} {t_order : Nat → Int32} {t_items : Nat → Int64} {t_names : Nat → Int32} {t_owners : Nat → Int32} {t_moving : Nat → Int32} {t_all : Int32} {t_size : Int32} {t_nameCount : Int32} {p1 : Int32} {res : Int32} (h : f_X2_placeOf t_order t_size p1 = some res) : zM l yX2_placeOf cX2_placeOf 3 (some .int) ({ frames := 0, cells := 0, slots := 0, locals := 0 }) [.ref (ta 0), .int p1] (dC, dI) vwCl (zT cI cJ cZ cN) (w_N cI cJ cZ cN ta t_narrower t_order t_items t_names t_owners t_moving t_all t_size t_nameCount) (some (.int res)) (True) (w_N cI cJ cZ cN ta t_narrower t_order t_items t_names t_owners t_moving t_all t_size t_nameCount) := by
  refine zM_of (own := RX2) (by decide) rfl [(0, .ref (ta 0)), (1, .int p1)] (Nat.le_of_ble_eq_true rfl) rfl ?_
  intro p e s m args below meth c A G _
  unfold f_X2_placeOf at h
  refine z_iconst (v := 0) G dX2_placeOf_0 (by decide) ?_
  refine z_istore_n (lv' := [(0, .ref (ta 0)), (1, .int p1), (2, .int 0)]) G dX2_placeOf_1 rfl (by decide) [1, 2, 0] rfl ?_
  exact zl_X2_placeOf_2 G  0 h

noncomputable def f_X2_above_b11 (t_narrower : Nat → Int32) (t_order : Nat → Int32) (t_size : Int32) (p1 : Int32) (k11 : Int32 → Int32 → Option (Int32)) (x2 : Int32) (x3 : Int32) : Option (Int32) :=
  if x3 < 0 then some (x2) else chk (inb x3 24) (chk (inb (t_order (ix x3)) 24) (if ((t_narrower (ix (t_order (ix x3)))) &&& x2) = 0 then k11 x2 (x3 + (-1)) else chk (inb x3 24) (k11 (x2 ||| (jshl 1 (t_order (ix x3)))) (x3 + (-1)))))
set_option maxRecDepth 100000 in
set_option maxHeartbeats 4000000 in
theorem zb_X2_above_11 {p : Program} {l : Launch} {e : Env} {s : State} {m : MethodId} {args : Array Value} {below : List Frame} {meth : Method} {c : Code} {A : Nat → Prop} {dC : Nat → ClassId} {dI : Nat → Nat → Nat} {cI cJ cZ cN : ClassId} {ta : Nat → Nat} {t_narrower : Nat → Int32} {t_order : Nat → Int32} {t_items : Nat → Int64} {t_names : Nat → Int32} {t_owners : Nat → Int32} {t_moving : Nat → Int32} {t_all : Int32} {t_size : Int32} {t_nameCount : Int32} {p1 : Int32} {res : Int32} (G : zG p m c cX2_above 4 s args RX2 (dC, dI) vwCl (zT cI cJ cZ cN) A meth (some .int)) {k11 : Int32 → Int32 → Option (Int32)} (hr11 : ∀ (x2 : Int32) (x3 : Int32), k11 x2 x3 = some res → Z p l e ({ frames := 0, cells := 0, slots := 0, locals := 0 }) s m args below meth c (dC, dI) vwCl A 4 0 0 (MQ below (zQ (some (.int res)) (True) (w_N cI cJ cZ cN ta t_narrower t_order t_items t_names t_owners t_moving t_all t_size t_nameCount) (dC, dI) vwCl A) args s 0 0 A) (w_N cI cJ cZ cN ta t_narrower t_order t_items t_names t_owners t_moving t_all t_size t_nameCount) [(0, .ref (ta 0)), (1, .int p1), (2, .int x2), (3, .int x3)] [] 11) : ∀ (x2 : Int32) (x3 : Int32), f_X2_above_b11 t_narrower t_order t_size p1 k11 x2 x3 = some res → Z p l e ({ frames := 0, cells := 0, slots := 0, locals := 0 }) s m args below meth c (dC, dI) vwCl A 4 0 0 (MQ below (zQ (some (.int res)) (True) (w_N cI cJ cZ cN ta t_narrower t_order t_items t_names t_owners t_moving t_all t_size t_nameCount) (dC, dI) vwCl A) args s 0 0 A) (w_N cI cJ cZ cN ta t_narrower t_order t_items t_names t_owners t_moving t_all t_size t_nameCount) [(0, .ref (ta 0)), (1, .int p1), (2, .int x2), (3, .int x3)] [] 11 := by
  intro x2 x3 h
  unfold f_X2_above_b11 at h
  refine z_iload_n G dX2_above_11 rfl 3 rfl ?_
  refine z_if_lt (tgt := 48) G dX2_above_12 (by decide) h (fun h => ?_) (fun h => ?_)
  · refine z_iload_n G dX2_above_48 rfl 2 rfl ?_
    obtain rfl := Option.some.inj h
    exact z_iret G rfl dX2_above_49 rfl trivial rfl
  · refine z_aload_n G dX2_above_15 rfl 0 rfl ?_
    refine z_get (ci := 2) (v := .ref (ta 1)) G in_X2 0 rfl rfl 0 (by decide) fl_X2_9 rfl dX2_above_16 ?_
    refine z_aload_n G dX2_above_19 rfl 0 rfl ?_
    refine z_get (ci := 2) (v := .ref (ta 2)) G in_X2 0 rfl rfl 1 (by decide) fl_X2_15 rfl dX2_above_20 ?_
    refine z_iload_n G dX2_above_23 rfl 3 rfl ?_
    refine z_iaload G 2 0 rfl rfl dX2_above_24 h (fun h => ?_)
    refine z_iaload G 1 0 rfl rfl dX2_above_25 h (fun h => ?_)
    refine z_iload_n G dX2_above_26 rfl 2 rfl ?_
    refine z_iand G dX2_above_27 ?_
    refine z_if_eq (tgt := 42) G dX2_above_28 (by decide) h (fun h => ?_) (fun h => ?_)
    · refine z_iinc (v := x3 + (-1)) (lv' := [(0, .ref (ta 0)), (1, .int p1), (2, .int x2), (3, .int (x3 + (-1)))]) G dX2_above_42 3 rfl rfl (by decide) [1, 2, 3, 0] rfl ?_
      refine z_goto (tgt := 11) G dX2_above_45 (by decide) ?_
      exact hr11 x2 (x3 + (-1)) h
    · refine z_iload_n G dX2_above_31 rfl 2 rfl ?_
      refine z_iconst (v := 1) G dX2_above_32 (by decide) ?_
      refine z_aload_n G dX2_above_33 rfl 0 rfl ?_
      refine z_get (ci := 2) (v := .ref (ta 2)) G in_X2 0 rfl rfl 1 (by decide) fl_X2_15 rfl dX2_above_34 ?_
      refine z_iload_n G dX2_above_37 rfl 3 rfl ?_
      refine z_iaload G 2 0 rfl rfl dX2_above_38 h (fun h => ?_)
      refine z_ishl G dX2_above_39 ?_
      refine z_ior G dX2_above_40 ?_
      refine z_istore_n (lv' := [(0, .ref (ta 0)), (1, .int p1), (2, .int (x2 ||| (jshl 1 (t_order (ix x3))))), (3, .int x3)]) G dX2_above_41 rfl (by decide) [1, 2, 0, 3] rfl ?_
      refine z_iinc (v := x3 + (-1)) (lv' := [(0, .ref (ta 0)), (1, .int p1), (2, .int (x2 ||| (jshl 1 (t_order (ix x3))))), (3, .int (x3 + (-1)))]) G dX2_above_42 3 rfl rfl (by decide) [1, 2, 3, 0] rfl ?_
      refine z_goto (tgt := 11) G dX2_above_45 (by decide) ?_
      exact hr11 (x2 ||| (jshl 1 (t_order (ix x3)))) (x3 + (-1)) h
noncomputable def f_X2_above_l11 (t_narrower : Nat → Int32) (t_order : Nat → Int32) (t_size : Int32) (p1 : Int32)  (x2 : Int32) (x3 : Int32) : Option (Int32) := loopN (V := Int32 × Int32) (fun rc v => f_X2_above_b11 t_narrower t_order t_size p1  (fun x0_ x1_ => rc (x0_, x1_)) v.1 v.2) 200 (x2, x3)
set_option maxRecDepth 100000 in
set_option maxHeartbeats 4000000 in
theorem zl_X2_above_11 {p : Program} {l : Launch} {e : Env} {s : State} {m : MethodId} {args : Array Value} {below : List Frame} {meth : Method} {c : Code} {A : Nat → Prop} {dC : Nat → ClassId} {dI : Nat → Nat → Nat} {cI cJ cZ cN : ClassId} {ta : Nat → Nat} {t_narrower : Nat → Int32} {t_order : Nat → Int32} {t_items : Nat → Int64} {t_names : Nat → Int32} {t_owners : Nat → Int32} {t_moving : Nat → Int32} {t_all : Int32} {t_size : Int32} {t_nameCount : Int32} {p1 : Int32} {res : Int32} (G : zG p m c cX2_above 4 s args RX2 (dC, dI) vwCl (zT cI cJ cZ cN) A meth (some .int))  : ∀ (x2 : Int32) (x3 : Int32), f_X2_above_l11 t_narrower t_order t_size p1  x2 x3 = some res → Z p l e ({ frames := 0, cells := 0, slots := 0, locals := 0 }) s m args below meth c (dC, dI) vwCl A 4 0 0 (MQ below (zQ (some (.int res)) (True) (w_N cI cJ cZ cN ta t_narrower t_order t_items t_names t_owners t_moving t_all t_size t_nameCount) (dC, dI) vwCl A) args s 0 0 A) (w_N cI cJ cZ cN ta t_narrower t_order t_items t_names t_owners t_moving t_all t_size t_nameCount) [(0, .ref (ta 0)), (1, .int p1), (2, .int x2), (3, .int x3)] [] 11 := by
  intro x2 x3 h
  exact zloop (P := fun v => Z p l e ({ frames := 0, cells := 0, slots := 0, locals := 0 }) s m args below meth c (dC, dI) vwCl A 4 0 0 (MQ below (zQ (some (.int res)) (True) (w_N cI cJ cZ cN ta t_narrower t_order t_items t_names t_owners t_moving t_all t_size t_nameCount) (dC, dI) vwCl A) args s 0 0 A) (w_N cI cJ cZ cN ta t_narrower t_order t_items t_names t_owners t_moving t_all t_size t_nameCount) [(0, .ref (ta 0)), (1, .int p1), (2, .int v.1), (3, .int v.2)] [] 11) (fun rc hr v h => zb_X2_above_11 G  (fun x0_ x1_ h => hr (x0_, x1_) h) v.1 v.2 h) 200 (x2, x3) h
noncomputable def f_X2_above (t_narrower : Nat → Int32) (t_order : Nat → Int32) (t_size : Int32) (p1 : Int32) : Option (Int32) :=
  f_X2_above_l11 t_narrower t_order t_size p1  (jshl 1 p1) (t_size - 1)
set_option maxRecDepth 100000 in
set_option maxHeartbeats 4000000 in
theorem c_X2_above {l : Launch} {dC : Nat → ClassId} {dI : Nat → Nat → Nat} {cI cJ cZ cN : ClassId} {ta : Nat → Nat} {t_narrower : Nat → Int32} {t_order : Nat → Int32} {t_items : Nat → Int64} {t_names : Nat → Int32} {t_owners : Nat → Int32} {t_moving : Nat → Int32} {t_all : Int32} {t_size : Int32} {t_nameCount : Int32} {p1 : Int32} {res : Int32} (h : f_X2_above t_narrower t_order t_size p1 = some res) : zM l yX2_above cX2_above 4 (some .int) ({ frames := 0, cells := 0, slots := 0, locals := 0 }) [.ref (ta 0), .int p1] (dC, dI) vwCl (zT cI cJ cZ cN) (w_N cI cJ cZ cN ta t_narrower t_order t_items t_names t_owners t_moving t_all t_size t_nameCount) (some (.int res)) (True) (w_N cI cJ cZ cN ta t_narrower t_order t_items t_names t_owners t_moving t_all t_size t_nameCount) := by
  refine zM_of (own := RX2) (by decide) rfl [(0, .ref (ta 0)), (1, .int p1)] (Nat.le_of_ble_eq_true rfl) rfl ?_
  intro p e s m args below meth c A G _
  unfold f_X2_above at h
  refine z_iconst (v := 1) G dX2_above_0 (by decide) ?_
  refine z_iload_n G dX2_above_1 rfl 1 rfl ?_
  refine z_ishl G dX2_above_2 ?_
  refine z_istore_n (lv' := [(0, .ref (ta 0)), (1, .int p1), (2, .int (jshl 1 p1))]) G dX2_above_3 rfl (by decide) [1, 2, 0] rfl ?_
  refine z_aload_n G dX2_above_4 rfl 0 rfl ?_
  refine z_get (ci := 2) (v := .int t_size) G in_X2 0 rfl rfl 7 (by decide) fl_X2_41 rfl dX2_above_5 ?_
  refine z_iconst (v := 1) G dX2_above_8 (by decide) ?_
  refine z_isub G dX2_above_9 ?_
  refine z_istore_n (lv' := [(0, .ref (ta 0)), (1, .int p1), (2, .int (jshl 1 p1)), (3, .int (t_size - 1))]) G dX2_above_10 rfl (by decide) [1, 2, 3, 0] rfl ?_
  exact zl_X2_above_11 G  (jshl 1 p1) (t_size - 1) h

noncomputable def f_X2_below_b6 (t_narrower : Nat → Int32) (t_order : Nat → Int32) (t_size : Int32) (p1 : Int32) (k6 : Int32 → Int32 → Option (Int32)) (x2 : Int32) (x3 : Int32) : Option (Int32) :=
  if t_size ≤ x3 then some (x2) else chk (inb x3 24) (if (f_X6_holds x2 (t_order (ix x3))) = 0 then k6 x2 (x3 + 1) else chk (inb x3 24) (chk (inb (t_order (ix x3)) 24) (k6 (x2 ||| (t_narrower (ix (t_order (ix x3))))) (x3 + 1))))
set_option maxRecDepth 100000 in
set_option maxHeartbeats 4000000 in
theorem zb_X2_below_6 {p : Program} {l : Launch} {e : Env} {s : State} {m : MethodId} {args : Array Value} {below : List Frame} {meth : Method} {c : Code} {A : Nat → Prop} {dC : Nat → ClassId} {dI : Nat → Nat → Nat} {cI cJ cZ cN : ClassId} {ta : Nat → Nat} {t_narrower : Nat → Int32} {t_order : Nat → Int32} {t_items : Nat → Int64} {t_names : Nat → Int32} {t_owners : Nat → Int32} {t_moving : Nat → Int32} {t_all : Int32} {t_size : Int32} {t_nameCount : Int32} {p1 : Int32} {res : Int32} (G : zG p m c cX2_below 4 s args RX2 (dC, dI) vwCl (zT cI cJ cZ cN) A meth (some .int)) {k6 : Int32 → Int32 → Option (Int32)} (hr6 : ∀ (x2 : Int32) (x3 : Int32), k6 x2 x3 = some res → Z p l e ({ frames := 1, cells := 0, slots := 0, locals := 21 }) s m args below meth c (dC, dI) vwCl A 4 0 0 (MQ below (zQ (some (.int res)) (True) (w_N cI cJ cZ cN ta t_narrower t_order t_items t_names t_owners t_moving t_all t_size t_nameCount) (dC, dI) vwCl A) args s 0 0 A) (w_N cI cJ cZ cN ta t_narrower t_order t_items t_names t_owners t_moving t_all t_size t_nameCount) [(0, .ref (ta 0)), (1, .int p1), (2, .int x2), (3, .int x3)] [] 6) : ∀ (x2 : Int32) (x3 : Int32), f_X2_below_b6 t_narrower t_order t_size p1 k6 x2 x3 = some res → Z p l e ({ frames := 1, cells := 0, slots := 0, locals := 21 }) s m args below meth c (dC, dI) vwCl A 4 0 0 (MQ below (zQ (some (.int res)) (True) (w_N cI cJ cZ cN ta t_narrower t_order t_items t_names t_owners t_moving t_all t_size t_nameCount) (dC, dI) vwCl A) args s 0 0 A) (w_N cI cJ cZ cN ta t_narrower t_order t_items t_names t_owners t_moving t_all t_size t_nameCount) [(0, .ref (ta 0)), (1, .int p1), (2, .int x2), (3, .int x3)] [] 6 := by
  intro x2 x3 h
  unfold f_X2_below_b6 at h
  refine z_iload_n G dX2_below_6 rfl 3 rfl ?_
  refine z_aload_n G dX2_below_7 rfl 0 rfl ?_
  refine z_get (ci := 2) (v := .int t_size) G in_X2 0 rfl rfl 7 (by decide) fl_X2_41 rfl dX2_below_8 ?_
  refine z_icmp_ge (tgt := 47) G dX2_below_11 (by decide) h (fun h => ?_) (fun h => ?_)
  · refine z_iload_n G dX2_below_47 rfl 2 rfl ?_
    obtain rfl := Option.some.inj h
    exact z_iret G rfl dX2_below_48 rfl trivial rfl
  · refine z_iload_n G dX2_below_14 rfl 2 rfl ?_
    refine z_aload_n G dX2_below_15 rfl 0 rfl ?_
    refine z_get (ci := 2) (v := .ref (ta 2)) G in_X2 0 rfl rfl 1 (by decide) fl_X2_15 rfl dX2_below_16 ?_
    refine z_iload_n G dX2_below_19 rfl 3 rfl ?_
    refine z_iaload G 2 0 rfl rfl dX2_below_20 h (fun h => ?_)
    refine z_kSN (As := [.int x2, .int (t_order (ix x3))]) (rest := []) (st' := [.int (f_X6_holds x2 (t_order (ix x3)))]) G pk_X6_holds ps_X6_holds nl_X2_47 (c_X6_holds (p0 := x2) (p1 := t_order (ix x3)) rfl) ⟨rfl, rfl⟩ ⟨Nat.le_of_ble_eq_true rfl, Nat.le_of_ble_eq_true rfl⟩ ⟨Nat.zero_le _, Nat.zero_le _⟩ rfl rfl (Nat.le_of_ble_eq_true rfl) rfl dX2_below_21 (fun z1 => ?_)
    refine z_if_eq (tgt := 41) G dX2_below_24 (by decide) h (fun h => ?_) (fun h => ?_)
    · refine z_iinc (v := x3 + 1) (lv' := [(0, .ref (ta 0)), (1, .int p1), (2, .int x2), (3, .int (x3 + 1))]) G dX2_below_41 3 rfl rfl (by decide) [1, 2, 3, 0] rfl ?_
      refine z_goto (tgt := 6) G dX2_below_44 (by decide) ?_
      exact hr6 x2 (x3 + 1) h
    · refine z_iload_n G dX2_below_27 rfl 2 rfl ?_
      refine z_aload_n G dX2_below_28 rfl 0 rfl ?_
      refine z_get (ci := 2) (v := .ref (ta 1)) G in_X2 0 rfl rfl 0 (by decide) fl_X2_9 rfl dX2_below_29 ?_
      refine z_aload_n G dX2_below_32 rfl 0 rfl ?_
      refine z_get (ci := 2) (v := .ref (ta 2)) G in_X2 0 rfl rfl 1 (by decide) fl_X2_15 rfl dX2_below_33 ?_
      refine z_iload_n G dX2_below_36 rfl 3 rfl ?_
      refine z_iaload G 2 0 rfl rfl dX2_below_37 h (fun h => ?_)
      refine z_iaload G 1 0 rfl rfl dX2_below_38 h (fun h => ?_)
      refine z_ior G dX2_below_39 ?_
      refine z_istore_n (lv' := [(0, .ref (ta 0)), (1, .int p1), (2, .int (x2 ||| (t_narrower (ix (t_order (ix x3)))))), (3, .int x3)]) G dX2_below_40 rfl (by decide) [1, 2, 0, 3] rfl ?_
      refine z_iinc (v := x3 + 1) (lv' := [(0, .ref (ta 0)), (1, .int p1), (2, .int (x2 ||| (t_narrower (ix (t_order (ix x3)))))), (3, .int (x3 + 1))]) G dX2_below_41 3 rfl rfl (by decide) [1, 2, 3, 0] rfl ?_
      refine z_goto (tgt := 6) G dX2_below_44 (by decide) ?_
      exact hr6 (x2 ||| (t_narrower (ix (t_order (ix x3))))) (x3 + 1) h
noncomputable def f_X2_below_l6 (t_narrower : Nat → Int32) (t_order : Nat → Int32) (t_size : Int32) (p1 : Int32)  (x2 : Int32) (x3 : Int32) : Option (Int32) := loopN (V := Int32 × Int32) (fun rc v => f_X2_below_b6 t_narrower t_order t_size p1  (fun x0_ x1_ => rc (x0_, x1_)) v.1 v.2) 200 (x2, x3)
set_option maxRecDepth 100000 in
set_option maxHeartbeats 4000000 in
theorem zl_X2_below_6 {p : Program} {l : Launch} {e : Env} {s : State} {m : MethodId} {args : Array Value} {below : List Frame} {meth : Method} {c : Code} {A : Nat → Prop} {dC : Nat → ClassId} {dI : Nat → Nat → Nat} {cI cJ cZ cN : ClassId} {ta : Nat → Nat} {t_narrower : Nat → Int32} {t_order : Nat → Int32} {t_items : Nat → Int64} {t_names : Nat → Int32} {t_owners : Nat → Int32} {t_moving : Nat → Int32} {t_all : Int32} {t_size : Int32} {t_nameCount : Int32} {p1 : Int32} {res : Int32} (G : zG p m c cX2_below 4 s args RX2 (dC, dI) vwCl (zT cI cJ cZ cN) A meth (some .int))  : ∀ (x2 : Int32) (x3 : Int32), f_X2_below_l6 t_narrower t_order t_size p1  x2 x3 = some res → Z p l e ({ frames := 1, cells := 0, slots := 0, locals := 21 }) s m args below meth c (dC, dI) vwCl A 4 0 0 (MQ below (zQ (some (.int res)) (True) (w_N cI cJ cZ cN ta t_narrower t_order t_items t_names t_owners t_moving t_all t_size t_nameCount) (dC, dI) vwCl A) args s 0 0 A) (w_N cI cJ cZ cN ta t_narrower t_order t_items t_names t_owners t_moving t_all t_size t_nameCount) [(0, .ref (ta 0)), (1, .int p1), (2, .int x2), (3, .int x3)] [] 6 := by
  intro x2 x3 h
  exact zloop (P := fun v => Z p l e ({ frames := 1, cells := 0, slots := 0, locals := 21 }) s m args below meth c (dC, dI) vwCl A 4 0 0 (MQ below (zQ (some (.int res)) (True) (w_N cI cJ cZ cN ta t_narrower t_order t_items t_names t_owners t_moving t_all t_size t_nameCount) (dC, dI) vwCl A) args s 0 0 A) (w_N cI cJ cZ cN ta t_narrower t_order t_items t_names t_owners t_moving t_all t_size t_nameCount) [(0, .ref (ta 0)), (1, .int p1), (2, .int v.1), (3, .int v.2)] [] 6) (fun rc hr v h => zb_X2_below_6 G  (fun x0_ x1_ h => hr (x0_, x1_) h) v.1 v.2 h) 200 (x2, x3) h
noncomputable def f_X2_below (t_narrower : Nat → Int32) (t_order : Nat → Int32) (t_size : Int32) (p1 : Int32) : Option (Int32) :=
  f_X2_below_l6 t_narrower t_order t_size p1  (jshl 1 p1) 0
set_option maxRecDepth 100000 in
set_option maxHeartbeats 4000000 in
theorem c_X2_below {l : Launch} {dC : Nat → ClassId} {dI : Nat → Nat → Nat} {cI cJ cZ cN : ClassId} {ta : Nat → Nat} {t_narrower : Nat → Int32} {t_order : Nat → Int32} {t_items : Nat → Int64} {t_names : Nat → Int32} {t_owners : Nat → Int32} {t_moving : Nat → Int32} {t_all : Int32} {t_size : Int32} {t_nameCount : Int32} {p1 : Int32} {res : Int32} (h : f_X2_below t_narrower t_order t_size p1 = some res) : zM l yX2_below cX2_below 4 (some .int) ({ frames := 1, cells := 0, slots := 0, locals := 21 }) [.ref (ta 0), .int p1] (dC, dI) vwCl (zT cI cJ cZ cN) (w_N cI cJ cZ cN ta t_narrower t_order t_items t_names t_owners t_moving t_all t_size t_nameCount) (some (.int res)) (True) (w_N cI cJ cZ cN ta t_narrower t_order t_items t_names t_owners t_moving t_all t_size t_nameCount) := by
  refine zM_of (own := RX2) (by decide) rfl [(0, .ref (ta 0)), (1, .int p1)] (Nat.le_of_ble_eq_true rfl) rfl ?_
  intro p e s m args below meth c A G _
  unfold f_X2_below at h
  refine z_iconst (v := 1) G dX2_below_0 (by decide) ?_
  refine z_iload_n G dX2_below_1 rfl 1 rfl ?_
  refine z_ishl G dX2_below_2 ?_
  refine z_istore_n (lv' := [(0, .ref (ta 0)), (1, .int p1), (2, .int (jshl 1 p1))]) G dX2_below_3 rfl (by decide) [1, 2, 0] rfl ?_
  refine z_iconst (v := 0) G dX2_below_4 (by decide) ?_
  refine z_istore_n (lv' := [(0, .ref (ta 0)), (1, .int p1), (2, .int (jshl 1 p1)), (3, .int 0)]) G dX2_below_5 rfl (by decide) [1, 2, 3, 0] rfl ?_
  exact zl_X2_below_6 G  (jshl 1 p1) 0 h

noncomputable def f_X2_gather_b7 (t_order : Nat → Int32) (p1 : Int32) (p2 : Int32) (p3 : Int32) (p4 : Int32) (k7 : Int32 → Int32 → (Nat → Int32) → Option (Int32 × (Nat → Int32))) (x5 : Int32) (x6 : Int32) (t_moving : Nat → Int32) : Option (Int32 × (Nat → Int32)) :=
  if p3 < x6 then some (x5, t_moving) else chk (inb x6 24) (if ((jshr p1 (t_order (ix x6))) &&& 1) = 0 then k7 x5 (x6 + 1) t_moving else if 24 ≤ x5 then k7 x5 (x6 + 1) t_moving else chk (inb x6 24) (chk (inb x5 24) (k7 (x5 + 1) (x6 + 1) (upd t_moving (ix x5) (t_order (ix x6))))))
set_option maxRecDepth 100000 in
set_option maxHeartbeats 4000000 in
theorem zb_X2_gather_7 {p : Program} {l : Launch} {e : Env} {s : State} {m : MethodId} {args : Array Value} {below : List Frame} {meth : Method} {c : Code} {A : Nat → Prop} {dC : Nat → ClassId} {dI : Nat → Nat → Nat} {cI cJ cZ cN : ClassId} {ta : Nat → Nat} {t_narrower : Nat → Int32} {t_order : Nat → Int32} {t_items : Nat → Int64} {t_names : Nat → Int32} {t_owners : Nat → Int32} {t_all : Int32} {t_size : Int32} {t_nameCount : Int32} {p1 : Int32} {p2 : Int32} {p3 : Int32} {p4 : Int32} {res : Int32 × (Nat → Int32)} (G : zG p m c cX2_gather 7 s args RX2 (dC, dI) vwCl (zT cI cJ cZ cN) A meth (some .int)) {k7 : Int32 → Int32 → (Nat → Int32) → Option (Int32 × (Nat → Int32))} (hr7 : ∀ (x5 : Int32) (x6 : Int32) (t_moving : Nat → Int32), k7 x5 x6 t_moving = some res → Z p l e ({ frames := 0, cells := 0, slots := 0, locals := 0 }) s m args below meth c (dC, dI) vwCl A 7 0 0 (MQ below (zQ (some (.int res.1)) (True) (w_N cI cJ cZ cN ta t_narrower t_order t_items t_names t_owners res.2 t_all t_size t_nameCount) (dC, dI) vwCl A) args s 0 0 A) (w_N cI cJ cZ cN ta t_narrower t_order t_items t_names t_owners t_moving t_all t_size t_nameCount) [(0, .ref (ta 0)), (1, .int p1), (2, .int p2), (3, .int p3), (4, .int p4), (5, .int x5), (6, .int x6)] [] 7) : ∀ (x5 : Int32) (x6 : Int32) (t_moving : Nat → Int32), f_X2_gather_b7 t_order p1 p2 p3 p4 k7 x5 x6 t_moving = some res → Z p l e ({ frames := 0, cells := 0, slots := 0, locals := 0 }) s m args below meth c (dC, dI) vwCl A 7 0 0 (MQ below (zQ (some (.int res.1)) (True) (w_N cI cJ cZ cN ta t_narrower t_order t_items t_names t_owners res.2 t_all t_size t_nameCount) (dC, dI) vwCl A) args s 0 0 A) (w_N cI cJ cZ cN ta t_narrower t_order t_items t_names t_owners t_moving t_all t_size t_nameCount) [(0, .ref (ta 0)), (1, .int p1), (2, .int p2), (3, .int p3), (4, .int p4), (5, .int x5), (6, .int x6)] [] 7 := by
  intro x5 x6 t_moving h
  unfold f_X2_gather_b7 at h
  refine z_iload G dX2_gather_7 6 rfl ?_
  refine z_iload_n G dX2_gather_9 rfl 3 rfl ?_
  refine z_icmp_gt (tgt := 57) G dX2_gather_10 (by decide) h (fun h => ?_) (fun h => ?_)
  · refine z_iload G dX2_gather_57 5 rfl ?_
    obtain rfl := Option.some.inj h
    exact z_iret G rfl dX2_gather_59 rfl trivial rfl
  · refine z_iload_n G dX2_gather_13 rfl 1 rfl ?_
    refine z_aload_n G dX2_gather_14 rfl 0 rfl ?_
    refine z_get (ci := 2) (v := .ref (ta 2)) G in_X2 0 rfl rfl 1 (by decide) fl_X2_15 rfl dX2_gather_15 ?_
    refine z_iload G dX2_gather_18 6 rfl ?_
    refine z_iaload G 2 0 rfl rfl dX2_gather_20 h (fun h => ?_)
    refine z_ishr G dX2_gather_21 ?_
    refine z_iconst (v := 1) G dX2_gather_22 (by decide) ?_
    refine z_iand G dX2_gather_23 ?_
    refine z_if_eq (tgt := 51) G dX2_gather_24 (by decide) h (fun h => ?_) (fun h => ?_)
    · refine z_iinc (v := x6 + 1) (lv' := [(0, .ref (ta 0)), (1, .int p1), (2, .int p2), (3, .int p3), (4, .int p4), (5, .int x5), (6, .int (x6 + 1))]) G dX2_gather_51 6 rfl rfl (by decide) [1, 2, 3, 4, 5, 6, 0] rfl ?_
      refine z_goto (tgt := 7) G dX2_gather_54 (by decide) ?_
      exact hr7 x5 (x6 + 1) t_moving h
    · refine z_iload G dX2_gather_27 5 rfl ?_
      refine z_bipush (v := 24) G dX2_gather_29 (by decide) ?_
      refine z_icmp_ge (tgt := 51) G dX2_gather_31 (by decide) h (fun h => ?_) (fun h => ?_)
      · refine z_iinc (v := x6 + 1) (lv' := [(0, .ref (ta 0)), (1, .int p1), (2, .int p2), (3, .int p3), (4, .int p4), (5, .int x5), (6, .int (x6 + 1))]) G dX2_gather_51 6 rfl rfl (by decide) [1, 2, 3, 4, 5, 6, 0] rfl ?_
        refine z_goto (tgt := 7) G dX2_gather_54 (by decide) ?_
        exact hr7 x5 (x6 + 1) t_moving h
      · refine z_aload_n G dX2_gather_34 rfl 0 rfl ?_
        refine z_get (ci := 2) (v := .ref (ta 6)) G in_X2 0 rfl rfl 5 (by decide) fl_X2_28 rfl dX2_gather_35 ?_
        refine z_iload G dX2_gather_38 5 rfl ?_
        refine z_aload_n G dX2_gather_40 rfl 0 rfl ?_
        refine z_get (ci := 2) (v := .ref (ta 2)) G in_X2 0 rfl rfl 1 (by decide) fl_X2_15 rfl dX2_gather_41 ?_
        refine z_iload G dX2_gather_44 6 rfl ?_
        refine z_iaload G 2 0 rfl rfl dX2_gather_46 h (fun h => ?_)
        refine z_iastore (ws' := (w_N cI cJ cZ cN ta t_narrower t_order t_items t_names t_owners (upd t_moving (ix x5) (t_order (ix x6))) t_all t_size t_nameCount)) G 6 0 rfl rfl rfl dX2_gather_47 h (fun h => ?_)
        refine z_iinc (v := x5 + 1) (lv' := [(0, .ref (ta 0)), (1, .int p1), (2, .int p2), (3, .int p3), (4, .int p4), (5, .int (x5 + 1)), (6, .int x6)]) G dX2_gather_48 5 rfl rfl (by decide) [1, 2, 3, 4, 5, 0, 6] rfl ?_
        refine z_iinc (v := x6 + 1) (lv' := [(0, .ref (ta 0)), (1, .int p1), (2, .int p2), (3, .int p3), (4, .int p4), (5, .int (x5 + 1)), (6, .int (x6 + 1))]) G dX2_gather_51 6 rfl rfl (by decide) [1, 2, 3, 4, 5, 6, 0] rfl ?_
        refine z_goto (tgt := 7) G dX2_gather_54 (by decide) ?_
        exact hr7 (x5 + 1) (x6 + 1) (upd t_moving (ix x5) (t_order (ix x6))) h
noncomputable def f_X2_gather_l7 (t_order : Nat → Int32) (p1 : Int32) (p2 : Int32) (p3 : Int32) (p4 : Int32)  (x5 : Int32) (x6 : Int32) (t_moving : Nat → Int32) : Option (Int32 × (Nat → Int32)) := loopN (V := Int32 × Int32 × (Nat → Int32)) (fun rc v => f_X2_gather_b7 t_order p1 p2 p3 p4  (fun x0_ x1_ x2_ => rc (x0_, x1_, x2_)) v.1 v.2.1 v.2.2) 200 (x5, x6, t_moving)
set_option maxRecDepth 100000 in
set_option maxHeartbeats 4000000 in
theorem zl_X2_gather_7 {p : Program} {l : Launch} {e : Env} {s : State} {m : MethodId} {args : Array Value} {below : List Frame} {meth : Method} {c : Code} {A : Nat → Prop} {dC : Nat → ClassId} {dI : Nat → Nat → Nat} {cI cJ cZ cN : ClassId} {ta : Nat → Nat} {t_narrower : Nat → Int32} {t_order : Nat → Int32} {t_items : Nat → Int64} {t_names : Nat → Int32} {t_owners : Nat → Int32} {t_all : Int32} {t_size : Int32} {t_nameCount : Int32} {p1 : Int32} {p2 : Int32} {p3 : Int32} {p4 : Int32} {res : Int32 × (Nat → Int32)} (G : zG p m c cX2_gather 7 s args RX2 (dC, dI) vwCl (zT cI cJ cZ cN) A meth (some .int))  : ∀ (x5 : Int32) (x6 : Int32) (t_moving : Nat → Int32), f_X2_gather_l7 t_order p1 p2 p3 p4  x5 x6 t_moving = some res → Z p l e ({ frames := 0, cells := 0, slots := 0, locals := 0 }) s m args below meth c (dC, dI) vwCl A 7 0 0 (MQ below (zQ (some (.int res.1)) (True) (w_N cI cJ cZ cN ta t_narrower t_order t_items t_names t_owners res.2 t_all t_size t_nameCount) (dC, dI) vwCl A) args s 0 0 A) (w_N cI cJ cZ cN ta t_narrower t_order t_items t_names t_owners t_moving t_all t_size t_nameCount) [(0, .ref (ta 0)), (1, .int p1), (2, .int p2), (3, .int p3), (4, .int p4), (5, .int x5), (6, .int x6)] [] 7 := by
  intro x5 x6 t_moving h
  exact zloop (P := fun v => Z p l e ({ frames := 0, cells := 0, slots := 0, locals := 0 }) s m args below meth c (dC, dI) vwCl A 7 0 0 (MQ below (zQ (some (.int res.1)) (True) (w_N cI cJ cZ cN ta t_narrower t_order t_items t_names t_owners res.2 t_all t_size t_nameCount) (dC, dI) vwCl A) args s 0 0 A) (w_N cI cJ cZ cN ta t_narrower t_order t_items t_names t_owners v.2.2 t_all t_size t_nameCount) [(0, .ref (ta 0)), (1, .int p1), (2, .int p2), (3, .int p3), (4, .int p4), (5, .int v.1), (6, .int v.2.1)] [] 7) (fun rc hr v h => zb_X2_gather_7 G  (fun x0_ x1_ x2_ h => hr (x0_, x1_, x2_) h) v.1 v.2.1 v.2.2 h) 200 (x5, x6, t_moving) h
noncomputable def f_X2_gather (t_order : Nat → Int32) (t_moving : Nat → Int32) (p1 : Int32) (p2 : Int32) (p3 : Int32) (p4 : Int32) : Option (Int32 × (Nat → Int32)) :=
  f_X2_gather_l7 t_order p1 p2 p3 p4  p4 p2 t_moving
set_option maxRecDepth 100000 in
set_option maxHeartbeats 4000000 in
theorem c_X2_gather {l : Launch} {dC : Nat → ClassId} {dI : Nat → Nat → Nat} {cI cJ cZ cN : ClassId} {ta : Nat → Nat} {t_narrower : Nat → Int32} {t_order : Nat → Int32} {t_items : Nat → Int64} {t_names : Nat → Int32} {t_owners : Nat → Int32} {t_moving : Nat → Int32} {t_all : Int32} {t_size : Int32} {t_nameCount : Int32} {p1 : Int32} {p2 : Int32} {p3 : Int32} {p4 : Int32} {res : Int32 × (Nat → Int32)} (h : f_X2_gather t_order t_moving p1 p2 p3 p4 = some res) : zM l yX2_gather cX2_gather 7 (some .int) ({ frames := 0, cells := 0, slots := 0, locals := 0 }) [.ref (ta 0), .int p1, .int p2, .int p3, .int p4] (dC, dI) vwCl (zT cI cJ cZ cN) (w_N cI cJ cZ cN ta t_narrower t_order t_items t_names t_owners t_moving t_all t_size t_nameCount) (some (.int res.1)) (True) (w_N cI cJ cZ cN ta t_narrower t_order t_items t_names t_owners res.2 t_all t_size t_nameCount) := by
  refine zM_of (own := RX2) (by decide) rfl [(0, .ref (ta 0)), (1, .int p1), (2, .int p2), (3, .int p3), (4, .int p4)] (Nat.le_of_ble_eq_true rfl) rfl ?_
  intro p e s m args below meth c A G _
  unfold f_X2_gather at h
  refine z_iload G dX2_gather_0 4 rfl ?_
  refine z_istore (lv' := [(0, .ref (ta 0)), (1, .int p1), (2, .int p2), (3, .int p3), (4, .int p4), (5, .int p4)]) G dX2_gather_2 (by decide) [1, 2, 3, 4, 5, 0] rfl ?_
  refine z_iload_n G dX2_gather_4 rfl 2 rfl ?_
  refine z_istore (lv' := [(0, .ref (ta 0)), (1, .int p1), (2, .int p2), (3, .int p3), (4, .int p4), (5, .int p4), (6, .int p2)]) G dX2_gather_5 (by decide) [1, 2, 3, 4, 5, 6, 0] rfl ?_
  exact zl_X2_gather_7 G  p4 p2 t_moving h

noncomputable def f_X2_mend_b82 (p1 : Int32) (p2 : Int32) (p3 : Int32) (p4 : Int32) (k32 : Int32 → Int32 → Int32 → Int32 → (Nat → Int32) → (Nat → Int32) → Option (Int32 × (Nat → Int32) × (Nat → Int32))) (x5 : Int32) (x6 : Int32) (x7 : Int32) (x8 : Int32) (t_order : Nat → Int32) (t_moving : Nat → Int32) : Option (Int32 × (Nat → Int32) × (Nat → Int32)) :=
  chk (inb x7 24) (chk (inb x8 24) (k32 x5 x6 (x7 + 1) (x8 + 1) (upd t_order (ix x8) (t_moving (ix x7))) t_moving))
set_option maxRecDepth 100000 in
set_option maxHeartbeats 4000000 in
theorem zb_X2_mend_82 {p : Program} {l : Launch} {e : Env} {s : State} {m : MethodId} {args : Array Value} {below : List Frame} {meth : Method} {c : Code} {A : Nat → Prop} {dC : Nat → ClassId} {dI : Nat → Nat → Nat} {cI cJ cZ cN : ClassId} {ta : Nat → Nat} {t_narrower : Nat → Int32} {t_items : Nat → Int64} {t_names : Nat → Int32} {t_owners : Nat → Int32} {t_all : Int32} {t_size : Int32} {t_nameCount : Int32} {p1 : Int32} {p2 : Int32} {p3 : Int32} {p4 : Int32} {res : Int32 × (Nat → Int32) × (Nat → Int32)} (G : zG p m c cX2_mend 9 s args RX2 (dC, dI) vwCl (zT cI cJ cZ cN) A meth (some .int)) {k32 : Int32 → Int32 → Int32 → Int32 → (Nat → Int32) → (Nat → Int32) → Option (Int32 × (Nat → Int32) × (Nat → Int32))} (hr32 : ∀ (x5 : Int32) (x6 : Int32) (x7 : Int32) (x8 : Int32) (t_order : Nat → Int32) (t_moving : Nat → Int32), k32 x5 x6 x7 x8 t_order t_moving = some res → Z p l e ({ frames := 1, cells := 0, slots := 0, locals := 26 }) s m args below meth c (dC, dI) vwCl A 9 0 0 (MQ below (zQ (some (.int res.1)) (True) (w_N cI cJ cZ cN ta t_narrower res.2.1 t_items t_names t_owners res.2.2 t_all t_size t_nameCount) (dC, dI) vwCl A) args s 0 0 A) (w_N cI cJ cZ cN ta t_narrower t_order t_items t_names t_owners t_moving t_all t_size t_nameCount) [(0, .ref (ta 0)), (1, .int p1), (2, .int p2), (3, .int p3), (4, .int p4), (5, .int x5), (6, .int x6), (7, .int x7), (8, .int x8)] [] 32) : ∀ (x5 : Int32) (x6 : Int32) (x7 : Int32) (x8 : Int32) (t_order : Nat → Int32) (t_moving : Nat → Int32), f_X2_mend_b82 p1 p2 p3 p4 k32 x5 x6 x7 x8 t_order t_moving = some res → Z p l e ({ frames := 1, cells := 0, slots := 0, locals := 26 }) s m args below meth c (dC, dI) vwCl A 9 0 0 (MQ below (zQ (some (.int res.1)) (True) (w_N cI cJ cZ cN ta t_narrower res.2.1 t_items t_names t_owners res.2.2 t_all t_size t_nameCount) (dC, dI) vwCl A) args s 0 0 A) (w_N cI cJ cZ cN ta t_narrower t_order t_items t_names t_owners t_moving t_all t_size t_nameCount) [(0, .ref (ta 0)), (1, .int p1), (2, .int p2), (3, .int p3), (4, .int p4), (5, .int x5), (6, .int x6), (7, .int x7), (8, .int x8)] [] 82 := by
  intro x5 x6 x7 x8 t_order t_moving h
  unfold f_X2_mend_b82 at h
  refine z_aload_n G dX2_mend_82 rfl 0 rfl ?_
  refine z_get (ci := 2) (v := .ref (ta 2)) G in_X2 0 rfl rfl 1 (by decide) fl_X2_15 rfl dX2_mend_83 ?_
  refine z_iload G dX2_mend_86 8 rfl ?_
  refine z_aload_n G dX2_mend_88 rfl 0 rfl ?_
  refine z_get (ci := 2) (v := .ref (ta 6)) G in_X2 0 rfl rfl 5 (by decide) fl_X2_28 rfl dX2_mend_89 ?_
  refine z_iload G dX2_mend_92 7 rfl ?_
  refine z_iaload G 6 0 rfl rfl dX2_mend_94 h (fun h => ?_)
  refine z_iastore (ws' := (w_N cI cJ cZ cN ta t_narrower (upd t_order (ix x8) (t_moving (ix x7))) t_items t_names t_owners t_moving t_all t_size t_nameCount)) G 2 0 rfl rfl rfl dX2_mend_95 h (fun h => ?_)
  refine z_iinc (v := x7 + 1) (lv' := [(0, .ref (ta 0)), (1, .int p1), (2, .int p2), (3, .int p3), (4, .int p4), (5, .int x5), (6, .int x6), (7, .int (x7 + 1)), (8, .int x8)]) G dX2_mend_96 7 rfl rfl (by decide) [1, 2, 3, 4, 5, 6, 7, 0, 8] rfl ?_
  refine z_iinc (v := x8 + 1) (lv' := [(0, .ref (ta 0)), (1, .int p1), (2, .int p2), (3, .int p3), (4, .int p4), (5, .int x5), (6, .int x6), (7, .int (x7 + 1)), (8, .int (x8 + 1))]) G dX2_mend_99 8 rfl rfl (by decide) [1, 2, 3, 4, 5, 6, 7, 8, 0] rfl ?_
  refine z_goto (tgt := 32) G dX2_mend_102 (by decide) ?_
  exact hr32 x5 x6 (x7 + 1) (x8 + 1) (upd t_order (ix x8) (t_moving (ix x7))) t_moving h
noncomputable def f_X2_mend_b32 (p1 : Int32) (p2 : Int32) (p3 : Int32) (p4 : Int32) (k32 : Int32 → Int32 → Int32 → Int32 → (Nat → Int32) → (Nat → Int32) → Option (Int32 × (Nat → Int32) × (Nat → Int32))) (x5 : Int32) (x6 : Int32) (x7 : Int32) (x8 : Int32) (t_order : Nat → Int32) (t_moving : Nat → Int32) : Option (Int32 × (Nat → Int32) × (Nat → Int32)) :=
  if p4 < x8 then some (x6, t_order, t_moving) else if x5 ≤ x7 then some (x6, t_order, t_moving) else chk (inb x8 24) (if ((jshr (p1 ||| p2) (t_order (ix x8))) &&& 1) = 0 then k32 x5 x6 x7 (x8 + 1) t_order t_moving else chk (inb x8 24) (chk (inb x7 24) (if (t_order (ix x8)) = (t_moving (ix x7)) then f_X2_mend_b82 p1 p2 p3 p4 k32 x5 x6 x7 x8 t_order t_moving else f_X2_mend_b82 p1 p2 p3 p4 k32 x5 (x6 + 1) x7 x8 t_order t_moving)))
set_option maxRecDepth 100000 in
set_option maxHeartbeats 4000000 in
theorem zb_X2_mend_32 {p : Program} {l : Launch} {e : Env} {s : State} {m : MethodId} {args : Array Value} {below : List Frame} {meth : Method} {c : Code} {A : Nat → Prop} {dC : Nat → ClassId} {dI : Nat → Nat → Nat} {cI cJ cZ cN : ClassId} {ta : Nat → Nat} {t_narrower : Nat → Int32} {t_items : Nat → Int64} {t_names : Nat → Int32} {t_owners : Nat → Int32} {t_all : Int32} {t_size : Int32} {t_nameCount : Int32} {p1 : Int32} {p2 : Int32} {p3 : Int32} {p4 : Int32} {res : Int32 × (Nat → Int32) × (Nat → Int32)} (G : zG p m c cX2_mend 9 s args RX2 (dC, dI) vwCl (zT cI cJ cZ cN) A meth (some .int)) {k32 : Int32 → Int32 → Int32 → Int32 → (Nat → Int32) → (Nat → Int32) → Option (Int32 × (Nat → Int32) × (Nat → Int32))} (hr32 : ∀ (x5 : Int32) (x6 : Int32) (x7 : Int32) (x8 : Int32) (t_order : Nat → Int32) (t_moving : Nat → Int32), k32 x5 x6 x7 x8 t_order t_moving = some res → Z p l e ({ frames := 1, cells := 0, slots := 0, locals := 26 }) s m args below meth c (dC, dI) vwCl A 9 0 0 (MQ below (zQ (some (.int res.1)) (True) (w_N cI cJ cZ cN ta t_narrower res.2.1 t_items t_names t_owners res.2.2 t_all t_size t_nameCount) (dC, dI) vwCl A) args s 0 0 A) (w_N cI cJ cZ cN ta t_narrower t_order t_items t_names t_owners t_moving t_all t_size t_nameCount) [(0, .ref (ta 0)), (1, .int p1), (2, .int p2), (3, .int p3), (4, .int p4), (5, .int x5), (6, .int x6), (7, .int x7), (8, .int x8)] [] 32) : ∀ (x5 : Int32) (x6 : Int32) (x7 : Int32) (x8 : Int32) (t_order : Nat → Int32) (t_moving : Nat → Int32), f_X2_mend_b32 p1 p2 p3 p4 k32 x5 x6 x7 x8 t_order t_moving = some res → Z p l e ({ frames := 1, cells := 0, slots := 0, locals := 26 }) s m args below meth c (dC, dI) vwCl A 9 0 0 (MQ below (zQ (some (.int res.1)) (True) (w_N cI cJ cZ cN ta t_narrower res.2.1 t_items t_names t_owners res.2.2 t_all t_size t_nameCount) (dC, dI) vwCl A) args s 0 0 A) (w_N cI cJ cZ cN ta t_narrower t_order t_items t_names t_owners t_moving t_all t_size t_nameCount) [(0, .ref (ta 0)), (1, .int p1), (2, .int p2), (3, .int p3), (4, .int p4), (5, .int x5), (6, .int x6), (7, .int x7), (8, .int x8)] [] 32 := by
  intro x5 x6 x7 x8 t_order t_moving h
  unfold f_X2_mend_b32 at h
  refine z_iload G dX2_mend_32 8 rfl ?_
  refine z_iload G dX2_mend_34 4 rfl ?_
  refine z_icmp_gt (tgt := 105) G dX2_mend_36 (by decide) h (fun h => ?_) (fun h => ?_)
  · refine z_iload G dX2_mend_105 6 rfl ?_
    obtain rfl := Option.some.inj h
    exact z_iret G rfl dX2_mend_107 rfl trivial rfl
  · refine z_iload G dX2_mend_39 7 rfl ?_
    refine z_iload G dX2_mend_41 5 rfl ?_
    refine z_icmp_ge (tgt := 105) G dX2_mend_43 (by decide) h (fun h => ?_) (fun h => ?_)
    · refine z_iload G dX2_mend_105 6 rfl ?_
      obtain rfl := Option.some.inj h
      exact z_iret G rfl dX2_mend_107 rfl trivial rfl
    · refine z_iload_n G dX2_mend_46 rfl 1 rfl ?_
      refine z_iload_n G dX2_mend_47 rfl 2 rfl ?_
      refine z_ior G dX2_mend_48 ?_
      refine z_aload_n G dX2_mend_49 rfl 0 rfl ?_
      refine z_get (ci := 2) (v := .ref (ta 2)) G in_X2 0 rfl rfl 1 (by decide) fl_X2_15 rfl dX2_mend_50 ?_
      refine z_iload G dX2_mend_53 8 rfl ?_
      refine z_iaload G 2 0 rfl rfl dX2_mend_55 h (fun h => ?_)
      refine z_ishr G dX2_mend_56 ?_
      refine z_iconst (v := 1) G dX2_mend_57 (by decide) ?_
      refine z_iand G dX2_mend_58 ?_
      refine z_if_eq (tgt := 99) G dX2_mend_59 (by decide) h (fun h => ?_) (fun h => ?_)
      · refine z_iinc (v := x8 + 1) (lv' := [(0, .ref (ta 0)), (1, .int p1), (2, .int p2), (3, .int p3), (4, .int p4), (5, .int x5), (6, .int x6), (7, .int x7), (8, .int (x8 + 1))]) G dX2_mend_99 8 rfl rfl (by decide) [1, 2, 3, 4, 5, 6, 7, 8, 0] rfl ?_
        refine z_goto (tgt := 32) G dX2_mend_102 (by decide) ?_
        exact hr32 x5 x6 x7 (x8 + 1) t_order t_moving h
      · refine z_aload_n G dX2_mend_62 rfl 0 rfl ?_
        refine z_get (ci := 2) (v := .ref (ta 2)) G in_X2 0 rfl rfl 1 (by decide) fl_X2_15 rfl dX2_mend_63 ?_
        refine z_iload G dX2_mend_66 8 rfl ?_
        refine z_iaload G 2 0 rfl rfl dX2_mend_68 h (fun h => ?_)
        refine z_aload_n G dX2_mend_69 rfl 0 rfl ?_
        refine z_get (ci := 2) (v := .ref (ta 6)) G in_X2 0 rfl rfl 5 (by decide) fl_X2_28 rfl dX2_mend_70 ?_
        refine z_iload G dX2_mend_73 7 rfl ?_
        refine z_iaload G 6 0 rfl rfl dX2_mend_75 h (fun h => ?_)
        refine z_icmp_eq (tgt := 82) G dX2_mend_76 (by decide) h (fun h => ?_) (fun h => ?_)
        · exact zb_X2_mend_82 G hr32 x5 x6 x7 x8 t_order t_moving h
        · refine z_iinc (v := x6 + 1) (lv' := [(0, .ref (ta 0)), (1, .int p1), (2, .int p2), (3, .int p3), (4, .int p4), (5, .int x5), (6, .int (x6 + 1)), (7, .int x7), (8, .int x8)]) G dX2_mend_79 6 rfl rfl (by decide) [1, 2, 3, 4, 5, 6, 0, 7, 8] rfl ?_
          exact zb_X2_mend_82 G hr32 x5 (x6 + 1) x7 x8 t_order t_moving h
noncomputable def f_X2_mend_l32 (p1 : Int32) (p2 : Int32) (p3 : Int32) (p4 : Int32)  (x5 : Int32) (x6 : Int32) (x7 : Int32) (x8 : Int32) (t_order : Nat → Int32) (t_moving : Nat → Int32) : Option (Int32 × (Nat → Int32) × (Nat → Int32)) := loopN (V := Int32 × Int32 × Int32 × Int32 × (Nat → Int32) × (Nat → Int32)) (fun rc v => f_X2_mend_b32 p1 p2 p3 p4  (fun x0_ x1_ x2_ x3_ x4_ x5_ => rc (x0_, x1_, x2_, x3_, x4_, x5_)) v.1 v.2.1 v.2.2.1 v.2.2.2.1 v.2.2.2.2.1 v.2.2.2.2.2) 200 (x5, x6, x7, x8, t_order, t_moving)
set_option maxRecDepth 100000 in
set_option maxHeartbeats 4000000 in
theorem zl_X2_mend_32 {p : Program} {l : Launch} {e : Env} {s : State} {m : MethodId} {args : Array Value} {below : List Frame} {meth : Method} {c : Code} {A : Nat → Prop} {dC : Nat → ClassId} {dI : Nat → Nat → Nat} {cI cJ cZ cN : ClassId} {ta : Nat → Nat} {t_narrower : Nat → Int32} {t_items : Nat → Int64} {t_names : Nat → Int32} {t_owners : Nat → Int32} {t_all : Int32} {t_size : Int32} {t_nameCount : Int32} {p1 : Int32} {p2 : Int32} {p3 : Int32} {p4 : Int32} {res : Int32 × (Nat → Int32) × (Nat → Int32)} (G : zG p m c cX2_mend 9 s args RX2 (dC, dI) vwCl (zT cI cJ cZ cN) A meth (some .int))  : ∀ (x5 : Int32) (x6 : Int32) (x7 : Int32) (x8 : Int32) (t_order : Nat → Int32) (t_moving : Nat → Int32), f_X2_mend_l32 p1 p2 p3 p4  x5 x6 x7 x8 t_order t_moving = some res → Z p l e ({ frames := 1, cells := 0, slots := 0, locals := 26 }) s m args below meth c (dC, dI) vwCl A 9 0 0 (MQ below (zQ (some (.int res.1)) (True) (w_N cI cJ cZ cN ta t_narrower res.2.1 t_items t_names t_owners res.2.2 t_all t_size t_nameCount) (dC, dI) vwCl A) args s 0 0 A) (w_N cI cJ cZ cN ta t_narrower t_order t_items t_names t_owners t_moving t_all t_size t_nameCount) [(0, .ref (ta 0)), (1, .int p1), (2, .int p2), (3, .int p3), (4, .int p4), (5, .int x5), (6, .int x6), (7, .int x7), (8, .int x8)] [] 32 := by
  intro x5 x6 x7 x8 t_order t_moving h
  exact zloop (P := fun v => Z p l e ({ frames := 1, cells := 0, slots := 0, locals := 26 }) s m args below meth c (dC, dI) vwCl A 9 0 0 (MQ below (zQ (some (.int res.1)) (True) (w_N cI cJ cZ cN ta t_narrower res.2.1 t_items t_names t_owners res.2.2 t_all t_size t_nameCount) (dC, dI) vwCl A) args s 0 0 A) (w_N cI cJ cZ cN ta t_narrower v.2.2.2.2.1 t_items t_names t_owners v.2.2.2.2.2 t_all t_size t_nameCount) [(0, .ref (ta 0)), (1, .int p1), (2, .int p2), (3, .int p3), (4, .int p4), (5, .int v.1), (6, .int v.2.1), (7, .int v.2.2.1), (8, .int v.2.2.2.1)] [] 32) (fun rc hr v h => zb_X2_mend_32 G  (fun x0_ x1_ x2_ x3_ x4_ x5_ h => hr (x0_, x1_, x2_, x3_, x4_, x5_) h) v.1 v.2.1 v.2.2.1 v.2.2.2.1 v.2.2.2.2.1 v.2.2.2.2.2 h) 200 (x5, x6, x7, x8, t_order, t_moving) h
noncomputable def f_X2_mend (t_order : Nat → Int32) (t_moving : Nat → Int32) (p1 : Int32) (p2 : Int32) (p3 : Int32) (p4 : Int32) : Option (Int32 × (Nat → Int32) × (Nat → Int32)) :=
  (f_X2_gather t_order t_moving p1 p3 p4 0).bind (fun r1 => (f_X2_gather t_order r1.2 p2 p3 p4 r1.1).bind (fun r3 => f_X2_mend_l32 p1 p2 p3 p4  r3.1 0 0 p3 t_order r3.2))
set_option maxRecDepth 100000 in
set_option maxHeartbeats 4000000 in
theorem c_X2_mend {l : Launch} {dC : Nat → ClassId} {dI : Nat → Nat → Nat} {cI cJ cZ cN : ClassId} {ta : Nat → Nat} {t_narrower : Nat → Int32} {t_order : Nat → Int32} {t_items : Nat → Int64} {t_names : Nat → Int32} {t_owners : Nat → Int32} {t_moving : Nat → Int32} {t_all : Int32} {t_size : Int32} {t_nameCount : Int32} {p1 : Int32} {p2 : Int32} {p3 : Int32} {p4 : Int32} {res : Int32 × (Nat → Int32) × (Nat → Int32)} (h : f_X2_mend t_order t_moving p1 p2 p3 p4 = some res) : zM l yX2_mend cX2_mend 9 (some .int) ({ frames := 1, cells := 0, slots := 0, locals := 26 }) [.ref (ta 0), .int p1, .int p2, .int p3, .int p4] (dC, dI) vwCl (zT cI cJ cZ cN) (w_N cI cJ cZ cN ta t_narrower t_order t_items t_names t_owners t_moving t_all t_size t_nameCount) (some (.int res.1)) (True) (w_N cI cJ cZ cN ta t_narrower res.2.1 t_items t_names t_owners res.2.2 t_all t_size t_nameCount) := by
  refine zM_of (own := RX2) (by decide) rfl [(0, .ref (ta 0)), (1, .int p1), (2, .int p2), (3, .int p3), (4, .int p4)] (Nat.le_of_ble_eq_true rfl) rfl ?_
  intro p e s m args below meth c A G _
  unfold f_X2_mend at h
  refine z_aload_n G dX2_mend_0 rfl 0 rfl ?_
  refine z_iload_n G dX2_mend_1 rfl 1 rfl ?_
  refine z_iload_n G dX2_mend_2 rfl 3 rfl ?_
  refine z_iload G dX2_mend_3 4 rfl ?_
  refine z_iconst (v := 0) G dX2_mend_5 (by decide) ?_
  obtain ⟨r1, e1, h⟩ := obind h
  refine z_kV (As := [.int p1, .int p3, .int p4, .int 0]) (rest := []) (st' := [.int r1.1]) (ws' := (w_N cI cJ cZ cN ta t_narrower t_order t_items t_names t_owners r1.2 t_all t_size t_nameCount)) G pk_X2_gather pv_X2_gather ml_X2_77 (c_X2_gather (ta := ta) (t_narrower := t_narrower) (t_order := t_order) (t_items := t_items) (t_names := t_names) (t_owners := t_owners) (t_moving := t_moving) (t_all := t_all) (t_size := t_size) (t_nameCount := t_nameCount) (p1 := p1) (p2 := p3) (p3 := p4) (p4 := 0) e1) ⟨rfl, rfl⟩ ⟨Nat.le_of_ble_eq_true rfl, Nat.le_of_ble_eq_true rfl⟩ ⟨Nat.zero_le _, Nat.zero_le _⟩ rfl rfl (Nat.le_of_ble_eq_true rfl) 0 2 rfl rfl rfl [0, 1, 2, 3, 4, 5, 6] rfl rfl [some 0, some 1, some 2, some 3, some 4, some 5, some 6] rfl rfl rfl rfl dX2_mend_6 (fun z2 => ?_)
  refine z_istore (lv' := [(0, .ref (ta 0)), (1, .int p1), (2, .int p2), (3, .int p3), (4, .int p4), (5, .int r1.1)]) G dX2_mend_9 (by decide) [1, 2, 3, 4, 5, 0] rfl ?_
  refine z_aload_n G dX2_mend_11 rfl 0 rfl ?_
  refine z_iload_n G dX2_mend_12 rfl 2 rfl ?_
  refine z_iload_n G dX2_mend_13 rfl 3 rfl ?_
  refine z_iload G dX2_mend_14 4 rfl ?_
  refine z_iload G dX2_mend_16 5 rfl ?_
  obtain ⟨r3, e3, h⟩ := obind h
  refine z_kV (As := [.int p2, .int p3, .int p4, .int r1.1]) (rest := []) (st' := [.int r3.1]) (ws' := (w_N cI cJ cZ cN ta t_narrower t_order t_items t_names t_owners r3.2 t_all t_size t_nameCount)) G pk_X2_gather pv_X2_gather ml_X2_77 (c_X2_gather (ta := ta) (t_narrower := t_narrower) (t_order := t_order) (t_items := t_items) (t_names := t_names) (t_owners := t_owners) (t_moving := r1.2) (t_all := t_all) (t_size := t_size) (t_nameCount := t_nameCount) (p1 := p2) (p2 := p3) (p3 := p4) (p4 := r1.1) e3) ⟨rfl, rfl⟩ ⟨Nat.le_of_ble_eq_true rfl, Nat.le_of_ble_eq_true rfl⟩ ⟨Nat.zero_le _, Nat.zero_le _⟩ rfl rfl (Nat.le_of_ble_eq_true rfl) 0 2 rfl rfl rfl [0, 1, 2, 3, 4, 5, 6] rfl rfl [some 0, some 1, some 2, some 3, some 4, some 5, some 6] rfl rfl rfl rfl dX2_mend_18 (fun z4 => ?_)
  refine z_istore (lv' := [(0, .ref (ta 0)), (1, .int p1), (2, .int p2), (3, .int p3), (4, .int p4), (5, .int r3.1)]) G dX2_mend_21 (by decide) [1, 2, 3, 4, 5, 0] rfl ?_
  refine z_iconst (v := 0) G dX2_mend_23 (by decide) ?_
  refine z_istore (lv' := [(0, .ref (ta 0)), (1, .int p1), (2, .int p2), (3, .int p3), (4, .int p4), (5, .int r3.1), (6, .int 0)]) G dX2_mend_24 (by decide) [1, 2, 3, 4, 5, 6, 0] rfl ?_
  refine z_iconst (v := 0) G dX2_mend_26 (by decide) ?_
  refine z_istore (lv' := [(0, .ref (ta 0)), (1, .int p1), (2, .int p2), (3, .int p3), (4, .int p4), (5, .int r3.1), (6, .int 0), (7, .int 0)]) G dX2_mend_27 (by decide) [1, 2, 3, 4, 5, 6, 7, 0] rfl ?_
  refine z_iload_n G dX2_mend_29 rfl 3 rfl ?_
  refine z_istore (lv' := [(0, .ref (ta 0)), (1, .int p1), (2, .int p2), (3, .int p3), (4, .int p4), (5, .int r3.1), (6, .int 0), (7, .int 0), (8, .int p3)]) G dX2_mend_30 (by decide) [1, 2, 3, 4, 5, 6, 7, 8, 0] rfl ?_
  exact zl_X2_mend_32 G  r3.1 0 0 p3 t_order r3.2 h

noncomputable def f_X2_come_b40 (t_narrower : Nat → Int32) (t_size : Int32) (p1 : Int32) (p2 : Int32)  (x3 : Int32) (t_order : Nat → Int32) (t_moving : Nat → Int32) : Option (Int32 × (Nat → Int32) × (Nat → Int32) × (Nat → Int32)) :=
  chk (inb p1 24) (chk (inb p1 24) (some (x3, upd t_narrower (ix p1) ((t_narrower (ix p1)) ||| (jshl 1 p2)), t_order, t_moving)))
set_option maxRecDepth 100000 in
set_option maxHeartbeats 4000000 in
theorem zb_X2_come_40 {p : Program} {l : Launch} {e : Env} {s : State} {m : MethodId} {args : Array Value} {below : List Frame} {meth : Method} {c : Code} {A : Nat → Prop} {dC : Nat → ClassId} {dI : Nat → Nat → Nat} {cI cJ cZ cN : ClassId} {ta : Nat → Nat} {t_narrower : Nat → Int32} {t_items : Nat → Int64} {t_names : Nat → Int32} {t_owners : Nat → Int32} {t_all : Int32} {t_size : Int32} {t_nameCount : Int32} {p1 : Int32} {p2 : Int32} {res : Int32 × (Nat → Int32) × (Nat → Int32) × (Nat → Int32)} (G : zG p m c cX2_come 4 s args RX2 (dC, dI) vwCl (zT cI cJ cZ cN) A meth (some .int))  : ∀ (x3 : Int32) (t_order : Nat → Int32) (t_moving : Nat → Int32), f_X2_come_b40 t_narrower t_size p1 p2  x3 t_order t_moving = some res → Z p l e ({ frames := 2, cells := 0, slots := 0, locals := 54 }) s m args below meth c (dC, dI) vwCl A 4 0 0 (MQ below (zQ (some (.int res.1)) (True) (w_N cI cJ cZ cN ta res.2.1 res.2.2.1 t_items t_names t_owners res.2.2.2 t_all t_size t_nameCount) (dC, dI) vwCl A) args s 0 0 A) (w_N cI cJ cZ cN ta t_narrower t_order t_items t_names t_owners t_moving t_all t_size t_nameCount) [(0, .ref (ta 0)), (1, .int p1), (2, .int p2), (3, .int x3)] [] 40 := by
  intro x3 t_order t_moving h
  unfold f_X2_come_b40 at h
  refine z_aload_n G dX2_come_40 rfl 0 rfl ?_
  refine z_get (ci := 2) (v := .ref (ta 1)) G in_X2 0 rfl rfl 0 (by decide) fl_X2_9 rfl dX2_come_41 ?_
  refine z_iload_n G dX2_come_44 rfl 1 rfl ?_
  refine z_dup2 G dX2_come_45 rfl rfl ?_
  refine z_iaload G 1 0 rfl rfl dX2_come_46 h (fun h => ?_)
  refine z_iconst (v := 1) G dX2_come_47 (by decide) ?_
  refine z_iload_n G dX2_come_48 rfl 2 rfl ?_
  refine z_ishl G dX2_come_49 ?_
  refine z_ior G dX2_come_50 ?_
  refine z_iastore (ws' := (w_N cI cJ cZ cN ta (upd t_narrower (ix p1) ((t_narrower (ix p1)) ||| (jshl 1 p2))) t_order t_items t_names t_owners t_moving t_all t_size t_nameCount)) G 1 0 rfl rfl rfl dX2_come_51 h (fun h => ?_)
  refine z_iload_n G dX2_come_52 rfl 3 rfl ?_
  obtain rfl := Option.some.inj h
  exact z_iret G rfl dX2_come_53 rfl trivial rfl
noncomputable def f_X2_come (t_narrower : Nat → Int32) (t_order : Nat → Int32) (t_moving : Nat → Int32) (t_size : Int32) (p1 : Int32) (p2 : Int32) : Option (Int32 × (Nat → Int32) × (Nat → Int32) × (Nat → Int32)) :=
  (f_X2_placeOf t_order t_size p1).bind (fun r1 => (f_X2_placeOf t_order t_size p2).bind (fun r3 => if r1 ≤ r3 then f_X2_come_b40 t_narrower t_size p1 p2  0 t_order t_moving else (f_X2_above t_narrower t_order t_size p1).bind (fun r5 => (f_X2_below t_narrower t_order t_size p2).bind (fun r7 => (f_X2_placeOf t_order t_size p2).bind (fun r9 => (f_X2_placeOf t_order t_size p1).bind (fun r11 => (f_X2_mend t_order t_moving r5 r7 r9 r11).bind (fun r13 => f_X2_come_b40 t_narrower t_size p1 p2  r13.1 r13.2.1 r13.2.2)))))))
set_option maxRecDepth 100000 in
set_option maxHeartbeats 4000000 in
theorem c_X2_come {l : Launch} {dC : Nat → ClassId} {dI : Nat → Nat → Nat} {cI cJ cZ cN : ClassId} {ta : Nat → Nat} {t_narrower : Nat → Int32} {t_order : Nat → Int32} {t_items : Nat → Int64} {t_names : Nat → Int32} {t_owners : Nat → Int32} {t_moving : Nat → Int32} {t_all : Int32} {t_size : Int32} {t_nameCount : Int32} {p1 : Int32} {p2 : Int32} {res : Int32 × (Nat → Int32) × (Nat → Int32) × (Nat → Int32)} (h : f_X2_come t_narrower t_order t_moving t_size p1 p2 = some res) : zM l yX2_come cX2_come 4 (some .int) ({ frames := 2, cells := 0, slots := 0, locals := 54 }) [.ref (ta 0), .int p1, .int p2] (dC, dI) vwCl (zT cI cJ cZ cN) (w_N cI cJ cZ cN ta t_narrower t_order t_items t_names t_owners t_moving t_all t_size t_nameCount) (some (.int res.1)) (True) (w_N cI cJ cZ cN ta res.2.1 res.2.2.1 t_items t_names t_owners res.2.2.2 t_all t_size t_nameCount) := by
  refine zM_of (own := RX2) (by decide) rfl [(0, .ref (ta 0)), (1, .int p1), (2, .int p2)] (Nat.le_of_ble_eq_true rfl) rfl ?_
  intro p e s m args below meth c A G _
  unfold f_X2_come at h
  refine z_iconst (v := 0) G dX2_come_0 (by decide) ?_
  refine z_istore_n (lv' := [(0, .ref (ta 0)), (1, .int p1), (2, .int p2), (3, .int 0)]) G dX2_come_1 rfl (by decide) [1, 2, 3, 0] rfl ?_
  refine z_aload_n G dX2_come_2 rfl 0 rfl ?_
  refine z_iload_n G dX2_come_3 rfl 1 rfl ?_
  obtain ⟨r1, e1, h⟩ := obind h
  refine z_kR (As := [.int p1]) (rest := []) (st' := [.int r1]) G pk_X2_placeOf pv_X2_placeOf ml_X2_63 (c_X2_placeOf (ta := ta) (t_narrower := t_narrower) (t_order := t_order) (t_items := t_items) (t_names := t_names) (t_owners := t_owners) (t_moving := t_moving) (t_all := t_all) (t_size := t_size) (t_nameCount := t_nameCount) (p1 := p1) e1) ⟨rfl, rfl⟩ ⟨Nat.le_of_ble_eq_true rfl, Nat.le_of_ble_eq_true rfl⟩ ⟨Nat.zero_le _, Nat.zero_le _⟩ rfl rfl (Nat.le_of_ble_eq_true rfl) 0 2 rfl rfl rfl [0, 1, 2, 3, 4, 5, 6] rfl rfl rfl dX2_come_4 (fun z2 => ?_)
  refine z_aload_n G dX2_come_7 rfl 0 rfl ?_
  refine z_iload_n G dX2_come_8 rfl 2 rfl ?_
  obtain ⟨r3, e3, h⟩ := obind h
  refine z_kR (As := [.int p2]) (rest := [.int r1]) (st' := [.int r3, .int r1]) G pk_X2_placeOf pv_X2_placeOf ml_X2_63 (c_X2_placeOf (ta := ta) (t_narrower := t_narrower) (t_order := t_order) (t_items := t_items) (t_names := t_names) (t_owners := t_owners) (t_moving := t_moving) (t_all := t_all) (t_size := t_size) (t_nameCount := t_nameCount) (p1 := p2) e3) ⟨rfl, rfl⟩ ⟨Nat.le_of_ble_eq_true rfl, Nat.le_of_ble_eq_true rfl⟩ ⟨Nat.zero_le _, Nat.zero_le _⟩ rfl rfl (Nat.le_of_ble_eq_true rfl) 0 2 rfl rfl rfl [0, 1, 2, 3, 4, 5, 6] rfl rfl rfl dX2_come_9 (fun z4 => ?_)
  refine z_icmp_le (tgt := 40) G dX2_come_12 (by decide) h (fun h => ?_) (fun h => ?_)
  · exact zb_X2_come_40 G  0 t_order t_moving h
  · refine z_aload_n G dX2_come_15 rfl 0 rfl ?_
    refine z_aload_n G dX2_come_16 rfl 0 rfl ?_
    refine z_iload_n G dX2_come_17 rfl 1 rfl ?_
    obtain ⟨r5, e5, h⟩ := obind h
    refine z_kR (As := [.int p1]) (rest := [.ref (ta 0)]) (st' := [.int r5, .ref (ta 0)]) G pk_X2_above pv_X2_above ml_X2_67 (c_X2_above (ta := ta) (t_narrower := t_narrower) (t_order := t_order) (t_items := t_items) (t_names := t_names) (t_owners := t_owners) (t_moving := t_moving) (t_all := t_all) (t_size := t_size) (t_nameCount := t_nameCount) (p1 := p1) e5) ⟨rfl, rfl⟩ ⟨Nat.le_of_ble_eq_true rfl, Nat.le_of_ble_eq_true rfl⟩ ⟨Nat.zero_le _, Nat.zero_le _⟩ rfl rfl (Nat.le_of_ble_eq_true rfl) 0 2 rfl rfl rfl [0, 1, 2, 3, 4, 5, 6] rfl rfl rfl dX2_come_18 (fun z6 => ?_)
    refine z_aload_n G dX2_come_21 rfl 0 rfl ?_
    refine z_iload_n G dX2_come_22 rfl 2 rfl ?_
    obtain ⟨r7, e7, h⟩ := obind h
    refine z_kR (As := [.int p2]) (rest := [.int r5, .ref (ta 0)]) (st' := [.int r7, .int r5, .ref (ta 0)]) G pk_X2_below pv_X2_below ml_X2_70 (c_X2_below (ta := ta) (t_narrower := t_narrower) (t_order := t_order) (t_items := t_items) (t_names := t_names) (t_owners := t_owners) (t_moving := t_moving) (t_all := t_all) (t_size := t_size) (t_nameCount := t_nameCount) (p1 := p2) e7) ⟨rfl, rfl⟩ ⟨Nat.le_of_ble_eq_true rfl, Nat.le_of_ble_eq_true rfl⟩ ⟨Nat.zero_le _, Nat.zero_le _⟩ rfl rfl (Nat.le_of_ble_eq_true rfl) 0 2 rfl rfl rfl [0, 1, 2, 3, 4, 5, 6] rfl rfl rfl dX2_come_23 (fun z8 => ?_)
    refine z_aload_n G dX2_come_26 rfl 0 rfl ?_
    refine z_iload_n G dX2_come_27 rfl 2 rfl ?_
    obtain ⟨r9, e9, h⟩ := obind h
    refine z_kR (As := [.int p2]) (rest := [.int r7, .int r5, .ref (ta 0)]) (st' := [.int r9, .int r7, .int r5, .ref (ta 0)]) G pk_X2_placeOf pv_X2_placeOf ml_X2_63 (c_X2_placeOf (ta := ta) (t_narrower := t_narrower) (t_order := t_order) (t_items := t_items) (t_names := t_names) (t_owners := t_owners) (t_moving := t_moving) (t_all := t_all) (t_size := t_size) (t_nameCount := t_nameCount) (p1 := p2) e9) ⟨rfl, rfl⟩ ⟨Nat.le_of_ble_eq_true rfl, Nat.le_of_ble_eq_true rfl⟩ ⟨Nat.zero_le _, Nat.zero_le _⟩ rfl rfl (Nat.le_of_ble_eq_true rfl) 0 2 rfl rfl rfl [0, 1, 2, 3, 4, 5, 6] rfl rfl rfl dX2_come_28 (fun z10 => ?_)
    refine z_aload_n G dX2_come_31 rfl 0 rfl ?_
    refine z_iload_n G dX2_come_32 rfl 1 rfl ?_
    obtain ⟨r11, e11, h⟩ := obind h
    refine z_kR (As := [.int p1]) (rest := [.int r9, .int r7, .int r5, .ref (ta 0)]) (st' := [.int r11, .int r9, .int r7, .int r5, .ref (ta 0)]) G pk_X2_placeOf pv_X2_placeOf ml_X2_63 (c_X2_placeOf (ta := ta) (t_narrower := t_narrower) (t_order := t_order) (t_items := t_items) (t_names := t_names) (t_owners := t_owners) (t_moving := t_moving) (t_all := t_all) (t_size := t_size) (t_nameCount := t_nameCount) (p1 := p1) e11) ⟨rfl, rfl⟩ ⟨Nat.le_of_ble_eq_true rfl, Nat.le_of_ble_eq_true rfl⟩ ⟨Nat.zero_le _, Nat.zero_le _⟩ rfl rfl (Nat.le_of_ble_eq_true rfl) 0 2 rfl rfl rfl [0, 1, 2, 3, 4, 5, 6] rfl rfl rfl dX2_come_33 (fun z12 => ?_)
    obtain ⟨r13, e13, h⟩ := obind h
    refine z_kV (As := [.int r5, .int r7, .int r9, .int r11]) (rest := []) (st' := [.int r13.1]) (ws' := (w_N cI cJ cZ cN ta t_narrower r13.2.1 t_items t_names t_owners r13.2.2 t_all t_size t_nameCount)) G pk_X2_mend pv_X2_mend ml_X2_73 (c_X2_mend (ta := ta) (t_narrower := t_narrower) (t_order := t_order) (t_items := t_items) (t_names := t_names) (t_owners := t_owners) (t_moving := t_moving) (t_all := t_all) (t_size := t_size) (t_nameCount := t_nameCount) (p1 := r5) (p2 := r7) (p3 := r9) (p4 := r11) e13) ⟨rfl, rfl⟩ ⟨Nat.le_of_ble_eq_true rfl, Nat.le_of_ble_eq_true rfl⟩ ⟨Nat.zero_le _, Nat.zero_le _⟩ rfl rfl (Nat.le_of_ble_eq_true rfl) 0 2 rfl rfl rfl [0, 1, 2, 3, 4, 5, 6] rfl rfl [some 0, some 1, some 2, some 3, some 4, some 5, some 6] rfl rfl rfl rfl dX2_come_36 (fun z14 => ?_)
    refine z_istore_n (lv' := [(0, .ref (ta 0)), (1, .int p1), (2, .int p2), (3, .int r13.1)]) G dX2_come_39 rfl (by decide) [1, 2, 3, 0] rfl ?_
    exact zb_X2_come_40 G  r13.1 r13.2.1 r13.2.2 h

noncomputable def f_X2_linksAmong_b4 (t_narrower : Nat → Int32) (p1 : Int32) (k4 : Int32 → Int32 → Option (Int32)) (x2 : Int32) (x3 : Int32) : Option (Int32) :=
  if 24 ≤ x3 then some (x2) else if (f_X6_holds p1 x3) = 0 then k4 x2 (x3 + 1) else chk (inb x3 24) (k4 (x2 + (f_J6_bitCount_0f7a4 ((t_narrower (ix x3)) &&& p1))) (x3 + 1))
set_option maxRecDepth 100000 in
set_option maxHeartbeats 4000000 in
theorem zb_X2_linksAmong_4 {p : Program} {l : Launch} {e : Env} {s : State} {m : MethodId} {args : Array Value} {below : List Frame} {meth : Method} {c : Code} {A : Nat → Prop} {dC : Nat → ClassId} {dI : Nat → Nat → Nat} {cI cJ cZ cN : ClassId} {ta : Nat → Nat} {t_narrower : Nat → Int32} {t_order : Nat → Int32} {t_items : Nat → Int64} {t_names : Nat → Int32} {t_owners : Nat → Int32} {t_moving : Nat → Int32} {t_all : Int32} {t_size : Int32} {t_nameCount : Int32} {p1 : Int32} {res : Int32} (G : zG p m c cX2_linksAmong 4 s args RX2 (dC, dI) vwCl (zT cI cJ cZ cN) A meth (some .int)) {k4 : Int32 → Int32 → Option (Int32)} (hr4 : ∀ (x2 : Int32) (x3 : Int32), k4 x2 x3 = some res → Z p l e ({ frames := 1, cells := 0, slots := 0, locals := 21 }) s m args below meth c (dC, dI) vwCl A 4 0 0 (MQ below (zQ (some (.int res)) (True) (w_N cI cJ cZ cN ta t_narrower t_order t_items t_names t_owners t_moving t_all t_size t_nameCount) (dC, dI) vwCl A) args s 0 0 A) (w_N cI cJ cZ cN ta t_narrower t_order t_items t_names t_owners t_moving t_all t_size t_nameCount) [(0, .ref (ta 0)), (1, .int p1), (2, .int x2), (3, .int x3)] [] 4) : ∀ (x2 : Int32) (x3 : Int32), f_X2_linksAmong_b4 t_narrower p1 k4 x2 x3 = some res → Z p l e ({ frames := 1, cells := 0, slots := 0, locals := 21 }) s m args below meth c (dC, dI) vwCl A 4 0 0 (MQ below (zQ (some (.int res)) (True) (w_N cI cJ cZ cN ta t_narrower t_order t_items t_names t_owners t_moving t_all t_size t_nameCount) (dC, dI) vwCl A) args s 0 0 A) (w_N cI cJ cZ cN ta t_narrower t_order t_items t_names t_owners t_moving t_all t_size t_nameCount) [(0, .ref (ta 0)), (1, .int p1), (2, .int x2), (3, .int x3)] [] 4 := by
  intro x2 x3 h
  unfold f_X2_linksAmong_b4 at h
  refine z_iload_n G dX2_linksAmong_4 rfl 3 rfl ?_
  refine z_bipush (v := 24) G dX2_linksAmong_5 (by decide) ?_
  refine z_icmp_ge (tgt := 38) G dX2_linksAmong_7 (by decide) h (fun h => ?_) (fun h => ?_)
  · refine z_iload_n G dX2_linksAmong_38 rfl 2 rfl ?_
    obtain rfl := Option.some.inj h
    exact z_iret G rfl dX2_linksAmong_39 rfl trivial rfl
  · refine z_iload_n G dX2_linksAmong_10 rfl 1 rfl ?_
    refine z_iload_n G dX2_linksAmong_11 rfl 3 rfl ?_
    refine z_kSN (As := [.int p1, .int x3]) (rest := []) (st' := [.int (f_X6_holds p1 x3)]) G pk_X6_holds ps_X6_holds nl_X2_47 (c_X6_holds (p0 := p1) (p1 := x3) rfl) ⟨rfl, rfl⟩ ⟨Nat.le_of_ble_eq_true rfl, Nat.le_of_ble_eq_true rfl⟩ ⟨Nat.zero_le _, Nat.zero_le _⟩ rfl rfl (Nat.le_of_ble_eq_true rfl) rfl dX2_linksAmong_12 (fun z1 => ?_)
    refine z_if_eq (tgt := 32) G dX2_linksAmong_15 (by decide) h (fun h => ?_) (fun h => ?_)
    · refine z_iinc (v := x3 + 1) (lv' := [(0, .ref (ta 0)), (1, .int p1), (2, .int x2), (3, .int (x3 + 1))]) G dX2_linksAmong_32 3 rfl rfl (by decide) [1, 2, 3, 0] rfl ?_
      refine z_goto (tgt := 4) G dX2_linksAmong_35 (by decide) ?_
      exact hr4 x2 (x3 + 1) h
    · refine z_iload_n G dX2_linksAmong_18 rfl 2 rfl ?_
      refine z_aload_n G dX2_linksAmong_19 rfl 0 rfl ?_
      refine z_get (ci := 2) (v := .ref (ta 1)) G in_X2 0 rfl rfl 0 (by decide) fl_X2_9 rfl dX2_linksAmong_20 ?_
      refine z_iload_n G dX2_linksAmong_23 rfl 3 rfl ?_
      refine z_iaload G 1 0 rfl rfl dX2_linksAmong_24 h (fun h => ?_)
      refine z_iload_n G dX2_linksAmong_25 rfl 1 rfl ?_
      refine z_iand G dX2_linksAmong_26 ?_
      refine z_kS (As := [.int ((t_narrower (ix x3)) &&& p1)]) (rest := [.int x2]) (st' := [.int (f_J6_bitCount_0f7a4 ((t_narrower (ix x3)) &&& p1)), .int x2]) G pk_J6_bitCount_0f7a4 ps_J6_bitCount_0f7a4 ml_X2_87 (c_J6_bitCount_0f7a4 (p0 := (t_narrower (ix x3)) &&& p1) rfl) ⟨rfl, rfl⟩ ⟨Nat.le_of_ble_eq_true rfl, Nat.le_of_ble_eq_true rfl⟩ ⟨Nat.zero_le _, Nat.zero_le _⟩ rfl rfl (Nat.le_of_ble_eq_true rfl) rfl dX2_linksAmong_27 (fun z2 => ?_)
      refine z_iadd G dX2_linksAmong_30 ?_
      refine z_istore_n (lv' := [(0, .ref (ta 0)), (1, .int p1), (2, .int (x2 + (f_J6_bitCount_0f7a4 ((t_narrower (ix x3)) &&& p1)))), (3, .int x3)]) G dX2_linksAmong_31 rfl (by decide) [1, 2, 0, 3] rfl ?_
      refine z_iinc (v := x3 + 1) (lv' := [(0, .ref (ta 0)), (1, .int p1), (2, .int (x2 + (f_J6_bitCount_0f7a4 ((t_narrower (ix x3)) &&& p1)))), (3, .int (x3 + 1))]) G dX2_linksAmong_32 3 rfl rfl (by decide) [1, 2, 3, 0] rfl ?_
      refine z_goto (tgt := 4) G dX2_linksAmong_35 (by decide) ?_
      exact hr4 (x2 + (f_J6_bitCount_0f7a4 ((t_narrower (ix x3)) &&& p1))) (x3 + 1) h
noncomputable def f_X2_linksAmong_l4 (t_narrower : Nat → Int32) (p1 : Int32)  (x2 : Int32) (x3 : Int32) : Option (Int32) := loopN (V := Int32 × Int32) (fun rc v => f_X2_linksAmong_b4 t_narrower p1  (fun x0_ x1_ => rc (x0_, x1_)) v.1 v.2) 200 (x2, x3)
set_option maxRecDepth 100000 in
set_option maxHeartbeats 4000000 in
theorem zl_X2_linksAmong_4 {p : Program} {l : Launch} {e : Env} {s : State} {m : MethodId} {args : Array Value} {below : List Frame} {meth : Method} {c : Code} {A : Nat → Prop} {dC : Nat → ClassId} {dI : Nat → Nat → Nat} {cI cJ cZ cN : ClassId} {ta : Nat → Nat} {t_narrower : Nat → Int32} {t_order : Nat → Int32} {t_items : Nat → Int64} {t_names : Nat → Int32} {t_owners : Nat → Int32} {t_moving : Nat → Int32} {t_all : Int32} {t_size : Int32} {t_nameCount : Int32} {p1 : Int32} {res : Int32} (G : zG p m c cX2_linksAmong 4 s args RX2 (dC, dI) vwCl (zT cI cJ cZ cN) A meth (some .int))  : ∀ (x2 : Int32) (x3 : Int32), f_X2_linksAmong_l4 t_narrower p1  x2 x3 = some res → Z p l e ({ frames := 1, cells := 0, slots := 0, locals := 21 }) s m args below meth c (dC, dI) vwCl A 4 0 0 (MQ below (zQ (some (.int res)) (True) (w_N cI cJ cZ cN ta t_narrower t_order t_items t_names t_owners t_moving t_all t_size t_nameCount) (dC, dI) vwCl A) args s 0 0 A) (w_N cI cJ cZ cN ta t_narrower t_order t_items t_names t_owners t_moving t_all t_size t_nameCount) [(0, .ref (ta 0)), (1, .int p1), (2, .int x2), (3, .int x3)] [] 4 := by
  intro x2 x3 h
  exact zloop (P := fun v => Z p l e ({ frames := 1, cells := 0, slots := 0, locals := 21 }) s m args below meth c (dC, dI) vwCl A 4 0 0 (MQ below (zQ (some (.int res)) (True) (w_N cI cJ cZ cN ta t_narrower t_order t_items t_names t_owners t_moving t_all t_size t_nameCount) (dC, dI) vwCl A) args s 0 0 A) (w_N cI cJ cZ cN ta t_narrower t_order t_items t_names t_owners t_moving t_all t_size t_nameCount) [(0, .ref (ta 0)), (1, .int p1), (2, .int v.1), (3, .int v.2)] [] 4) (fun rc hr v h => zb_X2_linksAmong_4 G  (fun x0_ x1_ h => hr (x0_, x1_) h) v.1 v.2 h) 200 (x2, x3) h
noncomputable def f_X2_linksAmong (t_narrower : Nat → Int32) (p1 : Int32) : Option (Int32) :=
  f_X2_linksAmong_l4 t_narrower p1  0 0
set_option maxRecDepth 100000 in
set_option maxHeartbeats 4000000 in
theorem c_X2_linksAmong {l : Launch} {dC : Nat → ClassId} {dI : Nat → Nat → Nat} {cI cJ cZ cN : ClassId} {ta : Nat → Nat} {t_narrower : Nat → Int32} {t_order : Nat → Int32} {t_items : Nat → Int64} {t_names : Nat → Int32} {t_owners : Nat → Int32} {t_moving : Nat → Int32} {t_all : Int32} {t_size : Int32} {t_nameCount : Int32} {p1 : Int32} {res : Int32} (h : f_X2_linksAmong t_narrower p1 = some res) : zM l yX2_linksAmong cX2_linksAmong 4 (some .int) ({ frames := 1, cells := 0, slots := 0, locals := 21 }) [.ref (ta 0), .int p1] (dC, dI) vwCl (zT cI cJ cZ cN) (w_N cI cJ cZ cN ta t_narrower t_order t_items t_names t_owners t_moving t_all t_size t_nameCount) (some (.int res)) (True) (w_N cI cJ cZ cN ta t_narrower t_order t_items t_names t_owners t_moving t_all t_size t_nameCount) := by
  refine zM_of (own := RX2) (by decide) rfl [(0, .ref (ta 0)), (1, .int p1)] (Nat.le_of_ble_eq_true rfl) rfl ?_
  intro p e s m args below meth c A G _
  unfold f_X2_linksAmong at h
  refine z_iconst (v := 0) G dX2_linksAmong_0 (by decide) ?_
  refine z_istore_n (lv' := [(0, .ref (ta 0)), (1, .int p1), (2, .int 0)]) G dX2_linksAmong_1 rfl (by decide) [1, 2, 0] rfl ?_
  refine z_iconst (v := 0) G dX2_linksAmong_2 (by decide) ?_
  refine z_istore_n (lv' := [(0, .ref (ta 0)), (1, .int p1), (2, .int 0), (3, .int 0)]) G dX2_linksAmong_3 rfl (by decide) [1, 2, 3, 0] rfl ?_
  exact zl_X2_linksAmong_4 G  0 0 h

noncomputable def f_X2_linkCount (t_narrower : Nat → Int32) (t_all : Int32) : Option (Int32) :=
  (f_X2_linksAmong t_narrower t_all).bind (fun r1 => some (r1))
set_option maxRecDepth 100000 in
set_option maxHeartbeats 4000000 in
theorem c_X2_linkCount {l : Launch} {dC : Nat → ClassId} {dI : Nat → Nat → Nat} {cI cJ cZ cN : ClassId} {ta : Nat → Nat} {t_narrower : Nat → Int32} {t_order : Nat → Int32} {t_items : Nat → Int64} {t_names : Nat → Int32} {t_owners : Nat → Int32} {t_moving : Nat → Int32} {t_all : Int32} {t_size : Int32} {t_nameCount : Int32}  {res : Int32} (h : f_X2_linkCount t_narrower t_all = some res) : zM l yX2_linkCount cX2_linkCount 1 (some .int) ({ frames := 2, cells := 0, slots := 0, locals := 44 }) [.ref (ta 0)] (dC, dI) vwCl (zT cI cJ cZ cN) (w_N cI cJ cZ cN ta t_narrower t_order t_items t_names t_owners t_moving t_all t_size t_nameCount) (some (.int res)) (True) (w_N cI cJ cZ cN ta t_narrower t_order t_items t_names t_owners t_moving t_all t_size t_nameCount) := by
  refine zM_of (own := RX2) (by decide) rfl [(0, .ref (ta 0))] (Nat.le_of_ble_eq_true rfl) rfl ?_
  intro p e s m args below meth c A G _
  unfold f_X2_linkCount at h
  refine z_aload_n G dX2_linkCount_0 rfl 0 rfl ?_
  refine z_aload_n G dX2_linkCount_1 rfl 0 rfl ?_
  refine z_get (ci := 2) (v := .int t_all) G in_X2 0 rfl rfl 6 (by decide) fl_X2_37 rfl dX2_linkCount_2 ?_
  obtain ⟨r1, e1, h⟩ := obind h
  refine z_kR (As := [.int t_all]) (rest := []) (st' := [.int r1]) G pk_X2_linksAmong pv_X2_linksAmong ml_X2_84 (c_X2_linksAmong (ta := ta) (t_narrower := t_narrower) (t_order := t_order) (t_items := t_items) (t_names := t_names) (t_owners := t_owners) (t_moving := t_moving) (t_all := t_all) (t_size := t_size) (t_nameCount := t_nameCount) (p1 := t_all) e1) ⟨rfl, rfl⟩ ⟨Nat.le_of_ble_eq_true rfl, Nat.le_of_ble_eq_true rfl⟩ ⟨Nat.zero_le _, Nat.zero_le _⟩ rfl rfl (Nat.le_of_ble_eq_true rfl) 0 2 rfl rfl rfl [0, 1, 2, 3, 4, 5, 6] rfl rfl rfl dX2_linkCount_5 (fun z2 => ?_)
  obtain rfl := Option.some.inj h
  exact z_iret G rfl dX2_linkCount_8 rfl trivial rfl

noncomputable def f_X2_broaderOf_b4 (t_narrower : Nat → Int32) (p1 : Int32) (k4 : Int32 → Int32 → Option (Int32)) (x2 : Int32) (x3 : Int32) : Option (Int32) :=
  if 24 ≤ x3 then some (x2) else chk (inb x3 24) (if (f_X6_holds (t_narrower (ix x3)) p1) = 0 then k4 x2 (x3 + 1) else k4 (x2 ||| (jshl 1 x3)) (x3 + 1))
set_option maxRecDepth 100000 in
set_option maxHeartbeats 4000000 in
theorem zb_X2_broaderOf_4 {p : Program} {l : Launch} {e : Env} {s : State} {m : MethodId} {args : Array Value} {below : List Frame} {meth : Method} {c : Code} {A : Nat → Prop} {dC : Nat → ClassId} {dI : Nat → Nat → Nat} {cI cJ cZ cN : ClassId} {ta : Nat → Nat} {t_narrower : Nat → Int32} {t_order : Nat → Int32} {t_items : Nat → Int64} {t_names : Nat → Int32} {t_owners : Nat → Int32} {t_moving : Nat → Int32} {t_all : Int32} {t_size : Int32} {t_nameCount : Int32} {p1 : Int32} {res : Int32} (G : zG p m c cX2_broaderOf 4 s args RX2 (dC, dI) vwCl (zT cI cJ cZ cN) A meth (some .int)) {k4 : Int32 → Int32 → Option (Int32)} (hr4 : ∀ (x2 : Int32) (x3 : Int32), k4 x2 x3 = some res → Z p l e ({ frames := 1, cells := 0, slots := 0, locals := 21 }) s m args below meth c (dC, dI) vwCl A 4 0 0 (MQ below (zQ (some (.int res)) (True) (w_N cI cJ cZ cN ta t_narrower t_order t_items t_names t_owners t_moving t_all t_size t_nameCount) (dC, dI) vwCl A) args s 0 0 A) (w_N cI cJ cZ cN ta t_narrower t_order t_items t_names t_owners t_moving t_all t_size t_nameCount) [(0, .ref (ta 0)), (1, .int p1), (2, .int x2), (3, .int x3)] [] 4) : ∀ (x2 : Int32) (x3 : Int32), f_X2_broaderOf_b4 t_narrower p1 k4 x2 x3 = some res → Z p l e ({ frames := 1, cells := 0, slots := 0, locals := 21 }) s m args below meth c (dC, dI) vwCl A 4 0 0 (MQ below (zQ (some (.int res)) (True) (w_N cI cJ cZ cN ta t_narrower t_order t_items t_names t_owners t_moving t_all t_size t_nameCount) (dC, dI) vwCl A) args s 0 0 A) (w_N cI cJ cZ cN ta t_narrower t_order t_items t_names t_owners t_moving t_all t_size t_nameCount) [(0, .ref (ta 0)), (1, .int p1), (2, .int x2), (3, .int x3)] [] 4 := by
  intro x2 x3 h
  unfold f_X2_broaderOf_b4 at h
  refine z_iload_n G dX2_broaderOf_4 rfl 3 rfl ?_
  refine z_bipush (v := 24) G dX2_broaderOf_5 (by decide) ?_
  refine z_icmp_ge (tgt := 35) G dX2_broaderOf_7 (by decide) h (fun h => ?_) (fun h => ?_)
  · refine z_iload_n G dX2_broaderOf_35 rfl 2 rfl ?_
    obtain rfl := Option.some.inj h
    exact z_iret G rfl dX2_broaderOf_36 rfl trivial rfl
  · refine z_aload_n G dX2_broaderOf_10 rfl 0 rfl ?_
    refine z_get (ci := 2) (v := .ref (ta 1)) G in_X2 0 rfl rfl 0 (by decide) fl_X2_9 rfl dX2_broaderOf_11 ?_
    refine z_iload_n G dX2_broaderOf_14 rfl 3 rfl ?_
    refine z_iaload G 1 0 rfl rfl dX2_broaderOf_15 h (fun h => ?_)
    refine z_iload_n G dX2_broaderOf_16 rfl 1 rfl ?_
    refine z_kSN (As := [.int (t_narrower (ix x3)), .int p1]) (rest := []) (st' := [.int (f_X6_holds (t_narrower (ix x3)) p1)]) G pk_X6_holds ps_X6_holds nl_X2_47 (c_X6_holds (p0 := t_narrower (ix x3)) (p1 := p1) rfl) ⟨rfl, rfl⟩ ⟨Nat.le_of_ble_eq_true rfl, Nat.le_of_ble_eq_true rfl⟩ ⟨Nat.zero_le _, Nat.zero_le _⟩ rfl rfl (Nat.le_of_ble_eq_true rfl) rfl dX2_broaderOf_17 (fun z1 => ?_)
    refine z_if_eq (tgt := 29) G dX2_broaderOf_20 (by decide) h (fun h => ?_) (fun h => ?_)
    · refine z_iinc (v := x3 + 1) (lv' := [(0, .ref (ta 0)), (1, .int p1), (2, .int x2), (3, .int (x3 + 1))]) G dX2_broaderOf_29 3 rfl rfl (by decide) [1, 2, 3, 0] rfl ?_
      refine z_goto (tgt := 4) G dX2_broaderOf_32 (by decide) ?_
      exact hr4 x2 (x3 + 1) h
    · refine z_iload_n G dX2_broaderOf_23 rfl 2 rfl ?_
      refine z_iconst (v := 1) G dX2_broaderOf_24 (by decide) ?_
      refine z_iload_n G dX2_broaderOf_25 rfl 3 rfl ?_
      refine z_ishl G dX2_broaderOf_26 ?_
      refine z_ior G dX2_broaderOf_27 ?_
      refine z_istore_n (lv' := [(0, .ref (ta 0)), (1, .int p1), (2, .int (x2 ||| (jshl 1 x3))), (3, .int x3)]) G dX2_broaderOf_28 rfl (by decide) [1, 2, 0, 3] rfl ?_
      refine z_iinc (v := x3 + 1) (lv' := [(0, .ref (ta 0)), (1, .int p1), (2, .int (x2 ||| (jshl 1 x3))), (3, .int (x3 + 1))]) G dX2_broaderOf_29 3 rfl rfl (by decide) [1, 2, 3, 0] rfl ?_
      refine z_goto (tgt := 4) G dX2_broaderOf_32 (by decide) ?_
      exact hr4 (x2 ||| (jshl 1 x3)) (x3 + 1) h
noncomputable def f_X2_broaderOf_l4 (t_narrower : Nat → Int32) (p1 : Int32)  (x2 : Int32) (x3 : Int32) : Option (Int32) := loopN (V := Int32 × Int32) (fun rc v => f_X2_broaderOf_b4 t_narrower p1  (fun x0_ x1_ => rc (x0_, x1_)) v.1 v.2) 200 (x2, x3)
set_option maxRecDepth 100000 in
set_option maxHeartbeats 4000000 in
theorem zl_X2_broaderOf_4 {p : Program} {l : Launch} {e : Env} {s : State} {m : MethodId} {args : Array Value} {below : List Frame} {meth : Method} {c : Code} {A : Nat → Prop} {dC : Nat → ClassId} {dI : Nat → Nat → Nat} {cI cJ cZ cN : ClassId} {ta : Nat → Nat} {t_narrower : Nat → Int32} {t_order : Nat → Int32} {t_items : Nat → Int64} {t_names : Nat → Int32} {t_owners : Nat → Int32} {t_moving : Nat → Int32} {t_all : Int32} {t_size : Int32} {t_nameCount : Int32} {p1 : Int32} {res : Int32} (G : zG p m c cX2_broaderOf 4 s args RX2 (dC, dI) vwCl (zT cI cJ cZ cN) A meth (some .int))  : ∀ (x2 : Int32) (x3 : Int32), f_X2_broaderOf_l4 t_narrower p1  x2 x3 = some res → Z p l e ({ frames := 1, cells := 0, slots := 0, locals := 21 }) s m args below meth c (dC, dI) vwCl A 4 0 0 (MQ below (zQ (some (.int res)) (True) (w_N cI cJ cZ cN ta t_narrower t_order t_items t_names t_owners t_moving t_all t_size t_nameCount) (dC, dI) vwCl A) args s 0 0 A) (w_N cI cJ cZ cN ta t_narrower t_order t_items t_names t_owners t_moving t_all t_size t_nameCount) [(0, .ref (ta 0)), (1, .int p1), (2, .int x2), (3, .int x3)] [] 4 := by
  intro x2 x3 h
  exact zloop (P := fun v => Z p l e ({ frames := 1, cells := 0, slots := 0, locals := 21 }) s m args below meth c (dC, dI) vwCl A 4 0 0 (MQ below (zQ (some (.int res)) (True) (w_N cI cJ cZ cN ta t_narrower t_order t_items t_names t_owners t_moving t_all t_size t_nameCount) (dC, dI) vwCl A) args s 0 0 A) (w_N cI cJ cZ cN ta t_narrower t_order t_items t_names t_owners t_moving t_all t_size t_nameCount) [(0, .ref (ta 0)), (1, .int p1), (2, .int v.1), (3, .int v.2)] [] 4) (fun rc hr v h => zb_X2_broaderOf_4 G  (fun x0_ x1_ h => hr (x0_, x1_) h) v.1 v.2 h) 200 (x2, x3) h
noncomputable def f_X2_broaderOf (t_narrower : Nat → Int32) (p1 : Int32) : Option (Int32) :=
  f_X2_broaderOf_l4 t_narrower p1  0 0
set_option maxRecDepth 100000 in
set_option maxHeartbeats 4000000 in
theorem c_X2_broaderOf {l : Launch} {dC : Nat → ClassId} {dI : Nat → Nat → Nat} {cI cJ cZ cN : ClassId} {ta : Nat → Nat} {t_narrower : Nat → Int32} {t_order : Nat → Int32} {t_items : Nat → Int64} {t_names : Nat → Int32} {t_owners : Nat → Int32} {t_moving : Nat → Int32} {t_all : Int32} {t_size : Int32} {t_nameCount : Int32} {p1 : Int32} {res : Int32} (h : f_X2_broaderOf t_narrower p1 = some res) : zM l yX2_broaderOf cX2_broaderOf 4 (some .int) ({ frames := 1, cells := 0, slots := 0, locals := 21 }) [.ref (ta 0), .int p1] (dC, dI) vwCl (zT cI cJ cZ cN) (w_N cI cJ cZ cN ta t_narrower t_order t_items t_names t_owners t_moving t_all t_size t_nameCount) (some (.int res)) (True) (w_N cI cJ cZ cN ta t_narrower t_order t_items t_names t_owners t_moving t_all t_size t_nameCount) := by
  refine zM_of (own := RX2) (by decide) rfl [(0, .ref (ta 0)), (1, .int p1)] (Nat.le_of_ble_eq_true rfl) rfl ?_
  intro p e s m args below meth c A G _
  unfold f_X2_broaderOf at h
  refine z_iconst (v := 0) G dX2_broaderOf_0 (by decide) ?_
  refine z_istore_n (lv' := [(0, .ref (ta 0)), (1, .int p1), (2, .int 0)]) G dX2_broaderOf_1 rfl (by decide) [1, 2, 0] rfl ?_
  refine z_iconst (v := 0) G dX2_broaderOf_2 (by decide) ?_
  refine z_istore_n (lv' := [(0, .ref (ta 0)), (1, .int p1), (2, .int 0), (3, .int 0)]) G dX2_broaderOf_3 rfl (by decide) [1, 2, 3, 0] rfl ?_
  exact zl_X2_broaderOf_4 G  0 0 h

noncomputable def f_X2_removeName_b4 (t_nameCount : Int32) (p1 : Int32) (k4 : Int32 → (Nat → Int32) → (Nat → Int32) → Option ((Nat → Int32) × (Nat → Int32) × Int32)) (x2 : Int32) (t_names : Nat → Int32) (t_owners : Nat → Int32) : Option ((Nat → Int32) × (Nat → Int32) × Int32) :=
  if t_nameCount ≤ x2 then some (t_names, t_owners, t_nameCount - 1) else chk (inb x2 40) (chk (inb (x2 - 1) 40) (chk (inb x2 40) (chk (inb (x2 - 1) 40) (k4 (x2 + 1) (upd t_names (ix (x2 - 1)) (t_names (ix x2))) (upd t_owners (ix (x2 - 1)) (t_owners (ix x2)))))))
set_option maxRecDepth 100000 in
set_option maxHeartbeats 4000000 in
theorem zb_X2_removeName_4 {p : Program} {l : Launch} {e : Env} {s : State} {m : MethodId} {args : Array Value} {below : List Frame} {meth : Method} {c : Code} {A : Nat → Prop} {dC : Nat → ClassId} {dI : Nat → Nat → Nat} {cI cJ cZ cN : ClassId} {ta : Nat → Nat} {t_narrower : Nat → Int32} {t_order : Nat → Int32} {t_items : Nat → Int64} {t_moving : Nat → Int32} {t_all : Int32} {t_size : Int32} {t_nameCount : Int32} {p1 : Int32} {res : (Nat → Int32) × (Nat → Int32) × Int32} (G : zG p m c cX2_removeName 3 s args RX2 (dC, dI) vwCl (zT cI cJ cZ cN) A meth none) {k4 : Int32 → (Nat → Int32) → (Nat → Int32) → Option ((Nat → Int32) × (Nat → Int32) × Int32)} (hr4 : ∀ (x2 : Int32) (t_names : Nat → Int32) (t_owners : Nat → Int32), k4 x2 t_names t_owners = some res → Z p l e ({ frames := 0, cells := 0, slots := 0, locals := 0 }) s m args below meth c (dC, dI) vwCl A 3 0 0 (MQ below (zQ (none) (True) (w_N cI cJ cZ cN ta t_narrower t_order t_items res.1 res.2.1 t_moving t_all t_size res.2.2) (dC, dI) vwCl A) args s 0 0 A) (w_N cI cJ cZ cN ta t_narrower t_order t_items t_names t_owners t_moving t_all t_size t_nameCount) [(0, .ref (ta 0)), (1, .int p1), (2, .int x2)] [] 4) : ∀ (x2 : Int32) (t_names : Nat → Int32) (t_owners : Nat → Int32), f_X2_removeName_b4 t_nameCount p1 k4 x2 t_names t_owners = some res → Z p l e ({ frames := 0, cells := 0, slots := 0, locals := 0 }) s m args below meth c (dC, dI) vwCl A 3 0 0 (MQ below (zQ (none) (True) (w_N cI cJ cZ cN ta t_narrower t_order t_items res.1 res.2.1 t_moving t_all t_size res.2.2) (dC, dI) vwCl A) args s 0 0 A) (w_N cI cJ cZ cN ta t_narrower t_order t_items t_names t_owners t_moving t_all t_size t_nameCount) [(0, .ref (ta 0)), (1, .int p1), (2, .int x2)] [] 4 := by
  intro x2 t_names t_owners h
  unfold f_X2_removeName_b4 at h
  refine z_iload_n G dX2_removeName_4 rfl 2 rfl ?_
  refine z_aload_n G dX2_removeName_5 rfl 0 rfl ?_
  refine z_get (ci := 2) (v := .int t_nameCount) G in_X2 0 rfl rfl 8 (by decide) fl_X2_44 rfl dX2_removeName_6 ?_
  refine z_icmp_ge (tgt := 46) G dX2_removeName_9 (by decide) h (fun h => ?_) (fun h => ?_)
  · refine z_aload_n G dX2_removeName_46 rfl 0 rfl ?_
    refine z_dup G dX2_removeName_47 rfl ?_
    refine z_get (ci := 2) (v := .int t_nameCount) G in_X2 0 rfl rfl 8 (by decide) fl_X2_44 rfl dX2_removeName_48 ?_
    refine z_iconst (v := 1) G dX2_removeName_51 (by decide) ?_
    refine z_isub G dX2_removeName_52 ?_
    refine z_put (ci := 2) (ws' := (w_N cI cJ cZ cN ta t_narrower t_order t_items t_names t_owners t_moving t_all t_size (t_nameCount - 1))) G in_X2 tyX2 tyX2_ok nmX2 0 rfl rfl 8 (by decide) fl_X2_44 rfl rfl rfl (Nat.le_of_ble_eq_true rfl) rfl dX2_removeName_53 ?_
    obtain rfl := Option.some.inj h
    exact z_vret G rfl dX2_removeName_56 rfl trivial rfl
  · refine z_aload_n G dX2_removeName_12 rfl 0 rfl ?_
    refine z_get (ci := 2) (v := .ref (ta 4)) G in_X2 0 rfl rfl 3 (by decide) fl_X2_22 rfl dX2_removeName_13 ?_
    refine z_iload_n G dX2_removeName_16 rfl 2 rfl ?_
    refine z_iconst (v := 1) G dX2_removeName_17 (by decide) ?_
    refine z_isub G dX2_removeName_18 ?_
    refine z_aload_n G dX2_removeName_19 rfl 0 rfl ?_
    refine z_get (ci := 2) (v := .ref (ta 4)) G in_X2 0 rfl rfl 3 (by decide) fl_X2_22 rfl dX2_removeName_20 ?_
    refine z_iload_n G dX2_removeName_23 rfl 2 rfl ?_
    refine z_iaload G 4 0 rfl rfl dX2_removeName_24 h (fun h => ?_)
    refine z_iastore (ws' := (w_N cI cJ cZ cN ta t_narrower t_order t_items (upd t_names (ix (x2 - 1)) (t_names (ix x2))) t_owners t_moving t_all t_size t_nameCount)) G 4 0 rfl rfl rfl dX2_removeName_25 h (fun h => ?_)
    refine z_aload_n G dX2_removeName_26 rfl 0 rfl ?_
    refine z_get (ci := 2) (v := .ref (ta 5)) G in_X2 0 rfl rfl 4 (by decide) fl_X2_25 rfl dX2_removeName_27 ?_
    refine z_iload_n G dX2_removeName_30 rfl 2 rfl ?_
    refine z_iconst (v := 1) G dX2_removeName_31 (by decide) ?_
    refine z_isub G dX2_removeName_32 ?_
    refine z_aload_n G dX2_removeName_33 rfl 0 rfl ?_
    refine z_get (ci := 2) (v := .ref (ta 5)) G in_X2 0 rfl rfl 4 (by decide) fl_X2_25 rfl dX2_removeName_34 ?_
    refine z_iload_n G dX2_removeName_37 rfl 2 rfl ?_
    refine z_iaload G 5 0 rfl rfl dX2_removeName_38 h (fun h => ?_)
    refine z_iastore (ws' := (w_N cI cJ cZ cN ta t_narrower t_order t_items (upd t_names (ix (x2 - 1)) (t_names (ix x2))) (upd t_owners (ix (x2 - 1)) (t_owners (ix x2))) t_moving t_all t_size t_nameCount)) G 5 0 rfl rfl rfl dX2_removeName_39 h (fun h => ?_)
    refine z_iinc (v := x2 + 1) (lv' := [(0, .ref (ta 0)), (1, .int p1), (2, .int (x2 + 1))]) G dX2_removeName_40 2 rfl rfl (by decide) [1, 2, 0] rfl ?_
    refine z_goto (tgt := 4) G dX2_removeName_43 (by decide) ?_
    exact hr4 (x2 + 1) (upd t_names (ix (x2 - 1)) (t_names (ix x2))) (upd t_owners (ix (x2 - 1)) (t_owners (ix x2))) h
noncomputable def f_X2_removeName_l4 (t_nameCount : Int32) (p1 : Int32)  (x2 : Int32) (t_names : Nat → Int32) (t_owners : Nat → Int32) : Option ((Nat → Int32) × (Nat → Int32) × Int32) := loopN (V := Int32 × (Nat → Int32) × (Nat → Int32)) (fun rc v => f_X2_removeName_b4 t_nameCount p1  (fun x0_ x1_ x2_ => rc (x0_, x1_, x2_)) v.1 v.2.1 v.2.2) 200 (x2, t_names, t_owners)
set_option maxRecDepth 100000 in
set_option maxHeartbeats 4000000 in
theorem zl_X2_removeName_4 {p : Program} {l : Launch} {e : Env} {s : State} {m : MethodId} {args : Array Value} {below : List Frame} {meth : Method} {c : Code} {A : Nat → Prop} {dC : Nat → ClassId} {dI : Nat → Nat → Nat} {cI cJ cZ cN : ClassId} {ta : Nat → Nat} {t_narrower : Nat → Int32} {t_order : Nat → Int32} {t_items : Nat → Int64} {t_moving : Nat → Int32} {t_all : Int32} {t_size : Int32} {t_nameCount : Int32} {p1 : Int32} {res : (Nat → Int32) × (Nat → Int32) × Int32} (G : zG p m c cX2_removeName 3 s args RX2 (dC, dI) vwCl (zT cI cJ cZ cN) A meth none)  : ∀ (x2 : Int32) (t_names : Nat → Int32) (t_owners : Nat → Int32), f_X2_removeName_l4 t_nameCount p1  x2 t_names t_owners = some res → Z p l e ({ frames := 0, cells := 0, slots := 0, locals := 0 }) s m args below meth c (dC, dI) vwCl A 3 0 0 (MQ below (zQ (none) (True) (w_N cI cJ cZ cN ta t_narrower t_order t_items res.1 res.2.1 t_moving t_all t_size res.2.2) (dC, dI) vwCl A) args s 0 0 A) (w_N cI cJ cZ cN ta t_narrower t_order t_items t_names t_owners t_moving t_all t_size t_nameCount) [(0, .ref (ta 0)), (1, .int p1), (2, .int x2)] [] 4 := by
  intro x2 t_names t_owners h
  exact zloop (P := fun v => Z p l e ({ frames := 0, cells := 0, slots := 0, locals := 0 }) s m args below meth c (dC, dI) vwCl A 3 0 0 (MQ below (zQ (none) (True) (w_N cI cJ cZ cN ta t_narrower t_order t_items res.1 res.2.1 t_moving t_all t_size res.2.2) (dC, dI) vwCl A) args s 0 0 A) (w_N cI cJ cZ cN ta t_narrower t_order t_items v.2.1 v.2.2 t_moving t_all t_size t_nameCount) [(0, .ref (ta 0)), (1, .int p1), (2, .int v.1)] [] 4) (fun rc hr v h => zb_X2_removeName_4 G  (fun x0_ x1_ x2_ h => hr (x0_, x1_, x2_) h) v.1 v.2.1 v.2.2 h) 200 (x2, t_names, t_owners) h
noncomputable def f_X2_removeName (t_names : Nat → Int32) (t_owners : Nat → Int32) (t_nameCount : Int32) (p1 : Int32) : Option ((Nat → Int32) × (Nat → Int32) × Int32) :=
  f_X2_removeName_l4 t_nameCount p1  (p1 + 1) t_names t_owners
set_option maxRecDepth 100000 in
set_option maxHeartbeats 4000000 in
theorem c_X2_removeName {l : Launch} {dC : Nat → ClassId} {dI : Nat → Nat → Nat} {cI cJ cZ cN : ClassId} {ta : Nat → Nat} {t_narrower : Nat → Int32} {t_order : Nat → Int32} {t_items : Nat → Int64} {t_names : Nat → Int32} {t_owners : Nat → Int32} {t_moving : Nat → Int32} {t_all : Int32} {t_size : Int32} {t_nameCount : Int32} {p1 : Int32} {res : (Nat → Int32) × (Nat → Int32) × Int32} (h : f_X2_removeName t_names t_owners t_nameCount p1 = some res) : zM l yX2_removeName cX2_removeName 3 none ({ frames := 0, cells := 0, slots := 0, locals := 0 }) [.ref (ta 0), .int p1] (dC, dI) vwCl (zT cI cJ cZ cN) (w_N cI cJ cZ cN ta t_narrower t_order t_items t_names t_owners t_moving t_all t_size t_nameCount) (none) (True) (w_N cI cJ cZ cN ta t_narrower t_order t_items res.1 res.2.1 t_moving t_all t_size res.2.2) := by
  refine zM_of (own := RX2) (by decide) rfl [(0, .ref (ta 0)), (1, .int p1)] (Nat.le_of_ble_eq_true rfl) rfl ?_
  intro p e s m args below meth c A G _
  unfold f_X2_removeName at h
  refine z_iload_n G dX2_removeName_0 rfl 1 rfl ?_
  refine z_iconst (v := 1) G dX2_removeName_1 (by decide) ?_
  refine z_iadd G dX2_removeName_2 ?_
  refine z_istore_n (lv' := [(0, .ref (ta 0)), (1, .int p1), (2, .int (p1 + 1))]) G dX2_removeName_3 rfl (by decide) [1, 2, 0] rfl ?_
  exact zl_X2_removeName_4 G  (p1 + 1) t_names t_owners h

noncomputable def f_X2_remove_b111 (p1 : Int32) (k111 : Int32 → (Nat → Int32) → (Nat → Int32) → (Nat → Int64) → (Nat → Int32) → (Nat → Int32) → Int32 → Int32 → Int32 → Option ((Nat → Int32) × (Nat → Int32) × (Nat → Int64) × (Nat → Int32) × (Nat → Int32) × Int32 × Int32 × Int32)) (x3 : Int32) (t_narrower : Nat → Int32) (t_order : Nat → Int32) (t_items : Nat → Int64) (t_names : Nat → Int32) (t_owners : Nat → Int32) (t_all : Int32) (t_size : Int32) (t_nameCount : Int32) : Option ((Nat → Int32) × (Nat → Int32) × (Nat → Int64) × (Nat → Int32) × (Nat → Int32) × Int32 × Int32 × Int32) :=
  if x3 < 0 then some (t_narrower, t_order, t_items, t_names, t_owners, t_all, t_size, t_nameCount) else chk (inb x3 40) (if (t_owners (ix x3)) = p1 then (f_X2_removeName t_names t_owners t_nameCount x3).bind (fun r1 => k111 (x3 + (-1)) t_narrower t_order t_items r1.1 r1.2.1 t_all t_size r1.2.2) else k111 (x3 + (-1)) t_narrower t_order t_items t_names t_owners t_all t_size t_nameCount)
set_option maxRecDepth 100000 in
set_option maxHeartbeats 4000000 in
theorem zb_X2_remove_111 {p : Program} {l : Launch} {e : Env} {s : State} {m : MethodId} {args : Array Value} {below : List Frame} {meth : Method} {c : Code} {A : Nat → Prop} {dC : Nat → ClassId} {dI : Nat → Nat → Nat} {cI cJ cZ cN : ClassId} {ta : Nat → Nat} {t_moving : Nat → Int32} {p1 : Int32} {res : (Nat → Int32) × (Nat → Int32) × (Nat → Int64) × (Nat → Int32) × (Nat → Int32) × Int32 × Int32 × Int32} (G : zG p m c cX2_remove 4 s args RX2 (dC, dI) vwCl (zT cI cJ cZ cN) A meth none) {k111 : Int32 → (Nat → Int32) → (Nat → Int32) → (Nat → Int64) → (Nat → Int32) → (Nat → Int32) → Int32 → Int32 → Int32 → Option ((Nat → Int32) × (Nat → Int32) × (Nat → Int64) × (Nat → Int32) × (Nat → Int32) × Int32 × Int32 × Int32)} (hr111 : ∀ (x3 : Int32) (t_narrower : Nat → Int32) (t_order : Nat → Int32) (t_items : Nat → Int64) (t_names : Nat → Int32) (t_owners : Nat → Int32) (t_all : Int32) (t_size : Int32) (t_nameCount : Int32), k111 x3 t_narrower t_order t_items t_names t_owners t_all t_size t_nameCount = some res → Z p l e ({ frames := 1, cells := 0, slots := 0, locals := 22 }) s m args below meth c (dC, dI) vwCl A 4 0 0 (MQ below (zQ (none) (True) (w_N cI cJ cZ cN ta res.1 res.2.1 res.2.2.1 res.2.2.2.1 res.2.2.2.2.1 t_moving res.2.2.2.2.2.1 res.2.2.2.2.2.2.1 res.2.2.2.2.2.2.2) (dC, dI) vwCl A) args s 0 0 A) (w_N cI cJ cZ cN ta t_narrower t_order t_items t_names t_owners t_moving t_all t_size t_nameCount) [(0, .ref (ta 0)), (1, .int p1), (3, .int x3)] [] 111) : ∀ (x3 : Int32) (t_narrower : Nat → Int32) (t_order : Nat → Int32) (t_items : Nat → Int64) (t_names : Nat → Int32) (t_owners : Nat → Int32) (t_all : Int32) (t_size : Int32) (t_nameCount : Int32), f_X2_remove_b111 p1 k111 x3 t_narrower t_order t_items t_names t_owners t_all t_size t_nameCount = some res → Z p l e ({ frames := 1, cells := 0, slots := 0, locals := 22 }) s m args below meth c (dC, dI) vwCl A 4 0 0 (MQ below (zQ (none) (True) (w_N cI cJ cZ cN ta res.1 res.2.1 res.2.2.1 res.2.2.2.1 res.2.2.2.2.1 t_moving res.2.2.2.2.2.1 res.2.2.2.2.2.2.1 res.2.2.2.2.2.2.2) (dC, dI) vwCl A) args s 0 0 A) (w_N cI cJ cZ cN ta t_narrower t_order t_items t_names t_owners t_moving t_all t_size t_nameCount) [(0, .ref (ta 0)), (1, .int p1), (3, .int x3)] [] 111 := by
  intro x3 t_narrower t_order t_items t_names t_owners t_all t_size t_nameCount h
  unfold f_X2_remove_b111 at h
  refine z_iload_n G dX2_remove_111 rfl 2 rfl ?_
  refine z_if_lt (tgt := 136) G dX2_remove_112 (by decide) h (fun h => ?_) (fun h => ?_)
  · obtain rfl := Option.some.inj h
    exact z_vret G rfl dX2_remove_136 rfl trivial rfl
  · refine z_aload_n G dX2_remove_115 rfl 0 rfl ?_
    refine z_get (ci := 2) (v := .ref (ta 5)) G in_X2 0 rfl rfl 4 (by decide) fl_X2_25 rfl dX2_remove_116 ?_
    refine z_iload_n G dX2_remove_119 rfl 2 rfl ?_
    refine z_iaload G 5 0 rfl rfl dX2_remove_120 h (fun h => ?_)
    refine z_iload_n G dX2_remove_121 rfl 1 rfl ?_
    refine z_icmp_ne (tgt := 130) G dX2_remove_122 (by decide) h (fun h => ?_) (fun h => ?_)
    · refine z_iinc (v := x3 + (-1)) (lv' := [(0, .ref (ta 0)), (1, .int p1), (3, .int (x3 + (-1)))]) G dX2_remove_130 2 rfl rfl (by decide) [1, 2, 0] rfl ?_
      refine z_goto (tgt := 111) G dX2_remove_133 (by decide) ?_
      exact hr111 (x3 + (-1)) t_narrower t_order t_items t_names t_owners t_all t_size t_nameCount h
    · refine z_aload_n G dX2_remove_125 rfl 0 rfl ?_
      refine z_iload_n G dX2_remove_126 rfl 2 rfl ?_
      obtain ⟨r1, e1, h⟩ := obind h
      refine z_kV (As := [.int x3]) (rest := []) (st' := []) (ws' := (w_N cI cJ cZ cN ta t_narrower t_order t_items r1.1 r1.2.1 t_moving t_all t_size r1.2.2)) G pk_X2_removeName pv_X2_removeName ml_X2_59 (c_X2_removeName (ta := ta) (t_narrower := t_narrower) (t_order := t_order) (t_items := t_items) (t_names := t_names) (t_owners := t_owners) (t_moving := t_moving) (t_all := t_all) (t_size := t_size) (t_nameCount := t_nameCount) (p1 := x3) e1) ⟨rfl, rfl⟩ ⟨Nat.le_of_ble_eq_true rfl, Nat.le_of_ble_eq_true rfl⟩ ⟨Nat.zero_le _, Nat.zero_le _⟩ rfl rfl (Nat.le_of_ble_eq_true rfl) 0 2 rfl rfl rfl [0, 1, 2, 3, 4, 5, 6] rfl rfl [some 0, some 1, some 2, some 3, some 4, some 5, some 6] rfl rfl rfl rfl dX2_remove_127 (fun z2 => ?_)
      refine z_iinc (v := x3 + (-1)) (lv' := [(0, .ref (ta 0)), (1, .int p1), (3, .int (x3 + (-1)))]) G dX2_remove_130 2 rfl rfl (by decide) [1, 2, 0] rfl ?_
      refine z_goto (tgt := 111) G dX2_remove_133 (by decide) ?_
      exact hr111 (x3 + (-1)) t_narrower t_order t_items r1.1 r1.2.1 t_all t_size r1.2.2 h
noncomputable def f_X2_remove_l111 (p1 : Int32)  (x3 : Int32) (t_narrower : Nat → Int32) (t_order : Nat → Int32) (t_items : Nat → Int64) (t_names : Nat → Int32) (t_owners : Nat → Int32) (t_all : Int32) (t_size : Int32) (t_nameCount : Int32) : Option ((Nat → Int32) × (Nat → Int32) × (Nat → Int64) × (Nat → Int32) × (Nat → Int32) × Int32 × Int32 × Int32) := loopN (V := Int32 × (Nat → Int32) × (Nat → Int32) × (Nat → Int64) × (Nat → Int32) × (Nat → Int32) × Int32 × Int32 × Int32) (fun rc v => f_X2_remove_b111 p1  (fun x0_ x1_ x2_ x3_ x4_ x5_ x6_ x7_ x8_ => rc (x0_, x1_, x2_, x3_, x4_, x5_, x6_, x7_, x8_)) v.1 v.2.1 v.2.2.1 v.2.2.2.1 v.2.2.2.2.1 v.2.2.2.2.2.1 v.2.2.2.2.2.2.1 v.2.2.2.2.2.2.2.1 v.2.2.2.2.2.2.2.2) 200 (x3, t_narrower, t_order, t_items, t_names, t_owners, t_all, t_size, t_nameCount)
set_option maxRecDepth 100000 in
set_option maxHeartbeats 4000000 in
theorem zl_X2_remove_111 {p : Program} {l : Launch} {e : Env} {s : State} {m : MethodId} {args : Array Value} {below : List Frame} {meth : Method} {c : Code} {A : Nat → Prop} {dC : Nat → ClassId} {dI : Nat → Nat → Nat} {cI cJ cZ cN : ClassId} {ta : Nat → Nat} {t_moving : Nat → Int32} {p1 : Int32} {res : (Nat → Int32) × (Nat → Int32) × (Nat → Int64) × (Nat → Int32) × (Nat → Int32) × Int32 × Int32 × Int32} (G : zG p m c cX2_remove 4 s args RX2 (dC, dI) vwCl (zT cI cJ cZ cN) A meth none)  : ∀ (x3 : Int32) (t_narrower : Nat → Int32) (t_order : Nat → Int32) (t_items : Nat → Int64) (t_names : Nat → Int32) (t_owners : Nat → Int32) (t_all : Int32) (t_size : Int32) (t_nameCount : Int32), f_X2_remove_l111 p1  x3 t_narrower t_order t_items t_names t_owners t_all t_size t_nameCount = some res → Z p l e ({ frames := 1, cells := 0, slots := 0, locals := 22 }) s m args below meth c (dC, dI) vwCl A 4 0 0 (MQ below (zQ (none) (True) (w_N cI cJ cZ cN ta res.1 res.2.1 res.2.2.1 res.2.2.2.1 res.2.2.2.2.1 t_moving res.2.2.2.2.2.1 res.2.2.2.2.2.2.1 res.2.2.2.2.2.2.2) (dC, dI) vwCl A) args s 0 0 A) (w_N cI cJ cZ cN ta t_narrower t_order t_items t_names t_owners t_moving t_all t_size t_nameCount) [(0, .ref (ta 0)), (1, .int p1), (3, .int x3)] [] 111 := by
  intro x3 t_narrower t_order t_items t_names t_owners t_all t_size t_nameCount h
  exact zloop (P := fun v => Z p l e ({ frames := 1, cells := 0, slots := 0, locals := 22 }) s m args below meth c (dC, dI) vwCl A 4 0 0 (MQ below (zQ (none) (True) (w_N cI cJ cZ cN ta res.1 res.2.1 res.2.2.1 res.2.2.2.1 res.2.2.2.2.1 t_moving res.2.2.2.2.2.1 res.2.2.2.2.2.2.1 res.2.2.2.2.2.2.2) (dC, dI) vwCl A) args s 0 0 A) (w_N cI cJ cZ cN ta v.2.1 v.2.2.1 v.2.2.2.1 v.2.2.2.2.1 v.2.2.2.2.2.1 t_moving v.2.2.2.2.2.2.1 v.2.2.2.2.2.2.2.1 v.2.2.2.2.2.2.2.2) [(0, .ref (ta 0)), (1, .int p1), (3, .int v.1)] [] 111) (fun rc hr v h => zb_X2_remove_111 G  (fun x0_ x1_ x2_ x3_ x4_ x5_ x6_ x7_ x8_ h => hr (x0_, x1_, x2_, x3_, x4_, x5_, x6_, x7_, x8_) h) v.1 v.2.1 v.2.2.1 v.2.2.2.1 v.2.2.2.2.1 v.2.2.2.2.2.1 v.2.2.2.2.2.2.1 v.2.2.2.2.2.2.2.1 v.2.2.2.2.2.2.2.2 h) 200 (x3, t_narrower, t_order, t_items, t_names, t_owners, t_all, t_size, t_nameCount) h
noncomputable def f_X2_remove_b60 (t_names : Nat → Int32) (t_owners : Nat → Int32) (t_size : Int32) (t_nameCount : Int32) (p1 : Int32) (k60 : Int32 → Int32 → (Nat → Int32) → (Nat → Int32) → (Nat → Int64) → Int32 → Option ((Nat → Int32) × (Nat → Int32) × (Nat → Int64) × (Nat → Int32) × (Nat → Int32) × Int32 × Int32 × Int32)) (x2 : Int32) (x3 : Int32) (t_narrower : Nat → Int32) (t_order : Nat → Int32) (t_items : Nat → Int64) (t_all : Int32) : Option ((Nat → Int32) × (Nat → Int32) × (Nat → Int64) × (Nat → Int32) × (Nat → Int32) × Int32 × Int32 × Int32) :=
  if t_size ≤ x3 then f_X2_remove_l111 p1  (t_nameCount - 1) t_narrower t_order t_items t_names t_owners t_all x2 t_nameCount else chk (inb x3 24) (if (t_order (ix x3)) = p1 then k60 x2 (x3 + 1) t_narrower t_order t_items t_all else chk (inb x3 24) (chk (inb x2 24) (k60 (x2 + 1) (x3 + 1) t_narrower (upd t_order (ix x2) (t_order (ix x3))) t_items t_all)))
set_option maxRecDepth 100000 in
set_option maxHeartbeats 4000000 in
theorem zb_X2_remove_60 {p : Program} {l : Launch} {e : Env} {s : State} {m : MethodId} {args : Array Value} {below : List Frame} {meth : Method} {c : Code} {A : Nat → Prop} {dC : Nat → ClassId} {dI : Nat → Nat → Nat} {cI cJ cZ cN : ClassId} {ta : Nat → Nat} {t_names : Nat → Int32} {t_owners : Nat → Int32} {t_moving : Nat → Int32} {t_size : Int32} {t_nameCount : Int32} {p1 : Int32} {res : (Nat → Int32) × (Nat → Int32) × (Nat → Int64) × (Nat → Int32) × (Nat → Int32) × Int32 × Int32 × Int32} (G : zG p m c cX2_remove 4 s args RX2 (dC, dI) vwCl (zT cI cJ cZ cN) A meth none) {k60 : Int32 → Int32 → (Nat → Int32) → (Nat → Int32) → (Nat → Int64) → Int32 → Option ((Nat → Int32) × (Nat → Int32) × (Nat → Int64) × (Nat → Int32) × (Nat → Int32) × Int32 × Int32 × Int32)} (hr60 : ∀ (x2 : Int32) (x3 : Int32) (t_narrower : Nat → Int32) (t_order : Nat → Int32) (t_items : Nat → Int64) (t_all : Int32), k60 x2 x3 t_narrower t_order t_items t_all = some res → Z p l e ({ frames := 1, cells := 0, slots := 0, locals := 22 }) s m args below meth c (dC, dI) vwCl A 4 0 0 (MQ below (zQ (none) (True) (w_N cI cJ cZ cN ta res.1 res.2.1 res.2.2.1 res.2.2.2.1 res.2.2.2.2.1 t_moving res.2.2.2.2.2.1 res.2.2.2.2.2.2.1 res.2.2.2.2.2.2.2) (dC, dI) vwCl A) args s 0 0 A) (w_N cI cJ cZ cN ta t_narrower t_order t_items t_names t_owners t_moving t_all t_size t_nameCount) [(0, .ref (ta 0)), (1, .int p1), (2, .int x2), (3, .int x3)] [] 60) : ∀ (x2 : Int32) (x3 : Int32) (t_narrower : Nat → Int32) (t_order : Nat → Int32) (t_items : Nat → Int64) (t_all : Int32), f_X2_remove_b60 t_names t_owners t_size t_nameCount p1 k60 x2 x3 t_narrower t_order t_items t_all = some res → Z p l e ({ frames := 1, cells := 0, slots := 0, locals := 22 }) s m args below meth c (dC, dI) vwCl A 4 0 0 (MQ below (zQ (none) (True) (w_N cI cJ cZ cN ta res.1 res.2.1 res.2.2.1 res.2.2.2.1 res.2.2.2.2.1 t_moving res.2.2.2.2.2.1 res.2.2.2.2.2.2.1 res.2.2.2.2.2.2.2) (dC, dI) vwCl A) args s 0 0 A) (w_N cI cJ cZ cN ta t_narrower t_order t_items t_names t_owners t_moving t_all t_size t_nameCount) [(0, .ref (ta 0)), (1, .int p1), (2, .int x2), (3, .int x3)] [] 60 := by
  intro x2 x3 t_narrower t_order t_items t_all h
  unfold f_X2_remove_b60 at h
  refine z_iload_n G dX2_remove_60 rfl 3 rfl ?_
  refine z_aload_n G dX2_remove_61 rfl 0 rfl ?_
  refine z_get (ci := 2) (v := .int t_size) G in_X2 0 rfl rfl 7 (by decide) fl_X2_41 rfl dX2_remove_62 ?_
  refine z_icmp_ge (tgt := 99) G dX2_remove_65 (by decide) h (fun h => ?_) (fun h => ?_)
  · refine z_aload_n G dX2_remove_99 rfl 0 rfl ?_
    refine z_iload_n G dX2_remove_100 rfl 2 rfl ?_
    refine z_put (ci := 2) (ws' := (w_N cI cJ cZ cN ta t_narrower t_order t_items t_names t_owners t_moving t_all x2 t_nameCount)) G in_X2 tyX2 tyX2_ok nmX2 0 rfl rfl 7 (by decide) fl_X2_41 rfl rfl rfl (Nat.le_of_ble_eq_true rfl) rfl dX2_remove_101 ?_
    refine z_aload_n G dX2_remove_104 rfl 0 rfl ?_
    refine z_get (ci := 2) (v := .int t_nameCount) G in_X2 0 rfl rfl 8 (by decide) fl_X2_44 rfl dX2_remove_105 ?_
    refine z_iconst (v := 1) G dX2_remove_108 (by decide) ?_
    refine z_isub G dX2_remove_109 ?_
    refine z_istore_n (lv' := [(0, .ref (ta 0)), (1, .int p1), (2, .int x2), (3, .int (t_nameCount - 1))]) G dX2_remove_110 rfl (by decide) [1, 2, 3, 0] rfl ?_
    refine z_lv [0, 1, 3] rfl ?_
    exact zl_X2_remove_111 G  (t_nameCount - 1) t_narrower t_order t_items t_names t_owners t_all x2 t_nameCount h
  · refine z_aload_n G dX2_remove_68 rfl 0 rfl ?_
    refine z_get (ci := 2) (v := .ref (ta 2)) G in_X2 0 rfl rfl 1 (by decide) fl_X2_15 rfl dX2_remove_69 ?_
    refine z_iload_n G dX2_remove_72 rfl 3 rfl ?_
    refine z_iaload G 2 0 rfl rfl dX2_remove_73 h (fun h => ?_)
    refine z_iload_n G dX2_remove_74 rfl 1 rfl ?_
    refine z_icmp_eq (tgt := 93) G dX2_remove_75 (by decide) h (fun h => ?_) (fun h => ?_)
    · refine z_iinc (v := x3 + 1) (lv' := [(0, .ref (ta 0)), (1, .int p1), (2, .int x2), (3, .int (x3 + 1))]) G dX2_remove_93 3 rfl rfl (by decide) [1, 2, 3, 0] rfl ?_
      refine z_goto (tgt := 60) G dX2_remove_96 (by decide) ?_
      exact hr60 x2 (x3 + 1) t_narrower t_order t_items t_all h
    · refine z_aload_n G dX2_remove_78 rfl 0 rfl ?_
      refine z_get (ci := 2) (v := .ref (ta 2)) G in_X2 0 rfl rfl 1 (by decide) fl_X2_15 rfl dX2_remove_79 ?_
      refine z_iload_n G dX2_remove_82 rfl 2 rfl ?_
      refine z_aload_n G dX2_remove_83 rfl 0 rfl ?_
      refine z_get (ci := 2) (v := .ref (ta 2)) G in_X2 0 rfl rfl 1 (by decide) fl_X2_15 rfl dX2_remove_84 ?_
      refine z_iload_n G dX2_remove_87 rfl 3 rfl ?_
      refine z_iaload G 2 0 rfl rfl dX2_remove_88 h (fun h => ?_)
      refine z_iastore (ws' := (w_N cI cJ cZ cN ta t_narrower (upd t_order (ix x2) (t_order (ix x3))) t_items t_names t_owners t_moving t_all t_size t_nameCount)) G 2 0 rfl rfl rfl dX2_remove_89 h (fun h => ?_)
      refine z_iinc (v := x2 + 1) (lv' := [(0, .ref (ta 0)), (1, .int p1), (2, .int (x2 + 1)), (3, .int x3)]) G dX2_remove_90 2 rfl rfl (by decide) [1, 2, 0, 3] rfl ?_
      refine z_iinc (v := x3 + 1) (lv' := [(0, .ref (ta 0)), (1, .int p1), (2, .int (x2 + 1)), (3, .int (x3 + 1))]) G dX2_remove_93 3 rfl rfl (by decide) [1, 2, 3, 0] rfl ?_
      refine z_goto (tgt := 60) G dX2_remove_96 (by decide) ?_
      exact hr60 (x2 + 1) (x3 + 1) t_narrower (upd t_order (ix x2) (t_order (ix x3))) t_items t_all h
noncomputable def f_X2_remove_l60 (t_names : Nat → Int32) (t_owners : Nat → Int32) (t_size : Int32) (t_nameCount : Int32) (p1 : Int32)  (x2 : Int32) (x3 : Int32) (t_narrower : Nat → Int32) (t_order : Nat → Int32) (t_items : Nat → Int64) (t_all : Int32) : Option ((Nat → Int32) × (Nat → Int32) × (Nat → Int64) × (Nat → Int32) × (Nat → Int32) × Int32 × Int32 × Int32) := loopN (V := Int32 × Int32 × (Nat → Int32) × (Nat → Int32) × (Nat → Int64) × Int32) (fun rc v => f_X2_remove_b60 t_names t_owners t_size t_nameCount p1  (fun x0_ x1_ x2_ x3_ x4_ x5_ => rc (x0_, x1_, x2_, x3_, x4_, x5_)) v.1 v.2.1 v.2.2.1 v.2.2.2.1 v.2.2.2.2.1 v.2.2.2.2.2) 200 (x2, x3, t_narrower, t_order, t_items, t_all)
set_option maxRecDepth 100000 in
set_option maxHeartbeats 4000000 in
theorem zl_X2_remove_60 {p : Program} {l : Launch} {e : Env} {s : State} {m : MethodId} {args : Array Value} {below : List Frame} {meth : Method} {c : Code} {A : Nat → Prop} {dC : Nat → ClassId} {dI : Nat → Nat → Nat} {cI cJ cZ cN : ClassId} {ta : Nat → Nat} {t_names : Nat → Int32} {t_owners : Nat → Int32} {t_moving : Nat → Int32} {t_size : Int32} {t_nameCount : Int32} {p1 : Int32} {res : (Nat → Int32) × (Nat → Int32) × (Nat → Int64) × (Nat → Int32) × (Nat → Int32) × Int32 × Int32 × Int32} (G : zG p m c cX2_remove 4 s args RX2 (dC, dI) vwCl (zT cI cJ cZ cN) A meth none)  : ∀ (x2 : Int32) (x3 : Int32) (t_narrower : Nat → Int32) (t_order : Nat → Int32) (t_items : Nat → Int64) (t_all : Int32), f_X2_remove_l60 t_names t_owners t_size t_nameCount p1  x2 x3 t_narrower t_order t_items t_all = some res → Z p l e ({ frames := 1, cells := 0, slots := 0, locals := 22 }) s m args below meth c (dC, dI) vwCl A 4 0 0 (MQ below (zQ (none) (True) (w_N cI cJ cZ cN ta res.1 res.2.1 res.2.2.1 res.2.2.2.1 res.2.2.2.2.1 t_moving res.2.2.2.2.2.1 res.2.2.2.2.2.2.1 res.2.2.2.2.2.2.2) (dC, dI) vwCl A) args s 0 0 A) (w_N cI cJ cZ cN ta t_narrower t_order t_items t_names t_owners t_moving t_all t_size t_nameCount) [(0, .ref (ta 0)), (1, .int p1), (2, .int x2), (3, .int x3)] [] 60 := by
  intro x2 x3 t_narrower t_order t_items t_all h
  exact zloop (P := fun v => Z p l e ({ frames := 1, cells := 0, slots := 0, locals := 22 }) s m args below meth c (dC, dI) vwCl A 4 0 0 (MQ below (zQ (none) (True) (w_N cI cJ cZ cN ta res.1 res.2.1 res.2.2.1 res.2.2.2.1 res.2.2.2.2.1 t_moving res.2.2.2.2.2.1 res.2.2.2.2.2.2.1 res.2.2.2.2.2.2.2) (dC, dI) vwCl A) args s 0 0 A) (w_N cI cJ cZ cN ta v.2.2.1 v.2.2.2.1 v.2.2.2.2.1 t_names t_owners t_moving v.2.2.2.2.2 t_size t_nameCount) [(0, .ref (ta 0)), (1, .int p1), (2, .int v.1), (3, .int v.2.1)] [] 60) (fun rc hr v h => zb_X2_remove_60 G  (fun x0_ x1_ x2_ x3_ x4_ x5_ h => hr (x0_, x1_, x2_, x3_, x4_, x5_) h) v.1 v.2.1 v.2.2.1 v.2.2.2.1 v.2.2.2.2.1 v.2.2.2.2.2 h) 200 (x2, x3, t_narrower, t_order, t_items, t_all) h
noncomputable def f_X2_remove_b2 (t_order : Nat → Int32) (t_items : Nat → Int64) (t_names : Nat → Int32) (t_owners : Nat → Int32) (t_all : Int32) (t_size : Int32) (t_nameCount : Int32) (p1 : Int32) (k2 : Int32 → (Nat → Int32) → Option ((Nat → Int32) × (Nat → Int32) × (Nat → Int64) × (Nat → Int32) × (Nat → Int32) × Int32 × Int32 × Int32)) (x2 : Int32) (t_narrower : Nat → Int32) : Option ((Nat → Int32) × (Nat → Int32) × (Nat → Int64) × (Nat → Int32) × (Nat → Int32) × Int32 × Int32 × Int32) :=
  if 24 ≤ x2 then chk (inb p1 24) (chk (inb p1 24) (f_X2_remove_l60 t_names t_owners t_size t_nameCount p1  0 0 (upd t_narrower (ix p1) 0) t_order (vp_updL t_items (ix p1) 0) (t_all &&& ((jshl 1 p1) ^^^ (-1))))) else chk (inb x2 24) (chk (inb x2 24) (k2 (x2 + 1) (upd t_narrower (ix x2) ((t_narrower (ix x2)) &&& ((jshl 1 p1) ^^^ (-1))))))
set_option maxRecDepth 100000 in
set_option maxHeartbeats 4000000 in
theorem zb_X2_remove_2 {p : Program} {l : Launch} {e : Env} {s : State} {m : MethodId} {args : Array Value} {below : List Frame} {meth : Method} {c : Code} {A : Nat → Prop} {dC : Nat → ClassId} {dI : Nat → Nat → Nat} {cI cJ cZ cN : ClassId} {ta : Nat → Nat} {t_order : Nat → Int32} {t_items : Nat → Int64} {t_names : Nat → Int32} {t_owners : Nat → Int32} {t_moving : Nat → Int32} {t_all : Int32} {t_size : Int32} {t_nameCount : Int32} {p1 : Int32} {res : (Nat → Int32) × (Nat → Int32) × (Nat → Int64) × (Nat → Int32) × (Nat → Int32) × Int32 × Int32 × Int32} (G : zG p m c cX2_remove 4 s args RX2 (dC, dI) vwCl (zT cI cJ cZ cN) A meth none) {k2 : Int32 → (Nat → Int32) → Option ((Nat → Int32) × (Nat → Int32) × (Nat → Int64) × (Nat → Int32) × (Nat → Int32) × Int32 × Int32 × Int32)} (hr2 : ∀ (x2 : Int32) (t_narrower : Nat → Int32), k2 x2 t_narrower = some res → Z p l e ({ frames := 1, cells := 0, slots := 0, locals := 22 }) s m args below meth c (dC, dI) vwCl A 4 0 0 (MQ below (zQ (none) (True) (w_N cI cJ cZ cN ta res.1 res.2.1 res.2.2.1 res.2.2.2.1 res.2.2.2.2.1 t_moving res.2.2.2.2.2.1 res.2.2.2.2.2.2.1 res.2.2.2.2.2.2.2) (dC, dI) vwCl A) args s 0 0 A) (w_N cI cJ cZ cN ta t_narrower t_order t_items t_names t_owners t_moving t_all t_size t_nameCount) [(0, .ref (ta 0)), (1, .int p1), (2, .int x2)] [] 2) : ∀ (x2 : Int32) (t_narrower : Nat → Int32), f_X2_remove_b2 t_order t_items t_names t_owners t_all t_size t_nameCount p1 k2 x2 t_narrower = some res → Z p l e ({ frames := 1, cells := 0, slots := 0, locals := 22 }) s m args below meth c (dC, dI) vwCl A 4 0 0 (MQ below (zQ (none) (True) (w_N cI cJ cZ cN ta res.1 res.2.1 res.2.2.1 res.2.2.2.1 res.2.2.2.2.1 t_moving res.2.2.2.2.2.1 res.2.2.2.2.2.2.1 res.2.2.2.2.2.2.2) (dC, dI) vwCl A) args s 0 0 A) (w_N cI cJ cZ cN ta t_narrower t_order t_items t_names t_owners t_moving t_all t_size t_nameCount) [(0, .ref (ta 0)), (1, .int p1), (2, .int x2)] [] 2 := by
  intro x2 t_narrower h
  unfold f_X2_remove_b2 at h
  refine z_iload_n G dX2_remove_2 rfl 2 rfl ?_
  refine z_bipush (v := 24) G dX2_remove_3 (by decide) ?_
  refine z_icmp_ge (tgt := 28) G dX2_remove_5 (by decide) h (fun h => ?_) (fun h => ?_)
  · refine z_aload_n G dX2_remove_28 rfl 0 rfl ?_
    refine z_get (ci := 2) (v := .ref (ta 1)) G in_X2 0 rfl rfl 0 (by decide) fl_X2_9 rfl dX2_remove_29 ?_
    refine z_iload_n G dX2_remove_32 rfl 1 rfl ?_
    refine z_iconst (v := 0) G dX2_remove_33 (by decide) ?_
    refine z_iastore (ws' := (w_N cI cJ cZ cN ta (upd t_narrower (ix p1) 0) t_order t_items t_names t_owners t_moving t_all t_size t_nameCount)) G 1 0 rfl rfl rfl dX2_remove_34 h (fun h => ?_)
    refine z_aload_n G dX2_remove_35 rfl 0 rfl ?_
    refine z_get (ci := 2) (v := .ref (ta 3)) G in_X2 0 rfl rfl 2 (by decide) fl_X2_18 rfl dX2_remove_36 ?_
    refine z_iload_n G dX2_remove_39 rfl 1 rfl ?_
    refine z_lconst (v := 0) G dX2_remove_40 (by decide) ?_
    refine z_lastore (ws' := (w_N cI cJ cZ cN ta (upd t_narrower (ix p1) 0) t_order (vp_updL t_items (ix p1) 0) t_names t_owners t_moving t_all t_size t_nameCount)) G 3 1 rfl rfl rfl dX2_remove_41 h (fun h => ?_)
    refine z_aload_n G dX2_remove_42 rfl 0 rfl ?_
    refine z_dup G dX2_remove_43 rfl ?_
    refine z_get (ci := 2) (v := .int t_all) G in_X2 0 rfl rfl 6 (by decide) fl_X2_37 rfl dX2_remove_44 ?_
    refine z_iconst (v := 1) G dX2_remove_47 (by decide) ?_
    refine z_iload_n G dX2_remove_48 rfl 1 rfl ?_
    refine z_ishl G dX2_remove_49 ?_
    refine z_iconst (v := (-1)) G dX2_remove_50 (by decide) ?_
    refine z_ixor G dX2_remove_51 ?_
    refine z_iand G dX2_remove_52 ?_
    refine z_put (ci := 2) (ws' := (w_N cI cJ cZ cN ta (upd t_narrower (ix p1) 0) t_order (vp_updL t_items (ix p1) 0) t_names t_owners t_moving (t_all &&& ((jshl 1 p1) ^^^ (-1))) t_size t_nameCount)) G in_X2 tyX2 tyX2_ok nmX2 0 rfl rfl 6 (by decide) fl_X2_37 rfl rfl rfl (Nat.le_of_ble_eq_true rfl) rfl dX2_remove_53 ?_
    refine z_iconst (v := 0) G dX2_remove_56 (by decide) ?_
    refine z_istore_n (lv' := [(0, .ref (ta 0)), (1, .int p1), (2, .int 0)]) G dX2_remove_57 rfl (by decide) [1, 2, 0] rfl ?_
    refine z_iconst (v := 0) G dX2_remove_58 (by decide) ?_
    refine z_istore_n (lv' := [(0, .ref (ta 0)), (1, .int p1), (2, .int 0), (3, .int 0)]) G dX2_remove_59 rfl (by decide) [1, 2, 3, 0] rfl ?_
    exact zl_X2_remove_60 G  0 0 (upd t_narrower (ix p1) 0) t_order (vp_updL t_items (ix p1) 0) (t_all &&& ((jshl 1 p1) ^^^ (-1))) h
  · refine z_aload_n G dX2_remove_8 rfl 0 rfl ?_
    refine z_get (ci := 2) (v := .ref (ta 1)) G in_X2 0 rfl rfl 0 (by decide) fl_X2_9 rfl dX2_remove_9 ?_
    refine z_iload_n G dX2_remove_12 rfl 2 rfl ?_
    refine z_dup2 G dX2_remove_13 rfl rfl ?_
    refine z_iaload G 1 0 rfl rfl dX2_remove_14 h (fun h => ?_)
    refine z_iconst (v := 1) G dX2_remove_15 (by decide) ?_
    refine z_iload_n G dX2_remove_16 rfl 1 rfl ?_
    refine z_ishl G dX2_remove_17 ?_
    refine z_iconst (v := (-1)) G dX2_remove_18 (by decide) ?_
    refine z_ixor G dX2_remove_19 ?_
    refine z_iand G dX2_remove_20 ?_
    refine z_iastore (ws' := (w_N cI cJ cZ cN ta (upd t_narrower (ix x2) ((t_narrower (ix x2)) &&& ((jshl 1 p1) ^^^ (-1)))) t_order t_items t_names t_owners t_moving t_all t_size t_nameCount)) G 1 0 rfl rfl rfl dX2_remove_21 h (fun h => ?_)
    refine z_iinc (v := x2 + 1) (lv' := [(0, .ref (ta 0)), (1, .int p1), (2, .int (x2 + 1))]) G dX2_remove_22 2 rfl rfl (by decide) [1, 2, 0] rfl ?_
    refine z_goto (tgt := 2) G dX2_remove_25 (by decide) ?_
    exact hr2 (x2 + 1) (upd t_narrower (ix x2) ((t_narrower (ix x2)) &&& ((jshl 1 p1) ^^^ (-1)))) h
noncomputable def f_X2_remove_l2 (t_order : Nat → Int32) (t_items : Nat → Int64) (t_names : Nat → Int32) (t_owners : Nat → Int32) (t_all : Int32) (t_size : Int32) (t_nameCount : Int32) (p1 : Int32)  (x2 : Int32) (t_narrower : Nat → Int32) : Option ((Nat → Int32) × (Nat → Int32) × (Nat → Int64) × (Nat → Int32) × (Nat → Int32) × Int32 × Int32 × Int32) := loopN (V := Int32 × (Nat → Int32)) (fun rc v => f_X2_remove_b2 t_order t_items t_names t_owners t_all t_size t_nameCount p1  (fun x0_ x1_ => rc (x0_, x1_)) v.1 v.2) 200 (x2, t_narrower)
set_option maxRecDepth 100000 in
set_option maxHeartbeats 4000000 in
theorem zl_X2_remove_2 {p : Program} {l : Launch} {e : Env} {s : State} {m : MethodId} {args : Array Value} {below : List Frame} {meth : Method} {c : Code} {A : Nat → Prop} {dC : Nat → ClassId} {dI : Nat → Nat → Nat} {cI cJ cZ cN : ClassId} {ta : Nat → Nat} {t_order : Nat → Int32} {t_items : Nat → Int64} {t_names : Nat → Int32} {t_owners : Nat → Int32} {t_moving : Nat → Int32} {t_all : Int32} {t_size : Int32} {t_nameCount : Int32} {p1 : Int32} {res : (Nat → Int32) × (Nat → Int32) × (Nat → Int64) × (Nat → Int32) × (Nat → Int32) × Int32 × Int32 × Int32} (G : zG p m c cX2_remove 4 s args RX2 (dC, dI) vwCl (zT cI cJ cZ cN) A meth none)  : ∀ (x2 : Int32) (t_narrower : Nat → Int32), f_X2_remove_l2 t_order t_items t_names t_owners t_all t_size t_nameCount p1  x2 t_narrower = some res → Z p l e ({ frames := 1, cells := 0, slots := 0, locals := 22 }) s m args below meth c (dC, dI) vwCl A 4 0 0 (MQ below (zQ (none) (True) (w_N cI cJ cZ cN ta res.1 res.2.1 res.2.2.1 res.2.2.2.1 res.2.2.2.2.1 t_moving res.2.2.2.2.2.1 res.2.2.2.2.2.2.1 res.2.2.2.2.2.2.2) (dC, dI) vwCl A) args s 0 0 A) (w_N cI cJ cZ cN ta t_narrower t_order t_items t_names t_owners t_moving t_all t_size t_nameCount) [(0, .ref (ta 0)), (1, .int p1), (2, .int x2)] [] 2 := by
  intro x2 t_narrower h
  exact zloop (P := fun v => Z p l e ({ frames := 1, cells := 0, slots := 0, locals := 22 }) s m args below meth c (dC, dI) vwCl A 4 0 0 (MQ below (zQ (none) (True) (w_N cI cJ cZ cN ta res.1 res.2.1 res.2.2.1 res.2.2.2.1 res.2.2.2.2.1 t_moving res.2.2.2.2.2.1 res.2.2.2.2.2.2.1 res.2.2.2.2.2.2.2) (dC, dI) vwCl A) args s 0 0 A) (w_N cI cJ cZ cN ta v.2 t_order t_items t_names t_owners t_moving t_all t_size t_nameCount) [(0, .ref (ta 0)), (1, .int p1), (2, .int v.1)] [] 2) (fun rc hr v h => zb_X2_remove_2 G  (fun x0_ x1_ h => hr (x0_, x1_) h) v.1 v.2 h) 200 (x2, t_narrower) h
noncomputable def f_X2_remove (t_narrower : Nat → Int32) (t_order : Nat → Int32) (t_items : Nat → Int64) (t_names : Nat → Int32) (t_owners : Nat → Int32) (t_all : Int32) (t_size : Int32) (t_nameCount : Int32) (p1 : Int32) : Option ((Nat → Int32) × (Nat → Int32) × (Nat → Int64) × (Nat → Int32) × (Nat → Int32) × Int32 × Int32 × Int32) :=
  f_X2_remove_l2 t_order t_items t_names t_owners t_all t_size t_nameCount p1  0 t_narrower
set_option maxRecDepth 100000 in
set_option maxHeartbeats 4000000 in
theorem c_X2_remove {l : Launch} {dC : Nat → ClassId} {dI : Nat → Nat → Nat} {cI cJ cZ cN : ClassId} {ta : Nat → Nat} {t_narrower : Nat → Int32} {t_order : Nat → Int32} {t_items : Nat → Int64} {t_names : Nat → Int32} {t_owners : Nat → Int32} {t_moving : Nat → Int32} {t_all : Int32} {t_size : Int32} {t_nameCount : Int32} {p1 : Int32} {res : (Nat → Int32) × (Nat → Int32) × (Nat → Int64) × (Nat → Int32) × (Nat → Int32) × Int32 × Int32 × Int32} (h : f_X2_remove t_narrower t_order t_items t_names t_owners t_all t_size t_nameCount p1 = some res) : zM l yX2_remove cX2_remove 4 none ({ frames := 1, cells := 0, slots := 0, locals := 22 }) [.ref (ta 0), .int p1] (dC, dI) vwCl (zT cI cJ cZ cN) (w_N cI cJ cZ cN ta t_narrower t_order t_items t_names t_owners t_moving t_all t_size t_nameCount) (none) (True) (w_N cI cJ cZ cN ta res.1 res.2.1 res.2.2.1 res.2.2.2.1 res.2.2.2.2.1 t_moving res.2.2.2.2.2.1 res.2.2.2.2.2.2.1 res.2.2.2.2.2.2.2) := by
  refine zM_of (own := RX2) (by decide) rfl [(0, .ref (ta 0)), (1, .int p1)] (Nat.le_of_ble_eq_true rfl) rfl ?_
  intro p e s m args below meth c A G _
  unfold f_X2_remove at h
  refine z_iconst (v := 0) G dX2_remove_0 (by decide) ?_
  refine z_istore_n (lv' := [(0, .ref (ta 0)), (1, .int p1), (2, .int 0)]) G dX2_remove_1 rfl (by decide) [1, 2, 0] rfl ?_
  exact zl_X2_remove_2 G  0 t_narrower h

noncomputable def f_X2_comeToAll_b2 (t_size : Int32) (p1 : Int32) (p2 : Int32) (k2 : Int32 → (Nat → Int32) → (Nat → Int32) → (Nat → Int32) → Option ((Nat → Int32) × (Nat → Int32) × (Nat → Int32))) (x3 : Int32) (t_narrower : Nat → Int32) (t_order : Nat → Int32) (t_moving : Nat → Int32) : Option ((Nat → Int32) × (Nat → Int32) × (Nat → Int32)) :=
  if 24 ≤ x3 then some (t_narrower, t_order, t_moving) else chk (inb p1 24) (if (f_X6_holds (p2 &&& ((t_narrower (ix p1)) ^^^ (-1))) x3) = 0 then k2 (x3 + 1) t_narrower t_order t_moving else (f_X2_come t_narrower t_order t_moving t_size p1 x3).bind (fun r2 => k2 (x3 + 1) r2.2.1 r2.2.2.1 r2.2.2.2))
set_option maxRecDepth 100000 in
set_option maxHeartbeats 4000000 in
theorem zb_X2_comeToAll_2 {p : Program} {l : Launch} {e : Env} {s : State} {m : MethodId} {args : Array Value} {below : List Frame} {meth : Method} {c : Code} {A : Nat → Prop} {dC : Nat → ClassId} {dI : Nat → Nat → Nat} {cI cJ cZ cN : ClassId} {ta : Nat → Nat} {t_items : Nat → Int64} {t_names : Nat → Int32} {t_owners : Nat → Int32} {t_all : Int32} {t_size : Int32} {t_nameCount : Int32} {p1 : Int32} {p2 : Int32} {res : (Nat → Int32) × (Nat → Int32) × (Nat → Int32)} (G : zG p m c cX2_comeToAll 4 s args RX2 (dC, dI) vwCl (zT cI cJ cZ cN) A meth none) {k2 : Int32 → (Nat → Int32) → (Nat → Int32) → (Nat → Int32) → Option ((Nat → Int32) × (Nat → Int32) × (Nat → Int32))} (hr2 : ∀ (x3 : Int32) (t_narrower : Nat → Int32) (t_order : Nat → Int32) (t_moving : Nat → Int32), k2 x3 t_narrower t_order t_moving = some res → Z p l e ({ frames := 3, cells := 0, slots := 0, locals := 77 }) s m args below meth c (dC, dI) vwCl A 4 0 0 (MQ below (zQ (none) (True) (w_N cI cJ cZ cN ta res.1 res.2.1 t_items t_names t_owners res.2.2 t_all t_size t_nameCount) (dC, dI) vwCl A) args s 0 0 A) (w_N cI cJ cZ cN ta t_narrower t_order t_items t_names t_owners t_moving t_all t_size t_nameCount) [(0, .ref (ta 0)), (1, .int p1), (2, .int p2), (3, .int x3)] [] 2) : ∀ (x3 : Int32) (t_narrower : Nat → Int32) (t_order : Nat → Int32) (t_moving : Nat → Int32), f_X2_comeToAll_b2 t_size p1 p2 k2 x3 t_narrower t_order t_moving = some res → Z p l e ({ frames := 3, cells := 0, slots := 0, locals := 77 }) s m args below meth c (dC, dI) vwCl A 4 0 0 (MQ below (zQ (none) (True) (w_N cI cJ cZ cN ta res.1 res.2.1 t_items t_names t_owners res.2.2 t_all t_size t_nameCount) (dC, dI) vwCl A) args s 0 0 A) (w_N cI cJ cZ cN ta t_narrower t_order t_items t_names t_owners t_moving t_all t_size t_nameCount) [(0, .ref (ta 0)), (1, .int p1), (2, .int p2), (3, .int x3)] [] 2 := by
  intro x3 t_narrower t_order t_moving h
  unfold f_X2_comeToAll_b2 at h
  refine z_iload_n G dX2_comeToAll_2 rfl 3 rfl ?_
  refine z_bipush (v := 24) G dX2_comeToAll_3 (by decide) ?_
  refine z_icmp_ge (tgt := 38) G dX2_comeToAll_5 (by decide) h (fun h => ?_) (fun h => ?_)
  · obtain rfl := Option.some.inj h
    exact z_vret G rfl dX2_comeToAll_38 rfl trivial rfl
  · refine z_iload_n G dX2_comeToAll_8 rfl 2 rfl ?_
    refine z_aload_n G dX2_comeToAll_9 rfl 0 rfl ?_
    refine z_get (ci := 2) (v := .ref (ta 1)) G in_X2 0 rfl rfl 0 (by decide) fl_X2_9 rfl dX2_comeToAll_10 ?_
    refine z_iload_n G dX2_comeToAll_13 rfl 1 rfl ?_
    refine z_iaload G 1 0 rfl rfl dX2_comeToAll_14 h (fun h => ?_)
    refine z_iconst (v := (-1)) G dX2_comeToAll_15 (by decide) ?_
    refine z_ixor G dX2_comeToAll_16 ?_
    refine z_iand G dX2_comeToAll_17 ?_
    refine z_iload_n G dX2_comeToAll_18 rfl 3 rfl ?_
    refine z_kSN (As := [.int (p2 &&& ((t_narrower (ix p1)) ^^^ (-1))), .int x3]) (rest := []) (st' := [.int (f_X6_holds (p2 &&& ((t_narrower (ix p1)) ^^^ (-1))) x3)]) G pk_X6_holds ps_X6_holds nl_X2_47 (c_X6_holds (p0 := p2 &&& ((t_narrower (ix p1)) ^^^ (-1))) (p1 := x3) rfl) ⟨rfl, rfl⟩ ⟨Nat.le_of_ble_eq_true rfl, Nat.le_of_ble_eq_true rfl⟩ ⟨Nat.zero_le _, Nat.zero_le _⟩ rfl rfl (Nat.le_of_ble_eq_true rfl) rfl dX2_comeToAll_19 (fun z1 => ?_)
    refine z_if_eq (tgt := 32) G dX2_comeToAll_22 (by decide) h (fun h => ?_) (fun h => ?_)
    · refine z_iinc (v := x3 + 1) (lv' := [(0, .ref (ta 0)), (1, .int p1), (2, .int p2), (3, .int (x3 + 1))]) G dX2_comeToAll_32 3 rfl rfl (by decide) [1, 2, 3, 0] rfl ?_
      refine z_goto (tgt := 2) G dX2_comeToAll_35 (by decide) ?_
      exact hr2 (x3 + 1) t_narrower t_order t_moving h
    · refine z_aload_n G dX2_comeToAll_25 rfl 0 rfl ?_
      refine z_iload_n G dX2_comeToAll_26 rfl 1 rfl ?_
      refine z_iload_n G dX2_comeToAll_27 rfl 3 rfl ?_
      obtain ⟨r2, e2, h⟩ := obind h
      refine z_kV (As := [.int p1, .int x3]) (rest := []) (st' := [.int r2.1]) (ws' := (w_N cI cJ cZ cN ta r2.2.1 r2.2.2.1 t_items t_names t_owners r2.2.2.2 t_all t_size t_nameCount)) G pk_X2_come pv_X2_come ml_X2_80 (c_X2_come (ta := ta) (t_narrower := t_narrower) (t_order := t_order) (t_items := t_items) (t_names := t_names) (t_owners := t_owners) (t_moving := t_moving) (t_all := t_all) (t_size := t_size) (t_nameCount := t_nameCount) (p1 := p1) (p2 := x3) e2) ⟨rfl, rfl⟩ ⟨Nat.le_of_ble_eq_true rfl, Nat.le_of_ble_eq_true rfl⟩ ⟨Nat.zero_le _, Nat.zero_le _⟩ rfl rfl (Nat.le_of_ble_eq_true rfl) 0 2 rfl rfl rfl [0, 1, 2, 3, 4, 5, 6] rfl rfl [some 0, some 1, some 2, some 3, some 4, some 5, some 6] rfl rfl rfl rfl dX2_comeToAll_28 (fun z3 => ?_)
      refine z_pop G dX2_comeToAll_31 rfl ?_
      refine z_iinc (v := x3 + 1) (lv' := [(0, .ref (ta 0)), (1, .int p1), (2, .int p2), (3, .int (x3 + 1))]) G dX2_comeToAll_32 3 rfl rfl (by decide) [1, 2, 3, 0] rfl ?_
      refine z_goto (tgt := 2) G dX2_comeToAll_35 (by decide) ?_
      exact hr2 (x3 + 1) r2.2.1 r2.2.2.1 r2.2.2.2 h
noncomputable def f_X2_comeToAll_l2 (t_size : Int32) (p1 : Int32) (p2 : Int32)  (x3 : Int32) (t_narrower : Nat → Int32) (t_order : Nat → Int32) (t_moving : Nat → Int32) : Option ((Nat → Int32) × (Nat → Int32) × (Nat → Int32)) := loopN (V := Int32 × (Nat → Int32) × (Nat → Int32) × (Nat → Int32)) (fun rc v => f_X2_comeToAll_b2 t_size p1 p2  (fun x0_ x1_ x2_ x3_ => rc (x0_, x1_, x2_, x3_)) v.1 v.2.1 v.2.2.1 v.2.2.2) 200 (x3, t_narrower, t_order, t_moving)
set_option maxRecDepth 100000 in
set_option maxHeartbeats 4000000 in
theorem zl_X2_comeToAll_2 {p : Program} {l : Launch} {e : Env} {s : State} {m : MethodId} {args : Array Value} {below : List Frame} {meth : Method} {c : Code} {A : Nat → Prop} {dC : Nat → ClassId} {dI : Nat → Nat → Nat} {cI cJ cZ cN : ClassId} {ta : Nat → Nat} {t_items : Nat → Int64} {t_names : Nat → Int32} {t_owners : Nat → Int32} {t_all : Int32} {t_size : Int32} {t_nameCount : Int32} {p1 : Int32} {p2 : Int32} {res : (Nat → Int32) × (Nat → Int32) × (Nat → Int32)} (G : zG p m c cX2_comeToAll 4 s args RX2 (dC, dI) vwCl (zT cI cJ cZ cN) A meth none)  : ∀ (x3 : Int32) (t_narrower : Nat → Int32) (t_order : Nat → Int32) (t_moving : Nat → Int32), f_X2_comeToAll_l2 t_size p1 p2  x3 t_narrower t_order t_moving = some res → Z p l e ({ frames := 3, cells := 0, slots := 0, locals := 77 }) s m args below meth c (dC, dI) vwCl A 4 0 0 (MQ below (zQ (none) (True) (w_N cI cJ cZ cN ta res.1 res.2.1 t_items t_names t_owners res.2.2 t_all t_size t_nameCount) (dC, dI) vwCl A) args s 0 0 A) (w_N cI cJ cZ cN ta t_narrower t_order t_items t_names t_owners t_moving t_all t_size t_nameCount) [(0, .ref (ta 0)), (1, .int p1), (2, .int p2), (3, .int x3)] [] 2 := by
  intro x3 t_narrower t_order t_moving h
  exact zloop (P := fun v => Z p l e ({ frames := 3, cells := 0, slots := 0, locals := 77 }) s m args below meth c (dC, dI) vwCl A 4 0 0 (MQ below (zQ (none) (True) (w_N cI cJ cZ cN ta res.1 res.2.1 t_items t_names t_owners res.2.2 t_all t_size t_nameCount) (dC, dI) vwCl A) args s 0 0 A) (w_N cI cJ cZ cN ta v.2.1 v.2.2.1 t_items t_names t_owners v.2.2.2 t_all t_size t_nameCount) [(0, .ref (ta 0)), (1, .int p1), (2, .int p2), (3, .int v.1)] [] 2) (fun rc hr v h => zb_X2_comeToAll_2 G  (fun x0_ x1_ x2_ x3_ h => hr (x0_, x1_, x2_, x3_) h) v.1 v.2.1 v.2.2.1 v.2.2.2 h) 200 (x3, t_narrower, t_order, t_moving) h
noncomputable def f_X2_comeToAll (t_narrower : Nat → Int32) (t_order : Nat → Int32) (t_moving : Nat → Int32) (t_size : Int32) (p1 : Int32) (p2 : Int32) : Option ((Nat → Int32) × (Nat → Int32) × (Nat → Int32)) :=
  f_X2_comeToAll_l2 t_size p1 p2  0 t_narrower t_order t_moving
set_option maxRecDepth 100000 in
set_option maxHeartbeats 4000000 in
theorem c_X2_comeToAll {l : Launch} {dC : Nat → ClassId} {dI : Nat → Nat → Nat} {cI cJ cZ cN : ClassId} {ta : Nat → Nat} {t_narrower : Nat → Int32} {t_order : Nat → Int32} {t_items : Nat → Int64} {t_names : Nat → Int32} {t_owners : Nat → Int32} {t_moving : Nat → Int32} {t_all : Int32} {t_size : Int32} {t_nameCount : Int32} {p1 : Int32} {p2 : Int32} {res : (Nat → Int32) × (Nat → Int32) × (Nat → Int32)} (h : f_X2_comeToAll t_narrower t_order t_moving t_size p1 p2 = some res) : zM l yX2_comeToAll cX2_comeToAll 4 none ({ frames := 3, cells := 0, slots := 0, locals := 77 }) [.ref (ta 0), .int p1, .int p2] (dC, dI) vwCl (zT cI cJ cZ cN) (w_N cI cJ cZ cN ta t_narrower t_order t_items t_names t_owners t_moving t_all t_size t_nameCount) (none) (True) (w_N cI cJ cZ cN ta res.1 res.2.1 t_items t_names t_owners res.2.2 t_all t_size t_nameCount) := by
  refine zM_of (own := RX2) (by decide) rfl [(0, .ref (ta 0)), (1, .int p1), (2, .int p2)] (Nat.le_of_ble_eq_true rfl) rfl ?_
  intro p e s m args below meth c A G _
  unfold f_X2_comeToAll at h
  refine z_iconst (v := 0) G dX2_comeToAll_0 (by decide) ?_
  refine z_istore_n (lv' := [(0, .ref (ta 0)), (1, .int p1), (2, .int p2), (3, .int 0)]) G dX2_comeToAll_1 rfl (by decide) [1, 2, 3, 0] rfl ?_
  exact zl_X2_comeToAll_2 G  0 t_narrower t_order t_moving h

noncomputable def f_X2_addName (t_names : Nat → Int32) (t_owners : Nat → Int32) (t_nameCount : Int32) (p1 : Int32) (p2 : Int32) : Option ((Nat → Int32) × (Nat → Int32) × Int32) :=
  if 40 ≤ t_nameCount then some (t_names, t_owners, t_nameCount) else chk (inb t_nameCount 40) (chk (inb t_nameCount 40) (some (upd t_names (ix t_nameCount) p1, upd t_owners (ix t_nameCount) p2, t_nameCount + 1)))
set_option maxRecDepth 100000 in
set_option maxHeartbeats 4000000 in
theorem c_X2_addName {l : Launch} {dC : Nat → ClassId} {dI : Nat → Nat → Nat} {cI cJ cZ cN : ClassId} {ta : Nat → Nat} {t_narrower : Nat → Int32} {t_order : Nat → Int32} {t_items : Nat → Int64} {t_names : Nat → Int32} {t_owners : Nat → Int32} {t_moving : Nat → Int32} {t_all : Int32} {t_size : Int32} {t_nameCount : Int32} {p1 : Int32} {p2 : Int32} {res : (Nat → Int32) × (Nat → Int32) × Int32} (h : f_X2_addName t_names t_owners t_nameCount p1 p2 = some res) : zM l yX2_addName cX2_addName 3 none ({ frames := 0, cells := 0, slots := 0, locals := 0 }) [.ref (ta 0), .int p1, .int p2] (dC, dI) vwCl (zT cI cJ cZ cN) (w_N cI cJ cZ cN ta t_narrower t_order t_items t_names t_owners t_moving t_all t_size t_nameCount) (none) (True) (w_N cI cJ cZ cN ta t_narrower t_order t_items res.1 res.2.1 t_moving t_all t_size res.2.2) := by
  refine zM_of (own := RX2) (by decide) rfl [(0, .ref (ta 0)), (1, .int p1), (2, .int p2)] (Nat.le_of_ble_eq_true rfl) rfl ?_
  intro p e s m args below meth c A G _
  unfold f_X2_addName at h
  refine z_aload_n G dX2_addName_0 rfl 0 rfl ?_
  refine z_get (ci := 2) (v := .int t_nameCount) G in_X2 0 rfl rfl 8 (by decide) fl_X2_44 rfl dX2_addName_1 ?_
  refine z_bipush (v := 40) G dX2_addName_4 (by decide) ?_
  refine z_icmp_ge (tgt := 39) G dX2_addName_6 (by decide) h (fun h => ?_) (fun h => ?_)
  · obtain rfl := Option.some.inj h
    exact z_vret G rfl dX2_addName_39 rfl trivial rfl
  · refine z_aload_n G dX2_addName_9 rfl 0 rfl ?_
    refine z_get (ci := 2) (v := .ref (ta 4)) G in_X2 0 rfl rfl 3 (by decide) fl_X2_22 rfl dX2_addName_10 ?_
    refine z_aload_n G dX2_addName_13 rfl 0 rfl ?_
    refine z_get (ci := 2) (v := .int t_nameCount) G in_X2 0 rfl rfl 8 (by decide) fl_X2_44 rfl dX2_addName_14 ?_
    refine z_iload_n G dX2_addName_17 rfl 1 rfl ?_
    refine z_iastore (ws' := (w_N cI cJ cZ cN ta t_narrower t_order t_items (upd t_names (ix t_nameCount) p1) t_owners t_moving t_all t_size t_nameCount)) G 4 0 rfl rfl rfl dX2_addName_18 h (fun h => ?_)
    refine z_aload_n G dX2_addName_19 rfl 0 rfl ?_
    refine z_get (ci := 2) (v := .ref (ta 5)) G in_X2 0 rfl rfl 4 (by decide) fl_X2_25 rfl dX2_addName_20 ?_
    refine z_aload_n G dX2_addName_23 rfl 0 rfl ?_
    refine z_get (ci := 2) (v := .int t_nameCount) G in_X2 0 rfl rfl 8 (by decide) fl_X2_44 rfl dX2_addName_24 ?_
    refine z_iload_n G dX2_addName_27 rfl 2 rfl ?_
    refine z_iastore (ws' := (w_N cI cJ cZ cN ta t_narrower t_order t_items (upd t_names (ix t_nameCount) p1) (upd t_owners (ix t_nameCount) p2) t_moving t_all t_size t_nameCount)) G 5 0 rfl rfl rfl dX2_addName_28 h (fun h => ?_)
    refine z_aload_n G dX2_addName_29 rfl 0 rfl ?_
    refine z_dup G dX2_addName_30 rfl ?_
    refine z_get (ci := 2) (v := .int t_nameCount) G in_X2 0 rfl rfl 8 (by decide) fl_X2_44 rfl dX2_addName_31 ?_
    refine z_iconst (v := 1) G dX2_addName_34 (by decide) ?_
    refine z_iadd G dX2_addName_35 ?_
    refine z_put (ci := 2) (ws' := (w_N cI cJ cZ cN ta t_narrower t_order t_items (upd t_names (ix t_nameCount) p1) (upd t_owners (ix t_nameCount) p2) t_moving t_all t_size (t_nameCount + 1))) G in_X2 tyX2 tyX2_ok nmX2 0 rfl rfl 8 (by decide) fl_X2_44 rfl rfl rfl (Nat.le_of_ble_eq_true rfl) rfl dX2_addName_36 ?_
    obtain rfl := Option.some.inj h
    exact z_vret G rfl dX2_addName_39 rfl trivial rfl

noncomputable def f_X2_handNames_b8 (p1 : Int32) (p2 : Int32) (k8 : Int32 → Int32 → (Nat → Int32) → (Nat → Int32) → Int32 → Option ((Nat → Int32) × (Nat → Int32) × Int32)) (x3 : Int32) (x4 : Int32) (t_names : Nat → Int32) (t_owners : Nat → Int32) (t_nameCount : Int32) : Option ((Nat → Int32) × (Nat → Int32) × Int32) :=
  if x4 ≤ 0 then some (t_names, t_owners, t_nameCount) else chk (inb x3 40) (if (t_owners (ix x3)) = p1 then chk (inb x3 40) ((f_X2_removeName t_names t_owners t_nameCount x3).bind (fun r1 => (f_X2_addName r1.1 r1.2.1 r1.2.2 (t_names (ix x3)) p2).bind (fun r3 => k8 x3 (x4 + (-1)) r3.1 r3.2.1 r3.2.2))) else k8 (x3 + 1) (x4 + (-1)) t_names t_owners t_nameCount)
set_option maxRecDepth 100000 in
set_option maxHeartbeats 4000000 in
theorem zb_X2_handNames_8 {p : Program} {l : Launch} {e : Env} {s : State} {m : MethodId} {args : Array Value} {below : List Frame} {meth : Method} {c : Code} {A : Nat → Prop} {dC : Nat → ClassId} {dI : Nat → Nat → Nat} {cI cJ cZ cN : ClassId} {ta : Nat → Nat} {t_narrower : Nat → Int32} {t_order : Nat → Int32} {t_items : Nat → Int64} {t_moving : Nat → Int32} {t_all : Int32} {t_size : Int32} {p1 : Int32} {p2 : Int32} {res : (Nat → Int32) × (Nat → Int32) × Int32} (G : zG p m c cX2_handNames 6 s args RX2 (dC, dI) vwCl (zT cI cJ cZ cN) A meth none) {k8 : Int32 → Int32 → (Nat → Int32) → (Nat → Int32) → Int32 → Option ((Nat → Int32) × (Nat → Int32) × Int32)} (hr8 : ∀ (x3 : Int32) (x4 : Int32) (t_names : Nat → Int32) (t_owners : Nat → Int32) (t_nameCount : Int32), k8 x3 x4 t_names t_owners t_nameCount = some res → Z p l e ({ frames := 1, cells := 0, slots := 0, locals := 22 }) s m args below meth c (dC, dI) vwCl A 6 0 0 (MQ below (zQ (none) (True) (w_N cI cJ cZ cN ta t_narrower t_order t_items res.1 res.2.1 t_moving t_all t_size res.2.2) (dC, dI) vwCl A) args s 0 0 A) (w_N cI cJ cZ cN ta t_narrower t_order t_items t_names t_owners t_moving t_all t_size t_nameCount) [(0, .ref (ta 0)), (1, .int p1), (2, .int p2), (3, .int x3), (4, .int x4)] [] 8) : ∀ (x3 : Int32) (x4 : Int32) (t_names : Nat → Int32) (t_owners : Nat → Int32) (t_nameCount : Int32), f_X2_handNames_b8 p1 p2 k8 x3 x4 t_names t_owners t_nameCount = some res → Z p l e ({ frames := 1, cells := 0, slots := 0, locals := 22 }) s m args below meth c (dC, dI) vwCl A 6 0 0 (MQ below (zQ (none) (True) (w_N cI cJ cZ cN ta t_narrower t_order t_items res.1 res.2.1 t_moving t_all t_size res.2.2) (dC, dI) vwCl A) args s 0 0 A) (w_N cI cJ cZ cN ta t_narrower t_order t_items t_names t_owners t_moving t_all t_size t_nameCount) [(0, .ref (ta 0)), (1, .int p1), (2, .int p2), (3, .int x3), (4, .int x4)] [] 8 := by
  intro x3 x4 t_names t_owners t_nameCount h
  unfold f_X2_handNames_b8 at h
  refine z_iload G dX2_handNames_8 4 rfl ?_
  refine z_if_le (tgt := 55) G dX2_handNames_10 (by decide) h (fun h => ?_) (fun h => ?_)
  · obtain rfl := Option.some.inj h
    exact z_vret G rfl dX2_handNames_55 rfl trivial rfl
  · refine z_aload_n G dX2_handNames_13 rfl 0 rfl ?_
    refine z_get (ci := 2) (v := .ref (ta 5)) G in_X2 0 rfl rfl 4 (by decide) fl_X2_25 rfl dX2_handNames_14 ?_
    refine z_iload_n G dX2_handNames_17 rfl 3 rfl ?_
    refine z_iaload G 5 0 rfl rfl dX2_handNames_18 h (fun h => ?_)
    refine z_iload_n G dX2_handNames_19 rfl 1 rfl ?_
    refine z_icmp_ne (tgt := 46) G dX2_handNames_20 (by decide) h (fun h => ?_) (fun h => ?_)
    · refine z_iinc (v := x3 + 1) (lv' := [(0, .ref (ta 0)), (1, .int p1), (2, .int p2), (3, .int (x3 + 1)), (4, .int x4)]) G dX2_handNames_46 3 rfl rfl (by decide) [1, 2, 3, 0, 4] rfl ?_
      refine z_iinc (v := x4 + (-1)) (lv' := [(0, .ref (ta 0)), (1, .int p1), (2, .int p2), (3, .int (x3 + 1)), (4, .int (x4 + (-1)))]) G dX2_handNames_49 4 rfl rfl (by decide) [1, 2, 3, 4, 0] rfl ?_
      refine z_goto (tgt := 8) G dX2_handNames_52 (by decide) ?_
      exact hr8 (x3 + 1) (x4 + (-1)) t_names t_owners t_nameCount h
    · refine z_aload_n G dX2_handNames_23 rfl 0 rfl ?_
      refine z_get (ci := 2) (v := .ref (ta 4)) G in_X2 0 rfl rfl 3 (by decide) fl_X2_22 rfl dX2_handNames_24 ?_
      refine z_iload_n G dX2_handNames_27 rfl 3 rfl ?_
      refine z_iaload G 4 0 rfl rfl dX2_handNames_28 h (fun h => ?_)
      refine z_istore (lv' := [(0, .ref (ta 0)), (1, .int p1), (2, .int p2), (3, .int x3), (4, .int x4), (5, .int (t_names (ix x3)))]) G dX2_handNames_29 (by decide) [1, 2, 3, 4, 5, 0] rfl ?_
      refine z_aload_n G dX2_handNames_31 rfl 0 rfl ?_
      refine z_iload_n G dX2_handNames_32 rfl 3 rfl ?_
      obtain ⟨r1, e1, h⟩ := obind h
      refine z_kV (As := [.int x3]) (rest := []) (st' := []) (ws' := (w_N cI cJ cZ cN ta t_narrower t_order t_items r1.1 r1.2.1 t_moving t_all t_size r1.2.2)) G pk_X2_removeName pv_X2_removeName ml_X2_59 (c_X2_removeName (ta := ta) (t_narrower := t_narrower) (t_order := t_order) (t_items := t_items) (t_names := t_names) (t_owners := t_owners) (t_moving := t_moving) (t_all := t_all) (t_size := t_size) (t_nameCount := t_nameCount) (p1 := x3) e1) ⟨rfl, rfl⟩ ⟨Nat.le_of_ble_eq_true rfl, Nat.le_of_ble_eq_true rfl⟩ ⟨Nat.zero_le _, Nat.zero_le _⟩ rfl rfl (Nat.le_of_ble_eq_true rfl) 0 2 rfl rfl rfl [0, 1, 2, 3, 4, 5, 6] rfl rfl [some 0, some 1, some 2, some 3, some 4, some 5, some 6] rfl rfl rfl rfl dX2_handNames_33 (fun z2 => ?_)
      refine z_aload_n G dX2_handNames_36 rfl 0 rfl ?_
      refine z_iload G dX2_handNames_37 5 rfl ?_
      refine z_iload_n G dX2_handNames_39 rfl 2 rfl ?_
      obtain ⟨r3, e3, h⟩ := obind h
      refine z_kV (As := [.int (t_names (ix x3)), .int p2]) (rest := []) (st' := []) (ws' := (w_N cI cJ cZ cN ta t_narrower t_order t_items r3.1 r3.2.1 t_moving t_all t_size r3.2.2)) G pk_X2_addName pv_X2_addName ml_X2_55 (c_X2_addName (ta := ta) (t_narrower := t_narrower) (t_order := t_order) (t_items := t_items) (t_names := r1.1) (t_owners := r1.2.1) (t_moving := t_moving) (t_all := t_all) (t_size := t_size) (t_nameCount := r1.2.2) (p1 := t_names (ix x3)) (p2 := p2) e3) ⟨rfl, rfl⟩ ⟨Nat.le_of_ble_eq_true rfl, Nat.le_of_ble_eq_true rfl⟩ ⟨Nat.zero_le _, Nat.zero_le _⟩ rfl rfl (Nat.le_of_ble_eq_true rfl) 0 2 rfl rfl rfl [0, 1, 2, 3, 4, 5, 6] rfl rfl [some 0, some 1, some 2, some 3, some 4, some 5, some 6] rfl rfl rfl rfl dX2_handNames_40 (fun z4 => ?_)
      refine z_goto (tgt := 49) G dX2_handNames_43 (by decide) ?_
      refine z_iinc (v := x4 + (-1)) (lv' := [(0, .ref (ta 0)), (1, .int p1), (2, .int p2), (3, .int x3), (4, .int (x4 + (-1))), (5, .int (t_names (ix x3)))]) G dX2_handNames_49 4 rfl rfl (by decide) [1, 2, 3, 4, 0, 5] rfl ?_
      refine z_goto (tgt := 8) G dX2_handNames_52 (by decide) ?_
      refine z_lv [0, 1, 2, 3, 4] rfl ?_
      exact hr8 x3 (x4 + (-1)) r3.1 r3.2.1 r3.2.2 h
noncomputable def f_X2_handNames_l8 (p1 : Int32) (p2 : Int32)  (x3 : Int32) (x4 : Int32) (t_names : Nat → Int32) (t_owners : Nat → Int32) (t_nameCount : Int32) : Option ((Nat → Int32) × (Nat → Int32) × Int32) := loopN (V := Int32 × Int32 × (Nat → Int32) × (Nat → Int32) × Int32) (fun rc v => f_X2_handNames_b8 p1 p2  (fun x0_ x1_ x2_ x3_ x4_ => rc (x0_, x1_, x2_, x3_, x4_)) v.1 v.2.1 v.2.2.1 v.2.2.2.1 v.2.2.2.2) 200 (x3, x4, t_names, t_owners, t_nameCount)
set_option maxRecDepth 100000 in
set_option maxHeartbeats 4000000 in
theorem zl_X2_handNames_8 {p : Program} {l : Launch} {e : Env} {s : State} {m : MethodId} {args : Array Value} {below : List Frame} {meth : Method} {c : Code} {A : Nat → Prop} {dC : Nat → ClassId} {dI : Nat → Nat → Nat} {cI cJ cZ cN : ClassId} {ta : Nat → Nat} {t_narrower : Nat → Int32} {t_order : Nat → Int32} {t_items : Nat → Int64} {t_moving : Nat → Int32} {t_all : Int32} {t_size : Int32} {p1 : Int32} {p2 : Int32} {res : (Nat → Int32) × (Nat → Int32) × Int32} (G : zG p m c cX2_handNames 6 s args RX2 (dC, dI) vwCl (zT cI cJ cZ cN) A meth none)  : ∀ (x3 : Int32) (x4 : Int32) (t_names : Nat → Int32) (t_owners : Nat → Int32) (t_nameCount : Int32), f_X2_handNames_l8 p1 p2  x3 x4 t_names t_owners t_nameCount = some res → Z p l e ({ frames := 1, cells := 0, slots := 0, locals := 22 }) s m args below meth c (dC, dI) vwCl A 6 0 0 (MQ below (zQ (none) (True) (w_N cI cJ cZ cN ta t_narrower t_order t_items res.1 res.2.1 t_moving t_all t_size res.2.2) (dC, dI) vwCl A) args s 0 0 A) (w_N cI cJ cZ cN ta t_narrower t_order t_items t_names t_owners t_moving t_all t_size t_nameCount) [(0, .ref (ta 0)), (1, .int p1), (2, .int p2), (3, .int x3), (4, .int x4)] [] 8 := by
  intro x3 x4 t_names t_owners t_nameCount h
  exact zloop (P := fun v => Z p l e ({ frames := 1, cells := 0, slots := 0, locals := 22 }) s m args below meth c (dC, dI) vwCl A 6 0 0 (MQ below (zQ (none) (True) (w_N cI cJ cZ cN ta t_narrower t_order t_items res.1 res.2.1 t_moving t_all t_size res.2.2) (dC, dI) vwCl A) args s 0 0 A) (w_N cI cJ cZ cN ta t_narrower t_order t_items v.2.2.1 v.2.2.2.1 t_moving t_all t_size v.2.2.2.2) [(0, .ref (ta 0)), (1, .int p1), (2, .int p2), (3, .int v.1), (4, .int v.2.1)] [] 8) (fun rc hr v h => zb_X2_handNames_8 G  (fun x0_ x1_ x2_ x3_ x4_ h => hr (x0_, x1_, x2_, x3_, x4_) h) v.1 v.2.1 v.2.2.1 v.2.2.2.1 v.2.2.2.2 h) 200 (x3, x4, t_names, t_owners, t_nameCount) h
noncomputable def f_X2_handNames (t_names : Nat → Int32) (t_owners : Nat → Int32) (t_nameCount : Int32) (p1 : Int32) (p2 : Int32) : Option ((Nat → Int32) × (Nat → Int32) × Int32) :=
  f_X2_handNames_l8 p1 p2  0 t_nameCount t_names t_owners t_nameCount
set_option maxRecDepth 100000 in
set_option maxHeartbeats 4000000 in
theorem c_X2_handNames {l : Launch} {dC : Nat → ClassId} {dI : Nat → Nat → Nat} {cI cJ cZ cN : ClassId} {ta : Nat → Nat} {t_narrower : Nat → Int32} {t_order : Nat → Int32} {t_items : Nat → Int64} {t_names : Nat → Int32} {t_owners : Nat → Int32} {t_moving : Nat → Int32} {t_all : Int32} {t_size : Int32} {t_nameCount : Int32} {p1 : Int32} {p2 : Int32} {res : (Nat → Int32) × (Nat → Int32) × Int32} (h : f_X2_handNames t_names t_owners t_nameCount p1 p2 = some res) : zM l yX2_handNames cX2_handNames 6 none ({ frames := 1, cells := 0, slots := 0, locals := 22 }) [.ref (ta 0), .int p1, .int p2] (dC, dI) vwCl (zT cI cJ cZ cN) (w_N cI cJ cZ cN ta t_narrower t_order t_items t_names t_owners t_moving t_all t_size t_nameCount) (none) (True) (w_N cI cJ cZ cN ta t_narrower t_order t_items res.1 res.2.1 t_moving t_all t_size res.2.2) := by
  refine zM_of (own := RX2) (by decide) rfl [(0, .ref (ta 0)), (1, .int p1), (2, .int p2)] (Nat.le_of_ble_eq_true rfl) rfl ?_
  intro p e s m args below meth c A G _
  unfold f_X2_handNames at h
  refine z_iconst (v := 0) G dX2_handNames_0 (by decide) ?_
  refine z_istore_n (lv' := [(0, .ref (ta 0)), (1, .int p1), (2, .int p2), (3, .int 0)]) G dX2_handNames_1 rfl (by decide) [1, 2, 3, 0] rfl ?_
  refine z_aload_n G dX2_handNames_2 rfl 0 rfl ?_
  refine z_get (ci := 2) (v := .int t_nameCount) G in_X2 0 rfl rfl 8 (by decide) fl_X2_44 rfl dX2_handNames_3 ?_
  refine z_istore (lv' := [(0, .ref (ta 0)), (1, .int p1), (2, .int p2), (3, .int 0), (4, .int t_nameCount)]) G dX2_handNames_6 (by decide) [1, 2, 3, 4, 0] rfl ?_
  exact zl_X2_handNames_8 G  0 t_nameCount t_names t_owners t_nameCount h

noncomputable def f_X2_needlessFrom_b4 (t_narrower : Nat → Int32) (t_order : Nat → Int32) (t_size : Int32) (p1 : Int32) (k4 : Int32 → Int32 → Option (Int32)) (x2 : Int32) (x3 : Int32) : Option (Int32) :=
  if 24 ≤ x3 then chk (inb p1 24) (some ((t_narrower (ix p1)) &&& x2)) else chk (inb p1 24) (if (f_X6_holds (t_narrower (ix p1)) x3) = 0 then k4 x2 (x3 + 1) else (f_X2_below t_narrower t_order t_size x3).bind (fun r2 => k4 (x2 ||| (r2 &&& ((jshl 1 x3) ^^^ (-1)))) (x3 + 1)))
set_option maxRecDepth 100000 in
set_option maxHeartbeats 4000000 in
theorem zb_X2_needlessFrom_4 {p : Program} {l : Launch} {e : Env} {s : State} {m : MethodId} {args : Array Value} {below : List Frame} {meth : Method} {c : Code} {A : Nat → Prop} {dC : Nat → ClassId} {dI : Nat → Nat → Nat} {cI cJ cZ cN : ClassId} {ta : Nat → Nat} {t_narrower : Nat → Int32} {t_order : Nat → Int32} {t_items : Nat → Int64} {t_names : Nat → Int32} {t_owners : Nat → Int32} {t_moving : Nat → Int32} {t_all : Int32} {t_size : Int32} {t_nameCount : Int32} {p1 : Int32} {res : Int32} (G : zG p m c cX2_needlessFrom 4 s args RX2 (dC, dI) vwCl (zT cI cJ cZ cN) A meth (some .int)) {k4 : Int32 → Int32 → Option (Int32)} (hr4 : ∀ (x2 : Int32) (x3 : Int32), k4 x2 x3 = some res → Z p l e ({ frames := 2, cells := 0, slots := 0, locals := 44 }) s m args below meth c (dC, dI) vwCl A 4 0 0 (MQ below (zQ (some (.int res)) (True) (w_N cI cJ cZ cN ta t_narrower t_order t_items t_names t_owners t_moving t_all t_size t_nameCount) (dC, dI) vwCl A) args s 0 0 A) (w_N cI cJ cZ cN ta t_narrower t_order t_items t_names t_owners t_moving t_all t_size t_nameCount) [(0, .ref (ta 0)), (1, .int p1), (2, .int x2), (3, .int x3)] [] 4) : ∀ (x2 : Int32) (x3 : Int32), f_X2_needlessFrom_b4 t_narrower t_order t_size p1 k4 x2 x3 = some res → Z p l e ({ frames := 2, cells := 0, slots := 0, locals := 44 }) s m args below meth c (dC, dI) vwCl A 4 0 0 (MQ below (zQ (some (.int res)) (True) (w_N cI cJ cZ cN ta t_narrower t_order t_items t_names t_owners t_moving t_all t_size t_nameCount) (dC, dI) vwCl A) args s 0 0 A) (w_N cI cJ cZ cN ta t_narrower t_order t_items t_names t_owners t_moving t_all t_size t_nameCount) [(0, .ref (ta 0)), (1, .int p1), (2, .int x2), (3, .int x3)] [] 4 := by
  intro x2 x3 h
  unfold f_X2_needlessFrom_b4 at h
  refine z_iload_n G dX2_needlessFrom_4 rfl 3 rfl ?_
  refine z_bipush (v := 24) G dX2_needlessFrom_5 (by decide) ?_
  refine z_icmp_ge (tgt := 43) G dX2_needlessFrom_7 (by decide) h (fun h => ?_) (fun h => ?_)
  · refine z_aload_n G dX2_needlessFrom_43 rfl 0 rfl ?_
    refine z_get (ci := 2) (v := .ref (ta 1)) G in_X2 0 rfl rfl 0 (by decide) fl_X2_9 rfl dX2_needlessFrom_44 ?_
    refine z_iload_n G dX2_needlessFrom_47 rfl 1 rfl ?_
    refine z_iaload G 1 0 rfl rfl dX2_needlessFrom_48 h (fun h => ?_)
    refine z_iload_n G dX2_needlessFrom_49 rfl 2 rfl ?_
    refine z_iand G dX2_needlessFrom_50 ?_
    obtain rfl := Option.some.inj h
    exact z_iret G rfl dX2_needlessFrom_51 rfl trivial rfl
  · refine z_aload_n G dX2_needlessFrom_10 rfl 0 rfl ?_
    refine z_get (ci := 2) (v := .ref (ta 1)) G in_X2 0 rfl rfl 0 (by decide) fl_X2_9 rfl dX2_needlessFrom_11 ?_
    refine z_iload_n G dX2_needlessFrom_14 rfl 1 rfl ?_
    refine z_iaload G 1 0 rfl rfl dX2_needlessFrom_15 h (fun h => ?_)
    refine z_iload_n G dX2_needlessFrom_16 rfl 3 rfl ?_
    refine z_kSN (As := [.int (t_narrower (ix p1)), .int x3]) (rest := []) (st' := [.int (f_X6_holds (t_narrower (ix p1)) x3)]) G pk_X6_holds ps_X6_holds nl_X2_47 (c_X6_holds (p0 := t_narrower (ix p1)) (p1 := x3) rfl) ⟨rfl, rfl⟩ ⟨Nat.le_of_ble_eq_true rfl, Nat.le_of_ble_eq_true rfl⟩ ⟨Nat.zero_le _, Nat.zero_le _⟩ rfl rfl (Nat.le_of_ble_eq_true rfl) rfl dX2_needlessFrom_17 (fun z1 => ?_)
    refine z_if_eq (tgt := 37) G dX2_needlessFrom_20 (by decide) h (fun h => ?_) (fun h => ?_)
    · refine z_iinc (v := x3 + 1) (lv' := [(0, .ref (ta 0)), (1, .int p1), (2, .int x2), (3, .int (x3 + 1))]) G dX2_needlessFrom_37 3 rfl rfl (by decide) [1, 2, 3, 0] rfl ?_
      refine z_goto (tgt := 4) G dX2_needlessFrom_40 (by decide) ?_
      exact hr4 x2 (x3 + 1) h
    · refine z_iload_n G dX2_needlessFrom_23 rfl 2 rfl ?_
      refine z_aload_n G dX2_needlessFrom_24 rfl 0 rfl ?_
      refine z_iload_n G dX2_needlessFrom_25 rfl 3 rfl ?_
      obtain ⟨r2, e2, h⟩ := obind h
      refine z_kR (As := [.int x3]) (rest := [.int x2]) (st' := [.int r2, .int x2]) G pk_X2_below pv_X2_below ml_X2_70 (c_X2_below (ta := ta) (t_narrower := t_narrower) (t_order := t_order) (t_items := t_items) (t_names := t_names) (t_owners := t_owners) (t_moving := t_moving) (t_all := t_all) (t_size := t_size) (t_nameCount := t_nameCount) (p1 := x3) e2) ⟨rfl, rfl⟩ ⟨Nat.le_of_ble_eq_true rfl, Nat.le_of_ble_eq_true rfl⟩ ⟨Nat.zero_le _, Nat.zero_le _⟩ rfl rfl (Nat.le_of_ble_eq_true rfl) 0 2 rfl rfl rfl [0, 1, 2, 3, 4, 5, 6] rfl rfl rfl dX2_needlessFrom_26 (fun z3 => ?_)
      refine z_iconst (v := 1) G dX2_needlessFrom_29 (by decide) ?_
      refine z_iload_n G dX2_needlessFrom_30 rfl 3 rfl ?_
      refine z_ishl G dX2_needlessFrom_31 ?_
      refine z_iconst (v := (-1)) G dX2_needlessFrom_32 (by decide) ?_
      refine z_ixor G dX2_needlessFrom_33 ?_
      refine z_iand G dX2_needlessFrom_34 ?_
      refine z_ior G dX2_needlessFrom_35 ?_
      refine z_istore_n (lv' := [(0, .ref (ta 0)), (1, .int p1), (2, .int (x2 ||| (r2 &&& ((jshl 1 x3) ^^^ (-1))))), (3, .int x3)]) G dX2_needlessFrom_36 rfl (by decide) [1, 2, 0, 3] rfl ?_
      refine z_iinc (v := x3 + 1) (lv' := [(0, .ref (ta 0)), (1, .int p1), (2, .int (x2 ||| (r2 &&& ((jshl 1 x3) ^^^ (-1))))), (3, .int (x3 + 1))]) G dX2_needlessFrom_37 3 rfl rfl (by decide) [1, 2, 3, 0] rfl ?_
      refine z_goto (tgt := 4) G dX2_needlessFrom_40 (by decide) ?_
      exact hr4 (x2 ||| (r2 &&& ((jshl 1 x3) ^^^ (-1)))) (x3 + 1) h
noncomputable def f_X2_needlessFrom_l4 (t_narrower : Nat → Int32) (t_order : Nat → Int32) (t_size : Int32) (p1 : Int32)  (x2 : Int32) (x3 : Int32) : Option (Int32) := loopN (V := Int32 × Int32) (fun rc v => f_X2_needlessFrom_b4 t_narrower t_order t_size p1  (fun x0_ x1_ => rc (x0_, x1_)) v.1 v.2) 200 (x2, x3)
set_option maxRecDepth 100000 in
set_option maxHeartbeats 4000000 in
theorem zl_X2_needlessFrom_4 {p : Program} {l : Launch} {e : Env} {s : State} {m : MethodId} {args : Array Value} {below : List Frame} {meth : Method} {c : Code} {A : Nat → Prop} {dC : Nat → ClassId} {dI : Nat → Nat → Nat} {cI cJ cZ cN : ClassId} {ta : Nat → Nat} {t_narrower : Nat → Int32} {t_order : Nat → Int32} {t_items : Nat → Int64} {t_names : Nat → Int32} {t_owners : Nat → Int32} {t_moving : Nat → Int32} {t_all : Int32} {t_size : Int32} {t_nameCount : Int32} {p1 : Int32} {res : Int32} (G : zG p m c cX2_needlessFrom 4 s args RX2 (dC, dI) vwCl (zT cI cJ cZ cN) A meth (some .int))  : ∀ (x2 : Int32) (x3 : Int32), f_X2_needlessFrom_l4 t_narrower t_order t_size p1  x2 x3 = some res → Z p l e ({ frames := 2, cells := 0, slots := 0, locals := 44 }) s m args below meth c (dC, dI) vwCl A 4 0 0 (MQ below (zQ (some (.int res)) (True) (w_N cI cJ cZ cN ta t_narrower t_order t_items t_names t_owners t_moving t_all t_size t_nameCount) (dC, dI) vwCl A) args s 0 0 A) (w_N cI cJ cZ cN ta t_narrower t_order t_items t_names t_owners t_moving t_all t_size t_nameCount) [(0, .ref (ta 0)), (1, .int p1), (2, .int x2), (3, .int x3)] [] 4 := by
  intro x2 x3 h
  exact zloop (P := fun v => Z p l e ({ frames := 2, cells := 0, slots := 0, locals := 44 }) s m args below meth c (dC, dI) vwCl A 4 0 0 (MQ below (zQ (some (.int res)) (True) (w_N cI cJ cZ cN ta t_narrower t_order t_items t_names t_owners t_moving t_all t_size t_nameCount) (dC, dI) vwCl A) args s 0 0 A) (w_N cI cJ cZ cN ta t_narrower t_order t_items t_names t_owners t_moving t_all t_size t_nameCount) [(0, .ref (ta 0)), (1, .int p1), (2, .int v.1), (3, .int v.2)] [] 4) (fun rc hr v h => zb_X2_needlessFrom_4 G  (fun x0_ x1_ h => hr (x0_, x1_) h) v.1 v.2 h) 200 (x2, x3) h
noncomputable def f_X2_needlessFrom (t_narrower : Nat → Int32) (t_order : Nat → Int32) (t_size : Int32) (p1 : Int32) : Option (Int32) :=
  f_X2_needlessFrom_l4 t_narrower t_order t_size p1  0 0
set_option maxRecDepth 100000 in
set_option maxHeartbeats 4000000 in
theorem c_X2_needlessFrom {l : Launch} {dC : Nat → ClassId} {dI : Nat → Nat → Nat} {cI cJ cZ cN : ClassId} {ta : Nat → Nat} {t_narrower : Nat → Int32} {t_order : Nat → Int32} {t_items : Nat → Int64} {t_names : Nat → Int32} {t_owners : Nat → Int32} {t_moving : Nat → Int32} {t_all : Int32} {t_size : Int32} {t_nameCount : Int32} {p1 : Int32} {res : Int32} (h : f_X2_needlessFrom t_narrower t_order t_size p1 = some res) : zM l yX2_needlessFrom cX2_needlessFrom 4 (some .int) ({ frames := 2, cells := 0, slots := 0, locals := 44 }) [.ref (ta 0), .int p1] (dC, dI) vwCl (zT cI cJ cZ cN) (w_N cI cJ cZ cN ta t_narrower t_order t_items t_names t_owners t_moving t_all t_size t_nameCount) (some (.int res)) (True) (w_N cI cJ cZ cN ta t_narrower t_order t_items t_names t_owners t_moving t_all t_size t_nameCount) := by
  refine zM_of (own := RX2) (by decide) rfl [(0, .ref (ta 0)), (1, .int p1)] (Nat.le_of_ble_eq_true rfl) rfl ?_
  intro p e s m args below meth c A G _
  unfold f_X2_needlessFrom at h
  refine z_iconst (v := 0) G dX2_needlessFrom_0 (by decide) ?_
  refine z_istore_n (lv' := [(0, .ref (ta 0)), (1, .int p1), (2, .int 0)]) G dX2_needlessFrom_1 rfl (by decide) [1, 2, 0] rfl ?_
  refine z_iconst (v := 0) G dX2_needlessFrom_2 (by decide) ?_
  refine z_istore_n (lv' := [(0, .ref (ta 0)), (1, .int p1), (2, .int 0), (3, .int 0)]) G dX2_needlessFrom_3 rfl (by decide) [1, 2, 3, 0] rfl ?_
  exact zl_X2_needlessFrom_4 G  0 0 h

noncomputable def fo_X2_copyFrom (t_narrower : Nat → Int32) (t_order : Nat → Int32) (t_items : Nat → Int64) (t_names : Nat → Int32) (t_owners : Nat → Int32) (t_all : Int32) (t_size : Int32) (t_nameCount : Int32) (o_narrower : Nat → Int32) (o_order : Nat → Int32) (o_items : Nat → Int64) (o_names : Nat → Int32) (o_owners : Nat → Int32) (o_all : Int32) (o_size : Int32) (o_nameCount : Int32) : Option ((Nat → Int32) × (Nat → Int32) × (Nat → Int64) × (Nat → Int32) × (Nat → Int32) × Int32 × Int32 × Int32) :=
  some (o_narrower, o_order, o_items, o_names, o_owners, o_all, o_size, o_nameCount)
set_option maxRecDepth 100000 in
set_option maxHeartbeats 4000000 in
theorem co_X2_copyFrom {l : Launch} {dC : Nat → ClassId} {dI : Nat → Nat → Nat} {cI cJ cZ cN : ClassId} {ta : Nat → Nat} {oa : Nat → Nat} {t_narrower : Nat → Int32} {t_order : Nat → Int32} {t_items : Nat → Int64} {t_names : Nat → Int32} {t_owners : Nat → Int32} {t_moving : Nat → Int32} {t_all : Int32} {t_size : Int32} {t_nameCount : Int32} {o_narrower : Nat → Int32} {o_order : Nat → Int32} {o_items : Nat → Int64} {o_names : Nat → Int32} {o_owners : Nat → Int32} {o_moving : Nat → Int32} {o_all : Int32} {o_size : Int32} {o_nameCount : Int32}  {res : (Nat → Int32) × (Nat → Int32) × (Nat → Int64) × (Nat → Int32) × (Nat → Int32) × Int32 × Int32 × Int32} (h : fo_X2_copyFrom t_narrower t_order t_items t_names t_owners t_all t_size t_nameCount o_narrower o_order o_items o_names o_owners o_all o_size o_nameCount = some res) : zM l yX2_copyFrom cX2_copyFrom 2 none ({ frames := 1, cells := 0, slots := 0, locals := 40 }) [.ref (ta 0), .ref (oa 0)] (dC, dI) vwCl (zT cI cJ cZ cN) (w_NN cI cJ cZ cN ta oa t_narrower t_order t_items t_names t_owners t_moving t_all t_size t_nameCount o_narrower o_order o_items o_names o_owners o_moving o_all o_size o_nameCount) (none) (True) (w_NN cI cJ cZ cN ta oa res.1 res.2.1 res.2.2.1 res.2.2.2.1 res.2.2.2.2.1 t_moving res.2.2.2.2.2.1 res.2.2.2.2.2.2.1 res.2.2.2.2.2.2.2 o_narrower o_order o_items o_names o_owners o_moving o_all o_size o_nameCount) := by
  refine zM_of (own := RX2) (by decide) rfl [(0, .ref (ta 0)), (1, .ref (oa 0))] (Nat.le_of_ble_eq_true rfl) rfl ?_
  intro p e s m args below meth c A G _
  unfold fo_X2_copyFrom at h
  refine z_aload_n G dX2_copyFrom_0 rfl 1 rfl ?_
  refine z_get (ci := 2) (v := .ref (oa 1)) G in_X2 7 rfl rfl 0 (by decide) fl_X2_9 rfl dX2_copyFrom_1 ?_
  refine z_iconst (v := 0) G dX2_copyFrom_4 (by decide) ?_
  refine z_aload_n G dX2_copyFrom_5 rfl 0 rfl ?_
  refine z_get (ci := 2) (v := .ref (ta 1)) G in_X2 0 rfl rfl 0 (by decide) fl_X2_9 rfl dX2_copyFrom_6 ?_
  refine z_iconst (v := 0) G dX2_copyFrom_9 (by decide) ?_
  refine z_bipush (v := 24) G dX2_copyFrom_10 (by decide) ?_
  refine z_copyi (ws' := (w_NN cI cJ cZ cN ta oa o_narrower t_order t_items t_names t_owners t_moving t_all t_size t_nameCount o_narrower o_order o_items o_names o_owners o_moving o_all o_size o_nameCount)) G ml_X2_31 8 1 0 rfl rfl rfl (by decide) (by decide) ⟨Nat.le_of_ble_eq_true rfl, Nat.le_of_ble_eq_true rfl⟩ rfl dX2_copyFrom_12 ?_
  refine z_aload_n G dX2_copyFrom_15 rfl 1 rfl ?_
  refine z_get (ci := 2) (v := .ref (oa 2)) G in_X2 7 rfl rfl 1 (by decide) fl_X2_15 rfl dX2_copyFrom_16 ?_
  refine z_iconst (v := 0) G dX2_copyFrom_19 (by decide) ?_
  refine z_aload_n G dX2_copyFrom_20 rfl 0 rfl ?_
  refine z_get (ci := 2) (v := .ref (ta 2)) G in_X2 0 rfl rfl 1 (by decide) fl_X2_15 rfl dX2_copyFrom_21 ?_
  refine z_iconst (v := 0) G dX2_copyFrom_24 (by decide) ?_
  refine z_bipush (v := 24) G dX2_copyFrom_25 (by decide) ?_
  refine z_copyi (ws' := (w_NN cI cJ cZ cN ta oa o_narrower o_order t_items t_names t_owners t_moving t_all t_size t_nameCount o_narrower o_order o_items o_names o_owners o_moving o_all o_size o_nameCount)) G ml_X2_31 9 2 0 rfl rfl rfl (by decide) (by decide) ⟨Nat.le_of_ble_eq_true rfl, Nat.le_of_ble_eq_true rfl⟩ rfl dX2_copyFrom_27 ?_
  refine z_aload_n G dX2_copyFrom_30 rfl 1 rfl ?_
  refine z_get (ci := 2) (v := .ref (oa 3)) G in_X2 7 rfl rfl 2 (by decide) fl_X2_18 rfl dX2_copyFrom_31 ?_
  refine z_iconst (v := 0) G dX2_copyFrom_34 (by decide) ?_
  refine z_aload_n G dX2_copyFrom_35 rfl 0 rfl ?_
  refine z_get (ci := 2) (v := .ref (ta 3)) G in_X2 0 rfl rfl 2 (by decide) fl_X2_18 rfl dX2_copyFrom_36 ?_
  refine z_iconst (v := 0) G dX2_copyFrom_39 (by decide) ?_
  refine z_bipush (v := 24) G dX2_copyFrom_40 (by decide) ?_
  refine z_copyl (ws' := (w_NN cI cJ cZ cN ta oa o_narrower o_order o_items t_names t_owners t_moving t_all t_size t_nameCount o_narrower o_order o_items o_names o_owners o_moving o_all o_size o_nameCount)) G ml_X2_31 10 3 1 rfl rfl rfl (by decide) (by decide) ⟨Nat.le_of_ble_eq_true rfl, Nat.le_of_ble_eq_true rfl⟩ rfl dX2_copyFrom_42 ?_
  refine z_aload_n G dX2_copyFrom_45 rfl 1 rfl ?_
  refine z_get (ci := 2) (v := .ref (oa 4)) G in_X2 7 rfl rfl 3 (by decide) fl_X2_22 rfl dX2_copyFrom_46 ?_
  refine z_iconst (v := 0) G dX2_copyFrom_49 (by decide) ?_
  refine z_aload_n G dX2_copyFrom_50 rfl 0 rfl ?_
  refine z_get (ci := 2) (v := .ref (ta 4)) G in_X2 0 rfl rfl 3 (by decide) fl_X2_22 rfl dX2_copyFrom_51 ?_
  refine z_iconst (v := 0) G dX2_copyFrom_54 (by decide) ?_
  refine z_bipush (v := 40) G dX2_copyFrom_55 (by decide) ?_
  refine z_copyi (ws' := (w_NN cI cJ cZ cN ta oa o_narrower o_order o_items o_names t_owners t_moving t_all t_size t_nameCount o_narrower o_order o_items o_names o_owners o_moving o_all o_size o_nameCount)) G ml_X2_31 11 4 0 rfl rfl rfl (by decide) (by decide) ⟨Nat.le_of_ble_eq_true rfl, Nat.le_of_ble_eq_true rfl⟩ rfl dX2_copyFrom_57 ?_
  refine z_aload_n G dX2_copyFrom_60 rfl 1 rfl ?_
  refine z_get (ci := 2) (v := .ref (oa 5)) G in_X2 7 rfl rfl 4 (by decide) fl_X2_25 rfl dX2_copyFrom_61 ?_
  refine z_iconst (v := 0) G dX2_copyFrom_64 (by decide) ?_
  refine z_aload_n G dX2_copyFrom_65 rfl 0 rfl ?_
  refine z_get (ci := 2) (v := .ref (ta 5)) G in_X2 0 rfl rfl 4 (by decide) fl_X2_25 rfl dX2_copyFrom_66 ?_
  refine z_iconst (v := 0) G dX2_copyFrom_69 (by decide) ?_
  refine z_bipush (v := 40) G dX2_copyFrom_70 (by decide) ?_
  refine z_copyi (ws' := (w_NN cI cJ cZ cN ta oa o_narrower o_order o_items o_names o_owners t_moving t_all t_size t_nameCount o_narrower o_order o_items o_names o_owners o_moving o_all o_size o_nameCount)) G ml_X2_31 12 5 0 rfl rfl rfl (by decide) (by decide) ⟨Nat.le_of_ble_eq_true rfl, Nat.le_of_ble_eq_true rfl⟩ rfl dX2_copyFrom_72 ?_
  refine z_aload_n G dX2_copyFrom_75 rfl 0 rfl ?_
  refine z_aload_n G dX2_copyFrom_76 rfl 1 rfl ?_
  refine z_get (ci := 2) (v := .int o_all) G in_X2 7 rfl rfl 6 (by decide) fl_X2_37 rfl dX2_copyFrom_77 ?_
  refine z_put (ci := 2) (ws' := (w_NN cI cJ cZ cN ta oa o_narrower o_order o_items o_names o_owners t_moving o_all t_size t_nameCount o_narrower o_order o_items o_names o_owners o_moving o_all o_size o_nameCount)) G in_X2 tyX2 tyX2_ok nmX2 0 rfl rfl 6 (by decide) fl_X2_37 rfl rfl rfl (Nat.le_of_ble_eq_true rfl) rfl dX2_copyFrom_80 ?_
  refine z_aload_n G dX2_copyFrom_83 rfl 0 rfl ?_
  refine z_aload_n G dX2_copyFrom_84 rfl 1 rfl ?_
  refine z_get (ci := 2) (v := .int o_size) G in_X2 7 rfl rfl 7 (by decide) fl_X2_41 rfl dX2_copyFrom_85 ?_
  refine z_put (ci := 2) (ws' := (w_NN cI cJ cZ cN ta oa o_narrower o_order o_items o_names o_owners t_moving o_all o_size t_nameCount o_narrower o_order o_items o_names o_owners o_moving o_all o_size o_nameCount)) G in_X2 tyX2 tyX2_ok nmX2 0 rfl rfl 7 (by decide) fl_X2_41 rfl rfl rfl (Nat.le_of_ble_eq_true rfl) rfl dX2_copyFrom_88 ?_
  refine z_aload_n G dX2_copyFrom_91 rfl 0 rfl ?_
  refine z_aload_n G dX2_copyFrom_92 rfl 1 rfl ?_
  refine z_get (ci := 2) (v := .int o_nameCount) G in_X2 7 rfl rfl 8 (by decide) fl_X2_44 rfl dX2_copyFrom_93 ?_
  refine z_put (ci := 2) (ws' := (w_NN cI cJ cZ cN ta oa o_narrower o_order o_items o_names o_owners t_moving o_all o_size o_nameCount o_narrower o_order o_items o_names o_owners o_moving o_all o_size o_nameCount)) G in_X2 tyX2 tyX2_ok nmX2 0 rfl rfl 8 (by decide) fl_X2_44 rfl rfl rfl (Nat.le_of_ble_eq_true rfl) rfl dX2_copyFrom_96 ?_
  obtain rfl := Option.some.inj h
  exact z_vret G rfl dX2_copyFrom_99 rfl trivial rfl
noncomputable def f_X2_copyFrom (t_narrower : Nat → Int32) (t_order : Nat → Int32) (t_items : Nat → Int64) (t_names : Nat → Int32) (t_owners : Nat → Int32) (t_all : Int32) (t_size : Int32) (t_nameCount : Int32) (o_narrower : Nat → Int32) (o_order : Nat → Int32) (o_items : Nat → Int64) (o_names : Nat → Int32) (o_owners : Nat → Int32) (o_all : Int32) (o_size : Int32) (o_nameCount : Int32) : (Nat → Int32) × (Nat → Int32) × (Nat → Int64) × (Nat → Int32) × (Nat → Int32) × Int32 × Int32 × Int32 :=
  (o_narrower, o_order, o_items, o_names, o_owners, o_all, o_size, o_nameCount)
theorem fo_X2_copyFrom_eq (t_narrower : Nat → Int32) (t_order : Nat → Int32) (t_items : Nat → Int64) (t_names : Nat → Int32) (t_owners : Nat → Int32) (t_all : Int32) (t_size : Int32) (t_nameCount : Int32) (o_narrower : Nat → Int32) (o_order : Nat → Int32) (o_items : Nat → Int64) (o_names : Nat → Int32) (o_owners : Nat → Int32) (o_all : Int32) (o_size : Int32) (o_nameCount : Int32) : fo_X2_copyFrom t_narrower t_order t_items t_names t_owners t_all t_size t_nameCount o_narrower o_order o_items o_names o_owners o_all o_size o_nameCount = some (f_X2_copyFrom t_narrower t_order t_items t_names t_owners t_all t_size t_nameCount o_narrower o_order o_items o_names o_owners o_all o_size o_nameCount) := by
  unfold fo_X2_copyFrom f_X2_copyFrom
  first | rfl | ((repeat' split) <;> rfl) | (simp only [apply_ite Option.some])
theorem c_X2_copyFrom {l : Launch} {dC : Nat → ClassId} {dI : Nat → Nat → Nat} {cI cJ cZ cN : ClassId} {ta : Nat → Nat} {oa : Nat → Nat} {t_narrower : Nat → Int32} {t_order : Nat → Int32} {t_items : Nat → Int64} {t_names : Nat → Int32} {t_owners : Nat → Int32} {t_moving : Nat → Int32} {t_all : Int32} {t_size : Int32} {t_nameCount : Int32} {o_narrower : Nat → Int32} {o_order : Nat → Int32} {o_items : Nat → Int64} {o_names : Nat → Int32} {o_owners : Nat → Int32} {o_moving : Nat → Int32} {o_all : Int32} {o_size : Int32} {o_nameCount : Int32}  (_ : True = True) : zM l yX2_copyFrom cX2_copyFrom 2 none ({ frames := 1, cells := 0, slots := 0, locals := 40 }) [.ref (ta 0), .ref (oa 0)] (dC, dI) vwCl (zT cI cJ cZ cN) (w_NN cI cJ cZ cN ta oa t_narrower t_order t_items t_names t_owners t_moving t_all t_size t_nameCount o_narrower o_order o_items o_names o_owners o_moving o_all o_size o_nameCount) (none) (True) (w_NN cI cJ cZ cN ta oa (f_X2_copyFrom t_narrower t_order t_items t_names t_owners t_all t_size t_nameCount o_narrower o_order o_items o_names o_owners o_all o_size o_nameCount).1 (f_X2_copyFrom t_narrower t_order t_items t_names t_owners t_all t_size t_nameCount o_narrower o_order o_items o_names o_owners o_all o_size o_nameCount).2.1 (f_X2_copyFrom t_narrower t_order t_items t_names t_owners t_all t_size t_nameCount o_narrower o_order o_items o_names o_owners o_all o_size o_nameCount).2.2.1 (f_X2_copyFrom t_narrower t_order t_items t_names t_owners t_all t_size t_nameCount o_narrower o_order o_items o_names o_owners o_all o_size o_nameCount).2.2.2.1 (f_X2_copyFrom t_narrower t_order t_items t_names t_owners t_all t_size t_nameCount o_narrower o_order o_items o_names o_owners o_all o_size o_nameCount).2.2.2.2.1 t_moving (f_X2_copyFrom t_narrower t_order t_items t_names t_owners t_all t_size t_nameCount o_narrower o_order o_items o_names o_owners o_all o_size o_nameCount).2.2.2.2.2.1 (f_X2_copyFrom t_narrower t_order t_items t_names t_owners t_all t_size t_nameCount o_narrower o_order o_items o_names o_owners o_all o_size o_nameCount).2.2.2.2.2.2.1 (f_X2_copyFrom t_narrower t_order t_items t_names t_owners t_all t_size t_nameCount o_narrower o_order o_items o_names o_owners o_all o_size o_nameCount).2.2.2.2.2.2.2 o_narrower o_order o_items o_names o_owners o_moving o_all o_size o_nameCount) := co_X2_copyFrom (fo_X2_copyFrom_eq _ _ _ _ _ _ _ _ _ _ _ _ _ _ _ _)

noncomputable def f_X2_newTerm_b25 (t_order : Nat → Int32) (t_names : Nat → Int32) (t_owners : Nat → Int32) (t_all : Int32) (t_size : Int32) (t_nameCount : Int32) (p1 : Int32)  (x2 : Int32) : Option (Int32 × (Nat → Int32) × (Nat → Int32) × (Nat → Int32) × Int32 × Int32 × Int32) :=
  if 24 ≤ t_size then some (x2, t_order, t_names, t_owners, t_all, t_size, t_nameCount) else chk (inb t_size 24) ((f_X2_addName t_names t_owners t_nameCount p1 x2).bind (fun r2 => some (x2, upd t_order (ix t_size) x2, r2.1, r2.2.1, t_all ||| (jshl 1 x2), t_size + 1, r2.2.2)))
set_option maxRecDepth 100000 in
set_option maxHeartbeats 4000000 in
theorem zb_X2_newTerm_25 {p : Program} {l : Launch} {e : Env} {s : State} {m : MethodId} {args : Array Value} {below : List Frame} {meth : Method} {c : Code} {A : Nat → Prop} {dC : Nat → ClassId} {dI : Nat → Nat → Nat} {cI cJ cZ cN : ClassId} {ta : Nat → Nat} {t_narrower : Nat → Int32} {t_order : Nat → Int32} {t_items : Nat → Int64} {t_names : Nat → Int32} {t_owners : Nat → Int32} {t_moving : Nat → Int32} {t_all : Int32} {t_size : Int32} {t_nameCount : Int32} {p1 : Int32} {res : Int32 × (Nat → Int32) × (Nat → Int32) × (Nat → Int32) × Int32 × Int32 × Int32} (G : zG p m c cX2_newTerm 3 s args RX2 (dC, dI) vwCl (zT cI cJ cZ cN) A meth (some .int))  : ∀ (x2 : Int32), f_X2_newTerm_b25 t_order t_names t_owners t_all t_size t_nameCount p1  x2 = some res → Z p l e ({ frames := 1, cells := 0, slots := 0, locals := 22 }) s m args below meth c (dC, dI) vwCl A 3 0 0 (MQ below (zQ (some (.int res.1)) (True) (w_N cI cJ cZ cN ta t_narrower res.2.1 t_items res.2.2.1 res.2.2.2.1 t_moving res.2.2.2.2.1 res.2.2.2.2.2.1 res.2.2.2.2.2.2) (dC, dI) vwCl A) args s 0 0 A) (w_N cI cJ cZ cN ta t_narrower t_order t_items t_names t_owners t_moving t_all t_size t_nameCount) [(0, .ref (ta 0)), (1, .int p1), (2, .int x2)] [] 25 := by
  intro x2 h
  unfold f_X2_newTerm_b25 at h
  refine z_aload_n G dX2_newTerm_25 rfl 0 rfl ?_
  refine z_get (ci := 2) (v := .int t_size) G in_X2 0 rfl rfl 7 (by decide) fl_X2_41 rfl dX2_newTerm_26 ?_
  refine z_bipush (v := 24) G dX2_newTerm_29 (by decide) ?_
  refine z_icmp_ge (tgt := 72) G dX2_newTerm_31 (by decide) h (fun h => ?_) (fun h => ?_)
  · refine z_iload_n G dX2_newTerm_72 rfl 2 rfl ?_
    obtain rfl := Option.some.inj h
    exact z_iret G rfl dX2_newTerm_73 rfl trivial rfl
  · refine z_aload_n G dX2_newTerm_34 rfl 0 rfl ?_
    refine z_dup G dX2_newTerm_35 rfl ?_
    refine z_get (ci := 2) (v := .int t_all) G in_X2 0 rfl rfl 6 (by decide) fl_X2_37 rfl dX2_newTerm_36 ?_
    refine z_iconst (v := 1) G dX2_newTerm_39 (by decide) ?_
    refine z_iload_n G dX2_newTerm_40 rfl 2 rfl ?_
    refine z_ishl G dX2_newTerm_41 ?_
    refine z_ior G dX2_newTerm_42 ?_
    refine z_put (ci := 2) (ws' := (w_N cI cJ cZ cN ta t_narrower t_order t_items t_names t_owners t_moving (t_all ||| (jshl 1 x2)) t_size t_nameCount)) G in_X2 tyX2 tyX2_ok nmX2 0 rfl rfl 6 (by decide) fl_X2_37 rfl rfl rfl (Nat.le_of_ble_eq_true rfl) rfl dX2_newTerm_43 ?_
    refine z_aload_n G dX2_newTerm_46 rfl 0 rfl ?_
    refine z_get (ci := 2) (v := .ref (ta 2)) G in_X2 0 rfl rfl 1 (by decide) fl_X2_15 rfl dX2_newTerm_47 ?_
    refine z_aload_n G dX2_newTerm_50 rfl 0 rfl ?_
    refine z_get (ci := 2) (v := .int t_size) G in_X2 0 rfl rfl 7 (by decide) fl_X2_41 rfl dX2_newTerm_51 ?_
    refine z_iload_n G dX2_newTerm_54 rfl 2 rfl ?_
    refine z_iastore (ws' := (w_N cI cJ cZ cN ta t_narrower (upd t_order (ix t_size) x2) t_items t_names t_owners t_moving (t_all ||| (jshl 1 x2)) t_size t_nameCount)) G 2 0 rfl rfl rfl dX2_newTerm_55 h (fun h => ?_)
    refine z_aload_n G dX2_newTerm_56 rfl 0 rfl ?_
    refine z_dup G dX2_newTerm_57 rfl ?_
    refine z_get (ci := 2) (v := .int t_size) G in_X2 0 rfl rfl 7 (by decide) fl_X2_41 rfl dX2_newTerm_58 ?_
    refine z_iconst (v := 1) G dX2_newTerm_61 (by decide) ?_
    refine z_iadd G dX2_newTerm_62 ?_
    refine z_put (ci := 2) (ws' := (w_N cI cJ cZ cN ta t_narrower (upd t_order (ix t_size) x2) t_items t_names t_owners t_moving (t_all ||| (jshl 1 x2)) (t_size + 1) t_nameCount)) G in_X2 tyX2 tyX2_ok nmX2 0 rfl rfl 7 (by decide) fl_X2_41 rfl rfl rfl (Nat.le_of_ble_eq_true rfl) rfl dX2_newTerm_63 ?_
    refine z_aload_n G dX2_newTerm_66 rfl 0 rfl ?_
    refine z_iload_n G dX2_newTerm_67 rfl 1 rfl ?_
    refine z_iload_n G dX2_newTerm_68 rfl 2 rfl ?_
    obtain ⟨r2, e2, h⟩ := obind h
    refine z_kV (As := [.int p1, .int x2]) (rest := []) (st' := []) (ws' := (w_N cI cJ cZ cN ta t_narrower (upd t_order (ix t_size) x2) t_items r2.1 r2.2.1 t_moving (t_all ||| (jshl 1 x2)) (t_size + 1) r2.2.2)) G pk_X2_addName pv_X2_addName ml_X2_55 (c_X2_addName (ta := ta) (t_narrower := t_narrower) (t_order := upd t_order (ix t_size) x2) (t_items := t_items) (t_names := t_names) (t_owners := t_owners) (t_moving := t_moving) (t_all := t_all ||| (jshl 1 x2)) (t_size := t_size + 1) (t_nameCount := t_nameCount) (p1 := p1) (p2 := x2) e2) ⟨rfl, rfl⟩ ⟨Nat.le_of_ble_eq_true rfl, Nat.le_of_ble_eq_true rfl⟩ ⟨Nat.zero_le _, Nat.zero_le _⟩ rfl rfl (Nat.le_of_ble_eq_true rfl) 0 2 rfl rfl rfl [0, 1, 2, 3, 4, 5, 6] rfl rfl [some 0, some 1, some 2, some 3, some 4, some 5, some 6] rfl rfl rfl rfl dX2_newTerm_69 (fun z3 => ?_)
    refine z_iload_n G dX2_newTerm_72 rfl 2 rfl ?_
    obtain rfl := Option.some.inj h
    exact z_iret G rfl dX2_newTerm_73 rfl trivial rfl
noncomputable def f_X2_newTerm_b2 (t_order : Nat → Int32) (t_names : Nat → Int32) (t_owners : Nat → Int32) (t_all : Int32) (t_size : Int32) (t_nameCount : Int32) (p1 : Int32) (k2 : Int32 → Option (Int32 × (Nat → Int32) × (Nat → Int32) × (Nat → Int32) × Int32 × Int32 × Int32)) (x2 : Int32) : Option (Int32 × (Nat → Int32) × (Nat → Int32) × (Nat → Int32) × Int32 × Int32 × Int32) :=
  if 23 ≤ x2 then f_X2_newTerm_b25 t_order t_names t_owners t_all t_size t_nameCount p1  x2 else if (f_X6_holds t_all x2) = 0 then f_X2_newTerm_b25 t_order t_names t_owners t_all t_size t_nameCount p1  x2 else k2 (x2 + 1)
set_option maxRecDepth 100000 in
set_option maxHeartbeats 4000000 in
theorem zb_X2_newTerm_2 {p : Program} {l : Launch} {e : Env} {s : State} {m : MethodId} {args : Array Value} {below : List Frame} {meth : Method} {c : Code} {A : Nat → Prop} {dC : Nat → ClassId} {dI : Nat → Nat → Nat} {cI cJ cZ cN : ClassId} {ta : Nat → Nat} {t_narrower : Nat → Int32} {t_order : Nat → Int32} {t_items : Nat → Int64} {t_names : Nat → Int32} {t_owners : Nat → Int32} {t_moving : Nat → Int32} {t_all : Int32} {t_size : Int32} {t_nameCount : Int32} {p1 : Int32} {res : Int32 × (Nat → Int32) × (Nat → Int32) × (Nat → Int32) × Int32 × Int32 × Int32} (G : zG p m c cX2_newTerm 3 s args RX2 (dC, dI) vwCl (zT cI cJ cZ cN) A meth (some .int)) {k2 : Int32 → Option (Int32 × (Nat → Int32) × (Nat → Int32) × (Nat → Int32) × Int32 × Int32 × Int32)} (hr2 : ∀ (x2 : Int32), k2 x2 = some res → Z p l e ({ frames := 1, cells := 0, slots := 0, locals := 22 }) s m args below meth c (dC, dI) vwCl A 3 0 0 (MQ below (zQ (some (.int res.1)) (True) (w_N cI cJ cZ cN ta t_narrower res.2.1 t_items res.2.2.1 res.2.2.2.1 t_moving res.2.2.2.2.1 res.2.2.2.2.2.1 res.2.2.2.2.2.2) (dC, dI) vwCl A) args s 0 0 A) (w_N cI cJ cZ cN ta t_narrower t_order t_items t_names t_owners t_moving t_all t_size t_nameCount) [(0, .ref (ta 0)), (1, .int p1), (2, .int x2)] [] 2) : ∀ (x2 : Int32), f_X2_newTerm_b2 t_order t_names t_owners t_all t_size t_nameCount p1 k2 x2 = some res → Z p l e ({ frames := 1, cells := 0, slots := 0, locals := 22 }) s m args below meth c (dC, dI) vwCl A 3 0 0 (MQ below (zQ (some (.int res.1)) (True) (w_N cI cJ cZ cN ta t_narrower res.2.1 t_items res.2.2.1 res.2.2.2.1 t_moving res.2.2.2.2.1 res.2.2.2.2.2.1 res.2.2.2.2.2.2) (dC, dI) vwCl A) args s 0 0 A) (w_N cI cJ cZ cN ta t_narrower t_order t_items t_names t_owners t_moving t_all t_size t_nameCount) [(0, .ref (ta 0)), (1, .int p1), (2, .int x2)] [] 2 := by
  intro x2 h
  unfold f_X2_newTerm_b2 at h
  refine z_iload_n G dX2_newTerm_2 rfl 2 rfl ?_
  refine z_bipush (v := 23) G dX2_newTerm_3 (by decide) ?_
  refine z_icmp_ge (tgt := 25) G dX2_newTerm_5 (by decide) h (fun h => ?_) (fun h => ?_)
  · exact zb_X2_newTerm_25 G  x2 h
  · refine z_aload_n G dX2_newTerm_8 rfl 0 rfl ?_
    refine z_get (ci := 2) (v := .int t_all) G in_X2 0 rfl rfl 6 (by decide) fl_X2_37 rfl dX2_newTerm_9 ?_
    refine z_iload_n G dX2_newTerm_12 rfl 2 rfl ?_
    refine z_kSN (As := [.int t_all, .int x2]) (rest := []) (st' := [.int (f_X6_holds t_all x2)]) G pk_X6_holds ps_X6_holds nl_X2_47 (c_X6_holds (p0 := t_all) (p1 := x2) rfl) ⟨rfl, rfl⟩ ⟨Nat.le_of_ble_eq_true rfl, Nat.le_of_ble_eq_true rfl⟩ ⟨Nat.zero_le _, Nat.zero_le _⟩ rfl rfl (Nat.le_of_ble_eq_true rfl) rfl dX2_newTerm_13 (fun z1 => ?_)
    refine z_if_eq (tgt := 25) G dX2_newTerm_16 (by decide) h (fun h => ?_) (fun h => ?_)
    · exact zb_X2_newTerm_25 G  x2 h
    · refine z_iinc (v := x2 + 1) (lv' := [(0, .ref (ta 0)), (1, .int p1), (2, .int (x2 + 1))]) G dX2_newTerm_19 2 rfl rfl (by decide) [1, 2, 0] rfl ?_
      refine z_goto (tgt := 2) G dX2_newTerm_22 (by decide) ?_
      exact hr2 (x2 + 1) h
noncomputable def f_X2_newTerm_l2 (t_order : Nat → Int32) (t_names : Nat → Int32) (t_owners : Nat → Int32) (t_all : Int32) (t_size : Int32) (t_nameCount : Int32) (p1 : Int32)  (x2 : Int32) : Option (Int32 × (Nat → Int32) × (Nat → Int32) × (Nat → Int32) × Int32 × Int32 × Int32) := loopN (V := Int32) (fun rc v => f_X2_newTerm_b2 t_order t_names t_owners t_all t_size t_nameCount p1  (fun x0_ => rc x0_) v) 200 x2
set_option maxRecDepth 100000 in
set_option maxHeartbeats 4000000 in
theorem zl_X2_newTerm_2 {p : Program} {l : Launch} {e : Env} {s : State} {m : MethodId} {args : Array Value} {below : List Frame} {meth : Method} {c : Code} {A : Nat → Prop} {dC : Nat → ClassId} {dI : Nat → Nat → Nat} {cI cJ cZ cN : ClassId} {ta : Nat → Nat} {t_narrower : Nat → Int32} {t_order : Nat → Int32} {t_items : Nat → Int64} {t_names : Nat → Int32} {t_owners : Nat → Int32} {t_moving : Nat → Int32} {t_all : Int32} {t_size : Int32} {t_nameCount : Int32} {p1 : Int32} {res : Int32 × (Nat → Int32) × (Nat → Int32) × (Nat → Int32) × Int32 × Int32 × Int32} (G : zG p m c cX2_newTerm 3 s args RX2 (dC, dI) vwCl (zT cI cJ cZ cN) A meth (some .int))  : ∀ (x2 : Int32), f_X2_newTerm_l2 t_order t_names t_owners t_all t_size t_nameCount p1  x2 = some res → Z p l e ({ frames := 1, cells := 0, slots := 0, locals := 22 }) s m args below meth c (dC, dI) vwCl A 3 0 0 (MQ below (zQ (some (.int res.1)) (True) (w_N cI cJ cZ cN ta t_narrower res.2.1 t_items res.2.2.1 res.2.2.2.1 t_moving res.2.2.2.2.1 res.2.2.2.2.2.1 res.2.2.2.2.2.2) (dC, dI) vwCl A) args s 0 0 A) (w_N cI cJ cZ cN ta t_narrower t_order t_items t_names t_owners t_moving t_all t_size t_nameCount) [(0, .ref (ta 0)), (1, .int p1), (2, .int x2)] [] 2 := by
  intro x2 h
  exact zloop (P := fun v => Z p l e ({ frames := 1, cells := 0, slots := 0, locals := 22 }) s m args below meth c (dC, dI) vwCl A 3 0 0 (MQ below (zQ (some (.int res.1)) (True) (w_N cI cJ cZ cN ta t_narrower res.2.1 t_items res.2.2.1 res.2.2.2.1 t_moving res.2.2.2.2.1 res.2.2.2.2.2.1 res.2.2.2.2.2.2) (dC, dI) vwCl A) args s 0 0 A) (w_N cI cJ cZ cN ta t_narrower t_order t_items t_names t_owners t_moving t_all t_size t_nameCount) [(0, .ref (ta 0)), (1, .int p1), (2, .int v)] [] 2) (fun rc hr v h => zb_X2_newTerm_2 G  (fun x0_ h => hr x0_ h) v h) 200 x2 h
noncomputable def f_X2_newTerm (t_order : Nat → Int32) (t_names : Nat → Int32) (t_owners : Nat → Int32) (t_all : Int32) (t_size : Int32) (t_nameCount : Int32) (p1 : Int32) : Option (Int32 × (Nat → Int32) × (Nat → Int32) × (Nat → Int32) × Int32 × Int32 × Int32) :=
  f_X2_newTerm_l2 t_order t_names t_owners t_all t_size t_nameCount p1  0
set_option maxRecDepth 100000 in
set_option maxHeartbeats 4000000 in
theorem c_X2_newTerm {l : Launch} {dC : Nat → ClassId} {dI : Nat → Nat → Nat} {cI cJ cZ cN : ClassId} {ta : Nat → Nat} {t_narrower : Nat → Int32} {t_order : Nat → Int32} {t_items : Nat → Int64} {t_names : Nat → Int32} {t_owners : Nat → Int32} {t_moving : Nat → Int32} {t_all : Int32} {t_size : Int32} {t_nameCount : Int32} {p1 : Int32} {res : Int32 × (Nat → Int32) × (Nat → Int32) × (Nat → Int32) × Int32 × Int32 × Int32} (h : f_X2_newTerm t_order t_names t_owners t_all t_size t_nameCount p1 = some res) : zM l yX2_newTerm cX2_newTerm 3 (some .int) ({ frames := 1, cells := 0, slots := 0, locals := 22 }) [.ref (ta 0), .int p1] (dC, dI) vwCl (zT cI cJ cZ cN) (w_N cI cJ cZ cN ta t_narrower t_order t_items t_names t_owners t_moving t_all t_size t_nameCount) (some (.int res.1)) (True) (w_N cI cJ cZ cN ta t_narrower res.2.1 t_items res.2.2.1 res.2.2.2.1 t_moving res.2.2.2.2.1 res.2.2.2.2.2.1 res.2.2.2.2.2.2) := by
  refine zM_of (own := RX2) (by decide) rfl [(0, .ref (ta 0)), (1, .int p1)] (Nat.le_of_ble_eq_true rfl) rfl ?_
  intro p e s m args below meth c A G _
  unfold f_X2_newTerm at h
  refine z_iconst (v := 0) G dX2_newTerm_0 (by decide) ?_
  refine z_istore_n (lv' := [(0, .ref (ta 0)), (1, .int p1), (2, .int 0)]) G dX2_newTerm_1 rfl (by decide) [1, 2, 0] rfl ?_
  exact zl_X2_newTerm_2 G  0 h

noncomputable def f_X2_ownerOf_b2 (t_names : Nat → Int32) (t_owners : Nat → Int32) (t_nameCount : Int32) (p1 : Int32) (k2 : Int32 → Option (Int32)) (x2 : Int32) : Option (Int32) :=
  if t_nameCount ≤ x2 then some ((-1)) else chk (inb x2 40) (if (t_names (ix x2)) = p1 then chk (inb x2 40) (some (t_owners (ix x2))) else k2 (x2 + 1))
set_option maxRecDepth 100000 in
set_option maxHeartbeats 4000000 in
theorem zb_X2_ownerOf_2 {p : Program} {l : Launch} {e : Env} {s : State} {m : MethodId} {args : Array Value} {below : List Frame} {meth : Method} {c : Code} {A : Nat → Prop} {dC : Nat → ClassId} {dI : Nat → Nat → Nat} {cI cJ cZ cN : ClassId} {ta : Nat → Nat} {t_narrower : Nat → Int32} {t_order : Nat → Int32} {t_items : Nat → Int64} {t_names : Nat → Int32} {t_owners : Nat → Int32} {t_moving : Nat → Int32} {t_all : Int32} {t_size : Int32} {t_nameCount : Int32} {p1 : Int32} {res : Int32} (G : zG p m c cX2_ownerOf 3 s args RX2 (dC, dI) vwCl (zT cI cJ cZ cN) A meth (some .int)) {k2 : Int32 → Option (Int32)} (hr2 : ∀ (x2 : Int32), k2 x2 = some res → Z p l e ({ frames := 0, cells := 0, slots := 0, locals := 0 }) s m args below meth c (dC, dI) vwCl A 3 0 0 (MQ below (zQ (some (.int res)) (True) (w_N cI cJ cZ cN ta t_narrower t_order t_items t_names t_owners t_moving t_all t_size t_nameCount) (dC, dI) vwCl A) args s 0 0 A) (w_N cI cJ cZ cN ta t_narrower t_order t_items t_names t_owners t_moving t_all t_size t_nameCount) [(0, .ref (ta 0)), (1, .int p1), (2, .int x2)] [] 2) : ∀ (x2 : Int32), f_X2_ownerOf_b2 t_names t_owners t_nameCount p1 k2 x2 = some res → Z p l e ({ frames := 0, cells := 0, slots := 0, locals := 0 }) s m args below meth c (dC, dI) vwCl A 3 0 0 (MQ below (zQ (some (.int res)) (True) (w_N cI cJ cZ cN ta t_narrower t_order t_items t_names t_owners t_moving t_all t_size t_nameCount) (dC, dI) vwCl A) args s 0 0 A) (w_N cI cJ cZ cN ta t_narrower t_order t_items t_names t_owners t_moving t_all t_size t_nameCount) [(0, .ref (ta 0)), (1, .int p1), (2, .int x2)] [] 2 := by
  intro x2 h
  unfold f_X2_ownerOf_b2 at h
  refine z_iload_n G dX2_ownerOf_2 rfl 2 rfl ?_
  refine z_aload_n G dX2_ownerOf_3 rfl 0 rfl ?_
  refine z_get (ci := 2) (v := .int t_nameCount) G in_X2 0 rfl rfl 8 (by decide) fl_X2_44 rfl dX2_ownerOf_4 ?_
  refine z_icmp_ge (tgt := 33) G dX2_ownerOf_7 (by decide) h (fun h => ?_) (fun h => ?_)
  · refine z_iconst (v := (-1)) G dX2_ownerOf_33 (by decide) ?_
    obtain rfl := Option.some.inj h
    exact z_iret G rfl dX2_ownerOf_34 rfl trivial rfl
  · refine z_aload_n G dX2_ownerOf_10 rfl 0 rfl ?_
    refine z_get (ci := 2) (v := .ref (ta 4)) G in_X2 0 rfl rfl 3 (by decide) fl_X2_22 rfl dX2_ownerOf_11 ?_
    refine z_iload_n G dX2_ownerOf_14 rfl 2 rfl ?_
    refine z_iaload G 4 0 rfl rfl dX2_ownerOf_15 h (fun h => ?_)
    refine z_iload_n G dX2_ownerOf_16 rfl 1 rfl ?_
    refine z_icmp_ne (tgt := 27) G dX2_ownerOf_17 (by decide) h (fun h => ?_) (fun h => ?_)
    · refine z_iinc (v := x2 + 1) (lv' := [(0, .ref (ta 0)), (1, .int p1), (2, .int (x2 + 1))]) G dX2_ownerOf_27 2 rfl rfl (by decide) [1, 2, 0] rfl ?_
      refine z_goto (tgt := 2) G dX2_ownerOf_30 (by decide) ?_
      exact hr2 (x2 + 1) h
    · refine z_aload_n G dX2_ownerOf_20 rfl 0 rfl ?_
      refine z_get (ci := 2) (v := .ref (ta 5)) G in_X2 0 rfl rfl 4 (by decide) fl_X2_25 rfl dX2_ownerOf_21 ?_
      refine z_iload_n G dX2_ownerOf_24 rfl 2 rfl ?_
      refine z_iaload G 5 0 rfl rfl dX2_ownerOf_25 h (fun h => ?_)
      obtain rfl := Option.some.inj h
      exact z_iret G rfl dX2_ownerOf_26 rfl trivial rfl
noncomputable def f_X2_ownerOf_l2 (t_names : Nat → Int32) (t_owners : Nat → Int32) (t_nameCount : Int32) (p1 : Int32)  (x2 : Int32) : Option (Int32) := loopN (V := Int32) (fun rc v => f_X2_ownerOf_b2 t_names t_owners t_nameCount p1  (fun x0_ => rc x0_) v) 200 x2
set_option maxRecDepth 100000 in
set_option maxHeartbeats 4000000 in
theorem zl_X2_ownerOf_2 {p : Program} {l : Launch} {e : Env} {s : State} {m : MethodId} {args : Array Value} {below : List Frame} {meth : Method} {c : Code} {A : Nat → Prop} {dC : Nat → ClassId} {dI : Nat → Nat → Nat} {cI cJ cZ cN : ClassId} {ta : Nat → Nat} {t_narrower : Nat → Int32} {t_order : Nat → Int32} {t_items : Nat → Int64} {t_names : Nat → Int32} {t_owners : Nat → Int32} {t_moving : Nat → Int32} {t_all : Int32} {t_size : Int32} {t_nameCount : Int32} {p1 : Int32} {res : Int32} (G : zG p m c cX2_ownerOf 3 s args RX2 (dC, dI) vwCl (zT cI cJ cZ cN) A meth (some .int))  : ∀ (x2 : Int32), f_X2_ownerOf_l2 t_names t_owners t_nameCount p1  x2 = some res → Z p l e ({ frames := 0, cells := 0, slots := 0, locals := 0 }) s m args below meth c (dC, dI) vwCl A 3 0 0 (MQ below (zQ (some (.int res)) (True) (w_N cI cJ cZ cN ta t_narrower t_order t_items t_names t_owners t_moving t_all t_size t_nameCount) (dC, dI) vwCl A) args s 0 0 A) (w_N cI cJ cZ cN ta t_narrower t_order t_items t_names t_owners t_moving t_all t_size t_nameCount) [(0, .ref (ta 0)), (1, .int p1), (2, .int x2)] [] 2 := by
  intro x2 h
  exact zloop (P := fun v => Z p l e ({ frames := 0, cells := 0, slots := 0, locals := 0 }) s m args below meth c (dC, dI) vwCl A 3 0 0 (MQ below (zQ (some (.int res)) (True) (w_N cI cJ cZ cN ta t_narrower t_order t_items t_names t_owners t_moving t_all t_size t_nameCount) (dC, dI) vwCl A) args s 0 0 A) (w_N cI cJ cZ cN ta t_narrower t_order t_items t_names t_owners t_moving t_all t_size t_nameCount) [(0, .ref (ta 0)), (1, .int p1), (2, .int v)] [] 2) (fun rc hr v h => zb_X2_ownerOf_2 G  (fun x0_ h => hr x0_ h) v h) 200 x2 h
noncomputable def f_X2_ownerOf (t_names : Nat → Int32) (t_owners : Nat → Int32) (t_nameCount : Int32) (p1 : Int32) : Option (Int32) :=
  f_X2_ownerOf_l2 t_names t_owners t_nameCount p1  0
set_option maxRecDepth 100000 in
set_option maxHeartbeats 4000000 in
theorem c_X2_ownerOf {l : Launch} {dC : Nat → ClassId} {dI : Nat → Nat → Nat} {cI cJ cZ cN : ClassId} {ta : Nat → Nat} {t_narrower : Nat → Int32} {t_order : Nat → Int32} {t_items : Nat → Int64} {t_names : Nat → Int32} {t_owners : Nat → Int32} {t_moving : Nat → Int32} {t_all : Int32} {t_size : Int32} {t_nameCount : Int32} {p1 : Int32} {res : Int32} (h : f_X2_ownerOf t_names t_owners t_nameCount p1 = some res) : zM l yX2_ownerOf cX2_ownerOf 3 (some .int) ({ frames := 0, cells := 0, slots := 0, locals := 0 }) [.ref (ta 0), .int p1] (dC, dI) vwCl (zT cI cJ cZ cN) (w_N cI cJ cZ cN ta t_narrower t_order t_items t_names t_owners t_moving t_all t_size t_nameCount) (some (.int res)) (True) (w_N cI cJ cZ cN ta t_narrower t_order t_items t_names t_owners t_moving t_all t_size t_nameCount) := by
  refine zM_of (own := RX2) (by decide) rfl [(0, .ref (ta 0)), (1, .int p1)] (Nat.le_of_ble_eq_true rfl) rfl ?_
  intro p e s m args below meth c A G _
  unfold f_X2_ownerOf at h
  refine z_iconst (v := 0) G dX2_ownerOf_0 (by decide) ?_
  refine z_istore_n (lv' := [(0, .ref (ta 0)), (1, .int p1), (2, .int 0)]) G dX2_ownerOf_1 rfl (by decide) [1, 2, 0] rfl ?_
  exact zl_X2_ownerOf_2 G  0 h

noncomputable def f_X2_namesOf_b4 (t_owners : Nat → Int32) (t_nameCount : Int32) (p1 : Int32) (k4 : Int32 → Int32 → Option (Int32)) (x2 : Int32) (x3 : Int32) : Option (Int32) :=
  if t_nameCount ≤ x3 then some (x2) else chk (inb x3 40) (if (t_owners (ix x3)) = p1 then k4 (x2 + 1) (x3 + 1) else k4 x2 (x3 + 1))
set_option maxRecDepth 100000 in
set_option maxHeartbeats 4000000 in
theorem zb_X2_namesOf_4 {p : Program} {l : Launch} {e : Env} {s : State} {m : MethodId} {args : Array Value} {below : List Frame} {meth : Method} {c : Code} {A : Nat → Prop} {dC : Nat → ClassId} {dI : Nat → Nat → Nat} {cI cJ cZ cN : ClassId} {ta : Nat → Nat} {t_narrower : Nat → Int32} {t_order : Nat → Int32} {t_items : Nat → Int64} {t_names : Nat → Int32} {t_owners : Nat → Int32} {t_moving : Nat → Int32} {t_all : Int32} {t_size : Int32} {t_nameCount : Int32} {p1 : Int32} {res : Int32} (G : zG p m c cX2_namesOf 4 s args RX2 (dC, dI) vwCl (zT cI cJ cZ cN) A meth (some .int)) {k4 : Int32 → Int32 → Option (Int32)} (hr4 : ∀ (x2 : Int32) (x3 : Int32), k4 x2 x3 = some res → Z p l e ({ frames := 0, cells := 0, slots := 0, locals := 0 }) s m args below meth c (dC, dI) vwCl A 4 0 0 (MQ below (zQ (some (.int res)) (True) (w_N cI cJ cZ cN ta t_narrower t_order t_items t_names t_owners t_moving t_all t_size t_nameCount) (dC, dI) vwCl A) args s 0 0 A) (w_N cI cJ cZ cN ta t_narrower t_order t_items t_names t_owners t_moving t_all t_size t_nameCount) [(0, .ref (ta 0)), (1, .int p1), (2, .int x2), (3, .int x3)] [] 4) : ∀ (x2 : Int32) (x3 : Int32), f_X2_namesOf_b4 t_owners t_nameCount p1 k4 x2 x3 = some res → Z p l e ({ frames := 0, cells := 0, slots := 0, locals := 0 }) s m args below meth c (dC, dI) vwCl A 4 0 0 (MQ below (zQ (some (.int res)) (True) (w_N cI cJ cZ cN ta t_narrower t_order t_items t_names t_owners t_moving t_all t_size t_nameCount) (dC, dI) vwCl A) args s 0 0 A) (w_N cI cJ cZ cN ta t_narrower t_order t_items t_names t_owners t_moving t_all t_size t_nameCount) [(0, .ref (ta 0)), (1, .int p1), (2, .int x2), (3, .int x3)] [] 4 := by
  intro x2 x3 h
  unfold f_X2_namesOf_b4 at h
  refine z_iload_n G dX2_namesOf_4 rfl 3 rfl ?_
  refine z_aload_n G dX2_namesOf_5 rfl 0 rfl ?_
  refine z_get (ci := 2) (v := .int t_nameCount) G in_X2 0 rfl rfl 8 (by decide) fl_X2_44 rfl dX2_namesOf_6 ?_
  refine z_icmp_ge (tgt := 31) G dX2_namesOf_9 (by decide) h (fun h => ?_) (fun h => ?_)
  · refine z_iload_n G dX2_namesOf_31 rfl 2 rfl ?_
    obtain rfl := Option.some.inj h
    exact z_iret G rfl dX2_namesOf_32 rfl trivial rfl
  · refine z_aload_n G dX2_namesOf_12 rfl 0 rfl ?_
    refine z_get (ci := 2) (v := .ref (ta 5)) G in_X2 0 rfl rfl 4 (by decide) fl_X2_25 rfl dX2_namesOf_13 ?_
    refine z_iload_n G dX2_namesOf_16 rfl 3 rfl ?_
    refine z_iaload G 5 0 rfl rfl dX2_namesOf_17 h (fun h => ?_)
    refine z_iload_n G dX2_namesOf_18 rfl 1 rfl ?_
    refine z_icmp_ne (tgt := 25) G dX2_namesOf_19 (by decide) h (fun h => ?_) (fun h => ?_)
    · refine z_iinc (v := x3 + 1) (lv' := [(0, .ref (ta 0)), (1, .int p1), (2, .int x2), (3, .int (x3 + 1))]) G dX2_namesOf_25 3 rfl rfl (by decide) [1, 2, 3, 0] rfl ?_
      refine z_goto (tgt := 4) G dX2_namesOf_28 (by decide) ?_
      exact hr4 x2 (x3 + 1) h
    · refine z_iinc (v := x2 + 1) (lv' := [(0, .ref (ta 0)), (1, .int p1), (2, .int (x2 + 1)), (3, .int x3)]) G dX2_namesOf_22 2 rfl rfl (by decide) [1, 2, 0, 3] rfl ?_
      refine z_iinc (v := x3 + 1) (lv' := [(0, .ref (ta 0)), (1, .int p1), (2, .int (x2 + 1)), (3, .int (x3 + 1))]) G dX2_namesOf_25 3 rfl rfl (by decide) [1, 2, 3, 0] rfl ?_
      refine z_goto (tgt := 4) G dX2_namesOf_28 (by decide) ?_
      exact hr4 (x2 + 1) (x3 + 1) h
noncomputable def f_X2_namesOf_l4 (t_owners : Nat → Int32) (t_nameCount : Int32) (p1 : Int32)  (x2 : Int32) (x3 : Int32) : Option (Int32) := loopN (V := Int32 × Int32) (fun rc v => f_X2_namesOf_b4 t_owners t_nameCount p1  (fun x0_ x1_ => rc (x0_, x1_)) v.1 v.2) 200 (x2, x3)
set_option maxRecDepth 100000 in
set_option maxHeartbeats 4000000 in
theorem zl_X2_namesOf_4 {p : Program} {l : Launch} {e : Env} {s : State} {m : MethodId} {args : Array Value} {below : List Frame} {meth : Method} {c : Code} {A : Nat → Prop} {dC : Nat → ClassId} {dI : Nat → Nat → Nat} {cI cJ cZ cN : ClassId} {ta : Nat → Nat} {t_narrower : Nat → Int32} {t_order : Nat → Int32} {t_items : Nat → Int64} {t_names : Nat → Int32} {t_owners : Nat → Int32} {t_moving : Nat → Int32} {t_all : Int32} {t_size : Int32} {t_nameCount : Int32} {p1 : Int32} {res : Int32} (G : zG p m c cX2_namesOf 4 s args RX2 (dC, dI) vwCl (zT cI cJ cZ cN) A meth (some .int))  : ∀ (x2 : Int32) (x3 : Int32), f_X2_namesOf_l4 t_owners t_nameCount p1  x2 x3 = some res → Z p l e ({ frames := 0, cells := 0, slots := 0, locals := 0 }) s m args below meth c (dC, dI) vwCl A 4 0 0 (MQ below (zQ (some (.int res)) (True) (w_N cI cJ cZ cN ta t_narrower t_order t_items t_names t_owners t_moving t_all t_size t_nameCount) (dC, dI) vwCl A) args s 0 0 A) (w_N cI cJ cZ cN ta t_narrower t_order t_items t_names t_owners t_moving t_all t_size t_nameCount) [(0, .ref (ta 0)), (1, .int p1), (2, .int x2), (3, .int x3)] [] 4 := by
  intro x2 x3 h
  exact zloop (P := fun v => Z p l e ({ frames := 0, cells := 0, slots := 0, locals := 0 }) s m args below meth c (dC, dI) vwCl A 4 0 0 (MQ below (zQ (some (.int res)) (True) (w_N cI cJ cZ cN ta t_narrower t_order t_items t_names t_owners t_moving t_all t_size t_nameCount) (dC, dI) vwCl A) args s 0 0 A) (w_N cI cJ cZ cN ta t_narrower t_order t_items t_names t_owners t_moving t_all t_size t_nameCount) [(0, .ref (ta 0)), (1, .int p1), (2, .int v.1), (3, .int v.2)] [] 4) (fun rc hr v h => zb_X2_namesOf_4 G  (fun x0_ x1_ h => hr (x0_, x1_) h) v.1 v.2 h) 200 (x2, x3) h
noncomputable def f_X2_namesOf (t_owners : Nat → Int32) (t_nameCount : Int32) (p1 : Int32) : Option (Int32) :=
  f_X2_namesOf_l4 t_owners t_nameCount p1  0 0
set_option maxRecDepth 100000 in
set_option maxHeartbeats 4000000 in
theorem c_X2_namesOf {l : Launch} {dC : Nat → ClassId} {dI : Nat → Nat → Nat} {cI cJ cZ cN : ClassId} {ta : Nat → Nat} {t_narrower : Nat → Int32} {t_order : Nat → Int32} {t_items : Nat → Int64} {t_names : Nat → Int32} {t_owners : Nat → Int32} {t_moving : Nat → Int32} {t_all : Int32} {t_size : Int32} {t_nameCount : Int32} {p1 : Int32} {res : Int32} (h : f_X2_namesOf t_owners t_nameCount p1 = some res) : zM l yX2_namesOf cX2_namesOf 4 (some .int) ({ frames := 0, cells := 0, slots := 0, locals := 0 }) [.ref (ta 0), .int p1] (dC, dI) vwCl (zT cI cJ cZ cN) (w_N cI cJ cZ cN ta t_narrower t_order t_items t_names t_owners t_moving t_all t_size t_nameCount) (some (.int res)) (True) (w_N cI cJ cZ cN ta t_narrower t_order t_items t_names t_owners t_moving t_all t_size t_nameCount) := by
  refine zM_of (own := RX2) (by decide) rfl [(0, .ref (ta 0)), (1, .int p1)] (Nat.le_of_ble_eq_true rfl) rfl ?_
  intro p e s m args below meth c A G _
  unfold f_X2_namesOf at h
  refine z_iconst (v := 0) G dX2_namesOf_0 (by decide) ?_
  refine z_istore_n (lv' := [(0, .ref (ta 0)), (1, .int p1), (2, .int 0)]) G dX2_namesOf_1 rfl (by decide) [1, 2, 0] rfl ?_
  refine z_iconst (v := 0) G dX2_namesOf_2 (by decide) ?_
  refine z_istore_n (lv' := [(0, .ref (ta 0)), (1, .int p1), (2, .int 0), (3, .int 0)]) G dX2_namesOf_3 rfl (by decide) [1, 2, 3, 0] rfl ?_
  exact zl_X2_namesOf_4 G  0 0 h

noncomputable def f_X2_placesUnlike_b4 (t_order : Nat → Int32) (t_size : Int32) (o_order : Nat → Int32) (k4 : Int32 → Int32 → Option (Int32)) (x2 : Int32) (x3 : Int32) : Option (Int32) :=
  if t_size ≤ x3 then some (x2) else chk (inb x3 24) (chk (inb x3 24) (if (t_order (ix x3)) = (o_order (ix x3)) then k4 x2 (x3 + 1) else k4 (x2 + 1) (x3 + 1)))
set_option maxRecDepth 100000 in
set_option maxHeartbeats 4000000 in
theorem zb_X2_placesUnlike_4 {p : Program} {l : Launch} {e : Env} {s : State} {m : MethodId} {args : Array Value} {below : List Frame} {meth : Method} {c : Code} {A : Nat → Prop} {dC : Nat → ClassId} {dI : Nat → Nat → Nat} {cI cJ cZ cN : ClassId} {ta : Nat → Nat} {oa : Nat → Nat} {t_narrower : Nat → Int32} {t_order : Nat → Int32} {t_items : Nat → Int64} {t_names : Nat → Int32} {t_owners : Nat → Int32} {t_moving : Nat → Int32} {t_all : Int32} {t_size : Int32} {t_nameCount : Int32} {o_narrower : Nat → Int32} {o_order : Nat → Int32} {o_items : Nat → Int64} {o_names : Nat → Int32} {o_owners : Nat → Int32} {o_moving : Nat → Int32} {o_all : Int32} {o_size : Int32} {o_nameCount : Int32}  {res : Int32} (G : zG p m c cX2_placesUnlike 4 s args RX2 (dC, dI) vwCl (zT cI cJ cZ cN) A meth (some .int)) {k4 : Int32 → Int32 → Option (Int32)} (hr4 : ∀ (x2 : Int32) (x3 : Int32), k4 x2 x3 = some res → Z p l e ({ frames := 0, cells := 0, slots := 0, locals := 0 }) s m args below meth c (dC, dI) vwCl A 4 0 0 (MQ below (zQ (some (.int res)) (True) (w_NN cI cJ cZ cN ta oa t_narrower t_order t_items t_names t_owners t_moving t_all t_size t_nameCount o_narrower o_order o_items o_names o_owners o_moving o_all o_size o_nameCount) (dC, dI) vwCl A) args s 0 0 A) (w_NN cI cJ cZ cN ta oa t_narrower t_order t_items t_names t_owners t_moving t_all t_size t_nameCount o_narrower o_order o_items o_names o_owners o_moving o_all o_size o_nameCount) [(0, .ref (ta 0)), (1, .ref (oa 0)), (2, .int x2), (3, .int x3)] [] 4) : ∀ (x2 : Int32) (x3 : Int32), f_X2_placesUnlike_b4 t_order t_size o_order k4 x2 x3 = some res → Z p l e ({ frames := 0, cells := 0, slots := 0, locals := 0 }) s m args below meth c (dC, dI) vwCl A 4 0 0 (MQ below (zQ (some (.int res)) (True) (w_NN cI cJ cZ cN ta oa t_narrower t_order t_items t_names t_owners t_moving t_all t_size t_nameCount o_narrower o_order o_items o_names o_owners o_moving o_all o_size o_nameCount) (dC, dI) vwCl A) args s 0 0 A) (w_NN cI cJ cZ cN ta oa t_narrower t_order t_items t_names t_owners t_moving t_all t_size t_nameCount o_narrower o_order o_items o_names o_owners o_moving o_all o_size o_nameCount) [(0, .ref (ta 0)), (1, .ref (oa 0)), (2, .int x2), (3, .int x3)] [] 4 := by
  intro x2 x3 h
  unfold f_X2_placesUnlike_b4 at h
  refine z_iload_n G dX2_placesUnlike_4 rfl 3 rfl ?_
  refine z_aload_n G dX2_placesUnlike_5 rfl 0 rfl ?_
  refine z_get (ci := 2) (v := .int t_size) G in_X2 0 rfl rfl 7 (by decide) fl_X2_41 rfl dX2_placesUnlike_6 ?_
  refine z_icmp_ge (tgt := 36) G dX2_placesUnlike_9 (by decide) h (fun h => ?_) (fun h => ?_)
  · refine z_iload_n G dX2_placesUnlike_36 rfl 2 rfl ?_
    obtain rfl := Option.some.inj h
    exact z_iret G rfl dX2_placesUnlike_37 rfl trivial rfl
  · refine z_aload_n G dX2_placesUnlike_12 rfl 0 rfl ?_
    refine z_get (ci := 2) (v := .ref (ta 2)) G in_X2 0 rfl rfl 1 (by decide) fl_X2_15 rfl dX2_placesUnlike_13 ?_
    refine z_iload_n G dX2_placesUnlike_16 rfl 3 rfl ?_
    refine z_iaload G 2 0 rfl rfl dX2_placesUnlike_17 h (fun h => ?_)
    refine z_aload_n G dX2_placesUnlike_18 rfl 1 rfl ?_
    refine z_get (ci := 2) (v := .ref (oa 2)) G in_X2 7 rfl rfl 1 (by decide) fl_X2_15 rfl dX2_placesUnlike_19 ?_
    refine z_iload_n G dX2_placesUnlike_22 rfl 3 rfl ?_
    refine z_iaload G 9 0 rfl rfl dX2_placesUnlike_23 h (fun h => ?_)
    refine z_icmp_eq (tgt := 30) G dX2_placesUnlike_24 (by decide) h (fun h => ?_) (fun h => ?_)
    · refine z_iinc (v := x3 + 1) (lv' := [(0, .ref (ta 0)), (1, .ref (oa 0)), (2, .int x2), (3, .int (x3 + 1))]) G dX2_placesUnlike_30 3 rfl rfl (by decide) [1, 2, 3, 0] rfl ?_
      refine z_goto (tgt := 4) G dX2_placesUnlike_33 (by decide) ?_
      exact hr4 x2 (x3 + 1) h
    · refine z_iinc (v := x2 + 1) (lv' := [(0, .ref (ta 0)), (1, .ref (oa 0)), (2, .int (x2 + 1)), (3, .int x3)]) G dX2_placesUnlike_27 2 rfl rfl (by decide) [1, 2, 0, 3] rfl ?_
      refine z_iinc (v := x3 + 1) (lv' := [(0, .ref (ta 0)), (1, .ref (oa 0)), (2, .int (x2 + 1)), (3, .int (x3 + 1))]) G dX2_placesUnlike_30 3 rfl rfl (by decide) [1, 2, 3, 0] rfl ?_
      refine z_goto (tgt := 4) G dX2_placesUnlike_33 (by decide) ?_
      exact hr4 (x2 + 1) (x3 + 1) h
noncomputable def f_X2_placesUnlike_l4 (t_order : Nat → Int32) (t_size : Int32) (o_order : Nat → Int32)  (x2 : Int32) (x3 : Int32) : Option (Int32) := loopN (V := Int32 × Int32) (fun rc v => f_X2_placesUnlike_b4 t_order t_size o_order  (fun x0_ x1_ => rc (x0_, x1_)) v.1 v.2) 200 (x2, x3)
set_option maxRecDepth 100000 in
set_option maxHeartbeats 4000000 in
theorem zl_X2_placesUnlike_4 {p : Program} {l : Launch} {e : Env} {s : State} {m : MethodId} {args : Array Value} {below : List Frame} {meth : Method} {c : Code} {A : Nat → Prop} {dC : Nat → ClassId} {dI : Nat → Nat → Nat} {cI cJ cZ cN : ClassId} {ta : Nat → Nat} {oa : Nat → Nat} {t_narrower : Nat → Int32} {t_order : Nat → Int32} {t_items : Nat → Int64} {t_names : Nat → Int32} {t_owners : Nat → Int32} {t_moving : Nat → Int32} {t_all : Int32} {t_size : Int32} {t_nameCount : Int32} {o_narrower : Nat → Int32} {o_order : Nat → Int32} {o_items : Nat → Int64} {o_names : Nat → Int32} {o_owners : Nat → Int32} {o_moving : Nat → Int32} {o_all : Int32} {o_size : Int32} {o_nameCount : Int32}  {res : Int32} (G : zG p m c cX2_placesUnlike 4 s args RX2 (dC, dI) vwCl (zT cI cJ cZ cN) A meth (some .int))  : ∀ (x2 : Int32) (x3 : Int32), f_X2_placesUnlike_l4 t_order t_size o_order  x2 x3 = some res → Z p l e ({ frames := 0, cells := 0, slots := 0, locals := 0 }) s m args below meth c (dC, dI) vwCl A 4 0 0 (MQ below (zQ (some (.int res)) (True) (w_NN cI cJ cZ cN ta oa t_narrower t_order t_items t_names t_owners t_moving t_all t_size t_nameCount o_narrower o_order o_items o_names o_owners o_moving o_all o_size o_nameCount) (dC, dI) vwCl A) args s 0 0 A) (w_NN cI cJ cZ cN ta oa t_narrower t_order t_items t_names t_owners t_moving t_all t_size t_nameCount o_narrower o_order o_items o_names o_owners o_moving o_all o_size o_nameCount) [(0, .ref (ta 0)), (1, .ref (oa 0)), (2, .int x2), (3, .int x3)] [] 4 := by
  intro x2 x3 h
  exact zloop (P := fun v => Z p l e ({ frames := 0, cells := 0, slots := 0, locals := 0 }) s m args below meth c (dC, dI) vwCl A 4 0 0 (MQ below (zQ (some (.int res)) (True) (w_NN cI cJ cZ cN ta oa t_narrower t_order t_items t_names t_owners t_moving t_all t_size t_nameCount o_narrower o_order o_items o_names o_owners o_moving o_all o_size o_nameCount) (dC, dI) vwCl A) args s 0 0 A) (w_NN cI cJ cZ cN ta oa t_narrower t_order t_items t_names t_owners t_moving t_all t_size t_nameCount o_narrower o_order o_items o_names o_owners o_moving o_all o_size o_nameCount) [(0, .ref (ta 0)), (1, .ref (oa 0)), (2, .int v.1), (3, .int v.2)] [] 4) (fun rc hr v h => zb_X2_placesUnlike_4 G  (fun x0_ x1_ h => hr (x0_, x1_) h) v.1 v.2 h) 200 (x2, x3) h
noncomputable def f_X2_placesUnlike (t_order : Nat → Int32) (t_size : Int32) (o_order : Nat → Int32) : Option (Int32) :=
  f_X2_placesUnlike_l4 t_order t_size o_order  0 0
set_option maxRecDepth 100000 in
set_option maxHeartbeats 4000000 in
theorem c_X2_placesUnlike {l : Launch} {dC : Nat → ClassId} {dI : Nat → Nat → Nat} {cI cJ cZ cN : ClassId} {ta : Nat → Nat} {oa : Nat → Nat} {t_narrower : Nat → Int32} {t_order : Nat → Int32} {t_items : Nat → Int64} {t_names : Nat → Int32} {t_owners : Nat → Int32} {t_moving : Nat → Int32} {t_all : Int32} {t_size : Int32} {t_nameCount : Int32} {o_narrower : Nat → Int32} {o_order : Nat → Int32} {o_items : Nat → Int64} {o_names : Nat → Int32} {o_owners : Nat → Int32} {o_moving : Nat → Int32} {o_all : Int32} {o_size : Int32} {o_nameCount : Int32}  {res : Int32} (h : f_X2_placesUnlike t_order t_size o_order = some res) : zM l yX2_placesUnlike cX2_placesUnlike 4 (some .int) ({ frames := 0, cells := 0, slots := 0, locals := 0 }) [.ref (ta 0), .ref (oa 0)] (dC, dI) vwCl (zT cI cJ cZ cN) (w_NN cI cJ cZ cN ta oa t_narrower t_order t_items t_names t_owners t_moving t_all t_size t_nameCount o_narrower o_order o_items o_names o_owners o_moving o_all o_size o_nameCount) (some (.int res)) (True) (w_NN cI cJ cZ cN ta oa t_narrower t_order t_items t_names t_owners t_moving t_all t_size t_nameCount o_narrower o_order o_items o_names o_owners o_moving o_all o_size o_nameCount) := by
  refine zM_of (own := RX2) (by decide) rfl [(0, .ref (ta 0)), (1, .ref (oa 0))] (Nat.le_of_ble_eq_true rfl) rfl ?_
  intro p e s m args below meth c A G _
  unfold f_X2_placesUnlike at h
  refine z_iconst (v := 0) G dX2_placesUnlike_0 (by decide) ?_
  refine z_istore_n (lv' := [(0, .ref (ta 0)), (1, .ref (oa 0)), (2, .int 0)]) G dX2_placesUnlike_1 rfl (by decide) [1, 2, 0] rfl ?_
  refine z_iconst (v := 0) G dX2_placesUnlike_2 (by decide) ?_
  refine z_istore_n (lv' := [(0, .ref (ta 0)), (1, .ref (oa 0)), (2, .int 0), (3, .int 0)]) G dX2_placesUnlike_3 rfl (by decide) [1, 2, 3, 0] rfl ?_
  exact zl_X2_placesUnlike_4 G  0 0 h

noncomputable def f_X2_withOthersBelow_b4 (t_narrower : Nat → Int32) (t_order : Nat → Int32) (t_size : Int32) (p1 : Int32) (k4 : Int32 → Int32 → Option (Int32)) (x2 : Int32) (x3 : Int32) : Option (Int32) :=
  if 24 ≤ x3 then some (x2) else if (f_X6_holds p1 x3) = 0 then k4 x2 (x3 + 1) else (f_X2_below t_narrower t_order t_size x3).bind (fun r2 => if ((r2 &&& p1) &&& ((jshl 1 x3) ^^^ (-1))) = 0 then k4 x2 (x3 + 1) else k4 (x2 ||| (jshl 1 x3)) (x3 + 1))
set_option maxRecDepth 100000 in
set_option maxHeartbeats 4000000 in
theorem zb_X2_withOthersBelow_4 {p : Program} {l : Launch} {e : Env} {s : State} {m : MethodId} {args : Array Value} {below : List Frame} {meth : Method} {c : Code} {A : Nat → Prop} {dC : Nat → ClassId} {dI : Nat → Nat → Nat} {cI cJ cZ cN : ClassId} {ta : Nat → Nat} {t_narrower : Nat → Int32} {t_order : Nat → Int32} {t_items : Nat → Int64} {t_names : Nat → Int32} {t_owners : Nat → Int32} {t_moving : Nat → Int32} {t_all : Int32} {t_size : Int32} {t_nameCount : Int32} {p1 : Int32} {res : Int32} (G : zG p m c cX2_withOthersBelow 4 s args RX2 (dC, dI) vwCl (zT cI cJ cZ cN) A meth (some .int)) {k4 : Int32 → Int32 → Option (Int32)} (hr4 : ∀ (x2 : Int32) (x3 : Int32), k4 x2 x3 = some res → Z p l e ({ frames := 2, cells := 0, slots := 0, locals := 44 }) s m args below meth c (dC, dI) vwCl A 4 0 0 (MQ below (zQ (some (.int res)) (True) (w_N cI cJ cZ cN ta t_narrower t_order t_items t_names t_owners t_moving t_all t_size t_nameCount) (dC, dI) vwCl A) args s 0 0 A) (w_N cI cJ cZ cN ta t_narrower t_order t_items t_names t_owners t_moving t_all t_size t_nameCount) [(0, .ref (ta 0)), (1, .int p1), (2, .int x2), (3, .int x3)] [] 4) : ∀ (x2 : Int32) (x3 : Int32), f_X2_withOthersBelow_b4 t_narrower t_order t_size p1 k4 x2 x3 = some res → Z p l e ({ frames := 2, cells := 0, slots := 0, locals := 44 }) s m args below meth c (dC, dI) vwCl A 4 0 0 (MQ below (zQ (some (.int res)) (True) (w_N cI cJ cZ cN ta t_narrower t_order t_items t_names t_owners t_moving t_all t_size t_nameCount) (dC, dI) vwCl A) args s 0 0 A) (w_N cI cJ cZ cN ta t_narrower t_order t_items t_names t_owners t_moving t_all t_size t_nameCount) [(0, .ref (ta 0)), (1, .int p1), (2, .int x2), (3, .int x3)] [] 4 := by
  intro x2 x3 h
  unfold f_X2_withOthersBelow_b4 at h
  refine z_iload_n G dX2_withOthersBelow_4 rfl 3 rfl ?_
  refine z_bipush (v := 24) G dX2_withOthersBelow_5 (by decide) ?_
  refine z_icmp_ge (tgt := 46) G dX2_withOthersBelow_7 (by decide) h (fun h => ?_) (fun h => ?_)
  · refine z_iload_n G dX2_withOthersBelow_46 rfl 2 rfl ?_
    obtain rfl := Option.some.inj h
    exact z_iret G rfl dX2_withOthersBelow_47 rfl trivial rfl
  · refine z_iload_n G dX2_withOthersBelow_10 rfl 1 rfl ?_
    refine z_iload_n G dX2_withOthersBelow_11 rfl 3 rfl ?_
    refine z_kSN (As := [.int p1, .int x3]) (rest := []) (st' := [.int (f_X6_holds p1 x3)]) G pk_X6_holds ps_X6_holds nl_X2_47 (c_X6_holds (p0 := p1) (p1 := x3) rfl) ⟨rfl, rfl⟩ ⟨Nat.le_of_ble_eq_true rfl, Nat.le_of_ble_eq_true rfl⟩ ⟨Nat.zero_le _, Nat.zero_le _⟩ rfl rfl (Nat.le_of_ble_eq_true rfl) rfl dX2_withOthersBelow_12 (fun z1 => ?_)
    refine z_if_eq (tgt := 40) G dX2_withOthersBelow_15 (by decide) h (fun h => ?_) (fun h => ?_)
    · refine z_iinc (v := x3 + 1) (lv' := [(0, .ref (ta 0)), (1, .int p1), (2, .int x2), (3, .int (x3 + 1))]) G dX2_withOthersBelow_40 3 rfl rfl (by decide) [1, 2, 3, 0] rfl ?_
      refine z_goto (tgt := 4) G dX2_withOthersBelow_43 (by decide) ?_
      exact hr4 x2 (x3 + 1) h
    · refine z_aload_n G dX2_withOthersBelow_18 rfl 0 rfl ?_
      refine z_iload_n G dX2_withOthersBelow_19 rfl 3 rfl ?_
      obtain ⟨r2, e2, h⟩ := obind h
      refine z_kR (As := [.int x3]) (rest := []) (st' := [.int r2]) G pk_X2_below pv_X2_below ml_X2_70 (c_X2_below (ta := ta) (t_narrower := t_narrower) (t_order := t_order) (t_items := t_items) (t_names := t_names) (t_owners := t_owners) (t_moving := t_moving) (t_all := t_all) (t_size := t_size) (t_nameCount := t_nameCount) (p1 := x3) e2) ⟨rfl, rfl⟩ ⟨Nat.le_of_ble_eq_true rfl, Nat.le_of_ble_eq_true rfl⟩ ⟨Nat.zero_le _, Nat.zero_le _⟩ rfl rfl (Nat.le_of_ble_eq_true rfl) 0 2 rfl rfl rfl [0, 1, 2, 3, 4, 5, 6] rfl rfl rfl dX2_withOthersBelow_20 (fun z3 => ?_)
      refine z_iload_n G dX2_withOthersBelow_23 rfl 1 rfl ?_
      refine z_iand G dX2_withOthersBelow_24 ?_
      refine z_iconst (v := 1) G dX2_withOthersBelow_25 (by decide) ?_
      refine z_iload_n G dX2_withOthersBelow_26 rfl 3 rfl ?_
      refine z_ishl G dX2_withOthersBelow_27 ?_
      refine z_iconst (v := (-1)) G dX2_withOthersBelow_28 (by decide) ?_
      refine z_ixor G dX2_withOthersBelow_29 ?_
      refine z_iand G dX2_withOthersBelow_30 ?_
      refine z_if_eq (tgt := 40) G dX2_withOthersBelow_31 (by decide) h (fun h => ?_) (fun h => ?_)
      · refine z_iinc (v := x3 + 1) (lv' := [(0, .ref (ta 0)), (1, .int p1), (2, .int x2), (3, .int (x3 + 1))]) G dX2_withOthersBelow_40 3 rfl rfl (by decide) [1, 2, 3, 0] rfl ?_
        refine z_goto (tgt := 4) G dX2_withOthersBelow_43 (by decide) ?_
        exact hr4 x2 (x3 + 1) h
      · refine z_iload_n G dX2_withOthersBelow_34 rfl 2 rfl ?_
        refine z_iconst (v := 1) G dX2_withOthersBelow_35 (by decide) ?_
        refine z_iload_n G dX2_withOthersBelow_36 rfl 3 rfl ?_
        refine z_ishl G dX2_withOthersBelow_37 ?_
        refine z_ior G dX2_withOthersBelow_38 ?_
        refine z_istore_n (lv' := [(0, .ref (ta 0)), (1, .int p1), (2, .int (x2 ||| (jshl 1 x3))), (3, .int x3)]) G dX2_withOthersBelow_39 rfl (by decide) [1, 2, 0, 3] rfl ?_
        refine z_iinc (v := x3 + 1) (lv' := [(0, .ref (ta 0)), (1, .int p1), (2, .int (x2 ||| (jshl 1 x3))), (3, .int (x3 + 1))]) G dX2_withOthersBelow_40 3 rfl rfl (by decide) [1, 2, 3, 0] rfl ?_
        refine z_goto (tgt := 4) G dX2_withOthersBelow_43 (by decide) ?_
        exact hr4 (x2 ||| (jshl 1 x3)) (x3 + 1) h
noncomputable def f_X2_withOthersBelow_l4 (t_narrower : Nat → Int32) (t_order : Nat → Int32) (t_size : Int32) (p1 : Int32)  (x2 : Int32) (x3 : Int32) : Option (Int32) := loopN (V := Int32 × Int32) (fun rc v => f_X2_withOthersBelow_b4 t_narrower t_order t_size p1  (fun x0_ x1_ => rc (x0_, x1_)) v.1 v.2) 200 (x2, x3)
set_option maxRecDepth 100000 in
set_option maxHeartbeats 4000000 in
theorem zl_X2_withOthersBelow_4 {p : Program} {l : Launch} {e : Env} {s : State} {m : MethodId} {args : Array Value} {below : List Frame} {meth : Method} {c : Code} {A : Nat → Prop} {dC : Nat → ClassId} {dI : Nat → Nat → Nat} {cI cJ cZ cN : ClassId} {ta : Nat → Nat} {t_narrower : Nat → Int32} {t_order : Nat → Int32} {t_items : Nat → Int64} {t_names : Nat → Int32} {t_owners : Nat → Int32} {t_moving : Nat → Int32} {t_all : Int32} {t_size : Int32} {t_nameCount : Int32} {p1 : Int32} {res : Int32} (G : zG p m c cX2_withOthersBelow 4 s args RX2 (dC, dI) vwCl (zT cI cJ cZ cN) A meth (some .int))  : ∀ (x2 : Int32) (x3 : Int32), f_X2_withOthersBelow_l4 t_narrower t_order t_size p1  x2 x3 = some res → Z p l e ({ frames := 2, cells := 0, slots := 0, locals := 44 }) s m args below meth c (dC, dI) vwCl A 4 0 0 (MQ below (zQ (some (.int res)) (True) (w_N cI cJ cZ cN ta t_narrower t_order t_items t_names t_owners t_moving t_all t_size t_nameCount) (dC, dI) vwCl A) args s 0 0 A) (w_N cI cJ cZ cN ta t_narrower t_order t_items t_names t_owners t_moving t_all t_size t_nameCount) [(0, .ref (ta 0)), (1, .int p1), (2, .int x2), (3, .int x3)] [] 4 := by
  intro x2 x3 h
  exact zloop (P := fun v => Z p l e ({ frames := 2, cells := 0, slots := 0, locals := 44 }) s m args below meth c (dC, dI) vwCl A 4 0 0 (MQ below (zQ (some (.int res)) (True) (w_N cI cJ cZ cN ta t_narrower t_order t_items t_names t_owners t_moving t_all t_size t_nameCount) (dC, dI) vwCl A) args s 0 0 A) (w_N cI cJ cZ cN ta t_narrower t_order t_items t_names t_owners t_moving t_all t_size t_nameCount) [(0, .ref (ta 0)), (1, .int p1), (2, .int v.1), (3, .int v.2)] [] 4) (fun rc hr v h => zb_X2_withOthersBelow_4 G  (fun x0_ x1_ h => hr (x0_, x1_) h) v.1 v.2 h) 200 (x2, x3) h
noncomputable def f_X2_withOthersBelow (t_narrower : Nat → Int32) (t_order : Nat → Int32) (t_size : Int32) (p1 : Int32) : Option (Int32) :=
  f_X2_withOthersBelow_l4 t_narrower t_order t_size p1  0 0
set_option maxRecDepth 100000 in
set_option maxHeartbeats 4000000 in
theorem c_X2_withOthersBelow {l : Launch} {dC : Nat → ClassId} {dI : Nat → Nat → Nat} {cI cJ cZ cN : ClassId} {ta : Nat → Nat} {t_narrower : Nat → Int32} {t_order : Nat → Int32} {t_items : Nat → Int64} {t_names : Nat → Int32} {t_owners : Nat → Int32} {t_moving : Nat → Int32} {t_all : Int32} {t_size : Int32} {t_nameCount : Int32} {p1 : Int32} {res : Int32} (h : f_X2_withOthersBelow t_narrower t_order t_size p1 = some res) : zM l yX2_withOthersBelow cX2_withOthersBelow 4 (some .int) ({ frames := 2, cells := 0, slots := 0, locals := 44 }) [.ref (ta 0), .int p1] (dC, dI) vwCl (zT cI cJ cZ cN) (w_N cI cJ cZ cN ta t_narrower t_order t_items t_names t_owners t_moving t_all t_size t_nameCount) (some (.int res)) (True) (w_N cI cJ cZ cN ta t_narrower t_order t_items t_names t_owners t_moving t_all t_size t_nameCount) := by
  refine zM_of (own := RX2) (by decide) rfl [(0, .ref (ta 0)), (1, .int p1)] (Nat.le_of_ble_eq_true rfl) rfl ?_
  intro p e s m args below meth c A G _
  unfold f_X2_withOthersBelow at h
  refine z_iconst (v := 0) G dX2_withOthersBelow_0 (by decide) ?_
  refine z_istore_n (lv' := [(0, .ref (ta 0)), (1, .int p1), (2, .int 0)]) G dX2_withOthersBelow_1 rfl (by decide) [1, 2, 0] rfl ?_
  refine z_iconst (v := 0) G dX2_withOthersBelow_2 (by decide) ?_
  refine z_istore_n (lv' := [(0, .ref (ta 0)), (1, .int p1), (2, .int 0), (3, .int 0)]) G dX2_withOthersBelow_3 rfl (by decide) [1, 2, 3, 0] rfl ?_
  exact zl_X2_withOthersBelow_4 G  0 0 h

noncomputable def f_X2_withNeighbours_b27 (t_narrower : Nat → Int32) (p1 : Int32) (k4 : Int32 → Int32 → Option (Int32)) (x2 : Int32) (x3 : Int32) : Option (Int32) :=
  chk (inb x3 24) (if ((t_narrower (ix x3)) &&& p1) = 0 then k4 x2 (x3 + 1) else k4 (x2 ||| (jshl 1 x3)) (x3 + 1))
set_option maxRecDepth 100000 in
set_option maxHeartbeats 4000000 in
theorem zb_X2_withNeighbours_27 {p : Program} {l : Launch} {e : Env} {s : State} {m : MethodId} {args : Array Value} {below : List Frame} {meth : Method} {c : Code} {A : Nat → Prop} {dC : Nat → ClassId} {dI : Nat → Nat → Nat} {cI cJ cZ cN : ClassId} {ta : Nat → Nat} {t_narrower : Nat → Int32} {t_order : Nat → Int32} {t_items : Nat → Int64} {t_names : Nat → Int32} {t_owners : Nat → Int32} {t_moving : Nat → Int32} {t_all : Int32} {t_size : Int32} {t_nameCount : Int32} {p1 : Int32} {res : Int32} (G : zG p m c cX2_withNeighbours 4 s args RX2 (dC, dI) vwCl (zT cI cJ cZ cN) A meth (some .int)) {k4 : Int32 → Int32 → Option (Int32)} (hr4 : ∀ (x2 : Int32) (x3 : Int32), k4 x2 x3 = some res → Z p l e ({ frames := 1, cells := 0, slots := 0, locals := 21 }) s m args below meth c (dC, dI) vwCl A 4 0 0 (MQ below (zQ (some (.int res)) (True) (w_N cI cJ cZ cN ta t_narrower t_order t_items t_names t_owners t_moving t_all t_size t_nameCount) (dC, dI) vwCl A) args s 0 0 A) (w_N cI cJ cZ cN ta t_narrower t_order t_items t_names t_owners t_moving t_all t_size t_nameCount) [(0, .ref (ta 0)), (1, .int p1), (2, .int x2), (3, .int x3)] [] 4) : ∀ (x2 : Int32) (x3 : Int32), f_X2_withNeighbours_b27 t_narrower p1 k4 x2 x3 = some res → Z p l e ({ frames := 1, cells := 0, slots := 0, locals := 21 }) s m args below meth c (dC, dI) vwCl A 4 0 0 (MQ below (zQ (some (.int res)) (True) (w_N cI cJ cZ cN ta t_narrower t_order t_items t_names t_owners t_moving t_all t_size t_nameCount) (dC, dI) vwCl A) args s 0 0 A) (w_N cI cJ cZ cN ta t_narrower t_order t_items t_names t_owners t_moving t_all t_size t_nameCount) [(0, .ref (ta 0)), (1, .int p1), (2, .int x2), (3, .int x3)] [] 27 := by
  intro x2 x3 h
  unfold f_X2_withNeighbours_b27 at h
  refine z_aload_n G dX2_withNeighbours_27 rfl 0 rfl ?_
  refine z_get (ci := 2) (v := .ref (ta 1)) G in_X2 0 rfl rfl 0 (by decide) fl_X2_9 rfl dX2_withNeighbours_28 ?_
  refine z_iload_n G dX2_withNeighbours_31 rfl 3 rfl ?_
  refine z_iaload G 1 0 rfl rfl dX2_withNeighbours_32 h (fun h => ?_)
  refine z_iload_n G dX2_withNeighbours_33 rfl 1 rfl ?_
  refine z_iand G dX2_withNeighbours_34 ?_
  refine z_if_eq (tgt := 44) G dX2_withNeighbours_35 (by decide) h (fun h => ?_) (fun h => ?_)
  · refine z_iinc (v := x3 + 1) (lv' := [(0, .ref (ta 0)), (1, .int p1), (2, .int x2), (3, .int (x3 + 1))]) G dX2_withNeighbours_44 3 rfl rfl (by decide) [1, 2, 3, 0] rfl ?_
    refine z_goto (tgt := 4) G dX2_withNeighbours_47 (by decide) ?_
    exact hr4 x2 (x3 + 1) h
  · refine z_iload_n G dX2_withNeighbours_38 rfl 2 rfl ?_
    refine z_iconst (v := 1) G dX2_withNeighbours_39 (by decide) ?_
    refine z_iload_n G dX2_withNeighbours_40 rfl 3 rfl ?_
    refine z_ishl G dX2_withNeighbours_41 ?_
    refine z_ior G dX2_withNeighbours_42 ?_
    refine z_istore_n (lv' := [(0, .ref (ta 0)), (1, .int p1), (2, .int (x2 ||| (jshl 1 x3))), (3, .int x3)]) G dX2_withNeighbours_43 rfl (by decide) [1, 2, 0, 3] rfl ?_
    refine z_iinc (v := x3 + 1) (lv' := [(0, .ref (ta 0)), (1, .int p1), (2, .int (x2 ||| (jshl 1 x3))), (3, .int (x3 + 1))]) G dX2_withNeighbours_44 3 rfl rfl (by decide) [1, 2, 3, 0] rfl ?_
    refine z_goto (tgt := 4) G dX2_withNeighbours_47 (by decide) ?_
    exact hr4 (x2 ||| (jshl 1 x3)) (x3 + 1) h
noncomputable def f_X2_withNeighbours_b4 (t_narrower : Nat → Int32) (p1 : Int32) (k4 : Int32 → Int32 → Option (Int32)) (x2 : Int32) (x3 : Int32) : Option (Int32) :=
  if 24 ≤ x3 then some (x2) else if (f_X6_holds p1 x3) = 0 then f_X2_withNeighbours_b27 t_narrower p1 k4 x2 x3 else chk (inb x3 24) (f_X2_withNeighbours_b27 t_narrower p1 k4 (x2 ||| (t_narrower (ix x3))) x3)
set_option maxRecDepth 100000 in
set_option maxHeartbeats 4000000 in
theorem zb_X2_withNeighbours_4 {p : Program} {l : Launch} {e : Env} {s : State} {m : MethodId} {args : Array Value} {below : List Frame} {meth : Method} {c : Code} {A : Nat → Prop} {dC : Nat → ClassId} {dI : Nat → Nat → Nat} {cI cJ cZ cN : ClassId} {ta : Nat → Nat} {t_narrower : Nat → Int32} {t_order : Nat → Int32} {t_items : Nat → Int64} {t_names : Nat → Int32} {t_owners : Nat → Int32} {t_moving : Nat → Int32} {t_all : Int32} {t_size : Int32} {t_nameCount : Int32} {p1 : Int32} {res : Int32} (G : zG p m c cX2_withNeighbours 4 s args RX2 (dC, dI) vwCl (zT cI cJ cZ cN) A meth (some .int)) {k4 : Int32 → Int32 → Option (Int32)} (hr4 : ∀ (x2 : Int32) (x3 : Int32), k4 x2 x3 = some res → Z p l e ({ frames := 1, cells := 0, slots := 0, locals := 21 }) s m args below meth c (dC, dI) vwCl A 4 0 0 (MQ below (zQ (some (.int res)) (True) (w_N cI cJ cZ cN ta t_narrower t_order t_items t_names t_owners t_moving t_all t_size t_nameCount) (dC, dI) vwCl A) args s 0 0 A) (w_N cI cJ cZ cN ta t_narrower t_order t_items t_names t_owners t_moving t_all t_size t_nameCount) [(0, .ref (ta 0)), (1, .int p1), (2, .int x2), (3, .int x3)] [] 4) : ∀ (x2 : Int32) (x3 : Int32), f_X2_withNeighbours_b4 t_narrower p1 k4 x2 x3 = some res → Z p l e ({ frames := 1, cells := 0, slots := 0, locals := 21 }) s m args below meth c (dC, dI) vwCl A 4 0 0 (MQ below (zQ (some (.int res)) (True) (w_N cI cJ cZ cN ta t_narrower t_order t_items t_names t_owners t_moving t_all t_size t_nameCount) (dC, dI) vwCl A) args s 0 0 A) (w_N cI cJ cZ cN ta t_narrower t_order t_items t_names t_owners t_moving t_all t_size t_nameCount) [(0, .ref (ta 0)), (1, .int p1), (2, .int x2), (3, .int x3)] [] 4 := by
  intro x2 x3 h
  unfold f_X2_withNeighbours_b4 at h
  refine z_iload_n G dX2_withNeighbours_4 rfl 3 rfl ?_
  refine z_bipush (v := 24) G dX2_withNeighbours_5 (by decide) ?_
  refine z_icmp_ge (tgt := 50) G dX2_withNeighbours_7 (by decide) h (fun h => ?_) (fun h => ?_)
  · refine z_iload_n G dX2_withNeighbours_50 rfl 2 rfl ?_
    obtain rfl := Option.some.inj h
    exact z_iret G rfl dX2_withNeighbours_51 rfl trivial rfl
  · refine z_iload_n G dX2_withNeighbours_10 rfl 1 rfl ?_
    refine z_iload_n G dX2_withNeighbours_11 rfl 3 rfl ?_
    refine z_kSN (As := [.int p1, .int x3]) (rest := []) (st' := [.int (f_X6_holds p1 x3)]) G pk_X6_holds ps_X6_holds nl_X2_47 (c_X6_holds (p0 := p1) (p1 := x3) rfl) ⟨rfl, rfl⟩ ⟨Nat.le_of_ble_eq_true rfl, Nat.le_of_ble_eq_true rfl⟩ ⟨Nat.zero_le _, Nat.zero_le _⟩ rfl rfl (Nat.le_of_ble_eq_true rfl) rfl dX2_withNeighbours_12 (fun z1 => ?_)
    refine z_if_eq (tgt := 27) G dX2_withNeighbours_15 (by decide) h (fun h => ?_) (fun h => ?_)
    · exact zb_X2_withNeighbours_27 G hr4 x2 x3 h
    · refine z_iload_n G dX2_withNeighbours_18 rfl 2 rfl ?_
      refine z_aload_n G dX2_withNeighbours_19 rfl 0 rfl ?_
      refine z_get (ci := 2) (v := .ref (ta 1)) G in_X2 0 rfl rfl 0 (by decide) fl_X2_9 rfl dX2_withNeighbours_20 ?_
      refine z_iload_n G dX2_withNeighbours_23 rfl 3 rfl ?_
      refine z_iaload G 1 0 rfl rfl dX2_withNeighbours_24 h (fun h => ?_)
      refine z_ior G dX2_withNeighbours_25 ?_
      refine z_istore_n (lv' := [(0, .ref (ta 0)), (1, .int p1), (2, .int (x2 ||| (t_narrower (ix x3)))), (3, .int x3)]) G dX2_withNeighbours_26 rfl (by decide) [1, 2, 0, 3] rfl ?_
      exact zb_X2_withNeighbours_27 G hr4 (x2 ||| (t_narrower (ix x3))) x3 h
noncomputable def f_X2_withNeighbours_l4 (t_narrower : Nat → Int32) (p1 : Int32)  (x2 : Int32) (x3 : Int32) : Option (Int32) := loopN (V := Int32 × Int32) (fun rc v => f_X2_withNeighbours_b4 t_narrower p1  (fun x0_ x1_ => rc (x0_, x1_)) v.1 v.2) 200 (x2, x3)
set_option maxRecDepth 100000 in
set_option maxHeartbeats 4000000 in
theorem zl_X2_withNeighbours_4 {p : Program} {l : Launch} {e : Env} {s : State} {m : MethodId} {args : Array Value} {below : List Frame} {meth : Method} {c : Code} {A : Nat → Prop} {dC : Nat → ClassId} {dI : Nat → Nat → Nat} {cI cJ cZ cN : ClassId} {ta : Nat → Nat} {t_narrower : Nat → Int32} {t_order : Nat → Int32} {t_items : Nat → Int64} {t_names : Nat → Int32} {t_owners : Nat → Int32} {t_moving : Nat → Int32} {t_all : Int32} {t_size : Int32} {t_nameCount : Int32} {p1 : Int32} {res : Int32} (G : zG p m c cX2_withNeighbours 4 s args RX2 (dC, dI) vwCl (zT cI cJ cZ cN) A meth (some .int))  : ∀ (x2 : Int32) (x3 : Int32), f_X2_withNeighbours_l4 t_narrower p1  x2 x3 = some res → Z p l e ({ frames := 1, cells := 0, slots := 0, locals := 21 }) s m args below meth c (dC, dI) vwCl A 4 0 0 (MQ below (zQ (some (.int res)) (True) (w_N cI cJ cZ cN ta t_narrower t_order t_items t_names t_owners t_moving t_all t_size t_nameCount) (dC, dI) vwCl A) args s 0 0 A) (w_N cI cJ cZ cN ta t_narrower t_order t_items t_names t_owners t_moving t_all t_size t_nameCount) [(0, .ref (ta 0)), (1, .int p1), (2, .int x2), (3, .int x3)] [] 4 := by
  intro x2 x3 h
  exact zloop (P := fun v => Z p l e ({ frames := 1, cells := 0, slots := 0, locals := 21 }) s m args below meth c (dC, dI) vwCl A 4 0 0 (MQ below (zQ (some (.int res)) (True) (w_N cI cJ cZ cN ta t_narrower t_order t_items t_names t_owners t_moving t_all t_size t_nameCount) (dC, dI) vwCl A) args s 0 0 A) (w_N cI cJ cZ cN ta t_narrower t_order t_items t_names t_owners t_moving t_all t_size t_nameCount) [(0, .ref (ta 0)), (1, .int p1), (2, .int v.1), (3, .int v.2)] [] 4) (fun rc hr v h => zb_X2_withNeighbours_4 G  (fun x0_ x1_ h => hr (x0_, x1_) h) v.1 v.2 h) 200 (x2, x3) h
noncomputable def f_X2_withNeighbours (t_narrower : Nat → Int32) (p1 : Int32) : Option (Int32) :=
  f_X2_withNeighbours_l4 t_narrower p1  p1 0
set_option maxRecDepth 100000 in
set_option maxHeartbeats 4000000 in
theorem c_X2_withNeighbours {l : Launch} {dC : Nat → ClassId} {dI : Nat → Nat → Nat} {cI cJ cZ cN : ClassId} {ta : Nat → Nat} {t_narrower : Nat → Int32} {t_order : Nat → Int32} {t_items : Nat → Int64} {t_names : Nat → Int32} {t_owners : Nat → Int32} {t_moving : Nat → Int32} {t_all : Int32} {t_size : Int32} {t_nameCount : Int32} {p1 : Int32} {res : Int32} (h : f_X2_withNeighbours t_narrower p1 = some res) : zM l yX2_withNeighbours cX2_withNeighbours 4 (some .int) ({ frames := 1, cells := 0, slots := 0, locals := 21 }) [.ref (ta 0), .int p1] (dC, dI) vwCl (zT cI cJ cZ cN) (w_N cI cJ cZ cN ta t_narrower t_order t_items t_names t_owners t_moving t_all t_size t_nameCount) (some (.int res)) (True) (w_N cI cJ cZ cN ta t_narrower t_order t_items t_names t_owners t_moving t_all t_size t_nameCount) := by
  refine zM_of (own := RX2) (by decide) rfl [(0, .ref (ta 0)), (1, .int p1)] (Nat.le_of_ble_eq_true rfl) rfl ?_
  intro p e s m args below meth c A G _
  unfold f_X2_withNeighbours at h
  refine z_iload_n G dX2_withNeighbours_0 rfl 1 rfl ?_
  refine z_istore_n (lv' := [(0, .ref (ta 0)), (1, .int p1), (2, .int p1)]) G dX2_withNeighbours_1 rfl (by decide) [1, 2, 0] rfl ?_
  refine z_iconst (v := 0) G dX2_withNeighbours_2 (by decide) ?_
  refine z_istore_n (lv' := [(0, .ref (ta 0)), (1, .int p1), (2, .int p1), (3, .int 0)]) G dX2_withNeighbours_3 rfl (by decide) [1, 2, 3, 0] rfl ?_
  exact zl_X2_withNeighbours_4 G  p1 0 h

noncomputable def f_X2_postings_b4 (t_items : Nat → Int64) (k4 : Int32 → Int32 → Option (Int32)) (x1 : Int32) (x2 : Int32) : Option (Int32) :=
  if 24 ≤ x2 then some (x1) else chk (inb x2 24) (k4 (x1 + (f_J13_bitCount_95d88 (t_items (ix x2)))) (x2 + 1))
set_option maxRecDepth 100000 in
set_option maxHeartbeats 4000000 in
theorem zb_X2_postings_4 {p : Program} {l : Launch} {e : Env} {s : State} {m : MethodId} {args : Array Value} {below : List Frame} {meth : Method} {c : Code} {A : Nat → Prop} {dC : Nat → ClassId} {dI : Nat → Nat → Nat} {cI cJ cZ cN : ClassId} {ta : Nat → Nat} {t_narrower : Nat → Int32} {t_order : Nat → Int32} {t_items : Nat → Int64} {t_names : Nat → Int32} {t_owners : Nat → Int32} {t_moving : Nat → Int32} {t_all : Int32} {t_size : Int32} {t_nameCount : Int32}  {res : Int32} (G : zG p m c cX2_postings 3 s args RX2 (dC, dI) vwCl (zT cI cJ cZ cN) A meth (some .int)) {k4 : Int32 → Int32 → Option (Int32)} (hr4 : ∀ (x1 : Int32) (x2 : Int32), k4 x1 x2 = some res → Z p l e ({ frames := 1, cells := 0, slots := 0, locals := 21 }) s m args below meth c (dC, dI) vwCl A 3 0 0 (MQ below (zQ (some (.int res)) (True) (w_N cI cJ cZ cN ta t_narrower t_order t_items t_names t_owners t_moving t_all t_size t_nameCount) (dC, dI) vwCl A) args s 0 0 A) (w_N cI cJ cZ cN ta t_narrower t_order t_items t_names t_owners t_moving t_all t_size t_nameCount) [(0, .ref (ta 0)), (1, .int x1), (2, .int x2)] [] 4) : ∀ (x1 : Int32) (x2 : Int32), f_X2_postings_b4 t_items k4 x1 x2 = some res → Z p l e ({ frames := 1, cells := 0, slots := 0, locals := 21 }) s m args below meth c (dC, dI) vwCl A 3 0 0 (MQ below (zQ (some (.int res)) (True) (w_N cI cJ cZ cN ta t_narrower t_order t_items t_names t_owners t_moving t_all t_size t_nameCount) (dC, dI) vwCl A) args s 0 0 A) (w_N cI cJ cZ cN ta t_narrower t_order t_items t_names t_owners t_moving t_all t_size t_nameCount) [(0, .ref (ta 0)), (1, .int x1), (2, .int x2)] [] 4 := by
  intro x1 x2 h
  unfold f_X2_postings_b4 at h
  refine z_iload_n G dX2_postings_4 rfl 2 rfl ?_
  refine z_bipush (v := 24) G dX2_postings_5 (by decide) ?_
  refine z_icmp_ge (tgt := 28) G dX2_postings_7 (by decide) h (fun h => ?_) (fun h => ?_)
  · refine z_iload_n G dX2_postings_28 rfl 1 rfl ?_
    obtain rfl := Option.some.inj h
    exact z_iret G rfl dX2_postings_29 rfl trivial rfl
  · refine z_iload_n G dX2_postings_10 rfl 1 rfl ?_
    refine z_aload_n G dX2_postings_11 rfl 0 rfl ?_
    refine z_get (ci := 2) (v := .ref (ta 3)) G in_X2 0 rfl rfl 2 (by decide) fl_X2_18 rfl dX2_postings_12 ?_
    refine z_iload_n G dX2_postings_15 rfl 2 rfl ?_
    refine z_laload G 3 1 rfl rfl dX2_postings_16 h (fun h => ?_)
    refine z_kS (As := [.long (t_items (ix x2))]) (rest := [.int x1]) (st' := [.int (f_J13_bitCount_95d88 (t_items (ix x2))), .int x1]) G pk_J13_bitCount_95d88 ps_J13_bitCount_95d88 ml_X2_92 (c_J13_bitCount_95d88 (p0 := t_items (ix x2)) rfl) ⟨rfl, rfl⟩ ⟨Nat.le_of_ble_eq_true rfl, Nat.le_of_ble_eq_true rfl⟩ ⟨Nat.zero_le _, Nat.zero_le _⟩ rfl rfl (Nat.le_of_ble_eq_true rfl) rfl dX2_postings_17 (fun z1 => ?_)
    refine z_iadd G dX2_postings_20 ?_
    refine z_istore_n (lv' := [(0, .ref (ta 0)), (1, .int (x1 + (f_J13_bitCount_95d88 (t_items (ix x2))))), (2, .int x2)]) G dX2_postings_21 rfl (by decide) [1, 0, 2] rfl ?_
    refine z_iinc (v := x2 + 1) (lv' := [(0, .ref (ta 0)), (1, .int (x1 + (f_J13_bitCount_95d88 (t_items (ix x2))))), (2, .int (x2 + 1))]) G dX2_postings_22 2 rfl rfl (by decide) [1, 2, 0] rfl ?_
    refine z_goto (tgt := 4) G dX2_postings_25 (by decide) ?_
    exact hr4 (x1 + (f_J13_bitCount_95d88 (t_items (ix x2)))) (x2 + 1) h
noncomputable def f_X2_postings_l4 (t_items : Nat → Int64)  (x1 : Int32) (x2 : Int32) : Option (Int32) := loopN (V := Int32 × Int32) (fun rc v => f_X2_postings_b4 t_items  (fun x0_ x1_ => rc (x0_, x1_)) v.1 v.2) 200 (x1, x2)
set_option maxRecDepth 100000 in
set_option maxHeartbeats 4000000 in
theorem zl_X2_postings_4 {p : Program} {l : Launch} {e : Env} {s : State} {m : MethodId} {args : Array Value} {below : List Frame} {meth : Method} {c : Code} {A : Nat → Prop} {dC : Nat → ClassId} {dI : Nat → Nat → Nat} {cI cJ cZ cN : ClassId} {ta : Nat → Nat} {t_narrower : Nat → Int32} {t_order : Nat → Int32} {t_items : Nat → Int64} {t_names : Nat → Int32} {t_owners : Nat → Int32} {t_moving : Nat → Int32} {t_all : Int32} {t_size : Int32} {t_nameCount : Int32}  {res : Int32} (G : zG p m c cX2_postings 3 s args RX2 (dC, dI) vwCl (zT cI cJ cZ cN) A meth (some .int))  : ∀ (x1 : Int32) (x2 : Int32), f_X2_postings_l4 t_items  x1 x2 = some res → Z p l e ({ frames := 1, cells := 0, slots := 0, locals := 21 }) s m args below meth c (dC, dI) vwCl A 3 0 0 (MQ below (zQ (some (.int res)) (True) (w_N cI cJ cZ cN ta t_narrower t_order t_items t_names t_owners t_moving t_all t_size t_nameCount) (dC, dI) vwCl A) args s 0 0 A) (w_N cI cJ cZ cN ta t_narrower t_order t_items t_names t_owners t_moving t_all t_size t_nameCount) [(0, .ref (ta 0)), (1, .int x1), (2, .int x2)] [] 4 := by
  intro x1 x2 h
  exact zloop (P := fun v => Z p l e ({ frames := 1, cells := 0, slots := 0, locals := 21 }) s m args below meth c (dC, dI) vwCl A 3 0 0 (MQ below (zQ (some (.int res)) (True) (w_N cI cJ cZ cN ta t_narrower t_order t_items t_names t_owners t_moving t_all t_size t_nameCount) (dC, dI) vwCl A) args s 0 0 A) (w_N cI cJ cZ cN ta t_narrower t_order t_items t_names t_owners t_moving t_all t_size t_nameCount) [(0, .ref (ta 0)), (1, .int v.1), (2, .int v.2)] [] 4) (fun rc hr v h => zb_X2_postings_4 G  (fun x0_ x1_ h => hr (x0_, x1_) h) v.1 v.2 h) 200 (x1, x2) h
noncomputable def f_X2_postings (t_items : Nat → Int64) : Option (Int32) :=
  f_X2_postings_l4 t_items  0 0
set_option maxRecDepth 100000 in
set_option maxHeartbeats 4000000 in
theorem c_X2_postings {l : Launch} {dC : Nat → ClassId} {dI : Nat → Nat → Nat} {cI cJ cZ cN : ClassId} {ta : Nat → Nat} {t_narrower : Nat → Int32} {t_order : Nat → Int32} {t_items : Nat → Int64} {t_names : Nat → Int32} {t_owners : Nat → Int32} {t_moving : Nat → Int32} {t_all : Int32} {t_size : Int32} {t_nameCount : Int32}  {res : Int32} (h : f_X2_postings t_items = some res) : zM l yX2_postings cX2_postings 3 (some .int) ({ frames := 1, cells := 0, slots := 0, locals := 21 }) [.ref (ta 0)] (dC, dI) vwCl (zT cI cJ cZ cN) (w_N cI cJ cZ cN ta t_narrower t_order t_items t_names t_owners t_moving t_all t_size t_nameCount) (some (.int res)) (True) (w_N cI cJ cZ cN ta t_narrower t_order t_items t_names t_owners t_moving t_all t_size t_nameCount) := by
  refine zM_of (own := RX2) (by decide) rfl [(0, .ref (ta 0))] (Nat.le_of_ble_eq_true rfl) rfl ?_
  intro p e s m args below meth c A G _
  unfold f_X2_postings at h
  refine z_iconst (v := 0) G dX2_postings_0 (by decide) ?_
  refine z_istore_n (lv' := [(0, .ref (ta 0)), (1, .int 0)]) G dX2_postings_1 rfl (by decide) [1, 0] rfl ?_
  refine z_iconst (v := 0) G dX2_postings_2 (by decide) ?_
  refine z_istore_n (lv' := [(0, .ref (ta 0)), (1, .int 0), (2, .int 0)]) G dX2_postings_3 rfl (by decide) [1, 2, 0] rfl ?_
  exact zl_X2_postings_4 G  0 0 h

noncomputable def f_X2_itemsOf_b35 (t_narrower : Nat → Int32) (t_order : Nat → Int32) (t_items : Nat → Int64) (t_all : Int32) (t_size : Int32) (p1 : Int32) (p2 : Int32) (k35 : Int64 → Int32 → Int32 → Option (Int64)) (x3 : Int64) (x5 : Int32) (x6 : Int32) : Option (Int64) :=
  if 24 ≤ x6 then some (x3) else if (f_X6_holds x5 x6) = 0 then k35 x3 x5 (x6 + 1) else chk (inb x6 24) (k35 (x3 ||| (t_items (ix x6))) x5 (x6 + 1))
set_option maxRecDepth 100000 in
set_option maxHeartbeats 4000000 in
theorem zb_X2_itemsOf_35 {p : Program} {l : Launch} {e : Env} {s : State} {m : MethodId} {args : Array Value} {below : List Frame} {meth : Method} {c : Code} {A : Nat → Prop} {dC : Nat → ClassId} {dI : Nat → Nat → Nat} {cI cJ cZ cN : ClassId} {ta : Nat → Nat} {t_narrower : Nat → Int32} {t_order : Nat → Int32} {t_items : Nat → Int64} {t_names : Nat → Int32} {t_owners : Nat → Int32} {t_moving : Nat → Int32} {t_all : Int32} {t_size : Int32} {t_nameCount : Int32} {p1 : Int32} {p2 : Int32} {res : Int64} (G : zG p m c cX2_itemsOf 7 s args RX2 (dC, dI) vwCl (zT cI cJ cZ cN) A meth (some .long)) {k35 : Int64 → Int32 → Int32 → Option (Int64)} (hr35 : ∀ (x3 : Int64) (x5 : Int32) (x6 : Int32), k35 x3 x5 x6 = some res → Z p l e ({ frames := 2, cells := 0, slots := 0, locals := 44 }) s m args below meth c (dC, dI) vwCl A 7 0 0 (MQ below (zQ (some (.long res)) (True) (w_N cI cJ cZ cN ta t_narrower t_order t_items t_names t_owners t_moving t_all t_size t_nameCount) (dC, dI) vwCl A) args s 0 0 A) (w_N cI cJ cZ cN ta t_narrower t_order t_items t_names t_owners t_moving t_all t_size t_nameCount) [(0, .ref (ta 0)), (1, .int p1), (2, .int p2), (3, .long x3), (5, .int x5), (6, .int x6)] [] 35) : ∀ (x3 : Int64) (x5 : Int32) (x6 : Int32), f_X2_itemsOf_b35 t_narrower t_order t_items t_all t_size p1 p2 k35 x3 x5 x6 = some res → Z p l e ({ frames := 2, cells := 0, slots := 0, locals := 44 }) s m args below meth c (dC, dI) vwCl A 7 0 0 (MQ below (zQ (some (.long res)) (True) (w_N cI cJ cZ cN ta t_narrower t_order t_items t_names t_owners t_moving t_all t_size t_nameCount) (dC, dI) vwCl A) args s 0 0 A) (w_N cI cJ cZ cN ta t_narrower t_order t_items t_names t_owners t_moving t_all t_size t_nameCount) [(0, .ref (ta 0)), (1, .int p1), (2, .int p2), (3, .long x3), (5, .int x5), (6, .int x6)] [] 35 := by
  intro x3 x5 x6 h
  unfold f_X2_itemsOf_b35 at h
  refine z_iload G dX2_itemsOf_35 5 rfl ?_
  refine z_bipush (v := 24) G dX2_itemsOf_37 (by decide) ?_
  refine z_icmp_ge (tgt := 68) G dX2_itemsOf_39 (by decide) h (fun h => ?_) (fun h => ?_)
  · refine z_lload_n G dX2_itemsOf_68 rfl 3 rfl ?_
    obtain rfl := Option.some.inj h
    exact z_lret G rfl dX2_itemsOf_69 rfl trivial rfl
  · refine z_iload G dX2_itemsOf_42 4 rfl ?_
    refine z_iload G dX2_itemsOf_44 5 rfl ?_
    refine z_kSN (As := [.int x5, .int x6]) (rest := []) (st' := [.int (f_X6_holds x5 x6)]) G pk_X6_holds ps_X6_holds nl_X2_47 (c_X6_holds (p0 := x5) (p1 := x6) rfl) ⟨rfl, rfl⟩ ⟨Nat.le_of_ble_eq_true rfl, Nat.le_of_ble_eq_true rfl⟩ ⟨Nat.zero_le _, Nat.zero_le _⟩ rfl rfl (Nat.le_of_ble_eq_true rfl) rfl dX2_itemsOf_46 (fun z4 => ?_)
    refine z_if_eq (tgt := 62) G dX2_itemsOf_49 (by decide) h (fun h => ?_) (fun h => ?_)
    · refine z_iinc (v := x6 + 1) (lv' := [(0, .ref (ta 0)), (1, .int p1), (2, .int p2), (3, .long x3), (5, .int x5), (6, .int (x6 + 1))]) G dX2_itemsOf_62 5 rfl rfl (by decide) [1, 2, 3, 4, 5, 0] rfl ?_
      refine z_goto (tgt := 35) G dX2_itemsOf_65 (by decide) ?_
      exact hr35 x3 x5 (x6 + 1) h
    · refine z_lload_n G dX2_itemsOf_52 rfl 3 rfl ?_
      refine z_aload_n G dX2_itemsOf_53 rfl 0 rfl ?_
      refine z_get (ci := 2) (v := .ref (ta 3)) G in_X2 0 rfl rfl 2 (by decide) fl_X2_18 rfl dX2_itemsOf_54 ?_
      refine z_iload G dX2_itemsOf_57 5 rfl ?_
      refine z_laload G 3 1 rfl rfl dX2_itemsOf_59 h (fun h => ?_)
      refine z_lor G dX2_itemsOf_60 ?_
      refine z_lstore_n (lv' := [(0, .ref (ta 0)), (1, .int p1), (2, .int p2), (3, .long (x3 ||| (t_items (ix x6)))), (5, .int x5), (6, .int x6)]) G dX2_itemsOf_61 rfl (by decide) [1, 2, 3, 0, 4, 5] rfl ?_
      refine z_iinc (v := x6 + 1) (lv' := [(0, .ref (ta 0)), (1, .int p1), (2, .int p2), (3, .long (x3 ||| (t_items (ix x6)))), (5, .int x5), (6, .int (x6 + 1))]) G dX2_itemsOf_62 5 rfl rfl (by decide) [1, 2, 3, 4, 5, 0] rfl ?_
      refine z_goto (tgt := 35) G dX2_itemsOf_65 (by decide) ?_
      exact hr35 (x3 ||| (t_items (ix x6))) x5 (x6 + 1) h
noncomputable def f_X2_itemsOf_l35 (t_narrower : Nat → Int32) (t_order : Nat → Int32) (t_items : Nat → Int64) (t_all : Int32) (t_size : Int32) (p1 : Int32) (p2 : Int32)  (x3 : Int64) (x5 : Int32) (x6 : Int32) : Option (Int64) := loopN (V := Int64 × Int32 × Int32) (fun rc v => f_X2_itemsOf_b35 t_narrower t_order t_items t_all t_size p1 p2  (fun x0_ x1_ x2_ => rc (x0_, x1_, x2_)) v.1 v.2.1 v.2.2) 200 (x3, x5, x6)
set_option maxRecDepth 100000 in
set_option maxHeartbeats 4000000 in
theorem zl_X2_itemsOf_35 {p : Program} {l : Launch} {e : Env} {s : State} {m : MethodId} {args : Array Value} {below : List Frame} {meth : Method} {c : Code} {A : Nat → Prop} {dC : Nat → ClassId} {dI : Nat → Nat → Nat} {cI cJ cZ cN : ClassId} {ta : Nat → Nat} {t_narrower : Nat → Int32} {t_order : Nat → Int32} {t_items : Nat → Int64} {t_names : Nat → Int32} {t_owners : Nat → Int32} {t_moving : Nat → Int32} {t_all : Int32} {t_size : Int32} {t_nameCount : Int32} {p1 : Int32} {p2 : Int32} {res : Int64} (G : zG p m c cX2_itemsOf 7 s args RX2 (dC, dI) vwCl (zT cI cJ cZ cN) A meth (some .long))  : ∀ (x3 : Int64) (x5 : Int32) (x6 : Int32), f_X2_itemsOf_l35 t_narrower t_order t_items t_all t_size p1 p2  x3 x5 x6 = some res → Z p l e ({ frames := 2, cells := 0, slots := 0, locals := 44 }) s m args below meth c (dC, dI) vwCl A 7 0 0 (MQ below (zQ (some (.long res)) (True) (w_N cI cJ cZ cN ta t_narrower t_order t_items t_names t_owners t_moving t_all t_size t_nameCount) (dC, dI) vwCl A) args s 0 0 A) (w_N cI cJ cZ cN ta t_narrower t_order t_items t_names t_owners t_moving t_all t_size t_nameCount) [(0, .ref (ta 0)), (1, .int p1), (2, .int p2), (3, .long x3), (5, .int x5), (6, .int x6)] [] 35 := by
  intro x3 x5 x6 h
  exact zloop (P := fun v => Z p l e ({ frames := 2, cells := 0, slots := 0, locals := 44 }) s m args below meth c (dC, dI) vwCl A 7 0 0 (MQ below (zQ (some (.long res)) (True) (w_N cI cJ cZ cN ta t_narrower t_order t_items t_names t_owners t_moving t_all t_size t_nameCount) (dC, dI) vwCl A) args s 0 0 A) (w_N cI cJ cZ cN ta t_narrower t_order t_items t_names t_owners t_moving t_all t_size t_nameCount) [(0, .ref (ta 0)), (1, .int p1), (2, .int p2), (3, .long v.1), (5, .int v.2.1), (6, .int v.2.2)] [] 35) (fun rc hr v h => zb_X2_itemsOf_35 G  (fun x0_ x1_ x2_ h => hr (x0_, x1_, x2_) h) v.1 v.2.1 v.2.2 h) 200 (x3, x5, x6) h
noncomputable def f_X2_itemsOf (t_narrower : Nat → Int32) (t_order : Nat → Int32) (t_items : Nat → Int64) (t_all : Int32) (t_size : Int32) (p1 : Int32) (p2 : Int32) : Option (Int64) :=
  if (f_X2_has t_all p1) = 0 then some (0) else chk (inb p1 24) (if p2 = 0 then f_X2_itemsOf_l35 t_narrower t_order t_items t_all t_size p1 p2  (t_items (ix p1)) 0 0 else (f_X2_below t_narrower t_order t_size p1).bind (fun r2 => f_X2_itemsOf_l35 t_narrower t_order t_items t_all t_size p1 p2  (t_items (ix p1)) r2 0))
set_option maxRecDepth 100000 in
set_option maxHeartbeats 4000000 in
theorem c_X2_itemsOf {l : Launch} {dC : Nat → ClassId} {dI : Nat → Nat → Nat} {cI cJ cZ cN : ClassId} {ta : Nat → Nat} {t_narrower : Nat → Int32} {t_order : Nat → Int32} {t_items : Nat → Int64} {t_names : Nat → Int32} {t_owners : Nat → Int32} {t_moving : Nat → Int32} {t_all : Int32} {t_size : Int32} {t_nameCount : Int32} {p1 : Int32} {p2 : Int32} {res : Int64} (h : f_X2_itemsOf t_narrower t_order t_items t_all t_size p1 p2 = some res) : zM l yX2_itemsOf cX2_itemsOf 7 (some .long) ({ frames := 2, cells := 0, slots := 0, locals := 44 }) [.ref (ta 0), .int p1, .int p2] (dC, dI) vwCl (zT cI cJ cZ cN) (w_N cI cJ cZ cN ta t_narrower t_order t_items t_names t_owners t_moving t_all t_size t_nameCount) (some (.long res)) (True) (w_N cI cJ cZ cN ta t_narrower t_order t_items t_names t_owners t_moving t_all t_size t_nameCount) := by
  refine zM_of (own := RX2) (by decide) rfl [(0, .ref (ta 0)), (1, .int p1), (2, .int p2)] (Nat.le_of_ble_eq_true rfl) rfl ?_
  intro p e s m args below meth c A G _
  unfold f_X2_itemsOf at h
  refine z_aload_n G dX2_itemsOf_0 rfl 0 rfl ?_
  refine z_iload_n G dX2_itemsOf_1 rfl 1 rfl ?_
  refine z_kR (As := [.int p1]) (rest := []) (st' := [.int (f_X2_has t_all p1)]) G pk_X2_has pv_X2_has ml_X2_51 (c_X2_has (ta := ta) (t_narrower := t_narrower) (t_order := t_order) (t_items := t_items) (t_names := t_names) (t_owners := t_owners) (t_moving := t_moving) (t_all := t_all) (t_size := t_size) (t_nameCount := t_nameCount) (p1 := p1) rfl) ⟨rfl, rfl⟩ ⟨Nat.le_of_ble_eq_true rfl, Nat.le_of_ble_eq_true rfl⟩ ⟨Nat.zero_le _, Nat.zero_le _⟩ rfl rfl (Nat.le_of_ble_eq_true rfl) 0 2 rfl rfl rfl [0, 1, 2, 3, 4, 5, 6] rfl rfl rfl dX2_itemsOf_2 (fun z1 => ?_)
  refine z_if_ne (tgt := 10) G dX2_itemsOf_5 (by decide) h (fun h => ?_) (fun h => ?_)
  · refine z_aload_n G dX2_itemsOf_10 rfl 0 rfl ?_
    refine z_get (ci := 2) (v := .ref (ta 3)) G in_X2 0 rfl rfl 2 (by decide) fl_X2_18 rfl dX2_itemsOf_11 ?_
    refine z_iload_n G dX2_itemsOf_14 rfl 1 rfl ?_
    refine z_laload G 3 1 rfl rfl dX2_itemsOf_15 h (fun h => ?_)
    refine z_lstore_n (lv' := [(0, .ref (ta 0)), (1, .int p1), (2, .int p2), (3, .long (t_items (ix p1)))]) G dX2_itemsOf_16 rfl (by decide) [1, 2, 3, 0] rfl ?_
    refine z_iload_n G dX2_itemsOf_17 rfl 2 rfl ?_
    refine z_if_eq (tgt := 29) G dX2_itemsOf_18 (by decide) h (fun h => ?_) (fun h => ?_)
    · refine z_iconst (v := 0) G dX2_itemsOf_29 (by decide) ?_
      refine z_istore (lv' := [(0, .ref (ta 0)), (1, .int p1), (2, .int p2), (3, .long (t_items (ix p1))), (5, .int 0)]) G dX2_itemsOf_30 (by decide) [1, 2, 3, 4, 0] rfl ?_
      refine z_iconst (v := 0) G dX2_itemsOf_32 (by decide) ?_
      refine z_istore (lv' := [(0, .ref (ta 0)), (1, .int p1), (2, .int p2), (3, .long (t_items (ix p1))), (5, .int 0), (6, .int 0)]) G dX2_itemsOf_33 (by decide) [1, 2, 3, 4, 5, 0] rfl ?_
      exact zl_X2_itemsOf_35 G  (t_items (ix p1)) 0 0 h
    · refine z_aload_n G dX2_itemsOf_21 rfl 0 rfl ?_
      refine z_iload_n G dX2_itemsOf_22 rfl 1 rfl ?_
      obtain ⟨r2, e2, h⟩ := obind h
      refine z_kR (As := [.int p1]) (rest := []) (st' := [.int r2]) G pk_X2_below pv_X2_below ml_X2_70 (c_X2_below (ta := ta) (t_narrower := t_narrower) (t_order := t_order) (t_items := t_items) (t_names := t_names) (t_owners := t_owners) (t_moving := t_moving) (t_all := t_all) (t_size := t_size) (t_nameCount := t_nameCount) (p1 := p1) e2) ⟨rfl, rfl⟩ ⟨Nat.le_of_ble_eq_true rfl, Nat.le_of_ble_eq_true rfl⟩ ⟨Nat.zero_le _, Nat.zero_le _⟩ rfl rfl (Nat.le_of_ble_eq_true rfl) 0 2 rfl rfl rfl [0, 1, 2, 3, 4, 5, 6] rfl rfl rfl dX2_itemsOf_23 (fun z3 => ?_)
      refine z_goto (tgt := 30) G dX2_itemsOf_26 (by decide) ?_
      refine z_istore (lv' := [(0, .ref (ta 0)), (1, .int p1), (2, .int p2), (3, .long (t_items (ix p1))), (5, .int r2)]) G dX2_itemsOf_30 (by decide) [1, 2, 3, 4, 0] rfl ?_
      refine z_iconst (v := 0) G dX2_itemsOf_32 (by decide) ?_
      refine z_istore (lv' := [(0, .ref (ta 0)), (1, .int p1), (2, .int p2), (3, .long (t_items (ix p1))), (5, .int r2), (6, .int 0)]) G dX2_itemsOf_33 (by decide) [1, 2, 3, 4, 5, 0] rfl ?_
      exact zl_X2_itemsOf_35 G  (t_items (ix p1)) r2 0 h
  · refine z_lconst (v := 0) G dX2_itemsOf_8 (by decide) ?_
    obtain rfl := Option.some.inj h
    exact z_lret G rfl dX2_itemsOf_9 rfl trivial rfl

noncomputable def f_X2_searchOn_b19 (t_narrower : Nat → Int32) (t_order : Nat → Int32) (t_items : Nat → Int64) (t_all : Int32) (t_size : Int32) (p1 : Int64) (p3 : Int32)  (s1 : Int32) (s2 : Int32) : Option (Int64) :=
  (f_X2_itemsOf t_narrower t_order t_items t_all t_size s1 s2).bind (fun r1 => if (jrem (p3 / 100) 10) = 1 then some (p1 &&& r1) else (if (jrem (p3 / 100) 10) = 2 then some (p1 &&& (r1 ^^^ (-1))) else (some (p1 ||| r1))))
set_option maxRecDepth 100000 in
set_option maxHeartbeats 4000000 in
theorem zb_X2_searchOn_19 {p : Program} {l : Launch} {e : Env} {s : State} {m : MethodId} {args : Array Value} {below : List Frame} {meth : Method} {c : Code} {A : Nat → Prop} {dC : Nat → ClassId} {dI : Nat → Nat → Nat} {cI cJ cZ cN : ClassId} {ta : Nat → Nat} {t_narrower : Nat → Int32} {t_order : Nat → Int32} {t_items : Nat → Int64} {t_names : Nat → Int32} {t_owners : Nat → Int32} {t_moving : Nat → Int32} {t_all : Int32} {t_size : Int32} {t_nameCount : Int32} {p1 : Int64} {p3 : Int32} {res : Int64} (G : zG p m c cX2_searchOn 6 s args RX2 (dC, dI) vwCl (zT cI cJ cZ cN) A meth (some .long))  : ∀ (s1 : Int32) (s2 : Int32), f_X2_searchOn_b19 t_narrower t_order t_items t_all t_size p1 p3  s1 s2 = some res → Z p l e ({ frames := 3, cells := 0, slots := 0, locals := 70 }) s m args below meth c (dC, dI) vwCl A 6 0 0 (MQ below (zQ (some (.long res)) (True) (w_N cI cJ cZ cN ta t_narrower t_order t_items t_names t_owners t_moving t_all t_size t_nameCount) (dC, dI) vwCl A) args s 0 0 A) (w_N cI cJ cZ cN ta t_narrower t_order t_items t_names t_owners t_moving t_all t_size t_nameCount) [(0, .ref (ta 0)), (1, .long p1), (3, .int p3)] [.int s2, .int s1, .ref (ta 0)] 19 := by
  intro s1 s2 h
  unfold f_X2_searchOn_b19 at h
  obtain ⟨r1, e1, h⟩ := obind h
  refine z_kR (As := [.int s1, .int s2]) (rest := []) (st' := [.long r1]) G pk_X2_itemsOf pv_X2_itemsOf ml_X2_97 (c_X2_itemsOf (ta := ta) (t_narrower := t_narrower) (t_order := t_order) (t_items := t_items) (t_names := t_names) (t_owners := t_owners) (t_moving := t_moving) (t_all := t_all) (t_size := t_size) (t_nameCount := t_nameCount) (p1 := s1) (p2 := s2) e1) ⟨rfl, rfl⟩ ⟨Nat.le_of_ble_eq_true rfl, Nat.le_of_ble_eq_true rfl⟩ ⟨Nat.zero_le _, Nat.zero_le _⟩ rfl rfl (Nat.le_of_ble_eq_true rfl) 0 2 rfl rfl rfl [0, 1, 2, 3, 4, 5, 6] rfl rfl rfl dX2_searchOn_19 (fun z2 => ?_)
  refine z_lstore (lv' := [(0, .ref (ta 0)), (1, .long p1), (3, .int p3), (4, .long r1)]) G dX2_searchOn_22 (by decide) [1, 2, 3, 0] rfl ?_
  refine z_iload_n G dX2_searchOn_24 rfl 2 rfl ?_
  refine z_bipush (v := 100) G dX2_searchOn_25 (by decide) ?_
  refine z_idiv G dX2_searchOn_27 (by decide) ?_
  refine z_bipush (v := 10) G dX2_searchOn_28 (by decide) ?_
  refine z_irem G dX2_searchOn_30 (by decide) ?_
  refine z_ite (P := (jrem (p3 / 100) 10) = 1) h (fun q31_0 h => ?_) (fun q31_0 h => ?_)
  · refine z_look (tgt := 56) G dX2_searchOn_31 (by decide) (off := 25) (by rw [q31_0]; decide) (by decide) ?_
    refine z_lload_n G dX2_searchOn_56 rfl 1 rfl ?_
    refine z_lload G dX2_searchOn_57 3 rfl ?_
    refine z_land G dX2_searchOn_59 ?_
    obtain rfl := Option.some.inj h
    exact z_lret G rfl dX2_searchOn_60 rfl trivial rfl
  · refine z_ite (P := (jrem (p3 / 100) 10) = 2) h (fun q31_1 h => ?_) (fun q31_1 h => ?_)
    · refine z_look (tgt := 61) G dX2_searchOn_31 (by decide) (off := 30) (by rw [q31_1]; decide) (by decide) ?_
      refine z_lload_n G dX2_searchOn_61 rfl 1 rfl ?_
      refine z_lload G dX2_searchOn_62 3 rfl ?_
      refine z_ldc2 (v := (-1)) G dX2_searchOn_64 kc_X2_101 ?_
      refine z_lxor G dX2_searchOn_67 ?_
      refine z_land G dX2_searchOn_68 ?_
      obtain rfl := Option.some.inj h
      exact z_lret G rfl dX2_searchOn_69 rfl trivial rfl
    · refine z_look (tgt := 70) G dX2_searchOn_31 (by decide) (off := 39) (by rw [lv_osw (k := 1) q31_0 (by decide)]; rw [lv_osw (k := 2) q31_1 (by decide)]; rfl) (by decide) ?_
      refine z_lload_n G dX2_searchOn_70 rfl 1 rfl ?_
      refine z_lload G dX2_searchOn_71 3 rfl ?_
      refine z_lor G dX2_searchOn_73 ?_
      obtain rfl := Option.some.inj h
      exact z_lret G rfl dX2_searchOn_74 rfl trivial rfl
noncomputable def f_X2_searchOn (t_narrower : Nat → Int32) (t_order : Nat → Int32) (t_items : Nat → Int64) (t_all : Int32) (t_size : Int32) (p1 : Int64) (p3 : Int32) : Option (Int64) :=
  if (p3 / 1000) = 1 then f_X2_searchOn_b19 t_narrower t_order t_items t_all t_size p1 p3  (jrem p3 100) 1 else f_X2_searchOn_b19 t_narrower t_order t_items t_all t_size p1 p3  (jrem p3 100) 0
set_option maxRecDepth 100000 in
set_option maxHeartbeats 4000000 in
theorem c_X2_searchOn {l : Launch} {dC : Nat → ClassId} {dI : Nat → Nat → Nat} {cI cJ cZ cN : ClassId} {ta : Nat → Nat} {t_narrower : Nat → Int32} {t_order : Nat → Int32} {t_items : Nat → Int64} {t_names : Nat → Int32} {t_owners : Nat → Int32} {t_moving : Nat → Int32} {t_all : Int32} {t_size : Int32} {t_nameCount : Int32} {p1 : Int64} {p3 : Int32} {res : Int64} (h : f_X2_searchOn t_narrower t_order t_items t_all t_size p1 p3 = some res) : zM l yX2_searchOn cX2_searchOn 6 (some .long) ({ frames := 3, cells := 0, slots := 0, locals := 70 }) [.ref (ta 0), .long p1, .int p3] (dC, dI) vwCl (zT cI cJ cZ cN) (w_N cI cJ cZ cN ta t_narrower t_order t_items t_names t_owners t_moving t_all t_size t_nameCount) (some (.long res)) (True) (w_N cI cJ cZ cN ta t_narrower t_order t_items t_names t_owners t_moving t_all t_size t_nameCount) := by
  refine zM_of (own := RX2) (by decide) rfl [(0, .ref (ta 0)), (1, .long p1), (3, .int p3)] (Nat.le_of_ble_eq_true rfl) rfl ?_
  intro p e s m args below meth c A G _
  unfold f_X2_searchOn at h
  refine z_aload_n G dX2_searchOn_0 rfl 0 rfl ?_
  refine z_iload_n G dX2_searchOn_1 rfl 2 rfl ?_
  refine z_bipush (v := 100) G dX2_searchOn_2 (by decide) ?_
  refine z_irem G dX2_searchOn_4 (by decide) ?_
  refine z_iload_n G dX2_searchOn_5 rfl 2 rfl ?_
  refine z_sipush (v := 1000) G dX2_searchOn_6 (by decide) ?_
  refine z_idiv G dX2_searchOn_9 (by decide) ?_
  refine z_iconst (v := 1) G dX2_searchOn_10 (by decide) ?_
  refine z_icmp_ne (tgt := 18) G dX2_searchOn_11 (by decide) h (fun h => ?_) (fun h => ?_)
  · refine z_iconst (v := 0) G dX2_searchOn_18 (by decide) ?_
    exact zb_X2_searchOn_19 G  (jrem p3 100) 0 h
  · refine z_iconst (v := 1) G dX2_searchOn_14 (by decide) ?_
    refine z_goto (tgt := 19) G dX2_searchOn_15 (by decide) ?_
    exact zb_X2_searchOn_19 G  (jrem p3 100) 1 h
