noncomputable def f_X6_meets (n_narrower : Nat → Int32) (n_order : Nat → Int32) (n_all : Int32) (n_size : Int32) (r_numbers : Nat → Int64) (r_size : Int32) (p1 : Int32) (p2 : Int32) : Option (Int32 × (Nat → Int64) × Int32) :=
  if (f_X2_has n_all p1) = 0 then some ((-1), r_numbers, r_size) else if (f_X2_has n_all p2) = 0 then some ((-1), r_numbers, r_size) else (f_X2_above n_narrower n_order n_size p1).bind (fun r3 => (f_X2_above n_narrower n_order n_size p2).bind (fun r5 => (f_X2_withOthersBelow n_narrower n_order n_size (r3 &&& r5)).bind (fun r7 => (f_X4_tell r_numbers r_size (((r3 &&& r5) &&& (r7 ^^^ (-1))).toInt64)).bind (fun r9 => some (r3 &&& r5, r9.1, r9.2)))))
set_option maxRecDepth 100000 in
set_option maxHeartbeats 4000000 in
theorem c_X6_meets {l : Launch} {dC : Nat → ClassId} {dI : Nat → Nat → Nat} {cI cJ cZ cN : ClassId} {ta : Nat → Nat} {na : Nat → Nat} {ra : Nat → Nat} {t_text : Nat} {t_guide : Nat} {t_acts : Nat} {t_past : Nat} {t_trial : Nat} {t_kept : Nat → Nat} {t_filled : Nat → Int32} {n_narrower : Nat → Int32} {n_order : Nat → Int32} {n_items : Nat → Int64} {n_names : Nat → Int32} {n_owners : Nat → Int32} {n_moving : Nat → Int32} {n_all : Int32} {n_size : Int32} {n_nameCount : Int32} {r_numbers : Nat → Int64} {r_size : Int32} {p1 : Int32} {p2 : Int32} {res : Int32 × (Nat → Int64) × Int32} (h : f_X6_meets n_narrower n_order n_all n_size r_numbers r_size p1 p2 = some res) : zM l yX6_meets cX6_meets 4 (some .int) ({ frames := 3, cells := 0, slots := 0, locals := 67 }) [.ref (ta 0), .int p1, .int p2] (dC, dI) vwCl (zT cI cJ cZ cN) (w_Stnr cI cJ cZ cN ta na ra t_text t_guide t_acts t_past t_trial t_kept t_filled n_narrower n_order n_items n_names n_owners n_moving n_all n_size n_nameCount r_numbers r_size) (some (.int res.1)) (True) (w_Stnr cI cJ cZ cN ta na ra t_text t_guide t_acts t_past t_trial t_kept t_filled n_narrower n_order n_items n_names n_owners n_moving n_all n_size n_nameCount res.2.1 res.2.2) := by
  refine zM_of (own := RX6) (by decide) rfl [(0, .ref (ta 0)), (1, .int p1), (2, .int p2)] (Nat.le_of_ble_eq_true rfl) rfl ?_
  intro p e s m args below meth c A G _
  unfold f_X6_meets at h
  refine z_aload_n G dX6_meets_0 rfl 0 rfl ?_
  refine z_get (ci := 6) (v := .ref (na 0)) G in_X6 0 rfl rfl 8 (by decide) fl_X6_55 rfl dX6_meets_1 ?_
  refine z_iload_n G dX6_meets_4 rfl 1 rfl ?_
  refine z_kR (As := [.int p1]) (rest := []) (st' := [.int (f_X2_has n_all p1)]) G pk_X2_has pv_X2_has ml_X6_94 (c_X2_has (ta := na) (t_narrower := n_narrower) (t_order := n_order) (t_items := n_items) (t_names := n_names) (t_owners := n_owners) (t_moving := n_moving) (t_all := n_all) (t_size := n_size) (t_nameCount := n_nameCount) (p1 := p1) rfl) ⟨rfl, rfl⟩ ⟨Nat.le_of_ble_eq_true rfl, Nat.le_of_ble_eq_true rfl⟩ ⟨Nat.zero_le _, Nat.zero_le _⟩ rfl rfl (Nat.le_of_ble_eq_true rfl) 3 2 rfl rfl rfl [3, 4, 5, 6, 7, 8, 9] rfl rfl rfl dX6_meets_5 (fun z1 => ?_)
  refine z_if_eq (tgt := 22) G dX6_meets_8 (by decide) h (fun h => ?_) (fun h => ?_)
  · refine z_iconst (v := (-1)) G dX6_meets_22 (by decide) ?_
    obtain rfl := Option.some.inj h
    exact z_iret G rfl dX6_meets_23 rfl trivial rfl
  · refine z_aload_n G dX6_meets_11 rfl 0 rfl ?_
    refine z_get (ci := 6) (v := .ref (na 0)) G in_X6 0 rfl rfl 8 (by decide) fl_X6_55 rfl dX6_meets_12 ?_
    refine z_iload_n G dX6_meets_15 rfl 2 rfl ?_
    refine z_kR (As := [.int p2]) (rest := []) (st' := [.int (f_X2_has n_all p2)]) G pk_X2_has pv_X2_has ml_X6_94 (c_X2_has (ta := na) (t_narrower := n_narrower) (t_order := n_order) (t_items := n_items) (t_names := n_names) (t_owners := n_owners) (t_moving := n_moving) (t_all := n_all) (t_size := n_size) (t_nameCount := n_nameCount) (p1 := p2) rfl) ⟨rfl, rfl⟩ ⟨Nat.le_of_ble_eq_true rfl, Nat.le_of_ble_eq_true rfl⟩ ⟨Nat.zero_le _, Nat.zero_le _⟩ rfl rfl (Nat.le_of_ble_eq_true rfl) 3 2 rfl rfl rfl [3, 4, 5, 6, 7, 8, 9] rfl rfl rfl dX6_meets_16 (fun z2 => ?_)
    refine z_if_ne (tgt := 24) G dX6_meets_19 (by decide) h (fun h => ?_) (fun h => ?_)
    · refine z_aload_n G dX6_meets_24 rfl 0 rfl ?_
      refine z_get (ci := 6) (v := .ref (na 0)) G in_X6 0 rfl rfl 8 (by decide) fl_X6_55 rfl dX6_meets_25 ?_
      refine z_iload_n G dX6_meets_28 rfl 1 rfl ?_
      obtain ⟨r3, e3, h⟩ := obind h
      refine z_kR (As := [.int p1]) (rest := []) (st' := [.int r3]) G pk_X2_above pv_X2_above ml_X6_188 (c_X2_above (ta := na) (t_narrower := n_narrower) (t_order := n_order) (t_items := n_items) (t_names := n_names) (t_owners := n_owners) (t_moving := n_moving) (t_all := n_all) (t_size := n_size) (t_nameCount := n_nameCount) (p1 := p1) e3) ⟨rfl, rfl⟩ ⟨Nat.le_of_ble_eq_true rfl, Nat.le_of_ble_eq_true rfl⟩ ⟨Nat.zero_le _, Nat.zero_le _⟩ rfl rfl (Nat.le_of_ble_eq_true rfl) 3 2 rfl rfl rfl [3, 4, 5, 6, 7, 8, 9] rfl rfl rfl dX6_meets_29 (fun z4 => ?_)
      refine z_aload_n G dX6_meets_32 rfl 0 rfl ?_
      refine z_get (ci := 6) (v := .ref (na 0)) G in_X6 0 rfl rfl 8 (by decide) fl_X6_55 rfl dX6_meets_33 ?_
      refine z_iload_n G dX6_meets_36 rfl 2 rfl ?_
      obtain ⟨r5, e5, h⟩ := obind h
      refine z_kR (As := [.int p2]) (rest := [.int r3]) (st' := [.int r5, .int r3]) G pk_X2_above pv_X2_above ml_X6_188 (c_X2_above (ta := na) (t_narrower := n_narrower) (t_order := n_order) (t_items := n_items) (t_names := n_names) (t_owners := n_owners) (t_moving := n_moving) (t_all := n_all) (t_size := n_size) (t_nameCount := n_nameCount) (p1 := p2) e5) ⟨rfl, rfl⟩ ⟨Nat.le_of_ble_eq_true rfl, Nat.le_of_ble_eq_true rfl⟩ ⟨Nat.zero_le _, Nat.zero_le _⟩ rfl rfl (Nat.le_of_ble_eq_true rfl) 3 2 rfl rfl rfl [3, 4, 5, 6, 7, 8, 9] rfl rfl rfl dX6_meets_37 (fun z6 => ?_)
      refine z_iand G dX6_meets_40 ?_
      refine z_istore_n (lv' := [(0, .ref (ta 0)), (1, .int p1), (2, .int p2), (3, .int (r3 &&& r5))]) G dX6_meets_41 rfl (by decide) [1, 2, 3, 0] rfl ?_
      refine z_aload_n G dX6_meets_42 rfl 0 rfl ?_
      refine z_get (ci := 6) (v := .ref (ra 0)) G in_X6 0 rfl rfl 0 (by decide) fl_X6_27 rfl dX6_meets_43 ?_
      refine z_iload_n G dX6_meets_46 rfl 3 rfl ?_
      refine z_aload_n G dX6_meets_47 rfl 0 rfl ?_
      refine z_get (ci := 6) (v := .ref (na 0)) G in_X6 0 rfl rfl 8 (by decide) fl_X6_55 rfl dX6_meets_48 ?_
      refine z_iload_n G dX6_meets_51 rfl 3 rfl ?_
      obtain ⟨r7, e7, h⟩ := obind h
      refine z_kR (As := [.int (r3 &&& r5)]) (rest := [.int (r3 &&& r5), .ref (ra 0)]) (st' := [.int r7, .int (r3 &&& r5), .ref (ra 0)]) G pk_X2_withOthersBelow pv_X2_withOthersBelow ml_X6_222 (c_X2_withOthersBelow (ta := na) (t_narrower := n_narrower) (t_order := n_order) (t_items := n_items) (t_names := n_names) (t_owners := n_owners) (t_moving := n_moving) (t_all := n_all) (t_size := n_size) (t_nameCount := n_nameCount) (p1 := r3 &&& r5) e7) ⟨rfl, rfl⟩ ⟨Nat.le_of_ble_eq_true rfl, Nat.le_of_ble_eq_true rfl⟩ ⟨Nat.zero_le _, Nat.zero_le _⟩ rfl rfl (Nat.le_of_ble_eq_true rfl) 3 2 rfl rfl rfl [3, 4, 5, 6, 7, 8, 9] rfl rfl rfl dX6_meets_52 (fun z8 => ?_)
      refine z_iconst (v := (-1)) G dX6_meets_55 (by decide) ?_
      refine z_ixor G dX6_meets_56 ?_
      refine z_iand G dX6_meets_57 ?_
      refine z_i2l G dX6_meets_58 ?_
      obtain ⟨r9, e9, h⟩ := obind h
      refine z_kV (As := [.long (((r3 &&& r5) &&& (r7 ^^^ (-1))).toInt64)]) (rest := []) (st' := []) (ws' := (w_Stnr cI cJ cZ cN ta na ra t_text t_guide t_acts t_past t_trial t_kept t_filled n_narrower n_order n_items n_names n_owners n_moving n_all n_size n_nameCount r9.1 r9.2)) G pk_X4_tell pv_X4_tell ml_X6_149 (c_X4_tell (ta := ra) (t_numbers := r_numbers) (t_size := r_size) (p1 := ((r3 &&& r5) &&& (r7 ^^^ (-1))).toInt64) e9) ⟨rfl, rfl⟩ ⟨Nat.le_of_ble_eq_true rfl, Nat.le_of_ble_eq_true rfl⟩ ⟨Nat.zero_le _, Nat.zero_le _⟩ rfl rfl (Nat.le_of_ble_eq_true rfl) 10 4 rfl rfl rfl [10, 11] rfl rfl [none, none, none, none, none, none, none, none, none, none, some 0, some 1] rfl rfl rfl rfl dX6_meets_59 (fun z10 => ?_)
      refine z_iload_n G dX6_meets_62 rfl 3 rfl ?_
      obtain rfl := Option.some.inj h
      exact z_iret G rfl dX6_meets_63 rfl trivial rfl
    · refine z_iconst (v := (-1)) G dX6_meets_22 (by decide) ?_
      obtain rfl := Option.some.inj h
      exact z_iret G rfl dX6_meets_23 rfl trivial rfl

noncomputable def f_X6_tops_b47 (n_narrower : Nat → Int32) (n_order : Nat → Int32) (n_size : Int32) (r_numbers : Nat → Int64) (r_size : Int32) (k6 : Int32 → Int32 → Int32 → Option (Int32 × (Nat → Int64) × Int32)) (x1 : Int32) (x2 : Int32) (x3 : Int32) (x4 : Int32) : Option (Int32 × (Nat → Int64) × Int32) :=
  chk (inb x4 24) (if (n_narrower (ix x4)) = 0 then k6 x1 (x2 ||| (jshl 1 x4)) (x3 + 1) else k6 x1 x2 (x3 + 1))
set_option maxRecDepth 100000 in
set_option maxHeartbeats 4000000 in
theorem zb_X6_tops_47 {p : Program} {l : Launch} {e : Env} {s : State} {m : MethodId} {args : Array Value} {below : List Frame} {meth : Method} {c : Code} {A : Nat → Prop} {dC : Nat → ClassId} {dI : Nat → Nat → Nat} {cI cJ cZ cN : ClassId} {ta : Nat → Nat} {na : Nat → Nat} {ra : Nat → Nat} {t_text : Nat} {t_guide : Nat} {t_acts : Nat} {t_past : Nat} {t_trial : Nat} {t_kept : Nat → Nat} {t_filled : Nat → Int32} {n_narrower : Nat → Int32} {n_order : Nat → Int32} {n_items : Nat → Int64} {n_names : Nat → Int32} {n_owners : Nat → Int32} {n_moving : Nat → Int32} {n_all : Int32} {n_size : Int32} {n_nameCount : Int32} {r_numbers : Nat → Int64} {r_size : Int32}  {res : Int32 × (Nat → Int64) × Int32} (G : zG p m c cX6_tops 5 s args RX6 (dC, dI) vwCl (zT cI cJ cZ cN) A meth (some .int)) {k6 : Int32 → Int32 → Int32 → Option (Int32 × (Nat → Int64) × Int32)} (hr6 : ∀ (x1 : Int32) (x2 : Int32) (x3 : Int32), k6 x1 x2 x3 = some res → Z p l e ({ frames := 2, cells := 0, slots := 0, locals := 44 }) s m args below meth c (dC, dI) vwCl A 5 0 0 (MQ below (zQ (some (.int res.1)) (True) (w_Stnr cI cJ cZ cN ta na ra t_text t_guide t_acts t_past t_trial t_kept t_filled n_narrower n_order n_items n_names n_owners n_moving n_all n_size n_nameCount res.2.1 res.2.2) (dC, dI) vwCl A) args s 0 0 A) (w_Stnr cI cJ cZ cN ta na ra t_text t_guide t_acts t_past t_trial t_kept t_filled n_narrower n_order n_items n_names n_owners n_moving n_all n_size n_nameCount r_numbers r_size) [(0, .ref (ta 0)), (1, .int x1), (2, .int x2), (3, .int x3)] [] 6) : ∀ (x1 : Int32) (x2 : Int32) (x3 : Int32) (x4 : Int32), f_X6_tops_b47 n_narrower n_order n_size r_numbers r_size k6 x1 x2 x3 x4 = some res → Z p l e ({ frames := 2, cells := 0, slots := 0, locals := 44 }) s m args below meth c (dC, dI) vwCl A 5 0 0 (MQ below (zQ (some (.int res.1)) (True) (w_Stnr cI cJ cZ cN ta na ra t_text t_guide t_acts t_past t_trial t_kept t_filled n_narrower n_order n_items n_names n_owners n_moving n_all n_size n_nameCount res.2.1 res.2.2) (dC, dI) vwCl A) args s 0 0 A) (w_Stnr cI cJ cZ cN ta na ra t_text t_guide t_acts t_past t_trial t_kept t_filled n_narrower n_order n_items n_names n_owners n_moving n_all n_size n_nameCount r_numbers r_size) [(0, .ref (ta 0)), (1, .int x1), (2, .int x2), (3, .int x3), (4, .int x4)] [] 47 := by
  intro x1 x2 x3 x4 h
  unfold f_X6_tops_b47 at h
  refine z_aload_n G dX6_tops_47 rfl 0 rfl ?_
  refine z_get (ci := 6) (v := .ref (na 0)) G in_X6 0 rfl rfl 8 (by decide) fl_X6_55 rfl dX6_tops_48 ?_
  refine z_get (ci := 2) (v := .ref (na 1)) G in_X2 3 rfl rfl 0 (by decide) fl_X6_179 rfl dX6_tops_51 ?_
  refine z_iload G dX6_tops_54 4 rfl ?_
  refine z_iaload G 4 0 rfl rfl dX6_tops_56 h (fun h => ?_)
  refine z_if_ne (tgt := 67) G dX6_tops_57 (by decide) h (fun h => ?_) (fun h => ?_)
  · refine z_iinc (v := x3 + 1) (lv' := [(0, .ref (ta 0)), (1, .int x1), (2, .int x2), (3, .int (x3 + 1)), (4, .int x4)]) G dX6_tops_67 3 rfl rfl (by decide) [1, 2, 3, 0, 4] rfl ?_
    refine z_goto (tgt := 6) G dX6_tops_70 (by decide) ?_
    refine z_lv [0, 1, 2, 3] rfl ?_
    exact hr6 x1 x2 (x3 + 1) h
  · refine z_iload_n G dX6_tops_60 rfl 2 rfl ?_
    refine z_iconst (v := 1) G dX6_tops_61 (by decide) ?_
    refine z_iload G dX6_tops_62 4 rfl ?_
    refine z_ishl G dX6_tops_64 ?_
    refine z_ior G dX6_tops_65 ?_
    refine z_istore_n (lv' := [(0, .ref (ta 0)), (1, .int x1), (2, .int (x2 ||| (jshl 1 x4))), (3, .int x3), (4, .int x4)]) G dX6_tops_66 rfl (by decide) [1, 2, 0, 3, 4] rfl ?_
    refine z_iinc (v := x3 + 1) (lv' := [(0, .ref (ta 0)), (1, .int x1), (2, .int (x2 ||| (jshl 1 x4))), (3, .int (x3 + 1)), (4, .int x4)]) G dX6_tops_67 3 rfl rfl (by decide) [1, 2, 3, 0, 4] rfl ?_
    refine z_goto (tgt := 6) G dX6_tops_70 (by decide) ?_
    refine z_lv [0, 1, 2, 3] rfl ?_
    exact hr6 x1 (x2 ||| (jshl 1 x4)) (x3 + 1) h
noncomputable def f_X6_tops_b6 (n_narrower : Nat → Int32) (n_order : Nat → Int32) (n_size : Int32) (r_numbers : Nat → Int64) (r_size : Int32) (k6 : Int32 → Int32 → Int32 → Option (Int32 × (Nat → Int64) × Int32)) (x1 : Int32) (x2 : Int32) (x3 : Int32) : Option (Int32 × (Nat → Int64) × Int32) :=
  if n_size ≤ x3 then (f_X4_tell r_numbers r_size (x2.toInt64)).bind (fun r1 => (f_X4_add r1.1 r1.2 ((x1 &&& x2).toInt64)).bind (fun r3 => some (x1, r3.1, r3.2))) else chk (inb x3 24) ((f_X2_broaderOf n_narrower (n_order (ix x3))).bind (fun r5 => if r5 = 0 then f_X6_tops_b47 n_narrower n_order n_size r_numbers r_size k6 (x1 ||| (jshl 1 (n_order (ix x3)))) x2 x3 (n_order (ix x3)) else f_X6_tops_b47 n_narrower n_order n_size r_numbers r_size k6 x1 x2 x3 (n_order (ix x3))))
set_option maxRecDepth 100000 in
set_option maxHeartbeats 4000000 in
theorem zb_X6_tops_6 {p : Program} {l : Launch} {e : Env} {s : State} {m : MethodId} {args : Array Value} {below : List Frame} {meth : Method} {c : Code} {A : Nat → Prop} {dC : Nat → ClassId} {dI : Nat → Nat → Nat} {cI cJ cZ cN : ClassId} {ta : Nat → Nat} {na : Nat → Nat} {ra : Nat → Nat} {t_text : Nat} {t_guide : Nat} {t_acts : Nat} {t_past : Nat} {t_trial : Nat} {t_kept : Nat → Nat} {t_filled : Nat → Int32} {n_narrower : Nat → Int32} {n_order : Nat → Int32} {n_items : Nat → Int64} {n_names : Nat → Int32} {n_owners : Nat → Int32} {n_moving : Nat → Int32} {n_all : Int32} {n_size : Int32} {n_nameCount : Int32} {r_numbers : Nat → Int64} {r_size : Int32}  {res : Int32 × (Nat → Int64) × Int32} (G : zG p m c cX6_tops 5 s args RX6 (dC, dI) vwCl (zT cI cJ cZ cN) A meth (some .int)) {k6 : Int32 → Int32 → Int32 → Option (Int32 × (Nat → Int64) × Int32)} (hr6 : ∀ (x1 : Int32) (x2 : Int32) (x3 : Int32), k6 x1 x2 x3 = some res → Z p l e ({ frames := 2, cells := 0, slots := 0, locals := 44 }) s m args below meth c (dC, dI) vwCl A 5 0 0 (MQ below (zQ (some (.int res.1)) (True) (w_Stnr cI cJ cZ cN ta na ra t_text t_guide t_acts t_past t_trial t_kept t_filled n_narrower n_order n_items n_names n_owners n_moving n_all n_size n_nameCount res.2.1 res.2.2) (dC, dI) vwCl A) args s 0 0 A) (w_Stnr cI cJ cZ cN ta na ra t_text t_guide t_acts t_past t_trial t_kept t_filled n_narrower n_order n_items n_names n_owners n_moving n_all n_size n_nameCount r_numbers r_size) [(0, .ref (ta 0)), (1, .int x1), (2, .int x2), (3, .int x3)] [] 6) : ∀ (x1 : Int32) (x2 : Int32) (x3 : Int32), f_X6_tops_b6 n_narrower n_order n_size r_numbers r_size k6 x1 x2 x3 = some res → Z p l e ({ frames := 2, cells := 0, slots := 0, locals := 44 }) s m args below meth c (dC, dI) vwCl A 5 0 0 (MQ below (zQ (some (.int res.1)) (True) (w_Stnr cI cJ cZ cN ta na ra t_text t_guide t_acts t_past t_trial t_kept t_filled n_narrower n_order n_items n_names n_owners n_moving n_all n_size n_nameCount res.2.1 res.2.2) (dC, dI) vwCl A) args s 0 0 A) (w_Stnr cI cJ cZ cN ta na ra t_text t_guide t_acts t_past t_trial t_kept t_filled n_narrower n_order n_items n_names n_owners n_moving n_all n_size n_nameCount r_numbers r_size) [(0, .ref (ta 0)), (1, .int x1), (2, .int x2), (3, .int x3)] [] 6 := by
  intro x1 x2 x3 h
  unfold f_X6_tops_b6 at h
  refine z_iload_n G dX6_tops_6 rfl 3 rfl ?_
  refine z_aload_n G dX6_tops_7 rfl 0 rfl ?_
  refine z_get (ci := 6) (v := .ref (na 0)) G in_X6 0 rfl rfl 8 (by decide) fl_X6_55 rfl dX6_tops_8 ?_
  refine z_get (ci := 2) (v := .int n_size) G in_X2 3 rfl rfl 7 (by decide) fl_X6_80 rfl dX6_tops_11 ?_
  refine z_icmp_ge (tgt := 73) G dX6_tops_14 (by decide) h (fun h => ?_) (fun h => ?_)
  · refine z_aload_n G dX6_tops_73 rfl 0 rfl ?_
    refine z_get (ci := 6) (v := .ref (ra 0)) G in_X6 0 rfl rfl 0 (by decide) fl_X6_27 rfl dX6_tops_74 ?_
    refine z_iload_n G dX6_tops_77 rfl 2 rfl ?_
    refine z_i2l G dX6_tops_78 ?_
    obtain ⟨r1, e1, h⟩ := obind h
    refine z_kV (As := [.long (x2.toInt64)]) (rest := []) (st' := []) (ws' := (w_Stnr cI cJ cZ cN ta na ra t_text t_guide t_acts t_past t_trial t_kept t_filled n_narrower n_order n_items n_names n_owners n_moving n_all n_size n_nameCount r1.1 r1.2)) G pk_X4_tell pv_X4_tell ml_X6_149 (c_X4_tell (ta := ra) (t_numbers := r_numbers) (t_size := r_size) (p1 := x2.toInt64) e1) ⟨rfl, rfl⟩ ⟨Nat.le_of_ble_eq_true rfl, Nat.le_of_ble_eq_true rfl⟩ ⟨Nat.zero_le _, Nat.zero_le _⟩ rfl rfl (Nat.le_of_ble_eq_true rfl) 10 4 rfl rfl rfl [10, 11] rfl rfl [none, none, none, none, none, none, none, none, none, none, some 0, some 1] rfl rfl rfl rfl dX6_tops_79 (fun z2 => ?_)
    refine z_aload_n G dX6_tops_82 rfl 0 rfl ?_
    refine z_get (ci := 6) (v := .ref (ra 0)) G in_X6 0 rfl rfl 0 (by decide) fl_X6_27 rfl dX6_tops_83 ?_
    refine z_iload_n G dX6_tops_86 rfl 1 rfl ?_
    refine z_iload_n G dX6_tops_87 rfl 2 rfl ?_
    refine z_iand G dX6_tops_88 ?_
    refine z_i2l G dX6_tops_89 ?_
    obtain ⟨r3, e3, h⟩ := obind h
    refine z_kV (As := [.long ((x1 &&& x2).toInt64)]) (rest := []) (st' := []) (ws' := (w_Stnr cI cJ cZ cN ta na ra t_text t_guide t_acts t_past t_trial t_kept t_filled n_narrower n_order n_items n_names n_owners n_moving n_all n_size n_nameCount r3.1 r3.2)) G pk_X4_add pv_X4_add ml_X6_116 (c_X4_add (ta := ra) (t_numbers := r1.1) (t_size := r1.2) (p1 := (x1 &&& x2).toInt64) e3) ⟨rfl, rfl⟩ ⟨Nat.le_of_ble_eq_true rfl, Nat.le_of_ble_eq_true rfl⟩ ⟨Nat.zero_le _, Nat.zero_le _⟩ rfl rfl (Nat.le_of_ble_eq_true rfl) 10 4 rfl rfl rfl [10, 11] rfl rfl [none, none, none, none, none, none, none, none, none, none, some 0, some 1] rfl rfl rfl rfl dX6_tops_90 (fun z4 => ?_)
    refine z_iload_n G dX6_tops_93 rfl 1 rfl ?_
    obtain rfl := Option.some.inj h
    exact z_iret G rfl dX6_tops_94 rfl trivial rfl
  · refine z_aload_n G dX6_tops_17 rfl 0 rfl ?_
    refine z_get (ci := 6) (v := .ref (na 0)) G in_X6 0 rfl rfl 8 (by decide) fl_X6_55 rfl dX6_tops_18 ?_
    refine z_get (ci := 2) (v := .ref (na 2)) G in_X2 3 rfl rfl 1 (by decide) fl_X6_164 rfl dX6_tops_21 ?_
    refine z_iload_n G dX6_tops_24 rfl 3 rfl ?_
    refine z_iaload G 5 0 rfl rfl dX6_tops_25 h (fun h => ?_)
    refine z_istore (lv' := [(0, .ref (ta 0)), (1, .int x1), (2, .int x2), (3, .int x3), (4, .int (n_order (ix x3)))]) G dX6_tops_26 (by decide) [1, 2, 3, 4, 0] rfl ?_
    refine z_aload_n G dX6_tops_28 rfl 0 rfl ?_
    refine z_get (ci := 6) (v := .ref (na 0)) G in_X6 0 rfl rfl 8 (by decide) fl_X6_55 rfl dX6_tops_29 ?_
    refine z_iload G dX6_tops_32 4 rfl ?_
    obtain ⟨r5, e5, h⟩ := obind h
    refine z_kR (As := [.int (n_order (ix x3))]) (rest := []) (st' := [.int r5]) G pk_X2_broaderOf pv_X2_broaderOf ml_X6_182 (c_X2_broaderOf (ta := na) (t_narrower := n_narrower) (t_order := n_order) (t_items := n_items) (t_names := n_names) (t_owners := n_owners) (t_moving := n_moving) (t_all := n_all) (t_size := n_size) (t_nameCount := n_nameCount) (p1 := n_order (ix x3)) e5) ⟨rfl, rfl⟩ ⟨Nat.le_of_ble_eq_true rfl, Nat.le_of_ble_eq_true rfl⟩ ⟨Nat.zero_le _, Nat.zero_le _⟩ rfl rfl (Nat.le_of_ble_eq_true rfl) 3 2 rfl rfl rfl [3, 4, 5, 6, 7, 8, 9] rfl rfl rfl dX6_tops_34 (fun z6 => ?_)
    refine z_if_ne (tgt := 47) G dX6_tops_37 (by decide) h (fun h => ?_) (fun h => ?_)
    · exact zb_X6_tops_47 G hr6 x1 x2 x3 (n_order (ix x3)) h
    · refine z_iload_n G dX6_tops_40 rfl 1 rfl ?_
      refine z_iconst (v := 1) G dX6_tops_41 (by decide) ?_
      refine z_iload G dX6_tops_42 4 rfl ?_
      refine z_ishl G dX6_tops_44 ?_
      refine z_ior G dX6_tops_45 ?_
      refine z_istore_n (lv' := [(0, .ref (ta 0)), (1, .int (x1 ||| (jshl 1 (n_order (ix x3))))), (2, .int x2), (3, .int x3), (4, .int (n_order (ix x3)))]) G dX6_tops_46 rfl (by decide) [1, 0, 2, 3, 4] rfl ?_
      exact zb_X6_tops_47 G hr6 (x1 ||| (jshl 1 (n_order (ix x3)))) x2 x3 (n_order (ix x3)) h
noncomputable def f_X6_tops_l6 (n_narrower : Nat → Int32) (n_order : Nat → Int32) (n_size : Int32) (r_numbers : Nat → Int64) (r_size : Int32)  (x1 : Int32) (x2 : Int32) (x3 : Int32) : Option (Int32 × (Nat → Int64) × Int32) := loopN (V := Int32 × Int32 × Int32) (fun rc v => f_X6_tops_b6 n_narrower n_order n_size r_numbers r_size  (fun x0_ x1_ x2_ => rc (x0_, x1_, x2_)) v.1 v.2.1 v.2.2) 200 (x1, x2, x3)
set_option maxRecDepth 100000 in
set_option maxHeartbeats 4000000 in
theorem zl_X6_tops_6 {p : Program} {l : Launch} {e : Env} {s : State} {m : MethodId} {args : Array Value} {below : List Frame} {meth : Method} {c : Code} {A : Nat → Prop} {dC : Nat → ClassId} {dI : Nat → Nat → Nat} {cI cJ cZ cN : ClassId} {ta : Nat → Nat} {na : Nat → Nat} {ra : Nat → Nat} {t_text : Nat} {t_guide : Nat} {t_acts : Nat} {t_past : Nat} {t_trial : Nat} {t_kept : Nat → Nat} {t_filled : Nat → Int32} {n_narrower : Nat → Int32} {n_order : Nat → Int32} {n_items : Nat → Int64} {n_names : Nat → Int32} {n_owners : Nat → Int32} {n_moving : Nat → Int32} {n_all : Int32} {n_size : Int32} {n_nameCount : Int32} {r_numbers : Nat → Int64} {r_size : Int32}  {res : Int32 × (Nat → Int64) × Int32} (G : zG p m c cX6_tops 5 s args RX6 (dC, dI) vwCl (zT cI cJ cZ cN) A meth (some .int))  : ∀ (x1 : Int32) (x2 : Int32) (x3 : Int32), f_X6_tops_l6 n_narrower n_order n_size r_numbers r_size  x1 x2 x3 = some res → Z p l e ({ frames := 2, cells := 0, slots := 0, locals := 44 }) s m args below meth c (dC, dI) vwCl A 5 0 0 (MQ below (zQ (some (.int res.1)) (True) (w_Stnr cI cJ cZ cN ta na ra t_text t_guide t_acts t_past t_trial t_kept t_filled n_narrower n_order n_items n_names n_owners n_moving n_all n_size n_nameCount res.2.1 res.2.2) (dC, dI) vwCl A) args s 0 0 A) (w_Stnr cI cJ cZ cN ta na ra t_text t_guide t_acts t_past t_trial t_kept t_filled n_narrower n_order n_items n_names n_owners n_moving n_all n_size n_nameCount r_numbers r_size) [(0, .ref (ta 0)), (1, .int x1), (2, .int x2), (3, .int x3)] [] 6 := by
  intro x1 x2 x3 h
  exact zloop (P := fun v => Z p l e ({ frames := 2, cells := 0, slots := 0, locals := 44 }) s m args below meth c (dC, dI) vwCl A 5 0 0 (MQ below (zQ (some (.int res.1)) (True) (w_Stnr cI cJ cZ cN ta na ra t_text t_guide t_acts t_past t_trial t_kept t_filled n_narrower n_order n_items n_names n_owners n_moving n_all n_size n_nameCount res.2.1 res.2.2) (dC, dI) vwCl A) args s 0 0 A) (w_Stnr cI cJ cZ cN ta na ra t_text t_guide t_acts t_past t_trial t_kept t_filled n_narrower n_order n_items n_names n_owners n_moving n_all n_size n_nameCount r_numbers r_size) [(0, .ref (ta 0)), (1, .int v.1), (2, .int v.2.1), (3, .int v.2.2)] [] 6) (fun rc hr v h => zb_X6_tops_6 G  (fun x0_ x1_ x2_ h => hr (x0_, x1_, x2_) h) v.1 v.2.1 v.2.2 h) 200 (x1, x2, x3) h
noncomputable def f_X6_tops (n_narrower : Nat → Int32) (n_order : Nat → Int32) (n_size : Int32) (r_numbers : Nat → Int64) (r_size : Int32) : Option (Int32 × (Nat → Int64) × Int32) :=
  f_X6_tops_l6 n_narrower n_order n_size r_numbers r_size  0 0 0
set_option maxRecDepth 100000 in
set_option maxHeartbeats 4000000 in
theorem c_X6_tops {l : Launch} {dC : Nat → ClassId} {dI : Nat → Nat → Nat} {cI cJ cZ cN : ClassId} {ta : Nat → Nat} {na : Nat → Nat} {ra : Nat → Nat} {t_text : Nat} {t_guide : Nat} {t_acts : Nat} {t_past : Nat} {t_trial : Nat} {t_kept : Nat → Nat} {t_filled : Nat → Int32} {n_narrower : Nat → Int32} {n_order : Nat → Int32} {n_items : Nat → Int64} {n_names : Nat → Int32} {n_owners : Nat → Int32} {n_moving : Nat → Int32} {n_all : Int32} {n_size : Int32} {n_nameCount : Int32} {r_numbers : Nat → Int64} {r_size : Int32}  {res : Int32 × (Nat → Int64) × Int32} (h : f_X6_tops n_narrower n_order n_size r_numbers r_size = some res) : zM l yX6_tops cX6_tops 5 (some .int) ({ frames := 2, cells := 0, slots := 0, locals := 44 }) [.ref (ta 0)] (dC, dI) vwCl (zT cI cJ cZ cN) (w_Stnr cI cJ cZ cN ta na ra t_text t_guide t_acts t_past t_trial t_kept t_filled n_narrower n_order n_items n_names n_owners n_moving n_all n_size n_nameCount r_numbers r_size) (some (.int res.1)) (True) (w_Stnr cI cJ cZ cN ta na ra t_text t_guide t_acts t_past t_trial t_kept t_filled n_narrower n_order n_items n_names n_owners n_moving n_all n_size n_nameCount res.2.1 res.2.2) := by
  refine zM_of (own := RX6) (by decide) rfl [(0, .ref (ta 0))] (Nat.le_of_ble_eq_true rfl) rfl ?_
  intro p e s m args below meth c A G _
  unfold f_X6_tops at h
  refine z_iconst (v := 0) G dX6_tops_0 (by decide) ?_
  refine z_istore_n (lv' := [(0, .ref (ta 0)), (1, .int 0)]) G dX6_tops_1 rfl (by decide) [1, 0] rfl ?_
  refine z_iconst (v := 0) G dX6_tops_2 (by decide) ?_
  refine z_istore_n (lv' := [(0, .ref (ta 0)), (1, .int 0), (2, .int 0)]) G dX6_tops_3 rfl (by decide) [1, 2, 0] rfl ?_
  refine z_iconst (v := 0) G dX6_tops_4 (by decide) ?_
  refine z_istore_n (lv' := [(0, .ref (ta 0)), (1, .int 0), (2, .int 0), (3, .int 0)]) G dX6_tops_5 rfl (by decide) [1, 2, 3, 0] rfl ?_
  exact zl_X6_tops_6 G  0 0 0 h

noncomputable def f_X6_needless_b26 (n_narrower : Nat → Int32) (n_order : Nat → Int32) (n_size : Int32) (k9 : Int32 → (Nat → Int64) → Int32 → Option (Int32 × (Nat → Int64) × Int32)) (k26 : Int32 → Int32 → Int32 → (Nat → Int64) → Int32 → Option (Int32 × (Nat → Int64) × Int32)) (x1 : Int32) (x2 : Int32) (x3 : Int32) (r_numbers : Nat → Int64) (r_size : Int32) : Option (Int32 × (Nat → Int64) × Int32) :=
  if 24 ≤ x3 then k9 (x1 + 1) r_numbers r_size else if (f_X6_holds x2 x3) = 0 then k26 x1 x2 (x3 + 1) r_numbers r_size else (f_X4_add r_numbers r_size (((100 * x1) + x3).toInt64)).bind (fun r5 => k26 x1 x2 (x3 + 1) r5.1 r5.2)
set_option maxRecDepth 100000 in
set_option maxHeartbeats 4000000 in
theorem zb_X6_needless_26 {p : Program} {l : Launch} {e : Env} {s : State} {m : MethodId} {args : Array Value} {below : List Frame} {meth : Method} {c : Code} {A : Nat → Prop} {dC : Nat → ClassId} {dI : Nat → Nat → Nat} {cI cJ cZ cN : ClassId} {ta : Nat → Nat} {na : Nat → Nat} {ra : Nat → Nat} {t_text : Nat} {t_guide : Nat} {t_acts : Nat} {t_past : Nat} {t_trial : Nat} {t_kept : Nat → Nat} {t_filled : Nat → Int32} {n_narrower : Nat → Int32} {n_order : Nat → Int32} {n_items : Nat → Int64} {n_names : Nat → Int32} {n_owners : Nat → Int32} {n_moving : Nat → Int32} {n_all : Int32} {n_size : Int32} {n_nameCount : Int32}  {res : Int32 × (Nat → Int64) × Int32} (G : zG p m c cX6_needless 4 s args RX6 (dC, dI) vwCl (zT cI cJ cZ cN) A meth (some .int)) {k9 : Int32 → (Nat → Int64) → Int32 → Option (Int32 × (Nat → Int64) × Int32)} (hr9 : ∀ (x1 : Int32) (r_numbers : Nat → Int64) (r_size : Int32), k9 x1 r_numbers r_size = some res → Z p l e ({ frames := 3, cells := 0, slots := 0, locals := 67 }) s m args below meth c (dC, dI) vwCl A 4 0 0 (MQ below (zQ (some (.int res.1)) (True) (w_Stnr cI cJ cZ cN ta na ra t_text t_guide t_acts t_past t_trial t_kept t_filled n_narrower n_order n_items n_names n_owners n_moving n_all n_size n_nameCount res.2.1 res.2.2) (dC, dI) vwCl A) args s 0 0 A) (w_Stnr cI cJ cZ cN ta na ra t_text t_guide t_acts t_past t_trial t_kept t_filled n_narrower n_order n_items n_names n_owners n_moving n_all n_size n_nameCount r_numbers r_size) [(0, .ref (ta 0)), (1, .int x1)] [] 9) {k26 : Int32 → Int32 → Int32 → (Nat → Int64) → Int32 → Option (Int32 × (Nat → Int64) × Int32)} (hr26 : ∀ (x1 : Int32) (x2 : Int32) (x3 : Int32) (r_numbers : Nat → Int64) (r_size : Int32), k26 x1 x2 x3 r_numbers r_size = some res → Z p l e ({ frames := 3, cells := 0, slots := 0, locals := 67 }) s m args below meth c (dC, dI) vwCl A 4 0 0 (MQ below (zQ (some (.int res.1)) (True) (w_Stnr cI cJ cZ cN ta na ra t_text t_guide t_acts t_past t_trial t_kept t_filled n_narrower n_order n_items n_names n_owners n_moving n_all n_size n_nameCount res.2.1 res.2.2) (dC, dI) vwCl A) args s 0 0 A) (w_Stnr cI cJ cZ cN ta na ra t_text t_guide t_acts t_past t_trial t_kept t_filled n_narrower n_order n_items n_names n_owners n_moving n_all n_size n_nameCount r_numbers r_size) [(0, .ref (ta 0)), (1, .int x1), (2, .int x2), (3, .int x3)] [] 26) : ∀ (x1 : Int32) (x2 : Int32) (x3 : Int32) (r_numbers : Nat → Int64) (r_size : Int32), f_X6_needless_b26 n_narrower n_order n_size k9 k26 x1 x2 x3 r_numbers r_size = some res → Z p l e ({ frames := 3, cells := 0, slots := 0, locals := 67 }) s m args below meth c (dC, dI) vwCl A 4 0 0 (MQ below (zQ (some (.int res.1)) (True) (w_Stnr cI cJ cZ cN ta na ra t_text t_guide t_acts t_past t_trial t_kept t_filled n_narrower n_order n_items n_names n_owners n_moving n_all n_size n_nameCount res.2.1 res.2.2) (dC, dI) vwCl A) args s 0 0 A) (w_Stnr cI cJ cZ cN ta na ra t_text t_guide t_acts t_past t_trial t_kept t_filled n_narrower n_order n_items n_names n_owners n_moving n_all n_size n_nameCount r_numbers r_size) [(0, .ref (ta 0)), (1, .int x1), (2, .int x2), (3, .int x3)] [] 26 := by
  intro x1 x2 x3 r_numbers r_size h
  unfold f_X6_needless_b26 at h
  refine z_iload_n G dX6_needless_26 rfl 3 rfl ?_
  refine z_bipush (v := 24) G dX6_needless_27 (by decide) ?_
  refine z_icmp_ge (tgt := 60) G dX6_needless_29 (by decide) h (fun h => ?_) (fun h => ?_)
  · refine z_iinc (v := x1 + 1) (lv' := [(0, .ref (ta 0)), (1, .int (x1 + 1)), (2, .int x2), (3, .int x3)]) G dX6_needless_60 1 rfl rfl (by decide) [1, 0, 2, 3] rfl ?_
    refine z_goto (tgt := 9) G dX6_needless_63 (by decide) ?_
    refine z_lv [0, 1] rfl ?_
    exact hr9 (x1 + 1) r_numbers r_size h
  · refine z_iload_n G dX6_needless_32 rfl 2 rfl ?_
    refine z_iload_n G dX6_needless_33 rfl 3 rfl ?_
    refine z_kS (As := [.int x2, .int x3]) (rest := []) (st' := [.int (f_X6_holds x2 x3)]) G pk_X6_holds ps_X6_holds ml_X6_216 (c_X6_holds (p0 := x2) (p1 := x3) rfl) ⟨rfl, rfl⟩ ⟨Nat.le_of_ble_eq_true rfl, Nat.le_of_ble_eq_true rfl⟩ ⟨Nat.zero_le _, Nat.zero_le _⟩ rfl rfl (Nat.le_of_ble_eq_true rfl) rfl dX6_needless_34 (fun z4 => ?_)
    refine z_if_eq (tgt := 54) G dX6_needless_37 (by decide) h (fun h => ?_) (fun h => ?_)
    · refine z_iinc (v := x3 + 1) (lv' := [(0, .ref (ta 0)), (1, .int x1), (2, .int x2), (3, .int (x3 + 1))]) G dX6_needless_54 3 rfl rfl (by decide) [1, 2, 3, 0] rfl ?_
      refine z_goto (tgt := 26) G dX6_needless_57 (by decide) ?_
      exact hr26 x1 x2 (x3 + 1) r_numbers r_size h
    · refine z_aload_n G dX6_needless_40 rfl 0 rfl ?_
      refine z_get (ci := 6) (v := .ref (ra 0)) G in_X6 0 rfl rfl 0 (by decide) fl_X6_27 rfl dX6_needless_41 ?_
      refine z_bipush (v := 100) G dX6_needless_44 (by decide) ?_
      refine z_iload_n G dX6_needless_46 rfl 1 rfl ?_
      refine z_imul G dX6_needless_47 ?_
      refine z_iload_n G dX6_needless_48 rfl 3 rfl ?_
      refine z_iadd G dX6_needless_49 ?_
      refine z_i2l G dX6_needless_50 ?_
      obtain ⟨r5, e5, h⟩ := obind h
      refine z_kV (As := [.long (((100 * x1) + x3).toInt64)]) (rest := []) (st' := []) (ws' := (w_Stnr cI cJ cZ cN ta na ra t_text t_guide t_acts t_past t_trial t_kept t_filled n_narrower n_order n_items n_names n_owners n_moving n_all n_size n_nameCount r5.1 r5.2)) G pk_X4_add pv_X4_add ml_X6_116 (c_X4_add (ta := ra) (t_numbers := r_numbers) (t_size := r_size) (p1 := ((100 * x1) + x3).toInt64) e5) ⟨rfl, rfl⟩ ⟨Nat.le_of_ble_eq_true rfl, Nat.le_of_ble_eq_true rfl⟩ ⟨Nat.zero_le _, Nat.zero_le _⟩ rfl rfl (Nat.le_of_ble_eq_true rfl) 10 4 rfl rfl rfl [10, 11] rfl rfl [none, none, none, none, none, none, none, none, none, none, some 0, some 1] rfl rfl rfl rfl dX6_needless_51 (fun z6 => ?_)
      refine z_iinc (v := x3 + 1) (lv' := [(0, .ref (ta 0)), (1, .int x1), (2, .int x2), (3, .int (x3 + 1))]) G dX6_needless_54 3 rfl rfl (by decide) [1, 2, 3, 0] rfl ?_
      refine z_goto (tgt := 26) G dX6_needless_57 (by decide) ?_
      exact hr26 x1 x2 (x3 + 1) r5.1 r5.2 h
noncomputable def f_X6_needless_l26 (n_narrower : Nat → Int32) (n_order : Nat → Int32) (n_size : Int32) (k9 : Int32 → (Nat → Int64) → Int32 → Option (Int32 × (Nat → Int64) × Int32)) (x1 : Int32) (x2 : Int32) (x3 : Int32) (r_numbers : Nat → Int64) (r_size : Int32) : Option (Int32 × (Nat → Int64) × Int32) := loopN (V := Int32 × Int32 × Int32 × (Nat → Int64) × Int32) (fun rc v => f_X6_needless_b26 n_narrower n_order n_size k9 (fun x0_ x1_ x2_ x3_ x4_ => rc (x0_, x1_, x2_, x3_, x4_)) v.1 v.2.1 v.2.2.1 v.2.2.2.1 v.2.2.2.2) 200 (x1, x2, x3, r_numbers, r_size)
set_option maxRecDepth 100000 in
set_option maxHeartbeats 4000000 in
theorem zl_X6_needless_26 {p : Program} {l : Launch} {e : Env} {s : State} {m : MethodId} {args : Array Value} {below : List Frame} {meth : Method} {c : Code} {A : Nat → Prop} {dC : Nat → ClassId} {dI : Nat → Nat → Nat} {cI cJ cZ cN : ClassId} {ta : Nat → Nat} {na : Nat → Nat} {ra : Nat → Nat} {t_text : Nat} {t_guide : Nat} {t_acts : Nat} {t_past : Nat} {t_trial : Nat} {t_kept : Nat → Nat} {t_filled : Nat → Int32} {n_narrower : Nat → Int32} {n_order : Nat → Int32} {n_items : Nat → Int64} {n_names : Nat → Int32} {n_owners : Nat → Int32} {n_moving : Nat → Int32} {n_all : Int32} {n_size : Int32} {n_nameCount : Int32}  {res : Int32 × (Nat → Int64) × Int32} (G : zG p m c cX6_needless 4 s args RX6 (dC, dI) vwCl (zT cI cJ cZ cN) A meth (some .int)) {k9 : Int32 → (Nat → Int64) → Int32 → Option (Int32 × (Nat → Int64) × Int32)} (hr9 : ∀ (x1 : Int32) (r_numbers : Nat → Int64) (r_size : Int32), k9 x1 r_numbers r_size = some res → Z p l e ({ frames := 3, cells := 0, slots := 0, locals := 67 }) s m args below meth c (dC, dI) vwCl A 4 0 0 (MQ below (zQ (some (.int res.1)) (True) (w_Stnr cI cJ cZ cN ta na ra t_text t_guide t_acts t_past t_trial t_kept t_filled n_narrower n_order n_items n_names n_owners n_moving n_all n_size n_nameCount res.2.1 res.2.2) (dC, dI) vwCl A) args s 0 0 A) (w_Stnr cI cJ cZ cN ta na ra t_text t_guide t_acts t_past t_trial t_kept t_filled n_narrower n_order n_items n_names n_owners n_moving n_all n_size n_nameCount r_numbers r_size) [(0, .ref (ta 0)), (1, .int x1)] [] 9) : ∀ (x1 : Int32) (x2 : Int32) (x3 : Int32) (r_numbers : Nat → Int64) (r_size : Int32), f_X6_needless_l26 n_narrower n_order n_size k9 x1 x2 x3 r_numbers r_size = some res → Z p l e ({ frames := 3, cells := 0, slots := 0, locals := 67 }) s m args below meth c (dC, dI) vwCl A 4 0 0 (MQ below (zQ (some (.int res.1)) (True) (w_Stnr cI cJ cZ cN ta na ra t_text t_guide t_acts t_past t_trial t_kept t_filled n_narrower n_order n_items n_names n_owners n_moving n_all n_size n_nameCount res.2.1 res.2.2) (dC, dI) vwCl A) args s 0 0 A) (w_Stnr cI cJ cZ cN ta na ra t_text t_guide t_acts t_past t_trial t_kept t_filled n_narrower n_order n_items n_names n_owners n_moving n_all n_size n_nameCount r_numbers r_size) [(0, .ref (ta 0)), (1, .int x1), (2, .int x2), (3, .int x3)] [] 26 := by
  intro x1 x2 x3 r_numbers r_size h
  exact zloop (P := fun v => Z p l e ({ frames := 3, cells := 0, slots := 0, locals := 67 }) s m args below meth c (dC, dI) vwCl A 4 0 0 (MQ below (zQ (some (.int res.1)) (True) (w_Stnr cI cJ cZ cN ta na ra t_text t_guide t_acts t_past t_trial t_kept t_filled n_narrower n_order n_items n_names n_owners n_moving n_all n_size n_nameCount res.2.1 res.2.2) (dC, dI) vwCl A) args s 0 0 A) (w_Stnr cI cJ cZ cN ta na ra t_text t_guide t_acts t_past t_trial t_kept t_filled n_narrower n_order n_items n_names n_owners n_moving n_all n_size n_nameCount v.2.2.2.1 v.2.2.2.2) [(0, .ref (ta 0)), (1, .int v.1), (2, .int v.2.1), (3, .int v.2.2.1)] [] 26) (fun rc hr v h => zb_X6_needless_26 G hr9 (fun x0_ x1_ x2_ x3_ x4_ h => hr (x0_, x1_, x2_, x3_, x4_) h) v.1 v.2.1 v.2.2.1 v.2.2.2.1 v.2.2.2.2 h) 200 (x1, x2, x3, r_numbers, r_size) h
noncomputable def f_X6_needless_b9 (n_narrower : Nat → Int32) (n_order : Nat → Int32) (n_size : Int32) (k9 : Int32 → (Nat → Int64) → Int32 → Option (Int32 × (Nat → Int64) × Int32)) (x1 : Int32) (r_numbers : Nat → Int64) (r_size : Int32) : Option (Int32 × (Nat → Int64) × Int32) :=
  if 24 ≤ x1 then some (r_size, r_numbers, r_size) else (f_X2_needlessFrom n_narrower n_order n_size x1).bind (fun r2 => f_X6_needless_l26 n_narrower n_order n_size k9 x1 r2 0 r_numbers r_size)
set_option maxRecDepth 100000 in
set_option maxHeartbeats 4000000 in
theorem zb_X6_needless_9 {p : Program} {l : Launch} {e : Env} {s : State} {m : MethodId} {args : Array Value} {below : List Frame} {meth : Method} {c : Code} {A : Nat → Prop} {dC : Nat → ClassId} {dI : Nat → Nat → Nat} {cI cJ cZ cN : ClassId} {ta : Nat → Nat} {na : Nat → Nat} {ra : Nat → Nat} {t_text : Nat} {t_guide : Nat} {t_acts : Nat} {t_past : Nat} {t_trial : Nat} {t_kept : Nat → Nat} {t_filled : Nat → Int32} {n_narrower : Nat → Int32} {n_order : Nat → Int32} {n_items : Nat → Int64} {n_names : Nat → Int32} {n_owners : Nat → Int32} {n_moving : Nat → Int32} {n_all : Int32} {n_size : Int32} {n_nameCount : Int32}  {res : Int32 × (Nat → Int64) × Int32} (G : zG p m c cX6_needless 4 s args RX6 (dC, dI) vwCl (zT cI cJ cZ cN) A meth (some .int)) {k9 : Int32 → (Nat → Int64) → Int32 → Option (Int32 × (Nat → Int64) × Int32)} (hr9 : ∀ (x1 : Int32) (r_numbers : Nat → Int64) (r_size : Int32), k9 x1 r_numbers r_size = some res → Z p l e ({ frames := 3, cells := 0, slots := 0, locals := 67 }) s m args below meth c (dC, dI) vwCl A 4 0 0 (MQ below (zQ (some (.int res.1)) (True) (w_Stnr cI cJ cZ cN ta na ra t_text t_guide t_acts t_past t_trial t_kept t_filled n_narrower n_order n_items n_names n_owners n_moving n_all n_size n_nameCount res.2.1 res.2.2) (dC, dI) vwCl A) args s 0 0 A) (w_Stnr cI cJ cZ cN ta na ra t_text t_guide t_acts t_past t_trial t_kept t_filled n_narrower n_order n_items n_names n_owners n_moving n_all n_size n_nameCount r_numbers r_size) [(0, .ref (ta 0)), (1, .int x1)] [] 9) : ∀ (x1 : Int32) (r_numbers : Nat → Int64) (r_size : Int32), f_X6_needless_b9 n_narrower n_order n_size k9 x1 r_numbers r_size = some res → Z p l e ({ frames := 3, cells := 0, slots := 0, locals := 67 }) s m args below meth c (dC, dI) vwCl A 4 0 0 (MQ below (zQ (some (.int res.1)) (True) (w_Stnr cI cJ cZ cN ta na ra t_text t_guide t_acts t_past t_trial t_kept t_filled n_narrower n_order n_items n_names n_owners n_moving n_all n_size n_nameCount res.2.1 res.2.2) (dC, dI) vwCl A) args s 0 0 A) (w_Stnr cI cJ cZ cN ta na ra t_text t_guide t_acts t_past t_trial t_kept t_filled n_narrower n_order n_items n_names n_owners n_moving n_all n_size n_nameCount r_numbers r_size) [(0, .ref (ta 0)), (1, .int x1)] [] 9 := by
  intro x1 r_numbers r_size h
  unfold f_X6_needless_b9 at h
  refine z_iload_n G dX6_needless_9 rfl 1 rfl ?_
  refine z_bipush (v := 24) G dX6_needless_10 (by decide) ?_
  refine z_icmp_ge (tgt := 66) G dX6_needless_12 (by decide) h (fun h => ?_) (fun h => ?_)
  · refine z_aload_n G dX6_needless_66 rfl 0 rfl ?_
    refine z_get (ci := 6) (v := .ref (ra 0)) G in_X6 0 rfl rfl 0 (by decide) fl_X6_27 rfl dX6_needless_67 ?_
    refine z_get (ci := 4) (v := .int r_size) G in_X4 10 rfl rfl 1 (by decide) fl_X6_120 rfl dX6_needless_70 ?_
    obtain rfl := Option.some.inj h
    exact z_iret G rfl dX6_needless_73 rfl trivial rfl
  · refine z_aload_n G dX6_needless_15 rfl 0 rfl ?_
    refine z_get (ci := 6) (v := .ref (na 0)) G in_X6 0 rfl rfl 8 (by decide) fl_X6_55 rfl dX6_needless_16 ?_
    refine z_iload_n G dX6_needless_19 rfl 1 rfl ?_
    obtain ⟨r2, e2, h⟩ := obind h
    refine z_kR (As := [.int x1]) (rest := []) (st' := [.int r2]) G pk_X2_needlessFrom pv_X2_needlessFrom ml_X6_234 (c_X2_needlessFrom (ta := na) (t_narrower := n_narrower) (t_order := n_order) (t_items := n_items) (t_names := n_names) (t_owners := n_owners) (t_moving := n_moving) (t_all := n_all) (t_size := n_size) (t_nameCount := n_nameCount) (p1 := x1) e2) ⟨rfl, rfl⟩ ⟨Nat.le_of_ble_eq_true rfl, Nat.le_of_ble_eq_true rfl⟩ ⟨Nat.zero_le _, Nat.zero_le _⟩ rfl rfl (Nat.le_of_ble_eq_true rfl) 3 2 rfl rfl rfl [3, 4, 5, 6, 7, 8, 9] rfl rfl rfl dX6_needless_20 (fun z3 => ?_)
    refine z_istore_n (lv' := [(0, .ref (ta 0)), (1, .int x1), (2, .int r2)]) G dX6_needless_23 rfl (by decide) [1, 2, 0] rfl ?_
    refine z_iconst (v := 0) G dX6_needless_24 (by decide) ?_
    refine z_istore_n (lv' := [(0, .ref (ta 0)), (1, .int x1), (2, .int r2), (3, .int 0)]) G dX6_needless_25 rfl (by decide) [1, 2, 3, 0] rfl ?_
    exact zl_X6_needless_26 G hr9 x1 r2 0 r_numbers r_size h
noncomputable def f_X6_needless_l9 (n_narrower : Nat → Int32) (n_order : Nat → Int32) (n_size : Int32)  (x1 : Int32) (r_numbers : Nat → Int64) (r_size : Int32) : Option (Int32 × (Nat → Int64) × Int32) := loopN (V := Int32 × (Nat → Int64) × Int32) (fun rc v => f_X6_needless_b9 n_narrower n_order n_size  (fun x0_ x1_ x2_ => rc (x0_, x1_, x2_)) v.1 v.2.1 v.2.2) 200 (x1, r_numbers, r_size)
set_option maxRecDepth 100000 in
set_option maxHeartbeats 4000000 in
theorem zl_X6_needless_9 {p : Program} {l : Launch} {e : Env} {s : State} {m : MethodId} {args : Array Value} {below : List Frame} {meth : Method} {c : Code} {A : Nat → Prop} {dC : Nat → ClassId} {dI : Nat → Nat → Nat} {cI cJ cZ cN : ClassId} {ta : Nat → Nat} {na : Nat → Nat} {ra : Nat → Nat} {t_text : Nat} {t_guide : Nat} {t_acts : Nat} {t_past : Nat} {t_trial : Nat} {t_kept : Nat → Nat} {t_filled : Nat → Int32} {n_narrower : Nat → Int32} {n_order : Nat → Int32} {n_items : Nat → Int64} {n_names : Nat → Int32} {n_owners : Nat → Int32} {n_moving : Nat → Int32} {n_all : Int32} {n_size : Int32} {n_nameCount : Int32}  {res : Int32 × (Nat → Int64) × Int32} (G : zG p m c cX6_needless 4 s args RX6 (dC, dI) vwCl (zT cI cJ cZ cN) A meth (some .int))  : ∀ (x1 : Int32) (r_numbers : Nat → Int64) (r_size : Int32), f_X6_needless_l9 n_narrower n_order n_size  x1 r_numbers r_size = some res → Z p l e ({ frames := 3, cells := 0, slots := 0, locals := 67 }) s m args below meth c (dC, dI) vwCl A 4 0 0 (MQ below (zQ (some (.int res.1)) (True) (w_Stnr cI cJ cZ cN ta na ra t_text t_guide t_acts t_past t_trial t_kept t_filled n_narrower n_order n_items n_names n_owners n_moving n_all n_size n_nameCount res.2.1 res.2.2) (dC, dI) vwCl A) args s 0 0 A) (w_Stnr cI cJ cZ cN ta na ra t_text t_guide t_acts t_past t_trial t_kept t_filled n_narrower n_order n_items n_names n_owners n_moving n_all n_size n_nameCount r_numbers r_size) [(0, .ref (ta 0)), (1, .int x1)] [] 9 := by
  intro x1 r_numbers r_size h
  exact zloop (P := fun v => Z p l e ({ frames := 3, cells := 0, slots := 0, locals := 67 }) s m args below meth c (dC, dI) vwCl A 4 0 0 (MQ below (zQ (some (.int res.1)) (True) (w_Stnr cI cJ cZ cN ta na ra t_text t_guide t_acts t_past t_trial t_kept t_filled n_narrower n_order n_items n_names n_owners n_moving n_all n_size n_nameCount res.2.1 res.2.2) (dC, dI) vwCl A) args s 0 0 A) (w_Stnr cI cJ cZ cN ta na ra t_text t_guide t_acts t_past t_trial t_kept t_filled n_narrower n_order n_items n_names n_owners n_moving n_all n_size n_nameCount v.2.1 v.2.2) [(0, .ref (ta 0)), (1, .int v.1)] [] 9) (fun rc hr v h => zb_X6_needless_9 G  (fun x0_ x1_ x2_ h => hr (x0_, x1_, x2_) h) v.1 v.2.1 v.2.2 h) 200 (x1, r_numbers, r_size) h
noncomputable def f_X6_needless (n_narrower : Nat → Int32) (n_order : Nat → Int32) (n_size : Int32) (r_numbers : Nat → Int64) (r_size : Int32) : Option (Int32 × (Nat → Int64) × Int32) :=
  f_X6_needless_l9 n_narrower n_order n_size  0 r_numbers (f_X4_clear r_size)
set_option maxRecDepth 100000 in
set_option maxHeartbeats 4000000 in
theorem c_X6_needless {l : Launch} {dC : Nat → ClassId} {dI : Nat → Nat → Nat} {cI cJ cZ cN : ClassId} {ta : Nat → Nat} {na : Nat → Nat} {ra : Nat → Nat} {t_text : Nat} {t_guide : Nat} {t_acts : Nat} {t_past : Nat} {t_trial : Nat} {t_kept : Nat → Nat} {t_filled : Nat → Int32} {n_narrower : Nat → Int32} {n_order : Nat → Int32} {n_items : Nat → Int64} {n_names : Nat → Int32} {n_owners : Nat → Int32} {n_moving : Nat → Int32} {n_all : Int32} {n_size : Int32} {n_nameCount : Int32} {r_numbers : Nat → Int64} {r_size : Int32}  {res : Int32 × (Nat → Int64) × Int32} (h : f_X6_needless n_narrower n_order n_size r_numbers r_size = some res) : zM l yX6_needless cX6_needless 4 (some .int) ({ frames := 3, cells := 0, slots := 0, locals := 67 }) [.ref (ta 0)] (dC, dI) vwCl (zT cI cJ cZ cN) (w_Stnr cI cJ cZ cN ta na ra t_text t_guide t_acts t_past t_trial t_kept t_filled n_narrower n_order n_items n_names n_owners n_moving n_all n_size n_nameCount r_numbers r_size) (some (.int res.1)) (True) (w_Stnr cI cJ cZ cN ta na ra t_text t_guide t_acts t_past t_trial t_kept t_filled n_narrower n_order n_items n_names n_owners n_moving n_all n_size n_nameCount res.2.1 res.2.2) := by
  refine zM_of (own := RX6) (by decide) rfl [(0, .ref (ta 0))] (Nat.le_of_ble_eq_true rfl) rfl ?_
  intro p e s m args below meth c A G _
  unfold f_X6_needless at h
  refine z_aload_n G dX6_needless_0 rfl 0 rfl ?_
  refine z_get (ci := 6) (v := .ref (ra 0)) G in_X6 0 rfl rfl 0 (by decide) fl_X6_27 rfl dX6_needless_1 ?_
  refine z_kV (As := []) (rest := []) (st' := []) (ws' := (w_Stnr cI cJ cZ cN ta na ra t_text t_guide t_acts t_past t_trial t_kept t_filled n_narrower n_order n_items n_names n_owners n_moving n_all n_size n_nameCount r_numbers (f_X4_clear r_size))) G pk_X4_clear pv_X4_clear ml_X6_104 (c_X4_clear (ta := ra) (t_numbers := r_numbers) (t_size := r_size) rfl) ⟨rfl, rfl⟩ ⟨Nat.le_of_ble_eq_true rfl, Nat.le_of_ble_eq_true rfl⟩ ⟨Nat.zero_le _, Nat.zero_le _⟩ rfl rfl (Nat.le_of_ble_eq_true rfl) 10 4 rfl rfl rfl [10, 11] rfl rfl [none, none, none, none, none, none, none, none, none, none, some 0, some 1] rfl rfl rfl rfl dX6_needless_4 (fun z1 => ?_)
  refine z_iconst (v := 0) G dX6_needless_7 (by decide) ?_
  refine z_istore_n (lv' := [(0, .ref (ta 0)), (1, .int 0)]) G dX6_needless_8 rfl (by decide) [1, 0] rfl ?_
  exact zl_X6_needless_9 G  0 r_numbers (f_X4_clear r_size) h

noncomputable def f_X6_apart_b24 (n_narrower : Nat → Int32) (n_order : Nat → Int32) (n_all : Int32) (n_size : Int32) (r_numbers : Nat → Int64) (r_size : Int32) (p1 : Int32) (k24 : Int32 → Int32 → Option (Int32 × (Nat → Int64) × Int32)) (x2 : Int32) (x3 : Int32) : Option (Int32 × (Nat → Int64) × Int32) :=
  if 24 ≤ x3 then (f_X4_tell r_numbers r_size (x2.toInt64)).bind (fun r1 => if x2 = 0 then some (1, r1.1, r1.2) else some (0, r1.1, r1.2)) else if (f_X6_holds p1 x3) = 0 then k24 x2 (x3 + 1) else (f_X2_below n_narrower n_order n_size x3).bind (fun r4 => k24 (x2 + ((f_J6_bitCount_0f7a4 (r4 &&& p1)) - 1)) (x3 + 1))
set_option maxRecDepth 100000 in
set_option maxHeartbeats 4000000 in
theorem zb_X6_apart_24 {p : Program} {l : Launch} {e : Env} {s : State} {m : MethodId} {args : Array Value} {below : List Frame} {meth : Method} {c : Code} {A : Nat → Prop} {dC : Nat → ClassId} {dI : Nat → Nat → Nat} {cI cJ cZ cN : ClassId} {ta : Nat → Nat} {na : Nat → Nat} {ra : Nat → Nat} {t_text : Nat} {t_guide : Nat} {t_acts : Nat} {t_past : Nat} {t_trial : Nat} {t_kept : Nat → Nat} {t_filled : Nat → Int32} {n_narrower : Nat → Int32} {n_order : Nat → Int32} {n_items : Nat → Int64} {n_names : Nat → Int32} {n_owners : Nat → Int32} {n_moving : Nat → Int32} {n_all : Int32} {n_size : Int32} {n_nameCount : Int32} {r_numbers : Nat → Int64} {r_size : Int32} {p1 : Int32} {res : Int32 × (Nat → Int64) × Int32} (G : zG p m c cX6_apart 4 s args RX6 (dC, dI) vwCl (zT cI cJ cZ cN) A meth (some .int)) {k24 : Int32 → Int32 → Option (Int32 × (Nat → Int64) × Int32)} (hr24 : ∀ (x2 : Int32) (x3 : Int32), k24 x2 x3 = some res → Z p l e ({ frames := 2, cells := 0, slots := 0, locals := 44 }) s m args below meth c (dC, dI) vwCl A 4 0 0 (MQ below (zQ (some (.int res.1)) (True) (w_Stnr cI cJ cZ cN ta na ra t_text t_guide t_acts t_past t_trial t_kept t_filled n_narrower n_order n_items n_names n_owners n_moving n_all n_size n_nameCount res.2.1 res.2.2) (dC, dI) vwCl A) args s 0 0 A) (w_Stnr cI cJ cZ cN ta na ra t_text t_guide t_acts t_past t_trial t_kept t_filled n_narrower n_order n_items n_names n_owners n_moving n_all n_size n_nameCount r_numbers r_size) [(0, .ref (ta 0)), (1, .int p1), (2, .int x2), (3, .int x3)] [] 24) : ∀ (x2 : Int32) (x3 : Int32), f_X6_apart_b24 n_narrower n_order n_all n_size r_numbers r_size p1 k24 x2 x3 = some res → Z p l e ({ frames := 2, cells := 0, slots := 0, locals := 44 }) s m args below meth c (dC, dI) vwCl A 4 0 0 (MQ below (zQ (some (.int res.1)) (True) (w_Stnr cI cJ cZ cN ta na ra t_text t_guide t_acts t_past t_trial t_kept t_filled n_narrower n_order n_items n_names n_owners n_moving n_all n_size n_nameCount res.2.1 res.2.2) (dC, dI) vwCl A) args s 0 0 A) (w_Stnr cI cJ cZ cN ta na ra t_text t_guide t_acts t_past t_trial t_kept t_filled n_narrower n_order n_items n_names n_owners n_moving n_all n_size n_nameCount r_numbers r_size) [(0, .ref (ta 0)), (1, .int p1), (2, .int x2), (3, .int x3)] [] 24 := by
  intro x2 x3 h
  unfold f_X6_apart_b24 at h
  refine z_iload_n G dX6_apart_24 rfl 3 rfl ?_
  refine z_bipush (v := 24) G dX6_apart_25 (by decide) ?_
  refine z_icmp_ge (tgt := 62) G dX6_apart_27 (by decide) h (fun h => ?_) (fun h => ?_)
  · refine z_aload_n G dX6_apart_62 rfl 0 rfl ?_
    refine z_get (ci := 6) (v := .ref (ra 0)) G in_X6 0 rfl rfl 0 (by decide) fl_X6_27 rfl dX6_apart_63 ?_
    refine z_iload_n G dX6_apart_66 rfl 2 rfl ?_
    refine z_i2l G dX6_apart_67 ?_
    obtain ⟨r1, e1, h⟩ := obind h
    refine z_kV (As := [.long (x2.toInt64)]) (rest := []) (st' := []) (ws' := (w_Stnr cI cJ cZ cN ta na ra t_text t_guide t_acts t_past t_trial t_kept t_filled n_narrower n_order n_items n_names n_owners n_moving n_all n_size n_nameCount r1.1 r1.2)) G pk_X4_tell pv_X4_tell ml_X6_149 (c_X4_tell (ta := ra) (t_numbers := r_numbers) (t_size := r_size) (p1 := x2.toInt64) e1) ⟨rfl, rfl⟩ ⟨Nat.le_of_ble_eq_true rfl, Nat.le_of_ble_eq_true rfl⟩ ⟨Nat.zero_le _, Nat.zero_le _⟩ rfl rfl (Nat.le_of_ble_eq_true rfl) 10 4 rfl rfl rfl [10, 11] rfl rfl [none, none, none, none, none, none, none, none, none, none, some 0, some 1] rfl rfl rfl rfl dX6_apart_68 (fun z2 => ?_)
    refine z_iload_n G dX6_apart_71 rfl 2 rfl ?_
    refine z_if_ne (tgt := 79) G dX6_apart_72 (by decide) h (fun h => ?_) (fun h => ?_)
    · refine z_iconst (v := 0) G dX6_apart_79 (by decide) ?_
      obtain rfl := Option.some.inj h
      exact z_iret G rfl dX6_apart_80 rfl trivial rfl
    · refine z_iconst (v := 1) G dX6_apart_75 (by decide) ?_
      refine z_goto (tgt := 80) G dX6_apart_76 (by decide) ?_
      obtain rfl := Option.some.inj h
      exact z_iret G rfl dX6_apart_80 rfl trivial rfl
  · refine z_iload_n G dX6_apart_30 rfl 1 rfl ?_
    refine z_iload_n G dX6_apart_31 rfl 3 rfl ?_
    refine z_kS (As := [.int p1, .int x3]) (rest := []) (st' := [.int (f_X6_holds p1 x3)]) G pk_X6_holds ps_X6_holds ml_X6_216 (c_X6_holds (p0 := p1) (p1 := x3) rfl) ⟨rfl, rfl⟩ ⟨Nat.le_of_ble_eq_true rfl, Nat.le_of_ble_eq_true rfl⟩ ⟨Nat.zero_le _, Nat.zero_le _⟩ rfl rfl (Nat.le_of_ble_eq_true rfl) rfl dX6_apart_32 (fun z3 => ?_)
    refine z_if_eq (tgt := 56) G dX6_apart_35 (by decide) h (fun h => ?_) (fun h => ?_)
    · refine z_iinc (v := x3 + 1) (lv' := [(0, .ref (ta 0)), (1, .int p1), (2, .int x2), (3, .int (x3 + 1))]) G dX6_apart_56 3 rfl rfl (by decide) [1, 2, 3, 0] rfl ?_
      refine z_goto (tgt := 24) G dX6_apart_59 (by decide) ?_
      exact hr24 x2 (x3 + 1) h
    · refine z_iload_n G dX6_apart_38 rfl 2 rfl ?_
      refine z_aload_n G dX6_apart_39 rfl 0 rfl ?_
      refine z_get (ci := 6) (v := .ref (na 0)) G in_X6 0 rfl rfl 8 (by decide) fl_X6_55 rfl dX6_apart_40 ?_
      refine z_iload_n G dX6_apart_43 rfl 3 rfl ?_
      obtain ⟨r4, e4, h⟩ := obind h
      refine z_kR (As := [.int x3]) (rest := [.int x2]) (st' := [.int r4, .int x2]) G pk_X2_below pv_X2_below ml_X6_185 (c_X2_below (ta := na) (t_narrower := n_narrower) (t_order := n_order) (t_items := n_items) (t_names := n_names) (t_owners := n_owners) (t_moving := n_moving) (t_all := n_all) (t_size := n_size) (t_nameCount := n_nameCount) (p1 := x3) e4) ⟨rfl, rfl⟩ ⟨Nat.le_of_ble_eq_true rfl, Nat.le_of_ble_eq_true rfl⟩ ⟨Nat.zero_le _, Nat.zero_le _⟩ rfl rfl (Nat.le_of_ble_eq_true rfl) 3 2 rfl rfl rfl [3, 4, 5, 6, 7, 8, 9] rfl rfl rfl dX6_apart_44 (fun z5 => ?_)
      refine z_iload_n G dX6_apart_47 rfl 1 rfl ?_
      refine z_iand G dX6_apart_48 ?_
      refine z_kS (As := [.int (r4 &&& p1)]) (rest := [.int x2]) (st' := [.int (f_J6_bitCount_0f7a4 (r4 &&& p1)), .int x2]) G pk_J6_bitCount_0f7a4 ps_J6_bitCount_0f7a4 ml_X6_174 (c_J6_bitCount_0f7a4 (p0 := r4 &&& p1) rfl) ⟨rfl, rfl⟩ ⟨Nat.le_of_ble_eq_true rfl, Nat.le_of_ble_eq_true rfl⟩ ⟨Nat.zero_le _, Nat.zero_le _⟩ rfl rfl (Nat.le_of_ble_eq_true rfl) rfl dX6_apart_49 (fun z6 => ?_)
      refine z_iconst (v := 1) G dX6_apart_52 (by decide) ?_
      refine z_isub G dX6_apart_53 ?_
      refine z_iadd G dX6_apart_54 ?_
      refine z_istore_n (lv' := [(0, .ref (ta 0)), (1, .int p1), (2, .int (x2 + ((f_J6_bitCount_0f7a4 (r4 &&& p1)) - 1))), (3, .int x3)]) G dX6_apart_55 rfl (by decide) [1, 2, 0, 3] rfl ?_
      refine z_iinc (v := x3 + 1) (lv' := [(0, .ref (ta 0)), (1, .int p1), (2, .int (x2 + ((f_J6_bitCount_0f7a4 (r4 &&& p1)) - 1))), (3, .int (x3 + 1))]) G dX6_apart_56 3 rfl rfl (by decide) [1, 2, 3, 0] rfl ?_
      refine z_goto (tgt := 24) G dX6_apart_59 (by decide) ?_
      exact hr24 (x2 + ((f_J6_bitCount_0f7a4 (r4 &&& p1)) - 1)) (x3 + 1) h
noncomputable def f_X6_apart_l24 (n_narrower : Nat → Int32) (n_order : Nat → Int32) (n_all : Int32) (n_size : Int32) (r_numbers : Nat → Int64) (r_size : Int32) (p1 : Int32)  (x2 : Int32) (x3 : Int32) : Option (Int32 × (Nat → Int64) × Int32) := loopN (V := Int32 × Int32) (fun rc v => f_X6_apart_b24 n_narrower n_order n_all n_size r_numbers r_size p1  (fun x0_ x1_ => rc (x0_, x1_)) v.1 v.2) 200 (x2, x3)
set_option maxRecDepth 100000 in
set_option maxHeartbeats 4000000 in
theorem zl_X6_apart_24 {p : Program} {l : Launch} {e : Env} {s : State} {m : MethodId} {args : Array Value} {below : List Frame} {meth : Method} {c : Code} {A : Nat → Prop} {dC : Nat → ClassId} {dI : Nat → Nat → Nat} {cI cJ cZ cN : ClassId} {ta : Nat → Nat} {na : Nat → Nat} {ra : Nat → Nat} {t_text : Nat} {t_guide : Nat} {t_acts : Nat} {t_past : Nat} {t_trial : Nat} {t_kept : Nat → Nat} {t_filled : Nat → Int32} {n_narrower : Nat → Int32} {n_order : Nat → Int32} {n_items : Nat → Int64} {n_names : Nat → Int32} {n_owners : Nat → Int32} {n_moving : Nat → Int32} {n_all : Int32} {n_size : Int32} {n_nameCount : Int32} {r_numbers : Nat → Int64} {r_size : Int32} {p1 : Int32} {res : Int32 × (Nat → Int64) × Int32} (G : zG p m c cX6_apart 4 s args RX6 (dC, dI) vwCl (zT cI cJ cZ cN) A meth (some .int))  : ∀ (x2 : Int32) (x3 : Int32), f_X6_apart_l24 n_narrower n_order n_all n_size r_numbers r_size p1  x2 x3 = some res → Z p l e ({ frames := 2, cells := 0, slots := 0, locals := 44 }) s m args below meth c (dC, dI) vwCl A 4 0 0 (MQ below (zQ (some (.int res.1)) (True) (w_Stnr cI cJ cZ cN ta na ra t_text t_guide t_acts t_past t_trial t_kept t_filled n_narrower n_order n_items n_names n_owners n_moving n_all n_size n_nameCount res.2.1 res.2.2) (dC, dI) vwCl A) args s 0 0 A) (w_Stnr cI cJ cZ cN ta na ra t_text t_guide t_acts t_past t_trial t_kept t_filled n_narrower n_order n_items n_names n_owners n_moving n_all n_size n_nameCount r_numbers r_size) [(0, .ref (ta 0)), (1, .int p1), (2, .int x2), (3, .int x3)] [] 24 := by
  intro x2 x3 h
  exact zloop (P := fun v => Z p l e ({ frames := 2, cells := 0, slots := 0, locals := 44 }) s m args below meth c (dC, dI) vwCl A 4 0 0 (MQ below (zQ (some (.int res.1)) (True) (w_Stnr cI cJ cZ cN ta na ra t_text t_guide t_acts t_past t_trial t_kept t_filled n_narrower n_order n_items n_names n_owners n_moving n_all n_size n_nameCount res.2.1 res.2.2) (dC, dI) vwCl A) args s 0 0 A) (w_Stnr cI cJ cZ cN ta na ra t_text t_guide t_acts t_past t_trial t_kept t_filled n_narrower n_order n_items n_names n_owners n_moving n_all n_size n_nameCount r_numbers r_size) [(0, .ref (ta 0)), (1, .int p1), (2, .int v.1), (3, .int v.2)] [] 24) (fun rc hr v h => zb_X6_apart_24 G  (fun x0_ x1_ h => hr (x0_, x1_) h) v.1 v.2 h) 200 (x2, x3) h
noncomputable def f_X6_apart (n_narrower : Nat → Int32) (n_order : Nat → Int32) (n_all : Int32) (n_size : Int32) (r_numbers : Nat → Int64) (r_size : Int32) (p1 : Int32) : Option (Int32 × (Nat → Int64) × Int32) :=
  if p1 < 0 then some ((-1), r_numbers, r_size) else if (p1 &&& (n_all ^^^ (-1))) = 0 then f_X6_apart_l24 n_narrower n_order n_all n_size r_numbers r_size p1  0 0 else some ((-1), r_numbers, r_size)
set_option maxRecDepth 100000 in
set_option maxHeartbeats 4000000 in
theorem c_X6_apart {l : Launch} {dC : Nat → ClassId} {dI : Nat → Nat → Nat} {cI cJ cZ cN : ClassId} {ta : Nat → Nat} {na : Nat → Nat} {ra : Nat → Nat} {t_text : Nat} {t_guide : Nat} {t_acts : Nat} {t_past : Nat} {t_trial : Nat} {t_kept : Nat → Nat} {t_filled : Nat → Int32} {n_narrower : Nat → Int32} {n_order : Nat → Int32} {n_items : Nat → Int64} {n_names : Nat → Int32} {n_owners : Nat → Int32} {n_moving : Nat → Int32} {n_all : Int32} {n_size : Int32} {n_nameCount : Int32} {r_numbers : Nat → Int64} {r_size : Int32} {p1 : Int32} {res : Int32 × (Nat → Int64) × Int32} (h : f_X6_apart n_narrower n_order n_all n_size r_numbers r_size p1 = some res) : zM l yX6_apart cX6_apart 4 (some .int) ({ frames := 2, cells := 0, slots := 0, locals := 44 }) [.ref (ta 0), .int p1] (dC, dI) vwCl (zT cI cJ cZ cN) (w_Stnr cI cJ cZ cN ta na ra t_text t_guide t_acts t_past t_trial t_kept t_filled n_narrower n_order n_items n_names n_owners n_moving n_all n_size n_nameCount r_numbers r_size) (some (.int res.1)) (True) (w_Stnr cI cJ cZ cN ta na ra t_text t_guide t_acts t_past t_trial t_kept t_filled n_narrower n_order n_items n_names n_owners n_moving n_all n_size n_nameCount res.2.1 res.2.2) := by
  refine zM_of (own := RX6) (by decide) rfl [(0, .ref (ta 0)), (1, .int p1)] (Nat.le_of_ble_eq_true rfl) rfl ?_
  intro p e s m args below meth c A G _
  unfold f_X6_apart at h
  refine z_iload_n G dX6_apart_0 rfl 1 rfl ?_
  refine z_if_lt (tgt := 18) G dX6_apart_1 (by decide) h (fun h => ?_) (fun h => ?_)
  · refine z_iconst (v := (-1)) G dX6_apart_18 (by decide) ?_
    obtain rfl := Option.some.inj h
    exact z_iret G rfl dX6_apart_19 rfl trivial rfl
  · refine z_iload_n G dX6_apart_4 rfl 1 rfl ?_
    refine z_aload_n G dX6_apart_5 rfl 0 rfl ?_
    refine z_get (ci := 6) (v := .ref (na 0)) G in_X6 0 rfl rfl 8 (by decide) fl_X6_55 rfl dX6_apart_6 ?_
    refine z_get (ci := 2) (v := .int n_all) G in_X2 3 rfl rfl 6 (by decide) fl_X6_246 rfl dX6_apart_9 ?_
    refine z_iconst (v := (-1)) G dX6_apart_12 (by decide) ?_
    refine z_ixor G dX6_apart_13 ?_
    refine z_iand G dX6_apart_14 ?_
    refine z_if_eq (tgt := 20) G dX6_apart_15 (by decide) h (fun h => ?_) (fun h => ?_)
    · refine z_iconst (v := 0) G dX6_apart_20 (by decide) ?_
      refine z_istore_n (lv' := [(0, .ref (ta 0)), (1, .int p1), (2, .int 0)]) G dX6_apart_21 rfl (by decide) [1, 2, 0] rfl ?_
      refine z_iconst (v := 0) G dX6_apart_22 (by decide) ?_
      refine z_istore_n (lv' := [(0, .ref (ta 0)), (1, .int p1), (2, .int 0), (3, .int 0)]) G dX6_apart_23 rfl (by decide) [1, 2, 3, 0] rfl ?_
      exact zl_X6_apart_24 G  0 0 h
    · refine z_iconst (v := (-1)) G dX6_apart_18 (by decide) ?_
      obtain rfl := Option.some.inj h
      exact z_iret G rfl dX6_apart_19 rfl trivial rfl

noncomputable def f_X6_posted_b13 (n_narrower : Nat → Int32) (n_order : Nat → Int32) (n_items : Nat → Int64) (n_size : Int32) (r_numbers : Nat → Int64) (r_size : Int32) (p1 : Int32) (k13 : Int32 → Int32 → Option (Int32 × (Nat → Int64) × Int32)) (x2 : Int32) (x3 : Int32) : Option (Int32 × (Nat → Int64) × Int32) :=
  if 24 ≤ x3 then (f_X2_withOthersBelow n_narrower n_order n_size x2).bind (fun r2 => (f_X4_tell r_numbers r_size (r2.toInt64)).bind (fun r4 => some (x2, r4.1, r4.2))) else chk (inb x3 24) (if (lg_cmp ((jlshr (n_items (ix x3)) p1) &&& 1) 0) = 0 then k13 x2 (x3 + 1) else k13 (x2 ||| (jshl 1 x3)) (x3 + 1))
set_option maxRecDepth 100000 in
set_option maxHeartbeats 4000000 in
theorem zb_X6_posted_13 {p : Program} {l : Launch} {e : Env} {s : State} {m : MethodId} {args : Array Value} {below : List Frame} {meth : Method} {c : Code} {A : Nat → Prop} {dC : Nat → ClassId} {dI : Nat → Nat → Nat} {cI cJ cZ cN : ClassId} {ta : Nat → Nat} {na : Nat → Nat} {ra : Nat → Nat} {t_text : Nat} {t_guide : Nat} {t_acts : Nat} {t_past : Nat} {t_trial : Nat} {t_kept : Nat → Nat} {t_filled : Nat → Int32} {n_narrower : Nat → Int32} {n_order : Nat → Int32} {n_items : Nat → Int64} {n_names : Nat → Int32} {n_owners : Nat → Int32} {n_moving : Nat → Int32} {n_all : Int32} {n_size : Int32} {n_nameCount : Int32} {r_numbers : Nat → Int64} {r_size : Int32} {p1 : Int32} {res : Int32 × (Nat → Int64) × Int32} (G : zG p m c cX6_posted 4 s args RX6 (dC, dI) vwCl (zT cI cJ cZ cN) A meth (some .int)) {k13 : Int32 → Int32 → Option (Int32 × (Nat → Int64) × Int32)} (hr13 : ∀ (x2 : Int32) (x3 : Int32), k13 x2 x3 = some res → Z p l e ({ frames := 3, cells := 0, slots := 0, locals := 67 }) s m args below meth c (dC, dI) vwCl A 4 0 0 (MQ below (zQ (some (.int res.1)) (True) (w_Stnr cI cJ cZ cN ta na ra t_text t_guide t_acts t_past t_trial t_kept t_filled n_narrower n_order n_items n_names n_owners n_moving n_all n_size n_nameCount res.2.1 res.2.2) (dC, dI) vwCl A) args s 0 0 A) (w_Stnr cI cJ cZ cN ta na ra t_text t_guide t_acts t_past t_trial t_kept t_filled n_narrower n_order n_items n_names n_owners n_moving n_all n_size n_nameCount r_numbers r_size) [(0, .ref (ta 0)), (1, .int p1), (2, .int x2), (3, .int x3)] [] 13) : ∀ (x2 : Int32) (x3 : Int32), f_X6_posted_b13 n_narrower n_order n_items n_size r_numbers r_size p1 k13 x2 x3 = some res → Z p l e ({ frames := 3, cells := 0, slots := 0, locals := 67 }) s m args below meth c (dC, dI) vwCl A 4 0 0 (MQ below (zQ (some (.int res.1)) (True) (w_Stnr cI cJ cZ cN ta na ra t_text t_guide t_acts t_past t_trial t_kept t_filled n_narrower n_order n_items n_names n_owners n_moving n_all n_size n_nameCount res.2.1 res.2.2) (dC, dI) vwCl A) args s 0 0 A) (w_Stnr cI cJ cZ cN ta na ra t_text t_guide t_acts t_past t_trial t_kept t_filled n_narrower n_order n_items n_names n_owners n_moving n_all n_size n_nameCount r_numbers r_size) [(0, .ref (ta 0)), (1, .int p1), (2, .int x2), (3, .int x3)] [] 13 := by
  intro x2 x3 h
  unfold f_X6_posted_b13 at h
  refine z_iload_n G dX6_posted_13 rfl 3 rfl ?_
  refine z_bipush (v := 24) G dX6_posted_14 (by decide) ?_
  refine z_icmp_ge (tgt := 49) G dX6_posted_16 (by decide) h (fun h => ?_) (fun h => ?_)
  · refine z_aload_n G dX6_posted_49 rfl 0 rfl ?_
    refine z_get (ci := 6) (v := .ref (ra 0)) G in_X6 0 rfl rfl 0 (by decide) fl_X6_27 rfl dX6_posted_50 ?_
    refine z_aload_n G dX6_posted_53 rfl 0 rfl ?_
    refine z_get (ci := 6) (v := .ref (na 0)) G in_X6 0 rfl rfl 8 (by decide) fl_X6_55 rfl dX6_posted_54 ?_
    refine z_iload_n G dX6_posted_57 rfl 2 rfl ?_
    obtain ⟨r2, e2, h⟩ := obind h
    refine z_kR (As := [.int x2]) (rest := [.ref (ra 0)]) (st' := [.int r2, .ref (ra 0)]) G pk_X2_withOthersBelow pv_X2_withOthersBelow ml_X6_222 (c_X2_withOthersBelow (ta := na) (t_narrower := n_narrower) (t_order := n_order) (t_items := n_items) (t_names := n_names) (t_owners := n_owners) (t_moving := n_moving) (t_all := n_all) (t_size := n_size) (t_nameCount := n_nameCount) (p1 := x2) e2) ⟨rfl, rfl⟩ ⟨Nat.le_of_ble_eq_true rfl, Nat.le_of_ble_eq_true rfl⟩ ⟨Nat.zero_le _, Nat.zero_le _⟩ rfl rfl (Nat.le_of_ble_eq_true rfl) 3 2 rfl rfl rfl [3, 4, 5, 6, 7, 8, 9] rfl rfl rfl dX6_posted_58 (fun z3 => ?_)
    refine z_i2l G dX6_posted_61 ?_
    obtain ⟨r4, e4, h⟩ := obind h
    refine z_kV (As := [.long (r2.toInt64)]) (rest := []) (st' := []) (ws' := (w_Stnr cI cJ cZ cN ta na ra t_text t_guide t_acts t_past t_trial t_kept t_filled n_narrower n_order n_items n_names n_owners n_moving n_all n_size n_nameCount r4.1 r4.2)) G pk_X4_tell pv_X4_tell ml_X6_149 (c_X4_tell (ta := ra) (t_numbers := r_numbers) (t_size := r_size) (p1 := r2.toInt64) e4) ⟨rfl, rfl⟩ ⟨Nat.le_of_ble_eq_true rfl, Nat.le_of_ble_eq_true rfl⟩ ⟨Nat.zero_le _, Nat.zero_le _⟩ rfl rfl (Nat.le_of_ble_eq_true rfl) 10 4 rfl rfl rfl [10, 11] rfl rfl [none, none, none, none, none, none, none, none, none, none, some 0, some 1] rfl rfl rfl rfl dX6_posted_62 (fun z5 => ?_)
    refine z_iload_n G dX6_posted_65 rfl 2 rfl ?_
    obtain rfl := Option.some.inj h
    exact z_iret G rfl dX6_posted_66 rfl trivial rfl
  · refine z_aload_n G dX6_posted_19 rfl 0 rfl ?_
    refine z_get (ci := 6) (v := .ref (na 0)) G in_X6 0 rfl rfl 8 (by decide) fl_X6_55 rfl dX6_posted_20 ?_
    refine z_get (ci := 2) (v := .ref (na 3)) G in_X2 3 rfl rfl 2 (by decide) fl_X6_265 rfl dX6_posted_23 ?_
    refine z_iload_n G dX6_posted_26 rfl 3 rfl ?_
    refine z_laload G 6 1 rfl rfl dX6_posted_27 h (fun h => ?_)
    refine z_iload_n G dX6_posted_28 rfl 1 rfl ?_
    refine z_lshr G dX6_posted_29 ?_
    refine z_lconst (v := 1) G dX6_posted_30 (by decide) ?_
    refine z_land G dX6_posted_31 ?_
    refine z_lconst (v := 0) G dX6_posted_32 (by decide) ?_
    refine z_lcmp G dX6_posted_33 ?_
    refine z_if_eq (tgt := 43) G dX6_posted_34 (by decide) h (fun h => ?_) (fun h => ?_)
    · refine z_iinc (v := x3 + 1) (lv' := [(0, .ref (ta 0)), (1, .int p1), (2, .int x2), (3, .int (x3 + 1))]) G dX6_posted_43 3 rfl rfl (by decide) [1, 2, 3, 0] rfl ?_
      refine z_goto (tgt := 13) G dX6_posted_46 (by decide) ?_
      exact hr13 x2 (x3 + 1) h
    · refine z_iload_n G dX6_posted_37 rfl 2 rfl ?_
      refine z_iconst (v := 1) G dX6_posted_38 (by decide) ?_
      refine z_iload_n G dX6_posted_39 rfl 3 rfl ?_
      refine z_ishl G dX6_posted_40 ?_
      refine z_ior G dX6_posted_41 ?_
      refine z_istore_n (lv' := [(0, .ref (ta 0)), (1, .int p1), (2, .int (x2 ||| (jshl 1 x3))), (3, .int x3)]) G dX6_posted_42 rfl (by decide) [1, 2, 0, 3] rfl ?_
      refine z_iinc (v := x3 + 1) (lv' := [(0, .ref (ta 0)), (1, .int p1), (2, .int (x2 ||| (jshl 1 x3))), (3, .int (x3 + 1))]) G dX6_posted_43 3 rfl rfl (by decide) [1, 2, 3, 0] rfl ?_
      refine z_goto (tgt := 13) G dX6_posted_46 (by decide) ?_
      exact hr13 (x2 ||| (jshl 1 x3)) (x3 + 1) h
noncomputable def f_X6_posted_l13 (n_narrower : Nat → Int32) (n_order : Nat → Int32) (n_items : Nat → Int64) (n_size : Int32) (r_numbers : Nat → Int64) (r_size : Int32) (p1 : Int32)  (x2 : Int32) (x3 : Int32) : Option (Int32 × (Nat → Int64) × Int32) := loopN (V := Int32 × Int32) (fun rc v => f_X6_posted_b13 n_narrower n_order n_items n_size r_numbers r_size p1  (fun x0_ x1_ => rc (x0_, x1_)) v.1 v.2) 200 (x2, x3)
set_option maxRecDepth 100000 in
set_option maxHeartbeats 4000000 in
theorem zl_X6_posted_13 {p : Program} {l : Launch} {e : Env} {s : State} {m : MethodId} {args : Array Value} {below : List Frame} {meth : Method} {c : Code} {A : Nat → Prop} {dC : Nat → ClassId} {dI : Nat → Nat → Nat} {cI cJ cZ cN : ClassId} {ta : Nat → Nat} {na : Nat → Nat} {ra : Nat → Nat} {t_text : Nat} {t_guide : Nat} {t_acts : Nat} {t_past : Nat} {t_trial : Nat} {t_kept : Nat → Nat} {t_filled : Nat → Int32} {n_narrower : Nat → Int32} {n_order : Nat → Int32} {n_items : Nat → Int64} {n_names : Nat → Int32} {n_owners : Nat → Int32} {n_moving : Nat → Int32} {n_all : Int32} {n_size : Int32} {n_nameCount : Int32} {r_numbers : Nat → Int64} {r_size : Int32} {p1 : Int32} {res : Int32 × (Nat → Int64) × Int32} (G : zG p m c cX6_posted 4 s args RX6 (dC, dI) vwCl (zT cI cJ cZ cN) A meth (some .int))  : ∀ (x2 : Int32) (x3 : Int32), f_X6_posted_l13 n_narrower n_order n_items n_size r_numbers r_size p1  x2 x3 = some res → Z p l e ({ frames := 3, cells := 0, slots := 0, locals := 67 }) s m args below meth c (dC, dI) vwCl A 4 0 0 (MQ below (zQ (some (.int res.1)) (True) (w_Stnr cI cJ cZ cN ta na ra t_text t_guide t_acts t_past t_trial t_kept t_filled n_narrower n_order n_items n_names n_owners n_moving n_all n_size n_nameCount res.2.1 res.2.2) (dC, dI) vwCl A) args s 0 0 A) (w_Stnr cI cJ cZ cN ta na ra t_text t_guide t_acts t_past t_trial t_kept t_filled n_narrower n_order n_items n_names n_owners n_moving n_all n_size n_nameCount r_numbers r_size) [(0, .ref (ta 0)), (1, .int p1), (2, .int x2), (3, .int x3)] [] 13 := by
  intro x2 x3 h
  exact zloop (P := fun v => Z p l e ({ frames := 3, cells := 0, slots := 0, locals := 67 }) s m args below meth c (dC, dI) vwCl A 4 0 0 (MQ below (zQ (some (.int res.1)) (True) (w_Stnr cI cJ cZ cN ta na ra t_text t_guide t_acts t_past t_trial t_kept t_filled n_narrower n_order n_items n_names n_owners n_moving n_all n_size n_nameCount res.2.1 res.2.2) (dC, dI) vwCl A) args s 0 0 A) (w_Stnr cI cJ cZ cN ta na ra t_text t_guide t_acts t_past t_trial t_kept t_filled n_narrower n_order n_items n_names n_owners n_moving n_all n_size n_nameCount r_numbers r_size) [(0, .ref (ta 0)), (1, .int p1), (2, .int v.1), (3, .int v.2)] [] 13) (fun rc hr v h => zb_X6_posted_13 G  (fun x0_ x1_ h => hr (x0_, x1_) h) v.1 v.2 h) 200 (x2, x3) h
noncomputable def f_X6_posted (n_narrower : Nat → Int32) (n_order : Nat → Int32) (n_items : Nat → Int64) (n_size : Int32) (r_numbers : Nat → Int64) (r_size : Int32) (p1 : Int32) : Option (Int32 × (Nat → Int64) × Int32) :=
  if (f_X6_isItem p1) = 0 then some ((-1), r_numbers, r_size) else f_X6_posted_l13 n_narrower n_order n_items n_size r_numbers r_size p1  0 0
set_option maxRecDepth 100000 in
set_option maxHeartbeats 4000000 in
theorem c_X6_posted {l : Launch} {dC : Nat → ClassId} {dI : Nat → Nat → Nat} {cI cJ cZ cN : ClassId} {ta : Nat → Nat} {na : Nat → Nat} {ra : Nat → Nat} {t_text : Nat} {t_guide : Nat} {t_acts : Nat} {t_past : Nat} {t_trial : Nat} {t_kept : Nat → Nat} {t_filled : Nat → Int32} {n_narrower : Nat → Int32} {n_order : Nat → Int32} {n_items : Nat → Int64} {n_names : Nat → Int32} {n_owners : Nat → Int32} {n_moving : Nat → Int32} {n_all : Int32} {n_size : Int32} {n_nameCount : Int32} {r_numbers : Nat → Int64} {r_size : Int32} {p1 : Int32} {res : Int32 × (Nat → Int64) × Int32} (h : f_X6_posted n_narrower n_order n_items n_size r_numbers r_size p1 = some res) : zM l yX6_posted cX6_posted 4 (some .int) ({ frames := 3, cells := 0, slots := 0, locals := 67 }) [.ref (ta 0), .int p1] (dC, dI) vwCl (zT cI cJ cZ cN) (w_Stnr cI cJ cZ cN ta na ra t_text t_guide t_acts t_past t_trial t_kept t_filled n_narrower n_order n_items n_names n_owners n_moving n_all n_size n_nameCount r_numbers r_size) (some (.int res.1)) (True) (w_Stnr cI cJ cZ cN ta na ra t_text t_guide t_acts t_past t_trial t_kept t_filled n_narrower n_order n_items n_names n_owners n_moving n_all n_size n_nameCount res.2.1 res.2.2) := by
  refine zM_of (own := RX6) (by decide) rfl [(0, .ref (ta 0)), (1, .int p1)] (Nat.le_of_ble_eq_true rfl) rfl ?_
  intro p e s m args below meth c A G _
  unfold f_X6_posted at h
  refine z_iload_n G dX6_posted_0 rfl 1 rfl ?_
  refine z_kS (As := [.int p1]) (rest := []) (st' := [.int (f_X6_isItem p1)]) G pk_X6_isItem ps_X6_isItem ml_X6_262 (c_X6_isItem (p0 := p1) rfl) ⟨rfl, rfl⟩ ⟨Nat.le_of_ble_eq_true rfl, Nat.le_of_ble_eq_true rfl⟩ ⟨Nat.zero_le _, Nat.zero_le _⟩ rfl rfl (Nat.le_of_ble_eq_true rfl) rfl dX6_posted_1 (fun z1 => ?_)
  refine z_if_ne (tgt := 9) G dX6_posted_4 (by decide) h (fun h => ?_) (fun h => ?_)
  · refine z_iconst (v := 0) G dX6_posted_9 (by decide) ?_
    refine z_istore_n (lv' := [(0, .ref (ta 0)), (1, .int p1), (2, .int 0)]) G dX6_posted_10 rfl (by decide) [1, 2, 0] rfl ?_
    refine z_iconst (v := 0) G dX6_posted_11 (by decide) ?_
    refine z_istore_n (lv' := [(0, .ref (ta 0)), (1, .int p1), (2, .int 0), (3, .int 0)]) G dX6_posted_12 rfl (by decide) [1, 2, 3, 0] rfl ?_
    exact zl_X6_posted_13 G  0 0 h
  · refine z_iconst (v := (-1)) G dX6_posted_7 (by decide) ?_
    obtain rfl := Option.some.inj h
    exact z_iret G rfl dX6_posted_8 rfl trivial rfl

noncomputable def f_X6_steps_b31 (n_narrower : Nat → Int32) (n_all : Int32) (p1 : Int32) (p2 : Int32) (k31 : Int32 → Int32 → Option (Int32)) (x3 : Int32) (x4 : Int32) : Option (Int32) :=
  if 24 ≤ x4 then some ((-2)) else if (f_X6_holds x3 p2) = 0 then (f_X2_withNeighbours n_narrower x3).bind (fun r4 => k31 r4 (x4 + 1)) else some (x4)
set_option maxRecDepth 100000 in
set_option maxHeartbeats 4000000 in
theorem zb_X6_steps_31 {p : Program} {l : Launch} {e : Env} {s : State} {m : MethodId} {args : Array Value} {below : List Frame} {meth : Method} {c : Code} {A : Nat → Prop} {dC : Nat → ClassId} {dI : Nat → Nat → Nat} {cI cJ cZ cN : ClassId} {ta : Nat → Nat} {na : Nat → Nat} {t_told : Nat} {t_text : Nat} {t_guide : Nat} {t_acts : Nat} {t_past : Nat} {t_trial : Nat} {t_kept : Nat → Nat} {t_filled : Nat → Int32} {n_narrower : Nat → Int32} {n_order : Nat → Int32} {n_items : Nat → Int64} {n_names : Nat → Int32} {n_owners : Nat → Int32} {n_moving : Nat → Int32} {n_all : Int32} {n_size : Int32} {n_nameCount : Int32} {p1 : Int32} {p2 : Int32} {res : Int32} (G : zG p m c cX6_steps 5 s args RX6 (dC, dI) vwCl (zT cI cJ cZ cN) A meth (some .int)) {k31 : Int32 → Int32 → Option (Int32)} (hr31 : ∀ (x3 : Int32) (x4 : Int32), k31 x3 x4 = some res → Z p l e ({ frames := 2, cells := 0, slots := 0, locals := 44 }) s m args below meth c (dC, dI) vwCl A 5 0 0 (MQ below (zQ (some (.int res)) (True) (w_Stn cI cJ cZ cN ta na t_told t_text t_guide t_acts t_past t_trial t_kept t_filled n_narrower n_order n_items n_names n_owners n_moving n_all n_size n_nameCount) (dC, dI) vwCl A) args s 0 0 A) (w_Stn cI cJ cZ cN ta na t_told t_text t_guide t_acts t_past t_trial t_kept t_filled n_narrower n_order n_items n_names n_owners n_moving n_all n_size n_nameCount) [(0, .ref (ta 0)), (1, .int p1), (2, .int p2), (3, .int x3), (4, .int x4)] [] 31) : ∀ (x3 : Int32) (x4 : Int32), f_X6_steps_b31 n_narrower n_all p1 p2 k31 x3 x4 = some res → Z p l e ({ frames := 2, cells := 0, slots := 0, locals := 44 }) s m args below meth c (dC, dI) vwCl A 5 0 0 (MQ below (zQ (some (.int res)) (True) (w_Stn cI cJ cZ cN ta na t_told t_text t_guide t_acts t_past t_trial t_kept t_filled n_narrower n_order n_items n_names n_owners n_moving n_all n_size n_nameCount) (dC, dI) vwCl A) args s 0 0 A) (w_Stn cI cJ cZ cN ta na t_told t_text t_guide t_acts t_past t_trial t_kept t_filled n_narrower n_order n_items n_names n_owners n_moving n_all n_size n_nameCount) [(0, .ref (ta 0)), (1, .int p1), (2, .int p2), (3, .int x3), (4, .int x4)] [] 31 := by
  intro x3 x4 h
  unfold f_X6_steps_b31 at h
  refine z_iload G dX6_steps_31 4 rfl ?_
  refine z_bipush (v := 24) G dX6_steps_33 (by decide) ?_
  refine z_icmp_ge (tgt := 64) G dX6_steps_35 (by decide) h (fun h => ?_) (fun h => ?_)
  · refine z_bipush (v := (-2)) G dX6_steps_64 (by decide) ?_
    obtain rfl := Option.some.inj h
    exact z_iret G rfl dX6_steps_66 rfl trivial rfl
  · refine z_iload_n G dX6_steps_38 rfl 3 rfl ?_
    refine z_iload_n G dX6_steps_39 rfl 2 rfl ?_
    refine z_kS (As := [.int x3, .int p2]) (rest := []) (st' := [.int (f_X6_holds x3 p2)]) G pk_X6_holds ps_X6_holds ml_X6_216 (c_X6_holds (p0 := x3) (p1 := p2) rfl) ⟨rfl, rfl⟩ ⟨Nat.le_of_ble_eq_true rfl, Nat.le_of_ble_eq_true rfl⟩ ⟨Nat.zero_le _, Nat.zero_le _⟩ rfl rfl (Nat.le_of_ble_eq_true rfl) rfl dX6_steps_40 (fun z3 => ?_)
    refine z_if_eq (tgt := 49) G dX6_steps_43 (by decide) h (fun h => ?_) (fun h => ?_)
    · refine z_aload_n G dX6_steps_49 rfl 0 rfl ?_
      refine z_get (ci := 6) (v := .ref (na 0)) G in_X6 0 rfl rfl 8 (by decide) fl_X6_55 rfl dX6_steps_50 ?_
      refine z_iload_n G dX6_steps_53 rfl 3 rfl ?_
      obtain ⟨r4, e4, h⟩ := obind h
      refine z_kR (As := [.int x3]) (rest := []) (st' := [.int r4]) G pk_X2_withNeighbours pv_X2_withNeighbours ml_X6_225 (c_X2_withNeighbours (ta := na) (t_narrower := n_narrower) (t_order := n_order) (t_items := n_items) (t_names := n_names) (t_owners := n_owners) (t_moving := n_moving) (t_all := n_all) (t_size := n_size) (t_nameCount := n_nameCount) (p1 := x3) e4) ⟨rfl, rfl⟩ ⟨Nat.le_of_ble_eq_true rfl, Nat.le_of_ble_eq_true rfl⟩ ⟨Nat.zero_le _, Nat.zero_le _⟩ rfl rfl (Nat.le_of_ble_eq_true rfl) 3 2 rfl rfl rfl [3, 4, 5, 6, 7, 8, 9] rfl rfl rfl dX6_steps_54 (fun z5 => ?_)
      refine z_istore_n (lv' := [(0, .ref (ta 0)), (1, .int p1), (2, .int p2), (3, .int r4), (4, .int x4)]) G dX6_steps_57 rfl (by decide) [1, 2, 3, 0, 4] rfl ?_
      refine z_iinc (v := x4 + 1) (lv' := [(0, .ref (ta 0)), (1, .int p1), (2, .int p2), (3, .int r4), (4, .int (x4 + 1))]) G dX6_steps_58 4 rfl rfl (by decide) [1, 2, 3, 4, 0] rfl ?_
      refine z_goto (tgt := 31) G dX6_steps_61 (by decide) ?_
      exact hr31 r4 (x4 + 1) h
    · refine z_iload G dX6_steps_46 4 rfl ?_
      obtain rfl := Option.some.inj h
      exact z_iret G rfl dX6_steps_48 rfl trivial rfl
noncomputable def f_X6_steps_l31 (n_narrower : Nat → Int32) (n_all : Int32) (p1 : Int32) (p2 : Int32)  (x3 : Int32) (x4 : Int32) : Option (Int32) := loopN (V := Int32 × Int32) (fun rc v => f_X6_steps_b31 n_narrower n_all p1 p2  (fun x0_ x1_ => rc (x0_, x1_)) v.1 v.2) 200 (x3, x4)
set_option maxRecDepth 100000 in
set_option maxHeartbeats 4000000 in
theorem zl_X6_steps_31 {p : Program} {l : Launch} {e : Env} {s : State} {m : MethodId} {args : Array Value} {below : List Frame} {meth : Method} {c : Code} {A : Nat → Prop} {dC : Nat → ClassId} {dI : Nat → Nat → Nat} {cI cJ cZ cN : ClassId} {ta : Nat → Nat} {na : Nat → Nat} {t_told : Nat} {t_text : Nat} {t_guide : Nat} {t_acts : Nat} {t_past : Nat} {t_trial : Nat} {t_kept : Nat → Nat} {t_filled : Nat → Int32} {n_narrower : Nat → Int32} {n_order : Nat → Int32} {n_items : Nat → Int64} {n_names : Nat → Int32} {n_owners : Nat → Int32} {n_moving : Nat → Int32} {n_all : Int32} {n_size : Int32} {n_nameCount : Int32} {p1 : Int32} {p2 : Int32} {res : Int32} (G : zG p m c cX6_steps 5 s args RX6 (dC, dI) vwCl (zT cI cJ cZ cN) A meth (some .int))  : ∀ (x3 : Int32) (x4 : Int32), f_X6_steps_l31 n_narrower n_all p1 p2  x3 x4 = some res → Z p l e ({ frames := 2, cells := 0, slots := 0, locals := 44 }) s m args below meth c (dC, dI) vwCl A 5 0 0 (MQ below (zQ (some (.int res)) (True) (w_Stn cI cJ cZ cN ta na t_told t_text t_guide t_acts t_past t_trial t_kept t_filled n_narrower n_order n_items n_names n_owners n_moving n_all n_size n_nameCount) (dC, dI) vwCl A) args s 0 0 A) (w_Stn cI cJ cZ cN ta na t_told t_text t_guide t_acts t_past t_trial t_kept t_filled n_narrower n_order n_items n_names n_owners n_moving n_all n_size n_nameCount) [(0, .ref (ta 0)), (1, .int p1), (2, .int p2), (3, .int x3), (4, .int x4)] [] 31 := by
  intro x3 x4 h
  exact zloop (P := fun v => Z p l e ({ frames := 2, cells := 0, slots := 0, locals := 44 }) s m args below meth c (dC, dI) vwCl A 5 0 0 (MQ below (zQ (some (.int res)) (True) (w_Stn cI cJ cZ cN ta na t_told t_text t_guide t_acts t_past t_trial t_kept t_filled n_narrower n_order n_items n_names n_owners n_moving n_all n_size n_nameCount) (dC, dI) vwCl A) args s 0 0 A) (w_Stn cI cJ cZ cN ta na t_told t_text t_guide t_acts t_past t_trial t_kept t_filled n_narrower n_order n_items n_names n_owners n_moving n_all n_size n_nameCount) [(0, .ref (ta 0)), (1, .int p1), (2, .int p2), (3, .int v.1), (4, .int v.2)] [] 31) (fun rc hr v h => zb_X6_steps_31 G  (fun x0_ x1_ h => hr (x0_, x1_) h) v.1 v.2 h) 200 (x3, x4) h
noncomputable def f_X6_steps (n_narrower : Nat → Int32) (n_all : Int32) (p1 : Int32) (p2 : Int32) : Option (Int32) :=
  if (f_X2_has n_all p1) = 0 then some ((-1)) else if (f_X2_has n_all p2) = 0 then some ((-1)) else f_X6_steps_l31 n_narrower n_all p1 p2  (jshl 1 p1) 0
set_option maxRecDepth 100000 in
set_option maxHeartbeats 4000000 in
theorem c_X6_steps {l : Launch} {dC : Nat → ClassId} {dI : Nat → Nat → Nat} {cI cJ cZ cN : ClassId} {ta : Nat → Nat} {na : Nat → Nat} {t_told : Nat} {t_text : Nat} {t_guide : Nat} {t_acts : Nat} {t_past : Nat} {t_trial : Nat} {t_kept : Nat → Nat} {t_filled : Nat → Int32} {n_narrower : Nat → Int32} {n_order : Nat → Int32} {n_items : Nat → Int64} {n_names : Nat → Int32} {n_owners : Nat → Int32} {n_moving : Nat → Int32} {n_all : Int32} {n_size : Int32} {n_nameCount : Int32} {p1 : Int32} {p2 : Int32} {res : Int32} (h : f_X6_steps n_narrower n_all p1 p2 = some res) : zM l yX6_steps cX6_steps 5 (some .int) ({ frames := 2, cells := 0, slots := 0, locals := 44 }) [.ref (ta 0), .int p1, .int p2] (dC, dI) vwCl (zT cI cJ cZ cN) (w_Stn cI cJ cZ cN ta na t_told t_text t_guide t_acts t_past t_trial t_kept t_filled n_narrower n_order n_items n_names n_owners n_moving n_all n_size n_nameCount) (some (.int res)) (True) (w_Stn cI cJ cZ cN ta na t_told t_text t_guide t_acts t_past t_trial t_kept t_filled n_narrower n_order n_items n_names n_owners n_moving n_all n_size n_nameCount) := by
  refine zM_of (own := RX6) (by decide) rfl [(0, .ref (ta 0)), (1, .int p1), (2, .int p2)] (Nat.le_of_ble_eq_true rfl) rfl ?_
  intro p e s m args below meth c A G _
  unfold f_X6_steps at h
  refine z_aload_n G dX6_steps_0 rfl 0 rfl ?_
  refine z_get (ci := 6) (v := .ref (na 0)) G in_X6 0 rfl rfl 8 (by decide) fl_X6_55 rfl dX6_steps_1 ?_
  refine z_iload_n G dX6_steps_4 rfl 1 rfl ?_
  refine z_kR (As := [.int p1]) (rest := []) (st' := [.int (f_X2_has n_all p1)]) G pk_X2_has pv_X2_has ml_X6_94 (c_X2_has (ta := na) (t_narrower := n_narrower) (t_order := n_order) (t_items := n_items) (t_names := n_names) (t_owners := n_owners) (t_moving := n_moving) (t_all := n_all) (t_size := n_size) (t_nameCount := n_nameCount) (p1 := p1) rfl) ⟨rfl, rfl⟩ ⟨Nat.le_of_ble_eq_true rfl, Nat.le_of_ble_eq_true rfl⟩ ⟨Nat.zero_le _, Nat.zero_le _⟩ rfl rfl (Nat.le_of_ble_eq_true rfl) 3 2 rfl rfl rfl [3, 4, 5, 6, 7, 8, 9] rfl rfl rfl dX6_steps_5 (fun z1 => ?_)
  refine z_if_eq (tgt := 22) G dX6_steps_8 (by decide) h (fun h => ?_) (fun h => ?_)
  · refine z_iconst (v := (-1)) G dX6_steps_22 (by decide) ?_
    obtain rfl := Option.some.inj h
    exact z_iret G rfl dX6_steps_23 rfl trivial rfl
  · refine z_aload_n G dX6_steps_11 rfl 0 rfl ?_
    refine z_get (ci := 6) (v := .ref (na 0)) G in_X6 0 rfl rfl 8 (by decide) fl_X6_55 rfl dX6_steps_12 ?_
    refine z_iload_n G dX6_steps_15 rfl 2 rfl ?_
    refine z_kR (As := [.int p2]) (rest := []) (st' := [.int (f_X2_has n_all p2)]) G pk_X2_has pv_X2_has ml_X6_94 (c_X2_has (ta := na) (t_narrower := n_narrower) (t_order := n_order) (t_items := n_items) (t_names := n_names) (t_owners := n_owners) (t_moving := n_moving) (t_all := n_all) (t_size := n_size) (t_nameCount := n_nameCount) (p1 := p2) rfl) ⟨rfl, rfl⟩ ⟨Nat.le_of_ble_eq_true rfl, Nat.le_of_ble_eq_true rfl⟩ ⟨Nat.zero_le _, Nat.zero_le _⟩ rfl rfl (Nat.le_of_ble_eq_true rfl) 3 2 rfl rfl rfl [3, 4, 5, 6, 7, 8, 9] rfl rfl rfl dX6_steps_16 (fun z2 => ?_)
    refine z_if_ne (tgt := 24) G dX6_steps_19 (by decide) h (fun h => ?_) (fun h => ?_)
    · refine z_iconst (v := 1) G dX6_steps_24 (by decide) ?_
      refine z_iload_n G dX6_steps_25 rfl 1 rfl ?_
      refine z_ishl G dX6_steps_26 ?_
      refine z_istore_n (lv' := [(0, .ref (ta 0)), (1, .int p1), (2, .int p2), (3, .int (jshl 1 p1))]) G dX6_steps_27 rfl (by decide) [1, 2, 3, 0] rfl ?_
      refine z_iconst (v := 0) G dX6_steps_28 (by decide) ?_
      refine z_istore (lv' := [(0, .ref (ta 0)), (1, .int p1), (2, .int p2), (3, .int (jshl 1 p1)), (4, .int 0)]) G dX6_steps_29 (by decide) [1, 2, 3, 4, 0] rfl ?_
      exact zl_X6_steps_31 G  (jshl 1 p1) 0 h
    · refine z_iconst (v := (-1)) G dX6_steps_22 (by decide) ?_
      obtain rfl := Option.some.inj h
      exact z_iret G rfl dX6_steps_23 rfl trivial rfl

noncomputable def f_X6_way (g_layers : Nat → Int32) (g_length : Int32) (n_narrower : Nat → Int32) (n_all : Int32) (r_numbers : Nat → Int64) (r_size : Int32) (p1 : Int32) (p2 : Int32) : Option (Int32 × (Nat → Int32) × Int32 × (Nat → Int64) × Int32) :=
  if (f_X2_hasPair n_all p1 p2) = 0 then some ((-1), g_layers, g_length, r_numbers, r_size) else (f_X1_findWay g_layers g_length n_narrower p1 p2 1).bind (fun r2 => if r2.1 = 0 then some ((-2), r2.2.1, r2.2.2, r_numbers, r_size) else (f_X1_tellWay r2.2.1 r2.2.2 n_narrower r_numbers r_size p1).bind (fun r4 => some (r2.1, r2.2.1, r2.2.2, r4.1, r4.2)))
set_option maxRecDepth 100000 in
set_option maxHeartbeats 4000000 in
theorem c_X6_way {l : Launch} {dC : Nat → ClassId} {dI : Nat → Nat → Nat} {cI cJ cZ cN : ClassId} {ta : Nat → Nat} {ga : Nat → Nat} {na : Nat → Nat} {ra : Nat → Nat} {t_text : Nat} {t_acts : Nat} {t_past : Nat} {t_trial : Nat} {t_kept : Nat → Nat} {t_filled : Nat → Int32} {g_longest : Nat → Int32} {g_many : Nat → Int64} {g_layers : Nat → Int32} {g_length : Int32} {g_aheadOf : Nat → Int32} {g_cameFrom : Nat → Int32} {g_queue : Nat → Int32} {n_narrower : Nat → Int32} {n_order : Nat → Int32} {n_items : Nat → Int64} {n_names : Nat → Int32} {n_owners : Nat → Int32} {n_moving : Nat → Int32} {n_all : Int32} {n_size : Int32} {n_nameCount : Int32} {r_numbers : Nat → Int64} {r_size : Int32} {p1 : Int32} {p2 : Int32} {res : Int32 × (Nat → Int32) × Int32 × (Nat → Int64) × Int32} (h : f_X6_way g_layers g_length n_narrower n_all r_numbers r_size p1 p2 = some res) : zM l yX6_way cX6_way 4 (some .int) ({ frames := 3, cells := 0, slots := 0, locals := 69 }) [.ref (ta 0), .int p1, .int p2] (dC, dI) vwCl (zT cI cJ cZ cN) (w_Stgrn cI cJ cZ cN ta ga na ra t_text t_acts t_past t_trial t_kept t_filled g_longest g_many g_layers g_length g_aheadOf g_cameFrom g_queue n_narrower n_order n_items n_names n_owners n_moving n_all n_size n_nameCount r_numbers r_size) (some (.int res.1)) (True) (w_Stgrn cI cJ cZ cN ta ga na ra t_text t_acts t_past t_trial t_kept t_filled g_longest g_many res.2.1 res.2.2.1 g_aheadOf g_cameFrom g_queue n_narrower n_order n_items n_names n_owners n_moving n_all n_size n_nameCount res.2.2.2.1 res.2.2.2.2) := by
  refine zM_of (own := RX6) (by decide) rfl [(0, .ref (ta 0)), (1, .int p1), (2, .int p2)] (Nat.le_of_ble_eq_true rfl) rfl ?_
  intro p e s m args below meth c A G _
  unfold f_X6_way at h
  refine z_aload_n G dX6_way_0 rfl 0 rfl ?_
  refine z_get (ci := 6) (v := .ref (na 0)) G in_X6 0 rfl rfl 8 (by decide) fl_X6_55 rfl dX6_way_1 ?_
  refine z_iload_n G dX6_way_4 rfl 1 rfl ?_
  refine z_iload_n G dX6_way_5 rfl 2 rfl ?_
  refine z_kR (As := [.int p1, .int p2]) (rest := []) (st' := [.int (f_X2_hasPair n_all p1 p2)]) G pk_X2_hasPair pv_X2_hasPair ml_X6_191 (c_X2_hasPair (ta := na) (t_narrower := n_narrower) (t_order := n_order) (t_items := n_items) (t_names := n_names) (t_owners := n_owners) (t_moving := n_moving) (t_all := n_all) (t_size := n_size) (t_nameCount := n_nameCount) (p1 := p1) (p2 := p2) rfl) ⟨rfl, rfl⟩ ⟨Nat.le_of_ble_eq_true rfl, Nat.le_of_ble_eq_true rfl⟩ ⟨Nat.zero_le _, Nat.zero_le _⟩ rfl rfl (Nat.le_of_ble_eq_true rfl) 10 2 rfl rfl rfl [10, 11, 12, 13, 14, 15, 16] rfl rfl rfl dX6_way_6 (fun z1 => ?_)
  refine z_if_ne (tgt := 14) G dX6_way_9 (by decide) h (fun h => ?_) (fun h => ?_)
  · refine z_aload_n G dX6_way_14 rfl 0 rfl ?_
    refine z_get (ci := 6) (v := .ref (ga 0)) G in_X6 0 rfl rfl 2 (by decide) fl_X6_32 rfl dX6_way_15 ?_
    refine z_aload_n G dX6_way_18 rfl 0 rfl ?_
    refine z_get (ci := 6) (v := .ref (na 0)) G in_X6 0 rfl rfl 8 (by decide) fl_X6_55 rfl dX6_way_19 ?_
    refine z_iload_n G dX6_way_22 rfl 1 rfl ?_
    refine z_iload_n G dX6_way_23 rfl 2 rfl ?_
    refine z_iconst (v := 1) G dX6_way_24 (by decide) ?_
    obtain ⟨r2, e2, h⟩ := obind h
    refine z_kV (As := [.ref (na 0), .int p1, .int p2, .int 1]) (rest := []) (st' := [.int r2.1]) (ws' := (w_Stgrn cI cJ cZ cN ta ga na ra t_text t_acts t_past t_trial t_kept t_filled g_longest g_many r2.2.1 r2.2.2 g_aheadOf g_cameFrom g_queue n_narrower n_order n_items n_names n_owners n_moving n_all n_size n_nameCount r_numbers r_size)) G pk_X1_findWay pv_X1_findWay ml_X6_195 (c_X1_findWay (ta := ga) (na := na) (t_longest := g_longest) (t_many := g_many) (t_layers := g_layers) (t_length := g_length) (t_aheadOf := g_aheadOf) (t_cameFrom := g_cameFrom) (t_queue := g_queue) (n_narrower := n_narrower) (n_order := n_order) (n_items := n_items) (n_names := n_names) (n_owners := n_owners) (n_moving := n_moving) (n_all := n_all) (n_size := n_size) (n_nameCount := n_nameCount) (p2 := p1) (p3 := p2) (p4 := 1) e2) ⟨rfl, rfl⟩ ⟨Nat.le_of_ble_eq_true rfl, Nat.le_of_ble_eq_true rfl⟩ ⟨Nat.zero_le _, Nat.zero_le _⟩ rfl rfl (Nat.le_of_ble_eq_true rfl) 3 1 rfl rfl rfl [3, 4, 5, 6, 7, 8, 9, 10, 11, 12, 13, 14, 15, 16] rfl rfl [none, none, none, some 0, some 1, some 2, some 3, some 4, some 5, some 6, some 7, some 8, some 9, some 10, some 11, some 12, some 13, none, none] rfl rfl rfl rfl dX6_way_25 (fun z3 => ?_)
    refine z_istore_n (lv' := [(0, .ref (ta 0)), (1, .int p1), (2, .int p2), (3, .int r2.1)]) G dX6_way_28 rfl (by decide) [1, 2, 3, 0] rfl ?_
    refine z_iload_n G dX6_way_29 rfl 3 rfl ?_
    refine z_if_ne (tgt := 36) G dX6_way_30 (by decide) h (fun h => ?_) (fun h => ?_)
    · refine z_aload_n G dX6_way_36 rfl 0 rfl ?_
      refine z_get (ci := 6) (v := .ref (ga 0)) G in_X6 0 rfl rfl 2 (by decide) fl_X6_32 rfl dX6_way_37 ?_
      refine z_aload_n G dX6_way_40 rfl 0 rfl ?_
      refine z_get (ci := 6) (v := .ref (na 0)) G in_X6 0 rfl rfl 8 (by decide) fl_X6_55 rfl dX6_way_41 ?_
      refine z_iload_n G dX6_way_44 rfl 1 rfl ?_
      refine z_aload_n G dX6_way_45 rfl 0 rfl ?_
      refine z_get (ci := 6) (v := .ref (ra 0)) G in_X6 0 rfl rfl 0 (by decide) fl_X6_27 rfl dX6_way_46 ?_
      obtain ⟨r4, e4, h⟩ := obind h
      refine z_kV (As := [.ref (na 0), .int p1, .ref (ra 0)]) (rest := []) (st' := []) (ws' := (w_Stgrn cI cJ cZ cN ta ga na ra t_text t_acts t_past t_trial t_kept t_filled g_longest g_many r2.2.1 r2.2.2 g_aheadOf g_cameFrom g_queue n_narrower n_order n_items n_names n_owners n_moving n_all n_size n_nameCount r4.1 r4.2)) G pk_X1_tellWay pv_X1_tellWay ml_X6_201 (c_X1_tellWay (ta := ga) (na := na) (ra := ra) (t_longest := g_longest) (t_many := g_many) (t_layers := r2.2.1) (t_length := r2.2.2) (t_aheadOf := g_aheadOf) (t_cameFrom := g_cameFrom) (t_queue := g_queue) (n_narrower := n_narrower) (n_order := n_order) (n_items := n_items) (n_names := n_names) (n_owners := n_owners) (n_moving := n_moving) (n_all := n_all) (n_size := n_size) (n_nameCount := n_nameCount) (r_numbers := r_numbers) (r_size := r_size) (p2 := p1) e4) ⟨rfl, rfl⟩ ⟨Nat.le_of_ble_eq_true rfl, Nat.le_of_ble_eq_true rfl⟩ ⟨Nat.zero_le _, Nat.zero_le _⟩ rfl rfl (Nat.le_of_ble_eq_true rfl) 3 1 rfl rfl rfl [3, 4, 5, 6, 7, 8, 9, 10, 11, 12, 13, 14, 15, 16, 17, 18] rfl rfl [none, none, none, some 0, some 1, some 2, some 3, some 4, some 5, some 6, some 7, some 8, some 9, some 10, some 11, some 12, some 13, some 14, some 15] rfl rfl rfl rfl dX6_way_49 (fun z5 => ?_)
      refine z_iload_n G dX6_way_52 rfl 3 rfl ?_
      obtain rfl := Option.some.inj h
      exact z_iret G rfl dX6_way_53 rfl trivial rfl
    · refine z_bipush (v := (-2)) G dX6_way_33 (by decide) ?_
      obtain rfl := Option.some.inj h
      exact z_iret G rfl dX6_way_35 rfl trivial rfl
  · refine z_iconst (v := (-1)) G dX6_way_12 (by decide) ?_
    obtain rfl := Option.some.inj h
    exact z_iret G rfl dX6_way_13 rfl trivial rfl

noncomputable def f_X6_ways (g_longest : Nat → Int32) (g_many : Nat → Int64) (n_narrower : Nat → Int32) (n_order : Nat → Int32) (n_all : Int32) (n_size : Int32) (r_numbers : Nat → Int64) (r_size : Int32) (p1 : Int32) (p2 : Int32) : Option (Int32 × (Nat → Int32) × (Nat → Int64) × (Nat → Int64) × Int32) :=
  if (f_X2_hasPair n_all p1 p2) = 0 then some ((-1), g_longest, g_many, r_numbers, r_size) else (f_X1_countWays g_longest g_many n_narrower n_order n_size p1).bind (fun r2 => chk (inb p2 24) (if (lg_cmp (r2.2 (ix p2)) 0) = 0 then some ((-2), r2.1, r2.2, r_numbers, r_size) else (f_X4_tell r_numbers r_size (r2.2 (ix p2))).bind (fun r4 => chk (inb p2 24) (some (r2.1 (ix p2), r2.1, r2.2, r4.1, r4.2)))))
set_option maxRecDepth 100000 in
set_option maxHeartbeats 4000000 in
theorem c_X6_ways {l : Launch} {dC : Nat → ClassId} {dI : Nat → Nat → Nat} {cI cJ cZ cN : ClassId} {ta : Nat → Nat} {ga : Nat → Nat} {na : Nat → Nat} {ra : Nat → Nat} {t_text : Nat} {t_acts : Nat} {t_past : Nat} {t_trial : Nat} {t_kept : Nat → Nat} {t_filled : Nat → Int32} {g_longest : Nat → Int32} {g_many : Nat → Int64} {g_layers : Nat → Int32} {g_length : Int32} {g_aheadOf : Nat → Int32} {g_cameFrom : Nat → Int32} {g_queue : Nat → Int32} {n_narrower : Nat → Int32} {n_order : Nat → Int32} {n_items : Nat → Int64} {n_names : Nat → Int32} {n_owners : Nat → Int32} {n_moving : Nat → Int32} {n_all : Int32} {n_size : Int32} {n_nameCount : Int32} {r_numbers : Nat → Int64} {r_size : Int32} {p1 : Int32} {p2 : Int32} {res : Int32 × (Nat → Int32) × (Nat → Int64) × (Nat → Int64) × Int32} (h : f_X6_ways g_longest g_many n_narrower n_order n_all n_size r_numbers r_size p1 p2 = some res) : zM l yX6_ways cX6_ways 5 (some .int) ({ frames := 3, cells := 0, slots := 0, locals := 64 }) [.ref (ta 0), .int p1, .int p2] (dC, dI) vwCl (zT cI cJ cZ cN) (w_Stgrn cI cJ cZ cN ta ga na ra t_text t_acts t_past t_trial t_kept t_filled g_longest g_many g_layers g_length g_aheadOf g_cameFrom g_queue n_narrower n_order n_items n_names n_owners n_moving n_all n_size n_nameCount r_numbers r_size) (some (.int res.1)) (True) (w_Stgrn cI cJ cZ cN ta ga na ra t_text t_acts t_past t_trial t_kept t_filled res.2.1 res.2.2.1 g_layers g_length g_aheadOf g_cameFrom g_queue n_narrower n_order n_items n_names n_owners n_moving n_all n_size n_nameCount res.2.2.2.1 res.2.2.2.2) := by
  refine zM_of (own := RX6) (by decide) rfl [(0, .ref (ta 0)), (1, .int p1), (2, .int p2)] (Nat.le_of_ble_eq_true rfl) rfl ?_
  intro p e s m args below meth c A G _
  unfold f_X6_ways at h
  refine z_aload_n G dX6_ways_0 rfl 0 rfl ?_
  refine z_get (ci := 6) (v := .ref (na 0)) G in_X6 0 rfl rfl 8 (by decide) fl_X6_55 rfl dX6_ways_1 ?_
  refine z_iload_n G dX6_ways_4 rfl 1 rfl ?_
  refine z_iload_n G dX6_ways_5 rfl 2 rfl ?_
  refine z_kR (As := [.int p1, .int p2]) (rest := []) (st' := [.int (f_X2_hasPair n_all p1 p2)]) G pk_X2_hasPair pv_X2_hasPair ml_X6_191 (c_X2_hasPair (ta := na) (t_narrower := n_narrower) (t_order := n_order) (t_items := n_items) (t_names := n_names) (t_owners := n_owners) (t_moving := n_moving) (t_all := n_all) (t_size := n_size) (t_nameCount := n_nameCount) (p1 := p1) (p2 := p2) rfl) ⟨rfl, rfl⟩ ⟨Nat.le_of_ble_eq_true rfl, Nat.le_of_ble_eq_true rfl⟩ ⟨Nat.zero_le _, Nat.zero_le _⟩ rfl rfl (Nat.le_of_ble_eq_true rfl) 10 2 rfl rfl rfl [10, 11, 12, 13, 14, 15, 16] rfl rfl rfl dX6_ways_6 (fun z1 => ?_)
  refine z_if_ne (tgt := 14) G dX6_ways_9 (by decide) h (fun h => ?_) (fun h => ?_)
  · refine z_aload_n G dX6_ways_14 rfl 0 rfl ?_
    refine z_get (ci := 6) (v := .ref (ga 0)) G in_X6 0 rfl rfl 2 (by decide) fl_X6_32 rfl dX6_ways_15 ?_
    refine z_aload_n G dX6_ways_18 rfl 0 rfl ?_
    refine z_get (ci := 6) (v := .ref (na 0)) G in_X6 0 rfl rfl 8 (by decide) fl_X6_55 rfl dX6_ways_19 ?_
    refine z_iload_n G dX6_ways_22 rfl 1 rfl ?_
    obtain ⟨r2, e2, h⟩ := obind h
    refine z_kV (As := [.ref (na 0), .int p1]) (rest := []) (st' := []) (ws' := (w_Stgrn cI cJ cZ cN ta ga na ra t_text t_acts t_past t_trial t_kept t_filled r2.1 r2.2 g_layers g_length g_aheadOf g_cameFrom g_queue n_narrower n_order n_items n_names n_owners n_moving n_all n_size n_nameCount r_numbers r_size)) G pk_X1_countWays pv_X1_countWays ml_X6_205 (c_X1_countWays (ta := ga) (na := na) (t_longest := g_longest) (t_many := g_many) (t_layers := g_layers) (t_length := g_length) (t_aheadOf := g_aheadOf) (t_cameFrom := g_cameFrom) (t_queue := g_queue) (n_narrower := n_narrower) (n_order := n_order) (n_items := n_items) (n_names := n_names) (n_owners := n_owners) (n_moving := n_moving) (n_all := n_all) (n_size := n_size) (n_nameCount := n_nameCount) (p2 := p1) e2) ⟨rfl, rfl⟩ ⟨Nat.le_of_ble_eq_true rfl, Nat.le_of_ble_eq_true rfl⟩ ⟨Nat.zero_le _, Nat.zero_le _⟩ rfl rfl (Nat.le_of_ble_eq_true rfl) 3 1 rfl rfl rfl [3, 4, 5, 6, 7, 8, 9, 10, 11, 12, 13, 14, 15, 16] rfl rfl [none, none, none, some 0, some 1, some 2, some 3, some 4, some 5, some 6, some 7, some 8, some 9, some 10, some 11, some 12, some 13, none, none] rfl rfl rfl rfl dX6_ways_23 (fun z3 => ?_)
    refine z_aload_n G dX6_ways_26 rfl 0 rfl ?_
    refine z_get (ci := 6) (v := .ref (ga 0)) G in_X6 0 rfl rfl 2 (by decide) fl_X6_32 rfl dX6_ways_27 ?_
    refine z_get (ci := 1) (v := .ref (ga 2)) G in_X1 3 rfl rfl 1 (by decide) fl_X6_209 rfl dX6_ways_30 ?_
    refine z_iload_n G dX6_ways_33 rfl 2 rfl ?_
    refine z_laload G 5 1 rfl rfl dX6_ways_34 h (fun h => ?_)
    refine z_lstore_n (lv' := [(0, .ref (ta 0)), (1, .int p1), (2, .int p2), (3, .long (r2.2 (ix p2)))]) G dX6_ways_35 rfl (by decide) [1, 2, 3, 0] rfl ?_
    refine z_lload_n G dX6_ways_36 rfl 3 rfl ?_
    refine z_lconst (v := 0) G dX6_ways_37 (by decide) ?_
    refine z_lcmp G dX6_ways_38 ?_
    refine z_if_ne (tgt := 45) G dX6_ways_39 (by decide) h (fun h => ?_) (fun h => ?_)
    · refine z_aload_n G dX6_ways_45 rfl 0 rfl ?_
      refine z_get (ci := 6) (v := .ref (ra 0)) G in_X6 0 rfl rfl 0 (by decide) fl_X6_27 rfl dX6_ways_46 ?_
      refine z_lload_n G dX6_ways_49 rfl 3 rfl ?_
      obtain ⟨r4, e4, h⟩ := obind h
      refine z_kV (As := [.long (r2.2 (ix p2))]) (rest := []) (st' := []) (ws' := (w_Stgrn cI cJ cZ cN ta ga na ra t_text t_acts t_past t_trial t_kept t_filled r2.1 r2.2 g_layers g_length g_aheadOf g_cameFrom g_queue n_narrower n_order n_items n_names n_owners n_moving n_all n_size n_nameCount r4.1 r4.2)) G pk_X4_tell pv_X4_tell ml_X6_149 (c_X4_tell (ta := ra) (t_numbers := r_numbers) (t_size := r_size) (p1 := r2.2 (ix p2)) e4) ⟨rfl, rfl⟩ ⟨Nat.le_of_ble_eq_true rfl, Nat.le_of_ble_eq_true rfl⟩ ⟨Nat.zero_le _, Nat.zero_le _⟩ rfl rfl (Nat.le_of_ble_eq_true rfl) 17 4 rfl rfl rfl [17, 18] rfl rfl [none, none, none, none, none, none, none, none, none, none, none, none, none, none, none, none, none, some 0, some 1] rfl rfl rfl rfl dX6_ways_50 (fun z5 => ?_)
      refine z_aload_n G dX6_ways_53 rfl 0 rfl ?_
      refine z_get (ci := 6) (v := .ref (ga 0)) G in_X6 0 rfl rfl 2 (by decide) fl_X6_32 rfl dX6_ways_54 ?_
      refine z_get (ci := 1) (v := .ref (ga 1)) G in_X1 3 rfl rfl 0 (by decide) fl_X6_213 rfl dX6_ways_57 ?_
      refine z_iload_n G dX6_ways_60 rfl 2 rfl ?_
      refine z_iaload G 4 0 rfl rfl dX6_ways_61 h (fun h => ?_)
      obtain rfl := Option.some.inj h
      exact z_iret G rfl dX6_ways_62 rfl trivial rfl
    · refine z_bipush (v := (-2)) G dX6_ways_42 (by decide) ?_
      obtain rfl := Option.some.inj h
      exact z_iret G rfl dX6_ways_44 rfl trivial rfl
  · refine z_iconst (v := (-1)) G dX6_ways_12 (by decide) ?_
    obtain rfl := Option.some.inj h
    exact z_iret G rfl dX6_ways_13 rfl trivial rfl

noncomputable def f_X6_depth (g_longest : Nat → Int32) (n_narrower : Nat → Int32) (n_order : Nat → Int32) (n_all : Int32) (n_size : Int32) (r_numbers : Nat → Int64) (r_size : Int32) (p1 : Int32) : Option (Int32 × (Nat → Int32) × (Nat → Int64) × Int32) :=
  if (f_X2_has n_all p1) = 0 then some ((-1), g_longest, r_numbers, r_size) else (f_X1_measureUpwards g_longest n_narrower n_order n_size).bind (fun r2 => chk (inb p1 24) ((f_X4_tell r_numbers r_size ((r2 (ix p1)).toInt64)).bind (fun r4 => (f_X1_measureDownwards r2 n_narrower n_order n_size).bind (fun r6 => chk (inb p1 24) (some (r6 (ix p1), r6, r4.1, r4.2))))))
set_option maxRecDepth 100000 in
set_option maxHeartbeats 4000000 in
theorem c_X6_depth {l : Launch} {dC : Nat → ClassId} {dI : Nat → Nat → Nat} {cI cJ cZ cN : ClassId} {ta : Nat → Nat} {ga : Nat → Nat} {na : Nat → Nat} {ra : Nat → Nat} {t_text : Nat} {t_acts : Nat} {t_past : Nat} {t_trial : Nat} {t_kept : Nat → Nat} {t_filled : Nat → Int32} {g_longest : Nat → Int32} {g_many : Nat → Int64} {g_layers : Nat → Int32} {g_length : Int32} {g_aheadOf : Nat → Int32} {g_cameFrom : Nat → Int32} {g_queue : Nat → Int32} {n_narrower : Nat → Int32} {n_order : Nat → Int32} {n_items : Nat → Int64} {n_names : Nat → Int32} {n_owners : Nat → Int32} {n_moving : Nat → Int32} {n_all : Int32} {n_size : Int32} {n_nameCount : Int32} {r_numbers : Nat → Int64} {r_size : Int32} {p1 : Int32} {res : Int32 × (Nat → Int32) × (Nat → Int64) × Int32} (h : f_X6_depth g_longest n_narrower n_order n_all n_size r_numbers r_size p1 = some res) : zM l yX6_depth cX6_depth 2 (some .int) ({ frames := 2, cells := 0, slots := 0, locals := 45 }) [.ref (ta 0), .int p1] (dC, dI) vwCl (zT cI cJ cZ cN) (w_Stgrn cI cJ cZ cN ta ga na ra t_text t_acts t_past t_trial t_kept t_filled g_longest g_many g_layers g_length g_aheadOf g_cameFrom g_queue n_narrower n_order n_items n_names n_owners n_moving n_all n_size n_nameCount r_numbers r_size) (some (.int res.1)) (True) (w_Stgrn cI cJ cZ cN ta ga na ra t_text t_acts t_past t_trial t_kept t_filled res.2.1 g_many g_layers g_length g_aheadOf g_cameFrom g_queue n_narrower n_order n_items n_names n_owners n_moving n_all n_size n_nameCount res.2.2.1 res.2.2.2) := by
  refine zM_of (own := RX6) (by decide) rfl [(0, .ref (ta 0)), (1, .int p1)] (Nat.le_of_ble_eq_true rfl) rfl ?_
  intro p e s m args below meth c A G _
  unfold f_X6_depth at h
  refine z_aload_n G dX6_depth_0 rfl 0 rfl ?_
  refine z_get (ci := 6) (v := .ref (na 0)) G in_X6 0 rfl rfl 8 (by decide) fl_X6_55 rfl dX6_depth_1 ?_
  refine z_iload_n G dX6_depth_4 rfl 1 rfl ?_
  refine z_kR (As := [.int p1]) (rest := []) (st' := [.int (f_X2_has n_all p1)]) G pk_X2_has pv_X2_has ml_X6_94 (c_X2_has (ta := na) (t_narrower := n_narrower) (t_order := n_order) (t_items := n_items) (t_names := n_names) (t_owners := n_owners) (t_moving := n_moving) (t_all := n_all) (t_size := n_size) (t_nameCount := n_nameCount) (p1 := p1) rfl) ⟨rfl, rfl⟩ ⟨Nat.le_of_ble_eq_true rfl, Nat.le_of_ble_eq_true rfl⟩ ⟨Nat.zero_le _, Nat.zero_le _⟩ rfl rfl (Nat.le_of_ble_eq_true rfl) 10 2 rfl rfl rfl [10, 11, 12, 13, 14, 15, 16] rfl rfl rfl dX6_depth_5 (fun z1 => ?_)
  refine z_if_ne (tgt := 13) G dX6_depth_8 (by decide) h (fun h => ?_) (fun h => ?_)
  · refine z_aload_n G dX6_depth_13 rfl 0 rfl ?_
    refine z_get (ci := 6) (v := .ref (ga 0)) G in_X6 0 rfl rfl 2 (by decide) fl_X6_32 rfl dX6_depth_14 ?_
    refine z_aload_n G dX6_depth_17 rfl 0 rfl ?_
    refine z_get (ci := 6) (v := .ref (na 0)) G in_X6 0 rfl rfl 8 (by decide) fl_X6_55 rfl dX6_depth_18 ?_
    obtain ⟨r2, e2, h⟩ := obind h
    refine z_kV (As := [.ref (na 0)]) (rest := []) (st' := []) (ws' := (w_Stgrn cI cJ cZ cN ta ga na ra t_text t_acts t_past t_trial t_kept t_filled r2 g_many g_layers g_length g_aheadOf g_cameFrom g_queue n_narrower n_order n_items n_names n_owners n_moving n_all n_size n_nameCount r_numbers r_size)) G pk_X1_measureUpwards pv_X1_measureUpwards ml_X6_228 (c_X1_measureUpwards (ta := ga) (na := na) (t_longest := g_longest) (t_many := g_many) (t_layers := g_layers) (t_length := g_length) (t_aheadOf := g_aheadOf) (t_cameFrom := g_cameFrom) (t_queue := g_queue) (n_narrower := n_narrower) (n_order := n_order) (n_items := n_items) (n_names := n_names) (n_owners := n_owners) (n_moving := n_moving) (n_all := n_all) (n_size := n_size) (n_nameCount := n_nameCount) e2) ⟨rfl, rfl⟩ ⟨Nat.le_of_ble_eq_true rfl, Nat.le_of_ble_eq_true rfl⟩ ⟨Nat.zero_le _, Nat.zero_le _⟩ rfl rfl (Nat.le_of_ble_eq_true rfl) 3 1 rfl rfl rfl [3, 4, 5, 6, 7, 8, 9, 10, 11, 12, 13, 14, 15, 16] rfl rfl [none, none, none, some 0, some 1, some 2, some 3, some 4, some 5, some 6, some 7, some 8, some 9, some 10, some 11, some 12, some 13, none, none] rfl rfl rfl rfl dX6_depth_21 (fun z3 => ?_)
    refine z_aload_n G dX6_depth_24 rfl 0 rfl ?_
    refine z_get (ci := 6) (v := .ref (ra 0)) G in_X6 0 rfl rfl 0 (by decide) fl_X6_27 rfl dX6_depth_25 ?_
    refine z_aload_n G dX6_depth_28 rfl 0 rfl ?_
    refine z_get (ci := 6) (v := .ref (ga 0)) G in_X6 0 rfl rfl 2 (by decide) fl_X6_32 rfl dX6_depth_29 ?_
    refine z_get (ci := 1) (v := .ref (ga 1)) G in_X1 3 rfl rfl 0 (by decide) fl_X6_213 rfl dX6_depth_32 ?_
    refine z_iload_n G dX6_depth_35 rfl 1 rfl ?_
    refine z_iaload G 4 0 rfl rfl dX6_depth_36 h (fun h => ?_)
    refine z_i2l G dX6_depth_37 ?_
    obtain ⟨r4, e4, h⟩ := obind h
    refine z_kV (As := [.long ((r2 (ix p1)).toInt64)]) (rest := []) (st' := []) (ws' := (w_Stgrn cI cJ cZ cN ta ga na ra t_text t_acts t_past t_trial t_kept t_filled r2 g_many g_layers g_length g_aheadOf g_cameFrom g_queue n_narrower n_order n_items n_names n_owners n_moving n_all n_size n_nameCount r4.1 r4.2)) G pk_X4_tell pv_X4_tell ml_X6_149 (c_X4_tell (ta := ra) (t_numbers := r_numbers) (t_size := r_size) (p1 := (r2 (ix p1)).toInt64) e4) ⟨rfl, rfl⟩ ⟨Nat.le_of_ble_eq_true rfl, Nat.le_of_ble_eq_true rfl⟩ ⟨Nat.zero_le _, Nat.zero_le _⟩ rfl rfl (Nat.le_of_ble_eq_true rfl) 17 4 rfl rfl rfl [17, 18] rfl rfl [none, none, none, none, none, none, none, none, none, none, none, none, none, none, none, none, none, some 0, some 1] rfl rfl rfl rfl dX6_depth_38 (fun z5 => ?_)
    refine z_aload_n G dX6_depth_41 rfl 0 rfl ?_
    refine z_get (ci := 6) (v := .ref (ga 0)) G in_X6 0 rfl rfl 2 (by decide) fl_X6_32 rfl dX6_depth_42 ?_
    refine z_aload_n G dX6_depth_45 rfl 0 rfl ?_
    refine z_get (ci := 6) (v := .ref (na 0)) G in_X6 0 rfl rfl 8 (by decide) fl_X6_55 rfl dX6_depth_46 ?_
    obtain ⟨r6, e6, h⟩ := obind h
    refine z_kV (As := [.ref (na 0)]) (rest := []) (st' := []) (ws' := (w_Stgrn cI cJ cZ cN ta ga na ra t_text t_acts t_past t_trial t_kept t_filled r6 g_many g_layers g_length g_aheadOf g_cameFrom g_queue n_narrower n_order n_items n_names n_owners n_moving n_all n_size n_nameCount r4.1 r4.2)) G pk_X1_measureDownwards pv_X1_measureDownwards ml_X6_231 (c_X1_measureDownwards (ta := ga) (na := na) (t_longest := r2) (t_many := g_many) (t_layers := g_layers) (t_length := g_length) (t_aheadOf := g_aheadOf) (t_cameFrom := g_cameFrom) (t_queue := g_queue) (n_narrower := n_narrower) (n_order := n_order) (n_items := n_items) (n_names := n_names) (n_owners := n_owners) (n_moving := n_moving) (n_all := n_all) (n_size := n_size) (n_nameCount := n_nameCount) e6) ⟨rfl, rfl⟩ ⟨Nat.le_of_ble_eq_true rfl, Nat.le_of_ble_eq_true rfl⟩ ⟨Nat.zero_le _, Nat.zero_le _⟩ rfl rfl (Nat.le_of_ble_eq_true rfl) 3 1 rfl rfl rfl [3, 4, 5, 6, 7, 8, 9, 10, 11, 12, 13, 14, 15, 16] rfl rfl [none, none, none, some 0, some 1, some 2, some 3, some 4, some 5, some 6, some 7, some 8, some 9, some 10, some 11, some 12, some 13, none, none] rfl rfl rfl rfl dX6_depth_49 (fun z7 => ?_)
    refine z_aload_n G dX6_depth_52 rfl 0 rfl ?_
    refine z_get (ci := 6) (v := .ref (ga 0)) G in_X6 0 rfl rfl 2 (by decide) fl_X6_32 rfl dX6_depth_53 ?_
    refine z_get (ci := 1) (v := .ref (ga 1)) G in_X1 3 rfl rfl 0 (by decide) fl_X6_213 rfl dX6_depth_56 ?_
    refine z_iload_n G dX6_depth_59 rfl 1 rfl ?_
    refine z_iaload G 4 0 rfl rfl dX6_depth_60 h (fun h => ?_)
    obtain rfl := Option.some.inj h
    exact z_iret G rfl dX6_depth_61 rfl trivial rfl
  · refine z_iconst (v := (-1)) G dX6_depth_11 (by decide) ?_
    obtain rfl := Option.some.inj h
    exact z_iret G rfl dX6_depth_12 rfl trivial rfl

noncomputable def f_X6_chains_b15 (g_aheadOf : Nat → Int32) (g_cameFrom : Nat → Int32) (g_queue : Nat → Int32) (n_narrower : Nat → Int32) (n_order : Nat → Int32) (n_size : Int32) (r_numbers : Nat → Int64) (r_size : Int32) (k15 : Int32 → Int32 → (Nat → Int32) → Option (Int32 × (Nat → Int32) × (Nat → Int32) × (Nat → Int32) × (Nat → Int32) × (Nat → Int64) × Int32)) (x1 : Int32) (x2 : Int32) (g_longest : Nat → Int32) : Option (Int32 × (Nat → Int32) × (Nat → Int32) × (Nat → Int32) × (Nat → Int32) × (Nat → Int64) × Int32) :=
  if n_size ≤ x2 then (f_X4_tell r_numbers r_size (x1.toInt64)).bind (fun r3 => (f_X1_matchBelow g_aheadOf g_cameFrom g_queue n_narrower n_order n_size).bind (fun r5 => some (n_size - r5.1, g_longest, r5.2.1, r5.2.2.1, r5.2.2.2, r3.1, r3.2))) else chk (inb x2 24) (chk (inb (n_order (ix x2)) 24) (k15 (jmax x1 ((g_longest (ix (n_order (ix x2)))) + 1)) (x2 + 1) g_longest))
set_option maxRecDepth 100000 in
set_option maxHeartbeats 4000000 in
theorem zb_X6_chains_15 {p : Program} {l : Launch} {e : Env} {s : State} {m : MethodId} {args : Array Value} {below : List Frame} {meth : Method} {c : Code} {A : Nat → Prop} {dC : Nat → ClassId} {dI : Nat → Nat → Nat} {cI cJ cZ cN : ClassId} {ta : Nat → Nat} {ga : Nat → Nat} {na : Nat → Nat} {ra : Nat → Nat} {t_text : Nat} {t_acts : Nat} {t_past : Nat} {t_trial : Nat} {t_kept : Nat → Nat} {t_filled : Nat → Int32} {g_many : Nat → Int64} {g_layers : Nat → Int32} {g_length : Int32} {g_aheadOf : Nat → Int32} {g_cameFrom : Nat → Int32} {g_queue : Nat → Int32} {n_narrower : Nat → Int32} {n_order : Nat → Int32} {n_items : Nat → Int64} {n_names : Nat → Int32} {n_owners : Nat → Int32} {n_moving : Nat → Int32} {n_all : Int32} {n_size : Int32} {n_nameCount : Int32} {r_numbers : Nat → Int64} {r_size : Int32}  {res : Int32 × (Nat → Int32) × (Nat → Int32) × (Nat → Int32) × (Nat → Int32) × (Nat → Int64) × Int32} (G : zG p m c cX6_chains 3 s args RX6 (dC, dI) vwCl (zT cI cJ cZ cN) A meth (some .int)) {k15 : Int32 → Int32 → (Nat → Int32) → Option (Int32 × (Nat → Int32) × (Nat → Int32) × (Nat → Int32) × (Nat → Int32) × (Nat → Int64) × Int32)} (hr15 : ∀ (x1 : Int32) (x2 : Int32) (g_longest : Nat → Int32), k15 x1 x2 g_longest = some res → Z p l e ({ frames := 4, cells := 0, slots := 0, locals := 99 }) s m args below meth c (dC, dI) vwCl A 3 0 0 (MQ below (zQ (some (.int res.1)) (True) (w_Stgrn cI cJ cZ cN ta ga na ra t_text t_acts t_past t_trial t_kept t_filled res.2.1 g_many g_layers g_length res.2.2.1 res.2.2.2.1 res.2.2.2.2.1 n_narrower n_order n_items n_names n_owners n_moving n_all n_size n_nameCount res.2.2.2.2.2.1 res.2.2.2.2.2.2) (dC, dI) vwCl A) args s 0 0 A) (w_Stgrn cI cJ cZ cN ta ga na ra t_text t_acts t_past t_trial t_kept t_filled g_longest g_many g_layers g_length g_aheadOf g_cameFrom g_queue n_narrower n_order n_items n_names n_owners n_moving n_all n_size n_nameCount r_numbers r_size) [(0, .ref (ta 0)), (1, .int x1), (2, .int x2)] [] 15) : ∀ (x1 : Int32) (x2 : Int32) (g_longest : Nat → Int32), f_X6_chains_b15 g_aheadOf g_cameFrom g_queue n_narrower n_order n_size r_numbers r_size k15 x1 x2 g_longest = some res → Z p l e ({ frames := 4, cells := 0, slots := 0, locals := 99 }) s m args below meth c (dC, dI) vwCl A 3 0 0 (MQ below (zQ (some (.int res.1)) (True) (w_Stgrn cI cJ cZ cN ta ga na ra t_text t_acts t_past t_trial t_kept t_filled res.2.1 g_many g_layers g_length res.2.2.1 res.2.2.2.1 res.2.2.2.2.1 n_narrower n_order n_items n_names n_owners n_moving n_all n_size n_nameCount res.2.2.2.2.2.1 res.2.2.2.2.2.2) (dC, dI) vwCl A) args s 0 0 A) (w_Stgrn cI cJ cZ cN ta ga na ra t_text t_acts t_past t_trial t_kept t_filled g_longest g_many g_layers g_length g_aheadOf g_cameFrom g_queue n_narrower n_order n_items n_names n_owners n_moving n_all n_size n_nameCount r_numbers r_size) [(0, .ref (ta 0)), (1, .int x1), (2, .int x2)] [] 15 := by
  intro x1 x2 g_longest h
  unfold f_X6_chains_b15 at h
  refine z_iload_n G dX6_chains_15 rfl 2 rfl ?_
  refine z_aload_n G dX6_chains_16 rfl 0 rfl ?_
  refine z_get (ci := 6) (v := .ref (na 0)) G in_X6 0 rfl rfl 8 (by decide) fl_X6_55 rfl dX6_chains_17 ?_
  refine z_get (ci := 2) (v := .int n_size) G in_X2 10 rfl rfl 7 (by decide) fl_X6_80 rfl dX6_chains_20 ?_
  refine z_icmp_ge (tgt := 56) G dX6_chains_23 (by decide) h (fun h => ?_) (fun h => ?_)
  · refine z_aload_n G dX6_chains_56 rfl 0 rfl ?_
    refine z_get (ci := 6) (v := .ref (ra 0)) G in_X6 0 rfl rfl 0 (by decide) fl_X6_27 rfl dX6_chains_57 ?_
    refine z_iload_n G dX6_chains_60 rfl 1 rfl ?_
    refine z_i2l G dX6_chains_61 ?_
    obtain ⟨r3, e3, h⟩ := obind h
    refine z_kV (As := [.long (x1.toInt64)]) (rest := []) (st' := []) (ws' := (w_Stgrn cI cJ cZ cN ta ga na ra t_text t_acts t_past t_trial t_kept t_filled g_longest g_many g_layers g_length g_aheadOf g_cameFrom g_queue n_narrower n_order n_items n_names n_owners n_moving n_all n_size n_nameCount r3.1 r3.2)) G pk_X4_tell pv_X4_tell ml_X6_149 (c_X4_tell (ta := ra) (t_numbers := r_numbers) (t_size := r_size) (p1 := x1.toInt64) e3) ⟨rfl, rfl⟩ ⟨Nat.le_of_ble_eq_true rfl, Nat.le_of_ble_eq_true rfl⟩ ⟨Nat.zero_le _, Nat.zero_le _⟩ rfl rfl (Nat.le_of_ble_eq_true rfl) 17 4 rfl rfl rfl [17, 18] rfl rfl [none, none, none, none, none, none, none, none, none, none, none, none, none, none, none, none, none, some 0, some 1] rfl rfl rfl rfl dX6_chains_62 (fun z4 => ?_)
    refine z_aload_n G dX6_chains_65 rfl 0 rfl ?_
    refine z_get (ci := 6) (v := .ref (na 0)) G in_X6 0 rfl rfl 8 (by decide) fl_X6_55 rfl dX6_chains_66 ?_
    refine z_get (ci := 2) (v := .int n_size) G in_X2 10 rfl rfl 7 (by decide) fl_X6_80 rfl dX6_chains_69 ?_
    refine z_aload_n G dX6_chains_72 rfl 0 rfl ?_
    refine z_get (ci := 6) (v := .ref (ga 0)) G in_X6 0 rfl rfl 2 (by decide) fl_X6_32 rfl dX6_chains_73 ?_
    refine z_aload_n G dX6_chains_76 rfl 0 rfl ?_
    refine z_get (ci := 6) (v := .ref (na 0)) G in_X6 0 rfl rfl 8 (by decide) fl_X6_55 rfl dX6_chains_77 ?_
    obtain ⟨r5, e5, h⟩ := obind h
    refine z_kV (As := [.ref (na 0)]) (rest := [.int n_size]) (st' := [.int r5.1, .int n_size]) (ws' := (w_Stgrn cI cJ cZ cN ta ga na ra t_text t_acts t_past t_trial t_kept t_filled g_longest g_many g_layers g_length r5.2.1 r5.2.2.1 r5.2.2.2 n_narrower n_order n_items n_names n_owners n_moving n_all n_size n_nameCount r3.1 r3.2)) G pk_X1_matchBelow pv_X1_matchBelow ml_X6_242 (c_X1_matchBelow (ta := ga) (na := na) (t_longest := g_longest) (t_many := g_many) (t_layers := g_layers) (t_length := g_length) (t_aheadOf := g_aheadOf) (t_cameFrom := g_cameFrom) (t_queue := g_queue) (n_narrower := n_narrower) (n_order := n_order) (n_items := n_items) (n_names := n_names) (n_owners := n_owners) (n_moving := n_moving) (n_all := n_all) (n_size := n_size) (n_nameCount := n_nameCount) e5) ⟨rfl, rfl⟩ ⟨Nat.le_of_ble_eq_true rfl, Nat.le_of_ble_eq_true rfl⟩ ⟨Nat.zero_le _, Nat.zero_le _⟩ rfl rfl (Nat.le_of_ble_eq_true rfl) 3 1 rfl rfl rfl [3, 4, 5, 6, 7, 8, 9, 10, 11, 12, 13, 14, 15, 16] rfl rfl [none, none, none, some 0, some 1, some 2, some 3, some 4, some 5, some 6, some 7, some 8, some 9, some 10, some 11, some 12, some 13, none, none] rfl rfl rfl rfl dX6_chains_80 (fun z6 => ?_)
    refine z_isub G dX6_chains_83 ?_
    obtain rfl := Option.some.inj h
    exact z_iret G rfl dX6_chains_84 rfl trivial rfl
  · refine z_iload_n G dX6_chains_26 rfl 1 rfl ?_
    refine z_aload_n G dX6_chains_27 rfl 0 rfl ?_
    refine z_get (ci := 6) (v := .ref (ga 0)) G in_X6 0 rfl rfl 2 (by decide) fl_X6_32 rfl dX6_chains_28 ?_
    refine z_get (ci := 1) (v := .ref (ga 1)) G in_X1 3 rfl rfl 0 (by decide) fl_X6_213 rfl dX6_chains_31 ?_
    refine z_aload_n G dX6_chains_34 rfl 0 rfl ?_
    refine z_get (ci := 6) (v := .ref (na 0)) G in_X6 0 rfl rfl 8 (by decide) fl_X6_55 rfl dX6_chains_35 ?_
    refine z_get (ci := 2) (v := .ref (na 2)) G in_X2 10 rfl rfl 1 (by decide) fl_X6_164 rfl dX6_chains_38 ?_
    refine z_iload_n G dX6_chains_41 rfl 2 rfl ?_
    refine z_iaload G 12 0 rfl rfl dX6_chains_42 h (fun h => ?_)
    refine z_iaload G 4 0 rfl rfl dX6_chains_43 h (fun h => ?_)
    refine z_iconst (v := 1) G dX6_chains_44 (by decide) ?_
    refine z_iadd G dX6_chains_45 ?_
    refine z_max G ml_X6_237 ps_J9_max_7cf53 kz_J9 pk_J9_max_7cf53.1 ⟨Nat.le_of_ble_eq_true rfl, Nat.le_of_ble_eq_true rfl⟩ ⟨Nat.zero_le _, Nat.zero_le _⟩ dX6_chains_46 ?_
    refine z_istore_n (lv' := [(0, .ref (ta 0)), (1, .int (jmax x1 ((g_longest (ix (n_order (ix x2)))) + 1))), (2, .int x2)]) G dX6_chains_49 rfl (by decide) [1, 0, 2] rfl ?_
    refine z_iinc (v := x2 + 1) (lv' := [(0, .ref (ta 0)), (1, .int (jmax x1 ((g_longest (ix (n_order (ix x2)))) + 1))), (2, .int (x2 + 1))]) G dX6_chains_50 2 rfl rfl (by decide) [1, 2, 0] rfl ?_
    refine z_goto (tgt := 15) G dX6_chains_53 (by decide) ?_
    exact hr15 (jmax x1 ((g_longest (ix (n_order (ix x2)))) + 1)) (x2 + 1) g_longest h
noncomputable def f_X6_chains_l15 (g_aheadOf : Nat → Int32) (g_cameFrom : Nat → Int32) (g_queue : Nat → Int32) (n_narrower : Nat → Int32) (n_order : Nat → Int32) (n_size : Int32) (r_numbers : Nat → Int64) (r_size : Int32)  (x1 : Int32) (x2 : Int32) (g_longest : Nat → Int32) : Option (Int32 × (Nat → Int32) × (Nat → Int32) × (Nat → Int32) × (Nat → Int32) × (Nat → Int64) × Int32) := loopN (V := Int32 × Int32 × (Nat → Int32)) (fun rc v => f_X6_chains_b15 g_aheadOf g_cameFrom g_queue n_narrower n_order n_size r_numbers r_size  (fun x0_ x1_ x2_ => rc (x0_, x1_, x2_)) v.1 v.2.1 v.2.2) 200 (x1, x2, g_longest)
set_option maxRecDepth 100000 in
set_option maxHeartbeats 4000000 in
theorem zl_X6_chains_15 {p : Program} {l : Launch} {e : Env} {s : State} {m : MethodId} {args : Array Value} {below : List Frame} {meth : Method} {c : Code} {A : Nat → Prop} {dC : Nat → ClassId} {dI : Nat → Nat → Nat} {cI cJ cZ cN : ClassId} {ta : Nat → Nat} {ga : Nat → Nat} {na : Nat → Nat} {ra : Nat → Nat} {t_text : Nat} {t_acts : Nat} {t_past : Nat} {t_trial : Nat} {t_kept : Nat → Nat} {t_filled : Nat → Int32} {g_many : Nat → Int64} {g_layers : Nat → Int32} {g_length : Int32} {g_aheadOf : Nat → Int32} {g_cameFrom : Nat → Int32} {g_queue : Nat → Int32} {n_narrower : Nat → Int32} {n_order : Nat → Int32} {n_items : Nat → Int64} {n_names : Nat → Int32} {n_owners : Nat → Int32} {n_moving : Nat → Int32} {n_all : Int32} {n_size : Int32} {n_nameCount : Int32} {r_numbers : Nat → Int64} {r_size : Int32}  {res : Int32 × (Nat → Int32) × (Nat → Int32) × (Nat → Int32) × (Nat → Int32) × (Nat → Int64) × Int32} (G : zG p m c cX6_chains 3 s args RX6 (dC, dI) vwCl (zT cI cJ cZ cN) A meth (some .int))  : ∀ (x1 : Int32) (x2 : Int32) (g_longest : Nat → Int32), f_X6_chains_l15 g_aheadOf g_cameFrom g_queue n_narrower n_order n_size r_numbers r_size  x1 x2 g_longest = some res → Z p l e ({ frames := 4, cells := 0, slots := 0, locals := 99 }) s m args below meth c (dC, dI) vwCl A 3 0 0 (MQ below (zQ (some (.int res.1)) (True) (w_Stgrn cI cJ cZ cN ta ga na ra t_text t_acts t_past t_trial t_kept t_filled res.2.1 g_many g_layers g_length res.2.2.1 res.2.2.2.1 res.2.2.2.2.1 n_narrower n_order n_items n_names n_owners n_moving n_all n_size n_nameCount res.2.2.2.2.2.1 res.2.2.2.2.2.2) (dC, dI) vwCl A) args s 0 0 A) (w_Stgrn cI cJ cZ cN ta ga na ra t_text t_acts t_past t_trial t_kept t_filled g_longest g_many g_layers g_length g_aheadOf g_cameFrom g_queue n_narrower n_order n_items n_names n_owners n_moving n_all n_size n_nameCount r_numbers r_size) [(0, .ref (ta 0)), (1, .int x1), (2, .int x2)] [] 15 := by
  intro x1 x2 g_longest h
  exact zloop (P := fun v => Z p l e ({ frames := 4, cells := 0, slots := 0, locals := 99 }) s m args below meth c (dC, dI) vwCl A 3 0 0 (MQ below (zQ (some (.int res.1)) (True) (w_Stgrn cI cJ cZ cN ta ga na ra t_text t_acts t_past t_trial t_kept t_filled res.2.1 g_many g_layers g_length res.2.2.1 res.2.2.2.1 res.2.2.2.2.1 n_narrower n_order n_items n_names n_owners n_moving n_all n_size n_nameCount res.2.2.2.2.2.1 res.2.2.2.2.2.2) (dC, dI) vwCl A) args s 0 0 A) (w_Stgrn cI cJ cZ cN ta ga na ra t_text t_acts t_past t_trial t_kept t_filled v.2.2 g_many g_layers g_length g_aheadOf g_cameFrom g_queue n_narrower n_order n_items n_names n_owners n_moving n_all n_size n_nameCount r_numbers r_size) [(0, .ref (ta 0)), (1, .int v.1), (2, .int v.2.1)] [] 15) (fun rc hr v h => zb_X6_chains_15 G  (fun x0_ x1_ x2_ h => hr (x0_, x1_, x2_) h) v.1 v.2.1 v.2.2 h) 200 (x1, x2, g_longest) h
noncomputable def f_X6_chains (g_longest : Nat → Int32) (g_aheadOf : Nat → Int32) (g_cameFrom : Nat → Int32) (g_queue : Nat → Int32) (n_narrower : Nat → Int32) (n_order : Nat → Int32) (n_size : Int32) (r_numbers : Nat → Int64) (r_size : Int32) : Option (Int32 × (Nat → Int32) × (Nat → Int32) × (Nat → Int32) × (Nat → Int32) × (Nat → Int64) × Int32) :=
  (f_X1_measureDownwards g_longest n_narrower n_order n_size).bind (fun r1 => f_X6_chains_l15 g_aheadOf g_cameFrom g_queue n_narrower n_order n_size r_numbers r_size  0 0 r1)
set_option maxRecDepth 100000 in
set_option maxHeartbeats 4000000 in
theorem c_X6_chains {l : Launch} {dC : Nat → ClassId} {dI : Nat → Nat → Nat} {cI cJ cZ cN : ClassId} {ta : Nat → Nat} {ga : Nat → Nat} {na : Nat → Nat} {ra : Nat → Nat} {t_text : Nat} {t_acts : Nat} {t_past : Nat} {t_trial : Nat} {t_kept : Nat → Nat} {t_filled : Nat → Int32} {g_longest : Nat → Int32} {g_many : Nat → Int64} {g_layers : Nat → Int32} {g_length : Int32} {g_aheadOf : Nat → Int32} {g_cameFrom : Nat → Int32} {g_queue : Nat → Int32} {n_narrower : Nat → Int32} {n_order : Nat → Int32} {n_items : Nat → Int64} {n_names : Nat → Int32} {n_owners : Nat → Int32} {n_moving : Nat → Int32} {n_all : Int32} {n_size : Int32} {n_nameCount : Int32} {r_numbers : Nat → Int64} {r_size : Int32}  {res : Int32 × (Nat → Int32) × (Nat → Int32) × (Nat → Int32) × (Nat → Int32) × (Nat → Int64) × Int32} (h : f_X6_chains g_longest g_aheadOf g_cameFrom g_queue n_narrower n_order n_size r_numbers r_size = some res) : zM l yX6_chains cX6_chains 3 (some .int) ({ frames := 4, cells := 0, slots := 0, locals := 99 }) [.ref (ta 0)] (dC, dI) vwCl (zT cI cJ cZ cN) (w_Stgrn cI cJ cZ cN ta ga na ra t_text t_acts t_past t_trial t_kept t_filled g_longest g_many g_layers g_length g_aheadOf g_cameFrom g_queue n_narrower n_order n_items n_names n_owners n_moving n_all n_size n_nameCount r_numbers r_size) (some (.int res.1)) (True) (w_Stgrn cI cJ cZ cN ta ga na ra t_text t_acts t_past t_trial t_kept t_filled res.2.1 g_many g_layers g_length res.2.2.1 res.2.2.2.1 res.2.2.2.2.1 n_narrower n_order n_items n_names n_owners n_moving n_all n_size n_nameCount res.2.2.2.2.2.1 res.2.2.2.2.2.2) := by
  refine zM_of (own := RX6) (by decide) rfl [(0, .ref (ta 0))] (Nat.le_of_ble_eq_true rfl) rfl ?_
  intro p e s m args below meth c A G _
  unfold f_X6_chains at h
  refine z_aload_n G dX6_chains_0 rfl 0 rfl ?_
  refine z_get (ci := 6) (v := .ref (ga 0)) G in_X6 0 rfl rfl 2 (by decide) fl_X6_32 rfl dX6_chains_1 ?_
  refine z_aload_n G dX6_chains_4 rfl 0 rfl ?_
  refine z_get (ci := 6) (v := .ref (na 0)) G in_X6 0 rfl rfl 8 (by decide) fl_X6_55 rfl dX6_chains_5 ?_
  obtain ⟨r1, e1, h⟩ := obind h
  refine z_kV (As := [.ref (na 0)]) (rest := []) (st' := []) (ws' := (w_Stgrn cI cJ cZ cN ta ga na ra t_text t_acts t_past t_trial t_kept t_filled r1 g_many g_layers g_length g_aheadOf g_cameFrom g_queue n_narrower n_order n_items n_names n_owners n_moving n_all n_size n_nameCount r_numbers r_size)) G pk_X1_measureDownwards pv_X1_measureDownwards ml_X6_231 (c_X1_measureDownwards (ta := ga) (na := na) (t_longest := g_longest) (t_many := g_many) (t_layers := g_layers) (t_length := g_length) (t_aheadOf := g_aheadOf) (t_cameFrom := g_cameFrom) (t_queue := g_queue) (n_narrower := n_narrower) (n_order := n_order) (n_items := n_items) (n_names := n_names) (n_owners := n_owners) (n_moving := n_moving) (n_all := n_all) (n_size := n_size) (n_nameCount := n_nameCount) e1) ⟨rfl, rfl⟩ ⟨Nat.le_of_ble_eq_true rfl, Nat.le_of_ble_eq_true rfl⟩ ⟨Nat.zero_le _, Nat.zero_le _⟩ rfl rfl (Nat.le_of_ble_eq_true rfl) 3 1 rfl rfl rfl [3, 4, 5, 6, 7, 8, 9, 10, 11, 12, 13, 14, 15, 16] rfl rfl [none, none, none, some 0, some 1, some 2, some 3, some 4, some 5, some 6, some 7, some 8, some 9, some 10, some 11, some 12, some 13, none, none] rfl rfl rfl rfl dX6_chains_8 (fun z2 => ?_)
  refine z_iconst (v := 0) G dX6_chains_11 (by decide) ?_
  refine z_istore_n (lv' := [(0, .ref (ta 0)), (1, .int 0)]) G dX6_chains_12 rfl (by decide) [1, 0] rfl ?_
  refine z_iconst (v := 0) G dX6_chains_13 (by decide) ?_
  refine z_istore_n (lv' := [(0, .ref (ta 0)), (1, .int 0), (2, .int 0)]) G dX6_chains_14 rfl (by decide) [1, 2, 0] rfl ?_
  exact zl_X6_chains_15 G  0 0 r1 h

noncomputable def f_X6_search_b83 (x_signs : Nat → Int32) (n_narrower : Nat → Int32) (n_order : Nat → Int32) (n_items : Nat → Int64) (n_names : Nat → Int32) (n_owners : Nat → Int32) (n_all : Int32) (n_size : Int32) (n_nameCount : Int32) (k83 : Int64 → Int32 → (Nat → Int32) → Int32 → Int32 → Int32 → (Nat → Int64) → Int32 → Option (Int32 × (Nat → Int32) × Int32 × Int32 × Int32 × (Nat → Int64) × Int32)) (x2 : Int64) (x4 : Int32) (x_words : Nat → Int32) (x_wordCount : Int32) (x_size : Int32) (x_next : Int32) (r_numbers : Nat → Int64) (r_size : Int32) : Option (Int32 × (Nat → Int32) × Int32 × Int32 × Int32 × (Nat → Int64) × Int32) :=
  if 40 ≤ x4 then some (r_size, x_words, x_wordCount, x_size, x_next, r_numbers, r_size) else if (lg_cmp ((jlshr x2 x4) &&& 1) 0) = 0 then k83 x2 (x4 + 1) x_words x_wordCount x_size x_next r_numbers r_size else (f_X4_add r_numbers r_size (x4.toInt64)).bind (fun r8 => k83 x2 (x4 + 1) x_words x_wordCount x_size x_next r8.1 r8.2)
set_option maxRecDepth 100000 in
set_option maxHeartbeats 4000000 in
theorem zb_X6_search_83 {p : Program} {l : Launch} {e : Env} {s : State} {m : MethodId} {args : Array Value} {below : List Frame} {meth : Method} {c : Code} {A : Nat → Prop} {dC : Nat → ClassId} {dI : Nat → Nat → Nat} {cI cJ cZ cN : ClassId} {ta : Nat → Nat} {xa : Nat → Nat} {na : Nat → Nat} {ra : Nat → Nat} {t_guide : Nat} {t_acts : Nat} {t_past : Nat} {t_trial : Nat} {t_kept : Nat → Nat} {t_filled : Nat → Int32} {x_signs : Nat → Int32} {n_narrower : Nat → Int32} {n_order : Nat → Int32} {n_items : Nat → Int64} {n_names : Nat → Int32} {n_owners : Nat → Int32} {n_moving : Nat → Int32} {n_all : Int32} {n_size : Int32} {n_nameCount : Int32}  {res : Int32 × (Nat → Int32) × Int32 × Int32 × Int32 × (Nat → Int64) × Int32} (G : zG p m c cX6_search 5 s args RX6 (dC, dI) vwCl (zT cI cJ cZ cN) A meth (some .int)) {k83 : Int64 → Int32 → (Nat → Int32) → Int32 → Int32 → Int32 → (Nat → Int64) → Int32 → Option (Int32 × (Nat → Int32) × Int32 × Int32 × Int32 × (Nat → Int64) × Int32)} (hr83 : ∀ (x2 : Int64) (x4 : Int32) (x_words : Nat → Int32) (x_wordCount : Int32) (x_size : Int32) (x_next : Int32) (r_numbers : Nat → Int64) (r_size : Int32), k83 x2 x4 x_words x_wordCount x_size x_next r_numbers r_size = some res → Z p l e ({ frames := 4, cells := 0, slots := 0, locals := 95 }) s m args below meth c (dC, dI) vwCl A 5 0 0 (MQ below (zQ (some (.int res.1)) (True) (w_Ssearch cI cJ cZ cN ta xa na ra t_guide t_acts t_past t_trial t_kept t_filled res.2.1 res.2.2.1 res.2.2.2.1 x_signs res.2.2.2.2.1 n_narrower n_order n_items n_names n_owners n_moving n_all n_size n_nameCount res.2.2.2.2.2.1 res.2.2.2.2.2.2) (dC, dI) vwCl A) args s 0 0 A) (w_Ssearch cI cJ cZ cN ta xa na ra t_guide t_acts t_past t_trial t_kept t_filled x_words x_wordCount x_size x_signs x_next n_narrower n_order n_items n_names n_owners n_moving n_all n_size n_nameCount r_numbers r_size) [(0, .ref (ta 0)), (2, .long x2), (4, .int x4)] [] 83) : ∀ (x2 : Int64) (x4 : Int32) (x_words : Nat → Int32) (x_wordCount : Int32) (x_size : Int32) (x_next : Int32) (r_numbers : Nat → Int64) (r_size : Int32), f_X6_search_b83 x_signs n_narrower n_order n_items n_names n_owners n_all n_size n_nameCount k83 x2 x4 x_words x_wordCount x_size x_next r_numbers r_size = some res → Z p l e ({ frames := 4, cells := 0, slots := 0, locals := 95 }) s m args below meth c (dC, dI) vwCl A 5 0 0 (MQ below (zQ (some (.int res.1)) (True) (w_Ssearch cI cJ cZ cN ta xa na ra t_guide t_acts t_past t_trial t_kept t_filled res.2.1 res.2.2.1 res.2.2.2.1 x_signs res.2.2.2.2.1 n_narrower n_order n_items n_names n_owners n_moving n_all n_size n_nameCount res.2.2.2.2.2.1 res.2.2.2.2.2.2) (dC, dI) vwCl A) args s 0 0 A) (w_Ssearch cI cJ cZ cN ta xa na ra t_guide t_acts t_past t_trial t_kept t_filled x_words x_wordCount x_size x_signs x_next n_narrower n_order n_items n_names n_owners n_moving n_all n_size n_nameCount r_numbers r_size) [(0, .ref (ta 0)), (2, .long x2), (4, .int x4)] [] 83 := by
  intro x2 x4 x_words x_wordCount x_size x_next r_numbers r_size h
  unfold f_X6_search_b83 at h
  refine z_iload G dX6_search_83 2 rfl ?_
  refine z_bipush (v := 40) G dX6_search_85 (by decide) ?_
  refine z_icmp_ge (tgt := 117) G dX6_search_87 (by decide) h (fun h => ?_) (fun h => ?_)
  · refine z_aload_n G dX6_search_117 rfl 0 rfl ?_
    refine z_get (ci := 6) (v := .ref (ra 0)) G in_X6 0 rfl rfl 0 (by decide) fl_X6_27 rfl dX6_search_118 ?_
    refine z_get (ci := 4) (v := .int r_size) G in_X4 13 rfl rfl 1 (by decide) fl_X6_120 rfl dX6_search_121 ?_
    obtain rfl := Option.some.inj h
    exact z_iret G rfl dX6_search_124 rfl trivial rfl
  · refine z_lload_n G dX6_search_90 rfl 1 rfl ?_
    refine z_iload G dX6_search_91 2 rfl ?_
    refine z_lshr G dX6_search_93 ?_
    refine z_lconst (v := 1) G dX6_search_94 (by decide) ?_
    refine z_land G dX6_search_95 ?_
    refine z_lconst (v := 0) G dX6_search_96 (by decide) ?_
    refine z_lcmp G dX6_search_97 ?_
    refine z_if_eq (tgt := 111) G dX6_search_98 (by decide) h (fun h => ?_) (fun h => ?_)
    · refine z_iinc (v := x4 + 1) (lv' := [(0, .ref (ta 0)), (2, .long x2), (4, .int (x4 + 1))]) G dX6_search_111 2 rfl rfl (by decide) [1, 2, 0] rfl ?_
      refine z_goto (tgt := 83) G dX6_search_114 (by decide) ?_
      exact hr83 x2 (x4 + 1) x_words x_wordCount x_size x_next r_numbers r_size h
    · refine z_aload_n G dX6_search_101 rfl 0 rfl ?_
      refine z_get (ci := 6) (v := .ref (ra 0)) G in_X6 0 rfl rfl 0 (by decide) fl_X6_27 rfl dX6_search_102 ?_
      refine z_iload G dX6_search_105 2 rfl ?_
      refine z_i2l G dX6_search_107 ?_
      obtain ⟨r8, e8, h⟩ := obind h
      refine z_kV (As := [.long (x4.toInt64)]) (rest := []) (st' := []) (ws' := (w_Ssearch cI cJ cZ cN ta xa na ra t_guide t_acts t_past t_trial t_kept t_filled x_words x_wordCount x_size x_signs x_next n_narrower n_order n_items n_names n_owners n_moving n_all n_size n_nameCount r8.1 r8.2)) G pk_X4_add pv_X4_add ml_X6_116 (c_X4_add (ta := ra) (t_numbers := r_numbers) (t_size := r_size) (p1 := x4.toInt64) e8) ⟨rfl, rfl⟩ ⟨Nat.le_of_ble_eq_true rfl, Nat.le_of_ble_eq_true rfl⟩ ⟨Nat.zero_le _, Nat.zero_le _⟩ rfl rfl (Nat.le_of_ble_eq_true rfl) 13 4 rfl rfl rfl [13, 14] rfl rfl [none, none, none, none, none, none, none, none, none, none, none, none, none, some 0, some 1] rfl rfl rfl rfl dX6_search_108 (fun z9 => ?_)
      refine z_iinc (v := x4 + 1) (lv' := [(0, .ref (ta 0)), (2, .long x2), (4, .int (x4 + 1))]) G dX6_search_111 2 rfl rfl (by decide) [1, 2, 0] rfl ?_
      refine z_goto (tgt := 83) G dX6_search_114 (by decide) ?_
      exact hr83 x2 (x4 + 1) x_words x_wordCount x_size x_next r8.1 r8.2 h
noncomputable def f_X6_search_l83 (x_signs : Nat → Int32) (n_narrower : Nat → Int32) (n_order : Nat → Int32) (n_items : Nat → Int64) (n_names : Nat → Int32) (n_owners : Nat → Int32) (n_all : Int32) (n_size : Int32) (n_nameCount : Int32)  (x2 : Int64) (x4 : Int32) (x_words : Nat → Int32) (x_wordCount : Int32) (x_size : Int32) (x_next : Int32) (r_numbers : Nat → Int64) (r_size : Int32) : Option (Int32 × (Nat → Int32) × Int32 × Int32 × Int32 × (Nat → Int64) × Int32) := loopN (V := Int64 × Int32 × (Nat → Int32) × Int32 × Int32 × Int32 × (Nat → Int64) × Int32) (fun rc v => f_X6_search_b83 x_signs n_narrower n_order n_items n_names n_owners n_all n_size n_nameCount  (fun x0_ x1_ x2_ x3_ x4_ x5_ x6_ x7_ => rc (x0_, x1_, x2_, x3_, x4_, x5_, x6_, x7_)) v.1 v.2.1 v.2.2.1 v.2.2.2.1 v.2.2.2.2.1 v.2.2.2.2.2.1 v.2.2.2.2.2.2.1 v.2.2.2.2.2.2.2) 200 (x2, x4, x_words, x_wordCount, x_size, x_next, r_numbers, r_size)
set_option maxRecDepth 100000 in
set_option maxHeartbeats 4000000 in
theorem zl_X6_search_83 {p : Program} {l : Launch} {e : Env} {s : State} {m : MethodId} {args : Array Value} {below : List Frame} {meth : Method} {c : Code} {A : Nat → Prop} {dC : Nat → ClassId} {dI : Nat → Nat → Nat} {cI cJ cZ cN : ClassId} {ta : Nat → Nat} {xa : Nat → Nat} {na : Nat → Nat} {ra : Nat → Nat} {t_guide : Nat} {t_acts : Nat} {t_past : Nat} {t_trial : Nat} {t_kept : Nat → Nat} {t_filled : Nat → Int32} {x_signs : Nat → Int32} {n_narrower : Nat → Int32} {n_order : Nat → Int32} {n_items : Nat → Int64} {n_names : Nat → Int32} {n_owners : Nat → Int32} {n_moving : Nat → Int32} {n_all : Int32} {n_size : Int32} {n_nameCount : Int32}  {res : Int32 × (Nat → Int32) × Int32 × Int32 × Int32 × (Nat → Int64) × Int32} (G : zG p m c cX6_search 5 s args RX6 (dC, dI) vwCl (zT cI cJ cZ cN) A meth (some .int))  : ∀ (x2 : Int64) (x4 : Int32) (x_words : Nat → Int32) (x_wordCount : Int32) (x_size : Int32) (x_next : Int32) (r_numbers : Nat → Int64) (r_size : Int32), f_X6_search_l83 x_signs n_narrower n_order n_items n_names n_owners n_all n_size n_nameCount  x2 x4 x_words x_wordCount x_size x_next r_numbers r_size = some res → Z p l e ({ frames := 4, cells := 0, slots := 0, locals := 95 }) s m args below meth c (dC, dI) vwCl A 5 0 0 (MQ below (zQ (some (.int res.1)) (True) (w_Ssearch cI cJ cZ cN ta xa na ra t_guide t_acts t_past t_trial t_kept t_filled res.2.1 res.2.2.1 res.2.2.2.1 x_signs res.2.2.2.2.1 n_narrower n_order n_items n_names n_owners n_moving n_all n_size n_nameCount res.2.2.2.2.2.1 res.2.2.2.2.2.2) (dC, dI) vwCl A) args s 0 0 A) (w_Ssearch cI cJ cZ cN ta xa na ra t_guide t_acts t_past t_trial t_kept t_filled x_words x_wordCount x_size x_signs x_next n_narrower n_order n_items n_names n_owners n_moving n_all n_size n_nameCount r_numbers r_size) [(0, .ref (ta 0)), (2, .long x2), (4, .int x4)] [] 83 := by
  intro x2 x4 x_words x_wordCount x_size x_next r_numbers r_size h
  exact zloop (P := fun v => Z p l e ({ frames := 4, cells := 0, slots := 0, locals := 95 }) s m args below meth c (dC, dI) vwCl A 5 0 0 (MQ below (zQ (some (.int res.1)) (True) (w_Ssearch cI cJ cZ cN ta xa na ra t_guide t_acts t_past t_trial t_kept t_filled res.2.1 res.2.2.1 res.2.2.2.1 x_signs res.2.2.2.2.1 n_narrower n_order n_items n_names n_owners n_moving n_all n_size n_nameCount res.2.2.2.2.2.1 res.2.2.2.2.2.2) (dC, dI) vwCl A) args s 0 0 A) (w_Ssearch cI cJ cZ cN ta xa na ra t_guide t_acts t_past t_trial t_kept t_filled v.2.2.1 v.2.2.2.1 v.2.2.2.2.1 x_signs v.2.2.2.2.2.1 n_narrower n_order n_items n_names n_owners n_moving n_all n_size n_nameCount v.2.2.2.2.2.2.1 v.2.2.2.2.2.2.2) [(0, .ref (ta 0)), (2, .long v.1), (4, .int v.2.1)] [] 83) (fun rc hr v h => zb_X6_search_83 G  (fun x0_ x1_ x2_ x3_ x4_ x5_ x6_ x7_ h => hr (x0_, x1_, x2_, x3_, x4_, x5_, x6_, x7_) h) v.1 v.2.1 v.2.2.1 v.2.2.2.1 v.2.2.2.2.1 v.2.2.2.2.2.1 v.2.2.2.2.2.2.1 v.2.2.2.2.2.2.2 h) 200 (x2, x4, x_words, x_wordCount, x_size, x_next, r_numbers, r_size) h
noncomputable def f_X6_search_b36 (x_signs : Nat → Int32) (n_narrower : Nat → Int32) (n_order : Nat → Int32) (n_items : Nat → Int64) (n_names : Nat → Int32) (n_owners : Nat → Int32) (n_all : Int32) (n_size : Int32) (n_nameCount : Int32) (r_numbers : Nat → Int64) (r_size : Int32) (k36 : Int64 → Int32 → (Nat → Int32) → Int32 → Int32 → Int32 → Option (Int32 × (Nat → Int32) × Int32 × Int32 × Int32 × (Nat → Int64) × Int32)) (x2 : Int64) (x4 : Int32) (x_words : Nat → Int32) (x_wordCount : Int32) (x_size : Int32) (x_next : Int32) : Option (Int32 × (Nat → Int32) × Int32 × Int32 × Int32 × (Nat → Int64) × Int32) :=
  if x_wordCount ≤ x4 then f_X6_search_l83 x_signs n_narrower n_order n_items n_names n_owners n_all n_size n_nameCount  x2 0 x_words x_wordCount x_size x_next r_numbers (f_X4_clear r_size) else chk (inb x4 80) ((f_X2_searchOn n_narrower n_order n_items n_all n_size x2 (x_words (ix x4))).bind (fun r6 => k36 r6 (x4 + 1) x_words x_wordCount x_size x_next))
set_option maxRecDepth 100000 in
set_option maxHeartbeats 4000000 in
theorem zb_X6_search_36 {p : Program} {l : Launch} {e : Env} {s : State} {m : MethodId} {args : Array Value} {below : List Frame} {meth : Method} {c : Code} {A : Nat → Prop} {dC : Nat → ClassId} {dI : Nat → Nat → Nat} {cI cJ cZ cN : ClassId} {ta : Nat → Nat} {xa : Nat → Nat} {na : Nat → Nat} {ra : Nat → Nat} {t_guide : Nat} {t_acts : Nat} {t_past : Nat} {t_trial : Nat} {t_kept : Nat → Nat} {t_filled : Nat → Int32} {x_signs : Nat → Int32} {n_narrower : Nat → Int32} {n_order : Nat → Int32} {n_items : Nat → Int64} {n_names : Nat → Int32} {n_owners : Nat → Int32} {n_moving : Nat → Int32} {n_all : Int32} {n_size : Int32} {n_nameCount : Int32} {r_numbers : Nat → Int64} {r_size : Int32}  {res : Int32 × (Nat → Int32) × Int32 × Int32 × Int32 × (Nat → Int64) × Int32} (G : zG p m c cX6_search 5 s args RX6 (dC, dI) vwCl (zT cI cJ cZ cN) A meth (some .int)) {k36 : Int64 → Int32 → (Nat → Int32) → Int32 → Int32 → Int32 → Option (Int32 × (Nat → Int32) × Int32 × Int32 × Int32 × (Nat → Int64) × Int32)} (hr36 : ∀ (x2 : Int64) (x4 : Int32) (x_words : Nat → Int32) (x_wordCount : Int32) (x_size : Int32) (x_next : Int32), k36 x2 x4 x_words x_wordCount x_size x_next = some res → Z p l e ({ frames := 4, cells := 0, slots := 0, locals := 95 }) s m args below meth c (dC, dI) vwCl A 5 0 0 (MQ below (zQ (some (.int res.1)) (True) (w_Ssearch cI cJ cZ cN ta xa na ra t_guide t_acts t_past t_trial t_kept t_filled res.2.1 res.2.2.1 res.2.2.2.1 x_signs res.2.2.2.2.1 n_narrower n_order n_items n_names n_owners n_moving n_all n_size n_nameCount res.2.2.2.2.2.1 res.2.2.2.2.2.2) (dC, dI) vwCl A) args s 0 0 A) (w_Ssearch cI cJ cZ cN ta xa na ra t_guide t_acts t_past t_trial t_kept t_filled x_words x_wordCount x_size x_signs x_next n_narrower n_order n_items n_names n_owners n_moving n_all n_size n_nameCount r_numbers r_size) [(0, .ref (ta 0)), (2, .long x2), (4, .int x4)] [] 36) : ∀ (x2 : Int64) (x4 : Int32) (x_words : Nat → Int32) (x_wordCount : Int32) (x_size : Int32) (x_next : Int32), f_X6_search_b36 x_signs n_narrower n_order n_items n_names n_owners n_all n_size n_nameCount r_numbers r_size k36 x2 x4 x_words x_wordCount x_size x_next = some res → Z p l e ({ frames := 4, cells := 0, slots := 0, locals := 95 }) s m args below meth c (dC, dI) vwCl A 5 0 0 (MQ below (zQ (some (.int res.1)) (True) (w_Ssearch cI cJ cZ cN ta xa na ra t_guide t_acts t_past t_trial t_kept t_filled res.2.1 res.2.2.1 res.2.2.2.1 x_signs res.2.2.2.2.1 n_narrower n_order n_items n_names n_owners n_moving n_all n_size n_nameCount res.2.2.2.2.2.1 res.2.2.2.2.2.2) (dC, dI) vwCl A) args s 0 0 A) (w_Ssearch cI cJ cZ cN ta xa na ra t_guide t_acts t_past t_trial t_kept t_filled x_words x_wordCount x_size x_signs x_next n_narrower n_order n_items n_names n_owners n_moving n_all n_size n_nameCount r_numbers r_size) [(0, .ref (ta 0)), (2, .long x2), (4, .int x4)] [] 36 := by
  intro x2 x4 x_words x_wordCount x_size x_next h
  unfold f_X6_search_b36 at h
  refine z_iload G dX6_search_36 2 rfl ?_
  refine z_aload_n G dX6_search_38 rfl 0 rfl ?_
  refine z_get (ci := 6) (v := .ref (xa 0)) G in_X6 0 rfl rfl 1 (by decide) fl_X6_12 rfl dX6_search_39 ?_
  refine z_get (ci := 5) (v := .int x_wordCount) G in_X5 3 rfl rfl 1 (by decide) fl_X6_136 rfl dX6_search_42 ?_
  refine z_icmp_ge (tgt := 73) G dX6_search_45 (by decide) h (fun h => ?_) (fun h => ?_)
  · refine z_aload_n G dX6_search_73 rfl 0 rfl ?_
    refine z_get (ci := 6) (v := .ref (ra 0)) G in_X6 0 rfl rfl 0 (by decide) fl_X6_27 rfl dX6_search_74 ?_
    refine z_kV (As := []) (rest := []) (st' := []) (ws' := (w_Ssearch cI cJ cZ cN ta xa na ra t_guide t_acts t_past t_trial t_kept t_filled x_words x_wordCount x_size x_signs x_next n_narrower n_order n_items n_names n_owners n_moving n_all n_size n_nameCount r_numbers (f_X4_clear r_size))) G pk_X4_clear pv_X4_clear ml_X6_104 (c_X4_clear (ta := ra) (t_numbers := r_numbers) (t_size := r_size) rfl) ⟨rfl, rfl⟩ ⟨Nat.le_of_ble_eq_true rfl, Nat.le_of_ble_eq_true rfl⟩ ⟨Nat.zero_le _, Nat.zero_le _⟩ rfl rfl (Nat.le_of_ble_eq_true rfl) 13 4 rfl rfl rfl [13, 14] rfl rfl [none, none, none, none, none, none, none, none, none, none, none, none, none, some 0, some 1] rfl rfl rfl rfl dX6_search_77 (fun z5 => ?_)
    refine z_iconst (v := 0) G dX6_search_80 (by decide) ?_
    refine z_istore (lv' := [(0, .ref (ta 0)), (2, .long x2), (4, .int 0)]) G dX6_search_81 (by decide) [1, 2, 0] rfl ?_
    exact zl_X6_search_83 G  x2 0 x_words x_wordCount x_size x_next r_numbers (f_X4_clear r_size) h
  · refine z_aload_n G dX6_search_48 rfl 0 rfl ?_
    refine z_get (ci := 6) (v := .ref (na 0)) G in_X6 0 rfl rfl 8 (by decide) fl_X6_55 rfl dX6_search_49 ?_
    refine z_lload_n G dX6_search_52 rfl 1 rfl ?_
    refine z_aload_n G dX6_search_53 rfl 0 rfl ?_
    refine z_get (ci := 6) (v := .ref (xa 0)) G in_X6 0 rfl rfl 1 (by decide) fl_X6_12 rfl dX6_search_54 ?_
    refine z_get (ci := 5) (v := .ref (xa 1)) G in_X5 3 rfl rfl 0 (by decide) fl_X6_139 rfl dX6_search_57 ?_
    refine z_iload G dX6_search_60 2 rfl ?_
    refine z_iaload G 4 0 rfl rfl dX6_search_62 h (fun h => ?_)
    obtain ⟨r6, e6, h⟩ := obind h
    refine z_kR (As := [.long x2, .int (x_words (ix x4))]) (rest := []) (st' := [.long r6]) G pk_X2_searchOn pv_X2_searchOn ml_X6_258 (c_X2_searchOn (ta := na) (t_narrower := n_narrower) (t_order := n_order) (t_items := n_items) (t_names := n_names) (t_owners := n_owners) (t_moving := n_moving) (t_all := n_all) (t_size := n_size) (t_nameCount := n_nameCount) (p1 := x2) (p3 := x_words (ix x4)) e6) ⟨rfl, rfl⟩ ⟨Nat.le_of_ble_eq_true rfl, Nat.le_of_ble_eq_true rfl⟩ ⟨Nat.zero_le _, Nat.zero_le _⟩ rfl rfl (Nat.le_of_ble_eq_true rfl) 6 2 rfl rfl rfl [6, 7, 8, 9, 10, 11, 12] rfl rfl rfl dX6_search_63 (fun z7 => ?_)
    refine z_lstore_n (lv' := [(0, .ref (ta 0)), (2, .long r6), (4, .int x4)]) G dX6_search_66 rfl (by decide) [1, 0, 2] rfl ?_
    refine z_iinc (v := x4 + 1) (lv' := [(0, .ref (ta 0)), (2, .long r6), (4, .int (x4 + 1))]) G dX6_search_67 2 rfl rfl (by decide) [1, 2, 0] rfl ?_
    refine z_goto (tgt := 36) G dX6_search_70 (by decide) ?_
    exact hr36 r6 (x4 + 1) x_words x_wordCount x_size x_next h
noncomputable def f_X6_search_l36 (x_signs : Nat → Int32) (n_narrower : Nat → Int32) (n_order : Nat → Int32) (n_items : Nat → Int64) (n_names : Nat → Int32) (n_owners : Nat → Int32) (n_all : Int32) (n_size : Int32) (n_nameCount : Int32) (r_numbers : Nat → Int64) (r_size : Int32)  (x2 : Int64) (x4 : Int32) (x_words : Nat → Int32) (x_wordCount : Int32) (x_size : Int32) (x_next : Int32) : Option (Int32 × (Nat → Int32) × Int32 × Int32 × Int32 × (Nat → Int64) × Int32) := loopN (V := Int64 × Int32 × (Nat → Int32) × Int32 × Int32 × Int32) (fun rc v => f_X6_search_b36 x_signs n_narrower n_order n_items n_names n_owners n_all n_size n_nameCount r_numbers r_size  (fun x0_ x1_ x2_ x3_ x4_ x5_ => rc (x0_, x1_, x2_, x3_, x4_, x5_)) v.1 v.2.1 v.2.2.1 v.2.2.2.1 v.2.2.2.2.1 v.2.2.2.2.2) 200 (x2, x4, x_words, x_wordCount, x_size, x_next)
set_option maxRecDepth 100000 in
set_option maxHeartbeats 4000000 in
theorem zl_X6_search_36 {p : Program} {l : Launch} {e : Env} {s : State} {m : MethodId} {args : Array Value} {below : List Frame} {meth : Method} {c : Code} {A : Nat → Prop} {dC : Nat → ClassId} {dI : Nat → Nat → Nat} {cI cJ cZ cN : ClassId} {ta : Nat → Nat} {xa : Nat → Nat} {na : Nat → Nat} {ra : Nat → Nat} {t_guide : Nat} {t_acts : Nat} {t_past : Nat} {t_trial : Nat} {t_kept : Nat → Nat} {t_filled : Nat → Int32} {x_signs : Nat → Int32} {n_narrower : Nat → Int32} {n_order : Nat → Int32} {n_items : Nat → Int64} {n_names : Nat → Int32} {n_owners : Nat → Int32} {n_moving : Nat → Int32} {n_all : Int32} {n_size : Int32} {n_nameCount : Int32} {r_numbers : Nat → Int64} {r_size : Int32}  {res : Int32 × (Nat → Int32) × Int32 × Int32 × Int32 × (Nat → Int64) × Int32} (G : zG p m c cX6_search 5 s args RX6 (dC, dI) vwCl (zT cI cJ cZ cN) A meth (some .int))  : ∀ (x2 : Int64) (x4 : Int32) (x_words : Nat → Int32) (x_wordCount : Int32) (x_size : Int32) (x_next : Int32), f_X6_search_l36 x_signs n_narrower n_order n_items n_names n_owners n_all n_size n_nameCount r_numbers r_size  x2 x4 x_words x_wordCount x_size x_next = some res → Z p l e ({ frames := 4, cells := 0, slots := 0, locals := 95 }) s m args below meth c (dC, dI) vwCl A 5 0 0 (MQ below (zQ (some (.int res.1)) (True) (w_Ssearch cI cJ cZ cN ta xa na ra t_guide t_acts t_past t_trial t_kept t_filled res.2.1 res.2.2.1 res.2.2.2.1 x_signs res.2.2.2.2.1 n_narrower n_order n_items n_names n_owners n_moving n_all n_size n_nameCount res.2.2.2.2.2.1 res.2.2.2.2.2.2) (dC, dI) vwCl A) args s 0 0 A) (w_Ssearch cI cJ cZ cN ta xa na ra t_guide t_acts t_past t_trial t_kept t_filled x_words x_wordCount x_size x_signs x_next n_narrower n_order n_items n_names n_owners n_moving n_all n_size n_nameCount r_numbers r_size) [(0, .ref (ta 0)), (2, .long x2), (4, .int x4)] [] 36 := by
  intro x2 x4 x_words x_wordCount x_size x_next h
  exact zloop (P := fun v => Z p l e ({ frames := 4, cells := 0, slots := 0, locals := 95 }) s m args below meth c (dC, dI) vwCl A 5 0 0 (MQ below (zQ (some (.int res.1)) (True) (w_Ssearch cI cJ cZ cN ta xa na ra t_guide t_acts t_past t_trial t_kept t_filled res.2.1 res.2.2.1 res.2.2.2.1 x_signs res.2.2.2.2.1 n_narrower n_order n_items n_names n_owners n_moving n_all n_size n_nameCount res.2.2.2.2.2.1 res.2.2.2.2.2.2) (dC, dI) vwCl A) args s 0 0 A) (w_Ssearch cI cJ cZ cN ta xa na ra t_guide t_acts t_past t_trial t_kept t_filled v.2.2.1 v.2.2.2.1 v.2.2.2.2.1 x_signs v.2.2.2.2.2 n_narrower n_order n_items n_names n_owners n_moving n_all n_size n_nameCount r_numbers r_size) [(0, .ref (ta 0)), (2, .long v.1), (4, .int v.2.1)] [] 36) (fun rc hr v h => zb_X6_search_36 G  (fun x0_ x1_ x2_ x3_ x4_ x5_ h => hr (x0_, x1_, x2_, x3_, x4_, x5_) h) v.1 v.2.1 v.2.2.1 v.2.2.2.1 v.2.2.2.2.1 v.2.2.2.2.2 h) 200 (x2, x4, x_words, x_wordCount, x_size, x_next) h
noncomputable def f_X6_search (x_words : Nat → Int32) (x_wordCount : Int32) (x_size : Int32) (x_signs : Nat → Int32) (x_next : Int32) (n_narrower : Nat → Int32) (n_order : Nat → Int32) (n_items : Nat → Int64) (n_names : Nat → Int32) (n_owners : Nat → Int32) (n_all : Int32) (n_size : Int32) (n_nameCount : Int32) (r_numbers : Nat → Int64) (r_size : Int32) : Option (Int32 × (Nat → Int32) × Int32 × Int32 × Int32 × (Nat → Int64) × Int32) :=
  (f_X5_readSearch x_words x_wordCount x_size x_signs x_next n_names n_owners n_nameCount).bind (fun r1 => if r1.1 = 0 then some (f_X5_wrongSign r1.2.2.2, r1.2.1, r1.2.2.1, f_X5_clear x_size, r1.2.2.2, r_numbers, r_size) else f_X6_search_l36 x_signs n_narrower n_order n_items n_names n_owners n_all n_size n_nameCount r_numbers r_size  0 0 r1.2.1 r1.2.2.1 (f_X5_clear x_size) r1.2.2.2)
set_option maxRecDepth 100000 in
set_option maxHeartbeats 4000000 in
theorem c_X6_search {l : Launch} {dC : Nat → ClassId} {dI : Nat → Nat → Nat} {cI cJ cZ cN : ClassId} {ta : Nat → Nat} {xa : Nat → Nat} {na : Nat → Nat} {ra : Nat → Nat} {t_guide : Nat} {t_acts : Nat} {t_past : Nat} {t_trial : Nat} {t_kept : Nat → Nat} {t_filled : Nat → Int32} {x_words : Nat → Int32} {x_wordCount : Int32} {x_size : Int32} {x_signs : Nat → Int32} {x_next : Int32} {n_narrower : Nat → Int32} {n_order : Nat → Int32} {n_items : Nat → Int64} {n_names : Nat → Int32} {n_owners : Nat → Int32} {n_moving : Nat → Int32} {n_all : Int32} {n_size : Int32} {n_nameCount : Int32} {r_numbers : Nat → Int64} {r_size : Int32}  {res : Int32 × (Nat → Int32) × Int32 × Int32 × Int32 × (Nat → Int64) × Int32} (h : f_X6_search x_words x_wordCount x_size x_signs x_next n_narrower n_order n_items n_names n_owners n_all n_size n_nameCount r_numbers r_size = some res) : zM l yX6_search cX6_search 5 (some .int) ({ frames := 4, cells := 0, slots := 0, locals := 95 }) [.ref (ta 0)] (dC, dI) vwCl (zT cI cJ cZ cN) (w_Ssearch cI cJ cZ cN ta xa na ra t_guide t_acts t_past t_trial t_kept t_filled x_words x_wordCount x_size x_signs x_next n_narrower n_order n_items n_names n_owners n_moving n_all n_size n_nameCount r_numbers r_size) (some (.int res.1)) (True) (w_Ssearch cI cJ cZ cN ta xa na ra t_guide t_acts t_past t_trial t_kept t_filled res.2.1 res.2.2.1 res.2.2.2.1 x_signs res.2.2.2.2.1 n_narrower n_order n_items n_names n_owners n_moving n_all n_size n_nameCount res.2.2.2.2.2.1 res.2.2.2.2.2.2) := by
  refine zM_of (own := RX6) (by decide) rfl [(0, .ref (ta 0))] (Nat.le_of_ble_eq_true rfl) rfl ?_
  intro p e s m args below meth c A G _
  unfold f_X6_search at h
  refine z_aload_n G dX6_search_0 rfl 0 rfl ?_
  refine z_get (ci := 6) (v := .ref (xa 0)) G in_X6 0 rfl rfl 1 (by decide) fl_X6_12 rfl dX6_search_1 ?_
  refine z_aload_n G dX6_search_4 rfl 0 rfl ?_
  refine z_get (ci := 6) (v := .ref (na 0)) G in_X6 0 rfl rfl 8 (by decide) fl_X6_55 rfl dX6_search_5 ?_
  obtain ⟨r1, e1, h⟩ := obind h
  refine z_kV (As := [.ref (na 0)]) (rest := []) (st' := [.int r1.1]) (ws' := (w_Ssearch cI cJ cZ cN ta xa na ra t_guide t_acts t_past t_trial t_kept t_filled r1.2.1 r1.2.2.1 x_size x_signs r1.2.2.2 n_narrower n_order n_items n_names n_owners n_moving n_all n_size n_nameCount r_numbers r_size)) G pk_X5_readSearch pv_X5_readSearch ml_X6_255 (c_X5_readSearch (ta := xa) (na := na) (t_words := x_words) (t_wordCount := x_wordCount) (t_size := x_size) (t_signs := x_signs) (t_next := x_next) (n_narrower := n_narrower) (n_order := n_order) (n_items := n_items) (n_names := n_names) (n_owners := n_owners) (n_moving := n_moving) (n_all := n_all) (n_size := n_size) (n_nameCount := n_nameCount) e1) ⟨rfl, rfl⟩ ⟨Nat.le_of_ble_eq_true rfl, Nat.le_of_ble_eq_true rfl⟩ ⟨Nat.zero_le _, Nat.zero_le _⟩ rfl rfl (Nat.le_of_ble_eq_true rfl) 3 5 rfl rfl rfl [3, 4, 5, 6, 7, 8, 9, 10, 11, 12] rfl rfl [none, none, none, some 0, some 1, some 2, some 3, some 4, some 5, some 6, some 7, some 8, some 9, none, none] rfl rfl rfl rfl dX6_search_8 (fun z2 => ?_)
  refine z_istore_n (lv' := [(0, .ref (ta 0)), (1, .int r1.1)]) G dX6_search_11 rfl (by decide) [1, 0] rfl ?_
  refine z_aload_n G dX6_search_12 rfl 0 rfl ?_
  refine z_get (ci := 6) (v := .ref (xa 0)) G in_X6 0 rfl rfl 1 (by decide) fl_X6_12 rfl dX6_search_13 ?_
  refine z_kV (As := []) (rest := []) (st' := []) (ws' := (w_Ssearch cI cJ cZ cN ta xa na ra t_guide t_acts t_past t_trial t_kept t_filled r1.2.1 r1.2.2.1 (f_X5_clear x_size) x_signs r1.2.2.2 n_narrower n_order n_items n_names n_owners n_moving n_all n_size n_nameCount r_numbers r_size)) G pk_X5_clear pv_X5_clear ml_X6_132 (c_X5_clear (ta := xa) (t_words := r1.2.1) (t_wordCount := r1.2.2.1) (t_size := x_size) (t_signs := x_signs) (t_next := r1.2.2.2) rfl) ⟨rfl, rfl⟩ ⟨Nat.le_of_ble_eq_true rfl, Nat.le_of_ble_eq_true rfl⟩ ⟨Nat.zero_le _, Nat.zero_le _⟩ rfl rfl (Nat.le_of_ble_eq_true rfl) 3 5 rfl rfl rfl [3, 4, 5] rfl rfl [none, none, none, some 0, some 1, some 2, none, none, none, none, none, none, none, none, none] rfl rfl rfl rfl dX6_search_16 (fun z3 => ?_)
  refine z_iload_n G dX6_search_19 rfl 1 rfl ?_
  refine z_if_ne (tgt := 31) G dX6_search_20 (by decide) h (fun h => ?_) (fun h => ?_)
  · refine z_lconst (v := 0) G dX6_search_31 (by decide) ?_
    refine z_lstore_n (lv' := [(0, .ref (ta 0)), (1, .int r1.1), (2, .long 0)]) G dX6_search_32 rfl (by decide) [1, 2, 0] rfl ?_
    refine z_iconst (v := 0) G dX6_search_33 (by decide) ?_
    refine z_istore (lv' := [(0, .ref (ta 0)), (1, .int r1.1), (2, .long 0), (4, .int 0)]) G dX6_search_34 (by decide) [1, 2, 3, 0] rfl ?_
    refine z_lv [0, 2, 3] rfl ?_
    exact zl_X6_search_36 G  0 0 r1.2.1 r1.2.2.1 (f_X5_clear x_size) r1.2.2.2 h
  · refine z_aload_n G dX6_search_23 rfl 0 rfl ?_
    refine z_get (ci := 6) (v := .ref (xa 0)) G in_X6 0 rfl rfl 1 (by decide) fl_X6_12 rfl dX6_search_24 ?_
    refine z_kR (As := []) (rest := []) (st' := [.int (f_X5_wrongSign r1.2.2.2)]) G pk_X5_wrongSign pv_X5_wrongSign ml_X6_73 (c_X5_wrongSign (ta := xa) (t_words := r1.2.1) (t_wordCount := r1.2.2.1) (t_size := f_X5_clear x_size) (t_signs := x_signs) (t_next := r1.2.2.2) rfl) ⟨rfl, rfl⟩ ⟨Nat.le_of_ble_eq_true rfl, Nat.le_of_ble_eq_true rfl⟩ ⟨Nat.zero_le _, Nat.zero_le _⟩ rfl rfl (Nat.le_of_ble_eq_true rfl) 3 5 rfl rfl rfl [3, 4, 5] rfl rfl rfl dX6_search_27 (fun z4 => ?_)
    obtain rfl := Option.some.inj h
    exact z_iret G rfl dX6_search_30 rfl trivial rfl

noncomputable def f_X6_undo (na : Nat → Nat) (p_nets : Nat → Nat) (p_size : Int32) : Option (Int32 × Nat × (Nat → Nat) × Int32) :=
  if p_size = 0 then some ((-1), na 0, p_nets, p_size) else (f_X3_back na p_nets p_size).bind (fun r1 => some (r1.2.2, r1.1, r1.2.1, r1.2.2))
set_option maxRecDepth 100000 in
set_option maxHeartbeats 4000000 in
theorem c_X6_undo {l : Launch} {dC : Nat → ClassId} {dI : Nat → Nat → Nat} {cI cJ cZ cN : ClassId} {ta : Nat → Nat} {pa : Nat → Nat} {na : Nat → Nat} {t_told : Nat} {t_text : Nat} {t_guide : Nat} {t_acts : Nat} {t_trial : Nat} {t_kept : Nat → Nat} {t_filled : Nat → Int32} {p_nets : Nat → Nat} {p_spare : Nat} {p_size : Int32} {n_fs : List Value}  {res : Int32 × Nat × (Nat → Nat) × Int32} (h : f_X6_undo na p_nets p_size = some res) : zM l yX6_undo cX6_undo 1 (some .int) ({ frames := 1, cells := 0, slots := 0, locals := 22 }) [.ref (ta 0)] (dC, dI) vwCl (zT cI cJ cZ cN) (w_Sundo cI cJ cZ cN ta pa na t_told t_text t_guide t_acts t_trial t_kept t_filled (na 0) p_nets p_spare p_size n_fs) (some (.int res.1)) (True) (w_Sundo cI cJ cZ cN ta pa na t_told t_text t_guide t_acts t_trial t_kept t_filled res.2.1 res.2.2.1 p_spare res.2.2.2 n_fs) := by
  refine zM_of (own := RX6) (by decide) rfl [(0, .ref (ta 0))] (Nat.le_of_ble_eq_true rfl) rfl ?_
  intro p e s m args below meth c A G _
  unfold f_X6_undo at h
  refine z_aload_n G dX6_undo_0 rfl 0 rfl ?_
  refine z_get (ci := 6) (v := .ref (pa 0)) G in_X6 0 rfl rfl 4 (by decide) fl_X6_36 rfl dX6_undo_1 ?_
  refine z_get (ci := 3) (v := .int p_size) G in_X3 3 rfl rfl 2 (by decide) fl_X6_285 rfl dX6_undo_4 ?_
  refine z_if_ne (tgt := 12) G dX6_undo_7 (by decide) h (fun h => ?_) (fun h => ?_)
  · refine z_aload_n G dX6_undo_12 rfl 0 rfl ?_
    refine z_aload_n G dX6_undo_13 rfl 0 rfl ?_
    refine z_get (ci := 6) (v := .ref (pa 0)) G in_X6 0 rfl rfl 4 (by decide) fl_X6_36 rfl dX6_undo_14 ?_
    refine z_aload_n G dX6_undo_17 rfl 0 rfl ?_
    refine z_get (ci := 6) (v := .ref (na 0)) G in_X6 0 rfl rfl 8 (by decide) fl_X6_55 rfl dX6_undo_18 ?_
    obtain ⟨r1, e1, h⟩ := obind h
    refine z_kV (As := [.ref (na 0)]) (rest := [.ref (ta 0)]) (st' := [.ref r1.1, .ref (ta 0)]) (ws' := (w_Sundo cI cJ cZ cN ta pa na t_told t_text t_guide t_acts t_trial t_kept t_filled (na 0) r1.2.1 p_spare r1.2.2 n_fs)) G pk_X3_back pv_X3_back ml_X6_286 (c_X3_back (ta := pa) (oa := na) (t_nets := p_nets) (t_spare := p_spare) (t_size := p_size) (o_fs := n_fs) e1) ⟨rfl, rfl⟩ ⟨Nat.le_of_ble_eq_true rfl, Nat.le_of_ble_eq_true rfl⟩ ⟨Nat.zero_le _, Nat.zero_le _⟩ rfl rfl (Nat.le_of_ble_eq_true rfl) 3 3 rfl rfl rfl [3, 4, 5] rfl rfl [none, none, none, some 0, some 1, some 2] rfl rfl rfl rfl dX6_undo_21 (fun z2 => ?_)
    refine z_put (ci := 6) (ws' := (w_Sundo cI cJ cZ cN ta pa na t_told t_text t_guide t_acts t_trial t_kept t_filled r1.1 r1.2.1 p_spare r1.2.2 n_fs)) G in_X6 tyX6 tyX6_ok nmX6 0 rfl rfl 8 (by decide) fl_X6_55 rfl rfl rfl (Nat.le_of_ble_eq_true rfl) rfl dX6_undo_24 ?_
    refine z_aload_n G dX6_undo_27 rfl 0 rfl ?_
    refine z_get (ci := 6) (v := .ref (pa 0)) G in_X6 0 rfl rfl 4 (by decide) fl_X6_36 rfl dX6_undo_28 ?_
    refine z_get (ci := 3) (v := .int r1.2.2) G in_X3 3 rfl rfl 2 (by decide) fl_X6_285 rfl dX6_undo_31 ?_
    obtain rfl := Option.some.inj h
    exact z_iret G rfl dX6_undo_34 rfl trivial rfl
  · refine z_iconst (v := (-1)) G dX6_undo_10 (by decide) ?_
    obtain rfl := Option.some.inj h
    exact z_iret G rfl dX6_undo_11 rfl trivial rfl

noncomputable def f_X6_keep_0 (t_filled : Nat → Int32) (n_narrower : Nat → Int32) (n_order : Nat → Int32) (n_items : Nat → Int64) (n_names : Nat → Int32) (n_owners : Nat → Int32) (n_all : Int32) (n_size : Int32) (n_nameCount : Int32) (k0_narrower : Nat → Int32) (k0_order : Nat → Int32) (k0_items : Nat → Int64) (k0_names : Nat → Int32) (k0_owners : Nat → Int32) (k0_all : Int32) (k0_size : Int32) (k0_nameCount : Int32) : Option (Int32 × (Nat → Int32) × (Nat → Int32) × (Nat → Int32) × (Nat → Int64) × (Nat → Int32) × (Nat → Int32) × Int32 × Int32 × Int32) :=
  if (0 : Int32) < 0 then some (0, t_filled, k0_narrower, k0_order, k0_items, k0_names, k0_owners, k0_all, k0_size, k0_nameCount) else if (0 : Int32) < 2 then chk (inb 0 2) (chk (inb 0 2) (some (1, upd t_filled (ix 0) (vp_nar .boolean 1), (f_X2_copyFrom k0_narrower k0_order k0_items k0_names k0_owners k0_all k0_size k0_nameCount n_narrower n_order n_items n_names n_owners n_all n_size n_nameCount).1, (f_X2_copyFrom k0_narrower k0_order k0_items k0_names k0_owners k0_all k0_size k0_nameCount n_narrower n_order n_items n_names n_owners n_all n_size n_nameCount).2.1, (f_X2_copyFrom k0_narrower k0_order k0_items k0_names k0_owners k0_all k0_size k0_nameCount n_narrower n_order n_items n_names n_owners n_all n_size n_nameCount).2.2.1, (f_X2_copyFrom k0_narrower k0_order k0_items k0_names k0_owners k0_all k0_size k0_nameCount n_narrower n_order n_items n_names n_owners n_all n_size n_nameCount).2.2.2.1, (f_X2_copyFrom k0_narrower k0_order k0_items k0_names k0_owners k0_all k0_size k0_nameCount n_narrower n_order n_items n_names n_owners n_all n_size n_nameCount).2.2.2.2.1, (f_X2_copyFrom k0_narrower k0_order k0_items k0_names k0_owners k0_all k0_size k0_nameCount n_narrower n_order n_items n_names n_owners n_all n_size n_nameCount).2.2.2.2.2.1, (f_X2_copyFrom k0_narrower k0_order k0_items k0_names k0_owners k0_all k0_size k0_nameCount n_narrower n_order n_items n_names n_owners n_all n_size n_nameCount).2.2.2.2.2.2.1, (f_X2_copyFrom k0_narrower k0_order k0_items k0_names k0_owners k0_all k0_size k0_nameCount n_narrower n_order n_items n_names n_owners n_all n_size n_nameCount).2.2.2.2.2.2.2))) else some (0, t_filled, k0_narrower, k0_order, k0_items, k0_names, k0_owners, k0_all, k0_size, k0_nameCount)
set_option maxRecDepth 100000 in
set_option maxHeartbeats 4000000 in
theorem c_X6_keep_0 {l : Launch} {dC : Nat → ClassId} {dI : Nat → Nat → Nat} {cI cJ cZ cN : ClassId} {ta : Nat → Nat} {na : Nat → Nat} {k0a : Nat → Nat} {k1a : Nat → Nat} {t_told : Nat} {t_text : Nat} {t_guide : Nat} {t_acts : Nat} {t_past : Nat} {t_trial : Nat} {t_filled : Nat → Int32} {n_narrower : Nat → Int32} {n_order : Nat → Int32} {n_items : Nat → Int64} {n_names : Nat → Int32} {n_owners : Nat → Int32} {n_moving : Nat → Int32} {n_all : Int32} {n_size : Int32} {n_nameCount : Int32} {k0_narrower : Nat → Int32} {k0_order : Nat → Int32} {k0_items : Nat → Int64} {k0_names : Nat → Int32} {k0_owners : Nat → Int32} {k0_moving : Nat → Int32} {k0_all : Int32} {k0_size : Int32} {k0_nameCount : Int32}  {res : Int32 × (Nat → Int32) × (Nat → Int32) × (Nat → Int32) × (Nat → Int64) × (Nat → Int32) × (Nat → Int32) × Int32 × Int32 × Int32} (h : f_X6_keep_0 t_filled n_narrower n_order n_items n_names n_owners n_all n_size n_nameCount k0_narrower k0_order k0_items k0_names k0_owners k0_all k0_size k0_nameCount = some res) : zM l yX6_keep cX6_keep 2 (some .boolean) ({ frames := 2, cells := 0, slots := 0, locals := 61 }) [.ref (ta 0), .int 0] (dC, dI) vwCl (zT cI cJ cZ cN) (w_Sk0 cI cJ cZ cN ta na k0a t_told t_text t_guide t_acts t_past t_trial (fun j => if j = 0 then k0a 0 else k1a 0) t_filled n_narrower n_order n_items n_names n_owners n_moving n_all n_size n_nameCount k0_narrower k0_order k0_items k0_names k0_owners k0_moving k0_all k0_size k0_nameCount) (some (.int res.1)) (narrow .boolean (.int res.1) = .int res.1) (w_Sk0 cI cJ cZ cN ta na k0a t_told t_text t_guide t_acts t_past t_trial (fun j => if j = 0 then k0a 0 else k1a 0) res.2.1 n_narrower n_order n_items n_names n_owners n_moving n_all n_size n_nameCount res.2.2.1 res.2.2.2.1 res.2.2.2.2.1 res.2.2.2.2.2.1 res.2.2.2.2.2.2.1 k0_moving res.2.2.2.2.2.2.2.1 res.2.2.2.2.2.2.2.2.1 res.2.2.2.2.2.2.2.2.2) := by
  refine zM_of (own := RX6) (by decide) rfl [(0, .ref (ta 0)), (1, .int 0)] (Nat.le_of_ble_eq_true rfl) rfl ?_
  intro p e s m args below meth c A G _
  unfold f_X6_keep_0 at h
  refine z_iload_n G dX6_keep_0 rfl 1 rfl ?_
  refine z_if_lt (tgt := 9) G dX6_keep_1 (by decide) h (fun h => ?_) (fun h => ?_)
  · refine z_iconst (v := 0) G dX6_keep_9 (by decide) ?_
    obtain rfl := Option.some.inj h
    exact z_zret G rfl zn0 dX6_keep_10 rfl zn0 rfl
  · refine z_iload_n G dX6_keep_4 rfl 1 rfl ?_
    refine z_iconst (v := 2) G dX6_keep_5 (by decide) ?_
    refine z_icmp_lt (tgt := 11) G dX6_keep_6 (by decide) h (fun h => ?_) (fun h => ?_)
    · refine z_aload_n G dX6_keep_11 rfl 0 rfl ?_
      refine z_get (ci := 6) (v := .ref (ta 1)) G in_X6 0 rfl rfl 6 (by decide) fl_X6_47 rfl dX6_keep_12 ?_
      refine z_iload_n G dX6_keep_15 rfl 1 rfl ?_
      refine z_aaloadb (f := fun j => if j = 0 then k0a 0 else k1a 0) (n := 2) (st' := [.ref (k0a 0)]) G 1 3 rfl rfl dX6_keep_16 rfl h (fun h => ?_)
      refine z_aload_n G dX6_keep_17 rfl 0 rfl ?_
      refine z_get (ci := 6) (v := .ref (na 0)) G in_X6 0 rfl rfl 8 (by decide) fl_X6_55 rfl dX6_keep_18 ?_
      refine z_kV (As := [.ref (na 0)]) (rest := []) (st' := []) (ws' := (w_Sk0 cI cJ cZ cN ta na k0a t_told t_text t_guide t_acts t_past t_trial (fun j => if j = 0 then k0a 0 else k1a 0) t_filled n_narrower n_order n_items n_names n_owners n_moving n_all n_size n_nameCount ((f_X2_copyFrom k0_narrower k0_order k0_items k0_names k0_owners k0_all k0_size k0_nameCount n_narrower n_order n_items n_names n_owners n_all n_size n_nameCount).1) ((f_X2_copyFrom k0_narrower k0_order k0_items k0_names k0_owners k0_all k0_size k0_nameCount n_narrower n_order n_items n_names n_owners n_all n_size n_nameCount).2.1) ((f_X2_copyFrom k0_narrower k0_order k0_items k0_names k0_owners k0_all k0_size k0_nameCount n_narrower n_order n_items n_names n_owners n_all n_size n_nameCount).2.2.1) ((f_X2_copyFrom k0_narrower k0_order k0_items k0_names k0_owners k0_all k0_size k0_nameCount n_narrower n_order n_items n_names n_owners n_all n_size n_nameCount).2.2.2.1) ((f_X2_copyFrom k0_narrower k0_order k0_items k0_names k0_owners k0_all k0_size k0_nameCount n_narrower n_order n_items n_names n_owners n_all n_size n_nameCount).2.2.2.2.1) k0_moving ((f_X2_copyFrom k0_narrower k0_order k0_items k0_names k0_owners k0_all k0_size k0_nameCount n_narrower n_order n_items n_names n_owners n_all n_size n_nameCount).2.2.2.2.2.1) ((f_X2_copyFrom k0_narrower k0_order k0_items k0_names k0_owners k0_all k0_size k0_nameCount n_narrower n_order n_items n_names n_owners n_all n_size n_nameCount).2.2.2.2.2.2.1) ((f_X2_copyFrom k0_narrower k0_order k0_items k0_names k0_owners k0_all k0_size k0_nameCount n_narrower n_order n_items n_names n_owners n_all n_size n_nameCount).2.2.2.2.2.2.2))) G pk_X2_copyFrom pv_X2_copyFrom ml_X6_167 (c_X2_copyFrom (ta := k0a) (oa := na) (t_narrower := k0_narrower) (t_order := k0_order) (t_items := k0_items) (t_names := k0_names) (t_owners := k0_owners) (t_moving := k0_moving) (t_all := k0_all) (t_size := k0_size) (t_nameCount := k0_nameCount) (o_narrower := n_narrower) (o_order := n_order) (o_items := n_items) (o_names := n_names) (o_owners := n_owners) (o_moving := n_moving) (o_all := n_all) (o_size := n_size) (o_nameCount := n_nameCount) rfl) ⟨rfl, rfl⟩ ⟨Nat.le_of_ble_eq_true rfl, Nat.le_of_ble_eq_true rfl⟩ ⟨Nat.zero_le _, Nat.zero_le _⟩ rfl rfl (Nat.le_of_ble_eq_true rfl) 10 2 rfl rfl rfl [10, 11, 12, 13, 14, 15, 16, 3, 4, 5, 6, 7, 8, 9] rfl rfl [none, none, none, some 7, some 8, some 9, some 10, some 11, some 12, some 13, some 0, some 1, some 2, some 3, some 4, some 5, some 6] rfl rfl rfl rfl dX6_keep_21 (fun z1 => ?_)
      refine z_aload_n G dX6_keep_24 rfl 0 rfl ?_
      refine z_get (ci := 6) (v := .ref (ta 2)) G in_X6 0 rfl rfl 7 (by decide) fl_X6_51 rfl dX6_keep_25 ?_
      refine z_iload_n G dX6_keep_28 rfl 1 rfl ?_
      refine z_iconst (v := 1) G dX6_keep_29 (by decide) ?_
      refine z_bastore (ws' := (w_Sk0 cI cJ cZ cN ta na k0a t_told t_text t_guide t_acts t_past t_trial (fun j => if j = 0 then k0a 0 else k1a 0) (upd t_filled (ix 0) (vp_nar .boolean 1)) n_narrower n_order n_items n_names n_owners n_moving n_all n_size n_nameCount ((f_X2_copyFrom k0_narrower k0_order k0_items k0_names k0_owners k0_all k0_size k0_nameCount n_narrower n_order n_items n_names n_owners n_all n_size n_nameCount).1) ((f_X2_copyFrom k0_narrower k0_order k0_items k0_names k0_owners k0_all k0_size k0_nameCount n_narrower n_order n_items n_names n_owners n_all n_size n_nameCount).2.1) ((f_X2_copyFrom k0_narrower k0_order k0_items k0_names k0_owners k0_all k0_size k0_nameCount n_narrower n_order n_items n_names n_owners n_all n_size n_nameCount).2.2.1) ((f_X2_copyFrom k0_narrower k0_order k0_items k0_names k0_owners k0_all k0_size k0_nameCount n_narrower n_order n_items n_names n_owners n_all n_size n_nameCount).2.2.2.1) ((f_X2_copyFrom k0_narrower k0_order k0_items k0_names k0_owners k0_all k0_size k0_nameCount n_narrower n_order n_items n_names n_owners n_all n_size n_nameCount).2.2.2.2.1) k0_moving ((f_X2_copyFrom k0_narrower k0_order k0_items k0_names k0_owners k0_all k0_size k0_nameCount n_narrower n_order n_items n_names n_owners n_all n_size n_nameCount).2.2.2.2.2.1) ((f_X2_copyFrom k0_narrower k0_order k0_items k0_names k0_owners k0_all k0_size k0_nameCount n_narrower n_order n_items n_names n_owners n_all n_size n_nameCount).2.2.2.2.2.2.1) ((f_X2_copyFrom k0_narrower k0_order k0_items k0_names k0_owners k0_all k0_size k0_nameCount n_narrower n_order n_items n_names n_owners n_all n_size n_nameCount).2.2.2.2.2.2.2))) G 2 2 rfl rfl rfl dX6_keep_30 h (fun h => ?_)
      refine z_iconst (v := 1) G dX6_keep_31 (by decide) ?_
      obtain rfl := Option.some.inj h
      exact z_zret G rfl zn1 dX6_keep_32 rfl zn1 rfl
    · refine z_iconst (v := 0) G dX6_keep_9 (by decide) ?_
      obtain rfl := Option.some.inj h
      exact z_zret G rfl zn0 dX6_keep_10 rfl zn0 rfl

noncomputable def f_X6_keep_1 (t_filled : Nat → Int32) (n_narrower : Nat → Int32) (n_order : Nat → Int32) (n_items : Nat → Int64) (n_names : Nat → Int32) (n_owners : Nat → Int32) (n_all : Int32) (n_size : Int32) (n_nameCount : Int32) (k1_narrower : Nat → Int32) (k1_order : Nat → Int32) (k1_items : Nat → Int64) (k1_names : Nat → Int32) (k1_owners : Nat → Int32) (k1_all : Int32) (k1_size : Int32) (k1_nameCount : Int32) : Option (Int32 × (Nat → Int32) × (Nat → Int32) × (Nat → Int32) × (Nat → Int64) × (Nat → Int32) × (Nat → Int32) × Int32 × Int32 × Int32) :=
  if (1 : Int32) < 0 then some (0, t_filled, k1_narrower, k1_order, k1_items, k1_names, k1_owners, k1_all, k1_size, k1_nameCount) else if (1 : Int32) < 2 then chk (inb 1 2) (chk (inb 1 2) (some (1, upd t_filled (ix 1) (vp_nar .boolean 1), (f_X2_copyFrom k1_narrower k1_order k1_items k1_names k1_owners k1_all k1_size k1_nameCount n_narrower n_order n_items n_names n_owners n_all n_size n_nameCount).1, (f_X2_copyFrom k1_narrower k1_order k1_items k1_names k1_owners k1_all k1_size k1_nameCount n_narrower n_order n_items n_names n_owners n_all n_size n_nameCount).2.1, (f_X2_copyFrom k1_narrower k1_order k1_items k1_names k1_owners k1_all k1_size k1_nameCount n_narrower n_order n_items n_names n_owners n_all n_size n_nameCount).2.2.1, (f_X2_copyFrom k1_narrower k1_order k1_items k1_names k1_owners k1_all k1_size k1_nameCount n_narrower n_order n_items n_names n_owners n_all n_size n_nameCount).2.2.2.1, (f_X2_copyFrom k1_narrower k1_order k1_items k1_names k1_owners k1_all k1_size k1_nameCount n_narrower n_order n_items n_names n_owners n_all n_size n_nameCount).2.2.2.2.1, (f_X2_copyFrom k1_narrower k1_order k1_items k1_names k1_owners k1_all k1_size k1_nameCount n_narrower n_order n_items n_names n_owners n_all n_size n_nameCount).2.2.2.2.2.1, (f_X2_copyFrom k1_narrower k1_order k1_items k1_names k1_owners k1_all k1_size k1_nameCount n_narrower n_order n_items n_names n_owners n_all n_size n_nameCount).2.2.2.2.2.2.1, (f_X2_copyFrom k1_narrower k1_order k1_items k1_names k1_owners k1_all k1_size k1_nameCount n_narrower n_order n_items n_names n_owners n_all n_size n_nameCount).2.2.2.2.2.2.2))) else some (0, t_filled, k1_narrower, k1_order, k1_items, k1_names, k1_owners, k1_all, k1_size, k1_nameCount)
set_option maxRecDepth 100000 in
set_option maxHeartbeats 4000000 in
theorem c_X6_keep_1 {l : Launch} {dC : Nat → ClassId} {dI : Nat → Nat → Nat} {cI cJ cZ cN : ClassId} {ta : Nat → Nat} {na : Nat → Nat} {k1a : Nat → Nat} {k0a : Nat → Nat} {t_told : Nat} {t_text : Nat} {t_guide : Nat} {t_acts : Nat} {t_past : Nat} {t_trial : Nat} {t_filled : Nat → Int32} {n_narrower : Nat → Int32} {n_order : Nat → Int32} {n_items : Nat → Int64} {n_names : Nat → Int32} {n_owners : Nat → Int32} {n_moving : Nat → Int32} {n_all : Int32} {n_size : Int32} {n_nameCount : Int32} {k1_narrower : Nat → Int32} {k1_order : Nat → Int32} {k1_items : Nat → Int64} {k1_names : Nat → Int32} {k1_owners : Nat → Int32} {k1_moving : Nat → Int32} {k1_all : Int32} {k1_size : Int32} {k1_nameCount : Int32}  {res : Int32 × (Nat → Int32) × (Nat → Int32) × (Nat → Int32) × (Nat → Int64) × (Nat → Int32) × (Nat → Int32) × Int32 × Int32 × Int32} (h : f_X6_keep_1 t_filled n_narrower n_order n_items n_names n_owners n_all n_size n_nameCount k1_narrower k1_order k1_items k1_names k1_owners k1_all k1_size k1_nameCount = some res) : zM l yX6_keep cX6_keep 2 (some .boolean) ({ frames := 2, cells := 0, slots := 0, locals := 61 }) [.ref (ta 0), .int 1] (dC, dI) vwCl (zT cI cJ cZ cN) (w_Sk1 cI cJ cZ cN ta na k1a t_told t_text t_guide t_acts t_past t_trial (fun j => if j = 0 then k0a 0 else k1a 0) t_filled n_narrower n_order n_items n_names n_owners n_moving n_all n_size n_nameCount k1_narrower k1_order k1_items k1_names k1_owners k1_moving k1_all k1_size k1_nameCount) (some (.int res.1)) (narrow .boolean (.int res.1) = .int res.1) (w_Sk1 cI cJ cZ cN ta na k1a t_told t_text t_guide t_acts t_past t_trial (fun j => if j = 0 then k0a 0 else k1a 0) res.2.1 n_narrower n_order n_items n_names n_owners n_moving n_all n_size n_nameCount res.2.2.1 res.2.2.2.1 res.2.2.2.2.1 res.2.2.2.2.2.1 res.2.2.2.2.2.2.1 k1_moving res.2.2.2.2.2.2.2.1 res.2.2.2.2.2.2.2.2.1 res.2.2.2.2.2.2.2.2.2) := by
  refine zM_of (own := RX6) (by decide) rfl [(0, .ref (ta 0)), (1, .int 1)] (Nat.le_of_ble_eq_true rfl) rfl ?_
  intro p e s m args below meth c A G _
  unfold f_X6_keep_1 at h
  refine z_iload_n G dX6_keep_0 rfl 1 rfl ?_
  refine z_if_lt (tgt := 9) G dX6_keep_1 (by decide) h (fun h => ?_) (fun h => ?_)
  · refine z_iconst (v := 0) G dX6_keep_9 (by decide) ?_
    obtain rfl := Option.some.inj h
    exact z_zret G rfl zn0 dX6_keep_10 rfl zn0 rfl
  · refine z_iload_n G dX6_keep_4 rfl 1 rfl ?_
    refine z_iconst (v := 2) G dX6_keep_5 (by decide) ?_
    refine z_icmp_lt (tgt := 11) G dX6_keep_6 (by decide) h (fun h => ?_) (fun h => ?_)
    · refine z_aload_n G dX6_keep_11 rfl 0 rfl ?_
      refine z_get (ci := 6) (v := .ref (ta 1)) G in_X6 0 rfl rfl 6 (by decide) fl_X6_47 rfl dX6_keep_12 ?_
      refine z_iload_n G dX6_keep_15 rfl 1 rfl ?_
      refine z_aaloadb (f := fun j => if j = 0 then k0a 0 else k1a 0) (n := 2) (st' := [.ref (k1a 0)]) G 1 3 rfl rfl dX6_keep_16 rfl h (fun h => ?_)
      refine z_aload_n G dX6_keep_17 rfl 0 rfl ?_
      refine z_get (ci := 6) (v := .ref (na 0)) G in_X6 0 rfl rfl 8 (by decide) fl_X6_55 rfl dX6_keep_18 ?_
      refine z_kV (As := [.ref (na 0)]) (rest := []) (st' := []) (ws' := (w_Sk1 cI cJ cZ cN ta na k1a t_told t_text t_guide t_acts t_past t_trial (fun j => if j = 0 then k0a 0 else k1a 0) t_filled n_narrower n_order n_items n_names n_owners n_moving n_all n_size n_nameCount ((f_X2_copyFrom k1_narrower k1_order k1_items k1_names k1_owners k1_all k1_size k1_nameCount n_narrower n_order n_items n_names n_owners n_all n_size n_nameCount).1) ((f_X2_copyFrom k1_narrower k1_order k1_items k1_names k1_owners k1_all k1_size k1_nameCount n_narrower n_order n_items n_names n_owners n_all n_size n_nameCount).2.1) ((f_X2_copyFrom k1_narrower k1_order k1_items k1_names k1_owners k1_all k1_size k1_nameCount n_narrower n_order n_items n_names n_owners n_all n_size n_nameCount).2.2.1) ((f_X2_copyFrom k1_narrower k1_order k1_items k1_names k1_owners k1_all k1_size k1_nameCount n_narrower n_order n_items n_names n_owners n_all n_size n_nameCount).2.2.2.1) ((f_X2_copyFrom k1_narrower k1_order k1_items k1_names k1_owners k1_all k1_size k1_nameCount n_narrower n_order n_items n_names n_owners n_all n_size n_nameCount).2.2.2.2.1) k1_moving ((f_X2_copyFrom k1_narrower k1_order k1_items k1_names k1_owners k1_all k1_size k1_nameCount n_narrower n_order n_items n_names n_owners n_all n_size n_nameCount).2.2.2.2.2.1) ((f_X2_copyFrom k1_narrower k1_order k1_items k1_names k1_owners k1_all k1_size k1_nameCount n_narrower n_order n_items n_names n_owners n_all n_size n_nameCount).2.2.2.2.2.2.1) ((f_X2_copyFrom k1_narrower k1_order k1_items k1_names k1_owners k1_all k1_size k1_nameCount n_narrower n_order n_items n_names n_owners n_all n_size n_nameCount).2.2.2.2.2.2.2))) G pk_X2_copyFrom pv_X2_copyFrom ml_X6_167 (c_X2_copyFrom (ta := k1a) (oa := na) (t_narrower := k1_narrower) (t_order := k1_order) (t_items := k1_items) (t_names := k1_names) (t_owners := k1_owners) (t_moving := k1_moving) (t_all := k1_all) (t_size := k1_size) (t_nameCount := k1_nameCount) (o_narrower := n_narrower) (o_order := n_order) (o_items := n_items) (o_names := n_names) (o_owners := n_owners) (o_moving := n_moving) (o_all := n_all) (o_size := n_size) (o_nameCount := n_nameCount) rfl) ⟨rfl, rfl⟩ ⟨Nat.le_of_ble_eq_true rfl, Nat.le_of_ble_eq_true rfl⟩ ⟨Nat.zero_le _, Nat.zero_le _⟩ rfl rfl (Nat.le_of_ble_eq_true rfl) 10 2 rfl rfl rfl [10, 11, 12, 13, 14, 15, 16, 3, 4, 5, 6, 7, 8, 9] rfl rfl [none, none, none, some 7, some 8, some 9, some 10, some 11, some 12, some 13, some 0, some 1, some 2, some 3, some 4, some 5, some 6] rfl rfl rfl rfl dX6_keep_21 (fun z1 => ?_)
      refine z_aload_n G dX6_keep_24 rfl 0 rfl ?_
      refine z_get (ci := 6) (v := .ref (ta 2)) G in_X6 0 rfl rfl 7 (by decide) fl_X6_51 rfl dX6_keep_25 ?_
      refine z_iload_n G dX6_keep_28 rfl 1 rfl ?_
      refine z_iconst (v := 1) G dX6_keep_29 (by decide) ?_
      refine z_bastore (ws' := (w_Sk1 cI cJ cZ cN ta na k1a t_told t_text t_guide t_acts t_past t_trial (fun j => if j = 0 then k0a 0 else k1a 0) (upd t_filled (ix 1) (vp_nar .boolean 1)) n_narrower n_order n_items n_names n_owners n_moving n_all n_size n_nameCount ((f_X2_copyFrom k1_narrower k1_order k1_items k1_names k1_owners k1_all k1_size k1_nameCount n_narrower n_order n_items n_names n_owners n_all n_size n_nameCount).1) ((f_X2_copyFrom k1_narrower k1_order k1_items k1_names k1_owners k1_all k1_size k1_nameCount n_narrower n_order n_items n_names n_owners n_all n_size n_nameCount).2.1) ((f_X2_copyFrom k1_narrower k1_order k1_items k1_names k1_owners k1_all k1_size k1_nameCount n_narrower n_order n_items n_names n_owners n_all n_size n_nameCount).2.2.1) ((f_X2_copyFrom k1_narrower k1_order k1_items k1_names k1_owners k1_all k1_size k1_nameCount n_narrower n_order n_items n_names n_owners n_all n_size n_nameCount).2.2.2.1) ((f_X2_copyFrom k1_narrower k1_order k1_items k1_names k1_owners k1_all k1_size k1_nameCount n_narrower n_order n_items n_names n_owners n_all n_size n_nameCount).2.2.2.2.1) k1_moving ((f_X2_copyFrom k1_narrower k1_order k1_items k1_names k1_owners k1_all k1_size k1_nameCount n_narrower n_order n_items n_names n_owners n_all n_size n_nameCount).2.2.2.2.2.1) ((f_X2_copyFrom k1_narrower k1_order k1_items k1_names k1_owners k1_all k1_size k1_nameCount n_narrower n_order n_items n_names n_owners n_all n_size n_nameCount).2.2.2.2.2.2.1) ((f_X2_copyFrom k1_narrower k1_order k1_items k1_names k1_owners k1_all k1_size k1_nameCount n_narrower n_order n_items n_names n_owners n_all n_size n_nameCount).2.2.2.2.2.2.2))) G 2 2 rfl rfl rfl dX6_keep_30 h (fun h => ?_)
      refine z_iconst (v := 1) G dX6_keep_31 (by decide) ?_
      obtain rfl := Option.some.inj h
      exact z_zret G rfl zn1 dX6_keep_32 rfl zn1 rfl
    · refine z_iconst (v := 0) G dX6_keep_9 (by decide) ?_
      obtain rfl := Option.some.inj h
      exact z_zret G rfl zn0 dX6_keep_10 rfl zn0 rfl

noncomputable def f_X6_keep_x (t_kept : Nat → Nat) (p1 : Int32) : Option (Int32) :=
  if p1 < 0 then some (0) else if p1 < 2 then none else some (0)
set_option maxRecDepth 100000 in
set_option maxHeartbeats 4000000 in
theorem c_X6_keep_x {l : Launch} {dC : Nat → ClassId} {dI : Nat → Nat → Nat} {cI cJ cZ cN : ClassId} {ta : Nat → Nat} {t_told : Nat} {t_text : Nat} {t_guide : Nat} {t_acts : Nat} {t_past : Nat} {t_trial : Nat} {t_kept : Nat → Nat} {t_filled : Nat → Int32} {t_now : Nat} {p1 : Int32} {res : Int32} (h : f_X6_keep_x t_kept p1 = some res) : zM l yX6_keep cX6_keep 2 (some .boolean) ({ frames := 0, cells := 0, slots := 0, locals := 0 }) [.ref (ta 0), .int p1] (dC, dI) vwCl (zT cI cJ cZ cN) (w_St cI cJ cZ cN ta t_told t_text t_guide t_acts t_past t_trial t_kept t_filled t_now) (some (.int res)) (narrow .boolean (.int res) = .int res) (w_St cI cJ cZ cN ta t_told t_text t_guide t_acts t_past t_trial t_kept t_filled t_now) := by
  refine zM_of (own := RX6) (by decide) rfl [(0, .ref (ta 0)), (1, .int p1)] (Nat.le_of_ble_eq_true rfl) rfl ?_
  intro p e s m args below meth c A G _
  unfold f_X6_keep_x at h
  refine z_iload_n G dX6_keep_0 rfl 1 rfl ?_
  refine z_if_lt (tgt := 9) G dX6_keep_1 (by decide) h (fun h => ?_) (fun h => ?_)
  · refine z_iconst (v := 0) G dX6_keep_9 (by decide) ?_
    obtain rfl := Option.some.inj h
    exact z_zret G rfl zn0 dX6_keep_10 rfl zn0 rfl
  · refine z_iload_n G dX6_keep_4 rfl 1 rfl ?_
    refine z_iconst (v := 2) G dX6_keep_5 (by decide) ?_
    refine z_icmp_lt (tgt := 11) G dX6_keep_6 (by decide) h (fun h => ?_) (fun h => ?_)
    · refine z_aload_n G dX6_keep_11 rfl 0 rfl ?_
      refine z_get (ci := 6) (v := .ref (ta 1)) G in_X6 0 rfl rfl 6 (by decide) fl_X6_47 rfl dX6_keep_12 ?_
      refine z_iload_n G dX6_keep_15 rfl 1 rfl ?_
      cases h
    · refine z_iconst (v := 0) G dX6_keep_9 (by decide) ?_
      obtain rfl := Option.some.inj h
      exact z_zret G rfl zn0 dX6_keep_10 rfl zn0 rfl

noncomputable def f_X6_again_0 (t_filled : Nat → Int32) (n_narrower : Nat → Int32) (n_order : Nat → Int32) (n_items : Nat → Int64) (n_names : Nat → Int32) (n_owners : Nat → Int32) (n_all : Int32) (n_size : Int32) (n_nameCount : Int32) (p_size : Int32) (k0_narrower : Nat → Int32) (k0_order : Nat → Int32) (k0_items : Nat → Int64) (k0_names : Nat → Int32) (k0_owners : Nat → Int32) (k0_all : Int32) (k0_size : Int32) (k0_nameCount : Int32) : Option (Int32 × (Nat → Int32) × (Nat → Int32) × (Nat → Int64) × (Nat → Int32) × (Nat → Int32) × Int32 × Int32 × Int32 × Int32) :=
  if (0 : Int32) < 0 then some (0, n_narrower, n_order, n_items, n_names, n_owners, n_all, n_size, n_nameCount, p_size) else if (2 : Int32) ≤ 0 then some (0, n_narrower, n_order, n_items, n_names, n_owners, n_all, n_size, n_nameCount, p_size) else chk (inb 0 2) (if (t_filled (ix 0)) = 0 then some (0, n_narrower, n_order, n_items, n_names, n_owners, n_all, n_size, n_nameCount, p_size) else chk (inb 0 2) (some (1, (f_X2_copyFrom n_narrower n_order n_items n_names n_owners n_all n_size n_nameCount k0_narrower k0_order k0_items k0_names k0_owners k0_all k0_size k0_nameCount).1, (f_X2_copyFrom n_narrower n_order n_items n_names n_owners n_all n_size n_nameCount k0_narrower k0_order k0_items k0_names k0_owners k0_all k0_size k0_nameCount).2.1, (f_X2_copyFrom n_narrower n_order n_items n_names n_owners n_all n_size n_nameCount k0_narrower k0_order k0_items k0_names k0_owners k0_all k0_size k0_nameCount).2.2.1, (f_X2_copyFrom n_narrower n_order n_items n_names n_owners n_all n_size n_nameCount k0_narrower k0_order k0_items k0_names k0_owners k0_all k0_size k0_nameCount).2.2.2.1, (f_X2_copyFrom n_narrower n_order n_items n_names n_owners n_all n_size n_nameCount k0_narrower k0_order k0_items k0_names k0_owners k0_all k0_size k0_nameCount).2.2.2.2.1, (f_X2_copyFrom n_narrower n_order n_items n_names n_owners n_all n_size n_nameCount k0_narrower k0_order k0_items k0_names k0_owners k0_all k0_size k0_nameCount).2.2.2.2.2.1, (f_X2_copyFrom n_narrower n_order n_items n_names n_owners n_all n_size n_nameCount k0_narrower k0_order k0_items k0_names k0_owners k0_all k0_size k0_nameCount).2.2.2.2.2.2.1, (f_X2_copyFrom n_narrower n_order n_items n_names n_owners n_all n_size n_nameCount k0_narrower k0_order k0_items k0_names k0_owners k0_all k0_size k0_nameCount).2.2.2.2.2.2.2, 0)))
set_option maxRecDepth 100000 in
set_option maxHeartbeats 4000000 in
theorem c_X6_again_0 {l : Launch} {dC : Nat → ClassId} {dI : Nat → Nat → Nat} {cI cJ cZ cN : ClassId} {ta : Nat → Nat} {na : Nat → Nat} {pa : Nat → Nat} {k0a : Nat → Nat} {k1a : Nat → Nat} {t_told : Nat} {t_text : Nat} {t_guide : Nat} {t_acts : Nat} {t_trial : Nat} {t_filled : Nat → Int32} {n_narrower : Nat → Int32} {n_order : Nat → Int32} {n_items : Nat → Int64} {n_names : Nat → Int32} {n_owners : Nat → Int32} {n_moving : Nat → Int32} {n_all : Int32} {n_size : Int32} {n_nameCount : Int32} {p_nets : Nat → Nat} {p_spare : Nat} {p_size : Int32} {k0_narrower : Nat → Int32} {k0_order : Nat → Int32} {k0_items : Nat → Int64} {k0_names : Nat → Int32} {k0_owners : Nat → Int32} {k0_moving : Nat → Int32} {k0_all : Int32} {k0_size : Int32} {k0_nameCount : Int32}  {res : Int32 × (Nat → Int32) × (Nat → Int32) × (Nat → Int64) × (Nat → Int32) × (Nat → Int32) × Int32 × Int32 × Int32 × Int32} (h : f_X6_again_0 t_filled n_narrower n_order n_items n_names n_owners n_all n_size n_nameCount p_size k0_narrower k0_order k0_items k0_names k0_owners k0_all k0_size k0_nameCount = some res) : zM l yX6_again cX6_again 2 (some .boolean) ({ frames := 2, cells := 0, slots := 0, locals := 61 }) [.ref (ta 0), .int 0] (dC, dI) vwCl (zT cI cJ cZ cN) (w_Sa0 cI cJ cZ cN ta na pa k0a t_told t_text t_guide t_acts t_trial (fun j => if j = 0 then k0a 0 else k1a 0) t_filled n_narrower n_order n_items n_names n_owners n_moving n_all n_size n_nameCount p_nets p_spare p_size k0_narrower k0_order k0_items k0_names k0_owners k0_moving k0_all k0_size k0_nameCount) (some (.int res.1)) (narrow .boolean (.int res.1) = .int res.1) (w_Sa0 cI cJ cZ cN ta na pa k0a t_told t_text t_guide t_acts t_trial (fun j => if j = 0 then k0a 0 else k1a 0) t_filled res.2.1 res.2.2.1 res.2.2.2.1 res.2.2.2.2.1 res.2.2.2.2.2.1 n_moving res.2.2.2.2.2.2.1 res.2.2.2.2.2.2.2.1 res.2.2.2.2.2.2.2.2.1 p_nets p_spare res.2.2.2.2.2.2.2.2.2 k0_narrower k0_order k0_items k0_names k0_owners k0_moving k0_all k0_size k0_nameCount) := by
  refine zM_of (own := RX6) (by decide) rfl [(0, .ref (ta 0)), (1, .int 0)] (Nat.le_of_ble_eq_true rfl) rfl ?_
  intro p e s m args below meth c A G _
  unfold f_X6_again_0 at h
  refine z_iload_n G dX6_again_0 rfl 1 rfl ?_
  refine z_if_lt (tgt := 18) G dX6_again_1 (by decide) h (fun h => ?_) (fun h => ?_)
  · refine z_iconst (v := 0) G dX6_again_18 (by decide) ?_
    obtain rfl := Option.some.inj h
    exact z_zret G rfl zn0 dX6_again_19 rfl zn0 rfl
  · refine z_iload_n G dX6_again_4 rfl 1 rfl ?_
    refine z_iconst (v := 2) G dX6_again_5 (by decide) ?_
    refine z_icmp_ge (tgt := 18) G dX6_again_6 (by decide) h (fun h => ?_) (fun h => ?_)
    · refine z_iconst (v := 0) G dX6_again_18 (by decide) ?_
      obtain rfl := Option.some.inj h
      exact z_zret G rfl zn0 dX6_again_19 rfl zn0 rfl
    · refine z_aload_n G dX6_again_9 rfl 0 rfl ?_
      refine z_get (ci := 6) (v := .ref (ta 2)) G in_X6 0 rfl rfl 7 (by decide) fl_X6_51 rfl dX6_again_10 ?_
      refine z_iload_n G dX6_again_13 rfl 1 rfl ?_
      refine z_baload G 2 2 rfl rfl dX6_again_14 h (fun h => ?_)
      refine z_if_ne (tgt := 20) G dX6_again_15 (by decide) h (fun h => ?_) (fun h => ?_)
      · refine z_aload_n G dX6_again_20 rfl 0 rfl ?_
        refine z_get (ci := 6) (v := .ref (na 0)) G in_X6 0 rfl rfl 8 (by decide) fl_X6_55 rfl dX6_again_21 ?_
        refine z_aload_n G dX6_again_24 rfl 0 rfl ?_
        refine z_get (ci := 6) (v := .ref (ta 1)) G in_X6 0 rfl rfl 6 (by decide) fl_X6_47 rfl dX6_again_25 ?_
        refine z_iload_n G dX6_again_28 rfl 1 rfl ?_
        refine z_aaloadb (f := fun j => if j = 0 then k0a 0 else k1a 0) (n := 2) (st' := [.ref (k0a 0), .ref (na 0)]) G 1 3 rfl rfl dX6_again_29 rfl h (fun h => ?_)
        refine z_kV (As := [.ref (k0a 0)]) (rest := []) (st' := []) (ws' := (w_Sa0 cI cJ cZ cN ta na pa k0a t_told t_text t_guide t_acts t_trial (fun j => if j = 0 then k0a 0 else k1a 0) t_filled ((f_X2_copyFrom n_narrower n_order n_items n_names n_owners n_all n_size n_nameCount k0_narrower k0_order k0_items k0_names k0_owners k0_all k0_size k0_nameCount).1) ((f_X2_copyFrom n_narrower n_order n_items n_names n_owners n_all n_size n_nameCount k0_narrower k0_order k0_items k0_names k0_owners k0_all k0_size k0_nameCount).2.1) ((f_X2_copyFrom n_narrower n_order n_items n_names n_owners n_all n_size n_nameCount k0_narrower k0_order k0_items k0_names k0_owners k0_all k0_size k0_nameCount).2.2.1) ((f_X2_copyFrom n_narrower n_order n_items n_names n_owners n_all n_size n_nameCount k0_narrower k0_order k0_items k0_names k0_owners k0_all k0_size k0_nameCount).2.2.2.1) ((f_X2_copyFrom n_narrower n_order n_items n_names n_owners n_all n_size n_nameCount k0_narrower k0_order k0_items k0_names k0_owners k0_all k0_size k0_nameCount).2.2.2.2.1) n_moving ((f_X2_copyFrom n_narrower n_order n_items n_names n_owners n_all n_size n_nameCount k0_narrower k0_order k0_items k0_names k0_owners k0_all k0_size k0_nameCount).2.2.2.2.2.1) ((f_X2_copyFrom n_narrower n_order n_items n_names n_owners n_all n_size n_nameCount k0_narrower k0_order k0_items k0_names k0_owners k0_all k0_size k0_nameCount).2.2.2.2.2.2.1) ((f_X2_copyFrom n_narrower n_order n_items n_names n_owners n_all n_size n_nameCount k0_narrower k0_order k0_items k0_names k0_owners k0_all k0_size k0_nameCount).2.2.2.2.2.2.2) p_nets p_spare p_size k0_narrower k0_order k0_items k0_names k0_owners k0_moving k0_all k0_size k0_nameCount)) G pk_X2_copyFrom pv_X2_copyFrom ml_X6_167 (c_X2_copyFrom (ta := na) (oa := k0a) (t_narrower := n_narrower) (t_order := n_order) (t_items := n_items) (t_names := n_names) (t_owners := n_owners) (t_moving := n_moving) (t_all := n_all) (t_size := n_size) (t_nameCount := n_nameCount) (o_narrower := k0_narrower) (o_order := k0_order) (o_items := k0_items) (o_names := k0_names) (o_owners := k0_owners) (o_moving := k0_moving) (o_all := k0_all) (o_size := k0_size) (o_nameCount := k0_nameCount) rfl) ⟨rfl, rfl⟩ ⟨Nat.le_of_ble_eq_true rfl, Nat.le_of_ble_eq_true rfl⟩ ⟨Nat.zero_le _, Nat.zero_le _⟩ rfl rfl (Nat.le_of_ble_eq_true rfl) 3 2 rfl rfl rfl [3, 4, 5, 6, 7, 8, 9, 12, 13, 14, 15, 16, 17, 18] rfl rfl [none, none, none, some 0, some 1, some 2, some 3, some 4, some 5, some 6, none, none, some 7, some 8, some 9, some 10, some 11, some 12, some 13] rfl rfl rfl rfl dX6_again_30 (fun z1 => ?_)
        refine z_aload_n G dX6_again_33 rfl 0 rfl ?_
        refine z_get (ci := 6) (v := .ref (pa 0)) G in_X6 0 rfl rfl 4 (by decide) fl_X6_36 rfl dX6_again_34 ?_
        refine z_iconst (v := 0) G dX6_again_37 (by decide) ?_
        refine z_put (ci := 3) (ws' := (w_Sa0 cI cJ cZ cN ta na pa k0a t_told t_text t_guide t_acts t_trial (fun j => if j = 0 then k0a 0 else k1a 0) t_filled ((f_X2_copyFrom n_narrower n_order n_items n_names n_owners n_all n_size n_nameCount k0_narrower k0_order k0_items k0_names k0_owners k0_all k0_size k0_nameCount).1) ((f_X2_copyFrom n_narrower n_order n_items n_names n_owners n_all n_size n_nameCount k0_narrower k0_order k0_items k0_names k0_owners k0_all k0_size k0_nameCount).2.1) ((f_X2_copyFrom n_narrower n_order n_items n_names n_owners n_all n_size n_nameCount k0_narrower k0_order k0_items k0_names k0_owners k0_all k0_size k0_nameCount).2.2.1) ((f_X2_copyFrom n_narrower n_order n_items n_names n_owners n_all n_size n_nameCount k0_narrower k0_order k0_items k0_names k0_owners k0_all k0_size k0_nameCount).2.2.2.1) ((f_X2_copyFrom n_narrower n_order n_items n_names n_owners n_all n_size n_nameCount k0_narrower k0_order k0_items k0_names k0_owners k0_all k0_size k0_nameCount).2.2.2.2.1) n_moving ((f_X2_copyFrom n_narrower n_order n_items n_names n_owners n_all n_size n_nameCount k0_narrower k0_order k0_items k0_names k0_owners k0_all k0_size k0_nameCount).2.2.2.2.2.1) ((f_X2_copyFrom n_narrower n_order n_items n_names n_owners n_all n_size n_nameCount k0_narrower k0_order k0_items k0_names k0_owners k0_all k0_size k0_nameCount).2.2.2.2.2.2.1) ((f_X2_copyFrom n_narrower n_order n_items n_names n_owners n_all n_size n_nameCount k0_narrower k0_order k0_items k0_names k0_owners k0_all k0_size k0_nameCount).2.2.2.2.2.2.2) p_nets p_spare 0 k0_narrower k0_order k0_items k0_names k0_owners k0_moving k0_all k0_size k0_nameCount)) G in_X3 tyX3 tyX3_ok nmX3 10 rfl rfl 2 (by decide) fl_X6_285 rfl rfl rfl (Nat.le_of_ble_eq_true rfl) rfl dX6_again_38 ?_
        refine z_iconst (v := 1) G dX6_again_41 (by decide) ?_
        obtain rfl := Option.some.inj h
        exact z_zret G rfl zn1 dX6_again_42 rfl zn1 rfl
      · refine z_iconst (v := 0) G dX6_again_18 (by decide) ?_
        obtain rfl := Option.some.inj h
        exact z_zret G rfl zn0 dX6_again_19 rfl zn0 rfl

noncomputable def f_X6_again_1 (t_filled : Nat → Int32) (n_narrower : Nat → Int32) (n_order : Nat → Int32) (n_items : Nat → Int64) (n_names : Nat → Int32) (n_owners : Nat → Int32) (n_all : Int32) (n_size : Int32) (n_nameCount : Int32) (p_size : Int32) (k1_narrower : Nat → Int32) (k1_order : Nat → Int32) (k1_items : Nat → Int64) (k1_names : Nat → Int32) (k1_owners : Nat → Int32) (k1_all : Int32) (k1_size : Int32) (k1_nameCount : Int32) : Option (Int32 × (Nat → Int32) × (Nat → Int32) × (Nat → Int64) × (Nat → Int32) × (Nat → Int32) × Int32 × Int32 × Int32 × Int32) :=
  if (1 : Int32) < 0 then some (0, n_narrower, n_order, n_items, n_names, n_owners, n_all, n_size, n_nameCount, p_size) else if (2 : Int32) ≤ 1 then some (0, n_narrower, n_order, n_items, n_names, n_owners, n_all, n_size, n_nameCount, p_size) else chk (inb 1 2) (if (t_filled (ix 1)) = 0 then some (0, n_narrower, n_order, n_items, n_names, n_owners, n_all, n_size, n_nameCount, p_size) else chk (inb 1 2) (some (1, (f_X2_copyFrom n_narrower n_order n_items n_names n_owners n_all n_size n_nameCount k1_narrower k1_order k1_items k1_names k1_owners k1_all k1_size k1_nameCount).1, (f_X2_copyFrom n_narrower n_order n_items n_names n_owners n_all n_size n_nameCount k1_narrower k1_order k1_items k1_names k1_owners k1_all k1_size k1_nameCount).2.1, (f_X2_copyFrom n_narrower n_order n_items n_names n_owners n_all n_size n_nameCount k1_narrower k1_order k1_items k1_names k1_owners k1_all k1_size k1_nameCount).2.2.1, (f_X2_copyFrom n_narrower n_order n_items n_names n_owners n_all n_size n_nameCount k1_narrower k1_order k1_items k1_names k1_owners k1_all k1_size k1_nameCount).2.2.2.1, (f_X2_copyFrom n_narrower n_order n_items n_names n_owners n_all n_size n_nameCount k1_narrower k1_order k1_items k1_names k1_owners k1_all k1_size k1_nameCount).2.2.2.2.1, (f_X2_copyFrom n_narrower n_order n_items n_names n_owners n_all n_size n_nameCount k1_narrower k1_order k1_items k1_names k1_owners k1_all k1_size k1_nameCount).2.2.2.2.2.1, (f_X2_copyFrom n_narrower n_order n_items n_names n_owners n_all n_size n_nameCount k1_narrower k1_order k1_items k1_names k1_owners k1_all k1_size k1_nameCount).2.2.2.2.2.2.1, (f_X2_copyFrom n_narrower n_order n_items n_names n_owners n_all n_size n_nameCount k1_narrower k1_order k1_items k1_names k1_owners k1_all k1_size k1_nameCount).2.2.2.2.2.2.2, 0)))
set_option maxRecDepth 100000 in
set_option maxHeartbeats 4000000 in
theorem c_X6_again_1 {l : Launch} {dC : Nat → ClassId} {dI : Nat → Nat → Nat} {cI cJ cZ cN : ClassId} {ta : Nat → Nat} {na : Nat → Nat} {pa : Nat → Nat} {k1a : Nat → Nat} {k0a : Nat → Nat} {t_told : Nat} {t_text : Nat} {t_guide : Nat} {t_acts : Nat} {t_trial : Nat} {t_filled : Nat → Int32} {n_narrower : Nat → Int32} {n_order : Nat → Int32} {n_items : Nat → Int64} {n_names : Nat → Int32} {n_owners : Nat → Int32} {n_moving : Nat → Int32} {n_all : Int32} {n_size : Int32} {n_nameCount : Int32} {p_nets : Nat → Nat} {p_spare : Nat} {p_size : Int32} {k1_narrower : Nat → Int32} {k1_order : Nat → Int32} {k1_items : Nat → Int64} {k1_names : Nat → Int32} {k1_owners : Nat → Int32} {k1_moving : Nat → Int32} {k1_all : Int32} {k1_size : Int32} {k1_nameCount : Int32}  {res : Int32 × (Nat → Int32) × (Nat → Int32) × (Nat → Int64) × (Nat → Int32) × (Nat → Int32) × Int32 × Int32 × Int32 × Int32} (h : f_X6_again_1 t_filled n_narrower n_order n_items n_names n_owners n_all n_size n_nameCount p_size k1_narrower k1_order k1_items k1_names k1_owners k1_all k1_size k1_nameCount = some res) : zM l yX6_again cX6_again 2 (some .boolean) ({ frames := 2, cells := 0, slots := 0, locals := 61 }) [.ref (ta 0), .int 1] (dC, dI) vwCl (zT cI cJ cZ cN) (w_Sa1 cI cJ cZ cN ta na pa k1a t_told t_text t_guide t_acts t_trial (fun j => if j = 0 then k0a 0 else k1a 0) t_filled n_narrower n_order n_items n_names n_owners n_moving n_all n_size n_nameCount p_nets p_spare p_size k1_narrower k1_order k1_items k1_names k1_owners k1_moving k1_all k1_size k1_nameCount) (some (.int res.1)) (narrow .boolean (.int res.1) = .int res.1) (w_Sa1 cI cJ cZ cN ta na pa k1a t_told t_text t_guide t_acts t_trial (fun j => if j = 0 then k0a 0 else k1a 0) t_filled res.2.1 res.2.2.1 res.2.2.2.1 res.2.2.2.2.1 res.2.2.2.2.2.1 n_moving res.2.2.2.2.2.2.1 res.2.2.2.2.2.2.2.1 res.2.2.2.2.2.2.2.2.1 p_nets p_spare res.2.2.2.2.2.2.2.2.2 k1_narrower k1_order k1_items k1_names k1_owners k1_moving k1_all k1_size k1_nameCount) := by
  refine zM_of (own := RX6) (by decide) rfl [(0, .ref (ta 0)), (1, .int 1)] (Nat.le_of_ble_eq_true rfl) rfl ?_
  intro p e s m args below meth c A G _
  unfold f_X6_again_1 at h
  refine z_iload_n G dX6_again_0 rfl 1 rfl ?_
  refine z_if_lt (tgt := 18) G dX6_again_1 (by decide) h (fun h => ?_) (fun h => ?_)
  · refine z_iconst (v := 0) G dX6_again_18 (by decide) ?_
    obtain rfl := Option.some.inj h
    exact z_zret G rfl zn0 dX6_again_19 rfl zn0 rfl
  · refine z_iload_n G dX6_again_4 rfl 1 rfl ?_
    refine z_iconst (v := 2) G dX6_again_5 (by decide) ?_
    refine z_icmp_ge (tgt := 18) G dX6_again_6 (by decide) h (fun h => ?_) (fun h => ?_)
    · refine z_iconst (v := 0) G dX6_again_18 (by decide) ?_
      obtain rfl := Option.some.inj h
      exact z_zret G rfl zn0 dX6_again_19 rfl zn0 rfl
    · refine z_aload_n G dX6_again_9 rfl 0 rfl ?_
      refine z_get (ci := 6) (v := .ref (ta 2)) G in_X6 0 rfl rfl 7 (by decide) fl_X6_51 rfl dX6_again_10 ?_
      refine z_iload_n G dX6_again_13 rfl 1 rfl ?_
      refine z_baload G 2 2 rfl rfl dX6_again_14 h (fun h => ?_)
      refine z_if_ne (tgt := 20) G dX6_again_15 (by decide) h (fun h => ?_) (fun h => ?_)
      · refine z_aload_n G dX6_again_20 rfl 0 rfl ?_
        refine z_get (ci := 6) (v := .ref (na 0)) G in_X6 0 rfl rfl 8 (by decide) fl_X6_55 rfl dX6_again_21 ?_
        refine z_aload_n G dX6_again_24 rfl 0 rfl ?_
        refine z_get (ci := 6) (v := .ref (ta 1)) G in_X6 0 rfl rfl 6 (by decide) fl_X6_47 rfl dX6_again_25 ?_
        refine z_iload_n G dX6_again_28 rfl 1 rfl ?_
        refine z_aaloadb (f := fun j => if j = 0 then k0a 0 else k1a 0) (n := 2) (st' := [.ref (k1a 0), .ref (na 0)]) G 1 3 rfl rfl dX6_again_29 rfl h (fun h => ?_)
        refine z_kV (As := [.ref (k1a 0)]) (rest := []) (st' := []) (ws' := (w_Sa1 cI cJ cZ cN ta na pa k1a t_told t_text t_guide t_acts t_trial (fun j => if j = 0 then k0a 0 else k1a 0) t_filled ((f_X2_copyFrom n_narrower n_order n_items n_names n_owners n_all n_size n_nameCount k1_narrower k1_order k1_items k1_names k1_owners k1_all k1_size k1_nameCount).1) ((f_X2_copyFrom n_narrower n_order n_items n_names n_owners n_all n_size n_nameCount k1_narrower k1_order k1_items k1_names k1_owners k1_all k1_size k1_nameCount).2.1) ((f_X2_copyFrom n_narrower n_order n_items n_names n_owners n_all n_size n_nameCount k1_narrower k1_order k1_items k1_names k1_owners k1_all k1_size k1_nameCount).2.2.1) ((f_X2_copyFrom n_narrower n_order n_items n_names n_owners n_all n_size n_nameCount k1_narrower k1_order k1_items k1_names k1_owners k1_all k1_size k1_nameCount).2.2.2.1) ((f_X2_copyFrom n_narrower n_order n_items n_names n_owners n_all n_size n_nameCount k1_narrower k1_order k1_items k1_names k1_owners k1_all k1_size k1_nameCount).2.2.2.2.1) n_moving ((f_X2_copyFrom n_narrower n_order n_items n_names n_owners n_all n_size n_nameCount k1_narrower k1_order k1_items k1_names k1_owners k1_all k1_size k1_nameCount).2.2.2.2.2.1) ((f_X2_copyFrom n_narrower n_order n_items n_names n_owners n_all n_size n_nameCount k1_narrower k1_order k1_items k1_names k1_owners k1_all k1_size k1_nameCount).2.2.2.2.2.2.1) ((f_X2_copyFrom n_narrower n_order n_items n_names n_owners n_all n_size n_nameCount k1_narrower k1_order k1_items k1_names k1_owners k1_all k1_size k1_nameCount).2.2.2.2.2.2.2) p_nets p_spare p_size k1_narrower k1_order k1_items k1_names k1_owners k1_moving k1_all k1_size k1_nameCount)) G pk_X2_copyFrom pv_X2_copyFrom ml_X6_167 (c_X2_copyFrom (ta := na) (oa := k1a) (t_narrower := n_narrower) (t_order := n_order) (t_items := n_items) (t_names := n_names) (t_owners := n_owners) (t_moving := n_moving) (t_all := n_all) (t_size := n_size) (t_nameCount := n_nameCount) (o_narrower := k1_narrower) (o_order := k1_order) (o_items := k1_items) (o_names := k1_names) (o_owners := k1_owners) (o_moving := k1_moving) (o_all := k1_all) (o_size := k1_size) (o_nameCount := k1_nameCount) rfl) ⟨rfl, rfl⟩ ⟨Nat.le_of_ble_eq_true rfl, Nat.le_of_ble_eq_true rfl⟩ ⟨Nat.zero_le _, Nat.zero_le _⟩ rfl rfl (Nat.le_of_ble_eq_true rfl) 3 2 rfl rfl rfl [3, 4, 5, 6, 7, 8, 9, 12, 13, 14, 15, 16, 17, 18] rfl rfl [none, none, none, some 0, some 1, some 2, some 3, some 4, some 5, some 6, none, none, some 7, some 8, some 9, some 10, some 11, some 12, some 13] rfl rfl rfl rfl dX6_again_30 (fun z1 => ?_)
        refine z_aload_n G dX6_again_33 rfl 0 rfl ?_
        refine z_get (ci := 6) (v := .ref (pa 0)) G in_X6 0 rfl rfl 4 (by decide) fl_X6_36 rfl dX6_again_34 ?_
        refine z_iconst (v := 0) G dX6_again_37 (by decide) ?_
        refine z_put (ci := 3) (ws' := (w_Sa1 cI cJ cZ cN ta na pa k1a t_told t_text t_guide t_acts t_trial (fun j => if j = 0 then k0a 0 else k1a 0) t_filled ((f_X2_copyFrom n_narrower n_order n_items n_names n_owners n_all n_size n_nameCount k1_narrower k1_order k1_items k1_names k1_owners k1_all k1_size k1_nameCount).1) ((f_X2_copyFrom n_narrower n_order n_items n_names n_owners n_all n_size n_nameCount k1_narrower k1_order k1_items k1_names k1_owners k1_all k1_size k1_nameCount).2.1) ((f_X2_copyFrom n_narrower n_order n_items n_names n_owners n_all n_size n_nameCount k1_narrower k1_order k1_items k1_names k1_owners k1_all k1_size k1_nameCount).2.2.1) ((f_X2_copyFrom n_narrower n_order n_items n_names n_owners n_all n_size n_nameCount k1_narrower k1_order k1_items k1_names k1_owners k1_all k1_size k1_nameCount).2.2.2.1) ((f_X2_copyFrom n_narrower n_order n_items n_names n_owners n_all n_size n_nameCount k1_narrower k1_order k1_items k1_names k1_owners k1_all k1_size k1_nameCount).2.2.2.2.1) n_moving ((f_X2_copyFrom n_narrower n_order n_items n_names n_owners n_all n_size n_nameCount k1_narrower k1_order k1_items k1_names k1_owners k1_all k1_size k1_nameCount).2.2.2.2.2.1) ((f_X2_copyFrom n_narrower n_order n_items n_names n_owners n_all n_size n_nameCount k1_narrower k1_order k1_items k1_names k1_owners k1_all k1_size k1_nameCount).2.2.2.2.2.2.1) ((f_X2_copyFrom n_narrower n_order n_items n_names n_owners n_all n_size n_nameCount k1_narrower k1_order k1_items k1_names k1_owners k1_all k1_size k1_nameCount).2.2.2.2.2.2.2) p_nets p_spare 0 k1_narrower k1_order k1_items k1_names k1_owners k1_moving k1_all k1_size k1_nameCount)) G in_X3 tyX3 tyX3_ok nmX3 10 rfl rfl 2 (by decide) fl_X6_285 rfl rfl rfl (Nat.le_of_ble_eq_true rfl) rfl dX6_again_38 ?_
        refine z_iconst (v := 1) G dX6_again_41 (by decide) ?_
        obtain rfl := Option.some.inj h
        exact z_zret G rfl zn1 dX6_again_42 rfl zn1 rfl
      · refine z_iconst (v := 0) G dX6_again_18 (by decide) ?_
        obtain rfl := Option.some.inj h
        exact z_zret G rfl zn0 dX6_again_19 rfl zn0 rfl

noncomputable def f_X6_again_x (t_kept : Nat → Nat) (t_filled : Nat → Int32) (t_now : Nat) (p1 : Int32) : Option (Int32) :=
  if p1 < 0 then some (0) else if 2 ≤ p1 then some (0) else chk (inb p1 2) (if (t_filled (ix p1)) = 0 then some (0) else none)
set_option maxRecDepth 100000 in
set_option maxHeartbeats 4000000 in
theorem c_X6_again_x {l : Launch} {dC : Nat → ClassId} {dI : Nat → Nat → Nat} {cI cJ cZ cN : ClassId} {ta : Nat → Nat} {t_told : Nat} {t_text : Nat} {t_guide : Nat} {t_acts : Nat} {t_past : Nat} {t_trial : Nat} {t_kept : Nat → Nat} {t_filled : Nat → Int32} {t_now : Nat} {p1 : Int32} {res : Int32} (h : f_X6_again_x t_kept t_filled t_now p1 = some res) : zM l yX6_again cX6_again 2 (some .boolean) ({ frames := 0, cells := 0, slots := 0, locals := 0 }) [.ref (ta 0), .int p1] (dC, dI) vwCl (zT cI cJ cZ cN) (w_St cI cJ cZ cN ta t_told t_text t_guide t_acts t_past t_trial t_kept t_filled t_now) (some (.int res)) (narrow .boolean (.int res) = .int res) (w_St cI cJ cZ cN ta t_told t_text t_guide t_acts t_past t_trial t_kept t_filled t_now) := by
  refine zM_of (own := RX6) (by decide) rfl [(0, .ref (ta 0)), (1, .int p1)] (Nat.le_of_ble_eq_true rfl) rfl ?_
  intro p e s m args below meth c A G _
  unfold f_X6_again_x at h
  refine z_iload_n G dX6_again_0 rfl 1 rfl ?_
  refine z_if_lt (tgt := 18) G dX6_again_1 (by decide) h (fun h => ?_) (fun h => ?_)
  · refine z_iconst (v := 0) G dX6_again_18 (by decide) ?_
    obtain rfl := Option.some.inj h
    exact z_zret G rfl zn0 dX6_again_19 rfl zn0 rfl
  · refine z_iload_n G dX6_again_4 rfl 1 rfl ?_
    refine z_iconst (v := 2) G dX6_again_5 (by decide) ?_
    refine z_icmp_ge (tgt := 18) G dX6_again_6 (by decide) h (fun h => ?_) (fun h => ?_)
    · refine z_iconst (v := 0) G dX6_again_18 (by decide) ?_
      obtain rfl := Option.some.inj h
      exact z_zret G rfl zn0 dX6_again_19 rfl zn0 rfl
    · refine z_aload_n G dX6_again_9 rfl 0 rfl ?_
      refine z_get (ci := 6) (v := .ref (ta 2)) G in_X6 0 rfl rfl 7 (by decide) fl_X6_51 rfl dX6_again_10 ?_
      refine z_iload_n G dX6_again_13 rfl 1 rfl ?_
      refine z_baload G 2 2 rfl rfl dX6_again_14 h (fun h => ?_)
      refine z_if_ne (tgt := 20) G dX6_again_15 (by decide) h (fun h => ?_) (fun h => ?_)
      · refine z_aload_n G dX6_again_20 rfl 0 rfl ?_
        refine z_get (ci := 6) (v := .ref t_now) G in_X6 0 rfl rfl 8 (by decide) fl_X6_55 rfl dX6_again_21 ?_
        refine z_aload_n G dX6_again_24 rfl 0 rfl ?_
        refine z_get (ci := 6) (v := .ref (ta 1)) G in_X6 0 rfl rfl 6 (by decide) fl_X6_47 rfl dX6_again_25 ?_
        refine z_iload_n G dX6_again_28 rfl 1 rfl ?_
        cases h
      · refine z_iconst (v := 0) G dX6_again_18 (by decide) ?_
        obtain rfl := Option.some.inj h
        exact z_zret G rfl zn0 dX6_again_19 rfl zn0 rfl

noncomputable def f_X6_count (n_narrower : Nat → Int32) (n_items : Nat → Int64) (n_all : Int32) (n_size : Int32) (n_nameCount : Int32) (p_size : Int32) (r_size : Int32) (x_size : Int32) (p1 : Int32) : Option (Int32) :=
  if p1 = 0 then some (n_size) else (if p1 = 1 then some (n_all) else (if p1 = 2 then (f_X2_linkCount n_narrower n_all).bind (fun r1 => some (r1)) else (if p1 = 3 then some (n_nameCount) else (if p1 = 4 then (f_X2_postings n_items).bind (fun r3 => some (r3)) else (if p1 = 5 then some (p_size) else (if p1 = 6 then some (r_size) else (if p1 = 7 then some (x_size) else (some ((-1))))))))))
set_option maxRecDepth 100000 in
set_option maxHeartbeats 4000000 in
theorem c_X6_count {l : Launch} {dC : Nat → ClassId} {dI : Nat → Nat → Nat} {cI cJ cZ cN : ClassId} {ta : Nat → Nat} {na : Nat → Nat} {pa : Nat → Nat} {ra : Nat → Nat} {xa : Nat → Nat} {t_guide : Nat} {t_acts : Nat} {t_trial : Nat} {t_kept : Nat → Nat} {t_filled : Nat → Int32} {n_narrower : Nat → Int32} {n_order : Nat → Int32} {n_items : Nat → Int64} {n_names : Nat → Int32} {n_owners : Nat → Int32} {n_moving : Nat → Int32} {n_all : Int32} {n_size : Int32} {n_nameCount : Int32} {p_nets : Nat → Nat} {p_spare : Nat} {p_size : Int32} {r_numbers : Nat → Int64} {r_size : Int32} {x_words : Nat → Int32} {x_wordCount : Int32} {x_size : Int32} {x_signs : Nat → Int32} {x_next : Int32} {p1 : Int32} {res : Int32} (h : f_X6_count n_narrower n_items n_all n_size n_nameCount p_size r_size x_size p1 = some res) : zM l yX6_count cX6_count 2 (some .int) ({ frames := 3, cells := 0, slots := 0, locals := 64 }) [.ref (ta 0), .int p1] (dC, dI) vwCl (zT cI cJ cZ cN) (w_Scnt cI cJ cZ cN ta na pa ra xa t_guide t_acts t_trial t_kept t_filled n_narrower n_order n_items n_names n_owners n_moving n_all n_size n_nameCount p_nets p_spare p_size r_numbers r_size x_words x_wordCount x_size x_signs x_next) (some (.int res)) (True) (w_Scnt cI cJ cZ cN ta na pa ra xa t_guide t_acts t_trial t_kept t_filled n_narrower n_order n_items n_names n_owners n_moving n_all n_size n_nameCount p_nets p_spare p_size r_numbers r_size x_words x_wordCount x_size x_signs x_next) := by
  refine zM_of (own := RX6) (by decide) rfl [(0, .ref (ta 0)), (1, .int p1)] (Nat.le_of_ble_eq_true rfl) rfl ?_
  intro p e s m args below meth c A G _
  unfold f_X6_count at h
  refine z_iload_n G dX6_count_0 rfl 1 rfl ?_
  refine z_ite (P := p1 = 0) h (fun q1_0 h => ?_) (fun q1_0 h => ?_)
  · refine z_tin (tgt := 48) G dX6_count_1 (by rw [q1_0]; decide) (by rw [q1_0]; decide) (off := 47) (by rw [q1_0]; decide) (by decide) ?_
    refine z_aload_n G dX6_count_48 rfl 0 rfl ?_
    refine z_get (ci := 6) (v := .ref (na 0)) G in_X6 0 rfl rfl 8 (by decide) fl_X6_55 rfl dX6_count_49 ?_
    refine z_get (ci := 2) (v := .int n_size) G in_X2 3 rfl rfl 7 (by decide) fl_X6_80 rfl dX6_count_52 ?_
    obtain rfl := Option.some.inj h
    exact z_iret G rfl dX6_count_55 rfl trivial rfl
  · refine z_ite (P := p1 = 1) h (fun q1_1 h => ?_) (fun q1_1 h => ?_)
    · refine z_tin (tgt := 56) G dX6_count_1 (by rw [q1_1]; decide) (by rw [q1_1]; decide) (off := 55) (by rw [q1_1]; decide) (by decide) ?_
      refine z_aload_n G dX6_count_56 rfl 0 rfl ?_
      refine z_get (ci := 6) (v := .ref (na 0)) G in_X6 0 rfl rfl 8 (by decide) fl_X6_55 rfl dX6_count_57 ?_
      refine z_get (ci := 2) (v := .int n_all) G in_X2 3 rfl rfl 6 (by decide) fl_X6_246 rfl dX6_count_60 ?_
      obtain rfl := Option.some.inj h
      exact z_iret G rfl dX6_count_63 rfl trivial rfl
    · refine z_ite (P := p1 = 2) h (fun q1_2 h => ?_) (fun q1_2 h => ?_)
      · refine z_tin (tgt := 64) G dX6_count_1 (by rw [q1_2]; decide) (by rw [q1_2]; decide) (off := 63) (by rw [q1_2]; decide) (by decide) ?_
        refine z_aload_n G dX6_count_64 rfl 0 rfl ?_
        refine z_get (ci := 6) (v := .ref (na 0)) G in_X6 0 rfl rfl 8 (by decide) fl_X6_55 rfl dX6_count_65 ?_
        obtain ⟨r1, e1, h⟩ := obind h
        refine z_kR (As := []) (rest := []) (st' := [.int r1]) G pk_X2_linkCount pv_X2_linkCount ml_X6_133 (c_X2_linkCount (ta := na) (t_narrower := n_narrower) (t_order := n_order) (t_items := n_items) (t_names := n_names) (t_owners := n_owners) (t_moving := n_moving) (t_all := n_all) (t_size := n_size) (t_nameCount := n_nameCount) e1) ⟨rfl, rfl⟩ ⟨Nat.le_of_ble_eq_true rfl, Nat.le_of_ble_eq_true rfl⟩ ⟨Nat.zero_le _, Nat.zero_le _⟩ rfl rfl (Nat.le_of_ble_eq_true rfl) 3 2 rfl rfl rfl [3, 4, 5, 6, 7, 8, 9] rfl rfl rfl dX6_count_68 (fun z2 => ?_)
        obtain rfl := Option.some.inj h
        exact z_iret G rfl dX6_count_71 rfl trivial rfl
      · refine z_ite (P := p1 = 3) h (fun q1_3 h => ?_) (fun q1_3 h => ?_)
        · refine z_tin (tgt := 72) G dX6_count_1 (by rw [q1_3]; decide) (by rw [q1_3]; decide) (off := 71) (by rw [q1_3]; decide) (by decide) ?_
          refine z_aload_n G dX6_count_72 rfl 0 rfl ?_
          refine z_get (ci := 6) (v := .ref (na 0)) G in_X6 0 rfl rfl 8 (by decide) fl_X6_55 rfl dX6_count_73 ?_
          refine z_get (ci := 2) (v := .int n_nameCount) G in_X2 3 rfl rfl 8 (by decide) fl_X6_81 rfl dX6_count_76 ?_
          obtain rfl := Option.some.inj h
          exact z_iret G rfl dX6_count_79 rfl trivial rfl
        · refine z_ite (P := p1 = 4) h (fun q1_4 h => ?_) (fun q1_4 h => ?_)
          · refine z_tin (tgt := 80) G dX6_count_1 (by rw [q1_4]; decide) (by rw [q1_4]; decide) (off := 79) (by rw [q1_4]; decide) (by decide) ?_
            refine z_aload_n G dX6_count_80 rfl 0 rfl ?_
            refine z_get (ci := 6) (v := .ref (na 0)) G in_X6 0 rfl rfl 8 (by decide) fl_X6_55 rfl dX6_count_81 ?_
            obtain ⟨r3, e3, h⟩ := obind h
            refine z_kR (As := []) (rest := []) (st' := [.int r3]) G pk_X2_postings pv_X2_postings ml_X6_297 (c_X2_postings (ta := na) (t_narrower := n_narrower) (t_order := n_order) (t_items := n_items) (t_names := n_names) (t_owners := n_owners) (t_moving := n_moving) (t_all := n_all) (t_size := n_size) (t_nameCount := n_nameCount) e3) ⟨rfl, rfl⟩ ⟨Nat.le_of_ble_eq_true rfl, Nat.le_of_ble_eq_true rfl⟩ ⟨Nat.zero_le _, Nat.zero_le _⟩ rfl rfl (Nat.le_of_ble_eq_true rfl) 3 2 rfl rfl rfl [3, 4, 5, 6, 7, 8, 9] rfl rfl rfl dX6_count_84 (fun z4 => ?_)
            obtain rfl := Option.some.inj h
            exact z_iret G rfl dX6_count_87 rfl trivial rfl
          · refine z_ite (P := p1 = 5) h (fun q1_5 h => ?_) (fun q1_5 h => ?_)
            · refine z_tin (tgt := 88) G dX6_count_1 (by rw [q1_5]; decide) (by rw [q1_5]; decide) (off := 87) (by rw [q1_5]; decide) (by decide) ?_
              refine z_aload_n G dX6_count_88 rfl 0 rfl ?_
              refine z_get (ci := 6) (v := .ref (pa 0)) G in_X6 0 rfl rfl 4 (by decide) fl_X6_36 rfl dX6_count_89 ?_
              refine z_get (ci := 3) (v := .int p_size) G in_X3 10 rfl rfl 2 (by decide) fl_X6_285 rfl dX6_count_92 ?_
              obtain rfl := Option.some.inj h
              exact z_iret G rfl dX6_count_95 rfl trivial rfl
            · refine z_ite (P := p1 = 6) h (fun q1_6 h => ?_) (fun q1_6 h => ?_)
              · refine z_tin (tgt := 96) G dX6_count_1 (by rw [q1_6]; decide) (by rw [q1_6]; decide) (off := 95) (by rw [q1_6]; decide) (by decide) ?_
                refine z_aload_n G dX6_count_96 rfl 0 rfl ?_
                refine z_get (ci := 6) (v := .ref (ra 0)) G in_X6 0 rfl rfl 0 (by decide) fl_X6_27 rfl dX6_count_97 ?_
                refine z_get (ci := 4) (v := .int r_size) G in_X4 12 rfl rfl 1 (by decide) fl_X6_120 rfl dX6_count_100 ?_
                obtain rfl := Option.some.inj h
                exact z_iret G rfl dX6_count_103 rfl trivial rfl
              · refine z_ite (P := p1 = 7) h (fun q1_7 h => ?_) (fun q1_7 h => ?_)
                · refine z_tin (tgt := 104) G dX6_count_1 (by rw [q1_7]; decide) (by rw [q1_7]; decide) (off := 103) (by rw [q1_7]; decide) (by decide) ?_
                  refine z_aload_n G dX6_count_104 rfl 0 rfl ?_
                  refine z_get (ci := 6) (v := .ref (xa 0)) G in_X6 0 rfl rfl 1 (by decide) fl_X6_12 rfl dX6_count_105 ?_
                  refine z_get (ci := 5) (v := .int x_size) G in_X5 14 rfl rfl 2 (by decide) fl_X6_62 rfl dX6_count_108 ?_
                  obtain rfl := Option.some.inj h
                  exact z_iret G rfl dX6_count_111 rfl trivial rfl
                · refine z_tout (tgt := 112) G dX6_count_1 (by have w0 := z_toInt (n := 0) (by decide) q1_0; have w1 := z_toInt (n := 1) (by decide) q1_1; have w2 := z_toInt (n := 2) (by decide) q1_2; have w3 := z_toInt (n := 3) (by decide) q1_3; have w4 := z_toInt (n := 4) (by decide) q1_4; have w5 := z_toInt (n := 5) (by decide) q1_5; have w6 := z_toInt (n := 6) (by decide) q1_6; have w7 := z_toInt (n := 7) (by decide) q1_7; omega) (by decide) ?_
                  refine z_iconst (v := (-1)) G dX6_count_112 (by decide) ?_
                  obtain rfl := Option.some.inj h
                  exact z_iret G rfl dX6_count_113 rfl trivial rfl

noncomputable def f_X6_place (n_order : Nat → Int32) (n_all : Int32) (n_size : Int32) (p1 : Int32) : Option (Int32) :=
  if (f_X2_has n_all p1) = 0 then none else (f_X2_placeOf n_order n_size p1).bind (fun r2 => some (r2))
set_option maxRecDepth 100000 in
set_option maxHeartbeats 4000000 in
theorem c_X6_place {l : Launch} {dC : Nat → ClassId} {dI : Nat → Nat → Nat} {cI cJ cZ cN : ClassId} {ta : Nat → Nat} {na : Nat → Nat} {t_told : Nat} {t_text : Nat} {t_guide : Nat} {t_acts : Nat} {t_past : Nat} {t_trial : Nat} {t_kept : Nat → Nat} {t_filled : Nat → Int32} {n_narrower : Nat → Int32} {n_order : Nat → Int32} {n_items : Nat → Int64} {n_names : Nat → Int32} {n_owners : Nat → Int32} {n_moving : Nat → Int32} {n_all : Int32} {n_size : Int32} {n_nameCount : Int32} {p1 : Int32} {res : Int32} (h : f_X6_place n_order n_all n_size p1 = some res) : zM l yX6_place cX6_place 2 (some .int) ({ frames := 2, cells := 0, slots := 0, locals := 42 }) [.ref (ta 0), .int p1] (dC, dI) vwCl (zT cI cJ cZ cN) (w_Stn cI cJ cZ cN ta na t_told t_text t_guide t_acts t_past t_trial t_kept t_filled n_narrower n_order n_items n_names n_owners n_moving n_all n_size n_nameCount) (some (.int res)) (True) (w_Stn cI cJ cZ cN ta na t_told t_text t_guide t_acts t_past t_trial t_kept t_filled n_narrower n_order n_items n_names n_owners n_moving n_all n_size n_nameCount) := by
  refine zM_of (own := RX6) (by decide) rfl [(0, .ref (ta 0)), (1, .int p1)] (Nat.le_of_ble_eq_true rfl) rfl ?_
  intro p e s m args below meth c A G _
  unfold f_X6_place at h
  refine z_aload_n G dX6_place_0 rfl 0 rfl ?_
  refine z_get (ci := 6) (v := .ref (na 0)) G in_X6 0 rfl rfl 8 (by decide) fl_X6_55 rfl dX6_place_1 ?_
  refine z_iload_n G dX6_place_4 rfl 1 rfl ?_
  refine z_kR (As := [.int p1]) (rest := []) (st' := [.int (f_X2_has n_all p1)]) G pk_X2_has pv_X2_has ml_X6_94 (c_X2_has (ta := na) (t_narrower := n_narrower) (t_order := n_order) (t_items := n_items) (t_names := n_names) (t_owners := n_owners) (t_moving := n_moving) (t_all := n_all) (t_size := n_size) (t_nameCount := n_nameCount) (p1 := p1) rfl) ⟨rfl, rfl⟩ ⟨Nat.le_of_ble_eq_true rfl, Nat.le_of_ble_eq_true rfl⟩ ⟨Nat.zero_le _, Nat.zero_le _⟩ rfl rfl (Nat.le_of_ble_eq_true rfl) 3 2 rfl rfl rfl [3, 4, 5, 6, 7, 8, 9] rfl rfl rfl dX6_place_5 (fun z1 => ?_)
  refine z_if_ne (tgt := 21) G dX6_place_8 (by decide) h (fun h => ?_) (fun h => ?_)
  · refine z_aload_n G dX6_place_21 rfl 0 rfl ?_
    refine z_get (ci := 6) (v := .ref (na 0)) G in_X6 0 rfl rfl 8 (by decide) fl_X6_55 rfl dX6_place_22 ?_
    refine z_iload_n G dX6_place_25 rfl 1 rfl ?_
    obtain ⟨r2, e2, h⟩ := obind h
    refine z_kR (As := [.int p1]) (rest := []) (st' := [.int r2]) G pk_X2_placeOf pv_X2_placeOf ml_X6_159 (c_X2_placeOf (ta := na) (t_narrower := n_narrower) (t_order := n_order) (t_items := n_items) (t_names := n_names) (t_owners := n_owners) (t_moving := n_moving) (t_all := n_all) (t_size := n_size) (t_nameCount := n_nameCount) (p1 := p1) e2) ⟨rfl, rfl⟩ ⟨Nat.le_of_ble_eq_true rfl, Nat.le_of_ble_eq_true rfl⟩ ⟨Nat.zero_le _, Nat.zero_le _⟩ rfl rfl (Nat.le_of_ble_eq_true rfl) 3 2 rfl rfl rfl [3, 4, 5, 6, 7, 8, 9] rfl rfl rfl dX6_place_26 (fun z3 => ?_)
    obtain rfl := Option.some.inj h
    exact z_iret G rfl dX6_place_29 rfl trivial rfl
  · cases h

noncomputable def f_X6_at_b15 (n_order : Nat → Int32) (n_size : Int32) (p1 : Int32)   : Option (Int32) :=
  none
set_option maxRecDepth 100000 in
set_option maxHeartbeats 4000000 in
theorem zb_X6_at_15 {p : Program} {l : Launch} {e : Env} {s : State} {m : MethodId} {args : Array Value} {below : List Frame} {meth : Method} {c : Code} {A : Nat → Prop} {dC : Nat → ClassId} {dI : Nat → Nat → Nat} {cI cJ cZ cN : ClassId} {ta : Nat → Nat} {na : Nat → Nat} {t_told : Nat} {t_text : Nat} {t_guide : Nat} {t_acts : Nat} {t_past : Nat} {t_trial : Nat} {t_kept : Nat → Nat} {t_filled : Nat → Int32} {n_narrower : Nat → Int32} {n_order : Nat → Int32} {n_items : Nat → Int64} {n_names : Nat → Int32} {n_owners : Nat → Int32} {n_moving : Nat → Int32} {n_all : Int32} {n_size : Int32} {n_nameCount : Int32} {p1 : Int32} {res : Int32} (G : zG p m c cX6_at 2 s args RX6 (dC, dI) vwCl (zT cI cJ cZ cN) A meth (some .int))  : f_X6_at_b15 n_order n_size p1   = some res → Z p l e ({ frames := 0, cells := 0, slots := 0, locals := 0 }) s m args below meth c (dC, dI) vwCl A 2 0 0 (MQ below (zQ (some (.int res)) (True) (w_Stn cI cJ cZ cN ta na t_told t_text t_guide t_acts t_past t_trial t_kept t_filled n_narrower n_order n_items n_names n_owners n_moving n_all n_size n_nameCount) (dC, dI) vwCl A) args s 0 0 A) (w_Stn cI cJ cZ cN ta na t_told t_text t_guide t_acts t_past t_trial t_kept t_filled n_narrower n_order n_items n_names n_owners n_moving n_all n_size n_nameCount) [(0, .ref (ta 0)), (1, .int p1)] [] 15 := by
  intro  h
  unfold f_X6_at_b15 at h
  cases h
noncomputable def f_X6_at (n_order : Nat → Int32) (n_size : Int32) (p1 : Int32) : Option (Int32) :=
  if p1 < 0 then f_X6_at_b15 n_order n_size p1   else if p1 < n_size then chk (inb p1 24) (some (n_order (ix p1))) else f_X6_at_b15 n_order n_size p1  
set_option maxRecDepth 100000 in
set_option maxHeartbeats 4000000 in
theorem c_X6_at {l : Launch} {dC : Nat → ClassId} {dI : Nat → Nat → Nat} {cI cJ cZ cN : ClassId} {ta : Nat → Nat} {na : Nat → Nat} {t_told : Nat} {t_text : Nat} {t_guide : Nat} {t_acts : Nat} {t_past : Nat} {t_trial : Nat} {t_kept : Nat → Nat} {t_filled : Nat → Int32} {n_narrower : Nat → Int32} {n_order : Nat → Int32} {n_items : Nat → Int64} {n_names : Nat → Int32} {n_owners : Nat → Int32} {n_moving : Nat → Int32} {n_all : Int32} {n_size : Int32} {n_nameCount : Int32} {p1 : Int32} {res : Int32} (h : f_X6_at n_order n_size p1 = some res) : zM l yX6_at cX6_at 2 (some .int) ({ frames := 0, cells := 0, slots := 0, locals := 0 }) [.ref (ta 0), .int p1] (dC, dI) vwCl (zT cI cJ cZ cN) (w_Stn cI cJ cZ cN ta na t_told t_text t_guide t_acts t_past t_trial t_kept t_filled n_narrower n_order n_items n_names n_owners n_moving n_all n_size n_nameCount) (some (.int res)) (True) (w_Stn cI cJ cZ cN ta na t_told t_text t_guide t_acts t_past t_trial t_kept t_filled n_narrower n_order n_items n_names n_owners n_moving n_all n_size n_nameCount) := by
  refine zM_of (own := RX6) (by decide) rfl [(0, .ref (ta 0)), (1, .int p1)] (Nat.le_of_ble_eq_true rfl) rfl ?_
  intro p e s m args below meth c A G _
  unfold f_X6_at at h
  refine z_iload_n G dX6_at_0 rfl 1 rfl ?_
  refine z_if_lt (tgt := 15) G dX6_at_1 (by decide) h (fun h => ?_) (fun h => ?_)
  · exact zb_X6_at_15 G   h
  · refine z_iload_n G dX6_at_4 rfl 1 rfl ?_
    refine z_aload_n G dX6_at_5 rfl 0 rfl ?_
    refine z_get (ci := 6) (v := .ref (na 0)) G in_X6 0 rfl rfl 8 (by decide) fl_X6_55 rfl dX6_at_6 ?_
    refine z_get (ci := 2) (v := .int n_size) G in_X2 3 rfl rfl 7 (by decide) fl_X6_80 rfl dX6_at_9 ?_
    refine z_icmp_lt (tgt := 25) G dX6_at_12 (by decide) h (fun h => ?_) (fun h => ?_)
    · refine z_aload_n G dX6_at_25 rfl 0 rfl ?_
      refine z_get (ci := 6) (v := .ref (na 0)) G in_X6 0 rfl rfl 8 (by decide) fl_X6_55 rfl dX6_at_26 ?_
      refine z_get (ci := 2) (v := .ref (na 2)) G in_X2 3 rfl rfl 1 (by decide) fl_X6_164 rfl dX6_at_29 ?_
      refine z_iload_n G dX6_at_32 rfl 1 rfl ?_
      refine z_iaload G 5 0 rfl rfl dX6_at_33 h (fun h => ?_)
      obtain rfl := Option.some.inj h
      exact z_iret G rfl dX6_at_34 rfl trivial rfl
    · exact zb_X6_at_15 G   h

noncomputable def f_X6_row_b15 (r_numbers : Nat → Int64) (r_size : Int32) (p1 : Int32)   : Option (Int64) :=
  none
set_option maxRecDepth 100000 in
set_option maxHeartbeats 4000000 in
theorem zb_X6_row_15 {p : Program} {l : Launch} {e : Env} {s : State} {m : MethodId} {args : Array Value} {below : List Frame} {meth : Method} {c : Code} {A : Nat → Prop} {dC : Nat → ClassId} {dI : Nat → Nat → Nat} {cI cJ cZ cN : ClassId} {ta : Nat → Nat} {ra : Nat → Nat} {t_text : Nat} {t_guide : Nat} {t_acts : Nat} {t_past : Nat} {t_trial : Nat} {t_kept : Nat → Nat} {t_filled : Nat → Int32} {t_now : Nat} {r_numbers : Nat → Int64} {r_size : Int32} {p1 : Int32} {res : Int64} (G : zG p m c cX6_row 2 s args RX6 (dC, dI) vwCl (zT cI cJ cZ cN) A meth (some .long))  : f_X6_row_b15 r_numbers r_size p1   = some res → Z p l e ({ frames := 0, cells := 0, slots := 0, locals := 0 }) s m args below meth c (dC, dI) vwCl A 2 0 0 (MQ below (zQ (some (.long res)) (True) (w_Str cI cJ cZ cN ta ra t_text t_guide t_acts t_past t_trial t_kept t_filled t_now r_numbers r_size) (dC, dI) vwCl A) args s 0 0 A) (w_Str cI cJ cZ cN ta ra t_text t_guide t_acts t_past t_trial t_kept t_filled t_now r_numbers r_size) [(0, .ref (ta 0)), (1, .int p1)] [] 15 := by
  intro  h
  unfold f_X6_row_b15 at h
  cases h
noncomputable def f_X6_row (r_numbers : Nat → Int64) (r_size : Int32) (p1 : Int32) : Option (Int64) :=
  if p1 < 0 then f_X6_row_b15 r_numbers r_size p1   else if p1 < r_size then chk (inb p1 276) (some (r_numbers (ix p1))) else f_X6_row_b15 r_numbers r_size p1  
set_option maxRecDepth 100000 in
set_option maxHeartbeats 4000000 in
theorem c_X6_row {l : Launch} {dC : Nat → ClassId} {dI : Nat → Nat → Nat} {cI cJ cZ cN : ClassId} {ta : Nat → Nat} {ra : Nat → Nat} {t_text : Nat} {t_guide : Nat} {t_acts : Nat} {t_past : Nat} {t_trial : Nat} {t_kept : Nat → Nat} {t_filled : Nat → Int32} {t_now : Nat} {r_numbers : Nat → Int64} {r_size : Int32} {p1 : Int32} {res : Int64} (h : f_X6_row r_numbers r_size p1 = some res) : zM l yX6_row cX6_row 2 (some .long) ({ frames := 0, cells := 0, slots := 0, locals := 0 }) [.ref (ta 0), .int p1] (dC, dI) vwCl (zT cI cJ cZ cN) (w_Str cI cJ cZ cN ta ra t_text t_guide t_acts t_past t_trial t_kept t_filled t_now r_numbers r_size) (some (.long res)) (True) (w_Str cI cJ cZ cN ta ra t_text t_guide t_acts t_past t_trial t_kept t_filled t_now r_numbers r_size) := by
  refine zM_of (own := RX6) (by decide) rfl [(0, .ref (ta 0)), (1, .int p1)] (Nat.le_of_ble_eq_true rfl) rfl ?_
  intro p e s m args below meth c A G _
  unfold f_X6_row at h
  refine z_iload_n G dX6_row_0 rfl 1 rfl ?_
  refine z_if_lt (tgt := 15) G dX6_row_1 (by decide) h (fun h => ?_) (fun h => ?_)
  · exact zb_X6_row_15 G   h
  · refine z_iload_n G dX6_row_4 rfl 1 rfl ?_
    refine z_aload_n G dX6_row_5 rfl 0 rfl ?_
    refine z_get (ci := 6) (v := .ref (ra 0)) G in_X6 0 rfl rfl 0 (by decide) fl_X6_27 rfl dX6_row_6 ?_
    refine z_get (ci := 4) (v := .int r_size) G in_X4 3 rfl rfl 1 (by decide) fl_X6_120 rfl dX6_row_9 ?_
    refine z_icmp_lt (tgt := 26) G dX6_row_12 (by decide) h (fun h => ?_) (fun h => ?_)
    · refine z_aload_n G dX6_row_26 rfl 0 rfl ?_
      refine z_get (ci := 6) (v := .ref (ra 0)) G in_X6 0 rfl rfl 0 (by decide) fl_X6_27 rfl dX6_row_27 ?_
      refine z_get (ci := 4) (v := .ref (ra 1)) G in_X4 3 rfl rfl 0 (by decide) fl_X6_302 rfl dX6_row_30 ?_
      refine z_iload_n G dX6_row_33 rfl 1 rfl ?_
      refine z_laload G 4 1 rfl rfl dX6_row_34 h (fun h => ?_)
      obtain rfl := Option.some.inj h
      exact z_lret G rfl dX6_row_35 rfl trivial rfl
    · exact zb_X6_row_15 G   h
