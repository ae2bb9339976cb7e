noncomputable def f_X0_link (g_layers : Nat → Int32) (g_length : Int32) (r_numbers : Nat → Int64) (r_size : Int32) (n_narrower : Nat → Int32) (n_order : Nat → Int32) (n_moving : Nat → Int32) (n_all : Int32) (n_size : Int32) (p2 : Int32) (p3 : Int32) : Option (Int32 × (Nat → Int32) × Int32 × (Nat → Int64) × Int32 × (Nat → Int32) × (Nat → Int32) × (Nat → Int32)) :=
  if (f_X2_hasPair n_all p2 p3) = 0 then some ((-1), g_layers, g_length, r_numbers, r_size, n_narrower, n_order, n_moving) else chk (inb p2 24) (if (f_X6_holds (n_narrower (ix p2)) p3) = 0 then (f_X1_findWay g_layers g_length n_narrower p3 p2 1).bind (fun r3 => if r3.1 ≤ 0 then (f_X2_come n_narrower n_order n_moving n_size p2 p3).bind (fun r5 => some (r5.1, r3.2.1, r3.2.2, r_numbers, r_size, r5.2.1, r5.2.2.1, r5.2.2.2)) else (f_X1_tellWay r3.2.1 r3.2.2 n_narrower r_numbers r_size p3).bind (fun r7 => some ((-4), r3.2.1, r3.2.2, r7.1, r7.2, n_narrower, n_order, n_moving))) else some ((-2), g_layers, g_length, r_numbers, r_size, n_narrower, n_order, n_moving))
set_option maxRecDepth 100000 in
set_option maxHeartbeats 4000000 in
theorem c_X0_link {l : Launch} {dC : Nat → ClassId} {dI : Nat → Nat → Nat} {cI cJ cZ cN : ClassId} {ta : Nat → Nat} {ga : Nat → Nat} {ra : Nat → Nat} {na : Nat → Nat} {g_longest : Nat → Int32} {g_many : Nat → Int64} {g_layers : Nat → Int32} {g_length : Int32} {g_aheadOf : Nat → Int32} {g_cameFrom : Nat → Int32} {g_queue : Nat → Int32} {r_numbers : Nat → Int64} {r_size : Int32} {n_narrower : Nat → Int32} {n_order : Nat → Int32} {n_items : Nat → Int64} {n_names : Nat → Int32} {n_owners : Nat → Int32} {n_moving : Nat → Int32} {n_all : Int32} {n_size : Int32} {n_nameCount : Int32} {p2 : Int32} {p3 : Int32} {res : Int32 × (Nat → Int32) × Int32 × (Nat → Int64) × Int32 × (Nat → Int32) × (Nat → Int32) × (Nat → Int32)} (h : f_X0_link g_layers g_length r_numbers r_size n_narrower n_order n_moving n_all n_size p2 p3 = some res) : zM l yX0_link cX0_link 4 (some .int) ({ frames := 3, cells := 0, slots := 0, locals := 77 }) [.ref (ta 0), .ref (na 0), .int p2, .int p3] (dC, dI) vwCl (zT cI cJ cZ cN) (w_A cI cJ cZ cN ta ga ra na g_longest g_many g_layers g_length g_aheadOf g_cameFrom g_queue r_numbers r_size n_narrower n_order n_items n_names n_owners n_moving n_all n_size n_nameCount) (some (.int res.1)) (True) (w_A cI cJ cZ cN ta ga ra na g_longest g_many res.2.1 res.2.2.1 g_aheadOf g_cameFrom g_queue res.2.2.2.1 res.2.2.2.2.1 res.2.2.2.2.2.1 res.2.2.2.2.2.2.1 n_items n_names n_owners res.2.2.2.2.2.2.2 n_all n_size n_nameCount) := by
  refine zM_of (own := RX0) (by decide) rfl [(0, .ref (ta 0)), (1, .ref (na 0)), (2, .int p2), (3, .int p3)] (Nat.le_of_ble_eq_true rfl) rfl ?_
  intro p e s m args below meth c A G _
  unfold f_X0_link at h
  refine z_aload_n G dX0_link_0 rfl 1 rfl ?_
  refine z_iload_n G dX0_link_1 rfl 2 rfl ?_
  refine z_iload_n G dX0_link_2 rfl 3 rfl ?_
  refine z_kR (As := [.int p2, .int p3]) (rest := []) (st' := [.int (f_X2_hasPair n_all p2 p3)]) G pk_X2_hasPair pv_X2_hasPair ml_X0_25 (c_X2_hasPair (ta := na) (t_narrower := n_narrower) (t_order := n_order) (t_items := n_items) (t_names := n_names) (t_owners := n_owners) (t_moving := n_moving) (t_all := n_all) (t_size := n_size) (t_nameCount := n_nameCount) (p1 := p2) (p2 := p3) rfl) ⟨rfl, rfl⟩ ⟨Nat.le_of_ble_eq_true rfl, Nat.le_of_ble_eq_true rfl⟩ ⟨Nat.zero_le _, Nat.zero_le _⟩ rfl rfl (Nat.le_of_ble_eq_true rfl) 10 2 rfl rfl rfl [10, 11, 12, 13, 14, 15, 16] rfl rfl rfl dX0_link_3 (fun z1 => ?_)
  refine z_if_ne (tgt := 11) G dX0_link_6 (by decide) h (fun h => ?_) (fun h => ?_)
  · refine z_aload_n G dX0_link_11 rfl 1 rfl ?_
    refine z_get (ci := 2) (v := .ref (na 1)) G in_X2 10 rfl rfl 0 (by decide) fl_X0_31 rfl dX0_link_12 ?_
    refine z_iload_n G dX0_link_15 rfl 2 rfl ?_
    refine z_iaload G 11 0 rfl rfl dX0_link_16 h (fun h => ?_)
    refine z_iload_n G dX0_link_17 rfl 3 rfl ?_
    refine z_kSN (As := [.int (n_narrower (ix p2)), .int p3]) (rest := []) (st' := [.int (f_X6_holds (n_narrower (ix p2)) p3)]) G pk_X6_holds ps_X6_holds nl_X0_35 (c_X6_holds (p0 := n_narrower (ix p2)) (p1 := p3) rfl) ⟨rfl, rfl⟩ ⟨Nat.le_of_ble_eq_true rfl, Nat.le_of_ble_eq_true rfl⟩ ⟨Nat.zero_le _, Nat.zero_le _⟩ rfl rfl (Nat.le_of_ble_eq_true rfl) rfl dX0_link_18 (fun z2 => ?_)
    refine z_if_eq (tgt := 27) G dX0_link_21 (by decide) h (fun h => ?_) (fun h => ?_)
    · refine z_aload_n G dX0_link_27 rfl 0 rfl ?_
      refine z_get (ci := 0) (v := .ref (ga 0)) G in_X0 0 rfl rfl 0 (by decide) fl_X0_12 rfl dX0_link_28 ?_
      refine z_aload_n G dX0_link_31 rfl 1 rfl ?_
      refine z_iload_n G dX0_link_32 rfl 3 rfl ?_
      refine z_iload_n G dX0_link_33 rfl 2 rfl ?_
      refine z_iconst (v := 1) G dX0_link_34 (by decide) ?_
      obtain ⟨r3, e3, h⟩ := obind h
      refine z_kV (As := [.ref (na 0), .int p3, .int p2, .int 1]) (rest := []) (st' := [.int r3.1]) (ws' := (w_A cI cJ cZ cN ta ga ra na g_longest g_many r3.2.1 r3.2.2 g_aheadOf g_cameFrom g_queue r_numbers r_size n_narrower n_order n_items n_names n_owners n_moving n_all n_size n_nameCount)) G pk_X1_findWay pv_X1_findWay ml_X0_38 (c_X1_findWay (ta := ga) (na := na) (t_longest := g_longest) (t_many := g_many) (t_layers := g_layers) (t_length := g_length) (t_aheadOf := g_aheadOf) (t_cameFrom := g_cameFrom) (t_queue := g_queue) (n_narrower := n_narrower) (n_order := n_order) (n_items := n_items) (n_names := n_names) (n_owners := n_owners) (n_moving := n_moving) (n_all := n_all) (n_size := n_size) (n_nameCount := n_nameCount) (p2 := p3) (p3 := p2) (p4 := 1) e3) ⟨rfl, rfl⟩ ⟨Nat.le_of_ble_eq_true rfl, Nat.le_of_ble_eq_true rfl⟩ ⟨Nat.zero_le _, Nat.zero_le _⟩ rfl rfl (Nat.le_of_ble_eq_true rfl) 1 1 rfl rfl rfl [1, 2, 3, 4, 5, 6, 7, 10, 11, 12, 13, 14, 15, 16] rfl rfl [none, some 0, some 1, some 2, some 3, some 4, some 5, some 6, none, none, some 7, some 8, some 9, some 10, some 11, some 12, some 13] rfl rfl rfl rfl dX0_link_35 (fun z4 => ?_)
      refine z_if_le (tgt := 57) G dX0_link_38 (by decide) h (fun h => ?_) (fun h => ?_)
      · refine z_aload_n G dX0_link_57 rfl 1 rfl ?_
        refine z_iload_n G dX0_link_58 rfl 2 rfl ?_
        refine z_iload_n G dX0_link_59 rfl 3 rfl ?_
        obtain ⟨r5, e5, h⟩ := obind h
        refine z_kV (As := [.int p2, .int p3]) (rest := []) (st' := [.int r5.1]) (ws' := (w_A cI cJ cZ cN ta ga ra na g_longest g_many r3.2.1 r3.2.2 g_aheadOf g_cameFrom g_queue r_numbers r_size r5.2.1 r5.2.2.1 n_items n_names n_owners r5.2.2.2 n_all n_size n_nameCount)) G pk_X2_come pv_X2_come ml_X0_46 (c_X2_come (ta := na) (t_narrower := n_narrower) (t_order := n_order) (t_items := n_items) (t_names := n_names) (t_owners := n_owners) (t_moving := n_moving) (t_all := n_all) (t_size := n_size) (t_nameCount := n_nameCount) (p1 := p2) (p2 := p3) e5) ⟨rfl, rfl⟩ ⟨Nat.le_of_ble_eq_true rfl, Nat.le_of_ble_eq_true rfl⟩ ⟨Nat.zero_le _, Nat.zero_le _⟩ rfl rfl (Nat.le_of_ble_eq_true rfl) 10 2 rfl rfl rfl [10, 11, 12, 13, 14, 15, 16] rfl rfl [none, none, none, none, none, none, none, none, none, none, some 0, some 1, some 2, some 3, some 4, some 5, some 6] rfl rfl rfl rfl dX0_link_60 (fun z6 => ?_)
        obtain rfl := Option.some.inj h
        exact z_iret G rfl dX0_link_63 rfl trivial rfl
      · refine z_aload_n G dX0_link_41 rfl 0 rfl ?_
        refine z_get (ci := 0) (v := .ref (ga 0)) G in_X0 0 rfl rfl 0 (by decide) fl_X0_12 rfl dX0_link_42 ?_
        refine z_aload_n G dX0_link_45 rfl 1 rfl ?_
        refine z_iload_n G dX0_link_46 rfl 3 rfl ?_
        refine z_aload_n G dX0_link_47 rfl 0 rfl ?_
        refine z_get (ci := 0) (v := .ref (ra 0)) G in_X0 0 rfl rfl 1 (by decide) fl_X0_21 rfl dX0_link_48 ?_
        obtain ⟨r7, e7, h⟩ := obind h
        refine z_kV (As := [.ref (na 0), .int p3, .ref (ra 0)]) (rest := []) (st' := []) (ws' := (w_A cI cJ cZ cN ta ga ra na g_longest g_many r3.2.1 r3.2.2 g_aheadOf g_cameFrom g_queue r7.1 r7.2 n_narrower n_order n_items n_names n_owners n_moving n_all n_size n_nameCount)) G pk_X1_tellWay pv_X1_tellWay ml_X0_42 (c_X1_tellWay (ta := ga) (na := na) (ra := ra) (t_longest := g_longest) (t_many := g_many) (t_layers := r3.2.1) (t_length := r3.2.2) (t_aheadOf := g_aheadOf) (t_cameFrom := g_cameFrom) (t_queue := g_queue) (n_narrower := n_narrower) (n_order := n_order) (n_items := n_items) (n_names := n_names) (n_owners := n_owners) (n_moving := n_moving) (n_all := n_all) (n_size := n_size) (n_nameCount := n_nameCount) (r_numbers := r_numbers) (r_size := r_size) (p2 := p3) e7) ⟨rfl, rfl⟩ ⟨Nat.le_of_ble_eq_true rfl, Nat.le_of_ble_eq_true rfl⟩ ⟨Nat.zero_le _, Nat.zero_le _⟩ rfl rfl (Nat.le_of_ble_eq_true rfl) 1 1 rfl rfl rfl [1, 2, 3, 4, 5, 6, 7, 10, 11, 12, 13, 14, 15, 16, 8, 9] rfl rfl [none, some 0, some 1, some 2, some 3, some 4, some 5, some 6, some 14, some 15, some 7, some 8, some 9, some 10, some 11, some 12, some 13] rfl rfl rfl rfl dX0_link_51 (fun z8 => ?_)
        refine z_bipush (v := (-4)) G dX0_link_54 (by decide) ?_
        obtain rfl := Option.some.inj h
        exact z_iret G rfl dX0_link_56 rfl trivial rfl
    · refine z_bipush (v := (-2)) G dX0_link_24 (by decide) ?_
      obtain rfl := Option.some.inj h
      exact z_iret G rfl dX0_link_26 rfl trivial rfl
  · refine z_iconst (v := (-1)) G dX0_link_9 (by decide) ?_
    obtain rfl := Option.some.inj h
    exact z_iret G rfl dX0_link_10 rfl trivial rfl

noncomputable def f_X0_linkOrPass (g_layers : Nat → Int32) (g_length : Int32) (r_numbers : Nat → Int64) (r_size : Int32) (n_narrower : Nat → Int32) (n_order : Nat → Int32) (n_moving : Nat → Int32) (n_all : Int32) (n_size : Int32) (p2 : Int32) : Option (Int32 × (Nat → Int32) × Int32 × (Nat → Int64) × Int32 × (Nat → Int32) × (Nat → Int32) × (Nat → Int32)) :=
  (f_X0_link g_layers g_length r_numbers r_size n_narrower n_order n_moving n_all n_size (p2 / 100) (jrem p2 100)).bind (fun r1 => if 0 ≤ r1.1 then some (1, r1.2.1, r1.2.2.1, r1.2.2.2.1, r1.2.2.2.2.1, r1.2.2.2.2.2.1, r1.2.2.2.2.2.2.1, r1.2.2.2.2.2.2.2) else if r1.1 = (-2) then some (1, r1.2.1, r1.2.2.1, r1.2.2.2.1, r1.2.2.2.2.1, r1.2.2.2.2.2.1, r1.2.2.2.2.2.2.1, r1.2.2.2.2.2.2.2) else some (0, r1.2.1, r1.2.2.1, r1.2.2.2.1, r1.2.2.2.2.1, r1.2.2.2.2.2.1, r1.2.2.2.2.2.2.1, r1.2.2.2.2.2.2.2))
set_option maxRecDepth 100000 in
set_option maxHeartbeats 4000000 in
theorem c_X0_linkOrPass {l : Launch} {dC : Nat → ClassId} {dI : Nat → Nat → Nat} {cI cJ cZ cN : ClassId} {ta : Nat → Nat} {ga : Nat → Nat} {ra : Nat → Nat} {na : Nat → Nat} {g_longest : Nat → Int32} {g_many : Nat → Int64} {g_layers : Nat → Int32} {g_length : Int32} {g_aheadOf : Nat → Int32} {g_cameFrom : Nat → Int32} {g_queue : Nat → Int32} {r_numbers : Nat → Int64} {r_size : Int32} {n_narrower : Nat → Int32} {n_order : Nat → Int32} {n_items : Nat → Int64} {n_names : Nat → Int32} {n_owners : Nat → Int32} {n_moving : Nat → Int32} {n_all : Int32} {n_size : Int32} {n_nameCount : Int32} {p2 : Int32} {res : Int32 × (Nat → Int32) × Int32 × (Nat → Int64) × Int32 × (Nat → Int32) × (Nat → Int32) × (Nat → Int32)} (h : f_X0_linkOrPass g_layers g_length r_numbers r_size n_narrower n_order n_moving n_all n_size p2 = some res) : zM l yX0_linkOrPass cX0_linkOrPass 4 (some .boolean) ({ frames := 4, cells := 0, slots := 0, locals := 100 }) [.ref (ta 0), .ref (na 0), .int p2] (dC, dI) vwCl (zT cI cJ cZ cN) (w_A cI cJ cZ cN ta ga ra na g_longest g_many g_layers g_length g_aheadOf g_cameFrom g_queue r_numbers r_size n_narrower n_order n_items n_names n_owners n_moving n_all n_size n_nameCount) (some (.int res.1)) (narrow .boolean (.int res.1) = .int res.1) (w_A cI cJ cZ cN ta ga ra na g_longest g_many res.2.1 res.2.2.1 g_aheadOf g_cameFrom g_queue res.2.2.2.1 res.2.2.2.2.1 res.2.2.2.2.2.1 res.2.2.2.2.2.2.1 n_items n_names n_owners res.2.2.2.2.2.2.2 n_all n_size n_nameCount) := by
  refine zM_of (own := RX0) (by decide) rfl [(0, .ref (ta 0)), (1, .ref (na 0)), (2, .int p2)] (Nat.le_of_ble_eq_true rfl) rfl ?_
  intro p e s m args below meth c A G _
  unfold f_X0_linkOrPass at h
  refine z_aload_n G dX0_linkOrPass_0 rfl 0 rfl ?_
  refine z_aload_n G dX0_linkOrPass_1 rfl 1 rfl ?_
  refine z_iload_n G dX0_linkOrPass_2 rfl 2 rfl ?_
  refine z_bipush (v := 100) G dX0_linkOrPass_3 (by decide) ?_
  refine z_idiv G dX0_linkOrPass_5 (by decide) ?_
  refine z_iload_n G dX0_linkOrPass_6 rfl 2 rfl ?_
  refine z_bipush (v := 100) G dX0_linkOrPass_7 (by decide) ?_
  refine z_irem G dX0_linkOrPass_9 (by decide) ?_
  obtain ⟨r1, e1, h⟩ := obind h
  refine z_kV (As := [.ref (na 0), .int (p2 / 100), .int (jrem p2 100)]) (rest := []) (st' := [.int r1.1]) (ws' := (w_A cI cJ cZ cN ta ga ra na g_longest g_many r1.2.1 r1.2.2.1 g_aheadOf g_cameFrom g_queue r1.2.2.2.1 r1.2.2.2.2.1 r1.2.2.2.2.2.1 r1.2.2.2.2.2.2.1 n_items n_names n_owners r1.2.2.2.2.2.2.2 n_all n_size n_nameCount)) G pk_X0_link pv_X0_link ml_X0_50 (c_X0_link (ta := ta) (ga := ga) (ra := ra) (na := na) (g_longest := g_longest) (g_many := g_many) (g_layers := g_layers) (g_length := g_length) (g_aheadOf := g_aheadOf) (g_cameFrom := g_cameFrom) (g_queue := g_queue) (r_numbers := r_numbers) (r_size := r_size) (n_narrower := n_narrower) (n_order := n_order) (n_items := n_items) (n_names := n_names) (n_owners := n_owners) (n_moving := n_moving) (n_all := n_all) (n_size := n_size) (n_nameCount := n_nameCount) (p2 := p2 / 100) (p3 := jrem p2 100) e1) ⟨rfl, rfl⟩ ⟨Nat.le_of_ble_eq_true rfl, Nat.le_of_ble_eq_true rfl⟩ ⟨Nat.zero_le _, Nat.zero_le _⟩ rfl rfl (Nat.le_of_ble_eq_true rfl) 0 0 rfl rfl rfl [0, 1, 2, 3, 4, 5, 6, 7, 8, 9, 10, 11, 12, 13, 14, 15, 16] rfl rfl [some 0, some 1, some 2, some 3, some 4, some 5, some 6, some 7, some 8, some 9, some 10, some 11, some 12, some 13, some 14, some 15, some 16] rfl rfl rfl rfl dX0_linkOrPass_10 (fun z2 => ?_)
  refine z_istore_n (lv' := [(0, .ref (ta 0)), (1, .ref (na 0)), (2, .int p2), (3, .int r1.1)]) G dX0_linkOrPass_13 rfl (by decide) [1, 2, 3, 0] rfl ?_
  refine z_iload_n G dX0_linkOrPass_14 rfl 3 rfl ?_
  refine z_if_ge (tgt := 24) G dX0_linkOrPass_15 (by decide) h (fun h => ?_) (fun h => ?_)
  · refine z_iconst (v := 1) G dX0_linkOrPass_24 (by decide) ?_
    refine z_goto (tgt := 29) G dX0_linkOrPass_25 (by decide) ?_
    obtain rfl := Option.some.inj h
    exact z_zret G rfl zn1 dX0_linkOrPass_29 rfl zn1 rfl
  · refine z_iload_n G dX0_linkOrPass_18 rfl 3 rfl ?_
    refine z_bipush (v := (-2)) G dX0_linkOrPass_19 (by decide) ?_
    refine z_icmp_ne (tgt := 28) G dX0_linkOrPass_21 (by decide) h (fun h => ?_) (fun h => ?_)
    · refine z_iconst (v := 0) G dX0_linkOrPass_28 (by decide) ?_
      obtain rfl := Option.some.inj h
      exact z_zret G rfl zn0 dX0_linkOrPass_29 rfl zn0 rfl
    · refine z_iconst (v := 1) G dX0_linkOrPass_24 (by decide) ?_
      refine z_goto (tgt := 29) G dX0_linkOrPass_25 (by decide) ?_
      obtain rfl := Option.some.inj h
      exact z_zret G rfl zn1 dX0_linkOrPass_29 rfl zn1 rfl

noncomputable def f_X0_unlink (n_narrower : Nat → Int32) (n_all : Int32) (p2 : Int32) (p3 : Int32) : Option (Int32 × (Nat → Int32)) :=
  if (f_X2_hasPair n_all p2 p3) = 0 then some ((-1), n_narrower) else chk (inb p2 24) (if (f_X6_holds (n_narrower (ix p2)) p3) = 0 then some ((-2), n_narrower) else chk (inb p2 24) (chk (inb p2 24) ((f_X2_linkCount (upd n_narrower (ix p2) ((n_narrower (ix p2)) &&& ((jshl 1 p3) ^^^ (-1)))) n_all).bind (fun r3 => some (r3, upd n_narrower (ix p2) ((n_narrower (ix p2)) &&& ((jshl 1 p3) ^^^ (-1))))))))
set_option maxRecDepth 100000 in
set_option maxHeartbeats 4000000 in
theorem c_X0_unlink {l : Launch} {dC : Nat → ClassId} {dI : Nat → Nat → Nat} {cI cJ cZ cN : ClassId} {ta : Nat → Nat} {ga : Nat → Nat} {ra : Nat → Nat} {na : Nat → Nat} {g_longest : Nat → Int32} {g_many : Nat → Int64} {g_layers : Nat → Int32} {g_length : Int32} {g_aheadOf : Nat → Int32} {g_cameFrom : Nat → Int32} {g_queue : Nat → Int32} {r_numbers : Nat → Int64} {r_size : Int32} {n_narrower : Nat → Int32} {n_order : Nat → Int32} {n_items : Nat → Int64} {n_names : Nat → Int32} {n_owners : Nat → Int32} {n_moving : Nat → Int32} {n_all : Int32} {n_size : Int32} {n_nameCount : Int32} {p2 : Int32} {p3 : Int32} {res : Int32 × (Nat → Int32)} (h : f_X0_unlink n_narrower n_all p2 p3 = some res) : zM l yX0_unlink cX0_unlink 4 (some .int) ({ frames := 3, cells := 0, slots := 0, locals := 64 }) [.ref (ta 0), .ref (na 0), .int p2, .int p3] (dC, dI) vwCl (zT cI cJ cZ cN) (w_A cI cJ cZ cN ta ga ra na g_longest g_many g_layers g_length g_aheadOf g_cameFrom g_queue r_numbers r_size n_narrower n_order n_items n_names n_owners n_moving n_all n_size n_nameCount) (some (.int res.1)) (True) (w_A cI cJ cZ cN ta ga ra na g_longest g_many g_layers g_length g_aheadOf g_cameFrom g_queue r_numbers r_size res.2 n_order n_items n_names n_owners n_moving n_all n_size n_nameCount) := by
  refine zM_of (own := RX0) (by decide) rfl [(0, .ref (ta 0)), (1, .ref (na 0)), (2, .int p2), (3, .int p3)] (Nat.le_of_ble_eq_true rfl) rfl ?_
  intro p e s m args below meth c A G _
  unfold f_X0_unlink at h
  refine z_aload_n G dX0_unlink_0 rfl 1 rfl ?_
  refine z_iload_n G dX0_unlink_1 rfl 2 rfl ?_
  refine z_iload_n G dX0_unlink_2 rfl 3 rfl ?_
  refine z_kR (As := [.int p2, .int p3]) (rest := []) (st' := [.int (f_X2_hasPair n_all p2 p3)]) G pk_X2_hasPair pv_X2_hasPair ml_X0_25 (c_X2_hasPair (ta := na) (t_narrower := n_narrower) (t_order := n_order) (t_items := n_items) (t_names := n_names) (t_owners := n_owners) (t_moving := n_moving) (t_all := n_all) (t_size := n_size) (t_nameCount := n_nameCount) (p1 := p2) (p2 := p3) rfl) ⟨rfl, rfl⟩ ⟨Nat.le_of_ble_eq_true rfl, Nat.le_of_ble_eq_true rfl⟩ ⟨Nat.zero_le _, Nat.zero_le _⟩ rfl rfl (Nat.le_of_ble_eq_true rfl) 10 2 rfl rfl rfl [10, 11, 12, 13, 14, 15, 16] rfl rfl rfl dX0_unlink_3 (fun z1 => ?_)
  refine z_if_ne (tgt := 11) G dX0_unlink_6 (by decide) h (fun h => ?_) (fun h => ?_)
  · refine z_aload_n G dX0_unlink_11 rfl 1 rfl ?_
    refine z_get (ci := 2) (v := .ref (na 1)) G in_X2 10 rfl rfl 0 (by decide) fl_X0_31 rfl dX0_unlink_12 ?_
    refine z_iload_n G dX0_unlink_15 rfl 2 rfl ?_
    refine z_iaload G 11 0 rfl rfl dX0_unlink_16 h (fun h => ?_)
    refine z_iload_n G dX0_unlink_17 rfl 3 rfl ?_
    refine z_kSN (As := [.int (n_narrower (ix p2)), .int p3]) (rest := []) (st' := [.int (f_X6_holds (n_narrower (ix p2)) p3)]) G pk_X6_holds ps_X6_holds nl_X0_35 (c_X6_holds (p0 := n_narrower (ix p2)) (p1 := p3) rfl) ⟨rfl, rfl⟩ ⟨Nat.le_of_ble_eq_true rfl, Nat.le_of_ble_eq_true rfl⟩ ⟨Nat.zero_le _, Nat.zero_le _⟩ rfl rfl (Nat.le_of_ble_eq_true rfl) rfl dX0_unlink_18 (fun z2 => ?_)
    refine z_if_ne (tgt := 27) G dX0_unlink_21 (by decide) h (fun h => ?_) (fun h => ?_)
    · refine z_aload_n G dX0_unlink_27 rfl 1 rfl ?_
      refine z_get (ci := 2) (v := .ref (na 1)) G in_X2 10 rfl rfl 0 (by decide) fl_X0_31 rfl dX0_unlink_28 ?_
      refine z_iload_n G dX0_unlink_31 rfl 2 rfl ?_
      refine z_dup2 G dX0_unlink_32 rfl rfl ?_
      refine z_iaload G 11 0 rfl rfl dX0_unlink_33 h (fun h => ?_)
      refine z_iconst (v := 1) G dX0_unlink_34 (by decide) ?_
      refine z_iload_n G dX0_unlink_35 rfl 3 rfl ?_
      refine z_ishl G dX0_unlink_36 ?_
      refine z_iconst (v := (-1)) G dX0_unlink_37 (by decide) ?_
      refine z_ixor G dX0_unlink_38 ?_
      refine z_iand G dX0_unlink_39 ?_
      refine z_iastore (ws' := (w_A cI cJ cZ cN ta ga ra na g_longest g_many g_layers g_length g_aheadOf g_cameFrom g_queue r_numbers r_size (upd n_narrower (ix p2) ((n_narrower (ix p2)) &&& ((jshl 1 p3) ^^^ (-1)))) n_order n_items n_names n_owners n_moving n_all n_size n_nameCount)) G 11 0 rfl rfl rfl dX0_unlink_40 h (fun h => ?_)
      refine z_aload_n G dX0_unlink_41 rfl 1 rfl ?_
      obtain ⟨r3, e3, h⟩ := obind h
      refine z_kR (As := []) (rest := []) (st' := [.int r3]) G pk_X2_linkCount pv_X2_linkCount ml_X0_54 (c_X2_linkCount (ta := na) (t_narrower := upd n_narrower (ix p2) ((n_narrower (ix p2)) &&& ((jshl 1 p3) ^^^ (-1)))) (t_order := n_order) (t_items := n_items) (t_names := n_names) (t_owners := n_owners) (t_moving := n_moving) (t_all := n_all) (t_size := n_size) (t_nameCount := n_nameCount) e3) ⟨rfl, rfl⟩ ⟨Nat.le_of_ble_eq_true rfl, Nat.le_of_ble_eq_true rfl⟩ ⟨Nat.zero_le _, Nat.zero_le _⟩ rfl rfl (Nat.le_of_ble_eq_true rfl) 10 2 rfl rfl rfl [10, 11, 12, 13, 14, 15, 16] rfl rfl rfl dX0_unlink_42 (fun z4 => ?_)
      obtain rfl := Option.some.inj h
      exact z_iret G rfl dX0_unlink_45 rfl trivial rfl
    · refine z_bipush (v := (-2)) G dX0_unlink_24 (by decide) ?_
      obtain rfl := Option.some.inj h
      exact z_iret G rfl dX0_unlink_26 rfl trivial rfl
  · refine z_iconst (v := (-1)) G dX0_unlink_9 (by decide) ?_
    obtain rfl := Option.some.inj h
    exact z_iret G rfl dX0_unlink_10 rfl trivial rfl

noncomputable def f_X0_post (n_items : Nat → Int64) (n_all : Int32) (p2 : Int32) (p3 : Int32) : Option (Int32 × (Nat → Int64)) :=
  if (f_X2_has n_all p3) = 0 then some ((-1), n_items) else if (f_X6_isItem p2) = 0 then some ((-1), n_items) else chk (inb p3 24) (if (lg_cmp ((jlshr (n_items (ix p3)) p2) &&& 1) 0) = 0 then chk (inb p3 24) (chk (inb p3 24) (chk (inb p3 24) (some (f_J13_bitCount_95d88 ((vp_updL n_items (ix p3) ((n_items (ix p3)) ||| (jlshl 1 p2))) (ix p3)), vp_updL n_items (ix p3) ((n_items (ix p3)) ||| (jlshl 1 p2)))))) else some ((-2), n_items))
set_option maxRecDepth 100000 in
set_option maxHeartbeats 4000000 in
theorem c_X0_post {l : Launch} {dC : Nat → ClassId} {dI : Nat → Nat → Nat} {cI cJ cZ cN : ClassId} {ta : Nat → Nat} {ga : Nat → Nat} {ra : Nat → Nat} {na : Nat → Nat} {g_longest : Nat → Int32} {g_many : Nat → Int64} {g_layers : Nat → Int32} {g_length : Int32} {g_aheadOf : Nat → Int32} {g_cameFrom : Nat → Int32} {g_queue : Nat → Int32} {r_numbers : Nat → Int64} {r_size : Int32} {n_narrower : Nat → Int32} {n_order : Nat → Int32} {n_items : Nat → Int64} {n_names : Nat → Int32} {n_owners : Nat → Int32} {n_moving : Nat → Int32} {n_all : Int32} {n_size : Int32} {n_nameCount : Int32} {p2 : Int32} {p3 : Int32} {res : Int32 × (Nat → Int64)} (h : f_X0_post n_items n_all p2 p3 = some res) : zM l yX0_post cX0_post 4 (some .int) ({ frames := 2, cells := 0, slots := 0, locals := 42 }) [.ref (ta 0), .ref (na 0), .int p2, .int p3] (dC, dI) vwCl (zT cI cJ cZ cN) (w_A cI cJ cZ cN ta ga ra na g_longest g_many g_layers g_length g_aheadOf g_cameFrom g_queue r_numbers r_size n_narrower n_order n_items n_names n_owners n_moving n_all n_size n_nameCount) (some (.int res.1)) (True) (w_A cI cJ cZ cN ta ga ra na g_longest g_many g_layers g_length g_aheadOf g_cameFrom g_queue r_numbers r_size n_narrower n_order res.2 n_names n_owners n_moving n_all n_size n_nameCount) := by
  refine zM_of (own := RX0) (by decide) rfl [(0, .ref (ta 0)), (1, .ref (na 0)), (2, .int p2), (3, .int p3)] (Nat.le_of_ble_eq_true rfl) rfl ?_
  intro p e s m args below meth c A G _
  unfold f_X0_post at h
  refine z_aload_n G dX0_post_0 rfl 1 rfl ?_
  refine z_iload_n G dX0_post_1 rfl 3 rfl ?_
  refine z_kR (As := [.int p3]) (rest := []) (st' := [.int (f_X2_has n_all p3)]) G pk_X2_has pv_X2_has ml_X0_58 (c_X2_has (ta := na) (t_narrower := n_narrower) (t_order := n_order) (t_items := n_items) (t_names := n_names) (t_owners := n_owners) (t_moving := n_moving) (t_all := n_all) (t_size := n_size) (t_nameCount := n_nameCount) (p1 := p3) rfl) ⟨rfl, rfl⟩ ⟨Nat.le_of_ble_eq_true rfl, Nat.le_of_ble_eq_true rfl⟩ ⟨Nat.zero_le _, Nat.zero_le _⟩ rfl rfl (Nat.le_of_ble_eq_true rfl) 10 2 rfl rfl rfl [10, 11, 12, 13, 14, 15, 16] rfl rfl rfl dX0_post_2 (fun z1 => ?_)
  refine z_if_eq (tgt := 15) G dX0_post_5 (by decide) h (fun h => ?_) (fun h => ?_)
  · refine z_iconst (v := (-1)) G dX0_post_15 (by decide) ?_
    obtain rfl := Option.some.inj h
    exact z_iret G rfl dX0_post_16 rfl trivial rfl
  · refine z_iload_n G dX0_post_8 rfl 2 rfl ?_
    refine z_kSN (As := [.int p2]) (rest := []) (st' := [.int (f_X6_isItem p2)]) G pk_X6_isItem ps_X6_isItem nl_X0_62 (c_X6_isItem (p0 := p2) rfl) ⟨rfl, rfl⟩ ⟨Nat.le_of_ble_eq_true rfl, Nat.le_of_ble_eq_true rfl⟩ ⟨Nat.zero_le _, Nat.zero_le _⟩ rfl rfl (Nat.le_of_ble_eq_true rfl) rfl dX0_post_9 (fun z2 => ?_)
    refine z_if_ne (tgt := 17) G dX0_post_12 (by decide) h (fun h => ?_) (fun h => ?_)
    · refine z_aload_n G dX0_post_17 rfl 1 rfl ?_
      refine z_get (ci := 2) (v := .ref (na 3)) G in_X2 10 rfl rfl 2 (by decide) fl_X0_65 rfl dX0_post_18 ?_
      refine z_iload_n G dX0_post_21 rfl 3 rfl ?_
      refine z_laload G 13 1 rfl rfl dX0_post_22 h (fun h => ?_)
      refine z_iload_n G dX0_post_23 rfl 2 rfl ?_
      refine z_lshr G dX0_post_24 ?_
      refine z_lconst (v := 1) G dX0_post_25 (by decide) ?_
      refine z_land G dX0_post_26 ?_
      refine z_lconst (v := 0) G dX0_post_27 (by decide) ?_
      refine z_lcmp G dX0_post_28 ?_
      refine z_if_eq (tgt := 35) G dX0_post_29 (by decide) h (fun h => ?_) (fun h => ?_)
      · refine z_aload_n G dX0_post_35 rfl 1 rfl ?_
        refine z_get (ci := 2) (v := .ref (na 3)) G in_X2 10 rfl rfl 2 (by decide) fl_X0_65 rfl dX0_post_36 ?_
        refine z_iload_n G dX0_post_39 rfl 3 rfl ?_
        refine z_dup2 G dX0_post_40 rfl rfl ?_
        refine z_laload G 13 1 rfl rfl dX0_post_41 h (fun h => ?_)
        refine z_lconst (v := 1) G dX0_post_42 (by decide) ?_
        refine z_iload_n G dX0_post_43 rfl 2 rfl ?_
        refine z_lshl G dX0_post_44 ?_
        refine z_lor G dX0_post_45 ?_
        refine z_lastore (ws' := (w_A cI cJ cZ cN ta ga ra na g_longest g_many g_layers g_length g_aheadOf g_cameFrom g_queue r_numbers r_size n_narrower n_order (vp_updL n_items (ix p3) ((n_items (ix p3)) ||| (jlshl 1 p2))) n_names n_owners n_moving n_all n_size n_nameCount)) G 13 1 rfl rfl rfl dX0_post_46 h (fun h => ?_)
        refine z_aload_n G dX0_post_47 rfl 1 rfl ?_
        refine z_get (ci := 2) (v := .ref (na 3)) G in_X2 10 rfl rfl 2 (by decide) fl_X0_65 rfl dX0_post_48 ?_
        refine z_iload_n G dX0_post_51 rfl 3 rfl ?_
        refine z_laload G 13 1 rfl rfl dX0_post_52 h (fun h => ?_)
        refine z_kS (As := [.long ((vp_updL n_items (ix p3) ((n_items (ix p3)) ||| (jlshl 1 p2))) (ix p3))]) (rest := []) (st' := [.int (f_J13_bitCount_95d88 ((vp_updL n_items (ix p3) ((n_items (ix p3)) ||| (jlshl 1 p2))) (ix p3)))]) G pk_J13_bitCount_95d88 ps_J13_bitCount_95d88 ml_X0_69 (c_J13_bitCount_95d88 (p0 := (vp_updL n_items (ix p3) ((n_items (ix p3)) ||| (jlshl 1 p2))) (ix p3)) rfl) ⟨rfl, rfl⟩ ⟨Nat.le_of_ble_eq_true rfl, Nat.le_of_ble_eq_true rfl⟩ ⟨Nat.zero_le _, Nat.zero_le _⟩ rfl rfl (Nat.le_of_ble_eq_true rfl) rfl dX0_post_53 (fun z3 => ?_)
        obtain rfl := Option.some.inj h
        exact z_iret G rfl dX0_post_56 rfl trivial rfl
      · refine z_bipush (v := (-2)) G dX0_post_32 (by decide) ?_
        obtain rfl := Option.some.inj h
        exact z_iret G rfl dX0_post_34 rfl trivial rfl
    · refine z_iconst (v := (-1)) G dX0_post_15 (by decide) ?_
      obtain rfl := Option.some.inj h
      exact z_iret G rfl dX0_post_16 rfl trivial rfl

noncomputable def f_X0_unpost (n_items : Nat → Int64) (n_all : Int32) (p2 : Int32) (p3 : Int32) : Option (Int32 × (Nat → Int64)) :=
  if (f_X2_has n_all p3) = 0 then some ((-1), n_items) else if (f_X6_isItem p2) = 0 then some ((-1), n_items) else chk (inb p3 24) (if (lg_cmp ((jlshr (n_items (ix p3)) p2) &&& 1) 0) = 0 then some ((-2), n_items) else chk (inb p3 24) (chk (inb p3 24) (chk (inb p3 24) (some (f_J13_bitCount_95d88 ((vp_updL n_items (ix p3) ((n_items (ix p3)) &&& ((jlshl 1 p2) ^^^ (-1)))) (ix p3)), vp_updL n_items (ix p3) ((n_items (ix p3)) &&& ((jlshl 1 p2) ^^^ (-1))))))))
set_option maxRecDepth 100000 in
set_option maxHeartbeats 4000000 in
theorem c_X0_unpost {l : Launch} {dC : Nat → ClassId} {dI : Nat → Nat → Nat} {cI cJ cZ cN : ClassId} {ta : Nat → Nat} {ga : Nat → Nat} {ra : Nat → Nat} {na : Nat → Nat} {g_longest : Nat → Int32} {g_many : Nat → Int64} {g_layers : Nat → Int32} {g_length : Int32} {g_aheadOf : Nat → Int32} {g_cameFrom : Nat → Int32} {g_queue : Nat → Int32} {r_numbers : Nat → Int64} {r_size : Int32} {n_narrower : Nat → Int32} {n_order : Nat → Int32} {n_items : Nat → Int64} {n_names : Nat → Int32} {n_owners : Nat → Int32} {n_moving : Nat → Int32} {n_all : Int32} {n_size : Int32} {n_nameCount : Int32} {p2 : Int32} {p3 : Int32} {res : Int32 × (Nat → Int64)} (h : f_X0_unpost n_items n_all p2 p3 = some res) : zM l yX0_unpost cX0_unpost 4 (some .int) ({ frames := 2, cells := 0, slots := 0, locals := 42 }) [.ref (ta 0), .ref (na 0), .int p2, .int p3] (dC, dI) vwCl (zT cI cJ cZ cN) (w_A cI cJ cZ cN ta ga ra na g_longest g_many g_layers g_length g_aheadOf g_cameFrom g_queue r_numbers r_size n_narrower n_order n_items n_names n_owners n_moving n_all n_size n_nameCount) (some (.int res.1)) (True) (w_A cI cJ cZ cN ta ga ra na g_longest g_many g_layers g_length g_aheadOf g_cameFrom g_queue r_numbers r_size n_narrower n_order res.2 n_names n_owners n_moving n_all n_size n_nameCount) := by
  refine zM_of (own := RX0) (by decide) rfl [(0, .ref (ta 0)), (1, .ref (na 0)), (2, .int p2), (3, .int p3)] (Nat.le_of_ble_eq_true rfl) rfl ?_
  intro p e s m args below meth c A G _
  unfold f_X0_unpost at h
  refine z_aload_n G dX0_unpost_0 rfl 1 rfl ?_
  refine z_iload_n G dX0_unpost_1 rfl 3 rfl ?_
  refine z_kR (As := [.int p3]) (rest := []) (st' := [.int (f_X2_has n_all p3)]) G pk_X2_has pv_X2_has ml_X0_58 (c_X2_has (ta := na) (t_narrower := n_narrower) (t_order := n_order) (t_items := n_items) (t_names := n_names) (t_owners := n_owners) (t_moving := n_moving) (t_all := n_all) (t_size := n_size) (t_nameCount := n_nameCount) (p1 := p3) rfl) ⟨rfl, rfl⟩ ⟨Nat.le_of_ble_eq_true rfl, Nat.le_of_ble_eq_true rfl⟩ ⟨Nat.zero_le _, Nat.zero_le _⟩ rfl rfl (Nat.le_of_ble_eq_true rfl) 10 2 rfl rfl rfl [10, 11, 12, 13, 14, 15, 16] rfl rfl rfl dX0_unpost_2 (fun z1 => ?_)
  refine z_if_eq (tgt := 15) G dX0_unpost_5 (by decide) h (fun h => ?_) (fun h => ?_)
  · refine z_iconst (v := (-1)) G dX0_unpost_15 (by decide) ?_
    obtain rfl := Option.some.inj h
    exact z_iret G rfl dX0_unpost_16 rfl trivial rfl
  · refine z_iload_n G dX0_unpost_8 rfl 2 rfl ?_
    refine z_kSN (As := [.int p2]) (rest := []) (st' := [.int (f_X6_isItem p2)]) G pk_X6_isItem ps_X6_isItem nl_X0_62 (c_X6_isItem (p0 := p2) rfl) ⟨rfl, rfl⟩ ⟨Nat.le_of_ble_eq_true rfl, Nat.le_of_ble_eq_true rfl⟩ ⟨Nat.zero_le _, Nat.zero_le _⟩ rfl rfl (Nat.le_of_ble_eq_true rfl) rfl dX0_unpost_9 (fun z2 => ?_)
    refine z_if_ne (tgt := 17) G dX0_unpost_12 (by decide) h (fun h => ?_) (fun h => ?_)
    · refine z_aload_n G dX0_unpost_17 rfl 1 rfl ?_
      refine z_get (ci := 2) (v := .ref (na 3)) G in_X2 10 rfl rfl 2 (by decide) fl_X0_65 rfl dX0_unpost_18 ?_
      refine z_iload_n G dX0_unpost_21 rfl 3 rfl ?_
      refine z_laload G 13 1 rfl rfl dX0_unpost_22 h (fun h => ?_)
      refine z_iload_n G dX0_unpost_23 rfl 2 rfl ?_
      refine z_lshr G dX0_unpost_24 ?_
      refine z_lconst (v := 1) G dX0_unpost_25 (by decide) ?_
      refine z_land G dX0_unpost_26 ?_
      refine z_lconst (v := 0) G dX0_unpost_27 (by decide) ?_
      refine z_lcmp G dX0_unpost_28 ?_
      refine z_if_ne (tgt := 35) G dX0_unpost_29 (by decide) h (fun h => ?_) (fun h => ?_)
      · refine z_aload_n G dX0_unpost_35 rfl 1 rfl ?_
        refine z_get (ci := 2) (v := .ref (na 3)) G in_X2 10 rfl rfl 2 (by decide) fl_X0_65 rfl dX0_unpost_36 ?_
        refine z_iload_n G dX0_unpost_39 rfl 3 rfl ?_
        refine z_dup2 G dX0_unpost_40 rfl rfl ?_
        refine z_laload G 13 1 rfl rfl dX0_unpost_41 h (fun h => ?_)
        refine z_lconst (v := 1) G dX0_unpost_42 (by decide) ?_
        refine z_iload_n G dX0_unpost_43 rfl 2 rfl ?_
        refine z_lshl G dX0_unpost_44 ?_
        refine z_ldc2 (v := (-1)) G dX0_unpost_45 kc_X0_75 ?_
        refine z_lxor G dX0_unpost_48 ?_
        refine z_land G dX0_unpost_49 ?_
        refine z_lastore (ws' := (w_A cI cJ cZ cN ta ga ra na g_longest g_many g_layers g_length g_aheadOf g_cameFrom g_queue r_numbers r_size n_narrower n_order (vp_updL n_items (ix p3) ((n_items (ix p3)) &&& ((jlshl 1 p2) ^^^ (-1)))) n_names n_owners n_moving n_all n_size n_nameCount)) G 13 1 rfl rfl rfl dX0_unpost_50 h (fun h => ?_)
        refine z_aload_n G dX0_unpost_51 rfl 1 rfl ?_
        refine z_get (ci := 2) (v := .ref (na 3)) G in_X2 10 rfl rfl 2 (by decide) fl_X0_65 rfl dX0_unpost_52 ?_
        refine z_iload_n G dX0_unpost_55 rfl 3 rfl ?_
        refine z_laload G 13 1 rfl rfl dX0_unpost_56 h (fun h => ?_)
        refine z_kS (As := [.long ((vp_updL n_items (ix p3) ((n_items (ix p3)) &&& ((jlshl 1 p2) ^^^ (-1)))) (ix p3))]) (rest := []) (st' := [.int (f_J13_bitCount_95d88 ((vp_updL n_items (ix p3) ((n_items (ix p3)) &&& ((jlshl 1 p2) ^^^ (-1)))) (ix p3)))]) G pk_J13_bitCount_95d88 ps_J13_bitCount_95d88 ml_X0_69 (c_J13_bitCount_95d88 (p0 := (vp_updL n_items (ix p3) ((n_items (ix p3)) &&& ((jlshl 1 p2) ^^^ (-1)))) (ix p3)) rfl) ⟨rfl, rfl⟩ ⟨Nat.le_of_ble_eq_true rfl, Nat.le_of_ble_eq_true rfl⟩ ⟨Nat.zero_le _, Nat.zero_le _⟩ rfl rfl (Nat.le_of_ble_eq_true rfl) rfl dX0_unpost_57 (fun z3 => ?_)
        obtain rfl := Option.some.inj h
        exact z_iret G rfl dX0_unpost_60 rfl trivial rfl
      · refine z_bipush (v := (-2)) G dX0_unpost_32 (by decide) ?_
        obtain rfl := Option.some.inj h
        exact z_iret G rfl dX0_unpost_34 rfl trivial rfl
    · refine z_iconst (v := (-1)) G dX0_unpost_15 (by decide) ?_
      obtain rfl := Option.some.inj h
      exact z_iret G rfl dX0_unpost_16 rfl trivial rfl

noncomputable def f_X0_leave_b59 (p2 : Int32) (p3 : Int32) (k59 : Int32 → Int32 → Int64 → Int32 → (Nat → Int32) → (Nat → Int32) → (Nat → Int64) → (Nat → Int32) → (Nat → Int32) → (Nat → Int32) → Int32 → Int32 → Int32 → Option (Int32 × (Nat → Int32) × (Nat → Int32) × (Nat → Int64) × (Nat → Int32) × (Nat → Int32) × (Nat → Int32) × Int32 × Int32 × Int32)) (x4 : Int32) (x5 : Int32) (x6 : Int64) (x8 : Int32) (n_narrower : Nat → Int32) (n_order : Nat → Int32) (n_items : Nat → Int64) (n_names : Nat → Int32) (n_owners : Nat → Int32) (n_moving : Nat → Int32) (n_all : Int32) (n_size : Int32) (n_nameCount : Int32) : Option (Int32 × (Nat → Int32) × (Nat → Int32) × (Nat → Int64) × (Nat → Int32) × (Nat → Int32) × (Nat → Int32) × Int32 × Int32 × Int32) :=
  if 24 ≤ x8 then some (n_size, n_narrower, n_order, n_items, n_names, n_owners, n_moving, n_all, n_size, n_nameCount) else if (f_X6_holds x4 x8) = 0 then k59 x4 x5 x6 (x8 + 1) n_narrower n_order n_items n_names n_owners n_moving n_all n_size n_nameCount else chk (inb x8 24) (chk (inb x8 24) ((f_X2_comeToAll n_narrower n_order n_moving n_size x8 x5).bind (fun r7 => k59 x4 x5 x6 (x8 + 1) r7.1 r7.2.1 (vp_updL n_items (ix x8) ((n_items (ix x8)) ||| x6)) n_names n_owners r7.2.2 n_all n_size n_nameCount)))
set_option maxRecDepth 100000 in
set_option maxHeartbeats 4000000 in
theorem zb_X0_leave_59 {p : Program} {l : Launch} {e : Env} {s : State} {m : MethodId} {args : Array Value} {below : List Frame} {meth : Method} {c : Code} {A : Nat → Prop} {dC : Nat → ClassId} {dI : Nat → Nat → Nat} {cI cJ cZ cN : ClassId} {ta : Nat → Nat} {ga : Nat → Nat} {ra : Nat → Nat} {na : Nat → Nat} {g_longest : Nat → Int32} {g_many : Nat → Int64} {g_layers : Nat → Int32} {g_length : Int32} {g_aheadOf : Nat → Int32} {g_cameFrom : Nat → Int32} {g_queue : Nat → Int32} {r_numbers : Nat → Int64} {r_size : Int32} {p2 : Int32} {p3 : Int32} {res : Int32 × (Nat → Int32) × (Nat → Int32) × (Nat → Int64) × (Nat → Int32) × (Nat → Int32) × (Nat → Int32) × Int32 × Int32 × Int32} (G : zG p m c cX0_leave 9 s args RX0 (dC, dI) vwCl (zT cI cJ cZ cN) A meth (some .int)) {k59 : Int32 → Int32 → Int64 → Int32 → (Nat → Int32) → (Nat → Int32) → (Nat → Int64) → (Nat → Int32) → (Nat → Int32) → (Nat → Int32) → Int32 → Int32 → Int32 → Option (Int32 × (Nat → Int32) × (Nat → Int32) × (Nat → Int64) × (Nat → Int32) × (Nat → Int32) × (Nat → Int32) × Int32 × Int32 × Int32)} (hr59 : ∀ (x4 : Int32) (x5 : Int32) (x6 : Int64) (x8 : Int32) (n_narrower : Nat → Int32) (n_order : Nat → Int32) (n_items : Nat → Int64) (n_names : Nat → Int32) (n_owners : Nat → Int32) (n_moving : Nat → Int32) (n_all : Int32) (n_size : Int32) (n_nameCount : Int32), k59 x4 x5 x6 x8 n_narrower n_order n_items n_names n_owners n_moving n_all n_size n_nameCount = some res → Z p l e ({ frames := 4, cells := 0, slots := 0, locals := 100 }) s m args below meth c (dC, dI) vwCl A 9 0 0 (MQ below (zQ (some (.int res.1)) (True) (w_A cI cJ cZ cN ta ga ra na g_longest g_many g_layers g_length g_aheadOf g_cameFrom g_queue r_numbers r_size res.2.1 res.2.2.1 res.2.2.2.1 res.2.2.2.2.1 res.2.2.2.2.2.1 res.2.2.2.2.2.2.1 res.2.2.2.2.2.2.2.1 res.2.2.2.2.2.2.2.2.1 res.2.2.2.2.2.2.2.2.2) (dC, dI) vwCl A) args s 0 0 A) (w_A cI cJ cZ cN ta ga ra na g_longest g_many g_layers g_length g_aheadOf g_cameFrom g_queue r_numbers r_size n_narrower n_order n_items n_names n_owners n_moving n_all n_size n_nameCount) [(0, .ref (ta 0)), (1, .ref (na 0)), (2, .int p2), (3, .int p3), (4, .int x4), (5, .int x5), (6, .long x6), (8, .int x8)] [] 59) : ∀ (x4 : Int32) (x5 : Int32) (x6 : Int64) (x8 : Int32) (n_narrower : Nat → Int32) (n_order : Nat → Int32) (n_items : Nat → Int64) (n_names : Nat → Int32) (n_owners : Nat → Int32) (n_moving : Nat → Int32) (n_all : Int32) (n_size : Int32) (n_nameCount : Int32), f_X0_leave_b59 p2 p3 k59 x4 x5 x6 x8 n_narrower n_order n_items n_names n_owners n_moving n_all n_size n_nameCount = some res → Z p l e ({ frames := 4, cells := 0, slots := 0, locals := 100 }) s m args below meth c (dC, dI) vwCl A 9 0 0 (MQ below (zQ (some (.int res.1)) (True) (w_A cI cJ cZ cN ta ga ra na g_longest g_many g_layers g_length g_aheadOf g_cameFrom g_queue r_numbers r_size res.2.1 res.2.2.1 res.2.2.2.1 res.2.2.2.2.1 res.2.2.2.2.2.1 res.2.2.2.2.2.2.1 res.2.2.2.2.2.2.2.1 res.2.2.2.2.2.2.2.2.1 res.2.2.2.2.2.2.2.2.2) (dC, dI) vwCl A) args s 0 0 A) (w_A cI cJ cZ cN ta ga ra na g_longest g_many g_layers g_length g_aheadOf g_cameFrom g_queue r_numbers r_size n_narrower n_order n_items n_names n_owners n_moving n_all n_size n_nameCount) [(0, .ref (ta 0)), (1, .ref (na 0)), (2, .int p2), (3, .int p3), (4, .int x4), (5, .int x5), (6, .long x6), (8, .int x8)] [] 59 := by
  intro x4 x5 x6 x8 n_narrower n_order n_items n_names n_owners n_moving n_all n_size n_nameCount h
  unfold f_X0_leave_b59 at h
  refine z_iload G dX0_leave_59 7 rfl ?_
  refine z_bipush (v := 24) G dX0_leave_61 (by decide) ?_
  refine z_icmp_ge (tgt := 102) G dX0_leave_63 (by decide) h (fun h => ?_) (fun h => ?_)
  · refine z_aload_n G dX0_leave_102 rfl 1 rfl ?_
    refine z_get (ci := 2) (v := .int n_size) G in_X2 10 rfl rfl 7 (by decide) fl_X0_89 rfl dX0_leave_103 ?_
    obtain rfl := Option.some.inj h
    exact z_iret G rfl dX0_leave_106 rfl trivial rfl
  · refine z_iload G dX0_leave_66 4 rfl ?_
    refine z_iload G dX0_leave_68 7 rfl ?_
    refine z_kSN (As := [.int x4, .int x8]) (rest := []) (st' := [.int (f_X6_holds x4 x8)]) G pk_X6_holds ps_X6_holds nl_X0_35 (c_X6_holds (p0 := x4) (p1 := x8) rfl) ⟨rfl, rfl⟩ ⟨Nat.le_of_ble_eq_true rfl, Nat.le_of_ble_eq_true rfl⟩ ⟨Nat.zero_le _, Nat.zero_le _⟩ rfl rfl (Nat.le_of_ble_eq_true rfl) rfl dX0_leave_70 (fun z6 => ?_)
    refine z_if_eq (tgt := 96) G dX0_leave_73 (by decide) h (fun h => ?_) (fun h => ?_)
    · refine z_iinc (v := x8 + 1) (lv' := [(0, .ref (ta 0)), (1, .ref (na 0)), (2, .int p2), (3, .int p3), (4, .int x4), (5, .int x5), (6, .long x6), (8, .int (x8 + 1))]) G dX0_leave_96 7 rfl rfl (by decide) [1, 2, 3, 4, 5, 6, 7, 0] rfl ?_
      refine z_goto (tgt := 59) G dX0_leave_99 (by decide) ?_
      exact hr59 x4 x5 x6 (x8 + 1) n_narrower n_order n_items n_names n_owners n_moving n_all n_size n_nameCount h
    · refine z_aload_n G dX0_leave_76 rfl 1 rfl ?_
      refine z_get (ci := 2) (v := .ref (na 3)) G in_X2 10 rfl rfl 2 (by decide) fl_X0_65 rfl dX0_leave_77 ?_
      refine z_iload G dX0_leave_80 7 rfl ?_
      refine z_dup2 G dX0_leave_82 rfl rfl ?_
      refine z_laload G 13 1 rfl rfl dX0_leave_83 h (fun h => ?_)
      refine z_lload G dX0_leave_84 6 rfl ?_
      refine z_lor G dX0_leave_86 ?_
      refine z_lastore (ws' := (w_A cI cJ cZ cN ta ga ra na g_longest g_many g_layers g_length g_aheadOf g_cameFrom g_queue r_numbers r_size n_narrower n_order (vp_updL n_items (ix x8) ((n_items (ix x8)) ||| x6)) n_names n_owners n_moving n_all n_size n_nameCount)) G 13 1 rfl rfl rfl dX0_leave_87 h (fun h => ?_)
      refine z_aload_n G dX0_leave_88 rfl 1 rfl ?_
      refine z_iload G dX0_leave_89 7 rfl ?_
      refine z_iload G dX0_leave_91 5 rfl ?_
      obtain ⟨r7, e7, h⟩ := obind h
      refine z_kV (As := [.int x8, .int x5]) (rest := []) (st' := []) (ws' := (w_A cI cJ cZ cN ta ga ra na g_longest g_many g_layers g_length g_aheadOf g_cameFrom g_queue r_numbers r_size r7.1 r7.2.1 (vp_updL n_items (ix x8) ((n_items (ix x8)) ||| x6)) n_names n_owners r7.2.2 n_all n_size n_nameCount)) G pk_X2_comeToAll pv_X2_comeToAll ml_X0_85 (c_X2_comeToAll (ta := na) (t_narrower := n_narrower) (t_order := n_order) (t_items := vp_updL n_items (ix x8) ((n_items (ix x8)) ||| x6)) (t_names := n_names) (t_owners := n_owners) (t_moving := n_moving) (t_all := n_all) (t_size := n_size) (t_nameCount := n_nameCount) (p1 := x8) (p2 := x5) e7) ⟨rfl, rfl⟩ ⟨Nat.le_of_ble_eq_true rfl, Nat.le_of_ble_eq_true rfl⟩ ⟨Nat.zero_le _, Nat.zero_le _⟩ rfl rfl (Nat.le_of_ble_eq_true rfl) 10 2 rfl rfl rfl [10, 11, 12, 13, 14, 15, 16] rfl rfl [none, none, none, none, none, none, none, none, none, none, some 0, some 1, some 2, some 3, some 4, some 5, some 6] rfl rfl rfl rfl dX0_leave_93 (fun z8 => ?_)
      refine z_iinc (v := x8 + 1) (lv' := [(0, .ref (ta 0)), (1, .ref (na 0)), (2, .int p2), (3, .int p3), (4, .int x4), (5, .int x5), (6, .long x6), (8, .int (x8 + 1))]) G dX0_leave_96 7 rfl rfl (by decide) [1, 2, 3, 4, 5, 6, 7, 0] rfl ?_
      refine z_goto (tgt := 59) G dX0_leave_99 (by decide) ?_
      exact hr59 x4 x5 x6 (x8 + 1) r7.1 r7.2.1 (vp_updL n_items (ix x8) ((n_items (ix x8)) ||| x6)) n_names n_owners r7.2.2 n_all n_size n_nameCount h
noncomputable def f_X0_leave_l59 (p2 : Int32) (p3 : Int32)  (x4 : Int32) (x5 : Int32) (x6 : Int64) (x8 : Int32) (n_narrower : Nat → Int32) (n_order : Nat → Int32) (n_items : Nat → Int64) (n_names : Nat → Int32) (n_owners : Nat → Int32) (n_moving : Nat → Int32) (n_all : Int32) (n_size : Int32) (n_nameCount : Int32) : Option (Int32 × (Nat → Int32) × (Nat → Int32) × (Nat → Int64) × (Nat → Int32) × (Nat → Int32) × (Nat → Int32) × Int32 × Int32 × Int32) := loopN (V := Int32 × Int32 × Int64 × Int32 × (Nat → Int32) × (Nat → Int32) × (Nat → Int64) × (Nat → Int32) × (Nat → Int32) × (Nat → Int32) × Int32 × Int32 × Int32) (fun rc v => f_X0_leave_b59 p2 p3  (fun x0_ x1_ x2_ x3_ x4_ x5_ x6_ x7_ x8_ x9_ x10_ x11_ x12_ => rc (x0_, x1_, x2_, x3_, x4_, x5_, x6_, x7_, x8_, x9_, x10_, x11_, x12_)) v.1 v.2.1 v.2.2.1 v.2.2.2.1 v.2.2.2.2.1 v.2.2.2.2.2.1 v.2.2.2.2.2.2.1 v.2.2.2.2.2.2.2.1 v.2.2.2.2.2.2.2.2.1 v.2.2.2.2.2.2.2.2.2.1 v.2.2.2.2.2.2.2.2.2.2.1 v.2.2.2.2.2.2.2.2.2.2.2.1 v.2.2.2.2.2.2.2.2.2.2.2.2) 200 (x4, x5, x6, x8, n_narrower, n_order, n_items, n_names, n_owners, n_moving, n_all, n_size, n_nameCount)
set_option maxRecDepth 100000 in
set_option maxHeartbeats 4000000 in
theorem zl_X0_leave_59 {p : Program} {l : Launch} {e : Env} {s : State} {m : MethodId} {args : Array Value} {below : List Frame} {meth : Method} {c : Code} {A : Nat → Prop} {dC : Nat → ClassId} {dI : Nat → Nat → Nat} {cI cJ cZ cN : ClassId} {ta : Nat → Nat} {ga : Nat → Nat} {ra : Nat → Nat} {na : Nat → Nat} {g_longest : Nat → Int32} {g_many : Nat → Int64} {g_layers : Nat → Int32} {g_length : Int32} {g_aheadOf : Nat → Int32} {g_cameFrom : Nat → Int32} {g_queue : Nat → Int32} {r_numbers : Nat → Int64} {r_size : Int32} {p2 : Int32} {p3 : Int32} {res : Int32 × (Nat → Int32) × (Nat → Int32) × (Nat → Int64) × (Nat → Int32) × (Nat → Int32) × (Nat → Int32) × Int32 × Int32 × Int32} (G : zG p m c cX0_leave 9 s args RX0 (dC, dI) vwCl (zT cI cJ cZ cN) A meth (some .int))  : ∀ (x4 : Int32) (x5 : Int32) (x6 : Int64) (x8 : Int32) (n_narrower : Nat → Int32) (n_order : Nat → Int32) (n_items : Nat → Int64) (n_names : Nat → Int32) (n_owners : Nat → Int32) (n_moving : Nat → Int32) (n_all : Int32) (n_size : Int32) (n_nameCount : Int32), f_X0_leave_l59 p2 p3  x4 x5 x6 x8 n_narrower n_order n_items n_names n_owners n_moving n_all n_size n_nameCount = some res → Z p l e ({ frames := 4, cells := 0, slots := 0, locals := 100 }) s m args below meth c (dC, dI) vwCl A 9 0 0 (MQ below (zQ (some (.int res.1)) (True) (w_A cI cJ cZ cN ta ga ra na g_longest g_many g_layers g_length g_aheadOf g_cameFrom g_queue r_numbers r_size res.2.1 res.2.2.1 res.2.2.2.1 res.2.2.2.2.1 res.2.2.2.2.2.1 res.2.2.2.2.2.2.1 res.2.2.2.2.2.2.2.1 res.2.2.2.2.2.2.2.2.1 res.2.2.2.2.2.2.2.2.2) (dC, dI) vwCl A) args s 0 0 A) (w_A cI cJ cZ cN ta ga ra na g_longest g_many g_layers g_length g_aheadOf g_cameFrom g_queue r_numbers r_size n_narrower n_order n_items n_names n_owners n_moving n_all n_size n_nameCount) [(0, .ref (ta 0)), (1, .ref (na 0)), (2, .int p2), (3, .int p3), (4, .int x4), (5, .int x5), (6, .long x6), (8, .int x8)] [] 59 := by
  intro x4 x5 x6 x8 n_narrower n_order n_items n_names n_owners n_moving n_all n_size n_nameCount h
  exact zloop (P := fun v => Z p l e ({ frames := 4, cells := 0, slots := 0, locals := 100 }) s m args below meth c (dC, dI) vwCl A 9 0 0 (MQ below (zQ (some (.int res.1)) (True) (w_A cI cJ cZ cN ta ga ra na g_longest g_many g_layers g_length g_aheadOf g_cameFrom g_queue r_numbers r_size res.2.1 res.2.2.1 res.2.2.2.1 res.2.2.2.2.1 res.2.2.2.2.2.1 res.2.2.2.2.2.2.1 res.2.2.2.2.2.2.2.1 res.2.2.2.2.2.2.2.2.1 res.2.2.2.2.2.2.2.2.2) (dC, dI) vwCl A) args s 0 0 A) (w_A cI cJ cZ cN ta ga ra na g_longest g_many g_layers g_length g_aheadOf g_cameFrom g_queue r_numbers r_size v.2.2.2.2.1 v.2.2.2.2.2.1 v.2.2.2.2.2.2.1 v.2.2.2.2.2.2.2.1 v.2.2.2.2.2.2.2.2.1 v.2.2.2.2.2.2.2.2.2.1 v.2.2.2.2.2.2.2.2.2.2.1 v.2.2.2.2.2.2.2.2.2.2.2.1 v.2.2.2.2.2.2.2.2.2.2.2.2) [(0, .ref (ta 0)), (1, .ref (na 0)), (2, .int p2), (3, .int p3), (4, .int v.1), (5, .int v.2.1), (6, .long v.2.2.1), (8, .int v.2.2.2.1)] [] 59) (fun rc hr v h => zb_X0_leave_59 G  (fun x0_ x1_ x2_ x3_ x4_ x5_ x6_ x7_ x8_ x9_ x10_ x11_ x12_ h => hr (x0_, x1_, x2_, x3_, x4_, x5_, x6_, x7_, x8_, x9_, x10_, x11_, x12_) h) v.1 v.2.1 v.2.2.1 v.2.2.2.1 v.2.2.2.2.1 v.2.2.2.2.2.1 v.2.2.2.2.2.2.1 v.2.2.2.2.2.2.2.1 v.2.2.2.2.2.2.2.2.1 v.2.2.2.2.2.2.2.2.2.1 v.2.2.2.2.2.2.2.2.2.2.1 v.2.2.2.2.2.2.2.2.2.2.2.1 v.2.2.2.2.2.2.2.2.2.2.2.2 h) 200 (x4, x5, x6, x8, n_narrower, n_order, n_items, n_names, n_owners, n_moving, n_all, n_size, n_nameCount) h
noncomputable def f_X0_leave_b33 (n_narrower : Nat → Int32) (n_order : Nat → Int32) (n_items : Nat → Int64) (n_names : Nat → Int32) (n_owners : Nat → Int32) (n_moving : Nat → Int32) (n_all : Int32) (n_size : Int32) (n_nameCount : Int32) (p2 : Int32) (p3 : Int32)  (s0 : Int32) : Option (Int32 × (Nat → Int32) × (Nat → Int32) × (Nat → Int64) × (Nat → Int32) × (Nat → Int32) × (Nat → Int32) × Int32 × Int32 × Int32) :=
  chk (inb p2 24) (chk (inb p2 24) ((f_X2_remove n_narrower n_order n_items n_names n_owners n_all n_size n_nameCount p2).bind (fun r4 => f_X0_leave_l59 p2 p3  s0 (n_narrower (ix p2)) (n_items (ix p2)) 0 r4.1 r4.2.1 r4.2.2.1 r4.2.2.2.1 r4.2.2.2.2.1 n_moving r4.2.2.2.2.2.1 r4.2.2.2.2.2.2.1 r4.2.2.2.2.2.2.2)))
set_option maxRecDepth 100000 in
set_option maxHeartbeats 4000000 in
theorem zb_X0_leave_33 {p : Program} {l : Launch} {e : Env} {s : State} {m : MethodId} {args : Array Value} {below : List Frame} {meth : Method} {c : Code} {A : Nat → Prop} {dC : Nat → ClassId} {dI : Nat → Nat → Nat} {cI cJ cZ cN : ClassId} {ta : Nat → Nat} {ga : Nat → Nat} {ra : Nat → Nat} {na : Nat → Nat} {g_longest : Nat → Int32} {g_many : Nat → Int64} {g_layers : Nat → Int32} {g_length : Int32} {g_aheadOf : Nat → Int32} {g_cameFrom : Nat → Int32} {g_queue : Nat → Int32} {r_numbers : Nat → Int64} {r_size : Int32} {n_narrower : Nat → Int32} {n_order : Nat → Int32} {n_items : Nat → Int64} {n_names : Nat → Int32} {n_owners : Nat → Int32} {n_moving : Nat → Int32} {n_all : Int32} {n_size : Int32} {n_nameCount : Int32} {p2 : Int32} {p3 : Int32} {res : Int32 × (Nat → Int32) × (Nat → Int32) × (Nat → Int64) × (Nat → Int32) × (Nat → Int32) × (Nat → Int32) × Int32 × Int32 × Int32} (G : zG p m c cX0_leave 9 s args RX0 (dC, dI) vwCl (zT cI cJ cZ cN) A meth (some .int))  : ∀ (s0 : Int32), f_X0_leave_b33 n_narrower n_order n_items n_names n_owners n_moving n_all n_size n_nameCount p2 p3  s0 = some res → Z p l e ({ frames := 4, cells := 0, slots := 0, locals := 100 }) s m args below meth c (dC, dI) vwCl A 9 0 0 (MQ below (zQ (some (.int res.1)) (True) (w_A cI cJ cZ cN ta ga ra na g_longest g_many g_layers g_length g_aheadOf g_cameFrom g_queue r_numbers r_size res.2.1 res.2.2.1 res.2.2.2.1 res.2.2.2.2.1 res.2.2.2.2.2.1 res.2.2.2.2.2.2.1 res.2.2.2.2.2.2.2.1 res.2.2.2.2.2.2.2.2.1 res.2.2.2.2.2.2.2.2.2) (dC, dI) vwCl A) args s 0 0 A) (w_A cI cJ cZ cN ta ga ra na g_longest g_many g_layers g_length g_aheadOf g_cameFrom g_queue r_numbers r_size n_narrower n_order n_items n_names n_owners n_moving n_all n_size n_nameCount) [(0, .ref (ta 0)), (1, .ref (na 0)), (2, .int p2), (3, .int p3)] [.int s0] 33 := by
  intro s0 h
  unfold f_X0_leave_b33 at h
  refine z_istore (lv' := [(0, .ref (ta 0)), (1, .ref (na 0)), (2, .int p2), (3, .int p3), (4, .int s0)]) G dX0_leave_33 (by decide) [1, 2, 3, 4, 0] rfl ?_
  refine z_aload_n G dX0_leave_35 rfl 1 rfl ?_
  refine z_get (ci := 2) (v := .ref (na 1)) G in_X2 10 rfl rfl 0 (by decide) fl_X0_31 rfl dX0_leave_36 ?_
  refine z_iload_n G dX0_leave_39 rfl 2 rfl ?_
  refine z_iaload G 11 0 rfl rfl dX0_leave_40 h (fun h => ?_)
  refine z_istore (lv' := [(0, .ref (ta 0)), (1, .ref (na 0)), (2, .int p2), (3, .int p3), (4, .int s0), (5, .int (n_narrower (ix p2)))]) G dX0_leave_41 (by decide) [1, 2, 3, 4, 5, 0] rfl ?_
  refine z_aload_n G dX0_leave_43 rfl 1 rfl ?_
  refine z_get (ci := 2) (v := .ref (na 3)) G in_X2 10 rfl rfl 2 (by decide) fl_X0_65 rfl dX0_leave_44 ?_
  refine z_iload_n G dX0_leave_47 rfl 2 rfl ?_
  refine z_laload G 13 1 rfl rfl dX0_leave_48 h (fun h => ?_)
  refine z_lstore (lv' := [(0, .ref (ta 0)), (1, .ref (na 0)), (2, .int p2), (3, .int p3), (4, .int s0), (5, .int (n_narrower (ix p2))), (6, .long (n_items (ix p2)))]) G dX0_leave_49 (by decide) [1, 2, 3, 4, 5, 6, 0] rfl ?_
  refine z_aload_n G dX0_leave_51 rfl 1 rfl ?_
  refine z_iload_n G dX0_leave_52 rfl 2 rfl ?_
  obtain ⟨r4, e4, h⟩ := obind h
  refine z_kV (As := [.int p2]) (rest := []) (st' := []) (ws' := (w_A cI cJ cZ cN ta ga ra na g_longest g_many g_layers g_length g_aheadOf g_cameFrom g_queue r_numbers r_size r4.1 r4.2.1 r4.2.2.1 r4.2.2.2.1 r4.2.2.2.2.1 n_moving r4.2.2.2.2.2.1 r4.2.2.2.2.2.2.1 r4.2.2.2.2.2.2.2)) G pk_X2_remove pv_X2_remove ml_X0_81 (c_X2_remove (ta := na) (t_narrower := n_narrower) (t_order := n_order) (t_items := n_items) (t_names := n_names) (t_owners := n_owners) (t_moving := n_moving) (t_all := n_all) (t_size := n_size) (t_nameCount := n_nameCount) (p1 := p2) e4) ⟨rfl, rfl⟩ ⟨Nat.le_of_ble_eq_true rfl, Nat.le_of_ble_eq_true rfl⟩ ⟨Nat.zero_le _, Nat.zero_le _⟩ rfl rfl (Nat.le_of_ble_eq_true rfl) 10 2 rfl rfl rfl [10, 11, 12, 13, 14, 15, 16] rfl rfl [none, none, none, none, none, none, none, none, none, none, some 0, some 1, some 2, some 3, some 4, some 5, some 6] rfl rfl rfl rfl dX0_leave_53 (fun z5 => ?_)
  refine z_iconst (v := 0) G dX0_leave_56 (by decide) ?_
  refine z_istore (lv' := [(0, .ref (ta 0)), (1, .ref (na 0)), (2, .int p2), (3, .int p3), (4, .int s0), (5, .int (n_narrower (ix p2))), (6, .long (n_items (ix p2))), (8, .int 0)]) G dX0_leave_57 (by decide) [1, 2, 3, 4, 5, 6, 7, 0] rfl ?_
  exact zl_X0_leave_59 G  s0 (n_narrower (ix p2)) (n_items (ix p2)) 0 r4.1 r4.2.1 r4.2.2.1 r4.2.2.2.1 r4.2.2.2.2.1 n_moving r4.2.2.2.2.2.1 r4.2.2.2.2.2.2.1 r4.2.2.2.2.2.2.2 h
noncomputable def f_X0_leave (n_narrower : Nat → Int32) (n_order : Nat → Int32) (n_items : Nat → Int64) (n_names : Nat → Int32) (n_owners : Nat → Int32) (n_moving : Nat → Int32) (n_all : Int32) (n_size : Int32) (n_nameCount : Int32) (p2 : Int32) (p3 : Int32) : Option (Int32 × (Nat → Int32) × (Nat → Int32) × (Nat → Int64) × (Nat → Int32) × (Nat → Int32) × (Nat → Int32) × Int32 × Int32 × Int32) :=
  if (f_X2_has n_all p2) = 0 then some ((-1), n_narrower, n_order, n_items, n_names, n_owners, n_moving, n_all, n_size, n_nameCount) else if p3 < 0 then some ((-1), n_narrower, n_order, n_items, n_names, n_owners, n_moving, n_all, n_size, n_nameCount) else if p3 ≤ 1 then if p3 = 1 then (f_X2_broaderOf n_narrower p2).bind (fun r2 => f_X0_leave_b33 n_narrower n_order n_items n_names n_owners n_moving n_all n_size n_nameCount p2 p3  r2) else f_X0_leave_b33 n_narrower n_order n_items n_names n_owners n_moving n_all n_size n_nameCount p2 p3  0 else some ((-1), n_narrower, n_order, n_items, n_names, n_owners, n_moving, n_all, n_size, n_nameCount)
set_option maxRecDepth 100000 in
set_option maxHeartbeats 4000000 in
theorem c_X0_leave {l : Launch} {dC : Nat → ClassId} {dI : Nat → Nat → Nat} {cI cJ cZ cN : ClassId} {ta : Nat → Nat} {ga : Nat → Nat} {ra : Nat → Nat} {na : Nat → Nat} {g_longest : Nat → Int32} {g_many : Nat → Int64} {g_layers : Nat → Int32} {g_length : Int32} {g_aheadOf : Nat → Int32} {g_cameFrom : Nat → Int32} {g_queue : Nat → Int32} {r_numbers : Nat → Int64} {r_size : Int32} {n_narrower : Nat → Int32} {n_order : Nat → Int32} {n_items : Nat → Int64} {n_names : Nat → Int32} {n_owners : Nat → Int32} {n_moving : Nat → Int32} {n_all : Int32} {n_size : Int32} {n_nameCount : Int32} {p2 : Int32} {p3 : Int32} {res : Int32 × (Nat → Int32) × (Nat → Int32) × (Nat → Int64) × (Nat → Int32) × (Nat → Int32) × (Nat → Int32) × Int32 × Int32 × Int32} (h : f_X0_leave n_narrower n_order n_items n_names n_owners n_moving n_all n_size n_nameCount p2 p3 = some res) : zM l yX0_leave cX0_leave 9 (some .int) ({ frames := 4, cells := 0, slots := 0, locals := 100 }) [.ref (ta 0), .ref (na 0), .int p2, .int p3] (dC, dI) vwCl (zT cI cJ cZ cN) (w_A cI cJ cZ cN ta ga ra na g_longest g_many g_layers g_length g_aheadOf g_cameFrom g_queue r_numbers r_size n_narrower n_order n_items n_names n_owners n_moving n_all n_size n_nameCount) (some (.int res.1)) (True) (w_A cI cJ cZ cN ta ga ra na g_longest g_many g_layers g_length g_aheadOf g_cameFrom g_queue r_numbers r_size res.2.1 res.2.2.1 res.2.2.2.1 res.2.2.2.2.1 res.2.2.2.2.2.1 res.2.2.2.2.2.2.1 res.2.2.2.2.2.2.2.1 res.2.2.2.2.2.2.2.2.1 res.2.2.2.2.2.2.2.2.2) := by
  refine zM_of (own := RX0) (by decide) rfl [(0, .ref (ta 0)), (1, .ref (na 0)), (2, .int p2), (3, .int p3)] (Nat.le_of_ble_eq_true rfl) rfl ?_
  intro p e s m args below meth c A G _
  unfold f_X0_leave at h
  refine z_aload_n G dX0_leave_0 rfl 1 rfl ?_
  refine z_iload_n G dX0_leave_1 rfl 2 rfl ?_
  refine z_kR (As := [.int p2]) (rest := []) (st' := [.int (f_X2_has n_all p2)]) G pk_X2_has pv_X2_has ml_X0_58 (c_X2_has (ta := na) (t_narrower := n_narrower) (t_order := n_order) (t_items := n_items) (t_names := n_names) (t_owners := n_owners) (t_moving := n_moving) (t_all := n_all) (t_size := n_size) (t_nameCount := n_nameCount) (p1 := p2) rfl) ⟨rfl, rfl⟩ ⟨Nat.le_of_ble_eq_true rfl, Nat.le_of_ble_eq_true rfl⟩ ⟨Nat.zero_le _, Nat.zero_le _⟩ rfl rfl (Nat.le_of_ble_eq_true rfl) 10 2 rfl rfl rfl [10, 11, 12, 13, 14, 15, 16] rfl rfl rfl dX0_leave_2 (fun z1 => ?_)
  refine z_if_eq (tgt := 17) G dX0_leave_5 (by decide) h (fun h => ?_) (fun h => ?_)
  · refine z_iconst (v := (-1)) G dX0_leave_17 (by decide) ?_
    obtain rfl := Option.some.inj h
    exact z_iret G rfl dX0_leave_18 rfl trivial rfl
  · refine z_iload_n G dX0_leave_8 rfl 3 rfl ?_
    refine z_if_lt (tgt := 17) G dX0_leave_9 (by decide) h (fun h => ?_) (fun h => ?_)
    · refine z_iconst (v := (-1)) G dX0_leave_17 (by decide) ?_
      obtain rfl := Option.some.inj h
      exact z_iret G rfl dX0_leave_18 rfl trivial rfl
    · refine z_iload_n G dX0_leave_12 rfl 3 rfl ?_
      refine z_iconst (v := 1) G dX0_leave_13 (by decide) ?_
      refine z_icmp_le (tgt := 19) G dX0_leave_14 (by decide) h (fun h => ?_) (fun h => ?_)
      · refine z_iload_n G dX0_leave_19 rfl 3 rfl ?_
        refine z_iconst (v := 1) G dX0_leave_20 (by decide) ?_
        refine z_icmp_ne (tgt := 32) G dX0_leave_21 (by decide) h (fun h => ?_) (fun h => ?_)
        · refine z_iconst (v := 0) G dX0_leave_32 (by decide) ?_
          exact zb_X0_leave_33 G  0 h
        · refine z_aload_n G dX0_leave_24 rfl 1 rfl ?_
          refine z_iload_n G dX0_leave_25 rfl 2 rfl ?_
          obtain ⟨r2, e2, h⟩ := obind h
          refine z_kR (As := [.int p2]) (rest := []) (st' := [.int r2]) G pk_X2_broaderOf pv_X2_broaderOf ml_X0_77 (c_X2_broaderOf (ta := na) (t_narrower := n_narrower) (t_order := n_order) (t_items := n_items) (t_names := n_names) (t_owners := n_owners) (t_moving := n_moving) (t_all := n_all) (t_size := n_size) (t_nameCount := n_nameCount) (p1 := p2) e2) ⟨rfl, rfl⟩ ⟨Nat.le_of_ble_eq_true rfl, Nat.le_of_ble_eq_true rfl⟩ ⟨Nat.zero_le _, Nat.zero_le _⟩ rfl rfl (Nat.le_of_ble_eq_true rfl) 10 2 rfl rfl rfl [10, 11, 12, 13, 14, 15, 16] rfl rfl rfl dX0_leave_26 (fun z3 => ?_)
          refine z_goto (tgt := 33) G dX0_leave_29 (by decide) ?_
          exact zb_X0_leave_33 G  r2 h
      · refine z_iconst (v := (-1)) G dX0_leave_17 (by decide) ?_
        obtain rfl := Option.some.inj h
        exact z_iret G rfl dX0_leave_18 rfl trivial rfl

noncomputable def f_X0_tellsWayOverOthers (g_layers : Nat → Int32) (g_length : Int32) (r_numbers : Nat → Int64) (r_size : Int32) (n_narrower : Nat → Int32) (p2 : Int32) (p3 : Int32) : Option (Int32 × (Nat → Int32) × Int32 × (Nat → Int64) × Int32) :=
  (f_X1_findWay g_layers g_length n_narrower p2 p3 0).bind (fun r1 => if r1.1 = 0 then some (0, r1.2.1, r1.2.2, r_numbers, r_size) else (f_X1_tellWay r1.2.1 r1.2.2 n_narrower r_numbers r_size p2).bind (fun r3 => some (1, r1.2.1, r1.2.2, r3.1, r3.2)))
set_option maxRecDepth 100000 in
set_option maxHeartbeats 4000000 in
theorem c_X0_tellsWayOverOthers {l : Launch} {dC : Nat → ClassId} {dI : Nat → Nat → Nat} {cI cJ cZ cN : ClassId} {ta : Nat → Nat} {ga : Nat → Nat} {ra : Nat → Nat} {na : Nat → Nat} {g_longest : Nat → Int32} {g_many : Nat → Int64} {g_layers : Nat → Int32} {g_length : Int32} {g_aheadOf : Nat → Int32} {g_cameFrom : Nat → Int32} {g_queue : Nat → Int32} {r_numbers : Nat → Int64} {r_size : Int32} {n_narrower : Nat → Int32} {n_order : Nat → Int32} {n_items : Nat → Int64} {n_names : Nat → Int32} {n_owners : Nat → Int32} {n_moving : Nat → Int32} {n_all : Int32} {n_size : Int32} {n_nameCount : Int32} {p2 : Int32} {p3 : Int32} {res : Int32 × (Nat → Int32) × Int32 × (Nat → Int64) × Int32} (h : f_X0_tellsWayOverOthers g_layers g_length r_numbers r_size n_narrower p2 p3 = some res) : zM l yX0_tellsWayOverOthers cX0_tellsWayOverOthers 4 (some .boolean) ({ frames := 3, cells := 0, slots := 0, locals := 69 }) [.ref (ta 0), .ref (na 0), .int p2, .int p3] (dC, dI) vwCl (zT cI cJ cZ cN) (w_A cI cJ cZ cN ta ga ra na g_longest g_many g_layers g_length g_aheadOf g_cameFrom g_queue r_numbers r_size n_narrower n_order n_items n_names n_owners n_moving n_all n_size n_nameCount) (some (.int res.1)) (narrow .boolean (.int res.1) = .int res.1) (w_A cI cJ cZ cN ta ga ra na g_longest g_many res.2.1 res.2.2.1 g_aheadOf g_cameFrom g_queue res.2.2.2.1 res.2.2.2.2 n_narrower n_order n_items n_names n_owners n_moving n_all n_size n_nameCount) := by
  refine zM_of (own := RX0) (by decide) rfl [(0, .ref (ta 0)), (1, .ref (na 0)), (2, .int p2), (3, .int p3)] (Nat.le_of_ble_eq_true rfl) rfl ?_
  intro p e s m args below meth c A G _
  unfold f_X0_tellsWayOverOthers at h
  refine z_aload_n G dX0_tellsWayOverOthers_0 rfl 0 rfl ?_
  refine z_get (ci := 0) (v := .ref (ga 0)) G in_X0 0 rfl rfl 0 (by decide) fl_X0_12 rfl dX0_tellsWayOverOthers_1 ?_
  refine z_aload_n G dX0_tellsWayOverOthers_4 rfl 1 rfl ?_
  refine z_iload_n G dX0_tellsWayOverOthers_5 rfl 2 rfl ?_
  refine z_iload_n G dX0_tellsWayOverOthers_6 rfl 3 rfl ?_
  refine z_iconst (v := 0) G dX0_tellsWayOverOthers_7 (by decide) ?_
  obtain ⟨r1, e1, h⟩ := obind h
  refine z_kV (As := [.ref (na 0), .int p2, .int p3, .int 0]) (rest := []) (st' := [.int r1.1]) (ws' := (w_A cI cJ cZ cN ta ga ra na g_longest g_many r1.2.1 r1.2.2 g_aheadOf g_cameFrom g_queue r_numbers r_size n_narrower n_order n_items n_names n_owners n_moving n_all n_size n_nameCount)) G pk_X1_findWay pv_X1_findWay ml_X0_38 (c_X1_findWay (ta := ga) (na := na) (t_longest := g_longest) (t_many := g_many) (t_layers := g_layers) (t_length := g_length) (t_aheadOf := g_aheadOf) (t_cameFrom := g_cameFrom) (t_queue := g_queue) (n_narrower := n_narrower) (n_order := n_order) (n_items := n_items) (n_names := n_names) (n_owners := n_owners) (n_moving := n_moving) (n_all := n_all) (n_size := n_size) (n_nameCount := n_nameCount) (p2 := p2) (p3 := p3) (p4 := 0) e1) ⟨rfl, rfl⟩ ⟨Nat.le_of_ble_eq_true rfl, Nat.le_of_ble_eq_true rfl⟩ ⟨Nat.zero_le _, Nat.zero_le _⟩ rfl rfl (Nat.le_of_ble_eq_true rfl) 1 1 rfl rfl rfl [1, 2, 3, 4, 5, 6, 7, 10, 11, 12, 13, 14, 15, 16] rfl rfl [none, some 0, some 1, some 2, some 3, some 4, some 5, some 6, none, none, some 7, some 8, some 9, some 10, some 11, some 12, some 13] rfl rfl rfl rfl dX0_tellsWayOverOthers_8 (fun z2 => ?_)
  refine z_if_ne (tgt := 16) G dX0_tellsWayOverOthers_11 (by decide) h (fun h => ?_) (fun h => ?_)
  · refine z_aload_n G dX0_tellsWayOverOthers_16 rfl 0 rfl ?_
    refine z_get (ci := 0) (v := .ref (ga 0)) G in_X0 0 rfl rfl 0 (by decide) fl_X0_12 rfl dX0_tellsWayOverOthers_17 ?_
    refine z_aload_n G dX0_tellsWayOverOthers_20 rfl 1 rfl ?_
    refine z_iload_n G dX0_tellsWayOverOthers_21 rfl 2 rfl ?_
    refine z_aload_n G dX0_tellsWayOverOthers_22 rfl 0 rfl ?_
    refine z_get (ci := 0) (v := .ref (ra 0)) G in_X0 0 rfl rfl 1 (by decide) fl_X0_21 rfl dX0_tellsWayOverOthers_23 ?_
    obtain ⟨r3, e3, h⟩ := obind h
    refine z_kV (As := [.ref (na 0), .int p2, .ref (ra 0)]) (rest := []) (st' := []) (ws' := (w_A cI cJ cZ cN ta ga ra na g_longest g_many r1.2.1 r1.2.2 g_aheadOf g_cameFrom g_queue r3.1 r3.2 n_narrower n_order n_items n_names n_owners n_moving n_all n_size n_nameCount)) G pk_X1_tellWay pv_X1_tellWay ml_X0_42 (c_X1_tellWay (ta := ga) (na := na) (ra := ra) (t_longest := g_longest) (t_many := g_many) (t_layers := r1.2.1) (t_length := r1.2.2) (t_aheadOf := g_aheadOf) (t_cameFrom := g_cameFrom) (t_queue := g_queue) (n_narrower := n_narrower) (n_order := n_order) (n_items := n_items) (n_names := n_names) (n_owners := n_owners) (n_moving := n_moving) (n_all := n_all) (n_size := n_size) (n_nameCount := n_nameCount) (r_numbers := r_numbers) (r_size := r_size) (p2 := p2) e3) ⟨rfl, rfl⟩ ⟨Nat.le_of_ble_eq_true rfl, Nat.le_of_ble_eq_true rfl⟩ ⟨Nat.zero_le _, Nat.zero_le _⟩ rfl rfl (Nat.le_of_ble_eq_true rfl) 1 1 rfl rfl rfl [1, 2, 3, 4, 5, 6, 7, 10, 11, 12, 13, 14, 15, 16, 8, 9] rfl rfl [none, some 0, some 1, some 2, some 3, some 4, some 5, some 6, some 14, some 15, some 7, some 8, some 9, some 10, some 11, some 12, some 13] rfl rfl rfl rfl dX0_tellsWayOverOthers_26 (fun z4 => ?_)
    refine z_iconst (v := 1) G dX0_tellsWayOverOthers_29 (by decide) ?_
    obtain rfl := Option.some.inj h
    exact z_zret G rfl zn1 dX0_tellsWayOverOthers_30 rfl zn1 rfl
  · refine z_iconst (v := 0) G dX0_tellsWayOverOthers_14 (by decide) ?_
    obtain rfl := Option.some.inj h
    exact z_zret G rfl zn0 dX0_tellsWayOverOthers_15 rfl zn0 rfl

noncomputable def f_X0_merge_b97 (p2 : Int32) (p3 : Int32) (k97 : Int32 → Int32 → (Nat → Int32) → Int32 → (Nat → Int64) → Int32 → (Nat → Int32) → (Nat → Int32) → (Nat → Int64) → (Nat → Int32) → (Nat → Int32) → (Nat → Int32) → Int32 → Int32 → Int32 → Option (Int32 × (Nat → Int32) × Int32 × (Nat → Int64) × Int32 × (Nat → Int32) × (Nat → Int32) × (Nat → Int64) × (Nat → Int32) × (Nat → Int32) × (Nat → Int32) × Int32 × Int32 × Int32)) (x5 : Int32) (x6 : Int32) (g_layers : Nat → Int32) (g_length : Int32) (r_numbers : Nat → Int64) (r_size : Int32) (n_narrower : Nat → Int32) (n_order : Nat → Int32) (n_items : Nat → Int64) (n_names : Nat → Int32) (n_owners : Nat → Int32) (n_moving : Nat → Int32) (n_all : Int32) (n_size : Int32) (n_nameCount : Int32) : Option (Int32 × (Nat → Int32) × Int32 × (Nat → Int64) × Int32 × (Nat → Int32) × (Nat → Int32) × (Nat → Int64) × (Nat → Int32) × (Nat → Int32) × (Nat → Int32) × Int32 × Int32 × Int32) :=
  if 24 ≤ x6 then some (n_size, g_layers, g_length, r_numbers, r_size, n_narrower, n_order, n_items, n_names, n_owners, n_moving, n_all, n_size, n_nameCount) else if (f_X6_holds x5 x6) = 0 then k97 x5 (x6 + 1) g_layers g_length r_numbers r_size n_narrower n_order n_items n_names n_owners n_moving n_all n_size n_nameCount else (f_X2_comeToAll n_narrower n_order n_moving n_size x6 (jshl 1 p2)).bind (fun r15 => k97 x5 (x6 + 1) g_layers g_length r_numbers r_size r15.1 r15.2.1 n_items n_names n_owners r15.2.2 n_all n_size n_nameCount)
set_option maxRecDepth 100000 in
set_option maxHeartbeats 4000000 in
theorem zb_X0_merge_97 {p : Program} {l : Launch} {e : Env} {s : State} {m : MethodId} {args : Array Value} {below : List Frame} {meth : Method} {c : Code} {A : Nat → Prop} {dC : Nat → ClassId} {dI : Nat → Nat → Nat} {cI cJ cZ cN : ClassId} {ta : Nat → Nat} {ga : Nat → Nat} {ra : Nat → Nat} {na : Nat → Nat} {g_longest : Nat → Int32} {g_many : Nat → Int64} {g_aheadOf : Nat → Int32} {g_cameFrom : Nat → Int32} {g_queue : Nat → Int32} {p2 : Int32} {p3 : Int32} {res : Int32 × (Nat → Int32) × Int32 × (Nat → Int64) × Int32 × (Nat → Int32) × (Nat → Int32) × (Nat → Int64) × (Nat → Int32) × (Nat → Int32) × (Nat → Int32) × Int32 × Int32 × Int32} (G : zG p m c cX0_merge 7 s args RX0 (dC, dI) vwCl (zT cI cJ cZ cN) A meth (some .int)) {k97 : Int32 → Int32 → (Nat → Int32) → Int32 → (Nat → Int64) → Int32 → (Nat → Int32) → (Nat → Int32) → (Nat → Int64) → (Nat → Int32) → (Nat → Int32) → (Nat → Int32) → Int32 → Int32 → Int32 → Option (Int32 × (Nat → Int32) × Int32 × (Nat → Int64) × Int32 × (Nat → Int32) × (Nat → Int32) × (Nat → Int64) × (Nat → Int32) × (Nat → Int32) × (Nat → Int32) × Int32 × Int32 × Int32)} (hr97 : ∀ (x5 : Int32) (x6 : Int32) (g_layers : Nat → Int32) (g_length : Int32) (r_numbers : Nat → Int64) (r_size : Int32) (n_narrower : Nat → Int32) (n_order : Nat → Int32) (n_items : Nat → Int64) (n_names : Nat → Int32) (n_owners : Nat → Int32) (n_moving : Nat → Int32) (n_all : Int32) (n_size : Int32) (n_nameCount : Int32), k97 x5 x6 g_layers g_length r_numbers r_size n_narrower n_order n_items n_names n_owners n_moving n_all n_size n_nameCount = some res → Z p l e ({ frames := 4, cells := 0, slots := 0, locals := 100 }) s m args below meth c (dC, dI) vwCl A 7 0 0 (MQ below (zQ (some (.int res.1)) (True) (w_A cI cJ cZ cN ta ga ra na g_longest g_many res.2.1 res.2.2.1 g_aheadOf g_cameFrom g_queue res.2.2.2.1 res.2.2.2.2.1 res.2.2.2.2.2.1 res.2.2.2.2.2.2.1 res.2.2.2.2.2.2.2.1 res.2.2.2.2.2.2.2.2.1 res.2.2.2.2.2.2.2.2.2.1 res.2.2.2.2.2.2.2.2.2.2.1 res.2.2.2.2.2.2.2.2.2.2.2.1 res.2.2.2.2.2.2.2.2.2.2.2.2.1 res.2.2.2.2.2.2.2.2.2.2.2.2.2) (dC, dI) vwCl A) args s 0 0 A) (w_A cI cJ cZ cN ta ga ra na g_longest g_many g_layers g_length g_aheadOf g_cameFrom g_queue r_numbers r_size n_narrower n_order n_items n_names n_owners n_moving n_all n_size n_nameCount) [(0, .ref (ta 0)), (1, .ref (na 0)), (2, .int p2), (3, .int p3), (5, .int x5), (6, .int x6)] [] 97) : ∀ (x5 : Int32) (x6 : Int32) (g_layers : Nat → Int32) (g_length : Int32) (r_numbers : Nat → Int64) (r_size : Int32) (n_narrower : Nat → Int32) (n_order : Nat → Int32) (n_items : Nat → Int64) (n_names : Nat → Int32) (n_owners : Nat → Int32) (n_moving : Nat → Int32) (n_all : Int32) (n_size : Int32) (n_nameCount : Int32), f_X0_merge_b97 p2 p3 k97 x5 x6 g_layers g_length r_numbers r_size n_narrower n_order n_items n_names n_owners n_moving n_all n_size n_nameCount = some res → Z p l e ({ frames := 4, cells := 0, slots := 0, locals := 100 }) s m args below meth c (dC, dI) vwCl A 7 0 0 (MQ below (zQ (some (.int res.1)) (True) (w_A cI cJ cZ cN ta ga ra na g_longest g_many res.2.1 res.2.2.1 g_aheadOf g_cameFrom g_queue res.2.2.2.1 res.2.2.2.2.1 res.2.2.2.2.2.1 res.2.2.2.2.2.2.1 res.2.2.2.2.2.2.2.1 res.2.2.2.2.2.2.2.2.1 res.2.2.2.2.2.2.2.2.2.1 res.2.2.2.2.2.2.2.2.2.2.1 res.2.2.2.2.2.2.2.2.2.2.2.1 res.2.2.2.2.2.2.2.2.2.2.2.2.1 res.2.2.2.2.2.2.2.2.2.2.2.2.2) (dC, dI) vwCl A) args s 0 0 A) (w_A cI cJ cZ cN ta ga ra na g_longest g_many g_layers g_length g_aheadOf g_cameFrom g_queue r_numbers r_size n_narrower n_order n_items n_names n_owners n_moving n_all n_size n_nameCount) [(0, .ref (ta 0)), (1, .ref (na 0)), (2, .int p2), (3, .int p3), (5, .int x5), (6, .int x6)] [] 97 := by
  intro x5 x6 g_layers g_length r_numbers r_size n_narrower n_order n_items n_names n_owners n_moving n_all n_size n_nameCount h
  unfold f_X0_merge_b97 at h
  refine z_iload G dX0_merge_97 5 rfl ?_
  refine z_bipush (v := 24) G dX0_merge_99 (by decide) ?_
  refine z_icmp_ge (tgt := 129) G dX0_merge_101 (by decide) h (fun h => ?_) (fun h => ?_)
  · refine z_aload_n G dX0_merge_129 rfl 1 rfl ?_
    refine z_get (ci := 2) (v := .int n_size) G in_X2 10 rfl rfl 7 (by decide) fl_X0_89 rfl dX0_merge_130 ?_
    obtain rfl := Option.some.inj h
    exact z_iret G rfl dX0_merge_133 rfl trivial rfl
  · refine z_iload G dX0_merge_104 4 rfl ?_
    refine z_iload G dX0_merge_106 5 rfl ?_
    refine z_kSN (As := [.int x5, .int x6]) (rest := []) (st' := [.int (f_X6_holds x5 x6)]) G pk_X6_holds ps_X6_holds nl_X0_35 (c_X6_holds (p0 := x5) (p1 := x6) rfl) ⟨rfl, rfl⟩ ⟨Nat.le_of_ble_eq_true rfl, Nat.le_of_ble_eq_true rfl⟩ ⟨Nat.zero_le _, Nat.zero_le _⟩ rfl rfl (Nat.le_of_ble_eq_true rfl) rfl dX0_merge_108 (fun z14 => ?_)
    refine z_if_eq (tgt := 123) G dX0_merge_111 (by decide) h (fun h => ?_) (fun h => ?_)
    · refine z_iinc (v := x6 + 1) (lv' := [(0, .ref (ta 0)), (1, .ref (na 0)), (2, .int p2), (3, .int p3), (5, .int x5), (6, .int (x6 + 1))]) G dX0_merge_123 5 rfl rfl (by decide) [1, 2, 3, 4, 5, 0] rfl ?_
      refine z_goto (tgt := 97) G dX0_merge_126 (by decide) ?_
      exact hr97 x5 (x6 + 1) g_layers g_length r_numbers r_size n_narrower n_order n_items n_names n_owners n_moving n_all n_size n_nameCount h
    · refine z_aload_n G dX0_merge_114 rfl 1 rfl ?_
      refine z_iload G dX0_merge_115 5 rfl ?_
      refine z_iconst (v := 1) G dX0_merge_117 (by decide) ?_
      refine z_iload_n G dX0_merge_118 rfl 2 rfl ?_
      refine z_ishl G dX0_merge_119 ?_
      obtain ⟨r15, e15, h⟩ := obind h
      refine z_kV (As := [.int x6, .int (jshl 1 p2)]) (rest := []) (st' := []) (ws' := (w_A cI cJ cZ cN ta ga ra na g_longest g_many g_layers g_length g_aheadOf g_cameFrom g_queue r_numbers r_size r15.1 r15.2.1 n_items n_names n_owners r15.2.2 n_all n_size n_nameCount)) G pk_X2_comeToAll pv_X2_comeToAll ml_X0_85 (c_X2_comeToAll (ta := na) (t_narrower := n_narrower) (t_order := n_order) (t_items := n_items) (t_names := n_names) (t_owners := n_owners) (t_moving := n_moving) (t_all := n_all) (t_size := n_size) (t_nameCount := n_nameCount) (p1 := x6) (p2 := jshl 1 p2) e15) ⟨rfl, rfl⟩ ⟨Nat.le_of_ble_eq_true rfl, Nat.le_of_ble_eq_true rfl⟩ ⟨Nat.zero_le _, Nat.zero_le _⟩ rfl rfl (Nat.le_of_ble_eq_true rfl) 10 2 rfl rfl rfl [10, 11, 12, 13, 14, 15, 16] rfl rfl [none, none, none, none, none, none, none, none, none, none, some 0, some 1, some 2, some 3, some 4, some 5, some 6] rfl rfl rfl rfl dX0_merge_120 (fun z16 => ?_)
      refine z_iinc (v := x6 + 1) (lv' := [(0, .ref (ta 0)), (1, .ref (na 0)), (2, .int p2), (3, .int p3), (5, .int x5), (6, .int (x6 + 1))]) G dX0_merge_123 5 rfl rfl (by decide) [1, 2, 3, 4, 5, 0] rfl ?_
      refine z_goto (tgt := 97) G dX0_merge_126 (by decide) ?_
      exact hr97 x5 (x6 + 1) g_layers g_length r_numbers r_size r15.1 r15.2.1 n_items n_names n_owners r15.2.2 n_all n_size n_nameCount h
noncomputable def f_X0_merge_l97 (p2 : Int32) (p3 : Int32)  (x5 : Int32) (x6 : Int32) (g_layers : Nat → Int32) (g_length : Int32) (r_numbers : Nat → Int64) (r_size : Int32) (n_narrower : Nat → Int32) (n_order : Nat → Int32) (n_items : Nat → Int64) (n_names : Nat → Int32) (n_owners : Nat → Int32) (n_moving : Nat → Int32) (n_all : Int32) (n_size : Int32) (n_nameCount : Int32) : Option (Int32 × (Nat → Int32) × Int32 × (Nat → Int64) × Int32 × (Nat → Int32) × (Nat → Int32) × (Nat → Int64) × (Nat → Int32) × (Nat → Int32) × (Nat → Int32) × Int32 × Int32 × Int32) := loopN (V := Int32 × Int32 × (Nat → Int32) × Int32 × (Nat → Int64) × Int32 × (Nat → Int32) × (Nat → Int32) × (Nat → Int64) × (Nat → Int32) × (Nat → Int32) × (Nat → Int32) × Int32 × Int32 × Int32) (fun rc v => f_X0_merge_b97 p2 p3  (fun x0_ x1_ x2_ x3_ x4_ x5_ x6_ x7_ x8_ x9_ x10_ x11_ x12_ x13_ x14_ => rc (x0_, x1_, x2_, x3_, x4_, x5_, x6_, x7_, x8_, x9_, x10_, x11_, x12_, x13_, x14_)) v.1 v.2.1 v.2.2.1 v.2.2.2.1 v.2.2.2.2.1 v.2.2.2.2.2.1 v.2.2.2.2.2.2.1 v.2.2.2.2.2.2.2.1 v.2.2.2.2.2.2.2.2.1 v.2.2.2.2.2.2.2.2.2.1 v.2.2.2.2.2.2.2.2.2.2.1 v.2.2.2.2.2.2.2.2.2.2.2.1 v.2.2.2.2.2.2.2.2.2.2.2.2.1 v.2.2.2.2.2.2.2.2.2.2.2.2.2.1 v.2.2.2.2.2.2.2.2.2.2.2.2.2.2) 200 (x5, x6, g_layers, g_length, r_numbers, r_size, n_narrower, n_order, n_items, n_names, n_owners, n_moving, n_all, n_size, n_nameCount)
set_option maxRecDepth 100000 in
set_option maxHeartbeats 4000000 in
theorem zl_X0_merge_97 {p : Program} {l : Launch} {e : Env} {s : State} {m : MethodId} {args : Array Value} {below : List Frame} {meth : Method} {c : Code} {A : Nat → Prop} {dC : Nat → ClassId} {dI : Nat → Nat → Nat} {cI cJ cZ cN : ClassId} {ta : Nat → Nat} {ga : Nat → Nat} {ra : Nat → Nat} {na : Nat → Nat} {g_longest : Nat → Int32} {g_many : Nat → Int64} {g_aheadOf : Nat → Int32} {g_cameFrom : Nat → Int32} {g_queue : Nat → Int32} {p2 : Int32} {p3 : Int32} {res : Int32 × (Nat → Int32) × Int32 × (Nat → Int64) × Int32 × (Nat → Int32) × (Nat → Int32) × (Nat → Int64) × (Nat → Int32) × (Nat → Int32) × (Nat → Int32) × Int32 × Int32 × Int32} (G : zG p m c cX0_merge 7 s args RX0 (dC, dI) vwCl (zT cI cJ cZ cN) A meth (some .int))  : ∀ (x5 : Int32) (x6 : Int32) (g_layers : Nat → Int32) (g_length : Int32) (r_numbers : Nat → Int64) (r_size : Int32) (n_narrower : Nat → Int32) (n_order : Nat → Int32) (n_items : Nat → Int64) (n_names : Nat → Int32) (n_owners : Nat → Int32) (n_moving : Nat → Int32) (n_all : Int32) (n_size : Int32) (n_nameCount : Int32), f_X0_merge_l97 p2 p3  x5 x6 g_layers g_length r_numbers r_size n_narrower n_order n_items n_names n_owners n_moving n_all n_size n_nameCount = some res → Z p l e ({ frames := 4, cells := 0, slots := 0, locals := 100 }) s m args below meth c (dC, dI) vwCl A 7 0 0 (MQ below (zQ (some (.int res.1)) (True) (w_A cI cJ cZ cN ta ga ra na g_longest g_many res.2.1 res.2.2.1 g_aheadOf g_cameFrom g_queue res.2.2.2.1 res.2.2.2.2.1 res.2.2.2.2.2.1 res.2.2.2.2.2.2.1 res.2.2.2.2.2.2.2.1 res.2.2.2.2.2.2.2.2.1 res.2.2.2.2.2.2.2.2.2.1 res.2.2.2.2.2.2.2.2.2.2.1 res.2.2.2.2.2.2.2.2.2.2.2.1 res.2.2.2.2.2.2.2.2.2.2.2.2.1 res.2.2.2.2.2.2.2.2.2.2.2.2.2) (dC, dI) vwCl A) args s 0 0 A) (w_A cI cJ cZ cN ta ga ra na g_longest g_many g_layers g_length g_aheadOf g_cameFrom g_queue r_numbers r_size n_narrower n_order n_items n_names n_owners n_moving n_all n_size n_nameCount) [(0, .ref (ta 0)), (1, .ref (na 0)), (2, .int p2), (3, .int p3), (5, .int x5), (6, .int x6)] [] 97 := by
  intro x5 x6 g_layers g_length r_numbers r_size n_narrower n_order n_items n_names n_owners n_moving n_all n_size n_nameCount h
  exact zloop (P := fun v => Z p l e ({ frames := 4, cells := 0, slots := 0, locals := 100 }) s m args below meth c (dC, dI) vwCl A 7 0 0 (MQ below (zQ (some (.int res.1)) (True) (w_A cI cJ cZ cN ta ga ra na g_longest g_many res.2.1 res.2.2.1 g_aheadOf g_cameFrom g_queue res.2.2.2.1 res.2.2.2.2.1 res.2.2.2.2.2.1 res.2.2.2.2.2.2.1 res.2.2.2.2.2.2.2.1 res.2.2.2.2.2.2.2.2.1 res.2.2.2.2.2.2.2.2.2.1 res.2.2.2.2.2.2.2.2.2.2.1 res.2.2.2.2.2.2.2.2.2.2.2.1 res.2.2.2.2.2.2.2.2.2.2.2.2.1 res.2.2.2.2.2.2.2.2.2.2.2.2.2) (dC, dI) vwCl A) args s 0 0 A) (w_A cI cJ cZ cN ta ga ra na g_longest g_many v.2.2.1 v.2.2.2.1 g_aheadOf g_cameFrom g_queue v.2.2.2.2.1 v.2.2.2.2.2.1 v.2.2.2.2.2.2.1 v.2.2.2.2.2.2.2.1 v.2.2.2.2.2.2.2.2.1 v.2.2.2.2.2.2.2.2.2.1 v.2.2.2.2.2.2.2.2.2.2.1 v.2.2.2.2.2.2.2.2.2.2.2.1 v.2.2.2.2.2.2.2.2.2.2.2.2.1 v.2.2.2.2.2.2.2.2.2.2.2.2.2.1 v.2.2.2.2.2.2.2.2.2.2.2.2.2.2) [(0, .ref (ta 0)), (1, .ref (na 0)), (2, .int p2), (3, .int p3), (5, .int v.1), (6, .int v.2.1)] [] 97) (fun rc hr v h => zb_X0_merge_97 G  (fun x0_ x1_ x2_ x3_ x4_ x5_ x6_ x7_ x8_ x9_ x10_ x11_ x12_ x13_ x14_ h => hr (x0_, x1_, x2_, x3_, x4_, x5_, x6_, x7_, x8_, x9_, x10_, x11_, x12_, x13_, x14_) h) v.1 v.2.1 v.2.2.1 v.2.2.2.1 v.2.2.2.2.1 v.2.2.2.2.2.1 v.2.2.2.2.2.2.1 v.2.2.2.2.2.2.2.1 v.2.2.2.2.2.2.2.2.1 v.2.2.2.2.2.2.2.2.2.1 v.2.2.2.2.2.2.2.2.2.2.1 v.2.2.2.2.2.2.2.2.2.2.2.1 v.2.2.2.2.2.2.2.2.2.2.2.2.1 v.2.2.2.2.2.2.2.2.2.2.2.2.2.1 v.2.2.2.2.2.2.2.2.2.2.2.2.2.2 h) 200 (x5, x6, g_layers, g_length, r_numbers, r_size, n_narrower, n_order, n_items, n_names, n_owners, n_moving, n_all, n_size, n_nameCount) h
noncomputable def f_X0_merge (g_layers : Nat → Int32) (g_length : Int32) (r_numbers : Nat → Int64) (r_size : Int32) (n_narrower : Nat → Int32) (n_order : Nat → Int32) (n_items : Nat → Int64) (n_names : Nat → Int32) (n_owners : Nat → Int32) (n_moving : Nat → Int32) (n_all : Int32) (n_size : Int32) (n_nameCount : Int32) (p2 : Int32) (p3 : Int32) : Option (Int32 × (Nat → Int32) × Int32 × (Nat → Int64) × Int32 × (Nat → Int32) × (Nat → Int32) × (Nat → Int64) × (Nat → Int32) × (Nat → Int32) × (Nat → Int32) × Int32 × Int32 × Int32) :=
  if (f_X2_hasPair n_all p2 p3) = 0 then some ((-1), g_layers, g_length, r_numbers, r_size, n_narrower, n_order, n_items, n_names, n_owners, n_moving, n_all, n_size, n_nameCount) else (f_X0_tellsWayOverOthers g_layers g_length r_numbers r_size n_narrower p2 p3).bind (fun r2 => if r2.1 = 0 then (f_X0_tellsWayOverOthers r2.2.1 r2.2.2.1 r2.2.2.2.1 r2.2.2.2.2 n_narrower p3 p2).bind (fun r4 => if r4.1 = 0 then chk (inb p3 24) ((f_X2_broaderOf n_narrower p3).bind (fun r6 => chk (inb p2 24) (chk (inb p3 24) (chk (inb p2 24) ((f_X2_handNames n_names n_owners n_nameCount p3 p2).bind (fun r8 => (f_X2_remove n_narrower n_order (vp_updL n_items (ix p2) ((n_items (ix p2)) ||| (n_items (ix p3)))) r8.1 r8.2.1 n_all n_size r8.2.2 p3).bind (fun r10 => (f_X2_comeToAll r10.1 r10.2.1 n_moving r10.2.2.2.2.2.2.1 p2 ((n_narrower (ix p3)) &&& ((jshl 1 p2) ^^^ (-1)))).bind (fun r12 => f_X0_merge_l97 p2 p3  (r6 &&& ((jshl 1 p2) ^^^ (-1))) 0 r4.2.1 r4.2.2.1 r4.2.2.2.1 r4.2.2.2.2 r12.1 r12.2.1 r10.2.2.1 r10.2.2.2.1 r10.2.2.2.2.1 r12.2.2 r10.2.2.2.2.2.1 r10.2.2.2.2.2.2.1 r10.2.2.2.2.2.2.2)))))))) else some ((-4), r4.2.1, r4.2.2.1, r4.2.2.2.1, r4.2.2.2.2, n_narrower, n_order, n_items, n_names, n_owners, n_moving, n_all, n_size, n_nameCount)) else some ((-4), r2.2.1, r2.2.2.1, r2.2.2.2.1, r2.2.2.2.2, n_narrower, n_order, n_items, n_names, n_owners, n_moving, n_all, n_size, n_nameCount))
set_option maxRecDepth 100000 in
set_option maxHeartbeats 4000000 in
theorem c_X0_merge {l : Launch} {dC : Nat → ClassId} {dI : Nat → Nat → Nat} {cI cJ cZ cN : ClassId} {ta : Nat → Nat} {ga : Nat → Nat} {ra : Nat → Nat} {na : Nat → Nat} {g_longest : Nat → Int32} {g_many : Nat → Int64} {g_layers : Nat → Int32} {g_length : Int32} {g_aheadOf : Nat → Int32} {g_cameFrom : Nat → Int32} {g_queue : Nat → Int32} {r_numbers : Nat → Int64} {r_size : Int32} {n_narrower : Nat → Int32} {n_order : Nat → Int32} {n_items : Nat → Int64} {n_names : Nat → Int32} {n_owners : Nat → Int32} {n_moving : Nat → Int32} {n_all : Int32} {n_size : Int32} {n_nameCount : Int32} {p2 : Int32} {p3 : Int32} {res : Int32 × (Nat → Int32) × Int32 × (Nat → Int64) × Int32 × (Nat → Int32) × (Nat → Int32) × (Nat → Int64) × (Nat → Int32) × (Nat → Int32) × (Nat → Int32) × Int32 × Int32 × Int32} (h : f_X0_merge g_layers g_length r_numbers r_size n_narrower n_order n_items n_names n_owners n_moving n_all n_size n_nameCount p2 p3 = some res) : zM l yX0_merge cX0_merge 7 (some .int) ({ frames := 4, cells := 0, slots := 0, locals := 100 }) [.ref (ta 0), .ref (na 0), .int p2, .int p3] (dC, dI) vwCl (zT cI cJ cZ cN) (w_A cI cJ cZ cN ta ga ra na g_longest g_many g_layers g_length g_aheadOf g_cameFrom g_queue r_numbers r_size n_narrower n_order n_items n_names n_owners n_moving n_all n_size n_nameCount) (some (.int res.1)) (True) (w_A cI cJ cZ cN ta ga ra na g_longest g_many res.2.1 res.2.2.1 g_aheadOf g_cameFrom g_queue res.2.2.2.1 res.2.2.2.2.1 res.2.2.2.2.2.1 res.2.2.2.2.2.2.1 res.2.2.2.2.2.2.2.1 res.2.2.2.2.2.2.2.2.1 res.2.2.2.2.2.2.2.2.2.1 res.2.2.2.2.2.2.2.2.2.2.1 res.2.2.2.2.2.2.2.2.2.2.2.1 res.2.2.2.2.2.2.2.2.2.2.2.2.1 res.2.2.2.2.2.2.2.2.2.2.2.2.2) := by
  refine zM_of (own := RX0) (by decide) rfl [(0, .ref (ta 0)), (1, .ref (na 0)), (2, .int p2), (3, .int p3)] (Nat.le_of_ble_eq_true rfl) rfl ?_
  intro p e s m args below meth c A G _
  unfold f_X0_merge at h
  refine z_aload_n G dX0_merge_0 rfl 1 rfl ?_
  refine z_iload_n G dX0_merge_1 rfl 2 rfl ?_
  refine z_iload_n G dX0_merge_2 rfl 3 rfl ?_
  refine z_kR (As := [.int p2, .int p3]) (rest := []) (st' := [.int (f_X2_hasPair n_all p2 p3)]) G pk_X2_hasPair pv_X2_hasPair ml_X0_25 (c_X2_hasPair (ta := na) (t_narrower := n_narrower) (t_order := n_order) (t_items := n_items) (t_names := n_names) (t_owners := n_owners) (t_moving := n_moving) (t_all := n_all) (t_size := n_size) (t_nameCount := n_nameCount) (p1 := p2) (p2 := p3) rfl) ⟨rfl, rfl⟩ ⟨Nat.le_of_ble_eq_true rfl, Nat.le_of_ble_eq_true rfl⟩ ⟨Nat.zero_le _, Nat.zero_le _⟩ rfl rfl (Nat.le_of_ble_eq_true rfl) 10 2 rfl rfl rfl [10, 11, 12, 13, 14, 15, 16] rfl rfl rfl dX0_merge_3 (fun z1 => ?_)
  refine z_if_ne (tgt := 11) G dX0_merge_6 (by decide) h (fun h => ?_) (fun h => ?_)
  · refine z_aload_n G dX0_merge_11 rfl 0 rfl ?_
    refine z_aload_n G dX0_merge_12 rfl 1 rfl ?_
    refine z_iload_n G dX0_merge_13 rfl 2 rfl ?_
    refine z_iload_n G dX0_merge_14 rfl 3 rfl ?_
    obtain ⟨r2, e2, h⟩ := obind h
    refine z_kV (As := [.ref (na 0), .int p2, .int p3]) (rest := []) (st' := [.int r2.1]) (ws' := (w_A cI cJ cZ cN ta ga ra na g_longest g_many r2.2.1 r2.2.2.1 g_aheadOf g_cameFrom g_queue r2.2.2.2.1 r2.2.2.2.2 n_narrower n_order n_items n_names n_owners n_moving n_all n_size n_nameCount)) G pk_X0_tellsWayOverOthers pv_X0_tellsWayOverOthers ml_X0_93 (c_X0_tellsWayOverOthers (ta := ta) (ga := ga) (ra := ra) (na := na) (g_longest := g_longest) (g_many := g_many) (g_layers := g_layers) (g_length := g_length) (g_aheadOf := g_aheadOf) (g_cameFrom := g_cameFrom) (g_queue := g_queue) (r_numbers := r_numbers) (r_size := r_size) (n_narrower := n_narrower) (n_order := n_order) (n_items := n_items) (n_names := n_names) (n_owners := n_owners) (n_moving := n_moving) (n_all := n_all) (n_size := n_size) (n_nameCount := n_nameCount) (p2 := p2) (p3 := p3) e2) ⟨rfl, rfl⟩ ⟨Nat.le_of_ble_eq_true rfl, Nat.le_of_ble_eq_true rfl⟩ ⟨Nat.zero_le _, Nat.zero_le _⟩ rfl rfl (Nat.le_of_ble_eq_true rfl) 0 0 rfl rfl rfl [0, 1, 2, 3, 4, 5, 6, 7, 8, 9, 10, 11, 12, 13, 14, 15, 16] rfl rfl [some 0, some 1, some 2, some 3, some 4, some 5, some 6, some 7, some 8, some 9, some 10, some 11, some 12, some 13, some 14, some 15, some 16] rfl rfl rfl rfl dX0_merge_15 (fun z3 => ?_)
    refine z_if_ne (tgt := 31) G dX0_merge_18 (by decide) h (fun h => ?_) (fun h => ?_)
    · refine z_bipush (v := (-4)) G dX0_merge_31 (by decide) ?_
      obtain rfl := Option.some.inj h
      exact z_iret G rfl dX0_merge_33 rfl trivial rfl
    · refine z_aload_n G dX0_merge_21 rfl 0 rfl ?_
      refine z_aload_n G dX0_merge_22 rfl 1 rfl ?_
      refine z_iload_n G dX0_merge_23 rfl 3 rfl ?_
      refine z_iload_n G dX0_merge_24 rfl 2 rfl ?_
      obtain ⟨r4, e4, h⟩ := obind h
      refine z_kV (As := [.ref (na 0), .int p3, .int p2]) (rest := []) (st' := [.int r4.1]) (ws' := (w_A cI cJ cZ cN ta ga ra na g_longest g_many r4.2.1 r4.2.2.1 g_aheadOf g_cameFrom g_queue r4.2.2.2.1 r4.2.2.2.2 n_narrower n_order n_items n_names n_owners n_moving n_all n_size n_nameCount)) G pk_X0_tellsWayOverOthers pv_X0_tellsWayOverOthers ml_X0_93 (c_X0_tellsWayOverOthers (ta := ta) (ga := ga) (ra := ra) (na := na) (g_longest := g_longest) (g_many := g_many) (g_layers := r2.2.1) (g_length := r2.2.2.1) (g_aheadOf := g_aheadOf) (g_cameFrom := g_cameFrom) (g_queue := g_queue) (r_numbers := r2.2.2.2.1) (r_size := r2.2.2.2.2) (n_narrower := n_narrower) (n_order := n_order) (n_items := n_items) (n_names := n_names) (n_owners := n_owners) (n_moving := n_moving) (n_all := n_all) (n_size := n_size) (n_nameCount := n_nameCount) (p2 := p3) (p3 := p2) e4) ⟨rfl, rfl⟩ ⟨Nat.le_of_ble_eq_true rfl, Nat.le_of_ble_eq_true rfl⟩ ⟨Nat.zero_le _, Nat.zero_le _⟩ rfl rfl (Nat.le_of_ble_eq_true rfl) 0 0 rfl rfl rfl [0, 1, 2, 3, 4, 5, 6, 7, 8, 9, 10, 11, 12, 13, 14, 15, 16] rfl rfl [some 0, some 1, some 2, some 3, some 4, some 5, some 6, some 7, some 8, some 9, some 10, some 11, some 12, some 13, some 14, some 15, some 16] rfl rfl rfl rfl dX0_merge_25 (fun z5 => ?_)
      refine z_if_eq (tgt := 34) G dX0_merge_28 (by decide) h (fun h => ?_) (fun h => ?_)
      · refine z_aload_n G dX0_merge_34 rfl 1 rfl ?_
        refine z_get (ci := 2) (v := .ref (na 1)) G in_X2 10 rfl rfl 0 (by decide) fl_X0_31 rfl dX0_merge_35 ?_
        refine z_iload_n G dX0_merge_38 rfl 3 rfl ?_
        refine z_iaload G 11 0 rfl rfl dX0_merge_39 h (fun h => ?_)
        refine z_iconst (v := 1) G dX0_merge_40 (by decide) ?_
        refine z_iload_n G dX0_merge_41 rfl 2 rfl ?_
        refine z_ishl G dX0_merge_42 ?_
        refine z_iconst (v := (-1)) G dX0_merge_43 (by decide) ?_
        refine z_ixor G dX0_merge_44 ?_
        refine z_iand G dX0_merge_45 ?_
        refine z_istore (lv' := [(0, .ref (ta 0)), (1, .ref (na 0)), (2, .int p2), (3, .int p3), (4, .int ((n_narrower (ix p3)) &&& ((jshl 1 p2) ^^^ (-1))))]) G dX0_merge_46 (by decide) [1, 2, 3, 4, 0] rfl ?_
        refine z_aload_n G dX0_merge_48 rfl 1 rfl ?_
        refine z_iload_n G dX0_merge_49 rfl 3 rfl ?_
        obtain ⟨r6, e6, h⟩ := obind h
        refine z_kR (As := [.int p3]) (rest := []) (st' := [.int r6]) G pk_X2_broaderOf pv_X2_broaderOf ml_X0_77 (c_X2_broaderOf (ta := na) (t_narrower := n_narrower) (t_order := n_order) (t_items := n_items) (t_names := n_names) (t_owners := n_owners) (t_moving := n_moving) (t_all := n_all) (t_size := n_size) (t_nameCount := n_nameCount) (p1 := p3) e6) ⟨rfl, rfl⟩ ⟨Nat.le_of_ble_eq_true rfl, Nat.le_of_ble_eq_true rfl⟩ ⟨Nat.zero_le _, Nat.zero_le _⟩ rfl rfl (Nat.le_of_ble_eq_true rfl) 10 2 rfl rfl rfl [10, 11, 12, 13, 14, 15, 16] rfl rfl rfl dX0_merge_50 (fun z7 => ?_)
        refine z_iconst (v := 1) G dX0_merge_53 (by decide) ?_
        refine z_iload_n G dX0_merge_54 rfl 2 rfl ?_
        refine z_ishl G dX0_merge_55 ?_
        refine z_iconst (v := (-1)) G dX0_merge_56 (by decide) ?_
        refine z_ixor G dX0_merge_57 ?_
        refine z_iand G dX0_merge_58 ?_
        refine z_istore (lv' := [(0, .ref (ta 0)), (1, .ref (na 0)), (2, .int p2), (3, .int p3), (4, .int ((n_narrower (ix p3)) &&& ((jshl 1 p2) ^^^ (-1)))), (5, .int (r6 &&& ((jshl 1 p2) ^^^ (-1))))]) G dX0_merge_59 (by decide) [1, 2, 3, 4, 5, 0] rfl ?_
        refine z_aload_n G dX0_merge_61 rfl 1 rfl ?_
        refine z_get (ci := 2) (v := .ref (na 3)) G in_X2 10 rfl rfl 2 (by decide) fl_X0_65 rfl dX0_merge_62 ?_
        refine z_iload_n G dX0_merge_65 rfl 2 rfl ?_
        refine z_dup2 G dX0_merge_66 rfl rfl ?_
        refine z_laload G 13 1 rfl rfl dX0_merge_67 h (fun h => ?_)
        refine z_aload_n G dX0_merge_68 rfl 1 rfl ?_
        refine z_get (ci := 2) (v := .ref (na 3)) G in_X2 10 rfl rfl 2 (by decide) fl_X0_65 rfl dX0_merge_69 ?_
        refine z_iload_n G dX0_merge_72 rfl 3 rfl ?_
        refine z_laload G 13 1 rfl rfl dX0_merge_73 h (fun h => ?_)
        refine z_lor G dX0_merge_74 ?_
        refine z_lastore (ws' := (w_A cI cJ cZ cN ta ga ra na g_longest g_many r4.2.1 r4.2.2.1 g_aheadOf g_cameFrom g_queue r4.2.2.2.1 r4.2.2.2.2 n_narrower n_order (vp_updL n_items (ix p2) ((n_items (ix p2)) ||| (n_items (ix p3)))) n_names n_owners n_moving n_all n_size n_nameCount)) G 13 1 rfl rfl rfl dX0_merge_75 h (fun h => ?_)
        refine z_aload_n G dX0_merge_76 rfl 1 rfl ?_
        refine z_iload_n G dX0_merge_77 rfl 3 rfl ?_
        refine z_iload_n G dX0_merge_78 rfl 2 rfl ?_
        obtain ⟨r8, e8, h⟩ := obind h
        refine z_kV (As := [.int p3, .int p2]) (rest := []) (st' := []) (ws' := (w_A cI cJ cZ cN ta ga ra na g_longest g_many r4.2.1 r4.2.2.1 g_aheadOf g_cameFrom g_queue r4.2.2.2.1 r4.2.2.2.2 n_narrower n_order (vp_updL n_items (ix p2) ((n_items (ix p2)) ||| (n_items (ix p3)))) r8.1 r8.2.1 n_moving n_all n_size r8.2.2)) G pk_X2_handNames pv_X2_handNames ml_X0_97 (c_X2_handNames (ta := na) (t_narrower := n_narrower) (t_order := n_order) (t_items := vp_updL n_items (ix p2) ((n_items (ix p2)) ||| (n_items (ix p3)))) (t_names := n_names) (t_owners := n_owners) (t_moving := n_moving) (t_all := n_all) (t_size := n_size) (t_nameCount := n_nameCount) (p1 := p3) (p2 := p2) e8) ⟨rfl, rfl⟩ ⟨Nat.le_of_ble_eq_true rfl, Nat.le_of_ble_eq_true rfl⟩ ⟨Nat.zero_le _, Nat.zero_le _⟩ rfl rfl (Nat.le_of_ble_eq_true rfl) 10 2 rfl rfl rfl [10, 11, 12, 13, 14, 15, 16] rfl rfl [none, none, none, none, none, none, none, none, none, none, some 0, some 1, some 2, some 3, some 4, some 5, some 6] rfl rfl rfl rfl dX0_merge_79 (fun z9 => ?_)
        refine z_aload_n G dX0_merge_82 rfl 1 rfl ?_
        refine z_iload_n G dX0_merge_83 rfl 3 rfl ?_
        obtain ⟨r10, e10, h⟩ := obind h
        refine z_kV (As := [.int p3]) (rest := []) (st' := []) (ws' := (w_A cI cJ cZ cN ta ga ra na g_longest g_many r4.2.1 r4.2.2.1 g_aheadOf g_cameFrom g_queue r4.2.2.2.1 r4.2.2.2.2 r10.1 r10.2.1 r10.2.2.1 r10.2.2.2.1 r10.2.2.2.2.1 n_moving r10.2.2.2.2.2.1 r10.2.2.2.2.2.2.1 r10.2.2.2.2.2.2.2)) G pk_X2_remove pv_X2_remove ml_X0_81 (c_X2_remove (ta := na) (t_narrower := n_narrower) (t_order := n_order) (t_items := vp_updL n_items (ix p2) ((n_items (ix p2)) ||| (n_items (ix p3)))) (t_names := r8.1) (t_owners := r8.2.1) (t_moving := n_moving) (t_all := n_all) (t_size := n_size) (t_nameCount := r8.2.2) (p1 := p3) e10) ⟨rfl, rfl⟩ ⟨Nat.le_of_ble_eq_true rfl, Nat.le_of_ble_eq_true rfl⟩ ⟨Nat.zero_le _, Nat.zero_le _⟩ rfl rfl (Nat.le_of_ble_eq_true rfl) 10 2 rfl rfl rfl [10, 11, 12, 13, 14, 15, 16] rfl rfl [none, none, none, none, none, none, none, none, none, none, some 0, some 1, some 2, some 3, some 4, some 5, some 6] rfl rfl rfl rfl dX0_merge_84 (fun z11 => ?_)
        refine z_aload_n G dX0_merge_87 rfl 1 rfl ?_
        refine z_iload_n G dX0_merge_88 rfl 2 rfl ?_
        refine z_iload G dX0_merge_89 4 rfl ?_
        obtain ⟨r12, e12, h⟩ := obind h
        refine z_kV (As := [.int p2, .int ((n_narrower (ix p3)) &&& ((jshl 1 p2) ^^^ (-1)))]) (rest := []) (st' := []) (ws' := (w_A cI cJ cZ cN ta ga ra na g_longest g_many r4.2.1 r4.2.2.1 g_aheadOf g_cameFrom g_queue r4.2.2.2.1 r4.2.2.2.2 r12.1 r12.2.1 r10.2.2.1 r10.2.2.2.1 r10.2.2.2.2.1 r12.2.2 r10.2.2.2.2.2.1 r10.2.2.2.2.2.2.1 r10.2.2.2.2.2.2.2)) G pk_X2_comeToAll pv_X2_comeToAll ml_X0_85 (c_X2_comeToAll (ta := na) (t_narrower := r10.1) (t_order := r10.2.1) (t_items := r10.2.2.1) (t_names := r10.2.2.2.1) (t_owners := r10.2.2.2.2.1) (t_moving := n_moving) (t_all := r10.2.2.2.2.2.1) (t_size := r10.2.2.2.2.2.2.1) (t_nameCount := r10.2.2.2.2.2.2.2) (p1 := p2) (p2 := (n_narrower (ix p3)) &&& ((jshl 1 p2) ^^^ (-1))) e12) ⟨rfl, rfl⟩ ⟨Nat.le_of_ble_eq_true rfl, Nat.le_of_ble_eq_true rfl⟩ ⟨Nat.zero_le _, Nat.zero_le _⟩ rfl rfl (Nat.le_of_ble_eq_true rfl) 10 2 rfl rfl rfl [10, 11, 12, 13, 14, 15, 16] rfl rfl [none, none, none, none, none, none, none, none, none, none, some 0, some 1, some 2, some 3, some 4, some 5, some 6] rfl rfl rfl rfl dX0_merge_91 (fun z13 => ?_)
        refine z_iconst (v := 0) G dX0_merge_94 (by decide) ?_
        refine z_istore (lv' := [(0, .ref (ta 0)), (1, .ref (na 0)), (2, .int p2), (3, .int p3), (4, .int ((n_narrower (ix p3)) &&& ((jshl 1 p2) ^^^ (-1)))), (5, .int (r6 &&& ((jshl 1 p2) ^^^ (-1)))), (6, .int 0)]) G dX0_merge_95 (by decide) [1, 2, 3, 4, 5, 6, 0] rfl ?_
        refine z_lv [0, 1, 2, 3, 5, 6] rfl ?_
        exact zl_X0_merge_97 G  (r6 &&& ((jshl 1 p2) ^^^ (-1))) 0 r4.2.1 r4.2.2.1 r4.2.2.2.1 r4.2.2.2.2 r12.1 r12.2.1 r10.2.2.1 r10.2.2.2.1 r10.2.2.2.2.1 r12.2.2 r10.2.2.2.2.2.1 r10.2.2.2.2.2.2.1 r10.2.2.2.2.2.2.2 h
      · refine z_bipush (v := (-4)) G dX0_merge_31 (by decide) ?_
        obtain rfl := Option.some.inj h
        exact z_iret G rfl dX0_merge_33 rfl trivial rfl
  · refine z_iconst (v := (-1)) G dX0_merge_9 (by decide) ?_
    obtain rfl := Option.some.inj h
    exact z_iret G rfl dX0_merge_10 rfl trivial rfl

noncomputable def f_X0_thin_b4 (n_order : Nat → Int32) (n_size : Int32) (k4 : Int32 → Int32 → (Nat → Int32) → Option (Int32 × (Nat → Int32))) (x2 : Int32) (x3 : Int32) (n_narrower : Nat → Int32) : Option (Int32 × (Nat → Int32)) :=
  if 24 ≤ x3 then if x2 ≤ 0 then some ((-2), n_narrower) else some (x2, n_narrower) else (f_X2_needlessFrom n_narrower n_order n_size x3).bind (fun r1 => chk (inb x3 24) (chk (inb x3 24) (k4 (x2 + (f_J6_bitCount_0f7a4 r1)) (x3 + 1) (upd n_narrower (ix x3) ((n_narrower (ix x3)) &&& (r1 ^^^ (-1)))))))
set_option maxRecDepth 100000 in
set_option maxHeartbeats 4000000 in
theorem zb_X0_thin_4 {p : Program} {l : Launch} {e : Env} {s : State} {m : MethodId} {args : Array Value} {below : List Frame} {meth : Method} {c : Code} {A : Nat → Prop} {dC : Nat → ClassId} {dI : Nat → Nat → Nat} {cI cJ cZ cN : ClassId} {ta : Nat → Nat} {ga : Nat → Nat} {ra : Nat → Nat} {na : Nat → Nat} {g_longest : Nat → Int32} {g_many : Nat → Int64} {g_layers : Nat → Int32} {g_length : Int32} {g_aheadOf : Nat → Int32} {g_cameFrom : Nat → Int32} {g_queue : Nat → Int32} {r_numbers : Nat → Int64} {r_size : Int32} {n_order : Nat → Int32} {n_items : Nat → Int64} {n_names : Nat → Int32} {n_owners : Nat → Int32} {n_moving : Nat → Int32} {n_all : Int32} {n_size : Int32} {n_nameCount : Int32}  {res : Int32 × (Nat → Int32)} (G : zG p m c cX0_thin 5 s args RX0 (dC, dI) vwCl (zT cI cJ cZ cN) A meth (some .int)) {k4 : Int32 → Int32 → (Nat → Int32) → Option (Int32 × (Nat → Int32))} (hr4 : ∀ (x2 : Int32) (x3 : Int32) (n_narrower : Nat → Int32), k4 x2 x3 n_narrower = some res → Z p l e ({ frames := 3, cells := 0, slots := 0, locals := 67 }) s m args below meth c (dC, dI) vwCl A 5 0 0 (MQ below (zQ (some (.int res.1)) (True) (w_A cI cJ cZ cN ta ga ra na g_longest g_many g_layers g_length g_aheadOf g_cameFrom g_queue r_numbers r_size res.2 n_order n_items n_names n_owners n_moving n_all n_size n_nameCount) (dC, dI) vwCl A) args s 0 0 A) (w_A cI cJ cZ cN ta ga ra na g_longest g_many g_layers g_length g_aheadOf g_cameFrom g_queue r_numbers r_size n_narrower n_order n_items n_names n_owners n_moving n_all n_size n_nameCount) [(0, .ref (ta 0)), (1, .ref (na 0)), (2, .int x2), (3, .int x3)] [] 4) : ∀ (x2 : Int32) (x3 : Int32) (n_narrower : Nat → Int32), f_X0_thin_b4 n_order n_size k4 x2 x3 n_narrower = some res → Z p l e ({ frames := 3, cells := 0, slots := 0, locals := 67 }) s m args below meth c (dC, dI) vwCl A 5 0 0 (MQ below (zQ (some (.int res.1)) (True) (w_A cI cJ cZ cN ta ga ra na g_longest g_many g_layers g_length g_aheadOf g_cameFrom g_queue r_numbers r_size res.2 n_order n_items n_names n_owners n_moving n_all n_size n_nameCount) (dC, dI) vwCl A) args s 0 0 A) (w_A cI cJ cZ cN ta ga ra na g_longest g_many g_layers g_length g_aheadOf g_cameFrom g_queue r_numbers r_size n_narrower n_order n_items n_names n_owners n_moving n_all n_size n_nameCount) [(0, .ref (ta 0)), (1, .ref (na 0)), (2, .int x2), (3, .int x3)] [] 4 := by
  intro x2 x3 n_narrower h
  unfold f_X0_thin_b4 at h
  refine z_iload_n G dX0_thin_4 rfl 3 rfl ?_
  refine z_bipush (v := 24) G dX0_thin_5 (by decide) ?_
  refine z_icmp_ge (tgt := 44) G dX0_thin_7 (by decide) h (fun h => ?_) (fun h => ?_)
  · refine z_iload_n G dX0_thin_44 rfl 2 rfl ?_
    refine z_if_le (tgt := 52) G dX0_thin_45 (by decide) h (fun h => ?_) (fun h => ?_)
    · refine z_bipush (v := (-2)) G dX0_thin_52 (by decide) ?_
      obtain rfl := Option.some.inj h
      exact z_iret G rfl dX0_thin_54 rfl trivial rfl
    · refine z_iload_n G dX0_thin_48 rfl 2 rfl ?_
      refine z_goto (tgt := 54) G dX0_thin_49 (by decide) ?_
      obtain rfl := Option.some.inj h
      exact z_iret G rfl dX0_thin_54 rfl trivial rfl
  · refine z_aload_n G dX0_thin_10 rfl 1 rfl ?_
    refine z_iload_n G dX0_thin_11 rfl 3 rfl ?_
    obtain ⟨r1, e1, h⟩ := obind h
    refine z_kR (As := [.int x3]) (rest := []) (st' := [.int r1]) G pk_X2_needlessFrom pv_X2_needlessFrom ml_X0_100 (c_X2_needlessFrom (ta := na) (t_narrower := n_narrower) (t_order := n_order) (t_items := n_items) (t_names := n_names) (t_owners := n_owners) (t_moving := n_moving) (t_all := n_all) (t_size := n_size) (t_nameCount := n_nameCount) (p1 := x3) e1) ⟨rfl, rfl⟩ ⟨Nat.le_of_ble_eq_true rfl, Nat.le_of_ble_eq_true rfl⟩ ⟨Nat.zero_le _, Nat.zero_le _⟩ rfl rfl (Nat.le_of_ble_eq_true rfl) 10 2 rfl rfl rfl [10, 11, 12, 13, 14, 15, 16] rfl rfl rfl dX0_thin_12 (fun z2 => ?_)
    refine z_istore (lv' := [(0, .ref (ta 0)), (1, .ref (na 0)), (2, .int x2), (3, .int x3), (4, .int r1)]) G dX0_thin_15 (by decide) [1, 2, 3, 4, 0] rfl ?_
    refine z_aload_n G dX0_thin_17 rfl 1 rfl ?_
    refine z_get (ci := 2) (v := .ref (na 1)) G in_X2 10 rfl rfl 0 (by decide) fl_X0_31 rfl dX0_thin_18 ?_
    refine z_iload_n G dX0_thin_21 rfl 3 rfl ?_
    refine z_dup2 G dX0_thin_22 rfl rfl ?_
    refine z_iaload G 11 0 rfl rfl dX0_thin_23 h (fun h => ?_)
    refine z_iload G dX0_thin_24 4 rfl ?_
    refine z_iconst (v := (-1)) G dX0_thin_26 (by decide) ?_
    refine z_ixor G dX0_thin_27 ?_
    refine z_iand G dX0_thin_28 ?_
    refine z_iastore (ws' := (w_A cI cJ cZ cN ta ga ra na g_longest g_many g_layers g_length g_aheadOf g_cameFrom g_queue r_numbers r_size (upd n_narrower (ix x3) ((n_narrower (ix x3)) &&& (r1 ^^^ (-1)))) n_order n_items n_names n_owners n_moving n_all n_size n_nameCount)) G 11 0 rfl rfl rfl dX0_thin_29 h (fun h => ?_)
    refine z_iload_n G dX0_thin_30 rfl 2 rfl ?_
    refine z_iload G dX0_thin_31 4 rfl ?_
    refine z_kS (As := [.int r1]) (rest := [.int x2]) (st' := [.int (f_J6_bitCount_0f7a4 r1), .int x2]) G pk_J6_bitCount_0f7a4 ps_J6_bitCount_0f7a4 ml_X0_103 (c_J6_bitCount_0f7a4 (p0 := r1) rfl) ⟨rfl, rfl⟩ ⟨Nat.le_of_ble_eq_true rfl, Nat.le_of_ble_eq_true rfl⟩ ⟨Nat.zero_le _, Nat.zero_le _⟩ rfl rfl (Nat.le_of_ble_eq_true rfl) rfl dX0_thin_33 (fun z3 => ?_)
    refine z_iadd G dX0_thin_36 ?_
    refine z_istore_n (lv' := [(0, .ref (ta 0)), (1, .ref (na 0)), (2, .int (x2 + (f_J6_bitCount_0f7a4 r1))), (3, .int x3), (4, .int r1)]) G dX0_thin_37 rfl (by decide) [1, 2, 0, 3, 4] rfl ?_
    refine z_iinc (v := x3 + 1) (lv' := [(0, .ref (ta 0)), (1, .ref (na 0)), (2, .int (x2 + (f_J6_bitCount_0f7a4 r1))), (3, .int (x3 + 1)), (4, .int r1)]) G dX0_thin_38 3 rfl rfl (by decide) [1, 2, 3, 0, 4] rfl ?_
    refine z_goto (tgt := 4) G dX0_thin_41 (by decide) ?_
    refine z_lv [0, 1, 2, 3] rfl ?_
    exact hr4 (x2 + (f_J6_bitCount_0f7a4 r1)) (x3 + 1) (upd n_narrower (ix x3) ((n_narrower (ix x3)) &&& (r1 ^^^ (-1)))) h
noncomputable def f_X0_thin_l4 (n_order : Nat → Int32) (n_size : Int32)  (x2 : Int32) (x3 : Int32) (n_narrower : Nat → Int32) : Option (Int32 × (Nat → Int32)) := loopN (V := Int32 × Int32 × (Nat → Int32)) (fun rc v => f_X0_thin_b4 n_order n_size  (fun x0_ x1_ x2_ => rc (x0_, x1_, x2_)) v.1 v.2.1 v.2.2) 200 (x2, x3, n_narrower)
set_option maxRecDepth 100000 in
set_option maxHeartbeats 4000000 in
theorem zl_X0_thin_4 {p : Program} {l : Launch} {e : Env} {s : State} {m : MethodId} {args : Array Value} {below : List Frame} {meth : Method} {c : Code} {A : Nat → Prop} {dC : Nat → ClassId} {dI : Nat → Nat → Nat} {cI cJ cZ cN : ClassId} {ta : Nat → Nat} {ga : Nat → Nat} {ra : Nat → Nat} {na : Nat → Nat} {g_longest : Nat → Int32} {g_many : Nat → Int64} {g_layers : Nat → Int32} {g_length : Int32} {g_aheadOf : Nat → Int32} {g_cameFrom : Nat → Int32} {g_queue : Nat → Int32} {r_numbers : Nat → Int64} {r_size : Int32} {n_order : Nat → Int32} {n_items : Nat → Int64} {n_names : Nat → Int32} {n_owners : Nat → Int32} {n_moving : Nat → Int32} {n_all : Int32} {n_size : Int32} {n_nameCount : Int32}  {res : Int32 × (Nat → Int32)} (G : zG p m c cX0_thin 5 s args RX0 (dC, dI) vwCl (zT cI cJ cZ cN) A meth (some .int))  : ∀ (x2 : Int32) (x3 : Int32) (n_narrower : Nat → Int32), f_X0_thin_l4 n_order n_size  x2 x3 n_narrower = some res → Z p l e ({ frames := 3, cells := 0, slots := 0, locals := 67 }) s m args below meth c (dC, dI) vwCl A 5 0 0 (MQ below (zQ (some (.int res.1)) (True) (w_A cI cJ cZ cN ta ga ra na g_longest g_many g_layers g_length g_aheadOf g_cameFrom g_queue r_numbers r_size res.2 n_order n_items n_names n_owners n_moving n_all n_size n_nameCount) (dC, dI) vwCl A) args s 0 0 A) (w_A cI cJ cZ cN ta ga ra na g_longest g_many g_layers g_length g_aheadOf g_cameFrom g_queue r_numbers r_size n_narrower n_order n_items n_names n_owners n_moving n_all n_size n_nameCount) [(0, .ref (ta 0)), (1, .ref (na 0)), (2, .int x2), (3, .int x3)] [] 4 := by
  intro x2 x3 n_narrower h
  exact zloop (P := fun v => Z p l e ({ frames := 3, cells := 0, slots := 0, locals := 67 }) s m args below meth c (dC, dI) vwCl A 5 0 0 (MQ below (zQ (some (.int res.1)) (True) (w_A cI cJ cZ cN ta ga ra na g_longest g_many g_layers g_length g_aheadOf g_cameFrom g_queue r_numbers r_size res.2 n_order n_items n_names n_owners n_moving n_all n_size n_nameCount) (dC, dI) vwCl A) args s 0 0 A) (w_A cI cJ cZ cN ta ga ra na g_longest g_many g_layers g_length g_aheadOf g_cameFrom g_queue r_numbers r_size v.2.2 n_order n_items n_names n_owners n_moving n_all n_size n_nameCount) [(0, .ref (ta 0)), (1, .ref (na 0)), (2, .int v.1), (3, .int v.2.1)] [] 4) (fun rc hr v h => zb_X0_thin_4 G  (fun x0_ x1_ x2_ h => hr (x0_, x1_, x2_) h) v.1 v.2.1 v.2.2 h) 200 (x2, x3, n_narrower) h
noncomputable def f_X0_thin (n_narrower : Nat → Int32) (n_order : Nat → Int32) (n_size : Int32) : Option (Int32 × (Nat → Int32)) :=
  f_X0_thin_l4 n_order n_size  0 0 n_narrower
set_option maxRecDepth 100000 in
set_option maxHeartbeats 4000000 in
theorem c_X0_thin {l : Launch} {dC : Nat → ClassId} {dI : Nat → Nat → Nat} {cI cJ cZ cN : ClassId} {ta : Nat → Nat} {ga : Nat → Nat} {ra : Nat → Nat} {na : Nat → Nat} {g_longest : Nat → Int32} {g_many : Nat → Int64} {g_layers : Nat → Int32} {g_length : Int32} {g_aheadOf : Nat → Int32} {g_cameFrom : Nat → Int32} {g_queue : Nat → Int32} {r_numbers : Nat → Int64} {r_size : Int32} {n_narrower : Nat → Int32} {n_order : Nat → Int32} {n_items : Nat → Int64} {n_names : Nat → Int32} {n_owners : Nat → Int32} {n_moving : Nat → Int32} {n_all : Int32} {n_size : Int32} {n_nameCount : Int32}  {res : Int32 × (Nat → Int32)} (h : f_X0_thin n_narrower n_order n_size = some res) : zM l yX0_thin cX0_thin 5 (some .int) ({ frames := 3, cells := 0, slots := 0, locals := 67 }) [.ref (ta 0), .ref (na 0)] (dC, dI) vwCl (zT cI cJ cZ cN) (w_A cI cJ cZ cN ta ga ra na g_longest g_many g_layers g_length g_aheadOf g_cameFrom g_queue r_numbers r_size n_narrower n_order n_items n_names n_owners n_moving n_all n_size n_nameCount) (some (.int res.1)) (True) (w_A cI cJ cZ cN ta ga ra na g_longest g_many g_layers g_length g_aheadOf g_cameFrom g_queue r_numbers r_size res.2 n_order n_items n_names n_owners n_moving n_all n_size n_nameCount) := by
  refine zM_of (own := RX0) (by decide) rfl [(0, .ref (ta 0)), (1, .ref (na 0))] (Nat.le_of_ble_eq_true rfl) rfl ?_
  intro p e s m args below meth c A G _
  unfold f_X0_thin at h
  refine z_iconst (v := 0) G dX0_thin_0 (by decide) ?_
  refine z_istore_n (lv' := [(0, .ref (ta 0)), (1, .ref (na 0)), (2, .int 0)]) G dX0_thin_1 rfl (by decide) [1, 2, 0] rfl ?_
  refine z_iconst (v := 0) G dX0_thin_2 (by decide) ?_
  refine z_istore_n (lv' := [(0, .ref (ta 0)), (1, .ref (na 0)), (2, .int 0), (3, .int 0)]) G dX0_thin_3 rfl (by decide) [1, 2, 3, 0] rfl ?_
  exact zl_X0_thin_4 G  0 0 n_narrower h

noncomputable def f_X0_actOf_b154 (g_layers : Nat → Int32) (g_length : Int32) (r_numbers : Nat → Int64) (r_size : Int32) (n_narrower : Nat → Int32) (n_order : Nat → Int32) (n_items : Nat → Int64) (n_names : Nat → Int32) (n_owners : Nat → Int32) (n_moving : Nat → Int32) (n_all : Int32) (n_size : Int32) (n_nameCount : Int32) (p2 : Int32)   : Option (Int32 × (Nat → Int32) × Int32 × (Nat → Int64) × Int32 × (Nat → Int32) × (Nat → Int32) × (Nat → Int64) × (Nat → Int32) × (Nat → Int32) × (Nat → Int32) × Int32 × Int32 × Int32) :=
  (f_X0_thin n_narrower n_order n_size).bind (fun r11 => some (r11.1, g_layers, g_length, r_numbers, r_size, r11.2, n_order, n_items, n_names, n_owners, n_moving, n_all, n_size, n_nameCount))
set_option maxRecDepth 100000 in
set_option maxHeartbeats 4000000 in
theorem zb_X0_actOf_154 {p : Program} {l : Launch} {e : Env} {s : State} {m : MethodId} {args : Array Value} {below : List Frame} {meth : Method} {c : Code} {A : Nat → Prop} {dC : Nat → ClassId} {dI : Nat → Nat → Nat} {cI cJ cZ cN : ClassId} {ta : Nat → Nat} {ga : Nat → Nat} {ra : Nat → Nat} {na : Nat → Nat} {g_longest : Nat → Int32} {g_many : Nat → Int64} {g_layers : Nat → Int32} {g_length : Int32} {g_aheadOf : Nat → Int32} {g_cameFrom : Nat → Int32} {g_queue : Nat → Int32} {r_numbers : Nat → Int64} {r_size : Int32} {n_narrower : Nat → Int32} {n_order : Nat → Int32} {n_items : Nat → Int64} {n_names : Nat → Int32} {n_owners : Nat → Int32} {n_moving : Nat → Int32} {n_all : Int32} {n_size : Int32} {n_nameCount : Int32} {p2 : Int32} {res : Int32 × (Nat → Int32) × Int32 × (Nat → Int64) × Int32 × (Nat → Int32) × (Nat → Int32) × (Nat → Int64) × (Nat → Int32) × (Nat → Int32) × (Nat → Int32) × Int32 × Int32 × Int32} (G : zG p m c cX0_actOf 4 s args RX0 (dC, dI) vwCl (zT cI cJ cZ cN) A meth (some .int))  : f_X0_actOf_b154 g_layers g_length r_numbers r_size n_narrower n_order n_items n_names n_owners n_moving n_all n_size n_nameCount p2   = some res → Z p l e ({ frames := 5, cells := 0, slots := 0, locals := 128 }) s m args below meth c (dC, dI) vwCl A 4 0 0 (MQ below (zQ (some (.int res.1)) (True) (w_A cI cJ cZ cN ta ga ra na g_longest g_many res.2.1 res.2.2.1 g_aheadOf g_cameFrom g_queue res.2.2.2.1 res.2.2.2.2.1 res.2.2.2.2.2.1 res.2.2.2.2.2.2.1 res.2.2.2.2.2.2.2.1 res.2.2.2.2.2.2.2.2.1 res.2.2.2.2.2.2.2.2.2.1 res.2.2.2.2.2.2.2.2.2.2.1 res.2.2.2.2.2.2.2.2.2.2.2.1 res.2.2.2.2.2.2.2.2.2.2.2.2.1 res.2.2.2.2.2.2.2.2.2.2.2.2.2) (dC, dI) vwCl A) args s 0 0 A) (w_A cI cJ cZ cN ta ga ra na g_longest g_many g_layers g_length g_aheadOf g_cameFrom g_queue r_numbers r_size n_narrower n_order n_items n_names n_owners n_moving n_all n_size n_nameCount) [(0, .ref (ta 0)), (1, .ref (na 0)), (2, .int p2)] [] 154 := by
  intro  h
  unfold f_X0_actOf_b154 at h
  refine z_aload_n G dX0_actOf_154 rfl 0 rfl ?_
  refine z_aload_n G dX0_actOf_155 rfl 1 rfl ?_
  obtain ⟨r11, e11, h⟩ := obind h
  refine z_kV (As := [.ref (na 0)]) (rest := []) (st' := [.int r11.1]) (ws' := (w_A cI cJ cZ cN ta ga ra na g_longest g_many g_layers g_length g_aheadOf g_cameFrom g_queue r_numbers r_size r11.2 n_order n_items n_names n_owners n_moving n_all n_size n_nameCount)) G pk_X0_thin pv_X0_thin ml_X0_119 (c_X0_thin (ta := ta) (ga := ga) (ra := ra) (na := na) (g_longest := g_longest) (g_many := g_many) (g_layers := g_layers) (g_length := g_length) (g_aheadOf := g_aheadOf) (g_cameFrom := g_cameFrom) (g_queue := g_queue) (r_numbers := r_numbers) (r_size := r_size) (n_narrower := n_narrower) (n_order := n_order) (n_items := n_items) (n_names := n_names) (n_owners := n_owners) (n_moving := n_moving) (n_all := n_all) (n_size := n_size) (n_nameCount := n_nameCount) e11) ⟨rfl, rfl⟩ ⟨Nat.le_of_ble_eq_true rfl, Nat.le_of_ble_eq_true rfl⟩ ⟨Nat.zero_le _, Nat.zero_le _⟩ rfl rfl (Nat.le_of_ble_eq_true rfl) 0 0 rfl rfl rfl [0, 1, 2, 3, 4, 5, 6, 7, 8, 9, 10, 11, 12, 13, 14, 15, 16] rfl rfl [some 0, some 1, some 2, some 3, some 4, some 5, some 6, some 7, some 8, some 9, some 10, some 11, some 12, some 13, some 14, some 15, some 16] rfl rfl rfl rfl dX0_actOf_156 (fun z12 => ?_)
  obtain rfl := Option.some.inj h
  exact z_iret G rfl dX0_actOf_159 rfl trivial rfl
noncomputable def f_X0_actOf (g_layers : Nat → Int32) (g_length : Int32) (r_numbers : Nat → Int64) (r_size : Int32) (n_narrower : Nat → Int32) (n_order : Nat → Int32) (n_items : Nat → Int64) (n_names : Nat → Int32) (n_owners : Nat → Int32) (n_moving : Nat → Int32) (n_all : Int32) (n_size : Int32) (n_nameCount : Int32) (p2 : Int32) : Option (Int32 × (Nat → Int32) × Int32 × (Nat → Int64) × Int32 × (Nat → Int32) × (Nat → Int32) × (Nat → Int64) × (Nat → Int32) × (Nat → Int32) × (Nat → Int32) × Int32 × Int32 × Int32) :=
  if (p2 / 10000) = 103 then (f_X0_leave n_narrower n_order n_items n_names n_owners n_moving n_all n_size n_nameCount ((jrem p2 10000) / 10) (jrem (jrem p2 10000) 10)).bind (fun r1 => some (r1.1, g_layers, g_length, r_numbers, r_size, r1.2.1, r1.2.2.1, r1.2.2.2.1, r1.2.2.2.2.1, r1.2.2.2.2.2.1, r1.2.2.2.2.2.2.1, r1.2.2.2.2.2.2.2.1, r1.2.2.2.2.2.2.2.2.1, r1.2.2.2.2.2.2.2.2.2)) else (if (p2 / 10000) = 104 then f_X0_actOf_b154 g_layers g_length r_numbers r_size n_narrower n_order n_items n_names n_owners n_moving n_all n_size n_nameCount p2   else (if (p2 / 10000) = 105 then f_X0_actOf_b154 g_layers g_length r_numbers r_size n_narrower n_order n_items n_names n_owners n_moving n_all n_size n_nameCount p2   else (if (p2 / 10000) = 106 then f_X0_actOf_b154 g_layers g_length r_numbers r_size n_narrower n_order n_items n_names n_owners n_moving n_all n_size n_nameCount p2   else (if (p2 / 10000) = 107 then f_X0_actOf_b154 g_layers g_length r_numbers r_size n_narrower n_order n_items n_names n_owners n_moving n_all n_size n_nameCount p2   else (if (p2 / 10000) = 108 then (f_X0_link g_layers g_length r_numbers r_size n_narrower n_order n_moving n_all n_size ((jrem p2 10000) / 100) (jrem (jrem p2 10000) 100)).bind (fun r3 => some (r3.1, r3.2.1, r3.2.2.1, r3.2.2.2.1, r3.2.2.2.2.1, r3.2.2.2.2.2.1, r3.2.2.2.2.2.2.1, n_items, n_names, n_owners, r3.2.2.2.2.2.2.2, n_all, n_size, n_nameCount)) else (if (p2 / 10000) = 109 then (f_X0_merge g_layers g_length r_numbers r_size n_narrower n_order n_items n_names n_owners n_moving n_all n_size n_nameCount ((jrem p2 10000) / 100) (jrem (jrem p2 10000) 100)).bind (fun r5 => some (r5.1, r5.2.1, r5.2.2.1, r5.2.2.2.1, r5.2.2.2.2.1, r5.2.2.2.2.2.1, r5.2.2.2.2.2.2.1, r5.2.2.2.2.2.2.2.1, r5.2.2.2.2.2.2.2.2.1, r5.2.2.2.2.2.2.2.2.2.1, r5.2.2.2.2.2.2.2.2.2.2.1, r5.2.2.2.2.2.2.2.2.2.2.2.1, r5.2.2.2.2.2.2.2.2.2.2.2.2.1, r5.2.2.2.2.2.2.2.2.2.2.2.2.2)) else (if (p2 / 10000) = 110 then f_X0_actOf_b154 g_layers g_length r_numbers r_size n_narrower n_order n_items n_names n_owners n_moving n_all n_size n_nameCount p2   else (if (p2 / 10000) = 111 then f_X0_actOf_b154 g_layers g_length r_numbers r_size n_narrower n_order n_items n_names n_owners n_moving n_all n_size n_nameCount p2   else (if (p2 / 10000) = 112 then (f_X0_post n_items n_all ((jrem p2 10000) / 100) (jrem (jrem p2 10000) 100)).bind (fun r7 => some (r7.1, g_layers, g_length, r_numbers, r_size, n_narrower, n_order, r7.2, n_names, n_owners, n_moving, n_all, n_size, n_nameCount)) else (if (p2 / 10000) = 113 then f_X0_actOf_b154 g_layers g_length r_numbers r_size n_narrower n_order n_items n_names n_owners n_moving n_all n_size n_nameCount p2   else (if (p2 / 10000) = 114 then f_X0_actOf_b154 g_layers g_length r_numbers r_size n_narrower n_order n_items n_names n_owners n_moving n_all n_size n_nameCount p2   else (if (p2 / 10000) = 115 then f_X0_actOf_b154 g_layers g_length r_numbers r_size n_narrower n_order n_items n_names n_owners n_moving n_all n_size n_nameCount p2   else (if (p2 / 10000) = 116 then f_X0_actOf_b154 g_layers g_length r_numbers r_size n_narrower n_order n_items n_names n_owners n_moving n_all n_size n_nameCount p2   else (if (p2 / 10000) = 117 then (f_X0_unlink n_narrower n_all ((jrem p2 10000) / 100) (jrem (jrem p2 10000) 100)).bind (fun r9 => some (r9.1, g_layers, g_length, r_numbers, r_size, r9.2, n_order, n_items, n_names, n_owners, n_moving, n_all, n_size, n_nameCount)) else (f_X0_actOf_b154 g_layers g_length r_numbers r_size n_narrower n_order n_items n_names n_owners n_moving n_all n_size n_nameCount p2  )))))))))))))))
set_option maxRecDepth 100000 in
set_option maxHeartbeats 4000000 in
theorem c_X0_actOf {l : Launch} {dC : Nat → ClassId} {dI : Nat → Nat → Nat} {cI cJ cZ cN : ClassId} {ta : Nat → Nat} {ga : Nat → Nat} {ra : Nat → Nat} {na : Nat → Nat} {g_longest : Nat → Int32} {g_many : Nat → Int64} {g_layers : Nat → Int32} {g_length : Int32} {g_aheadOf : Nat → Int32} {g_cameFrom : Nat → Int32} {g_queue : Nat → Int32} {r_numbers : Nat → Int64} {r_size : Int32} {n_narrower : Nat → Int32} {n_order : Nat → Int32} {n_items : Nat → Int64} {n_names : Nat → Int32} {n_owners : Nat → Int32} {n_moving : Nat → Int32} {n_all : Int32} {n_size : Int32} {n_nameCount : Int32} {p2 : Int32} {res : Int32 × (Nat → Int32) × Int32 × (Nat → Int64) × Int32 × (Nat → Int32) × (Nat → Int32) × (Nat → Int64) × (Nat → Int32) × (Nat → Int32) × (Nat → Int32) × Int32 × Int32 × Int32} (h : f_X0_actOf g_layers g_length r_numbers r_size n_narrower n_order n_items n_names n_owners n_moving n_all n_size n_nameCount p2 = some res) : zM l yX0_actOf cX0_actOf 4 (some .int) ({ frames := 5, cells := 0, slots := 0, locals := 128 }) [.ref (ta 0), .ref (na 0), .int p2] (dC, dI) vwCl (zT cI cJ cZ cN) (w_A cI cJ cZ cN ta ga ra na g_longest g_many g_layers g_length g_aheadOf g_cameFrom g_queue r_numbers r_size n_narrower n_order n_items n_names n_owners n_moving n_all n_size n_nameCount) (some (.int res.1)) (True) (w_A cI cJ cZ cN ta ga ra na g_longest g_many res.2.1 res.2.2.1 g_aheadOf g_cameFrom g_queue res.2.2.2.1 res.2.2.2.2.1 res.2.2.2.2.2.1 res.2.2.2.2.2.2.1 res.2.2.2.2.2.2.2.1 res.2.2.2.2.2.2.2.2.1 res.2.2.2.2.2.2.2.2.2.1 res.2.2.2.2.2.2.2.2.2.2.1 res.2.2.2.2.2.2.2.2.2.2.2.1 res.2.2.2.2.2.2.2.2.2.2.2.2.1 res.2.2.2.2.2.2.2.2.2.2.2.2.2) := by
  refine zM_of (own := RX0) (by decide) rfl [(0, .ref (ta 0)), (1, .ref (na 0)), (2, .int p2)] (Nat.le_of_ble_eq_true rfl) rfl ?_
  intro p e s m args below meth c A G _
  unfold f_X0_actOf at h
  refine z_iload_n G dX0_actOf_0 rfl 2 rfl ?_
  refine z_sipush (v := 10000) G dX0_actOf_1 (by decide) ?_
  refine z_irem G dX0_actOf_4 (by decide) ?_
  refine z_istore_n (lv' := [(0, .ref (ta 0)), (1, .ref (na 0)), (2, .int p2), (3, .int (jrem p2 10000))]) G dX0_actOf_5 rfl (by decide) [1, 2, 3, 0] rfl ?_
  refine z_iload_n G dX0_actOf_6 rfl 2 rfl ?_
  refine z_sipush (v := 10000) G dX0_actOf_7 (by decide) ?_
  refine z_idiv G dX0_actOf_10 (by decide) ?_
  refine z_ite (P := (p2 / 10000) = 103) h (fun q11_0 h => ?_) (fun q11_0 h => ?_)
  · refine z_tin (tgt := 126) G dX0_actOf_11 (by rw [q11_0]; decide) (by rw [q11_0]; decide) (off := 115) (by rw [q11_0]; decide) (by decide) ?_
    refine z_aload_n G dX0_actOf_126 rfl 0 rfl ?_
    refine z_aload_n G dX0_actOf_127 rfl 1 rfl ?_
    refine z_iload_n G dX0_actOf_128 rfl 3 rfl ?_
    refine z_bipush (v := 10) G dX0_actOf_129 (by decide) ?_
    refine z_idiv G dX0_actOf_131 (by decide) ?_
    refine z_iload_n G dX0_actOf_132 rfl 3 rfl ?_
    refine z_bipush (v := 10) G dX0_actOf_133 (by decide) ?_
    refine z_irem G dX0_actOf_135 (by decide) ?_
    obtain ⟨r1, e1, h⟩ := obind h
    refine z_kV (As := [.ref (na 0), .int ((jrem p2 10000) / 10), .int (jrem (jrem p2 10000) 10)]) (rest := []) (st' := [.int r1.1]) (ws' := (w_A cI cJ cZ cN ta ga ra na g_longest g_many g_layers g_length g_aheadOf g_cameFrom g_queue r_numbers r_size r1.2.1 r1.2.2.1 r1.2.2.2.1 r1.2.2.2.2.1 r1.2.2.2.2.2.1 r1.2.2.2.2.2.2.1 r1.2.2.2.2.2.2.2.1 r1.2.2.2.2.2.2.2.2.1 r1.2.2.2.2.2.2.2.2.2)) G pk_X0_leave pv_X0_leave ml_X0_113 (c_X0_leave (ta := ta) (ga := ga) (ra := ra) (na := na) (g_longest := g_longest) (g_many := g_many) (g_layers := g_layers) (g_length := g_length) (g_aheadOf := g_aheadOf) (g_cameFrom := g_cameFrom) (g_queue := g_queue) (r_numbers := r_numbers) (r_size := r_size) (n_narrower := n_narrower) (n_order := n_order) (n_items := n_items) (n_names := n_names) (n_owners := n_owners) (n_moving := n_moving) (n_all := n_all) (n_size := n_size) (n_nameCount := n_nameCount) (p2 := (jrem p2 10000) / 10) (p3 := jrem (jrem p2 10000) 10) e1) ⟨rfl, rfl⟩ ⟨Nat.le_of_ble_eq_true rfl, Nat.le_of_ble_eq_true rfl⟩ ⟨Nat.zero_le _, Nat.zero_le _⟩ rfl rfl (Nat.le_of_ble_eq_true rfl) 0 0 rfl rfl rfl [0, 1, 2, 3, 4, 5, 6, 7, 8, 9, 10, 11, 12, 13, 14, 15, 16] rfl rfl [some 0, some 1, some 2, some 3, some 4, some 5, some 6, some 7, some 8, some 9, some 10, some 11, some 12, some 13, some 14, some 15, some 16] rfl rfl rfl rfl dX0_actOf_136 (fun z2 => ?_)
    obtain rfl := Option.some.inj h
    exact z_iret G rfl dX0_actOf_139 rfl trivial rfl
  · refine z_ite (P := (p2 / 10000) = 104) h (fun q11_1 h => ?_) (fun q11_1 h => ?_)
    · refine z_tin (tgt := 154) G dX0_actOf_11 (by rw [q11_1]; decide) (by rw [q11_1]; decide) (off := 143) (by rw [q11_1]; decide) (by decide) ?_
      refine z_lv [0, 1, 2] rfl ?_
      exact zb_X0_actOf_154 G   h
    · refine z_ite (P := (p2 / 10000) = 105) h (fun q11_2 h => ?_) (fun q11_2 h => ?_)
      · refine z_tin (tgt := 154) G dX0_actOf_11 (by rw [q11_2]; decide) (by rw [q11_2]; decide) (off := 143) (by rw [q11_2]; decide) (by decide) ?_
        refine z_lv [0, 1, 2] rfl ?_
        exact zb_X0_actOf_154 G   h
      · refine z_ite (P := (p2 / 10000) = 106) h (fun q11_3 h => ?_) (fun q11_3 h => ?_)
        · refine z_tin (tgt := 154) G dX0_actOf_11 (by rw [q11_3]; decide) (by rw [q11_3]; decide) (off := 143) (by rw [q11_3]; decide) (by decide) ?_
          refine z_lv [0, 1, 2] rfl ?_
          exact zb_X0_actOf_154 G   h
        · refine z_ite (P := (p2 / 10000) = 107) h (fun q11_4 h => ?_) (fun q11_4 h => ?_)
          · refine z_tin (tgt := 154) G dX0_actOf_11 (by rw [q11_4]; decide) (by rw [q11_4]; decide) (off := 143) (by rw [q11_4]; decide) (by decide) ?_
            refine z_lv [0, 1, 2] rfl ?_
            exact zb_X0_actOf_154 G   h
          · refine z_ite (P := (p2 / 10000) = 108) h (fun q11_5 h => ?_) (fun q11_5 h => ?_)
            · refine z_tin (tgt := 84) G dX0_actOf_11 (by rw [q11_5]; decide) (by rw [q11_5]; decide) (off := 73) (by rw [q11_5]; decide) (by decide) ?_
              refine z_aload_n G dX0_actOf_84 rfl 0 rfl ?_
              refine z_aload_n G dX0_actOf_85 rfl 1 rfl ?_
              refine z_iload_n G dX0_actOf_86 rfl 3 rfl ?_
              refine z_bipush (v := 100) G dX0_actOf_87 (by decide) ?_
              refine z_idiv G dX0_actOf_89 (by decide) ?_
              refine z_iload_n G dX0_actOf_90 rfl 3 rfl ?_
              refine z_bipush (v := 100) G dX0_actOf_91 (by decide) ?_
              refine z_irem G dX0_actOf_93 (by decide) ?_
              obtain ⟨r3, e3, h⟩ := obind h
              refine z_kV (As := [.ref (na 0), .int ((jrem p2 10000) / 100), .int (jrem (jrem p2 10000) 100)]) (rest := []) (st' := [.int r3.1]) (ws' := (w_A cI cJ cZ cN ta ga ra na g_longest g_many r3.2.1 r3.2.2.1 g_aheadOf g_cameFrom g_queue r3.2.2.2.1 r3.2.2.2.2.1 r3.2.2.2.2.2.1 r3.2.2.2.2.2.2.1 n_items n_names n_owners r3.2.2.2.2.2.2.2 n_all n_size n_nameCount)) G pk_X0_link pv_X0_link ml_X0_50 (c_X0_link (ta := ta) (ga := ga) (ra := ra) (na := na) (g_longest := g_longest) (g_many := g_many) (g_layers := g_layers) (g_length := g_length) (g_aheadOf := g_aheadOf) (g_cameFrom := g_cameFrom) (g_queue := g_queue) (r_numbers := r_numbers) (r_size := r_size) (n_narrower := n_narrower) (n_order := n_order) (n_items := n_items) (n_names := n_names) (n_owners := n_owners) (n_moving := n_moving) (n_all := n_all) (n_size := n_size) (n_nameCount := n_nameCount) (p2 := (jrem p2 10000) / 100) (p3 := jrem (jrem p2 10000) 100) e3) ⟨rfl, rfl⟩ ⟨Nat.le_of_ble_eq_true rfl, Nat.le_of_ble_eq_true rfl⟩ ⟨Nat.zero_le _, Nat.zero_le _⟩ rfl rfl (Nat.le_of_ble_eq_true rfl) 0 0 rfl rfl rfl [0, 1, 2, 3, 4, 5, 6, 7, 8, 9, 10, 11, 12, 13, 14, 15, 16] rfl rfl [some 0, some 1, some 2, some 3, some 4, some 5, some 6, some 7, some 8, some 9, some 10, some 11, some 12, some 13, some 14, some 15, some 16] rfl rfl rfl rfl dX0_actOf_94 (fun z4 => ?_)
              obtain rfl := Option.some.inj h
              exact z_iret G rfl dX0_actOf_97 rfl trivial rfl
            · refine z_ite (P := (p2 / 10000) = 109) h (fun q11_6 h => ?_) (fun q11_6 h => ?_)
              · refine z_tin (tgt := 112) G dX0_actOf_11 (by rw [q11_6]; decide) (by rw [q11_6]; decide) (off := 101) (by rw [q11_6]; decide) (by decide) ?_
                refine z_aload_n G dX0_actOf_112 rfl 0 rfl ?_
                refine z_aload_n G dX0_actOf_113 rfl 1 rfl ?_
                refine z_iload_n G dX0_actOf_114 rfl 3 rfl ?_
                refine z_bipush (v := 100) G dX0_actOf_115 (by decide) ?_
                refine z_idiv G dX0_actOf_117 (by decide) ?_
                refine z_iload_n G dX0_actOf_118 rfl 3 rfl ?_
                refine z_bipush (v := 100) G dX0_actOf_119 (by decide) ?_
                refine z_irem G dX0_actOf_121 (by decide) ?_
                obtain ⟨r5, e5, h⟩ := obind h
                refine z_kV (As := [.ref (na 0), .int ((jrem p2 10000) / 100), .int (jrem (jrem p2 10000) 100)]) (rest := []) (st' := [.int r5.1]) (ws' := (w_A cI cJ cZ cN ta ga ra na g_longest g_many r5.2.1 r5.2.2.1 g_aheadOf g_cameFrom g_queue r5.2.2.2.1 r5.2.2.2.2.1 r5.2.2.2.2.2.1 r5.2.2.2.2.2.2.1 r5.2.2.2.2.2.2.2.1 r5.2.2.2.2.2.2.2.2.1 r5.2.2.2.2.2.2.2.2.2.1 r5.2.2.2.2.2.2.2.2.2.2.1 r5.2.2.2.2.2.2.2.2.2.2.2.1 r5.2.2.2.2.2.2.2.2.2.2.2.2.1 r5.2.2.2.2.2.2.2.2.2.2.2.2.2)) G pk_X0_merge pv_X0_merge ml_X0_110 (c_X0_merge (ta := ta) (ga := ga) (ra := ra) (na := na) (g_longest := g_longest) (g_many := g_many) (g_layers := g_layers) (g_length := g_length) (g_aheadOf := g_aheadOf) (g_cameFrom := g_cameFrom) (g_queue := g_queue) (r_numbers := r_numbers) (r_size := r_size) (n_narrower := n_narrower) (n_order := n_order) (n_items := n_items) (n_names := n_names) (n_owners := n_owners) (n_moving := n_moving) (n_all := n_all) (n_size := n_size) (n_nameCount := n_nameCount) (p2 := (jrem p2 10000) / 100) (p3 := jrem (jrem p2 10000) 100) e5) ⟨rfl, rfl⟩ ⟨Nat.le_of_ble_eq_true rfl, Nat.le_of_ble_eq_true rfl⟩ ⟨Nat.zero_le _, Nat.zero_le _⟩ rfl rfl (Nat.le_of_ble_eq_true rfl) 0 0 rfl rfl rfl [0, 1, 2, 3, 4, 5, 6, 7, 8, 9, 10, 11, 12, 13, 14, 15, 16] rfl rfl [some 0, some 1, some 2, some 3, some 4, some 5, some 6, some 7, some 8, some 9, some 10, some 11, some 12, some 13, some 14, some 15, some 16] rfl rfl rfl rfl dX0_actOf_122 (fun z6 => ?_)
                obtain rfl := Option.some.inj h
                exact z_iret G rfl dX0_actOf_125 rfl trivial rfl
              · refine z_ite (P := (p2 / 10000) = 110) h (fun q11_7 h => ?_) (fun q11_7 h => ?_)
                · refine z_tin (tgt := 154) G dX0_actOf_11 (by rw [q11_7]; decide) (by rw [q11_7]; decide) (off := 143) (by rw [q11_7]; decide) (by decide) ?_
                  refine z_lv [0, 1, 2] rfl ?_
                  exact zb_X0_actOf_154 G   h
                · refine z_ite (P := (p2 / 10000) = 111) h (fun q11_8 h => ?_) (fun q11_8 h => ?_)
                  · refine z_tin (tgt := 154) G dX0_actOf_11 (by rw [q11_8]; decide) (by rw [q11_8]; decide) (off := 143) (by rw [q11_8]; decide) (by decide) ?_
                    refine z_lv [0, 1, 2] rfl ?_
                    exact zb_X0_actOf_154 G   h
                  · refine z_ite (P := (p2 / 10000) = 112) h (fun q11_9 h => ?_) (fun q11_9 h => ?_)
                    · refine z_tin (tgt := 140) G dX0_actOf_11 (by rw [q11_9]; decide) (by rw [q11_9]; decide) (off := 129) (by rw [q11_9]; decide) (by decide) ?_
                      refine z_aload_n G dX0_actOf_140 rfl 0 rfl ?_
                      refine z_aload_n G dX0_actOf_141 rfl 1 rfl ?_
                      refine z_iload_n G dX0_actOf_142 rfl 3 rfl ?_
                      refine z_bipush (v := 100) G dX0_actOf_143 (by decide) ?_
                      refine z_idiv G dX0_actOf_145 (by decide) ?_
                      refine z_iload_n G dX0_actOf_146 rfl 3 rfl ?_
                      refine z_bipush (v := 100) G dX0_actOf_147 (by decide) ?_
                      refine z_irem G dX0_actOf_149 (by decide) ?_
                      obtain ⟨r7, e7, h⟩ := obind h
                      refine z_kV (As := [.ref (na 0), .int ((jrem p2 10000) / 100), .int (jrem (jrem p2 10000) 100)]) (rest := []) (st' := [.int r7.1]) (ws' := (w_A cI cJ cZ cN ta ga ra na g_longest g_many g_layers g_length g_aheadOf g_cameFrom g_queue r_numbers r_size n_narrower n_order r7.2 n_names n_owners n_moving n_all n_size n_nameCount)) G pk_X0_post pv_X0_post ml_X0_116 (c_X0_post (ta := ta) (ga := ga) (ra := ra) (na := na) (g_longest := g_longest) (g_many := g_many) (g_layers := g_layers) (g_length := g_length) (g_aheadOf := g_aheadOf) (g_cameFrom := g_cameFrom) (g_queue := g_queue) (r_numbers := r_numbers) (r_size := r_size) (n_narrower := n_narrower) (n_order := n_order) (n_items := n_items) (n_names := n_names) (n_owners := n_owners) (n_moving := n_moving) (n_all := n_all) (n_size := n_size) (n_nameCount := n_nameCount) (p2 := (jrem p2 10000) / 100) (p3 := jrem (jrem p2 10000) 100) e7) ⟨rfl, rfl⟩ ⟨Nat.le_of_ble_eq_true rfl, Nat.le_of_ble_eq_true rfl⟩ ⟨Nat.zero_le _, Nat.zero_le _⟩ rfl rfl (Nat.le_of_ble_eq_true rfl) 0 0 rfl rfl rfl [0, 1, 2, 3, 4, 5, 6, 7, 8, 9, 10, 11, 12, 13, 14, 15, 16] rfl rfl [some 0, some 1, some 2, some 3, some 4, some 5, some 6, some 7, some 8, some 9, some 10, some 11, some 12, some 13, some 14, some 15, some 16] rfl rfl rfl rfl dX0_actOf_150 (fun z8 => ?_)
                      obtain rfl := Option.some.inj h
                      exact z_iret G rfl dX0_actOf_153 rfl trivial rfl
                    · refine z_ite (P := (p2 / 10000) = 113) h (fun q11_10 h => ?_) (fun q11_10 h => ?_)
                      · refine z_tin (tgt := 154) G dX0_actOf_11 (by rw [q11_10]; decide) (by rw [q11_10]; decide) (off := 143) (by rw [q11_10]; decide) (by decide) ?_
                        refine z_lv [0, 1, 2] rfl ?_
                        exact zb_X0_actOf_154 G   h
                      · refine z_ite (P := (p2 / 10000) = 114) h (fun q11_11 h => ?_) (fun q11_11 h => ?_)
                        · refine z_tin (tgt := 154) G dX0_actOf_11 (by rw [q11_11]; decide) (by rw [q11_11]; decide) (off := 143) (by rw [q11_11]; decide) (by decide) ?_
                          refine z_lv [0, 1, 2] rfl ?_
                          exact zb_X0_actOf_154 G   h
                        · refine z_ite (P := (p2 / 10000) = 115) h (fun q11_12 h => ?_) (fun q11_12 h => ?_)
                          · refine z_tin (tgt := 154) G dX0_actOf_11 (by rw [q11_12]; decide) (by rw [q11_12]; decide) (off := 143) (by rw [q11_12]; decide) (by decide) ?_
                            refine z_lv [0, 1, 2] rfl ?_
                            exact zb_X0_actOf_154 G   h
                          · refine z_ite (P := (p2 / 10000) = 116) h (fun q11_13 h => ?_) (fun q11_13 h => ?_)
                            · refine z_tin (tgt := 154) G dX0_actOf_11 (by rw [q11_13]; decide) (by rw [q11_13]; decide) (off := 143) (by rw [q11_13]; decide) (by decide) ?_
                              refine z_lv [0, 1, 2] rfl ?_
                              exact zb_X0_actOf_154 G   h
                            · refine z_ite (P := (p2 / 10000) = 117) h (fun q11_14 h => ?_) (fun q11_14 h => ?_)
                              · refine z_tin (tgt := 98) G dX0_actOf_11 (by rw [q11_14]; decide) (by rw [q11_14]; decide) (off := 87) (by rw [q11_14]; decide) (by decide) ?_
                                refine z_aload_n G dX0_actOf_98 rfl 0 rfl ?_
                                refine z_aload_n G dX0_actOf_99 rfl 1 rfl ?_
                                refine z_iload_n G dX0_actOf_100 rfl 3 rfl ?_
                                refine z_bipush (v := 100) G dX0_actOf_101 (by decide) ?_
                                refine z_idiv G dX0_actOf_103 (by decide) ?_
                                refine z_iload_n G dX0_actOf_104 rfl 3 rfl ?_
                                refine z_bipush (v := 100) G dX0_actOf_105 (by decide) ?_
                                refine z_irem G dX0_actOf_107 (by decide) ?_
                                obtain ⟨r9, e9, h⟩ := obind h
                                refine z_kV (As := [.ref (na 0), .int ((jrem p2 10000) / 100), .int (jrem (jrem p2 10000) 100)]) (rest := []) (st' := [.int r9.1]) (ws' := (w_A cI cJ cZ cN ta ga ra na g_longest g_many g_layers g_length g_aheadOf g_cameFrom g_queue r_numbers r_size r9.2 n_order n_items n_names n_owners n_moving n_all n_size n_nameCount)) G pk_X0_unlink pv_X0_unlink ml_X0_107 (c_X0_unlink (ta := ta) (ga := ga) (ra := ra) (na := na) (g_longest := g_longest) (g_many := g_many) (g_layers := g_layers) (g_length := g_length) (g_aheadOf := g_aheadOf) (g_cameFrom := g_cameFrom) (g_queue := g_queue) (r_numbers := r_numbers) (r_size := r_size) (n_narrower := n_narrower) (n_order := n_order) (n_items := n_items) (n_names := n_names) (n_owners := n_owners) (n_moving := n_moving) (n_all := n_all) (n_size := n_size) (n_nameCount := n_nameCount) (p2 := (jrem p2 10000) / 100) (p3 := jrem (jrem p2 10000) 100) e9) ⟨rfl, rfl⟩ ⟨Nat.le_of_ble_eq_true rfl, Nat.le_of_ble_eq_true rfl⟩ ⟨Nat.zero_le _, Nat.zero_le _⟩ rfl rfl (Nat.le_of_ble_eq_true rfl) 0 0 rfl rfl rfl [0, 1, 2, 3, 4, 5, 6, 7, 8, 9, 10, 11, 12, 13, 14, 15, 16] rfl rfl [some 0, some 1, some 2, some 3, some 4, some 5, some 6, some 7, some 8, some 9, some 10, some 11, some 12, some 13, some 14, some 15, some 16] rfl rfl rfl rfl dX0_actOf_108 (fun z10 => ?_)
                                obtain rfl := Option.some.inj h
                                exact z_iret G rfl dX0_actOf_111 rfl trivial rfl
                              · refine z_tout (tgt := 154) G dX0_actOf_11 (by have w0 := z_toInt (n := 103) (by decide) q11_0; have w1 := z_toInt (n := 104) (by decide) q11_1; have w2 := z_toInt (n := 105) (by decide) q11_2; have w3 := z_toInt (n := 106) (by decide) q11_3; have w4 := z_toInt (n := 107) (by decide) q11_4; have w5 := z_toInt (n := 108) (by decide) q11_5; have w6 := z_toInt (n := 109) (by decide) q11_6; have w7 := z_toInt (n := 110) (by decide) q11_7; have w8 := z_toInt (n := 111) (by decide) q11_8; have w9 := z_toInt (n := 112) (by decide) q11_9; have w10 := z_toInt (n := 113) (by decide) q11_10; have w11 := z_toInt (n := 114) (by decide) q11_11; have w12 := z_toInt (n := 115) (by decide) q11_12; have w13 := z_toInt (n := 116) (by decide) q11_13; have w14 := z_toInt (n := 117) (by decide) q11_14; omega) (by decide) ?_
                                refine z_lv [0, 1, 2] rfl ?_
                                exact zb_X0_actOf_154 G   h
