abbrev w_R (cI cJ cZ cN : ClassId) (ta : Nat → Nat) (t_numbers : Nat → Int64) (t_size : Int32) : va_W := [(ta 0, .inr (4, [.ref (ta 1), .int t_size])), (ta 1, .inl (cJ, 276, .inr (.inl t_numbers)))]
abbrev w_N (cI cJ cZ cN : ClassId) (ta : Nat → Nat) (t_narrower : Nat → Int32) (t_order : Nat → Int32) (t_items : Nat → Int64) (t_names : Nat → Int32) (t_owners : Nat → Int32) (t_moving : Nat → Int32) (t_all : Int32) (t_size : Int32) (t_nameCount : Int32) : va_W := [(ta 0, .inr (2, [.ref (ta 1), .ref (ta 2), .ref (ta 3), .ref (ta 4), .ref (ta 5), .ref (ta 6), .int t_all, .int t_size, .int t_nameCount])), (ta 1, .inl (cI, 24, .inl t_narrower)), (ta 2, .inl (cI, 24, .inl t_order)), (ta 3, .inl (cJ, 24, .inr (.inl t_items))), (ta 4, .inl (cI, 40, .inl t_names)), (ta 5, .inl (cI, 40, .inl t_owners)), (ta 6, .inl (cI, 24, .inl t_moving))]
abbrev w_NN (cI cJ cZ cN : ClassId) (ta : Nat → Nat) (oa : Nat → Nat) (t_narrower : Nat → Int32) (t_order : Nat → Int32) (t_items : Nat → Int64) (t_names : Nat → Int32) (t_owners : Nat → Int32) (t_moving : Nat → Int32) (t_all : Int32) (t_size : Int32) (t_nameCount : Int32) (o_narrower : Nat → Int32) (o_order : Nat → Int32) (o_items : Nat → Int64) (o_names : Nat → Int32) (o_owners : Nat → Int32) (o_moving : Nat → Int32) (o_all : Int32) (o_size : Int32) (o_nameCount : Int32) : va_W := [(ta 0, .inr (2, [.ref (ta 1), .ref (ta 2), .ref (ta 3), .ref (ta 4), .ref (ta 5), .ref (ta 6), .int t_all, .int t_size, .int t_nameCount])), (ta 1, .inl (cI, 24, .inl t_narrower)), (ta 2, .inl (cI, 24, .inl t_order)), (ta 3, .inl (cJ, 24, .inr (.inl t_items))), (ta 4, .inl (cI, 40, .inl t_names)), (ta 5, .inl (cI, 40, .inl t_owners)), (ta 6, .inl (cI, 24, .inl t_moving)), (oa 0, .inr (2, [.ref (oa 1), .ref (oa 2), .ref (oa 3), .ref (oa 4), .ref (oa 5), .ref (oa 6), .int o_all, .int o_size, .int o_nameCount])), (oa 1, .inl (cI, 24, .inl o_narrower)), (oa 2, .inl (cI, 24, .inl o_order)), (oa 3, .inl (cJ, 24, .inr (.inl o_items))), (oa 4, .inl (cI, 40, .inl o_names)), (oa 5, .inl (cI, 40, .inl o_owners)), (oa 6, .inl (cI, 24, .inl o_moving))]
abbrev w_X (cI cJ cZ cN : ClassId) (ta : Nat → Nat) (t_words : Nat → Int32) (t_wordCount : Int32) (t_size : Int32) (t_signs : Nat → Int32) (t_next : Int32) : va_W := [(ta 0, .inr (5, [.ref (ta 1), .int t_wordCount, .int t_size, .ref (ta 2), .int t_next])), (ta 1, .inl (cI, 80, .inl t_words)), (ta 2, .inl (cI, 80, .inl t_signs))]
abbrev w_XN (cI cJ cZ cN : ClassId) (ta : Nat → Nat) (na : Nat → Nat) (t_words : Nat → Int32) (t_wordCount : Int32) (t_size : Int32) (t_signs : Nat → Int32) (t_next : Int32) (n_narrower : Nat → Int32) (n_order : Nat → Int32) (n_items : Nat → Int64) (n_names : Nat → Int32) (n_owners : Nat → Int32) (n_moving : Nat → Int32) (n_all : Int32) (n_size : Int32) (n_nameCount : Int32) : va_W := [(ta 0, .inr (5, [.ref (ta 1), .int t_wordCount, .int t_size, .ref (ta 2), .int t_next])), (ta 1, .inl (cI, 80, .inl t_words)), (ta 2, .inl (cI, 80, .inl t_signs)), (na 0, .inr (2, [.ref (na 1), .ref (na 2), .ref (na 3), .ref (na 4), .ref (na 5), .ref (na 6), .int n_all, .int n_size, .int n_nameCount])), (na 1, .inl (cI, 24, .inl n_narrower)), (na 2, .inl (cI, 24, .inl n_order)), (na 3, .inl (cJ, 24, .inr (.inl n_items))), (na 4, .inl (cI, 40, .inl n_names)), (na 5, .inl (cI, 40, .inl n_owners)), (na 6, .inl (cI, 24, .inl n_moving))]
abbrev w_G (cI cJ cZ cN : ClassId) (ta : Nat → Nat) (t_longest : Nat → Int32) (t_many : Nat → Int64) (t_layers : Nat → Int32) (t_length : Int32) (t_aheadOf : Nat → Int32) (t_cameFrom : Nat → Int32) (t_queue : Nat → Int32) : va_W := [(ta 0, .inr (1, [.ref (ta 1), .ref (ta 2), .ref (ta 3), .int t_length, .ref (ta 4), .ref (ta 5), .ref (ta 6)])), (ta 1, .inl (cI, 24, .inl t_longest)), (ta 2, .inl (cJ, 24, .inr (.inl t_many))), (ta 3, .inl (cI, 24, .inl t_layers)), (ta 4, .inl (cI, 24, .inl t_aheadOf)), (ta 5, .inl (cI, 24, .inl t_cameFrom)), (ta 6, .inl (cI, 24, .inl t_queue))]
abbrev w_GN (cI cJ cZ cN : ClassId) (ta : Nat → Nat) (na : Nat → Nat) (t_longest : Nat → Int32) (t_many : Nat → Int64) (t_layers : Nat → Int32) (t_length : Int32) (t_aheadOf : Nat → Int32) (t_cameFrom : Nat → Int32) (t_queue : Nat → Int32) (n_narrower : Nat → Int32) (n_order : Nat → Int32) (n_items : Nat → Int64) (n_names : Nat → Int32) (n_owners : Nat → Int32) (n_moving : Nat → Int32) (n_all : Int32) (n_size : Int32) (n_nameCount : Int32) : va_W := [(ta 0, .inr (1, [.ref (ta 1), .ref (ta 2), .ref (ta 3), .int t_length, .ref (ta 4), .ref (ta 5), .ref (ta 6)])), (ta 1, .inl (cI, 24, .inl t_longest)), (ta 2, .inl (cJ, 24, .inr (.inl t_many))), (ta 3, .inl (cI, 24, .inl t_layers)), (ta 4, .inl (cI, 24, .inl t_aheadOf)), (ta 5, .inl (cI, 24, .inl t_cameFrom)), (ta 6, .inl (cI, 24, .inl t_queue)), (na 0, .inr (2, [.ref (na 1), .ref (na 2), .ref (na 3), .ref (na 4), .ref (na 5), .ref (na 6), .int n_all, .int n_size, .int n_nameCount])), (na 1, .inl (cI, 24, .inl n_narrower)), (na 2, .inl (cI, 24, .inl n_order)), (na 3, .inl (cJ, 24, .inr (.inl n_items))), (na 4, .inl (cI, 40, .inl n_names)), (na 5, .inl (cI, 40, .inl n_owners)), (na 6, .inl (cI, 24, .inl n_moving))]
abbrev w_GNR (cI cJ cZ cN : ClassId) (ta : Nat → Nat) (na : Nat → Nat) (ra : Nat → Nat) (t_longest : Nat → Int32) (t_many : Nat → Int64) (t_layers : Nat → Int32) (t_length : Int32) (t_aheadOf : Nat → Int32) (t_cameFrom : Nat → Int32) (t_queue : Nat → Int32) (n_narrower : Nat → Int32) (n_order : Nat → Int32) (n_items : Nat → Int64) (n_names : Nat → Int32) (n_owners : Nat → Int32) (n_moving : Nat → Int32) (n_all : Int32) (n_size : Int32) (n_nameCount : Int32) (r_numbers : Nat → Int64) (r_size : Int32) : va_W := [(ta 0, .inr (1, [.ref (ta 1), .ref (ta 2), .ref (ta 3), .int t_length, .ref (ta 4), .ref (ta 5), .ref (ta 6)])), (ta 1, .inl (cI, 24, .inl t_longest)), (ta 2, .inl (cJ, 24, .inr (.inl t_many))), (ta 3, .inl (cI, 24, .inl t_layers)), (ta 4, .inl (cI, 24, .inl t_aheadOf)), (ta 5, .inl (cI, 24, .inl t_cameFrom)), (ta 6, .inl (cI, 24, .inl t_queue)), (na 0, .inr (2, [.ref (na 1), .ref (na 2), .ref (na 3), .ref (na 4), .ref (na 5), .ref (na 6), .int n_all, .int n_size, .int n_nameCount])), (na 1, .inl (cI, 24, .inl n_narrower)), (na 2, .inl (cI, 24, .inl n_order)), (na 3, .inl (cJ, 24, .inr (.inl n_items))), (na 4, .inl (cI, 40, .inl n_names)), (na 5, .inl (cI, 40, .inl n_owners)), (na 6, .inl (cI, 24, .inl n_moving)), (ra 0, .inr (4, [.ref (ra 1), .int r_size])), (ra 1, .inl (cJ, 276, .inr (.inl r_numbers)))]
abbrev w_A (cI cJ cZ cN : ClassId) (ta : Nat → Nat) (ga : Nat → Nat) (ra : Nat → Nat) (na : Nat → Nat) (g_longest : Nat → Int32) (g_many : Nat → Int64) (g_layers : Nat → Int32) (g_length : Int32) (g_aheadOf : Nat → Int32) (g_cameFrom : Nat → Int32) (g_queue : Nat → Int32) (r_numbers : Nat → Int64) (r_size : Int32) (n_narrower : Nat → Int32) (n_order : Nat → Int32) (n_items : Nat → Int64) (n_names : Nat → Int32) (n_owners : Nat → Int32) (n_moving : Nat → Int32) (n_all : Int32) (n_size : Int32) (n_nameCount : Int32) : va_W := [(ta 0, .inr (0, [.ref (ga 0), .ref (ra 0)])), (ga 0, .inr (1, [.ref (ga 1), .ref (ga 2), .ref (ga 3), .int g_length, .ref (ga 4), .ref (ga 5), .ref (ga 6)])), (ga 1, .inl (cI, 24, .inl g_longest)), (ga 2, .inl (cJ, 24, .inr (.inl g_many))), (ga 3, .inl (cI, 24, .inl g_layers)), (ga 4, .inl (cI, 24, .inl g_aheadOf)), (ga 5, .inl (cI, 24, .inl g_cameFrom)), (ga 6, .inl (cI, 24, .inl g_queue)), (ra 0, .inr (4, [.ref (ra 1), .int r_size])), (ra 1, .inl (cJ, 276, .inr (.inl r_numbers))), (na 0, .inr (2, [.ref (na 1), .ref (na 2), .ref (na 3), .ref (na 4), .ref (na 5), .ref (na 6), .int n_all, .int n_size, .int n_nameCount])), (na 1, .inl (cI, 24, .inl n_narrower)), (na 2, .inl (cI, 24, .inl n_order)), (na 3, .inl (cJ, 24, .inr (.inl n_items))), (na 4, .inl (cI, 40, .inl n_names)), (na 5, .inl (cI, 40, .inl n_owners)), (na 6, .inl (cI, 24, .inl n_moving))]
abbrev w_M (cI cJ cZ cN : ClassId) (ta : Nat → Nat) (t_thrown : Int32) (t_told : Int32) (t_row : Nat → Int64) (t_tape : Nat → Int32) (t_taped : Int32) (t_at : Int32) (t_to : Int32) (t_mem : Nat → Int32) (t_undos : Int32) (t_places : Nat → Int32) (t_movers : Nat → Int32) (t_far : Nat → Int32) (t_way : Nat → Int32) (t_wayMany : Int32) (t_fromOf : Nat → Int32) (t_toOf : Nat → Int32) (t_longest : Nat → Int32) (t_wayCount : Nat → Int64) (t_thin : Nat → Int32) (t_ahead : Nat → Int32) (t_tried : Int32) (t_foundLow : Int32) (t_foundHigh : Int32) (t_nextLow : Int32) (t_nextHigh : Int32) (t_act : Nat → Int32) (t_first : Nat → Int32) (t_second : Nat → Int32) (t_random : Int32) (t_isKept : Nat → Int32) : va_W := [(ta 0, .inr (7, [.int t_thrown, .int t_told, .ref (ta 1), .ref (ta 2), .int t_taped, .int t_at, .int t_to, .ref (ta 3), .int t_undos, .ref (ta 4), .ref (ta 5), .ref (ta 6), .ref (ta 7), .int t_wayMany, .ref (ta 8), .ref (ta 9), .ref (ta 10), .ref (ta 11), .ref (ta 12), .ref (ta 13), .int t_tried, .int t_foundLow, .int t_foundHigh, .int t_nextLow, .int t_nextHigh, .ref (ta 14), .ref (ta 15), .ref (ta 16), .int t_random, .ref (ta 17)])), (ta 1, .inl (cJ, 300, .inr (.inl t_row))), (ta 2, .inl (cI, 80, .inl t_tape)), (ta 3, .inl (cI, 2327, .inl t_mem)), (ta 4, .inl (cI, 24, .inl t_places)), (ta 5, .inl (cI, 24, .inl t_movers)), (ta 6, .inl (cI, 24, .inl t_far)), (ta 7, .inl (cI, 24, .inl t_way)), (ta 8, .inl (cI, 40, .inl t_fromOf)), (ta 9, .inl (cI, 40, .inl t_toOf)), (ta 10, .inl (cI, 24, .inl t_longest)), (ta 11, .inl (cJ, 24, .inr (.inl t_wayCount))), (ta 12, .inl (cI, 24, .inl t_thin)), (ta 13, .inl (cI, 24, .inl t_ahead)), (ta 14, .inl (cI, 80, .inl t_act)), (ta 15, .inl (cI, 80, .inl t_first)), (ta 16, .inl (cI, 80, .inl t_second)), (ta 17, .inl (cZ, 2, .inl t_isKept))]
noncomputable def fo_X6_holds (p0 : Int32) (p1 : Int32) : Option (Int32) :=
  if ((jshr p0 p1) &&& 1) = 0 then some (0) else some (1)
set_option maxRecDepth 100000 in
set_option maxHeartbeats 4000000 in
theorem co_X6_holds {l : Launch} {dC : Nat → ClassId} {dI : Nat → Nat → Nat} {cI cJ cZ cN : ClassId}   {p0 : Int32} {p1 : Int32} {res : Int32} (h : fo_X6_holds p0 p1 = some res) : zM l yX6_holds cX6_holds 2 (some .boolean) ({ frames := 0, cells := 0, slots := 0, locals := 0 }) [.int p0, .int p1] (dC, dI) vwCl (zT cI cJ cZ cN) [] (some (.int res)) (narrow .boolean (.int res) = .int res) [] := by
  refine zM_of (own := RX6) (by decide) rfl [(0, .int p0), (1, .int p1)] (Nat.le_of_ble_eq_true rfl) rfl ?_
  intro p e s m args below meth c A G _
  unfold fo_X6_holds at h
  refine z_iload_n G dX6_holds_0 rfl 0 rfl ?_
  refine z_iload_n G dX6_holds_1 rfl 1 rfl ?_
  refine z_ishr G dX6_holds_2 ?_
  refine z_iconst (v := 1) G dX6_holds_3 (by decide) ?_
  refine z_iand G dX6_holds_4 ?_
  refine z_if_eq (tgt := 12) G dX6_holds_5 (by decide) h (fun h => ?_) (fun h => ?_)
  · refine z_iconst (v := 0) G dX6_holds_12 (by decide) ?_
    obtain rfl := Option.some.inj h
    exact z_zret G rfl zn0 dX6_holds_13 rfl zn0 rfl
  · refine z_iconst (v := 1) G dX6_holds_8 (by decide) ?_
    refine z_goto (tgt := 13) G dX6_holds_9 (by decide) ?_
    obtain rfl := Option.some.inj h
    exact z_zret G rfl zn1 dX6_holds_13 rfl zn1 rfl
noncomputable def f_X6_holds (p0 : Int32) (p1 : Int32) : Int32 :=
  if ((jshr p0 p1) &&& 1) = 0 then (0) else (1)
theorem fo_X6_holds_eq (p0 : Int32) (p1 : Int32) : fo_X6_holds p0 p1 = some (f_X6_holds p0 p1) := by
  unfold fo_X6_holds f_X6_holds
  first | rfl | ((repeat' split) <;> rfl) | (simp only [apply_ite Option.some])
theorem c_X6_holds {l : Launch} {dC : Nat → ClassId} {dI : Nat → Nat → Nat} {cI cJ cZ cN : ClassId}   {p0 : Int32} {p1 : Int32} (_ : True = True) : zM l yX6_holds cX6_holds 2 (some .boolean) ({ frames := 0, cells := 0, slots := 0, locals := 0 }) [.int p0, .int p1] (dC, dI) vwCl (zT cI cJ cZ cN) [] (some (.int (f_X6_holds p0 p1))) (narrow .boolean (.int (f_X6_holds p0 p1)) = .int (f_X6_holds p0 p1)) [] := co_X6_holds (fo_X6_holds_eq _ _)

noncomputable def fo_X4_clear (t_size : Int32) : Option (Int32) :=
  some (0)
set_option maxRecDepth 100000 in
set_option maxHeartbeats 4000000 in
theorem co_X4_clear {l : Launch} {dC : Nat → ClassId} {dI : Nat → Nat → Nat} {cI cJ cZ cN : ClassId} {ta : Nat → Nat} {t_numbers : Nat → Int64} {t_size : Int32}  {res : Int32} (h : fo_X4_clear t_size = some res) : zM l yX4_clear cX4_clear 1 none ({ frames := 0, cells := 0, slots := 0, locals := 0 }) [.ref (ta 0)] (dC, dI) vwCl (zT cI cJ cZ cN) (w_R cI cJ cZ cN ta t_numbers t_size) (none) (True) (w_R cI cJ cZ cN ta t_numbers res) := by
  refine zM_of (own := RX4) (by decide) rfl [(0, .ref (ta 0))] (Nat.le_of_ble_eq_true rfl) rfl ?_
  intro p e s m args below meth c A G _
  unfold fo_X4_clear at h
  refine z_aload_n G dX4_clear_0 rfl 0 rfl ?_
  refine z_iconst (v := 0) G dX4_clear_1 (by decide) ?_
  refine z_put (ci := 4) (ws' := (w_R cI cJ cZ cN ta t_numbers 0)) G in_X4 tyX4 tyX4_ok nmX4 0 rfl rfl 1 (by decide) fl_X4_15 rfl rfl rfl (Nat.le_of_ble_eq_true rfl) rfl dX4_clear_2 ?_
  obtain rfl := Option.some.inj h
  exact z_vret G rfl dX4_clear_5 rfl trivial rfl
noncomputable def f_X4_clear (t_size : Int32) : Int32 :=
  (0)
theorem fo_X4_clear_eq (t_size : Int32) : fo_X4_clear t_size = some (f_X4_clear t_size) := by
  unfold fo_X4_clear f_X4_clear
  first | rfl | ((repeat' split) <;> rfl) | (simp only [apply_ite Option.some])
theorem c_X4_clear {l : Launch} {dC : Nat → ClassId} {dI : Nat → Nat → Nat} {cI cJ cZ cN : ClassId} {ta : Nat → Nat} {t_numbers : Nat → Int64} {t_size : Int32}  (_ : True = True) : zM l yX4_clear cX4_clear 1 none ({ frames := 0, cells := 0, slots := 0, locals := 0 }) [.ref (ta 0)] (dC, dI) vwCl (zT cI cJ cZ cN) (w_R cI cJ cZ cN ta t_numbers t_size) (none) (True) (w_R cI cJ cZ cN ta t_numbers (f_X4_clear t_size)) := co_X4_clear (fo_X4_clear_eq _)

noncomputable def f_X4_add (t_numbers : Nat → Int64) (t_size : Int32) (p1 : Int64) : Option ((Nat → Int64) × Int32) :=
  if 276 ≤ t_size then some (t_numbers, t_size) else chk (inb t_size 276) (some (vp_updL t_numbers (ix t_size) p1, t_size + 1))
set_option maxRecDepth 100000 in
set_option maxHeartbeats 4000000 in
theorem c_X4_add {l : Launch} {dC : Nat → ClassId} {dI : Nat → Nat → Nat} {cI cJ cZ cN : ClassId} {ta : Nat → Nat} {t_numbers : Nat → Int64} {t_size : Int32} {p1 : Int64} {res : (Nat → Int64) × Int32} (h : f_X4_add t_numbers t_size p1 = some res) : zM l yX4_add cX4_add 3 none ({ frames := 0, cells := 0, slots := 0, locals := 0 }) [.ref (ta 0), .long p1] (dC, dI) vwCl (zT cI cJ cZ cN) (w_R cI cJ cZ cN ta t_numbers t_size) (none) (True) (w_R cI cJ cZ cN ta res.1 res.2) := by
  refine zM_of (own := RX4) (by decide) rfl [(0, .ref (ta 0)), (1, .long p1)] (Nat.le_of_ble_eq_true rfl) rfl ?_
  intro p e s m args below meth c A G _
  unfold f_X4_add at h
  refine z_aload_n G dX4_add_0 rfl 0 rfl ?_
  refine z_get (ci := 4) (v := .int t_size) G in_X4 0 rfl rfl 1 (by decide) fl_X4_15 rfl dX4_add_1 ?_
  refine z_sipush (v := 276) G dX4_add_4 (by decide) ?_
  refine z_icmp_ge (tgt := 30) G dX4_add_7 (by decide) h (fun h => ?_) (fun h => ?_)
  · obtain rfl := Option.some.inj h
    exact z_vret G rfl dX4_add_30 rfl trivial rfl
  · refine z_aload_n G dX4_add_10 rfl 0 rfl ?_
    refine z_get (ci := 4) (v := .ref (ta 1)) G in_X4 0 rfl rfl 0 (by decide) fl_X4_9 rfl dX4_add_11 ?_
    refine z_aload_n G dX4_add_14 rfl 0 rfl ?_
    refine z_get (ci := 4) (v := .int t_size) G in_X4 0 rfl rfl 1 (by decide) fl_X4_15 rfl dX4_add_15 ?_
    refine z_lload_n G dX4_add_18 rfl 1 rfl ?_
    refine z_lastore (ws' := (w_R cI cJ cZ cN ta (vp_updL t_numbers (ix t_size) p1) t_size)) G 1 1 rfl rfl rfl dX4_add_19 h (fun h => ?_)
    refine z_aload_n G dX4_add_20 rfl 0 rfl ?_
    refine z_dup G dX4_add_21 rfl ?_
    refine z_get (ci := 4) (v := .int t_size) G in_X4 0 rfl rfl 1 (by decide) fl_X4_15 rfl dX4_add_22 ?_
    refine z_iconst (v := 1) G dX4_add_25 (by decide) ?_
    refine z_iadd G dX4_add_26 ?_
    refine z_put (ci := 4) (ws' := (w_R cI cJ cZ cN ta (vp_updL t_numbers (ix t_size) p1) (t_size + 1))) G in_X4 tyX4 tyX4_ok nmX4 0 rfl rfl 1 (by decide) fl_X4_15 rfl rfl rfl (Nat.le_of_ble_eq_true rfl) rfl dX4_add_27 ?_
    obtain rfl := Option.some.inj h
    exact z_vret G rfl dX4_add_30 rfl trivial rfl

noncomputable def f_X4_tell (t_numbers : Nat → Int64) (t_size : Int32) (p1 : Int64) : Option ((Nat → Int64) × Int32) :=
  (f_X4_add t_numbers (f_X4_clear t_size) p1).bind (fun r2 => some (r2.1, r2.2))
set_option maxRecDepth 100000 in
set_option maxHeartbeats 4000000 in
theorem c_X4_tell {l : Launch} {dC : Nat → ClassId} {dI : Nat → Nat → Nat} {cI cJ cZ cN : ClassId} {ta : Nat → Nat} {t_numbers : Nat → Int64} {t_size : Int32} {p1 : Int64} {res : (Nat → Int64) × Int32} (h : f_X4_tell t_numbers t_size p1 = some res) : zM l yX4_tell cX4_tell 3 none ({ frames := 1, cells := 0, slots := 0, locals := 22 }) [.ref (ta 0), .long p1] (dC, dI) vwCl (zT cI cJ cZ cN) (w_R cI cJ cZ cN ta t_numbers t_size) (none) (True) (w_R cI cJ cZ cN ta res.1 res.2) := by
  refine zM_of (own := RX4) (by decide) rfl [(0, .ref (ta 0)), (1, .long p1)] (Nat.le_of_ble_eq_true rfl) rfl ?_
  intro p e s m args below meth c A G _
  unfold f_X4_tell at h
  refine z_aload_n G dX4_tell_0 rfl 0 rfl ?_
  refine z_kV (As := []) (rest := []) (st' := []) (ws' := (w_R cI cJ cZ cN ta t_numbers (f_X4_clear t_size))) G pk_X4_clear pv_X4_clear ml_X4_19 (c_X4_clear (ta := ta) (t_numbers := t_numbers) (t_size := t_size) rfl) ⟨rfl, rfl⟩ ⟨Nat.le_of_ble_eq_true rfl, Nat.le_of_ble_eq_true rfl⟩ ⟨Nat.zero_le _, Nat.zero_le _⟩ rfl rfl (Nat.le_of_ble_eq_true rfl) 0 4 rfl rfl rfl [0, 1] rfl rfl [some 0, some 1] rfl rfl rfl rfl dX4_tell_1 (fun z1 => ?_)
  refine z_aload_n G dX4_tell_4 rfl 0 rfl ?_
  refine z_lload_n G dX4_tell_5 rfl 1 rfl ?_
  obtain ⟨r2, e2, h⟩ := obind h
  refine z_kV (As := [.long p1]) (rest := []) (st' := []) (ws' := (w_R cI cJ cZ cN ta r2.1 r2.2)) G pk_X4_add pv_X4_add ml_X4_22 (c_X4_add (ta := ta) (t_numbers := t_numbers) (t_size := f_X4_clear t_size) (p1 := p1) e2) ⟨rfl, rfl⟩ ⟨Nat.le_of_ble_eq_true rfl, Nat.le_of_ble_eq_true rfl⟩ ⟨Nat.zero_le _, Nat.zero_le _⟩ rfl rfl (Nat.le_of_ble_eq_true rfl) 0 4 rfl rfl rfl [0, 1] rfl rfl [some 0, some 1] rfl rfl rfl rfl dX4_tell_6 (fun z3 => ?_)
  obtain rfl := Option.some.inj h
  exact z_vret G rfl dX4_tell_9 rfl trivial rfl

noncomputable def fo_J6_bitCount_0f7a4 (p0 : Int32) : Option (Int32) :=
  some ((((((((p0 - ((jushr p0 1) &&& 1431655765)) &&& 858993459) + ((jushr (p0 - ((jushr p0 1) &&& 1431655765)) 2) &&& 858993459)) + (jushr (((p0 - ((jushr p0 1) &&& 1431655765)) &&& 858993459) + ((jushr (p0 - ((jushr p0 1) &&& 1431655765)) 2) &&& 858993459)) 4)) &&& 252645135) + (jushr (((((p0 - ((jushr p0 1) &&& 1431655765)) &&& 858993459) + ((jushr (p0 - ((jushr p0 1) &&& 1431655765)) 2) &&& 858993459)) + (jushr (((p0 - ((jushr p0 1) &&& 1431655765)) &&& 858993459) + ((jushr (p0 - ((jushr p0 1) &&& 1431655765)) 2) &&& 858993459)) 4)) &&& 252645135) 8)) + (jushr ((((((p0 - ((jushr p0 1) &&& 1431655765)) &&& 858993459) + ((jushr (p0 - ((jushr p0 1) &&& 1431655765)) 2) &&& 858993459)) + (jushr (((p0 - ((jushr p0 1) &&& 1431655765)) &&& 858993459) + ((jushr (p0 - ((jushr p0 1) &&& 1431655765)) 2) &&& 858993459)) 4)) &&& 252645135) + (jushr (((((p0 - ((jushr p0 1) &&& 1431655765)) &&& 858993459) + ((jushr (p0 - ((jushr p0 1) &&& 1431655765)) 2) &&& 858993459)) + (jushr (((p0 - ((jushr p0 1) &&& 1431655765)) &&& 858993459) + ((jushr (p0 - ((jushr p0 1) &&& 1431655765)) 2) &&& 858993459)) 4)) &&& 252645135) 8)) 16)) &&& 63)
set_option maxRecDepth 100000 in
set_option maxHeartbeats 4000000 in
theorem co_J6_bitCount_0f7a4 {l : Launch} {dC : Nat → ClassId} {dI : Nat → Nat → Nat} {cI cJ cZ cN : ClassId}   {p0 : Int32} {res : Int32} (h : fo_J6_bitCount_0f7a4 p0 = some res) : zM l yJ6_bitCount_0f7a4 cJ6_bitCount_0f7a4 1 (some .int) ({ frames := 0, cells := 0, slots := 0, locals := 0 }) [.int p0] (dC, dI) vwCl (zT cI cJ cZ cN) [] (some (.int res)) (True) [] := by
  refine zM_of (own := RJ6) (by decide) rfl [(0, .int p0)] (Nat.le_of_ble_eq_true rfl) rfl ?_
  intro p e s m args below meth c A G _
  unfold fo_J6_bitCount_0f7a4 at h
  refine z_iload_n G dJ6_bitCount_0f7a4_0 rfl 0 rfl ?_
  refine z_iload_n G dJ6_bitCount_0f7a4_1 rfl 0 rfl ?_
  refine z_iconst (v := 1) G dJ6_bitCount_0f7a4_2 (by decide) ?_
  refine z_iushr G dJ6_bitCount_0f7a4_3 ?_
  refine z_ldcw (v := 1431655765) G dJ6_bitCount_0f7a4_4 kc_J6_265 ?_
  refine z_iand G dJ6_bitCount_0f7a4_7 ?_
  refine z_isub G dJ6_bitCount_0f7a4_8 ?_
  refine z_istore_n (lv' := [(0, .int (p0 - ((jushr p0 1) &&& 1431655765)))]) G dJ6_bitCount_0f7a4_9 rfl (by decide) [0] rfl ?_
  refine z_iload_n G dJ6_bitCount_0f7a4_10 rfl 0 rfl ?_
  refine z_ldcw (v := 858993459) G dJ6_bitCount_0f7a4_11 kc_J6_266 ?_
  refine z_iand G dJ6_bitCount_0f7a4_14 ?_
  refine z_iload_n G dJ6_bitCount_0f7a4_15 rfl 0 rfl ?_
  refine z_iconst (v := 2) G dJ6_bitCount_0f7a4_16 (by decide) ?_
  refine z_iushr G dJ6_bitCount_0f7a4_17 ?_
  refine z_ldcw (v := 858993459) G dJ6_bitCount_0f7a4_18 kc_J6_266 ?_
  refine z_iand G dJ6_bitCount_0f7a4_21 ?_
  refine z_iadd G dJ6_bitCount_0f7a4_22 ?_
  refine z_istore_n (lv' := [(0, .int (((p0 - ((jushr p0 1) &&& 1431655765)) &&& 858993459) + ((jushr (p0 - ((jushr p0 1) &&& 1431655765)) 2) &&& 858993459)))]) G dJ6_bitCount_0f7a4_23 rfl (by decide) [0] rfl ?_
  refine z_iload_n G dJ6_bitCount_0f7a4_24 rfl 0 rfl ?_
  refine z_iload_n G dJ6_bitCount_0f7a4_25 rfl 0 rfl ?_
  refine z_iconst (v := 4) G dJ6_bitCount_0f7a4_26 (by decide) ?_
  refine z_iushr G dJ6_bitCount_0f7a4_27 ?_
  refine z_iadd G dJ6_bitCount_0f7a4_28 ?_
  refine z_ldcw (v := 252645135) G dJ6_bitCount_0f7a4_29 kc_J6_267 ?_
  refine z_iand G dJ6_bitCount_0f7a4_32 ?_
  refine z_istore_n (lv' := [(0, .int (((((p0 - ((jushr p0 1) &&& 1431655765)) &&& 858993459) + ((jushr (p0 - ((jushr p0 1) &&& 1431655765)) 2) &&& 858993459)) + (jushr (((p0 - ((jushr p0 1) &&& 1431655765)) &&& 858993459) + ((jushr (p0 - ((jushr p0 1) &&& 1431655765)) 2) &&& 858993459)) 4)) &&& 252645135))]) G dJ6_bitCount_0f7a4_33 rfl (by decide) [0] rfl ?_
  refine z_iload_n G dJ6_bitCount_0f7a4_34 rfl 0 rfl ?_
  refine z_iload_n G dJ6_bitCount_0f7a4_35 rfl 0 rfl ?_
  refine z_bipush (v := 8) G dJ6_bitCount_0f7a4_36 (by decide) ?_
  refine z_iushr G dJ6_bitCount_0f7a4_38 ?_
  refine z_iadd G dJ6_bitCount_0f7a4_39 ?_
  refine z_istore_n (lv' := [(0, .int ((((((p0 - ((jushr p0 1) &&& 1431655765)) &&& 858993459) + ((jushr (p0 - ((jushr p0 1) &&& 1431655765)) 2) &&& 858993459)) + (jushr (((p0 - ((jushr p0 1) &&& 1431655765)) &&& 858993459) + ((jushr (p0 - ((jushr p0 1) &&& 1431655765)) 2) &&& 858993459)) 4)) &&& 252645135) + (jushr (((((p0 - ((jushr p0 1) &&& 1431655765)) &&& 858993459) + ((jushr (p0 - ((jushr p0 1) &&& 1431655765)) 2) &&& 858993459)) + (jushr (((p0 - ((jushr p0 1) &&& 1431655765)) &&& 858993459) + ((jushr (p0 - ((jushr p0 1) &&& 1431655765)) 2) &&& 858993459)) 4)) &&& 252645135) 8)))]) G dJ6_bitCount_0f7a4_40 rfl (by decide) [0] rfl ?_
  refine z_iload_n G dJ6_bitCount_0f7a4_41 rfl 0 rfl ?_
  refine z_iload_n G dJ6_bitCount_0f7a4_42 rfl 0 rfl ?_
  refine z_bipush (v := 16) G dJ6_bitCount_0f7a4_43 (by decide) ?_
  refine z_iushr G dJ6_bitCount_0f7a4_45 ?_
  refine z_iadd G dJ6_bitCount_0f7a4_46 ?_
  refine z_istore_n (lv' := [(0, .int (((((((p0 - ((jushr p0 1) &&& 1431655765)) &&& 858993459) + ((jushr (p0 - ((jushr p0 1) &&& 1431655765)) 2) &&& 858993459)) + (jushr (((p0 - ((jushr p0 1) &&& 1431655765)) &&& 858993459) + ((jushr (p0 - ((jushr p0 1) &&& 1431655765)) 2) &&& 858993459)) 4)) &&& 252645135) + (jushr (((((p0 - ((jushr p0 1) &&& 1431655765)) &&& 858993459) + ((jushr (p0 - ((jushr p0 1) &&& 1431655765)) 2) &&& 858993459)) + (jushr (((p0 - ((jushr p0 1) &&& 1431655765)) &&& 858993459) + ((jushr (p0 - ((jushr p0 1) &&& 1431655765)) 2) &&& 858993459)) 4)) &&& 252645135) 8)) + (jushr ((((((p0 - ((jushr p0 1) &&& 1431655765)) &&& 858993459) + ((jushr (p0 - ((jushr p0 1) &&& 1431655765)) 2) &&& 858993459)) + (jushr (((p0 - ((jushr p0 1) &&& 1431655765)) &&& 858993459) + ((jushr (p0 - ((jushr p0 1) &&& 1431655765)) 2) &&& 858993459)) 4)) &&& 252645135) + (jushr (((((p0 - ((jushr p0 1) &&& 1431655765)) &&& 858993459) + ((jushr (p0 - ((jushr p0 1) &&& 1431655765)) 2) &&& 858993459)) + (jushr (((p0 - ((jushr p0 1) &&& 1431655765)) &&& 858993459) + ((jushr (p0 - ((jushr p0 1) &&& 1431655765)) 2) &&& 858993459)) 4)) &&& 252645135) 8)) 16)))]) G dJ6_bitCount_0f7a4_47 rfl (by decide) [0] rfl ?_
  refine z_iload_n G dJ6_bitCount_0f7a4_48 rfl 0 rfl ?_
  refine z_bipush (v := 63) G dJ6_bitCount_0f7a4_49 (by decide) ?_
  refine z_iand G dJ6_bitCount_0f7a4_51 ?_
  obtain rfl := Option.some.inj h
  exact z_iret G rfl dJ6_bitCount_0f7a4_52 rfl trivial rfl
noncomputable def f_J6_bitCount_0f7a4 (p0 : Int32) : Int32 :=
  ((((((((p0 - ((jushr p0 1) &&& 1431655765)) &&& 858993459) + ((jushr (p0 - ((jushr p0 1) &&& 1431655765)) 2) &&& 858993459)) + (jushr (((p0 - ((jushr p0 1) &&& 1431655765)) &&& 858993459) + ((jushr (p0 - ((jushr p0 1) &&& 1431655765)) 2) &&& 858993459)) 4)) &&& 252645135) + (jushr (((((p0 - ((jushr p0 1) &&& 1431655765)) &&& 858993459) + ((jushr (p0 - ((jushr p0 1) &&& 1431655765)) 2) &&& 858993459)) + (jushr (((p0 - ((jushr p0 1) &&& 1431655765)) &&& 858993459) + ((jushr (p0 - ((jushr p0 1) &&& 1431655765)) 2) &&& 858993459)) 4)) &&& 252645135) 8)) + (jushr ((((((p0 - ((jushr p0 1) &&& 1431655765)) &&& 858993459) + ((jushr (p0 - ((jushr p0 1) &&& 1431655765)) 2) &&& 858993459)) + (jushr (((p0 - ((jushr p0 1) &&& 1431655765)) &&& 858993459) + ((jushr (p0 - ((jushr p0 1) &&& 1431655765)) 2) &&& 858993459)) 4)) &&& 252645135) + (jushr (((((p0 - ((jushr p0 1) &&& 1431655765)) &&& 858993459) + ((jushr (p0 - ((jushr p0 1) &&& 1431655765)) 2) &&& 858993459)) + (jushr (((p0 - ((jushr p0 1) &&& 1431655765)) &&& 858993459) + ((jushr (p0 - ((jushr p0 1) &&& 1431655765)) 2) &&& 858993459)) 4)) &&& 252645135) 8)) 16)) &&& 63)
theorem fo_J6_bitCount_0f7a4_eq (p0 : Int32) : fo_J6_bitCount_0f7a4 p0 = some (f_J6_bitCount_0f7a4 p0) := by
  unfold fo_J6_bitCount_0f7a4 f_J6_bitCount_0f7a4
  first | rfl | ((repeat' split) <;> rfl) | (simp only [apply_ite Option.some])
theorem c_J6_bitCount_0f7a4 {l : Launch} {dC : Nat → ClassId} {dI : Nat → Nat → Nat} {cI cJ cZ cN : ClassId}   {p0 : Int32} (_ : True = True) : zM l yJ6_bitCount_0f7a4 cJ6_bitCount_0f7a4 1 (some .int) ({ frames := 0, cells := 0, slots := 0, locals := 0 }) [.int p0] (dC, dI) vwCl (zT cI cJ cZ cN) [] (some (.int (f_J6_bitCount_0f7a4 p0))) (True) [] := co_J6_bitCount_0f7a4 (fo_J6_bitCount_0f7a4_eq _)

noncomputable def fo_X6_isItem (p0 : Int32) : Option (Int32) :=
  if p0 < 0 then some (0) else if 40 ≤ p0 then some (0) else some (1)
set_option maxRecDepth 100000 in
set_option maxHeartbeats 4000000 in
theorem co_X6_isItem {l : Launch} {dC : Nat → ClassId} {dI : Nat → Nat → Nat} {cI cJ cZ cN : ClassId}   {p0 : Int32} {res : Int32} (h : fo_X6_isItem p0 = some res) : zM l yX6_isItem cX6_isItem 1 (some .boolean) ({ frames := 0, cells := 0, slots := 0, locals := 0 }) [.int p0] (dC, dI) vwCl (zT cI cJ cZ cN) [] (some (.int res)) (narrow .boolean (.int res) = .int res) [] := by
  refine zM_of (own := RX6) (by decide) rfl [(0, .int p0)] (Nat.le_of_ble_eq_true rfl) rfl ?_
  intro p e s m args below meth c A G _
  unfold fo_X6_isItem at h
  refine z_iload_n G dX6_isItem_0 rfl 0 rfl ?_
  refine z_if_lt (tgt := 14) G dX6_isItem_1 (by decide) h (fun h => ?_) (fun h => ?_)
  · refine z_iconst (v := 0) G dX6_isItem_14 (by decide) ?_
    obtain rfl := Option.some.inj h
    exact z_zret G rfl zn0 dX6_isItem_15 rfl zn0 rfl
  · refine z_iload_n G dX6_isItem_4 rfl 0 rfl ?_
    refine z_bipush (v := 40) G dX6_isItem_5 (by decide) ?_
    refine z_icmp_ge (tgt := 14) G dX6_isItem_7 (by decide) h (fun h => ?_) (fun h => ?_)
    · refine z_iconst (v := 0) G dX6_isItem_14 (by decide) ?_
      obtain rfl := Option.some.inj h
      exact z_zret G rfl zn0 dX6_isItem_15 rfl zn0 rfl
    · refine z_iconst (v := 1) G dX6_isItem_10 (by decide) ?_
      refine z_goto (tgt := 15) G dX6_isItem_11 (by decide) ?_
      obtain rfl := Option.some.inj h
      exact z_zret G rfl zn1 dX6_isItem_15 rfl zn1 rfl
noncomputable def f_X6_isItem (p0 : Int32) : Int32 :=
  if p0 < 0 then (0) else if 40 ≤ p0 then (0) else (1)
theorem fo_X6_isItem_eq (p0 : Int32) : fo_X6_isItem p0 = some (f_X6_isItem p0) := by
  unfold fo_X6_isItem f_X6_isItem
  first | rfl | ((repeat' split) <;> rfl) | (simp only [apply_ite Option.some])
theorem c_X6_isItem {l : Launch} {dC : Nat → ClassId} {dI : Nat → Nat → Nat} {cI cJ cZ cN : ClassId}   {p0 : Int32} (_ : True = True) : zM l yX6_isItem cX6_isItem 1 (some .boolean) ({ frames := 0, cells := 0, slots := 0, locals := 0 }) [.int p0] (dC, dI) vwCl (zT cI cJ cZ cN) [] (some (.int (f_X6_isItem p0))) (narrow .boolean (.int (f_X6_isItem p0)) = .int (f_X6_isItem p0)) [] := co_X6_isItem (fo_X6_isItem_eq _)

noncomputable def fo_J13_bitCount_95d88 (p0 : Int64) : Option (Int32) :=
  some ((((((((((p0 - ((jlushr p0 1) &&& 6148914691236517205)) &&& 3689348814741910323) + ((jlushr (p0 - ((jlushr p0 1) &&& 6148914691236517205)) 2) &&& 3689348814741910323)) + (jlushr (((p0 - ((jlushr p0 1) &&& 6148914691236517205)) &&& 3689348814741910323) + ((jlushr (p0 - ((jlushr p0 1) &&& 6148914691236517205)) 2) &&& 3689348814741910323)) 4)) &&& 1085102592571150095) + (jlushr (((((p0 - ((jlushr p0 1) &&& 6148914691236517205)) &&& 3689348814741910323) + ((jlushr (p0 - ((jlushr p0 1) &&& 6148914691236517205)) 2) &&& 3689348814741910323)) + (jlushr (((p0 - ((jlushr p0 1) &&& 6148914691236517205)) &&& 3689348814741910323) + ((jlushr (p0 - ((jlushr p0 1) &&& 6148914691236517205)) 2) &&& 3689348814741910323)) 4)) &&& 1085102592571150095) 8)) + (jlushr ((((((p0 - ((jlushr p0 1) &&& 6148914691236517205)) &&& 3689348814741910323) + ((jlushr (p0 - ((jlushr p0 1) &&& 6148914691236517205)) 2) &&& 3689348814741910323)) + (jlushr (((p0 - ((jlushr p0 1) &&& 6148914691236517205)) &&& 3689348814741910323) + ((jlushr (p0 - ((jlushr p0 1) &&& 6148914691236517205)) 2) &&& 3689348814741910323)) 4)) &&& 1085102592571150095) + (jlushr (((((p0 - ((jlushr p0 1) &&& 6148914691236517205)) &&& 3689348814741910323) + ((jlushr (p0 - ((jlushr p0 1) &&& 6148914691236517205)) 2) &&& 3689348814741910323)) + (jlushr (((p0 - ((jlushr p0 1) &&& 6148914691236517205)) &&& 3689348814741910323) + ((jlushr (p0 - ((jlushr p0 1) &&& 6148914691236517205)) 2) &&& 3689348814741910323)) 4)) &&& 1085102592571150095) 8)) 16)) + (jlushr (((((((p0 - ((jlushr p0 1) &&& 6148914691236517205)) &&& 3689348814741910323) + ((jlushr (p0 - ((jlushr p0 1) &&& 6148914691236517205)) 2) &&& 3689348814741910323)) + (jlushr (((p0 - ((jlushr p0 1) &&& 6148914691236517205)) &&& 3689348814741910323) + ((jlushr (p0 - ((jlushr p0 1) &&& 6148914691236517205)) 2) &&& 3689348814741910323)) 4)) &&& 1085102592571150095) + (jlushr (((((p0 - ((jlushr p0 1) &&& 6148914691236517205)) &&& 3689348814741910323) + ((jlushr (p0 - ((jlushr p0 1) &&& 6148914691236517205)) 2) &&& 3689348814741910323)) + (jlushr (((p0 - ((jlushr p0 1) &&& 6148914691236517205)) &&& 3689348814741910323) + ((jlushr (p0 - ((jlushr p0 1) &&& 6148914691236517205)) 2) &&& 3689348814741910323)) 4)) &&& 1085102592571150095) 8)) + (jlushr ((((((p0 - ((jlushr p0 1) &&& 6148914691236517205)) &&& 3689348814741910323) + ((jlushr (p0 - ((jlushr p0 1) &&& 6148914691236517205)) 2) &&& 3689348814741910323)) + (jlushr (((p0 - ((jlushr p0 1) &&& 6148914691236517205)) &&& 3689348814741910323) + ((jlushr (p0 - ((jlushr p0 1) &&& 6148914691236517205)) 2) &&& 3689348814741910323)) 4)) &&& 1085102592571150095) + (jlushr (((((p0 - ((jlushr p0 1) &&& 6148914691236517205)) &&& 3689348814741910323) + ((jlushr (p0 - ((jlushr p0 1) &&& 6148914691236517205)) 2) &&& 3689348814741910323)) + (jlushr (((p0 - ((jlushr p0 1) &&& 6148914691236517205)) &&& 3689348814741910323) + ((jlushr (p0 - ((jlushr p0 1) &&& 6148914691236517205)) 2) &&& 3689348814741910323)) 4)) &&& 1085102592571150095) 8)) 16)) 32)).toInt32) &&& 127)
set_option maxRecDepth 100000 in
set_option maxHeartbeats 4000000 in
theorem co_J13_bitCount_95d88 {l : Launch} {dC : Nat → ClassId} {dI : Nat → Nat → Nat} {cI cJ cZ cN : ClassId}   {p0 : Int64} {res : Int32} (h : fo_J13_bitCount_95d88 p0 = some res) : zM l yJ13_bitCount_95d88 cJ13_bitCount_95d88 2 (some .int) ({ frames := 0, cells := 0, slots := 0, locals := 0 }) [.long p0] (dC, dI) vwCl (zT cI cJ cZ cN) [] (some (.int res)) (True) [] := by
  refine zM_of (own := RJ13) (by decide) rfl [(0, .long p0)] (Nat.le_of_ble_eq_true rfl) rfl ?_
  intro p e s m args below meth c A G _
  unfold fo_J13_bitCount_95d88 at h
  refine z_lload_n G dJ13_bitCount_95d88_0 rfl 0 rfl ?_
  refine z_lload_n G dJ13_bitCount_95d88_1 rfl 0 rfl ?_
  refine z_iconst (v := 1) G dJ13_bitCount_95d88_2 (by decide) ?_
  refine z_lushr G dJ13_bitCount_95d88_3 ?_
  refine z_ldc2 (v := 6148914691236517205) G dJ13_bitCount_95d88_4 kc_J13_314 ?_
  refine z_land G dJ13_bitCount_95d88_7 ?_
  refine z_lsub G dJ13_bitCount_95d88_8 ?_
  refine z_lstore_n (lv' := [(0, .long (p0 - ((jlushr p0 1) &&& 6148914691236517205)))]) G dJ13_bitCount_95d88_9 rfl (by decide) [0] rfl ?_
  refine z_lload_n G dJ13_bitCount_95d88_10 rfl 0 rfl ?_
  refine z_ldc2 (v := 3689348814741910323) G dJ13_bitCount_95d88_11 kc_J13_316 ?_
  refine z_land G dJ13_bitCount_95d88_14 ?_
  refine z_lload_n G dJ13_bitCount_95d88_15 rfl 0 rfl ?_
  refine z_iconst (v := 2) G dJ13_bitCount_95d88_16 (by decide) ?_
  refine z_lushr G dJ13_bitCount_95d88_17 ?_
  refine z_ldc2 (v := 3689348814741910323) G dJ13_bitCount_95d88_18 kc_J13_316 ?_
  refine z_land G dJ13_bitCount_95d88_21 ?_
  refine z_ladd G dJ13_bitCount_95d88_22 ?_
  refine z_lstore_n (lv' := [(0, .long (((p0 - ((jlushr p0 1) &&& 6148914691236517205)) &&& 3689348814741910323) + ((jlushr (p0 - ((jlushr p0 1) &&& 6148914691236517205)) 2) &&& 3689348814741910323)))]) G dJ13_bitCount_95d88_23 rfl (by decide) [0] rfl ?_
  refine z_lload_n G dJ13_bitCount_95d88_24 rfl 0 rfl ?_
  refine z_lload_n G dJ13_bitCount_95d88_25 rfl 0 rfl ?_
  refine z_iconst (v := 4) G dJ13_bitCount_95d88_26 (by decide) ?_
  refine z_lushr G dJ13_bitCount_95d88_27 ?_
  refine z_ladd G dJ13_bitCount_95d88_28 ?_
  refine z_ldc2 (v := 1085102592571150095) G dJ13_bitCount_95d88_29 kc_J13_318 ?_
  refine z_land G dJ13_bitCount_95d88_32 ?_
  refine z_lstore_n (lv' := [(0, .long (((((p0 - ((jlushr p0 1) &&& 6148914691236517205)) &&& 3689348814741910323) + ((jlushr (p0 - ((jlushr p0 1) &&& 6148914691236517205)) 2) &&& 3689348814741910323)) + (jlushr (((p0 - ((jlushr p0 1) &&& 6148914691236517205)) &&& 3689348814741910323) + ((jlushr (p0 - ((jlushr p0 1) &&& 6148914691236517205)) 2) &&& 3689348814741910323)) 4)) &&& 1085102592571150095))]) G dJ13_bitCount_95d88_33 rfl (by decide) [0] rfl ?_
  refine z_lload_n G dJ13_bitCount_95d88_34 rfl 0 rfl ?_
  refine z_lload_n G dJ13_bitCount_95d88_35 rfl 0 rfl ?_
  refine z_bipush (v := 8) G dJ13_bitCount_95d88_36 (by decide) ?_
  refine z_lushr G dJ13_bitCount_95d88_38 ?_
  refine z_ladd G dJ13_bitCount_95d88_39 ?_
  refine z_lstore_n (lv' := [(0, .long ((((((p0 - ((jlushr p0 1) &&& 6148914691236517205)) &&& 3689348814741910323) + ((jlushr (p0 - ((jlushr p0 1) &&& 6148914691236517205)) 2) &&& 3689348814741910323)) + (jlushr (((p0 - ((jlushr p0 1) &&& 6148914691236517205)) &&& 3689348814741910323) + ((jlushr (p0 - ((jlushr p0 1) &&& 6148914691236517205)) 2) &&& 3689348814741910323)) 4)) &&& 1085102592571150095) + (jlushr (((((p0 - ((jlushr p0 1) &&& 6148914691236517205)) &&& 3689348814741910323) + ((jlushr (p0 - ((jlushr p0 1) &&& 6148914691236517205)) 2) &&& 3689348814741910323)) + (jlushr (((p0 - ((jlushr p0 1) &&& 6148914691236517205)) &&& 3689348814741910323) + ((jlushr (p0 - ((jlushr p0 1) &&& 6148914691236517205)) 2) &&& 3689348814741910323)) 4)) &&& 1085102592571150095) 8)))]) G dJ13_bitCount_95d88_40 rfl (by decide) [0] rfl ?_
  refine z_lload_n G dJ13_bitCount_95d88_41 rfl 0 rfl ?_
  refine z_lload_n G dJ13_bitCount_95d88_42 rfl 0 rfl ?_
  refine z_bipush (v := 16) G dJ13_bitCount_95d88_43 (by decide) ?_
  refine z_lushr G dJ13_bitCount_95d88_45 ?_
  refine z_ladd G dJ13_bitCount_95d88_46 ?_
  refine z_lstore_n (lv' := [(0, .long (((((((p0 - ((jlushr p0 1) &&& 6148914691236517205)) &&& 3689348814741910323) + ((jlushr (p0 - ((jlushr p0 1) &&& 6148914691236517205)) 2) &&& 3689348814741910323)) + (jlushr (((p0 - ((jlushr p0 1) &&& 6148914691236517205)) &&& 3689348814741910323) + ((jlushr (p0 - ((jlushr p0 1) &&& 6148914691236517205)) 2) &&& 3689348814741910323)) 4)) &&& 1085102592571150095) + (jlushr (((((p0 - ((jlushr p0 1) &&& 6148914691236517205)) &&& 3689348814741910323) + ((jlushr (p0 - ((jlushr p0 1) &&& 6148914691236517205)) 2) &&& 3689348814741910323)) + (jlushr (((p0 - ((jlushr p0 1) &&& 6148914691236517205)) &&& 3689348814741910323) + ((jlushr (p0 - ((jlushr p0 1) &&& 6148914691236517205)) 2) &&& 3689348814741910323)) 4)) &&& 1085102592571150095) 8)) + (jlushr ((((((p0 - ((jlushr p0 1) &&& 6148914691236517205)) &&& 3689348814741910323) + ((jlushr (p0 - ((jlushr p0 1) &&& 6148914691236517205)) 2) &&& 3689348814741910323)) + (jlushr (((p0 - ((jlushr p0 1) &&& 6148914691236517205)) &&& 3689348814741910323) + ((jlushr (p0 - ((jlushr p0 1) &&& 6148914691236517205)) 2) &&& 3689348814741910323)) 4)) &&& 1085102592571150095) + (jlushr (((((p0 - ((jlushr p0 1) &&& 6148914691236517205)) &&& 3689348814741910323) + ((jlushr (p0 - ((jlushr p0 1) &&& 6148914691236517205)) 2) &&& 3689348814741910323)) + (jlushr (((p0 - ((jlushr p0 1) &&& 6148914691236517205)) &&& 3689348814741910323) + ((jlushr (p0 - ((jlushr p0 1) &&& 6148914691236517205)) 2) &&& 3689348814741910323)) 4)) &&& 1085102592571150095) 8)) 16)))]) G dJ13_bitCount_95d88_47 rfl (by decide) [0] rfl ?_
  refine z_lload_n G dJ13_bitCount_95d88_48 rfl 0 rfl ?_
  refine z_lload_n G dJ13_bitCount_95d88_49 rfl 0 rfl ?_
  refine z_bipush (v := 32) G dJ13_bitCount_95d88_50 (by decide) ?_
  refine z_lushr G dJ13_bitCount_95d88_52 ?_
  refine z_ladd G dJ13_bitCount_95d88_53 ?_
  refine z_lstore_n (lv' := [(0, .long ((((((((p0 - ((jlushr p0 1) &&& 6148914691236517205)) &&& 3689348814741910323) + ((jlushr (p0 - ((jlushr p0 1) &&& 6148914691236517205)) 2) &&& 3689348814741910323)) + (jlushr (((p0 - ((jlushr p0 1) &&& 6148914691236517205)) &&& 3689348814741910323) + ((jlushr (p0 - ((jlushr p0 1) &&& 6148914691236517205)) 2) &&& 3689348814741910323)) 4)) &&& 1085102592571150095) + (jlushr (((((p0 - ((jlushr p0 1) &&& 6148914691236517205)) &&& 3689348814741910323) + ((jlushr (p0 - ((jlushr p0 1) &&& 6148914691236517205)) 2) &&& 3689348814741910323)) + (jlushr (((p0 - ((jlushr p0 1) &&& 6148914691236517205)) &&& 3689348814741910323) + ((jlushr (p0 - ((jlushr p0 1) &&& 6148914691236517205)) 2) &&& 3689348814741910323)) 4)) &&& 1085102592571150095) 8)) + (jlushr ((((((p0 - ((jlushr p0 1) &&& 6148914691236517205)) &&& 3689348814741910323) + ((jlushr (p0 - ((jlushr p0 1) &&& 6148914691236517205)) 2) &&& 3689348814741910323)) + (jlushr (((p0 - ((jlushr p0 1) &&& 6148914691236517205)) &&& 3689348814741910323) + ((jlushr (p0 - ((jlushr p0 1) &&& 6148914691236517205)) 2) &&& 3689348814741910323)) 4)) &&& 1085102592571150095) + (jlushr (((((p0 - ((jlushr p0 1) &&& 6148914691236517205)) &&& 3689348814741910323) + ((jlushr (p0 - ((jlushr p0 1) &&& 6148914691236517205)) 2) &&& 3689348814741910323)) + (jlushr (((p0 - ((jlushr p0 1) &&& 6148914691236517205)) &&& 3689348814741910323) + ((jlushr (p0 - ((jlushr p0 1) &&& 6148914691236517205)) 2) &&& 3689348814741910323)) 4)) &&& 1085102592571150095) 8)) 16)) + (jlushr (((((((p0 - ((jlushr p0 1) &&& 6148914691236517205)) &&& 3689348814741910323) + ((jlushr (p0 - ((jlushr p0 1) &&& 6148914691236517205)) 2) &&& 3689348814741910323)) + (jlushr (((p0 - ((jlushr p0 1) &&& 6148914691236517205)) &&& 3689348814741910323) + ((jlushr (p0 - ((jlushr p0 1) &&& 6148914691236517205)) 2) &&& 3689348814741910323)) 4)) &&& 1085102592571150095) + (jlushr (((((p0 - ((jlushr p0 1) &&& 6148914691236517205)) &&& 3689348814741910323) + ((jlushr (p0 - ((jlushr p0 1) &&& 6148914691236517205)) 2) &&& 3689348814741910323)) + (jlushr (((p0 - ((jlushr p0 1) &&& 6148914691236517205)) &&& 3689348814741910323) + ((jlushr (p0 - ((jlushr p0 1) &&& 6148914691236517205)) 2) &&& 3689348814741910323)) 4)) &&& 1085102592571150095) 8)) + (jlushr ((((((p0 - ((jlushr p0 1) &&& 6148914691236517205)) &&& 3689348814741910323) + ((jlushr (p0 - ((jlushr p0 1) &&& 6148914691236517205)) 2) &&& 3689348814741910323)) + (jlushr (((p0 - ((jlushr p0 1) &&& 6148914691236517205)) &&& 3689348814741910323) + ((jlushr (p0 - ((jlushr p0 1) &&& 6148914691236517205)) 2) &&& 3689348814741910323)) 4)) &&& 1085102592571150095) + (jlushr (((((p0 - ((jlushr p0 1) &&& 6148914691236517205)) &&& 3689348814741910323) + ((jlushr (p0 - ((jlushr p0 1) &&& 6148914691236517205)) 2) &&& 3689348814741910323)) + (jlushr (((p0 - ((jlushr p0 1) &&& 6148914691236517205)) &&& 3689348814741910323) + ((jlushr (p0 - ((jlushr p0 1) &&& 6148914691236517205)) 2) &&& 3689348814741910323)) 4)) &&& 1085102592571150095) 8)) 16)) 32)))]) G dJ13_bitCount_95d88_54 rfl (by decide) [0] rfl ?_
  refine z_lload_n G dJ13_bitCount_95d88_55 rfl 0 rfl ?_
  refine z_l2i G dJ13_bitCount_95d88_56 ?_
  refine z_bipush (v := 127) G dJ13_bitCount_95d88_57 (by decide) ?_
  refine z_iand G dJ13_bitCount_95d88_59 ?_
  obtain rfl := Option.some.inj h
  exact z_iret G rfl dJ13_bitCount_95d88_60 rfl trivial rfl
noncomputable def f_J13_bitCount_95d88 (p0 : Int64) : Int32 :=
  ((((((((((p0 - ((jlushr p0 1) &&& 6148914691236517205)) &&& 3689348814741910323) + ((jlushr (p0 - ((jlushr p0 1) &&& 6148914691236517205)) 2) &&& 3689348814741910323)) + (jlushr (((p0 - ((jlushr p0 1) &&& 6148914691236517205)) &&& 3689348814741910323) + ((jlushr (p0 - ((jlushr p0 1) &&& 6148914691236517205)) 2) &&& 3689348814741910323)) 4)) &&& 1085102592571150095) + (jlushr (((((p0 - ((jlushr p0 1) &&& 6148914691236517205)) &&& 3689348814741910323) + ((jlushr (p0 - ((jlushr p0 1) &&& 6148914691236517205)) 2) &&& 3689348814741910323)) + (jlushr (((p0 - ((jlushr p0 1) &&& 6148914691236517205)) &&& 3689348814741910323) + ((jlushr (p0 - ((jlushr p0 1) &&& 6148914691236517205)) 2) &&& 3689348814741910323)) 4)) &&& 1085102592571150095) 8)) + (jlushr ((((((p0 - ((jlushr p0 1) &&& 6148914691236517205)) &&& 3689348814741910323) + ((jlushr (p0 - ((jlushr p0 1) &&& 6148914691236517205)) 2) &&& 3689348814741910323)) + (jlushr (((p0 - ((jlushr p0 1) &&& 6148914691236517205)) &&& 3689348814741910323) + ((jlushr (p0 - ((jlushr p0 1) &&& 6148914691236517205)) 2) &&& 3689348814741910323)) 4)) &&& 1085102592571150095) + (jlushr (((((p0 - ((jlushr p0 1) &&& 6148914691236517205)) &&& 3689348814741910323) + ((jlushr (p0 - ((jlushr p0 1) &&& 6148914691236517205)) 2) &&& 3689348814741910323)) + (jlushr (((p0 - ((jlushr p0 1) &&& 6148914691236517205)) &&& 3689348814741910323) + ((jlushr (p0 - ((jlushr p0 1) &&& 6148914691236517205)) 2) &&& 3689348814741910323)) 4)) &&& 1085102592571150095) 8)) 16)) + (jlushr (((((((p0 - ((jlushr p0 1) &&& 6148914691236517205)) &&& 3689348814741910323) + ((jlushr (p0 - ((jlushr p0 1) &&& 6148914691236517205)) 2) &&& 3689348814741910323)) + (jlushr (((p0 - ((jlushr p0 1) &&& 6148914691236517205)) &&& 3689348814741910323) + ((jlushr (p0 - ((jlushr p0 1) &&& 6148914691236517205)) 2) &&& 3689348814741910323)) 4)) &&& 1085102592571150095) + (jlushr (((((p0 - ((jlushr p0 1) &&& 6148914691236517205)) &&& 3689348814741910323) + ((jlushr (p0 - ((jlushr p0 1) &&& 6148914691236517205)) 2) &&& 3689348814741910323)) + (jlushr (((p0 - ((jlushr p0 1) &&& 6148914691236517205)) &&& 3689348814741910323) + ((jlushr (p0 - ((jlushr p0 1) &&& 6148914691236517205)) 2) &&& 3689348814741910323)) 4)) &&& 1085102592571150095) 8)) + (jlushr ((((((p0 - ((jlushr p0 1) &&& 6148914691236517205)) &&& 3689348814741910323) + ((jlushr (p0 - ((jlushr p0 1) &&& 6148914691236517205)) 2) &&& 3689348814741910323)) + (jlushr (((p0 - ((jlushr p0 1) &&& 6148914691236517205)) &&& 3689348814741910323) + ((jlushr (p0 - ((jlushr p0 1) &&& 6148914691236517205)) 2) &&& 3689348814741910323)) 4)) &&& 1085102592571150095) + (jlushr (((((p0 - ((jlushr p0 1) &&& 6148914691236517205)) &&& 3689348814741910323) + ((jlushr (p0 - ((jlushr p0 1) &&& 6148914691236517205)) 2) &&& 3689348814741910323)) + (jlushr (((p0 - ((jlushr p0 1) &&& 6148914691236517205)) &&& 3689348814741910323) + ((jlushr (p0 - ((jlushr p0 1) &&& 6148914691236517205)) 2) &&& 3689348814741910323)) 4)) &&& 1085102592571150095) 8)) 16)) 32)).toInt32) &&& 127)
theorem fo_J13_bitCount_95d88_eq (p0 : Int64) : fo_J13_bitCount_95d88 p0 = some (f_J13_bitCount_95d88 p0) := by
  unfold fo_J13_bitCount_95d88 f_J13_bitCount_95d88
  first | rfl | ((repeat' split) <;> rfl) | (simp only [apply_ite Option.some])
theorem c_J13_bitCount_95d88 {l : Launch} {dC : Nat → ClassId} {dI : Nat → Nat → Nat} {cI cJ cZ cN : ClassId}   {p0 : Int64} (_ : True = True) : zM l yJ13_bitCount_95d88 cJ13_bitCount_95d88 2 (some .int) ({ frames := 0, cells := 0, slots := 0, locals := 0 }) [.long p0] (dC, dI) vwCl (zT cI cJ cZ cN) [] (some (.int (f_J13_bitCount_95d88 p0))) (True) [] := co_J13_bitCount_95d88 (fo_J13_bitCount_95d88_eq _)
