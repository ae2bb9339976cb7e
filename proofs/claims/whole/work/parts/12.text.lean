noncomputable def f_X5_addFour_b14 (p1 : Int32) (k14 : Int32 → Int32 → (Nat → Int32) → Option (Int32 × Int32 × (Nat → Int32))) (x2 : Int32) (t_size : Int32) (t_signs : Nat → Int32) : Option (Int32 × Int32 × (Nat → Int32)) :=
  if x2 < 0 then some (1, t_size, t_signs) else chk (inb t_size 80) (k14 (x2 + (-8)) (t_size + 1) (upd t_signs (ix t_size) ((jushr p1 x2) &&& 255)))
set_option maxRecDepth 100000 in
set_option maxHeartbeats 4000000 in
theorem zb_X5_addFour_14 {p : Program} {l : Launch} {e : Env} {s : State} {m : MethodId} {args : Array Value} {below : List Frame} {meth : Method} {c : Code} {A : Nat → Prop} {dC : Nat → ClassId} {dI : Nat → Nat → Nat} {cI cJ cZ cN : ClassId} {ta : Nat → Nat} {t_words : Nat → Int32} {t_wordCount : Int32} {t_next : Int32} {p1 : Int32} {res : Int32 × Int32 × (Nat → Int32)} (G : zG p m c cX5_addFour 3 s args RX5 (dC, dI) vwCl (zT cI cJ cZ cN) A meth (some .boolean)) {k14 : Int32 → Int32 → (Nat → Int32) → Option (Int32 × Int32 × (Nat → Int32))} (hr14 : ∀ (x2 : Int32) (t_size : Int32) (t_signs : Nat → Int32), k14 x2 t_size t_signs = some res → Z p l e ({ frames := 0, cells := 0, slots := 0, locals := 0 }) s m args below meth c (dC, dI) vwCl A 3 0 0 (MQ below (zQ (some (.int res.1)) (narrow .boolean (.int res.1) = .int res.1) (w_X cI cJ cZ cN ta t_words t_wordCount res.2.1 res.2.2 t_next) (dC, dI) vwCl A) args s 0 0 A) (w_X cI cJ cZ cN ta t_words t_wordCount t_size t_signs t_next) [(0, .ref (ta 0)), (1, .int p1), (2, .int x2)] [] 14) : ∀ (x2 : Int32) (t_size : Int32) (t_signs : Nat → Int32), f_X5_addFour_b14 p1 k14 x2 t_size t_signs = some res → Z p l e ({ frames := 0, cells := 0, slots := 0, locals := 0 }) s m args below meth c (dC, dI) vwCl A 3 0 0 (MQ below (zQ (some (.int res.1)) (narrow .boolean (.int res.1) = .int res.1) (w_X cI cJ cZ cN ta t_words t_wordCount res.2.1 res.2.2 t_next) (dC, dI) vwCl A) args s 0 0 A) (w_X cI cJ cZ cN ta t_words t_wordCount t_size t_signs t_next) [(0, .ref (ta 0)), (1, .int p1), (2, .int x2)] [] 14 := by
  intro x2 t_size t_signs h
  unfold f_X5_addFour_b14 at h
  refine z_iload_n G dX5_addFour_14 rfl 2 rfl ?_
  refine z_if_lt (tgt := 50) G dX5_addFour_15 (by decide) h (fun h => ?_) (fun h => ?_)
  · refine z_iconst (v := 1) G dX5_addFour_50 (by decide) ?_
    obtain rfl := Option.some.inj h
    exact z_zret G rfl zn1 dX5_addFour_51 rfl zn1 rfl
  · refine z_aload_n G dX5_addFour_18 rfl 0 rfl ?_
    refine z_get (ci := 5) (v := .ref (ta 2)) G in_X5 0 rfl rfl 3 (by decide) fl_X5_15 rfl dX5_addFour_19 ?_
    refine z_aload_n G dX5_addFour_22 rfl 0 rfl ?_
    refine z_get (ci := 5) (v := .int t_size) G in_X5 0 rfl rfl 2 (by decide) fl_X5_18 rfl dX5_addFour_23 ?_
    refine z_iload_n G dX5_addFour_26 rfl 1 rfl ?_
    refine z_iload_n G dX5_addFour_27 rfl 2 rfl ?_
    refine z_iushr G dX5_addFour_28 ?_
    refine z_sipush (v := 255) G dX5_addFour_29 (by decide) ?_
    refine z_iand G dX5_addFour_32 ?_
    refine z_iastore (ws' := (w_X cI cJ cZ cN ta t_words t_wordCount t_size (upd t_signs (ix t_size) ((jushr p1 x2) &&& 255)) t_next)) G 2 0 rfl rfl rfl dX5_addFour_33 h (fun h => ?_)
    refine z_aload_n G dX5_addFour_34 rfl 0 rfl ?_
    refine z_dup G dX5_addFour_35 rfl ?_
    refine z_get (ci := 5) (v := .int t_size) G in_X5 0 rfl rfl 2 (by decide) fl_X5_18 rfl dX5_addFour_36 ?_
    refine z_iconst (v := 1) G dX5_addFour_39 (by decide) ?_
    refine z_iadd G dX5_addFour_40 ?_
    refine z_put (ci := 5) (ws' := (w_X cI cJ cZ cN ta t_words t_wordCount (t_size + 1) (upd t_signs (ix t_size) ((jushr p1 x2) &&& 255)) t_next)) G in_X5 tyX5 tyX5_ok nmX5 0 rfl rfl 2 (by decide) fl_X5_18 rfl rfl rfl (Nat.le_of_ble_eq_true rfl) rfl dX5_addFour_41 ?_
    refine z_iinc (v := x2 + (-8)) (lv' := [(0, .ref (ta 0)), (1, .int p1), (2, .int (x2 + (-8)))]) G dX5_addFour_44 2 rfl rfl (by decide) [1, 2, 0] rfl ?_
    refine z_goto (tgt := 14) G dX5_addFour_47 (by decide) ?_
    exact hr14 (x2 + (-8)) (t_size + 1) (upd t_signs (ix t_size) ((jushr p1 x2) &&& 255)) h
noncomputable def f_X5_addFour_l14 (p1 : Int32)  (x2 : Int32) (t_size : Int32) (t_signs : Nat → Int32) : Option (Int32 × Int32 × (Nat → Int32)) := loopN (V := Int32 × Int32 × (Nat → Int32)) (fun rc v => f_X5_addFour_b14 p1  (fun x0_ x1_ x2_ => rc (x0_, x1_, x2_)) v.1 v.2.1 v.2.2) 200 (x2, t_size, t_signs)
set_option maxRecDepth 100000 in
set_option maxHeartbeats 4000000 in
theorem zl_X5_addFour_14 {p : Program} {l : Launch} {e : Env} {s : State} {m : MethodId} {args : Array Value} {below : List Frame} {meth : Method} {c : Code} {A : Nat → Prop} {dC : Nat → ClassId} {dI : Nat → Nat → Nat} {cI cJ cZ cN : ClassId} {ta : Nat → Nat} {t_words : Nat → Int32} {t_wordCount : Int32} {t_next : Int32} {p1 : Int32} {res : Int32 × Int32 × (Nat → Int32)} (G : zG p m c cX5_addFour 3 s args RX5 (dC, dI) vwCl (zT cI cJ cZ cN) A meth (some .boolean))  : ∀ (x2 : Int32) (t_size : Int32) (t_signs : Nat → Int32), f_X5_addFour_l14 p1  x2 t_size t_signs = some res → Z p l e ({ frames := 0, cells := 0, slots := 0, locals := 0 }) s m args below meth c (dC, dI) vwCl A 3 0 0 (MQ below (zQ (some (.int res.1)) (narrow .boolean (.int res.1) = .int res.1) (w_X cI cJ cZ cN ta t_words t_wordCount res.2.1 res.2.2 t_next) (dC, dI) vwCl A) args s 0 0 A) (w_X cI cJ cZ cN ta t_words t_wordCount t_size t_signs t_next) [(0, .ref (ta 0)), (1, .int p1), (2, .int x2)] [] 14 := by
  intro x2 t_size t_signs h
  exact zloop (P := fun v => Z p l e ({ frames := 0, cells := 0, slots := 0, locals := 0 }) s m args below meth c (dC, dI) vwCl A 3 0 0 (MQ below (zQ (some (.int res.1)) (narrow .boolean (.int res.1) = .int res.1) (w_X cI cJ cZ cN ta t_words t_wordCount res.2.1 res.2.2 t_next) (dC, dI) vwCl A) args s 0 0 A) (w_X cI cJ cZ cN ta t_words t_wordCount v.2.1 v.2.2 t_next) [(0, .ref (ta 0)), (1, .int p1), (2, .int v.1)] [] 14) (fun rc hr v h => zb_X5_addFour_14 G  (fun x0_ x1_ x2_ h => hr (x0_, x1_, x2_) h) v.1 v.2.1 v.2.2 h) 200 (x2, t_size, t_signs) h
noncomputable def f_X5_addFour (t_size : Int32) (t_signs : Nat → Int32) (p1 : Int32) : Option (Int32 × Int32 × (Nat → Int32)) :=
  if t_size ≤ 76 then f_X5_addFour_l14 p1  24 t_size t_signs else some (0, t_size, t_signs)
set_option maxRecDepth 100000 in
set_option maxHeartbeats 4000000 in
theorem c_X5_addFour {l : Launch} {dC : Nat → ClassId} {dI : Nat → Nat → Nat} {cI cJ cZ cN : ClassId} {ta : Nat → Nat} {t_words : Nat → Int32} {t_wordCount : Int32} {t_size : Int32} {t_signs : Nat → Int32} {t_next : Int32} {p1 : Int32} {res : Int32 × Int32 × (Nat → Int32)} (h : f_X5_addFour t_size t_signs p1 = some res) : zM l yX5_addFour cX5_addFour 3 (some .boolean) ({ frames := 0, cells := 0, slots := 0, locals := 0 }) [.ref (ta 0), .int p1] (dC, dI) vwCl (zT cI cJ cZ cN) (w_X cI cJ cZ cN ta t_words t_wordCount t_size t_signs t_next) (some (.int res.1)) (narrow .boolean (.int res.1) = .int res.1) (w_X cI cJ cZ cN ta t_words t_wordCount res.2.1 res.2.2 t_next) := by
  refine zM_of (own := RX5) (by decide) rfl [(0, .ref (ta 0)), (1, .int p1)] (Nat.le_of_ble_eq_true rfl) rfl ?_
  intro p e s m args below meth c A G _
  unfold f_X5_addFour at h
  refine z_aload_n G dX5_addFour_0 rfl 0 rfl ?_
  refine z_get (ci := 5) (v := .int t_size) G in_X5 0 rfl rfl 2 (by decide) fl_X5_18 rfl dX5_addFour_1 ?_
  refine z_bipush (v := 76) G dX5_addFour_4 (by decide) ?_
  refine z_icmp_le (tgt := 11) G dX5_addFour_6 (by decide) h (fun h => ?_) (fun h => ?_)
  · refine z_bipush (v := 24) G dX5_addFour_11 (by decide) ?_
    refine z_istore_n (lv' := [(0, .ref (ta 0)), (1, .int p1), (2, .int 24)]) G dX5_addFour_13 rfl (by decide) [1, 2, 0] rfl ?_
    exact zl_X5_addFour_14 G  24 t_size t_signs h
  · refine z_iconst (v := 0) G dX5_addFour_9 (by decide) ?_
    obtain rfl := Option.some.inj h
    exact z_zret G rfl zn0 dX5_addFour_10 rfl zn0 rfl

noncomputable def fo_X5_cut (t_size : Int32) (p1 : Int32) : Option (Int32 × Int32) :=
  if p1 < 0 then some (0, t_size) else if p1 ≤ t_size then some (1, p1) else some (0, t_size)
set_option maxRecDepth 100000 in
set_option maxHeartbeats 4000000 in
theorem co_X5_cut {l : Launch} {dC : Nat → ClassId} {dI : Nat → Nat → Nat} {cI cJ cZ cN : ClassId} {ta : Nat → Nat} {t_words : Nat → Int32} {t_wordCount : Int32} {t_size : Int32} {t_signs : Nat → Int32} {t_next : Int32} {p1 : Int32} {res : Int32 × Int32} (h : fo_X5_cut t_size p1 = some res) : zM l yX5_cut cX5_cut 2 (some .boolean) ({ frames := 0, cells := 0, slots := 0, locals := 0 }) [.ref (ta 0), .int p1] (dC, dI) vwCl (zT cI cJ cZ cN) (w_X cI cJ cZ cN ta t_words t_wordCount t_size t_signs t_next) (some (.int res.1)) (narrow .boolean (.int res.1) = .int res.1) (w_X cI cJ cZ cN ta t_words t_wordCount res.2 t_signs t_next) := by
  refine zM_of (own := RX5) (by decide) rfl [(0, .ref (ta 0)), (1, .int p1)] (Nat.le_of_ble_eq_true rfl) rfl ?_
  intro p e s m args below meth c A G _
  unfold fo_X5_cut at h
  refine z_iload_n G dX5_cut_0 rfl 1 rfl ?_
  refine z_if_lt (tgt := 12) G dX5_cut_1 (by decide) h (fun h => ?_) (fun h => ?_)
  · refine z_iconst (v := 0) G dX5_cut_12 (by decide) ?_
    obtain rfl := Option.some.inj h
    exact z_zret G rfl zn0 dX5_cut_13 rfl zn0 rfl
  · refine z_iload_n G dX5_cut_4 rfl 1 rfl ?_
    refine z_aload_n G dX5_cut_5 rfl 0 rfl ?_
    refine z_get (ci := 5) (v := .int t_size) G in_X5 0 rfl rfl 2 (by decide) fl_X5_18 rfl dX5_cut_6 ?_
    refine z_icmp_le (tgt := 14) G dX5_cut_9 (by decide) h (fun h => ?_) (fun h => ?_)
    · refine z_aload_n G dX5_cut_14 rfl 0 rfl ?_
      refine z_iload_n G dX5_cut_15 rfl 1 rfl ?_
      refine z_put (ci := 5) (ws' := (w_X cI cJ cZ cN ta t_words t_wordCount p1 t_signs t_next)) G in_X5 tyX5 tyX5_ok nmX5 0 rfl rfl 2 (by decide) fl_X5_18 rfl rfl rfl (Nat.le_of_ble_eq_true rfl) rfl dX5_cut_16 ?_
      refine z_iconst (v := 1) G dX5_cut_19 (by decide) ?_
      obtain rfl := Option.some.inj h
      exact z_zret G rfl zn1 dX5_cut_20 rfl zn1 rfl
    · refine z_iconst (v := 0) G dX5_cut_12 (by decide) ?_
      obtain rfl := Option.some.inj h
      exact z_zret G rfl zn0 dX5_cut_13 rfl zn0 rfl
noncomputable def f_X5_cut (t_size : Int32) (p1 : Int32) : Int32 × Int32 :=
  if p1 < 0 then (0, t_size) else if p1 ≤ t_size then (1, p1) else (0, t_size)
theorem fo_X5_cut_eq (t_size : Int32) (p1 : Int32) : fo_X5_cut t_size p1 = some (f_X5_cut t_size p1) := by
  unfold fo_X5_cut f_X5_cut
  first | rfl | ((repeat' split) <;> rfl) | (simp only [apply_ite Option.some])
theorem c_X5_cut {l : Launch} {dC : Nat → ClassId} {dI : Nat → Nat → Nat} {cI cJ cZ cN : ClassId} {ta : Nat → Nat} {t_words : Nat → Int32} {t_wordCount : Int32} {t_size : Int32} {t_signs : Nat → Int32} {t_next : Int32} {p1 : Int32} (_ : True = True) : zM l yX5_cut cX5_cut 2 (some .boolean) ({ frames := 0, cells := 0, slots := 0, locals := 0 }) [.ref (ta 0), .int p1] (dC, dI) vwCl (zT cI cJ cZ cN) (w_X cI cJ cZ cN ta t_words t_wordCount t_size t_signs t_next) (some (.int (f_X5_cut t_size p1).1)) (narrow .boolean (.int (f_X5_cut t_size p1).1) = .int (f_X5_cut t_size p1).1) (w_X cI cJ cZ cN ta t_words t_wordCount (f_X5_cut t_size p1).2 t_signs t_next) := co_X5_cut (fo_X5_cut_eq _ _)

noncomputable def fo_X5_clear (t_size : Int32) : Option (Int32) :=
  some (0)
set_option maxRecDepth 100000 in
set_option maxHeartbeats 4000000 in
theorem co_X5_clear {l : Launch} {dC : Nat → ClassId} {dI : Nat → Nat → Nat} {cI cJ cZ cN : ClassId} {ta : Nat → Nat} {t_words : Nat → Int32} {t_wordCount : Int32} {t_size : Int32} {t_signs : Nat → Int32} {t_next : Int32}  {res : Int32} (h : fo_X5_clear t_size = some res) : zM l yX5_clear cX5_clear 1 none ({ frames := 0, cells := 0, slots := 0, locals := 0 }) [.ref (ta 0)] (dC, dI) vwCl (zT cI cJ cZ cN) (w_X cI cJ cZ cN ta t_words t_wordCount t_size t_signs t_next) (none) (True) (w_X cI cJ cZ cN ta t_words t_wordCount res t_signs t_next) := by
  refine zM_of (own := RX5) (by decide) rfl [(0, .ref (ta 0))] (Nat.le_of_ble_eq_true rfl) rfl ?_
  intro p e s m args below meth c A G _
  unfold fo_X5_clear at h
  refine z_aload_n G dX5_clear_0 rfl 0 rfl ?_
  refine z_iconst (v := 0) G dX5_clear_1 (by decide) ?_
  refine z_put (ci := 5) (ws' := (w_X cI cJ cZ cN ta t_words t_wordCount 0 t_signs t_next)) G in_X5 tyX5 tyX5_ok nmX5 0 rfl rfl 2 (by decide) fl_X5_18 rfl rfl rfl (Nat.le_of_ble_eq_true rfl) rfl dX5_clear_2 ?_
  obtain rfl := Option.some.inj h
  exact z_vret G rfl dX5_clear_5 rfl trivial rfl
noncomputable def f_X5_clear (t_size : Int32) : Int32 :=
  (0)
theorem fo_X5_clear_eq (t_size : Int32) : fo_X5_clear t_size = some (f_X5_clear t_size) := by
  unfold fo_X5_clear f_X5_clear
  first | rfl | ((repeat' split) <;> rfl) | (simp only [apply_ite Option.some])
theorem c_X5_clear {l : Launch} {dC : Nat → ClassId} {dI : Nat → Nat → Nat} {cI cJ cZ cN : ClassId} {ta : Nat → Nat} {t_words : Nat → Int32} {t_wordCount : Int32} {t_size : Int32} {t_signs : Nat → Int32} {t_next : Int32}  (_ : True = True) : zM l yX5_clear cX5_clear 1 none ({ frames := 0, cells := 0, slots := 0, locals := 0 }) [.ref (ta 0)] (dC, dI) vwCl (zT cI cJ cZ cN) (w_X cI cJ cZ cN ta t_words t_wordCount t_size t_signs t_next) (none) (True) (w_X cI cJ cZ cN ta t_words t_wordCount (f_X5_clear t_size) t_signs t_next) := co_X5_clear (fo_X5_clear_eq _)

noncomputable def fo_X5_wrongSign (t_next : Int32) : Option (Int32) :=
  some ((-1) - t_next)
set_option maxRecDepth 100000 in
set_option maxHeartbeats 4000000 in
theorem co_X5_wrongSign {l : Launch} {dC : Nat → ClassId} {dI : Nat → Nat → Nat} {cI cJ cZ cN : ClassId} {ta : Nat → Nat} {t_words : Nat → Int32} {t_wordCount : Int32} {t_size : Int32} {t_signs : Nat → Int32} {t_next : Int32}  {res : Int32} (h : fo_X5_wrongSign t_next = some res) : zM l yX5_wrongSign cX5_wrongSign 1 (some .int) ({ frames := 0, cells := 0, slots := 0, locals := 0 }) [.ref (ta 0)] (dC, dI) vwCl (zT cI cJ cZ cN) (w_X cI cJ cZ cN ta t_words t_wordCount t_size t_signs t_next) (some (.int res)) (True) (w_X cI cJ cZ cN ta t_words t_wordCount t_size t_signs t_next) := by
  refine zM_of (own := RX5) (by decide) rfl [(0, .ref (ta 0))] (Nat.le_of_ble_eq_true rfl) rfl ?_
  intro p e s m args below meth c A G _
  unfold fo_X5_wrongSign at h
  refine z_iconst (v := (-1)) G dX5_wrongSign_0 (by decide) ?_
  refine z_aload_n G dX5_wrongSign_1 rfl 0 rfl ?_
  refine z_get (ci := 5) (v := .int t_next) G in_X5 0 rfl rfl 4 (by decide) fl_X5_22 rfl dX5_wrongSign_2 ?_
  refine z_isub G dX5_wrongSign_5 ?_
  obtain rfl := Option.some.inj h
  exact z_iret G rfl dX5_wrongSign_6 rfl trivial rfl
noncomputable def f_X5_wrongSign (t_next : Int32) : Int32 :=
  ((-1) - t_next)
theorem fo_X5_wrongSign_eq (t_next : Int32) : fo_X5_wrongSign t_next = some (f_X5_wrongSign t_next) := by
  unfold fo_X5_wrongSign f_X5_wrongSign
  first | rfl | ((repeat' split) <;> rfl) | (simp only [apply_ite Option.some])
theorem c_X5_wrongSign {l : Launch} {dC : Nat → ClassId} {dI : Nat → Nat → Nat} {cI cJ cZ cN : ClassId} {ta : Nat → Nat} {t_words : Nat → Int32} {t_wordCount : Int32} {t_size : Int32} {t_signs : Nat → Int32} {t_next : Int32}  (_ : True = True) : zM l yX5_wrongSign cX5_wrongSign 1 (some .int) ({ frames := 0, cells := 0, slots := 0, locals := 0 }) [.ref (ta 0)] (dC, dI) vwCl (zT cI cJ cZ cN) (w_X cI cJ cZ cN ta t_words t_wordCount t_size t_signs t_next) (some (.int (f_X5_wrongSign t_next))) (True) (w_X cI cJ cZ cN ta t_words t_wordCount t_size t_signs t_next) := co_X5_wrongSign (fo_X5_wrongSign_eq _)

noncomputable def fo_X5_start (t_wordCount : Int32) (t_next : Int32) : Option (Int32 × Int32) :=
  some (0, 0)
set_option maxRecDepth 100000 in
set_option maxHeartbeats 4000000 in
theorem co_X5_start {l : Launch} {dC : Nat → ClassId} {dI : Nat → Nat → Nat} {cI cJ cZ cN : ClassId} {ta : Nat → Nat} {t_words : Nat → Int32} {t_wordCount : Int32} {t_size : Int32} {t_signs : Nat → Int32} {t_next : Int32}  {res : Int32 × Int32} (h : fo_X5_start t_wordCount t_next = some res) : zM l yX5_start cX5_start 1 none ({ frames := 0, cells := 0, slots := 0, locals := 0 }) [.ref (ta 0)] (dC, dI) vwCl (zT cI cJ cZ cN) (w_X cI cJ cZ cN ta t_words t_wordCount t_size t_signs t_next) (none) (True) (w_X cI cJ cZ cN ta t_words res.1 t_size t_signs res.2) := by
  refine zM_of (own := RX5) (by decide) rfl [(0, .ref (ta 0))] (Nat.le_of_ble_eq_true rfl) rfl ?_
  intro p e s m args below meth c A G _
  unfold fo_X5_start at h
  refine z_aload_n G dX5_start_0 rfl 0 rfl ?_
  refine z_iconst (v := 0) G dX5_start_1 (by decide) ?_
  refine z_put (ci := 5) (ws' := (w_X cI cJ cZ cN ta t_words t_wordCount t_size t_signs 0)) G in_X5 tyX5 tyX5_ok nmX5 0 rfl rfl 4 (by decide) fl_X5_22 rfl rfl rfl (Nat.le_of_ble_eq_true rfl) rfl dX5_start_2 ?_
  refine z_aload_n G dX5_start_5 rfl 0 rfl ?_
  refine z_iconst (v := 0) G dX5_start_6 (by decide) ?_
  refine z_put (ci := 5) (ws' := (w_X cI cJ cZ cN ta t_words 0 t_size t_signs 0)) G in_X5 tyX5 tyX5_ok nmX5 0 rfl rfl 1 (by decide) fl_X5_66 rfl rfl rfl (Nat.le_of_ble_eq_true rfl) rfl dX5_start_7 ?_
  obtain rfl := Option.some.inj h
  exact z_vret G rfl dX5_start_10 rfl trivial rfl
noncomputable def f_X5_start (t_wordCount : Int32) (t_next : Int32) : Int32 × Int32 :=
  (0, 0)
theorem fo_X5_start_eq (t_wordCount : Int32) (t_next : Int32) : fo_X5_start t_wordCount t_next = some (f_X5_start t_wordCount t_next) := by
  unfold fo_X5_start f_X5_start
  first | rfl | ((repeat' split) <;> rfl) | (simp only [apply_ite Option.some])
theorem c_X5_start {l : Launch} {dC : Nat → ClassId} {dI : Nat → Nat → Nat} {cI cJ cZ cN : ClassId} {ta : Nat → Nat} {t_words : Nat → Int32} {t_wordCount : Int32} {t_size : Int32} {t_signs : Nat → Int32} {t_next : Int32}  (_ : True = True) : zM l yX5_start cX5_start 1 none ({ frames := 0, cells := 0, slots := 0, locals := 0 }) [.ref (ta 0)] (dC, dI) vwCl (zT cI cJ cZ cN) (w_X cI cJ cZ cN ta t_words t_wordCount t_size t_signs t_next) (none) (True) (w_X cI cJ cZ cN ta t_words (f_X5_start t_wordCount t_next).1 t_size t_signs (f_X5_start t_wordCount t_next).2) := co_X5_start (fo_X5_start_eq _ _)

noncomputable def f_X5_isLetter (t_size : Int32) (t_signs : Nat → Int32) (t_next : Int32) : Option (Int32) :=
  if t_size ≤ t_next then some (0) else chk (inb t_next 80) (if (t_signs (ix t_next)) < 97 then some (0) else chk (inb t_next 80) (if 122 < (t_signs (ix t_next)) then some (0) else some (1)))
set_option maxRecDepth 100000 in
set_option maxHeartbeats 4000000 in
theorem c_X5_isLetter {l : Launch} {dC : Nat → ClassId} {dI : Nat → Nat → Nat} {cI cJ cZ cN : ClassId} {ta : Nat → Nat} {t_words : Nat → Int32} {t_wordCount : Int32} {t_size : Int32} {t_signs : Nat → Int32} {t_next : Int32}  {res : Int32} (h : f_X5_isLetter t_size t_signs t_next = some res) : zM l yX5_isLetter cX5_isLetter 1 (some .boolean) ({ frames := 0, cells := 0, slots := 0, locals := 0 }) [.ref (ta 0)] (dC, dI) vwCl (zT cI cJ cZ cN) (w_X cI cJ cZ cN ta t_words t_wordCount t_size t_signs t_next) (some (.int res)) (narrow .boolean (.int res) = .int res) (w_X cI cJ cZ cN ta t_words t_wordCount t_size t_signs t_next) := by
  refine zM_of (own := RX5) (by decide) rfl [(0, .ref (ta 0))] (Nat.le_of_ble_eq_true rfl) rfl ?_
  intro p e s m args below meth c A G _
  unfold f_X5_isLetter at h
  refine z_aload_n G dX5_isLetter_0 rfl 0 rfl ?_
  refine z_get (ci := 5) (v := .int t_next) G in_X5 0 rfl rfl 4 (by decide) fl_X5_22 rfl dX5_isLetter_1 ?_
  refine z_aload_n G dX5_isLetter_4 rfl 0 rfl ?_
  refine z_get (ci := 5) (v := .int t_size) G in_X5 0 rfl rfl 2 (by decide) fl_X5_18 rfl dX5_isLetter_5 ?_
  refine z_icmp_ge (tgt := 43) G dX5_isLetter_8 (by decide) h (fun h => ?_) (fun h => ?_)
  · refine z_iconst (v := 0) G dX5_isLetter_43 (by decide) ?_
    obtain rfl := Option.some.inj h
    exact z_zret G rfl zn0 dX5_isLetter_44 rfl zn0 rfl
  · refine z_aload_n G dX5_isLetter_11 rfl 0 rfl ?_
    refine z_get (ci := 5) (v := .ref (ta 2)) G in_X5 0 rfl rfl 3 (by decide) fl_X5_15 rfl dX5_isLetter_12 ?_
    refine z_aload_n G dX5_isLetter_15 rfl 0 rfl ?_
    refine z_get (ci := 5) (v := .int t_next) G in_X5 0 rfl rfl 4 (by decide) fl_X5_22 rfl dX5_isLetter_16 ?_
    refine z_iaload G 2 0 rfl rfl dX5_isLetter_19 h (fun h => ?_)
    refine z_bipush (v := 97) G dX5_isLetter_20 (by decide) ?_
    refine z_icmp_lt (tgt := 43) G dX5_isLetter_22 (by decide) h (fun h => ?_) (fun h => ?_)
    · refine z_iconst (v := 0) G dX5_isLetter_43 (by decide) ?_
      obtain rfl := Option.some.inj h
      exact z_zret G rfl zn0 dX5_isLetter_44 rfl zn0 rfl
    · refine z_aload_n G dX5_isLetter_25 rfl 0 rfl ?_
      refine z_get (ci := 5) (v := .ref (ta 2)) G in_X5 0 rfl rfl 3 (by decide) fl_X5_15 rfl dX5_isLetter_26 ?_
      refine z_aload_n G dX5_isLetter_29 rfl 0 rfl ?_
      refine z_get (ci := 5) (v := .int t_next) G in_X5 0 rfl rfl 4 (by decide) fl_X5_22 rfl dX5_isLetter_30 ?_
      refine z_iaload G 2 0 rfl rfl dX5_isLetter_33 h (fun h => ?_)
      refine z_bipush (v := 122) G dX5_isLetter_34 (by decide) ?_
      refine z_icmp_gt (tgt := 43) G dX5_isLetter_36 (by decide) h (fun h => ?_) (fun h => ?_)
      · refine z_iconst (v := 0) G dX5_isLetter_43 (by decide) ?_
        obtain rfl := Option.some.inj h
        exact z_zret G rfl zn0 dX5_isLetter_44 rfl zn0 rfl
      · refine z_iconst (v := 1) G dX5_isLetter_39 (by decide) ?_
        refine z_goto (tgt := 44) G dX5_isLetter_40 (by decide) ?_
        obtain rfl := Option.some.inj h
        exact z_zret G rfl zn1 dX5_isLetter_44 rfl zn1 rfl

noncomputable def f_X5_readName (t_size : Int32) (t_signs : Nat → Int32) (t_next : Int32) : Option (Int32 × Int32) :=
  (f_X5_isLetter t_size t_signs t_next).bind (fun r1 => if r1 = 0 then some (0, t_next) else chk (inb t_next 80) ((f_X5_isLetter t_size t_signs (t_next + 1)).bind (fun r3 => if r3 = 0 then some (32 * (((t_signs (ix t_next)) - 97) + 1), t_next + 1) else chk (inb (t_next + 1) 80) (some ((32 * (((t_signs (ix t_next)) - 97) + 1)) + (((t_signs (ix (t_next + 1))) - 97) + 1), (t_next + 1) + 1)))))
set_option maxRecDepth 100000 in
set_option maxHeartbeats 4000000 in
theorem c_X5_readName {l : Launch} {dC : Nat → ClassId} {dI : Nat → Nat → Nat} {cI cJ cZ cN : ClassId} {ta : Nat → Nat} {t_words : Nat → Int32} {t_wordCount : Int32} {t_size : Int32} {t_signs : Nat → Int32} {t_next : Int32}  {res : Int32 × Int32} (h : f_X5_readName t_size t_signs t_next = some res) : zM l yX5_readName cX5_readName 2 (some .int) ({ frames := 1, cells := 0, slots := 0, locals := 20 }) [.ref (ta 0)] (dC, dI) vwCl (zT cI cJ cZ cN) (w_X cI cJ cZ cN ta t_words t_wordCount t_size t_signs t_next) (some (.int res.1)) (True) (w_X cI cJ cZ cN ta t_words t_wordCount t_size t_signs res.2) := by
  refine zM_of (own := RX5) (by decide) rfl [(0, .ref (ta 0))] (Nat.le_of_ble_eq_true rfl) rfl ?_
  intro p e s m args below meth c A G _
  unfold f_X5_readName at h
  refine z_aload_n G dX5_readName_0 rfl 0 rfl ?_
  obtain ⟨r1, e1, h⟩ := obind h
  refine z_kR (As := []) (rest := []) (st' := [.int r1]) G pk_X5_isLetter pv_X5_isLetter ml_X5_62 (c_X5_isLetter (ta := ta) (t_words := t_words) (t_wordCount := t_wordCount) (t_size := t_size) (t_signs := t_signs) (t_next := t_next) e1) ⟨rfl, rfl⟩ ⟨Nat.le_of_ble_eq_true rfl, Nat.le_of_ble_eq_true rfl⟩ ⟨Nat.zero_le _, Nat.zero_le _⟩ rfl rfl (Nat.le_of_ble_eq_true rfl) 0 5 rfl rfl rfl [0, 1, 2] rfl rfl rfl dX5_readName_1 (fun z2 => ?_)
  refine z_if_ne (tgt := 9) G dX5_readName_4 (by decide) h (fun h => ?_) (fun h => ?_)
  · refine z_bipush (v := 32) G dX5_readName_9 (by decide) ?_
    refine z_aload_n G dX5_readName_11 rfl 0 rfl ?_
    refine z_get (ci := 5) (v := .ref (ta 2)) G in_X5 0 rfl rfl 3 (by decide) fl_X5_15 rfl dX5_readName_12 ?_
    refine z_aload_n G dX5_readName_15 rfl 0 rfl ?_
    refine z_get (ci := 5) (v := .int t_next) G in_X5 0 rfl rfl 4 (by decide) fl_X5_22 rfl dX5_readName_16 ?_
    refine z_iaload G 2 0 rfl rfl dX5_readName_19 h (fun h => ?_)
    refine z_bipush (v := 97) G dX5_readName_20 (by decide) ?_
    refine z_isub G dX5_readName_22 ?_
    refine z_iconst (v := 1) G dX5_readName_23 (by decide) ?_
    refine z_iadd G dX5_readName_24 ?_
    refine z_imul G dX5_readName_25 ?_
    refine z_istore_n (lv' := [(0, .ref (ta 0)), (1, .int (32 * (((t_signs (ix t_next)) - 97) + 1)))]) G dX5_readName_26 rfl (by decide) [1, 0] rfl ?_
    refine z_aload_n G dX5_readName_27 rfl 0 rfl ?_
    refine z_dup G dX5_readName_28 rfl ?_
    refine z_get (ci := 5) (v := .int t_next) G in_X5 0 rfl rfl 4 (by decide) fl_X5_22 rfl dX5_readName_29 ?_
    refine z_iconst (v := 1) G dX5_readName_32 (by decide) ?_
    refine z_iadd G dX5_readName_33 ?_
    refine z_put (ci := 5) (ws' := (w_X cI cJ cZ cN ta t_words t_wordCount t_size t_signs (t_next + 1))) G in_X5 tyX5 tyX5_ok nmX5 0 rfl rfl 4 (by decide) fl_X5_22 rfl rfl rfl (Nat.le_of_ble_eq_true rfl) rfl dX5_readName_34 ?_
    refine z_aload_n G dX5_readName_37 rfl 0 rfl ?_
    obtain ⟨r3, e3, h⟩ := obind h
    refine z_kR (As := []) (rest := []) (st' := [.int r3]) G pk_X5_isLetter pv_X5_isLetter ml_X5_62 (c_X5_isLetter (ta := ta) (t_words := t_words) (t_wordCount := t_wordCount) (t_size := t_size) (t_signs := t_signs) (t_next := t_next + 1) e3) ⟨rfl, rfl⟩ ⟨Nat.le_of_ble_eq_true rfl, Nat.le_of_ble_eq_true rfl⟩ ⟨Nat.zero_le _, Nat.zero_le _⟩ rfl rfl (Nat.le_of_ble_eq_true rfl) 0 5 rfl rfl rfl [0, 1, 2] rfl rfl rfl dX5_readName_38 (fun z4 => ?_)
    refine z_if_eq (tgt := 71) G dX5_readName_41 (by decide) h (fun h => ?_) (fun h => ?_)
    · refine z_iload_n G dX5_readName_71 rfl 1 rfl ?_
      obtain rfl := Option.some.inj h
      exact z_iret G rfl dX5_readName_72 rfl trivial rfl
    · refine z_iload_n G dX5_readName_44 rfl 1 rfl ?_
      refine z_aload_n G dX5_readName_45 rfl 0 rfl ?_
      refine z_get (ci := 5) (v := .ref (ta 2)) G in_X5 0 rfl rfl 3 (by decide) fl_X5_15 rfl dX5_readName_46 ?_
      refine z_aload_n G dX5_readName_49 rfl 0 rfl ?_
      refine z_get (ci := 5) (v := .int (t_next + 1)) G in_X5 0 rfl rfl 4 (by decide) fl_X5_22 rfl dX5_readName_50 ?_
      refine z_iaload G 2 0 rfl rfl dX5_readName_53 h (fun h => ?_)
      refine z_bipush (v := 97) G dX5_readName_54 (by decide) ?_
      refine z_isub G dX5_readName_56 ?_
      refine z_iconst (v := 1) G dX5_readName_57 (by decide) ?_
      refine z_iadd G dX5_readName_58 ?_
      refine z_iadd G dX5_readName_59 ?_
      refine z_istore_n (lv' := [(0, .ref (ta 0)), (1, .int ((32 * (((t_signs (ix t_next)) - 97) + 1)) + (((t_signs (ix (t_next + 1))) - 97) + 1)))]) G dX5_readName_60 rfl (by decide) [1, 0] rfl ?_
      refine z_aload_n G dX5_readName_61 rfl 0 rfl ?_
      refine z_dup G dX5_readName_62 rfl ?_
      refine z_get (ci := 5) (v := .int (t_next + 1)) G in_X5 0 rfl rfl 4 (by decide) fl_X5_22 rfl dX5_readName_63 ?_
      refine z_iconst (v := 1) G dX5_readName_66 (by decide) ?_
      refine z_iadd G dX5_readName_67 ?_
      refine z_put (ci := 5) (ws' := (w_X cI cJ cZ cN ta t_words t_wordCount t_size t_signs ((t_next + 1) + 1))) G in_X5 tyX5 tyX5_ok nmX5 0 rfl rfl 4 (by decide) fl_X5_22 rfl rfl rfl (Nat.le_of_ble_eq_true rfl) rfl dX5_readName_68 ?_
      refine z_iload_n G dX5_readName_71 rfl 1 rfl ?_
      obtain rfl := Option.some.inj h
      exact z_iret G rfl dX5_readName_72 rfl trivial rfl
  · refine z_iconst (v := 0) G dX5_readName_7 (by decide) ?_
    obtain rfl := Option.some.inj h
    exact z_iret G rfl dX5_readName_8 rfl trivial rfl

noncomputable def f_X5_readOneName_b25 (t_size : Int32) (t_signs : Nat → Int32)  (x1 : Int32) (s0 : Int32) (t_wordCount : Int32) (t_next : Int32) : Option (Int32 × Int32 × Int32 × Int32) :=
  if s0 = 0 then some (0, t_wordCount, f_X5_clear t_size, t_next) else some (x1, t_wordCount, f_X5_clear t_size, t_next)
set_option maxRecDepth 100000 in
set_option maxHeartbeats 4000000 in
theorem zb_X5_readOneName_25 {p : Program} {l : Launch} {e : Env} {s : State} {m : MethodId} {args : Array Value} {below : List Frame} {meth : Method} {c : Code} {A : Nat → Prop} {dC : Nat → ClassId} {dI : Nat → Nat → Nat} {cI cJ cZ cN : ClassId} {ta : Nat → Nat} {t_words : Nat → Int32} {t_size : Int32} {t_signs : Nat → Int32}  {res : Int32 × Int32 × Int32 × Int32} (G : zG p m c cX5_readOneName 3 s args RX5 (dC, dI) vwCl (zT cI cJ cZ cN) A meth (some .int))  : ∀ (x1 : Int32) (s0 : Int32) (t_wordCount : Int32) (t_next : Int32), f_X5_readOneName_b25 t_size t_signs  x1 s0 t_wordCount t_next = some res → Z p l e ({ frames := 2, cells := 0, slots := 0, locals := 41 }) s m args below meth c (dC, dI) vwCl A 3 0 0 (MQ below (zQ (some (.int res.1)) (True) (w_X cI cJ cZ cN ta t_words res.2.1 res.2.2.1 t_signs res.2.2.2) (dC, dI) vwCl A) args s 0 0 A) (w_X cI cJ cZ cN ta t_words t_wordCount t_size t_signs t_next) [(0, .ref (ta 0)), (1, .int x1)] [.int s0] 25 := by
  intro x1 s0 t_wordCount t_next h
  unfold f_X5_readOneName_b25 at h
  refine z_istore_n (lv' := [(0, .ref (ta 0)), (1, .int x1), (2, .int s0)]) G dX5_readOneName_25 rfl (by decide) [1, 2, 0] rfl ?_
  refine z_aload_n G dX5_readOneName_26 rfl 0 rfl ?_
  refine z_kV (As := []) (rest := []) (st' := []) (ws' := (w_X cI cJ cZ cN ta t_words t_wordCount (f_X5_clear t_size) t_signs t_next)) G pk_X5_clear pv_X5_clear ml_X5_32 (c_X5_clear (ta := ta) (t_words := t_words) (t_wordCount := t_wordCount) (t_size := t_size) (t_signs := t_signs) (t_next := t_next) rfl) ⟨rfl, rfl⟩ ⟨Nat.le_of_ble_eq_true rfl, Nat.le_of_ble_eq_true rfl⟩ ⟨Nat.zero_le _, Nat.zero_le _⟩ rfl rfl (Nat.le_of_ble_eq_true rfl) 0 5 rfl rfl rfl [0, 1, 2] rfl rfl [some 0, some 1, some 2] rfl rfl rfl rfl dX5_readOneName_27 (fun z4 => ?_)
  refine z_iload_n G dX5_readOneName_30 rfl 2 rfl ?_
  refine z_if_eq (tgt := 38) G dX5_readOneName_31 (by decide) h (fun h => ?_) (fun h => ?_)
  · refine z_iconst (v := 0) G dX5_readOneName_38 (by decide) ?_
    obtain rfl := Option.some.inj h
    exact z_iret G rfl dX5_readOneName_39 rfl trivial rfl
  · refine z_iload_n G dX5_readOneName_34 rfl 1 rfl ?_
    refine z_goto (tgt := 39) G dX5_readOneName_35 (by decide) ?_
    obtain rfl := Option.some.inj h
    exact z_iret G rfl dX5_readOneName_39 rfl trivial rfl
noncomputable def f_X5_readOneName (t_wordCount : Int32) (t_size : Int32) (t_signs : Nat → Int32) (t_next : Int32) : Option (Int32 × Int32 × Int32 × Int32) :=
  (f_X5_readName t_size t_signs ((f_X5_start t_wordCount t_next).2)).bind (fun r2 => if r2.2 = t_size then f_X5_readOneName_b25 t_size t_signs  r2.1 1 ((f_X5_start t_wordCount t_next).1) r2.2 else f_X5_readOneName_b25 t_size t_signs  r2.1 0 ((f_X5_start t_wordCount t_next).1) r2.2)
set_option maxRecDepth 100000 in
set_option maxHeartbeats 4000000 in
theorem c_X5_readOneName {l : Launch} {dC : Nat → ClassId} {dI : Nat → Nat → Nat} {cI cJ cZ cN : ClassId} {ta : Nat → Nat} {t_words : Nat → Int32} {t_wordCount : Int32} {t_size : Int32} {t_signs : Nat → Int32} {t_next : Int32}  {res : Int32 × Int32 × Int32 × Int32} (h : f_X5_readOneName t_wordCount t_size t_signs t_next = some res) : zM l yX5_readOneName cX5_readOneName 3 (some .int) ({ frames := 2, cells := 0, slots := 0, locals := 41 }) [.ref (ta 0)] (dC, dI) vwCl (zT cI cJ cZ cN) (w_X cI cJ cZ cN ta t_words t_wordCount t_size t_signs t_next) (some (.int res.1)) (True) (w_X cI cJ cZ cN ta t_words res.2.1 res.2.2.1 t_signs res.2.2.2) := by
  refine zM_of (own := RX5) (by decide) rfl [(0, .ref (ta 0))] (Nat.le_of_ble_eq_true rfl) rfl ?_
  intro p e s m args below meth c A G _
  unfold f_X5_readOneName at h
  refine z_aload_n G dX5_readOneName_0 rfl 0 rfl ?_
  refine z_kV (As := []) (rest := []) (st' := []) (ws' := (w_X cI cJ cZ cN ta t_words ((f_X5_start t_wordCount t_next).1) t_size t_signs ((f_X5_start t_wordCount t_next).2))) G pk_X5_start pv_X5_start ml_X5_25 (c_X5_start (ta := ta) (t_words := t_words) (t_wordCount := t_wordCount) (t_size := t_size) (t_signs := t_signs) (t_next := t_next) rfl) ⟨rfl, rfl⟩ ⟨Nat.le_of_ble_eq_true rfl, Nat.le_of_ble_eq_true rfl⟩ ⟨Nat.zero_le _, Nat.zero_le _⟩ rfl rfl (Nat.le_of_ble_eq_true rfl) 0 5 rfl rfl rfl [0, 1, 2] rfl rfl [some 0, some 1, some 2] rfl rfl rfl rfl dX5_readOneName_1 (fun z1 => ?_)
  refine z_aload_n G dX5_readOneName_4 rfl 0 rfl ?_
  obtain ⟨r2, e2, h⟩ := obind h
  refine z_kV (As := []) (rest := []) (st' := [.int r2.1]) (ws' := (w_X cI cJ cZ cN ta t_words ((f_X5_start t_wordCount t_next).1) t_size t_signs r2.2)) G pk_X5_readName pv_X5_readName ml_X5_28 (c_X5_readName (ta := ta) (t_words := t_words) (t_wordCount := (f_X5_start t_wordCount t_next).1) (t_size := t_size) (t_signs := t_signs) (t_next := (f_X5_start t_wordCount t_next).2) e2) ⟨rfl, rfl⟩ ⟨Nat.le_of_ble_eq_true rfl, Nat.le_of_ble_eq_true rfl⟩ ⟨Nat.zero_le _, Nat.zero_le _⟩ rfl rfl (Nat.le_of_ble_eq_true rfl) 0 5 rfl rfl rfl [0, 1, 2] rfl rfl [some 0, some 1, some 2] rfl rfl rfl rfl dX5_readOneName_5 (fun z3 => ?_)
  refine z_istore_n (lv' := [(0, .ref (ta 0)), (1, .int r2.1)]) G dX5_readOneName_8 rfl (by decide) [1, 0] rfl ?_
  refine z_aload_n G dX5_readOneName_9 rfl 0 rfl ?_
  refine z_get (ci := 5) (v := .int r2.2) G in_X5 0 rfl rfl 4 (by decide) fl_X5_22 rfl dX5_readOneName_10 ?_
  refine z_aload_n G dX5_readOneName_13 rfl 0 rfl ?_
  refine z_get (ci := 5) (v := .int t_size) G in_X5 0 rfl rfl 2 (by decide) fl_X5_18 rfl dX5_readOneName_14 ?_
  refine z_icmp_ne (tgt := 24) G dX5_readOneName_17 (by decide) h (fun h => ?_) (fun h => ?_)
  · refine z_iconst (v := 0) G dX5_readOneName_24 (by decide) ?_
    exact zb_X5_readOneName_25 G  r2.1 0 ((f_X5_start t_wordCount t_next).1) r2.2 h
  · refine z_iconst (v := 1) G dX5_readOneName_20 (by decide) ?_
    refine z_goto (tgt := 25) G dX5_readOneName_21 (by decide) ?_
    exact zb_X5_readOneName_25 G  r2.1 1 ((f_X5_start t_wordCount t_next).1) r2.2 h

noncomputable def f_X5_readTerm (t_size : Int32) (t_signs : Nat → Int32) (t_next : Int32) (n_names : Nat → Int32) (n_owners : Nat → Int32) (n_nameCount : Int32) : Option (Int32 × Int32) :=
  (f_X5_readName t_size t_signs t_next).bind (fun r1 => if r1.1 = 0 then some ((-1), r1.2) else (f_X2_ownerOf n_names n_owners n_nameCount r1.1).bind (fun r3 => if 0 ≤ r3 then some (r3, r1.2) else some (r3, t_next)))
set_option maxRecDepth 100000 in
set_option maxHeartbeats 4000000 in
theorem c_X5_readTerm {l : Launch} {dC : Nat → ClassId} {dI : Nat → Nat → Nat} {cI cJ cZ cN : ClassId} {ta : Nat → Nat} {na : Nat → Nat} {t_words : Nat → Int32} {t_wordCount : Int32} {t_size : Int32} {t_signs : Nat → Int32} {t_next : Int32} {n_narrower : Nat → Int32} {n_order : Nat → Int32} {n_items : Nat → Int64} {n_names : Nat → Int32} {n_owners : Nat → Int32} {n_moving : Nat → Int32} {n_all : Int32} {n_size : Int32} {n_nameCount : Int32}  {res : Int32 × Int32} (h : f_X5_readTerm t_size t_signs t_next n_names n_owners n_nameCount = some res) : zM l yX5_readTerm cX5_readTerm 5 (some .int) ({ frames := 2, cells := 0, slots := 0, locals := 41 }) [.ref (ta 0), .ref (na 0)] (dC, dI) vwCl (zT cI cJ cZ cN) (w_XN cI cJ cZ cN ta na t_words t_wordCount t_size t_signs t_next n_narrower n_order n_items n_names n_owners n_moving n_all n_size n_nameCount) (some (.int res.1)) (True) (w_XN cI cJ cZ cN ta na t_words t_wordCount t_size t_signs res.2 n_narrower n_order n_items n_names n_owners n_moving n_all n_size n_nameCount) := by
  refine zM_of (own := RX5) (by decide) rfl [(0, .ref (ta 0)), (1, .ref (na 0))] (Nat.le_of_ble_eq_true rfl) rfl ?_
  intro p e s m args below meth c A G _
  unfold f_X5_readTerm at h
  refine z_aload_n G dX5_readTerm_0 rfl 0 rfl ?_
  refine z_get (ci := 5) (v := .int t_next) G in_X5 0 rfl rfl 4 (by decide) fl_X5_22 rfl dX5_readTerm_1 ?_
  refine z_istore_n (lv' := [(0, .ref (ta 0)), (1, .ref (na 0)), (2, .int t_next)]) G dX5_readTerm_4 rfl (by decide) [1, 2, 0] rfl ?_
  refine z_aload_n G dX5_readTerm_5 rfl 0 rfl ?_
  obtain ⟨r1, e1, h⟩ := obind h
  refine z_kV (As := []) (rest := []) (st' := [.int r1.1]) (ws' := (w_XN cI cJ cZ cN ta na t_words t_wordCount t_size t_signs r1.2 n_narrower n_order n_items n_names n_owners n_moving n_all n_size n_nameCount)) G pk_X5_readName pv_X5_readName ml_X5_28 (c_X5_readName (ta := ta) (t_words := t_words) (t_wordCount := t_wordCount) (t_size := t_size) (t_signs := t_signs) (t_next := t_next) e1) ⟨rfl, rfl⟩ ⟨Nat.le_of_ble_eq_true rfl, Nat.le_of_ble_eq_true rfl⟩ ⟨Nat.zero_le _, Nat.zero_le _⟩ rfl rfl (Nat.le_of_ble_eq_true rfl) 0 5 rfl rfl rfl [0, 1, 2] rfl rfl [some 0, some 1, some 2, none, none, none, none, none, none, none] rfl rfl rfl rfl dX5_readTerm_6 (fun z2 => ?_)
  refine z_istore_n (lv' := [(0, .ref (ta 0)), (1, .ref (na 0)), (2, .int t_next), (3, .int r1.1)]) G dX5_readTerm_9 rfl (by decide) [1, 2, 3, 0] rfl ?_
  refine z_iload_n G dX5_readTerm_10 rfl 3 rfl ?_
  refine z_if_ne (tgt := 16) G dX5_readTerm_11 (by decide) h (fun h => ?_) (fun h => ?_)
  · refine z_aload_n G dX5_readTerm_16 rfl 1 rfl ?_
    refine z_iload_n G dX5_readTerm_17 rfl 3 rfl ?_
    obtain ⟨r3, e3, h⟩ := obind h
    refine z_kR (As := [.int r1.1]) (rest := []) (st' := [.int r3]) G pk_X2_ownerOf pv_X2_ownerOf ml_X5_57 (c_X2_ownerOf (ta := na) (t_narrower := n_narrower) (t_order := n_order) (t_items := n_items) (t_names := n_names) (t_owners := n_owners) (t_moving := n_moving) (t_all := n_all) (t_size := n_size) (t_nameCount := n_nameCount) (p1 := r1.1) e3) ⟨rfl, rfl⟩ ⟨Nat.le_of_ble_eq_true rfl, Nat.le_of_ble_eq_true rfl⟩ ⟨Nat.zero_le _, Nat.zero_le _⟩ rfl rfl (Nat.le_of_ble_eq_true rfl) 3 2 rfl rfl rfl [3, 4, 5, 6, 7, 8, 9] rfl rfl rfl dX5_readTerm_18 (fun z4 => ?_)
    refine z_istore (lv' := [(0, .ref (ta 0)), (1, .ref (na 0)), (2, .int t_next), (3, .int r1.1), (4, .int r3)]) G dX5_readTerm_21 (by decide) [1, 2, 3, 4, 0] rfl ?_
    refine z_iload G dX5_readTerm_23 4 rfl ?_
    refine z_if_ge (tgt := 33) G dX5_readTerm_25 (by decide) h (fun h => ?_) (fun h => ?_)
    · refine z_iload G dX5_readTerm_33 4 rfl ?_
      obtain rfl := Option.some.inj h
      exact z_iret G rfl dX5_readTerm_35 rfl trivial rfl
    · refine z_aload_n G dX5_readTerm_28 rfl 0 rfl ?_
      refine z_iload_n G dX5_readTerm_29 rfl 2 rfl ?_
      refine z_put (ci := 5) (ws' := (w_XN cI cJ cZ cN ta na t_words t_wordCount t_size t_signs t_next n_narrower n_order n_items n_names n_owners n_moving n_all n_size n_nameCount)) G in_X5 tyX5 tyX5_ok nmX5 0 rfl rfl 4 (by decide) fl_X5_22 rfl rfl rfl (Nat.le_of_ble_eq_true rfl) rfl dX5_readTerm_30 ?_
      refine z_iload G dX5_readTerm_33 4 rfl ?_
      obtain rfl := Option.some.inj h
      exact z_iret G rfl dX5_readTerm_35 rfl trivial rfl
  · refine z_iconst (v := (-1)) G dX5_readTerm_14 (by decide) ?_
    obtain rfl := Option.some.inj h
    exact z_iret G rfl dX5_readTerm_15 rfl trivial rfl

noncomputable def f_X5_passes (t_size : Int32) (t_signs : Nat → Int32) (t_next : Int32) (p1 : Int32) : Option (Int32 × Int32) :=
  if t_size ≤ t_next then some (0, t_next) else chk (inb t_next 80) (if (t_signs (ix t_next)) = p1 then some (1, t_next + 1) else some (0, t_next))
set_option maxRecDepth 100000 in
set_option maxHeartbeats 4000000 in
theorem c_X5_passes {l : Launch} {dC : Nat → ClassId} {dI : Nat → Nat → Nat} {cI cJ cZ cN : ClassId} {ta : Nat → Nat} {t_words : Nat → Int32} {t_wordCount : Int32} {t_size : Int32} {t_signs : Nat → Int32} {t_next : Int32} {p1 : Int32} {res : Int32 × Int32} (h : f_X5_passes t_size t_signs t_next p1 = some res) : zM l yX5_passes cX5_passes 2 (some .boolean) ({ frames := 0, cells := 0, slots := 0, locals := 0 }) [.ref (ta 0), .int p1] (dC, dI) vwCl (zT cI cJ cZ cN) (w_X cI cJ cZ cN ta t_words t_wordCount t_size t_signs t_next) (some (.int res.1)) (narrow .boolean (.int res.1) = .int res.1) (w_X cI cJ cZ cN ta t_words t_wordCount t_size t_signs res.2) := by
  refine zM_of (own := RX5) (by decide) rfl [(0, .ref (ta 0)), (1, .int p1)] (Nat.le_of_ble_eq_true rfl) rfl ?_
  intro p e s m args below meth c A G _
  unfold f_X5_passes at h
  refine z_aload_n G dX5_passes_0 rfl 0 rfl ?_
  refine z_get (ci := 5) (v := .int t_next) G in_X5 0 rfl rfl 4 (by decide) fl_X5_22 rfl dX5_passes_1 ?_
  refine z_aload_n G dX5_passes_4 rfl 0 rfl ?_
  refine z_get (ci := 5) (v := .int t_size) G in_X5 0 rfl rfl 2 (by decide) fl_X5_18 rfl dX5_passes_5 ?_
  refine z_icmp_ge (tgt := 24) G dX5_passes_8 (by decide) h (fun h => ?_) (fun h => ?_)
  · refine z_iconst (v := 0) G dX5_passes_24 (by decide) ?_
    obtain rfl := Option.some.inj h
    exact z_zret G rfl zn0 dX5_passes_25 rfl zn0 rfl
  · refine z_aload_n G dX5_passes_11 rfl 0 rfl ?_
    refine z_get (ci := 5) (v := .ref (ta 2)) G in_X5 0 rfl rfl 3 (by decide) fl_X5_15 rfl dX5_passes_12 ?_
    refine z_aload_n G dX5_passes_15 rfl 0 rfl ?_
    refine z_get (ci := 5) (v := .int t_next) G in_X5 0 rfl rfl 4 (by decide) fl_X5_22 rfl dX5_passes_16 ?_
    refine z_iaload G 2 0 rfl rfl dX5_passes_19 h (fun h => ?_)
    refine z_iload_n G dX5_passes_20 rfl 1 rfl ?_
    refine z_icmp_eq (tgt := 26) G dX5_passes_21 (by decide) h (fun h => ?_) (fun h => ?_)
    · refine z_aload_n G dX5_passes_26 rfl 0 rfl ?_
      refine z_dup G dX5_passes_27 rfl ?_
      refine z_get (ci := 5) (v := .int t_next) G in_X5 0 rfl rfl 4 (by decide) fl_X5_22 rfl dX5_passes_28 ?_
      refine z_iconst (v := 1) G dX5_passes_31 (by decide) ?_
      refine z_iadd G dX5_passes_32 ?_
      refine z_put (ci := 5) (ws' := (w_X cI cJ cZ cN ta t_words t_wordCount t_size t_signs (t_next + 1))) G in_X5 tyX5 tyX5_ok nmX5 0 rfl rfl 4 (by decide) fl_X5_22 rfl rfl rfl (Nat.le_of_ble_eq_true rfl) rfl dX5_passes_33 ?_
      refine z_iconst (v := 1) G dX5_passes_36 (by decide) ?_
      obtain rfl := Option.some.inj h
      exact z_zret G rfl zn1 dX5_passes_37 rfl zn1 rfl
    · refine z_iconst (v := 0) G dX5_passes_24 (by decide) ?_
      obtain rfl := Option.some.inj h
      exact z_zret G rfl zn0 dX5_passes_25 rfl zn0 rfl

noncomputable def f_X5_addWord (t_words : Nat → Int32) (t_wordCount : Int32) (p1 : Int32) : Option ((Nat → Int32) × Int32) :=
  if 80 ≤ t_wordCount then some (t_words, t_wordCount) else chk (inb t_wordCount 80) (some (upd t_words (ix t_wordCount) p1, t_wordCount + 1))
set_option maxRecDepth 100000 in
set_option maxHeartbeats 4000000 in
theorem c_X5_addWord {l : Launch} {dC : Nat → ClassId} {dI : Nat → Nat → Nat} {cI cJ cZ cN : ClassId} {ta : Nat → Nat} {t_words : Nat → Int32} {t_wordCount : Int32} {t_size : Int32} {t_signs : Nat → Int32} {t_next : Int32} {p1 : Int32} {res : (Nat → Int32) × Int32} (h : f_X5_addWord t_words t_wordCount p1 = some res) : zM l yX5_addWord cX5_addWord 2 none ({ frames := 0, cells := 0, slots := 0, locals := 0 }) [.ref (ta 0), .int p1] (dC, dI) vwCl (zT cI cJ cZ cN) (w_X cI cJ cZ cN ta t_words t_wordCount t_size t_signs t_next) (none) (True) (w_X cI cJ cZ cN ta res.1 res.2 t_size t_signs t_next) := by
  refine zM_of (own := RX5) (by decide) rfl [(0, .ref (ta 0)), (1, .int p1)] (Nat.le_of_ble_eq_true rfl) rfl ?_
  intro p e s m args below meth c A G _
  unfold f_X5_addWord at h
  refine z_aload_n G dX5_addWord_0 rfl 0 rfl ?_
  refine z_get (ci := 5) (v := .int t_wordCount) G in_X5 0 rfl rfl 1 (by decide) fl_X5_66 rfl dX5_addWord_1 ?_
  refine z_bipush (v := 80) G dX5_addWord_4 (by decide) ?_
  refine z_icmp_ge (tgt := 29) G dX5_addWord_6 (by decide) h (fun h => ?_) (fun h => ?_)
  · obtain rfl := Option.some.inj h
    exact z_vret G rfl dX5_addWord_29 rfl trivial rfl
  · refine z_aload_n G dX5_addWord_9 rfl 0 rfl ?_
    refine z_get (ci := 5) (v := .ref (ta 1)) G in_X5 0 rfl rfl 0 (by decide) fl_X5_9 rfl dX5_addWord_10 ?_
    refine z_aload_n G dX5_addWord_13 rfl 0 rfl ?_
    refine z_get (ci := 5) (v := .int t_wordCount) G in_X5 0 rfl rfl 1 (by decide) fl_X5_66 rfl dX5_addWord_14 ?_
    refine z_iload_n G dX5_addWord_17 rfl 1 rfl ?_
    refine z_iastore (ws' := (w_X cI cJ cZ cN ta (upd t_words (ix t_wordCount) p1) t_wordCount t_size t_signs t_next)) G 1 0 rfl rfl rfl dX5_addWord_18 h (fun h => ?_)
    refine z_aload_n G dX5_addWord_19 rfl 0 rfl ?_
    refine z_dup G dX5_addWord_20 rfl ?_
    refine z_get (ci := 5) (v := .int t_wordCount) G in_X5 0 rfl rfl 1 (by decide) fl_X5_66 rfl dX5_addWord_21 ?_
    refine z_iconst (v := 1) G dX5_addWord_24 (by decide) ?_
    refine z_iadd G dX5_addWord_25 ?_
    refine z_put (ci := 5) (ws' := (w_X cI cJ cZ cN ta (upd t_words (ix t_wordCount) p1) (t_wordCount + 1) t_size t_signs t_next)) G in_X5 tyX5 tyX5_ok nmX5 0 rfl rfl 1 (by decide) fl_X5_66 rfl rfl rfl (Nat.le_of_ble_eq_true rfl) rfl dX5_addWord_26 ?_
    obtain rfl := Option.some.inj h
    exact z_vret G rfl dX5_addWord_29 rfl trivial rfl

noncomputable def f_X5_readLinks_b15 (t_size : Int32) (t_signs : Nat → Int32) (n_names : Nat → Int32) (n_owners : Nat → Int32) (n_nameCount : Int32) (k15 : Int32 → (Nat → Int32) → Int32 → Int32 → Option (Int32 × (Nat → Int32) × Int32 × Int32)) (x2 : Int32) (t_words : Nat → Int32) (t_wordCount : Int32) (t_next : Int32) : Option (Int32 × (Nat → Int32) × Int32 × Int32) :=
  if 80 ≤ x2 then some (0, t_words, t_wordCount, t_next) else (f_X5_readTerm t_size t_signs t_next n_names n_owners n_nameCount).bind (fun r2 => if r2.1 < 0 then some (0, t_words, t_wordCount, r2.2) else (f_X5_passes t_size t_signs r2.2 62).bind (fun r4 => if r4.1 = 0 then some (0, t_words, t_wordCount, r4.2) else (f_X5_readTerm t_size t_signs r4.2 n_names n_owners n_nameCount).bind (fun r6 => if 0 ≤ r6.1 then (f_X5_addWord t_words t_wordCount ((100 * r2.1) + r6.1)).bind (fun r8 => if r6.2 = t_size then some (1, r8.1, r8.2, r6.2) else (f_X5_passes t_size t_signs r6.2 44).bind (fun r10 => if r10.1 = 0 then some (0, r8.1, r8.2, r10.2) else k15 (x2 + 1) r8.1 r8.2 r10.2)) else some (0, t_words, t_wordCount, r6.2))))
set_option maxRecDepth 100000 in
set_option maxHeartbeats 4000000 in
theorem zb_X5_readLinks_15 {p : Program} {l : Launch} {e : Env} {s : State} {m : MethodId} {args : Array Value} {below : List Frame} {meth : Method} {c : Code} {A : Nat → Prop} {dC : Nat → ClassId} {dI : Nat → Nat → Nat} {cI cJ cZ cN : ClassId} {ta : Nat → Nat} {na : Nat → Nat} {t_size : Int32} {t_signs : Nat → Int32} {n_narrower : Nat → Int32} {n_order : Nat → Int32} {n_items : Nat → Int64} {n_names : Nat → Int32} {n_owners : Nat → Int32} {n_moving : Nat → Int32} {n_all : Int32} {n_size : Int32} {n_nameCount : Int32}  {res : Int32 × (Nat → Int32) × Int32 × Int32} (G : zG p m c cX5_readLinks 5 s args RX5 (dC, dI) vwCl (zT cI cJ cZ cN) A meth (some .boolean)) {k15 : Int32 → (Nat → Int32) → Int32 → Int32 → Option (Int32 × (Nat → Int32) × Int32 × Int32)} (hr15 : ∀ (x2 : Int32) (t_words : Nat → Int32) (t_wordCount : Int32) (t_next : Int32), k15 x2 t_words t_wordCount t_next = some res → Z p l e ({ frames := 3, cells := 0, slots := 0, locals := 65 }) s m args below meth c (dC, dI) vwCl A 5 0 0 (MQ below (zQ (some (.int res.1)) (narrow .boolean (.int res.1) = .int res.1) (w_XN cI cJ cZ cN ta na res.2.1 res.2.2.1 t_size t_signs res.2.2.2 n_narrower n_order n_items n_names n_owners n_moving n_all n_size n_nameCount) (dC, dI) vwCl A) args s 0 0 A) (w_XN cI cJ cZ cN ta na t_words t_wordCount t_size t_signs t_next n_narrower n_order n_items n_names n_owners n_moving n_all n_size n_nameCount) [(0, .ref (ta 0)), (1, .ref (na 0)), (2, .int x2)] [] 15) : ∀ (x2 : Int32) (t_words : Nat → Int32) (t_wordCount : Int32) (t_next : Int32), f_X5_readLinks_b15 t_size t_signs n_names n_owners n_nameCount k15 x2 t_words t_wordCount t_next = some res → Z p l e ({ frames := 3, cells := 0, slots := 0, locals := 65 }) s m args below meth c (dC, dI) vwCl A 5 0 0 (MQ below (zQ (some (.int res.1)) (narrow .boolean (.int res.1) = .int res.1) (w_XN cI cJ cZ cN ta na res.2.1 res.2.2.1 t_size t_signs res.2.2.2 n_narrower n_order n_items n_names n_owners n_moving n_all n_size n_nameCount) (dC, dI) vwCl A) args s 0 0 A) (w_XN cI cJ cZ cN ta na t_words t_wordCount t_size t_signs t_next n_narrower n_order n_items n_names n_owners n_moving n_all n_size n_nameCount) [(0, .ref (ta 0)), (1, .ref (na 0)), (2, .int x2)] [] 15 := by
  intro x2 t_words t_wordCount t_next h
  unfold f_X5_readLinks_b15 at h
  refine z_iload_n G dX5_readLinks_15 rfl 2 rfl ?_
  refine z_bipush (v := 80) G dX5_readLinks_16 (by decide) ?_
  refine z_icmp_ge (tgt := 97) G dX5_readLinks_18 (by decide) h (fun h => ?_) (fun h => ?_)
  · refine z_iconst (v := 0) G dX5_readLinks_97 (by decide) ?_
    obtain rfl := Option.some.inj h
    exact z_zret G rfl zn0 dX5_readLinks_98 rfl zn0 rfl
  · refine z_aload_n G dX5_readLinks_21 rfl 0 rfl ?_
    refine z_aload_n G dX5_readLinks_22 rfl 1 rfl ?_
    obtain ⟨r2, e2, h⟩ := obind h
    refine z_kV (As := [.ref (na 0)]) (rest := []) (st' := [.int r2.1]) (ws' := (w_XN cI cJ cZ cN ta na t_words t_wordCount t_size t_signs r2.2 n_narrower n_order n_items n_names n_owners n_moving n_all n_size n_nameCount)) G pk_X5_readTerm pv_X5_readTerm ml_X5_35 (c_X5_readTerm (ta := ta) (na := na) (t_words := t_words) (t_wordCount := t_wordCount) (t_size := t_size) (t_signs := t_signs) (t_next := t_next) (n_narrower := n_narrower) (n_order := n_order) (n_items := n_items) (n_names := n_names) (n_owners := n_owners) (n_moving := n_moving) (n_all := n_all) (n_size := n_size) (n_nameCount := n_nameCount) e2) ⟨rfl, rfl⟩ ⟨Nat.le_of_ble_eq_true rfl, Nat.le_of_ble_eq_true rfl⟩ ⟨Nat.zero_le _, Nat.zero_le _⟩ rfl rfl (Nat.le_of_ble_eq_true rfl) 0 5 rfl rfl rfl [0, 1, 2, 3, 4, 5, 6, 7, 8, 9] rfl rfl [some 0, some 1, some 2, some 3, some 4, some 5, some 6, some 7, some 8, some 9] rfl rfl rfl rfl dX5_readLinks_23 (fun z3 => ?_)
    refine z_istore_n (lv' := [(0, .ref (ta 0)), (1, .ref (na 0)), (2, .int x2), (3, .int r2.1)]) G dX5_readLinks_26 rfl (by decide) [1, 2, 3, 0] rfl ?_
    refine z_iload_n G dX5_readLinks_27 rfl 3 rfl ?_
    refine z_if_lt (tgt := 40) G dX5_readLinks_28 (by decide) h (fun h => ?_) (fun h => ?_)
    · refine z_iconst (v := 0) G dX5_readLinks_40 (by decide) ?_
      obtain rfl := Option.some.inj h
      exact z_zret G rfl zn0 dX5_readLinks_41 rfl zn0 rfl
    · refine z_aload_n G dX5_readLinks_31 rfl 0 rfl ?_
      refine z_bipush (v := 62) G dX5_readLinks_32 (by decide) ?_
      obtain ⟨r4, e4, h⟩ := obind h
      refine z_kV (As := [.int 62]) (rest := []) (st' := [.int r4.1]) (ws' := (w_XN cI cJ cZ cN ta na t_words t_wordCount t_size t_signs r4.2 n_narrower n_order n_items n_names n_owners n_moving n_all n_size n_nameCount)) G pk_X5_passes pv_X5_passes ml_X5_39 (c_X5_passes (ta := ta) (t_words := t_words) (t_wordCount := t_wordCount) (t_size := t_size) (t_signs := t_signs) (t_next := r2.2) (p1 := 62) e4) ⟨rfl, rfl⟩ ⟨Nat.le_of_ble_eq_true rfl, Nat.le_of_ble_eq_true rfl⟩ ⟨Nat.zero_le _, Nat.zero_le _⟩ rfl rfl (Nat.le_of_ble_eq_true rfl) 0 5 rfl rfl rfl [0, 1, 2] rfl rfl [some 0, some 1, some 2, none, none, none, none, none, none, none] rfl rfl rfl rfl dX5_readLinks_34 (fun z5 => ?_)
      refine z_if_ne (tgt := 42) G dX5_readLinks_37 (by decide) h (fun h => ?_) (fun h => ?_)
      · refine z_aload_n G dX5_readLinks_42 rfl 0 rfl ?_
        refine z_aload_n G dX5_readLinks_43 rfl 1 rfl ?_
        obtain ⟨r6, e6, h⟩ := obind h
        refine z_kV (As := [.ref (na 0)]) (rest := []) (st' := [.int r6.1]) (ws' := (w_XN cI cJ cZ cN ta na t_words t_wordCount t_size t_signs r6.2 n_narrower n_order n_items n_names n_owners n_moving n_all n_size n_nameCount)) G pk_X5_readTerm pv_X5_readTerm ml_X5_35 (c_X5_readTerm (ta := ta) (na := na) (t_words := t_words) (t_wordCount := t_wordCount) (t_size := t_size) (t_signs := t_signs) (t_next := r4.2) (n_narrower := n_narrower) (n_order := n_order) (n_items := n_items) (n_names := n_names) (n_owners := n_owners) (n_moving := n_moving) (n_all := n_all) (n_size := n_size) (n_nameCount := n_nameCount) e6) ⟨rfl, rfl⟩ ⟨Nat.le_of_ble_eq_true rfl, Nat.le_of_ble_eq_true rfl⟩ ⟨Nat.zero_le _, Nat.zero_le _⟩ rfl rfl (Nat.le_of_ble_eq_true rfl) 0 5 rfl rfl rfl [0, 1, 2, 3, 4, 5, 6, 7, 8, 9] rfl rfl [some 0, some 1, some 2, some 3, some 4, some 5, some 6, some 7, some 8, some 9] rfl rfl rfl rfl dX5_readLinks_44 (fun z7 => ?_)
        refine z_istore (lv' := [(0, .ref (ta 0)), (1, .ref (na 0)), (2, .int x2), (3, .int r2.1), (4, .int r6.1)]) G dX5_readLinks_47 (by decide) [1, 2, 3, 4, 0] rfl ?_
        refine z_iload G dX5_readLinks_49 4 rfl ?_
        refine z_if_ge (tgt := 56) G dX5_readLinks_51 (by decide) h (fun h => ?_) (fun h => ?_)
        · refine z_aload_n G dX5_readLinks_56 rfl 0 rfl ?_
          refine z_bipush (v := 100) G dX5_readLinks_57 (by decide) ?_
          refine z_iload_n G dX5_readLinks_59 rfl 3 rfl ?_
          refine z_imul G dX5_readLinks_60 ?_
          refine z_iload G dX5_readLinks_61 4 rfl ?_
          refine z_iadd G dX5_readLinks_63 ?_
          obtain ⟨r8, e8, h⟩ := obind h
          refine z_kV (As := [.int ((100 * r2.1) + r6.1)]) (rest := []) (st' := []) (ws' := (w_XN cI cJ cZ cN ta na r8.1 r8.2 t_size t_signs r6.2 n_narrower n_order n_items n_names n_owners n_moving n_all n_size n_nameCount)) G pk_X5_addWord pv_X5_addWord ml_X5_43 (c_X5_addWord (ta := ta) (t_words := t_words) (t_wordCount := t_wordCount) (t_size := t_size) (t_signs := t_signs) (t_next := r6.2) (p1 := (100 * r2.1) + r6.1) e8) ⟨rfl, rfl⟩ ⟨Nat.le_of_ble_eq_true rfl, Nat.le_of_ble_eq_true rfl⟩ ⟨Nat.zero_le _, Nat.zero_le _⟩ rfl rfl (Nat.le_of_ble_eq_true rfl) 0 5 rfl rfl rfl [0, 1, 2] rfl rfl [some 0, some 1, some 2, none, none, none, none, none, none, none] rfl rfl rfl rfl dX5_readLinks_64 (fun z9 => ?_)
          refine z_aload_n G dX5_readLinks_67 rfl 0 rfl ?_
          refine z_get (ci := 5) (v := .int r6.2) G in_X5 0 rfl rfl 4 (by decide) fl_X5_22 rfl dX5_readLinks_68 ?_
          refine z_aload_n G dX5_readLinks_71 rfl 0 rfl ?_
          refine z_get (ci := 5) (v := .int t_size) G in_X5 0 rfl rfl 2 (by decide) fl_X5_18 rfl dX5_readLinks_72 ?_
          refine z_icmp_ne (tgt := 80) G dX5_readLinks_75 (by decide) h (fun h => ?_) (fun h => ?_)
          · refine z_aload_n G dX5_readLinks_80 rfl 0 rfl ?_
            refine z_bipush (v := 44) G dX5_readLinks_81 (by decide) ?_
            obtain ⟨r10, e10, h⟩ := obind h
            refine z_kV (As := [.int 44]) (rest := []) (st' := [.int r10.1]) (ws' := (w_XN cI cJ cZ cN ta na r8.1 r8.2 t_size t_signs r10.2 n_narrower n_order n_items n_names n_owners n_moving n_all n_size n_nameCount)) G pk_X5_passes pv_X5_passes ml_X5_39 (c_X5_passes (ta := ta) (t_words := r8.1) (t_wordCount := r8.2) (t_size := t_size) (t_signs := t_signs) (t_next := r6.2) (p1 := 44) e10) ⟨rfl, rfl⟩ ⟨Nat.le_of_ble_eq_true rfl, Nat.le_of_ble_eq_true rfl⟩ ⟨Nat.zero_le _, Nat.zero_le _⟩ rfl rfl (Nat.le_of_ble_eq_true rfl) 0 5 rfl rfl rfl [0, 1, 2] rfl rfl [some 0, some 1, some 2, none, none, none, none, none, none, none] rfl rfl rfl rfl dX5_readLinks_83 (fun z11 => ?_)
            refine z_if_ne (tgt := 91) G dX5_readLinks_86 (by decide) h (fun h => ?_) (fun h => ?_)
            · refine z_iinc (v := x2 + 1) (lv' := [(0, .ref (ta 0)), (1, .ref (na 0)), (2, .int (x2 + 1)), (3, .int r2.1), (4, .int r6.1)]) G dX5_readLinks_91 2 rfl rfl (by decide) [1, 2, 0, 3, 4] rfl ?_
              refine z_goto (tgt := 15) G dX5_readLinks_94 (by decide) ?_
              refine z_lv [0, 1, 2] rfl ?_
              exact hr15 (x2 + 1) r8.1 r8.2 r10.2 h
            · refine z_iconst (v := 0) G dX5_readLinks_89 (by decide) ?_
              obtain rfl := Option.some.inj h
              exact z_zret G rfl zn0 dX5_readLinks_90 rfl zn0 rfl
          · refine z_iconst (v := 1) G dX5_readLinks_78 (by decide) ?_
            obtain rfl := Option.some.inj h
            exact z_zret G rfl zn1 dX5_readLinks_79 rfl zn1 rfl
        · refine z_iconst (v := 0) G dX5_readLinks_54 (by decide) ?_
          obtain rfl := Option.some.inj h
          exact z_zret G rfl zn0 dX5_readLinks_55 rfl zn0 rfl
      · refine z_iconst (v := 0) G dX5_readLinks_40 (by decide) ?_
        obtain rfl := Option.some.inj h
        exact z_zret G rfl zn0 dX5_readLinks_41 rfl zn0 rfl
noncomputable def f_X5_readLinks_l15 (t_size : Int32) (t_signs : Nat → Int32) (n_names : Nat → Int32) (n_owners : Nat → Int32) (n_nameCount : Int32)  (x2 : Int32) (t_words : Nat → Int32) (t_wordCount : Int32) (t_next : Int32) : Option (Int32 × (Nat → Int32) × Int32 × Int32) := loopN (V := Int32 × (Nat → Int32) × Int32 × Int32) (fun rc v => f_X5_readLinks_b15 t_size t_signs n_names n_owners n_nameCount  (fun x0_ x1_ x2_ x3_ => rc (x0_, x1_, x2_, x3_)) v.1 v.2.1 v.2.2.1 v.2.2.2) 200 (x2, t_words, t_wordCount, t_next)
set_option maxRecDepth 100000 in
set_option maxHeartbeats 4000000 in
theorem zl_X5_readLinks_15 {p : Program} {l : Launch} {e : Env} {s : State} {m : MethodId} {args : Array Value} {below : List Frame} {meth : Method} {c : Code} {A : Nat → Prop} {dC : Nat → ClassId} {dI : Nat → Nat → Nat} {cI cJ cZ cN : ClassId} {ta : Nat → Nat} {na : Nat → Nat} {t_size : Int32} {t_signs : Nat → Int32} {n_narrower : Nat → Int32} {n_order : Nat → Int32} {n_items : Nat → Int64} {n_names : Nat → Int32} {n_owners : Nat → Int32} {n_moving : Nat → Int32} {n_all : Int32} {n_size : Int32} {n_nameCount : Int32}  {res : Int32 × (Nat → Int32) × Int32 × Int32} (G : zG p m c cX5_readLinks 5 s args RX5 (dC, dI) vwCl (zT cI cJ cZ cN) A meth (some .boolean))  : ∀ (x2 : Int32) (t_words : Nat → Int32) (t_wordCount : Int32) (t_next : Int32), f_X5_readLinks_l15 t_size t_signs n_names n_owners n_nameCount  x2 t_words t_wordCount t_next = some res → Z p l e ({ frames := 3, cells := 0, slots := 0, locals := 65 }) s m args below meth c (dC, dI) vwCl A 5 0 0 (MQ below (zQ (some (.int res.1)) (narrow .boolean (.int res.1) = .int res.1) (w_XN cI cJ cZ cN ta na res.2.1 res.2.2.1 t_size t_signs res.2.2.2 n_narrower n_order n_items n_names n_owners n_moving n_all n_size n_nameCount) (dC, dI) vwCl A) args s 0 0 A) (w_XN cI cJ cZ cN ta na t_words t_wordCount t_size t_signs t_next n_narrower n_order n_items n_names n_owners n_moving n_all n_size n_nameCount) [(0, .ref (ta 0)), (1, .ref (na 0)), (2, .int x2)] [] 15 := by
  intro x2 t_words t_wordCount t_next h
  exact zloop (P := fun v => Z p l e ({ frames := 3, cells := 0, slots := 0, locals := 65 }) s m args below meth c (dC, dI) vwCl A 5 0 0 (MQ below (zQ (some (.int res.1)) (narrow .boolean (.int res.1) = .int res.1) (w_XN cI cJ cZ cN ta na res.2.1 res.2.2.1 t_size t_signs res.2.2.2 n_narrower n_order n_items n_names n_owners n_moving n_all n_size n_nameCount) (dC, dI) vwCl A) args s 0 0 A) (w_XN cI cJ cZ cN ta na v.2.1 v.2.2.1 t_size t_signs v.2.2.2 n_narrower n_order n_items n_names n_owners n_moving n_all n_size n_nameCount) [(0, .ref (ta 0)), (1, .ref (na 0)), (2, .int v.1)] [] 15) (fun rc hr v h => zb_X5_readLinks_15 G  (fun x0_ x1_ x2_ x3_ h => hr (x0_, x1_, x2_, x3_) h) v.1 v.2.1 v.2.2.1 v.2.2.2 h) 200 (x2, t_words, t_wordCount, t_next) h
noncomputable def f_X5_readLinks (t_words : Nat → Int32) (t_wordCount : Int32) (t_size : Int32) (t_signs : Nat → Int32) (t_next : Int32) (n_names : Nat → Int32) (n_owners : Nat → Int32) (n_nameCount : Int32) : Option (Int32 × (Nat → Int32) × Int32 × Int32) :=
  if t_size = 0 then some (1, t_words, (f_X5_start t_wordCount t_next).1, (f_X5_start t_wordCount t_next).2) else f_X5_readLinks_l15 t_size t_signs n_names n_owners n_nameCount  0 t_words ((f_X5_start t_wordCount t_next).1) ((f_X5_start t_wordCount t_next).2)
set_option maxRecDepth 100000 in
set_option maxHeartbeats 4000000 in
theorem c_X5_readLinks {l : Launch} {dC : Nat → ClassId} {dI : Nat → Nat → Nat} {cI cJ cZ cN : ClassId} {ta : Nat → Nat} {na : Nat → Nat} {t_words : Nat → Int32} {t_wordCount : Int32} {t_size : Int32} {t_signs : Nat → Int32} {t_next : Int32} {n_narrower : Nat → Int32} {n_order : Nat → Int32} {n_items : Nat → Int64} {n_names : Nat → Int32} {n_owners : Nat → Int32} {n_moving : Nat → Int32} {n_all : Int32} {n_size : Int32} {n_nameCount : Int32}  {res : Int32 × (Nat → Int32) × Int32 × Int32} (h : f_X5_readLinks t_words t_wordCount t_size t_signs t_next n_names n_owners n_nameCount = some res) : zM l yX5_readLinks cX5_readLinks 5 (some .boolean) ({ frames := 3, cells := 0, slots := 0, locals := 65 }) [.ref (ta 0), .ref (na 0)] (dC, dI) vwCl (zT cI cJ cZ cN) (w_XN cI cJ cZ cN ta na t_words t_wordCount t_size t_signs t_next n_narrower n_order n_items n_names n_owners n_moving n_all n_size n_nameCount) (some (.int res.1)) (narrow .boolean (.int res.1) = .int res.1) (w_XN cI cJ cZ cN ta na res.2.1 res.2.2.1 t_size t_signs res.2.2.2 n_narrower n_order n_items n_names n_owners n_moving n_all n_size n_nameCount) := by
  refine zM_of (own := RX5) (by decide) rfl [(0, .ref (ta 0)), (1, .ref (na 0))] (Nat.le_of_ble_eq_true rfl) rfl ?_
  intro p e s m args below meth c A G _
  unfold f_X5_readLinks at h
  refine z_aload_n G dX5_readLinks_0 rfl 0 rfl ?_
  refine z_kV (As := []) (rest := []) (st' := []) (ws' := (w_XN cI cJ cZ cN ta na t_words ((f_X5_start t_wordCount t_next).1) t_size t_signs ((f_X5_start t_wordCount t_next).2) n_narrower n_order n_items n_names n_owners n_moving n_all n_size n_nameCount)) G pk_X5_start pv_X5_start ml_X5_25 (c_X5_start (ta := ta) (t_words := t_words) (t_wordCount := t_wordCount) (t_size := t_size) (t_signs := t_signs) (t_next := t_next) rfl) ⟨rfl, rfl⟩ ⟨Nat.le_of_ble_eq_true rfl, Nat.le_of_ble_eq_true rfl⟩ ⟨Nat.zero_le _, Nat.zero_le _⟩ rfl rfl (Nat.le_of_ble_eq_true rfl) 0 5 rfl rfl rfl [0, 1, 2] rfl rfl [some 0, some 1, some 2, none, none, none, none, none, none, none] rfl rfl rfl rfl dX5_readLinks_1 (fun z1 => ?_)
  refine z_aload_n G dX5_readLinks_4 rfl 0 rfl ?_
  refine z_get (ci := 5) (v := .int t_size) G in_X5 0 rfl rfl 2 (by decide) fl_X5_18 rfl dX5_readLinks_5 ?_
  refine z_if_ne (tgt := 13) G dX5_readLinks_8 (by decide) h (fun h => ?_) (fun h => ?_)
  · refine z_iconst (v := 0) G dX5_readLinks_13 (by decide) ?_
    refine z_istore_n (lv' := [(0, .ref (ta 0)), (1, .ref (na 0)), (2, .int 0)]) G dX5_readLinks_14 rfl (by decide) [1, 2, 0] rfl ?_
    exact zl_X5_readLinks_15 G  0 t_words ((f_X5_start t_wordCount t_next).1) ((f_X5_start t_wordCount t_next).2) h
  · refine z_iconst (v := 1) G dX5_readLinks_11 (by decide) ?_
    obtain rfl := Option.some.inj h
    exact z_zret G rfl zn1 dX5_readLinks_12 rfl zn1 rfl

noncomputable def f_X5_readHow (t_size : Int32) (t_signs : Nat → Int32) (t_next : Int32) : Option (Int32 × Int32) :=
  (f_X5_passes t_size t_signs t_next 43).bind (fun r1 => if r1.1 = 0 then (f_X5_passes t_size t_signs r1.2 38).bind (fun r3 => if r3.1 = 0 then (f_X5_passes t_size t_signs r3.2 45).bind (fun r5 => if r5.1 = 0 then some ((-1), r5.2) else some (2, r5.2)) else some (1, r3.2)) else some (0, r1.2))
set_option maxRecDepth 100000 in
set_option maxHeartbeats 4000000 in
theorem c_X5_readHow {l : Launch} {dC : Nat → ClassId} {dI : Nat → Nat → Nat} {cI cJ cZ cN : ClassId} {ta : Nat → Nat} {t_words : Nat → Int32} {t_wordCount : Int32} {t_size : Int32} {t_signs : Nat → Int32} {t_next : Int32}  {res : Int32 × Int32} (h : f_X5_readHow t_size t_signs t_next = some res) : zM l yX5_readHow cX5_readHow 1 (some .int) ({ frames := 1, cells := 0, slots := 0, locals := 21 }) [.ref (ta 0)] (dC, dI) vwCl (zT cI cJ cZ cN) (w_X cI cJ cZ cN ta t_words t_wordCount t_size t_signs t_next) (some (.int res.1)) (True) (w_X cI cJ cZ cN ta t_words t_wordCount t_size t_signs res.2) := by
  refine zM_of (own := RX5) (by decide) rfl [(0, .ref (ta 0))] (Nat.le_of_ble_eq_true rfl) rfl ?_
  intro p e s m args below meth c A G _
  unfold f_X5_readHow at h
  refine z_aload_n G dX5_readHow_0 rfl 0 rfl ?_
  refine z_bipush (v := 43) G dX5_readHow_1 (by decide) ?_
  obtain ⟨r1, e1, h⟩ := obind h
  refine z_kV (As := [.int 43]) (rest := []) (st' := [.int r1.1]) (ws' := (w_X cI cJ cZ cN ta t_words t_wordCount t_size t_signs r1.2)) G pk_X5_passes pv_X5_passes ml_X5_39 (c_X5_passes (ta := ta) (t_words := t_words) (t_wordCount := t_wordCount) (t_size := t_size) (t_signs := t_signs) (t_next := t_next) (p1 := 43) e1) ⟨rfl, rfl⟩ ⟨Nat.le_of_ble_eq_true rfl, Nat.le_of_ble_eq_true rfl⟩ ⟨Nat.zero_le _, Nat.zero_le _⟩ rfl rfl (Nat.le_of_ble_eq_true rfl) 0 5 rfl rfl rfl [0, 1, 2] rfl rfl [some 0, some 1, some 2] rfl rfl rfl rfl dX5_readHow_3 (fun z2 => ?_)
  refine z_if_eq (tgt := 11) G dX5_readHow_6 (by decide) h (fun h => ?_) (fun h => ?_)
  · refine z_aload_n G dX5_readHow_11 rfl 0 rfl ?_
    refine z_bipush (v := 38) G dX5_readHow_12 (by decide) ?_
    obtain ⟨r3, e3, h⟩ := obind h
    refine z_kV (As := [.int 38]) (rest := []) (st' := [.int r3.1]) (ws' := (w_X cI cJ cZ cN ta t_words t_wordCount t_size t_signs r3.2)) G pk_X5_passes pv_X5_passes ml_X5_39 (c_X5_passes (ta := ta) (t_words := t_words) (t_wordCount := t_wordCount) (t_size := t_size) (t_signs := t_signs) (t_next := r1.2) (p1 := 38) e3) ⟨rfl, rfl⟩ ⟨Nat.le_of_ble_eq_true rfl, Nat.le_of_ble_eq_true rfl⟩ ⟨Nat.zero_le _, Nat.zero_le _⟩ rfl rfl (Nat.le_of_ble_eq_true rfl) 0 5 rfl rfl rfl [0, 1, 2] rfl rfl [some 0, some 1, some 2] rfl rfl rfl rfl dX5_readHow_14 (fun z4 => ?_)
    refine z_if_eq (tgt := 22) G dX5_readHow_17 (by decide) h (fun h => ?_) (fun h => ?_)
    · refine z_aload_n G dX5_readHow_22 rfl 0 rfl ?_
      refine z_bipush (v := 45) G dX5_readHow_23 (by decide) ?_
      obtain ⟨r5, e5, h⟩ := obind h
      refine z_kV (As := [.int 45]) (rest := []) (st' := [.int r5.1]) (ws' := (w_X cI cJ cZ cN ta t_words t_wordCount t_size t_signs r5.2)) G pk_X5_passes pv_X5_passes ml_X5_39 (c_X5_passes (ta := ta) (t_words := t_words) (t_wordCount := t_wordCount) (t_size := t_size) (t_signs := t_signs) (t_next := r3.2) (p1 := 45) e5) ⟨rfl, rfl⟩ ⟨Nat.le_of_ble_eq_true rfl, Nat.le_of_ble_eq_true rfl⟩ ⟨Nat.zero_le _, Nat.zero_le _⟩ rfl rfl (Nat.le_of_ble_eq_true rfl) 0 5 rfl rfl rfl [0, 1, 2] rfl rfl [some 0, some 1, some 2] rfl rfl rfl rfl dX5_readHow_25 (fun z6 => ?_)
      refine z_if_eq (tgt := 35) G dX5_readHow_28 (by decide) h (fun h => ?_) (fun h => ?_)
      · refine z_iconst (v := (-1)) G dX5_readHow_35 (by decide) ?_
        obtain rfl := Option.some.inj h
        exact z_iret G rfl dX5_readHow_36 rfl trivial rfl
      · refine z_iconst (v := 2) G dX5_readHow_31 (by decide) ?_
        refine z_goto (tgt := 36) G dX5_readHow_32 (by decide) ?_
        obtain rfl := Option.some.inj h
        exact z_iret G rfl dX5_readHow_36 rfl trivial rfl
    · refine z_iconst (v := 1) G dX5_readHow_20 (by decide) ?_
      obtain rfl := Option.some.inj h
      exact z_iret G rfl dX5_readHow_21 rfl trivial rfl
  · refine z_iconst (v := 0) G dX5_readHow_9 (by decide) ?_
    obtain rfl := Option.some.inj h
    exact z_iret G rfl dX5_readHow_10 rfl trivial rfl

noncomputable def f_X5_readSearch_b42 (t_size : Int32) (t_signs : Nat → Int32) (n_names : Nat → Int32) (n_owners : Nat → Int32) (n_nameCount : Int32) (k8 : Int32 → Int32 → (Nat → Int32) → Int32 → Int32 → Option (Int32 × (Nat → Int32) × Int32 × Int32)) (x2 : Int32) (x3 : Int32) (x4 : Int32) (s0 : Int32) (t_words : Nat → Int32) (t_wordCount : Int32) (t_next : Int32) : Option (Int32 × (Nat → Int32) × Int32 × Int32) :=
  (f_X5_addWord t_words t_wordCount (((1000 * s0) + (100 * x2)) + x4)).bind (fun r6 => if t_next = t_size then some (1, r6.1, r6.2, t_next) else (f_X5_readHow t_size t_signs t_next).bind (fun r8 => if 0 ≤ r8.1 then k8 r8.1 (x3 + 1) r6.1 r6.2 r8.2 else some (0, r6.1, r6.2, r8.2)))
set_option maxRecDepth 100000 in
set_option maxHeartbeats 4000000 in
theorem zb_X5_readSearch_42 {p : Program} {l : Launch} {e : Env} {s : State} {m : MethodId} {args : Array Value} {below : List Frame} {meth : Method} {c : Code} {A : Nat → Prop} {dC : Nat → ClassId} {dI : Nat → Nat → Nat} {cI cJ cZ cN : ClassId} {ta : Nat → Nat} {na : Nat → Nat} {t_size : Int32} {t_signs : Nat → Int32} {n_narrower : Nat → Int32} {n_order : Nat → Int32} {n_items : Nat → Int64} {n_names : Nat → Int32} {n_owners : Nat → Int32} {n_moving : Nat → Int32} {n_all : Int32} {n_size : Int32} {n_nameCount : Int32}  {res : Int32 × (Nat → Int32) × Int32 × Int32} (G : zG p m c cX5_readSearch 6 s args RX5 (dC, dI) vwCl (zT cI cJ cZ cN) A meth (some .boolean)) {k8 : Int32 → Int32 → (Nat → Int32) → Int32 → Int32 → Option (Int32 × (Nat → Int32) × Int32 × Int32)} (hr8 : ∀ (x2 : Int32) (x3 : Int32) (t_words : Nat → Int32) (t_wordCount : Int32) (t_next : Int32), k8 x2 x3 t_words t_wordCount t_next = some res → Z p l e ({ frames := 3, cells := 0, slots := 0, locals := 65 }) s m args below meth c (dC, dI) vwCl A 6 0 0 (MQ below (zQ (some (.int res.1)) (narrow .boolean (.int res.1) = .int res.1) (w_XN cI cJ cZ cN ta na res.2.1 res.2.2.1 t_size t_signs res.2.2.2 n_narrower n_order n_items n_names n_owners n_moving n_all n_size n_nameCount) (dC, dI) vwCl A) args s 0 0 A) (w_XN cI cJ cZ cN ta na t_words t_wordCount t_size t_signs t_next n_narrower n_order n_items n_names n_owners n_moving n_all n_size n_nameCount) [(0, .ref (ta 0)), (1, .ref (na 0)), (2, .int x2), (3, .int x3)] [] 8) : ∀ (x2 : Int32) (x3 : Int32) (x4 : Int32) (s0 : Int32) (t_words : Nat → Int32) (t_wordCount : Int32) (t_next : Int32), f_X5_readSearch_b42 t_size t_signs n_names n_owners n_nameCount k8 x2 x3 x4 s0 t_words t_wordCount t_next = some res → Z p l e ({ frames := 3, cells := 0, slots := 0, locals := 65 }) s m args below meth c (dC, dI) vwCl A 6 0 0 (MQ below (zQ (some (.int res.1)) (narrow .boolean (.int res.1) = .int res.1) (w_XN cI cJ cZ cN ta na res.2.1 res.2.2.1 t_size t_signs res.2.2.2 n_narrower n_order n_items n_names n_owners n_moving n_all n_size n_nameCount) (dC, dI) vwCl A) args s 0 0 A) (w_XN cI cJ cZ cN ta na t_words t_wordCount t_size t_signs t_next n_narrower n_order n_items n_names n_owners n_moving n_all n_size n_nameCount) [(0, .ref (ta 0)), (1, .ref (na 0)), (2, .int x2), (3, .int x3), (4, .int x4)] [.int s0] 42 := by
  intro x2 x3 x4 s0 t_words t_wordCount t_next h
  unfold f_X5_readSearch_b42 at h
  refine z_istore (lv' := [(0, .ref (ta 0)), (1, .ref (na 0)), (2, .int x2), (3, .int x3), (4, .int x4), (5, .int s0)]) G dX5_readSearch_42 (by decide) [1, 2, 3, 4, 5, 0] rfl ?_
  refine z_aload_n G dX5_readSearch_44 rfl 0 rfl ?_
  refine z_sipush (v := 1000) G dX5_readSearch_45 (by decide) ?_
  refine z_iload G dX5_readSearch_48 5 rfl ?_
  refine z_imul G dX5_readSearch_50 ?_
  refine z_bipush (v := 100) G dX5_readSearch_51 (by decide) ?_
  refine z_iload_n G dX5_readSearch_53 rfl 2 rfl ?_
  refine z_imul G dX5_readSearch_54 ?_
  refine z_iadd G dX5_readSearch_55 ?_
  refine z_iload G dX5_readSearch_56 4 rfl ?_
  refine z_iadd G dX5_readSearch_58 ?_
  obtain ⟨r6, e6, h⟩ := obind h
  refine z_kV (As := [.int (((1000 * s0) + (100 * x2)) + x4)]) (rest := []) (st' := []) (ws' := (w_XN cI cJ cZ cN ta na r6.1 r6.2 t_size t_signs t_next n_narrower n_order n_items n_names n_owners n_moving n_all n_size n_nameCount)) G pk_X5_addWord pv_X5_addWord ml_X5_43 (c_X5_addWord (ta := ta) (t_words := t_words) (t_wordCount := t_wordCount) (t_size := t_size) (t_signs := t_signs) (t_next := t_next) (p1 := ((1000 * s0) + (100 * x2)) + x4) e6) ⟨rfl, rfl⟩ ⟨Nat.le_of_ble_eq_true rfl, Nat.le_of_ble_eq_true rfl⟩ ⟨Nat.zero_le _, Nat.zero_le _⟩ rfl rfl (Nat.le_of_ble_eq_true rfl) 0 5 rfl rfl rfl [0, 1, 2] rfl rfl [some 0, some 1, some 2, none, none, none, none, none, none, none] rfl rfl rfl rfl dX5_readSearch_59 (fun z7 => ?_)
  refine z_aload_n G dX5_readSearch_62 rfl 0 rfl ?_
  refine z_get (ci := 5) (v := .int t_next) G in_X5 0 rfl rfl 4 (by decide) fl_X5_22 rfl dX5_readSearch_63 ?_
  refine z_aload_n G dX5_readSearch_66 rfl 0 rfl ?_
  refine z_get (ci := 5) (v := .int t_size) G in_X5 0 rfl rfl 2 (by decide) fl_X5_18 rfl dX5_readSearch_67 ?_
  refine z_icmp_ne (tgt := 75) G dX5_readSearch_70 (by decide) h (fun h => ?_) (fun h => ?_)
  · refine z_aload_n G dX5_readSearch_75 rfl 0 rfl ?_
    obtain ⟨r8, e8, h⟩ := obind h
    refine z_kV (As := []) (rest := []) (st' := [.int r8.1]) (ws' := (w_XN cI cJ cZ cN ta na r6.1 r6.2 t_size t_signs r8.2 n_narrower n_order n_items n_names n_owners n_moving n_all n_size n_nameCount)) G pk_X5_readHow pv_X5_readHow ml_X5_47 (c_X5_readHow (ta := ta) (t_words := r6.1) (t_wordCount := r6.2) (t_size := t_size) (t_signs := t_signs) (t_next := t_next) e8) ⟨rfl, rfl⟩ ⟨Nat.le_of_ble_eq_true rfl, Nat.le_of_ble_eq_true rfl⟩ ⟨Nat.zero_le _, Nat.zero_le _⟩ rfl rfl (Nat.le_of_ble_eq_true rfl) 0 5 rfl rfl rfl [0, 1, 2] rfl rfl [some 0, some 1, some 2, none, none, none, none, none, none, none] rfl rfl rfl rfl dX5_readSearch_76 (fun z9 => ?_)
    refine z_istore_n (lv' := [(0, .ref (ta 0)), (1, .ref (na 0)), (2, .int r8.1), (3, .int x3), (4, .int x4), (5, .int s0)]) G dX5_readSearch_79 rfl (by decide) [1, 2, 0, 3, 4, 5] rfl ?_
    refine z_iload_n G dX5_readSearch_80 rfl 2 rfl ?_
    refine z_if_ge (tgt := 86) G dX5_readSearch_81 (by decide) h (fun h => ?_) (fun h => ?_)
    · refine z_iinc (v := x3 + 1) (lv' := [(0, .ref (ta 0)), (1, .ref (na 0)), (2, .int r8.1), (3, .int (x3 + 1)), (4, .int x4), (5, .int s0)]) G dX5_readSearch_86 3 rfl rfl (by decide) [1, 2, 3, 0, 4, 5] rfl ?_
      refine z_goto (tgt := 8) G dX5_readSearch_89 (by decide) ?_
      refine z_lv [0, 1, 2, 3] rfl ?_
      exact hr8 r8.1 (x3 + 1) r6.1 r6.2 r8.2 h
    · refine z_iconst (v := 0) G dX5_readSearch_84 (by decide) ?_
      obtain rfl := Option.some.inj h
      exact z_zret G rfl zn0 dX5_readSearch_85 rfl zn0 rfl
  · refine z_iconst (v := 1) G dX5_readSearch_73 (by decide) ?_
    obtain rfl := Option.some.inj h
    exact z_zret G rfl zn1 dX5_readSearch_74 rfl zn1 rfl
noncomputable def f_X5_readSearch_b8 (t_size : Int32) (t_signs : Nat → Int32) (n_names : Nat → Int32) (n_owners : Nat → Int32) (n_nameCount : Int32) (k8 : Int32 → Int32 → (Nat → Int32) → Int32 → Int32 → Option (Int32 × (Nat → Int32) × Int32 × Int32)) (x2 : Int32) (x3 : Int32) (t_words : Nat → Int32) (t_wordCount : Int32) (t_next : Int32) : Option (Int32 × (Nat → Int32) × Int32 × Int32) :=
  if 80 ≤ x3 then some (0, t_words, t_wordCount, t_next) else (f_X5_readTerm t_size t_signs t_next n_names n_owners n_nameCount).bind (fun r2 => if 0 ≤ r2.1 then (f_X5_passes t_size t_signs r2.2 42).bind (fun r4 => if r4.1 = 0 then f_X5_readSearch_b42 t_size t_signs n_names n_owners n_nameCount k8 x2 x3 r2.1 0 t_words t_wordCount r4.2 else f_X5_readSearch_b42 t_size t_signs n_names n_owners n_nameCount k8 x2 x3 r2.1 1 t_words t_wordCount r4.2) else some (0, t_words, t_wordCount, r2.2))
set_option maxRecDepth 100000 in
set_option maxHeartbeats 4000000 in
theorem zb_X5_readSearch_8 {p : Program} {l : Launch} {e : Env} {s : State} {m : MethodId} {args : Array Value} {below : List Frame} {meth : Method} {c : Code} {A : Nat → Prop} {dC : Nat → ClassId} {dI : Nat → Nat → Nat} {cI cJ cZ cN : ClassId} {ta : Nat → Nat} {na : Nat → Nat} {t_size : Int32} {t_signs : Nat → Int32} {n_narrower : Nat → Int32} {n_order : Nat → Int32} {n_items : Nat → Int64} {n_names : Nat → Int32} {n_owners : Nat → Int32} {n_moving : Nat → Int32} {n_all : Int32} {n_size : Int32} {n_nameCount : Int32}  {res : Int32 × (Nat → Int32) × Int32 × Int32} (G : zG p m c cX5_readSearch 6 s args RX5 (dC, dI) vwCl (zT cI cJ cZ cN) A meth (some .boolean)) {k8 : Int32 → Int32 → (Nat → Int32) → Int32 → Int32 → Option (Int32 × (Nat → Int32) × Int32 × Int32)} (hr8 : ∀ (x2 : Int32) (x3 : Int32) (t_words : Nat → Int32) (t_wordCount : Int32) (t_next : Int32), k8 x2 x3 t_words t_wordCount t_next = some res → Z p l e ({ frames := 3, cells := 0, slots := 0, locals := 65 }) s m args below meth c (dC, dI) vwCl A 6 0 0 (MQ below (zQ (some (.int res.1)) (narrow .boolean (.int res.1) = .int res.1) (w_XN cI cJ cZ cN ta na res.2.1 res.2.2.1 t_size t_signs res.2.2.2 n_narrower n_order n_items n_names n_owners n_moving n_all n_size n_nameCount) (dC, dI) vwCl A) args s 0 0 A) (w_XN cI cJ cZ cN ta na t_words t_wordCount t_size t_signs t_next n_narrower n_order n_items n_names n_owners n_moving n_all n_size n_nameCount) [(0, .ref (ta 0)), (1, .ref (na 0)), (2, .int x2), (3, .int x3)] [] 8) : ∀ (x2 : Int32) (x3 : Int32) (t_words : Nat → Int32) (t_wordCount : Int32) (t_next : Int32), f_X5_readSearch_b8 t_size t_signs n_names n_owners n_nameCount k8 x2 x3 t_words t_wordCount t_next = some res → Z p l e ({ frames := 3, cells := 0, slots := 0, locals := 65 }) s m args below meth c (dC, dI) vwCl A 6 0 0 (MQ below (zQ (some (.int res.1)) (narrow .boolean (.int res.1) = .int res.1) (w_XN cI cJ cZ cN ta na res.2.1 res.2.2.1 t_size t_signs res.2.2.2 n_narrower n_order n_items n_names n_owners n_moving n_all n_size n_nameCount) (dC, dI) vwCl A) args s 0 0 A) (w_XN cI cJ cZ cN ta na t_words t_wordCount t_size t_signs t_next n_narrower n_order n_items n_names n_owners n_moving n_all n_size n_nameCount) [(0, .ref (ta 0)), (1, .ref (na 0)), (2, .int x2), (3, .int x3)] [] 8 := by
  intro x2 x3 t_words t_wordCount t_next h
  unfold f_X5_readSearch_b8 at h
  refine z_iload_n G dX5_readSearch_8 rfl 3 rfl ?_
  refine z_bipush (v := 80) G dX5_readSearch_9 (by decide) ?_
  refine z_icmp_ge (tgt := 92) G dX5_readSearch_11 (by decide) h (fun h => ?_) (fun h => ?_)
  · refine z_iconst (v := 0) G dX5_readSearch_92 (by decide) ?_
    obtain rfl := Option.some.inj h
    exact z_zret G rfl zn0 dX5_readSearch_93 rfl zn0 rfl
  · refine z_aload_n G dX5_readSearch_14 rfl 0 rfl ?_
    refine z_aload_n G dX5_readSearch_15 rfl 1 rfl ?_
    obtain ⟨r2, e2, h⟩ := obind h
    refine z_kV (As := [.ref (na 0)]) (rest := []) (st' := [.int r2.1]) (ws' := (w_XN cI cJ cZ cN ta na t_words t_wordCount t_size t_signs r2.2 n_narrower n_order n_items n_names n_owners n_moving n_all n_size n_nameCount)) G pk_X5_readTerm pv_X5_readTerm ml_X5_35 (c_X5_readTerm (ta := ta) (na := na) (t_words := t_words) (t_wordCount := t_wordCount) (t_size := t_size) (t_signs := t_signs) (t_next := t_next) (n_narrower := n_narrower) (n_order := n_order) (n_items := n_items) (n_names := n_names) (n_owners := n_owners) (n_moving := n_moving) (n_all := n_all) (n_size := n_size) (n_nameCount := n_nameCount) e2) ⟨rfl, rfl⟩ ⟨Nat.le_of_ble_eq_true rfl, Nat.le_of_ble_eq_true rfl⟩ ⟨Nat.zero_le _, Nat.zero_le _⟩ rfl rfl (Nat.le_of_ble_eq_true rfl) 0 5 rfl rfl rfl [0, 1, 2, 3, 4, 5, 6, 7, 8, 9] rfl rfl [some 0, some 1, some 2, some 3, some 4, some 5, some 6, some 7, some 8, some 9] rfl rfl rfl rfl dX5_readSearch_16 (fun z3 => ?_)
    refine z_istore (lv' := [(0, .ref (ta 0)), (1, .ref (na 0)), (2, .int x2), (3, .int x3), (4, .int r2.1)]) G dX5_readSearch_19 (by decide) [1, 2, 3, 4, 0] rfl ?_
    refine z_iload G dX5_readSearch_21 4 rfl ?_
    refine z_if_ge (tgt := 28) G dX5_readSearch_23 (by decide) h (fun h => ?_) (fun h => ?_)
    · refine z_aload_n G dX5_readSearch_28 rfl 0 rfl ?_
      refine z_bipush (v := 42) G dX5_readSearch_29 (by decide) ?_
      obtain ⟨r4, e4, h⟩ := obind h
      refine z_kV (As := [.int 42]) (rest := []) (st' := [.int r4.1]) (ws' := (w_XN cI cJ cZ cN ta na t_words t_wordCount t_size t_signs r4.2 n_narrower n_order n_items n_names n_owners n_moving n_all n_size n_nameCount)) G pk_X5_passes pv_X5_passes ml_X5_39 (c_X5_passes (ta := ta) (t_words := t_words) (t_wordCount := t_wordCount) (t_size := t_size) (t_signs := t_signs) (t_next := r2.2) (p1 := 42) e4) ⟨rfl, rfl⟩ ⟨Nat.le_of_ble_eq_true rfl, Nat.le_of_ble_eq_true rfl⟩ ⟨Nat.zero_le _, Nat.zero_le _⟩ rfl rfl (Nat.le_of_ble_eq_true rfl) 0 5 rfl rfl rfl [0, 1, 2] rfl rfl [some 0, some 1, some 2, none, none, none, none, none, none, none] rfl rfl rfl rfl dX5_readSearch_31 (fun z5 => ?_)
      refine z_if_eq (tgt := 41) G dX5_readSearch_34 (by decide) h (fun h => ?_) (fun h => ?_)
      · refine z_iconst (v := 0) G dX5_readSearch_41 (by decide) ?_
        exact zb_X5_readSearch_42 G hr8 x2 x3 r2.1 0 t_words t_wordCount r4.2 h
      · refine z_iconst (v := 1) G dX5_readSearch_37 (by decide) ?_
        refine z_goto (tgt := 42) G dX5_readSearch_38 (by decide) ?_
        exact zb_X5_readSearch_42 G hr8 x2 x3 r2.1 1 t_words t_wordCount r4.2 h
    · refine z_iconst (v := 0) G dX5_readSearch_26 (by decide) ?_
      obtain rfl := Option.some.inj h
      exact z_zret G rfl zn0 dX5_readSearch_27 rfl zn0 rfl
noncomputable def f_X5_readSearch_l8 (t_size : Int32) (t_signs : Nat → Int32) (n_names : Nat → Int32) (n_owners : Nat → Int32) (n_nameCount : Int32)  (x2 : Int32) (x3 : Int32) (t_words : Nat → Int32) (t_wordCount : Int32) (t_next : Int32) : Option (Int32 × (Nat → Int32) × Int32 × Int32) := loopN (V := Int32 × Int32 × (Nat → Int32) × Int32 × Int32) (fun rc v => f_X5_readSearch_b8 t_size t_signs n_names n_owners n_nameCount  (fun x0_ x1_ x2_ x3_ x4_ => rc (x0_, x1_, x2_, x3_, x4_)) v.1 v.2.1 v.2.2.1 v.2.2.2.1 v.2.2.2.2) 200 (x2, x3, t_words, t_wordCount, t_next)
set_option maxRecDepth 100000 in
set_option maxHeartbeats 4000000 in
theorem zl_X5_readSearch_8 {p : Program} {l : Launch} {e : Env} {s : State} {m : MethodId} {args : Array Value} {below : List Frame} {meth : Method} {c : Code} {A : Nat → Prop} {dC : Nat → ClassId} {dI : Nat → Nat → Nat} {cI cJ cZ cN : ClassId} {ta : Nat → Nat} {na : Nat → Nat} {t_size : Int32} {t_signs : Nat → Int32} {n_narrower : Nat → Int32} {n_order : Nat → Int32} {n_items : Nat → Int64} {n_names : Nat → Int32} {n_owners : Nat → Int32} {n_moving : Nat → Int32} {n_all : Int32} {n_size : Int32} {n_nameCount : Int32}  {res : Int32 × (Nat → Int32) × Int32 × Int32} (G : zG p m c cX5_readSearch 6 s args RX5 (dC, dI) vwCl (zT cI cJ cZ cN) A meth (some .boolean))  : ∀ (x2 : Int32) (x3 : Int32) (t_words : Nat → Int32) (t_wordCount : Int32) (t_next : Int32), f_X5_readSearch_l8 t_size t_signs n_names n_owners n_nameCount  x2 x3 t_words t_wordCount t_next = some res → Z p l e ({ frames := 3, cells := 0, slots := 0, locals := 65 }) s m args below meth c (dC, dI) vwCl A 6 0 0 (MQ below (zQ (some (.int res.1)) (narrow .boolean (.int res.1) = .int res.1) (w_XN cI cJ cZ cN ta na res.2.1 res.2.2.1 t_size t_signs res.2.2.2 n_narrower n_order n_items n_names n_owners n_moving n_all n_size n_nameCount) (dC, dI) vwCl A) args s 0 0 A) (w_XN cI cJ cZ cN ta na t_words t_wordCount t_size t_signs t_next n_narrower n_order n_items n_names n_owners n_moving n_all n_size n_nameCount) [(0, .ref (ta 0)), (1, .ref (na 0)), (2, .int x2), (3, .int x3)] [] 8 := by
  intro x2 x3 t_words t_wordCount t_next h
  exact zloop (P := fun v => Z p l e ({ frames := 3, cells := 0, slots := 0, locals := 65 }) s m args below meth c (dC, dI) vwCl A 6 0 0 (MQ below (zQ (some (.int res.1)) (narrow .boolean (.int res.1) = .int res.1) (w_XN cI cJ cZ cN ta na res.2.1 res.2.2.1 t_size t_signs res.2.2.2 n_narrower n_order n_items n_names n_owners n_moving n_all n_size n_nameCount) (dC, dI) vwCl A) args s 0 0 A) (w_XN cI cJ cZ cN ta na v.2.2.1 v.2.2.2.1 t_size t_signs v.2.2.2.2 n_narrower n_order n_items n_names n_owners n_moving n_all n_size n_nameCount) [(0, .ref (ta 0)), (1, .ref (na 0)), (2, .int v.1), (3, .int v.2.1)] [] 8) (fun rc hr v h => zb_X5_readSearch_8 G  (fun x0_ x1_ x2_ x3_ x4_ h => hr (x0_, x1_, x2_, x3_, x4_) h) v.1 v.2.1 v.2.2.1 v.2.2.2.1 v.2.2.2.2 h) 200 (x2, x3, t_words, t_wordCount, t_next) h
noncomputable def f_X5_readSearch (t_words : Nat → Int32) (t_wordCount : Int32) (t_size : Int32) (t_signs : Nat → Int32) (t_next : Int32) (n_names : Nat → Int32) (n_owners : Nat → Int32) (n_nameCount : Int32) : Option (Int32 × (Nat → Int32) × Int32 × Int32) :=
  f_X5_readSearch_l8 t_size t_signs n_names n_owners n_nameCount  0 0 t_words ((f_X5_start t_wordCount t_next).1) ((f_X5_start t_wordCount t_next).2)
set_option maxRecDepth 100000 in
set_option maxHeartbeats 4000000 in
theorem c_X5_readSearch {l : Launch} {dC : Nat → ClassId} {dI : Nat → Nat → Nat} {cI cJ cZ cN : ClassId} {ta : Nat → Nat} {na : Nat → Nat} {t_words : Nat → Int32} {t_wordCount : Int32} {t_size : Int32} {t_signs : Nat → Int32} {t_next : Int32} {n_narrower : Nat → Int32} {n_order : Nat → Int32} {n_items : Nat → Int64} {n_names : Nat → Int32} {n_owners : Nat → Int32} {n_moving : Nat → Int32} {n_all : Int32} {n_size : Int32} {n_nameCount : Int32}  {res : Int32 × (Nat → Int32) × Int32 × Int32} (h : f_X5_readSearch t_words t_wordCount t_size t_signs t_next n_names n_owners n_nameCount = some res) : zM l yX5_readSearch cX5_readSearch 6 (some .boolean) ({ frames := 3, cells := 0, slots := 0, locals := 65 }) [.ref (ta 0), .ref (na 0)] (dC, dI) vwCl (zT cI cJ cZ cN) (w_XN cI cJ cZ cN ta na t_words t_wordCount t_size t_signs t_next n_narrower n_order n_items n_names n_owners n_moving n_all n_size n_nameCount) (some (.int res.1)) (narrow .boolean (.int res.1) = .int res.1) (w_XN cI cJ cZ cN ta na res.2.1 res.2.2.1 t_size t_signs res.2.2.2 n_narrower n_order n_items n_names n_owners n_moving n_all n_size n_nameCount) := by
  refine zM_of (own := RX5) (by decide) rfl [(0, .ref (ta 0)), (1, .ref (na 0))] (Nat.le_of_ble_eq_true rfl) rfl ?_
  intro p e s m args below meth c A G _
  unfold f_X5_readSearch at h
  refine z_aload_n G dX5_readSearch_0 rfl 0 rfl ?_
  refine z_kV (As := []) (rest := []) (st' := []) (ws' := (w_XN cI cJ cZ cN ta na t_words ((f_X5_start t_wordCount t_next).1) t_size t_signs ((f_X5_start t_wordCount t_next).2) n_narrower n_order n_items n_names n_owners n_moving n_all n_size n_nameCount)) G pk_X5_start pv_X5_start ml_X5_25 (c_X5_start (ta := ta) (t_words := t_words) (t_wordCount := t_wordCount) (t_size := t_size) (t_signs := t_signs) (t_next := t_next) rfl) ⟨rfl, rfl⟩ ⟨Nat.le_of_ble_eq_true rfl, Nat.le_of_ble_eq_true rfl⟩ ⟨Nat.zero_le _, Nat.zero_le _⟩ rfl rfl (Nat.le_of_ble_eq_true rfl) 0 5 rfl rfl rfl [0, 1, 2] rfl rfl [some 0, some 1, some 2, none, none, none, none, none, none, none] rfl rfl rfl rfl dX5_readSearch_1 (fun z1 => ?_)
  refine z_iconst (v := 0) G dX5_readSearch_4 (by decide) ?_
  refine z_istore_n (lv' := [(0, .ref (ta 0)), (1, .ref (na 0)), (2, .int 0)]) G dX5_readSearch_5 rfl (by decide) [1, 2, 0] rfl ?_
  refine z_iconst (v := 0) G dX5_readSearch_6 (by decide) ?_
  refine z_istore_n (lv' := [(0, .ref (ta 0)), (1, .ref (na 0)), (2, .int 0), (3, .int 0)]) G dX5_readSearch_7 rfl (by decide) [1, 2, 3, 0] rfl ?_
  exact zl_X5_readSearch_8 G  0 0 t_words ((f_X5_start t_wordCount t_next).1) ((f_X5_start t_wordCount t_next).2) h

noncomputable def fo_X5_digitsBehind (p0 : Int32) : Option (Int32) :=
  if p0 = 103 then some (3) else (if p0 = 104 then some ((-1)) else (if p0 = 105 then some ((-1)) else (if p0 = 106 then some ((-1)) else (if p0 = 107 then some ((-1)) else (if p0 = 108 then some (4) else (if p0 = 109 then some (4) else (if p0 = 110 then some ((-1)) else (if p0 = 111 then some ((-1)) else (if p0 = 112 then some (4) else (if p0 = 113 then some ((-1)) else (if p0 = 114 then some ((-1)) else (if p0 = 115 then some ((-1)) else (if p0 = 116 then some (0) else (if p0 = 117 then some (4) else (some ((-1)))))))))))))))))
set_option maxRecDepth 100000 in
set_option maxHeartbeats 4000000 in
theorem co_X5_digitsBehind {l : Launch} {dC : Nat → ClassId} {dI : Nat → Nat → Nat} {cI cJ cZ cN : ClassId}   {p0 : Int32} {res : Int32} (h : fo_X5_digitsBehind p0 = some res) : zM l yX5_digitsBehind cX5_digitsBehind 1 (some .int) ({ frames := 0, cells := 0, slots := 0, locals := 0 }) [.int p0] (dC, dI) vwCl (zT cI cJ cZ cN) [] (some (.int res)) (True) [] := by
  refine zM_of (own := RX5) (by decide) rfl [(0, .int p0)] (Nat.le_of_ble_eq_true rfl) rfl ?_
  intro p e s m args below meth c A G _
  unfold fo_X5_digitsBehind at h
  refine z_iload_n G dX5_digitsBehind_0 rfl 0 rfl ?_
  refine z_ite (P := p0 = 103) h (fun q1_0 h => ?_) (fun q1_0 h => ?_)
  · refine z_tin (tgt := 78) G dX5_digitsBehind_1 (by rw [q1_0]; decide) (by rw [q1_0]; decide) (off := 77) (by rw [q1_0]; decide) (by decide) ?_
    refine z_iconst (v := 3) G dX5_digitsBehind_78 (by decide) ?_
    obtain rfl := Option.some.inj h
    exact z_iret G rfl dX5_digitsBehind_79 rfl trivial rfl
  · refine z_ite (P := p0 = 104) h (fun q1_1 h => ?_) (fun q1_1 h => ?_)
    · refine z_tin (tgt := 82) G dX5_digitsBehind_1 (by rw [q1_1]; decide) (by rw [q1_1]; decide) (off := 81) (by rw [q1_1]; decide) (by decide) ?_
      refine z_iconst (v := (-1)) G dX5_digitsBehind_82 (by decide) ?_
      obtain rfl := Option.some.inj h
      exact z_iret G rfl dX5_digitsBehind_83 rfl trivial rfl
    · refine z_ite (P := p0 = 105) h (fun q1_2 h => ?_) (fun q1_2 h => ?_)
      · refine z_tin (tgt := 82) G dX5_digitsBehind_1 (by rw [q1_2]; decide) (by rw [q1_2]; decide) (off := 81) (by rw [q1_2]; decide) (by decide) ?_
        refine z_iconst (v := (-1)) G dX5_digitsBehind_82 (by decide) ?_
        obtain rfl := Option.some.inj h
        exact z_iret G rfl dX5_digitsBehind_83 rfl trivial rfl
      · refine z_ite (P := p0 = 106) h (fun q1_3 h => ?_) (fun q1_3 h => ?_)
        · refine z_tin (tgt := 82) G dX5_digitsBehind_1 (by rw [q1_3]; decide) (by rw [q1_3]; decide) (off := 81) (by rw [q1_3]; decide) (by decide) ?_
          refine z_iconst (v := (-1)) G dX5_digitsBehind_82 (by decide) ?_
          obtain rfl := Option.some.inj h
          exact z_iret G rfl dX5_digitsBehind_83 rfl trivial rfl
        · refine z_ite (P := p0 = 107) h (fun q1_4 h => ?_) (fun q1_4 h => ?_)
          · refine z_tin (tgt := 82) G dX5_digitsBehind_1 (by rw [q1_4]; decide) (by rw [q1_4]; decide) (off := 81) (by rw [q1_4]; decide) (by decide) ?_
            refine z_iconst (v := (-1)) G dX5_digitsBehind_82 (by decide) ?_
            obtain rfl := Option.some.inj h
            exact z_iret G rfl dX5_digitsBehind_83 rfl trivial rfl
          · refine z_ite (P := p0 = 108) h (fun q1_5 h => ?_) (fun q1_5 h => ?_)
            · refine z_tin (tgt := 76) G dX5_digitsBehind_1 (by rw [q1_5]; decide) (by rw [q1_5]; decide) (off := 75) (by rw [q1_5]; decide) (by decide) ?_
              refine z_iconst (v := 4) G dX5_digitsBehind_76 (by decide) ?_
              obtain rfl := Option.some.inj h
              exact z_iret G rfl dX5_digitsBehind_77 rfl trivial rfl
            · refine z_ite (P := p0 = 109) h (fun q1_6 h => ?_) (fun q1_6 h => ?_)
              · refine z_tin (tgt := 76) G dX5_digitsBehind_1 (by rw [q1_6]; decide) (by rw [q1_6]; decide) (off := 75) (by rw [q1_6]; decide) (by decide) ?_
                refine z_iconst (v := 4) G dX5_digitsBehind_76 (by decide) ?_
                obtain rfl := Option.some.inj h
                exact z_iret G rfl dX5_digitsBehind_77 rfl trivial rfl
              · refine z_ite (P := p0 = 110) h (fun q1_7 h => ?_) (fun q1_7 h => ?_)
                · refine z_tin (tgt := 82) G dX5_digitsBehind_1 (by rw [q1_7]; decide) (by rw [q1_7]; decide) (off := 81) (by rw [q1_7]; decide) (by decide) ?_
                  refine z_iconst (v := (-1)) G dX5_digitsBehind_82 (by decide) ?_
                  obtain rfl := Option.some.inj h
                  exact z_iret G rfl dX5_digitsBehind_83 rfl trivial rfl
                · refine z_ite (P := p0 = 111) h (fun q1_8 h => ?_) (fun q1_8 h => ?_)
                  · refine z_tin (tgt := 82) G dX5_digitsBehind_1 (by rw [q1_8]; decide) (by rw [q1_8]; decide) (off := 81) (by rw [q1_8]; decide) (by decide) ?_
                    refine z_iconst (v := (-1)) G dX5_digitsBehind_82 (by decide) ?_
                    obtain rfl := Option.some.inj h
                    exact z_iret G rfl dX5_digitsBehind_83 rfl trivial rfl
                  · refine z_ite (P := p0 = 112) h (fun q1_9 h => ?_) (fun q1_9 h => ?_)
                    · refine z_tin (tgt := 76) G dX5_digitsBehind_1 (by rw [q1_9]; decide) (by rw [q1_9]; decide) (off := 75) (by rw [q1_9]; decide) (by decide) ?_
                      refine z_iconst (v := 4) G dX5_digitsBehind_76 (by decide) ?_
                      obtain rfl := Option.some.inj h
                      exact z_iret G rfl dX5_digitsBehind_77 rfl trivial rfl
                    · refine z_ite (P := p0 = 113) h (fun q1_10 h => ?_) (fun q1_10 h => ?_)
                      · refine z_tin (tgt := 82) G dX5_digitsBehind_1 (by rw [q1_10]; decide) (by rw [q1_10]; decide) (off := 81) (by rw [q1_10]; decide) (by decide) ?_
                        refine z_iconst (v := (-1)) G dX5_digitsBehind_82 (by decide) ?_
                        obtain rfl := Option.some.inj h
                        exact z_iret G rfl dX5_digitsBehind_83 rfl trivial rfl
                      · refine z_ite (P := p0 = 114) h (fun q1_11 h => ?_) (fun q1_11 h => ?_)
                        · refine z_tin (tgt := 82) G dX5_digitsBehind_1 (by rw [q1_11]; decide) (by rw [q1_11]; decide) (off := 81) (by rw [q1_11]; decide) (by decide) ?_
                          refine z_iconst (v := (-1)) G dX5_digitsBehind_82 (by decide) ?_
                          obtain rfl := Option.some.inj h
                          exact z_iret G rfl dX5_digitsBehind_83 rfl trivial rfl
                        · refine z_ite (P := p0 = 115) h (fun q1_12 h => ?_) (fun q1_12 h => ?_)
                          · refine z_tin (tgt := 82) G dX5_digitsBehind_1 (by rw [q1_12]; decide) (by rw [q1_12]; decide) (off := 81) (by rw [q1_12]; decide) (by decide) ?_
                            refine z_iconst (v := (-1)) G dX5_digitsBehind_82 (by decide) ?_
                            obtain rfl := Option.some.inj h
                            exact z_iret G rfl dX5_digitsBehind_83 rfl trivial rfl
                          · refine z_ite (P := p0 = 116) h (fun q1_13 h => ?_) (fun q1_13 h => ?_)
                            · refine z_tin (tgt := 80) G dX5_digitsBehind_1 (by rw [q1_13]; decide) (by rw [q1_13]; decide) (off := 79) (by rw [q1_13]; decide) (by decide) ?_
                              refine z_iconst (v := 0) G dX5_digitsBehind_80 (by decide) ?_
                              obtain rfl := Option.some.inj h
                              exact z_iret G rfl dX5_digitsBehind_81 rfl trivial rfl
                            · refine z_ite (P := p0 = 117) h (fun q1_14 h => ?_) (fun q1_14 h => ?_)
                              · refine z_tin (tgt := 76) G dX5_digitsBehind_1 (by rw [q1_14]; decide) (by rw [q1_14]; decide) (off := 75) (by rw [q1_14]; decide) (by decide) ?_
                                refine z_iconst (v := 4) G dX5_digitsBehind_76 (by decide) ?_
                                obtain rfl := Option.some.inj h
                                exact z_iret G rfl dX5_digitsBehind_77 rfl trivial rfl
                              · refine z_tout (tgt := 82) G dX5_digitsBehind_1 (by have w0 := z_toInt (n := 103) (by decide) q1_0; have w1 := z_toInt (n := 104) (by decide) q1_1; have w2 := z_toInt (n := 105) (by decide) q1_2; have w3 := z_toInt (n := 106) (by decide) q1_3; have w4 := z_toInt (n := 107) (by decide) q1_4; have w5 := z_toInt (n := 108) (by decide) q1_5; have w6 := z_toInt (n := 109) (by decide) q1_6; have w7 := z_toInt (n := 110) (by decide) q1_7; have w8 := z_toInt (n := 111) (by decide) q1_8; have w9 := z_toInt (n := 112) (by decide) q1_9; have w10 := z_toInt (n := 113) (by decide) q1_10; have w11 := z_toInt (n := 114) (by decide) q1_11; have w12 := z_toInt (n := 115) (by decide) q1_12; have w13 := z_toInt (n := 116) (by decide) q1_13; have w14 := z_toInt (n := 117) (by decide) q1_14; omega) (by decide) ?_
                                refine z_iconst (v := (-1)) G dX5_digitsBehind_82 (by decide) ?_
                                obtain rfl := Option.some.inj h
                                exact z_iret G rfl dX5_digitsBehind_83 rfl trivial rfl
noncomputable def f_X5_digitsBehind (p0 : Int32) : Int32 :=
  if p0 = 103 then (3) else (if p0 = 104 then ((-1)) else (if p0 = 105 then ((-1)) else (if p0 = 106 then ((-1)) else (if p0 = 107 then ((-1)) else (if p0 = 108 then (4) else (if p0 = 109 then (4) else (if p0 = 110 then ((-1)) else (if p0 = 111 then ((-1)) else (if p0 = 112 then (4) else (if p0 = 113 then ((-1)) else (if p0 = 114 then ((-1)) else (if p0 = 115 then ((-1)) else (if p0 = 116 then (0) else (if p0 = 117 then (4) else (((-1)))))))))))))))))
theorem fo_X5_digitsBehind_eq (p0 : Int32) : fo_X5_digitsBehind p0 = some (f_X5_digitsBehind p0) := by
  unfold fo_X5_digitsBehind f_X5_digitsBehind
  first | rfl | ((repeat' split) <;> rfl) | (simp only [apply_ite Option.some])
theorem c_X5_digitsBehind {l : Launch} {dC : Nat → ClassId} {dI : Nat → Nat → Nat} {cI cJ cZ cN : ClassId}   {p0 : Int32} (_ : True = True) : zM l yX5_digitsBehind cX5_digitsBehind 1 (some .int) ({ frames := 0, cells := 0, slots := 0, locals := 0 }) [.int p0] (dC, dI) vwCl (zT cI cJ cZ cN) [] (some (.int (f_X5_digitsBehind p0))) (True) [] := co_X5_digitsBehind (fo_X5_digitsBehind_eq _)

noncomputable def f_X5_readNumber_b4 (t_size : Int32) (t_signs : Nat → Int32) (p1 : Int32) (k4 : Int32 → Int32 → Int32 → Option (Int32 × Int32)) (x2 : Int32) (x3 : Int32) (t_next : Int32) : Option (Int32 × Int32) :=
  if p1 ≤ x3 then some (x2, t_next) else if t_size ≤ t_next then some ((-1), t_next) else chk (inb t_next 80) (if (t_signs (ix t_next)) < 48 then some ((-1), t_next) else chk (inb t_next 80) (if (t_signs (ix t_next)) ≤ 57 then chk (inb t_next 80) (k4 (((10 * x2) + (t_signs (ix t_next))) - 48) (x3 + 1) (t_next + 1)) else some ((-1), t_next)))
set_option maxRecDepth 100000 in
set_option maxHeartbeats 4000000 in
theorem zb_X5_readNumber_4 {p : Program} {l : Launch} {e : Env} {s : State} {m : MethodId} {args : Array Value} {below : List Frame} {meth : Method} {c : Code} {A : Nat → Prop} {dC : Nat → ClassId} {dI : Nat → Nat → Nat} {cI cJ cZ cN : ClassId} {ta : Nat → Nat} {t_words : Nat → Int32} {t_wordCount : Int32} {t_size : Int32} {t_signs : Nat → Int32} {p1 : Int32} {res : Int32 × Int32} (G : zG p m c cX5_readNumber 4 s args RX5 (dC, dI) vwCl (zT cI cJ cZ cN) A meth (some .int)) {k4 : Int32 → Int32 → Int32 → Option (Int32 × Int32)} (hr4 : ∀ (x2 : Int32) (x3 : Int32) (t_next : Int32), k4 x2 x3 t_next = some res → Z p l e ({ frames := 0, cells := 0, slots := 0, locals := 0 }) s m args below meth c (dC, dI) vwCl A 4 0 0 (MQ below (zQ (some (.int res.1)) (True) (w_X cI cJ cZ cN ta t_words t_wordCount t_size t_signs res.2) (dC, dI) vwCl A) args s 0 0 A) (w_X cI cJ cZ cN ta t_words t_wordCount t_size t_signs t_next) [(0, .ref (ta 0)), (1, .int p1), (2, .int x2), (3, .int x3)] [] 4) : ∀ (x2 : Int32) (x3 : Int32) (t_next : Int32), f_X5_readNumber_b4 t_size t_signs p1 k4 x2 x3 t_next = some res → Z p l e ({ frames := 0, cells := 0, slots := 0, locals := 0 }) s m args below meth c (dC, dI) vwCl A 4 0 0 (MQ below (zQ (some (.int res.1)) (True) (w_X cI cJ cZ cN ta t_words t_wordCount t_size t_signs res.2) (dC, dI) vwCl A) args s 0 0 A) (w_X cI cJ cZ cN ta t_words t_wordCount t_size t_signs t_next) [(0, .ref (ta 0)), (1, .int p1), (2, .int x2), (3, .int x3)] [] 4 := by
  intro x2 x3 t_next h
  unfold f_X5_readNumber_b4 at h
  refine z_iload_n G dX5_readNumber_4 rfl 3 rfl ?_
  refine z_iload_n G dX5_readNumber_5 rfl 1 rfl ?_
  refine z_icmp_ge (tgt := 84) G dX5_readNumber_6 (by decide) h (fun h => ?_) (fun h => ?_)
  · refine z_iload_n G dX5_readNumber_84 rfl 2 rfl ?_
    obtain rfl := Option.some.inj h
    exact z_iret G rfl dX5_readNumber_85 rfl trivial rfl
  · refine z_aload_n G dX5_readNumber_9 rfl 0 rfl ?_
    refine z_get (ci := 5) (v := .int t_next) G in_X5 0 rfl rfl 4 (by decide) fl_X5_22 rfl dX5_readNumber_10 ?_
    refine z_aload_n G dX5_readNumber_13 rfl 0 rfl ?_
    refine z_get (ci := 5) (v := .int t_size) G in_X5 0 rfl rfl 2 (by decide) fl_X5_18 rfl dX5_readNumber_14 ?_
    refine z_icmp_ge (tgt := 48) G dX5_readNumber_17 (by decide) h (fun h => ?_) (fun h => ?_)
    · refine z_iconst (v := (-1)) G dX5_readNumber_48 (by decide) ?_
      obtain rfl := Option.some.inj h
      exact z_iret G rfl dX5_readNumber_49 rfl trivial rfl
    · refine z_aload_n G dX5_readNumber_20 rfl 0 rfl ?_
      refine z_get (ci := 5) (v := .ref (ta 2)) G in_X5 0 rfl rfl 3 (by decide) fl_X5_15 rfl dX5_readNumber_21 ?_
      refine z_aload_n G dX5_readNumber_24 rfl 0 rfl ?_
      refine z_get (ci := 5) (v := .int t_next) G in_X5 0 rfl rfl 4 (by decide) fl_X5_22 rfl dX5_readNumber_25 ?_
      refine z_iaload G 2 0 rfl rfl dX5_readNumber_28 h (fun h => ?_)
      refine z_bipush (v := 48) G dX5_readNumber_29 (by decide) ?_
      refine z_icmp_lt (tgt := 48) G dX5_readNumber_31 (by decide) h (fun h => ?_) (fun h => ?_)
      · refine z_iconst (v := (-1)) G dX5_readNumber_48 (by decide) ?_
        obtain rfl := Option.some.inj h
        exact z_iret G rfl dX5_readNumber_49 rfl trivial rfl
      · refine z_aload_n G dX5_readNumber_34 rfl 0 rfl ?_
        refine z_get (ci := 5) (v := .ref (ta 2)) G in_X5 0 rfl rfl 3 (by decide) fl_X5_15 rfl dX5_readNumber_35 ?_
        refine z_aload_n G dX5_readNumber_38 rfl 0 rfl ?_
        refine z_get (ci := 5) (v := .int t_next) G in_X5 0 rfl rfl 4 (by decide) fl_X5_22 rfl dX5_readNumber_39 ?_
        refine z_iaload G 2 0 rfl rfl dX5_readNumber_42 h (fun h => ?_)
        refine z_bipush (v := 57) G dX5_readNumber_43 (by decide) ?_
        refine z_icmp_le (tgt := 50) G dX5_readNumber_45 (by decide) h (fun h => ?_) (fun h => ?_)
        · refine z_bipush (v := 10) G dX5_readNumber_50 (by decide) ?_
          refine z_iload_n G dX5_readNumber_52 rfl 2 rfl ?_
          refine z_imul G dX5_readNumber_53 ?_
          refine z_aload_n G dX5_readNumber_54 rfl 0 rfl ?_
          refine z_get (ci := 5) (v := .ref (ta 2)) G in_X5 0 rfl rfl 3 (by decide) fl_X5_15 rfl dX5_readNumber_55 ?_
          refine z_aload_n G dX5_readNumber_58 rfl 0 rfl ?_
          refine z_get (ci := 5) (v := .int t_next) G in_X5 0 rfl rfl 4 (by decide) fl_X5_22 rfl dX5_readNumber_59 ?_
          refine z_iaload G 2 0 rfl rfl dX5_readNumber_62 h (fun h => ?_)
          refine z_iadd G dX5_readNumber_63 ?_
          refine z_bipush (v := 48) G dX5_readNumber_64 (by decide) ?_
          refine z_isub G dX5_readNumber_66 ?_
          refine z_istore_n (lv' := [(0, .ref (ta 0)), (1, .int p1), (2, .int (((10 * x2) + (t_signs (ix t_next))) - 48)), (3, .int x3)]) G dX5_readNumber_67 rfl (by decide) [1, 2, 0, 3] rfl ?_
          refine z_aload_n G dX5_readNumber_68 rfl 0 rfl ?_
          refine z_dup G dX5_readNumber_69 rfl ?_
          refine z_get (ci := 5) (v := .int t_next) G in_X5 0 rfl rfl 4 (by decide) fl_X5_22 rfl dX5_readNumber_70 ?_
          refine z_iconst (v := 1) G dX5_readNumber_73 (by decide) ?_
          refine z_iadd G dX5_readNumber_74 ?_
          refine z_put (ci := 5) (ws' := (w_X cI cJ cZ cN ta t_words t_wordCount t_size t_signs (t_next + 1))) G in_X5 tyX5 tyX5_ok nmX5 0 rfl rfl 4 (by decide) fl_X5_22 rfl rfl rfl (Nat.le_of_ble_eq_true rfl) rfl dX5_readNumber_75 ?_
          refine z_iinc (v := x3 + 1) (lv' := [(0, .ref (ta 0)), (1, .int p1), (2, .int (((10 * x2) + (t_signs (ix t_next))) - 48)), (3, .int (x3 + 1))]) G dX5_readNumber_78 3 rfl rfl (by decide) [1, 2, 3, 0] rfl ?_
          refine z_goto (tgt := 4) G dX5_readNumber_81 (by decide) ?_
          exact hr4 (((10 * x2) + (t_signs (ix t_next))) - 48) (x3 + 1) (t_next + 1) h
        · refine z_iconst (v := (-1)) G dX5_readNumber_48 (by decide) ?_
          obtain rfl := Option.some.inj h
          exact z_iret G rfl dX5_readNumber_49 rfl trivial rfl
noncomputable def f_X5_readNumber_l4 (t_size : Int32) (t_signs : Nat → Int32) (p1 : Int32)  (x2 : Int32) (x3 : Int32) (t_next : Int32) : Option (Int32 × Int32) := loopN (V := Int32 × Int32 × Int32) (fun rc v => f_X5_readNumber_b4 t_size t_signs p1  (fun x0_ x1_ x2_ => rc (x0_, x1_, x2_)) v.1 v.2.1 v.2.2) 200 (x2, x3, t_next)
set_option maxRecDepth 100000 in
set_option maxHeartbeats 4000000 in
theorem zl_X5_readNumber_4 {p : Program} {l : Launch} {e : Env} {s : State} {m : MethodId} {args : Array Value} {below : List Frame} {meth : Method} {c : Code} {A : Nat → Prop} {dC : Nat → ClassId} {dI : Nat → Nat → Nat} {cI cJ cZ cN : ClassId} {ta : Nat → Nat} {t_words : Nat → Int32} {t_wordCount : Int32} {t_size : Int32} {t_signs : Nat → Int32} {p1 : Int32} {res : Int32 × Int32} (G : zG p m c cX5_readNumber 4 s args RX5 (dC, dI) vwCl (zT cI cJ cZ cN) A meth (some .int))  : ∀ (x2 : Int32) (x3 : Int32) (t_next : Int32), f_X5_readNumber_l4 t_size t_signs p1  x2 x3 t_next = some res → Z p l e ({ frames := 0, cells := 0, slots := 0, locals := 0 }) s m args below meth c (dC, dI) vwCl A 4 0 0 (MQ below (zQ (some (.int res.1)) (True) (w_X cI cJ cZ cN ta t_words t_wordCount t_size t_signs res.2) (dC, dI) vwCl A) args s 0 0 A) (w_X cI cJ cZ cN ta t_words t_wordCount t_size t_signs t_next) [(0, .ref (ta 0)), (1, .int p1), (2, .int x2), (3, .int x3)] [] 4 := by
  intro x2 x3 t_next h
  exact zloop (P := fun v => Z p l e ({ frames := 0, cells := 0, slots := 0, locals := 0 }) s m args below meth c (dC, dI) vwCl A 4 0 0 (MQ below (zQ (some (.int res.1)) (True) (w_X cI cJ cZ cN ta t_words t_wordCount t_size t_signs res.2) (dC, dI) vwCl A) args s 0 0 A) (w_X cI cJ cZ cN ta t_words t_wordCount t_size t_signs v.2.2) [(0, .ref (ta 0)), (1, .int p1), (2, .int v.1), (3, .int v.2.1)] [] 4) (fun rc hr v h => zb_X5_readNumber_4 G  (fun x0_ x1_ x2_ h => hr (x0_, x1_, x2_) h) v.1 v.2.1 v.2.2 h) 200 (x2, x3, t_next) h
noncomputable def f_X5_readNumber (t_size : Int32) (t_signs : Nat → Int32) (t_next : Int32) (p1 : Int32) : Option (Int32 × Int32) :=
  f_X5_readNumber_l4 t_size t_signs p1  0 0 t_next
set_option maxRecDepth 100000 in
set_option maxHeartbeats 4000000 in
theorem c_X5_readNumber {l : Launch} {dC : Nat → ClassId} {dI : Nat → Nat → Nat} {cI cJ cZ cN : ClassId} {ta : Nat → Nat} {t_words : Nat → Int32} {t_wordCount : Int32} {t_size : Int32} {t_signs : Nat → Int32} {t_next : Int32} {p1 : Int32} {res : Int32 × Int32} (h : f_X5_readNumber t_size t_signs t_next p1 = some res) : zM l yX5_readNumber cX5_readNumber 4 (some .int) ({ frames := 0, cells := 0, slots := 0, locals := 0 }) [.ref (ta 0), .int p1] (dC, dI) vwCl (zT cI cJ cZ cN) (w_X cI cJ cZ cN ta t_words t_wordCount t_size t_signs t_next) (some (.int res.1)) (True) (w_X cI cJ cZ cN ta t_words t_wordCount t_size t_signs res.2) := by
  refine zM_of (own := RX5) (by decide) rfl [(0, .ref (ta 0)), (1, .int p1)] (Nat.le_of_ble_eq_true rfl) rfl ?_
  intro p e s m args below meth c A G _
  unfold f_X5_readNumber at h
  refine z_iconst (v := 0) G dX5_readNumber_0 (by decide) ?_
  refine z_istore_n (lv' := [(0, .ref (ta 0)), (1, .int p1), (2, .int 0)]) G dX5_readNumber_1 rfl (by decide) [1, 2, 0] rfl ?_
  refine z_iconst (v := 0) G dX5_readNumber_2 (by decide) ?_
  refine z_istore_n (lv' := [(0, .ref (ta 0)), (1, .int p1), (2, .int 0), (3, .int 0)]) G dX5_readNumber_3 rfl (by decide) [1, 2, 3, 0] rfl ?_
  exact zl_X5_readNumber_4 G  0 0 t_next h

noncomputable def f_X5_readDay_b86 (t_size : Int32) (t_signs : Nat → Int32)  (t_words : Nat → Int32) (t_wordCount : Int32) (t_next : Int32) : Option (Int32 × (Nat → Int32) × Int32 × Int32) :=
  if t_next = t_size then some (1, t_words, t_wordCount, t_next) else some (0, t_words, t_wordCount, t_next)
set_option maxRecDepth 100000 in
set_option maxHeartbeats 4000000 in
theorem zb_X5_readDay_86 {p : Program} {l : Launch} {e : Env} {s : State} {m : MethodId} {args : Array Value} {below : List Frame} {meth : Method} {c : Code} {A : Nat → Prop} {dC : Nat → ClassId} {dI : Nat → Nat → Nat} {cI cJ cZ cN : ClassId} {ta : Nat → Nat} {t_size : Int32} {t_signs : Nat → Int32}  {res : Int32 × (Nat → Int32) × Int32 × Int32} (G : zG p m c cX5_readDay 5 s args RX5 (dC, dI) vwCl (zT cI cJ cZ cN) A meth (some .boolean))  : ∀ (t_words : Nat → Int32) (t_wordCount : Int32) (t_next : Int32), f_X5_readDay_b86 t_size t_signs  t_words t_wordCount t_next = some res → Z p l e ({ frames := 1, cells := 0, slots := 0, locals := 23 }) s m args below meth c (dC, dI) vwCl A 5 0 0 (MQ below (zQ (some (.int res.1)) (narrow .boolean (.int res.1) = .int res.1) (w_X cI cJ cZ cN ta res.2.1 res.2.2.1 t_size t_signs res.2.2.2) (dC, dI) vwCl A) args s 0 0 A) (w_X cI cJ cZ cN ta t_words t_wordCount t_size t_signs t_next) [(0, .ref (ta 0))] [] 86 := by
  intro t_words t_wordCount t_next h
  unfold f_X5_readDay_b86 at h
  refine z_aload_n G dX5_readDay_86 rfl 0 rfl ?_
  refine z_get (ci := 5) (v := .int t_next) G in_X5 0 rfl rfl 4 (by decide) fl_X5_22 rfl dX5_readDay_87 ?_
  refine z_aload_n G dX5_readDay_90 rfl 0 rfl ?_
  refine z_get (ci := 5) (v := .int t_size) G in_X5 0 rfl rfl 2 (by decide) fl_X5_18 rfl dX5_readDay_91 ?_
  refine z_icmp_ne (tgt := 101) G dX5_readDay_94 (by decide) h (fun h => ?_) (fun h => ?_)
  · refine z_iconst (v := 0) G dX5_readDay_101 (by decide) ?_
    obtain rfl := Option.some.inj h
    exact z_zret G rfl zn0 dX5_readDay_102 rfl zn0 rfl
  · refine z_iconst (v := 1) G dX5_readDay_97 (by decide) ?_
    refine z_goto (tgt := 102) G dX5_readDay_98 (by decide) ?_
    obtain rfl := Option.some.inj h
    exact z_zret G rfl zn1 dX5_readDay_102 rfl zn1 rfl
noncomputable def f_X5_readDay_b6 (t_size : Int32) (t_signs : Nat → Int32) (k6 : Int32 → (Nat → Int32) → Int32 → Int32 → Option (Int32 × (Nat → Int32) × Int32 × Int32)) (x1 : Int32) (t_words : Nat → Int32) (t_wordCount : Int32) (t_next : Int32) : Option (Int32 × (Nat → Int32) × Int32 × Int32) :=
  if 80 ≤ x1 then f_X5_readDay_b86 t_size t_signs  t_words t_wordCount t_next else if t_size ≤ t_next then f_X5_readDay_b86 t_size t_signs  t_words t_wordCount t_next else chk (inb t_next 80) (if 0 ≤ (f_X5_digitsBehind (t_signs (ix t_next))) then (f_X5_readNumber t_size t_signs (t_next + 1) (f_X5_digitsBehind (t_signs (ix t_next)))).bind (fun r3 => if 0 ≤ r3.1 then (f_X5_addWord t_words t_wordCount ((10000 * (t_signs (ix t_next))) + r3.1)).bind (fun r5 => k6 (x1 + 1) r5.1 r5.2 r3.2) else some (0, t_words, t_wordCount, r3.2)) else some (0, t_words, t_wordCount, t_next))
set_option maxRecDepth 100000 in
set_option maxHeartbeats 4000000 in
theorem zb_X5_readDay_6 {p : Program} {l : Launch} {e : Env} {s : State} {m : MethodId} {args : Array Value} {below : List Frame} {meth : Method} {c : Code} {A : Nat → Prop} {dC : Nat → ClassId} {dI : Nat → Nat → Nat} {cI cJ cZ cN : ClassId} {ta : Nat → Nat} {t_size : Int32} {t_signs : Nat → Int32}  {res : Int32 × (Nat → Int32) × Int32 × Int32} (G : zG p m c cX5_readDay 5 s args RX5 (dC, dI) vwCl (zT cI cJ cZ cN) A meth (some .boolean)) {k6 : Int32 → (Nat → Int32) → Int32 → Int32 → Option (Int32 × (Nat → Int32) × Int32 × Int32)} (hr6 : ∀ (x1 : Int32) (t_words : Nat → Int32) (t_wordCount : Int32) (t_next : Int32), k6 x1 t_words t_wordCount t_next = some res → Z p l e ({ frames := 1, cells := 0, slots := 0, locals := 23 }) s m args below meth c (dC, dI) vwCl A 5 0 0 (MQ below (zQ (some (.int res.1)) (narrow .boolean (.int res.1) = .int res.1) (w_X cI cJ cZ cN ta res.2.1 res.2.2.1 t_size t_signs res.2.2.2) (dC, dI) vwCl A) args s 0 0 A) (w_X cI cJ cZ cN ta t_words t_wordCount t_size t_signs t_next) [(0, .ref (ta 0)), (1, .int x1)] [] 6) : ∀ (x1 : Int32) (t_words : Nat → Int32) (t_wordCount : Int32) (t_next : Int32), f_X5_readDay_b6 t_size t_signs k6 x1 t_words t_wordCount t_next = some res → Z p l e ({ frames := 1, cells := 0, slots := 0, locals := 23 }) s m args below meth c (dC, dI) vwCl A 5 0 0 (MQ below (zQ (some (.int res.1)) (narrow .boolean (.int res.1) = .int res.1) (w_X cI cJ cZ cN ta res.2.1 res.2.2.1 t_size t_signs res.2.2.2) (dC, dI) vwCl A) args s 0 0 A) (w_X cI cJ cZ cN ta t_words t_wordCount t_size t_signs t_next) [(0, .ref (ta 0)), (1, .int x1)] [] 6 := by
  intro x1 t_words t_wordCount t_next h
  unfold f_X5_readDay_b6 at h
  refine z_iload_n G dX5_readDay_6 rfl 1 rfl ?_
  refine z_bipush (v := 80) G dX5_readDay_7 (by decide) ?_
  refine z_icmp_ge (tgt := 86) G dX5_readDay_9 (by decide) h (fun h => ?_) (fun h => ?_)
  · refine z_lv [0] rfl ?_
    exact zb_X5_readDay_86 G  t_words t_wordCount t_next h
  · refine z_aload_n G dX5_readDay_12 rfl 0 rfl ?_
    refine z_get (ci := 5) (v := .int t_next) G in_X5 0 rfl rfl 4 (by decide) fl_X5_22 rfl dX5_readDay_13 ?_
    refine z_aload_n G dX5_readDay_16 rfl 0 rfl ?_
    refine z_get (ci := 5) (v := .int t_size) G in_X5 0 rfl rfl 2 (by decide) fl_X5_18 rfl dX5_readDay_17 ?_
    refine z_icmp_ge (tgt := 86) G dX5_readDay_20 (by decide) h (fun h => ?_) (fun h => ?_)
    · refine z_lv [0] rfl ?_
      exact zb_X5_readDay_86 G  t_words t_wordCount t_next h
    · refine z_aload_n G dX5_readDay_23 rfl 0 rfl ?_
      refine z_get (ci := 5) (v := .ref (ta 2)) G in_X5 0 rfl rfl 3 (by decide) fl_X5_15 rfl dX5_readDay_24 ?_
      refine z_aload_n G dX5_readDay_27 rfl 0 rfl ?_
      refine z_get (ci := 5) (v := .int t_next) G in_X5 0 rfl rfl 4 (by decide) fl_X5_22 rfl dX5_readDay_28 ?_
      refine z_iaload G 2 0 rfl rfl dX5_readDay_31 h (fun h => ?_)
      refine z_istore_n (lv' := [(0, .ref (ta 0)), (1, .int x1), (2, .int (t_signs (ix t_next)))]) G dX5_readDay_32 rfl (by decide) [1, 2, 0] rfl ?_
      refine z_iload_n G dX5_readDay_33 rfl 2 rfl ?_
      refine z_kS (As := [.int (t_signs (ix t_next))]) (rest := []) (st' := [.int (f_X5_digitsBehind (t_signs (ix t_next)))]) G pk_X5_digitsBehind ps_X5_digitsBehind ml_X5_50 (c_X5_digitsBehind (p0 := t_signs (ix t_next)) rfl) ⟨rfl, rfl⟩ ⟨Nat.le_of_ble_eq_true rfl, Nat.le_of_ble_eq_true rfl⟩ ⟨Nat.zero_le _, Nat.zero_le _⟩ rfl rfl (Nat.le_of_ble_eq_true rfl) rfl dX5_readDay_34 (fun z2 => ?_)
      refine z_istore_n (lv' := [(0, .ref (ta 0)), (1, .int x1), (2, .int (t_signs (ix t_next))), (3, .int (f_X5_digitsBehind (t_signs (ix t_next))))]) G dX5_readDay_37 rfl (by decide) [1, 2, 3, 0] rfl ?_
      refine z_iload_n G dX5_readDay_38 rfl 3 rfl ?_
      refine z_if_ge (tgt := 44) G dX5_readDay_39 (by decide) h (fun h => ?_) (fun h => ?_)
      · refine z_aload_n G dX5_readDay_44 rfl 0 rfl ?_
        refine z_dup G dX5_readDay_45 rfl ?_
        refine z_get (ci := 5) (v := .int t_next) G in_X5 0 rfl rfl 4 (by decide) fl_X5_22 rfl dX5_readDay_46 ?_
        refine z_iconst (v := 1) G dX5_readDay_49 (by decide) ?_
        refine z_iadd G dX5_readDay_50 ?_
        refine z_put (ci := 5) (ws' := (w_X cI cJ cZ cN ta t_words t_wordCount t_size t_signs (t_next + 1))) G in_X5 tyX5 tyX5_ok nmX5 0 rfl rfl 4 (by decide) fl_X5_22 rfl rfl rfl (Nat.le_of_ble_eq_true rfl) rfl dX5_readDay_51 ?_
        refine z_aload_n G dX5_readDay_54 rfl 0 rfl ?_
        refine z_iload_n G dX5_readDay_55 rfl 3 rfl ?_
        obtain ⟨r3, e3, h⟩ := obind h
        refine z_kV (As := [.int (f_X5_digitsBehind (t_signs (ix t_next)))]) (rest := []) (st' := [.int r3.1]) (ws' := (w_X cI cJ cZ cN ta t_words t_wordCount t_size t_signs r3.2)) G pk_X5_readNumber pv_X5_readNumber ml_X5_54 (c_X5_readNumber (ta := ta) (t_words := t_words) (t_wordCount := t_wordCount) (t_size := t_size) (t_signs := t_signs) (t_next := t_next + 1) (p1 := f_X5_digitsBehind (t_signs (ix t_next))) e3) ⟨rfl, rfl⟩ ⟨Nat.le_of_ble_eq_true rfl, Nat.le_of_ble_eq_true rfl⟩ ⟨Nat.zero_le _, Nat.zero_le _⟩ rfl rfl (Nat.le_of_ble_eq_true rfl) 0 5 rfl rfl rfl [0, 1, 2] rfl rfl [some 0, some 1, some 2] rfl rfl rfl rfl dX5_readDay_56 (fun z4 => ?_)
        refine z_istore (lv' := [(0, .ref (ta 0)), (1, .int x1), (2, .int (t_signs (ix t_next))), (3, .int (f_X5_digitsBehind (t_signs (ix t_next)))), (4, .int r3.1)]) G dX5_readDay_59 (by decide) [1, 2, 3, 4, 0] rfl ?_
        refine z_iload G dX5_readDay_61 4 rfl ?_
        refine z_if_ge (tgt := 68) G dX5_readDay_63 (by decide) h (fun h => ?_) (fun h => ?_)
        · refine z_aload_n G dX5_readDay_68 rfl 0 rfl ?_
          refine z_sipush (v := 10000) G dX5_readDay_69 (by decide) ?_
          refine z_iload_n G dX5_readDay_72 rfl 2 rfl ?_
          refine z_imul G dX5_readDay_73 ?_
          refine z_iload G dX5_readDay_74 4 rfl ?_
          refine z_iadd G dX5_readDay_76 ?_
          obtain ⟨r5, e5, h⟩ := obind h
          refine z_kV (As := [.int ((10000 * (t_signs (ix t_next))) + r3.1)]) (rest := []) (st' := []) (ws' := (w_X cI cJ cZ cN ta r5.1 r5.2 t_size t_signs r3.2)) G pk_X5_addWord pv_X5_addWord ml_X5_43 (c_X5_addWord (ta := ta) (t_words := t_words) (t_wordCount := t_wordCount) (t_size := t_size) (t_signs := t_signs) (t_next := r3.2) (p1 := (10000 * (t_signs (ix t_next))) + r3.1) e5) ⟨rfl, rfl⟩ ⟨Nat.le_of_ble_eq_true rfl, Nat.le_of_ble_eq_true rfl⟩ ⟨Nat.zero_le _, Nat.zero_le _⟩ rfl rfl (Nat.le_of_ble_eq_true rfl) 0 5 rfl rfl rfl [0, 1, 2] rfl rfl [some 0, some 1, some 2] rfl rfl rfl rfl dX5_readDay_77 (fun z6 => ?_)
          refine z_iinc (v := x1 + 1) (lv' := [(0, .ref (ta 0)), (1, .int (x1 + 1)), (2, .int (t_signs (ix t_next))), (3, .int (f_X5_digitsBehind (t_signs (ix t_next)))), (4, .int r3.1)]) G dX5_readDay_80 1 rfl rfl (by decide) [1, 0, 2, 3, 4] rfl ?_
          refine z_goto (tgt := 6) G dX5_readDay_83 (by decide) ?_
          refine z_lv [0, 1] rfl ?_
          exact hr6 (x1 + 1) r5.1 r5.2 r3.2 h
        · refine z_iconst (v := 0) G dX5_readDay_66 (by decide) ?_
          obtain rfl := Option.some.inj h
          exact z_zret G rfl zn0 dX5_readDay_67 rfl zn0 rfl
      · refine z_iconst (v := 0) G dX5_readDay_42 (by decide) ?_
        obtain rfl := Option.some.inj h
        exact z_zret G rfl zn0 dX5_readDay_43 rfl zn0 rfl
noncomputable def f_X5_readDay_l6 (t_size : Int32) (t_signs : Nat → Int32)  (x1 : Int32) (t_words : Nat → Int32) (t_wordCount : Int32) (t_next : Int32) : Option (Int32 × (Nat → Int32) × Int32 × Int32) := loopN (V := Int32 × (Nat → Int32) × Int32 × Int32) (fun rc v => f_X5_readDay_b6 t_size t_signs  (fun x0_ x1_ x2_ x3_ => rc (x0_, x1_, x2_, x3_)) v.1 v.2.1 v.2.2.1 v.2.2.2) 200 (x1, t_words, t_wordCount, t_next)
set_option maxRecDepth 100000 in
set_option maxHeartbeats 4000000 in
theorem zl_X5_readDay_6 {p : Program} {l : Launch} {e : Env} {s : State} {m : MethodId} {args : Array Value} {below : List Frame} {meth : Method} {c : Code} {A : Nat → Prop} {dC : Nat → ClassId} {dI : Nat → Nat → Nat} {cI cJ cZ cN : ClassId} {ta : Nat → Nat} {t_size : Int32} {t_signs : Nat → Int32}  {res : Int32 × (Nat → Int32) × Int32 × Int32} (G : zG p m c cX5_readDay 5 s args RX5 (dC, dI) vwCl (zT cI cJ cZ cN) A meth (some .boolean))  : ∀ (x1 : Int32) (t_words : Nat → Int32) (t_wordCount : Int32) (t_next : Int32), f_X5_readDay_l6 t_size t_signs  x1 t_words t_wordCount t_next = some res → Z p l e ({ frames := 1, cells := 0, slots := 0, locals := 23 }) s m args below meth c (dC, dI) vwCl A 5 0 0 (MQ below (zQ (some (.int res.1)) (narrow .boolean (.int res.1) = .int res.1) (w_X cI cJ cZ cN ta res.2.1 res.2.2.1 t_size t_signs res.2.2.2) (dC, dI) vwCl A) args s 0 0 A) (w_X cI cJ cZ cN ta t_words t_wordCount t_size t_signs t_next) [(0, .ref (ta 0)), (1, .int x1)] [] 6 := by
  intro x1 t_words t_wordCount t_next h
  exact zloop (P := fun v => Z p l e ({ frames := 1, cells := 0, slots := 0, locals := 23 }) s m args below meth c (dC, dI) vwCl A 5 0 0 (MQ below (zQ (some (.int res.1)) (narrow .boolean (.int res.1) = .int res.1) (w_X cI cJ cZ cN ta res.2.1 res.2.2.1 t_size t_signs res.2.2.2) (dC, dI) vwCl A) args s 0 0 A) (w_X cI cJ cZ cN ta v.2.1 v.2.2.1 t_size t_signs v.2.2.2) [(0, .ref (ta 0)), (1, .int v.1)] [] 6) (fun rc hr v h => zb_X5_readDay_6 G  (fun x0_ x1_ x2_ x3_ h => hr (x0_, x1_, x2_, x3_) h) v.1 v.2.1 v.2.2.1 v.2.2.2 h) 200 (x1, t_words, t_wordCount, t_next) h
noncomputable def f_X5_readDay (t_words : Nat → Int32) (t_wordCount : Int32) (t_size : Int32) (t_signs : Nat → Int32) (t_next : Int32) : Option (Int32 × (Nat → Int32) × Int32 × Int32) :=
  f_X5_readDay_l6 t_size t_signs  0 t_words ((f_X5_start t_wordCount t_next).1) ((f_X5_start t_wordCount t_next).2)
set_option maxRecDepth 100000 in
set_option maxHeartbeats 4000000 in
theorem c_X5_readDay {l : Launch} {dC : Nat → ClassId} {dI : Nat → Nat → Nat} {cI cJ cZ cN : ClassId} {ta : Nat → Nat} {t_words : Nat → Int32} {t_wordCount : Int32} {t_size : Int32} {t_signs : Nat → Int32} {t_next : Int32}  {res : Int32 × (Nat → Int32) × Int32 × Int32} (h : f_X5_readDay t_words t_wordCount t_size t_signs t_next = some res) : zM l yX5_readDay cX5_readDay 5 (some .boolean) ({ frames := 1, cells := 0, slots := 0, locals := 23 }) [.ref (ta 0)] (dC, dI) vwCl (zT cI cJ cZ cN) (w_X cI cJ cZ cN ta t_words t_wordCount t_size t_signs t_next) (some (.int res.1)) (narrow .boolean (.int res.1) = .int res.1) (w_X cI cJ cZ cN ta res.2.1 res.2.2.1 t_size t_signs res.2.2.2) := by
  refine zM_of (own := RX5) (by decide) rfl [(0, .ref (ta 0))] (Nat.le_of_ble_eq_true rfl) rfl ?_
  intro p e s m args below meth c A G _
  unfold f_X5_readDay at h
  refine z_aload_n G dX5_readDay_0 rfl 0 rfl ?_
  refine z_kV (As := []) (rest := []) (st' := []) (ws' := (w_X cI cJ cZ cN ta t_words ((f_X5_start t_wordCount t_next).1) t_size t_signs ((f_X5_start t_wordCount t_next).2))) G pk_X5_start pv_X5_start ml_X5_25 (c_X5_start (ta := ta) (t_words := t_words) (t_wordCount := t_wordCount) (t_size := t_size) (t_signs := t_signs) (t_next := t_next) rfl) ⟨rfl, rfl⟩ ⟨Nat.le_of_ble_eq_true rfl, Nat.le_of_ble_eq_true rfl⟩ ⟨Nat.zero_le _, Nat.zero_le _⟩ rfl rfl (Nat.le_of_ble_eq_true rfl) 0 5 rfl rfl rfl [0, 1, 2] rfl rfl [some 0, some 1, some 2] rfl rfl rfl rfl dX5_readDay_1 (fun z1 => ?_)
  refine z_iconst (v := 0) G dX5_readDay_4 (by decide) ?_
  refine z_istore_n (lv' := [(0, .ref (ta 0)), (1, .int 0)]) G dX5_readDay_5 rfl (by decide) [1, 0] rfl ?_
  exact zl_X5_readDay_6 G  0 t_words ((f_X5_start t_wordCount t_next).1) ((f_X5_start t_wordCount t_next).2) h
