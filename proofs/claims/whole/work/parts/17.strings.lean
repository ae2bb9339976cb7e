/-! the reference's String constants: "0123456789", "+&-", "lumgpt" -/
def zLen : List Nat := [10, 3, 6]
def zByt : List (List Int32) := [[48, 49, 50, 51, 52, 53, 54, 55, 56, 57], [43, 38, 45], [108, 117, 109, 103, 112, 116]]
abbrev zLn (i : Nat) : Nat := zLen.getD i 0
abbrev zlen (i : Nat) : Int32 := Int32.ofNat (zLen.getD i 0)
def zch (i j : Nat) : Int32 := (((zByt.getD i []).getD j 0 &&& 255).toUInt32 % 65536).toInt32
def zE (adK adV : Nat → Nat) (A : Nat → Prop) (U : State) (H : Heap) : Prop := vk_S 3 zLen zByt adK adV A U H ∧ (vk_R RX7 49 "0123456789" (adK 0) U ∧ vk_R RX7 312 "+&-" (adK 1) U ∧ vk_R RX7 338 "lumgpt" (adK 2) U) ∧ va_Z "java/lang/String" "COMPACT_STRINGS" "Z" (.int 1) A U H ∧ va_Zq "jdk/internal/util/Preconditions" "SIOOBE_FORMATTER" "Ljava/util/function/BiFunction;" A U H
theorem zE.kept {adK adV : Nat → Nat} {A : Nat → Prop} {U : State} {H H1 : Heap} (h : zE adK adV A U H) (hq : ∀ a : Nat, a < H.size → ¬ A a → H1[a]? = H[a]?) : zE adK adV A U H1 := ⟨h.1.kept hq, h.2.1, h.2.2.1.kept hq, h.2.2.2.kept hq⟩
theorem zE.narrow {adK adV : Nat → Nat} {A B : Nat → Prop} {U : State} {H : Heap} (h : zE adK adV A U H) (hAB : ∀ q, B q → A q) : zE adK adV B U H := ⟨h.1.narrow hAB, h.2.1, h.2.2.1.narrow hAB, h.2.2.2.narrow hAB⟩
theorem zE.warm {adK adV : Nat → Nat} {A : Nat → Prop} {s U : State} {H : Heap} (hW : s.WarmedH U.vm) (h : zE adK adV A s H) : zE adK adV A U H := ⟨h.1.moved hW.alike, ⟨h.2.1.1.warm hW, h.2.1.2.1.warm hW, h.2.1.2.2.warm hW⟩, h.2.2.1.moved hW.alike, h.2.2.2.moved hW.alike⟩
theorem zE.same {adK adV : Nat → Nat} {A : Nat → Prop} {s U : State} {H : Heap} (hv : U.vm = s.vm) (h : zE adK adV A s H) : zE adK adV A U H := by
  have ha : s.vm.Alike U.vm := hv ▸ Vm.Alike.refl s.vm
  exact ⟨h.1.moved ha, ⟨h.2.1.1.same hv, h.2.1.2.1.same hv, h.2.1.2.2.same hv⟩, h.2.2.1.moved ha, h.2.2.2.moved ha⟩
section ZSX
variable {p : Program} {l : Launch} {e : Env} {R : Room} {s : State} {m : MethodId} {args : Array Value} {below : List Frame} {meth : Method} {c : Code} {cells slots : Nat} {Q : State → Prop}
variable {D : va_G} {cl : List vw_C} {tys : List (ClassId × FieldType)} {A : Nat → Prop} {nL : Nat} {cc : ByteArray} {own : String} {ret : Option FieldType} {ws ws' : va_W} {lv lv' : List (Nat × Value)} {st st' : List Value} {pc tgt : Nat}
variable {ρ : Type} {X Y : Option ρ} {res : ρ} {adK adV : Nat → Nat}
def zPx (av : List Value) (D : va_G) (cl : List vw_C) (tys : List (ClassId × FieldType)) (adK adV : Nat → Nat) (w0 : va_W) (sz : Nat) : Array Value → State → Prop := fun a U => zPc av D cl tys w0 sz a U ∧ zE adK adV (va_A w0 sz) U U.heap
def zMx (l : Launch) (y : MethodName) (cc : ByteArray) (nL : Nat) (ret : Option FieldType) (rm : Room) (av : List Value) (D : va_G) (cl : List vw_C) (tys : List (ClassId × FieldType)) (adK adV : Nat → Nat) (w0 : va_W) (v : Option Value) (φ : Prop) (w1 : va_W) : Prop :=
  ∀ sz, Met l y (Cond.code y cc nL ret :: zW) rm (zPx av D cl tys adK adV w0 sz) (zQ v φ w1 D cl (va_A w0 sz)) 0 0 (va_A w0 sz)
theorem zPx_blind {av : List Value} {w0 : va_W} {sz : Nat} : FrameBlind (zPx av D cl tys adK adV w0 sz) := by
  intro a U g mk q
  exact ⟨zPc_blind a U g mk q.1, zE.same (s := U) (U := U.calling g mk a) rfl q.2⟩
theorem zMx_of {y : MethodName} {rm : Room} {av : List Value} {w0 w1 : va_W} {v : Option Value} {φ : Prop} (hy : plainName y.cls = true) (hown : y.cls = own)
    (lv0 : List (Nat × Value)) (hn : (lg_sl av).length ≤ nL) (hl0 : lv_args 0 av = lv0)
    (body : ∀ (p : Program) (e : Env) (s : State) (m : MethodId) (args : Array Value) (below : List Frame) (meth : Method) (c : Code) (A : Nat → Prop), zG p m c cc nL s args own D cl tys A meth ret → zE adK adV A s s.heap → Z p l e rm s m args below meth c D cl A nL 0 0 (MQ below (zQ v φ w1 D cl A) args s 0 0 A) w0 lv0 [] 0) : zMx l y cc nL ret rm av D cl tys adK adV w0 v φ w1 := by
  intro sz
  refine Met.ofW (cc := cc) (maxL := nL) (ret := ret) hy rfl ?_
  intro p e s m args below meth c s₁ B hml hv
  obtain ⟨⟨rfl, hsz, hP, hK, hN, hD0⟩, hEx⟩ := hv
  have hts := atoms_spec (ws := Cond.code y cc nL ret :: zW) B.pre
  have hown' : s.vm.findClass own = some m.cls := by rw [← hown]; exact findClass_of_methodNamed B.named
  subst hsz
  have hD := hD0.self (sz := s.heap.size)
  have hl := lv_entry av (n := nL) hn
  rw [lg_entry_eq]
  rw [hl0] at hl
  exact body p e s m _ below meth c (va_A w0 s.heap.size) ⟨⟨B.exec, B.bytes, hml, hown', fun w hw => hts w (List.mem_cons_of_mem _ hw)⟩, hK, hN, fun q h => Or.inr h, B.returns, B.notSynchronized⟩ hEx s.heap [] _ hP hD va_S.rf hl
theorem zPreX {w0 : va_W} {av : List Value} {H : Heap} {locs : List Loc} (G : zG p m c cc nL s args own D cl tys A meth ret) (hE : zE adK adV A s s.heap) (hS : va_S A s.heap H locs) (hF : ∀ q, va_A w0 H.size q → A q) (hPc : va_P D cl w0 H) (hDc : va_D A w0) : ∀ U : State, U.heap = H → s.WarmedH U.vm → zPx av D cl tys adK adV w0 H.size av.toArray U := fun U hU hW => ⟨zPre G hPc hDc U hU hW, by rw [hU]; exact ((hE.kept hS.2.1).narrow hF).warm hW⟩
theorem z_kX {y : MethodName} {bytes : ByteArray} {mL n index : Nat} {rt : Option FieldType} {rm : Room} {As rest : List Value} {wc w1 : va_W} {v : Option Value} {φ : Prop} {st0 : List Value} {b : Addr} {C : String} (G : zG p m c cc nL s args own D cl tys A meth ret) (hE : zE adK adV A s s.heap) (hY : zY y bytes mL rt n) (hV : zYV y C) (hl : Cond.methodLink own index y ∈ zW) (hM : zMx l y bytes mL rt rm (.ref b :: As) D cl tys adK adV wc v φ w1) (hc : rm.cells = 0 ∧ rm.slots = 0) (hR : rm.frames + 1 ≤ R.frames ∧ 8 + (mL + 11) + rm.locals ≤ R.locals) (hcs : cells ≤ R.cells ∧ slots ≤ R.slots) (hna : As.length = n)
    (hs0 : st0 = As.reverse ++ .ref b :: rest) (hrest : (rest.map fun v => v.category).sum ≤ 8) (hrecv : ∀ (H : Heap) (locs : List Loc), va_P D cl ws H → va_S A s.heap H locs → ∃ cellB : Cell, H[b]? = some cellB ∧ cellB.vm.isStatics = false ∧ s.vm.findClass C = some cellB.cls)
    (isC : List Nat) (hC : isC.map (fun i => ws[i]?) = wc.map some) (hnC : va_nd isC = true) (os : List (Option Nat)) (hos : zmkok w1.length isC os = true) (hw : zmk os ws w1 = ws') (hfst : ws'.map Prod.fst = ws.map Prod.fst) (hst : v.toList ++ rest = st') (hdg : decode cc pc = .ok (.invokevirtual index, 3))
    (kk : φ → Z p l e R s m args below meth c D cl A nL cells slots Q ws' lv st' (pc + 3)) : Z p l e R s m args below meth c D cl A nL cells slots Q ws lv st0 pc := by
  subst hs0
  exact z_call1 (a := (Value.ref b :: As).toArray) G.2.2.2.1 isC hC hnC (fun H H1 hP hD hk hF hP1 hD1 => z_frame hP hD hC hos hw hk hF hP1 hD1) (fun hD => va_D_fst hD hfst) hst (fun H locs ls hP hD hS hl0 hPc hDc => va_runV G.1 (hM H.size) ⟨zCB G hY hl hc.1 hc.2 hR, G.1.2.2.2.2 _ hV.1, G.1.2.2.2.2 _ hV.2⟩ ⟨zPx_blind, hrecv H locs hP hS, zPreX G hE hS (va_free (wc := wc) hD hS G.2.2.2.1 isC hC) hPc hDc⟩ rfl hna hl0.1 rfl (lv_room hrest) hdg hcs) kk
theorem z_kXS {y : MethodName} {bytes : ByteArray} {mL n index : Nat} {rt : Option FieldType} {rm : Room} {As rest : List Value} {v : Option Value} {φ : Prop} {st0 : List Value} (G : zG p m c cc nL s args own D cl tys A meth ret) (hE : zE adK adV A s s.heap) (hY : zY y bytes mL rt n) (hV : Cond.static y ∈ zW) (hl : Cond.methodLink own index y ∈ zW) (hM : zMx l y bytes mL rt rm As D cl tys adK adV [] v φ []) (hc : rm.cells = 0 ∧ rm.slots = 0) (hR : rm.frames + 1 ≤ R.frames ∧ 8 + (mL + 11) + rm.locals ≤ R.locals) (hcs : cells ≤ R.cells ∧ slots ≤ R.slots) (hna : As.length = n)
    (hs0 : st0 = As.reverse ++ rest) (hrest : (rest.map fun v => v.category).sum ≤ 8) (hst : v.toList ++ rest = st') (hdg : decode cc pc = .ok (.invokestatic index, 3))
    (kk : φ → Z p l e R s m args below meth c D cl A nL cells slots Q ws lv st' (pc + 3)) : Z p l e R s m args below meth c D cl A nL cells slots Q ws lv st0 pc := by
  subst hs0
  exact z_call1 (a := As.toArray) G.2.2.2.1 [] rfl rfl (fun H H1 hP hD hk hF hP1 hD1 => z_frame0 hP hD hk hF hP1 hD1) (fun hD => hD) hst (fun H locs ls hP hD hS hl0 hPc hDc => va_runS G.1 (hM H.size) ⟨zCB G hY hl hc.1 hc.2 hR, G.1.2.2.2.2 _ hV⟩ ⟨zPx_blind, zPreX G hE hS (va_free (wc := []) hD hS G.2.2.2.1 [] rfl) hPc hDc⟩ rfl hna hl0.1 rfl (lv_room hrest) hdg hcs) kk
theorem z_nret (G : zG p m c cc nL s args own D cl tys A meth ret) {v : Option Value} {φ : Prop} {w1 : va_W} {x : Int32} {ty : FieldType} (hr : ret = some ty) (hn : narrow ty (.int x) = .int x) (hdg : decode cc pc = .ok (.ireturn, 1)) (hv : v = some (.int x)) (hφ : φ) (hw : w1 = ws) : Z p l e R s m args below meth c D cl A nL 0 0 (MQ below (zQ v φ w1 D cl A) args s 0 0 A) ws lv [.int x] pc := by
  subst hv hw
  exact fun H locs ls hP hD hS hl => W.zret G.1.1 G.1.2.1 (by rw [G.2.2.2.2.1]; exact hr) hn (fun t ht _ => ⟨⟨rfl, hφ, by rw [ht]; exact hP, hD⟩, hS.F ht⟩) hS.2.2 hdg G.2.2.2.2.2
theorem z_i2c (G : zG p m c cc nL s args own D cl tys A meth ret) {x : Int32} (hdg : decode cc pc = .ok (.i2c, 1)) (kk : Z p l e R s m args below meth c D cl A nL cells slots Q ws lv (.int (x.toUInt32 % 65536).toInt32 :: st) (pc + 1)) : Z p l e R s m args below meth c D cl A nL cells slots Q ws lv (.int x :: st) pc := fun H locs ls hP hD hS hl => lv_i2c G.1.1 G.1.2.1 hdg rfl (kk H locs ls hP hD hS hl)
theorem z_gets (G : zG p m c cc nL s args own D cl tys A meth ret) {C n d : String} {v : Value} {index : Nat} (hZ : va_Z C n d v A s s.heap) (hl : Cond.fieldLink own index C n d ∈ zW) (hdg : decode cc pc = .ok (.getstatic index, 3)) (kk : Z p l e R s m args below meth c D cl A nL cells slots Q ws lv (v :: st) (pc + 3)) : Z p l e R s m args below meth c D cl A nL cells slots Q ws lv st pc := fun H locs ls hP hD hS hl0 => va_gets G.1.1 G.1.2.1 hZ hS G.1.2.2.2.1 (G.1.2.2.2.2 _ hl) (fun _ h => h) hdg (kk H locs ls hP hD hS hl0)
theorem z_sget (G : zG p m c cc nL s args own D cl tys A meth ret) {o n d : String} {index q : Nat} {v : Value} (hZ : va_OF o n d v q A s s.heap) (hl : Cond.fieldLink own index o n d ∈ zW) (hdg : decode cc pc = .ok (.getfield index, 3)) (kk : Z p l e R s m args below meth c D cl A nL cells slots Q ws lv (v :: st) (pc + 3)) : Z p l e R s m args below meth c D cl A nL cells slots Q ws lv (.ref q :: st) pc := fun H locs ls hP hD hS hl0 => vk_getf G.1.1 G.1.2.1 hZ hS G.1.2.2.2.1 (G.1.2.2.2.2 _ hl) (fun _ h => h) hdg (kk H locs ls hP hD hS hl0)
theorem z_slen (G : zG p m c cc nL s args own D cl tys A meth ret) {ty : FieldType} {t N : Nat} {f : Nat → Value} (hT : va_T ty t N f A s s.heap) (hdg : decode cc pc = .ok (.arraylength, 1)) (kk : Z p l e R s m args below meth c D cl A nL cells slots Q ws lv (.int (Int32.ofNat N) :: st) (pc + 1)) : Z p l e R s m args below meth c D cl A nL cells slots Q ws lv (.ref t :: st) pc := fun H locs ls hP hD hS hl0 => va_tlen G.1.1 G.1.2.1 hT hS rfl hdg (kk H locs ls hP hD hS hl0)
theorem z_sbald (G : zG p m c cc nL s args own D cl tys A meth ret) {t N : Nat} {f : Nat → Value} (hT : va_T .byte t N f A s s.heap) {i : Int32} (hin : vp_in i N) {v : Value} (hv : f i.toNatClampNeg = v) (hdg : decode cc pc = .ok (.baload, 1)) (kk : Z p l e R s m args below meth c D cl A nL cells slots Q ws lv (v :: st) (pc + 1)) : Z p l e R s m args below meth c D cl A nL cells slots Q ws lv (.int i :: .ref t :: st) pc := fun H locs ls hP hD hS hl0 => va_tb G.1.1 G.1.2.1 hT hS hin hv hdg (kk H locs ls hP hD hS hl0)
theorem z_ldcS (G : zG p m c cc nL s args own D cl tys A meth ret) {tx : String} {index q : Nat} (hZ : vk_R own index tx q s) (hdg : decode cc pc = .ok (.ldc index, 2)) (kk : Z p l e R s m args below meth c D cl A nL cells slots Q ws lv (.ref q :: st) (pc + 2)) : Z p l e R s m args below meth c D cl A nL cells slots Q ws lv st pc := fun H locs ls hP hD hS hl0 => va_ldcS G.1.1 G.1.2.1 G.1.2.2.2.1 hZ hdg (kk H locs ls hP hD hS hl0)
theorem va_ldcwS {H : Heap} {locs : List Loc} {ls : Array Slot} {rest : List Value} (hexec : p.tables.exec = Jvm.exec) (hb : c.code = cc) {tx : String} {index q : Nat} (hown : s.vm.findClass own = some m.cls) (hZ : vk_R own index tx q s) (hdg : decode cc pc = .ok (.ldc_w index, 3))
    (k : W p l e R s m args below meth c H locs cells slots Q (F0 m (pc + 3) ls (.ref q :: rest))) : W p l e R s m args below meth c H locs cells slots Q (F0 m pc ls rest) := by
  intro T hT X
  obtain ⟨t, a1, b1⟩ := k T hT X
  exact ⟨t, X.ldcStringW hexec hown (text := tx) (a := q) hZ.1 hZ.2 (g := F0 m pc ls rest) rfl (by rw [hb]; exact hdg) t a1, b1⟩
theorem z_ldcwS (G : zG p m c cc nL s args own D cl tys A meth ret) {tx : String} {index q : Nat} (hZ : vk_R own index tx q s) (hdg : decode cc pc = .ok (.ldc_w index, 3)) (kk : Z p l e R s m args below meth c D cl A nL cells slots Q ws lv (.ref q :: st) (pc + 3)) : Z p l e R s m args below meth c D cl A nL cells slots Q ws lv st pc := fun H locs ls hP hD hS hl0 => va_ldcwS G.1.1 G.1.2.1 G.1.2.2.2.1 hZ hdg (kk H locs ls hP hD hS hl0)
end ZSX
set_option maxRecDepth 100000 in
set_option maxHeartbeats 4000000 in
theorem c_J0_coder_7d493 {l : Launch} {dC : Nat → ClassId} {dI : Nat → Nat → Nat} {cI cJ cZ cN : ClassId} {adK adV : Nat → Nat} {i : Nat} (hi : i < 3) : zMx l yJ0_coder_7d493 cJ0_coder_7d493 1 (some .byte) ({ frames := 0, cells := 0, slots := 0, locals := 0 }) [.ref (adK i)] (dC, dI) vwCl (zT cI cJ cZ cN) adK adV [] (some (.int 0)) (True) [] := by
  refine zMx_of (own := RJ0) (by decide) rfl [(0, .ref (adK i))] (Nat.le_of_ble_eq_true rfl) rfl ?_
  intro p e s m args below meth c A G hE
  refine z_gets G hE.2.2.1 fl_J0_38 dJ0_coder_7d493_0 ?_
  refine z_if_eq (X := none) (Y := some ()) (res := ()) (tgt := 13) G dJ0_coder_7d493_3 (by decide) rfl (fun h => by cases h) (fun _ => ?_)
  refine z_aload_n G dJ0_coder_7d493_6 rfl 0 rfl ?_
  refine z_sget G (hE.1.1 i hi).2.1 fl_J0_15 dJ0_coder_7d493_7 ?_
  refine z_goto (tgt := 14) G dJ0_coder_7d493_10 (by decide) ?_
  exact z_nret G rfl (by decide) dJ0_coder_7d493_14 rfl trivial rfl
set_option maxRecDepth 100000 in
set_option maxHeartbeats 4000000 in
theorem c_J0_isLatin1_aae02 {l : Launch} {dC : Nat → ClassId} {dI : Nat → Nat → Nat} {cI cJ cZ cN : ClassId} {adK adV : Nat → Nat} {i : Nat} (hi : i < 3) : zMx l yJ0_isLatin1_aae02 cJ0_isLatin1_aae02 1 (some .boolean) ({ frames := 0, cells := 0, slots := 0, locals := 0 }) [.ref (adK i)] (dC, dI) vwCl (zT cI cJ cZ cN) adK adV [] (some (.int 1)) (True) [] := by
  refine zMx_of (own := RJ0) (by decide) rfl [(0, .ref (adK i))] (Nat.le_of_ble_eq_true rfl) rfl ?_
  intro p e s m args below meth c A G hE
  refine z_gets G hE.2.2.1 fl_J0_38 dJ0_isLatin1_aae02_0 ?_
  refine z_if_eq (X := none) (Y := some ()) (res := ()) (tgt := 17) G dJ0_isLatin1_aae02_3 (by decide) rfl (fun h => by cases h) (fun _ => ?_)
  refine z_aload_n G dJ0_isLatin1_aae02_6 rfl 0 rfl ?_
  refine z_sget G (hE.1.1 i hi).2.1 fl_J0_15 dJ0_isLatin1_aae02_7 ?_
  refine z_if_ne (X := none) (Y := some ()) (res := ()) (tgt := 17) G dJ0_isLatin1_aae02_10 (by decide) rfl (fun h => by cases h) (fun _ => ?_)
  refine z_iconst (v := 1) G dJ0_isLatin1_aae02_13 (by decide) ?_
  refine z_goto (tgt := 18) G dJ0_isLatin1_aae02_14 (by decide) ?_
  exact z_nret G rfl (by decide) dJ0_isLatin1_aae02_18 rfl trivial rfl
set_option maxRecDepth 100000 in
set_option maxHeartbeats 4000000 in
theorem c_J0_length_8abf5 {l : Launch} {dC : Nat → ClassId} {dI : Nat → Nat → Nat} {cI cJ cZ cN : ClassId} {adK adV : Nat → Nat} {i : Nat} (hi : i < 3) : zMx l yJ0_length_8abf5 cJ0_length_8abf5 1 (some .int) ({ frames := 1, cells := 0, slots := 0, locals := 20 }) [.ref (adK i)] (dC, dI) vwCl (zT cI cJ cZ cN) adK adV [] (some (.int (zlen i))) (True) [] := by
  refine zMx_of (own := RJ0) (by decide) rfl [(0, .ref (adK i))] (Nat.le_of_ble_eq_true rfl) rfl ?_
  intro p e s m args below meth c A G hE
  refine z_aload_n G dJ0_length_8abf5_0 rfl 0 rfl ?_
  refine z_sget G (hE.1.1 i hi).2.2.1 fl_J0_9 dJ0_length_8abf5_1 ?_
  refine z_slen G (hE.1.1 i hi).2.2.2 dJ0_length_8abf5_4 ?_
  refine z_aload_n G dJ0_length_8abf5_5 rfl 0 rfl ?_
  refine z_kX (As := []) (rest := [.int (zlen i)]) (st' := [.int 0, .int (zlen i)]) (ws' := []) G hE pk_J0_coder_7d493 pv_J0_coder_7d493 ml_J0_335 (c_J0_coder_7d493 hi) ⟨rfl, rfl⟩ ⟨Nat.le_of_ble_eq_true rfl, Nat.le_of_ble_eq_true rfl⟩ ⟨Nat.zero_le _, Nat.zero_le _⟩ rfl rfl (Nat.le_of_ble_eq_true rfl) (fun H locs hP hS => vk_recv hE.1 hi hS) [] rfl rfl [] rfl rfl rfl rfl dJ0_length_8abf5_6 (fun _ => ?_)
  refine z_ishr G dJ0_length_8abf5_9 ?_
  exact z_iret G rfl dJ0_length_8abf5_10 (by rw [show jshr (zlen i) 0 = zlen i from sb_shr0 _]) trivial rfl
set_option maxRecDepth 100000 in
set_option maxHeartbeats 4000000 in
theorem c_J3_checkIndex_8e157 {l : Launch} {dC : Nat → ClassId} {dI : Nat → Nat → Nat} {cI cJ cZ cN : ClassId} {k n : Int32} {w : Value} (hw : w = .null ∨ ∃ t, w = .ref t) (h0 : ¬ k < 0) (h1 : k < n) : zM l yJ3_checkIndex_8e157 cJ3_checkIndex_8e157 3 (some .int) ({ frames := 0, cells := 0, slots := 0, locals := 0 }) [.int k, .int n, w] (dC, dI) vwCl (zT cI cJ cZ cN) [] (some (.int k)) True [] := by
  rcases hw with rfl | ⟨t, rfl⟩
  · refine zM_of (own := RJ3) (by decide) rfl [(0, .int k), (1, .int n), (2, .null)] (Nat.le_of_ble_eq_true rfl) rfl ?_
    intro p e s m args below meth c A G _
    refine z_iload_n G dJ3_checkIndex_8e157_0 rfl 0 rfl ?_
    refine z_if_lt (X := none) (Y := some ()) (res := ()) (tgt := 9) G dJ3_checkIndex_8e157_1 (by decide) (if_neg h0) (fun h => by cases h) (fun _ => ?_)
    refine z_iload_n G dJ3_checkIndex_8e157_4 rfl 0 rfl ?_
    refine z_iload_n G dJ3_checkIndex_8e157_5 rfl 1 rfl ?_
    refine z_icmp_lt (X := some ()) (Y := none) (res := ()) (tgt := 16) G dJ3_checkIndex_8e157_6 (by decide) (if_pos h1) (fun _ => ?_) (fun h => by cases h)
    refine z_iload_n G dJ3_checkIndex_8e157_16 rfl 0 rfl ?_
    exact z_iret G rfl dJ3_checkIndex_8e157_17 rfl trivial rfl
  · refine zM_of (own := RJ3) (by decide) rfl [(0, .int k), (1, .int n), (2, .ref t)] (Nat.le_of_ble_eq_true rfl) rfl ?_
    intro p e s m args below meth c A G _
    refine z_iload_n G dJ3_checkIndex_8e157_0 rfl 0 rfl ?_
    refine z_if_lt (X := none) (Y := some ()) (res := ()) (tgt := 9) G dJ3_checkIndex_8e157_1 (by decide) (if_neg h0) (fun h => by cases h) (fun _ => ?_)
    refine z_iload_n G dJ3_checkIndex_8e157_4 rfl 0 rfl ?_
    refine z_iload_n G dJ3_checkIndex_8e157_5 rfl 1 rfl ?_
    refine z_icmp_lt (X := some ()) (Y := none) (res := ()) (tgt := 16) G dJ3_checkIndex_8e157_6 (by decide) (if_pos h1) (fun _ => ?_) (fun h => by cases h)
    refine z_iload_n G dJ3_checkIndex_8e157_16 rfl 0 rfl ?_
    exact z_iret G rfl dJ3_checkIndex_8e157_17 rfl trivial rfl
set_option maxRecDepth 100000 in
set_option maxHeartbeats 4000000 in
theorem c_J0_checkIndex_df160 {l : Launch} {dC : Nat → ClassId} {dI : Nat → Nat → Nat} {cI cJ cZ cN : ClassId} {adK adV : Nat → Nat} {k n : Int32} (h0 : ¬ k < 0) (h1 : k < n) : zMx l yJ0_checkIndex_df160 cJ0_checkIndex_df160 2 none ({ frames := 1, cells := 0, slots := 0, locals := 22 }) [.int k, .int n] (dC, dI) vwCl (zT cI cJ cZ cN) adK adV [] (none) (True) [] := by
  refine zMx_of (own := RJ0) (by decide) rfl [(0, .int k), (1, .int n)] (Nat.le_of_ble_eq_true rfl) rfl ?_
  intro p e s m args below meth c A G hE
  refine z_iload_n G dJ0_checkIndex_df160_0 rfl 0 rfl ?_
  refine z_iload_n G dJ0_checkIndex_df160_1 rfl 1 rfl ?_
  rcases hE.2.2.2 with hz | ⟨t, hz⟩
  · refine z_gets G hz fl_J0_1053 dJ0_checkIndex_df160_2 ?_
    refine z_kS (As := [.int k, .int n, .null]) (rest := []) (st' := [.int k]) G pk_J3_checkIndex_8e157 ps_J3_checkIndex_8e157 ml_J0_1059 (c_J3_checkIndex_8e157 (Or.inl rfl) h0 h1) ⟨rfl, rfl⟩ ⟨Nat.le_of_ble_eq_true rfl, Nat.le_of_ble_eq_true rfl⟩ ⟨Nat.zero_le _, Nat.zero_le _⟩ rfl rfl (Nat.le_of_ble_eq_true rfl) rfl dJ0_checkIndex_df160_5 (fun _ => ?_)
    refine z_pop G dJ0_checkIndex_df160_8 rfl ?_
    exact z_vret G rfl dJ0_checkIndex_df160_9 rfl trivial rfl
  · refine z_gets G hz fl_J0_1053 dJ0_checkIndex_df160_2 ?_
    refine z_kS (As := [.int k, .int n, .ref t]) (rest := []) (st' := [.int k]) G pk_J3_checkIndex_8e157 ps_J3_checkIndex_8e157 ml_J0_1059 (c_J3_checkIndex_8e157 (Or.inr ⟨t, rfl⟩) h0 h1) ⟨rfl, rfl⟩ ⟨Nat.le_of_ble_eq_true rfl, Nat.le_of_ble_eq_true rfl⟩ ⟨Nat.zero_le _, Nat.zero_le _⟩ rfl rfl (Nat.le_of_ble_eq_true rfl) rfl dJ0_checkIndex_df160_5 (fun _ => ?_)
    refine z_pop G dJ0_checkIndex_df160_8 rfl ?_
    exact z_vret G rfl dJ0_checkIndex_df160_9 rfl trivial rfl
set_option maxRecDepth 100000 in
set_option maxHeartbeats 4000000 in
theorem c_J1_charAt_3b067 {l : Launch} {dC : Nat → ClassId} {dI : Nat → Nat → Nat} {cI cJ cZ cN : ClassId} {adK adV : Nat → Nat} {i : Nat} {k : Int32} (hi : i < 3) (h0 : ¬ k < 0) (h1 : k < zlen i) (hin : vp_in k (zLn i)) : zMx l yJ1_charAt_3b067 cJ1_charAt_3b067 2 (some .char) ({ frames := 2, cells := 0, slots := 0, locals := 43 }) [.ref (adV i), .int k] (dC, dI) vwCl (zT cI cJ cZ cN) adK adV [] (some (.int (zch i (ix k)))) (True) [] := by
  refine zMx_of (own := RJ1) (by decide) rfl [(0, .ref (adV i)), (1, .int k)] (Nat.le_of_ble_eq_true rfl) rfl ?_
  intro p e s m args below meth c A G hE
  refine z_iload_n G dJ1_charAt_3b067_0 rfl 1 rfl ?_
  refine z_aload_n G dJ1_charAt_3b067_1 rfl 0 rfl ?_
  refine z_slen G (hE.1.1 i hi).2.2.2 dJ1_charAt_3b067_2 ?_
  refine z_kXS (As := [.int k, .int (zlen i)]) (rest := []) (st' := []) G hE pk_J0_checkIndex_df160 ps_J0_checkIndex_df160 ml_J1_9 (c_J0_checkIndex_df160 h0 h1) ⟨rfl, rfl⟩ ⟨Nat.le_of_ble_eq_true rfl, Nat.le_of_ble_eq_true rfl⟩ ⟨Nat.zero_le _, Nat.zero_le _⟩ rfl rfl (Nat.le_of_ble_eq_true rfl) rfl dJ1_charAt_3b067_3 (fun _ => ?_)
  refine z_aload_n G dJ1_charAt_3b067_6 rfl 0 rfl ?_
  refine z_iload_n G dJ1_charAt_3b067_7 rfl 1 rfl ?_
  refine z_sbald G (hE.1.1 i hi).2.2.2 hin rfl dJ1_charAt_3b067_8 ?_
  refine z_sipush (v := 255) G dJ1_charAt_3b067_9 (by decide) ?_
  refine z_iand G dJ1_charAt_3b067_12 ?_
  refine z_i2c G dJ1_charAt_3b067_13 ?_
  exact z_nret G rfl (pk_nc _) dJ1_charAt_3b067_14 rfl trivial rfl
set_option maxRecDepth 100000 in
set_option maxHeartbeats 4000000 in
theorem c_J0_charAt_5068e {l : Launch} {dC : Nat → ClassId} {dI : Nat → Nat → Nat} {cI cJ cZ cN : ClassId} {adK adV : Nat → Nat} {i : Nat} {k : Int32} (hi : i < 3) (h0 : ¬ k < 0) (h1 : k < zlen i) (hin : vp_in k (zLn i)) : zMx l yJ0_charAt_5068e cJ0_charAt_5068e 2 (some .char) ({ frames := 3, cells := 0, slots := 0, locals := 64 }) [.ref (adK i), .int k] (dC, dI) vwCl (zT cI cJ cZ cN) adK adV [] (some (.int (zch i (ix k)))) (True) [] := by
  refine zMx_of (own := RJ0) (by decide) rfl [(0, .ref (adK i)), (1, .int k)] (Nat.le_of_ble_eq_true rfl) rfl ?_
  intro p e s m args below meth c A G hE
  refine z_aload_n G dJ0_charAt_5068e_0 rfl 0 rfl ?_
  refine z_kX (As := []) (rest := []) (st' := [.int 1]) (ws' := []) G hE pk_J0_isLatin1_aae02 pv_J0_isLatin1_aae02 ml_J0_492 (c_J0_isLatin1_aae02 hi) ⟨rfl, rfl⟩ ⟨Nat.le_of_ble_eq_true rfl, Nat.le_of_ble_eq_true rfl⟩ ⟨Nat.zero_le _, Nat.zero_le _⟩ rfl rfl (Nat.le_of_ble_eq_true rfl) (fun H locs hP hS => vk_recv hE.1 hi hS) [] rfl rfl [] rfl rfl rfl rfl dJ0_charAt_5068e_1 (fun _ => ?_)
  refine z_if_eq (X := none) (Y := some ()) (res := ()) (tgt := 16) G dJ0_charAt_5068e_4 (by decide) rfl (fun h => by cases h) (fun _ => ?_)
  refine z_aload_n G dJ0_charAt_5068e_7 rfl 0 rfl ?_
  refine z_sget G (hE.1.1 i hi).2.2.1 fl_J0_9 dJ0_charAt_5068e_8 ?_
  refine z_iload_n G dJ0_charAt_5068e_11 rfl 1 rfl ?_
  refine z_kXS (As := [.ref (adV i), .int k]) (rest := []) (st' := [.int (zch i (ix k))]) G hE pk_J1_charAt_3b067 ps_J1_charAt_3b067 ml_J0_495 (c_J1_charAt_3b067 hi h0 h1 hin) ⟨rfl, rfl⟩ ⟨Nat.le_of_ble_eq_true rfl, Nat.le_of_ble_eq_true rfl⟩ ⟨Nat.zero_le _, Nat.zero_le _⟩ rfl rfl (Nat.le_of_ble_eq_true rfl) rfl dJ0_charAt_5068e_12 (fun _ => ?_)
  exact z_nret G rfl (pk_nc _) dJ0_charAt_5068e_15 rfl trivial rfl
theorem zmk_nil (ws : va_W) : zmk [] ws [] = ws := by cases ws <;> rfl
theorem z_strlen {p : Program} {l : Launch} {e : Env} {R : Room} {s : State} {m : MethodId} {args : Array Value} {below : List Frame} {meth : Method} {c : Code} {cells slots : Nat} {Q : State → Prop} {dC : Nat → ClassId} {dI : Nat → Nat → Nat} {cI cJ cZ cN : ClassId} {A : Nat → Prop} {nL : Nat} {cc : ByteArray} {ret : Option FieldType} {ws : va_W} {lv : List (Nat × Value)} {st : List Value} {pc : Nat} {adK adV : Nat → Nat} (G : zG p m c cc nL s args RX7 (dC, dI) vwCl (zT cI cJ cZ cN) A meth ret) (hE : zE adK adV A s s.heap) {i : Nat} (hi : i < 3) (hR : 2 ≤ R.frames ∧ 40 ≤ R.locals) (hcs : cells ≤ R.cells ∧ slots ≤ R.slots) (hrest : (st.map fun v => v.category).sum ≤ 8) (hdg : decode cc pc = .ok (.invokevirtual 31, 3)) (kk : Z p l e R s m args below meth c (dC, dI) vwCl A nL cells slots Q ws lv (.int (zlen i) :: st) (pc + 3)) : Z p l e R s m args below meth c (dC, dI) vwCl A nL cells slots Q ws lv (.ref (adK i) :: st) pc :=
  z_kX (As := []) (rest := st) (st0 := .ref (adK i) :: st) G hE pk_J0_length_8abf5 pv_J0_length_8abf5 ml_X7_31 (c_J0_length_8abf5 hi) ⟨rfl, rfl⟩ ⟨hR.1, hR.2⟩ hcs rfl rfl hrest (fun H locs hP hS => vk_recv hE.1 hi hS) [] rfl rfl [] rfl (zmk_nil ws) rfl rfl hdg (fun _ => kk)
theorem z_inlen {k : Int32} {i : Nat} (hi : i < 3) (h : inb k (zLn i) = true) : ¬ k < 0 ∧ k < zlen i ∧ vp_in k (zLn i) := by
  have hin := inb_in h
  have hb : zLn i < 2 ^ 31 := by
    match i, hi with
    | 0, _ => decide
    | 1, _ => decide
    | 2, _ => decide
  obtain ⟨j, hj, e⟩ := vp_in_of hin hb
  subst e
  exact ⟨nI_pos (by omega), nI_lt hj hb, hin⟩
theorem z_charat {p : Program} {l : Launch} {e : Env} {R : Room} {s : State} {m : MethodId} {args : Array Value} {below : List Frame} {meth : Method} {c : Code} {cells slots : Nat} {Q : State → Prop} {dC : Nat → ClassId} {dI : Nat → Nat → Nat} {cI cJ cZ cN : ClassId} {A : Nat → Prop} {nL : Nat} {cc : ByteArray} {ret : Option FieldType} {ws : va_W} {lv : List (Nat × Value)} {st : List Value} {pc : Nat} {adK adV : Nat → Nat} {ρ : Type} {X : Option ρ} {res : ρ} (G : zG p m c cc nL s args RX7 (dC, dI) vwCl (zT cI cJ cZ cN) A meth ret) (hE : zE adK adV A s s.heap) {i : Nat} {k : Int32} (hi : i < 3) (hR : 4 ≤ R.frames ∧ 90 ≤ R.locals) (hcs : cells ≤ R.cells ∧ slots ≤ R.slots) (hrest : (st.map fun v => v.category).sum ≤ 8) (hdg : decode cc pc = .ok (.invokevirtual 37, 3)) (h : chk (inb k (zLn i)) X = some res) (kk : X = some res → Z p l e R s m args below meth c (dC, dI) vwCl A nL cells slots Q ws lv (.int (zch i (ix k)) :: st) (pc + 3)) : Z p l e R s m args below meth c (dC, dI) vwCl A nL cells slots Q ws lv (.int k :: .ref (adK i) :: st) pc :=
  z_kX (As := [.int k]) (rest := st) (st0 := .int k :: .ref (adK i) :: st) G hE pk_J0_charAt_5068e pv_J0_charAt_5068e ml_X7_37 (c_J0_charAt_5068e hi (z_inlen hi (chk_some h).1).1 (z_inlen hi (chk_some h).1).2.1 (z_inlen hi (chk_some h).1).2.2) ⟨rfl, rfl⟩ ⟨Nat.le_trans (Nat.le_of_ble_eq_true rfl) hR.1, Nat.le_trans (Nat.le_of_ble_eq_true rfl) hR.2⟩ hcs rfl rfl hrest (fun H locs hP hS => vk_recv hE.1 hi hS) [] rfl rfl [] rfl (zmk_nil ws) rfl rfl hdg (fun _ => kk (chk_some h).2)
