def zXN : List Cond := [.castable "java/util/NoSuchElementException" "java/util/NoSuchElementException", .declares ⟨"java/lang/RuntimeException", "<init>", "(Ljava/lang/String;)V"⟩, .declares ⟨"java/lang/Exception", "<init>", "(Ljava/lang/String;)V"⟩, .declares ⟨"java/lang/Throwable", "<init>", "(Ljava/lang/String;)V"⟩]
theorem zXN_warm {s U : State} (hW : s.WarmedH U.vm) (h : ∀ w ∈ zXN, va_Nw w s) : ∀ w ∈ zXN, va_Nw w U := by
  intro w hw
  have h1 := h w hw
  simp only [zXN, List.mem_cons, List.not_mem_nil, or_false] at hw
  rcases hw with rfl | rfl | rfl | rfl
  · exact va_Nw.warmC hW h1
  · exact va_Nw.warmD hW h1
  · exact va_Nw.warmD hW h1
  · exact va_Nw.warmD hW h1
theorem zXN_on : ∀ w ∈ zXN, w.onTables = true := by decide +kernel
theorem zXN_same {u U : State} (h : u.vm = U.vm) (hz : ∀ w ∈ zXN, va_Nw w u) : ∀ w ∈ zXN, va_Nw w U := fun w hw => va_Nw.same (zXN_on w hw) h (hz w hw)
abbrev zAT : List Cond := (zOA RX6 156).filter vx_no
theorem zAT_bad : ∀ w ∈ zAT.filter (fun w => !goodWord w), w ∈ zXN := by decide +kernel
theorem zAT_in : ∀ w ∈ zAT.filter goodWord, w ∈ tables_1 := by decide +kernel
theorem kz_NSE : Cond.initialized "java/util/NoSuchElementException" ∈ zW := zW_1 (List.mem_of_getElem? (i := 14) rfl) rfl
theorem zAT_good : ∀ w ∈ zAT.filter goodWord, w ∈ zW := fun w hw => List.mem_filter.mpr ⟨List.mem_append_right _ (zAT_in w hw), (List.mem_filter.mp hw).2⟩
theorem zAT_ot : ∀ w ∈ Cond.classLink RX6 152 "java/util/NoSuchElementException" :: Cond.initialized "java/util/NoSuchElementException" :: zAT, vx_ot w = true := by decide +kernel
def zX (sK : Nat → Nat) (A : Nat → Prop) (U : State) (H : Heap) : Prop := (vk_R RX6 154 "no such term" (sK 0) U ∧ vk_R RX6 162 "no such place" (sK 1) U ∧ vk_R RX6 300 "no such number" (sK 2) U) ∧ (∀ w ∈ zXN, va_Nw w U) ∧ vx_Zq Bundle.tN "UNASSIGNED_STACK" Bundle.steD A U H ∧ vx_Zq Bundle.tN "SUPPRESSED_SENTINEL" Bundle.listD A U H
theorem zX.kept {sK : Nat → Nat} {A : Nat → Prop} {U : State} {H H1 : Heap} (h : zX sK A U H) (hq : ∀ a : Nat, a < H.size → ¬ A a → H1[a]? = H[a]?) : zX sK A U H1 := ⟨h.1, h.2.1, h.2.2.1.kept hq, h.2.2.2.kept hq⟩
theorem zX.narrow {sK : Nat → Nat} {A B : Nat → Prop} {U : State} {H : Heap} (h : zX sK A U H) (hAB : ∀ q, B q → A q) : zX sK B U H := ⟨h.1, h.2.1, h.2.2.1.narrow hAB, h.2.2.2.narrow hAB⟩
theorem zX.warm {sK : Nat → Nat} {A : Nat → Prop} {s U : State} {H : Heap} (hW : s.WarmedH U.vm) (h : zX sK A s H) : zX sK A U H := ⟨⟨h.1.1.warm hW, h.1.2.1.warm hW, h.1.2.2.warm hW⟩, zXN_warm hW h.2.1, h.2.2.1.moved hW.alike, h.2.2.2.moved hW.alike⟩
theorem zX.same {sK : Nat → Nat} {A : Nat → Prop} {s U : State} {H : Heap} (hv : U.vm = s.vm) (h : zX sK A s H) : zX sK A U H := by
  have ha : s.vm.Alike U.vm := hv ▸ Vm.Alike.refl s.vm
  exact ⟨⟨h.1.1.same hv, h.1.2.1.same hv, h.1.2.2.same hv⟩, zXN_same hv.symm h.2.1, h.2.2.1.moved ha, h.2.2.2.moved ha⟩
section ZXS
variable {p : Program} {l : Launch} {e : Env} {R : Room} {s : State} {m : MethodId} {args : Array Value} {below : List Frame} {meth : Method} {c : Code} {cells slots : Nat} {Q : State → Prop}
variable {D : va_G} {cl : List vw_C} {tys : List (ClassId × FieldType)} {A : Nat → Prop} {nL : Nat} {cc : ByteArray} {own : String} {ret : Option FieldType} {ws ws' : va_W} {lv lv' : List (Nat × Value)} {st st' : List Value} {pc tgt : Nat} {sK : Nat → Nat}
def zPt (av : List Value) (D : va_G) (cl : List vw_C) (tys : List (ClassId × FieldType)) (sK : Nat → Nat) (w0 : va_W) (sz : Nat) : Array Value → State → Prop := fun a U => zPc av D cl tys w0 sz a U ∧ zX sK (va_A w0 sz) U U.heap
theorem zPt_blind {av : List Value} {w0 : va_W} {sz : Nat} : FrameBlind (zPt av D cl tys sK w0 sz) := by
  intro a U g mk q
  exact ⟨zPc_blind a U g mk q.1, zX.same (s := U) (U := U.calling g mk a) rfl q.2⟩
def zXC (w : va_W) (D : va_G) (cl : List vw_C) (A : Nat → Prop) : String → State → State → Prop := fun E st t => E = "java/util/NoSuchElementException" ∧ va_P D cl w t.heap ∧ va_D A w ∧ va_F A st t
def zNo : Array Value → State → Outcome → State → Prop := fun _ _ _ _ => False
/-- a method that throws NoSuchElementException, its world as it was -/
def zMt (l : Launch) (y : MethodName) (cc : ByteArray) (nL : Nat) (ret : Option FieldType) (rm : Room) (av : List Value) (D : va_G) (cl : List vw_C) (tys : List (ClassId × FieldType)) (sK : Nat → Nat) (w0 : va_W) : Prop :=
  ∀ sz, vx_Met l y (Cond.code y cc nL ret :: zW) rm (zPt av D cl tys sK w0 sz) zNo (zXC w0 D cl (va_A w0 sz)) 1 6 (va_A w0 sz)
theorem zMt_of {y : MethodName} {rm : Room} {av : List Value} {w0 : va_W} (hy : plainName y.cls = true) (hown : y.cls = own)
    (lv0 : List (Nat × Value)) (hn : (lg_sl av).length ≤ nL) (hl0 : lv_args 0 av = lv0)
    (body : ∀ (p : Program) (e : Env) (s : State) (m : MethodId) (args : Array Value) (below : List Frame) (meth : Method) (c : Code) (A : Nat → Prop), zG p m c cc nL s args own D cl tys A meth ret → zX sK A s s.heap → (∀ x ∈ c.exceptionTable.toList, False) → Z p l e rm s m args below meth c D cl A nL 0 0 (vx_MQ below zNo (zXC w0 D cl A) args s 1 6 A) w0 lv0 [] 0) : zMt l y cc nL ret rm av D cl tys sK w0 := by
  intro sz
  refine vx_ofW (cc := cc) (maxL := nL) (ret := ret) hy rfl ?_
  intro p e s m args below meth c s₁ B hml hex hv
  obtain ⟨⟨rfl, hsz, hP, hK, hN, hD0⟩, hEx⟩ := hv
  have hts := atoms_spec (ws := Cond.code y cc nL ret :: zW) B.pre
  have hown' : s.vm.findClass own = some m.cls := by rw [← hown]; exact findClass_of_methodNamed B.named
  subst hsz
  have hD := hD0.self (sz := s.heap.size)
  have hl := lv_entry av (n := nL) hn
  rw [lg_entry_eq]
  rw [hl0] at hl
  exact body p e s m _ below meth c (va_A w0 s.heap.size) ⟨⟨B.exec, B.bytes, hml, hown', fun w hw => hts w (List.mem_cons_of_mem _ hw)⟩, hK, hN, fun q h => Or.inr h, B.returns, B.notSynchronized⟩ hEx hex s.heap [] _ hP hD va_S.rf hl
theorem z_atAll (hx : ∀ w ∈ zXN, va_Nw w s) (hts : ∀ w ∈ zW, w.before args s = true) : ∀ w ∈ zAT, w.before args s = true := vx_hat (fun w hw => hts w (zAT_good w hw)) zAT_bad (fun w hw => va_Nw.use (zXN_on w hw) (hx w hw))
theorem z_throw (G : zG p m c cc nL s args RX6 D cl tys A meth ret) (hX : zX sK A s s.heap) (hex : ∀ x ∈ c.exceptionTable.toList, False) (hl : l.stackTraces = false) {text : String} {is sa : Nat} (hstr : vk_R RX6 is text sa s)
    (d0 : decode cc pc = .ok (.new 152, 3)) (d3 : decode cc (pc + 3) = .ok (.dup, 1)) (d4 : decode cc (pc + 4) = .ok (.ldc is, 2)) (d6 : decode cc (pc + 6) = .ok (.invokespecial 156, 3)) (d9 : decode cc (pc + 9) = .ok (.athrow, 1))
    (hR : 5 < R.frames ∧ 82 ≤ R.locals ∧ 1 ≤ R.cells ∧ 6 ≤ R.slots) : Z p l e R s m args below meth c D cl A nL 0 0 (vx_MQ below zNo (zXC ws D cl A) args s 1 6 A) ws lv [] pc := by
  intro H locs ls hP hD hS hl0
  refine zx_throwS G.1.1 G.1.2.1 hl G.1.2.2.2.1 (G.1.2.2.2.2 _ kl_X6_152) (G.1.2.2.2.2 _ kz_NSE) hstr (z_atAll hX.2.1 G.1.2.2.2.2) zAT_ot hX.2.2.1 hX.2.2.2 hS (by rw [hl0.1, G.1.2.2.1]) d0 d3 d4 d6 d9 (fun x hx => (hex x hx).elim) hR.1 (by simp; exact hR.2.1) (by rw [Nat.zero_add]; exact hR.2.2.1) (by rw [Nat.zero_add]; exact hR.2.2.2) G.2.2.2.2.2 ?_ hS.2.2 (Nat.le_refl _) (Nat.le_refl _)
  intro t _ hz hk
  exact ⟨rfl, fun k q hq => (hP k q hq).kept (hk _ (vx_lt hP hq)), hD, Nat.le_trans hS.1 hz, fun q h1 h2 => by rw [hk q (Nat.lt_of_lt_of_le h1 hS.1)]; exact hS.2.1 q h1 h2⟩
theorem z_throwW (G : zG p m c cc nL s args RX6 D cl tys A meth ret) (hX : zX sK A s s.heap) (hex : ∀ x ∈ c.exceptionTable.toList, False) (hl : l.stackTraces = false) {text : String} {is sa : Nat} (hstr : vk_R RX6 is text sa s)
    (d0 : decode cc pc = .ok (.new 152, 3)) (d3 : decode cc (pc + 3) = .ok (.dup, 1)) (d4 : decode cc (pc + 4) = .ok (.ldc_w is, 3)) (d7 : decode cc (pc + 7) = .ok (.invokespecial 156, 3)) (d10 : decode cc (pc + 10) = .ok (.athrow, 1))
    (hR : 5 < R.frames ∧ 82 ≤ R.locals ∧ 1 ≤ R.cells ∧ 6 ≤ R.slots) : Z p l e R s m args below meth c D cl A nL 0 0 (vx_MQ below zNo (zXC ws D cl A) args s 1 6 A) ws lv [] pc := by
  intro H locs ls hP hD hS hl0
  refine zx_throwSW G.1.1 G.1.2.1 hl G.1.2.2.2.1 (G.1.2.2.2.2 _ kl_X6_152) (G.1.2.2.2.2 _ kz_NSE) hstr (z_atAll hX.2.1 G.1.2.2.2.2) zAT_ot hX.2.2.1 hX.2.2.2 hS (by rw [hl0.1, G.1.2.2.1]) d0 d3 d4 d7 d10 (fun x hx => (hex x hx).elim) hR.1 (by simp; exact hR.2.1) (by rw [Nat.zero_add]; exact hR.2.2.1) (by rw [Nat.zero_add]; exact hR.2.2.2) G.2.2.2.2.2 ?_ hS.2.2 (Nat.le_refl _) (Nat.le_refl _)
  intro t _ hz hk
  exact ⟨rfl, fun k q hq => (hP k q hq).kept (hk _ (vx_lt hP hq)), hD, Nat.le_trans hS.1 hz, fun q h1 h2 => by rw [hk q (Nat.lt_of_lt_of_le h1 hS.1)]; exact hS.2.1 q h1 h2⟩
end ZXS
