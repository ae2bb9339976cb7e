def R_law : String := "SubjectNetLaw"
def lw_P (b : Addr) (xs : List Int32) (args : Array Value) (s : State) : Prop := args = #[.ref b] ∧ s.IntsAt b xs ∧ xs.length ≤ 1536 ∧ (Jvm.Cond.and given_1 narrow_1).before args s = true
def lw_Q (_ : Array Value) (s : State) (o : Outcome) (t : State) : Prop := o = .returned (some (.int 1)) ∧ Framed s o t [] 601024 7293034
def lw_Z (below : List Frame) (a : Array Value) (s : State) : State → Prop := fun t => ∃ o, t.status = .running ∧ Ended t below o ∧ lw_Q a s o t
/-- the law's own end, with 1 on the stack, nothing written that was there before, its room as the claim has it -/
theorem lw_ret {p : Program} {l : Launch} {e : Env} {s : State} {m : MethodId} {below : List Frame} {meth : Method} {c : Code} {b : Nat} (hx : p.tables.exec = Jvm.exec) (hb : c.code = code) (hr : meth.sig.returnType = ret) (hlocks : meth.locks = false) {pc : Nat} {H : Heap} {ls : Array Slot} (hdg : decode code pc = .ok (.ireturn, 1)) : W p l e room_1 s m #[Value.ref b] below meth c H [] 601024 7293034 (lw_Z below #[Value.ref b] s) (F0 m pc ls [.int 1]) := by
  intro T hT X
  obtain ⟨fs, hret, hrun, hended, hW, hframe⟩ := X.leave (v := some (.int 1)) (hlocks := hlocks) (fun h => by rw [hr] at h; cases h)
  have hmeth' : T.vm.method? m = some meth := X.method'
  refine ⟨T.setFrames fs, ?_, .returned (some (.int 1)), hrun, hended, rfl, ⟨_, rfl⟩, hW, hframe⟩
  jvm_step X.here [X.here.top, hx, hb, hdg, hmeth', hr, ret, narrow_b1]
  (try refine ⟨rfl, ?_⟩); (try refine ⟨rfl, ?_⟩)
  first | (intro acts; rw [hret _ acts rfl rfl rfl]) | rw [hret _ _ rfl rfl rfl]
  exact Steps.refl _
/-- what holds at the law's entry: the machine, the code, the tables' words (any of lw_tbl by 'hts w (by decide +kernel)'), the script of L ints xs at the cell b, what the Statement gives of the start (any of its parts by flat_of_before) -/
def lw_At (p : Program) (s : State) (m : MethodId) (meth : Method) (c : Code) (b L : Nat) (xs : Nat → Int32) : Prop :=
  p.tables.exec = Jvm.exec ∧ c.code = code ∧ meth.sig.returnType = ret ∧ c.maxLocals = 8 ∧ s.vm.findClass R_law = some m.cls ∧ (∀ w ∈ lw_tbl, w.before #[Value.ref b] s = true) ∧ va_X b L xs s s.heap ∧ b < s.heap.size ∧ meth.locks = false ∧ (Jvm.Cond.and given_1 narrow_1).before #[Value.ref b] s = true
theorem gv_tab {s : State} {a : Array Value} {w : Cond} (hts : ∀ w ∈ lw_tbl, w.before a s = true) (h : w ∈ lw_tbl) (ho : w.onTables = true) : va_Nw w s := va_tabs ho rfl (hts w h)
theorem gv_nl : ∀ w ∈ zNL, w ∈ lw_tbl ∧ w.onTables = true := by decide +kernel
theorem gv_xn : ∀ w ∈ zXN, w ∈ lw_tbl ∧ w.onTables = true := by decide +kernel
theorem gv_ao : Cond.arrayOver (.object "SubjectNet$Net") ∈ lw_tbl := by decide +kernel
theorem gv_sr : ∀ w ∈ [Cond.stringRef RX7 49 "0123456789", .stringRef RX7 312 "+&-", .stringRef RX7 338 "lumgpt", .stringRef RX6 154 "no such term", .stringRef RX6 162 "no such place", .stringRef RX6 300 "no such number"], w ∈ lw_tbl := by decide +kernel
theorem gv_ls : ∀ w ∈ [Cond.laysStatic "java/lang/String" "COMPACT_STRINGS" "Z", .initialized "java/lang/String", .laysStatic "jdk/internal/util/Preconditions" "SIOOBE_FORMATTER" "Ljava/util/function/BiFunction;", .initialized "jdk/internal/util/Preconditions", .laysStatic Bundle.tN "UNASSIGNED_STACK" Bundle.steD, .laysStatic Bundle.tN "SUPPRESSED_SENTINEL" Bundle.listD, .initialized Bundle.tN], w ∈ lw_tbl := by decide +kernel
abbrev gvT (i : Nat) : Term := [Term.string RX7 49, .string RX7 312, .string RX7 338].getD i (.string RX7 49)
abbrev gvF : List Cond := flatC (Jvm.Cond.and given_1 narrow_1)
theorem gv_s1 : ∀ i, i < 3 → Cond.exactly (gvT i) "java/lang/String" ∈ gvF := by decide +kernel
theorem gv_s2 : ∀ i, i < 3 → Cond.eq (.field (gvT i) "java/lang/String" "coder" "B") (.int 0) ∈ gvF := by decide +kernel
theorem gv_s3 : ∀ i, i < 3 → Cond.arrayOf (.field (gvT i) "java/lang/String" "value" "[B") .byte ∈ gvF := by decide +kernel
theorem gv_s4 : ∀ i, i < 3 → Cond.eq (.length (.field (gvT i) "java/lang/String" "value" "[B")) (.int (Int32.ofNat (zLen.getD i 0))) ∈ gvF := by decide +kernel
theorem gv_s5 : ∀ i, i < 3 → ∀ j, j < zLen.getD i 0 → Cond.eq (.elem (.field (gvT i) "java/lang/String" "value" "[B") (.int (Int32.ofNat j))) (.int ((zByt.getD i []).getD j 0)) ∈ gvF := by decide +kernel
theorem gv_s6 : ∀ i, i < 3 → ∀ j, j < 3 → i ≠ j → Cond.not (Cond.eq (gvT i) (gvT j)) ∈ gvF ∨ Cond.not (Cond.eq (gvT j) (gvT i)) ∈ gvF := by decide +kernel
theorem gv_s7 : ∀ w ∈ [Cond.exactly (.string RX6 154) "java/lang/String", .exactly (.string RX6 162) "java/lang/String", .exactly (.string RX6 300) "java/lang/String", .isRef (.static Bundle.tN "UNASSIGNED_STACK" Bundle.steD), .isRef (.static Bundle.tN "SUPPRESSED_SENTINEL" Bundle.listD), .isRef (.static "jdk/internal/util/Preconditions" "SIOOBE_FORMATTER" "Ljava/util/function/BiFunction;"), .eq (.static "java/lang/String" "COMPACT_STRINGS" "Z") (.int 1)], w ∈ gvF := by decide +kernel
set_option maxRecDepth 100000 in
theorem gv_K {s : State} {a : Array Value} (hz : ∀ w ∈ zW, w.before a s = true) (hao : va_AO "SubjectNet$Net" s) : ∃ (dC : Nat → ClassId) (dI : Nat → Nat → Nat) (cI cJ cZ cN : ClassId), va_K (dC, dI) vwCl (zT cI cJ cZ cN) s := by
  obtain ⟨c0, i0, k0⟩ := u_known hz in_X0 (hz _ ki_X0)
  obtain ⟨c1, i1, k1⟩ := u_known hz in_X1 (hz _ ki_X1)
  obtain ⟨c2, i2, k2⟩ := u_known hz in_X2 (hz _ ki_X2)
  obtain ⟨c3, i3, k3⟩ := u_known hz in_X3 (hz _ ki_X3)
  obtain ⟨c4, i4, k4⟩ := u_known hz in_X4 (hz _ ki_X4)
  obtain ⟨c5, i5, k5⟩ := u_known hz in_X5 (hz _ ki_X5)
  obtain ⟨c6, i6, k6⟩ := u_known hz in_X6 (hz _ ki_X6)
  obtain ⟨c7, i7, k7⟩ := u_known hz in_X7 (hz _ ki_X7)
  obtain ⟨aint, qint, pint, fint, gint, jint⟩ := Cond.arrayClass_spec (hz _ ka_int)
  obtain ⟨along, qlong, plong, flong, glong, jlong⟩ := Cond.arrayClass_spec (hz _ ka_long)
  obtain ⟨aboolean, qboolean, pboolean, fboolean, gboolean, jboolean⟩ := Cond.arrayClass_spec (hz _ ka_boolean)
  obtain ⟨oC, oA, oK, o1, o2, o3, o4, o5⟩ := Cond.arrayOver_spec hao
  refine ⟨fun k => [c0, c1, c2, c3, c4, c5, c6, c7].getD k c0, fun k => [i0, i1, i2, i3, i4, i5, i6, i7].getD k i0, aint, along, aboolean, oA, fun c q hq => ?_, fun k q hk => ?_⟩
  · match c, hq with
    | 0, h => cases h; exact k0
    | 1, h => cases h; exact k1
    | 2, h => cases h; exact k2
    | 3, h => cases h; exact k3
    | 4, h => cases h; exact k4
    | 5, h => cases h; exact k5
    | 6, h => cases h; exact k6
    | 7, h => cases h; exact k7
    | n + 8, h => simp [vwCl] at h
  · match k, hk with
    | 0, h => cases h; exact ⟨fun N z => ⟨(fun k h => by cases h), qint, gint, pint, jint⟩, fint⟩
    | 1, h => cases h; exact ⟨fun N z => ⟨(fun k h => by cases h), qlong, glong, plong, jlong⟩, flong⟩
    | 2, h => cases h; exact ⟨fun N z => ⟨(fun k h => by cases h), qboolean, gboolean, pboolean, jboolean⟩, fboolean⟩
    | 3, h => cases h; exact ⟨fun N z => ⟨(fun k h => by cases h), oK, o3, oC, o4⟩, ⟨oK, oC, o3, o4, o1, o5⟩⟩
    | n + 4, h => simp [zT] at h
theorem gv_E {s : State} {a : Array Value} {A : Nat → Prop} (hts : ∀ w ∈ lw_tbl, w.before a s = true) (hg : (Jvm.Cond.and given_1 narrow_1).before a s = true) (hA : ∀ q : Nat, q < s.heap.size → ¬ A q) : ∃ adK adV : Nat → Nat, zE adK adV A s s.heap := by
  have hf := flat_of_before _ hg
  obtain ⟨adK, adV, h1, h2⟩ := vk_Sof (args := a) (s := s) (N := 3) (tm := gvT) (len := zLen) (byt := zByt) (A := A) (by decide) (fun i hi => hf _ (gv_s1 i hi)) (fun i hi => hf _ (gv_s2 i hi)) (fun i hi => hf _ (gv_s3 i hi)) (fun i hi => hf _ (gv_s4 i hi)) (fun i hi j hj => hf _ (gv_s5 i hi j hj)) (fun i j hi hj hij => (gv_s6 i hi j hj hij).elim (fun h => .inl (hf _ h)) (fun h => .inr (hf _ h))) hA
  refine ⟨adK, adV, h1, ⟨vk_R.of (hts _ (gv_sr _ (.head _))) (h2 0 (by decide)), vk_R.of (hts _ (gv_sr _ (.tail _ (.head _)))) (h2 1 (by decide)), vk_R.of (hts _ (gv_sr _ (.tail _ (.tail _ (.head _))))) (h2 2 (by decide))⟩, ?_, ?_⟩
  · exact va_Zof (hts _ (gv_ls _ (by decide))) (hts _ (gv_ls _ (by decide))) (va_eqt (hf _ (gv_s7 _ (by decide)))) hA
  · exact va_Zqof (hts _ (gv_ls _ (by decide))) (hts _ (gv_ls _ (by decide))) (hf _ (gv_s7 _ (by decide))) hA
theorem gv_X {s : State} {a : Array Value} {A : Nat → Prop} (hts : ∀ w ∈ lw_tbl, w.before a s = true) (hg : (Jvm.Cond.and given_1 narrow_1).before a s = true) (hA : ∀ q : Nat, q < s.heap.size → ¬ A q) : ∃ sK : Nat → Nat, zX sK A s s.heap := by
  have hf := flat_of_before _ hg
  obtain ⟨a1, _, _, _, e1, _⟩ := Cond.exactly_spec (hf (Cond.exactly (.string RX6 154) "java/lang/String") (gv_s7 _ (by decide)))
  obtain ⟨a2, _, _, _, e2, _⟩ := Cond.exactly_spec (hf (Cond.exactly (.string RX6 162) "java/lang/String") (gv_s7 _ (by decide)))
  obtain ⟨a3, _, _, _, e3, _⟩ := Cond.exactly_spec (hf (Cond.exactly (.string RX6 300) "java/lang/String") (gv_s7 _ (by decide)))
  refine ⟨fun k => [a1, a2, a3].getD k 0, ⟨vk_R.of (hts _ (gv_sr _ (by decide))) e1, vk_R.of (hts _ (gv_sr _ (by decide))) e2, vk_R.of (hts _ (gv_sr _ (by decide))) e3⟩, fun w hw => gv_tab hts (gv_xn w hw).1 (gv_xn w hw).2, ?_, ?_⟩
  · exact vx_Zqof (hts _ (gv_ls _ (by decide))) (hts _ (gv_ls _ (by decide))) (hf _ (gv_s7 _ (by decide))) hA
  · exact vx_Zqof (hts _ (gv_ls _ (by decide))) (hts _ (gv_ls _ (by decide))) (hf _ (gv_s7 _ (by decide))) hA
