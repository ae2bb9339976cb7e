set_option maxRecDepth 100000 in
set_option maxHeartbeats 4000000 in
theorem whole_of {I : IT} (hI : SS I) (h0 : I z32 0 0 z32 0 z32 z64 z32 0 z32 z32 z32 z64 0 0 z32 (fun _ => nd0) 0 0 z64 z32 0 0 0 z32 0 z32 z32 z32 z32 0 z32 z32 z32 z64 z32 z32 0 0 0 0 0 z32 z32 z32 0 z32) {p : Program} {e : Env} {s : State} {m : MethodId} {below : List Frame} {meth : Method} {c : Code} (l : Launch) (hflags : l.flags = flags0) {b L : Nat} {xs : Nat → Int32} (hL : L ≤ 1536) (C0 : lw_At p s m meth c b L xs) : W p l e room_1 s m #[Value.ref b] below meth c s.heap [] 0 0 (lw_Z below #[Value.ref b] s) (entryFrame m ([Value.ref b] : List Value).toArray 8) := by
  obtain ⟨hx, hb, hr, hml, hown, hts, hX0, hbl, hlk, hg⟩ := C0
  have hz : ∀ w ∈ zW, w.before #[Value.ref b] s = true := fun w hw => hts w (List.mem_filter.mp hw).1
  have hao : va_AO "SubjectNet$Net" s := va_AO.of (hts _ gv_ao)
  have hA : ∀ q : Nat, q < s.heap.size → ¬ va_A [] s.heap.size q := by
    intro q hq h
    rcases h with ⟨k, z, h⟩ | h
    · simp at h
    · omega
  obtain ⟨dC, dI, cI, cJ, cZ, cN, hK⟩ := gv_K hz hao
  obtain ⟨adK, adV, hE⟩ := gv_E (A := va_A [] s.heap.size) hts hg hA
  obtain ⟨sK, hX⟩ := gv_X (A := va_A [] s.heap.size) hts hg hA
  have hst : l.stackTraces = false := by
    unfold Launch.stackTraces
    rw [hflags]
    decide
  have G : zG p m c cL_law 8 s #[Value.ref b] RL (dC, dI) vwCl (zT cI cJ cZ cN) (va_A [] s.heap.size) meth ret := ⟨⟨hx, hb, hml, hown, hz⟩, hK, fun w hw => gv_tab hts (gv_nl w hw).1 (gv_nl w hw).2, fun q h => .inr h, hr, hlk⟩
  have hl := lv_entry [Value.ref b] (n := 8) (Nat.le_of_ble_eq_true rfl)
  rw [lg_entry_eq]
  refine law_entry (sK := sK) (adK := adK) (adV := adV) (xs := xs) (L := L) (Q := lw_Z below #[Value.ref b] s) G ⟨hX0, hbl, hA b hbl⟩ hst hE hX hao hI h0 hL ?_ s.heap [] _ (fun k q h => by simp at h) ⟨fun i j p q h => by simp at h, fun k q h => by simp at h⟩ va_S.rf hl
  intro ta xa ca ga ra pa ma oa cells slots j na x_words x_wordCount x_size x_signs x_next g_longest g_many g_layers g_length g_aheadOf g_cameFrom g_queue r_numbers r_size p_size t_filled nd m_thrown m_told m_row m_tape m_taped m_at m_to m_mem m_undos m_places m_movers m_far m_way m_wayMany m_fromOf m_toOf m_longest m_wayCount m_thin m_ahead m_tried m_foundLow m_foundHigh m_nextLow m_nextHigh m_act m_first m_second m_random m_isKept out hc hs
  refine z_iconst (v := 1) G dL_law_1271 (by decide) ?_
  intro H locs ls hP hD hS hl
  refine va_forget (fun q hq => ?_) (W.widen hc hs (lw_ret hx hb hr hlk dL_law_1272))
  rcases hS.2.2 q hq with ⟨k, z, h⟩ | h
  · simp at h
  · exact h
