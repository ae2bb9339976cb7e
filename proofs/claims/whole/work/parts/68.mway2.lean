/-! PURE 68: the first way, laid by the reference; way -/
theorem gd_23 {a : AN} (hW : WA a) {b : Bool} {x y : Nat} {d : Nat → Nat} (hg : gd (bar (aNr a) b x y) y d) {t : Nat} (ht : t < 24) : d t = 1000 ∨ d t ≤ 23 := by
  rcases hg t ht with z | z
  · exact .inl z
  · exact .inr (Wk_23 hW (Wk_bar z))
/-- the distances are right -/
def exa (F : Nat → Nat → Bool) (y : Nat) (d : Nat → Nat) : Prop := gd F y d ∧ ∀ t, t < 24 → ∀ k, Wk F k t y → d t ≤ k
theorem exa_of {F : Nat → Nat → Bool} {y : Nat} {d : Nat → Nat} (hy : y < 24) (hF : ∀ u v, F u v = true → u < 24 ∧ v < 24) (hg : gd F y d) (hc : clo F d) (h0 : d y = 0) : exa F y d := by
  refine ⟨hg, fun t _ k => ?_⟩
  induction k generalizing t with
  | zero =>
    intro w
    have : t = y := w
    rw [this, h0]
    exact Nat.le_refl _
  | succ k ih =>
    rintro ⟨v, h1, h2⟩
    have := ih v (hF t v h1).2 h2
    have := hc t v h1
    omega
theorem exa_Ds {F : Nat → Nat → Bool} {y : Nat} {d : Nat → Nat} (h : exa F y d) {t k : Nat} (ht : t < 24) (hk : k ≤ 999) : d t = k ↔ Ds F y k t := by
  constructor
  · intro e
    rcases h.1 t ht with z | z
    · omega
    · rw [e] at z
      refine ⟨z, fun j hj w => ?_⟩
      have := h.2 t ht j w
      omega
  · intro q
    have h1 := h.2 t ht k q.1
    rcases h.1 t ht with z | z
    · omega
    · have : ¬ d t < k := fun w => q.2 _ w z
      omega
theorem m_far {mem : Nat → Int32} {q : Nat} {a : AN} (h : MN mem (q * 179) a) (hq : q ≤ 12) (hW : WA a) {b : Bool} {x y : Nat} (hx : x < 24) (hy : y < 24) {far : Nat → Int32} {d : Nat → Nat} (hf : FA far d) (hg : gd (bar (aNr a) b x y) y d) (h0 : d y = 0) (way : Nat → Int32) (wm p2 p4 : Int32) : ∃ far' d', FA far' d' ∧ exa (bar (aNr a) b x y) y d' ∧ f_X7_findsWay_l51 mem way wm (nI q) p2 (nI y) p4 (frm b x) 1 far = (if True then chk (inb p2 24) (if (far' (ix p2)) = 1000 then some (0, far', way, wm) else chk (inb 0 24) (f_X7_findsWay_l183 mem (nI q) p2 (nI y) p4 (frm b x) far' (upd way (ix 0) p2) 1)) else none) := by
  have rx := fun (far : Nat → Int32) (d : Nat → Nat) hf hg => m_round h hq hW (b := b) (x := x) (far := far) (d := d) hx hy hf hg way wm p2 p4
  have b23 := fun (d : Nat → Nat) (hg : gd (bar (aNr a) b x y) y d) t ht => gd_23 hW hg (t := t) ht
  have w23 : ∀ k t, Wk (bar (aNr a) b x y) k t y → k ≤ 23 := fun k t w => Wk_23 hW (Wk_bar w)
  obtain ⟨F, dF⟩ : ∃ F, F = bar (aNr a) b x y := ⟨_, rfl⟩
  have hF24 : ∀ u v, F u v = true → u < 24 ∧ v < 24 := by
    intro u v z
    rw [dF] at z
    exact W_e24 hW (bar_iff.mp z).1
  rw [← dF] at hg rx b23 w23 ⊢
  unfold f_X7_findsWay_l51
  have main := loop_rel (body := fun (_ : Unit) rc (v : Int32 × Int32 × (Nat → Int32)) => f_X7_findsWay_b51 mem way wm (nI q) p2 (nI y) p4 (fun x0_ x1_ x2_ => rc (x0_, x1_, x2_)) v.1 v.2.1 v.2.2) (fun _ (far' : Nat → Int32) => if True then chk (inb p2 24) (if (far' (ix p2)) = 1000 then some (0, far', way, wm) else chk (inb 0 24) (f_X7_findsWay_l183 mem (nI q) p2 (nI y) p4 (frm b x) far' (upd way (ix 0) p2) 1)) else none) (fun far' => ∃ d', FA far' d' ∧ exa F y d') 25 200 (fun n w => ∃ mr fr, w = (frm b x, mr, fr) ∧ ∃ d', FA fr d' ∧ gd F y d' ∧ d' y = 0 ∧ (∀ t, t < 24 → ∀ k, k ≤ n → Wk F k t y → d' t ≤ k) ∧ (mr = 1 ∨ (mr = 0 ∧ clo F d')) ∧ (25 ≤ n → mr = 0)) (by decide) ?_ (frm b x, 1, far) ⟨1, far, rfl, d, hf, hg, h0, ?_, .inl rfl, fun z => absurd z (by omega)⟩
  · obtain ⟨far', ⟨d', h1, h2⟩, h3⟩ := main
    exact ⟨far', d', h1, h2, h3 ()⟩
  · rintro n w hn ⟨mr, fr, rfl, d', i1, i2, i3, i4, i5, i6⟩
    rcases i5 with i5 | ⟨i5, i5'⟩
    · right
      have hn25 : n < 25 := by
        refine Classical.byContradiction fun z => ?_
        have := i6 (by omega)
        rw [i5] at this
        exact absurd this (by decide)
      refine ⟨hn25, ?_⟩
      obtain ⟨r, ⟨d2, g1, g2, g3, g4, g5, g6⟩, g7⟩ := rx fr d' i1 i2
      refine ⟨(frm b x, r.1, r.2), ⟨r.1, r.2, rfl, d2, g1, g2, ?_, ?_, ?_, ?_⟩, ?_⟩
      · have := g3 y hy; omega
      · intro t ht k hk w
        cases k with
        | zero =>
          have := g3 t ht
          have := i4 t ht 0 (by omega) w
          omega
        | succ k =>
          obtain ⟨v, h1, h2⟩ := w
          have := g4 t v h1
          have := i4 v (hF24 t v h1).2 k (by omega) h2
          omega
      · rcases g5 with g5 | ⟨g5, g5'⟩
        · exact .inl g5
        · refine .inr ⟨g5, fun u v z => ?_⟩
          rw [g5' v (hF24 u v z).2]
          exact g4 u v z
      · intro hn2
        apply g6
        intro u v z
        have lu := (hF24 u v z).1
        have lv := (hF24 u v z).2
        rcases i2 v lv with e | e
        · rcases b23 d' i2 u lu with e2 | e2
          · omega
          · omega
        · have w : Wk F (d' v + 1) u y := ⟨v, z, e⟩
          have := w23 _ _ w
          exact i4 u lu _ (by omega) w
      · intro k rc
        show f_X7_findsWay_b51 _ _ _ _ _ _ _ _ _ _ _ = _
        unfold f_X7_findsWay_b51
        dsimp only
        rw [i5, if_neg one0]
        exact g7 (fun x0_ x1_ x2_ => rc (x0_, x1_, x2_))
    · left
      refine ⟨fr, ⟨d', i1, exa_of hy hF24 i2 i5' i3⟩, ?_⟩
      intro k rc
      show f_X7_findsWay_b51 _ _ _ _ _ _ _ _ _ _ _ = _
      unfold f_X7_findsWay_b51
      dsimp only
      rw [i5, if_pos rfl, if_pos trivial]
  · intro t _ k hk w
    have : k = 0 := by omega
    subst this
    have : t = y := w
    rw [this, h0]
    exact Nat.le_refl _
noncomputable def wyP (p : Nat → Nat) (f : Nat → Int32) (i : Nat) : Nat → Int32 := itr (fun j f => upd f j (nI (p j))) f i
theorem wyP_s (p : Nat → Nat) (f : Nat → Int32) (i : Nat) : wyP p f (i + 1) = upd (wyP p f i) i (nI (p i)) := rfl
theorem wyP_at (p : Nat → Nat) (f : Nat → Int32) {i k : Nat} (h : k < i) : wyP p f i k = nI (p k) := by
  induction i with
  | zero => exact absurd h (Nat.not_lt_zero _)
  | succ i ih =>
    rw [wyP_s]
    by_cases e : k = i
    · rw [e, updN]
    · rw [updO e]
      exact ih (by omega)
theorem m_lay {mem : Nat → Int32} {q : Nat} {a : AN} (h : MN mem (q * 179) a) (hq : q ≤ 12) (hW : WA a) {b : Bool} {x y L : Nat} (hx : x < 24) (hy : y < 24) {far : Nat → Int32} {d : Nat → Nat} (hf : FA far d) (he : exa (bar (aNr a) b x y) y d) (hL : Ds (bar (aNr a) b x y) y L x) (way : Nat → Int32) (p2 p4 : Int32) : f_X7_findsWay_l183 mem (nI q) p2 (nI y) p4 (frm b x) far (upd way 0 (nI x)) 1 = some (1, far, wyP (pth (bar (aNr a) b x y) y L x) way (L + 1), nI (L + 1)) := by
  have st := fun u v (hu : u < 24) (hv : v < 24) => m_steps h hq (b := b) hx hy hu hv
  have hL23 : L ≤ 23 := Wk_23 hW (Wk_bar hL.1)
  obtain ⟨F, dF⟩ : ∃ F, F = bar (aNr a) b x y := ⟨_, rfl⟩
  have hF24 : ∀ u v, F u v = true → u < 24 ∧ v < 24 := by
    intro u v z
    rw [dF] at z
    exact W_e24 hW (bar_iff.mp z).1
  rw [← dF] at he hL st ⊢
  have p24 : ∀ i, i ≤ L → pth F y L x i < 24 := by
    intro i hi
    cases i with
    | zero => exact hx
    | succ i => exact (hF24 _ _ (pth_e hL (by omega)).1).2
  unfold f_X7_findsWay_l183
  refine loop_go (fun i => (frm b x, far, wyP (pth F y L x) way (i + 1), nI (i + 1))) L 200 (by omega) rfl ?_ ?_
  · intro i hi rc
    show f_X7_findsWay_b183 _ _ _ _ _ _ _ _ _ _ = _
    unfold f_X7_findsWay_b183
    dsimp only
    have pi := p24 i (by omega)
    have pi1 := p24 (i + 1) (by omega)
    have hd := pth_ok hL i (by omega)
    have hd1 := pth_ok hL (i + 1) (by omega)
    have ne : ¬ pth F y L x i = y := by
      intro z
      rw [z] at hd
      have := Ds_uniq hd (Ds_0.mpr rfl)
      omega
    have hl : wyP (pth F y L x) way (i + 1) i = nI (pth F y L x i) := wyP_at _ _ (by omega)
    rw [nI_m1, chk_nI (by omega) (by decide), ix_nI (by omega)]
    simp only [hl]
    rw [if_neg (by rw [nI_eq (by omega) (by omega)]; exact ne), chk_nI (by omega) (by decide)]
    unfold f_X7_findsWay_l214
    have eu : d (pth F y L x i) = L - i := (exa_Ds he pi (by omega)).mpr hd
    have fe : ∀ v, v < 24 → (far v = far (pth F y L x i) - 1 ↔ Ds F y (L - (i + 1)) v) := by
      intro v hv
      rw [hf v hv, hf _ pi, eu, show L - i = (L - (i + 1)) + 1 by omega, nI_m1]
      rcases he.1 v hv with z | z
      · rw [← exa_Ds he hv (by omega), nI_eq (by omega) (by omega)]
      · have := he.2 v hv _ z
        have l := Wk_23 hW (Wk_bar (by rw [dF] at z; exact z))
        rw [← exa_Ds he hv (by omega), nI_eq (by omega) (by omega)]
    refine loop_go (fun v => (frm b x, nI (pth F y L x i), nI v, far, wyP (pth F y L x) way (i + 1), nI (i + 1))) (pth F y L x (i + 1)) 200 (by omega) rfl ?_ ?_
    · intro v hv rc2
      show f_X7_findsWay_b214 _ _ _ _ _ _ _ _ _ _ _ _ _ = _
      unfold f_X7_findsWay_b214
      dsimp only
      have hn := (pth_e hL hi).2 v hv
      rw [st _ v pi (by omega), sbind, nI_1]
      by_cases e : F (pth F y L x i) v = true
      · rw [e, if_neg (by decide), chk_nI (by omega) (by decide), chk_nI pi (by decide), ix_nI (by omega), ix_nI (by omega), if_neg (fun z => hn ⟨e, (fe v (by omega)).mp z⟩)]
      · rw [show F (pth F y L x i) v = false from Bool.eq_false_iff.mpr e, if_pos (by decide)]
    · intro rc2
      show f_X7_findsWay_b214 _ _ _ _ _ _ _ _ _ _ _ _ _ = _
      unfold f_X7_findsWay_b214
      dsimp only
      rw [st _ _ pi pi1, sbind, (pth_e hL hi).1, if_neg (by decide), chk_nI pi1 (by decide), chk_nI pi (by decide), ix_nI (by omega), ix_nI (by omega), if_pos ((fe _ pi1).mpr hd1), chk_nI (by omega) (by decide), ix_nI (by omega), nI_1, ← wyP_s]
  · intro rc
    show f_X7_findsWay_b183 _ _ _ _ _ _ _ _ _ _ = _
    unfold f_X7_findsWay_b183
    dsimp only
    have hd := pth_ok hL L (Nat.le_refl _)
    rw [Nat.sub_self, Ds_0] at hd
    have hl : wyP (pth F y L x) way (L + 1) L = nI y := by rw [wyP_at _ _ (show L < L + 1 by omega), hd]
    rw [nI_m1, chk_nI (by omega) (by decide), ix_nI (by omega)]
    simp only [hl, if_true]
theorem m_findsWay {mem : Nat → Int32} {q : Nat} {a : AN} (h : MN mem (q * 179) a) (hq : q ≤ 12) (hW : WA a) {b : Bool} {p4 : Int32} (hp : (b = true ∧ p4 = 1) ∨ (b = false ∧ p4 = 0)) {x y : Nat} (hx : x < 24) (hy : y < 24) (far way : Nat → Int32) (wm : Int32) : ∃ far', (∀ L, Ds (bar (aNr a) b x y) y L x → f_X7_findsWay mem far way wm (nI q) (nI x) (nI y) p4 = some (1, far', wyP (pth (bar (aNr a) b x y) y L x) way (L + 1), nI (L + 1))) ∧ (¬ Rc (bar (aNr a) b x y) x y → f_X7_findsWay mem far way wm (nI q) (nI x) (nI y) p4 = some (0, far', way, wm)) := by
  have e0 : f_X7_findsWay mem far way wm (nI q) (nI x) (nI y) p4 = f_X7_findsWay_l15 mem way wm (nI q) (nI x) (nI y) p4 (frm b x) 0 far := by
    unfold f_X7_findsWay
    rcases hp with ⟨hb, hp⟩ | ⟨hb, hp⟩
    · rw [hb, if_neg (by rw [hp]; exact one0)]
      rfl
    · rw [hb, if_pos hp]
      rfl
  let f0 : Nat → Nat → Int32 := fun j => itr (fun t f => upd f t (if t = y then 0 else 1000)) far j
  have f0_at : ∀ j t, t < j → f0 j t = if t = y then 0 else 1000 := by
    intro j
    induction j with
    | zero => intro t ht; exact absurd ht (Nat.not_lt_zero _)
    | succ j ih =>
      intro t ht
      show upd (f0 j) j (if j = y then 0 else 1000) t = _
      by_cases e : t = j
      · rw [e, updN]
      · rw [updO e]
        exact ih t (by omega)
  have e1 : f_X7_findsWay_l15 mem way wm (nI q) (nI x) (nI y) p4 (frm b x) 0 far = f_X7_findsWay_l51 mem way wm (nI q) (nI x) (nI y) p4 (frm b x) 1 (f0 24) := by
    rw [show f_X7_findsWay_l15 mem way wm (nI q) (nI x) (nI y) p4 (frm b x) 0 far = loopN (V := Int32 × Int32 × (Nat → Int32)) (fun rc v => f_X7_findsWay_b15 mem way wm (nI q) (nI x) (nI y) p4 (fun x0_ x1_ x2_ => rc (x0_, x1_, x2_)) v.1 v.2.1 v.2.2) 200 (frm b x, 0, far) from rfl]
    refine loop_go (fun j => (frm b x, nI j, f0 j)) 24 200 (by decide) rfl ?_ ?_
    · intro j hj rc
      show f_X7_findsWay_b15 _ _ _ _ _ _ _ _ _ _ _ = _
      unfold f_X7_findsWay_b15
      dsimp only
      rw [if_neg (n24 hj), chk_nI hj (by decide), chk_nI hj (by decide), ix_nI (by omega), nI_1]
      by_cases e : j = y
      · rw [if_pos (by rw [e])]
        show rc (frm b x, nI (j + 1), upd (f0 j) j 0) = rc (frm b x, nI (j + 1), upd (f0 j) j (if j = y then 0 else 1000))
        rw [if_pos e]
      · rw [if_neg (by rw [nI_eq (by omega) (by omega)]; exact e)]
        show rc (frm b x, nI (j + 1), upd (f0 j) j 1000) = rc (frm b x, nI (j + 1), upd (f0 j) j (if j = y then 0 else 1000))
        rw [if_neg e]
    · intro rc
      show f_X7_findsWay_b15 _ _ _ _ _ _ _ _ _ _ _ = _
      unfold f_X7_findsWay_b15
      dsimp only
      rw [if_pos y24]
  have hfa : FA (f0 24) (fun t => if t = y then 0 else 1000) := by
    intro t ht
    rw [f0_at 24 t ht]
    dsimp only
    by_cases e : t = y
    · rw [if_pos e, if_pos e]; rfl
    · rw [if_neg e, if_neg e]; rfl
  obtain ⟨far', d', g1, g2, g3⟩ := m_far h hq hW (b := b) hx hy hfa (fun t _ => by
    by_cases e : t = y
    · rw [if_pos e]; exact .inr e
    · rw [if_neg e]; exact .inl rfl) (if_pos rfl) way wm (nI x) p4
  rw [if_pos trivial, chk_nI hx (by decide), ix_nI (by omega), g1 x hx] at g3
  refine ⟨far', fun L hL => ?_, fun hr => ?_⟩
  · have eL := (exa_Ds g2 hx (by have := Wk_23 hW (Wk_bar hL.1); omega)).mpr hL
    have hL23 : L ≤ 23 := Wk_23 hW (Wk_bar hL.1)
    rw [e0, e1, g3, eL, if_neg (show ¬ nI L = 1000 by rw [show (1000 : Int32) = nI 1000 from rfl, nI_eq (by omega) (by omega)]; omega), show inb 0 24 = true by decide, chk_true, show ix (0 : Int32) = 0 from rfl]
    exact m_lay h hq hW hx hy g1 g2 hL way (nI x) p4
  · have eL : d' x = 1000 := by
      rcases g2.1 x hx with z | z
      · exact z
      · exact absurd ⟨_, z⟩ hr
    rw [e0, e1, g3, eL, if_pos (show nI 1000 = 1000 from rfl)]
theorem m_entersWay {p : Nat → Nat} {i : Nat} (hi : i ≤ 24) {way : Nat → Int32} (hw : ∀ k, k < i → way k = nI (p k)) (t : Int32) (row : Nat → Int64) : f_X7_entersWay t row way (nI i) = some (nI i, rwP p row i) := by
  unfold f_X7_entersWay f_X7_entersWay_l7
  refine loop_go (fun j => (nI j, nI j, rwP p row j)) i 200 (by omega) rfl ?_ ?_
  · intro j hj rc
    show f_X7_entersWay_b7 _ _ _ _ _ _ = _
    unfold f_X7_entersWay_b7
    dsimp only
    rw [if_neg (nle hj (by omega)), chk_nI (by omega) (by decide), ix_nI (by omega), hw j hj, m_enters (by omega), sbind, nI_1, ← rwP_s]
  · intro rc
    show f_X7_entersWay_b7 _ _ _ _ _ _ = _
    unfold f_X7_entersWay_b7
    dsimp only
    rw [if_pos (yle _ (by omega))]
theorem inv_13 (x_words : Nat → Int32) (x_wordCount : Int32) (x_size : Int32) (x_signs : Nat → Int32) (x_next : Int32) (g_longest : Nat → Int32) (g_many : Nat → Int64) (g_layers : Nat → Int32) (g_length : Int32) (g_aheadOf : Nat → Int32) (g_cameFrom : Nat → Int32) (g_queue : Nat → Int32) (r_numbers : Nat → Int64) (r_size : Int32) (p_size : Int32) (t_filled : Nat → Int32) (nd : Nat → ND) (m_thrown : Int32) (m_told : Int32) (m_row : Nat → Int64) (m_tape : Nat → Int32) (m_taped : Int32) (m_at : Int32) (m_to : Int32) (m_mem : Nat → Int32) (m_undos : Int32) (m_places : Nat → Int32) (m_movers : Nat → Int32) (m_far : Nat → Int32) (m_way : Nat → Int32) (m_wayMany : Int32) (m_fromOf : Nat → Int32) (m_toOf : Nat → Int32) (m_longest : Nat → Int32) (m_wayCount : Nat → Int64) (m_thin : Nat → Int32) (m_ahead : Nat → Int32) (m_tried : Int32) (m_foundLow : Int32) (m_foundHigh : Int32) (m_nextLow : Int32) (m_nextHigh : Int32) (m_act : Nat → Int32) (m_first : Nat → Int32) (m_second : Nat → Int32) (m_random : Int32) (m_isKept : Nat → Int32) (x y : Int32) (h : Inv x_words x_wordCount x_size x_signs x_next g_longest g_many g_layers g_length g_aheadOf g_cameFrom g_queue r_numbers r_size p_size t_filled nd m_thrown m_told m_row m_tape m_taped m_at m_to m_mem m_undos m_places m_movers m_far m_way m_wayMany m_fromOf m_toOf m_longest m_wayCount m_thin m_ahead m_tried m_foundLow m_foundHigh m_nextLow m_nextHigh m_act m_first m_second m_random m_isKept) : S_13 Inv x_words x_wordCount x_size x_signs x_next g_longest g_many g_layers g_length g_aheadOf g_cameFrom g_queue r_numbers r_size p_size t_filled nd m_thrown m_told m_row m_tape m_taped m_at m_to m_mem m_undos m_places m_movers m_far m_way m_wayMany m_fromOf m_toOf m_longest m_wayCount m_thin m_ahead m_tried m_foundLow m_foundHigh m_nextLow m_nextHigh m_act m_first m_second m_random m_isKept x y := by
  obtain ⟨⟨a, hC, hM, hW⟩, hP, hK, hR, hT⟩ := h
  unfold S_13 f_X6_way f_X7_way
  by_cases hx : two a x y
  · obtain ⟨s, t, rfl, rfl, hs, ht, hne⟩ := hx
    have ls := W_lt hW hs
    have lt := W_lt hW ht
    obtain ⟨c1, c2⟩ := c_findWay hC hW (b := false) (.inr ⟨rfl, rfl⟩) ls lt hne g_layers g_length
    obtain ⟨far', m1, m2⟩ := m_findsWay (q := 0) (hM : MN m_mem (0 * 179) a) (by omega) hW (b := false) (.inr ⟨rfl, rfl⟩) ls lt m_far m_way m_wayMany
    rw [C_pair1 hC hW hs ht hne, if_neg one0, m_two1 hM hW hs ht hne, sbind, if_neg one0]
    by_cases hr : Rc (bar (aNr a) false s t) s t
    · obtain ⟨n, hn⟩ := hr
      obtain ⟨L, _, hL⟩ := Ds_ex hn
      have hL23 : L ≤ 23 := Wk_23 hW (Wk_bar hL.1)
      rw [c1 L hL, sbind, show f_X7_findsWay m_mem m_far m_way m_wayMany 0 (nI s) (nI t) 0 = _ from m1 L hL, sbind]
      dsimp only
      rw [if_neg (fun z => by rw [nI0 (by omega)] at z; omega), c_tellWay hC hW ls hL, sbind, if_neg one0, m_entersWay (p := pth (bar (aNr a) false s t) t L s) (by omega) (fun k hk => wyP_at _ _ hk), sbind]
      exact ⟨_, rfl, _, rfl, rfl, ⟨a, hC, hM, hW⟩, hP, hK, RwP _ _ _ (by omega), hT⟩
    · obtain ⟨lay', c2⟩ := c2 hr
      rw [c2, sbind, show f_X7_findsWay m_mem m_far m_way m_wayMany 0 (nI s) (nI t) 0 = _ from m2 hr, sbind]
      dsimp only
      rw [if_pos rfl, if_pos rfl]
      exact ⟨_, rfl, _, rfl, rfl, ⟨a, hC, hM, hW⟩, hP, hK, hR, hT⟩
  · rw [C_pair0 hC hx, if_pos rfl, m_two0 hM hx, sbind, if_pos rfl]
    exact ⟨_, rfl, _, rfl, rfl, ⟨a, hC, hM, hW⟩, hP, hK, hR, hT⟩
