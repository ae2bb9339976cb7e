/-! PURE 70: a link comes, in the class -/
theorem bsP_sh {P : Nat → Prop} {t : Nat} (ht : t < 24) : (jshr (bsP P) (nI t)) &&& 1 = 0 ↔ ¬ P t := by
  rw [shr_and1 (by omega)]
  by_cases h : bt (bsP P) t = true
  · rw [if_pos h]
    exact ⟨fun z => absurd z one0, fun z => absurd ((bt_bsP P t).mp h).2 z⟩
  · rw [if_neg h]
    exact ⟨fun _ z => h ((bt_bsP P t).mpr ⟨ht, z⟩), fun _ => rfl⟩
theorem c_gather {n : ND} {a : AN} (hC : CN n a) (hW : WA a) {P : Nat → Bool} {S : Nat → Prop} {mv : Nat → Nat} {lo hi base : Nat} (hlo : lo ≤ hi) (hhi : hi < aS a) (hP : ∀ p, lo ≤ p → p ≤ hi → (P p = true ↔ S (aO a p))) (h0 : ∀ p, p < lo → ¬ P p = true) (hmv : ∀ p, lo ≤ p → p ≤ hi → P p = true → mv (base + cnt P p) = aO a p) (hb : base + cnt P (hi + 1) ≤ 24) {arr : Nat → Int32} (harr : ∀ k, k < base → arr k = nI (mv k)) : ∃ arr', (∀ k, k < base + cnt P (hi + 1) → arr' k = nI (mv k)) ∧ f_X2_gather n.2.1 arr (bsP S) (nI lo) (nI hi) (nI base) = some (nI (base + cnt P (hi + 1)), arr') := by
  have hs := hW.1
  unfold f_X2_gather f_X2_gather_l7
  have c0 : cnt P lo = 0 := by
    rw [cnt_stop (p := 0) (Nat.zero_le _) (fun i _ h => h0 i h)]
    rfl
  obtain ⟨r, hr, h⟩ := loop_rel (body := fun (_ : Unit) rc (v : Int32 × Int32 × (Nat → Int32)) => f_X2_gather_b7 n.2.1 (bsP S) (nI lo) (nI hi) (nI base) (fun x0_ x1_ x2_ => rc (x0_, x1_, x2_)) v.1 v.2.1 v.2.2) (fun _ (r : Nat → Int32) => some (nI (base + cnt P (hi + 1)), r)) (fun r => ∀ k, k < base + cnt P (hi + 1) → r k = nI (mv k)) (hi + 1 - lo) 200 (fun j w => ∃ ar, w = (nI (base + cnt P (lo + j)), nI (lo + j), ar) ∧ ∀ k, k < base + cnt P (lo + j) → ar k = nI (mv k)) (by omega) (by
    rintro j w hj ⟨ar, rfl, har⟩
    by_cases e : lo + j = hi + 1
    · left
      refine ⟨ar, by rw [← e]; exact har, ?_⟩
      intro k rc
      show f_X2_gather_b7 _ _ _ _ _ _ _ _ _ = _
      unfold f_X2_gather_b7
      dsimp only
      rw [e, if_pos (by rw [nI_ltI (by omega) (by omega)]; omega)]
    · right
      have hle : lo + j ≤ hi := by omega
      refine ⟨by omega, ?_⟩
      have ho := W_o hW (show lo + j < aS a by omega)
      have hc := cnt_s P (lo + j)
      by_cases q : P (lo + j) = true
      · rw [if_pos q] at hc
        have hlt : cnt P (lo + j) < cnt P (hi + 1) := cnt_lt (by omega) q
        refine ⟨_, ⟨upd ar (base + cnt P (lo + j)) (nI (aO a (lo + j))), rfl, ?_⟩, ?_⟩
        · intro k hk
          by_cases ek : k = base + cnt P (lo + j)
          · rw [ek, updN, hmv _ (by omega) hle q]
          · rw [updO ek]
            refine har k ?_
            rw [show lo + (j + 1) = lo + j + 1 by omega, hc] at hk
            omega
        · intro k rc
          show f_X2_gather_b7 _ _ _ _ _ _ _ _ _ = _
          unfold f_X2_gather_b7
          dsimp only
          rw [if_neg (by rw [nI_ltI (by omega) (by omega)]; omega), chk_nI (by omega) (by decide), ix_nI (by omega), hC.2.1 _ (by omega), if_neg (by rw [bsP_sh ho]; exact fun z => z ((hP _ (by omega) hle).mp q)), if_neg (n24 (by omega)), chk_nI (by omega) (by decide), chk_nI (by omega) (by decide), ix_nI (by omega), nI_1, nI_1, show lo + (j + 1) = lo + j + 1 by omega, hc, show base + (cnt P (lo + j) + 1) = base + cnt P (lo + j) + 1 by omega]
      · rw [if_neg q] at hc
        refine ⟨_, ⟨ar, rfl, by rw [show lo + (j + 1) = lo + j + 1 by omega, hc]; exact har⟩, ?_⟩
        intro k rc
        show f_X2_gather_b7 _ _ _ _ _ _ _ _ _ = _
        unfold f_X2_gather_b7
        dsimp only
        rw [if_neg (by rw [nI_ltI (by omega) (by omega)]; omega), chk_nI (by omega) (by decide), ix_nI (by omega), hC.2.1 _ (by omega), if_pos (by rw [bsP_sh ho]; exact fun z => q ((hP _ (by omega) hle).mpr z)), nI_1, show lo + (j + 1) = lo + j + 1 by omega, hc]) (nI base, nI lo, arr) ⟨arr, by rw [Nat.add_zero, c0, Nat.add_zero], by rw [Nat.add_zero, c0, Nat.add_zero]; exact harr⟩
  exact ⟨r, hr, h ()⟩
/-- how many have another place -/
noncomputable def mvd (a : AN) (x y : Nat) (n : Nat) : Nat := cnt (fun i => pP a x y i && !decide (mO a x y i = aO a i)) n
noncomputable def OA (a : AN) (x y : Nat) (ord : Nat → Int32) (p : Nat) : Nat → Int32 := itr (fun i f => if pP a x y i then upd f i (nI (mO a x y i)) else f) ord p
theorem OA_s (a : AN) (x y : Nat) (ord : Nat → Int32) (p : Nat) : OA a x y ord (p + 1) = if pP a x y p then upd (OA a x y ord p) p (nI (mO a x y p)) else OA a x y ord p := rfl
theorem OA_at (a : AN) (x y : Nat) (ord : Nat → Int32) (p i : Nat) : OA a x y ord p i = if i < p ∧ pP a x y i = true then nI (mO a x y i) else ord i := by
  induction p with
  | zero => rw [if_neg (fun z => absurd z.1 (Nat.not_lt_zero _))]; rfl
  | succ p ih =>
    rw [OA_s]
    by_cases h : pP a x y p = true
    · rw [if_pos h]
      by_cases e : i = p
      · subst e
        rw [updN, if_pos ⟨by omega, h⟩]
      · rw [updO e, ih]
        by_cases q : i < p ∧ pP a x y i = true
        · rw [if_pos q, if_pos ⟨by omega, q.2⟩]
        · rw [if_neg q, if_neg (fun z => q ⟨by omega, z.2⟩)]
    · rw [if_neg h, ih]
      by_cases q : i < p ∧ pP a x y i = true
      · rw [if_pos q, if_pos ⟨by omega, q.2⟩]
      · rw [if_neg q, if_neg]
        intro z
        have : i ≠ p := fun e => h (by rw [← e]; exact z.2)
        exact q ⟨by omega, z.2⟩
theorem OA_stop {a : AN} {x y : Nat} (ord : Nat → Int32) {p q : Nat} (hpq : p ≤ q) (h : ∀ i, p ≤ i → i < q → ¬ pP a x y i = true) : OA a x y ord q = OA a x y ord p := by
  funext i
  rw [OA_at, OA_at]
  by_cases e : i < p ∧ pP a x y i = true
  · rw [if_pos e, if_pos ⟨by omega, e.2⟩]
  · rw [if_neg e, if_neg]
    intro z
    by_cases e2 : i < p
    · exact e ⟨e2, z.2⟩
    · exact h i (by omega) z.1 z.2
theorem mO_pP {a : AN} {x y p : Nat} (h : pP a x y p = true) : mO a x y p = aO a (sg a x y (cnt (pP a x y) p)) := by
  unfold mO
  rw [if_pos h]
theorem mO_N {a : AN} {x y p : Nat} (h : ¬ pP a x y p = true) : mO a x y p = aO a p := by
  unfold mO
  rw [if_neg h]
theorem sg_F {a : AN} (hw : WA a) {x y : Nat} (hx : aAl a x = true) (hn : ¬ Rc (aNr a) y x) {p : Nat} (h : fP a x y p = true) : sg a x y (cnt (fP a x y) p) = p := by
  unfold sg
  rw [if_pos (md_F hw hx hn h).1, en_at h]
theorem sg_H {a : AN} {x y p : Nat} (h : hP a x y p = true) : sg a x y (nF a x y + cnt (hP a x y) p) = p := by
  unfold sg
  rw [if_neg (by omega), show nF a x y + cnt (hP a x y) p - nF a x y = cnt (hP a x y) p by omega, en_at h]
/-- a mover is one that has a place of its own -/
theorem sg_o {a : AN} (hw : WA a) {x y : Nat} (hx : aAl a x = true) (hn : ¬ Rc (aNr a) y x) {k : Nat} (hk : k < cnt (pP a x y) 24) : pP a x y (sg a x y k) = true := by
  have h3 := md_sum hn 24
  unfold sg
  by_cases h : k < nF a x y
  · rw [if_pos h]
    exact pP_i.mpr (.inl (en_spec (P := fP a x y) (n := 24) h).2.1)
  · rw [if_neg h]
    exact pP_i.mpr (.inr (en_spec (P := hP a x y) (n := 24) (by unfold nF at h ⊢; omega)).2.1)
theorem sg_all {a : AN} (hw : WA a) {x y : Nat} (hx : aAl a x = true) (hn : ¬ Rc (aNr a) y x) {p : Nat} (h : pP a x y p = true) : ∃ k, k < cnt (pP a x y) 24 ∧ sg a x y k = p := by
  rcases pP_i.mp h with g | g
  · exact ⟨_, (md_F hw hx hn g).2, sg_F hw hx hn g⟩
  · exact ⟨_, md_H hw hx hn g, sg_H g⟩
theorem pP_px {a : AN} {x y p : Nat} (h : pcO a x < p) : ¬ pP a x y p = true := fun z => by have := (md_rng z).2; omega
theorem pP_py {a : AN} {x y p : Nat} (h : p < pcO a y) : ¬ pP a x y p = true := fun z => by have := (md_rng z).1; omega
theorem c_mend {n : ND} {a : AN} (hC : CN n a) (hW : WA a) {x y : Nat} (hx : aAl a x = true) (hy : aAl a y = true) (hn : ¬ Rc (aNr a) y x) (hpl : pcO a y ≤ pcO a x) (mov : Nat → Int32) : ∃ mov', f_X2_mend n.2.1 mov (bsP (fun u => Rc (aNr a) u x)) (bsP (Rc (aNr a) y)) (nI (pcO a y)) (nI (pcO a x)) = some (nI (mvd a x y 24), OA a x y n.2.1 24, mov') := by
  have hs := hW.1
  have sx := pcO_spec hW hx
  have h3 := md_sum hn (x := x) (y := y) 24
  have hN : cnt (pP a x y) 24 ≤ 24 := cnt_le _ _
  have cF : cnt (fP a x y) (pcO a x + 1) = nF a x y := (cnt_stop (by omega) (fun i h1 _ z => pP_px (by omega) (pP_i.mpr (.inl z)))).symm
  have cH : cnt (hP a x y) (pcO a x + 1) = cnt (hP a x y) 24 := (cnt_stop (by omega) (fun i h1 _ z => pP_px (by omega) (pP_i.mpr (.inr z)))).symm
  obtain ⟨ar1, r1, g1⟩ := c_gather hC hW (P := fP a x y) (S := fun u => Rc (aNr a) u x) (mv := fun k => aO a (sg a x y k)) (lo := pcO a y) (hi := pcO a x) (base := 0) hpl sx.1 (fun p h1 h2 => by
    rw [fP_i]
    exact ⟨fun z => z.2.2, fun z => ⟨h1, h2, z⟩⟩) (fun p h z => by have := (fP_i.mp z).1; omega) (fun p _ _ q => by rw [Nat.zero_add, sg_F hW hx hn q]) (by rw [Nat.zero_add, cF]; unfold nF; omega) (arr := mov) (fun k hk => absurd hk (Nat.not_lt_zero _))
  rw [Nat.zero_add, cF] at r1 g1
  obtain ⟨ar2, r2, g2⟩ := c_gather hC hW (P := hP a x y) (S := Rc (aNr a) y) (mv := fun k => aO a (sg a x y k)) (lo := pcO a y) (hi := pcO a x) (base := nF a x y) hpl sx.1 (fun p h1 h2 => by
    rw [hP_i]
    exact ⟨fun z => z.2.2, fun z => ⟨h1, h2, z⟩⟩) (fun p h z => by have := (hP_i.mp z).1; omega) (fun p _ _ q => by rw [sg_H q]) (by rw [cH]; unfold nF; omega) (arr := ar1) r1
  have eN : nF a x y + cnt (hP a x y) 24 = cnt (pP a x y) 24 := h3.symm
  rw [cH, eN] at r2 g2
  refine ⟨ar2, ?_⟩
  unfold f_X2_mend
  rw [show (0 : Int32) = nI 0 from rfl, g1, sbind]
  dsimp only
  rw [g2, sbind]
  dsimp only
  unfold f_X2_mend_l32
  have c0 : ∀ P : Nat → Bool, (∀ p, P p = true → pP a x y p = true) → cnt P (pcO a y) = 0 := by
    intro P hP
    rw [cnt_stop (p := 0) (Nat.zero_le _) (fun i _ h z => pP_py h (hP i z))]
    rfl
  refine loop_ex (fun j => (nI (cnt (pP a x y) 24), nI (mvd a x y (pcO a y + j)), nI (cnt (pP a x y) (pcO a y + j)), nI (pcO a y + j), OA a x y n.2.1 (pcO a y + j), ar2)) (pcO a x + 1 - pcO a y) 200 (by omega) ?_ ?_ _ ?_
  · intro j hj
    obtain ⟨p, dp⟩ : ∃ p, p = pcO a y + j := ⟨_, rfl⟩
    have hp : p ≤ pcO a x := by omega
    have ho := W_o hW (show p < aS a by omega)
    have hm : mvd a x y p ≤ 24 := Nat.le_trans (cnt_le _ _) (by omega)
    have hop : OA a x y n.2.1 p p = nI (aO a p) := by
      rw [OA_at, if_neg (fun z => absurd z.1 (Nat.lt_irrefl _))]
      exact hC.2.1 p (by omega)
    rw [show pcO a y + (j + 1) = p + 1 by omega, ← dp]
    by_cases hd : cnt (pP a x y) 24 ≤ cnt (pP a x y) p
    · right
      have hno : ∀ i, p ≤ i → i < 24 → ¬ pP a x y i = true := by
        intro i h1 h2 z
        have := cnt_lt h2 z
        have := cnt_mono (pP a x y) h1
        omega
      intro rc
      show f_X2_mend_b32 _ _ _ _ _ _ _ _ _ _ _ = _
      unfold f_X2_mend_b32
      dsimp only
      rw [if_neg (by rw [nI_ltI (by omega) (by omega)]; omega), if_pos (by rw [nI_leI (by omega) (by have := cnt_le (pP a x y) p; omega)]; exact hd), OA_stop n.2.1 (show p ≤ 24 by omega) hno]
      congr 2
      unfold mvd
      rw [cnt_stop (show p ≤ 24 by omega) (fun i h1 h2 z => hno i h1 h2 (by rw [Bool.and_eq_true] at z; exact z.1))]
    · left
      intro rc
      have lcp := cnt_le (pP a x y) p
      show f_X2_mend_b32 _ _ _ _ _ _ _ _ _ _ _ = _
      unfold f_X2_mend_b32 f_X2_mend_b82
      dsimp only
      rw [if_neg (by rw [nI_ltI (by omega) (by omega)]; omega), if_neg (by rw [nI_leI (by omega) (by omega)]; exact hd), chk_nI (by omega) (by decide), ix_nI (by omega)]
      simp only [hop]
      rw [bsP_or, nI_1, nI_1]
      by_cases q : pP a x y p = true
      · have hk : cnt (pP a x y) p < cnt (pP a x y) 24 := cnt_lt (by omega) q
        have em : ar2 (cnt (pP a x y) p) = nI (mO a x y p) := by
          rw [r2 _ hk, mO_pP q]
        have lo : mO a x y p < 24 := by
          rw [mO_pP q]
          exact W_o hW (md_s hW hx (sg_o hW hx hn hk))
        rw [if_neg (by
          rw [bsP_sh ho]
          intro z
          apply z
          rcases pP_i.mp q with w | w
          · exact .inl (fP_i.mp w).2.2
          · exact .inr (hP_i.mp w).2.2), chk_nI (by omega) (by decide), chk_nI (by omega) (by decide), chk_nI (by omega) (by decide), chk_nI (by omega) (by decide), ix_nI (by omega), em, nI_1, OA_s, if_pos q, cnt_s (pP a x y) p, if_pos q]
        by_cases e : mO a x y p = aO a p
        · rw [if_pos (by rw [e])]
          congr 3
          unfold mvd
          rw [cnt_s, if_neg]
          simp [e]
        · have em2 : mvd a x y (p + 1) = mvd a x y p + 1 := by
            unfold mvd
            rw [cnt_s (fun i => pP a x y i && !decide (mO a x y i = aO a i)) p, if_pos (show (pP a x y p && !decide (mO a x y p = aO a p)) = true by rw [q]; simp [e])]
          rw [if_neg (by rw [nI_eq (by omega) (by omega)]; exact fun z => e z.symm), chk_nI (by omega) (by decide), chk_nI (by omega) (by decide), em2]
      · rw [if_pos (by
          rw [bsP_sh ho]
          rintro (w | w)
          · exact q (pP_i.mpr (.inl (fP_i.mpr ⟨by omega, hp, w⟩)))
          · exact q (pP_i.mpr (.inr (hP_i.mpr ⟨by omega, hp, w⟩)))), OA_s, if_neg q, cnt_s (pP a x y) p, if_neg q]
        congr 3
        unfold mvd
        rw [cnt_s, if_neg]
        simp [q]
  · intro rc
    show f_X2_mend_b32 _ _ _ _ _ _ _ _ _ _ _ = _
    unfold f_X2_mend_b32
    dsimp only
    have hno : ∀ i, pcO a x + 1 ≤ i → i < 24 → ¬ pP a x y i = true := fun i h1 _ => pP_px (by omega)
    rw [show pcO a y + (pcO a x + 1 - pcO a y) = pcO a x + 1 by omega, if_pos (by rw [nI_ltI (by omega) (by omega)]; omega), OA_stop n.2.1 (show pcO a x + 1 ≤ 24 by omega) hno]
    congr 2
    unfold mvd
    rw [cnt_stop (show pcO a x + 1 ≤ 24 by omega) (fun i h1 h2 z => hno i h1 h2 (by rw [Bool.and_eq_true] at z; exact z.1))]
  · show (nI (cnt (pP a x y) 24), nI 0, nI 0, nI (pcO a y), n.2.1, ar2) = (nI (cnt (pP a x y) 24), nI (mvd a x y (pcO a y + 0)), nI (cnt (pP a x y) (pcO a y + 0)), nI (pcO a y + 0), OA a x y n.2.1 (pcO a y + 0), ar2)
    rw [Nat.add_zero, c0 _ (fun p z => z), OA_stop n.2.1 (Nat.zero_le _) (fun i _ h => pP_py h)]
    unfold mvd
    rw [c0 _ (fun p z => by rw [Bool.and_eq_true] at z; exact z.1)]
    rfl
theorem mO_low {a : AN} {x y : Nat} (h : pcO a x < pcO a y) : mO a x y = aO a := by
  funext p
  refine mO_N (fun z => ?_)
  have := md_rng z
  omega
theorem mvd_low {a : AN} {x y : Nat} (h : pcO a x < pcO a y) : mvd a x y 24 = 0 := by
  unfold mvd
  rw [cnt_0]
  intro k _ z
  rw [Bool.and_eq_true] at z
  have := md_rng z.1
  omega
theorem OA_low {a : AN} {x y : Nat} (h : pcO a x < pcO a y) (ord : Nat → Int32) : OA a x y ord 24 = ord := by
  rw [OA_stop ord (Nat.zero_le 24) (fun i _ _ z => by have := md_rng z; omega)]
  rfl
theorem WA_come {a : AN} (hw : WA a) {x y : Nat} (hx : aAl a x = true) (hy : aAl a y = true) (hn : ¬ Rc (aNr a) y x) : WA (cmS a x y) := by
  by_cases h : pcO a y ≤ pcO a x
  · exact WA_cm hw hx hy hn h
  · have hl : pcO a x < pcO a y := by omega
    have e : cmS a x y = nrS a (nrOn a x y) := by
      show (a.1, nrOn a x y, a.2.2.1, mO a x y, a.2.2.2.2) = (a.1, nrOn a x y, a.2.2)
      rw [mO_low hl]
    rw [e]
    refine WA_nr hw (fun p q hp hq z => ?_) (fun t u z => ?_)
    · unfold nrOn at z
      rw [Bool.or_eq_true, Bool.and_eq_true, decide_eq_true_iff, decide_eq_true_iff] at z
      rcases z with z | ⟨e1, e2⟩
      · exact hw.2.2.2.2.2.2.1 p q hp hq z
      · rw [← pcO_at hw hp, ← pcO_at hw hq, e1, e2]; exact hl
    · unfold nrOn at z
      rw [Bool.or_eq_true, Bool.and_eq_true, decide_eq_true_iff, decide_eq_true_iff] at z
      rcases z with z | ⟨e1, e2⟩
      · exact ⟨W_e1 hw z, W_e2 hw z⟩
      · rw [e1, e2]; exact ⟨hx, hy⟩
theorem CN_come {n : ND} {a : AN} (h : CN n a) (hw : WA a) {x : Nat} (y : Nat) (mov : Nat → Int32) : CN (upd n.1 x (bset (nrOn a x y x) 24), OA a x y n.2.1 24, n.2.2.1, n.2.2.2.1, n.2.2.2.2.1, mov, n.2.2.2.2.2.2) (cmS a x y) := by
  refine ⟨fun u hu => ?_, fun p hp => ?_, h.2.2⟩
  · show upd n.1 x (bset (nrOn a x y x) 24) u = bset (nrOn a x y u) 24
    by_cases e : u = x
    · rw [e, updN]
    · rw [updO e, nrOn_o a y e]
      exact h.1 u hu
  · show OA a x y n.2.1 24 p = nI (mO a x y p)
    rw [OA_at]
    by_cases q : p < 24 ∧ pP a x y p = true
    · rw [if_pos q]
    · rw [if_neg q]
      by_cases e : pP a x y p = true
      · have hp' : p < aS a := hp
        have := hw.1
        exact absurd ⟨by omega, e⟩ q
      · rw [mO_N e]
        exact h.2.1 p hp
theorem C_place {n : ND} {a : AN} (h : CN n a) (hw : WA a) {t : Nat} (ht : aAl a t = true) : f_X2_placeOf n.2.1 n.2.2.2.2.2.2.2.1 (nI t) = some (nI (pcO a t)) := by
  have := c_placeOf h hw (pcO_spec hw ht).1
  rw [(pcO_spec hw ht).2, ← h.2.2.2.2.2.2.1] at this
  exact this
theorem C_below {n : ND} {a : AN} (h : CN n a) (hw : WA a) {t : Nat} (ht : aAl a t = true) : f_X2_below n.1 n.2.1 n.2.2.2.2.2.2.2.1 (nI t) = some (bsP (Rc (aNr a) t)) := by
  rw [h.2.2.2.2.2.2.1]
  exact c_below h hw ht
theorem C_above {n : ND} {a : AN} (h : CN n a) (hw : WA a) {t : Nat} (ht : aAl a t = true) : f_X2_above n.1 n.2.1 n.2.2.2.2.2.2.2.1 (nI t) = some (bsP (fun u => Rc (aNr a) u t)) := by
  rw [h.2.2.2.2.2.2.1]
  exact c_above h hw ht
theorem c_come {n : ND} {a : AN} (hC : CN n a) (hW : WA a) {x y : Nat} (hx : aAl a x = true) (hy : aAl a y = true) (hne : x ≠ y) (hn : ¬ Rc (aNr a) y x) : ∃ mov', f_X2_come n.1 n.2.1 n.2.2.2.2.2.1 n.2.2.2.2.2.2.2.1 (nI x) (nI y) = some (nI (mvd a x y 24), upd n.1 x (bset (nrOn a x y x) 24), OA a x y n.2.1 24, mov') := by
  have hs := hW.1
  have sx := pcO_spec hW hx
  have sy := pcO_spec hW hy
  have lx := W_lt hW hx
  have ly := W_lt hW hy
  have hpne : pcO a x ≠ pcO a y := fun e => hne (by rw [← sx.2, ← sy.2, e])
  unfold f_X2_come f_X2_come_b40
  rw [C_place hC hW hx, sbind, C_place hC hW hy, sbind, chk_nI lx (by decide), ix_nI (by omega), hC.1 x lx, nrOn_s a x ly]
  by_cases h : pcO a y ≤ pcO a x
  · obtain ⟨mov', hm⟩ := c_mend hC hW hx hy hn h n.2.2.2.2.2.1
    refine ⟨mov', ?_⟩
    rw [if_neg (by rw [nI_leI (by omega) (by omega)]; omega), C_above hC hW hx, sbind, C_below hC hW hy, sbind, sbind, sbind, hm, sbind, chk_nI lx (by decide), chk_nI lx (by decide)]
  · refine ⟨n.2.2.2.2.2.1, ?_⟩
    rw [if_pos (by rw [nI_leI (by omega) (by omega)]; omega), chk_nI lx (by decide), mvd_low (by omega), OA_low (by omega)]
    rfl
