/-! what is left by calls that change one piece (gen61.py); rows grow by one -/
theorem gIs (m : zM) (p k q j : Nat) (v : Int32) : gI (sI m p k v) q j = if q = p ∧ j = k then v else gI m q j := by rw [gI_sI]
def txtP (q : Nat) : Prop := q = 88 ∨ q = 89 ∨ q = 118
def txtK (k : Nat) : Prop := k = 9
theorem Rel_txt {m m' : zM} {V : zV} (hH : rHedge m V) (h : Rest m V) (hf : zfr txtP txtK m m') (hT : ∀ n tx, rTxt m n tx → ∃ n2 tx2, rTxt m' n2 tx2) : Rel m' := by
  obtain ⟨S, R, B, gc, gs, n, tx, b1, b2, b3, c, d, e, f, g, i, j, k⟩ := h
  obtain ⟨n2, tx2, g2⟩ := hT n tx g
  refine Rel_i (rHedge_f hH hf ?_ ?_ ?_ ?_ ?_ ?_ ?_) (rS_f b1 hf (Nat.le_refl _) ?_ ?_ ?_ ?_) (rP_f b2 hf (Nat.le_refl _) ?_ ?_ ?_ ?_) (rBk_f b3 hf (Nat.le_refl _) ?_ ?_ ?_ ?_) (rLim_f c hf ?_) d (rImg_f e hf (zfr_g hf (q := 20) (by unfold txtP; decide) (by decide) 2) ?_ ?_ ?_ ?_) (rGar_f f hf (zfr_g hf (q := 20) (by unfold txtP; decide) (by decide) 4) ?_ ?_ ?_) g2 (rTap_f i hf ?_ ?_) (rAct_f j hf ?_ ?_ ?_ ?_) (rLow_f k hf ?_ ?_) <;> (try unfold txtP) <;> (try unfold txtK) <;> first | decide | omega | (intro q a b; omega) | (intro q a b c; omega) | (intro q a; omega)
def seeP (q : Nat) : Prop := q = 27 ∨ q = 28 ∨ (136 ≤ q ∧ q ≤ 138)
def seeK (k : Nat) : Prop := k = 33
theorem Rel_see {m m' : zM} {V : zV} (hH : rHedge m V) (h : Rest m V) (hf : zfr seeP seeK m m') (hS : ∀ S, rS m (vN V) S → rLim m → ∃ S2, rS m' (vN V) S2) (hL : rLim m') : Rel m' := by
  obtain ⟨S, R, B, gc, gs, n, tx, b1, b2, b3, c, d, e, f, g, i, j, k⟩ := h
  obtain ⟨S2, g2⟩ := hS S b1 c
  refine Rel_i (rHedge_f hH hf ?_ ?_ ?_ ?_ ?_ ?_ ?_) g2 (rP_f b2 hf (Nat.le_refl _) ?_ ?_ ?_ ?_) (rBk_f b3 hf (Nat.le_refl _) ?_ ?_ ?_ ?_) hL d (rImg_f e hf (zfr_g hf (q := 20) (by unfold seeP; decide) (by decide) 2) ?_ ?_ ?_ ?_) (rGar_f f hf (zfr_g hf (q := 20) (by unfold seeP; decide) (by decide) 4) ?_ ?_ ?_) (rTxt_f g hf ?_ ?_ ?_ ?_) (rTap_f i hf ?_ ?_) (rAct_f j hf ?_ ?_ ?_ ?_) (rLow_f k hf ?_ ?_) <;> (try unfold seeP) <;> (try unfold seeK) <;> first | decide | omega | (intro q a b; omega) | (intro q a b c; omega) | (intro q a; omega)
def planP (q : Nat) : Prop := q = 29 ∨ q = 30 ∨ (139 ≤ q ∧ q ≤ 140)
def planK (k : Nat) : Prop := k = 37
theorem Rel_plan {m m' : zM} {V : zV} (hH : rHedge m V) (h : Rest m V) (hf : zfr planP planK m m') (hP : ∀ S, rP m (vN V) S → rLim m → ∃ S2, rP m' (vN V) S2) (hL : rLim m') : Rel m' := by
  obtain ⟨S, R, B, gc, gs, n, tx, b1, b2, b3, c, d, e, f, g, i, j, k⟩ := h
  obtain ⟨S2, g2⟩ := hP R b2 c
  refine Rel_i (rHedge_f hH hf ?_ ?_ ?_ ?_ ?_ ?_ ?_) (rS_f b1 hf (Nat.le_refl _) ?_ ?_ ?_ ?_) g2 (rBk_f b3 hf (Nat.le_refl _) ?_ ?_ ?_ ?_) hL d (rImg_f e hf (zfr_g hf (q := 20) (by unfold planP; decide) (by decide) 2) ?_ ?_ ?_ ?_) (rGar_f f hf (zfr_g hf (q := 20) (by unfold planP; decide) (by decide) 4) ?_ ?_ ?_) (rTxt_f g hf ?_ ?_ ?_ ?_) (rTap_f i hf ?_ ?_) (rAct_f j hf ?_ ?_ ?_ ?_) (rLow_f k hf ?_ ?_) <;> (try unfold planP) <;> (try unfold planK) <;> first | decide | omega | (intro q a b; omega) | (intro q a b c; omega) | (intro q a; omega)
def bookP (q : Nat) : Prop := q = 31 ∨ q = 32 ∨ (141 ≤ q ∧ q ≤ 143)
def bookK (k : Nat) : Prop := k = 38
theorem Rel_book {m m' : zM} {V : zV} (hH : rHedge m V) (h : Rest m V) (hf : zfr bookP bookK m m') (hB : ∀ S, rBk m (vN V) S → rLim m → ∃ S2, rBk m' (vN V) S2) (hL : rLim m') : Rel m' := by
  obtain ⟨S, R, B, gc, gs, n, tx, b1, b2, b3, c, d, e, f, g, i, j, k⟩ := h
  obtain ⟨S2, g2⟩ := hB B b3 c
  refine Rel_i (rHedge_f hH hf ?_ ?_ ?_ ?_ ?_ ?_ ?_) (rS_f b1 hf (Nat.le_refl _) ?_ ?_ ?_ ?_) (rP_f b2 hf (Nat.le_refl _) ?_ ?_ ?_ ?_) g2 hL d (rImg_f e hf (zfr_g hf (q := 20) (by unfold bookP; decide) (by decide) 2) ?_ ?_ ?_ ?_) (rGar_f f hf (zfr_g hf (q := 20) (by unfold bookP; decide) (by decide) 4) ?_ ?_ ?_) (rTxt_f g hf ?_ ?_ ?_ ?_) (rTap_f i hf ?_ ?_) (rAct_f j hf ?_ ?_ ?_ ?_) (rLow_f k hf ?_ ?_) <;> (try unfold bookP) <;> (try unfold bookK) <;> first | decide | omega | (intro q a b; omega) | (intro q a b c; omega) | (intro q a; omega)
def actP (q : Nat) : Prop := q = 98 ∨ q = 99 ∨ q = 156
def actK (k : Nat) : Prop := k = 64
theorem Rel_act {m m' : zM} {V : zV} (hH : rHedge m V) (h : Rest m V) (hf : zfr actP actK m m') (hA : rAct m') : Rel m' := by
  obtain ⟨S, R, B, gc, gs, n, tx, b1, b2, b3, c, d, e, f, g, i, j, k⟩ := h
  refine Rel_i (rHedge_f hH hf ?_ ?_ ?_ ?_ ?_ ?_ ?_) (rS_f b1 hf (Nat.le_refl _) ?_ ?_ ?_ ?_) (rP_f b2 hf (Nat.le_refl _) ?_ ?_ ?_ ?_) (rBk_f b3 hf (Nat.le_refl _) ?_ ?_ ?_ ?_) (rLim_f c hf ?_) d (rImg_f e hf (zfr_g hf (q := 20) (by unfold actP; decide) (by decide) 2) ?_ ?_ ?_ ?_) (rGar_f f hf (zfr_g hf (q := 20) (by unfold actP; decide) (by decide) 4) ?_ ?_ ?_) (rTxt_f g hf ?_ ?_ ?_ ?_) (rTap_f i hf ?_ ?_) hA (rLow_f k hf ?_ ?_) <;> (try unfold actP) <;> (try unfold actK) <;> first | decide | omega | (intro q a b; omega) | (intro q a b c; omega) | (intro q a; omega)
def tapeP (q : Nat) : Prop := (101 ≤ q ∧ q ≤ 112) ∨ (157 ≤ q ∧ q ≤ 160)
def tapeK (k : Nat) : Prop := k = 1000
theorem Rel_tape {m m' : zM} {V : zV} (hH : rHedge m V) (h : Rest m V) (hf : zfr tapeP tapeK m m') (hU : rTap m') : Rel m' := by
  obtain ⟨S, R, B, gc, gs, n, tx, b1, b2, b3, c, d, e, f, g, i, j, k⟩ := h
  refine Rel_i (rHedge_f hH hf ?_ ?_ ?_ ?_ ?_ ?_ ?_) (rS_f b1 hf (Nat.le_refl _) ?_ ?_ ?_ ?_) (rP_f b2 hf (Nat.le_refl _) ?_ ?_ ?_ ?_) (rBk_f b3 hf (Nat.le_refl _) ?_ ?_ ?_ ?_) (rLim_f c hf ?_) d (rImg_f e hf (zfr_g hf (q := 20) (by unfold tapeP; decide) (by decide) 2) ?_ ?_ ?_ ?_) (rGar_f f hf (zfr_g hf (q := 20) (by unfold tapeP; decide) (by decide) 4) ?_ ?_ ?_) (rTxt_f g hf ?_ ?_ ?_ ?_) hU (rAct_f j hf ?_ ?_ ?_ ?_) (rLow_f k hf ?_ ?_) <;> (try unfold tapeP) <;> (try unfold tapeK) <;> first | decide | omega | (intro q a b; omega) | (intro q a b c; omega) | (intro q a; omega)
def imgP (q : Nat) : Prop := q = 20 ∨ (33 ≤ q ∧ q ≤ 44) ∨ (144 ≤ q ∧ q ≤ 155)
def imgK (k : Nat) : Prop := 44 ≤ k ∧ k ≤ 51
theorem Rel_img {m m' : zM} {V : zV} (hH : rHedge m V) (h : Rest m V) (hf : zfr imgP imgK m m') (hI : ∀ S R B gc gs, rS m (vN V) S → rP m (vN V) R → rBk m (vN V) B → vGs gc gs V → rImg m gc gs → rImg m' gc gs) (hL : rLim m') (e20 : gI m' 20 4 = gI m 20 4) : Rel m' := by
  obtain ⟨S, R, B, gc, gs, n, tx, b1, b2, b3, c, d, e, f, g, i, j, k⟩ := h
  refine Rel_i (rHedge_f hH hf ?_ ?_ ?_ ?_ ?_ ?_ ?_) (rS_f b1 hf (Nat.le_refl _) ?_ ?_ ?_ ?_) (rP_f b2 hf (Nat.le_refl _) ?_ ?_ ?_ ?_) (rBk_f b3 hf (Nat.le_refl _) ?_ ?_ ?_ ?_) hL d (hI S R B gc gs b1 b2 b3 d e) (rGar_f f hf e20 ?_ ?_ ?_) (rTxt_f g hf ?_ ?_ ?_ ?_) (rTap_f i hf ?_ ?_) (rAct_f j hf ?_ ?_ ?_ ?_) (rLow_f k hf ?_ ?_) <;> (try unfold imgP) <;> (try unfold imgK) <;> first | decide | omega | (intro q a b; omega) | (intro q a b c; omega) | (intro q a; omega)
def up (f : Nat → Nat) (c x : Nat) : Nat → Nat := fun j => if j = c then x else f j
def radd (R : zRw) (a b e : Nat) : zRw := (rC R + 1, up (rA R) (rC R) a, up (rB R) (rC R) b, up (rE R) (rC R) e)
theorem up_s (f : Nat → Nat) (c x : Nat) : up f c x c = x := if_pos rfl
theorem up_n (f : Nat → Nat) {c x j : Nat} (h : j ≠ c) : up f c x j = f j := if_neg h
theorem rX_add {K p a b e : Nat} {m m' : zM} {R : zRw} (h : rX K p m R) (h0 : gI m' p 0 = nI (rC R + 1)) (h1 : gI m' (p + 1) (3 * rC R) = nI a) (h2 : a < K → gI m' (p + 1) (3 * rC R + 1) = nI b) (h3 : gI m' (p + 1) (3 * rC R + 2) = nI e) (h4 : ∀ i, i < 3 * rC R → gI m' (p + 1) i = gI m (p + 1) i) : rX K p m' (radd R a b e) := by
  refine ⟨h0, fun j hj => ?_⟩
  have hj : j < rC R + 1 := hj
  show gI m' (p + 1) (3 * j) = nI (up (rA R) (rC R) a j) ∧ (up (rA R) (rC R) a j < K → gI m' (p + 1) (3 * j + 1) = nI (up (rB R) (rC R) b j)) ∧ gI m' (p + 1) (3 * j + 2) = nI (up (rE R) (rC R) e j)
  by_cases q : j = rC R
  · subst q
    rw [up_s, up_s, up_s]
    exact ⟨h1, h2, h3⟩
  · rw [up_n _ q, up_n _ q, up_n _ q, h4 _ (by omega), h4 _ (by omega), h4 _ (by omega)]
    exact h.2 j (by omega)
theorem rM_add {K ci pa pb pe a b e : Nat} {m m' : zM} {R : zRw} (h : rM K ci pa pb pe m R) (h0 : gI m' 113 ci = nI (rC R + 1)) (h1 : gI m' pa (rC R) = nI a) (h2 : a < K → gI m' pb (rC R) = nI b) (h3 : pe ≠ 0 → gI m' pe (rC R) = nI e) (h4 : ∀ i, i < rC R → gI m' pa i = gI m pa i ∧ gI m' pb i = gI m pb i ∧ (pe ≠ 0 → gI m' pe i = gI m pe i)) : rM K ci pa pb pe m' (radd R a b e) := by
  refine ⟨h0, fun j hj => ?_⟩
  have hj : j < rC R + 1 := hj
  show gI m' pa j = nI (up (rA R) (rC R) a j) ∧ (up (rA R) (rC R) a j < K → gI m' pb j = nI (up (rB R) (rC R) b j)) ∧ (pe ≠ 0 → gI m' pe j = nI (up (rE R) (rC R) e j))
  by_cases q : j = rC R
  · subst q
    rw [up_s, up_s, up_s]
    exact ⟨h1, h2, h3⟩
  · obtain ⟨x, y, z⟩ := h4 j (by omega)
    obtain ⟨u, v, w⟩ := h.2 j (by omega)
    rw [up_n _ q, up_n _ q, up_n _ q, x, y]
    exact ⟨u, v, fun t => (z t).trans (w t)⟩
theorem rW_add {L K NA NB a b e : Nat} {R : zRw} (h : rW L K NA NB R) (hl : rC R < L) (ha : a < NA) (hb : a < K → b < NB) (he : e < 10000) : rW L K NA NB (radd R a b e) := by
  refine ⟨hl, fun j hj => ?_⟩
  have hj : j < rC R + 1 := hj
  show up (rA R) (rC R) a j < NA ∧ (up (rA R) (rC R) a j < K → up (rB R) (rC R) b j < NB) ∧ up (rE R) (rC R) e j < 10000
  by_cases q : j = rC R
  · subst q
    rw [up_s, up_s, up_s]
    exact ⟨ha, hb, he⟩
  · rw [up_n _ q, up_n _ q, up_n _ q]
    exact h.2 j (by omega)
def rad (m : zM) (p q c : Nat) (a b e z : Int32) : zM := sI (sI (sI (sI m q (3 * c) a) q (3 * c + 1) b) q (3 * c + 2) e) p 0 z
theorem rad_p {p q : Nat} (h : p ≠ q) (m : zM) (c : Nat) (a b e z : Int32) : gI (rad m p q c a b e z) p 0 = z ∧ gI (rad m p q c a b e z) p 1 = gI m p 1 := by
  unfold rad
  refine ⟨by rw [gI_sI, if_pos ⟨rfl, rfl⟩], ?_⟩
  rw [gI_sI, if_neg (fun t => absurd t.2 (by decide)), gI_sI, if_neg (fun t => h t.1), gI_sI, if_neg (fun t => h t.1), gI_sI, if_neg (fun t => h t.1)]
theorem rad_q {p q : Nat} (h : q ≠ p) (m : zM) (c : Nat) (a b e z : Int32) : gI (rad m p q c a b e z) q (3 * c) = a ∧ gI (rad m p q c a b e z) q (3 * c + 1) = b ∧ gI (rad m p q c a b e z) q (3 * c + 2) = e ∧ ∀ i, i < 3 * c → gI (rad m p q c a b e z) q i = gI m q i := by
  unfold rad
  refine ⟨?_, ?_, ?_, fun i hi => ?_⟩
  · rw [gI_sI, if_neg (fun t => h t.1), gI_sI, if_neg (fun t => by omega), gI_sI, if_neg (fun t => by omega), gI_sI, if_pos ⟨rfl, rfl⟩]
  · rw [gI_sI, if_neg (fun t => h t.1), gI_sI, if_neg (fun t => by omega), gI_sI, if_pos ⟨rfl, rfl⟩]
  · rw [gI_sI, if_neg (fun t => h t.1), gI_sI, if_pos ⟨rfl, rfl⟩]
  · rw [gI_sI, if_neg (fun t => h t.1), gI_sI, if_neg (fun t => by omega), gI_sI, if_neg (fun t => by omega), gI_sI, if_neg (fun t => by omega)]
theorem rad_o {p q r : Nat} (h1 : r ≠ p) (h2 : r ≠ q) (m : zM) (c : Nat) (a b e z : Int32) (k : Nat) : gI (rad m p q c a b e z) r k = gI m r k := by
  unfold rad
  rw [gI_sI, if_neg (fun t => h1 t.1), gI_sI, if_neg (fun t => h2 t.1), gI_sI, if_neg (fun t => h2 t.1), gI_sI, if_neg (fun t => h2 t.1)]
def mad (m : zM) (pa pb pe ci c : Nat) (a b e z : Int32) : zM := sI (sI (sI (sI m pa c a) pb c b) pe c e) 113 ci z
theorem mad_a {pa pb pe ci : Nat} (h1 : pa ≠ pb) (h2 : pa ≠ pe) (h3 : pb ≠ pe) (q1 : pa ≠ 113) (q2 : pb ≠ 113) (q3 : pe ≠ 113) (m : zM) (c : Nat) (a b e z : Int32) : gI (mad m pa pb pe ci c a b e z) 113 ci = z ∧ gI (mad m pa pb pe ci c a b e z) pa c = a ∧ gI (mad m pa pb pe ci c a b e z) pb c = b ∧ gI (mad m pa pb pe ci c a b e z) pe c = e ∧ ∀ i, i ≠ c → gI (mad m pa pb pe ci c a b e z) pa i = gI m pa i ∧ gI (mad m pa pb pe ci c a b e z) pb i = gI m pb i ∧ gI (mad m pa pb pe ci c a b e z) pe i = gI m pe i := by
  unfold mad
  refine ⟨?_, ?_, ?_, ?_, fun i hi => ⟨?_, ?_, ?_⟩⟩
  · rw [gI_sI, if_pos ⟨rfl, rfl⟩]
  · rw [gI_sI, if_neg (fun t => q1 t.1), gI_sI, if_neg (fun t => h2 t.1), gI_sI, if_neg (fun t => h1 t.1), gI_sI, if_pos ⟨rfl, rfl⟩]
  · rw [gI_sI, if_neg (fun t => q2 t.1), gI_sI, if_neg (fun t => h3 t.1), gI_sI, if_pos ⟨rfl, rfl⟩]
  · rw [gI_sI, if_neg (fun t => q3 t.1), gI_sI, if_pos ⟨rfl, rfl⟩]
  · rw [gI_sI, if_neg (fun t => q1 t.1), gI_sI, if_neg (fun t => hi t.2), gI_sI, if_neg (fun t => hi t.2), gI_sI, if_neg (fun t => hi t.2)]
  · rw [gI_sI, if_neg (fun t => q2 t.1), gI_sI, if_neg (fun t => hi t.2), gI_sI, if_neg (fun t => hi t.2), gI_sI, if_neg (fun t => hi t.2)]
  · rw [gI_sI, if_neg (fun t => q3 t.1), gI_sI, if_neg (fun t => hi t.2), gI_sI, if_neg (fun t => hi t.2), gI_sI, if_neg (fun t => hi t.2)]
theorem mad_o {pa pb pe ci r : Nat} (h1 : r ≠ pa) (h2 : r ≠ pb) (h3 : r ≠ pe) (h4 : r ≠ 113) (m : zM) (c : Nat) (a b e z : Int32) (k : Nat) : gI (mad m pa pb pe ci c a b e z) r k = gI m r k := by
  unfold mad
  rw [gI_sI, if_neg (fun t => h4 t.1), gI_sI, if_neg (fun t => h3 t.1), gI_sI, if_neg (fun t => h2 t.1), gI_sI, if_neg (fun t => h1 t.1)]
theorem y_radd_27 (d : Nat) {Q : zQ} {m : zM} {c : Nat} (hc : gI m 27 0 = nI c) (hl : gI m 27 1 = nI 5) (hcb : c ≤ 5) (a b e : Int32) (h1 : c < 5 → Q (some (.int (nI (c + 1)))) (rad m 27 28 c a b e (nI (c + 1)))) (h2 : c = 5 → Q (some (.int (-4))) m) : zCall (d + 1) m_Rows_add [.ref 27, .int a, .int b, .int e] m Q := by
  refine en_Rows_add_27 d _ _ _ m (sg_Rows_add_27_0 (zCall_m _) _ _ _ m ?_)
  simp only [gIs, Nat.reduceEqDiff, false_and, if_false, and_self, if_true, hc, hl]
  have e0 : nI c * 3 = nI (3 * c) := by rw [show (3 : Int32) = nI 3 from rfl, pk_mul, Nat.mul_comm]
  have e1 : nI (3 * c) + 2 = nI (3 * c + 2) := nI_add _ 2
  rw [e0, e1, nI_1, nI_1, nI_clamp (by omega), nI_clamp (by omega), nI_clamp (by omega)]
  by_cases l : c < 5
  · exact ip (nI_lt l (by decide)) ⟨vp_in_nI (by omega) (by omega), vp_in_nI (by omega) (by omega), vp_in_nI (by omega) (by omega), h1 l⟩
  · exact iq (nI_nlt (by omega) (by omega)) (h2 (by omega))
theorem y_radd_29 (d : Nat) {Q : zQ} {m : zM} {c : Nat} (hc : gI m 29 0 = nI c) (hl : gI m 29 1 = nI 8) (hcb : c ≤ 8) (a b e : Int32) (h1 : c < 8 → Q (some (.int (nI (c + 1)))) (rad m 29 30 c a b e (nI (c + 1)))) (h2 : c = 8 → Q (some (.int (-4))) m) : zCall (d + 1) m_Rows_add [.ref 29, .int a, .int b, .int e] m Q := by
  refine en_Rows_add_29 d _ _ _ m (sg_Rows_add_29_0 (zCall_m _) _ _ _ m ?_)
  simp only [gIs, Nat.reduceEqDiff, false_and, if_false, and_self, if_true, hc, hl]
  have e0 : nI c * 3 = nI (3 * c) := by rw [show (3 : Int32) = nI 3 from rfl, pk_mul, Nat.mul_comm]
  have e1 : nI (3 * c) + 2 = nI (3 * c + 2) := nI_add _ 2
  rw [e0, e1, nI_1, nI_1, nI_clamp (by omega), nI_clamp (by omega), nI_clamp (by omega)]
  by_cases l : c < 8
  · exact ip (nI_lt l (by decide)) ⟨vp_in_nI (by omega) (by omega), vp_in_nI (by omega) (by omega), vp_in_nI (by omega) (by omega), h1 l⟩
  · exact iq (nI_nlt (by omega) (by omega)) (h2 (by omega))
theorem y_radd_31 (d : Nat) {Q : zQ} {m : zM} {c : Nat} (hc : gI m 31 0 = nI c) (hl : gI m 31 1 = nI 8) (hcb : c ≤ 8) (a b e : Int32) (h1 : c < 8 → Q (some (.int (nI (c + 1)))) (rad m 31 32 c a b e (nI (c + 1)))) (h2 : c = 8 → Q (some (.int (-4))) m) : zCall (d + 1) m_Rows_add [.ref 31, .int a, .int b, .int e] m Q := by
  refine en_Rows_add_31 d _ _ _ m (sg_Rows_add_31_0 (zCall_m _) _ _ _ m ?_)
  simp only [gIs, Nat.reduceEqDiff, false_and, if_false, and_self, if_true, hc, hl]
  have e0 : nI c * 3 = nI (3 * c) := by rw [show (3 : Int32) = nI 3 from rfl, pk_mul, Nat.mul_comm]
  have e1 : nI (3 * c) + 2 = nI (3 * c + 2) := nI_add _ 2
  rw [e0, e1, nI_1, nI_1, nI_clamp (by omega), nI_clamp (by omega), nI_clamp (by omega)]
  by_cases l : c < 8
  · exact ip (nI_lt l (by decide)) ⟨vp_in_nI (by omega) (by omega), vp_in_nI (by omega) (by omega), vp_in_nI (by omega) (by omega), h1 l⟩
  · exact iq (nI_nlt (by omega) (by omega)) (h2 (by omega))
