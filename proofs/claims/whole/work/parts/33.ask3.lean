/-! questions: right, last -/
def pR (V : zV) (one w p : Nat) : Bool := !decide (p = one) && (match sW (s1 V one) p with
  | none => false
  | some _ => decide (wd1 V one w p = w))
def aRight (V : zV) (a b : Int32) : Int32 := if zr a (vN V) = true then (if zr b 10000 = true then yst (pR V a.toNatClampNeg b.toNatClampNeg) (vN V) else -2) else -1
theorem yst_no {P : Nat → Bool} {k : Nat} (h : P k = false) : yst P (k + 1) = yst P k := by
  show (if P k = true then _ else _) = _
  rw [h]; rfl
theorem yst_yes {P : Nat → Bool} {k : Nat} (h : P k = true) : yst P (k + 1) = yst P k ||| z1 k := by
  show (if P k = true then _ else _) = _
  rw [h]; rfl
theorem y_just (d : Nat) {Q : zQ} {m : zM} {V : zV} (hV : vX m 21 V) {one w : Nat} (ho : one < vN V) (hw0 : w < 10000) (hs : hSaid m V (fun p => decide (p = one))) (hd : hWds m V (fun p => decide (p = one)) w) (h : Q (some (.int (yst (pR V one w) (vN V)))) m) :
    ∀ j k, k + j = vN V → zRun (zCall (d + 1)) 4 (some .int) zc_Qu_hearersOfJust Q 11 [.ref 90, .int (nI one), .int (nI w), .int (yst (pR V one w) k), .int (nI k)] [] m
  | 0, k, hk => by
    have h8 := hV.1.1
    refine sg_Qu_hearersOfJust_11 (zCall_m _) _ _ _ _ m ?_
    rw [hV.2.1]
    refine ip (nI_le (by omega) (by omega)) ?_
    rw [show k = vN V by omega]
    exact h
  | j + 1, k, hk => by
    have h8 := hV.1.1
    have IH := y_just d hV ho hw0 hs hd h j (k + 1) (by omega)
    refine sg_Qu_hearersOfJust_11 (zCall_m _) _ _ _ _ m ?_
    rw [hV.2.1, nI_1]
    refine iq (nI_ge (by omega) (by omega)) ?_
    by_cases e : k = one
    · have hp : pR V one w k = false := by unfold pR; rw [decide_eq_true e]; rfl
      rw [yst_no hp] at IH
      exact ip (by rw [e]) IH
    · refine iq (nI_ne (by omega) (by omega) e) (y_wordAt d hV.1 hw0 hs hd (by omega) ⟨_, rfl, ?_⟩)
      have hb := wd1_b hV.1 (one := one) hw0 k
      cases hx : sW (s1 V one) k with
      | none =>
        have hp : pR V one w k = false := by unfold pR; rw [hx, Bool.and_false]
        rw [yst_no hp] at IH
        exact ip (fun z => e5_s (x := w) (by omega) z.symm) IH
      | some x =>
        show @ite Prop (¬ nI (wd1 V one w k) = nI w) _ _ _
        by_cases l : wd1 V one w k = w
        · have hp : pR V one w k = true := by unfold pR; rw [hx, decide_eq_false e, decide_eq_true l]; rfl
          rw [yst_yes hp] at IH
          exact iq (fun z => z (by rw [l])) (y_Box_bit d _ ⟨_, rfl, IH⟩)
        · have hp : pR V one w k = false := by unfold pR; rw [hx, decide_eq_false l, Bool.and_false]
          rw [yst_no hp] at IH
          exact ip (nI_ne (by omega) (by omega) l) IH
theorem yX_right (d : Nat) {Q : zQ} {m : zM} {V : zV} (hV : vX m 21 V) (a b : Int32) (h : ∀ m', zsm hP3 m m' → Q (some (.int (aRight V a b))) m') : zCall (d + 8) m_Box_right [.ref 20, .int a, .int b] m Q := by
  have h8 := hV.1.1
  unfold aRight at h
  refine en_Box_right (d + 7) _ _ m (sg_Box_right_0 (zCall_m _) _ _ m (y_Hedge_has _ a hV.2.1 (by omega) ⟨_, rfl, zb_d (fun ha => ?_) (fun ha => y_Box_isWord _ b ⟨_, rfl, zb_d (fun hb => ?_) (fun hb => ?_)⟩)⟩))
  · have := h m (zsm_refl m); rw [ha] at this; exact this
  · have := h m (zsm_refl m); rw [ha, hb] at this; exact this
  · rw [ha, hb] at h
    simp only [if_true] at h
    obtain ⟨a1, a2⟩ := zr_k ha
    obtain ⟨b1, b2⟩ := zr_k hb
    generalize a.toNatClampNeg = one at a1 a2 h
    generalize b.toNatClampNeg = w at b1 b2 h
    subst a2 b2
    refine en_Qu_hearersOfJust (d + 6) _ _ m (sg_Qu_hearersOfJust_0 (zCall_m _) _ _ m (y_say d hV (one := one) (w0 := w) (by omega) b1 fun m' hs hsd hwd => ⟨rfl, ?_⟩))
    exact y_just _ (vX_sm hV hs (fun q a b z => by unfold hP3 at z; omega) (fun q a b z => by unfold hP3 at z; omega)) a1 b1 hsd hwd ⟨_, rfl, h m' hs⟩ (vN V) 0 (Nat.zero_add _)
theorem y_mright (d : Nat) {Q : zQ} {m : zM} {V : zV} (hV : vM m V) {one w : Nat} {w1 : Nat → Nat} (ho : one < vN V) (hw0 : w < 10000) (hm : mX m V (vTakes V) w w1 (s1 V one)) (h : Q (some (.int (yst (pR V one w) (vN V)))) m) :
    ∀ j k, k + j = vN V → zRun (zCall d) 9 (some .int) zc_Mod_right Q 32 [.ref 113, .int (nI one), .int (nI w), .int (yst (pR V one w) k), .int (nI k)] [] m
  | 0, k, hk => by
    have h8 := hV.1.1
    refine sg_Mod_right_32 (zCall_m _) _ _ _ _ m ?_
    rw [hV.2.1]
    refine ip (nI_le (by omega) (by omega)) ?_
    rw [show k = vN V by omega]
    exact h
  | j + 1, k, hk => by
    have h8 := hV.1.1
    have IH := y_mright d hV ho hw0 hm h j (k + 1) (by omega)
    have hin : vp_in (nI k) 8 := vp_in_nI (by omega) (by omega)
    refine sg_Mod_right_32 (zCall_m _) _ _ _ _ m ?_
    rw [hV.2.1, nI_1]
    refine iq (nI_ge (by omega) (by omega)) ?_
    have no : pR V one w k = false → zRun (zCall d) 9 (some .int) zc_Mod_right Q 32 [.ref 113, .int (nI one), .int (nI w), .int (yst (pR V one w) k ||| 0), .int (nI (k + 1))] [] m := fun hp => by
      rw [yst_or hp]; exact IH
    by_cases e : k = one
    · have hp : pR V one w k = false := by unfold pR; rw [decide_eq_true e]; rfl
      exact ip (by rw [e]) (no hp)
    · refine iq (nI_ne (by omega) (by omega) e) ⟨hin, ?_⟩
      rw [nI_clamp (by omega), (hm.1 k (by omega)).1]
      have hb := wd1_b hV.1 (one := one) hw0 k
      cases hx : sW (s1 V one) k with
      | none =>
        have hp : pR V one w k = false := by unfold pR; rw [hx, Bool.and_false]
        exact ip (by decide) (no hp)
      | some x =>
        have hxb := sT_wb hV.1 _ k x hx
        refine iq (e1_n (x := x) (by omega)) ⟨hin, ?_⟩
        rw [mX_wd hV.1 hm (by omega) (by rw [hx]; simp)]
        by_cases l : wd1 V one w k = w
        · have hp : pR V one w k = true := by unfold pR; rw [hx, decide_eq_false e, decide_eq_true l]; rfl
          rw [yst_yes hp] at IH
          exact iq (fun z => z (by rw [l])) IH
        · have hp : pR V one w k = false := by unfold pR; rw [hx, decide_eq_false l, Bool.and_false]
          exact ip (nI_ne (by omega) (by omega) l) (no hp)
theorem yM_right (d : Nat) {Q : zQ} {m : zM} {V : zV} (hV : vM m V) (a b : Int32) (h : ∀ m', zsm mP m m' → Q (some (.int (aRight V a b))) m') : zCall (d + 8) m_Mod_right [.ref 113, .int a, .int b] m Q := by
  have h8 := hV.1.1
  unfold aRight at h
  refine en_Mod_right (d + 7) _ _ m (sg_Mod_right_0 (zCall_m _) _ _ m (y_Mod_isPlant _ a hV.2.1 (by omega) ⟨_, rfl, zb_d (fun ha => ?_) (fun ha => y_Mod_isWord _ b ⟨_, rfl, zb_d (fun hb => ?_) (fun hb => ?_)⟩)⟩))
  · have := h m (zsm_refl m); rw [ha] at this; exact this
  · have := h m (zsm_refl m); rw [ha, hb] at this; exact this
  · rw [ha, hb] at h
    simp only [if_true] at h
    obtain ⟨a1, a2⟩ := zr_k ha
    obtain ⟨b1, b2⟩ := zr_k hb
    generalize a.toNatClampNeg = one at a1 a2 h
    generalize b.toNatClampNeg = w at b1 b2 h
    subst a2 b2
    refine y_lay d hV (one := one) (w0 := w) a1 b1 fun m' hs hm => ⟨rfl, ?_⟩
    exact y_mright _ (vM_mP hV hs) a1 b1 hm (h m' hs) (vN V) 0 (Nat.zero_add _)
/-! last -/
def mxF (w : Nat → Option Nat) : Nat → Option Nat
  | 0 => none
  | k + 1 => match w k, mxF w k with
    | none, b => b
    | some x, none => some x
    | some x, some y => if y < x then some x else some y
theorem mxF_spec {w : Nat → Option Nat} : ∀ n, (mxF w n = none → ∀ p, p < n → w p = none) ∧ ∀ x, mxF w n = some x → (∃ p, p < n ∧ w p = some x) ∧ ∀ p y, p < n → w p = some y → y ≤ x
  | 0 => ⟨fun _ p hp => absurd hp (Nat.not_lt_zero _), fun x h => by cases h⟩
  | k + 1 => by
    obtain ⟨i1, i2⟩ := mxF_spec (w := w) k
    unfold mxF
    cases hw : w k with
    | none =>
      refine ⟨fun h p hp => ?_, fun x h => ?_⟩
      · rcases Nat.lt_succ_iff_lt_or_eq.mp hp with z | rfl
        · exact i1 h p z
        · exact hw
      · obtain ⟨⟨p, a, b⟩, c⟩ := i2 x h
        refine ⟨⟨p, by omega, b⟩, fun q y hq hy => ?_⟩
        rcases Nat.lt_succ_iff_lt_or_eq.mp hq with z | rfl
        · exact c q y z hy
        · rw [hw] at hy; cases hy
    | some x0 =>
      cases hb : mxF w k with
      | none =>
        refine ⟨fun h => (by cases h), fun x h => ?_⟩
        cases h
        refine ⟨⟨k, by omega, hw⟩, fun q y hq hy => ?_⟩
        rcases Nat.lt_succ_iff_lt_or_eq.mp hq with z | rfl
        · rw [i1 hb q z] at hy; cases hy
        · rw [hw] at hy; cases hy; exact Nat.le_refl _
      | some y0 =>
        obtain ⟨⟨p, a, b⟩, c⟩ := i2 y0 hb
        refine ⟨fun h => ?_, fun x h => ?_⟩
        · dsimp only at h
          split at h <;> cases h
        · dsimp only at h
          split at h
          · cases h
            refine ⟨⟨k, by omega, hw⟩, fun q y hq hy => ?_⟩
            rcases Nat.lt_succ_iff_lt_or_eq.mp hq with z | rfl
            · have := c q y z hy; omega
            · rw [hw] at hy; cases hy; exact Nat.le_refl _
          · cases h
            refine ⟨⟨p, by omega, b⟩, fun q y hq hy => ?_⟩
            rcases Nat.lt_succ_iff_lt_or_eq.mp hq with z | rfl
            · exact c q y z hy
            · rw [hw] at hy; cases hy; omega
/-- the order is by hours, the latest first -/
def oS (w : Nat → Option Nat) : List Nat → Prop
  | [] => True
  | p :: r => (∀ q, q ∈ r → (w q).getD 0 ≤ (w p).getD 0) ∧ oS w r
theorem oS_cg {w w' : Nat → Option Nat} : ∀ {L : List Nat}, (∀ p, p ∈ L → w p = w' p) → oS w L → oS w' L
  | [], _, _ => trivial
  | p :: r, h, t => ⟨fun q hq => by rw [← h p List.mem_cons_self, ← h q (List.mem_cons_of_mem p hq)]; exact t.1 q hq, oS_cg (fun q hq => h q (List.mem_cons_of_mem p hq)) t.2⟩
theorem oS_rn {V : zV} {t : Nat → Nat} (ht : ∀ p, p < vN V → 1 ≤ t p ∧ t p ≤ 2085) : ∀ k s, sJ V t s → oS (sW s) (sO s) → oS (sW (rnS V t k s)) (sO (rnS V t k s))
  | 0, _, _, h => h
  | k + 1, s, hJ, h => by
    unfold rnS
    cases hp : nxF (sW s) (sD s) (vN V) with
    | none => exact h
    | some p =>
      obtain ⟨a, b, x, c, e⟩ := nxF_some hp
      refine oS_rn ht k _ (sJ_ps hJ ht hp) ⟨fun q hq => ?_, oS_cg (fun q hq => ((ps_f hJ ht hp (Or.inl ((hJ.2.1 q).mpr hq))).2).symm) h⟩
      rw [(ps_f hJ ht hp (Or.inr rfl)).2, (ps_f hJ ht hp (Or.inl ((hJ.2.1 q).mpr hq))).2, c]
      exact hJ.2.2.2.2.1 q ((hJ.2.1 q).mpr hq) p x b c
theorem sT_S {V : zV} (hw : vWf V) (b : Nat → Bool) : oS (sW (sT V b)) (sO (sT V b)) := oS_rn (fun _ hp => vTakes_b hw hp) _ _ (sJ_0 V _ b) trivial
def aLast (V : zV) (a : Int32) : Int32 := if zr a (vN V) = true then e5 (mxF (sW (s1 V a.toNatClampNeg)) (vN V)) else -1
theorem sT_mx {V : zV} (hw : vWf V) (b : Nat → Bool) : mxF (sW (sT V b)) (vN V) = match sO (sT V b) with
    | [] => none
    | p :: _ => sW (sT V b) p := by
  obtain ⟨i1, i2⟩ := mxF_spec (w := sW (sT V b)) (vN V)
  cases hL : sO (sT V b) with
  | nil =>
    show mxF (sW (sT V b)) (vN V) = none
    cases hm : mxF (sW (sT V b)) (vN V) with
    | none => rfl
    | some x =>
      obtain ⟨⟨p, a, c⟩, _⟩ := i2 x hm
      have := sT_in hw b (p := p) (by rw [c]; simp)
      rw [hL] at this
      cases this
  | cons p r =>
    show mxF (sW (sT V b)) (vN V) = sW (sT V b) p
    obtain ⟨pn, y, hy⟩ := sT_out hw b (p := p) (by rw [hL]; exact List.mem_cons_self)
    cases hm : mxF (sW (sT V b)) (vN V) with
    | none => rw [i1 hm p pn] at hy; cases hy
    | some x =>
      obtain ⟨⟨q, a, c⟩, f⟩ := i2 x hm
      have h1 := f p y pn hy
      have hq := sT_in hw b (p := q) (by rw [c]; simp)
      have hS := sT_S hw b
      rw [hL] at hq hS
      have h2 : x ≤ y := by
        rcases List.mem_cons.mp hq with z | z
        · subst z; rw [hy] at c; cases c; exact Nat.le_refl _
        · have := hS.1 q z
          rw [c, hy] at this
          exact this
      rw [hy, Nat.le_antisymm h2 h1]
theorem yX_last (d : Nat) {Q : zQ} {m : zM} {V : zV} (hV : vX m 21 V) (a : Int32) (h : ∀ m', zsm hP3 m m' → Q (some (.int (aLast V a))) m') : zCall (d + 8) m_Box_last [.ref 20, .int a] m Q := by
  have h8 := hV.1.1
  unfold aLast at h
  refine en_Box_last (d + 7) _ m (sg_Box_last_0 (zCall_m _) _ m (y_Hedge_has _ a hV.2.1 (by omega) ⟨_, rfl, zb_d (fun ha => ?_) (fun ha => ?_)⟩))
  · have := h m (zsm_refl m); rw [ha] at this; exact this
  · rw [ha] at h
    simp only [if_true] at h
    obtain ⟨a1, a2⟩ := zr_k ha
    generalize a.toNatClampNeg = one at a1 a2 h
    subst a2
    refine en_Qu_latest (d + 6) _ m (sg_Qu_latest_0 (zCall_m _) _ m (y_say d hV (one := one) (w0 := 0) (by omega) (by omega) fun m' hs hsd hwd => ⟨rfl, ?_⟩))
    have h := h m' hs
    have hmx := sT_mx hV.1 (fun p => decide (p = one))
    have ho := hsd.1.2.2
    have hl := (sT_J hV.1 (fun p => decide (p = one))).2.2.2.2.2.2.1
    have hc := cnt_le (sD (sT V fun p => decide (p = one))) (vN V)
    have h : Q (some (.int (e5 (mxF (sW (sT V fun p => decide (p = one))) (vN V))))) m' := h
    rw [hsd.1.2.1]
    rw [hmx] at h
    cases hL : sO (sT V fun p => decide (p = one)) with
    | nil =>
      rw [hL] at h
      exact iq (by decide) ⟨_, rfl, h⟩
    | cons p r =>
      rw [hL] at h ho hl
      obtain ⟨pn, y, hy⟩ := sT_out hV.1 (fun p => decide (p = one)) (p := p) (by rw [hL]; exact List.mem_cons_self)
      rw [List.length_cons] at hl ⊢
      refine ip (nI_le (a := 1) (by omega) (by omega)) ?_
      rw [nI_pred, nI_clamp (by omega), ho.1, nI_clamp (by omega), (hsd.1.1 p pn).1]
      exact ⟨vp_in_nI (by omega) (by omega), vp_in_nI (by omega) (by omega), _, rfl, h⟩
theorem y_mlast (d : Nat) {Q : zQ} {m : zM} {V : zV} (hV : vM m V) {one w0 : Nat} {w1 : Nat → Nat} (v1 : Int32) (hm : mX m V (vTakes V) w0 w1 (s1 V one)) (h : Q (some (.int (e5 (mxF (sW (s1 V one)) (vN V))))) m) :
    ∀ j k, k + j = vN V → zRun (zCall d) 9 (some .int) zc_Mod_last Q 21 [.ref 113, .int v1, .int (e5 (mxF (sW (s1 V one)) k)), .int (nI k)] [] m
  | 0, k, hk => by
    have h8 := hV.1.1
    refine sg_Mod_last_21 (zCall_m _) _ _ _ m ?_
    rw [hV.2.1]
    refine ip (nI_le (by omega) (by omega)) ?_
    rw [show k = vN V by omega]
    exact h
  | j + 1, k, hk => by
    have h8 := hV.1.1
    have IH := y_mlast d hV v1 hm h j (k + 1) (by omega)
    have hin : vp_in (nI k) 8 := vp_in_nI (by omega) (by omega)
    refine sg_Mod_last_21 (zCall_m _) _ _ _ m ?_
    rw [hV.2.1, nI_1]
    refine iq (nI_ge (by omega) (by omega)) ⟨hin, ?_⟩
    rw [nI_clamp (by omega), (hm.1 k (by omega)).1]
    unfold mxF at IH
    have hyb : ∀ y, mxF (sW (s1 V one)) k = some y → y ≤ 16680 := fun y hy => by
      obtain ⟨⟨p, _, hp⟩, _⟩ := (mxF_spec k).2 y hy
      exact sT_wb hV.1 _ p y hp
    cases hx : sW (s1 V one) k with
    | none =>
      rw [hx] at IH
      cases hy : mxF (sW (s1 V one)) k with
      | none =>
        rw [hy] at IH
        exact iq (by decide) ⟨hin, ip (by decide) IH⟩
      | some y =>
        rw [hy] at IH
        have := hyb y hy
        refine ip ?_ IH
        show (-1 : Int32) ≤ nI y
        rw [Int32.le_iff_toInt_le, nI_toInt (by omega)]
        have : (-1 : Int32).toInt = -1 := by decide
        omega
    | some x =>
      rw [hx] at IH
      have hxb := sT_wb hV.1 _ k x hx
      cases hy : mxF (sW (s1 V one)) k with
      | none =>
        rw [hy] at IH
        refine iq ?_ ⟨hin, iq (e1_n (x := x) (by omega)) ⟨hin, IH⟩⟩
        show ¬ nI x ≤ (-5 : Int32)
        rw [Int32.le_iff_toInt_le, nI_toInt (by omega)]
        have : (-5 : Int32).toInt = -5 := by decide
        omega
      | some y =>
        rw [hy] at IH
        have := hyb y hy
        dsimp only at IH
        show @ite Prop (nI x ≤ nI y) _ _ _
        by_cases l : y < x
        · rw [if_pos l] at IH
          exact iq (nI_ge l (by omega)) ⟨hin, iq (e1_n (x := x) (by omega)) ⟨hin, IH⟩⟩
        · rw [if_neg l] at IH
          exact ip (nI_le (by omega) (by omega)) IH
theorem yM_last (d : Nat) {Q : zQ} {m : zM} {V : zV} (hV : vM m V) (a : Int32) (h : ∀ m', zsm mP m m' → Q (some (.int (aLast V a))) m') : zCall (d + 8) m_Mod_last [.ref 113, .int a] m Q := by
  have h8 := hV.1.1
  unfold aLast at h
  refine en_Mod_last (d + 7) _ m (sg_Mod_last_0 (zCall_m _) _ m (y_Mod_isPlant _ a hV.2.1 (by omega) ⟨_, rfl, zb_d (fun ha => ?_) (fun ha => ?_)⟩))
  · have := h m (zsm_refl m); rw [ha] at this; exact this
  · rw [ha] at h
    simp only [if_true] at h
    obtain ⟨a1, a2⟩ := zr_k ha
    generalize a.toNatClampNeg = one at a1 a2 h
    subst a2
    refine y_lay d hV (one := one) (w0 := 0) a1 (by omega) fun m' hs hm => ⟨rfl, ?_⟩
    exact y_mlast _ (vM_mP hV hs) _ hm (h m' hs) (vN V) 0 (Nat.zero_add _)
