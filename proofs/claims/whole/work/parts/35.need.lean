/-! cut off by others; needed -/
theorem vDo_M {m : zM} {V : zV} (hV : vM m V) {x : Int32} (hx : ybl x (vN V)) : vM (sI m 113 2 x) (vDo V x) := by
  obtain ⟨h0, h1, h2, h3, h4, h5, h6, h7⟩ := hV
  have hs : ∀ q, q ≠ 113 → ∀ k, gI (sI m 113 2 x) q k = gI m q k := fun q hq k => by rw [gI_sI, if_neg (fun z => hq z.1)]
  have ht : ∀ k, k ≠ 2 → gI (sI m 113 2 x) 113 k = gI m 113 k := fun k hk => by rw [gI_sI, if_neg (fun z => hk z.2)]
  refine ⟨vDo_w h0 hx, (ht 0 (by decide)).trans h1, fun j hj => ?_, fun j hj => (hs 117 (by decide) j).trans (h3 j hj), ?_, (ht 1 (by decide)).trans h5, (ht 8 (by decide)).trans h6, fun g G e => gMo_sm (P := fun q => q = 113) (h7 g G e) (zsm_sI (P := fun q => q = 113) (zsm_refl m) (show (113 : Nat) = 113 from rfl) _) (fun q a b z => by omega)⟩
  · obtain ⟨a, b, c⟩ := h2 j hj
    exact ⟨(hs 114 (by decide) j).trans a, (hs 115 (by decide) j).trans b, (hs 116 (by decide) j).trans c⟩
  · rw [gI_sI, if_pos ⟨rfl, rfl⟩]; rfl
theorem e5_hrd (V : zV) (one other : Nat) (hw : vWf V) {A B : Prop} (ht : hrd V one other = true → A) (hf : hrd V one other = false → B) : if (0 : Int32) ≤ e5 (sW (s1 V one) other) then A else B := by
  unfold hrd at ht hf
  cases hx : sW (s1 V one) other with
  | none =>
    rw [hx] at hf
    exact iq (by decide) (hf rfl)
  | some x =>
    rw [hx] at ht
    have := sT_wb hw _ other x hx
    exact ip (nI_pos' (n := x) (by omega)) (ht rfl)
theorem y_cutBy (d : Nat) {Q : zQ} {m : zM} {V : zV} (hV : vM m V) {c : Int32} (hc : ybl c (vN V)) {one other : Nat} (h1 : one < vN V) (h2 : other < vN V) (h : ∀ m', zsm mP m m' → Q (some (.int (zb (!hrd (vDo V (vD V ||| c)) one other)))) m') : zCall (d + 9) m_Mod_isCutBy [.ref 113, .int (nI one), .int (nI other), .int c] m Q := by
  have hx := ybl_or hV.1.2.2.2.1 hc
  have hV1 := vDo_M hV hx
  refine en_Mod_isCutBy (d + 8) _ _ _ m (sg_Mod_isCutBy_0 (zCall_m _) _ _ _ m ?_)
  rw [hV.2.2.2.2.1]
  refine y_whenOf d hV1 h1 h2 fun m2 hs2 => ⟨_, rfl, ?_⟩
  have hs : zsm mP m (sI m2 113 2 (vD V)) := fun q hq => by
    refine ⟨fun k => ?_, fun k => ((hs2 q hq).2.1 k), (hs2 q hq).2.2⟩
    rw [gI_sI]
    by_cases e : q = 113 ∧ k = 2
    · rw [if_pos e, e.1, e.2]
      exact hV.2.2.2.2.1.symm
    · rw [if_neg e, (hs2 q hq).1 k, gI_sI, if_neg e]
  have h := h _ hs
  refine e5_hrd _ one other hV1.1 (fun z => ?_) (fun z => ?_)
  · rw [z] at h; exact ⟨rfl, h⟩
  · rw [z] at h; exact ⟨rfl, h⟩
theorem vDo_0 (V : zV) : vDo V (vD V ||| 0) = V := by
  rw [Int32.or_zero]
  rfl
def pNe (V : zV) (one other p : Nat) : Bool := !decide (p = one) && (!decide (p = other) && !hrd (vDo V (vD V ||| z1 p)) one other)
def aNeeded (V : zV) (a b : Int32) : Int32 := if zr a (vN V) = true then (if zr b (vN V) = true then (if a.toNatClampNeg = b.toNatClampNeg then -2 else if hrd V a.toNatClampNeg b.toNatClampNeg = true then yst (pNe V a.toNatClampNeg b.toNatClampNeg) (vN V) else 0) else -1) else -1
theorem ybl_0 (n : Nat) : ybl 0 n := fun i _ h => by rw [b_0] at h; cases h
theorem y_need (d : Nat) {Q : zQ} {m : zM} {V : zV} (hV : vX m 21 V) {one other : Nat} (h1 : one < vN V) (h2 : other < vN V) (h : Q (some (.int (yst (pNe V one other) (vN V)))) m) :
    ∀ j k, k + j = vN V → zRun (zCall (d + 3)) 4 (some .int) zc_Qu_eachNeededBetween Q 17 [.ref 90, .int (nI one), .int (nI other), .int (yst (pNe V one other) k), .int (nI k)] [] m
  | 0, k, hk => by
    have h8 := hV.1.1
    refine sg_Qu_eachNeededBetween_17 (zCall_m _) _ _ _ _ m ?_
    rw [hV.2.1]
    refine ip (nI_le (by omega) (by omega)) ?_
    rw [show k = vN V by omega]
    exact h
  | j + 1, k, hk => by
    have h8 := hV.1.1
    have IH := y_need d hV h1 h2 h j (k + 1) (by omega)
    refine sg_Qu_eachNeededBetween_17 (zCall_m _) _ _ _ _ m ?_
    rw [hV.2.1, nI_1]
    refine iq (nI_ge (by omega) (by omega)) ?_
    by_cases e : k = one
    · have hp : pNe V one other k = false := by unfold pNe; rw [decide_eq_true e]; rfl
      rw [yst_no hp] at IH
      exact ip (by rw [e]) IH
    · refine iq (nI_ne (by omega) (by omega) e) ?_
      by_cases e2 : k = other
      · have hp : pNe V one other k = false := by unfold pNe; rw [decide_eq_true e2]; simp
        rw [yst_no hp] at IH
        exact ip (by rw [e2]) IH
      · refine iq (nI_ne (by omega) (by omega) e2) (y_Box_bit _ _ ⟨_, rfl, y_reachC d hV (ybl_z1 (by omega) (by omega)) h1 h2 ⟨_, rfl, zb_d (fun z => ?_) (fun z => ?_)⟩⟩)
        · have hp : pNe V one other k = true := by
            unfold pNe
            rw [decide_eq_false e, decide_eq_false e2, z]; rfl
          rw [yst_yes hp] at IH
          exact y_Box_bit _ _ ⟨_, rfl, IH⟩
        · have hp : pNe V one other k = false := by
            unfold pNe
            rw [z]; simp
          rw [yst_no hp] at IH
          exact IH
theorem nI_ab {a b : Int32} {x y : Nat} (ha : a = nI x) (hb : b = nI y) (hx : x < 2 ^ 31) (hy : y < 2 ^ 31) : a = b ↔ x = y := by
  rw [ha, hb]
  exact nI_eq hx hy
theorem yX_needed (d : Nat) {Q : zQ} {m : zM} {V : zV} (hV : vX m 21 V) (a b : Int32) (h : ∀ m', zsm hP3 m m' → Q (some (.int (aNeeded V a b))) m') : zCall (d + 8) m_Box_needed [.ref 20, .int a, .int b] m Q := by
  have h8 := hV.1.1
  replace h := h m (zsm_refl m)
  unfold aNeeded at h
  refine en_Box_needed (d + 7) _ _ m (sg_Box_needed_0 (zCall_m _) _ _ m (y_Hedge_has _ a hV.2.1 (by omega) ⟨_, rfl, zb_c (fun ha => ?_) (fun ha => y_Hedge_has _ b hV.2.1 (by omega) ⟨_, rfl, zb_d (fun hb => ?_) (fun hb => ?_)⟩)⟩))
  · rw [ha] at h; exact h
  · rw [ha, hb] at h; exact h
  · rw [ha, hb] at h
    simp only [if_true] at h
    obtain ⟨a1, a2⟩ := zr_k ha
    obtain ⟨b1, b2⟩ := zr_k hb
    generalize a.toNatClampNeg = one at a1 a2 h
    generalize b.toNatClampNeg = other at b1 b2 h
    subst a2 b2
    by_cases e : one = other
    · rw [if_pos e] at h
      exact iq (fun z => z (by rw [e])) h
    · rw [if_neg e] at h
      refine ip (nI_ne (by omega) (by omega) e) ?_
      refine en_Qu_eachNeededBetween (d + 6) _ _ m (sg_Qu_eachNeededBetween_0 (zCall_m _) _ _ m (y_reachC _ hV (ybl_0 _) a1 b1 ⟨_, rfl, ?_⟩))
      rw [vDo_0]
      refine zb_d (fun z => ?_) (fun z => ?_)
      · rw [z] at h; exact ⟨_, rfl, h⟩
      · rw [z] at h; exact y_need _ hV a1 b1 ⟨_, rfl, h⟩ (vN V) 0 (Nat.zero_add _)
theorem y_mneed (d : Nat) {Q : zQ} {m : zM} {V : zV} (hV : vM m V) {one other : Nat} (h1 : one < vN V) (h2 : other < vN V) (h : ∀ m', zsm mP m m' → Q (some (.int (yst (pNe V one other) (vN V)))) m') :
    ∀ j k m', k + j = vN V → zsm mP m m' → zRun (zCall (d + 9)) 9 (some .int) zc_Mod_needed Q 42 [.ref 113, .int (nI one), .int (nI other), .int (yst (pNe V one other) k), .int (nI k)] [] m'
  | 0, k, m', hk, hs => by
    have hV' := vM_mP hV hs
    have h8 := hV.1.1
    refine sg_Mod_needed_42 (zCall_m _) _ _ _ _ m' ?_
    rw [hV'.2.1]
    refine ip (nI_le (by omega) (by omega)) ?_
    rw [show k = vN V by omega]
    exact h m' hs
  | j + 1, k, m', hk, hs => by
    have hV' := vM_mP hV hs
    have h8 := hV.1.1
    have IH := fun m2 hs2 => y_mneed d hV h1 h2 h j (k + 1) m2 (by omega) hs2
    refine sg_Mod_needed_42 (zCall_m _) _ _ _ _ m' ?_
    rw [hV'.2.1, nI_1]
    refine iq (nI_ge (by omega) (by omega)) ?_
    have no : pNe V one other k = false → ∀ m2, zsm mP m m2 → zRun (zCall (d + 9)) 9 (some .int) zc_Mod_needed Q 42 [.ref 113, .int (nI one), .int (nI other), .int (yst (pNe V one other) k ||| 0), .int (nI (k + 1))] [] m2 := fun hp m2 hs2 => by
      rw [yst_or hp]; exact IH m2 hs2
    by_cases e : k = one
    · have hp : pNe V one other k = false := by unfold pNe; rw [decide_eq_true e]; rfl
      exact ip (by rw [e]) (no hp m' hs)
    · refine iq (nI_ne (by omega) (by omega) e) ?_
      by_cases e2 : k = other
      · have hp : pNe V one other k = false := by unfold pNe; rw [decide_eq_true e2]; simp
        exact ip (by rw [e2]) (no hp m' hs)
      · refine iq (nI_ne (by omega) (by omega) e2) (y_cutBy d hV' (ybl_z1 (p := k) (by omega) (by omega)) h1 h2 fun m2 hs2 => ⟨_, rfl, zb_c (fun z => ?_) (fun z => ?_)⟩)
        · have hp : pNe V one other k = false := by
            unfold pNe
            rw [z]; simp
          exact no hp m2 (zsm_tr hs hs2)
        · have hp : pNe V one other k = true := by
            unfold pNe
            rw [decide_eq_false e, decide_eq_false e2, z]; rfl
          have IH := IH m2 (zsm_tr hs hs2)
          rw [yst_yes hp] at IH
          exact IH
theorem yM_needed (d : Nat) {Q : zQ} {m : zM} {V : zV} (hV : vM m V) (a b : Int32) (h : ∀ m', zsm mP m m' → Q (some (.int (aNeeded V a b))) m') : zCall (d + 10) m_Mod_needed [.ref 113, .int a, .int b] m Q := by
  have h8 := hV.1.1
  unfold aNeeded at h
  refine en_Mod_needed (d + 9) _ _ m (sg_Mod_needed_0 (zCall_m _) _ _ m (y_Mod_isPlant _ a hV.2.1 (by omega) ⟨_, rfl, zb_c (fun ha => ?_) (fun ha => y_Mod_isPlant _ b hV.2.1 (by omega) ⟨_, rfl, zb_d (fun hb => ?_) (fun hb => ?_)⟩)⟩))
  · have := h m (zsm_refl m); rw [ha] at this; exact this
  · have := h m (zsm_refl m); rw [ha, hb] at this; exact this
  · rw [ha, hb] at h
    simp only [if_true] at h
    obtain ⟨a1, a2⟩ := zr_k ha
    obtain ⟨b1, b2⟩ := zr_k hb
    generalize a.toNatClampNeg = one at a1 a2 h
    generalize b.toNatClampNeg = other at b1 b2 h
    subst a2 b2
    by_cases e : one = other
    · simp only [if_pos e] at h
      exact iq (fun z => z (by rw [e])) (h m (zsm_refl m))
    · simp only [if_neg e] at h
      refine ip (nI_ne (by omega) (by omega) e) (y_whenOf _ hV a1 b1 fun m2 hs2 => ⟨_, rfl, e5_hrd V one other hV.1 (fun z => ?_) (fun z => ?_)⟩)
      · simp only [z, if_true] at h
        exact y_mneed d hV a1 b1 h (vN V) 0 m2 (Nat.zero_add _) hs2
      · have h := h m2 hs2
        rw [z] at h
        exact h
