/-! mean of the class; odds of both -/
theorem y_xmean (d : Nat) {Q : zQ} {m : zM} {V : zV} (hw : vWf V) {one part : Nat} (v1 : Int32) (hp : part < 2) (hs : hSaid m V (fun p => decide (p = one))) (h : Q (some (.long (aLow (smF (sW (s1 V one)) (vN V)) (hC (sW (s1 V one)) (vN V)) part))) m) :
    ∀ j k, k + j = (sO (s1 V one)).length → zRun (zCall (d + 1)) 4 (some .long) zc_Qu_meanHours Q 11 [.ref 90, .int v1, .int (nI part), .int (nI (smL (sW (s1 V one)) (tl (sO (s1 V one)) k))), .int (nI k)] [] m
  | 0, k, hk => by
    have hl : (sO (s1 V one)).length = hC (sW (s1 V one)) (vN V) := sT_cnt hw _
    have hb : smF (sW (s1 V one)) (vN V) ≤ 16680 * vN V := smF_b (sT_wb hw _) (vN V)
    have hc : hC (sW (s1 V one)) (vN V) ≤ vN V := cnt_le _ _
    have h8 := hw.1
    have e92 : gI m 92 4 = nI (hC (sW (s1 V one)) (vN V)) := hs.1.2.1.trans (congrArg nI hl)
    refine sg_Qu_meanHours_11 (zCall_m _) _ _ _ _ m ?_
    rw [e92]
    refine ip (nI_le (by omega) (by omega)) ?_
    rw [show k = (sO (s1 V one)).length by omega, tl_all, show smL (sW (s1 V one)) (sO (s1 V one)) = smF (sW (s1 V one)) (vN V) from sT_sm hw _]
    exact y_xlowC d (by omega) (by omega) hp ⟨_, rfl, h⟩
  | j + 1, k, hk => by
    have hl : (sO (s1 V one)).length = hC (sW (s1 V one)) (vN V) := sT_cnt hw _
    have hc : hC (sW (s1 V one)) (vN V) ≤ vN V := cnt_le _ _
    have h8 := hw.1
    have e92 : gI m 92 4 = nI (hC (sW (s1 V one)) (vN V)) := hs.1.2.1.trans (congrArg nI hl)
    obtain ⟨p, p1, p2, p3, p4, p5, p6⟩ := tl_s (k := k) hs.1.2.2 (sT_T hw _) (show k < (sO (s1 V one)).length by omega)
    obtain ⟨pn, y, py⟩ := sT_out hw _ p2
    have hin : vp_in (nI p) 8 := vp_in_nI (by omega) (by omega)
    have p3 : tl (sO (s1 V one)) (k + 1) = p :: tl (sO (s1 V one)) k := p3
    have py1 : sW (s1 V one) p = some y := py
    have IH := y_xmean d hw v1 hp hs h j (k + 1) (by omega)
    refine sg_Qu_meanHours_11 (zCall_m _) _ _ _ _ m ?_
    rw [e92]
    refine iq (nI_ge (by omega) (by omega)) ⟨vp_in_nI (by omega) (by omega), ?_⟩
    rw [nI_clamp (by omega), p1, nI_clamp (by omega), (hs.1.1 p pn).1, py]
    refine ⟨hin, ?_⟩
    have e : nI (smL (sW (s1 V one)) (tl (sO (s1 V one)) k)) + e5 (some y) = nI (smL (sW (s1 V one)) (tl (sO (s1 V one)) (k + 1))) := by
      rw [p3]
      show nI _ + nI y = nI ((sW (s1 V one) p).getD 0 + smL (sW (s1 V one)) (tl (sO (s1 V one)) k))
      rw [py1, nI_add, Nat.add_comm]
      rfl
    rw [e, nI_1]
    exact IH
theorem yX_mean (d : Nat) {Q : zQ} {m : zM} {V : zV} (hV : vX m 21 V) (a b : Int32) (h : ∀ m', zsm hP3 m m' → Q (some (.long (aMean V a b))) m') : zCall (d + 8) m_Box_mean [.ref 20, .int a, .int b] m Q := by
  have h8 := hV.1.1
  have h0 := h m (zsm_refl m)
  unfold aMean at h h0
  refine en_Box_mean (d + 7) _ _ m (sg_Box_mean_0 (zCall_m _) _ _ m (y_Hedge_has _ a hV.2.1 (by omega) ⟨_, rfl, zb_c (fun ha => ?_) (fun ha => zr_d (n := 2) (by decide) (fun hb => ?_) (fun hb => ?_) (fun hb => ?_))⟩))
  · rw [ha] at h0; exact h0
  · rw [ha, hb] at h0; exact h0
  · rw [ha, hb] at h0; exact h0
  · rw [ha, hb] at h
    simp only [if_true] at h
    clear h0
    obtain ⟨a1, a2⟩ := zr_k ha
    obtain ⟨b1, b2⟩ := zr_k hb
    generalize a.toNatClampNeg = one at a1 a2 h
    generalize b.toNatClampNeg = part at b1 b2 h
    subst a2 b2
    refine en_Qu_meanHours (d + 6) _ _ m (sg_Qu_meanHours_0 (zCall_m _) _ _ m (y_say d hV (one := one) (w0 := 0) (by omega) (by omega) fun m' hs hsd hwd => ⟨rfl, ?_⟩))
    have H := y_xmean (d + 5) hV.1 (one := one) (part := part) (Q := fun o1 m2 => ∃ y3, o1 = some (.long y3) ∧ Q (some (.long y3)) m2) (nI one) b1 hsd ⟨_, rfl, h m' hs⟩ (sO (s1 V one)).length 0 (Nat.zero_add _)
    rw [tl_0] at H
    exact H
/-! odds -/
def odP (V : zV) (one other p : Nat) : Bool := !decide (p = one) && (!decide (p = other) && !bt (vD V) p)
def odQ (V : zV) (one other p : Nat) : Bool := odP V one other p && hrd (vDo V (vD V ||| z1 p)) one other
def aOdds (V : zV) (a b c : Int32) : Int64 := if zr a (vN V) = true then (if zr b (vN V) = true then (if zr c 2 = true then (if a.toNatClampNeg = b.toNatClampNeg then -9223372036854775808 else aLow (cnt (odQ V a.toNatClampNeg b.toNatClampNeg) (vN V)) (cnt (odP V a.toNatClampNeg b.toNatClampNeg) (vN V)) c.toNatClampNeg) else -9223372036854775808) else -9223372036854775808) else -9223372036854775808
theorem cnt_s (f : Nat → Bool) (k : Nat) (b : Bool) (h : f k = b) : nI (cnt f (k + 1)) = nI (cnt f k) + nI (if b = true then 1 else 0) := by
  rw [nI_add, ← h]
  rfl
theorem y_xodds (d : Nat) {Q : zQ} {m : zM} {V : zV} (hV : vX m 21 V) {one other part : Nat} (h1 : one < vN V) (h2 : other < vN V) (hp : part < 2) (h : Q (some (.long (aLow (cnt (odQ V one other) (vN V)) (cnt (odP V one other) (vN V)) part))) m) :
    ∀ j k, k + j = vN V → zRun (zCall (d + 3)) 4 (some .long) zc_Qu_oddsBetween Q 9 [.ref 90, .int (nI one), .int (nI other), .int (nI part), .int (nI (cnt (odP V one other) k)), .int (nI (cnt (odQ V one other) k)), .int (nI k)] [] m
  | 0, k, hk => by
    have h8 := hV.1.1
    have c1 := cnt_le (odP V one other) (vN V)
    have c2 := cnt_le (odQ V one other) (vN V)
    refine sg_Qu_oddsBetween_9 (zCall_m _) _ _ _ _ _ _ m ?_
    rw [hV.2.1]
    refine ip (nI_le (by omega) (by omega)) ?_
    rw [show k = vN V by omega]
    exact y_xlowC _ (by omega) (by omega) hp ⟨_, rfl, h⟩
  | j + 1, k, hk => by
    have h8 := hV.1.1
    have IH := y_xodds d hV h1 h2 hp h j (k + 1) (by omega)
    refine sg_Qu_oddsBetween_9 (zCall_m _) _ _ _ _ _ _ m ?_
    rw [hV.2.1, nI_1]
    have no : odP V one other k = false → zRun (zCall (d + 3)) 4 (some .long) zc_Qu_oddsBetween Q 9 [.ref 90, .int (nI one), .int (nI other), .int (nI part), .int (nI (cnt (odP V one other) k)), .int (nI (cnt (odQ V one other) k)), .int (nI (k + 1))] [] m := fun hz => by
      have hz2 : odQ V one other k = false := by unfold odQ; rw [hz]; rfl
      rw [cnt_s _ _ _ hz, cnt_s _ _ _ hz2, nI_add, nI_add] at IH
      exact IH
    refine iq (nI_ge (by omega) (by omega)) ?_
    by_cases e : k = one
    · exact ip (by rw [e]) (no (by unfold odP; rw [decide_eq_true e]; rfl))
    · refine iq (nI_ne (by omega) (by omega) e) ?_
      by_cases e2 : k = other
      · exact ip (by rw [e2]) (no (by unfold odP; rw [decide_eq_true e2]; simp))
      · refine iq (nI_ne (by omega) (by omega) e2) (y_isDead_21 _ hV (by omega) ⟨_, rfl, zb_c (fun z => ?_) (fun z => ?_)⟩)
        · have hz : odP V one other k = true := by unfold odP; rw [decide_eq_false e, decide_eq_false e2, z]; rfl
          refine y_Box_bit _ _ ⟨_, rfl, y_reachC d hV (ybl_z1 (by omega) (by omega)) h1 h2 ⟨_, rfl, zb_c (fun y => ?_) (fun y => ?_)⟩⟩
          · have hz2 : odQ V one other k = false := by unfold odQ; rw [hz, y]; rfl
            rw [cnt_s _ _ _ hz, cnt_s _ _ _ hz2] at IH
            exact IH
          · have hz2 : odQ V one other k = true := by unfold odQ; rw [hz, y]; rfl
            rw [cnt_s _ _ _ hz, cnt_s _ _ _ hz2] at IH
            exact IH
        · exact no (by unfold odP; rw [z]; simp)
theorem yX_odds (d : Nat) {Q : zQ} {m : zM} {V : zV} (hV : vX m 21 V) (a b c : Int32) (h : ∀ m', zsm hP3 m m' → Q (some (.long (aOdds V a b c))) m') : zCall (d + 8) m_Box_odds [.ref 20, .int a, .int b, .int c] m Q := by
  have h8 := hV.1.1
  replace h := h m (zsm_refl m)
  unfold aOdds at h
  refine en_Box_odds (d + 7) _ _ _ m (sg_Box_odds_0 (zCall_m _) _ _ _ m (y_Hedge_has _ a hV.2.1 (by omega) ⟨_, rfl, zb_c (fun ha => ?_) (fun ha => y_Hedge_has _ b hV.2.1 (by omega) ⟨_, rfl, zb_c (fun hb => ?_) (fun hb => ?_)⟩)⟩))
  · rw [ha] at h; exact h
  · rw [ha, hb] at h; exact h
  · rw [ha, hb] at h
    simp only [if_true] at h
    obtain ⟨a1, a2⟩ := zr_k ha
    obtain ⟨b1, b2⟩ := zr_k hb
    generalize a.toNatClampNeg = one at a1 a2 h
    generalize b.toNatClampNeg = other at b1 b2 h
    subst a2 b2
    by_cases e : one = other
    · rw [if_pos e] at h
      refine ip (by rw [e]) ?_
      split at h <;> exact h
    · rw [if_neg e] at h
      refine iq (nI_ne (by omega) (by omega) e) (zr_d (n := 2) (by decide) (fun hc => ?_) (fun hc => ?_) (fun hc => ?_))
      · rw [hc] at h; exact h
      · rw [hc] at h; exact h
      · rw [hc] at h
        simp only [if_true] at h
        obtain ⟨c1, c2⟩ := zr_k hc
        generalize c.toNatClampNeg = part at c1 c2 h
        subst c2
        exact en_Qu_oddsBetween (d + 6) _ _ _ m (sg_Qu_oddsBetween_0 (zCall_m _) _ _ _ m (y_xodds (d + 3) hV a1 b1 c1 ⟨_, rfl, h⟩ (vN V) 0 (Nat.zero_add _)))
theorem y_modds (d : Nat) {Q : zQ} {m : zM} {V : zV} (hV : vM m V) {one other part : Nat} (h1 : one < vN V) (h2 : other < vN V) (hp : part < 2) (h : ∀ m', zsm mP m m' → Q (some (.long (aLow (cnt (odQ V one other) (vN V)) (cnt (odP V one other) (vN V)) part))) m') :
    ∀ j k m', k + j = vN V → zsm mP m m' → zRun (zCall (d + 9)) 9 (some .long) zc_Mod_odds Q 44 [.ref 113, .int (nI one), .int (nI other), .int (nI part), .int (nI (cnt (odQ V one other) k)), .int (nI (cnt (odP V one other) k)), .int (nI k)] [] m'
  | 0, k, m', hk, hs => by
    have hV' := vM_mP hV hs
    have h8 := hV.1.1
    have c1 := cnt_le (odP V one other) (vN V)
    have c2 := cnt_le (odQ V one other) (vN V)
    have h := h m' hs
    refine sg_Mod_odds_44 (zCall_m _) _ _ _ _ _ _ m' ?_
    rw [hV'.2.1]
    refine ip (nI_le (by omega) (by omega)) ?_
    rw [show k = vN V by omega]
    by_cases e : cnt (odP V one other) (vN V) = 0
    · unfold aLow at h
      rw [if_pos e] at h
      exact iq (fun z => z (by rw [e]; rfl)) h
    · exact ip (nI_ne0 (by omega) (by omega)) (y_mlow _ (by omega) (by omega) e hp ⟨_, rfl, h⟩)
  | j + 1, k, m', hk, hs => by
    have hV' := vM_mP hV hs
    have h8 := hV.1.1
    have IH := fun m2 hs2 => y_modds d hV h1 h2 hp h j (k + 1) m2 (by omega) hs2
    refine sg_Mod_odds_44 (zCall_m _) _ _ _ _ _ _ m' ?_
    rw [hV'.2.1, nI_1 k, hV'.2.2.2.2.1]
    have no : odP V one other k = false → zRun (zCall (d + 9)) 9 (some .long) zc_Mod_odds Q 44 [.ref 113, .int (nI one), .int (nI other), .int (nI part), .int (nI (cnt (odQ V one other) k)), .int (nI (cnt (odP V one other) k)), .int (nI (k + 1))] [] m' := fun hz => by
      have hz2 : odQ V one other k = false := by unfold odQ; rw [hz]; rfl
      have IH := IH m' hs
      rw [cnt_s _ _ _ hz, cnt_s _ _ _ hz2, nI_add, nI_add] at IH
      exact IH
    refine iq (nI_ge (by omega) (by omega)) ?_
    by_cases e : k = one
    · exact ip (by rw [e]) (no (by unfold odP; rw [decide_eq_true e]; rfl))
    · refine iq (nI_ne (by omega) (by omega) e) ?_
      by_cases e2 : k = other
      · exact ip (by rw [e2]) (no (by unfold odP; rw [decide_eq_true e2]; simp))
      · refine iq (nI_ne (by omega) (by omega) e2) (y_Mod_has _ _ (by omega) ⟨_, rfl, zb_c (fun z => ?_) (fun z => ?_)⟩)
        · have hz : odP V one other k = true := by unfold odP; rw [decide_eq_false e, decide_eq_false e2, z]; rfl
          refine y_cutBy d hV' (ybl_z1 (p := k) (by omega) (by omega)) h1 h2 fun m2 hs2 => ⟨_, rfl, zb_c (fun y => ?_) (fun y => ?_)⟩
          · have hz2 : odQ V one other k = true := by
              unfold odQ
              rw [hz]
              cases hh : hrd (vDo V (vD V ||| z1 k)) one other with
              | true => rfl
              | false => rw [hh] at y; cases y
            have IH := IH m2 (zsm_tr hs hs2)
            rw [cnt_s _ _ _ hz, cnt_s _ _ _ hz2] at IH
            exact IH
          · have hz2 : odQ V one other k = false := by
              unfold odQ
              rw [hz]
              cases hh : hrd (vDo V (vD V ||| z1 k)) one other with
              | false => rfl
              | true => rw [hh] at y; cases y
            have IH := IH m2 (zsm_tr hs hs2)
            rw [cnt_s _ _ _ hz, cnt_s _ _ _ hz2] at IH
            exact IH
        · exact no (by unfold odP; rw [z]; simp)
theorem yM_odds (d : Nat) {Q : zQ} {m : zM} {V : zV} (hV : vM m V) (a b c : Int32) (h : ∀ m', zsm mP m m' → Q (some (.long (aOdds V a b c))) m') : zCall (d + 10) m_Mod_odds [.ref 113, .int a, .int b, .int c] m Q := by
  have h8 := hV.1.1
  have h0 := h m (zsm_refl m)
  unfold aOdds at h h0
  refine en_Mod_odds (d + 9) _ _ _ m (sg_Mod_odds_0 (zCall_m _) _ _ _ m (y_Mod_isPlant _ a hV.2.1 (by omega) ⟨_, rfl, zb_c (fun ha => ?_) (fun ha => y_Mod_isPlant _ b hV.2.1 (by omega) ⟨_, rfl, zb_c (fun hb => ?_) (fun hb => y_Mod_in _ c _ (n := 2) (by decide) ⟨_, rfl, zb_c (fun hc => ?_) (fun hc => ?_)⟩)⟩)⟩))
  · rw [ha] at h0; exact h0
  · rw [ha, hb] at h0; exact h0
  · rw [ha, hb, hc] at h0; exact h0
  · rw [ha, hb, hc] at h h0
    simp only [if_true] at h h0
    obtain ⟨a1, a2⟩ := zr_k ha
    obtain ⟨b1, b2⟩ := zr_k hb
    obtain ⟨c1, c2⟩ := zr_k hc
    generalize a.toNatClampNeg = one at a1 a2 h h0
    generalize b.toNatClampNeg = other at b1 b2 h h0
    generalize c.toNatClampNeg = part at c1 c2 h h0
    subst a2 b2 c2
    by_cases e : one = other
    · rw [if_pos e] at h0
      exact iq (fun z => z (by rw [e])) h0
    · simp only [if_neg e] at h
      exact ip (nI_ne (by omega) (by omega) e) (y_modds d hV a1 b1 c1 h (vN V) 0 m (Nat.zero_add _) (zsm_refl m))
