/-! calls that change the hedge: touch, kill, row, pass, plant -/
def hdP (q : Nat) : Prop := (21 ≤ q ∧ q ≤ 25) ∨ (114 ≤ q ∧ q ≤ 117)
def hdK (k : Nat) : Prop := k ≤ 2
def Rest (m : zM) (V : zV) : Prop := ∃ S R B gc gs n tx, rS m (vN V) S ∧ rP m (vN V) R ∧ rBk m (vN V) B ∧ rLim m ∧ vGs gc gs V ∧ rImg m gc gs ∧ rGar m gc gs ∧ rTxt m n tx ∧ rTap m ∧ rAct m ∧ rLow m
theorem Rel_o {m : zM} (h : Rel m) : ∃ V, rHedge m V ∧ Rest m V := by
  obtain ⟨V, S, R, B, gc, gs, n, tx, a, ⟨b1, b2, b3⟩, c, d, e, f, g, i, j, k⟩ := h
  exact ⟨V, a, S, R, B, gc, gs, n, tx, b1, b2, b3, c, d, e, f, g, i, j, k⟩
theorem Rel_c {m : zM} {V : zV} (h1 : rHedge m V) (h : Rest m V) : Rel m := by
  obtain ⟨S, R, B, gc, gs, n, tx, b1, b2, b3, c, d, e, f, g, i, j, k⟩ := h
  exact Rel_i h1 b1 b2 b3 c d e f g i j k
theorem Rel_hd {m m' : zM} {V V' : zV} (h : Rest m V) (hf : zfr hdP hdK m m') (hH : rHedge m' V') (hn : vN V ≤ vN V') (hg : vG V' = vG V) : Rel m' := by
  obtain ⟨S, R, B, gc, gs, n, tx, b1, b2, b3, c, d, e, f, g, i, j, k⟩ := h
  have P : ∀ q, (q < 21 ∨ (26 ≤ q ∧ q < 114) ∨ 118 ≤ q) → ¬ hdP q := fun q z y => by unfold hdP at y; omega
  have K : ∀ k, 3 ≤ k → ¬ hdK k := fun k z y => by unfold hdK at y; omega
  refine Rel_i hH (rS_f b1 hf hn ?_ ?_ ?_ ?_) (rP_f b2 hf hn ?_ ?_ ?_ ?_) (rBk_f b3 hf hn ?_ ?_ ?_ ?_) (rLim_f c hf ?_) (fun g G e => d g G (hg ▸ e)) (rImg_f e hf (zfr_g hf (P 20 (by omega)) (by omega) 2) ?_ ?_ ?_ ?_) (rGar_f f hf (zfr_g hf (P 20 (by omega)) (by omega) 4) ?_ ?_ ?_) (rTxt_f g hf ?_ ?_ ?_ ?_) (rTap_f i hf ?_ ?_) (rAct_f j hf ?_ ?_ ?_ ?_) (rLow_f k hf ?_ ?_) <;>
  first | (apply P; omega) | (apply K; omega) | (intro q a b; apply P; omega) | (intro q a b; apply K; omega) | (intro q a; apply P; omega)
theorem rH_touch {m : zM} {V : zV} (h : rHedge m V) {p : Nat} (hp : p < vN V) {x : Int32} (hx : ybl x (vN V)) : rHedge (sI (sI m 24 p x) 116 p x) (vTx V p x) := by
  obtain ⟨hX, hM, hh, z1', z2⟩ := h
  have h8 := hX.1.1
  have a := vX_touch (h := 21) (a := p) hX (by decide) hx
  have b := vM_touch (a := p) (vM_sm hM (zsm_sI (P := fun q => q = 24) (zsm_refl m) (show (24 : Nat) = 24 from rfl) x (k := p)) (fun q a b z => by omega)) hx
  refine ⟨vX_sm a (zsm_sI (P := fun q => q = 116) (zsm_refl _) (show (116 : Nat) = 116 from rfl) _) (fun q a b z => by omega) (fun q a b z => by omega), b, hh, fun j hj h8 => ?_, fun j hj h8 => z2 j hj h8⟩
  show gI (sI m 24 p x) 24 j = 0
  have hj : vN V ≤ j := hj
  rw [gI_sI, if_neg (fun z => by omega)]
  exact z1' j hj h8
theorem b_with {V : zV} (hw : vWf V) {x : Int32} (hx : ybl x (vN V)) {p : Nat} (hp : p < vN V) (c : Int32) : ybl (zw x p c) (vN V) := by
  have h8 := hw.1
  unfold zw
  split
  · exact ybl_and hx
  · exact ybl_or hx (ybl_z1 hp (by omega))
theorem ok_touch {m : zM} (hR : Rel m) (a b c : Int32) : okI m_Box_touch m_Mod_touch [.int a, .int b, .int c] m := by
  intro Q hQ
  have h0 := hQ m hR
  obtain ⟨V, hH, hr⟩ := Rel_o hR
  have hH' := hH
  obtain ⟨hX, hM, hh, hz1, hz2⟩ := hH
  have h8 := hX.1.1
  have MP := fun (x : Int32) {Q} (h : Q (some (.int (zb (zr x (vN V))))) m) => y_Mod_isPlant (Q := Q) 47 x hM.2.1 (by omega) h
  refine en_Box_touch 49 _ _ _ m (sg_Box_touch_0 (zCall_m _) _ _ _ m (y_Hedge_has _ a hX.2.1 (by omega) ⟨_, rfl, zb_c (fun ha => ?_) (fun ha => y_Hedge_has _ b hX.2.1 (by omega) ⟨_, rfl, zb_d (fun hb => ?_) (fun hb => ?_)⟩)⟩))
  · refine ⟨_, rfl, en_Mod_touch 49 _ _ _ m (sg_Mod_touch_0 (zCall_m _) _ _ _ m (MP a ⟨_, rfl, ?_⟩))⟩
    rw [ha]; exact ip rfl ⟨_, rfl, rfl, h0⟩
  · refine ⟨_, rfl, en_Mod_touch 49 _ _ _ m (sg_Mod_touch_0 (zCall_m _) _ _ _ m (MP a ⟨_, rfl, ?_⟩))⟩
    rw [ha]
    refine iq (by decide) (MP b ⟨_, rfl, ?_⟩)
    rw [hb]; exact iq (fun z => z rfl) ⟨_, rfl, rfl, h0⟩
  · obtain ⟨a1, a2⟩ := zr_k ha
    obtain ⟨b1, b2⟩ := zr_k hb
    generalize a.toNatClampNeg = p at a1 a2
    generalize b.toNatClampNeg = q at b1 b2
    subst a2 b2
    have hin : vp_in (nI p) 8 := vp_in_nI (by omega) (by omega)
    by_cases e : p = q
    · refine iq (fun z => z (by rw [e])) ⟨_, rfl, en_Mod_touch 49 _ _ _ m (sg_Mod_touch_0 (zCall_m _) _ _ _ m (MP _ ⟨_, rfl, ?_⟩))⟩
      rw [ha]
      refine iq (by decide) (MP _ ⟨_, rfl, ?_⟩)
      rw [hb]; exact ip (by decide) (iq (fun z => z (by rw [e])) ⟨_, rfl, rfl, h0⟩)
    · have t24 : gI m 24 p = vT V p := (hX.2.2.1 p a1).2.2
      have t116 : gI m 116 p = vT V p := (hM.2.2.1 p a1).2.2
      refine ip (nI_ne (by omega) (by omega) e) ⟨hin, ?_⟩
      try rw [nI_clamp (by omega)]
      rw [t24]
      refine y_Box_with _ _ c q ⟨_, rfl, hin, y_Box_holds _ _ (by omega) ⟨_, rfl, ?_⟩⟩
      have hbl := b_with hX.1 (hX.1.2.1 p a1).2.2 b1 c
      have hRel : ∀ y, y = zw (vT V p) q c → Q (sI (sI m 24 p (zw (vT V p) q c)) 116 p y) := fun y hy => by subst hy; exact hQ _ (Rel_hd hr (zfr_sI (zfr_sI (zfr_refl m) (by unfold hdP; omega) (by omega) _) (by unfold hdP; omega) (by omega) _) (rH_touch hH' a1 hbl) (Nat.le_refl _) rfl)
      have hM1 : gI (sI m 24 p (zw (vT V p) q c)) 113 0 = nI (vN V) := hM.2.1
      have MP1 := fun (x : Int32) {Q} (h : Q (some (.int (zb (zr x (vN V))))) (sI m 24 p (zw (vT V p) q c))) => y_Mod_isPlant (Q := Q) 47 x hM1 (by omega) h
      have key : zCall 50 m_Mod_touch [.ref 113, .int (nI p), .int (nI q), .int c] (sI m 24 p (zw (vT V p) q c)) (fun o2 m2 => ∃ y, o2 = some (.int y) ∧ (zb (bt (vT V p) q) = y ∧ Q m2)) := by
        refine en_Mod_touch 49 _ _ _ _ (sg_Mod_touch_0 (zCall_m _) _ _ _ _ (MP1 _ ⟨_, rfl, ?_⟩))
        rw [ha]
        refine iq (by decide) (MP1 _ ⟨_, rfl, ?_⟩)
        rw [hb]
        refine ip (by decide) (ip (nI_ne (by omega) (by omega) e) ⟨hin, ?_⟩)
        have t2 : gI (sI m 24 p (zw (vT V p) q c)) 116 p = vT V p := t116
        rw [nI_clamp (by omega), t2]
        refine y_Mod_has _ _ (by omega) ⟨_, rfl, ?_⟩
        rw [t2]
        refine zb_c (fun z => ?_) (fun z => ?_) <;> rw [z] <;> by_cases hc : c = 0
        · exact ip hc ⟨hin, hin, _, rfl, rfl, hRel _ (show zw _ _ _ = _ from if_pos hc).symm⟩
        · exact iq hc ⟨hin, hin, _, rfl, rfl, hRel _ (show zw _ _ _ = _ from if_neg hc).symm⟩
        · exact ip hc ⟨hin, hin, _, rfl, rfl, hRel _ (show zw _ _ _ = _ from if_pos hc).symm⟩
        · exact iq hc ⟨hin, hin, _, rfl, rfl, hRel _ (show zw _ _ _ = _ from if_neg hc).symm⟩
      refine zb_c (fun z => ?_) (fun z => ?_)
      · rw [z] at key; exact ⟨_, rfl, key⟩
      · rw [z] at key; exact ⟨_, rfl, key⟩
theorem rH_dead {m : zM} {V : zV} (h : rHedge m V) {x : Int32} (hx : ybl x (vN V)) : rHedge (sI (sI m 21 5 x) 113 2 x) (vDo V x) := by
  obtain ⟨hX, hM, hh, z1', z2⟩ := h
  have a := vX_dead (h := 21) hX (by decide) hx
  have b := vDo_M (vM_sm hM (zsm_sI (P := fun q => q = 21) (zsm_refl m) (show (21 : Nat) = 21 from rfl) x (k := 5)) (fun q a b z => by omega)) hx
  exact ⟨vX_sm a (zsm_sI (P := fun q => q = 113) (zsm_refl _) (show (113 : Nat) = 113 from rfl) _) (fun q a b z => by omega) (fun q a b z => by omega), b, hh, fun j hj h8 => z1' j hj h8, fun j hj h8 => z2 j hj h8⟩
theorem ok_kill {m : zM} (hR : Rel m) (a b : Int32) : okI m_Box_kill m_Mod_kill [.int a, .int b] m := by
  intro Q hQ
  have h0 := hQ m hR
  obtain ⟨V, hH, hr⟩ := Rel_o hR
  have hH' := hH
  obtain ⟨hX, hM, hh, hz1, hz2⟩ := hH
  have h8 := hX.1.1
  refine en_Box_kill 49 _ _ m (sg_Box_kill_0 (zCall_m _) _ _ m (y_Hedge_has _ a hX.2.1 (by omega) ⟨_, rfl, zb_d (fun ha => ?_) (fun ha => ?_)⟩))
  · refine ⟨_, rfl, en_Mod_kill 49 _ _ m (sg_Mod_kill_0 (zCall_m _) _ _ m (y_Mod_isPlant _ a hM.2.1 (by omega) ⟨_, rfl, ?_⟩))⟩
    rw [ha]; exact iq (fun z => z rfl) ⟨_, rfl, rfl, h0⟩
  · obtain ⟨a1, a2⟩ := zr_k ha
    generalize a.toNatClampNeg = p at a1 a2
    subst a2
    rw [hX.2.2.2.2.1]
    refine y_Box_with _ _ b p ⟨_, rfl, y_Box_holds _ _ (by omega) ⟨_, rfl, ?_⟩⟩
    have hbl := b_with hX.1 hX.1.2.2.2.1 a1 b
    have hRel : ∀ y, y = zw (vD V) p b → Q (sI (sI m 21 5 (zw (vD V) p b)) 113 2 y) := fun y hy => by subst hy; exact hQ _ (Rel_hd hr (zfr_k (zfr_sI (zfr_refl m) (by unfold hdP; omega) (by omega) _) (by unfold hdK; omega) _) (rH_dead hH' hbl) (Nat.le_refl _) rfl)
    have key : zCall 50 m_Mod_kill [.ref 113, .int (nI p), .int b] (sI m 21 5 (zw (vD V) p b)) (fun o2 m2 => ∃ y, o2 = some (.int y) ∧ (zb (bt (vD V) p) = y ∧ Q m2)) := by
      refine en_Mod_kill 49 _ _ _ (sg_Mod_kill_0 (zCall_m _) _ _ _ (y_Mod_isPlant _ _ (show gI (sI m 21 5 (zw (vD V) p b)) 113 0 = nI (vN V) from hM.2.1) (by omega) ⟨_, rfl, ?_⟩))
      rw [ha]
      have t2 : gI (sI m 21 5 (zw (vD V) p b)) 113 2 = vD V := hM.2.2.2.2.1
      refine ip (by decide) ?_
      rw [t2]
      refine y_Mod_has _ _ (by omega) ⟨_, rfl, ?_⟩
      rw [t2]
      refine zb_c (fun z => ?_) (fun z => ?_) <;> rw [z] <;> by_cases hc : b = 0
      · exact ip hc ⟨_, rfl, rfl, hRel _ (show zw _ _ _ = _ from if_pos hc).symm⟩
      · exact iq hc ⟨_, rfl, rfl, hRel _ (show zw _ _ _ = _ from if_neg hc).symm⟩
      · exact ip hc ⟨_, rfl, rfl, hRel _ (show zw _ _ _ = _ from if_pos hc).symm⟩
      · exact iq hc ⟨_, rfl, rfl, hRel _ (show zw _ _ _ = _ from if_neg hc).symm⟩
    refine zb_c (fun z => ?_) (fun z => ?_)
    · rw [z] at key; exact ⟨_, rfl, key⟩
    · rw [z] at key; exact ⟨_, rfl, key⟩
theorem rH_hour {m : zM} {V : zV} (h : rHedge m V) {x : Nat} (hx : x ≤ 9999) : rHedge (sI (sI m 21 6 (nI x)) 113 1 (nI x)) (vHo V x) := by
  obtain ⟨hX, hM, hh, z1', z2⟩ := h
  have a := vX_hour (h := 21) hX (by decide) (x := x) (by omega)
  have b := vM_hour (vM_sm hM (zsm_sI (P := fun q => q = 21) (zsm_refl m) (show (21 : Nat) = 21 from rfl) (nI x) (k := 6)) (fun q a b z => by omega)) (x := x) (by omega)
  exact ⟨vX_sm a (zsm_sI (P := fun q => q = 113) (zsm_refl _) (show (113 : Nat) = 113 from rfl) _) (fun q a b z => by omega) (fun q a b z => by omega), b, hx, fun j hj h8 => z1' j hj h8, fun j hj h8 => z2 j hj h8⟩
theorem ok_pass {m : zM} (hR : Rel m) (a : Int32) : okI m_Box_pass m_Mod_pass [.int a] m := by
  intro Q hQ
  have h0 := hQ m hR
  obtain ⟨V, hH, hr⟩ := Rel_o hR
  have hH' := hH
  obtain ⟨hX, hM, hh, hz1, hz2⟩ := hH
  have bad : zr a 100 = false → zCall 50 m_Mod_pass [.ref 113, .int a] m (fun o2 m2 => ∃ y, o2 = some (.int y) ∧ ((-2 : Int32) = y ∧ Q m2)) := fun ha => by
    refine en_Mod_pass 49 _ m (sg_Mod_pass_0 (zCall_m _) _ m (y_Mod_in _ a _ (n := 100) (by decide) ⟨_, rfl, ?_⟩))
    rw [ha]; exact iq (fun z => z rfl) ⟨_, rfl, rfl, h0⟩
  refine en_Box_pass 49 _ m (sg_Box_pass_0 (zCall_m _) _ m (zr_d (n := 100) (by decide) (fun ha => ⟨_, rfl, bad ha⟩) (fun ha => ⟨_, rfl, bad ha⟩) (fun ha => ?_)))
  obtain ⟨a1, a2⟩ := zr_k ha
  generalize a.toNatClampNeg = k at a1 a2
  subst a2
  rw [hX.2.2.2.2.2.1, nI_add]
  have MI : ∀ {m' : zM} {Q' : zQ}, gI m' 113 1 = nI (vHr V) → (@ite Prop (nI (vHr V + k) ≤ 9999) inferInstance (Q' (some (.int (nI (vHr V + k)))) (sI m' 113 1 (nI (vHr V + k)))) (Q' (some (.int (-3))) m')) → zCall 50 m_Mod_pass [.ref 113, .int (nI k)] m' Q' := fun {m' Q'} he h => by
    refine en_Mod_pass 49 _ _ (sg_Mod_pass_0 (zCall_m _) _ _ (y_Mod_in _ _ _ (n := 100) (by decide) ⟨_, rfl, ?_⟩))
    rw [ha, he, nI_add]
    exact ip (by decide) h
  by_cases l : vHr V + k ≤ 9999
  · refine ip (nI_le (b := 9999) l (by omega)) ⟨_, rfl, MI hM.2.2.2.2.2.1 (ip (nI_le (b := 9999) l (by omega)) ⟨_, rfl, rfl, hQ _ ?_⟩)⟩
    exact Rel_hd hr (zfr_k (zfr_sI (zfr_refl m) (by unfold hdP; omega) (by omega) _) (by unfold hdK; omega) _) (rH_hour hH' l) (Nat.le_refl _) rfl
  · exact iq (nI_ge (a := 9999) (by omega) (by omega)) ⟨_, rfl, MI hM.2.2.2.2.2.1 (iq (nI_ge (a := 9999) (by omega) (by omega)) ⟨_, rfl, rfl, h0⟩)⟩
def vRx (V : zV) (i x : Nat) : zV := (vN V, vK V, vV V, vT V, fun j => if j = i then x else vR V j, vD V, vHr V, vG V)
theorem rH_row {m : zM} {V : zV} (h : rHedge m V) {i x : Nat} (hi : i < 4 * vN V) (hx : x ≤ 9) : rHedge (sI (sI m 25 i (nI x)) 117 i (nI x)) (vRx V i x) := by
  obtain ⟨⟨⟨w1, w2, w3, w4⟩, x1, x2, x3, x4, x5, x6, x7⟩, ⟨_, y1, y2, y3, y4, y5, y6, y7⟩, hh, z1', z2⟩ := h
  have hw : vWf (vRx V i x) := ⟨w1, w2, fun j hj => by
    show (if j = i then x else vR V j) ≤ 9
    split
    · exact hx
    · exact w3 j hj, w4⟩
  have t : ∀ (f : Nat → Int32), (∀ j, j < 4 * vN V → f j = nI (vR V j)) → ∀ j, j < 4 * vN V → (if j = i then nI x else f j) = nI (vR (vRx V i x) j) := fun f hf j hj => by
    show _ = nI (if j = i then x else vR V j)
    by_cases e : j = i
    · rw [if_pos e, if_pos e]
    · rw [if_neg e, if_neg e, hf j hj]
  have s1 : zsm (fun q => q = 25 ∨ q = 117) m (sI (sI m 25 i (nI x)) 117 i (nI x)) := zsm_sI (zsm_sI (zsm_refl m) (Or.inl rfl) _) (Or.inr rfl) _
  refine ⟨⟨hw, x1, x2, fun j hj => ?_, x4, x5, x6, fun g G e => gX_sm (x7 g G e) s1 (fun q a b z => by have := (hw.2.2.2.2.2 g G e).1; omega)⟩, ⟨hw, y1, y2, fun j hj => ?_, y4, y5, y6, fun g G e => gMo_sm (y7 g G e) s1 (fun q a b z => by omega)⟩, hh, z1', fun j hj h8 => ?_⟩
  · rw [← t _ x3 j hj]
    show gI (sI m 25 i (nI x)) 25 j = _
    rw [gI_sI]
    by_cases e : j = i
    · rw [if_pos ⟨rfl, e⟩, if_pos e]
    · rw [if_neg (fun z => e z.2), if_neg e]
  · rw [← t _ y3 j hj]
    rw [gI_sI]
    by_cases e : j = i
    · rw [if_pos ⟨rfl, e⟩, if_pos e]
    · rw [if_neg (fun z => e z.2), if_neg e]
      rfl
  · show gI (sI m 25 i (nI x)) 25 j = 0
    have hj : 4 * vN V ≤ j := hj
    rw [gI_sI, if_neg (fun z => by omega)]
    exact z2 j hj h8
theorem ok_row {m : zM} (hR : Rel m) (a b c : Int32) : okI m_Box_row m_Mod_row [.int a, .int b, .int c] m := by
  intro Q hQ
  have h0 := hQ m hR
  obtain ⟨V, hH, hr⟩ := Rel_o hR
  have hH' := hH
  obtain ⟨hX, hM, hh, hz1, hz2⟩ := hH
  have h8 := hX.1.1
  have MP := fun (x : Int32) {Q} (h : Q (some (.int (zb (zr x (vN V))))) m) => y_Mod_isPlant (Q := Q) 47 x hM.2.1 (by omega) h
  have M1 : zr b 4 = false → zr a (vN V) = true → zCall 50 m_Mod_row [.ref 113, .int a, .int b, .int c] m (fun o2 m2 => ∃ y, o2 = some (.int y) ∧ ((-1 : Int32) = y ∧ Q m2)) := fun hb ha => by
    refine en_Mod_row 49 _ _ _ m (sg_Mod_row_0 (zCall_m _) _ _ _ m (MP a ⟨_, rfl, ?_⟩))
    rw [ha]
    refine iq (by decide) (y_Mod_in _ b _ (n := 4) (by decide) ⟨_, rfl, ?_⟩)
    rw [hb]; exact iq (fun z => z rfl) ⟨_, rfl, rfl, h0⟩
  have M2 : zr c 10 = false → zr b 4 = true → zr a (vN V) = true → zCall 50 m_Mod_row [.ref 113, .int a, .int b, .int c] m (fun o2 m2 => ∃ y, o2 = some (.int y) ∧ ((-2 : Int32) = y ∧ Q m2)) := fun hc hb ha => by
    refine en_Mod_row 49 _ _ _ m (sg_Mod_row_0 (zCall_m _) _ _ _ m (MP a ⟨_, rfl, ?_⟩))
    rw [ha]
    refine iq (by decide) (y_Mod_in _ b _ (n := 4) (by decide) ⟨_, rfl, ?_⟩)
    rw [hb]
    refine ip (by decide) (y_Mod_in _ c _ (n := 10) (by decide) ⟨_, rfl, ?_⟩)
    rw [hc]; exact iq (fun z => z rfl) ⟨_, rfl, rfl, h0⟩
  have hlt : ∀ {x : Int32} {A B D : Prop}, (zr x 4 = false → A) → (zr x 4 = true → D) → if x < 0 then A else if x < 4 then D else A := fun {x A B D} hf ht => by
    by_cases h1 : x < 0
    · exact ip h1 (hf (zr_lo h1))
    · refine iq h1 ?_
      by_cases h2 : x < 4
      · exact ip h2 (ht (zr_in (n := 4) (c := 4) (by decide) h1 (fun z => by rw [Int32.le_iff_toInt_le] at z; rw [Int32.lt_iff_toInt_lt] at h2; omega)))
      · exact iq h2 (hf (zr_hi (n := 4) (c := 4) (by decide) (by rw [Int32.le_iff_toInt_le]; rw [Int32.lt_iff_toInt_lt] at h2; omega)))
  refine en_Box_row 49 _ _ _ m (sg_Box_row_0 (zCall_m _) _ _ _ m (y_Hedge_has _ a hX.2.1 (by omega) ⟨_, rfl, zb_c (fun ha => ?_) (fun ha => hlt (B := True) (fun hb => ⟨_, rfl, M1 hb ha⟩) (fun hb => zr_d (n := 10) (by decide) (fun hc => ⟨_, rfl, M2 hc hb ha⟩) (fun hc => ⟨_, rfl, M2 hc hb ha⟩) (fun hc => ?_)))⟩))
  · refine ⟨_, rfl, en_Mod_row 49 _ _ _ m (sg_Mod_row_0 (zCall_m _) _ _ _ m (MP a ⟨_, rfl, ?_⟩))⟩
    rw [ha]; exact ip rfl ⟨_, rfl, rfl, h0⟩
  · have ha' := ha
    have hb' := hb
    have hc' := hc
    obtain ⟨a1, a2⟩ := zr_k ha
    obtain ⟨b1, b2⟩ := zr_k hb
    obtain ⟨c1, c2⟩ := zr_k hc
    generalize a.toNatClampNeg = p at a1 a2
    generalize b.toNatClampNeg = i at b1 b2
    generalize c.toNatClampNeg = x at c1 c2
    subst a2 b2 c2
    have hin : vp_in (nI p) 8 := vp_in_nI (by omega) (by omega)
    have k22 : gI m 22 p = nI (vK V p) := (hX.2.2.1 p a1).1
    have i1 : nI p * 4 + nI i = nI (4 * p + i) := by rw [show (4 : Int32) = nI 4 from rfl, pk_mul, nI_add, Nat.mul_comm]
    have i2 : 4 * nI p + nI i = nI (4 * p + i) := by rw [show (4 : Int32) = nI 4 from rfl, pk_mul, nI_add]
    have hi : vp_in (nI (4 * p + i)) 32 := vp_in_nI (by omega) (by omega)
    have hic : (nI (4 * p + i)).toNatClampNeg = 4 * p + i := nI_clamp (by omega)
    have hk7 := (hX.1.2.1 p a1).1
    have MK : ∀ {m' : zM} {Q' : zQ}, vM m' V → (@ite Prop (nI (vK V p) = 6) inferInstance (Q' (some (.int (nI (vR V (4 * p + i))))) (sI m' 117 (4 * p + i) (nI x))) (Q' (some (.int (-3))) m')) → zCall 50 m_Mod_row [.ref 113, .int (nI p), .int (nI i), .int (nI x)] m' Q' := fun {m' Q'} hM' h => by
      refine en_Mod_row 49 _ _ _ _ (sg_Mod_row_0 (zCall_m _) _ _ _ _ (y_Mod_isPlant _ _ hM'.2.1 (by omega) ⟨_, rfl, ?_⟩))
      rw [ha']
      refine iq (by decide) (y_Mod_in _ _ _ (n := 4) (by decide) ⟨_, rfl, ?_⟩)
      rw [hb']
      refine ip (by decide) (y_Mod_in _ _ _ (n := 10) (by decide) ⟨_, rfl, ?_⟩)
      rw [hc']
      refine ip (by decide) ⟨hin, ?_⟩
      rw [nI_clamp (by omega), (hM'.2.2.1 p a1).1, i2, hic, hM'.2.2.2.1 (4 * p + i) (by omega)]
      by_cases e : nI (vK V p) = 6
      · rw [if_pos e] at h; exact ip e ⟨hi, hi, h⟩
      · rw [if_neg e] at h; exact iq e h
    refine ⟨hin, ?_⟩
    have r25 : gI m 25 (4 * p + i) = nI (vR V (4 * p + i)) := hX.2.2.2.1 _ (by omega)
    try rw [nI_clamp (by omega)]
    rw [k22, i1, hic, r25]
    by_cases e : nI (vK V p) = 6
    · refine ip e ⟨hi, hi, _, rfl, MK (vM_sm hM (zsm_sI (P := fun q => q = 25) (zsm_refl m) (show (25 : Nat) = 25 from rfl) _) (fun q a b z => by omega)) (ip e ⟨_, rfl, rfl, hQ _ ?_⟩)⟩
      exact Rel_hd hr (zfr_sI (zfr_sI (zfr_refl m) (by unfold hdP; omega) (by omega) _) (by unfold hdP; omega) (by omega) _) (rH_row hH' (i := 4 * p + i) (x := x) (by omega) (by omega)) (Nat.le_refl _) rfl
    · exact iq e ⟨_, rfl, MK hM (iq e ⟨_, rfl, rfl, h0⟩)⟩
